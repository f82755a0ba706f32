def qm_rp (pl : Nat → Nat) (b i : Nat) : Nat → Nat := match i with
  | 0 => pl
  | i + 1 => va_up (qm_rp pl b i) (b + i) 0
def qm_ru (pl : Nat → Nat) (us : Nat → Bool) (b i : Nat) : Nat → Bool := match i with
  | 0 => us
  | i + 1 => qm_cl (qm_rp pl b i) (qm_ru pl us b i) (b + i)
theorem qm_up_le {pl : Nat → Nat} (h : ∀ k, pl k ≤ 600) {u x : Nat} (hx : x ≤ 600) : ∀ k, va_up pl u x k ≤ 600 := fun k => by
  unfold va_up
  split
  · exact hx
  · exact h k
theorem qm_rp_le {pl : Nat → Nat} (h : ∀ k, pl k ≤ 600) {b i : Nat} : ∀ k, qm_rp pl b i k ≤ 600 := by
  induction i with
  | zero => exact h
  | succ i ih => exact qm_up_le ih (by omega)
set_option maxHeartbeats 4000000 in
set_option maxRecDepth 100000 in
theorem c_Mo_remove_ok (l : Launch) (D : va_G) (cZ : ClassId) (cI : ClassId) (cB : ClassId) (mo : Nat) (r1 : Nat) (r2 : Nat) (r3 : Nat) (r4 : Nat) (r5 : Nat) (r6 : Nat) (th : Nat → Bool) (pl : Nat → Nat) (mk : Nat → Int32) (nt : Nat → Int32) (bt : Nat → Int32) (us : Nat → Bool) (md : Int32) (ck : Int32) (v : Nat) (kv : v < 16) (kt : th v = true) (kpl : ∀ k, pl k ≤ 600) : qMi l y_Mo_remove b_Mo_remove 4 (some .int) (rmL 2) D [(cZ, .boolean), (cI, .int), (cB, .byte)] [.ref mo, .int (nI v)] [(mo, .inr (5, [.ref r1, .ref r2, .ref r3, .ref r4, .ref r5, .ref r6, .int (md), .int (ck), .int (nI 0)])), (r1, .inl (cZ, 32, .inl (qm_T th))), (r2, .inl (cI, 4096, .inl (qm_P pl))), (r3, .inl (cI, 4096, .inl (mk))), (r4, .inl (cI, 64, .inl (nt))), (r5, .inl (cB, 76800, .inl (bt))), (r6, .inl (cZ, 600, .inl (qm_T us)))] [(mo, .inr (5, [.ref r1, .ref r2, .ref r3, .ref r4, .ref r5, .ref r6, .int (md), .int (ck), .int (nI 0)])), (r1, .inl (cZ, 32, .inl (qm_T (va_up th v false)))), (r2, .inl (cI, 4096, .inl (qm_P (qm_rp pl (128 * v) (128))))), (r3, .inl (cI, 4096, .inl (mk))), (r4, .inl (cI, 64, .inl (nt))), (r5, .inl (cB, 76800, .inl (bt))), (r6, .inl (cZ, 600, .inl (qm_T (qm_ru pl us (128 * v) (128)))))] (nI (qm_ct pl (128 * v) (128))) := by
  refine q_start (Qc := qZi D _ _ _) (by decide +kernel) (Nat.le_of_ble_eq_true rfl) ?_
  intro p e s m below meth c A hx hb hr hlk hml hown hts hK hP hD hS hA hN ls hl
  have hl : lv_has ls 4 [(0, .ref mo), (1, .int (nI v))] := hl
  have hP : va_P D cls [(mo, .inr (5, [.ref r1, .ref r2, .ref r3, .ref r4, .ref r5, .ref r6, .int (md), .int (ck), .int (nI 0)])), (r1, .inl (cZ, 32, .inl (qm_T th))), (r2, .inl (cI, 4096, .inl (qm_P pl))), (r3, .inl (cI, 4096, .inl (mk))), (r4, .inl (cI, 64, .inl (nt))), (r5, .inl (cB, 76800, .inl (bt))), (r6, .inl (cZ, 600, .inl (qm_T us)))] s.heap := hP
  have hD : va_D A [(mo, .inr (5, [.ref r1, .ref r2, .ref r3, .ref r4, .ref r5, .ref r6, .int (md), .int (ck), .int (nI 0)])), (r1, .inl (cZ, 32, .inl (qm_T th))), (r2, .inl (cI, 4096, .inl (qm_P pl))), (r3, .inl (cI, 4096, .inl (mk))), (r4, .inl (cI, 64, .inl (nt))), (r5, .inl (cB, 76800, .inl (bt))), (r6, .inl (cZ, 600, .inl (qm_T us)))] := hD
  refine lv_aload_n hx hb d_Mo_remove_0 rfl (lv_at hl 0 rfl) ?_
  refine va_get (D := D) (ci := 5) (v := .int (nI 0)) (C := R_Mo) (T := F_Mo) (N := 9) hx hb hts i_Mo hown hK hP 0 rfl rfl 8 (by decide) (hts _ fl_Mo_38) (fun _ h9 => h9) rfl d_Mo_remove_1 ?_
  refine lv_if_eq (tgt := 10) hx hb d_Mo_remove_4 (by decide) (fun c4 => ?_) (fun c4 => ?_)
  · have c4 : 0 = 0 := (q_z_eq (by omega)).mp c4
    refine lv_aload_n hx hb d_Mo_remove_10 rfl (lv_at hl 0 rfl) ?_
    refine lv_iload_n hx hb d_Mo_remove_11 rfl (lv_at hl 1 rfl) ?_
    refine q_callVi (As := [.int (nI v)]) (rest := []) (wsC := [(mo, .inr (5, [.ref r1, .ref r2, .ref r3, .ref r4, .ref r5, .ref r6, .int (md), .int (ck), .int (nI 0)])), (r1, .inl (cZ, 32, .inl (qm_T th))), (r2, .inl (cI, 4096, .inl (qm_P pl))), (r3, .inl (cI, 4096, .inl (mk))), (r4, .inl (cI, 64, .inl (nt))), (r5, .inl (cB, 76800, .inl (bt))), (r6, .inl (cZ, 600, .inl (qm_T us)))]) (wsR := []) (wsC' := [(mo, .inr (5, [.ref r1, .ref r2, .ref r3, .ref r4, .ref r5, .ref r6, .int (md), .int (ck), .int (nI 0)])), (r1, .inl (cZ, 32, .inl (qm_T th))), (r2, .inl (cI, 4096, .inl (qm_P pl))), (r3, .inl (cI, 4096, .inl (mk))), (r4, .inl (cI, 64, .inl (nt))), (r5, .inl (cB, 76800, .inl (bt))), (r6, .inl (cZ, 600, .inl (qm_T us)))]) (wsN := [(mo, .inr (5, [.ref r1, .ref r2, .ref r3, .ref r4, .ref r5, .ref r6, .int (md), .int (ck), .int (nI 0)])), (r1, .inl (cZ, 32, .inl (qm_T th))), (r2, .inl (cI, 4096, .inl (qm_P pl))), (r3, .inl (cI, 4096, .inl (mk))), (r4, .inl (cI, 64, .inl (nt))), (r5, .inl (cB, 76800, .inl (bt))), (r6, .inl (cZ, 600, .inl (qm_T us)))]) (isT := [0, 1, 2]) (isC := [0, 1, 2, 3, 4, 5, 6]) (isR := []) (isN := [0, 1, 2, 3, 4, 5, 6]) (k := 1) (ci := 5) (C := R_Mo) ⟨hx, hb, hml, hown, hts⟩ (c_Mo_isThereY l D cZ cI cB mo r1 r2 r3 r4 r5 r6 th pl mk nt bt us md ck v (by omega) kt) (tw_V ml_Mo_46 im_Mo_isThere se_Mo_isThere in_Mo cd_Mo_isThere) rfl ⟨by decide +kernel, Nat.le_of_ble_eq_true rfl, Nat.le_of_ble_eq_true rfl⟩ ⟨Nat.le_of_ble_eq_true rfl, Nat.le_of_ble_eq_true rfl⟩ hK hP hD hS hA hN rfl ⟨rfl, rfl, rfl, by decide, by decide, by decide, by decide⟩ rfl rfl rfl hl.1 rfl rfl (Nat.le_of_ble_eq_true rfl) d_Mo_remove_12 (fun H locs hP hD hS => ?_)
    refine lv_if_ne (tgt := 20) hx hb d_Mo_remove_15 (by decide) (fun c15 => ?_) (fun c15 => ?_)
    · have c15 : ¬ 1 = 0 := fun h9 => c15 ((q_z_eq (by omega)).mpr h9)
      refine lv_aload_n hx hb d_Mo_remove_20 rfl (lv_at hl 0 rfl) ?_
      refine lv_iload_n hx hb d_Mo_remove_21 rfl (lv_at hl 1 rfl) ?_
      refine q_callVi (As := [.int (nI v)]) (rest := []) (wsC := [(mo, .inr (5, [.ref r1, .ref r2, .ref r3, .ref r4, .ref r5, .ref r6, .int (md), .int (ck), .int (nI 0)])), (r1, .inl (cZ, 32, .inl (qm_T th))), (r2, .inl (cI, 4096, .inl (qm_P pl))), (r3, .inl (cI, 4096, .inl (mk))), (r4, .inl (cI, 64, .inl (nt))), (r5, .inl (cB, 76800, .inl (bt))), (r6, .inl (cZ, 600, .inl (qm_T us)))]) (wsR := []) (wsC' := [(mo, .inr (5, [.ref r1, .ref r2, .ref r3, .ref r4, .ref r5, .ref r6, .int (md), .int (ck), .int (nI 0)])), (r1, .inl (cZ, 32, .inl (qm_T th))), (r2, .inl (cI, 4096, .inl (qm_P pl))), (r3, .inl (cI, 4096, .inl (mk))), (r4, .inl (cI, 64, .inl (nt))), (r5, .inl (cB, 76800, .inl (bt))), (r6, .inl (cZ, 600, .inl (qm_T us)))]) (wsN := [(mo, .inr (5, [.ref r1, .ref r2, .ref r3, .ref r4, .ref r5, .ref r6, .int (md), .int (ck), .int (nI 0)])), (r1, .inl (cZ, 32, .inl (qm_T th))), (r2, .inl (cI, 4096, .inl (qm_P pl))), (r3, .inl (cI, 4096, .inl (mk))), (r4, .inl (cI, 64, .inl (nt))), (r5, .inl (cB, 76800, .inl (bt))), (r6, .inl (cZ, 600, .inl (qm_T us)))]) (isT := [0, 1, 2]) (isC := [0, 1, 2, 3, 4, 5, 6]) (isR := []) (isN := [0, 1, 2, 3, 4, 5, 6]) (k := 1) (ci := 5) (C := R_Mo) ⟨hx, hb, hml, hown, hts⟩ (c_Mo_many l D cZ cI cB mo r1 r2 r3 r4 r5 r6 th pl mk nt bt us md ck v (by omega) kpl) (tw_V ml_Mo_42 im_Mo_many se_Mo_many in_Mo cd_Mo_many) rfl ⟨by decide +kernel, Nat.le_of_ble_eq_true rfl, Nat.le_of_ble_eq_true rfl⟩ ⟨Nat.le_of_ble_eq_true rfl, Nat.le_of_ble_eq_true rfl⟩ hK hP hD hS hA hN rfl ⟨rfl, rfl, rfl, by decide, by decide, by decide, by decide⟩ rfl rfl rfl hl.1 rfl rfl (Nat.le_of_ble_eq_true rfl) d_Mo_remove_22 (fun H locs hP hD hS => ?_)
      have hq1 := qm_ct_le pl (128 * v) 128
      refine lv_istore_n (lv' := [(2, .int (nI (qm_ct pl (128 * v) (128)))), (0, .ref mo), (1, .int (nI v))]) hx hb d_Mo_remove_25 rfl hl (by decide) rfl (fun ls hl => ?_)
      refine lv_iconst (v := nI 0) hx hb d_Mo_remove_26 (by decide) ?_
      refine lv_istore_n (lv' := [(3, .int (nI 0)), (2, .int (nI (qm_ct pl (128 * v) (128)))), (0, .ref mo), (1, .int (nI v))]) hx hb d_Mo_remove_27 rfl hl (by decide) rfl (fun ls hl => ?_)
      refine q_loop (pc := 28) (σ := Unit) (I := fun i u9 H locs ls => va_P D cls [(mo, .inr (5, [.ref r1, .ref r2, .ref r3, .ref r4, .ref r5, .ref r6, .int (md), .int (ck), .int (nI 0)])), (r1, .inl (cZ, 32, .inl (qm_T th))), (r2, .inl (cI, 4096, .inl (qm_P (qm_rp pl (128 * v) (i))))), (r3, .inl (cI, 4096, .inl (mk))), (r4, .inl (cI, 64, .inl (nt))), (r5, .inl (cB, 76800, .inl (bt))), (r6, .inl (cZ, 600, .inl (qm_T (qm_ru pl us (128 * v) (i)))))] H ∧ va_D A [(mo, .inr (5, [.ref r1, .ref r2, .ref r3, .ref r4, .ref r5, .ref r6, .int (md), .int (ck), .int (nI 0)])), (r1, .inl (cZ, 32, .inl (qm_T th))), (r2, .inl (cI, 4096, .inl (qm_P (qm_rp pl (128 * v) (i))))), (r3, .inl (cI, 4096, .inl (mk))), (r4, .inl (cI, 64, .inl (nt))), (r5, .inl (cB, 76800, .inl (bt))), (r6, .inl (cZ, 600, .inl (qm_T (qm_ru pl us (128 * v) (i)))))] ∧ va_S A s.heap H locs ∧ lv_has ls 4 [(0, .ref mo), (1, .int (nI v)), (2, .int (nI (qm_ct pl (128 * v) (128)))), (3, .int (nI i))]) (128) ?_ ?_ (0) (()) _ _ _ (by omega) ⟨hP, hD, hS, lv_sub hl [2, 3, 1, 0] rfl⟩
      · intro u9 H locs ls hI
        obtain ⟨hP, hD, hS, hl⟩ := hI
        refine lv_iload_n hx hb d_Mo_remove_28 rfl (lv_at hl 3 rfl) ?_
        refine lv_sipush (v := nI 128) hx hb d_Mo_remove_29 (by decide) ?_
        refine lv_icmp_ge (tgt := 52) hx hb d_Mo_remove_32 (by decide) (fun c32 => ?_) (fun c32 => ?_)
        · have c32 : 128 ≤ 128 := (nI_leI (by omega) (by omega)).mp c32
          refine lv_aload_n hx hb d_Mo_remove_52 rfl (lv_at hl 0 rfl) ?_
          refine va_get (D := D) (ci := 5) (v := .ref r1) (C := R_Mo) (T := F_Mo) (N := 9) hx hb hts i_Mo hown hK hP 0 rfl rfl 0 (by decide) (hts _ fl_Mo_7) (fun _ h9 => h9) rfl d_Mo_remove_53 ?_
          refine lv_iload_n hx hb d_Mo_remove_56 rfl (lv_at hl 1 rfl) ?_
          refine lv_iconst (v := nI 0) hx hb d_Mo_remove_57 (by decide) ?_
          refine va_zast hx hb hK hP hD hS 1 0 rfl rfl (vp_in_nI (by omega) (by decide)) d_Mo_remove_58 (fun H locs hP hD hS => ?_)
          rw [nI_clamp (by omega)] at hP hD
          have hP : va_P D cls [(mo, .inr (5, [.ref r1, .ref r2, .ref r3, .ref r4, .ref r5, .ref r6, .int (md), .int (ck), .int (nI 0)])), (r1, .inl (cZ, 32, .inl (upd (qm_T th) (v) (vp_nar .boolean (nI 0))))), (r2, .inl (cI, 4096, .inl (qm_P (qm_rp pl (128 * v) (128))))), (r3, .inl (cI, 4096, .inl (mk))), (r4, .inl (cI, 64, .inl (nt))), (r5, .inl (cB, 76800, .inl (bt))), (r6, .inl (cZ, 600, .inl (qm_T (qm_ru pl us (128 * v) (128)))))] H := hP
          have hD : va_D A [(mo, .inr (5, [.ref r1, .ref r2, .ref r3, .ref r4, .ref r5, .ref r6, .int (md), .int (ck), .int (nI 0)])), (r1, .inl (cZ, 32, .inl (upd (qm_T th) (v) (vp_nar .boolean (nI 0))))), (r2, .inl (cI, 4096, .inl (qm_P (qm_rp pl (128 * v) (128))))), (r3, .inl (cI, 4096, .inl (mk))), (r4, .inl (cI, 64, .inl (nt))), (r5, .inl (cB, 76800, .inl (bt))), (r6, .inl (cZ, 600, .inl (qm_T (qm_ru pl us (128 * v) (128)))))] := hD
          rw [qm_Tf] at hP hD
          have hP : va_P D cls [(mo, .inr (5, [.ref r1, .ref r2, .ref r3, .ref r4, .ref r5, .ref r6, .int (md), .int (ck), .int (nI 0)])), (r1, .inl (cZ, 32, .inl (qm_T (va_up th v false)))), (r2, .inl (cI, 4096, .inl (qm_P (qm_rp pl (128 * v) (128))))), (r3, .inl (cI, 4096, .inl (mk))), (r4, .inl (cI, 64, .inl (nt))), (r5, .inl (cB, 76800, .inl (bt))), (r6, .inl (cZ, 600, .inl (qm_T (qm_ru pl us (128 * v) (128)))))] H := hP
          have hD : va_D A [(mo, .inr (5, [.ref r1, .ref r2, .ref r3, .ref r4, .ref r5, .ref r6, .int (md), .int (ck), .int (nI 0)])), (r1, .inl (cZ, 32, .inl (qm_T (va_up th v false)))), (r2, .inl (cI, 4096, .inl (qm_P (qm_rp pl (128 * v) (128))))), (r3, .inl (cI, 4096, .inl (mk))), (r4, .inl (cI, 64, .inl (nt))), (r5, .inl (cB, 76800, .inl (bt))), (r6, .inl (cZ, 600, .inl (qm_T (qm_ru pl us (128 * v) (128)))))] := hD
          refine lv_iload_n hx hb d_Mo_remove_59 rfl (lv_at hl 2 rfl) ?_
          exact q_iret hx hb hr hlk hK hP hD hS d_Mo_remove_60 (rfl) (rfl)
        · have c32 : ¬ 128 ≤ 128 := fun h9 => c32 ((nI_leI (by omega) (by omega)).mpr h9)
          exfalso; omega
      · intro i u9 H locs ls hi hI ih
        obtain ⟨hP, hD, hS, hl⟩ := hI
        refine lv_iload_n hx hb d_Mo_remove_28 rfl (lv_at hl 3 rfl) ?_
        refine lv_sipush (v := nI 128) hx hb d_Mo_remove_29 (by decide) ?_
        refine lv_icmp_ge (tgt := 52) hx hb d_Mo_remove_32 (by decide) (fun c32 => ?_) (fun c32 => ?_)
        · have c32 : 128 ≤ i := (nI_leI (by omega) (by omega)).mp c32
          exfalso; omega
        · have c32 : ¬ 128 ≤ i := fun h9 => c32 ((nI_leI (by omega) (by omega)).mpr h9)
          refine lv_aload_n hx hb d_Mo_remove_35 rfl (lv_at hl 0 rfl) ?_
          refine lv_sipush (v := nI 128) hx hb d_Mo_remove_36 (by decide) ?_
          refine lv_iload_n hx hb d_Mo_remove_39 rfl (lv_at hl 1 rfl) ?_
          refine lv_imul hx hb d_Mo_remove_40 ?_
          refine q_ti (y := nI (128 * v)) (pk_mul _ _) ?_
          refine lv_iload_n hx hb d_Mo_remove_41 rfl (lv_at hl 3 rfl) ?_
          refine lv_iadd hx hb d_Mo_remove_42 ?_
          refine q_ti (y := nI (128 * v + i)) (nI_add _ _) ?_
          refine q_callVv (As := [.int (nI (128 * v + i))]) (rest := []) (wsC := [(mo, .inr (5, [.ref r1, .ref r2, .ref r3, .ref r4, .ref r5, .ref r6, .int (md), .int (ck), .int (nI 0)])), (r1, .inl (cZ, 32, .inl (qm_T th))), (r2, .inl (cI, 4096, .inl (qm_P (qm_rp pl (128 * v) (i))))), (r3, .inl (cI, 4096, .inl (mk))), (r4, .inl (cI, 64, .inl (nt))), (r5, .inl (cB, 76800, .inl (bt))), (r6, .inl (cZ, 600, .inl (qm_T (qm_ru pl us (128 * v) (i)))))]) (wsR := []) (wsC' := [(mo, .inr (5, [.ref r1, .ref r2, .ref r3, .ref r4, .ref r5, .ref r6, .int (md), .int (ck), .int (nI 0)])), (r1, .inl (cZ, 32, .inl (qm_T th))), (r2, .inl (cI, 4096, .inl (qm_P (va_up (qm_rp pl (128 * v) (i)) (128 * v + i) 0)))), (r3, .inl (cI, 4096, .inl (mk))), (r4, .inl (cI, 64, .inl (nt))), (r5, .inl (cB, 76800, .inl (bt))), (r6, .inl (cZ, 600, .inl (qm_T (qm_cl (qm_rp pl (128 * v) (i)) (qm_ru pl us (128 * v) (i)) (128 * v + i)))))]) (wsN := [(mo, .inr (5, [.ref r1, .ref r2, .ref r3, .ref r4, .ref r5, .ref r6, .int (md), .int (ck), .int (nI 0)])), (r1, .inl (cZ, 32, .inl (qm_T th))), (r2, .inl (cI, 4096, .inl (qm_P (va_up (qm_rp pl (128 * v) (i)) (128 * v + i) 0)))), (r3, .inl (cI, 4096, .inl (mk))), (r4, .inl (cI, 64, .inl (nt))), (r5, .inl (cB, 76800, .inl (bt))), (r6, .inl (cZ, 600, .inl (qm_T (qm_cl (qm_rp pl (128 * v) (i)) (qm_ru pl us (128 * v) (i)) (128 * v + i)))))]) (isT := [0, 1, 2]) (isC := [0, 1, 2, 3, 4, 5, 6]) (isR := []) (isN := [0, 1, 2, 3, 4, 5, 6]) (k := 1) (ci := 5) (C := R_Mo) ⟨hx, hb, hml, hown, hts⟩ (c_Mo_clear l D cZ cI cB mo r1 r2 r3 r4 r5 r6 th (qm_rp pl (128 * v) (i)) mk nt bt (qm_ru pl us (128 * v) (i)) md ck (128 * v + i) (by omega) (qm_rp_le kpl)) (tw_V ml_Mo_57 im_Mo_clear se_Mo_clear in_Mo cd_Mo_clear) rfl ⟨by decide +kernel, Nat.le_of_ble_eq_true rfl, Nat.le_of_ble_eq_true rfl⟩ ⟨Nat.le_of_ble_eq_true rfl, Nat.le_of_ble_eq_true rfl⟩ hK hP hD hS hA hN rfl ⟨rfl, rfl, rfl, by decide, by decide, by decide, by decide⟩ rfl rfl rfl hl.1 rfl rfl (Nat.le_of_ble_eq_true rfl) d_Mo_remove_43 (fun H locs hP hD hS => ?_)
          refine lv_iinc (v := nI (i + 1)) (lv' := [(3, .int (nI (i + 1))), (0, .ref mo), (1, .int (nI v)), (2, .int (nI (qm_ct pl (128 * v) (128))))]) hx hb d_Mo_remove_46 hl (k := 3) rfl (nI_1 _) (by decide) rfl (fun ls hl => ?_)
          refine lv_goto (tgt := 28) hx hb d_Mo_remove_49 (by decide) ?_
          exact ih (()) _ _ _ ⟨hP, hD, hS, lv_sub hl [1, 2, 3, 0] rfl⟩
    · have c15 : 1 = 0 := (q_z_eq (by omega)).mp c15
      exfalso; omega
  · have c4 : ¬ 0 = 0 := fun h9 => c4 ((q_z_eq (by omega)).mpr h9)
    exfalso; omega
set_option maxHeartbeats 4000000 in
set_option maxRecDepth 100000 in
theorem c_Mo_remove_bad (l : Launch) (D : va_G) (cZ : ClassId) (cI : ClassId) (cB : ClassId) (mo : Nat) (r1 : Nat) (r2 : Nat) (r3 : Nat) (r4 : Nat) (r5 : Nat) (r6 : Nat) (th : Nat → Bool) (pl : Nat → Nat) (mk : Nat → Int32) (nt : Nat → Int32) (bt : Nat → Int32) (us : Nat → Bool) (md : Int32) (ck : Int32) (v : Int32) (kb : ¬ qm_th th v) : qMi l y_Mo_remove b_Mo_remove 4 (some .int) (rmL 2) D [(cZ, .boolean), (cI, .int), (cB, .byte)] [.ref mo, .int (v)] [(mo, .inr (5, [.ref r1, .ref r2, .ref r3, .ref r4, .ref r5, .ref r6, .int (md), .int (ck), .int (nI 0)])), (r1, .inl (cZ, 32, .inl (qm_T th))), (r2, .inl (cI, 4096, .inl (qm_P pl))), (r3, .inl (cI, 4096, .inl (mk))), (r4, .inl (cI, 64, .inl (nt))), (r5, .inl (cB, 76800, .inl (bt))), (r6, .inl (cZ, 600, .inl (qm_T us)))] [(mo, .inr (5, [.ref r1, .ref r2, .ref r3, .ref r4, .ref r5, .ref r6, .int (md), .int (ck), .int (nI 0)])), (r1, .inl (cZ, 32, .inl (qm_T th))), (r2, .inl (cI, 4096, .inl (qm_P pl))), (r3, .inl (cI, 4096, .inl (mk))), (r4, .inl (cI, 64, .inl (nt))), (r5, .inl (cB, 76800, .inl (bt))), (r6, .inl (cZ, 600, .inl (qm_T us)))] ((-1 : Int32)) := by
  refine q_start (Qc := qZi D _ _ _) (by decide +kernel) (Nat.le_of_ble_eq_true rfl) ?_
  intro p e s m below meth c A hx hb hr hlk hml hown hts hK hP hD hS hA hN ls hl
  have hl : lv_has ls 4 [(0, .ref mo), (1, .int (v))] := hl
  have hP : va_P D cls [(mo, .inr (5, [.ref r1, .ref r2, .ref r3, .ref r4, .ref r5, .ref r6, .int (md), .int (ck), .int (nI 0)])), (r1, .inl (cZ, 32, .inl (qm_T th))), (r2, .inl (cI, 4096, .inl (qm_P pl))), (r3, .inl (cI, 4096, .inl (mk))), (r4, .inl (cI, 64, .inl (nt))), (r5, .inl (cB, 76800, .inl (bt))), (r6, .inl (cZ, 600, .inl (qm_T us)))] s.heap := hP
  have hD : va_D A [(mo, .inr (5, [.ref r1, .ref r2, .ref r3, .ref r4, .ref r5, .ref r6, .int (md), .int (ck), .int (nI 0)])), (r1, .inl (cZ, 32, .inl (qm_T th))), (r2, .inl (cI, 4096, .inl (qm_P pl))), (r3, .inl (cI, 4096, .inl (mk))), (r4, .inl (cI, 64, .inl (nt))), (r5, .inl (cB, 76800, .inl (bt))), (r6, .inl (cZ, 600, .inl (qm_T us)))] := hD
  refine lv_aload_n hx hb d_Mo_remove_0 rfl (lv_at hl 0 rfl) ?_
  refine va_get (D := D) (ci := 5) (v := .int (nI 0)) (C := R_Mo) (T := F_Mo) (N := 9) hx hb hts i_Mo hown hK hP 0 rfl rfl 8 (by decide) (hts _ fl_Mo_38) (fun _ h9 => h9) rfl d_Mo_remove_1 ?_
  refine lv_if_eq (tgt := 10) hx hb d_Mo_remove_4 (by decide) (fun c4 => ?_) (fun c4 => ?_)
  · have c4 : 0 = 0 := (q_z_eq (by omega)).mp c4
    refine lv_aload_n hx hb d_Mo_remove_10 rfl (lv_at hl 0 rfl) ?_
    refine lv_iload_n hx hb d_Mo_remove_11 rfl (lv_at hl 1 rfl) ?_
    refine q_callVi (As := [.int (v)]) (rest := []) (wsC := [(mo, .inr (5, [.ref r1, .ref r2, .ref r3, .ref r4, .ref r5, .ref r6, .int (md), .int (ck), .int (nI 0)])), (r1, .inl (cZ, 32, .inl (qm_T th))), (r2, .inl (cI, 4096, .inl (qm_P pl))), (r3, .inl (cI, 4096, .inl (mk))), (r4, .inl (cI, 64, .inl (nt))), (r5, .inl (cB, 76800, .inl (bt))), (r6, .inl (cZ, 600, .inl (qm_T us)))]) (wsR := []) (wsC' := [(mo, .inr (5, [.ref r1, .ref r2, .ref r3, .ref r4, .ref r5, .ref r6, .int (md), .int (ck), .int (nI 0)])), (r1, .inl (cZ, 32, .inl (qm_T th))), (r2, .inl (cI, 4096, .inl (qm_P pl))), (r3, .inl (cI, 4096, .inl (mk))), (r4, .inl (cI, 64, .inl (nt))), (r5, .inl (cB, 76800, .inl (bt))), (r6, .inl (cZ, 600, .inl (qm_T us)))]) (wsN := [(mo, .inr (5, [.ref r1, .ref r2, .ref r3, .ref r4, .ref r5, .ref r6, .int (md), .int (ck), .int (nI 0)])), (r1, .inl (cZ, 32, .inl (qm_T th))), (r2, .inl (cI, 4096, .inl (qm_P pl))), (r3, .inl (cI, 4096, .inl (mk))), (r4, .inl (cI, 64, .inl (nt))), (r5, .inl (cB, 76800, .inl (bt))), (r6, .inl (cZ, 600, .inl (qm_T us)))]) (isT := [0, 1, 2]) (isC := [0, 1, 2, 3, 4, 5, 6]) (isR := []) (isN := [0, 1, 2, 3, 4, 5, 6]) (k := 1) (ci := 5) (C := R_Mo) ⟨hx, hb, hml, hown, hts⟩ (c_Mo_isThere l D cZ cI cB mo r1 r2 r3 r4 r5 r6 th pl mk nt bt us md ck v) (tw_V ml_Mo_46 im_Mo_isThere se_Mo_isThere in_Mo cd_Mo_isThere) rfl ⟨by decide +kernel, Nat.le_of_ble_eq_true rfl, Nat.le_of_ble_eq_true rfl⟩ ⟨Nat.le_of_ble_eq_true rfl, Nat.le_of_ble_eq_true rfl⟩ hK hP hD hS hA hN rfl ⟨rfl, rfl, rfl, by decide, by decide, by decide, by decide⟩ rfl rfl rfl hl.1 rfl rfl (Nat.le_of_ble_eq_true rfl) d_Mo_remove_12 (fun H locs hP hD hS => ?_)
    refine lv_if_ne (tgt := 20) hx hb d_Mo_remove_15 (by decide) (fun c15 => ?_) (fun c15 => ?_)
    · exact absurd (qp_b_ne c15) kb
    · refine lv_iconst (v := (-1 : Int32)) hx hb d_Mo_remove_18 (by decide) ?_
      exact q_iret hx hb hr hlk hK hP hD hS d_Mo_remove_19 (rfl) (rfl)
  · have c4 : ¬ 0 = 0 := fun h9 => c4 ((q_z_eq (by omega)).mpr h9)
    exfalso; omega
set_option maxHeartbeats 4000000 in
set_option maxRecDepth 100000 in
theorem c_Mo_trim_ok (l : Launch) (D : va_G) (cZ : ClassId) (cI : ClassId) (cB : ClassId) (mo : Nat) (r1 : Nat) (r2 : Nat) (r3 : Nat) (r4 : Nat) (r5 : Nat) (r6 : Nat) (th : Nat → Bool) (pl : Nat → Nat) (mk : Nat → Int32) (nt : Nat → Int32) (bt : Nat → Int32) (us : Nat → Bool) (md : Int32) (ck : Int32) (v : Nat) (lo : Nat) (up : Nat) (kv : v < 16) (kup : up < 128) (klo : lo ≤ up) (kt : th v = true) (kpl : ∀ k, pl k ≤ 600) : qMi l y_Mo_trim b_Mo_trim 6 (some .int) (rmL 2) D [(cZ, .boolean), (cI, .int), (cB, .byte)] [.ref mo, .int (nI v), .int (nI lo), .int (nI up)] [(mo, .inr (5, [.ref r1, .ref r2, .ref r3, .ref r4, .ref r5, .ref r6, .int (md), .int (ck), .int (nI 0)])), (r1, .inl (cZ, 32, .inl (qm_T th))), (r2, .inl (cI, 4096, .inl (qm_P pl))), (r3, .inl (cI, 4096, .inl (mk))), (r4, .inl (cI, 64, .inl (nt))), (r5, .inl (cB, 76800, .inl (bt))), (r6, .inl (cZ, 600, .inl (qm_T us)))] [(mo, .inr (5, [.ref r1, .ref r2, .ref r3, .ref r4, .ref r5, .ref r6, .int (md), .int (ck), .int (nI 0)])), (r1, .inl (cZ, 32, .inl (qm_T th))), (r2, .inl (cI, 4096, .inl (qm_P (qm_rp pl (128 * v + lo) (up - lo + 1))))), (r3, .inl (cI, 4096, .inl (mk))), (r4, .inl (cI, 64, .inl (nt))), (r5, .inl (cB, 76800, .inl (bt))), (r6, .inl (cZ, 600, .inl (qm_T (qm_ru pl us (128 * v + lo) (up - lo + 1)))))] (nI (qm_ct pl (128 * v) (128)) - nI (qm_ct (qm_rp pl (128 * v + lo) (up - lo + 1)) (128 * v) 128)) := by
  refine q_start (Qc := qZi D _ _ _) (by decide +kernel) (Nat.le_of_ble_eq_true rfl) ?_
  intro p e s m below meth c A hx hb hr hlk hml hown hts hK hP hD hS hA hN ls hl
  have hl : lv_has ls 6 [(0, .ref mo), (1, .int (nI v)), (2, .int (nI lo)), (3, .int (nI up))] := hl
  have hP : va_P D cls [(mo, .inr (5, [.ref r1, .ref r2, .ref r3, .ref r4, .ref r5, .ref r6, .int (md), .int (ck), .int (nI 0)])), (r1, .inl (cZ, 32, .inl (qm_T th))), (r2, .inl (cI, 4096, .inl (qm_P pl))), (r3, .inl (cI, 4096, .inl (mk))), (r4, .inl (cI, 64, .inl (nt))), (r5, .inl (cB, 76800, .inl (bt))), (r6, .inl (cZ, 600, .inl (qm_T us)))] s.heap := hP
  have hD : va_D A [(mo, .inr (5, [.ref r1, .ref r2, .ref r3, .ref r4, .ref r5, .ref r6, .int (md), .int (ck), .int (nI 0)])), (r1, .inl (cZ, 32, .inl (qm_T th))), (r2, .inl (cI, 4096, .inl (qm_P pl))), (r3, .inl (cI, 4096, .inl (mk))), (r4, .inl (cI, 64, .inl (nt))), (r5, .inl (cB, 76800, .inl (bt))), (r6, .inl (cZ, 600, .inl (qm_T us)))] := hD
  refine lv_aload_n hx hb d_Mo_trim_0 rfl (lv_at hl 0 rfl) ?_
  refine va_get (D := D) (ci := 5) (v := .int (nI 0)) (C := R_Mo) (T := F_Mo) (N := 9) hx hb hts i_Mo hown hK hP 0 rfl rfl 8 (by decide) (hts _ fl_Mo_38) (fun _ h9 => h9) rfl d_Mo_trim_1 ?_
  refine lv_if_eq (tgt := 10) hx hb d_Mo_trim_4 (by decide) (fun c4 => ?_) (fun c4 => ?_)
  · have c4 : 0 = 0 := (q_z_eq (by omega)).mp c4
    refine lv_aload_n hx hb d_Mo_trim_10 rfl (lv_at hl 0 rfl) ?_
    refine lv_iload_n hx hb d_Mo_trim_11 rfl (lv_at hl 1 rfl) ?_
    refine q_callVi (As := [.int (nI v)]) (rest := []) (wsC := [(mo, .inr (5, [.ref r1, .ref r2, .ref r3, .ref r4, .ref r5, .ref r6, .int (md), .int (ck), .int (nI 0)])), (r1, .inl (cZ, 32, .inl (qm_T th))), (r2, .inl (cI, 4096, .inl (qm_P pl))), (r3, .inl (cI, 4096, .inl (mk))), (r4, .inl (cI, 64, .inl (nt))), (r5, .inl (cB, 76800, .inl (bt))), (r6, .inl (cZ, 600, .inl (qm_T us)))]) (wsR := []) (wsC' := [(mo, .inr (5, [.ref r1, .ref r2, .ref r3, .ref r4, .ref r5, .ref r6, .int (md), .int (ck), .int (nI 0)])), (r1, .inl (cZ, 32, .inl (qm_T th))), (r2, .inl (cI, 4096, .inl (qm_P pl))), (r3, .inl (cI, 4096, .inl (mk))), (r4, .inl (cI, 64, .inl (nt))), (r5, .inl (cB, 76800, .inl (bt))), (r6, .inl (cZ, 600, .inl (qm_T us)))]) (wsN := [(mo, .inr (5, [.ref r1, .ref r2, .ref r3, .ref r4, .ref r5, .ref r6, .int (md), .int (ck), .int (nI 0)])), (r1, .inl (cZ, 32, .inl (qm_T th))), (r2, .inl (cI, 4096, .inl (qm_P pl))), (r3, .inl (cI, 4096, .inl (mk))), (r4, .inl (cI, 64, .inl (nt))), (r5, .inl (cB, 76800, .inl (bt))), (r6, .inl (cZ, 600, .inl (qm_T us)))]) (isT := [0, 1, 2]) (isC := [0, 1, 2, 3, 4, 5, 6]) (isR := []) (isN := [0, 1, 2, 3, 4, 5, 6]) (k := 1) (ci := 5) (C := R_Mo) ⟨hx, hb, hml, hown, hts⟩ (c_Mo_isThereY l D cZ cI cB mo r1 r2 r3 r4 r5 r6 th pl mk nt bt us md ck v (by omega) kt) (tw_V ml_Mo_46 im_Mo_isThere se_Mo_isThere in_Mo cd_Mo_isThere) rfl ⟨by decide +kernel, Nat.le_of_ble_eq_true rfl, Nat.le_of_ble_eq_true rfl⟩ ⟨Nat.le_of_ble_eq_true rfl, Nat.le_of_ble_eq_true rfl⟩ hK hP hD hS hA hN rfl ⟨rfl, rfl, rfl, by decide, by decide, by decide, by decide⟩ rfl rfl rfl hl.1 rfl rfl (Nat.le_of_ble_eq_true rfl) d_Mo_trim_12 (fun H locs hP hD hS => ?_)
    refine lv_if_eq (tgt := 37) hx hb d_Mo_trim_15 (by decide) (fun c15 => ?_) (fun c15 => ?_)
    · have c15 : 1 = 0 := (q_z_eq (by omega)).mp c15
      exfalso; omega
    · have c15 : ¬ 1 = 0 := fun h9 => c15 ((q_z_eq (by omega)).mpr h9)
      refine lv_iload_n hx hb d_Mo_trim_18 rfl (lv_at hl 2 rfl) ?_
      refine q_callSi (As := [.int (nI lo)]) (rest := []) (wsC := []) (wsR := [(mo, .inr (5, [.ref r1, .ref r2, .ref r3, .ref r4, .ref r5, .ref r6, .int (md), .int (ck), .int (nI 0)])), (r1, .inl (cZ, 32, .inl (qm_T th))), (r2, .inl (cI, 4096, .inl (qm_P pl))), (r3, .inl (cI, 4096, .inl (mk))), (r4, .inl (cI, 64, .inl (nt))), (r5, .inl (cB, 76800, .inl (bt))), (r6, .inl (cZ, 600, .inl (qm_T us)))]) (wsC' := []) (wsN := [(mo, .inr (5, [.ref r1, .ref r2, .ref r3, .ref r4, .ref r5, .ref r6, .int (md), .int (ck), .int (nI 0)])), (r1, .inl (cZ, 32, .inl (qm_T th))), (r2, .inl (cI, 4096, .inl (qm_P pl))), (r3, .inl (cI, 4096, .inl (mk))), (r4, .inl (cI, 64, .inl (nt))), (r5, .inl (cB, 76800, .inl (bt))), (r6, .inl (cZ, 600, .inl (qm_T us)))]) (isT := []) (isC := []) (isR := [0, 1, 2, 3, 4, 5, 6]) (isN := [0, 1, 2, 3, 4, 5, 6]) (k := 1) ⟨hx, hb, hml, hown, hts⟩ (c_Mo_isPieceY l D lo (by omega)) (tw_S ml_Mo_61 st_Mo_isPiece in_Mo cd_Mo_isPiece) ⟨by decide +kernel, Nat.le_of_ble_eq_true rfl, Nat.le_of_ble_eq_true rfl⟩ ⟨Nat.le_of_ble_eq_true rfl, Nat.le_of_ble_eq_true rfl⟩ hK hP hD hS hA hN rfl ⟨rfl, rfl, rfl, by decide, by decide, by decide, by decide⟩ hl.1 rfl rfl (Nat.le_of_ble_eq_true rfl) d_Mo_trim_19 (fun H locs hP hD hS => ?_)
      refine lv_if_eq (tgt := 37) hx hb d_Mo_trim_22 (by decide) (fun c22 => ?_) (fun c22 => ?_)
      · have c22 : 1 = 0 := (q_z_eq (by omega)).mp c22
        exfalso; omega
      · have c22 : ¬ 1 = 0 := fun h9 => c22 ((q_z_eq (by omega)).mpr h9)
        refine lv_iload_n hx hb d_Mo_trim_25 rfl (lv_at hl 3 rfl) ?_
        refine q_callSi (As := [.int (nI up)]) (rest := []) (wsC := []) (wsR := [(mo, .inr (5, [.ref r1, .ref r2, .ref r3, .ref r4, .ref r5, .ref r6, .int (md), .int (ck), .int (nI 0)])), (r1, .inl (cZ, 32, .inl (qm_T th))), (r2, .inl (cI, 4096, .inl (qm_P pl))), (r3, .inl (cI, 4096, .inl (mk))), (r4, .inl (cI, 64, .inl (nt))), (r5, .inl (cB, 76800, .inl (bt))), (r6, .inl (cZ, 600, .inl (qm_T us)))]) (wsC' := []) (wsN := [(mo, .inr (5, [.ref r1, .ref r2, .ref r3, .ref r4, .ref r5, .ref r6, .int (md), .int (ck), .int (nI 0)])), (r1, .inl (cZ, 32, .inl (qm_T th))), (r2, .inl (cI, 4096, .inl (qm_P pl))), (r3, .inl (cI, 4096, .inl (mk))), (r4, .inl (cI, 64, .inl (nt))), (r5, .inl (cB, 76800, .inl (bt))), (r6, .inl (cZ, 600, .inl (qm_T us)))]) (isT := []) (isC := []) (isR := [0, 1, 2, 3, 4, 5, 6]) (isN := [0, 1, 2, 3, 4, 5, 6]) (k := 1) ⟨hx, hb, hml, hown, hts⟩ (c_Mo_isPieceY l D up (by omega)) (tw_S ml_Mo_61 st_Mo_isPiece in_Mo cd_Mo_isPiece) ⟨by decide +kernel, Nat.le_of_ble_eq_true rfl, Nat.le_of_ble_eq_true rfl⟩ ⟨Nat.le_of_ble_eq_true rfl, Nat.le_of_ble_eq_true rfl⟩ hK hP hD hS hA hN rfl ⟨rfl, rfl, rfl, by decide, by decide, by decide, by decide⟩ hl.1 rfl rfl (Nat.le_of_ble_eq_true rfl) d_Mo_trim_26 (fun H locs hP hD hS => ?_)
        refine lv_if_eq (tgt := 37) hx hb d_Mo_trim_29 (by decide) (fun c29 => ?_) (fun c29 => ?_)
        · have c29 : 1 = 0 := (q_z_eq (by omega)).mp c29
          exfalso; omega
        · have c29 : ¬ 1 = 0 := fun h9 => c29 ((q_z_eq (by omega)).mpr h9)
          refine lv_iload_n hx hb d_Mo_trim_32 rfl (lv_at hl 3 rfl) ?_
          refine lv_iload_n hx hb d_Mo_trim_33 rfl (lv_at hl 2 rfl) ?_
          refine lv_icmp_ge (tgt := 39) hx hb d_Mo_trim_34 (by decide) (fun c34 => ?_) (fun c34 => ?_)
          · have c34 : lo ≤ up := (nI_leI (by omega) (by omega)).mp c34
            refine lv_aload_n hx hb d_Mo_trim_39 rfl (lv_at hl 0 rfl) ?_
            refine lv_iload_n hx hb d_Mo_trim_40 rfl (lv_at hl 1 rfl) ?_
            refine q_callVi (As := [.int (nI v)]) (rest := []) (wsC := [(mo, .inr (5, [.ref r1, .ref r2, .ref r3, .ref r4, .ref r5, .ref r6, .int (md), .int (ck), .int (nI 0)])), (r1, .inl (cZ, 32, .inl (qm_T th))), (r2, .inl (cI, 4096, .inl (qm_P pl))), (r3, .inl (cI, 4096, .inl (mk))), (r4, .inl (cI, 64, .inl (nt))), (r5, .inl (cB, 76800, .inl (bt))), (r6, .inl (cZ, 600, .inl (qm_T us)))]) (wsR := []) (wsC' := [(mo, .inr (5, [.ref r1, .ref r2, .ref r3, .ref r4, .ref r5, .ref r6, .int (md), .int (ck), .int (nI 0)])), (r1, .inl (cZ, 32, .inl (qm_T th))), (r2, .inl (cI, 4096, .inl (qm_P pl))), (r3, .inl (cI, 4096, .inl (mk))), (r4, .inl (cI, 64, .inl (nt))), (r5, .inl (cB, 76800, .inl (bt))), (r6, .inl (cZ, 600, .inl (qm_T us)))]) (wsN := [(mo, .inr (5, [.ref r1, .ref r2, .ref r3, .ref r4, .ref r5, .ref r6, .int (md), .int (ck), .int (nI 0)])), (r1, .inl (cZ, 32, .inl (qm_T th))), (r2, .inl (cI, 4096, .inl (qm_P pl))), (r3, .inl (cI, 4096, .inl (mk))), (r4, .inl (cI, 64, .inl (nt))), (r5, .inl (cB, 76800, .inl (bt))), (r6, .inl (cZ, 600, .inl (qm_T us)))]) (isT := [0, 1, 2]) (isC := [0, 1, 2, 3, 4, 5, 6]) (isR := []) (isN := [0, 1, 2, 3, 4, 5, 6]) (k := 1) (ci := 5) (C := R_Mo) ⟨hx, hb, hml, hown, hts⟩ (c_Mo_many l D cZ cI cB mo r1 r2 r3 r4 r5 r6 th pl mk nt bt us md ck v (by omega) kpl) (tw_V ml_Mo_42 im_Mo_many se_Mo_many in_Mo cd_Mo_many) rfl ⟨by decide +kernel, Nat.le_of_ble_eq_true rfl, Nat.le_of_ble_eq_true rfl⟩ ⟨Nat.le_of_ble_eq_true rfl, Nat.le_of_ble_eq_true rfl⟩ hK hP hD hS hA hN rfl ⟨rfl, rfl, rfl, by decide, by decide, by decide, by decide⟩ rfl rfl rfl hl.1 rfl rfl (Nat.le_of_ble_eq_true rfl) d_Mo_trim_41 (fun H locs hP hD hS => ?_)
            have hq1 := qm_ct_le pl (128 * v) 128
            refine lv_istore (lv' := [(4, .int (nI (qm_ct pl (128 * v) (128)))), (0, .ref mo), (1, .int (nI v)), (2, .int (nI lo)), (3, .int (nI up))]) hx hb d_Mo_trim_44 hl (by decide) rfl (fun ls hl => ?_)
            refine lv_iload_n hx hb d_Mo_trim_46 rfl (lv_at hl 3 rfl) ?_
            refine lv_istore (lv' := [(5, .int (nI lo)), (4, .int (nI (qm_ct pl (128 * v) (128)))), (0, .ref mo), (1, .int (nI v)), (2, .int (nI lo)), (3, .int (nI up))]) hx hb d_Mo_trim_47 hl (by decide) rfl (fun ls hl => ?_)
            refine q_loop (pc := 49) (σ := Unit) (I := fun i u9 H locs ls => va_P D cls [(mo, .inr (5, [.ref r1, .ref r2, .ref r3, .ref r4, .ref r5, .ref r6, .int (md), .int (ck), .int (nI 0)])), (r1, .inl (cZ, 32, .inl (qm_T th))), (r2, .inl (cI, 4096, .inl (qm_P (qm_rp pl (128 * v + lo) (i))))), (r3, .inl (cI, 4096, .inl (mk))), (r4, .inl (cI, 64, .inl (nt))), (r5, .inl (cB, 76800, .inl (bt))), (r6, .inl (cZ, 600, .inl (qm_T (qm_ru pl us (128 * v + lo) (i)))))] H ∧ va_D A [(mo, .inr (5, [.ref r1, .ref r2, .ref r3, .ref r4, .ref r5, .ref r6, .int (md), .int (ck), .int (nI 0)])), (r1, .inl (cZ, 32, .inl (qm_T th))), (r2, .inl (cI, 4096, .inl (qm_P (qm_rp pl (128 * v + lo) (i))))), (r3, .inl (cI, 4096, .inl (mk))), (r4, .inl (cI, 64, .inl (nt))), (r5, .inl (cB, 76800, .inl (bt))), (r6, .inl (cZ, 600, .inl (qm_T (qm_ru pl us (128 * v + lo) (i)))))] ∧ va_S A s.heap H locs ∧ lv_has ls 6 [(0, .ref mo), (1, .int (nI v)), (3, .int (nI up)), (4, .int (nI (qm_ct pl (128 * v) (128)))), (5, .int (nI (lo + i)))]) (up - lo + 1) ?_ ?_ (0) (()) _ _ _ (by omega) ⟨hP, hD, hS, lv_sub hl [2, 3, 5, 1, 0] rfl⟩
            · intro u9 H locs ls hI
              obtain ⟨hP, hD, hS, hl⟩ := hI
              refine lv_iload hx hb d_Mo_trim_49 (lv_at hl 4 rfl) ?_
              refine lv_iload_n hx hb d_Mo_trim_51 rfl (lv_at hl 2 rfl) ?_
              refine lv_icmp_gt (tgt := 73) hx hb d_Mo_trim_52 (by decide) (fun c52 => ?_) (fun c52 => ?_)
              · have c52 : up < (lo + (up - lo + 1)) := (nI_ltI (by omega) (by omega)).mp c52
                refine lv_iload hx hb d_Mo_trim_73 (lv_at hl 3 rfl) ?_
                refine lv_aload_n hx hb d_Mo_trim_75 rfl (lv_at hl 0 rfl) ?_
                refine lv_iload_n hx hb d_Mo_trim_76 rfl (lv_at hl 1 rfl) ?_
                refine q_callVi (As := [.int (nI v)]) (rest := [.int (nI (qm_ct pl (128 * v) (128)))]) (wsC := [(mo, .inr (5, [.ref r1, .ref r2, .ref r3, .ref r4, .ref r5, .ref r6, .int (md), .int (ck), .int (nI 0)])), (r1, .inl (cZ, 32, .inl (qm_T th))), (r2, .inl (cI, 4096, .inl (qm_P (qm_rp pl (128 * v + lo) (up - lo + 1))))), (r3, .inl (cI, 4096, .inl (mk))), (r4, .inl (cI, 64, .inl (nt))), (r5, .inl (cB, 76800, .inl (bt))), (r6, .inl (cZ, 600, .inl (qm_T (qm_ru pl us (128 * v + lo) (up - lo + 1)))))]) (wsR := []) (wsC' := [(mo, .inr (5, [.ref r1, .ref r2, .ref r3, .ref r4, .ref r5, .ref r6, .int (md), .int (ck), .int (nI 0)])), (r1, .inl (cZ, 32, .inl (qm_T th))), (r2, .inl (cI, 4096, .inl (qm_P (qm_rp pl (128 * v + lo) (up - lo + 1))))), (r3, .inl (cI, 4096, .inl (mk))), (r4, .inl (cI, 64, .inl (nt))), (r5, .inl (cB, 76800, .inl (bt))), (r6, .inl (cZ, 600, .inl (qm_T (qm_ru pl us (128 * v + lo) (up - lo + 1)))))]) (wsN := [(mo, .inr (5, [.ref r1, .ref r2, .ref r3, .ref r4, .ref r5, .ref r6, .int (md), .int (ck), .int (nI 0)])), (r1, .inl (cZ, 32, .inl (qm_T th))), (r2, .inl (cI, 4096, .inl (qm_P (qm_rp pl (128 * v + lo) (up - lo + 1))))), (r3, .inl (cI, 4096, .inl (mk))), (r4, .inl (cI, 64, .inl (nt))), (r5, .inl (cB, 76800, .inl (bt))), (r6, .inl (cZ, 600, .inl (qm_T (qm_ru pl us (128 * v + lo) (up - lo + 1)))))]) (isT := [0, 1, 2]) (isC := [0, 1, 2, 3, 4, 5, 6]) (isR := []) (isN := [0, 1, 2, 3, 4, 5, 6]) (k := 1) (ci := 5) (C := R_Mo) ⟨hx, hb, hml, hown, hts⟩ (c_Mo_many l D cZ cI cB mo r1 r2 r3 r4 r5 r6 th (qm_rp pl (128 * v + lo) (up - lo + 1)) mk nt bt (qm_ru pl us (128 * v + lo) (up - lo + 1)) md ck v (by omega) (qm_rp_le kpl)) (tw_V ml_Mo_42 im_Mo_many se_Mo_many in_Mo cd_Mo_many) rfl ⟨by decide +kernel, Nat.le_of_ble_eq_true rfl, Nat.le_of_ble_eq_true rfl⟩ ⟨Nat.le_of_ble_eq_true rfl, Nat.le_of_ble_eq_true rfl⟩ hK hP hD hS hA hN rfl ⟨rfl, rfl, rfl, by decide, by decide, by decide, by decide⟩ rfl rfl rfl hl.1 rfl rfl (Nat.le_of_ble_eq_true rfl) d_Mo_trim_77 (fun H locs hP hD hS => ?_)
                have hq2 := qm_ct_le (qm_rp pl (128 * v + lo) (up - lo + 1)) (128 * v) 128
                refine lv_isub hx hb d_Mo_trim_80 ?_
                exact q_iret hx hb hr hlk hK hP hD hS d_Mo_trim_81 (rfl) (rfl)
              · have c52 : ¬ up < (lo + (up - lo + 1)) := fun h9 => c52 ((nI_ltI (by omega) (by omega)).mpr h9)
                exfalso; omega
            · intro i u9 H locs ls hi hI ih
              obtain ⟨hP, hD, hS, hl⟩ := hI
              refine lv_iload hx hb d_Mo_trim_49 (lv_at hl 4 rfl) ?_
              refine lv_iload_n hx hb d_Mo_trim_51 rfl (lv_at hl 2 rfl) ?_
              refine lv_icmp_gt (tgt := 73) hx hb d_Mo_trim_52 (by decide) (fun c52 => ?_) (fun c52 => ?_)
              · have c52 : up < (lo + i) := (nI_ltI (by omega) (by omega)).mp c52
                exfalso; omega
              · have c52 : ¬ up < (lo + i) := fun h9 => c52 ((nI_ltI (by omega) (by omega)).mpr h9)
                refine lv_aload_n hx hb d_Mo_trim_55 rfl (lv_at hl 0 rfl) ?_
                refine lv_sipush (v := nI 128) hx hb d_Mo_trim_56 (by decide) ?_
                refine lv_iload_n hx hb d_Mo_trim_59 rfl (lv_at hl 1 rfl) ?_
                refine lv_imul hx hb d_Mo_trim_60 ?_
                refine q_ti (y := nI (128 * v)) (pk_mul _ _) ?_
                refine lv_iload hx hb d_Mo_trim_61 (lv_at hl 4 rfl) ?_
                refine lv_iadd hx hb d_Mo_trim_63 ?_
                refine q_ti (y := nI (128 * v + lo + i)) (by rw [nI_add, Nat.add_assoc]) ?_
                refine q_callVv (As := [.int (nI (128 * v + lo + i))]) (rest := []) (wsC := [(mo, .inr (5, [.ref r1, .ref r2, .ref r3, .ref r4, .ref r5, .ref r6, .int (md), .int (ck), .int (nI 0)])), (r1, .inl (cZ, 32, .inl (qm_T th))), (r2, .inl (cI, 4096, .inl (qm_P (qm_rp pl (128 * v + lo) (i))))), (r3, .inl (cI, 4096, .inl (mk))), (r4, .inl (cI, 64, .inl (nt))), (r5, .inl (cB, 76800, .inl (bt))), (r6, .inl (cZ, 600, .inl (qm_T (qm_ru pl us (128 * v + lo) (i)))))]) (wsR := []) (wsC' := [(mo, .inr (5, [.ref r1, .ref r2, .ref r3, .ref r4, .ref r5, .ref r6, .int (md), .int (ck), .int (nI 0)])), (r1, .inl (cZ, 32, .inl (qm_T th))), (r2, .inl (cI, 4096, .inl (qm_P (va_up (qm_rp pl (128 * v + lo) (i)) (128 * v + lo + i) 0)))), (r3, .inl (cI, 4096, .inl (mk))), (r4, .inl (cI, 64, .inl (nt))), (r5, .inl (cB, 76800, .inl (bt))), (r6, .inl (cZ, 600, .inl (qm_T (qm_cl (qm_rp pl (128 * v + lo) (i)) (qm_ru pl us (128 * v + lo) (i)) (128 * v + lo + i)))))]) (wsN := [(mo, .inr (5, [.ref r1, .ref r2, .ref r3, .ref r4, .ref r5, .ref r6, .int (md), .int (ck), .int (nI 0)])), (r1, .inl (cZ, 32, .inl (qm_T th))), (r2, .inl (cI, 4096, .inl (qm_P (va_up (qm_rp pl (128 * v + lo) (i)) (128 * v + lo + i) 0)))), (r3, .inl (cI, 4096, .inl (mk))), (r4, .inl (cI, 64, .inl (nt))), (r5, .inl (cB, 76800, .inl (bt))), (r6, .inl (cZ, 600, .inl (qm_T (qm_cl (qm_rp pl (128 * v + lo) (i)) (qm_ru pl us (128 * v + lo) (i)) (128 * v + lo + i)))))]) (isT := [0, 1, 2]) (isC := [0, 1, 2, 3, 4, 5, 6]) (isR := []) (isN := [0, 1, 2, 3, 4, 5, 6]) (k := 1) (ci := 5) (C := R_Mo) ⟨hx, hb, hml, hown, hts⟩ (c_Mo_clear l D cZ cI cB mo r1 r2 r3 r4 r5 r6 th (qm_rp pl (128 * v + lo) (i)) mk nt bt (qm_ru pl us (128 * v + lo) (i)) md ck (128 * v + lo + i) (by omega) (qm_rp_le kpl)) (tw_V ml_Mo_57 im_Mo_clear se_Mo_clear in_Mo cd_Mo_clear) rfl ⟨by decide +kernel, Nat.le_of_ble_eq_true rfl, Nat.le_of_ble_eq_true rfl⟩ ⟨Nat.le_of_ble_eq_true rfl, Nat.le_of_ble_eq_true rfl⟩ hK hP hD hS hA hN rfl ⟨rfl, rfl, rfl, by decide, by decide, by decide, by decide⟩ rfl rfl rfl hl.1 rfl rfl (Nat.le_of_ble_eq_true rfl) d_Mo_trim_64 (fun H locs hP hD hS => ?_)
                refine lv_iinc (v := nI (lo + i + 1)) (lv' := [(5, .int (nI (lo + i + 1))), (0, .ref mo), (1, .int (nI v)), (3, .int (nI up)), (4, .int (nI (qm_ct pl (128 * v) (128))))]) hx hb d_Mo_trim_67 hl (k := 4) rfl (nI_1 _) (by decide) rfl (fun ls hl => ?_)
                refine lv_goto (tgt := 49) hx hb d_Mo_trim_70 (by decide) ?_
                exact ih (()) _ _ _ ⟨hP, hD, hS, lv_sub hl [1, 2, 3, 4, 0] rfl⟩
          · have c34 : ¬ lo ≤ up := fun h9 => c34 ((nI_leI (by omega) (by omega)).mpr h9)
            exfalso; omega
  · have c4 : ¬ 0 = 0 := fun h9 => c4 ((q_z_eq (by omega)).mpr h9)
    exfalso; omega
set_option maxHeartbeats 4000000 in
set_option maxRecDepth 100000 in
theorem c_Mo_trim_bad (l : Launch) (D : va_G) (cZ : ClassId) (cI : ClassId) (cB : ClassId) (mo : Nat) (r1 : Nat) (r2 : Nat) (r3 : Nat) (r4 : Nat) (r5 : Nat) (r6 : Nat) (th : Nat → Bool) (pl : Nat → Nat) (mk : Nat → Int32) (nt : Nat → Int32) (bt : Nat → Int32) (us : Nat → Bool) (md : Int32) (ck : Int32) (v : Int32) (lo : Int32) (up : Int32) (kb : ¬ (qm_th th v ∧ qp_in lo 128 ∧ qp_in up 128 ∧ lo ≤ up)) : qMi l y_Mo_trim b_Mo_trim 6 (some .int) (rmL 2) D [(cZ, .boolean), (cI, .int), (cB, .byte)] [.ref mo, .int (v), .int (lo), .int (up)] [(mo, .inr (5, [.ref r1, .ref r2, .ref r3, .ref r4, .ref r5, .ref r6, .int (md), .int (ck), .int (nI 0)])), (r1, .inl (cZ, 32, .inl (qm_T th))), (r2, .inl (cI, 4096, .inl (qm_P pl))), (r3, .inl (cI, 4096, .inl (mk))), (r4, .inl (cI, 64, .inl (nt))), (r5, .inl (cB, 76800, .inl (bt))), (r6, .inl (cZ, 600, .inl (qm_T us)))] [(mo, .inr (5, [.ref r1, .ref r2, .ref r3, .ref r4, .ref r5, .ref r6, .int (md), .int (ck), .int (nI 0)])), (r1, .inl (cZ, 32, .inl (qm_T th))), (r2, .inl (cI, 4096, .inl (qm_P pl))), (r3, .inl (cI, 4096, .inl (mk))), (r4, .inl (cI, 64, .inl (nt))), (r5, .inl (cB, 76800, .inl (bt))), (r6, .inl (cZ, 600, .inl (qm_T us)))] ((-1 : Int32)) := by
  refine q_start (Qc := qZi D _ _ _) (by decide +kernel) (Nat.le_of_ble_eq_true rfl) ?_
  intro p e s m below meth c A hx hb hr hlk hml hown hts hK hP hD hS hA hN ls hl
  have hl : lv_has ls 6 [(0, .ref mo), (1, .int (v)), (2, .int (lo)), (3, .int (up))] := hl
  have hP : va_P D cls [(mo, .inr (5, [.ref r1, .ref r2, .ref r3, .ref r4, .ref r5, .ref r6, .int (md), .int (ck), .int (nI 0)])), (r1, .inl (cZ, 32, .inl (qm_T th))), (r2, .inl (cI, 4096, .inl (qm_P pl))), (r3, .inl (cI, 4096, .inl (mk))), (r4, .inl (cI, 64, .inl (nt))), (r5, .inl (cB, 76800, .inl (bt))), (r6, .inl (cZ, 600, .inl (qm_T us)))] s.heap := hP
  have hD : va_D A [(mo, .inr (5, [.ref r1, .ref r2, .ref r3, .ref r4, .ref r5, .ref r6, .int (md), .int (ck), .int (nI 0)])), (r1, .inl (cZ, 32, .inl (qm_T th))), (r2, .inl (cI, 4096, .inl (qm_P pl))), (r3, .inl (cI, 4096, .inl (mk))), (r4, .inl (cI, 64, .inl (nt))), (r5, .inl (cB, 76800, .inl (bt))), (r6, .inl (cZ, 600, .inl (qm_T us)))] := hD
  refine lv_aload_n hx hb d_Mo_trim_0 rfl (lv_at hl 0 rfl) ?_
  refine va_get (D := D) (ci := 5) (v := .int (nI 0)) (C := R_Mo) (T := F_Mo) (N := 9) hx hb hts i_Mo hown hK hP 0 rfl rfl 8 (by decide) (hts _ fl_Mo_38) (fun _ h9 => h9) rfl d_Mo_trim_1 ?_
  refine lv_if_eq (tgt := 10) hx hb d_Mo_trim_4 (by decide) (fun c4 => ?_) (fun c4 => ?_)
  · have c4 : 0 = 0 := (q_z_eq (by omega)).mp c4
    refine lv_aload_n hx hb d_Mo_trim_10 rfl (lv_at hl 0 rfl) ?_
    refine lv_iload_n hx hb d_Mo_trim_11 rfl (lv_at hl 1 rfl) ?_
    refine q_callVi (As := [.int (v)]) (rest := []) (wsC := [(mo, .inr (5, [.ref r1, .ref r2, .ref r3, .ref r4, .ref r5, .ref r6, .int (md), .int (ck), .int (nI 0)])), (r1, .inl (cZ, 32, .inl (qm_T th))), (r2, .inl (cI, 4096, .inl (qm_P pl))), (r3, .inl (cI, 4096, .inl (mk))), (r4, .inl (cI, 64, .inl (nt))), (r5, .inl (cB, 76800, .inl (bt))), (r6, .inl (cZ, 600, .inl (qm_T us)))]) (wsR := []) (wsC' := [(mo, .inr (5, [.ref r1, .ref r2, .ref r3, .ref r4, .ref r5, .ref r6, .int (md), .int (ck), .int (nI 0)])), (r1, .inl (cZ, 32, .inl (qm_T th))), (r2, .inl (cI, 4096, .inl (qm_P pl))), (r3, .inl (cI, 4096, .inl (mk))), (r4, .inl (cI, 64, .inl (nt))), (r5, .inl (cB, 76800, .inl (bt))), (r6, .inl (cZ, 600, .inl (qm_T us)))]) (wsN := [(mo, .inr (5, [.ref r1, .ref r2, .ref r3, .ref r4, .ref r5, .ref r6, .int (md), .int (ck), .int (nI 0)])), (r1, .inl (cZ, 32, .inl (qm_T th))), (r2, .inl (cI, 4096, .inl (qm_P pl))), (r3, .inl (cI, 4096, .inl (mk))), (r4, .inl (cI, 64, .inl (nt))), (r5, .inl (cB, 76800, .inl (bt))), (r6, .inl (cZ, 600, .inl (qm_T us)))]) (isT := [0, 1, 2]) (isC := [0, 1, 2, 3, 4, 5, 6]) (isR := []) (isN := [0, 1, 2, 3, 4, 5, 6]) (k := 1) (ci := 5) (C := R_Mo) ⟨hx, hb, hml, hown, hts⟩ (c_Mo_isThere l D cZ cI cB mo r1 r2 r3 r4 r5 r6 th pl mk nt bt us md ck v) (tw_V ml_Mo_46 im_Mo_isThere se_Mo_isThere in_Mo cd_Mo_isThere) rfl ⟨by decide +kernel, Nat.le_of_ble_eq_true rfl, Nat.le_of_ble_eq_true rfl⟩ ⟨Nat.le_of_ble_eq_true rfl, Nat.le_of_ble_eq_true rfl⟩ hK hP hD hS hA hN rfl ⟨rfl, rfl, rfl, by decide, by decide, by decide, by decide⟩ rfl rfl rfl hl.1 rfl rfl (Nat.le_of_ble_eq_true rfl) d_Mo_trim_12 (fun H locs hP hD hS => ?_)
    refine lv_if_eq (tgt := 37) hx hb d_Mo_trim_15 (by decide) (fun c15 => ?_) (fun c15 => ?_)
    · refine lv_iconst (v := (-1 : Int32)) hx hb d_Mo_trim_37 (by decide) ?_
      exact q_iret hx hb hr hlk hK hP hD hS d_Mo_trim_38 (rfl) (rfl)
    · refine lv_iload_n hx hb d_Mo_trim_18 rfl (lv_at hl 2 rfl) ?_
      refine q_callSi (As := [.int (lo)]) (rest := []) (wsC := []) (wsR := [(mo, .inr (5, [.ref r1, .ref r2, .ref r3, .ref r4, .ref r5, .ref r6, .int (md), .int (ck), .int (nI 0)])), (r1, .inl (cZ, 32, .inl (qm_T th))), (r2, .inl (cI, 4096, .inl (qm_P pl))), (r3, .inl (cI, 4096, .inl (mk))), (r4, .inl (cI, 64, .inl (nt))), (r5, .inl (cB, 76800, .inl (bt))), (r6, .inl (cZ, 600, .inl (qm_T us)))]) (wsC' := []) (wsN := [(mo, .inr (5, [.ref r1, .ref r2, .ref r3, .ref r4, .ref r5, .ref r6, .int (md), .int (ck), .int (nI 0)])), (r1, .inl (cZ, 32, .inl (qm_T th))), (r2, .inl (cI, 4096, .inl (qm_P pl))), (r3, .inl (cI, 4096, .inl (mk))), (r4, .inl (cI, 64, .inl (nt))), (r5, .inl (cB, 76800, .inl (bt))), (r6, .inl (cZ, 600, .inl (qm_T us)))]) (isT := []) (isC := []) (isR := [0, 1, 2, 3, 4, 5, 6]) (isN := [0, 1, 2, 3, 4, 5, 6]) (k := 1) ⟨hx, hb, hml, hown, hts⟩ (c_Mo_isPiece l D lo) (tw_S ml_Mo_61 st_Mo_isPiece in_Mo cd_Mo_isPiece) ⟨by decide +kernel, Nat.le_of_ble_eq_true rfl, Nat.le_of_ble_eq_true rfl⟩ ⟨Nat.le_of_ble_eq_true rfl, Nat.le_of_ble_eq_true rfl⟩ hK hP hD hS hA hN rfl ⟨rfl, rfl, rfl, by decide, by decide, by decide, by decide⟩ hl.1 rfl rfl (Nat.le_of_ble_eq_true rfl) d_Mo_trim_19 (fun H locs hP hD hS => ?_)
      refine lv_if_eq (tgt := 37) hx hb d_Mo_trim_22 (by decide) (fun c22 => ?_) (fun c22 => ?_)
      · refine lv_iconst (v := (-1 : Int32)) hx hb d_Mo_trim_37 (by decide) ?_
        exact q_iret hx hb hr hlk hK hP hD hS d_Mo_trim_38 (rfl) (rfl)
      · refine lv_iload_n hx hb d_Mo_trim_25 rfl (lv_at hl 3 rfl) ?_
        refine q_callSi (As := [.int (up)]) (rest := []) (wsC := []) (wsR := [(mo, .inr (5, [.ref r1, .ref r2, .ref r3, .ref r4, .ref r5, .ref r6, .int (md), .int (ck), .int (nI 0)])), (r1, .inl (cZ, 32, .inl (qm_T th))), (r2, .inl (cI, 4096, .inl (qm_P pl))), (r3, .inl (cI, 4096, .inl (mk))), (r4, .inl (cI, 64, .inl (nt))), (r5, .inl (cB, 76800, .inl (bt))), (r6, .inl (cZ, 600, .inl (qm_T us)))]) (wsC' := []) (wsN := [(mo, .inr (5, [.ref r1, .ref r2, .ref r3, .ref r4, .ref r5, .ref r6, .int (md), .int (ck), .int (nI 0)])), (r1, .inl (cZ, 32, .inl (qm_T th))), (r2, .inl (cI, 4096, .inl (qm_P pl))), (r3, .inl (cI, 4096, .inl (mk))), (r4, .inl (cI, 64, .inl (nt))), (r5, .inl (cB, 76800, .inl (bt))), (r6, .inl (cZ, 600, .inl (qm_T us)))]) (isT := []) (isC := []) (isR := [0, 1, 2, 3, 4, 5, 6]) (isN := [0, 1, 2, 3, 4, 5, 6]) (k := 1) ⟨hx, hb, hml, hown, hts⟩ (c_Mo_isPiece l D up) (tw_S ml_Mo_61 st_Mo_isPiece in_Mo cd_Mo_isPiece) ⟨by decide +kernel, Nat.le_of_ble_eq_true rfl, Nat.le_of_ble_eq_true rfl⟩ ⟨Nat.le_of_ble_eq_true rfl, Nat.le_of_ble_eq_true rfl⟩ hK hP hD hS hA hN rfl ⟨rfl, rfl, rfl, by decide, by decide, by decide, by decide⟩ hl.1 rfl rfl (Nat.le_of_ble_eq_true rfl) d_Mo_trim_26 (fun H locs hP hD hS => ?_)
        refine lv_if_eq (tgt := 37) hx hb d_Mo_trim_29 (by decide) (fun c29 => ?_) (fun c29 => ?_)
        · refine lv_iconst (v := (-1 : Int32)) hx hb d_Mo_trim_37 (by decide) ?_
          exact q_iret hx hb hr hlk hK hP hD hS d_Mo_trim_38 (rfl) (rfl)
        · refine lv_iload_n hx hb d_Mo_trim_32 rfl (lv_at hl 3 rfl) ?_
          refine lv_iload_n hx hb d_Mo_trim_33 rfl (lv_at hl 2 rfl) ?_
          refine lv_icmp_ge (tgt := 39) hx hb d_Mo_trim_34 (by decide) (fun c34 => ?_) (fun c34 => ?_)
          · exact absurd (⟨qp_b_ne c15, qp_b_ne c22, qp_b_ne c29, c34⟩) kb
          · refine lv_iconst (v := (-1 : Int32)) hx hb d_Mo_trim_37 (by decide) ?_
            exact q_iret hx hb hr hlk hK hP hD hS d_Mo_trim_38 (rfl) (rfl)
  · have c4 : ¬ 0 = 0 := fun h9 => c4 ((q_z_eq (by omega)).mpr h9)
    exfalso; omega
set_option maxHeartbeats 4000000 in
set_option maxRecDepth 100000 in
theorem c_Mo_write_old (l : Launch) (D : va_G) (cZ : ClassId) (cI : ClassId) (cB : ClassId) (mo : Nat) (r1 : Nat) (r2 : Nat) (r3 : Nat) (r4 : Nat) (r5 : Nat) (r6 : Nat) (th : Nat → Bool) (pl : Nat → Nat) (mk : Nat → Int32) (nt : Nat → Int32) (bt : Nat → Int32) (us : Nat → Bool) (md : Int32) (ck : Int32) (v : Nat) (pc : Nat) (u : Nat) (n : Nat) (y : Nat) (w : Nat) (kv : v < 16) (kpc : pc < 128) (kn : 1 ≤ n) (ku : u + n ≤ 128) (ky : y < 256) (kt : th v = true) (kpl : ∀ k, pl k ≤ 600) (kz : pl (128 * v + pc) = w + 1) (kw : w < 600) : qMi l y_Mo_write b_Mo_write 8 (some .int) (rmL 3) D [(cZ, .boolean), (cI, .int), (cB, .byte)] [.ref mo, .int (nI v), .int (nI pc), .int (nI u), .int (nI n), .int (nI y)] [(mo, .inr (5, [.ref r1, .ref r2, .ref r3, .ref r4, .ref r5, .ref r6, .int (md), .int (ck), .int (nI 0)])), (r1, .inl (cZ, 32, .inl (qm_T th))), (r2, .inl (cI, 4096, .inl (qm_P pl))), (r3, .inl (cI, 4096, .inl (mk))), (r4, .inl (cI, 64, .inl (nt))), (r5, .inl (cB, 76800, .inl (bt))), (r6, .inl (cZ, 600, .inl (qm_T us)))] [(mo, .inr (5, [.ref r1, .ref r2, .ref r3, .ref r4, .ref r5, .ref r6, .int (md + nI 1), .int (ck), .int (nI 0)])), (r1, .inl (cZ, 32, .inl (qm_T th))), (r2, .inl (cI, 4096, .inl (qm_P pl))), (r3, .inl (cI, 4096, .inl (upd mk (128 * v + pc) (md + nI 1)))), (r4, .inl (cI, 64, .inl (nt))), (r5, .inl (cB, 76800, .inl (qv_for (n) (fun g j => upd g (128 * w + (u + j)) (vp_nar .byte (nI y).toInt8.toInt32)) (bt)))), (r6, .inl (cZ, 600, .inl (qm_T us)))] (nI (qm_ct pl (128 * v) (128))) := by
  refine q_start (Qc := qZi D _ _ _) (by decide +kernel) (Nat.le_of_ble_eq_true rfl) ?_
  intro p e s m below meth c A hx hb hr hlk hml hown hts hK hP hD hS hA hN ls hl
  have hl : lv_has ls 8 [(0, .ref mo), (1, .int (nI v)), (2, .int (nI pc)), (3, .int (nI u)), (4, .int (nI n)), (5, .int (nI y))] := hl
  have hP : va_P D cls [(mo, .inr (5, [.ref r1, .ref r2, .ref r3, .ref r4, .ref r5, .ref r6, .int (md), .int (ck), .int (nI 0)])), (r1, .inl (cZ, 32, .inl (qm_T th))), (r2, .inl (cI, 4096, .inl (qm_P pl))), (r3, .inl (cI, 4096, .inl (mk))), (r4, .inl (cI, 64, .inl (nt))), (r5, .inl (cB, 76800, .inl (bt))), (r6, .inl (cZ, 600, .inl (qm_T us)))] s.heap := hP
  have hD : va_D A [(mo, .inr (5, [.ref r1, .ref r2, .ref r3, .ref r4, .ref r5, .ref r6, .int (md), .int (ck), .int (nI 0)])), (r1, .inl (cZ, 32, .inl (qm_T th))), (r2, .inl (cI, 4096, .inl (qm_P pl))), (r3, .inl (cI, 4096, .inl (mk))), (r4, .inl (cI, 64, .inl (nt))), (r5, .inl (cB, 76800, .inl (bt))), (r6, .inl (cZ, 600, .inl (qm_T us)))] := hD
  refine lv_aload_n hx hb d_Mo_write_0 rfl (lv_at hl 0 rfl) ?_
  refine va_get (D := D) (ci := 5) (v := .int (nI 0)) (C := R_Mo) (T := F_Mo) (N := 9) hx hb hts i_Mo hown hK hP 0 rfl rfl 8 (by decide) (hts _ fl_Mo_38) (fun _ h9 => h9) rfl d_Mo_write_1 ?_
  refine lv_if_eq (tgt := 10) hx hb d_Mo_write_4 (by decide) (fun c4 => ?_) (fun c4 => ?_)
  · have c4 : 0 = 0 := (q_z_eq (by omega)).mp c4
    refine lv_aload_n hx hb d_Mo_write_10 rfl (lv_at hl 0 rfl) ?_
    refine lv_iload_n hx hb d_Mo_write_11 rfl (lv_at hl 1 rfl) ?_
    refine q_callVi (As := [.int (nI v)]) (rest := []) (wsC := [(mo, .inr (5, [.ref r1, .ref r2, .ref r3, .ref r4, .ref r5, .ref r6, .int (md), .int (ck), .int (nI 0)])), (r1, .inl (cZ, 32, .inl (qm_T th))), (r2, .inl (cI, 4096, .inl (qm_P pl))), (r3, .inl (cI, 4096, .inl (mk))), (r4, .inl (cI, 64, .inl (nt))), (r5, .inl (cB, 76800, .inl (bt))), (r6, .inl (cZ, 600, .inl (qm_T us)))]) (wsR := []) (wsC' := [(mo, .inr (5, [.ref r1, .ref r2, .ref r3, .ref r4, .ref r5, .ref r6, .int (md), .int (ck), .int (nI 0)])), (r1, .inl (cZ, 32, .inl (qm_T th))), (r2, .inl (cI, 4096, .inl (qm_P pl))), (r3, .inl (cI, 4096, .inl (mk))), (r4, .inl (cI, 64, .inl (nt))), (r5, .inl (cB, 76800, .inl (bt))), (r6, .inl (cZ, 600, .inl (qm_T us)))]) (wsN := [(mo, .inr (5, [.ref r1, .ref r2, .ref r3, .ref r4, .ref r5, .ref r6, .int (md), .int (ck), .int (nI 0)])), (r1, .inl (cZ, 32, .inl (qm_T th))), (r2, .inl (cI, 4096, .inl (qm_P pl))), (r3, .inl (cI, 4096, .inl (mk))), (r4, .inl (cI, 64, .inl (nt))), (r5, .inl (cB, 76800, .inl (bt))), (r6, .inl (cZ, 600, .inl (qm_T us)))]) (isT := [0, 1, 2]) (isC := [0, 1, 2, 3, 4, 5, 6]) (isR := []) (isN := [0, 1, 2, 3, 4, 5, 6]) (k := 1) (ci := 5) (C := R_Mo) ⟨hx, hb, hml, hown, hts⟩ (c_Mo_isThereY l D cZ cI cB mo r1 r2 r3 r4 r5 r6 th pl mk nt bt us md ck v (by omega) kt) (tw_V ml_Mo_46 im_Mo_isThere se_Mo_isThere in_Mo cd_Mo_isThere) rfl ⟨by decide +kernel, Nat.le_of_ble_eq_true rfl, Nat.le_of_ble_eq_true rfl⟩ ⟨Nat.le_of_ble_eq_true rfl, Nat.le_of_ble_eq_true rfl⟩ hK hP hD hS hA hN rfl ⟨rfl, rfl, rfl, by decide, by decide, by decide, by decide⟩ rfl rfl rfl hl.1 rfl rfl (Nat.le_of_ble_eq_true rfl) d_Mo_write_12 (fun H locs hP hD hS => ?_)
    refine lv_if_eq (tgt := 66) hx hb d_Mo_write_15 (by decide) (fun c15 => ?_) (fun c15 => ?_)
    · have c15 : 1 = 0 := (q_z_eq (by omega)).mp c15
      exfalso; omega
    · have c15 : ¬ 1 = 0 := fun h9 => c15 ((q_z_eq (by omega)).mpr h9)
      refine lv_iload_n hx hb d_Mo_write_18 rfl (lv_at hl 2 rfl) ?_
      refine q_callSi (As := [.int (nI pc)]) (rest := []) (wsC := []) (wsR := [(mo, .inr (5, [.ref r1, .ref r2, .ref r3, .ref r4, .ref r5, .ref r6, .int (md), .int (ck), .int (nI 0)])), (r1, .inl (cZ, 32, .inl (qm_T th))), (r2, .inl (cI, 4096, .inl (qm_P pl))), (r3, .inl (cI, 4096, .inl (mk))), (r4, .inl (cI, 64, .inl (nt))), (r5, .inl (cB, 76800, .inl (bt))), (r6, .inl (cZ, 600, .inl (qm_T us)))]) (wsC' := []) (wsN := [(mo, .inr (5, [.ref r1, .ref r2, .ref r3, .ref r4, .ref r5, .ref r6, .int (md), .int (ck), .int (nI 0)])), (r1, .inl (cZ, 32, .inl (qm_T th))), (r2, .inl (cI, 4096, .inl (qm_P pl))), (r3, .inl (cI, 4096, .inl (mk))), (r4, .inl (cI, 64, .inl (nt))), (r5, .inl (cB, 76800, .inl (bt))), (r6, .inl (cZ, 600, .inl (qm_T us)))]) (isT := []) (isC := []) (isR := [0, 1, 2, 3, 4, 5, 6]) (isN := [0, 1, 2, 3, 4, 5, 6]) (k := 1) ⟨hx, hb, hml, hown, hts⟩ (c_Mo_isPieceY l D pc (by omega)) (tw_S ml_Mo_61 st_Mo_isPiece in_Mo cd_Mo_isPiece) ⟨by decide +kernel, Nat.le_of_ble_eq_true rfl, Nat.le_of_ble_eq_true rfl⟩ ⟨Nat.le_of_ble_eq_true rfl, Nat.le_of_ble_eq_true rfl⟩ hK hP hD hS hA hN rfl ⟨rfl, rfl, rfl, by decide, by decide, by decide, by decide⟩ hl.1 rfl rfl (Nat.le_of_ble_eq_true rfl) d_Mo_write_19 (fun H locs hP hD hS => ?_)
      refine lv_if_eq (tgt := 66) hx hb d_Mo_write_22 (by decide) (fun c22 => ?_) (fun c22 => ?_)
      · have c22 : 1 = 0 := (q_z_eq (by omega)).mp c22
        exfalso; omega
      · have c22 : ¬ 1 = 0 := fun h9 => c22 ((q_z_eq (by omega)).mpr h9)
        refine lv_iload hx hb d_Mo_write_25 (lv_at hl 4 rfl) ?_
        refine lv_iconst (v := nI 1) hx hb d_Mo_write_27 (by decide) ?_
        refine lv_icmp_lt (tgt := 66) hx hb d_Mo_write_28 (by decide) (fun c28 => ?_) (fun c28 => ?_)
        · have c28 : n < 1 := (nI_ltI (by omega) (by omega)).mp c28
          exfalso; omega
        · have c28 : ¬ n < 1 := fun h9 => c28 ((nI_ltI (by omega) (by omega)).mpr h9)
          refine lv_iload hx hb d_Mo_write_31 (lv_at hl 4 rfl) ?_
          refine lv_sipush (v := nI 128) hx hb d_Mo_write_33 (by decide) ?_
          refine lv_icmp_gt (tgt := 66) hx hb d_Mo_write_36 (by decide) (fun c36 => ?_) (fun c36 => ?_)
          · have c36 : 128 < n := (nI_ltI (by omega) (by omega)).mp c36
            exfalso; omega
          · have c36 : ¬ 128 < n := fun h9 => c36 ((nI_ltI (by omega) (by omega)).mpr h9)
            refine lv_iload_n hx hb d_Mo_write_39 rfl (lv_at hl 3 rfl) ?_
            refine lv_if_lt (tgt := 66) hx hb d_Mo_write_40 (by decide) (fun c40 => ?_) (fun c40 => ?_)
            · exact absurd c40 (nI_pos (by omega))
            · refine lv_iload_n hx hb d_Mo_write_43 rfl (lv_at hl 3 rfl) ?_
              refine lv_sipush (v := nI 128) hx hb d_Mo_write_44 (by decide) ?_
              refine lv_iload hx hb d_Mo_write_47 (lv_at hl 4 rfl) ?_
              refine lv_isub hx hb d_Mo_write_49 ?_
              refine q_ti (y := nI (128 - n)) (pk_sub (by omega)) ?_
              refine lv_icmp_gt (tgt := 66) hx hb d_Mo_write_50 (by decide) (fun c50 => ?_) (fun c50 => ?_)
              · have c50 : (128 - n) < u := (nI_ltI (by omega) (by omega)).mp c50
                exfalso; omega
              · have c50 : ¬ (128 - n) < u := fun h9 => c50 ((nI_ltI (by omega) (by omega)).mpr h9)
                refine lv_iload hx hb d_Mo_write_53 (lv_at hl 5 rfl) ?_
                refine lv_if_lt (tgt := 66) hx hb d_Mo_write_55 (by decide) (fun c55 => ?_) (fun c55 => ?_)
                · exact absurd c55 (nI_pos (by omega))
                · refine lv_iload hx hb d_Mo_write_58 (lv_at hl 5 rfl) ?_
                  refine lv_sipush (v := nI 255) hx hb d_Mo_write_60 (by decide) ?_
                  refine lv_icmp_le (tgt := 68) hx hb d_Mo_write_63 (by decide) (fun c63 => ?_) (fun c63 => ?_)
                  · have c63 : y ≤ 255 := (nI_leI (by omega) (by omega)).mp c63
                    refine lv_sipush (v := nI 128) hx hb d_Mo_write_68 (by decide) ?_
                    refine lv_iload_n hx hb d_Mo_write_71 rfl (lv_at hl 1 rfl) ?_
                    refine lv_imul hx hb d_Mo_write_72 ?_
                    refine q_ti (y := nI (128 * v)) (pk_mul _ _) ?_
                    refine lv_iload_n hx hb d_Mo_write_73 rfl (lv_at hl 2 rfl) ?_
                    refine lv_iadd hx hb d_Mo_write_74 ?_
                    refine q_ti (y := nI (128 * v + pc)) (nI_add _ _) ?_
                    refine lv_istore (lv' := [(6, .int (nI (128 * v + pc))), (0, .ref mo), (1, .int (nI v)), (2, .int (nI pc)), (3, .int (nI u)), (4, .int (nI n)), (5, .int (nI y))]) hx hb d_Mo_write_75 hl (by decide) rfl (fun ls hl => ?_)
                    refine lv_aload_n hx hb d_Mo_write_77 rfl (lv_at hl 1 rfl) ?_
                    refine va_get (D := D) (ci := 5) (v := .ref r2) (C := R_Mo) (T := F_Mo) (N := 9) hx hb hts i_Mo hown hK hP 0 rfl rfl 1 (by decide) (hts _ fl_Mo_13) (fun _ h9 => h9) rfl d_Mo_write_78 ?_
                    refine lv_iload hx hb d_Mo_write_81 (lv_at hl 0 rfl) ?_
                    refine va_iald hx hb hK hP 2 1 rfl rfl (vp_in_nI (by omega) (by decide)) d_Mo_write_83 ?_
                    refine q_ti (y := (qm_P pl) (128 * v + pc)) (by rw [nI_clamp (by omega)]) ?_
                    refine lv_if_ge (tgt := 100) hx hb d_Mo_write_84 (by decide) (fun c84 => ?_) (fun c84 => ?_)
                    · have c84 := qm_Pg (kpl _) c84
                      refine lv_aload_n hx hb d_Mo_write_100 rfl (lv_at hl 1 rfl) ?_
                      refine va_get (D := D) (ci := 5) (v := .ref r2) (C := R_Mo) (T := F_Mo) (N := 9) hx hb hts i_Mo hown hK hP 0 rfl rfl 1 (by decide) (hts _ fl_Mo_13) (fun _ h9 => h9) rfl d_Mo_write_101 ?_
                      refine lv_iload hx hb d_Mo_write_104 (lv_at hl 0 rfl) ?_
                      refine va_iald hx hb hK hP 2 1 rfl rfl (vp_in_nI (by omega) (by decide)) d_Mo_write_106 ?_
                      refine q_ti (y := (qm_P pl) (128 * v + pc)) (by rw [nI_clamp (by omega)]) ?_
                      refine lv_if_ge (tgt := 121) hx hb d_Mo_write_107 (by decide) (fun c107 => ?_) (fun c107 => ?_)
                      · have c107 := qm_Pg (kpl _) c107
                        refine lv_aload_n hx hb d_Mo_write_121 rfl (lv_at hl 1 rfl) ?_
                        refine lv_dup hx hb d_Mo_write_122 rfl ?_
                        refine va_get (D := D) (ci := 5) (v := .int (md)) (C := R_Mo) (T := F_Mo) (N := 9) hx hb hts i_Mo hown hK hP 0 rfl rfl 6 (by decide) (hts _ fl_Mo_64) (fun _ h9 => h9) rfl d_Mo_write_123 ?_
                        refine lv_iconst (v := nI 1) hx hb d_Mo_write_126 (by decide) ?_
                        refine lv_iadd hx hb d_Mo_write_127 ?_
                        refine va_put (D := D) (ci := 5) (v := .int (md + (nI 1))) (ty := .int) (C := R_Mo) (T := F_Mo) (N := 9) hx hb hts i_Mo t_Mo t_Mo_ok n_Mo hown hK hP hD hS 0 rfl rfl 6 (by decide) (hts _ fl_Mo_64) (fun _ h9 => h9) rfl (by decide +kernel) rfl rfl (Nat.le_of_ble_eq_true rfl) d_Mo_write_128 (fun H locs hP hD hS => ?_)
                        have hP : va_P D cls [(mo, .inr (5, [.ref r1, .ref r2, .ref r3, .ref r4, .ref r5, .ref r6, .int (md + (nI 1)), .int (ck), .int (nI 0)])), (r1, .inl (cZ, 32, .inl (qm_T th))), (r2, .inl (cI, 4096, .inl (qm_P pl))), (r3, .inl (cI, 4096, .inl (mk))), (r4, .inl (cI, 64, .inl (nt))), (r5, .inl (cB, 76800, .inl (bt))), (r6, .inl (cZ, 600, .inl (qm_T us)))] H := hP
                        have hD : va_D A [(mo, .inr (5, [.ref r1, .ref r2, .ref r3, .ref r4, .ref r5, .ref r6, .int (md + (nI 1)), .int (ck), .int (nI 0)])), (r1, .inl (cZ, 32, .inl (qm_T th))), (r2, .inl (cI, 4096, .inl (qm_P pl))), (r3, .inl (cI, 4096, .inl (mk))), (r4, .inl (cI, 64, .inl (nt))), (r5, .inl (cB, 76800, .inl (bt))), (r6, .inl (cZ, 600, .inl (qm_T us)))] := hD
                        refine lv_aload_n hx hb d_Mo_write_131 rfl (lv_at hl 1 rfl) ?_
                        refine va_get (D := D) (ci := 5) (v := .ref r3) (C := R_Mo) (T := F_Mo) (N := 9) hx hb hts i_Mo hown hK hP 0 rfl rfl 2 (by decide) (hts _ fl_Mo_17) (fun _ h9 => h9) rfl d_Mo_write_132 ?_
                        refine lv_iload hx hb d_Mo_write_135 (lv_at hl 0 rfl) ?_
                        refine lv_aload_n hx hb d_Mo_write_137 rfl (lv_at hl 1 rfl) ?_
                        refine va_get (D := D) (ci := 5) (v := .int (md + (nI 1))) (C := R_Mo) (T := F_Mo) (N := 9) hx hb hts i_Mo hown hK hP 0 rfl rfl 6 (by decide) (hts _ fl_Mo_64) (fun _ h9 => h9) rfl d_Mo_write_138 ?_
                        refine va_iast hx hb hK hP hD hS 3 1 rfl rfl (vp_in_nI (by omega) (by decide)) d_Mo_write_141 (fun H locs hP hD hS => ?_)
                        rw [nI_clamp (by omega)] at hP hD
                        have hP : va_P D cls [(mo, .inr (5, [.ref r1, .ref r2, .ref r3, .ref r4, .ref r5, .ref r6, .int (md + (nI 1)), .int (ck), .int (nI 0)])), (r1, .inl (cZ, 32, .inl (qm_T th))), (r2, .inl (cI, 4096, .inl (qm_P pl))), (r3, .inl (cI, 4096, .inl (upd mk (128 * v + pc) (md + (nI 1))))), (r4, .inl (cI, 64, .inl (nt))), (r5, .inl (cB, 76800, .inl (bt))), (r6, .inl (cZ, 600, .inl (qm_T us)))] H := hP
                        have hD : va_D A [(mo, .inr (5, [.ref r1, .ref r2, .ref r3, .ref r4, .ref r5, .ref r6, .int (md + (nI 1)), .int (ck), .int (nI 0)])), (r1, .inl (cZ, 32, .inl (qm_T th))), (r2, .inl (cI, 4096, .inl (qm_P pl))), (r3, .inl (cI, 4096, .inl (upd mk (128 * v + pc) (md + (nI 1))))), (r4, .inl (cI, 64, .inl (nt))), (r5, .inl (cB, 76800, .inl (bt))), (r6, .inl (cZ, 600, .inl (qm_T us)))] := hD
                        refine lv_iload_n hx hb d_Mo_write_142 rfl (lv_at hl 4 rfl) ?_
                        refine lv_istore (lv' := [(7, .int (nI u)), (6, .int (nI (128 * v + pc))), (0, .ref mo), (1, .int (nI v)), (2, .int (nI pc)), (3, .int (nI u)), (4, .int (nI n)), (5, .int (nI y))]) hx hb d_Mo_write_143 hl (by decide) rfl (fun ls hl => ?_)
                        refine q_loop (pc := 145) (σ := Unit) (I := fun i u9 H locs ls => va_P D cls [(mo, .inr (5, [.ref r1, .ref r2, .ref r3, .ref r4, .ref r5, .ref r6, .int (md + nI 1), .int (ck), .int (nI 0)])), (r1, .inl (cZ, 32, .inl (qm_T th))), (r2, .inl (cI, 4096, .inl (qm_P pl))), (r3, .inl (cI, 4096, .inl (upd mk (128 * v + pc) (md + nI 1)))), (r4, .inl (cI, 64, .inl (nt))), (r5, .inl (cB, 76800, .inl (qv_for (i) (fun g j => upd g (128 * w + (u + j)) (vp_nar .byte (nI y).toInt8.toInt32)) (bt)))), (r6, .inl (cZ, 600, .inl (qm_T us)))] H ∧ va_D A [(mo, .inr (5, [.ref r1, .ref r2, .ref r3, .ref r4, .ref r5, .ref r6, .int (md + nI 1), .int (ck), .int (nI 0)])), (r1, .inl (cZ, 32, .inl (qm_T th))), (r2, .inl (cI, 4096, .inl (qm_P pl))), (r3, .inl (cI, 4096, .inl (upd mk (128 * v + pc) (md + nI 1)))), (r4, .inl (cI, 64, .inl (nt))), (r5, .inl (cB, 76800, .inl (qv_for (i) (fun g j => upd g (128 * w + (u + j)) (vp_nar .byte (nI y).toInt8.toInt32)) (bt)))), (r6, .inl (cZ, 600, .inl (qm_T us)))] ∧ va_S A s.heap H locs ∧ lv_has ls 8 [(0, .ref mo), (1, .int (nI v)), (3, .int (nI u)), (4, .int (nI n)), (5, .int (nI y)), (6, .int (nI (128 * v + pc))), (7, .int (nI (u + i)))]) (n) ?_ ?_ (0) (()) _ _ _ (by omega) ⟨hP, hD, hS, lv_sub hl [2, 3, 5, 6, 7, 1, 0] rfl⟩
                        · intro u9 H locs ls hI
                          obtain ⟨hP, hD, hS, hl⟩ := hI
                          refine lv_iload hx hb d_Mo_write_145 (lv_at hl 6 rfl) ?_
                          refine lv_iload_n hx hb d_Mo_write_147 rfl (lv_at hl 2 rfl) ?_
                          refine lv_iload hx hb d_Mo_write_148 (lv_at hl 3 rfl) ?_
                          refine lv_iadd hx hb d_Mo_write_150 ?_
                          refine q_ti (y := nI (u + n)) (nI_add _ _) ?_
                          refine lv_icmp_ge (tgt := 182) hx hb d_Mo_write_151 (by decide) (fun c151 => ?_) (fun c151 => ?_)
                          · have c151 : (u + n) ≤ (u + n) := (nI_leI (by omega) (by omega)).mp c151
                            refine lv_aload_n hx hb d_Mo_write_182 rfl (lv_at hl 0 rfl) ?_
                            refine lv_iload_n hx hb d_Mo_write_183 rfl (lv_at hl 1 rfl) ?_
                            refine q_callVi (As := [.int (nI v)]) (rest := []) (wsC := [(mo, .inr (5, [.ref r1, .ref r2, .ref r3, .ref r4, .ref r5, .ref r6, .int (md + nI 1), .int (ck), .int (nI 0)])), (r1, .inl (cZ, 32, .inl (qm_T th))), (r2, .inl (cI, 4096, .inl (qm_P pl))), (r3, .inl (cI, 4096, .inl (upd mk (128 * v + pc) (md + nI 1)))), (r4, .inl (cI, 64, .inl (nt))), (r5, .inl (cB, 76800, .inl (qv_for (n) (fun g j => upd g (128 * w + (u + j)) (vp_nar .byte (nI y).toInt8.toInt32)) (bt)))), (r6, .inl (cZ, 600, .inl (qm_T us)))]) (wsR := []) (wsC' := [(mo, .inr (5, [.ref r1, .ref r2, .ref r3, .ref r4, .ref r5, .ref r6, .int ((md + nI 1)), .int (ck), .int (nI 0)])), (r1, .inl (cZ, 32, .inl (qm_T th))), (r2, .inl (cI, 4096, .inl (qm_P pl))), (r3, .inl (cI, 4096, .inl ((upd mk (128 * v + pc) (md + nI 1))))), (r4, .inl (cI, 64, .inl (nt))), (r5, .inl (cB, 76800, .inl ((qv_for (n) (fun g j => upd g (128 * w + (u + j)) (vp_nar .byte (nI y).toInt8.toInt32)) (bt))))), (r6, .inl (cZ, 600, .inl (qm_T us)))]) (wsN := [(mo, .inr (5, [.ref r1, .ref r2, .ref r3, .ref r4, .ref r5, .ref r6, .int ((md + nI 1)), .int (ck), .int (nI 0)])), (r1, .inl (cZ, 32, .inl (qm_T th))), (r2, .inl (cI, 4096, .inl (qm_P pl))), (r3, .inl (cI, 4096, .inl ((upd mk (128 * v + pc) (md + nI 1))))), (r4, .inl (cI, 64, .inl (nt))), (r5, .inl (cB, 76800, .inl ((qv_for (n) (fun g j => upd g (128 * w + (u + j)) (vp_nar .byte (nI y).toInt8.toInt32)) (bt))))), (r6, .inl (cZ, 600, .inl (qm_T us)))]) (isT := [0, 1, 2]) (isC := [0, 1, 2, 3, 4, 5, 6]) (isR := []) (isN := [0, 1, 2, 3, 4, 5, 6]) (k := 1) (ci := 5) (C := R_Mo) ⟨hx, hb, hml, hown, hts⟩ (c_Mo_many l D cZ cI cB mo r1 r2 r3 r4 r5 r6 th pl (upd mk (128 * v + pc) (md + nI 1)) nt (qv_for (n) (fun g j => upd g (128 * w + (u + j)) (vp_nar .byte (nI y).toInt8.toInt32)) (bt)) us (md + nI 1) ck v (by omega) kpl) (tw_V ml_Mo_42 im_Mo_many se_Mo_many in_Mo cd_Mo_many) rfl ⟨by decide +kernel, Nat.le_of_ble_eq_true rfl, Nat.le_of_ble_eq_true rfl⟩ ⟨Nat.le_of_ble_eq_true rfl, Nat.le_of_ble_eq_true rfl⟩ hK hP hD hS hA hN rfl ⟨rfl, rfl, rfl, by decide, by decide, by decide, by decide⟩ rfl rfl rfl hl.1 rfl rfl (Nat.le_of_ble_eq_true rfl) d_Mo_write_184 (fun H locs hP hD hS => ?_)
                            have hq1 := qm_ct_le pl (128 * v) 128
                            exact q_iret hx hb hr hlk hK hP hD hS d_Mo_write_187 (rfl) (rfl)
                          · have c151 : ¬ (u + n) ≤ (u + n) := fun h9 => c151 ((nI_leI (by omega) (by omega)).mpr h9)
                            exfalso; omega
                        · intro i u9 H locs ls hi hI ih
                          obtain ⟨hP, hD, hS, hl⟩ := hI
                          refine lv_iload hx hb d_Mo_write_145 (lv_at hl 6 rfl) ?_
                          refine lv_iload_n hx hb d_Mo_write_147 rfl (lv_at hl 2 rfl) ?_
                          refine lv_iload hx hb d_Mo_write_148 (lv_at hl 3 rfl) ?_
                          refine lv_iadd hx hb d_Mo_write_150 ?_
                          refine q_ti (y := nI (u + n)) (nI_add _ _) ?_
                          refine lv_icmp_ge (tgt := 182) hx hb d_Mo_write_151 (by decide) (fun c151 => ?_) (fun c151 => ?_)
                          · have c151 : (u + n) ≤ (u + i) := (nI_leI (by omega) (by omega)).mp c151
                            exfalso; omega
                          · have c151 : ¬ (u + n) ≤ (u + i) := fun h9 => c151 ((nI_leI (by omega) (by omega)).mpr h9)
                            refine lv_aload_n hx hb d_Mo_write_154 rfl (lv_at hl 0 rfl) ?_
                            refine va_get (D := D) (ci := 5) (v := .ref r5) (C := R_Mo) (T := F_Mo) (N := 9) hx hb hts i_Mo hown hK hP 0 rfl rfl 4 (by decide) (hts _ fl_Mo_24) (fun _ h9 => h9) rfl d_Mo_write_155 ?_
                            refine lv_sipush (v := nI 128) hx hb d_Mo_write_158 (by decide) ?_
                            refine lv_aload_n hx hb d_Mo_write_161 rfl (lv_at hl 0 rfl) ?_
                            refine va_get (D := D) (ci := 5) (v := .ref r2) (C := R_Mo) (T := F_Mo) (N := 9) hx hb hts i_Mo hown hK hP 0 rfl rfl 1 (by decide) (hts _ fl_Mo_13) (fun _ h9 => h9) rfl d_Mo_write_162 ?_
                            refine lv_iload hx hb d_Mo_write_165 (lv_at hl 5 rfl) ?_
                            refine va_iald hx hb hK hP 2 1 rfl rfl (vp_in_nI (by omega) (by decide)) d_Mo_write_167 ?_
                            refine q_ti (y := (qm_P pl) (128 * v + pc)) (by rw [nI_clamp (by omega)]) ?_
                            refine q_ti (y := nI w) (qm_Pk kz) ?_
                            refine lv_imul hx hb d_Mo_write_168 ?_
                            refine q_ti (y := nI (128 * w)) (pk_mul _ _) ?_
                            refine lv_iload hx hb d_Mo_write_169 (lv_at hl 6 rfl) ?_
                            refine lv_iadd hx hb d_Mo_write_171 ?_
                            refine q_ti (y := nI (128 * w + (u + i))) (nI_add _ _) ?_
                            refine lv_iload hx hb d_Mo_write_172 (lv_at hl 4 rfl) ?_
                            refine lv_i2b (v := (nI y).toInt8.toInt32) hx hb d_Mo_write_174 rfl ?_
                            refine va_bast hx hb hK hP hD hS 5 2 rfl rfl (vp_in_nI (by omega) (by decide)) d_Mo_write_175 (fun H locs hP hD hS => ?_)
                            rw [nI_clamp (by omega)] at hP hD
                            have hP : va_P D cls [(mo, .inr (5, [.ref r1, .ref r2, .ref r3, .ref r4, .ref r5, .ref r6, .int (md + nI 1), .int (ck), .int (nI 0)])), (r1, .inl (cZ, 32, .inl (qm_T th))), (r2, .inl (cI, 4096, .inl (qm_P pl))), (r3, .inl (cI, 4096, .inl (upd mk (128 * v + pc) (md + nI 1)))), (r4, .inl (cI, 64, .inl (nt))), (r5, .inl (cB, 76800, .inl (upd (qv_for (i) (fun g j => upd g (128 * w + (u + j)) (vp_nar .byte (nI y).toInt8.toInt32)) (bt)) (128 * w + (u + i)) (vp_nar .byte ((nI y).toInt8.toInt32))))), (r6, .inl (cZ, 600, .inl (qm_T us)))] H := hP
                            have hD : va_D A [(mo, .inr (5, [.ref r1, .ref r2, .ref r3, .ref r4, .ref r5, .ref r6, .int (md + nI 1), .int (ck), .int (nI 0)])), (r1, .inl (cZ, 32, .inl (qm_T th))), (r2, .inl (cI, 4096, .inl (qm_P pl))), (r3, .inl (cI, 4096, .inl (upd mk (128 * v + pc) (md + nI 1)))), (r4, .inl (cI, 64, .inl (nt))), (r5, .inl (cB, 76800, .inl (upd (qv_for (i) (fun g j => upd g (128 * w + (u + j)) (vp_nar .byte (nI y).toInt8.toInt32)) (bt)) (128 * w + (u + i)) (vp_nar .byte ((nI y).toInt8.toInt32))))), (r6, .inl (cZ, 600, .inl (qm_T us)))] := hD
                            refine lv_iinc (v := nI (u + i + 1)) (lv' := [(7, .int (nI (u + i + 1))), (0, .ref mo), (1, .int (nI v)), (3, .int (nI u)), (4, .int (nI n)), (5, .int (nI y)), (6, .int (nI (128 * v + pc)))]) hx hb d_Mo_write_176 hl (k := 6) rfl (nI_1 _) (by decide) rfl (fun ls hl => ?_)
                            refine lv_goto (tgt := 145) hx hb d_Mo_write_179 (by decide) ?_
                            exact ih (()) _ _ _ ⟨hP, hD, hS, lv_sub hl [1, 2, 3, 4, 5, 6, 0] rfl⟩
                      · have c107 := qm_Ph (kpl _) c107
                        rw [kz] at c107; omega
                    · have c84 := qm_Ph (kpl _) c84
                      rw [kz] at c84; omega
                  · have c63 : ¬ y ≤ 255 := fun h9 => c63 ((nI_leI (by omega) (by omega)).mpr h9)
                    exfalso; omega
  · have c4 : ¬ 0 = 0 := fun h9 => c4 ((q_z_eq (by omega)).mpr h9)
    exfalso; omega
set_option maxHeartbeats 4000000 in
set_option maxRecDepth 100000 in
theorem c_Mo_write_new (l : Launch) (D : va_G) (cZ : ClassId) (cI : ClassId) (cB : ClassId) (mo : Nat) (r1 : Nat) (r2 : Nat) (r3 : Nat) (r4 : Nat) (r5 : Nat) (r6 : Nat) (th : Nat → Bool) (pl : Nat → Nat) (mk : Nat → Int32) (nt : Nat → Int32) (bt : Nat → Int32) (us : Nat → Bool) (md : Int32) (ck : Int32) (v : Nat) (pc : Nat) (u : Nat) (n : Nat) (y : Nat) (fr : Nat) (kv : v < 16) (kpc : pc < 128) (kn : 1 ≤ n) (ku : u + n ≤ 128) (ky : y < 256) (kt : th v = true) (kpl : ∀ k, pl k ≤ 600) (kz : pl (128 * v + pc) = 0) (kf : ¬ qs_ (16) (fun v => qm_ct pl (128 * v) 128) = 300) (kfr : fr < 600) (kus : us fr = false) (kl : ∀ j, j < fr → us j = true) : qMi l y_Mo_write b_Mo_write 8 (some .int) (rmL 3) D [(cZ, .boolean), (cI, .int), (cB, .byte)] [.ref mo, .int (nI v), .int (nI pc), .int (nI u), .int (nI n), .int (nI y)] [(mo, .inr (5, [.ref r1, .ref r2, .ref r3, .ref r4, .ref r5, .ref r6, .int (md), .int (ck), .int (nI 0)])), (r1, .inl (cZ, 32, .inl (qm_T th))), (r2, .inl (cI, 4096, .inl (qm_P pl))), (r3, .inl (cI, 4096, .inl (mk))), (r4, .inl (cI, 64, .inl (nt))), (r5, .inl (cB, 76800, .inl (bt))), (r6, .inl (cZ, 600, .inl (qm_T us)))] [(mo, .inr (5, [.ref r1, .ref r2, .ref r3, .ref r4, .ref r5, .ref r6, .int (md + nI 1), .int (ck), .int (nI 0)])), (r1, .inl (cZ, 32, .inl (qm_T th))), (r2, .inl (cI, 4096, .inl (qm_P (va_up pl (128 * v + pc) (fr + 1))))), (r3, .inl (cI, 4096, .inl (upd mk (128 * v + pc) (md + nI 1)))), (r4, .inl (cI, 64, .inl (nt))), (r5, .inl (cB, 76800, .inl (qv_for (n) (fun g j => upd g (128 * fr + (u + j)) (vp_nar .byte (nI y).toInt8.toInt32)) (qv_for (128) (fun g j => upd g (128 * fr + j) (vp_nar .byte (nI 0))) bt)))), (r6, .inl (cZ, 600, .inl (qm_T (va_up us fr true))))] (nI (qm_ct (va_up pl (128 * v + pc) (fr + 1)) (128 * v) 128)) := by
  refine q_start (Qc := qZi D _ _ _) (by decide +kernel) (Nat.le_of_ble_eq_true rfl) ?_
  intro p e s m below meth c A hx hb hr hlk hml hown hts hK hP hD hS hA hN ls hl
  have hl : lv_has ls 8 [(0, .ref mo), (1, .int (nI v)), (2, .int (nI pc)), (3, .int (nI u)), (4, .int (nI n)), (5, .int (nI y))] := hl
  have hP : va_P D cls [(mo, .inr (5, [.ref r1, .ref r2, .ref r3, .ref r4, .ref r5, .ref r6, .int (md), .int (ck), .int (nI 0)])), (r1, .inl (cZ, 32, .inl (qm_T th))), (r2, .inl (cI, 4096, .inl (qm_P pl))), (r3, .inl (cI, 4096, .inl (mk))), (r4, .inl (cI, 64, .inl (nt))), (r5, .inl (cB, 76800, .inl (bt))), (r6, .inl (cZ, 600, .inl (qm_T us)))] s.heap := hP
  have hD : va_D A [(mo, .inr (5, [.ref r1, .ref r2, .ref r3, .ref r4, .ref r5, .ref r6, .int (md), .int (ck), .int (nI 0)])), (r1, .inl (cZ, 32, .inl (qm_T th))), (r2, .inl (cI, 4096, .inl (qm_P pl))), (r3, .inl (cI, 4096, .inl (mk))), (r4, .inl (cI, 64, .inl (nt))), (r5, .inl (cB, 76800, .inl (bt))), (r6, .inl (cZ, 600, .inl (qm_T us)))] := hD
  refine lv_aload_n hx hb d_Mo_write_0 rfl (lv_at hl 0 rfl) ?_
  refine va_get (D := D) (ci := 5) (v := .int (nI 0)) (C := R_Mo) (T := F_Mo) (N := 9) hx hb hts i_Mo hown hK hP 0 rfl rfl 8 (by decide) (hts _ fl_Mo_38) (fun _ h9 => h9) rfl d_Mo_write_1 ?_
  refine lv_if_eq (tgt := 10) hx hb d_Mo_write_4 (by decide) (fun c4 => ?_) (fun c4 => ?_)
  · have c4 : 0 = 0 := (q_z_eq (by omega)).mp c4
    refine lv_aload_n hx hb d_Mo_write_10 rfl (lv_at hl 0 rfl) ?_
    refine lv_iload_n hx hb d_Mo_write_11 rfl (lv_at hl 1 rfl) ?_
    refine q_callVi (As := [.int (nI v)]) (rest := []) (wsC := [(mo, .inr (5, [.ref r1, .ref r2, .ref r3, .ref r4, .ref r5, .ref r6, .int (md), .int (ck), .int (nI 0)])), (r1, .inl (cZ, 32, .inl (qm_T th))), (r2, .inl (cI, 4096, .inl (qm_P pl))), (r3, .inl (cI, 4096, .inl (mk))), (r4, .inl (cI, 64, .inl (nt))), (r5, .inl (cB, 76800, .inl (bt))), (r6, .inl (cZ, 600, .inl (qm_T us)))]) (wsR := []) (wsC' := [(mo, .inr (5, [.ref r1, .ref r2, .ref r3, .ref r4, .ref r5, .ref r6, .int (md), .int (ck), .int (nI 0)])), (r1, .inl (cZ, 32, .inl (qm_T th))), (r2, .inl (cI, 4096, .inl (qm_P pl))), (r3, .inl (cI, 4096, .inl (mk))), (r4, .inl (cI, 64, .inl (nt))), (r5, .inl (cB, 76800, .inl (bt))), (r6, .inl (cZ, 600, .inl (qm_T us)))]) (wsN := [(mo, .inr (5, [.ref r1, .ref r2, .ref r3, .ref r4, .ref r5, .ref r6, .int (md), .int (ck), .int (nI 0)])), (r1, .inl (cZ, 32, .inl (qm_T th))), (r2, .inl (cI, 4096, .inl (qm_P pl))), (r3, .inl (cI, 4096, .inl (mk))), (r4, .inl (cI, 64, .inl (nt))), (r5, .inl (cB, 76800, .inl (bt))), (r6, .inl (cZ, 600, .inl (qm_T us)))]) (isT := [0, 1, 2]) (isC := [0, 1, 2, 3, 4, 5, 6]) (isR := []) (isN := [0, 1, 2, 3, 4, 5, 6]) (k := 1) (ci := 5) (C := R_Mo) ⟨hx, hb, hml, hown, hts⟩ (c_Mo_isThereY l D cZ cI cB mo r1 r2 r3 r4 r5 r6 th pl mk nt bt us md ck v (by omega) kt) (tw_V ml_Mo_46 im_Mo_isThere se_Mo_isThere in_Mo cd_Mo_isThere) rfl ⟨by decide +kernel, Nat.le_of_ble_eq_true rfl, Nat.le_of_ble_eq_true rfl⟩ ⟨Nat.le_of_ble_eq_true rfl, Nat.le_of_ble_eq_true rfl⟩ hK hP hD hS hA hN rfl ⟨rfl, rfl, rfl, by decide, by decide, by decide, by decide⟩ rfl rfl rfl hl.1 rfl rfl (Nat.le_of_ble_eq_true rfl) d_Mo_write_12 (fun H locs hP hD hS => ?_)
    refine lv_if_eq (tgt := 66) hx hb d_Mo_write_15 (by decide) (fun c15 => ?_) (fun c15 => ?_)
    · have c15 : 1 = 0 := (q_z_eq (by omega)).mp c15
      exfalso; omega
    · have c15 : ¬ 1 = 0 := fun h9 => c15 ((q_z_eq (by omega)).mpr h9)
      refine lv_iload_n hx hb d_Mo_write_18 rfl (lv_at hl 2 rfl) ?_
      refine q_callSi (As := [.int (nI pc)]) (rest := []) (wsC := []) (wsR := [(mo, .inr (5, [.ref r1, .ref r2, .ref r3, .ref r4, .ref r5, .ref r6, .int (md), .int (ck), .int (nI 0)])), (r1, .inl (cZ, 32, .inl (qm_T th))), (r2, .inl (cI, 4096, .inl (qm_P pl))), (r3, .inl (cI, 4096, .inl (mk))), (r4, .inl (cI, 64, .inl (nt))), (r5, .inl (cB, 76800, .inl (bt))), (r6, .inl (cZ, 600, .inl (qm_T us)))]) (wsC' := []) (wsN := [(mo, .inr (5, [.ref r1, .ref r2, .ref r3, .ref r4, .ref r5, .ref r6, .int (md), .int (ck), .int (nI 0)])), (r1, .inl (cZ, 32, .inl (qm_T th))), (r2, .inl (cI, 4096, .inl (qm_P pl))), (r3, .inl (cI, 4096, .inl (mk))), (r4, .inl (cI, 64, .inl (nt))), (r5, .inl (cB, 76800, .inl (bt))), (r6, .inl (cZ, 600, .inl (qm_T us)))]) (isT := []) (isC := []) (isR := [0, 1, 2, 3, 4, 5, 6]) (isN := [0, 1, 2, 3, 4, 5, 6]) (k := 1) ⟨hx, hb, hml, hown, hts⟩ (c_Mo_isPieceY l D pc (by omega)) (tw_S ml_Mo_61 st_Mo_isPiece in_Mo cd_Mo_isPiece) ⟨by decide +kernel, Nat.le_of_ble_eq_true rfl, Nat.le_of_ble_eq_true rfl⟩ ⟨Nat.le_of_ble_eq_true rfl, Nat.le_of_ble_eq_true rfl⟩ hK hP hD hS hA hN rfl ⟨rfl, rfl, rfl, by decide, by decide, by decide, by decide⟩ hl.1 rfl rfl (Nat.le_of_ble_eq_true rfl) d_Mo_write_19 (fun H locs hP hD hS => ?_)
      refine lv_if_eq (tgt := 66) hx hb d_Mo_write_22 (by decide) (fun c22 => ?_) (fun c22 => ?_)
      · have c22 : 1 = 0 := (q_z_eq (by omega)).mp c22
        exfalso; omega
      · have c22 : ¬ 1 = 0 := fun h9 => c22 ((q_z_eq (by omega)).mpr h9)
        refine lv_iload hx hb d_Mo_write_25 (lv_at hl 4 rfl) ?_
        refine lv_iconst (v := nI 1) hx hb d_Mo_write_27 (by decide) ?_
        refine lv_icmp_lt (tgt := 66) hx hb d_Mo_write_28 (by decide) (fun c28 => ?_) (fun c28 => ?_)
        · have c28 : n < 1 := (nI_ltI (by omega) (by omega)).mp c28
          exfalso; omega
        · have c28 : ¬ n < 1 := fun h9 => c28 ((nI_ltI (by omega) (by omega)).mpr h9)
          refine lv_iload hx hb d_Mo_write_31 (lv_at hl 4 rfl) ?_
          refine lv_sipush (v := nI 128) hx hb d_Mo_write_33 (by decide) ?_
          refine lv_icmp_gt (tgt := 66) hx hb d_Mo_write_36 (by decide) (fun c36 => ?_) (fun c36 => ?_)
          · have c36 : 128 < n := (nI_ltI (by omega) (by omega)).mp c36
            exfalso; omega
          · have c36 : ¬ 128 < n := fun h9 => c36 ((nI_ltI (by omega) (by omega)).mpr h9)
            refine lv_iload_n hx hb d_Mo_write_39 rfl (lv_at hl 3 rfl) ?_
            refine lv_if_lt (tgt := 66) hx hb d_Mo_write_40 (by decide) (fun c40 => ?_) (fun c40 => ?_)
            · exact absurd c40 (nI_pos (by omega))
            · refine lv_iload_n hx hb d_Mo_write_43 rfl (lv_at hl 3 rfl) ?_
              refine lv_sipush (v := nI 128) hx hb d_Mo_write_44 (by decide) ?_
              refine lv_iload hx hb d_Mo_write_47 (lv_at hl 4 rfl) ?_
              refine lv_isub hx hb d_Mo_write_49 ?_
              refine q_ti (y := nI (128 - n)) (pk_sub (by omega)) ?_
              refine lv_icmp_gt (tgt := 66) hx hb d_Mo_write_50 (by decide) (fun c50 => ?_) (fun c50 => ?_)
              · have c50 : (128 - n) < u := (nI_ltI (by omega) (by omega)).mp c50
                exfalso; omega
              · have c50 : ¬ (128 - n) < u := fun h9 => c50 ((nI_ltI (by omega) (by omega)).mpr h9)
                refine lv_iload hx hb d_Mo_write_53 (lv_at hl 5 rfl) ?_
                refine lv_if_lt (tgt := 66) hx hb d_Mo_write_55 (by decide) (fun c55 => ?_) (fun c55 => ?_)
                · exact absurd c55 (nI_pos (by omega))
                · refine lv_iload hx hb d_Mo_write_58 (lv_at hl 5 rfl) ?_
                  refine lv_sipush (v := nI 255) hx hb d_Mo_write_60 (by decide) ?_
                  refine lv_icmp_le (tgt := 68) hx hb d_Mo_write_63 (by decide) (fun c63 => ?_) (fun c63 => ?_)
                  · have c63 : y ≤ 255 := (nI_leI (by omega) (by omega)).mp c63
                    refine lv_sipush (v := nI 128) hx hb d_Mo_write_68 (by decide) ?_
                    refine lv_iload_n hx hb d_Mo_write_71 rfl (lv_at hl 1 rfl) ?_
                    refine lv_imul hx hb d_Mo_write_72 ?_
                    refine q_ti (y := nI (128 * v)) (pk_mul _ _) ?_
                    refine lv_iload_n hx hb d_Mo_write_73 rfl (lv_at hl 2 rfl) ?_
                    refine lv_iadd hx hb d_Mo_write_74 ?_
                    refine q_ti (y := nI (128 * v + pc)) (nI_add _ _) ?_
                    refine lv_istore (lv' := [(6, .int (nI (128 * v + pc))), (0, .ref mo), (1, .int (nI v)), (2, .int (nI pc)), (3, .int (nI u)), (4, .int (nI n)), (5, .int (nI y))]) hx hb d_Mo_write_75 hl (by decide) rfl (fun ls hl => ?_)
                    refine lv_aload_n hx hb d_Mo_write_77 rfl (lv_at hl 1 rfl) ?_
                    refine va_get (D := D) (ci := 5) (v := .ref r2) (C := R_Mo) (T := F_Mo) (N := 9) hx hb hts i_Mo hown hK hP 0 rfl rfl 1 (by decide) (hts _ fl_Mo_13) (fun _ h9 => h9) rfl d_Mo_write_78 ?_
                    refine lv_iload hx hb d_Mo_write_81 (lv_at hl 0 rfl) ?_
                    refine va_iald hx hb hK hP 2 1 rfl rfl (vp_in_nI (by omega) (by decide)) d_Mo_write_83 ?_
                    refine q_ti (y := (qm_P pl) (128 * v + pc)) (by rw [nI_clamp (by omega)]) ?_
                    refine lv_if_ge (tgt := 100) hx hb d_Mo_write_84 (by decide) (fun c84 => ?_) (fun c84 => ?_)
                    · have c84 := qm_Pg (kpl _) c84
                      exact absurd kz c84
                    · have c84 := qm_Ph (kpl _) c84
                      refine lv_aload_n hx hb d_Mo_write_87 rfl (lv_at hl 1 rfl) ?_
                      refine q_callVi (As := []) (rest := []) (wsC := [(mo, .inr (5, [.ref r1, .ref r2, .ref r3, .ref r4, .ref r5, .ref r6, .int (md), .int (ck), .int (nI 0)])), (r1, .inl (cZ, 32, .inl (qm_T th))), (r2, .inl (cI, 4096, .inl (qm_P pl))), (r3, .inl (cI, 4096, .inl (mk))), (r4, .inl (cI, 64, .inl (nt))), (r5, .inl (cB, 76800, .inl (bt))), (r6, .inl (cZ, 600, .inl (qm_T us)))]) (wsR := []) (wsC' := [(mo, .inr (5, [.ref r1, .ref r2, .ref r3, .ref r4, .ref r5, .ref r6, .int (md), .int (ck), .int (nI 0)])), (r1, .inl (cZ, 32, .inl (qm_T th))), (r2, .inl (cI, 4096, .inl (qm_P pl))), (r3, .inl (cI, 4096, .inl (mk))), (r4, .inl (cI, 64, .inl (nt))), (r5, .inl (cB, 76800, .inl (bt))), (r6, .inl (cZ, 600, .inl (qm_T us)))]) (wsN := [(mo, .inr (5, [.ref r1, .ref r2, .ref r3, .ref r4, .ref r5, .ref r6, .int (md), .int (ck), .int (nI 0)])), (r1, .inl (cZ, 32, .inl (qm_T th))), (r2, .inl (cI, 4096, .inl (qm_P pl))), (r3, .inl (cI, 4096, .inl (mk))), (r4, .inl (cI, 64, .inl (nt))), (r5, .inl (cB, 76800, .inl (bt))), (r6, .inl (cZ, 600, .inl (qm_T us)))]) (isT := [0, 1, 2]) (isC := [0, 1, 2, 3, 4, 5, 6]) (isR := []) (isN := [0, 1, 2, 3, 4, 5, 6]) (k := 0) (ci := 5) (C := R_Mo) ⟨hx, hb, hml, hown, hts⟩ (c_Mo_all l D cZ cI cB mo r1 r2 r3 r4 r5 r6 th pl mk nt bt us md ck kpl) (tw_V ml_Mo_50 im_Mo_all se_Mo_all in_Mo cd_Mo_all) rfl ⟨by decide +kernel, Nat.le_of_ble_eq_true rfl, Nat.le_of_ble_eq_true rfl⟩ ⟨Nat.le_of_ble_eq_true rfl, Nat.le_of_ble_eq_true rfl⟩ hK hP hD hS hA hN rfl ⟨rfl, rfl, rfl, by decide, by decide, by decide, by decide⟩ rfl rfl rfl hl.1 rfl rfl (Nat.le_of_ble_eq_true rfl) d_Mo_write_88 (fun H locs hP hD hS => ?_)
                      have hq1 := qm_all_le pl 16
                      refine lv_sipush (v := nI 300) hx hb d_Mo_write_91 (by decide) ?_
                      refine lv_icmp_ne (tgt := 100) hx hb d_Mo_write_94 (by decide) (fun c94 => ?_) (fun c94 => ?_)
                      · have c94 : ¬ (qs_ (16) (fun v => qm_ct pl (128 * v) 128)) = 300 := fun h9 => c94 ((nI_eq (by omega) (by omega)).mpr h9)
                        refine lv_aload_n hx hb d_Mo_write_100 rfl (lv_at hl 1 rfl) ?_
                        refine va_get (D := D) (ci := 5) (v := .ref r2) (C := R_Mo) (T := F_Mo) (N := 9) hx hb hts i_Mo hown hK hP 0 rfl rfl 1 (by decide) (hts _ fl_Mo_13) (fun _ h9 => h9) rfl d_Mo_write_101 ?_
                        refine lv_iload hx hb d_Mo_write_104 (lv_at hl 0 rfl) ?_
                        refine va_iald hx hb hK hP 2 1 rfl rfl (vp_in_nI (by omega) (by decide)) d_Mo_write_106 ?_
                        refine q_ti (y := (qm_P pl) (128 * v + pc)) (by rw [nI_clamp (by omega)]) ?_
                        refine lv_if_ge (tgt := 121) hx hb d_Mo_write_107 (by decide) (fun c107 => ?_) (fun c107 => ?_)
                        · have c107 := qm_Pg (kpl _) c107
                          exact absurd kz c107
                        · have c107 := qm_Ph (kpl _) c107
                          refine lv_aload_n hx hb d_Mo_write_110 rfl (lv_at hl 1 rfl) ?_
                          refine va_get (D := D) (ci := 5) (v := .ref r2) (C := R_Mo) (T := F_Mo) (N := 9) hx hb hts i_Mo hown hK hP 0 rfl rfl 1 (by decide) (hts _ fl_Mo_13) (fun _ h9 => h9) rfl d_Mo_write_111 ?_
                          refine lv_iload hx hb d_Mo_write_114 (lv_at hl 0 rfl) ?_
                          refine lv_aload_n hx hb d_Mo_write_116 rfl (lv_at hl 1 rfl) ?_
                          refine q_callVi (As := []) (rest := [.int (nI (128 * v + pc)), .ref r2]) (wsC := [(mo, .inr (5, [.ref r1, .ref r2, .ref r3, .ref r4, .ref r5, .ref r6, .int (md), .int (ck), .int (nI 0)])), (r1, .inl (cZ, 32, .inl (qm_T th))), (r2, .inl (cI, 4096, .inl (qm_P pl))), (r3, .inl (cI, 4096, .inl (mk))), (r4, .inl (cI, 64, .inl (nt))), (r5, .inl (cB, 76800, .inl (bt))), (r6, .inl (cZ, 600, .inl (qm_T us)))]) (wsR := []) (wsC' := [(mo, .inr (5, [.ref r1, .ref r2, .ref r3, .ref r4, .ref r5, .ref r6, .int (md), .int (ck), .int (nI 0)])), (r1, .inl (cZ, 32, .inl (qm_T th))), (r2, .inl (cI, 4096, .inl (qm_P pl))), (r3, .inl (cI, 4096, .inl (mk))), (r4, .inl (cI, 64, .inl (nt))), (r5, .inl (cB, 76800, .inl (qv_for (128) (fun g j => upd g (128 * fr + j) (vp_nar .byte (nI 0))) bt))), (r6, .inl (cZ, 600, .inl (qm_T (va_up us fr true))))]) (wsN := [(mo, .inr (5, [.ref r1, .ref r2, .ref r3, .ref r4, .ref r5, .ref r6, .int (md), .int (ck), .int (nI 0)])), (r1, .inl (cZ, 32, .inl (qm_T th))), (r2, .inl (cI, 4096, .inl (qm_P pl))), (r3, .inl (cI, 4096, .inl (mk))), (r4, .inl (cI, 64, .inl (nt))), (r5, .inl (cB, 76800, .inl (qv_for (128) (fun g j => upd g (128 * fr + j) (vp_nar .byte (nI 0))) bt))), (r6, .inl (cZ, 600, .inl (qm_T (va_up us fr true))))]) (isT := [0, 1, 2]) (isC := [0, 1, 2, 3, 4, 5, 6]) (isR := []) (isN := [0, 1, 2, 3, 4, 5, 6]) (k := 0) (ci := 5) (C := R_Mo) ⟨hx, hb, hml, hown, hts⟩ (c_Mo_fresh l D cZ cI cB mo r1 r2 r3 r4 r5 r6 th pl mk nt bt us md ck fr kfr kus kl) (tw_V ml_Mo_54 im_Mo_fresh se_Mo_fresh in_Mo cd_Mo_fresh) rfl ⟨by decide +kernel, Nat.le_of_ble_eq_true rfl, Nat.le_of_ble_eq_true rfl⟩ ⟨Nat.le_of_ble_eq_true rfl, Nat.le_of_ble_eq_true rfl⟩ hK hP hD hS hA hN rfl ⟨rfl, rfl, rfl, by decide, by decide, by decide, by decide⟩ rfl rfl rfl hl.1 rfl rfl (Nat.le_of_ble_eq_true rfl) d_Mo_write_117 (fun H locs hP hD hS => ?_)
                          refine va_iast hx hb hK hP hD hS 2 1 rfl rfl (vp_in_nI (by omega) (by decide)) d_Mo_write_120 (fun H locs hP hD hS => ?_)
                          rw [nI_clamp (by omega)] at hP hD
                          have hP : va_P D cls [(mo, .inr (5, [.ref r1, .ref r2, .ref r3, .ref r4, .ref r5, .ref r6, .int (md), .int (ck), .int (nI 0)])), (r1, .inl (cZ, 32, .inl (qm_T th))), (r2, .inl (cI, 4096, .inl (upd (qm_P pl) (128 * v + pc) (nI fr)))), (r3, .inl (cI, 4096, .inl (mk))), (r4, .inl (cI, 64, .inl (nt))), (r5, .inl (cB, 76800, .inl (qv_for (128) (fun g j => upd g (128 * fr + j) (vp_nar .byte (nI 0))) bt))), (r6, .inl (cZ, 600, .inl (qm_T (va_up us fr true))))] H := hP
                          have hD : va_D A [(mo, .inr (5, [.ref r1, .ref r2, .ref r3, .ref r4, .ref r5, .ref r6, .int (md), .int (ck), .int (nI 0)])), (r1, .inl (cZ, 32, .inl (qm_T th))), (r2, .inl (cI, 4096, .inl (upd (qm_P pl) (128 * v + pc) (nI fr)))), (r3, .inl (cI, 4096, .inl (mk))), (r4, .inl (cI, 64, .inl (nt))), (r5, .inl (cB, 76800, .inl (qv_for (128) (fun g j => upd g (128 * fr + j) (vp_nar .byte (nI 0))) bt))), (r6, .inl (cZ, 600, .inl (qm_T (va_up us fr true))))] := hD
                          rw [qm_Pw] at hP hD
                          have hP : va_P D cls [(mo, .inr (5, [.ref r1, .ref r2, .ref r3, .ref r4, .ref r5, .ref r6, .int (md), .int (ck), .int (nI 0)])), (r1, .inl (cZ, 32, .inl (qm_T th))), (r2, .inl (cI, 4096, .inl (qm_P (va_up pl (128 * v + pc) (fr + 1))))), (r3, .inl (cI, 4096, .inl (mk))), (r4, .inl (cI, 64, .inl (nt))), (r5, .inl (cB, 76800, .inl (qv_for (128) (fun g j => upd g (128 * fr + j) (vp_nar .byte (nI 0))) bt))), (r6, .inl (cZ, 600, .inl (qm_T (va_up us fr true))))] H := hP
                          have hD : va_D A [(mo, .inr (5, [.ref r1, .ref r2, .ref r3, .ref r4, .ref r5, .ref r6, .int (md), .int (ck), .int (nI 0)])), (r1, .inl (cZ, 32, .inl (qm_T th))), (r2, .inl (cI, 4096, .inl (qm_P (va_up pl (128 * v + pc) (fr + 1))))), (r3, .inl (cI, 4096, .inl (mk))), (r4, .inl (cI, 64, .inl (nt))), (r5, .inl (cB, 76800, .inl (qv_for (128) (fun g j => upd g (128 * fr + j) (vp_nar .byte (nI 0))) bt))), (r6, .inl (cZ, 600, .inl (qm_T (va_up us fr true))))] := hD
                          refine lv_aload_n hx hb d_Mo_write_121 rfl (lv_at hl 1 rfl) ?_
                          refine lv_dup hx hb d_Mo_write_122 rfl ?_
                          refine va_get (D := D) (ci := 5) (v := .int (md)) (C := R_Mo) (T := F_Mo) (N := 9) hx hb hts i_Mo hown hK hP 0 rfl rfl 6 (by decide) (hts _ fl_Mo_64) (fun _ h9 => h9) rfl d_Mo_write_123 ?_
                          refine lv_iconst (v := nI 1) hx hb d_Mo_write_126 (by decide) ?_
                          refine lv_iadd hx hb d_Mo_write_127 ?_
                          refine va_put (D := D) (ci := 5) (v := .int (md + (nI 1))) (ty := .int) (C := R_Mo) (T := F_Mo) (N := 9) hx hb hts i_Mo t_Mo t_Mo_ok n_Mo hown hK hP hD hS 0 rfl rfl 6 (by decide) (hts _ fl_Mo_64) (fun _ h9 => h9) rfl (by decide +kernel) rfl rfl (Nat.le_of_ble_eq_true rfl) d_Mo_write_128 (fun H locs hP hD hS => ?_)
                          have hP : va_P D cls [(mo, .inr (5, [.ref r1, .ref r2, .ref r3, .ref r4, .ref r5, .ref r6, .int (md + (nI 1)), .int (ck), .int (nI 0)])), (r1, .inl (cZ, 32, .inl (qm_T th))), (r2, .inl (cI, 4096, .inl (qm_P (va_up pl (128 * v + pc) (fr + 1))))), (r3, .inl (cI, 4096, .inl (mk))), (r4, .inl (cI, 64, .inl (nt))), (r5, .inl (cB, 76800, .inl (qv_for (128) (fun g j => upd g (128 * fr + j) (vp_nar .byte (nI 0))) bt))), (r6, .inl (cZ, 600, .inl (qm_T (va_up us fr true))))] H := hP
                          have hD : va_D A [(mo, .inr (5, [.ref r1, .ref r2, .ref r3, .ref r4, .ref r5, .ref r6, .int (md + (nI 1)), .int (ck), .int (nI 0)])), (r1, .inl (cZ, 32, .inl (qm_T th))), (r2, .inl (cI, 4096, .inl (qm_P (va_up pl (128 * v + pc) (fr + 1))))), (r3, .inl (cI, 4096, .inl (mk))), (r4, .inl (cI, 64, .inl (nt))), (r5, .inl (cB, 76800, .inl (qv_for (128) (fun g j => upd g (128 * fr + j) (vp_nar .byte (nI 0))) bt))), (r6, .inl (cZ, 600, .inl (qm_T (va_up us fr true))))] := hD
                          refine lv_aload_n hx hb d_Mo_write_131 rfl (lv_at hl 1 rfl) ?_
                          refine va_get (D := D) (ci := 5) (v := .ref r3) (C := R_Mo) (T := F_Mo) (N := 9) hx hb hts i_Mo hown hK hP 0 rfl rfl 2 (by decide) (hts _ fl_Mo_17) (fun _ h9 => h9) rfl d_Mo_write_132 ?_
                          refine lv_iload hx hb d_Mo_write_135 (lv_at hl 0 rfl) ?_
                          refine lv_aload_n hx hb d_Mo_write_137 rfl (lv_at hl 1 rfl) ?_
                          refine va_get (D := D) (ci := 5) (v := .int (md + (nI 1))) (C := R_Mo) (T := F_Mo) (N := 9) hx hb hts i_Mo hown hK hP 0 rfl rfl 6 (by decide) (hts _ fl_Mo_64) (fun _ h9 => h9) rfl d_Mo_write_138 ?_
                          refine va_iast hx hb hK hP hD hS 3 1 rfl rfl (vp_in_nI (by omega) (by decide)) d_Mo_write_141 (fun H locs hP hD hS => ?_)
                          rw [nI_clamp (by omega)] at hP hD
                          have hP : va_P D cls [(mo, .inr (5, [.ref r1, .ref r2, .ref r3, .ref r4, .ref r5, .ref r6, .int (md + (nI 1)), .int (ck), .int (nI 0)])), (r1, .inl (cZ, 32, .inl (qm_T th))), (r2, .inl (cI, 4096, .inl (qm_P (va_up pl (128 * v + pc) (fr + 1))))), (r3, .inl (cI, 4096, .inl (upd mk (128 * v + pc) (md + (nI 1))))), (r4, .inl (cI, 64, .inl (nt))), (r5, .inl (cB, 76800, .inl (qv_for (128) (fun g j => upd g (128 * fr + j) (vp_nar .byte (nI 0))) bt))), (r6, .inl (cZ, 600, .inl (qm_T (va_up us fr true))))] H := hP
                          have hD : va_D A [(mo, .inr (5, [.ref r1, .ref r2, .ref r3, .ref r4, .ref r5, .ref r6, .int (md + (nI 1)), .int (ck), .int (nI 0)])), (r1, .inl (cZ, 32, .inl (qm_T th))), (r2, .inl (cI, 4096, .inl (qm_P (va_up pl (128 * v + pc) (fr + 1))))), (r3, .inl (cI, 4096, .inl (upd mk (128 * v + pc) (md + (nI 1))))), (r4, .inl (cI, 64, .inl (nt))), (r5, .inl (cB, 76800, .inl (qv_for (128) (fun g j => upd g (128 * fr + j) (vp_nar .byte (nI 0))) bt))), (r6, .inl (cZ, 600, .inl (qm_T (va_up us fr true))))] := hD
                          refine lv_iload_n hx hb d_Mo_write_142 rfl (lv_at hl 4 rfl) ?_
                          refine lv_istore (lv' := [(7, .int (nI u)), (6, .int (nI (128 * v + pc))), (0, .ref mo), (1, .int (nI v)), (2, .int (nI pc)), (3, .int (nI u)), (4, .int (nI n)), (5, .int (nI y))]) hx hb d_Mo_write_143 hl (by decide) rfl (fun ls hl => ?_)
                          refine q_loop (pc := 145) (σ := Unit) (I := fun i u9 H locs ls => va_P D cls [(mo, .inr (5, [.ref r1, .ref r2, .ref r3, .ref r4, .ref r5, .ref r6, .int (md + nI 1), .int (ck), .int (nI 0)])), (r1, .inl (cZ, 32, .inl (qm_T th))), (r2, .inl (cI, 4096, .inl (qm_P (va_up pl (128 * v + pc) (fr + 1))))), (r3, .inl (cI, 4096, .inl (upd mk (128 * v + pc) (md + nI 1)))), (r4, .inl (cI, 64, .inl (nt))), (r5, .inl (cB, 76800, .inl (qv_for (i) (fun g j => upd g (128 * fr + (u + j)) (vp_nar .byte (nI y).toInt8.toInt32)) (qv_for (128) (fun g j => upd g (128 * fr + j) (vp_nar .byte (nI 0))) bt)))), (r6, .inl (cZ, 600, .inl (qm_T (va_up us fr true))))] H ∧ va_D A [(mo, .inr (5, [.ref r1, .ref r2, .ref r3, .ref r4, .ref r5, .ref r6, .int (md + nI 1), .int (ck), .int (nI 0)])), (r1, .inl (cZ, 32, .inl (qm_T th))), (r2, .inl (cI, 4096, .inl (qm_P (va_up pl (128 * v + pc) (fr + 1))))), (r3, .inl (cI, 4096, .inl (upd mk (128 * v + pc) (md + nI 1)))), (r4, .inl (cI, 64, .inl (nt))), (r5, .inl (cB, 76800, .inl (qv_for (i) (fun g j => upd g (128 * fr + (u + j)) (vp_nar .byte (nI y).toInt8.toInt32)) (qv_for (128) (fun g j => upd g (128 * fr + j) (vp_nar .byte (nI 0))) bt)))), (r6, .inl (cZ, 600, .inl (qm_T (va_up us fr true))))] ∧ va_S A s.heap H locs ∧ lv_has ls 8 [(0, .ref mo), (1, .int (nI v)), (3, .int (nI u)), (4, .int (nI n)), (5, .int (nI y)), (6, .int (nI (128 * v + pc))), (7, .int (nI (u + i)))]) (n) ?_ ?_ (0) (()) _ _ _ (by omega) ⟨hP, hD, hS, lv_sub hl [2, 3, 5, 6, 7, 1, 0] rfl⟩
                          · intro u9 H locs ls hI
                            obtain ⟨hP, hD, hS, hl⟩ := hI
                            refine lv_iload hx hb d_Mo_write_145 (lv_at hl 6 rfl) ?_
                            refine lv_iload_n hx hb d_Mo_write_147 rfl (lv_at hl 2 rfl) ?_
                            refine lv_iload hx hb d_Mo_write_148 (lv_at hl 3 rfl) ?_
                            refine lv_iadd hx hb d_Mo_write_150 ?_
                            refine q_ti (y := nI (u + n)) (nI_add _ _) ?_
                            refine lv_icmp_ge (tgt := 182) hx hb d_Mo_write_151 (by decide) (fun c151 => ?_) (fun c151 => ?_)
                            · have c151 : (u + n) ≤ (u + n) := (nI_leI (by omega) (by omega)).mp c151
                              refine lv_aload_n hx hb d_Mo_write_182 rfl (lv_at hl 0 rfl) ?_
                              refine lv_iload_n hx hb d_Mo_write_183 rfl (lv_at hl 1 rfl) ?_
                              refine q_callVi (As := [.int (nI v)]) (rest := []) (wsC := [(mo, .inr (5, [.ref r1, .ref r2, .ref r3, .ref r4, .ref r5, .ref r6, .int (md + nI 1), .int (ck), .int (nI 0)])), (r1, .inl (cZ, 32, .inl (qm_T th))), (r2, .inl (cI, 4096, .inl (qm_P (va_up pl (128 * v + pc) (fr + 1))))), (r3, .inl (cI, 4096, .inl (upd mk (128 * v + pc) (md + nI 1)))), (r4, .inl (cI, 64, .inl (nt))), (r5, .inl (cB, 76800, .inl (qv_for (n) (fun g j => upd g (128 * fr + (u + j)) (vp_nar .byte (nI y).toInt8.toInt32)) (qv_for (128) (fun g j => upd g (128 * fr + j) (vp_nar .byte (nI 0))) bt)))), (r6, .inl (cZ, 600, .inl (qm_T (va_up us fr true))))]) (wsR := []) (wsC' := [(mo, .inr (5, [.ref r1, .ref r2, .ref r3, .ref r4, .ref r5, .ref r6, .int ((md + nI 1)), .int (ck), .int (nI 0)])), (r1, .inl (cZ, 32, .inl (qm_T th))), (r2, .inl (cI, 4096, .inl (qm_P (va_up pl (128 * v + pc) (fr + 1))))), (r3, .inl (cI, 4096, .inl ((upd mk (128 * v + pc) (md + nI 1))))), (r4, .inl (cI, 64, .inl (nt))), (r5, .inl (cB, 76800, .inl ((qv_for (n) (fun g j => upd g (128 * fr + (u + j)) (vp_nar .byte (nI y).toInt8.toInt32)) (qv_for (128) (fun g j => upd g (128 * fr + j) (vp_nar .byte (nI 0))) bt))))), (r6, .inl (cZ, 600, .inl (qm_T (va_up us fr true))))]) (wsN := [(mo, .inr (5, [.ref r1, .ref r2, .ref r3, .ref r4, .ref r5, .ref r6, .int ((md + nI 1)), .int (ck), .int (nI 0)])), (r1, .inl (cZ, 32, .inl (qm_T th))), (r2, .inl (cI, 4096, .inl (qm_P (va_up pl (128 * v + pc) (fr + 1))))), (r3, .inl (cI, 4096, .inl ((upd mk (128 * v + pc) (md + nI 1))))), (r4, .inl (cI, 64, .inl (nt))), (r5, .inl (cB, 76800, .inl ((qv_for (n) (fun g j => upd g (128 * fr + (u + j)) (vp_nar .byte (nI y).toInt8.toInt32)) (qv_for (128) (fun g j => upd g (128 * fr + j) (vp_nar .byte (nI 0))) bt))))), (r6, .inl (cZ, 600, .inl (qm_T (va_up us fr true))))]) (isT := [0, 1, 2]) (isC := [0, 1, 2, 3, 4, 5, 6]) (isR := []) (isN := [0, 1, 2, 3, 4, 5, 6]) (k := 1) (ci := 5) (C := R_Mo) ⟨hx, hb, hml, hown, hts⟩ (c_Mo_many l D cZ cI cB mo r1 r2 r3 r4 r5 r6 th (va_up pl (128 * v + pc) (fr + 1)) (upd mk (128 * v + pc) (md + nI 1)) nt (qv_for (n) (fun g j => upd g (128 * fr + (u + j)) (vp_nar .byte (nI y).toInt8.toInt32)) (qv_for (128) (fun g j => upd g (128 * fr + j) (vp_nar .byte (nI 0))) bt)) (va_up us fr true) (md + nI 1) ck v (by omega) (qm_up_le kpl (by omega))) (tw_V ml_Mo_42 im_Mo_many se_Mo_many in_Mo cd_Mo_many) rfl ⟨by decide +kernel, Nat.le_of_ble_eq_true rfl, Nat.le_of_ble_eq_true rfl⟩ ⟨Nat.le_of_ble_eq_true rfl, Nat.le_of_ble_eq_true rfl⟩ hK hP hD hS hA hN rfl ⟨rfl, rfl, rfl, by decide, by decide, by decide, by decide⟩ rfl rfl rfl hl.1 rfl rfl (Nat.le_of_ble_eq_true rfl) d_Mo_write_184 (fun H locs hP hD hS => ?_)
                              have hq2 := qm_ct_le (va_up pl (128 * v + pc) (fr + 1)) (128 * v) 128
                              exact q_iret hx hb hr hlk hK hP hD hS d_Mo_write_187 (rfl) (rfl)
                            · have c151 : ¬ (u + n) ≤ (u + n) := fun h9 => c151 ((nI_leI (by omega) (by omega)).mpr h9)
                              exfalso; omega
                          · intro i u9 H locs ls hi hI ih
                            obtain ⟨hP, hD, hS, hl⟩ := hI
                            refine lv_iload hx hb d_Mo_write_145 (lv_at hl 6 rfl) ?_
                            refine lv_iload_n hx hb d_Mo_write_147 rfl (lv_at hl 2 rfl) ?_
                            refine lv_iload hx hb d_Mo_write_148 (lv_at hl 3 rfl) ?_
                            refine lv_iadd hx hb d_Mo_write_150 ?_
                            refine q_ti (y := nI (u + n)) (nI_add _ _) ?_
                            refine lv_icmp_ge (tgt := 182) hx hb d_Mo_write_151 (by decide) (fun c151 => ?_) (fun c151 => ?_)
                            · have c151 : (u + n) ≤ (u + i) := (nI_leI (by omega) (by omega)).mp c151
                              exfalso; omega
                            · have c151 : ¬ (u + n) ≤ (u + i) := fun h9 => c151 ((nI_leI (by omega) (by omega)).mpr h9)
                              refine lv_aload_n hx hb d_Mo_write_154 rfl (lv_at hl 0 rfl) ?_
                              refine va_get (D := D) (ci := 5) (v := .ref r5) (C := R_Mo) (T := F_Mo) (N := 9) hx hb hts i_Mo hown hK hP 0 rfl rfl 4 (by decide) (hts _ fl_Mo_24) (fun _ h9 => h9) rfl d_Mo_write_155 ?_
                              refine lv_sipush (v := nI 128) hx hb d_Mo_write_158 (by decide) ?_
                              refine lv_aload_n hx hb d_Mo_write_161 rfl (lv_at hl 0 rfl) ?_
                              refine va_get (D := D) (ci := 5) (v := .ref r2) (C := R_Mo) (T := F_Mo) (N := 9) hx hb hts i_Mo hown hK hP 0 rfl rfl 1 (by decide) (hts _ fl_Mo_13) (fun _ h9 => h9) rfl d_Mo_write_162 ?_
                              refine lv_iload hx hb d_Mo_write_165 (lv_at hl 5 rfl) ?_
                              refine va_iald hx hb hK hP 2 1 rfl rfl (vp_in_nI (by omega) (by decide)) d_Mo_write_167 ?_
                              refine q_ti (y := (qm_P (va_up pl (128 * v + pc) (fr + 1))) (128 * v + pc)) (by rw [nI_clamp (by omega)]) ?_
                              refine q_ti (y := nI fr) (qm_Pk qf_us) ?_
                              refine lv_imul hx hb d_Mo_write_168 ?_
                              refine q_ti (y := nI (128 * fr)) (pk_mul _ _) ?_
                              refine lv_iload hx hb d_Mo_write_169 (lv_at hl 6 rfl) ?_
                              refine lv_iadd hx hb d_Mo_write_171 ?_
                              refine q_ti (y := nI (128 * fr + (u + i))) (nI_add _ _) ?_
                              refine lv_iload hx hb d_Mo_write_172 (lv_at hl 4 rfl) ?_
                              refine lv_i2b (v := (nI y).toInt8.toInt32) hx hb d_Mo_write_174 rfl ?_
                              refine va_bast hx hb hK hP hD hS 5 2 rfl rfl (vp_in_nI (by omega) (by decide)) d_Mo_write_175 (fun H locs hP hD hS => ?_)
                              rw [nI_clamp (by omega)] at hP hD
                              have hP : va_P D cls [(mo, .inr (5, [.ref r1, .ref r2, .ref r3, .ref r4, .ref r5, .ref r6, .int (md + nI 1), .int (ck), .int (nI 0)])), (r1, .inl (cZ, 32, .inl (qm_T th))), (r2, .inl (cI, 4096, .inl (qm_P (va_up pl (128 * v + pc) (fr + 1))))), (r3, .inl (cI, 4096, .inl (upd mk (128 * v + pc) (md + nI 1)))), (r4, .inl (cI, 64, .inl (nt))), (r5, .inl (cB, 76800, .inl (upd (qv_for (i) (fun g j => upd g (128 * fr + (u + j)) (vp_nar .byte (nI y).toInt8.toInt32)) (qv_for (128) (fun g j => upd g (128 * fr + j) (vp_nar .byte (nI 0))) bt)) (128 * fr + (u + i)) (vp_nar .byte ((nI y).toInt8.toInt32))))), (r6, .inl (cZ, 600, .inl (qm_T (va_up us fr true))))] H := hP
                              have hD : va_D A [(mo, .inr (5, [.ref r1, .ref r2, .ref r3, .ref r4, .ref r5, .ref r6, .int (md + nI 1), .int (ck), .int (nI 0)])), (r1, .inl (cZ, 32, .inl (qm_T th))), (r2, .inl (cI, 4096, .inl (qm_P (va_up pl (128 * v + pc) (fr + 1))))), (r3, .inl (cI, 4096, .inl (upd mk (128 * v + pc) (md + nI 1)))), (r4, .inl (cI, 64, .inl (nt))), (r5, .inl (cB, 76800, .inl (upd (qv_for (i) (fun g j => upd g (128 * fr + (u + j)) (vp_nar .byte (nI y).toInt8.toInt32)) (qv_for (128) (fun g j => upd g (128 * fr + j) (vp_nar .byte (nI 0))) bt)) (128 * fr + (u + i)) (vp_nar .byte ((nI y).toInt8.toInt32))))), (r6, .inl (cZ, 600, .inl (qm_T (va_up us fr true))))] := hD
                              refine lv_iinc (v := nI (u + i + 1)) (lv' := [(7, .int (nI (u + i + 1))), (0, .ref mo), (1, .int (nI v)), (3, .int (nI u)), (4, .int (nI n)), (5, .int (nI y)), (6, .int (nI (128 * v + pc)))]) hx hb d_Mo_write_176 hl (k := 6) rfl (nI_1 _) (by decide) rfl (fun ls hl => ?_)
                              refine lv_goto (tgt := 145) hx hb d_Mo_write_179 (by decide) ?_
                              exact ih (()) _ _ _ ⟨hP, hD, hS, lv_sub hl [1, 2, 3, 4, 5, 6, 0] rfl⟩
                      · have c94 : (qs_ (16) (fun v => qm_ct pl (128 * v) 128)) = 300 := (nI_eq (by omega) (by omega)).mp c94
                        exact absurd c94 kf
                  · have c63 : ¬ y ≤ 255 := fun h9 => c63 ((nI_leI (by omega) (by omega)).mpr h9)
                    exfalso; omega
  · have c4 : ¬ 0 = 0 := fun h9 => c4 ((q_z_eq (by omega)).mpr h9)
    exfalso; omega
set_option maxHeartbeats 4000000 in
set_option maxRecDepth 100000 in
theorem c_Mo_write_full (l : Launch) (D : va_G) (cZ : ClassId) (cI : ClassId) (cB : ClassId) (mo : Nat) (r1 : Nat) (r2 : Nat) (r3 : Nat) (r4 : Nat) (r5 : Nat) (r6 : Nat) (th : Nat → Bool) (pl : Nat → Nat) (mk : Nat → Int32) (nt : Nat → Int32) (bt : Nat → Int32) (us : Nat → Bool) (md : Int32) (ck : Int32) (v : Nat) (pc : Nat) (u : Nat) (n : Nat) (y : Nat) (kv : v < 16) (kpc : pc < 128) (kn : 1 ≤ n) (ku : u + n ≤ 128) (ky : y < 256) (kt : th v = true) (kpl : ∀ k, pl k ≤ 600) (kz : pl (128 * v + pc) = 0) (kf : qs_ (16) (fun v => qm_ct pl (128 * v) 128) = 300) : qMi l y_Mo_write b_Mo_write 8 (some .int) (rmL 3) D [(cZ, .boolean), (cI, .int), (cB, .byte)] [.ref mo, .int (nI v), .int (nI pc), .int (nI u), .int (nI n), .int (nI y)] [(mo, .inr (5, [.ref r1, .ref r2, .ref r3, .ref r4, .ref r5, .ref r6, .int (md), .int (ck), .int (nI 0)])), (r1, .inl (cZ, 32, .inl (qm_T th))), (r2, .inl (cI, 4096, .inl (qm_P pl))), (r3, .inl (cI, 4096, .inl (mk))), (r4, .inl (cI, 64, .inl (nt))), (r5, .inl (cB, 76800, .inl (bt))), (r6, .inl (cZ, 600, .inl (qm_T us)))] [(mo, .inr (5, [.ref r1, .ref r2, .ref r3, .ref r4, .ref r5, .ref r6, .int (md), .int (ck), .int (nI 0)])), (r1, .inl (cZ, 32, .inl (qm_T th))), (r2, .inl (cI, 4096, .inl (qm_P pl))), (r3, .inl (cI, 4096, .inl (mk))), (r4, .inl (cI, 64, .inl (nt))), (r5, .inl (cB, 76800, .inl (bt))), (r6, .inl (cZ, 600, .inl (qm_T us)))] ((-3 : Int32)) := by
  refine q_start (Qc := qZi D _ _ _) (by decide +kernel) (Nat.le_of_ble_eq_true rfl) ?_
  intro p e s m below meth c A hx hb hr hlk hml hown hts hK hP hD hS hA hN ls hl
  have hl : lv_has ls 8 [(0, .ref mo), (1, .int (nI v)), (2, .int (nI pc)), (3, .int (nI u)), (4, .int (nI n)), (5, .int (nI y))] := hl
  have hP : va_P D cls [(mo, .inr (5, [.ref r1, .ref r2, .ref r3, .ref r4, .ref r5, .ref r6, .int (md), .int (ck), .int (nI 0)])), (r1, .inl (cZ, 32, .inl (qm_T th))), (r2, .inl (cI, 4096, .inl (qm_P pl))), (r3, .inl (cI, 4096, .inl (mk))), (r4, .inl (cI, 64, .inl (nt))), (r5, .inl (cB, 76800, .inl (bt))), (r6, .inl (cZ, 600, .inl (qm_T us)))] s.heap := hP
  have hD : va_D A [(mo, .inr (5, [.ref r1, .ref r2, .ref r3, .ref r4, .ref r5, .ref r6, .int (md), .int (ck), .int (nI 0)])), (r1, .inl (cZ, 32, .inl (qm_T th))), (r2, .inl (cI, 4096, .inl (qm_P pl))), (r3, .inl (cI, 4096, .inl (mk))), (r4, .inl (cI, 64, .inl (nt))), (r5, .inl (cB, 76800, .inl (bt))), (r6, .inl (cZ, 600, .inl (qm_T us)))] := hD
  refine lv_aload_n hx hb d_Mo_write_0 rfl (lv_at hl 0 rfl) ?_
  refine va_get (D := D) (ci := 5) (v := .int (nI 0)) (C := R_Mo) (T := F_Mo) (N := 9) hx hb hts i_Mo hown hK hP 0 rfl rfl 8 (by decide) (hts _ fl_Mo_38) (fun _ h9 => h9) rfl d_Mo_write_1 ?_
  refine lv_if_eq (tgt := 10) hx hb d_Mo_write_4 (by decide) (fun c4 => ?_) (fun c4 => ?_)
  · have c4 : 0 = 0 := (q_z_eq (by omega)).mp c4
    refine lv_aload_n hx hb d_Mo_write_10 rfl (lv_at hl 0 rfl) ?_
    refine lv_iload_n hx hb d_Mo_write_11 rfl (lv_at hl 1 rfl) ?_
    refine q_callVi (As := [.int (nI v)]) (rest := []) (wsC := [(mo, .inr (5, [.ref r1, .ref r2, .ref r3, .ref r4, .ref r5, .ref r6, .int (md), .int (ck), .int (nI 0)])), (r1, .inl (cZ, 32, .inl (qm_T th))), (r2, .inl (cI, 4096, .inl (qm_P pl))), (r3, .inl (cI, 4096, .inl (mk))), (r4, .inl (cI, 64, .inl (nt))), (r5, .inl (cB, 76800, .inl (bt))), (r6, .inl (cZ, 600, .inl (qm_T us)))]) (wsR := []) (wsC' := [(mo, .inr (5, [.ref r1, .ref r2, .ref r3, .ref r4, .ref r5, .ref r6, .int (md), .int (ck), .int (nI 0)])), (r1, .inl (cZ, 32, .inl (qm_T th))), (r2, .inl (cI, 4096, .inl (qm_P pl))), (r3, .inl (cI, 4096, .inl (mk))), (r4, .inl (cI, 64, .inl (nt))), (r5, .inl (cB, 76800, .inl (bt))), (r6, .inl (cZ, 600, .inl (qm_T us)))]) (wsN := [(mo, .inr (5, [.ref r1, .ref r2, .ref r3, .ref r4, .ref r5, .ref r6, .int (md), .int (ck), .int (nI 0)])), (r1, .inl (cZ, 32, .inl (qm_T th))), (r2, .inl (cI, 4096, .inl (qm_P pl))), (r3, .inl (cI, 4096, .inl (mk))), (r4, .inl (cI, 64, .inl (nt))), (r5, .inl (cB, 76800, .inl (bt))), (r6, .inl (cZ, 600, .inl (qm_T us)))]) (isT := [0, 1, 2]) (isC := [0, 1, 2, 3, 4, 5, 6]) (isR := []) (isN := [0, 1, 2, 3, 4, 5, 6]) (k := 1) (ci := 5) (C := R_Mo) ⟨hx, hb, hml, hown, hts⟩ (c_Mo_isThereY l D cZ cI cB mo r1 r2 r3 r4 r5 r6 th pl mk nt bt us md ck v (by omega) kt) (tw_V ml_Mo_46 im_Mo_isThere se_Mo_isThere in_Mo cd_Mo_isThere) rfl ⟨by decide +kernel, Nat.le_of_ble_eq_true rfl, Nat.le_of_ble_eq_true rfl⟩ ⟨Nat.le_of_ble_eq_true rfl, Nat.le_of_ble_eq_true rfl⟩ hK hP hD hS hA hN rfl ⟨rfl, rfl, rfl, by decide, by decide, by decide, by decide⟩ rfl rfl rfl hl.1 rfl rfl (Nat.le_of_ble_eq_true rfl) d_Mo_write_12 (fun H locs hP hD hS => ?_)
    refine lv_if_eq (tgt := 66) hx hb d_Mo_write_15 (by decide) (fun c15 => ?_) (fun c15 => ?_)
    · have c15 : 1 = 0 := (q_z_eq (by omega)).mp c15
      exfalso; omega
    · have c15 : ¬ 1 = 0 := fun h9 => c15 ((q_z_eq (by omega)).mpr h9)
      refine lv_iload_n hx hb d_Mo_write_18 rfl (lv_at hl 2 rfl) ?_
      refine q_callSi (As := [.int (nI pc)]) (rest := []) (wsC := []) (wsR := [(mo, .inr (5, [.ref r1, .ref r2, .ref r3, .ref r4, .ref r5, .ref r6, .int (md), .int (ck), .int (nI 0)])), (r1, .inl (cZ, 32, .inl (qm_T th))), (r2, .inl (cI, 4096, .inl (qm_P pl))), (r3, .inl (cI, 4096, .inl (mk))), (r4, .inl (cI, 64, .inl (nt))), (r5, .inl (cB, 76800, .inl (bt))), (r6, .inl (cZ, 600, .inl (qm_T us)))]) (wsC' := []) (wsN := [(mo, .inr (5, [.ref r1, .ref r2, .ref r3, .ref r4, .ref r5, .ref r6, .int (md), .int (ck), .int (nI 0)])), (r1, .inl (cZ, 32, .inl (qm_T th))), (r2, .inl (cI, 4096, .inl (qm_P pl))), (r3, .inl (cI, 4096, .inl (mk))), (r4, .inl (cI, 64, .inl (nt))), (r5, .inl (cB, 76800, .inl (bt))), (r6, .inl (cZ, 600, .inl (qm_T us)))]) (isT := []) (isC := []) (isR := [0, 1, 2, 3, 4, 5, 6]) (isN := [0, 1, 2, 3, 4, 5, 6]) (k := 1) ⟨hx, hb, hml, hown, hts⟩ (c_Mo_isPieceY l D pc (by omega)) (tw_S ml_Mo_61 st_Mo_isPiece in_Mo cd_Mo_isPiece) ⟨by decide +kernel, Nat.le_of_ble_eq_true rfl, Nat.le_of_ble_eq_true rfl⟩ ⟨Nat.le_of_ble_eq_true rfl, Nat.le_of_ble_eq_true rfl⟩ hK hP hD hS hA hN rfl ⟨rfl, rfl, rfl, by decide, by decide, by decide, by decide⟩ hl.1 rfl rfl (Nat.le_of_ble_eq_true rfl) d_Mo_write_19 (fun H locs hP hD hS => ?_)
      refine lv_if_eq (tgt := 66) hx hb d_Mo_write_22 (by decide) (fun c22 => ?_) (fun c22 => ?_)
      · have c22 : 1 = 0 := (q_z_eq (by omega)).mp c22
        exfalso; omega
      · have c22 : ¬ 1 = 0 := fun h9 => c22 ((q_z_eq (by omega)).mpr h9)
        refine lv_iload hx hb d_Mo_write_25 (lv_at hl 4 rfl) ?_
        refine lv_iconst (v := nI 1) hx hb d_Mo_write_27 (by decide) ?_
        refine lv_icmp_lt (tgt := 66) hx hb d_Mo_write_28 (by decide) (fun c28 => ?_) (fun c28 => ?_)
        · have c28 : n < 1 := (nI_ltI (by omega) (by omega)).mp c28
          exfalso; omega
        · have c28 : ¬ n < 1 := fun h9 => c28 ((nI_ltI (by omega) (by omega)).mpr h9)
          refine lv_iload hx hb d_Mo_write_31 (lv_at hl 4 rfl) ?_
          refine lv_sipush (v := nI 128) hx hb d_Mo_write_33 (by decide) ?_
          refine lv_icmp_gt (tgt := 66) hx hb d_Mo_write_36 (by decide) (fun c36 => ?_) (fun c36 => ?_)
          · have c36 : 128 < n := (nI_ltI (by omega) (by omega)).mp c36
            exfalso; omega
          · have c36 : ¬ 128 < n := fun h9 => c36 ((nI_ltI (by omega) (by omega)).mpr h9)
            refine lv_iload_n hx hb d_Mo_write_39 rfl (lv_at hl 3 rfl) ?_
            refine lv_if_lt (tgt := 66) hx hb d_Mo_write_40 (by decide) (fun c40 => ?_) (fun c40 => ?_)
            · exact absurd c40 (nI_pos (by omega))
            · refine lv_iload_n hx hb d_Mo_write_43 rfl (lv_at hl 3 rfl) ?_
              refine lv_sipush (v := nI 128) hx hb d_Mo_write_44 (by decide) ?_
              refine lv_iload hx hb d_Mo_write_47 (lv_at hl 4 rfl) ?_
              refine lv_isub hx hb d_Mo_write_49 ?_
              refine q_ti (y := nI (128 - n)) (pk_sub (by omega)) ?_
              refine lv_icmp_gt (tgt := 66) hx hb d_Mo_write_50 (by decide) (fun c50 => ?_) (fun c50 => ?_)
              · have c50 : (128 - n) < u := (nI_ltI (by omega) (by omega)).mp c50
                exfalso; omega
              · have c50 : ¬ (128 - n) < u := fun h9 => c50 ((nI_ltI (by omega) (by omega)).mpr h9)
                refine lv_iload hx hb d_Mo_write_53 (lv_at hl 5 rfl) ?_
                refine lv_if_lt (tgt := 66) hx hb d_Mo_write_55 (by decide) (fun c55 => ?_) (fun c55 => ?_)
                · exact absurd c55 (nI_pos (by omega))
                · refine lv_iload hx hb d_Mo_write_58 (lv_at hl 5 rfl) ?_
                  refine lv_sipush (v := nI 255) hx hb d_Mo_write_60 (by decide) ?_
                  refine lv_icmp_le (tgt := 68) hx hb d_Mo_write_63 (by decide) (fun c63 => ?_) (fun c63 => ?_)
                  · have c63 : y ≤ 255 := (nI_leI (by omega) (by omega)).mp c63
                    refine lv_sipush (v := nI 128) hx hb d_Mo_write_68 (by decide) ?_
                    refine lv_iload_n hx hb d_Mo_write_71 rfl (lv_at hl 1 rfl) ?_
                    refine lv_imul hx hb d_Mo_write_72 ?_
                    refine q_ti (y := nI (128 * v)) (pk_mul _ _) ?_
                    refine lv_iload_n hx hb d_Mo_write_73 rfl (lv_at hl 2 rfl) ?_
                    refine lv_iadd hx hb d_Mo_write_74 ?_
                    refine q_ti (y := nI (128 * v + pc)) (nI_add _ _) ?_
                    refine lv_istore (lv' := [(6, .int (nI (128 * v + pc))), (0, .ref mo), (1, .int (nI v)), (2, .int (nI pc)), (3, .int (nI u)), (4, .int (nI n)), (5, .int (nI y))]) hx hb d_Mo_write_75 hl (by decide) rfl (fun ls hl => ?_)
                    refine lv_aload_n hx hb d_Mo_write_77 rfl (lv_at hl 1 rfl) ?_
                    refine va_get (D := D) (ci := 5) (v := .ref r2) (C := R_Mo) (T := F_Mo) (N := 9) hx hb hts i_Mo hown hK hP 0 rfl rfl 1 (by decide) (hts _ fl_Mo_13) (fun _ h9 => h9) rfl d_Mo_write_78 ?_
                    refine lv_iload hx hb d_Mo_write_81 (lv_at hl 0 rfl) ?_
                    refine va_iald hx hb hK hP 2 1 rfl rfl (vp_in_nI (by omega) (by decide)) d_Mo_write_83 ?_
                    refine q_ti (y := (qm_P pl) (128 * v + pc)) (by rw [nI_clamp (by omega)]) ?_
                    refine lv_if_ge (tgt := 100) hx hb d_Mo_write_84 (by decide) (fun c84 => ?_) (fun c84 => ?_)
                    · have c84 := qm_Pg (kpl _) c84
                      exact absurd kz c84
                    · have c84 := qm_Ph (kpl _) c84
                      refine lv_aload_n hx hb d_Mo_write_87 rfl (lv_at hl 1 rfl) ?_
                      refine q_callVi (As := []) (rest := []) (wsC := [(mo, .inr (5, [.ref r1, .ref r2, .ref r3, .ref r4, .ref r5, .ref r6, .int (md), .int (ck), .int (nI 0)])), (r1, .inl (cZ, 32, .inl (qm_T th))), (r2, .inl (cI, 4096, .inl (qm_P pl))), (r3, .inl (cI, 4096, .inl (mk))), (r4, .inl (cI, 64, .inl (nt))), (r5, .inl (cB, 76800, .inl (bt))), (r6, .inl (cZ, 600, .inl (qm_T us)))]) (wsR := []) (wsC' := [(mo, .inr (5, [.ref r1, .ref r2, .ref r3, .ref r4, .ref r5, .ref r6, .int (md), .int (ck), .int (nI 0)])), (r1, .inl (cZ, 32, .inl (qm_T th))), (r2, .inl (cI, 4096, .inl (qm_P pl))), (r3, .inl (cI, 4096, .inl (mk))), (r4, .inl (cI, 64, .inl (nt))), (r5, .inl (cB, 76800, .inl (bt))), (r6, .inl (cZ, 600, .inl (qm_T us)))]) (wsN := [(mo, .inr (5, [.ref r1, .ref r2, .ref r3, .ref r4, .ref r5, .ref r6, .int (md), .int (ck), .int (nI 0)])), (r1, .inl (cZ, 32, .inl (qm_T th))), (r2, .inl (cI, 4096, .inl (qm_P pl))), (r3, .inl (cI, 4096, .inl (mk))), (r4, .inl (cI, 64, .inl (nt))), (r5, .inl (cB, 76800, .inl (bt))), (r6, .inl (cZ, 600, .inl (qm_T us)))]) (isT := [0, 1, 2]) (isC := [0, 1, 2, 3, 4, 5, 6]) (isR := []) (isN := [0, 1, 2, 3, 4, 5, 6]) (k := 0) (ci := 5) (C := R_Mo) ⟨hx, hb, hml, hown, hts⟩ (c_Mo_all l D cZ cI cB mo r1 r2 r3 r4 r5 r6 th pl mk nt bt us md ck kpl) (tw_V ml_Mo_50 im_Mo_all se_Mo_all in_Mo cd_Mo_all) rfl ⟨by decide +kernel, Nat.le_of_ble_eq_true rfl, Nat.le_of_ble_eq_true rfl⟩ ⟨Nat.le_of_ble_eq_true rfl, Nat.le_of_ble_eq_true rfl⟩ hK hP hD hS hA hN rfl ⟨rfl, rfl, rfl, by decide, by decide, by decide, by decide⟩ rfl rfl rfl hl.1 rfl rfl (Nat.le_of_ble_eq_true rfl) d_Mo_write_88 (fun H locs hP hD hS => ?_)
                      have hq1 := qm_all_le pl 16
                      refine lv_sipush (v := nI 300) hx hb d_Mo_write_91 (by decide) ?_
                      refine lv_icmp_ne (tgt := 100) hx hb d_Mo_write_94 (by decide) (fun c94 => ?_) (fun c94 => ?_)
                      · have c94 : ¬ (qs_ (16) (fun v => qm_ct pl (128 * v) 128)) = 300 := fun h9 => c94 ((nI_eq (by omega) (by omega)).mpr h9)
                        exact absurd kf c94
                      · have c94 : (qs_ (16) (fun v => qm_ct pl (128 * v) 128)) = 300 := (nI_eq (by omega) (by omega)).mp c94
                        refine lv_bipush (v := (-3 : Int32)) hx hb d_Mo_write_97 (by decide) ?_
                        exact q_iret hx hb hr hlk hK hP hD hS d_Mo_write_99 (rfl) (rfl)
                  · have c63 : ¬ y ≤ 255 := fun h9 => c63 ((nI_leI (by omega) (by omega)).mpr h9)
                    exfalso; omega
  · have c4 : ¬ 0 = 0 := fun h9 => c4 ((q_z_eq (by omega)).mpr h9)
    exfalso; omega
set_option maxHeartbeats 4000000 in
set_option maxRecDepth 100000 in
theorem c_Mo_write_bad (l : Launch) (D : va_G) (cZ : ClassId) (cI : ClassId) (cB : ClassId) (mo : Nat) (r1 : Nat) (r2 : Nat) (r3 : Nat) (r4 : Nat) (r5 : Nat) (r6 : Nat) (th : Nat → Bool) (pl : Nat → Nat) (mk : Nat → Int32) (nt : Nat → Int32) (bt : Nat → Int32) (us : Nat → Bool) (md : Int32) (ck : Int32) (v : Int32) (z : Int32) (u : Int32) (n : Int32) (y : Int32) (kb : ¬ (qm_th th v ∧ qp_in z 128 ∧ qp_bs u n ∧ qp_by y)) : qMi l y_Mo_write b_Mo_write 8 (some .int) (rmL 3) D [(cZ, .boolean), (cI, .int), (cB, .byte)] [.ref mo, .int (v), .int (z), .int (u), .int (n), .int (y)] [(mo, .inr (5, [.ref r1, .ref r2, .ref r3, .ref r4, .ref r5, .ref r6, .int (md), .int (ck), .int (nI 0)])), (r1, .inl (cZ, 32, .inl (qm_T th))), (r2, .inl (cI, 4096, .inl (qm_P pl))), (r3, .inl (cI, 4096, .inl (mk))), (r4, .inl (cI, 64, .inl (nt))), (r5, .inl (cB, 76800, .inl (bt))), (r6, .inl (cZ, 600, .inl (qm_T us)))] [(mo, .inr (5, [.ref r1, .ref r2, .ref r3, .ref r4, .ref r5, .ref r6, .int (md), .int (ck), .int (nI 0)])), (r1, .inl (cZ, 32, .inl (qm_T th))), (r2, .inl (cI, 4096, .inl (qm_P pl))), (r3, .inl (cI, 4096, .inl (mk))), (r4, .inl (cI, 64, .inl (nt))), (r5, .inl (cB, 76800, .inl (bt))), (r6, .inl (cZ, 600, .inl (qm_T us)))] ((-1 : Int32)) := by
  refine q_start (Qc := qZi D _ _ _) (by decide +kernel) (Nat.le_of_ble_eq_true rfl) ?_
  intro p e s m below meth c A hx hb hr hlk hml hown hts hK hP hD hS hA hN ls hl
  have hl : lv_has ls 8 [(0, .ref mo), (1, .int (v)), (2, .int (z)), (3, .int (u)), (4, .int (n)), (5, .int (y))] := hl
  have hP : va_P D cls [(mo, .inr (5, [.ref r1, .ref r2, .ref r3, .ref r4, .ref r5, .ref r6, .int (md), .int (ck), .int (nI 0)])), (r1, .inl (cZ, 32, .inl (qm_T th))), (r2, .inl (cI, 4096, .inl (qm_P pl))), (r3, .inl (cI, 4096, .inl (mk))), (r4, .inl (cI, 64, .inl (nt))), (r5, .inl (cB, 76800, .inl (bt))), (r6, .inl (cZ, 600, .inl (qm_T us)))] s.heap := hP
  have hD : va_D A [(mo, .inr (5, [.ref r1, .ref r2, .ref r3, .ref r4, .ref r5, .ref r6, .int (md), .int (ck), .int (nI 0)])), (r1, .inl (cZ, 32, .inl (qm_T th))), (r2, .inl (cI, 4096, .inl (qm_P pl))), (r3, .inl (cI, 4096, .inl (mk))), (r4, .inl (cI, 64, .inl (nt))), (r5, .inl (cB, 76800, .inl (bt))), (r6, .inl (cZ, 600, .inl (qm_T us)))] := hD
  refine lv_aload_n hx hb d_Mo_write_0 rfl (lv_at hl 0 rfl) ?_
  refine va_get (D := D) (ci := 5) (v := .int (nI 0)) (C := R_Mo) (T := F_Mo) (N := 9) hx hb hts i_Mo hown hK hP 0 rfl rfl 8 (by decide) (hts _ fl_Mo_38) (fun _ h9 => h9) rfl d_Mo_write_1 ?_
  refine lv_if_eq (tgt := 10) hx hb d_Mo_write_4 (by decide) (fun c4 => ?_) (fun c4 => ?_)
  · have c4 : 0 = 0 := (q_z_eq (by omega)).mp c4
    refine lv_aload_n hx hb d_Mo_write_10 rfl (lv_at hl 0 rfl) ?_
    refine lv_iload_n hx hb d_Mo_write_11 rfl (lv_at hl 1 rfl) ?_
    refine q_callVi (As := [.int (v)]) (rest := []) (wsC := [(mo, .inr (5, [.ref r1, .ref r2, .ref r3, .ref r4, .ref r5, .ref r6, .int (md), .int (ck), .int (nI 0)])), (r1, .inl (cZ, 32, .inl (qm_T th))), (r2, .inl (cI, 4096, .inl (qm_P pl))), (r3, .inl (cI, 4096, .inl (mk))), (r4, .inl (cI, 64, .inl (nt))), (r5, .inl (cB, 76800, .inl (bt))), (r6, .inl (cZ, 600, .inl (qm_T us)))]) (wsR := []) (wsC' := [(mo, .inr (5, [.ref r1, .ref r2, .ref r3, .ref r4, .ref r5, .ref r6, .int (md), .int (ck), .int (nI 0)])), (r1, .inl (cZ, 32, .inl (qm_T th))), (r2, .inl (cI, 4096, .inl (qm_P pl))), (r3, .inl (cI, 4096, .inl (mk))), (r4, .inl (cI, 64, .inl (nt))), (r5, .inl (cB, 76800, .inl (bt))), (r6, .inl (cZ, 600, .inl (qm_T us)))]) (wsN := [(mo, .inr (5, [.ref r1, .ref r2, .ref r3, .ref r4, .ref r5, .ref r6, .int (md), .int (ck), .int (nI 0)])), (r1, .inl (cZ, 32, .inl (qm_T th))), (r2, .inl (cI, 4096, .inl (qm_P pl))), (r3, .inl (cI, 4096, .inl (mk))), (r4, .inl (cI, 64, .inl (nt))), (r5, .inl (cB, 76800, .inl (bt))), (r6, .inl (cZ, 600, .inl (qm_T us)))]) (isT := [0, 1, 2]) (isC := [0, 1, 2, 3, 4, 5, 6]) (isR := []) (isN := [0, 1, 2, 3, 4, 5, 6]) (k := 1) (ci := 5) (C := R_Mo) ⟨hx, hb, hml, hown, hts⟩ (c_Mo_isThere l D cZ cI cB mo r1 r2 r3 r4 r5 r6 th pl mk nt bt us md ck v) (tw_V ml_Mo_46 im_Mo_isThere se_Mo_isThere in_Mo cd_Mo_isThere) rfl ⟨by decide +kernel, Nat.le_of_ble_eq_true rfl, Nat.le_of_ble_eq_true rfl⟩ ⟨Nat.le_of_ble_eq_true rfl, Nat.le_of_ble_eq_true rfl⟩ hK hP hD hS hA hN rfl ⟨rfl, rfl, rfl, by decide, by decide, by decide, by decide⟩ rfl rfl rfl hl.1 rfl rfl (Nat.le_of_ble_eq_true rfl) d_Mo_write_12 (fun H locs hP hD hS => ?_)
    refine lv_if_eq (tgt := 66) hx hb d_Mo_write_15 (by decide) (fun c15 => ?_) (fun c15 => ?_)
    · refine lv_iconst (v := (-1 : Int32)) hx hb d_Mo_write_66 (by decide) ?_
      exact q_iret hx hb hr hlk hK hP hD hS d_Mo_write_67 (rfl) (rfl)
    · refine lv_iload_n hx hb d_Mo_write_18 rfl (lv_at hl 2 rfl) ?_
      refine q_callSi (As := [.int (z)]) (rest := []) (wsC := []) (wsR := [(mo, .inr (5, [.ref r1, .ref r2, .ref r3, .ref r4, .ref r5, .ref r6, .int (md), .int (ck), .int (nI 0)])), (r1, .inl (cZ, 32, .inl (qm_T th))), (r2, .inl (cI, 4096, .inl (qm_P pl))), (r3, .inl (cI, 4096, .inl (mk))), (r4, .inl (cI, 64, .inl (nt))), (r5, .inl (cB, 76800, .inl (bt))), (r6, .inl (cZ, 600, .inl (qm_T us)))]) (wsC' := []) (wsN := [(mo, .inr (5, [.ref r1, .ref r2, .ref r3, .ref r4, .ref r5, .ref r6, .int (md), .int (ck), .int (nI 0)])), (r1, .inl (cZ, 32, .inl (qm_T th))), (r2, .inl (cI, 4096, .inl (qm_P pl))), (r3, .inl (cI, 4096, .inl (mk))), (r4, .inl (cI, 64, .inl (nt))), (r5, .inl (cB, 76800, .inl (bt))), (r6, .inl (cZ, 600, .inl (qm_T us)))]) (isT := []) (isC := []) (isR := [0, 1, 2, 3, 4, 5, 6]) (isN := [0, 1, 2, 3, 4, 5, 6]) (k := 1) ⟨hx, hb, hml, hown, hts⟩ (c_Mo_isPiece l D z) (tw_S ml_Mo_61 st_Mo_isPiece in_Mo cd_Mo_isPiece) ⟨by decide +kernel, Nat.le_of_ble_eq_true rfl, Nat.le_of_ble_eq_true rfl⟩ ⟨Nat.le_of_ble_eq_true rfl, Nat.le_of_ble_eq_true rfl⟩ hK hP hD hS hA hN rfl ⟨rfl, rfl, rfl, by decide, by decide, by decide, by decide⟩ hl.1 rfl rfl (Nat.le_of_ble_eq_true rfl) d_Mo_write_19 (fun H locs hP hD hS => ?_)
      refine lv_if_eq (tgt := 66) hx hb d_Mo_write_22 (by decide) (fun c22 => ?_) (fun c22 => ?_)
      · refine lv_iconst (v := (-1 : Int32)) hx hb d_Mo_write_66 (by decide) ?_
        exact q_iret hx hb hr hlk hK hP hD hS d_Mo_write_67 (rfl) (rfl)
      · refine lv_iload hx hb d_Mo_write_25 (lv_at hl 4 rfl) ?_
        refine lv_iconst (v := nI 1) hx hb d_Mo_write_27 (by decide) ?_
        refine lv_icmp_lt (tgt := 66) hx hb d_Mo_write_28 (by decide) (fun c28 => ?_) (fun c28 => ?_)
        · refine lv_iconst (v := (-1 : Int32)) hx hb d_Mo_write_66 (by decide) ?_
          exact q_iret hx hb hr hlk hK hP hD hS d_Mo_write_67 (rfl) (rfl)
        · refine lv_iload hx hb d_Mo_write_31 (lv_at hl 4 rfl) ?_
          refine lv_sipush (v := nI 128) hx hb d_Mo_write_33 (by decide) ?_
          refine lv_icmp_gt (tgt := 66) hx hb d_Mo_write_36 (by decide) (fun c36 => ?_) (fun c36 => ?_)
          · refine lv_iconst (v := (-1 : Int32)) hx hb d_Mo_write_66 (by decide) ?_
            exact q_iret hx hb hr hlk hK hP hD hS d_Mo_write_67 (rfl) (rfl)
          · refine lv_iload_n hx hb d_Mo_write_39 rfl (lv_at hl 3 rfl) ?_
            refine lv_if_lt (tgt := 66) hx hb d_Mo_write_40 (by decide) (fun c40 => ?_) (fun c40 => ?_)
            · refine lv_iconst (v := (-1 : Int32)) hx hb d_Mo_write_66 (by decide) ?_
              exact q_iret hx hb hr hlk hK hP hD hS d_Mo_write_67 (rfl) (rfl)
            · refine lv_iload_n hx hb d_Mo_write_43 rfl (lv_at hl 3 rfl) ?_
              refine lv_sipush (v := nI 128) hx hb d_Mo_write_44 (by decide) ?_
              refine lv_iload hx hb d_Mo_write_47 (lv_at hl 4 rfl) ?_
              refine lv_isub hx hb d_Mo_write_49 ?_
              refine lv_icmp_gt (tgt := 66) hx hb d_Mo_write_50 (by decide) (fun c50 => ?_) (fun c50 => ?_)
              · refine lv_iconst (v := (-1 : Int32)) hx hb d_Mo_write_66 (by decide) ?_
                exact q_iret hx hb hr hlk hK hP hD hS d_Mo_write_67 (rfl) (rfl)
              · refine lv_iload hx hb d_Mo_write_53 (lv_at hl 5 rfl) ?_
                refine lv_if_lt (tgt := 66) hx hb d_Mo_write_55 (by decide) (fun c55 => ?_) (fun c55 => ?_)
                · refine lv_iconst (v := (-1 : Int32)) hx hb d_Mo_write_66 (by decide) ?_
                  exact q_iret hx hb hr hlk hK hP hD hS d_Mo_write_67 (rfl) (rfl)
                · refine lv_iload hx hb d_Mo_write_58 (lv_at hl 5 rfl) ?_
                  refine lv_sipush (v := nI 255) hx hb d_Mo_write_60 (by decide) ?_
                  refine lv_icmp_le (tgt := 68) hx hb d_Mo_write_63 (by decide) (fun c63 => ?_) (fun c63 => ?_)
                  · exact absurd ⟨qp_b_ne c15, qp_b_ne c22, ⟨c28, c36, c40, c50⟩, c55, qm_nlt c63⟩ kb
                  · refine lv_iconst (v := (-1 : Int32)) hx hb d_Mo_write_66 (by decide) ?_
                    exact q_iret hx hb hr hlk hK hP hD hS d_Mo_write_67 (rfl) (rfl)
  · have c4 : ¬ 0 = 0 := fun h9 => c4 ((q_z_eq (by omega)).mpr h9)
    exfalso; omega
