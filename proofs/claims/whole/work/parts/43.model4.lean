theorem qm_and3 (x : Int64) : (x &&& 3).toInt32 = nI (qb_n x % 4) := by
  conv => lhs; rw [← qb_e x]
  rw [show (3 : Int64) = lN (2 ^ 2 - 1) by decide, wb_mask (qb_lt x) (by decide), lN_i]
def qm_frn (us : Nat → Bool) (c k : Nat) : Nat := match c with
  | 0 => k
  | c + 1 => if us k = true then qm_frn us c (k + 1) else k
def qm_fr (us : Nat → Bool) : Nat := qm_frn us 600 0
theorem qm_frn_spec {us : Nat → Bool} : ∀ (c k : Nat), qm_frn us c k < c + k → (us (qm_frn us c k) = false ∧ ∀ j, k ≤ j → j < qm_frn us c k → us j = true) := by
  intro c
  induction c with
  | zero => intro k h; unfold qm_frn at h; omega
  | succ c ih =>
    intro k h
    unfold qm_frn at h ⊢
    by_cases hu : us k = true
    · rw [if_pos hu] at h ⊢
      obtain ⟨h1, h2⟩ := ih (k + 1) (by omega)
      refine ⟨h1, fun j hj hj2 => ?_⟩
      by_cases hjk : j = k
      · rw [hjk]; exact hu
      · exact h2 j (by omega) hj2
    · rw [if_neg hu]
      refine ⟨by cases e : us k with | false => rfl | true => exact absurd e hu, fun j hj hj2 => by omega⟩
theorem qm_fr_spec {us : Nat → Bool} (h : qm_fr us < 600) : us (qm_fr us) = false ∧ ∀ j, j < qm_fr us → us j = true := by
  obtain ⟨h1, h2⟩ := qm_frn_spec (us := us) 600 0 h
  exact ⟨h1, fun j hj => h2 j (by omega) hj⟩
/-- snap, piece by piece: places, marks, bytes, used -/
def qm_sn (v o : Nat) (pl : Nat → Nat) (mk bt : Nat → Int32) (us : Nat → Bool) (i : Nat) : (Nat → Nat) × (Nat → Int32) × (Nat → Int32) × (Nat → Bool) := match i with
  | 0 => (pl, mk, bt, us)
  | i + 1 => if (qm_sn v o pl mk bt us i).1 (128 * o + i) = 0 then qm_sn v o pl mk bt us i else
    (va_up (qm_sn v o pl mk bt us i).1 (128 * v + i) (qm_fr (qm_sn v o pl mk bt us i).2.2.2 + 1), upd (qm_sn v o pl mk bt us i).2.1 (128 * v + i) ((qm_sn v o pl mk bt us i).2.1 (128 * o + i)),
      qv_for 128 (fun g j => upd g (128 * qm_fr (qm_sn v o pl mk bt us i).2.2.2 + j) (vp_nar .byte (g (128 * ((qm_sn v o pl mk bt us i).1 (128 * o + i) - 1) + j)))) (qv_for 128 (fun g j => upd g (128 * qm_fr (qm_sn v o pl mk bt us i).2.2.2 + j) (vp_nar .byte (nI 0))) (qm_sn v o pl mk bt us i).2.2.1),
      va_up (qm_sn v o pl mk bt us i).2.2.2 (qm_fr (qm_sn v o pl mk bt us i).2.2.2) true)
theorem qm_sn_z {v o : Nat} {pl : Nat → Nat} {mk bt : Nat → Int32} {us : Nat → Bool} {i : Nat} (h : (qm_sn v o pl mk bt us i).1 (128 * o + i) = 0) : qm_sn v o pl mk bt us (i + 1) = qm_sn v o pl mk bt us i := by
  conv => lhs; unfold qm_sn
  rw [if_pos h]
theorem qm_sn_n {v o : Nat} {pl : Nat → Nat} {mk bt : Nat → Int32} {us : Nat → Bool} {i : Nat} (h : ¬ (qm_sn v o pl mk bt us i).1 (128 * o + i) = 0) : qm_sn v o pl mk bt us (i + 1) = (va_up (qm_sn v o pl mk bt us i).1 (128 * v + i) (qm_fr (qm_sn v o pl mk bt us i).2.2.2 + 1), upd (qm_sn v o pl mk bt us i).2.1 (128 * v + i) ((qm_sn v o pl mk bt us i).2.1 (128 * o + i)),
      qv_for 128 (fun g j => upd g (128 * qm_fr (qm_sn v o pl mk bt us i).2.2.2 + j) (vp_nar .byte (g (128 * ((qm_sn v o pl mk bt us i).1 (128 * o + i) - 1) + j)))) (qv_for 128 (fun g j => upd g (128 * qm_fr (qm_sn v o pl mk bt us i).2.2.2 + j) (vp_nar .byte (nI 0))) (qm_sn v o pl mk bt us i).2.2.1),
      va_up (qm_sn v o pl mk bt us i).2.2.2 (qm_fr (qm_sn v o pl mk bt us i).2.2.2) true) := by
  conv => lhs; unfold qm_sn
  rw [if_neg h]
/-- copies between the halves: from b on to a on, i places -/
def qm_cT (t : Nat → Bool) (a b i : Nat) : Nat → Bool := match i with
  | 0 => t
  | i + 1 => va_up (qm_cT t a b i) (a + i) (qm_cT t a b i (b + i))
def qm_cI (t : Nat → Int32) (a b i : Nat) : Nat → Int32 := match i with
  | 0 => t
  | i + 1 => upd (qm_cI t a b i) (a + i) (qm_cI t a b i (b + i))
def qm_cB (t : Nat → Int32) (a b i : Nat) : Nat → Int32 := match i with
  | 0 => t
  | i + 1 => upd (qm_cB t a b i) (a + i) (vp_nar .byte (qm_cB t a b i (b + i)))
def qm_cPU (p : Nat → Nat) (i : Nat) : Nat → Nat := match i with
  | 0 => p
  | i + 1 => va_up (qm_cPU p i) (2048 + i) (if qm_cPU p i (0 + i) = 0 then 0 else qm_cPU p i (0 + i) + 300)
def qm_cPD (p : Nat → Nat) (i : Nat) : Nat → Nat := match i with
  | 0 => p
  | i + 1 => va_up (qm_cPD p i) (0 + i) (if qm_cPD p i (2048 + i) = 0 then 0 else qm_cPD p i (2048 + i) - 300)
theorem qm_Tc {t : Nat → Bool} {k j : Nat} : upd (qm_T t) k (vp_nar .boolean (qm_T t j)) = qm_T (va_up t k (t j)) := funext fun x => by
  unfold qm_T upd va_up
  by_cases h : x = k
  · simp only [h, if_true]
    cases t j <;> decide
  · simp only [h, if_false]
theorem qm_cPU_lo {p : Nat → Nat} {i k : Nat} (h : k < 2048) : qm_cPU p i k = p k := by
  induction i with
  | zero => rfl
  | succ i ih => unfold qm_cPU; rw [qf_un (by omega)]; exact ih
theorem qm_cPD_hi {p : Nat → Nat} {i k : Nat} (hi : i ≤ 2048) (h : 2048 ≤ k) : qm_cPD p i k = p k := by
  induction i with
  | zero => rfl
  | succ i ih => unfold qm_cPD; rw [qf_un (by omega)]; exact ih (by omega)
theorem qm_cPU_le {p : Nat → Nat} (h : ∀ k, k < 2048 → p k ≤ 300) {i : Nat} (hi : i < 2048) : qm_cPU p i (0 + i) ≤ 300 := by
  rw [qm_cPU_lo (by omega)]
  exact h _ (by omega)
theorem qm_cPD_le {p : Nat → Nat} (h : ∀ k, p k ≤ 600) (h2 : ∀ k, 2048 ≤ k → k < 4096 → p k = 0 ∨ 301 ≤ p k) {i : Nat} (hi : i < 2048) : qm_cPD p i (2048 + i) ≤ 600 ∧ (qm_cPD p i (2048 + i) = 0 ∨ 301 ≤ qm_cPD p i (2048 + i)) := by
  rw [qm_cPD_hi (by omega) (by omega)]
  exact ⟨h _, h2 _ (by omega) (by omega)⟩
theorem qm_cPU_z {p : Nat → Nat} {i : Nat} (h : qm_cPU p i (0 + i) = 0) : va_up (qm_cPU p i) (2048 + i) 0 = qm_cPU p (i + 1) := by
  conv => rhs; unfold qm_cPU
  rw [if_pos h]
theorem qm_cPU_n {p : Nat → Nat} {i w : Nat} (h : qm_cPU p i (0 + i) = w + 1) : va_up (qm_cPU p i) (2048 + i) (w + 300 + 1) = qm_cPU p (i + 1) := by
  conv => rhs; unfold qm_cPU
  rw [if_neg (by omega), h]
theorem qm_cPD_z {p : Nat → Nat} {i : Nat} (h : qm_cPD p i (2048 + i) = 0) : va_up (qm_cPD p i) (0 + i) 0 = qm_cPD p (i + 1) := by
  conv => rhs; unfold qm_cPD
  rw [if_pos h]
theorem qm_cPD_n {p : Nat → Nat} {i w : Nat} (h : qm_cPD p i (2048 + i) = w + 1) (hw : 300 ≤ w) : va_up (qm_cPD p i) (0 + i) (w - 300 + 1) = qm_cPD p (i + 1) := by
  conv => rhs; unfold qm_cPD
  rw [if_neg (by omega), h, show w + 1 - 300 = w - 300 + 1 by omega]
theorem qm_m300 {w : Nat} (h : 300 ≤ w) : nI w + (-300 : Int32) = nI (w - 300) := by
  rw [show (-300 : Int32) = -(nI 300) by decide, ← Int32.sub_eq_add_neg]
  exact pk_sub h
set_option maxHeartbeats 4000000 in
set_option maxRecDepth 100000 in
theorem c_Mo_snap_ok (l : Launch) (D : va_G) (cZ : ClassId) (cI : ClassId) (cB : ClassId) (mo : Nat) (r1 : Nat) (r2 : Nat) (r3 : Nat) (r4 : Nat) (r5 : Nat) (r6 : Nat) (th : Nat → Bool) (pl : Nat → Nat) (mk : Nat → Int32) (nt : Nat → Int32) (bt : Nat → Int32) (us : Nat → Bool) (md : Int32) (ck : Int32) (v : Nat) (o : Nat) (kv : v < 16) (ko : o < 16) (kt : th v = false) (kt2 : th o = true) (kpl : ∀ k, pl k ≤ 600) (kf : qs_ (16) (fun v => qm_ct pl (128 * v) 128) + qm_ct pl (128 * o) (128) ≤ 300) (kfr : ∀ i, i < 128 → ¬ (qm_sn v o pl mk bt us (i)).1 (128 * o + i) = 0 → qm_fr ((qm_sn v o pl mk bt us (i)).2.2.2) < 600) (ksn : ∀ i, i ≤ 128 → ∀ k, (qm_sn v o pl mk bt us (i)).1 k ≤ 600) : qMi l y_Mo_snap b_Mo_snap 8 (some .int) (rmL 3) D [(cZ, .boolean), (cI, .int), (cB, .byte)] [.ref mo, .int (nI v), .int (nI o)] [(mo, .inr (5, [.ref r1, .ref r2, .ref r3, .ref r4, .ref r5, .ref r6, .int (md), .int (ck), .int (nI 0)])), (r1, .inl (cZ, 32, .inl (qm_T th))), (r2, .inl (cI, 4096, .inl (qm_P pl))), (r3, .inl (cI, 4096, .inl (mk))), (r4, .inl (cI, 64, .inl (nt))), (r5, .inl (cB, 76800, .inl (bt))), (r6, .inl (cZ, 600, .inl (qm_T us)))] [(mo, .inr (5, [.ref r1, .ref r2, .ref r3, .ref r4, .ref r5, .ref r6, .int (md), .int (ck), .int (nI 0)])), (r1, .inl (cZ, 32, .inl (qm_T (va_up th v true)))), (r2, .inl (cI, 4096, .inl (qm_P ((qm_sn v o pl mk bt us (128)).1)))), (r3, .inl (cI, 4096, .inl ((qm_sn v o pl mk bt us (128)).2.1))), (r4, .inl (cI, 64, .inl (nt))), (r5, .inl (cB, 76800, .inl ((qm_sn v o pl mk bt us (128)).2.2.1))), (r6, .inl (cZ, 600, .inl (qm_T ((qm_sn v o pl mk bt us (128)).2.2.2))))] (nI (qm_ct pl (128 * o) (128))) := by
  refine q_start (Qc := qZi D _ _ _) (by decide +kernel) (Nat.le_of_ble_eq_true rfl) ?_
  intro p e s m below meth c A hx hb hr hlk hml hown hts hK hP hD hS hA hN ls hl
  have hl : lv_has ls 8 [(0, .ref mo), (1, .int (nI v)), (2, .int (nI o))] := hl
  have hP : va_P D cls [(mo, .inr (5, [.ref r1, .ref r2, .ref r3, .ref r4, .ref r5, .ref r6, .int (md), .int (ck), .int (nI 0)])), (r1, .inl (cZ, 32, .inl (qm_T th))), (r2, .inl (cI, 4096, .inl (qm_P pl))), (r3, .inl (cI, 4096, .inl (mk))), (r4, .inl (cI, 64, .inl (nt))), (r5, .inl (cB, 76800, .inl (bt))), (r6, .inl (cZ, 600, .inl (qm_T us)))] s.heap := hP
  have hD : va_D A [(mo, .inr (5, [.ref r1, .ref r2, .ref r3, .ref r4, .ref r5, .ref r6, .int (md), .int (ck), .int (nI 0)])), (r1, .inl (cZ, 32, .inl (qm_T th))), (r2, .inl (cI, 4096, .inl (qm_P pl))), (r3, .inl (cI, 4096, .inl (mk))), (r4, .inl (cI, 64, .inl (nt))), (r5, .inl (cB, 76800, .inl (bt))), (r6, .inl (cZ, 600, .inl (qm_T us)))] := hD
  refine lv_aload_n hx hb d_Mo_snap_0 rfl (lv_at hl 0 rfl) ?_
  refine va_get (D := D) (ci := 5) (v := .int (nI 0)) (C := R_Mo) (T := F_Mo) (N := 9) hx hb hts i_Mo hown hK hP 0 rfl rfl 8 (by decide) (hts _ fl_Mo_38) (fun _ h9 => h9) rfl d_Mo_snap_1 ?_
  refine lv_if_eq (tgt := 10) hx hb d_Mo_snap_4 (by decide) (fun c4 => ?_) (fun c4 => ?_)
  · have c4 : 0 = 0 := (q_z_eq (by omega)).mp c4
    refine lv_iload_n hx hb d_Mo_snap_10 rfl (lv_at hl 1 rfl) ?_
    refine lv_if_lt (tgt := 37) hx hb d_Mo_snap_11 (by decide) (fun c11 => ?_) (fun c11 => ?_)
    · exact absurd c11 (nI_pos (by omega))
    · refine lv_iload_n hx hb d_Mo_snap_14 rfl (lv_at hl 1 rfl) ?_
      refine lv_bipush (v := nI 16) hx hb d_Mo_snap_15 (by decide) ?_
      refine lv_icmp_ge (tgt := 37) hx hb d_Mo_snap_17 (by decide) (fun c17 => ?_) (fun c17 => ?_)
      · have c17 : 16 ≤ v := (nI_leI (by omega) (by omega)).mp c17
        exfalso; omega
      · have c17 : ¬ 16 ≤ v := fun h9 => c17 ((nI_leI (by omega) (by omega)).mpr h9)
        refine lv_aload_n hx hb d_Mo_snap_20 rfl (lv_at hl 0 rfl) ?_
        refine va_get (D := D) (ci := 5) (v := .ref r1) (C := R_Mo) (T := F_Mo) (N := 9) hx hb hts i_Mo hown hK hP 0 rfl rfl 0 (by decide) (hts _ fl_Mo_7) (fun _ h9 => h9) rfl d_Mo_snap_21 ?_
        refine lv_iload_n hx hb d_Mo_snap_24 rfl (lv_at hl 1 rfl) ?_
        refine va_zald hx hb hK hP 1 0 rfl rfl (vp_in_nI (by omega) (by decide)) d_Mo_snap_25 ?_
        refine q_ti (y := (qm_T th) (v)) (by rw [nI_clamp (by omega)]) ?_
        refine lv_if_ne (tgt := 37) hx hb d_Mo_snap_26 (by decide) (fun c26 => ?_) (fun c26 => ?_)
        · have c26 := qm_T1 c26
          rw [kt] at c26; cases c26
        · have c26 := qm_T0 c26
          refine lv_aload_n hx hb d_Mo_snap_29 rfl (lv_at hl 0 rfl) ?_
          refine lv_iload_n hx hb d_Mo_snap_30 rfl (lv_at hl 2 rfl) ?_
          refine q_callVi (As := [.int (nI o)]) (rest := []) (wsC := [(mo, .inr (5, [.ref r1, .ref r2, .ref r3, .ref r4, .ref r5, .ref r6, .int (md), .int (ck), .int (nI 0)])), (r1, .inl (cZ, 32, .inl (qm_T th))), (r2, .inl (cI, 4096, .inl (qm_P pl))), (r3, .inl (cI, 4096, .inl (mk))), (r4, .inl (cI, 64, .inl (nt))), (r5, .inl (cB, 76800, .inl (bt))), (r6, .inl (cZ, 600, .inl (qm_T us)))]) (wsR := []) (wsC' := [(mo, .inr (5, [.ref r1, .ref r2, .ref r3, .ref r4, .ref r5, .ref r6, .int (md), .int (ck), .int (nI 0)])), (r1, .inl (cZ, 32, .inl (qm_T th))), (r2, .inl (cI, 4096, .inl (qm_P pl))), (r3, .inl (cI, 4096, .inl (mk))), (r4, .inl (cI, 64, .inl (nt))), (r5, .inl (cB, 76800, .inl (bt))), (r6, .inl (cZ, 600, .inl (qm_T us)))]) (wsN := [(mo, .inr (5, [.ref r1, .ref r2, .ref r3, .ref r4, .ref r5, .ref r6, .int (md), .int (ck), .int (nI 0)])), (r1, .inl (cZ, 32, .inl (qm_T th))), (r2, .inl (cI, 4096, .inl (qm_P pl))), (r3, .inl (cI, 4096, .inl (mk))), (r4, .inl (cI, 64, .inl (nt))), (r5, .inl (cB, 76800, .inl (bt))), (r6, .inl (cZ, 600, .inl (qm_T us)))]) (isT := [0, 1, 2]) (isC := [0, 1, 2, 3, 4, 5, 6]) (isR := []) (isN := [0, 1, 2, 3, 4, 5, 6]) (k := 1) (ci := 5) (C := R_Mo) ⟨hx, hb, hml, hown, hts⟩ (c_Mo_isThereY l D cZ cI cB mo r1 r2 r3 r4 r5 r6 th pl mk nt bt us md ck o (by omega) kt2) (tw_V ml_Mo_46 im_Mo_isThere se_Mo_isThere in_Mo cd_Mo_isThere) rfl ⟨by decide +kernel, Nat.le_of_ble_eq_true rfl, Nat.le_of_ble_eq_true rfl⟩ ⟨Nat.le_of_ble_eq_true rfl, Nat.le_of_ble_eq_true rfl⟩ hK hP hD hS hA hN rfl ⟨rfl, rfl, rfl, by decide, by decide, by decide, by decide⟩ rfl rfl rfl hl.1 rfl rfl (Nat.le_of_ble_eq_true rfl) d_Mo_snap_31 (fun H locs hP hD hS => ?_)
          refine lv_if_ne (tgt := 39) hx hb d_Mo_snap_34 (by decide) (fun c34 => ?_) (fun c34 => ?_)
          · have c34 : ¬ 1 = 0 := fun h9 => c34 ((q_z_eq (by omega)).mpr h9)
            refine lv_aload_n hx hb d_Mo_snap_39 rfl (lv_at hl 0 rfl) ?_
            refine lv_iload_n hx hb d_Mo_snap_40 rfl (lv_at hl 2 rfl) ?_
            refine q_callVi (As := [.int (nI o)]) (rest := []) (wsC := [(mo, .inr (5, [.ref r1, .ref r2, .ref r3, .ref r4, .ref r5, .ref r6, .int (md), .int (ck), .int (nI 0)])), (r1, .inl (cZ, 32, .inl (qm_T th))), (r2, .inl (cI, 4096, .inl (qm_P pl))), (r3, .inl (cI, 4096, .inl (mk))), (r4, .inl (cI, 64, .inl (nt))), (r5, .inl (cB, 76800, .inl (bt))), (r6, .inl (cZ, 600, .inl (qm_T us)))]) (wsR := []) (wsC' := [(mo, .inr (5, [.ref r1, .ref r2, .ref r3, .ref r4, .ref r5, .ref r6, .int (md), .int (ck), .int (nI 0)])), (r1, .inl (cZ, 32, .inl (qm_T th))), (r2, .inl (cI, 4096, .inl (qm_P pl))), (r3, .inl (cI, 4096, .inl (mk))), (r4, .inl (cI, 64, .inl (nt))), (r5, .inl (cB, 76800, .inl (bt))), (r6, .inl (cZ, 600, .inl (qm_T us)))]) (wsN := [(mo, .inr (5, [.ref r1, .ref r2, .ref r3, .ref r4, .ref r5, .ref r6, .int (md), .int (ck), .int (nI 0)])), (r1, .inl (cZ, 32, .inl (qm_T th))), (r2, .inl (cI, 4096, .inl (qm_P pl))), (r3, .inl (cI, 4096, .inl (mk))), (r4, .inl (cI, 64, .inl (nt))), (r5, .inl (cB, 76800, .inl (bt))), (r6, .inl (cZ, 600, .inl (qm_T us)))]) (isT := [0, 1, 2]) (isC := [0, 1, 2, 3, 4, 5, 6]) (isR := []) (isN := [0, 1, 2, 3, 4, 5, 6]) (k := 1) (ci := 5) (C := R_Mo) ⟨hx, hb, hml, hown, hts⟩ (c_Mo_many l D cZ cI cB mo r1 r2 r3 r4 r5 r6 th pl mk nt bt us md ck o (by omega) kpl) (tw_V ml_Mo_42 im_Mo_many se_Mo_many in_Mo cd_Mo_many) rfl ⟨by decide +kernel, Nat.le_of_ble_eq_true rfl, Nat.le_of_ble_eq_true rfl⟩ ⟨Nat.le_of_ble_eq_true rfl, Nat.le_of_ble_eq_true rfl⟩ hK hP hD hS hA hN rfl ⟨rfl, rfl, rfl, by decide, by decide, by decide, by decide⟩ rfl rfl rfl hl.1 rfl rfl (Nat.le_of_ble_eq_true rfl) d_Mo_snap_41 (fun H locs hP hD hS => ?_)
            have hq1 := qm_ct_le pl (128 * o) 128
            refine lv_istore_n (lv' := [(3, .int (nI (qm_ct pl (128 * o) (128)))), (0, .ref mo), (1, .int (nI v)), (2, .int (nI o))]) hx hb d_Mo_snap_44 rfl hl (by decide) rfl (fun ls hl => ?_)
            refine lv_aload_n hx hb d_Mo_snap_45 rfl (lv_at hl 1 rfl) ?_
            refine q_callVi (As := []) (rest := []) (wsC := [(mo, .inr (5, [.ref r1, .ref r2, .ref r3, .ref r4, .ref r5, .ref r6, .int (md), .int (ck), .int (nI 0)])), (r1, .inl (cZ, 32, .inl (qm_T th))), (r2, .inl (cI, 4096, .inl (qm_P pl))), (r3, .inl (cI, 4096, .inl (mk))), (r4, .inl (cI, 64, .inl (nt))), (r5, .inl (cB, 76800, .inl (bt))), (r6, .inl (cZ, 600, .inl (qm_T us)))]) (wsR := []) (wsC' := [(mo, .inr (5, [.ref r1, .ref r2, .ref r3, .ref r4, .ref r5, .ref r6, .int (md), .int (ck), .int (nI 0)])), (r1, .inl (cZ, 32, .inl (qm_T th))), (r2, .inl (cI, 4096, .inl (qm_P pl))), (r3, .inl (cI, 4096, .inl (mk))), (r4, .inl (cI, 64, .inl (nt))), (r5, .inl (cB, 76800, .inl (bt))), (r6, .inl (cZ, 600, .inl (qm_T us)))]) (wsN := [(mo, .inr (5, [.ref r1, .ref r2, .ref r3, .ref r4, .ref r5, .ref r6, .int (md), .int (ck), .int (nI 0)])), (r1, .inl (cZ, 32, .inl (qm_T th))), (r2, .inl (cI, 4096, .inl (qm_P pl))), (r3, .inl (cI, 4096, .inl (mk))), (r4, .inl (cI, 64, .inl (nt))), (r5, .inl (cB, 76800, .inl (bt))), (r6, .inl (cZ, 600, .inl (qm_T us)))]) (isT := [0, 1, 2]) (isC := [0, 1, 2, 3, 4, 5, 6]) (isR := []) (isN := [0, 1, 2, 3, 4, 5, 6]) (k := 0) (ci := 5) (C := R_Mo) ⟨hx, hb, hml, hown, hts⟩ (c_Mo_all l D cZ cI cB mo r1 r2 r3 r4 r5 r6 th pl mk nt bt us md ck kpl) (tw_V ml_Mo_50 im_Mo_all se_Mo_all in_Mo cd_Mo_all) rfl ⟨by decide +kernel, Nat.le_of_ble_eq_true rfl, Nat.le_of_ble_eq_true rfl⟩ ⟨Nat.le_of_ble_eq_true rfl, Nat.le_of_ble_eq_true rfl⟩ hK hP hD hS hA hN rfl ⟨rfl, rfl, rfl, by decide, by decide, by decide, by decide⟩ rfl rfl rfl hl.1 rfl rfl (Nat.le_of_ble_eq_true rfl) d_Mo_snap_46 (fun H locs hP hD hS => ?_)
            have hq2 := qm_all_le pl 16
            refine lv_iload_n hx hb d_Mo_snap_49 rfl (lv_at hl 0 rfl) ?_
            refine lv_iadd hx hb d_Mo_snap_50 ?_
            refine q_ti (y := nI (qs_ (16) (fun v => qm_ct pl (128 * v) 128) + (qm_ct pl (128 * o) (128)))) (nI_add _ _) ?_
            refine lv_sipush (v := nI 300) hx hb d_Mo_snap_51 (by decide) ?_
            refine lv_icmp_le (tgt := 60) hx hb d_Mo_snap_54 (by decide) (fun c54 => ?_) (fun c54 => ?_)
            · have c54 : (qs_ (16) (fun v => qm_ct pl (128 * v) 128) + (qm_ct pl (128 * o) (128))) ≤ 300 := (nI_leI (by omega) (by omega)).mp c54
              refine lv_aload_n hx hb d_Mo_snap_60 rfl (lv_at hl 1 rfl) ?_
              refine va_get (D := D) (ci := 5) (v := .ref r1) (C := R_Mo) (T := F_Mo) (N := 9) hx hb hts i_Mo hown hK hP 0 rfl rfl 0 (by decide) (hts _ fl_Mo_7) (fun _ h9 => h9) rfl d_Mo_snap_61 ?_
              refine lv_iload_n hx hb d_Mo_snap_64 rfl (lv_at hl 2 rfl) ?_
              refine lv_iconst (v := nI 1) hx hb d_Mo_snap_65 (by decide) ?_
              refine va_zast hx hb hK hP hD hS 1 0 rfl rfl (vp_in_nI (by omega) (by decide)) d_Mo_snap_66 (fun H locs hP hD hS => ?_)
              rw [nI_clamp (by omega)] at hP hD
              have hP : va_P D cls [(mo, .inr (5, [.ref r1, .ref r2, .ref r3, .ref r4, .ref r5, .ref r6, .int (md), .int (ck), .int (nI 0)])), (r1, .inl (cZ, 32, .inl (upd (qm_T th) (v) (vp_nar .boolean (nI 1))))), (r2, .inl (cI, 4096, .inl (qm_P pl))), (r3, .inl (cI, 4096, .inl (mk))), (r4, .inl (cI, 64, .inl (nt))), (r5, .inl (cB, 76800, .inl (bt))), (r6, .inl (cZ, 600, .inl (qm_T us)))] H := hP
              have hD : va_D A [(mo, .inr (5, [.ref r1, .ref r2, .ref r3, .ref r4, .ref r5, .ref r6, .int (md), .int (ck), .int (nI 0)])), (r1, .inl (cZ, 32, .inl (upd (qm_T th) (v) (vp_nar .boolean (nI 1))))), (r2, .inl (cI, 4096, .inl (qm_P pl))), (r3, .inl (cI, 4096, .inl (mk))), (r4, .inl (cI, 64, .inl (nt))), (r5, .inl (cB, 76800, .inl (bt))), (r6, .inl (cZ, 600, .inl (qm_T us)))] := hD
              rw [qm_Tt] at hP hD
              have hP : va_P D cls [(mo, .inr (5, [.ref r1, .ref r2, .ref r3, .ref r4, .ref r5, .ref r6, .int (md), .int (ck), .int (nI 0)])), (r1, .inl (cZ, 32, .inl (qm_T (va_up th v true)))), (r2, .inl (cI, 4096, .inl (qm_P pl))), (r3, .inl (cI, 4096, .inl (mk))), (r4, .inl (cI, 64, .inl (nt))), (r5, .inl (cB, 76800, .inl (bt))), (r6, .inl (cZ, 600, .inl (qm_T us)))] H := hP
              have hD : va_D A [(mo, .inr (5, [.ref r1, .ref r2, .ref r3, .ref r4, .ref r5, .ref r6, .int (md), .int (ck), .int (nI 0)])), (r1, .inl (cZ, 32, .inl (qm_T (va_up th v true)))), (r2, .inl (cI, 4096, .inl (qm_P pl))), (r3, .inl (cI, 4096, .inl (mk))), (r4, .inl (cI, 64, .inl (nt))), (r5, .inl (cB, 76800, .inl (bt))), (r6, .inl (cZ, 600, .inl (qm_T us)))] := hD
              have hvo : ¬ v = o := fun q => by rw [q, kt2] at kt; cases kt
              refine lv_iconst (v := nI 0) hx hb d_Mo_snap_67 (by decide) ?_
              refine lv_istore (lv' := [(4, .int (nI 0)), (3, .int (nI (qm_ct pl (128 * o) (128)))), (0, .ref mo), (1, .int (nI v)), (2, .int (nI o))]) hx hb d_Mo_snap_68 hl (by decide) rfl (fun ls hl => ?_)
              refine q_loop (pc := 70) (σ := Unit) (I := fun i u9 H locs ls => va_P D cls [(mo, .inr (5, [.ref r1, .ref r2, .ref r3, .ref r4, .ref r5, .ref r6, .int (md), .int (ck), .int (nI 0)])), (r1, .inl (cZ, 32, .inl (qm_T (va_up th v true)))), (r2, .inl (cI, 4096, .inl (qm_P ((qm_sn v o pl mk bt us (i)).1)))), (r3, .inl (cI, 4096, .inl ((qm_sn v o pl mk bt us (i)).2.1))), (r4, .inl (cI, 64, .inl (nt))), (r5, .inl (cB, 76800, .inl ((qm_sn v o pl mk bt us (i)).2.2.1))), (r6, .inl (cZ, 600, .inl (qm_T ((qm_sn v o pl mk bt us (i)).2.2.2))))] H ∧ va_D A [(mo, .inr (5, [.ref r1, .ref r2, .ref r3, .ref r4, .ref r5, .ref r6, .int (md), .int (ck), .int (nI 0)])), (r1, .inl (cZ, 32, .inl (qm_T (va_up th v true)))), (r2, .inl (cI, 4096, .inl (qm_P ((qm_sn v o pl mk bt us (i)).1)))), (r3, .inl (cI, 4096, .inl ((qm_sn v o pl mk bt us (i)).2.1))), (r4, .inl (cI, 64, .inl (nt))), (r5, .inl (cB, 76800, .inl ((qm_sn v o pl mk bt us (i)).2.2.1))), (r6, .inl (cZ, 600, .inl (qm_T ((qm_sn v o pl mk bt us (i)).2.2.2))))] ∧ va_S A s.heap H locs ∧ lv_has ls 8 [(0, .ref mo), (1, .int (nI v)), (2, .int (nI o)), (3, .int (nI (qm_ct pl (128 * o) (128)))), (4, .int (nI i))]) (128) ?_ ?_ (0) (()) _ _ _ (by omega) ⟨hP, hD, hS, lv_sub hl [2, 3, 4, 1, 0] rfl⟩
              · intro u9 H locs ls hI
                obtain ⟨hP, hD, hS, hl⟩ := hI
                refine lv_iload hx hb d_Mo_snap_70 (lv_at hl 4 rfl) ?_
                refine lv_sipush (v := nI 128) hx hb d_Mo_snap_72 (by decide) ?_
                refine lv_icmp_ge (tgt := 194) hx hb d_Mo_snap_75 (by decide) (fun c75 => ?_) (fun c75 => ?_)
                · have c75 : 128 ≤ 128 := (nI_leI (by omega) (by omega)).mp c75
                  refine lv_iload_n hx hb d_Mo_snap_194 rfl (lv_at hl 3 rfl) ?_
                  exact q_iret hx hb hr hlk hK hP hD hS d_Mo_snap_195 (rfl) (rfl)
                · have c75 : ¬ 128 ≤ 128 := fun h9 => c75 ((nI_leI (by omega) (by omega)).mpr h9)
                  exfalso; omega
              · intro i u9 H locs ls hi hI ih
                obtain ⟨hP, hD, hS, hl⟩ := hI
                have hpl := ksn i (by omega)
                refine lv_iload hx hb d_Mo_snap_70 (lv_at hl 4 rfl) ?_
                refine lv_sipush (v := nI 128) hx hb d_Mo_snap_72 (by decide) ?_
                refine lv_icmp_ge (tgt := 194) hx hb d_Mo_snap_75 (by decide) (fun c75 => ?_) (fun c75 => ?_)
                · have c75 : 128 ≤ i := (nI_leI (by omega) (by omega)).mp c75
                  exfalso; omega
                · have c75 : ¬ 128 ≤ i := fun h9 => c75 ((nI_leI (by omega) (by omega)).mpr h9)
                  refine lv_sipush (v := nI 128) hx hb d_Mo_snap_78 (by decide) ?_
                  refine lv_iload_n hx hb d_Mo_snap_81 rfl (lv_at hl 2 rfl) ?_
                  refine lv_imul hx hb d_Mo_snap_82 ?_
                  refine q_ti (y := nI (128 * o)) (pk_mul _ _) ?_
                  refine lv_iload hx hb d_Mo_snap_83 (lv_at hl 4 rfl) ?_
                  refine lv_iadd hx hb d_Mo_snap_85 ?_
                  refine q_ti (y := nI (128 * o + i)) (nI_add _ _) ?_
                  refine lv_istore (lv' := [(5, .int (nI (128 * o + i))), (0, .ref mo), (1, .int (nI v)), (2, .int (nI o)), (3, .int (nI (qm_ct pl (128 * o) (128)))), (4, .int (nI i))]) hx hb d_Mo_snap_86 hl (by decide) rfl (fun ls hl => ?_)
                  refine lv_sipush (v := nI 128) hx hb d_Mo_snap_88 (by decide) ?_
                  refine lv_iload_n hx hb d_Mo_snap_91 rfl (lv_at hl 2 rfl) ?_
                  refine lv_imul hx hb d_Mo_snap_92 ?_
                  refine q_ti (y := nI (128 * v)) (pk_mul _ _) ?_
                  refine lv_iload hx hb d_Mo_snap_93 (lv_at hl 5 rfl) ?_
                  refine lv_iadd hx hb d_Mo_snap_95 ?_
                  refine q_ti (y := nI (128 * v + i)) (nI_add _ _) ?_
                  refine lv_istore (lv' := [(6, .int (nI (128 * v + i))), (5, .int (nI (128 * o + i))), (0, .ref mo), (1, .int (nI v)), (2, .int (nI o)), (3, .int (nI (qm_ct pl (128 * o) (128)))), (4, .int (nI i))]) hx hb d_Mo_snap_96 hl (by decide) rfl (fun ls hl => ?_)
                  refine lv_aload_n hx hb d_Mo_snap_98 rfl (lv_at hl 2 rfl) ?_
                  refine va_get (D := D) (ci := 5) (v := .ref r2) (C := R_Mo) (T := F_Mo) (N := 9) hx hb hts i_Mo hown hK hP 0 rfl rfl 1 (by decide) (hts _ fl_Mo_13) (fun _ h9 => h9) rfl d_Mo_snap_99 ?_
                  refine lv_iload hx hb d_Mo_snap_102 (lv_at hl 1 rfl) ?_
                  refine va_iald hx hb hK hP 2 1 rfl rfl (vp_in_nI (by omega) (by decide)) d_Mo_snap_104 ?_
                  refine q_ti (y := (qm_P ((qm_sn v o pl mk bt us (i)).1)) (128 * o + i)) (by rw [nI_clamp (by omega)]) ?_
                  refine lv_if_lt (tgt := 188) hx hb d_Mo_snap_105 (by decide) (fun c105 => ?_) (fun c105 => ?_)
                  · have c105 := qm_Pn (hpl _) c105
                    refine lv_iinc (v := nI (i + 1)) (lv' := [(4, .int (nI (i + 1))), (6, .int (nI (128 * v + i))), (5, .int (nI (128 * o + i))), (0, .ref mo), (1, .int (nI v)), (2, .int (nI o)), (3, .int (nI (qm_ct pl (128 * o) (128))))]) hx hb d_Mo_snap_188 hl (k := 6) rfl (nI_1 _) (by decide) rfl (fun ls hl => ?_)
                    refine lv_goto (tgt := 70) hx hb d_Mo_snap_191 (by decide) ?_
                    exact ih (()) _ _ _ ⟨(by first | exact hP | (rw [qm_sn_z c105]; exact hP)), (by first | exact hD | (rw [qm_sn_z c105]; exact hD)), hS, (by first | exact lv_sub hl [3, 4, 5, 6, 0] rfl | (rw [qm_sn_z c105]; exact lv_sub hl [3, 4, 5, 6, 0] rfl))⟩
                  · have c105 := qm_Pp (hpl _) c105
                    have hfr := kfr i hi c105
                    have hspec := qm_fr_spec hfr
                    have hsrc : (qm_sn v o pl mk bt us (i)).1 (128 * o + i) = ((qm_sn v o pl mk bt us (i)).1 (128 * o + i) - 1) + 1 := by omega
                    have hs6 := hpl (128 * o + i)
                    refine lv_aload_n hx hb d_Mo_snap_108 rfl (lv_at hl 2 rfl) ?_
                    refine va_get (D := D) (ci := 5) (v := .ref r2) (C := R_Mo) (T := F_Mo) (N := 9) hx hb hts i_Mo hown hK hP 0 rfl rfl 1 (by decide) (hts _ fl_Mo_13) (fun _ h9 => h9) rfl d_Mo_snap_109 ?_
                    refine lv_iload hx hb d_Mo_snap_112 (lv_at hl 0 rfl) ?_
                    refine lv_aload_n hx hb d_Mo_snap_114 rfl (lv_at hl 2 rfl) ?_
                    refine q_callVi (As := []) (rest := [.int (nI (128 * v + i)), .ref r2]) (wsC := [(mo, .inr (5, [.ref r1, .ref r2, .ref r3, .ref r4, .ref r5, .ref r6, .int (md), .int (ck), .int (nI 0)])), (r1, .inl (cZ, 32, .inl (qm_T (va_up th v true)))), (r2, .inl (cI, 4096, .inl (qm_P ((qm_sn v o pl mk bt us (i)).1)))), (r3, .inl (cI, 4096, .inl ((qm_sn v o pl mk bt us (i)).2.1))), (r4, .inl (cI, 64, .inl (nt))), (r5, .inl (cB, 76800, .inl ((qm_sn v o pl mk bt us (i)).2.2.1))), (r6, .inl (cZ, 600, .inl (qm_T ((qm_sn v o pl mk bt us (i)).2.2.2))))]) (wsR := []) (wsC' := [(mo, .inr (5, [.ref r1, .ref r2, .ref r3, .ref r4, .ref r5, .ref r6, .int (md), .int (ck), .int (nI 0)])), (r1, .inl (cZ, 32, .inl (qm_T (va_up th v true)))), (r2, .inl (cI, 4096, .inl (qm_P ((qm_sn v o pl mk bt us (i)).1)))), (r3, .inl (cI, 4096, .inl (((qm_sn v o pl mk bt us (i)).2.1)))), (r4, .inl (cI, 64, .inl (nt))), (r5, .inl (cB, 76800, .inl (qv_for (128) (fun g j => upd g (128 * (qm_fr ((qm_sn v o pl mk bt us (i)).2.2.2)) + j) (vp_nar .byte (nI 0))) ((qm_sn v o pl mk bt us (i)).2.2.1)))), (r6, .inl (cZ, 600, .inl (qm_T (va_up ((qm_sn v o pl mk bt us (i)).2.2.2) (qm_fr ((qm_sn v o pl mk bt us (i)).2.2.2)) true))))]) (wsN := [(mo, .inr (5, [.ref r1, .ref r2, .ref r3, .ref r4, .ref r5, .ref r6, .int (md), .int (ck), .int (nI 0)])), (r1, .inl (cZ, 32, .inl (qm_T (va_up th v true)))), (r2, .inl (cI, 4096, .inl (qm_P ((qm_sn v o pl mk bt us (i)).1)))), (r3, .inl (cI, 4096, .inl (((qm_sn v o pl mk bt us (i)).2.1)))), (r4, .inl (cI, 64, .inl (nt))), (r5, .inl (cB, 76800, .inl (qv_for (128) (fun g j => upd g (128 * (qm_fr ((qm_sn v o pl mk bt us (i)).2.2.2)) + j) (vp_nar .byte (nI 0))) ((qm_sn v o pl mk bt us (i)).2.2.1)))), (r6, .inl (cZ, 600, .inl (qm_T (va_up ((qm_sn v o pl mk bt us (i)).2.2.2) (qm_fr ((qm_sn v o pl mk bt us (i)).2.2.2)) true))))]) (isT := [0, 1, 2]) (isC := [0, 1, 2, 3, 4, 5, 6]) (isR := []) (isN := [0, 1, 2, 3, 4, 5, 6]) (k := 0) (ci := 5) (C := R_Mo) ⟨hx, hb, hml, hown, hts⟩ (c_Mo_fresh l D cZ cI cB mo r1 r2 r3 r4 r5 r6 (va_up th v true) ((qm_sn v o pl mk bt us (i)).1) ((qm_sn v o pl mk bt us (i)).2.1) nt ((qm_sn v o pl mk bt us (i)).2.2.1) ((qm_sn v o pl mk bt us (i)).2.2.2) md ck (qm_fr ((qm_sn v o pl mk bt us (i)).2.2.2)) hfr hspec.1 hspec.2) (tw_V ml_Mo_54 im_Mo_fresh se_Mo_fresh in_Mo cd_Mo_fresh) rfl ⟨by decide +kernel, Nat.le_of_ble_eq_true rfl, Nat.le_of_ble_eq_true rfl⟩ ⟨Nat.le_of_ble_eq_true rfl, Nat.le_of_ble_eq_true rfl⟩ hK hP hD hS hA hN rfl ⟨rfl, rfl, rfl, by decide, by decide, by decide, by decide⟩ rfl rfl rfl hl.1 rfl rfl (Nat.le_of_ble_eq_true rfl) d_Mo_snap_115 (fun H locs hP hD hS => ?_)
                    refine va_iast hx hb hK hP hD hS 2 1 rfl rfl (vp_in_nI (by omega) (by decide)) d_Mo_snap_118 (fun H locs hP hD hS => ?_)
                    rw [nI_clamp (by omega)] at hP hD
                    have hP : va_P D cls [(mo, .inr (5, [.ref r1, .ref r2, .ref r3, .ref r4, .ref r5, .ref r6, .int (md), .int (ck), .int (nI 0)])), (r1, .inl (cZ, 32, .inl (qm_T (va_up th v true)))), (r2, .inl (cI, 4096, .inl (upd (qm_P ((qm_sn v o pl mk bt us (i)).1)) (128 * v + i) (nI (qm_fr ((qm_sn v o pl mk bt us (i)).2.2.2)))))), (r3, .inl (cI, 4096, .inl (((qm_sn v o pl mk bt us (i)).2.1)))), (r4, .inl (cI, 64, .inl (nt))), (r5, .inl (cB, 76800, .inl (qv_for (128) (fun g j => upd g (128 * (qm_fr ((qm_sn v o pl mk bt us (i)).2.2.2)) + j) (vp_nar .byte (nI 0))) ((qm_sn v o pl mk bt us (i)).2.2.1)))), (r6, .inl (cZ, 600, .inl (qm_T (va_up ((qm_sn v o pl mk bt us (i)).2.2.2) (qm_fr ((qm_sn v o pl mk bt us (i)).2.2.2)) true))))] H := hP
                    have hD : va_D A [(mo, .inr (5, [.ref r1, .ref r2, .ref r3, .ref r4, .ref r5, .ref r6, .int (md), .int (ck), .int (nI 0)])), (r1, .inl (cZ, 32, .inl (qm_T (va_up th v true)))), (r2, .inl (cI, 4096, .inl (upd (qm_P ((qm_sn v o pl mk bt us (i)).1)) (128 * v + i) (nI (qm_fr ((qm_sn v o pl mk bt us (i)).2.2.2)))))), (r3, .inl (cI, 4096, .inl (((qm_sn v o pl mk bt us (i)).2.1)))), (r4, .inl (cI, 64, .inl (nt))), (r5, .inl (cB, 76800, .inl (qv_for (128) (fun g j => upd g (128 * (qm_fr ((qm_sn v o pl mk bt us (i)).2.2.2)) + j) (vp_nar .byte (nI 0))) ((qm_sn v o pl mk bt us (i)).2.2.1)))), (r6, .inl (cZ, 600, .inl (qm_T (va_up ((qm_sn v o pl mk bt us (i)).2.2.2) (qm_fr ((qm_sn v o pl mk bt us (i)).2.2.2)) true))))] := hD
                    rw [qm_Pw] at hP hD
                    have hP : va_P D cls [(mo, .inr (5, [.ref r1, .ref r2, .ref r3, .ref r4, .ref r5, .ref r6, .int (md), .int (ck), .int (nI 0)])), (r1, .inl (cZ, 32, .inl (qm_T (va_up th v true)))), (r2, .inl (cI, 4096, .inl (qm_P (va_up ((qm_sn v o pl mk bt us (i)).1) (128 * v + i) (qm_fr ((qm_sn v o pl mk bt us (i)).2.2.2) + 1))))), (r3, .inl (cI, 4096, .inl (((qm_sn v o pl mk bt us (i)).2.1)))), (r4, .inl (cI, 64, .inl (nt))), (r5, .inl (cB, 76800, .inl (qv_for (128) (fun g j => upd g (128 * (qm_fr ((qm_sn v o pl mk bt us (i)).2.2.2)) + j) (vp_nar .byte (nI 0))) ((qm_sn v o pl mk bt us (i)).2.2.1)))), (r6, .inl (cZ, 600, .inl (qm_T (va_up ((qm_sn v o pl mk bt us (i)).2.2.2) (qm_fr ((qm_sn v o pl mk bt us (i)).2.2.2)) true))))] H := hP
                    have hD : va_D A [(mo, .inr (5, [.ref r1, .ref r2, .ref r3, .ref r4, .ref r5, .ref r6, .int (md), .int (ck), .int (nI 0)])), (r1, .inl (cZ, 32, .inl (qm_T (va_up th v true)))), (r2, .inl (cI, 4096, .inl (qm_P (va_up ((qm_sn v o pl mk bt us (i)).1) (128 * v + i) (qm_fr ((qm_sn v o pl mk bt us (i)).2.2.2) + 1))))), (r3, .inl (cI, 4096, .inl (((qm_sn v o pl mk bt us (i)).2.1)))), (r4, .inl (cI, 64, .inl (nt))), (r5, .inl (cB, 76800, .inl (qv_for (128) (fun g j => upd g (128 * (qm_fr ((qm_sn v o pl mk bt us (i)).2.2.2)) + j) (vp_nar .byte (nI 0))) ((qm_sn v o pl mk bt us (i)).2.2.1)))), (r6, .inl (cZ, 600, .inl (qm_T (va_up ((qm_sn v o pl mk bt us (i)).2.2.2) (qm_fr ((qm_sn v o pl mk bt us (i)).2.2.2)) true))))] := hD
                    refine lv_aload_n hx hb d_Mo_snap_119 rfl (lv_at hl 2 rfl) ?_
                    refine va_get (D := D) (ci := 5) (v := .ref r3) (C := R_Mo) (T := F_Mo) (N := 9) hx hb hts i_Mo hown hK hP 0 rfl rfl 2 (by decide) (hts _ fl_Mo_17) (fun _ h9 => h9) rfl d_Mo_snap_120 ?_
                    refine lv_iload hx hb d_Mo_snap_123 (lv_at hl 0 rfl) ?_
                    refine lv_aload_n hx hb d_Mo_snap_125 rfl (lv_at hl 2 rfl) ?_
                    refine va_get (D := D) (ci := 5) (v := .ref r3) (C := R_Mo) (T := F_Mo) (N := 9) hx hb hts i_Mo hown hK hP 0 rfl rfl 2 (by decide) (hts _ fl_Mo_17) (fun _ h9 => h9) rfl d_Mo_snap_126 ?_
                    refine lv_iload hx hb d_Mo_snap_129 (lv_at hl 1 rfl) ?_
                    refine va_iald hx hb hK hP 3 1 rfl rfl (vp_in_nI (by omega) (by decide)) d_Mo_snap_131 ?_
                    refine q_ti (y := ((qm_sn v o pl mk bt us (i)).2.1) (128 * o + i)) (by rw [nI_clamp (by omega)]) ?_
                    refine va_iast hx hb hK hP hD hS 3 1 rfl rfl (vp_in_nI (by omega) (by decide)) d_Mo_snap_132 (fun H locs hP hD hS => ?_)
                    rw [nI_clamp (by omega)] at hP hD
                    have hP : va_P D cls [(mo, .inr (5, [.ref r1, .ref r2, .ref r3, .ref r4, .ref r5, .ref r6, .int (md), .int (ck), .int (nI 0)])), (r1, .inl (cZ, 32, .inl (qm_T (va_up th v true)))), (r2, .inl (cI, 4096, .inl (qm_P (va_up ((qm_sn v o pl mk bt us (i)).1) (128 * v + i) (qm_fr ((qm_sn v o pl mk bt us (i)).2.2.2) + 1))))), (r3, .inl (cI, 4096, .inl (upd ((qm_sn v o pl mk bt us (i)).2.1) (128 * v + i) (((qm_sn v o pl mk bt us (i)).2.1) (128 * o + i))))), (r4, .inl (cI, 64, .inl (nt))), (r5, .inl (cB, 76800, .inl (qv_for (128) (fun g j => upd g (128 * (qm_fr ((qm_sn v o pl mk bt us (i)).2.2.2)) + j) (vp_nar .byte (nI 0))) ((qm_sn v o pl mk bt us (i)).2.2.1)))), (r6, .inl (cZ, 600, .inl (qm_T (va_up ((qm_sn v o pl mk bt us (i)).2.2.2) (qm_fr ((qm_sn v o pl mk bt us (i)).2.2.2)) true))))] H := hP
                    have hD : va_D A [(mo, .inr (5, [.ref r1, .ref r2, .ref r3, .ref r4, .ref r5, .ref r6, .int (md), .int (ck), .int (nI 0)])), (r1, .inl (cZ, 32, .inl (qm_T (va_up th v true)))), (r2, .inl (cI, 4096, .inl (qm_P (va_up ((qm_sn v o pl mk bt us (i)).1) (128 * v + i) (qm_fr ((qm_sn v o pl mk bt us (i)).2.2.2) + 1))))), (r3, .inl (cI, 4096, .inl (upd ((qm_sn v o pl mk bt us (i)).2.1) (128 * v + i) (((qm_sn v o pl mk bt us (i)).2.1) (128 * o + i))))), (r4, .inl (cI, 64, .inl (nt))), (r5, .inl (cB, 76800, .inl (qv_for (128) (fun g j => upd g (128 * (qm_fr ((qm_sn v o pl mk bt us (i)).2.2.2)) + j) (vp_nar .byte (nI 0))) ((qm_sn v o pl mk bt us (i)).2.2.1)))), (r6, .inl (cZ, 600, .inl (qm_T (va_up ((qm_sn v o pl mk bt us (i)).2.2.2) (qm_fr ((qm_sn v o pl mk bt us (i)).2.2.2)) true))))] := hD
                    refine lv_iconst (v := nI 0) hx hb d_Mo_snap_133 (by decide) ?_
                    refine lv_istore (lv' := [(7, .int (nI 0)), (6, .int (nI (128 * v + i))), (5, .int (nI (128 * o + i))), (0, .ref mo), (1, .int (nI v)), (2, .int (nI o)), (3, .int (nI (qm_ct pl (128 * o) (128)))), (4, .int (nI i))]) hx hb d_Mo_snap_134 hl (by decide) rfl (fun ls hl => ?_)
                    refine q_loop (pc := 136) (σ := Unit) (I := fun j u8 H locs ls => va_P D cls [(mo, .inr (5, [.ref r1, .ref r2, .ref r3, .ref r4, .ref r5, .ref r6, .int (md), .int (ck), .int (nI 0)])), (r1, .inl (cZ, 32, .inl (qm_T (va_up th v true)))), (r2, .inl (cI, 4096, .inl (qm_P (va_up ((qm_sn v o pl mk bt us (i)).1) (128 * v + i) (qm_fr ((qm_sn v o pl mk bt us (i)).2.2.2) + 1))))), (r3, .inl (cI, 4096, .inl (upd (qm_sn v o pl mk bt us (i)).2.1 (128 * v + i) ((qm_sn v o pl mk bt us (i)).2.1 (128 * o + i))))), (r4, .inl (cI, 64, .inl (nt))), (r5, .inl (cB, 76800, .inl (qv_for (j) (fun g j => upd g (128 * (qm_fr ((qm_sn v o pl mk bt us (i)).2.2.2)) + j) (vp_nar .byte (g (128 * ((qm_sn v o pl mk bt us (i)).1 (128 * o + i) - 1) + j)))) (qv_for 128 (fun g j => upd g (128 * (qm_fr ((qm_sn v o pl mk bt us (i)).2.2.2)) + j) (vp_nar .byte (nI 0))) (qm_sn v o pl mk bt us (i)).2.2.1)))), (r6, .inl (cZ, 600, .inl (qm_T (va_up (qm_sn v o pl mk bt us (i)).2.2.2 (qm_fr ((qm_sn v o pl mk bt us (i)).2.2.2)) true))))] H ∧ va_D A [(mo, .inr (5, [.ref r1, .ref r2, .ref r3, .ref r4, .ref r5, .ref r6, .int (md), .int (ck), .int (nI 0)])), (r1, .inl (cZ, 32, .inl (qm_T (va_up th v true)))), (r2, .inl (cI, 4096, .inl (qm_P (va_up ((qm_sn v o pl mk bt us (i)).1) (128 * v + i) (qm_fr ((qm_sn v o pl mk bt us (i)).2.2.2) + 1))))), (r3, .inl (cI, 4096, .inl (upd (qm_sn v o pl mk bt us (i)).2.1 (128 * v + i) ((qm_sn v o pl mk bt us (i)).2.1 (128 * o + i))))), (r4, .inl (cI, 64, .inl (nt))), (r5, .inl (cB, 76800, .inl (qv_for (j) (fun g j => upd g (128 * (qm_fr ((qm_sn v o pl mk bt us (i)).2.2.2)) + j) (vp_nar .byte (g (128 * ((qm_sn v o pl mk bt us (i)).1 (128 * o + i) - 1) + j)))) (qv_for 128 (fun g j => upd g (128 * (qm_fr ((qm_sn v o pl mk bt us (i)).2.2.2)) + j) (vp_nar .byte (nI 0))) (qm_sn v o pl mk bt us (i)).2.2.1)))), (r6, .inl (cZ, 600, .inl (qm_T (va_up (qm_sn v o pl mk bt us (i)).2.2.2 (qm_fr ((qm_sn v o pl mk bt us (i)).2.2.2)) true))))] ∧ va_S A s.heap H locs ∧ lv_has ls 8 [(0, .ref mo), (1, .int (nI v)), (2, .int (nI o)), (3, .int (nI (qm_ct pl (128 * o) (128)))), (4, .int (nI i)), (5, .int (nI (128 * o + i))), (6, .int (nI (128 * v + i))), (7, .int (nI j))]) (128) ?_ ?_ (0) (()) _ _ _ (by omega) ⟨hP, hD, hS, lv_sub hl [3, 4, 5, 6, 7, 2, 1, 0] rfl⟩
                    · intro u8 H locs ls hI
                      obtain ⟨hP, hD, hS, hl⟩ := hI
                      refine lv_iload hx hb d_Mo_snap_136 (lv_at hl 7 rfl) ?_
                      refine lv_sipush (v := nI 128) hx hb d_Mo_snap_138 (by decide) ?_
                      refine lv_icmp_ge (tgt := 188) hx hb d_Mo_snap_141 (by decide) (fun c141 => ?_) (fun c141 => ?_)
                      · have c141 : 128 ≤ 128 := (nI_leI (by omega) (by omega)).mp c141
                        refine lv_iinc (v := nI (i + 1)) (lv' := [(4, .int (nI (i + 1))), (0, .ref mo), (1, .int (nI v)), (2, .int (nI o)), (3, .int (nI (qm_ct pl (128 * o) (128)))), (5, .int (nI (128 * o + i))), (6, .int (nI (128 * v + i))), (7, .int (nI 128))]) hx hb d_Mo_snap_188 hl (k := 4) rfl (nI_1 _) (by decide) rfl (fun ls hl => ?_)
                        refine lv_goto (tgt := 70) hx hb d_Mo_snap_191 (by decide) ?_
                        exact ih (()) _ _ _ ⟨(by first | exact hP | (rw [qm_sn_n c105]; exact hP)), (by first | exact hD | (rw [qm_sn_n c105]; exact hD)), hS, (by first | exact lv_sub hl [1, 2, 3, 4, 0] rfl | (rw [qm_sn_n c105]; exact lv_sub hl [1, 2, 3, 4, 0] rfl))⟩
                      · have c141 : ¬ 128 ≤ 128 := fun h9 => c141 ((nI_leI (by omega) (by omega)).mpr h9)
                        exfalso; omega
                    · intro j u8 H locs ls hi hI ih
                      obtain ⟨hP, hD, hS, hl⟩ := hI
                      refine lv_iload hx hb d_Mo_snap_136 (lv_at hl 7 rfl) ?_
                      refine lv_sipush (v := nI 128) hx hb d_Mo_snap_138 (by decide) ?_
                      refine lv_icmp_ge (tgt := 188) hx hb d_Mo_snap_141 (by decide) (fun c141 => ?_) (fun c141 => ?_)
                      · have c141 : 128 ≤ j := (nI_leI (by omega) (by omega)).mp c141
                        exfalso; omega
                      · have c141 : ¬ 128 ≤ j := fun h9 => c141 ((nI_leI (by omega) (by omega)).mpr h9)
                        refine lv_aload_n hx hb d_Mo_snap_144 rfl (lv_at hl 0 rfl) ?_
                        refine va_get (D := D) (ci := 5) (v := .ref r5) (C := R_Mo) (T := F_Mo) (N := 9) hx hb hts i_Mo hown hK hP 0 rfl rfl 4 (by decide) (hts _ fl_Mo_24) (fun _ h9 => h9) rfl d_Mo_snap_145 ?_
                        refine lv_sipush (v := nI 128) hx hb d_Mo_snap_148 (by decide) ?_
                        refine lv_aload_n hx hb d_Mo_snap_151 rfl (lv_at hl 0 rfl) ?_
                        refine va_get (D := D) (ci := 5) (v := .ref r2) (C := R_Mo) (T := F_Mo) (N := 9) hx hb hts i_Mo hown hK hP 0 rfl rfl 1 (by decide) (hts _ fl_Mo_13) (fun _ h9 => h9) rfl d_Mo_snap_152 ?_
                        refine lv_iload hx hb d_Mo_snap_155 (lv_at hl 6 rfl) ?_
                        refine va_iald hx hb hK hP 2 1 rfl rfl (vp_in_nI (by omega) (by decide)) d_Mo_snap_157 ?_
                        refine q_ti (y := (qm_P (va_up ((qm_sn v o pl mk bt us (i)).1) (128 * v + i) (qm_fr ((qm_sn v o pl mk bt us (i)).2.2.2) + 1))) (128 * v + i)) (by rw [nI_clamp (by omega)]) ?_
                        refine q_ti (y := nI (qm_fr ((qm_sn v o pl mk bt us (i)).2.2.2))) (qm_Pk qf_us) ?_
                        refine lv_imul hx hb d_Mo_snap_158 ?_
                        refine q_ti (y := nI (128 * (qm_fr ((qm_sn v o pl mk bt us (i)).2.2.2)))) (pk_mul _ _) ?_
                        refine lv_iload hx hb d_Mo_snap_159 (lv_at hl 7 rfl) ?_
                        refine lv_iadd hx hb d_Mo_snap_161 ?_
                        refine q_ti (y := nI (128 * (qm_fr ((qm_sn v o pl mk bt us (i)).2.2.2)) + j)) (nI_add _ _) ?_
                        refine lv_aload_n hx hb d_Mo_snap_162 rfl (lv_at hl 0 rfl) ?_
                        refine va_get (D := D) (ci := 5) (v := .ref r5) (C := R_Mo) (T := F_Mo) (N := 9) hx hb hts i_Mo hown hK hP 0 rfl rfl 4 (by decide) (hts _ fl_Mo_24) (fun _ h9 => h9) rfl d_Mo_snap_163 ?_
                        refine lv_sipush (v := nI 128) hx hb d_Mo_snap_166 (by decide) ?_
                        refine lv_aload_n hx hb d_Mo_snap_169 rfl (lv_at hl 0 rfl) ?_
                        refine va_get (D := D) (ci := 5) (v := .ref r2) (C := R_Mo) (T := F_Mo) (N := 9) hx hb hts i_Mo hown hK hP 0 rfl rfl 1 (by decide) (hts _ fl_Mo_13) (fun _ h9 => h9) rfl d_Mo_snap_170 ?_
                        refine lv_iload hx hb d_Mo_snap_173 (lv_at hl 5 rfl) ?_
                        refine va_iald hx hb hK hP 2 1 rfl rfl (vp_in_nI (by omega) (by decide)) d_Mo_snap_175 ?_
                        refine q_ti (y := (qm_P (va_up ((qm_sn v o pl mk bt us (i)).1) (128 * v + i) (qm_fr ((qm_sn v o pl mk bt us (i)).2.2.2) + 1))) (128 * o + i)) (by rw [nI_clamp (by omega)]) ?_
                        refine q_ti (y := nI (((qm_sn v o pl mk bt us (i)).1 (128 * o + i) - 1))) (qm_Pk (by rw [qf_un (by omega)]; exact hsrc)) ?_
                        refine lv_imul hx hb d_Mo_snap_176 ?_
                        refine q_ti (y := nI (128 * ((qm_sn v o pl mk bt us (i)).1 (128 * o + i) - 1))) (pk_mul _ _) ?_
                        refine lv_iload hx hb d_Mo_snap_177 (lv_at hl 7 rfl) ?_
                        refine lv_iadd hx hb d_Mo_snap_179 ?_
                        refine q_ti (y := nI (128 * ((qm_sn v o pl mk bt us (i)).1 (128 * o + i) - 1) + j)) (nI_add _ _) ?_
                        refine va_bald hx hb hK hP 5 2 rfl rfl (vp_in_nI (by omega) (by decide)) d_Mo_snap_180 ?_
                        refine q_ti (y := (qv_for (j) (fun g j => upd g (128 * (qm_fr ((qm_sn v o pl mk bt us (i)).2.2.2)) + j) (vp_nar .byte (g (128 * ((qm_sn v o pl mk bt us (i)).1 (128 * o + i) - 1) + j)))) (qv_for 128 (fun g j => upd g (128 * (qm_fr ((qm_sn v o pl mk bt us (i)).2.2.2)) + j) (vp_nar .byte (nI 0))) (qm_sn v o pl mk bt us (i)).2.2.1)) (128 * ((qm_sn v o pl mk bt us (i)).1 (128 * o + i) - 1) + j)) (by rw [nI_clamp (by omega)]) ?_
                        refine va_bast hx hb hK hP hD hS 5 2 rfl rfl (vp_in_nI (by omega) (by decide)) d_Mo_snap_181 (fun H locs hP hD hS => ?_)
                        rw [nI_clamp (by omega)] at hP hD
                        have hP : va_P D cls [(mo, .inr (5, [.ref r1, .ref r2, .ref r3, .ref r4, .ref r5, .ref r6, .int (md), .int (ck), .int (nI 0)])), (r1, .inl (cZ, 32, .inl (qm_T (va_up th v true)))), (r2, .inl (cI, 4096, .inl (qm_P (va_up ((qm_sn v o pl mk bt us (i)).1) (128 * v + i) (qm_fr ((qm_sn v o pl mk bt us (i)).2.2.2) + 1))))), (r3, .inl (cI, 4096, .inl (upd (qm_sn v o pl mk bt us (i)).2.1 (128 * v + i) ((qm_sn v o pl mk bt us (i)).2.1 (128 * o + i))))), (r4, .inl (cI, 64, .inl (nt))), (r5, .inl (cB, 76800, .inl (upd (qv_for (j) (fun g j => upd g (128 * (qm_fr ((qm_sn v o pl mk bt us (i)).2.2.2)) + j) (vp_nar .byte (g (128 * ((qm_sn v o pl mk bt us (i)).1 (128 * o + i) - 1) + j)))) (qv_for 128 (fun g j => upd g (128 * (qm_fr ((qm_sn v o pl mk bt us (i)).2.2.2)) + j) (vp_nar .byte (nI 0))) (qm_sn v o pl mk bt us (i)).2.2.1)) (128 * (qm_fr ((qm_sn v o pl mk bt us (i)).2.2.2)) + j) (vp_nar .byte ((qv_for (j) (fun g j => upd g (128 * (qm_fr ((qm_sn v o pl mk bt us (i)).2.2.2)) + j) (vp_nar .byte (g (128 * ((qm_sn v o pl mk bt us (i)).1 (128 * o + i) - 1) + j)))) (qv_for 128 (fun g j => upd g (128 * (qm_fr ((qm_sn v o pl mk bt us (i)).2.2.2)) + j) (vp_nar .byte (nI 0))) (qm_sn v o pl mk bt us (i)).2.2.1)) (128 * ((qm_sn v o pl mk bt us (i)).1 (128 * o + i) - 1) + j)))))), (r6, .inl (cZ, 600, .inl (qm_T (va_up (qm_sn v o pl mk bt us (i)).2.2.2 (qm_fr ((qm_sn v o pl mk bt us (i)).2.2.2)) true))))] H := hP
                        have hD : va_D A [(mo, .inr (5, [.ref r1, .ref r2, .ref r3, .ref r4, .ref r5, .ref r6, .int (md), .int (ck), .int (nI 0)])), (r1, .inl (cZ, 32, .inl (qm_T (va_up th v true)))), (r2, .inl (cI, 4096, .inl (qm_P (va_up ((qm_sn v o pl mk bt us (i)).1) (128 * v + i) (qm_fr ((qm_sn v o pl mk bt us (i)).2.2.2) + 1))))), (r3, .inl (cI, 4096, .inl (upd (qm_sn v o pl mk bt us (i)).2.1 (128 * v + i) ((qm_sn v o pl mk bt us (i)).2.1 (128 * o + i))))), (r4, .inl (cI, 64, .inl (nt))), (r5, .inl (cB, 76800, .inl (upd (qv_for (j) (fun g j => upd g (128 * (qm_fr ((qm_sn v o pl mk bt us (i)).2.2.2)) + j) (vp_nar .byte (g (128 * ((qm_sn v o pl mk bt us (i)).1 (128 * o + i) - 1) + j)))) (qv_for 128 (fun g j => upd g (128 * (qm_fr ((qm_sn v o pl mk bt us (i)).2.2.2)) + j) (vp_nar .byte (nI 0))) (qm_sn v o pl mk bt us (i)).2.2.1)) (128 * (qm_fr ((qm_sn v o pl mk bt us (i)).2.2.2)) + j) (vp_nar .byte ((qv_for (j) (fun g j => upd g (128 * (qm_fr ((qm_sn v o pl mk bt us (i)).2.2.2)) + j) (vp_nar .byte (g (128 * ((qm_sn v o pl mk bt us (i)).1 (128 * o + i) - 1) + j)))) (qv_for 128 (fun g j => upd g (128 * (qm_fr ((qm_sn v o pl mk bt us (i)).2.2.2)) + j) (vp_nar .byte (nI 0))) (qm_sn v o pl mk bt us (i)).2.2.1)) (128 * ((qm_sn v o pl mk bt us (i)).1 (128 * o + i) - 1) + j)))))), (r6, .inl (cZ, 600, .inl (qm_T (va_up (qm_sn v o pl mk bt us (i)).2.2.2 (qm_fr ((qm_sn v o pl mk bt us (i)).2.2.2)) true))))] := hD
                        refine lv_iinc (v := nI (j + 1)) (lv' := [(7, .int (nI (j + 1))), (0, .ref mo), (1, .int (nI v)), (2, .int (nI o)), (3, .int (nI (qm_ct pl (128 * o) (128)))), (4, .int (nI i)), (5, .int (nI (128 * o + i))), (6, .int (nI (128 * v + i)))]) hx hb d_Mo_snap_182 hl (k := 7) rfl (nI_1 _) (by decide) rfl (fun ls hl => ?_)
                        refine lv_goto (tgt := 136) hx hb d_Mo_snap_185 (by decide) ?_
                        exact ih (()) _ _ _ ⟨hP, hD, hS, lv_sub hl [1, 2, 3, 4, 5, 6, 7, 0] rfl⟩
            · have c54 : ¬ (qs_ (16) (fun v => qm_ct pl (128 * v) 128) + (qm_ct pl (128 * o) (128))) ≤ 300 := fun h9 => c54 ((nI_leI (by omega) (by omega)).mpr h9)
              exfalso; omega
          · have c34 : 1 = 0 := (q_z_eq (by omega)).mp c34
            exfalso; omega
  · have c4 : ¬ 0 = 0 := fun h9 => c4 ((q_z_eq (by omega)).mpr h9)
    exfalso; omega
set_option maxHeartbeats 4000000 in
set_option maxRecDepth 100000 in
theorem c_Mo_snap_full (l : Launch) (D : va_G) (cZ : ClassId) (cI : ClassId) (cB : ClassId) (mo : Nat) (r1 : Nat) (r2 : Nat) (r3 : Nat) (r4 : Nat) (r5 : Nat) (r6 : Nat) (th : Nat → Bool) (pl : Nat → Nat) (mk : Nat → Int32) (nt : Nat → Int32) (bt : Nat → Int32) (us : Nat → Bool) (md : Int32) (ck : Int32) (v : Nat) (o : Nat) (kv : v < 16) (ko : o < 16) (kt : th v = false) (kt2 : th o = true) (kpl : ∀ k, pl k ≤ 600) (kf : ¬ qs_ (16) (fun v => qm_ct pl (128 * v) 128) + qm_ct pl (128 * o) (128) ≤ 300) : qMi l y_Mo_snap b_Mo_snap 8 (some .int) (rmL 3) D [(cZ, .boolean), (cI, .int), (cB, .byte)] [.ref mo, .int (nI v), .int (nI o)] [(mo, .inr (5, [.ref r1, .ref r2, .ref r3, .ref r4, .ref r5, .ref r6, .int (md), .int (ck), .int (nI 0)])), (r1, .inl (cZ, 32, .inl (qm_T th))), (r2, .inl (cI, 4096, .inl (qm_P pl))), (r3, .inl (cI, 4096, .inl (mk))), (r4, .inl (cI, 64, .inl (nt))), (r5, .inl (cB, 76800, .inl (bt))), (r6, .inl (cZ, 600, .inl (qm_T us)))] [(mo, .inr (5, [.ref r1, .ref r2, .ref r3, .ref r4, .ref r5, .ref r6, .int (md), .int (ck), .int (nI 0)])), (r1, .inl (cZ, 32, .inl (qm_T th))), (r2, .inl (cI, 4096, .inl (qm_P pl))), (r3, .inl (cI, 4096, .inl (mk))), (r4, .inl (cI, 64, .inl (nt))), (r5, .inl (cB, 76800, .inl (bt))), (r6, .inl (cZ, 600, .inl (qm_T us)))] ((-3 : Int32)) := by
  refine q_start (Qc := qZi D _ _ _) (by decide +kernel) (Nat.le_of_ble_eq_true rfl) ?_
  intro p e s m below meth c A hx hb hr hlk hml hown hts hK hP hD hS hA hN ls hl
  have hl : lv_has ls 8 [(0, .ref mo), (1, .int (nI v)), (2, .int (nI o))] := hl
  have hP : va_P D cls [(mo, .inr (5, [.ref r1, .ref r2, .ref r3, .ref r4, .ref r5, .ref r6, .int (md), .int (ck), .int (nI 0)])), (r1, .inl (cZ, 32, .inl (qm_T th))), (r2, .inl (cI, 4096, .inl (qm_P pl))), (r3, .inl (cI, 4096, .inl (mk))), (r4, .inl (cI, 64, .inl (nt))), (r5, .inl (cB, 76800, .inl (bt))), (r6, .inl (cZ, 600, .inl (qm_T us)))] s.heap := hP
  have hD : va_D A [(mo, .inr (5, [.ref r1, .ref r2, .ref r3, .ref r4, .ref r5, .ref r6, .int (md), .int (ck), .int (nI 0)])), (r1, .inl (cZ, 32, .inl (qm_T th))), (r2, .inl (cI, 4096, .inl (qm_P pl))), (r3, .inl (cI, 4096, .inl (mk))), (r4, .inl (cI, 64, .inl (nt))), (r5, .inl (cB, 76800, .inl (bt))), (r6, .inl (cZ, 600, .inl (qm_T us)))] := hD
  refine lv_aload_n hx hb d_Mo_snap_0 rfl (lv_at hl 0 rfl) ?_
  refine va_get (D := D) (ci := 5) (v := .int (nI 0)) (C := R_Mo) (T := F_Mo) (N := 9) hx hb hts i_Mo hown hK hP 0 rfl rfl 8 (by decide) (hts _ fl_Mo_38) (fun _ h9 => h9) rfl d_Mo_snap_1 ?_
  refine lv_if_eq (tgt := 10) hx hb d_Mo_snap_4 (by decide) (fun c4 => ?_) (fun c4 => ?_)
  · have c4 : 0 = 0 := (q_z_eq (by omega)).mp c4
    refine lv_iload_n hx hb d_Mo_snap_10 rfl (lv_at hl 1 rfl) ?_
    refine lv_if_lt (tgt := 37) hx hb d_Mo_snap_11 (by decide) (fun c11 => ?_) (fun c11 => ?_)
    · exact absurd c11 (nI_pos (by omega))
    · refine lv_iload_n hx hb d_Mo_snap_14 rfl (lv_at hl 1 rfl) ?_
      refine lv_bipush (v := nI 16) hx hb d_Mo_snap_15 (by decide) ?_
      refine lv_icmp_ge (tgt := 37) hx hb d_Mo_snap_17 (by decide) (fun c17 => ?_) (fun c17 => ?_)
      · have c17 : 16 ≤ v := (nI_leI (by omega) (by omega)).mp c17
        exfalso; omega
      · have c17 : ¬ 16 ≤ v := fun h9 => c17 ((nI_leI (by omega) (by omega)).mpr h9)
        refine lv_aload_n hx hb d_Mo_snap_20 rfl (lv_at hl 0 rfl) ?_
        refine va_get (D := D) (ci := 5) (v := .ref r1) (C := R_Mo) (T := F_Mo) (N := 9) hx hb hts i_Mo hown hK hP 0 rfl rfl 0 (by decide) (hts _ fl_Mo_7) (fun _ h9 => h9) rfl d_Mo_snap_21 ?_
        refine lv_iload_n hx hb d_Mo_snap_24 rfl (lv_at hl 1 rfl) ?_
        refine va_zald hx hb hK hP 1 0 rfl rfl (vp_in_nI (by omega) (by decide)) d_Mo_snap_25 ?_
        refine q_ti (y := (qm_T th) (v)) (by rw [nI_clamp (by omega)]) ?_
        refine lv_if_ne (tgt := 37) hx hb d_Mo_snap_26 (by decide) (fun c26 => ?_) (fun c26 => ?_)
        · have c26 := qm_T1 c26
          rw [kt] at c26; cases c26
        · have c26 := qm_T0 c26
          refine lv_aload_n hx hb d_Mo_snap_29 rfl (lv_at hl 0 rfl) ?_
          refine lv_iload_n hx hb d_Mo_snap_30 rfl (lv_at hl 2 rfl) ?_
          refine q_callVi (As := [.int (nI o)]) (rest := []) (wsC := [(mo, .inr (5, [.ref r1, .ref r2, .ref r3, .ref r4, .ref r5, .ref r6, .int (md), .int (ck), .int (nI 0)])), (r1, .inl (cZ, 32, .inl (qm_T th))), (r2, .inl (cI, 4096, .inl (qm_P pl))), (r3, .inl (cI, 4096, .inl (mk))), (r4, .inl (cI, 64, .inl (nt))), (r5, .inl (cB, 76800, .inl (bt))), (r6, .inl (cZ, 600, .inl (qm_T us)))]) (wsR := []) (wsC' := [(mo, .inr (5, [.ref r1, .ref r2, .ref r3, .ref r4, .ref r5, .ref r6, .int (md), .int (ck), .int (nI 0)])), (r1, .inl (cZ, 32, .inl (qm_T th))), (r2, .inl (cI, 4096, .inl (qm_P pl))), (r3, .inl (cI, 4096, .inl (mk))), (r4, .inl (cI, 64, .inl (nt))), (r5, .inl (cB, 76800, .inl (bt))), (r6, .inl (cZ, 600, .inl (qm_T us)))]) (wsN := [(mo, .inr (5, [.ref r1, .ref r2, .ref r3, .ref r4, .ref r5, .ref r6, .int (md), .int (ck), .int (nI 0)])), (r1, .inl (cZ, 32, .inl (qm_T th))), (r2, .inl (cI, 4096, .inl (qm_P pl))), (r3, .inl (cI, 4096, .inl (mk))), (r4, .inl (cI, 64, .inl (nt))), (r5, .inl (cB, 76800, .inl (bt))), (r6, .inl (cZ, 600, .inl (qm_T us)))]) (isT := [0, 1, 2]) (isC := [0, 1, 2, 3, 4, 5, 6]) (isR := []) (isN := [0, 1, 2, 3, 4, 5, 6]) (k := 1) (ci := 5) (C := R_Mo) ⟨hx, hb, hml, hown, hts⟩ (c_Mo_isThereY l D cZ cI cB mo r1 r2 r3 r4 r5 r6 th pl mk nt bt us md ck o (by omega) kt2) (tw_V ml_Mo_46 im_Mo_isThere se_Mo_isThere in_Mo cd_Mo_isThere) rfl ⟨by decide +kernel, Nat.le_of_ble_eq_true rfl, Nat.le_of_ble_eq_true rfl⟩ ⟨Nat.le_of_ble_eq_true rfl, Nat.le_of_ble_eq_true rfl⟩ hK hP hD hS hA hN rfl ⟨rfl, rfl, rfl, by decide, by decide, by decide, by decide⟩ rfl rfl rfl hl.1 rfl rfl (Nat.le_of_ble_eq_true rfl) d_Mo_snap_31 (fun H locs hP hD hS => ?_)
          refine lv_if_ne (tgt := 39) hx hb d_Mo_snap_34 (by decide) (fun c34 => ?_) (fun c34 => ?_)
          · have c34 : ¬ 1 = 0 := fun h9 => c34 ((q_z_eq (by omega)).mpr h9)
            refine lv_aload_n hx hb d_Mo_snap_39 rfl (lv_at hl 0 rfl) ?_
            refine lv_iload_n hx hb d_Mo_snap_40 rfl (lv_at hl 2 rfl) ?_
            refine q_callVi (As := [.int (nI o)]) (rest := []) (wsC := [(mo, .inr (5, [.ref r1, .ref r2, .ref r3, .ref r4, .ref r5, .ref r6, .int (md), .int (ck), .int (nI 0)])), (r1, .inl (cZ, 32, .inl (qm_T th))), (r2, .inl (cI, 4096, .inl (qm_P pl))), (r3, .inl (cI, 4096, .inl (mk))), (r4, .inl (cI, 64, .inl (nt))), (r5, .inl (cB, 76800, .inl (bt))), (r6, .inl (cZ, 600, .inl (qm_T us)))]) (wsR := []) (wsC' := [(mo, .inr (5, [.ref r1, .ref r2, .ref r3, .ref r4, .ref r5, .ref r6, .int (md), .int (ck), .int (nI 0)])), (r1, .inl (cZ, 32, .inl (qm_T th))), (r2, .inl (cI, 4096, .inl (qm_P pl))), (r3, .inl (cI, 4096, .inl (mk))), (r4, .inl (cI, 64, .inl (nt))), (r5, .inl (cB, 76800, .inl (bt))), (r6, .inl (cZ, 600, .inl (qm_T us)))]) (wsN := [(mo, .inr (5, [.ref r1, .ref r2, .ref r3, .ref r4, .ref r5, .ref r6, .int (md), .int (ck), .int (nI 0)])), (r1, .inl (cZ, 32, .inl (qm_T th))), (r2, .inl (cI, 4096, .inl (qm_P pl))), (r3, .inl (cI, 4096, .inl (mk))), (r4, .inl (cI, 64, .inl (nt))), (r5, .inl (cB, 76800, .inl (bt))), (r6, .inl (cZ, 600, .inl (qm_T us)))]) (isT := [0, 1, 2]) (isC := [0, 1, 2, 3, 4, 5, 6]) (isR := []) (isN := [0, 1, 2, 3, 4, 5, 6]) (k := 1) (ci := 5) (C := R_Mo) ⟨hx, hb, hml, hown, hts⟩ (c_Mo_many l D cZ cI cB mo r1 r2 r3 r4 r5 r6 th pl mk nt bt us md ck o (by omega) kpl) (tw_V ml_Mo_42 im_Mo_many se_Mo_many in_Mo cd_Mo_many) rfl ⟨by decide +kernel, Nat.le_of_ble_eq_true rfl, Nat.le_of_ble_eq_true rfl⟩ ⟨Nat.le_of_ble_eq_true rfl, Nat.le_of_ble_eq_true rfl⟩ hK hP hD hS hA hN rfl ⟨rfl, rfl, rfl, by decide, by decide, by decide, by decide⟩ rfl rfl rfl hl.1 rfl rfl (Nat.le_of_ble_eq_true rfl) d_Mo_snap_41 (fun H locs hP hD hS => ?_)
            have hq1 := qm_ct_le pl (128 * o) 128
            refine lv_istore_n (lv' := [(3, .int (nI (qm_ct pl (128 * o) (128)))), (0, .ref mo), (1, .int (nI v)), (2, .int (nI o))]) hx hb d_Mo_snap_44 rfl hl (by decide) rfl (fun ls hl => ?_)
            refine lv_aload_n hx hb d_Mo_snap_45 rfl (lv_at hl 1 rfl) ?_
            refine q_callVi (As := []) (rest := []) (wsC := [(mo, .inr (5, [.ref r1, .ref r2, .ref r3, .ref r4, .ref r5, .ref r6, .int (md), .int (ck), .int (nI 0)])), (r1, .inl (cZ, 32, .inl (qm_T th))), (r2, .inl (cI, 4096, .inl (qm_P pl))), (r3, .inl (cI, 4096, .inl (mk))), (r4, .inl (cI, 64, .inl (nt))), (r5, .inl (cB, 76800, .inl (bt))), (r6, .inl (cZ, 600, .inl (qm_T us)))]) (wsR := []) (wsC' := [(mo, .inr (5, [.ref r1, .ref r2, .ref r3, .ref r4, .ref r5, .ref r6, .int (md), .int (ck), .int (nI 0)])), (r1, .inl (cZ, 32, .inl (qm_T th))), (r2, .inl (cI, 4096, .inl (qm_P pl))), (r3, .inl (cI, 4096, .inl (mk))), (r4, .inl (cI, 64, .inl (nt))), (r5, .inl (cB, 76800, .inl (bt))), (r6, .inl (cZ, 600, .inl (qm_T us)))]) (wsN := [(mo, .inr (5, [.ref r1, .ref r2, .ref r3, .ref r4, .ref r5, .ref r6, .int (md), .int (ck), .int (nI 0)])), (r1, .inl (cZ, 32, .inl (qm_T th))), (r2, .inl (cI, 4096, .inl (qm_P pl))), (r3, .inl (cI, 4096, .inl (mk))), (r4, .inl (cI, 64, .inl (nt))), (r5, .inl (cB, 76800, .inl (bt))), (r6, .inl (cZ, 600, .inl (qm_T us)))]) (isT := [0, 1, 2]) (isC := [0, 1, 2, 3, 4, 5, 6]) (isR := []) (isN := [0, 1, 2, 3, 4, 5, 6]) (k := 0) (ci := 5) (C := R_Mo) ⟨hx, hb, hml, hown, hts⟩ (c_Mo_all l D cZ cI cB mo r1 r2 r3 r4 r5 r6 th pl mk nt bt us md ck kpl) (tw_V ml_Mo_50 im_Mo_all se_Mo_all in_Mo cd_Mo_all) rfl ⟨by decide +kernel, Nat.le_of_ble_eq_true rfl, Nat.le_of_ble_eq_true rfl⟩ ⟨Nat.le_of_ble_eq_true rfl, Nat.le_of_ble_eq_true rfl⟩ hK hP hD hS hA hN rfl ⟨rfl, rfl, rfl, by decide, by decide, by decide, by decide⟩ rfl rfl rfl hl.1 rfl rfl (Nat.le_of_ble_eq_true rfl) d_Mo_snap_46 (fun H locs hP hD hS => ?_)
            have hq2 := qm_all_le pl 16
            refine lv_iload_n hx hb d_Mo_snap_49 rfl (lv_at hl 0 rfl) ?_
            refine lv_iadd hx hb d_Mo_snap_50 ?_
            refine q_ti (y := nI (qs_ (16) (fun v => qm_ct pl (128 * v) 128) + (qm_ct pl (128 * o) (128)))) (nI_add _ _) ?_
            refine lv_sipush (v := nI 300) hx hb d_Mo_snap_51 (by decide) ?_
            refine lv_icmp_le (tgt := 60) hx hb d_Mo_snap_54 (by decide) (fun c54 => ?_) (fun c54 => ?_)
            · have c54 : (qs_ (16) (fun v => qm_ct pl (128 * v) 128) + (qm_ct pl (128 * o) (128))) ≤ 300 := (nI_leI (by omega) (by omega)).mp c54
              exact absurd c54 kf
            · have c54 : ¬ (qs_ (16) (fun v => qm_ct pl (128 * v) 128) + (qm_ct pl (128 * o) (128))) ≤ 300 := fun h9 => c54 ((nI_leI (by omega) (by omega)).mpr h9)
              refine lv_bipush (v := (-3 : Int32)) hx hb d_Mo_snap_57 (by decide) ?_
              exact q_iret hx hb hr hlk hK hP hD hS d_Mo_snap_59 (rfl) (rfl)
          · have c34 : 1 = 0 := (q_z_eq (by omega)).mp c34
            exfalso; omega
  · have c4 : ¬ 0 = 0 := fun h9 => c4 ((q_z_eq (by omega)).mpr h9)
    exfalso; omega
set_option maxHeartbeats 4000000 in
set_option maxRecDepth 100000 in
theorem c_Mo_snap_bad (l : Launch) (D : va_G) (cZ : ClassId) (cI : ClassId) (cB : ClassId) (mo : Nat) (r1 : Nat) (r2 : Nat) (r3 : Nat) (r4 : Nat) (r5 : Nat) (r6 : Nat) (th : Nat → Bool) (pl : Nat → Nat) (mk : Nat → Int32) (nt : Nat → Int32) (bt : Nat → Int32) (us : Nat → Bool) (md : Int32) (ck : Int32) (v : Int32) (o : Int32) (kb : ¬ (qp_in v 16 ∧ ¬ qm_th th v ∧ qm_th th o)) : qMi l y_Mo_snap b_Mo_snap 8 (some .int) (rmL 3) D [(cZ, .boolean), (cI, .int), (cB, .byte)] [.ref mo, .int (v), .int (o)] [(mo, .inr (5, [.ref r1, .ref r2, .ref r3, .ref r4, .ref r5, .ref r6, .int (md), .int (ck), .int (nI 0)])), (r1, .inl (cZ, 32, .inl (qm_T th))), (r2, .inl (cI, 4096, .inl (qm_P pl))), (r3, .inl (cI, 4096, .inl (mk))), (r4, .inl (cI, 64, .inl (nt))), (r5, .inl (cB, 76800, .inl (bt))), (r6, .inl (cZ, 600, .inl (qm_T us)))] [(mo, .inr (5, [.ref r1, .ref r2, .ref r3, .ref r4, .ref r5, .ref r6, .int (md), .int (ck), .int (nI 0)])), (r1, .inl (cZ, 32, .inl (qm_T th))), (r2, .inl (cI, 4096, .inl (qm_P pl))), (r3, .inl (cI, 4096, .inl (mk))), (r4, .inl (cI, 64, .inl (nt))), (r5, .inl (cB, 76800, .inl (bt))), (r6, .inl (cZ, 600, .inl (qm_T us)))] ((-1 : Int32)) := by
  refine q_start (Qc := qZi D _ _ _) (by decide +kernel) (Nat.le_of_ble_eq_true rfl) ?_
  intro p e s m below meth c A hx hb hr hlk hml hown hts hK hP hD hS hA hN ls hl
  have hl : lv_has ls 8 [(0, .ref mo), (1, .int (v)), (2, .int (o))] := hl
  have hP : va_P D cls [(mo, .inr (5, [.ref r1, .ref r2, .ref r3, .ref r4, .ref r5, .ref r6, .int (md), .int (ck), .int (nI 0)])), (r1, .inl (cZ, 32, .inl (qm_T th))), (r2, .inl (cI, 4096, .inl (qm_P pl))), (r3, .inl (cI, 4096, .inl (mk))), (r4, .inl (cI, 64, .inl (nt))), (r5, .inl (cB, 76800, .inl (bt))), (r6, .inl (cZ, 600, .inl (qm_T us)))] s.heap := hP
  have hD : va_D A [(mo, .inr (5, [.ref r1, .ref r2, .ref r3, .ref r4, .ref r5, .ref r6, .int (md), .int (ck), .int (nI 0)])), (r1, .inl (cZ, 32, .inl (qm_T th))), (r2, .inl (cI, 4096, .inl (qm_P pl))), (r3, .inl (cI, 4096, .inl (mk))), (r4, .inl (cI, 64, .inl (nt))), (r5, .inl (cB, 76800, .inl (bt))), (r6, .inl (cZ, 600, .inl (qm_T us)))] := hD
  refine lv_aload_n hx hb d_Mo_snap_0 rfl (lv_at hl 0 rfl) ?_
  refine va_get (D := D) (ci := 5) (v := .int (nI 0)) (C := R_Mo) (T := F_Mo) (N := 9) hx hb hts i_Mo hown hK hP 0 rfl rfl 8 (by decide) (hts _ fl_Mo_38) (fun _ h9 => h9) rfl d_Mo_snap_1 ?_
  refine lv_if_eq (tgt := 10) hx hb d_Mo_snap_4 (by decide) (fun c4 => ?_) (fun c4 => ?_)
  · have c4 : 0 = 0 := (q_z_eq (by omega)).mp c4
    refine lv_iload_n hx hb d_Mo_snap_10 rfl (lv_at hl 1 rfl) ?_
    refine lv_if_lt (tgt := 37) hx hb d_Mo_snap_11 (by decide) (fun c11 => ?_) (fun c11 => ?_)
    · refine lv_iconst (v := (-1 : Int32)) hx hb d_Mo_snap_37 (by decide) ?_
      exact q_iret hx hb hr hlk hK hP hD hS d_Mo_snap_38 (rfl) (rfl)
    · refine lv_iload_n hx hb d_Mo_snap_14 rfl (lv_at hl 1 rfl) ?_
      refine lv_bipush (v := nI 16) hx hb d_Mo_snap_15 (by decide) ?_
      refine lv_icmp_ge (tgt := 37) hx hb d_Mo_snap_17 (by decide) (fun c17 => ?_) (fun c17 => ?_)
      · refine lv_iconst (v := (-1 : Int32)) hx hb d_Mo_snap_37 (by decide) ?_
        exact q_iret hx hb hr hlk hK hP hD hS d_Mo_snap_38 (rfl) (rfl)
      · have hin : qp_in v 16 := ⟨c11, c17⟩
        obtain ⟨vn, hvn, rfl⟩ := qp_of (by decide) hin
        refine lv_aload_n hx hb d_Mo_snap_20 rfl (lv_at hl 0 rfl) ?_
        refine va_get (D := D) (ci := 5) (v := .ref r1) (C := R_Mo) (T := F_Mo) (N := 9) hx hb hts i_Mo hown hK hP 0 rfl rfl 0 (by decide) (hts _ fl_Mo_7) (fun _ h9 => h9) rfl d_Mo_snap_21 ?_
        refine lv_iload_n hx hb d_Mo_snap_24 rfl (lv_at hl 1 rfl) ?_
        refine va_zald hx hb hK hP 1 0 rfl rfl (vp_in_nI (by omega) (by decide)) d_Mo_snap_25 ?_
        refine q_ti (y := (qm_T th) (vn)) (by rw [nI_clamp (by omega)]) ?_
        refine lv_if_ne (tgt := 37) hx hb d_Mo_snap_26 (by decide) (fun c26 => ?_) (fun c26 => ?_)
        · have c26 := qm_T1 c26
          refine lv_iconst (v := (-1 : Int32)) hx hb d_Mo_snap_37 (by decide) ?_
          exact q_iret hx hb hr hlk hK hP hD hS d_Mo_snap_38 (rfl) (rfl)
        · have c26 := qm_T0 c26
          refine lv_aload_n hx hb d_Mo_snap_29 rfl (lv_at hl 0 rfl) ?_
          refine lv_iload_n hx hb d_Mo_snap_30 rfl (lv_at hl 2 rfl) ?_
          refine q_callVi (As := [.int (o)]) (rest := []) (wsC := [(mo, .inr (5, [.ref r1, .ref r2, .ref r3, .ref r4, .ref r5, .ref r6, .int (md), .int (ck), .int (nI 0)])), (r1, .inl (cZ, 32, .inl (qm_T th))), (r2, .inl (cI, 4096, .inl (qm_P pl))), (r3, .inl (cI, 4096, .inl (mk))), (r4, .inl (cI, 64, .inl (nt))), (r5, .inl (cB, 76800, .inl (bt))), (r6, .inl (cZ, 600, .inl (qm_T us)))]) (wsR := []) (wsC' := [(mo, .inr (5, [.ref r1, .ref r2, .ref r3, .ref r4, .ref r5, .ref r6, .int (md), .int (ck), .int (nI 0)])), (r1, .inl (cZ, 32, .inl (qm_T th))), (r2, .inl (cI, 4096, .inl (qm_P pl))), (r3, .inl (cI, 4096, .inl (mk))), (r4, .inl (cI, 64, .inl (nt))), (r5, .inl (cB, 76800, .inl (bt))), (r6, .inl (cZ, 600, .inl (qm_T us)))]) (wsN := [(mo, .inr (5, [.ref r1, .ref r2, .ref r3, .ref r4, .ref r5, .ref r6, .int (md), .int (ck), .int (nI 0)])), (r1, .inl (cZ, 32, .inl (qm_T th))), (r2, .inl (cI, 4096, .inl (qm_P pl))), (r3, .inl (cI, 4096, .inl (mk))), (r4, .inl (cI, 64, .inl (nt))), (r5, .inl (cB, 76800, .inl (bt))), (r6, .inl (cZ, 600, .inl (qm_T us)))]) (isT := [0, 1, 2]) (isC := [0, 1, 2, 3, 4, 5, 6]) (isR := []) (isN := [0, 1, 2, 3, 4, 5, 6]) (k := 1) (ci := 5) (C := R_Mo) ⟨hx, hb, hml, hown, hts⟩ (c_Mo_isThere l D cZ cI cB mo r1 r2 r3 r4 r5 r6 th pl mk nt bt us md ck o) (tw_V ml_Mo_46 im_Mo_isThere se_Mo_isThere in_Mo cd_Mo_isThere) rfl ⟨by decide +kernel, Nat.le_of_ble_eq_true rfl, Nat.le_of_ble_eq_true rfl⟩ ⟨Nat.le_of_ble_eq_true rfl, Nat.le_of_ble_eq_true rfl⟩ hK hP hD hS hA hN rfl ⟨rfl, rfl, rfl, by decide, by decide, by decide, by decide⟩ rfl rfl rfl hl.1 rfl rfl (Nat.le_of_ble_eq_true rfl) d_Mo_snap_31 (fun H locs hP hD hS => ?_)
          refine lv_if_ne (tgt := 39) hx hb d_Mo_snap_34 (by decide) (fun c34 => ?_) (fun c34 => ?_)
          · exact absurd ⟨hin, (fun z => by rw [(qm_thN hvn).mp z] at c26; cases c26), qp_b_ne c34⟩ kb
          · refine lv_iconst (v := (-1 : Int32)) hx hb d_Mo_snap_37 (by decide) ?_
            exact q_iret hx hb hr hlk hK hP hD hS d_Mo_snap_38 (rfl) (rfl)
  · have c4 : ¬ 0 = 0 := fun h9 => c4 ((q_z_eq (by omega)).mpr h9)
    exfalso; omega
set_option maxHeartbeats 4000000 in
set_option maxRecDepth 100000 in
theorem c_Mo_copyU (l : Launch) (D : va_G) (cZ : ClassId) (cI : ClassId) (cB : ClassId) (mo : Nat) (r1 : Nat) (r2 : Nat) (r3 : Nat) (r4 : Nat) (r5 : Nat) (r6 : Nat) (th : Nat → Bool) (pl : Nat → Nat) (mk : Nat → Int32) (nt : Nat → Int32) (bt : Nat → Int32) (us : Nat → Bool) (md : Int32) (ck : Int32) (ov : Nat) (kpl : ∀ k, k < 2048 → pl k ≤ 300) : qMv l y_Mo_copy b_Mo_copy 5 none (rmL 1) D [(cZ, .boolean), (cI, .int), (cB, .byte)] [.ref mo, .int (nI 0), .int (nI 1)] [(mo, .inr (5, [.ref r1, .ref r2, .ref r3, .ref r4, .ref r5, .ref r6, .int (md), .int (ck), .int (nI ov)])), (r1, .inl (cZ, 32, .inl (qm_T th))), (r2, .inl (cI, 4096, .inl (qm_P pl))), (r3, .inl (cI, 4096, .inl (mk))), (r4, .inl (cI, 64, .inl (nt))), (r5, .inl (cB, 76800, .inl (bt))), (r6, .inl (cZ, 600, .inl (qm_T us)))] [(mo, .inr (5, [.ref r1, .ref r2, .ref r3, .ref r4, .ref r5, .ref r6, .int (md), .int (ck), .int (nI ov)])), (r1, .inl (cZ, 32, .inl (qm_T (qm_cT th 16 0 (16))))), (r2, .inl (cI, 4096, .inl (qm_P (qm_cPU pl (2048))))), (r3, .inl (cI, 4096, .inl (qm_cI mk 2048 0 (2048)))), (r4, .inl (cI, 64, .inl (qm_cI nt 32 0 (32)))), (r5, .inl (cB, 76800, .inl (qm_cB bt 38400 0 (38400)))), (r6, .inl (cZ, 600, .inl (qm_T (qm_cT us 300 0 (300)))))] := by
  refine q_start (Qc := qZv D _ _) (by decide +kernel) (Nat.le_of_ble_eq_true rfl) ?_
  intro p e s m below meth c A hx hb hr hlk hml hown hts hK hP hD hS hA hN ls hl
  have hl : lv_has ls 5 [(0, .ref mo), (1, .int (nI 0)), (2, .int (nI 1))] := hl
  have hP : va_P D cls [(mo, .inr (5, [.ref r1, .ref r2, .ref r3, .ref r4, .ref r5, .ref r6, .int (md), .int (ck), .int (nI ov)])), (r1, .inl (cZ, 32, .inl (qm_T th))), (r2, .inl (cI, 4096, .inl (qm_P pl))), (r3, .inl (cI, 4096, .inl (mk))), (r4, .inl (cI, 64, .inl (nt))), (r5, .inl (cB, 76800, .inl (bt))), (r6, .inl (cZ, 600, .inl (qm_T us)))] s.heap := hP
  have hD : va_D A [(mo, .inr (5, [.ref r1, .ref r2, .ref r3, .ref r4, .ref r5, .ref r6, .int (md), .int (ck), .int (nI ov)])), (r1, .inl (cZ, 32, .inl (qm_T th))), (r2, .inl (cI, 4096, .inl (qm_P pl))), (r3, .inl (cI, 4096, .inl (mk))), (r4, .inl (cI, 64, .inl (nt))), (r5, .inl (cB, 76800, .inl (bt))), (r6, .inl (cZ, 600, .inl (qm_T us)))] := hD
  refine lv_iconst (v := nI 0) hx hb d_Mo_copy_0 (by decide) ?_
  refine lv_istore_n (lv' := [(3, .int (nI 0)), (0, .ref mo), (1, .int (nI 0)), (2, .int (nI 1))]) hx hb d_Mo_copy_1 rfl hl (by decide) rfl (fun ls hl => ?_)
  refine q_loop (pc := 2) (σ := Unit) (I := fun i u9 H locs ls => va_P D cls [(mo, .inr (5, [.ref r1, .ref r2, .ref r3, .ref r4, .ref r5, .ref r6, .int (md), .int (ck), .int (nI ov)])), (r1, .inl (cZ, 32, .inl (qm_T (qm_cT th 16 0 (i))))), (r2, .inl (cI, 4096, .inl (qm_P pl))), (r3, .inl (cI, 4096, .inl (mk))), (r4, .inl (cI, 64, .inl (nt))), (r5, .inl (cB, 76800, .inl (bt))), (r6, .inl (cZ, 600, .inl (qm_T us)))] H ∧ va_D A [(mo, .inr (5, [.ref r1, .ref r2, .ref r3, .ref r4, .ref r5, .ref r6, .int (md), .int (ck), .int (nI ov)])), (r1, .inl (cZ, 32, .inl (qm_T (qm_cT th 16 0 (i))))), (r2, .inl (cI, 4096, .inl (qm_P pl))), (r3, .inl (cI, 4096, .inl (mk))), (r4, .inl (cI, 64, .inl (nt))), (r5, .inl (cB, 76800, .inl (bt))), (r6, .inl (cZ, 600, .inl (qm_T us)))] ∧ va_S A s.heap H locs ∧ lv_has ls 5 [(0, .ref mo), (1, .int (nI 0)), (2, .int (nI 1)), (3, .int (nI i))]) (16) ?_ ?_ (0) (()) _ _ _ (by omega) ⟨hP, hD, hS, lv_sub hl [1, 2, 3, 0] rfl⟩
  · intro u9 H locs ls hI
    obtain ⟨hP, hD, hS, hl⟩ := hI
    refine lv_iload_n hx hb d_Mo_copy_2 rfl (lv_at hl 3 rfl) ?_
    refine lv_bipush (v := nI 16) hx hb d_Mo_copy_3 (by decide) ?_
    refine lv_icmp_ge (tgt := 36) hx hb d_Mo_copy_5 (by decide) (fun c5 => ?_) (fun c5 => ?_)
    · have c5 : 16 ≤ 16 := (nI_leI (by omega) (by omega)).mp c5
      refine lv_iconst (v := nI 0) hx hb d_Mo_copy_36 (by decide) ?_
      refine lv_istore_n (lv' := [(3, .int (nI 0)), (0, .ref mo), (1, .int (nI 0)), (2, .int (nI 1))]) hx hb d_Mo_copy_37 rfl hl (by decide) rfl (fun ls hl => ?_)
      refine q_loop (pc := 38) (σ := Unit) (I := fun i u9 H locs ls => va_P D cls [(mo, .inr (5, [.ref r1, .ref r2, .ref r3, .ref r4, .ref r5, .ref r6, .int (md), .int (ck), .int (nI ov)])), (r1, .inl (cZ, 32, .inl (qm_T (qm_cT th 16 0 (16))))), (r2, .inl (cI, 4096, .inl (qm_P (qm_cPU pl (i))))), (r3, .inl (cI, 4096, .inl (qm_cI mk 2048 0 (i)))), (r4, .inl (cI, 64, .inl (nt))), (r5, .inl (cB, 76800, .inl (bt))), (r6, .inl (cZ, 600, .inl (qm_T us)))] H ∧ va_D A [(mo, .inr (5, [.ref r1, .ref r2, .ref r3, .ref r4, .ref r5, .ref r6, .int (md), .int (ck), .int (nI ov)])), (r1, .inl (cZ, 32, .inl (qm_T (qm_cT th 16 0 (16))))), (r2, .inl (cI, 4096, .inl (qm_P (qm_cPU pl (i))))), (r3, .inl (cI, 4096, .inl (qm_cI mk 2048 0 (i)))), (r4, .inl (cI, 64, .inl (nt))), (r5, .inl (cB, 76800, .inl (bt))), (r6, .inl (cZ, 600, .inl (qm_T us)))] ∧ va_S A s.heap H locs ∧ lv_has ls 5 [(0, .ref mo), (1, .int (nI 0)), (2, .int (nI 1)), (3, .int (nI i))]) (2048) ?_ ?_ (0) (()) _ _ _ (by omega) ⟨hP, hD, hS, lv_sub hl [1, 2, 3, 0] rfl⟩
      · intro u9 H locs ls hI
        obtain ⟨hP, hD, hS, hl⟩ := hI
        refine lv_iload_n hx hb d_Mo_copy_38 rfl (lv_at hl 3 rfl) ?_
        refine lv_sipush (v := nI 2048) hx hb d_Mo_copy_39 (by decide) ?_
        refine lv_icmp_ge (tgt := 120) hx hb d_Mo_copy_42 (by decide) (fun c42 => ?_) (fun c42 => ?_)
        · have c42 : 2048 ≤ 2048 := (nI_leI (by omega) (by omega)).mp c42
          refine lv_iconst (v := nI 0) hx hb d_Mo_copy_120 (by decide) ?_
          refine lv_istore_n (lv' := [(3, .int (nI 0)), (0, .ref mo), (1, .int (nI 0)), (2, .int (nI 1))]) hx hb d_Mo_copy_121 rfl hl (by decide) rfl (fun ls hl => ?_)
          refine q_loop (pc := 122) (σ := Unit) (I := fun i u9 H locs ls => va_P D cls [(mo, .inr (5, [.ref r1, .ref r2, .ref r3, .ref r4, .ref r5, .ref r6, .int (md), .int (ck), .int (nI ov)])), (r1, .inl (cZ, 32, .inl (qm_T (qm_cT th 16 0 (16))))), (r2, .inl (cI, 4096, .inl (qm_P (qm_cPU pl (2048))))), (r3, .inl (cI, 4096, .inl (qm_cI mk 2048 0 (2048)))), (r4, .inl (cI, 64, .inl (qm_cI nt 32 0 (i)))), (r5, .inl (cB, 76800, .inl (bt))), (r6, .inl (cZ, 600, .inl (qm_T us)))] H ∧ va_D A [(mo, .inr (5, [.ref r1, .ref r2, .ref r3, .ref r4, .ref r5, .ref r6, .int (md), .int (ck), .int (nI ov)])), (r1, .inl (cZ, 32, .inl (qm_T (qm_cT th 16 0 (16))))), (r2, .inl (cI, 4096, .inl (qm_P (qm_cPU pl (2048))))), (r3, .inl (cI, 4096, .inl (qm_cI mk 2048 0 (2048)))), (r4, .inl (cI, 64, .inl (qm_cI nt 32 0 (i)))), (r5, .inl (cB, 76800, .inl (bt))), (r6, .inl (cZ, 600, .inl (qm_T us)))] ∧ va_S A s.heap H locs ∧ lv_has ls 5 [(0, .ref mo), (1, .int (nI 0)), (2, .int (nI 1)), (3, .int (nI i))]) (32) ?_ ?_ (0) (()) _ _ _ (by omega) ⟨hP, hD, hS, lv_sub hl [1, 2, 3, 0] rfl⟩
          · intro u9 H locs ls hI
            obtain ⟨hP, hD, hS, hl⟩ := hI
            refine lv_iload_n hx hb d_Mo_copy_122 rfl (lv_at hl 3 rfl) ?_
            refine lv_bipush (v := nI 32) hx hb d_Mo_copy_123 (by decide) ?_
            refine lv_icmp_ge (tgt := 156) hx hb d_Mo_copy_125 (by decide) (fun c125 => ?_) (fun c125 => ?_)
            · have c125 : 32 ≤ 32 := (nI_leI (by omega) (by omega)).mp c125
              refine lv_iconst (v := nI 0) hx hb d_Mo_copy_156 (by decide) ?_
              refine lv_istore_n (lv' := [(3, .int (nI 0)), (0, .ref mo), (1, .int (nI 0)), (2, .int (nI 1))]) hx hb d_Mo_copy_157 rfl hl (by decide) rfl (fun ls hl => ?_)
              refine q_loop (pc := 158) (σ := Unit) (I := fun i u9 H locs ls => va_P D cls [(mo, .inr (5, [.ref r1, .ref r2, .ref r3, .ref r4, .ref r5, .ref r6, .int (md), .int (ck), .int (nI ov)])), (r1, .inl (cZ, 32, .inl (qm_T (qm_cT th 16 0 (16))))), (r2, .inl (cI, 4096, .inl (qm_P (qm_cPU pl (2048))))), (r3, .inl (cI, 4096, .inl (qm_cI mk 2048 0 (2048)))), (r4, .inl (cI, 64, .inl (qm_cI nt 32 0 (32)))), (r5, .inl (cB, 76800, .inl (bt))), (r6, .inl (cZ, 600, .inl (qm_T (qm_cT us 300 0 (i)))))] H ∧ va_D A [(mo, .inr (5, [.ref r1, .ref r2, .ref r3, .ref r4, .ref r5, .ref r6, .int (md), .int (ck), .int (nI ov)])), (r1, .inl (cZ, 32, .inl (qm_T (qm_cT th 16 0 (16))))), (r2, .inl (cI, 4096, .inl (qm_P (qm_cPU pl (2048))))), (r3, .inl (cI, 4096, .inl (qm_cI mk 2048 0 (2048)))), (r4, .inl (cI, 64, .inl (qm_cI nt 32 0 (32)))), (r5, .inl (cB, 76800, .inl (bt))), (r6, .inl (cZ, 600, .inl (qm_T (qm_cT us 300 0 (i)))))] ∧ va_S A s.heap H locs ∧ lv_has ls 5 [(0, .ref mo), (1, .int (nI 0)), (2, .int (nI 1)), (3, .int (nI i))]) (300) ?_ ?_ (0) (()) _ _ _ (by omega) ⟨hP, hD, hS, lv_sub hl [1, 2, 3, 0] rfl⟩
              · intro u9 H locs ls hI
                obtain ⟨hP, hD, hS, hl⟩ := hI
                refine lv_iload_n hx hb d_Mo_copy_158 rfl (lv_at hl 3 rfl) ?_
                refine lv_sipush (v := nI 300) hx hb d_Mo_copy_159 (by decide) ?_
                refine lv_icmp_ge (tgt := 195) hx hb d_Mo_copy_162 (by decide) (fun c162 => ?_) (fun c162 => ?_)
                · have c162 : 300 ≤ 300 := (nI_leI (by omega) (by omega)).mp c162
                  refine lv_iconst (v := nI 0) hx hb d_Mo_copy_195 (by decide) ?_
                  refine lv_istore_n (lv' := [(3, .int (nI 0)), (0, .ref mo), (1, .int (nI 0)), (2, .int (nI 1))]) hx hb d_Mo_copy_196 rfl hl (by decide) rfl (fun ls hl => ?_)
                  refine q_loop (pc := 197) (σ := Unit) (I := fun i u9 H locs ls => va_P D cls [(mo, .inr (5, [.ref r1, .ref r2, .ref r3, .ref r4, .ref r5, .ref r6, .int (md), .int (ck), .int (nI ov)])), (r1, .inl (cZ, 32, .inl (qm_T (qm_cT th 16 0 (16))))), (r2, .inl (cI, 4096, .inl (qm_P (qm_cPU pl (2048))))), (r3, .inl (cI, 4096, .inl (qm_cI mk 2048 0 (2048)))), (r4, .inl (cI, 64, .inl (qm_cI nt 32 0 (32)))), (r5, .inl (cB, 76800, .inl (qm_cB bt 38400 0 (i)))), (r6, .inl (cZ, 600, .inl (qm_T (qm_cT us 300 0 (300)))))] H ∧ va_D A [(mo, .inr (5, [.ref r1, .ref r2, .ref r3, .ref r4, .ref r5, .ref r6, .int (md), .int (ck), .int (nI ov)])), (r1, .inl (cZ, 32, .inl (qm_T (qm_cT th 16 0 (16))))), (r2, .inl (cI, 4096, .inl (qm_P (qm_cPU pl (2048))))), (r3, .inl (cI, 4096, .inl (qm_cI mk 2048 0 (2048)))), (r4, .inl (cI, 64, .inl (qm_cI nt 32 0 (32)))), (r5, .inl (cB, 76800, .inl (qm_cB bt 38400 0 (i)))), (r6, .inl (cZ, 600, .inl (qm_T (qm_cT us 300 0 (300)))))] ∧ va_S A s.heap H locs ∧ lv_has ls 5 [(0, .ref mo), (1, .int (nI 0)), (2, .int (nI 1)), (3, .int (nI i))]) (38400) ?_ ?_ (0) (()) _ _ _ (by omega) ⟨hP, hD, hS, lv_sub hl [1, 2, 3, 0] rfl⟩
                  · intro u9 H locs ls hI
                    obtain ⟨hP, hD, hS, hl⟩ := hI
                    refine lv_iload_n hx hb d_Mo_copy_197 rfl (lv_at hl 3 rfl) ?_
                    refine lv_ldc hx hb hown (hts _ kc_Mo_67) d_Mo_copy_198 ?_
                    refine q_ti (y := nI 38400) (by decide) ?_
                    refine lv_icmp_ge (tgt := 231) hx hb d_Mo_copy_200 (by decide) (fun c200 => ?_) (fun c200 => ?_)
                    · have c200 : 38400 ≤ 38400 := (nI_leI (by omega) (by omega)).mp c200
                      exact q_vret hx hb hr hlk hK hP hD hS d_Mo_copy_231 (rfl)
                    · have c200 : ¬ 38400 ≤ 38400 := fun h9 => c200 ((nI_leI (by omega) (by omega)).mpr h9)
                      exfalso; omega
                  · intro i u9 H locs ls hi hI ih
                    obtain ⟨hP, hD, hS, hl⟩ := hI
                    refine lv_iload_n hx hb d_Mo_copy_197 rfl (lv_at hl 3 rfl) ?_
                    refine lv_ldc hx hb hown (hts _ kc_Mo_67) d_Mo_copy_198 ?_
                    refine q_ti (y := nI 38400) (by decide) ?_
                    refine lv_icmp_ge (tgt := 231) hx hb d_Mo_copy_200 (by decide) (fun c200 => ?_) (fun c200 => ?_)
                    · have c200 : 38400 ≤ i := (nI_leI (by omega) (by omega)).mp c200
                      exfalso; omega
                    · have c200 : ¬ 38400 ≤ i := fun h9 => c200 ((nI_leI (by omega) (by omega)).mpr h9)
                      refine lv_aload_n hx hb d_Mo_copy_203 rfl (lv_at hl 0 rfl) ?_
                      refine va_get (D := D) (ci := 5) (v := .ref r5) (C := R_Mo) (T := F_Mo) (N := 9) hx hb hts i_Mo hown hK hP 0 rfl rfl 4 (by decide) (hts _ fl_Mo_24) (fun _ h9 => h9) rfl d_Mo_copy_204 ?_
                      refine lv_ldc hx hb hown (hts _ kc_Mo_67) d_Mo_copy_207 ?_
                      refine q_ti (y := nI 38400) (by decide) ?_
                      refine lv_iload_n hx hb d_Mo_copy_209 rfl (lv_at hl 2 rfl) ?_
                      refine lv_imul hx hb d_Mo_copy_210 ?_
                      refine q_ti (y := nI 38400) (by decide) ?_
                      refine lv_iload_n hx hb d_Mo_copy_211 rfl (lv_at hl 3 rfl) ?_
                      refine lv_iadd hx hb d_Mo_copy_212 ?_
                      refine q_ti (y := nI (38400 + i)) (nI_add _ _) ?_
                      refine lv_aload_n hx hb d_Mo_copy_213 rfl (lv_at hl 0 rfl) ?_
                      refine va_get (D := D) (ci := 5) (v := .ref r5) (C := R_Mo) (T := F_Mo) (N := 9) hx hb hts i_Mo hown hK hP 0 rfl rfl 4 (by decide) (hts _ fl_Mo_24) (fun _ h9 => h9) rfl d_Mo_copy_214 ?_
                      refine lv_ldc hx hb hown (hts _ kc_Mo_67) d_Mo_copy_217 ?_
                      refine q_ti (y := nI 38400) (by decide) ?_
                      refine lv_iload_n hx hb d_Mo_copy_219 rfl (lv_at hl 1 rfl) ?_
                      refine lv_imul hx hb d_Mo_copy_220 ?_
                      refine q_ti (y := nI 0) (by decide) ?_
                      refine lv_iload_n hx hb d_Mo_copy_221 rfl (lv_at hl 3 rfl) ?_
                      refine lv_iadd hx hb d_Mo_copy_222 ?_
                      refine q_ti (y := nI (0 + i)) (nI_add _ _) ?_
                      refine va_bald hx hb hK hP 5 2 rfl rfl (vp_in_nI (by omega) (by decide)) d_Mo_copy_223 ?_
                      refine q_ti (y := (qm_cB bt 38400 0 (i)) (0 + i)) (by rw [nI_clamp (by omega)]) ?_
                      refine va_bast hx hb hK hP hD hS 5 2 rfl rfl (vp_in_nI (by omega) (by decide)) d_Mo_copy_224 (fun H locs hP hD hS => ?_)
                      rw [nI_clamp (by omega)] at hP hD
                      have hP : va_P D cls [(mo, .inr (5, [.ref r1, .ref r2, .ref r3, .ref r4, .ref r5, .ref r6, .int (md), .int (ck), .int (nI ov)])), (r1, .inl (cZ, 32, .inl (qm_T (qm_cT th 16 0 (16))))), (r2, .inl (cI, 4096, .inl (qm_P (qm_cPU pl (2048))))), (r3, .inl (cI, 4096, .inl (qm_cI mk 2048 0 (2048)))), (r4, .inl (cI, 64, .inl (qm_cI nt 32 0 (32)))), (r5, .inl (cB, 76800, .inl (upd (qm_cB bt 38400 0 (i)) (38400 + i) (vp_nar .byte ((qm_cB bt 38400 0 (i)) (0 + i)))))), (r6, .inl (cZ, 600, .inl (qm_T (qm_cT us 300 0 (300)))))] H := hP
                      have hD : va_D A [(mo, .inr (5, [.ref r1, .ref r2, .ref r3, .ref r4, .ref r5, .ref r6, .int (md), .int (ck), .int (nI ov)])), (r1, .inl (cZ, 32, .inl (qm_T (qm_cT th 16 0 (16))))), (r2, .inl (cI, 4096, .inl (qm_P (qm_cPU pl (2048))))), (r3, .inl (cI, 4096, .inl (qm_cI mk 2048 0 (2048)))), (r4, .inl (cI, 64, .inl (qm_cI nt 32 0 (32)))), (r5, .inl (cB, 76800, .inl (upd (qm_cB bt 38400 0 (i)) (38400 + i) (vp_nar .byte ((qm_cB bt 38400 0 (i)) (0 + i)))))), (r6, .inl (cZ, 600, .inl (qm_T (qm_cT us 300 0 (300)))))] := hD
                      refine lv_iinc (v := nI (i + 1)) (lv' := [(3, .int (nI (i + 1))), (0, .ref mo), (1, .int (nI 0)), (2, .int (nI 1))]) hx hb d_Mo_copy_225 hl (k := 3) rfl (nI_1 _) (by decide) rfl (fun ls hl => ?_)
                      refine lv_goto (tgt := 197) hx hb d_Mo_copy_228 (by decide) ?_
                      exact ih (()) _ _ _ ⟨hP, hD, hS, lv_sub hl [1, 2, 3, 0] rfl⟩
                · have c162 : ¬ 300 ≤ 300 := fun h9 => c162 ((nI_leI (by omega) (by omega)).mpr h9)
                  exfalso; omega
              · intro i u9 H locs ls hi hI ih
                obtain ⟨hP, hD, hS, hl⟩ := hI
                refine lv_iload_n hx hb d_Mo_copy_158 rfl (lv_at hl 3 rfl) ?_
                refine lv_sipush (v := nI 300) hx hb d_Mo_copy_159 (by decide) ?_
                refine lv_icmp_ge (tgt := 195) hx hb d_Mo_copy_162 (by decide) (fun c162 => ?_) (fun c162 => ?_)
                · have c162 : 300 ≤ i := (nI_leI (by omega) (by omega)).mp c162
                  exfalso; omega
                · have c162 : ¬ 300 ≤ i := fun h9 => c162 ((nI_leI (by omega) (by omega)).mpr h9)
                  refine lv_aload_n hx hb d_Mo_copy_165 rfl (lv_at hl 0 rfl) ?_
                  refine va_get (D := D) (ci := 5) (v := .ref r6) (C := R_Mo) (T := F_Mo) (N := 9) hx hb hts i_Mo hown hK hP 0 rfl rfl 5 (by decide) (hts _ fl_Mo_28) (fun _ h9 => h9) rfl d_Mo_copy_166 ?_
                  refine lv_sipush (v := nI 300) hx hb d_Mo_copy_169 (by decide) ?_
                  refine lv_iload_n hx hb d_Mo_copy_172 rfl (lv_at hl 2 rfl) ?_
                  refine lv_imul hx hb d_Mo_copy_173 ?_
                  refine q_ti (y := nI 300) (by decide) ?_
                  refine lv_iload_n hx hb d_Mo_copy_174 rfl (lv_at hl 3 rfl) ?_
                  refine lv_iadd hx hb d_Mo_copy_175 ?_
                  refine q_ti (y := nI (300 + i)) (nI_add _ _) ?_
                  refine lv_aload_n hx hb d_Mo_copy_176 rfl (lv_at hl 0 rfl) ?_
                  refine va_get (D := D) (ci := 5) (v := .ref r6) (C := R_Mo) (T := F_Mo) (N := 9) hx hb hts i_Mo hown hK hP 0 rfl rfl 5 (by decide) (hts _ fl_Mo_28) (fun _ h9 => h9) rfl d_Mo_copy_177 ?_
                  refine lv_sipush (v := nI 300) hx hb d_Mo_copy_180 (by decide) ?_
                  refine lv_iload_n hx hb d_Mo_copy_183 rfl (lv_at hl 1 rfl) ?_
                  refine lv_imul hx hb d_Mo_copy_184 ?_
                  refine q_ti (y := nI 0) (by decide) ?_
                  refine lv_iload_n hx hb d_Mo_copy_185 rfl (lv_at hl 3 rfl) ?_
                  refine lv_iadd hx hb d_Mo_copy_186 ?_
                  refine q_ti (y := nI (0 + i)) (nI_add _ _) ?_
                  refine va_zald hx hb hK hP 6 0 rfl rfl (vp_in_nI (by omega) (by decide)) d_Mo_copy_187 ?_
                  refine q_ti (y := (qm_T (qm_cT us 300 0 (i))) (0 + i)) (by rw [nI_clamp (by omega)]) ?_
                  refine va_zast hx hb hK hP hD hS 6 0 rfl rfl (vp_in_nI (by omega) (by decide)) d_Mo_copy_188 (fun H locs hP hD hS => ?_)
                  rw [nI_clamp (by omega)] at hP hD
                  have hP : va_P D cls [(mo, .inr (5, [.ref r1, .ref r2, .ref r3, .ref r4, .ref r5, .ref r6, .int (md), .int (ck), .int (nI ov)])), (r1, .inl (cZ, 32, .inl (qm_T (qm_cT th 16 0 (16))))), (r2, .inl (cI, 4096, .inl (qm_P (qm_cPU pl (2048))))), (r3, .inl (cI, 4096, .inl (qm_cI mk 2048 0 (2048)))), (r4, .inl (cI, 64, .inl (qm_cI nt 32 0 (32)))), (r5, .inl (cB, 76800, .inl (bt))), (r6, .inl (cZ, 600, .inl (upd (qm_T (qm_cT us 300 0 (i))) (300 + i) (vp_nar .boolean ((qm_T (qm_cT us 300 0 (i))) (0 + i))))))] H := hP
                  have hD : va_D A [(mo, .inr (5, [.ref r1, .ref r2, .ref r3, .ref r4, .ref r5, .ref r6, .int (md), .int (ck), .int (nI ov)])), (r1, .inl (cZ, 32, .inl (qm_T (qm_cT th 16 0 (16))))), (r2, .inl (cI, 4096, .inl (qm_P (qm_cPU pl (2048))))), (r3, .inl (cI, 4096, .inl (qm_cI mk 2048 0 (2048)))), (r4, .inl (cI, 64, .inl (qm_cI nt 32 0 (32)))), (r5, .inl (cB, 76800, .inl (bt))), (r6, .inl (cZ, 600, .inl (upd (qm_T (qm_cT us 300 0 (i))) (300 + i) (vp_nar .boolean ((qm_T (qm_cT us 300 0 (i))) (0 + i))))))] := hD
                  rw [qm_Tc] at hP hD
                  have hP : va_P D cls [(mo, .inr (5, [.ref r1, .ref r2, .ref r3, .ref r4, .ref r5, .ref r6, .int (md), .int (ck), .int (nI ov)])), (r1, .inl (cZ, 32, .inl (qm_T (qm_cT th 16 0 (16))))), (r2, .inl (cI, 4096, .inl (qm_P (qm_cPU pl (2048))))), (r3, .inl (cI, 4096, .inl (qm_cI mk 2048 0 (2048)))), (r4, .inl (cI, 64, .inl (qm_cI nt 32 0 (32)))), (r5, .inl (cB, 76800, .inl (bt))), (r6, .inl (cZ, 600, .inl (qm_T (qm_cT us 300 0 (i + 1)))))] H := hP
                  have hD : va_D A [(mo, .inr (5, [.ref r1, .ref r2, .ref r3, .ref r4, .ref r5, .ref r6, .int (md), .int (ck), .int (nI ov)])), (r1, .inl (cZ, 32, .inl (qm_T (qm_cT th 16 0 (16))))), (r2, .inl (cI, 4096, .inl (qm_P (qm_cPU pl (2048))))), (r3, .inl (cI, 4096, .inl (qm_cI mk 2048 0 (2048)))), (r4, .inl (cI, 64, .inl (qm_cI nt 32 0 (32)))), (r5, .inl (cB, 76800, .inl (bt))), (r6, .inl (cZ, 600, .inl (qm_T (qm_cT us 300 0 (i + 1)))))] := hD
                  refine lv_iinc (v := nI (i + 1)) (lv' := [(3, .int (nI (i + 1))), (0, .ref mo), (1, .int (nI 0)), (2, .int (nI 1))]) hx hb d_Mo_copy_189 hl (k := 3) rfl (nI_1 _) (by decide) rfl (fun ls hl => ?_)
                  refine lv_goto (tgt := 158) hx hb d_Mo_copy_192 (by decide) ?_
                  exact ih (()) _ _ _ ⟨hP, hD, hS, lv_sub hl [1, 2, 3, 0] rfl⟩
            · have c125 : ¬ 32 ≤ 32 := fun h9 => c125 ((nI_leI (by omega) (by omega)).mpr h9)
              exfalso; omega
          · intro i u9 H locs ls hi hI ih
            obtain ⟨hP, hD, hS, hl⟩ := hI
            refine lv_iload_n hx hb d_Mo_copy_122 rfl (lv_at hl 3 rfl) ?_
            refine lv_bipush (v := nI 32) hx hb d_Mo_copy_123 (by decide) ?_
            refine lv_icmp_ge (tgt := 156) hx hb d_Mo_copy_125 (by decide) (fun c125 => ?_) (fun c125 => ?_)
            · have c125 : 32 ≤ i := (nI_leI (by omega) (by omega)).mp c125
              exfalso; omega
            · have c125 : ¬ 32 ≤ i := fun h9 => c125 ((nI_leI (by omega) (by omega)).mpr h9)
              refine lv_aload_n hx hb d_Mo_copy_128 rfl (lv_at hl 0 rfl) ?_
              refine va_get (D := D) (ci := 5) (v := .ref r4) (C := R_Mo) (T := F_Mo) (N := 9) hx hb hts i_Mo hown hK hP 0 rfl rfl 3 (by decide) (hts _ fl_Mo_20) (fun _ h9 => h9) rfl d_Mo_copy_129 ?_
              refine lv_bipush (v := nI 32) hx hb d_Mo_copy_132 (by decide) ?_
              refine lv_iload_n hx hb d_Mo_copy_134 rfl (lv_at hl 2 rfl) ?_
              refine lv_imul hx hb d_Mo_copy_135 ?_
              refine q_ti (y := nI 32) (by decide) ?_
              refine lv_iload_n hx hb d_Mo_copy_136 rfl (lv_at hl 3 rfl) ?_
              refine lv_iadd hx hb d_Mo_copy_137 ?_
              refine q_ti (y := nI (32 + i)) (nI_add _ _) ?_
              refine lv_aload_n hx hb d_Mo_copy_138 rfl (lv_at hl 0 rfl) ?_
              refine va_get (D := D) (ci := 5) (v := .ref r4) (C := R_Mo) (T := F_Mo) (N := 9) hx hb hts i_Mo hown hK hP 0 rfl rfl 3 (by decide) (hts _ fl_Mo_20) (fun _ h9 => h9) rfl d_Mo_copy_139 ?_
              refine lv_bipush (v := nI 32) hx hb d_Mo_copy_142 (by decide) ?_
              refine lv_iload_n hx hb d_Mo_copy_144 rfl (lv_at hl 1 rfl) ?_
              refine lv_imul hx hb d_Mo_copy_145 ?_
              refine q_ti (y := nI 0) (by decide) ?_
              refine lv_iload_n hx hb d_Mo_copy_146 rfl (lv_at hl 3 rfl) ?_
              refine lv_iadd hx hb d_Mo_copy_147 ?_
              refine q_ti (y := nI (0 + i)) (nI_add _ _) ?_
              refine va_iald hx hb hK hP 4 1 rfl rfl (vp_in_nI (by omega) (by decide)) d_Mo_copy_148 ?_
              refine q_ti (y := (qm_cI nt 32 0 (i)) (0 + i)) (by rw [nI_clamp (by omega)]) ?_
              refine va_iast hx hb hK hP hD hS 4 1 rfl rfl (vp_in_nI (by omega) (by decide)) d_Mo_copy_149 (fun H locs hP hD hS => ?_)
              rw [nI_clamp (by omega)] at hP hD
              have hP : va_P D cls [(mo, .inr (5, [.ref r1, .ref r2, .ref r3, .ref r4, .ref r5, .ref r6, .int (md), .int (ck), .int (nI ov)])), (r1, .inl (cZ, 32, .inl (qm_T (qm_cT th 16 0 (16))))), (r2, .inl (cI, 4096, .inl (qm_P (qm_cPU pl (2048))))), (r3, .inl (cI, 4096, .inl (qm_cI mk 2048 0 (2048)))), (r4, .inl (cI, 64, .inl (upd (qm_cI nt 32 0 (i)) (32 + i) ((qm_cI nt 32 0 (i)) (0 + i))))), (r5, .inl (cB, 76800, .inl (bt))), (r6, .inl (cZ, 600, .inl (qm_T us)))] H := hP
              have hD : va_D A [(mo, .inr (5, [.ref r1, .ref r2, .ref r3, .ref r4, .ref r5, .ref r6, .int (md), .int (ck), .int (nI ov)])), (r1, .inl (cZ, 32, .inl (qm_T (qm_cT th 16 0 (16))))), (r2, .inl (cI, 4096, .inl (qm_P (qm_cPU pl (2048))))), (r3, .inl (cI, 4096, .inl (qm_cI mk 2048 0 (2048)))), (r4, .inl (cI, 64, .inl (upd (qm_cI nt 32 0 (i)) (32 + i) ((qm_cI nt 32 0 (i)) (0 + i))))), (r5, .inl (cB, 76800, .inl (bt))), (r6, .inl (cZ, 600, .inl (qm_T us)))] := hD
              refine lv_iinc (v := nI (i + 1)) (lv' := [(3, .int (nI (i + 1))), (0, .ref mo), (1, .int (nI 0)), (2, .int (nI 1))]) hx hb d_Mo_copy_150 hl (k := 3) rfl (nI_1 _) (by decide) rfl (fun ls hl => ?_)
              refine lv_goto (tgt := 122) hx hb d_Mo_copy_153 (by decide) ?_
              exact ih (()) _ _ _ ⟨hP, hD, hS, lv_sub hl [1, 2, 3, 0] rfl⟩
        · have c42 : ¬ 2048 ≤ 2048 := fun h9 => c42 ((nI_leI (by omega) (by omega)).mpr h9)
          exfalso; omega
      · intro i u9 H locs ls hi hI ih
        obtain ⟨hP, hD, hS, hl⟩ := hI
        have hpl := qm_cPU_le kpl (i := i) (by omega)
        refine lv_iload_n hx hb d_Mo_copy_38 rfl (lv_at hl 3 rfl) ?_
        refine lv_sipush (v := nI 2048) hx hb d_Mo_copy_39 (by decide) ?_
        refine lv_icmp_ge (tgt := 120) hx hb d_Mo_copy_42 (by decide) (fun c42 => ?_) (fun c42 => ?_)
        · have c42 : 2048 ≤ i := (nI_leI (by omega) (by omega)).mp c42
          exfalso; omega
        · have c42 : ¬ 2048 ≤ i := fun h9 => c42 ((nI_leI (by omega) (by omega)).mpr h9)
          refine lv_aload_n hx hb d_Mo_copy_45 rfl (lv_at hl 0 rfl) ?_
          refine va_get (D := D) (ci := 5) (v := .ref r2) (C := R_Mo) (T := F_Mo) (N := 9) hx hb hts i_Mo hown hK hP 0 rfl rfl 1 (by decide) (hts _ fl_Mo_13) (fun _ h9 => h9) rfl d_Mo_copy_46 ?_
          refine lv_sipush (v := nI 2048) hx hb d_Mo_copy_49 (by decide) ?_
          refine lv_iload_n hx hb d_Mo_copy_52 rfl (lv_at hl 1 rfl) ?_
          refine lv_imul hx hb d_Mo_copy_53 ?_
          refine q_ti (y := nI 0) (by decide) ?_
          refine lv_iload_n hx hb d_Mo_copy_54 rfl (lv_at hl 3 rfl) ?_
          refine lv_iadd hx hb d_Mo_copy_55 ?_
          refine q_ti (y := nI (0 + i)) (nI_add _ _) ?_
          refine va_iald hx hb hK hP 2 1 rfl rfl (vp_in_nI (by omega) (by decide)) d_Mo_copy_56 ?_
          refine q_ti (y := (qm_P (qm_cPU pl (i))) (0 + i)) (by rw [nI_clamp (by omega)]) ?_
          refine lv_istore (lv' := [(4, .int ((qm_P (qm_cPU pl (i))) (0 + i))), (0, .ref mo), (1, .int (nI 0)), (2, .int (nI 1)), (3, .int (nI i))]) hx hb d_Mo_copy_57 hl (by decide) rfl (fun ls hl => ?_)
          refine lv_aload_n hx hb d_Mo_copy_59 rfl (lv_at hl 1 rfl) ?_
          refine va_get (D := D) (ci := 5) (v := .ref r2) (C := R_Mo) (T := F_Mo) (N := 9) hx hb hts i_Mo hown hK hP 0 rfl rfl 1 (by decide) (hts _ fl_Mo_13) (fun _ h9 => h9) rfl d_Mo_copy_60 ?_
          refine lv_sipush (v := nI 2048) hx hb d_Mo_copy_63 (by decide) ?_
          refine lv_iload_n hx hb d_Mo_copy_66 rfl (lv_at hl 3 rfl) ?_
          refine lv_imul hx hb d_Mo_copy_67 ?_
          refine q_ti (y := nI 2048) (by decide) ?_
          refine lv_iload_n hx hb d_Mo_copy_68 rfl (lv_at hl 4 rfl) ?_
          refine lv_iadd hx hb d_Mo_copy_69 ?_
          refine q_ti (y := nI (2048 + i)) (nI_add _ _) ?_
          refine lv_iload hx hb d_Mo_copy_70 (lv_at hl 0 rfl) ?_
          refine lv_if_ge (tgt := 79) hx hb d_Mo_copy_72 (by decide) (fun c72 => ?_) (fun c72 => ?_)
          · have c72 := qm_Pg (by omega) c72
            obtain ⟨w, hw⟩ : ∃ w, qm_cPU pl (i) (0 + i) = w + 1 := ⟨qm_cPU pl (i) (0 + i) - 1, by omega⟩
            refine lv_iload hx hb d_Mo_copy_79 (lv_at hl 0 rfl) ?_
            refine q_ti (y := nI w) (qm_Pk hw) ?_
            refine lv_sipush (v := nI 300) hx hb d_Mo_copy_81 (by decide) ?_
            refine lv_iload_n hx hb d_Mo_copy_84 rfl (lv_at hl 3 rfl) ?_
            refine lv_iload_n hx hb d_Mo_copy_85 rfl (lv_at hl 2 rfl) ?_
            refine lv_isub hx hb d_Mo_copy_86 ?_
            refine q_ti (y := nI 1) (by decide) ?_
            refine lv_imul hx hb d_Mo_copy_87 ?_
            refine q_ti (y := nI 300) (by decide) ?_
            refine lv_iadd hx hb d_Mo_copy_88 ?_
            refine q_ti (y := nI (w + 300)) (nI_add _ _) ?_
            refine va_iast hx hb hK hP hD hS 2 1 rfl rfl (vp_in_nI (by omega) (by decide)) d_Mo_copy_89 (fun H locs hP hD hS => ?_)
            rw [nI_clamp (by omega)] at hP hD
            have hP : va_P D cls [(mo, .inr (5, [.ref r1, .ref r2, .ref r3, .ref r4, .ref r5, .ref r6, .int (md), .int (ck), .int (nI ov)])), (r1, .inl (cZ, 32, .inl (qm_T (qm_cT th 16 0 (16))))), (r2, .inl (cI, 4096, .inl (upd (qm_P (qm_cPU pl (i))) (2048 + i) (nI (w + 300))))), (r3, .inl (cI, 4096, .inl (qm_cI mk 2048 0 (i)))), (r4, .inl (cI, 64, .inl (nt))), (r5, .inl (cB, 76800, .inl (bt))), (r6, .inl (cZ, 600, .inl (qm_T us)))] H := hP
            have hD : va_D A [(mo, .inr (5, [.ref r1, .ref r2, .ref r3, .ref r4, .ref r5, .ref r6, .int (md), .int (ck), .int (nI ov)])), (r1, .inl (cZ, 32, .inl (qm_T (qm_cT th 16 0 (16))))), (r2, .inl (cI, 4096, .inl (upd (qm_P (qm_cPU pl (i))) (2048 + i) (nI (w + 300))))), (r3, .inl (cI, 4096, .inl (qm_cI mk 2048 0 (i)))), (r4, .inl (cI, 64, .inl (nt))), (r5, .inl (cB, 76800, .inl (bt))), (r6, .inl (cZ, 600, .inl (qm_T us)))] := hD
            rw [qm_Pw, qm_cPU_n hw] at hP hD
            have hP : va_P D cls [(mo, .inr (5, [.ref r1, .ref r2, .ref r3, .ref r4, .ref r5, .ref r6, .int (md), .int (ck), .int (nI ov)])), (r1, .inl (cZ, 32, .inl (qm_T (qm_cT th 16 0 (16))))), (r2, .inl (cI, 4096, .inl (qm_P (qm_cPU pl (i + 1))))), (r3, .inl (cI, 4096, .inl (qm_cI mk 2048 0 (i)))), (r4, .inl (cI, 64, .inl (nt))), (r5, .inl (cB, 76800, .inl (bt))), (r6, .inl (cZ, 600, .inl (qm_T us)))] H := hP
            have hD : va_D A [(mo, .inr (5, [.ref r1, .ref r2, .ref r3, .ref r4, .ref r5, .ref r6, .int (md), .int (ck), .int (nI ov)])), (r1, .inl (cZ, 32, .inl (qm_T (qm_cT th 16 0 (16))))), (r2, .inl (cI, 4096, .inl (qm_P (qm_cPU pl (i + 1))))), (r3, .inl (cI, 4096, .inl (qm_cI mk 2048 0 (i)))), (r4, .inl (cI, 64, .inl (nt))), (r5, .inl (cB, 76800, .inl (bt))), (r6, .inl (cZ, 600, .inl (qm_T us)))] := hD
            refine lv_aload_n hx hb d_Mo_copy_90 rfl (lv_at hl 1 rfl) ?_
            refine va_get (D := D) (ci := 5) (v := .ref r3) (C := R_Mo) (T := F_Mo) (N := 9) hx hb hts i_Mo hown hK hP 0 rfl rfl 2 (by decide) (hts _ fl_Mo_17) (fun _ h9 => h9) rfl d_Mo_copy_91 ?_
            refine lv_sipush (v := nI 2048) hx hb d_Mo_copy_94 (by decide) ?_
            refine lv_iload_n hx hb d_Mo_copy_97 rfl (lv_at hl 3 rfl) ?_
            refine lv_imul hx hb d_Mo_copy_98 ?_
            refine q_ti (y := nI 2048) (by decide) ?_
            refine lv_iload_n hx hb d_Mo_copy_99 rfl (lv_at hl 4 rfl) ?_
            refine lv_iadd hx hb d_Mo_copy_100 ?_
            refine q_ti (y := nI (2048 + i)) (nI_add _ _) ?_
            refine lv_aload_n hx hb d_Mo_copy_101 rfl (lv_at hl 1 rfl) ?_
            refine va_get (D := D) (ci := 5) (v := .ref r3) (C := R_Mo) (T := F_Mo) (N := 9) hx hb hts i_Mo hown hK hP 0 rfl rfl 2 (by decide) (hts _ fl_Mo_17) (fun _ h9 => h9) rfl d_Mo_copy_102 ?_
            refine lv_sipush (v := nI 2048) hx hb d_Mo_copy_105 (by decide) ?_
            refine lv_iload_n hx hb d_Mo_copy_108 rfl (lv_at hl 2 rfl) ?_
            refine lv_imul hx hb d_Mo_copy_109 ?_
            refine q_ti (y := nI 0) (by decide) ?_
            refine lv_iload_n hx hb d_Mo_copy_110 rfl (lv_at hl 4 rfl) ?_
            refine lv_iadd hx hb d_Mo_copy_111 ?_
            refine q_ti (y := nI (0 + i)) (nI_add _ _) ?_
            refine va_iald hx hb hK hP 3 1 rfl rfl (vp_in_nI (by omega) (by decide)) d_Mo_copy_112 ?_
            refine q_ti (y := (qm_cI mk 2048 0 (i)) (0 + i)) (by rw [nI_clamp (by omega)]) ?_
            refine va_iast hx hb hK hP hD hS 3 1 rfl rfl (vp_in_nI (by omega) (by decide)) d_Mo_copy_113 (fun H locs hP hD hS => ?_)
            rw [nI_clamp (by omega)] at hP hD
            have hP : va_P D cls [(mo, .inr (5, [.ref r1, .ref r2, .ref r3, .ref r4, .ref r5, .ref r6, .int (md), .int (ck), .int (nI ov)])), (r1, .inl (cZ, 32, .inl (qm_T (qm_cT th 16 0 (16))))), (r2, .inl (cI, 4096, .inl (qm_P (qm_cPU pl (i + 1))))), (r3, .inl (cI, 4096, .inl (upd (qm_cI mk 2048 0 (i)) (2048 + i) ((qm_cI mk 2048 0 (i)) (0 + i))))), (r4, .inl (cI, 64, .inl (nt))), (r5, .inl (cB, 76800, .inl (bt))), (r6, .inl (cZ, 600, .inl (qm_T us)))] H := hP
            have hD : va_D A [(mo, .inr (5, [.ref r1, .ref r2, .ref r3, .ref r4, .ref r5, .ref r6, .int (md), .int (ck), .int (nI ov)])), (r1, .inl (cZ, 32, .inl (qm_T (qm_cT th 16 0 (16))))), (r2, .inl (cI, 4096, .inl (qm_P (qm_cPU pl (i + 1))))), (r3, .inl (cI, 4096, .inl (upd (qm_cI mk 2048 0 (i)) (2048 + i) ((qm_cI mk 2048 0 (i)) (0 + i))))), (r4, .inl (cI, 64, .inl (nt))), (r5, .inl (cB, 76800, .inl (bt))), (r6, .inl (cZ, 600, .inl (qm_T us)))] := hD
            refine lv_iinc (v := nI (i + 1)) (lv' := [(3, .int (nI (i + 1))), (4, .int ((qm_P (qm_cPU pl (i))) (0 + i))), (0, .ref mo), (1, .int (nI 0)), (2, .int (nI 1))]) hx hb d_Mo_copy_114 hl (k := 4) rfl (nI_1 _) (by decide) rfl (fun ls hl => ?_)
            refine lv_goto (tgt := 38) hx hb d_Mo_copy_117 (by decide) ?_
            exact ih (()) _ _ _ ⟨(by first | exact hP | (rw [qm_cPU_s]; exact hP)), (by first | exact hD | (rw [qm_cPU_s]; exact hD)), hS, (by first | exact lv_sub hl [2, 3, 4, 0] rfl | (rw [qm_cPU_s]; exact lv_sub hl [2, 3, 4, 0] rfl))⟩
          · have c72 := qm_Ph (by omega) c72
            refine lv_iconst (v := (-1 : Int32)) hx hb d_Mo_copy_75 (by decide) ?_
            refine lv_goto (tgt := 89) hx hb d_Mo_copy_76 (by decide) ?_
            refine va_iast hx hb hK hP hD hS 2 1 rfl rfl (vp_in_nI (by omega) (by decide)) d_Mo_copy_89 (fun H locs hP hD hS => ?_)
            rw [nI_clamp (by omega)] at hP hD
            have hP : va_P D cls [(mo, .inr (5, [.ref r1, .ref r2, .ref r3, .ref r4, .ref r5, .ref r6, .int (md), .int (ck), .int (nI ov)])), (r1, .inl (cZ, 32, .inl (qm_T (qm_cT th 16 0 (16))))), (r2, .inl (cI, 4096, .inl (upd (qm_P (qm_cPU pl (i))) (2048 + i) ((-1 : Int32))))), (r3, .inl (cI, 4096, .inl (qm_cI mk 2048 0 (i)))), (r4, .inl (cI, 64, .inl (nt))), (r5, .inl (cB, 76800, .inl (bt))), (r6, .inl (cZ, 600, .inl (qm_T us)))] H := hP
            have hD : va_D A [(mo, .inr (5, [.ref r1, .ref r2, .ref r3, .ref r4, .ref r5, .ref r6, .int (md), .int (ck), .int (nI ov)])), (r1, .inl (cZ, 32, .inl (qm_T (qm_cT th 16 0 (16))))), (r2, .inl (cI, 4096, .inl (upd (qm_P (qm_cPU pl (i))) (2048 + i) ((-1 : Int32))))), (r3, .inl (cI, 4096, .inl (qm_cI mk 2048 0 (i)))), (r4, .inl (cI, 64, .inl (nt))), (r5, .inl (cB, 76800, .inl (bt))), (r6, .inl (cZ, 600, .inl (qm_T us)))] := hD
            rw [qm_Pz, qm_cPU_z c72] at hP hD
            have hP : va_P D cls [(mo, .inr (5, [.ref r1, .ref r2, .ref r3, .ref r4, .ref r5, .ref r6, .int (md), .int (ck), .int (nI ov)])), (r1, .inl (cZ, 32, .inl (qm_T (qm_cT th 16 0 (16))))), (r2, .inl (cI, 4096, .inl (qm_P (qm_cPU pl (i + 1))))), (r3, .inl (cI, 4096, .inl (qm_cI mk 2048 0 (i)))), (r4, .inl (cI, 64, .inl (nt))), (r5, .inl (cB, 76800, .inl (bt))), (r6, .inl (cZ, 600, .inl (qm_T us)))] H := hP
            have hD : va_D A [(mo, .inr (5, [.ref r1, .ref r2, .ref r3, .ref r4, .ref r5, .ref r6, .int (md), .int (ck), .int (nI ov)])), (r1, .inl (cZ, 32, .inl (qm_T (qm_cT th 16 0 (16))))), (r2, .inl (cI, 4096, .inl (qm_P (qm_cPU pl (i + 1))))), (r3, .inl (cI, 4096, .inl (qm_cI mk 2048 0 (i)))), (r4, .inl (cI, 64, .inl (nt))), (r5, .inl (cB, 76800, .inl (bt))), (r6, .inl (cZ, 600, .inl (qm_T us)))] := hD
            refine lv_aload_n hx hb d_Mo_copy_90 rfl (lv_at hl 1 rfl) ?_
            refine va_get (D := D) (ci := 5) (v := .ref r3) (C := R_Mo) (T := F_Mo) (N := 9) hx hb hts i_Mo hown hK hP 0 rfl rfl 2 (by decide) (hts _ fl_Mo_17) (fun _ h9 => h9) rfl d_Mo_copy_91 ?_
            refine lv_sipush (v := nI 2048) hx hb d_Mo_copy_94 (by decide) ?_
            refine lv_iload_n hx hb d_Mo_copy_97 rfl (lv_at hl 3 rfl) ?_
            refine lv_imul hx hb d_Mo_copy_98 ?_
            refine q_ti (y := nI 2048) (by decide) ?_
            refine lv_iload_n hx hb d_Mo_copy_99 rfl (lv_at hl 4 rfl) ?_
            refine lv_iadd hx hb d_Mo_copy_100 ?_
            refine q_ti (y := nI (2048 + i)) (nI_add _ _) ?_
            refine lv_aload_n hx hb d_Mo_copy_101 rfl (lv_at hl 1 rfl) ?_
            refine va_get (D := D) (ci := 5) (v := .ref r3) (C := R_Mo) (T := F_Mo) (N := 9) hx hb hts i_Mo hown hK hP 0 rfl rfl 2 (by decide) (hts _ fl_Mo_17) (fun _ h9 => h9) rfl d_Mo_copy_102 ?_
            refine lv_sipush (v := nI 2048) hx hb d_Mo_copy_105 (by decide) ?_
            refine lv_iload_n hx hb d_Mo_copy_108 rfl (lv_at hl 2 rfl) ?_
            refine lv_imul hx hb d_Mo_copy_109 ?_
            refine q_ti (y := nI 0) (by decide) ?_
            refine lv_iload_n hx hb d_Mo_copy_110 rfl (lv_at hl 4 rfl) ?_
            refine lv_iadd hx hb d_Mo_copy_111 ?_
            refine q_ti (y := nI (0 + i)) (nI_add _ _) ?_
            refine va_iald hx hb hK hP 3 1 rfl rfl (vp_in_nI (by omega) (by decide)) d_Mo_copy_112 ?_
            refine q_ti (y := (qm_cI mk 2048 0 (i)) (0 + i)) (by rw [nI_clamp (by omega)]) ?_
            refine va_iast hx hb hK hP hD hS 3 1 rfl rfl (vp_in_nI (by omega) (by decide)) d_Mo_copy_113 (fun H locs hP hD hS => ?_)
            rw [nI_clamp (by omega)] at hP hD
            have hP : va_P D cls [(mo, .inr (5, [.ref r1, .ref r2, .ref r3, .ref r4, .ref r5, .ref r6, .int (md), .int (ck), .int (nI ov)])), (r1, .inl (cZ, 32, .inl (qm_T (qm_cT th 16 0 (16))))), (r2, .inl (cI, 4096, .inl (qm_P (qm_cPU pl (i + 1))))), (r3, .inl (cI, 4096, .inl (upd (qm_cI mk 2048 0 (i)) (2048 + i) ((qm_cI mk 2048 0 (i)) (0 + i))))), (r4, .inl (cI, 64, .inl (nt))), (r5, .inl (cB, 76800, .inl (bt))), (r6, .inl (cZ, 600, .inl (qm_T us)))] H := hP
            have hD : va_D A [(mo, .inr (5, [.ref r1, .ref r2, .ref r3, .ref r4, .ref r5, .ref r6, .int (md), .int (ck), .int (nI ov)])), (r1, .inl (cZ, 32, .inl (qm_T (qm_cT th 16 0 (16))))), (r2, .inl (cI, 4096, .inl (qm_P (qm_cPU pl (i + 1))))), (r3, .inl (cI, 4096, .inl (upd (qm_cI mk 2048 0 (i)) (2048 + i) ((qm_cI mk 2048 0 (i)) (0 + i))))), (r4, .inl (cI, 64, .inl (nt))), (r5, .inl (cB, 76800, .inl (bt))), (r6, .inl (cZ, 600, .inl (qm_T us)))] := hD
            refine lv_iinc (v := nI (i + 1)) (lv' := [(3, .int (nI (i + 1))), (4, .int ((qm_P (qm_cPU pl (i))) (0 + i))), (0, .ref mo), (1, .int (nI 0)), (2, .int (nI 1))]) hx hb d_Mo_copy_114 hl (k := 4) rfl (nI_1 _) (by decide) rfl (fun ls hl => ?_)
            refine lv_goto (tgt := 38) hx hb d_Mo_copy_117 (by decide) ?_
            exact ih (()) _ _ _ ⟨(by first | exact hP | (rw [qm_cPU_s]; exact hP)), (by first | exact hD | (rw [qm_cPU_s]; exact hD)), hS, (by first | exact lv_sub hl [2, 3, 4, 0] rfl | (rw [qm_cPU_s]; exact lv_sub hl [2, 3, 4, 0] rfl))⟩
    · have c5 : ¬ 16 ≤ 16 := fun h9 => c5 ((nI_leI (by omega) (by omega)).mpr h9)
      exfalso; omega
  · intro i u9 H locs ls hi hI ih
    obtain ⟨hP, hD, hS, hl⟩ := hI
    refine lv_iload_n hx hb d_Mo_copy_2 rfl (lv_at hl 3 rfl) ?_
    refine lv_bipush (v := nI 16) hx hb d_Mo_copy_3 (by decide) ?_
    refine lv_icmp_ge (tgt := 36) hx hb d_Mo_copy_5 (by decide) (fun c5 => ?_) (fun c5 => ?_)
    · have c5 : 16 ≤ i := (nI_leI (by omega) (by omega)).mp c5
      exfalso; omega
    · have c5 : ¬ 16 ≤ i := fun h9 => c5 ((nI_leI (by omega) (by omega)).mpr h9)
      refine lv_aload_n hx hb d_Mo_copy_8 rfl (lv_at hl 0 rfl) ?_
      refine va_get (D := D) (ci := 5) (v := .ref r1) (C := R_Mo) (T := F_Mo) (N := 9) hx hb hts i_Mo hown hK hP 0 rfl rfl 0 (by decide) (hts _ fl_Mo_7) (fun _ h9 => h9) rfl d_Mo_copy_9 ?_
      refine lv_bipush (v := nI 16) hx hb d_Mo_copy_12 (by decide) ?_
      refine lv_iload_n hx hb d_Mo_copy_14 rfl (lv_at hl 2 rfl) ?_
      refine lv_imul hx hb d_Mo_copy_15 ?_
      refine q_ti (y := nI 16) (by decide) ?_
      refine lv_iload_n hx hb d_Mo_copy_16 rfl (lv_at hl 3 rfl) ?_
      refine lv_iadd hx hb d_Mo_copy_17 ?_
      refine q_ti (y := nI (16 + i)) (nI_add _ _) ?_
      refine lv_aload_n hx hb d_Mo_copy_18 rfl (lv_at hl 0 rfl) ?_
      refine va_get (D := D) (ci := 5) (v := .ref r1) (C := R_Mo) (T := F_Mo) (N := 9) hx hb hts i_Mo hown hK hP 0 rfl rfl 0 (by decide) (hts _ fl_Mo_7) (fun _ h9 => h9) rfl d_Mo_copy_19 ?_
      refine lv_bipush (v := nI 16) hx hb d_Mo_copy_22 (by decide) ?_
      refine lv_iload_n hx hb d_Mo_copy_24 rfl (lv_at hl 1 rfl) ?_
      refine lv_imul hx hb d_Mo_copy_25 ?_
      refine q_ti (y := nI 0) (by decide) ?_
      refine lv_iload_n hx hb d_Mo_copy_26 rfl (lv_at hl 3 rfl) ?_
      refine lv_iadd hx hb d_Mo_copy_27 ?_
      refine q_ti (y := nI (0 + i)) (nI_add _ _) ?_
      refine va_zald hx hb hK hP 1 0 rfl rfl (vp_in_nI (by omega) (by decide)) d_Mo_copy_28 ?_
      refine q_ti (y := (qm_T (qm_cT th 16 0 (i))) (0 + i)) (by rw [nI_clamp (by omega)]) ?_
      refine va_zast hx hb hK hP hD hS 1 0 rfl rfl (vp_in_nI (by omega) (by decide)) d_Mo_copy_29 (fun H locs hP hD hS => ?_)
      rw [nI_clamp (by omega)] at hP hD
      have hP : va_P D cls [(mo, .inr (5, [.ref r1, .ref r2, .ref r3, .ref r4, .ref r5, .ref r6, .int (md), .int (ck), .int (nI ov)])), (r1, .inl (cZ, 32, .inl (upd (qm_T (qm_cT th 16 0 (i))) (16 + i) (vp_nar .boolean ((qm_T (qm_cT th 16 0 (i))) (0 + i)))))), (r2, .inl (cI, 4096, .inl (qm_P pl))), (r3, .inl (cI, 4096, .inl (mk))), (r4, .inl (cI, 64, .inl (nt))), (r5, .inl (cB, 76800, .inl (bt))), (r6, .inl (cZ, 600, .inl (qm_T us)))] H := hP
      have hD : va_D A [(mo, .inr (5, [.ref r1, .ref r2, .ref r3, .ref r4, .ref r5, .ref r6, .int (md), .int (ck), .int (nI ov)])), (r1, .inl (cZ, 32, .inl (upd (qm_T (qm_cT th 16 0 (i))) (16 + i) (vp_nar .boolean ((qm_T (qm_cT th 16 0 (i))) (0 + i)))))), (r2, .inl (cI, 4096, .inl (qm_P pl))), (r3, .inl (cI, 4096, .inl (mk))), (r4, .inl (cI, 64, .inl (nt))), (r5, .inl (cB, 76800, .inl (bt))), (r6, .inl (cZ, 600, .inl (qm_T us)))] := hD
      rw [qm_Tc] at hP hD
      have hP : va_P D cls [(mo, .inr (5, [.ref r1, .ref r2, .ref r3, .ref r4, .ref r5, .ref r6, .int (md), .int (ck), .int (nI ov)])), (r1, .inl (cZ, 32, .inl (qm_T (qm_cT th 16 0 (i + 1))))), (r2, .inl (cI, 4096, .inl (qm_P pl))), (r3, .inl (cI, 4096, .inl (mk))), (r4, .inl (cI, 64, .inl (nt))), (r5, .inl (cB, 76800, .inl (bt))), (r6, .inl (cZ, 600, .inl (qm_T us)))] H := hP
      have hD : va_D A [(mo, .inr (5, [.ref r1, .ref r2, .ref r3, .ref r4, .ref r5, .ref r6, .int (md), .int (ck), .int (nI ov)])), (r1, .inl (cZ, 32, .inl (qm_T (qm_cT th 16 0 (i + 1))))), (r2, .inl (cI, 4096, .inl (qm_P pl))), (r3, .inl (cI, 4096, .inl (mk))), (r4, .inl (cI, 64, .inl (nt))), (r5, .inl (cB, 76800, .inl (bt))), (r6, .inl (cZ, 600, .inl (qm_T us)))] := hD
      refine lv_iinc (v := nI (i + 1)) (lv' := [(3, .int (nI (i + 1))), (0, .ref mo), (1, .int (nI 0)), (2, .int (nI 1))]) hx hb d_Mo_copy_30 hl (k := 3) rfl (nI_1 _) (by decide) rfl (fun ls hl => ?_)
      refine lv_goto (tgt := 2) hx hb d_Mo_copy_33 (by decide) ?_
      exact ih (()) _ _ _ ⟨hP, hD, hS, lv_sub hl [1, 2, 3, 0] rfl⟩
set_option maxHeartbeats 4000000 in
set_option maxRecDepth 100000 in
theorem c_Mo_copyD (l : Launch) (D : va_G) (cZ : ClassId) (cI : ClassId) (cB : ClassId) (mo : Nat) (r1 : Nat) (r2 : Nat) (r3 : Nat) (r4 : Nat) (r5 : Nat) (r6 : Nat) (th : Nat → Bool) (pl : Nat → Nat) (mk : Nat → Int32) (nt : Nat → Int32) (bt : Nat → Int32) (us : Nat → Bool) (md : Int32) (ck : Int32) (ov : Nat) (kpl : ∀ k, pl k ≤ 600) (kph : ∀ k, 2048 ≤ k → k < 4096 → pl k = 0 ∨ 301 ≤ pl k) : qMv l y_Mo_copy b_Mo_copy 5 none (rmL 1) D [(cZ, .boolean), (cI, .int), (cB, .byte)] [.ref mo, .int (nI 1), .int (nI 0)] [(mo, .inr (5, [.ref r1, .ref r2, .ref r3, .ref r4, .ref r5, .ref r6, .int (md), .int (ck), .int (nI ov)])), (r1, .inl (cZ, 32, .inl (qm_T th))), (r2, .inl (cI, 4096, .inl (qm_P pl))), (r3, .inl (cI, 4096, .inl (mk))), (r4, .inl (cI, 64, .inl (nt))), (r5, .inl (cB, 76800, .inl (bt))), (r6, .inl (cZ, 600, .inl (qm_T us)))] [(mo, .inr (5, [.ref r1, .ref r2, .ref r3, .ref r4, .ref r5, .ref r6, .int (md), .int (ck), .int (nI ov)])), (r1, .inl (cZ, 32, .inl (qm_T (qm_cT th 0 16 (16))))), (r2, .inl (cI, 4096, .inl (qm_P (qm_cPD pl (2048))))), (r3, .inl (cI, 4096, .inl (qm_cI mk 0 2048 (2048)))), (r4, .inl (cI, 64, .inl (qm_cI nt 0 32 (32)))), (r5, .inl (cB, 76800, .inl (qm_cB bt 0 38400 (38400)))), (r6, .inl (cZ, 600, .inl (qm_T (qm_cT us 0 300 (300)))))] := by
  refine q_start (Qc := qZv D _ _) (by decide +kernel) (Nat.le_of_ble_eq_true rfl) ?_
  intro p e s m below meth c A hx hb hr hlk hml hown hts hK hP hD hS hA hN ls hl
  have hl : lv_has ls 5 [(0, .ref mo), (1, .int (nI 1)), (2, .int (nI 0))] := hl
  have hP : va_P D cls [(mo, .inr (5, [.ref r1, .ref r2, .ref r3, .ref r4, .ref r5, .ref r6, .int (md), .int (ck), .int (nI ov)])), (r1, .inl (cZ, 32, .inl (qm_T th))), (r2, .inl (cI, 4096, .inl (qm_P pl))), (r3, .inl (cI, 4096, .inl (mk))), (r4, .inl (cI, 64, .inl (nt))), (r5, .inl (cB, 76800, .inl (bt))), (r6, .inl (cZ, 600, .inl (qm_T us)))] s.heap := hP
  have hD : va_D A [(mo, .inr (5, [.ref r1, .ref r2, .ref r3, .ref r4, .ref r5, .ref r6, .int (md), .int (ck), .int (nI ov)])), (r1, .inl (cZ, 32, .inl (qm_T th))), (r2, .inl (cI, 4096, .inl (qm_P pl))), (r3, .inl (cI, 4096, .inl (mk))), (r4, .inl (cI, 64, .inl (nt))), (r5, .inl (cB, 76800, .inl (bt))), (r6, .inl (cZ, 600, .inl (qm_T us)))] := hD
  refine lv_iconst (v := nI 0) hx hb d_Mo_copy_0 (by decide) ?_
  refine lv_istore_n (lv' := [(3, .int (nI 0)), (0, .ref mo), (1, .int (nI 1)), (2, .int (nI 0))]) hx hb d_Mo_copy_1 rfl hl (by decide) rfl (fun ls hl => ?_)
  refine q_loop (pc := 2) (σ := Unit) (I := fun i u9 H locs ls => va_P D cls [(mo, .inr (5, [.ref r1, .ref r2, .ref r3, .ref r4, .ref r5, .ref r6, .int (md), .int (ck), .int (nI ov)])), (r1, .inl (cZ, 32, .inl (qm_T (qm_cT th 0 16 (i))))), (r2, .inl (cI, 4096, .inl (qm_P pl))), (r3, .inl (cI, 4096, .inl (mk))), (r4, .inl (cI, 64, .inl (nt))), (r5, .inl (cB, 76800, .inl (bt))), (r6, .inl (cZ, 600, .inl (qm_T us)))] H ∧ va_D A [(mo, .inr (5, [.ref r1, .ref r2, .ref r3, .ref r4, .ref r5, .ref r6, .int (md), .int (ck), .int (nI ov)])), (r1, .inl (cZ, 32, .inl (qm_T (qm_cT th 0 16 (i))))), (r2, .inl (cI, 4096, .inl (qm_P pl))), (r3, .inl (cI, 4096, .inl (mk))), (r4, .inl (cI, 64, .inl (nt))), (r5, .inl (cB, 76800, .inl (bt))), (r6, .inl (cZ, 600, .inl (qm_T us)))] ∧ va_S A s.heap H locs ∧ lv_has ls 5 [(0, .ref mo), (1, .int (nI 1)), (2, .int (nI 0)), (3, .int (nI i))]) (16) ?_ ?_ (0) (()) _ _ _ (by omega) ⟨hP, hD, hS, lv_sub hl [1, 2, 3, 0] rfl⟩
  · intro u9 H locs ls hI
    obtain ⟨hP, hD, hS, hl⟩ := hI
    refine lv_iload_n hx hb d_Mo_copy_2 rfl (lv_at hl 3 rfl) ?_
    refine lv_bipush (v := nI 16) hx hb d_Mo_copy_3 (by decide) ?_
    refine lv_icmp_ge (tgt := 36) hx hb d_Mo_copy_5 (by decide) (fun c5 => ?_) (fun c5 => ?_)
    · have c5 : 16 ≤ 16 := (nI_leI (by omega) (by omega)).mp c5
      refine lv_iconst (v := nI 0) hx hb d_Mo_copy_36 (by decide) ?_
      refine lv_istore_n (lv' := [(3, .int (nI 0)), (0, .ref mo), (1, .int (nI 1)), (2, .int (nI 0))]) hx hb d_Mo_copy_37 rfl hl (by decide) rfl (fun ls hl => ?_)
      refine q_loop (pc := 38) (σ := Unit) (I := fun i u9 H locs ls => va_P D cls [(mo, .inr (5, [.ref r1, .ref r2, .ref r3, .ref r4, .ref r5, .ref r6, .int (md), .int (ck), .int (nI ov)])), (r1, .inl (cZ, 32, .inl (qm_T (qm_cT th 0 16 (16))))), (r2, .inl (cI, 4096, .inl (qm_P (qm_cPD pl (i))))), (r3, .inl (cI, 4096, .inl (qm_cI mk 0 2048 (i)))), (r4, .inl (cI, 64, .inl (nt))), (r5, .inl (cB, 76800, .inl (bt))), (r6, .inl (cZ, 600, .inl (qm_T us)))] H ∧ va_D A [(mo, .inr (5, [.ref r1, .ref r2, .ref r3, .ref r4, .ref r5, .ref r6, .int (md), .int (ck), .int (nI ov)])), (r1, .inl (cZ, 32, .inl (qm_T (qm_cT th 0 16 (16))))), (r2, .inl (cI, 4096, .inl (qm_P (qm_cPD pl (i))))), (r3, .inl (cI, 4096, .inl (qm_cI mk 0 2048 (i)))), (r4, .inl (cI, 64, .inl (nt))), (r5, .inl (cB, 76800, .inl (bt))), (r6, .inl (cZ, 600, .inl (qm_T us)))] ∧ va_S A s.heap H locs ∧ lv_has ls 5 [(0, .ref mo), (1, .int (nI 1)), (2, .int (nI 0)), (3, .int (nI i))]) (2048) ?_ ?_ (0) (()) _ _ _ (by omega) ⟨hP, hD, hS, lv_sub hl [1, 2, 3, 0] rfl⟩
      · intro u9 H locs ls hI
        obtain ⟨hP, hD, hS, hl⟩ := hI
        refine lv_iload_n hx hb d_Mo_copy_38 rfl (lv_at hl 3 rfl) ?_
        refine lv_sipush (v := nI 2048) hx hb d_Mo_copy_39 (by decide) ?_
        refine lv_icmp_ge (tgt := 120) hx hb d_Mo_copy_42 (by decide) (fun c42 => ?_) (fun c42 => ?_)
        · have c42 : 2048 ≤ 2048 := (nI_leI (by omega) (by omega)).mp c42
          refine lv_iconst (v := nI 0) hx hb d_Mo_copy_120 (by decide) ?_
          refine lv_istore_n (lv' := [(3, .int (nI 0)), (0, .ref mo), (1, .int (nI 1)), (2, .int (nI 0))]) hx hb d_Mo_copy_121 rfl hl (by decide) rfl (fun ls hl => ?_)
          refine q_loop (pc := 122) (σ := Unit) (I := fun i u9 H locs ls => va_P D cls [(mo, .inr (5, [.ref r1, .ref r2, .ref r3, .ref r4, .ref r5, .ref r6, .int (md), .int (ck), .int (nI ov)])), (r1, .inl (cZ, 32, .inl (qm_T (qm_cT th 0 16 (16))))), (r2, .inl (cI, 4096, .inl (qm_P (qm_cPD pl (2048))))), (r3, .inl (cI, 4096, .inl (qm_cI mk 0 2048 (2048)))), (r4, .inl (cI, 64, .inl (qm_cI nt 0 32 (i)))), (r5, .inl (cB, 76800, .inl (bt))), (r6, .inl (cZ, 600, .inl (qm_T us)))] H ∧ va_D A [(mo, .inr (5, [.ref r1, .ref r2, .ref r3, .ref r4, .ref r5, .ref r6, .int (md), .int (ck), .int (nI ov)])), (r1, .inl (cZ, 32, .inl (qm_T (qm_cT th 0 16 (16))))), (r2, .inl (cI, 4096, .inl (qm_P (qm_cPD pl (2048))))), (r3, .inl (cI, 4096, .inl (qm_cI mk 0 2048 (2048)))), (r4, .inl (cI, 64, .inl (qm_cI nt 0 32 (i)))), (r5, .inl (cB, 76800, .inl (bt))), (r6, .inl (cZ, 600, .inl (qm_T us)))] ∧ va_S A s.heap H locs ∧ lv_has ls 5 [(0, .ref mo), (1, .int (nI 1)), (2, .int (nI 0)), (3, .int (nI i))]) (32) ?_ ?_ (0) (()) _ _ _ (by omega) ⟨hP, hD, hS, lv_sub hl [1, 2, 3, 0] rfl⟩
          · intro u9 H locs ls hI
            obtain ⟨hP, hD, hS, hl⟩ := hI
            refine lv_iload_n hx hb d_Mo_copy_122 rfl (lv_at hl 3 rfl) ?_
            refine lv_bipush (v := nI 32) hx hb d_Mo_copy_123 (by decide) ?_
            refine lv_icmp_ge (tgt := 156) hx hb d_Mo_copy_125 (by decide) (fun c125 => ?_) (fun c125 => ?_)
            · have c125 : 32 ≤ 32 := (nI_leI (by omega) (by omega)).mp c125
              refine lv_iconst (v := nI 0) hx hb d_Mo_copy_156 (by decide) ?_
              refine lv_istore_n (lv' := [(3, .int (nI 0)), (0, .ref mo), (1, .int (nI 1)), (2, .int (nI 0))]) hx hb d_Mo_copy_157 rfl hl (by decide) rfl (fun ls hl => ?_)
              refine q_loop (pc := 158) (σ := Unit) (I := fun i u9 H locs ls => va_P D cls [(mo, .inr (5, [.ref r1, .ref r2, .ref r3, .ref r4, .ref r5, .ref r6, .int (md), .int (ck), .int (nI ov)])), (r1, .inl (cZ, 32, .inl (qm_T (qm_cT th 0 16 (16))))), (r2, .inl (cI, 4096, .inl (qm_P (qm_cPD pl (2048))))), (r3, .inl (cI, 4096, .inl (qm_cI mk 0 2048 (2048)))), (r4, .inl (cI, 64, .inl (qm_cI nt 0 32 (32)))), (r5, .inl (cB, 76800, .inl (bt))), (r6, .inl (cZ, 600, .inl (qm_T (qm_cT us 0 300 (i)))))] H ∧ va_D A [(mo, .inr (5, [.ref r1, .ref r2, .ref r3, .ref r4, .ref r5, .ref r6, .int (md), .int (ck), .int (nI ov)])), (r1, .inl (cZ, 32, .inl (qm_T (qm_cT th 0 16 (16))))), (r2, .inl (cI, 4096, .inl (qm_P (qm_cPD pl (2048))))), (r3, .inl (cI, 4096, .inl (qm_cI mk 0 2048 (2048)))), (r4, .inl (cI, 64, .inl (qm_cI nt 0 32 (32)))), (r5, .inl (cB, 76800, .inl (bt))), (r6, .inl (cZ, 600, .inl (qm_T (qm_cT us 0 300 (i)))))] ∧ va_S A s.heap H locs ∧ lv_has ls 5 [(0, .ref mo), (1, .int (nI 1)), (2, .int (nI 0)), (3, .int (nI i))]) (300) ?_ ?_ (0) (()) _ _ _ (by omega) ⟨hP, hD, hS, lv_sub hl [1, 2, 3, 0] rfl⟩
              · intro u9 H locs ls hI
                obtain ⟨hP, hD, hS, hl⟩ := hI
                refine lv_iload_n hx hb d_Mo_copy_158 rfl (lv_at hl 3 rfl) ?_
                refine lv_sipush (v := nI 300) hx hb d_Mo_copy_159 (by decide) ?_
                refine lv_icmp_ge (tgt := 195) hx hb d_Mo_copy_162 (by decide) (fun c162 => ?_) (fun c162 => ?_)
                · have c162 : 300 ≤ 300 := (nI_leI (by omega) (by omega)).mp c162
                  refine lv_iconst (v := nI 0) hx hb d_Mo_copy_195 (by decide) ?_
                  refine lv_istore_n (lv' := [(3, .int (nI 0)), (0, .ref mo), (1, .int (nI 1)), (2, .int (nI 0))]) hx hb d_Mo_copy_196 rfl hl (by decide) rfl (fun ls hl => ?_)
                  refine q_loop (pc := 197) (σ := Unit) (I := fun i u9 H locs ls => va_P D cls [(mo, .inr (5, [.ref r1, .ref r2, .ref r3, .ref r4, .ref r5, .ref r6, .int (md), .int (ck), .int (nI ov)])), (r1, .inl (cZ, 32, .inl (qm_T (qm_cT th 0 16 (16))))), (r2, .inl (cI, 4096, .inl (qm_P (qm_cPD pl (2048))))), (r3, .inl (cI, 4096, .inl (qm_cI mk 0 2048 (2048)))), (r4, .inl (cI, 64, .inl (qm_cI nt 0 32 (32)))), (r5, .inl (cB, 76800, .inl (qm_cB bt 0 38400 (i)))), (r6, .inl (cZ, 600, .inl (qm_T (qm_cT us 0 300 (300)))))] H ∧ va_D A [(mo, .inr (5, [.ref r1, .ref r2, .ref r3, .ref r4, .ref r5, .ref r6, .int (md), .int (ck), .int (nI ov)])), (r1, .inl (cZ, 32, .inl (qm_T (qm_cT th 0 16 (16))))), (r2, .inl (cI, 4096, .inl (qm_P (qm_cPD pl (2048))))), (r3, .inl (cI, 4096, .inl (qm_cI mk 0 2048 (2048)))), (r4, .inl (cI, 64, .inl (qm_cI nt 0 32 (32)))), (r5, .inl (cB, 76800, .inl (qm_cB bt 0 38400 (i)))), (r6, .inl (cZ, 600, .inl (qm_T (qm_cT us 0 300 (300)))))] ∧ va_S A s.heap H locs ∧ lv_has ls 5 [(0, .ref mo), (1, .int (nI 1)), (2, .int (nI 0)), (3, .int (nI i))]) (38400) ?_ ?_ (0) (()) _ _ _ (by omega) ⟨hP, hD, hS, lv_sub hl [1, 2, 3, 0] rfl⟩
                  · intro u9 H locs ls hI
                    obtain ⟨hP, hD, hS, hl⟩ := hI
                    refine lv_iload_n hx hb d_Mo_copy_197 rfl (lv_at hl 3 rfl) ?_
                    refine lv_ldc hx hb hown (hts _ kc_Mo_67) d_Mo_copy_198 ?_
                    refine q_ti (y := nI 38400) (by decide) ?_
                    refine lv_icmp_ge (tgt := 231) hx hb d_Mo_copy_200 (by decide) (fun c200 => ?_) (fun c200 => ?_)
                    · have c200 : 38400 ≤ 38400 := (nI_leI (by omega) (by omega)).mp c200
                      exact q_vret hx hb hr hlk hK hP hD hS d_Mo_copy_231 (rfl)
                    · have c200 : ¬ 38400 ≤ 38400 := fun h9 => c200 ((nI_leI (by omega) (by omega)).mpr h9)
                      exfalso; omega
                  · intro i u9 H locs ls hi hI ih
                    obtain ⟨hP, hD, hS, hl⟩ := hI
                    refine lv_iload_n hx hb d_Mo_copy_197 rfl (lv_at hl 3 rfl) ?_
                    refine lv_ldc hx hb hown (hts _ kc_Mo_67) d_Mo_copy_198 ?_
                    refine q_ti (y := nI 38400) (by decide) ?_
                    refine lv_icmp_ge (tgt := 231) hx hb d_Mo_copy_200 (by decide) (fun c200 => ?_) (fun c200 => ?_)
                    · have c200 : 38400 ≤ i := (nI_leI (by omega) (by omega)).mp c200
                      exfalso; omega
                    · have c200 : ¬ 38400 ≤ i := fun h9 => c200 ((nI_leI (by omega) (by omega)).mpr h9)
                      refine lv_aload_n hx hb d_Mo_copy_203 rfl (lv_at hl 0 rfl) ?_
                      refine va_get (D := D) (ci := 5) (v := .ref r5) (C := R_Mo) (T := F_Mo) (N := 9) hx hb hts i_Mo hown hK hP 0 rfl rfl 4 (by decide) (hts _ fl_Mo_24) (fun _ h9 => h9) rfl d_Mo_copy_204 ?_
                      refine lv_ldc hx hb hown (hts _ kc_Mo_67) d_Mo_copy_207 ?_
                      refine q_ti (y := nI 38400) (by decide) ?_
                      refine lv_iload_n hx hb d_Mo_copy_209 rfl (lv_at hl 2 rfl) ?_
                      refine lv_imul hx hb d_Mo_copy_210 ?_
                      refine q_ti (y := nI 0) (by decide) ?_
                      refine lv_iload_n hx hb d_Mo_copy_211 rfl (lv_at hl 3 rfl) ?_
                      refine lv_iadd hx hb d_Mo_copy_212 ?_
                      refine q_ti (y := nI (0 + i)) (nI_add _ _) ?_
                      refine lv_aload_n hx hb d_Mo_copy_213 rfl (lv_at hl 0 rfl) ?_
                      refine va_get (D := D) (ci := 5) (v := .ref r5) (C := R_Mo) (T := F_Mo) (N := 9) hx hb hts i_Mo hown hK hP 0 rfl rfl 4 (by decide) (hts _ fl_Mo_24) (fun _ h9 => h9) rfl d_Mo_copy_214 ?_
                      refine lv_ldc hx hb hown (hts _ kc_Mo_67) d_Mo_copy_217 ?_
                      refine q_ti (y := nI 38400) (by decide) ?_
                      refine lv_iload_n hx hb d_Mo_copy_219 rfl (lv_at hl 1 rfl) ?_
                      refine lv_imul hx hb d_Mo_copy_220 ?_
                      refine q_ti (y := nI 38400) (by decide) ?_
                      refine lv_iload_n hx hb d_Mo_copy_221 rfl (lv_at hl 3 rfl) ?_
                      refine lv_iadd hx hb d_Mo_copy_222 ?_
                      refine q_ti (y := nI (38400 + i)) (nI_add _ _) ?_
                      refine va_bald hx hb hK hP 5 2 rfl rfl (vp_in_nI (by omega) (by decide)) d_Mo_copy_223 ?_
                      refine q_ti (y := (qm_cB bt 0 38400 (i)) (38400 + i)) (by rw [nI_clamp (by omega)]) ?_
                      refine va_bast hx hb hK hP hD hS 5 2 rfl rfl (vp_in_nI (by omega) (by decide)) d_Mo_copy_224 (fun H locs hP hD hS => ?_)
                      rw [nI_clamp (by omega)] at hP hD
                      have hP : va_P D cls [(mo, .inr (5, [.ref r1, .ref r2, .ref r3, .ref r4, .ref r5, .ref r6, .int (md), .int (ck), .int (nI ov)])), (r1, .inl (cZ, 32, .inl (qm_T (qm_cT th 0 16 (16))))), (r2, .inl (cI, 4096, .inl (qm_P (qm_cPD pl (2048))))), (r3, .inl (cI, 4096, .inl (qm_cI mk 0 2048 (2048)))), (r4, .inl (cI, 64, .inl (qm_cI nt 0 32 (32)))), (r5, .inl (cB, 76800, .inl (upd (qm_cB bt 0 38400 (i)) (0 + i) (vp_nar .byte ((qm_cB bt 0 38400 (i)) (38400 + i)))))), (r6, .inl (cZ, 600, .inl (qm_T (qm_cT us 0 300 (300)))))] H := hP
                      have hD : va_D A [(mo, .inr (5, [.ref r1, .ref r2, .ref r3, .ref r4, .ref r5, .ref r6, .int (md), .int (ck), .int (nI ov)])), (r1, .inl (cZ, 32, .inl (qm_T (qm_cT th 0 16 (16))))), (r2, .inl (cI, 4096, .inl (qm_P (qm_cPD pl (2048))))), (r3, .inl (cI, 4096, .inl (qm_cI mk 0 2048 (2048)))), (r4, .inl (cI, 64, .inl (qm_cI nt 0 32 (32)))), (r5, .inl (cB, 76800, .inl (upd (qm_cB bt 0 38400 (i)) (0 + i) (vp_nar .byte ((qm_cB bt 0 38400 (i)) (38400 + i)))))), (r6, .inl (cZ, 600, .inl (qm_T (qm_cT us 0 300 (300)))))] := hD
                      refine lv_iinc (v := nI (i + 1)) (lv' := [(3, .int (nI (i + 1))), (0, .ref mo), (1, .int (nI 1)), (2, .int (nI 0))]) hx hb d_Mo_copy_225 hl (k := 3) rfl (nI_1 _) (by decide) rfl (fun ls hl => ?_)
                      refine lv_goto (tgt := 197) hx hb d_Mo_copy_228 (by decide) ?_
                      exact ih (()) _ _ _ ⟨hP, hD, hS, lv_sub hl [1, 2, 3, 0] rfl⟩
                · have c162 : ¬ 300 ≤ 300 := fun h9 => c162 ((nI_leI (by omega) (by omega)).mpr h9)
                  exfalso; omega
              · intro i u9 H locs ls hi hI ih
                obtain ⟨hP, hD, hS, hl⟩ := hI
                refine lv_iload_n hx hb d_Mo_copy_158 rfl (lv_at hl 3 rfl) ?_
                refine lv_sipush (v := nI 300) hx hb d_Mo_copy_159 (by decide) ?_
                refine lv_icmp_ge (tgt := 195) hx hb d_Mo_copy_162 (by decide) (fun c162 => ?_) (fun c162 => ?_)
                · have c162 : 300 ≤ i := (nI_leI (by omega) (by omega)).mp c162
                  exfalso; omega
                · have c162 : ¬ 300 ≤ i := fun h9 => c162 ((nI_leI (by omega) (by omega)).mpr h9)
                  refine lv_aload_n hx hb d_Mo_copy_165 rfl (lv_at hl 0 rfl) ?_
                  refine va_get (D := D) (ci := 5) (v := .ref r6) (C := R_Mo) (T := F_Mo) (N := 9) hx hb hts i_Mo hown hK hP 0 rfl rfl 5 (by decide) (hts _ fl_Mo_28) (fun _ h9 => h9) rfl d_Mo_copy_166 ?_
                  refine lv_sipush (v := nI 300) hx hb d_Mo_copy_169 (by decide) ?_
                  refine lv_iload_n hx hb d_Mo_copy_172 rfl (lv_at hl 2 rfl) ?_
                  refine lv_imul hx hb d_Mo_copy_173 ?_
                  refine q_ti (y := nI 0) (by decide) ?_
                  refine lv_iload_n hx hb d_Mo_copy_174 rfl (lv_at hl 3 rfl) ?_
                  refine lv_iadd hx hb d_Mo_copy_175 ?_
                  refine q_ti (y := nI (0 + i)) (nI_add _ _) ?_
                  refine lv_aload_n hx hb d_Mo_copy_176 rfl (lv_at hl 0 rfl) ?_
                  refine va_get (D := D) (ci := 5) (v := .ref r6) (C := R_Mo) (T := F_Mo) (N := 9) hx hb hts i_Mo hown hK hP 0 rfl rfl 5 (by decide) (hts _ fl_Mo_28) (fun _ h9 => h9) rfl d_Mo_copy_177 ?_
                  refine lv_sipush (v := nI 300) hx hb d_Mo_copy_180 (by decide) ?_
                  refine lv_iload_n hx hb d_Mo_copy_183 rfl (lv_at hl 1 rfl) ?_
                  refine lv_imul hx hb d_Mo_copy_184 ?_
                  refine q_ti (y := nI 300) (by decide) ?_
                  refine lv_iload_n hx hb d_Mo_copy_185 rfl (lv_at hl 3 rfl) ?_
                  refine lv_iadd hx hb d_Mo_copy_186 ?_
                  refine q_ti (y := nI (300 + i)) (nI_add _ _) ?_
                  refine va_zald hx hb hK hP 6 0 rfl rfl (vp_in_nI (by omega) (by decide)) d_Mo_copy_187 ?_
                  refine q_ti (y := (qm_T (qm_cT us 0 300 (i))) (300 + i)) (by rw [nI_clamp (by omega)]) ?_
                  refine va_zast hx hb hK hP hD hS 6 0 rfl rfl (vp_in_nI (by omega) (by decide)) d_Mo_copy_188 (fun H locs hP hD hS => ?_)
                  rw [nI_clamp (by omega)] at hP hD
                  have hP : va_P D cls [(mo, .inr (5, [.ref r1, .ref r2, .ref r3, .ref r4, .ref r5, .ref r6, .int (md), .int (ck), .int (nI ov)])), (r1, .inl (cZ, 32, .inl (qm_T (qm_cT th 0 16 (16))))), (r2, .inl (cI, 4096, .inl (qm_P (qm_cPD pl (2048))))), (r3, .inl (cI, 4096, .inl (qm_cI mk 0 2048 (2048)))), (r4, .inl (cI, 64, .inl (qm_cI nt 0 32 (32)))), (r5, .inl (cB, 76800, .inl (bt))), (r6, .inl (cZ, 600, .inl (upd (qm_T (qm_cT us 0 300 (i))) (0 + i) (vp_nar .boolean ((qm_T (qm_cT us 0 300 (i))) (300 + i))))))] H := hP
                  have hD : va_D A [(mo, .inr (5, [.ref r1, .ref r2, .ref r3, .ref r4, .ref r5, .ref r6, .int (md), .int (ck), .int (nI ov)])), (r1, .inl (cZ, 32, .inl (qm_T (qm_cT th 0 16 (16))))), (r2, .inl (cI, 4096, .inl (qm_P (qm_cPD pl (2048))))), (r3, .inl (cI, 4096, .inl (qm_cI mk 0 2048 (2048)))), (r4, .inl (cI, 64, .inl (qm_cI nt 0 32 (32)))), (r5, .inl (cB, 76800, .inl (bt))), (r6, .inl (cZ, 600, .inl (upd (qm_T (qm_cT us 0 300 (i))) (0 + i) (vp_nar .boolean ((qm_T (qm_cT us 0 300 (i))) (300 + i))))))] := hD
                  rw [qm_Tc] at hP hD
                  have hP : va_P D cls [(mo, .inr (5, [.ref r1, .ref r2, .ref r3, .ref r4, .ref r5, .ref r6, .int (md), .int (ck), .int (nI ov)])), (r1, .inl (cZ, 32, .inl (qm_T (qm_cT th 0 16 (16))))), (r2, .inl (cI, 4096, .inl (qm_P (qm_cPD pl (2048))))), (r3, .inl (cI, 4096, .inl (qm_cI mk 0 2048 (2048)))), (r4, .inl (cI, 64, .inl (qm_cI nt 0 32 (32)))), (r5, .inl (cB, 76800, .inl (bt))), (r6, .inl (cZ, 600, .inl (qm_T (qm_cT us 0 300 (i + 1)))))] H := hP
                  have hD : va_D A [(mo, .inr (5, [.ref r1, .ref r2, .ref r3, .ref r4, .ref r5, .ref r6, .int (md), .int (ck), .int (nI ov)])), (r1, .inl (cZ, 32, .inl (qm_T (qm_cT th 0 16 (16))))), (r2, .inl (cI, 4096, .inl (qm_P (qm_cPD pl (2048))))), (r3, .inl (cI, 4096, .inl (qm_cI mk 0 2048 (2048)))), (r4, .inl (cI, 64, .inl (qm_cI nt 0 32 (32)))), (r5, .inl (cB, 76800, .inl (bt))), (r6, .inl (cZ, 600, .inl (qm_T (qm_cT us 0 300 (i + 1)))))] := hD
                  refine lv_iinc (v := nI (i + 1)) (lv' := [(3, .int (nI (i + 1))), (0, .ref mo), (1, .int (nI 1)), (2, .int (nI 0))]) hx hb d_Mo_copy_189 hl (k := 3) rfl (nI_1 _) (by decide) rfl (fun ls hl => ?_)
                  refine lv_goto (tgt := 158) hx hb d_Mo_copy_192 (by decide) ?_
                  exact ih (()) _ _ _ ⟨hP, hD, hS, lv_sub hl [1, 2, 3, 0] rfl⟩
            · have c125 : ¬ 32 ≤ 32 := fun h9 => c125 ((nI_leI (by omega) (by omega)).mpr h9)
              exfalso; omega
          · intro i u9 H locs ls hi hI ih
            obtain ⟨hP, hD, hS, hl⟩ := hI
            refine lv_iload_n hx hb d_Mo_copy_122 rfl (lv_at hl 3 rfl) ?_
            refine lv_bipush (v := nI 32) hx hb d_Mo_copy_123 (by decide) ?_
            refine lv_icmp_ge (tgt := 156) hx hb d_Mo_copy_125 (by decide) (fun c125 => ?_) (fun c125 => ?_)
            · have c125 : 32 ≤ i := (nI_leI (by omega) (by omega)).mp c125
              exfalso; omega
            · have c125 : ¬ 32 ≤ i := fun h9 => c125 ((nI_leI (by omega) (by omega)).mpr h9)
              refine lv_aload_n hx hb d_Mo_copy_128 rfl (lv_at hl 0 rfl) ?_
              refine va_get (D := D) (ci := 5) (v := .ref r4) (C := R_Mo) (T := F_Mo) (N := 9) hx hb hts i_Mo hown hK hP 0 rfl rfl 3 (by decide) (hts _ fl_Mo_20) (fun _ h9 => h9) rfl d_Mo_copy_129 ?_
              refine lv_bipush (v := nI 32) hx hb d_Mo_copy_132 (by decide) ?_
              refine lv_iload_n hx hb d_Mo_copy_134 rfl (lv_at hl 2 rfl) ?_
              refine lv_imul hx hb d_Mo_copy_135 ?_
              refine q_ti (y := nI 0) (by decide) ?_
              refine lv_iload_n hx hb d_Mo_copy_136 rfl (lv_at hl 3 rfl) ?_
              refine lv_iadd hx hb d_Mo_copy_137 ?_
              refine q_ti (y := nI (0 + i)) (nI_add _ _) ?_
              refine lv_aload_n hx hb d_Mo_copy_138 rfl (lv_at hl 0 rfl) ?_
              refine va_get (D := D) (ci := 5) (v := .ref r4) (C := R_Mo) (T := F_Mo) (N := 9) hx hb hts i_Mo hown hK hP 0 rfl rfl 3 (by decide) (hts _ fl_Mo_20) (fun _ h9 => h9) rfl d_Mo_copy_139 ?_
              refine lv_bipush (v := nI 32) hx hb d_Mo_copy_142 (by decide) ?_
              refine lv_iload_n hx hb d_Mo_copy_144 rfl (lv_at hl 1 rfl) ?_
              refine lv_imul hx hb d_Mo_copy_145 ?_
              refine q_ti (y := nI 32) (by decide) ?_
              refine lv_iload_n hx hb d_Mo_copy_146 rfl (lv_at hl 3 rfl) ?_
              refine lv_iadd hx hb d_Mo_copy_147 ?_
              refine q_ti (y := nI (32 + i)) (nI_add _ _) ?_
              refine va_iald hx hb hK hP 4 1 rfl rfl (vp_in_nI (by omega) (by decide)) d_Mo_copy_148 ?_
              refine q_ti (y := (qm_cI nt 0 32 (i)) (32 + i)) (by rw [nI_clamp (by omega)]) ?_
              refine va_iast hx hb hK hP hD hS 4 1 rfl rfl (vp_in_nI (by omega) (by decide)) d_Mo_copy_149 (fun H locs hP hD hS => ?_)
              rw [nI_clamp (by omega)] at hP hD
              have hP : va_P D cls [(mo, .inr (5, [.ref r1, .ref r2, .ref r3, .ref r4, .ref r5, .ref r6, .int (md), .int (ck), .int (nI ov)])), (r1, .inl (cZ, 32, .inl (qm_T (qm_cT th 0 16 (16))))), (r2, .inl (cI, 4096, .inl (qm_P (qm_cPD pl (2048))))), (r3, .inl (cI, 4096, .inl (qm_cI mk 0 2048 (2048)))), (r4, .inl (cI, 64, .inl (upd (qm_cI nt 0 32 (i)) (0 + i) ((qm_cI nt 0 32 (i)) (32 + i))))), (r5, .inl (cB, 76800, .inl (bt))), (r6, .inl (cZ, 600, .inl (qm_T us)))] H := hP
              have hD : va_D A [(mo, .inr (5, [.ref r1, .ref r2, .ref r3, .ref r4, .ref r5, .ref r6, .int (md), .int (ck), .int (nI ov)])), (r1, .inl (cZ, 32, .inl (qm_T (qm_cT th 0 16 (16))))), (r2, .inl (cI, 4096, .inl (qm_P (qm_cPD pl (2048))))), (r3, .inl (cI, 4096, .inl (qm_cI mk 0 2048 (2048)))), (r4, .inl (cI, 64, .inl (upd (qm_cI nt 0 32 (i)) (0 + i) ((qm_cI nt 0 32 (i)) (32 + i))))), (r5, .inl (cB, 76800, .inl (bt))), (r6, .inl (cZ, 600, .inl (qm_T us)))] := hD
              refine lv_iinc (v := nI (i + 1)) (lv' := [(3, .int (nI (i + 1))), (0, .ref mo), (1, .int (nI 1)), (2, .int (nI 0))]) hx hb d_Mo_copy_150 hl (k := 3) rfl (nI_1 _) (by decide) rfl (fun ls hl => ?_)
              refine lv_goto (tgt := 122) hx hb d_Mo_copy_153 (by decide) ?_
              exact ih (()) _ _ _ ⟨hP, hD, hS, lv_sub hl [1, 2, 3, 0] rfl⟩
        · have c42 : ¬ 2048 ≤ 2048 := fun h9 => c42 ((nI_leI (by omega) (by omega)).mpr h9)
          exfalso; omega
      · intro i u9 H locs ls hi hI ih
        obtain ⟨hP, hD, hS, hl⟩ := hI
        have hpl := qm_cPD_le kpl kph (i := i) (by omega)
        refine lv_iload_n hx hb d_Mo_copy_38 rfl (lv_at hl 3 rfl) ?_
        refine lv_sipush (v := nI 2048) hx hb d_Mo_copy_39 (by decide) ?_
        refine lv_icmp_ge (tgt := 120) hx hb d_Mo_copy_42 (by decide) (fun c42 => ?_) (fun c42 => ?_)
        · have c42 : 2048 ≤ i := (nI_leI (by omega) (by omega)).mp c42
          exfalso; omega
        · have c42 : ¬ 2048 ≤ i := fun h9 => c42 ((nI_leI (by omega) (by omega)).mpr h9)
          refine lv_aload_n hx hb d_Mo_copy_45 rfl (lv_at hl 0 rfl) ?_
          refine va_get (D := D) (ci := 5) (v := .ref r2) (C := R_Mo) (T := F_Mo) (N := 9) hx hb hts i_Mo hown hK hP 0 rfl rfl 1 (by decide) (hts _ fl_Mo_13) (fun _ h9 => h9) rfl d_Mo_copy_46 ?_
          refine lv_sipush (v := nI 2048) hx hb d_Mo_copy_49 (by decide) ?_
          refine lv_iload_n hx hb d_Mo_copy_52 rfl (lv_at hl 1 rfl) ?_
          refine lv_imul hx hb d_Mo_copy_53 ?_
          refine q_ti (y := nI 2048) (by decide) ?_
          refine lv_iload_n hx hb d_Mo_copy_54 rfl (lv_at hl 3 rfl) ?_
          refine lv_iadd hx hb d_Mo_copy_55 ?_
          refine q_ti (y := nI (2048 + i)) (nI_add _ _) ?_
          refine va_iald hx hb hK hP 2 1 rfl rfl (vp_in_nI (by omega) (by decide)) d_Mo_copy_56 ?_
          refine q_ti (y := (qm_P (qm_cPD pl (i))) (2048 + i)) (by rw [nI_clamp (by omega)]) ?_
          refine lv_istore (lv' := [(4, .int ((qm_P (qm_cPD pl (i))) (2048 + i))), (0, .ref mo), (1, .int (nI 1)), (2, .int (nI 0)), (3, .int (nI i))]) hx hb d_Mo_copy_57 hl (by decide) rfl (fun ls hl => ?_)
          refine lv_aload_n hx hb d_Mo_copy_59 rfl (lv_at hl 1 rfl) ?_
          refine va_get (D := D) (ci := 5) (v := .ref r2) (C := R_Mo) (T := F_Mo) (N := 9) hx hb hts i_Mo hown hK hP 0 rfl rfl 1 (by decide) (hts _ fl_Mo_13) (fun _ h9 => h9) rfl d_Mo_copy_60 ?_
          refine lv_sipush (v := nI 2048) hx hb d_Mo_copy_63 (by decide) ?_
          refine lv_iload_n hx hb d_Mo_copy_66 rfl (lv_at hl 3 rfl) ?_
          refine lv_imul hx hb d_Mo_copy_67 ?_
          refine q_ti (y := nI 0) (by decide) ?_
          refine lv_iload_n hx hb d_Mo_copy_68 rfl (lv_at hl 4 rfl) ?_
          refine lv_iadd hx hb d_Mo_copy_69 ?_
          refine q_ti (y := nI (0 + i)) (nI_add _ _) ?_
          refine lv_iload hx hb d_Mo_copy_70 (lv_at hl 0 rfl) ?_
          refine lv_if_ge (tgt := 79) hx hb d_Mo_copy_72 (by decide) (fun c72 => ?_) (fun c72 => ?_)
          · have c72 := qm_Pg (by omega) c72
            obtain ⟨w, hw⟩ : ∃ w, qm_cPD pl (i) (2048 + i) = w + 1 := ⟨qm_cPD pl (i) (2048 + i) - 1, by omega⟩
            refine lv_iload hx hb d_Mo_copy_79 (lv_at hl 0 rfl) ?_
            refine q_ti (y := nI w) (qm_Pk hw) ?_
            refine lv_sipush (v := nI 300) hx hb d_Mo_copy_81 (by decide) ?_
            refine lv_iload_n hx hb d_Mo_copy_84 rfl (lv_at hl 3 rfl) ?_
            refine lv_iload_n hx hb d_Mo_copy_85 rfl (lv_at hl 2 rfl) ?_
            refine lv_isub hx hb d_Mo_copy_86 ?_
            refine q_ti (y := (-1 : Int32)) (by decide) ?_
            refine lv_imul hx hb d_Mo_copy_87 ?_
            refine q_ti (y := (-300 : Int32)) (by decide) ?_
            refine lv_iadd hx hb d_Mo_copy_88 ?_
            refine q_ti (y := nI (w - 300)) (qm_m300 (by omega)) ?_
            refine va_iast hx hb hK hP hD hS 2 1 rfl rfl (vp_in_nI (by omega) (by decide)) d_Mo_copy_89 (fun H locs hP hD hS => ?_)
            rw [nI_clamp (by omega)] at hP hD
            have hP : va_P D cls [(mo, .inr (5, [.ref r1, .ref r2, .ref r3, .ref r4, .ref r5, .ref r6, .int (md), .int (ck), .int (nI ov)])), (r1, .inl (cZ, 32, .inl (qm_T (qm_cT th 0 16 (16))))), (r2, .inl (cI, 4096, .inl (upd (qm_P (qm_cPD pl (i))) (0 + i) (nI (w - 300))))), (r3, .inl (cI, 4096, .inl (qm_cI mk 0 2048 (i)))), (r4, .inl (cI, 64, .inl (nt))), (r5, .inl (cB, 76800, .inl (bt))), (r6, .inl (cZ, 600, .inl (qm_T us)))] H := hP
            have hD : va_D A [(mo, .inr (5, [.ref r1, .ref r2, .ref r3, .ref r4, .ref r5, .ref r6, .int (md), .int (ck), .int (nI ov)])), (r1, .inl (cZ, 32, .inl (qm_T (qm_cT th 0 16 (16))))), (r2, .inl (cI, 4096, .inl (upd (qm_P (qm_cPD pl (i))) (0 + i) (nI (w - 300))))), (r3, .inl (cI, 4096, .inl (qm_cI mk 0 2048 (i)))), (r4, .inl (cI, 64, .inl (nt))), (r5, .inl (cB, 76800, .inl (bt))), (r6, .inl (cZ, 600, .inl (qm_T us)))] := hD
            rw [qm_Pw, qm_cPD_n hw (by omega)] at hP hD
            have hP : va_P D cls [(mo, .inr (5, [.ref r1, .ref r2, .ref r3, .ref r4, .ref r5, .ref r6, .int (md), .int (ck), .int (nI ov)])), (r1, .inl (cZ, 32, .inl (qm_T (qm_cT th 0 16 (16))))), (r2, .inl (cI, 4096, .inl (qm_P (qm_cPD pl (i + 1))))), (r3, .inl (cI, 4096, .inl (qm_cI mk 0 2048 (i)))), (r4, .inl (cI, 64, .inl (nt))), (r5, .inl (cB, 76800, .inl (bt))), (r6, .inl (cZ, 600, .inl (qm_T us)))] H := hP
            have hD : va_D A [(mo, .inr (5, [.ref r1, .ref r2, .ref r3, .ref r4, .ref r5, .ref r6, .int (md), .int (ck), .int (nI ov)])), (r1, .inl (cZ, 32, .inl (qm_T (qm_cT th 0 16 (16))))), (r2, .inl (cI, 4096, .inl (qm_P (qm_cPD pl (i + 1))))), (r3, .inl (cI, 4096, .inl (qm_cI mk 0 2048 (i)))), (r4, .inl (cI, 64, .inl (nt))), (r5, .inl (cB, 76800, .inl (bt))), (r6, .inl (cZ, 600, .inl (qm_T us)))] := hD
            refine lv_aload_n hx hb d_Mo_copy_90 rfl (lv_at hl 1 rfl) ?_
            refine va_get (D := D) (ci := 5) (v := .ref r3) (C := R_Mo) (T := F_Mo) (N := 9) hx hb hts i_Mo hown hK hP 0 rfl rfl 2 (by decide) (hts _ fl_Mo_17) (fun _ h9 => h9) rfl d_Mo_copy_91 ?_
            refine lv_sipush (v := nI 2048) hx hb d_Mo_copy_94 (by decide) ?_
            refine lv_iload_n hx hb d_Mo_copy_97 rfl (lv_at hl 3 rfl) ?_
            refine lv_imul hx hb d_Mo_copy_98 ?_
            refine q_ti (y := nI 0) (by decide) ?_
            refine lv_iload_n hx hb d_Mo_copy_99 rfl (lv_at hl 4 rfl) ?_
            refine lv_iadd hx hb d_Mo_copy_100 ?_
            refine q_ti (y := nI (0 + i)) (nI_add _ _) ?_
            refine lv_aload_n hx hb d_Mo_copy_101 rfl (lv_at hl 1 rfl) ?_
            refine va_get (D := D) (ci := 5) (v := .ref r3) (C := R_Mo) (T := F_Mo) (N := 9) hx hb hts i_Mo hown hK hP 0 rfl rfl 2 (by decide) (hts _ fl_Mo_17) (fun _ h9 => h9) rfl d_Mo_copy_102 ?_
            refine lv_sipush (v := nI 2048) hx hb d_Mo_copy_105 (by decide) ?_
            refine lv_iload_n hx hb d_Mo_copy_108 rfl (lv_at hl 2 rfl) ?_
            refine lv_imul hx hb d_Mo_copy_109 ?_
            refine q_ti (y := nI 2048) (by decide) ?_
            refine lv_iload_n hx hb d_Mo_copy_110 rfl (lv_at hl 4 rfl) ?_
            refine lv_iadd hx hb d_Mo_copy_111 ?_
            refine q_ti (y := nI (2048 + i)) (nI_add _ _) ?_
            refine va_iald hx hb hK hP 3 1 rfl rfl (vp_in_nI (by omega) (by decide)) d_Mo_copy_112 ?_
            refine q_ti (y := (qm_cI mk 0 2048 (i)) (2048 + i)) (by rw [nI_clamp (by omega)]) ?_
            refine va_iast hx hb hK hP hD hS 3 1 rfl rfl (vp_in_nI (by omega) (by decide)) d_Mo_copy_113 (fun H locs hP hD hS => ?_)
            rw [nI_clamp (by omega)] at hP hD
            have hP : va_P D cls [(mo, .inr (5, [.ref r1, .ref r2, .ref r3, .ref r4, .ref r5, .ref r6, .int (md), .int (ck), .int (nI ov)])), (r1, .inl (cZ, 32, .inl (qm_T (qm_cT th 0 16 (16))))), (r2, .inl (cI, 4096, .inl (qm_P (qm_cPD pl (i + 1))))), (r3, .inl (cI, 4096, .inl (upd (qm_cI mk 0 2048 (i)) (0 + i) ((qm_cI mk 0 2048 (i)) (2048 + i))))), (r4, .inl (cI, 64, .inl (nt))), (r5, .inl (cB, 76800, .inl (bt))), (r6, .inl (cZ, 600, .inl (qm_T us)))] H := hP
            have hD : va_D A [(mo, .inr (5, [.ref r1, .ref r2, .ref r3, .ref r4, .ref r5, .ref r6, .int (md), .int (ck), .int (nI ov)])), (r1, .inl (cZ, 32, .inl (qm_T (qm_cT th 0 16 (16))))), (r2, .inl (cI, 4096, .inl (qm_P (qm_cPD pl (i + 1))))), (r3, .inl (cI, 4096, .inl (upd (qm_cI mk 0 2048 (i)) (0 + i) ((qm_cI mk 0 2048 (i)) (2048 + i))))), (r4, .inl (cI, 64, .inl (nt))), (r5, .inl (cB, 76800, .inl (bt))), (r6, .inl (cZ, 600, .inl (qm_T us)))] := hD
            refine lv_iinc (v := nI (i + 1)) (lv' := [(3, .int (nI (i + 1))), (4, .int ((qm_P (qm_cPD pl (i))) (2048 + i))), (0, .ref mo), (1, .int (nI 1)), (2, .int (nI 0))]) hx hb d_Mo_copy_114 hl (k := 4) rfl (nI_1 _) (by decide) rfl (fun ls hl => ?_)
            refine lv_goto (tgt := 38) hx hb d_Mo_copy_117 (by decide) ?_
            exact ih (()) _ _ _ ⟨(by first | exact hP | (rw [qm_cPD_s]; exact hP)), (by first | exact hD | (rw [qm_cPD_s]; exact hD)), hS, (by first | exact lv_sub hl [2, 3, 4, 0] rfl | (rw [qm_cPD_s]; exact lv_sub hl [2, 3, 4, 0] rfl))⟩
          · have c72 := qm_Ph (by omega) c72
            refine lv_iconst (v := (-1 : Int32)) hx hb d_Mo_copy_75 (by decide) ?_
            refine lv_goto (tgt := 89) hx hb d_Mo_copy_76 (by decide) ?_
            refine va_iast hx hb hK hP hD hS 2 1 rfl rfl (vp_in_nI (by omega) (by decide)) d_Mo_copy_89 (fun H locs hP hD hS => ?_)
            rw [nI_clamp (by omega)] at hP hD
            have hP : va_P D cls [(mo, .inr (5, [.ref r1, .ref r2, .ref r3, .ref r4, .ref r5, .ref r6, .int (md), .int (ck), .int (nI ov)])), (r1, .inl (cZ, 32, .inl (qm_T (qm_cT th 0 16 (16))))), (r2, .inl (cI, 4096, .inl (upd (qm_P (qm_cPD pl (i))) (0 + i) ((-1 : Int32))))), (r3, .inl (cI, 4096, .inl (qm_cI mk 0 2048 (i)))), (r4, .inl (cI, 64, .inl (nt))), (r5, .inl (cB, 76800, .inl (bt))), (r6, .inl (cZ, 600, .inl (qm_T us)))] H := hP
            have hD : va_D A [(mo, .inr (5, [.ref r1, .ref r2, .ref r3, .ref r4, .ref r5, .ref r6, .int (md), .int (ck), .int (nI ov)])), (r1, .inl (cZ, 32, .inl (qm_T (qm_cT th 0 16 (16))))), (r2, .inl (cI, 4096, .inl (upd (qm_P (qm_cPD pl (i))) (0 + i) ((-1 : Int32))))), (r3, .inl (cI, 4096, .inl (qm_cI mk 0 2048 (i)))), (r4, .inl (cI, 64, .inl (nt))), (r5, .inl (cB, 76800, .inl (bt))), (r6, .inl (cZ, 600, .inl (qm_T us)))] := hD
            rw [qm_Pz, qm_cPD_z c72] at hP hD
            have hP : va_P D cls [(mo, .inr (5, [.ref r1, .ref r2, .ref r3, .ref r4, .ref r5, .ref r6, .int (md), .int (ck), .int (nI ov)])), (r1, .inl (cZ, 32, .inl (qm_T (qm_cT th 0 16 (16))))), (r2, .inl (cI, 4096, .inl (qm_P (qm_cPD pl (i + 1))))), (r3, .inl (cI, 4096, .inl (qm_cI mk 0 2048 (i)))), (r4, .inl (cI, 64, .inl (nt))), (r5, .inl (cB, 76800, .inl (bt))), (r6, .inl (cZ, 600, .inl (qm_T us)))] H := hP
            have hD : va_D A [(mo, .inr (5, [.ref r1, .ref r2, .ref r3, .ref r4, .ref r5, .ref r6, .int (md), .int (ck), .int (nI ov)])), (r1, .inl (cZ, 32, .inl (qm_T (qm_cT th 0 16 (16))))), (r2, .inl (cI, 4096, .inl (qm_P (qm_cPD pl (i + 1))))), (r3, .inl (cI, 4096, .inl (qm_cI mk 0 2048 (i)))), (r4, .inl (cI, 64, .inl (nt))), (r5, .inl (cB, 76800, .inl (bt))), (r6, .inl (cZ, 600, .inl (qm_T us)))] := hD
            refine lv_aload_n hx hb d_Mo_copy_90 rfl (lv_at hl 1 rfl) ?_
            refine va_get (D := D) (ci := 5) (v := .ref r3) (C := R_Mo) (T := F_Mo) (N := 9) hx hb hts i_Mo hown hK hP 0 rfl rfl 2 (by decide) (hts _ fl_Mo_17) (fun _ h9 => h9) rfl d_Mo_copy_91 ?_
            refine lv_sipush (v := nI 2048) hx hb d_Mo_copy_94 (by decide) ?_
            refine lv_iload_n hx hb d_Mo_copy_97 rfl (lv_at hl 3 rfl) ?_
            refine lv_imul hx hb d_Mo_copy_98 ?_
            refine q_ti (y := nI 0) (by decide) ?_
            refine lv_iload_n hx hb d_Mo_copy_99 rfl (lv_at hl 4 rfl) ?_
            refine lv_iadd hx hb d_Mo_copy_100 ?_
            refine q_ti (y := nI (0 + i)) (nI_add _ _) ?_
            refine lv_aload_n hx hb d_Mo_copy_101 rfl (lv_at hl 1 rfl) ?_
            refine va_get (D := D) (ci := 5) (v := .ref r3) (C := R_Mo) (T := F_Mo) (N := 9) hx hb hts i_Mo hown hK hP 0 rfl rfl 2 (by decide) (hts _ fl_Mo_17) (fun _ h9 => h9) rfl d_Mo_copy_102 ?_
            refine lv_sipush (v := nI 2048) hx hb d_Mo_copy_105 (by decide) ?_
            refine lv_iload_n hx hb d_Mo_copy_108 rfl (lv_at hl 2 rfl) ?_
            refine lv_imul hx hb d_Mo_copy_109 ?_
            refine q_ti (y := nI 2048) (by decide) ?_
            refine lv_iload_n hx hb d_Mo_copy_110 rfl (lv_at hl 4 rfl) ?_
            refine lv_iadd hx hb d_Mo_copy_111 ?_
            refine q_ti (y := nI (2048 + i)) (nI_add _ _) ?_
            refine va_iald hx hb hK hP 3 1 rfl rfl (vp_in_nI (by omega) (by decide)) d_Mo_copy_112 ?_
            refine q_ti (y := (qm_cI mk 0 2048 (i)) (2048 + i)) (by rw [nI_clamp (by omega)]) ?_
            refine va_iast hx hb hK hP hD hS 3 1 rfl rfl (vp_in_nI (by omega) (by decide)) d_Mo_copy_113 (fun H locs hP hD hS => ?_)
            rw [nI_clamp (by omega)] at hP hD
            have hP : va_P D cls [(mo, .inr (5, [.ref r1, .ref r2, .ref r3, .ref r4, .ref r5, .ref r6, .int (md), .int (ck), .int (nI ov)])), (r1, .inl (cZ, 32, .inl (qm_T (qm_cT th 0 16 (16))))), (r2, .inl (cI, 4096, .inl (qm_P (qm_cPD pl (i + 1))))), (r3, .inl (cI, 4096, .inl (upd (qm_cI mk 0 2048 (i)) (0 + i) ((qm_cI mk 0 2048 (i)) (2048 + i))))), (r4, .inl (cI, 64, .inl (nt))), (r5, .inl (cB, 76800, .inl (bt))), (r6, .inl (cZ, 600, .inl (qm_T us)))] H := hP
            have hD : va_D A [(mo, .inr (5, [.ref r1, .ref r2, .ref r3, .ref r4, .ref r5, .ref r6, .int (md), .int (ck), .int (nI ov)])), (r1, .inl (cZ, 32, .inl (qm_T (qm_cT th 0 16 (16))))), (r2, .inl (cI, 4096, .inl (qm_P (qm_cPD pl (i + 1))))), (r3, .inl (cI, 4096, .inl (upd (qm_cI mk 0 2048 (i)) (0 + i) ((qm_cI mk 0 2048 (i)) (2048 + i))))), (r4, .inl (cI, 64, .inl (nt))), (r5, .inl (cB, 76800, .inl (bt))), (r6, .inl (cZ, 600, .inl (qm_T us)))] := hD
            refine lv_iinc (v := nI (i + 1)) (lv' := [(3, .int (nI (i + 1))), (4, .int ((qm_P (qm_cPD pl (i))) (2048 + i))), (0, .ref mo), (1, .int (nI 1)), (2, .int (nI 0))]) hx hb d_Mo_copy_114 hl (k := 4) rfl (nI_1 _) (by decide) rfl (fun ls hl => ?_)
            refine lv_goto (tgt := 38) hx hb d_Mo_copy_117 (by decide) ?_
            exact ih (()) _ _ _ ⟨(by first | exact hP | (rw [qm_cPD_s]; exact hP)), (by first | exact hD | (rw [qm_cPD_s]; exact hD)), hS, (by first | exact lv_sub hl [2, 3, 4, 0] rfl | (rw [qm_cPD_s]; exact lv_sub hl [2, 3, 4, 0] rfl))⟩
    · have c5 : ¬ 16 ≤ 16 := fun h9 => c5 ((nI_leI (by omega) (by omega)).mpr h9)
      exfalso; omega
  · intro i u9 H locs ls hi hI ih
    obtain ⟨hP, hD, hS, hl⟩ := hI
    refine lv_iload_n hx hb d_Mo_copy_2 rfl (lv_at hl 3 rfl) ?_
    refine lv_bipush (v := nI 16) hx hb d_Mo_copy_3 (by decide) ?_
    refine lv_icmp_ge (tgt := 36) hx hb d_Mo_copy_5 (by decide) (fun c5 => ?_) (fun c5 => ?_)
    · have c5 : 16 ≤ i := (nI_leI (by omega) (by omega)).mp c5
      exfalso; omega
    · have c5 : ¬ 16 ≤ i := fun h9 => c5 ((nI_leI (by omega) (by omega)).mpr h9)
      refine lv_aload_n hx hb d_Mo_copy_8 rfl (lv_at hl 0 rfl) ?_
      refine va_get (D := D) (ci := 5) (v := .ref r1) (C := R_Mo) (T := F_Mo) (N := 9) hx hb hts i_Mo hown hK hP 0 rfl rfl 0 (by decide) (hts _ fl_Mo_7) (fun _ h9 => h9) rfl d_Mo_copy_9 ?_
      refine lv_bipush (v := nI 16) hx hb d_Mo_copy_12 (by decide) ?_
      refine lv_iload_n hx hb d_Mo_copy_14 rfl (lv_at hl 2 rfl) ?_
      refine lv_imul hx hb d_Mo_copy_15 ?_
      refine q_ti (y := nI 0) (by decide) ?_
      refine lv_iload_n hx hb d_Mo_copy_16 rfl (lv_at hl 3 rfl) ?_
      refine lv_iadd hx hb d_Mo_copy_17 ?_
      refine q_ti (y := nI (0 + i)) (nI_add _ _) ?_
      refine lv_aload_n hx hb d_Mo_copy_18 rfl (lv_at hl 0 rfl) ?_
      refine va_get (D := D) (ci := 5) (v := .ref r1) (C := R_Mo) (T := F_Mo) (N := 9) hx hb hts i_Mo hown hK hP 0 rfl rfl 0 (by decide) (hts _ fl_Mo_7) (fun _ h9 => h9) rfl d_Mo_copy_19 ?_
      refine lv_bipush (v := nI 16) hx hb d_Mo_copy_22 (by decide) ?_
      refine lv_iload_n hx hb d_Mo_copy_24 rfl (lv_at hl 1 rfl) ?_
      refine lv_imul hx hb d_Mo_copy_25 ?_
      refine q_ti (y := nI 16) (by decide) ?_
      refine lv_iload_n hx hb d_Mo_copy_26 rfl (lv_at hl 3 rfl) ?_
      refine lv_iadd hx hb d_Mo_copy_27 ?_
      refine q_ti (y := nI (16 + i)) (nI_add _ _) ?_
      refine va_zald hx hb hK hP 1 0 rfl rfl (vp_in_nI (by omega) (by decide)) d_Mo_copy_28 ?_
      refine q_ti (y := (qm_T (qm_cT th 0 16 (i))) (16 + i)) (by rw [nI_clamp (by omega)]) ?_
      refine va_zast hx hb hK hP hD hS 1 0 rfl rfl (vp_in_nI (by omega) (by decide)) d_Mo_copy_29 (fun H locs hP hD hS => ?_)
      rw [nI_clamp (by omega)] at hP hD
      have hP : va_P D cls [(mo, .inr (5, [.ref r1, .ref r2, .ref r3, .ref r4, .ref r5, .ref r6, .int (md), .int (ck), .int (nI ov)])), (r1, .inl (cZ, 32, .inl (upd (qm_T (qm_cT th 0 16 (i))) (0 + i) (vp_nar .boolean ((qm_T (qm_cT th 0 16 (i))) (16 + i)))))), (r2, .inl (cI, 4096, .inl (qm_P pl))), (r3, .inl (cI, 4096, .inl (mk))), (r4, .inl (cI, 64, .inl (nt))), (r5, .inl (cB, 76800, .inl (bt))), (r6, .inl (cZ, 600, .inl (qm_T us)))] H := hP
      have hD : va_D A [(mo, .inr (5, [.ref r1, .ref r2, .ref r3, .ref r4, .ref r5, .ref r6, .int (md), .int (ck), .int (nI ov)])), (r1, .inl (cZ, 32, .inl (upd (qm_T (qm_cT th 0 16 (i))) (0 + i) (vp_nar .boolean ((qm_T (qm_cT th 0 16 (i))) (16 + i)))))), (r2, .inl (cI, 4096, .inl (qm_P pl))), (r3, .inl (cI, 4096, .inl (mk))), (r4, .inl (cI, 64, .inl (nt))), (r5, .inl (cB, 76800, .inl (bt))), (r6, .inl (cZ, 600, .inl (qm_T us)))] := hD
      rw [qm_Tc] at hP hD
      have hP : va_P D cls [(mo, .inr (5, [.ref r1, .ref r2, .ref r3, .ref r4, .ref r5, .ref r6, .int (md), .int (ck), .int (nI ov)])), (r1, .inl (cZ, 32, .inl (qm_T (qm_cT th 0 16 (i + 1))))), (r2, .inl (cI, 4096, .inl (qm_P pl))), (r3, .inl (cI, 4096, .inl (mk))), (r4, .inl (cI, 64, .inl (nt))), (r5, .inl (cB, 76800, .inl (bt))), (r6, .inl (cZ, 600, .inl (qm_T us)))] H := hP
      have hD : va_D A [(mo, .inr (5, [.ref r1, .ref r2, .ref r3, .ref r4, .ref r5, .ref r6, .int (md), .int (ck), .int (nI ov)])), (r1, .inl (cZ, 32, .inl (qm_T (qm_cT th 0 16 (i + 1))))), (r2, .inl (cI, 4096, .inl (qm_P pl))), (r3, .inl (cI, 4096, .inl (mk))), (r4, .inl (cI, 64, .inl (nt))), (r5, .inl (cB, 76800, .inl (bt))), (r6, .inl (cZ, 600, .inl (qm_T us)))] := hD
      refine lv_iinc (v := nI (i + 1)) (lv' := [(3, .int (nI (i + 1))), (0, .ref mo), (1, .int (nI 1)), (2, .int (nI 0))]) hx hb d_Mo_copy_30 hl (k := 3) rfl (nI_1 _) (by decide) rfl (fun ls hl => ?_)
      refine lv_goto (tgt := 2) hx hb d_Mo_copy_33 (by decide) ?_
      exact ih (()) _ _ _ ⟨hP, hD, hS, lv_sub hl [1, 2, 3, 0] rfl⟩
set_option maxHeartbeats 4000000 in
set_option maxRecDepth 100000 in
theorem c_Mo_keep0 (l : Launch) (D : va_G) (cZ : ClassId) (cI : ClassId) (cB : ClassId) (mo : Nat) (r1 : Nat) (r2 : Nat) (r3 : Nat) (r4 : Nat) (r5 : Nat) (r6 : Nat) (th : Nat → Bool) (pl : Nat → Nat) (mk : Nat → Int32) (nt : Nat → Int32) (bt : Nat → Int32) (us : Nat → Bool) (md : Int32) (ck : Int32) (bits : Int64) (kpl : ∀ k, k < 2048 → pl k ≤ 300) (kpn : ∀ k, qm_cPU pl (2048) k ≤ 600) : qMi l y_Mo_keep b_Mo_keep 5 (some .int) (rmL 3) D [(cZ, .boolean), (cI, .int), (cB, .byte)] [.ref mo, .int (nI 0), .long (bits)] [(mo, .inr (5, [.ref r1, .ref r2, .ref r3, .ref r4, .ref r5, .ref r6, .int (md), .int (ck), .int (nI 0)])), (r1, .inl (cZ, 32, .inl (qm_T th))), (r2, .inl (cI, 4096, .inl (qm_P pl))), (r3, .inl (cI, 4096, .inl (mk))), (r4, .inl (cI, 64, .inl (nt))), (r5, .inl (cB, 76800, .inl (bt))), (r6, .inl (cZ, 600, .inl (qm_T us)))] [(mo, .inr (5, [.ref r1, .ref r2, .ref r3, .ref r4, .ref r5, .ref r6, .int (md), .int (ck + nI 1), .int (nI 0)])), (r1, .inl (cZ, 32, .inl (qm_T (qm_cT th 16 0 (16))))), (r2, .inl (cI, 4096, .inl (qm_P (qm_cPU pl (2048))))), (r3, .inl (cI, 4096, .inl (qm_cI mk 2048 0 (2048)))), (r4, .inl (cI, 64, .inl (qm_cI nt 32 0 (32)))), (r5, .inl (cB, 76800, .inl (qm_cB bt 38400 0 (38400)))), (r6, .inl (cZ, 600, .inl (qm_T (qm_cT us 300 0 (300)))))] (nI (qs_ 16 (fun v => qm_ct (qm_cPU pl (2048)) (128 * v) 128))) := by
  refine q_start (Qc := qZi D _ _ _) (by decide +kernel) (Nat.le_of_ble_eq_true rfl) ?_
  intro p e s m below meth c A hx hb hr hlk hml hown hts hK hP hD hS hA hN ls hl
  have hl : lv_has ls 5 [(0, .ref mo), (1, .int (nI 0)), (2, .long (bits))] := hl
  have hP : va_P D cls [(mo, .inr (5, [.ref r1, .ref r2, .ref r3, .ref r4, .ref r5, .ref r6, .int (md), .int (ck), .int (nI 0)])), (r1, .inl (cZ, 32, .inl (qm_T th))), (r2, .inl (cI, 4096, .inl (qm_P pl))), (r3, .inl (cI, 4096, .inl (mk))), (r4, .inl (cI, 64, .inl (nt))), (r5, .inl (cB, 76800, .inl (bt))), (r6, .inl (cZ, 600, .inl (qm_T us)))] s.heap := hP
  have hD : va_D A [(mo, .inr (5, [.ref r1, .ref r2, .ref r3, .ref r4, .ref r5, .ref r6, .int (md), .int (ck), .int (nI 0)])), (r1, .inl (cZ, 32, .inl (qm_T th))), (r2, .inl (cI, 4096, .inl (qm_P pl))), (r3, .inl (cI, 4096, .inl (mk))), (r4, .inl (cI, 64, .inl (nt))), (r5, .inl (cB, 76800, .inl (bt))), (r6, .inl (cZ, 600, .inl (qm_T us)))] := hD
  refine lv_aload_n hx hb d_Mo_keep_0 rfl (lv_at hl 0 rfl) ?_
  refine va_get (D := D) (ci := 5) (v := .int (nI 0)) (C := R_Mo) (T := F_Mo) (N := 9) hx hb hts i_Mo hown hK hP 0 rfl rfl 8 (by decide) (hts _ fl_Mo_38) (fun _ h9 => h9) rfl d_Mo_keep_1 ?_
  refine lv_if_eq (tgt := 10) hx hb d_Mo_keep_4 (by decide) (fun c4 => ?_) (fun c4 => ?_)
  · have c4 : 0 = 0 := (q_z_eq (by omega)).mp c4
    refine lv_iload_n hx hb d_Mo_keep_10 rfl (lv_at hl 1 rfl) ?_
    refine lv_if_lt (tgt := 19) hx hb d_Mo_keep_11 (by decide) (fun c11 => ?_) (fun c11 => ?_)
    · have c11 : 0 < 0 := (q_z_lt (by omega)).mp c11
      exfalso; omega
    · have c11 : ¬ 0 < 0 := fun h9 => c11 ((q_z_lt (by omega)).mpr h9)
      refine lv_iload_n hx hb d_Mo_keep_14 rfl (lv_at hl 1 rfl) ?_
      refine lv_iconst (v := nI 2) hx hb d_Mo_keep_15 (by decide) ?_
      refine lv_icmp_le (tgt := 21) hx hb d_Mo_keep_16 (by decide) (fun c16 => ?_) (fun c16 => ?_)
      · have c16 : 0 ≤ 2 := (nI_leI (by omega) (by omega)).mp c16
        refine lv_lload_n hx hb d_Mo_keep_21 rfl (lv_at hl 2 rfl) ?_
        refine lv_ldc2 hx hb hown (hts _ kl_Mo_68) d_Mo_keep_22 ?_
        refine lv_land hx hb d_Mo_keep_25 ?_
        refine lv_l2i (v := (bits &&& 3).toInt32) hx hb d_Mo_keep_26 rfl ?_
        have hb4 : qb_n bits % 4 < 4 := Nat.mod_lt _ (by decide)
        refine q_ti (y := nI (qb_n bits % 4)) (qm_and3 bits) ?_
        refine lv_istore (lv' := [(4, .int (nI (qb_n bits % 4))), (0, .ref mo), (1, .int (nI 0)), (2, .long (bits))]) hx hb d_Mo_keep_27 hl (by decide) rfl (fun ls hl => ?_)
        refine lv_iload_n hx hb d_Mo_keep_29 rfl (lv_at hl 2 rfl) ?_
        refine lv_if_eq (tgt := 50) hx hb d_Mo_keep_30 (by decide) (fun c30 => ?_) (fun c30 => ?_)
        · have c30 : 0 = 0 := (q_z_eq (by omega)).mp c30
          refine lv_aload_n hx hb d_Mo_keep_50 rfl (lv_at hl 1 rfl) ?_
          refine lv_iconst (v := nI 0) hx hb d_Mo_keep_51 (by decide) ?_
          refine lv_iconst (v := nI 1) hx hb d_Mo_keep_52 (by decide) ?_
          refine q_callVv (As := [.int (nI 0), .int (nI 1)]) (rest := []) (wsC := [(mo, .inr (5, [.ref r1, .ref r2, .ref r3, .ref r4, .ref r5, .ref r6, .int (md), .int (ck), .int (nI 0)])), (r1, .inl (cZ, 32, .inl (qm_T th))), (r2, .inl (cI, 4096, .inl (qm_P pl))), (r3, .inl (cI, 4096, .inl (mk))), (r4, .inl (cI, 64, .inl (nt))), (r5, .inl (cB, 76800, .inl (bt))), (r6, .inl (cZ, 600, .inl (qm_T us)))]) (wsR := []) (wsC' := [(mo, .inr (5, [.ref r1, .ref r2, .ref r3, .ref r4, .ref r5, .ref r6, .int (md), .int (ck), .int (nI 0)])), (r1, .inl (cZ, 32, .inl (qm_T (qm_cT th 16 0 (16))))), (r2, .inl (cI, 4096, .inl (qm_P (qm_cPU pl (2048))))), (r3, .inl (cI, 4096, .inl (qm_cI mk 2048 0 (2048)))), (r4, .inl (cI, 64, .inl (qm_cI nt 32 0 (32)))), (r5, .inl (cB, 76800, .inl (qm_cB bt 38400 0 (38400)))), (r6, .inl (cZ, 600, .inl (qm_T (qm_cT us 300 0 (300)))))]) (wsN := [(mo, .inr (5, [.ref r1, .ref r2, .ref r3, .ref r4, .ref r5, .ref r6, .int (md), .int (ck), .int (nI 0)])), (r1, .inl (cZ, 32, .inl (qm_T (qm_cT th 16 0 (16))))), (r2, .inl (cI, 4096, .inl (qm_P (qm_cPU pl (2048))))), (r3, .inl (cI, 4096, .inl (qm_cI mk 2048 0 (2048)))), (r4, .inl (cI, 64, .inl (qm_cI nt 32 0 (32)))), (r5, .inl (cB, 76800, .inl (qm_cB bt 38400 0 (38400)))), (r6, .inl (cZ, 600, .inl (qm_T (qm_cT us 300 0 (300)))))]) (isT := [0, 1, 2]) (isC := [0, 1, 2, 3, 4, 5, 6]) (isR := []) (isN := [0, 1, 2, 3, 4, 5, 6]) (k := 2) (ci := 5) (C := R_Mo) ⟨hx, hb, hml, hown, hts⟩ (c_Mo_copyU l D cZ cI cB mo r1 r2 r3 r4 r5 r6 th pl mk nt bt us md ck 0 kpl) (tw_V ml_Mo_70 im_Mo_copy se_Mo_copy in_Mo cd_Mo_copy) rfl ⟨by decide +kernel, Nat.le_of_ble_eq_true rfl, Nat.le_of_ble_eq_true rfl⟩ ⟨Nat.le_of_ble_eq_true rfl, Nat.le_of_ble_eq_true rfl⟩ hK hP hD hS hA hN rfl ⟨rfl, rfl, rfl, by decide, by decide, by decide, by decide⟩ rfl rfl rfl hl.1 rfl rfl (Nat.le_of_ble_eq_true rfl) d_Mo_keep_53 (fun H locs hP hD hS => ?_)
          refine lv_aload_n hx hb d_Mo_keep_56 rfl (lv_at hl 1 rfl) ?_
          refine lv_dup hx hb d_Mo_keep_57 rfl ?_
          refine va_get (D := D) (ci := 5) (v := .int (ck)) (C := R_Mo) (T := F_Mo) (N := 9) hx hb hts i_Mo hown hK hP 0 rfl rfl 7 (by decide) (hts _ fl_Mo_34) (fun _ h9 => h9) rfl d_Mo_keep_58 ?_
          refine lv_iconst (v := nI 1) hx hb d_Mo_keep_61 (by decide) ?_
          refine lv_iadd hx hb d_Mo_keep_62 ?_
          refine va_put (D := D) (ci := 5) (v := .int (ck + (nI 1))) (ty := .int) (C := R_Mo) (T := F_Mo) (N := 9) hx hb hts i_Mo t_Mo t_Mo_ok n_Mo hown hK hP hD hS 0 rfl rfl 7 (by decide) (hts _ fl_Mo_34) (fun _ h9 => h9) rfl (by decide +kernel) rfl rfl (Nat.le_of_ble_eq_true rfl) d_Mo_keep_63 (fun H locs hP hD hS => ?_)
          have hP : va_P D cls [(mo, .inr (5, [.ref r1, .ref r2, .ref r3, .ref r4, .ref r5, .ref r6, .int (md), .int (ck + (nI 1)), .int (nI 0)])), (r1, .inl (cZ, 32, .inl (qm_T (qm_cT th 16 0 (16))))), (r2, .inl (cI, 4096, .inl (qm_P (qm_cPU pl (2048))))), (r3, .inl (cI, 4096, .inl (qm_cI mk 2048 0 (2048)))), (r4, .inl (cI, 64, .inl (qm_cI nt 32 0 (32)))), (r5, .inl (cB, 76800, .inl (qm_cB bt 38400 0 (38400)))), (r6, .inl (cZ, 600, .inl (qm_T (qm_cT us 300 0 (300)))))] H := hP
          have hD : va_D A [(mo, .inr (5, [.ref r1, .ref r2, .ref r3, .ref r4, .ref r5, .ref r6, .int (md), .int (ck + (nI 1)), .int (nI 0)])), (r1, .inl (cZ, 32, .inl (qm_T (qm_cT th 16 0 (16))))), (r2, .inl (cI, 4096, .inl (qm_P (qm_cPU pl (2048))))), (r3, .inl (cI, 4096, .inl (qm_cI mk 2048 0 (2048)))), (r4, .inl (cI, 64, .inl (qm_cI nt 32 0 (32)))), (r5, .inl (cB, 76800, .inl (qm_cB bt 38400 0 (38400)))), (r6, .inl (cZ, 600, .inl (qm_T (qm_cT us 300 0 (300)))))] := hD
          refine lv_aload_n hx hb d_Mo_keep_66 rfl (lv_at hl 1 rfl) ?_
          refine lv_iload_n hx hb d_Mo_keep_67 rfl (lv_at hl 2 rfl) ?_
          refine lv_if_le (tgt := 75) hx hb d_Mo_keep_68 (by decide) (fun c68 => ?_) (fun c68 => ?_)
          · have c68 : 0 ≤ 0 := (q_z_le (by omega)).mp c68
            refine lv_iconst (v := nI 0) hx hb d_Mo_keep_75 (by decide) ?_
            refine va_put (D := D) (ci := 5) (v := .int (nI 0)) (ty := .boolean) (C := R_Mo) (T := F_Mo) (N := 9) hx hb hts i_Mo t_Mo t_Mo_ok n_Mo hown hK hP hD hS 0 rfl rfl 8 (by decide) (hts _ fl_Mo_38) (fun _ h9 => h9) rfl (by decide +kernel) rfl rfl (Nat.le_of_ble_eq_true rfl) d_Mo_keep_76 (fun H locs hP hD hS => ?_)
            have hP : va_P D cls [(mo, .inr (5, [.ref r1, .ref r2, .ref r3, .ref r4, .ref r5, .ref r6, .int (md), .int (ck + (nI 1)), .int (nI 0)])), (r1, .inl (cZ, 32, .inl (qm_T (qm_cT th 16 0 (16))))), (r2, .inl (cI, 4096, .inl (qm_P (qm_cPU pl (2048))))), (r3, .inl (cI, 4096, .inl (qm_cI mk 2048 0 (2048)))), (r4, .inl (cI, 64, .inl (qm_cI nt 32 0 (32)))), (r5, .inl (cB, 76800, .inl (qm_cB bt 38400 0 (38400)))), (r6, .inl (cZ, 600, .inl (qm_T (qm_cT us 300 0 (300)))))] H := hP
            have hD : va_D A [(mo, .inr (5, [.ref r1, .ref r2, .ref r3, .ref r4, .ref r5, .ref r6, .int (md), .int (ck + (nI 1)), .int (nI 0)])), (r1, .inl (cZ, 32, .inl (qm_T (qm_cT th 16 0 (16))))), (r2, .inl (cI, 4096, .inl (qm_P (qm_cPU pl (2048))))), (r3, .inl (cI, 4096, .inl (qm_cI mk 2048 0 (2048)))), (r4, .inl (cI, 64, .inl (qm_cI nt 32 0 (32)))), (r5, .inl (cB, 76800, .inl (qm_cB bt 38400 0 (38400)))), (r6, .inl (cZ, 600, .inl (qm_T (qm_cT us 300 0 (300)))))] := hD
            refine lv_aload_n hx hb d_Mo_keep_79 rfl (lv_at hl 1 rfl) ?_
            refine va_get (D := D) (ci := 5) (v := .int (nI 0)) (C := R_Mo) (T := F_Mo) (N := 9) hx hb hts i_Mo hown hK hP 0 rfl rfl 8 (by decide) (hts _ fl_Mo_38) (fun _ h9 => h9) rfl d_Mo_keep_80 ?_
            refine lv_if_eq (tgt := 91) hx hb d_Mo_keep_83 (by decide) (fun c83 => ?_) (fun c83 => ?_)
            · have c83 : 0 = 0 := (q_z_eq (by omega)).mp c83
              refine lv_aload_n hx hb d_Mo_keep_91 rfl (lv_at hl 1 rfl) ?_
              refine q_callVi (As := []) (rest := []) (wsC := [(mo, .inr (5, [.ref r1, .ref r2, .ref r3, .ref r4, .ref r5, .ref r6, .int (md), .int (ck + (nI 1)), .int (nI 0)])), (r1, .inl (cZ, 32, .inl (qm_T (qm_cT th 16 0 (16))))), (r2, .inl (cI, 4096, .inl (qm_P (qm_cPU pl (2048))))), (r3, .inl (cI, 4096, .inl (qm_cI mk 2048 0 (2048)))), (r4, .inl (cI, 64, .inl (qm_cI nt 32 0 (32)))), (r5, .inl (cB, 76800, .inl (qm_cB bt 38400 0 (38400)))), (r6, .inl (cZ, 600, .inl (qm_T (qm_cT us 300 0 (300)))))]) (wsR := []) (wsC' := [(mo, .inr (5, [.ref r1, .ref r2, .ref r3, .ref r4, .ref r5, .ref r6, .int (md), .int ((ck + (nI 1))), .int (nI 0)])), (r1, .inl (cZ, 32, .inl (qm_T (qm_cT th 16 0 (16))))), (r2, .inl (cI, 4096, .inl (qm_P (qm_cPU pl (2048))))), (r3, .inl (cI, 4096, .inl ((qm_cI mk 2048 0 (2048))))), (r4, .inl (cI, 64, .inl ((qm_cI nt 32 0 (32))))), (r5, .inl (cB, 76800, .inl ((qm_cB bt 38400 0 (38400))))), (r6, .inl (cZ, 600, .inl (qm_T (qm_cT us 300 0 (300)))))]) (wsN := [(mo, .inr (5, [.ref r1, .ref r2, .ref r3, .ref r4, .ref r5, .ref r6, .int (md), .int ((ck + (nI 1))), .int (nI 0)])), (r1, .inl (cZ, 32, .inl (qm_T (qm_cT th 16 0 (16))))), (r2, .inl (cI, 4096, .inl (qm_P (qm_cPU pl (2048))))), (r3, .inl (cI, 4096, .inl ((qm_cI mk 2048 0 (2048))))), (r4, .inl (cI, 64, .inl ((qm_cI nt 32 0 (32))))), (r5, .inl (cB, 76800, .inl ((qm_cB bt 38400 0 (38400))))), (r6, .inl (cZ, 600, .inl (qm_T (qm_cT us 300 0 (300)))))]) (isT := [0, 1, 2]) (isC := [0, 1, 2, 3, 4, 5, 6]) (isR := []) (isN := [0, 1, 2, 3, 4, 5, 6]) (k := 0) (ci := 5) (C := R_Mo) ⟨hx, hb, hml, hown, hts⟩ (c_Mo_all l D cZ cI cB mo r1 r2 r3 r4 r5 r6 (qm_cT th 16 0 (16)) (qm_cPU pl (2048)) (qm_cI mk 2048 0 (2048)) (qm_cI nt 32 0 (32)) (qm_cB bt 38400 0 (38400)) (qm_cT us 300 0 (300)) md (ck + (nI 1)) kpn) (tw_V ml_Mo_50 im_Mo_all se_Mo_all in_Mo cd_Mo_all) rfl ⟨by decide +kernel, Nat.le_of_ble_eq_true rfl, Nat.le_of_ble_eq_true rfl⟩ ⟨Nat.le_of_ble_eq_true rfl, Nat.le_of_ble_eq_true rfl⟩ hK hP hD hS hA hN rfl ⟨rfl, rfl, rfl, by decide, by decide, by decide, by decide⟩ rfl rfl rfl hl.1 rfl rfl (Nat.le_of_ble_eq_true rfl) d_Mo_keep_92 (fun H locs hP hD hS => ?_)
              have hq1 := qm_all_le (qm_cPU pl (2048)) 16
              exact q_iret hx hb hr hlk hK hP hD hS d_Mo_keep_95 (rfl) (rfl)
            · have c83 : ¬ 0 = 0 := fun h9 => c83 ((q_z_eq (by omega)).mpr h9)
              exfalso; omega
          · have c68 : ¬ 0 ≤ 0 := fun h9 => c68 ((q_z_le (by omega)).mpr h9)
            exfalso; omega
        · have c30 : ¬ 0 = 0 := fun h9 => c30 ((q_z_eq (by omega)).mpr h9)
          exfalso; omega
      · have c16 : ¬ 0 ≤ 2 := fun h9 => c16 ((nI_leI (by omega) (by omega)).mpr h9)
        exfalso; omega
  · have c4 : ¬ 0 = 0 := fun h9 => c4 ((q_z_eq (by omega)).mpr h9)
    exfalso; omega
set_option maxHeartbeats 4000000 in
set_option maxRecDepth 100000 in
theorem c_Mo_keep1 (l : Launch) (D : va_G) (cZ : ClassId) (cI : ClassId) (cB : ClassId) (mo : Nat) (r1 : Nat) (r2 : Nat) (r3 : Nat) (r4 : Nat) (r5 : Nat) (r6 : Nat) (th : Nat → Bool) (pl : Nat → Nat) (mk : Nat → Int32) (nt : Nat → Int32) (bt : Nat → Int32) (us : Nat → Bool) (md : Int32) (ck : Int32) (bits : Int64) : qMi l y_Mo_keep b_Mo_keep 5 (some .int) (rmL 3) D [(cZ, .boolean), (cI, .int), (cB, .byte)] [.ref mo, .int (nI 1), .long (bits)] [(mo, .inr (5, [.ref r1, .ref r2, .ref r3, .ref r4, .ref r5, .ref r6, .int (md), .int (ck), .int (nI 0)])), (r1, .inl (cZ, 32, .inl (qm_T th))), (r2, .inl (cI, 4096, .inl (qm_P pl))), (r3, .inl (cI, 4096, .inl (mk))), (r4, .inl (cI, 64, .inl (nt))), (r5, .inl (cB, 76800, .inl (bt))), (r6, .inl (cZ, 600, .inl (qm_T us)))] [(mo, .inr (5, [.ref r1, .ref r2, .ref r3, .ref r4, .ref r5, .ref r6, .int (md), .int (ck), .int (nI 1)])), (r1, .inl (cZ, 32, .inl (qm_T th))), (r2, .inl (cI, 4096, .inl (qm_P pl))), (r3, .inl (cI, 4096, .inl (mk))), (r4, .inl (cI, 64, .inl (nt))), (r5, .inl (cB, 76800, .inl (bt))), (r6, .inl (cZ, 600, .inl (qm_T us)))] ((-2 : Int32)) := by
  refine q_start (Qc := qZi D _ _ _) (by decide +kernel) (Nat.le_of_ble_eq_true rfl) ?_
  intro p e s m below meth c A hx hb hr hlk hml hown hts hK hP hD hS hA hN ls hl
  have hl : lv_has ls 5 [(0, .ref mo), (1, .int (nI 1)), (2, .long (bits))] := hl
  have hP : va_P D cls [(mo, .inr (5, [.ref r1, .ref r2, .ref r3, .ref r4, .ref r5, .ref r6, .int (md), .int (ck), .int (nI 0)])), (r1, .inl (cZ, 32, .inl (qm_T th))), (r2, .inl (cI, 4096, .inl (qm_P pl))), (r3, .inl (cI, 4096, .inl (mk))), (r4, .inl (cI, 64, .inl (nt))), (r5, .inl (cB, 76800, .inl (bt))), (r6, .inl (cZ, 600, .inl (qm_T us)))] s.heap := hP
  have hD : va_D A [(mo, .inr (5, [.ref r1, .ref r2, .ref r3, .ref r4, .ref r5, .ref r6, .int (md), .int (ck), .int (nI 0)])), (r1, .inl (cZ, 32, .inl (qm_T th))), (r2, .inl (cI, 4096, .inl (qm_P pl))), (r3, .inl (cI, 4096, .inl (mk))), (r4, .inl (cI, 64, .inl (nt))), (r5, .inl (cB, 76800, .inl (bt))), (r6, .inl (cZ, 600, .inl (qm_T us)))] := hD
  refine lv_aload_n hx hb d_Mo_keep_0 rfl (lv_at hl 0 rfl) ?_
  refine va_get (D := D) (ci := 5) (v := .int (nI 0)) (C := R_Mo) (T := F_Mo) (N := 9) hx hb hts i_Mo hown hK hP 0 rfl rfl 8 (by decide) (hts _ fl_Mo_38) (fun _ h9 => h9) rfl d_Mo_keep_1 ?_
  refine lv_if_eq (tgt := 10) hx hb d_Mo_keep_4 (by decide) (fun c4 => ?_) (fun c4 => ?_)
  · have c4 : 0 = 0 := (q_z_eq (by omega)).mp c4
    refine lv_iload_n hx hb d_Mo_keep_10 rfl (lv_at hl 1 rfl) ?_
    refine lv_if_lt (tgt := 19) hx hb d_Mo_keep_11 (by decide) (fun c11 => ?_) (fun c11 => ?_)
    · have c11 : 1 < 0 := (q_z_lt (by omega)).mp c11
      exfalso; omega
    · have c11 : ¬ 1 < 0 := fun h9 => c11 ((q_z_lt (by omega)).mpr h9)
      refine lv_iload_n hx hb d_Mo_keep_14 rfl (lv_at hl 1 rfl) ?_
      refine lv_iconst (v := nI 2) hx hb d_Mo_keep_15 (by decide) ?_
      refine lv_icmp_le (tgt := 21) hx hb d_Mo_keep_16 (by decide) (fun c16 => ?_) (fun c16 => ?_)
      · have c16 : 1 ≤ 2 := (nI_leI (by omega) (by omega)).mp c16
        refine lv_lload_n hx hb d_Mo_keep_21 rfl (lv_at hl 2 rfl) ?_
        refine lv_ldc2 hx hb hown (hts _ kl_Mo_68) d_Mo_keep_22 ?_
        refine lv_land hx hb d_Mo_keep_25 ?_
        refine lv_l2i (v := (bits &&& 3).toInt32) hx hb d_Mo_keep_26 rfl ?_
        have hb4 : qb_n bits % 4 < 4 := Nat.mod_lt _ (by decide)
        refine q_ti (y := nI (qb_n bits % 4)) (qm_and3 bits) ?_
        refine lv_istore (lv' := [(4, .int (nI (qb_n bits % 4))), (0, .ref mo), (1, .int (nI 1)), (2, .long (bits))]) hx hb d_Mo_keep_27 hl (by decide) rfl (fun ls hl => ?_)
        refine lv_iload_n hx hb d_Mo_keep_29 rfl (lv_at hl 2 rfl) ?_
        refine lv_if_eq (tgt := 50) hx hb d_Mo_keep_30 (by decide) (fun c30 => ?_) (fun c30 => ?_)
        · have c30 : 1 = 0 := (q_z_eq (by omega)).mp c30
          exfalso; omega
        · have c30 : ¬ 1 = 0 := fun h9 => c30 ((q_z_eq (by omega)).mpr h9)
          refine lv_iload_n hx hb d_Mo_keep_33 rfl (lv_at hl 2 rfl) ?_
          refine lv_iconst (v := nI 2) hx hb d_Mo_keep_34 (by decide) ?_
          refine lv_icmp_ne (tgt := 66) hx hb d_Mo_keep_35 (by decide) (fun c35 => ?_) (fun c35 => ?_)
          · have c35 : ¬ 1 = 2 := fun h9 => c35 ((nI_eq (by omega) (by omega)).mpr h9)
            refine lv_aload_n hx hb d_Mo_keep_66 rfl (lv_at hl 1 rfl) ?_
            refine lv_iload_n hx hb d_Mo_keep_67 rfl (lv_at hl 2 rfl) ?_
            refine lv_if_le (tgt := 75) hx hb d_Mo_keep_68 (by decide) (fun c68 => ?_) (fun c68 => ?_)
            · have c68 : 1 ≤ 0 := (q_z_le (by omega)).mp c68
              exfalso; omega
            · have c68 : ¬ 1 ≤ 0 := fun h9 => c68 ((q_z_le (by omega)).mpr h9)
              refine lv_iconst (v := nI 1) hx hb d_Mo_keep_71 (by decide) ?_
              refine lv_goto (tgt := 76) hx hb d_Mo_keep_72 (by decide) ?_
              refine va_put (D := D) (ci := 5) (v := .int (nI 1)) (ty := .boolean) (C := R_Mo) (T := F_Mo) (N := 9) hx hb hts i_Mo t_Mo t_Mo_ok n_Mo hown hK hP hD hS 0 rfl rfl 8 (by decide) (hts _ fl_Mo_38) (fun _ h9 => h9) rfl (by decide +kernel) rfl rfl (Nat.le_of_ble_eq_true rfl) d_Mo_keep_76 (fun H locs hP hD hS => ?_)
              have hP : va_P D cls [(mo, .inr (5, [.ref r1, .ref r2, .ref r3, .ref r4, .ref r5, .ref r6, .int (md), .int (ck), .int (nI 1)])), (r1, .inl (cZ, 32, .inl (qm_T th))), (r2, .inl (cI, 4096, .inl (qm_P pl))), (r3, .inl (cI, 4096, .inl (mk))), (r4, .inl (cI, 64, .inl (nt))), (r5, .inl (cB, 76800, .inl (bt))), (r6, .inl (cZ, 600, .inl (qm_T us)))] H := hP
              have hD : va_D A [(mo, .inr (5, [.ref r1, .ref r2, .ref r3, .ref r4, .ref r5, .ref r6, .int (md), .int (ck), .int (nI 1)])), (r1, .inl (cZ, 32, .inl (qm_T th))), (r2, .inl (cI, 4096, .inl (qm_P pl))), (r3, .inl (cI, 4096, .inl (mk))), (r4, .inl (cI, 64, .inl (nt))), (r5, .inl (cB, 76800, .inl (bt))), (r6, .inl (cZ, 600, .inl (qm_T us)))] := hD
              refine lv_aload_n hx hb d_Mo_keep_79 rfl (lv_at hl 1 rfl) ?_
              refine va_get (D := D) (ci := 5) (v := .int (nI 1)) (C := R_Mo) (T := F_Mo) (N := 9) hx hb hts i_Mo hown hK hP 0 rfl rfl 8 (by decide) (hts _ fl_Mo_38) (fun _ h9 => h9) rfl d_Mo_keep_80 ?_
              refine lv_if_eq (tgt := 91) hx hb d_Mo_keep_83 (by decide) (fun c83 => ?_) (fun c83 => ?_)
              · have c83 : 1 = 0 := (q_z_eq (by omega)).mp c83
                exfalso; omega
              · have c83 : ¬ 1 = 0 := fun h9 => c83 ((q_z_eq (by omega)).mpr h9)
                refine lv_bipush (v := (-2 : Int32)) hx hb d_Mo_keep_86 (by decide) ?_
                refine lv_goto (tgt := 95) hx hb d_Mo_keep_88 (by decide) ?_
                exact q_iret hx hb hr hlk hK hP hD hS d_Mo_keep_95 (rfl) (rfl)
          · have c35 : 1 = 2 := (nI_eq (by omega) (by omega)).mp c35
            exfalso; omega
      · have c16 : ¬ 1 ≤ 2 := fun h9 => c16 ((nI_leI (by omega) (by omega)).mpr h9)
        exfalso; omega
  · have c4 : ¬ 0 = 0 := fun h9 => c4 ((q_z_eq (by omega)).mpr h9)
    exfalso; omega
set_option maxHeartbeats 4000000 in
set_option maxRecDepth 100000 in
theorem c_Mo_keep2y (l : Launch) (D : va_G) (cZ : ClassId) (cI : ClassId) (cB : ClassId) (mo : Nat) (r1 : Nat) (r2 : Nat) (r3 : Nat) (r4 : Nat) (r5 : Nat) (r6 : Nat) (th : Nat → Bool) (pl : Nat → Nat) (mk : Nat → Int32) (nt : Nat → Int32) (bt : Nat → Int32) (us : Nat → Bool) (md : Int32) (ck : Int32) (bits : Int64) (kpl : ∀ k, k < 2048 → pl k ≤ 300) (kh : qb_n bits % 4 = 1 ∨ qb_n bits % 4 = 2) : qMi l y_Mo_keep b_Mo_keep 5 (some .int) (rmL 3) D [(cZ, .boolean), (cI, .int), (cB, .byte)] [.ref mo, .int (nI 2), .long (bits)] [(mo, .inr (5, [.ref r1, .ref r2, .ref r3, .ref r4, .ref r5, .ref r6, .int (md), .int (ck), .int (nI 0)])), (r1, .inl (cZ, 32, .inl (qm_T th))), (r2, .inl (cI, 4096, .inl (qm_P pl))), (r3, .inl (cI, 4096, .inl (mk))), (r4, .inl (cI, 64, .inl (nt))), (r5, .inl (cB, 76800, .inl (bt))), (r6, .inl (cZ, 600, .inl (qm_T us)))] [(mo, .inr (5, [.ref r1, .ref r2, .ref r3, .ref r4, .ref r5, .ref r6, .int (md), .int (ck + nI 1), .int (nI 1)])), (r1, .inl (cZ, 32, .inl (qm_T (qm_cT th 16 0 (16))))), (r2, .inl (cI, 4096, .inl (qm_P (qm_cPU pl (2048))))), (r3, .inl (cI, 4096, .inl (qm_cI mk 2048 0 (2048)))), (r4, .inl (cI, 64, .inl (qm_cI nt 32 0 (32)))), (r5, .inl (cB, 76800, .inl (qm_cB bt 38400 0 (38400)))), (r6, .inl (cZ, 600, .inl (qm_T (qm_cT us 300 0 (300)))))] ((-2 : Int32)) := by
  refine q_start (Qc := qZi D _ _ _) (by decide +kernel) (Nat.le_of_ble_eq_true rfl) ?_
  intro p e s m below meth c A hx hb hr hlk hml hown hts hK hP hD hS hA hN ls hl
  have hl : lv_has ls 5 [(0, .ref mo), (1, .int (nI 2)), (2, .long (bits))] := hl
  have hP : va_P D cls [(mo, .inr (5, [.ref r1, .ref r2, .ref r3, .ref r4, .ref r5, .ref r6, .int (md), .int (ck), .int (nI 0)])), (r1, .inl (cZ, 32, .inl (qm_T th))), (r2, .inl (cI, 4096, .inl (qm_P pl))), (r3, .inl (cI, 4096, .inl (mk))), (r4, .inl (cI, 64, .inl (nt))), (r5, .inl (cB, 76800, .inl (bt))), (r6, .inl (cZ, 600, .inl (qm_T us)))] s.heap := hP
  have hD : va_D A [(mo, .inr (5, [.ref r1, .ref r2, .ref r3, .ref r4, .ref r5, .ref r6, .int (md), .int (ck), .int (nI 0)])), (r1, .inl (cZ, 32, .inl (qm_T th))), (r2, .inl (cI, 4096, .inl (qm_P pl))), (r3, .inl (cI, 4096, .inl (mk))), (r4, .inl (cI, 64, .inl (nt))), (r5, .inl (cB, 76800, .inl (bt))), (r6, .inl (cZ, 600, .inl (qm_T us)))] := hD
  refine lv_aload_n hx hb d_Mo_keep_0 rfl (lv_at hl 0 rfl) ?_
  refine va_get (D := D) (ci := 5) (v := .int (nI 0)) (C := R_Mo) (T := F_Mo) (N := 9) hx hb hts i_Mo hown hK hP 0 rfl rfl 8 (by decide) (hts _ fl_Mo_38) (fun _ h9 => h9) rfl d_Mo_keep_1 ?_
  refine lv_if_eq (tgt := 10) hx hb d_Mo_keep_4 (by decide) (fun c4 => ?_) (fun c4 => ?_)
  · have c4 : 0 = 0 := (q_z_eq (by omega)).mp c4
    refine lv_iload_n hx hb d_Mo_keep_10 rfl (lv_at hl 1 rfl) ?_
    refine lv_if_lt (tgt := 19) hx hb d_Mo_keep_11 (by decide) (fun c11 => ?_) (fun c11 => ?_)
    · have c11 : 2 < 0 := (q_z_lt (by omega)).mp c11
      exfalso; omega
    · have c11 : ¬ 2 < 0 := fun h9 => c11 ((q_z_lt (by omega)).mpr h9)
      refine lv_iload_n hx hb d_Mo_keep_14 rfl (lv_at hl 1 rfl) ?_
      refine lv_iconst (v := nI 2) hx hb d_Mo_keep_15 (by decide) ?_
      refine lv_icmp_le (tgt := 21) hx hb d_Mo_keep_16 (by decide) (fun c16 => ?_) (fun c16 => ?_)
      · have c16 : 2 ≤ 2 := (nI_leI (by omega) (by omega)).mp c16
        refine lv_lload_n hx hb d_Mo_keep_21 rfl (lv_at hl 2 rfl) ?_
        refine lv_ldc2 hx hb hown (hts _ kl_Mo_68) d_Mo_keep_22 ?_
        refine lv_land hx hb d_Mo_keep_25 ?_
        refine lv_l2i (v := (bits &&& 3).toInt32) hx hb d_Mo_keep_26 rfl ?_
        have hb4 : qb_n bits % 4 < 4 := Nat.mod_lt _ (by decide)
        refine q_ti (y := nI (qb_n bits % 4)) (qm_and3 bits) ?_
        refine lv_istore (lv' := [(4, .int (nI (qb_n bits % 4))), (0, .ref mo), (1, .int (nI 2)), (2, .long (bits))]) hx hb d_Mo_keep_27 hl (by decide) rfl (fun ls hl => ?_)
        refine lv_iload_n hx hb d_Mo_keep_29 rfl (lv_at hl 2 rfl) ?_
        refine lv_if_eq (tgt := 50) hx hb d_Mo_keep_30 (by decide) (fun c30 => ?_) (fun c30 => ?_)
        · have c30 : 2 = 0 := (q_z_eq (by omega)).mp c30
          exfalso; omega
        · have c30 : ¬ 2 = 0 := fun h9 => c30 ((q_z_eq (by omega)).mpr h9)
          refine lv_iload_n hx hb d_Mo_keep_33 rfl (lv_at hl 2 rfl) ?_
          refine lv_iconst (v := nI 2) hx hb d_Mo_keep_34 (by decide) ?_
          refine lv_icmp_ne (tgt := 66) hx hb d_Mo_keep_35 (by decide) (fun c35 => ?_) (fun c35 => ?_)
          · have c35 : ¬ 2 = 2 := fun h9 => c35 ((nI_eq (by omega) (by omega)).mpr h9)
            exfalso; omega
          · have c35 : 2 = 2 := (nI_eq (by omega) (by omega)).mp c35
            refine lv_iload hx hb d_Mo_keep_38 (lv_at hl 0 rfl) ?_
            refine lv_iconst (v := nI 1) hx hb d_Mo_keep_40 (by decide) ?_
            refine lv_icmp_eq (tgt := 50) hx hb d_Mo_keep_41 (by decide) (fun c41 => ?_) (fun c41 => ?_)
            · have c41 : (qb_n bits % 4) = 1 := (nI_eq (by omega) (by omega)).mp c41
              refine lv_aload_n hx hb d_Mo_keep_50 rfl (lv_at hl 1 rfl) ?_
              refine lv_iconst (v := nI 0) hx hb d_Mo_keep_51 (by decide) ?_
              refine lv_iconst (v := nI 1) hx hb d_Mo_keep_52 (by decide) ?_
              refine q_callVv (As := [.int (nI 0), .int (nI 1)]) (rest := []) (wsC := [(mo, .inr (5, [.ref r1, .ref r2, .ref r3, .ref r4, .ref r5, .ref r6, .int (md), .int (ck), .int (nI 0)])), (r1, .inl (cZ, 32, .inl (qm_T th))), (r2, .inl (cI, 4096, .inl (qm_P pl))), (r3, .inl (cI, 4096, .inl (mk))), (r4, .inl (cI, 64, .inl (nt))), (r5, .inl (cB, 76800, .inl (bt))), (r6, .inl (cZ, 600, .inl (qm_T us)))]) (wsR := []) (wsC' := [(mo, .inr (5, [.ref r1, .ref r2, .ref r3, .ref r4, .ref r5, .ref r6, .int (md), .int (ck), .int (nI 0)])), (r1, .inl (cZ, 32, .inl (qm_T (qm_cT th 16 0 (16))))), (r2, .inl (cI, 4096, .inl (qm_P (qm_cPU pl (2048))))), (r3, .inl (cI, 4096, .inl (qm_cI mk 2048 0 (2048)))), (r4, .inl (cI, 64, .inl (qm_cI nt 32 0 (32)))), (r5, .inl (cB, 76800, .inl (qm_cB bt 38400 0 (38400)))), (r6, .inl (cZ, 600, .inl (qm_T (qm_cT us 300 0 (300)))))]) (wsN := [(mo, .inr (5, [.ref r1, .ref r2, .ref r3, .ref r4, .ref r5, .ref r6, .int (md), .int (ck), .int (nI 0)])), (r1, .inl (cZ, 32, .inl (qm_T (qm_cT th 16 0 (16))))), (r2, .inl (cI, 4096, .inl (qm_P (qm_cPU pl (2048))))), (r3, .inl (cI, 4096, .inl (qm_cI mk 2048 0 (2048)))), (r4, .inl (cI, 64, .inl (qm_cI nt 32 0 (32)))), (r5, .inl (cB, 76800, .inl (qm_cB bt 38400 0 (38400)))), (r6, .inl (cZ, 600, .inl (qm_T (qm_cT us 300 0 (300)))))]) (isT := [0, 1, 2]) (isC := [0, 1, 2, 3, 4, 5, 6]) (isR := []) (isN := [0, 1, 2, 3, 4, 5, 6]) (k := 2) (ci := 5) (C := R_Mo) ⟨hx, hb, hml, hown, hts⟩ (c_Mo_copyU l D cZ cI cB mo r1 r2 r3 r4 r5 r6 th pl mk nt bt us md ck 0 kpl) (tw_V ml_Mo_70 im_Mo_copy se_Mo_copy in_Mo cd_Mo_copy) rfl ⟨by decide +kernel, Nat.le_of_ble_eq_true rfl, Nat.le_of_ble_eq_true rfl⟩ ⟨Nat.le_of_ble_eq_true rfl, Nat.le_of_ble_eq_true rfl⟩ hK hP hD hS hA hN rfl ⟨rfl, rfl, rfl, by decide, by decide, by decide, by decide⟩ rfl rfl rfl hl.1 rfl rfl (Nat.le_of_ble_eq_true rfl) d_Mo_keep_53 (fun H locs hP hD hS => ?_)
              refine lv_aload_n hx hb d_Mo_keep_56 rfl (lv_at hl 1 rfl) ?_
              refine lv_dup hx hb d_Mo_keep_57 rfl ?_
              refine va_get (D := D) (ci := 5) (v := .int (ck)) (C := R_Mo) (T := F_Mo) (N := 9) hx hb hts i_Mo hown hK hP 0 rfl rfl 7 (by decide) (hts _ fl_Mo_34) (fun _ h9 => h9) rfl d_Mo_keep_58 ?_
              refine lv_iconst (v := nI 1) hx hb d_Mo_keep_61 (by decide) ?_
              refine lv_iadd hx hb d_Mo_keep_62 ?_
              refine va_put (D := D) (ci := 5) (v := .int (ck + (nI 1))) (ty := .int) (C := R_Mo) (T := F_Mo) (N := 9) hx hb hts i_Mo t_Mo t_Mo_ok n_Mo hown hK hP hD hS 0 rfl rfl 7 (by decide) (hts _ fl_Mo_34) (fun _ h9 => h9) rfl (by decide +kernel) rfl rfl (Nat.le_of_ble_eq_true rfl) d_Mo_keep_63 (fun H locs hP hD hS => ?_)
              have hP : va_P D cls [(mo, .inr (5, [.ref r1, .ref r2, .ref r3, .ref r4, .ref r5, .ref r6, .int (md), .int (ck + (nI 1)), .int (nI 0)])), (r1, .inl (cZ, 32, .inl (qm_T (qm_cT th 16 0 (16))))), (r2, .inl (cI, 4096, .inl (qm_P (qm_cPU pl (2048))))), (r3, .inl (cI, 4096, .inl (qm_cI mk 2048 0 (2048)))), (r4, .inl (cI, 64, .inl (qm_cI nt 32 0 (32)))), (r5, .inl (cB, 76800, .inl (qm_cB bt 38400 0 (38400)))), (r6, .inl (cZ, 600, .inl (qm_T (qm_cT us 300 0 (300)))))] H := hP
              have hD : va_D A [(mo, .inr (5, [.ref r1, .ref r2, .ref r3, .ref r4, .ref r5, .ref r6, .int (md), .int (ck + (nI 1)), .int (nI 0)])), (r1, .inl (cZ, 32, .inl (qm_T (qm_cT th 16 0 (16))))), (r2, .inl (cI, 4096, .inl (qm_P (qm_cPU pl (2048))))), (r3, .inl (cI, 4096, .inl (qm_cI mk 2048 0 (2048)))), (r4, .inl (cI, 64, .inl (qm_cI nt 32 0 (32)))), (r5, .inl (cB, 76800, .inl (qm_cB bt 38400 0 (38400)))), (r6, .inl (cZ, 600, .inl (qm_T (qm_cT us 300 0 (300)))))] := hD
              refine lv_aload_n hx hb d_Mo_keep_66 rfl (lv_at hl 1 rfl) ?_
              refine lv_iload_n hx hb d_Mo_keep_67 rfl (lv_at hl 2 rfl) ?_
              refine lv_if_le (tgt := 75) hx hb d_Mo_keep_68 (by decide) (fun c68 => ?_) (fun c68 => ?_)
              · have c68 : 2 ≤ 0 := (q_z_le (by omega)).mp c68
                exfalso; omega
              · have c68 : ¬ 2 ≤ 0 := fun h9 => c68 ((q_z_le (by omega)).mpr h9)
                refine lv_iconst (v := nI 1) hx hb d_Mo_keep_71 (by decide) ?_
                refine lv_goto (tgt := 76) hx hb d_Mo_keep_72 (by decide) ?_
                refine va_put (D := D) (ci := 5) (v := .int (nI 1)) (ty := .boolean) (C := R_Mo) (T := F_Mo) (N := 9) hx hb hts i_Mo t_Mo t_Mo_ok n_Mo hown hK hP hD hS 0 rfl rfl 8 (by decide) (hts _ fl_Mo_38) (fun _ h9 => h9) rfl (by decide +kernel) rfl rfl (Nat.le_of_ble_eq_true rfl) d_Mo_keep_76 (fun H locs hP hD hS => ?_)
                have hP : va_P D cls [(mo, .inr (5, [.ref r1, .ref r2, .ref r3, .ref r4, .ref r5, .ref r6, .int (md), .int (ck + (nI 1)), .int (nI 1)])), (r1, .inl (cZ, 32, .inl (qm_T (qm_cT th 16 0 (16))))), (r2, .inl (cI, 4096, .inl (qm_P (qm_cPU pl (2048))))), (r3, .inl (cI, 4096, .inl (qm_cI mk 2048 0 (2048)))), (r4, .inl (cI, 64, .inl (qm_cI nt 32 0 (32)))), (r5, .inl (cB, 76800, .inl (qm_cB bt 38400 0 (38400)))), (r6, .inl (cZ, 600, .inl (qm_T (qm_cT us 300 0 (300)))))] H := hP
                have hD : va_D A [(mo, .inr (5, [.ref r1, .ref r2, .ref r3, .ref r4, .ref r5, .ref r6, .int (md), .int (ck + (nI 1)), .int (nI 1)])), (r1, .inl (cZ, 32, .inl (qm_T (qm_cT th 16 0 (16))))), (r2, .inl (cI, 4096, .inl (qm_P (qm_cPU pl (2048))))), (r3, .inl (cI, 4096, .inl (qm_cI mk 2048 0 (2048)))), (r4, .inl (cI, 64, .inl (qm_cI nt 32 0 (32)))), (r5, .inl (cB, 76800, .inl (qm_cB bt 38400 0 (38400)))), (r6, .inl (cZ, 600, .inl (qm_T (qm_cT us 300 0 (300)))))] := hD
                refine lv_aload_n hx hb d_Mo_keep_79 rfl (lv_at hl 1 rfl) ?_
                refine va_get (D := D) (ci := 5) (v := .int (nI 1)) (C := R_Mo) (T := F_Mo) (N := 9) hx hb hts i_Mo hown hK hP 0 rfl rfl 8 (by decide) (hts _ fl_Mo_38) (fun _ h9 => h9) rfl d_Mo_keep_80 ?_
                refine lv_if_eq (tgt := 91) hx hb d_Mo_keep_83 (by decide) (fun c83 => ?_) (fun c83 => ?_)
                · have c83 : 1 = 0 := (q_z_eq (by omega)).mp c83
                  exfalso; omega
                · have c83 : ¬ 1 = 0 := fun h9 => c83 ((q_z_eq (by omega)).mpr h9)
                  refine lv_bipush (v := (-2 : Int32)) hx hb d_Mo_keep_86 (by decide) ?_
                  refine lv_goto (tgt := 95) hx hb d_Mo_keep_88 (by decide) ?_
                  exact q_iret hx hb hr hlk hK hP hD hS d_Mo_keep_95 (rfl) (rfl)
            · have c41 : ¬ (qb_n bits % 4) = 1 := fun h9 => c41 ((nI_eq (by omega) (by omega)).mpr h9)
              refine lv_iload hx hb d_Mo_keep_44 (lv_at hl 0 rfl) ?_
              refine lv_iconst (v := nI 2) hx hb d_Mo_keep_46 (by decide) ?_
              refine lv_icmp_ne (tgt := 66) hx hb d_Mo_keep_47 (by decide) (fun c47 => ?_) (fun c47 => ?_)
              · have c47 : ¬ (qb_n bits % 4) = 2 := fun h9 => c47 ((nI_eq (by omega) (by omega)).mpr h9)
                exfalso; omega
              · have c47 : (qb_n bits % 4) = 2 := (nI_eq (by omega) (by omega)).mp c47
                refine lv_aload_n hx hb d_Mo_keep_50 rfl (lv_at hl 1 rfl) ?_
                refine lv_iconst (v := nI 0) hx hb d_Mo_keep_51 (by decide) ?_
                refine lv_iconst (v := nI 1) hx hb d_Mo_keep_52 (by decide) ?_
                refine q_callVv (As := [.int (nI 0), .int (nI 1)]) (rest := []) (wsC := [(mo, .inr (5, [.ref r1, .ref r2, .ref r3, .ref r4, .ref r5, .ref r6, .int (md), .int (ck), .int (nI 0)])), (r1, .inl (cZ, 32, .inl (qm_T th))), (r2, .inl (cI, 4096, .inl (qm_P pl))), (r3, .inl (cI, 4096, .inl (mk))), (r4, .inl (cI, 64, .inl (nt))), (r5, .inl (cB, 76800, .inl (bt))), (r6, .inl (cZ, 600, .inl (qm_T us)))]) (wsR := []) (wsC' := [(mo, .inr (5, [.ref r1, .ref r2, .ref r3, .ref r4, .ref r5, .ref r6, .int (md), .int (ck), .int (nI 0)])), (r1, .inl (cZ, 32, .inl (qm_T (qm_cT th 16 0 (16))))), (r2, .inl (cI, 4096, .inl (qm_P (qm_cPU pl (2048))))), (r3, .inl (cI, 4096, .inl (qm_cI mk 2048 0 (2048)))), (r4, .inl (cI, 64, .inl (qm_cI nt 32 0 (32)))), (r5, .inl (cB, 76800, .inl (qm_cB bt 38400 0 (38400)))), (r6, .inl (cZ, 600, .inl (qm_T (qm_cT us 300 0 (300)))))]) (wsN := [(mo, .inr (5, [.ref r1, .ref r2, .ref r3, .ref r4, .ref r5, .ref r6, .int (md), .int (ck), .int (nI 0)])), (r1, .inl (cZ, 32, .inl (qm_T (qm_cT th 16 0 (16))))), (r2, .inl (cI, 4096, .inl (qm_P (qm_cPU pl (2048))))), (r3, .inl (cI, 4096, .inl (qm_cI mk 2048 0 (2048)))), (r4, .inl (cI, 64, .inl (qm_cI nt 32 0 (32)))), (r5, .inl (cB, 76800, .inl (qm_cB bt 38400 0 (38400)))), (r6, .inl (cZ, 600, .inl (qm_T (qm_cT us 300 0 (300)))))]) (isT := [0, 1, 2]) (isC := [0, 1, 2, 3, 4, 5, 6]) (isR := []) (isN := [0, 1, 2, 3, 4, 5, 6]) (k := 2) (ci := 5) (C := R_Mo) ⟨hx, hb, hml, hown, hts⟩ (c_Mo_copyU l D cZ cI cB mo r1 r2 r3 r4 r5 r6 th pl mk nt bt us md ck 0 kpl) (tw_V ml_Mo_70 im_Mo_copy se_Mo_copy in_Mo cd_Mo_copy) rfl ⟨by decide +kernel, Nat.le_of_ble_eq_true rfl, Nat.le_of_ble_eq_true rfl⟩ ⟨Nat.le_of_ble_eq_true rfl, Nat.le_of_ble_eq_true rfl⟩ hK hP hD hS hA hN rfl ⟨rfl, rfl, rfl, by decide, by decide, by decide, by decide⟩ rfl rfl rfl hl.1 rfl rfl (Nat.le_of_ble_eq_true rfl) d_Mo_keep_53 (fun H locs hP hD hS => ?_)
                refine lv_aload_n hx hb d_Mo_keep_56 rfl (lv_at hl 1 rfl) ?_
                refine lv_dup hx hb d_Mo_keep_57 rfl ?_
                refine va_get (D := D) (ci := 5) (v := .int (ck)) (C := R_Mo) (T := F_Mo) (N := 9) hx hb hts i_Mo hown hK hP 0 rfl rfl 7 (by decide) (hts _ fl_Mo_34) (fun _ h9 => h9) rfl d_Mo_keep_58 ?_
                refine lv_iconst (v := nI 1) hx hb d_Mo_keep_61 (by decide) ?_
                refine lv_iadd hx hb d_Mo_keep_62 ?_
                refine va_put (D := D) (ci := 5) (v := .int (ck + (nI 1))) (ty := .int) (C := R_Mo) (T := F_Mo) (N := 9) hx hb hts i_Mo t_Mo t_Mo_ok n_Mo hown hK hP hD hS 0 rfl rfl 7 (by decide) (hts _ fl_Mo_34) (fun _ h9 => h9) rfl (by decide +kernel) rfl rfl (Nat.le_of_ble_eq_true rfl) d_Mo_keep_63 (fun H locs hP hD hS => ?_)
                have hP : va_P D cls [(mo, .inr (5, [.ref r1, .ref r2, .ref r3, .ref r4, .ref r5, .ref r6, .int (md), .int (ck + (nI 1)), .int (nI 0)])), (r1, .inl (cZ, 32, .inl (qm_T (qm_cT th 16 0 (16))))), (r2, .inl (cI, 4096, .inl (qm_P (qm_cPU pl (2048))))), (r3, .inl (cI, 4096, .inl (qm_cI mk 2048 0 (2048)))), (r4, .inl (cI, 64, .inl (qm_cI nt 32 0 (32)))), (r5, .inl (cB, 76800, .inl (qm_cB bt 38400 0 (38400)))), (r6, .inl (cZ, 600, .inl (qm_T (qm_cT us 300 0 (300)))))] H := hP
                have hD : va_D A [(mo, .inr (5, [.ref r1, .ref r2, .ref r3, .ref r4, .ref r5, .ref r6, .int (md), .int (ck + (nI 1)), .int (nI 0)])), (r1, .inl (cZ, 32, .inl (qm_T (qm_cT th 16 0 (16))))), (r2, .inl (cI, 4096, .inl (qm_P (qm_cPU pl (2048))))), (r3, .inl (cI, 4096, .inl (qm_cI mk 2048 0 (2048)))), (r4, .inl (cI, 64, .inl (qm_cI nt 32 0 (32)))), (r5, .inl (cB, 76800, .inl (qm_cB bt 38400 0 (38400)))), (r6, .inl (cZ, 600, .inl (qm_T (qm_cT us 300 0 (300)))))] := hD
                refine lv_aload_n hx hb d_Mo_keep_66 rfl (lv_at hl 1 rfl) ?_
                refine lv_iload_n hx hb d_Mo_keep_67 rfl (lv_at hl 2 rfl) ?_
                refine lv_if_le (tgt := 75) hx hb d_Mo_keep_68 (by decide) (fun c68 => ?_) (fun c68 => ?_)
                · have c68 : 2 ≤ 0 := (q_z_le (by omega)).mp c68
                  exfalso; omega
                · have c68 : ¬ 2 ≤ 0 := fun h9 => c68 ((q_z_le (by omega)).mpr h9)
                  refine lv_iconst (v := nI 1) hx hb d_Mo_keep_71 (by decide) ?_
                  refine lv_goto (tgt := 76) hx hb d_Mo_keep_72 (by decide) ?_
                  refine va_put (D := D) (ci := 5) (v := .int (nI 1)) (ty := .boolean) (C := R_Mo) (T := F_Mo) (N := 9) hx hb hts i_Mo t_Mo t_Mo_ok n_Mo hown hK hP hD hS 0 rfl rfl 8 (by decide) (hts _ fl_Mo_38) (fun _ h9 => h9) rfl (by decide +kernel) rfl rfl (Nat.le_of_ble_eq_true rfl) d_Mo_keep_76 (fun H locs hP hD hS => ?_)
                  have hP : va_P D cls [(mo, .inr (5, [.ref r1, .ref r2, .ref r3, .ref r4, .ref r5, .ref r6, .int (md), .int (ck + (nI 1)), .int (nI 1)])), (r1, .inl (cZ, 32, .inl (qm_T (qm_cT th 16 0 (16))))), (r2, .inl (cI, 4096, .inl (qm_P (qm_cPU pl (2048))))), (r3, .inl (cI, 4096, .inl (qm_cI mk 2048 0 (2048)))), (r4, .inl (cI, 64, .inl (qm_cI nt 32 0 (32)))), (r5, .inl (cB, 76800, .inl (qm_cB bt 38400 0 (38400)))), (r6, .inl (cZ, 600, .inl (qm_T (qm_cT us 300 0 (300)))))] H := hP
                  have hD : va_D A [(mo, .inr (5, [.ref r1, .ref r2, .ref r3, .ref r4, .ref r5, .ref r6, .int (md), .int (ck + (nI 1)), .int (nI 1)])), (r1, .inl (cZ, 32, .inl (qm_T (qm_cT th 16 0 (16))))), (r2, .inl (cI, 4096, .inl (qm_P (qm_cPU pl (2048))))), (r3, .inl (cI, 4096, .inl (qm_cI mk 2048 0 (2048)))), (r4, .inl (cI, 64, .inl (qm_cI nt 32 0 (32)))), (r5, .inl (cB, 76800, .inl (qm_cB bt 38400 0 (38400)))), (r6, .inl (cZ, 600, .inl (qm_T (qm_cT us 300 0 (300)))))] := hD
                  refine lv_aload_n hx hb d_Mo_keep_79 rfl (lv_at hl 1 rfl) ?_
                  refine va_get (D := D) (ci := 5) (v := .int (nI 1)) (C := R_Mo) (T := F_Mo) (N := 9) hx hb hts i_Mo hown hK hP 0 rfl rfl 8 (by decide) (hts _ fl_Mo_38) (fun _ h9 => h9) rfl d_Mo_keep_80 ?_
                  refine lv_if_eq (tgt := 91) hx hb d_Mo_keep_83 (by decide) (fun c83 => ?_) (fun c83 => ?_)
                  · have c83 : 1 = 0 := (q_z_eq (by omega)).mp c83
                    exfalso; omega
                  · have c83 : ¬ 1 = 0 := fun h9 => c83 ((q_z_eq (by omega)).mpr h9)
                    refine lv_bipush (v := (-2 : Int32)) hx hb d_Mo_keep_86 (by decide) ?_
                    refine lv_goto (tgt := 95) hx hb d_Mo_keep_88 (by decide) ?_
                    exact q_iret hx hb hr hlk hK hP hD hS d_Mo_keep_95 (rfl) (rfl)
      · have c16 : ¬ 2 ≤ 2 := fun h9 => c16 ((nI_leI (by omega) (by omega)).mpr h9)
        exfalso; omega
  · have c4 : ¬ 0 = 0 := fun h9 => c4 ((q_z_eq (by omega)).mpr h9)
    exfalso; omega
set_option maxHeartbeats 4000000 in
set_option maxRecDepth 100000 in
theorem c_Mo_keep2n (l : Launch) (D : va_G) (cZ : ClassId) (cI : ClassId) (cB : ClassId) (mo : Nat) (r1 : Nat) (r2 : Nat) (r3 : Nat) (r4 : Nat) (r5 : Nat) (r6 : Nat) (th : Nat → Bool) (pl : Nat → Nat) (mk : Nat → Int32) (nt : Nat → Int32) (bt : Nat → Int32) (us : Nat → Bool) (md : Int32) (ck : Int32) (bits : Int64) (kh : ¬ (qb_n bits % 4 = 1 ∨ qb_n bits % 4 = 2)) : qMi l y_Mo_keep b_Mo_keep 5 (some .int) (rmL 3) D [(cZ, .boolean), (cI, .int), (cB, .byte)] [.ref mo, .int (nI 2), .long (bits)] [(mo, .inr (5, [.ref r1, .ref r2, .ref r3, .ref r4, .ref r5, .ref r6, .int (md), .int (ck), .int (nI 0)])), (r1, .inl (cZ, 32, .inl (qm_T th))), (r2, .inl (cI, 4096, .inl (qm_P pl))), (r3, .inl (cI, 4096, .inl (mk))), (r4, .inl (cI, 64, .inl (nt))), (r5, .inl (cB, 76800, .inl (bt))), (r6, .inl (cZ, 600, .inl (qm_T us)))] [(mo, .inr (5, [.ref r1, .ref r2, .ref r3, .ref r4, .ref r5, .ref r6, .int (md), .int (ck), .int (nI 1)])), (r1, .inl (cZ, 32, .inl (qm_T th))), (r2, .inl (cI, 4096, .inl (qm_P pl))), (r3, .inl (cI, 4096, .inl (mk))), (r4, .inl (cI, 64, .inl (nt))), (r5, .inl (cB, 76800, .inl (bt))), (r6, .inl (cZ, 600, .inl (qm_T us)))] ((-2 : Int32)) := by
  refine q_start (Qc := qZi D _ _ _) (by decide +kernel) (Nat.le_of_ble_eq_true rfl) ?_
  intro p e s m below meth c A hx hb hr hlk hml hown hts hK hP hD hS hA hN ls hl
  have hl : lv_has ls 5 [(0, .ref mo), (1, .int (nI 2)), (2, .long (bits))] := hl
  have hP : va_P D cls [(mo, .inr (5, [.ref r1, .ref r2, .ref r3, .ref r4, .ref r5, .ref r6, .int (md), .int (ck), .int (nI 0)])), (r1, .inl (cZ, 32, .inl (qm_T th))), (r2, .inl (cI, 4096, .inl (qm_P pl))), (r3, .inl (cI, 4096, .inl (mk))), (r4, .inl (cI, 64, .inl (nt))), (r5, .inl (cB, 76800, .inl (bt))), (r6, .inl (cZ, 600, .inl (qm_T us)))] s.heap := hP
  have hD : va_D A [(mo, .inr (5, [.ref r1, .ref r2, .ref r3, .ref r4, .ref r5, .ref r6, .int (md), .int (ck), .int (nI 0)])), (r1, .inl (cZ, 32, .inl (qm_T th))), (r2, .inl (cI, 4096, .inl (qm_P pl))), (r3, .inl (cI, 4096, .inl (mk))), (r4, .inl (cI, 64, .inl (nt))), (r5, .inl (cB, 76800, .inl (bt))), (r6, .inl (cZ, 600, .inl (qm_T us)))] := hD
  refine lv_aload_n hx hb d_Mo_keep_0 rfl (lv_at hl 0 rfl) ?_
  refine va_get (D := D) (ci := 5) (v := .int (nI 0)) (C := R_Mo) (T := F_Mo) (N := 9) hx hb hts i_Mo hown hK hP 0 rfl rfl 8 (by decide) (hts _ fl_Mo_38) (fun _ h9 => h9) rfl d_Mo_keep_1 ?_
  refine lv_if_eq (tgt := 10) hx hb d_Mo_keep_4 (by decide) (fun c4 => ?_) (fun c4 => ?_)
  · have c4 : 0 = 0 := (q_z_eq (by omega)).mp c4
    refine lv_iload_n hx hb d_Mo_keep_10 rfl (lv_at hl 1 rfl) ?_
    refine lv_if_lt (tgt := 19) hx hb d_Mo_keep_11 (by decide) (fun c11 => ?_) (fun c11 => ?_)
    · have c11 : 2 < 0 := (q_z_lt (by omega)).mp c11
      exfalso; omega
    · have c11 : ¬ 2 < 0 := fun h9 => c11 ((q_z_lt (by omega)).mpr h9)
      refine lv_iload_n hx hb d_Mo_keep_14 rfl (lv_at hl 1 rfl) ?_
      refine lv_iconst (v := nI 2) hx hb d_Mo_keep_15 (by decide) ?_
      refine lv_icmp_le (tgt := 21) hx hb d_Mo_keep_16 (by decide) (fun c16 => ?_) (fun c16 => ?_)
      · have c16 : 2 ≤ 2 := (nI_leI (by omega) (by omega)).mp c16
        refine lv_lload_n hx hb d_Mo_keep_21 rfl (lv_at hl 2 rfl) ?_
        refine lv_ldc2 hx hb hown (hts _ kl_Mo_68) d_Mo_keep_22 ?_
        refine lv_land hx hb d_Mo_keep_25 ?_
        refine lv_l2i (v := (bits &&& 3).toInt32) hx hb d_Mo_keep_26 rfl ?_
        have hb4 : qb_n bits % 4 < 4 := Nat.mod_lt _ (by decide)
        refine q_ti (y := nI (qb_n bits % 4)) (qm_and3 bits) ?_
        refine lv_istore (lv' := [(4, .int (nI (qb_n bits % 4))), (0, .ref mo), (1, .int (nI 2)), (2, .long (bits))]) hx hb d_Mo_keep_27 hl (by decide) rfl (fun ls hl => ?_)
        refine lv_iload_n hx hb d_Mo_keep_29 rfl (lv_at hl 2 rfl) ?_
        refine lv_if_eq (tgt := 50) hx hb d_Mo_keep_30 (by decide) (fun c30 => ?_) (fun c30 => ?_)
        · have c30 : 2 = 0 := (q_z_eq (by omega)).mp c30
          exfalso; omega
        · have c30 : ¬ 2 = 0 := fun h9 => c30 ((q_z_eq (by omega)).mpr h9)
          refine lv_iload_n hx hb d_Mo_keep_33 rfl (lv_at hl 2 rfl) ?_
          refine lv_iconst (v := nI 2) hx hb d_Mo_keep_34 (by decide) ?_
          refine lv_icmp_ne (tgt := 66) hx hb d_Mo_keep_35 (by decide) (fun c35 => ?_) (fun c35 => ?_)
          · have c35 : ¬ 2 = 2 := fun h9 => c35 ((nI_eq (by omega) (by omega)).mpr h9)
            exfalso; omega
          · have c35 : 2 = 2 := (nI_eq (by omega) (by omega)).mp c35
            refine lv_iload hx hb d_Mo_keep_38 (lv_at hl 0 rfl) ?_
            refine lv_iconst (v := nI 1) hx hb d_Mo_keep_40 (by decide) ?_
            refine lv_icmp_eq (tgt := 50) hx hb d_Mo_keep_41 (by decide) (fun c41 => ?_) (fun c41 => ?_)
            · have c41 : (qb_n bits % 4) = 1 := (nI_eq (by omega) (by omega)).mp c41
              exfalso; omega
            · have c41 : ¬ (qb_n bits % 4) = 1 := fun h9 => c41 ((nI_eq (by omega) (by omega)).mpr h9)
              refine lv_iload hx hb d_Mo_keep_44 (lv_at hl 0 rfl) ?_
              refine lv_iconst (v := nI 2) hx hb d_Mo_keep_46 (by decide) ?_
              refine lv_icmp_ne (tgt := 66) hx hb d_Mo_keep_47 (by decide) (fun c47 => ?_) (fun c47 => ?_)
              · have c47 : ¬ (qb_n bits % 4) = 2 := fun h9 => c47 ((nI_eq (by omega) (by omega)).mpr h9)
                refine lv_aload_n hx hb d_Mo_keep_66 rfl (lv_at hl 1 rfl) ?_
                refine lv_iload_n hx hb d_Mo_keep_67 rfl (lv_at hl 2 rfl) ?_
                refine lv_if_le (tgt := 75) hx hb d_Mo_keep_68 (by decide) (fun c68 => ?_) (fun c68 => ?_)
                · have c68 : 2 ≤ 0 := (q_z_le (by omega)).mp c68
                  exfalso; omega
                · have c68 : ¬ 2 ≤ 0 := fun h9 => c68 ((q_z_le (by omega)).mpr h9)
                  refine lv_iconst (v := nI 1) hx hb d_Mo_keep_71 (by decide) ?_
                  refine lv_goto (tgt := 76) hx hb d_Mo_keep_72 (by decide) ?_
                  refine va_put (D := D) (ci := 5) (v := .int (nI 1)) (ty := .boolean) (C := R_Mo) (T := F_Mo) (N := 9) hx hb hts i_Mo t_Mo t_Mo_ok n_Mo hown hK hP hD hS 0 rfl rfl 8 (by decide) (hts _ fl_Mo_38) (fun _ h9 => h9) rfl (by decide +kernel) rfl rfl (Nat.le_of_ble_eq_true rfl) d_Mo_keep_76 (fun H locs hP hD hS => ?_)
                  have hP : va_P D cls [(mo, .inr (5, [.ref r1, .ref r2, .ref r3, .ref r4, .ref r5, .ref r6, .int (md), .int (ck), .int (nI 1)])), (r1, .inl (cZ, 32, .inl (qm_T th))), (r2, .inl (cI, 4096, .inl (qm_P pl))), (r3, .inl (cI, 4096, .inl (mk))), (r4, .inl (cI, 64, .inl (nt))), (r5, .inl (cB, 76800, .inl (bt))), (r6, .inl (cZ, 600, .inl (qm_T us)))] H := hP
                  have hD : va_D A [(mo, .inr (5, [.ref r1, .ref r2, .ref r3, .ref r4, .ref r5, .ref r6, .int (md), .int (ck), .int (nI 1)])), (r1, .inl (cZ, 32, .inl (qm_T th))), (r2, .inl (cI, 4096, .inl (qm_P pl))), (r3, .inl (cI, 4096, .inl (mk))), (r4, .inl (cI, 64, .inl (nt))), (r5, .inl (cB, 76800, .inl (bt))), (r6, .inl (cZ, 600, .inl (qm_T us)))] := hD
                  refine lv_aload_n hx hb d_Mo_keep_79 rfl (lv_at hl 1 rfl) ?_
                  refine va_get (D := D) (ci := 5) (v := .int (nI 1)) (C := R_Mo) (T := F_Mo) (N := 9) hx hb hts i_Mo hown hK hP 0 rfl rfl 8 (by decide) (hts _ fl_Mo_38) (fun _ h9 => h9) rfl d_Mo_keep_80 ?_
                  refine lv_if_eq (tgt := 91) hx hb d_Mo_keep_83 (by decide) (fun c83 => ?_) (fun c83 => ?_)
                  · have c83 : 1 = 0 := (q_z_eq (by omega)).mp c83
                    exfalso; omega
                  · have c83 : ¬ 1 = 0 := fun h9 => c83 ((q_z_eq (by omega)).mpr h9)
                    refine lv_bipush (v := (-2 : Int32)) hx hb d_Mo_keep_86 (by decide) ?_
                    refine lv_goto (tgt := 95) hx hb d_Mo_keep_88 (by decide) ?_
                    exact q_iret hx hb hr hlk hK hP hD hS d_Mo_keep_95 (rfl) (rfl)
              · have c47 : (qb_n bits % 4) = 2 := (nI_eq (by omega) (by omega)).mp c47
                exfalso; omega
      · have c16 : ¬ 2 ≤ 2 := fun h9 => c16 ((nI_leI (by omega) (by omega)).mpr h9)
        exfalso; omega
  · have c4 : ¬ 0 = 0 := fun h9 => c4 ((q_z_eq (by omega)).mpr h9)
    exfalso; omega
set_option maxHeartbeats 4000000 in
set_option maxRecDepth 100000 in
theorem c_Mo_keep_bad (l : Launch) (D : va_G) (cZ : ClassId) (cI : ClassId) (cB : ClassId) (mo : Nat) (r1 : Nat) (r2 : Nat) (r3 : Nat) (r4 : Nat) (r5 : Nat) (r6 : Nat) (th : Nat → Bool) (pl : Nat → Nat) (mk : Nat → Int32) (nt : Nat → Int32) (bt : Nat → Int32) (us : Nat → Bool) (md : Int32) (ck : Int32) (z : Int32) (bits : Int64) (kb : z < 0 ∨ ¬ z ≤ nI 2) : qMi l y_Mo_keep b_Mo_keep 5 (some .int) (rmL 3) D [(cZ, .boolean), (cI, .int), (cB, .byte)] [.ref mo, .int (z), .long (bits)] [(mo, .inr (5, [.ref r1, .ref r2, .ref r3, .ref r4, .ref r5, .ref r6, .int (md), .int (ck), .int (nI 0)])), (r1, .inl (cZ, 32, .inl (qm_T th))), (r2, .inl (cI, 4096, .inl (qm_P pl))), (r3, .inl (cI, 4096, .inl (mk))), (r4, .inl (cI, 64, .inl (nt))), (r5, .inl (cB, 76800, .inl (bt))), (r6, .inl (cZ, 600, .inl (qm_T us)))] [(mo, .inr (5, [.ref r1, .ref r2, .ref r3, .ref r4, .ref r5, .ref r6, .int (md), .int (ck), .int (nI 0)])), (r1, .inl (cZ, 32, .inl (qm_T th))), (r2, .inl (cI, 4096, .inl (qm_P pl))), (r3, .inl (cI, 4096, .inl (mk))), (r4, .inl (cI, 64, .inl (nt))), (r5, .inl (cB, 76800, .inl (bt))), (r6, .inl (cZ, 600, .inl (qm_T us)))] ((-1 : Int32)) := by
  refine q_start (Qc := qZi D _ _ _) (by decide +kernel) (Nat.le_of_ble_eq_true rfl) ?_
  intro p e s m below meth c A hx hb hr hlk hml hown hts hK hP hD hS hA hN ls hl
  have hl : lv_has ls 5 [(0, .ref mo), (1, .int (z)), (2, .long (bits))] := hl
  have hP : va_P D cls [(mo, .inr (5, [.ref r1, .ref r2, .ref r3, .ref r4, .ref r5, .ref r6, .int (md), .int (ck), .int (nI 0)])), (r1, .inl (cZ, 32, .inl (qm_T th))), (r2, .inl (cI, 4096, .inl (qm_P pl))), (r3, .inl (cI, 4096, .inl (mk))), (r4, .inl (cI, 64, .inl (nt))), (r5, .inl (cB, 76800, .inl (bt))), (r6, .inl (cZ, 600, .inl (qm_T us)))] s.heap := hP
  have hD : va_D A [(mo, .inr (5, [.ref r1, .ref r2, .ref r3, .ref r4, .ref r5, .ref r6, .int (md), .int (ck), .int (nI 0)])), (r1, .inl (cZ, 32, .inl (qm_T th))), (r2, .inl (cI, 4096, .inl (qm_P pl))), (r3, .inl (cI, 4096, .inl (mk))), (r4, .inl (cI, 64, .inl (nt))), (r5, .inl (cB, 76800, .inl (bt))), (r6, .inl (cZ, 600, .inl (qm_T us)))] := hD
  refine lv_aload_n hx hb d_Mo_keep_0 rfl (lv_at hl 0 rfl) ?_
  refine va_get (D := D) (ci := 5) (v := .int (nI 0)) (C := R_Mo) (T := F_Mo) (N := 9) hx hb hts i_Mo hown hK hP 0 rfl rfl 8 (by decide) (hts _ fl_Mo_38) (fun _ h9 => h9) rfl d_Mo_keep_1 ?_
  refine lv_if_eq (tgt := 10) hx hb d_Mo_keep_4 (by decide) (fun c4 => ?_) (fun c4 => ?_)
  · have c4 : 0 = 0 := (q_z_eq (by omega)).mp c4
    refine lv_iload_n hx hb d_Mo_keep_10 rfl (lv_at hl 1 rfl) ?_
    refine lv_if_lt (tgt := 19) hx hb d_Mo_keep_11 (by decide) (fun c11 => ?_) (fun c11 => ?_)
    · refine lv_iconst (v := (-1 : Int32)) hx hb d_Mo_keep_19 (by decide) ?_
      exact q_iret hx hb hr hlk hK hP hD hS d_Mo_keep_20 (rfl) (rfl)
    · refine lv_iload_n hx hb d_Mo_keep_14 rfl (lv_at hl 1 rfl) ?_
      refine lv_iconst (v := nI 2) hx hb d_Mo_keep_15 (by decide) ?_
      refine lv_icmp_le (tgt := 21) hx hb d_Mo_keep_16 (by decide) (fun c16 => ?_) (fun c16 => ?_)
      · rcases kb with q | q; exact absurd q c11; exact absurd c16 q
      · refine lv_iconst (v := (-1 : Int32)) hx hb d_Mo_keep_19 (by decide) ?_
        exact q_iret hx hb hr hlk hK hP hD hS d_Mo_keep_20 (rfl) (rfl)
  · have c4 : ¬ 0 = 0 := fun h9 => c4 ((q_z_eq (by omega)).mpr h9)
    exfalso; omega
set_option maxHeartbeats 4000000 in
set_option maxRecDepth 100000 in
theorem c_Mo_mount_ok (l : Launch) (D : va_G) (cZ : ClassId) (cI : ClassId) (cB : ClassId) (mo : Nat) (r1 : Nat) (r2 : Nat) (r3 : Nat) (r4 : Nat) (r5 : Nat) (r6 : Nat) (th : Nat → Bool) (pl : Nat → Nat) (mk : Nat → Int32) (nt : Nat → Int32) (bt : Nat → Int32) (us : Nat → Bool) (md : Int32) (ck : Int32) (kpl : ∀ k, pl k ≤ 600) (kph : ∀ k, 2048 ≤ k → k < 4096 → pl k = 0 ∨ 301 ≤ pl k) (kpn : ∀ k, qm_cPD pl (2048) k ≤ 600) : qMi l y_Mo_mount b_Mo_mount 1 (some .int) (rmL 3) D [(cZ, .boolean), (cI, .int), (cB, .byte)] [.ref mo] [(mo, .inr (5, [.ref r1, .ref r2, .ref r3, .ref r4, .ref r5, .ref r6, .int (md), .int (ck), .int (nI 1)])), (r1, .inl (cZ, 32, .inl (qm_T th))), (r2, .inl (cI, 4096, .inl (qm_P pl))), (r3, .inl (cI, 4096, .inl (mk))), (r4, .inl (cI, 64, .inl (nt))), (r5, .inl (cB, 76800, .inl (bt))), (r6, .inl (cZ, 600, .inl (qm_T us)))] [(mo, .inr (5, [.ref r1, .ref r2, .ref r3, .ref r4, .ref r5, .ref r6, .int (md), .int (ck), .int (nI 0)])), (r1, .inl (cZ, 32, .inl (qm_T (qm_cT th 0 16 (16))))), (r2, .inl (cI, 4096, .inl (qm_P (qm_cPD pl (2048))))), (r3, .inl (cI, 4096, .inl (qm_cI mk 0 2048 (2048)))), (r4, .inl (cI, 64, .inl (qm_cI nt 0 32 (32)))), (r5, .inl (cB, 76800, .inl (qm_cB bt 0 38400 (38400)))), (r6, .inl (cZ, 600, .inl (qm_T (qm_cT us 0 300 (300)))))] (nI (qs_ 16 (fun v => qm_ct (qm_cPD pl (2048)) (128 * v) 128))) := by
  refine q_start (Qc := qZi D _ _ _) (by decide +kernel) (Nat.le_of_ble_eq_true rfl) ?_
  intro p e s m below meth c A hx hb hr hlk hml hown hts hK hP hD hS hA hN ls hl
  have hl : lv_has ls 1 [(0, .ref mo)] := hl
  have hP : va_P D cls [(mo, .inr (5, [.ref r1, .ref r2, .ref r3, .ref r4, .ref r5, .ref r6, .int (md), .int (ck), .int (nI 1)])), (r1, .inl (cZ, 32, .inl (qm_T th))), (r2, .inl (cI, 4096, .inl (qm_P pl))), (r3, .inl (cI, 4096, .inl (mk))), (r4, .inl (cI, 64, .inl (nt))), (r5, .inl (cB, 76800, .inl (bt))), (r6, .inl (cZ, 600, .inl (qm_T us)))] s.heap := hP
  have hD : va_D A [(mo, .inr (5, [.ref r1, .ref r2, .ref r3, .ref r4, .ref r5, .ref r6, .int (md), .int (ck), .int (nI 1)])), (r1, .inl (cZ, 32, .inl (qm_T th))), (r2, .inl (cI, 4096, .inl (qm_P pl))), (r3, .inl (cI, 4096, .inl (mk))), (r4, .inl (cI, 64, .inl (nt))), (r5, .inl (cB, 76800, .inl (bt))), (r6, .inl (cZ, 600, .inl (qm_T us)))] := hD
  refine lv_aload_n hx hb d_Mo_mount_0 rfl (lv_at hl 0 rfl) ?_
  refine va_get (D := D) (ci := 5) (v := .int (nI 1)) (C := R_Mo) (T := F_Mo) (N := 9) hx hb hts i_Mo hown hK hP 0 rfl rfl 8 (by decide) (hts _ fl_Mo_38) (fun _ h9 => h9) rfl d_Mo_mount_1 ?_
  refine lv_if_ne (tgt := 9) hx hb d_Mo_mount_4 (by decide) (fun c4 => ?_) (fun c4 => ?_)
  · have c4 : ¬ 1 = 0 := fun h9 => c4 ((q_z_eq (by omega)).mpr h9)
    refine lv_aload_n hx hb d_Mo_mount_9 rfl (lv_at hl 0 rfl) ?_
    refine lv_iconst (v := nI 1) hx hb d_Mo_mount_10 (by decide) ?_
    refine lv_iconst (v := nI 0) hx hb d_Mo_mount_11 (by decide) ?_
    refine q_callVv (As := [.int (nI 1), .int (nI 0)]) (rest := []) (wsC := [(mo, .inr (5, [.ref r1, .ref r2, .ref r3, .ref r4, .ref r5, .ref r6, .int (md), .int (ck), .int (nI 1)])), (r1, .inl (cZ, 32, .inl (qm_T th))), (r2, .inl (cI, 4096, .inl (qm_P pl))), (r3, .inl (cI, 4096, .inl (mk))), (r4, .inl (cI, 64, .inl (nt))), (r5, .inl (cB, 76800, .inl (bt))), (r6, .inl (cZ, 600, .inl (qm_T us)))]) (wsR := []) (wsC' := [(mo, .inr (5, [.ref r1, .ref r2, .ref r3, .ref r4, .ref r5, .ref r6, .int (md), .int (ck), .int (nI 1)])), (r1, .inl (cZ, 32, .inl (qm_T (qm_cT th 0 16 (16))))), (r2, .inl (cI, 4096, .inl (qm_P (qm_cPD pl (2048))))), (r3, .inl (cI, 4096, .inl (qm_cI mk 0 2048 (2048)))), (r4, .inl (cI, 64, .inl (qm_cI nt 0 32 (32)))), (r5, .inl (cB, 76800, .inl (qm_cB bt 0 38400 (38400)))), (r6, .inl (cZ, 600, .inl (qm_T (qm_cT us 0 300 (300)))))]) (wsN := [(mo, .inr (5, [.ref r1, .ref r2, .ref r3, .ref r4, .ref r5, .ref r6, .int (md), .int (ck), .int (nI 1)])), (r1, .inl (cZ, 32, .inl (qm_T (qm_cT th 0 16 (16))))), (r2, .inl (cI, 4096, .inl (qm_P (qm_cPD pl (2048))))), (r3, .inl (cI, 4096, .inl (qm_cI mk 0 2048 (2048)))), (r4, .inl (cI, 64, .inl (qm_cI nt 0 32 (32)))), (r5, .inl (cB, 76800, .inl (qm_cB bt 0 38400 (38400)))), (r6, .inl (cZ, 600, .inl (qm_T (qm_cT us 0 300 (300)))))]) (isT := [0, 1, 2]) (isC := [0, 1, 2, 3, 4, 5, 6]) (isR := []) (isN := [0, 1, 2, 3, 4, 5, 6]) (k := 2) (ci := 5) (C := R_Mo) ⟨hx, hb, hml, hown, hts⟩ (c_Mo_copyD l D cZ cI cB mo r1 r2 r3 r4 r5 r6 th pl mk nt bt us md ck 1 kpl kph) (tw_V ml_Mo_70 im_Mo_copy se_Mo_copy in_Mo cd_Mo_copy) rfl ⟨by decide +kernel, Nat.le_of_ble_eq_true rfl, Nat.le_of_ble_eq_true rfl⟩ ⟨Nat.le_of_ble_eq_true rfl, Nat.le_of_ble_eq_true rfl⟩ hK hP hD hS hA hN rfl ⟨rfl, rfl, rfl, by decide, by decide, by decide, by decide⟩ rfl rfl rfl hl.1 rfl rfl (Nat.le_of_ble_eq_true rfl) d_Mo_mount_12 (fun H locs hP hD hS => ?_)
    refine lv_aload_n hx hb d_Mo_mount_15 rfl (lv_at hl 0 rfl) ?_
    refine lv_iconst (v := nI 0) hx hb d_Mo_mount_16 (by decide) ?_
    refine va_put (D := D) (ci := 5) (v := .int (nI 0)) (ty := .boolean) (C := R_Mo) (T := F_Mo) (N := 9) hx hb hts i_Mo t_Mo t_Mo_ok n_Mo hown hK hP hD hS 0 rfl rfl 8 (by decide) (hts _ fl_Mo_38) (fun _ h9 => h9) rfl (by decide +kernel) rfl rfl (Nat.le_of_ble_eq_true rfl) d_Mo_mount_17 (fun H locs hP hD hS => ?_)
    have hP : va_P D cls [(mo, .inr (5, [.ref r1, .ref r2, .ref r3, .ref r4, .ref r5, .ref r6, .int (md), .int (ck), .int (nI 0)])), (r1, .inl (cZ, 32, .inl (qm_T (qm_cT th 0 16 (16))))), (r2, .inl (cI, 4096, .inl (qm_P (qm_cPD pl (2048))))), (r3, .inl (cI, 4096, .inl (qm_cI mk 0 2048 (2048)))), (r4, .inl (cI, 64, .inl (qm_cI nt 0 32 (32)))), (r5, .inl (cB, 76800, .inl (qm_cB bt 0 38400 (38400)))), (r6, .inl (cZ, 600, .inl (qm_T (qm_cT us 0 300 (300)))))] H := hP
    have hD : va_D A [(mo, .inr (5, [.ref r1, .ref r2, .ref r3, .ref r4, .ref r5, .ref r6, .int (md), .int (ck), .int (nI 0)])), (r1, .inl (cZ, 32, .inl (qm_T (qm_cT th 0 16 (16))))), (r2, .inl (cI, 4096, .inl (qm_P (qm_cPD pl (2048))))), (r3, .inl (cI, 4096, .inl (qm_cI mk 0 2048 (2048)))), (r4, .inl (cI, 64, .inl (qm_cI nt 0 32 (32)))), (r5, .inl (cB, 76800, .inl (qm_cB bt 0 38400 (38400)))), (r6, .inl (cZ, 600, .inl (qm_T (qm_cT us 0 300 (300)))))] := hD
    refine lv_aload_n hx hb d_Mo_mount_20 rfl (lv_at hl 0 rfl) ?_
    refine q_callVi (As := []) (rest := []) (wsC := [(mo, .inr (5, [.ref r1, .ref r2, .ref r3, .ref r4, .ref r5, .ref r6, .int (md), .int (ck), .int (nI 0)])), (r1, .inl (cZ, 32, .inl (qm_T (qm_cT th 0 16 (16))))), (r2, .inl (cI, 4096, .inl (qm_P (qm_cPD pl (2048))))), (r3, .inl (cI, 4096, .inl (qm_cI mk 0 2048 (2048)))), (r4, .inl (cI, 64, .inl (qm_cI nt 0 32 (32)))), (r5, .inl (cB, 76800, .inl (qm_cB bt 0 38400 (38400)))), (r6, .inl (cZ, 600, .inl (qm_T (qm_cT us 0 300 (300)))))]) (wsR := []) (wsC' := [(mo, .inr (5, [.ref r1, .ref r2, .ref r3, .ref r4, .ref r5, .ref r6, .int (md), .int (ck), .int (nI 0)])), (r1, .inl (cZ, 32, .inl (qm_T (qm_cT th 0 16 (16))))), (r2, .inl (cI, 4096, .inl (qm_P (qm_cPD pl (2048))))), (r3, .inl (cI, 4096, .inl ((qm_cI mk 0 2048 (2048))))), (r4, .inl (cI, 64, .inl ((qm_cI nt 0 32 (32))))), (r5, .inl (cB, 76800, .inl ((qm_cB bt 0 38400 (38400))))), (r6, .inl (cZ, 600, .inl (qm_T (qm_cT us 0 300 (300)))))]) (wsN := [(mo, .inr (5, [.ref r1, .ref r2, .ref r3, .ref r4, .ref r5, .ref r6, .int (md), .int (ck), .int (nI 0)])), (r1, .inl (cZ, 32, .inl (qm_T (qm_cT th 0 16 (16))))), (r2, .inl (cI, 4096, .inl (qm_P (qm_cPD pl (2048))))), (r3, .inl (cI, 4096, .inl ((qm_cI mk 0 2048 (2048))))), (r4, .inl (cI, 64, .inl ((qm_cI nt 0 32 (32))))), (r5, .inl (cB, 76800, .inl ((qm_cB bt 0 38400 (38400))))), (r6, .inl (cZ, 600, .inl (qm_T (qm_cT us 0 300 (300)))))]) (isT := [0, 1, 2]) (isC := [0, 1, 2, 3, 4, 5, 6]) (isR := []) (isN := [0, 1, 2, 3, 4, 5, 6]) (k := 0) (ci := 5) (C := R_Mo) ⟨hx, hb, hml, hown, hts⟩ (c_Mo_all l D cZ cI cB mo r1 r2 r3 r4 r5 r6 (qm_cT th 0 16 (16)) (qm_cPD pl (2048)) (qm_cI mk 0 2048 (2048)) (qm_cI nt 0 32 (32)) (qm_cB bt 0 38400 (38400)) (qm_cT us 0 300 (300)) md ck kpn) (tw_V ml_Mo_50 im_Mo_all se_Mo_all in_Mo cd_Mo_all) rfl ⟨by decide +kernel, Nat.le_of_ble_eq_true rfl, Nat.le_of_ble_eq_true rfl⟩ ⟨Nat.le_of_ble_eq_true rfl, Nat.le_of_ble_eq_true rfl⟩ hK hP hD hS hA hN rfl ⟨rfl, rfl, rfl, by decide, by decide, by decide, by decide⟩ rfl rfl rfl hl.1 rfl rfl (Nat.le_of_ble_eq_true rfl) d_Mo_mount_21 (fun H locs hP hD hS => ?_)
    have hq1 := qm_all_le (qm_cPD pl (2048)) 16
    exact q_iret hx hb hr hlk hK hP hD hS d_Mo_mount_24 (rfl) (rfl)
  · have c4 : 1 = 0 := (q_z_eq (by omega)).mp c4
    exfalso; omega
