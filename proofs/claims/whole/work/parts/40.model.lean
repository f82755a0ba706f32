/-! the reference's arrays: there and used (true, false), places (0: none, k + 1: place k) -/
def qm_T (t : Nat → Bool) : Nat → Int32 := fun k => if t k = true then 1 else 0
def qm_pv (x : Nat) : Int32 := match x with
  | 0 => -1
  | x + 1 => nI x
def qm_P (p : Nat → Nat) : Nat → Int32 := fun k => qm_pv (p k)
theorem qm_T0 {t : Nat → Bool} {k : Nat} (h : qm_T t k = 0) : t k = false := by
  unfold qm_T at h
  cases e : t k with
  | false => rfl
  | true => rw [e, if_pos rfl] at h; exact absurd h (by decide)
theorem qm_T1 {t : Nat → Bool} {k : Nat} (h : ¬ qm_T t k = 0) : t k = true := by
  unfold qm_T at h
  cases e : t k with
  | true => rfl
  | false => rw [e, if_neg (by decide)] at h; exact absurd rfl h
theorem qm_Tt {t : Nat → Bool} {k : Nat} : upd (qm_T t) k (vp_nar .boolean (nI 1)) = qm_T (va_up t k true) := funext fun j => by
  unfold qm_T upd va_up
  by_cases h : j = k
  · simp only [h, if_true]; decide
  · simp only [h, if_false]
theorem qm_Tf {t : Nat → Bool} {k : Nat} : upd (qm_T t) k (vp_nar .boolean (nI 0)) = qm_T (va_up t k false) := funext fun j => by
  unfold qm_T upd va_up
  by_cases h : j = k
  · simp only [h, if_true]; decide
  · simp only [h, if_false]
theorem qm_pv_neg {x : Nat} (hx : x ≤ 600) : qm_pv x < 0 ↔ x = 0 := by
  cases x with
  | zero => exact ⟨fun _ => rfl, fun _ => by decide⟩
  | succ x => exact ⟨fun h => absurd h (nI_pos (by omega)), fun h => by omega⟩
theorem qm_Pn {p : Nat → Nat} {k : Nat} (hp : p k ≤ 600) (h : qm_P p k < 0) : p k = 0 := (qm_pv_neg hp).mp h
theorem qm_Pp {p : Nat → Nat} {k : Nat} (hp : p k ≤ 600) (h : ¬ qm_P p k < 0) : ¬ p k = 0 := fun q => h ((qm_pv_neg hp).mpr q)
theorem qm_ge {x : Int32} : 0 ≤ x ↔ ¬ x < 0 := by
  rw [Int32.le_iff_toInt_le, Int32.lt_iff_toInt_lt]
  omega
theorem qm_Pg {p : Nat → Nat} {k : Nat} (hp : p k ≤ 600) (h : 0 ≤ qm_P p k) : ¬ p k = 0 := qm_Pp hp (qm_ge.mp h)
theorem qm_Ph {p : Nat → Nat} {k : Nat} (hp : p k ≤ 600) (h : ¬ 0 ≤ qm_P p k) : p k = 0 := Classical.byContradiction fun q => h (qm_ge.mpr (fun z => q (qm_Pn hp z)))
theorem qm_Pk {p : Nat → Nat} {k w : Nat} (h : p k = w + 1) : qm_P p k = nI w := by
  unfold qm_P
  rw [h]
  rfl
theorem qm_Pz {p : Nat → Nat} {k : Nat} : upd (qm_P p) k (-1 : Int32) = qm_P (va_up p k 0) := funext fun j => by
  unfold qm_P upd va_up
  by_cases h : j = k
  · simp only [h, if_true]; rfl
  · simp only [h, if_false]
theorem qm_Pw {p : Nat → Nat} {k w : Nat} : upd (qm_P p) k (nI w) = qm_P (va_up p k (w + 1)) := funext fun j => by
  unfold qm_P upd va_up
  by_cases h : j = k
  · simp only [h, if_true]; rfl
  · simp only [h, if_false]
def qm_cl (pl : Nat → Nat) (us : Nat → Bool) (u : Nat) : Nat → Bool := if pl u = 0 then us else va_up us (pl u - 1) false
def qm_ct (pl : Nat → Nat) (b i : Nat) : Nat := match i with
  | 0 => 0
  | i + 1 => if pl (b + i) = 0 then qm_ct pl b i else qm_ct pl b i + 1
theorem qm_ct_z {pl : Nat → Nat} {b i : Nat} (h : pl (b + i) = 0) : qm_ct pl b (i + 1) = qm_ct pl b i := by
  conv => lhs; unfold qm_ct
  rw [if_pos h]
theorem qm_ct_n {pl : Nat → Nat} {b i : Nat} (h : ¬ pl (b + i) = 0) : qm_ct pl b (i + 1) = qm_ct pl b i + 1 := by
  conv => lhs; unfold qm_ct
  rw [if_neg h]
theorem qm_ct_le (pl : Nat → Nat) (b i : Nat) : qm_ct pl b i ≤ i := by
  induction i with
  | zero => exact Nat.le_refl _
  | succ i ih =>
    by_cases h : pl (b + i) = 0
    · rw [qm_ct_z h]; omega
    · rw [qm_ct_n h]; omega
theorem qm_all_le (pl : Nat → Nat) (n : Nat) : qs_ n (fun v => qm_ct pl (128 * v) 128) ≤ n * 128 := by
  have := qs_le (n := n) (f := fun v => qm_ct pl (128 * v) 128) (g := fun _ => 128) (fun v _ => qm_ct_le pl (128 * v) 128)
  rw [qs_const] at this
  exact this
abbrev qm_th (th : Nat → Bool) (v : Int32) : Prop := qp_in v 16 ∧ th v.toNatClampNeg = true
theorem qm_thN {th : Nat → Bool} {n : Nat} (hn : n < 16) : qm_th th (nI n) ↔ th n = true := by
  unfold qm_th
  rw [nI_clamp (by omega)]
  exact ⟨fun q => q.2, fun q => ⟨qp_nI hn (by decide), q⟩⟩
set_option maxHeartbeats 4000000 in
set_option maxRecDepth 100000 in
theorem c_Mo_isPiece (l : Launch) (D : va_G) (v : Int32) : qMi l y_Mo_isPiece b_Mo_isPiece 1 (some .boolean) (rmL 1) D [] [.int (v)] [] [] (qp_b (qp_in v 128)) := by
  refine q_start (Qc := qZi D _ _ _) (by decide +kernel) (Nat.le_of_ble_eq_true rfl) ?_
  intro p e s m below meth c A hx hb hr hlk hml hown hts hK hP hD hS hA hN ls hl
  have hl : lv_has ls 1 [(0, .int (v))] := hl
  have hP : va_P D cls [] s.heap := hP
  have hD : va_D A [] := hD
  refine lv_iload_n hx hb d_Mo_isPiece_0 rfl (lv_at hl 0 rfl) ?_
  refine lv_if_lt (tgt := 15) hx hb d_Mo_isPiece_1 (by decide) (fun c1 => ?_) (fun c1 => ?_)
  · refine lv_iconst (v := nI 0) hx hb d_Mo_isPiece_15 (by decide) ?_
    exact q_zret (ty := .boolean) hx hb hr (by decide) hlk hK hP hD hS d_Mo_isPiece_16 (by rw [qp_b_f (fun q => q.1 c1)]) (rfl)
  · refine lv_iload_n hx hb d_Mo_isPiece_4 rfl (lv_at hl 0 rfl) ?_
    refine lv_sipush (v := nI 128) hx hb d_Mo_isPiece_5 (by decide) ?_
    refine lv_icmp_ge (tgt := 15) hx hb d_Mo_isPiece_8 (by decide) (fun c8 => ?_) (fun c8 => ?_)
    · refine lv_iconst (v := nI 0) hx hb d_Mo_isPiece_15 (by decide) ?_
      exact q_zret (ty := .boolean) hx hb hr (by decide) hlk hK hP hD hS d_Mo_isPiece_16 (by rw [qp_b_f (fun q => q.2 c8)]) (rfl)
    · refine lv_iconst (v := nI 1) hx hb d_Mo_isPiece_11 (by decide) ?_
      refine lv_goto (tgt := 16) hx hb d_Mo_isPiece_12 (by decide) ?_
      exact q_zret (ty := .boolean) hx hb hr (by decide) hlk hK hP hD hS d_Mo_isPiece_16 (by rw [qp_b_t ⟨c1, c8⟩]) (rfl)
theorem c_Mo_isPieceY (l : Launch) (D : va_G) (v : Nat) (kv : v < 128) : qMi l y_Mo_isPiece b_Mo_isPiece 1 (some .boolean) (rmL 1) D [] [.int (nI v)] [] [] (nI 1) := by
  have q := c_Mo_isPiece l D (nI v)
  rw [qp_b_t (qp_nI kv (by decide))] at q
  exact q
set_option maxHeartbeats 4000000 in
set_option maxRecDepth 100000 in
theorem c_Mo_isThereN (l : Launch) (D : va_G) (cZ : ClassId) (cI : ClassId) (cB : ClassId) (mo : Nat) (r1 : Nat) (r2 : Nat) (r3 : Nat) (r4 : Nat) (r5 : Nat) (r6 : Nat) (th : Nat → Bool) (pl : Nat → Nat) (mk : Nat → Int32) (nt : Nat → Int32) (bt : Nat → Int32) (us : Nat → Bool) (md : Int32) (ck : Int32) (v : Nat) (kv : v < 16) : qMi l y_Mo_isThere b_Mo_isThere 2 (some .boolean) (rmL 1) D [(cZ, .boolean), (cI, .int), (cB, .byte)] [.ref mo, .int (nI v)] [(mo, .inr (5, [.ref r1, .ref r2, .ref r3, .ref r4, .ref r5, .ref r6, .int (md), .int (ck), .int (nI 0)])), (r1, .inl (cZ, 32, .inl (qm_T th))), (r2, .inl (cI, 4096, .inl (qm_P pl))), (r3, .inl (cI, 4096, .inl (mk))), (r4, .inl (cI, 64, .inl (nt))), (r5, .inl (cB, 76800, .inl (bt))), (r6, .inl (cZ, 600, .inl (qm_T us)))] [(mo, .inr (5, [.ref r1, .ref r2, .ref r3, .ref r4, .ref r5, .ref r6, .int (md), .int (ck), .int (nI 0)])), (r1, .inl (cZ, 32, .inl (qm_T th))), (r2, .inl (cI, 4096, .inl (qm_P pl))), (r3, .inl (cI, 4096, .inl (mk))), (r4, .inl (cI, 64, .inl (nt))), (r5, .inl (cB, 76800, .inl (bt))), (r6, .inl (cZ, 600, .inl (qm_T us)))] (qp_b (th v = true)) := by
  refine q_start (Qc := qZi D _ _ _) (by decide +kernel) (Nat.le_of_ble_eq_true rfl) ?_
  intro p e s m below meth c A hx hb hr hlk hml hown hts hK hP hD hS hA hN ls hl
  have hl : lv_has ls 2 [(0, .ref mo), (1, .int (nI v))] := hl
  have hP : va_P D cls [(mo, .inr (5, [.ref r1, .ref r2, .ref r3, .ref r4, .ref r5, .ref r6, .int (md), .int (ck), .int (nI 0)])), (r1, .inl (cZ, 32, .inl (qm_T th))), (r2, .inl (cI, 4096, .inl (qm_P pl))), (r3, .inl (cI, 4096, .inl (mk))), (r4, .inl (cI, 64, .inl (nt))), (r5, .inl (cB, 76800, .inl (bt))), (r6, .inl (cZ, 600, .inl (qm_T us)))] s.heap := hP
  have hD : va_D A [(mo, .inr (5, [.ref r1, .ref r2, .ref r3, .ref r4, .ref r5, .ref r6, .int (md), .int (ck), .int (nI 0)])), (r1, .inl (cZ, 32, .inl (qm_T th))), (r2, .inl (cI, 4096, .inl (qm_P pl))), (r3, .inl (cI, 4096, .inl (mk))), (r4, .inl (cI, 64, .inl (nt))), (r5, .inl (cB, 76800, .inl (bt))), (r6, .inl (cZ, 600, .inl (qm_T us)))] := hD
  refine lv_iload_n hx hb d_Mo_isThere_0 rfl (lv_at hl 1 rfl) ?_
  refine lv_if_lt (tgt := 23) hx hb d_Mo_isThere_1 (by decide) (fun c1 => ?_) (fun c1 => ?_)
  · exact absurd c1 (nI_pos (by omega))
  · refine lv_iload_n hx hb d_Mo_isThere_4 rfl (lv_at hl 1 rfl) ?_
    refine lv_bipush (v := nI 16) hx hb d_Mo_isThere_5 (by decide) ?_
    refine lv_icmp_ge (tgt := 23) hx hb d_Mo_isThere_7 (by decide) (fun c7 => ?_) (fun c7 => ?_)
    · have c7 : 16 ≤ v := (nI_leI (by omega) (by omega)).mp c7
      exfalso; omega
    · have c7 : ¬ 16 ≤ v := fun h9 => c7 ((nI_leI (by omega) (by omega)).mpr h9)
      refine lv_aload_n hx hb d_Mo_isThere_10 rfl (lv_at hl 0 rfl) ?_
      refine va_get (D := D) (ci := 5) (v := .ref r1) (C := R_Mo) (T := F_Mo) (N := 9) hx hb hts i_Mo hown hK hP 0 rfl rfl 0 (by decide) (hts _ fl_Mo_7) (fun _ h9 => h9) rfl d_Mo_isThere_11 ?_
      refine lv_iload_n hx hb d_Mo_isThere_14 rfl (lv_at hl 1 rfl) ?_
      refine va_zald hx hb hK hP 1 0 rfl rfl (vp_in_nI (by omega) (by decide)) d_Mo_isThere_15 ?_
      refine q_ti (y := (qm_T th) (v)) (by rw [nI_clamp (by omega)]) ?_
      refine lv_if_eq (tgt := 23) hx hb d_Mo_isThere_16 (by decide) (fun c16 => ?_) (fun c16 => ?_)
      · have c16 := qm_T0 c16
        refine lv_iconst (v := nI 0) hx hb d_Mo_isThere_23 (by decide) ?_
        exact q_zret (ty := .boolean) hx hb hr (by decide) hlk hK hP hD hS d_Mo_isThere_24 (by rw [qp_b_f (fun q => by rw [c16] at q; cases q)]) (rfl)
      · have c16 := qm_T1 c16
        refine lv_iconst (v := nI 1) hx hb d_Mo_isThere_19 (by decide) ?_
        refine lv_goto (tgt := 24) hx hb d_Mo_isThere_20 (by decide) ?_
        exact q_zret (ty := .boolean) hx hb hr (by decide) hlk hK hP hD hS d_Mo_isThere_24 (by rw [qp_b_t c16]) (rfl)
set_option maxHeartbeats 4000000 in
set_option maxRecDepth 100000 in
theorem c_Mo_isThereX (l : Launch) (D : va_G) (cZ : ClassId) (cI : ClassId) (cB : ClassId) (mo : Nat) (r1 : Nat) (r2 : Nat) (r3 : Nat) (r4 : Nat) (r5 : Nat) (r6 : Nat) (th : Nat → Bool) (pl : Nat → Nat) (mk : Nat → Int32) (nt : Nat → Int32) (bt : Nat → Int32) (us : Nat → Bool) (md : Int32) (ck : Int32) (v : Int32) (kv : ¬ qp_in v 16) : qMi l y_Mo_isThere b_Mo_isThere 2 (some .boolean) (rmL 1) D [(cZ, .boolean), (cI, .int), (cB, .byte)] [.ref mo, .int (v)] [(mo, .inr (5, [.ref r1, .ref r2, .ref r3, .ref r4, .ref r5, .ref r6, .int (md), .int (ck), .int (nI 0)])), (r1, .inl (cZ, 32, .inl (qm_T th))), (r2, .inl (cI, 4096, .inl (qm_P pl))), (r3, .inl (cI, 4096, .inl (mk))), (r4, .inl (cI, 64, .inl (nt))), (r5, .inl (cB, 76800, .inl (bt))), (r6, .inl (cZ, 600, .inl (qm_T us)))] [(mo, .inr (5, [.ref r1, .ref r2, .ref r3, .ref r4, .ref r5, .ref r6, .int (md), .int (ck), .int (nI 0)])), (r1, .inl (cZ, 32, .inl (qm_T th))), (r2, .inl (cI, 4096, .inl (qm_P pl))), (r3, .inl (cI, 4096, .inl (mk))), (r4, .inl (cI, 64, .inl (nt))), (r5, .inl (cB, 76800, .inl (bt))), (r6, .inl (cZ, 600, .inl (qm_T us)))] (qp_b (qm_th th v)) := by
  refine q_start (Qc := qZi D _ _ _) (by decide +kernel) (Nat.le_of_ble_eq_true rfl) ?_
  intro p e s m below meth c A hx hb hr hlk hml hown hts hK hP hD hS hA hN ls hl
  have hl : lv_has ls 2 [(0, .ref mo), (1, .int (v))] := hl
  have hP : va_P D cls [(mo, .inr (5, [.ref r1, .ref r2, .ref r3, .ref r4, .ref r5, .ref r6, .int (md), .int (ck), .int (nI 0)])), (r1, .inl (cZ, 32, .inl (qm_T th))), (r2, .inl (cI, 4096, .inl (qm_P pl))), (r3, .inl (cI, 4096, .inl (mk))), (r4, .inl (cI, 64, .inl (nt))), (r5, .inl (cB, 76800, .inl (bt))), (r6, .inl (cZ, 600, .inl (qm_T us)))] s.heap := hP
  have hD : va_D A [(mo, .inr (5, [.ref r1, .ref r2, .ref r3, .ref r4, .ref r5, .ref r6, .int (md), .int (ck), .int (nI 0)])), (r1, .inl (cZ, 32, .inl (qm_T th))), (r2, .inl (cI, 4096, .inl (qm_P pl))), (r3, .inl (cI, 4096, .inl (mk))), (r4, .inl (cI, 64, .inl (nt))), (r5, .inl (cB, 76800, .inl (bt))), (r6, .inl (cZ, 600, .inl (qm_T us)))] := hD
  refine lv_iload_n hx hb d_Mo_isThere_0 rfl (lv_at hl 1 rfl) ?_
  refine lv_if_lt (tgt := 23) hx hb d_Mo_isThere_1 (by decide) (fun c1 => ?_) (fun c1 => ?_)
  · refine lv_iconst (v := nI 0) hx hb d_Mo_isThere_23 (by decide) ?_
    exact q_zret (ty := .boolean) hx hb hr (by decide) hlk hK hP hD hS d_Mo_isThere_24 (by rw [qp_b_f (fun q => kv q.1)]) (rfl)
  · refine lv_iload_n hx hb d_Mo_isThere_4 rfl (lv_at hl 1 rfl) ?_
    refine lv_bipush (v := nI 16) hx hb d_Mo_isThere_5 (by decide) ?_
    refine lv_icmp_ge (tgt := 23) hx hb d_Mo_isThere_7 (by decide) (fun c7 => ?_) (fun c7 => ?_)
    · refine lv_iconst (v := nI 0) hx hb d_Mo_isThere_23 (by decide) ?_
      exact q_zret (ty := .boolean) hx hb hr (by decide) hlk hK hP hD hS d_Mo_isThere_24 (by rw [qp_b_f (fun q => kv q.1)]) (rfl)
    · exact absurd ⟨c1, c7⟩ kv
theorem c_Mo_isThere (l : Launch) (D : va_G) (cZ : ClassId) (cI : ClassId) (cB : ClassId) (mo : Nat) (r1 : Nat) (r2 : Nat) (r3 : Nat) (r4 : Nat) (r5 : Nat) (r6 : Nat) (th : Nat → Bool) (pl : Nat → Nat) (mk : Nat → Int32) (nt : Nat → Int32) (bt : Nat → Int32) (us : Nat → Bool) (md : Int32) (ck : Int32) (v : Int32) : qMi l y_Mo_isThere b_Mo_isThere 2 (some .boolean) (rmL 1) D [(cZ, .boolean), (cI, .int), (cB, .byte)] [.ref mo, .int (v)] [(mo, .inr (5, [.ref r1, .ref r2, .ref r3, .ref r4, .ref r5, .ref r6, .int (md), .int (ck), .int (nI 0)])), (r1, .inl (cZ, 32, .inl (qm_T th))), (r2, .inl (cI, 4096, .inl (qm_P pl))), (r3, .inl (cI, 4096, .inl (mk))), (r4, .inl (cI, 64, .inl (nt))), (r5, .inl (cB, 76800, .inl (bt))), (r6, .inl (cZ, 600, .inl (qm_T us)))] [(mo, .inr (5, [.ref r1, .ref r2, .ref r3, .ref r4, .ref r5, .ref r6, .int (md), .int (ck), .int (nI 0)])), (r1, .inl (cZ, 32, .inl (qm_T th))), (r2, .inl (cI, 4096, .inl (qm_P pl))), (r3, .inl (cI, 4096, .inl (mk))), (r4, .inl (cI, 64, .inl (nt))), (r5, .inl (cB, 76800, .inl (bt))), (r6, .inl (cZ, 600, .inl (qm_T us)))] (qp_b (qm_th th v)) := by
  by_cases hv : qp_in v 16
  · obtain ⟨n, hn, rfl⟩ := qp_of (by decide) hv
    have q := c_Mo_isThereN l D cZ cI cB mo r1 r2 r3 r4 r5 r6 th pl mk nt bt us md ck n hn
    by_cases ht : th n = true
    · rw [qp_b_t ht] at q; rw [qp_b_t ((qm_thN hn).mpr ht)]; exact q
    · rw [qp_b_f ht] at q; rw [qp_b_f (fun z => ht ((qm_thN hn).mp z))]; exact q
  · exact c_Mo_isThereX l D cZ cI cB mo r1 r2 r3 r4 r5 r6 th pl mk nt bt us md ck v hv
theorem c_Mo_isThereY (l : Launch) (D : va_G) (cZ : ClassId) (cI : ClassId) (cB : ClassId) (mo : Nat) (r1 : Nat) (r2 : Nat) (r3 : Nat) (r4 : Nat) (r5 : Nat) (r6 : Nat) (th : Nat → Bool) (pl : Nat → Nat) (mk : Nat → Int32) (nt : Nat → Int32) (bt : Nat → Int32) (us : Nat → Bool) (md : Int32) (ck : Int32) (v : Nat) (kv : v < 16) (kt : th v = true) : qMi l y_Mo_isThere b_Mo_isThere 2 (some .boolean) (rmL 1) D [(cZ, .boolean), (cI, .int), (cB, .byte)] [.ref mo, .int (nI v)] [(mo, .inr (5, [.ref r1, .ref r2, .ref r3, .ref r4, .ref r5, .ref r6, .int (md), .int (ck), .int (nI 0)])), (r1, .inl (cZ, 32, .inl (qm_T th))), (r2, .inl (cI, 4096, .inl (qm_P pl))), (r3, .inl (cI, 4096, .inl (mk))), (r4, .inl (cI, 64, .inl (nt))), (r5, .inl (cB, 76800, .inl (bt))), (r6, .inl (cZ, 600, .inl (qm_T us)))] [(mo, .inr (5, [.ref r1, .ref r2, .ref r3, .ref r4, .ref r5, .ref r6, .int (md), .int (ck), .int (nI 0)])), (r1, .inl (cZ, 32, .inl (qm_T th))), (r2, .inl (cI, 4096, .inl (qm_P pl))), (r3, .inl (cI, 4096, .inl (mk))), (r4, .inl (cI, 64, .inl (nt))), (r5, .inl (cB, 76800, .inl (bt))), (r6, .inl (cZ, 600, .inl (qm_T us)))] (nI 1) := by
  have q := c_Mo_isThere l D cZ cI cB mo r1 r2 r3 r4 r5 r6 th pl mk nt bt us md ck (nI v)
  rw [qp_b_t ((qm_thN kv).mpr kt)] at q
  exact q
set_option maxHeartbeats 4000000 in
set_option maxRecDepth 100000 in
theorem c_Mo_many (l : Launch) (D : va_G) (cZ : ClassId) (cI : ClassId) (cB : ClassId) (mo : Nat) (r1 : Nat) (r2 : Nat) (r3 : Nat) (r4 : Nat) (r5 : Nat) (r6 : Nat) (th : Nat → Bool) (pl : Nat → Nat) (mk : Nat → Int32) (nt : Nat → Int32) (bt : Nat → Int32) (us : Nat → Bool) (md : Int32) (ck : Int32) (v : Nat) (kv : v < 16) (kpl : ∀ k, pl k ≤ 600) : qMi l y_Mo_many b_Mo_many 4 (some .int) (rmL 1) D [(cZ, .boolean), (cI, .int), (cB, .byte)] [.ref mo, .int (nI v)] [(mo, .inr (5, [.ref r1, .ref r2, .ref r3, .ref r4, .ref r5, .ref r6, .int (md), .int (ck), .int (nI 0)])), (r1, .inl (cZ, 32, .inl (qm_T th))), (r2, .inl (cI, 4096, .inl (qm_P pl))), (r3, .inl (cI, 4096, .inl (mk))), (r4, .inl (cI, 64, .inl (nt))), (r5, .inl (cB, 76800, .inl (bt))), (r6, .inl (cZ, 600, .inl (qm_T us)))] [(mo, .inr (5, [.ref r1, .ref r2, .ref r3, .ref r4, .ref r5, .ref r6, .int (md), .int (ck), .int (nI 0)])), (r1, .inl (cZ, 32, .inl (qm_T th))), (r2, .inl (cI, 4096, .inl (qm_P pl))), (r3, .inl (cI, 4096, .inl (mk))), (r4, .inl (cI, 64, .inl (nt))), (r5, .inl (cB, 76800, .inl (bt))), (r6, .inl (cZ, 600, .inl (qm_T us)))] (nI (qm_ct pl (128 * v) (128))) := by
  refine q_start (Qc := qZi D _ _ _) (by decide +kernel) (Nat.le_of_ble_eq_true rfl) ?_
  intro p e s m below meth c A hx hb hr hlk hml hown hts hK hP hD hS hA hN ls hl
  have hl : lv_has ls 4 [(0, .ref mo), (1, .int (nI v))] := hl
  have hP : va_P D cls [(mo, .inr (5, [.ref r1, .ref r2, .ref r3, .ref r4, .ref r5, .ref r6, .int (md), .int (ck), .int (nI 0)])), (r1, .inl (cZ, 32, .inl (qm_T th))), (r2, .inl (cI, 4096, .inl (qm_P pl))), (r3, .inl (cI, 4096, .inl (mk))), (r4, .inl (cI, 64, .inl (nt))), (r5, .inl (cB, 76800, .inl (bt))), (r6, .inl (cZ, 600, .inl (qm_T us)))] s.heap := hP
  have hD : va_D A [(mo, .inr (5, [.ref r1, .ref r2, .ref r3, .ref r4, .ref r5, .ref r6, .int (md), .int (ck), .int (nI 0)])), (r1, .inl (cZ, 32, .inl (qm_T th))), (r2, .inl (cI, 4096, .inl (qm_P pl))), (r3, .inl (cI, 4096, .inl (mk))), (r4, .inl (cI, 64, .inl (nt))), (r5, .inl (cB, 76800, .inl (bt))), (r6, .inl (cZ, 600, .inl (qm_T us)))] := hD
  refine lv_iconst (v := nI 0) hx hb d_Mo_many_0 (by decide) ?_
  refine lv_istore_n (lv' := [(2, .int (nI 0)), (0, .ref mo), (1, .int (nI v))]) hx hb d_Mo_many_1 rfl hl (by decide) rfl (fun ls hl => ?_)
  refine lv_iconst (v := nI 0) hx hb d_Mo_many_2 (by decide) ?_
  refine lv_istore_n (lv' := [(3, .int (nI 0)), (2, .int (nI 0)), (0, .ref mo), (1, .int (nI v))]) hx hb d_Mo_many_3 rfl hl (by decide) rfl (fun ls hl => ?_)
  refine q_loop (pc := 4) (σ := Unit) (I := fun i u9 H locs ls => va_P D cls [(mo, .inr (5, [.ref r1, .ref r2, .ref r3, .ref r4, .ref r5, .ref r6, .int (md), .int (ck), .int (nI 0)])), (r1, .inl (cZ, 32, .inl (qm_T th))), (r2, .inl (cI, 4096, .inl (qm_P pl))), (r3, .inl (cI, 4096, .inl (mk))), (r4, .inl (cI, 64, .inl (nt))), (r5, .inl (cB, 76800, .inl (bt))), (r6, .inl (cZ, 600, .inl (qm_T us)))] H ∧ va_D A [(mo, .inr (5, [.ref r1, .ref r2, .ref r3, .ref r4, .ref r5, .ref r6, .int (md), .int (ck), .int (nI 0)])), (r1, .inl (cZ, 32, .inl (qm_T th))), (r2, .inl (cI, 4096, .inl (qm_P pl))), (r3, .inl (cI, 4096, .inl (mk))), (r4, .inl (cI, 64, .inl (nt))), (r5, .inl (cB, 76800, .inl (bt))), (r6, .inl (cZ, 600, .inl (qm_T us)))] ∧ va_S A s.heap H locs ∧ lv_has ls 4 [(0, .ref mo), (1, .int (nI v)), (2, .int (nI (qm_ct pl (128 * v) (i)))), (3, .int (nI i))] ∧ (qm_ct pl (128 * v) (i) ≤ i)) (128) ?_ ?_ (0) (()) _ _ _ (by omega) ⟨hP, hD, hS, lv_sub hl [2, 3, 1, 0] rfl, Nat.le_refl _⟩
  · intro u9 H locs ls hI
    obtain ⟨hP, hD, hS, hl, hF⟩ := hI
    refine lv_iload_n hx hb d_Mo_many_4 rfl (lv_at hl 3 rfl) ?_
    refine lv_sipush (v := nI 128) hx hb d_Mo_many_5 (by decide) ?_
    refine lv_icmp_ge (tgt := 40) hx hb d_Mo_many_8 (by decide) (fun c8 => ?_) (fun c8 => ?_)
    · have c8 : 128 ≤ 128 := (nI_leI (by omega) (by omega)).mp c8
      refine lv_iload_n hx hb d_Mo_many_40 rfl (lv_at hl 2 rfl) ?_
      exact q_iret hx hb hr hlk hK hP hD hS d_Mo_many_41 (rfl) (rfl)
    · have c8 : ¬ 128 ≤ 128 := fun h9 => c8 ((nI_leI (by omega) (by omega)).mpr h9)
      exfalso; omega
  · intro i u9 H locs ls hi hI ih
    obtain ⟨hP, hD, hS, hl, hF⟩ := hI
    refine lv_iload_n hx hb d_Mo_many_4 rfl (lv_at hl 3 rfl) ?_
    refine lv_sipush (v := nI 128) hx hb d_Mo_many_5 (by decide) ?_
    refine lv_icmp_ge (tgt := 40) hx hb d_Mo_many_8 (by decide) (fun c8 => ?_) (fun c8 => ?_)
    · have c8 : 128 ≤ i := (nI_leI (by omega) (by omega)).mp c8
      exfalso; omega
    · have c8 : ¬ 128 ≤ i := fun h9 => c8 ((nI_leI (by omega) (by omega)).mpr h9)
      refine lv_iload_n hx hb d_Mo_many_11 rfl (lv_at hl 2 rfl) ?_
      refine lv_aload_n hx hb d_Mo_many_12 rfl (lv_at hl 0 rfl) ?_
      refine va_get (D := D) (ci := 5) (v := .ref r2) (C := R_Mo) (T := F_Mo) (N := 9) hx hb hts i_Mo hown hK hP 0 rfl rfl 1 (by decide) (hts _ fl_Mo_13) (fun _ h9 => h9) rfl d_Mo_many_13 ?_
      refine lv_sipush (v := nI 128) hx hb d_Mo_many_16 (by decide) ?_
      refine lv_iload_n hx hb d_Mo_many_19 rfl (lv_at hl 1 rfl) ?_
      refine lv_imul hx hb d_Mo_many_20 ?_
      refine q_ti (y := nI (128 * v)) (pk_mul _ _) ?_
      refine lv_iload_n hx hb d_Mo_many_21 rfl (lv_at hl 3 rfl) ?_
      refine lv_iadd hx hb d_Mo_many_22 ?_
      refine q_ti (y := nI (128 * v + i)) (nI_add _ _) ?_
      refine va_iald hx hb hK hP 2 1 rfl rfl (vp_in_nI (by omega) (by decide)) d_Mo_many_23 ?_
      refine q_ti (y := (qm_P pl) (128 * v + i)) (by rw [nI_clamp (by omega)]) ?_
      refine lv_if_lt (tgt := 31) hx hb d_Mo_many_24 (by decide) (fun c24 => ?_) (fun c24 => ?_)
      · have c24 := qm_Pn (kpl _) c24
        refine lv_iconst (v := nI 0) hx hb d_Mo_many_31 (by decide) ?_
        refine lv_iadd hx hb d_Mo_many_32 ?_
        refine q_ti (y := nI (qm_ct pl (128 * v) (i) + 0)) (nI_add _ _) ?_
        refine lv_istore_n (lv' := [(2, .int (nI (qm_ct pl (128 * v) (i) + 0))), (0, .ref mo), (1, .int (nI v)), (3, .int (nI i))]) hx hb d_Mo_many_33 rfl hl (by decide) rfl (fun ls hl => ?_)
        refine lv_iinc (v := nI (i + 1)) (lv' := [(3, .int (nI (i + 1))), (2, .int (nI (qm_ct pl (128 * v) (i) + 0))), (0, .ref mo), (1, .int (nI v))]) hx hb d_Mo_many_34 hl (k := 3) rfl (nI_1 _) (by decide) rfl (fun ls hl => ?_)
        refine lv_goto (tgt := 4) hx hb d_Mo_many_37 (by decide) ?_
        exact ih (()) _ _ _ ⟨(by first | exact hP | (rw [qm_ct_z c24]; exact hP)), (by first | exact hD | (rw [qm_ct_z c24]; exact hD)), hS, (by first | exact lv_sub hl [2, 3, 1, 0] rfl | (rw [qm_ct_z c24]; exact lv_sub hl [2, 3, 1, 0] rfl)), by rw [qm_ct_z c24]; omega⟩
      · have c24 := qm_Pp (kpl _) c24
        refine lv_iconst (v := nI 1) hx hb d_Mo_many_27 (by decide) ?_
        refine lv_goto (tgt := 32) hx hb d_Mo_many_28 (by decide) ?_
        refine lv_iadd hx hb d_Mo_many_32 ?_
        refine q_ti (y := nI (qm_ct pl (128 * v) (i) + 1)) (nI_add _ _) ?_
        refine lv_istore_n (lv' := [(2, .int (nI (qm_ct pl (128 * v) (i) + 1))), (0, .ref mo), (1, .int (nI v)), (3, .int (nI i))]) hx hb d_Mo_many_33 rfl hl (by decide) rfl (fun ls hl => ?_)
        refine lv_iinc (v := nI (i + 1)) (lv' := [(3, .int (nI (i + 1))), (2, .int (nI (qm_ct pl (128 * v) (i) + 1))), (0, .ref mo), (1, .int (nI v))]) hx hb d_Mo_many_34 hl (k := 3) rfl (nI_1 _) (by decide) rfl (fun ls hl => ?_)
        refine lv_goto (tgt := 4) hx hb d_Mo_many_37 (by decide) ?_
        exact ih (()) _ _ _ ⟨(by first | exact hP | (rw [qm_ct_n c24]; exact hP)), (by first | exact hD | (rw [qm_ct_n c24]; exact hD)), hS, (by first | exact lv_sub hl [2, 3, 1, 0] rfl | (rw [qm_ct_n c24]; exact lv_sub hl [2, 3, 1, 0] rfl)), by rw [qm_ct_n c24]; omega⟩
set_option maxHeartbeats 4000000 in
set_option maxRecDepth 100000 in
theorem c_Mo_all (l : Launch) (D : va_G) (cZ : ClassId) (cI : ClassId) (cB : ClassId) (mo : Nat) (r1 : Nat) (r2 : Nat) (r3 : Nat) (r4 : Nat) (r5 : Nat) (r6 : Nat) (th : Nat → Bool) (pl : Nat → Nat) (mk : Nat → Int32) (nt : Nat → Int32) (bt : Nat → Int32) (us : Nat → Bool) (md : Int32) (ck : Int32) (kpl : ∀ k, pl k ≤ 600) : qMi l y_Mo_all b_Mo_all 3 (some .int) (rmL 2) D [(cZ, .boolean), (cI, .int), (cB, .byte)] [.ref mo] [(mo, .inr (5, [.ref r1, .ref r2, .ref r3, .ref r4, .ref r5, .ref r6, .int (md), .int (ck), .int (nI 0)])), (r1, .inl (cZ, 32, .inl (qm_T th))), (r2, .inl (cI, 4096, .inl (qm_P pl))), (r3, .inl (cI, 4096, .inl (mk))), (r4, .inl (cI, 64, .inl (nt))), (r5, .inl (cB, 76800, .inl (bt))), (r6, .inl (cZ, 600, .inl (qm_T us)))] [(mo, .inr (5, [.ref r1, .ref r2, .ref r3, .ref r4, .ref r5, .ref r6, .int (md), .int (ck), .int (nI 0)])), (r1, .inl (cZ, 32, .inl (qm_T th))), (r2, .inl (cI, 4096, .inl (qm_P pl))), (r3, .inl (cI, 4096, .inl (mk))), (r4, .inl (cI, 64, .inl (nt))), (r5, .inl (cB, 76800, .inl (bt))), (r6, .inl (cZ, 600, .inl (qm_T us)))] (nI (qs_ (16) (fun v => qm_ct pl (128 * v) 128))) := by
  refine q_start (Qc := qZi D _ _ _) (by decide +kernel) (Nat.le_of_ble_eq_true rfl) ?_
  intro p e s m below meth c A hx hb hr hlk hml hown hts hK hP hD hS hA hN ls hl
  have hl : lv_has ls 3 [(0, .ref mo)] := hl
  have hP : va_P D cls [(mo, .inr (5, [.ref r1, .ref r2, .ref r3, .ref r4, .ref r5, .ref r6, .int (md), .int (ck), .int (nI 0)])), (r1, .inl (cZ, 32, .inl (qm_T th))), (r2, .inl (cI, 4096, .inl (qm_P pl))), (r3, .inl (cI, 4096, .inl (mk))), (r4, .inl (cI, 64, .inl (nt))), (r5, .inl (cB, 76800, .inl (bt))), (r6, .inl (cZ, 600, .inl (qm_T us)))] s.heap := hP
  have hD : va_D A [(mo, .inr (5, [.ref r1, .ref r2, .ref r3, .ref r4, .ref r5, .ref r6, .int (md), .int (ck), .int (nI 0)])), (r1, .inl (cZ, 32, .inl (qm_T th))), (r2, .inl (cI, 4096, .inl (qm_P pl))), (r3, .inl (cI, 4096, .inl (mk))), (r4, .inl (cI, 64, .inl (nt))), (r5, .inl (cB, 76800, .inl (bt))), (r6, .inl (cZ, 600, .inl (qm_T us)))] := hD
  refine lv_iconst (v := nI 0) hx hb d_Mo_all_0 (by decide) ?_
  refine lv_istore_n (lv' := [(1, .int (nI 0)), (0, .ref mo)]) hx hb d_Mo_all_1 rfl hl (by decide) rfl (fun ls hl => ?_)
  refine lv_iconst (v := nI 0) hx hb d_Mo_all_2 (by decide) ?_
  refine lv_istore_n (lv' := [(2, .int (nI 0)), (1, .int (nI 0)), (0, .ref mo)]) hx hb d_Mo_all_3 rfl hl (by decide) rfl (fun ls hl => ?_)
  refine q_loop (pc := 4) (σ := Unit) (I := fun i u9 H locs ls => va_P D cls [(mo, .inr (5, [.ref r1, .ref r2, .ref r3, .ref r4, .ref r5, .ref r6, .int (md), .int (ck), .int (nI 0)])), (r1, .inl (cZ, 32, .inl (qm_T th))), (r2, .inl (cI, 4096, .inl (qm_P pl))), (r3, .inl (cI, 4096, .inl (mk))), (r4, .inl (cI, 64, .inl (nt))), (r5, .inl (cB, 76800, .inl (bt))), (r6, .inl (cZ, 600, .inl (qm_T us)))] H ∧ va_D A [(mo, .inr (5, [.ref r1, .ref r2, .ref r3, .ref r4, .ref r5, .ref r6, .int (md), .int (ck), .int (nI 0)])), (r1, .inl (cZ, 32, .inl (qm_T th))), (r2, .inl (cI, 4096, .inl (qm_P pl))), (r3, .inl (cI, 4096, .inl (mk))), (r4, .inl (cI, 64, .inl (nt))), (r5, .inl (cB, 76800, .inl (bt))), (r6, .inl (cZ, 600, .inl (qm_T us)))] ∧ va_S A s.heap H locs ∧ lv_has ls 3 [(0, .ref mo), (1, .int (nI (qs_ (i) (fun v => qm_ct pl (128 * v) 128)))), (2, .int (nI i))]) (16) ?_ ?_ (0) (()) _ _ _ (by omega) ⟨hP, hD, hS, lv_sub hl [2, 1, 0] rfl⟩
  · intro u9 H locs ls hI
    obtain ⟨hP, hD, hS, hl⟩ := hI
    refine lv_iload_n hx hb d_Mo_all_4 rfl (lv_at hl 2 rfl) ?_
    refine lv_bipush (v := nI 16) hx hb d_Mo_all_5 (by decide) ?_
    refine lv_icmp_ge (tgt := 24) hx hb d_Mo_all_7 (by decide) (fun c7 => ?_) (fun c7 => ?_)
    · have c7 : 16 ≤ 16 := (nI_leI (by omega) (by omega)).mp c7
      refine lv_iload_n hx hb d_Mo_all_24 rfl (lv_at hl 1 rfl) ?_
      exact q_iret hx hb hr hlk hK hP hD hS d_Mo_all_25 (rfl) (rfl)
    · have c7 : ¬ 16 ≤ 16 := fun h9 => c7 ((nI_leI (by omega) (by omega)).mpr h9)
      exfalso; omega
  · intro i u9 H locs ls hi hI ih
    obtain ⟨hP, hD, hS, hl⟩ := hI
    refine lv_iload_n hx hb d_Mo_all_4 rfl (lv_at hl 2 rfl) ?_
    refine lv_bipush (v := nI 16) hx hb d_Mo_all_5 (by decide) ?_
    refine lv_icmp_ge (tgt := 24) hx hb d_Mo_all_7 (by decide) (fun c7 => ?_) (fun c7 => ?_)
    · have c7 : 16 ≤ i := (nI_leI (by omega) (by omega)).mp c7
      exfalso; omega
    · have c7 : ¬ 16 ≤ i := fun h9 => c7 ((nI_leI (by omega) (by omega)).mpr h9)
      refine lv_iload_n hx hb d_Mo_all_10 rfl (lv_at hl 1 rfl) ?_
      refine lv_aload_n hx hb d_Mo_all_11 rfl (lv_at hl 0 rfl) ?_
      refine lv_iload_n hx hb d_Mo_all_12 rfl (lv_at hl 2 rfl) ?_
      refine q_callVi (As := [.int (nI i)]) (rest := [.int (nI (qs_ (i) (fun v => qm_ct pl (128 * v) 128)))]) (wsC := [(mo, .inr (5, [.ref r1, .ref r2, .ref r3, .ref r4, .ref r5, .ref r6, .int (md), .int (ck), .int (nI 0)])), (r1, .inl (cZ, 32, .inl (qm_T th))), (r2, .inl (cI, 4096, .inl (qm_P pl))), (r3, .inl (cI, 4096, .inl (mk))), (r4, .inl (cI, 64, .inl (nt))), (r5, .inl (cB, 76800, .inl (bt))), (r6, .inl (cZ, 600, .inl (qm_T us)))]) (wsR := []) (wsC' := [(mo, .inr (5, [.ref r1, .ref r2, .ref r3, .ref r4, .ref r5, .ref r6, .int (md), .int (ck), .int (nI 0)])), (r1, .inl (cZ, 32, .inl (qm_T th))), (r2, .inl (cI, 4096, .inl (qm_P pl))), (r3, .inl (cI, 4096, .inl (mk))), (r4, .inl (cI, 64, .inl (nt))), (r5, .inl (cB, 76800, .inl (bt))), (r6, .inl (cZ, 600, .inl (qm_T us)))]) (wsN := [(mo, .inr (5, [.ref r1, .ref r2, .ref r3, .ref r4, .ref r5, .ref r6, .int (md), .int (ck), .int (nI 0)])), (r1, .inl (cZ, 32, .inl (qm_T th))), (r2, .inl (cI, 4096, .inl (qm_P pl))), (r3, .inl (cI, 4096, .inl (mk))), (r4, .inl (cI, 64, .inl (nt))), (r5, .inl (cB, 76800, .inl (bt))), (r6, .inl (cZ, 600, .inl (qm_T us)))]) (isT := [0, 1, 2]) (isC := [0, 1, 2, 3, 4, 5, 6]) (isR := []) (isN := [0, 1, 2, 3, 4, 5, 6]) (k := 1) (ci := 5) (C := R_Mo) ⟨hx, hb, hml, hown, hts⟩ (c_Mo_many l D cZ cI cB mo r1 r2 r3 r4 r5 r6 th pl mk nt bt us md ck i (by omega) kpl) (tw_V ml_Mo_42 im_Mo_many se_Mo_many in_Mo cd_Mo_many) rfl ⟨by decide +kernel, Nat.le_of_ble_eq_true rfl, Nat.le_of_ble_eq_true rfl⟩ ⟨Nat.le_of_ble_eq_true rfl, Nat.le_of_ble_eq_true rfl⟩ hK hP hD hS hA hN rfl ⟨rfl, rfl, rfl, by decide, by decide, by decide, by decide⟩ rfl rfl rfl hl.1 rfl rfl (Nat.le_of_ble_eq_true rfl) d_Mo_all_13 (fun H locs hP hD hS => ?_)
      have hq1 := qm_ct_le pl (128 * i) 128
      refine lv_iadd hx hb d_Mo_all_16 ?_
      refine q_ti (y := nI (qs_ (i) (fun v => qm_ct pl (128 * v) 128) + (qm_ct pl (128 * i) (128)))) (nI_add _ _) ?_
      refine lv_istore_n (lv' := [(1, .int (nI (qs_ (i) (fun v => qm_ct pl (128 * v) 128) + (qm_ct pl (128 * i) (128))))), (0, .ref mo), (2, .int (nI i))]) hx hb d_Mo_all_17 rfl hl (by decide) rfl (fun ls hl => ?_)
      refine lv_iinc (v := nI (i + 1)) (lv' := [(2, .int (nI (i + 1))), (1, .int (nI (qs_ (i) (fun v => qm_ct pl (128 * v) 128) + (qm_ct pl (128 * i) (128))))), (0, .ref mo)]) hx hb d_Mo_all_18 hl (k := 2) rfl (nI_1 _) (by decide) rfl (fun ls hl => ?_)
      refine lv_goto (tgt := 4) hx hb d_Mo_all_21 (by decide) ?_
      exact ih (()) _ _ _ ⟨hP, hD, hS, lv_sub hl [2, 1, 0] rfl⟩
set_option maxHeartbeats 4000000 in
set_option maxRecDepth 100000 in
theorem c_Mo_fresh (l : Launch) (D : va_G) (cZ : ClassId) (cI : ClassId) (cB : ClassId) (mo : Nat) (r1 : Nat) (r2 : Nat) (r3 : Nat) (r4 : Nat) (r5 : Nat) (r6 : Nat) (th : Nat → Bool) (pl : Nat → Nat) (mk : Nat → Int32) (nt : Nat → Int32) (bt : Nat → Int32) (us : Nat → Bool) (md : Int32) (ck : Int32) (fr : Nat) (kfr : fr < 600) (ku : us fr = false) (kl : ∀ j, j < fr → us j = true) : qMi l y_Mo_fresh b_Mo_fresh 3 (some .int) (rmL 1) D [(cZ, .boolean), (cI, .int), (cB, .byte)] [.ref mo] [(mo, .inr (5, [.ref r1, .ref r2, .ref r3, .ref r4, .ref r5, .ref r6, .int (md), .int (ck), .int (nI 0)])), (r1, .inl (cZ, 32, .inl (qm_T th))), (r2, .inl (cI, 4096, .inl (qm_P pl))), (r3, .inl (cI, 4096, .inl (mk))), (r4, .inl (cI, 64, .inl (nt))), (r5, .inl (cB, 76800, .inl (bt))), (r6, .inl (cZ, 600, .inl (qm_T us)))] [(mo, .inr (5, [.ref r1, .ref r2, .ref r3, .ref r4, .ref r5, .ref r6, .int (md), .int (ck), .int (nI 0)])), (r1, .inl (cZ, 32, .inl (qm_T th))), (r2, .inl (cI, 4096, .inl (qm_P pl))), (r3, .inl (cI, 4096, .inl (mk))), (r4, .inl (cI, 64, .inl (nt))), (r5, .inl (cB, 76800, .inl (qv_for (128) (fun g j => upd g (128 * fr + j) (vp_nar .byte (nI 0))) bt))), (r6, .inl (cZ, 600, .inl (qm_T (va_up us fr true))))] (nI fr) := by
  refine q_start (Qc := qZi D _ _ _) (by decide +kernel) (Nat.le_of_ble_eq_true rfl) ?_
  intro p e s m below meth c A hx hb hr hlk hml hown hts hK hP hD hS hA hN ls hl
  have hl : lv_has ls 3 [(0, .ref mo)] := hl
  have hP : va_P D cls [(mo, .inr (5, [.ref r1, .ref r2, .ref r3, .ref r4, .ref r5, .ref r6, .int (md), .int (ck), .int (nI 0)])), (r1, .inl (cZ, 32, .inl (qm_T th))), (r2, .inl (cI, 4096, .inl (qm_P pl))), (r3, .inl (cI, 4096, .inl (mk))), (r4, .inl (cI, 64, .inl (nt))), (r5, .inl (cB, 76800, .inl (bt))), (r6, .inl (cZ, 600, .inl (qm_T us)))] s.heap := hP
  have hD : va_D A [(mo, .inr (5, [.ref r1, .ref r2, .ref r3, .ref r4, .ref r5, .ref r6, .int (md), .int (ck), .int (nI 0)])), (r1, .inl (cZ, 32, .inl (qm_T th))), (r2, .inl (cI, 4096, .inl (qm_P pl))), (r3, .inl (cI, 4096, .inl (mk))), (r4, .inl (cI, 64, .inl (nt))), (r5, .inl (cB, 76800, .inl (bt))), (r6, .inl (cZ, 600, .inl (qm_T us)))] := hD
  refine lv_iconst (v := nI 0) hx hb d_Mo_fresh_0 (by decide) ?_
  refine lv_istore_n (lv' := [(1, .int (nI 0)), (0, .ref mo)]) hx hb d_Mo_fresh_1 rfl hl (by decide) rfl (fun ls hl => ?_)
  refine q_loop (pc := 2) (σ := Unit) (I := fun i u9 H locs ls => va_P D cls [(mo, .inr (5, [.ref r1, .ref r2, .ref r3, .ref r4, .ref r5, .ref r6, .int (md), .int (ck), .int (nI 0)])), (r1, .inl (cZ, 32, .inl (qm_T th))), (r2, .inl (cI, 4096, .inl (qm_P pl))), (r3, .inl (cI, 4096, .inl (mk))), (r4, .inl (cI, 64, .inl (nt))), (r5, .inl (cB, 76800, .inl (bt))), (r6, .inl (cZ, 600, .inl (qm_T us)))] H ∧ va_D A [(mo, .inr (5, [.ref r1, .ref r2, .ref r3, .ref r4, .ref r5, .ref r6, .int (md), .int (ck), .int (nI 0)])), (r1, .inl (cZ, 32, .inl (qm_T th))), (r2, .inl (cI, 4096, .inl (qm_P pl))), (r3, .inl (cI, 4096, .inl (mk))), (r4, .inl (cI, 64, .inl (nt))), (r5, .inl (cB, 76800, .inl (bt))), (r6, .inl (cZ, 600, .inl (qm_T us)))] ∧ va_S A s.heap H locs ∧ lv_has ls 3 [(0, .ref mo), (1, .int (nI i))]) (fr) ?_ ?_ (0) (()) _ _ _ (by omega) ⟨hP, hD, hS, lv_sub hl [1, 0] rfl⟩
  · intro u9 H locs ls hI
    obtain ⟨hP, hD, hS, hl⟩ := hI
    refine lv_aload_n hx hb d_Mo_fresh_2 rfl (lv_at hl 0 rfl) ?_
    refine va_get (D := D) (ci := 5) (v := .ref r6) (C := R_Mo) (T := F_Mo) (N := 9) hx hb hts i_Mo hown hK hP 0 rfl rfl 5 (by decide) (hts _ fl_Mo_28) (fun _ h9 => h9) rfl d_Mo_fresh_3 ?_
    refine lv_iload_n hx hb d_Mo_fresh_6 rfl (lv_at hl 1 rfl) ?_
    refine va_zald hx hb hK hP 6 0 rfl rfl (vp_in_nI (by omega) (by decide)) d_Mo_fresh_7 ?_
    refine q_ti (y := (qm_T us) (fr)) (by rw [nI_clamp (by omega)]) ?_
    refine lv_if_eq (tgt := 17) hx hb d_Mo_fresh_8 (by decide) (fun c8 => ?_) (fun c8 => ?_)
    · have c8 := qm_T0 c8
      refine lv_aload_n hx hb d_Mo_fresh_17 rfl (lv_at hl 0 rfl) ?_
      refine va_get (D := D) (ci := 5) (v := .ref r6) (C := R_Mo) (T := F_Mo) (N := 9) hx hb hts i_Mo hown hK hP 0 rfl rfl 5 (by decide) (hts _ fl_Mo_28) (fun _ h9 => h9) rfl d_Mo_fresh_18 ?_
      refine lv_iload_n hx hb d_Mo_fresh_21 rfl (lv_at hl 1 rfl) ?_
      refine lv_iconst (v := nI 1) hx hb d_Mo_fresh_22 (by decide) ?_
      refine va_zast hx hb hK hP hD hS 6 0 rfl rfl (vp_in_nI (by omega) (by decide)) d_Mo_fresh_23 (fun H locs hP hD hS => ?_)
      rw [nI_clamp (by omega)] at hP hD
      have hP : va_P D cls [(mo, .inr (5, [.ref r1, .ref r2, .ref r3, .ref r4, .ref r5, .ref r6, .int (md), .int (ck), .int (nI 0)])), (r1, .inl (cZ, 32, .inl (qm_T th))), (r2, .inl (cI, 4096, .inl (qm_P pl))), (r3, .inl (cI, 4096, .inl (mk))), (r4, .inl (cI, 64, .inl (nt))), (r5, .inl (cB, 76800, .inl (bt))), (r6, .inl (cZ, 600, .inl (upd (qm_T us) (fr) (vp_nar .boolean (nI 1)))))] H := hP
      have hD : va_D A [(mo, .inr (5, [.ref r1, .ref r2, .ref r3, .ref r4, .ref r5, .ref r6, .int (md), .int (ck), .int (nI 0)])), (r1, .inl (cZ, 32, .inl (qm_T th))), (r2, .inl (cI, 4096, .inl (qm_P pl))), (r3, .inl (cI, 4096, .inl (mk))), (r4, .inl (cI, 64, .inl (nt))), (r5, .inl (cB, 76800, .inl (bt))), (r6, .inl (cZ, 600, .inl (upd (qm_T us) (fr) (vp_nar .boolean (nI 1)))))] := hD
      rw [qm_Tt] at hP hD
      have hP : va_P D cls [(mo, .inr (5, [.ref r1, .ref r2, .ref r3, .ref r4, .ref r5, .ref r6, .int (md), .int (ck), .int (nI 0)])), (r1, .inl (cZ, 32, .inl (qm_T th))), (r2, .inl (cI, 4096, .inl (qm_P pl))), (r3, .inl (cI, 4096, .inl (mk))), (r4, .inl (cI, 64, .inl (nt))), (r5, .inl (cB, 76800, .inl (bt))), (r6, .inl (cZ, 600, .inl (qm_T (va_up us fr true))))] H := hP
      have hD : va_D A [(mo, .inr (5, [.ref r1, .ref r2, .ref r3, .ref r4, .ref r5, .ref r6, .int (md), .int (ck), .int (nI 0)])), (r1, .inl (cZ, 32, .inl (qm_T th))), (r2, .inl (cI, 4096, .inl (qm_P pl))), (r3, .inl (cI, 4096, .inl (mk))), (r4, .inl (cI, 64, .inl (nt))), (r5, .inl (cB, 76800, .inl (bt))), (r6, .inl (cZ, 600, .inl (qm_T (va_up us fr true))))] := hD
      refine lv_iconst (v := nI 0) hx hb d_Mo_fresh_24 (by decide) ?_
      refine lv_istore_n (lv' := [(2, .int (nI 0)), (0, .ref mo), (1, .int (nI fr))]) hx hb d_Mo_fresh_25 rfl hl (by decide) rfl (fun ls hl => ?_)
      refine q_loop (pc := 26) (σ := Unit) (I := fun j u8 H locs ls => va_P D cls [(mo, .inr (5, [.ref r1, .ref r2, .ref r3, .ref r4, .ref r5, .ref r6, .int (md), .int (ck), .int (nI 0)])), (r1, .inl (cZ, 32, .inl (qm_T th))), (r2, .inl (cI, 4096, .inl (qm_P pl))), (r3, .inl (cI, 4096, .inl (mk))), (r4, .inl (cI, 64, .inl (nt))), (r5, .inl (cB, 76800, .inl (qv_for (j) (fun g j => upd g (128 * fr + j) (vp_nar .byte (nI 0))) bt))), (r6, .inl (cZ, 600, .inl (qm_T (va_up us fr true))))] H ∧ va_D A [(mo, .inr (5, [.ref r1, .ref r2, .ref r3, .ref r4, .ref r5, .ref r6, .int (md), .int (ck), .int (nI 0)])), (r1, .inl (cZ, 32, .inl (qm_T th))), (r2, .inl (cI, 4096, .inl (qm_P pl))), (r3, .inl (cI, 4096, .inl (mk))), (r4, .inl (cI, 64, .inl (nt))), (r5, .inl (cB, 76800, .inl (qv_for (j) (fun g j => upd g (128 * fr + j) (vp_nar .byte (nI 0))) bt))), (r6, .inl (cZ, 600, .inl (qm_T (va_up us fr true))))] ∧ va_S A s.heap H locs ∧ lv_has ls 3 [(0, .ref mo), (1, .int (nI fr)), (2, .int (nI j))]) (128) ?_ ?_ (0) (()) _ _ _ (by omega) ⟨hP, hD, hS, lv_sub hl [1, 2, 0] rfl⟩
      · intro u8 H locs ls hI
        obtain ⟨hP, hD, hS, hl⟩ := hI
        refine lv_iload_n hx hb d_Mo_fresh_26 rfl (lv_at hl 2 rfl) ?_
        refine lv_sipush (v := nI 128) hx hb d_Mo_fresh_27 (by decide) ?_
        refine lv_icmp_ge (tgt := 52) hx hb d_Mo_fresh_30 (by decide) (fun c30 => ?_) (fun c30 => ?_)
        · have c30 : 128 ≤ 128 := (nI_leI (by omega) (by omega)).mp c30
          refine lv_iload_n hx hb d_Mo_fresh_52 rfl (lv_at hl 1 rfl) ?_
          exact q_iret hx hb hr hlk hK hP hD hS d_Mo_fresh_53 (rfl) (rfl)
        · have c30 : ¬ 128 ≤ 128 := fun h9 => c30 ((nI_leI (by omega) (by omega)).mpr h9)
          exfalso; omega
      · intro j u8 H locs ls hi hI ih
        obtain ⟨hP, hD, hS, hl⟩ := hI
        refine lv_iload_n hx hb d_Mo_fresh_26 rfl (lv_at hl 2 rfl) ?_
        refine lv_sipush (v := nI 128) hx hb d_Mo_fresh_27 (by decide) ?_
        refine lv_icmp_ge (tgt := 52) hx hb d_Mo_fresh_30 (by decide) (fun c30 => ?_) (fun c30 => ?_)
        · have c30 : 128 ≤ j := (nI_leI (by omega) (by omega)).mp c30
          exfalso; omega
        · have c30 : ¬ 128 ≤ j := fun h9 => c30 ((nI_leI (by omega) (by omega)).mpr h9)
          refine lv_aload_n hx hb d_Mo_fresh_33 rfl (lv_at hl 0 rfl) ?_
          refine va_get (D := D) (ci := 5) (v := .ref r5) (C := R_Mo) (T := F_Mo) (N := 9) hx hb hts i_Mo hown hK hP 0 rfl rfl 4 (by decide) (hts _ fl_Mo_24) (fun _ h9 => h9) rfl d_Mo_fresh_34 ?_
          refine lv_sipush (v := nI 128) hx hb d_Mo_fresh_37 (by decide) ?_
          refine lv_iload_n hx hb d_Mo_fresh_40 rfl (lv_at hl 1 rfl) ?_
          refine lv_imul hx hb d_Mo_fresh_41 ?_
          refine q_ti (y := nI (128 * fr)) (pk_mul _ _) ?_
          refine lv_iload_n hx hb d_Mo_fresh_42 rfl (lv_at hl 2 rfl) ?_
          refine lv_iadd hx hb d_Mo_fresh_43 ?_
          refine q_ti (y := nI (128 * fr + j)) (nI_add _ _) ?_
          refine lv_iconst (v := nI 0) hx hb d_Mo_fresh_44 (by decide) ?_
          refine va_bast hx hb hK hP hD hS 5 2 rfl rfl (vp_in_nI (by omega) (by decide)) d_Mo_fresh_45 (fun H locs hP hD hS => ?_)
          rw [nI_clamp (by omega)] at hP hD
          have hP : va_P D cls [(mo, .inr (5, [.ref r1, .ref r2, .ref r3, .ref r4, .ref r5, .ref r6, .int (md), .int (ck), .int (nI 0)])), (r1, .inl (cZ, 32, .inl (qm_T th))), (r2, .inl (cI, 4096, .inl (qm_P pl))), (r3, .inl (cI, 4096, .inl (mk))), (r4, .inl (cI, 64, .inl (nt))), (r5, .inl (cB, 76800, .inl (upd (qv_for (j) (fun g j => upd g (128 * fr + j) (vp_nar .byte (nI 0))) bt) (128 * fr + j) (vp_nar .byte (nI 0))))), (r6, .inl (cZ, 600, .inl (qm_T (va_up us fr true))))] H := hP
          have hD : va_D A [(mo, .inr (5, [.ref r1, .ref r2, .ref r3, .ref r4, .ref r5, .ref r6, .int (md), .int (ck), .int (nI 0)])), (r1, .inl (cZ, 32, .inl (qm_T th))), (r2, .inl (cI, 4096, .inl (qm_P pl))), (r3, .inl (cI, 4096, .inl (mk))), (r4, .inl (cI, 64, .inl (nt))), (r5, .inl (cB, 76800, .inl (upd (qv_for (j) (fun g j => upd g (128 * fr + j) (vp_nar .byte (nI 0))) bt) (128 * fr + j) (vp_nar .byte (nI 0))))), (r6, .inl (cZ, 600, .inl (qm_T (va_up us fr true))))] := hD
          refine lv_iinc (v := nI (j + 1)) (lv' := [(2, .int (nI (j + 1))), (0, .ref mo), (1, .int (nI fr))]) hx hb d_Mo_fresh_46 hl (k := 2) rfl (nI_1 _) (by decide) rfl (fun ls hl => ?_)
          refine lv_goto (tgt := 26) hx hb d_Mo_fresh_49 (by decide) ?_
          exact ih (()) _ _ _ ⟨hP, hD, hS, lv_sub hl [1, 2, 0] rfl⟩
    · have c8 := qm_T1 c8
      first | (rw [hu] at c8; cases c8) | (rw [ku] at c8; cases c8)
  · intro i u9 H locs ls hi hI ih
    obtain ⟨hP, hD, hS, hl⟩ := hI
    have hu := kl i hi
    refine lv_aload_n hx hb d_Mo_fresh_2 rfl (lv_at hl 0 rfl) ?_
    refine va_get (D := D) (ci := 5) (v := .ref r6) (C := R_Mo) (T := F_Mo) (N := 9) hx hb hts i_Mo hown hK hP 0 rfl rfl 5 (by decide) (hts _ fl_Mo_28) (fun _ h9 => h9) rfl d_Mo_fresh_3 ?_
    refine lv_iload_n hx hb d_Mo_fresh_6 rfl (lv_at hl 1 rfl) ?_
    refine va_zald hx hb hK hP 6 0 rfl rfl (vp_in_nI (by omega) (by decide)) d_Mo_fresh_7 ?_
    refine q_ti (y := (qm_T us) (i)) (by rw [nI_clamp (by omega)]) ?_
    refine lv_if_eq (tgt := 17) hx hb d_Mo_fresh_8 (by decide) (fun c8 => ?_) (fun c8 => ?_)
    · have c8 := qm_T0 c8
      first | (rw [hu] at c8; cases c8) | (rw [ku] at c8; cases c8)
    · have c8 := qm_T1 c8
      refine lv_iinc (v := nI (i + 1)) (lv' := [(1, .int (nI (i + 1))), (0, .ref mo)]) hx hb d_Mo_fresh_11 hl (k := 1) rfl (nI_1 _) (by decide) rfl (fun ls hl => ?_)
      refine lv_goto (tgt := 2) hx hb d_Mo_fresh_14 (by decide) ?_
      exact ih (()) _ _ _ ⟨hP, hD, hS, lv_sub hl [1, 0] rfl⟩
set_option maxHeartbeats 4000000 in
set_option maxRecDepth 100000 in
theorem c_Mo_clear0 (l : Launch) (D : va_G) (cZ : ClassId) (cI : ClassId) (cB : ClassId) (mo : Nat) (r1 : Nat) (r2 : Nat) (r3 : Nat) (r4 : Nat) (r5 : Nat) (r6 : Nat) (th : Nat → Bool) (pl : Nat → Nat) (mk : Nat → Int32) (nt : Nat → Int32) (bt : Nat → Int32) (us : Nat → Bool) (md : Int32) (ck : Int32) (u : Nat) (ku : u < 4096) (kz : pl u = 0) (kpl : ∀ k, pl k ≤ 600) : qMv l y_Mo_clear b_Mo_clear 2 none (rmL 1) D [(cZ, .boolean), (cI, .int), (cB, .byte)] [.ref mo, .int (nI u)] [(mo, .inr (5, [.ref r1, .ref r2, .ref r3, .ref r4, .ref r5, .ref r6, .int (md), .int (ck), .int (nI 0)])), (r1, .inl (cZ, 32, .inl (qm_T th))), (r2, .inl (cI, 4096, .inl (qm_P pl))), (r3, .inl (cI, 4096, .inl (mk))), (r4, .inl (cI, 64, .inl (nt))), (r5, .inl (cB, 76800, .inl (bt))), (r6, .inl (cZ, 600, .inl (qm_T us)))] [(mo, .inr (5, [.ref r1, .ref r2, .ref r3, .ref r4, .ref r5, .ref r6, .int (md), .int (ck), .int (nI 0)])), (r1, .inl (cZ, 32, .inl (qm_T th))), (r2, .inl (cI, 4096, .inl (qm_P (va_up pl u 0)))), (r3, .inl (cI, 4096, .inl (mk))), (r4, .inl (cI, 64, .inl (nt))), (r5, .inl (cB, 76800, .inl (bt))), (r6, .inl (cZ, 600, .inl (qm_T us)))] := by
  refine q_start (Qc := qZv D _ _) (by decide +kernel) (Nat.le_of_ble_eq_true rfl) ?_
  intro p e s m below meth c A hx hb hr hlk hml hown hts hK hP hD hS hA hN ls hl
  have hl : lv_has ls 2 [(0, .ref mo), (1, .int (nI u))] := hl
  have hP : va_P D cls [(mo, .inr (5, [.ref r1, .ref r2, .ref r3, .ref r4, .ref r5, .ref r6, .int (md), .int (ck), .int (nI 0)])), (r1, .inl (cZ, 32, .inl (qm_T th))), (r2, .inl (cI, 4096, .inl (qm_P pl))), (r3, .inl (cI, 4096, .inl (mk))), (r4, .inl (cI, 64, .inl (nt))), (r5, .inl (cB, 76800, .inl (bt))), (r6, .inl (cZ, 600, .inl (qm_T us)))] s.heap := hP
  have hD : va_D A [(mo, .inr (5, [.ref r1, .ref r2, .ref r3, .ref r4, .ref r5, .ref r6, .int (md), .int (ck), .int (nI 0)])), (r1, .inl (cZ, 32, .inl (qm_T th))), (r2, .inl (cI, 4096, .inl (qm_P pl))), (r3, .inl (cI, 4096, .inl (mk))), (r4, .inl (cI, 64, .inl (nt))), (r5, .inl (cB, 76800, .inl (bt))), (r6, .inl (cZ, 600, .inl (qm_T us)))] := hD
  refine lv_aload_n hx hb d_Mo_clear_0 rfl (lv_at hl 0 rfl) ?_
  refine va_get (D := D) (ci := 5) (v := .ref r2) (C := R_Mo) (T := F_Mo) (N := 9) hx hb hts i_Mo hown hK hP 0 rfl rfl 1 (by decide) (hts _ fl_Mo_13) (fun _ h9 => h9) rfl d_Mo_clear_1 ?_
  refine lv_iload_n hx hb d_Mo_clear_4 rfl (lv_at hl 1 rfl) ?_
  refine va_iald hx hb hK hP 2 1 rfl rfl (vp_in_nI (by omega) (by decide)) d_Mo_clear_5 ?_
  refine q_ti (y := (qm_P pl) (u)) (by rw [nI_clamp (by omega)]) ?_
  refine lv_if_lt (tgt := 21) hx hb d_Mo_clear_6 (by decide) (fun c6 => ?_) (fun c6 => ?_)
  · have c6 := qm_Pn (kpl _) c6
    refine lv_aload_n hx hb d_Mo_clear_21 rfl (lv_at hl 0 rfl) ?_
    refine va_get (D := D) (ci := 5) (v := .ref r2) (C := R_Mo) (T := F_Mo) (N := 9) hx hb hts i_Mo hown hK hP 0 rfl rfl 1 (by decide) (hts _ fl_Mo_13) (fun _ h9 => h9) rfl d_Mo_clear_22 ?_
    refine lv_iload_n hx hb d_Mo_clear_25 rfl (lv_at hl 1 rfl) ?_
    refine lv_iconst (v := (-1 : Int32)) hx hb d_Mo_clear_26 (by decide) ?_
    refine va_iast hx hb hK hP hD hS 2 1 rfl rfl (vp_in_nI (by omega) (by decide)) d_Mo_clear_27 (fun H locs hP hD hS => ?_)
    rw [nI_clamp (by omega)] at hP hD
    have hP : va_P D cls [(mo, .inr (5, [.ref r1, .ref r2, .ref r3, .ref r4, .ref r5, .ref r6, .int (md), .int (ck), .int (nI 0)])), (r1, .inl (cZ, 32, .inl (qm_T th))), (r2, .inl (cI, 4096, .inl (upd (qm_P pl) (u) ((-1 : Int32))))), (r3, .inl (cI, 4096, .inl (mk))), (r4, .inl (cI, 64, .inl (nt))), (r5, .inl (cB, 76800, .inl (bt))), (r6, .inl (cZ, 600, .inl (qm_T us)))] H := hP
    have hD : va_D A [(mo, .inr (5, [.ref r1, .ref r2, .ref r3, .ref r4, .ref r5, .ref r6, .int (md), .int (ck), .int (nI 0)])), (r1, .inl (cZ, 32, .inl (qm_T th))), (r2, .inl (cI, 4096, .inl (upd (qm_P pl) (u) ((-1 : Int32))))), (r3, .inl (cI, 4096, .inl (mk))), (r4, .inl (cI, 64, .inl (nt))), (r5, .inl (cB, 76800, .inl (bt))), (r6, .inl (cZ, 600, .inl (qm_T us)))] := hD
    rw [qm_Pz] at hP hD
    have hP : va_P D cls [(mo, .inr (5, [.ref r1, .ref r2, .ref r3, .ref r4, .ref r5, .ref r6, .int (md), .int (ck), .int (nI 0)])), (r1, .inl (cZ, 32, .inl (qm_T th))), (r2, .inl (cI, 4096, .inl (qm_P (va_up pl u 0)))), (r3, .inl (cI, 4096, .inl (mk))), (r4, .inl (cI, 64, .inl (nt))), (r5, .inl (cB, 76800, .inl (bt))), (r6, .inl (cZ, 600, .inl (qm_T us)))] H := hP
    have hD : va_D A [(mo, .inr (5, [.ref r1, .ref r2, .ref r3, .ref r4, .ref r5, .ref r6, .int (md), .int (ck), .int (nI 0)])), (r1, .inl (cZ, 32, .inl (qm_T th))), (r2, .inl (cI, 4096, .inl (qm_P (va_up pl u 0)))), (r3, .inl (cI, 4096, .inl (mk))), (r4, .inl (cI, 64, .inl (nt))), (r5, .inl (cB, 76800, .inl (bt))), (r6, .inl (cZ, 600, .inl (qm_T us)))] := hD
    exact q_vret hx hb hr hlk hK hP hD hS d_Mo_clear_28 (rfl)
  · have c6 := qm_Pp (kpl _) c6
    exact absurd kz c6
set_option maxHeartbeats 4000000 in
set_option maxRecDepth 100000 in
theorem c_Mo_clear1 (l : Launch) (D : va_G) (cZ : ClassId) (cI : ClassId) (cB : ClassId) (mo : Nat) (r1 : Nat) (r2 : Nat) (r3 : Nat) (r4 : Nat) (r5 : Nat) (r6 : Nat) (th : Nat → Bool) (pl : Nat → Nat) (mk : Nat → Int32) (nt : Nat → Int32) (bt : Nat → Int32) (us : Nat → Bool) (md : Int32) (ck : Int32) (u : Nat) (w : Nat) (ku : u < 4096) (kz : pl u = w + 1) (kw : w < 600) (kpl : ∀ k, pl k ≤ 600) : qMv l y_Mo_clear b_Mo_clear 2 none (rmL 1) D [(cZ, .boolean), (cI, .int), (cB, .byte)] [.ref mo, .int (nI u)] [(mo, .inr (5, [.ref r1, .ref r2, .ref r3, .ref r4, .ref r5, .ref r6, .int (md), .int (ck), .int (nI 0)])), (r1, .inl (cZ, 32, .inl (qm_T th))), (r2, .inl (cI, 4096, .inl (qm_P pl))), (r3, .inl (cI, 4096, .inl (mk))), (r4, .inl (cI, 64, .inl (nt))), (r5, .inl (cB, 76800, .inl (bt))), (r6, .inl (cZ, 600, .inl (qm_T us)))] [(mo, .inr (5, [.ref r1, .ref r2, .ref r3, .ref r4, .ref r5, .ref r6, .int (md), .int (ck), .int (nI 0)])), (r1, .inl (cZ, 32, .inl (qm_T th))), (r2, .inl (cI, 4096, .inl (qm_P (va_up pl u 0)))), (r3, .inl (cI, 4096, .inl (mk))), (r4, .inl (cI, 64, .inl (nt))), (r5, .inl (cB, 76800, .inl (bt))), (r6, .inl (cZ, 600, .inl (qm_T (va_up us w false))))] := by
  refine q_start (Qc := qZv D _ _) (by decide +kernel) (Nat.le_of_ble_eq_true rfl) ?_
  intro p e s m below meth c A hx hb hr hlk hml hown hts hK hP hD hS hA hN ls hl
  have hl : lv_has ls 2 [(0, .ref mo), (1, .int (nI u))] := hl
  have hP : va_P D cls [(mo, .inr (5, [.ref r1, .ref r2, .ref r3, .ref r4, .ref r5, .ref r6, .int (md), .int (ck), .int (nI 0)])), (r1, .inl (cZ, 32, .inl (qm_T th))), (r2, .inl (cI, 4096, .inl (qm_P pl))), (r3, .inl (cI, 4096, .inl (mk))), (r4, .inl (cI, 64, .inl (nt))), (r5, .inl (cB, 76800, .inl (bt))), (r6, .inl (cZ, 600, .inl (qm_T us)))] s.heap := hP
  have hD : va_D A [(mo, .inr (5, [.ref r1, .ref r2, .ref r3, .ref r4, .ref r5, .ref r6, .int (md), .int (ck), .int (nI 0)])), (r1, .inl (cZ, 32, .inl (qm_T th))), (r2, .inl (cI, 4096, .inl (qm_P pl))), (r3, .inl (cI, 4096, .inl (mk))), (r4, .inl (cI, 64, .inl (nt))), (r5, .inl (cB, 76800, .inl (bt))), (r6, .inl (cZ, 600, .inl (qm_T us)))] := hD
  refine lv_aload_n hx hb d_Mo_clear_0 rfl (lv_at hl 0 rfl) ?_
  refine va_get (D := D) (ci := 5) (v := .ref r2) (C := R_Mo) (T := F_Mo) (N := 9) hx hb hts i_Mo hown hK hP 0 rfl rfl 1 (by decide) (hts _ fl_Mo_13) (fun _ h9 => h9) rfl d_Mo_clear_1 ?_
  refine lv_iload_n hx hb d_Mo_clear_4 rfl (lv_at hl 1 rfl) ?_
  refine va_iald hx hb hK hP 2 1 rfl rfl (vp_in_nI (by omega) (by decide)) d_Mo_clear_5 ?_
  refine q_ti (y := (qm_P pl) (u)) (by rw [nI_clamp (by omega)]) ?_
  refine lv_if_lt (tgt := 21) hx hb d_Mo_clear_6 (by decide) (fun c6 => ?_) (fun c6 => ?_)
  · have c6 := qm_Pn (kpl _) c6
    rw [kz] at c6; omega
  · have c6 := qm_Pp (kpl _) c6
    refine lv_aload_n hx hb d_Mo_clear_9 rfl (lv_at hl 0 rfl) ?_
    refine va_get (D := D) (ci := 5) (v := .ref r6) (C := R_Mo) (T := F_Mo) (N := 9) hx hb hts i_Mo hown hK hP 0 rfl rfl 5 (by decide) (hts _ fl_Mo_28) (fun _ h9 => h9) rfl d_Mo_clear_10 ?_
    refine lv_aload_n hx hb d_Mo_clear_13 rfl (lv_at hl 0 rfl) ?_
    refine va_get (D := D) (ci := 5) (v := .ref r2) (C := R_Mo) (T := F_Mo) (N := 9) hx hb hts i_Mo hown hK hP 0 rfl rfl 1 (by decide) (hts _ fl_Mo_13) (fun _ h9 => h9) rfl d_Mo_clear_14 ?_
    refine lv_iload_n hx hb d_Mo_clear_17 rfl (lv_at hl 1 rfl) ?_
    refine va_iald hx hb hK hP 2 1 rfl rfl (vp_in_nI (by omega) (by decide)) d_Mo_clear_18 ?_
    refine q_ti (y := (qm_P pl) (u)) (by rw [nI_clamp (by omega)]) ?_
    refine q_ti (y := nI w) (qm_Pk kz) ?_
    refine lv_iconst (v := nI 0) hx hb d_Mo_clear_19 (by decide) ?_
    refine va_zast hx hb hK hP hD hS 6 0 rfl rfl (vp_in_nI (by omega) (by decide)) d_Mo_clear_20 (fun H locs hP hD hS => ?_)
    rw [nI_clamp (by omega)] at hP hD
    have hP : va_P D cls [(mo, .inr (5, [.ref r1, .ref r2, .ref r3, .ref r4, .ref r5, .ref r6, .int (md), .int (ck), .int (nI 0)])), (r1, .inl (cZ, 32, .inl (qm_T th))), (r2, .inl (cI, 4096, .inl (qm_P pl))), (r3, .inl (cI, 4096, .inl (mk))), (r4, .inl (cI, 64, .inl (nt))), (r5, .inl (cB, 76800, .inl (bt))), (r6, .inl (cZ, 600, .inl (upd (qm_T us) (w) (vp_nar .boolean (nI 0)))))] H := hP
    have hD : va_D A [(mo, .inr (5, [.ref r1, .ref r2, .ref r3, .ref r4, .ref r5, .ref r6, .int (md), .int (ck), .int (nI 0)])), (r1, .inl (cZ, 32, .inl (qm_T th))), (r2, .inl (cI, 4096, .inl (qm_P pl))), (r3, .inl (cI, 4096, .inl (mk))), (r4, .inl (cI, 64, .inl (nt))), (r5, .inl (cB, 76800, .inl (bt))), (r6, .inl (cZ, 600, .inl (upd (qm_T us) (w) (vp_nar .boolean (nI 0)))))] := hD
    rw [qm_Tf] at hP hD
    have hP : va_P D cls [(mo, .inr (5, [.ref r1, .ref r2, .ref r3, .ref r4, .ref r5, .ref r6, .int (md), .int (ck), .int (nI 0)])), (r1, .inl (cZ, 32, .inl (qm_T th))), (r2, .inl (cI, 4096, .inl (qm_P pl))), (r3, .inl (cI, 4096, .inl (mk))), (r4, .inl (cI, 64, .inl (nt))), (r5, .inl (cB, 76800, .inl (bt))), (r6, .inl (cZ, 600, .inl (qm_T (va_up us w false))))] H := hP
    have hD : va_D A [(mo, .inr (5, [.ref r1, .ref r2, .ref r3, .ref r4, .ref r5, .ref r6, .int (md), .int (ck), .int (nI 0)])), (r1, .inl (cZ, 32, .inl (qm_T th))), (r2, .inl (cI, 4096, .inl (qm_P pl))), (r3, .inl (cI, 4096, .inl (mk))), (r4, .inl (cI, 64, .inl (nt))), (r5, .inl (cB, 76800, .inl (bt))), (r6, .inl (cZ, 600, .inl (qm_T (va_up us w false))))] := hD
    refine lv_aload_n hx hb d_Mo_clear_21 rfl (lv_at hl 0 rfl) ?_
    refine va_get (D := D) (ci := 5) (v := .ref r2) (C := R_Mo) (T := F_Mo) (N := 9) hx hb hts i_Mo hown hK hP 0 rfl rfl 1 (by decide) (hts _ fl_Mo_13) (fun _ h9 => h9) rfl d_Mo_clear_22 ?_
    refine lv_iload_n hx hb d_Mo_clear_25 rfl (lv_at hl 1 rfl) ?_
    refine lv_iconst (v := (-1 : Int32)) hx hb d_Mo_clear_26 (by decide) ?_
    refine va_iast hx hb hK hP hD hS 2 1 rfl rfl (vp_in_nI (by omega) (by decide)) d_Mo_clear_27 (fun H locs hP hD hS => ?_)
    rw [nI_clamp (by omega)] at hP hD
    have hP : va_P D cls [(mo, .inr (5, [.ref r1, .ref r2, .ref r3, .ref r4, .ref r5, .ref r6, .int (md), .int (ck), .int (nI 0)])), (r1, .inl (cZ, 32, .inl (qm_T th))), (r2, .inl (cI, 4096, .inl (upd (qm_P pl) (u) ((-1 : Int32))))), (r3, .inl (cI, 4096, .inl (mk))), (r4, .inl (cI, 64, .inl (nt))), (r5, .inl (cB, 76800, .inl (bt))), (r6, .inl (cZ, 600, .inl (qm_T (va_up us w false))))] H := hP
    have hD : va_D A [(mo, .inr (5, [.ref r1, .ref r2, .ref r3, .ref r4, .ref r5, .ref r6, .int (md), .int (ck), .int (nI 0)])), (r1, .inl (cZ, 32, .inl (qm_T th))), (r2, .inl (cI, 4096, .inl (upd (qm_P pl) (u) ((-1 : Int32))))), (r3, .inl (cI, 4096, .inl (mk))), (r4, .inl (cI, 64, .inl (nt))), (r5, .inl (cB, 76800, .inl (bt))), (r6, .inl (cZ, 600, .inl (qm_T (va_up us w false))))] := hD
    rw [qm_Pz] at hP hD
    have hP : va_P D cls [(mo, .inr (5, [.ref r1, .ref r2, .ref r3, .ref r4, .ref r5, .ref r6, .int (md), .int (ck), .int (nI 0)])), (r1, .inl (cZ, 32, .inl (qm_T th))), (r2, .inl (cI, 4096, .inl (qm_P (va_up pl u 0)))), (r3, .inl (cI, 4096, .inl (mk))), (r4, .inl (cI, 64, .inl (nt))), (r5, .inl (cB, 76800, .inl (bt))), (r6, .inl (cZ, 600, .inl (qm_T (va_up us w false))))] H := hP
    have hD : va_D A [(mo, .inr (5, [.ref r1, .ref r2, .ref r3, .ref r4, .ref r5, .ref r6, .int (md), .int (ck), .int (nI 0)])), (r1, .inl (cZ, 32, .inl (qm_T th))), (r2, .inl (cI, 4096, .inl (qm_P (va_up pl u 0)))), (r3, .inl (cI, 4096, .inl (mk))), (r4, .inl (cI, 64, .inl (nt))), (r5, .inl (cB, 76800, .inl (bt))), (r6, .inl (cZ, 600, .inl (qm_T (va_up us w false))))] := hD
    exact q_vret hx hb hr hlk hK hP hD hS d_Mo_clear_28 (rfl)
theorem c_Mo_clear (l : Launch) (D : va_G) (cZ : ClassId) (cI : ClassId) (cB : ClassId) (mo : Nat) (r1 : Nat) (r2 : Nat) (r3 : Nat) (r4 : Nat) (r5 : Nat) (r6 : Nat) (th : Nat → Bool) (pl : Nat → Nat) (mk : Nat → Int32) (nt : Nat → Int32) (bt : Nat → Int32) (us : Nat → Bool) (md : Int32) (ck : Int32) (u : Nat) (ku : u < 4096) (kpl : ∀ k, pl k ≤ 600) : qMv l y_Mo_clear b_Mo_clear 2 none (rmL 1) D [(cZ, .boolean), (cI, .int), (cB, .byte)] [.ref mo, .int (nI u)] [(mo, .inr (5, [.ref r1, .ref r2, .ref r3, .ref r4, .ref r5, .ref r6, .int (md), .int (ck), .int (nI 0)])), (r1, .inl (cZ, 32, .inl (qm_T th))), (r2, .inl (cI, 4096, .inl (qm_P pl))), (r3, .inl (cI, 4096, .inl (mk))), (r4, .inl (cI, 64, .inl (nt))), (r5, .inl (cB, 76800, .inl (bt))), (r6, .inl (cZ, 600, .inl (qm_T us)))] [(mo, .inr (5, [.ref r1, .ref r2, .ref r3, .ref r4, .ref r5, .ref r6, .int (md), .int (ck), .int (nI 0)])), (r1, .inl (cZ, 32, .inl (qm_T th))), (r2, .inl (cI, 4096, .inl (qm_P (va_up pl u 0)))), (r3, .inl (cI, 4096, .inl (mk))), (r4, .inl (cI, 64, .inl (nt))), (r5, .inl (cB, 76800, .inl (bt))), (r6, .inl (cZ, 600, .inl (qm_T (qm_cl pl us u))))] := by
  have hk := kpl u
  unfold qm_cl
  rcases (show pl u = 0 ∨ ∃ w, pl u = w + 1 by cases pl u with | zero => exact Or.inl rfl | succ w => exact Or.inr ⟨w, rfl⟩) with hz | ⟨w, hw⟩
  · rw [if_pos hz]; exact c_Mo_clear0 l D cZ cI cB mo r1 r2 r3 r4 r5 r6 th pl mk nt bt us md ck u ku hz kpl
  · rw [if_neg (by omega), show pl u - 1 = w by omega]; exact c_Mo_clear1 l D cZ cI cB mo r1 r2 r3 r4 r5 r6 th pl mk nt bt us md ck u w ku hw (by omega) kpl
