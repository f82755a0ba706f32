def qm_fl (t : Nat → Bool) (i : Nat) : Nat → Bool := fun k => if k < i then false else t k
def qm_zl (p : Nat → Nat) (i : Nat) : Nat → Nat := fun k => if k < i then 0 else p k
def qm_nl (t : Nat → Int32) (i : Nat) : Nat → Int32 := fun k => if k < i then nI 0 else t k
theorem qm_fl_0 {t : Nat → Bool} : qm_fl t 0 = t := funext fun k => if_neg (by omega)
theorem qm_zl_0 {t : Nat → Nat} : qm_zl t 0 = t := funext fun k => if_neg (by omega)
theorem qm_nl_0 {t : Nat → Int32} : qm_nl t 0 = t := funext fun k => if_neg (by omega)
theorem qm_fl_s {t : Nat → Bool} {i : Nat} : va_up (qm_fl t i) i false = qm_fl t (i + 1) := funext fun k => by
  unfold va_up qm_fl
  by_cases h : k = i
  · rw [if_pos h, if_pos (by omega)]
  · rw [if_neg h]
    by_cases h1 : k < i
    · rw [if_pos h1, if_pos (by omega)]
    · rw [if_neg h1, if_neg (by omega)]
theorem qm_zl_s {t : Nat → Nat} {i : Nat} : va_up (qm_zl t i) i 0 = qm_zl t (i + 1) := funext fun k => by
  unfold va_up qm_zl
  by_cases h : k = i
  · rw [if_pos h, if_pos (by omega)]
  · rw [if_neg h]
    by_cases h1 : k < i
    · rw [if_pos h1, if_pos (by omega)]
    · rw [if_neg h1, if_neg (by omega)]
theorem qm_nl_s {t : Nat → Int32} {i : Nat} : upd (qm_nl t i) i (nI 0) = qm_nl t (i + 1) := funext fun k => by
  unfold upd qm_nl
  by_cases h : k = i
  · rw [if_pos h, if_pos (by omega)]
  · rw [if_neg h]
    by_cases h1 : k < i
    · rw [if_pos h1, if_pos (by omega)]
    · rw [if_neg h1, if_neg (by omega)]
theorem qm_nlt {x y : Int32} (h : x ≤ y) : ¬ y < x := fun q => by
  have a := Int32.le_iff_toInt_le.mp h
  have b := Int32.lt_iff_toInt_lt.mp q
  omega
theorem qm_31 {x : Int32} (h : ¬ nI 31 < x) : ¬ nI 32 ≤ x := fun q => by
  have a : ¬ (nI 31).toInt < x.toInt := fun z => h (Int32.lt_iff_toInt_lt.mpr z)
  have b := Int32.le_iff_toInt_le.mp q
  rw [nI_toInt (by decide)] at a b
  omega
theorem qm_bs1 {u : Int32} (h1 : ¬ u < 0) (h2 : u < nI 128) : qp_bs u (nI 1) := by
  refine ⟨by decide, by decide, h1, fun q => ?_⟩
  have a := Int32.lt_iff_toInt_lt.mp h2
  have b := Int32.lt_iff_toInt_lt.mp q
  rw [show nI 128 - nI 1 = nI 127 by decide, nI_toInt (by decide)] at b
  rw [nI_toInt (by decide)] at a
  omega
def qm_next (pl : Nat → Nat) (v c i : Nat) : Nat := match c with
  | 0 => 128
  | c + 1 => if pl (128 * v + i) = 0 then qm_next pl v c (i + 1) else i
theorem qm_next_go {pl : Nat → Nat} {v c i : Nat} (h : pl (128 * v + i) = 0) : qm_next pl v (c + 1) i = qm_next pl v c (i + 1) := by
  conv => lhs; unfold qm_next
  rw [if_pos h]
theorem qm_next_hit {pl : Nat → Nat} {v c i : Nat} (h : ¬ pl (128 * v + i) = 0) : qm_next pl v (c + 1) i = i := by
  conv => lhs; unfold qm_next
  rw [if_neg h]
def qm_shr (pl : Nat → Nat) (mk : Nat → Int32) (v p c i : Nat) : Nat := match c with
  | 0 => 0
  | c + 1 => if ¬ i = v ∧ ¬ pl (128 * i + p) = 0 ∧ mk (128 * i + p) = mk (128 * v + p) then 1 else qm_shr pl mk v p c (i + 1)
def qm_shared (pl : Nat → Nat) (mk : Nat → Int32) (v p : Nat) : Nat := if pl (128 * v + p) = 0 then 0 else qm_shr pl mk v p 16 0
theorem qm_shr_go {pl : Nat → Nat} {mk : Nat → Int32} {v p c i : Nat} (h : ¬ (¬ i = v ∧ ¬ pl (128 * i + p) = 0 ∧ mk (128 * i + p) = mk (128 * v + p))) : qm_shr pl mk v p (c + 1) i = qm_shr pl mk v p c (i + 1) := by
  conv => lhs; unfold qm_shr
  rw [if_neg h]
theorem qm_shr_hit {pl : Nat → Nat} {mk : Nat → Int32} {v p c i : Nat} (h : ¬ i = v ∧ ¬ pl (128 * i + p) = 0 ∧ mk (128 * i + p) = mk (128 * v + p)) : qm_shr pl mk v p (c + 1) i = 1 := by
  conv => lhs; unfold qm_shr
  rw [if_pos h]
def qm_tc (th : Nat → Bool) (i : Nat) : Nat := match i with
  | 0 => 0
  | i + 1 => if th i = false then qm_tc th i else qm_tc th i + 1
theorem qm_tc_z {th : Nat → Bool} {i : Nat} (h : th i = false) : qm_tc th (i + 1) = qm_tc th i := by
  conv => lhs; unfold qm_tc
  rw [if_pos h]
theorem qm_tc_n {th : Nat → Bool} {i : Nat} (h : th i = true) : qm_tc th (i + 1) = qm_tc th i + 1 := by
  conv => lhs; unfold qm_tc
  rw [if_neg (by rw [h]; decide)]
set_option maxHeartbeats 4000000 in
set_option maxRecDepth 100000 in
theorem c_Mo_make_off (l : Launch) (D : va_G) (cZ : ClassId) (cI : ClassId) (cB : ClassId) (mo : Nat) (r1 : Nat) (r2 : Nat) (r3 : Nat) (r4 : Nat) (r5 : Nat) (r6 : Nat) (th : Nat → Bool) (pl : Nat → Nat) (mk : Nat → Int32) (nt : Nat → Int32) (bt : Nat → Int32) (us : Nat → Bool) (md : Int32) (ck : Int32) (z0 : Int32) : qMi l y_Mo_make b_Mo_make 2 (some .int) (rmL 1) D [(cZ, .boolean), (cI, .int), (cB, .byte)] [.ref mo, .int (z0)] [(mo, .inr (5, [.ref r1, .ref r2, .ref r3, .ref r4, .ref r5, .ref r6, .int (md), .int (ck), .int (nI 1)])), (r1, .inl (cZ, 32, .inl (qm_T th))), (r2, .inl (cI, 4096, .inl (qm_P pl))), (r3, .inl (cI, 4096, .inl (mk))), (r4, .inl (cI, 64, .inl (nt))), (r5, .inl (cB, 76800, .inl (bt))), (r6, .inl (cZ, 600, .inl (qm_T us)))] [(mo, .inr (5, [.ref r1, .ref r2, .ref r3, .ref r4, .ref r5, .ref r6, .int (md), .int (ck), .int (nI 1)])), (r1, .inl (cZ, 32, .inl (qm_T th))), (r2, .inl (cI, 4096, .inl (qm_P pl))), (r3, .inl (cI, 4096, .inl (mk))), (r4, .inl (cI, 64, .inl (nt))), (r5, .inl (cB, 76800, .inl (bt))), (r6, .inl (cZ, 600, .inl (qm_T us)))] ((-2 : Int32)) := by
  refine q_start (Qc := qZi D _ _ _) (by decide +kernel) (Nat.le_of_ble_eq_true rfl) ?_
  intro p e s m below meth c A hx hb hr hlk hml hown hts hK hP hD hS hA hN ls hl
  have hl : lv_has ls 2 [(0, .ref mo), (1, .int (z0))] := hl
  have hP : va_P D cls [(mo, .inr (5, [.ref r1, .ref r2, .ref r3, .ref r4, .ref r5, .ref r6, .int (md), .int (ck), .int (nI 1)])), (r1, .inl (cZ, 32, .inl (qm_T th))), (r2, .inl (cI, 4096, .inl (qm_P pl))), (r3, .inl (cI, 4096, .inl (mk))), (r4, .inl (cI, 64, .inl (nt))), (r5, .inl (cB, 76800, .inl (bt))), (r6, .inl (cZ, 600, .inl (qm_T us)))] s.heap := hP
  have hD : va_D A [(mo, .inr (5, [.ref r1, .ref r2, .ref r3, .ref r4, .ref r5, .ref r6, .int (md), .int (ck), .int (nI 1)])), (r1, .inl (cZ, 32, .inl (qm_T th))), (r2, .inl (cI, 4096, .inl (qm_P pl))), (r3, .inl (cI, 4096, .inl (mk))), (r4, .inl (cI, 64, .inl (nt))), (r5, .inl (cB, 76800, .inl (bt))), (r6, .inl (cZ, 600, .inl (qm_T us)))] := hD
  refine lv_aload_n hx hb d_Mo_make_0 rfl (lv_at hl 0 rfl) ?_
  refine va_get (D := D) (ci := 5) (v := .int (nI 1)) (C := R_Mo) (T := F_Mo) (N := 9) hx hb hts i_Mo hown hK hP 0 rfl rfl 8 (by decide) (hts _ fl_Mo_38) (fun _ h9 => h9) rfl d_Mo_make_1 ?_
  refine lv_if_eq (tgt := 10) hx hb d_Mo_make_4 (by decide) (fun c4 => ?_) (fun c4 => ?_)
  · have c4 : 1 = 0 := (q_z_eq (by omega)).mp c4
    exfalso; omega
  · have c4 : ¬ 1 = 0 := fun h9 => c4 ((q_z_eq (by omega)).mpr h9)
    refine lv_bipush (v := (-2 : Int32)) hx hb d_Mo_make_7 (by decide) ?_
    exact q_iret hx hb hr hlk hK hP hD hS d_Mo_make_9 (rfl) (rfl)
set_option maxHeartbeats 4000000 in
set_option maxRecDepth 100000 in
theorem c_Mo_snap_off (l : Launch) (D : va_G) (cZ : ClassId) (cI : ClassId) (cB : ClassId) (mo : Nat) (r1 : Nat) (r2 : Nat) (r3 : Nat) (r4 : Nat) (r5 : Nat) (r6 : Nat) (th : Nat → Bool) (pl : Nat → Nat) (mk : Nat → Int32) (nt : Nat → Int32) (bt : Nat → Int32) (us : Nat → Bool) (md : Int32) (ck : Int32) (z0 : Int32) (z1 : Int32) : qMi l y_Mo_snap b_Mo_snap 8 (some .int) (rmL 1) D [(cZ, .boolean), (cI, .int), (cB, .byte)] [.ref mo, .int (z0), .int (z1)] [(mo, .inr (5, [.ref r1, .ref r2, .ref r3, .ref r4, .ref r5, .ref r6, .int (md), .int (ck), .int (nI 1)])), (r1, .inl (cZ, 32, .inl (qm_T th))), (r2, .inl (cI, 4096, .inl (qm_P pl))), (r3, .inl (cI, 4096, .inl (mk))), (r4, .inl (cI, 64, .inl (nt))), (r5, .inl (cB, 76800, .inl (bt))), (r6, .inl (cZ, 600, .inl (qm_T us)))] [(mo, .inr (5, [.ref r1, .ref r2, .ref r3, .ref r4, .ref r5, .ref r6, .int (md), .int (ck), .int (nI 1)])), (r1, .inl (cZ, 32, .inl (qm_T th))), (r2, .inl (cI, 4096, .inl (qm_P pl))), (r3, .inl (cI, 4096, .inl (mk))), (r4, .inl (cI, 64, .inl (nt))), (r5, .inl (cB, 76800, .inl (bt))), (r6, .inl (cZ, 600, .inl (qm_T us)))] ((-2 : Int32)) := by
  refine q_start (Qc := qZi D _ _ _) (by decide +kernel) (Nat.le_of_ble_eq_true rfl) ?_
  intro p e s m below meth c A hx hb hr hlk hml hown hts hK hP hD hS hA hN ls hl
  have hl : lv_has ls 8 [(0, .ref mo), (1, .int (z0)), (2, .int (z1))] := hl
  have hP : va_P D cls [(mo, .inr (5, [.ref r1, .ref r2, .ref r3, .ref r4, .ref r5, .ref r6, .int (md), .int (ck), .int (nI 1)])), (r1, .inl (cZ, 32, .inl (qm_T th))), (r2, .inl (cI, 4096, .inl (qm_P pl))), (r3, .inl (cI, 4096, .inl (mk))), (r4, .inl (cI, 64, .inl (nt))), (r5, .inl (cB, 76800, .inl (bt))), (r6, .inl (cZ, 600, .inl (qm_T us)))] s.heap := hP
  have hD : va_D A [(mo, .inr (5, [.ref r1, .ref r2, .ref r3, .ref r4, .ref r5, .ref r6, .int (md), .int (ck), .int (nI 1)])), (r1, .inl (cZ, 32, .inl (qm_T th))), (r2, .inl (cI, 4096, .inl (qm_P pl))), (r3, .inl (cI, 4096, .inl (mk))), (r4, .inl (cI, 64, .inl (nt))), (r5, .inl (cB, 76800, .inl (bt))), (r6, .inl (cZ, 600, .inl (qm_T us)))] := hD
  refine lv_aload_n hx hb d_Mo_snap_0 rfl (lv_at hl 0 rfl) ?_
  refine va_get (D := D) (ci := 5) (v := .int (nI 1)) (C := R_Mo) (T := F_Mo) (N := 9) hx hb hts i_Mo hown hK hP 0 rfl rfl 8 (by decide) (hts _ fl_Mo_38) (fun _ h9 => h9) rfl d_Mo_snap_1 ?_
  refine lv_if_eq (tgt := 10) hx hb d_Mo_snap_4 (by decide) (fun c4 => ?_) (fun c4 => ?_)
  · have c4 : 1 = 0 := (q_z_eq (by omega)).mp c4
    exfalso; omega
  · have c4 : ¬ 1 = 0 := fun h9 => c4 ((q_z_eq (by omega)).mpr h9)
    refine lv_bipush (v := (-2 : Int32)) hx hb d_Mo_snap_7 (by decide) ?_
    exact q_iret hx hb hr hlk hK hP hD hS d_Mo_snap_9 (rfl) (rfl)
set_option maxHeartbeats 4000000 in
set_option maxRecDepth 100000 in
theorem c_Mo_remove_off (l : Launch) (D : va_G) (cZ : ClassId) (cI : ClassId) (cB : ClassId) (mo : Nat) (r1 : Nat) (r2 : Nat) (r3 : Nat) (r4 : Nat) (r5 : Nat) (r6 : Nat) (th : Nat → Bool) (pl : Nat → Nat) (mk : Nat → Int32) (nt : Nat → Int32) (bt : Nat → Int32) (us : Nat → Bool) (md : Int32) (ck : Int32) (z0 : Int32) : qMi l y_Mo_remove b_Mo_remove 4 (some .int) (rmL 1) D [(cZ, .boolean), (cI, .int), (cB, .byte)] [.ref mo, .int (z0)] [(mo, .inr (5, [.ref r1, .ref r2, .ref r3, .ref r4, .ref r5, .ref r6, .int (md), .int (ck), .int (nI 1)])), (r1, .inl (cZ, 32, .inl (qm_T th))), (r2, .inl (cI, 4096, .inl (qm_P pl))), (r3, .inl (cI, 4096, .inl (mk))), (r4, .inl (cI, 64, .inl (nt))), (r5, .inl (cB, 76800, .inl (bt))), (r6, .inl (cZ, 600, .inl (qm_T us)))] [(mo, .inr (5, [.ref r1, .ref r2, .ref r3, .ref r4, .ref r5, .ref r6, .int (md), .int (ck), .int (nI 1)])), (r1, .inl (cZ, 32, .inl (qm_T th))), (r2, .inl (cI, 4096, .inl (qm_P pl))), (r3, .inl (cI, 4096, .inl (mk))), (r4, .inl (cI, 64, .inl (nt))), (r5, .inl (cB, 76800, .inl (bt))), (r6, .inl (cZ, 600, .inl (qm_T us)))] ((-2 : Int32)) := by
  refine q_start (Qc := qZi D _ _ _) (by decide +kernel) (Nat.le_of_ble_eq_true rfl) ?_
  intro p e s m below meth c A hx hb hr hlk hml hown hts hK hP hD hS hA hN ls hl
  have hl : lv_has ls 4 [(0, .ref mo), (1, .int (z0))] := hl
  have hP : va_P D cls [(mo, .inr (5, [.ref r1, .ref r2, .ref r3, .ref r4, .ref r5, .ref r6, .int (md), .int (ck), .int (nI 1)])), (r1, .inl (cZ, 32, .inl (qm_T th))), (r2, .inl (cI, 4096, .inl (qm_P pl))), (r3, .inl (cI, 4096, .inl (mk))), (r4, .inl (cI, 64, .inl (nt))), (r5, .inl (cB, 76800, .inl (bt))), (r6, .inl (cZ, 600, .inl (qm_T us)))] s.heap := hP
  have hD : va_D A [(mo, .inr (5, [.ref r1, .ref r2, .ref r3, .ref r4, .ref r5, .ref r6, .int (md), .int (ck), .int (nI 1)])), (r1, .inl (cZ, 32, .inl (qm_T th))), (r2, .inl (cI, 4096, .inl (qm_P pl))), (r3, .inl (cI, 4096, .inl (mk))), (r4, .inl (cI, 64, .inl (nt))), (r5, .inl (cB, 76800, .inl (bt))), (r6, .inl (cZ, 600, .inl (qm_T us)))] := hD
  refine lv_aload_n hx hb d_Mo_remove_0 rfl (lv_at hl 0 rfl) ?_
  refine va_get (D := D) (ci := 5) (v := .int (nI 1)) (C := R_Mo) (T := F_Mo) (N := 9) hx hb hts i_Mo hown hK hP 0 rfl rfl 8 (by decide) (hts _ fl_Mo_38) (fun _ h9 => h9) rfl d_Mo_remove_1 ?_
  refine lv_if_eq (tgt := 10) hx hb d_Mo_remove_4 (by decide) (fun c4 => ?_) (fun c4 => ?_)
  · have c4 : 1 = 0 := (q_z_eq (by omega)).mp c4
    exfalso; omega
  · have c4 : ¬ 1 = 0 := fun h9 => c4 ((q_z_eq (by omega)).mpr h9)
    refine lv_bipush (v := (-2 : Int32)) hx hb d_Mo_remove_7 (by decide) ?_
    exact q_iret hx hb hr hlk hK hP hD hS d_Mo_remove_9 (rfl) (rfl)
set_option maxHeartbeats 4000000 in
set_option maxRecDepth 100000 in
theorem c_Mo_write_off (l : Launch) (D : va_G) (cZ : ClassId) (cI : ClassId) (cB : ClassId) (mo : Nat) (r1 : Nat) (r2 : Nat) (r3 : Nat) (r4 : Nat) (r5 : Nat) (r6 : Nat) (th : Nat → Bool) (pl : Nat → Nat) (mk : Nat → Int32) (nt : Nat → Int32) (bt : Nat → Int32) (us : Nat → Bool) (md : Int32) (ck : Int32) (z0 : Int32) (z1 : Int32) (z2 : Int32) (z3 : Int32) (z4 : Int32) : qMi l y_Mo_write b_Mo_write 8 (some .int) (rmL 1) D [(cZ, .boolean), (cI, .int), (cB, .byte)] [.ref mo, .int (z0), .int (z1), .int (z2), .int (z3), .int (z4)] [(mo, .inr (5, [.ref r1, .ref r2, .ref r3, .ref r4, .ref r5, .ref r6, .int (md), .int (ck), .int (nI 1)])), (r1, .inl (cZ, 32, .inl (qm_T th))), (r2, .inl (cI, 4096, .inl (qm_P pl))), (r3, .inl (cI, 4096, .inl (mk))), (r4, .inl (cI, 64, .inl (nt))), (r5, .inl (cB, 76800, .inl (bt))), (r6, .inl (cZ, 600, .inl (qm_T us)))] [(mo, .inr (5, [.ref r1, .ref r2, .ref r3, .ref r4, .ref r5, .ref r6, .int (md), .int (ck), .int (nI 1)])), (r1, .inl (cZ, 32, .inl (qm_T th))), (r2, .inl (cI, 4096, .inl (qm_P pl))), (r3, .inl (cI, 4096, .inl (mk))), (r4, .inl (cI, 64, .inl (nt))), (r5, .inl (cB, 76800, .inl (bt))), (r6, .inl (cZ, 600, .inl (qm_T us)))] ((-2 : Int32)) := by
  refine q_start (Qc := qZi D _ _ _) (by decide +kernel) (Nat.le_of_ble_eq_true rfl) ?_
  intro p e s m below meth c A hx hb hr hlk hml hown hts hK hP hD hS hA hN ls hl
  have hl : lv_has ls 8 [(0, .ref mo), (1, .int (z0)), (2, .int (z1)), (3, .int (z2)), (4, .int (z3)), (5, .int (z4))] := hl
  have hP : va_P D cls [(mo, .inr (5, [.ref r1, .ref r2, .ref r3, .ref r4, .ref r5, .ref r6, .int (md), .int (ck), .int (nI 1)])), (r1, .inl (cZ, 32, .inl (qm_T th))), (r2, .inl (cI, 4096, .inl (qm_P pl))), (r3, .inl (cI, 4096, .inl (mk))), (r4, .inl (cI, 64, .inl (nt))), (r5, .inl (cB, 76800, .inl (bt))), (r6, .inl (cZ, 600, .inl (qm_T us)))] s.heap := hP
  have hD : va_D A [(mo, .inr (5, [.ref r1, .ref r2, .ref r3, .ref r4, .ref r5, .ref r6, .int (md), .int (ck), .int (nI 1)])), (r1, .inl (cZ, 32, .inl (qm_T th))), (r2, .inl (cI, 4096, .inl (qm_P pl))), (r3, .inl (cI, 4096, .inl (mk))), (r4, .inl (cI, 64, .inl (nt))), (r5, .inl (cB, 76800, .inl (bt))), (r6, .inl (cZ, 600, .inl (qm_T us)))] := hD
  refine lv_aload_n hx hb d_Mo_write_0 rfl (lv_at hl 0 rfl) ?_
  refine va_get (D := D) (ci := 5) (v := .int (nI 1)) (C := R_Mo) (T := F_Mo) (N := 9) hx hb hts i_Mo hown hK hP 0 rfl rfl 8 (by decide) (hts _ fl_Mo_38) (fun _ h9 => h9) rfl d_Mo_write_1 ?_
  refine lv_if_eq (tgt := 10) hx hb d_Mo_write_4 (by decide) (fun c4 => ?_) (fun c4 => ?_)
  · have c4 : 1 = 0 := (q_z_eq (by omega)).mp c4
    exfalso; omega
  · have c4 : ¬ 1 = 0 := fun h9 => c4 ((q_z_eq (by omega)).mpr h9)
    refine lv_bipush (v := (-2 : Int32)) hx hb d_Mo_write_7 (by decide) ?_
    exact q_iret hx hb hr hlk hK hP hD hS d_Mo_write_9 (rfl) (rfl)
set_option maxHeartbeats 4000000 in
set_option maxRecDepth 100000 in
theorem c_Mo_read_off (l : Launch) (D : va_G) (cZ : ClassId) (cI : ClassId) (cB : ClassId) (mo : Nat) (r1 : Nat) (r2 : Nat) (r3 : Nat) (r4 : Nat) (r5 : Nat) (r6 : Nat) (th : Nat → Bool) (pl : Nat → Nat) (mk : Nat → Int32) (nt : Nat → Int32) (bt : Nat → Int32) (us : Nat → Bool) (md : Int32) (ck : Int32) (z0 : Int32) (z1 : Int32) (z2 : Int32) : qMi l y_Mo_read b_Mo_read 5 (some .int) (rmL 1) D [(cZ, .boolean), (cI, .int), (cB, .byte)] [.ref mo, .int (z0), .int (z1), .int (z2)] [(mo, .inr (5, [.ref r1, .ref r2, .ref r3, .ref r4, .ref r5, .ref r6, .int (md), .int (ck), .int (nI 1)])), (r1, .inl (cZ, 32, .inl (qm_T th))), (r2, .inl (cI, 4096, .inl (qm_P pl))), (r3, .inl (cI, 4096, .inl (mk))), (r4, .inl (cI, 64, .inl (nt))), (r5, .inl (cB, 76800, .inl (bt))), (r6, .inl (cZ, 600, .inl (qm_T us)))] [(mo, .inr (5, [.ref r1, .ref r2, .ref r3, .ref r4, .ref r5, .ref r6, .int (md), .int (ck), .int (nI 1)])), (r1, .inl (cZ, 32, .inl (qm_T th))), (r2, .inl (cI, 4096, .inl (qm_P pl))), (r3, .inl (cI, 4096, .inl (mk))), (r4, .inl (cI, 64, .inl (nt))), (r5, .inl (cB, 76800, .inl (bt))), (r6, .inl (cZ, 600, .inl (qm_T us)))] ((-2 : Int32)) := by
  refine q_start (Qc := qZi D _ _ _) (by decide +kernel) (Nat.le_of_ble_eq_true rfl) ?_
  intro p e s m below meth c A hx hb hr hlk hml hown hts hK hP hD hS hA hN ls hl
  have hl : lv_has ls 5 [(0, .ref mo), (1, .int (z0)), (2, .int (z1)), (3, .int (z2))] := hl
  have hP : va_P D cls [(mo, .inr (5, [.ref r1, .ref r2, .ref r3, .ref r4, .ref r5, .ref r6, .int (md), .int (ck), .int (nI 1)])), (r1, .inl (cZ, 32, .inl (qm_T th))), (r2, .inl (cI, 4096, .inl (qm_P pl))), (r3, .inl (cI, 4096, .inl (mk))), (r4, .inl (cI, 64, .inl (nt))), (r5, .inl (cB, 76800, .inl (bt))), (r6, .inl (cZ, 600, .inl (qm_T us)))] s.heap := hP
  have hD : va_D A [(mo, .inr (5, [.ref r1, .ref r2, .ref r3, .ref r4, .ref r5, .ref r6, .int (md), .int (ck), .int (nI 1)])), (r1, .inl (cZ, 32, .inl (qm_T th))), (r2, .inl (cI, 4096, .inl (qm_P pl))), (r3, .inl (cI, 4096, .inl (mk))), (r4, .inl (cI, 64, .inl (nt))), (r5, .inl (cB, 76800, .inl (bt))), (r6, .inl (cZ, 600, .inl (qm_T us)))] := hD
  refine lv_aload_n hx hb d_Mo_read_0 rfl (lv_at hl 0 rfl) ?_
  refine va_get (D := D) (ci := 5) (v := .int (nI 1)) (C := R_Mo) (T := F_Mo) (N := 9) hx hb hts i_Mo hown hK hP 0 rfl rfl 8 (by decide) (hts _ fl_Mo_38) (fun _ h9 => h9) rfl d_Mo_read_1 ?_
  refine lv_if_eq (tgt := 10) hx hb d_Mo_read_4 (by decide) (fun c4 => ?_) (fun c4 => ?_)
  · have c4 : 1 = 0 := (q_z_eq (by omega)).mp c4
    exfalso; omega
  · have c4 : ¬ 1 = 0 := fun h9 => c4 ((q_z_eq (by omega)).mpr h9)
    refine lv_bipush (v := (-2 : Int32)) hx hb d_Mo_read_7 (by decide) ?_
    exact q_iret hx hb hr hlk hK hP hD hS d_Mo_read_9 (rfl) (rfl)
set_option maxHeartbeats 4000000 in
set_option maxRecDepth 100000 in
theorem c_Mo_trim_off (l : Launch) (D : va_G) (cZ : ClassId) (cI : ClassId) (cB : ClassId) (mo : Nat) (r1 : Nat) (r2 : Nat) (r3 : Nat) (r4 : Nat) (r5 : Nat) (r6 : Nat) (th : Nat → Bool) (pl : Nat → Nat) (mk : Nat → Int32) (nt : Nat → Int32) (bt : Nat → Int32) (us : Nat → Bool) (md : Int32) (ck : Int32) (z0 : Int32) (z1 : Int32) (z2 : Int32) : qMi l y_Mo_trim b_Mo_trim 6 (some .int) (rmL 1) D [(cZ, .boolean), (cI, .int), (cB, .byte)] [.ref mo, .int (z0), .int (z1), .int (z2)] [(mo, .inr (5, [.ref r1, .ref r2, .ref r3, .ref r4, .ref r5, .ref r6, .int (md), .int (ck), .int (nI 1)])), (r1, .inl (cZ, 32, .inl (qm_T th))), (r2, .inl (cI, 4096, .inl (qm_P pl))), (r3, .inl (cI, 4096, .inl (mk))), (r4, .inl (cI, 64, .inl (nt))), (r5, .inl (cB, 76800, .inl (bt))), (r6, .inl (cZ, 600, .inl (qm_T us)))] [(mo, .inr (5, [.ref r1, .ref r2, .ref r3, .ref r4, .ref r5, .ref r6, .int (md), .int (ck), .int (nI 1)])), (r1, .inl (cZ, 32, .inl (qm_T th))), (r2, .inl (cI, 4096, .inl (qm_P pl))), (r3, .inl (cI, 4096, .inl (mk))), (r4, .inl (cI, 64, .inl (nt))), (r5, .inl (cB, 76800, .inl (bt))), (r6, .inl (cZ, 600, .inl (qm_T us)))] ((-2 : Int32)) := by
  refine q_start (Qc := qZi D _ _ _) (by decide +kernel) (Nat.le_of_ble_eq_true rfl) ?_
  intro p e s m below meth c A hx hb hr hlk hml hown hts hK hP hD hS hA hN ls hl
  have hl : lv_has ls 6 [(0, .ref mo), (1, .int (z0)), (2, .int (z1)), (3, .int (z2))] := hl
  have hP : va_P D cls [(mo, .inr (5, [.ref r1, .ref r2, .ref r3, .ref r4, .ref r5, .ref r6, .int (md), .int (ck), .int (nI 1)])), (r1, .inl (cZ, 32, .inl (qm_T th))), (r2, .inl (cI, 4096, .inl (qm_P pl))), (r3, .inl (cI, 4096, .inl (mk))), (r4, .inl (cI, 64, .inl (nt))), (r5, .inl (cB, 76800, .inl (bt))), (r6, .inl (cZ, 600, .inl (qm_T us)))] s.heap := hP
  have hD : va_D A [(mo, .inr (5, [.ref r1, .ref r2, .ref r3, .ref r4, .ref r5, .ref r6, .int (md), .int (ck), .int (nI 1)])), (r1, .inl (cZ, 32, .inl (qm_T th))), (r2, .inl (cI, 4096, .inl (qm_P pl))), (r3, .inl (cI, 4096, .inl (mk))), (r4, .inl (cI, 64, .inl (nt))), (r5, .inl (cB, 76800, .inl (bt))), (r6, .inl (cZ, 600, .inl (qm_T us)))] := hD
  refine lv_aload_n hx hb d_Mo_trim_0 rfl (lv_at hl 0 rfl) ?_
  refine va_get (D := D) (ci := 5) (v := .int (nI 1)) (C := R_Mo) (T := F_Mo) (N := 9) hx hb hts i_Mo hown hK hP 0 rfl rfl 8 (by decide) (hts _ fl_Mo_38) (fun _ h9 => h9) rfl d_Mo_trim_1 ?_
  refine lv_if_eq (tgt := 10) hx hb d_Mo_trim_4 (by decide) (fun c4 => ?_) (fun c4 => ?_)
  · have c4 : 1 = 0 := (q_z_eq (by omega)).mp c4
    exfalso; omega
  · have c4 : ¬ 1 = 0 := fun h9 => c4 ((q_z_eq (by omega)).mpr h9)
    refine lv_bipush (v := (-2 : Int32)) hx hb d_Mo_trim_7 (by decide) ?_
    exact q_iret hx hb hr hlk hK hP hD hS d_Mo_trim_9 (rfl) (rfl)
set_option maxHeartbeats 4000000 in
set_option maxRecDepth 100000 in
theorem c_Mo_pieces_off (l : Launch) (D : va_G) (cZ : ClassId) (cI : ClassId) (cB : ClassId) (mo : Nat) (r1 : Nat) (r2 : Nat) (r3 : Nat) (r4 : Nat) (r5 : Nat) (r6 : Nat) (th : Nat → Bool) (pl : Nat → Nat) (mk : Nat → Int32) (nt : Nat → Int32) (bt : Nat → Int32) (us : Nat → Bool) (md : Int32) (ck : Int32) (z0 : Int32) : qMi l y_Mo_pieces b_Mo_pieces 2 (some .int) (rmL 1) D [(cZ, .boolean), (cI, .int), (cB, .byte)] [.ref mo, .int (z0)] [(mo, .inr (5, [.ref r1, .ref r2, .ref r3, .ref r4, .ref r5, .ref r6, .int (md), .int (ck), .int (nI 1)])), (r1, .inl (cZ, 32, .inl (qm_T th))), (r2, .inl (cI, 4096, .inl (qm_P pl))), (r3, .inl (cI, 4096, .inl (mk))), (r4, .inl (cI, 64, .inl (nt))), (r5, .inl (cB, 76800, .inl (bt))), (r6, .inl (cZ, 600, .inl (qm_T us)))] [(mo, .inr (5, [.ref r1, .ref r2, .ref r3, .ref r4, .ref r5, .ref r6, .int (md), .int (ck), .int (nI 1)])), (r1, .inl (cZ, 32, .inl (qm_T th))), (r2, .inl (cI, 4096, .inl (qm_P pl))), (r3, .inl (cI, 4096, .inl (mk))), (r4, .inl (cI, 64, .inl (nt))), (r5, .inl (cB, 76800, .inl (bt))), (r6, .inl (cZ, 600, .inl (qm_T us)))] ((-2 : Int32)) := by
  refine q_start (Qc := qZi D _ _ _) (by decide +kernel) (Nat.le_of_ble_eq_true rfl) ?_
  intro p e s m below meth c A hx hb hr hlk hml hown hts hK hP hD hS hA hN ls hl
  have hl : lv_has ls 2 [(0, .ref mo), (1, .int (z0))] := hl
  have hP : va_P D cls [(mo, .inr (5, [.ref r1, .ref r2, .ref r3, .ref r4, .ref r5, .ref r6, .int (md), .int (ck), .int (nI 1)])), (r1, .inl (cZ, 32, .inl (qm_T th))), (r2, .inl (cI, 4096, .inl (qm_P pl))), (r3, .inl (cI, 4096, .inl (mk))), (r4, .inl (cI, 64, .inl (nt))), (r5, .inl (cB, 76800, .inl (bt))), (r6, .inl (cZ, 600, .inl (qm_T us)))] s.heap := hP
  have hD : va_D A [(mo, .inr (5, [.ref r1, .ref r2, .ref r3, .ref r4, .ref r5, .ref r6, .int (md), .int (ck), .int (nI 1)])), (r1, .inl (cZ, 32, .inl (qm_T th))), (r2, .inl (cI, 4096, .inl (qm_P pl))), (r3, .inl (cI, 4096, .inl (mk))), (r4, .inl (cI, 64, .inl (nt))), (r5, .inl (cB, 76800, .inl (bt))), (r6, .inl (cZ, 600, .inl (qm_T us)))] := hD
  refine lv_aload_n hx hb d_Mo_pieces_0 rfl (lv_at hl 0 rfl) ?_
  refine va_get (D := D) (ci := 5) (v := .int (nI 1)) (C := R_Mo) (T := F_Mo) (N := 9) hx hb hts i_Mo hown hK hP 0 rfl rfl 8 (by decide) (hts _ fl_Mo_38) (fun _ h9 => h9) rfl d_Mo_pieces_1 ?_
  refine lv_if_eq (tgt := 10) hx hb d_Mo_pieces_4 (by decide) (fun c4 => ?_) (fun c4 => ?_)
  · have c4 : 1 = 0 := (q_z_eq (by omega)).mp c4
    exfalso; omega
  · have c4 : ¬ 1 = 0 := fun h9 => c4 ((q_z_eq (by omega)).mpr h9)
    refine lv_bipush (v := (-2 : Int32)) hx hb d_Mo_pieces_7 (by decide) ?_
    exact q_iret hx hb hr hlk hK hP hD hS d_Mo_pieces_9 (rfl) (rfl)
set_option maxHeartbeats 4000000 in
set_option maxRecDepth 100000 in
theorem c_Mo_next_off (l : Launch) (D : va_G) (cZ : ClassId) (cI : ClassId) (cB : ClassId) (mo : Nat) (r1 : Nat) (r2 : Nat) (r3 : Nat) (r4 : Nat) (r5 : Nat) (r6 : Nat) (th : Nat → Bool) (pl : Nat → Nat) (mk : Nat → Int32) (nt : Nat → Int32) (bt : Nat → Int32) (us : Nat → Bool) (md : Int32) (ck : Int32) (z0 : Int32) (z1 : Int32) : qMi l y_Mo_next b_Mo_next 4 (some .int) (rmL 1) D [(cZ, .boolean), (cI, .int), (cB, .byte)] [.ref mo, .int (z0), .int (z1)] [(mo, .inr (5, [.ref r1, .ref r2, .ref r3, .ref r4, .ref r5, .ref r6, .int (md), .int (ck), .int (nI 1)])), (r1, .inl (cZ, 32, .inl (qm_T th))), (r2, .inl (cI, 4096, .inl (qm_P pl))), (r3, .inl (cI, 4096, .inl (mk))), (r4, .inl (cI, 64, .inl (nt))), (r5, .inl (cB, 76800, .inl (bt))), (r6, .inl (cZ, 600, .inl (qm_T us)))] [(mo, .inr (5, [.ref r1, .ref r2, .ref r3, .ref r4, .ref r5, .ref r6, .int (md), .int (ck), .int (nI 1)])), (r1, .inl (cZ, 32, .inl (qm_T th))), (r2, .inl (cI, 4096, .inl (qm_P pl))), (r3, .inl (cI, 4096, .inl (mk))), (r4, .inl (cI, 64, .inl (nt))), (r5, .inl (cB, 76800, .inl (bt))), (r6, .inl (cZ, 600, .inl (qm_T us)))] ((-2 : Int32)) := by
  refine q_start (Qc := qZi D _ _ _) (by decide +kernel) (Nat.le_of_ble_eq_true rfl) ?_
  intro p e s m below meth c A hx hb hr hlk hml hown hts hK hP hD hS hA hN ls hl
  have hl : lv_has ls 4 [(0, .ref mo), (1, .int (z0)), (2, .int (z1))] := hl
  have hP : va_P D cls [(mo, .inr (5, [.ref r1, .ref r2, .ref r3, .ref r4, .ref r5, .ref r6, .int (md), .int (ck), .int (nI 1)])), (r1, .inl (cZ, 32, .inl (qm_T th))), (r2, .inl (cI, 4096, .inl (qm_P pl))), (r3, .inl (cI, 4096, .inl (mk))), (r4, .inl (cI, 64, .inl (nt))), (r5, .inl (cB, 76800, .inl (bt))), (r6, .inl (cZ, 600, .inl (qm_T us)))] s.heap := hP
  have hD : va_D A [(mo, .inr (5, [.ref r1, .ref r2, .ref r3, .ref r4, .ref r5, .ref r6, .int (md), .int (ck), .int (nI 1)])), (r1, .inl (cZ, 32, .inl (qm_T th))), (r2, .inl (cI, 4096, .inl (qm_P pl))), (r3, .inl (cI, 4096, .inl (mk))), (r4, .inl (cI, 64, .inl (nt))), (r5, .inl (cB, 76800, .inl (bt))), (r6, .inl (cZ, 600, .inl (qm_T us)))] := hD
  refine lv_aload_n hx hb d_Mo_next_0 rfl (lv_at hl 0 rfl) ?_
  refine va_get (D := D) (ci := 5) (v := .int (nI 1)) (C := R_Mo) (T := F_Mo) (N := 9) hx hb hts i_Mo hown hK hP 0 rfl rfl 8 (by decide) (hts _ fl_Mo_38) (fun _ h9 => h9) rfl d_Mo_next_1 ?_
  refine lv_if_eq (tgt := 10) hx hb d_Mo_next_4 (by decide) (fun c4 => ?_) (fun c4 => ?_)
  · have c4 : 1 = 0 := (q_z_eq (by omega)).mp c4
    exfalso; omega
  · have c4 : ¬ 1 = 0 := fun h9 => c4 ((q_z_eq (by omega)).mpr h9)
    refine lv_bipush (v := (-2 : Int32)) hx hb d_Mo_next_7 (by decide) ?_
    exact q_iret hx hb hr hlk hK hP hD hS d_Mo_next_9 (rfl) (rfl)
set_option maxHeartbeats 4000000 in
set_option maxRecDepth 100000 in
theorem c_Mo_shared_off (l : Launch) (D : va_G) (cZ : ClassId) (cI : ClassId) (cB : ClassId) (mo : Nat) (r1 : Nat) (r2 : Nat) (r3 : Nat) (r4 : Nat) (r5 : Nat) (r6 : Nat) (th : Nat → Bool) (pl : Nat → Nat) (mk : Nat → Int32) (nt : Nat → Int32) (bt : Nat → Int32) (us : Nat → Bool) (md : Int32) (ck : Int32) (z0 : Int32) (z1 : Int32) : qMi l y_Mo_shared b_Mo_shared 6 (some .int) (rmL 1) D [(cZ, .boolean), (cI, .int), (cB, .byte)] [.ref mo, .int (z0), .int (z1)] [(mo, .inr (5, [.ref r1, .ref r2, .ref r3, .ref r4, .ref r5, .ref r6, .int (md), .int (ck), .int (nI 1)])), (r1, .inl (cZ, 32, .inl (qm_T th))), (r2, .inl (cI, 4096, .inl (qm_P pl))), (r3, .inl (cI, 4096, .inl (mk))), (r4, .inl (cI, 64, .inl (nt))), (r5, .inl (cB, 76800, .inl (bt))), (r6, .inl (cZ, 600, .inl (qm_T us)))] [(mo, .inr (5, [.ref r1, .ref r2, .ref r3, .ref r4, .ref r5, .ref r6, .int (md), .int (ck), .int (nI 1)])), (r1, .inl (cZ, 32, .inl (qm_T th))), (r2, .inl (cI, 4096, .inl (qm_P pl))), (r3, .inl (cI, 4096, .inl (mk))), (r4, .inl (cI, 64, .inl (nt))), (r5, .inl (cB, 76800, .inl (bt))), (r6, .inl (cZ, 600, .inl (qm_T us)))] ((-2 : Int32)) := by
  refine q_start (Qc := qZi D _ _ _) (by decide +kernel) (Nat.le_of_ble_eq_true rfl) ?_
  intro p e s m below meth c A hx hb hr hlk hml hown hts hK hP hD hS hA hN ls hl
  have hl : lv_has ls 6 [(0, .ref mo), (1, .int (z0)), (2, .int (z1))] := hl
  have hP : va_P D cls [(mo, .inr (5, [.ref r1, .ref r2, .ref r3, .ref r4, .ref r5, .ref r6, .int (md), .int (ck), .int (nI 1)])), (r1, .inl (cZ, 32, .inl (qm_T th))), (r2, .inl (cI, 4096, .inl (qm_P pl))), (r3, .inl (cI, 4096, .inl (mk))), (r4, .inl (cI, 64, .inl (nt))), (r5, .inl (cB, 76800, .inl (bt))), (r6, .inl (cZ, 600, .inl (qm_T us)))] s.heap := hP
  have hD : va_D A [(mo, .inr (5, [.ref r1, .ref r2, .ref r3, .ref r4, .ref r5, .ref r6, .int (md), .int (ck), .int (nI 1)])), (r1, .inl (cZ, 32, .inl (qm_T th))), (r2, .inl (cI, 4096, .inl (qm_P pl))), (r3, .inl (cI, 4096, .inl (mk))), (r4, .inl (cI, 64, .inl (nt))), (r5, .inl (cB, 76800, .inl (bt))), (r6, .inl (cZ, 600, .inl (qm_T us)))] := hD
  refine lv_aload_n hx hb d_Mo_shared_0 rfl (lv_at hl 0 rfl) ?_
  refine va_get (D := D) (ci := 5) (v := .int (nI 1)) (C := R_Mo) (T := F_Mo) (N := 9) hx hb hts i_Mo hown hK hP 0 rfl rfl 8 (by decide) (hts _ fl_Mo_38) (fun _ h9 => h9) rfl d_Mo_shared_1 ?_
  refine lv_if_eq (tgt := 10) hx hb d_Mo_shared_4 (by decide) (fun c4 => ?_) (fun c4 => ?_)
  · have c4 : 1 = 0 := (q_z_eq (by omega)).mp c4
    exfalso; omega
  · have c4 : ¬ 1 = 0 := fun h9 => c4 ((q_z_eq (by omega)).mpr h9)
    refine lv_bipush (v := (-2 : Int32)) hx hb d_Mo_shared_7 (by decide) ?_
    exact q_iret hx hb hr hlk hK hP hD hS d_Mo_shared_9 (rfl) (rfl)
set_option maxHeartbeats 4000000 in
set_option maxRecDepth 100000 in
theorem c_Mo_tell_off (l : Launch) (D : va_G) (cZ : ClassId) (cI : ClassId) (cB : ClassId) (mo : Nat) (r1 : Nat) (r2 : Nat) (r3 : Nat) (r4 : Nat) (r5 : Nat) (r6 : Nat) (th : Nat → Bool) (pl : Nat → Nat) (mk : Nat → Int32) (nt : Nat → Int32) (bt : Nat → Int32) (us : Nat → Bool) (md : Int32) (ck : Int32) (z0 : Int32) (z1 : Int32) : qMi l y_Mo_tell b_Mo_tell 4 (some .int) (rmL 1) D [(cZ, .boolean), (cI, .int), (cB, .byte)] [.ref mo, .int (z0), .int (z1)] [(mo, .inr (5, [.ref r1, .ref r2, .ref r3, .ref r4, .ref r5, .ref r6, .int (md), .int (ck), .int (nI 1)])), (r1, .inl (cZ, 32, .inl (qm_T th))), (r2, .inl (cI, 4096, .inl (qm_P pl))), (r3, .inl (cI, 4096, .inl (mk))), (r4, .inl (cI, 64, .inl (nt))), (r5, .inl (cB, 76800, .inl (bt))), (r6, .inl (cZ, 600, .inl (qm_T us)))] [(mo, .inr (5, [.ref r1, .ref r2, .ref r3, .ref r4, .ref r5, .ref r6, .int (md), .int (ck), .int (nI 1)])), (r1, .inl (cZ, 32, .inl (qm_T th))), (r2, .inl (cI, 4096, .inl (qm_P pl))), (r3, .inl (cI, 4096, .inl (mk))), (r4, .inl (cI, 64, .inl (nt))), (r5, .inl (cB, 76800, .inl (bt))), (r6, .inl (cZ, 600, .inl (qm_T us)))] ((-2 : Int32)) := by
  refine q_start (Qc := qZi D _ _ _) (by decide +kernel) (Nat.le_of_ble_eq_true rfl) ?_
  intro p e s m below meth c A hx hb hr hlk hml hown hts hK hP hD hS hA hN ls hl
  have hl : lv_has ls 4 [(0, .ref mo), (1, .int (z0)), (2, .int (z1))] := hl
  have hP : va_P D cls [(mo, .inr (5, [.ref r1, .ref r2, .ref r3, .ref r4, .ref r5, .ref r6, .int (md), .int (ck), .int (nI 1)])), (r1, .inl (cZ, 32, .inl (qm_T th))), (r2, .inl (cI, 4096, .inl (qm_P pl))), (r3, .inl (cI, 4096, .inl (mk))), (r4, .inl (cI, 64, .inl (nt))), (r5, .inl (cB, 76800, .inl (bt))), (r6, .inl (cZ, 600, .inl (qm_T us)))] s.heap := hP
  have hD : va_D A [(mo, .inr (5, [.ref r1, .ref r2, .ref r3, .ref r4, .ref r5, .ref r6, .int (md), .int (ck), .int (nI 1)])), (r1, .inl (cZ, 32, .inl (qm_T th))), (r2, .inl (cI, 4096, .inl (qm_P pl))), (r3, .inl (cI, 4096, .inl (mk))), (r4, .inl (cI, 64, .inl (nt))), (r5, .inl (cB, 76800, .inl (bt))), (r6, .inl (cZ, 600, .inl (qm_T us)))] := hD
  refine lv_aload_n hx hb d_Mo_tell_0 rfl (lv_at hl 0 rfl) ?_
  refine va_get (D := D) (ci := 5) (v := .int (nI 1)) (C := R_Mo) (T := F_Mo) (N := 9) hx hb hts i_Mo hown hK hP 0 rfl rfl 8 (by decide) (hts _ fl_Mo_38) (fun _ h9 => h9) rfl d_Mo_tell_1 ?_
  refine lv_if_eq (tgt := 10) hx hb d_Mo_tell_4 (by decide) (fun c4 => ?_) (fun c4 => ?_)
  · have c4 : 1 = 0 := (q_z_eq (by omega)).mp c4
    exfalso; omega
  · have c4 : ¬ 1 = 0 := fun h9 => c4 ((q_z_eq (by omega)).mpr h9)
    refine lv_bipush (v := (-2 : Int32)) hx hb d_Mo_tell_7 (by decide) ?_
    exact q_iret hx hb hr hlk hK hP hD hS d_Mo_tell_9 (rfl) (rfl)
set_option maxHeartbeats 4000000 in
set_option maxRecDepth 100000 in
theorem c_Mo_told_off (l : Launch) (D : va_G) (cZ : ClassId) (cI : ClassId) (cB : ClassId) (mo : Nat) (r1 : Nat) (r2 : Nat) (r3 : Nat) (r4 : Nat) (r5 : Nat) (r6 : Nat) (th : Nat → Bool) (pl : Nat → Nat) (mk : Nat → Int32) (nt : Nat → Int32) (bt : Nat → Int32) (us : Nat → Bool) (md : Int32) (ck : Int32) (z0 : Int32) : qMi l y_Mo_told b_Mo_told 2 (some .int) (rmL 1) D [(cZ, .boolean), (cI, .int), (cB, .byte)] [.ref mo, .int (z0)] [(mo, .inr (5, [.ref r1, .ref r2, .ref r3, .ref r4, .ref r5, .ref r6, .int (md), .int (ck), .int (nI 1)])), (r1, .inl (cZ, 32, .inl (qm_T th))), (r2, .inl (cI, 4096, .inl (qm_P pl))), (r3, .inl (cI, 4096, .inl (mk))), (r4, .inl (cI, 64, .inl (nt))), (r5, .inl (cB, 76800, .inl (bt))), (r6, .inl (cZ, 600, .inl (qm_T us)))] [(mo, .inr (5, [.ref r1, .ref r2, .ref r3, .ref r4, .ref r5, .ref r6, .int (md), .int (ck), .int (nI 1)])), (r1, .inl (cZ, 32, .inl (qm_T th))), (r2, .inl (cI, 4096, .inl (qm_P pl))), (r3, .inl (cI, 4096, .inl (mk))), (r4, .inl (cI, 64, .inl (nt))), (r5, .inl (cB, 76800, .inl (bt))), (r6, .inl (cZ, 600, .inl (qm_T us)))] ((-2 : Int32)) := by
  refine q_start (Qc := qZi D _ _ _) (by decide +kernel) (Nat.le_of_ble_eq_true rfl) ?_
  intro p e s m below meth c A hx hb hr hlk hml hown hts hK hP hD hS hA hN ls hl
  have hl : lv_has ls 2 [(0, .ref mo), (1, .int (z0))] := hl
  have hP : va_P D cls [(mo, .inr (5, [.ref r1, .ref r2, .ref r3, .ref r4, .ref r5, .ref r6, .int (md), .int (ck), .int (nI 1)])), (r1, .inl (cZ, 32, .inl (qm_T th))), (r2, .inl (cI, 4096, .inl (qm_P pl))), (r3, .inl (cI, 4096, .inl (mk))), (r4, .inl (cI, 64, .inl (nt))), (r5, .inl (cB, 76800, .inl (bt))), (r6, .inl (cZ, 600, .inl (qm_T us)))] s.heap := hP
  have hD : va_D A [(mo, .inr (5, [.ref r1, .ref r2, .ref r3, .ref r4, .ref r5, .ref r6, .int (md), .int (ck), .int (nI 1)])), (r1, .inl (cZ, 32, .inl (qm_T th))), (r2, .inl (cI, 4096, .inl (qm_P pl))), (r3, .inl (cI, 4096, .inl (mk))), (r4, .inl (cI, 64, .inl (nt))), (r5, .inl (cB, 76800, .inl (bt))), (r6, .inl (cZ, 600, .inl (qm_T us)))] := hD
  refine lv_aload_n hx hb d_Mo_told_0 rfl (lv_at hl 0 rfl) ?_
  refine va_get (D := D) (ci := 5) (v := .int (nI 1)) (C := R_Mo) (T := F_Mo) (N := 9) hx hb hts i_Mo hown hK hP 0 rfl rfl 8 (by decide) (hts _ fl_Mo_38) (fun _ h9 => h9) rfl d_Mo_told_1 ?_
  refine lv_if_eq (tgt := 10) hx hb d_Mo_told_4 (by decide) (fun c4 => ?_) (fun c4 => ?_)
  · have c4 : 1 = 0 := (q_z_eq (by omega)).mp c4
    exfalso; omega
  · have c4 : ¬ 1 = 0 := fun h9 => c4 ((q_z_eq (by omega)).mpr h9)
    refine lv_bipush (v := (-2 : Int32)) hx hb d_Mo_told_7 (by decide) ?_
    exact q_iret hx hb hr hlk hK hP hD hS d_Mo_told_9 (rfl) (rfl)
set_option maxHeartbeats 4000000 in
set_option maxRecDepth 100000 in
theorem c_Mo_fail_off (l : Launch) (D : va_G) (cZ : ClassId) (cI : ClassId) (cB : ClassId) (mo : Nat) (r1 : Nat) (r2 : Nat) (r3 : Nat) (r4 : Nat) (r5 : Nat) (r6 : Nat) (th : Nat → Bool) (pl : Nat → Nat) (mk : Nat → Int32) (nt : Nat → Int32) (bt : Nat → Int32) (us : Nat → Bool) (md : Int32) (ck : Int32) : qMi l y_Mo_fail b_Mo_fail 1 (some .int) (rmL 1) D [(cZ, .boolean), (cI, .int), (cB, .byte)] [.ref mo] [(mo, .inr (5, [.ref r1, .ref r2, .ref r3, .ref r4, .ref r5, .ref r6, .int (md), .int (ck), .int (nI 1)])), (r1, .inl (cZ, 32, .inl (qm_T th))), (r2, .inl (cI, 4096, .inl (qm_P pl))), (r3, .inl (cI, 4096, .inl (mk))), (r4, .inl (cI, 64, .inl (nt))), (r5, .inl (cB, 76800, .inl (bt))), (r6, .inl (cZ, 600, .inl (qm_T us)))] [(mo, .inr (5, [.ref r1, .ref r2, .ref r3, .ref r4, .ref r5, .ref r6, .int (md), .int (ck), .int (nI 1)])), (r1, .inl (cZ, 32, .inl (qm_T th))), (r2, .inl (cI, 4096, .inl (qm_P pl))), (r3, .inl (cI, 4096, .inl (mk))), (r4, .inl (cI, 64, .inl (nt))), (r5, .inl (cB, 76800, .inl (bt))), (r6, .inl (cZ, 600, .inl (qm_T us)))] ((-2 : Int32)) := by
  refine q_start (Qc := qZi D _ _ _) (by decide +kernel) (Nat.le_of_ble_eq_true rfl) ?_
  intro p e s m below meth c A hx hb hr hlk hml hown hts hK hP hD hS hA hN ls hl
  have hl : lv_has ls 1 [(0, .ref mo)] := hl
  have hP : va_P D cls [(mo, .inr (5, [.ref r1, .ref r2, .ref r3, .ref r4, .ref r5, .ref r6, .int (md), .int (ck), .int (nI 1)])), (r1, .inl (cZ, 32, .inl (qm_T th))), (r2, .inl (cI, 4096, .inl (qm_P pl))), (r3, .inl (cI, 4096, .inl (mk))), (r4, .inl (cI, 64, .inl (nt))), (r5, .inl (cB, 76800, .inl (bt))), (r6, .inl (cZ, 600, .inl (qm_T us)))] s.heap := hP
  have hD : va_D A [(mo, .inr (5, [.ref r1, .ref r2, .ref r3, .ref r4, .ref r5, .ref r6, .int (md), .int (ck), .int (nI 1)])), (r1, .inl (cZ, 32, .inl (qm_T th))), (r2, .inl (cI, 4096, .inl (qm_P pl))), (r3, .inl (cI, 4096, .inl (mk))), (r4, .inl (cI, 64, .inl (nt))), (r5, .inl (cB, 76800, .inl (bt))), (r6, .inl (cZ, 600, .inl (qm_T us)))] := hD
  refine lv_aload_n hx hb d_Mo_fail_0 rfl (lv_at hl 0 rfl) ?_
  refine va_get (D := D) (ci := 5) (v := .int (nI 1)) (C := R_Mo) (T := F_Mo) (N := 9) hx hb hts i_Mo hown hK hP 0 rfl rfl 8 (by decide) (hts _ fl_Mo_38) (fun _ h9 => h9) rfl d_Mo_fail_1 ?_
  refine lv_if_eq (tgt := 10) hx hb d_Mo_fail_4 (by decide) (fun c4 => ?_) (fun c4 => ?_)
  · have c4 : 1 = 0 := (q_z_eq (by omega)).mp c4
    exfalso; omega
  · have c4 : ¬ 1 = 0 := fun h9 => c4 ((q_z_eq (by omega)).mpr h9)
    refine lv_bipush (v := (-2 : Int32)) hx hb d_Mo_fail_7 (by decide) ?_
    exact q_iret hx hb hr hlk hK hP hD hS d_Mo_fail_9 (rfl) (rfl)
set_option maxHeartbeats 4000000 in
set_option maxRecDepth 100000 in
theorem c_Mo_count_off (l : Launch) (D : va_G) (cZ : ClassId) (cI : ClassId) (cB : ClassId) (mo : Nat) (r1 : Nat) (r2 : Nat) (r3 : Nat) (r4 : Nat) (r5 : Nat) (r6 : Nat) (th : Nat → Bool) (pl : Nat → Nat) (mk : Nat → Int32) (nt : Nat → Int32) (bt : Nat → Int32) (us : Nat → Bool) (md : Int32) (ck : Int32) (z0 : Int32) : qMi l y_Mo_count b_Mo_count 4 (some .int) (rmL 1) D [(cZ, .boolean), (cI, .int), (cB, .byte)] [.ref mo, .int (z0)] [(mo, .inr (5, [.ref r1, .ref r2, .ref r3, .ref r4, .ref r5, .ref r6, .int (md), .int (ck), .int (nI 1)])), (r1, .inl (cZ, 32, .inl (qm_T th))), (r2, .inl (cI, 4096, .inl (qm_P pl))), (r3, .inl (cI, 4096, .inl (mk))), (r4, .inl (cI, 64, .inl (nt))), (r5, .inl (cB, 76800, .inl (bt))), (r6, .inl (cZ, 600, .inl (qm_T us)))] [(mo, .inr (5, [.ref r1, .ref r2, .ref r3, .ref r4, .ref r5, .ref r6, .int (md), .int (ck), .int (nI 1)])), (r1, .inl (cZ, 32, .inl (qm_T th))), (r2, .inl (cI, 4096, .inl (qm_P pl))), (r3, .inl (cI, 4096, .inl (mk))), (r4, .inl (cI, 64, .inl (nt))), (r5, .inl (cB, 76800, .inl (bt))), (r6, .inl (cZ, 600, .inl (qm_T us)))] ((-2 : Int32)) := by
  refine q_start (Qc := qZi D _ _ _) (by decide +kernel) (Nat.le_of_ble_eq_true rfl) ?_
  intro p e s m below meth c A hx hb hr hlk hml hown hts hK hP hD hS hA hN ls hl
  have hl : lv_has ls 4 [(0, .ref mo), (1, .int (z0))] := hl
  have hP : va_P D cls [(mo, .inr (5, [.ref r1, .ref r2, .ref r3, .ref r4, .ref r5, .ref r6, .int (md), .int (ck), .int (nI 1)])), (r1, .inl (cZ, 32, .inl (qm_T th))), (r2, .inl (cI, 4096, .inl (qm_P pl))), (r3, .inl (cI, 4096, .inl (mk))), (r4, .inl (cI, 64, .inl (nt))), (r5, .inl (cB, 76800, .inl (bt))), (r6, .inl (cZ, 600, .inl (qm_T us)))] s.heap := hP
  have hD : va_D A [(mo, .inr (5, [.ref r1, .ref r2, .ref r3, .ref r4, .ref r5, .ref r6, .int (md), .int (ck), .int (nI 1)])), (r1, .inl (cZ, 32, .inl (qm_T th))), (r2, .inl (cI, 4096, .inl (qm_P pl))), (r3, .inl (cI, 4096, .inl (mk))), (r4, .inl (cI, 64, .inl (nt))), (r5, .inl (cB, 76800, .inl (bt))), (r6, .inl (cZ, 600, .inl (qm_T us)))] := hD
  refine lv_aload_n hx hb d_Mo_count_0 rfl (lv_at hl 0 rfl) ?_
  refine va_get (D := D) (ci := 5) (v := .int (nI 1)) (C := R_Mo) (T := F_Mo) (N := 9) hx hb hts i_Mo hown hK hP 0 rfl rfl 8 (by decide) (hts _ fl_Mo_38) (fun _ h9 => h9) rfl d_Mo_count_1 ?_
  refine lv_if_eq (tgt := 10) hx hb d_Mo_count_4 (by decide) (fun c4 => ?_) (fun c4 => ?_)
  · have c4 : 1 = 0 := (q_z_eq (by omega)).mp c4
    exfalso; omega
  · have c4 : ¬ 1 = 0 := fun h9 => c4 ((q_z_eq (by omega)).mpr h9)
    refine lv_bipush (v := (-2 : Int32)) hx hb d_Mo_count_7 (by decide) ?_
    exact q_iret hx hb hr hlk hK hP hD hS d_Mo_count_9 (rfl) (rfl)
set_option maxHeartbeats 4000000 in
set_option maxRecDepth 100000 in
theorem c_Mo_check_off (l : Launch) (D : va_G) (cZ : ClassId) (cI : ClassId) (cB : ClassId) (mo : Nat) (r1 : Nat) (r2 : Nat) (r3 : Nat) (r4 : Nat) (r5 : Nat) (r6 : Nat) (th : Nat → Bool) (pl : Nat → Nat) (mk : Nat → Int32) (nt : Nat → Int32) (bt : Nat → Int32) (us : Nat → Bool) (md : Int32) (ck : Int32) : qMi l y_Mo_check b_Mo_check 1 (some .int) (rmL 1) D [(cZ, .boolean), (cI, .int), (cB, .byte)] [.ref mo] [(mo, .inr (5, [.ref r1, .ref r2, .ref r3, .ref r4, .ref r5, .ref r6, .int (md), .int (ck), .int (nI 1)])), (r1, .inl (cZ, 32, .inl (qm_T th))), (r2, .inl (cI, 4096, .inl (qm_P pl))), (r3, .inl (cI, 4096, .inl (mk))), (r4, .inl (cI, 64, .inl (nt))), (r5, .inl (cB, 76800, .inl (bt))), (r6, .inl (cZ, 600, .inl (qm_T us)))] [(mo, .inr (5, [.ref r1, .ref r2, .ref r3, .ref r4, .ref r5, .ref r6, .int (md), .int (ck), .int (nI 1)])), (r1, .inl (cZ, 32, .inl (qm_T th))), (r2, .inl (cI, 4096, .inl (qm_P pl))), (r3, .inl (cI, 4096, .inl (mk))), (r4, .inl (cI, 64, .inl (nt))), (r5, .inl (cB, 76800, .inl (bt))), (r6, .inl (cZ, 600, .inl (qm_T us)))] ((-2 : Int32)) := by
  refine q_start (Qc := qZi D _ _ _) (by decide +kernel) (Nat.le_of_ble_eq_true rfl) ?_
  intro p e s m below meth c A hx hb hr hlk hml hown hts hK hP hD hS hA hN ls hl
  have hl : lv_has ls 1 [(0, .ref mo)] := hl
  have hP : va_P D cls [(mo, .inr (5, [.ref r1, .ref r2, .ref r3, .ref r4, .ref r5, .ref r6, .int (md), .int (ck), .int (nI 1)])), (r1, .inl (cZ, 32, .inl (qm_T th))), (r2, .inl (cI, 4096, .inl (qm_P pl))), (r3, .inl (cI, 4096, .inl (mk))), (r4, .inl (cI, 64, .inl (nt))), (r5, .inl (cB, 76800, .inl (bt))), (r6, .inl (cZ, 600, .inl (qm_T us)))] s.heap := hP
  have hD : va_D A [(mo, .inr (5, [.ref r1, .ref r2, .ref r3, .ref r4, .ref r5, .ref r6, .int (md), .int (ck), .int (nI 1)])), (r1, .inl (cZ, 32, .inl (qm_T th))), (r2, .inl (cI, 4096, .inl (qm_P pl))), (r3, .inl (cI, 4096, .inl (mk))), (r4, .inl (cI, 64, .inl (nt))), (r5, .inl (cB, 76800, .inl (bt))), (r6, .inl (cZ, 600, .inl (qm_T us)))] := hD
  refine lv_aload_n hx hb d_Mo_check_0 rfl (lv_at hl 0 rfl) ?_
  refine va_get (D := D) (ci := 5) (v := .int (nI 1)) (C := R_Mo) (T := F_Mo) (N := 9) hx hb hts i_Mo hown hK hP 0 rfl rfl 8 (by decide) (hts _ fl_Mo_38) (fun _ h9 => h9) rfl d_Mo_check_1 ?_
  refine lv_if_eq (tgt := 12) hx hb d_Mo_check_4 (by decide) (fun c4 => ?_) (fun c4 => ?_)
  · have c4 : 1 = 0 := (q_z_eq (by omega)).mp c4
    exfalso; omega
  · have c4 : ¬ 1 = 0 := fun h9 => c4 ((q_z_eq (by omega)).mpr h9)
    refine lv_bipush (v := (-2 : Int32)) hx hb d_Mo_check_7 (by decide) ?_
    refine lv_goto (tgt := 13) hx hb d_Mo_check_9 (by decide) ?_
    exact q_iret hx hb hr hlk hK hP hD hS d_Mo_check_13 (rfl) (rfl)
set_option maxHeartbeats 4000000 in
set_option maxRecDepth 100000 in
theorem c_Mo_keep_off (l : Launch) (D : va_G) (cZ : ClassId) (cI : ClassId) (cB : ClassId) (mo : Nat) (r1 : Nat) (r2 : Nat) (r3 : Nat) (r4 : Nat) (r5 : Nat) (r6 : Nat) (th : Nat → Bool) (pl : Nat → Nat) (mk : Nat → Int32) (nt : Nat → Int32) (bt : Nat → Int32) (us : Nat → Bool) (md : Int32) (ck : Int32) (z0 : Int32) (z1 : Int64) : qMi l y_Mo_keep b_Mo_keep 5 (some .int) (rmL 1) D [(cZ, .boolean), (cI, .int), (cB, .byte)] [.ref mo, .int (z0), .long (z1)] [(mo, .inr (5, [.ref r1, .ref r2, .ref r3, .ref r4, .ref r5, .ref r6, .int (md), .int (ck), .int (nI 1)])), (r1, .inl (cZ, 32, .inl (qm_T th))), (r2, .inl (cI, 4096, .inl (qm_P pl))), (r3, .inl (cI, 4096, .inl (mk))), (r4, .inl (cI, 64, .inl (nt))), (r5, .inl (cB, 76800, .inl (bt))), (r6, .inl (cZ, 600, .inl (qm_T us)))] [(mo, .inr (5, [.ref r1, .ref r2, .ref r3, .ref r4, .ref r5, .ref r6, .int (md), .int (ck), .int (nI 1)])), (r1, .inl (cZ, 32, .inl (qm_T th))), (r2, .inl (cI, 4096, .inl (qm_P pl))), (r3, .inl (cI, 4096, .inl (mk))), (r4, .inl (cI, 64, .inl (nt))), (r5, .inl (cB, 76800, .inl (bt))), (r6, .inl (cZ, 600, .inl (qm_T us)))] ((-2 : Int32)) := by
  refine q_start (Qc := qZi D _ _ _) (by decide +kernel) (Nat.le_of_ble_eq_true rfl) ?_
  intro p e s m below meth c A hx hb hr hlk hml hown hts hK hP hD hS hA hN ls hl
  have hl : lv_has ls 5 [(0, .ref mo), (1, .int (z0)), (2, .long (z1))] := hl
  have hP : va_P D cls [(mo, .inr (5, [.ref r1, .ref r2, .ref r3, .ref r4, .ref r5, .ref r6, .int (md), .int (ck), .int (nI 1)])), (r1, .inl (cZ, 32, .inl (qm_T th))), (r2, .inl (cI, 4096, .inl (qm_P pl))), (r3, .inl (cI, 4096, .inl (mk))), (r4, .inl (cI, 64, .inl (nt))), (r5, .inl (cB, 76800, .inl (bt))), (r6, .inl (cZ, 600, .inl (qm_T us)))] s.heap := hP
  have hD : va_D A [(mo, .inr (5, [.ref r1, .ref r2, .ref r3, .ref r4, .ref r5, .ref r6, .int (md), .int (ck), .int (nI 1)])), (r1, .inl (cZ, 32, .inl (qm_T th))), (r2, .inl (cI, 4096, .inl (qm_P pl))), (r3, .inl (cI, 4096, .inl (mk))), (r4, .inl (cI, 64, .inl (nt))), (r5, .inl (cB, 76800, .inl (bt))), (r6, .inl (cZ, 600, .inl (qm_T us)))] := hD
  refine lv_aload_n hx hb d_Mo_keep_0 rfl (lv_at hl 0 rfl) ?_
  refine va_get (D := D) (ci := 5) (v := .int (nI 1)) (C := R_Mo) (T := F_Mo) (N := 9) hx hb hts i_Mo hown hK hP 0 rfl rfl 8 (by decide) (hts _ fl_Mo_38) (fun _ h9 => h9) rfl d_Mo_keep_1 ?_
  refine lv_if_eq (tgt := 10) hx hb d_Mo_keep_4 (by decide) (fun c4 => ?_) (fun c4 => ?_)
  · have c4 : 1 = 0 := (q_z_eq (by omega)).mp c4
    exfalso; omega
  · have c4 : ¬ 1 = 0 := fun h9 => c4 ((q_z_eq (by omega)).mpr h9)
    refine lv_bipush (v := (-2 : Int32)) hx hb d_Mo_keep_7 (by decide) ?_
    exact q_iret hx hb hr hlk hK hP hD hS d_Mo_keep_9 (rfl) (rfl)
set_option maxHeartbeats 4000000 in
set_option maxRecDepth 100000 in
theorem c_Mo_mount_on (l : Launch) (D : va_G) (cZ : ClassId) (cI : ClassId) (cB : ClassId) (mo : Nat) (r1 : Nat) (r2 : Nat) (r3 : Nat) (r4 : Nat) (r5 : Nat) (r6 : Nat) (th : Nat → Bool) (pl : Nat → Nat) (mk : Nat → Int32) (nt : Nat → Int32) (bt : Nat → Int32) (us : Nat → Bool) (md : Int32) (ck : Int32) : qMi l y_Mo_mount b_Mo_mount 1 (some .int) (rmL 1) D [(cZ, .boolean), (cI, .int), (cB, .byte)] [.ref mo] [(mo, .inr (5, [.ref r1, .ref r2, .ref r3, .ref r4, .ref r5, .ref r6, .int (md), .int (ck), .int (nI 0)])), (r1, .inl (cZ, 32, .inl (qm_T th))), (r2, .inl (cI, 4096, .inl (qm_P pl))), (r3, .inl (cI, 4096, .inl (mk))), (r4, .inl (cI, 64, .inl (nt))), (r5, .inl (cB, 76800, .inl (bt))), (r6, .inl (cZ, 600, .inl (qm_T us)))] [(mo, .inr (5, [.ref r1, .ref r2, .ref r3, .ref r4, .ref r5, .ref r6, .int (md), .int (ck), .int (nI 0)])), (r1, .inl (cZ, 32, .inl (qm_T th))), (r2, .inl (cI, 4096, .inl (qm_P pl))), (r3, .inl (cI, 4096, .inl (mk))), (r4, .inl (cI, 64, .inl (nt))), (r5, .inl (cB, 76800, .inl (bt))), (r6, .inl (cZ, 600, .inl (qm_T us)))] ((-1 : Int32)) := by
  refine q_start (Qc := qZi D _ _ _) (by decide +kernel) (Nat.le_of_ble_eq_true rfl) ?_
  intro p e s m below meth c A hx hb hr hlk hml hown hts hK hP hD hS hA hN ls hl
  have hl : lv_has ls 1 [(0, .ref mo)] := hl
  have hP : va_P D cls [(mo, .inr (5, [.ref r1, .ref r2, .ref r3, .ref r4, .ref r5, .ref r6, .int (md), .int (ck), .int (nI 0)])), (r1, .inl (cZ, 32, .inl (qm_T th))), (r2, .inl (cI, 4096, .inl (qm_P pl))), (r3, .inl (cI, 4096, .inl (mk))), (r4, .inl (cI, 64, .inl (nt))), (r5, .inl (cB, 76800, .inl (bt))), (r6, .inl (cZ, 600, .inl (qm_T us)))] s.heap := hP
  have hD : va_D A [(mo, .inr (5, [.ref r1, .ref r2, .ref r3, .ref r4, .ref r5, .ref r6, .int (md), .int (ck), .int (nI 0)])), (r1, .inl (cZ, 32, .inl (qm_T th))), (r2, .inl (cI, 4096, .inl (qm_P pl))), (r3, .inl (cI, 4096, .inl (mk))), (r4, .inl (cI, 64, .inl (nt))), (r5, .inl (cB, 76800, .inl (bt))), (r6, .inl (cZ, 600, .inl (qm_T us)))] := hD
  refine lv_aload_n hx hb d_Mo_mount_0 rfl (lv_at hl 0 rfl) ?_
  refine va_get (D := D) (ci := 5) (v := .int (nI 0)) (C := R_Mo) (T := F_Mo) (N := 9) hx hb hts i_Mo hown hK hP 0 rfl rfl 8 (by decide) (hts _ fl_Mo_38) (fun _ h9 => h9) rfl d_Mo_mount_1 ?_
  refine lv_if_ne (tgt := 9) hx hb d_Mo_mount_4 (by decide) (fun c4 => ?_) (fun c4 => ?_)
  · have c4 : ¬ 0 = 0 := fun h9 => c4 ((q_z_eq (by omega)).mpr h9)
    exfalso; omega
  · have c4 : 0 = 0 := (q_z_eq (by omega)).mp c4
    refine lv_iconst (v := (-1 : Int32)) hx hb d_Mo_mount_7 (by decide) ?_
    exact q_iret hx hb hr hlk hK hP hD hS d_Mo_mount_8 (rfl) (rfl)
set_option maxHeartbeats 4000000 in
set_option maxRecDepth 100000 in
theorem c_Mo_check_ok (l : Launch) (D : va_G) (cZ : ClassId) (cI : ClassId) (cB : ClassId) (mo : Nat) (r1 : Nat) (r2 : Nat) (r3 : Nat) (r4 : Nat) (r5 : Nat) (r6 : Nat) (th : Nat → Bool) (pl : Nat → Nat) (mk : Nat → Int32) (nt : Nat → Int32) (bt : Nat → Int32) (us : Nat → Bool) (md : Int32) (ck : Int32) : qMi l y_Mo_check b_Mo_check 1 (some .int) (rmL 1) D [(cZ, .boolean), (cI, .int), (cB, .byte)] [.ref mo] [(mo, .inr (5, [.ref r1, .ref r2, .ref r3, .ref r4, .ref r5, .ref r6, .int (md), .int (ck), .int (nI 0)])), (r1, .inl (cZ, 32, .inl (qm_T th))), (r2, .inl (cI, 4096, .inl (qm_P pl))), (r3, .inl (cI, 4096, .inl (mk))), (r4, .inl (cI, 64, .inl (nt))), (r5, .inl (cB, 76800, .inl (bt))), (r6, .inl (cZ, 600, .inl (qm_T us)))] [(mo, .inr (5, [.ref r1, .ref r2, .ref r3, .ref r4, .ref r5, .ref r6, .int (md), .int (ck), .int (nI 0)])), (r1, .inl (cZ, 32, .inl (qm_T th))), (r2, .inl (cI, 4096, .inl (qm_P pl))), (r3, .inl (cI, 4096, .inl (mk))), (r4, .inl (cI, 64, .inl (nt))), (r5, .inl (cB, 76800, .inl (bt))), (r6, .inl (cZ, 600, .inl (qm_T us)))] (nI 0) := by
  refine q_start (Qc := qZi D _ _ _) (by decide +kernel) (Nat.le_of_ble_eq_true rfl) ?_
  intro p e s m below meth c A hx hb hr hlk hml hown hts hK hP hD hS hA hN ls hl
  have hl : lv_has ls 1 [(0, .ref mo)] := hl
  have hP : va_P D cls [(mo, .inr (5, [.ref r1, .ref r2, .ref r3, .ref r4, .ref r5, .ref r6, .int (md), .int (ck), .int (nI 0)])), (r1, .inl (cZ, 32, .inl (qm_T th))), (r2, .inl (cI, 4096, .inl (qm_P pl))), (r3, .inl (cI, 4096, .inl (mk))), (r4, .inl (cI, 64, .inl (nt))), (r5, .inl (cB, 76800, .inl (bt))), (r6, .inl (cZ, 600, .inl (qm_T us)))] s.heap := hP
  have hD : va_D A [(mo, .inr (5, [.ref r1, .ref r2, .ref r3, .ref r4, .ref r5, .ref r6, .int (md), .int (ck), .int (nI 0)])), (r1, .inl (cZ, 32, .inl (qm_T th))), (r2, .inl (cI, 4096, .inl (qm_P pl))), (r3, .inl (cI, 4096, .inl (mk))), (r4, .inl (cI, 64, .inl (nt))), (r5, .inl (cB, 76800, .inl (bt))), (r6, .inl (cZ, 600, .inl (qm_T us)))] := hD
  refine lv_aload_n hx hb d_Mo_check_0 rfl (lv_at hl 0 rfl) ?_
  refine va_get (D := D) (ci := 5) (v := .int (nI 0)) (C := R_Mo) (T := F_Mo) (N := 9) hx hb hts i_Mo hown hK hP 0 rfl rfl 8 (by decide) (hts _ fl_Mo_38) (fun _ h9 => h9) rfl d_Mo_check_1 ?_
  refine lv_if_eq (tgt := 12) hx hb d_Mo_check_4 (by decide) (fun c4 => ?_) (fun c4 => ?_)
  · have c4 : 0 = 0 := (q_z_eq (by omega)).mp c4
    refine lv_iconst (v := nI 0) hx hb d_Mo_check_12 (by decide) ?_
    exact q_iret hx hb hr hlk hK hP hD hS d_Mo_check_13 (rfl) (rfl)
  · have c4 : ¬ 0 = 0 := fun h9 => c4 ((q_z_eq (by omega)).mpr h9)
    exfalso; omega
set_option maxHeartbeats 4000000 in
set_option maxRecDepth 100000 in
theorem c_Mo_fail_ok (l : Launch) (D : va_G) (cZ : ClassId) (cI : ClassId) (cB : ClassId) (mo : Nat) (r1 : Nat) (r2 : Nat) (r3 : Nat) (r4 : Nat) (r5 : Nat) (r6 : Nat) (th : Nat → Bool) (pl : Nat → Nat) (mk : Nat → Int32) (nt : Nat → Int32) (bt : Nat → Int32) (us : Nat → Bool) (md : Int32) (ck : Int32) : qMi l y_Mo_fail b_Mo_fail 1 (some .int) (rmL 1) D [(cZ, .boolean), (cI, .int), (cB, .byte)] [.ref mo] [(mo, .inr (5, [.ref r1, .ref r2, .ref r3, .ref r4, .ref r5, .ref r6, .int (md), .int (ck), .int (nI 0)])), (r1, .inl (cZ, 32, .inl (qm_T th))), (r2, .inl (cI, 4096, .inl (qm_P pl))), (r3, .inl (cI, 4096, .inl (mk))), (r4, .inl (cI, 64, .inl (nt))), (r5, .inl (cB, 76800, .inl (bt))), (r6, .inl (cZ, 600, .inl (qm_T us)))] [(mo, .inr (5, [.ref r1, .ref r2, .ref r3, .ref r4, .ref r5, .ref r6, .int (md), .int (ck), .int (nI 1)])), (r1, .inl (cZ, 32, .inl (qm_T th))), (r2, .inl (cI, 4096, .inl (qm_P pl))), (r3, .inl (cI, 4096, .inl (mk))), (r4, .inl (cI, 64, .inl (nt))), (r5, .inl (cB, 76800, .inl (bt))), (r6, .inl (cZ, 600, .inl (qm_T us)))] (nI 0) := by
  refine q_start (Qc := qZi D _ _ _) (by decide +kernel) (Nat.le_of_ble_eq_true rfl) ?_
  intro p e s m below meth c A hx hb hr hlk hml hown hts hK hP hD hS hA hN ls hl
  have hl : lv_has ls 1 [(0, .ref mo)] := hl
  have hP : va_P D cls [(mo, .inr (5, [.ref r1, .ref r2, .ref r3, .ref r4, .ref r5, .ref r6, .int (md), .int (ck), .int (nI 0)])), (r1, .inl (cZ, 32, .inl (qm_T th))), (r2, .inl (cI, 4096, .inl (qm_P pl))), (r3, .inl (cI, 4096, .inl (mk))), (r4, .inl (cI, 64, .inl (nt))), (r5, .inl (cB, 76800, .inl (bt))), (r6, .inl (cZ, 600, .inl (qm_T us)))] s.heap := hP
  have hD : va_D A [(mo, .inr (5, [.ref r1, .ref r2, .ref r3, .ref r4, .ref r5, .ref r6, .int (md), .int (ck), .int (nI 0)])), (r1, .inl (cZ, 32, .inl (qm_T th))), (r2, .inl (cI, 4096, .inl (qm_P pl))), (r3, .inl (cI, 4096, .inl (mk))), (r4, .inl (cI, 64, .inl (nt))), (r5, .inl (cB, 76800, .inl (bt))), (r6, .inl (cZ, 600, .inl (qm_T us)))] := hD
  refine lv_aload_n hx hb d_Mo_fail_0 rfl (lv_at hl 0 rfl) ?_
  refine va_get (D := D) (ci := 5) (v := .int (nI 0)) (C := R_Mo) (T := F_Mo) (N := 9) hx hb hts i_Mo hown hK hP 0 rfl rfl 8 (by decide) (hts _ fl_Mo_38) (fun _ h9 => h9) rfl d_Mo_fail_1 ?_
  refine lv_if_eq (tgt := 10) hx hb d_Mo_fail_4 (by decide) (fun c4 => ?_) (fun c4 => ?_)
  · have c4 : 0 = 0 := (q_z_eq (by omega)).mp c4
    refine lv_aload_n hx hb d_Mo_fail_10 rfl (lv_at hl 0 rfl) ?_
    refine lv_iconst (v := nI 1) hx hb d_Mo_fail_11 (by decide) ?_
    refine va_put (D := D) (ci := 5) (v := .int (nI 1)) (ty := .boolean) (C := R_Mo) (T := F_Mo) (N := 9) hx hb hts i_Mo t_Mo t_Mo_ok n_Mo hown hK hP hD hS 0 rfl rfl 8 (by decide) (hts _ fl_Mo_38) (fun _ h9 => h9) rfl (by decide +kernel) rfl rfl (Nat.le_of_ble_eq_true rfl) d_Mo_fail_12 (fun H locs hP hD hS => ?_)
    have hP : va_P D cls [(mo, .inr (5, [.ref r1, .ref r2, .ref r3, .ref r4, .ref r5, .ref r6, .int (md), .int (ck), .int (nI 1)])), (r1, .inl (cZ, 32, .inl (qm_T th))), (r2, .inl (cI, 4096, .inl (qm_P pl))), (r3, .inl (cI, 4096, .inl (mk))), (r4, .inl (cI, 64, .inl (nt))), (r5, .inl (cB, 76800, .inl (bt))), (r6, .inl (cZ, 600, .inl (qm_T us)))] H := hP
    have hD : va_D A [(mo, .inr (5, [.ref r1, .ref r2, .ref r3, .ref r4, .ref r5, .ref r6, .int (md), .int (ck), .int (nI 1)])), (r1, .inl (cZ, 32, .inl (qm_T th))), (r2, .inl (cI, 4096, .inl (qm_P pl))), (r3, .inl (cI, 4096, .inl (mk))), (r4, .inl (cI, 64, .inl (nt))), (r5, .inl (cB, 76800, .inl (bt))), (r6, .inl (cZ, 600, .inl (qm_T us)))] := hD
    refine lv_iconst (v := nI 0) hx hb d_Mo_fail_15 (by decide) ?_
    exact q_iret hx hb hr hlk hK hP hD hS d_Mo_fail_16 (rfl) (rfl)
  · have c4 : ¬ 0 = 0 := fun h9 => c4 ((q_z_eq (by omega)).mpr h9)
    exfalso; omega
set_option maxHeartbeats 4000000 in
set_option maxRecDepth 100000 in
theorem c_Mo_begin (l : Launch) (D : va_G) (cZ : ClassId) (cI : ClassId) (cB : ClassId) (mo : Nat) (r1 : Nat) (r2 : Nat) (r3 : Nat) (r4 : Nat) (r5 : Nat) (r6 : Nat) (th : Nat → Bool) (pl : Nat → Nat) (mk : Nat → Int32) (nt : Nat → Int32) (bt : Nat → Int32) (us : Nat → Bool) (md : Int32) (ck : Int32) (ov : Nat) : qMv l y_Mo_begin b_Mo_begin 2 none (rmL 1) D [(cZ, .boolean), (cI, .int), (cB, .byte)] [.ref mo] [(mo, .inr (5, [.ref r1, .ref r2, .ref r3, .ref r4, .ref r5, .ref r6, .int (md), .int (ck), .int (nI ov)])), (r1, .inl (cZ, 32, .inl (qm_T th))), (r2, .inl (cI, 4096, .inl (qm_P pl))), (r3, .inl (cI, 4096, .inl (mk))), (r4, .inl (cI, 64, .inl (nt))), (r5, .inl (cB, 76800, .inl (bt))), (r6, .inl (cZ, 600, .inl (qm_T us)))] [(mo, .inr (5, [.ref r1, .ref r2, .ref r3, .ref r4, .ref r5, .ref r6, .int (md), .int (nI 0), .int (nI 0)])), (r1, .inl (cZ, 32, .inl (qm_T (qm_fl th 32)))), (r2, .inl (cI, 4096, .inl (qm_P (qm_zl pl 4096)))), (r3, .inl (cI, 4096, .inl (mk))), (r4, .inl (cI, 64, .inl (qm_nl nt 64))), (r5, .inl (cB, 76800, .inl (bt))), (r6, .inl (cZ, 600, .inl (qm_T (qm_fl us 600))))] := by
  refine q_start (Qc := qZv D _ _) (by decide +kernel) (Nat.le_of_ble_eq_true rfl) ?_
  intro p e s m below meth c A hx hb hr hlk hml hown hts hK hP hD hS hA hN ls hl
  have hl : lv_has ls 2 [(0, .ref mo)] := hl
  have hP : va_P D cls [(mo, .inr (5, [.ref r1, .ref r2, .ref r3, .ref r4, .ref r5, .ref r6, .int (md), .int (ck), .int (nI ov)])), (r1, .inl (cZ, 32, .inl (qm_T th))), (r2, .inl (cI, 4096, .inl (qm_P pl))), (r3, .inl (cI, 4096, .inl (mk))), (r4, .inl (cI, 64, .inl (nt))), (r5, .inl (cB, 76800, .inl (bt))), (r6, .inl (cZ, 600, .inl (qm_T us)))] s.heap := hP
  have hD : va_D A [(mo, .inr (5, [.ref r1, .ref r2, .ref r3, .ref r4, .ref r5, .ref r6, .int (md), .int (ck), .int (nI ov)])), (r1, .inl (cZ, 32, .inl (qm_T th))), (r2, .inl (cI, 4096, .inl (qm_P pl))), (r3, .inl (cI, 4096, .inl (mk))), (r4, .inl (cI, 64, .inl (nt))), (r5, .inl (cB, 76800, .inl (bt))), (r6, .inl (cZ, 600, .inl (qm_T us)))] := hD
  refine lv_iconst (v := nI 0) hx hb d_Mo_begin_0 (by decide) ?_
  refine lv_istore_n (lv' := [(1, .int (nI 0)), (0, .ref mo)]) hx hb d_Mo_begin_1 rfl hl (by decide) rfl (fun ls hl => ?_)
  refine q_loop (pc := 2) (σ := Unit) (I := fun i u9 H locs ls => va_P D cls [(mo, .inr (5, [.ref r1, .ref r2, .ref r3, .ref r4, .ref r5, .ref r6, .int (md), .int (ck), .int (nI ov)])), (r1, .inl (cZ, 32, .inl (qm_T (qm_fl th (i))))), (r2, .inl (cI, 4096, .inl (qm_P pl))), (r3, .inl (cI, 4096, .inl (mk))), (r4, .inl (cI, 64, .inl (nt))), (r5, .inl (cB, 76800, .inl (bt))), (r6, .inl (cZ, 600, .inl (qm_T us)))] H ∧ va_D A [(mo, .inr (5, [.ref r1, .ref r2, .ref r3, .ref r4, .ref r5, .ref r6, .int (md), .int (ck), .int (nI ov)])), (r1, .inl (cZ, 32, .inl (qm_T (qm_fl th (i))))), (r2, .inl (cI, 4096, .inl (qm_P pl))), (r3, .inl (cI, 4096, .inl (mk))), (r4, .inl (cI, 64, .inl (nt))), (r5, .inl (cB, 76800, .inl (bt))), (r6, .inl (cZ, 600, .inl (qm_T us)))] ∧ va_S A s.heap H locs ∧ lv_has ls 2 [(0, .ref mo), (1, .int (nI i))]) (32) ?_ ?_ (0) (()) _ _ _ (by omega) ⟨(by rw [qm_fl_0]; exact hP), (by rw [qm_fl_0]; exact hD), hS, lv_sub hl [1, 0] rfl⟩
  · intro u9 H locs ls hI
    obtain ⟨hP, hD, hS, hl⟩ := hI
    refine lv_iload_n hx hb d_Mo_begin_2 rfl (lv_at hl 1 rfl) ?_
    refine lv_bipush (v := nI 32) hx hb d_Mo_begin_3 (by decide) ?_
    refine lv_icmp_ge (tgt := 21) hx hb d_Mo_begin_5 (by decide) (fun c5 => ?_) (fun c5 => ?_)
    · have c5 : 32 ≤ 32 := (nI_leI (by omega) (by omega)).mp c5
      refine lv_iconst (v := nI 0) hx hb d_Mo_begin_21 (by decide) ?_
      refine lv_istore_n (lv' := [(1, .int (nI 0)), (0, .ref mo)]) hx hb d_Mo_begin_22 rfl hl (by decide) rfl (fun ls hl => ?_)
      refine q_loop (pc := 23) (σ := Unit) (I := fun i u9 H locs ls => va_P D cls [(mo, .inr (5, [.ref r1, .ref r2, .ref r3, .ref r4, .ref r5, .ref r6, .int (md), .int (ck), .int (nI ov)])), (r1, .inl (cZ, 32, .inl (qm_T (qm_fl th 32)))), (r2, .inl (cI, 4096, .inl (qm_P (qm_zl pl (i))))), (r3, .inl (cI, 4096, .inl (mk))), (r4, .inl (cI, 64, .inl (nt))), (r5, .inl (cB, 76800, .inl (bt))), (r6, .inl (cZ, 600, .inl (qm_T us)))] H ∧ va_D A [(mo, .inr (5, [.ref r1, .ref r2, .ref r3, .ref r4, .ref r5, .ref r6, .int (md), .int (ck), .int (nI ov)])), (r1, .inl (cZ, 32, .inl (qm_T (qm_fl th 32)))), (r2, .inl (cI, 4096, .inl (qm_P (qm_zl pl (i))))), (r3, .inl (cI, 4096, .inl (mk))), (r4, .inl (cI, 64, .inl (nt))), (r5, .inl (cB, 76800, .inl (bt))), (r6, .inl (cZ, 600, .inl (qm_T us)))] ∧ va_S A s.heap H locs ∧ lv_has ls 2 [(0, .ref mo), (1, .int (nI i))]) (4096) ?_ ?_ (0) (()) _ _ _ (by omega) ⟨(by rw [qm_zl_0]; exact hP), (by rw [qm_zl_0]; exact hD), hS, lv_sub hl [1, 0] rfl⟩
      · intro u9 H locs ls hI
        obtain ⟨hP, hD, hS, hl⟩ := hI
        refine lv_iload_n hx hb d_Mo_begin_23 rfl (lv_at hl 1 rfl) ?_
        refine lv_sipush (v := nI 4096) hx hb d_Mo_begin_24 (by decide) ?_
        refine lv_icmp_ge (tgt := 43) hx hb d_Mo_begin_27 (by decide) (fun c27 => ?_) (fun c27 => ?_)
        · have c27 : 4096 ≤ 4096 := (nI_leI (by omega) (by omega)).mp c27
          refine lv_iconst (v := nI 0) hx hb d_Mo_begin_43 (by decide) ?_
          refine lv_istore_n (lv' := [(1, .int (nI 0)), (0, .ref mo)]) hx hb d_Mo_begin_44 rfl hl (by decide) rfl (fun ls hl => ?_)
          refine q_loop (pc := 45) (σ := Unit) (I := fun i u9 H locs ls => va_P D cls [(mo, .inr (5, [.ref r1, .ref r2, .ref r3, .ref r4, .ref r5, .ref r6, .int (md), .int (ck), .int (nI ov)])), (r1, .inl (cZ, 32, .inl (qm_T (qm_fl th 32)))), (r2, .inl (cI, 4096, .inl (qm_P (qm_zl pl 4096)))), (r3, .inl (cI, 4096, .inl (mk))), (r4, .inl (cI, 64, .inl (qm_nl nt (i)))), (r5, .inl (cB, 76800, .inl (bt))), (r6, .inl (cZ, 600, .inl (qm_T us)))] H ∧ va_D A [(mo, .inr (5, [.ref r1, .ref r2, .ref r3, .ref r4, .ref r5, .ref r6, .int (md), .int (ck), .int (nI ov)])), (r1, .inl (cZ, 32, .inl (qm_T (qm_fl th 32)))), (r2, .inl (cI, 4096, .inl (qm_P (qm_zl pl 4096)))), (r3, .inl (cI, 4096, .inl (mk))), (r4, .inl (cI, 64, .inl (qm_nl nt (i)))), (r5, .inl (cB, 76800, .inl (bt))), (r6, .inl (cZ, 600, .inl (qm_T us)))] ∧ va_S A s.heap H locs ∧ lv_has ls 2 [(0, .ref mo), (1, .int (nI i))]) (64) ?_ ?_ (0) (()) _ _ _ (by omega) ⟨(by rw [qm_nl_0]; exact hP), (by rw [qm_nl_0]; exact hD), hS, lv_sub hl [1, 0] rfl⟩
          · intro u9 H locs ls hI
            obtain ⟨hP, hD, hS, hl⟩ := hI
            refine lv_iload_n hx hb d_Mo_begin_45 rfl (lv_at hl 1 rfl) ?_
            refine lv_bipush (v := nI 64) hx hb d_Mo_begin_46 (by decide) ?_
            refine lv_icmp_ge (tgt := 64) hx hb d_Mo_begin_48 (by decide) (fun c48 => ?_) (fun c48 => ?_)
            · have c48 : 64 ≤ 64 := (nI_leI (by omega) (by omega)).mp c48
              refine lv_iconst (v := nI 0) hx hb d_Mo_begin_64 (by decide) ?_
              refine lv_istore_n (lv' := [(1, .int (nI 0)), (0, .ref mo)]) hx hb d_Mo_begin_65 rfl hl (by decide) rfl (fun ls hl => ?_)
              refine q_loop (pc := 66) (σ := Unit) (I := fun i u9 H locs ls => va_P D cls [(mo, .inr (5, [.ref r1, .ref r2, .ref r3, .ref r4, .ref r5, .ref r6, .int (md), .int (ck), .int (nI ov)])), (r1, .inl (cZ, 32, .inl (qm_T (qm_fl th 32)))), (r2, .inl (cI, 4096, .inl (qm_P (qm_zl pl 4096)))), (r3, .inl (cI, 4096, .inl (mk))), (r4, .inl (cI, 64, .inl (qm_nl nt 64))), (r5, .inl (cB, 76800, .inl (bt))), (r6, .inl (cZ, 600, .inl (qm_T (qm_fl us (i)))))] H ∧ va_D A [(mo, .inr (5, [.ref r1, .ref r2, .ref r3, .ref r4, .ref r5, .ref r6, .int (md), .int (ck), .int (nI ov)])), (r1, .inl (cZ, 32, .inl (qm_T (qm_fl th 32)))), (r2, .inl (cI, 4096, .inl (qm_P (qm_zl pl 4096)))), (r3, .inl (cI, 4096, .inl (mk))), (r4, .inl (cI, 64, .inl (qm_nl nt 64))), (r5, .inl (cB, 76800, .inl (bt))), (r6, .inl (cZ, 600, .inl (qm_T (qm_fl us (i)))))] ∧ va_S A s.heap H locs ∧ lv_has ls 2 [(0, .ref mo), (1, .int (nI i))]) (600) ?_ ?_ (0) (()) _ _ _ (by omega) ⟨(by rw [qm_fl_0]; exact hP), (by rw [qm_fl_0]; exact hD), hS, lv_sub hl [1, 0] rfl⟩
              · intro u9 H locs ls hI
                obtain ⟨hP, hD, hS, hl⟩ := hI
                refine lv_iload_n hx hb d_Mo_begin_66 rfl (lv_at hl 1 rfl) ?_
                refine lv_sipush (v := nI 600) hx hb d_Mo_begin_67 (by decide) ?_
                refine lv_icmp_ge (tgt := 86) hx hb d_Mo_begin_70 (by decide) (fun c70 => ?_) (fun c70 => ?_)
                · have c70 : 600 ≤ 600 := (nI_leI (by omega) (by omega)).mp c70
                  refine lv_aload_n hx hb d_Mo_begin_86 rfl (lv_at hl 0 rfl) ?_
                  refine lv_iconst (v := nI 0) hx hb d_Mo_begin_87 (by decide) ?_
                  refine va_put (D := D) (ci := 5) (v := .int (nI 0)) (ty := .int) (C := R_Mo) (T := F_Mo) (N := 9) hx hb hts i_Mo t_Mo t_Mo_ok n_Mo hown hK hP hD hS 0 rfl rfl 7 (by decide) (hts _ fl_Mo_34) (fun _ h9 => h9) rfl (by decide +kernel) rfl rfl (Nat.le_of_ble_eq_true rfl) d_Mo_begin_88 (fun H locs hP hD hS => ?_)
                  have hP : va_P D cls [(mo, .inr (5, [.ref r1, .ref r2, .ref r3, .ref r4, .ref r5, .ref r6, .int (md), .int (nI 0), .int (nI ov)])), (r1, .inl (cZ, 32, .inl (qm_T (qm_fl th 32)))), (r2, .inl (cI, 4096, .inl (qm_P (qm_zl pl 4096)))), (r3, .inl (cI, 4096, .inl (mk))), (r4, .inl (cI, 64, .inl (qm_nl nt 64))), (r5, .inl (cB, 76800, .inl (bt))), (r6, .inl (cZ, 600, .inl (qm_T (qm_fl us (600)))))] H := hP
                  have hD : va_D A [(mo, .inr (5, [.ref r1, .ref r2, .ref r3, .ref r4, .ref r5, .ref r6, .int (md), .int (nI 0), .int (nI ov)])), (r1, .inl (cZ, 32, .inl (qm_T (qm_fl th 32)))), (r2, .inl (cI, 4096, .inl (qm_P (qm_zl pl 4096)))), (r3, .inl (cI, 4096, .inl (mk))), (r4, .inl (cI, 64, .inl (qm_nl nt 64))), (r5, .inl (cB, 76800, .inl (bt))), (r6, .inl (cZ, 600, .inl (qm_T (qm_fl us (600)))))] := hD
                  refine lv_aload_n hx hb d_Mo_begin_91 rfl (lv_at hl 0 rfl) ?_
                  refine lv_iconst (v := nI 0) hx hb d_Mo_begin_92 (by decide) ?_
                  refine va_put (D := D) (ci := 5) (v := .int (nI 0)) (ty := .boolean) (C := R_Mo) (T := F_Mo) (N := 9) hx hb hts i_Mo t_Mo t_Mo_ok n_Mo hown hK hP hD hS 0 rfl rfl 8 (by decide) (hts _ fl_Mo_38) (fun _ h9 => h9) rfl (by decide +kernel) rfl rfl (Nat.le_of_ble_eq_true rfl) d_Mo_begin_93 (fun H locs hP hD hS => ?_)
                  have hP : va_P D cls [(mo, .inr (5, [.ref r1, .ref r2, .ref r3, .ref r4, .ref r5, .ref r6, .int (md), .int (nI 0), .int (nI 0)])), (r1, .inl (cZ, 32, .inl (qm_T (qm_fl th 32)))), (r2, .inl (cI, 4096, .inl (qm_P (qm_zl pl 4096)))), (r3, .inl (cI, 4096, .inl (mk))), (r4, .inl (cI, 64, .inl (qm_nl nt 64))), (r5, .inl (cB, 76800, .inl (bt))), (r6, .inl (cZ, 600, .inl (qm_T (qm_fl us (600)))))] H := hP
                  have hD : va_D A [(mo, .inr (5, [.ref r1, .ref r2, .ref r3, .ref r4, .ref r5, .ref r6, .int (md), .int (nI 0), .int (nI 0)])), (r1, .inl (cZ, 32, .inl (qm_T (qm_fl th 32)))), (r2, .inl (cI, 4096, .inl (qm_P (qm_zl pl 4096)))), (r3, .inl (cI, 4096, .inl (mk))), (r4, .inl (cI, 64, .inl (qm_nl nt 64))), (r5, .inl (cB, 76800, .inl (bt))), (r6, .inl (cZ, 600, .inl (qm_T (qm_fl us (600)))))] := hD
                  exact q_vret hx hb hr hlk hK hP hD hS d_Mo_begin_96 (rfl)
                · have c70 : ¬ 600 ≤ 600 := fun h9 => c70 ((nI_leI (by omega) (by omega)).mpr h9)
                  exfalso; omega
              · intro i u9 H locs ls hi hI ih
                obtain ⟨hP, hD, hS, hl⟩ := hI
                refine lv_iload_n hx hb d_Mo_begin_66 rfl (lv_at hl 1 rfl) ?_
                refine lv_sipush (v := nI 600) hx hb d_Mo_begin_67 (by decide) ?_
                refine lv_icmp_ge (tgt := 86) hx hb d_Mo_begin_70 (by decide) (fun c70 => ?_) (fun c70 => ?_)
                · have c70 : 600 ≤ i := (nI_leI (by omega) (by omega)).mp c70
                  exfalso; omega
                · have c70 : ¬ 600 ≤ i := fun h9 => c70 ((nI_leI (by omega) (by omega)).mpr h9)
                  refine lv_aload_n hx hb d_Mo_begin_73 rfl (lv_at hl 0 rfl) ?_
                  refine va_get (D := D) (ci := 5) (v := .ref r6) (C := R_Mo) (T := F_Mo) (N := 9) hx hb hts i_Mo hown hK hP 0 rfl rfl 5 (by decide) (hts _ fl_Mo_28) (fun _ h9 => h9) rfl d_Mo_begin_74 ?_
                  refine lv_iload_n hx hb d_Mo_begin_77 rfl (lv_at hl 1 rfl) ?_
                  refine lv_iconst (v := nI 0) hx hb d_Mo_begin_78 (by decide) ?_
                  refine va_zast hx hb hK hP hD hS 6 0 rfl rfl (vp_in_nI (by omega) (by decide)) d_Mo_begin_79 (fun H locs hP hD hS => ?_)
                  rw [nI_clamp (by omega)] at hP hD
                  have hP : va_P D cls [(mo, .inr (5, [.ref r1, .ref r2, .ref r3, .ref r4, .ref r5, .ref r6, .int (md), .int (ck), .int (nI ov)])), (r1, .inl (cZ, 32, .inl (qm_T (qm_fl th 32)))), (r2, .inl (cI, 4096, .inl (qm_P (qm_zl pl 4096)))), (r3, .inl (cI, 4096, .inl (mk))), (r4, .inl (cI, 64, .inl (qm_nl nt 64))), (r5, .inl (cB, 76800, .inl (bt))), (r6, .inl (cZ, 600, .inl (upd (qm_T (qm_fl us (i))) (i) (vp_nar .boolean (nI 0)))))] H := hP
                  have hD : va_D A [(mo, .inr (5, [.ref r1, .ref r2, .ref r3, .ref r4, .ref r5, .ref r6, .int (md), .int (ck), .int (nI ov)])), (r1, .inl (cZ, 32, .inl (qm_T (qm_fl th 32)))), (r2, .inl (cI, 4096, .inl (qm_P (qm_zl pl 4096)))), (r3, .inl (cI, 4096, .inl (mk))), (r4, .inl (cI, 64, .inl (qm_nl nt 64))), (r5, .inl (cB, 76800, .inl (bt))), (r6, .inl (cZ, 600, .inl (upd (qm_T (qm_fl us (i))) (i) (vp_nar .boolean (nI 0)))))] := hD
                  rw [qm_Tf, qm_fl_s] at hP hD
                  have hP : va_P D cls [(mo, .inr (5, [.ref r1, .ref r2, .ref r3, .ref r4, .ref r5, .ref r6, .int (md), .int (ck), .int (nI ov)])), (r1, .inl (cZ, 32, .inl (qm_T (qm_fl th 32)))), (r2, .inl (cI, 4096, .inl (qm_P (qm_zl pl 4096)))), (r3, .inl (cI, 4096, .inl (mk))), (r4, .inl (cI, 64, .inl (qm_nl nt 64))), (r5, .inl (cB, 76800, .inl (bt))), (r6, .inl (cZ, 600, .inl (qm_T (qm_fl us (i + 1)))))] H := hP
                  have hD : va_D A [(mo, .inr (5, [.ref r1, .ref r2, .ref r3, .ref r4, .ref r5, .ref r6, .int (md), .int (ck), .int (nI ov)])), (r1, .inl (cZ, 32, .inl (qm_T (qm_fl th 32)))), (r2, .inl (cI, 4096, .inl (qm_P (qm_zl pl 4096)))), (r3, .inl (cI, 4096, .inl (mk))), (r4, .inl (cI, 64, .inl (qm_nl nt 64))), (r5, .inl (cB, 76800, .inl (bt))), (r6, .inl (cZ, 600, .inl (qm_T (qm_fl us (i + 1)))))] := hD
                  refine lv_iinc (v := nI (i + 1)) (lv' := [(1, .int (nI (i + 1))), (0, .ref mo)]) hx hb d_Mo_begin_80 hl (k := 1) rfl (nI_1 _) (by decide) rfl (fun ls hl => ?_)
                  refine lv_goto (tgt := 66) hx hb d_Mo_begin_83 (by decide) ?_
                  exact ih (()) _ _ _ ⟨hP, hD, hS, lv_sub hl [1, 0] rfl⟩
            · have c48 : ¬ 64 ≤ 64 := fun h9 => c48 ((nI_leI (by omega) (by omega)).mpr h9)
              exfalso; omega
          · intro i u9 H locs ls hi hI ih
            obtain ⟨hP, hD, hS, hl⟩ := hI
            refine lv_iload_n hx hb d_Mo_begin_45 rfl (lv_at hl 1 rfl) ?_
            refine lv_bipush (v := nI 64) hx hb d_Mo_begin_46 (by decide) ?_
            refine lv_icmp_ge (tgt := 64) hx hb d_Mo_begin_48 (by decide) (fun c48 => ?_) (fun c48 => ?_)
            · have c48 : 64 ≤ i := (nI_leI (by omega) (by omega)).mp c48
              exfalso; omega
            · have c48 : ¬ 64 ≤ i := fun h9 => c48 ((nI_leI (by omega) (by omega)).mpr h9)
              refine lv_aload_n hx hb d_Mo_begin_51 rfl (lv_at hl 0 rfl) ?_
              refine va_get (D := D) (ci := 5) (v := .ref r4) (C := R_Mo) (T := F_Mo) (N := 9) hx hb hts i_Mo hown hK hP 0 rfl rfl 3 (by decide) (hts _ fl_Mo_20) (fun _ h9 => h9) rfl d_Mo_begin_52 ?_
              refine lv_iload_n hx hb d_Mo_begin_55 rfl (lv_at hl 1 rfl) ?_
              refine lv_iconst (v := nI 0) hx hb d_Mo_begin_56 (by decide) ?_
              refine va_iast hx hb hK hP hD hS 4 1 rfl rfl (vp_in_nI (by omega) (by decide)) d_Mo_begin_57 (fun H locs hP hD hS => ?_)
              rw [nI_clamp (by omega)] at hP hD
              have hP : va_P D cls [(mo, .inr (5, [.ref r1, .ref r2, .ref r3, .ref r4, .ref r5, .ref r6, .int (md), .int (ck), .int (nI ov)])), (r1, .inl (cZ, 32, .inl (qm_T (qm_fl th 32)))), (r2, .inl (cI, 4096, .inl (qm_P (qm_zl pl 4096)))), (r3, .inl (cI, 4096, .inl (mk))), (r4, .inl (cI, 64, .inl (upd (qm_nl nt (i)) (i) (nI 0)))), (r5, .inl (cB, 76800, .inl (bt))), (r6, .inl (cZ, 600, .inl (qm_T us)))] H := hP
              have hD : va_D A [(mo, .inr (5, [.ref r1, .ref r2, .ref r3, .ref r4, .ref r5, .ref r6, .int (md), .int (ck), .int (nI ov)])), (r1, .inl (cZ, 32, .inl (qm_T (qm_fl th 32)))), (r2, .inl (cI, 4096, .inl (qm_P (qm_zl pl 4096)))), (r3, .inl (cI, 4096, .inl (mk))), (r4, .inl (cI, 64, .inl (upd (qm_nl nt (i)) (i) (nI 0)))), (r5, .inl (cB, 76800, .inl (bt))), (r6, .inl (cZ, 600, .inl (qm_T us)))] := hD
              rw [qm_nl_s] at hP hD
              have hP : va_P D cls [(mo, .inr (5, [.ref r1, .ref r2, .ref r3, .ref r4, .ref r5, .ref r6, .int (md), .int (ck), .int (nI ov)])), (r1, .inl (cZ, 32, .inl (qm_T (qm_fl th 32)))), (r2, .inl (cI, 4096, .inl (qm_P (qm_zl pl 4096)))), (r3, .inl (cI, 4096, .inl (mk))), (r4, .inl (cI, 64, .inl (qm_nl nt (i + 1)))), (r5, .inl (cB, 76800, .inl (bt))), (r6, .inl (cZ, 600, .inl (qm_T us)))] H := hP
              have hD : va_D A [(mo, .inr (5, [.ref r1, .ref r2, .ref r3, .ref r4, .ref r5, .ref r6, .int (md), .int (ck), .int (nI ov)])), (r1, .inl (cZ, 32, .inl (qm_T (qm_fl th 32)))), (r2, .inl (cI, 4096, .inl (qm_P (qm_zl pl 4096)))), (r3, .inl (cI, 4096, .inl (mk))), (r4, .inl (cI, 64, .inl (qm_nl nt (i + 1)))), (r5, .inl (cB, 76800, .inl (bt))), (r6, .inl (cZ, 600, .inl (qm_T us)))] := hD
              refine lv_iinc (v := nI (i + 1)) (lv' := [(1, .int (nI (i + 1))), (0, .ref mo)]) hx hb d_Mo_begin_58 hl (k := 1) rfl (nI_1 _) (by decide) rfl (fun ls hl => ?_)
              refine lv_goto (tgt := 45) hx hb d_Mo_begin_61 (by decide) ?_
              exact ih (()) _ _ _ ⟨hP, hD, hS, lv_sub hl [1, 0] rfl⟩
        · have c27 : ¬ 4096 ≤ 4096 := fun h9 => c27 ((nI_leI (by omega) (by omega)).mpr h9)
          exfalso; omega
      · intro i u9 H locs ls hi hI ih
        obtain ⟨hP, hD, hS, hl⟩ := hI
        refine lv_iload_n hx hb d_Mo_begin_23 rfl (lv_at hl 1 rfl) ?_
        refine lv_sipush (v := nI 4096) hx hb d_Mo_begin_24 (by decide) ?_
        refine lv_icmp_ge (tgt := 43) hx hb d_Mo_begin_27 (by decide) (fun c27 => ?_) (fun c27 => ?_)
        · have c27 : 4096 ≤ i := (nI_leI (by omega) (by omega)).mp c27
          exfalso; omega
        · have c27 : ¬ 4096 ≤ i := fun h9 => c27 ((nI_leI (by omega) (by omega)).mpr h9)
          refine lv_aload_n hx hb d_Mo_begin_30 rfl (lv_at hl 0 rfl) ?_
          refine va_get (D := D) (ci := 5) (v := .ref r2) (C := R_Mo) (T := F_Mo) (N := 9) hx hb hts i_Mo hown hK hP 0 rfl rfl 1 (by decide) (hts _ fl_Mo_13) (fun _ h9 => h9) rfl d_Mo_begin_31 ?_
          refine lv_iload_n hx hb d_Mo_begin_34 rfl (lv_at hl 1 rfl) ?_
          refine lv_iconst (v := (-1 : Int32)) hx hb d_Mo_begin_35 (by decide) ?_
          refine va_iast hx hb hK hP hD hS 2 1 rfl rfl (vp_in_nI (by omega) (by decide)) d_Mo_begin_36 (fun H locs hP hD hS => ?_)
          rw [nI_clamp (by omega)] at hP hD
          have hP : va_P D cls [(mo, .inr (5, [.ref r1, .ref r2, .ref r3, .ref r4, .ref r5, .ref r6, .int (md), .int (ck), .int (nI ov)])), (r1, .inl (cZ, 32, .inl (qm_T (qm_fl th 32)))), (r2, .inl (cI, 4096, .inl (upd (qm_P (qm_zl pl (i))) (i) ((-1 : Int32))))), (r3, .inl (cI, 4096, .inl (mk))), (r4, .inl (cI, 64, .inl (nt))), (r5, .inl (cB, 76800, .inl (bt))), (r6, .inl (cZ, 600, .inl (qm_T us)))] H := hP
          have hD : va_D A [(mo, .inr (5, [.ref r1, .ref r2, .ref r3, .ref r4, .ref r5, .ref r6, .int (md), .int (ck), .int (nI ov)])), (r1, .inl (cZ, 32, .inl (qm_T (qm_fl th 32)))), (r2, .inl (cI, 4096, .inl (upd (qm_P (qm_zl pl (i))) (i) ((-1 : Int32))))), (r3, .inl (cI, 4096, .inl (mk))), (r4, .inl (cI, 64, .inl (nt))), (r5, .inl (cB, 76800, .inl (bt))), (r6, .inl (cZ, 600, .inl (qm_T us)))] := hD
          rw [qm_Pz, qm_zl_s] at hP hD
          have hP : va_P D cls [(mo, .inr (5, [.ref r1, .ref r2, .ref r3, .ref r4, .ref r5, .ref r6, .int (md), .int (ck), .int (nI ov)])), (r1, .inl (cZ, 32, .inl (qm_T (qm_fl th 32)))), (r2, .inl (cI, 4096, .inl (qm_P (qm_zl pl (i + 1))))), (r3, .inl (cI, 4096, .inl (mk))), (r4, .inl (cI, 64, .inl (nt))), (r5, .inl (cB, 76800, .inl (bt))), (r6, .inl (cZ, 600, .inl (qm_T us)))] H := hP
          have hD : va_D A [(mo, .inr (5, [.ref r1, .ref r2, .ref r3, .ref r4, .ref r5, .ref r6, .int (md), .int (ck), .int (nI ov)])), (r1, .inl (cZ, 32, .inl (qm_T (qm_fl th 32)))), (r2, .inl (cI, 4096, .inl (qm_P (qm_zl pl (i + 1))))), (r3, .inl (cI, 4096, .inl (mk))), (r4, .inl (cI, 64, .inl (nt))), (r5, .inl (cB, 76800, .inl (bt))), (r6, .inl (cZ, 600, .inl (qm_T us)))] := hD
          refine lv_iinc (v := nI (i + 1)) (lv' := [(1, .int (nI (i + 1))), (0, .ref mo)]) hx hb d_Mo_begin_37 hl (k := 1) rfl (nI_1 _) (by decide) rfl (fun ls hl => ?_)
          refine lv_goto (tgt := 23) hx hb d_Mo_begin_40 (by decide) ?_
          exact ih (()) _ _ _ ⟨hP, hD, hS, lv_sub hl [1, 0] rfl⟩
    · have c5 : ¬ 32 ≤ 32 := fun h9 => c5 ((nI_leI (by omega) (by omega)).mpr h9)
      exfalso; omega
  · intro i u9 H locs ls hi hI ih
    obtain ⟨hP, hD, hS, hl⟩ := hI
    refine lv_iload_n hx hb d_Mo_begin_2 rfl (lv_at hl 1 rfl) ?_
    refine lv_bipush (v := nI 32) hx hb d_Mo_begin_3 (by decide) ?_
    refine lv_icmp_ge (tgt := 21) hx hb d_Mo_begin_5 (by decide) (fun c5 => ?_) (fun c5 => ?_)
    · have c5 : 32 ≤ i := (nI_leI (by omega) (by omega)).mp c5
      exfalso; omega
    · have c5 : ¬ 32 ≤ i := fun h9 => c5 ((nI_leI (by omega) (by omega)).mpr h9)
      refine lv_aload_n hx hb d_Mo_begin_8 rfl (lv_at hl 0 rfl) ?_
      refine va_get (D := D) (ci := 5) (v := .ref r1) (C := R_Mo) (T := F_Mo) (N := 9) hx hb hts i_Mo hown hK hP 0 rfl rfl 0 (by decide) (hts _ fl_Mo_7) (fun _ h9 => h9) rfl d_Mo_begin_9 ?_
      refine lv_iload_n hx hb d_Mo_begin_12 rfl (lv_at hl 1 rfl) ?_
      refine lv_iconst (v := nI 0) hx hb d_Mo_begin_13 (by decide) ?_
      refine va_zast hx hb hK hP hD hS 1 0 rfl rfl (vp_in_nI (by omega) (by decide)) d_Mo_begin_14 (fun H locs hP hD hS => ?_)
      rw [nI_clamp (by omega)] at hP hD
      have hP : va_P D cls [(mo, .inr (5, [.ref r1, .ref r2, .ref r3, .ref r4, .ref r5, .ref r6, .int (md), .int (ck), .int (nI ov)])), (r1, .inl (cZ, 32, .inl (upd (qm_T (qm_fl th (i))) (i) (vp_nar .boolean (nI 0))))), (r2, .inl (cI, 4096, .inl (qm_P pl))), (r3, .inl (cI, 4096, .inl (mk))), (r4, .inl (cI, 64, .inl (nt))), (r5, .inl (cB, 76800, .inl (bt))), (r6, .inl (cZ, 600, .inl (qm_T us)))] H := hP
      have hD : va_D A [(mo, .inr (5, [.ref r1, .ref r2, .ref r3, .ref r4, .ref r5, .ref r6, .int (md), .int (ck), .int (nI ov)])), (r1, .inl (cZ, 32, .inl (upd (qm_T (qm_fl th (i))) (i) (vp_nar .boolean (nI 0))))), (r2, .inl (cI, 4096, .inl (qm_P pl))), (r3, .inl (cI, 4096, .inl (mk))), (r4, .inl (cI, 64, .inl (nt))), (r5, .inl (cB, 76800, .inl (bt))), (r6, .inl (cZ, 600, .inl (qm_T us)))] := hD
      rw [qm_Tf, qm_fl_s] at hP hD
      have hP : va_P D cls [(mo, .inr (5, [.ref r1, .ref r2, .ref r3, .ref r4, .ref r5, .ref r6, .int (md), .int (ck), .int (nI ov)])), (r1, .inl (cZ, 32, .inl (qm_T (qm_fl th (i + 1))))), (r2, .inl (cI, 4096, .inl (qm_P pl))), (r3, .inl (cI, 4096, .inl (mk))), (r4, .inl (cI, 64, .inl (nt))), (r5, .inl (cB, 76800, .inl (bt))), (r6, .inl (cZ, 600, .inl (qm_T us)))] H := hP
      have hD : va_D A [(mo, .inr (5, [.ref r1, .ref r2, .ref r3, .ref r4, .ref r5, .ref r6, .int (md), .int (ck), .int (nI ov)])), (r1, .inl (cZ, 32, .inl (qm_T (qm_fl th (i + 1))))), (r2, .inl (cI, 4096, .inl (qm_P pl))), (r3, .inl (cI, 4096, .inl (mk))), (r4, .inl (cI, 64, .inl (nt))), (r5, .inl (cB, 76800, .inl (bt))), (r6, .inl (cZ, 600, .inl (qm_T us)))] := hD
      refine lv_iinc (v := nI (i + 1)) (lv' := [(1, .int (nI (i + 1))), (0, .ref mo)]) hx hb d_Mo_begin_15 hl (k := 1) rfl (nI_1 _) (by decide) rfl (fun ls hl => ?_)
      refine lv_goto (tgt := 2) hx hb d_Mo_begin_18 (by decide) ?_
      exact ih (()) _ _ _ ⟨hP, hD, hS, lv_sub hl [1, 0] rfl⟩
set_option maxHeartbeats 4000000 in
set_option maxRecDepth 100000 in
theorem c_Mo_lay (l : Launch) (D : va_G) (cZ : ClassId) (cI : ClassId) (cB : ClassId) (mo : Nat) (r1 : Nat) (r2 : Nat) (r3 : Nat) (r4 : Nat) (r5 : Nat) (r6 : Nat) (th : Nat → Bool) (pl : Nat → Nat) (mk : Nat → Int32) (nt : Nat → Int32) (bt : Nat → Int32) (us : Nat → Bool) (md : Int32) (ck : Int32) (ov : Nat) : qMi l y_Mo_lay b_Mo_lay 1 (some .int) (rmL 2) D [(cZ, .boolean), (cI, .int), (cB, .byte)] [.ref mo] [(mo, .inr (5, [.ref r1, .ref r2, .ref r3, .ref r4, .ref r5, .ref r6, .int (md), .int (ck), .int (nI ov)])), (r1, .inl (cZ, 32, .inl (qm_T th))), (r2, .inl (cI, 4096, .inl (qm_P pl))), (r3, .inl (cI, 4096, .inl (mk))), (r4, .inl (cI, 64, .inl (nt))), (r5, .inl (cB, 76800, .inl (bt))), (r6, .inl (cZ, 600, .inl (qm_T us)))] [(mo, .inr (5, [.ref r1, .ref r2, .ref r3, .ref r4, .ref r5, .ref r6, .int (md), .int (nI 0), .int (nI 0)])), (r1, .inl (cZ, 32, .inl (qm_T (qm_fl th 32)))), (r2, .inl (cI, 4096, .inl (qm_P (qm_zl pl 4096)))), (r3, .inl (cI, 4096, .inl (mk))), (r4, .inl (cI, 64, .inl (qm_nl nt 64))), (r5, .inl (cB, 76800, .inl (bt))), (r6, .inl (cZ, 600, .inl (qm_T (qm_fl us 600))))] (nI 0) := by
  refine q_start (Qc := qZi D _ _ _) (by decide +kernel) (Nat.le_of_ble_eq_true rfl) ?_
  intro p e s m below meth c A hx hb hr hlk hml hown hts hK hP hD hS hA hN ls hl
  have hl : lv_has ls 1 [(0, .ref mo)] := hl
  have hP : va_P D cls [(mo, .inr (5, [.ref r1, .ref r2, .ref r3, .ref r4, .ref r5, .ref r6, .int (md), .int (ck), .int (nI ov)])), (r1, .inl (cZ, 32, .inl (qm_T th))), (r2, .inl (cI, 4096, .inl (qm_P pl))), (r3, .inl (cI, 4096, .inl (mk))), (r4, .inl (cI, 64, .inl (nt))), (r5, .inl (cB, 76800, .inl (bt))), (r6, .inl (cZ, 600, .inl (qm_T us)))] s.heap := hP
  have hD : va_D A [(mo, .inr (5, [.ref r1, .ref r2, .ref r3, .ref r4, .ref r5, .ref r6, .int (md), .int (ck), .int (nI ov)])), (r1, .inl (cZ, 32, .inl (qm_T th))), (r2, .inl (cI, 4096, .inl (qm_P pl))), (r3, .inl (cI, 4096, .inl (mk))), (r4, .inl (cI, 64, .inl (nt))), (r5, .inl (cB, 76800, .inl (bt))), (r6, .inl (cZ, 600, .inl (qm_T us)))] := hD
  refine lv_aload_n hx hb d_Mo_lay_0 rfl (lv_at hl 0 rfl) ?_
  refine q_callVv (As := []) (rest := []) (wsC := [(mo, .inr (5, [.ref r1, .ref r2, .ref r3, .ref r4, .ref r5, .ref r6, .int (md), .int (ck), .int (nI ov)])), (r1, .inl (cZ, 32, .inl (qm_T th))), (r2, .inl (cI, 4096, .inl (qm_P pl))), (r3, .inl (cI, 4096, .inl (mk))), (r4, .inl (cI, 64, .inl (nt))), (r5, .inl (cB, 76800, .inl (bt))), (r6, .inl (cZ, 600, .inl (qm_T us)))]) (wsR := []) (wsC' := [(mo, .inr (5, [.ref r1, .ref r2, .ref r3, .ref r4, .ref r5, .ref r6, .int (md), .int (nI 0), .int (nI 0)])), (r1, .inl (cZ, 32, .inl (qm_T (qm_fl th 32)))), (r2, .inl (cI, 4096, .inl (qm_P (qm_zl pl 4096)))), (r3, .inl (cI, 4096, .inl (mk))), (r4, .inl (cI, 64, .inl (qm_nl nt 64))), (r5, .inl (cB, 76800, .inl (bt))), (r6, .inl (cZ, 600, .inl (qm_T (qm_fl us 600))))]) (wsN := [(mo, .inr (5, [.ref r1, .ref r2, .ref r3, .ref r4, .ref r5, .ref r6, .int (md), .int (nI 0), .int (nI 0)])), (r1, .inl (cZ, 32, .inl (qm_T (qm_fl th 32)))), (r2, .inl (cI, 4096, .inl (qm_P (qm_zl pl 4096)))), (r3, .inl (cI, 4096, .inl (mk))), (r4, .inl (cI, 64, .inl (qm_nl nt 64))), (r5, .inl (cB, 76800, .inl (bt))), (r6, .inl (cZ, 600, .inl (qm_T (qm_fl us 600))))]) (isT := [0, 1, 2]) (isC := [0, 1, 2, 3, 4, 5, 6]) (isR := []) (isN := [0, 1, 2, 3, 4, 5, 6]) (k := 0) (ci := 5) (C := R_Mo) ⟨hx, hb, hml, hown, hts⟩ (c_Mo_begin l D cZ cI cB mo r1 r2 r3 r4 r5 r6 th pl mk nt bt us md ck ov) (tw_V ml_Mo_31 im_Mo_begin se_Mo_begin in_Mo cd_Mo_begin) rfl ⟨by decide +kernel, Nat.le_of_ble_eq_true rfl, Nat.le_of_ble_eq_true rfl⟩ ⟨Nat.le_of_ble_eq_true rfl, Nat.le_of_ble_eq_true rfl⟩ hK hP hD hS hA hN rfl ⟨rfl, rfl, rfl, by decide, by decide, by decide, by decide⟩ rfl rfl rfl hl.1 rfl rfl (Nat.le_of_ble_eq_true rfl) d_Mo_lay_1 (fun H locs hP hD hS => ?_)
  refine lv_iconst (v := nI 0) hx hb d_Mo_lay_4 (by decide) ?_
  exact q_iret hx hb hr hlk hK hP hD hS d_Mo_lay_5 (rfl) (rfl)
set_option maxHeartbeats 4000000 in
set_option maxRecDepth 100000 in
theorem c_Mo_make_ok (l : Launch) (D : va_G) (cZ : ClassId) (cI : ClassId) (cB : ClassId) (mo : Nat) (r1 : Nat) (r2 : Nat) (r3 : Nat) (r4 : Nat) (r5 : Nat) (r6 : Nat) (th : Nat → Bool) (pl : Nat → Nat) (mk : Nat → Int32) (nt : Nat → Int32) (bt : Nat → Int32) (us : Nat → Bool) (md : Int32) (ck : Int32) (v : Nat) (kv : v < 16) (kt : th v = false) : qMi l y_Mo_make b_Mo_make 2 (some .int) (rmL 1) D [(cZ, .boolean), (cI, .int), (cB, .byte)] [.ref mo, .int (nI v)] [(mo, .inr (5, [.ref r1, .ref r2, .ref r3, .ref r4, .ref r5, .ref r6, .int (md), .int (ck), .int (nI 0)])), (r1, .inl (cZ, 32, .inl (qm_T th))), (r2, .inl (cI, 4096, .inl (qm_P pl))), (r3, .inl (cI, 4096, .inl (mk))), (r4, .inl (cI, 64, .inl (nt))), (r5, .inl (cB, 76800, .inl (bt))), (r6, .inl (cZ, 600, .inl (qm_T us)))] [(mo, .inr (5, [.ref r1, .ref r2, .ref r3, .ref r4, .ref r5, .ref r6, .int (md), .int (ck), .int (nI 0)])), (r1, .inl (cZ, 32, .inl (qm_T (va_up th v true)))), (r2, .inl (cI, 4096, .inl (qm_P pl))), (r3, .inl (cI, 4096, .inl (mk))), (r4, .inl (cI, 64, .inl (nt))), (r5, .inl (cB, 76800, .inl (bt))), (r6, .inl (cZ, 600, .inl (qm_T us)))] (nI 0) := by
  refine q_start (Qc := qZi D _ _ _) (by decide +kernel) (Nat.le_of_ble_eq_true rfl) ?_
  intro p e s m below meth c A hx hb hr hlk hml hown hts hK hP hD hS hA hN ls hl
  have hl : lv_has ls 2 [(0, .ref mo), (1, .int (nI v))] := hl
  have hP : va_P D cls [(mo, .inr (5, [.ref r1, .ref r2, .ref r3, .ref r4, .ref r5, .ref r6, .int (md), .int (ck), .int (nI 0)])), (r1, .inl (cZ, 32, .inl (qm_T th))), (r2, .inl (cI, 4096, .inl (qm_P pl))), (r3, .inl (cI, 4096, .inl (mk))), (r4, .inl (cI, 64, .inl (nt))), (r5, .inl (cB, 76800, .inl (bt))), (r6, .inl (cZ, 600, .inl (qm_T us)))] s.heap := hP
  have hD : va_D A [(mo, .inr (5, [.ref r1, .ref r2, .ref r3, .ref r4, .ref r5, .ref r6, .int (md), .int (ck), .int (nI 0)])), (r1, .inl (cZ, 32, .inl (qm_T th))), (r2, .inl (cI, 4096, .inl (qm_P pl))), (r3, .inl (cI, 4096, .inl (mk))), (r4, .inl (cI, 64, .inl (nt))), (r5, .inl (cB, 76800, .inl (bt))), (r6, .inl (cZ, 600, .inl (qm_T us)))] := hD
  refine lv_aload_n hx hb d_Mo_make_0 rfl (lv_at hl 0 rfl) ?_
  refine va_get (D := D) (ci := 5) (v := .int (nI 0)) (C := R_Mo) (T := F_Mo) (N := 9) hx hb hts i_Mo hown hK hP 0 rfl rfl 8 (by decide) (hts _ fl_Mo_38) (fun _ h9 => h9) rfl d_Mo_make_1 ?_
  refine lv_if_eq (tgt := 10) hx hb d_Mo_make_4 (by decide) (fun c4 => ?_) (fun c4 => ?_)
  · have c4 : 0 = 0 := (q_z_eq (by omega)).mp c4
    refine lv_iload_n hx hb d_Mo_make_10 rfl (lv_at hl 1 rfl) ?_
    refine lv_if_lt (tgt := 29) hx hb d_Mo_make_11 (by decide) (fun c11 => ?_) (fun c11 => ?_)
    · exact absurd c11 (nI_pos (by omega))
    · refine lv_iload_n hx hb d_Mo_make_14 rfl (lv_at hl 1 rfl) ?_
      refine lv_bipush (v := nI 16) hx hb d_Mo_make_15 (by decide) ?_
      refine lv_icmp_ge (tgt := 29) hx hb d_Mo_make_17 (by decide) (fun c17 => ?_) (fun c17 => ?_)
      · have c17 : 16 ≤ v := (nI_leI (by omega) (by omega)).mp c17
        exfalso; omega
      · have c17 : ¬ 16 ≤ v := fun h9 => c17 ((nI_leI (by omega) (by omega)).mpr h9)
        refine lv_aload_n hx hb d_Mo_make_20 rfl (lv_at hl 0 rfl) ?_
        refine va_get (D := D) (ci := 5) (v := .ref r1) (C := R_Mo) (T := F_Mo) (N := 9) hx hb hts i_Mo hown hK hP 0 rfl rfl 0 (by decide) (hts _ fl_Mo_7) (fun _ h9 => h9) rfl d_Mo_make_21 ?_
        refine lv_iload_n hx hb d_Mo_make_24 rfl (lv_at hl 1 rfl) ?_
        refine va_zald hx hb hK hP 1 0 rfl rfl (vp_in_nI (by omega) (by decide)) d_Mo_make_25 ?_
        refine q_ti (y := (qm_T th) (v)) (by rw [nI_clamp (by omega)]) ?_
        refine lv_if_eq (tgt := 31) hx hb d_Mo_make_26 (by decide) (fun c26 => ?_) (fun c26 => ?_)
        · have c26 := qm_T0 c26
          refine lv_aload_n hx hb d_Mo_make_31 rfl (lv_at hl 0 rfl) ?_
          refine va_get (D := D) (ci := 5) (v := .ref r1) (C := R_Mo) (T := F_Mo) (N := 9) hx hb hts i_Mo hown hK hP 0 rfl rfl 0 (by decide) (hts _ fl_Mo_7) (fun _ h9 => h9) rfl d_Mo_make_32 ?_
          refine lv_iload_n hx hb d_Mo_make_35 rfl (lv_at hl 1 rfl) ?_
          refine lv_iconst (v := nI 1) hx hb d_Mo_make_36 (by decide) ?_
          refine va_zast hx hb hK hP hD hS 1 0 rfl rfl (vp_in_nI (by omega) (by decide)) d_Mo_make_37 (fun H locs hP hD hS => ?_)
          rw [nI_clamp (by omega)] at hP hD
          have hP : va_P D cls [(mo, .inr (5, [.ref r1, .ref r2, .ref r3, .ref r4, .ref r5, .ref r6, .int (md), .int (ck), .int (nI 0)])), (r1, .inl (cZ, 32, .inl (upd (qm_T th) (v) (vp_nar .boolean (nI 1))))), (r2, .inl (cI, 4096, .inl (qm_P pl))), (r3, .inl (cI, 4096, .inl (mk))), (r4, .inl (cI, 64, .inl (nt))), (r5, .inl (cB, 76800, .inl (bt))), (r6, .inl (cZ, 600, .inl (qm_T us)))] H := hP
          have hD : va_D A [(mo, .inr (5, [.ref r1, .ref r2, .ref r3, .ref r4, .ref r5, .ref r6, .int (md), .int (ck), .int (nI 0)])), (r1, .inl (cZ, 32, .inl (upd (qm_T th) (v) (vp_nar .boolean (nI 1))))), (r2, .inl (cI, 4096, .inl (qm_P pl))), (r3, .inl (cI, 4096, .inl (mk))), (r4, .inl (cI, 64, .inl (nt))), (r5, .inl (cB, 76800, .inl (bt))), (r6, .inl (cZ, 600, .inl (qm_T us)))] := hD
          rw [qm_Tt] at hP hD
          have hP : va_P D cls [(mo, .inr (5, [.ref r1, .ref r2, .ref r3, .ref r4, .ref r5, .ref r6, .int (md), .int (ck), .int (nI 0)])), (r1, .inl (cZ, 32, .inl (qm_T (va_up th v true)))), (r2, .inl (cI, 4096, .inl (qm_P pl))), (r3, .inl (cI, 4096, .inl (mk))), (r4, .inl (cI, 64, .inl (nt))), (r5, .inl (cB, 76800, .inl (bt))), (r6, .inl (cZ, 600, .inl (qm_T us)))] H := hP
          have hD : va_D A [(mo, .inr (5, [.ref r1, .ref r2, .ref r3, .ref r4, .ref r5, .ref r6, .int (md), .int (ck), .int (nI 0)])), (r1, .inl (cZ, 32, .inl (qm_T (va_up th v true)))), (r2, .inl (cI, 4096, .inl (qm_P pl))), (r3, .inl (cI, 4096, .inl (mk))), (r4, .inl (cI, 64, .inl (nt))), (r5, .inl (cB, 76800, .inl (bt))), (r6, .inl (cZ, 600, .inl (qm_T us)))] := hD
          refine lv_iconst (v := nI 0) hx hb d_Mo_make_38 (by decide) ?_
          exact q_iret hx hb hr hlk hK hP hD hS d_Mo_make_39 (rfl) (rfl)
        · have c26 := qm_T1 c26
          rw [kt] at c26; cases c26
  · have c4 : ¬ 0 = 0 := fun h9 => c4 ((q_z_eq (by omega)).mpr h9)
    exfalso; omega
set_option maxHeartbeats 4000000 in
set_option maxRecDepth 100000 in
theorem c_Mo_make_bad (l : Launch) (D : va_G) (cZ : ClassId) (cI : ClassId) (cB : ClassId) (mo : Nat) (r1 : Nat) (r2 : Nat) (r3 : Nat) (r4 : Nat) (r5 : Nat) (r6 : Nat) (th : Nat → Bool) (pl : Nat → Nat) (mk : Nat → Int32) (nt : Nat → Int32) (bt : Nat → Int32) (us : Nat → Bool) (md : Int32) (ck : Int32) (v : Int32) (kb : ¬ (qp_in v 16 ∧ ¬ qm_th th v)) : qMi l y_Mo_make b_Mo_make 2 (some .int) (rmL 1) D [(cZ, .boolean), (cI, .int), (cB, .byte)] [.ref mo, .int (v)] [(mo, .inr (5, [.ref r1, .ref r2, .ref r3, .ref r4, .ref r5, .ref r6, .int (md), .int (ck), .int (nI 0)])), (r1, .inl (cZ, 32, .inl (qm_T th))), (r2, .inl (cI, 4096, .inl (qm_P pl))), (r3, .inl (cI, 4096, .inl (mk))), (r4, .inl (cI, 64, .inl (nt))), (r5, .inl (cB, 76800, .inl (bt))), (r6, .inl (cZ, 600, .inl (qm_T us)))] [(mo, .inr (5, [.ref r1, .ref r2, .ref r3, .ref r4, .ref r5, .ref r6, .int (md), .int (ck), .int (nI 0)])), (r1, .inl (cZ, 32, .inl (qm_T th))), (r2, .inl (cI, 4096, .inl (qm_P pl))), (r3, .inl (cI, 4096, .inl (mk))), (r4, .inl (cI, 64, .inl (nt))), (r5, .inl (cB, 76800, .inl (bt))), (r6, .inl (cZ, 600, .inl (qm_T us)))] ((-1 : Int32)) := by
  refine q_start (Qc := qZi D _ _ _) (by decide +kernel) (Nat.le_of_ble_eq_true rfl) ?_
  intro p e s m below meth c A hx hb hr hlk hml hown hts hK hP hD hS hA hN ls hl
  have hl : lv_has ls 2 [(0, .ref mo), (1, .int (v))] := hl
  have hP : va_P D cls [(mo, .inr (5, [.ref r1, .ref r2, .ref r3, .ref r4, .ref r5, .ref r6, .int (md), .int (ck), .int (nI 0)])), (r1, .inl (cZ, 32, .inl (qm_T th))), (r2, .inl (cI, 4096, .inl (qm_P pl))), (r3, .inl (cI, 4096, .inl (mk))), (r4, .inl (cI, 64, .inl (nt))), (r5, .inl (cB, 76800, .inl (bt))), (r6, .inl (cZ, 600, .inl (qm_T us)))] s.heap := hP
  have hD : va_D A [(mo, .inr (5, [.ref r1, .ref r2, .ref r3, .ref r4, .ref r5, .ref r6, .int (md), .int (ck), .int (nI 0)])), (r1, .inl (cZ, 32, .inl (qm_T th))), (r2, .inl (cI, 4096, .inl (qm_P pl))), (r3, .inl (cI, 4096, .inl (mk))), (r4, .inl (cI, 64, .inl (nt))), (r5, .inl (cB, 76800, .inl (bt))), (r6, .inl (cZ, 600, .inl (qm_T us)))] := hD
  refine lv_aload_n hx hb d_Mo_make_0 rfl (lv_at hl 0 rfl) ?_
  refine va_get (D := D) (ci := 5) (v := .int (nI 0)) (C := R_Mo) (T := F_Mo) (N := 9) hx hb hts i_Mo hown hK hP 0 rfl rfl 8 (by decide) (hts _ fl_Mo_38) (fun _ h9 => h9) rfl d_Mo_make_1 ?_
  refine lv_if_eq (tgt := 10) hx hb d_Mo_make_4 (by decide) (fun c4 => ?_) (fun c4 => ?_)
  · have c4 : 0 = 0 := (q_z_eq (by omega)).mp c4
    refine lv_iload_n hx hb d_Mo_make_10 rfl (lv_at hl 1 rfl) ?_
    refine lv_if_lt (tgt := 29) hx hb d_Mo_make_11 (by decide) (fun c11 => ?_) (fun c11 => ?_)
    · refine lv_iconst (v := (-1 : Int32)) hx hb d_Mo_make_29 (by decide) ?_
      exact q_iret hx hb hr hlk hK hP hD hS d_Mo_make_30 (rfl) (rfl)
    · refine lv_iload_n hx hb d_Mo_make_14 rfl (lv_at hl 1 rfl) ?_
      refine lv_bipush (v := nI 16) hx hb d_Mo_make_15 (by decide) ?_
      refine lv_icmp_ge (tgt := 29) hx hb d_Mo_make_17 (by decide) (fun c17 => ?_) (fun c17 => ?_)
      · refine lv_iconst (v := (-1 : Int32)) hx hb d_Mo_make_29 (by decide) ?_
        exact q_iret hx hb hr hlk hK hP hD hS d_Mo_make_30 (rfl) (rfl)
      · have hin : qp_in v 16 := ⟨c11, c17⟩
        obtain ⟨vn, hvn, rfl⟩ := qp_of (by decide) hin
        refine lv_aload_n hx hb d_Mo_make_20 rfl (lv_at hl 0 rfl) ?_
        refine va_get (D := D) (ci := 5) (v := .ref r1) (C := R_Mo) (T := F_Mo) (N := 9) hx hb hts i_Mo hown hK hP 0 rfl rfl 0 (by decide) (hts _ fl_Mo_7) (fun _ h9 => h9) rfl d_Mo_make_21 ?_
        refine lv_iload_n hx hb d_Mo_make_24 rfl (lv_at hl 1 rfl) ?_
        refine va_zald hx hb hK hP 1 0 rfl rfl (vp_in_nI (by omega) (by decide)) d_Mo_make_25 ?_
        refine q_ti (y := (qm_T th) (vn)) (by rw [nI_clamp (by omega)]) ?_
        refine lv_if_eq (tgt := 31) hx hb d_Mo_make_26 (by decide) (fun c26 => ?_) (fun c26 => ?_)
        · have c26 := qm_T0 c26
          exact absurd ⟨hin, fun z => by rw [(qm_thN hvn).mp z] at c26; cases c26⟩ kb
        · have c26 := qm_T1 c26
          refine lv_iconst (v := (-1 : Int32)) hx hb d_Mo_make_29 (by decide) ?_
          exact q_iret hx hb hr hlk hK hP hD hS d_Mo_make_30 (rfl) (rfl)
  · have c4 : ¬ 0 = 0 := fun h9 => c4 ((q_z_eq (by omega)).mpr h9)
    exfalso; omega
set_option maxHeartbeats 4000000 in
set_option maxRecDepth 100000 in
theorem c_Mo_tell_ok (l : Launch) (D : va_G) (cZ : ClassId) (cI : ClassId) (cB : ClassId) (mo : Nat) (r1 : Nat) (r2 : Nat) (r3 : Nat) (r4 : Nat) (r5 : Nat) (r6 : Nat) (th : Nat → Bool) (pl : Nat → Nat) (mk : Nat → Int32) (nt : Nat → Int32) (bt : Nat → Int32) (us : Nat → Bool) (md : Int32) (ck : Int32) (i : Nat) (v : Nat) (ki : i < 32) (kv : v < 256) : qMi l y_Mo_tell b_Mo_tell 4 (some .int) (rmL 1) D [(cZ, .boolean), (cI, .int), (cB, .byte)] [.ref mo, .int (nI i), .int (nI v)] [(mo, .inr (5, [.ref r1, .ref r2, .ref r3, .ref r4, .ref r5, .ref r6, .int (md), .int (ck), .int (nI 0)])), (r1, .inl (cZ, 32, .inl (qm_T th))), (r2, .inl (cI, 4096, .inl (qm_P pl))), (r3, .inl (cI, 4096, .inl (mk))), (r4, .inl (cI, 64, .inl (nt))), (r5, .inl (cB, 76800, .inl (bt))), (r6, .inl (cZ, 600, .inl (qm_T us)))] [(mo, .inr (5, [.ref r1, .ref r2, .ref r3, .ref r4, .ref r5, .ref r6, .int (md), .int (ck), .int (nI 0)])), (r1, .inl (cZ, 32, .inl (qm_T th))), (r2, .inl (cI, 4096, .inl (qm_P pl))), (r3, .inl (cI, 4096, .inl (mk))), (r4, .inl (cI, 64, .inl (upd nt i (nI v)))), (r5, .inl (cB, 76800, .inl (bt))), (r6, .inl (cZ, 600, .inl (qm_T us)))] (nt i) := by
  refine q_start (Qc := qZi D _ _ _) (by decide +kernel) (Nat.le_of_ble_eq_true rfl) ?_
  intro p e s m below meth c A hx hb hr hlk hml hown hts hK hP hD hS hA hN ls hl
  have hl : lv_has ls 4 [(0, .ref mo), (1, .int (nI i)), (2, .int (nI v))] := hl
  have hP : va_P D cls [(mo, .inr (5, [.ref r1, .ref r2, .ref r3, .ref r4, .ref r5, .ref r6, .int (md), .int (ck), .int (nI 0)])), (r1, .inl (cZ, 32, .inl (qm_T th))), (r2, .inl (cI, 4096, .inl (qm_P pl))), (r3, .inl (cI, 4096, .inl (mk))), (r4, .inl (cI, 64, .inl (nt))), (r5, .inl (cB, 76800, .inl (bt))), (r6, .inl (cZ, 600, .inl (qm_T us)))] s.heap := hP
  have hD : va_D A [(mo, .inr (5, [.ref r1, .ref r2, .ref r3, .ref r4, .ref r5, .ref r6, .int (md), .int (ck), .int (nI 0)])), (r1, .inl (cZ, 32, .inl (qm_T th))), (r2, .inl (cI, 4096, .inl (qm_P pl))), (r3, .inl (cI, 4096, .inl (mk))), (r4, .inl (cI, 64, .inl (nt))), (r5, .inl (cB, 76800, .inl (bt))), (r6, .inl (cZ, 600, .inl (qm_T us)))] := hD
  refine lv_aload_n hx hb d_Mo_tell_0 rfl (lv_at hl 0 rfl) ?_
  refine va_get (D := D) (ci := 5) (v := .int (nI 0)) (C := R_Mo) (T := F_Mo) (N := 9) hx hb hts i_Mo hown hK hP 0 rfl rfl 8 (by decide) (hts _ fl_Mo_38) (fun _ h9 => h9) rfl d_Mo_tell_1 ?_
  refine lv_if_eq (tgt := 10) hx hb d_Mo_tell_4 (by decide) (fun c4 => ?_) (fun c4 => ?_)
  · have c4 : 0 = 0 := (q_z_eq (by omega)).mp c4
    refine lv_iload_n hx hb d_Mo_tell_10 rfl (lv_at hl 1 rfl) ?_
    refine lv_if_lt (tgt := 31) hx hb d_Mo_tell_11 (by decide) (fun c11 => ?_) (fun c11 => ?_)
    · exact absurd c11 (nI_pos (by omega))
    · refine lv_iload_n hx hb d_Mo_tell_14 rfl (lv_at hl 1 rfl) ?_
      refine lv_bipush (v := nI 31) hx hb d_Mo_tell_15 (by decide) ?_
      refine lv_icmp_gt (tgt := 31) hx hb d_Mo_tell_17 (by decide) (fun c17 => ?_) (fun c17 => ?_)
      · have c17 : 31 < i := (nI_ltI (by omega) (by omega)).mp c17
        exfalso; omega
      · have c17 : ¬ 31 < i := fun h9 => c17 ((nI_ltI (by omega) (by omega)).mpr h9)
        refine lv_iload_n hx hb d_Mo_tell_20 rfl (lv_at hl 2 rfl) ?_
        refine lv_if_lt (tgt := 31) hx hb d_Mo_tell_21 (by decide) (fun c21 => ?_) (fun c21 => ?_)
        · exact absurd c21 (nI_pos (by omega))
        · refine lv_iload_n hx hb d_Mo_tell_24 rfl (lv_at hl 2 rfl) ?_
          refine lv_sipush (v := nI 255) hx hb d_Mo_tell_25 (by decide) ?_
          refine lv_icmp_le (tgt := 33) hx hb d_Mo_tell_28 (by decide) (fun c28 => ?_) (fun c28 => ?_)
          · have c28 : v ≤ 255 := (nI_leI (by omega) (by omega)).mp c28
            refine lv_aload_n hx hb d_Mo_tell_33 rfl (lv_at hl 0 rfl) ?_
            refine va_get (D := D) (ci := 5) (v := .ref r4) (C := R_Mo) (T := F_Mo) (N := 9) hx hb hts i_Mo hown hK hP 0 rfl rfl 3 (by decide) (hts _ fl_Mo_20) (fun _ h9 => h9) rfl d_Mo_tell_34 ?_
            refine lv_iload_n hx hb d_Mo_tell_37 rfl (lv_at hl 1 rfl) ?_
            refine va_iald hx hb hK hP 4 1 rfl rfl (vp_in_nI (by omega) (by decide)) d_Mo_tell_38 ?_
            refine q_ti (y := nt (i)) (by rw [nI_clamp (by omega)]) ?_
            refine lv_istore_n (lv' := [(3, .int (nt (i))), (0, .ref mo), (1, .int (nI i)), (2, .int (nI v))]) hx hb d_Mo_tell_39 rfl hl (by decide) rfl (fun ls hl => ?_)
            refine lv_aload_n hx hb d_Mo_tell_40 rfl (lv_at hl 1 rfl) ?_
            refine va_get (D := D) (ci := 5) (v := .ref r4) (C := R_Mo) (T := F_Mo) (N := 9) hx hb hts i_Mo hown hK hP 0 rfl rfl 3 (by decide) (hts _ fl_Mo_20) (fun _ h9 => h9) rfl d_Mo_tell_41 ?_
            refine lv_iload_n hx hb d_Mo_tell_44 rfl (lv_at hl 2 rfl) ?_
            refine lv_iload_n hx hb d_Mo_tell_45 rfl (lv_at hl 3 rfl) ?_
            refine va_iast hx hb hK hP hD hS 4 1 rfl rfl (vp_in_nI (by omega) (by decide)) d_Mo_tell_46 (fun H locs hP hD hS => ?_)
            rw [nI_clamp (by omega)] at hP hD
            have hP : va_P D cls [(mo, .inr (5, [.ref r1, .ref r2, .ref r3, .ref r4, .ref r5, .ref r6, .int (md), .int (ck), .int (nI 0)])), (r1, .inl (cZ, 32, .inl (qm_T th))), (r2, .inl (cI, 4096, .inl (qm_P pl))), (r3, .inl (cI, 4096, .inl (mk))), (r4, .inl (cI, 64, .inl (upd nt (i) (nI v)))), (r5, .inl (cB, 76800, .inl (bt))), (r6, .inl (cZ, 600, .inl (qm_T us)))] H := hP
            have hD : va_D A [(mo, .inr (5, [.ref r1, .ref r2, .ref r3, .ref r4, .ref r5, .ref r6, .int (md), .int (ck), .int (nI 0)])), (r1, .inl (cZ, 32, .inl (qm_T th))), (r2, .inl (cI, 4096, .inl (qm_P pl))), (r3, .inl (cI, 4096, .inl (mk))), (r4, .inl (cI, 64, .inl (upd nt (i) (nI v)))), (r5, .inl (cB, 76800, .inl (bt))), (r6, .inl (cZ, 600, .inl (qm_T us)))] := hD
            refine lv_iload_n hx hb d_Mo_tell_47 rfl (lv_at hl 0 rfl) ?_
            exact q_iret hx hb hr hlk hK hP hD hS d_Mo_tell_48 (rfl) (rfl)
          · have c28 : ¬ v ≤ 255 := fun h9 => c28 ((nI_leI (by omega) (by omega)).mpr h9)
            exfalso; omega
  · have c4 : ¬ 0 = 0 := fun h9 => c4 ((q_z_eq (by omega)).mpr h9)
    exfalso; omega
set_option maxHeartbeats 4000000 in
set_option maxRecDepth 100000 in
theorem c_Mo_tell_bad (l : Launch) (D : va_G) (cZ : ClassId) (cI : ClassId) (cB : ClassId) (mo : Nat) (r1 : Nat) (r2 : Nat) (r3 : Nat) (r4 : Nat) (r5 : Nat) (r6 : Nat) (th : Nat → Bool) (pl : Nat → Nat) (mk : Nat → Int32) (nt : Nat → Int32) (bt : Nat → Int32) (us : Nat → Bool) (md : Int32) (ck : Int32) (i : Int32) (v : Int32) (kb : ¬ (qp_in i 32 ∧ qp_by v)) : qMi l y_Mo_tell b_Mo_tell 4 (some .int) (rmL 1) D [(cZ, .boolean), (cI, .int), (cB, .byte)] [.ref mo, .int (i), .int (v)] [(mo, .inr (5, [.ref r1, .ref r2, .ref r3, .ref r4, .ref r5, .ref r6, .int (md), .int (ck), .int (nI 0)])), (r1, .inl (cZ, 32, .inl (qm_T th))), (r2, .inl (cI, 4096, .inl (qm_P pl))), (r3, .inl (cI, 4096, .inl (mk))), (r4, .inl (cI, 64, .inl (nt))), (r5, .inl (cB, 76800, .inl (bt))), (r6, .inl (cZ, 600, .inl (qm_T us)))] [(mo, .inr (5, [.ref r1, .ref r2, .ref r3, .ref r4, .ref r5, .ref r6, .int (md), .int (ck), .int (nI 0)])), (r1, .inl (cZ, 32, .inl (qm_T th))), (r2, .inl (cI, 4096, .inl (qm_P pl))), (r3, .inl (cI, 4096, .inl (mk))), (r4, .inl (cI, 64, .inl (nt))), (r5, .inl (cB, 76800, .inl (bt))), (r6, .inl (cZ, 600, .inl (qm_T us)))] ((-1 : Int32)) := by
  refine q_start (Qc := qZi D _ _ _) (by decide +kernel) (Nat.le_of_ble_eq_true rfl) ?_
  intro p e s m below meth c A hx hb hr hlk hml hown hts hK hP hD hS hA hN ls hl
  have hl : lv_has ls 4 [(0, .ref mo), (1, .int (i)), (2, .int (v))] := hl
  have hP : va_P D cls [(mo, .inr (5, [.ref r1, .ref r2, .ref r3, .ref r4, .ref r5, .ref r6, .int (md), .int (ck), .int (nI 0)])), (r1, .inl (cZ, 32, .inl (qm_T th))), (r2, .inl (cI, 4096, .inl (qm_P pl))), (r3, .inl (cI, 4096, .inl (mk))), (r4, .inl (cI, 64, .inl (nt))), (r5, .inl (cB, 76800, .inl (bt))), (r6, .inl (cZ, 600, .inl (qm_T us)))] s.heap := hP
  have hD : va_D A [(mo, .inr (5, [.ref r1, .ref r2, .ref r3, .ref r4, .ref r5, .ref r6, .int (md), .int (ck), .int (nI 0)])), (r1, .inl (cZ, 32, .inl (qm_T th))), (r2, .inl (cI, 4096, .inl (qm_P pl))), (r3, .inl (cI, 4096, .inl (mk))), (r4, .inl (cI, 64, .inl (nt))), (r5, .inl (cB, 76800, .inl (bt))), (r6, .inl (cZ, 600, .inl (qm_T us)))] := hD
  refine lv_aload_n hx hb d_Mo_tell_0 rfl (lv_at hl 0 rfl) ?_
  refine va_get (D := D) (ci := 5) (v := .int (nI 0)) (C := R_Mo) (T := F_Mo) (N := 9) hx hb hts i_Mo hown hK hP 0 rfl rfl 8 (by decide) (hts _ fl_Mo_38) (fun _ h9 => h9) rfl d_Mo_tell_1 ?_
  refine lv_if_eq (tgt := 10) hx hb d_Mo_tell_4 (by decide) (fun c4 => ?_) (fun c4 => ?_)
  · have c4 : 0 = 0 := (q_z_eq (by omega)).mp c4
    refine lv_iload_n hx hb d_Mo_tell_10 rfl (lv_at hl 1 rfl) ?_
    refine lv_if_lt (tgt := 31) hx hb d_Mo_tell_11 (by decide) (fun c11 => ?_) (fun c11 => ?_)
    · refine lv_iconst (v := (-1 : Int32)) hx hb d_Mo_tell_31 (by decide) ?_
      exact q_iret hx hb hr hlk hK hP hD hS d_Mo_tell_32 (rfl) (rfl)
    · refine lv_iload_n hx hb d_Mo_tell_14 rfl (lv_at hl 1 rfl) ?_
      refine lv_bipush (v := nI 31) hx hb d_Mo_tell_15 (by decide) ?_
      refine lv_icmp_gt (tgt := 31) hx hb d_Mo_tell_17 (by decide) (fun c17 => ?_) (fun c17 => ?_)
      · refine lv_iconst (v := (-1 : Int32)) hx hb d_Mo_tell_31 (by decide) ?_
        exact q_iret hx hb hr hlk hK hP hD hS d_Mo_tell_32 (rfl) (rfl)
      · refine lv_iload_n hx hb d_Mo_tell_20 rfl (lv_at hl 2 rfl) ?_
        refine lv_if_lt (tgt := 31) hx hb d_Mo_tell_21 (by decide) (fun c21 => ?_) (fun c21 => ?_)
        · refine lv_iconst (v := (-1 : Int32)) hx hb d_Mo_tell_31 (by decide) ?_
          exact q_iret hx hb hr hlk hK hP hD hS d_Mo_tell_32 (rfl) (rfl)
        · refine lv_iload_n hx hb d_Mo_tell_24 rfl (lv_at hl 2 rfl) ?_
          refine lv_sipush (v := nI 255) hx hb d_Mo_tell_25 (by decide) ?_
          refine lv_icmp_le (tgt := 33) hx hb d_Mo_tell_28 (by decide) (fun c28 => ?_) (fun c28 => ?_)
          · exact absurd ⟨⟨c11, qm_31 c17⟩, c21, qm_nlt c28⟩ kb
          · refine lv_iconst (v := (-1 : Int32)) hx hb d_Mo_tell_31 (by decide) ?_
            exact q_iret hx hb hr hlk hK hP hD hS d_Mo_tell_32 (rfl) (rfl)
  · have c4 : ¬ 0 = 0 := fun h9 => c4 ((q_z_eq (by omega)).mpr h9)
    exfalso; omega
set_option maxHeartbeats 4000000 in
set_option maxRecDepth 100000 in
theorem c_Mo_told_ok (l : Launch) (D : va_G) (cZ : ClassId) (cI : ClassId) (cB : ClassId) (mo : Nat) (r1 : Nat) (r2 : Nat) (r3 : Nat) (r4 : Nat) (r5 : Nat) (r6 : Nat) (th : Nat → Bool) (pl : Nat → Nat) (mk : Nat → Int32) (nt : Nat → Int32) (bt : Nat → Int32) (us : Nat → Bool) (md : Int32) (ck : Int32) (i : Nat) (ki : i < 32) : qMi l y_Mo_told b_Mo_told 2 (some .int) (rmL 1) D [(cZ, .boolean), (cI, .int), (cB, .byte)] [.ref mo, .int (nI i)] [(mo, .inr (5, [.ref r1, .ref r2, .ref r3, .ref r4, .ref r5, .ref r6, .int (md), .int (ck), .int (nI 0)])), (r1, .inl (cZ, 32, .inl (qm_T th))), (r2, .inl (cI, 4096, .inl (qm_P pl))), (r3, .inl (cI, 4096, .inl (mk))), (r4, .inl (cI, 64, .inl (nt))), (r5, .inl (cB, 76800, .inl (bt))), (r6, .inl (cZ, 600, .inl (qm_T us)))] [(mo, .inr (5, [.ref r1, .ref r2, .ref r3, .ref r4, .ref r5, .ref r6, .int (md), .int (ck), .int (nI 0)])), (r1, .inl (cZ, 32, .inl (qm_T th))), (r2, .inl (cI, 4096, .inl (qm_P pl))), (r3, .inl (cI, 4096, .inl (mk))), (r4, .inl (cI, 64, .inl (nt))), (r5, .inl (cB, 76800, .inl (bt))), (r6, .inl (cZ, 600, .inl (qm_T us)))] (nt i) := by
  refine q_start (Qc := qZi D _ _ _) (by decide +kernel) (Nat.le_of_ble_eq_true rfl) ?_
  intro p e s m below meth c A hx hb hr hlk hml hown hts hK hP hD hS hA hN ls hl
  have hl : lv_has ls 2 [(0, .ref mo), (1, .int (nI i))] := hl
  have hP : va_P D cls [(mo, .inr (5, [.ref r1, .ref r2, .ref r3, .ref r4, .ref r5, .ref r6, .int (md), .int (ck), .int (nI 0)])), (r1, .inl (cZ, 32, .inl (qm_T th))), (r2, .inl (cI, 4096, .inl (qm_P pl))), (r3, .inl (cI, 4096, .inl (mk))), (r4, .inl (cI, 64, .inl (nt))), (r5, .inl (cB, 76800, .inl (bt))), (r6, .inl (cZ, 600, .inl (qm_T us)))] s.heap := hP
  have hD : va_D A [(mo, .inr (5, [.ref r1, .ref r2, .ref r3, .ref r4, .ref r5, .ref r6, .int (md), .int (ck), .int (nI 0)])), (r1, .inl (cZ, 32, .inl (qm_T th))), (r2, .inl (cI, 4096, .inl (qm_P pl))), (r3, .inl (cI, 4096, .inl (mk))), (r4, .inl (cI, 64, .inl (nt))), (r5, .inl (cB, 76800, .inl (bt))), (r6, .inl (cZ, 600, .inl (qm_T us)))] := hD
  refine lv_aload_n hx hb d_Mo_told_0 rfl (lv_at hl 0 rfl) ?_
  refine va_get (D := D) (ci := 5) (v := .int (nI 0)) (C := R_Mo) (T := F_Mo) (N := 9) hx hb hts i_Mo hown hK hP 0 rfl rfl 8 (by decide) (hts _ fl_Mo_38) (fun _ h9 => h9) rfl d_Mo_told_1 ?_
  refine lv_if_eq (tgt := 10) hx hb d_Mo_told_4 (by decide) (fun c4 => ?_) (fun c4 => ?_)
  · have c4 : 0 = 0 := (q_z_eq (by omega)).mp c4
    refine lv_iload_n hx hb d_Mo_told_10 rfl (lv_at hl 1 rfl) ?_
    refine lv_if_lt (tgt := 20) hx hb d_Mo_told_11 (by decide) (fun c11 => ?_) (fun c11 => ?_)
    · exact absurd c11 (nI_pos (by omega))
    · refine lv_iload_n hx hb d_Mo_told_14 rfl (lv_at hl 1 rfl) ?_
      refine lv_bipush (v := nI 31) hx hb d_Mo_told_15 (by decide) ?_
      refine lv_icmp_le (tgt := 24) hx hb d_Mo_told_17 (by decide) (fun c17 => ?_) (fun c17 => ?_)
      · have c17 : i ≤ 31 := (nI_leI (by omega) (by omega)).mp c17
        refine lv_aload_n hx hb d_Mo_told_24 rfl (lv_at hl 0 rfl) ?_
        refine va_get (D := D) (ci := 5) (v := .ref r4) (C := R_Mo) (T := F_Mo) (N := 9) hx hb hts i_Mo hown hK hP 0 rfl rfl 3 (by decide) (hts _ fl_Mo_20) (fun _ h9 => h9) rfl d_Mo_told_25 ?_
        refine lv_iload_n hx hb d_Mo_told_28 rfl (lv_at hl 1 rfl) ?_
        refine va_iald hx hb hK hP 4 1 rfl rfl (vp_in_nI (by omega) (by decide)) d_Mo_told_29 ?_
        refine q_ti (y := nt (i)) (by rw [nI_clamp (by omega)]) ?_
        exact q_iret hx hb hr hlk hK hP hD hS d_Mo_told_30 (rfl) (rfl)
      · have c17 : ¬ i ≤ 31 := fun h9 => c17 ((nI_leI (by omega) (by omega)).mpr h9)
        exfalso; omega
  · have c4 : ¬ 0 = 0 := fun h9 => c4 ((q_z_eq (by omega)).mpr h9)
    exfalso; omega
set_option maxHeartbeats 4000000 in
set_option maxRecDepth 100000 in
theorem c_Mo_told_bad (l : Launch) (D : va_G) (cZ : ClassId) (cI : ClassId) (cB : ClassId) (mo : Nat) (r1 : Nat) (r2 : Nat) (r3 : Nat) (r4 : Nat) (r5 : Nat) (r6 : Nat) (th : Nat → Bool) (pl : Nat → Nat) (mk : Nat → Int32) (nt : Nat → Int32) (bt : Nat → Int32) (us : Nat → Bool) (md : Int32) (ck : Int32) (i : Int32) (kb : ¬ qp_in i 32) : qMi l y_Mo_told b_Mo_told 2 (some .int) (rmL 1) D [(cZ, .boolean), (cI, .int), (cB, .byte)] [.ref mo, .int (i)] [(mo, .inr (5, [.ref r1, .ref r2, .ref r3, .ref r4, .ref r5, .ref r6, .int (md), .int (ck), .int (nI 0)])), (r1, .inl (cZ, 32, .inl (qm_T th))), (r2, .inl (cI, 4096, .inl (qm_P pl))), (r3, .inl (cI, 4096, .inl (mk))), (r4, .inl (cI, 64, .inl (nt))), (r5, .inl (cB, 76800, .inl (bt))), (r6, .inl (cZ, 600, .inl (qm_T us)))] [(mo, .inr (5, [.ref r1, .ref r2, .ref r3, .ref r4, .ref r5, .ref r6, .int (md), .int (ck), .int (nI 0)])), (r1, .inl (cZ, 32, .inl (qm_T th))), (r2, .inl (cI, 4096, .inl (qm_P pl))), (r3, .inl (cI, 4096, .inl (mk))), (r4, .inl (cI, 64, .inl (nt))), (r5, .inl (cB, 76800, .inl (bt))), (r6, .inl (cZ, 600, .inl (qm_T us)))] ((-1 : Int32)) := by
  refine q_start (Qc := qZi D _ _ _) (by decide +kernel) (Nat.le_of_ble_eq_true rfl) ?_
  intro p e s m below meth c A hx hb hr hlk hml hown hts hK hP hD hS hA hN ls hl
  have hl : lv_has ls 2 [(0, .ref mo), (1, .int (i))] := hl
  have hP : va_P D cls [(mo, .inr (5, [.ref r1, .ref r2, .ref r3, .ref r4, .ref r5, .ref r6, .int (md), .int (ck), .int (nI 0)])), (r1, .inl (cZ, 32, .inl (qm_T th))), (r2, .inl (cI, 4096, .inl (qm_P pl))), (r3, .inl (cI, 4096, .inl (mk))), (r4, .inl (cI, 64, .inl (nt))), (r5, .inl (cB, 76800, .inl (bt))), (r6, .inl (cZ, 600, .inl (qm_T us)))] s.heap := hP
  have hD : va_D A [(mo, .inr (5, [.ref r1, .ref r2, .ref r3, .ref r4, .ref r5, .ref r6, .int (md), .int (ck), .int (nI 0)])), (r1, .inl (cZ, 32, .inl (qm_T th))), (r2, .inl (cI, 4096, .inl (qm_P pl))), (r3, .inl (cI, 4096, .inl (mk))), (r4, .inl (cI, 64, .inl (nt))), (r5, .inl (cB, 76800, .inl (bt))), (r6, .inl (cZ, 600, .inl (qm_T us)))] := hD
  refine lv_aload_n hx hb d_Mo_told_0 rfl (lv_at hl 0 rfl) ?_
  refine va_get (D := D) (ci := 5) (v := .int (nI 0)) (C := R_Mo) (T := F_Mo) (N := 9) hx hb hts i_Mo hown hK hP 0 rfl rfl 8 (by decide) (hts _ fl_Mo_38) (fun _ h9 => h9) rfl d_Mo_told_1 ?_
  refine lv_if_eq (tgt := 10) hx hb d_Mo_told_4 (by decide) (fun c4 => ?_) (fun c4 => ?_)
  · have c4 : 0 = 0 := (q_z_eq (by omega)).mp c4
    refine lv_iload_n hx hb d_Mo_told_10 rfl (lv_at hl 1 rfl) ?_
    refine lv_if_lt (tgt := 20) hx hb d_Mo_told_11 (by decide) (fun c11 => ?_) (fun c11 => ?_)
    · refine lv_iconst (v := (-1 : Int32)) hx hb d_Mo_told_20 (by decide) ?_
      refine lv_goto (tgt := 30) hx hb d_Mo_told_21 (by decide) ?_
      exact q_iret hx hb hr hlk hK hP hD hS d_Mo_told_30 (rfl) (rfl)
    · refine lv_iload_n hx hb d_Mo_told_14 rfl (lv_at hl 1 rfl) ?_
      refine lv_bipush (v := nI 31) hx hb d_Mo_told_15 (by decide) ?_
      refine lv_icmp_le (tgt := 24) hx hb d_Mo_told_17 (by decide) (fun c17 => ?_) (fun c17 => ?_)
      · exact absurd ⟨c11, qm_31 (qm_nlt c17)⟩ kb
      · refine lv_iconst (v := (-1 : Int32)) hx hb d_Mo_told_20 (by decide) ?_
        refine lv_goto (tgt := 30) hx hb d_Mo_told_21 (by decide) ?_
        exact q_iret hx hb hr hlk hK hP hD hS d_Mo_told_30 (rfl) (rfl)
  · have c4 : ¬ 0 = 0 := fun h9 => c4 ((q_z_eq (by omega)).mpr h9)
    exfalso; omega
set_option maxHeartbeats 4000000 in
set_option maxRecDepth 100000 in
theorem c_Mo_read_0 (l : Launch) (D : va_G) (cZ : ClassId) (cI : ClassId) (cB : ClassId) (mo : Nat) (r1 : Nat) (r2 : Nat) (r3 : Nat) (r4 : Nat) (r5 : Nat) (r6 : Nat) (th : Nat → Bool) (pl : Nat → Nat) (mk : Nat → Int32) (nt : Nat → Int32) (bt : Nat → Int32) (us : Nat → Bool) (md : Int32) (ck : Int32) (v : Nat) (pc : Nat) (u : Nat) (kv : v < 16) (kpc : pc < 128) (ku : u < 128) (kt : th v = true) (kpl : ∀ k, pl k ≤ 600) (kz : pl (128 * v + pc) = 0) : qMi l y_Mo_read b_Mo_read 5 (some .int) (rmL 2) D [(cZ, .boolean), (cI, .int), (cB, .byte)] [.ref mo, .int (nI v), .int (nI pc), .int (nI u)] [(mo, .inr (5, [.ref r1, .ref r2, .ref r3, .ref r4, .ref r5, .ref r6, .int (md), .int (ck), .int (nI 0)])), (r1, .inl (cZ, 32, .inl (qm_T th))), (r2, .inl (cI, 4096, .inl (qm_P pl))), (r3, .inl (cI, 4096, .inl (mk))), (r4, .inl (cI, 64, .inl (nt))), (r5, .inl (cB, 76800, .inl (bt))), (r6, .inl (cZ, 600, .inl (qm_T us)))] [(mo, .inr (5, [.ref r1, .ref r2, .ref r3, .ref r4, .ref r5, .ref r6, .int (md), .int (ck), .int (nI 0)])), (r1, .inl (cZ, 32, .inl (qm_T th))), (r2, .inl (cI, 4096, .inl (qm_P pl))), (r3, .inl (cI, 4096, .inl (mk))), (r4, .inl (cI, 64, .inl (nt))), (r5, .inl (cB, 76800, .inl (bt))), (r6, .inl (cZ, 600, .inl (qm_T us)))] (nI 0) := by
  refine q_start (Qc := qZi D _ _ _) (by decide +kernel) (Nat.le_of_ble_eq_true rfl) ?_
  intro p e s m below meth c A hx hb hr hlk hml hown hts hK hP hD hS hA hN ls hl
  have hl : lv_has ls 5 [(0, .ref mo), (1, .int (nI v)), (2, .int (nI pc)), (3, .int (nI u))] := hl
  have hP : va_P D cls [(mo, .inr (5, [.ref r1, .ref r2, .ref r3, .ref r4, .ref r5, .ref r6, .int (md), .int (ck), .int (nI 0)])), (r1, .inl (cZ, 32, .inl (qm_T th))), (r2, .inl (cI, 4096, .inl (qm_P pl))), (r3, .inl (cI, 4096, .inl (mk))), (r4, .inl (cI, 64, .inl (nt))), (r5, .inl (cB, 76800, .inl (bt))), (r6, .inl (cZ, 600, .inl (qm_T us)))] s.heap := hP
  have hD : va_D A [(mo, .inr (5, [.ref r1, .ref r2, .ref r3, .ref r4, .ref r5, .ref r6, .int (md), .int (ck), .int (nI 0)])), (r1, .inl (cZ, 32, .inl (qm_T th))), (r2, .inl (cI, 4096, .inl (qm_P pl))), (r3, .inl (cI, 4096, .inl (mk))), (r4, .inl (cI, 64, .inl (nt))), (r5, .inl (cB, 76800, .inl (bt))), (r6, .inl (cZ, 600, .inl (qm_T us)))] := hD
  refine lv_aload_n hx hb d_Mo_read_0 rfl (lv_at hl 0 rfl) ?_
  refine va_get (D := D) (ci := 5) (v := .int (nI 0)) (C := R_Mo) (T := F_Mo) (N := 9) hx hb hts i_Mo hown hK hP 0 rfl rfl 8 (by decide) (hts _ fl_Mo_38) (fun _ h9 => h9) rfl d_Mo_read_1 ?_
  refine lv_if_eq (tgt := 10) hx hb d_Mo_read_4 (by decide) (fun c4 => ?_) (fun c4 => ?_)
  · have c4 : 0 = 0 := (q_z_eq (by omega)).mp c4
    refine lv_aload_n hx hb d_Mo_read_10 rfl (lv_at hl 0 rfl) ?_
    refine lv_iload_n hx hb d_Mo_read_11 rfl (lv_at hl 1 rfl) ?_
    refine q_callVi (As := [.int (nI v)]) (rest := []) (wsC := [(mo, .inr (5, [.ref r1, .ref r2, .ref r3, .ref r4, .ref r5, .ref r6, .int (md), .int (ck), .int (nI 0)])), (r1, .inl (cZ, 32, .inl (qm_T th))), (r2, .inl (cI, 4096, .inl (qm_P pl))), (r3, .inl (cI, 4096, .inl (mk))), (r4, .inl (cI, 64, .inl (nt))), (r5, .inl (cB, 76800, .inl (bt))), (r6, .inl (cZ, 600, .inl (qm_T us)))]) (wsR := []) (wsC' := [(mo, .inr (5, [.ref r1, .ref r2, .ref r3, .ref r4, .ref r5, .ref r6, .int (md), .int (ck), .int (nI 0)])), (r1, .inl (cZ, 32, .inl (qm_T th))), (r2, .inl (cI, 4096, .inl (qm_P pl))), (r3, .inl (cI, 4096, .inl (mk))), (r4, .inl (cI, 64, .inl (nt))), (r5, .inl (cB, 76800, .inl (bt))), (r6, .inl (cZ, 600, .inl (qm_T us)))]) (wsN := [(mo, .inr (5, [.ref r1, .ref r2, .ref r3, .ref r4, .ref r5, .ref r6, .int (md), .int (ck), .int (nI 0)])), (r1, .inl (cZ, 32, .inl (qm_T th))), (r2, .inl (cI, 4096, .inl (qm_P pl))), (r3, .inl (cI, 4096, .inl (mk))), (r4, .inl (cI, 64, .inl (nt))), (r5, .inl (cB, 76800, .inl (bt))), (r6, .inl (cZ, 600, .inl (qm_T us)))]) (isT := [0, 1, 2]) (isC := [0, 1, 2, 3, 4, 5, 6]) (isR := []) (isN := [0, 1, 2, 3, 4, 5, 6]) (k := 1) (ci := 5) (C := R_Mo) ⟨hx, hb, hml, hown, hts⟩ (c_Mo_isThereY l D cZ cI cB mo r1 r2 r3 r4 r5 r6 th pl mk nt bt us md ck v (by omega) kt) (tw_V ml_Mo_46 im_Mo_isThere se_Mo_isThere in_Mo cd_Mo_isThere) rfl ⟨by decide +kernel, Nat.le_of_ble_eq_true rfl, Nat.le_of_ble_eq_true rfl⟩ ⟨Nat.le_of_ble_eq_true rfl, Nat.le_of_ble_eq_true rfl⟩ hK hP hD hS hA hN rfl ⟨rfl, rfl, rfl, by decide, by decide, by decide, by decide⟩ rfl rfl rfl hl.1 rfl rfl (Nat.le_of_ble_eq_true rfl) d_Mo_read_12 (fun H locs hP hD hS => ?_)
    refine lv_if_eq (tgt := 36) hx hb d_Mo_read_15 (by decide) (fun c15 => ?_) (fun c15 => ?_)
    · have c15 : 1 = 0 := (q_z_eq (by omega)).mp c15
      exfalso; omega
    · have c15 : ¬ 1 = 0 := fun h9 => c15 ((q_z_eq (by omega)).mpr h9)
      refine lv_iload_n hx hb d_Mo_read_18 rfl (lv_at hl 2 rfl) ?_
      refine q_callSi (As := [.int (nI pc)]) (rest := []) (wsC := []) (wsR := [(mo, .inr (5, [.ref r1, .ref r2, .ref r3, .ref r4, .ref r5, .ref r6, .int (md), .int (ck), .int (nI 0)])), (r1, .inl (cZ, 32, .inl (qm_T th))), (r2, .inl (cI, 4096, .inl (qm_P pl))), (r3, .inl (cI, 4096, .inl (mk))), (r4, .inl (cI, 64, .inl (nt))), (r5, .inl (cB, 76800, .inl (bt))), (r6, .inl (cZ, 600, .inl (qm_T us)))]) (wsC' := []) (wsN := [(mo, .inr (5, [.ref r1, .ref r2, .ref r3, .ref r4, .ref r5, .ref r6, .int (md), .int (ck), .int (nI 0)])), (r1, .inl (cZ, 32, .inl (qm_T th))), (r2, .inl (cI, 4096, .inl (qm_P pl))), (r3, .inl (cI, 4096, .inl (mk))), (r4, .inl (cI, 64, .inl (nt))), (r5, .inl (cB, 76800, .inl (bt))), (r6, .inl (cZ, 600, .inl (qm_T us)))]) (isT := []) (isC := []) (isR := [0, 1, 2, 3, 4, 5, 6]) (isN := [0, 1, 2, 3, 4, 5, 6]) (k := 1) ⟨hx, hb, hml, hown, hts⟩ (c_Mo_isPieceY l D pc (by omega)) (tw_S ml_Mo_61 st_Mo_isPiece in_Mo cd_Mo_isPiece) ⟨by decide +kernel, Nat.le_of_ble_eq_true rfl, Nat.le_of_ble_eq_true rfl⟩ ⟨Nat.le_of_ble_eq_true rfl, Nat.le_of_ble_eq_true rfl⟩ hK hP hD hS hA hN rfl ⟨rfl, rfl, rfl, by decide, by decide, by decide, by decide⟩ hl.1 rfl rfl (Nat.le_of_ble_eq_true rfl) d_Mo_read_19 (fun H locs hP hD hS => ?_)
      refine lv_if_eq (tgt := 36) hx hb d_Mo_read_22 (by decide) (fun c22 => ?_) (fun c22 => ?_)
      · have c22 : 1 = 0 := (q_z_eq (by omega)).mp c22
        exfalso; omega
      · have c22 : ¬ 1 = 0 := fun h9 => c22 ((q_z_eq (by omega)).mpr h9)
        refine lv_iload_n hx hb d_Mo_read_25 rfl (lv_at hl 3 rfl) ?_
        refine lv_if_lt (tgt := 36) hx hb d_Mo_read_26 (by decide) (fun c26 => ?_) (fun c26 => ?_)
        · exact absurd c26 (nI_pos (by omega))
        · refine lv_iload_n hx hb d_Mo_read_29 rfl (lv_at hl 3 rfl) ?_
          refine lv_sipush (v := nI 128) hx hb d_Mo_read_30 (by decide) ?_
          refine lv_icmp_lt (tgt := 38) hx hb d_Mo_read_33 (by decide) (fun c33 => ?_) (fun c33 => ?_)
          · have c33 : u < 128 := (nI_ltI (by omega) (by omega)).mp c33
            refine lv_aload_n hx hb d_Mo_read_38 rfl (lv_at hl 0 rfl) ?_
            refine va_get (D := D) (ci := 5) (v := .ref r2) (C := R_Mo) (T := F_Mo) (N := 9) hx hb hts i_Mo hown hK hP 0 rfl rfl 1 (by decide) (hts _ fl_Mo_13) (fun _ h9 => h9) rfl d_Mo_read_39 ?_
            refine lv_sipush (v := nI 128) hx hb d_Mo_read_42 (by decide) ?_
            refine lv_iload_n hx hb d_Mo_read_45 rfl (lv_at hl 1 rfl) ?_
            refine lv_imul hx hb d_Mo_read_46 ?_
            refine q_ti (y := nI (128 * v)) (pk_mul _ _) ?_
            refine lv_iload_n hx hb d_Mo_read_47 rfl (lv_at hl 2 rfl) ?_
            refine lv_iadd hx hb d_Mo_read_48 ?_
            refine q_ti (y := nI (128 * v + pc)) (nI_add _ _) ?_
            refine va_iald hx hb hK hP 2 1 rfl rfl (vp_in_nI (by omega) (by decide)) d_Mo_read_49 ?_
            refine q_ti (y := (qm_P pl) (128 * v + pc)) (by rw [nI_clamp (by omega)]) ?_
            refine lv_istore (lv' := [(4, .int ((qm_P pl) (128 * v + pc))), (0, .ref mo), (1, .int (nI v)), (2, .int (nI pc)), (3, .int (nI u))]) hx hb d_Mo_read_50 hl (by decide) rfl (fun ls hl => ?_)
            refine lv_iload hx hb d_Mo_read_52 (lv_at hl 0 rfl) ?_
            refine lv_if_ge (tgt := 61) hx hb d_Mo_read_54 (by decide) (fun c54 => ?_) (fun c54 => ?_)
            · have c54 := qm_Pg (kpl _) c54
              exact absurd kz c54
            · have c54 := qm_Ph (kpl _) c54
              refine lv_iconst (v := nI 0) hx hb d_Mo_read_57 (by decide) ?_
              refine lv_goto (tgt := 78) hx hb d_Mo_read_58 (by decide) ?_
              exact q_iret hx hb hr hlk hK hP hD hS d_Mo_read_78 (rfl) (rfl)
          · have c33 : ¬ u < 128 := fun h9 => c33 ((nI_ltI (by omega) (by omega)).mpr h9)
            exfalso; omega
  · have c4 : ¬ 0 = 0 := fun h9 => c4 ((q_z_eq (by omega)).mpr h9)
    exfalso; omega
set_option maxHeartbeats 4000000 in
set_option maxRecDepth 100000 in
theorem c_Mo_read_1 (l : Launch) (D : va_G) (cZ : ClassId) (cI : ClassId) (cB : ClassId) (mo : Nat) (r1 : Nat) (r2 : Nat) (r3 : Nat) (r4 : Nat) (r5 : Nat) (r6 : Nat) (th : Nat → Bool) (pl : Nat → Nat) (mk : Nat → Int32) (nt : Nat → Int32) (bt : Nat → Int32) (us : Nat → Bool) (md : Int32) (ck : Int32) (v : Nat) (pc : Nat) (u : Nat) (w : Nat) (kv : v < 16) (kpc : pc < 128) (ku : u < 128) (kt : th v = true) (kpl : ∀ k, pl k ≤ 600) (kz : pl (128 * v + pc) = w + 1) (kw : w < 600) : qMi l y_Mo_read b_Mo_read 5 (some .int) (rmL 2) D [(cZ, .boolean), (cI, .int), (cB, .byte)] [.ref mo, .int (nI v), .int (nI pc), .int (nI u)] [(mo, .inr (5, [.ref r1, .ref r2, .ref r3, .ref r4, .ref r5, .ref r6, .int (md), .int (ck), .int (nI 0)])), (r1, .inl (cZ, 32, .inl (qm_T th))), (r2, .inl (cI, 4096, .inl (qm_P pl))), (r3, .inl (cI, 4096, .inl (mk))), (r4, .inl (cI, 64, .inl (nt))), (r5, .inl (cB, 76800, .inl (bt))), (r6, .inl (cZ, 600, .inl (qm_T us)))] [(mo, .inr (5, [.ref r1, .ref r2, .ref r3, .ref r4, .ref r5, .ref r6, .int (md), .int (ck), .int (nI 0)])), (r1, .inl (cZ, 32, .inl (qm_T th))), (r2, .inl (cI, 4096, .inl (qm_P pl))), (r3, .inl (cI, 4096, .inl (mk))), (r4, .inl (cI, 64, .inl (nt))), (r5, .inl (cB, 76800, .inl (bt))), (r6, .inl (cZ, 600, .inl (qm_T us)))] (bt (128 * w + u) &&& nI 255) := by
  refine q_start (Qc := qZi D _ _ _) (by decide +kernel) (Nat.le_of_ble_eq_true rfl) ?_
  intro p e s m below meth c A hx hb hr hlk hml hown hts hK hP hD hS hA hN ls hl
  have hl : lv_has ls 5 [(0, .ref mo), (1, .int (nI v)), (2, .int (nI pc)), (3, .int (nI u))] := hl
  have hP : va_P D cls [(mo, .inr (5, [.ref r1, .ref r2, .ref r3, .ref r4, .ref r5, .ref r6, .int (md), .int (ck), .int (nI 0)])), (r1, .inl (cZ, 32, .inl (qm_T th))), (r2, .inl (cI, 4096, .inl (qm_P pl))), (r3, .inl (cI, 4096, .inl (mk))), (r4, .inl (cI, 64, .inl (nt))), (r5, .inl (cB, 76800, .inl (bt))), (r6, .inl (cZ, 600, .inl (qm_T us)))] s.heap := hP
  have hD : va_D A [(mo, .inr (5, [.ref r1, .ref r2, .ref r3, .ref r4, .ref r5, .ref r6, .int (md), .int (ck), .int (nI 0)])), (r1, .inl (cZ, 32, .inl (qm_T th))), (r2, .inl (cI, 4096, .inl (qm_P pl))), (r3, .inl (cI, 4096, .inl (mk))), (r4, .inl (cI, 64, .inl (nt))), (r5, .inl (cB, 76800, .inl (bt))), (r6, .inl (cZ, 600, .inl (qm_T us)))] := hD
  refine lv_aload_n hx hb d_Mo_read_0 rfl (lv_at hl 0 rfl) ?_
  refine va_get (D := D) (ci := 5) (v := .int (nI 0)) (C := R_Mo) (T := F_Mo) (N := 9) hx hb hts i_Mo hown hK hP 0 rfl rfl 8 (by decide) (hts _ fl_Mo_38) (fun _ h9 => h9) rfl d_Mo_read_1 ?_
  refine lv_if_eq (tgt := 10) hx hb d_Mo_read_4 (by decide) (fun c4 => ?_) (fun c4 => ?_)
  · have c4 : 0 = 0 := (q_z_eq (by omega)).mp c4
    refine lv_aload_n hx hb d_Mo_read_10 rfl (lv_at hl 0 rfl) ?_
    refine lv_iload_n hx hb d_Mo_read_11 rfl (lv_at hl 1 rfl) ?_
    refine q_callVi (As := [.int (nI v)]) (rest := []) (wsC := [(mo, .inr (5, [.ref r1, .ref r2, .ref r3, .ref r4, .ref r5, .ref r6, .int (md), .int (ck), .int (nI 0)])), (r1, .inl (cZ, 32, .inl (qm_T th))), (r2, .inl (cI, 4096, .inl (qm_P pl))), (r3, .inl (cI, 4096, .inl (mk))), (r4, .inl (cI, 64, .inl (nt))), (r5, .inl (cB, 76800, .inl (bt))), (r6, .inl (cZ, 600, .inl (qm_T us)))]) (wsR := []) (wsC' := [(mo, .inr (5, [.ref r1, .ref r2, .ref r3, .ref r4, .ref r5, .ref r6, .int (md), .int (ck), .int (nI 0)])), (r1, .inl (cZ, 32, .inl (qm_T th))), (r2, .inl (cI, 4096, .inl (qm_P pl))), (r3, .inl (cI, 4096, .inl (mk))), (r4, .inl (cI, 64, .inl (nt))), (r5, .inl (cB, 76800, .inl (bt))), (r6, .inl (cZ, 600, .inl (qm_T us)))]) (wsN := [(mo, .inr (5, [.ref r1, .ref r2, .ref r3, .ref r4, .ref r5, .ref r6, .int (md), .int (ck), .int (nI 0)])), (r1, .inl (cZ, 32, .inl (qm_T th))), (r2, .inl (cI, 4096, .inl (qm_P pl))), (r3, .inl (cI, 4096, .inl (mk))), (r4, .inl (cI, 64, .inl (nt))), (r5, .inl (cB, 76800, .inl (bt))), (r6, .inl (cZ, 600, .inl (qm_T us)))]) (isT := [0, 1, 2]) (isC := [0, 1, 2, 3, 4, 5, 6]) (isR := []) (isN := [0, 1, 2, 3, 4, 5, 6]) (k := 1) (ci := 5) (C := R_Mo) ⟨hx, hb, hml, hown, hts⟩ (c_Mo_isThereY l D cZ cI cB mo r1 r2 r3 r4 r5 r6 th pl mk nt bt us md ck v (by omega) kt) (tw_V ml_Mo_46 im_Mo_isThere se_Mo_isThere in_Mo cd_Mo_isThere) rfl ⟨by decide +kernel, Nat.le_of_ble_eq_true rfl, Nat.le_of_ble_eq_true rfl⟩ ⟨Nat.le_of_ble_eq_true rfl, Nat.le_of_ble_eq_true rfl⟩ hK hP hD hS hA hN rfl ⟨rfl, rfl, rfl, by decide, by decide, by decide, by decide⟩ rfl rfl rfl hl.1 rfl rfl (Nat.le_of_ble_eq_true rfl) d_Mo_read_12 (fun H locs hP hD hS => ?_)
    refine lv_if_eq (tgt := 36) hx hb d_Mo_read_15 (by decide) (fun c15 => ?_) (fun c15 => ?_)
    · have c15 : 1 = 0 := (q_z_eq (by omega)).mp c15
      exfalso; omega
    · have c15 : ¬ 1 = 0 := fun h9 => c15 ((q_z_eq (by omega)).mpr h9)
      refine lv_iload_n hx hb d_Mo_read_18 rfl (lv_at hl 2 rfl) ?_
      refine q_callSi (As := [.int (nI pc)]) (rest := []) (wsC := []) (wsR := [(mo, .inr (5, [.ref r1, .ref r2, .ref r3, .ref r4, .ref r5, .ref r6, .int (md), .int (ck), .int (nI 0)])), (r1, .inl (cZ, 32, .inl (qm_T th))), (r2, .inl (cI, 4096, .inl (qm_P pl))), (r3, .inl (cI, 4096, .inl (mk))), (r4, .inl (cI, 64, .inl (nt))), (r5, .inl (cB, 76800, .inl (bt))), (r6, .inl (cZ, 600, .inl (qm_T us)))]) (wsC' := []) (wsN := [(mo, .inr (5, [.ref r1, .ref r2, .ref r3, .ref r4, .ref r5, .ref r6, .int (md), .int (ck), .int (nI 0)])), (r1, .inl (cZ, 32, .inl (qm_T th))), (r2, .inl (cI, 4096, .inl (qm_P pl))), (r3, .inl (cI, 4096, .inl (mk))), (r4, .inl (cI, 64, .inl (nt))), (r5, .inl (cB, 76800, .inl (bt))), (r6, .inl (cZ, 600, .inl (qm_T us)))]) (isT := []) (isC := []) (isR := [0, 1, 2, 3, 4, 5, 6]) (isN := [0, 1, 2, 3, 4, 5, 6]) (k := 1) ⟨hx, hb, hml, hown, hts⟩ (c_Mo_isPieceY l D pc (by omega)) (tw_S ml_Mo_61 st_Mo_isPiece in_Mo cd_Mo_isPiece) ⟨by decide +kernel, Nat.le_of_ble_eq_true rfl, Nat.le_of_ble_eq_true rfl⟩ ⟨Nat.le_of_ble_eq_true rfl, Nat.le_of_ble_eq_true rfl⟩ hK hP hD hS hA hN rfl ⟨rfl, rfl, rfl, by decide, by decide, by decide, by decide⟩ hl.1 rfl rfl (Nat.le_of_ble_eq_true rfl) d_Mo_read_19 (fun H locs hP hD hS => ?_)
      refine lv_if_eq (tgt := 36) hx hb d_Mo_read_22 (by decide) (fun c22 => ?_) (fun c22 => ?_)
      · have c22 : 1 = 0 := (q_z_eq (by omega)).mp c22
        exfalso; omega
      · have c22 : ¬ 1 = 0 := fun h9 => c22 ((q_z_eq (by omega)).mpr h9)
        refine lv_iload_n hx hb d_Mo_read_25 rfl (lv_at hl 3 rfl) ?_
        refine lv_if_lt (tgt := 36) hx hb d_Mo_read_26 (by decide) (fun c26 => ?_) (fun c26 => ?_)
        · exact absurd c26 (nI_pos (by omega))
        · refine lv_iload_n hx hb d_Mo_read_29 rfl (lv_at hl 3 rfl) ?_
          refine lv_sipush (v := nI 128) hx hb d_Mo_read_30 (by decide) ?_
          refine lv_icmp_lt (tgt := 38) hx hb d_Mo_read_33 (by decide) (fun c33 => ?_) (fun c33 => ?_)
          · have c33 : u < 128 := (nI_ltI (by omega) (by omega)).mp c33
            refine lv_aload_n hx hb d_Mo_read_38 rfl (lv_at hl 0 rfl) ?_
            refine va_get (D := D) (ci := 5) (v := .ref r2) (C := R_Mo) (T := F_Mo) (N := 9) hx hb hts i_Mo hown hK hP 0 rfl rfl 1 (by decide) (hts _ fl_Mo_13) (fun _ h9 => h9) rfl d_Mo_read_39 ?_
            refine lv_sipush (v := nI 128) hx hb d_Mo_read_42 (by decide) ?_
            refine lv_iload_n hx hb d_Mo_read_45 rfl (lv_at hl 1 rfl) ?_
            refine lv_imul hx hb d_Mo_read_46 ?_
            refine q_ti (y := nI (128 * v)) (pk_mul _ _) ?_
            refine lv_iload_n hx hb d_Mo_read_47 rfl (lv_at hl 2 rfl) ?_
            refine lv_iadd hx hb d_Mo_read_48 ?_
            refine q_ti (y := nI (128 * v + pc)) (nI_add _ _) ?_
            refine va_iald hx hb hK hP 2 1 rfl rfl (vp_in_nI (by omega) (by decide)) d_Mo_read_49 ?_
            refine q_ti (y := (qm_P pl) (128 * v + pc)) (by rw [nI_clamp (by omega)]) ?_
            refine q_ti (y := nI w) (qm_Pk kz) ?_
            refine lv_istore (lv' := [(4, .int (nI w)), (0, .ref mo), (1, .int (nI v)), (2, .int (nI pc)), (3, .int (nI u))]) hx hb d_Mo_read_50 hl (by decide) rfl (fun ls hl => ?_)
            refine lv_iload hx hb d_Mo_read_52 (lv_at hl 0 rfl) ?_
            refine lv_if_ge (tgt := 61) hx hb d_Mo_read_54 (by decide) (fun c54 => ?_) (fun c54 => ?_)
            · have c54 : 0 ≤ w := (q_z_ge (by omega)).mp c54
              refine lv_aload_n hx hb d_Mo_read_61 rfl (lv_at hl 1 rfl) ?_
              refine va_get (D := D) (ci := 5) (v := .ref r5) (C := R_Mo) (T := F_Mo) (N := 9) hx hb hts i_Mo hown hK hP 0 rfl rfl 4 (by decide) (hts _ fl_Mo_24) (fun _ h9 => h9) rfl d_Mo_read_62 ?_
              refine lv_sipush (v := nI 128) hx hb d_Mo_read_65 (by decide) ?_
              refine lv_iload hx hb d_Mo_read_68 (lv_at hl 0 rfl) ?_
              refine lv_imul hx hb d_Mo_read_70 ?_
              refine q_ti (y := nI (128 * w)) (pk_mul _ _) ?_
              refine lv_iload_n hx hb d_Mo_read_71 rfl (lv_at hl 4 rfl) ?_
              refine lv_iadd hx hb d_Mo_read_72 ?_
              refine q_ti (y := nI (128 * w + u)) (nI_add _ _) ?_
              refine va_bald hx hb hK hP 5 2 rfl rfl (vp_in_nI (by omega) (by decide)) d_Mo_read_73 ?_
              refine q_ti (y := bt (128 * w + u)) (by rw [nI_clamp (by omega)]) ?_
              refine lv_sipush (v := nI 255) hx hb d_Mo_read_74 (by decide) ?_
              refine lv_iand hx hb d_Mo_read_77 ?_
              exact q_iret hx hb hr hlk hK hP hD hS d_Mo_read_78 (rfl) (rfl)
            · have c54 : ¬ 0 ≤ w := fun h9 => c54 ((q_z_ge (by omega)).mpr h9)
              exfalso; omega
          · have c33 : ¬ u < 128 := fun h9 => c33 ((nI_ltI (by omega) (by omega)).mpr h9)
            exfalso; omega
  · have c4 : ¬ 0 = 0 := fun h9 => c4 ((q_z_eq (by omega)).mpr h9)
    exfalso; omega
set_option maxHeartbeats 4000000 in
set_option maxRecDepth 100000 in
theorem c_Mo_read_bad (l : Launch) (D : va_G) (cZ : ClassId) (cI : ClassId) (cB : ClassId) (mo : Nat) (r1 : Nat) (r2 : Nat) (r3 : Nat) (r4 : Nat) (r5 : Nat) (r6 : Nat) (th : Nat → Bool) (pl : Nat → Nat) (mk : Nat → Int32) (nt : Nat → Int32) (bt : Nat → Int32) (us : Nat → Bool) (md : Int32) (ck : Int32) (v : Int32) (y : Int32) (u : Int32) (kb : ¬ (qm_th th v ∧ qp_in y 128 ∧ qp_bs u (nI 1))) : qMi l y_Mo_read b_Mo_read 5 (some .int) (rmL 2) D [(cZ, .boolean), (cI, .int), (cB, .byte)] [.ref mo, .int (v), .int (y), .int (u)] [(mo, .inr (5, [.ref r1, .ref r2, .ref r3, .ref r4, .ref r5, .ref r6, .int (md), .int (ck), .int (nI 0)])), (r1, .inl (cZ, 32, .inl (qm_T th))), (r2, .inl (cI, 4096, .inl (qm_P pl))), (r3, .inl (cI, 4096, .inl (mk))), (r4, .inl (cI, 64, .inl (nt))), (r5, .inl (cB, 76800, .inl (bt))), (r6, .inl (cZ, 600, .inl (qm_T us)))] [(mo, .inr (5, [.ref r1, .ref r2, .ref r3, .ref r4, .ref r5, .ref r6, .int (md), .int (ck), .int (nI 0)])), (r1, .inl (cZ, 32, .inl (qm_T th))), (r2, .inl (cI, 4096, .inl (qm_P pl))), (r3, .inl (cI, 4096, .inl (mk))), (r4, .inl (cI, 64, .inl (nt))), (r5, .inl (cB, 76800, .inl (bt))), (r6, .inl (cZ, 600, .inl (qm_T us)))] ((-1 : Int32)) := by
  refine q_start (Qc := qZi D _ _ _) (by decide +kernel) (Nat.le_of_ble_eq_true rfl) ?_
  intro p e s m below meth c A hx hb hr hlk hml hown hts hK hP hD hS hA hN ls hl
  have hl : lv_has ls 5 [(0, .ref mo), (1, .int (v)), (2, .int (y)), (3, .int (u))] := hl
  have hP : va_P D cls [(mo, .inr (5, [.ref r1, .ref r2, .ref r3, .ref r4, .ref r5, .ref r6, .int (md), .int (ck), .int (nI 0)])), (r1, .inl (cZ, 32, .inl (qm_T th))), (r2, .inl (cI, 4096, .inl (qm_P pl))), (r3, .inl (cI, 4096, .inl (mk))), (r4, .inl (cI, 64, .inl (nt))), (r5, .inl (cB, 76800, .inl (bt))), (r6, .inl (cZ, 600, .inl (qm_T us)))] s.heap := hP
  have hD : va_D A [(mo, .inr (5, [.ref r1, .ref r2, .ref r3, .ref r4, .ref r5, .ref r6, .int (md), .int (ck), .int (nI 0)])), (r1, .inl (cZ, 32, .inl (qm_T th))), (r2, .inl (cI, 4096, .inl (qm_P pl))), (r3, .inl (cI, 4096, .inl (mk))), (r4, .inl (cI, 64, .inl (nt))), (r5, .inl (cB, 76800, .inl (bt))), (r6, .inl (cZ, 600, .inl (qm_T us)))] := hD
  refine lv_aload_n hx hb d_Mo_read_0 rfl (lv_at hl 0 rfl) ?_
  refine va_get (D := D) (ci := 5) (v := .int (nI 0)) (C := R_Mo) (T := F_Mo) (N := 9) hx hb hts i_Mo hown hK hP 0 rfl rfl 8 (by decide) (hts _ fl_Mo_38) (fun _ h9 => h9) rfl d_Mo_read_1 ?_
  refine lv_if_eq (tgt := 10) hx hb d_Mo_read_4 (by decide) (fun c4 => ?_) (fun c4 => ?_)
  · have c4 : 0 = 0 := (q_z_eq (by omega)).mp c4
    refine lv_aload_n hx hb d_Mo_read_10 rfl (lv_at hl 0 rfl) ?_
    refine lv_iload_n hx hb d_Mo_read_11 rfl (lv_at hl 1 rfl) ?_
    refine q_callVi (As := [.int (v)]) (rest := []) (wsC := [(mo, .inr (5, [.ref r1, .ref r2, .ref r3, .ref r4, .ref r5, .ref r6, .int (md), .int (ck), .int (nI 0)])), (r1, .inl (cZ, 32, .inl (qm_T th))), (r2, .inl (cI, 4096, .inl (qm_P pl))), (r3, .inl (cI, 4096, .inl (mk))), (r4, .inl (cI, 64, .inl (nt))), (r5, .inl (cB, 76800, .inl (bt))), (r6, .inl (cZ, 600, .inl (qm_T us)))]) (wsR := []) (wsC' := [(mo, .inr (5, [.ref r1, .ref r2, .ref r3, .ref r4, .ref r5, .ref r6, .int (md), .int (ck), .int (nI 0)])), (r1, .inl (cZ, 32, .inl (qm_T th))), (r2, .inl (cI, 4096, .inl (qm_P pl))), (r3, .inl (cI, 4096, .inl (mk))), (r4, .inl (cI, 64, .inl (nt))), (r5, .inl (cB, 76800, .inl (bt))), (r6, .inl (cZ, 600, .inl (qm_T us)))]) (wsN := [(mo, .inr (5, [.ref r1, .ref r2, .ref r3, .ref r4, .ref r5, .ref r6, .int (md), .int (ck), .int (nI 0)])), (r1, .inl (cZ, 32, .inl (qm_T th))), (r2, .inl (cI, 4096, .inl (qm_P pl))), (r3, .inl (cI, 4096, .inl (mk))), (r4, .inl (cI, 64, .inl (nt))), (r5, .inl (cB, 76800, .inl (bt))), (r6, .inl (cZ, 600, .inl (qm_T us)))]) (isT := [0, 1, 2]) (isC := [0, 1, 2, 3, 4, 5, 6]) (isR := []) (isN := [0, 1, 2, 3, 4, 5, 6]) (k := 1) (ci := 5) (C := R_Mo) ⟨hx, hb, hml, hown, hts⟩ (c_Mo_isThere l D cZ cI cB mo r1 r2 r3 r4 r5 r6 th pl mk nt bt us md ck v) (tw_V ml_Mo_46 im_Mo_isThere se_Mo_isThere in_Mo cd_Mo_isThere) rfl ⟨by decide +kernel, Nat.le_of_ble_eq_true rfl, Nat.le_of_ble_eq_true rfl⟩ ⟨Nat.le_of_ble_eq_true rfl, Nat.le_of_ble_eq_true rfl⟩ hK hP hD hS hA hN rfl ⟨rfl, rfl, rfl, by decide, by decide, by decide, by decide⟩ rfl rfl rfl hl.1 rfl rfl (Nat.le_of_ble_eq_true rfl) d_Mo_read_12 (fun H locs hP hD hS => ?_)
    refine lv_if_eq (tgt := 36) hx hb d_Mo_read_15 (by decide) (fun c15 => ?_) (fun c15 => ?_)
    · refine lv_iconst (v := (-1 : Int32)) hx hb d_Mo_read_36 (by decide) ?_
      exact q_iret hx hb hr hlk hK hP hD hS d_Mo_read_37 (rfl) (rfl)
    · refine lv_iload_n hx hb d_Mo_read_18 rfl (lv_at hl 2 rfl) ?_
      refine q_callSi (As := [.int (y)]) (rest := []) (wsC := []) (wsR := [(mo, .inr (5, [.ref r1, .ref r2, .ref r3, .ref r4, .ref r5, .ref r6, .int (md), .int (ck), .int (nI 0)])), (r1, .inl (cZ, 32, .inl (qm_T th))), (r2, .inl (cI, 4096, .inl (qm_P pl))), (r3, .inl (cI, 4096, .inl (mk))), (r4, .inl (cI, 64, .inl (nt))), (r5, .inl (cB, 76800, .inl (bt))), (r6, .inl (cZ, 600, .inl (qm_T us)))]) (wsC' := []) (wsN := [(mo, .inr (5, [.ref r1, .ref r2, .ref r3, .ref r4, .ref r5, .ref r6, .int (md), .int (ck), .int (nI 0)])), (r1, .inl (cZ, 32, .inl (qm_T th))), (r2, .inl (cI, 4096, .inl (qm_P pl))), (r3, .inl (cI, 4096, .inl (mk))), (r4, .inl (cI, 64, .inl (nt))), (r5, .inl (cB, 76800, .inl (bt))), (r6, .inl (cZ, 600, .inl (qm_T us)))]) (isT := []) (isC := []) (isR := [0, 1, 2, 3, 4, 5, 6]) (isN := [0, 1, 2, 3, 4, 5, 6]) (k := 1) ⟨hx, hb, hml, hown, hts⟩ (c_Mo_isPiece l D y) (tw_S ml_Mo_61 st_Mo_isPiece in_Mo cd_Mo_isPiece) ⟨by decide +kernel, Nat.le_of_ble_eq_true rfl, Nat.le_of_ble_eq_true rfl⟩ ⟨Nat.le_of_ble_eq_true rfl, Nat.le_of_ble_eq_true rfl⟩ hK hP hD hS hA hN rfl ⟨rfl, rfl, rfl, by decide, by decide, by decide, by decide⟩ hl.1 rfl rfl (Nat.le_of_ble_eq_true rfl) d_Mo_read_19 (fun H locs hP hD hS => ?_)
      refine lv_if_eq (tgt := 36) hx hb d_Mo_read_22 (by decide) (fun c22 => ?_) (fun c22 => ?_)
      · refine lv_iconst (v := (-1 : Int32)) hx hb d_Mo_read_36 (by decide) ?_
        exact q_iret hx hb hr hlk hK hP hD hS d_Mo_read_37 (rfl) (rfl)
      · refine lv_iload_n hx hb d_Mo_read_25 rfl (lv_at hl 3 rfl) ?_
        refine lv_if_lt (tgt := 36) hx hb d_Mo_read_26 (by decide) (fun c26 => ?_) (fun c26 => ?_)
        · refine lv_iconst (v := (-1 : Int32)) hx hb d_Mo_read_36 (by decide) ?_
          exact q_iret hx hb hr hlk hK hP hD hS d_Mo_read_37 (rfl) (rfl)
        · refine lv_iload_n hx hb d_Mo_read_29 rfl (lv_at hl 3 rfl) ?_
          refine lv_sipush (v := nI 128) hx hb d_Mo_read_30 (by decide) ?_
          refine lv_icmp_lt (tgt := 38) hx hb d_Mo_read_33 (by decide) (fun c33 => ?_) (fun c33 => ?_)
          · exact absurd ⟨qp_b_ne c15, qp_b_ne c22, qm_bs1 c26 c33⟩ kb
          · refine lv_iconst (v := (-1 : Int32)) hx hb d_Mo_read_36 (by decide) ?_
            exact q_iret hx hb hr hlk hK hP hD hS d_Mo_read_37 (rfl) (rfl)
  · have c4 : ¬ 0 = 0 := fun h9 => c4 ((q_z_eq (by omega)).mpr h9)
    exfalso; omega
set_option maxHeartbeats 4000000 in
set_option maxRecDepth 100000 in
theorem c_Mo_pieces_all (l : Launch) (D : va_G) (cZ : ClassId) (cI : ClassId) (cB : ClassId) (mo : Nat) (r1 : Nat) (r2 : Nat) (r3 : Nat) (r4 : Nat) (r5 : Nat) (r6 : Nat) (th : Nat → Bool) (pl : Nat → Nat) (mk : Nat → Int32) (nt : Nat → Int32) (bt : Nat → Int32) (us : Nat → Bool) (md : Int32) (ck : Int32) (kpl : ∀ k, pl k ≤ 600) : qMi l y_Mo_pieces b_Mo_pieces 2 (some .int) (rmL 3) D [(cZ, .boolean), (cI, .int), (cB, .byte)] [.ref mo, .int ((-1 : Int32))] [(mo, .inr (5, [.ref r1, .ref r2, .ref r3, .ref r4, .ref r5, .ref r6, .int (md), .int (ck), .int (nI 0)])), (r1, .inl (cZ, 32, .inl (qm_T th))), (r2, .inl (cI, 4096, .inl (qm_P pl))), (r3, .inl (cI, 4096, .inl (mk))), (r4, .inl (cI, 64, .inl (nt))), (r5, .inl (cB, 76800, .inl (bt))), (r6, .inl (cZ, 600, .inl (qm_T us)))] [(mo, .inr (5, [.ref r1, .ref r2, .ref r3, .ref r4, .ref r5, .ref r6, .int (md), .int (ck), .int (nI 0)])), (r1, .inl (cZ, 32, .inl (qm_T th))), (r2, .inl (cI, 4096, .inl (qm_P pl))), (r3, .inl (cI, 4096, .inl (mk))), (r4, .inl (cI, 64, .inl (nt))), (r5, .inl (cB, 76800, .inl (bt))), (r6, .inl (cZ, 600, .inl (qm_T us)))] (nI (qs_ (16) (fun v => qm_ct pl (128 * v) 128))) := by
  refine q_start (Qc := qZi D _ _ _) (by decide +kernel) (Nat.le_of_ble_eq_true rfl) ?_
  intro p e s m below meth c A hx hb hr hlk hml hown hts hK hP hD hS hA hN ls hl
  have hl : lv_has ls 2 [(0, .ref mo), (1, .int ((-1 : Int32)))] := hl
  have hP : va_P D cls [(mo, .inr (5, [.ref r1, .ref r2, .ref r3, .ref r4, .ref r5, .ref r6, .int (md), .int (ck), .int (nI 0)])), (r1, .inl (cZ, 32, .inl (qm_T th))), (r2, .inl (cI, 4096, .inl (qm_P pl))), (r3, .inl (cI, 4096, .inl (mk))), (r4, .inl (cI, 64, .inl (nt))), (r5, .inl (cB, 76800, .inl (bt))), (r6, .inl (cZ, 600, .inl (qm_T us)))] s.heap := hP
  have hD : va_D A [(mo, .inr (5, [.ref r1, .ref r2, .ref r3, .ref r4, .ref r5, .ref r6, .int (md), .int (ck), .int (nI 0)])), (r1, .inl (cZ, 32, .inl (qm_T th))), (r2, .inl (cI, 4096, .inl (qm_P pl))), (r3, .inl (cI, 4096, .inl (mk))), (r4, .inl (cI, 64, .inl (nt))), (r5, .inl (cB, 76800, .inl (bt))), (r6, .inl (cZ, 600, .inl (qm_T us)))] := hD
  refine lv_aload_n hx hb d_Mo_pieces_0 rfl (lv_at hl 0 rfl) ?_
  refine va_get (D := D) (ci := 5) (v := .int (nI 0)) (C := R_Mo) (T := F_Mo) (N := 9) hx hb hts i_Mo hown hK hP 0 rfl rfl 8 (by decide) (hts _ fl_Mo_38) (fun _ h9 => h9) rfl d_Mo_pieces_1 ?_
  refine lv_if_eq (tgt := 10) hx hb d_Mo_pieces_4 (by decide) (fun c4 => ?_) (fun c4 => ?_)
  · have c4 : 0 = 0 := (q_z_eq (by omega)).mp c4
    refine lv_iload_n hx hb d_Mo_pieces_10 rfl (lv_at hl 1 rfl) ?_
    refine lv_iconst (v := (-1 : Int32)) hx hb d_Mo_pieces_11 (by decide) ?_
    refine lv_icmp_ne (tgt := 20) hx hb d_Mo_pieces_12 (by decide) (fun c12 => ?_) (fun c12 => ?_)
    · exact absurd rfl c12
    · refine lv_aload_n hx hb d_Mo_pieces_15 rfl (lv_at hl 0 rfl) ?_
      refine q_callVi (As := []) (rest := []) (wsC := [(mo, .inr (5, [.ref r1, .ref r2, .ref r3, .ref r4, .ref r5, .ref r6, .int (md), .int (ck), .int (nI 0)])), (r1, .inl (cZ, 32, .inl (qm_T th))), (r2, .inl (cI, 4096, .inl (qm_P pl))), (r3, .inl (cI, 4096, .inl (mk))), (r4, .inl (cI, 64, .inl (nt))), (r5, .inl (cB, 76800, .inl (bt))), (r6, .inl (cZ, 600, .inl (qm_T us)))]) (wsR := []) (wsC' := [(mo, .inr (5, [.ref r1, .ref r2, .ref r3, .ref r4, .ref r5, .ref r6, .int (md), .int (ck), .int (nI 0)])), (r1, .inl (cZ, 32, .inl (qm_T th))), (r2, .inl (cI, 4096, .inl (qm_P pl))), (r3, .inl (cI, 4096, .inl (mk))), (r4, .inl (cI, 64, .inl (nt))), (r5, .inl (cB, 76800, .inl (bt))), (r6, .inl (cZ, 600, .inl (qm_T us)))]) (wsN := [(mo, .inr (5, [.ref r1, .ref r2, .ref r3, .ref r4, .ref r5, .ref r6, .int (md), .int (ck), .int (nI 0)])), (r1, .inl (cZ, 32, .inl (qm_T th))), (r2, .inl (cI, 4096, .inl (qm_P pl))), (r3, .inl (cI, 4096, .inl (mk))), (r4, .inl (cI, 64, .inl (nt))), (r5, .inl (cB, 76800, .inl (bt))), (r6, .inl (cZ, 600, .inl (qm_T us)))]) (isT := [0, 1, 2]) (isC := [0, 1, 2, 3, 4, 5, 6]) (isR := []) (isN := [0, 1, 2, 3, 4, 5, 6]) (k := 0) (ci := 5) (C := R_Mo) ⟨hx, hb, hml, hown, hts⟩ (c_Mo_all l D cZ cI cB mo r1 r2 r3 r4 r5 r6 th pl mk nt bt us md ck kpl) (tw_V ml_Mo_50 im_Mo_all se_Mo_all in_Mo cd_Mo_all) rfl ⟨by decide +kernel, Nat.le_of_ble_eq_true rfl, Nat.le_of_ble_eq_true rfl⟩ ⟨Nat.le_of_ble_eq_true rfl, Nat.le_of_ble_eq_true rfl⟩ hK hP hD hS hA hN rfl ⟨rfl, rfl, rfl, by decide, by decide, by decide, by decide⟩ rfl rfl rfl hl.1 rfl rfl (Nat.le_of_ble_eq_true rfl) d_Mo_pieces_16 (fun H locs hP hD hS => ?_)
      have hq1 := qm_all_le pl 16
      exact q_iret hx hb hr hlk hK hP hD hS d_Mo_pieces_19 (rfl) (rfl)
  · have c4 : ¬ 0 = 0 := fun h9 => c4 ((q_z_eq (by omega)).mpr h9)
    exfalso; omega
set_option maxHeartbeats 4000000 in
set_option maxRecDepth 100000 in
theorem c_Mo_pieces_ok (l : Launch) (D : va_G) (cZ : ClassId) (cI : ClassId) (cB : ClassId) (mo : Nat) (r1 : Nat) (r2 : Nat) (r3 : Nat) (r4 : Nat) (r5 : Nat) (r6 : Nat) (th : Nat → Bool) (pl : Nat → Nat) (mk : Nat → Int32) (nt : Nat → Int32) (bt : Nat → Int32) (us : Nat → Bool) (md : Int32) (ck : Int32) (v : Nat) (kv : v < 16) (kt : th v = true) (kpl : ∀ k, pl k ≤ 600) : qMi l y_Mo_pieces b_Mo_pieces 2 (some .int) (rmL 3) D [(cZ, .boolean), (cI, .int), (cB, .byte)] [.ref mo, .int (nI v)] [(mo, .inr (5, [.ref r1, .ref r2, .ref r3, .ref r4, .ref r5, .ref r6, .int (md), .int (ck), .int (nI 0)])), (r1, .inl (cZ, 32, .inl (qm_T th))), (r2, .inl (cI, 4096, .inl (qm_P pl))), (r3, .inl (cI, 4096, .inl (mk))), (r4, .inl (cI, 64, .inl (nt))), (r5, .inl (cB, 76800, .inl (bt))), (r6, .inl (cZ, 600, .inl (qm_T us)))] [(mo, .inr (5, [.ref r1, .ref r2, .ref r3, .ref r4, .ref r5, .ref r6, .int (md), .int (ck), .int (nI 0)])), (r1, .inl (cZ, 32, .inl (qm_T th))), (r2, .inl (cI, 4096, .inl (qm_P pl))), (r3, .inl (cI, 4096, .inl (mk))), (r4, .inl (cI, 64, .inl (nt))), (r5, .inl (cB, 76800, .inl (bt))), (r6, .inl (cZ, 600, .inl (qm_T us)))] (nI (qm_ct pl (128 * v) (128))) := by
  refine q_start (Qc := qZi D _ _ _) (by decide +kernel) (Nat.le_of_ble_eq_true rfl) ?_
  intro p e s m below meth c A hx hb hr hlk hml hown hts hK hP hD hS hA hN ls hl
  have hl : lv_has ls 2 [(0, .ref mo), (1, .int (nI v))] := hl
  have hP : va_P D cls [(mo, .inr (5, [.ref r1, .ref r2, .ref r3, .ref r4, .ref r5, .ref r6, .int (md), .int (ck), .int (nI 0)])), (r1, .inl (cZ, 32, .inl (qm_T th))), (r2, .inl (cI, 4096, .inl (qm_P pl))), (r3, .inl (cI, 4096, .inl (mk))), (r4, .inl (cI, 64, .inl (nt))), (r5, .inl (cB, 76800, .inl (bt))), (r6, .inl (cZ, 600, .inl (qm_T us)))] s.heap := hP
  have hD : va_D A [(mo, .inr (5, [.ref r1, .ref r2, .ref r3, .ref r4, .ref r5, .ref r6, .int (md), .int (ck), .int (nI 0)])), (r1, .inl (cZ, 32, .inl (qm_T th))), (r2, .inl (cI, 4096, .inl (qm_P pl))), (r3, .inl (cI, 4096, .inl (mk))), (r4, .inl (cI, 64, .inl (nt))), (r5, .inl (cB, 76800, .inl (bt))), (r6, .inl (cZ, 600, .inl (qm_T us)))] := hD
  refine lv_aload_n hx hb d_Mo_pieces_0 rfl (lv_at hl 0 rfl) ?_
  refine va_get (D := D) (ci := 5) (v := .int (nI 0)) (C := R_Mo) (T := F_Mo) (N := 9) hx hb hts i_Mo hown hK hP 0 rfl rfl 8 (by decide) (hts _ fl_Mo_38) (fun _ h9 => h9) rfl d_Mo_pieces_1 ?_
  refine lv_if_eq (tgt := 10) hx hb d_Mo_pieces_4 (by decide) (fun c4 => ?_) (fun c4 => ?_)
  · have c4 : 0 = 0 := (q_z_eq (by omega)).mp c4
    refine lv_iload_n hx hb d_Mo_pieces_10 rfl (lv_at hl 1 rfl) ?_
    refine lv_iconst (v := (-1 : Int32)) hx hb d_Mo_pieces_11 (by decide) ?_
    refine lv_icmp_ne (tgt := 20) hx hb d_Mo_pieces_12 (by decide) (fun c12 => ?_) (fun c12 => ?_)
    · refine lv_aload_n hx hb d_Mo_pieces_20 rfl (lv_at hl 0 rfl) ?_
      refine lv_iload_n hx hb d_Mo_pieces_21 rfl (lv_at hl 1 rfl) ?_
      refine q_callVi (As := [.int (nI v)]) (rest := []) (wsC := [(mo, .inr (5, [.ref r1, .ref r2, .ref r3, .ref r4, .ref r5, .ref r6, .int (md), .int (ck), .int (nI 0)])), (r1, .inl (cZ, 32, .inl (qm_T th))), (r2, .inl (cI, 4096, .inl (qm_P pl))), (r3, .inl (cI, 4096, .inl (mk))), (r4, .inl (cI, 64, .inl (nt))), (r5, .inl (cB, 76800, .inl (bt))), (r6, .inl (cZ, 600, .inl (qm_T us)))]) (wsR := []) (wsC' := [(mo, .inr (5, [.ref r1, .ref r2, .ref r3, .ref r4, .ref r5, .ref r6, .int (md), .int (ck), .int (nI 0)])), (r1, .inl (cZ, 32, .inl (qm_T th))), (r2, .inl (cI, 4096, .inl (qm_P pl))), (r3, .inl (cI, 4096, .inl (mk))), (r4, .inl (cI, 64, .inl (nt))), (r5, .inl (cB, 76800, .inl (bt))), (r6, .inl (cZ, 600, .inl (qm_T us)))]) (wsN := [(mo, .inr (5, [.ref r1, .ref r2, .ref r3, .ref r4, .ref r5, .ref r6, .int (md), .int (ck), .int (nI 0)])), (r1, .inl (cZ, 32, .inl (qm_T th))), (r2, .inl (cI, 4096, .inl (qm_P pl))), (r3, .inl (cI, 4096, .inl (mk))), (r4, .inl (cI, 64, .inl (nt))), (r5, .inl (cB, 76800, .inl (bt))), (r6, .inl (cZ, 600, .inl (qm_T us)))]) (isT := [0, 1, 2]) (isC := [0, 1, 2, 3, 4, 5, 6]) (isR := []) (isN := [0, 1, 2, 3, 4, 5, 6]) (k := 1) (ci := 5) (C := R_Mo) ⟨hx, hb, hml, hown, hts⟩ (c_Mo_isThereY l D cZ cI cB mo r1 r2 r3 r4 r5 r6 th pl mk nt bt us md ck v (by omega) kt) (tw_V ml_Mo_46 im_Mo_isThere se_Mo_isThere in_Mo cd_Mo_isThere) rfl ⟨by decide +kernel, Nat.le_of_ble_eq_true rfl, Nat.le_of_ble_eq_true rfl⟩ ⟨Nat.le_of_ble_eq_true rfl, Nat.le_of_ble_eq_true rfl⟩ hK hP hD hS hA hN rfl ⟨rfl, rfl, rfl, by decide, by decide, by decide, by decide⟩ rfl rfl rfl hl.1 rfl rfl (Nat.le_of_ble_eq_true rfl) d_Mo_pieces_22 (fun H locs hP hD hS => ?_)
      refine lv_if_eq (tgt := 36) hx hb d_Mo_pieces_25 (by decide) (fun c25 => ?_) (fun c25 => ?_)
      · have c25 : 1 = 0 := (q_z_eq (by omega)).mp c25
        exfalso; omega
      · have c25 : ¬ 1 = 0 := fun h9 => c25 ((q_z_eq (by omega)).mpr h9)
        refine lv_aload_n hx hb d_Mo_pieces_28 rfl (lv_at hl 0 rfl) ?_
        refine lv_iload_n hx hb d_Mo_pieces_29 rfl (lv_at hl 1 rfl) ?_
        refine q_callVi (As := [.int (nI v)]) (rest := []) (wsC := [(mo, .inr (5, [.ref r1, .ref r2, .ref r3, .ref r4, .ref r5, .ref r6, .int (md), .int (ck), .int (nI 0)])), (r1, .inl (cZ, 32, .inl (qm_T th))), (r2, .inl (cI, 4096, .inl (qm_P pl))), (r3, .inl (cI, 4096, .inl (mk))), (r4, .inl (cI, 64, .inl (nt))), (r5, .inl (cB, 76800, .inl (bt))), (r6, .inl (cZ, 600, .inl (qm_T us)))]) (wsR := []) (wsC' := [(mo, .inr (5, [.ref r1, .ref r2, .ref r3, .ref r4, .ref r5, .ref r6, .int (md), .int (ck), .int (nI 0)])), (r1, .inl (cZ, 32, .inl (qm_T th))), (r2, .inl (cI, 4096, .inl (qm_P pl))), (r3, .inl (cI, 4096, .inl (mk))), (r4, .inl (cI, 64, .inl (nt))), (r5, .inl (cB, 76800, .inl (bt))), (r6, .inl (cZ, 600, .inl (qm_T us)))]) (wsN := [(mo, .inr (5, [.ref r1, .ref r2, .ref r3, .ref r4, .ref r5, .ref r6, .int (md), .int (ck), .int (nI 0)])), (r1, .inl (cZ, 32, .inl (qm_T th))), (r2, .inl (cI, 4096, .inl (qm_P pl))), (r3, .inl (cI, 4096, .inl (mk))), (r4, .inl (cI, 64, .inl (nt))), (r5, .inl (cB, 76800, .inl (bt))), (r6, .inl (cZ, 600, .inl (qm_T us)))]) (isT := [0, 1, 2]) (isC := [0, 1, 2, 3, 4, 5, 6]) (isR := []) (isN := [0, 1, 2, 3, 4, 5, 6]) (k := 1) (ci := 5) (C := R_Mo) ⟨hx, hb, hml, hown, hts⟩ (c_Mo_many l D cZ cI cB mo r1 r2 r3 r4 r5 r6 th pl mk nt bt us md ck v (by omega) kpl) (tw_V ml_Mo_42 im_Mo_many se_Mo_many in_Mo cd_Mo_many) rfl ⟨by decide +kernel, Nat.le_of_ble_eq_true rfl, Nat.le_of_ble_eq_true rfl⟩ ⟨Nat.le_of_ble_eq_true rfl, Nat.le_of_ble_eq_true rfl⟩ hK hP hD hS hA hN rfl ⟨rfl, rfl, rfl, by decide, by decide, by decide, by decide⟩ rfl rfl rfl hl.1 rfl rfl (Nat.le_of_ble_eq_true rfl) d_Mo_pieces_30 (fun H locs hP hD hS => ?_)
        have hq1 := qm_ct_le pl (128 * v) 128
        refine lv_goto (tgt := 37) hx hb d_Mo_pieces_33 (by decide) ?_
        exact q_iret hx hb hr hlk hK hP hD hS d_Mo_pieces_37 (rfl) (rfl)
    · exact absurd (show nI v < 0 by rw [c12]; decide) (nI_pos (by omega))
  · have c4 : ¬ 0 = 0 := fun h9 => c4 ((q_z_eq (by omega)).mpr h9)
    exfalso; omega
set_option maxHeartbeats 4000000 in
set_option maxRecDepth 100000 in
theorem c_Mo_pieces_bad (l : Launch) (D : va_G) (cZ : ClassId) (cI : ClassId) (cB : ClassId) (mo : Nat) (r1 : Nat) (r2 : Nat) (r3 : Nat) (r4 : Nat) (r5 : Nat) (r6 : Nat) (th : Nat → Bool) (pl : Nat → Nat) (mk : Nat → Int32) (nt : Nat → Int32) (bt : Nat → Int32) (us : Nat → Bool) (md : Int32) (ck : Int32) (v : Int32) (k1 : ¬ v = -1) (kb : ¬ qm_th th v) : qMi l y_Mo_pieces b_Mo_pieces 2 (some .int) (rmL 3) D [(cZ, .boolean), (cI, .int), (cB, .byte)] [.ref mo, .int (v)] [(mo, .inr (5, [.ref r1, .ref r2, .ref r3, .ref r4, .ref r5, .ref r6, .int (md), .int (ck), .int (nI 0)])), (r1, .inl (cZ, 32, .inl (qm_T th))), (r2, .inl (cI, 4096, .inl (qm_P pl))), (r3, .inl (cI, 4096, .inl (mk))), (r4, .inl (cI, 64, .inl (nt))), (r5, .inl (cB, 76800, .inl (bt))), (r6, .inl (cZ, 600, .inl (qm_T us)))] [(mo, .inr (5, [.ref r1, .ref r2, .ref r3, .ref r4, .ref r5, .ref r6, .int (md), .int (ck), .int (nI 0)])), (r1, .inl (cZ, 32, .inl (qm_T th))), (r2, .inl (cI, 4096, .inl (qm_P pl))), (r3, .inl (cI, 4096, .inl (mk))), (r4, .inl (cI, 64, .inl (nt))), (r5, .inl (cB, 76800, .inl (bt))), (r6, .inl (cZ, 600, .inl (qm_T us)))] ((-1 : Int32)) := by
  refine q_start (Qc := qZi D _ _ _) (by decide +kernel) (Nat.le_of_ble_eq_true rfl) ?_
  intro p e s m below meth c A hx hb hr hlk hml hown hts hK hP hD hS hA hN ls hl
  have hl : lv_has ls 2 [(0, .ref mo), (1, .int (v))] := hl
  have hP : va_P D cls [(mo, .inr (5, [.ref r1, .ref r2, .ref r3, .ref r4, .ref r5, .ref r6, .int (md), .int (ck), .int (nI 0)])), (r1, .inl (cZ, 32, .inl (qm_T th))), (r2, .inl (cI, 4096, .inl (qm_P pl))), (r3, .inl (cI, 4096, .inl (mk))), (r4, .inl (cI, 64, .inl (nt))), (r5, .inl (cB, 76800, .inl (bt))), (r6, .inl (cZ, 600, .inl (qm_T us)))] s.heap := hP
  have hD : va_D A [(mo, .inr (5, [.ref r1, .ref r2, .ref r3, .ref r4, .ref r5, .ref r6, .int (md), .int (ck), .int (nI 0)])), (r1, .inl (cZ, 32, .inl (qm_T th))), (r2, .inl (cI, 4096, .inl (qm_P pl))), (r3, .inl (cI, 4096, .inl (mk))), (r4, .inl (cI, 64, .inl (nt))), (r5, .inl (cB, 76800, .inl (bt))), (r6, .inl (cZ, 600, .inl (qm_T us)))] := hD
  refine lv_aload_n hx hb d_Mo_pieces_0 rfl (lv_at hl 0 rfl) ?_
  refine va_get (D := D) (ci := 5) (v := .int (nI 0)) (C := R_Mo) (T := F_Mo) (N := 9) hx hb hts i_Mo hown hK hP 0 rfl rfl 8 (by decide) (hts _ fl_Mo_38) (fun _ h9 => h9) rfl d_Mo_pieces_1 ?_
  refine lv_if_eq (tgt := 10) hx hb d_Mo_pieces_4 (by decide) (fun c4 => ?_) (fun c4 => ?_)
  · have c4 : 0 = 0 := (q_z_eq (by omega)).mp c4
    refine lv_iload_n hx hb d_Mo_pieces_10 rfl (lv_at hl 1 rfl) ?_
    refine lv_iconst (v := (-1 : Int32)) hx hb d_Mo_pieces_11 (by decide) ?_
    refine lv_icmp_ne (tgt := 20) hx hb d_Mo_pieces_12 (by decide) (fun c12 => ?_) (fun c12 => ?_)
    · refine lv_aload_n hx hb d_Mo_pieces_20 rfl (lv_at hl 0 rfl) ?_
      refine lv_iload_n hx hb d_Mo_pieces_21 rfl (lv_at hl 1 rfl) ?_
      refine q_callVi (As := [.int (v)]) (rest := []) (wsC := [(mo, .inr (5, [.ref r1, .ref r2, .ref r3, .ref r4, .ref r5, .ref r6, .int (md), .int (ck), .int (nI 0)])), (r1, .inl (cZ, 32, .inl (qm_T th))), (r2, .inl (cI, 4096, .inl (qm_P pl))), (r3, .inl (cI, 4096, .inl (mk))), (r4, .inl (cI, 64, .inl (nt))), (r5, .inl (cB, 76800, .inl (bt))), (r6, .inl (cZ, 600, .inl (qm_T us)))]) (wsR := []) (wsC' := [(mo, .inr (5, [.ref r1, .ref r2, .ref r3, .ref r4, .ref r5, .ref r6, .int (md), .int (ck), .int (nI 0)])), (r1, .inl (cZ, 32, .inl (qm_T th))), (r2, .inl (cI, 4096, .inl (qm_P pl))), (r3, .inl (cI, 4096, .inl (mk))), (r4, .inl (cI, 64, .inl (nt))), (r5, .inl (cB, 76800, .inl (bt))), (r6, .inl (cZ, 600, .inl (qm_T us)))]) (wsN := [(mo, .inr (5, [.ref r1, .ref r2, .ref r3, .ref r4, .ref r5, .ref r6, .int (md), .int (ck), .int (nI 0)])), (r1, .inl (cZ, 32, .inl (qm_T th))), (r2, .inl (cI, 4096, .inl (qm_P pl))), (r3, .inl (cI, 4096, .inl (mk))), (r4, .inl (cI, 64, .inl (nt))), (r5, .inl (cB, 76800, .inl (bt))), (r6, .inl (cZ, 600, .inl (qm_T us)))]) (isT := [0, 1, 2]) (isC := [0, 1, 2, 3, 4, 5, 6]) (isR := []) (isN := [0, 1, 2, 3, 4, 5, 6]) (k := 1) (ci := 5) (C := R_Mo) ⟨hx, hb, hml, hown, hts⟩ (c_Mo_isThere l D cZ cI cB mo r1 r2 r3 r4 r5 r6 th pl mk nt bt us md ck v) (tw_V ml_Mo_46 im_Mo_isThere se_Mo_isThere in_Mo cd_Mo_isThere) rfl ⟨by decide +kernel, Nat.le_of_ble_eq_true rfl, Nat.le_of_ble_eq_true rfl⟩ ⟨Nat.le_of_ble_eq_true rfl, Nat.le_of_ble_eq_true rfl⟩ hK hP hD hS hA hN rfl ⟨rfl, rfl, rfl, by decide, by decide, by decide, by decide⟩ rfl rfl rfl hl.1 rfl rfl (Nat.le_of_ble_eq_true rfl) d_Mo_pieces_22 (fun H locs hP hD hS => ?_)
      refine lv_if_eq (tgt := 36) hx hb d_Mo_pieces_25 (by decide) (fun c25 => ?_) (fun c25 => ?_)
      · refine lv_iconst (v := (-1 : Int32)) hx hb d_Mo_pieces_36 (by decide) ?_
        exact q_iret hx hb hr hlk hK hP hD hS d_Mo_pieces_37 (rfl) (rfl)
      · exact absurd (qp_b_ne c25) kb
    · exact absurd c12 k1
  · have c4 : ¬ 0 = 0 := fun h9 => c4 ((q_z_eq (by omega)).mpr h9)
    exfalso; omega
set_option maxHeartbeats 4000000 in
set_option maxRecDepth 100000 in
theorem c_Mo_next_ok (l : Launch) (D : va_G) (cZ : ClassId) (cI : ClassId) (cB : ClassId) (mo : Nat) (r1 : Nat) (r2 : Nat) (r3 : Nat) (r4 : Nat) (r5 : Nat) (r6 : Nat) (th : Nat → Bool) (pl : Nat → Nat) (mk : Nat → Int32) (nt : Nat → Int32) (bt : Nat → Int32) (us : Nat → Bool) (md : Int32) (ck : Int32) (v : Nat) (pc : Nat) (kv : v < 16) (kpc : pc < 128) (kt : th v = true) (kpl : ∀ k, pl k ≤ 600) : qMi l y_Mo_next b_Mo_next 4 (some .int) (rmL 2) D [(cZ, .boolean), (cI, .int), (cB, .byte)] [.ref mo, .int (nI v), .int (nI pc)] [(mo, .inr (5, [.ref r1, .ref r2, .ref r3, .ref r4, .ref r5, .ref r6, .int (md), .int (ck), .int (nI 0)])), (r1, .inl (cZ, 32, .inl (qm_T th))), (r2, .inl (cI, 4096, .inl (qm_P pl))), (r3, .inl (cI, 4096, .inl (mk))), (r4, .inl (cI, 64, .inl (nt))), (r5, .inl (cB, 76800, .inl (bt))), (r6, .inl (cZ, 600, .inl (qm_T us)))] [(mo, .inr (5, [.ref r1, .ref r2, .ref r3, .ref r4, .ref r5, .ref r6, .int (md), .int (ck), .int (nI 0)])), (r1, .inl (cZ, 32, .inl (qm_T th))), (r2, .inl (cI, 4096, .inl (qm_P pl))), (r3, .inl (cI, 4096, .inl (mk))), (r4, .inl (cI, 64, .inl (nt))), (r5, .inl (cB, 76800, .inl (bt))), (r6, .inl (cZ, 600, .inl (qm_T us)))] (nI (qm_next pl v (128 - pc) pc)) := by
  refine q_start (Qc := qZi D _ _ _) (by decide +kernel) (Nat.le_of_ble_eq_true rfl) ?_
  intro p e s m below meth c A hx hb hr hlk hml hown hts hK hP hD hS hA hN ls hl
  have hl : lv_has ls 4 [(0, .ref mo), (1, .int (nI v)), (2, .int (nI pc))] := hl
  have hP : va_P D cls [(mo, .inr (5, [.ref r1, .ref r2, .ref r3, .ref r4, .ref r5, .ref r6, .int (md), .int (ck), .int (nI 0)])), (r1, .inl (cZ, 32, .inl (qm_T th))), (r2, .inl (cI, 4096, .inl (qm_P pl))), (r3, .inl (cI, 4096, .inl (mk))), (r4, .inl (cI, 64, .inl (nt))), (r5, .inl (cB, 76800, .inl (bt))), (r6, .inl (cZ, 600, .inl (qm_T us)))] s.heap := hP
  have hD : va_D A [(mo, .inr (5, [.ref r1, .ref r2, .ref r3, .ref r4, .ref r5, .ref r6, .int (md), .int (ck), .int (nI 0)])), (r1, .inl (cZ, 32, .inl (qm_T th))), (r2, .inl (cI, 4096, .inl (qm_P pl))), (r3, .inl (cI, 4096, .inl (mk))), (r4, .inl (cI, 64, .inl (nt))), (r5, .inl (cB, 76800, .inl (bt))), (r6, .inl (cZ, 600, .inl (qm_T us)))] := hD
  refine lv_aload_n hx hb d_Mo_next_0 rfl (lv_at hl 0 rfl) ?_
  refine va_get (D := D) (ci := 5) (v := .int (nI 0)) (C := R_Mo) (T := F_Mo) (N := 9) hx hb hts i_Mo hown hK hP 0 rfl rfl 8 (by decide) (hts _ fl_Mo_38) (fun _ h9 => h9) rfl d_Mo_next_1 ?_
  refine lv_if_eq (tgt := 10) hx hb d_Mo_next_4 (by decide) (fun c4 => ?_) (fun c4 => ?_)
  · have c4 : 0 = 0 := (q_z_eq (by omega)).mp c4
    refine lv_aload_n hx hb d_Mo_next_10 rfl (lv_at hl 0 rfl) ?_
    refine lv_iload_n hx hb d_Mo_next_11 rfl (lv_at hl 1 rfl) ?_
    refine q_callVi (As := [.int (nI v)]) (rest := []) (wsC := [(mo, .inr (5, [.ref r1, .ref r2, .ref r3, .ref r4, .ref r5, .ref r6, .int (md), .int (ck), .int (nI 0)])), (r1, .inl (cZ, 32, .inl (qm_T th))), (r2, .inl (cI, 4096, .inl (qm_P pl))), (r3, .inl (cI, 4096, .inl (mk))), (r4, .inl (cI, 64, .inl (nt))), (r5, .inl (cB, 76800, .inl (bt))), (r6, .inl (cZ, 600, .inl (qm_T us)))]) (wsR := []) (wsC' := [(mo, .inr (5, [.ref r1, .ref r2, .ref r3, .ref r4, .ref r5, .ref r6, .int (md), .int (ck), .int (nI 0)])), (r1, .inl (cZ, 32, .inl (qm_T th))), (r2, .inl (cI, 4096, .inl (qm_P pl))), (r3, .inl (cI, 4096, .inl (mk))), (r4, .inl (cI, 64, .inl (nt))), (r5, .inl (cB, 76800, .inl (bt))), (r6, .inl (cZ, 600, .inl (qm_T us)))]) (wsN := [(mo, .inr (5, [.ref r1, .ref r2, .ref r3, .ref r4, .ref r5, .ref r6, .int (md), .int (ck), .int (nI 0)])), (r1, .inl (cZ, 32, .inl (qm_T th))), (r2, .inl (cI, 4096, .inl (qm_P pl))), (r3, .inl (cI, 4096, .inl (mk))), (r4, .inl (cI, 64, .inl (nt))), (r5, .inl (cB, 76800, .inl (bt))), (r6, .inl (cZ, 600, .inl (qm_T us)))]) (isT := [0, 1, 2]) (isC := [0, 1, 2, 3, 4, 5, 6]) (isR := []) (isN := [0, 1, 2, 3, 4, 5, 6]) (k := 1) (ci := 5) (C := R_Mo) ⟨hx, hb, hml, hown, hts⟩ (c_Mo_isThereY l D cZ cI cB mo r1 r2 r3 r4 r5 r6 th pl mk nt bt us md ck v (by omega) kt) (tw_V ml_Mo_46 im_Mo_isThere se_Mo_isThere in_Mo cd_Mo_isThere) rfl ⟨by decide +kernel, Nat.le_of_ble_eq_true rfl, Nat.le_of_ble_eq_true rfl⟩ ⟨Nat.le_of_ble_eq_true rfl, Nat.le_of_ble_eq_true rfl⟩ hK hP hD hS hA hN rfl ⟨rfl, rfl, rfl, by decide, by decide, by decide, by decide⟩ rfl rfl rfl hl.1 rfl rfl (Nat.le_of_ble_eq_true rfl) d_Mo_next_12 (fun H locs hP hD hS => ?_)
    refine lv_if_eq (tgt := 25) hx hb d_Mo_next_15 (by decide) (fun c15 => ?_) (fun c15 => ?_)
    · have c15 : 1 = 0 := (q_z_eq (by omega)).mp c15
      exfalso; omega
    · have c15 : ¬ 1 = 0 := fun h9 => c15 ((q_z_eq (by omega)).mpr h9)
      refine lv_iload_n hx hb d_Mo_next_18 rfl (lv_at hl 2 rfl) ?_
      refine q_callSi (As := [.int (nI pc)]) (rest := []) (wsC := []) (wsR := [(mo, .inr (5, [.ref r1, .ref r2, .ref r3, .ref r4, .ref r5, .ref r6, .int (md), .int (ck), .int (nI 0)])), (r1, .inl (cZ, 32, .inl (qm_T th))), (r2, .inl (cI, 4096, .inl (qm_P pl))), (r3, .inl (cI, 4096, .inl (mk))), (r4, .inl (cI, 64, .inl (nt))), (r5, .inl (cB, 76800, .inl (bt))), (r6, .inl (cZ, 600, .inl (qm_T us)))]) (wsC' := []) (wsN := [(mo, .inr (5, [.ref r1, .ref r2, .ref r3, .ref r4, .ref r5, .ref r6, .int (md), .int (ck), .int (nI 0)])), (r1, .inl (cZ, 32, .inl (qm_T th))), (r2, .inl (cI, 4096, .inl (qm_P pl))), (r3, .inl (cI, 4096, .inl (mk))), (r4, .inl (cI, 64, .inl (nt))), (r5, .inl (cB, 76800, .inl (bt))), (r6, .inl (cZ, 600, .inl (qm_T us)))]) (isT := []) (isC := []) (isR := [0, 1, 2, 3, 4, 5, 6]) (isN := [0, 1, 2, 3, 4, 5, 6]) (k := 1) ⟨hx, hb, hml, hown, hts⟩ (c_Mo_isPieceY l D pc (by omega)) (tw_S ml_Mo_61 st_Mo_isPiece in_Mo cd_Mo_isPiece) ⟨by decide +kernel, Nat.le_of_ble_eq_true rfl, Nat.le_of_ble_eq_true rfl⟩ ⟨Nat.le_of_ble_eq_true rfl, Nat.le_of_ble_eq_true rfl⟩ hK hP hD hS hA hN rfl ⟨rfl, rfl, rfl, by decide, by decide, by decide, by decide⟩ hl.1 rfl rfl (Nat.le_of_ble_eq_true rfl) d_Mo_next_19 (fun H locs hP hD hS => ?_)
      refine lv_if_ne (tgt := 27) hx hb d_Mo_next_22 (by decide) (fun c22 => ?_) (fun c22 => ?_)
      · have c22 : ¬ 1 = 0 := fun h9 => c22 ((q_z_eq (by omega)).mpr h9)
        refine lv_iload_n hx hb d_Mo_next_27 rfl (lv_at hl 2 rfl) ?_
        refine lv_istore_n (lv' := [(3, .int (nI pc)), (0, .ref mo), (1, .int (nI v)), (2, .int (nI pc))]) hx hb d_Mo_next_28 rfl hl (by decide) rfl (fun ls hl => ?_)
        refine q_loop (pc := 29) (σ := Unit) (I := fun i u9 H locs ls => va_P D cls [(mo, .inr (5, [.ref r1, .ref r2, .ref r3, .ref r4, .ref r5, .ref r6, .int (md), .int (ck), .int (nI 0)])), (r1, .inl (cZ, 32, .inl (qm_T th))), (r2, .inl (cI, 4096, .inl (qm_P pl))), (r3, .inl (cI, 4096, .inl (mk))), (r4, .inl (cI, 64, .inl (nt))), (r5, .inl (cB, 76800, .inl (bt))), (r6, .inl (cZ, 600, .inl (qm_T us)))] H ∧ va_D A [(mo, .inr (5, [.ref r1, .ref r2, .ref r3, .ref r4, .ref r5, .ref r6, .int (md), .int (ck), .int (nI 0)])), (r1, .inl (cZ, 32, .inl (qm_T th))), (r2, .inl (cI, 4096, .inl (qm_P pl))), (r3, .inl (cI, 4096, .inl (mk))), (r4, .inl (cI, 64, .inl (nt))), (r5, .inl (cB, 76800, .inl (bt))), (r6, .inl (cZ, 600, .inl (qm_T us)))] ∧ va_S A s.heap H locs ∧ lv_has ls 4 [(0, .ref mo), (1, .int (nI v)), (3, .int (nI (pc + i)))] ∧ (qm_next pl v (128 - pc) pc = qm_next pl v (128 - pc - i) (pc + i))) (128 - pc) ?_ ?_ (0) (()) _ _ _ (by omega) ⟨hP, hD, hS, lv_sub hl [1, 2, 0] rfl, rfl⟩
        · intro u9 H locs ls hI
          obtain ⟨hP, hD, hS, hl, hF⟩ := hI
          refine lv_iload_n hx hb d_Mo_next_29 rfl (lv_at hl 2 rfl) ?_
          refine lv_sipush (v := nI 128) hx hb d_Mo_next_30 (by decide) ?_
          refine lv_icmp_ge (tgt := 57) hx hb d_Mo_next_33 (by decide) (fun c33 => ?_) (fun c33 => ?_)
          · have c33 : 128 ≤ (pc + (128 - pc)) := (nI_leI (by omega) (by omega)).mp c33
            refine lv_iload_n hx hb d_Mo_next_57 rfl (lv_at hl 2 rfl) ?_
            exact q_iret hx hb hr hlk hK hP hD hS d_Mo_next_58 (by rw [hF, Nat.sub_self]; show nI _ = nI 128; rw [show pc + (128 - pc) = 128 by omega]) (rfl)
          · have c33 : ¬ 128 ≤ (pc + (128 - pc)) := fun h9 => c33 ((nI_leI (by omega) (by omega)).mpr h9)
            exfalso; omega
        · intro i u9 H locs ls hi hI ih
          obtain ⟨hP, hD, hS, hl, hF⟩ := hI
          have h7 : 128 - pc - i = (127 - pc - i) + 1 := by omega
          refine lv_iload_n hx hb d_Mo_next_29 rfl (lv_at hl 2 rfl) ?_
          refine lv_sipush (v := nI 128) hx hb d_Mo_next_30 (by decide) ?_
          refine lv_icmp_ge (tgt := 57) hx hb d_Mo_next_33 (by decide) (fun c33 => ?_) (fun c33 => ?_)
          · have c33 : 128 ≤ (pc + i) := (nI_leI (by omega) (by omega)).mp c33
            exfalso; omega
          · have c33 : ¬ 128 ≤ (pc + i) := fun h9 => c33 ((nI_leI (by omega) (by omega)).mpr h9)
            refine lv_aload_n hx hb d_Mo_next_36 rfl (lv_at hl 0 rfl) ?_
            refine va_get (D := D) (ci := 5) (v := .ref r2) (C := R_Mo) (T := F_Mo) (N := 9) hx hb hts i_Mo hown hK hP 0 rfl rfl 1 (by decide) (hts _ fl_Mo_13) (fun _ h9 => h9) rfl d_Mo_next_37 ?_
            refine lv_sipush (v := nI 128) hx hb d_Mo_next_40 (by decide) ?_
            refine lv_iload_n hx hb d_Mo_next_43 rfl (lv_at hl 1 rfl) ?_
            refine lv_imul hx hb d_Mo_next_44 ?_
            refine q_ti (y := nI (128 * v)) (pk_mul _ _) ?_
            refine lv_iload_n hx hb d_Mo_next_45 rfl (lv_at hl 2 rfl) ?_
            refine lv_iadd hx hb d_Mo_next_46 ?_
            refine q_ti (y := nI (128 * v + (pc + i))) (nI_add _ _) ?_
            refine va_iald hx hb hK hP 2 1 rfl rfl (vp_in_nI (by omega) (by decide)) d_Mo_next_47 ?_
            refine q_ti (y := (qm_P pl) (128 * v + (pc + i))) (by rw [nI_clamp (by omega)]) ?_
            refine lv_if_ge (tgt := 57) hx hb d_Mo_next_48 (by decide) (fun c48 => ?_) (fun c48 => ?_)
            · have c48 := qm_Pg (kpl _) c48
              refine lv_iload_n hx hb d_Mo_next_57 rfl (lv_at hl 2 rfl) ?_
              exact q_iret hx hb hr hlk hK hP hD hS d_Mo_next_58 (by rw [hF, h7, qm_next_hit c48]) (rfl)
            · have c48 := qm_Ph (kpl _) c48
              refine lv_iinc (v := nI (pc + i + 1)) (lv' := [(3, .int (nI (pc + i + 1))), (0, .ref mo), (1, .int (nI v))]) hx hb d_Mo_next_51 hl (k := 2) rfl (nI_1 _) (by decide) rfl (fun ls hl => ?_)
              refine lv_goto (tgt := 29) hx hb d_Mo_next_54 (by decide) ?_
              exact ih (()) _ _ _ ⟨hP, hD, hS, lv_sub hl [1, 2, 0] rfl, by rw [hF, h7, qm_next_go c48, show 128 - pc - (i + 1) = 127 - pc - i by omega]; rfl⟩
      · have c22 : 1 = 0 := (q_z_eq (by omega)).mp c22
        exfalso; omega
  · have c4 : ¬ 0 = 0 := fun h9 => c4 ((q_z_eq (by omega)).mpr h9)
    exfalso; omega
set_option maxHeartbeats 4000000 in
set_option maxRecDepth 100000 in
theorem c_Mo_next_bad (l : Launch) (D : va_G) (cZ : ClassId) (cI : ClassId) (cB : ClassId) (mo : Nat) (r1 : Nat) (r2 : Nat) (r3 : Nat) (r4 : Nat) (r5 : Nat) (r6 : Nat) (th : Nat → Bool) (pl : Nat → Nat) (mk : Nat → Int32) (nt : Nat → Int32) (bt : Nat → Int32) (us : Nat → Bool) (md : Int32) (ck : Int32) (v : Int32) (y : Int32) (kb : ¬ (qm_th th v ∧ qp_in y 128)) : qMi l y_Mo_next b_Mo_next 4 (some .int) (rmL 2) D [(cZ, .boolean), (cI, .int), (cB, .byte)] [.ref mo, .int (v), .int (y)] [(mo, .inr (5, [.ref r1, .ref r2, .ref r3, .ref r4, .ref r5, .ref r6, .int (md), .int (ck), .int (nI 0)])), (r1, .inl (cZ, 32, .inl (qm_T th))), (r2, .inl (cI, 4096, .inl (qm_P pl))), (r3, .inl (cI, 4096, .inl (mk))), (r4, .inl (cI, 64, .inl (nt))), (r5, .inl (cB, 76800, .inl (bt))), (r6, .inl (cZ, 600, .inl (qm_T us)))] [(mo, .inr (5, [.ref r1, .ref r2, .ref r3, .ref r4, .ref r5, .ref r6, .int (md), .int (ck), .int (nI 0)])), (r1, .inl (cZ, 32, .inl (qm_T th))), (r2, .inl (cI, 4096, .inl (qm_P pl))), (r3, .inl (cI, 4096, .inl (mk))), (r4, .inl (cI, 64, .inl (nt))), (r5, .inl (cB, 76800, .inl (bt))), (r6, .inl (cZ, 600, .inl (qm_T us)))] ((-1 : Int32)) := by
  refine q_start (Qc := qZi D _ _ _) (by decide +kernel) (Nat.le_of_ble_eq_true rfl) ?_
  intro p e s m below meth c A hx hb hr hlk hml hown hts hK hP hD hS hA hN ls hl
  have hl : lv_has ls 4 [(0, .ref mo), (1, .int (v)), (2, .int (y))] := hl
  have hP : va_P D cls [(mo, .inr (5, [.ref r1, .ref r2, .ref r3, .ref r4, .ref r5, .ref r6, .int (md), .int (ck), .int (nI 0)])), (r1, .inl (cZ, 32, .inl (qm_T th))), (r2, .inl (cI, 4096, .inl (qm_P pl))), (r3, .inl (cI, 4096, .inl (mk))), (r4, .inl (cI, 64, .inl (nt))), (r5, .inl (cB, 76800, .inl (bt))), (r6, .inl (cZ, 600, .inl (qm_T us)))] s.heap := hP
  have hD : va_D A [(mo, .inr (5, [.ref r1, .ref r2, .ref r3, .ref r4, .ref r5, .ref r6, .int (md), .int (ck), .int (nI 0)])), (r1, .inl (cZ, 32, .inl (qm_T th))), (r2, .inl (cI, 4096, .inl (qm_P pl))), (r3, .inl (cI, 4096, .inl (mk))), (r4, .inl (cI, 64, .inl (nt))), (r5, .inl (cB, 76800, .inl (bt))), (r6, .inl (cZ, 600, .inl (qm_T us)))] := hD
  refine lv_aload_n hx hb d_Mo_next_0 rfl (lv_at hl 0 rfl) ?_
  refine va_get (D := D) (ci := 5) (v := .int (nI 0)) (C := R_Mo) (T := F_Mo) (N := 9) hx hb hts i_Mo hown hK hP 0 rfl rfl 8 (by decide) (hts _ fl_Mo_38) (fun _ h9 => h9) rfl d_Mo_next_1 ?_
  refine lv_if_eq (tgt := 10) hx hb d_Mo_next_4 (by decide) (fun c4 => ?_) (fun c4 => ?_)
  · have c4 : 0 = 0 := (q_z_eq (by omega)).mp c4
    refine lv_aload_n hx hb d_Mo_next_10 rfl (lv_at hl 0 rfl) ?_
    refine lv_iload_n hx hb d_Mo_next_11 rfl (lv_at hl 1 rfl) ?_
    refine q_callVi (As := [.int (v)]) (rest := []) (wsC := [(mo, .inr (5, [.ref r1, .ref r2, .ref r3, .ref r4, .ref r5, .ref r6, .int (md), .int (ck), .int (nI 0)])), (r1, .inl (cZ, 32, .inl (qm_T th))), (r2, .inl (cI, 4096, .inl (qm_P pl))), (r3, .inl (cI, 4096, .inl (mk))), (r4, .inl (cI, 64, .inl (nt))), (r5, .inl (cB, 76800, .inl (bt))), (r6, .inl (cZ, 600, .inl (qm_T us)))]) (wsR := []) (wsC' := [(mo, .inr (5, [.ref r1, .ref r2, .ref r3, .ref r4, .ref r5, .ref r6, .int (md), .int (ck), .int (nI 0)])), (r1, .inl (cZ, 32, .inl (qm_T th))), (r2, .inl (cI, 4096, .inl (qm_P pl))), (r3, .inl (cI, 4096, .inl (mk))), (r4, .inl (cI, 64, .inl (nt))), (r5, .inl (cB, 76800, .inl (bt))), (r6, .inl (cZ, 600, .inl (qm_T us)))]) (wsN := [(mo, .inr (5, [.ref r1, .ref r2, .ref r3, .ref r4, .ref r5, .ref r6, .int (md), .int (ck), .int (nI 0)])), (r1, .inl (cZ, 32, .inl (qm_T th))), (r2, .inl (cI, 4096, .inl (qm_P pl))), (r3, .inl (cI, 4096, .inl (mk))), (r4, .inl (cI, 64, .inl (nt))), (r5, .inl (cB, 76800, .inl (bt))), (r6, .inl (cZ, 600, .inl (qm_T us)))]) (isT := [0, 1, 2]) (isC := [0, 1, 2, 3, 4, 5, 6]) (isR := []) (isN := [0, 1, 2, 3, 4, 5, 6]) (k := 1) (ci := 5) (C := R_Mo) ⟨hx, hb, hml, hown, hts⟩ (c_Mo_isThere l D cZ cI cB mo r1 r2 r3 r4 r5 r6 th pl mk nt bt us md ck v) (tw_V ml_Mo_46 im_Mo_isThere se_Mo_isThere in_Mo cd_Mo_isThere) rfl ⟨by decide +kernel, Nat.le_of_ble_eq_true rfl, Nat.le_of_ble_eq_true rfl⟩ ⟨Nat.le_of_ble_eq_true rfl, Nat.le_of_ble_eq_true rfl⟩ hK hP hD hS hA hN rfl ⟨rfl, rfl, rfl, by decide, by decide, by decide, by decide⟩ rfl rfl rfl hl.1 rfl rfl (Nat.le_of_ble_eq_true rfl) d_Mo_next_12 (fun H locs hP hD hS => ?_)
    refine lv_if_eq (tgt := 25) hx hb d_Mo_next_15 (by decide) (fun c15 => ?_) (fun c15 => ?_)
    · refine lv_iconst (v := (-1 : Int32)) hx hb d_Mo_next_25 (by decide) ?_
      exact q_iret hx hb hr hlk hK hP hD hS d_Mo_next_26 (rfl) (rfl)
    · refine lv_iload_n hx hb d_Mo_next_18 rfl (lv_at hl 2 rfl) ?_
      refine q_callSi (As := [.int (y)]) (rest := []) (wsC := []) (wsR := [(mo, .inr (5, [.ref r1, .ref r2, .ref r3, .ref r4, .ref r5, .ref r6, .int (md), .int (ck), .int (nI 0)])), (r1, .inl (cZ, 32, .inl (qm_T th))), (r2, .inl (cI, 4096, .inl (qm_P pl))), (r3, .inl (cI, 4096, .inl (mk))), (r4, .inl (cI, 64, .inl (nt))), (r5, .inl (cB, 76800, .inl (bt))), (r6, .inl (cZ, 600, .inl (qm_T us)))]) (wsC' := []) (wsN := [(mo, .inr (5, [.ref r1, .ref r2, .ref r3, .ref r4, .ref r5, .ref r6, .int (md), .int (ck), .int (nI 0)])), (r1, .inl (cZ, 32, .inl (qm_T th))), (r2, .inl (cI, 4096, .inl (qm_P pl))), (r3, .inl (cI, 4096, .inl (mk))), (r4, .inl (cI, 64, .inl (nt))), (r5, .inl (cB, 76800, .inl (bt))), (r6, .inl (cZ, 600, .inl (qm_T us)))]) (isT := []) (isC := []) (isR := [0, 1, 2, 3, 4, 5, 6]) (isN := [0, 1, 2, 3, 4, 5, 6]) (k := 1) ⟨hx, hb, hml, hown, hts⟩ (c_Mo_isPiece l D y) (tw_S ml_Mo_61 st_Mo_isPiece in_Mo cd_Mo_isPiece) ⟨by decide +kernel, Nat.le_of_ble_eq_true rfl, Nat.le_of_ble_eq_true rfl⟩ ⟨Nat.le_of_ble_eq_true rfl, Nat.le_of_ble_eq_true rfl⟩ hK hP hD hS hA hN rfl ⟨rfl, rfl, rfl, by decide, by decide, by decide, by decide⟩ hl.1 rfl rfl (Nat.le_of_ble_eq_true rfl) d_Mo_next_19 (fun H locs hP hD hS => ?_)
      refine lv_if_ne (tgt := 27) hx hb d_Mo_next_22 (by decide) (fun c22 => ?_) (fun c22 => ?_)
      · exact absurd (⟨qp_b_ne c15, qp_b_ne c22⟩) kb
      · refine lv_iconst (v := (-1 : Int32)) hx hb d_Mo_next_25 (by decide) ?_
        exact q_iret hx hb hr hlk hK hP hD hS d_Mo_next_26 (rfl) (rfl)
  · have c4 : ¬ 0 = 0 := fun h9 => c4 ((q_z_eq (by omega)).mpr h9)
    exfalso; omega
set_option maxHeartbeats 4000000 in
set_option maxRecDepth 100000 in
theorem c_Mo_shared_ok (l : Launch) (D : va_G) (cZ : ClassId) (cI : ClassId) (cB : ClassId) (mo : Nat) (r1 : Nat) (r2 : Nat) (r3 : Nat) (r4 : Nat) (r5 : Nat) (r6 : Nat) (th : Nat → Bool) (pl : Nat → Nat) (mk : Nat → Int32) (nt : Nat → Int32) (bt : Nat → Int32) (us : Nat → Bool) (md : Int32) (ck : Int32) (v : Nat) (pc : Nat) (kv : v < 16) (kpc : pc < 128) (kt : th v = true) (kpl : ∀ k, pl k ≤ 600) : qMi l y_Mo_shared b_Mo_shared 6 (some .int) (rmL 2) D [(cZ, .boolean), (cI, .int), (cB, .byte)] [.ref mo, .int (nI v), .int (nI pc)] [(mo, .inr (5, [.ref r1, .ref r2, .ref r3, .ref r4, .ref r5, .ref r6, .int (md), .int (ck), .int (nI 0)])), (r1, .inl (cZ, 32, .inl (qm_T th))), (r2, .inl (cI, 4096, .inl (qm_P pl))), (r3, .inl (cI, 4096, .inl (mk))), (r4, .inl (cI, 64, .inl (nt))), (r5, .inl (cB, 76800, .inl (bt))), (r6, .inl (cZ, 600, .inl (qm_T us)))] [(mo, .inr (5, [.ref r1, .ref r2, .ref r3, .ref r4, .ref r5, .ref r6, .int (md), .int (ck), .int (nI 0)])), (r1, .inl (cZ, 32, .inl (qm_T th))), (r2, .inl (cI, 4096, .inl (qm_P pl))), (r3, .inl (cI, 4096, .inl (mk))), (r4, .inl (cI, 64, .inl (nt))), (r5, .inl (cB, 76800, .inl (bt))), (r6, .inl (cZ, 600, .inl (qm_T us)))] (nI (qm_shared pl mk v pc)) := by
  refine q_start (Qc := qZi D _ _ _) (by decide +kernel) (Nat.le_of_ble_eq_true rfl) ?_
  intro p e s m below meth c A hx hb hr hlk hml hown hts hK hP hD hS hA hN ls hl
  have hl : lv_has ls 6 [(0, .ref mo), (1, .int (nI v)), (2, .int (nI pc))] := hl
  have hP : va_P D cls [(mo, .inr (5, [.ref r1, .ref r2, .ref r3, .ref r4, .ref r5, .ref r6, .int (md), .int (ck), .int (nI 0)])), (r1, .inl (cZ, 32, .inl (qm_T th))), (r2, .inl (cI, 4096, .inl (qm_P pl))), (r3, .inl (cI, 4096, .inl (mk))), (r4, .inl (cI, 64, .inl (nt))), (r5, .inl (cB, 76800, .inl (bt))), (r6, .inl (cZ, 600, .inl (qm_T us)))] s.heap := hP
  have hD : va_D A [(mo, .inr (5, [.ref r1, .ref r2, .ref r3, .ref r4, .ref r5, .ref r6, .int (md), .int (ck), .int (nI 0)])), (r1, .inl (cZ, 32, .inl (qm_T th))), (r2, .inl (cI, 4096, .inl (qm_P pl))), (r3, .inl (cI, 4096, .inl (mk))), (r4, .inl (cI, 64, .inl (nt))), (r5, .inl (cB, 76800, .inl (bt))), (r6, .inl (cZ, 600, .inl (qm_T us)))] := hD
  refine lv_aload_n hx hb d_Mo_shared_0 rfl (lv_at hl 0 rfl) ?_
  refine va_get (D := D) (ci := 5) (v := .int (nI 0)) (C := R_Mo) (T := F_Mo) (N := 9) hx hb hts i_Mo hown hK hP 0 rfl rfl 8 (by decide) (hts _ fl_Mo_38) (fun _ h9 => h9) rfl d_Mo_shared_1 ?_
  refine lv_if_eq (tgt := 10) hx hb d_Mo_shared_4 (by decide) (fun c4 => ?_) (fun c4 => ?_)
  · have c4 : 0 = 0 := (q_z_eq (by omega)).mp c4
    refine lv_aload_n hx hb d_Mo_shared_10 rfl (lv_at hl 0 rfl) ?_
    refine lv_iload_n hx hb d_Mo_shared_11 rfl (lv_at hl 1 rfl) ?_
    refine q_callVi (As := [.int (nI v)]) (rest := []) (wsC := [(mo, .inr (5, [.ref r1, .ref r2, .ref r3, .ref r4, .ref r5, .ref r6, .int (md), .int (ck), .int (nI 0)])), (r1, .inl (cZ, 32, .inl (qm_T th))), (r2, .inl (cI, 4096, .inl (qm_P pl))), (r3, .inl (cI, 4096, .inl (mk))), (r4, .inl (cI, 64, .inl (nt))), (r5, .inl (cB, 76800, .inl (bt))), (r6, .inl (cZ, 600, .inl (qm_T us)))]) (wsR := []) (wsC' := [(mo, .inr (5, [.ref r1, .ref r2, .ref r3, .ref r4, .ref r5, .ref r6, .int (md), .int (ck), .int (nI 0)])), (r1, .inl (cZ, 32, .inl (qm_T th))), (r2, .inl (cI, 4096, .inl (qm_P pl))), (r3, .inl (cI, 4096, .inl (mk))), (r4, .inl (cI, 64, .inl (nt))), (r5, .inl (cB, 76800, .inl (bt))), (r6, .inl (cZ, 600, .inl (qm_T us)))]) (wsN := [(mo, .inr (5, [.ref r1, .ref r2, .ref r3, .ref r4, .ref r5, .ref r6, .int (md), .int (ck), .int (nI 0)])), (r1, .inl (cZ, 32, .inl (qm_T th))), (r2, .inl (cI, 4096, .inl (qm_P pl))), (r3, .inl (cI, 4096, .inl (mk))), (r4, .inl (cI, 64, .inl (nt))), (r5, .inl (cB, 76800, .inl (bt))), (r6, .inl (cZ, 600, .inl (qm_T us)))]) (isT := [0, 1, 2]) (isC := [0, 1, 2, 3, 4, 5, 6]) (isR := []) (isN := [0, 1, 2, 3, 4, 5, 6]) (k := 1) (ci := 5) (C := R_Mo) ⟨hx, hb, hml, hown, hts⟩ (c_Mo_isThereY l D cZ cI cB mo r1 r2 r3 r4 r5 r6 th pl mk nt bt us md ck v (by omega) kt) (tw_V ml_Mo_46 im_Mo_isThere se_Mo_isThere in_Mo cd_Mo_isThere) rfl ⟨by decide +kernel, Nat.le_of_ble_eq_true rfl, Nat.le_of_ble_eq_true rfl⟩ ⟨Nat.le_of_ble_eq_true rfl, Nat.le_of_ble_eq_true rfl⟩ hK hP hD hS hA hN rfl ⟨rfl, rfl, rfl, by decide, by decide, by decide, by decide⟩ rfl rfl rfl hl.1 rfl rfl (Nat.le_of_ble_eq_true rfl) d_Mo_shared_12 (fun H locs hP hD hS => ?_)
    refine lv_if_eq (tgt := 25) hx hb d_Mo_shared_15 (by decide) (fun c15 => ?_) (fun c15 => ?_)
    · have c15 : 1 = 0 := (q_z_eq (by omega)).mp c15
      exfalso; omega
    · have c15 : ¬ 1 = 0 := fun h9 => c15 ((q_z_eq (by omega)).mpr h9)
      refine lv_iload_n hx hb d_Mo_shared_18 rfl (lv_at hl 2 rfl) ?_
      refine q_callSi (As := [.int (nI pc)]) (rest := []) (wsC := []) (wsR := [(mo, .inr (5, [.ref r1, .ref r2, .ref r3, .ref r4, .ref r5, .ref r6, .int (md), .int (ck), .int (nI 0)])), (r1, .inl (cZ, 32, .inl (qm_T th))), (r2, .inl (cI, 4096, .inl (qm_P pl))), (r3, .inl (cI, 4096, .inl (mk))), (r4, .inl (cI, 64, .inl (nt))), (r5, .inl (cB, 76800, .inl (bt))), (r6, .inl (cZ, 600, .inl (qm_T us)))]) (wsC' := []) (wsN := [(mo, .inr (5, [.ref r1, .ref r2, .ref r3, .ref r4, .ref r5, .ref r6, .int (md), .int (ck), .int (nI 0)])), (r1, .inl (cZ, 32, .inl (qm_T th))), (r2, .inl (cI, 4096, .inl (qm_P pl))), (r3, .inl (cI, 4096, .inl (mk))), (r4, .inl (cI, 64, .inl (nt))), (r5, .inl (cB, 76800, .inl (bt))), (r6, .inl (cZ, 600, .inl (qm_T us)))]) (isT := []) (isC := []) (isR := [0, 1, 2, 3, 4, 5, 6]) (isN := [0, 1, 2, 3, 4, 5, 6]) (k := 1) ⟨hx, hb, hml, hown, hts⟩ (c_Mo_isPieceY l D pc (by omega)) (tw_S ml_Mo_61 st_Mo_isPiece in_Mo cd_Mo_isPiece) ⟨by decide +kernel, Nat.le_of_ble_eq_true rfl, Nat.le_of_ble_eq_true rfl⟩ ⟨Nat.le_of_ble_eq_true rfl, Nat.le_of_ble_eq_true rfl⟩ hK hP hD hS hA hN rfl ⟨rfl, rfl, rfl, by decide, by decide, by decide, by decide⟩ hl.1 rfl rfl (Nat.le_of_ble_eq_true rfl) d_Mo_shared_19 (fun H locs hP hD hS => ?_)
      refine lv_if_ne (tgt := 27) hx hb d_Mo_shared_22 (by decide) (fun c22 => ?_) (fun c22 => ?_)
      · have c22 : ¬ 1 = 0 := fun h9 => c22 ((q_z_eq (by omega)).mpr h9)
        refine lv_sipush (v := nI 128) hx hb d_Mo_shared_27 (by decide) ?_
        refine lv_iload_n hx hb d_Mo_shared_30 rfl (lv_at hl 1 rfl) ?_
        refine lv_imul hx hb d_Mo_shared_31 ?_
        refine q_ti (y := nI (128 * v)) (pk_mul _ _) ?_
        refine lv_iload_n hx hb d_Mo_shared_32 rfl (lv_at hl 2 rfl) ?_
        refine lv_iadd hx hb d_Mo_shared_33 ?_
        refine q_ti (y := nI (128 * v + pc)) (nI_add _ _) ?_
        refine lv_istore_n (lv' := [(3, .int (nI (128 * v + pc))), (0, .ref mo), (1, .int (nI v)), (2, .int (nI pc))]) hx hb d_Mo_shared_34 rfl hl (by decide) rfl (fun ls hl => ?_)
        refine lv_aload_n hx hb d_Mo_shared_35 rfl (lv_at hl 1 rfl) ?_
        refine va_get (D := D) (ci := 5) (v := .ref r2) (C := R_Mo) (T := F_Mo) (N := 9) hx hb hts i_Mo hown hK hP 0 rfl rfl 1 (by decide) (hts _ fl_Mo_13) (fun _ h9 => h9) rfl d_Mo_shared_36 ?_
        refine lv_iload_n hx hb d_Mo_shared_39 rfl (lv_at hl 0 rfl) ?_
        refine va_iald hx hb hK hP 2 1 rfl rfl (vp_in_nI (by omega) (by decide)) d_Mo_shared_40 ?_
        refine q_ti (y := (qm_P pl) (128 * v + pc)) (by rw [nI_clamp (by omega)]) ?_
        refine lv_if_ge (tgt := 46) hx hb d_Mo_shared_41 (by decide) (fun c41 => ?_) (fun c41 => ?_)
        · have c41 := qm_Pg (kpl _) c41
          refine lv_iconst (v := nI 0) hx hb d_Mo_shared_46 (by decide) ?_
          refine lv_istore (lv' := [(4, .int (nI 0)), (3, .int (nI (128 * v + pc))), (0, .ref mo), (1, .int (nI v)), (2, .int (nI pc))]) hx hb d_Mo_shared_47 hl (by decide) rfl (fun ls hl => ?_)
          refine q_loop (pc := 49) (σ := Unit) (I := fun i u9 H locs ls => va_P D cls [(mo, .inr (5, [.ref r1, .ref r2, .ref r3, .ref r4, .ref r5, .ref r6, .int (md), .int (ck), .int (nI 0)])), (r1, .inl (cZ, 32, .inl (qm_T th))), (r2, .inl (cI, 4096, .inl (qm_P pl))), (r3, .inl (cI, 4096, .inl (mk))), (r4, .inl (cI, 64, .inl (nt))), (r5, .inl (cB, 76800, .inl (bt))), (r6, .inl (cZ, 600, .inl (qm_T us)))] H ∧ va_D A [(mo, .inr (5, [.ref r1, .ref r2, .ref r3, .ref r4, .ref r5, .ref r6, .int (md), .int (ck), .int (nI 0)])), (r1, .inl (cZ, 32, .inl (qm_T th))), (r2, .inl (cI, 4096, .inl (qm_P pl))), (r3, .inl (cI, 4096, .inl (mk))), (r4, .inl (cI, 64, .inl (nt))), (r5, .inl (cB, 76800, .inl (bt))), (r6, .inl (cZ, 600, .inl (qm_T us)))] ∧ va_S A s.heap H locs ∧ lv_has ls 6 [(0, .ref mo), (1, .int (nI v)), (2, .int (nI pc)), (3, .int (nI (128 * v + pc))), (4, .int (nI i))] ∧ (qm_shr pl mk v pc 16 0 = qm_shr pl mk v pc (16 - i) i)) (16) ?_ ?_ (0) (()) _ _ _ (by omega) ⟨hP, hD, hS, lv_sub hl [2, 3, 4, 1, 0] rfl, rfl⟩
          · intro u9 H locs ls hI
            obtain ⟨hP, hD, hS, hl, hF⟩ := hI
            refine lv_iload hx hb d_Mo_shared_49 (lv_at hl 4 rfl) ?_
            refine lv_bipush (v := nI 16) hx hb d_Mo_shared_51 (by decide) ?_
            refine lv_icmp_ge (tgt := 106) hx hb d_Mo_shared_53 (by decide) (fun c53 => ?_) (fun c53 => ?_)
            · have c53 : 16 ≤ 16 := (nI_leI (by omega) (by omega)).mp c53
              refine lv_iconst (v := nI 0) hx hb d_Mo_shared_106 (by decide) ?_
              exact q_iret hx hb hr hlk hK hP hD hS d_Mo_shared_107 (by unfold qm_shared; rw [if_neg c41, hF]; rfl) (rfl)
            · have c53 : ¬ 16 ≤ 16 := fun h9 => c53 ((nI_leI (by omega) (by omega)).mpr h9)
              exfalso; omega
          · intro i u9 H locs ls hi hI ih
            obtain ⟨hP, hD, hS, hl, hF⟩ := hI
            have h7 : 16 - i = (15 - i) + 1 := by omega
            refine lv_iload hx hb d_Mo_shared_49 (lv_at hl 4 rfl) ?_
            refine lv_bipush (v := nI 16) hx hb d_Mo_shared_51 (by decide) ?_
            refine lv_icmp_ge (tgt := 106) hx hb d_Mo_shared_53 (by decide) (fun c53 => ?_) (fun c53 => ?_)
            · have c53 : 16 ≤ i := (nI_leI (by omega) (by omega)).mp c53
              exfalso; omega
            · have c53 : ¬ 16 ≤ i := fun h9 => c53 ((nI_leI (by omega) (by omega)).mpr h9)
              refine lv_sipush (v := nI 128) hx hb d_Mo_shared_56 (by decide) ?_
              refine lv_iload hx hb d_Mo_shared_59 (lv_at hl 4 rfl) ?_
              refine lv_imul hx hb d_Mo_shared_61 ?_
              refine q_ti (y := nI (128 * i)) (pk_mul _ _) ?_
              refine lv_iload_n hx hb d_Mo_shared_62 rfl (lv_at hl 2 rfl) ?_
              refine lv_iadd hx hb d_Mo_shared_63 ?_
              refine q_ti (y := nI (128 * i + pc)) (nI_add _ _) ?_
              refine lv_istore (lv' := [(5, .int (nI (128 * i + pc))), (0, .ref mo), (1, .int (nI v)), (2, .int (nI pc)), (3, .int (nI (128 * v + pc))), (4, .int (nI i))]) hx hb d_Mo_shared_64 hl (by decide) rfl (fun ls hl => ?_)
              refine lv_iload hx hb d_Mo_shared_66 (lv_at hl 5 rfl) ?_
              refine lv_iload_n hx hb d_Mo_shared_68 rfl (lv_at hl 2 rfl) ?_
              refine lv_icmp_eq (tgt := 100) hx hb d_Mo_shared_69 (by decide) (fun c69 => ?_) (fun c69 => ?_)
              · have c69 : i = v := (nI_eq (by omega) (by omega)).mp c69
                refine lv_iinc (v := nI (i + 1)) (lv' := [(4, .int (nI (i + 1))), (5, .int (nI (128 * i + pc))), (0, .ref mo), (1, .int (nI v)), (2, .int (nI pc)), (3, .int (nI (128 * v + pc)))]) hx hb d_Mo_shared_100 hl (k := 5) rfl (nI_1 _) (by decide) rfl (fun ls hl => ?_)
                refine lv_goto (tgt := 49) hx hb d_Mo_shared_103 (by decide) ?_
                exact ih (()) _ _ _ ⟨hP, hD, hS, lv_sub hl [2, 3, 4, 5, 0] rfl, by rw [hF, h7, qm_shr_go (fun q => q.1 c69), show 16 - (i + 1) = 15 - i by omega]⟩
              · have c69 : ¬ i = v := fun h9 => c69 ((nI_eq (by omega) (by omega)).mpr h9)
                refine lv_aload_n hx hb d_Mo_shared_72 rfl (lv_at hl 1 rfl) ?_
                refine va_get (D := D) (ci := 5) (v := .ref r2) (C := R_Mo) (T := F_Mo) (N := 9) hx hb hts i_Mo hown hK hP 0 rfl rfl 1 (by decide) (hts _ fl_Mo_13) (fun _ h9 => h9) rfl d_Mo_shared_73 ?_
                refine lv_iload hx hb d_Mo_shared_76 (lv_at hl 0 rfl) ?_
                refine va_iald hx hb hK hP 2 1 rfl rfl (vp_in_nI (by omega) (by decide)) d_Mo_shared_78 ?_
                refine q_ti (y := (qm_P pl) (128 * i + pc)) (by rw [nI_clamp (by omega)]) ?_
                refine lv_if_lt (tgt := 100) hx hb d_Mo_shared_79 (by decide) (fun c79 => ?_) (fun c79 => ?_)
                · have c79 := qm_Pn (kpl _) c79
                  refine lv_iinc (v := nI (i + 1)) (lv' := [(4, .int (nI (i + 1))), (5, .int (nI (128 * i + pc))), (0, .ref mo), (1, .int (nI v)), (2, .int (nI pc)), (3, .int (nI (128 * v + pc)))]) hx hb d_Mo_shared_100 hl (k := 5) rfl (nI_1 _) (by decide) rfl (fun ls hl => ?_)
                  refine lv_goto (tgt := 49) hx hb d_Mo_shared_103 (by decide) ?_
                  exact ih (()) _ _ _ ⟨hP, hD, hS, lv_sub hl [2, 3, 4, 5, 0] rfl, by rw [hF, h7, qm_shr_go (fun q => q.2.1 c79), show 16 - (i + 1) = 15 - i by omega]⟩
                · have c79 := qm_Pp (kpl _) c79
                  refine lv_aload_n hx hb d_Mo_shared_82 rfl (lv_at hl 1 rfl) ?_
                  refine va_get (D := D) (ci := 5) (v := .ref r3) (C := R_Mo) (T := F_Mo) (N := 9) hx hb hts i_Mo hown hK hP 0 rfl rfl 2 (by decide) (hts _ fl_Mo_17) (fun _ h9 => h9) rfl d_Mo_shared_83 ?_
                  refine lv_iload hx hb d_Mo_shared_86 (lv_at hl 0 rfl) ?_
                  refine va_iald hx hb hK hP 3 1 rfl rfl (vp_in_nI (by omega) (by decide)) d_Mo_shared_88 ?_
                  refine q_ti (y := mk (128 * i + pc)) (by rw [nI_clamp (by omega)]) ?_
                  refine lv_aload_n hx hb d_Mo_shared_89 rfl (lv_at hl 1 rfl) ?_
                  refine va_get (D := D) (ci := 5) (v := .ref r3) (C := R_Mo) (T := F_Mo) (N := 9) hx hb hts i_Mo hown hK hP 0 rfl rfl 2 (by decide) (hts _ fl_Mo_17) (fun _ h9 => h9) rfl d_Mo_shared_90 ?_
                  refine lv_iload_n hx hb d_Mo_shared_93 rfl (lv_at hl 4 rfl) ?_
                  refine va_iald hx hb hK hP 3 1 rfl rfl (vp_in_nI (by omega) (by decide)) d_Mo_shared_94 ?_
                  refine q_ti (y := mk (128 * v + pc)) (by rw [nI_clamp (by omega)]) ?_
                  refine lv_icmp_ne (tgt := 100) hx hb d_Mo_shared_95 (by decide) (fun c95 => ?_) (fun c95 => ?_)
                  · refine lv_iinc (v := nI (i + 1)) (lv' := [(4, .int (nI (i + 1))), (5, .int (nI (128 * i + pc))), (0, .ref mo), (1, .int (nI v)), (2, .int (nI pc)), (3, .int (nI (128 * v + pc)))]) hx hb d_Mo_shared_100 hl (k := 5) rfl (nI_1 _) (by decide) rfl (fun ls hl => ?_)
                    refine lv_goto (tgt := 49) hx hb d_Mo_shared_103 (by decide) ?_
                    exact ih (()) _ _ _ ⟨hP, hD, hS, lv_sub hl [2, 3, 4, 5, 0] rfl, by rw [hF, h7, qm_shr_go (fun q => c95 q.2.2), show 16 - (i + 1) = 15 - i by omega]⟩
                  · refine lv_iconst (v := nI 1) hx hb d_Mo_shared_98 (by decide) ?_
                    exact q_iret hx hb hr hlk hK hP hD hS d_Mo_shared_99 (by unfold qm_shared; rw [if_neg c41, hF, h7, qm_shr_hit ⟨c69, c79, c95⟩]) (rfl)
        · have c41 := qm_Ph (kpl _) c41
          refine lv_iconst (v := nI 0) hx hb d_Mo_shared_44 (by decide) ?_
          exact q_iret hx hb hr hlk hK hP hD hS d_Mo_shared_45 (by unfold qm_shared; rw [if_pos c41]) (rfl)
      · have c22 : 1 = 0 := (q_z_eq (by omega)).mp c22
        exfalso; omega
  · have c4 : ¬ 0 = 0 := fun h9 => c4 ((q_z_eq (by omega)).mpr h9)
    exfalso; omega
set_option maxHeartbeats 4000000 in
set_option maxRecDepth 100000 in
theorem c_Mo_shared_bad (l : Launch) (D : va_G) (cZ : ClassId) (cI : ClassId) (cB : ClassId) (mo : Nat) (r1 : Nat) (r2 : Nat) (r3 : Nat) (r4 : Nat) (r5 : Nat) (r6 : Nat) (th : Nat → Bool) (pl : Nat → Nat) (mk : Nat → Int32) (nt : Nat → Int32) (bt : Nat → Int32) (us : Nat → Bool) (md : Int32) (ck : Int32) (v : Int32) (y : Int32) (kb : ¬ (qm_th th v ∧ qp_in y 128)) : qMi l y_Mo_shared b_Mo_shared 6 (some .int) (rmL 2) D [(cZ, .boolean), (cI, .int), (cB, .byte)] [.ref mo, .int (v), .int (y)] [(mo, .inr (5, [.ref r1, .ref r2, .ref r3, .ref r4, .ref r5, .ref r6, .int (md), .int (ck), .int (nI 0)])), (r1, .inl (cZ, 32, .inl (qm_T th))), (r2, .inl (cI, 4096, .inl (qm_P pl))), (r3, .inl (cI, 4096, .inl (mk))), (r4, .inl (cI, 64, .inl (nt))), (r5, .inl (cB, 76800, .inl (bt))), (r6, .inl (cZ, 600, .inl (qm_T us)))] [(mo, .inr (5, [.ref r1, .ref r2, .ref r3, .ref r4, .ref r5, .ref r6, .int (md), .int (ck), .int (nI 0)])), (r1, .inl (cZ, 32, .inl (qm_T th))), (r2, .inl (cI, 4096, .inl (qm_P pl))), (r3, .inl (cI, 4096, .inl (mk))), (r4, .inl (cI, 64, .inl (nt))), (r5, .inl (cB, 76800, .inl (bt))), (r6, .inl (cZ, 600, .inl (qm_T us)))] ((-1 : Int32)) := by
  refine q_start (Qc := qZi D _ _ _) (by decide +kernel) (Nat.le_of_ble_eq_true rfl) ?_
  intro p e s m below meth c A hx hb hr hlk hml hown hts hK hP hD hS hA hN ls hl
  have hl : lv_has ls 6 [(0, .ref mo), (1, .int (v)), (2, .int (y))] := hl
  have hP : va_P D cls [(mo, .inr (5, [.ref r1, .ref r2, .ref r3, .ref r4, .ref r5, .ref r6, .int (md), .int (ck), .int (nI 0)])), (r1, .inl (cZ, 32, .inl (qm_T th))), (r2, .inl (cI, 4096, .inl (qm_P pl))), (r3, .inl (cI, 4096, .inl (mk))), (r4, .inl (cI, 64, .inl (nt))), (r5, .inl (cB, 76800, .inl (bt))), (r6, .inl (cZ, 600, .inl (qm_T us)))] s.heap := hP
  have hD : va_D A [(mo, .inr (5, [.ref r1, .ref r2, .ref r3, .ref r4, .ref r5, .ref r6, .int (md), .int (ck), .int (nI 0)])), (r1, .inl (cZ, 32, .inl (qm_T th))), (r2, .inl (cI, 4096, .inl (qm_P pl))), (r3, .inl (cI, 4096, .inl (mk))), (r4, .inl (cI, 64, .inl (nt))), (r5, .inl (cB, 76800, .inl (bt))), (r6, .inl (cZ, 600, .inl (qm_T us)))] := hD
  refine lv_aload_n hx hb d_Mo_shared_0 rfl (lv_at hl 0 rfl) ?_
  refine va_get (D := D) (ci := 5) (v := .int (nI 0)) (C := R_Mo) (T := F_Mo) (N := 9) hx hb hts i_Mo hown hK hP 0 rfl rfl 8 (by decide) (hts _ fl_Mo_38) (fun _ h9 => h9) rfl d_Mo_shared_1 ?_
  refine lv_if_eq (tgt := 10) hx hb d_Mo_shared_4 (by decide) (fun c4 => ?_) (fun c4 => ?_)
  · have c4 : 0 = 0 := (q_z_eq (by omega)).mp c4
    refine lv_aload_n hx hb d_Mo_shared_10 rfl (lv_at hl 0 rfl) ?_
    refine lv_iload_n hx hb d_Mo_shared_11 rfl (lv_at hl 1 rfl) ?_
    refine q_callVi (As := [.int (v)]) (rest := []) (wsC := [(mo, .inr (5, [.ref r1, .ref r2, .ref r3, .ref r4, .ref r5, .ref r6, .int (md), .int (ck), .int (nI 0)])), (r1, .inl (cZ, 32, .inl (qm_T th))), (r2, .inl (cI, 4096, .inl (qm_P pl))), (r3, .inl (cI, 4096, .inl (mk))), (r4, .inl (cI, 64, .inl (nt))), (r5, .inl (cB, 76800, .inl (bt))), (r6, .inl (cZ, 600, .inl (qm_T us)))]) (wsR := []) (wsC' := [(mo, .inr (5, [.ref r1, .ref r2, .ref r3, .ref r4, .ref r5, .ref r6, .int (md), .int (ck), .int (nI 0)])), (r1, .inl (cZ, 32, .inl (qm_T th))), (r2, .inl (cI, 4096, .inl (qm_P pl))), (r3, .inl (cI, 4096, .inl (mk))), (r4, .inl (cI, 64, .inl (nt))), (r5, .inl (cB, 76800, .inl (bt))), (r6, .inl (cZ, 600, .inl (qm_T us)))]) (wsN := [(mo, .inr (5, [.ref r1, .ref r2, .ref r3, .ref r4, .ref r5, .ref r6, .int (md), .int (ck), .int (nI 0)])), (r1, .inl (cZ, 32, .inl (qm_T th))), (r2, .inl (cI, 4096, .inl (qm_P pl))), (r3, .inl (cI, 4096, .inl (mk))), (r4, .inl (cI, 64, .inl (nt))), (r5, .inl (cB, 76800, .inl (bt))), (r6, .inl (cZ, 600, .inl (qm_T us)))]) (isT := [0, 1, 2]) (isC := [0, 1, 2, 3, 4, 5, 6]) (isR := []) (isN := [0, 1, 2, 3, 4, 5, 6]) (k := 1) (ci := 5) (C := R_Mo) ⟨hx, hb, hml, hown, hts⟩ (c_Mo_isThere l D cZ cI cB mo r1 r2 r3 r4 r5 r6 th pl mk nt bt us md ck v) (tw_V ml_Mo_46 im_Mo_isThere se_Mo_isThere in_Mo cd_Mo_isThere) rfl ⟨by decide +kernel, Nat.le_of_ble_eq_true rfl, Nat.le_of_ble_eq_true rfl⟩ ⟨Nat.le_of_ble_eq_true rfl, Nat.le_of_ble_eq_true rfl⟩ hK hP hD hS hA hN rfl ⟨rfl, rfl, rfl, by decide, by decide, by decide, by decide⟩ rfl rfl rfl hl.1 rfl rfl (Nat.le_of_ble_eq_true rfl) d_Mo_shared_12 (fun H locs hP hD hS => ?_)
    refine lv_if_eq (tgt := 25) hx hb d_Mo_shared_15 (by decide) (fun c15 => ?_) (fun c15 => ?_)
    · refine lv_iconst (v := (-1 : Int32)) hx hb d_Mo_shared_25 (by decide) ?_
      exact q_iret hx hb hr hlk hK hP hD hS d_Mo_shared_26 (rfl) (rfl)
    · refine lv_iload_n hx hb d_Mo_shared_18 rfl (lv_at hl 2 rfl) ?_
      refine q_callSi (As := [.int (y)]) (rest := []) (wsC := []) (wsR := [(mo, .inr (5, [.ref r1, .ref r2, .ref r3, .ref r4, .ref r5, .ref r6, .int (md), .int (ck), .int (nI 0)])), (r1, .inl (cZ, 32, .inl (qm_T th))), (r2, .inl (cI, 4096, .inl (qm_P pl))), (r3, .inl (cI, 4096, .inl (mk))), (r4, .inl (cI, 64, .inl (nt))), (r5, .inl (cB, 76800, .inl (bt))), (r6, .inl (cZ, 600, .inl (qm_T us)))]) (wsC' := []) (wsN := [(mo, .inr (5, [.ref r1, .ref r2, .ref r3, .ref r4, .ref r5, .ref r6, .int (md), .int (ck), .int (nI 0)])), (r1, .inl (cZ, 32, .inl (qm_T th))), (r2, .inl (cI, 4096, .inl (qm_P pl))), (r3, .inl (cI, 4096, .inl (mk))), (r4, .inl (cI, 64, .inl (nt))), (r5, .inl (cB, 76800, .inl (bt))), (r6, .inl (cZ, 600, .inl (qm_T us)))]) (isT := []) (isC := []) (isR := [0, 1, 2, 3, 4, 5, 6]) (isN := [0, 1, 2, 3, 4, 5, 6]) (k := 1) ⟨hx, hb, hml, hown, hts⟩ (c_Mo_isPiece l D y) (tw_S ml_Mo_61 st_Mo_isPiece in_Mo cd_Mo_isPiece) ⟨by decide +kernel, Nat.le_of_ble_eq_true rfl, Nat.le_of_ble_eq_true rfl⟩ ⟨Nat.le_of_ble_eq_true rfl, Nat.le_of_ble_eq_true rfl⟩ hK hP hD hS hA hN rfl ⟨rfl, rfl, rfl, by decide, by decide, by decide, by decide⟩ hl.1 rfl rfl (Nat.le_of_ble_eq_true rfl) d_Mo_shared_19 (fun H locs hP hD hS => ?_)
      refine lv_if_ne (tgt := 27) hx hb d_Mo_shared_22 (by decide) (fun c22 => ?_) (fun c22 => ?_)
      · exact absurd (⟨qp_b_ne c15, qp_b_ne c22⟩) kb
      · refine lv_iconst (v := (-1 : Int32)) hx hb d_Mo_shared_25 (by decide) ?_
        exact q_iret hx hb hr hlk hK hP hD hS d_Mo_shared_26 (rfl) (rfl)
  · have c4 : ¬ 0 = 0 := fun h9 => c4 ((q_z_eq (by omega)).mpr h9)
    exfalso; omega
set_option maxHeartbeats 4000000 in
set_option maxRecDepth 100000 in
theorem c_Mo_count1 (l : Launch) (D : va_G) (cZ : ClassId) (cI : ClassId) (cB : ClassId) (mo : Nat) (r1 : Nat) (r2 : Nat) (r3 : Nat) (r4 : Nat) (r5 : Nat) (r6 : Nat) (th : Nat → Bool) (pl : Nat → Nat) (mk : Nat → Int32) (nt : Nat → Int32) (bt : Nat → Int32) (us : Nat → Bool) (md : Int32) (ck : Int32) : qMi l y_Mo_count b_Mo_count 4 (some .int) (rmL 1) D [(cZ, .boolean), (cI, .int), (cB, .byte)] [.ref mo, .int (nI 1)] [(mo, .inr (5, [.ref r1, .ref r2, .ref r3, .ref r4, .ref r5, .ref r6, .int (md), .int (ck), .int (nI 0)])), (r1, .inl (cZ, 32, .inl (qm_T th))), (r2, .inl (cI, 4096, .inl (qm_P pl))), (r3, .inl (cI, 4096, .inl (mk))), (r4, .inl (cI, 64, .inl (nt))), (r5, .inl (cB, 76800, .inl (bt))), (r6, .inl (cZ, 600, .inl (qm_T us)))] [(mo, .inr (5, [.ref r1, .ref r2, .ref r3, .ref r4, .ref r5, .ref r6, .int (md), .int (ck), .int (nI 0)])), (r1, .inl (cZ, 32, .inl (qm_T th))), (r2, .inl (cI, 4096, .inl (qm_P pl))), (r3, .inl (cI, 4096, .inl (mk))), (r4, .inl (cI, 64, .inl (nt))), (r5, .inl (cB, 76800, .inl (bt))), (r6, .inl (cZ, 600, .inl (qm_T us)))] (ck) := by
  refine q_start (Qc := qZi D _ _ _) (by decide +kernel) (Nat.le_of_ble_eq_true rfl) ?_
  intro p e s m below meth c A hx hb hr hlk hml hown hts hK hP hD hS hA hN ls hl
  have hl : lv_has ls 4 [(0, .ref mo), (1, .int (nI 1))] := hl
  have hP : va_P D cls [(mo, .inr (5, [.ref r1, .ref r2, .ref r3, .ref r4, .ref r5, .ref r6, .int (md), .int (ck), .int (nI 0)])), (r1, .inl (cZ, 32, .inl (qm_T th))), (r2, .inl (cI, 4096, .inl (qm_P pl))), (r3, .inl (cI, 4096, .inl (mk))), (r4, .inl (cI, 64, .inl (nt))), (r5, .inl (cB, 76800, .inl (bt))), (r6, .inl (cZ, 600, .inl (qm_T us)))] s.heap := hP
  have hD : va_D A [(mo, .inr (5, [.ref r1, .ref r2, .ref r3, .ref r4, .ref r5, .ref r6, .int (md), .int (ck), .int (nI 0)])), (r1, .inl (cZ, 32, .inl (qm_T th))), (r2, .inl (cI, 4096, .inl (qm_P pl))), (r3, .inl (cI, 4096, .inl (mk))), (r4, .inl (cI, 64, .inl (nt))), (r5, .inl (cB, 76800, .inl (bt))), (r6, .inl (cZ, 600, .inl (qm_T us)))] := hD
  refine lv_aload_n hx hb d_Mo_count_0 rfl (lv_at hl 0 rfl) ?_
  refine va_get (D := D) (ci := 5) (v := .int (nI 0)) (C := R_Mo) (T := F_Mo) (N := 9) hx hb hts i_Mo hown hK hP 0 rfl rfl 8 (by decide) (hts _ fl_Mo_38) (fun _ h9 => h9) rfl d_Mo_count_1 ?_
  refine lv_if_eq (tgt := 10) hx hb d_Mo_count_4 (by decide) (fun c4 => ?_) (fun c4 => ?_)
  · have c4 : 0 = 0 := (q_z_eq (by omega)).mp c4
    refine lv_iload_n hx hb d_Mo_count_10 rfl (lv_at hl 1 rfl) ?_
    refine lv_iconst (v := nI 1) hx hb d_Mo_count_11 (by decide) ?_
    refine lv_icmp_ne (tgt := 20) hx hb d_Mo_count_12 (by decide) (fun c12 => ?_) (fun c12 => ?_)
    · have c12 : ¬ 1 = 1 := fun h9 => c12 ((nI_eq (by omega) (by omega)).mpr h9)
      exfalso; omega
    · have c12 : 1 = 1 := (nI_eq (by omega) (by omega)).mp c12
      refine lv_aload_n hx hb d_Mo_count_15 rfl (lv_at hl 0 rfl) ?_
      refine va_get (D := D) (ci := 5) (v := .int (ck)) (C := R_Mo) (T := F_Mo) (N := 9) hx hb hts i_Mo hown hK hP 0 rfl rfl 7 (by decide) (hts _ fl_Mo_34) (fun _ h9 => h9) rfl d_Mo_count_16 ?_
      exact q_iret hx hb hr hlk hK hP hD hS d_Mo_count_19 (rfl) (rfl)
  · have c4 : ¬ 0 = 0 := fun h9 => c4 ((q_z_eq (by omega)).mpr h9)
    exfalso; omega
set_option maxHeartbeats 4000000 in
set_option maxRecDepth 100000 in
theorem c_Mo_count0 (l : Launch) (D : va_G) (cZ : ClassId) (cI : ClassId) (cB : ClassId) (mo : Nat) (r1 : Nat) (r2 : Nat) (r3 : Nat) (r4 : Nat) (r5 : Nat) (r6 : Nat) (th : Nat → Bool) (pl : Nat → Nat) (mk : Nat → Int32) (nt : Nat → Int32) (bt : Nat → Int32) (us : Nat → Bool) (md : Int32) (ck : Int32) : qMi l y_Mo_count b_Mo_count 4 (some .int) (rmL 1) D [(cZ, .boolean), (cI, .int), (cB, .byte)] [.ref mo, .int (nI 0)] [(mo, .inr (5, [.ref r1, .ref r2, .ref r3, .ref r4, .ref r5, .ref r6, .int (md), .int (ck), .int (nI 0)])), (r1, .inl (cZ, 32, .inl (qm_T th))), (r2, .inl (cI, 4096, .inl (qm_P pl))), (r3, .inl (cI, 4096, .inl (mk))), (r4, .inl (cI, 64, .inl (nt))), (r5, .inl (cB, 76800, .inl (bt))), (r6, .inl (cZ, 600, .inl (qm_T us)))] [(mo, .inr (5, [.ref r1, .ref r2, .ref r3, .ref r4, .ref r5, .ref r6, .int (md), .int (ck), .int (nI 0)])), (r1, .inl (cZ, 32, .inl (qm_T th))), (r2, .inl (cI, 4096, .inl (qm_P pl))), (r3, .inl (cI, 4096, .inl (mk))), (r4, .inl (cI, 64, .inl (nt))), (r5, .inl (cB, 76800, .inl (bt))), (r6, .inl (cZ, 600, .inl (qm_T us)))] (nI (qm_tc th (16))) := by
  refine q_start (Qc := qZi D _ _ _) (by decide +kernel) (Nat.le_of_ble_eq_true rfl) ?_
  intro p e s m below meth c A hx hb hr hlk hml hown hts hK hP hD hS hA hN ls hl
  have hl : lv_has ls 4 [(0, .ref mo), (1, .int (nI 0))] := hl
  have hP : va_P D cls [(mo, .inr (5, [.ref r1, .ref r2, .ref r3, .ref r4, .ref r5, .ref r6, .int (md), .int (ck), .int (nI 0)])), (r1, .inl (cZ, 32, .inl (qm_T th))), (r2, .inl (cI, 4096, .inl (qm_P pl))), (r3, .inl (cI, 4096, .inl (mk))), (r4, .inl (cI, 64, .inl (nt))), (r5, .inl (cB, 76800, .inl (bt))), (r6, .inl (cZ, 600, .inl (qm_T us)))] s.heap := hP
  have hD : va_D A [(mo, .inr (5, [.ref r1, .ref r2, .ref r3, .ref r4, .ref r5, .ref r6, .int (md), .int (ck), .int (nI 0)])), (r1, .inl (cZ, 32, .inl (qm_T th))), (r2, .inl (cI, 4096, .inl (qm_P pl))), (r3, .inl (cI, 4096, .inl (mk))), (r4, .inl (cI, 64, .inl (nt))), (r5, .inl (cB, 76800, .inl (bt))), (r6, .inl (cZ, 600, .inl (qm_T us)))] := hD
  refine lv_aload_n hx hb d_Mo_count_0 rfl (lv_at hl 0 rfl) ?_
  refine va_get (D := D) (ci := 5) (v := .int (nI 0)) (C := R_Mo) (T := F_Mo) (N := 9) hx hb hts i_Mo hown hK hP 0 rfl rfl 8 (by decide) (hts _ fl_Mo_38) (fun _ h9 => h9) rfl d_Mo_count_1 ?_
  refine lv_if_eq (tgt := 10) hx hb d_Mo_count_4 (by decide) (fun c4 => ?_) (fun c4 => ?_)
  · have c4 : 0 = 0 := (q_z_eq (by omega)).mp c4
    refine lv_iload_n hx hb d_Mo_count_10 rfl (lv_at hl 1 rfl) ?_
    refine lv_iconst (v := nI 1) hx hb d_Mo_count_11 (by decide) ?_
    refine lv_icmp_ne (tgt := 20) hx hb d_Mo_count_12 (by decide) (fun c12 => ?_) (fun c12 => ?_)
    · have c12 : ¬ 0 = 1 := fun h9 => c12 ((nI_eq (by omega) (by omega)).mpr h9)
      refine lv_iload_n hx hb d_Mo_count_20 rfl (lv_at hl 1 rfl) ?_
      refine lv_if_eq (tgt := 26) hx hb d_Mo_count_21 (by decide) (fun c21 => ?_) (fun c21 => ?_)
      · have c21 : 0 = 0 := (q_z_eq (by omega)).mp c21
        refine lv_iconst (v := nI 0) hx hb d_Mo_count_26 (by decide) ?_
        refine lv_istore_n (lv' := [(2, .int (nI 0)), (0, .ref mo), (1, .int (nI 0))]) hx hb d_Mo_count_27 rfl hl (by decide) rfl (fun ls hl => ?_)
        refine lv_iconst (v := nI 0) hx hb d_Mo_count_28 (by decide) ?_
        refine lv_istore_n (lv' := [(3, .int (nI 0)), (2, .int (nI 0)), (0, .ref mo), (1, .int (nI 0))]) hx hb d_Mo_count_29 rfl hl (by decide) rfl (fun ls hl => ?_)
        refine q_loop (pc := 30) (σ := Unit) (I := fun i u9 H locs ls => va_P D cls [(mo, .inr (5, [.ref r1, .ref r2, .ref r3, .ref r4, .ref r5, .ref r6, .int (md), .int (ck), .int (nI 0)])), (r1, .inl (cZ, 32, .inl (qm_T th))), (r2, .inl (cI, 4096, .inl (qm_P pl))), (r3, .inl (cI, 4096, .inl (mk))), (r4, .inl (cI, 64, .inl (nt))), (r5, .inl (cB, 76800, .inl (bt))), (r6, .inl (cZ, 600, .inl (qm_T us)))] H ∧ va_D A [(mo, .inr (5, [.ref r1, .ref r2, .ref r3, .ref r4, .ref r5, .ref r6, .int (md), .int (ck), .int (nI 0)])), (r1, .inl (cZ, 32, .inl (qm_T th))), (r2, .inl (cI, 4096, .inl (qm_P pl))), (r3, .inl (cI, 4096, .inl (mk))), (r4, .inl (cI, 64, .inl (nt))), (r5, .inl (cB, 76800, .inl (bt))), (r6, .inl (cZ, 600, .inl (qm_T us)))] ∧ va_S A s.heap H locs ∧ lv_has ls 4 [(0, .ref mo), (2, .int (nI (qm_tc th (i)))), (3, .int (nI i))] ∧ (qm_tc th (i) ≤ i)) (16) ?_ ?_ (0) (()) _ _ _ (by omega) ⟨hP, hD, hS, lv_sub hl [2, 1, 0] rfl, Nat.le_refl _⟩
        · intro u9 H locs ls hI
          obtain ⟨hP, hD, hS, hl, hF⟩ := hI
          refine lv_iload_n hx hb d_Mo_count_30 rfl (lv_at hl 2 rfl) ?_
          refine lv_bipush (v := nI 16) hx hb d_Mo_count_31 (by decide) ?_
          refine lv_icmp_ge (tgt := 59) hx hb d_Mo_count_33 (by decide) (fun c33 => ?_) (fun c33 => ?_)
          · have c33 : 16 ≤ 16 := (nI_leI (by omega) (by omega)).mp c33
            refine lv_iload_n hx hb d_Mo_count_59 rfl (lv_at hl 1 rfl) ?_
            exact q_iret hx hb hr hlk hK hP hD hS d_Mo_count_60 (rfl) (rfl)
          · have c33 : ¬ 16 ≤ 16 := fun h9 => c33 ((nI_leI (by omega) (by omega)).mpr h9)
            exfalso; omega
        · intro i u9 H locs ls hi hI ih
          obtain ⟨hP, hD, hS, hl, hF⟩ := hI
          refine lv_iload_n hx hb d_Mo_count_30 rfl (lv_at hl 2 rfl) ?_
          refine lv_bipush (v := nI 16) hx hb d_Mo_count_31 (by decide) ?_
          refine lv_icmp_ge (tgt := 59) hx hb d_Mo_count_33 (by decide) (fun c33 => ?_) (fun c33 => ?_)
          · have c33 : 16 ≤ i := (nI_leI (by omega) (by omega)).mp c33
            exfalso; omega
          · have c33 : ¬ 16 ≤ i := fun h9 => c33 ((nI_leI (by omega) (by omega)).mpr h9)
            refine lv_iload_n hx hb d_Mo_count_36 rfl (lv_at hl 1 rfl) ?_
            refine lv_aload_n hx hb d_Mo_count_37 rfl (lv_at hl 0 rfl) ?_
            refine va_get (D := D) (ci := 5) (v := .ref r1) (C := R_Mo) (T := F_Mo) (N := 9) hx hb hts i_Mo hown hK hP 0 rfl rfl 0 (by decide) (hts _ fl_Mo_7) (fun _ h9 => h9) rfl d_Mo_count_38 ?_
            refine lv_iload_n hx hb d_Mo_count_41 rfl (lv_at hl 2 rfl) ?_
            refine va_zald hx hb hK hP 1 0 rfl rfl (vp_in_nI (by omega) (by decide)) d_Mo_count_42 ?_
            refine q_ti (y := (qm_T th) (i)) (by rw [nI_clamp (by omega)]) ?_
            refine lv_if_eq (tgt := 50) hx hb d_Mo_count_43 (by decide) (fun c43 => ?_) (fun c43 => ?_)
            · have c43 := qm_T0 c43
              refine lv_iconst (v := nI 0) hx hb d_Mo_count_50 (by decide) ?_
              refine lv_iadd hx hb d_Mo_count_51 ?_
              refine q_ti (y := nI (qm_tc th (i) + 0)) (nI_add _ _) ?_
              refine lv_istore_n (lv' := [(2, .int (nI (qm_tc th (i) + 0))), (0, .ref mo), (3, .int (nI i))]) hx hb d_Mo_count_52 rfl hl (by decide) rfl (fun ls hl => ?_)
              refine lv_iinc (v := nI (i + 1)) (lv' := [(3, .int (nI (i + 1))), (2, .int (nI (qm_tc th (i) + 0))), (0, .ref mo)]) hx hb d_Mo_count_53 hl (k := 2) rfl (nI_1 _) (by decide) rfl (fun ls hl => ?_)
              refine lv_goto (tgt := 30) hx hb d_Mo_count_56 (by decide) ?_
              exact ih (()) _ _ _ ⟨(by first | exact hP | (rw [qm_tc_z c43]; exact hP)), (by first | exact hD | (rw [qm_tc_z c43]; exact hD)), hS, (by first | exact lv_sub hl [2, 1, 0] rfl | (rw [qm_tc_z c43]; exact lv_sub hl [2, 1, 0] rfl)), by rw [qm_tc_z c43]; omega⟩
            · have c43 := qm_T1 c43
              refine lv_iconst (v := nI 1) hx hb d_Mo_count_46 (by decide) ?_
              refine lv_goto (tgt := 51) hx hb d_Mo_count_47 (by decide) ?_
              refine lv_iadd hx hb d_Mo_count_51 ?_
              refine q_ti (y := nI (qm_tc th (i) + 1)) (nI_add _ _) ?_
              refine lv_istore_n (lv' := [(2, .int (nI (qm_tc th (i) + 1))), (0, .ref mo), (3, .int (nI i))]) hx hb d_Mo_count_52 rfl hl (by decide) rfl (fun ls hl => ?_)
              refine lv_iinc (v := nI (i + 1)) (lv' := [(3, .int (nI (i + 1))), (2, .int (nI (qm_tc th (i) + 1))), (0, .ref mo)]) hx hb d_Mo_count_53 hl (k := 2) rfl (nI_1 _) (by decide) rfl (fun ls hl => ?_)
              refine lv_goto (tgt := 30) hx hb d_Mo_count_56 (by decide) ?_
              exact ih (()) _ _ _ ⟨(by first | exact hP | (rw [qm_tc_n c43]; exact hP)), (by first | exact hD | (rw [qm_tc_n c43]; exact hD)), hS, (by first | exact lv_sub hl [2, 1, 0] rfl | (rw [qm_tc_n c43]; exact lv_sub hl [2, 1, 0] rfl)), by rw [qm_tc_n c43]; omega⟩
      · have c21 : ¬ 0 = 0 := fun h9 => c21 ((q_z_eq (by omega)).mpr h9)
        exfalso; omega
    · have c12 : 0 = 1 := (nI_eq (by omega) (by omega)).mp c12
      exfalso; omega
  · have c4 : ¬ 0 = 0 := fun h9 => c4 ((q_z_eq (by omega)).mpr h9)
    exfalso; omega
set_option maxHeartbeats 4000000 in
set_option maxRecDepth 100000 in
theorem c_Mo_count_bad (l : Launch) (D : va_G) (cZ : ClassId) (cI : ClassId) (cB : ClassId) (mo : Nat) (r1 : Nat) (r2 : Nat) (r3 : Nat) (r4 : Nat) (r5 : Nat) (r6 : Nat) (th : Nat → Bool) (pl : Nat → Nat) (mk : Nat → Int32) (nt : Nat → Int32) (bt : Nat → Int32) (us : Nat → Bool) (md : Int32) (ck : Int32) (w : Int32) (k0 : ¬ w = 0) (k1 : ¬ w = nI 1) : qMi l y_Mo_count b_Mo_count 4 (some .int) (rmL 1) D [(cZ, .boolean), (cI, .int), (cB, .byte)] [.ref mo, .int (w)] [(mo, .inr (5, [.ref r1, .ref r2, .ref r3, .ref r4, .ref r5, .ref r6, .int (md), .int (ck), .int (nI 0)])), (r1, .inl (cZ, 32, .inl (qm_T th))), (r2, .inl (cI, 4096, .inl (qm_P pl))), (r3, .inl (cI, 4096, .inl (mk))), (r4, .inl (cI, 64, .inl (nt))), (r5, .inl (cB, 76800, .inl (bt))), (r6, .inl (cZ, 600, .inl (qm_T us)))] [(mo, .inr (5, [.ref r1, .ref r2, .ref r3, .ref r4, .ref r5, .ref r6, .int (md), .int (ck), .int (nI 0)])), (r1, .inl (cZ, 32, .inl (qm_T th))), (r2, .inl (cI, 4096, .inl (qm_P pl))), (r3, .inl (cI, 4096, .inl (mk))), (r4, .inl (cI, 64, .inl (nt))), (r5, .inl (cB, 76800, .inl (bt))), (r6, .inl (cZ, 600, .inl (qm_T us)))] ((-1 : Int32)) := by
  refine q_start (Qc := qZi D _ _ _) (by decide +kernel) (Nat.le_of_ble_eq_true rfl) ?_
  intro p e s m below meth c A hx hb hr hlk hml hown hts hK hP hD hS hA hN ls hl
  have hl : lv_has ls 4 [(0, .ref mo), (1, .int (w))] := hl
  have hP : va_P D cls [(mo, .inr (5, [.ref r1, .ref r2, .ref r3, .ref r4, .ref r5, .ref r6, .int (md), .int (ck), .int (nI 0)])), (r1, .inl (cZ, 32, .inl (qm_T th))), (r2, .inl (cI, 4096, .inl (qm_P pl))), (r3, .inl (cI, 4096, .inl (mk))), (r4, .inl (cI, 64, .inl (nt))), (r5, .inl (cB, 76800, .inl (bt))), (r6, .inl (cZ, 600, .inl (qm_T us)))] s.heap := hP
  have hD : va_D A [(mo, .inr (5, [.ref r1, .ref r2, .ref r3, .ref r4, .ref r5, .ref r6, .int (md), .int (ck), .int (nI 0)])), (r1, .inl (cZ, 32, .inl (qm_T th))), (r2, .inl (cI, 4096, .inl (qm_P pl))), (r3, .inl (cI, 4096, .inl (mk))), (r4, .inl (cI, 64, .inl (nt))), (r5, .inl (cB, 76800, .inl (bt))), (r6, .inl (cZ, 600, .inl (qm_T us)))] := hD
  refine lv_aload_n hx hb d_Mo_count_0 rfl (lv_at hl 0 rfl) ?_
  refine va_get (D := D) (ci := 5) (v := .int (nI 0)) (C := R_Mo) (T := F_Mo) (N := 9) hx hb hts i_Mo hown hK hP 0 rfl rfl 8 (by decide) (hts _ fl_Mo_38) (fun _ h9 => h9) rfl d_Mo_count_1 ?_
  refine lv_if_eq (tgt := 10) hx hb d_Mo_count_4 (by decide) (fun c4 => ?_) (fun c4 => ?_)
  · have c4 : 0 = 0 := (q_z_eq (by omega)).mp c4
    refine lv_iload_n hx hb d_Mo_count_10 rfl (lv_at hl 1 rfl) ?_
    refine lv_iconst (v := nI 1) hx hb d_Mo_count_11 (by decide) ?_
    refine lv_icmp_ne (tgt := 20) hx hb d_Mo_count_12 (by decide) (fun c12 => ?_) (fun c12 => ?_)
    · refine lv_iload_n hx hb d_Mo_count_20 rfl (lv_at hl 1 rfl) ?_
      refine lv_if_eq (tgt := 26) hx hb d_Mo_count_21 (by decide) (fun c21 => ?_) (fun c21 => ?_)
      · exact absurd c21 k0
      · refine lv_iconst (v := (-1 : Int32)) hx hb d_Mo_count_24 (by decide) ?_
        exact q_iret hx hb hr hlk hK hP hD hS d_Mo_count_25 (rfl) (rfl)
    · exact absurd c12 k1
  · have c4 : ¬ 0 = 0 := fun h9 => c4 ((q_z_eq (by omega)).mpr h9)
    exfalso; omega
