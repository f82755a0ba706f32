/-! THE LAW: what the walk of each case needs, and the walks -/
theorem qJ.up {cI cJ cZ cI2 cB : ClassId} {tp mo J : Nat} {wv wm : va_W} (h : qJ cI cJ cZ cI2 cB tp mo J wv wm) : qJ cI cJ cZ cI2 cB tp mo (J + 1) wv wm := by
  obtain ⟨tr, t0, t1, h, a, h2, a2, au, mt, d0, d1, r1, r2, r3, r4, r5, r6, hd, f, g, met, th, pl, mk, nt, bt, us, mm, kc, hc⟩ := h
  refine ⟨tr, t0, t1, h, a, h2, a2, au, mt, d0, d1, r1, r2, r3, r4, r5, r6, hd, f, g, met, th, pl, mk, nt, bt, us, mm, kc, ?_⟩
  rcases hc with ⟨e1, e2, S⟩ | ⟨e1, e2, S⟩ | ⟨e1, e2, S⟩ | ⟨e1, e2, S⟩
  · exact Or.inl ⟨e1, e2, S.up (by omega)⟩
  · exact Or.inr (Or.inl ⟨e1, e2, S.up (by omega)⟩)
  · exact Or.inr (Or.inr (Or.inl ⟨e1, e2, S.up (by omega)⟩))
  · exact Or.inr (Or.inr (Or.inr ⟨e1, e2, S.up (by omega)⟩))
theorem qJ.form {cI cJ cZ cI2 cB : ClassId} {tp mo J : Nat} {wv wm : va_W} (h : qJ cI cJ cZ cI2 cB tp mo J wv wm) : ∃ (fs : List Value) (x1 x2 x3 x4 x5 x6 x7 x8 x9 x10 x11 : Nat × va_E) (gs : List Value) (y1 y2 y3 y4 y5 y6 : Nat × va_E), wv = [(tp, .inr (4, fs)), x1, x2, x3, x4, x5, x6, x7, x8, x9, x10, x11] ∧ wm = [(mo, .inr (5, gs)), y1, y2, y3, y4, y5, y6] := by
  obtain ⟨tr, t0, t1, h, a, h2, a2, au, mt, d0, d1, r1, r2, r3, r4, r5, r6, hd, f, g, met, th, pl, mk, nt, bt, us, mm, kc, hc⟩ := h
  rcases hc with ⟨rfl, rfl, S⟩ | ⟨rfl, rfl, S⟩ | ⟨rfl, rfl, S⟩ | ⟨rfl, rfl, S⟩
  · exact ⟨_, _, _, _, _, _, _, _, _, _, _, _, _, _, _, _, _, _, _, rfl, rfl⟩
  · exact ⟨_, _, _, _, _, _, _, _, _, _, _, _, _, _, _, _, _, _, _, rfl, rfl⟩
  · exact ⟨_, _, _, _, _, _, _, _, _, _, _, _, _, _, _, _, _, _, _, rfl, rfl⟩
  · exact ⟨_, _, _, _, _, _, _, _, _, _, _, _, _, _, _, _, _, _, _, rfl, rfl⟩
section LW
variable {p : Program} {l : Launch} {e : Env} {s : State} {m : MethodId} {below : List Frame} {meth : Method} {c : Code} {b L : Nat} {xs : Nat → Int32} {D : va_G} {cI cJ cZ cI2 cB : ClassId} {tp mo J i : Nat} {wv wm : va_W} {H : Heap} {locs : List Loc} {cells slots : Nat} {Q : State → Prop} {ls : Array Slot}
set_option maxHeartbeats 4000000 in
set_option maxRecDepth 100000 in
theorem law_lay (hx : p.tables.exec = Jvm.exec) (hb : c.code = code) (hml : c.maxLocals = 4) (hown : s.vm.findClass R_Lw = some m.cls) (hts : ∀ w ∈ lw_gd, w.before #[Value.ref b] s = true) (hX : va_X b L xs s s.heap) (hbl : b < s.heap.size) (hL : L ≤ 3072) (hN : qN s) (hK : va_K D cls [(cI, .int), (cJ, .long), (cZ, .boolean), (cI2, .int), (cB, .byte)] s) (hJ : qJ cI cJ cZ cI2 cB tp mo J wv wm) (hJ2 : J < 2 ^ 30) (hi : i + 6 ≤ L) (hP : va_P D cls (wv ++ wm) H) (hD : va_D (fun q : Nat => s.heap.size ≤ q) (wv ++ wm)) (hS : va_S (fun q : Nat => s.heap.size ≤ q) s.heap H locs) (hl : lv_has ls 4 [(0, .ref b), (1, .ref tp), (2, .ref mo), (3, .int (nI i))]) (hc : cells + 1 ≤ 600000 ∧ slots + 2 ≤ 7302250) (kk : ∀ (wv' wm' : va_W) (H' : Heap) (locs' : List Loc), qJ cI cJ cZ cI2 cB tp mo (J + 1) wv' wm' → va_P D cls (wv' ++ wm') H' → va_D (fun q : Nat => s.heap.size ≤ q) (wv' ++ wm') → va_S (fun q : Nat => s.heap.size ≤ q) s.heap H' locs' → W p l e room_1 s m #[Value.ref b] below meth c H' locs' (cells + 1) (slots + 2) Q (F0 m 627 ls [])) : W p l e room_1 s m #[Value.ref b] below meth c H locs cells slots Q (F0 m 116 ls []) := by
  have hA : ∀ q : Nat, s.heap.size ≤ q → (fun q : Nat => s.heap.size ≤ q) q := fun _ h => h
  have hbA : ¬ (fun q : Nat => s.heap.size ≤ q) b := Nat.not_le.mpr hbl
  have R1 : room_1.frames = 2048 := rfl
  have R2 : room_1.cells = 600000 := rfl
  have R3 : room_1.slots = 7302250 := rfl
  have R4 : room_1.locals = 84000 := rfl
  obtain ⟨rm, rm2, r, wv', wm', ⟨q1, q2, q3, q4⟩, ⟨z1, z2, z3, z4⟩, m1, m2, hJ'⟩ := qOp_lay l D  cI cJ cZ cI2 cB tp mo J wv wm hJ2 hJ
  obtain ⟨fs, x1, x2, x3, x4, x5, x6, x7, x8, x9, x10, x11, gs, y1, y2, y3, y4, y5, y6, rfl, rfl⟩ := hJ.form
  obtain ⟨fs', x1', x2', x3', x4', x5', x6', x7', x8', x9', x10', x11', gs', y1', y2', y3', y4', y5', y6', rfl, rfl⟩ := hJ'.form
  have hP : va_P D cls [(tp, .inr (4, fs)), x1, x2, x3, x4, x5, x6, x7, x8, x9, x10, x11, (mo, .inr (5, gs)), y1, y2, y3, y4, y5, y6] H := hP
  have hD : va_D (fun q : Nat => s.heap.size ≤ q) [(tp, .inr (4, fs)), x1, x2, x3, x4, x5, x6, x7, x8, x9, x10, x11, (mo, .inr (5, gs)), y1, y2, y3, y4, y5, y6] := hD
  refine lv_aload_n hx hb d_Lw_law_116 rfl (lv_at hl 1 rfl) ?_
  refine q_callVi (As := []) (rest := []) (wsC := [(tp, .inr (4, fs)), x1, x2, x3, x4, x5, x6, x7, x8, x9, x10, x11]) (wsR := [(mo, .inr (5, gs)), y1, y2, y3, y4, y5, y6]) (wsC' := [(tp, .inr (4, fs')), x1', x2', x3', x4', x5', x6', x7', x8', x9', x10', x11']) (wsN := [(tp, .inr (4, fs')), x1', x2', x3', x4', x5', x6', x7', x8', x9', x10', x11', (mo, .inr (5, gs)), y1, y2, y3, y4, y5, y6]) (isT := [0, 1]) (isC := [0, 1, 2, 3, 4, 5, 6, 7, 8, 9, 10, 11]) (isR := [12, 13, 14, 15, 16, 17, 18]) (isN := [7, 8, 9, 10, 11, 12, 13, 14, 15, 16, 17, 18, 0, 1, 2, 3, 4, 5, 6]) (k := 0) (ci := 4) (C := R_Tp) ⟨hx, hb, hml, hown, hts⟩ m1 (tw_V ml_Lw_13 im_Tp_lay se_Tp_lay in_Tp cd_Tp_lay) rfl ⟨by decide +kernel, by omega, by omega⟩ ⟨by omega, by omega⟩ hK hP hD hS hA hN rfl ⟨rfl, rfl, rfl, by decide, by decide, by decide, by decide⟩ rfl rfl rfl hl.1 rfl rfl (Nat.le_of_ble_eq_true rfl) d_Lw_law_117 (fun H locs hP hD hS => ?_)
  have hP : va_P D cls [(tp, .inr (4, fs')), x1', x2', x3', x4', x5', x6', x7', x8', x9', x10', x11', (mo, .inr (5, gs)), y1, y2, y3, y4, y5, y6] H := hP
  have hD : va_D (fun q : Nat => s.heap.size ≤ q) [(tp, .inr (4, fs')), x1', x2', x3', x4', x5', x6', x7', x8', x9', x10', x11', (mo, .inr (5, gs)), y1, y2, y3, y4, y5, y6] := hD
  refine lv_aload_n hx hb d_Lw_law_120 rfl (lv_at hl 2 rfl) ?_
  refine q_callVi (As := []) (rest := [.int r]) (wsC := [(mo, .inr (5, gs)), y1, y2, y3, y4, y5, y6]) (wsR := [(tp, .inr (4, fs')), x1', x2', x3', x4', x5', x6', x7', x8', x9', x10', x11']) (wsC' := [(mo, .inr (5, gs')), y1', y2', y3', y4', y5', y6']) (wsN := [(tp, .inr (4, fs')), x1', x2', x3', x4', x5', x6', x7', x8', x9', x10', x11', (mo, .inr (5, gs')), y1', y2', y3', y4', y5', y6']) (isT := [2, 3, 4]) (isC := [12, 13, 14, 15, 16, 17, 18]) (isR := [0, 1, 2, 3, 4, 5, 6, 7, 8, 9, 10, 11]) (isN := [0, 1, 2, 3, 4, 5, 6, 7, 8, 9, 10, 11, 12, 13, 14, 15, 16, 17, 18]) (k := 0) (ci := 5) (C := R_Mo) ⟨hx, hb, hml, hown, hts⟩ m2 (tw_V ml_Lw_17 im_Mo_lay se_Mo_lay in_Mo cd_Mo_lay) rfl ⟨by decide +kernel, by omega, by omega⟩ ⟨by omega, by omega⟩ hK hP hD hS hA hN rfl ⟨rfl, rfl, rfl, by decide, by decide, by decide, by decide⟩ rfl rfl rfl hl.1 rfl rfl (Nat.le_of_ble_eq_true rfl) d_Lw_law_121 (fun H locs hP hD hS => ?_)
  refine lv_icmp_eq (tgt := 627) hx hb d_Lw_law_124 (by decide) (fun _ => ?_) (fun cz => absurd rfl cz)
  refine W.widen (k := cells + 1) (n := slots + 2) (by omega) (by omega) ?_
  exact kk _ _ H locs hJ' hP hD hS
set_option maxHeartbeats 4000000 in
set_option maxRecDepth 100000 in
theorem law_make (hx : p.tables.exec = Jvm.exec) (hb : c.code = code) (hml : c.maxLocals = 4) (hown : s.vm.findClass R_Lw = some m.cls) (hts : ∀ w ∈ lw_gd, w.before #[Value.ref b] s = true) (hX : va_X b L xs s s.heap) (hbl : b < s.heap.size) (hL : L ≤ 3072) (hN : qN s) (hK : va_K D cls [(cI, .int), (cJ, .long), (cZ, .boolean), (cI2, .int), (cB, .byte)] s) (hJ : qJ cI cJ cZ cI2 cB tp mo J wv wm) (hJ2 : J < 2 ^ 30) (hi : i + 6 ≤ L) (hP : va_P D cls (wv ++ wm) H) (hD : va_D (fun q : Nat => s.heap.size ≤ q) (wv ++ wm)) (hS : va_S (fun q : Nat => s.heap.size ≤ q) s.heap H locs) (hl : lv_has ls 4 [(0, .ref b), (1, .ref tp), (2, .ref mo), (3, .int (nI i))]) (hc : cells + 1 ≤ 600000 ∧ slots + 2 ≤ 7302250) (kk : ∀ (wv' wm' : va_W) (H' : Heap) (locs' : List Loc), qJ cI cJ cZ cI2 cB tp mo (J + 1) wv' wm' → va_P D cls (wv' ++ wm') H' → va_D (fun q : Nat => s.heap.size ≤ q) (wv' ++ wm') → va_S (fun q : Nat => s.heap.size ≤ q) s.heap H' locs' → W p l e room_1 s m #[Value.ref b] below meth c H' locs' (cells + 1) (slots + 2) Q (F0 m 627 ls [])) : W p l e room_1 s m #[Value.ref b] below meth c H locs cells slots Q (F0 m 129 ls []) := by
  have hA : ∀ q : Nat, s.heap.size ≤ q → (fun q : Nat => s.heap.size ≤ q) q := fun _ h => h
  have hbA : ¬ (fun q : Nat => s.heap.size ≤ q) b := Nat.not_le.mpr hbl
  have R1 : room_1.frames = 2048 := rfl
  have R2 : room_1.cells = 600000 := rfl
  have R3 : room_1.slots = 7302250 := rfl
  have R4 : room_1.locals = 84000 := rfl
  obtain ⟨rm, rm2, r, wv', wm', ⟨q1, q2, q3, q4⟩, ⟨z1, z2, z3, z4⟩, m1, m2, hJ'⟩ := qOp_make l D (xs (i + 1)) cI cJ cZ cI2 cB tp mo J wv wm hJ2 hJ
  obtain ⟨fs, x1, x2, x3, x4, x5, x6, x7, x8, x9, x10, x11, gs, y1, y2, y3, y4, y5, y6, rfl, rfl⟩ := hJ.form
  obtain ⟨fs', x1', x2', x3', x4', x5', x6', x7', x8', x9', x10', x11', gs', y1', y2', y3', y4', y5', y6', rfl, rfl⟩ := hJ'.form
  have hP : va_P D cls [(tp, .inr (4, fs)), x1, x2, x3, x4, x5, x6, x7, x8, x9, x10, x11, (mo, .inr (5, gs)), y1, y2, y3, y4, y5, y6] H := hP
  have hD : va_D (fun q : Nat => s.heap.size ≤ q) [(tp, .inr (4, fs)), x1, x2, x3, x4, x5, x6, x7, x8, x9, x10, x11, (mo, .inr (5, gs)), y1, y2, y3, y4, y5, y6] := hD
  refine lv_aload_n hx hb d_Lw_law_129 rfl (lv_at hl 1 rfl) ?_
  refine lv_aload_n hx hb d_Lw_law_130 rfl (lv_at hl 0 rfl) ?_
  refine lv_iload_n hx hb d_Lw_law_131 rfl (lv_at hl 3 rfl) ?_
  refine lv_iconst (v := nI 1) hx hb d_Lw_law_132 (by decide) ?_
  refine lv_iadd hx hb d_Lw_law_133 ?_
  refine q_ti (y := nI (i + 1)) (nI_add _ _) ?_
  refine va_sld hx hb hX hbl hbA hS (vp_in_nI (show i + 1 < L by omega) (by omega)) d_Lw_law_134 ?_
  refine q_ti (y := xs (i + 1)) (by rw [nI_clamp (by omega)]) ?_
  refine q_callVi (As := [.int (xs (i + 1))]) (rest := []) (wsC := [(tp, .inr (4, fs)), x1, x2, x3, x4, x5, x6, x7, x8, x9, x10, x11]) (wsR := [(mo, .inr (5, gs)), y1, y2, y3, y4, y5, y6]) (wsC' := [(tp, .inr (4, fs')), x1', x2', x3', x4', x5', x6', x7', x8', x9', x10', x11']) (wsN := [(tp, .inr (4, fs')), x1', x2', x3', x4', x5', x6', x7', x8', x9', x10', x11', (mo, .inr (5, gs)), y1, y2, y3, y4, y5, y6]) (isT := [0, 1]) (isC := [0, 1, 2, 3, 4, 5, 6, 7, 8, 9, 10, 11]) (isR := [12, 13, 14, 15, 16, 17, 18]) (isN := [7, 8, 9, 10, 11, 12, 13, 14, 15, 16, 17, 18, 0, 1, 2, 3, 4, 5, 6]) (k := 1) (ci := 4) (C := R_Tp) ⟨hx, hb, hml, hown, hts⟩ m1 (tw_V ml_Lw_18 im_Tp_make se_Tp_make in_Tp cd_Tp_make) rfl ⟨by decide +kernel, by omega, by omega⟩ ⟨by omega, by omega⟩ hK hP hD hS hA hN rfl ⟨rfl, rfl, rfl, by decide, by decide, by decide, by decide⟩ rfl rfl rfl hl.1 rfl rfl (Nat.le_of_ble_eq_true rfl) d_Lw_law_135 (fun H locs hP hD hS => ?_)
  have hP : va_P D cls [(tp, .inr (4, fs')), x1', x2', x3', x4', x5', x6', x7', x8', x9', x10', x11', (mo, .inr (5, gs)), y1, y2, y3, y4, y5, y6] H := hP
  have hD : va_D (fun q : Nat => s.heap.size ≤ q) [(tp, .inr (4, fs')), x1', x2', x3', x4', x5', x6', x7', x8', x9', x10', x11', (mo, .inr (5, gs)), y1, y2, y3, y4, y5, y6] := hD
  refine lv_aload_n hx hb d_Lw_law_138 rfl (lv_at hl 2 rfl) ?_
  refine lv_aload_n hx hb d_Lw_law_139 rfl (lv_at hl 0 rfl) ?_
  refine lv_iload_n hx hb d_Lw_law_140 rfl (lv_at hl 3 rfl) ?_
  refine lv_iconst (v := nI 1) hx hb d_Lw_law_141 (by decide) ?_
  refine lv_iadd hx hb d_Lw_law_142 ?_
  refine q_ti (y := nI (i + 1)) (nI_add _ _) ?_
  refine va_sld hx hb hX hbl hbA hS (vp_in_nI (show i + 1 < L by omega) (by omega)) d_Lw_law_143 ?_
  refine q_ti (y := xs (i + 1)) (by rw [nI_clamp (by omega)]) ?_
  refine q_callVi (As := [.int (xs (i + 1))]) (rest := [.int r]) (wsC := [(mo, .inr (5, gs)), y1, y2, y3, y4, y5, y6]) (wsR := [(tp, .inr (4, fs')), x1', x2', x3', x4', x5', x6', x7', x8', x9', x10', x11']) (wsC' := [(mo, .inr (5, gs')), y1', y2', y3', y4', y5', y6']) (wsN := [(tp, .inr (4, fs')), x1', x2', x3', x4', x5', x6', x7', x8', x9', x10', x11', (mo, .inr (5, gs')), y1', y2', y3', y4', y5', y6']) (isT := [2, 3, 4]) (isC := [12, 13, 14, 15, 16, 17, 18]) (isR := [0, 1, 2, 3, 4, 5, 6, 7, 8, 9, 10, 11]) (isN := [0, 1, 2, 3, 4, 5, 6, 7, 8, 9, 10, 11, 12, 13, 14, 15, 16, 17, 18]) (k := 1) (ci := 5) (C := R_Mo) ⟨hx, hb, hml, hown, hts⟩ m2 (tw_V ml_Lw_22 im_Mo_make se_Mo_make in_Mo cd_Mo_make) rfl ⟨by decide +kernel, by omega, by omega⟩ ⟨by omega, by omega⟩ hK hP hD hS hA hN rfl ⟨rfl, rfl, rfl, by decide, by decide, by decide, by decide⟩ rfl rfl rfl hl.1 rfl rfl (Nat.le_of_ble_eq_true rfl) d_Lw_law_144 (fun H locs hP hD hS => ?_)
  refine lv_icmp_eq (tgt := 627) hx hb d_Lw_law_147 (by decide) (fun _ => ?_) (fun cz => absurd rfl cz)
  refine W.widen (k := cells + 1) (n := slots + 2) (by omega) (by omega) ?_
  exact kk _ _ H locs hJ' hP hD hS
set_option maxHeartbeats 4000000 in
set_option maxRecDepth 100000 in
theorem law_snap (hx : p.tables.exec = Jvm.exec) (hb : c.code = code) (hml : c.maxLocals = 4) (hown : s.vm.findClass R_Lw = some m.cls) (hts : ∀ w ∈ lw_gd, w.before #[Value.ref b] s = true) (hX : va_X b L xs s s.heap) (hbl : b < s.heap.size) (hL : L ≤ 3072) (hN : qN s) (hK : va_K D cls [(cI, .int), (cJ, .long), (cZ, .boolean), (cI2, .int), (cB, .byte)] s) (hJ : qJ cI cJ cZ cI2 cB tp mo J wv wm) (hJ2 : J < 2 ^ 30) (hi : i + 6 ≤ L) (hP : va_P D cls (wv ++ wm) H) (hD : va_D (fun q : Nat => s.heap.size ≤ q) (wv ++ wm)) (hS : va_S (fun q : Nat => s.heap.size ≤ q) s.heap H locs) (hl : lv_has ls 4 [(0, .ref b), (1, .ref tp), (2, .ref mo), (3, .int (nI i))]) (hc : cells + 1 ≤ 600000 ∧ slots + 2 ≤ 7302250) (kk : ∀ (wv' wm' : va_W) (H' : Heap) (locs' : List Loc), qJ cI cJ cZ cI2 cB tp mo (J + 1) wv' wm' → va_P D cls (wv' ++ wm') H' → va_D (fun q : Nat => s.heap.size ≤ q) (wv' ++ wm') → va_S (fun q : Nat => s.heap.size ≤ q) s.heap H' locs' → W p l e room_1 s m #[Value.ref b] below meth c H' locs' (cells + 1) (slots + 2) Q (F0 m 627 ls [])) : W p l e room_1 s m #[Value.ref b] below meth c H locs cells slots Q (F0 m 152 ls []) := by
  have hA : ∀ q : Nat, s.heap.size ≤ q → (fun q : Nat => s.heap.size ≤ q) q := fun _ h => h
  have hbA : ¬ (fun q : Nat => s.heap.size ≤ q) b := Nat.not_le.mpr hbl
  have R1 : room_1.frames = 2048 := rfl
  have R2 : room_1.cells = 600000 := rfl
  have R3 : room_1.slots = 7302250 := rfl
  have R4 : room_1.locals = 84000 := rfl
  obtain ⟨rm, rm2, r, wv', wm', ⟨q1, q2, q3, q4⟩, ⟨z1, z2, z3, z4⟩, m1, m2, hJ'⟩ := qOp_snap l D (xs (i + 1)) (xs (i + 2)) cI cJ cZ cI2 cB tp mo J wv wm hJ2 hJ
  obtain ⟨fs, x1, x2, x3, x4, x5, x6, x7, x8, x9, x10, x11, gs, y1, y2, y3, y4, y5, y6, rfl, rfl⟩ := hJ.form
  obtain ⟨fs', x1', x2', x3', x4', x5', x6', x7', x8', x9', x10', x11', gs', y1', y2', y3', y4', y5', y6', rfl, rfl⟩ := hJ'.form
  have hP : va_P D cls [(tp, .inr (4, fs)), x1, x2, x3, x4, x5, x6, x7, x8, x9, x10, x11, (mo, .inr (5, gs)), y1, y2, y3, y4, y5, y6] H := hP
  have hD : va_D (fun q : Nat => s.heap.size ≤ q) [(tp, .inr (4, fs)), x1, x2, x3, x4, x5, x6, x7, x8, x9, x10, x11, (mo, .inr (5, gs)), y1, y2, y3, y4, y5, y6] := hD
  refine lv_aload_n hx hb d_Lw_law_152 rfl (lv_at hl 1 rfl) ?_
  refine lv_aload_n hx hb d_Lw_law_153 rfl (lv_at hl 0 rfl) ?_
  refine lv_iload_n hx hb d_Lw_law_154 rfl (lv_at hl 3 rfl) ?_
  refine lv_iconst (v := nI 1) hx hb d_Lw_law_155 (by decide) ?_
  refine lv_iadd hx hb d_Lw_law_156 ?_
  refine q_ti (y := nI (i + 1)) (nI_add _ _) ?_
  refine va_sld hx hb hX hbl hbA hS (vp_in_nI (show i + 1 < L by omega) (by omega)) d_Lw_law_157 ?_
  refine q_ti (y := xs (i + 1)) (by rw [nI_clamp (by omega)]) ?_
  refine lv_aload_n hx hb d_Lw_law_158 rfl (lv_at hl 0 rfl) ?_
  refine lv_iload_n hx hb d_Lw_law_159 rfl (lv_at hl 3 rfl) ?_
  refine lv_iconst (v := nI 2) hx hb d_Lw_law_160 (by decide) ?_
  refine lv_iadd hx hb d_Lw_law_161 ?_
  refine q_ti (y := nI (i + 2)) (nI_add _ _) ?_
  refine va_sld hx hb hX hbl hbA hS (vp_in_nI (show i + 2 < L by omega) (by omega)) d_Lw_law_162 ?_
  refine q_ti (y := xs (i + 2)) (by rw [nI_clamp (by omega)]) ?_
  refine q_callVi (As := [.int (xs (i + 1)), .int (xs (i + 2))]) (rest := []) (wsC := [(tp, .inr (4, fs)), x1, x2, x3, x4, x5, x6, x7, x8, x9, x10, x11]) (wsR := [(mo, .inr (5, gs)), y1, y2, y3, y4, y5, y6]) (wsC' := [(tp, .inr (4, fs')), x1', x2', x3', x4', x5', x6', x7', x8', x9', x10', x11']) (wsN := [(tp, .inr (4, fs')), x1', x2', x3', x4', x5', x6', x7', x8', x9', x10', x11', (mo, .inr (5, gs)), y1, y2, y3, y4, y5, y6]) (isT := [0, 1]) (isC := [0, 1, 2, 3, 4, 5, 6, 7, 8, 9, 10, 11]) (isR := [12, 13, 14, 15, 16, 17, 18]) (isN := [7, 8, 9, 10, 11, 12, 13, 14, 15, 16, 17, 18, 0, 1, 2, 3, 4, 5, 6]) (k := 2) (ci := 4) (C := R_Tp) ⟨hx, hb, hml, hown, hts⟩ m1 (tw_V ml_Lw_23 im_Tp_snap se_Tp_snap in_Tp cd_Tp_snap) rfl ⟨by decide +kernel, by omega, by omega⟩ ⟨by omega, by omega⟩ hK hP hD hS hA hN rfl ⟨rfl, rfl, rfl, by decide, by decide, by decide, by decide⟩ rfl rfl rfl hl.1 rfl rfl (Nat.le_of_ble_eq_true rfl) d_Lw_law_163 (fun H locs hP hD hS => ?_)
  have hP : va_P D cls [(tp, .inr (4, fs')), x1', x2', x3', x4', x5', x6', x7', x8', x9', x10', x11', (mo, .inr (5, gs)), y1, y2, y3, y4, y5, y6] H := hP
  have hD : va_D (fun q : Nat => s.heap.size ≤ q) [(tp, .inr (4, fs')), x1', x2', x3', x4', x5', x6', x7', x8', x9', x10', x11', (mo, .inr (5, gs)), y1, y2, y3, y4, y5, y6] := hD
  refine lv_aload_n hx hb d_Lw_law_166 rfl (lv_at hl 2 rfl) ?_
  refine lv_aload_n hx hb d_Lw_law_167 rfl (lv_at hl 0 rfl) ?_
  refine lv_iload_n hx hb d_Lw_law_168 rfl (lv_at hl 3 rfl) ?_
  refine lv_iconst (v := nI 1) hx hb d_Lw_law_169 (by decide) ?_
  refine lv_iadd hx hb d_Lw_law_170 ?_
  refine q_ti (y := nI (i + 1)) (nI_add _ _) ?_
  refine va_sld hx hb hX hbl hbA hS (vp_in_nI (show i + 1 < L by omega) (by omega)) d_Lw_law_171 ?_
  refine q_ti (y := xs (i + 1)) (by rw [nI_clamp (by omega)]) ?_
  refine lv_aload_n hx hb d_Lw_law_172 rfl (lv_at hl 0 rfl) ?_
  refine lv_iload_n hx hb d_Lw_law_173 rfl (lv_at hl 3 rfl) ?_
  refine lv_iconst (v := nI 2) hx hb d_Lw_law_174 (by decide) ?_
  refine lv_iadd hx hb d_Lw_law_175 ?_
  refine q_ti (y := nI (i + 2)) (nI_add _ _) ?_
  refine va_sld hx hb hX hbl hbA hS (vp_in_nI (show i + 2 < L by omega) (by omega)) d_Lw_law_176 ?_
  refine q_ti (y := xs (i + 2)) (by rw [nI_clamp (by omega)]) ?_
  refine q_callVi (As := [.int (xs (i + 1)), .int (xs (i + 2))]) (rest := [.int r]) (wsC := [(mo, .inr (5, gs)), y1, y2, y3, y4, y5, y6]) (wsR := [(tp, .inr (4, fs')), x1', x2', x3', x4', x5', x6', x7', x8', x9', x10', x11']) (wsC' := [(mo, .inr (5, gs')), y1', y2', y3', y4', y5', y6']) (wsN := [(tp, .inr (4, fs')), x1', x2', x3', x4', x5', x6', x7', x8', x9', x10', x11', (mo, .inr (5, gs')), y1', y2', y3', y4', y5', y6']) (isT := [2, 3, 4]) (isC := [12, 13, 14, 15, 16, 17, 18]) (isR := [0, 1, 2, 3, 4, 5, 6, 7, 8, 9, 10, 11]) (isN := [0, 1, 2, 3, 4, 5, 6, 7, 8, 9, 10, 11, 12, 13, 14, 15, 16, 17, 18]) (k := 2) (ci := 5) (C := R_Mo) ⟨hx, hb, hml, hown, hts⟩ m2 (tw_V ml_Lw_27 im_Mo_snap se_Mo_snap in_Mo cd_Mo_snap) rfl ⟨by decide +kernel, by omega, by omega⟩ ⟨by omega, by omega⟩ hK hP hD hS hA hN rfl ⟨rfl, rfl, rfl, by decide, by decide, by decide, by decide⟩ rfl rfl rfl hl.1 rfl rfl (Nat.le_of_ble_eq_true rfl) d_Lw_law_177 (fun H locs hP hD hS => ?_)
  refine lv_icmp_eq (tgt := 627) hx hb d_Lw_law_180 (by decide) (fun _ => ?_) (fun cz => absurd rfl cz)
  refine W.widen (k := cells + 1) (n := slots + 2) (by omega) (by omega) ?_
  exact kk _ _ H locs hJ' hP hD hS
set_option maxHeartbeats 4000000 in
set_option maxRecDepth 100000 in
theorem law_remove (hx : p.tables.exec = Jvm.exec) (hb : c.code = code) (hml : c.maxLocals = 4) (hown : s.vm.findClass R_Lw = some m.cls) (hts : ∀ w ∈ lw_gd, w.before #[Value.ref b] s = true) (hX : va_X b L xs s s.heap) (hbl : b < s.heap.size) (hL : L ≤ 3072) (hN : qN s) (hK : va_K D cls [(cI, .int), (cJ, .long), (cZ, .boolean), (cI2, .int), (cB, .byte)] s) (hJ : qJ cI cJ cZ cI2 cB tp mo J wv wm) (hJ2 : J < 2 ^ 30) (hi : i + 6 ≤ L) (hP : va_P D cls (wv ++ wm) H) (hD : va_D (fun q : Nat => s.heap.size ≤ q) (wv ++ wm)) (hS : va_S (fun q : Nat => s.heap.size ≤ q) s.heap H locs) (hl : lv_has ls 4 [(0, .ref b), (1, .ref tp), (2, .ref mo), (3, .int (nI i))]) (hc : cells + 1 ≤ 600000 ∧ slots + 2 ≤ 7302250) (kk : ∀ (wv' wm' : va_W) (H' : Heap) (locs' : List Loc), qJ cI cJ cZ cI2 cB tp mo (J + 1) wv' wm' → va_P D cls (wv' ++ wm') H' → va_D (fun q : Nat => s.heap.size ≤ q) (wv' ++ wm') → va_S (fun q : Nat => s.heap.size ≤ q) s.heap H' locs' → W p l e room_1 s m #[Value.ref b] below meth c H' locs' (cells + 1) (slots + 2) Q (F0 m 627 ls [])) : W p l e room_1 s m #[Value.ref b] below meth c H locs cells slots Q (F0 m 185 ls []) := by
  have hA : ∀ q : Nat, s.heap.size ≤ q → (fun q : Nat => s.heap.size ≤ q) q := fun _ h => h
  have hbA : ¬ (fun q : Nat => s.heap.size ≤ q) b := Nat.not_le.mpr hbl
  have R1 : room_1.frames = 2048 := rfl
  have R2 : room_1.cells = 600000 := rfl
  have R3 : room_1.slots = 7302250 := rfl
  have R4 : room_1.locals = 84000 := rfl
  obtain ⟨rm, rm2, r, wv', wm', ⟨q1, q2, q3, q4⟩, ⟨z1, z2, z3, z4⟩, m1, m2, hJ'⟩ := qOp_remove l D (xs (i + 1)) cI cJ cZ cI2 cB tp mo J wv wm hJ2 hJ
  obtain ⟨fs, x1, x2, x3, x4, x5, x6, x7, x8, x9, x10, x11, gs, y1, y2, y3, y4, y5, y6, rfl, rfl⟩ := hJ.form
  obtain ⟨fs', x1', x2', x3', x4', x5', x6', x7', x8', x9', x10', x11', gs', y1', y2', y3', y4', y5', y6', rfl, rfl⟩ := hJ'.form
  have hP : va_P D cls [(tp, .inr (4, fs)), x1, x2, x3, x4, x5, x6, x7, x8, x9, x10, x11, (mo, .inr (5, gs)), y1, y2, y3, y4, y5, y6] H := hP
  have hD : va_D (fun q : Nat => s.heap.size ≤ q) [(tp, .inr (4, fs)), x1, x2, x3, x4, x5, x6, x7, x8, x9, x10, x11, (mo, .inr (5, gs)), y1, y2, y3, y4, y5, y6] := hD
  refine lv_aload_n hx hb d_Lw_law_185 rfl (lv_at hl 1 rfl) ?_
  refine lv_aload_n hx hb d_Lw_law_186 rfl (lv_at hl 0 rfl) ?_
  refine lv_iload_n hx hb d_Lw_law_187 rfl (lv_at hl 3 rfl) ?_
  refine lv_iconst (v := nI 1) hx hb d_Lw_law_188 (by decide) ?_
  refine lv_iadd hx hb d_Lw_law_189 ?_
  refine q_ti (y := nI (i + 1)) (nI_add _ _) ?_
  refine va_sld hx hb hX hbl hbA hS (vp_in_nI (show i + 1 < L by omega) (by omega)) d_Lw_law_190 ?_
  refine q_ti (y := xs (i + 1)) (by rw [nI_clamp (by omega)]) ?_
  refine q_callVi (As := [.int (xs (i + 1))]) (rest := []) (wsC := [(tp, .inr (4, fs)), x1, x2, x3, x4, x5, x6, x7, x8, x9, x10, x11]) (wsR := [(mo, .inr (5, gs)), y1, y2, y3, y4, y5, y6]) (wsC' := [(tp, .inr (4, fs')), x1', x2', x3', x4', x5', x6', x7', x8', x9', x10', x11']) (wsN := [(tp, .inr (4, fs')), x1', x2', x3', x4', x5', x6', x7', x8', x9', x10', x11', (mo, .inr (5, gs)), y1, y2, y3, y4, y5, y6]) (isT := [0, 1]) (isC := [0, 1, 2, 3, 4, 5, 6, 7, 8, 9, 10, 11]) (isR := [12, 13, 14, 15, 16, 17, 18]) (isN := [7, 8, 9, 10, 11, 12, 13, 14, 15, 16, 17, 18, 0, 1, 2, 3, 4, 5, 6]) (k := 1) (ci := 4) (C := R_Tp) ⟨hx, hb, hml, hown, hts⟩ m1 (tw_V ml_Lw_28 im_Tp_remove se_Tp_remove in_Tp cd_Tp_remove) rfl ⟨by decide +kernel, by omega, by omega⟩ ⟨by omega, by omega⟩ hK hP hD hS hA hN rfl ⟨rfl, rfl, rfl, by decide, by decide, by decide, by decide⟩ rfl rfl rfl hl.1 rfl rfl (Nat.le_of_ble_eq_true rfl) d_Lw_law_191 (fun H locs hP hD hS => ?_)
  have hP : va_P D cls [(tp, .inr (4, fs')), x1', x2', x3', x4', x5', x6', x7', x8', x9', x10', x11', (mo, .inr (5, gs)), y1, y2, y3, y4, y5, y6] H := hP
  have hD : va_D (fun q : Nat => s.heap.size ≤ q) [(tp, .inr (4, fs')), x1', x2', x3', x4', x5', x6', x7', x8', x9', x10', x11', (mo, .inr (5, gs)), y1, y2, y3, y4, y5, y6] := hD
  refine lv_aload_n hx hb d_Lw_law_194 rfl (lv_at hl 2 rfl) ?_
  refine lv_aload_n hx hb d_Lw_law_195 rfl (lv_at hl 0 rfl) ?_
  refine lv_iload_n hx hb d_Lw_law_196 rfl (lv_at hl 3 rfl) ?_
  refine lv_iconst (v := nI 1) hx hb d_Lw_law_197 (by decide) ?_
  refine lv_iadd hx hb d_Lw_law_198 ?_
  refine q_ti (y := nI (i + 1)) (nI_add _ _) ?_
  refine va_sld hx hb hX hbl hbA hS (vp_in_nI (show i + 1 < L by omega) (by omega)) d_Lw_law_199 ?_
  refine q_ti (y := xs (i + 1)) (by rw [nI_clamp (by omega)]) ?_
  refine q_callVi (As := [.int (xs (i + 1))]) (rest := [.int r]) (wsC := [(mo, .inr (5, gs)), y1, y2, y3, y4, y5, y6]) (wsR := [(tp, .inr (4, fs')), x1', x2', x3', x4', x5', x6', x7', x8', x9', x10', x11']) (wsC' := [(mo, .inr (5, gs')), y1', y2', y3', y4', y5', y6']) (wsN := [(tp, .inr (4, fs')), x1', x2', x3', x4', x5', x6', x7', x8', x9', x10', x11', (mo, .inr (5, gs')), y1', y2', y3', y4', y5', y6']) (isT := [2, 3, 4]) (isC := [12, 13, 14, 15, 16, 17, 18]) (isR := [0, 1, 2, 3, 4, 5, 6, 7, 8, 9, 10, 11]) (isN := [0, 1, 2, 3, 4, 5, 6, 7, 8, 9, 10, 11, 12, 13, 14, 15, 16, 17, 18]) (k := 1) (ci := 5) (C := R_Mo) ⟨hx, hb, hml, hown, hts⟩ m2 (tw_V ml_Lw_31 im_Mo_remove se_Mo_remove in_Mo cd_Mo_remove) rfl ⟨by decide +kernel, by omega, by omega⟩ ⟨by omega, by omega⟩ hK hP hD hS hA hN rfl ⟨rfl, rfl, rfl, by decide, by decide, by decide, by decide⟩ rfl rfl rfl hl.1 rfl rfl (Nat.le_of_ble_eq_true rfl) d_Lw_law_200 (fun H locs hP hD hS => ?_)
  refine lv_icmp_eq (tgt := 627) hx hb d_Lw_law_203 (by decide) (fun _ => ?_) (fun cz => absurd rfl cz)
  refine W.widen (k := cells + 1) (n := slots + 2) (by omega) (by omega) ?_
  exact kk _ _ H locs hJ' hP hD hS
set_option maxHeartbeats 4000000 in
set_option maxRecDepth 100000 in
theorem law_write (hx : p.tables.exec = Jvm.exec) (hb : c.code = code) (hml : c.maxLocals = 4) (hown : s.vm.findClass R_Lw = some m.cls) (hts : ∀ w ∈ lw_gd, w.before #[Value.ref b] s = true) (hX : va_X b L xs s s.heap) (hbl : b < s.heap.size) (hL : L ≤ 3072) (hN : qN s) (hK : va_K D cls [(cI, .int), (cJ, .long), (cZ, .boolean), (cI2, .int), (cB, .byte)] s) (hJ : qJ cI cJ cZ cI2 cB tp mo J wv wm) (hJ2 : J < 2 ^ 30) (hi : i + 6 ≤ L) (hP : va_P D cls (wv ++ wm) H) (hD : va_D (fun q : Nat => s.heap.size ≤ q) (wv ++ wm)) (hS : va_S (fun q : Nat => s.heap.size ≤ q) s.heap H locs) (hl : lv_has ls 4 [(0, .ref b), (1, .ref tp), (2, .ref mo), (3, .int (nI i))]) (hc : cells + 1 ≤ 600000 ∧ slots + 2 ≤ 7302250) (kk : ∀ (wv' wm' : va_W) (H' : Heap) (locs' : List Loc), qJ cI cJ cZ cI2 cB tp mo (J + 1) wv' wm' → va_P D cls (wv' ++ wm') H' → va_D (fun q : Nat => s.heap.size ≤ q) (wv' ++ wm') → va_S (fun q : Nat => s.heap.size ≤ q) s.heap H' locs' → W p l e room_1 s m #[Value.ref b] below meth c H' locs' (cells + 1) (slots + 2) Q (F0 m 627 ls [])) : W p l e room_1 s m #[Value.ref b] below meth c H locs cells slots Q (F0 m 208 ls []) := by
  have hA : ∀ q : Nat, s.heap.size ≤ q → (fun q : Nat => s.heap.size ≤ q) q := fun _ h => h
  have hbA : ¬ (fun q : Nat => s.heap.size ≤ q) b := Nat.not_le.mpr hbl
  have R1 : room_1.frames = 2048 := rfl
  have R2 : room_1.cells = 600000 := rfl
  have R3 : room_1.slots = 7302250 := rfl
  have R4 : room_1.locals = 84000 := rfl
  obtain ⟨rm, rm2, r, wv', wm', ⟨q1, q2, q3, q4⟩, ⟨z1, z2, z3, z4⟩, m1, m2, hJ'⟩ := qOp_write l D (xs (i + 1)) (xs (i + 2)) (xs (i + 3)) (xs (i + 4)) (xs (i + 5)) cI cJ cZ cI2 cB tp mo J wv wm hJ2 hJ
  obtain ⟨fs, x1, x2, x3, x4, x5, x6, x7, x8, x9, x10, x11, gs, y1, y2, y3, y4, y5, y6, rfl, rfl⟩ := hJ.form
  obtain ⟨fs', x1', x2', x3', x4', x5', x6', x7', x8', x9', x10', x11', gs', y1', y2', y3', y4', y5', y6', rfl, rfl⟩ := hJ'.form
  have hP : va_P D cls [(tp, .inr (4, fs)), x1, x2, x3, x4, x5, x6, x7, x8, x9, x10, x11, (mo, .inr (5, gs)), y1, y2, y3, y4, y5, y6] H := hP
  have hD : va_D (fun q : Nat => s.heap.size ≤ q) [(tp, .inr (4, fs)), x1, x2, x3, x4, x5, x6, x7, x8, x9, x10, x11, (mo, .inr (5, gs)), y1, y2, y3, y4, y5, y6] := hD
  refine lv_aload_n hx hb d_Lw_law_208 rfl (lv_at hl 1 rfl) ?_
  refine lv_aload_n hx hb d_Lw_law_209 rfl (lv_at hl 0 rfl) ?_
  refine lv_iload_n hx hb d_Lw_law_210 rfl (lv_at hl 3 rfl) ?_
  refine lv_iconst (v := nI 1) hx hb d_Lw_law_211 (by decide) ?_
  refine lv_iadd hx hb d_Lw_law_212 ?_
  refine q_ti (y := nI (i + 1)) (nI_add _ _) ?_
  refine va_sld hx hb hX hbl hbA hS (vp_in_nI (show i + 1 < L by omega) (by omega)) d_Lw_law_213 ?_
  refine q_ti (y := xs (i + 1)) (by rw [nI_clamp (by omega)]) ?_
  refine lv_aload_n hx hb d_Lw_law_214 rfl (lv_at hl 0 rfl) ?_
  refine lv_iload_n hx hb d_Lw_law_215 rfl (lv_at hl 3 rfl) ?_
  refine lv_iconst (v := nI 2) hx hb d_Lw_law_216 (by decide) ?_
  refine lv_iadd hx hb d_Lw_law_217 ?_
  refine q_ti (y := nI (i + 2)) (nI_add _ _) ?_
  refine va_sld hx hb hX hbl hbA hS (vp_in_nI (show i + 2 < L by omega) (by omega)) d_Lw_law_218 ?_
  refine q_ti (y := xs (i + 2)) (by rw [nI_clamp (by omega)]) ?_
  refine lv_aload_n hx hb d_Lw_law_219 rfl (lv_at hl 0 rfl) ?_
  refine lv_iload_n hx hb d_Lw_law_220 rfl (lv_at hl 3 rfl) ?_
  refine lv_iconst (v := nI 3) hx hb d_Lw_law_221 (by decide) ?_
  refine lv_iadd hx hb d_Lw_law_222 ?_
  refine q_ti (y := nI (i + 3)) (nI_add _ _) ?_
  refine va_sld hx hb hX hbl hbA hS (vp_in_nI (show i + 3 < L by omega) (by omega)) d_Lw_law_223 ?_
  refine q_ti (y := xs (i + 3)) (by rw [nI_clamp (by omega)]) ?_
  refine lv_aload_n hx hb d_Lw_law_224 rfl (lv_at hl 0 rfl) ?_
  refine lv_iload_n hx hb d_Lw_law_225 rfl (lv_at hl 3 rfl) ?_
  refine lv_iconst (v := nI 4) hx hb d_Lw_law_226 (by decide) ?_
  refine lv_iadd hx hb d_Lw_law_227 ?_
  refine q_ti (y := nI (i + 4)) (nI_add _ _) ?_
  refine va_sld hx hb hX hbl hbA hS (vp_in_nI (show i + 4 < L by omega) (by omega)) d_Lw_law_228 ?_
  refine q_ti (y := xs (i + 4)) (by rw [nI_clamp (by omega)]) ?_
  refine lv_aload_n hx hb d_Lw_law_229 rfl (lv_at hl 0 rfl) ?_
  refine lv_iload_n hx hb d_Lw_law_230 rfl (lv_at hl 3 rfl) ?_
  refine lv_iconst (v := nI 5) hx hb d_Lw_law_231 (by decide) ?_
  refine lv_iadd hx hb d_Lw_law_232 ?_
  refine q_ti (y := nI (i + 5)) (nI_add _ _) ?_
  refine va_sld hx hb hX hbl hbA hS (vp_in_nI (show i + 5 < L by omega) (by omega)) d_Lw_law_233 ?_
  refine q_ti (y := xs (i + 5)) (by rw [nI_clamp (by omega)]) ?_
  refine q_callVi (As := [.int (xs (i + 1)), .int (xs (i + 2)), .int (xs (i + 3)), .int (xs (i + 4)), .int (xs (i + 5))]) (rest := []) (wsC := [(tp, .inr (4, fs)), x1, x2, x3, x4, x5, x6, x7, x8, x9, x10, x11]) (wsR := [(mo, .inr (5, gs)), y1, y2, y3, y4, y5, y6]) (wsC' := [(tp, .inr (4, fs')), x1', x2', x3', x4', x5', x6', x7', x8', x9', x10', x11']) (wsN := [(tp, .inr (4, fs')), x1', x2', x3', x4', x5', x6', x7', x8', x9', x10', x11', (mo, .inr (5, gs)), y1, y2, y3, y4, y5, y6]) (isT := [0, 1]) (isC := [0, 1, 2, 3, 4, 5, 6, 7, 8, 9, 10, 11]) (isR := [12, 13, 14, 15, 16, 17, 18]) (isN := [7, 8, 9, 10, 11, 12, 13, 14, 15, 16, 17, 18, 0, 1, 2, 3, 4, 5, 6]) (k := 5) (ci := 4) (C := R_Tp) ⟨hx, hb, hml, hown, hts⟩ m1 (tw_V ml_Lw_32 im_Tp_write se_Tp_write in_Tp cd_Tp_write) rfl ⟨by decide +kernel, by omega, by omega⟩ ⟨by omega, by omega⟩ hK hP hD hS hA hN rfl ⟨rfl, rfl, rfl, by decide, by decide, by decide, by decide⟩ rfl rfl rfl hl.1 rfl rfl (Nat.le_of_ble_eq_true rfl) d_Lw_law_234 (fun H locs hP hD hS => ?_)
  have hP : va_P D cls [(tp, .inr (4, fs')), x1', x2', x3', x4', x5', x6', x7', x8', x9', x10', x11', (mo, .inr (5, gs)), y1, y2, y3, y4, y5, y6] H := hP
  have hD : va_D (fun q : Nat => s.heap.size ≤ q) [(tp, .inr (4, fs')), x1', x2', x3', x4', x5', x6', x7', x8', x9', x10', x11', (mo, .inr (5, gs)), y1, y2, y3, y4, y5, y6] := hD
  refine lv_aload_n hx hb d_Lw_law_237 rfl (lv_at hl 2 rfl) ?_
  refine lv_aload_n hx hb d_Lw_law_238 rfl (lv_at hl 0 rfl) ?_
  refine lv_iload_n hx hb d_Lw_law_239 rfl (lv_at hl 3 rfl) ?_
  refine lv_iconst (v := nI 1) hx hb d_Lw_law_240 (by decide) ?_
  refine lv_iadd hx hb d_Lw_law_241 ?_
  refine q_ti (y := nI (i + 1)) (nI_add _ _) ?_
  refine va_sld hx hb hX hbl hbA hS (vp_in_nI (show i + 1 < L by omega) (by omega)) d_Lw_law_242 ?_
  refine q_ti (y := xs (i + 1)) (by rw [nI_clamp (by omega)]) ?_
  refine lv_aload_n hx hb d_Lw_law_243 rfl (lv_at hl 0 rfl) ?_
  refine lv_iload_n hx hb d_Lw_law_244 rfl (lv_at hl 3 rfl) ?_
  refine lv_iconst (v := nI 2) hx hb d_Lw_law_245 (by decide) ?_
  refine lv_iadd hx hb d_Lw_law_246 ?_
  refine q_ti (y := nI (i + 2)) (nI_add _ _) ?_
  refine va_sld hx hb hX hbl hbA hS (vp_in_nI (show i + 2 < L by omega) (by omega)) d_Lw_law_247 ?_
  refine q_ti (y := xs (i + 2)) (by rw [nI_clamp (by omega)]) ?_
  refine lv_aload_n hx hb d_Lw_law_248 rfl (lv_at hl 0 rfl) ?_
  refine lv_iload_n hx hb d_Lw_law_249 rfl (lv_at hl 3 rfl) ?_
  refine lv_iconst (v := nI 3) hx hb d_Lw_law_250 (by decide) ?_
  refine lv_iadd hx hb d_Lw_law_251 ?_
  refine q_ti (y := nI (i + 3)) (nI_add _ _) ?_
  refine va_sld hx hb hX hbl hbA hS (vp_in_nI (show i + 3 < L by omega) (by omega)) d_Lw_law_252 ?_
  refine q_ti (y := xs (i + 3)) (by rw [nI_clamp (by omega)]) ?_
  refine lv_aload_n hx hb d_Lw_law_253 rfl (lv_at hl 0 rfl) ?_
  refine lv_iload_n hx hb d_Lw_law_254 rfl (lv_at hl 3 rfl) ?_
  refine lv_iconst (v := nI 4) hx hb d_Lw_law_255 (by decide) ?_
  refine lv_iadd hx hb d_Lw_law_256 ?_
  refine q_ti (y := nI (i + 4)) (nI_add _ _) ?_
  refine va_sld hx hb hX hbl hbA hS (vp_in_nI (show i + 4 < L by omega) (by omega)) d_Lw_law_257 ?_
  refine q_ti (y := xs (i + 4)) (by rw [nI_clamp (by omega)]) ?_
  refine lv_aload_n hx hb d_Lw_law_258 rfl (lv_at hl 0 rfl) ?_
  refine lv_iload_n hx hb d_Lw_law_259 rfl (lv_at hl 3 rfl) ?_
  refine lv_iconst (v := nI 5) hx hb d_Lw_law_260 (by decide) ?_
  refine lv_iadd hx hb d_Lw_law_261 ?_
  refine q_ti (y := nI (i + 5)) (nI_add _ _) ?_
  refine va_sld hx hb hX hbl hbA hS (vp_in_nI (show i + 5 < L by omega) (by omega)) d_Lw_law_262 ?_
  refine q_ti (y := xs (i + 5)) (by rw [nI_clamp (by omega)]) ?_
  refine q_callVi (As := [.int (xs (i + 1)), .int (xs (i + 2)), .int (xs (i + 3)), .int (xs (i + 4)), .int (xs (i + 5))]) (rest := [.int r]) (wsC := [(mo, .inr (5, gs)), y1, y2, y3, y4, y5, y6]) (wsR := [(tp, .inr (4, fs')), x1', x2', x3', x4', x5', x6', x7', x8', x9', x10', x11']) (wsC' := [(mo, .inr (5, gs')), y1', y2', y3', y4', y5', y6']) (wsN := [(tp, .inr (4, fs')), x1', x2', x3', x4', x5', x6', x7', x8', x9', x10', x11', (mo, .inr (5, gs')), y1', y2', y3', y4', y5', y6']) (isT := [2, 3, 4]) (isC := [12, 13, 14, 15, 16, 17, 18]) (isR := [0, 1, 2, 3, 4, 5, 6, 7, 8, 9, 10, 11]) (isN := [0, 1, 2, 3, 4, 5, 6, 7, 8, 9, 10, 11, 12, 13, 14, 15, 16, 17, 18]) (k := 5) (ci := 5) (C := R_Mo) ⟨hx, hb, hml, hown, hts⟩ m2 (tw_V ml_Lw_36 im_Mo_write se_Mo_write in_Mo cd_Mo_write) rfl ⟨by decide +kernel, by omega, by omega⟩ ⟨by omega, by omega⟩ hK hP hD hS hA hN rfl ⟨rfl, rfl, rfl, by decide, by decide, by decide, by decide⟩ rfl rfl rfl hl.1 rfl rfl (Nat.le_of_ble_eq_true rfl) d_Lw_law_263 (fun H locs hP hD hS => ?_)
  refine lv_icmp_eq (tgt := 627) hx hb d_Lw_law_266 (by decide) (fun _ => ?_) (fun cz => absurd rfl cz)
  refine W.widen (k := cells + 1) (n := slots + 2) (by omega) (by omega) ?_
  exact kk _ _ H locs hJ' hP hD hS
set_option maxHeartbeats 4000000 in
set_option maxRecDepth 100000 in
theorem law_read (hx : p.tables.exec = Jvm.exec) (hb : c.code = code) (hml : c.maxLocals = 4) (hown : s.vm.findClass R_Lw = some m.cls) (hts : ∀ w ∈ lw_gd, w.before #[Value.ref b] s = true) (hX : va_X b L xs s s.heap) (hbl : b < s.heap.size) (hL : L ≤ 3072) (hN : qN s) (hK : va_K D cls [(cI, .int), (cJ, .long), (cZ, .boolean), (cI2, .int), (cB, .byte)] s) (hJ : qJ cI cJ cZ cI2 cB tp mo J wv wm) (hJ2 : J < 2 ^ 30) (hi : i + 6 ≤ L) (hP : va_P D cls (wv ++ wm) H) (hD : va_D (fun q : Nat => s.heap.size ≤ q) (wv ++ wm)) (hS : va_S (fun q : Nat => s.heap.size ≤ q) s.heap H locs) (hl : lv_has ls 4 [(0, .ref b), (1, .ref tp), (2, .ref mo), (3, .int (nI i))]) (hc : cells + 1 ≤ 600000 ∧ slots + 2 ≤ 7302250) (kk : ∀ (wv' wm' : va_W) (H' : Heap) (locs' : List Loc), qJ cI cJ cZ cI2 cB tp mo (J + 1) wv' wm' → va_P D cls (wv' ++ wm') H' → va_D (fun q : Nat => s.heap.size ≤ q) (wv' ++ wm') → va_S (fun q : Nat => s.heap.size ≤ q) s.heap H' locs' → W p l e room_1 s m #[Value.ref b] below meth c H' locs' (cells + 1) (slots + 2) Q (F0 m 627 ls [])) : W p l e room_1 s m #[Value.ref b] below meth c H locs cells slots Q (F0 m 271 ls []) := by
  have hA : ∀ q : Nat, s.heap.size ≤ q → (fun q : Nat => s.heap.size ≤ q) q := fun _ h => h
  have hbA : ¬ (fun q : Nat => s.heap.size ≤ q) b := Nat.not_le.mpr hbl
  have R1 : room_1.frames = 2048 := rfl
  have R2 : room_1.cells = 600000 := rfl
  have R3 : room_1.slots = 7302250 := rfl
  have R4 : room_1.locals = 84000 := rfl
  obtain ⟨rm, rm2, r, wv', wm', ⟨q1, q2, q3, q4⟩, ⟨z1, z2, z3, z4⟩, m1, m2, hJ'⟩ := qOp_read l D (xs (i + 1)) (xs (i + 2)) (xs (i + 3)) cI cJ cZ cI2 cB tp mo J wv wm hJ2 hJ
  obtain ⟨fs, x1, x2, x3, x4, x5, x6, x7, x8, x9, x10, x11, gs, y1, y2, y3, y4, y5, y6, rfl, rfl⟩ := hJ.form
  obtain ⟨fs', x1', x2', x3', x4', x5', x6', x7', x8', x9', x10', x11', gs', y1', y2', y3', y4', y5', y6', rfl, rfl⟩ := hJ'.form
  have hP : va_P D cls [(tp, .inr (4, fs)), x1, x2, x3, x4, x5, x6, x7, x8, x9, x10, x11, (mo, .inr (5, gs)), y1, y2, y3, y4, y5, y6] H := hP
  have hD : va_D (fun q : Nat => s.heap.size ≤ q) [(tp, .inr (4, fs)), x1, x2, x3, x4, x5, x6, x7, x8, x9, x10, x11, (mo, .inr (5, gs)), y1, y2, y3, y4, y5, y6] := hD
  refine lv_aload_n hx hb d_Lw_law_271 rfl (lv_at hl 1 rfl) ?_
  refine lv_aload_n hx hb d_Lw_law_272 rfl (lv_at hl 0 rfl) ?_
  refine lv_iload_n hx hb d_Lw_law_273 rfl (lv_at hl 3 rfl) ?_
  refine lv_iconst (v := nI 1) hx hb d_Lw_law_274 (by decide) ?_
  refine lv_iadd hx hb d_Lw_law_275 ?_
  refine q_ti (y := nI (i + 1)) (nI_add _ _) ?_
  refine va_sld hx hb hX hbl hbA hS (vp_in_nI (show i + 1 < L by omega) (by omega)) d_Lw_law_276 ?_
  refine q_ti (y := xs (i + 1)) (by rw [nI_clamp (by omega)]) ?_
  refine lv_aload_n hx hb d_Lw_law_277 rfl (lv_at hl 0 rfl) ?_
  refine lv_iload_n hx hb d_Lw_law_278 rfl (lv_at hl 3 rfl) ?_
  refine lv_iconst (v := nI 2) hx hb d_Lw_law_279 (by decide) ?_
  refine lv_iadd hx hb d_Lw_law_280 ?_
  refine q_ti (y := nI (i + 2)) (nI_add _ _) ?_
  refine va_sld hx hb hX hbl hbA hS (vp_in_nI (show i + 2 < L by omega) (by omega)) d_Lw_law_281 ?_
  refine q_ti (y := xs (i + 2)) (by rw [nI_clamp (by omega)]) ?_
  refine lv_aload_n hx hb d_Lw_law_282 rfl (lv_at hl 0 rfl) ?_
  refine lv_iload_n hx hb d_Lw_law_283 rfl (lv_at hl 3 rfl) ?_
  refine lv_iconst (v := nI 3) hx hb d_Lw_law_284 (by decide) ?_
  refine lv_iadd hx hb d_Lw_law_285 ?_
  refine q_ti (y := nI (i + 3)) (nI_add _ _) ?_
  refine va_sld hx hb hX hbl hbA hS (vp_in_nI (show i + 3 < L by omega) (by omega)) d_Lw_law_286 ?_
  refine q_ti (y := xs (i + 3)) (by rw [nI_clamp (by omega)]) ?_
  refine q_callVi (As := [.int (xs (i + 1)), .int (xs (i + 2)), .int (xs (i + 3))]) (rest := []) (wsC := [(tp, .inr (4, fs)), x1, x2, x3, x4, x5, x6, x7, x8, x9, x10, x11]) (wsR := [(mo, .inr (5, gs)), y1, y2, y3, y4, y5, y6]) (wsC' := [(tp, .inr (4, fs')), x1', x2', x3', x4', x5', x6', x7', x8', x9', x10', x11']) (wsN := [(tp, .inr (4, fs')), x1', x2', x3', x4', x5', x6', x7', x8', x9', x10', x11', (mo, .inr (5, gs)), y1, y2, y3, y4, y5, y6]) (isT := [0, 1]) (isC := [0, 1, 2, 3, 4, 5, 6, 7, 8, 9, 10, 11]) (isR := [12, 13, 14, 15, 16, 17, 18]) (isN := [7, 8, 9, 10, 11, 12, 13, 14, 15, 16, 17, 18, 0, 1, 2, 3, 4, 5, 6]) (k := 3) (ci := 4) (C := R_Tp) ⟨hx, hb, hml, hown, hts⟩ m1 (tw_V ml_Lw_37 im_Tp_read se_Tp_read in_Tp cd_Tp_read) rfl ⟨by decide +kernel, by omega, by omega⟩ ⟨by omega, by omega⟩ hK hP hD hS hA hN rfl ⟨rfl, rfl, rfl, by decide, by decide, by decide, by decide⟩ rfl rfl rfl hl.1 rfl rfl (Nat.le_of_ble_eq_true rfl) d_Lw_law_287 (fun H locs hP hD hS => ?_)
  have hP : va_P D cls [(tp, .inr (4, fs')), x1', x2', x3', x4', x5', x6', x7', x8', x9', x10', x11', (mo, .inr (5, gs)), y1, y2, y3, y4, y5, y6] H := hP
  have hD : va_D (fun q : Nat => s.heap.size ≤ q) [(tp, .inr (4, fs')), x1', x2', x3', x4', x5', x6', x7', x8', x9', x10', x11', (mo, .inr (5, gs)), y1, y2, y3, y4, y5, y6] := hD
  refine lv_aload_n hx hb d_Lw_law_290 rfl (lv_at hl 2 rfl) ?_
  refine lv_aload_n hx hb d_Lw_law_291 rfl (lv_at hl 0 rfl) ?_
  refine lv_iload_n hx hb d_Lw_law_292 rfl (lv_at hl 3 rfl) ?_
  refine lv_iconst (v := nI 1) hx hb d_Lw_law_293 (by decide) ?_
  refine lv_iadd hx hb d_Lw_law_294 ?_
  refine q_ti (y := nI (i + 1)) (nI_add _ _) ?_
  refine va_sld hx hb hX hbl hbA hS (vp_in_nI (show i + 1 < L by omega) (by omega)) d_Lw_law_295 ?_
  refine q_ti (y := xs (i + 1)) (by rw [nI_clamp (by omega)]) ?_
  refine lv_aload_n hx hb d_Lw_law_296 rfl (lv_at hl 0 rfl) ?_
  refine lv_iload_n hx hb d_Lw_law_297 rfl (lv_at hl 3 rfl) ?_
  refine lv_iconst (v := nI 2) hx hb d_Lw_law_298 (by decide) ?_
  refine lv_iadd hx hb d_Lw_law_299 ?_
  refine q_ti (y := nI (i + 2)) (nI_add _ _) ?_
  refine va_sld hx hb hX hbl hbA hS (vp_in_nI (show i + 2 < L by omega) (by omega)) d_Lw_law_300 ?_
  refine q_ti (y := xs (i + 2)) (by rw [nI_clamp (by omega)]) ?_
  refine lv_aload_n hx hb d_Lw_law_301 rfl (lv_at hl 0 rfl) ?_
  refine lv_iload_n hx hb d_Lw_law_302 rfl (lv_at hl 3 rfl) ?_
  refine lv_iconst (v := nI 3) hx hb d_Lw_law_303 (by decide) ?_
  refine lv_iadd hx hb d_Lw_law_304 ?_
  refine q_ti (y := nI (i + 3)) (nI_add _ _) ?_
  refine va_sld hx hb hX hbl hbA hS (vp_in_nI (show i + 3 < L by omega) (by omega)) d_Lw_law_305 ?_
  refine q_ti (y := xs (i + 3)) (by rw [nI_clamp (by omega)]) ?_
  refine q_callVi (As := [.int (xs (i + 1)), .int (xs (i + 2)), .int (xs (i + 3))]) (rest := [.int r]) (wsC := [(mo, .inr (5, gs)), y1, y2, y3, y4, y5, y6]) (wsR := [(tp, .inr (4, fs')), x1', x2', x3', x4', x5', x6', x7', x8', x9', x10', x11']) (wsC' := [(mo, .inr (5, gs')), y1', y2', y3', y4', y5', y6']) (wsN := [(tp, .inr (4, fs')), x1', x2', x3', x4', x5', x6', x7', x8', x9', x10', x11', (mo, .inr (5, gs')), y1', y2', y3', y4', y5', y6']) (isT := [2, 3, 4]) (isC := [12, 13, 14, 15, 16, 17, 18]) (isR := [0, 1, 2, 3, 4, 5, 6, 7, 8, 9, 10, 11]) (isN := [0, 1, 2, 3, 4, 5, 6, 7, 8, 9, 10, 11, 12, 13, 14, 15, 16, 17, 18]) (k := 3) (ci := 5) (C := R_Mo) ⟨hx, hb, hml, hown, hts⟩ m2 (tw_V ml_Lw_41 im_Mo_read se_Mo_read in_Mo cd_Mo_read) rfl ⟨by decide +kernel, by omega, by omega⟩ ⟨by omega, by omega⟩ hK hP hD hS hA hN rfl ⟨rfl, rfl, rfl, by decide, by decide, by decide, by decide⟩ rfl rfl rfl hl.1 rfl rfl (Nat.le_of_ble_eq_true rfl) d_Lw_law_306 (fun H locs hP hD hS => ?_)
  refine lv_icmp_eq (tgt := 627) hx hb d_Lw_law_309 (by decide) (fun _ => ?_) (fun cz => absurd rfl cz)
  refine W.widen (k := cells + 1) (n := slots + 2) (by omega) (by omega) ?_
  exact kk _ _ H locs hJ' hP hD hS
set_option maxHeartbeats 4000000 in
set_option maxRecDepth 100000 in
theorem law_trim (hx : p.tables.exec = Jvm.exec) (hb : c.code = code) (hml : c.maxLocals = 4) (hown : s.vm.findClass R_Lw = some m.cls) (hts : ∀ w ∈ lw_gd, w.before #[Value.ref b] s = true) (hX : va_X b L xs s s.heap) (hbl : b < s.heap.size) (hL : L ≤ 3072) (hN : qN s) (hK : va_K D cls [(cI, .int), (cJ, .long), (cZ, .boolean), (cI2, .int), (cB, .byte)] s) (hJ : qJ cI cJ cZ cI2 cB tp mo J wv wm) (hJ2 : J < 2 ^ 30) (hi : i + 6 ≤ L) (hP : va_P D cls (wv ++ wm) H) (hD : va_D (fun q : Nat => s.heap.size ≤ q) (wv ++ wm)) (hS : va_S (fun q : Nat => s.heap.size ≤ q) s.heap H locs) (hl : lv_has ls 4 [(0, .ref b), (1, .ref tp), (2, .ref mo), (3, .int (nI i))]) (hc : cells + 1 ≤ 600000 ∧ slots + 2 ≤ 7302250) (kk : ∀ (wv' wm' : va_W) (H' : Heap) (locs' : List Loc), qJ cI cJ cZ cI2 cB tp mo (J + 1) wv' wm' → va_P D cls (wv' ++ wm') H' → va_D (fun q : Nat => s.heap.size ≤ q) (wv' ++ wm') → va_S (fun q : Nat => s.heap.size ≤ q) s.heap H' locs' → W p l e room_1 s m #[Value.ref b] below meth c H' locs' (cells + 1) (slots + 2) Q (F0 m 627 ls [])) : W p l e room_1 s m #[Value.ref b] below meth c H locs cells slots Q (F0 m 314 ls []) := by
  have hA : ∀ q : Nat, s.heap.size ≤ q → (fun q : Nat => s.heap.size ≤ q) q := fun _ h => h
  have hbA : ¬ (fun q : Nat => s.heap.size ≤ q) b := Nat.not_le.mpr hbl
  have R1 : room_1.frames = 2048 := rfl
  have R2 : room_1.cells = 600000 := rfl
  have R3 : room_1.slots = 7302250 := rfl
  have R4 : room_1.locals = 84000 := rfl
  obtain ⟨rm, rm2, r, wv', wm', ⟨q1, q2, q3, q4⟩, ⟨z1, z2, z3, z4⟩, m1, m2, hJ'⟩ := qOp_trim l D (xs (i + 1)) (xs (i + 2)) (xs (i + 3)) cI cJ cZ cI2 cB tp mo J wv wm hJ2 hJ
  obtain ⟨fs, x1, x2, x3, x4, x5, x6, x7, x8, x9, x10, x11, gs, y1, y2, y3, y4, y5, y6, rfl, rfl⟩ := hJ.form
  obtain ⟨fs', x1', x2', x3', x4', x5', x6', x7', x8', x9', x10', x11', gs', y1', y2', y3', y4', y5', y6', rfl, rfl⟩ := hJ'.form
  have hP : va_P D cls [(tp, .inr (4, fs)), x1, x2, x3, x4, x5, x6, x7, x8, x9, x10, x11, (mo, .inr (5, gs)), y1, y2, y3, y4, y5, y6] H := hP
  have hD : va_D (fun q : Nat => s.heap.size ≤ q) [(tp, .inr (4, fs)), x1, x2, x3, x4, x5, x6, x7, x8, x9, x10, x11, (mo, .inr (5, gs)), y1, y2, y3, y4, y5, y6] := hD
  refine lv_aload_n hx hb d_Lw_law_314 rfl (lv_at hl 1 rfl) ?_
  refine lv_aload_n hx hb d_Lw_law_315 rfl (lv_at hl 0 rfl) ?_
  refine lv_iload_n hx hb d_Lw_law_316 rfl (lv_at hl 3 rfl) ?_
  refine lv_iconst (v := nI 1) hx hb d_Lw_law_317 (by decide) ?_
  refine lv_iadd hx hb d_Lw_law_318 ?_
  refine q_ti (y := nI (i + 1)) (nI_add _ _) ?_
  refine va_sld hx hb hX hbl hbA hS (vp_in_nI (show i + 1 < L by omega) (by omega)) d_Lw_law_319 ?_
  refine q_ti (y := xs (i + 1)) (by rw [nI_clamp (by omega)]) ?_
  refine lv_aload_n hx hb d_Lw_law_320 rfl (lv_at hl 0 rfl) ?_
  refine lv_iload_n hx hb d_Lw_law_321 rfl (lv_at hl 3 rfl) ?_
  refine lv_iconst (v := nI 2) hx hb d_Lw_law_322 (by decide) ?_
  refine lv_iadd hx hb d_Lw_law_323 ?_
  refine q_ti (y := nI (i + 2)) (nI_add _ _) ?_
  refine va_sld hx hb hX hbl hbA hS (vp_in_nI (show i + 2 < L by omega) (by omega)) d_Lw_law_324 ?_
  refine q_ti (y := xs (i + 2)) (by rw [nI_clamp (by omega)]) ?_
  refine lv_aload_n hx hb d_Lw_law_325 rfl (lv_at hl 0 rfl) ?_
  refine lv_iload_n hx hb d_Lw_law_326 rfl (lv_at hl 3 rfl) ?_
  refine lv_iconst (v := nI 3) hx hb d_Lw_law_327 (by decide) ?_
  refine lv_iadd hx hb d_Lw_law_328 ?_
  refine q_ti (y := nI (i + 3)) (nI_add _ _) ?_
  refine va_sld hx hb hX hbl hbA hS (vp_in_nI (show i + 3 < L by omega) (by omega)) d_Lw_law_329 ?_
  refine q_ti (y := xs (i + 3)) (by rw [nI_clamp (by omega)]) ?_
  refine q_callVi (As := [.int (xs (i + 1)), .int (xs (i + 2)), .int (xs (i + 3))]) (rest := []) (wsC := [(tp, .inr (4, fs)), x1, x2, x3, x4, x5, x6, x7, x8, x9, x10, x11]) (wsR := [(mo, .inr (5, gs)), y1, y2, y3, y4, y5, y6]) (wsC' := [(tp, .inr (4, fs')), x1', x2', x3', x4', x5', x6', x7', x8', x9', x10', x11']) (wsN := [(tp, .inr (4, fs')), x1', x2', x3', x4', x5', x6', x7', x8', x9', x10', x11', (mo, .inr (5, gs)), y1, y2, y3, y4, y5, y6]) (isT := [0, 1]) (isC := [0, 1, 2, 3, 4, 5, 6, 7, 8, 9, 10, 11]) (isR := [12, 13, 14, 15, 16, 17, 18]) (isN := [7, 8, 9, 10, 11, 12, 13, 14, 15, 16, 17, 18, 0, 1, 2, 3, 4, 5, 6]) (k := 3) (ci := 4) (C := R_Tp) ⟨hx, hb, hml, hown, hts⟩ m1 (tw_V ml_Lw_42 im_Tp_trim se_Tp_trim in_Tp cd_Tp_trim) rfl ⟨by decide +kernel, by omega, by omega⟩ ⟨by omega, by omega⟩ hK hP hD hS hA hN rfl ⟨rfl, rfl, rfl, by decide, by decide, by decide, by decide⟩ rfl rfl rfl hl.1 rfl rfl (Nat.le_of_ble_eq_true rfl) d_Lw_law_330 (fun H locs hP hD hS => ?_)
  have hP : va_P D cls [(tp, .inr (4, fs')), x1', x2', x3', x4', x5', x6', x7', x8', x9', x10', x11', (mo, .inr (5, gs)), y1, y2, y3, y4, y5, y6] H := hP
  have hD : va_D (fun q : Nat => s.heap.size ≤ q) [(tp, .inr (4, fs')), x1', x2', x3', x4', x5', x6', x7', x8', x9', x10', x11', (mo, .inr (5, gs)), y1, y2, y3, y4, y5, y6] := hD
  refine lv_aload_n hx hb d_Lw_law_333 rfl (lv_at hl 2 rfl) ?_
  refine lv_aload_n hx hb d_Lw_law_334 rfl (lv_at hl 0 rfl) ?_
  refine lv_iload_n hx hb d_Lw_law_335 rfl (lv_at hl 3 rfl) ?_
  refine lv_iconst (v := nI 1) hx hb d_Lw_law_336 (by decide) ?_
  refine lv_iadd hx hb d_Lw_law_337 ?_
  refine q_ti (y := nI (i + 1)) (nI_add _ _) ?_
  refine va_sld hx hb hX hbl hbA hS (vp_in_nI (show i + 1 < L by omega) (by omega)) d_Lw_law_338 ?_
  refine q_ti (y := xs (i + 1)) (by rw [nI_clamp (by omega)]) ?_
  refine lv_aload_n hx hb d_Lw_law_339 rfl (lv_at hl 0 rfl) ?_
  refine lv_iload_n hx hb d_Lw_law_340 rfl (lv_at hl 3 rfl) ?_
  refine lv_iconst (v := nI 2) hx hb d_Lw_law_341 (by decide) ?_
  refine lv_iadd hx hb d_Lw_law_342 ?_
  refine q_ti (y := nI (i + 2)) (nI_add _ _) ?_
  refine va_sld hx hb hX hbl hbA hS (vp_in_nI (show i + 2 < L by omega) (by omega)) d_Lw_law_343 ?_
  refine q_ti (y := xs (i + 2)) (by rw [nI_clamp (by omega)]) ?_
  refine lv_aload_n hx hb d_Lw_law_344 rfl (lv_at hl 0 rfl) ?_
  refine lv_iload_n hx hb d_Lw_law_345 rfl (lv_at hl 3 rfl) ?_
  refine lv_iconst (v := nI 3) hx hb d_Lw_law_346 (by decide) ?_
  refine lv_iadd hx hb d_Lw_law_347 ?_
  refine q_ti (y := nI (i + 3)) (nI_add _ _) ?_
  refine va_sld hx hb hX hbl hbA hS (vp_in_nI (show i + 3 < L by omega) (by omega)) d_Lw_law_348 ?_
  refine q_ti (y := xs (i + 3)) (by rw [nI_clamp (by omega)]) ?_
  refine q_callVi (As := [.int (xs (i + 1)), .int (xs (i + 2)), .int (xs (i + 3))]) (rest := [.int r]) (wsC := [(mo, .inr (5, gs)), y1, y2, y3, y4, y5, y6]) (wsR := [(tp, .inr (4, fs')), x1', x2', x3', x4', x5', x6', x7', x8', x9', x10', x11']) (wsC' := [(mo, .inr (5, gs')), y1', y2', y3', y4', y5', y6']) (wsN := [(tp, .inr (4, fs')), x1', x2', x3', x4', x5', x6', x7', x8', x9', x10', x11', (mo, .inr (5, gs')), y1', y2', y3', y4', y5', y6']) (isT := [2, 3, 4]) (isC := [12, 13, 14, 15, 16, 17, 18]) (isR := [0, 1, 2, 3, 4, 5, 6, 7, 8, 9, 10, 11]) (isN := [0, 1, 2, 3, 4, 5, 6, 7, 8, 9, 10, 11, 12, 13, 14, 15, 16, 17, 18]) (k := 3) (ci := 5) (C := R_Mo) ⟨hx, hb, hml, hown, hts⟩ m2 (tw_V ml_Lw_45 im_Mo_trim se_Mo_trim in_Mo cd_Mo_trim) rfl ⟨by decide +kernel, by omega, by omega⟩ ⟨by omega, by omega⟩ hK hP hD hS hA hN rfl ⟨rfl, rfl, rfl, by decide, by decide, by decide, by decide⟩ rfl rfl rfl hl.1 rfl rfl (Nat.le_of_ble_eq_true rfl) d_Lw_law_349 (fun H locs hP hD hS => ?_)
  refine lv_icmp_eq (tgt := 627) hx hb d_Lw_law_352 (by decide) (fun _ => ?_) (fun cz => absurd rfl cz)
  refine W.widen (k := cells + 1) (n := slots + 2) (by omega) (by omega) ?_
  exact kk _ _ H locs hJ' hP hD hS
set_option maxHeartbeats 4000000 in
set_option maxRecDepth 100000 in
theorem law_pieces (hx : p.tables.exec = Jvm.exec) (hb : c.code = code) (hml : c.maxLocals = 4) (hown : s.vm.findClass R_Lw = some m.cls) (hts : ∀ w ∈ lw_gd, w.before #[Value.ref b] s = true) (hX : va_X b L xs s s.heap) (hbl : b < s.heap.size) (hL : L ≤ 3072) (hN : qN s) (hK : va_K D cls [(cI, .int), (cJ, .long), (cZ, .boolean), (cI2, .int), (cB, .byte)] s) (hJ : qJ cI cJ cZ cI2 cB tp mo J wv wm) (hJ2 : J < 2 ^ 30) (hi : i + 6 ≤ L) (hP : va_P D cls (wv ++ wm) H) (hD : va_D (fun q : Nat => s.heap.size ≤ q) (wv ++ wm)) (hS : va_S (fun q : Nat => s.heap.size ≤ q) s.heap H locs) (hl : lv_has ls 4 [(0, .ref b), (1, .ref tp), (2, .ref mo), (3, .int (nI i))]) (hc : cells + 1 ≤ 600000 ∧ slots + 2 ≤ 7302250) (kk : ∀ (wv' wm' : va_W) (H' : Heap) (locs' : List Loc), qJ cI cJ cZ cI2 cB tp mo (J + 1) wv' wm' → va_P D cls (wv' ++ wm') H' → va_D (fun q : Nat => s.heap.size ≤ q) (wv' ++ wm') → va_S (fun q : Nat => s.heap.size ≤ q) s.heap H' locs' → W p l e room_1 s m #[Value.ref b] below meth c H' locs' (cells + 1) (slots + 2) Q (F0 m 627 ls [])) : W p l e room_1 s m #[Value.ref b] below meth c H locs cells slots Q (F0 m 357 ls []) := by
  have hA : ∀ q : Nat, s.heap.size ≤ q → (fun q : Nat => s.heap.size ≤ q) q := fun _ h => h
  have hbA : ¬ (fun q : Nat => s.heap.size ≤ q) b := Nat.not_le.mpr hbl
  have R1 : room_1.frames = 2048 := rfl
  have R2 : room_1.cells = 600000 := rfl
  have R3 : room_1.slots = 7302250 := rfl
  have R4 : room_1.locals = 84000 := rfl
  obtain ⟨rm, rm2, r, wv', wm', ⟨q1, q2, q3, q4⟩, ⟨z1, z2, z3, z4⟩, m1, m2, hJ'⟩ := qOp_pieces l D (xs (i + 1)) cI cJ cZ cI2 cB tp mo J wv wm hJ2 hJ
  obtain ⟨fs, x1, x2, x3, x4, x5, x6, x7, x8, x9, x10, x11, gs, y1, y2, y3, y4, y5, y6, rfl, rfl⟩ := hJ.form
  obtain ⟨fs', x1', x2', x3', x4', x5', x6', x7', x8', x9', x10', x11', gs', y1', y2', y3', y4', y5', y6', rfl, rfl⟩ := hJ'.form
  have hP : va_P D cls [(tp, .inr (4, fs)), x1, x2, x3, x4, x5, x6, x7, x8, x9, x10, x11, (mo, .inr (5, gs)), y1, y2, y3, y4, y5, y6] H := hP
  have hD : va_D (fun q : Nat => s.heap.size ≤ q) [(tp, .inr (4, fs)), x1, x2, x3, x4, x5, x6, x7, x8, x9, x10, x11, (mo, .inr (5, gs)), y1, y2, y3, y4, y5, y6] := hD
  refine lv_aload_n hx hb d_Lw_law_357 rfl (lv_at hl 1 rfl) ?_
  refine lv_aload_n hx hb d_Lw_law_358 rfl (lv_at hl 0 rfl) ?_
  refine lv_iload_n hx hb d_Lw_law_359 rfl (lv_at hl 3 rfl) ?_
  refine lv_iconst (v := nI 1) hx hb d_Lw_law_360 (by decide) ?_
  refine lv_iadd hx hb d_Lw_law_361 ?_
  refine q_ti (y := nI (i + 1)) (nI_add _ _) ?_
  refine va_sld hx hb hX hbl hbA hS (vp_in_nI (show i + 1 < L by omega) (by omega)) d_Lw_law_362 ?_
  refine q_ti (y := xs (i + 1)) (by rw [nI_clamp (by omega)]) ?_
  refine q_callVi (As := [.int (xs (i + 1))]) (rest := []) (wsC := [(tp, .inr (4, fs)), x1, x2, x3, x4, x5, x6, x7, x8, x9, x10, x11]) (wsR := [(mo, .inr (5, gs)), y1, y2, y3, y4, y5, y6]) (wsC' := [(tp, .inr (4, fs')), x1', x2', x3', x4', x5', x6', x7', x8', x9', x10', x11']) (wsN := [(tp, .inr (4, fs')), x1', x2', x3', x4', x5', x6', x7', x8', x9', x10', x11', (mo, .inr (5, gs)), y1, y2, y3, y4, y5, y6]) (isT := [0, 1]) (isC := [0, 1, 2, 3, 4, 5, 6, 7, 8, 9, 10, 11]) (isR := [12, 13, 14, 15, 16, 17, 18]) (isN := [7, 8, 9, 10, 11, 12, 13, 14, 15, 16, 17, 18, 0, 1, 2, 3, 4, 5, 6]) (k := 1) (ci := 4) (C := R_Tp) ⟨hx, hb, hml, hown, hts⟩ m1 (tw_V ml_Lw_46 im_Tp_pieces se_Tp_pieces in_Tp cd_Tp_pieces) rfl ⟨by decide +kernel, by omega, by omega⟩ ⟨by omega, by omega⟩ hK hP hD hS hA hN rfl ⟨rfl, rfl, rfl, by decide, by decide, by decide, by decide⟩ rfl rfl rfl hl.1 rfl rfl (Nat.le_of_ble_eq_true rfl) d_Lw_law_363 (fun H locs hP hD hS => ?_)
  have hP : va_P D cls [(tp, .inr (4, fs')), x1', x2', x3', x4', x5', x6', x7', x8', x9', x10', x11', (mo, .inr (5, gs)), y1, y2, y3, y4, y5, y6] H := hP
  have hD : va_D (fun q : Nat => s.heap.size ≤ q) [(tp, .inr (4, fs')), x1', x2', x3', x4', x5', x6', x7', x8', x9', x10', x11', (mo, .inr (5, gs)), y1, y2, y3, y4, y5, y6] := hD
  refine lv_aload_n hx hb d_Lw_law_366 rfl (lv_at hl 2 rfl) ?_
  refine lv_aload_n hx hb d_Lw_law_367 rfl (lv_at hl 0 rfl) ?_
  refine lv_iload_n hx hb d_Lw_law_368 rfl (lv_at hl 3 rfl) ?_
  refine lv_iconst (v := nI 1) hx hb d_Lw_law_369 (by decide) ?_
  refine lv_iadd hx hb d_Lw_law_370 ?_
  refine q_ti (y := nI (i + 1)) (nI_add _ _) ?_
  refine va_sld hx hb hX hbl hbA hS (vp_in_nI (show i + 1 < L by omega) (by omega)) d_Lw_law_371 ?_
  refine q_ti (y := xs (i + 1)) (by rw [nI_clamp (by omega)]) ?_
  refine q_callVi (As := [.int (xs (i + 1))]) (rest := [.int r]) (wsC := [(mo, .inr (5, gs)), y1, y2, y3, y4, y5, y6]) (wsR := [(tp, .inr (4, fs')), x1', x2', x3', x4', x5', x6', x7', x8', x9', x10', x11']) (wsC' := [(mo, .inr (5, gs')), y1', y2', y3', y4', y5', y6']) (wsN := [(tp, .inr (4, fs')), x1', x2', x3', x4', x5', x6', x7', x8', x9', x10', x11', (mo, .inr (5, gs')), y1', y2', y3', y4', y5', y6']) (isT := [2, 3, 4]) (isC := [12, 13, 14, 15, 16, 17, 18]) (isR := [0, 1, 2, 3, 4, 5, 6, 7, 8, 9, 10, 11]) (isN := [0, 1, 2, 3, 4, 5, 6, 7, 8, 9, 10, 11, 12, 13, 14, 15, 16, 17, 18]) (k := 1) (ci := 5) (C := R_Mo) ⟨hx, hb, hml, hown, hts⟩ m2 (tw_V ml_Lw_49 im_Mo_pieces se_Mo_pieces in_Mo cd_Mo_pieces) rfl ⟨by decide +kernel, by omega, by omega⟩ ⟨by omega, by omega⟩ hK hP hD hS hA hN rfl ⟨rfl, rfl, rfl, by decide, by decide, by decide, by decide⟩ rfl rfl rfl hl.1 rfl rfl (Nat.le_of_ble_eq_true rfl) d_Lw_law_372 (fun H locs hP hD hS => ?_)
  refine lv_icmp_eq (tgt := 627) hx hb d_Lw_law_375 (by decide) (fun _ => ?_) (fun cz => absurd rfl cz)
  refine W.widen (k := cells + 1) (n := slots + 2) (by omega) (by omega) ?_
  exact kk _ _ H locs hJ' hP hD hS
set_option maxHeartbeats 4000000 in
set_option maxRecDepth 100000 in
theorem law_next (hx : p.tables.exec = Jvm.exec) (hb : c.code = code) (hml : c.maxLocals = 4) (hown : s.vm.findClass R_Lw = some m.cls) (hts : ∀ w ∈ lw_gd, w.before #[Value.ref b] s = true) (hX : va_X b L xs s s.heap) (hbl : b < s.heap.size) (hL : L ≤ 3072) (hN : qN s) (hK : va_K D cls [(cI, .int), (cJ, .long), (cZ, .boolean), (cI2, .int), (cB, .byte)] s) (hJ : qJ cI cJ cZ cI2 cB tp mo J wv wm) (hJ2 : J < 2 ^ 30) (hi : i + 6 ≤ L) (hP : va_P D cls (wv ++ wm) H) (hD : va_D (fun q : Nat => s.heap.size ≤ q) (wv ++ wm)) (hS : va_S (fun q : Nat => s.heap.size ≤ q) s.heap H locs) (hl : lv_has ls 4 [(0, .ref b), (1, .ref tp), (2, .ref mo), (3, .int (nI i))]) (hc : cells + 1 ≤ 600000 ∧ slots + 2 ≤ 7302250) (kk : ∀ (wv' wm' : va_W) (H' : Heap) (locs' : List Loc), qJ cI cJ cZ cI2 cB tp mo (J + 1) wv' wm' → va_P D cls (wv' ++ wm') H' → va_D (fun q : Nat => s.heap.size ≤ q) (wv' ++ wm') → va_S (fun q : Nat => s.heap.size ≤ q) s.heap H' locs' → W p l e room_1 s m #[Value.ref b] below meth c H' locs' (cells + 1) (slots + 2) Q (F0 m 627 ls [])) : W p l e room_1 s m #[Value.ref b] below meth c H locs cells slots Q (F0 m 380 ls []) := by
  have hA : ∀ q : Nat, s.heap.size ≤ q → (fun q : Nat => s.heap.size ≤ q) q := fun _ h => h
  have hbA : ¬ (fun q : Nat => s.heap.size ≤ q) b := Nat.not_le.mpr hbl
  have R1 : room_1.frames = 2048 := rfl
  have R2 : room_1.cells = 600000 := rfl
  have R3 : room_1.slots = 7302250 := rfl
  have R4 : room_1.locals = 84000 := rfl
  obtain ⟨rm, rm2, r, wv', wm', ⟨q1, q2, q3, q4⟩, ⟨z1, z2, z3, z4⟩, m1, m2, hJ'⟩ := qOp_next l D (xs (i + 1)) (xs (i + 2)) cI cJ cZ cI2 cB tp mo J wv wm hJ2 hJ
  obtain ⟨fs, x1, x2, x3, x4, x5, x6, x7, x8, x9, x10, x11, gs, y1, y2, y3, y4, y5, y6, rfl, rfl⟩ := hJ.form
  obtain ⟨fs', x1', x2', x3', x4', x5', x6', x7', x8', x9', x10', x11', gs', y1', y2', y3', y4', y5', y6', rfl, rfl⟩ := hJ'.form
  have hP : va_P D cls [(tp, .inr (4, fs)), x1, x2, x3, x4, x5, x6, x7, x8, x9, x10, x11, (mo, .inr (5, gs)), y1, y2, y3, y4, y5, y6] H := hP
  have hD : va_D (fun q : Nat => s.heap.size ≤ q) [(tp, .inr (4, fs)), x1, x2, x3, x4, x5, x6, x7, x8, x9, x10, x11, (mo, .inr (5, gs)), y1, y2, y3, y4, y5, y6] := hD
  refine lv_aload_n hx hb d_Lw_law_380 rfl (lv_at hl 1 rfl) ?_
  refine lv_aload_n hx hb d_Lw_law_381 rfl (lv_at hl 0 rfl) ?_
  refine lv_iload_n hx hb d_Lw_law_382 rfl (lv_at hl 3 rfl) ?_
  refine lv_iconst (v := nI 1) hx hb d_Lw_law_383 (by decide) ?_
  refine lv_iadd hx hb d_Lw_law_384 ?_
  refine q_ti (y := nI (i + 1)) (nI_add _ _) ?_
  refine va_sld hx hb hX hbl hbA hS (vp_in_nI (show i + 1 < L by omega) (by omega)) d_Lw_law_385 ?_
  refine q_ti (y := xs (i + 1)) (by rw [nI_clamp (by omega)]) ?_
  refine lv_aload_n hx hb d_Lw_law_386 rfl (lv_at hl 0 rfl) ?_
  refine lv_iload_n hx hb d_Lw_law_387 rfl (lv_at hl 3 rfl) ?_
  refine lv_iconst (v := nI 2) hx hb d_Lw_law_388 (by decide) ?_
  refine lv_iadd hx hb d_Lw_law_389 ?_
  refine q_ti (y := nI (i + 2)) (nI_add _ _) ?_
  refine va_sld hx hb hX hbl hbA hS (vp_in_nI (show i + 2 < L by omega) (by omega)) d_Lw_law_390 ?_
  refine q_ti (y := xs (i + 2)) (by rw [nI_clamp (by omega)]) ?_
  refine q_callVi (As := [.int (xs (i + 1)), .int (xs (i + 2))]) (rest := []) (wsC := [(tp, .inr (4, fs)), x1, x2, x3, x4, x5, x6, x7, x8, x9, x10, x11]) (wsR := [(mo, .inr (5, gs)), y1, y2, y3, y4, y5, y6]) (wsC' := [(tp, .inr (4, fs')), x1', x2', x3', x4', x5', x6', x7', x8', x9', x10', x11']) (wsN := [(tp, .inr (4, fs')), x1', x2', x3', x4', x5', x6', x7', x8', x9', x10', x11', (mo, .inr (5, gs)), y1, y2, y3, y4, y5, y6]) (isT := [0, 1]) (isC := [0, 1, 2, 3, 4, 5, 6, 7, 8, 9, 10, 11]) (isR := [12, 13, 14, 15, 16, 17, 18]) (isN := [7, 8, 9, 10, 11, 12, 13, 14, 15, 16, 17, 18, 0, 1, 2, 3, 4, 5, 6]) (k := 2) (ci := 4) (C := R_Tp) ⟨hx, hb, hml, hown, hts⟩ m1 (tw_V ml_Lw_50 im_Tp_next se_Tp_next in_Tp cd_Tp_next) rfl ⟨by decide +kernel, by omega, by omega⟩ ⟨by omega, by omega⟩ hK hP hD hS hA hN rfl ⟨rfl, rfl, rfl, by decide, by decide, by decide, by decide⟩ rfl rfl rfl hl.1 rfl rfl (Nat.le_of_ble_eq_true rfl) d_Lw_law_391 (fun H locs hP hD hS => ?_)
  have hP : va_P D cls [(tp, .inr (4, fs')), x1', x2', x3', x4', x5', x6', x7', x8', x9', x10', x11', (mo, .inr (5, gs)), y1, y2, y3, y4, y5, y6] H := hP
  have hD : va_D (fun q : Nat => s.heap.size ≤ q) [(tp, .inr (4, fs')), x1', x2', x3', x4', x5', x6', x7', x8', x9', x10', x11', (mo, .inr (5, gs)), y1, y2, y3, y4, y5, y6] := hD
  refine lv_aload_n hx hb d_Lw_law_394 rfl (lv_at hl 2 rfl) ?_
  refine lv_aload_n hx hb d_Lw_law_395 rfl (lv_at hl 0 rfl) ?_
  refine lv_iload_n hx hb d_Lw_law_396 rfl (lv_at hl 3 rfl) ?_
  refine lv_iconst (v := nI 1) hx hb d_Lw_law_397 (by decide) ?_
  refine lv_iadd hx hb d_Lw_law_398 ?_
  refine q_ti (y := nI (i + 1)) (nI_add _ _) ?_
  refine va_sld hx hb hX hbl hbA hS (vp_in_nI (show i + 1 < L by omega) (by omega)) d_Lw_law_399 ?_
  refine q_ti (y := xs (i + 1)) (by rw [nI_clamp (by omega)]) ?_
  refine lv_aload_n hx hb d_Lw_law_400 rfl (lv_at hl 0 rfl) ?_
  refine lv_iload_n hx hb d_Lw_law_401 rfl (lv_at hl 3 rfl) ?_
  refine lv_iconst (v := nI 2) hx hb d_Lw_law_402 (by decide) ?_
  refine lv_iadd hx hb d_Lw_law_403 ?_
  refine q_ti (y := nI (i + 2)) (nI_add _ _) ?_
  refine va_sld hx hb hX hbl hbA hS (vp_in_nI (show i + 2 < L by omega) (by omega)) d_Lw_law_404 ?_
  refine q_ti (y := xs (i + 2)) (by rw [nI_clamp (by omega)]) ?_
  refine q_callVi (As := [.int (xs (i + 1)), .int (xs (i + 2))]) (rest := [.int r]) (wsC := [(mo, .inr (5, gs)), y1, y2, y3, y4, y5, y6]) (wsR := [(tp, .inr (4, fs')), x1', x2', x3', x4', x5', x6', x7', x8', x9', x10', x11']) (wsC' := [(mo, .inr (5, gs')), y1', y2', y3', y4', y5', y6']) (wsN := [(tp, .inr (4, fs')), x1', x2', x3', x4', x5', x6', x7', x8', x9', x10', x11', (mo, .inr (5, gs')), y1', y2', y3', y4', y5', y6']) (isT := [2, 3, 4]) (isC := [12, 13, 14, 15, 16, 17, 18]) (isR := [0, 1, 2, 3, 4, 5, 6, 7, 8, 9, 10, 11]) (isN := [0, 1, 2, 3, 4, 5, 6, 7, 8, 9, 10, 11, 12, 13, 14, 15, 16, 17, 18]) (k := 2) (ci := 5) (C := R_Mo) ⟨hx, hb, hml, hown, hts⟩ m2 (tw_V ml_Lw_53 im_Mo_next se_Mo_next in_Mo cd_Mo_next) rfl ⟨by decide +kernel, by omega, by omega⟩ ⟨by omega, by omega⟩ hK hP hD hS hA hN rfl ⟨rfl, rfl, rfl, by decide, by decide, by decide, by decide⟩ rfl rfl rfl hl.1 rfl rfl (Nat.le_of_ble_eq_true rfl) d_Lw_law_405 (fun H locs hP hD hS => ?_)
  refine lv_icmp_eq (tgt := 627) hx hb d_Lw_law_408 (by decide) (fun _ => ?_) (fun cz => absurd rfl cz)
  refine W.widen (k := cells + 1) (n := slots + 2) (by omega) (by omega) ?_
  exact kk _ _ H locs hJ' hP hD hS
set_option maxHeartbeats 4000000 in
set_option maxRecDepth 100000 in
theorem law_shared (hx : p.tables.exec = Jvm.exec) (hb : c.code = code) (hml : c.maxLocals = 4) (hown : s.vm.findClass R_Lw = some m.cls) (hts : ∀ w ∈ lw_gd, w.before #[Value.ref b] s = true) (hX : va_X b L xs s s.heap) (hbl : b < s.heap.size) (hL : L ≤ 3072) (hN : qN s) (hK : va_K D cls [(cI, .int), (cJ, .long), (cZ, .boolean), (cI2, .int), (cB, .byte)] s) (hJ : qJ cI cJ cZ cI2 cB tp mo J wv wm) (hJ2 : J < 2 ^ 30) (hi : i + 6 ≤ L) (hP : va_P D cls (wv ++ wm) H) (hD : va_D (fun q : Nat => s.heap.size ≤ q) (wv ++ wm)) (hS : va_S (fun q : Nat => s.heap.size ≤ q) s.heap H locs) (hl : lv_has ls 4 [(0, .ref b), (1, .ref tp), (2, .ref mo), (3, .int (nI i))]) (hc : cells + 1 ≤ 600000 ∧ slots + 2 ≤ 7302250) (kk : ∀ (wv' wm' : va_W) (H' : Heap) (locs' : List Loc), qJ cI cJ cZ cI2 cB tp mo (J + 1) wv' wm' → va_P D cls (wv' ++ wm') H' → va_D (fun q : Nat => s.heap.size ≤ q) (wv' ++ wm') → va_S (fun q : Nat => s.heap.size ≤ q) s.heap H' locs' → W p l e room_1 s m #[Value.ref b] below meth c H' locs' (cells + 1) (slots + 2) Q (F0 m 627 ls [])) : W p l e room_1 s m #[Value.ref b] below meth c H locs cells slots Q (F0 m 413 ls []) := by
  have hA : ∀ q : Nat, s.heap.size ≤ q → (fun q : Nat => s.heap.size ≤ q) q := fun _ h => h
  have hbA : ¬ (fun q : Nat => s.heap.size ≤ q) b := Nat.not_le.mpr hbl
  have R1 : room_1.frames = 2048 := rfl
  have R2 : room_1.cells = 600000 := rfl
  have R3 : room_1.slots = 7302250 := rfl
  have R4 : room_1.locals = 84000 := rfl
  obtain ⟨rm, rm2, r, wv', wm', ⟨q1, q2, q3, q4⟩, ⟨z1, z2, z3, z4⟩, m1, m2, hJ'⟩ := qOp_shared l D (xs (i + 1)) (xs (i + 2)) cI cJ cZ cI2 cB tp mo J wv wm hJ2 hJ
  obtain ⟨fs, x1, x2, x3, x4, x5, x6, x7, x8, x9, x10, x11, gs, y1, y2, y3, y4, y5, y6, rfl, rfl⟩ := hJ.form
  obtain ⟨fs', x1', x2', x3', x4', x5', x6', x7', x8', x9', x10', x11', gs', y1', y2', y3', y4', y5', y6', rfl, rfl⟩ := hJ'.form
  have hP : va_P D cls [(tp, .inr (4, fs)), x1, x2, x3, x4, x5, x6, x7, x8, x9, x10, x11, (mo, .inr (5, gs)), y1, y2, y3, y4, y5, y6] H := hP
  have hD : va_D (fun q : Nat => s.heap.size ≤ q) [(tp, .inr (4, fs)), x1, x2, x3, x4, x5, x6, x7, x8, x9, x10, x11, (mo, .inr (5, gs)), y1, y2, y3, y4, y5, y6] := hD
  refine lv_aload_n hx hb d_Lw_law_413 rfl (lv_at hl 1 rfl) ?_
  refine lv_aload_n hx hb d_Lw_law_414 rfl (lv_at hl 0 rfl) ?_
  refine lv_iload_n hx hb d_Lw_law_415 rfl (lv_at hl 3 rfl) ?_
  refine lv_iconst (v := nI 1) hx hb d_Lw_law_416 (by decide) ?_
  refine lv_iadd hx hb d_Lw_law_417 ?_
  refine q_ti (y := nI (i + 1)) (nI_add _ _) ?_
  refine va_sld hx hb hX hbl hbA hS (vp_in_nI (show i + 1 < L by omega) (by omega)) d_Lw_law_418 ?_
  refine q_ti (y := xs (i + 1)) (by rw [nI_clamp (by omega)]) ?_
  refine lv_aload_n hx hb d_Lw_law_419 rfl (lv_at hl 0 rfl) ?_
  refine lv_iload_n hx hb d_Lw_law_420 rfl (lv_at hl 3 rfl) ?_
  refine lv_iconst (v := nI 2) hx hb d_Lw_law_421 (by decide) ?_
  refine lv_iadd hx hb d_Lw_law_422 ?_
  refine q_ti (y := nI (i + 2)) (nI_add _ _) ?_
  refine va_sld hx hb hX hbl hbA hS (vp_in_nI (show i + 2 < L by omega) (by omega)) d_Lw_law_423 ?_
  refine q_ti (y := xs (i + 2)) (by rw [nI_clamp (by omega)]) ?_
  refine q_callVi (As := [.int (xs (i + 1)), .int (xs (i + 2))]) (rest := []) (wsC := [(tp, .inr (4, fs)), x1, x2, x3, x4, x5, x6, x7, x8, x9, x10, x11]) (wsR := [(mo, .inr (5, gs)), y1, y2, y3, y4, y5, y6]) (wsC' := [(tp, .inr (4, fs')), x1', x2', x3', x4', x5', x6', x7', x8', x9', x10', x11']) (wsN := [(tp, .inr (4, fs')), x1', x2', x3', x4', x5', x6', x7', x8', x9', x10', x11', (mo, .inr (5, gs)), y1, y2, y3, y4, y5, y6]) (isT := [0, 1]) (isC := [0, 1, 2, 3, 4, 5, 6, 7, 8, 9, 10, 11]) (isR := [12, 13, 14, 15, 16, 17, 18]) (isN := [7, 8, 9, 10, 11, 12, 13, 14, 15, 16, 17, 18, 0, 1, 2, 3, 4, 5, 6]) (k := 2) (ci := 4) (C := R_Tp) ⟨hx, hb, hml, hown, hts⟩ m1 (tw_V ml_Lw_54 im_Tp_shared se_Tp_shared in_Tp cd_Tp_shared) rfl ⟨by decide +kernel, by omega, by omega⟩ ⟨by omega, by omega⟩ hK hP hD hS hA hN rfl ⟨rfl, rfl, rfl, by decide, by decide, by decide, by decide⟩ rfl rfl rfl hl.1 rfl rfl (Nat.le_of_ble_eq_true rfl) d_Lw_law_424 (fun H locs hP hD hS => ?_)
  have hP : va_P D cls [(tp, .inr (4, fs')), x1', x2', x3', x4', x5', x6', x7', x8', x9', x10', x11', (mo, .inr (5, gs)), y1, y2, y3, y4, y5, y6] H := hP
  have hD : va_D (fun q : Nat => s.heap.size ≤ q) [(tp, .inr (4, fs')), x1', x2', x3', x4', x5', x6', x7', x8', x9', x10', x11', (mo, .inr (5, gs)), y1, y2, y3, y4, y5, y6] := hD
  refine lv_aload_n hx hb d_Lw_law_427 rfl (lv_at hl 2 rfl) ?_
  refine lv_aload_n hx hb d_Lw_law_428 rfl (lv_at hl 0 rfl) ?_
  refine lv_iload_n hx hb d_Lw_law_429 rfl (lv_at hl 3 rfl) ?_
  refine lv_iconst (v := nI 1) hx hb d_Lw_law_430 (by decide) ?_
  refine lv_iadd hx hb d_Lw_law_431 ?_
  refine q_ti (y := nI (i + 1)) (nI_add _ _) ?_
  refine va_sld hx hb hX hbl hbA hS (vp_in_nI (show i + 1 < L by omega) (by omega)) d_Lw_law_432 ?_
  refine q_ti (y := xs (i + 1)) (by rw [nI_clamp (by omega)]) ?_
  refine lv_aload_n hx hb d_Lw_law_433 rfl (lv_at hl 0 rfl) ?_
  refine lv_iload_n hx hb d_Lw_law_434 rfl (lv_at hl 3 rfl) ?_
  refine lv_iconst (v := nI 2) hx hb d_Lw_law_435 (by decide) ?_
  refine lv_iadd hx hb d_Lw_law_436 ?_
  refine q_ti (y := nI (i + 2)) (nI_add _ _) ?_
  refine va_sld hx hb hX hbl hbA hS (vp_in_nI (show i + 2 < L by omega) (by omega)) d_Lw_law_437 ?_
  refine q_ti (y := xs (i + 2)) (by rw [nI_clamp (by omega)]) ?_
  refine q_callVi (As := [.int (xs (i + 1)), .int (xs (i + 2))]) (rest := [.int r]) (wsC := [(mo, .inr (5, gs)), y1, y2, y3, y4, y5, y6]) (wsR := [(tp, .inr (4, fs')), x1', x2', x3', x4', x5', x6', x7', x8', x9', x10', x11']) (wsC' := [(mo, .inr (5, gs')), y1', y2', y3', y4', y5', y6']) (wsN := [(tp, .inr (4, fs')), x1', x2', x3', x4', x5', x6', x7', x8', x9', x10', x11', (mo, .inr (5, gs')), y1', y2', y3', y4', y5', y6']) (isT := [2, 3, 4]) (isC := [12, 13, 14, 15, 16, 17, 18]) (isR := [0, 1, 2, 3, 4, 5, 6, 7, 8, 9, 10, 11]) (isN := [0, 1, 2, 3, 4, 5, 6, 7, 8, 9, 10, 11, 12, 13, 14, 15, 16, 17, 18]) (k := 2) (ci := 5) (C := R_Mo) ⟨hx, hb, hml, hown, hts⟩ m2 (tw_V ml_Lw_57 im_Mo_shared se_Mo_shared in_Mo cd_Mo_shared) rfl ⟨by decide +kernel, by omega, by omega⟩ ⟨by omega, by omega⟩ hK hP hD hS hA hN rfl ⟨rfl, rfl, rfl, by decide, by decide, by decide, by decide⟩ rfl rfl rfl hl.1 rfl rfl (Nat.le_of_ble_eq_true rfl) d_Lw_law_438 (fun H locs hP hD hS => ?_)
  refine lv_icmp_eq (tgt := 627) hx hb d_Lw_law_441 (by decide) (fun _ => ?_) (fun cz => absurd rfl cz)
  refine W.widen (k := cells + 1) (n := slots + 2) (by omega) (by omega) ?_
  exact kk _ _ H locs hJ' hP hD hS
set_option maxHeartbeats 4000000 in
set_option maxRecDepth 100000 in
theorem law_tell (hx : p.tables.exec = Jvm.exec) (hb : c.code = code) (hml : c.maxLocals = 4) (hown : s.vm.findClass R_Lw = some m.cls) (hts : ∀ w ∈ lw_gd, w.before #[Value.ref b] s = true) (hX : va_X b L xs s s.heap) (hbl : b < s.heap.size) (hL : L ≤ 3072) (hN : qN s) (hK : va_K D cls [(cI, .int), (cJ, .long), (cZ, .boolean), (cI2, .int), (cB, .byte)] s) (hJ : qJ cI cJ cZ cI2 cB tp mo J wv wm) (hJ2 : J < 2 ^ 30) (hi : i + 6 ≤ L) (hP : va_P D cls (wv ++ wm) H) (hD : va_D (fun q : Nat => s.heap.size ≤ q) (wv ++ wm)) (hS : va_S (fun q : Nat => s.heap.size ≤ q) s.heap H locs) (hl : lv_has ls 4 [(0, .ref b), (1, .ref tp), (2, .ref mo), (3, .int (nI i))]) (hc : cells + 1 ≤ 600000 ∧ slots + 2 ≤ 7302250) (kk : ∀ (wv' wm' : va_W) (H' : Heap) (locs' : List Loc), qJ cI cJ cZ cI2 cB tp mo (J + 1) wv' wm' → va_P D cls (wv' ++ wm') H' → va_D (fun q : Nat => s.heap.size ≤ q) (wv' ++ wm') → va_S (fun q : Nat => s.heap.size ≤ q) s.heap H' locs' → W p l e room_1 s m #[Value.ref b] below meth c H' locs' (cells + 1) (slots + 2) Q (F0 m 627 ls [])) : W p l e room_1 s m #[Value.ref b] below meth c H locs cells slots Q (F0 m 446 ls []) := by
  have hA : ∀ q : Nat, s.heap.size ≤ q → (fun q : Nat => s.heap.size ≤ q) q := fun _ h => h
  have hbA : ¬ (fun q : Nat => s.heap.size ≤ q) b := Nat.not_le.mpr hbl
  have R1 : room_1.frames = 2048 := rfl
  have R2 : room_1.cells = 600000 := rfl
  have R3 : room_1.slots = 7302250 := rfl
  have R4 : room_1.locals = 84000 := rfl
  obtain ⟨rm, rm2, r, wv', wm', ⟨q1, q2, q3, q4⟩, ⟨z1, z2, z3, z4⟩, m1, m2, hJ'⟩ := qOp_tell l D (xs (i + 1)) (xs (i + 2)) cI cJ cZ cI2 cB tp mo J wv wm hJ2 hJ
  obtain ⟨fs, x1, x2, x3, x4, x5, x6, x7, x8, x9, x10, x11, gs, y1, y2, y3, y4, y5, y6, rfl, rfl⟩ := hJ.form
  obtain ⟨fs', x1', x2', x3', x4', x5', x6', x7', x8', x9', x10', x11', gs', y1', y2', y3', y4', y5', y6', rfl, rfl⟩ := hJ'.form
  have hP : va_P D cls [(tp, .inr (4, fs)), x1, x2, x3, x4, x5, x6, x7, x8, x9, x10, x11, (mo, .inr (5, gs)), y1, y2, y3, y4, y5, y6] H := hP
  have hD : va_D (fun q : Nat => s.heap.size ≤ q) [(tp, .inr (4, fs)), x1, x2, x3, x4, x5, x6, x7, x8, x9, x10, x11, (mo, .inr (5, gs)), y1, y2, y3, y4, y5, y6] := hD
  refine lv_aload_n hx hb d_Lw_law_446 rfl (lv_at hl 1 rfl) ?_
  refine lv_aload_n hx hb d_Lw_law_447 rfl (lv_at hl 0 rfl) ?_
  refine lv_iload_n hx hb d_Lw_law_448 rfl (lv_at hl 3 rfl) ?_
  refine lv_iconst (v := nI 1) hx hb d_Lw_law_449 (by decide) ?_
  refine lv_iadd hx hb d_Lw_law_450 ?_
  refine q_ti (y := nI (i + 1)) (nI_add _ _) ?_
  refine va_sld hx hb hX hbl hbA hS (vp_in_nI (show i + 1 < L by omega) (by omega)) d_Lw_law_451 ?_
  refine q_ti (y := xs (i + 1)) (by rw [nI_clamp (by omega)]) ?_
  refine lv_aload_n hx hb d_Lw_law_452 rfl (lv_at hl 0 rfl) ?_
  refine lv_iload_n hx hb d_Lw_law_453 rfl (lv_at hl 3 rfl) ?_
  refine lv_iconst (v := nI 2) hx hb d_Lw_law_454 (by decide) ?_
  refine lv_iadd hx hb d_Lw_law_455 ?_
  refine q_ti (y := nI (i + 2)) (nI_add _ _) ?_
  refine va_sld hx hb hX hbl hbA hS (vp_in_nI (show i + 2 < L by omega) (by omega)) d_Lw_law_456 ?_
  refine q_ti (y := xs (i + 2)) (by rw [nI_clamp (by omega)]) ?_
  refine q_callVi (As := [.int (xs (i + 1)), .int (xs (i + 2))]) (rest := []) (wsC := [(tp, .inr (4, fs)), x1, x2, x3, x4, x5, x6, x7, x8, x9, x10, x11]) (wsR := [(mo, .inr (5, gs)), y1, y2, y3, y4, y5, y6]) (wsC' := [(tp, .inr (4, fs')), x1', x2', x3', x4', x5', x6', x7', x8', x9', x10', x11']) (wsN := [(tp, .inr (4, fs')), x1', x2', x3', x4', x5', x6', x7', x8', x9', x10', x11', (mo, .inr (5, gs)), y1, y2, y3, y4, y5, y6]) (isT := [0, 1]) (isC := [0, 1, 2, 3, 4, 5, 6, 7, 8, 9, 10, 11]) (isR := [12, 13, 14, 15, 16, 17, 18]) (isN := [7, 8, 9, 10, 11, 12, 13, 14, 15, 16, 17, 18, 0, 1, 2, 3, 4, 5, 6]) (k := 2) (ci := 4) (C := R_Tp) ⟨hx, hb, hml, hown, hts⟩ m1 (tw_V ml_Lw_58 im_Tp_tell se_Tp_tell in_Tp cd_Tp_tell) rfl ⟨by decide +kernel, by omega, by omega⟩ ⟨by omega, by omega⟩ hK hP hD hS hA hN rfl ⟨rfl, rfl, rfl, by decide, by decide, by decide, by decide⟩ rfl rfl rfl hl.1 rfl rfl (Nat.le_of_ble_eq_true rfl) d_Lw_law_457 (fun H locs hP hD hS => ?_)
  have hP : va_P D cls [(tp, .inr (4, fs')), x1', x2', x3', x4', x5', x6', x7', x8', x9', x10', x11', (mo, .inr (5, gs)), y1, y2, y3, y4, y5, y6] H := hP
  have hD : va_D (fun q : Nat => s.heap.size ≤ q) [(tp, .inr (4, fs')), x1', x2', x3', x4', x5', x6', x7', x8', x9', x10', x11', (mo, .inr (5, gs)), y1, y2, y3, y4, y5, y6] := hD
  refine lv_aload_n hx hb d_Lw_law_460 rfl (lv_at hl 2 rfl) ?_
  refine lv_aload_n hx hb d_Lw_law_461 rfl (lv_at hl 0 rfl) ?_
  refine lv_iload_n hx hb d_Lw_law_462 rfl (lv_at hl 3 rfl) ?_
  refine lv_iconst (v := nI 1) hx hb d_Lw_law_463 (by decide) ?_
  refine lv_iadd hx hb d_Lw_law_464 ?_
  refine q_ti (y := nI (i + 1)) (nI_add _ _) ?_
  refine va_sld hx hb hX hbl hbA hS (vp_in_nI (show i + 1 < L by omega) (by omega)) d_Lw_law_465 ?_
  refine q_ti (y := xs (i + 1)) (by rw [nI_clamp (by omega)]) ?_
  refine lv_aload_n hx hb d_Lw_law_466 rfl (lv_at hl 0 rfl) ?_
  refine lv_iload_n hx hb d_Lw_law_467 rfl (lv_at hl 3 rfl) ?_
  refine lv_iconst (v := nI 2) hx hb d_Lw_law_468 (by decide) ?_
  refine lv_iadd hx hb d_Lw_law_469 ?_
  refine q_ti (y := nI (i + 2)) (nI_add _ _) ?_
  refine va_sld hx hb hX hbl hbA hS (vp_in_nI (show i + 2 < L by omega) (by omega)) d_Lw_law_470 ?_
  refine q_ti (y := xs (i + 2)) (by rw [nI_clamp (by omega)]) ?_
  refine q_callVi (As := [.int (xs (i + 1)), .int (xs (i + 2))]) (rest := [.int r]) (wsC := [(mo, .inr (5, gs)), y1, y2, y3, y4, y5, y6]) (wsR := [(tp, .inr (4, fs')), x1', x2', x3', x4', x5', x6', x7', x8', x9', x10', x11']) (wsC' := [(mo, .inr (5, gs')), y1', y2', y3', y4', y5', y6']) (wsN := [(tp, .inr (4, fs')), x1', x2', x3', x4', x5', x6', x7', x8', x9', x10', x11', (mo, .inr (5, gs')), y1', y2', y3', y4', y5', y6']) (isT := [2, 3, 4]) (isC := [12, 13, 14, 15, 16, 17, 18]) (isR := [0, 1, 2, 3, 4, 5, 6, 7, 8, 9, 10, 11]) (isN := [0, 1, 2, 3, 4, 5, 6, 7, 8, 9, 10, 11, 12, 13, 14, 15, 16, 17, 18]) (k := 2) (ci := 5) (C := R_Mo) ⟨hx, hb, hml, hown, hts⟩ m2 (tw_V ml_Lw_61 im_Mo_tell se_Mo_tell in_Mo cd_Mo_tell) rfl ⟨by decide +kernel, by omega, by omega⟩ ⟨by omega, by omega⟩ hK hP hD hS hA hN rfl ⟨rfl, rfl, rfl, by decide, by decide, by decide, by decide⟩ rfl rfl rfl hl.1 rfl rfl (Nat.le_of_ble_eq_true rfl) d_Lw_law_471 (fun H locs hP hD hS => ?_)
  refine lv_icmp_eq (tgt := 627) hx hb d_Lw_law_474 (by decide) (fun _ => ?_) (fun cz => absurd rfl cz)
  refine W.widen (k := cells + 1) (n := slots + 2) (by omega) (by omega) ?_
  exact kk _ _ H locs hJ' hP hD hS
set_option maxHeartbeats 4000000 in
set_option maxRecDepth 100000 in
theorem law_told (hx : p.tables.exec = Jvm.exec) (hb : c.code = code) (hml : c.maxLocals = 4) (hown : s.vm.findClass R_Lw = some m.cls) (hts : ∀ w ∈ lw_gd, w.before #[Value.ref b] s = true) (hX : va_X b L xs s s.heap) (hbl : b < s.heap.size) (hL : L ≤ 3072) (hN : qN s) (hK : va_K D cls [(cI, .int), (cJ, .long), (cZ, .boolean), (cI2, .int), (cB, .byte)] s) (hJ : qJ cI cJ cZ cI2 cB tp mo J wv wm) (hJ2 : J < 2 ^ 30) (hi : i + 6 ≤ L) (hP : va_P D cls (wv ++ wm) H) (hD : va_D (fun q : Nat => s.heap.size ≤ q) (wv ++ wm)) (hS : va_S (fun q : Nat => s.heap.size ≤ q) s.heap H locs) (hl : lv_has ls 4 [(0, .ref b), (1, .ref tp), (2, .ref mo), (3, .int (nI i))]) (hc : cells + 1 ≤ 600000 ∧ slots + 2 ≤ 7302250) (kk : ∀ (wv' wm' : va_W) (H' : Heap) (locs' : List Loc), qJ cI cJ cZ cI2 cB tp mo (J + 1) wv' wm' → va_P D cls (wv' ++ wm') H' → va_D (fun q : Nat => s.heap.size ≤ q) (wv' ++ wm') → va_S (fun q : Nat => s.heap.size ≤ q) s.heap H' locs' → W p l e room_1 s m #[Value.ref b] below meth c H' locs' (cells + 1) (slots + 2) Q (F0 m 627 ls [])) : W p l e room_1 s m #[Value.ref b] below meth c H locs cells slots Q (F0 m 479 ls []) := by
  have hA : ∀ q : Nat, s.heap.size ≤ q → (fun q : Nat => s.heap.size ≤ q) q := fun _ h => h
  have hbA : ¬ (fun q : Nat => s.heap.size ≤ q) b := Nat.not_le.mpr hbl
  have R1 : room_1.frames = 2048 := rfl
  have R2 : room_1.cells = 600000 := rfl
  have R3 : room_1.slots = 7302250 := rfl
  have R4 : room_1.locals = 84000 := rfl
  obtain ⟨rm, rm2, r, wv', wm', ⟨q1, q2, q3, q4⟩, ⟨z1, z2, z3, z4⟩, m1, m2, hJ'⟩ := qOp_told l D (xs (i + 1)) cI cJ cZ cI2 cB tp mo J wv wm hJ2 hJ
  obtain ⟨fs, x1, x2, x3, x4, x5, x6, x7, x8, x9, x10, x11, gs, y1, y2, y3, y4, y5, y6, rfl, rfl⟩ := hJ.form
  obtain ⟨fs', x1', x2', x3', x4', x5', x6', x7', x8', x9', x10', x11', gs', y1', y2', y3', y4', y5', y6', rfl, rfl⟩ := hJ'.form
  have hP : va_P D cls [(tp, .inr (4, fs)), x1, x2, x3, x4, x5, x6, x7, x8, x9, x10, x11, (mo, .inr (5, gs)), y1, y2, y3, y4, y5, y6] H := hP
  have hD : va_D (fun q : Nat => s.heap.size ≤ q) [(tp, .inr (4, fs)), x1, x2, x3, x4, x5, x6, x7, x8, x9, x10, x11, (mo, .inr (5, gs)), y1, y2, y3, y4, y5, y6] := hD
  refine lv_aload_n hx hb d_Lw_law_479 rfl (lv_at hl 1 rfl) ?_
  refine lv_aload_n hx hb d_Lw_law_480 rfl (lv_at hl 0 rfl) ?_
  refine lv_iload_n hx hb d_Lw_law_481 rfl (lv_at hl 3 rfl) ?_
  refine lv_iconst (v := nI 1) hx hb d_Lw_law_482 (by decide) ?_
  refine lv_iadd hx hb d_Lw_law_483 ?_
  refine q_ti (y := nI (i + 1)) (nI_add _ _) ?_
  refine va_sld hx hb hX hbl hbA hS (vp_in_nI (show i + 1 < L by omega) (by omega)) d_Lw_law_484 ?_
  refine q_ti (y := xs (i + 1)) (by rw [nI_clamp (by omega)]) ?_
  refine q_callVi (As := [.int (xs (i + 1))]) (rest := []) (wsC := [(tp, .inr (4, fs)), x1, x2, x3, x4, x5, x6, x7, x8, x9, x10, x11]) (wsR := [(mo, .inr (5, gs)), y1, y2, y3, y4, y5, y6]) (wsC' := [(tp, .inr (4, fs')), x1', x2', x3', x4', x5', x6', x7', x8', x9', x10', x11']) (wsN := [(tp, .inr (4, fs')), x1', x2', x3', x4', x5', x6', x7', x8', x9', x10', x11', (mo, .inr (5, gs)), y1, y2, y3, y4, y5, y6]) (isT := [0, 1]) (isC := [0, 1, 2, 3, 4, 5, 6, 7, 8, 9, 10, 11]) (isR := [12, 13, 14, 15, 16, 17, 18]) (isN := [7, 8, 9, 10, 11, 12, 13, 14, 15, 16, 17, 18, 0, 1, 2, 3, 4, 5, 6]) (k := 1) (ci := 4) (C := R_Tp) ⟨hx, hb, hml, hown, hts⟩ m1 (tw_V ml_Lw_62 im_Tp_told se_Tp_told in_Tp cd_Tp_told) rfl ⟨by decide +kernel, by omega, by omega⟩ ⟨by omega, by omega⟩ hK hP hD hS hA hN rfl ⟨rfl, rfl, rfl, by decide, by decide, by decide, by decide⟩ rfl rfl rfl hl.1 rfl rfl (Nat.le_of_ble_eq_true rfl) d_Lw_law_485 (fun H locs hP hD hS => ?_)
  have hP : va_P D cls [(tp, .inr (4, fs')), x1', x2', x3', x4', x5', x6', x7', x8', x9', x10', x11', (mo, .inr (5, gs)), y1, y2, y3, y4, y5, y6] H := hP
  have hD : va_D (fun q : Nat => s.heap.size ≤ q) [(tp, .inr (4, fs')), x1', x2', x3', x4', x5', x6', x7', x8', x9', x10', x11', (mo, .inr (5, gs)), y1, y2, y3, y4, y5, y6] := hD
  refine lv_aload_n hx hb d_Lw_law_488 rfl (lv_at hl 2 rfl) ?_
  refine lv_aload_n hx hb d_Lw_law_489 rfl (lv_at hl 0 rfl) ?_
  refine lv_iload_n hx hb d_Lw_law_490 rfl (lv_at hl 3 rfl) ?_
  refine lv_iconst (v := nI 1) hx hb d_Lw_law_491 (by decide) ?_
  refine lv_iadd hx hb d_Lw_law_492 ?_
  refine q_ti (y := nI (i + 1)) (nI_add _ _) ?_
  refine va_sld hx hb hX hbl hbA hS (vp_in_nI (show i + 1 < L by omega) (by omega)) d_Lw_law_493 ?_
  refine q_ti (y := xs (i + 1)) (by rw [nI_clamp (by omega)]) ?_
  refine q_callVi (As := [.int (xs (i + 1))]) (rest := [.int r]) (wsC := [(mo, .inr (5, gs)), y1, y2, y3, y4, y5, y6]) (wsR := [(tp, .inr (4, fs')), x1', x2', x3', x4', x5', x6', x7', x8', x9', x10', x11']) (wsC' := [(mo, .inr (5, gs')), y1', y2', y3', y4', y5', y6']) (wsN := [(tp, .inr (4, fs')), x1', x2', x3', x4', x5', x6', x7', x8', x9', x10', x11', (mo, .inr (5, gs')), y1', y2', y3', y4', y5', y6']) (isT := [2, 3, 4]) (isC := [12, 13, 14, 15, 16, 17, 18]) (isR := [0, 1, 2, 3, 4, 5, 6, 7, 8, 9, 10, 11]) (isN := [0, 1, 2, 3, 4, 5, 6, 7, 8, 9, 10, 11, 12, 13, 14, 15, 16, 17, 18]) (k := 1) (ci := 5) (C := R_Mo) ⟨hx, hb, hml, hown, hts⟩ m2 (tw_V ml_Lw_65 im_Mo_told se_Mo_told in_Mo cd_Mo_told) rfl ⟨by decide +kernel, by omega, by omega⟩ ⟨by omega, by omega⟩ hK hP hD hS hA hN rfl ⟨rfl, rfl, rfl, by decide, by decide, by decide, by decide⟩ rfl rfl rfl hl.1 rfl rfl (Nat.le_of_ble_eq_true rfl) d_Lw_law_494 (fun H locs hP hD hS => ?_)
  refine lv_icmp_eq (tgt := 627) hx hb d_Lw_law_497 (by decide) (fun _ => ?_) (fun cz => absurd rfl cz)
  refine W.widen (k := cells + 1) (n := slots + 2) (by omega) (by omega) ?_
  exact kk _ _ H locs hJ' hP hD hS
set_option maxHeartbeats 4000000 in
set_option maxRecDepth 100000 in
theorem law_keep (hx : p.tables.exec = Jvm.exec) (hb : c.code = code) (hml : c.maxLocals = 4) (hown : s.vm.findClass R_Lw = some m.cls) (hts : ∀ w ∈ lw_gd, w.before #[Value.ref b] s = true) (hX : va_X b L xs s s.heap) (hbl : b < s.heap.size) (hL : L ≤ 3072) (hN : qN s) (hK : va_K D cls [(cI, .int), (cJ, .long), (cZ, .boolean), (cI2, .int), (cB, .byte)] s) (hJ : qJ cI cJ cZ cI2 cB tp mo J wv wm) (hJ2 : J < 2 ^ 30) (hi : i + 6 ≤ L) (hP : va_P D cls (wv ++ wm) H) (hD : va_D (fun q : Nat => s.heap.size ≤ q) (wv ++ wm)) (hS : va_S (fun q : Nat => s.heap.size ≤ q) s.heap H locs) (hl : lv_has ls 4 [(0, .ref b), (1, .ref tp), (2, .ref mo), (3, .int (nI i))]) (hc : cells + 1 ≤ 600000 ∧ slots + 2 ≤ 7302250) (kk : ∀ (wv' wm' : va_W) (H' : Heap) (locs' : List Loc), qJ cI cJ cZ cI2 cB tp mo (J + 1) wv' wm' → va_P D cls (wv' ++ wm') H' → va_D (fun q : Nat => s.heap.size ≤ q) (wv' ++ wm') → va_S (fun q : Nat => s.heap.size ≤ q) s.heap H' locs' → W p l e room_1 s m #[Value.ref b] below meth c H' locs' (cells + 1) (slots + 2) Q (F0 m 627 ls [])) : W p l e room_1 s m #[Value.ref b] below meth c H locs cells slots Q (F0 m 502 ls []) := by
  have hA : ∀ q : Nat, s.heap.size ≤ q → (fun q : Nat => s.heap.size ≤ q) q := fun _ h => h
  have hbA : ¬ (fun q : Nat => s.heap.size ≤ q) b := Nat.not_le.mpr hbl
  have R1 : room_1.frames = 2048 := rfl
  have R2 : room_1.cells = 600000 := rfl
  have R3 : room_1.slots = 7302250 := rfl
  have R4 : room_1.locals = 84000 := rfl
  obtain ⟨rm, rm2, r, wv', wm', ⟨q1, q2, q3, q4⟩, ⟨z1, z2, z3, z4⟩, m1, m2, hJ'⟩ := qOp_keep l D (xs (i + 1)) (((xs (i + 2)).toInt64 <<< ((nI 32).toInt64 &&& 63)) ||| ((xs (i + 3)).toInt64 &&& 4294967295)) cI cJ cZ cI2 cB tp mo J wv wm hJ2 hJ
  obtain ⟨fs, x1, x2, x3, x4, x5, x6, x7, x8, x9, x10, x11, gs, y1, y2, y3, y4, y5, y6, rfl, rfl⟩ := hJ.form
  obtain ⟨fs', x1', x2', x3', x4', x5', x6', x7', x8', x9', x10', x11', gs', y1', y2', y3', y4', y5', y6', rfl, rfl⟩ := hJ'.form
  have hP : va_P D cls [(tp, .inr (4, fs)), x1, x2, x3, x4, x5, x6, x7, x8, x9, x10, x11, (mo, .inr (5, gs)), y1, y2, y3, y4, y5, y6] H := hP
  have hD : va_D (fun q : Nat => s.heap.size ≤ q) [(tp, .inr (4, fs)), x1, x2, x3, x4, x5, x6, x7, x8, x9, x10, x11, (mo, .inr (5, gs)), y1, y2, y3, y4, y5, y6] := hD
  refine lv_aload_n hx hb d_Lw_law_502 rfl (lv_at hl 1 rfl) ?_
  refine lv_aload_n hx hb d_Lw_law_503 rfl (lv_at hl 0 rfl) ?_
  refine lv_iload_n hx hb d_Lw_law_504 rfl (lv_at hl 3 rfl) ?_
  refine lv_iconst (v := nI 1) hx hb d_Lw_law_505 (by decide) ?_
  refine lv_iadd hx hb d_Lw_law_506 ?_
  refine q_ti (y := nI (i + 1)) (nI_add _ _) ?_
  refine va_sld hx hb hX hbl hbA hS (vp_in_nI (show i + 1 < L by omega) (by omega)) d_Lw_law_507 ?_
  refine q_ti (y := xs (i + 1)) (by rw [nI_clamp (by omega)]) ?_
  refine lv_aload_n hx hb d_Lw_law_508 rfl (lv_at hl 0 rfl) ?_
  refine lv_iload_n hx hb d_Lw_law_509 rfl (lv_at hl 3 rfl) ?_
  refine lv_iconst (v := nI 2) hx hb d_Lw_law_510 (by decide) ?_
  refine lv_iadd hx hb d_Lw_law_511 ?_
  refine q_ti (y := nI (i + 2)) (nI_add _ _) ?_
  refine va_sld hx hb hX hbl hbA hS (vp_in_nI (show i + 2 < L by omega) (by omega)) d_Lw_law_512 ?_
  refine q_ti (y := xs (i + 2)) (by rw [nI_clamp (by omega)]) ?_
  refine lv_i2l hx hb d_Lw_law_513 rfl ?_
  refine lv_bipush (v := nI 32) hx hb d_Lw_law_514 (by decide) ?_
  refine lv_lshl hx hb d_Lw_law_516 rfl ?_
  refine lv_aload_n hx hb d_Lw_law_517 rfl (lv_at hl 0 rfl) ?_
  refine lv_iload_n hx hb d_Lw_law_518 rfl (lv_at hl 3 rfl) ?_
  refine lv_iconst (v := nI 3) hx hb d_Lw_law_519 (by decide) ?_
  refine lv_iadd hx hb d_Lw_law_520 ?_
  refine q_ti (y := nI (i + 3)) (nI_add _ _) ?_
  refine va_sld hx hb hX hbl hbA hS (vp_in_nI (show i + 3 < L by omega) (by omega)) d_Lw_law_521 ?_
  refine q_ti (y := xs (i + 3)) (by rw [nI_clamp (by omega)]) ?_
  refine lv_i2l hx hb d_Lw_law_522 rfl ?_
  refine lv_ldc2 hx hb hown (hts _ kl_Lw_66) d_Lw_law_523 ?_
  refine lv_land hx hb d_Lw_law_526 ?_
  refine lv_lor hx hb d_Lw_law_527 ?_
  refine q_callVi (As := [.int (xs (i + 1)), .long (((xs (i + 2)).toInt64 <<< ((nI 32).toInt64 &&& 63)) ||| ((xs (i + 3)).toInt64 &&& 4294967295))]) (rest := []) (wsC := [(tp, .inr (4, fs)), x1, x2, x3, x4, x5, x6, x7, x8, x9, x10, x11]) (wsR := [(mo, .inr (5, gs)), y1, y2, y3, y4, y5, y6]) (wsC' := [(tp, .inr (4, fs')), x1', x2', x3', x4', x5', x6', x7', x8', x9', x10', x11']) (wsN := [(tp, .inr (4, fs')), x1', x2', x3', x4', x5', x6', x7', x8', x9', x10', x11', (mo, .inr (5, gs)), y1, y2, y3, y4, y5, y6]) (isT := [0, 1]) (isC := [0, 1, 2, 3, 4, 5, 6, 7, 8, 9, 10, 11]) (isR := [12, 13, 14, 15, 16, 17, 18]) (isN := [7, 8, 9, 10, 11, 12, 13, 14, 15, 16, 17, 18, 0, 1, 2, 3, 4, 5, 6]) (k := 2) (ci := 4) (C := R_Tp) ⟨hx, hb, hml, hown, hts⟩ m1 (tw_V ml_Lw_68 im_Tp_keep se_Tp_keep in_Tp cd_Tp_keep) rfl ⟨by decide +kernel, by omega, by omega⟩ ⟨by omega, by omega⟩ hK hP hD hS hA hN rfl ⟨rfl, rfl, rfl, by decide, by decide, by decide, by decide⟩ rfl rfl rfl hl.1 rfl rfl (Nat.le_of_ble_eq_true rfl) d_Lw_law_528 (fun H locs hP hD hS => ?_)
  have hP : va_P D cls [(tp, .inr (4, fs')), x1', x2', x3', x4', x5', x6', x7', x8', x9', x10', x11', (mo, .inr (5, gs)), y1, y2, y3, y4, y5, y6] H := hP
  have hD : va_D (fun q : Nat => s.heap.size ≤ q) [(tp, .inr (4, fs')), x1', x2', x3', x4', x5', x6', x7', x8', x9', x10', x11', (mo, .inr (5, gs)), y1, y2, y3, y4, y5, y6] := hD
  refine lv_aload_n hx hb d_Lw_law_531 rfl (lv_at hl 2 rfl) ?_
  refine lv_aload_n hx hb d_Lw_law_532 rfl (lv_at hl 0 rfl) ?_
  refine lv_iload_n hx hb d_Lw_law_533 rfl (lv_at hl 3 rfl) ?_
  refine lv_iconst (v := nI 1) hx hb d_Lw_law_534 (by decide) ?_
  refine lv_iadd hx hb d_Lw_law_535 ?_
  refine q_ti (y := nI (i + 1)) (nI_add _ _) ?_
  refine va_sld hx hb hX hbl hbA hS (vp_in_nI (show i + 1 < L by omega) (by omega)) d_Lw_law_536 ?_
  refine q_ti (y := xs (i + 1)) (by rw [nI_clamp (by omega)]) ?_
  refine lv_aload_n hx hb d_Lw_law_537 rfl (lv_at hl 0 rfl) ?_
  refine lv_iload_n hx hb d_Lw_law_538 rfl (lv_at hl 3 rfl) ?_
  refine lv_iconst (v := nI 2) hx hb d_Lw_law_539 (by decide) ?_
  refine lv_iadd hx hb d_Lw_law_540 ?_
  refine q_ti (y := nI (i + 2)) (nI_add _ _) ?_
  refine va_sld hx hb hX hbl hbA hS (vp_in_nI (show i + 2 < L by omega) (by omega)) d_Lw_law_541 ?_
  refine q_ti (y := xs (i + 2)) (by rw [nI_clamp (by omega)]) ?_
  refine lv_i2l hx hb d_Lw_law_542 rfl ?_
  refine lv_bipush (v := nI 32) hx hb d_Lw_law_543 (by decide) ?_
  refine lv_lshl hx hb d_Lw_law_545 rfl ?_
  refine lv_aload_n hx hb d_Lw_law_546 rfl (lv_at hl 0 rfl) ?_
  refine lv_iload_n hx hb d_Lw_law_547 rfl (lv_at hl 3 rfl) ?_
  refine lv_iconst (v := nI 3) hx hb d_Lw_law_548 (by decide) ?_
  refine lv_iadd hx hb d_Lw_law_549 ?_
  refine q_ti (y := nI (i + 3)) (nI_add _ _) ?_
  refine va_sld hx hb hX hbl hbA hS (vp_in_nI (show i + 3 < L by omega) (by omega)) d_Lw_law_550 ?_
  refine q_ti (y := xs (i + 3)) (by rw [nI_clamp (by omega)]) ?_
  refine lv_i2l hx hb d_Lw_law_551 rfl ?_
  refine lv_ldc2 hx hb hown (hts _ kl_Lw_66) d_Lw_law_552 ?_
  refine lv_land hx hb d_Lw_law_555 ?_
  refine lv_lor hx hb d_Lw_law_556 ?_
  refine q_callVi (As := [.int (xs (i + 1)), .long (((xs (i + 2)).toInt64 <<< ((nI 32).toInt64 &&& 63)) ||| ((xs (i + 3)).toInt64 &&& 4294967295))]) (rest := [.int r]) (wsC := [(mo, .inr (5, gs)), y1, y2, y3, y4, y5, y6]) (wsR := [(tp, .inr (4, fs')), x1', x2', x3', x4', x5', x6', x7', x8', x9', x10', x11']) (wsC' := [(mo, .inr (5, gs')), y1', y2', y3', y4', y5', y6']) (wsN := [(tp, .inr (4, fs')), x1', x2', x3', x4', x5', x6', x7', x8', x9', x10', x11', (mo, .inr (5, gs')), y1', y2', y3', y4', y5', y6']) (isT := [2, 3, 4]) (isC := [12, 13, 14, 15, 16, 17, 18]) (isR := [0, 1, 2, 3, 4, 5, 6, 7, 8, 9, 10, 11]) (isN := [0, 1, 2, 3, 4, 5, 6, 7, 8, 9, 10, 11, 12, 13, 14, 15, 16, 17, 18]) (k := 2) (ci := 5) (C := R_Mo) ⟨hx, hb, hml, hown, hts⟩ m2 (tw_V ml_Lw_72 im_Mo_keep se_Mo_keep in_Mo cd_Mo_keep) rfl ⟨by decide +kernel, by omega, by omega⟩ ⟨by omega, by omega⟩ hK hP hD hS hA hN rfl ⟨rfl, rfl, rfl, by decide, by decide, by decide, by decide⟩ rfl rfl rfl hl.1 rfl rfl (Nat.le_of_ble_eq_true rfl) d_Lw_law_557 (fun H locs hP hD hS => ?_)
  refine lv_icmp_eq (tgt := 627) hx hb d_Lw_law_560 (by decide) (fun _ => ?_) (fun cz => absurd rfl cz)
  refine W.widen (k := cells + 1) (n := slots + 2) (by omega) (by omega) ?_
  exact kk _ _ H locs hJ' hP hD hS
set_option maxHeartbeats 4000000 in
set_option maxRecDepth 100000 in
theorem law_fail (hx : p.tables.exec = Jvm.exec) (hb : c.code = code) (hml : c.maxLocals = 4) (hown : s.vm.findClass R_Lw = some m.cls) (hts : ∀ w ∈ lw_gd, w.before #[Value.ref b] s = true) (hX : va_X b L xs s s.heap) (hbl : b < s.heap.size) (hL : L ≤ 3072) (hN : qN s) (hK : va_K D cls [(cI, .int), (cJ, .long), (cZ, .boolean), (cI2, .int), (cB, .byte)] s) (hJ : qJ cI cJ cZ cI2 cB tp mo J wv wm) (hJ2 : J < 2 ^ 30) (hi : i + 6 ≤ L) (hP : va_P D cls (wv ++ wm) H) (hD : va_D (fun q : Nat => s.heap.size ≤ q) (wv ++ wm)) (hS : va_S (fun q : Nat => s.heap.size ≤ q) s.heap H locs) (hl : lv_has ls 4 [(0, .ref b), (1, .ref tp), (2, .ref mo), (3, .int (nI i))]) (hc : cells + 1 ≤ 600000 ∧ slots + 2 ≤ 7302250) (kk : ∀ (wv' wm' : va_W) (H' : Heap) (locs' : List Loc), qJ cI cJ cZ cI2 cB tp mo (J + 1) wv' wm' → va_P D cls (wv' ++ wm') H' → va_D (fun q : Nat => s.heap.size ≤ q) (wv' ++ wm') → va_S (fun q : Nat => s.heap.size ≤ q) s.heap H' locs' → W p l e room_1 s m #[Value.ref b] below meth c H' locs' (cells + 1) (slots + 2) Q (F0 m 627 ls [])) : W p l e room_1 s m #[Value.ref b] below meth c H locs cells slots Q (F0 m 565 ls []) := by
  have hA : ∀ q : Nat, s.heap.size ≤ q → (fun q : Nat => s.heap.size ≤ q) q := fun _ h => h
  have hbA : ¬ (fun q : Nat => s.heap.size ≤ q) b := Nat.not_le.mpr hbl
  have R1 : room_1.frames = 2048 := rfl
  have R2 : room_1.cells = 600000 := rfl
  have R3 : room_1.slots = 7302250 := rfl
  have R4 : room_1.locals = 84000 := rfl
  obtain ⟨rm, rm2, r, wv', wm', ⟨q1, q2, q3, q4⟩, ⟨z1, z2, z3, z4⟩, m1, m2, hJ'⟩ := qOp_fail l D  cI cJ cZ cI2 cB tp mo J wv wm hJ2 hJ
  obtain ⟨fs, x1, x2, x3, x4, x5, x6, x7, x8, x9, x10, x11, gs, y1, y2, y3, y4, y5, y6, rfl, rfl⟩ := hJ.form
  obtain ⟨fs', x1', x2', x3', x4', x5', x6', x7', x8', x9', x10', x11', gs', y1', y2', y3', y4', y5', y6', rfl, rfl⟩ := hJ'.form
  have hP : va_P D cls [(tp, .inr (4, fs)), x1, x2, x3, x4, x5, x6, x7, x8, x9, x10, x11, (mo, .inr (5, gs)), y1, y2, y3, y4, y5, y6] H := hP
  have hD : va_D (fun q : Nat => s.heap.size ≤ q) [(tp, .inr (4, fs)), x1, x2, x3, x4, x5, x6, x7, x8, x9, x10, x11, (mo, .inr (5, gs)), y1, y2, y3, y4, y5, y6] := hD
  refine lv_aload_n hx hb d_Lw_law_565 rfl (lv_at hl 1 rfl) ?_
  refine q_callVi (As := []) (rest := []) (wsC := [(tp, .inr (4, fs)), x1, x2, x3, x4, x5, x6, x7, x8, x9, x10, x11]) (wsR := [(mo, .inr (5, gs)), y1, y2, y3, y4, y5, y6]) (wsC' := [(tp, .inr (4, fs')), x1', x2', x3', x4', x5', x6', x7', x8', x9', x10', x11']) (wsN := [(tp, .inr (4, fs')), x1', x2', x3', x4', x5', x6', x7', x8', x9', x10', x11', (mo, .inr (5, gs)), y1, y2, y3, y4, y5, y6]) (isT := [0, 1]) (isC := [0, 1, 2, 3, 4, 5, 6, 7, 8, 9, 10, 11]) (isR := [12, 13, 14, 15, 16, 17, 18]) (isN := [7, 8, 9, 10, 11, 12, 13, 14, 15, 16, 17, 18, 0, 1, 2, 3, 4, 5, 6]) (k := 0) (ci := 4) (C := R_Tp) ⟨hx, hb, hml, hown, hts⟩ m1 (tw_V ml_Lw_73 im_Tp_fail se_Tp_fail in_Tp cd_Tp_fail) rfl ⟨by decide +kernel, by omega, by omega⟩ ⟨by omega, by omega⟩ hK hP hD hS hA hN rfl ⟨rfl, rfl, rfl, by decide, by decide, by decide, by decide⟩ rfl rfl rfl hl.1 rfl rfl (Nat.le_of_ble_eq_true rfl) d_Lw_law_566 (fun H locs hP hD hS => ?_)
  have hP : va_P D cls [(tp, .inr (4, fs')), x1', x2', x3', x4', x5', x6', x7', x8', x9', x10', x11', (mo, .inr (5, gs)), y1, y2, y3, y4, y5, y6] H := hP
  have hD : va_D (fun q : Nat => s.heap.size ≤ q) [(tp, .inr (4, fs')), x1', x2', x3', x4', x5', x6', x7', x8', x9', x10', x11', (mo, .inr (5, gs)), y1, y2, y3, y4, y5, y6] := hD
  refine lv_aload_n hx hb d_Lw_law_569 rfl (lv_at hl 2 rfl) ?_
  refine q_callVi (As := []) (rest := [.int r]) (wsC := [(mo, .inr (5, gs)), y1, y2, y3, y4, y5, y6]) (wsR := [(tp, .inr (4, fs')), x1', x2', x3', x4', x5', x6', x7', x8', x9', x10', x11']) (wsC' := [(mo, .inr (5, gs')), y1', y2', y3', y4', y5', y6']) (wsN := [(tp, .inr (4, fs')), x1', x2', x3', x4', x5', x6', x7', x8', x9', x10', x11', (mo, .inr (5, gs')), y1', y2', y3', y4', y5', y6']) (isT := [2, 3, 4]) (isC := [12, 13, 14, 15, 16, 17, 18]) (isR := [0, 1, 2, 3, 4, 5, 6, 7, 8, 9, 10, 11]) (isN := [0, 1, 2, 3, 4, 5, 6, 7, 8, 9, 10, 11, 12, 13, 14, 15, 16, 17, 18]) (k := 0) (ci := 5) (C := R_Mo) ⟨hx, hb, hml, hown, hts⟩ m2 (tw_V ml_Lw_76 im_Mo_fail se_Mo_fail in_Mo cd_Mo_fail) rfl ⟨by decide +kernel, by omega, by omega⟩ ⟨by omega, by omega⟩ hK hP hD hS hA hN rfl ⟨rfl, rfl, rfl, by decide, by decide, by decide, by decide⟩ rfl rfl rfl hl.1 rfl rfl (Nat.le_of_ble_eq_true rfl) d_Lw_law_570 (fun H locs hP hD hS => ?_)
  refine lv_icmp_eq (tgt := 627) hx hb d_Lw_law_573 (by decide) (fun _ => ?_) (fun cz => absurd rfl cz)
  refine W.widen (k := cells + 1) (n := slots + 2) (by omega) (by omega) ?_
  exact kk _ _ H locs hJ' hP hD hS
set_option maxHeartbeats 4000000 in
set_option maxRecDepth 100000 in
theorem law_mount (hx : p.tables.exec = Jvm.exec) (hb : c.code = code) (hml : c.maxLocals = 4) (hown : s.vm.findClass R_Lw = some m.cls) (hts : ∀ w ∈ lw_gd, w.before #[Value.ref b] s = true) (hX : va_X b L xs s s.heap) (hbl : b < s.heap.size) (hL : L ≤ 3072) (hN : qN s) (hK : va_K D cls [(cI, .int), (cJ, .long), (cZ, .boolean), (cI2, .int), (cB, .byte)] s) (hJ : qJ cI cJ cZ cI2 cB tp mo J wv wm) (hJ2 : J < 2 ^ 30) (hi : i + 6 ≤ L) (hP : va_P D cls (wv ++ wm) H) (hD : va_D (fun q : Nat => s.heap.size ≤ q) (wv ++ wm)) (hS : va_S (fun q : Nat => s.heap.size ≤ q) s.heap H locs) (hl : lv_has ls 4 [(0, .ref b), (1, .ref tp), (2, .ref mo), (3, .int (nI i))]) (hc : cells + 1 ≤ 600000 ∧ slots + 2 ≤ 7302250) (kk : ∀ (wv' wm' : va_W) (H' : Heap) (locs' : List Loc), qJ cI cJ cZ cI2 cB tp mo (J + 1) wv' wm' → va_P D cls (wv' ++ wm') H' → va_D (fun q : Nat => s.heap.size ≤ q) (wv' ++ wm') → va_S (fun q : Nat => s.heap.size ≤ q) s.heap H' locs' → W p l e room_1 s m #[Value.ref b] below meth c H' locs' (cells + 1) (slots + 2) Q (F0 m 627 ls [])) : W p l e room_1 s m #[Value.ref b] below meth c H locs cells slots Q (F0 m 578 ls []) := by
  have hA : ∀ q : Nat, s.heap.size ≤ q → (fun q : Nat => s.heap.size ≤ q) q := fun _ h => h
  have hbA : ¬ (fun q : Nat => s.heap.size ≤ q) b := Nat.not_le.mpr hbl
  have R1 : room_1.frames = 2048 := rfl
  have R2 : room_1.cells = 600000 := rfl
  have R3 : room_1.slots = 7302250 := rfl
  have R4 : room_1.locals = 84000 := rfl
  obtain ⟨rm, rm2, r, wv', wm', ⟨q1, q2, q3, q4⟩, ⟨z1, z2, z3, z4⟩, m1, m2, hJ'⟩ := qOp_mount l D  cI cJ cZ cI2 cB tp mo J wv wm hJ2 hJ
  obtain ⟨fs, x1, x2, x3, x4, x5, x6, x7, x8, x9, x10, x11, gs, y1, y2, y3, y4, y5, y6, rfl, rfl⟩ := hJ.form
  obtain ⟨fs', x1', x2', x3', x4', x5', x6', x7', x8', x9', x10', x11', gs', y1', y2', y3', y4', y5', y6', rfl, rfl⟩ := hJ'.form
  have hP : va_P D cls [(tp, .inr (4, fs)), x1, x2, x3, x4, x5, x6, x7, x8, x9, x10, x11, (mo, .inr (5, gs)), y1, y2, y3, y4, y5, y6] H := hP
  have hD : va_D (fun q : Nat => s.heap.size ≤ q) [(tp, .inr (4, fs)), x1, x2, x3, x4, x5, x6, x7, x8, x9, x10, x11, (mo, .inr (5, gs)), y1, y2, y3, y4, y5, y6] := hD
  refine lv_aload_n hx hb d_Lw_law_578 rfl (lv_at hl 1 rfl) ?_
  refine q_callVi (As := []) (rest := []) (wsC := [(tp, .inr (4, fs)), x1, x2, x3, x4, x5, x6, x7, x8, x9, x10, x11]) (wsR := [(mo, .inr (5, gs)), y1, y2, y3, y4, y5, y6]) (wsC' := [(tp, .inr (4, fs')), x1', x2', x3', x4', x5', x6', x7', x8', x9', x10', x11']) (wsN := [(tp, .inr (4, fs')), x1', x2', x3', x4', x5', x6', x7', x8', x9', x10', x11', (mo, .inr (5, gs)), y1, y2, y3, y4, y5, y6]) (isT := [0, 1]) (isC := [0, 1, 2, 3, 4, 5, 6, 7, 8, 9, 10, 11]) (isR := [12, 13, 14, 15, 16, 17, 18]) (isN := [7, 8, 9, 10, 11, 12, 13, 14, 15, 16, 17, 18, 0, 1, 2, 3, 4, 5, 6]) (k := 0) (ci := 4) (C := R_Tp) ⟨hx, hb, hml, hown, hts⟩ m1 (tw_V ml_Lw_77 im_Tp_mount se_Tp_mount in_Tp cd_Tp_mount) rfl ⟨by decide +kernel, by omega, by omega⟩ ⟨by omega, by omega⟩ hK hP hD hS hA hN rfl ⟨rfl, rfl, rfl, by decide, by decide, by decide, by decide⟩ rfl rfl rfl hl.1 rfl rfl (Nat.le_of_ble_eq_true rfl) d_Lw_law_579 (fun H locs hP hD hS => ?_)
  have hP : va_P D cls [(tp, .inr (4, fs')), x1', x2', x3', x4', x5', x6', x7', x8', x9', x10', x11', (mo, .inr (5, gs)), y1, y2, y3, y4, y5, y6] H := hP
  have hD : va_D (fun q : Nat => s.heap.size ≤ q) [(tp, .inr (4, fs')), x1', x2', x3', x4', x5', x6', x7', x8', x9', x10', x11', (mo, .inr (5, gs)), y1, y2, y3, y4, y5, y6] := hD
  refine lv_aload_n hx hb d_Lw_law_582 rfl (lv_at hl 2 rfl) ?_
  refine q_callVi (As := []) (rest := [.int r]) (wsC := [(mo, .inr (5, gs)), y1, y2, y3, y4, y5, y6]) (wsR := [(tp, .inr (4, fs')), x1', x2', x3', x4', x5', x6', x7', x8', x9', x10', x11']) (wsC' := [(mo, .inr (5, gs')), y1', y2', y3', y4', y5', y6']) (wsN := [(tp, .inr (4, fs')), x1', x2', x3', x4', x5', x6', x7', x8', x9', x10', x11', (mo, .inr (5, gs')), y1', y2', y3', y4', y5', y6']) (isT := [2, 3, 4]) (isC := [12, 13, 14, 15, 16, 17, 18]) (isR := [0, 1, 2, 3, 4, 5, 6, 7, 8, 9, 10, 11]) (isN := [0, 1, 2, 3, 4, 5, 6, 7, 8, 9, 10, 11, 12, 13, 14, 15, 16, 17, 18]) (k := 0) (ci := 5) (C := R_Mo) ⟨hx, hb, hml, hown, hts⟩ m2 (tw_V ml_Lw_80 im_Mo_mount se_Mo_mount in_Mo cd_Mo_mount) rfl ⟨by decide +kernel, by omega, by omega⟩ ⟨by omega, by omega⟩ hK hP hD hS hA hN rfl ⟨rfl, rfl, rfl, by decide, by decide, by decide, by decide⟩ rfl rfl rfl hl.1 rfl rfl (Nat.le_of_ble_eq_true rfl) d_Lw_law_583 (fun H locs hP hD hS => ?_)
  refine lv_icmp_eq (tgt := 627) hx hb d_Lw_law_586 (by decide) (fun _ => ?_) (fun cz => absurd rfl cz)
  refine W.widen (k := cells + 1) (n := slots + 2) (by omega) (by omega) ?_
  exact kk _ _ H locs hJ' hP hD hS
set_option maxHeartbeats 4000000 in
set_option maxRecDepth 100000 in
theorem law_count (hx : p.tables.exec = Jvm.exec) (hb : c.code = code) (hml : c.maxLocals = 4) (hown : s.vm.findClass R_Lw = some m.cls) (hts : ∀ w ∈ lw_gd, w.before #[Value.ref b] s = true) (hX : va_X b L xs s s.heap) (hbl : b < s.heap.size) (hL : L ≤ 3072) (hN : qN s) (hK : va_K D cls [(cI, .int), (cJ, .long), (cZ, .boolean), (cI2, .int), (cB, .byte)] s) (hJ : qJ cI cJ cZ cI2 cB tp mo J wv wm) (hJ2 : J < 2 ^ 30) (hi : i + 6 ≤ L) (hP : va_P D cls (wv ++ wm) H) (hD : va_D (fun q : Nat => s.heap.size ≤ q) (wv ++ wm)) (hS : va_S (fun q : Nat => s.heap.size ≤ q) s.heap H locs) (hl : lv_has ls 4 [(0, .ref b), (1, .ref tp), (2, .ref mo), (3, .int (nI i))]) (hc : cells + 1 ≤ 600000 ∧ slots + 2 ≤ 7302250) (kk : ∀ (wv' wm' : va_W) (H' : Heap) (locs' : List Loc), qJ cI cJ cZ cI2 cB tp mo (J + 1) wv' wm' → va_P D cls (wv' ++ wm') H' → va_D (fun q : Nat => s.heap.size ≤ q) (wv' ++ wm') → va_S (fun q : Nat => s.heap.size ≤ q) s.heap H' locs' → W p l e room_1 s m #[Value.ref b] below meth c H' locs' (cells + 1) (slots + 2) Q (F0 m 627 ls [])) : W p l e room_1 s m #[Value.ref b] below meth c H locs cells slots Q (F0 m 591 ls []) := by
  have hA : ∀ q : Nat, s.heap.size ≤ q → (fun q : Nat => s.heap.size ≤ q) q := fun _ h => h
  have hbA : ¬ (fun q : Nat => s.heap.size ≤ q) b := Nat.not_le.mpr hbl
  have R1 : room_1.frames = 2048 := rfl
  have R2 : room_1.cells = 600000 := rfl
  have R3 : room_1.slots = 7302250 := rfl
  have R4 : room_1.locals = 84000 := rfl
  obtain ⟨rm, rm2, r, wv', wm', ⟨q1, q2, q3, q4⟩, ⟨z1, z2, z3, z4⟩, m1, m2, hJ'⟩ := qOp_count l D (xs (i + 1)) cI cJ cZ cI2 cB tp mo J wv wm hJ2 hJ
  obtain ⟨fs, x1, x2, x3, x4, x5, x6, x7, x8, x9, x10, x11, gs, y1, y2, y3, y4, y5, y6, rfl, rfl⟩ := hJ.form
  obtain ⟨fs', x1', x2', x3', x4', x5', x6', x7', x8', x9', x10', x11', gs', y1', y2', y3', y4', y5', y6', rfl, rfl⟩ := hJ'.form
  have hP : va_P D cls [(tp, .inr (4, fs)), x1, x2, x3, x4, x5, x6, x7, x8, x9, x10, x11, (mo, .inr (5, gs)), y1, y2, y3, y4, y5, y6] H := hP
  have hD : va_D (fun q : Nat => s.heap.size ≤ q) [(tp, .inr (4, fs)), x1, x2, x3, x4, x5, x6, x7, x8, x9, x10, x11, (mo, .inr (5, gs)), y1, y2, y3, y4, y5, y6] := hD
  refine lv_aload_n hx hb d_Lw_law_591 rfl (lv_at hl 1 rfl) ?_
  refine lv_aload_n hx hb d_Lw_law_592 rfl (lv_at hl 0 rfl) ?_
  refine lv_iload_n hx hb d_Lw_law_593 rfl (lv_at hl 3 rfl) ?_
  refine lv_iconst (v := nI 1) hx hb d_Lw_law_594 (by decide) ?_
  refine lv_iadd hx hb d_Lw_law_595 ?_
  refine q_ti (y := nI (i + 1)) (nI_add _ _) ?_
  refine va_sld hx hb hX hbl hbA hS (vp_in_nI (show i + 1 < L by omega) (by omega)) d_Lw_law_596 ?_
  refine q_ti (y := xs (i + 1)) (by rw [nI_clamp (by omega)]) ?_
  refine q_callVi (As := [.int (xs (i + 1))]) (rest := []) (wsC := [(tp, .inr (4, fs)), x1, x2, x3, x4, x5, x6, x7, x8, x9, x10, x11]) (wsR := [(mo, .inr (5, gs)), y1, y2, y3, y4, y5, y6]) (wsC' := [(tp, .inr (4, fs')), x1', x2', x3', x4', x5', x6', x7', x8', x9', x10', x11']) (wsN := [(tp, .inr (4, fs')), x1', x2', x3', x4', x5', x6', x7', x8', x9', x10', x11', (mo, .inr (5, gs)), y1, y2, y3, y4, y5, y6]) (isT := [0, 1]) (isC := [0, 1, 2, 3, 4, 5, 6, 7, 8, 9, 10, 11]) (isR := [12, 13, 14, 15, 16, 17, 18]) (isN := [7, 8, 9, 10, 11, 12, 13, 14, 15, 16, 17, 18, 0, 1, 2, 3, 4, 5, 6]) (k := 1) (ci := 4) (C := R_Tp) ⟨hx, hb, hml, hown, hts⟩ m1 (tw_V ml_Lw_81 im_Tp_count se_Tp_count in_Tp cd_Tp_count) rfl ⟨by decide +kernel, by omega, by omega⟩ ⟨by omega, by omega⟩ hK hP hD hS hA hN rfl ⟨rfl, rfl, rfl, by decide, by decide, by decide, by decide⟩ rfl rfl rfl hl.1 rfl rfl (Nat.le_of_ble_eq_true rfl) d_Lw_law_597 (fun H locs hP hD hS => ?_)
  have hP : va_P D cls [(tp, .inr (4, fs')), x1', x2', x3', x4', x5', x6', x7', x8', x9', x10', x11', (mo, .inr (5, gs)), y1, y2, y3, y4, y5, y6] H := hP
  have hD : va_D (fun q : Nat => s.heap.size ≤ q) [(tp, .inr (4, fs')), x1', x2', x3', x4', x5', x6', x7', x8', x9', x10', x11', (mo, .inr (5, gs)), y1, y2, y3, y4, y5, y6] := hD
  refine lv_aload_n hx hb d_Lw_law_600 rfl (lv_at hl 2 rfl) ?_
  refine lv_aload_n hx hb d_Lw_law_601 rfl (lv_at hl 0 rfl) ?_
  refine lv_iload_n hx hb d_Lw_law_602 rfl (lv_at hl 3 rfl) ?_
  refine lv_iconst (v := nI 1) hx hb d_Lw_law_603 (by decide) ?_
  refine lv_iadd hx hb d_Lw_law_604 ?_
  refine q_ti (y := nI (i + 1)) (nI_add _ _) ?_
  refine va_sld hx hb hX hbl hbA hS (vp_in_nI (show i + 1 < L by omega) (by omega)) d_Lw_law_605 ?_
  refine q_ti (y := xs (i + 1)) (by rw [nI_clamp (by omega)]) ?_
  refine q_callVi (As := [.int (xs (i + 1))]) (rest := [.int r]) (wsC := [(mo, .inr (5, gs)), y1, y2, y3, y4, y5, y6]) (wsR := [(tp, .inr (4, fs')), x1', x2', x3', x4', x5', x6', x7', x8', x9', x10', x11']) (wsC' := [(mo, .inr (5, gs')), y1', y2', y3', y4', y5', y6']) (wsN := [(tp, .inr (4, fs')), x1', x2', x3', x4', x5', x6', x7', x8', x9', x10', x11', (mo, .inr (5, gs')), y1', y2', y3', y4', y5', y6']) (isT := [2, 3, 4]) (isC := [12, 13, 14, 15, 16, 17, 18]) (isR := [0, 1, 2, 3, 4, 5, 6, 7, 8, 9, 10, 11]) (isN := [0, 1, 2, 3, 4, 5, 6, 7, 8, 9, 10, 11, 12, 13, 14, 15, 16, 17, 18]) (k := 1) (ci := 5) (C := R_Mo) ⟨hx, hb, hml, hown, hts⟩ m2 (tw_V ml_Lw_84 im_Mo_count se_Mo_count in_Mo cd_Mo_count) rfl ⟨by decide +kernel, by omega, by omega⟩ ⟨by omega, by omega⟩ hK hP hD hS hA hN rfl ⟨rfl, rfl, rfl, by decide, by decide, by decide, by decide⟩ rfl rfl rfl hl.1 rfl rfl (Nat.le_of_ble_eq_true rfl) d_Lw_law_606 (fun H locs hP hD hS => ?_)
  refine lv_icmp_eq (tgt := 627) hx hb d_Lw_law_609 (by decide) (fun _ => ?_) (fun cz => absurd rfl cz)
  refine W.widen (k := cells + 1) (n := slots + 2) (by omega) (by omega) ?_
  exact kk _ _ H locs hJ' hP hD hS
set_option maxHeartbeats 4000000 in
set_option maxRecDepth 100000 in
theorem law_check (hx : p.tables.exec = Jvm.exec) (hb : c.code = code) (hml : c.maxLocals = 4) (hown : s.vm.findClass R_Lw = some m.cls) (hts : ∀ w ∈ lw_gd, w.before #[Value.ref b] s = true) (hX : va_X b L xs s s.heap) (hbl : b < s.heap.size) (hL : L ≤ 3072) (hN : qN s) (hK : va_K D cls [(cI, .int), (cJ, .long), (cZ, .boolean), (cI2, .int), (cB, .byte)] s) (hJ : qJ cI cJ cZ cI2 cB tp mo J wv wm) (hJ2 : J < 2 ^ 30) (hi : i + 6 ≤ L) (hP : va_P D cls (wv ++ wm) H) (hD : va_D (fun q : Nat => s.heap.size ≤ q) (wv ++ wm)) (hS : va_S (fun q : Nat => s.heap.size ≤ q) s.heap H locs) (hl : lv_has ls 4 [(0, .ref b), (1, .ref tp), (2, .ref mo), (3, .int (nI i))]) (hc : cells + 1 ≤ 600000 ∧ slots + 2 ≤ 7302250) (kk : ∀ (wv' wm' : va_W) (H' : Heap) (locs' : List Loc), qJ cI cJ cZ cI2 cB tp mo (J + 1) wv' wm' → va_P D cls (wv' ++ wm') H' → va_D (fun q : Nat => s.heap.size ≤ q) (wv' ++ wm') → va_S (fun q : Nat => s.heap.size ≤ q) s.heap H' locs' → W p l e room_1 s m #[Value.ref b] below meth c H' locs' (cells + 1) (slots + 2) Q (F0 m 627 ls [])) : W p l e room_1 s m #[Value.ref b] below meth c H locs cells slots Q (F0 m 614 ls []) := by
  have hA : ∀ q : Nat, s.heap.size ≤ q → (fun q : Nat => s.heap.size ≤ q) q := fun _ h => h
  have hbA : ¬ (fun q : Nat => s.heap.size ≤ q) b := Nat.not_le.mpr hbl
  have R1 : room_1.frames = 2048 := rfl
  have R2 : room_1.cells = 600000 := rfl
  have R3 : room_1.slots = 7302250 := rfl
  have R4 : room_1.locals = 84000 := rfl
  obtain ⟨rm, rm2, r, wv', wm', ⟨q1, q2, q3, q4⟩, ⟨z1, z2, z3, z4⟩, m1, m2, hJ'⟩ := qOp_check l D  cI cJ cZ cI2 cB tp mo J wv wm hJ2 hJ
  obtain ⟨fs, x1, x2, x3, x4, x5, x6, x7, x8, x9, x10, x11, gs, y1, y2, y3, y4, y5, y6, rfl, rfl⟩ := hJ.form
  obtain ⟨fs', x1', x2', x3', x4', x5', x6', x7', x8', x9', x10', x11', gs', y1', y2', y3', y4', y5', y6', rfl, rfl⟩ := hJ'.form
  have hP : va_P D cls [(tp, .inr (4, fs)), x1, x2, x3, x4, x5, x6, x7, x8, x9, x10, x11, (mo, .inr (5, gs)), y1, y2, y3, y4, y5, y6] H := hP
  have hD : va_D (fun q : Nat => s.heap.size ≤ q) [(tp, .inr (4, fs)), x1, x2, x3, x4, x5, x6, x7, x8, x9, x10, x11, (mo, .inr (5, gs)), y1, y2, y3, y4, y5, y6] := hD
  refine lv_aload_n hx hb d_Lw_law_614 rfl (lv_at hl 1 rfl) ?_
  refine q_callVi (As := []) (rest := []) (wsC := [(tp, .inr (4, fs)), x1, x2, x3, x4, x5, x6, x7, x8, x9, x10, x11]) (wsR := [(mo, .inr (5, gs)), y1, y2, y3, y4, y5, y6]) (wsC' := [(tp, .inr (4, fs')), x1', x2', x3', x4', x5', x6', x7', x8', x9', x10', x11']) (wsN := [(tp, .inr (4, fs')), x1', x2', x3', x4', x5', x6', x7', x8', x9', x10', x11', (mo, .inr (5, gs)), y1, y2, y3, y4, y5, y6]) (isT := [0, 1]) (isC := [0, 1, 2, 3, 4, 5, 6, 7, 8, 9, 10, 11]) (isR := [12, 13, 14, 15, 16, 17, 18]) (isN := [7, 8, 9, 10, 11, 12, 13, 14, 15, 16, 17, 18, 0, 1, 2, 3, 4, 5, 6]) (k := 0) (ci := 4) (C := R_Tp) ⟨hx, hb, hml, hown, hts⟩ m1 (tw_V ml_Lw_85 im_Tp_check se_Tp_check in_Tp cd_Tp_check) rfl ⟨by decide +kernel, by omega, by omega⟩ ⟨by omega, by omega⟩ hK hP hD hS hA hN rfl ⟨rfl, rfl, rfl, by decide, by decide, by decide, by decide⟩ rfl rfl rfl hl.1 rfl rfl (Nat.le_of_ble_eq_true rfl) d_Lw_law_615 (fun H locs hP hD hS => ?_)
  have hP : va_P D cls [(tp, .inr (4, fs')), x1', x2', x3', x4', x5', x6', x7', x8', x9', x10', x11', (mo, .inr (5, gs)), y1, y2, y3, y4, y5, y6] H := hP
  have hD : va_D (fun q : Nat => s.heap.size ≤ q) [(tp, .inr (4, fs')), x1', x2', x3', x4', x5', x6', x7', x8', x9', x10', x11', (mo, .inr (5, gs)), y1, y2, y3, y4, y5, y6] := hD
  refine lv_aload_n hx hb d_Lw_law_618 rfl (lv_at hl 2 rfl) ?_
  refine q_callVi (As := []) (rest := [.int r]) (wsC := [(mo, .inr (5, gs)), y1, y2, y3, y4, y5, y6]) (wsR := [(tp, .inr (4, fs')), x1', x2', x3', x4', x5', x6', x7', x8', x9', x10', x11']) (wsC' := [(mo, .inr (5, gs')), y1', y2', y3', y4', y5', y6']) (wsN := [(tp, .inr (4, fs')), x1', x2', x3', x4', x5', x6', x7', x8', x9', x10', x11', (mo, .inr (5, gs')), y1', y2', y3', y4', y5', y6']) (isT := [2, 3, 4]) (isC := [12, 13, 14, 15, 16, 17, 18]) (isR := [0, 1, 2, 3, 4, 5, 6, 7, 8, 9, 10, 11]) (isN := [0, 1, 2, 3, 4, 5, 6, 7, 8, 9, 10, 11, 12, 13, 14, 15, 16, 17, 18]) (k := 0) (ci := 5) (C := R_Mo) ⟨hx, hb, hml, hown, hts⟩ m2 (tw_V ml_Lw_88 im_Mo_check se_Mo_check in_Mo cd_Mo_check) rfl ⟨by decide +kernel, by omega, by omega⟩ ⟨by omega, by omega⟩ hK hP hD hS hA hN rfl ⟨rfl, rfl, rfl, by decide, by decide, by decide, by decide⟩ rfl rfl rfl hl.1 rfl rfl (Nat.le_of_ble_eq_true rfl) d_Lw_law_619 (fun H locs hP hD hS => ?_)
  refine lv_icmp_eq (tgt := 627) hx hb d_Lw_law_622 (by decide) (fun _ => ?_) (fun cz => absurd rfl cz)
  refine W.widen (k := cells + 1) (n := slots + 2) (by omega) (by omega) ?_
  exact kk _ _ H locs hJ' hP hD hS
/-- which case: the last five bits -/
theorem law_case (hx : p.tables.exec = Jvm.exec) (hb : c.code = code) (hml : c.maxLocals = 4) (hown : s.vm.findClass R_Lw = some m.cls) (hts : ∀ w ∈ lw_gd, w.before #[Value.ref b] s = true) (hX : va_X b L xs s s.heap) (hbl : b < s.heap.size) (hL : L ≤ 3072) (hN : qN s) (hK : va_K D cls [(cI, .int), (cJ, .long), (cZ, .boolean), (cI2, .int), (cB, .byte)] s) (hJ : qJ cI cJ cZ cI2 cB tp mo J wv wm) (hJ2 : J < 2 ^ 30) (hi : i + 6 ≤ L) (hP : va_P D cls (wv ++ wm) H) (hD : va_D (fun q : Nat => s.heap.size ≤ q) (wv ++ wm)) (hS : va_S (fun q : Nat => s.heap.size ≤ q) s.heap H locs) (hl : lv_has ls 4 [(0, .ref b), (1, .ref tp), (2, .ref mo), (3, .int (nI i))]) (hc : cells + 1 ≤ 600000 ∧ slots + 2 ≤ 7302250) (kk : ∀ (wv' wm' : va_W) (H' : Heap) (locs' : List Loc), qJ cI cJ cZ cI2 cB tp mo (J + 1) wv' wm' → va_P D cls (wv' ++ wm') H' → va_D (fun q : Nat => s.heap.size ≤ q) (wv' ++ wm') → va_S (fun q : Nat => s.heap.size ≤ q) s.heap H' locs' → W p l e room_1 s m #[Value.ref b] below meth c H' locs' (cells + 1) (slots + 2) Q (F0 m 627 ls [])) : W p l e room_1 s m #[Value.ref b] below meth c H locs cells slots Q (F0 m 27 ls []) := by
  have hbA : ¬ (fun q : Nat => s.heap.size ≤ q) b := Nat.not_le.mpr hbl
  refine lv_aload_n hx hb d_Lw_law_27 rfl (lv_at hl 0 rfl) ?_
  refine lv_iload_n hx hb d_Lw_law_28 rfl (lv_at hl 3 rfl) ?_
  refine va_sld hx hb hX hbl hbA hS (vp_in_nI (show i < L by omega) (by omega)) d_Lw_law_29 ?_
  refine lv_bipush (v := nI 31) hx hb d_Lw_law_30 (by decide) ?_
  refine lv_iand hx hb d_Lw_law_32 ?_
  obtain ⟨j, hj, ej⟩ := pk_andE (xs (nI i).toNatClampNeg) 5 (show (nI 31).toBitVec.toNat = 2 ^ 5 - 1 by decide)
  refine q_ti (y := nI j) ej ?_
  have hj : j < 32 := hj
  have ht : (nI j).toInt = (j : Int) := nI_toInt (by omega)
  by_cases hd : 16 < j
  · refine lv_tableOut (tgt := 627) hx hb d_Lw_law_33 (Or.inr (by rw [ht]; omega)) (by decide) ?_
    refine W.widen (k := cells + 1) (n := slots + 2) (by omega) (by omega) ?_
    exact kk _ _ H locs hJ.up hP hD hS
  · rcases (show j = 0 ∨ j = 1 ∨ j = 2 ∨ j = 3 ∨ j = 4 ∨ j = 5 ∨ j = 6 ∨ j = 7 ∨ j = 8 ∨ j = 9 ∨ j = 10 ∨ j = 11 ∨ j = 12 ∨ j = 13 ∨ j = 14 ∨ j = 15 ∨ j = 16 by omega) with rfl | rfl | rfl | rfl | rfl | rfl | rfl | rfl | rfl | rfl | rfl | rfl | rfl | rfl | rfl | rfl | rfl
    · exact lv_tableIn (tgt := 116) hx hb d_Lw_law_33 (by decide) (by decide) rfl (by decide) (law_lay hx hb hml hown hts hX hbl hL hN hK hJ hJ2 hi hP hD hS hl hc kk)
    · exact lv_tableIn (tgt := 129) hx hb d_Lw_law_33 (by decide) (by decide) rfl (by decide) (law_make hx hb hml hown hts hX hbl hL hN hK hJ hJ2 hi hP hD hS hl hc kk)
    · exact lv_tableIn (tgt := 152) hx hb d_Lw_law_33 (by decide) (by decide) rfl (by decide) (law_snap hx hb hml hown hts hX hbl hL hN hK hJ hJ2 hi hP hD hS hl hc kk)
    · exact lv_tableIn (tgt := 185) hx hb d_Lw_law_33 (by decide) (by decide) rfl (by decide) (law_remove hx hb hml hown hts hX hbl hL hN hK hJ hJ2 hi hP hD hS hl hc kk)
    · exact lv_tableIn (tgt := 208) hx hb d_Lw_law_33 (by decide) (by decide) rfl (by decide) (law_write hx hb hml hown hts hX hbl hL hN hK hJ hJ2 hi hP hD hS hl hc kk)
    · exact lv_tableIn (tgt := 271) hx hb d_Lw_law_33 (by decide) (by decide) rfl (by decide) (law_read hx hb hml hown hts hX hbl hL hN hK hJ hJ2 hi hP hD hS hl hc kk)
    · exact lv_tableIn (tgt := 314) hx hb d_Lw_law_33 (by decide) (by decide) rfl (by decide) (law_trim hx hb hml hown hts hX hbl hL hN hK hJ hJ2 hi hP hD hS hl hc kk)
    · exact lv_tableIn (tgt := 357) hx hb d_Lw_law_33 (by decide) (by decide) rfl (by decide) (law_pieces hx hb hml hown hts hX hbl hL hN hK hJ hJ2 hi hP hD hS hl hc kk)
    · exact lv_tableIn (tgt := 380) hx hb d_Lw_law_33 (by decide) (by decide) rfl (by decide) (law_next hx hb hml hown hts hX hbl hL hN hK hJ hJ2 hi hP hD hS hl hc kk)
    · exact lv_tableIn (tgt := 413) hx hb d_Lw_law_33 (by decide) (by decide) rfl (by decide) (law_shared hx hb hml hown hts hX hbl hL hN hK hJ hJ2 hi hP hD hS hl hc kk)
    · exact lv_tableIn (tgt := 446) hx hb d_Lw_law_33 (by decide) (by decide) rfl (by decide) (law_tell hx hb hml hown hts hX hbl hL hN hK hJ hJ2 hi hP hD hS hl hc kk)
    · exact lv_tableIn (tgt := 479) hx hb d_Lw_law_33 (by decide) (by decide) rfl (by decide) (law_told hx hb hml hown hts hX hbl hL hN hK hJ hJ2 hi hP hD hS hl hc kk)
    · exact lv_tableIn (tgt := 502) hx hb d_Lw_law_33 (by decide) (by decide) rfl (by decide) (law_keep hx hb hml hown hts hX hbl hL hN hK hJ hJ2 hi hP hD hS hl hc kk)
    · exact lv_tableIn (tgt := 565) hx hb d_Lw_law_33 (by decide) (by decide) rfl (by decide) (law_fail hx hb hml hown hts hX hbl hL hN hK hJ hJ2 hi hP hD hS hl hc kk)
    · exact lv_tableIn (tgt := 578) hx hb d_Lw_law_33 (by decide) (by decide) rfl (by decide) (law_mount hx hb hml hown hts hX hbl hL hN hK hJ hJ2 hi hP hD hS hl hc kk)
    · exact lv_tableIn (tgt := 591) hx hb d_Lw_law_33 (by decide) (by decide) rfl (by decide) (law_count hx hb hml hown hts hX hbl hL hN hK hJ hJ2 hi hP hD hS hl hc kk)
    · exact lv_tableIn (tgt := 614) hx hb d_Lw_law_33 (by decide) (by decide) rfl (by decide) (law_check hx hb hml hown hts hX hbl hL hN hK hJ hJ2 hi hP hD hS hl hc kk)
end LW
