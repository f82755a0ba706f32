theorem qk_bad {z : Int32} (h0 : ¬ z = nI 0) (h1 : ¬ z = nI 1) (h2 : ¬ z = nI 2) : z < 0 ∨ ¬ z ≤ nI 2 := by
  by_cases h : z < 0
  · exact Or.inl h
  · refine Or.inr (fun q => ?_)
    obtain ⟨j, hj, rfl⟩ := nI_of h
    rw [nI_leI (by omega) (by omega)] at q
    rcases (show j = 0 ∨ j = 1 ∨ j = 2 by omega) with rfl | rfl | rfl
    · exact h0 rfl
    · exact h1 rfl
    · exact h2 rfl
set_option maxHeartbeats 1000000 in
theorem qOp_lay (l : Launch) (D : va_G) : qOp l D y_Tp_lay b_Tp_lay 1 y_Mo_lay b_Mo_lay 1 [] := by
  intro cI cJ cZ cI2 cB tp mo J wv wm hJ hq
  obtain ⟨tr, t0, t1, h, a, h2, a2, au, mt, d0, d1, r1, r2, r3, r4, r5, r6, hd, f, g, met, th, pl, mk, nt, bt, us, mm, kc, hc⟩ := hq
  rcases hc with ⟨rfl, rfl, S⟩ | ⟨rfl, rfl, S⟩ | ⟨rfl, rfl, S⟩ | ⟨rfl, rfl, S⟩
  · skip
    refine ⟨_, _, _, _, _, ?_, ?_, c_Tp_lay_A l D cI cJ tp tr t0 t1 hd h a f h2 a2 g au mt d0 d1 met 1 S.2.2.1, c_Mo_lay l D cZ cI2 cB mo r1 r2 r3 r4 r5 r6 th pl mk nt bt us (nI mm) (nI kc) 0, tr, t0, t1, h, a, h2, a2, au, mt, d0, d1, r1, r2, r3, r4, r5, r6, hd, _, _, met, _, _, _, _, _, _, mm, 0, Or.inl ⟨rfl, rfl, (qg_lay f g S.2.1 S.2.2.1 S.2.2.2.1 S.2.2.2.2.1 (qg_marksN S)).up (by omega)⟩⟩
    · exact ⟨by decide, by decide, by decide, by decide⟩
    · exact ⟨by decide, by decide, by decide, by decide⟩
  · skip
    refine ⟨_, _, _, _, _, ?_, ?_, c_Tp_lay_B l D cI cJ tp tr t0 t1 hd h a f h2 a2 g au mt d0 d1 met 1 S.2.2.1, c_Mo_lay l D cZ cI2 cB mo r1 r2 r3 r4 r5 r6 th pl mk nt bt us (nI mm) (nI kc) 0, tr, t0, t1, h, a, h2, a2, au, mt, d0, d1, r1, r2, r3, r4, r5, r6, hd, _, _, met, _, _, _, _, _, _, mm, 0, Or.inl ⟨rfl, rfl, (qg_lay f g S.2.1 S.2.2.1 S.2.2.2.1 S.2.2.2.2.1 (qg_marksN S)).up (by omega)⟩⟩
    · exact ⟨by decide, by decide, by decide, by decide⟩
    · exact ⟨by decide, by decide, by decide, by decide⟩
  · skip
    refine ⟨_, _, _, _, _, ?_, ?_, c_Tp_lay_A l D cI cJ tp tr t0 t1 hd h a f h2 a2 g au mt d0 d1 met 0 S.2.1, c_Mo_lay l D cZ cI2 cB mo r1 r2 r3 r4 r5 r6 th pl mk nt bt us (nI mm) (nI kc) 1, tr, t0, t1, h, a, h2, a2, au, mt, d0, d1, r1, r2, r3, r4, r5, r6, hd, _, _, met, _, _, _, _, _, _, mm, 0, Or.inl ⟨rfl, rfl, (qg_lay f g S.1 S.2.1 S.2.2.1 S.2.2.2.1 (qg_marksF S)).up (by omega)⟩⟩
    · exact ⟨by decide, by decide, by decide, by decide⟩
    · exact ⟨by decide, by decide, by decide, by decide⟩
  · skip
    refine ⟨_, _, _, _, _, ?_, ?_, c_Tp_lay_B l D cI cJ tp tr t0 t1 hd h a f h2 a2 g au mt d0 d1 met 0 S.2.1, c_Mo_lay l D cZ cI2 cB mo r1 r2 r3 r4 r5 r6 th pl mk nt bt us (nI mm) (nI kc) 1, tr, t0, t1, h, a, h2, a2, au, mt, d0, d1, r1, r2, r3, r4, r5, r6, hd, _, _, met, _, _, _, _, _, _, mm, 0, Or.inl ⟨rfl, rfl, (qg_lay f g S.1 S.2.1 S.2.2.1 S.2.2.2.1 (qg_marksF S)).up (by omega)⟩⟩
    · exact ⟨by decide, by decide, by decide, by decide⟩
    · exact ⟨by decide, by decide, by decide, by decide⟩
set_option maxHeartbeats 1000000 in
theorem qOp_keep (l : Launch) (D : va_G) (z : Int32) (bits : Int64) : qOp l D y_Tp_keep b_Tp_keep 4 y_Mo_keep b_Mo_keep 5 [.int z, .long bits] := by
  intro cI cJ cZ cI2 cB tp mo J wv wm hJ hq
  obtain ⟨tr, t0, t1, h, a, h2, a2, au, mt, d0, d1, r1, r2, r3, r4, r5, r6, hd, f, g, met, th, pl, mk, nt, bt, us, mm, kc, hc⟩ := hq
  rcases hc with ⟨rfl, rfl, S⟩ | ⟨rfl, rfl, S⟩ | ⟨rfl, rfl, S⟩ | ⟨rfl, rfl, S⟩
  · have b2 := S.2.2.1
    obtain ⟨l1, l2⟩ := qg_lo S
    by_cases h0 : z = nI 0
    · subst h0
      have S' := qg_keep0 (bits := bits) S hJ (oh := 1) rfl
      obtain ⟨-, -, -, -, -, -, -, ⟨lv', ps', Z'⟩, hI', -⟩ := id S'
      have m1 := c_Tp_keep0_A l D cI cJ tp tr t0 t1 hd h a f h2 a2 g au mt d0 d1 met bits b2
      rw [qh_allI Z' hI'] at m1
      have m2 := c_Mo_keep0 l D cZ cI2 cB mo r1 r2 r3 r4 r5 r6 th pl mk nt bt us (nI mm) (nI kc) bits l1 l2
      rw [nI_add kc 1] at m2
      refine ⟨_, _, _, _, _, ?_, ?_, m1, m2, tr, t0, t1, h, a, h2, a2, au, mt, d0, d1, r1, r2, r3, r4, r5, r6, hd, _, _, met, _, _, _, _, _, _, mm, (kc + 1), Or.inr (Or.inl ⟨rfl, rfl, S'⟩)⟩
      · exact ⟨by decide, by decide, by decide, by decide⟩
      · exact ⟨by decide, by decide, by decide, by decide⟩
    · by_cases h1 : z = nI 1
      · subst h1
        refine ⟨_, _, _, _, _, ?_, ?_, c_Tp_keep1_A l D cI cJ tp tr t0 t1 hd h a f h2 a2 g au mt d0 d1 met bits b2, c_Mo_keep1 l D cZ cI2 cB mo r1 r2 r3 r4 r5 r6 th pl mk nt bt us (nI mm) (nI kc) bits, tr, t0, t1, h, a, h2, a2, au, mt, d0, d1, r1, r2, r3, r4, r5, r6, hd, _, _, met, _, _, _, _, _, _, mm, kc, Or.inr (Or.inr (Or.inl ⟨rfl, rfl, (qg_keep1 S).up (by omega)⟩))⟩
        · exact ⟨by decide, by decide, by decide, by decide⟩
        · exact ⟨by decide, by decide, by decide, by decide⟩
      · by_cases h3 : z = nI 2
        · subst h3
          by_cases hb : qb_n bits % 4 = 1 ∨ qb_n bits % 4 = 2
          · have m2 := c_Mo_keep2y l D cZ cI2 cB mo r1 r2 r3 r4 r5 r6 th pl mk nt bt us (nI mm) (nI kc) bits l1 hb
            rw [nI_add kc 1] at m2
            refine ⟨_, _, _, _, _, ?_, ?_, c_Tp_keep2_A l D cI cJ tp tr t0 t1 hd h a f h2 a2 g au mt d0 d1 met bits b2, m2, tr, t0, t1, h, a, h2, a2, au, mt, d0, d1, r1, r2, r3, r4, r5, r6, hd, _, _, met, _, _, _, _, _, _, mm, (kc + 1), Or.inr (Or.inr (Or.inl ⟨rfl, rfl, qg_keep2y (bits := bits) S hJ (oh := 1) rfl hb⟩))⟩
            · exact ⟨by decide, by decide, by decide, by decide⟩
            · exact ⟨by decide, by decide, by decide, by decide⟩
          · skip
            refine ⟨_, _, _, _, _, ?_, ?_, c_Tp_keep2_A l D cI cJ tp tr t0 t1 hd h a f h2 a2 g au mt d0 d1 met bits b2, c_Mo_keep2n l D cZ cI2 cB mo r1 r2 r3 r4 r5 r6 th pl mk nt bt us (nI mm) (nI kc) bits hb, tr, t0, t1, h, a, h2, a2, au, mt, d0, d1, r1, r2, r3, r4, r5, r6, hd, _, _, met, _, _, _, _, _, _, mm, kc, Or.inr (Or.inr (Or.inl ⟨rfl, rfl, (qg_keep2n (bits := bits) S _ (by omega) hb).up (by omega)⟩))⟩
            · exact ⟨by decide, by decide, by decide, by decide⟩
            · exact ⟨by decide, by decide, by decide, by decide⟩
        · skip
          refine ⟨_, _, _, _, _, ?_, ?_, c_Tp_keep_bad_A l D cI cJ tp tr t0 t1 hd h a f h2 a2 g au mt d0 d1 met z bits b2 (qk_bad h0 h1 h3), c_Mo_keep_bad l D cZ cI2 cB mo r1 r2 r3 r4 r5 r6 th pl mk nt bt us (nI mm) (nI kc) z bits (qk_bad h0 h1 h3), tr, t0, t1, h, a, h2, a2, au, mt, d0, d1, r1, r2, r3, r4, r5, r6, hd, _, _, met, _, _, _, _, _, _, mm, kc, Or.inl ⟨rfl, rfl, S.up (by omega)⟩⟩
          · exact ⟨by decide, by decide, by decide, by decide⟩
          · exact ⟨by decide, by decide, by decide, by decide⟩
  · have b2 := S.2.2.1
    obtain ⟨l1, l2⟩ := qg_lo S
    by_cases h0 : z = nI 0
    · subst h0
      have S' := qg_keep0 (bits := bits) S hJ (oh := 0) rfl
      obtain ⟨-, -, -, -, -, -, -, ⟨lv', ps', Z'⟩, hI', -⟩ := id S'
      have m1 := c_Tp_keep0_B l D cI cJ tp tr t0 t1 hd h a f h2 a2 g au mt d0 d1 met bits b2
      rw [qh_allI Z' hI'] at m1
      have m2 := c_Mo_keep0 l D cZ cI2 cB mo r1 r2 r3 r4 r5 r6 th pl mk nt bt us (nI mm) (nI kc) bits l1 l2
      rw [nI_add kc 1] at m2
      refine ⟨_, _, _, _, _, ?_, ?_, m1, m2, tr, t0, t1, h, a, h2, a2, au, mt, d0, d1, r1, r2, r3, r4, r5, r6, hd, _, _, met, _, _, _, _, _, _, mm, (kc + 1), Or.inl ⟨rfl, rfl, S'⟩⟩
      · exact ⟨by decide, by decide, by decide, by decide⟩
      · exact ⟨by decide, by decide, by decide, by decide⟩
    · by_cases h1 : z = nI 1
      · subst h1
        refine ⟨_, _, _, _, _, ?_, ?_, c_Tp_keep1_B l D cI cJ tp tr t0 t1 hd h a f h2 a2 g au mt d0 d1 met bits b2, c_Mo_keep1 l D cZ cI2 cB mo r1 r2 r3 r4 r5 r6 th pl mk nt bt us (nI mm) (nI kc) bits, tr, t0, t1, h, a, h2, a2, au, mt, d0, d1, r1, r2, r3, r4, r5, r6, hd, _, _, met, _, _, _, _, _, _, mm, kc, Or.inr (Or.inr (Or.inr ⟨rfl, rfl, (qg_keep1 S).up (by omega)⟩))⟩
        · exact ⟨by decide, by decide, by decide, by decide⟩
        · exact ⟨by decide, by decide, by decide, by decide⟩
      · by_cases h3 : z = nI 2
        · subst h3
          by_cases hb : qb_n bits % 4 = 1 ∨ qb_n bits % 4 = 2
          · have m2 := c_Mo_keep2y l D cZ cI2 cB mo r1 r2 r3 r4 r5 r6 th pl mk nt bt us (nI mm) (nI kc) bits l1 hb
            rw [nI_add kc 1] at m2
            refine ⟨_, _, _, _, _, ?_, ?_, c_Tp_keep2_B l D cI cJ tp tr t0 t1 hd h a f h2 a2 g au mt d0 d1 met bits b2, m2, tr, t0, t1, h, a, h2, a2, au, mt, d0, d1, r1, r2, r3, r4, r5, r6, hd, _, _, met, _, _, _, _, _, _, mm, (kc + 1), Or.inr (Or.inr (Or.inr ⟨rfl, rfl, qg_keep2y (bits := bits) S hJ (oh := 0) rfl hb⟩))⟩
            · exact ⟨by decide, by decide, by decide, by decide⟩
            · exact ⟨by decide, by decide, by decide, by decide⟩
          · skip
            refine ⟨_, _, _, _, _, ?_, ?_, c_Tp_keep2_B l D cI cJ tp tr t0 t1 hd h a f h2 a2 g au mt d0 d1 met bits b2, c_Mo_keep2n l D cZ cI2 cB mo r1 r2 r3 r4 r5 r6 th pl mk nt bt us (nI mm) (nI kc) bits hb, tr, t0, t1, h, a, h2, a2, au, mt, d0, d1, r1, r2, r3, r4, r5, r6, hd, _, _, met, _, _, _, _, _, _, mm, kc, Or.inr (Or.inr (Or.inr ⟨rfl, rfl, (qg_keep2n (bits := bits) S _ (by omega) hb).up (by omega)⟩))⟩
            · exact ⟨by decide, by decide, by decide, by decide⟩
            · exact ⟨by decide, by decide, by decide, by decide⟩
        · skip
          refine ⟨_, _, _, _, _, ?_, ?_, c_Tp_keep_bad_B l D cI cJ tp tr t0 t1 hd h a f h2 a2 g au mt d0 d1 met z bits b2 (qk_bad h0 h1 h3), c_Mo_keep_bad l D cZ cI2 cB mo r1 r2 r3 r4 r5 r6 th pl mk nt bt us (nI mm) (nI kc) z bits (qk_bad h0 h1 h3), tr, t0, t1, h, a, h2, a2, au, mt, d0, d1, r1, r2, r3, r4, r5, r6, hd, _, _, met, _, _, _, _, _, _, mm, kc, Or.inr (Or.inl ⟨rfl, rfl, S.up (by omega)⟩)⟩
          · exact ⟨by decide, by decide, by decide, by decide⟩
          · exact ⟨by decide, by decide, by decide, by decide⟩
  · skip
    refine ⟨_, _, _, _, _, ?_, ?_, qx_sw (c_Tp_keep_off l D cI cJ tp tr t0 t1 t1 9 t0 2 hd h a f h2 a2 g au mt d0 d1 met 0 z bits (by omega) (by omega) S.2.1 (by omega)), c_Mo_keep_off l D cZ cI2 cB mo r1 r2 r3 r4 r5 r6 th pl mk nt bt us (nI mm) (nI kc) z bits, tr, t0, t1, h, a, h2, a2, au, mt, d0, d1, r1, r2, r3, r4, r5, r6, hd, _, _, met, _, _, _, _, _, _, mm, kc, Or.inr (Or.inr (Or.inl ⟨rfl, rfl, S.up (by omega)⟩))⟩
    · exact ⟨by decide, by decide, by decide, by decide⟩
    · exact ⟨by decide, by decide, by decide, by decide⟩
  · skip
    refine ⟨_, _, _, _, _, ?_, ?_, c_Tp_keep_off l D cI cJ tp tr t0 t1 t0 2 t1 9 hd h a f h2 a2 g au mt d0 d1 met 1 z bits (by omega) (by omega) S.2.1 (by omega), c_Mo_keep_off l D cZ cI2 cB mo r1 r2 r3 r4 r5 r6 th pl mk nt bt us (nI mm) (nI kc) z bits, tr, t0, t1, h, a, h2, a2, au, mt, d0, d1, r1, r2, r3, r4, r5, r6, hd, _, _, met, _, _, _, _, _, _, mm, kc, Or.inr (Or.inr (Or.inr ⟨rfl, rfl, S.up (by omega)⟩))⟩
    · exact ⟨by decide, by decide, by decide, by decide⟩
    · exact ⟨by decide, by decide, by decide, by decide⟩
set_option maxHeartbeats 1000000 in
theorem qOp_fail (l : Launch) (D : va_G) : qOp l D y_Tp_fail b_Tp_fail 1 y_Mo_fail b_Mo_fail 1 [] := by
  intro cI cJ cZ cI2 cB tp mo J wv wm hJ hq
  obtain ⟨tr, t0, t1, h, a, h2, a2, au, mt, d0, d1, r1, r2, r3, r4, r5, r6, hd, f, g, met, th, pl, mk, nt, bt, us, mm, kc, hc⟩ := hq
  rcases hc with ⟨rfl, rfl, S⟩ | ⟨rfl, rfl, S⟩ | ⟨rfl, rfl, S⟩ | ⟨rfl, rfl, S⟩
  · skip
    refine ⟨_, _, _, _, _, ?_, ?_, qx_sw (c_Tp_fail_ok l D cI cJ tp tr t0 t1 t1 9 t0 2 hd h a f h2 a2 g au mt d0 d1 met 0 (by omega) (by omega) S.2.2.1 (by omega)), c_Mo_fail_ok l D cZ cI2 cB mo r1 r2 r3 r4 r5 r6 th pl mk nt bt us (nI mm) (nI kc), tr, t0, t1, h, a, h2, a2, au, mt, d0, d1, r1, r2, r3, r4, r5, r6, hd, _, _, met, _, _, _, _, _, _, mm, kc, Or.inr (Or.inr (Or.inl ⟨rfl, rfl, (qg_fail S).up (by omega)⟩))⟩
    · exact ⟨by decide, by decide, by decide, by decide⟩
    · exact ⟨by decide, by decide, by decide, by decide⟩
  · skip
    refine ⟨_, _, _, _, _, ?_, ?_, c_Tp_fail_ok l D cI cJ tp tr t0 t1 t0 2 t1 9 hd h a f h2 a2 g au mt d0 d1 met 1 (by omega) (by omega) S.2.2.1 (by omega), c_Mo_fail_ok l D cZ cI2 cB mo r1 r2 r3 r4 r5 r6 th pl mk nt bt us (nI mm) (nI kc), tr, t0, t1, h, a, h2, a2, au, mt, d0, d1, r1, r2, r3, r4, r5, r6, hd, _, _, met, _, _, _, _, _, _, mm, kc, Or.inr (Or.inr (Or.inr ⟨rfl, rfl, (qg_fail S).up (by omega)⟩))⟩
    · exact ⟨by decide, by decide, by decide, by decide⟩
    · exact ⟨by decide, by decide, by decide, by decide⟩
  · skip
    refine ⟨_, _, _, _, _, ?_, ?_, qx_sw (c_Tp_fail_off l D cI cJ tp tr t0 t1 t1 9 t0 2 hd h a f h2 a2 g au mt d0 d1 met 0 (by omega) (by omega) S.2.1 (by omega)), c_Mo_fail_off l D cZ cI2 cB mo r1 r2 r3 r4 r5 r6 th pl mk nt bt us (nI mm) (nI kc), tr, t0, t1, h, a, h2, a2, au, mt, d0, d1, r1, r2, r3, r4, r5, r6, hd, _, _, met, _, _, _, _, _, _, mm, kc, Or.inr (Or.inr (Or.inl ⟨rfl, rfl, S.up (by omega)⟩))⟩
    · exact ⟨by decide, by decide, by decide, by decide⟩
    · exact ⟨by decide, by decide, by decide, by decide⟩
  · skip
    refine ⟨_, _, _, _, _, ?_, ?_, c_Tp_fail_off l D cI cJ tp tr t0 t1 t0 2 t1 9 hd h a f h2 a2 g au mt d0 d1 met 1 (by omega) (by omega) S.2.1 (by omega), c_Mo_fail_off l D cZ cI2 cB mo r1 r2 r3 r4 r5 r6 th pl mk nt bt us (nI mm) (nI kc), tr, t0, t1, h, a, h2, a2, au, mt, d0, d1, r1, r2, r3, r4, r5, r6, hd, _, _, met, _, _, _, _, _, _, mm, kc, Or.inr (Or.inr (Or.inr ⟨rfl, rfl, S.up (by omega)⟩))⟩
    · exact ⟨by decide, by decide, by decide, by decide⟩
    · exact ⟨by decide, by decide, by decide, by decide⟩
set_option maxHeartbeats 1000000 in
theorem qOp_mount (l : Launch) (D : va_G) : qOp l D y_Tp_mount b_Tp_mount 1 y_Mo_mount b_Mo_mount 1 [] := by
  intro cI cJ cZ cI2 cB tp mo J wv wm hJ hq
  obtain ⟨tr, t0, t1, h, a, h2, a2, au, mt, d0, d1, r1, r2, r3, r4, r5, r6, hd, f, g, met, th, pl, mk, nt, bt, us, mm, kc, hc⟩ := hq
  rcases hc with ⟨rfl, rfl, S⟩ | ⟨rfl, rfl, S⟩ | ⟨rfl, rfl, S⟩ | ⟨rfl, rfl, S⟩
  · skip
    refine ⟨_, _, _, _, _, ?_, ?_, c_Tp_mount_on_A l D cI cJ tp tr t0 t1 hd h a f h2 a2 g au mt d0 d1 met S.2.2.1, c_Mo_mount_on l D cZ cI2 cB mo r1 r2 r3 r4 r5 r6 th pl mk nt bt us (nI mm) (nI kc), tr, t0, t1, h, a, h2, a2, au, mt, d0, d1, r1, r2, r3, r4, r5, r6, hd, _, _, met, _, _, _, _, _, _, mm, kc, Or.inl ⟨rfl, rfl, S.up (by omega)⟩⟩
    · exact ⟨by decide, by decide, by decide, by decide⟩
    · exact ⟨by decide, by decide, by decide, by decide⟩
  · skip
    refine ⟨_, _, _, _, _, ?_, ?_, c_Tp_mount_on_B l D cI cJ tp tr t0 t1 hd h a f h2 a2 g au mt d0 d1 met S.2.2.1, c_Mo_mount_on l D cZ cI2 cB mo r1 r2 r3 r4 r5 r6 th pl mk nt bt us (nI mm) (nI kc), tr, t0, t1, h, a, h2, a2, au, mt, d0, d1, r1, r2, r3, r4, r5, r6, hd, _, _, met, _, _, _, _, _, _, mm, kc, Or.inr (Or.inl ⟨rfl, rfl, S.up (by omega)⟩)⟩
    · exact ⟨by decide, by decide, by decide, by decide⟩
    · exact ⟨by decide, by decide, by decide, by decide⟩
  · have b2 := S.2.1
    have b3 := S.2.2.1
    obtain ⟨l1, l2, n1, n0⟩ := qg_mount S hJ f
    have m2 := c_Mo_mount_ok l D cZ cI2 cB mo r1 r2 r3 r4 r5 r6 th pl mk nt bt us (nI mm) (nI kc) b3 l1 l2
    by_cases kw : qv_word g 0 0 < qv_word g 1 0
    · have S' := n1 kw
      obtain ⟨-, -, -, -, -, -, -, ⟨lv', ps', Z'⟩, hI', -⟩ := id S'
      have m1 := c_Tp_mount1_A l D cI cJ tp tr t0 t1 hd h a f h2 a2 g au mt d0 d1 met b2 kw
      rw [qh_allI Z' hI'] at m1
      refine ⟨_, _, _, _, _, ?_, ?_, m1, m2, tr, t0, t1, h, a, h2, a2, au, mt, d0, d1, r1, r2, r3, r4, r5, r6, hd, _, _, met, _, _, _, _, _, _, mm, kc, Or.inr (Or.inl ⟨rfl, rfl, S'.up (by omega)⟩)⟩
      · exact ⟨by decide, by decide, by decide, by decide⟩
      · exact ⟨by decide, by decide, by decide, by decide⟩
    · have S' := n0 kw
      obtain ⟨-, -, -, -, -, -, -, ⟨lv', ps', Z'⟩, hI', -⟩ := id S'
      have m1 := c_Tp_mount0_A l D cI cJ tp tr t0 t1 hd h a f h2 a2 g au mt d0 d1 met b2 kw
      rw [qh_allI Z' hI'] at m1
      refine ⟨_, _, _, _, _, ?_, ?_, m1, m2, tr, t0, t1, h, a, h2, a2, au, mt, d0, d1, r1, r2, r3, r4, r5, r6, hd, _, _, met, _, _, _, _, _, _, mm, kc, Or.inl ⟨rfl, rfl, S'.up (by omega)⟩⟩
      · exact ⟨by decide, by decide, by decide, by decide⟩
      · exact ⟨by decide, by decide, by decide, by decide⟩
  · have b2 := S.2.1
    have b3 := S.2.2.1
    obtain ⟨l1, l2, n1, n0⟩ := qg_mount S hJ f
    have m2 := c_Mo_mount_ok l D cZ cI2 cB mo r1 r2 r3 r4 r5 r6 th pl mk nt bt us (nI mm) (nI kc) b3 l1 l2
    by_cases kw : qv_word g 0 0 < qv_word g 1 0
    · have S' := n1 kw
      obtain ⟨-, -, -, -, -, -, -, ⟨lv', ps', Z'⟩, hI', -⟩ := id S'
      have m1 := c_Tp_mount1_B l D cI cJ tp tr t0 t1 hd h a f h2 a2 g au mt d0 d1 met b2 kw
      rw [qh_allI Z' hI'] at m1
      refine ⟨_, _, _, _, _, ?_, ?_, m1, m2, tr, t0, t1, h, a, h2, a2, au, mt, d0, d1, r1, r2, r3, r4, r5, r6, hd, _, _, met, _, _, _, _, _, _, mm, kc, Or.inr (Or.inl ⟨rfl, rfl, S'.up (by omega)⟩)⟩
      · exact ⟨by decide, by decide, by decide, by decide⟩
      · exact ⟨by decide, by decide, by decide, by decide⟩
    · have S' := n0 kw
      obtain ⟨-, -, -, -, -, -, -, ⟨lv', ps', Z'⟩, hI', -⟩ := id S'
      have m1 := c_Tp_mount0_B l D cI cJ tp tr t0 t1 hd h a f h2 a2 g au mt d0 d1 met b2 kw
      rw [qh_allI Z' hI'] at m1
      refine ⟨_, _, _, _, _, ?_, ?_, m1, m2, tr, t0, t1, h, a, h2, a2, au, mt, d0, d1, r1, r2, r3, r4, r5, r6, hd, _, _, met, _, _, _, _, _, _, mm, kc, Or.inl ⟨rfl, rfl, S'.up (by omega)⟩⟩
      · exact ⟨by decide, by decide, by decide, by decide⟩
      · exact ⟨by decide, by decide, by decide, by decide⟩
