/-! the leaf of a piece, below a root that only v has -/
theorem qr_ownLeaf {T K : Nat} (hT : T + 7 ≤ 16) (hK : K + 7 ≤ 16) (hTK : T + 7 ≤ K ∨ K + 7 ≤ T) {f : Nat → Int64} {h v r i : Nat} (h1 : 16 ≤ h) (h2 : h < 784) (hv : v < 16) (hi : i < 4) {lv ps kl kp : Nat → Nat} (Z : qz_ok f T lv ps 0) (ZK : qz_st f K kl kp) (hr : qv_rt f T v = r) (hpr : qf_po r) (hwr : qv_wy f T r = 1) (hkr : qv_wy f K r = 0) :
    ∃ (l : Nat) (f' : Nat → Int64) (h' : Nat) (lv' ps' : Nat → Nat), qt_ownLink T K 1 f h r i = (l, f', h') ∧ 16 ≤ h' ∧ h' < 784 ∧ qz_ok f' T lv' ps' l ∧ qv_rt f' T v = r ∧ qv_wy f' T r = 1 ∧ lv' r = 2 ∧ qv_lk f' r i = l ∧ qf_po l ∧ qv_wy f' T l = 1 ∧ lv' l = 1 ∧ ps' l = i ∧ qr_fr T K f f' (fun x => x = l ∨ x = r) ∧ qr_same T f f' (fun _ _ => False) ∧ (∀ j, j < 16 → qv_word f' l j = if qv_lk f r i = 0 then 0 else qv_word f (qv_lk f r i) j) ∧ qf_tot (qv_rt f' T) (qv_lk f') = qf_tot (qv_rt f T) (qv_lk f) ∧ (∀ w, w < 16 → w ≠ v → qv_rt f' T w ≠ r) ∧ l ≠ r := by
  obtain ⟨⟨ok, htot, hl2⟩, hs⟩ := id Z
  obtain ⟨hx, hw⟩ := qc_room Z.1 ZK
  have hr0 : qv_rt f T v ≠ 0 := fun e => by rw [hr] at e; rw [e] at hpr; exact qf_po0 hpr
  obtain ⟨-, hlr, -⟩ := qf_live_rt ok hv hr0
  rw [hr] at hlr
  have hir : i < qf_nl (lv r) := by rw [hlr]; exact hi
  have hin1 : qf_in (qv_rt f T) (qv_lk f) (qv_wy f T) lv r ≤ 1 := by have := ok.2.2.1 r hpr; omega
  obtain ⟨onlyR, noLk⟩ := qf_only_rt ok hv hr hin1
  -- the link is taken away
  have o0 : qf_ok (qv_rt f T) (qf_lk (qv_lk f) r i 0) (qv_wy f T) lv ps (fun x => qi_ (qv_lk f r i = x)) := qf_set_lk ok (by omega) hir (Or.inl rfl) (fun x hp => by
    try dsimp only
    rw [qi_f (p := 0 = x) (fun e => by rw [← e] at hp; exact qf_po0 hp)]
    omega)
  obtain ⟨c, f', h', lv', ps', e, g1, g2, a1, a2, a3, a4, a5, a6, a7, a8, a9, a10, a11, a12⟩ := qo_ownOr (j := i) hT hK hTK (k := 1) (by omega) h1 h2 o0 (fun x _ => rfl) (fun h0 => by
      obtain ⟨z1, z2, z3, z4⟩ := qf_live_lk ok (n := r) (i := i) (by omega) hir h0
      exact ⟨z3, by omega, z4⟩) (fun m j hm hl hj => qf_lk_n _ _ _ _ _ _ (fun e => by rw [e] at hl; omega)) hw hx
  have hc16 := a1.1
  have hcT : c < 65536 := by have := a1.2; omega
  have hcr : c ≠ r := fun e => by
    rcases a10 with ⟨q0, q⟩ | ⟨q, -⟩
    · obtain ⟨z1, z2, z3, z4⟩ := qf_live_lk ok (n := r) (i := i) (by omega) hir q0
      rw [← q, e] at z2
      omega
    · rw [e] at q; omega
  have hrc : r ≠ c := fun e => hcr e.symm
  -- what the root r is behind it
  have hlr' : lv' r = 2 := by rw [(a7 r hrc).1]; exact hlr
  have hwr' : qv_wy f' T r = 1 := by
    have z := a4.2.2.1 r hpr
    try dsimp only at z
    rw [qi_f hrc] at z
    have y1 : 1 ≤ qf_in (qv_rt f T) (va_up (qf_lk (qv_lk f) r i 0) c (fun i_1 => if qv_lk f r i = 0 then 0 else qv_lk f (qv_lk f r i) i_1)) (qv_wy f' T) lv' r := qf_in_ge_rt hv hr
    have y2 : qf_in (qv_rt f T) (va_up (qf_lk (qv_lk f) r i 0) c (fun i_1 => if qv_lk f r i = 0 then 0 else qv_lk f (qv_lk f r i) i_1)) (qv_wy f' T) lv' r ≤ 1 := by
      unfold qf_in
      have s1 : qs_ 16 (fun w => qi_ (qv_rt f T w = r)) = qi_ (qv_rt f T v = r) := qs_one (f := fun w => qi_ (qv_rt f T w = r)) hv (fun w hw2 hne => qi_f (onlyR w hw2 hne))
      have s2 : qs_ 784 (fun n => qf_out (va_up (qf_lk (qv_lk f) r i 0) c (fun i_1 => if qv_lk f r i = 0 then 0 else qv_lk f (qv_lk f r i) i_1)) (qv_wy f' T) lv' n r) = 0 := qs_zero (fun n _ => by
        have y3 := qf_out_le a4 (n := n) (b := r) (fun e => by rw [e] at hpr; exact qf_po0 hpr)
        rw [qi_f (fun q => ?_)] at y3
        · omega
        · have y4 : lv' n = 3 := by have := q.2; omega
          by_cases hnc : n = c
          · rw [hnc] at y4; omega
          · rw [(a7 n hnc).1] at y4
            have := hl2 n
            omega)
      rw [s1, s2]
      have := qi_le (qv_rt f T v = r)
      omega
    omega
  -- the link leads to c
  have lk0 : va_up (qf_lk (qv_lk f) r i 0) c (fun i_1 => if qv_lk f r i = 0 then 0 else qv_lk f (qv_lk f r i) i_1) r i = 0 := by rw [qf_un hrc, qf_lk_s]
  have o1 := qf_set_lk (n := r) (i := i) (x := c) (db' := fun _ => 0) a4 (by omega) (by rw [hlr']; exact hi) (Or.inr ⟨a1, by omega, a6⟩) (fun x hp => by
    try dsimp only
    rw [lk0, qi_f (p := 0 = x) (fun e => by rw [← e] at hp; exact qf_po0 hp)]
    by_cases hxc : x = c
    · rw [qi_t hxc, qi_t hxc.symm]
    · rw [qi_f hxc, qi_f (fun e => hxc e.symm)])
  have q1 : ∀ x, x ≠ r → qv_eq (qv_setL f' r i c) f' x := fun x hx => qv_eq_setL hx (by omega)
  have qA : ∀ x, x ≠ c → x ≠ r → (x < T + 1 ∨ T + 7 ≤ x) → qv_eq (qv_setL f' r i c) f x := fun x hx hxr hr => (q1 x hxr).tr (a9 x hx hr)
  have qT : qv_eq (qv_setL f' r i c) f T := qA T (by omega) (by have := hpr.1; omega) (by omega)
  have rtN : ∀ w, w < 16 → qv_rt (qv_setL f' r i c) T w = qv_rt f T w := fun w hw2 => qT.lk (by omega)
  have wyN : ∀ x, qv_wy (qv_setL f' r i c) T x = qv_wy f' T x := fun x => qe_wy_eq (fun k hk1 hk2 => q1 _ (by have := hpr.1; omega)) x
  have cW : ∀ j, j < 16 → qv_word (qv_setL f' r i c) c j = if qv_lk f r i = 0 then 0 else qv_word f (qv_lk f r i) j := fun j hj => by
    rw [q1 c hcr j hj, a8 j hj]
  have cL : ∀ j, j < 64 → qv_lk (qv_setL f' r i c) c j = if qv_lk f r i = 0 then 0 else qv_lk f (qv_lk f r i) j := fun j hj => by
    have e2 := cW (j / 4) (by omega)
    by_cases h0 : qv_lk f r i = 0
    · rw [if_pos h0] at e2 ⊢
      unfold qv_lk
      rw [e2, qb_0]
      simp
    · rw [if_neg h0] at e2 ⊢
      generalize qv_lk f r i = b at e2 ⊢
      unfold qv_lk
      rw [e2]
  have rL : ∀ j, j < 32 → qv_lk (qv_setL f' r i c) r j = if j = i then c else qv_lk f r j := fun j hj => by
    rw [qv_lk_setL hpr.2 (by omega) hcT]
    by_cases hji : j = i
    · rw [if_pos hji, if_pos hji]
    · rw [if_neg hji, if_neg hji]
      exact (a9 r hrc (by have := hpr.1; omega)).lk (by omega)
  have lkN : ∀ m j, 0 < qv_wy f' T m → j < 32 → qv_lk (qv_setL f' r i c) m j = qf_lk (va_up (qf_lk (qv_lk f) r i 0) c (fun i_1 => if qv_lk f r i = 0 then 0 else qv_lk f (qv_lk f r i) i_1)) r i c m j := fun m j hm hj => by
    by_cases hmr : m = r
    · subst hmr
      rw [rL j hj]
      by_cases hji : j = i
      · subst hji; rw [if_pos rfl, qf_lk_s]
      · rw [if_neg hji, qf_lk_i _ _ _ _ _ hji, qf_un hrc, qf_lk_i _ _ _ _ _ hji]
    · rw [qf_lk_n _ _ _ _ _ _ hmr]
      by_cases hmc : m = c
      · subst hmc; rw [qf_us]; exact cL j (by omega)
      · rw [qf_un hmc, qf_lk_n _ _ _ _ _ _ hmr]
        exact (qA m hmc hmr (by have := (qe_wy_po hm).1; omega)).lk (by omega)
  have o2 : qf_ok (qv_rt (qv_setL f' r i c) T) (qv_lk (qv_setL f' r i c)) (qv_wy (qv_setL f' r i c) T) lv' ps' (fun _ => 0) := qf_congr o1 rtN (fun m j hm hj => lkN m j hm (by have := qf_nl_le (lv' m); omega)) wyN
  have hl2' : ∀ b, lv' b ≤ 2 := fun b => by
    by_cases hbc : b = c
    · subst hbc; omega
    · rw [(a7 b hbc).1]; exact hl2 b
  have hin1' : qf_in (qv_rt (qv_setL f' r i c) T) (qv_lk (qv_setL f' r i c)) (qv_wy (qv_setL f' r i c) T) lv' c ≤ 1 := by
    have := o2.2.2.1 c a1
    rw [wyN, a2] at this
    omega
  obtain ⟨-, onlyC⟩ := qf_only_lk o2 (n := r) (i := i) (by rw [wyN]; omega) (by rw [hlr']; exact hi) (b := c) (by rw [rL i (by omega), if_pos rfl]) hin1'
  -- sizes
  have cnN : ∀ n, 0 < qv_wy f' T n → n ≠ c → n ≠ r → qf_cn (qv_lk (qv_setL f' r i c)) n = qf_cn (qv_lk f) n := fun n hn hnc hnr => qf_cn_congr (fun j hj => (qA n hnc hnr (by have := (qe_wy_po hn).1; omega)).lk (by omega))
  have cnC : qf_cn (qv_lk (qv_setL f' r i c)) c = if qv_lk f r i = 0 then 0 else qf_cn (qv_lk f) (qv_lk f r i) := by
    by_cases h0 : qv_lk f r i = 0
    · rw [if_pos h0]
      refine qs_zero (fun j hj => qi_f (fun q => q ?_))
      rw [cL j (by omega), if_pos h0]
    · rw [if_neg h0]
      refine qs_congr (fun j hj => ?_)
      try dsimp only
      rw [cL j (by omega), if_neg h0]
  have leafOf : ∀ n, 0 < qv_wy f' T n → ∀ j, j < qf_nl (lv' n) → qv_lk (qv_setL f' r i c) n j ≠ 0 → 0 < qv_wy f' T (qv_lk (qv_setL f' r i c) n j) ∧ lv' (qv_lk (qv_setL f' r i c) n j) + 1 = lv' n ∧ qf_po (qv_lk (qv_setL f' r i c) n j) := fun n hn j hj h0 => by
    obtain ⟨d1, d2, d3, -⟩ := qf_live_lk o2 (n := n) (i := j) (by rw [wyN]; exact hn) hj h0
    rw [wyN] at d1
    exact ⟨d1, d2, d3⟩
  have SN : ∀ n, 0 < qv_wy f' T n → lv' n = 2 → n ≠ r → qf_S (qv_lk (qv_setL f' r i c)) n = qf_S (qv_lk f) n := fun n hn hln hnr => by
    have hnc : n ≠ c := fun e => by rw [e] at hln; omega
    refine qf_S_congr (fun j hj => (qA n hnc hnr (by have := (qe_wy_po hn).1; omega)).lk (by omega)) (fun j hj h0 k hk => ?_)
    obtain ⟨d1, d2, d3⟩ := leafOf n hn j (by rw [hln]; exact hj) h0
    refine (qA _ (fun e => ?_) (fun e => by rw [e] at d2; omega) (by have := d3.1; omega)).lk (by omega)
    exact hnr (onlyC n j (by rw [wyN]; exact hn) (by rw [hln]; exact hj) e).1
  have SR : qf_S (qv_lk (qv_setL f' r i c)) r = qf_S (qv_lk f) r := by
    refine qs_congr (fun j hj => ?_)
    try dsimp only
    rw [rL j (by omega)]
    by_cases hji : j = i
    · subst hji
      rw [if_pos rfl, qi_n (fun e => by rw [e] at a1; exact qf_po0 a1), cnC, Nat.one_mul]
      by_cases h0 : qv_lk f r j = 0
      · rw [if_pos h0, qi_f (fun q => q h0), Nat.zero_mul]
      · rw [if_neg h0, qi_t h0, Nat.one_mul]
    · rw [if_neg hji]
      by_cases h0 : qv_lk f r j = 0
      · rw [qi_f (fun q => q h0), Nat.zero_mul, Nat.zero_mul]
      · congr 1
        have e2 : qv_lk (qv_setL f' r i c) r j = qv_lk f r j := by rw [rL j (by omega), if_neg hji]
        obtain ⟨d1, d2, d3⟩ := leafOf r (by omega) j (by rw [hlr']; exact hj) (by rw [e2]; exact h0)
        rw [e2] at d1 d2 d3
        refine cnN _ d1 (fun e => ?_) (fun e => by rw [e] at d2; omega)
        exact hji (onlyC r j (by rw [wyN]; omega) (by rw [hlr']; exact hj) (by rw [e2]; exact e)).2
  have totN : qf_tot (qv_rt (qv_setL f' r i c) T) (qv_lk (qv_setL f' r i c)) = qf_tot (qv_rt f T) (qv_lk f) := by
    refine qs_congr (fun w hw2 => ?_)
    try dsimp only
    rw [rtN w hw2]
    by_cases h0 : qv_rt f T w = 0
    · rw [qi_f (fun q => q h0), Nat.zero_mul, Nat.zero_mul]
    · congr 1
      obtain ⟨d1, d2, d3⟩ := qf_live_rt o2 hw2 (by rw [rtN w hw2]; exact h0)
      rw [rtN w hw2, wyN] at d1
      rw [rtN w hw2] at d2
      by_cases hwr2 : qv_rt f T w = r
      · rw [hwr2]; exact SR
      · exact SN _ d1 d2 hwr2
  -- what is found: a leaf may be another one, with the same links
  have notC : ∀ x, 0 < qv_wy f T x → (lv x ≠ 1 ∨ x ≠ qv_lk f r i) → x ≠ c := fun x hx2 hl e => by
    rcases a10 with ⟨q0, q⟩ | ⟨q, -⟩
    · rcases hl with hl | hl
      · obtain ⟨z1, z2, z3, z4⟩ := qf_live_lk ok (n := r) (i := i) (by omega) hir q0
        rw [e, q] at hl
        omega
      · rw [e] at hl; exact hl q
    · rw [e] at hx2; omega
  have findN : ∀ w p, w < 16 → p < 128 → qt_find (qv_setL f' r i c) T w p = qt_find f T w p := fun w p hw2 hp => by
    unfold qt_find qt_leaf
    rw [rtN w hw2]
    by_cases h0 : qv_rt f T w = 0
    · simp [h0]
    · rw [if_neg h0, if_neg h0]
      obtain ⟨z1, z2, z3⟩ := qf_live_rt ok hw2 h0
      -- a live leaf of f, not the one that is replaced
      have other : ∀ x, 0 < qv_wy f T x → lv x = 1 → x ≠ c → qv_lk (qv_setL f' r i c) x (p % 32) = qv_lk f x (p % 32) := fun x hx2 hl hxc => (qA x hxc (fun e => by rw [e] at hl; omega) (by have := (qe_wy_po hx2).1; omega)).lk (by omega)
      by_cases hwr2 : qv_rt f T w = r
      · rw [hwr2, rL (p / 32) (by omega)]
        by_cases hpi : p / 32 = i
        · rw [if_pos hpi, if_neg (fun e => by rw [e] at a1; exact qf_po0 a1), cL _ (by omega), hpi]
        · rw [if_neg hpi]
          by_cases hl0 : qv_lk f r (p / 32) = 0
          · rw [if_pos hl0, if_pos hl0]
          · rw [if_neg hl0, if_neg hl0]
            obtain ⟨y1, y2, y3, y4⟩ := qf_live_lk ok (n := r) (i := p / 32) (by omega) (by rw [hlr, qf_nl2]; omega) hl0
            refine other _ y1 (by omega) (fun e => ?_)
            have e2 : qv_lk (qv_setL f' r i c) r (p / 32) = c := by rw [rL _ (by omega), if_neg hpi]; exact e
            exact hpi (onlyC r (p / 32) (by rw [wyN]; omega) (by rw [hlr', qf_nl2]; omega) e2).2
      · have hwc : qv_rt f T w ≠ c := notC _ z1 (Or.inl (by omega))
        rw [(qA _ hwc hwr2 (by have := z3.1; omega)).lk (show p / 32 < 64 by omega)]
        by_cases hl0 : qv_lk f (qv_rt f T w) (p / 32) = 0
        · rw [if_pos hl0, if_pos hl0]
        · rw [if_neg hl0, if_neg hl0]
          obtain ⟨y1, y2, y3, y4⟩ := qf_live_lk ok (n := qv_rt f T w) (i := p / 32) z1 (by rw [z2, qf_nl2]; omega) hl0
          refine other _ y1 (by omega) (fun e => ?_)
          obtain ⟨d1, d2, d3⟩ := qf_live_rt o2 hw2 (by rw [rtN w hw2]; exact h0)
          rw [rtN w hw2] at d1 d2
          have e2 : qv_lk (qv_setL f' r i c) (qv_rt f T w) (p / 32) = c := by rw [(qA _ hwc hwr2 (by have := z3.1; omega)).lk (show p / 32 < 64 by omega)]; exact e
          exact hwr2 (onlyC _ (p / 32) d1 (by rw [d2, qf_nl2]; omega) e2).1
  refine ⟨c, qv_setL f' r i c, h', lv', ps', ?_, g1, g2, ⟨⟨o2, by rw [totN]; exact htot, hl2'⟩, ⟨fun n hn hl => ?_, fun n hn hl => ?_⟩⟩, by rw [rtN v hv]; exact hr, by rw [wyN]; exact hwr', hlr', by rw [rL i (by omega), if_pos rfl], a1, by rw [wyN]; exact a2, a5, a6, ⟨fun x hx hrr => qA x (fun e => hx (Or.inl e)) (fun e => hx (Or.inr e)) (by omega), fun x hx => ?_, fun j hj => ?_⟩, ⟨fun w p hw2 hp _ => ⟨findN w p hw2 hp, fun h0 => ?_⟩, fun w hw2 => by rw [rtN w hw2]⟩, cW, totN, fun w hw2 hne => by rw [rtN w hw2]; exact onlyR w hw2 hne, hcr⟩
  · unfold qt_ownLink; rw [e]
  · rw [wyN] at hn
    have hnr : n ≠ r := fun e => by rw [e] at hl; omega
    by_cases hnc : n = c
    · subst hnc
      refine ⟨?_, fun q => absurd rfl q⟩
      rw [cnC]
      have e3 := cW 15 (by omega)
      by_cases h0 : qv_lk f r i = 0
      · rw [if_pos h0] at e3 ⊢; exact e3
      · rw [if_neg h0] at e3 ⊢
        obtain ⟨y1, y2, y3, y4⟩ := qf_live_lk ok (n := r) (i := i) (by omega) hir h0
        rw [← (hs.1 _ y1 (by omega)).1]
        exact e3
    · rw [(qA n hnc hnr (by have := (qe_wy_po hn).1; omega)).sz, cnN n hn hnc hnr]
      obtain ⟨s1, s2⟩ := hs.1 n (a11 n hnc hn) (by rw [← (a7 n hnc).1]; exact hl)
      exact ⟨s1, fun _ => s2 (fun e => by have := (qe_wy_po hn).1; omega)⟩
  · rw [wyN] at hn
    have hnc : n ≠ c := fun e => by rw [e] at hl; omega
    by_cases hnr : n = r
    · subst hnr
      rw [SR, qv_sz_setL (by omega), (a9 n hnc (by have := hpr.1; omega)).sz]
      exact hs.2 n (by omega) hlr
    · rw [(qA n hnc hnr (by have := (qe_wy_po hn).1; omega)).sz, SN n hn hl hnr]
      exact hs.2 n (a11 n hnc hn) (by rw [← (a7 n hnc).1]; exact hl)
  · rcases hx with rfl | rfl
    · exact ⟨a1, a12⟩
    · exact ⟨hpr, hkr⟩
  · exact qT.by (by omega)
  · obtain ⟨-, -, -, -, -, -, -, -, d1, d2, -, -⟩ := qr_found ok hw2 hp h0
    exact qA _ (notC _ d1 (Or.inl (by omega))) (fun e => by rw [e] at d2; omega) (by have := (qe_wy_po d1).1; omega)
