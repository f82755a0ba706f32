/-! own: the block itself, or a copy of it that nobody else has -/
/-- what a copy, or the block itself, is: c stands in b's place -/
def qo_post (T K k : Nat) (f f' : Nat → Int64) (b c : Nat) (rt : Nat → Nat) (lk : Nat → Nat → Nat) (lv ps db lv' ps' : Nat → Nat) : Prop :=
  qf_po c ∧ qv_wy f' T c = 1 ∧ qv_wy f' K c = 0 ∧
  qf_ok rt (va_up lk c (qv_lk f b)) (qv_wy f' T) lv' ps' (fun x => db x - qi_ (x = b) + qi_ (x = c)) ∧
  lv' c = k ∧ ps' c = ps b ∧ (∀ x, x ≠ c → lv' x = lv x ∧ ps' x = ps x) ∧
  (∀ i, i < 16 → qv_word f' c i = qv_word f b i) ∧
  (∀ x, x ≠ c → (x < T + 1 ∨ T + 7 ≤ x) → qv_eq f' f x) ∧
  (c = b ∨ (qv_wy f T c = 0 ∧ qv_wy f K c = 0)) ∧
  (∀ x, x ≠ c → 0 < qv_wy f' T x → 0 < qv_wy f T x)
theorem qo_own {T K k : Nat} (hT : T + 7 ≤ 16) (hK : K + 7 ≤ 16) (hTK : T + 7 ≤ K ∨ K + 7 ≤ T) (hk : k ≤ 2) {f : Nat → Int64} {h b : Nat} (h1 : 16 ≤ h) (h2 : h < 784) {rt : Nat → Nat} {lk : Nat → Nat → Nat} {lv ps db : Nat → Nat}
    (ok : qf_ok rt lk (qv_wy f T) lv ps db) (hb : qf_po b) (hlb : lv b = k) (hdb : 1 ≤ db b) (hlk : ∀ m i, 0 < qv_wy f T m → lv m ≤ k → i < qf_nl (lv m) → lk m i = qv_lk f m i) (hw : ∀ x, qv_wy f T x ≤ 100)
    (hx : ∃ c, qf_po c ∧ qv_wy f T c = 0 ∧ qv_wy f K c = 0) :
    ∃ (c : Nat) (f' : Nat → Int64) (h' : Nat) (lv' ps' : Nat → Nat), qt_own T K k f h b = (c, f', h') ∧ 16 ≤ h' ∧ h' < 784 ∧ qo_post T K k f f' b c rt lk lv ps db lv' ps' := by
  have hwb : 0 < qv_wy f T b := by have := ok.2.2.1 b hb; omega
  by_cases hown : qv_wy f T b = 1 ∧ qv_wy f K b = 0
  · refine ⟨b, f, h, lv, ps, by unfold qt_own; rw [if_pos hown], h1, h2, hb, hown.1, hown.2, ?_, hlb, rfl, fun x _ => ⟨rfl, rfl⟩, fun i _ => rfl, fun x _ _ => qv_eq.rf, Or.inl rfl, fun x _ hq => hq⟩
    have o1 : qf_ok rt (va_up lk b (qv_lk f b)) (qv_wy f T) lv ps db := qf_write ok (fun m i hm hi => by
      by_cases hmb : m = b
      · subst hmb; rw [qf_us]; exact (hlk m i hm (by omega) hi).symm
      · rw [qf_un hmb])
    refine qf_set_wy o1 (fun x => Iff.rfl) (fun x _ => ?_)
    try dsimp only
    by_cases hxb : x = b
    · subst hxb; rw [qi_t rfl]; omega
    · rw [qi_f hxb]; omega
  · obtain ⟨c, hc, hc1, hc2, he⟩ := qk_take_ok (T := T) (K := K) (f := f) h1 h2 hx
    have hbc : b ≠ c := fun e => by rw [e] at hwb; omega
    -- the block is taken
    have w1 : qv_wy (qv_setY f T c 1) T = va_up (qv_wy f T) c 1 := qe_setY hT hc (by omega)
    have o1 := qf_birth ok hc hc1
    have hdc : db c = 0 := by have := ok.2.2.1 c hc; omega
    -- it becomes a copy
    have q2 : ∀ x, x ≠ c → qv_eq (qv_dup (qv_setY f T c 1) b c) (qv_setY f T c 1) x := fun x hx => qv_dup_n hx
    have w2 : ∀ x, qv_wy (qv_dup (qv_setY f T c 1) b c) T x = va_up (qv_wy f T) c 1 x := fun x => by
      rw [← w1]
      exact qe_wy_eq (fun j hj1 hj2 => q2 _ (by have := hc.1; omega)) x
    have cw : ∀ i, i < 16 → qv_word (qv_dup (qv_setY f T c 1) b c) c i = qv_word f b i := fun i hi => by
      rw [qv_dup_s hc.2 hbc i hi]
      exact qe_setY_n (by have := hb.1; omega) i hi
    have cl : ∀ i, i < 64 → qv_lk (qv_dup (qv_setY f T c 1) b c) c i = qv_lk f b i := fun i hi => by
      unfold qv_lk
      rw [cw (i / 4) (by omega)]
    -- b's links: live blocks, one level below
    have hbl : ∀ i, i < qf_nl k → lk b i = qv_lk f b i := fun i hi => hlk b i hwb (by omega) (by rw [hlb]; exact hi)
    have hbx : ∀ i, i < qf_nl k → qf_li lv ps k i (qv_lk f b i) := fun i hi => by
      rw [← hbl i hi, ← hlb]
      exact ok.2.1 b i hwb (by rw [hlb]; exact hi)
    have hbc2 : ∀ i, i < qf_nl k → qv_lk f b i ≠ c := fun i hi e => by
      by_cases h0 : qv_lk f b i = 0
      · rw [h0] at e; rw [← e] at hc; exact qf_po0 hc
      · obtain ⟨q, -, -, -⟩ := qf_live_lk ok hwb (i := i) (by rw [hlb]; exact hi) (by rw [hbl i hi]; exact h0)
        rw [hbl i hi, e] at q
        omega
    have hn32 := qf_nl_le k
    obtain ⟨w3, q3⟩ := qk_ways hT (f := qv_dup (qv_setY f T c 1) b c) (c := c) (k := k) hc (fun x => by
        rw [w2]
        have := hw x
        by_cases hxc : x = c
        · subst hxc; rw [qf_us]; omega
        · rw [qf_un hxc]; omega) (fun i hi => by
        rw [cl i (by omega)]
        rcases hbx i hi with q | ⟨q, -, -⟩
        · exact Or.inl q
        · exact Or.inr q)
    have w3' : ∀ x, qv_wy (qt_ways T k c (qv_dup (qv_setY f T c 1) b c)) T x = va_up (qv_wy f T) c 1 x + (if qf_po x then qs_ (qf_nl k) (fun j => qi_ (qv_lk f b j = x)) else 0) := fun x => by
      rw [w3 x, w2 x, qs_congr (f := fun j => qi_ (qv_lk (qv_dup (qv_setY f T c 1) b c) c j = x)) (g := fun j => qi_ (qv_lk f b j = x)) (fun j hj => by show qi_ _ = qi_ _; rw [cl j (by omega)])]
    have hsc : qs_ (qf_nl k) (fun j => qi_ (qv_lk f b j = c)) = 0 := qs_zero (fun j hj => qi_f (hbc2 j hj))
    -- the links of the copy, in the forest
    have o2 : qf_ok rt (va_up lk c (qv_lk f b)) (va_up (qv_wy f T) c 1) (va_up lv c 0) ps (va_up db c 1) := qf_write o1 (fun m i hm hi => by
      by_cases hmc : m = c
      · subst hmc; rw [qf_us, qf_nl0] at hi; omega
      · rw [qf_un hmc])
    have o3 : qf_ok rt (va_up lk c (qv_lk f b)) (qv_wy (qt_ways T k c (qv_dup (qv_setY f T c 1) b c)) T) (va_up lv c 0) ps (fun x => va_up db c 1 x + qs_ (qf_nl k) (fun j => qi_ (qv_lk f b j = x))) := by
      refine qf_set_wy o2 (fun x => ?_) (fun x hp => ?_)
      · rw [w3' x]
        refine ⟨fun q => ?_, fun q => by omega⟩
        by_cases hp : qf_po x
        · rw [if_pos hp] at q
          by_cases hs : 0 < qs_ (qf_nl k) (fun j => qi_ (qv_lk f b j = x))
          · obtain ⟨j, hj, hj2⟩ := qs_ex hs
            have e := qi_pos hj2
            by_cases hxc : x = c
            · subst hxc; rw [qf_us]; omega
            · rw [qf_un hxc]
              obtain ⟨q1, -, -, -⟩ := qf_live_lk ok hwb (i := j) (by rw [hlb]; exact hj) (by rw [hbl j hj, e]; intro e0; rw [e0] at hp; exact qf_po0 hp)
              rw [hbl j hj, e] at q1
              exact q1
          · omega
        · rw [if_neg hp] at q; omega
      · rw [w3' x, if_pos hp]
        try dsimp only
        omega
    have o4 : qf_ok rt (va_up lk c (qv_lk f b)) (qv_wy (qt_ways T k c (qv_dup (qv_setY f T c 1) b c)) T) (va_up (va_up lv c 0) c k) (va_up ps c (ps b)) (va_up db c 1) := by
      have hwc : qv_wy (qt_ways T k c (qv_dup (qv_setY f T c 1) b c)) T c = 1 := by rw [w3' c, qf_us, if_pos hc, hsc]
      refine qf_promote o3 (n := c) (by omega) qf_us ?_ (fun i hi => ?_) (fun x _ => ?_)
      · have := o3.2.2.1 c hc
        try dsimp only at this
        rw [hwc, qf_us, hsc] at this
        omega
      · rw [qf_us]
        refine ⟨hbc2 i hi, ?_⟩
        rcases hbx i hi with q | ⟨p1, p2, p3⟩
        · exact Or.inl q
        · exact Or.inr ⟨p1, by rw [qf_un (hbc2 i hi)]; exact p2, p3⟩
      · rw [qf_us]
    -- the old one is released
    have hlv4 : ∀ x, x ≠ c → va_up (va_up lv c 0) c k x = lv x := fun x hx => by rw [qf_un hx, qf_un hx]
    obtain ⟨o5, l5⟩ := qf_rel_ok k _ _ b hk o4 (Or.inr ⟨hb, by rw [hlv4 b hbc]; exact hlb, by rw [qf_un hbc]; exact hdb⟩)
    obtain ⟨r1, r2⟩ := qe_rel hT k (qt_ways T k c (qv_dup (qv_setY f T c 1) b c)) b
    have w5 : qv_wy (qt_rel T k (qt_ways T k c (qv_dup (qv_setY f T c 1) b c)) b) T = qf_rel (va_up lk c (qv_lk f b)) k (qv_wy (qt_ways T k c (qv_dup (qv_setY f T c 1) b c)) T) b := by
      rw [r1]
      refine (qf_rel_lk (wy0 := qv_wy (qt_ways T k c (qv_dup (qv_setY f T c 1) b c)) T) (P := fun q m => m = 0 ∨ (va_up (va_up lv c 0) c k m = q ∧ q ≤ k)) (fun q m i hm hP hi => ?_) k _ b (fun x => Nat.le_refl _) (Or.inr ⟨by rw [hlv4 b hbc]; exact hlb, Nat.le_refl _⟩)).symm
      rcases hP with rfl | ⟨e1, e2⟩
      · have := o4.2.2.2 0 qf_po0; omega
      · have hpm := qf_live o4 hm
        have e3 : va_up lk c (qv_lk f b) m i = qv_lk (qt_ways T k c (qv_dup (qv_setY f T c 1) b c)) m i := by
          have hi32 := qf_nl_le (q + 1)
          rw [(q3 m (by have := hpm.1; omega)).lk (show i < 64 by omega)]
          by_cases hmc : m = c
          · subst hmc; rw [qf_us, cl i (by omega)]
          · rw [qf_un hmc, (q2 m hmc).lk (show i < 64 by omega), (qe_setY_n (f := f) (T := T) (b := c) (a := 1) (c := m) (by have := hpm.1; omega)).lk (show i < 64 by omega)]
            rw [hlv4 m hmc] at e1
            have hm0 : 0 < qv_wy f T m := by
              have hq := hm
              rw [w3' m, qf_un hmc] at hq
              by_cases hs : 0 < qv_wy f T m
              · exact hs
              · exfalso
                rw [if_pos hpm] at hq
                obtain ⟨j, hj, hj2⟩ := qs_ex (n := qf_nl k) (f := fun j => qi_ (qv_lk f b j = m)) (by omega)
                have e := qi_pos hj2
                obtain ⟨q1, -, -, -⟩ := qf_live_lk ok hwb (i := j) (by rw [hlb]; exact hj) (by rw [hbl j hj, e]; intro e0; rw [e0] at hpm; exact qf_po0 hpm)
                rw [hbl j hj, e] at q1
                exact hs q1
            exact hlk m i hm0 (by omega) (by rw [e1]; exact hi)
        refine ⟨e3, ?_⟩
        rcases o4.2.1 m i hm (by rw [e1]; exact hi) with q0 | ⟨-, p2, -⟩
        · exact Or.inl q0
        · exact Or.inr ⟨by omega, by omega⟩
    have qAll : ∀ x, x ≠ c → (x < T + 1 ∨ T + 7 ≤ x) → qv_eq (qt_rel T k (qt_ways T k c (qv_dup (qv_setY f T c 1) b c)) b) f x := fun x hx hr => (r2 x hr).tr ((q3 x hr).tr ((q2 x hx).tr (qe_setY_n hr)))
    have hwc4 : qv_wy (qt_ways T k c (qv_dup (qv_setY f T c 1) b c)) T c = 1 := by rw [w3' c, qf_us, if_pos hc, hsc]
    have hcb : ¬ c = b := fun e => hbc e.symm
    refine ⟨c, qt_rel T k (qt_ways T k c (qv_dup (qv_setY f T c 1) b c)) b, c, va_up (va_up lv c 0) c k, va_up ps c (ps b), ?_, hc.1, hc.2, hc, ?_, ?_, ?_, qf_us, qf_us, fun x hx => ⟨hlv4 x hx, qf_un hx⟩, ?_, qAll, Or.inr ⟨hc1, hc2⟩, ?_⟩
    · unfold qt_own
      rw [if_neg hown, he]
    · have g1 := l5 c
      have g2 := o5.2.2.1 c hc
      try dsimp only at g2
      rw [qf_us, qi_f hcb] at g2
      rw [w5]
      omega
    · rw [← hc2]
      exact qe_wy_eq (fun j hj1 hj2 => qAll _ (by have := hc.1; omega) (by omega)) c
    · rw [w5]
      refine qf_set_wy o5 (fun x => Iff.rfl) (fun x _ => ?_)
      try dsimp only
      by_cases hxc : x = c
      · subst hxc; rw [qf_us, qi_f hcb, qi_t rfl]; omega
      · rw [qf_un hxc, qi_f hxc]; rfl
    · intro i hi
      rw [r2 c (by have := hc.1; omega) i hi, q3 c (by have := hc.1; omega) i hi, cw i hi]
    · intro x hxc hq
      rw [w5] at hq
      have g1 := l5 x
      by_cases hs : 0 < qv_wy f T x
      · exact hs
      · exfalso
        have hq4 : 0 < qv_wy (qt_ways T k c (qv_dup (qv_setY f T c 1) b c)) T x := by omega
        have hpx := qf_live o4 hq4
        rw [w3' x, qf_un hxc, if_pos hpx] at hq4
        obtain ⟨j, hj, hj2⟩ := qs_ex (n := qf_nl k) (f := fun j => qi_ (qv_lk f b j = x)) (by omega)
        have e := qi_pos hj2
        obtain ⟨q1, -, -, -⟩ := qf_live_lk ok hwb (i := j) (by rw [hlb]; exact hj) (by rw [hbl j hj, e]; intro e0; rw [e0] at hpx; exact qf_po0 hpx)
        rw [hbl j hj, e] at q1
        exact hs q1
