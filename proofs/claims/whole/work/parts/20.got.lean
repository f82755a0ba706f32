/-! ownOr: b, or a copy of it, or (b = 0) a new blank block, c, that nobody else has, of level k and for the place j -/
def qo_got (T K k j : Nat) (f f' : Nat → Int64) (b c : Nat) (rt : Nat → Nat) (lk : Nat → Nat → Nat) (lv ps lv' ps' : Nat → Nat) : Prop :=
  qf_po c ∧ qv_wy f' T c = 1 ∧ qv_wy f' K c = 0 ∧
  qf_ok rt (va_up lk c (fun i => if b = 0 then 0 else qv_lk f b i)) (qv_wy f' T) lv' ps' (fun x => qi_ (x = c)) ∧
  lv' c = k ∧ ps' c = j ∧ (∀ x, x ≠ c → lv' x = lv x ∧ ps' x = ps x) ∧
  (∀ i, i < 16 → qv_word f' c i = if b = 0 then 0 else qv_word f b i) ∧
  (∀ x, x ≠ c → (x < T + 1 ∨ T + 7 ≤ x) → qv_eq f' f x) ∧
  ((b ≠ 0 ∧ c = b) ∨ (qv_wy f T c = 0 ∧ qv_wy f K c = 0)) ∧
  (∀ x, x ≠ c → 0 < qv_wy f' T x → 0 < qv_wy f T x) ∧ qv_wy f K c = 0
theorem qo_ownOr {T K k j : Nat} (hT : T + 7 ≤ 16) (hK : K + 7 ≤ 16) (hTK : T + 7 ≤ K ∨ K + 7 ≤ T) (hk : k ≤ 2) {f : Nat → Int64} {h b : Nat} (h1 : 16 ≤ h) (h2 : h < 784) {rt : Nat → Nat} {lk : Nat → Nat → Nat} {lv ps db : Nat → Nat}
    (ok : qf_ok rt lk (qv_wy f T) lv ps db) (hdb : ∀ x, qf_po x → db x = qi_ (b = x)) (hb : b ≠ 0 → qf_po b ∧ lv b = k ∧ ps b = j) (hlk : ∀ m i, 0 < qv_wy f T m → lv m ≤ k → i < qf_nl (lv m) → lk m i = qv_lk f m i) (hw : ∀ x, qv_wy f T x ≤ 100)
    (hx : ∃ c, qf_po c ∧ qv_wy f T c = 0 ∧ qv_wy f K c = 0) :
    ∃ (c : Nat) (f' : Nat → Int64) (h' : Nat) (lv' ps' : Nat → Nat), qt_ownOr T K k f h b = (c, f', h') ∧ 16 ≤ h' ∧ h' < 784 ∧ qo_got T K k j f f' b c rt lk lv ps lv' ps' := by
  unfold qt_ownOr
  by_cases hb0 : b = 0
  · rw [if_pos hb0]
    obtain ⟨c, hc, hc1, hc2, he⟩ := qk_take_ok (T := T) (K := K) (f := f) h1 h2 hx
    have w1 : qv_wy (qv_setY f T c 1) T = va_up (qv_wy f T) c 1 := qe_setY hT hc (by omega)
    have o1 := qf_birth ok hc hc1
    have q2 : ∀ x, x ≠ c → qv_eq (qv_blank (qv_setY f T c 1) c) (qv_setY f T c 1) x := fun x hx => qv_blank_n hx
    have w2 : ∀ x, qv_wy (qv_blank (qv_setY f T c 1) c) T x = va_up (qv_wy f T) c 1 x := fun x => by
      rw [← w1]
      exact qe_wy_eq (fun j hj1 hj2 => q2 _ (by have := hc.1; omega)) x
    have qAll : ∀ x, x ≠ c → (x < T + 1 ∨ T + 7 ≤ x) → qv_eq (qv_blank (qv_setY f T c 1) c) f x := fun x hx hr => (q2 x hx).tr (qe_setY_n hr)
    have o2 : qf_ok rt (va_up lk c (fun _ => 0)) (va_up (qv_wy f T) c 1) (va_up lv c 0) ps (va_up db c 1) := qf_write o1 (fun m i hm hi => by
      by_cases hmc : m = c
      · subst hmc; rw [qf_us, qf_nl0] at hi; omega
      · rw [qf_un hmc])
    have hin : qf_in rt (va_up lk c (fun _ => 0)) (va_up (qv_wy f T) c 1) (va_up lv c 0) c = 0 := by
      have := o2.2.2.1 c hc
      rw [qf_us, qf_us] at this
      omega
    have o3 : qf_ok rt (va_up lk c (fun _ => 0)) (va_up (qv_wy f T) c 1) (va_up (va_up lv c 0) c k) (va_up ps c j) (va_up db c 1) := by
      refine qf_promote o2 (n := c) (by rw [qf_us]; omega) qf_us hin (fun i hi => ?_) (fun x hp => ?_)
      · rw [qf_us]
        exact ⟨fun e => by rw [← e] at hc; exact qf_po0 hc, Or.inl rfl⟩
      · rw [qf_us]
        try dsimp only
        rw [qs_zero (fun i _ => qi_f (fun e => by rw [← e] at hp; exact qf_po0 hp))]
        omega
    refine ⟨c, qv_blank (qv_setY f T c 1) c, c, va_up (va_up lv c 0) c k, va_up ps c j, by unfold qt_blank; rw [he], hc.1, hc.2, hc, by rw [w2, qf_us], ?_, ?_, qf_us, qf_us, fun x hx => ⟨by rw [qf_un hx, qf_un hx], qf_un hx⟩, fun i hi => ?_, qAll, Or.inr ⟨hc1, hc2⟩, fun x hxc hq => ?_, hc2⟩
    · rw [← hc2]
      exact qe_wy_eq (fun j hj1 hj2 => qAll _ (by have := hc.1; omega) (by omega)) c
    · have e1 : (fun i => if b = 0 then 0 else qv_lk f b i) = fun _ => 0 := funext fun i => if_pos hb0
      rw [e1]
      refine qf_set_wy (qf_congr o3 (fun v _ => rfl) (fun m i _ _ => rfl) w2) (fun x => Iff.rfl) (fun x hp => ?_)
      try dsimp only
      by_cases hxc : x = c
      · subst hxc; rw [qf_us, qi_t rfl]
      · rw [qf_un hxc, qi_f hxc, hdb x hp, qi_f (fun e => by rw [← e, hb0] at hp; exact qf_po0 hp)]
    · rw [if_pos hb0]; exact qv_blank_s hc.2 i hi
    · rw [w2, qf_un hxc] at hq; exact hq
  · rw [if_neg hb0]
    obtain ⟨p1, p2, p3⟩ := hb hb0
    obtain ⟨c, f', h', lv', ps', e, g1, g2, a1, a2, a3, a4, a5, a6, a7, a8, a9, a10, a11⟩ := qo_own hT hK hTK hk h1 h2 ok p1 p2 (by rw [hdb b p1, qi_t rfl]; exact Nat.le_refl _) hlk hw hx
    have hKc : qv_wy f K c = 0 := by
      rcases a10 with q | ⟨-, q⟩
      · rw [← a3]
        exact (qe_wy_eq (fun j hj1 hj2 => a9 _ (by have := a1.1; omega) (by omega)) c).symm
      · exact q
    refine ⟨c, f', h', lv', ps', e, g1, g2, a1, a2, a3, ?_, a5, by rw [a6]; exact p3, a7, fun i hi => by rw [if_neg hb0]; exact a8 i hi, a9, ?_, a11, hKc⟩
    · have e1 : (fun i => if b = 0 then 0 else qv_lk f b i) = qv_lk f b := funext fun i => if_neg hb0
      rw [e1]
      refine qf_set_wy a4 (fun x => Iff.rfl) (fun x hp => ?_)
      try dsimp only
      rw [hdb x hp]
      by_cases hxb : x = b
      · rw [qi_t hxb, qi_t hxb.symm]; omega
      · rw [qi_f hxb, qi_f (fun e => hxb e.symm)]; omega
    · rcases a10 with q | q
      · exact Or.inl ⟨hb0, q⟩
      · exact Or.inr q
