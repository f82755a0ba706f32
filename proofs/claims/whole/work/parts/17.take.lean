/-! take: a free block is found, if there is one -/
def qk_pos (h j : Nat) : Nat := 16 + (h - 16 + 1 + j) % 768
theorem qk_hand {h : Nat} (h1 : 16 ≤ h) (h2 : h < 784) : qt_hand h = qk_pos h 0 ∧ 16 ≤ qt_hand h ∧ qt_hand h < 784 := by
  unfold qt_hand qk_pos
  by_cases hc : h + 1 < 784
  · rw [if_pos hc]; omega
  · rw [if_neg hc]; omega
theorem qk_next {h : Nat} (h1 : 16 ≤ h) (h2 : h < 784) (j : Nat) : qk_pos (qt_hand h) j = qk_pos h (j + 1) := by
  obtain ⟨e, -, -⟩ := qk_hand h1 h2
  rw [e]
  unfold qk_pos
  omega
theorem qk_take {T K : Nat} {f : Nat → Int64} : ∀ (n h : Nat), 16 ≤ h → h < 784 →
    (qf_po (qt_take T K n f h).1 ∧ qv_wy f T (qt_take T K n f h).1 = 0 ∧ qv_wy f K (qt_take T K n f h).1 = 0 ∧ qt_take T K n f h = ((qt_take T K n f h).1, qv_setY f T (qt_take T K n f h).1 1, (qt_take T K n f h).1)) ∨
    (∀ j, j < n → ¬ (qv_wy f T (qk_pos h j) = 0 ∧ qv_wy f K (qk_pos h j) = 0)) := by
  intro n
  induction n with
  | zero => intro h _ _; exact Or.inr (fun j hj => by omega)
  | succ n ih =>
    intro h h1 h2
    obtain ⟨e, g1, g2⟩ := qk_hand h1 h2
    unfold qt_take
    by_cases hc : qv_wy f T (qt_hand h) = 0 ∧ qv_wy f K (qt_hand h) = 0
    · rw [if_pos hc]
      exact Or.inl ⟨⟨g1, g2⟩, hc.1, hc.2, rfl⟩
    · rw [if_neg hc]
      rcases ih (qt_hand h) g1 g2 with q | q
      · exact Or.inl q
      · refine Or.inr (fun j hj => ?_)
        cases j with
        | zero => rw [← e]; exact hc
        | succ j => rw [← qk_next h1 h2]; exact q j (by omega)
theorem qk_take_ok {T K : Nat} {f : Nat → Int64} {h : Nat} (h1 : 16 ≤ h) (h2 : h < 784) (hx : ∃ c, qf_po c ∧ qv_wy f T c = 0 ∧ qv_wy f K c = 0) : ∃ c, qf_po c ∧ qv_wy f T c = 0 ∧ qv_wy f K c = 0 ∧ qt_take T K 768 f h = (c, qv_setY f T c 1, c) := by
  rcases qk_take (T := T) (K := K) (f := f) 768 h h1 h2 with ⟨q1, q2, q3, q4⟩ | q
  · exact ⟨_, q1, q2, q3, q4⟩
  · obtain ⟨c, ⟨c1, c2⟩, c3, c4⟩ := hx
    exfalso
    refine q ((c + 768 - h - 1) % 768) (Nat.mod_lt _ (by decide)) ?_
    have e : qk_pos h ((c + 768 - h - 1) % 768) = c := by
      unfold qk_pos
      omega
    rw [e]
    exact ⟨c3, c4⟩
/-- adding a way to each of a block's links -/
theorem qk_ways {T : Nat} (hT : T + 7 ≤ 16) {f : Nat → Int64} {c k : Nat} (hc : qf_po c) (hw : ∀ x, qv_wy f T x ≤ 101) (hx : ∀ i, i < qf_nl k → qv_lk f c i = 0 ∨ qf_po (qv_lk f c i)) :
    (∀ x, qv_wy (qt_ways T k c f) T x = qv_wy f T x + (if qf_po x then qs_ (qf_nl k) (fun j => qi_ (qv_lk f c j = x)) else 0)) ∧ ∀ b, (b < T + 1 ∨ T + 7 ≤ b) → qv_eq (qt_ways T k c f) f b := by
  have loop : ∀ n, n ≤ qf_nl k → (∀ x, qv_wy (qv_for n (fun g i => qt_addW T g (qv_lk g c i)) f) T x = qv_wy f T x + (if qf_po x then qs_ n (fun j => qi_ (qv_lk f c j = x)) else 0)) ∧ (∀ b, (b < T + 1 ∨ T + 7 ≤ b) → qv_eq (qv_for n (fun g i => qt_addW T g (qv_lk g c i)) f) f b) ∧ ∀ x, qs_ n (fun j => qi_ (qv_lk f c j = x)) ≤ n := by
    intro n
    induction n with
    | zero =>
      intro _
      refine ⟨fun x => ?_, fun b _ => qv_eq.rf, fun x => by rw [qs_0]; exact Nat.le_refl _⟩
      rw [qv_for0, qs_0]
      split <;> rfl
    | succ n ih =>
      intro hn
      obtain ⟨g1, g2, g3⟩ := ih (by omega)
      have hn32 := qf_nl_le k
      rw [qv_forS]
      generalize qv_for n (fun g i => qt_addW T g (qv_lk g c i)) f = G at g1 g2 ⊢
      have e1 : qv_lk G c n = qv_lk f c n := (g2 c (by have := hc.1; omega)).lk (by omega)
      rw [e1]
      refine ⟨fun x => ?_, fun b hb => ?_, fun x => ?_⟩
      · unfold qt_addW
        rcases hx n (by omega) with h0 | hp
        · rw [qe_setY_np (by rw [h0]; exact qf_po0), g1 x]
          by_cases hpx : qf_po x
          · rw [if_pos hpx, if_pos hpx, qs_s, qi_f (fun e => by rw [h0] at e; rw [← e] at hpx; exact qf_po0 hpx)]
            rfl
          · rw [if_neg hpx, if_neg hpx]
        · have hlt : qv_wy G T (qv_lk f c n) + 1 < 256 := by
            rw [g1]
            have h5 := hw (qv_lk f c n)
            have h6 := g3 (qv_lk f c n)
            split <;> omega
          rw [qe_setY hT hp hlt]
          by_cases hxe : x = qv_lk f c n
          · subst hxe
            rw [qf_us, g1, if_pos hp, if_pos hp, qs_s, qi_t rfl]
            omega
          · rw [qf_un hxe, g1]
            by_cases hpx : qf_po x
            · rw [if_pos hpx, if_pos hpx, qs_s, qi_f (fun e => hxe e.symm)]
              omega
            · rw [if_neg hpx, if_neg hpx]
      · unfold qt_addW
        exact (qe_setY_n hb).tr (g2 b hb)
      · rw [qs_s]
        have := g3 x
        have := qi_le (qv_lk f c n = x)
        omega
  obtain ⟨g1, g2, -⟩ := loop (qf_nl k) (Nat.le_refl _)
  exact ⟨g1, g2⟩
