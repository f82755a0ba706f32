/-! what the writes do to what is read: tables at T (T + 7 ≤ 16), pool blocks 16 .. 783 -/
/-- where the count of b lies -/
theorem qe_inj {b c : Nat} (hb : qf_po b) (hc : qf_po c) (h1 : (b - 16) / 128 = (c - 16) / 128) (h2 : (b - 16) % 128 = (c - 16) % 128) : b = c := by
  have := hb.1; have := hc.1; omega
theorem qe_wy_eq {f g : Nat → Int64} {T : Nat} (h : ∀ k, 1 ≤ k → k < 7 → qv_eq f g (T + k)) (b : Nat) : qv_wy f T b = qv_wy g T b := by
  unfold qv_wy
  by_cases hp : qf_po b
  · rw [if_pos hp, if_pos hp]
    have := hp.1; have := hp.2
    have e := (h (1 + (b - 16) / 128) (by omega) (by omega)).by (i := (b - 16) % 128) (by omega)
    rw [← Nat.add_assoc] at e
    exact e
  · rw [if_neg hp, if_neg hp]
theorem qe_setY {f : Nat → Int64} {T b a : Nat} (hT : T + 7 ≤ 16) (hp : qf_po b) (ha : a < 256) : qv_wy (qv_setY f T b a) T = va_up (qv_wy f T) b a := by
  funext c
  unfold qv_setY
  rw [if_pos hp]
  unfold qv_wy
  have := hp.1; have := hp.2
  by_cases hcb : c = b
  · subst hcb
    rw [if_pos hp, qf_us, qv_by_setB (by omega) (by omega) ha, if_pos rfl]
  · rw [qf_un hcb]
    by_cases hc : qf_po c
    · rw [if_pos hc, if_pos hc]
      have := hc.1; have := hc.2
      by_cases hd : (c - 16) / 128 = (b - 16) / 128
      · rw [hd, qv_by_setB (by omega) (by omega) ha, if_neg (fun e => hcb (qe_inj hc hp hd e))]
      · exact (qv_eq_setB (by omega) (by omega)).by (by omega)
    · rw [if_neg hc, if_neg hc]
theorem qe_setY_n {f : Nat → Int64} {T b a c : Nat} (hc : c < T + 1 ∨ T + 7 ≤ c) : qv_eq (qv_setY f T b a) f c := by
  unfold qv_setY
  by_cases hp : qf_po b
  · rw [if_pos hp]
    have := hp.1; have := hp.2
    exact qv_eq_setB (by omega) (by omega)
  · rw [if_neg hp]; exact qv_eq.rf
theorem qe_setY_np {f : Nat → Int64} {T b a : Nat} (hp : ¬ qf_po b) : qv_setY f T b a = f := by
  unfold qv_setY; rw [if_neg hp]
theorem qe_wy_po {f : Nat → Int64} {T b : Nat} (h : 0 < qv_wy f T b) : qf_po b := by
  by_cases hp : qf_po b
  · exact hp
  · unfold qv_wy at h; rw [if_neg hp] at h; omega
/-- release: the counts as in the forest, all else the same -/
theorem qe_rel {T : Nat} (hT : T + 7 ≤ 16) : ∀ (k : Nat) (f : Nat → Int64) (b : Nat), qv_wy (qt_rel T k f b) T = qf_rel (qv_lk f) k (qv_wy f T) b ∧ ∀ c, (c < T + 1 ∨ T + 7 ≤ c) → qv_eq (qt_rel T k f b) f c := by
  intro k
  induction k with
  | zero =>
    intro f b
    unfold qt_rel qf_rel
    by_cases h0 : qv_wy f T b = 0
    · rw [if_pos h0, if_pos h0]; exact ⟨rfl, fun _ _ => qv_eq.rf⟩
    · rw [if_neg h0, if_neg h0]
      have hlt := qv_wy_lt f T b
      exact ⟨qe_setY hT (qe_wy_po (f := f) (T := T) (by omega)) (by omega), fun c hc => qe_setY_n hc⟩
  | succ k ih =>
    intro f b
    unfold qt_rel qf_rel
    by_cases h0 : qv_wy f T b = 0
    · rw [if_pos h0, if_pos h0]; exact ⟨rfl, fun _ _ => qv_eq.rf⟩
    · rw [if_neg h0, if_neg h0]
      have hlt := qv_wy_lt f T b
      have hp := qe_wy_po (f := f) (T := T) (b := b) (by omega)
      have hs : qv_wy (qv_setY f T b (qv_wy f T b - 1)) T = qf_dec (qv_wy f T) b := qe_setY hT hp (by omega)
      by_cases h1 : 1 < qv_wy f T b
      · rw [if_pos h1, if_pos h1]
        exact ⟨hs, fun c hc => qe_setY_n hc⟩
      · rw [if_neg h1, if_neg h1]
        have loop : ∀ n, n ≤ qf_nl (k + 1) → qv_wy (qv_for n (fun g i => qt_rel T k g (qv_lk g b i)) (qv_setY f T b (qv_wy f T b - 1))) T = qf_it (fun w i => qf_rel (qv_lk f) k w (qv_lk f b i)) n (qf_dec (qv_wy f T) b) ∧ ∀ c, (c < T + 1 ∨ T + 7 ≤ c) → qv_eq (qv_for n (fun g i => qt_rel T k g (qv_lk g b i)) (qv_setY f T b (qv_wy f T b - 1))) f c := by
          intro n
          induction n with
          | zero => intro _; exact ⟨hs, fun c hc => qe_setY_n hc⟩
          | succ n ihn =>
            intro hn
            obtain ⟨g1, g2⟩ := ihn (by omega)
            rw [qv_forS]
            obtain ⟨r1, r2⟩ := ih (qv_for n (fun g i => qt_rel T k g (qv_lk g b i)) (qv_setY f T b (qv_wy f T b - 1))) (qv_lk (qv_for n (fun g i => qt_rel T k g (qv_lk g b i)) (qv_setY f T b (qv_wy f T b - 1))) b n)
            have hn32 := qf_nl_le (k + 1)
            have e1 : qv_lk (qv_for n (fun g i => qt_rel T k g (qv_lk g b i)) (qv_setY f T b (qv_wy f T b - 1))) b n = qv_lk f b n := (g2 b (by have := hp.1; omega)).lk (by omega)
            refine ⟨?_, fun c hc => (r2 c hc).tr (g2 c hc)⟩
            rw [r1, e1, g1]
            show _ = qf_rel _ _ _ _
            -- only live blocks' links matter, and they lie in the pool
            refine qf_rel_lk (wy0 := qv_wy f T) (P := fun _ _ => True) (fun k2 m i hm _ hi => ⟨(g2 m (by have := (qe_wy_po hm).1; omega)).lk (by have := qf_nl_le (k2 + 1); omega), trivial⟩) _ _ _ (fun x => ?_) trivial
            have h2 := qf_it_le (f := fun w i => qf_rel (qv_lk f) k w (qv_lk f b i)) (fun w i x => qf_rel_le _ k w _ x) n (qf_dec (qv_wy f T) b) x
            have h3 := qf_dec_le (qv_wy f T) b x
            omega
        exact loop (qf_nl (k + 1)) (Nat.le_refl _)
