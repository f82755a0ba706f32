/-! sizes as numbers of pieces -/
theorem qy_size {f : Nat → Int64} {T : Nat} {lv ps : Nat → Nat} {e v : Nat} (Z : qz_ok f T lv ps e) (hv : v < 16) : qt_size f T v = nI (qi_ (qv_rt f T v ≠ 0) * qf_S (qv_lk f) (qv_rt f T v)) := by
  unfold qt_size
  by_cases h0 : qv_rt f T v = 0
  · rw [if_pos h0, qi_f (p := qv_rt f T v ≠ 0) (fun q => q h0), Nat.zero_mul]; rfl
  · rw [if_neg h0, qi_n h0, Nat.one_mul]
    obtain ⟨d1, d2, -⟩ := qf_live_rt Z.1.1 hv h0
    rw [Z.2.2 _ d1 d2, lN_i]
theorem qy_all {f : Nat → Int64} {T : Nat} {lv ps : Nat → Nat} {e : Nat} (Z : qz_ok f T lv ps e) : qt_all f T = nI (qf_tot (qv_rt f T) (qv_lk f)) := by
  have h : ∀ n, n ≤ 16 → qv_for n (fun s v => s + qt_size f T v) 0 = nI (qs_ n (fun v => qi_ (qv_rt f T v ≠ 0) * qf_S (qv_lk f) (qv_rt f T v))) := by
    intro n
    induction n with
    | zero => intro _; rfl
    | succ n ih =>
      intro hn
      rw [qv_forS, ih (by omega), qy_size Z (by omega), nI_add, qs_s]
  exact h 16 (Nat.le_refl _)
