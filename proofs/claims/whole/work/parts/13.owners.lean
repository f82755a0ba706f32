/-! who leads to a block, and how many blocks can be live -/
theorem qf_in_ge_rt {rt : Nat → Nat} {lk : Nat → Nat → Nat} {wy lv : Nat → Nat} {v b : Nat} (hv : v < 16) (e : rt v = b) : 1 ≤ qf_in rt lk wy lv b := by
  have : qi_ (rt v = b) ≤ qs_ 16 (fun w => qi_ (rt w = b)) := qs_ge1 (f := fun w => qi_ (rt w = b)) hv
  rw [qi_t e] at this
  unfold qf_in
  omega
theorem qf_in_ge_lk {rt : Nat → Nat} {lk : Nat → Nat → Nat} {wy lv ps db : Nat → Nat} (h : qf_ok rt lk wy lv ps db) {n i b : Nat} (hn : 0 < wy n) (hi : i < qf_nl (lv n)) (e : lk n i = b) : 1 ≤ qf_in rt lk wy lv b := by
  have h4 := qf_out_ge (lk := lk) hn hi
  rw [e] at h4
  have h5 : qf_out lk wy lv n b ≤ qs_ 784 (fun m => qf_out lk wy lv m b) := qs_ge1 (f := fun m => qf_out lk wy lv m b) (qf_live h hn).2
  unfold qf_in
  omega
/-- one way alone, and a root of v has it: nobody else leads there -/
theorem qf_only_rt {rt : Nat → Nat} {lk : Nat → Nat → Nat} {wy lv ps db : Nat → Nat} (h : qf_ok rt lk wy lv ps db) {v b : Nat} (hv : v < 16) (e : rt v = b) (h1 : qf_in rt lk wy lv b ≤ 1) : (∀ w, w < 16 → w ≠ v → rt w ≠ b) ∧ ∀ n i, 0 < wy n → i < qf_nl (lv n) → lk n i ≠ b := by
  refine ⟨fun w hw hne e2 => ?_, fun n i hn hi e2 => ?_⟩
  · have : qi_ (rt w = b) + qi_ (rt v = b) ≤ qs_ 16 (fun w => qi_ (rt w = b)) := qs_ge2 (f := fun w => qi_ (rt w = b)) hw hv hne
    rw [qi_t e, qi_t e2] at this
    unfold qf_in at h1
    omega
  · have h4 := qf_out_ge (lk := lk) hn hi
    rw [e2] at h4
    have h5 : qf_out lk wy lv n b ≤ qs_ 784 (fun m => qf_out lk wy lv m b) := qs_ge1 (f := fun m => qf_out lk wy lv m b) (qf_live h hn).2
    have : qi_ (rt v = b) ≤ qs_ 16 (fun w => qi_ (rt w = b)) := qs_ge1 (f := fun w => qi_ (rt w = b)) hv
    rw [qi_t e] at this
    unfold qf_in at h1
    omega
theorem qf_only_lk {rt : Nat → Nat} {lk : Nat → Nat → Nat} {wy lv ps db : Nat → Nat} (h : qf_ok rt lk wy lv ps db) {n i b : Nat} (hn : 0 < wy n) (hi : i < qf_nl (lv n)) (e : lk n i = b) (h1 : qf_in rt lk wy lv b ≤ 1) : (∀ w, w < 16 → rt w ≠ b) ∧ ∀ m j, 0 < wy m → j < qf_nl (lv m) → lk m j = b → m = n ∧ j = i := by
  have h4 := qf_out_ge (lk := lk) hn hi
  rw [e] at h4
  have h5 : qf_out lk wy lv n b ≤ qs_ 784 (fun m => qf_out lk wy lv m b) := qs_ge1 (f := fun m => qf_out lk wy lv m b) (qf_live h hn).2
  refine ⟨fun w hw e2 => ?_, fun m j hm hj e2 => ?_⟩
  · have : qi_ (rt w = b) ≤ qs_ 16 (fun w => qi_ (rt w = b)) := qs_ge1 (f := fun w => qi_ (rt w = b)) hw
    rw [qi_t e2] at this
    unfold qf_in at h1
    omega
  · have hmn : m = n := by
      by_cases hmn : m = n
      · exact hmn
      · have h6 := qf_out_ge (lk := lk) hm hj
        rw [e2] at h6
        have h7 : qf_out lk wy lv m b + qf_out lk wy lv n b ≤ qs_ 784 (fun m => qf_out lk wy lv m b) := qs_ge2 (f := fun m => qf_out lk wy lv m b) (qf_live h hm).2 (qf_live h hn).2 hmn
        unfold qf_in at h1
        omega
    refine ⟨hmn, ?_⟩
    subst hmn
    by_cases hji : j = i
    · exact hji
    · have h6 : qi_ (lk m j = b) + qi_ (lk m i = b) ≤ qs_ (qf_nl (lv m)) (fun j => qi_ (lk m j = b)) := qs_ge2 (f := fun j => qi_ (lk m j = b)) hj hi hji
      rw [qi_t e, qi_t e2, ← qf_out_l hn] at h6
      unfold qf_in at h1
      omega
/-- a live node leads to a block at most once -/
theorem qf_out_le {rt : Nat → Nat} {lk : Nat → Nat → Nat} {wy lv ps db : Nat → Nat} (h : qf_ok rt lk wy lv ps db) {n b : Nat} (hb : b ≠ 0) : qf_out lk wy lv n b ≤ qi_ (0 < wy n ∧ lv n = lv b + 1) := by
  by_cases hn : 0 < wy n
  · rw [qf_out_l hn]
    by_cases hx : ∃ i, i < qf_nl (lv n) ∧ lk n i = b
    · obtain ⟨i, hi, e⟩ := hx
      have h1 : qs_ (qf_nl (lv n)) (fun j => qi_ (lk n j = b)) = qi_ (lk n i = b) := qs_one (f := fun j => qi_ (lk n j = b)) hi (fun j hj hne => by
        show qi_ (lk n j = b) = 0
        refine qi_f (fun e2 => hne ?_)
        obtain ⟨-, -, -, p1⟩ := qf_live_lk h hn hi (by rw [e]; exact hb)
        obtain ⟨-, -, -, p2⟩ := qf_live_lk h hn hj (by rw [e2]; exact hb)
        rw [e] at p1
        rw [e2] at p2
        omega)
      obtain ⟨-, p1, -, -⟩ := qf_live_lk h hn hi (by rw [e]; exact hb)
      rw [e] at p1
      rw [h1, qi_t e, qi_t ⟨hn, p1.symm⟩]
      exact Nat.le_refl _
    · rw [qs_zero (fun j hj => qi_f (fun e => hx ⟨j, hj, e⟩))]
      exact Nat.zero_le _
  · rw [qf_out_d (by omega)]
    exact Nat.zero_le _
/-- how many blocks of a level are live -/
def qf_cl (wy lv : Nat → Nat) (k : Nat) : Nat := qs_ 784 (fun b => qi_ (0 < wy b ∧ lv b = k))
theorem qf_in_le {rt : Nat → Nat} {lk : Nat → Nat → Nat} {wy lv ps db : Nat → Nat} (h : qf_ok rt lk wy lv ps db) {b : Nat} (hb : b ≠ 0) : qf_in rt lk wy lv b ≤ (if lv b = 2 then 16 else 0) + qf_cl wy lv (lv b + 1) := by
  unfold qf_in qf_cl
  have h1 : qs_ 784 (fun n => qf_out lk wy lv n b) ≤ qs_ 784 (fun n => qi_ (0 < wy n ∧ lv n = lv b + 1)) := qs_le (fun n _ => qf_out_le h hb)
  have h2 : qs_ 16 (fun v => qi_ (rt v = b)) ≤ if lv b = 2 then 16 else 0 := by
    by_cases hl : lv b = 2
    · rw [if_pos hl]
      have := qs_le (n := 16) (f := fun v => qi_ (rt v = b)) (g := fun _ => 1) (fun v _ => qi_le _)
      rw [qs_const] at this
      omega
    · rw [if_neg hl, qs_zero (fun v hv => qi_f (fun e => ?_))]
      · exact Nat.le_refl _
      · rcases h.1 v hv with q | ⟨-, q⟩
        · exact hb (e.symm.trans q)
        · rw [e] at q; exact hl q
  omega
theorem qs_pick (N x : Nat) (g : Nat → Nat) : qs_ N (fun b => qi_ (x = b) * g b) ≤ g x := by
  by_cases hx : x < N
  · have h1 : qs_ N (fun b => qi_ (x = b) * g b) = qi_ (x = x) * g x := qs_one (f := fun b => qi_ (x = b) * g b) hx (fun i _ hne => by show qi_ (x = i) * g i = 0; rw [qi_f (fun e => hne e.symm), Nat.zero_mul])
    rw [h1, qi_t rfl, Nat.one_mul]
    exact Nat.le_refl _
  · rw [qs_zero (fun i hi => by rw [qi_f (fun e => by omega), Nat.zero_mul])]
    exact Nat.zero_le _
/-- double counting: what is live at a level, by weights, is at most what leads there, by weights -/
theorem qf_dc {rt : Nat → Nat} {lk : Nat → Nat → Nat} {wy lv ps db : Nat → Nat} (h : qf_ok rt lk wy lv ps db) (k : Nat) (w : Nat → Nat) :
    qs_ 784 (fun b => qi_ (0 < wy b ∧ lv b = k) * w b) ≤ qs_ 16 (fun v => qi_ (rt v ≠ 0 ∧ k = 2) * w (rt v)) + qs_ 784 (fun n => qi_ (0 < wy n ∧ lv n = k + 1) * qs_ (qf_nl (k + 1)) (fun i => qi_ (lk n i ≠ 0) * w (lk n i))) + qs_ 784 (fun b => qi_ (qf_po b ∧ lv b = k) * (db b * w b)) := by
  -- each live block has a way or a debt
  have h1 : qs_ 784 (fun b => qi_ (0 < wy b ∧ lv b = k) * w b) ≤ qs_ 784 (fun b => (qs_ 16 (fun v => qi_ (rt v = b) * (qi_ (qf_po b ∧ lv b = k) * w b)) + qs_ 784 (fun n => qf_out lk wy lv n b * (qi_ (qf_po b ∧ lv b = k) * w b))) + qi_ (qf_po b ∧ lv b = k) * (db b * w b)) := by
    refine qs_le (fun b _ => ?_)
    rw [qs_mul, qs_mul, ← Nat.add_mul]
    by_cases hb : 0 < wy b ∧ lv b = k
    · have hp := qf_live h hb.1
      have hw := h.2.2.1 b hp
      rw [qi_t hb, qi_t ⟨hp, hb.2⟩, Nat.one_mul, Nat.one_mul, ← Nat.add_mul]
      unfold qf_in at hw
      rw [← hw]
      exact Nat.le_mul_of_pos_left _ hb.1
    · rw [qi_f hb, Nat.zero_mul]
      exact Nat.zero_le _
  rw [qs_add, qs_add] at h1
  refine Nat.le_trans h1 (Nat.add_le_add_right (Nat.add_le_add ?_ ?_) _)
  · rw [qs_swap]
    refine qs_le (fun v hv => ?_)
    refine Nat.le_trans (qs_pick 784 (rt v) (fun b => qi_ (qf_po b ∧ lv b = k) * w b)) ?_
    try dsimp only
    by_cases hq : qf_po (rt v) ∧ lv (rt v) = k
    · rcases h.1 v hv with q | ⟨q1, q2⟩
      · rw [q] at hq; exact absurd hq.1 qf_po0
      · rw [qi_t hq, qi_t ⟨fun e => by rw [e] at q1; exact qf_po0 q1, by omega⟩]
        exact Nat.le_refl _
    · rw [qi_f hq, Nat.zero_mul]
      exact Nat.zero_le _
  · rw [qs_swap]
    refine qs_le (fun n _ => ?_)
    by_cases hn : 0 < wy n
    · have e1 : qs_ 784 (fun b => qf_out lk wy lv n b * (qi_ (qf_po b ∧ lv b = k) * w b)) = qs_ 784 (fun b => qs_ (qf_nl (lv n)) (fun i => qi_ (lk n i = b) * (qi_ (qf_po b ∧ lv b = k) * w b))) := qs_congr (fun b _ => by show _ * _ = _; rw [qf_out_l hn, qs_mul])
      rw [e1, qs_swap]
      by_cases hk : lv n = k + 1
      · rw [qi_t ⟨hn, hk⟩, Nat.one_mul, hk]
        refine qs_le (fun i hi => ?_)
        refine Nat.le_trans (qs_pick 784 (lk n i) (fun b => qi_ (qf_po b ∧ lv b = k) * w b)) ?_
        try dsimp only
        by_cases hq : qf_po (lk n i) ∧ lv (lk n i) = k
        · rw [qi_t hq, qi_n (fun e => by rw [e] at hq; exact qf_po0 hq.1)]
          exact Nat.le_refl _
        · rw [qi_f hq, Nat.zero_mul]
          exact Nat.zero_le _
      · rw [qs_zero (fun i hi => ?_)]
        · exact Nat.zero_le _
        · refine Nat.le_zero.mp (Nat.le_trans (qs_pick 784 (lk n i) (fun b => qi_ (qf_po b ∧ lv b = k) * w b)) ?_)
          try dsimp only
          rw [qi_f (fun q => ?_), Nat.zero_mul]
          · exact Nat.le_refl _
          · rcases h.2.1 n i hn hi with q2 | ⟨-, q2, -⟩
            · rw [q2] at q; exact qf_po0 q.1
            · omega
    · rw [qs_zero (fun b _ => by rw [qf_out_d (by omega), Nat.zero_mul])]
      exact Nat.zero_le _
