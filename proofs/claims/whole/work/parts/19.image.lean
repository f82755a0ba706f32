/-! THE FOREST OF AN IMAGE: the tables at T, with all that is true between two calls (e: a leaf that may be empty; 0: none) -/
def qf_cn (lk : Nat → Nat → Nat) (n : Nat) : Nat := qs_ 32 (fun i => qi_ (lk n i ≠ 0))
def qf_S (lk : Nat → Nat → Nat) (m : Nat) : Nat := qs_ 4 (fun i => qi_ (lk m i ≠ 0) * qf_cn lk (lk m i))
def qf_tot (rt : Nat → Nat) (lk : Nat → Nat → Nat) : Nat := qs_ 16 (fun v => qi_ (rt v ≠ 0) * qf_S lk (rt v))
def qz_sz (lk : Nat → Nat → Nat) (wy lv : Nat → Nat) (sz : Nat → Int64) (e : Nat) : Prop :=
  (∀ n, 0 < wy n → lv n = 1 → sz n = lN (qf_cn lk n) ∧ (n ≠ e → 0 < qf_cn lk n)) ∧ (∀ n, 0 < wy n → lv n = 2 → sz n = lN (qf_S lk n))
def qz_st (f : Nat → Int64) (T : Nat) (lv ps : Nat → Nat) : Prop := qf_ok (qv_rt f T) (qv_lk f) (qv_wy f T) lv ps (fun _ => 0) ∧ qf_tot (qv_rt f T) (qv_lk f) ≤ 300 ∧ ∀ b, lv b ≤ 2
def qz_ok (f : Nat → Int64) (T : Nat) (lv ps : Nat → Nat) (e : Nat) : Prop := qz_st f T lv ps ∧ qz_sz (qv_lk f) (qv_wy f T) lv (qv_sz f) e
theorem qf_cn_congr {lk lk' : Nat → Nat → Nat} {n : Nat} (h : ∀ i, i < 32 → lk n i = lk' n i) : qf_cn lk n = qf_cn lk' n := qs_congr (fun i hi => by show qi_ _ = qi_ _; rw [h i hi])
theorem qf_cn_le (lk : Nat → Nat → Nat) (n : Nat) : qf_cn lk n ≤ 32 := by
  have := qs_le (n := 32) (f := fun i => qi_ (lk n i ≠ 0)) (g := fun _ => 1) (fun i _ => qi_le _)
  rw [qs_const] at this
  unfold qf_cn
  omega
theorem qf_S_congr {lk lk' : Nat → Nat → Nat} {m : Nat} (h : ∀ i, i < 4 → lk m i = lk' m i) (h2 : ∀ i, i < 4 → lk m i ≠ 0 → ∀ j, j < 32 → lk (lk m i) j = lk' (lk m i) j) : qf_S lk m = qf_S lk' m := qs_congr (fun i hi => by
  show qi_ _ * _ = qi_ _ * _
  rw [← h i hi]
  by_cases h0 : lk m i = 0
  · rw [qi_f (fun q => q h0), Nat.zero_mul, Nat.zero_mul]
  · rw [qf_cn_congr (h2 i hi h0)])
theorem qf_S_le (lk : Nat → Nat → Nat) (m : Nat) : qf_S lk m ≤ 128 := by
  have := qs_le (n := 4) (f := fun i => qi_ (lk m i ≠ 0) * qf_cn lk (lk m i)) (g := fun _ => 32) (fun i _ => by
    show qi_ _ * _ ≤ 32
    have h1 := qi_le (lk m i ≠ 0)
    have h2 := qf_cn_le lk (lk m i)
    exact Nat.le_trans (Nat.mul_le_mul h1 h2) (by omega))
  rw [qs_const] at this
  unfold qf_S
  omega
/-- what is not reached may change -/
theorem qz_frame {f f' : Nat → Int64} {T : Nat} {lv ps : Nat → Nat} {e : Nat} (h : qz_ok f T lv ps e) (ht : ∀ k, k < 7 → qv_eq f' f (T + k)) (hp : ∀ b, 0 < qv_wy f T b → qv_eq f' f b) : qz_ok f' T lv ps e := by
  obtain ⟨⟨ok, htot, hl2⟩, hs⟩ := h
  have hrt : ∀ v, v < 16 → qv_rt f' T v = qv_rt f T v := fun v hv => (ht 0 (by omega)).lk (by omega)
  have hwy : qv_wy f' T = qv_wy f T := funext fun b => qe_wy_eq (fun k _ hk => ht k hk) b
  have hlk : ∀ n i, 0 < qv_wy f T n → i < 32 → qv_lk f' n i = qv_lk f n i := fun n i hn hi => (hp n hn).lk (by omega)
  have o1 := qf_write (lk' := qv_lk f') ok (fun m i hm hi => hlk m i hm (by have := qf_nl_le (lv m); omega))
  have o2 : qf_ok (qv_rt f' T) (qv_lk f') (qv_wy f' T) lv ps (fun _ => 0) := by
    rw [hwy]
    refine ⟨fun v hv => by rw [hrt v hv]; exact o1.1 v hv, o1.2.1, fun b hb => ?_, o1.2.2.2⟩
    rw [o1.2.2.1 b hb]
    unfold qf_in
    rw [qs_congr (f := fun v => qi_ (qv_rt f T v = b)) (g := fun v => qi_ (qv_rt f' T v = b)) (fun v hv => by show qi_ _ = qi_ _; rw [hrt v hv])]
  have hcn : ∀ n, 0 < qv_wy f T n → qf_cn (qv_lk f') n = qf_cn (qv_lk f) n := fun n hn => qf_cn_congr (fun i hi => hlk n i hn hi)
  have hS : ∀ n, 0 < qv_wy f T n → lv n = 2 → qf_S (qv_lk f') n = qf_S (qv_lk f) n := fun n hn h2 => (qf_S_congr (fun i hi => (hlk n i hn (by omega)).symm) (fun i hi h0 j hj => by
    obtain ⟨q, -, -, -⟩ := qf_live_lk ok hn (i := i) (by rw [h2]; exact hi) h0
    exact (hlk _ j q hj).symm)).symm
  refine ⟨⟨o2, ?_, hl2⟩, ⟨fun n hn h1 => ?_, fun n hn h2 => ?_⟩⟩
  · have e1 : qf_tot (qv_rt f' T) (qv_lk f') = qf_tot (qv_rt f T) (qv_lk f) := qs_congr (fun v hv => by
      show qi_ _ * _ = qi_ _ * _
      rw [hrt v hv]
      by_cases h0 : qv_rt f T v = 0
      · rw [qi_f (fun q => q h0), Nat.zero_mul, Nat.zero_mul]
      · obtain ⟨q1, q2, -⟩ := qf_live_rt ok hv h0
        rw [hS _ q1 q2])
    rw [e1]
    exact htot
  · rw [hwy] at hn
    rw [(hp n hn).sz, hcn n hn]
    exact hs.1 n hn h1
  · rw [hwy] at hn
    rw [(hp n hn).sz, hS n hn h2]
    exact hs.2 n hn h2
/-! how many blocks are live -/
theorem qc_roots {rt : Nat → Nat} {lk : Nat → Nat → Nat} {wy lv ps db : Nat → Nat} (h : qf_ok rt lk wy lv ps db) (D : Nat) (hd : qs_ 784 (fun b => qi_ (qf_po b ∧ lv b = 2) * db b) ≤ D) : qf_cl wy lv 2 ≤ 16 + D := by
  have h1 := qf_dc h 2 (fun _ => 1)
  have h2 : qs_ 16 (fun v => qi_ (rt v ≠ 0 ∧ 2 = 2) * 1) ≤ 16 := by
    have := qs_le (n := 16) (f := fun v => qi_ (rt v ≠ 0 ∧ 2 = 2) * 1) (g := fun _ => 1) (fun v _ => by have := qi_le (rt v ≠ 0 ∧ 2 = 2); omega)
    rw [qs_const] at this
    omega
  have h3 : qs_ 784 (fun n => qi_ (0 < wy n ∧ lv n = 2 + 1) * qs_ (qf_nl (2 + 1)) (fun i => qi_ (lk n i ≠ 0) * 1)) = 0 := qs_zero (fun n _ => by
    rw [show qf_nl (2 + 1) = 0 from rfl, qs_0, Nat.mul_zero])
  have h4 : qs_ 784 (fun b => qi_ (qf_po b ∧ lv b = 2) * (db b * 1)) = qs_ 784 (fun b => qi_ (qf_po b ∧ lv b = 2) * db b) := qs_congr (fun b _ => by show _ * (_ * 1) = _; rw [Nat.mul_one])
  have h5 : qs_ 784 (fun b => qi_ (0 < wy b ∧ lv b = 2) * 1) = qf_cl wy lv 2 := qs_congr (fun b _ => by show _ * 1 = _; rw [Nat.mul_one])
  try dsimp only at h1
  omega
theorem qc_leaves {rt : Nat → Nat} {lk : Nat → Nat → Nat} {wy lv ps db : Nat → Nat} (h : qf_ok rt lk wy lv ps db) (D : Nat) (hd : qs_ 784 (fun b => qi_ (qf_po b ∧ lv b = 1) * db b) ≤ D) : qf_cl wy lv 1 ≤ 4 * qf_cl wy lv 2 + D := by
  have h1 := qf_dc h 1 (fun _ => 1)
  have h2 : qs_ 16 (fun v => qi_ (rt v ≠ 0 ∧ 1 = 2) * 1) = 0 := qs_zero (fun v _ => by rw [qi_f (fun q => by have := q.2; omega), Nat.zero_mul])
  have h3 : qs_ 784 (fun n => qi_ (0 < wy n ∧ lv n = 1 + 1) * qs_ (qf_nl (1 + 1)) (fun i => qi_ (lk n i ≠ 0) * 1)) ≤ qs_ 784 (fun n => qi_ (0 < wy n ∧ lv n = 2) * 4) := qs_le (fun n _ => by
    refine Nat.mul_le_mul_left _ ?_
    have := qs_le (n := 4) (f := fun i => qi_ (lk n i ≠ 0) * 1) (g := fun _ => 1) (fun i _ => by have := qi_le (lk n i ≠ 0); omega)
    rw [qs_const] at this
    exact this)
  rw [qs_mul] at h3
  have h4 : qs_ 784 (fun b => qi_ (qf_po b ∧ lv b = 1) * (db b * 1)) = qs_ 784 (fun b => qi_ (qf_po b ∧ lv b = 1) * db b) := qs_congr (fun b _ => by show _ * (_ * 1) = _; rw [Nat.mul_one])
  have h5 : qs_ 784 (fun b => qi_ (0 < wy b ∧ lv b = 1) * 1) = qf_cl wy lv 1 := qs_congr (fun b _ => by show _ * 1 = _; rw [Nat.mul_one])
  try dsimp only at h1
  unfold qf_cl at *
  omega
/-- the data, by the pieces of the volumes and of what is in debt -/
theorem qc_data {rt : Nat → Nat} {lk : Nat → Nat → Nat} {wy lv ps db : Nat → Nat} (h : qf_ok rt lk wy lv ps db) (D : Nat) (hd : qf_tot rt lk + qs_ 784 (fun b => qi_ (qf_po b ∧ lv b = 2) * (db b * qf_S lk b)) + qs_ 784 (fun b => qi_ (qf_po b ∧ lv b = 1) * (db b * qf_cn lk b)) + qs_ 784 (fun b => qi_ (qf_po b ∧ lv b = 0) * db b) ≤ D) : qf_cl wy lv 0 ≤ D := by
  have a1 := qf_dc h 0 (fun _ => 1)
  have a2 : qs_ 16 (fun v => qi_ (rt v ≠ 0 ∧ 0 = 2) * 1) = 0 := qs_zero (fun v _ => by rw [qi_f (fun q => by have := q.2; omega), Nat.zero_mul])
  have a3 : qs_ 784 (fun n => qi_ (0 < wy n ∧ lv n = 0 + 1) * qs_ (qf_nl (0 + 1)) (fun i => qi_ (lk n i ≠ 0) * 1)) = qs_ 784 (fun n => qi_ (0 < wy n ∧ lv n = 1) * qf_cn lk n) := qs_congr (fun n _ => by
    show _ * _ = _ * _
    congr 1
    exact qs_congr (fun i _ => by show _ * 1 = _; rw [Nat.mul_one]))
  have a4 : qs_ 784 (fun b => qi_ (qf_po b ∧ lv b = 0) * (db b * 1)) = qs_ 784 (fun b => qi_ (qf_po b ∧ lv b = 0) * db b) := qs_congr (fun b _ => by show _ * (_ * 1) = _; rw [Nat.mul_one])
  have a5 : qs_ 784 (fun b => qi_ (0 < wy b ∧ lv b = 0) * 1) = qf_cl wy lv 0 := qs_congr (fun b _ => by show _ * 1 = _; rw [Nat.mul_one])
  have b1 := qf_dc h 1 (qf_cn lk)
  have b2 : qs_ 16 (fun v => qi_ (rt v ≠ 0 ∧ 1 = 2) * qf_cn lk (rt v)) = 0 := qs_zero (fun v _ => by rw [qi_f (fun q => by have := q.2; omega), Nat.zero_mul])
  have c1 := qf_dc h 2 (qf_S lk)
  have c2 : qs_ 16 (fun v => qi_ (rt v ≠ 0 ∧ 2 = 2) * qf_S lk (rt v)) = qf_tot rt lk := qs_congr (fun v _ => by
    show qi_ _ * _ = qi_ _ * _
    congr 1
    by_cases h0 : rt v = 0
    · rw [qi_f (fun q => q.1 h0), qi_f (fun q => q h0)]
    · rw [qi_t ⟨h0, rfl⟩, qi_t h0])
  have c3 : qs_ 784 (fun n => qi_ (0 < wy n ∧ lv n = 2 + 1) * qs_ (qf_nl (2 + 1)) (fun i => qi_ (lk n i ≠ 0) * qf_S lk (lk n i))) = 0 := qs_zero (fun n _ => by
    rw [show qf_nl (2 + 1) = 0 from rfl, qs_0, Nat.mul_zero])
  have b3 : qs_ 784 (fun n => qi_ (0 < wy n ∧ lv n = 1 + 1) * qs_ (qf_nl (1 + 1)) (fun i => qi_ (lk n i ≠ 0) * qf_cn lk (lk n i))) = qs_ 784 (fun n => qi_ (0 < wy n ∧ lv n = 2) * qf_S lk n) := rfl
  try dsimp only at a1
  omega
theorem qc_live {wy lv : Nat → Nat} (hlv : ∀ b, 0 < wy b → lv b ≤ 2) : qs_ 784 (fun b => qi_ (0 < wy b)) = qf_cl wy lv 0 + qf_cl wy lv 1 + qf_cl wy lv 2 := by
  unfold qf_cl
  rw [← qs_add, ← qs_add]
  refine qs_congr (fun b _ => ?_)
  try dsimp only
  by_cases hb : 0 < wy b
  · have := hlv b hb
    rw [qi_t hb]
    rcases (show lv b = 0 ∨ lv b = 1 ∨ lv b = 2 by omega) with q | q | q
    · rw [qi_t ⟨hb, q⟩, qi_f (fun z => by have := z.2; omega), qi_f (fun z => by have := z.2; omega)]
    · rw [qi_f (fun z => by have := z.2; omega), qi_t ⟨hb, q⟩, qi_f (fun z => by have := z.2; omega)]
    · rw [qi_f (fun z => by have := z.2; omega), qi_f (fun z => by have := z.2; omega), qi_t ⟨hb, q⟩]
  · rw [qi_f hb, qi_f (fun z => hb z.1), qi_f (fun z => hb z.1), qi_f (fun z => hb z.1)]
/-- two forests leave a block free, if together they have less than 768 -/
theorem qc_free {w1 w2 : Nat → Nat} (h1 : ∀ b, ¬ qf_po b → w1 b = 0) (h2 : ∀ b, ¬ qf_po b → w2 b = 0) (h : qs_ 784 (fun b => qi_ (0 < w1 b)) + qs_ 784 (fun b => qi_ (0 < w2 b)) < 768) : ∃ c, qf_po c ∧ w1 c = 0 ∧ w2 c = 0 := by
  rw [show 784 = 16 + 768 from rfl, qs_split, qs_split, qs_zero (n := 16) (f := fun b => qi_ (0 < w1 b)) (fun b hb => qi_f (fun q => by have := h1 b (fun z => by have := z.1; omega); omega)), qs_zero (n := 16) (f := fun b => qi_ (0 < w2 b)) (fun b hb => qi_f (fun q => by have := h2 b (fun z => by have := z.1; omega); omega))] at h
  obtain ⟨k, hk, e⟩ := qs_hole (n := 768) (f := fun i => qi_ (0 < w1 (16 + i)) + qi_ (0 < w2 (16 + i))) (by rw [qs_add]; omega)
  try dsimp only at e
  refine ⟨16 + k, ⟨by omega, by omega⟩, ?_, ?_⟩
  · by_cases q : 0 < w1 (16 + k)
    · rw [qi_t q] at e; omega
    · omega
  · by_cases q : 0 < w2 (16 + k)
    · rw [qi_t q] at e; omega
    · omega
/-- a forest between calls has at most 380 live blocks, and no count is large -/
theorem qc_zero (n : Nat) (g : Nat → Nat) : qs_ n (fun b => g b * 0) = 0 := qs_zero (fun b _ => Nat.mul_zero _)
theorem qc_380 {f : Nat → Int64} {T : Nat} {lv ps : Nat → Nat} (h : qz_st f T lv ps) : qs_ 784 (fun b => qi_ (0 < qv_wy f T b)) ≤ 380 ∧ qf_cl (qv_wy f T) lv 2 ≤ 16 ∧ qf_cl (qv_wy f T) lv 1 ≤ 64 := by
  obtain ⟨ok, htot, hl2⟩ := h
  have h2 := qc_roots ok 0 (by rw [qc_zero 784 (fun b => qi_ (qf_po b ∧ lv b = 2))]; exact Nat.le_refl _)
  have h1 := qc_leaves ok 0 (by rw [qc_zero 784 (fun b => qi_ (qf_po b ∧ lv b = 1))]; exact Nat.le_refl _)
  have h0 := qc_data ok 300 (by
    rw [qs_zero (n := 784) (f := fun b => qi_ (qf_po b ∧ lv b = 2) * (0 * qf_S (qv_lk f) b)) (fun b _ => by rw [Nat.zero_mul, Nat.mul_zero]), qs_zero (n := 784) (f := fun b => qi_ (qf_po b ∧ lv b = 1) * (0 * qf_cn (qv_lk f) b)) (fun b _ => by rw [Nat.zero_mul, Nat.mul_zero]), qc_zero 784 (fun b => qi_ (qf_po b ∧ lv b = 0))]
    exact htot)
  rw [qc_live (wy := qv_wy f T) (lv := lv) (fun b _ => hl2 b)]
  omega
/-- no count is large, if debts are at most 1 -/
theorem qc_ways {rt : Nat → Nat} {lk : Nat → Nat → Nat} {wy lv ps db : Nat → Nat} (h : qf_ok rt lk wy lv ps db) (h2 : qf_cl wy lv 2 ≤ 17) (h1 : qf_cl wy lv 1 ≤ 69) (hl2 : ∀ b, lv b ≤ 2) (hd : ∀ b, qf_po b → db b ≤ 1) : ∀ x, wy x ≤ 100 := by
  intro x
  by_cases hp : qf_po x
  · have a1 := h.2.2.1 x hp
    have a2 := qf_in_le h (b := x) (fun e0 => by rw [e0] at hp; exact qf_po0 hp)
    have a3 := hd x hp
    have a4 := hl2 x
    rcases (show lv x = 0 ∨ lv x = 1 ∨ lv x = 2 by omega) with q | q | q
    · rw [q, if_neg (by omega), show 0 + 1 = 1 from rfl] at a2; omega
    · rw [q, if_neg (by omega), show 1 + 1 = 2 from rfl] at a2; omega
    · rw [q, if_pos rfl] at a2
      have : qf_cl wy lv 3 = 0 ∨ True := Or.inr trivial
      have a5 : qf_cl wy lv (2 + 1) = 0 := qs_zero (fun b _ => qi_f (fun z => by have := z.2; have := hl2 b; omega))
      omega
  · have := h.2.2.2 x hp; omega
theorem qf_congr {rt rt' : Nat → Nat} {lk lk' : Nat → Nat → Nat} {wy wy' lv ps db : Nat → Nat} (h : qf_ok rt lk wy lv ps db) (hr : ∀ v, v < 16 → rt' v = rt v) (hl : ∀ m i, 0 < wy m → i < qf_nl (lv m) → lk' m i = lk m i) (hw : ∀ b, wy' b = wy b) : qf_ok rt' lk' wy' lv ps db := by
  have e : wy' = wy := funext hw
  subst e
  have o1 := qf_write (lk' := lk') h hl
  refine ⟨fun v hv => by rw [hr v hv]; exact o1.1 v hv, o1.2.1, fun b hb => ?_, o1.2.2.2⟩
  rw [o1.2.2.1 b hb]
  unfold qf_in
  rw [qs_congr (f := fun v => qi_ (rt v = b)) (g := fun v => qi_ (rt' v = b)) (fun v hv => by show qi_ _ = qi_ _; rw [hr v hv])]
/-- now and kept leave a block free, and no count is large -/
theorem qc_room {f : Nat → Int64} {T K : Nat} {lv ps kl kp : Nat → Nat} (h : qz_st f T lv ps) (hk : qz_st f K kl kp) : (∃ c, qf_po c ∧ qv_wy f T c = 0 ∧ qv_wy f K c = 0) ∧ ∀ x, qv_wy f T x ≤ 100 := by
  obtain ⟨a1, a2, a3⟩ := qc_380 h
  obtain ⟨b1, b2, b3⟩ := qc_380 hk
  exact ⟨qc_free h.1.2.2.2 hk.1.2.2.2 (by omega), qc_ways h.1 (by omega) (by omega) h.2.2 (fun _ _ => by omega)⟩
