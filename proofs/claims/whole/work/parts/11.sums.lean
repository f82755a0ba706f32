/-! sums over 0 .. n-1, and what one change does to them -/
def qs_ (n : Nat) (f : Nat → Nat) : Nat := match n with
  | 0 => 0
  | k + 1 => qs_ k f + f k
theorem qs_0 (f : Nat → Nat) : qs_ 0 f = 0 := rfl
theorem qs_s (n : Nat) (f : Nat → Nat) : qs_ (n + 1) f = qs_ n f + f n := rfl
theorem qs_congr {n : Nat} {f g : Nat → Nat} (h : ∀ i, i < n → f i = g i) : qs_ n f = qs_ n g := by
  induction n with
  | zero => rfl
  | succ n ih =>
    rw [qs_s, qs_s, ih (fun i hi => h i (by omega)), h n (by omega)]
theorem qs_upd {n k : Nat} {f g : Nat → Nat} (hk : k < n) (h : ∀ i, i < n → i ≠ k → f i = g i) : qs_ n g + f k = qs_ n f + g k := by
  induction n with
  | zero => omega
  | succ n ih =>
    rw [qs_s, qs_s]
    by_cases hkn : k = n
    · subst hkn
      rw [qs_congr (f := f) (g := g) (fun i hi => h i (by omega) (by omega))]
      omega
    · have h1 := ih (by omega) (fun i hi hne => h i (by omega) hne)
      have h2 := h n (by omega) (by omega)
      omega
theorem qs_add (n : Nat) (f g : Nat → Nat) : qs_ n (fun i => f i + g i) = qs_ n f + qs_ n g := by
  induction n with
  | zero => rfl
  | succ n ih =>
    rw [qs_s, qs_s, qs_s, ih]
    omega
theorem qs_le {n : Nat} {f g : Nat → Nat} (h : ∀ i, i < n → f i ≤ g i) : qs_ n f ≤ qs_ n g := by
  induction n with
  | zero => exact Nat.le_refl _
  | succ n ih =>
    rw [qs_s, qs_s]
    have h1 := ih (fun i hi => h i (by omega))
    have h2 := h n (by omega)
    omega
theorem qs_ge1 {n k : Nat} {f : Nat → Nat} (hk : k < n) : f k ≤ qs_ n f := by
  induction n with
  | zero => omega
  | succ n ih =>
    rw [qs_s]
    by_cases hkn : k = n
    · subst hkn; omega
    · have := ih (by omega); omega
theorem qs_ge2 {n i j : Nat} {f : Nat → Nat} (hi : i < n) (hj : j < n) (hne : i ≠ j) : f i + f j ≤ qs_ n f := by
  induction n with
  | zero => omega
  | succ n ih =>
    rw [qs_s]
    by_cases h1 : i = n
    · subst h1
      have := qs_ge1 (f := f) (show j < i by omega)
      omega
    · by_cases h2 : j = n
      · subst h2
        have := qs_ge1 (f := f) (show i < j by omega)
        omega
      · have := ih (by omega) (by omega)
        omega
theorem qs_zero {n : Nat} {f : Nat → Nat} (h : ∀ i, i < n → f i = 0) : qs_ n f = 0 := by
  induction n with
  | zero => rfl
  | succ n ih => rw [qs_s, ih (fun i hi => h i (by omega)), h n (by omega)]
theorem qs_all0 {n k : Nat} {f : Nat → Nat} (h : qs_ n f = 0) (hk : k < n) : f k = 0 := by
  have := qs_ge1 (f := f) hk
  omega
theorem qs_ex {n : Nat} {f : Nat → Nat} (h : 0 < qs_ n f) : ∃ k, k < n ∧ 0 < f k := by
  induction n with
  | zero => rw [qs_0] at h; omega
  | succ n ih =>
    rw [qs_s] at h
    by_cases hn : 0 < f n
    · exact ⟨n, by omega, hn⟩
    · obtain ⟨k, h1, h2⟩ := ih (by omega)
      exact ⟨k, by omega, h2⟩
theorem qs_const (n c : Nat) : qs_ n (fun _ => c) = n * c := by
  induction n with
  | zero => rw [qs_0]; omega
  | succ n ih => rw [qs_s, ih, Nat.succ_mul]
theorem qs_swap (n m : Nat) (f : Nat → Nat → Nat) : qs_ n (fun i => qs_ m (fun j => f i j)) = qs_ m (fun j => qs_ n (fun i => f i j)) := by
  induction n with
  | zero => rw [qs_0, qs_zero (fun j _ => qs_0 _)]
  | succ n ih =>
    rw [qs_s, ih, ← qs_add]
    exact qs_congr (fun j _ => (qs_s n _).symm)
theorem qs_one {n k : Nat} {f : Nat → Nat} (hk : k < n) (h : ∀ i, i < n → i ≠ k → f i = 0) : qs_ n f = f k := by
  have h1 := qs_upd (f := f) (g := fun _ => 0) hk (fun i hi hne => h i hi hne)
  rw [qs_const] at h1
  omega
theorem qs_mul (n c : Nat) (f : Nat → Nat) : qs_ n (fun i => f i * c) = qs_ n f * c := by
  induction n with
  | zero => rw [qs_0, qs_0]; omega
  | succ n ih => rw [qs_s, qs_s, ih, Nat.add_mul]
/-- a sum that is less than the number of its places has a place with 0 -/
theorem qs_hole {n : Nat} {f : Nat → Nat} (h : qs_ n f < n) : ∃ k, k < n ∧ f k = 0 := by
  induction n with
  | zero => omega
  | succ n ih =>
    rw [qs_s] at h
    by_cases hn : f n = 0
    · exact ⟨n, by omega, hn⟩
    · obtain ⟨k, h1, h2⟩ := ih (by omega)
      exact ⟨k, by omega, h2⟩
theorem qs_split (a b : Nat) (f : Nat → Nat) : qs_ (a + b) f = qs_ a f + qs_ b (fun i => f (a + i)) := by
  induction b with
  | zero => rw [qs_0]; rfl
  | succ b ih => rw [← Nat.add_assoc, qs_s, ih, qs_s]; omega
/-- an indicator -/
def qi_ (p : Prop) [Decidable p] : Nat := if p then 1 else 0
theorem qi_t {p : Prop} [Decidable p] (h : p) : qi_ p = 1 := if_pos h
theorem qi_f {p : Prop} [Decidable p] (h : ¬ p) : qi_ p = 0 := if_neg h
theorem qi_le (p : Prop) [Decidable p] : qi_ p ≤ 1 := by unfold qi_; split <;> omega
theorem qi_pos {p : Prop} [Decidable p] (h : 0 < qi_ p) : p := by
  unfold qi_ at h
  split at h
  · assumption
  · omega
theorem qi_n {a b : Nat} (h : a ≠ b) : qi_ (a ≠ b) = 1 := qi_t h
