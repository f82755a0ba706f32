/-! AN IMAGE: 784 blocks of 16 words; what is read in it, what is written -/
def qv_for {α : Type} (n : Nat) (step : α → Nat → α) (a : α) : α := match n with
  | 0 => a
  | k + 1 => step (qv_for k step a) k
theorem qv_for0 {α : Type} (step : α → Nat → α) (a : α) : qv_for 0 step a = a := rfl
theorem qv_forS {α : Type} (n : Nat) (step : α → Nat → α) (a : α) : qv_for (n + 1) step a = step (qv_for n step a) n := rfl
def qv_wd (f : Nat → Int64) (w : Nat) : Int64 := if w < 12544 then f w else 0
def qv_up (f : Nat → Int64) (w : Nat) (x : Int64) : Nat → Int64 := if w < 12544 then vp_updL f w x else f
theorem qv_wd_s {f : Nat → Int64} {w : Nat} {x : Int64} (h : w < 12544) : qv_wd (qv_up f w x) w = x := by
  unfold qv_wd qv_up
  rw [if_pos h, if_pos h]
  exact pk_uLs
theorem qv_wd_n {f : Nat → Int64} {w v : Nat} {x : Int64} (h : v ≠ w) : qv_wd (qv_up f w x) v = qv_wd f v := by
  unfold qv_wd qv_up
  by_cases h1 : v < 12544
  · rw [if_pos h1, if_pos h1]
    by_cases h2 : w < 12544
    · rw [if_pos h2]; exact pk_uLn h
    · rw [if_neg h2]
  · rw [if_neg h1, if_neg h1]
def qv_word (f : Nat → Int64) (b i : Nat) : Int64 := qv_wd f (b * 16 + i)
def qv_setW (f : Nat → Int64) (b i : Nat) (x : Int64) : Nat → Int64 := qv_up f (b * 16 + i) x
def qv_by (f : Nat → Int64) (b i : Nat) : Nat := qb_n (qv_word f b (i / 8)) / 2 ^ (8 * (i % 8)) % 2 ^ 8
def qv_setB (f : Nat → Int64) (b i a : Nat) : Nat → Int64 := qv_setW f b (i / 8) (lN (qb_put (qb_n (qv_word f b (i / 8))) (8 * (i % 8)) 8 (a % 2 ^ 8)))
def qv_lk (f : Nat → Int64) (b i : Nat) : Nat := qb_n (qv_word f b (i / 4)) / 2 ^ (16 * (i % 4)) % 2 ^ 16
def qv_setL (f : Nat → Int64) (b i a : Nat) : Nat → Int64 := qv_setW f b (i / 4) (lN (qb_put (qb_n (qv_word f b (i / 4))) (16 * (i % 4)) 16 (a % 2 ^ 16)))
def qv_sz (f : Nat → Int64) (b : Nat) : Int64 := qv_word f b 15
def qv_addS (f : Nat → Int64) (b : Nat) (m : Int64) : Nat → Int64 := qv_setW f b 15 (qv_word f b 15 + m)
def qv_blank (f : Nat → Int64) (b : Nat) : Nat → Int64 := qv_for 16 (fun g i => qv_setW g b i 0) f
def qv_dup (f : Nat → Int64) (a b : Nat) : Nat → Int64 := qv_for 16 (fun g i => qv_setW g b i (qv_word g a i)) f
def qv_recv (f g : Nat → Int64) (b lo hi : Nat) : Nat → Int64 := qv_for (hi - lo) (fun h i => qv_setW h b (lo + i) (qv_word g b (lo + i))) f
def qv_rt (f : Nat → Int64) (T v : Nat) : Nat := qv_lk f T v
def qv_nt (f : Nat → Int64) (T i : Nat) : Nat := qv_by f T (32 + i)
def qv_wy (f : Nat → Int64) (T b : Nat) : Nat := if qf_po b then qv_by f (T + 1 + (b - 16) / 128) ((b - 16) % 128) else 0
def qv_setY (f : Nat → Int64) (T b a : Nat) : Nat → Int64 := if qf_po b then qv_setB f (T + 1 + (b - 16) / 128) ((b - 16) % 128) a else f
def qv_like (f : Nat → Int64) (T M : Nat) : Nat → Int64 := qv_for 7 (fun g i => qv_dup g (M + i) (T + i)) f
/-! two images with the same block -/
def qv_eq (f g : Nat → Int64) (b : Nat) : Prop := ∀ i, i < 16 → qv_word f b i = qv_word g b i
theorem qv_eq.rf {f : Nat → Int64} {b : Nat} : qv_eq f f b := fun _ _ => rfl
theorem qv_eq.sy {f g : Nat → Int64} {b : Nat} (h : qv_eq f g b) : qv_eq g f b := fun i hi => (h i hi).symm
theorem qv_eq.tr {f g k : Nat → Int64} {b : Nat} (h : qv_eq f g b) (h2 : qv_eq g k b) : qv_eq f k b := fun i hi => (h i hi).trans (h2 i hi)
theorem qv_eq.by {f g : Nat → Int64} {b : Nat} (h : qv_eq f g b) {i : Nat} (hi : i < 128) : qv_by f b i = qv_by g b i := by
  unfold qv_by; rw [h (i / 8) (by omega)]
theorem qv_eq.lk {f g : Nat → Int64} {b : Nat} (h : qv_eq f g b) {i : Nat} (hi : i < 64) : qv_lk f b i = qv_lk g b i := by
  unfold qv_lk; rw [h (i / 4) (by omega)]
theorem qv_eq.sz {f g : Nat → Int64} {b : Nat} (h : qv_eq f g b) : qv_sz f b = qv_sz g b := h 15 (by omega)
theorem qv_word_s {f : Nat → Int64} {b i : Nat} {x : Int64} (hb : b < 784) (hi : i < 16) : qv_word (qv_setW f b i x) b i = x := qv_wd_s (by omega)
theorem qv_word_i {f : Nat → Int64} {b i j : Nat} {x : Int64} (h : j ≠ i) : qv_word (qv_setW f b i x) b j = qv_word f b j := qv_wd_n (by omega)
theorem qv_word_n {f : Nat → Int64} {b c i j : Nat} {x : Int64} (h : c ≠ b) (hi : i < 16) (hj : j < 16) : qv_word (qv_setW f b i x) c j = qv_word f c j := qv_wd_n (by omega)
theorem qv_eq_setW {f : Nat → Int64} {b c i : Nat} {x : Int64} (h : c ≠ b) (hi : i < 16) : qv_eq (qv_setW f b i x) f c := fun _ hj => qv_word_n h hi hj
theorem qv_eq_setB {f : Nat → Int64} {b c i a : Nat} (h : c ≠ b) (hi : i < 128) : qv_eq (qv_setB f b i a) f c := qv_eq_setW h (by omega)
theorem qv_eq_setL {f : Nat → Int64} {b c i a : Nat} (h : c ≠ b) (hi : i < 64) : qv_eq (qv_setL f b i a) f c := qv_eq_setW h (by omega)
theorem qv_eq_addS {f : Nat → Int64} {b c : Nat} {m : Int64} (h : c ≠ b) : qv_eq (qv_addS f b m) f c := qv_eq_setW h (by omega)
theorem qv_by_lt (f : Nat → Int64) (b i : Nat) : qv_by f b i < 256 := Nat.mod_lt _ (by decide)
theorem qv_lk_lt (f : Nat → Int64) (b i : Nat) : qv_lk f b i < 65536 := Nat.mod_lt _ (by decide)
theorem qv_wy_lt (f : Nat → Int64) (T b : Nat) : qv_wy f T b < 256 := by
  unfold qv_wy
  split
  · exact qv_by_lt _ _ _
  · decide
theorem qv_by_setB {f : Nat → Int64} {b i j a : Nat} (hb : b < 784) (hi : i < 128) (ha : a < 256) : qv_by (qv_setB f b i a) b j = if j = i then a else qv_by f b j := by
  unfold qv_by qv_setB
  rw [Nat.mod_eq_of_lt (show a < 2 ^ 8 from ha)]
  by_cases hw : j / 8 = i / 8
  · rw [hw, qv_word_s hb (by omega), qb_N (qb_put_lt (by omega) (qb_lt _) ha), qb_dig ha (by omega) (by omega) (by omega)]
    by_cases hji : j = i
    · subst hji; rw [if_pos rfl, if_pos rfl]
    · rw [if_neg hji, if_neg (by omega)]
  · rw [qv_word_i hw, if_neg (by omega)]
theorem qv_lk_setL {f : Nat → Int64} {b i j a : Nat} (hb : b < 784) (hi : i < 64) (ha : a < 65536) : qv_lk (qv_setL f b i a) b j = if j = i then a else qv_lk f b j := by
  unfold qv_lk qv_setL
  rw [Nat.mod_eq_of_lt (show a < 2 ^ 16 from ha)]
  by_cases hw : j / 4 = i / 4
  · rw [hw, qv_word_s hb (by omega), qb_N (qb_put_lt (by omega) (qb_lt _) ha), qb_dig ha (by omega) (by omega) (by omega)]
    by_cases hji : j = i
    · subst hji; rw [if_pos rfl, if_pos rfl]
    · rw [if_neg hji, if_neg (by omega)]
  · rw [qv_word_i hw, if_neg (by omega)]
theorem qv_by_setL {f : Nat → Int64} {b i j a : Nat} (h : j / 8 ≠ i / 4) : qv_by (qv_setL f b i a) b j = qv_by f b j := by
  unfold qv_by qv_setL; rw [qv_word_i h]
theorem qv_lk_setB {f : Nat → Int64} {b i j a : Nat} (h : j / 4 ≠ i / 8) : qv_lk (qv_setB f b i a) b j = qv_lk f b j := by
  unfold qv_lk qv_setB; rw [qv_word_i h]
theorem qv_sz_setL {f : Nat → Int64} {b i a : Nat} (h : i < 60) : qv_sz (qv_setL f b i a) b = qv_sz f b := by
  unfold qv_sz qv_setL; rw [qv_word_i (by omega)]
theorem qv_lk_addS {f : Nat → Int64} {b j : Nat} {m : Int64} (h : j < 60) : qv_lk (qv_addS f b m) b j = qv_lk f b j := by
  unfold qv_lk qv_addS; rw [qv_word_i (by omega)]
theorem qv_sz_addS {f : Nat → Int64} {b : Nat} {m : Int64} (hb : b < 784) : qv_sz (qv_addS f b m) b = qv_sz f b + m := by
  unfold qv_sz qv_addS; rw [qv_word_s hb (by omega)]
/-! blank, duplicate, receive -/
theorem qv_blank_s {f : Nat → Int64} {b : Nat} (hb : b < 784) : ∀ i, i < 16 → qv_word (qv_blank f b) b i = 0 := by
  have h : ∀ n, n ≤ 16 → ∀ i, i < n → qv_word (qv_for n (fun g i => qv_setW g b i 0) f) b i = 0 := by
    intro n
    induction n with
    | zero => intro _ i hi; omega
    | succ n ih =>
      intro hn i hi
      rw [qv_forS]
      by_cases hin : i = n
      · subst hin; exact qv_word_s hb (by omega)
      · rw [qv_word_i hin]; exact ih (by omega) i (by omega)
  exact h 16 (Nat.le_refl _)
theorem qv_blank_n {f : Nat → Int64} {b c : Nat} (h : c ≠ b) : qv_eq (qv_blank f b) f c := by
  have h : ∀ n, n ≤ 16 → qv_eq (qv_for n (fun g i => qv_setW g b i 0) f) f c := by
    intro n
    induction n with
    | zero => intro _; exact qv_eq.rf
    | succ n ih =>
      intro hn
      rw [qv_forS]
      exact (qv_eq_setW h (by omega)).tr (ih (by omega))
  exact h 16 (Nat.le_refl _)
theorem qv_dup_s {f : Nat → Int64} {a b : Nat} (hb : b < 784) (hab : a ≠ b) : ∀ i, i < 16 → qv_word (qv_dup f a b) b i = qv_word f a i := by
  have h : ∀ n, n ≤ 16 → (∀ i, i < n → qv_word (qv_for n (fun g i => qv_setW g b i (qv_word g a i)) f) b i = qv_word f a i) ∧ qv_eq (qv_for n (fun g i => qv_setW g b i (qv_word g a i)) f) f a := by
    intro n
    induction n with
    | zero => intro _; exact ⟨fun i hi => by omega, qv_eq.rf⟩
    | succ n ih =>
      intro hn
      obtain ⟨h1, h2⟩ := ih (by omega)
      rw [qv_forS]
      refine ⟨fun i hi => ?_, (qv_eq_setW hab (by omega)).tr h2⟩
      by_cases hin : i = n
      · subst hin; rw [qv_word_s hb (by omega)]; exact h2 i (by omega)
      · rw [qv_word_i hin]; exact h1 i (by omega)
  exact (h 16 (Nat.le_refl _)).1
theorem qv_dup_n {f : Nat → Int64} {a b c : Nat} (h : c ≠ b) : qv_eq (qv_dup f a b) f c := by
  have h : ∀ n, n ≤ 16 → qv_eq (qv_for n (fun g i => qv_setW g b i (qv_word g a i)) f) f c := by
    intro n
    induction n with
    | zero => intro _; exact qv_eq.rf
    | succ n ih =>
      intro hn
      rw [qv_forS]
      exact (qv_eq_setW h (by omega)).tr (ih (by omega))
  exact h 16 (Nat.le_refl _)
theorem qv_recv_n {f g : Nat → Int64} {b c lo hi : Nat} (h : c ≠ b) (hh : hi ≤ 16) : qv_eq (qv_recv f g b lo hi) f c := by
  have h : ∀ n, n ≤ hi - lo → qv_eq (qv_for n (fun h i => qv_setW h b (lo + i) (qv_word g b (lo + i))) f) f c := by
    intro n
    induction n with
    | zero => intro _; exact qv_eq.rf
    | succ n ih =>
      intro hn
      rw [qv_forS]
      exact (qv_eq_setW h (by omega)).tr (ih (by omega))
  exact h (hi - lo) (Nat.le_refl _)
theorem qv_recv_s {f g : Nat → Int64} {b lo hi : Nat} (hb : b < 784) (hh : hi ≤ 16) : ∀ i, i < 16 → qv_word (qv_recv f g b lo hi) b i = if lo ≤ i ∧ i < hi then qv_word g b i else qv_word f b i := by
  have h : ∀ n, n ≤ hi - lo → ∀ i, i < 16 → qv_word (qv_for n (fun h i => qv_setW h b (lo + i) (qv_word g b (lo + i))) f) b i = if lo ≤ i ∧ i < lo + n then qv_word g b i else qv_word f b i := by
    intro n
    induction n with
    | zero => intro _ i hi; rw [if_neg (by omega), qv_for0]
    | succ n ih =>
      intro hn i hi
      rw [qv_forS]
      by_cases hin : i = lo + n
      · subst hin; rw [qv_word_s hb (by omega), if_pos (by omega)]
      · rw [qv_word_i hin, ih (by omega) i hi]
        by_cases h1 : lo ≤ i ∧ i < lo + n
        · rw [if_pos h1, if_pos (by omega)]
        · rw [if_neg h1, if_neg (by omega)]
  intro i hi2
  have := h (hi - lo) (Nat.le_refl _) i hi2
  unfold qv_recv
  rw [this]
  by_cases h1 : lo ≤ i ∧ i < hi
  · rw [if_pos h1, if_pos (by omega)]
  · rw [if_neg h1, if_neg (by omega)]
theorem qv_recv_all {f g : Nat → Int64} {b : Nat} (hb : b < 784) : qv_eq (qv_recv f g b 0 16) g b := fun i hi => by
  rw [qv_recv_s hb (Nat.le_refl _) i hi, if_pos (by omega)]
/-- the tables of T become like those of M -/
theorem qv_like_n {f : Nat → Int64} {T M c : Nat} (h : c < T ∨ T + 7 ≤ c) : qv_eq (qv_like f T M) f c := by
  have h : ∀ n, n ≤ 7 → qv_eq (qv_for n (fun g i => qv_dup g (M + i) (T + i)) f) f c := by
    intro n
    induction n with
    | zero => intro _; exact qv_eq.rf
    | succ n ih =>
      intro hn
      rw [qv_forS]
      exact (qv_dup_n (by omega)).tr (ih (by omega))
  exact h 7 (Nat.le_refl _)
theorem qv_like_s {f : Nat → Int64} {T M : Nat} (hT : T + 7 ≤ 784) (hd : T + 7 ≤ M ∨ M + 7 ≤ T) : ∀ k, k < 7 → ∀ i, i < 16 → qv_word (qv_like f T M) (T + k) i = qv_word f (M + k) i := by
  have h : ∀ n, n ≤ 7 → (∀ k, k < n → ∀ i, i < 16 → qv_word (qv_for n (fun g i => qv_dup g (M + i) (T + i)) f) (T + k) i = qv_word f (M + k) i) ∧ ∀ k, k < 7 → qv_eq (qv_for n (fun g i => qv_dup g (M + i) (T + i)) f) f (M + k) := by
    intro n
    induction n with
    | zero => intro _; exact ⟨fun k hk => by omega, fun _ _ => qv_eq.rf⟩
    | succ n ih =>
      intro hn
      obtain ⟨h1, h2⟩ := ih (by omega)
      rw [qv_forS]
      refine ⟨fun k hk i hi => ?_, fun k hk => (qv_dup_n (by omega)).tr (h2 k hk)⟩
      by_cases hkn : k = n
      · subst hkn; rw [qv_dup_s (by omega) (by omega) i hi]; exact h2 k (by omega) i hi
      · rw [qv_dup_n (by omega) i hi]; exact h1 k (by omega) i hi
  exact (h 7 (Nat.le_refl _)).1
