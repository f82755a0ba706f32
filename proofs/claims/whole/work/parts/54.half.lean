/-! THE REFERENCE, HALF BY HALF: R roots, F the block of a piece, B its bytes, N notes; th, pl, mk, nt, bt, us the half of the reference, marks up to mm -/
def qh_ (R : Nat → Nat) (F : Nat → Nat → Nat) (B : Nat → Nat → Nat) (N : Nat → Nat) (th : Nat → Bool) (pl : Nat → Nat) (mk nt bt : Nat → Int32) (us : Nat → Bool) (mm : Nat) : Prop :=
  (∀ v, v < 16 → (R v ≠ 0 ↔ th v = true)) ∧
  (∀ v p, v < 16 → p < 128 → (F v p = 0 ↔ pl (128 * v + p) = 0)) ∧
  (∀ v p i, v < 16 → p < 128 → i < 128 → F v p ≠ 0 → bt (128 * (pl (128 * v + p) - 1) + i) &&& nI 255 = nI (B (F v p) i)) ∧
  (∀ v w p, v < 16 → w < 16 → p < 128 → F v p ≠ 0 → F w p ≠ 0 → (F v p = F w p ↔ mk (128 * v + p) = mk (128 * w + p))) ∧
  (∀ i, i < 32 → nt i = nI (N i)) ∧
  (∀ k, k < 2048 → pl k ≤ 300) ∧
  (∀ j k, j < 2048 → k < 2048 → pl j ≠ 0 → pl j = pl k → j = k) ∧
  (∀ x, x < 300 → (us x = true ↔ ∃ k, k < 2048 ∧ pl k = x + 1)) ∧
  (∀ k, k < 2048 → ∃ m, m ≤ mm ∧ mk k = nI m)
section QH
variable {R R' : Nat → Nat} {F F' : Nat → Nat → Nat} {B B' : Nat → Nat → Nat} {N N' : Nat → Nat} {th th' : Nat → Bool} {pl pl' : Nat → Nat} {mk mk' nt nt' bt bt' : Nat → Int32} {us us' : Nat → Bool} {mm mm' : Nat}
theorem qh_congr (h : qh_ R F B N th pl mk nt bt us mm) (hR : ∀ v, v < 16 → (R' v ≠ 0 ↔ R v ≠ 0)) (hF : ∀ v p, v < 16 → p < 128 → F' v p = F v p) (hB : ∀ v p i, v < 16 → p < 128 → i < 128 → F v p ≠ 0 → B' (F v p) i = B (F v p) i) (hN : ∀ i, i < 32 → N' i = N i) (hth : ∀ v, v < 16 → th' v = th v) (hpl : ∀ k, k < 2048 → pl' k = pl k) (hmk : ∀ k, k < 2048 → mk' k = mk k) (hnt : ∀ i, i < 32 → nt' i = nt i) (hbt : ∀ k, k < 38400 → bt' k &&& nI 255 = bt k &&& nI 255) (hus : ∀ x, x < 300 → us' x = us x) (hm : mm ≤ mm') : qh_ R' F' B' N' th' pl' mk' nt' bt' us' mm' := by
  obtain ⟨c1, c2, c3, c4, c5, c6, c7, c8, c9⟩ := h
  have hk : ∀ v p, v < 16 → p < 128 → 128 * v + p < 2048 := fun v p hv hp => by omega
  refine ⟨fun v hv => ?_, fun v p hv hp => ?_, fun v p i hv hp hi h0 => ?_, fun v w p hv hw hp h0 h1 => ?_, fun i hi => ?_, fun k hk2 => ?_, fun j k hj hk2 h0 e => ?_, fun x hx => ?_, fun k hk2 => ?_⟩
  · rw [hth v hv]; exact (hR v hv).trans (c1 v hv)
  · rw [hF v p hv hp, hpl _ (hk v p hv hp)]; exact c2 v p hv hp
  · rw [hF v p hv hp] at h0
    rw [hF v p hv hp, hpl _ (hk v p hv hp), hB v p i hv hp hi h0, ← c3 v p i hv hp hi h0]
    have q1 := c6 _ (hk v p hv hp)
    exact hbt _ (by omega)
  · have e1 := hF v p hv hp
    have e2 := hF w p hw hp
    rw [e1] at h0
    rw [e2] at h1
    rw [e1, e2, hmk _ (hk v p hv hp), hmk _ (hk w p hw hp)]
    exact c4 v w p hv hw hp h0 h1
  · rw [hnt i hi, hN i hi]; exact c5 i hi
  · rw [hpl k hk2]; exact c6 k hk2
  · rw [hpl j hj] at h0
    rw [hpl j hj, hpl k hk2] at e
    exact c7 j k hj hk2 h0 e
  · rw [hus x hx, c8 x hx]
    exact ⟨fun ⟨k, q1, q2⟩ => ⟨k, q1, by rw [hpl k q1]; exact q2⟩, fun ⟨k, q1, q2⟩ => ⟨k, q1, by rw [hpl k q1] at q2; exact q2⟩⟩
  · obtain ⟨m, q1, q2⟩ := c9 k hk2
    exact ⟨m, by omega, by rw [hmk k hk2]; exact q2⟩
theorem qh_th (h : qh_ R F B N th pl mk nt bt us mm) (hR : ∀ v, v < 16 → (R' v ≠ 0 ↔ th' v = true)) : qh_ R' F B N th' pl mk nt bt us mm := ⟨hR, h.2⟩
theorem qh_ct (pl : Nat → Nat) (b : Nat) : ∀ n, qm_ct pl b n = qs_ n (fun j => qi_ (pl (b + j) ≠ 0)) := by
  intro n
  induction n with
  | zero => rfl
  | succ n ih =>
    rw [qs_s, ← ih]
    by_cases h0 : pl (b + n) = 0
    · rw [qm_ct_z h0, qi_f (p := pl (b + n) ≠ 0) (fun q => q h0)]; rfl
    · rw [qm_ct_n h0, qi_n h0]
theorem qs_grid (m : Nat) (g : Nat → Nat) : ∀ n, qs_ (m * n) g = qs_ n (fun i => qs_ m (fun j => g (m * i + j))) := by
  intro n
  induction n with
  | zero => rfl
  | succ n ih => rw [Nat.mul_succ, qs_split, ih, qs_s]
theorem qh_2048 (pl : Nat → Nat) : qs_ 2048 (fun k => qi_ (pl k ≠ 0)) = qs_ 16 (fun v => qm_ct pl (128 * v) 128) := by
  rw [show (2048 : Nat) = 128 * 16 from rfl, qs_grid]
  exact qs_congr (fun v _ => (qh_ct pl (128 * v) 128).symm)
/-- a place that is free -/
theorem qh_free (h : qh_ R F B N th pl mk nt bt us mm) (hlt : qs_ 2048 (fun k => qi_ (pl k ≠ 0)) < 300) : ∃ x, x < 300 ∧ us x = false := by
  obtain ⟨c1, c2, c3, c4, c5, c6, c7, c8, c9⟩ := h
  have h1 : qs_ 300 (fun x => qi_ (us x = true)) ≤ qs_ 300 (fun x => qs_ 2048 (fun k => qi_ (pl k = x + 1))) := qs_le (fun x hx => by
    show qi_ _ ≤ qs_ _ _
    by_cases hu : us x = true
    · obtain ⟨k, q1, q2⟩ := (c8 x hx).mp hu
      have := qs_ge1 (f := fun k => qi_ (pl k = x + 1)) q1
      try dsimp only at this
      rw [qi_t q2] at this
      rw [qi_t hu]
      exact this
    · rw [qi_f hu]; exact Nat.zero_le _)
  rw [qs_swap] at h1
  have h2 : qs_ 2048 (fun k => qs_ 300 (fun x => qi_ (pl k = x + 1))) ≤ qs_ 2048 (fun k => qi_ (pl k ≠ 0)) := qs_le (fun k hk => by
    show qs_ _ _ ≤ qi_ _
    by_cases h0 : pl k = 0
    · rw [qs_zero (f := fun x => qi_ (pl k = x + 1)) (fun x _ => qi_f (fun e => by omega))]
      exact Nat.zero_le _
    · rw [qi_n h0]
      have h6 := c6 k hk
      rw [qs_one (f := fun x => qi_ (pl k = x + 1)) (k := pl k - 1) (by omega) (fun x _ hx => qi_f (fun e => by omega))]
      exact qi_le _)
  obtain ⟨x, q1, q2⟩ := qs_hole (n := 300) (f := fun x => qi_ (us x = true)) (by omega)
  try dsimp only at q2
  refine ⟨x, q1, ?_⟩
  cases hu : us x with
  | false => rfl
  | true => rw [qi_t hu] at q2; omega
theorem qh_frn {us : Nat → Bool} {x : Nat} (hx : us x = false) : ∀ c k, k ≤ x → x < k + c → qm_frn us c k ≤ x := by
  intro c
  induction c with
  | zero => intro k h1 h2; omega
  | succ c ih =>
    intro k h1 h2
    unfold qm_frn
    by_cases hu : us k = true
    · rw [if_pos hu]
      have : k ≠ x := fun e => by rw [e, hx] at hu; exact absurd hu (by decide)
      exact ih (k + 1) (by omega) (by omega)
    · rw [if_neg hu]; exact h1
theorem qh_fr (h : qh_ R F B N th pl mk nt bt us mm) (hlt : qs_ 2048 (fun k => qi_ (pl k ≠ 0)) < 300) : qm_fr us < 300 ∧ us (qm_fr us) = false ∧ ∀ j, j < qm_fr us → us j = true := by
  obtain ⟨x, q1, q2⟩ := qh_free h hlt
  have h1 : qm_fr us ≤ x := qh_frn q2 600 0 (by omega) (by omega)
  have h2 := qm_fr_spec (us := us) (by omega)
  exact ⟨by omega, h2.1, h2.2⟩
/-- one piece more -/
theorem qh_add (h : qh_ R F B N th pl mk nt bt us mm) {v p x fr : Nat} {m : Int32} (hv : v < 16) (hp : p < 128) (h0 : F v p = 0) (hx : x ≠ 0) (hfr : fr < 300) (hus : us fr = false) (hm : ∀ w, w < 16 → w ≠ v → F w p ≠ 0 → (x = F w p ↔ m = mk (128 * w + p))) (hmm : mm ≤ mm') (hmj : ∃ j, j ≤ mm' ∧ m = nI j) (hR : ∀ v, v < 16 → (R' v ≠ 0 ↔ R v ≠ 0)) (hF : ∀ w q, w < 16 → q < 128 → F' w q = if w = v ∧ q = p then x else F w q) (hB : ∀ w q i, w < 16 → q < 128 → i < 128 → F w q ≠ 0 → B' (F w q) i = B (F w q) i) (hN : ∀ i, i < 32 → N' i = N i) (hb1 : ∀ k, k < 38400 → ¬ (128 * fr ≤ k ∧ k < 128 * fr + 128) → bt' k &&& nI 255 = bt k &&& nI 255) (hb2 : ∀ i, i < 128 → bt' (128 * fr + i) &&& nI 255 = nI (B' x i)) : qh_ R' F' B' N' th (va_up pl (128 * v + p) (fr + 1)) (upd mk (128 * v + p) m) nt bt' (va_up us fr true) mm' := by
  obtain ⟨c1, c2, c3, c4, c5, c6, c7, c8, c9⟩ := h
  have hk : ∀ v p, v < 16 → p < 128 → 128 * v + p < 2048 := fun v p hv hp => by omega
  have hne : ∀ w q, q < 128 → ¬ (w = v ∧ q = p) → 128 * w + q ≠ 128 * v + p := fun w q hq hn e => hn (by omega)
  have hp0 : pl (128 * v + p) = 0 := (c2 v p hv hp).mp h0
  have hpf : ∀ k, k < 2048 → pl k ≠ fr + 1 := fun k hk2 e => by
    have := (c8 fr hfr).mpr ⟨k, hk2, e⟩
    rw [hus] at this
    exact absurd this (by decide)
  refine ⟨fun w hw => (hR w hw).trans (c1 w hw), fun w q hw hq => ?_, fun w q i hw hq hi g0 => ?_, fun w z q hw hz hq g0 g1 => ?_, fun i hi => by rw [hN i hi]; exact c5 i hi, fun k hk2 => ?_, fun j k hj hk2 g0 e => ?_, fun y hy => ?_, fun k hk2 => ?_⟩
  · rw [hF w q hw hq]
    by_cases hE : w = v ∧ q = p
    · rw [if_pos hE, hE.1, hE.2, qf_us]
      exact ⟨fun z => absurd z hx, fun z => by omega⟩
    · rw [if_neg hE, qf_un (hne w q hq hE)]
      exact c2 w q hw hq
  · rw [hF w q hw hq] at g0
    rw [hF w q hw hq]
    by_cases hE : w = v ∧ q = p
    · rw [if_pos hE, hE.1, hE.2, qf_us, Nat.add_sub_cancel]
      exact hb2 i hi
    · rw [if_neg hE] at g0
      rw [if_neg hE, qf_un (hne w q hq hE), hB w q i hw hq hi g0, ← c3 w q i hw hq hi g0]
      have q1 := c6 _ (hk w q hw hq)
      have q2 := hpf _ (hk w q hw hq)
      have q3 : pl (128 * w + q) ≠ 0 := fun z => g0 ((c2 w q hw hq).mpr z)
      exact hb1 _ (by omega) (by omega)
  · rw [hF w q hw hq] at g0
    rw [hF z q hz hq] at g1
    rw [hF w q hw hq, hF z q hz hq]
    by_cases hq2 : q = p
    · subst hq2
      by_cases hw2 : w = v
      · subst hw2
        rw [if_pos ⟨rfl, rfl⟩, qa_us]
        by_cases hz2 : z = w
        · subst hz2
          rw [if_pos ⟨rfl, rfl⟩, qa_us]
          exact ⟨fun _ => rfl, fun _ => rfl⟩
        · rw [if_neg (fun e => hz2 e.1)] at g1
          rw [if_neg (fun e => hz2 e.1), qa_un (hne z q hq (fun e => hz2 e.1))]
          exact hm z hz hz2 g1
      · rw [if_neg (fun e => hw2 e.1)] at g0
        rw [if_neg (fun e => hw2 e.1), qa_un (hne w q hq (fun e => hw2 e.1))]
        by_cases hz2 : z = v
        · subst hz2
          rw [if_pos ⟨rfl, rfl⟩, qa_us]
          have := hm w hw hw2 g0
          exact ⟨fun e => (this.mp e.symm).symm, fun e => (this.mpr e.symm).symm⟩
        · rw [if_neg (fun e => hz2 e.1)] at g1
          rw [if_neg (fun e => hz2 e.1), qa_un (hne z q hq (fun e => hz2 e.1))]
          exact c4 w z q hw hz hq g0 g1
    · rw [if_neg (fun e => hq2 e.2)] at g0 g1
      rw [if_neg (fun e => hq2 e.2), if_neg (fun e => hq2 e.2), qa_un (hne w q hq (fun e => hq2 e.2)), qa_un (hne z q hq (fun e => hq2 e.2))]
      exact c4 w z q hw hz hq g0 g1
  · by_cases hkk : k = 128 * v + p
    · rw [hkk, qf_us]; omega
    · rw [qf_un hkk]; exact c6 k hk2
  · by_cases hjj : j = 128 * v + p
    · by_cases hkk : k = 128 * v + p
      · omega
      · rw [hjj, qf_us, qf_un hkk] at e
        exact absurd e.symm (hpf k hk2)
    · rw [qf_un hjj] at g0 e
      by_cases hkk : k = 128 * v + p
      · rw [hkk, qf_us] at e
        exact absurd e (hpf j hj)
      · rw [qf_un hkk] at e
        exact c7 j k hj hk2 g0 e
  · by_cases hyf : y = fr
    · subst hyf
      rw [qf_us]
      exact ⟨fun _ => ⟨128 * v + p, hk v p hv hp, qf_us⟩, fun _ => rfl⟩
    · rw [qf_un hyf, c8 y hy]
      constructor
      · intro ⟨k, q1, q2⟩
        refine ⟨k, q1, ?_⟩
        rw [qf_un (fun e => by rw [e, hp0] at q2; omega)]
        exact q2
      · intro ⟨k, q1, q2⟩
        by_cases hkk : k = 128 * v + p
        · rw [hkk, qf_us] at q2; omega
        · rw [qf_un hkk] at q2; exact ⟨k, q1, q2⟩
  · by_cases hkk : k = 128 * v + p
    · rw [hkk, qa_us]; exact hmj
    · rw [qa_un hkk]
      obtain ⟨j, q1, q2⟩ := c9 k hk2
      exact ⟨j, by omega, q2⟩
/-- a piece that is there is written anew -/
theorem qh_mod (h : qh_ R F B N th pl mk nt bt us mm) {v p x : Nat} {m : Int32} (hv : v < 16) (hp : p < 128) (h0 : F v p ≠ 0) (hx : x ≠ 0) (hoth : ∀ w, w < 16 → w ≠ v → F w p ≠ x) (hfresh : ∀ k, k < 2048 → mk k ≠ m) (hmm : mm ≤ mm') (hmj : ∃ j, j ≤ mm' ∧ m = nI j) (hR : ∀ v, v < 16 → (R' v ≠ 0 ↔ R v ≠ 0)) (hF : ∀ w q, w < 16 → q < 128 → F' w q = if w = v ∧ q = p then x else F w q) (hB : ∀ w q i, w < 16 → q < 128 → i < 128 → ¬ (w = v ∧ q = p) → F w q ≠ 0 → B' (F w q) i = B (F w q) i) (hN : ∀ i, i < 32 → N' i = N i) (hb1 : ∀ k, k < 38400 → ¬ (128 * (pl (128 * v + p) - 1) ≤ k ∧ k < 128 * (pl (128 * v + p) - 1) + 128) → bt' k &&& nI 255 = bt k &&& nI 255) (hb2 : ∀ i, i < 128 → bt' (128 * (pl (128 * v + p) - 1) + i) &&& nI 255 = nI (B' x i)) : qh_ R' F' B' N' th pl (upd mk (128 * v + p) m) nt bt' us mm' := by
  obtain ⟨c1, c2, c3, c4, c5, c6, c7, c8, c9⟩ := h
  have hk : ∀ v p, v < 16 → p < 128 → 128 * v + p < 2048 := fun v p hv hp => by omega
  have hne : ∀ w q, q < 128 → ¬ (w = v ∧ q = p) → 128 * w + q ≠ 128 * v + p := fun w q hq hn e => hn (by omega)
  have hp0 : pl (128 * v + p) ≠ 0 := fun z => h0 ((c2 v p hv hp).mpr z)
  refine ⟨fun w hw => (hR w hw).trans (c1 w hw), fun w q hw hq => ?_, fun w q i hw hq hi g0 => ?_, fun w z q hw hz hq g0 g1 => ?_, fun i hi => by rw [hN i hi]; exact c5 i hi, c6, c7, c8, fun k hk2 => ?_⟩
  · rw [hF w q hw hq]
    by_cases hE : w = v ∧ q = p
    · rw [if_pos hE, hE.1, hE.2]
      exact ⟨fun z => absurd z hx, fun z => absurd z hp0⟩
    · rw [if_neg hE]
      exact c2 w q hw hq
  · rw [hF w q hw hq] at g0
    rw [hF w q hw hq]
    by_cases hE : w = v ∧ q = p
    · rw [if_pos hE, hE.1, hE.2]
      exact hb2 i hi
    · rw [if_neg hE] at g0
      rw [if_neg hE, hB w q i hw hq hi hE g0, ← c3 w q i hw hq hi g0]
      have q1 := c6 _ (hk w q hw hq)
      have q3 : pl (128 * w + q) ≠ 0 := fun z => g0 ((c2 w q hw hq).mpr z)
      have q4 : pl (128 * w + q) ≠ pl (128 * v + p) := fun e => hne w q hq hE (c7 _ _ (hk w q hw hq) (hk v p hv hp) q3 e)
      exact hb1 _ (by omega) (by omega)
  · rw [hF w q hw hq] at g0
    rw [hF z q hz hq] at g1
    rw [hF w q hw hq, hF z q hz hq]
    by_cases hq2 : q = p
    · subst hq2
      by_cases hw2 : w = v
      · subst hw2
        rw [if_pos ⟨rfl, rfl⟩, qa_us]
        by_cases hz2 : z = w
        · subst hz2
          rw [if_pos ⟨rfl, rfl⟩, qa_us]
          exact ⟨fun _ => rfl, fun _ => rfl⟩
        · rw [if_neg (fun e => hz2 e.1), qa_un (hne z q hq (fun e => hz2 e.1))]
          exact ⟨fun e => absurd e.symm (hoth z hz hz2), fun e => absurd e.symm (hfresh _ (hk z q hz hq))⟩
      · rw [if_neg (fun e => hw2 e.1)] at g0
        rw [if_neg (fun e => hw2 e.1), qa_un (hne w q hq (fun e => hw2 e.1))]
        by_cases hz2 : z = v
        · subst hz2
          rw [if_pos ⟨rfl, rfl⟩, qa_us]
          exact ⟨fun e => absurd e (hoth w hw hw2), fun e => absurd e (hfresh _ (hk w q hw hq))⟩
        · rw [if_neg (fun e => hz2 e.1)] at g1
          rw [if_neg (fun e => hz2 e.1), qa_un (hne z q hq (fun e => hz2 e.1))]
          exact c4 w z q hw hz hq g0 g1
    · rw [if_neg (fun e => hq2 e.2)] at g0 g1
      rw [if_neg (fun e => hq2 e.2), if_neg (fun e => hq2 e.2), qa_un (hne w q hq (fun e => hq2 e.2)), qa_un (hne z q hq (fun e => hq2 e.2))]
      exact c4 w z q hw hz hq g0 g1
  · by_cases hkk : k = 128 * v + p
    · rw [hkk, qa_us]; exact hmj
    · rw [qa_un hkk]
      obtain ⟨j, q1, q2⟩ := c9 k hk2
      exact ⟨j, by omega, q2⟩
/-- pieces go -/
theorem qh_rp (pl : Nat → Nat) (b : Nat) : ∀ n k, qm_rp pl b n k = if b ≤ k ∧ k < b + n then 0 else pl k := by
  intro n
  induction n with
  | zero => intro k; rw [if_neg (by omega)]; rfl
  | succ n ih =>
    intro k
    show va_up (qm_rp pl b n) (b + n) 0 k = _
    by_cases hk : k = b + n
    · rw [hk, qf_us, if_pos (by omega)]
    · rw [qf_un hk, ih k]
      by_cases h1 : b ≤ k ∧ k < b + n
      · rw [if_pos h1, if_pos (by omega)]
      · rw [if_neg h1, if_neg (by omega)]
theorem qh_ru (pl : Nat → Nat) (us : Nat → Bool) (b : Nat) : ∀ n x, qm_ru pl us b n x = true ↔ (us x = true ∧ ∀ k, b ≤ k → k < b + n → pl k ≠ x + 1) := by
  intro n
  induction n with
  | zero => intro x; exact ⟨fun h => ⟨h, fun k h1 h2 => by omega⟩, fun h => h.1⟩
  | succ n ih =>
    intro x
    show qm_cl (qm_rp pl b n) (qm_ru pl us b n) (b + n) x = true ↔ _
    unfold qm_cl
    have e : qm_rp pl b n (b + n) = pl (b + n) := by rw [qh_rp, if_neg (by omega)]
    rw [e]
    by_cases h0 : pl (b + n) = 0
    · rw [if_pos h0, ih x]
      refine ⟨fun h => ⟨h.1, fun k h1 h2 => ?_⟩, fun h => ⟨h.1, fun k h1 h2 => h.2 k h1 (by omega)⟩⟩
      by_cases hk : k = b + n
      · rw [hk, h0]; omega
      · exact h.2 k h1 (by omega)
    · rw [if_neg h0]
      by_cases hx : x = pl (b + n) - 1
      · rw [hx, qf_us]
        exact ⟨fun h => absurd h (by decide), fun h => absurd (by omega) (h.2 (b + n) (by omega) (by omega))⟩
      · rw [qf_un hx, ih x]
        refine ⟨fun h => ⟨h.1, fun k h1 h2 => ?_⟩, fun h => ⟨h.1, fun k h1 h2 => h.2 k h1 (by omega)⟩⟩
        by_cases hk : k = b + n
        · rw [hk]; omega
        · exact h.2 k h1 (by omega)
theorem qh_clear (h : qh_ R F B N th pl mk nt bt us mm) {b n : Nat} (hbn : b + n ≤ 2048) (hR : ∀ v, v < 16 → (R' v ≠ 0 ↔ th' v = true)) (hF : ∀ w q, w < 16 → q < 128 → F' w q = if b ≤ 128 * w + q ∧ 128 * w + q < b + n then 0 else F w q) (hB : ∀ w q i, w < 16 → q < 128 → i < 128 → F' w q ≠ 0 → B' (F w q) i = B (F w q) i) (hN : ∀ i, i < 32 → N' i = N i) : qh_ R' F' B' N' th' (qm_rp pl b n) mk nt bt (qm_ru pl us b n) mm := by
  obtain ⟨c1, c2, c3, c4, c5, c6, c7, c8, c9⟩ := h
  have hk : ∀ v p, v < 16 → p < 128 → 128 * v + p < 2048 := fun v p hv hp => by omega
  refine ⟨hR, fun w q hw hq => ?_, fun w q i hw hq hi g0 => ?_, fun w z q hw hz hq g0 g1 => ?_, fun i hi => by rw [hN i hi]; exact c5 i hi, fun k hk2 => ?_, fun j k hj hk2 g0 e => ?_, fun y hy => ?_, c9⟩
  · rw [hF w q hw hq, qh_rp]
    by_cases hE : b ≤ 128 * w + q ∧ 128 * w + q < b + n
    · rw [if_pos hE, if_pos hE]
    · rw [if_neg hE, if_neg hE]; exact c2 w q hw hq
  · have gb := hB w q i hw hq hi g0
    rw [hF w q hw hq] at g0
    rw [hF w q hw hq, qh_rp]
    by_cases hE : b ≤ 128 * w + q ∧ 128 * w + q < b + n
    · rw [if_pos hE] at g0; exact absurd rfl g0
    · rw [if_neg hE] at g0
      rw [if_neg hE, if_neg hE, gb]
      exact c3 w q i hw hq hi g0
  · rw [hF w q hw hq] at g0
    rw [hF z q hz hq] at g1
    rw [hF w q hw hq, hF z q hz hq]
    by_cases hE : b ≤ 128 * w + q ∧ 128 * w + q < b + n
    · rw [if_pos hE] at g0; exact absurd rfl g0
    · by_cases hE2 : b ≤ 128 * z + q ∧ 128 * z + q < b + n
      · rw [if_pos hE2] at g1; exact absurd rfl g1
      · rw [if_neg hE] at g0
        rw [if_neg hE2] at g1
        rw [if_neg hE, if_neg hE2]
        exact c4 w z q hw hz hq g0 g1
  · rw [qh_rp]
    have := c6 k hk2
    by_cases hE : b ≤ k ∧ k < b + n
    · rw [if_pos hE]; omega
    · rw [if_neg hE]; exact this
  · rw [qh_rp] at g0
    rw [qh_rp, qh_rp] at e
    by_cases hE : b ≤ j ∧ j < b + n
    · rw [if_pos hE] at g0; exact absurd rfl g0
    · rw [if_neg hE] at g0 e
      by_cases hE2 : b ≤ k ∧ k < b + n
      · rw [if_pos hE2] at e; exact absurd e g0
      · rw [if_neg hE2] at e; exact c7 j k hj hk2 g0 e
  · rw [qh_ru, c8 y hy]
    constructor
    · intro ⟨⟨k, q1, q2⟩, q3⟩
      refine ⟨k, q1, ?_⟩
      rw [qh_rp, if_neg (fun z => q3 k z.1 z.2 q2)]
      exact q2
    · intro ⟨k, q1, q2⟩
      rw [qh_rp] at q2
      by_cases hE : b ≤ k ∧ k < b + n
      · rw [if_pos hE] at q2; omega
      · rw [if_neg hE] at q2
        refine ⟨⟨k, q1, q2⟩, fun j h1 h2 e => ?_⟩
        have := c7 j k (by omega) q1 (by omega) (by omega)
        omega
end QH
/-- bytes -/
theorem qh_nar (x : Int32) : vp_nar .byte x &&& nI 255 = x &&& nI 255 := by
  show x.toInt8.toInt32 &&& nI 255 = x &&& nI 255
  rw [pk_and _ 8 (show (nI 255).toBitVec.toNat = 2 ^ 8 - 1 by decide), pk_and _ 8 (show (nI 255).toBitVec.toNat = 2 ^ 8 - 1 by decide)]
  congr 1
  show ((x.toBitVec.signExtend 8).signExtend 32).toNat % 2 ^ 8 = x.toBitVec.toNat % 2 ^ 8
  rw [BitVec.toNat_signExtend, BitVec.toNat_setWidth, BitVec.toNat_signExtend, BitVec.toNat_setWidth]
  have := x.toBitVec.isLt
  split <;> split <;> omega
theorem qh_nary {y : Nat} (hy : y < 256) : vp_nar .byte (nI y).toInt8.toInt32 &&& nI 255 = nI y := by
  rw [qh_nar]
  have h := qh_nar (nI y)
  have e : (nI y).toInt8.toInt32 = vp_nar .byte (nI y) := rfl
  rw [e, h, pk_andN (by omega) 8 (show (nI 255).toBitVec.toNat = 2 ^ 8 - 1 by decide), Nat.mod_eq_of_lt (by omega)]
theorem qh_nar0 : vp_nar .byte (nI 0) &&& nI 255 = nI 0 := by decide +kernel
theorem qh_fill {idx : Nat → Nat} {a : Nat} (hi : ∀ j, idx j = a + j) (z : Int32) (bt : Nat → Int32) : ∀ n k, qv_for n (fun g j => upd g (idx j) z) bt k = if a ≤ k ∧ k < a + n then z else bt k := by
  intro n
  induction n with
  | zero => intro k; rw [if_neg (by omega)]; rfl
  | succ n ih =>
    intro k
    rw [qv_forS]
    by_cases hk : k = a + n
    · rw [hk, hi, qa_us, if_pos (by omega)]
    · rw [hi, qa_un hk, ih k]
      by_cases h1 : a ≤ k ∧ k < a + n
      · rw [if_pos h1, if_pos (by omega)]
      · rw [if_neg h1, if_neg (by omega)]
theorem qh_cpy {a b : Nat} (bt : Nat → Int32) : ∀ n, (b + n ≤ a ∨ a + n ≤ b) → ∀ k, qv_for n (fun g j => upd g (a + j) (vp_nar .byte (g (b + j)))) bt k = if a ≤ k ∧ k < a + n then vp_nar .byte (bt (b + (k - a))) else bt k := by
  intro n
  induction n with
  | zero => intro _ k; rw [if_neg (by omega)]; rfl
  | succ n ih =>
    intro hd k
    rw [qv_forS]
    by_cases hk : k = a + n
    · rw [hk, qa_us, if_pos (by omega), ih (by omega), if_neg (by omega), show a + n - a = n by omega]
    · rw [qa_un hk, ih (by omega) k]
      by_cases h1 : a ≤ k ∧ k < a + n
      · rw [if_pos h1, if_pos (by omega)]
      · rw [if_neg h1, if_neg (by omega)]
/-! what is read is told alike -/
section QV
variable {f : Nat → Int64} {T : Nat} {th : Nat → Bool} {pl : Nat → Nat} {mk nt bt : Nat → Int32} {us : Nat → Bool} {mm : Nat} {lv ps : Nat → Nat}
theorem qh_size (Z : qz_ok f T lv ps 0) (h : qh_ (qv_rt f T) (qt_find f T) (qv_by f) (qv_nt f T) th pl mk nt bt us mm) {v : Nat} (hv : v < 16) : qi_ (qv_rt f T v ≠ 0) * qf_S (qv_lk f) (qv_rt f T v) = qm_ct pl (128 * v) 128 := by
  rw [qh_ct]
  by_cases h0 : qv_rt f T v = 0
  · rw [qi_f (p := qv_rt f T v ≠ 0) (fun q => q h0), Nat.zero_mul]
    refine (qs_zero (fun p hp => qi_f (fun q => q ?_))).symm
    refine (h.2.1 v p hv hp).mp ?_
    unfold qt_find qt_leaf
    rw [if_pos h0, if_pos rfl]
  · rw [qi_n h0, Nat.one_mul, qy_S h0]
    refine qs_congr (fun p hp => ?_)
    show qi_ _ = qi_ _
    have := h.2.1 v p hv hp
    by_cases h1 : qt_find f T v p = 0
    · rw [qi_f (p := qt_find f T v p ≠ 0) (fun q => q h1), qi_f (p := pl (128 * v + p) ≠ 0) (fun q => q (this.mp h1))]
    · rw [qi_n h1, qi_n (fun q => h1 (this.mpr q))]
theorem qh_sizeI (Z : qz_ok f T lv ps 0) (h : qh_ (qv_rt f T) (qt_find f T) (qv_by f) (qv_nt f T) th pl mk nt bt us mm) {v : Nat} (hv : v < 16) : qt_size f T v = nI (qm_ct pl (128 * v) 128) := by
  rw [qy_size Z hv, qh_size Z h hv]
theorem qh_tot (Z : qz_ok f T lv ps 0) (h : qh_ (qv_rt f T) (qt_find f T) (qv_by f) (qv_nt f T) th pl mk nt bt us mm) : qf_tot (qv_rt f T) (qv_lk f) = qs_ 16 (fun v => qm_ct pl (128 * v) 128) := qs_congr (fun v hv => qh_size Z h hv)
theorem qh_allI (Z : qz_ok f T lv ps 0) (h : qh_ (qv_rt f T) (qt_find f T) (qv_by f) (qv_nt f T) th pl mk nt bt us mm) : qt_all f T = nI (qs_ 16 (fun v => qm_ct pl (128 * v) 128)) := by
  rw [qy_all Z, qh_tot Z h]
theorem qh_next (h : qh_ (qv_rt f T) (qt_find f T) (qv_by f) (qv_nt f T) th pl mk nt bt us mm) {v : Nat} (hv : v < 16) : ∀ c i, i + c = 128 → qt_next f T v c i = qm_next pl v c i := by
  intro c
  induction c with
  | zero => intro i _; rfl
  | succ c ih =>
    intro i hi
    have := h.2.1 v i hv (by omega)
    by_cases h0 : qt_find f T v i = 0
    · rw [qt_next_go h0, qm_next_go (this.mp h0)]; exact ih _ (by omega)
    · rw [qt_next_hit h0, qm_next_hit (fun q => h0 (this.mpr q))]
theorem qh_shared (h : qh_ (qv_rt f T) (qt_find f T) (qv_by f) (qv_nt f T) th pl mk nt bt us mm) {v p : Nat} (hv : v < 16) (hp : p < 128) : qt_shared f T v p = qm_shared pl mk v p := by
  obtain ⟨c1, c2, c3, c4, c5, c6, c7, c8, c9⟩ := h
  unfold qt_shared qm_shared
  have h1 := c2 v p hv hp
  by_cases h0 : qt_find f T v p = 0
  · rw [if_pos h0, if_pos (h1.mp h0)]
  · rw [if_neg h0, if_neg (fun q => h0 (h1.mpr q))]
    have key : ∀ c i, i + c = 16 → qt_shr f T v p c i = qm_shr pl mk v p c i := by
      intro c
      induction c with
      | zero => intro i _; rfl
      | succ c ih =>
        intro i hi
        have h2 := c2 i p (by omega) hp
        by_cases hx : ¬ i = v ∧ qt_find f T i p = qt_find f T v p
        · have h3 : qt_find f T i p ≠ 0 := by rw [hx.2]; exact h0
          rw [qt_shr_hit hx, qm_shr_hit ⟨hx.1, fun q => h3 (h2.mpr q), (c4 i v p (by omega) hv hp h3 h0).mp hx.2⟩]
        · rw [qt_shr_go hx, qm_shr_go (fun q => hx ⟨q.1, (c4 i v p (by omega) hv hp (fun z => q.2.1 (h2.mp z)) h0).mpr q.2.2⟩)]
          exact ih _ (by omega)
    exact key 16 0 (by omega)
theorem qh_cnt (h : qh_ (qv_rt f T) (qt_find f T) (qv_by f) (qv_nt f T) th pl mk nt bt us mm) : ∀ i, i ≤ 16 → qt_cnt f T i = qm_tc th i := by
  intro i
  induction i with
  | zero => intro _; rfl
  | succ i ih =>
    intro hi
    have := h.1 i (by omega)
    by_cases h0 : qv_rt f T i = 0
    · rw [qt_cnt_z h0, qm_tc_z, ih (by omega)]
      cases hu : th i with
      | false => rfl
      | true => exact absurd h0 (this.mpr hu)
    · rw [qt_cnt_n h0, qm_tc_n (this.mp h0), ih (by omega)]
end QV
/-- how many go -/
theorem qh_gone (pl : Nat → Nat) (b lo : Nat) : ∀ n, lo + n ≤ 128 → qm_ct (qm_rp pl (b + lo) n) b 128 + qs_ n (fun j => qi_ (pl (b + lo + j) ≠ 0)) = qm_ct pl b 128 := by
  intro n
  induction n with
  | zero => intro _; rw [qs_0]; rfl
  | succ n ih =>
    intro hn
    have h1 := ih (by omega)
    rw [qs_s, ← h1, qh_ct, qh_ct]
    have h2 := qs_upd (n := 128) (k := lo + n) (f := fun j => qi_ (qm_rp pl (b + lo) n (b + j) ≠ 0)) (g := fun j => qi_ (qm_rp pl (b + lo) (n + 1) (b + j) ≠ 0)) (by omega) (fun j _ hj => by
      show qi_ _ = qi_ _
      rw [show qm_rp pl (b + lo) (n + 1) = va_up (qm_rp pl (b + lo) n) (b + lo + n) 0 from rfl, qf_un (show b + j ≠ b + lo + n by omega)])
    try dsimp only at h2
    rw [qh_rp, qh_rp, if_neg (by omega), if_pos (by omega), qi_f (p := (0 : Nat) ≠ 0) (fun q => q rfl), show b + (lo + n) = b + lo + n by omega] at h2
    try dsimp only
    omega
