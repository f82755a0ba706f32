/-! THE FOREST: roots (of 16 volumes), links of blocks, ways (counts), levels and places of blocks, debts (ways that are counted, but not there yet or no more).
rt v: the root of volume v (0: none); lk n i: link i of block n; wy b: the count of block b; lv b: 2 root, 1 leaf, 0 data; ps b: at which place a block stands in the nodes that lead to it; db b: debt -/
theorem qf_us {α : Type} {f : Nat → α} {k : Nat} {v : α} : va_up f k v k = v := va_up_self f k v
theorem qf_un {α : Type} {f : Nat → α} {k j : Nat} {v : α} (h : j ≠ k) : va_up f k v j = f j := va_up_ne f v h
abbrev qf_po (b : Nat) : Prop := 16 ≤ b ∧ b < 784
def qf_nl (k : Nat) : Nat := if k = 2 then 4 else if k = 1 then 32 else 0
theorem qf_nl2 : qf_nl 2 = 4 := rfl
theorem qf_nl1 : qf_nl 1 = 32 := rfl
theorem qf_nl0 : qf_nl 0 = 0 := rfl
def qf_lk (lk : Nat → Nat → Nat) (n i x : Nat) : Nat → Nat → Nat := va_up lk n (va_up (lk n) i x)
theorem qf_lk_s (lk : Nat → Nat → Nat) (n i x : Nat) : qf_lk lk n i x n i = x := by
  unfold qf_lk; rw [qf_us, qf_us]
theorem qf_lk_i (lk : Nat → Nat → Nat) (n i x j : Nat) (h : j ≠ i) : qf_lk lk n i x n j = lk n j := by
  unfold qf_lk; rw [qf_us, qf_un h]
theorem qf_lk_n (lk : Nat → Nat → Nat) (n i x m j : Nat) (h : m ≠ n) : qf_lk lk n i x m j = lk m j := by
  unfold qf_lk; rw [qf_un h]
/-- how many links of the block n lead to b, if it is live -/
def qf_out (lk : Nat → Nat → Nat) (wy lv : Nat → Nat) (n b : Nat) : Nat := if 0 < wy n then qs_ (qf_nl (lv n)) (fun i => qi_ (lk n i = b)) else 0
theorem qf_out_d {lk : Nat → Nat → Nat} {wy lv : Nat → Nat} {n b : Nat} (h : wy n = 0) : qf_out lk wy lv n b = 0 := by
  unfold qf_out; rw [if_neg (by omega)]
theorem qf_out_l {lk : Nat → Nat → Nat} {wy lv : Nat → Nat} {n b : Nat} (h : 0 < wy n) : qf_out lk wy lv n b = qs_ (qf_nl (lv n)) (fun i => qi_ (lk n i = b)) := by
  unfold qf_out; rw [if_pos h]
/-- how many ways lead to b -/
def qf_in (rt : Nat → Nat) (lk : Nat → Nat → Nat) (wy lv : Nat → Nat) (b : Nat) : Nat := qs_ 16 (fun v => qi_ (rt v = b)) + qs_ 784 (fun n => qf_out lk wy lv n b)
/-- a link of a node at place i, that leads somewhere, leads to a block one level below, whose place that is -/
def qf_li (lv ps : Nat → Nat) (k i x : Nat) : Prop := x = 0 ∨ (qf_po x ∧ lv x + 1 = k ∧ ps x = i)
def qf_ro (lv : Nat → Nat) (x : Nat) : Prop := x = 0 ∨ (qf_po x ∧ lv x = 2)
def qf_ok (rt : Nat → Nat) (lk : Nat → Nat → Nat) (wy lv ps db : Nat → Nat) : Prop :=
  (∀ v, v < 16 → qf_ro lv (rt v)) ∧
  (∀ n i, 0 < wy n → i < qf_nl (lv n) → qf_li lv ps (lv n) i (lk n i)) ∧
  (∀ b, qf_po b → wy b = qf_in rt lk wy lv b + db b) ∧
  (∀ b, ¬ qf_po b → wy b = 0)
theorem qf_live {rt : Nat → Nat} {lk : Nat → Nat → Nat} {wy lv ps db : Nat → Nat} (h : qf_ok rt lk wy lv ps db) {b : Nat} (hb : 0 < wy b) : qf_po b := by
  by_cases hp : qf_po b
  · exact hp
  · have := h.2.2.2 b hp; omega
theorem qf_po0 : ¬ qf_po 0 := fun h => by have := h.1; omega
theorem qf_po_lt {b : Nat} (h : qf_po b) : b < 784 := h.2
/-- a root that is there is live -/
theorem qf_live_rt {rt : Nat → Nat} {lk : Nat → Nat → Nat} {wy lv ps db : Nat → Nat} (h : qf_ok rt lk wy lv ps db) {v : Nat} (hv : v < 16) (h0 : rt v ≠ 0) : 0 < wy (rt v) ∧ lv (rt v) = 2 ∧ qf_po (rt v) := by
  rcases h.1 v hv with h1 | ⟨h1, h2⟩
  · exact absurd h1 h0
  · refine ⟨?_, h2, h1⟩
    rw [h.2.2.1 _ h1]
    have : qi_ (rt v = rt v) ≤ qs_ 16 (fun w => qi_ (rt w = rt v)) := qs_ge1 (f := fun w => qi_ (rt w = rt v)) hv
    rw [qi_t rfl] at this
    unfold qf_in
    omega
theorem qf_out_ge {lk : Nat → Nat → Nat} {wy lv : Nat → Nat} {n i : Nat} (hn : 0 < wy n) (hi : i < qf_nl (lv n)) : 1 ≤ qf_out lk wy lv n (lk n i) := by
  rw [qf_out_l hn]
  have : qi_ (lk n i = lk n i) ≤ qs_ (qf_nl (lv n)) (fun j => qi_ (lk n j = lk n i)) := qs_ge1 (f := fun j => qi_ (lk n j = lk n i)) hi
  rw [qi_t rfl] at this
  exact this
theorem qf_live_lk {rt : Nat → Nat} {lk : Nat → Nat → Nat} {wy lv ps db : Nat → Nat} (h : qf_ok rt lk wy lv ps db) {n i : Nat} (hn : 0 < wy n) (hi : i < qf_nl (lv n)) (h0 : lk n i ≠ 0) : 0 < wy (lk n i) ∧ lv (lk n i) + 1 = lv n ∧ qf_po (lk n i) ∧ ps (lk n i) = i := by
  rcases h.2.1 n i hn hi with h1 | ⟨h1, h2, h3⟩
  · exact absurd h1 h0
  · refine ⟨?_, h2, h1, h3⟩
    rw [h.2.2.1 _ h1]
    have h4 := qf_out_ge (lk := lk) hn hi
    have h5 : qf_out lk wy lv n (lk n i) ≤ qs_ 784 (fun m => qf_out lk wy lv m (lk n i)) := qs_ge1 (f := fun m => qf_out lk wy lv m (lk n i)) (qf_live h hn).2
    unfold qf_in
    omega
/-! one change at a time -/
/-- a root is set: the way to the old one becomes a debt, a debt to the new one becomes the way -/
theorem qf_set_rt {rt : Nat → Nat} {lk : Nat → Nat → Nat} {wy lv ps db db' : Nat → Nat} (h : qf_ok rt lk wy lv ps db) {v x : Nat} (hv : v < 16) (hx : qf_ro lv x) (hd : ∀ b, qf_po b → db' b + qi_ (x = b) = db b + qi_ (rt v = b)) : qf_ok (va_up rt v x) lk wy lv ps db' := by
  refine ⟨fun w hw => ?_, h.2.1, fun b hb => ?_, h.2.2.2⟩
  · by_cases hwv : w = v
    · subst hwv; rw [qf_us]; exact hx
    · rw [qf_un hwv]; exact h.1 w hw
  · have h1 := h.2.2.1 b hb
    have h2 := hd b hb
    have h3 := qs_upd (n := 16) (k := v) (f := fun w => qi_ (rt w = b)) (g := fun w => qi_ (va_up rt v x w = b)) hv (fun i _ hne => by show qi_ _ = qi_ _; rw [qf_un hne])
    rw [show qi_ (va_up rt v x v = b) = qi_ (x = b) by rw [qf_us]] at h3
    unfold qf_in at h1 ⊢
    omega
/-- a link of a live node is set -/
theorem qf_set_lk {rt : Nat → Nat} {lk : Nat → Nat → Nat} {wy lv ps db db' : Nat → Nat} (h : qf_ok rt lk wy lv ps db) {n i x : Nat} (hn : 0 < wy n) (hi : i < qf_nl (lv n)) (hx : qf_li lv ps (lv n) i x) (hd : ∀ b, qf_po b → db' b + qi_ (x = b) = db b + qi_ (lk n i = b)) : qf_ok rt (qf_lk lk n i x) wy lv ps db' := by
  have hpn := qf_live h hn
  refine ⟨h.1, fun m j hm hj => ?_, fun b hb => ?_, h.2.2.2⟩
  · by_cases hmn : m = n
    · subst hmn
      by_cases hji : j = i
      · subst hji; rw [qf_lk_s]; exact hx
      · rw [qf_lk_i _ _ _ _ _ hji]; exact h.2.1 m j hm hj
    · rw [qf_lk_n _ _ _ _ _ _ hmn]; exact h.2.1 m j hm hj
  · have h1 := h.2.2.1 b hb
    have h2 := hd b hb
    have h3 := qs_upd (n := qf_nl (lv n)) (k := i) (f := fun j => qi_ (lk n j = b)) (g := fun j => qi_ (qf_lk lk n i x n j = b)) hi (fun j _ hne => by show qi_ _ = qi_ _; rw [qf_lk_i _ _ _ _ _ hne])
    rw [show qi_ (qf_lk lk n i x n i = b) = qi_ (x = b) by rw [qf_lk_s]] at h3
    have h6 := qs_upd (n := 784) (k := n) (f := fun m => qf_out lk wy lv m b) (g := fun m => qf_out (qf_lk lk n i x) wy lv m b) hpn.2 (fun m _ hne => by
      show qf_out _ _ _ _ _ = qf_out _ _ _ _ _
      unfold qf_out
      have : (fun j => qi_ (lk m j = b)) = (fun j => qi_ (qf_lk lk n i x m j = b)) := funext fun j => by rw [qf_lk_n _ _ _ _ _ _ hne]
      rw [this])
    have h7 : qf_out lk wy lv n b = qs_ (qf_nl (lv n)) (fun j => qi_ (lk n j = b)) := qf_out_l hn
    have h8 : qf_out (qf_lk lk n i x) wy lv n b = qs_ (qf_nl (lv n)) (fun j => qi_ (qf_lk lk n i x n j = b)) := qf_out_l hn
    rw [h7, h8] at h6
    unfold qf_in at h1 ⊢
    omega
/-- counts change, but no block comes to life or dies: only debts change -/
theorem qf_set_wy {rt : Nat → Nat} {lk : Nat → Nat → Nat} {wy wy' lv ps db db' : Nat → Nat} (h : qf_ok rt lk wy lv ps db) (hl : ∀ b, 0 < wy' b ↔ 0 < wy b) (hd : ∀ b, qf_po b → wy' b + db b = wy b + db' b) : qf_ok rt lk wy' lv ps db' := by
  have ho : ∀ n b, qf_out lk wy' lv n b = qf_out lk wy lv n b := fun n b => by
    unfold qf_out
    by_cases hn : 0 < wy n
    · rw [if_pos hn, if_pos ((hl n).mpr hn)]
    · rw [if_neg hn, if_neg (fun q => hn ((hl n).mp q))]
  refine ⟨h.1, fun n i hn hi => h.2.1 n i ((hl n).mp hn) hi, fun b hb => ?_, fun b hb => ?_⟩
  · have h1 := h.2.2.1 b hb
    have h2 := hd b hb
    have h3 : qf_in rt lk wy' lv b = qf_in rt lk wy lv b := by
      unfold qf_in
      rw [qs_congr (fun n _ => ho n b)]
    omega
  · have h1 := h.2.2.2 b hb
    by_cases hq : 0 < wy' b
    · have := (hl b).mp hq; omega
    · omega
/-- a block dies: what its links led to becomes debt -/
theorem qf_kill {rt : Nat → Nat} {lk : Nat → Nat → Nat} {wy lv ps db : Nat → Nat} (h : qf_ok rt lk wy lv ps db) {n : Nat} (hn : wy n = 1) (hd : db n = 1) : qf_ok rt lk (va_up wy n 0) lv ps (fun b => if b = n then 0 else db b + qf_out lk wy lv n b) := by
  have hpn : qf_po n := qf_live h (by omega)
  have hin : qf_in rt lk wy lv n = 0 := by have := h.2.2.1 n hpn; omega
  have hself : qf_out lk wy lv n n = 0 := by
    unfold qf_in at hin
    have : qs_ 784 (fun m => qf_out lk wy lv m n) = 0 := by omega
    exact qs_all0 (f := fun m => qf_out lk wy lv m n) this hpn.2
  have hne : ∀ m, m ≠ n → (va_up wy n 0) m = wy m := fun m hm => qf_un hm
  have hin' : ∀ b, qf_in rt lk (va_up wy n 0) lv b + qf_out lk wy lv n b = qf_in rt lk wy lv b := fun b => by
    have h6 := qs_upd (n := 784) (k := n) (f := fun m => qf_out lk wy lv m b) (g := fun m => qf_out lk (va_up wy n 0) lv m b) hpn.2 (fun m _ hm => by
      show qf_out _ _ _ _ _ = qf_out _ _ _ _ _
      unfold qf_out
      rw [hne m hm])
    have h7 : qf_out lk (va_up wy n 0) lv n b = 0 := qf_out_d qf_us
    rw [h7] at h6
    unfold qf_in
    omega
  refine ⟨h.1, fun m i hm hi => ?_, fun b hb => ?_, fun b hb => ?_⟩
  · by_cases hmn : m = n
    · subst hmn; rw [qf_us] at hm; omega
    · rw [hne m hmn] at hm; exact h.2.1 m i hm hi
  · have h1 := hin' b
    by_cases hbn : b = n
    · subst hbn
      try dsimp only
      rw [qf_us, if_pos rfl]
      omega
    · try dsimp only
      rw [hne b hbn, if_neg hbn, h.2.2.1 b hb]
      omega
  · by_cases hbn : b = n
    · subst hbn; rw [qf_us]
    · rw [hne b hbn]; exact h.2.2.2 b hb
/-- a dead block comes to life, as a block of data with one debt -/
theorem qf_birth {rt : Nat → Nat} {lk : Nat → Nat → Nat} {wy lv ps db : Nat → Nat} (h : qf_ok rt lk wy lv ps db) {n : Nat} (hp : qf_po n) (hn : wy n = 0) : qf_ok rt lk (va_up wy n 1) (va_up lv n 0) ps (va_up db n 1) := by
  have hin : qf_in rt lk wy lv n = 0 ∧ db n = 0 := by have := h.2.2.1 n hp; omega
  have hrt : ∀ v, v < 16 → rt v ≠ n := fun v hv e => by
    have h1 : qs_ 16 (fun w => qi_ (rt w = n)) = 0 := by have := hin.1; unfold qf_in at this; omega
    have h2 := qs_all0 (f := fun w => qi_ (rt w = n)) h1 hv
    have h3 : qi_ (rt v = n) = 0 := h2
    rw [qi_t e] at h3
    omega
  have hlk : ∀ m i, 0 < wy m → i < qf_nl (lv m) → lk m i ≠ n := fun m i hm hi e => by
    have h1 : qs_ 784 (fun m => qf_out lk wy lv m n) = 0 := by have := hin.1; unfold qf_in at this; omega
    have h2 : qf_out lk wy lv m n = 0 := qs_all0 (f := fun m => qf_out lk wy lv m n) h1 (qf_live h hm).2
    have h3 := qf_out_ge (lk := lk) hm hi
    rw [e] at h3
    omega
  have hlvn : ∀ x, x ≠ n → va_up lv n 0 x = lv x := fun x hx => qf_un hx
  have ho : ∀ m b, qf_out lk (va_up wy n 1) (va_up lv n 0) m b = qf_out lk wy lv m b := fun m b => by
    by_cases hmn : m = n
    · subst hmn
      rw [qf_out_d hn, qf_out_l (by rw [qf_us]; omega), qf_us, qf_nl0, qs_0]
    · unfold qf_out
      rw [qf_un hmn, qf_un hmn]
  refine ⟨fun v hv => ?_, fun m i hm hi => ?_, fun b hb => ?_, fun b hb => ?_⟩
  · rcases h.1 v hv with h1 | ⟨h1, h2⟩
    · exact Or.inl h1
    · exact Or.inr ⟨h1, by rw [qf_un (hrt v hv)]; exact h2⟩
  · by_cases hmn : m = n
    · subst hmn; rw [qf_us, qf_nl0] at hi; omega
    · rw [qf_un hmn] at hm hi ⊢
      rcases h.2.1 m i hm hi with h1 | ⟨h1, h2, h3⟩
      · exact Or.inl h1
      · exact Or.inr ⟨h1, by rw [qf_un (hlk m i hm hi)]; exact h2, h3⟩
  · have h1 : qf_in rt lk (va_up wy n 1) (va_up lv n 0) b = qf_in rt lk wy lv b := by
      unfold qf_in
      rw [qs_congr (fun m _ => ho m b)]
    rw [h1]
    by_cases hbn : b = n
    · subst hbn; rw [qf_us, qf_us]; omega
    · rw [qf_un hbn, qf_un hbn]; exact h.2.2.1 b hb
  · by_cases hbn : b = n
    · subst hbn; exact absurd hp hb
    · rw [qf_un hbn]; exact h.2.2.2 b hb
/-- a block of data to which no way leads becomes a node of level k at place j: debts to what its links lead to become its ways -/
theorem qf_promote {rt : Nat → Nat} {lk : Nat → Nat → Nat} {wy lv ps db db' : Nat → Nat} (h : qf_ok rt lk wy lv ps db) {n k j : Nat} (hn : 0 < wy n) (h0 : lv n = 0) (hin : qf_in rt lk wy lv n = 0)
    (hlk : ∀ i, i < qf_nl k → lk n i ≠ n ∧ qf_li lv ps k i (lk n i)) (hd : ∀ b, qf_po b → db' b + qs_ (qf_nl k) (fun i => qi_ (lk n i = b)) = db b) : qf_ok rt lk wy (va_up lv n k) (va_up ps n j) db' := by
  have hp := qf_live h hn
  have hrt : ∀ v, v < 16 → rt v ≠ n := fun v hv e => by
    have h1 : qs_ 16 (fun w => qi_ (rt w = n)) = 0 := by unfold qf_in at hin; omega
    have h2 := qs_all0 (f := fun w => qi_ (rt w = n)) h1 hv
    have h3 : qi_ (rt v = n) = 0 := h2
    rw [qi_t e] at h3
    omega
  have hlk2 : ∀ m i, 0 < wy m → i < qf_nl (lv m) → lk m i ≠ n := fun m i hm hi e => by
    have h1 : qs_ 784 (fun m => qf_out lk wy lv m n) = 0 := by unfold qf_in at hin; omega
    have h2 : qf_out lk wy lv m n = 0 := qs_all0 (f := fun m => qf_out lk wy lv m n) h1 (qf_live h hm).2
    have h3 := qf_out_ge (lk := lk) hm hi
    rw [e] at h3
    omega
  have hli : ∀ {q i x : Nat}, x ≠ n → qf_li lv ps q i x → qf_li (va_up lv n k) (va_up ps n j) q i x := fun {q i x} hx hl => by
    rcases hl with h1 | ⟨h1, h2, h3⟩
    · exact Or.inl h1
    · exact Or.inr ⟨h1, by rw [qf_un hx]; exact h2, by rw [qf_un hx]; exact h3⟩
  refine ⟨fun v hv => ?_, fun m i hm hi => ?_, fun b hb => ?_, h.2.2.2⟩
  · rcases h.1 v hv with h1 | ⟨h1, h2⟩
    · exact Or.inl h1
    · exact Or.inr ⟨h1, by rw [qf_un (hrt v hv)]; exact h2⟩
  · by_cases hmn : m = n
    · subst hmn
      rw [qf_us] at hi ⊢
      exact hli (hlk i hi).1 (hlk i hi).2
    · rw [qf_un hmn] at hi ⊢
      exact hli (hlk2 m i hm hi) (h.2.1 m i hm hi)
  · have h1 := h.2.2.1 b hb
    have h2 := hd b hb
    have h6 := qs_upd (n := 784) (k := n) (f := fun m => qf_out lk wy lv m b) (g := fun m => qf_out lk wy (va_up lv n k) m b) hp.2 (fun m _ hm => by
      show qf_out _ _ _ _ _ = qf_out _ _ _ _ _
      unfold qf_out
      rw [qf_un hm])
    have h7 : qf_out lk wy lv n b = 0 := by
      rw [qf_out_l hn, h0, qf_nl0, qs_0]
    have h8 : qf_out lk wy (va_up lv n k) n b = qs_ (qf_nl k) (fun i => qi_ (lk n i = b)) := by
      rw [qf_out_l hn, qf_us]
    rw [h7, h8] at h6
    unfold qf_in at h1 ⊢
    omega
/-- a block of data to which no way leads may hold any links -/
theorem qf_write {rt : Nat → Nat} {lk lk' : Nat → Nat → Nat} {wy lv ps db : Nat → Nat} (h : qf_ok rt lk wy lv ps db) (hs : ∀ m i, 0 < wy m → i < qf_nl (lv m) → lk' m i = lk m i) : qf_ok rt lk' wy lv ps db := by
  have ho : ∀ m b, qf_out lk' wy lv m b = qf_out lk wy lv m b := fun m b => by
    by_cases hm : 0 < wy m
    · rw [qf_out_l hm, qf_out_l hm]
      exact qs_congr (fun i hi => by show qi_ _ = qi_ _; rw [hs m i hm hi])
    · rw [qf_out_d (by omega), qf_out_d (by omega)]
  refine ⟨h.1, fun m i hm hi => by rw [hs m i hm hi]; exact h.2.1 m i hm hi, fun b hb => ?_, h.2.2.2⟩
  have h1 : qf_in rt lk' wy lv b = qf_in rt lk wy lv b := by
    unfold qf_in
    rw [qs_congr (fun m _ => ho m b)]
  rw [h1]
  exact h.2.2.1 b hb
/-! release: one way less; with the last one those from the block go too -/
def qf_dec (wy : Nat → Nat) (b : Nat) : Nat → Nat := va_up wy b (wy b - 1)
/-- what f does for the places 0 .. n-1, one after the other -/
def qf_it (f : (Nat → Nat) → Nat → (Nat → Nat)) (n : Nat) (w : Nat → Nat) : Nat → Nat := match n with
  | 0 => w
  | k + 1 => f (qf_it f k w) k
def qf_rel (lk : Nat → Nat → Nat) (k : Nat) (wy : Nat → Nat) (b : Nat) : Nat → Nat := match k with
  | 0 => if wy b = 0 then wy else qf_dec wy b
  | k + 1 => if wy b = 0 then wy else if 1 < wy b then qf_dec wy b else qf_it (fun w i => qf_rel lk k w (lk b i)) (qf_nl (k + 1)) (qf_dec wy b)
theorem qf_dec_le (wy : Nat → Nat) (b x : Nat) : qf_dec wy b x ≤ wy x := by
  unfold qf_dec
  by_cases hxb : x = b
  · subst hxb; rw [qf_us]; omega
  · rw [qf_un hxb]; exact Nat.le_refl _
theorem qf_nl_le (k : Nat) : qf_nl k ≤ 32 := by
  unfold qf_nl
  by_cases h : k = 2
  · rw [if_pos h]; omega
  · rw [if_neg h]
    by_cases h : k = 1
    · rw [if_pos h]; omega
    · rw [if_neg h]; omega
theorem qf_it_le {f : (Nat → Nat) → Nat → (Nat → Nat)} (hf : ∀ w i x, f w i x ≤ w x) (n : Nat) (w : Nat → Nat) (x : Nat) : qf_it f n w x ≤ w x := by
  induction n with
  | zero => exact Nat.le_refl _
  | succ n ih => exact Nat.le_trans (hf _ _ _) ih
/-- counts only fall -/
theorem qf_rel_le (lk : Nat → Nat → Nat) : ∀ (k : Nat) (wy : Nat → Nat) (b x : Nat), qf_rel lk k wy b x ≤ wy x := by
  intro k
  induction k with
  | zero =>
    intro wy b x
    unfold qf_rel
    by_cases h : wy b = 0
    · rw [if_pos h]; exact Nat.le_refl _
    · rw [if_neg h]; exact qf_dec_le _ _ _
  | succ k ih =>
    intro wy b x
    unfold qf_rel
    by_cases h : wy b = 0
    · rw [if_pos h]; exact Nat.le_refl _
    · rw [if_neg h]
      by_cases h1 : 1 < wy b
      · rw [if_pos h1]; exact qf_dec_le _ _ _
      · rw [if_neg h1]; exact Nat.le_trans (qf_it_le (fun w i x => ih w _ x) _ _ _) (qf_dec_le _ _ _)
/-- only the links of the blocks that are reached matter -/
theorem qf_rel_lk {lk lk' : Nat → Nat → Nat} {wy0 : Nat → Nat} {P : Nat → Nat → Prop} (hl : ∀ k m i, 0 < wy0 m → P (k + 1) m → i < qf_nl (k + 1) → lk m i = lk' m i ∧ P k (lk m i)) : ∀ (k : Nat) (wy : Nat → Nat) (b : Nat), (∀ x, wy x ≤ wy0 x) → P k b → qf_rel lk k wy b = qf_rel lk' k wy b := by
  intro k
  induction k with
  | zero => intro wy b _ _; rfl
  | succ k ih =>
    intro wy b hle hP
    unfold qf_rel
    by_cases h : wy b = 0
    · rw [if_pos h, if_pos h]
    · rw [if_neg h, if_neg h]
      by_cases h1 : 1 < wy b
      · rw [if_pos h1, if_pos h1]
      · rw [if_neg h1, if_neg h1]
        have hb0 : 0 < wy0 b := by have := hle b; omega
        have loop : ∀ n, n ≤ qf_nl (k + 1) → qf_it (fun w i => qf_rel lk k w (lk b i)) n (qf_dec wy b) = qf_it (fun w i => qf_rel lk' k w (lk' b i)) n (qf_dec wy b) := by
          intro n
          induction n with
          | zero => intro _; rfl
          | succ n ihn =>
            intro hn
            show qf_rel lk k (qf_it (fun w i => qf_rel lk k w (lk b i)) n (qf_dec wy b)) (lk b n) = qf_rel lk' k (qf_it (fun w i => qf_rel lk' k w (lk' b i)) n (qf_dec wy b)) (lk' b n)
            obtain ⟨e1, e2⟩ := hl k b n hb0 hP (by omega)
            rw [← ihn (by omega), ← e1]
            refine ih _ _ (fun x => ?_) e2
            have h2 := qf_it_le (f := fun w i => qf_rel lk k w (lk b i)) (fun w i x => qf_rel_le lk k w _ x) n (qf_dec wy b) x
            have h3 := qf_dec_le wy b x
            have h4 := hle x
            omega
        exact loop _ (Nat.le_refl _)
theorem qf_rel_0 {lk : Nat → Nat → Nat} {k : Nat} {wy : Nat → Nat} {b : Nat} (h : wy b = 0) : qf_rel lk k wy b = wy := by
  cases k with
  | zero => unfold qf_rel; rw [if_pos h]
  | succ k => unfold qf_rel; rw [if_pos h]
theorem qf_rel_m {lk : Nat → Nat → Nat} {k : Nat} {wy : Nat → Nat} {b : Nat} (h : 1 < wy b) : qf_rel lk k wy b = qf_dec wy b := by
  cases k with
  | zero => unfold qf_rel; rw [if_neg (by omega)]
  | succ k => unfold qf_rel; rw [if_neg (by omega), if_pos h]
/-- the whole of it: the debt of one goes, counts only fall -/
theorem qf_rel_ok {rt : Nat → Nat} {lk : Nat → Nat → Nat} {lv ps : Nat → Nat} : ∀ (k : Nat) (wy db : Nat → Nat) (b : Nat), k ≤ 2 → qf_ok rt lk wy lv ps db → (b = 0 ∨ (qf_po b ∧ lv b = k ∧ 1 ≤ db b)) →
    qf_ok rt lk (qf_rel lk k wy b) lv ps (fun x => db x - qi_ (x = b)) ∧ ∀ x, qf_rel lk k wy b x ≤ wy x := by
  intro k
  induction k with
  | zero =>
    intro wy db b _ h hb
    rcases hb with rfl | ⟨hp, hl, hd⟩
    · have h0 : wy 0 = 0 := h.2.2.2 0 qf_po0
      rw [qf_rel_0 h0]
      refine ⟨?_, fun x => Nat.le_refl _⟩
      refine qf_set_wy h (fun x => Iff.rfl) (fun x hx => ?_)
      rw [qi_f (fun e => by subst e; exact qf_po0 hx)]
      omega
    · have hw := h.2.2.1 b hp
      by_cases h1 : 1 < wy b
      · rw [qf_rel_m h1]
        refine ⟨qf_set_wy h (fun x => ?_) (fun x hx => ?_), fun x => ?_⟩
        · unfold qf_dec
          by_cases hxb : x = b
          · subst hxb; rw [qf_us]; omega
          · rw [qf_un hxb]
        · unfold qf_dec
          by_cases hxb : x = b
          · subst hxb; rw [qf_us, qi_t rfl]; omega
          · rw [qf_un hxb, qi_f hxb]; omega
        · unfold qf_dec
          by_cases hxb : x = b
          · subst hxb; rw [qf_us]; omega
          · rw [qf_un hxb]; omega
      · have hw1 : wy b = 1 := by omega
        have hd1 : db b = 1 := by omega
        have hk := qf_kill h hw1 hd1
        have he : qf_rel lk 0 wy b = va_up wy b 0 := by
          unfold qf_rel qf_dec
          rw [if_neg (by omega), hw1]
        rw [he]
        refine ⟨?_, fun x => ?_⟩
        · refine qf_set_wy hk (fun x => Iff.rfl) (fun x hx => ?_)
          try dsimp only
          by_cases hxb : x = b
          · subst hxb; rw [if_pos rfl, qi_t rfl]; omega
          · rw [if_neg hxb, qi_f hxb, qf_out_l (by omega), hl, qf_nl0, qs_0]; rfl
        · by_cases hxb : x = b
          · subst hxb; rw [qf_us]; omega
          · rw [qf_un hxb]; omega
  | succ k ih =>
    intro wy db b hk2 h hb
    rcases hb with rfl | ⟨hp, hl, hd⟩
    · have h0 : wy 0 = 0 := h.2.2.2 0 qf_po0
      rw [qf_rel_0 h0]
      refine ⟨?_, fun x => Nat.le_refl _⟩
      refine qf_set_wy h (fun x => Iff.rfl) (fun x hx => ?_)
      rw [qi_f (fun e => by subst e; exact qf_po0 hx)]
      omega
    · have hw := h.2.2.1 b hp
      by_cases h1 : 1 < wy b
      · rw [qf_rel_m h1]
        refine ⟨qf_set_wy h (fun x => ?_) (fun x hx => ?_), fun x => ?_⟩
        · unfold qf_dec
          by_cases hxb : x = b
          · subst hxb; rw [qf_us]; omega
          · rw [qf_un hxb]
        · unfold qf_dec
          by_cases hxb : x = b
          · subst hxb; rw [qf_us, qi_t rfl]; omega
          · rw [qf_un hxb, qi_f hxb]; omega
        · unfold qf_dec
          by_cases hxb : x = b
          · subst hxb; rw [qf_us]; omega
          · rw [qf_un hxb]; omega
      · have hw1 : wy b = 1 := by omega
        have hd1 : db b = 1 := by omega
        have hkl := qf_kill h hw1 hd1
        have he : qf_rel lk (k + 1) wy b = qf_it (fun w i => qf_rel lk k w (lk b i)) (qf_nl (k + 1)) (va_up wy b 0) := by
          conv => lhs; unfold qf_rel
          rw [if_neg (by omega), if_neg h1]
          unfold qf_dec
          rw [hw1]
        rw [he]
        -- after i of the links: the debts of those behind them are left
        have loop : ∀ i, i ≤ qf_nl (k + 1) → qf_ok rt lk (qf_it (fun w i => qf_rel lk k w (lk b i)) i (va_up wy b 0)) lv ps (fun x => if x = b then 0 else db x + qs_ (qf_nl (k + 1) - i) (fun j => qi_ (lk b (i + j) = x))) ∧ ∀ x, qf_it (fun w i => qf_rel lk k w (lk b i)) i (va_up wy b 0) x ≤ va_up wy b 0 x := by
          intro i
          induction i with
          | zero =>
            intro _
            refine ⟨?_, fun x => Nat.le_refl _⟩
            refine qf_set_wy hkl (fun x => Iff.rfl) (fun x hx => ?_)
            try dsimp only
            by_cases hxb : x = b
            · rw [if_pos hxb, if_pos hxb]; rfl
            · rw [if_neg hxb, if_neg hxb, qf_out_l (by omega), hl]
              show _ + (_ + qs_ _ _) = _ + (_ + qs_ _ _)
              rw [qs_congr (f := fun j => qi_ (lk b j = x)) (g := fun j => qi_ (lk b (0 + j) = x)) (fun j _ => by show qi_ _ = qi_ _; rw [Nat.zero_add])]
              rfl
          | succ i ihi =>
            intro hi
            obtain ⟨g1, g2⟩ := ihi (by omega)
            have hlt : i < qf_nl (lv b) := by rw [hl]; omega
            have hsum : ∀ x, qs_ (qf_nl (k + 1) - i) (fun j => qi_ (lk b (i + j) = x)) = qi_ (lk b i = x) + qs_ (qf_nl (k + 1) - (i + 1)) (fun j => qi_ (lk b (i + 1 + j) = x)) := fun x => by
              rw [show qf_nl (k + 1) - i = 1 + (qf_nl (k + 1) - (i + 1)) by omega, qs_split 1]
              rw [show qs_ 1 (fun j => qi_ (lk b (i + j) = x)) = qi_ (lk b i = x) by rw [qs_s, qs_0]; simp]
              congr 1
              exact qs_congr (fun j _ => by show qi_ _ = qi_ _; rw [show i + (1 + j) = i + 1 + j by omega])
            have hne : lk b i ≠ b := by
              rcases h.2.1 b i (by omega) hlt with q | ⟨q1, q2, -⟩
              · rw [q]; intro e; rw [← e] at hp; exact qf_po0 hp
              · intro e; rw [e] at q2; omega
            have hc : lk b i = 0 ∨ (qf_po (lk b i) ∧ lv (lk b i) = k ∧ 1 ≤ (fun x => if x = b then 0 else db x + qs_ (qf_nl (k + 1) - i) (fun j => qi_ (lk b (i + j) = x))) (lk b i)) := by
              rcases h.2.1 b i (by omega) hlt with q | ⟨q1, q2, -⟩
              · exact Or.inl q
              · refine Or.inr ⟨q1, by omega, ?_⟩
                try dsimp only
                rw [if_neg hne, hsum, qi_t rfl]
                omega
            obtain ⟨r1, r2⟩ := ih _ _ (lk b i) (by omega) g1 hc
            refine ⟨?_, fun x => Nat.le_trans (r2 x) (g2 x)⟩
            refine qf_set_wy r1 (fun x => Iff.rfl) (fun x hx => ?_)
            try dsimp only
            by_cases hxb : x = b
            · rw [if_pos hxb, if_pos hxb]; simp [qf_it]
            · rw [if_neg hxb, if_neg hxb, hsum]
              show _ + (_ + (_ + _) - _) = _ + _
              by_cases hxl : x = lk b i
              · rw [qi_t hxl, qi_t hxl.symm]
                show qf_rel _ _ _ _ _ + _ = qf_rel _ _ _ _ _ + _
                omega
              · rw [qi_f hxl, qi_f (fun e => hxl e.symm)]
                show qf_rel _ _ _ _ _ + _ = qf_rel _ _ _ _ _ + _
                omega
        obtain ⟨g1, g2⟩ := loop (qf_nl (k + 1)) (Nat.le_refl _)
        refine ⟨?_, fun x => Nat.le_trans (g2 x) ?_⟩
        · refine qf_set_wy g1 (fun x => Iff.rfl) (fun x hx => ?_)
          try dsimp only
          by_cases hxb : x = b
          · rw [if_pos hxb, qi_t hxb, hxb]; omega
          · rw [if_neg hxb, qi_f hxb, Nat.sub_self, qs_0]; rfl
        · by_cases hxb : x = b
          · subst hxb; rw [qf_us]; omega
          · rw [qf_un hxb]; omega
