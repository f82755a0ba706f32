/-! THE AUDIT ANSWERS 0: ct counts how often a block was met; u is what is still to be met, w what was met from outside -/
theorem qa_us {f : Nat → Int32} {k : Nat} {x : Int32} : upd f k x k = x := if_pos rfl
theorem qa_un {f : Nat → Int32} {k j : Nat} {x : Int32} (h : j ≠ k) : upd f k x j = f j := if_neg h
theorem qa_fill (f : Nat → Int32) (x : Int32) {j : Nat} (hj : j < 768) : qv_fillI f x j = x := by
  have h : ∀ n, ∀ j, j < n → qv_for n (fun g i => upd g i x) f j = x := by
    intro n
    induction n with
    | zero => intro j hj; omega
    | succ n ih =>
      intro j hj
      rw [qv_forS]
      by_cases hjn : j = n
      · subst hjn; exact qa_us
      · rw [qa_un hjn]; exact ih j (by omega)
  exact h 768 j hj
theorem qs_first (c : Nat) (g : Nat → Nat) : qs_ (c + 1) g = g 0 + qs_ c (fun j => g (1 + j)) := by
  rw [Nat.add_comm c 1, qs_split 1 c g, qs_s, qs_0]
  omega
def qa_sg (f : Nat → Int64) (T : Nat) (lv ct : Nat → Nat) (x : Nat) : Nat := qs_ 784 (fun n => qi_ (0 < ct n) * qf_out (qv_lk f) (qv_wy f T) lv n x)
def qa_A (lv ct : Nat → Nat) (met : Nat → Int32) : Prop := ∀ b, qf_po b → met (b - 16) = nI (if ct b = 0 then 0 else lv b * 65536 + ct b)
def qa_J (f : Nat → Int64) (T : Nat) (lv ct u w : Nat → Nat) : Prop := ∀ x, qf_po x → ct x + u x = w x + qa_sg f T lv ct x
def qa_L (f : Nat → Int64) (T : Nat) (lv : Nat → Nat) (k : Nat) (lks : (Nat → Int32) → Nat → Nat × (Nat → Int32)) : Prop := ∀ (met : Nat → Int32) (ct u w : Nat → Nat) (b : Nat), qa_A lv ct met → qa_J f T lv ct (fun x => u x + qf_out (qv_lk f) (qv_wy f T) lv b x) w → (∀ x, w x + k ≤ 201) → 0 < qv_wy f T b → lv b = k → ∃ (met' : Nat → Int32) (ct' : Nat → Nat), lks met b = (0, met') ∧ qa_A lv ct' met' ∧ qa_J f T lv ct' u w
def qa_V (f : Nat → Int64) (T : Nat) (lv : Nat → Nat) (k : Nat) (vis : (Nat → Int32) → Nat → Nat × (Nat → Int32)) : Prop := ∀ (met : Nat → Int32) (ct u w : Nat → Nat) (b : Nat), qa_A lv ct met → qa_J f T lv ct u w → (∀ x, w x + k ≤ 200) → (b = 0 ∨ (0 < qv_wy f T b ∧ lv b = k)) → ∃ (met' : Nat → Int32) (ct' : Nat → Nat), vis met b = (0, met') ∧ qa_A lv ct' met' ∧ qa_J f T lv ct' u (fun x => w x + qi_ (b = x))
theorem qa_sg_le {f : Nat → Int64} {T : Nat} {lv ps : Nat → Nat} (ok : qf_ok (qv_rt f T) (qv_lk f) (qv_wy f T) lv ps (fun _ => 0)) {ct : Nat → Nat} {x : Nat} (hx : qf_po x) : qa_sg f T lv ct x ≤ 255 := by
  have h1 := ok.2.2.1 x hx
  have h2 : qa_sg f T lv ct x ≤ qs_ 784 (fun n => qf_out (qv_lk f) (qv_wy f T) lv n x) := qs_le (fun n _ => by
    show qi_ _ * _ ≤ _
    have := qi_le (0 < ct n)
    exact Nat.le_trans (Nat.mul_le_mul_right _ this) (Nat.le_of_eq (Nat.one_mul _)))
  have h3 := qv_wy_lt f T x
  unfold qf_in at h1
  try dsimp only at h1
  omega
theorem qa_body_ok {f : Nat → Int64} {T : Nat} {lv ps : Nat → Nat} (ok : qf_ok (qv_rt f T) (qv_lk f) (qv_wy f T) lv ps (fun _ => 0)) {k : Nat} (hk : k ≤ 2) {lks : (Nat → Int32) → Nat → Nat × (Nat → Int32)} (hL : qa_L f T lv k lks) : qa_V f T lv k (qa_body k lks) := by
  intro met ct u w b hA hJ hw hb
  by_cases h0 : b = 0
  · subst h0
    refine ⟨met, ct, ?_, hA, fun x hx => ?_⟩
    · unfold qa_body; rw [if_pos rfl]
    · try dsimp only
      rw [qi_f (p := 0 = x) (fun e => by rw [← e] at hx; exact qf_po0 hx)]
      exact hJ x hx
  · obtain ⟨hb1, hb2⟩ : 0 < qv_wy f T b ∧ lv b = k := by
      rcases hb with q | q
      · exact absurd q h0
      · exact q
    have hp := qe_wy_po hb1
    have h16 := hp.1
    have hm := hA b hp
    have hJb := hJ b hp
    have hwb := hw b
    have hsb := qa_sg_le (ct := ct) ok hp
    have hne : ∀ x, qf_po x → x ≠ b → x - 16 ≠ b - 16 := fun x hx hxb => by have := hx.1; omega
    by_cases hc : ct b = 0
    · rw [hc, if_pos rfl] at hm
      have hbd : qa_body k lks met b = lks (upd met (b - 16) (nI (k * 65536 + 1))) b := by
        unfold qa_body
        rw [if_neg h0, if_neg (fun q => q hp), if_neg (by rw [hm]; decide)]
      rw [hbd]
      have hs : ∀ x, qa_sg f T lv (va_up ct b 1) x = qa_sg f T lv ct x + qf_out (qv_lk f) (qv_wy f T) lv b x := fun x => by
        have h6 := qs_upd (n := 784) (k := b) (f := fun n => qi_ (0 < ct n) * qf_out (qv_lk f) (qv_wy f T) lv n x) (g := fun n => qi_ (0 < va_up ct b 1 n) * qf_out (qv_lk f) (qv_wy f T) lv n x) hp.2 (fun n _ hn => by
          show qi_ _ * _ = qi_ _ * _
          rw [qf_un hn])
        try dsimp only at h6
        rw [qf_us, qi_t (p := 0 < 1) (by omega), qi_f (p := 0 < ct b) (by omega)] at h6
        unfold qa_sg
        omega
      refine hL (upd met (b - 16) (nI (k * 65536 + 1))) (va_up ct b 1) u (fun x => w x + qi_ (b = x)) b (fun x hx => ?_) (fun x hx => ?_) (fun x => ?_) hb1 hb2
      · by_cases hxb : x = b
        · subst hxb
          rw [qa_us, qf_us, if_neg (by omega), hb2]
        · rw [qa_un (hne x hx hxb), qf_un hxb]
          exact hA x hx
      · have q := hJ x hx
        try dsimp only
        rw [hs x]
        by_cases hxb : x = b
        · subst hxb
          rw [qf_us, qi_t rfl]
          omega
        · rw [qf_un hxb, qi_f (p := b = x) (fun e => hxb e.symm)]
          omega
      · have := hw x
        have := qi_le (b = x)
        try dsimp only
        omega
    · rw [if_neg hc, hb2] at hm
      have hbd : qa_body k lks met b = (0, upd met (b - 16) (met (b - 16) + nI 1)) := by
        have q1 : 0 < met (b - 16) := by
          rw [hm]
          have q : nI 0 < nI (k * 65536 + ct b) := nI_lt (by omega) (by omega)
          rw [nI_0] at q
          exact q
        have q2 : met (b - 16) / nI 65536 = nI k := by
          rw [hm, pk_div (by omega) (by omega) (by omega), show (k * 65536 + ct b) / 65536 = k by omega]
        unfold qa_body
        rw [if_neg h0, if_neg (fun q => q hp), if_pos q1, if_pos q2]
      have hs : ∀ x, qa_sg f T lv (va_up ct b (ct b + 1)) x = qa_sg f T lv ct x := fun x => qs_congr (fun n _ => by
        show qi_ _ * _ = qi_ _ * _
        by_cases hnb : n = b
        · subst hnb
          rw [qf_us, qi_t (p := 0 < ct n + 1) (by omega), qi_t (p := 0 < ct n) (by omega)]
        · rw [qf_un hnb])
      refine ⟨_, va_up ct b (ct b + 1), hbd, fun x hx => ?_, fun x hx => ?_⟩
      · by_cases hxb : x = b
        · subst hxb
          rw [qa_us, qf_us, if_neg (by omega), hb2, hm, nI_add, Nat.add_assoc]
        · rw [qa_un (hne x hx hxb), qf_un hxb]
          exact hA x hx
      · have q := hJ x hx
        try dsimp only
        rw [hs x]
        by_cases hxb : x = b
        · subst hxb
          rw [qf_us, qi_t rfl]
          omega
        · rw [qf_un hxb, qi_f (p := b = x) (fun e => hxb e.symm)]
          omega
def qa_wt (f : Nat → Int64) (k x : Nat) : Nat := if x = 0 then 0 else if k = 1 then 1 else qf_cn (qv_lk f) x
theorem qa_lp_ok {f : Nat → Int64} {T : Nat} {lv ps : Nat → Nat} (Z : qz_ok f T lv ps 0) {k n : Nat} (hk : k + 1 ≤ 2) {vis : (Nat → Int32) → Nat → Nat × (Nat → Int32)} (hV : qa_V f T lv k vis) (hn : 0 < qv_wy f T n) (hl : lv n = k + 1) (u w : Nat → Nat) (hw : ∀ x, w x + k ≤ 200) : ∀ (c i : Nat) (met : Nat → Int32) (ct : Nat → Nat) (sz : Nat), i + c = qf_nl (k + 1) → qa_A lv ct met → qa_J f T lv ct (fun x => u x + qs_ c (fun j => qi_ (qv_lk f n (i + j) = x))) w →
    ∃ (met' : Nat → Int32) (ct' : Nat → Nat), qa_lp f (k + 1) n vis c i met (nI sz) = (0, met', nI (sz + qs_ c (fun j => qa_wt f (k + 1) (qv_lk f n (i + j))))) ∧ qa_A lv ct' met' ∧ qa_J f T lv ct' u w := by
  intro c
  induction c with
  | zero =>
    intro i met ct sz _ hA hJ
    refine ⟨met, ct, rfl, hA, fun x hx => ?_⟩
    have q := hJ x hx
    try dsimp only at q
    rw [qs_0] at q
    omega
  | succ c ih =>
    intro i met ct sz hi hA hJ
    have hlt : i < qf_nl (lv n) := by rw [hl]; omega
    have hy : qv_lk f n i = 0 ∨ (0 < qv_wy f T (qv_lk f n i) ∧ lv (qv_lk f n i) = k) := by
      by_cases h0 : qv_lk f n i = 0
      · exact Or.inl h0
      · obtain ⟨q1, q2, -, -⟩ := qf_live_lk Z.1.1 hn hlt h0
        exact Or.inr ⟨q1, by omega⟩
    obtain ⟨m1, c1, e1, e2, e3⟩ := hV met ct _ w (qv_lk f n i) hA hJ hw hy
    have hadd : nI sz + qa_add f (k + 1) (qv_lk f n i) = nI (sz + qa_wt f (k + 1) (qv_lk f n i)) := by
      rw [← nI_add]
      congr 1
      unfold qa_add qa_wt
      by_cases h0 : qv_lk f n i = 0
      · rw [if_pos h0, if_pos h0]; rfl
      · rw [if_neg h0, if_neg h0]
        by_cases h1 : k + 1 = 1
        · rw [if_pos h1, if_pos h1]; rfl
        · rw [if_neg h1, if_neg h1]
          obtain ⟨q1, q2, -, -⟩ := qf_live_lk Z.1.1 hn hlt h0
          rw [(Z.2.1 _ q1 (by omega)).1, lN_i]
    have hJ1 : qa_J f T lv c1 (fun x => u x + qs_ c (fun j => qi_ (qv_lk f n (i + 1 + j) = x))) w := fun x hx => by
      have q := e3 x hx
      try dsimp only at q
      rw [qs_first] at q
      have e : qs_ c (fun j => qi_ (qv_lk f n (i + (1 + j)) = x)) = qs_ c (fun j => qi_ (qv_lk f n (i + 1 + j) = x)) := qs_congr (fun j _ => by show qi_ _ = qi_ _; rw [Nat.add_assoc])
      try dsimp only at q
      rw [Nat.add_zero i, e] at q
      try dsimp only
      omega
    obtain ⟨m2, c2, g1, g2, g3⟩ := ih (i + 1) m1 c1 (sz + qa_wt f (k + 1) (qv_lk f n i)) (by omega) e2 hJ1
    refine ⟨m2, c2, ?_, g2, g3⟩
    rw [qa_lp_go (by rw [e1]), e1]
    try dsimp only
    rw [hadd, g1, qs_first]
    have e : qs_ c (fun j => qa_wt f (k + 1) (qv_lk f n (i + (1 + j)))) = qs_ c (fun j => qa_wt f (k + 1) (qv_lk f n (i + 1 + j))) := qs_congr (fun j _ => by show qa_wt _ _ _ = qa_wt _ _ _; rw [Nat.add_assoc])
    try dsimp only
    rw [Nat.add_zero i, e, Nat.add_assoc]
theorem qa_links_ok {f : Nat → Int64} {T : Nat} {lv ps : Nat → Nat} (Z : qz_ok f T lv ps 0) {k : Nat} (hk : k + 1 ≤ 2) {vis : (Nat → Int32) → Nat → Nat × (Nat → Int32)} (hV : qa_V f T lv k vis) : qa_L f T lv (k + 1) (qa_links f (k + 1) vis) := by
  intro met ct u w n hA hJ hw hn hl
  obtain ⟨m2, c2, g1, g2, g3⟩ := qa_lp_ok Z hk hV hn hl u w (fun x => by have := hw x; omega) (qf_nl (k + 1)) 0 met ct 0 (by omega) hA (fun x hx => by
    have q := hJ x hx
    try dsimp only at q
    rw [qf_out_l hn, hl] at q
    try dsimp only
    rw [qs_congr (f := fun j => qi_ (qv_lk f n (0 + j) = x)) (g := fun i => qi_ (qv_lk f n i = x)) (fun j _ => by show qi_ _ = qi_ _; rw [Nat.zero_add])]
    exact q)
  rw [nI_0] at g1
  refine ⟨m2, c2, ?_, g2, g3⟩
  rw [qa_links_done g1, if_pos]
  rw [Nat.zero_add]
  rcases (show k = 0 ∨ k = 1 by omega) with q | q
  · subst q
    have hs := Z.2.1 n hn hl
    have e : qs_ (qf_nl (0 + 1)) (fun j => qa_wt f (0 + 1) (qv_lk f n (0 + j))) = qf_cn (qv_lk f) n := qs_congr (fun j _ => by
      show qa_wt _ _ _ = qi_ _
      rw [Nat.zero_add j]
      unfold qa_wt
      by_cases h0 : qv_lk f n j = 0
      · rw [if_pos h0, qi_f (fun q => q h0)]
      · rw [if_neg h0, if_pos rfl, qi_t h0])
    have hc0 := hs.2 (fun e => by have := (qe_wy_po hn).1; omega)
    have hc1 := qf_cn_le (qv_lk f) n
    rw [e, hs.1, lN_i]
    exact ⟨rfl, fun q => nI_ne0 hc0 (by omega) q.2⟩
  · subst q
    have hs := Z.2.2 n hn hl
    have e : qs_ (qf_nl (1 + 1)) (fun j => qa_wt f (1 + 1) (qv_lk f n (0 + j))) = qf_S (qv_lk f) n := qs_congr (fun j _ => by
      show qa_wt _ _ _ = qi_ _ * _
      rw [Nat.zero_add j]
      unfold qa_wt
      by_cases h0 : qv_lk f n j = 0
      · rw [if_pos h0, qi_f (fun q => q h0), Nat.zero_mul]
      · rw [if_neg h0, if_neg (by omega), qi_t h0, Nat.one_mul])
    rw [e, hs, lN_i]
    exact ⟨rfl, fun q => by have := q.1; omega⟩
theorem qa_vis_ok {f : Nat → Int64} {T : Nat} {lv ps : Nat → Nat} (Z : qz_ok f T lv ps 0) : qa_V f T lv 2 (qa_vis f 2) := by
  have h0 : qa_V f T lv 0 (qa_vis f 0) := qa_body_ok (k := 0) (lks := fun m _ => (0, m)) Z.1.1 (by omega) (fun met ct u w b hA hJ _ hb hl => ⟨met, ct, rfl, hA, fun x hx => by
    have q := hJ x hx
    try dsimp only at q
    rw [qf_out_l hb, hl, qf_nl0, qs_0] at q
    omega⟩)
  have h1 : qa_V f T lv 1 (qa_vis f 1) := qa_body_ok (k := 1) (lks := qa_links f 1 (qa_vis f 0)) Z.1.1 (by omega) (qa_links_ok Z (k := 0) (by omega) h0)
  exact qa_body_ok (k := 2) (lks := qa_links f 2 (qa_vis f 1)) Z.1.1 (by omega) (qa_links_ok Z (k := 1) (by omega) h1)
theorem qa_vl_ok {f : Nat → Int64} {T : Nat} {lv ps : Nat → Nat} (Z : qz_ok f T lv ps 0) : ∀ (c i : Nat) (met : Nat → Int32) (ct : Nat → Nat), i + c = 16 → qa_A lv ct met → qa_J f T lv ct (fun _ => 0) (fun x => qs_ i (fun v => qi_ (qv_rt f T v = x))) →
    ∃ (met' : Nat → Int32) (ct' : Nat → Nat), qa_vl f T c i met = (0, met') ∧ qa_A lv ct' met' ∧ qa_J f T lv ct' (fun _ => 0) (fun x => qs_ 16 (fun v => qi_ (qv_rt f T v = x))) := by
  intro c
  induction c with
  | zero =>
    intro i met ct hi hA hJ
    have e : i = 16 := by omega
    subst e
    exact ⟨met, ct, rfl, hA, hJ⟩
  | succ c ih =>
    intro i met ct hi hA hJ
    have hb : qv_rt f T i = 0 ∨ (0 < qv_wy f T (qv_rt f T i) ∧ lv (qv_rt f T i) = 2) := by
      by_cases h0 : qv_rt f T i = 0
      · exact Or.inl h0
      · obtain ⟨q1, q2, -⟩ := qf_live_rt Z.1.1 (v := i) (by omega) h0
        exact Or.inr ⟨q1, q2⟩
    obtain ⟨m1, c1, e1, e2, e3⟩ := qa_vis_ok Z met ct (fun _ => 0) (fun x => qs_ i (fun v => qi_ (qv_rt f T v = x))) (qv_rt f T i) hA hJ (fun x => by
      have := qs_le (n := i) (f := fun v => qi_ (qv_rt f T v = x)) (g := fun _ => 1) (fun v _ => qi_le _)
      rw [qs_const] at this
      try dsimp only
      omega) hb
    obtain ⟨m2, c2, g1, g2, g3⟩ := ih (i + 1) m1 c1 (by omega) e2 (fun x hx => by
      have q := e3 x hx
      try dsimp only at q
      try dsimp only
      rw [qs_s]
      exact q)
    refine ⟨m2, c2, ?_, g2, g3⟩
    rw [qa_vl_go (by rw [e1]), e1]
    exact g1
theorem qa_cmp_ok {f : Nat → Int64} {T : Nat} {met : Nat → Int32} (h : ∀ i, i < 768 → met i - met i / nI 65536 * nI 65536 = nI (qv_wy f T (16 + i))) : ∀ c i, i + c = 768 → qa_cmp f T met c i = 0 := by
  intro c
  induction c with
  | zero => intro i _; rfl
  | succ c ih =>
    intro i hi
    rw [qa_cmp_go (h i (by omega))]
    exact ih (i + 1) (by omega)
/-- what the tables lead to was met -/
theorem qa_reach {f : Nat → Int64} {T : Nat} {lv ps ct : Nat → Nat} (ok : qf_ok (qv_rt f T) (qv_lk f) (qv_wy f T) lv ps (fun _ => 0)) (hJ : qa_J f T lv ct (fun _ => 0) (fun x => qs_ 16 (fun v => qi_ (qv_rt f T v = x)))) {n : Nat} (hn : 0 < qv_wy f T n) (hup : ∀ m, 0 < qv_wy f T m → lv m = lv n + 1 → 0 < ct m) : 0 < ct n := by
  have hp := qf_live ok hn
  have h1 := ok.2.2.1 n hp
  have h2 := hJ n hp
  try dsimp only at h1
  try dsimp only at h2
  unfold qf_in at h1
  by_cases h3 : 0 < qs_ 16 (fun v => qi_ (qv_rt f T v = n))
  · omega
  · obtain ⟨m, hm, h4⟩ := qs_ex (n := 784) (f := fun m => qf_out (qv_lk f) (qv_wy f T) lv m n) (by omega)
    try dsimp only at h4
    have h5 := qf_out_le ok (n := m) (b := n) (fun e => by rw [e] at hp; exact qf_po0 hp)
    have h6 := qi_pos (Nat.lt_of_lt_of_le h4 h5)
    have h7 := hup m h6.1 h6.2
    have h8 : qi_ (0 < ct m) * qf_out (qv_lk f) (qv_wy f T) lv m n ≤ qa_sg f T lv ct n := qs_ge1 (f := fun m => qi_ (0 < ct m) * qf_out (qv_lk f) (qv_wy f T) lv m n) hm
    rw [qi_t h7, Nat.one_mul] at h8
    omega
theorem qa_zero {f : Nat → Int64} {T : Nat} {lv ps : Nat → Nat} (Z : qz_ok f T lv ps 0) (met : Nat → Int32) : (qa_first f T met).1 = 0 := by
  obtain ⟨m, ct, e1, e2, e3⟩ := qa_vl_ok Z 16 0 (qv_fillI met (nI 0)) (fun _ => 0) (by omega) (fun b hb => by
    have := hb.1
    have := hb.2
    rw [qa_fill _ _ (by omega), if_pos rfl]) (fun x hx => by
    try dsimp only
    rw [qs_0, show qa_sg f T lv (fun _ => 0) x = 0 from qs_zero (fun n _ => by rw [qi_f (p := 0 < 0) (by omega), Nat.zero_mul])])
  have ok := Z.1.1
  have hl2 := Z.1.2.2
  have r2 : ∀ n, 0 < qv_wy f T n → lv n = 2 → 0 < ct n := fun n hn hl => qa_reach ok e3 hn (fun m _ hm => by have := hl2 m; omega)
  have r1 : ∀ n, 0 < qv_wy f T n → lv n = 1 → 0 < ct n := fun n hn hl => qa_reach ok e3 hn (fun m hm hm2 => r2 m hm (by omega))
  have r0 : ∀ n, 0 < qv_wy f T n → lv n = 0 → 0 < ct n := fun n hn hl => qa_reach ok e3 hn (fun m hm hm2 => r1 m hm (by omega))
  have r : ∀ n, 0 < qv_wy f T n → 0 < ct n := fun n hn => by
    have := hl2 n
    rcases (show lv n = 0 ∨ lv n = 1 ∨ lv n = 2 by omega) with q | q | q
    · exact r0 n hn q
    · exact r1 n hn q
    · exact r2 n hn q
  have hct : ∀ x, qf_po x → ct x = qv_wy f T x := fun x hx => by
    have h1 := ok.2.2.1 x hx
    have h2 := e3 x hx
    try dsimp only at h1
    try dsimp only at h2
    unfold qf_in at h1
    have h3 : qa_sg f T lv ct x = qs_ 784 (fun n => qf_out (qv_lk f) (qv_wy f T) lv n x) := qs_congr (fun n _ => by
      show qi_ _ * _ = _
      by_cases hn : 0 < qv_wy f T n
      · rw [qi_t (r n hn), Nat.one_mul]
      · rw [qf_out_d (by omega), Nat.mul_zero])
    omega
  rw [qa_first_done e1]
  refine qa_cmp_ok (fun i hi => ?_) 768 0 (by omega)
  have hp : qf_po (16 + i) := ⟨by omega, by omega⟩
  have h1 := e2 (16 + i) hp
  rw [show 16 + i - 16 = i by omega, hct _ hp] at h1
  have h2 := qv_wy_lt f T (16 + i)
  have h3 := hl2 (16 + i)
  rw [h1]
  by_cases h0 : qv_wy f T (16 + i) = 0
  · rw [if_pos h0, h0]
    exact pk_rem (a := 0) (d := 65536) (by omega) (by omega) (by omega)
  · rw [if_neg h0, pk_rem (by omega) (by omega) (by omega), show (lv (16 + i) * 65536 + qv_wy f T (16 + i)) % 65536 = qv_wy f T (16 + i) by omega]
