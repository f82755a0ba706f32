/-! STEPS OF A TREE'S CHANGE: what stays -/
/-- all but the blocks X, that are not kept, and the tables of now, stays; of these the notes -/
def qr_fr (T K : Nat) (f f' : Nat → Int64) (X : Nat → Prop) : Prop := (∀ x, ¬ X x → (x < T ∨ T + 7 ≤ x) → qv_eq f' f x) ∧ (∀ x, X x → qf_po x ∧ qv_wy f K x = 0) ∧ ∀ i, i < 32 → qv_nt f' T i = qv_nt f T i
/-- the pieces stay, but those of E; what volumes are there stays -/
def qr_same (T : Nat) (f f' : Nat → Int64) (E : Nat → Nat → Prop) : Prop := (∀ w p, w < 16 → p < 128 → ¬ E w p → qt_find f' T w p = qt_find f T w p ∧ (qt_find f T w p ≠ 0 → qv_eq f' f (qt_find f T w p))) ∧ ∀ w, w < 16 → (qv_rt f' T w = 0 ↔ qv_rt f T w = 0)
theorem qr_fr.ktab {T K : Nat} {f f' : Nat → Int64} {X : Nat → Prop} (h : qr_fr T K f f' X) (hK : K + 7 ≤ 16) (hTK : T + 7 ≤ K ∨ K + 7 ≤ T) : ∀ k, k < 7 → qv_eq f' f (K + k) := fun k hk => h.1 (K + k) (fun hx => by have := (h.2.1 _ hx).1.1; omega) (by omega)
theorem qr_fr.kwy {T K : Nat} {f f' : Nat → Int64} {X : Nat → Prop} (h : qr_fr T K f f' X) (hK : K + 7 ≤ 16) (hTK : T + 7 ≤ K ∨ K + 7 ≤ T) (b : Nat) : qv_wy f' K b = qv_wy f K b := qe_wy_eq (fun k _ hk => h.ktab hK hTK k hk) b
theorem qr_fr.kept {T K : Nat} {f f' : Nat → Int64} {X : Nat → Prop} (h : qr_fr T K f f' X) (hT : T + 7 ≤ 16) (hK : K + 7 ≤ 16) (hTK : T + 7 ≤ K ∨ K + 7 ≤ T) {kl kp : Nat → Nat} {e : Nat} (hz : qz_ok f K kl kp e) : qz_ok f' K kl kp e := qz_frame hz (h.ktab hK hTK) (fun b hb => h.1 b (fun hx => by have := (h.2.1 _ hx).2; omega) (by have := (qe_wy_po hb).1; omega))
theorem qr_fr.keptB {T K : Nat} {f f' : Nat → Int64} {X : Nat → Prop} (h : qr_fr T K f f' X) (hT : T + 7 ≤ 16) : ∀ b, 0 < qv_wy f K b → qv_eq f' f b := fun b hb => h.1 b (fun hx => by have := (h.2.1 _ hx).2; omega) (by have := (qe_wy_po hb).1; omega)
theorem qr_fr.tr {T K : Nat} {f f' f'' : Nat → Int64} {X Y : Nat → Prop} (hK : K + 7 ≤ 16) (hTK : T + 7 ≤ K ∨ K + 7 ≤ T) (h : qr_fr T K f f' X) (h2 : qr_fr T K f' f'' Y) : qr_fr T K f f'' (fun x => X x ∨ Y x) :=
  ⟨fun x hx hr => (h2.1 x (fun q => hx (Or.inr q)) hr).tr (h.1 x (fun q => hx (Or.inl q)) hr), fun x hx => by
    rcases hx with q | q
    · exact h.2.1 x q
    · refine ⟨(h2.2.1 x q).1, ?_⟩
      rw [← h.kwy hK hTK]
      exact (h2.2.1 x q).2, fun i hi => (h2.2.2 i hi).trans (h.2.2 i hi)⟩
theorem qr_same.tr {T : Nat} {f f' f'' : Nat → Int64} {E : Nat → Nat → Prop} (h : qr_same T f f' E) (h2 : qr_same T f' f'' E) : qr_same T f f'' E :=
  ⟨fun w p hw hp hE => by
    obtain ⟨a1, a2⟩ := h.1 w p hw hp hE
    obtain ⟨b1, b2⟩ := h2.1 w p hw hp hE
    refine ⟨b1.trans a1, fun h0 => ?_⟩
    have := b2 (by rw [a1]; exact h0)
    rw [a1] at this
    exact this.tr (a2 h0), fun w hw => (h2.2 w hw).trans (h.2 w hw)⟩
/-- a found block is live data, below a live leaf, below a live root -/
theorem qr_found {f : Nat → Int64} {T : Nat} {lv ps : Nat → Nat} {db : Nat → Nat} (h : qf_ok (qv_rt f T) (qv_lk f) (qv_wy f T) lv ps db) {v p : Nat} (hv : v < 16) (hp : p < 128) (h0 : qt_find f T v p ≠ 0) :
    qv_rt f T v ≠ 0 ∧ 0 < qv_wy f T (qv_rt f T v) ∧ lv (qv_rt f T v) = 2 ∧ qt_leaf f T v p = qv_lk f (qv_rt f T v) (p / 32) ∧ qt_leaf f T v p ≠ 0 ∧ 0 < qv_wy f T (qt_leaf f T v p) ∧ lv (qt_leaf f T v p) = 1 ∧ qt_find f T v p = qv_lk f (qt_leaf f T v p) (p % 32) ∧ 0 < qv_wy f T (qt_find f T v p) ∧ lv (qt_find f T v p) = 0 ∧ ps (qt_find f T v p) = p % 32 ∧ ps (qt_leaf f T v p) = p / 32 := by
  have hl0 : qt_leaf f T v p ≠ 0 := fun e => h0 (by unfold qt_find; rw [if_pos e])
  have hr0 : qv_rt f T v ≠ 0 := fun e => hl0 (by unfold qt_leaf; rw [if_pos e])
  have e1 : qt_leaf f T v p = qv_lk f (qv_rt f T v) (p / 32) := by unfold qt_leaf; rw [if_neg hr0]
  have e2 : qt_find f T v p = qv_lk f (qt_leaf f T v p) (p % 32) := by
    unfold qt_find
    rw [if_neg hl0]
  obtain ⟨a1, a2, a3⟩ := qf_live_rt h hv hr0
  obtain ⟨b1, b2, b3, b4⟩ := qf_live_lk h a1 (i := p / 32) (by rw [a2, qf_nl2]; omega) (by rw [← e1]; exact hl0)
  rw [← e1] at b1 b2 b3 b4
  have b5 : lv (qt_leaf f T v p) = 1 := by omega
  obtain ⟨c1, c2, c3, c4⟩ := qf_live_lk h b1 (i := p % 32) (by rw [b5, qf_nl1]; omega) (by rw [← e2]; exact h0)
  rw [← e2] at c1 c2 c3 c4
  exact ⟨hr0, a1, a2, e1, hl0, b1, b5, e2, c1, by omega, c4, b4⟩
theorem qr_ownRoot {T K : Nat} (hT : T + 7 ≤ 16) (hK : K + 7 ≤ 16) (hTK : T + 7 ≤ K ∨ K + 7 ≤ T) {f : Nat → Int64} {h v : Nat} (h1 : 16 ≤ h) (h2 : h < 784) (hv : v < 16) {lv ps kl kp : Nat → Nat} (Z : qz_ok f T lv ps 0) (ZK : qz_st f K kl kp) (hr : qv_rt f T v ≠ 0) :
    ∃ (r : Nat) (f' : Nat → Int64) (h' : Nat) (lv' ps' : Nat → Nat), qt_ownRoot T K f h v = (r, f', h') ∧ 16 ≤ h' ∧ h' < 784 ∧ qz_ok f' T lv' ps' 0 ∧ qv_rt f' T v = r ∧ qf_po r ∧ qv_wy f' T r = 1 ∧ lv' r = 2 ∧ qr_fr T K f f' (fun x => x = r) ∧ qr_same T f f' (fun _ _ => False) ∧ (∀ i, i < 16 → qv_word f' r i = qv_word f (qv_rt f T v) i) ∧ qf_tot (qv_rt f' T) (qv_lk f') = qf_tot (qv_rt f T) (qv_lk f) := by
  obtain ⟨⟨ok, htot, hl2⟩, hs⟩ := id Z
  obtain ⟨hx, hw⟩ := qc_room Z.1 ZK
  obtain ⟨b1, b2, b3⟩ := qf_live_rt ok hv hr
  -- the way from the table is taken away
  have o0 : qf_ok (va_up (qv_rt f T) v 0) (qv_lk f) (qv_wy f T) lv ps (fun x => qi_ (qv_rt f T v = x)) := qf_set_rt ok hv (Or.inl rfl) (fun x hp => by
    try dsimp only
    rw [qi_f (p := 0 = x) (fun e => by rw [← e] at hp; exact qf_po0 hp)]
    omega)
  obtain ⟨c, f', h', lv', ps', e, g1, g2, a1, a2, a3, a4, a5, a6, a7, a8, a9, a10, a11, a12⟩ := qo_ownOr (j := ps (qv_rt f T v)) hT hK hTK (k := 2) (by omega) h1 h2 o0 (fun x _ => rfl) (fun _ => ⟨b3, b2, rfl⟩) (fun m i _ _ _ => rfl) hw hx
  have e1 : qt_own T K 2 f h (qv_rt f T v) = (c, f', h') := by rw [← e]; unfold qt_ownOr; rw [if_neg hr]
  have hc16 := a1.1
  have hcT : c < 65536 := by have := a1.2; omega
  -- the table leads to c
  have o1 := qf_set_rt (x := c) (db' := fun _ => 0) a4 hv (Or.inr ⟨a1, a5⟩) (fun x hp => by
    try dsimp only
    rw [qf_us, qi_f (p := 0 = x) (fun e => by rw [← e] at hp; exact qf_po0 hp)]
    by_cases hxc : x = c
    · rw [qi_t hxc, qi_t hxc.symm]
    · rw [qi_f hxc, qi_f (fun e => hxc e.symm)])
  have q1 : ∀ x, x ≠ T → qv_eq (qv_setL f' T v c) f' x := fun x hx => qv_eq_setL hx (by omega)
  have qA : ∀ x, x ≠ c → (x < T ∨ T + 7 ≤ x) → qv_eq (qv_setL f' T v c) f x := fun x hx hr => (q1 x (by omega)).tr (a9 x hx (by omega))
  have qT : qv_eq f' f T := a9 T (by omega) (by omega)
  have rtN : ∀ w, w < 16 → qv_rt (qv_setL f' T v c) T w = va_up (qv_rt f T) v c w := fun w hw2 => by
    unfold qv_rt
    rw [qv_lk_setL (by omega) (by omega) hcT]
    by_cases hwv : w = v
    · subst hwv; rw [if_pos rfl, qf_us]
    · rw [if_neg hwv, qf_un hwv]; exact qT.lk (by omega)
  have wyN : ∀ x, qv_wy (qv_setL f' T v c) T x = qv_wy f' T x := fun x => qe_wy_eq (fun k hk1 hk2 => q1 _ (by omega)) x
  have cW : ∀ i, i < 16 → qv_word (qv_setL f' T v c) c i = qv_word f (qv_rt f T v) i := fun i hi => by
    rw [q1 c (by omega) i hi, a8 i hi, if_neg hr]
  have cL : ∀ i, i < 64 → qv_lk (qv_setL f' T v c) c i = qv_lk f (qv_rt f T v) i := fun i hi => by
    unfold qv_lk; rw [cW (i / 4) (by omega)]
  have lkN : ∀ m i, 0 < qv_wy f' T m → i < 32 → qv_lk (qv_setL f' T v c) m i = va_up (qv_lk f) c (fun i => if qv_rt f T v = 0 then 0 else qv_lk f (qv_rt f T v) i) m i := fun m i hm hi => by
    by_cases hmc : m = c
    · subst hmc; rw [qf_us, if_neg hr]; exact cL i (by omega)
    · rw [qf_un hmc]
      exact (qA m hmc (by have := (qe_wy_po hm).1; omega)).lk (by omega)
  have o2 : qf_ok (qv_rt (qv_setL f' T v c) T) (qv_lk (qv_setL f' T v c)) (qv_wy (qv_setL f' T v c) T) lv' ps' (fun _ => 0) := qf_congr o1 (fun w hw2 => by
      rw [rtN w hw2]
      by_cases hwv : w = v
      · subst hwv; rw [qf_us, qf_us]
      · rw [qf_un hwv, qf_un hwv, qf_un hwv]) (fun m i hm hi => lkN m i hm (by have := qf_nl_le (lv' m); omega)) wyN
  have hl2' : ∀ b, lv' b ≤ 2 := fun b => by
    by_cases hbc : b = c
    · subst hbc; omega
    · rw [(a7 b hbc).1]; exact hl2 b
  -- what is in a live block
  have cnN : ∀ n, 0 < qv_wy f' T n → n ≠ c → qf_cn (qv_lk (qv_setL f' T v c)) n = qf_cn (qv_lk f) n := fun n hn hnc => qf_cn_congr (fun i hi => (qA n hnc (by have := (qe_wy_po hn).1; omega)).lk (by omega))
  have SN : ∀ n, 0 < qv_wy f' T n → n ≠ c → lv' n = 2 → qf_S (qv_lk (qv_setL f' T v c)) n = qf_S (qv_lk f) n := fun n hn hnc hln => qf_S_congr (fun i hi => (qA n hnc (by have := (qe_wy_po hn).1; omega)).lk (by omega)) (fun i hi h0 j hj => by
    obtain ⟨d1, d2, d3, -⟩ := qf_live_lk o2 (n := n) (i := i) (by rw [wyN]; exact hn) (by rw [hln, qf_nl2]; exact hi) h0
    exact (qA _ (fun e => by rw [e] at d2; omega) (by have := d3.1; omega)).lk (by omega))
  have Sc : qf_S (qv_lk (qv_setL f' T v c)) c = qf_S (qv_lk f) (qv_rt f T v) := by
    refine qs_congr (fun i hi => ?_)
    try dsimp only
    rw [cL i (by omega)]
    by_cases h0 : qv_lk f (qv_rt f T v) i = 0
    · rw [qi_f (fun q => q h0), Nat.zero_mul, Nat.zero_mul]
    · congr 1
      obtain ⟨d1, d2, d3, -⟩ := qf_live_lk o2 (n := c) (i := i) (by rw [wyN, a2]; omega) (by rw [a5, qf_nl2]; exact hi) (by rw [cL i (by omega)]; exact h0)
      rw [cL i (by omega)] at d1 d2 d3
      exact qf_cn_congr (fun j hj => (qA _ (fun e => by rw [e] at d2; omega) (by have := d3.1; omega)).lk (by omega))
  have totN : qf_tot (qv_rt (qv_setL f' T v c) T) (qv_lk (qv_setL f' T v c)) = qf_tot (qv_rt f T) (qv_lk f) := by
    refine qs_congr (fun w hw2 => ?_)
    try dsimp only
    rw [rtN w hw2]
    by_cases hwv : w = v
    · subst hwv
      rw [qf_us, Sc, qi_t hr, qi_n (fun e => by rw [e] at a1; exact qf_po0 a1)]
    · rw [qf_un hwv]
      by_cases h0 : qv_rt f T w = 0
      · rw [qi_f (fun q => q h0), Nat.zero_mul, Nat.zero_mul]
      · congr 1
        obtain ⟨d1, d2, d3⟩ := qf_live_rt o2 hw2 (by rw [rtN w hw2, qf_un hwv]; exact h0)
        rw [rtN w hw2, qf_un hwv, wyN] at d1
        rw [rtN w hw2, qf_un hwv] at d2
        by_cases hwc : qv_rt f T w = c
        · rw [hwc, Sc]
          rcases a10 with ⟨-, q⟩ | ⟨q, -⟩
          · rw [q]
          · obtain ⟨z, -, -⟩ := qf_live_rt ok hw2 h0
            rw [hwc] at z
            omega
        · exact SN _ d1 hwc d2
  -- what is found
  have leafN : ∀ w p, w < 16 → p < 128 → qt_leaf (qv_setL f' T v c) T w p = qt_leaf f T w p := fun w p hw2 hp => by
    unfold qt_leaf
    rw [rtN w hw2]
    by_cases hwv : w = v
    · subst hwv
      rw [qf_us, if_neg (fun e => by rw [e] at a1; exact qf_po0 a1), if_neg hr, cL _ (by omega)]
    · rw [qf_un hwv]
      by_cases h0 : qv_rt f T w = 0
      · rw [if_pos h0, if_pos h0]
      · rw [if_neg h0, if_neg h0]
        by_cases hwc : qv_rt f T w = c
        · rw [hwc, cL _ (by omega)]
          rcases a10 with ⟨-, q⟩ | ⟨q, -⟩
          · rw [q]
          · obtain ⟨z, -, -⟩ := qf_live_rt ok hw2 h0
            rw [hwc] at z
            omega
        · obtain ⟨z, -, z3⟩ := qf_live_rt ok hw2 h0
          exact (qA _ hwc (by have := z3.1; omega)).lk (by omega)
  have notRoot : ∀ x, 0 < qv_wy f T x → lv x ≠ 2 → x ≠ c := fun x hx2 hl e => by
    rcases a10 with ⟨-, q⟩ | ⟨q, -⟩
    · rw [e, q] at hl; exact hl b2
    · rw [e] at hx2; omega
  have findN : ∀ w p, w < 16 → p < 128 → qt_find (qv_setL f' T v c) T w p = qt_find f T w p := fun w p hw2 hp => by
    unfold qt_find
    rw [leafN w p hw2 hp]
    by_cases h0 : qt_leaf f T w p = 0
    · rw [if_pos h0, if_pos h0]
    · rw [if_neg h0, if_neg h0]
      have hr0 : qv_rt f T w ≠ 0 := fun e => h0 (by unfold qt_leaf; rw [if_pos e])
      have el : qt_leaf f T w p = qv_lk f (qv_rt f T w) (p / 32) := by unfold qt_leaf; rw [if_neg hr0]
      obtain ⟨z1, z2, -⟩ := qf_live_rt ok hw2 hr0
      obtain ⟨y1, y2, y3, -⟩ := qf_live_lk ok z1 (i := p / 32) (by rw [z2, qf_nl2]; omega) (by rw [← el]; exact h0)
      rw [← el] at y1 y2 y3
      exact (qA _ (notRoot _ y1 (by omega)) (by have := y3.1; omega)).lk (by omega)
  refine ⟨c, qv_setL f' T v c, h', lv', ps', ?_, g1, g2, ⟨⟨o2, by rw [totN]; exact htot, hl2'⟩, ⟨fun n hn hl => ?_, fun n hn hl => ?_⟩⟩, ?_, a1, by rw [wyN]; exact a2, a5, ⟨fun x hx hr => qA x hx hr, fun x hx => by rw [hx]; exact ⟨a1, a12⟩, fun i hi => ?_⟩, ⟨fun w p hw2 hp _ => ⟨findN w p hw2 hp, fun h0 => ?_⟩, fun w hw2 => ?_⟩, cW, totN⟩
  · unfold qt_ownRoot; rw [e1]
  · rw [wyN] at hn
    have hnc : n ≠ c := fun e => by rw [e] at hl; omega
    rw [(qA n hnc (by have := (qe_wy_po hn).1; omega)).sz, cnN n hn hnc]
    exact hs.1 n (a11 n hnc hn) (by rw [← (a7 n hnc).1]; exact hl)
  · rw [wyN] at hn
    by_cases hnc : n = c
    · subst hnc
      rw [Sc]
      have := hs.2 (qv_rt f T v) b1 b2
      rw [← this]
      exact cW 15 (by omega)
    · rw [(qA n hnc (by have := (qe_wy_po hn).1; omega)).sz, SN n hn hnc hl]
      exact hs.2 n (a11 n hnc hn) (by rw [← (a7 n hnc).1]; exact hl)
  · rw [rtN v hv, qf_us]
  · unfold qv_nt
    rw [qv_by_setL (by omega)]
    exact qT.by (by omega)
  · obtain ⟨-, -, -, -, -, -, -, -, d1, d2, -, -⟩ := qr_found ok hw2 hp h0
    exact qA _ (notRoot _ d1 (by omega)) (by have := (qe_wy_po d1).1; omega)
  · rw [rtN w hw2]
    by_cases hwv : w = v
    · subst hwv
      rw [qf_us]
      exact ⟨fun e => by rw [e] at a1; exact absurd a1 qf_po0, fun e => absurd e hr⟩
    · rw [qf_un hwv]
