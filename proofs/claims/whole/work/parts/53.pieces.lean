/-! A PIECE IS OWNED, WRITTEN, DROPPED: the whole of it -/
theorem qw_mono {T : Nat} {f f' : Nat → Int64} {E E' : Nat → Nat → Prop} (h : qr_same T f f' E) (hE : ∀ w q, E w q → E' w q) : qr_same T f f' E' := ⟨fun w q hw hq hn => h.1 w q hw hq (fun z => hn (hE w q z)), h.2⟩
theorem qw_rf {T K : Nat} {f : Nat → Int64} : qr_fr T K f f (fun _ => False) := ⟨fun _ _ _ => qv_eq.rf, fun _ hx => hx.elim, fun _ _ => rfl⟩
theorem qw_srf {T : Nat} {f : Nat → Int64} {E : Nat → Nat → Prop} : qr_same T f f E := ⟨fun _ _ _ _ _ => ⟨rfl, fun _ => qv_eq.rf⟩, fun _ _ => Iff.rfl⟩
theorem qw_own {T K : Nat} (hT : T + 7 ≤ 16) (hK : K + 7 ≤ 16) (hTK : T + 7 ≤ K ∨ K + 7 ≤ T) {f : Nat → Int64} {h v p : Nat} (h1 : 16 ≤ h) (h2 : h < 784) (hv : v < 16) (hp : p < 128) {lv ps kl kp : Nat → Nat} (Z : qz_ok f T lv ps 0) (ZK : qz_ok f K kl kp 0) (hr : qv_rt f T v ≠ 0) (hroom : qt_find f T v p = 0 → qf_tot (qv_rt f T) (qv_lk f) < 300) :
    ∃ (c : Nat) (f' : Nat → Int64) (h' : Nat) (lv' ps' : Nat → Nat) (X : Nat → Prop), qt_ownPiece T K f h v p = (c, f', h') ∧ 16 ≤ h' ∧ h' < 784 ∧ qz_ok f' T lv' ps' 0 ∧ qf_po c ∧ qv_wy f' T c = 1 ∧ lv' c = 0 ∧ qv_wy f K c = 0 ∧ qt_find f' T v p = c ∧ qr_fr T K f f' X ∧ qr_same T f f' (fun w q => w = v ∧ q = p) ∧ (∀ k, k < 16 → qv_word f' c k = if qt_find f T v p = 0 then 0 else qv_word f (qt_find f T v p) k) ∧ (∀ w q, w < 16 → q < 128 → ¬ (w = v ∧ q = p) → qt_find f' T w q ≠ c) := by
  have ep : 32 * (p / 32) + p % 32 = p := by omega
  obtain ⟨r, f1, g1, l1, p1, e1, a1, a2, a3, a4, a5, a6, a7, a8, a9, a10, a11⟩ := qr_ownRoot hT hK hTK h1 h2 hv Z ZK.1 hr
  have ZK1 := a8.kept hT hK hTK ZK
  have k1 : qv_wy f1 K r = 0 := by rw [a8.kwy hK hTK]; exact (a8.2.1 r rfl).2
  obtain ⟨l, f2, g2, l2, p2, e2, b1, b2, b3, b4, b5, b6, b7, b8, b9, b10, b11, b12, b13, b14, b15, b16, b17⟩ := qr_ownLeaf hT hK hTK (i := p / 32) a1 a2 hv (by omega) a3 ZK1.1 a4 a5 a6 k1
  have ZK2 := b12.kept hT hK hTK ZK1
  have k2 : qv_wy f2 K r = 0 := by rw [b12.kwy hK hTK]; exact k1
  have k3 : qv_wy f2 K l = 0 := by rw [b12.kwy hK hTK]; exact (b12.2.1 l (Or.inl rfl)).2
  have hr0 : r ≠ 0 := fun e => by rw [e] at a5; exact qf_po0 a5
  have hl0 : l ≠ 0 := fun e => by rw [e] at b8; exact qf_po0 b8
  have hfd : qt_find f2 T v p = qv_lk f2 l (p % 32) := by
    have el : qt_leaf f2 T v p = l := by unfold qt_leaf; rw [b4, if_neg hr0, b7]
    unfold qt_find; rw [el, if_neg hl0]
  have hs2 := a9.tr b13
  obtain ⟨s1, s2⟩ := hs2.1 v p hv hp (fun q => q)
  obtain ⟨c, f3, g3, l3, p3, e3, c1, c2, c3, c4, c5, c6, c7, c8, c9, c10, c11, c12, c13⟩ := qr_ownData hT hK hTK (i := p / 32) (j := p % 32) b1 b2 hv (by omega) (by omega) b3 ZK2.1 b4 a5 b5 k2 b7 b8 b9 k3 (by
    rw [b15, a11, ← hfd, s1]
    by_cases h0 : qt_find f T v p = 0
    · rw [if_pos h0]; have := hroom h0; omega
    · rw [if_neg h0]; exact Z.1.2.1)
  rw [ep] at c8 c10 c13
  refine ⟨c, f3, g3, l3, p3, _, ?_, c1, c2, c3, c4, c5, c6, ?_, c8, (a8.tr hK hTK b12).tr hK hTK c9, (qw_mono hs2 (fun w q z => z.elim)).tr c10, fun k hk => ?_, c13⟩
  · unfold qt_ownPiece
    rw [e1]
    dsimp only
    rw [e2]
    dsimp only
    exact e3
  · rw [← a8.kwy hK hTK, ← b12.kwy hK hTK]; exact c7
  · rw [c11 k hk, ← hfd, s1]
    by_cases h0 : qt_find f T v p = 0
    · rw [if_pos h0, if_pos h0]
    · rw [if_neg h0, if_neg h0]; exact s2 h0 k hk
theorem qw_bytes {f : Nat → Int64} {c u y : Nat} (hc : c < 784) (hy : y < 256) : ∀ n, u + n ≤ 128 → (∀ x, x ≠ c → qv_eq (qv_for n (fun g9 j9 => qv_setB g9 c (u + j9) y) f) f x) ∧ ∀ i, i < 128 → qv_by (qv_for n (fun g9 j9 => qv_setB g9 c (u + j9) y) f) c i = if u ≤ i ∧ i < u + n then y else qv_by f c i := by
  intro n
  induction n with
  | zero => intro _; exact ⟨fun x _ => qv_eq.rf, fun i _ => by rw [if_neg (by omega), qv_for0]⟩
  | succ n ih =>
    intro hn
    obtain ⟨i1, i2⟩ := ih (by omega)
    rw [qv_forS]
    refine ⟨fun x hx => (qv_eq_setB hx (by omega)).tr (i1 x hx), fun i hi => ?_⟩
    rw [qv_by_setB hc (by omega) hy]
    by_cases hin : i = u + n
    · rw [if_pos hin, if_pos (by omega)]
    · rw [if_neg hin, i2 i hi]
      by_cases h3 : u ≤ i ∧ i < u + n
      · rw [if_pos h3, if_pos (by omega)]
      · rw [if_neg h3, if_neg (by omega)]
/-- what is in a block of data may change -/
theorem qw_data {f F : Nat → Int64} {T : Nat} {lv ps : Nat → Nat} {c : Nat} (hT : T + 7 ≤ 16) (Z : qz_ok f T lv ps 0) (hc : qf_po c) (hl : lv c = 0) (he : ∀ x, x ≠ c → qv_eq F f x) : qz_ok F T lv ps 0 ∧ (∀ w q, w < 16 → q < 128 → qt_find F T w q = qt_find f T w q) ∧ (∀ w, w < 16 → qv_rt F T w = qv_rt f T w) := by
  obtain ⟨⟨ok, htot, hl2⟩, hs⟩ := id Z
  have hc16 := hc.1
  have hrt : ∀ v, v < 16 → qv_rt F T v = qv_rt f T v := fun v hv => (he T (by omega)).lk (by omega)
  have hwy : ∀ b, qv_wy F T b = qv_wy f T b := fun b => qe_wy_eq (fun k _ hk => he _ (by omega)) b
  have hlk : ∀ n i, n ≠ c → i < 64 → qv_lk F n i = qv_lk f n i := fun n i hn hi => (he n hn).lk hi
  have hnc : ∀ n, lv n ≠ 0 → n ≠ c := fun n h e => h (by rw [e]; exact hl)
  have o2 := qf_congr (rt' := qv_rt F T) (lk' := qv_lk F) (wy' := qv_wy F T) ok hrt (fun m i hm hi => hlk m i (hnc m (fun e => by rw [e, qf_nl0] at hi; omega)) (by have := qf_nl_le (lv m); omega)) hwy
  have hcn : ∀ n, lv n = 1 → qf_cn (qv_lk F) n = qf_cn (qv_lk f) n := fun n h => qf_cn_congr (fun i hi => hlk n i (hnc n (by omega)) (by omega))
  have hS : ∀ n, 0 < qv_wy f T n → lv n = 2 → qf_S (qv_lk F) n = qf_S (qv_lk f) n := fun n hn h2 => qf_S_congr (fun i hi => hlk n i (hnc n (by omega)) (by omega)) (fun i hi h0 j hj => by
    rw [hlk n i (hnc n (by omega)) (by omega)] at h0 ⊢
    obtain ⟨-, q2, -, -⟩ := qf_live_lk ok hn (i := i) (by rw [h2]; exact hi) h0
    exact hlk _ j (hnc _ (by omega)) (by omega))
  refine ⟨⟨⟨o2, ?_, hl2⟩, ⟨fun n hn h1 => ?_, fun n hn h2 => ?_⟩⟩, fun w q hw hq => ?_, hrt⟩
  · have e1 : qf_tot (qv_rt F T) (qv_lk F) = qf_tot (qv_rt f T) (qv_lk f) := qs_congr (fun v hv => by
      show qi_ _ * _ = qi_ _ * _
      rw [hrt v hv]
      by_cases h0 : qv_rt f T v = 0
      · rw [qi_f (fun q => q h0), Nat.zero_mul, Nat.zero_mul]
      · obtain ⟨q1, q2, -⟩ := qf_live_rt ok hv h0
        rw [hS _ q1 q2])
    rw [e1]; exact htot
  · rw [hwy] at hn
    rw [(he n (hnc n (by omega))).sz, hcn n h1]
    exact hs.1 n hn h1
  · rw [hwy] at hn
    rw [(he n (hnc n (by omega))).sz, hS n hn h2]
    exact hs.2 n hn h2
  · by_cases h0 : qv_rt f T w = 0
    · have e1 : qt_leaf F T w q = 0 := by unfold qt_leaf; rw [hrt w hw, if_pos h0]
      have e2 : qt_leaf f T w q = 0 := by unfold qt_leaf; rw [if_pos h0]
      unfold qt_find; rw [if_pos e1, if_pos e2]
    · obtain ⟨q1, q2, -⟩ := qf_live_rt ok hw h0
      have e2 : qt_leaf f T w q = qv_lk f (qv_rt f T w) (q / 32) := by unfold qt_leaf; rw [if_neg h0]
      have e1 : qt_leaf F T w q = qv_lk f (qv_rt f T w) (q / 32) := by unfold qt_leaf; rw [hrt w hw, if_neg h0]; exact hlk _ _ (hnc _ (by omega)) (by omega)
      unfold qt_find
      rw [e1, e2]
      by_cases h3 : qv_lk f (qv_rt f T w) (q / 32) = 0
      · rw [if_pos h3, if_pos h3]
      · rw [if_neg h3, if_neg h3]
        obtain ⟨-, z2, -, -⟩ := qf_live_lk ok q1 (i := q / 32) (by rw [q2, qf_nl2]; omega) h3
        exact hlk _ _ (hnc _ (by omega)) (by omega)
theorem qw_write {T K : Nat} (hT : T + 7 ≤ 16) (hK : K + 7 ≤ 16) (hTK : T + 7 ≤ K ∨ K + 7 ≤ T) {f : Nat → Int64} {h v p u n y : Nat} (h1 : 16 ≤ h) (h2 : h < 784) (hv : v < 16) (hp : p < 128) (hu : u + n ≤ 128) (hy : y < 256) {lv ps kl kp : Nat → Nat} (Z : qz_ok f T lv ps 0) (ZK : qz_ok f K kl kp 0) (hr : qv_rt f T v ≠ 0) (hroom : qt_find f T v p = 0 → qf_tot (qv_rt f T) (qv_lk f) < 300) :
    ∃ (c : Nat) (F : Nat → Int64) (h' : Nat) (lv' ps' : Nat → Nat) (X : Nat → Prop), (qt_ownPiece T K f h v p).2.2 = h' ∧ qv_for n (fun g9 j9 => qv_setB g9 (qt_ownPiece T K f h v p).1 (u + j9) y) (qt_ownPiece T K f h v p).2.1 = F ∧ 16 ≤ h' ∧ h' < 784 ∧ qz_ok F T lv' ps' 0 ∧ qr_fr T K f F X ∧ c ≠ 0 ∧ qt_find F T v p = c ∧ (∀ i, i < 128 → qv_by F c i = if u ≤ i ∧ i < u + n then y else if qt_find f T v p = 0 then 0 else qv_by f (qt_find f T v p) i) ∧ qr_same T f F (fun w q => w = v ∧ q = p) ∧ (∀ w q, w < 16 → q < 128 → ¬ (w = v ∧ q = p) → qt_find f T w q ≠ c) := by
  obtain ⟨c, f3, g3, l3, p3, X, e3, c1, c2, c3, c4, c5, c6, c7, c8, c9, c10, c11, c13⟩ := qw_own hT hK hTK h1 h2 hv hp Z ZK hr hroom
  have hc0 : c ≠ 0 := fun e => by rw [e] at c4; exact qf_po0 c4
  obtain ⟨i1, i2⟩ := qw_bytes (f := f3) (c := c) (u := u) (y := y) c4.2 hy n hu
  obtain ⟨d1, d2, d3⟩ := qw_data hT c3 c4 c6 i1
  have fr2 : qr_fr T K f3 (qv_for n (fun g9 j9 => qv_setB g9 c (u + j9) y) f3) (fun x => x = c) := ⟨fun x hx _ => i1 x hx, fun x hx => by rw [hx]; exact ⟨c4, by rw [c9.kwy hK hTK]; exact c7⟩, fun i hi => (i1 T (by have := c4.1; omega)).by (by omega)⟩
  refine ⟨c, qv_for n (fun g9 j9 => qv_setB g9 c (u + j9) y) f3, g3, l3, p3, _, by rw [e3], by rw [e3], c1, c2, d1, c9.tr hK hTK fr2, hc0, by rw [d2 v p hv hp]; exact c8, fun i hi => ?_, ⟨fun w q hw hq hE => ?_, fun w hw => ?_⟩, fun w q hw hq hE => ?_⟩
  · rw [i2 i hi]
    have e : qv_by f3 c i = if qt_find f T v p = 0 then 0 else qv_by f (qt_find f T v p) i := by
      unfold qv_by
      rw [c11 (i / 8) (by omega)]
      by_cases h0 : qt_find f T v p = 0
      · rw [if_pos h0, if_pos h0, qb_0, Nat.zero_div, Nat.zero_mod]
      · rw [if_neg h0, if_neg h0]
    rw [e]
  · obtain ⟨q1, q2⟩ := c10.1 w q hw hq hE
    refine ⟨(d2 w q hw hq).trans q1, fun h0 => (i1 _ ?_).tr (q2 h0)⟩
    rw [← q1]; exact c13 w q hw hq hE
  · rw [d3 w hw]; exact c10.2 w hw
  · rw [← (c10.1 w q hw hq hE).1]; exact c13 w q hw hq hE
theorem qw_drop {T K : Nat} (hT : T + 7 ≤ 16) (hK : K + 7 ≤ 16) (hTK : T + 7 ≤ K ∨ K + 7 ≤ T) {f : Nat → Int64} {h v p : Nat} (h1 : 16 ≤ h) (h2 : h < 784) (hv : v < 16) (hp : p < 128) {lv ps kl kp : Nat → Nat} (Z : qz_ok f T lv ps 0) (ZK : qz_ok f K kl kp 0) (hr : qv_rt f T v ≠ 0) (h0 : qt_find f T v p ≠ 0) :
    ∃ (f' : Nat → Int64) (h' : Nat) (lv' ps' : Nat → Nat) (X : Nat → Prop), qt_dropPiece T K f h v p = (f', h') ∧ 16 ≤ h' ∧ h' < 784 ∧ qz_ok f' T lv' ps' 0 ∧ qr_fr T K f f' X ∧ qt_find f' T v p = 0 ∧ qr_same T f f' (fun w q => w = v ∧ q = p) := by
  have ep : 32 * (p / 32) + p % 32 = p := by omega
  obtain ⟨r, f1, g1, l1, p1, e1, a1, a2, a3, a4, a5, a6, a7, a8, a9, a10, a11⟩ := qr_ownRoot hT hK hTK h1 h2 hv Z ZK.1 hr
  have ZK1 := a8.kept hT hK hTK ZK
  have k1 : qv_wy f1 K r = 0 := by rw [a8.kwy hK hTK]; exact (a8.2.1 r rfl).2
  obtain ⟨l, f2, g2, l2, p2, e2, b1, b2, b3, b4, b5, b6, b7, b8, b9, b10, b11, b12, b13, b14, b15, b16, b17⟩ := qr_ownLeaf hT hK hTK (i := p / 32) a1 a2 hv (by omega) a3 ZK1.1 a4 a5 a6 k1
  have k2 : qv_wy f2 K r = 0 := by rw [b12.kwy hK hTK]; exact k1
  have k3 : qv_wy f2 K l = 0 := by rw [b12.kwy hK hTK]; exact (b12.2.1 l (Or.inl rfl)).2
  have hr0 : r ≠ 0 := fun e => by rw [e] at a5; exact qf_po0 a5
  have hl0 : l ≠ 0 := fun e => by rw [e] at b8; exact qf_po0 b8
  have hfd : qt_find f2 T v p = qv_lk f2 l (p % 32) := by
    have el : qt_leaf f2 T v p = l := by unfold qt_leaf; rw [b4, if_neg hr0, b7]
    unfold qt_find; rw [el, if_neg hl0]
  have hs2 := a9.tr b13
  obtain ⟨s1, s2⟩ := hs2.1 v p hv hp (fun q => q)
  have hb0 : qv_lk f2 l (p % 32) ≠ 0 := by rw [← hfd, s1]; exact h0
  obtain ⟨F, e3, c1, c2, c3, c4, c5, c6, c7, c8, c9, c10⟩ := qr_drop1 hT hK hTK (i := p / 32) (j := p % 32) hv (by omega) (by omega) b3 b4 a5 b5 k2 b7 b8 b9 k3 hb0
  rw [ep] at c7 c9
  have e4 : qt_dropPiece T K f h v p = (if (qv_sz F l).toInt32 = 0 then qt_dropLink T 1 F r (p / 32) else F, g2) := by
    unfold qt_dropPiece
    rw [e1]
    dsimp only
    rw [e2]
    dsimp only
    rw [e3]
  have fr3 := (a8.tr hK hTK b12).tr hK hTK c8
  have sm3 := (qw_mono hs2 (fun w q z => z.elim)).tr c9
  have hcl := qf_cn_le (qv_lk F) l
  by_cases hz : (qv_sz F l).toInt32 = 0
  · rw [if_pos hz] at e4
    rw [c6, lN_i] at hz
    have hcn := (q_z_eq (by omega)).mp hz
    obtain ⟨F2, e5, d1, d2, d3, d4⟩ := qr_drop2 hT hK hTK (i := p / 32) hv (by omega) c1 c2 a5 c3 (by rw [c8.kwy hK hTK]; exact k2) c4 b8 c5 hcn
    rw [e5] at e4
    exact ⟨F2, g2, l2, p2, _, e4, b1, b2, d1, fr3.tr hK hTK d2, (d3.1 v p hv hp (fun z => z)).1.trans c7, sm3.tr (qw_mono d3 (fun w q z => z.elim))⟩
  · rw [if_neg hz] at e4
    rw [c6, lN_i] at hz
    refine ⟨F, g2, l2, p2, _, e4, b1, b2, ⟨c1.1, ⟨fun n hn hl => ⟨(c1.2.1 n hn hl).1, fun _ => ?_⟩, c1.2.2⟩⟩, fr3, c7, sm3⟩
    by_cases hnl : n = l
    · rw [hnl]
      by_cases hq : qf_cn (qv_lk F) l = 0
      · exact absurd (by rw [hq]; rfl) hz
      · omega
    · exact (c1.2.1 n hn hl).2 hnl
theorem qw_trim {T K : Nat} (hT : T + 7 ≤ 16) (hK : K + 7 ≤ 16) (hTK : T + 7 ≤ K ∨ K + 7 ≤ T) {f : Nat → Int64} {h v lo : Nat} (h1 : 16 ≤ h) (h2 : h < 784) (hv : v < 16) {lv ps kl kp : Nat → Nat} (Z : qz_ok f T lv ps 0) (ZK : qz_ok f K kl kp 0) (hr : qv_rt f T v ≠ 0) : ∀ i, lo + i ≤ 128 →
    ∃ (f' : Nat → Int64) (h' : Nat) (lv' ps' : Nat → Nat) (X : Nat → Prop), qt_trim T K v lo f h i = (f', h', qs_ i (fun j => qi_ (qt_find f T v (lo + j) ≠ 0))) ∧ 16 ≤ h' ∧ h' < 784 ∧ qz_ok f' T lv' ps' 0 ∧ qr_fr T K f f' X ∧ qr_same T f f' (fun w q => w = v ∧ lo ≤ q ∧ q < lo + i) ∧ (∀ q, lo ≤ q → q < lo + i → qt_find f' T v q = 0) := by
  intro i
  induction i with
  | zero => intro _; exact ⟨f, h, lv, ps, _, rfl, h1, h2, Z, qw_rf, qw_srf, fun q hq1 hq2 => by omega⟩
  | succ i ih =>
    intro hi
    obtain ⟨f1, g1, l1, p1, X, e1, a1, a2, a3, a4, a5, a6⟩ := ih (by omega)
    obtain ⟨s1, s2⟩ := a5.1 v (lo + i) hv (by omega) (fun z => by omega)
    have hm : ∀ w q, (w = v ∧ lo ≤ q ∧ q < lo + i) → (w = v ∧ lo ≤ q ∧ q < lo + (i + 1)) := fun w q z => by omega
    by_cases h0 : qt_find f T v (lo + i) = 0
    · refine ⟨f1, g1, l1, p1, X, ?_, a1, a2, a3, a4, qw_mono a5 hm, fun q hq1 hq2 => ?_⟩
      · rw [qt_trim_z (by rw [e1]; exact s1.trans h0), e1, qs_s, qi_f (p := qt_find f T v (lo + i) ≠ 0) (fun z => z h0), Nat.add_zero]
      · by_cases hq : q = lo + i
        · rw [hq, s1]; exact h0
        · exact a6 q hq1 (by omega)
    · have h3 : qt_find f1 T v (lo + i) ≠ 0 := by rw [s1]; exact h0
      obtain ⟨f2, g2, l2, p2, Y, e2, b1, b2, b3, b4, b5, b6⟩ := qw_drop hT hK hTK a1 a2 hv (by omega) a3 (a4.kept hT hK hTK ZK) (fun z => hr ((a5.2 v hv).mp z)) h3
      refine ⟨f2, g2, l2, p2, _, ?_, b1, b2, b3, a4.tr hK hTK b4, (qw_mono a5 hm).tr (qw_mono b6 (fun w q z => by omega)), fun q hq1 hq2 => ?_⟩
      · rw [qt_trim_n (by rw [e1]; exact h3), e1]
        dsimp only
        rw [e2, qs_s, qi_n h0]
      · by_cases hq : q = lo + i
        · rw [hq]; exact b5
        · rw [(b6.1 v q hv (by omega) (fun z => hq z.2)).1]
          exact a6 q hq1 (by omega)
