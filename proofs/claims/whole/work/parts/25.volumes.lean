/-! volumes come and go -/
theorem qf_cn0 {lk : Nat → Nat → Nat} {n : Nat} (h : ∀ k, k < 32 → lk n k = 0) : qf_cn lk n = 0 := qs_zero (fun k hk => qi_f (fun q => q (h k hk)))
theorem qf_S0 {lk : Nat → Nat → Nat} {n : Nat} (h : ∀ k, k < 4 → lk n k = 0) : qf_S lk n = 0 := qs_zero (fun k hk => by rw [qi_f (fun q => q (h k hk)), Nat.zero_mul])
theorem qr_addEmpty {T K : Nat} (hT : T + 7 ≤ 16) (hK : K + 7 ≤ 16) (hTK : T + 7 ≤ K ∨ K + 7 ≤ T) {f : Nat → Int64} {h v : Nat} (h1 : 16 ≤ h) (h2 : h < 784) (hv : v < 16) {lv ps kl kp : Nat → Nat} (Z : qz_ok f T lv ps 0) (ZK : qz_st f K kl kp) (hr : qv_rt f T v = 0) :
    ∃ (f' : Nat → Int64) (h' : Nat) (lv' ps' : Nat → Nat) (c : Nat), qt_addEmpty T K f h v = (f', h') ∧ 16 ≤ h' ∧ h' < 784 ∧ qz_ok f' T lv' ps' 0 ∧ qv_rt f' T v ≠ 0 ∧ (∀ w, w < 16 → w ≠ v → qv_rt f' T w = qv_rt f T w) ∧ qr_fr T K f f' (fun x => x = c) ∧ (∀ w p, w < 16 → p < 128 → qt_find f' T w p = qt_find f T w p ∧ (qt_find f T w p ≠ 0 → qv_eq f' f (qt_find f T w p))) ∧ qf_tot (qv_rt f' T) (qv_lk f') = qf_tot (qv_rt f T) (qv_lk f) := by
  obtain ⟨⟨ok, htot, hl2⟩, hs⟩ := id Z
  obtain ⟨hx, hw⟩ := qc_room Z.1 ZK
  have o0 : qf_ok (qv_rt f T) (qv_lk f) (qv_wy f T) lv ps (fun x => qi_ (0 = x)) := qf_set_wy ok (fun _ => Iff.rfl) (fun x hp => by
    try dsimp only
    rw [qi_f (p := 0 = x) (fun e => by rw [← e] at hp; exact qf_po0 hp)])
  obtain ⟨c, f', h', lv', ps', e, g1, g2, a1, a2, a3, a4, a5, a6, a7, a8, a9, a10, a11, a12⟩ := qo_ownOr (j := 0) hT hK hTK (k := 2) (by omega) h1 h2 o0 (fun x _ => rfl) (fun q => absurd rfl q) (fun m i _ _ _ => rfl) hw hx
  have e1 : qt_blank T K f h = (c, f', h') := by rw [← e]; unfold qt_ownOr; rw [if_pos rfl]
  have hc16 := a1.1
  have hcT : c < 65536 := by have := a1.2; omega
  have hc0 : c ≠ 0 := by omega
  have hcd : qv_wy f T c = 0 := by
    rcases a10 with ⟨q, -⟩ | ⟨q, -⟩
    · exact absurd rfl q
    · exact q
  have o1 := qf_set_rt (v := v) (x := c) (db' := fun _ => 0) a4 hv (Or.inr ⟨a1, a5⟩) (fun x hp => by
    try dsimp only
    rw [hr, qi_f (p := 0 = x) (fun e => by rw [← e] at hp; exact qf_po0 hp)]
    by_cases hxc : x = c
    · rw [qi_t hxc, qi_t hxc.symm]
    · rw [qi_f hxc, qi_f (fun e => hxc e.symm)])
  have q1 : ∀ x, x ≠ T → qv_eq (qv_setL f' T v c) f' x := fun x hx => qv_eq_setL hx (by omega)
  have qA : ∀ x, x ≠ c → (x < T ∨ T + 7 ≤ x) → qv_eq (qv_setL f' T v c) f x := fun x hx hr => (q1 x (by omega)).tr (a9 x hx (by omega))
  have qT : qv_eq f' f T := a9 T (by omega) (by omega)
  have rtN : ∀ w, w < 16 → qv_rt (qv_setL f' T v c) T w = va_up (qv_rt f T) v c w := fun w hw2 => by
    unfold qv_rt
    rw [qv_lk_setL (by omega) (by omega) hcT]
    by_cases hwv : w = v
    · subst hwv; rw [if_pos rfl, qf_us]
    · rw [if_neg hwv, qf_un hwv]; exact qT.lk (by omega)
  have wyN : ∀ x, qv_wy (qv_setL f' T v c) T x = qv_wy f' T x := fun x => qe_wy_eq (fun k hk1 hk2 => q1 _ (by omega)) x
  have cW : ∀ i, i < 16 → qv_word (qv_setL f' T v c) c i = 0 := fun i hi => by
    rw [q1 c (by omega) i hi, a8 i hi, if_pos rfl]
  have cL : ∀ i, i < 64 → qv_lk (qv_setL f' T v c) c i = 0 := fun i hi => by
    unfold qv_lk; rw [cW (i / 4) (by omega), qb_0]; simp
  have o2 : qf_ok (qv_rt (qv_setL f' T v c) T) (qv_lk (qv_setL f' T v c)) (qv_wy (qv_setL f' T v c) T) lv' ps' (fun _ => 0) := qf_congr o1 rtN (fun m i hm hi => by
      have hi32 := qf_nl_le (lv' m)
      by_cases hmc : m = c
      · subst hmc; rw [qf_us, if_pos rfl]; exact cL i (by omega)
      · rw [qf_un hmc]
        exact (qA m hmc (by have := (qe_wy_po hm).1; omega)).lk (by omega)) wyN
  have hl2' : ∀ b, lv' b ≤ 2 := fun b => by
    by_cases hbc : b = c
    · subst hbc; omega
    · rw [(a7 b hbc).1]; exact hl2 b
  have lkA : ∀ n, 0 < qv_wy f T n → ∀ k, k < 32 → qv_lk (qv_setL f' T v c) n k = qv_lk f n k := fun n hn k hk => (qA n (fun e => by rw [e] at hn; omega) (by have := (qe_wy_po hn).1; omega)).lk (by omega)
  have SN : ∀ n, 0 < qv_wy f T n → lv n = 2 → qf_S (qv_lk (qv_setL f' T v c)) n = qf_S (qv_lk f) n := fun n hn hln => (qf_S_congr (fun i hi => (lkA n hn i (by omega)).symm) (fun i hi h0 j hj => by
    obtain ⟨d1, -, -, -⟩ := qf_live_lk ok hn (i := i) (by rw [hln]; exact hi) h0
    exact (lkA _ d1 j hj).symm)).symm
  have Sc : qf_S (qv_lk (qv_setL f' T v c)) c = 0 := qf_S0 (fun k hk => cL k (by omega))
  have totN : qf_tot (qv_rt (qv_setL f' T v c) T) (qv_lk (qv_setL f' T v c)) = qf_tot (qv_rt f T) (qv_lk f) := by
    refine qs_congr (fun w hw2 => ?_)
    try dsimp only
    rw [rtN w hw2]
    by_cases hwv : w = v
    · subst hwv
      rw [qf_us, Sc, Nat.mul_zero, hr, qi_f (fun q => q rfl), Nat.zero_mul]
    · rw [qf_un hwv]
      by_cases h0 : qv_rt f T w = 0
      · rw [qi_f (fun q => q h0), Nat.zero_mul, Nat.zero_mul]
      · obtain ⟨d1, d2, d3⟩ := qf_live_rt ok hw2 h0
        rw [SN _ d1 d2]
  have findN : ∀ w p, w < 16 → p < 128 → qt_find (qv_setL f' T v c) T w p = qt_find f T w p := fun w p hw2 hp => by
    unfold qt_find qt_leaf
    rw [rtN w hw2]
    by_cases hwv : w = v
    · subst hwv
      rw [qf_us, if_neg hc0, cL _ (by omega), if_pos rfl, hr, if_pos rfl, if_pos rfl]
    · rw [qf_un hwv]
      by_cases h0 : qv_rt f T w = 0
      · simp [h0]
      · rw [if_neg h0, if_neg h0]
        obtain ⟨d1, d2, d3⟩ := qf_live_rt ok hw2 h0
        rw [lkA _ d1 _ (by omega)]
        by_cases hq0 : qv_lk f (qv_rt f T w) (p / 32) = 0
        · rw [if_pos hq0, if_pos hq0]
        · rw [if_neg hq0, if_neg hq0]
          obtain ⟨y1, -, -, -⟩ := qf_live_lk ok d1 (i := p / 32) (by rw [d2, qf_nl2]; omega) hq0
          exact lkA _ y1 _ (by omega)
  refine ⟨qv_setL f' T v c, h', lv', ps', c, by unfold qt_addEmpty; rw [e1], g1, g2, ⟨⟨o2, by rw [totN]; exact htot, hl2'⟩, ⟨fun n hn hl => ?_, fun n hn hl => ?_⟩⟩, by rw [rtN v hv, qf_us]; exact hc0, fun w hw2 hne => by rw [rtN w hw2, qf_un hne], ⟨fun x hx hr => qA x hx hr, fun x hx => by rw [hx]; exact ⟨a1, a12⟩, fun i hi => ?_⟩, fun w p hw2 hp => ⟨findN w p hw2 hp, fun h0 => ?_⟩, totN⟩
  · rw [wyN] at hn
    have hnc : n ≠ c := fun e => by rw [e] at hl; omega
    have hnf := a11 n hnc hn
    rw [(qA n hnc (by have := (qe_wy_po hn).1; omega)).sz, qf_cn_congr (lkA n hnf)]
    exact hs.1 n hnf (by rw [← (a7 n hnc).1]; exact hl)
  · rw [wyN] at hn
    by_cases hnc : n = c
    · subst hnc
      rw [Sc]
      exact cW 15 (by omega)
    · have hnf := a11 n hnc hn
      rw [(qA n hnc (by have := (qe_wy_po hn).1; omega)).sz, SN n hnf (by rw [← (a7 n hnc).1]; exact hl)]
      exact hs.2 n hnf (by rw [← (a7 n hnc).1]; exact hl)
  · unfold qv_nt
    rw [qv_by_setL (by omega)]
    exact qT.by (by omega)
  · obtain ⟨-, -, -, -, -, -, -, -, d1, d2, -, -⟩ := qr_found ok hw2 hp h0
    exact qA _ (fun e => by rw [e] at d1; omega) (by have := (qe_wy_po d1).1; omega)
/-- a volume as another one is -/
theorem qr_addTwin {T K : Nat} (hT : T + 7 ≤ 16) (hK : K + 7 ≤ 16) (hTK : T + 7 ≤ K ∨ K + 7 ≤ T) {f : Nat → Int64} {v o : Nat} (hv : v < 16) (ho : o < 16) {lv ps kl kp : Nat → Nat} (Z : qz_ok f T lv ps 0) (ZK : qz_st f K kl kp) (hr : qv_rt f T v = 0) (hro : qv_rt f T o ≠ 0) (hroom : qf_tot (qv_rt f T) (qv_lk f) + qf_S (qv_lk f) (qv_rt f T o) ≤ 300) :
    ∃ f', qt_addTwin T f v o = f' ∧ qz_ok f' T lv ps 0 ∧ (∀ w, w < 16 → qv_rt f' T w = if w = v then qv_rt f T o else qv_rt f T w) ∧ qr_fr T K f f' (fun _ => False) ∧ (∀ w p, w < 16 → p < 128 → qt_find f' T w p = if w = v then qt_find f T o p else qt_find f T w p) ∧ qf_tot (qv_rt f' T) (qv_lk f') = qf_tot (qv_rt f T) (qv_lk f) + qf_S (qv_lk f) (qv_rt f T o) := by
  obtain ⟨⟨ok, htot, hl2⟩, hs⟩ := id Z
  obtain ⟨-, hw⟩ := qc_room Z.1 ZK
  obtain ⟨d1, d2, d3⟩ := qf_live_rt ok ho hro
  have hrT : qv_rt f T o < 65536 := qv_lk_lt _ _ _
  have q1 : ∀ x, x ≠ T → qv_eq (qv_setL f T v (qv_rt f T o)) f x := fun x hx => qv_eq_setL hx (by omega)
  have w1 : ∀ x, qv_wy (qv_setL f T v (qv_rt f T o)) T x = qv_wy f T x := fun x => qe_wy_eq (fun k hk1 hk2 => q1 _ (by omega)) x
  have w2 : qv_wy (qt_addTwin T f v o) T = va_up (qv_wy f T) (qv_rt f T o) (qv_wy f T (qv_rt f T o) + 1) := by
    unfold qt_addTwin qt_addW
    rw [w1, qe_setY hT d3 (by have := hw (qv_rt f T o); omega), funext w1]
  have qB : ∀ x, (x < T + 1 ∨ T + 7 ≤ x) → qv_eq (qt_addTwin T f v o) (qv_setL f T v (qv_rt f T o)) x := fun x hx => by unfold qt_addTwin qt_addW; exact qe_setY_n hx
  have qA : ∀ x, (x < T ∨ T + 7 ≤ x) → qv_eq (qt_addTwin T f v o) f x := fun x hx => (qB x (by omega)).tr (q1 x (by omega))
  have rtN : ∀ w, w < 16 → qv_rt (qt_addTwin T f v o) T w = va_up (qv_rt f T) v (qv_rt f T o) w := fun w hw2 => by
    unfold qv_rt
    rw [(qB T (by omega)).lk (show w < 64 by omega), qv_lk_setL (by omega) (by omega) (show qv_rt f T o < 65536 from hrT)]
    by_cases hwv : w = v
    · subst hwv; rw [if_pos rfl, qf_us]; rfl
    · rw [if_neg hwv, qf_un hwv]
  have o1 : qf_ok (qv_rt f T) (qv_lk f) (qv_wy (qt_addTwin T f v o) T) lv ps (fun x => qi_ (qv_rt f T o = x)) := by
    rw [w2]
    refine qf_set_wy ok (fun x => ?_) (fun x hp => ?_)
    · by_cases hx : x = qv_rt f T o
      · subst hx; rw [qf_us]; omega
      · rw [qf_un hx]
    · try dsimp only
      by_cases hx : x = qv_rt f T o
      · subst hx; rw [qf_us, qi_t rfl]
      · rw [qf_un hx, qi_f (fun e => hx e.symm)]
  have o2 := qf_set_rt (v := v) (x := qv_rt f T o) (db' := fun _ => 0) o1 hv (Or.inr ⟨d3, d2⟩) (fun x hp => by
    try dsimp only
    rw [hr, qi_f (p := 0 = x) (fun e => by rw [← e] at hp; exact qf_po0 hp)]
    omega)
  have lkA : ∀ n, qf_po n → ∀ k, k < 32 → qv_lk (qt_addTwin T f v o) n k = qv_lk f n k := fun n hn k hk => (qA n (by have := hn.1; omega)).lk (by omega)
  have o3 : qf_ok (qv_rt (qt_addTwin T f v o) T) (qv_lk (qt_addTwin T f v o)) (qv_wy (qt_addTwin T f v o) T) lv ps (fun _ => 0) := qf_congr o2 rtN (fun m i hm hi => lkA m (qe_wy_po hm) i (by have := qf_nl_le (lv m); omega)) (fun _ => rfl)
  have live : ∀ n, 0 < qv_wy (qt_addTwin T f v o) T n → 0 < qv_wy f T n := fun n hn => by
    rw [w2] at hn
    by_cases hx : n = qv_rt f T o
    · subst hx; exact d1
    · rw [qf_un hx] at hn; exact hn
  have SN : ∀ n, 0 < qv_wy f T n → lv n = 2 → qf_S (qv_lk (qt_addTwin T f v o)) n = qf_S (qv_lk f) n := fun n hn hln => (qf_S_congr (fun i hi => (lkA n (qe_wy_po hn) i (by omega)).symm) (fun i hi h0 j hj => by
    obtain ⟨-, -, y3, -⟩ := qf_live_lk ok hn (i := i) (by rw [hln]; exact hi) h0
    exact (lkA _ y3 j hj).symm)).symm
  have findN : ∀ w p, w < 16 → p < 128 → qt_find (qt_addTwin T f v o) T w p = if w = v then qt_find f T o p else qt_find f T w p := fun w p hw2 hp => by
    have base : ∀ z, z < 16 → (if (if qv_rt f T z = 0 then 0 else qv_lk (qt_addTwin T f v o) (qv_rt f T z) (p / 32)) = 0 then 0 else qv_lk (qt_addTwin T f v o) (if qv_rt f T z = 0 then 0 else qv_lk (qt_addTwin T f v o) (qv_rt f T z) (p / 32)) (p % 32)) = qt_find f T z p := fun z hz => by
      unfold qt_find qt_leaf
      by_cases h0 : qv_rt f T z = 0
      · simp [h0]
      · rw [if_neg h0, if_neg h0]
        obtain ⟨z1, z2, z3⟩ := qf_live_rt ok hz h0
        rw [lkA _ z3 _ (by omega)]
        by_cases hq0 : qv_lk f (qv_rt f T z) (p / 32) = 0
        · rw [if_pos hq0, if_pos hq0]
        · rw [if_neg hq0, if_neg hq0]
          obtain ⟨-, -, y3, -⟩ := qf_live_lk ok z1 (i := p / 32) (by rw [z2, qf_nl2]; omega) hq0
          exact lkA _ y3 _ (by omega)
    by_cases hwv : w = v
    · rw [if_pos hwv, ← base o ho]
      unfold qt_find qt_leaf
      rw [rtN w hw2, hwv, qf_us]
    · rw [if_neg hwv, ← base w hw2]
      unfold qt_find qt_leaf
      rw [rtN w hw2, qf_un hwv]
  have totN : qf_tot (qv_rt (qt_addTwin T f v o) T) (qv_lk (qt_addTwin T f v o)) = qf_tot (qv_rt f T) (qv_lk f) + qf_S (qv_lk f) (qv_rt f T o) := by
    have z := qs_upd (n := 16) (k := v) (f := fun w => qi_ (qv_rt f T w ≠ 0) * qf_S (qv_lk f) (qv_rt f T w)) (g := fun w => qi_ (qv_rt (qt_addTwin T f v o) T w ≠ 0) * qf_S (qv_lk (qt_addTwin T f v o)) (qv_rt (qt_addTwin T f v o) T w)) hv (fun w hw2 hne => by
      try dsimp only
      rw [rtN w hw2, qf_un hne]
      by_cases h0 : qv_rt f T w = 0
      · rw [qi_f (fun q => q h0), Nat.zero_mul, Nat.zero_mul]
      · obtain ⟨z1, z2, z3⟩ := qf_live_rt ok hw2 h0
        rw [SN _ z1 z2])
    try dsimp only at z
    rw [rtN v hv, qf_us, hr, qi_f (fun q => q rfl), Nat.zero_mul, qi_t hro, Nat.one_mul, SN _ d1 d2] at z
    unfold qf_tot
    omega
  refine ⟨qt_addTwin T f v o, rfl, ⟨⟨o3, by omega, hl2⟩, ⟨fun n hn hl => ?_, fun n hn hl => ?_⟩⟩, fun w hw2 => ?_, ⟨fun x _ hx => qA x hx, fun x hx => absurd hx id, fun i hi => ?_⟩, findN, totN⟩
  · have hnf := live n hn
    rw [(qA n (by have := (qe_wy_po hn).1; omega)).sz, qf_cn_congr (lkA n (qe_wy_po hn))]
    exact hs.1 n hnf hl
  · have hnf := live n hn
    rw [(qA n (by have := (qe_wy_po hn).1; omega)).sz, SN n hnf hl]
    exact hs.2 n hnf hl
  · rw [rtN w hw2]
    by_cases hwv : w = v
    · subst hwv; rw [qf_us, if_pos rfl]
    · rw [qf_un hwv, if_neg hwv]
  · unfold qv_nt
    rw [(qB T (by omega)).by (show 32 + i < 128 by omega), qv_by_setL (by omega)]
/-- a volume goes -/
theorem qr_dropVol {T K : Nat} (hT : T + 7 ≤ 16) (hK : K + 7 ≤ 16) (hTK : T + 7 ≤ K ∨ K + 7 ≤ T) {f : Nat → Int64} {v : Nat} (hv : v < 16) {lv ps : Nat → Nat} (Z : qz_ok f T lv ps 0) (hr : qv_rt f T v ≠ 0) :
    ∃ f', qt_dropVol T f v = f' ∧ qz_ok f' T lv ps 0 ∧ (∀ w, w < 16 → qv_rt f' T w = if w = v then 0 else qv_rt f T w) ∧ qr_fr T K f f' (fun _ => False) ∧ (∀ w p, w < 16 → p < 128 → qt_find f' T w p = if w = v then 0 else qt_find f T w p) ∧ qf_tot (qv_rt f' T) (qv_lk f') + qf_S (qv_lk f) (qv_rt f T v) = qf_tot (qv_rt f T) (qv_lk f) := by
  obtain ⟨⟨ok, htot, hl2⟩, hs⟩ := id Z
  obtain ⟨d1, d2, d3⟩ := qf_live_rt ok hv hr
  have o0 : qf_ok (va_up (qv_rt f T) v 0) (qv_lk f) (qv_wy f T) lv ps (fun x => qi_ (qv_rt f T v = x)) := qf_set_rt ok hv (Or.inl rfl) (fun x hp => by
    try dsimp only
    rw [qi_f (p := 0 = x) (fun e => by rw [← e] at hp; exact qf_po0 hp)]
    omega)
  obtain ⟨o1, le1⟩ := qf_rel_ok 2 _ _ (qv_rt f T v) (by omega) o0 (Or.inr ⟨d3, d2, by rw [qi_t rfl]; exact Nat.le_refl _⟩)
  obtain ⟨r1, r2⟩ := qe_rel hT 2 f (qv_rt f T v)
  have hf' : qt_dropVol T f v = qv_setL (qt_rel T 2 f (qv_rt f T v)) T v 0 := rfl
  generalize hf1 : qt_rel T 2 f (qv_rt f T v) = f1 at r1 r2 hf'
  have q1 : ∀ x, x ≠ T → qv_eq (qv_setL f1 T v 0) f1 x := fun x hx => qv_eq_setL hx (by omega)
  have qA : ∀ x, (x < T ∨ T + 7 ≤ x) → qv_eq (qv_setL f1 T v 0) f x := fun x hx => (q1 x (by omega)).tr (r2 x (by omega))
  have qT : qv_eq f1 f T := r2 T (by omega)
  have wyN : ∀ x, qv_wy (qv_setL f1 T v 0) T x = qv_wy f1 T x := fun x => qe_wy_eq (fun k hk1 hk2 => q1 _ (by omega)) x
  have rtN : ∀ w, w < 16 → qv_rt (qv_setL f1 T v 0) T w = va_up (qv_rt f T) v 0 w := fun w hw2 => by
    unfold qv_rt
    rw [qv_lk_setL (by omega) (by omega) (by omega)]
    by_cases hwv : w = v
    · subst hwv; rw [if_pos rfl, qf_us]
    · rw [if_neg hwv, qf_un hwv]; exact qT.lk (by omega)
  have lkA : ∀ n, qf_po n → ∀ k, k < 32 → qv_lk (qv_setL f1 T v 0) n k = qv_lk f n k := fun n hn k hk => (qA n (by have := hn.1; omega)).lk (by omega)
  have o2 : qf_ok (qv_rt (qv_setL f1 T v 0) T) (qv_lk (qv_setL f1 T v 0)) (qv_wy (qv_setL f1 T v 0) T) lv ps (fun _ => 0) := by
    have z : qf_ok (va_up (qv_rt f T) v 0) (qv_lk f) (qv_wy f1 T) lv ps (fun _ => 0) := by
      rw [r1]
      refine qf_set_wy o1 (fun x => Iff.rfl) (fun x hp => ?_)
      try dsimp only
      by_cases hx : x = qv_rt f T v
      · rw [qi_t hx, qi_t hx.symm]
      · rw [qi_f hx, qi_f (fun e => hx e.symm)]
    exact qf_congr z rtN (fun m i hm hi => lkA m (qe_wy_po hm) i (by have := qf_nl_le (lv m); omega)) wyN
  have live : ∀ n, 0 < qv_wy (qv_setL f1 T v 0) T n → 0 < qv_wy f T n := fun n hn => by
    rw [wyN, r1] at hn
    have := le1 n
    omega
  have SN : ∀ n, 0 < qv_wy f T n → lv n = 2 → qf_S (qv_lk (qv_setL f1 T v 0)) n = qf_S (qv_lk f) n := fun n hn hln => (qf_S_congr (fun i hi => (lkA n (qe_wy_po hn) i (by omega)).symm) (fun i hi h0 j hj => by
    obtain ⟨-, -, y3, -⟩ := qf_live_lk ok hn (i := i) (by rw [hln]; exact hi) h0
    exact (lkA _ y3 j hj).symm)).symm
  have findN : ∀ w p, w < 16 → p < 128 → qt_find (qv_setL f1 T v 0) T w p = if w = v then 0 else qt_find f T w p := fun w p hw2 hp => by
    unfold qt_find qt_leaf
    rw [rtN w hw2]
    by_cases hwv : w = v
    · subst hwv; rw [qf_us, if_pos rfl, if_pos rfl, if_pos rfl]
    · rw [qf_un hwv, if_neg hwv]
      by_cases h0 : qv_rt f T w = 0
      · simp [h0]
      · rw [if_neg h0, if_neg h0]
        obtain ⟨z1, z2, z3⟩ := qf_live_rt ok hw2 h0
        rw [lkA _ z3 _ (by omega)]
        by_cases hq0 : qv_lk f (qv_rt f T w) (p / 32) = 0
        · rw [if_pos hq0, if_pos hq0]
        · rw [if_neg hq0, if_neg hq0]
          obtain ⟨-, -, y3, -⟩ := qf_live_lk ok z1 (i := p / 32) (by rw [z2, qf_nl2]; omega) hq0
          exact lkA _ y3 _ (by omega)
  have totN : qf_tot (qv_rt (qv_setL f1 T v 0) T) (qv_lk (qv_setL f1 T v 0)) + qf_S (qv_lk f) (qv_rt f T v) = qf_tot (qv_rt f T) (qv_lk f) := by
    have z := qs_upd (n := 16) (k := v) (f := fun w => qi_ (qv_rt f T w ≠ 0) * qf_S (qv_lk f) (qv_rt f T w)) (g := fun w => qi_ (qv_rt (qv_setL f1 T v 0) T w ≠ 0) * qf_S (qv_lk (qv_setL f1 T v 0)) (qv_rt (qv_setL f1 T v 0) T w)) hv (fun w hw2 hne => by
      try dsimp only
      rw [rtN w hw2, qf_un hne]
      by_cases h0 : qv_rt f T w = 0
      · rw [qi_f (fun q => q h0), Nat.zero_mul, Nat.zero_mul]
      · obtain ⟨z1, z2, z3⟩ := qf_live_rt ok hw2 h0
        rw [SN _ z1 z2])
    try dsimp only at z
    rw [rtN v hv, qf_us, qi_f (p := (0 : Nat) ≠ 0) (fun q => q rfl), Nat.zero_mul, qi_n hr, Nat.one_mul] at z
    unfold qf_tot
    omega
  refine ⟨_, hf', ⟨⟨o2, by omega, hl2⟩, ⟨fun n hn hl => ?_, fun n hn hl => ?_⟩⟩, fun w hw2 => ?_, ⟨fun x _ hx => qA x hx, fun x hx => absurd hx id, fun i hi => ?_⟩, findN, totN⟩
  · have hnf := live n hn
    rw [(qA n (by have := (qe_wy_po hn).1; omega)).sz, qf_cn_congr (lkA n (qe_wy_po hn))]
    exact hs.1 n hnf hl
  · have hnf := live n hn
    rw [(qA n (by have := (qe_wy_po hn).1; omega)).sz, SN n hnf hl]
    exact hs.2 n hnf hl
  · rw [rtN w hw2]
    by_cases hwv : w = v
    · subst hwv; rw [qf_us, if_pos rfl]
    · rw [qf_un hwv, if_neg hwv]
  · unfold qv_nt
    rw [qv_by_setL (by omega)]
    exact qT.by (by omega)
