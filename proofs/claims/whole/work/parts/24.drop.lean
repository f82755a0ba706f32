/-! a written piece goes, below a leaf that only the root r has, that only v has; the leaf goes with its last piece -/
theorem qr_lN_pred {n : Nat} (h : 0 < n) : lN n + (-1) = lN (n - 1) := by
  obtain ⟨k, rfl⟩ : ∃ k, n = k + 1 := ⟨n - 1, by omega⟩
  rw [← lN_1, Int64.add_assoc, show (1 : Int64) + (-1) = 0 by decide, Int64.add_zero, Nat.add_sub_cancel]
theorem qr_drop1 {T K : Nat} (hT : T + 7 ≤ 16) (hK : K + 7 ≤ 16) (hTK : T + 7 ≤ K ∨ K + 7 ≤ T) {f : Nat → Int64} {v r l i j : Nat} (hv : v < 16) (hi : i < 4) (hj : j < 32) {lv ps : Nat → Nat} (Z : qz_ok f T lv ps l)
    (hr : qv_rt f T v = r) (hpr : qf_po r) (hwr : qv_wy f T r = 1) (hkr : qv_wy f K r = 0) (hl : qv_lk f r i = l) (hpl : qf_po l) (hwl : qv_wy f T l = 1) (hkl : qv_wy f K l = 0) (hb0 : qv_lk f l j ≠ 0) :
    ∃ F, qt_dropLink T 0 (qv_addS (qv_addS f r (-1)) l (-1)) l j = F ∧ qz_ok F T lv ps l ∧ qv_rt F T v = r ∧ qv_wy F T r = 1 ∧ qv_lk F r i = l ∧ qv_wy F T l = 1 ∧ qv_sz F l = lN (qf_cn (qv_lk F) l) ∧ qt_find F T v (32 * i + j) = 0 ∧ qr_fr T K f F (fun x => x = l ∨ x = r) ∧ qr_same T f F (fun w q => w = v ∧ q = 32 * i + j) ∧ qf_tot (qv_rt F T) (qv_lk F) + 1 = qf_tot (qv_rt f T) (qv_lk f) := by
  obtain ⟨⟨ok, htot, hl2⟩, hs⟩ := id Z
  have hr0 : qv_rt f T v ≠ 0 := fun e => by rw [hr] at e; rw [e] at hpr; exact qf_po0 hpr
  obtain ⟨-, hlr, -⟩ := qf_live_rt ok hv hr0
  rw [hr] at hlr
  have hl0 : qv_lk f r i ≠ 0 := fun e => by rw [hl] at e; rw [e] at hpl; exact qf_po0 hpl
  obtain ⟨-, hll, -, hpsl⟩ := qf_live_lk ok (n := r) (i := i) (by omega) (by rw [hlr]; exact hi) hl0
  rw [hl] at hll hpsl
  have hll : lv l = 1 := by omega
  have hrl : l ≠ r := fun e => by rw [e] at hll; omega
  have hjl : j < qf_nl (lv l) := by rw [hll]; exact hj
  obtain ⟨onlyR, -⟩ := qf_only_rt ok hv hr (by have := ok.2.2.1 r hpr; omega)
  obtain ⟨-, onlyL⟩ := qf_only_lk ok (n := r) (i := i) (by omega) (by rw [hlr]; exact hi) hl (by have := ok.2.2.1 l hpl; omega)
  obtain ⟨hbw, hbl, hbp, -⟩ := qf_live_lk ok (n := l) (i := j) (by omega) hjl hb0
  have hbl : lv (qv_lk f l j) = 0 := by omega
  -- 1. sizes; then the data block is released, and its link goes
  generalize hg : qv_addS (qv_addS f r (-1)) l (-1) = g
  have gA : ∀ x, x ≠ r → x ≠ l → qv_eq g f x := fun x hx1 hx2 => by rw [← hg]; exact (qv_eq_addS hx2).tr (qv_eq_addS hx1)
  have gL : ∀ x k, k < 60 → qv_lk g x k = qv_lk f x k := fun x k hk => by
    rw [← hg]
    by_cases h1 : x = l
    · subst h1; rw [qv_lk_addS hk, (qv_eq_addS hrl).lk (by omega)]
    · rw [(qv_eq_addS h1).lk (by omega)]
      by_cases h2 : x = r
      · subst h2; exact qv_lk_addS hk
      · exact (qv_eq_addS h2).lk (by omega)
  have gSr : qv_sz g r = qv_sz f r + (-1) := by rw [← hg, (qv_eq_addS (fun e => hrl e.symm)).sz, qv_sz_addS hpr.2]
  have gSl : qv_sz g l = qv_sz f l + (-1) := by rw [← hg, qv_sz_addS hpl.2, (qv_eq_addS hrl).sz]
  have gT : ∀ k, k < 7 → qv_eq g f (T + k) := fun k hk => gA _ (by have := hpr.1; omega) (by have := hpl.1; omega)
  have gwT : ∀ x, qv_wy g T x = qv_wy f T x := fun x => qe_wy_eq (fun k _ hk => gT k hk) x
  have gR : ∀ w, w < 16 → qv_rt g T w = qv_rt f T w := fun w hw2 => (gT 0 (by omega)).lk (by omega)
  have okg : qf_ok (qv_rt g T) (qv_lk g) (qv_wy g T) lv ps (fun _ => 0) := qf_congr ok gR (fun m k _ hk => gL m k (by have := qf_nl_le (lv m); omega)) gwT
  have hb : qv_lk g l j = qv_lk f l j := gL l j (by omega)
  have o0 : qf_ok (qv_rt g T) (qf_lk (qv_lk g) l j 0) (qv_wy g T) lv ps (fun x => qi_ (qv_lk g l j = x)) := qf_set_lk okg (by rw [gwT]; omega) hjl (Or.inl rfl) (fun x hp => by
    try dsimp only
    rw [qi_f (p := 0 = x) (fun e => by rw [← e] at hp; exact qf_po0 hp)]
    omega)
  obtain ⟨o1, le1⟩ := qf_rel_ok 0 _ _ (qv_lk g l j) (by omega) o0 (Or.inr ⟨by rw [hb]; exact hbp, by rw [hb]; exact hbl, by rw [qi_t rfl]; exact Nat.le_refl _⟩)
  obtain ⟨r1, r2⟩ := qe_rel hT 0 g (qv_lk g l j)
  have w1 : qv_wy (qt_rel T 0 g (qv_lk g l j)) T = qf_rel (qf_lk (qv_lk g) l j 0) 0 (qv_wy g T) (qv_lk g l j) := by rw [r1]; rfl
  generalize hf1 : qt_rel T 0 g (qv_lk g l j) = f1 at r1 r2 w1
  have q1 : ∀ x, x ≠ l → qv_eq (qv_setL f1 l j 0) f1 x := fun x hx => qv_eq_setL hx (by omega)
  have qG : ∀ x, x ≠ l → (x < T + 1 ∨ T + 7 ≤ x) → qv_eq (qv_setL f1 l j 0) g x := fun x hx hrr => (q1 x hx).tr (r2 x hrr)
  have qA : ∀ x, x ≠ l → x ≠ r → (x < T + 1 ∨ T + 7 ≤ x) → qv_eq (qv_setL f1 l j 0) f x := fun x hx hxr hrr => (qG x hx hrr).tr (gA x hxr hx)
  have qT : qv_eq (qv_setL f1 l j 0) f T := qA T (by have := hpl.1; omega) (by have := hpr.1; omega) (by omega)
  have rtN : ∀ w, w < 16 → qv_rt (qv_setL f1 l j 0) T w = qv_rt f T w := fun w hw2 => qT.lk (by omega)
  have wyN : ∀ x, qv_wy (qv_setL f1 l j 0) T x = qv_wy f1 T x := fun x => qe_wy_eq (fun k hk1 hk2 => q1 _ (by have := hpl.1; omega)) x
  have lL : ∀ k, k < 32 → qv_lk (qv_setL f1 l j 0) l k = if k = j then 0 else qv_lk f l k := fun k hk => by
    rw [qv_lk_setL hpl.2 (by omega) (by omega)]
    by_cases hkj : k = j
    · rw [if_pos hkj, if_pos hkj]
    · rw [if_neg hkj, if_neg hkj, (r2 l (by have := hpl.1; omega)).lk (show k < 64 by omega)]
      exact gL l k (by omega)
  have lkA : ∀ x k, k < 32 → x ≠ l → (x < T + 1 ∨ T + 7 ≤ x) → qv_lk (qv_setL f1 l j 0) x k = qv_lk f x k := fun x k hk hxl hrr => by
    rw [(qG x hxl hrr).lk (by omega)]; exact gL x k (by omega)
  have wle : ∀ x, qv_wy (qv_setL f1 l j 0) T x ≤ qv_wy f T x := fun x => by rw [wyN, w1, ← gwT]; exact le1 x
  have o2 : qf_ok (qv_rt (qv_setL f1 l j 0) T) (qv_lk (qv_setL f1 l j 0)) (qv_wy (qv_setL f1 l j 0) T) lv ps (fun _ => 0) := by
    have z : qf_ok (qv_rt g T) (qf_lk (qv_lk g) l j 0) (qv_wy f1 T) lv ps (fun _ => 0) := by
      rw [w1]
      refine qf_set_wy o1 (fun x => Iff.rfl) (fun x hp => ?_)
      try dsimp only
      by_cases hx : x = qv_lk g l j
      · rw [qi_t hx, qi_t hx.symm]
      · rw [qi_f hx, qi_f (fun e => hx e.symm)]
    refine qf_congr z (fun w hw2 => by rw [rtN w hw2, gR w hw2]) (fun m k hm hk => ?_) wyN
    have hk32 := qf_nl_le (lv m)
    by_cases hml : m = l
    · subst hml
      rw [lL k (by omega)]
      by_cases hkj : k = j
      · subst hkj; rw [if_pos rfl, qf_lk_s]
      · rw [if_neg hkj, qf_lk_i _ _ _ _ _ hkj, gL m k (by omega)]
    · rw [qf_lk_n _ _ _ _ _ _ hml]
      exact (qG m hml (by have := (qe_wy_po hm).1; omega)).lk (by omega)
  have hwr2 : 0 < qv_wy (qv_setL f1 l j 0) T r := by
    have z := o2.2.2.1 r hpr
    have y1 : 1 ≤ qf_in (qv_rt (qv_setL f1 l j 0) T) (qv_lk (qv_setL f1 l j 0)) (qv_wy (qv_setL f1 l j 0) T) lv r := qf_in_ge_rt hv (by rw [rtN v hv]; exact hr)
    omega
  have rK : ∀ k, k < 4 → qv_lk (qv_setL f1 l j 0) r k = qv_lk f r k := fun k hk => lkA r k (by omega) (fun e => hrl e.symm) (by have := hpr.1; omega)
  have hwl2 : qv_wy (qv_setL f1 l j 0) T l = 1 := by
    have z := o2.2.2.1 l hpl
    have y1 := qf_in_ge_lk o2 (n := r) (i := i) (b := l) hwr2 (by rw [hlr]; exact hi) (by rw [rK i hi]; exact hl)
    have y2 := wle l
    omega
  -- how many pieces
  have cnN : ∀ n, 0 < qv_wy (qv_setL f1 l j 0) T n → n ≠ l → qf_cn (qv_lk (qv_setL f1 l j 0)) n = qf_cn (qv_lk f) n := fun n hn hnl => qf_cn_congr (fun k hk => lkA n k hk hnl (by have := (qe_wy_po hn).1; omega))
  have cnL : qf_cn (qv_lk (qv_setL f1 l j 0)) l + 1 = qf_cn (qv_lk f) l := by
    have z := qs_upd (n := 32) (k := j) (f := fun k => qi_ (qv_lk f l k ≠ 0)) (g := fun k => qi_ (qv_lk (qv_setL f1 l j 0) l k ≠ 0)) hj (fun k hk hne => by rw [lL k hk, if_neg hne])
    try dsimp only at z
    rw [lL j hj, if_pos rfl, qi_f (p := (0 : Nat) ≠ 0) (fun q => q rfl), qi_n hb0] at z
    unfold qf_cn
    omega
  have leafOf : ∀ n, 0 < qv_wy (qv_setL f1 l j 0) T n → lv n = 2 → ∀ k, k < 4 → qv_lk f n k ≠ 0 → qv_lk (qv_setL f1 l j 0) n k = qv_lk f n k ∧ 0 < qv_wy (qv_setL f1 l j 0) T (qv_lk f n k) ∧ lv (qv_lk f n k) = 1 := fun n hn hln k hk h0 => by
    have e2 : qv_lk (qv_setL f1 l j 0) n k = qv_lk f n k := lkA n k (by omega) (fun e => by rw [e] at hln; omega) (by have := (qe_wy_po hn).1; omega)
    obtain ⟨d1, d2, d3, -⟩ := qf_live_lk o2 (n := n) (i := k) hn (by rw [hln]; exact hk) (by rw [e2]; exact h0)
    rw [e2] at d1 d2
    exact ⟨e2, d1, by omega⟩
  have SN : ∀ n, 0 < qv_wy (qv_setL f1 l j 0) T n → lv n = 2 → n ≠ r → qf_S (qv_lk (qv_setL f1 l j 0)) n = qf_S (qv_lk f) n := fun n hn hln hnr => by
    refine qs_congr (fun k hk => ?_)
    try dsimp only
    by_cases h0 : qv_lk f n k = 0
    · have e2 : qv_lk (qv_setL f1 l j 0) n k = qv_lk f n k := lkA n k (by omega) (fun e => by rw [e] at hln; omega) (by have := (qe_wy_po hn).1; omega)
      rw [e2, qi_f (fun q => q h0), Nat.zero_mul, Nat.zero_mul]
    · obtain ⟨e2, d1, d2⟩ := leafOf n hn hln k hk h0
      rw [e2]
      congr 1
      refine cnN _ d1 (fun e => hnr ?_)
      have := wle n
      exact (onlyL n k (by omega) (by rw [hln]; exact hk) e).1
  have SR : qf_S (qv_lk (qv_setL f1 l j 0)) r + 1 = qf_S (qv_lk f) r := by
    have z := qs_upd (n := 4) (k := i) (f := fun k => qi_ (qv_lk f r k ≠ 0) * qf_cn (qv_lk f) (qv_lk f r k)) (g := fun k => qi_ (qv_lk (qv_setL f1 l j 0) r k ≠ 0) * qf_cn (qv_lk (qv_setL f1 l j 0)) (qv_lk (qv_setL f1 l j 0) r k)) hi (fun k hk hne => by
      try dsimp only
      rw [rK k hk]
      by_cases h0 : qv_lk f r k = 0
      · rw [qi_f (fun q => q h0), Nat.zero_mul, Nat.zero_mul]
      · congr 1
        obtain ⟨e2, d1, d2⟩ := leafOf r hwr2 hlr k hk h0
        refine (cnN _ d1 (fun e => hne ?_)).symm
        exact (onlyL r k (by omega) (by rw [hlr]; exact hk) e).2)
    try dsimp only at z
    rw [rK i hi, hl, qi_n (fun e => by rw [e] at hpl; exact qf_po0 hpl), Nat.one_mul, Nat.one_mul] at z
    unfold qf_S
    omega
  have totN : qf_tot (qv_rt (qv_setL f1 l j 0) T) (qv_lk (qv_setL f1 l j 0)) + 1 = qf_tot (qv_rt f T) (qv_lk f) := by
    have z := qs_upd (n := 16) (k := v) (f := fun w => qi_ (qv_rt f T w ≠ 0) * qf_S (qv_lk f) (qv_rt f T w)) (g := fun w => qi_ (qv_rt (qv_setL f1 l j 0) T w ≠ 0) * qf_S (qv_lk (qv_setL f1 l j 0)) (qv_rt (qv_setL f1 l j 0) T w)) hv (fun w hw2 hne => by
      try dsimp only
      rw [rtN w hw2]
      by_cases h0 : qv_rt f T w = 0
      · rw [qi_f (fun q => q h0), Nat.zero_mul, Nat.zero_mul]
      · congr 1
        obtain ⟨d1, d2, d3⟩ := qf_live_rt o2 hw2 (by rw [rtN w hw2]; exact h0)
        rw [rtN w hw2] at d1 d2
        exact (SN _ d1 d2 (onlyR w hw2 hne)).symm)
    try dsimp only at z
    rw [rtN v hv, hr, qi_n (fun e => by rw [e] at hpr; exact qf_po0 hpr), Nat.one_mul, Nat.one_mul] at z
    unfold qf_tot
    omega
  -- what is found
  have leafN : ∀ w q, w < 16 → q < 128 → qt_leaf (qv_setL f1 l j 0) T w q = qt_leaf f T w q := fun w q hw2 hq => by
    unfold qt_leaf
    rw [rtN w hw2]
    by_cases h0 : qv_rt f T w = 0
    · rw [if_pos h0, if_pos h0]
    · rw [if_neg h0, if_neg h0]
      obtain ⟨z1, z2, z3⟩ := qf_live_rt ok hw2 h0
      exact lkA _ _ (by omega) (fun e => by rw [e] at z2; omega) (by have := z3.1; omega)
  have ij : ∀ q, q / 32 = i → q % 32 = j → q = 32 * i + j := fun q e1 e2 => by omega
  have leafL : ∀ w q, w < 16 → q < 128 → qt_leaf f T w q = l → w = v ∧ q / 32 = i := fun w q hw2 hq e2 => by
    have hne : qt_leaf f T w q ≠ 0 := fun e3 => by rw [e2] at e3; rw [e3] at hpl; exact qf_po0 hpl
    have hr1 : qv_rt f T w ≠ 0 := fun e3 => hne (by unfold qt_leaf; rw [if_pos e3])
    have el : qt_leaf f T w q = qv_lk f (qv_rt f T w) (q / 32) := by unfold qt_leaf; rw [if_neg hr1]
    obtain ⟨z1, z2, z3⟩ := qf_live_rt ok hw2 hr1
    obtain ⟨y1, y2⟩ := onlyL (qv_rt f T w) (q / 32) z1 (by rw [z2, qf_nl2]; omega) (by rw [← el]; exact e2)
    refine ⟨?_, y2⟩
    by_cases hwv : w = v
    · exact hwv
    · exact absurd y1 (onlyR w hw2 hwv)
  have findN : ∀ w q, w < 16 → q < 128 → ¬ (w = v ∧ q = 32 * i + j) → qt_find (qv_setL f1 l j 0) T w q = qt_find f T w q := fun w q hw2 hq hE => by
    unfold qt_find
    rw [leafN w q hw2 hq]
    by_cases h0 : qt_leaf f T w q = 0
    · rw [if_pos h0, if_pos h0]
    · rw [if_neg h0, if_neg h0]
      by_cases hll2 : qt_leaf f T w q = l
      · obtain ⟨y1, y2⟩ := leafL w q hw2 hq hll2
        rw [hll2, lL _ (by omega), if_neg (fun e3 => hE ⟨y1, ij q y2 e3⟩)]
      · have hr1 : qv_rt f T w ≠ 0 := fun e3 => h0 (by unfold qt_leaf; rw [if_pos e3])
        have el : qt_leaf f T w q = qv_lk f (qv_rt f T w) (q / 32) := by unfold qt_leaf; rw [if_neg hr1]
        obtain ⟨z1, z2, z3⟩ := qf_live_rt ok hw2 hr1
        obtain ⟨y1, y2, y3, -⟩ := qf_live_lk ok z1 (i := q / 32) (by rw [z2, qf_nl2]; omega) (by rw [← el]; exact h0)
        rw [← el] at y1 y2 y3
        exact lkA _ _ (by omega) hll2 (by have := y3.1; omega)
  have szL : qv_sz (qv_setL f1 l j 0) l = lN (qf_cn (qv_lk (qv_setL f1 l j 0)) l) := by
    rw [qv_sz_setL (by omega), (r2 l (by have := hpl.1; omega)).sz, gSl, (hs.1 l (by omega) hll).1, qr_lN_pred (by omega)]
    congr 1
    omega
  refine ⟨qv_setL f1 l j 0, ?_, ⟨⟨o2, by omega, hl2⟩, ⟨fun n hn hln => ?_, fun n hn hln => ?_⟩⟩, by rw [rtN v hv]; exact hr, ?_, by rw [rK i hi]; exact hl, hwl2, szL, ?_, ⟨fun x hx hrr => qA x (fun e => hx (Or.inl e)) (fun e => hx (Or.inr e)) (by omega), fun x hx => ?_, fun k hk => qT.by (by omega)⟩, ⟨fun w q hw2 hq hE => ⟨findN w q hw2 hq hE, fun h0 => ?_⟩, fun w hw2 => by rw [rtN w hw2]⟩, totN⟩
  · unfold qt_dropLink; rw [hf1]
  · by_cases hnl : n = l
    · subst hnl; exact ⟨szL, fun q => absurd rfl q⟩
    · have hnr : n ≠ r := fun e => by rw [e] at hln; omega
      have hnf : 0 < qv_wy f T n := by have := wle n; omega
      rw [(qA n hnl hnr (by have := (qe_wy_po hn).1; omega)).sz, cnN n hn hnl]
      obtain ⟨s1, s2⟩ := hs.1 n hnf hln
      exact ⟨s1, fun _ => s2 hnl⟩
  · have hnl : n ≠ l := fun e => by rw [e] at hln; omega
    have hnf : 0 < qv_wy f T n := by have := wle n; omega
    by_cases hnr : n = r
    · subst hnr
      rw [(qG n hnl (by have := hpr.1; omega)).sz, gSr, hs.2 n (by omega) hlr, qr_lN_pred (by omega)]
      congr 1
      omega
    · rw [(qA n hnl hnr (by have := (qe_wy_po hn).1; omega)).sz, SN n hn hln hnr]
      exact hs.2 n hnf hln
  · have := wle r; omega
  · have e2 : qt_leaf (qv_setL f1 l j 0) T v (32 * i + j) = l := by
      rw [leafN v _ hv (by omega)]
      unfold qt_leaf
      rw [if_neg hr0, hr, show (32 * i + j) / 32 = i by omega]
      exact hl
    unfold qt_find
    rw [e2, if_neg (fun e => by rw [e] at hpl; exact qf_po0 hpl), show (32 * i + j) % 32 = j by omega, lL j hj, if_pos rfl]
  · rcases hx with rfl | rfl
    · exact ⟨hpl, hkl⟩
    · exact ⟨hpr, hkr⟩
  · obtain ⟨-, -, -, -, -, b1, b2, b3, d1, d2, -, -⟩ := qr_found ok hw2 hq h0
    exact qA _ (fun e => by rw [e] at d2; omega) (fun e => by rw [e] at d2; omega) (by have := (qe_wy_po d1).1; omega)
/-- an empty leaf goes -/
theorem qr_drop2 {T K : Nat} (hT : T + 7 ≤ 16) (hK : K + 7 ≤ 16) (hTK : T + 7 ≤ K ∨ K + 7 ≤ T) {f : Nat → Int64} {v r l i : Nat} (hv : v < 16) (hi : i < 4) {lv ps : Nat → Nat} (Z : qz_ok f T lv ps l)
    (hr : qv_rt f T v = r) (hpr : qf_po r) (hwr : qv_wy f T r = 1) (hkr : qv_wy f K r = 0) (hl : qv_lk f r i = l) (hpl : qf_po l) (hwl : qv_wy f T l = 1) (hc0 : qf_cn (qv_lk f) l = 0) :
    ∃ F, qt_dropLink T 1 f r i = F ∧ qz_ok F T lv ps 0 ∧ qr_fr T K f F (fun x => x = r) ∧ qr_same T f F (fun _ _ => False) ∧ qf_tot (qv_rt F T) (qv_lk F) = qf_tot (qv_rt f T) (qv_lk f) := by
  obtain ⟨⟨ok, htot, hl2⟩, hs⟩ := id Z
  have hr0 : qv_rt f T v ≠ 0 := fun e => by rw [hr] at e; rw [e] at hpr; exact qf_po0 hpr
  obtain ⟨-, hlr, -⟩ := qf_live_rt ok hv hr0
  rw [hr] at hlr
  have hir : i < qf_nl (lv r) := by rw [hlr]; exact hi
  have hl0 : qv_lk f r i ≠ 0 := fun e => by rw [hl] at e; rw [e] at hpl; exact qf_po0 hpl
  obtain ⟨-, hll, -, -⟩ := qf_live_lk ok (n := r) (i := i) (by omega) hir hl0
  rw [hl] at hll
  have hll : lv l = 1 := by omega
  have hrl : l ≠ r := fun e => by rw [e] at hll; omega
  obtain ⟨onlyR, -⟩ := qf_only_rt ok hv hr (by have := ok.2.2.1 r hpr; omega)
  obtain ⟨-, onlyL⟩ := qf_only_lk ok (n := r) (i := i) (by omega) hir hl (by have := ok.2.2.1 l hpl; omega)
  have lz : ∀ k, k < 32 → qv_lk f l k = 0 := fun k hk => by
    have z : qi_ (qv_lk f l k ≠ 0) = 0 := qs_all0 (f := fun k => qi_ (qv_lk f l k ≠ 0)) hc0 hk
    by_cases h0 : qv_lk f l k = 0
    · exact h0
    · rw [qi_t h0] at z; omega
  have o0 : qf_ok (qv_rt f T) (qf_lk (qv_lk f) r i 0) (qv_wy f T) lv ps (fun x => qi_ (l = x)) := qf_set_lk ok (by omega) hir (Or.inl rfl) (fun x hp => by
    try dsimp only
    rw [hl, qi_f (p := 0 = x) (fun e => by rw [← e] at hp; exact qf_po0 hp)]
    omega)
  obtain ⟨o1, le1⟩ := qf_rel_ok 1 _ _ l (by omega) o0 (Or.inr ⟨hpl, hll, by rw [qi_t rfl]; exact Nat.le_refl _⟩)
  obtain ⟨r1, r2⟩ := qe_rel hT 1 f l
  have w1 : qv_wy (qt_rel T 1 f l) T = qf_rel (qf_lk (qv_lk f) r i 0) 1 (qv_wy f T) l := by
    rw [r1]
    refine (qf_rel_lk (wy0 := qv_wy f T) (P := fun q m => q = 0 ∨ (q = 1 ∧ m = l)) (fun q m k hm hP hk => ?_) 1 _ l (fun x => Nat.le_refl _) (Or.inr ⟨rfl, rfl⟩)).symm
    rcases hP with hq | ⟨hq, rfl⟩
    · omega
    · rw [qf_lk_n _ _ _ _ _ _ hrl]
      exact ⟨rfl, Or.inl (by omega)⟩
  generalize hf1 : qt_rel T 1 f l = f1 at r1 r2 w1
  have q1 : ∀ x, x ≠ r → qv_eq (qv_setL f1 r i 0) f1 x := fun x hx => qv_eq_setL hx (by omega)
  have qA : ∀ x, x ≠ r → (x < T + 1 ∨ T + 7 ≤ x) → qv_eq (qv_setL f1 r i 0) f x := fun x hx hrr => (q1 x hx).tr (r2 x hrr)
  have qT : qv_eq (qv_setL f1 r i 0) f T := qA T (by have := hpr.1; omega) (by omega)
  have rtN : ∀ w, w < 16 → qv_rt (qv_setL f1 r i 0) T w = qv_rt f T w := fun w hw2 => qT.lk (by omega)
  have wyN : ∀ x, qv_wy (qv_setL f1 r i 0) T x = qv_wy f1 T x := fun x => qe_wy_eq (fun k hk1 hk2 => q1 _ (by have := hpr.1; omega)) x
  have rL : ∀ k, k < 32 → qv_lk (qv_setL f1 r i 0) r k = if k = i then 0 else qv_lk f r k := fun k hk => by
    rw [qv_lk_setL hpr.2 (by omega) (by omega)]
    by_cases hki : k = i
    · rw [if_pos hki, if_pos hki]
    · rw [if_neg hki, if_neg hki]
      exact (r2 r (by have := hpr.1; omega)).lk (by omega)
  have wle : ∀ x, qv_wy (qv_setL f1 r i 0) T x ≤ qv_wy f T x := fun x => by rw [wyN, w1]; exact le1 x
  have o2 : qf_ok (qv_rt (qv_setL f1 r i 0) T) (qv_lk (qv_setL f1 r i 0)) (qv_wy (qv_setL f1 r i 0) T) lv ps (fun _ => 0) := by
    have z : qf_ok (qv_rt f T) (qf_lk (qv_lk f) r i 0) (qv_wy f1 T) lv ps (fun _ => 0) := by
      rw [w1]
      refine qf_set_wy o1 (fun x => Iff.rfl) (fun x hp => ?_)
      try dsimp only
      by_cases hx : x = l
      · rw [qi_t hx, qi_t hx.symm]
      · rw [qi_f hx, qi_f (fun e => hx e.symm)]
    refine qf_congr z rtN (fun m k hm hk => ?_) wyN
    have hk32 := qf_nl_le (lv m)
    by_cases hmr : m = r
    · subst hmr
      rw [rL k (by omega)]
      by_cases hki : k = i
      · subst hki; rw [if_pos rfl, qf_lk_s]
      · rw [if_neg hki, qf_lk_i _ _ _ _ _ hki]
    · rw [qf_lk_n _ _ _ _ _ _ hmr]
      exact (qA m hmr (by have := (qe_wy_po hm).1; omega)).lk (by omega)
  -- nothing leads to the leaf
  have noL : ∀ m k, 0 < qv_wy (qv_setL f1 r i 0) T m → k < qf_nl (lv m) → qv_lk (qv_setL f1 r i 0) m k ≠ l := fun m k hm hk e => by
    have hk32 := qf_nl_le (lv m)
    by_cases hmr : m = r
    · subst hmr
      rw [rL k (by omega)] at e
      by_cases hki : k = i
      · rw [if_pos hki] at e; rw [← e] at hpl; exact qf_po0 hpl
      · rw [if_neg hki] at e
        exact hki (onlyL m k (by omega) hk e).2
    · rw [(qA m hmr (by have := (qe_wy_po hm).1; omega)).lk (show k < 64 by omega)] at e
      have := wle m
      exact hmr (onlyL m k (by omega) hk e).1
  have hdead : qv_wy (qv_setL f1 r i 0) T l = 0 := by
    have z1 : qs_ 16 (fun w => qi_ (qv_rt (qv_setL f1 r i 0) T w = l)) = 0 := qs_zero (fun w hw2 => qi_f (fun e => by
      rcases o2.1 w hw2 with q | ⟨-, q⟩
      · rw [q] at e; rw [← e] at hpl; exact qf_po0 hpl
      · rw [e] at q; omega))
    have z2 : qs_ 784 (fun m => qf_out (qv_lk (qv_setL f1 r i 0)) (qv_wy (qv_setL f1 r i 0) T) lv m l) = 0 := qs_zero (fun m _ => by
      by_cases hm : 0 < qv_wy (qv_setL f1 r i 0) T m
      · rw [qf_out_l hm]
        exact qs_zero (fun k hk => qi_f (noL m k hm hk))
      · exact qf_out_d (by omega))
    have z := o2.2.2.1 l hpl
    unfold qf_in at z
    rw [z1, z2] at z
    exact z
  have cnN : ∀ n, n ≠ r → qf_po n → qf_cn (qv_lk (qv_setL f1 r i 0)) n = qf_cn (qv_lk f) n := fun n hnr hp => qf_cn_congr (fun k hk => (qA n hnr (by have := hp.1; omega)).lk (by omega))
  have leafOf : ∀ n, 0 < qv_wy f T n → lv n = 2 → ∀ k, k < 4 → qv_lk f n k ≠ 0 → qv_lk f n k ≠ r ∧ qf_po (qv_lk f n k) := fun n hn hln k hk h0 => by
    obtain ⟨d1, d2, d3, -⟩ := qf_live_lk ok (n := n) (i := k) hn (by rw [hln]; exact hk) h0
    exact ⟨fun e => by rw [e] at d2; omega, d3⟩
  have SN : ∀ n, 0 < qv_wy f T n → lv n = 2 → qf_S (qv_lk (qv_setL f1 r i 0)) n = qf_S (qv_lk f) n := fun n hn hln => by
    refine qs_congr (fun k hk => ?_)
    try dsimp only
    by_cases hnr : n = r
    · subst hnr
      rw [rL k (by omega)]
      by_cases hki : k = i
      · subst hki
        rw [if_pos rfl, qi_f (fun q => q rfl), Nat.zero_mul, hl, hc0, Nat.mul_zero]
      · rw [if_neg hki]
        by_cases h0 : qv_lk f n k = 0
        · rw [qi_f (fun q => q h0), Nat.zero_mul, Nat.zero_mul]
        · congr 1
          exact cnN _ (leafOf n hn hln k hk h0).1 (leafOf n hn hln k hk h0).2
    · rw [(qA n hnr (by have := (qe_wy_po hn).1; omega)).lk (show k < 64 by omega)]
      by_cases h0 : qv_lk f n k = 0
      · rw [qi_f (fun q => q h0), Nat.zero_mul, Nat.zero_mul]
      · congr 1
        exact cnN _ (leafOf n hn hln k hk h0).1 (leafOf n hn hln k hk h0).2
  have totN : qf_tot (qv_rt (qv_setL f1 r i 0) T) (qv_lk (qv_setL f1 r i 0)) = qf_tot (qv_rt f T) (qv_lk f) := by
    refine qs_congr (fun w hw2 => ?_)
    try dsimp only
    rw [rtN w hw2]
    by_cases h0 : qv_rt f T w = 0
    · rw [qi_f (fun q => q h0), Nat.zero_mul, Nat.zero_mul]
    · congr 1
      obtain ⟨d1, d2, d3⟩ := qf_live_rt ok hw2 h0
      exact SN _ d1 d2
  have findN : ∀ w q, w < 16 → q < 128 → qt_find (qv_setL f1 r i 0) T w q = qt_find f T w q := fun w q hw2 hq => by
    unfold qt_find qt_leaf
    rw [rtN w hw2]
    by_cases h0 : qv_rt f T w = 0
    · simp [h0]
    · rw [if_neg h0, if_neg h0]
      obtain ⟨z1, z2, z3⟩ := qf_live_rt ok hw2 h0
      have other : ∀ x, qf_po x → x ≠ r → qv_lk (qv_setL f1 r i 0) x (q % 32) = qv_lk f x (q % 32) := fun x hx hxr => (qA x hxr (by have := hx.1; omega)).lk (by omega)
      by_cases hwr2 : qv_rt f T w = r
      · rw [hwr2, rL (q / 32) (by omega)]
        by_cases hqi : q / 32 = i
        · rw [if_pos hqi, if_pos rfl, hqi, hl, if_neg (fun e => by rw [e] at hpl; exact qf_po0 hpl), lz _ (by omega)]
        · rw [if_neg hqi]
          by_cases hq0 : qv_lk f r (q / 32) = 0
          · rw [if_pos hq0, if_pos hq0]
          · rw [if_neg hq0, if_neg hq0]
            obtain ⟨y1, y2⟩ := leafOf r (by omega) hlr (q / 32) (by omega) hq0
            exact other _ y2 y1
      · rw [(qA _ hwr2 (by have := z3.1; omega)).lk (show q / 32 < 64 by omega)]
        by_cases hq0 : qv_lk f (qv_rt f T w) (q / 32) = 0
        · rw [if_pos hq0, if_pos hq0]
        · rw [if_neg hq0, if_neg hq0]
          obtain ⟨y1, y2⟩ := leafOf _ z1 z2 (q / 32) (by omega) hq0
          exact other _ y2 y1
  refine ⟨qv_setL f1 r i 0, ?_, ⟨⟨o2, by rw [totN]; exact htot, hl2⟩, ⟨fun n hn hln => ?_, fun n hn hln => ?_⟩⟩, ⟨fun x hx hrr => qA x hx (by omega), fun x hx => by rw [hx]; exact ⟨hpr, hkr⟩, fun k hk => qT.by (by omega)⟩, ⟨fun w q hw2 hq _ => ⟨findN w q hw2 hq, fun h0 => ?_⟩, fun w hw2 => by rw [rtN w hw2]⟩, totN⟩
  · unfold qt_dropLink; rw [hl, hf1]
  · have hnr : n ≠ r := fun e => by rw [e] at hln; omega
    have hnl : n ≠ l := fun e => by rw [e] at hn; omega
    have hnf : 0 < qv_wy f T n := by have := wle n; omega
    rw [(qA n hnr (by have := (qe_wy_po hn).1; omega)).sz, cnN n hnr (qe_wy_po hn)]
    obtain ⟨s1, s2⟩ := hs.1 n hnf hln
    exact ⟨s1, fun _ => s2 hnl⟩
  · have hnf : 0 < qv_wy f T n := by have := wle n; omega
    rw [SN n hnf hln]
    by_cases hnr : n = r
    · subst hnr
      rw [qv_sz_setL (by omega), (r2 n (by have := hpr.1; omega)).sz]
      exact hs.2 n hnf hln
    · rw [(qA n hnr (by have := (qe_wy_po hn).1; omega)).sz]
      exact hs.2 n hnf hln
  · obtain ⟨-, -, -, -, -, b1, b2, b3, d1, d2, -, -⟩ := qr_found ok hw2 hq h0
    exact qA _ (fun e => by rw [e] at d2; omega) (by have := (qe_wy_po d1).1; omega)
