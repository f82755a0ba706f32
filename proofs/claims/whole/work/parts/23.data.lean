/-! the block of a piece, below a leaf that only the root r has, that only v has -/
theorem qr_grow_w {f : Nat → Int64} {r l j x i : Nat} (hi : i < 15) : qv_word (qt_grow f r l j) x i = qv_word f x i := by
  unfold qt_grow
  by_cases h0 : qv_lk f l j = 0
  · rw [if_pos h0]
    unfold qv_addS
    by_cases h1 : x = l
    · subst h1
      rw [qv_word_i (by omega)]
      by_cases h2 : x = r
      · subst h2; rw [qv_word_i (by omega)]
      · rw [qv_word_n h2 (by omega) (by omega)]
    · rw [qv_word_n h1 (by omega) (by omega)]
      by_cases h2 : x = r
      · subst h2; rw [qv_word_i (by omega)]
      · rw [qv_word_n h2 (by omega) (by omega)]
  · rw [if_neg h0]
theorem qr_grow_n {f : Nat → Int64} {r l j x : Nat} (h1 : x ≠ r) (h2 : x ≠ l) : qv_eq (qt_grow f r l j) f x := by
  unfold qt_grow
  by_cases h0 : qv_lk f l j = 0
  · rw [if_pos h0]; exact (qv_eq_addS h2).tr (qv_eq_addS h1)
  · rw [if_neg h0]; exact qv_eq.rf
theorem qr_grow_lk {f : Nat → Int64} {r l j x i : Nat} (hi : i < 60) : qv_lk (qt_grow f r l j) x i = qv_lk f x i := by
  unfold qv_lk; rw [qr_grow_w (by omega)]
theorem qr_grow_sz {f : Nat → Int64} {r l j : Nat} (hr : r < 784) (hl : l < 784) (hrl : l ≠ r) : qv_sz (qt_grow f r l j) r = qv_sz f r + (if qv_lk f l j = 0 then 1 else 0) ∧ qv_sz (qt_grow f r l j) l = qv_sz f l + (if qv_lk f l j = 0 then 1 else 0) := by
  unfold qt_grow
  by_cases h0 : qv_lk f l j = 0
  · rw [if_pos h0, if_pos h0]
    refine ⟨?_, ?_⟩
    · rw [(qv_eq_addS (fun e => hrl e.symm)).sz, qv_sz_addS hr]
    · rw [qv_sz_addS hl, (qv_eq_addS hrl).sz]
  · rw [if_neg h0, if_neg h0]
    refine ⟨?_, ?_⟩
    · simp
    · simp
theorem qr_ownData {T K : Nat} (hT : T + 7 ≤ 16) (hK : K + 7 ≤ 16) (hTK : T + 7 ≤ K ∨ K + 7 ≤ T) {f : Nat → Int64} {h v r l i j : Nat} (h1 : 16 ≤ h) (h2 : h < 784) (hv : v < 16) (hi : i < 4) (hj : j < 32) {lv ps kl kp : Nat → Nat} (Z : qz_ok f T lv ps l) (ZK : qz_st f K kl kp)
    (hr : qv_rt f T v = r) (hpr : qf_po r) (hwr : qv_wy f T r = 1) (hkr : qv_wy f K r = 0) (hl : qv_lk f r i = l) (hpl : qf_po l) (hwl : qv_wy f T l = 1) (hkl : qv_wy f K l = 0) (hroom : qf_tot (qv_rt f T) (qv_lk f) + (if qv_lk f l j = 0 then 1 else 0) ≤ 300) :
    ∃ (c : Nat) (f' : Nat → Int64) (h' : Nat) (lv' ps' : Nat → Nat), qt_ownLink T K 0 (qt_grow f r l j) h l j = (c, f', h') ∧ 16 ≤ h' ∧ h' < 784 ∧ qz_ok f' T lv' ps' 0 ∧ qf_po c ∧ qv_wy f' T c = 1 ∧ lv' c = 0 ∧ qv_wy f K c = 0 ∧ qt_find f' T v (32 * i + j) = c ∧ qr_fr T K f f' (fun x => x = c ∨ x = l ∨ x = r) ∧ qr_same T f f' (fun w q => w = v ∧ q = 32 * i + j) ∧ (∀ k, k < 16 → qv_word f' c k = if qv_lk f l j = 0 then 0 else qv_word f (qv_lk f l j) k) ∧ qf_tot (qv_rt f' T) (qv_lk f') = qf_tot (qv_rt f T) (qv_lk f) + (if qv_lk f l j = 0 then 1 else 0) ∧ (∀ w q, w < 16 → q < 128 → ¬ (w = v ∧ q = 32 * i + j) → qt_find f' T w q ≠ c) := by
  obtain ⟨⟨ok, htot, hl2⟩, hs⟩ := id Z
  have hr0 : qv_rt f T v ≠ 0 := fun e => by rw [hr] at e; rw [e] at hpr; exact qf_po0 hpr
  obtain ⟨-, hlr, -⟩ := qf_live_rt ok hv hr0
  rw [hr] at hlr
  have hl0 : qv_lk f r i ≠ 0 := fun e => by rw [hl] at e; rw [e] at hpl; exact qf_po0 hpl
  obtain ⟨-, hll, -, -⟩ := qf_live_lk ok (n := r) (i := i) (by omega) (by rw [hlr]; exact hi) hl0
  rw [hl] at hll
  have hll : lv l = 1 := by omega
  have hrl : l ≠ r := fun e => by rw [e] at hll; omega
  have hjl : j < qf_nl (lv l) := by rw [hll]; exact hj
  obtain ⟨onlyR, -⟩ := qf_only_rt ok hv hr (by have := ok.2.2.1 r hpr; omega)
  obtain ⟨-, onlyL⟩ := qf_only_lk ok (n := r) (i := i) (by omega) (by rw [hlr]; exact hi) hl (by have := ok.2.2.1 l hpl; omega)
  -- sizes grow; the forest is the same
  generalize hg : qt_grow f r l j = g
  have gA : ∀ x, x ≠ r → x ≠ l → qv_eq g f x := fun x hx1 hx2 => by rw [← hg]; exact qr_grow_n hx1 hx2
  have gL : ∀ x k, k < 60 → qv_lk g x k = qv_lk f x k := fun x k hk => by rw [← hg]; exact qr_grow_lk hk
  have gT : ∀ k, k < 7 → qv_eq g f (T + k) := fun k hk => gA _ (by have := hpr.1; omega) (by have := hpl.1; omega)
  have gK : ∀ k, k < 7 → qv_eq g f (K + k) := fun k hk => gA _ (by have := hpr.1; omega) (by have := hpl.1; omega)
  have gwT : ∀ x, qv_wy g T x = qv_wy f T x := fun x => qe_wy_eq (fun k _ hk => gT k hk) x
  have gwK : ∀ x, qv_wy g K x = qv_wy f K x := fun x => qe_wy_eq (fun k _ hk => gK k hk) x
  have gR : ∀ w, w < 16 → qv_rt g T w = qv_rt f T w := fun w hw2 => (gT 0 (by omega)).lk (by omega)
  have okg : qf_ok (qv_rt g T) (qv_lk g) (qv_wy g T) lv ps (fun _ => 0) := qf_congr ok gR (fun m k _ hk => gL m k (by have := qf_nl_le (lv m); omega)) gwT
  obtain ⟨hx, hw⟩ : (∃ c, qf_po c ∧ qv_wy g T c = 0 ∧ qv_wy g K c = 0) ∧ ∀ x, qv_wy g T x ≤ 100 := by
    obtain ⟨⟨c, y1, y2, y3⟩, y4⟩ := qc_room Z.1 ZK
    exact ⟨⟨c, y1, by rw [gwT]; exact y2, by rw [gwK]; exact y3⟩, fun x => by rw [gwT]; exact y4 x⟩
  have hb : qv_lk g l j = qv_lk f l j := gL l j (by omega)
  have o0 : qf_ok (qv_rt g T) (qf_lk (qv_lk g) l j 0) (qv_wy g T) lv ps (fun x => qi_ (qv_lk g l j = x)) := qf_set_lk okg (by rw [gwT]; omega) hjl (Or.inl rfl) (fun x hp => by
    try dsimp only
    rw [qi_f (p := 0 = x) (fun e => by rw [← e] at hp; exact qf_po0 hp)]
    omega)
  obtain ⟨c, f', h', lv', ps', e, g1, g2, a1, a2, a3, a4, a5, a6, a7, a8, a9, a10, a11, a12⟩ := qo_ownOr (j := j) hT hK hTK (k := 0) (by omega) h1 h2 o0 (fun x _ => rfl) (fun h0 => by
      obtain ⟨z1, z2, z3, z4⟩ := qf_live_lk okg (n := l) (i := j) (by rw [gwT]; omega) hjl h0
      exact ⟨z3, by omega, z4⟩) (fun m k hm hlm hk => qf_lk_n _ _ _ _ _ _ (fun e => by rw [e] at hlm; omega)) hw hx
  have hc16 := a1.1
  have hcT : c < 65536 := by have := a1.2; omega
  -- c is no node of f
  have notC : ∀ x, 0 < qv_wy f T x → (lv x ≠ 0 ∨ x ≠ qv_lk f l j) → x ≠ c := fun x hx2 hlx e => by
    rcases a10 with ⟨q0, q⟩ | ⟨q, -⟩
    · rcases hlx with hlx | hlx
      · obtain ⟨z1, z2, z3, z4⟩ := qf_live_lk okg (n := l) (i := j) (by rw [gwT]; omega) hjl q0
        rw [e, q] at hlx
        omega
      · rw [e, q] at hlx; exact hlx hb
    · rw [gwT] at q; rw [e] at hx2; omega
  have hlc : l ≠ c := notC l (by omega) (Or.inl (by omega))
  have hrc : r ≠ c := notC r (by omega) (Or.inl (by omega))
  have hll' : lv' l = 1 := by rw [(a7 l hlc).1]; exact hll
  have hlr' : lv' r = 2 := by rw [(a7 r hrc).1]; exact hlr
  have hwl' : 0 < qv_wy f' T l := by
    have z := a4.2.2.1 l hpl
    try dsimp only at z
    have y1 : 1 ≤ qf_in (qv_rt g T) (va_up (qf_lk (qv_lk g) l j 0) c (fun k => if qv_lk g l j = 0 then 0 else qv_lk g (qv_lk g l j) k)) (qv_wy f' T) lv' l := by
      have hwr3 : 0 < qv_wy f' T r := by
        have z3 := a4.2.2.1 r hpr
        have y3 : 1 ≤ qf_in (qv_rt g T) (va_up (qf_lk (qv_lk g) l j 0) c (fun k => if qv_lk g l j = 0 then 0 else qv_lk g (qv_lk g l j) k)) (qv_wy f' T) lv' r := qf_in_ge_rt hv (by rw [gR v hv]; exact hr)
        omega
      refine qf_in_ge_lk a4 (n := r) (i := i) hwr3 (by rw [hlr']; exact hi) ?_
      rw [qf_un hrc, qf_lk_n _ _ _ _ _ _ (fun e => hrl e.symm), gL r i (by omega)]
      exact hl
    omega
  have lk0 : va_up (qf_lk (qv_lk g) l j 0) c (fun k => if qv_lk g l j = 0 then 0 else qv_lk g (qv_lk g l j) k) l j = 0 := by rw [qf_un hlc, qf_lk_s]
  have o1 := qf_set_lk (n := l) (i := j) (x := c) (db' := fun _ => 0) a4 hwl' (by rw [hll']; exact hj) (Or.inr ⟨a1, by omega, a6⟩) (fun x hp => by
    try dsimp only
    rw [lk0, qi_f (p := 0 = x) (fun e => by rw [← e] at hp; exact qf_po0 hp)]
    by_cases hxc : x = c
    · rw [qi_t hxc, qi_t hxc.symm]
    · rw [qi_f hxc, qi_f (fun e => hxc e.symm)])
  have q1 : ∀ x, x ≠ l → qv_eq (qv_setL f' l j c) f' x := fun x hx => qv_eq_setL hx (by omega)
  have qG : ∀ x, x ≠ c → x ≠ l → (x < T + 1 ∨ T + 7 ≤ x) → qv_eq (qv_setL f' l j c) g x := fun x hx hxl hrr => (q1 x hxl).tr (a9 x hx hrr)
  have qA : ∀ x, x ≠ c → x ≠ l → x ≠ r → (x < T + 1 ∨ T + 7 ≤ x) → qv_eq (qv_setL f' l j c) f x := fun x hx hxl hxr hrr => (qG x hx hxl hrr).tr (gA x hxr hxl)
  have qT : qv_eq (qv_setL f' l j c) f T := qA T (by omega) (by have := hpl.1; omega) (by have := hpr.1; omega) (by omega)
  have rtN : ∀ w, w < 16 → qv_rt (qv_setL f' l j c) T w = qv_rt f T w := fun w hw2 => qT.lk (by omega)
  have wyN : ∀ x, qv_wy (qv_setL f' l j c) T x = qv_wy f' T x := fun x => qe_wy_eq (fun k hk1 hk2 => q1 _ (by have := hpl.1; omega)) x
  have lkA : ∀ x k, k < 32 → x ≠ c → x ≠ l → (x < T + 1 ∨ T + 7 ≤ x) → qv_lk (qv_setL f' l j c) x k = qv_lk f x k := fun x k hk hxc hxl hrr => by
    rw [(qG x hxc hxl hrr).lk (by omega)]; exact gL x k (by omega)
  have lL : ∀ k, k < 32 → qv_lk (qv_setL f' l j c) l k = if k = j then c else qv_lk f l k := fun k hk => by
    rw [qv_lk_setL hpl.2 (by omega) hcT]
    by_cases hkj : k = j
    · rw [if_pos hkj, if_pos hkj]
    · rw [if_neg hkj, if_neg hkj, (a9 l hlc (by have := hpl.1; omega)).lk (show k < 64 by omega)]
      exact gL l k (by omega)
  have lkN : ∀ m k, 0 < qv_wy f' T m → k < qf_nl (lv' m) → qv_lk (qv_setL f' l j c) m k = qf_lk (va_up (qf_lk (qv_lk g) l j 0) c (fun k => if qv_lk g l j = 0 then 0 else qv_lk g (qv_lk g l j) k)) l j c m k := fun m k hm hk => by
    have hk32 := qf_nl_le (lv' m)
    by_cases hml : m = l
    · subst hml
      rw [lL k (by omega)]
      by_cases hkj : k = j
      · subst hkj; rw [if_pos rfl, qf_lk_s]
      · rw [if_neg hkj, qf_lk_i _ _ _ _ _ hkj, qf_un hlc, qf_lk_i _ _ _ _ _ hkj, gL m k (by omega)]
    · rw [qf_lk_n _ _ _ _ _ _ hml]
      by_cases hmc : m = c
      · subst hmc; rw [a5, qf_nl0] at hk; omega
      · rw [qf_un hmc, qf_lk_n _ _ _ _ _ _ hml]
        exact (qG m hmc hml (by have := (qe_wy_po hm).1; omega)).lk (by omega)
  have o2 : qf_ok (qv_rt (qv_setL f' l j c) T) (qv_lk (qv_setL f' l j c)) (qv_wy (qv_setL f' l j c) T) lv' ps' (fun _ => 0) := qf_congr o1 (fun w hw2 => by rw [rtN w hw2, gR w hw2]) lkN wyN
  have hl2' : ∀ b, lv' b ≤ 2 := fun b => by
    by_cases hbc : b = c
    · subst hbc; omega
    · rw [(a7 b hbc).1]; exact hl2 b
  obtain ⟨-, onlyC⟩ := qf_only_lk o2 (n := l) (i := j) (by rw [wyN]; exact hwl') (by rw [hll']; exact hj) (b := c) (by rw [lL j hj, if_pos rfl]) (by
    have := o2.2.2.1 c a1
    rw [wyN, a2] at this
    omega)
  -- the leaf l is still r's alone
  have liveF : ∀ n, n ≠ c → 0 < qv_wy f' T n → 0 < qv_wy f T n := fun n hnc hn => by rw [← gwT]; exact a11 n hnc hn
  have lvF : ∀ n, n ≠ c → lv' n = lv n := fun n hnc => (a7 n hnc).1
  have cnN : ∀ n, 0 < qv_wy f' T n → lv' n = 1 → n ≠ l → qf_cn (qv_lk (qv_setL f' l j c)) n = qf_cn (qv_lk f) n := fun n hn hln hnl => qf_cn_congr (fun k hk => lkA n k hk (fun e => by rw [e] at hln; omega) hnl (by have := (qe_wy_po hn).1; omega))
  have cnL : qf_cn (qv_lk (qv_setL f' l j c)) l = qf_cn (qv_lk f) l + (if qv_lk f l j = 0 then 1 else 0) := by
    have z := qs_upd (n := 32) (k := j) (f := fun k => qi_ (qv_lk f l k ≠ 0)) (g := fun k => qi_ (qv_lk (qv_setL f' l j c) l k ≠ 0)) hj (fun k hk hne => by rw [lL k hk, if_neg hne])
    try dsimp only at z
    rw [lL j hj, if_pos rfl, qi_n (a := c) (b := 0) (fun e => by rw [e] at a1; exact qf_po0 a1)] at z
    unfold qf_cn
    by_cases h0 : qv_lk f l j = 0
    · rw [qi_f (p := qv_lk f l j ≠ 0) (fun q => q h0)] at z; rw [if_pos h0]; omega
    · rw [qi_n h0] at z; rw [if_neg h0]; omega
  have leafOf : ∀ n, 0 < qv_wy f' T n → lv' n = 2 → ∀ k, k < 4 → qv_lk f n k ≠ 0 → qv_lk (qv_setL f' l j c) n k = qv_lk f n k ∧ 0 < qv_wy f' T (qv_lk f n k) ∧ lv' (qv_lk f n k) = 1 := fun n hn hln k hk h0 => by
    have e2 : qv_lk (qv_setL f' l j c) n k = qv_lk f n k := lkA n k (by omega) (fun e => by rw [e] at hln; omega) (fun e => by rw [e] at hln; omega) (by have := (qe_wy_po hn).1; omega)
    obtain ⟨d1, d2, d3, -⟩ := qf_live_lk o2 (n := n) (i := k) (by rw [wyN]; exact hn) (by rw [hln]; exact hk) (by rw [e2]; exact h0)
    rw [e2, wyN] at d1
    rw [e2] at d2
    exact ⟨e2, d1, by omega⟩
  have SN : ∀ n, 0 < qv_wy f' T n → lv' n = 2 → n ≠ r → qf_S (qv_lk (qv_setL f' l j c)) n = qf_S (qv_lk f) n := fun n hn hln hnr => by
    have hnc : n ≠ c := fun e => by rw [e] at hln; omega
    refine qs_congr (fun k hk => ?_)
    try dsimp only
    by_cases h0 : qv_lk f n k = 0
    · have e2 : qv_lk (qv_setL f' l j c) n k = qv_lk f n k := lkA n k (by omega) hnc (fun e => by rw [e] at hln; omega) (by have := (qe_wy_po hn).1; omega)
      rw [e2, qi_f (fun q => q h0), Nat.zero_mul, Nat.zero_mul]
    · obtain ⟨e2, d1, d2⟩ := leafOf n hn hln k hk h0
      rw [e2]
      congr 1
      refine cnN _ d1 d2 (fun e => hnr ?_)
      exact (onlyL n k (liveF n hnc hn) (by rw [← lvF n hnc, hln]; exact hk) e).1
  have hwr' : 0 < qv_wy f' T r := by
    have z := o2.2.2.1 r hpr
    have y1 : 1 ≤ qf_in (qv_rt (qv_setL f' l j c) T) (qv_lk (qv_setL f' l j c)) (qv_wy (qv_setL f' l j c) T) lv' r := qf_in_ge_rt hv (by rw [rtN v hv]; exact hr)
    rw [wyN] at z
    omega
  have SR : qf_S (qv_lk (qv_setL f' l j c)) r = qf_S (qv_lk f) r + (if qv_lk f l j = 0 then 1 else 0) := by
    have rK : ∀ k, k < 4 → qv_lk (qv_setL f' l j c) r k = qv_lk f r k := fun k hk => lkA r k (by omega) hrc (fun e => hrl e.symm) (by have := hpr.1; omega)
    have z := qs_upd (n := 4) (k := i) (f := fun k => qi_ (qv_lk f r k ≠ 0) * qf_cn (qv_lk f) (qv_lk f r k)) (g := fun k => qi_ (qv_lk (qv_setL f' l j c) r k ≠ 0) * qf_cn (qv_lk (qv_setL f' l j c)) (qv_lk (qv_setL f' l j c) r k)) hi (fun k hk hne => by
      try dsimp only
      rw [rK k hk]
      by_cases h0 : qv_lk f r k = 0
      · rw [qi_f (fun q => q h0), Nat.zero_mul, Nat.zero_mul]
      · congr 1
        obtain ⟨e2, d1, d2⟩ := leafOf r hwr' hlr' k hk h0
        refine (cnN _ d1 d2 (fun e => hne ?_)).symm
        exact (onlyL r k (by omega) (by rw [hlr]; exact hk) e).2)
    try dsimp only at z
    rw [rK i hi, hl, cnL, qi_n (fun e => by rw [e] at hpl; exact qf_po0 hpl), Nat.one_mul, Nat.one_mul] at z
    unfold qf_S
    omega
  have totN : qf_tot (qv_rt (qv_setL f' l j c) T) (qv_lk (qv_setL f' l j c)) = qf_tot (qv_rt f T) (qv_lk f) + (if qv_lk f l j = 0 then 1 else 0) := by
    have z := qs_upd (n := 16) (k := v) (f := fun w => qi_ (qv_rt f T w ≠ 0) * qf_S (qv_lk f) (qv_rt f T w)) (g := fun w => qi_ (qv_rt (qv_setL f' l j c) T w ≠ 0) * qf_S (qv_lk (qv_setL f' l j c)) (qv_rt (qv_setL f' l j c) T w)) hv (fun w hw2 hne => by
      try dsimp only
      rw [rtN w hw2]
      by_cases h0 : qv_rt f T w = 0
      · rw [qi_f (fun q => q h0), Nat.zero_mul, Nat.zero_mul]
      · congr 1
        obtain ⟨d1, d2, d3⟩ := qf_live_rt o2 hw2 (by rw [rtN w hw2]; exact h0)
        rw [rtN w hw2, wyN] at d1
        rw [rtN w hw2] at d2
        exact (SN _ d1 d2 (onlyR w hw2 hne)).symm)
    try dsimp only at z
    rw [rtN v hv, hr, SR, qi_n (fun e => by rw [e] at hpr; exact qf_po0 hpr), Nat.one_mul, Nat.one_mul] at z
    unfold qf_tot
    omega
  -- what is found
  have leafN : ∀ w q, w < 16 → q < 128 → qt_leaf (qv_setL f' l j c) T w q = qt_leaf f T w q := fun w q hw2 hq => by
    unfold qt_leaf
    rw [rtN w hw2]
    by_cases h0 : qv_rt f T w = 0
    · rw [if_pos h0, if_pos h0]
    · rw [if_neg h0, if_neg h0]
      obtain ⟨z1, z2, z3⟩ := qf_live_rt ok hw2 h0
      exact lkA _ _ (by omega) (notC _ z1 (Or.inl (by omega))) (fun e => by rw [e] at z2; omega) (by have := z3.1; omega)
  have ij : ∀ q, q / 32 = i → q % 32 = j → q = 32 * i + j := fun q e1 e2 => by omega
  have leafL : ∀ w q, w < 16 → q < 128 → qt_leaf f T w q = l → w = v ∧ q / 32 = i := fun w q hw2 hq e2 => by
    have hne : qt_leaf f T w q ≠ 0 := fun e3 => by rw [e2] at e3; rw [e3] at hpl; exact qf_po0 hpl
    have hr1 : qv_rt f T w ≠ 0 := fun e3 => hne (by unfold qt_leaf; rw [if_pos e3])
    have el : qt_leaf f T w q = qv_lk f (qv_rt f T w) (q / 32) := by unfold qt_leaf; rw [if_neg hr1]
    obtain ⟨z1, z2, z3⟩ := qf_live_rt ok hw2 hr1
    obtain ⟨y1, y2⟩ := onlyL (qv_rt f T w) (q / 32) z1 (by rw [z2, qf_nl2]; omega) (by rw [← el]; exact e2)
    refine ⟨?_, y2⟩
    by_cases hwv : w = v
    · exact hwv
    · exact absurd y1 (onlyR w hw2 hwv)
  have findN : ∀ w q, w < 16 → q < 128 → ¬ (w = v ∧ q = 32 * i + j) → qt_find (qv_setL f' l j c) T w q = qt_find f T w q := fun w q hw2 hq hE => by
    unfold qt_find
    rw [leafN w q hw2 hq]
    by_cases h0 : qt_leaf f T w q = 0
    · rw [if_pos h0, if_pos h0]
    · rw [if_neg h0, if_neg h0]
      by_cases hll2 : qt_leaf f T w q = l
      · obtain ⟨y1, y2⟩ := leafL w q hw2 hq hll2
        rw [hll2, lL _ (by omega), if_neg (fun e3 => hE ⟨y1, ij q y2 e3⟩)]
      · have hr1 : qv_rt f T w ≠ 0 := fun e3 => h0 (by unfold qt_leaf; rw [if_pos e3])
        have el : qt_leaf f T w q = qv_lk f (qv_rt f T w) (q / 32) := by unfold qt_leaf; rw [if_neg hr1]
        obtain ⟨z1, z2, z3⟩ := qf_live_rt ok hw2 hr1
        obtain ⟨y1, y2, y3, -⟩ := qf_live_lk ok z1 (i := q / 32) (by rw [z2, qf_nl2]; omega) (by rw [← el]; exact h0)
        rw [← el] at y1 y2 y3
        exact lkA _ _ (by omega) (notC _ y1 (Or.inl (by omega))) hll2 (by have := y3.1; omega)
  have findC : ∀ w q, w < 16 → q < 128 → ¬ (w = v ∧ q = 32 * i + j) → qt_find (qv_setL f' l j c) T w q ≠ c := fun w q hw2 hq hE e2 => by
    obtain ⟨-, -, -, -, -, d1, d2, d3, -, -, -, -⟩ := qr_found o2 hw2 hq (by rw [e2]; intro e3; rw [e3] at a1; exact qf_po0 a1)
    obtain ⟨y1, y2⟩ := onlyC _ (q % 32) d1 (by rw [d2, qf_nl1]; omega) (by rw [← d3]; exact e2)
    rw [leafN w q hw2 hq] at y1
    obtain ⟨x1, x2⟩ := leafL w q hw2 hq y1
    exact hE ⟨x1, ij q x2 y2⟩
  refine ⟨c, qv_setL f' l j c, h', lv', ps', ?_, g1, g2, ⟨⟨o2, by rw [totN]; exact hroom, hl2'⟩, ⟨fun n hn hln => ?_, fun n hn hln => ?_⟩⟩, a1, by rw [wyN]; exact a2, a5, by rw [← gwK]; exact a12, ?_, ⟨fun x hx hrr => qA x (fun e => hx (Or.inl e)) (fun e => hx (Or.inr (Or.inl e))) (fun e => hx (Or.inr (Or.inr e))) (by omega), fun x hx => ?_, fun k hk => qT.by (by omega)⟩, ⟨fun w q hw2 hq hE => ⟨findN w q hw2 hq hE, fun h0 => ?_⟩, fun w hw2 => by rw [rtN w hw2]⟩, fun k hk => ?_, totN, findC⟩
  · unfold qt_ownLink; rw [e]
  · rw [wyN] at hn
    by_cases hnl : n = l
    · subst hnl
      rw [cnL]
      refine ⟨?_, fun _ => ?_⟩
      · have s1 : qv_sz (qv_setL f' n j c) n = qv_sz g n := by
          rw [qv_sz_setL (by omega)]
          exact (a9 n hlc (by have := hpl.1; omega)).sz
        have s2 := (qr_grow_sz (f := f) (j := j) hpr.2 hpl.2 hrl).2
        rw [hg] at s2
        rw [s1, s2, (hs.1 n (by omega) hll).1]
        by_cases h0 : qv_lk f n j = 0
        · rw [if_pos h0, if_pos h0]; exact lN_1 _
        · rw [if_neg h0, if_neg h0]; simp
      · have z : qi_ (qv_lk (qv_setL f' n j c) n j ≠ 0) ≤ qf_cn (qv_lk (qv_setL f' n j c)) n := qs_ge1 (f := fun k => qi_ (qv_lk (qv_setL f' n j c) n k ≠ 0)) hj
        rw [lL j hj, if_pos rfl, qi_n (fun e => by rw [e] at a1; exact qf_po0 a1), cnL] at z
        omega
    · have hnc : n ≠ c := fun e => by rw [e] at hln; omega
      have hnr : n ≠ r := fun e => by rw [e] at hln; omega
      rw [(qA n hnc hnl hnr (by have := (qe_wy_po hn).1; omega)).sz, cnN n hn hln hnl]
      obtain ⟨s1, s2⟩ := hs.1 n (liveF n hnc hn) (by rw [← lvF n hnc]; exact hln)
      exact ⟨s1, fun _ => s2 hnl⟩
  · rw [wyN] at hn
    have hnc : n ≠ c := fun e => by rw [e] at hln; omega
    have hnl : n ≠ l := fun e => by rw [e] at hln; omega
    by_cases hnr : n = r
    · subst hnr
      have s1 : qv_sz (qv_setL f' l j c) n = qv_sz g n := (qG n hnc hnl (by have := hpr.1; omega)).sz
      have s2 := (qr_grow_sz (f := f) (j := j) hpr.2 hpl.2 hrl).1
      rw [hg] at s2
      rw [s1, s2, SR, hs.2 n (by omega) hlr]
      by_cases h0 : qv_lk f l j = 0
      · rw [if_pos h0, if_pos h0]; exact lN_1 _
      · rw [if_neg h0, if_neg h0]; simp
    · rw [(qA n hnc hnl hnr (by have := (qe_wy_po hn).1; omega)).sz, SN n hn hln hnr]
      exact hs.2 n (liveF n hnc hn) (by rw [← lvF n hnc]; exact hln)
  · have e2 : qt_leaf (qv_setL f' l j c) T v (32 * i + j) = l := by
      rw [leafN v _ hv (by omega)]
      unfold qt_leaf
      rw [if_neg hr0, hr, show (32 * i + j) / 32 = i by omega]
      exact hl
    unfold qt_find
    rw [e2, if_neg (fun e => by rw [e] at hpl; exact qf_po0 hpl), show (32 * i + j) % 32 = j by omega, lL j hj, if_pos rfl]
  · rcases hx with rfl | rfl | rfl
    · exact ⟨a1, by rw [← gwK]; exact a12⟩
    · exact ⟨hpl, hkl⟩
    · exact ⟨hpr, hkr⟩
  · obtain ⟨-, -, -, -, -, b1, b2, b3, d1, d2, -, -⟩ := qr_found ok hw2 hq h0
    exact qA _ (fun e => findC w q hw2 hq hE (by rw [findN w q hw2 hq hE]; exact e)) (fun e => by rw [e] at d2; omega) (fun e => by rw [e] at d2; omega) (by have := (qe_wy_po d1).1; omega)
  · rw [q1 c (fun e => hlc e.symm) k hk, a8 k hk, hb]
    by_cases h0 : qv_lk f l j = 0
    · rw [if_pos h0, if_pos h0]
    · rw [if_neg h0, if_neg h0]
      obtain ⟨z1, z2, z3, z4⟩ := qf_live_lk ok (n := l) (i := j) (by omega) hjl h0
      exact gA _ (fun e => by rw [e] at z2; omega) (fun e => by rw [e] at z2; omega) k hk
