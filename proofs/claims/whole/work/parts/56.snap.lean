/-! SNAP: the reference copies piece by piece -/
theorem qs_mono {n m : Nat} (h : n ≤ m) (f : Nat → Nat) : qs_ n f ≤ qs_ m f := by
  obtain ⟨d, rfl⟩ : ∃ d, m = n + d := ⟨m - n, by omega⟩
  rw [qs_split]
  omega
theorem qh_sn {R : Nat → Nat} {F : Nat → Nat → Nat} {B : Nat → Nat → Nat} {N : Nat → Nat} {th : Nat → Bool} {pl : Nat → Nat} {mk nt bt : Nat → Int32} {us : Nat → Bool} {mm : Nat} (h : qh_ R F B N th pl mk nt bt us mm) {v o : Nat} (hv : v < 16) (ho : o < 16) (hne : o ≠ v) (hz : ∀ p, p < 128 → F v p = 0) (hroom : qs_ 2048 (fun k => qi_ (pl k ≠ 0)) + qm_ct pl (128 * o) 128 ≤ 300) : ∀ i, i ≤ 128 →
    qh_ R (fun w q => if w = v ∧ q < i then F o q else F w q) B N th (qm_sn v o pl mk bt us i).1 (qm_sn v o pl mk bt us i).2.1 nt (qm_sn v o pl mk bt us i).2.2.1 (qm_sn v o pl mk bt us i).2.2.2 mm ∧
    qs_ 2048 (fun k => qi_ ((qm_sn v o pl mk bt us i).1 k ≠ 0)) = qs_ 2048 (fun k => qi_ (pl k ≠ 0)) + qm_ct pl (128 * o) i ∧
    (∀ k, (k < 128 * v ∨ 128 * v + 128 ≤ k) → (qm_sn v o pl mk bt us i).1 k = pl k ∧ (qm_sn v o pl mk bt us i).2.1 k = mk k) ∧
    (∀ k, 38400 ≤ k → (qm_sn v o pl mk bt us i).2.2.1 k = bt k) ∧ (∀ x, 300 ≤ x → (qm_sn v o pl mk bt us i).2.2.2 x = us x) := by
  intro i
  induction i with
  | zero =>
    intro _
    refine ⟨?_, ?_, fun _ _ => ⟨rfl, rfl⟩, fun _ _ => rfl, fun _ _ => rfl⟩
    · exact qh_congr (F' := fun w q => if w = v ∧ q < 0 then F o q else F w q) h (fun _ _ => Iff.rfl) (fun w q _ _ => if_neg (fun z => by have := z.2; omega)) (fun _ _ _ _ _ _ _ => rfl) (fun _ _ => rfl) (fun _ _ => rfl) (fun _ _ => rfl) (fun _ _ => rfl) (fun _ _ => rfl) (fun _ _ => rfl) (fun _ _ => rfl) (Nat.le_refl _)
    · show qs_ 2048 (fun k => qi_ (pl k ≠ 0)) = qs_ 2048 (fun k => qi_ (pl k ≠ 0)) + 0
      rw [Nat.add_zero]
  | succ i ih =>
    intro hi
    obtain ⟨g1, g2, g3, g4, g5⟩ := ih (by omega)
    have hpo := (g3 (128 * o + i) (by omega)).1
    have hpv := h.2.1 v i hv (by omega)
    have hpo2 := h.2.1 o i ho (by omega)
    by_cases h0 : pl (128 * o + i) = 0
    · rw [qm_sn_z (by rw [hpo]; exact h0), qm_ct_z h0]
      refine ⟨?_, g2, g3, g4, g5⟩
      refine qh_congr (F' := fun w q => if w = v ∧ q < i + 1 then F o q else F w q) g1 (fun _ _ => Iff.rfl) (fun w q _ hq => ?_) (fun _ _ _ _ _ _ _ => rfl) (fun _ _ => rfl) (fun _ _ => rfl) (fun _ _ => rfl) (fun _ _ => rfl) (fun _ _ => rfl) (fun _ _ => rfl) (fun _ _ => rfl) (Nat.le_refl _)
      show (if w = v ∧ q < i + 1 then F o q else F w q) = if w = v ∧ q < i then F o q else F w q
      by_cases hE : w = v ∧ q < i
      · rw [if_pos hE, if_pos (by omega)]
      · rw [if_neg hE]
        by_cases hE2 : w = v ∧ q < i + 1
        · have e : q = i := by omega
          rw [if_pos hE2, hE2.1, e, hz i (by omega)]
          exact hpo2.mpr h0
        · rw [if_neg hE2]
    · have e := qm_sn_n (v := v) (o := o) (pl := pl) (mk := mk) (bt := bt) (us := us) (i := i) (by rw [hpo]; exact h0)
      rw [e, qm_ct_n h0]
      clear e
      generalize qm_sn v o pl mk bt us i = S at g1 g2 g3 g4 g5 hpo ⊢
      obtain ⟨pl1, mk1, bt1, us1⟩ := S
      dsimp only at g1 g2 g3 g4 g5 hpo ⊢
      have hm1 := qs_mono (n := i + 1) (m := 128) (by omega) (fun j => qi_ (pl (128 * o + j) ≠ 0))
      rw [← qh_ct pl (128 * o) (i + 1), ← qh_ct pl (128 * o) 128, qm_ct_n h0] at hm1
      obtain ⟨f1, f2, f3⟩ := qh_fr g1 (by omega)
      generalize qm_fr us1 = fr at f1 f2 f3 ⊢
      have hFo : F o i ≠ 0 := fun z => h0 (hpo2.mp z)
      have hFi : ∀ w, w ≠ v → (if w = v ∧ i < i then F o i else F w i) = F w i := fun w hw => if_neg (fun z => hw z.1)
      have hFv : (if v = v ∧ i < i then F o i else F v i) = 0 := by rw [if_neg (by omega)]; exact hz i (by omega)
      have hk0 : pl1 (128 * v + i) = 0 := (g1.2.1 v i hv (by omega)).mp hFv
      have hu : us1 (pl1 (128 * o + i) - 1) = true := by
        have q6 := g1.2.2.2.2.2.1 (128 * o + i) (by omega)
        exact (g1.2.2.2.2.2.2.2.1 (pl1 (128 * o + i) - 1) (by omega)).mpr ⟨128 * o + i, by omega, by omega⟩
      have hyf : pl1 (128 * o + i) - 1 ≠ fr := fun z => by rw [z, f2] at hu; exact absurd hu (by decide)
      have ebt : ∀ k, qv_for 128 (fun g j => upd g (128 * fr + j) (vp_nar .byte (g (128 * (pl1 (128 * o + i) - 1) + j)))) (qv_for 128 (fun g j => upd g (128 * fr + j) (vp_nar .byte (nI 0))) bt1) k = if 128 * fr ≤ k ∧ k < 128 * fr + 128 then vp_nar .byte (bt1 (128 * (pl1 (128 * o + i) - 1) + (k - 128 * fr))) else bt1 k := fun k => by
        have q2 : ∀ k, qv_for 128 (fun g j => upd g (128 * fr + j) (vp_nar .byte (nI 0))) bt1 k = if 128 * fr ≤ k ∧ k < 128 * fr + 128 then vp_nar .byte (nI 0) else bt1 k := fun k => qh_fill (idx := fun j => 128 * fr + j) (a := 128 * fr) (fun j => rfl) (vp_nar .byte (nI 0)) bt1 128 k
        rw [qh_cpy _ 128 (by omega)]
        by_cases hE : 128 * fr ≤ k ∧ k < 128 * fr + 128
        · rw [if_pos hE, if_pos hE, q2, if_neg (by omega)]
        · rw [if_neg hE, if_neg hE, q2, if_neg hE]
      refine ⟨qh_add (x := F o i) g1 hv (by omega) hFv hFo f1 f2 (fun w hw hwv g0 => ?_) (Nat.le_refl _) (g1.2.2.2.2.2.2.2.2 (128 * o + i) (by omega)) (fun _ _ => Iff.rfl) (fun w q hw hq => ?_) (fun _ _ _ _ _ _ _ => rfl) (fun _ _ => rfl) (fun k hk hE => ?_) (fun j hj => ?_), ?_, fun k hk => ⟨?_, ?_⟩, fun k hk => ?_, fun x hx => ?_⟩
      · have q := g1.2.2.2.1 o w i ho hw (by omega)
        try dsimp only at q
        rw [hFi o hne, hFi w hwv] at q
        try dsimp only at g0
        try dsimp only
        rw [hFi w hwv] at g0
        rw [hFi w hwv]
        exact q hFo g0
      · show (if w = v ∧ q < i + 1 then F o q else F w q) = if w = v ∧ q = i then F o i else if w = v ∧ q < i then F o q else F w q
        by_cases hE : w = v ∧ q = i
        · rw [if_pos hE, if_pos (by omega), hE.2]
        · rw [if_neg hE]
          by_cases hE2 : w = v ∧ q < i
          · rw [if_pos hE2, if_pos (by omega)]
          · rw [if_neg hE2, if_neg (by omega)]
      · rw [ebt, if_neg hE]
      · rw [ebt, if_pos (by omega), qh_nar, show 128 * fr + j - 128 * fr = j by omega]
        have q := g1.2.2.1 o i j ho (by omega) hj
        try dsimp only at q
        rw [hFi o hne] at q
        exact q hFo
      · have h2 := qs_upd (n := 2048) (k := 128 * v + i) (f := fun k => qi_ (pl1 k ≠ 0)) (g := fun k => qi_ (va_up pl1 (128 * v + i) (fr + 1) k ≠ 0)) (by omega) (fun j _ hj => by
          show qi_ _ = qi_ _
          rw [qf_un hj])
        try dsimp only at h2
        rw [qf_us, qi_f (p := pl1 (128 * v + i) ≠ 0) (fun z => z hk0), qi_n (show fr + 1 ≠ 0 by omega)] at h2
        omega
      · rw [qf_un (by omega)]; exact (g3 k hk).1
      · rw [qa_un (by omega)]; exact (g3 k hk).2
      · rw [ebt, if_neg (by omega)]; exact g4 k hk
      · rw [qf_un (by omega)]; exact g5 x hx
theorem qh_snap {hn T K : Nat} {f g : Nat → Int64} {hd : Nat} {th : Nat → Bool} {pl : Nat → Nat} {mk nt bt : Nat → Int32} {us : Nat → Bool} {mm kc J : Nat} (S : qh_on hn T K f g hd th pl mk nt bt us mm kc J) {v o : Nat} (hv : v < 16) (ho : o < 16) (hr : qv_rt f T v = 0) (hro : qv_rt f T o ≠ 0) (hroom : qs_ 16 (fun v => qm_ct pl (128 * v) 128) + qm_ct pl (128 * o) 128 ≤ 300) :
    (∀ i, i < 128 → ¬ (qm_sn v o pl mk bt us i).1 (128 * o + i) = 0 → qm_fr (qm_sn v o pl mk bt us i).2.2.2 < 600) ∧ (∀ i, i ≤ 128 → ∀ k, (qm_sn v o pl mk bt us i).1 k ≤ 600) ∧ qh_on hn T K (qt_addTwin T f v o) g hd (va_up th v true) (qm_sn v o pl mk bt us 128).1 (qm_sn v o pl mk bt us 128).2.1 nt (qm_sn v o pl mk bt us 128).2.2.1 (qm_sn v o pl mk bt us 128).2.2.2 mm kc J := by
  obtain ⟨⟨kl, kp, ZK⟩, -⟩ := S.zk
  obtain ⟨hT, a2, a3, a4, a5, a6, a7, ⟨lv, ps, Z⟩, a9, a10, a11, a12, a13⟩ := id S
  obtain ⟨i1, i2, i3, i4, i5, i6, i7, -⟩ := hT.b
  have hne : o ≠ v := fun e => hro (by rw [e]; exact hr)
  have hz : ∀ p, p < 128 → qt_find f T v p = 0 := fun p _ => by
    unfold qt_find qt_leaf
    rw [if_pos hr, if_pos rfl]
  have hsn := qh_sn a9 hv ho hne hz (by rw [qh_2048]; exact hroom)
  refine ⟨fun i hi h0 => ?_, fun i hi k => ?_, ?_⟩
  · obtain ⟨g1, g2, g3, g4, g5⟩ := hsn i (by omega)
    rw [(g3 (128 * o + i) (by omega)).1] at h0
    have hm1 := qs_mono (n := i + 1) (m := 128) (by omega) (fun j => qi_ (pl (128 * o + j) ≠ 0))
    rw [← qh_ct pl (128 * o) (i + 1), ← qh_ct pl (128 * o) 128, qm_ct_n h0] at hm1
    have := (qh_fr g1 (by rw [g2, qh_2048]; omega)).1
    omega
  · obtain ⟨g1, g2, g3, g4, g5⟩ := hsn i hi
    by_cases hk : k < 2048
    · have := g1.2.2.2.2.2.1 k hk; omega
    · rw [(g3 k (by omega)).1]; exact a4 k
  · obtain ⟨g1, g2, g3, g4, g5⟩ := hsn 128 (Nat.le_refl _)
    have hs := qh_size Z a9 ho
    rw [qi_n hro, Nat.one_mul] at hs
    obtain ⟨f', e, b3, b4, b5, b6, b7⟩ := qr_addTwin i1 i2 i3 hv ho Z ZK.1 hr hro (by rw [qh_tot Z a9, hs]; exact hroom)
    rw [e]
    have hq : ∀ w q, w < 16 → q < 128 → qt_find f T w q ≠ 0 → qv_eq f' f (qt_find f T w q) := fun w q hw hq h0 => by
      obtain ⟨-, -, -, -, -, -, -, -, d1, -, -, -⟩ := qr_found Z.1.1 hw hq h0
      exact b5.1 _ (fun z => z) (by have := (qe_wy_po d1).1; omega)
    refine qh_step S b5.1 b5.2.1 a2 a3 ⟨lv, ps, b3⟩ (qh_th (qh_congr (R' := qv_rt f T) (F' := qt_find f' T) (B' := qv_by f') (N' := qv_nt f' T) g1 (fun _ _ => Iff.rfl) (fun w q hw hq => ?_) (fun w q i hw hq2 hi h0 => ?_) b5.2.2 (fun _ _ => rfl) (fun _ _ => rfl) (fun _ _ => rfl) (fun _ _ => rfl) (fun _ _ => rfl) (fun _ _ => rfl) (Nat.le_refl _)) (fun w hw => ?_)) (Nat.le_refl _) a5 (Nat.le_refl _) (fun w hw => qf_un (by omega)) (fun k hk => (g3 k (by omega)).1) (fun k hk => (g3 k (by omega)).2) (fun _ _ => rfl) g4 g5
    · rw [b6 w q hw hq]
      show _ = if w = v ∧ q < 128 then qt_find f T o q else qt_find f T w q
      by_cases hwv : w = v
      · rw [if_pos hwv, if_pos ⟨hwv, hq⟩]
      · rw [if_neg hwv, if_neg (fun z => hwv z.1)]
    · try dsimp only at h0
      try dsimp only
      by_cases hwv : w = v
      · rw [if_pos ⟨hwv, hq2⟩] at h0 ⊢
        exact (hq o q ho hq2 h0).by hi
      · rw [if_neg (fun z => hwv z.1)] at h0 ⊢
        exact (hq w q hw hq2 h0).by hi
    · rw [b4 w hw]
      by_cases hwv : w = v
      · rw [hwv, qf_us, if_pos rfl]; exact ⟨fun _ => rfl, fun _ => hro⟩
      · rw [if_neg hwv, qf_un hwv]; exact a9.1 w hw
