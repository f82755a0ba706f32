/-! THE STATE OF BOTH: what is now (image f, tables at T), what is kept (image g, tables at K), and the reference's two halves -/
/-- the same tables, the same live blocks: the same forest -/
theorem qz_frame2 {f f' : Nat → Int64} {T T' : Nat} {lv ps : Nat → Nat} {e : Nat} (h : qz_ok f T lv ps e) (hrt : ∀ v, v < 16 → qv_rt f' T' v = qv_rt f T v) (hw : ∀ b, qv_wy f' T' b = qv_wy f T b) (hp : ∀ b, 0 < qv_wy f T b → qv_eq f' f b) : qz_ok f' T' lv ps e := by
  obtain ⟨⟨ok, htot, hl2⟩, hs⟩ := h
  have hwy : qv_wy f' T' = qv_wy f T := funext hw
  have hlk : ∀ n i, 0 < qv_wy f T n → i < 32 → qv_lk f' n i = qv_lk f n i := fun n i hn hi => (hp n hn).lk (by omega)
  have o2 := qf_congr (rt' := qv_rt f' T') (lk' := qv_lk f') (wy' := qv_wy f' T') ok hrt (fun m i hm hi => hlk m i hm (by have := qf_nl_le (lv m); omega)) hw
  have hcn : ∀ n, 0 < qv_wy f T n → qf_cn (qv_lk f') n = qf_cn (qv_lk f) n := fun n hn => qf_cn_congr (fun i hi => hlk n i hn hi)
  have hS : ∀ n, 0 < qv_wy f T n → lv n = 2 → qf_S (qv_lk f') n = qf_S (qv_lk f) n := fun n hn h2 => (qf_S_congr (fun i hi => (hlk n i hn (by omega)).symm) (fun i hi h0 j hj => by
    obtain ⟨q, -, -, -⟩ := qf_live_lk ok hn (i := i) (by rw [h2]; exact hi) h0
    exact (hlk _ j q hj).symm)).symm
  refine ⟨⟨o2, ?_, hl2⟩, ⟨fun n hn h1 => ?_, fun n hn h2 => ?_⟩⟩
  · have e1 : qf_tot (qv_rt f' T') (qv_lk f') = qf_tot (qv_rt f T) (qv_lk f) := qs_congr (fun v hv => by
      show qi_ _ * _ = qi_ _ * _
      rw [hrt v hv]
      by_cases h0 : qv_rt f T v = 0
      · rw [qi_f (fun q => q h0), Nat.zero_mul, Nat.zero_mul]
      · obtain ⟨q1, q2, -⟩ := qf_live_rt ok hv h0
        rw [hS _ q1 q2])
    rw [e1]
    exact htot
  · rw [hwy] at hn
    rw [(hp n hn).sz, hcn n hn]
    exact hs.1 n hn h1
  · rw [hwy] at hn
    rw [(hp n hn).sz, hS n hn h2]
    exact hs.2 n hn h2
theorem qz_find {f f' : Nat → Int64} {T T' : Nat} {lv ps : Nat → Nat} {e : Nat} (h : qz_ok f T lv ps e) (hrt : ∀ v, v < 16 → qv_rt f' T' v = qv_rt f T v) (hp : ∀ b, 0 < qv_wy f T b → qv_eq f' f b) : ∀ w q, w < 16 → q < 128 → qt_find f' T' w q = qt_find f T w q ∧ (qt_find f T w q ≠ 0 → qv_eq f' f (qt_find f T w q)) := by
  have ok := h.1.1
  intro w q hw hq
  refine ⟨?_, fun h0 => ?_⟩
  · by_cases h0 : qv_rt f T w = 0
    · have e1 : qt_leaf f' T' w q = 0 := by unfold qt_leaf; rw [hrt w hw, if_pos h0]
      have e2 : qt_leaf f T w q = 0 := by unfold qt_leaf; rw [if_pos h0]
      unfold qt_find; rw [if_pos e1, if_pos e2]
    · obtain ⟨q1, q2, -⟩ := qf_live_rt ok hw h0
      have e2 : qt_leaf f T w q = qv_lk f (qv_rt f T w) (q / 32) := by unfold qt_leaf; rw [if_neg h0]
      have e1 : qt_leaf f' T' w q = qv_lk f (qv_rt f T w) (q / 32) := by unfold qt_leaf; rw [hrt w hw, if_neg h0]; exact (hp _ q1).lk (by omega)
      unfold qt_find
      rw [e1, e2]
      by_cases h3 : qv_lk f (qv_rt f T w) (q / 32) = 0
      · rw [if_pos h3, if_pos h3]
      · rw [if_neg h3, if_neg h3]
        obtain ⟨z1, -, -, -⟩ := qf_live_lk ok q1 (i := q / 32) (by rw [q2, qf_nl2]; omega) h3
        exact (hp _ z1).lk (by omega)
  · obtain ⟨-, -, -, -, -, -, -, -, d1, -, -, -⟩ := qr_found ok hw hq h0
    exact hp _ d1
abbrev qh_I (f : Nat → Int64) (T : Nat) (th : Nat → Bool) (pl : Nat → Nat) (mk nt bt : Nat → Int32) (us : Nat → Bool) (mm : Nat) : Prop := qh_ (qv_rt f T) (qt_find f T) (qv_by f) (qv_nt f T) th pl mk nt bt us mm
def qh_K (g : Nat → Int64) (K : Nat) (th : Nat → Bool) (pl : Nat → Nat) (mk nt bt : Nat → Int32) (us : Nat → Bool) (mm : Nat) : Prop := (∃ kl kp, qz_ok g K kl kp 0) ∧ qh_I g K (fun v => th (16 + v)) (fun k => pl (2048 + k) - 300) (fun k => mk (2048 + k)) (fun i => nt (32 + i)) (fun k => bt (38400 + k)) (fun x => us (300 + x)) mm ∧ (∀ k, 2048 ≤ k → k < 4096 → pl k = 0 ∨ 301 ≤ pl k)
def qh_H (g : Nat → Int64) (hn kc : Nat) : Prop := qv_word g hn 0 = lN (kc + 1) ∧ ∃ x, x < kc + 1 ∧ qv_word g (1 - hn) 0 = lN x
def qh_T (hn T K : Nat) : Prop := (hn = 0 ∧ T = 9 ∧ K = 2) ∨ (hn = 1 ∧ T = 2 ∧ K = 9)
theorem qh_T.b {hn T K : Nat} (h : qh_T hn T K) : T + 7 ≤ 16 ∧ K + 7 ≤ 16 ∧ (T + 7 ≤ K ∨ K + 7 ≤ T) ∧ hn < 2 ∧ 2 ≤ T ∧ 2 ≤ K ∧ K = 2 + hn * 7 ∧ qh_T (1 - hn) K T := by
  unfold qh_T at *
  omega
/-- power is on -/
def qh_on (hn T K : Nat) (f g : Nat → Int64) (hd : Nat) (th : Nat → Bool) (pl : Nat → Nat) (mk nt bt : Nat → Int32) (us : Nat → Bool) (mm kc J : Nat) : Prop := qh_T hn T K ∧ 16 ≤ hd ∧ hd < 784 ∧ (∀ k, pl k ≤ 600) ∧ mm ≤ J ∧ kc ≤ J ∧ qh_K g K th pl mk nt bt us mm ∧ (∃ lv ps, qz_ok f T lv ps 0) ∧ qh_I f T th pl mk nt bt us mm ∧ (∀ k, k < 7 → qv_eq f g (K + k)) ∧ (∀ b, 0 < qv_wy g K b → qv_eq f g b) ∧ qh_H g hn kc ∧ qv_word f hn 0 = qv_word g hn 0
/-- power is off: the medium alone -/
def qh_off (g : Nat → Int64) (hd : Nat) (th : Nat → Bool) (pl : Nat → Nat) (mk nt bt : Nat → Int32) (us : Nat → Bool) (mm kc J : Nat) : Prop := 16 ≤ hd ∧ hd < 784 ∧ (∀ k, pl k ≤ 600) ∧ mm ≤ J ∧ kc ≤ J ∧ (∀ k, k < 2048 → ∃ m, m ≤ mm ∧ mk k = nI m) ∧ ∃ hm T K, qh_T hm T K ∧ qh_K g K th pl mk nt bt us mm ∧ qh_H g hm kc
section QS
variable {hn T K : Nat} {f f' g g' : Nat → Int64} {hd hd' : Nat} {th th' : Nat → Bool} {pl pl' : Nat → Nat} {mk mk' nt nt' bt bt' : Nat → Int32} {us us' : Nat → Bool} {mm mm' kc J J' : Nat}
theorem qh_on.up (h : qh_on hn T K f g hd th pl mk nt bt us mm kc J) (hJ : J ≤ J') : qh_on hn T K f g hd th pl mk nt bt us mm kc J' := by
  obtain ⟨a1, a2, a3, a4, a5, a6, a7⟩ := h
  exact ⟨a1, a2, a3, a4, by omega, by omega, a7⟩
theorem qh_off.up (h : qh_off g hd th pl mk nt bt us mm kc J) (hJ : J ≤ J') : qh_off g hd th pl mk nt bt us mm kc J' := by
  obtain ⟨a2, a3, a4, a5, a6, a7⟩ := h
  exact ⟨a2, a3, a4, by omega, by omega, a7⟩
theorem qh_K.hi (h : qh_K g K th pl mk nt bt us mm) (hm : mm ≤ mm') (t1 : ∀ v, 16 ≤ v → th' v = th v) (t2 : ∀ k, 2048 ≤ k → pl' k = pl k) (t3 : ∀ k, 2048 ≤ k → mk' k = mk k) (t4 : ∀ i, 32 ≤ i → nt' i = nt i) (t5 : ∀ k, 38400 ≤ k → bt' k = bt k) (t6 : ∀ x, 300 ≤ x → us' x = us x) : qh_K g K th' pl' mk' nt' bt' us' mm' := by
  obtain ⟨a1, a2, a3⟩ := h
  refine ⟨a1, qh_congr a2 (fun _ _ => Iff.rfl) (fun _ _ _ _ => rfl) (fun _ _ _ _ _ _ _ => rfl) (fun _ _ => rfl) (fun v _ => t1 _ (by omega)) (fun k _ => ?_) (fun k _ => t3 _ (by omega)) (fun i _ => t4 _ (by omega)) (fun k _ => ?_) (fun x _ => t6 _ (by omega)) hm, fun k h1 h2 => by rw [t2 k h1]; exact a3 k h1 h2⟩
  · show pl' (2048 + k) - 300 = pl (2048 + k) - 300
    rw [t2 _ (by omega)]
  · show bt' (38400 + k) &&& nI 255 = bt (38400 + k) &&& nI 255
    rw [t5 _ (by omega)]
/-- the kept forest is in memory too -/
theorem qh_on.zk (h : qh_on hn T K f g hd th pl mk nt bt us mm kc J) : (∃ kl kp, qz_ok f K kl kp 0) ∧ ∀ b, qv_wy f K b = qv_wy g K b := by
  obtain ⟨hT, -, -, -, -, -, ⟨⟨kl, kp, ZK⟩, -, -⟩, -, -, a10, a11, -, -⟩ := h
  exact ⟨⟨kl, kp, qz_frame ZK a10 a11⟩, fun b => qe_wy_eq (fun k _ hk => a10 k hk) b⟩
theorem qh_step (S : qh_on hn T K f g hd th pl mk nt bt us mm kc J) {X : Nat → Prop} (fr1 : ∀ x, ¬ X x → (x < T ∨ T + 7 ≤ x) → qv_eq f' f x) (fr2 : ∀ x, X x → qf_po x ∧ qv_wy f K x = 0) (b1 : 16 ≤ hd') (b2 : hd' < 784) (Z' : ∃ lv ps, qz_ok f' T lv ps 0) (h' : qh_I f' T th' pl' mk' nt' bt' us' mm') (hm : mm ≤ mm') (hJ : mm' ≤ J') (hJ2 : J ≤ J') (t1 : ∀ v, 16 ≤ v → th' v = th v) (t2 : ∀ k, 2048 ≤ k → pl' k = pl k) (t3 : ∀ k, 2048 ≤ k → mk' k = mk k) (t4 : ∀ i, 32 ≤ i → nt' i = nt i) (t5 : ∀ k, 38400 ≤ k → bt' k = bt k) (t6 : ∀ x, 300 ≤ x → us' x = us x) : qh_on hn T K f' g hd' th' pl' mk' nt' bt' us' mm' kc J' := by
  obtain ⟨-, zw⟩ := S.zk
  obtain ⟨hT, a2, a3, a4, a5, a6, a7, -, -, a10, a11, a12, a13⟩ := S
  obtain ⟨i1, i2, i3, i4, i5, i6, i7, -⟩ := hT.b
  have nX : ∀ x, x < 16 → ¬ X x := fun x hx hX => by have := (fr2 x hX).1.1; omega
  refine ⟨hT, b1, b2, fun k => ?_, hJ, by omega, a7.hi hm t1 t2 t3 t4 t5 t6, Z', h', fun k hk => (fr1 (K + k) (nX _ (by omega)) (by omega)).tr (a10 k hk), fun b hb => (fr1 b (fun hX => ?_) (by have := (qe_wy_po hb).1; omega)).tr (a11 b hb), a12, (fr1 hn (nX _ (by omega)) (by omega) 0 (by omega)).trans a13⟩
  · by_cases hk : k < 2048
    · have := h'.2.2.2.2.2.1 k hk; omega
    · rw [t2 k (by omega)]; exact a4 k
  · have := (fr2 b hX).2
    rw [zw b] at this
    omega
/-- make -/
theorem qh_make (S : qh_on hn T K f g hd th pl mk nt bt us mm kc J) {v : Nat} (hv : v < 16) (hr : qv_rt f T v = 0) : qh_on hn T K (qt_addEmpty T K f hd v).1 g (qt_addEmpty T K f hd v).2 (va_up th v true) pl mk nt bt us mm kc J := by
  obtain ⟨⟨kl, kp, ZK⟩, -⟩ := S.zk
  obtain ⟨hT, a2, a3, a4, a5, a6, a7, ⟨lv, ps, Z⟩, a9, a10, a11, a12, a13⟩ := id S
  obtain ⟨i1, i2, i3, i4, i5, i6, i7, -⟩ := hT.b
  obtain ⟨f', h', lv', ps', c, e, b1, b2, b3, b4, b5, b6, b7, b8⟩ := qr_addEmpty i1 i2 i3 a2 a3 hv Z ZK.1 hr
  rw [e]
  dsimp only
  refine qh_step S b6.1 b6.2.1 b1 b2 ⟨lv', ps', b3⟩ (qh_th (qh_congr (R' := qv_rt f T) (F' := qt_find f' T) (B' := qv_by f') (N' := qv_nt f' T) a9 (fun _ _ => Iff.rfl) (fun w p hw hp => (b7 w p hw hp).1) (fun w p i hw hp hi h0 => ((b7 w p hw hp).2 h0).by hi) b6.2.2 (fun _ _ => rfl) (fun _ _ => rfl) (fun _ _ => rfl) (fun _ _ => rfl) (fun _ _ => rfl) (fun _ _ => rfl) (Nat.le_refl _)) (fun w hw => ?_)) (Nat.le_refl _) a5 (Nat.le_refl _) (fun w hw => qf_un (by omega)) (fun _ _ => rfl) (fun _ _ => rfl) (fun _ _ => rfl) (fun _ _ => rfl) (fun _ _ => rfl)
  by_cases hwv : w = v
  · rw [hwv, qf_us]; exact ⟨fun _ => rfl, fun _ => b4⟩
  · rw [b5 w hw hwv, qf_un hwv]; exact a9.1 w hw
theorem qh_usE {a b : Bool} (h : a = true ↔ b = true) : a = b := by
  cases a <;> cases b <;> simp_all
theorem qh_ru_hi {b n : Nat} (h6 : ∀ k, k < 2048 → pl k ≤ 300) (hb : b + n ≤ 2048) {x : Nat} (hx : 300 ≤ x) : qm_ru pl us b n x = us x := qh_usE (by
  rw [qh_ru]
  exact ⟨fun h => h.1, fun h => ⟨h, fun k h1 h2 => by have := h6 k (by omega); omega⟩⟩)
theorem qh_rp_hi {b n : Nat} (hb : b + n ≤ 2048) {k : Nat} (hk : 2048 ≤ k) : qm_rp pl b n k = pl k := by
  rw [qh_rp, if_neg (by omega)]
/-- remove -/
theorem qh_remove (S : qh_on hn T K f g hd th pl mk nt bt us mm kc J) {v : Nat} (hv : v < 16) (hr : qv_rt f T v ≠ 0) : qh_on hn T K (qt_dropVol T f v) g hd (va_up th v false) (qm_rp pl (128 * v) 128) mk nt bt (qm_ru pl us (128 * v) 128) mm kc J := by
  obtain ⟨hT, a2, a3, a4, a5, a6, a7, ⟨lv, ps, Z⟩, a9, a10, a11, a12, a13⟩ := id S
  obtain ⟨i1, i2, i3, i4, i5, i6, i7, -⟩ := hT.b
  obtain ⟨f', e, b3, b4, b5, b6, b7⟩ := qr_dropVol i1 i2 i3 hv Z hr
  rw [e]
  have h6 := a9.2.2.2.2.2.1
  refine qh_step S b5.1 b5.2.1 a2 a3 ⟨lv, ps, b3⟩ (qh_clear a9 (by omega) (fun w hw => ?_) (fun w q hw hq => ?_) (fun w q i hw hq hi h0 => ?_) b5.2.2) (Nat.le_refl _) a5 (Nat.le_refl _) (fun w hw => qf_un (by omega)) (fun k hk => qh_rp_hi (by omega) hk) (fun _ _ => rfl) (fun _ _ => rfl) (fun _ _ => rfl) (fun x hx => qh_ru_hi h6 (by omega) hx)
  · rw [b4 w hw]
    by_cases hwv : w = v
    · rw [hwv, qf_us, if_pos rfl]
      exact ⟨fun z => absurd rfl z, fun z => absurd z (by decide)⟩
    · rw [qf_un hwv, if_neg hwv]; exact a9.1 w hw
  · rw [b6 w q hw hq]
    by_cases hwv : w = v
    · rw [if_pos hwv, if_pos (by omega)]
    · rw [if_neg hwv, if_neg (by omega)]
  · rw [b6 w q hw hq] at h0
    by_cases hwv : w = v
    · rw [if_pos hwv] at h0; exact absurd rfl h0
    · rw [if_neg hwv] at h0
      obtain ⟨-, -, -, -, -, -, -, -, d1, -, -, -⟩ := qr_found Z.1.1 hw hq h0
      exact (b5.1 _ (fun z => z) (by have := (qe_wy_po d1).1; omega)).by hi
/-- tell -/
theorem qh_tell (S : qh_on hn T K f g hd th pl mk nt bt us mm kc J) {i y : Nat} (hi : i < 32) (hy : y < 256) : qh_on hn T K (qv_setB f T (32 + i) y) g hd th pl mk (upd nt i (nI y)) bt us mm kc J := by
  obtain ⟨hT, a2, a3, a4, a5, a6, a7, ⟨lv, ps, Z⟩, a9, a10, a11, a12, a13⟩ := id S
  obtain ⟨i1, i2, i3, i4, i5, i6, i7, -⟩ := hT.b
  have q1 : ∀ x, x ≠ T → qv_eq (qv_setB f T (32 + i) y) f x := fun x hx => qv_eq_setB hx (by omega)
  have hrt : ∀ v, v < 16 → qv_rt (qv_setB f T (32 + i) y) T v = qv_rt f T v := fun v hv => qv_lk_setB (by omega)
  have hwy : ∀ b, qv_wy (qv_setB f T (32 + i) y) T b = qv_wy f T b := fun b => qe_wy_eq (fun k hk _ => q1 _ (by omega)) b
  have hp : ∀ b, 0 < qv_wy f T b → qv_eq (qv_setB f T (32 + i) y) f b := fun b hb => q1 b (by have := (qe_wy_po hb).1; omega)
  have hfd := qz_find (f' := qv_setB f T (32 + i) y) (T' := T) Z hrt hp
  refine qh_step S (X := fun _ => False) (fun x _ hx => q1 x (by omega)) (fun x hx => hx.elim) a2 a3 ⟨lv, ps, qz_frame2 Z hrt hwy hp⟩ ?_ (Nat.le_refl _) a5 (Nat.le_refl _) (fun _ _ => rfl) (fun _ _ => rfl) (fun _ _ => rfl) (fun j hj => qa_un (by omega)) (fun _ _ => rfl) (fun _ _ => rfl)
  have h1 := qh_congr (R' := qv_rt (qv_setB f T (32 + i) y) T) (F' := qt_find (qv_setB f T (32 + i) y) T) (B' := qv_by (qv_setB f T (32 + i) y)) (N' := qv_nt f T) a9 (fun v hv => by rw [hrt v hv]) (fun w q hw hq => (hfd w q hw hq).1) (fun w q j hw hq hj h0 => ((hfd w q hw hq).2 h0).by hj) (fun _ _ => rfl) (fun _ _ => rfl) (fun _ _ => rfl) (fun _ _ => rfl) (fun _ _ => rfl) (fun _ _ => rfl) (fun _ _ => rfl) (Nat.le_refl _)
  obtain ⟨c1, c2, c3, c4, c5, c6⟩ := h1
  refine ⟨c1, c2, c3, c4, fun j hj => ?_, c6⟩
  have e : qv_nt (qv_setB f T (32 + i) y) T j = if 32 + j = 32 + i then y else qv_nt f T j := qv_by_setB (by omega) (by omega) hy
  rw [e]
  by_cases hji : j = i
  · rw [hji, qa_us, if_pos rfl]
  · rw [qa_un hji, if_neg (by omega)]; exact c5 j hj
/-- trim -/
theorem qh_trim (S : qh_on hn T K f g hd th pl mk nt bt us mm kc J) {v lo n : Nat} (hv : v < 16) (hlo : lo + n ≤ 128) (hr : qv_rt f T v ≠ 0) : qh_on hn T K (qt_trim T K v lo f hd n).1 g (qt_trim T K v lo f hd n).2.1 th (qm_rp pl (128 * v + lo) n) mk nt bt (qm_ru pl us (128 * v + lo) n) mm kc J ∧ nI (qt_trim T K v lo f hd n).2.2 = nI (qm_ct pl (128 * v) 128) - nI (qm_ct (qm_rp pl (128 * v + lo) n) (128 * v) 128) := by
  obtain ⟨⟨kl, kp, ZK⟩, -⟩ := S.zk
  obtain ⟨hT, a2, a3, a4, a5, a6, a7, ⟨lv, ps, Z⟩, a9, a10, a11, a12, a13⟩ := id S
  obtain ⟨i1, i2, i3, i4, i5, i6, i7, -⟩ := hT.b
  obtain ⟨f', h', lv', ps', X, e, b1, b2, b3, b4, b5, b6⟩ := qw_trim i1 i2 i3 a2 a3 hv Z ZK hr n hlo
  rw [e]
  dsimp only
  have h6 := a9.2.2.2.2.2.1
  constructor
  · refine qh_step S b4.1 b4.2.1 b1 b2 ⟨lv', ps', b3⟩ (qh_clear a9 (by omega) (fun w hw => ?_) (fun w q hw hq => ?_) (fun w q i hw hq hi h0 => ?_) b4.2.2) (Nat.le_refl _) a5 (Nat.le_refl _) (fun _ _ => rfl) (fun k hk => qh_rp_hi (by omega) hk) (fun _ _ => rfl) (fun _ _ => rfl) (fun _ _ => rfl) (fun x hx => qh_ru_hi h6 (by omega) hx)
    · rw [← a9.1 w hw]
      exact ⟨fun z1 z2 => z1 ((b5.2 w hw).mpr z2), fun z1 z2 => z1 ((b5.2 w hw).mp z2)⟩
    · by_cases hE : w = v ∧ lo ≤ q ∧ q < lo + n
      · rw [if_pos (by omega), hE.1]
        exact b6 q hE.2.1 hE.2.2
      · rw [if_neg (by omega)]
        exact (b5.1 w q hw hq hE).1
    · by_cases hE : w = v ∧ lo ≤ q ∧ q < lo + n
      · rw [hE.1] at h0
        exact absurd (b6 q hE.2.1 hE.2.2) h0
      · have := b5.1 w q hw hq hE
        rw [this.1] at h0
        exact (this.2 h0).by hi
  · have h1 := qh_gone pl (128 * v) lo n hlo
    have h2 : qs_ n (fun j => qi_ (qt_find f T v (lo + j) ≠ 0)) = qs_ n (fun j => qi_ (pl (128 * v + lo + j) ≠ 0)) := qs_congr (fun j hj => by
      show qi_ _ = qi_ _
      have := a9.2.1 v (lo + j) hv (by omega)
      rw [show 128 * v + (lo + j) = 128 * v + lo + j by omega] at this
      by_cases h0 : qt_find f T v (lo + j) = 0
      · rw [qi_f (p := qt_find f T v (lo + j) ≠ 0) (fun z => z h0), qi_f (p := pl (128 * v + lo + j) ≠ 0) (fun z => z (this.mp h0))]
      · rw [qi_n h0, qi_n (fun z => h0 (this.mpr z))])
    rw [h2, pk_sub (by omega)]
    congr 1
    omega
/-- write -/
theorem qh_write (S : qh_on hn T K f g hd th pl mk nt bt us mm kc J) (hJ : J < 2 ^ 30) {v p u n y : Nat} (hv : v < 16) (hp : p < 128) (hu : u + n ≤ 128) (hy : y < 256) (hr : qv_rt f T v ≠ 0) :
    (∀ w, pl (128 * v + p) = w + 1 → qh_on hn T K (qv_for n (fun g9 j9 => qv_setB g9 (qt_ownPiece T K f hd v p).1 (u + j9) y) (qt_ownPiece T K f hd v p).2.1) g (qt_ownPiece T K f hd v p).2.2 th pl (upd mk (128 * v + p) (nI (mm + 1))) nt (qv_for n (fun g j => upd g (128 * w + (u + j)) (vp_nar .byte (nI y).toInt8.toInt32)) bt) us (mm + 1) kc (J + 1)) ∧
    (pl (128 * v + p) = 0 → ¬ qs_ 16 (fun v => qm_ct pl (128 * v) 128) = 300 → qm_fr us < 300 ∧ us (qm_fr us) = false ∧ (∀ j, j < qm_fr us → us j = true) ∧ qh_on hn T K (qv_for n (fun g9 j9 => qv_setB g9 (qt_ownPiece T K f hd v p).1 (u + j9) y) (qt_ownPiece T K f hd v p).2.1) g (qt_ownPiece T K f hd v p).2.2 th (va_up pl (128 * v + p) (qm_fr us + 1)) (upd mk (128 * v + p) (nI (mm + 1))) nt (qv_for n (fun g j => upd g (128 * qm_fr us + (u + j)) (vp_nar .byte (nI y).toInt8.toInt32)) (qv_for 128 (fun g j => upd g (128 * qm_fr us + j) (vp_nar .byte (nI 0))) bt)) (va_up us (qm_fr us) true) (mm + 1) kc (J + 1)) := by
  obtain ⟨⟨kl, kp, ZK⟩, -⟩ := S.zk
  obtain ⟨hT, a2, a3, a4, a5, a6, a7, ⟨lv, ps, Z⟩, a9, a10, a11, a12, a13⟩ := id S
  obtain ⟨i1, i2, i3, i4, i5, i6, i7, -⟩ := hT.b
  have h6 := a9.2.2.2.2.2.1
  have hk0 : 128 * v + p < 2048 := by omega
  have hfresh : ∀ k, k < 2048 → mk k ≠ nI (mm + 1) := fun k hk e => by
    obtain ⟨m, q1, q2⟩ := a9.2.2.2.2.2.2.2.2 k hk
    rw [q2, nI_eq (by omega) (by omega)] at e
    omega
  have h2 := a9.2.1 v p hv hp
  have ht := qh_tot Z a9
  have ht2 := Z.1.2.1
  constructor
  · intro w hw
    have h0 : qt_find f T v p ≠ 0 := fun z => by have := h2.mp z; omega
    obtain ⟨c, F, h', lv', ps', X, e1, e2, b1, b2, b3, b4, b5, b6, b7, b8, b9⟩ := qw_write i1 i2 i3 (u := u) (n := n) (y := y) a2 a3 hv hp hu hy Z ZK hr (fun z => absurd z h0)
    rw [e1, e2]
    have hw3 := h6 _ hk0
    have ew : pl (128 * v + p) - 1 = w := by omega
    have efill : ∀ k, qv_for n (fun g j => upd g (128 * w + (u + j)) (vp_nar .byte (nI y).toInt8.toInt32)) bt k = if 128 * w + u ≤ k ∧ k < 128 * w + u + n then vp_nar .byte (nI y).toInt8.toInt32 else bt k := fun k => qh_fill (idx := fun j => 128 * w + (u + j)) (a := 128 * w + u) (fun j => by show 128 * w + (u + j) = 128 * w + u + j; omega) _ bt n k
    refine qh_step S b4.1 b4.2.1 b1 b2 ⟨lv', ps', b3⟩ (qh_mod (mm' := mm + 1) (x := c) a9 hv hp h0 b5 (fun z hz hzv => b9 z p hz hp (fun q => hzv q.1)) hfresh (by omega) ⟨mm + 1, Nat.le_refl _, rfl⟩ (fun z hz => ⟨fun q1 q2 => q1 ((b8.2 z hz).mpr q2), fun q1 q2 => q1 ((b8.2 z hz).mp q2)⟩) (fun z q hz hq => ?_) (fun z q i hz hq hi hE g0 => ((b8.1 z q hz hq hE).2 g0).by hi) b4.2.2 (fun k hk hE => ?_) (fun i hi => ?_)) (by omega) (by omega) (by omega) (fun _ _ => rfl) (fun _ _ => rfl) (fun k hk => qa_un (by omega)) (fun _ _ => rfl) (fun k hk => ?_) (fun _ _ => rfl)
    · by_cases hE : z = v ∧ q = p
      · rw [if_pos hE, hE.1, hE.2]; exact b6
      · rw [if_neg hE]; exact (b8.1 z q hz hq hE).1
    · rw [ew] at hE
      rw [efill, if_neg (by omega)]
    · rw [ew, efill, b7 i hi]
      by_cases hr2 : u ≤ i ∧ i < u + n
      · rw [if_pos hr2, if_pos (by omega)]; exact qh_nary hy
      · rw [if_neg hr2, if_neg (by omega), if_neg h0, ← ew]
        exact a9.2.2.1 v p i hv hp hi h0
    · rw [efill, if_neg (by omega)]
  · intro hz hne
    have h0 : qt_find f T v p = 0 := h2.mpr hz
    have hlt : qs_ 2048 (fun k => qi_ (pl k ≠ 0)) < 300 := by rw [qh_2048, ← ht]; omega
    obtain ⟨f1, f2, f3⟩ := qh_fr a9 hlt
    obtain ⟨c, F, h', lv', ps', X, e1, e2, b1, b2, b3, b4, b5, b6, b7, b8, b9⟩ := qw_write i1 i2 i3 (u := u) (n := n) (y := y) a2 a3 hv hp hu hy Z ZK hr (fun _ => by omega)
    rw [e1, e2]
    refine ⟨f1, f2, f3, ?_⟩
    generalize qm_fr us = fr at f1 f2 f3 ⊢
    have efill : ∀ k, qv_for n (fun g j => upd g (128 * fr + (u + j)) (vp_nar .byte (nI y).toInt8.toInt32)) (qv_for 128 (fun g j => upd g (128 * fr + j) (vp_nar .byte (nI 0))) bt) k = if 128 * fr + u ≤ k ∧ k < 128 * fr + u + n then vp_nar .byte (nI y).toInt8.toInt32 else if 128 * fr ≤ k ∧ k < 128 * fr + 128 then vp_nar .byte (nI 0) else bt k := fun k => by
      have q1 := qh_fill (idx := fun j => 128 * fr + (u + j)) (a := 128 * fr + u) (fun j => by show 128 * fr + (u + j) = 128 * fr + u + j; omega) (vp_nar .byte (nI y).toInt8.toInt32) (qv_for 128 (fun g j => upd g (128 * fr + j) (vp_nar .byte (nI 0))) bt) n k
      have q2 := qh_fill (idx := fun j => 128 * fr + j) (a := 128 * fr) (fun j => rfl) (vp_nar .byte (nI 0)) bt 128 k
      try dsimp only at q1
      try dsimp only at q2
      rw [q1, q2]
    refine qh_step S b4.1 b4.2.1 b1 b2 ⟨lv', ps', b3⟩ (qh_add (mm' := mm + 1) (x := c) a9 hv hp h0 b5 f1 f2 (fun z hz2 hzv g0 => ⟨fun q => absurd q.symm (b9 z p hz2 hp (fun q => hzv q.1)), fun q => absurd q.symm (hfresh _ (by omega))⟩) (by omega) ⟨mm + 1, Nat.le_refl _, rfl⟩ (fun z hz => ⟨fun q1 q2 => q1 ((b8.2 z hz).mpr q2), fun q1 q2 => q1 ((b8.2 z hz).mp q2)⟩) (fun z q hz hq => ?_) (fun z q i hz hq hi g0 => ((b8.1 z q hz hq (fun q2 => g0 (by rw [q2.1, q2.2]; exact h0))).2 g0).by hi) b4.2.2 (fun k hk hE => ?_) (fun i hi => ?_)) (by omega) (by omega) (by omega) (fun _ _ => rfl) (fun k hk => qf_un (by omega)) (fun k hk => qa_un (by omega)) (fun _ _ => rfl) (fun k hk => ?_) (fun x hx => qf_un (by omega))
    · by_cases hE : z = v ∧ q = p
      · rw [if_pos hE, hE.1, hE.2]; exact b6
      · rw [if_neg hE]; exact (b8.1 z q hz hq hE).1
    · rw [efill, if_neg (by omega), if_neg hE]
    · rw [efill, b7 i hi]
      by_cases hr2 : u ≤ i ∧ i < u + n
      · rw [if_pos hr2, if_pos (by omega)]; exact qh_nary hy
      · rw [if_neg hr2, if_neg (by omega), if_pos (by omega), if_pos h0]; exact qh_nar0
    · rw [efill, if_neg (by omega), if_neg (by omega)]
end QS
