/-! KEEP, MOUNT, LAY, FAIL -/
theorem qg_recv_n {f g : Nat → Int64} {b c k : Nat} (h : c ≠ b) : qv_eq (qv_recvP f g b k) f c := qv_recv_n h (by unfold qv_hi; split <;> omega)
theorem qg_recv_1 {f g : Nat → Int64} {b : Nat} (hb : b < 784) : qv_eq (qv_recvP f g b 1) g b := by
  have e1 : qv_lo 1 = 0 := by decide
  have e2 : qv_hi 1 = 16 := by decide
  unfold qv_recvP
  rw [e1, e2]
  exact qv_recv_all hb
theorem qg_part0 (bits : Int64) (pl : Nat) : qk_part 0 bits pl = 1 := if_pos rfl
theorem qg_part1 (bits : Int64) : qk_part 1 bits 0 = qb_n bits % 4 := by
  unfold qk_part
  rw [if_neg (by omega), if_pos (by omega), Nat.mul_zero, Nat.pow_zero, Nat.div_one]
abbrev qg_new (f : Nat → Int64) (T K x : Nat) : Prop := 0 < qv_wy f T x ∧ qv_wy f K x = 0
theorem qg_w1 {f g : Nat → Int64} {T K st : Nat} {bits : Int64} : ∀ i, i ≤ 768 → (∀ x, ¬ qg_new f T K x → qv_eq (qk_w1 f T K st bits g i).1 g x) ∧ (∀ x, 16 + i ≤ x → qv_eq (qk_w1 f T K st bits g i).1 g x) ∧ (∀ x, x < 16 → qv_eq (qk_w1 f T K st bits g i).1 g x) ∧ (st = 0 → ∀ x, 16 ≤ x → x < 16 + i → qg_new f T K x → qv_eq (qk_w1 f T K st bits g i).1 f x) := by
  intro i
  induction i with
  | zero => intro _; exact ⟨fun _ _ => qv_eq.rf, fun _ _ => qv_eq.rf, fun _ _ => qv_eq.rf, fun _ x h1 h2 => by omega⟩
  | succ i ih =>
    intro hi
    obtain ⟨a1, a2, a3, a4⟩ := ih (by omega)
    by_cases hN : qg_new f T K (16 + i)
    · rw [qk_w1_n hN]
      dsimp only
      refine ⟨fun x hx => (qg_recv_n (fun e => hx (by rw [e]; exact hN))).tr (a1 x hx), fun x hx => (qg_recv_n (by omega)).tr (a2 x (by omega)), fun x hx => (qg_recv_n (by omega)).tr (a3 x hx), fun h0 x h1 h2 h3 => ?_⟩
      by_cases hxi : x = 16 + i
      · subst h0
        rw [hxi, qg_part0]
        exact qg_recv_1 (by omega)
      · exact (qg_recv_n hxi).tr (a4 h0 x h1 (by omega) h3)
    · rw [qk_w1_z hN]
      refine ⟨a1, fun x hx => a2 x (by omega), a3, fun h0 x h1 h2 h3 => ?_⟩
      by_cases hxi : x = 16 + i
      · rw [hxi] at h3; exact absurd h3 hN
      · exact a4 h0 x h1 (by omega) h3
theorem qg_w2 {f g : Nat → Int64} {T K st : Nat} {bits : Int64} (hT : T + 7 ≤ 16) : ∀ j, j ≤ 7 → (∀ x, ¬ qg_new f T K x → (x < T ∨ T + 7 ≤ x) → qv_eq (qk_w2 f T K st bits g j).1 g x) ∧ (st = 0 → ∀ x, qg_new f T K x → qv_eq (qk_w2 f T K st bits g j).1 f x) ∧ (st = 0 → ∀ k, k < j → qv_eq (qk_w2 f T K st bits g j).1 f (T + k)) := by
  intro j
  induction j with
  | zero =>
    intro _
    obtain ⟨a1, a2, a3, a4⟩ := qg_w1 (f := f) (g := g) (T := T) (K := K) (st := st) (bits := bits) 768 (Nat.le_refl _)
    have e : qk_w2 f T K st bits g 0 = qk_w1 f T K st bits g 768 := rfl
    rw [e]
    exact ⟨fun x hx _ => a1 x hx, fun h0 x hx => a4 h0 x (qe_wy_po hx.1).1 (by have := (qe_wy_po hx.1).2; omega) hx, fun _ k hk => by omega⟩
  | succ j ih =>
    intro hj
    obtain ⟨a1, a2, a3⟩ := ih (by omega)
    have e : (qk_w2 f T K st bits g (j + 1)).1 = qv_recvP (qk_w2 f T K st bits g j).1 f (T + j) (qk_part st bits (qk_w2 f T K st bits g j).2) := rfl
    rw [e]
    refine ⟨fun x hx hr => (qg_recv_n (by omega)).tr (a1 x hx hr), fun h0 x hx => (qg_recv_n (by have := (qe_wy_po hx.1).1; omega)).tr (a2 h0 x hx), fun h0 k hk => ?_⟩
    by_cases hkj : k = j
    · subst h0
      rw [hkj, qg_part0]
      exact qg_recv_1 (by omega)
    · exact (qg_recv_n (by omega)).tr (a3 h0 k (by omega))
/-! copies between the halves -/
theorem qg_cT {t : Nat → Bool} {a b : Nat} : ∀ i, (b + i ≤ a ∨ a + i ≤ b) → ∀ k, qm_cT t a b i k = if a ≤ k ∧ k < a + i then t (b + (k - a)) else t k := by
  intro i
  induction i with
  | zero => intro _ k; rw [if_neg (by omega)]; rfl
  | succ i ih =>
    intro hd k
    show va_up (qm_cT t a b i) (a + i) (qm_cT t a b i (b + i)) k = _
    by_cases hk : k = a + i
    · rw [hk, qf_us, if_pos (by omega), ih (by omega), if_neg (by omega), show a + i - a = i by omega]
    · rw [qf_un hk, ih (by omega) k]
      by_cases h1 : a ≤ k ∧ k < a + i
      · rw [if_pos h1, if_pos (by omega)]
      · rw [if_neg h1, if_neg (by omega)]
theorem qg_cI {t : Nat → Int32} {a b : Nat} : ∀ i, (b + i ≤ a ∨ a + i ≤ b) → ∀ k, qm_cI t a b i k = if a ≤ k ∧ k < a + i then t (b + (k - a)) else t k := by
  intro i
  induction i with
  | zero => intro _ k; rw [if_neg (by omega)]; rfl
  | succ i ih =>
    intro hd k
    show upd (qm_cI t a b i) (a + i) (qm_cI t a b i (b + i)) k = _
    by_cases hk : k = a + i
    · rw [hk, qa_us, if_pos (by omega), ih (by omega), if_neg (by omega), show a + i - a = i by omega]
    · rw [qa_un hk, ih (by omega) k]
      by_cases h1 : a ≤ k ∧ k < a + i
      · rw [if_pos h1, if_pos (by omega)]
      · rw [if_neg h1, if_neg (by omega)]
theorem qg_cB {t : Nat → Int32} {a b : Nat} : ∀ i, (b + i ≤ a ∨ a + i ≤ b) → ∀ k, qm_cB t a b i k = if a ≤ k ∧ k < a + i then vp_nar .byte (t (b + (k - a))) else t k := by
  intro i
  induction i with
  | zero => intro _ k; rw [if_neg (by omega)]; rfl
  | succ i ih =>
    intro hd k
    show upd (qm_cB t a b i) (a + i) (vp_nar .byte (qm_cB t a b i (b + i))) k = _
    by_cases hk : k = a + i
    · rw [hk, qa_us, if_pos (by omega), ih (by omega), if_neg (by omega), show a + i - a = i by omega]
    · rw [qa_un hk, ih (by omega) k]
      by_cases h1 : a ≤ k ∧ k < a + i
      · rw [if_pos h1, if_pos (by omega)]
      · rw [if_neg h1, if_neg (by omega)]
theorem qg_cPU {p : Nat → Nat} : ∀ i, i ≤ 2048 → ∀ k, qm_cPU p i k = if 2048 ≤ k ∧ k < 2048 + i then (if p (k - 2048) = 0 then 0 else p (k - 2048) + 300) else p k := by
  intro i
  induction i with
  | zero => intro _ k; rw [if_neg (by omega)]; rfl
  | succ i ih =>
    intro hd k
    show va_up (qm_cPU p i) (2048 + i) (if qm_cPU p i (0 + i) = 0 then 0 else qm_cPU p i (0 + i) + 300) k = _
    have e : qm_cPU p i (0 + i) = p i := by rw [qm_cPU_lo (by omega), Nat.zero_add]
    by_cases hk : k = 2048 + i
    · rw [hk, qf_us, if_pos (show 2048 ≤ 2048 + i ∧ 2048 + i < 2048 + (i + 1) by omega), e, show 2048 + i - 2048 = i by omega]
    · rw [qf_un hk, ih (by omega) k]
      by_cases h1 : 2048 ≤ k ∧ k < 2048 + i
      · rw [if_pos h1, if_pos (show 2048 ≤ k ∧ k < 2048 + (i + 1) by omega)]
      · rw [if_neg h1, if_neg (show ¬ (2048 ≤ k ∧ k < 2048 + (i + 1)) by omega)]
theorem qg_cPD {p : Nat → Nat} : ∀ i, i ≤ 2048 → ∀ k, qm_cPD p i k = if k < i then p (2048 + k) - 300 else p k := by
  intro i
  induction i with
  | zero => intro _ k; rw [if_neg (by omega)]; rfl
  | succ i ih =>
    intro hd k
    show va_up (qm_cPD p i) (0 + i) (if qm_cPD p i (2048 + i) = 0 then 0 else qm_cPD p i (2048 + i) - 300) k = _
    have e : qm_cPD p i (2048 + i) = p (2048 + i) := qm_cPD_hi (by omega) (by omega)
    rw [Nat.zero_add, e]
    by_cases hk : k = i
    · rw [hk, qf_us, if_pos (show i < i + 1 by omega)]
      by_cases h0 : p (2048 + i) = 0
      · rw [if_pos h0, h0]
      · rw [if_neg h0]
    · rw [qf_un hk, ih (by omega) k]
      by_cases h1 : k < i
      · rw [if_pos h1, if_pos (show k < i + 1 by omega)]
      · rw [if_neg h1, if_neg (show ¬ k < i + 1 by omega)]
section QK
variable {hn oh T K : Nat} {f f' g g' : Nat → Int64} {hd hd' : Nat} {th th' : Nat → Bool} {pl pl' : Nat → Nat} {mk mk' nt nt' bt bt' : Nat → Int32} {us us' : Nat → Bool} {mm mm' kc J J' : Nat} {bits : Int64}
/-- what is kept stays, where the medium stays -/
theorem qg_K (h : qh_K g K th pl mk nt bt us mm) (e1 : ∀ k, k < 7 → qv_eq g' g (K + k)) (e2 : ∀ b, 0 < qv_wy g K b → qv_eq g' g b) : qh_K g' K th pl mk nt bt us mm := by
  obtain ⟨⟨kl, kp, Z⟩, a2, a3⟩ := h
  have hrt : ∀ v, v < 16 → qv_rt g' K v = qv_rt g K v := fun v hv => (e1 0 (by omega)).lk (by omega)
  have hfd := qz_find (f' := g') (T' := K) Z hrt e2
  exact ⟨⟨kl, kp, qz_frame Z e1 e2⟩, qh_congr a2 (fun v hv => by rw [hrt v hv]) (fun w q hw hq => (hfd w q hw hq).1) (fun w q j hw hq hj h0 => ((hfd w q hw hq).2 h0).by hj) (fun i hi => (e1 0 (by omega)).by (by omega)) (fun _ _ => rfl) (fun _ _ => rfl) (fun _ _ => rfl) (fun _ _ => rfl) (fun _ _ => rfl) (fun _ _ => rfl) (Nat.le_refl _), a3⟩
/-- what is now becomes what is kept -/
theorem qg_up (S : qh_on hn T K f g hd th pl mk nt bt us mm kc J) (e1 : ∀ k, k < 7 → qv_eq g' f (T + k)) (e2 : ∀ b, 0 < qv_wy f T b → qv_eq g' f b) : qh_K g' T (qm_cT th 16 0 16) (qm_cPU pl 2048) (qm_cI mk 2048 0 2048) (qm_cI nt 32 0 32) (qm_cB bt 38400 0 38400) (qm_cT us 300 0 300) mm := by
  obtain ⟨hT, a2, a3, a4, a5, a6, a7, ⟨lv, ps, Z⟩, a9, a10, a11, a12, a13⟩ := S
  have hrt : ∀ v, v < 16 → qv_rt g' T v = qv_rt f T v := fun v hv => (e1 0 (by omega)).lk (by omega)
  have hfd := qz_find (f' := g') (T' := T) Z hrt e2
  refine ⟨⟨lv, ps, qz_frame Z e1 e2⟩, qh_congr a9 (fun v hv => by rw [hrt v hv]) (fun w q hw hq => (hfd w q hw hq).1) (fun w q j hw hq hj h0 => ((hfd w q hw hq).2 h0).by hj) (fun i hi => (e1 0 (by omega)).by (by omega)) (fun v hv => ?_) (fun k hk => ?_) (fun k hk => ?_) (fun i hi => ?_) (fun k hk => ?_) (fun x hx => ?_) (Nat.le_refl _), fun k h1 h2 => ?_⟩
  · show qm_cT th 16 0 16 (16 + v) = th v
    rw [qg_cT 16 (by omega), if_pos (by omega), show 0 + (16 + v - 16) = v by omega]
  · show qm_cPU pl 2048 (2048 + k) - 300 = pl k
    rw [qg_cPU 2048 (by omega), if_pos (by omega), show 2048 + k - 2048 = k by omega]
    by_cases h0 : pl k = 0
    · rw [if_pos h0, h0]
    · rw [if_neg h0]; omega
  · show qm_cI mk 2048 0 2048 (2048 + k) = mk k
    rw [qg_cI 2048 (by omega), if_pos (by omega), show 0 + (2048 + k - 2048) = k by omega]
  · show qm_cI nt 32 0 32 (32 + i) = nt i
    rw [qg_cI 32 (by omega), if_pos (by omega), show 0 + (32 + i - 32) = i by omega]
  · show qm_cB bt 38400 0 38400 (38400 + k) &&& nI 255 = bt k &&& nI 255
    rw [qg_cB 38400 (by omega), if_pos (by omega), show 0 + (38400 + k - 38400) = k by omega, qh_nar]
  · show qm_cT us 300 0 300 (300 + x) = us x
    rw [qg_cT 300 (by omega), if_pos (by omega), show 0 + (300 + x - 300) = x by omega]
  · rw [qg_cPU 2048 (by omega), if_pos (by omega)]
    by_cases h0 : pl (k - 2048) = 0
    · rw [if_pos h0]; exact Or.inl rfl
    · rw [if_neg h0]; exact Or.inr (by omega)
theorem qg_lo (S : qh_on hn T K f g hd th pl mk nt bt us mm kc J) : (∀ k, k < 2048 → pl k ≤ 300) ∧ (∀ k, qm_cPU pl 2048 k ≤ 600) := by
  obtain ⟨hT, a2, a3, a4, a5, a6, a7, ⟨lv, ps, Z⟩, a9, a10, a11, a12, a13⟩ := S
  have h6 := a9.2.2.2.2.2.1
  refine ⟨h6, fun k => ?_⟩
  rw [qg_cPU 2048 (by omega)]
  by_cases h : 2048 ≤ k ∧ k < 2048 + 2048
  · rw [if_pos h]
    have := h6 (k - 2048) (by omega)
    by_cases h0 : pl (k - 2048) = 0
    · rw [if_pos h0]; omega
    · rw [if_neg h0]; omega
  · rw [if_neg h]; exact a4 k
/-- all is down on the medium: it is what is in memory -/
theorem qg_down (S : qh_on hn T K f g hd th pl mk nt bt us mm kc J) : (∀ k, k < 7 → qv_eq (qk_w2 f T K 0 bits g 7).1 f (T + k)) ∧ (∀ b, 0 < qv_wy f T b → qv_eq (qk_w2 f T K 0 bits g 7).1 f b) := by
  obtain ⟨-, zw⟩ := S.zk
  obtain ⟨hT, a2, a3, a4, a5, a6, a7, ⟨lv, ps, Z⟩, a9, a10, a11, a12, a13⟩ := S
  obtain ⟨i1, i2, i3, i4, i5, i6, i7, -⟩ := hT.b
  obtain ⟨w1, w2, w3⟩ := qg_w2 (f := f) (g := g) (K := K) (st := 0) (bits := bits) i1 7 (Nat.le_refl _)
  refine ⟨fun k hk => w3 rfl k hk, fun b hb => ?_⟩
  by_cases hN : qg_new f T K b
  · exact w2 rfl b hN
  · have h0 : 0 < qv_wy g K b := by
      rw [← zw b]
      by_cases hz : qv_wy f K b = 0
      · exact absurd ⟨hb, hz⟩ hN
      · omega
    exact (w1 b hN (by have := (qe_wy_po hb).1; omega)).tr (a11 b h0).sy
/-- what is kept stays, whatever is down -/
theorem qg_stay (S : qh_on hn T K f g hd th pl mk nt bt us mm kc J) {st : Nat} : (∀ k, k < 7 → qv_eq (qk_w2 f T K st bits g 7).1 g (K + k)) ∧ (∀ b, 0 < qv_wy g K b → qv_eq (qk_w2 f T K st bits g 7).1 g b) ∧ (∀ x, x < 2 → qv_eq (qk_w2 f T K st bits g 7).1 g x) := by
  obtain ⟨-, zw⟩ := S.zk
  obtain ⟨hT, a2, a3, a4, a5, a6, a7, ⟨lv, ps, Z⟩, a9, a10, a11, a12, a13⟩ := S
  obtain ⟨i1, i2, i3, i4, i5, i6, i7, -⟩ := hT.b
  obtain ⟨w1, w2, w3⟩ := qg_w2 (f := f) (g := g) (K := K) (st := st) (bits := bits) i1 7 (Nat.le_refl _)
  refine ⟨fun k hk => w1 _ (fun z => by have := (qe_wy_po z.1).1; omega) (by omega), fun b hb => w1 b (fun z => ?_) (by have := (qe_wy_po hb).1; omega), fun x hx => w1 x (fun z => by have := (qe_wy_po z.1).1; omega) (by omega)⟩
  have := z.2
  rw [zw b] at this
  omega
theorem qg_off (S : qh_on hn T K f g hd th pl mk nt bt us mm kc J) (e1 : ∀ k, k < 7 → qv_eq g' g (K + k)) (e2 : ∀ b, 0 < qv_wy g K b → qv_eq g' g b) (e3 : ∀ x, x < 2 → qv_word g' x 0 = qv_word g x 0) : qh_off g' hd th pl mk nt bt us mm kc J := by
  obtain ⟨hT, a2, a3, a4, a5, a6, a7, ⟨lv, ps, Z⟩, a9, a10, a11, a12, a13⟩ := S
  obtain ⟨i1, i2, i3, i4, i5, i6, i7, -⟩ := hT.b
  refine ⟨a2, a3, a4, a5, a6, a9.2.2.2.2.2.2.2.2, hn, T, K, hT, qg_K a7 e1 e2, ?_⟩
  obtain ⟨c1, x, c2, c3⟩ := a12
  exact ⟨by rw [e3 hn i4]; exact c1, x, c2, by rw [e3 (1 - hn) (by omega)]; exact c3⟩
theorem qg_fail (S : qh_on hn T K f g hd th pl mk nt bt us mm kc J) : qh_off g hd th pl mk nt bt us mm kc J := qg_off S (fun _ _ => qv_eq.rf) (fun _ _ => qv_eq.rf) (fun _ _ => rfl)
theorem qg_keep1 (S : qh_on hn T K f g hd th pl mk nt bt us mm kc J) : qh_off (qk_w2 f T K 1 bits g 7).1 hd th pl mk nt bt us mm kc J := by
  obtain ⟨e1, e2, e3⟩ := qg_stay (bits := bits) (st := 1) S
  exact qg_off S e1 e2 (fun x hx => e3 x hx 0 (by omega))
theorem qg_num (S : qh_on hn T K f g hd th pl mk nt bt us mm kc J) (hJ : J < 2 ^ 30) : (qv_word f hn 0).toInt32.toInt64 + 1 = lN (kc + 1 + 1) := by
  obtain ⟨hT, a2, a3, a4, a5, a6, a7, ⟨lv, ps, Z⟩, a9, a10, a11, a12, a13⟩ := S
  rw [a13, a12.1, lN_i, nI_l (by omega), lN_1]
theorem qg_keep2n (S : qh_on hn T K f g hd th pl mk nt bt us mm kc J) (F : Nat → Int64) (ho : oh < 2) (hb : ¬ (qb_n bits % 4 = 1 ∨ qb_n bits % 4 = 2)) : qh_off (qv_recvP (qk_w2 f T K 0 bits g 7).1 F oh (qk_part 1 bits 0)) hd th pl mk nt bt us mm kc J := by
  obtain ⟨e1, e2, e3⟩ := qg_stay (bits := bits) (st := 0) S
  have i6 := S.1.b.2.2.2.2.2.1
  refine qg_off S (fun k hk => (qg_recv_n (by omega)).tr (e1 k hk)) (fun b hb => (qg_recv_n (by have := (qe_wy_po hb).1; omega)).tr (e2 b hb)) (fun x hx => ?_)
  by_cases hxo : x = oh
  · subst hxo
    unfold qv_recvP
    have hlo : qv_lo (qk_part 1 bits 0) = 8 := by
      rw [qg_part1]
      unfold qv_lo
      rw [if_neg hb]
    rw [qv_recv_s (by omega) (by unfold qv_hi; split <;> omega) 0 (by omega), hlo, if_neg (by omega)]
    exact e3 x hx 0 (by omega)
  · exact ((qg_recv_n hxo).tr (e3 x hx)) 0 (by omega)
theorem qg_new_h (S : qh_on hn T K f g hd th pl mk nt bt us mm kc J) (hJ : J < 2 ^ 30) (ho : oh = 1 - hn) {k : Nat} (hk : k = 1 ∨ k = 2) : qh_H (qv_recvP (qk_w2 f T K 0 bits g 7).1 (qv_setW f oh 0 ((qv_word f hn 0).toInt32.toInt64 + 1)) oh k) oh (kc + 1) ∧ qh_K (qv_recvP (qk_w2 f T K 0 bits g 7).1 (qv_setW f oh 0 ((qv_word f hn 0).toInt32.toInt64 + 1)) oh k) T (qm_cT th 16 0 16) (qm_cPU pl 2048) (qm_cI mk 2048 0 2048) (qm_cI nt 32 0 32) (qm_cB bt 38400 0 38400) (qm_cT us 300 0 300) mm ∧ (∀ k2, k2 < 7 → qv_eq (qv_recvP (qk_w2 f T K 0 bits g 7).1 (qv_setW f oh 0 ((qv_word f hn 0).toInt32.toInt64 + 1)) oh k) f (T + k2)) ∧ (∀ b, 0 < qv_wy f T b → qv_eq (qv_recvP (qk_w2 f T K 0 bits g 7).1 (qv_setW f oh 0 ((qv_word f hn 0).toInt32.toInt64 + 1)) oh k) f b) := by
  obtain ⟨d1, d2⟩ := qg_down (bits := bits) S
  obtain ⟨e1, e2, e3⟩ := qg_stay (bits := bits) (st := 0) S
  have hnum := qg_num S hJ
  obtain ⟨i1, i2, i3, i4, i5, i6, i7, -⟩ := S.1.b
  have t1 : ∀ k2, k2 < 7 → qv_eq (qv_recvP (qk_w2 f T K 0 bits g 7).1 (qv_setW f oh 0 ((qv_word f hn 0).toInt32.toInt64 + 1)) oh k) f (T + k2) := fun k2 hk2 => (qg_recv_n (by omega)).tr (d1 k2 hk2)
  have t2 : ∀ b, 0 < qv_wy f T b → qv_eq (qv_recvP (qk_w2 f T K 0 bits g 7).1 (qv_setW f oh 0 ((qv_word f hn 0).toInt32.toInt64 + 1)) oh k) f b := fun b hb => (qg_recv_n (by have := (qe_wy_po hb).1; omega)).tr (d2 b hb)
  refine ⟨⟨?_, kc + 1, by omega, ?_⟩, qg_up S t1 t2, t1, t2⟩
  · unfold qv_recvP
    have hlo : qv_lo k = 0 := by
      unfold qv_lo
      rw [if_pos hk]
    have hhi : 8 ≤ qv_hi k := by unfold qv_hi; split <;> omega
    rw [qv_recv_s (by omega) (by unfold qv_hi; split <;> omega) 0 (by omega), hlo, if_pos (by omega), qv_word_s (by omega) (by omega)]
    exact hnum
  · rw [show 1 - oh = hn by omega, ((qg_recv_n (show hn ≠ oh by omega)).tr (e3 hn i4)) 0 (by omega)]
    obtain ⟨hT, a2, a3, a4, a5, a6, a7, ⟨lv, ps, Z⟩, a9, a10, a11, a12, a13⟩ := S
    exact a12.1
theorem qg_mkU (S : qh_on hn T K f g hd th pl mk nt bt us mm kc J) : ∀ k, k < 2048 → ∃ m, m ≤ mm ∧ qm_cI mk 2048 0 2048 k = nI m := fun k hk => by
  rw [qg_cI 2048 (by omega), if_neg (by omega)]
  obtain ⟨hT, a2, a3, a4, a5, a6, a7, ⟨lv, ps, Z⟩, a9, a10, a11, a12, a13⟩ := S
  exact a9.2.2.2.2.2.2.2.2 k hk
theorem qg_keep2y (S : qh_on hn T K f g hd th pl mk nt bt us mm kc J) (hJ : J < 2 ^ 30) (ho : oh = 1 - hn) (hb : qb_n bits % 4 = 1 ∨ qb_n bits % 4 = 2) : qh_off (qv_recvP (qk_w2 f T K 0 bits g 7).1 (qv_setW f oh 0 ((qv_word f hn 0).toInt32.toInt64 + 1)) oh (qk_part 1 bits 0)) hd (qm_cT th 16 0 16) (qm_cPU pl 2048) (qm_cI mk 2048 0 2048) (qm_cI nt 32 0 32) (qm_cB bt 38400 0 38400) (qm_cT us 300 0 300) mm (kc + 1) (J + 1) := by
  obtain ⟨h1, h2, -, -⟩ := qg_new_h (bits := bits) S hJ ho (k := qk_part 1 bits 0) (by rw [qg_part1]; exact hb)
  obtain ⟨-, l2⟩ := qg_lo S
  have l3 := qg_mkU S
  obtain ⟨hT, a2, a3, a4, a5, a6, a7, ⟨lv, ps, Z⟩, a9, a10, a11, a12, a13⟩ := S
  obtain ⟨i1, i2, i3, i4, i5, i6, i7, i8⟩ := hT.b
  rw [← ho] at i8
  exact ⟨a2, a3, l2, by omega, by omega, l3, oh, K, T, i8, h2, h1⟩
/-- tables that are like those of the other head -/
theorem qg_like (hT : T + 7 ≤ 16) (hK : K + 7 ≤ 16) (hTK : T + 7 ≤ K ∨ K + 7 ≤ T) : (∀ k, k < 7 → ∀ i, i < 16 → qv_word (qv_like f T K) (T + k) i = qv_word f (K + k) i) ∧ (∀ x, (x < T ∨ T + 7 ≤ x) → qv_eq (qv_like f T K) f x) ∧ (∀ v, v < 16 → qv_rt (qv_like f T K) T v = qv_rt f K v) ∧ (∀ b, qv_wy (qv_like f T K) T b = qv_wy f K b) ∧ (∀ i, i < 32 → qv_nt (qv_like f T K) T i = qv_nt f K i) := by
  have h1 := qv_like_s (f := f) (T := T) (M := K) (by omega) (by omega)
  refine ⟨h1, fun x hx => qv_like_n hx, fun v hv => ?_, fun b => ?_, fun i hi => ?_⟩
  · have := h1 0 (by omega)
    simp only [Nat.add_zero] at this
    unfold qv_rt qv_lk
    rw [this (v / 4) (by omega)]
  · unfold qv_wy
    by_cases hp : qf_po b
    · rw [if_pos hp, if_pos hp]
      have := hp.1
      have := hp.2
      have q := h1 (1 + (b - 16) / 128) (by omega) ((b - 16) % 128 / 8) (by omega)
      rw [← Nat.add_assoc, ← Nat.add_assoc] at q
      unfold qv_by
      rw [q]
    · rw [if_neg hp, if_neg hp]
  · have := h1 0 (by omega)
    simp only [Nat.add_zero] at this
    unfold qv_nt qv_by
    rw [this ((32 + i) / 8) (by omega)]
theorem qg_keep0 (S : qh_on hn T K f g hd th pl mk nt bt us mm kc J) (hJ : J < 2 ^ 30) (ho : oh = 1 - hn) : qh_on oh K T (qv_like (qv_setW f oh 0 ((qv_word f hn 0).toInt32.toInt64 + 1)) K T) (qv_recvP (qk_w2 f T K 0 bits g 7).1 (qv_setW f oh 0 ((qv_word f hn 0).toInt32.toInt64 + 1)) oh (qk_part 0 bits 0)) hd (qm_cT th 16 0 16) (qm_cPU pl 2048) (qm_cI mk 2048 0 2048) (qm_cI nt 32 0 32) (qm_cB bt 38400 0 38400) (qm_cT us 300 0 300) mm (kc + 1) (J + 1) := by
  rw [qg_part0]
  obtain ⟨h1, h2, h3, h4⟩ := qg_new_h (bits := bits) S hJ ho (k := 1) (Or.inl rfl)
  obtain ⟨-, l2⟩ := qg_lo S
  obtain ⟨hT, a2, a3, a4, a5, a6, a7, ⟨lv, ps, Z⟩, a9, a10, a11, a12, a13⟩ := S
  obtain ⟨i1, i2, i3, i4, i5, i6, i7, i8⟩ := hT.b
  rw [← ho] at i8
  obtain ⟨k1, k2, k3, k4, k5⟩ := qg_like (f := qv_setW f oh 0 ((qv_word f hn 0).toInt32.toInt64 + 1)) (T := K) (K := T) i2 i1 (by omega)
  have q1 : ∀ x, x ≠ oh → qv_eq (qv_setW f oh 0 ((qv_word f hn 0).toInt32.toInt64 + 1)) f x := fun x hx => qv_eq_setW hx (by omega)
  have hrt : ∀ v, v < 16 → qv_rt (qv_like (qv_setW f oh 0 ((qv_word f hn 0).toInt32.toInt64 + 1)) K T) K v = qv_rt f T v := fun v hv => (k3 v hv).trans ((q1 T (by omega)).lk (by omega))
  have hwy : ∀ b, qv_wy (qv_like (qv_setW f oh 0 ((qv_word f hn 0).toInt32.toInt64 + 1)) K T) K b = qv_wy f T b := fun b => (k4 b).trans (qe_wy_eq (fun k _ hk => q1 _ (by omega)) b)
  have hnt : ∀ i, i < 32 → qv_nt (qv_like (qv_setW f oh 0 ((qv_word f hn 0).toInt32.toInt64 + 1)) K T) K i = qv_nt f T i := fun i hi => (k5 i hi).trans ((q1 T (by omega)).by (by omega))
  have hp : ∀ b, 0 < qv_wy f T b → qv_eq (qv_like (qv_setW f oh 0 ((qv_word f hn 0).toInt32.toInt64 + 1)) K T) f b := fun b hb => (k2 b (by have := (qe_wy_po hb).1; omega)).tr (q1 b (by have := (qe_wy_po hb).1; omega))
  have hfd := qz_find (f' := qv_like (qv_setW f oh 0 ((qv_word f hn 0).toInt32.toInt64 + 1)) K T) (T' := K) Z hrt hp
  have hg : ∀ b, qv_wy (qv_recvP (qk_w2 f T K 0 bits g 7).1 (qv_setW f oh 0 ((qv_word f hn 0).toInt32.toInt64 + 1)) oh 1) T b = qv_wy f T b := fun b => qe_wy_eq (fun k _ hk => h3 k hk) b
  refine ⟨i8, a2, a3, l2, by omega, by omega, h2, ⟨lv, ps, qz_frame2 Z hrt hwy hp⟩, qh_congr a9 (fun v hv => by rw [hrt v hv]) (fun w q hw hq => (hfd w q hw hq).1) (fun w q j hw hq hj h0 => ((hfd w q hw hq).2 h0).by hj) hnt (fun v hv => ?_) (fun k hk => ?_) (fun k hk => ?_) (fun i hi => ?_) (fun k hk => ?_) (fun x hx => ?_) (Nat.le_refl _), fun k hk => ((k2 (T + k) (by omega)).tr (q1 (T + k) (by omega))).tr (h3 k hk).sy, fun b hb => ?_, h1, ?_⟩
  · rw [qg_cT 16 (by omega), if_neg (by omega)]
  · exact qm_cPU_lo hk
  · rw [qg_cI 2048 (by omega), if_neg (by omega)]
  · rw [qg_cI 32 (by omega), if_neg (by omega)]
  · rw [qg_cB 38400 (by omega), if_neg (by omega)]
  · rw [qg_cT 300 (by omega), if_neg (by omega)]
  · rw [hg b] at hb
    exact (hp b hb).tr (h4 b hb).sy
  · rw [k2 oh (by omega) 0 (by omega)]
    exact (qg_recv_1 (by omega) 0 (by omega)).symm
theorem qg_copy (x : Nat) : qv_eq (qv_copy g f) g x := fun i hi => by
  unfold qv_word qv_wd
  by_cases h : x * 16 + i < 12544
  · rw [if_pos h, if_pos h]
    unfold qv_copy
    rw [pk_cpy_in (by omega) (by omega), show 0 + (x * 16 + i - 0) = x * 16 + i by omega]
  · rw [if_neg h, if_neg h]
/-- mount: which head is newer, and what is then -/
theorem qg_mount (S : qh_off g hd th pl mk nt bt us mm kc J) (hJ : J < 2 ^ 30) (f : Nat → Int64) : (∀ k, 2048 ≤ k → k < 4096 → pl k = 0 ∨ 301 ≤ pl k) ∧ (∀ k, qm_cPD pl 2048 k ≤ 600) ∧ ((qv_word g 0 0 < qv_word g 1 0 → qh_on 1 2 9 (qv_like (qv_copy g f) 2 9) g hd (qm_cT th 0 16 16) (qm_cPD pl 2048) (qm_cI mk 0 2048 2048) (qm_cI nt 0 32 32) (qm_cB bt 0 38400 38400) (qm_cT us 0 300 300) mm kc J) ∧ (¬ qv_word g 0 0 < qv_word g 1 0 → qh_on 0 9 2 (qv_like (qv_copy g f) 9 2) g hd (qm_cT th 0 16 16) (qm_cPD pl 2048) (qm_cI mk 0 2048 2048) (qm_cI nt 0 32 32) (qm_cB bt 0 38400 38400) (qm_cT us 0 300 300) mm kc J)) := by
  obtain ⟨a2, a3, a4, a5, a6, a7, hm, T, K, hT, hK, hH⟩ := S
  have b3 := hK.2.2
  have b6 : ∀ k, qm_cPD pl 2048 k ≤ 600 := fun k => by
    rw [qg_cPD 2048 (by omega)]
    by_cases h : k < 2048
    · rw [if_pos h]; have := a4 (2048 + k); omega
    · rw [if_neg h]; exact a4 k
  refine ⟨b3, b6, ?_⟩
  have main : qh_on hm T K (qv_like (qv_copy g f) T K) g hd (qm_cT th 0 16 16) (qm_cPD pl 2048) (qm_cI mk 0 2048 2048) (qm_cI nt 0 32 32) (qm_cB bt 0 38400 38400) (qm_cT us 0 300 300) mm kc J := by
    obtain ⟨i1, i2, i3, i4, i5, i6, i7, i8⟩ := hT.b
    obtain ⟨⟨kl, kp, Z⟩, c2, c3⟩ := id hK
    obtain ⟨k1, k2, k3, k4, k5⟩ := qg_like (f := qv_copy g f) (T := T) (K := K) i1 i2 i3
    have q1 : ∀ x, qv_eq (qv_copy g f) g x := fun x => qg_copy x
    have hrt : ∀ v, v < 16 → qv_rt (qv_like (qv_copy g f) T K) T v = qv_rt g K v := fun v hv => (k3 v hv).trans ((q1 K).lk (by omega))
    have hwy : ∀ b, qv_wy (qv_like (qv_copy g f) T K) T b = qv_wy g K b := fun b => (k4 b).trans (qe_wy_eq (fun k _ hk => q1 _) b)
    have hnt : ∀ i, i < 32 → qv_nt (qv_like (qv_copy g f) T K) T i = qv_nt g K i := fun i hi => (k5 i hi).trans ((q1 K).by (by omega))
    have hp2 : ∀ x, (x < T ∨ T + 7 ≤ x) → qv_eq (qv_like (qv_copy g f) T K) g x := fun x hx => (k2 x hx).tr (q1 x)
    have hp : ∀ b, 0 < qv_wy g K b → qv_eq (qv_like (qv_copy g f) T K) g b := fun b hb => hp2 b (by have := (qe_wy_po hb).1; omega)
    have hfd := qz_find (f' := qv_like (qv_copy g f) T K) (T' := T) Z hrt hp
    refine ⟨hT, a2, a3, b6, a5, a6, hK.hi (Nat.le_refl _) (fun v hv => ?_) (fun k hk => ?_) (fun k hk => ?_) (fun i hi => ?_) (fun k hk => ?_) (fun x hx => ?_), ⟨kl, kp, qz_frame2 Z hrt hwy hp⟩, qh_congr c2 (fun v hv => by rw [hrt v hv]) (fun w q hw hq => (hfd w q hw hq).1) (fun w q j hw hq hj h0 => ((hfd w q hw hq).2 h0).by hj) hnt (fun v hv => ?_) (fun k hk => ?_) (fun k hk => ?_) (fun i hi => ?_) (fun k hk => ?_) (fun x hx => ?_) (Nat.le_refl _), fun k hk => hp2 _ (by omega), hp, hH, hp2 hm (by omega) 0 (by omega)⟩
    · rw [qg_cT 16 (by omega), if_neg (by omega)]
    · rw [qg_cPD 2048 (by omega), if_neg (by omega)]
    · rw [qg_cI 2048 (by omega), if_neg (by omega)]
    · rw [qg_cI 32 (by omega), if_neg (by omega)]
    · rw [qg_cB 38400 (by omega), if_neg (by omega)]
    · rw [qg_cT 300 (by omega), if_neg (by omega)]
    · rw [qg_cT 16 (by omega), if_pos (by omega), Nat.sub_zero]
    · rw [qg_cPD 2048 (by omega), if_pos (by omega)]
    · rw [qg_cI 2048 (by omega), if_pos (by omega), Nat.sub_zero]
    · rw [qg_cI 32 (by omega), if_pos (by omega), Nat.sub_zero]
    · rw [qg_cB 38400 (by omega), if_pos (by omega), Nat.sub_zero, qh_nar]
    · rw [qg_cT 300 (by omega), if_pos (by omega), Nat.sub_zero]
  obtain ⟨d1, x, d2, d3⟩ := hH
  rcases hT with ⟨rfl, rfl, rfl⟩ | ⟨rfl, rfl, rfl⟩
  · rw [show 1 - 0 = 1 from rfl] at d3
    refine ⟨fun h => ?_, fun _ => main⟩
    rw [d1, d3, pk_lLT (by omega) (by omega)] at h
    omega
  · rw [show 1 - 1 = 0 from rfl] at d3
    refine ⟨fun _ => main, fun h => ?_⟩
    rw [d1, d3, pk_lLT (by omega) (by omega)] at h
    omega
/-- nothing is there -/
theorem qg_nil (h1 : ∀ v, v < 16 → qv_rt f T v = 0) (h2 : ∀ b, qv_wy f T b = 0) : qz_ok f T (fun _ => 0) (fun _ => 0) 0 := by
  refine ⟨⟨⟨fun v hv => Or.inl (h1 v hv), fun n i hn => ?_, fun b hb => ?_, fun b _ => h2 b⟩, ?_, fun _ => Nat.zero_le _⟩, ⟨fun n hn => ?_, fun n hn => ?_⟩⟩
  · rw [h2] at hn; omega
  · have e1 : qs_ 16 (fun v => qi_ (qv_rt f T v = b)) = 0 := qs_zero (fun v hv => qi_f (fun e => by
      rw [h1 v hv] at e
      rw [← e] at hb
      exact qf_po0 hb))
    have e2 : qs_ 784 (fun n => qf_out (qv_lk f) (qv_wy f T) (fun _ => 0) n b) = 0 := qs_zero (fun n _ => qf_out_d (h2 n))
    rw [h2 b]
    unfold qf_in
    try dsimp only
    omega
  · have e : qf_tot (qv_rt f T) (qv_lk f) = 0 := qs_zero (fun v hv => by
      rw [qi_f (p := qv_rt f T v ≠ 0) (fun q => q (h1 v hv)), Nat.zero_mul])
    omega
  · rw [h2] at hn; omega
  · rw [h2] at hn; omega
theorem qg_nilH (h1 : ∀ v, v < 16 → qv_rt f T v = 0) (h3 : ∀ i, i < 32 → qv_nt f T i = 0) (ht : ∀ v, v < 16 → th v = false) (hp : ∀ k, k < 2048 → pl k = 0) (hn0 : ∀ i, i < 32 → nt i = nI 0) (hu : ∀ x, x < 300 → us x = false) (hm : ∀ k, k < 2048 → ∃ m, m ≤ mm ∧ mk k = nI m) : qh_I f T th pl mk nt bt us mm := by
  have hF : ∀ v p, v < 16 → qt_find f T v p = 0 := fun v p hv => by
    unfold qt_find qt_leaf
    rw [if_pos (h1 v hv), if_pos rfl]
  refine ⟨fun v hv => ?_, fun v p hv hp2 => ?_, fun v p i hv _ _ h0 => absurd (hF v p hv) h0, fun v w p hv _ _ h0 => absurd (hF v p hv) h0, fun i hi => by rw [hn0 i hi, h3 i hi], fun k hk => by rw [hp k hk]; omega, fun j k hj _ h0 => absurd (hp j hj) h0, fun x hx => ?_, hm⟩
  · rw [h1 v hv, ht v hv]
    exact ⟨fun z => absurd rfl z, fun z => absurd z (by decide)⟩
  · rw [hF v p hv, hp _ (by omega)]
  · rw [hu x hx]
    refine ⟨fun z => absurd z (by decide), fun ⟨k, q1, q2⟩ => ?_⟩
    rw [hp k q1] at q2
    omega
theorem qg_blank : ∀ n, n ≤ 16 → ∀ b, b < n → ∀ i, i < 16 → qv_word (qv_for n (fun g9 i9 => qv_blank g9 i9) g) b i = 0 := by
  intro n
  induction n with
  | zero => intro _ b hb; omega
  | succ n ih =>
    intro hn b hb i hi
    rw [qv_forS]
    by_cases hbn : b = n
    · rw [hbn]; exact qv_blank_s (by omega) i hi
    · rw [qv_blank_n hbn i hi]; exact ih (by omega) b (by omega) i hi
theorem qg_lay (f g : Nat → Int64) (h1 : 16 ≤ hd) (h2 : hd < 784) (hp : ∀ k, pl k ≤ 600) (hm : mm ≤ J) (hk : ∀ k, k < 4096 → ∃ m, m ≤ mm ∧ mk k = nI m) : qh_on 0 9 2 (qv_like (qv_copy (qv_setW (qv_for 16 (fun g9 i9 => qv_blank g9 i9) g) 0 0 1) f) 9 2) (qv_setW (qv_for 16 (fun g9 i9 => qv_blank g9 i9) g) 0 0 1) hd (qm_fl th 32) (qm_zl pl 4096) mk (qm_nl nt 64) bt (qm_fl us 600) mm 0 J := by
  generalize hG : qv_setW (qv_for 16 (fun g9 i9 => qv_blank g9 i9) g) 0 0 1 = G
  have w0 : qv_word G 0 0 = 1 := by rw [← hG]; exact qv_word_s (by omega) (by omega)
  have wz : ∀ b i, b < 16 → i < 16 → ¬ b = 0 → qv_word G b i = 0 := fun b i hb hi h0 => by
    rw [← hG, qv_word_n h0 (by omega) hi]
    exact qg_blank 16 (Nat.le_refl _) b hb i hi
  have zlk : ∀ b i, b < 16 → ¬ b = 0 → i < 64 → qv_lk G b i = 0 := fun b i hb h0 hi => by
    unfold qv_lk
    rw [wz b (i / 4) hb (by omega) h0, qb_0, Nat.zero_div, Nat.zero_mod]
  have zby : ∀ b i, b < 16 → ¬ b = 0 → i < 128 → qv_by G b i = 0 := fun b i hb h0 hi => by
    unfold qv_by
    rw [wz b (i / 8) hb (by omega) h0, qb_0, Nat.zero_div, Nat.zero_mod]
  have zwy : ∀ b, qv_wy G 2 b = 0 := fun b => by
    unfold qv_wy
    by_cases hpo : qf_po b
    · rw [if_pos hpo]
      have := hpo.1
      have := hpo.2
      exact zby _ _ (by omega) (by omega) (by omega)
    · rw [if_neg hpo]
  obtain ⟨k1, k2, k3, k4, k5⟩ := qg_like (f := qv_copy G f) (T := 9) (K := 2) (by omega) (by omega) (by omega)
  have q1 : ∀ x, qv_eq (qv_copy G f) G x := fun x => qg_copy x
  have hrt : ∀ v, v < 16 → qv_rt (qv_like (qv_copy G f) 9 2) 9 v = 0 := fun v hv => (k3 v hv).trans (((q1 2).lk (by omega)).trans (zlk 2 v (by omega) (by omega) (by omega)))
  have hwy : ∀ b, qv_wy (qv_like (qv_copy G f) 9 2) 9 b = 0 := fun b => (k4 b).trans ((qe_wy_eq (fun k _ hk => q1 _) b).trans (zwy b))
  have hnt : ∀ i, i < 32 → qv_nt (qv_like (qv_copy G f) 9 2) 9 i = 0 := fun i hi => (k5 i hi).trans (((q1 2).by (by omega)).trans (zby 2 (32 + i) (by omega) (by omega) (by omega)))
  have hp2 : ∀ x, (x < 9 ∨ 9 + 7 ≤ x) → qv_eq (qv_like (qv_copy G f) 9 2) G x := fun x hx => (k2 x hx).tr (q1 x)
  refine ⟨Or.inl ⟨rfl, rfl, rfl⟩, h1, h2, fun k => ?_, hm, by omega, ⟨⟨_, _, qg_nil (fun v hv => zlk 2 v (by omega) (by omega) (by omega)) zwy⟩, qg_nilH (fun v hv => zlk 2 v (by omega) (by omega) (by omega)) (fun i hi => zby 2 (32 + i) (by omega) (by omega) (by omega)) (fun v hv => if_pos (by omega)) (fun k hk2 => ?_) (fun i hi => if_pos (by omega)) (fun x hx => if_pos (by omega)) (fun k hk2 => hk _ (by omega)), fun k hk1 hk2 => Or.inl (if_pos hk2)⟩, ⟨_, _, qg_nil hrt hwy⟩, qg_nilH hrt hnt (fun v hv => if_pos (by omega)) (fun k hk2 => if_pos (by omega)) (fun i hi => if_pos (by omega)) (fun x hx => if_pos (by omega)) (fun k hk2 => hk k (by omega)), fun k hk2 => hp2 _ (by omega), fun b hb => ?_, ⟨w0, 0, by omega, ?_⟩, hp2 0 (by omega) 0 (by omega)⟩
  · unfold qm_zl
    by_cases h : k < 4096
    · rw [if_pos h]; omega
    · rw [if_neg h]; exact hp k
  · show qm_zl pl 4096 (2048 + k) - 300 = 0
    unfold qm_zl
    rw [if_pos (by omega)]
  · rw [zwy b] at hb; omega
  · exact wz 1 0 (by omega) (by omega) (by omega)
/-- marks of both halves -/
theorem qg_marksN (S : qh_on hn T K f g hd th pl mk nt bt us mm kc J) : ∀ k, k < 4096 → ∃ m, m ≤ mm ∧ mk k = nI m := fun k hk => by
  obtain ⟨hT, a2, a3, a4, a5, a6, a7, ⟨lv, ps, Z⟩, a9, a10, a11, a12, a13⟩ := S
  by_cases h : k < 2048
  · exact a9.2.2.2.2.2.2.2.2 k h
  · have := a7.2.1.2.2.2.2.2.2.2.2 (k - 2048) (by omega)
    try dsimp only at this
    rw [show 2048 + (k - 2048) = k by omega] at this
    exact this
theorem qg_marksF (S : qh_off g hd th pl mk nt bt us mm kc J) : ∀ k, k < 4096 → ∃ m, m ≤ mm ∧ mk k = nI m := fun k hk => by
  obtain ⟨a2, a3, a4, a5, a6, a7, hm, T, K, hT, hK, hH⟩ := S
  by_cases h : k < 2048
  · exact a7 k h
  · have := hK.2.1.2.2.2.2.2.2.2.2 (k - 2048) (by omega)
    try dsimp only at this
    rw [show 2048 + (k - 2048) = k by omega] at this
    exact this
/-- what check goes over is in order -/
theorem qg_check (S : qh_on hn T K f g hd th pl mk nt bt us mm kc J) (met : Nat → Int32) : (if (qa_first f T met).1 = 0 then if (qa_first f K (qa_first f T met).2).1 = 0 then (qa_first g (2 + hn * 7) (qa_first f K (qa_first f T met).2).2).1 else (qa_first f K (qa_first f T met).2).1 else (qa_first f T met).1) = 0 := by
  obtain ⟨hT, a2, a3, a4, a5, a6, ⟨⟨kl, kp, ZK⟩, -, -⟩, ⟨lv, ps, Z⟩, -, a10, a11, -⟩ := S
  have ZF : qz_ok f K kl kp _ := qz_frame2 ZK (fun v hv => (a10 0 (by omega)).lk (by omega)) (fun b => qe_wy_eq (fun k _ hk => a10 k hk) b) a11
  rw [if_pos (qa_zero Z met), if_pos (qa_zero ZF _), ← hT.b.2.2.2.2.2.2.1]
  exact qa_zero ZK _
end QK
