/-! THE TWO CALLS OF AN OPERATION: class and reference answer alike, and what they hold then agrees -/
section QP
variable {D : va_G} {cl : List vw_C} {H : Heap} {A : Nat → Prop} {x0 x1 x2 x3 y0 y1 y2 y3 : Nat × va_E} {t t' : va_W} {l : Launch} {y : MethodName} {b : ByteArray} {n : Nat} {ret : Option FieldType} {rm : Room} {tys : List (ClassId × FieldType)} {av : List Value} {r : Int32}
def qx_s (k : Nat) : Nat := if k = 2 then 3 else if k = 3 then 2 else k
theorem qx_get (k : Nat) : (x0 :: x1 :: x3 :: x2 :: t)[k]? = (x0 :: x1 :: x2 :: x3 :: t)[qx_s k]? := by
  match k with
  | 0 => rfl
  | 1 => rfl
  | 2 => rfl
  | 3 => rfl
  | k + 4 =>
    have e : qx_s (k + 4) = k + 4 := by unfold qx_s; rw [if_neg (by omega), if_neg (by omega)]
    rw [e]
    rfl
theorem qx_inj {i j : Nat} (h : qx_s i = qx_s j) : i = j := by
  unfold qx_s at h
  split at h <;> split at h <;> (try split at h) <;> (try split at h) <;> omega
theorem qx_P (h : va_P D cl (x0 :: x1 :: x2 :: x3 :: t) H) : va_P D cl (x0 :: x1 :: x3 :: x2 :: t) H := fun k q hk => h (qx_s k) q (by rw [← qx_get]; exact hk)
theorem qx_D (h : va_D A (x0 :: x1 :: x2 :: x3 :: t)) : va_D A (x0 :: x1 :: x3 :: x2 :: t) := ⟨fun i j p q hi hj hpq => qx_inj (h.1 (qx_s i) (qx_s j) p q (by rw [← qx_get]; exact hi) (by rw [← qx_get]; exact hj) hpq), fun k q hk => h.2 (qx_s k) q (by rw [← qx_get]; exact hk)⟩
theorem qx_A (sz : Nat) : va_A (x0 :: x1 :: x3 :: x2 :: t) sz = va_A (x0 :: x1 :: x2 :: x3 :: t) sz := funext fun q => propext ⟨fun h => by
  rcases h with ⟨k, e, hk⟩ | h
  · exact Or.inl ⟨qx_s k, e, by rw [← qx_get]; exact hk⟩
  · exact Or.inr h, fun h => by
  rcases h with ⟨k, e, hk⟩ | h
  · exact Or.inl ⟨qx_s k, e, by rw [← qx_get]; exact hk⟩
  · exact Or.inr h⟩
theorem qx_Pc (sz : Nat) : qPc D tys (x0 :: x1 :: x3 :: x2 :: t) sz = qPc D tys (x0 :: x1 :: x2 :: x3 :: t) sz := funext fun U => propext ⟨fun h => ⟨h.1, qx_P h.2.1, h.2.2.1, qx_D h.2.2.2.1, h.2.2.2.2⟩, fun h => ⟨h.1, qx_P h.2.1, h.2.2.1, qx_D h.2.2.2.1, h.2.2.2.2⟩⟩
theorem qx_Z : qZi D tys (y0 :: y1 :: y3 :: y2 :: t') r A = qZi D tys (y0 :: y1 :: y2 :: y3 :: t') r A := by
  have e : (fun (_ : Unit) (t : State) => va_P D cls (y0 :: y1 :: y3 :: y2 :: t') t.heap ∧ va_K D cls tys t ∧ va_D A (y0 :: y1 :: y3 :: y2 :: t')) = (fun (_ : Unit) (t : State) => va_P D cls (y0 :: y1 :: y2 :: y3 :: t') t.heap ∧ va_K D cls tys t ∧ va_D A (y0 :: y1 :: y2 :: y3 :: t')) := funext fun _ => funext fun U => propext ⟨fun h => ⟨qx_P h.1, h.2.1, qx_D h.2.2⟩, fun h => ⟨qx_P h.1, h.2.1, qx_D h.2.2⟩⟩
  unfold qZi
  rw [e]
/-- cells may stand in another order -/
theorem qx_sw (hM : qMi l y b n ret rm D tys av (x0 :: x1 :: x2 :: x3 :: t) (y0 :: y1 :: y2 :: y3 :: t') r) : qMi l y b n ret rm D tys av (x0 :: x1 :: x3 :: x2 :: t) (y0 :: y1 :: y3 :: y2 :: t') r := by
  intro sz
  have := hM sz
  rw [qx_Pc, qx_A, qx_Z]
  exact this
end QP
abbrev qWG (cI cJ : ClassId) (tp tr x0 x1 tn tk h a h2 a2 au mt d0 d1 hn on T K hd : Nat) (f g : Nat → Int64) (met : Nat → Int32) : va_W := [(tp, .inr (4, [.ref h, .ref h2, .ref tr, .ref d0, .ref d1, .ref au, .int (nI hn), .int (nI on)])), (tr, .inr (3, [.ref h, .ref x0, .ref x1, .ref tn, .ref tk, .int (nI hd)])), (tn, .inr (2, [.ref h, .int (nI T)])), (tk, .inr (2, [.ref h, .int (nI K)])), (h, .inr (1, [.ref a])), (a, .inl (cJ, 12544, .inr (.inl (f)))), (h2, .inr (1, [.ref a2])), (a2, .inl (cJ, 12544, .inr (.inl (g)))), (au, .inr (0, [.ref mt])), (mt, .inl (cI, 768, .inl (met))), (d0, .inr (2, [.ref h2, .int (nI 2)])), (d1, .inr (2, [.ref h2, .int (nI 9)]))]
abbrev qWA (cI cJ : ClassId) (tp tr t0 t1 h a h2 a2 au mt d0 d1 on hd : Nat) (f g : Nat → Int64) (met : Nat → Int32) : va_W := [(tp, .inr (4, [.ref h, .ref h2, .ref tr, .ref d0, .ref d1, .ref au, .int (nI 0), .int (nI on)])), (tr, .inr (3, [.ref h, .ref t0, .ref t1, .ref t1, .ref t0, .int (nI hd)])), (t0, .inr (2, [.ref h, .int (nI 2)])), (t1, .inr (2, [.ref h, .int (nI 9)])), (h, .inr (1, [.ref a])), (a, .inl (cJ, 12544, .inr (.inl (f)))), (h2, .inr (1, [.ref a2])), (a2, .inl (cJ, 12544, .inr (.inl (g)))), (au, .inr (0, [.ref mt])), (mt, .inl (cI, 768, .inl (met))), (d0, .inr (2, [.ref h2, .int (nI 2)])), (d1, .inr (2, [.ref h2, .int (nI 9)]))]
abbrev qWB (cI cJ : ClassId) (tp tr t0 t1 h a h2 a2 au mt d0 d1 on hd : Nat) (f g : Nat → Int64) (met : Nat → Int32) : va_W := [(tp, .inr (4, [.ref h, .ref h2, .ref tr, .ref d0, .ref d1, .ref au, .int (nI 1), .int (nI on)])), (tr, .inr (3, [.ref h, .ref t0, .ref t1, .ref t0, .ref t1, .int (nI hd)])), (t0, .inr (2, [.ref h, .int (nI 2)])), (t1, .inr (2, [.ref h, .int (nI 9)])), (h, .inr (1, [.ref a])), (a, .inl (cJ, 12544, .inr (.inl (f)))), (h2, .inr (1, [.ref a2])), (a2, .inl (cJ, 12544, .inr (.inl (g)))), (au, .inr (0, [.ref mt])), (mt, .inl (cI, 768, .inl (met))), (d0, .inr (2, [.ref h2, .int (nI 2)])), (d1, .inr (2, [.ref h2, .int (nI 9)]))]
abbrev qWM (cZ cI cB : ClassId) (mo r1 r2 r3 r4 r5 r6 : Nat) (th : Nat → Bool) (pl : Nat → Nat) (mk nt bt : Nat → Int32) (us : Nat → Bool) (md ck : Int32) (off : Nat) : va_W := [(mo, .inr (5, [.ref r1, .ref r2, .ref r3, .ref r4, .ref r5, .ref r6, .int (md), .int (ck), .int (nI off)])), (r1, .inl (cZ, 32, .inl (qm_T th))), (r2, .inl (cI, 4096, .inl (qm_P pl))), (r3, .inl (cI, 4096, .inl (mk))), (r4, .inl (cI, 64, .inl (nt))), (r5, .inl (cB, 76800, .inl (bt))), (r6, .inl (cZ, 600, .inl (qm_T us)))]
def qBd (rm : Room) : Prop := rm.frames ≤ 9 ∧ rm.cells ≤ 1 ∧ rm.slots ≤ 2 ∧ rm.locals ≤ 400
def qBm (rm : Room) : Prop := rm.frames ≤ 9 ∧ rm.cells = 0 ∧ rm.slots = 0 ∧ rm.locals ≤ 400
/-- power is on, and stays on -/
def qGn (l : Launch) (D : va_G) (yT : MethodName) (bT : ByteArray) (nT : Nat) (yM : MethodName) (bM : ByteArray) (nM : Nat) (as : List Value) : Prop := ∀ (cI cJ cZ cI2 cB : ClassId) (tp tr x0 x1 tn tk h a h2 a2 au mt d0 d1 mo r1 r2 r3 r4 r5 r6 hn T K hd : Nat) (f g : Nat → Int64) (met : Nat → Int32) (th : Nat → Bool) (pl : Nat → Nat) (mk nt bt : Nat → Int32) (us : Nat → Bool) (mm kc J : Nat), J < 2 ^ 30 → qh_on hn T K f g hd th pl mk nt bt us mm kc J →
  ∃ (rm rm2 : Room) (r : Int32) (hd' : Nat) (f' : Nat → Int64) (met' : Nat → Int32) (th' : Nat → Bool) (pl' : Nat → Nat) (mk' nt' bt' : Nat → Int32) (us' : Nat → Bool) (mm' : Nat), qBd rm ∧ qBm rm2 ∧ qMi l yT bT nT (some .int) rm D [(cI, .int), (cJ, .long)] (.ref tp :: as) (qWG cI cJ tp tr x0 x1 tn tk h a h2 a2 au mt d0 d1 hn 1 T K hd f g met) (qWG cI cJ tp tr x0 x1 tn tk h a h2 a2 au mt d0 d1 hn 1 T K hd' f' g met') r ∧ qMi l yM bM nM (some .int) rm2 D [(cZ, .boolean), (cI2, .int), (cB, .byte)] (.ref mo :: as) (qWM cZ cI2 cB mo r1 r2 r3 r4 r5 r6 th pl mk nt bt us (nI mm) (nI kc) 0) (qWM cZ cI2 cB mo r1 r2 r3 r4 r5 r6 th' pl' mk' nt' bt' us' (nI mm') (nI kc) 0) r ∧ qh_on hn T K f' g hd' th' pl' mk' nt' bt' us' mm' kc (J + 1)
/-- power is off: both tell so -/
def qGf (l : Launch) (D : va_G) (yT : MethodName) (bT : ByteArray) (nT : Nat) (yM : MethodName) (bM : ByteArray) (nM : Nat) (as : List Value) : Prop := ∀ (cI cJ cZ cI2 cB : ClassId) (tp tr x0 x1 tn tk h a h2 a2 au mt d0 d1 mo r1 r2 r3 r4 r5 r6 hn T K hd : Nat) (f g : Nat → Int64) (met : Nat → Int32) (th : Nat → Bool) (pl : Nat → Nat) (mk nt bt : Nat → Int32) (us : Nat → Bool) (md ck : Int32), T < 1000 → K < 1000 → hd < 784 → hn < 2 →
  ∃ (rm rm2 : Room) (r : Int32), qBd rm ∧ qBm rm2 ∧ qMi l yT bT nT (some .int) rm D [(cI, .int), (cJ, .long)] (.ref tp :: as) (qWG cI cJ tp tr x0 x1 tn tk h a h2 a2 au mt d0 d1 hn 0 T K hd f g met) (qWG cI cJ tp tr x0 x1 tn tk h a h2 a2 au mt d0 d1 hn 0 T K hd f g met) r ∧ qMi l yM bM nM (some .int) rm2 D [(cZ, .boolean), (cI2, .int), (cB, .byte)] (.ref mo :: as) (qWM cZ cI2 cB mo r1 r2 r3 r4 r5 r6 th pl mk nt bt us md ck 1) (qWM cZ cI2 cB mo r1 r2 r3 r4 r5 r6 th pl mk nt bt us md ck 1) r
/-- the whole of both: head 0 or 1, on or off -/
def qJ (cI cJ cZ cI2 cB : ClassId) (tp mo J : Nat) (wv wm : va_W) : Prop := ∃ (tr t0 t1 h a h2 a2 au mt d0 d1 r1 r2 r3 r4 r5 r6 hd : Nat) (f g : Nat → Int64) (met : Nat → Int32) (th : Nat → Bool) (pl : Nat → Nat) (mk nt bt : Nat → Int32) (us : Nat → Bool) (mm kc : Nat),
  (wv = qWA cI cJ tp tr t0 t1 h a h2 a2 au mt d0 d1 1 hd f g met ∧ wm = qWM cZ cI2 cB mo r1 r2 r3 r4 r5 r6 th pl mk nt bt us (nI mm) (nI kc) 0 ∧ qh_on 0 9 2 f g hd th pl mk nt bt us mm kc J) ∨
  (wv = qWB cI cJ tp tr t0 t1 h a h2 a2 au mt d0 d1 1 hd f g met ∧ wm = qWM cZ cI2 cB mo r1 r2 r3 r4 r5 r6 th pl mk nt bt us (nI mm) (nI kc) 0 ∧ qh_on 1 2 9 f g hd th pl mk nt bt us mm kc J) ∨
  (wv = qWA cI cJ tp tr t0 t1 h a h2 a2 au mt d0 d1 0 hd f g met ∧ wm = qWM cZ cI2 cB mo r1 r2 r3 r4 r5 r6 th pl mk nt bt us (nI mm) (nI kc) 1 ∧ qh_off g hd th pl mk nt bt us mm kc J) ∨
  (wv = qWB cI cJ tp tr t0 t1 h a h2 a2 au mt d0 d1 0 hd f g met ∧ wm = qWM cZ cI2 cB mo r1 r2 r3 r4 r5 r6 th pl mk nt bt us (nI mm) (nI kc) 1 ∧ qh_off g hd th pl mk nt bt us mm kc J)
def qOp (l : Launch) (D : va_G) (yT : MethodName) (bT : ByteArray) (nT : Nat) (yM : MethodName) (bM : ByteArray) (nM : Nat) (as : List Value) : Prop := ∀ (cI cJ cZ cI2 cB : ClassId) (tp mo J : Nat) (wv wm : va_W), J < 2 ^ 30 → qJ cI cJ cZ cI2 cB tp mo J wv wm →
  ∃ (rm rm2 : Room) (r : Int32) (wv' wm' : va_W), qBd rm ∧ qBm rm2 ∧ qMi l yT bT nT (some .int) rm D [(cI, .int), (cJ, .long)] (.ref tp :: as) wv wv' r ∧ qMi l yM bM nM (some .int) rm2 D [(cZ, .boolean), (cI2, .int), (cB, .byte)] (.ref mo :: as) wm wm' r ∧ qJ cI cJ cZ cI2 cB tp mo (J + 1) wv' wm'
theorem qOp_of {l : Launch} {D : va_G} {yT : MethodName} {bT : ByteArray} {nT : Nat} {yM : MethodName} {bM : ByteArray} {nM : Nat} {as : List Value} (hn : qGn l D yT bT nT yM bM nM as) (hf : qGf l D yT bT nT yM bM nM as) : qOp l D yT bT nT yM bM nM as := by
  intro cI cJ cZ cI2 cB tp mo J wv wm hJ hq
  obtain ⟨tr, t0, t1, h, a, h2, a2, au, mt, d0, d1, r1, r2, r3, r4, r5, r6, hd, f, g, met, th, pl, mk, nt, bt, us, mm, kc, hc⟩ := hq
  rcases hc with ⟨rfl, rfl, S⟩ | ⟨rfl, rfl, S⟩ | ⟨rfl, rfl, S⟩ | ⟨rfl, rfl, S⟩
  · obtain ⟨rm, rm2, r, hd', f', met', th', pl', mk', nt', bt', us', mm', q1, q2, m1, m2, S'⟩ := hn cI cJ cZ cI2 cB tp tr t0 t1 t1 t0 h a h2 a2 au mt d0 d1 mo r1 r2 r3 r4 r5 r6 0 9 2 hd f g met th pl mk nt bt us mm kc J hJ S
    exact ⟨rm, rm2, r, _, _, q1, q2, qx_sw m1, m2, tr, t0, t1, h, a, h2, a2, au, mt, d0, d1, r1, r2, r3, r4, r5, r6, hd', f', g, met', th', pl', mk', nt', bt', us', mm', kc, Or.inl ⟨rfl, rfl, S'⟩⟩
  · obtain ⟨rm, rm2, r, hd', f', met', th', pl', mk', nt', bt', us', mm', q1, q2, m1, m2, S'⟩ := hn cI cJ cZ cI2 cB tp tr t0 t1 t0 t1 h a h2 a2 au mt d0 d1 mo r1 r2 r3 r4 r5 r6 1 2 9 hd f g met th pl mk nt bt us mm kc J hJ S
    exact ⟨rm, rm2, r, _, _, q1, q2, m1, m2, tr, t0, t1, h, a, h2, a2, au, mt, d0, d1, r1, r2, r3, r4, r5, r6, hd', f', g, met', th', pl', mk', nt', bt', us', mm', kc, Or.inr (Or.inl ⟨rfl, rfl, S'⟩)⟩
  · obtain ⟨rm, rm2, r, q1, q2, m1, m2⟩ := hf cI cJ cZ cI2 cB tp tr t0 t1 t1 t0 h a h2 a2 au mt d0 d1 mo r1 r2 r3 r4 r5 r6 0 9 2 hd f g met th pl mk nt bt us (nI mm) (nI kc) (by omega) (by omega) S.2.1 (by omega)
    exact ⟨rm, rm2, r, _, _, q1, q2, qx_sw m1, m2, tr, t0, t1, h, a, h2, a2, au, mt, d0, d1, r1, r2, r3, r4, r5, r6, hd, f, g, met, th, pl, mk, nt, bt, us, mm, kc, Or.inr (Or.inr (Or.inl ⟨rfl, rfl, S.up (by omega)⟩))⟩
  · obtain ⟨rm, rm2, r, q1, q2, m1, m2⟩ := hf cI cJ cZ cI2 cB tp tr t0 t1 t0 t1 h a h2 a2 au mt d0 d1 mo r1 r2 r3 r4 r5 r6 1 2 9 hd f g met th pl mk nt bt us (nI mm) (nI kc) (by omega) (by omega) S.2.1 (by omega)
    exact ⟨rm, rm2, r, _, _, q1, q2, m1, m2, tr, t0, t1, h, a, h2, a2, au, mt, d0, d1, r1, r2, r3, r4, r5, r6, hd, f, g, met, th, pl, mk, nt, bt, us, mm, kc, Or.inr (Or.inr (Or.inr ⟨rfl, rfl, S.up (by omega)⟩))⟩
theorem qh_thI {f : Nat → Int64} {T : Nat} {th : Nat → Bool} {pl : Nat → Nat} {mk nt bt : Nat → Int32} {us : Nat → Bool} {mm : Nat} (hI : qh_I f T th pl mk nt bt us mm) {v : Int32} : qp_th f T v ↔ qm_th th v := by
  constructor
  · intro ⟨h1, h2⟩
    obtain ⟨j, hj, rfl⟩ := qp_of (by decide) h1
    rw [nI_clamp (by omega)] at h2
    exact ⟨h1, by rw [nI_clamp (by omega)]; exact (hI.1 j hj).mp h2⟩
  · intro ⟨h1, h2⟩
    obtain ⟨j, hj, rfl⟩ := qp_of (by decide) h1
    rw [nI_clamp (by omega)] at h2
    exact ⟨h1, by rw [nI_clamp (by omega)]; exact (hI.1 j hj).mpr h2⟩
theorem qp_ofBs {u n : Int32} (h : qp_bs u n) : ∃ i m, u = nI i ∧ n = nI m ∧ 1 ≤ m ∧ i + m ≤ 128 := by
  obtain ⟨h1, h2, h3, h4⟩ := h
  have hn : ¬ n < 0 := fun q => h1 (by
    rw [Int32.lt_iff_toInt_lt] at q ⊢
    have e1 : (nI 1).toInt = 1 := by decide
    have e0 : (0 : Int32).toInt = 0 := by decide
    omega)
  obtain ⟨m, hm, rfl⟩ := nI_of hn
  obtain ⟨i, hi, rfl⟩ := nI_of h3
  rw [nI_ltI (by omega) (by omega)] at h1 h2
  rw [pk_sub (by omega), nI_ltI (by omega) (by omega)] at h4
  exact ⟨i, m, rfl, rfl, by omega, by omega⟩
set_option maxHeartbeats 1000000 in
theorem qGn_make (l : Launch) (D : va_G) (v : Int32) : qGn l D y_Tp_make b_Tp_make 2 y_Mo_make b_Mo_make 2 [.int v] := by
  intro cI cJ cZ cI2 cB tp tr x0 x1 tn tk h a h2 a2 au mt d0 d1 mo r1 r2 r3 r4 r5 r6 hn T K hd f g met th pl mk nt bt us mm kc J hJ S
  obtain ⟨hT, b1, b2, b3, b4, b5, b6, ⟨lv, ps, Z⟩, hI, b7, b8, b9, b10⟩ := id S
  obtain ⟨i1, i2, i3, i4, i5, i6, i7, i8⟩ := hT.b
  have ht := qh_tot Z hI
  have ht2 := Z.1.2.1
  have kT : T < 1000 := by omega
  have kK : K < 1000 := by omega
  by_cases hb : qp_in v 16 ∧ ¬ qp_th f T v
  · obtain ⟨hb1, hb2⟩ := hb
    obtain ⟨j, hj, rfl⟩ := qp_of (by decide) hb1
    have rrj : qv_rt f T j = 0 := Classical.byContradiction fun z => hb2 ((qp_thN hj).mpr z)
    have ttj : th j = false := by
      cases e : th j with
      | false => rfl
      | true => exact absurd rrj ((hI.1 j hj).mpr e)
    refine ⟨_, _, _, _, _, _, _, _, _, _, _, _, _, ?_, ?_, c_Tp_make_ok l D cI cJ tp tr x0 x1 tn T tk K hd h a f h2 a2 g au mt d0 d1 met hn j kT kK b2 i4 hj rrj, c_Mo_make_ok l D cZ cI2 cB mo r1 r2 r3 r4 r5 r6 th pl mk nt bt us (nI mm) (nI kc) j hj ttj, (qh_make S hj rrj).up (by omega)⟩
    · exact ⟨by decide, by decide, by decide, by decide⟩
    · exact ⟨by decide, by decide, by decide, by decide⟩
  · skip
    refine ⟨_, _, _, _, _, _, _, _, _, _, _, _, _, ?_, ?_, c_Tp_make_bad l D cI cJ tp tr x0 x1 tn T tk K hd h a f h2 a2 g au mt d0 d1 met hn v kT kK b2 i4 hb, c_Mo_make_bad l D cZ cI2 cB mo r1 r2 r3 r4 r5 r6 th pl mk nt bt us (nI mm) (nI kc) v (fun z => hb ⟨z.1, fun q => z.2 (qh_thI hI |>.mp q)⟩), S.up (by omega)⟩
    · exact ⟨by decide, by decide, by decide, by decide⟩
    · exact ⟨by decide, by decide, by decide, by decide⟩
set_option maxHeartbeats 1000000 in
theorem qGn_snap (l : Launch) (D : va_G) (v o : Int32) : qGn l D y_Tp_snap b_Tp_snap 4 y_Mo_snap b_Mo_snap 8 [.int v, .int o] := by
  intro cI cJ cZ cI2 cB tp tr x0 x1 tn tk h a h2 a2 au mt d0 d1 mo r1 r2 r3 r4 r5 r6 hn T K hd f g met th pl mk nt bt us mm kc J hJ S
  obtain ⟨hT, b1, b2, b3, b4, b5, b6, ⟨lv, ps, Z⟩, hI, b7, b8, b9, b10⟩ := id S
  obtain ⟨i1, i2, i3, i4, i5, i6, i7, i8⟩ := hT.b
  have ht := qh_tot Z hI
  have ht2 := Z.1.2.1
  have kT : T < 1000 := by omega
  have kK : K < 1000 := by omega
  by_cases hb : qp_in v 16 ∧ ¬ qp_th f T v ∧ qp_th f T o
  · obtain ⟨hb1, hb2, hb3⟩ := hb
    obtain ⟨j, hj, rfl⟩ := qp_of (by decide) hb1
    have rrj : qv_rt f T j = 0 := Classical.byContradiction fun z => hb2 ((qp_thN hj).mpr z)
    have ttj : th j = false := by
      cases e : th j with
      | false => rfl
      | true => exact absurd rrj ((hI.1 j hj).mpr e)
    obtain ⟨k, hk, rfl⟩ := qp_of (by decide) hb3.1
    have rrk := (qp_thN hk).mp hb3
    have ttk := (hI.1 k hk).mp rrk
    have hs := qh_sizeI Z hI hk
    have hcl := qm_ct_le pl (128 * k) 128
    have hq : (qt_all f T + qt_size f T k ≤ nI 300) ↔ (qs_ 16 (fun v => qm_ct pl (128 * v) 128) + qm_ct pl (128 * k) 128 ≤ 300) := by
      rw [qh_allI Z hI, hs, nI_add, nI_leI (by omega) (by omega)]
    by_cases hf : qs_ 16 (fun v => qm_ct pl (128 * v) 128) + qm_ct pl (128 * k) 128 ≤ 300
    · obtain ⟨s0, s1, s2⟩ := qh_snap S hj hk rrj rrk hf
      have m1 := c_Tp_snap_ok l D cI cJ tp tr x0 x1 tn T tk K hd h a f h2 a2 g au mt d0 d1 met hn j k kT kK b2 i4 hj hk rrj rrk (hq.mpr hf)
      rw [hs] at m1
      refine ⟨_, _, _, _, _, _, _, _, _, _, _, _, _, ?_, ?_, m1, c_Mo_snap_ok l D cZ cI2 cB mo r1 r2 r3 r4 r5 r6 th pl mk nt bt us (nI mm) (nI kc) j k hj hk ttj ttk b3 hf s0 s1, s2.up (by omega)⟩
      · exact ⟨by decide, by decide, by decide, by decide⟩
      · exact ⟨by decide, by decide, by decide, by decide⟩
    · skip
      refine ⟨_, _, _, _, _, _, _, _, _, _, _, _, _, ?_, ?_, c_Tp_snap_full l D cI cJ tp tr x0 x1 tn T tk K hd h a f h2 a2 g au mt d0 d1 met hn j k kT kK b2 i4 hj hk rrj rrk (fun z => hf (hq.mp z)), c_Mo_snap_full l D cZ cI2 cB mo r1 r2 r3 r4 r5 r6 th pl mk nt bt us (nI mm) (nI kc) j k hj hk ttj ttk b3 hf, S.up (by omega)⟩
      · exact ⟨by decide, by decide, by decide, by decide⟩
      · exact ⟨by decide, by decide, by decide, by decide⟩
  · skip
    refine ⟨_, _, _, _, _, _, _, _, _, _, _, _, _, ?_, ?_, c_Tp_snap_bad l D cI cJ tp tr x0 x1 tn T tk K hd h a f h2 a2 g au mt d0 d1 met hn v o kT kK b2 i4 hb, c_Mo_snap_bad l D cZ cI2 cB mo r1 r2 r3 r4 r5 r6 th pl mk nt bt us (nI mm) (nI kc) v o (fun z => hb ⟨z.1, fun q => z.2.1 ((qh_thI hI).mp q), (qh_thI hI).mpr z.2.2⟩), S.up (by omega)⟩
    · exact ⟨by decide, by decide, by decide, by decide⟩
    · exact ⟨by decide, by decide, by decide, by decide⟩
set_option maxHeartbeats 1000000 in
theorem qGn_remove (l : Launch) (D : va_G) (v : Int32) : qGn l D y_Tp_remove b_Tp_remove 3 y_Mo_remove b_Mo_remove 4 [.int v] := by
  intro cI cJ cZ cI2 cB tp tr x0 x1 tn tk h a h2 a2 au mt d0 d1 mo r1 r2 r3 r4 r5 r6 hn T K hd f g met th pl mk nt bt us mm kc J hJ S
  obtain ⟨hT, b1, b2, b3, b4, b5, b6, ⟨lv, ps, Z⟩, hI, b7, b8, b9, b10⟩ := id S
  obtain ⟨i1, i2, i3, i4, i5, i6, i7, i8⟩ := hT.b
  have ht := qh_tot Z hI
  have ht2 := Z.1.2.1
  have kT : T < 1000 := by omega
  have kK : K < 1000 := by omega
  by_cases hb : qp_th f T v
  · skip
    obtain ⟨j, hj, rfl⟩ := qp_of (by decide) hb.1
    have rrj := (qp_thN hj).mp hb
    have ttj := (hI.1 j hj).mp rrj
    have m1 := c_Tp_remove_ok l D cI cJ tp tr x0 x1 tn T tk K hd h a f h2 a2 g au mt d0 d1 met hn j kT kK b2 i4 hj rrj
    rw [qh_sizeI Z hI hj] at m1
    refine ⟨_, _, _, _, _, _, _, _, _, _, _, _, _, ?_, ?_, m1, c_Mo_remove_ok l D cZ cI2 cB mo r1 r2 r3 r4 r5 r6 th pl mk nt bt us (nI mm) (nI kc) j hj ttj b3, (qh_remove S hj rrj).up (by omega)⟩
    · exact ⟨by decide, by decide, by decide, by decide⟩
    · exact ⟨by decide, by decide, by decide, by decide⟩
  · skip
    refine ⟨_, _, _, _, _, _, _, _, _, _, _, _, _, ?_, ?_, c_Tp_remove_bad l D cI cJ tp tr x0 x1 tn T tk K hd h a f h2 a2 g au mt d0 d1 met hn v kT kK b2 i4 hb, c_Mo_remove_bad l D cZ cI2 cB mo r1 r2 r3 r4 r5 r6 th pl mk nt bt us (nI mm) (nI kc) v (fun z => hb ((qh_thI hI).mpr z)), S.up (by omega)⟩
    · exact ⟨by decide, by decide, by decide, by decide⟩
    · exact ⟨by decide, by decide, by decide, by decide⟩
set_option maxHeartbeats 1000000 in
theorem qGn_write (l : Launch) (D : va_G) (v z u n y : Int32) : qGn l D y_Tp_write b_Tp_write 8 y_Mo_write b_Mo_write 8 [.int v, .int z, .int u, .int n, .int y] := by
  intro cI cJ cZ cI2 cB tp tr x0 x1 tn tk h a h2 a2 au mt d0 d1 mo r1 r2 r3 r4 r5 r6 hn T K hd f g met th pl mk nt bt us mm kc J hJ S
  obtain ⟨hT, b1, b2, b3, b4, b5, b6, ⟨lv, ps, Z⟩, hI, b7, b8, b9, b10⟩ := id S
  obtain ⟨i1, i2, i3, i4, i5, i6, i7, i8⟩ := hT.b
  have ht := qh_tot Z hI
  have ht2 := Z.1.2.1
  have kT : T < 1000 := by omega
  have kK : K < 1000 := by omega
  by_cases hb : qp_th f T v ∧ qp_in z 128 ∧ qp_bs u n ∧ qp_by y
  · obtain ⟨hb1, hb2, hb3, hb4⟩ := hb
    obtain ⟨j, hj, rfl⟩ := qp_of (by decide) hb1.1
    have rrj := (qp_thN hj).mp hb1
    have ttj := (hI.1 j hj).mp rrj
    obtain ⟨p, hp, rfl⟩ := qp_of (by decide) hb2
    obtain ⟨i, q, rfl, rfl, hq1, hq2⟩ := qp_ofBs hb3
    obtain ⟨w, hw, rfl⟩ := qp_ofB hb4
    have hz := hI.2.1 j p hj hp
    have ha : (qt_all f T < nI 300) ↔ (qs_ 16 (fun v => qm_ct pl (128 * v) 128) < 300) := by
      rw [qh_allI Z hI, nI_ltI (by omega) (by omega)]
    obtain ⟨w1, w2⟩ := qh_write (u := i) (n := q) (y := w) S hJ hj hp hq2 hw rrj
    by_cases h0 : pl (128 * j + p) = 0
    · by_cases hf : qs_ 16 (fun v => qm_ct pl (128 * v) 128) = 300
      · skip
        refine ⟨_, _, _, _, _, _, _, _, _, _, _, _, _, ?_, ?_, c_Tp_write_full l D cI cJ tp tr x0 x1 tn T tk K hd h a f h2 a2 g au mt d0 d1 met hn j p i q w kT kK b2 i4 hj hp hq1 hq2 hw rrj (hz.mpr h0) (fun z => by have := ha.mp z; omega), c_Mo_write_full l D cZ cI2 cB mo r1 r2 r3 r4 r5 r6 th pl mk nt bt us (nI mm) (nI kc) j p i q w hj hp hq1 hq2 hw ttj b3 h0 hf, S.up (by omega)⟩
        · exact ⟨by decide, by decide, by decide, by decide⟩
        · exact ⟨by decide, by decide, by decide, by decide⟩
      · obtain ⟨f1, f2, f3, S'⟩ := w2 h0 hf
        obtain ⟨-, -, -, -, -, -, -, ⟨lv', ps', Z'⟩, hI', -⟩ := id S'
        have m1 := c_Tp_write_ok l D cI cJ tp tr x0 x1 tn T tk K hd h a f h2 a2 g au mt d0 d1 met hn j p i q w kT kK b2 i4 hj hp hq1 hq2 hw rrj (fun _ => ha.mpr (by omega))
        rw [qh_sizeI Z' hI' hj] at m1
        have m2 := c_Mo_write_new l D cZ cI2 cB mo r1 r2 r3 r4 r5 r6 th pl mk nt bt us (nI mm) (nI kc) j p i q w (qm_fr us) hj hp hq1 hq2 hw ttj b3 h0 hf (by omega) f2 f3
        rw [nI_add mm 1] at m2
        refine ⟨_, _, _, _, _, _, _, _, _, _, _, _, _, ?_, ?_, m1, m2, S'⟩
        · exact ⟨by decide, by decide, by decide, by decide⟩
        · exact ⟨by decide, by decide, by decide, by decide⟩
    · obtain ⟨x, hx⟩ : ∃ x, pl (128 * j + p) = x + 1 := ⟨pl (128 * j + p) - 1, by omega⟩
      have S' := w1 x hx
      obtain ⟨-, -, -, -, -, -, -, ⟨lv', ps', Z'⟩, hI', -⟩ := id S'
      have m1 := c_Tp_write_ok l D cI cJ tp tr x0 x1 tn T tk K hd h a f h2 a2 g au mt d0 d1 met hn j p i q w kT kK b2 i4 hj hp hq1 hq2 hw rrj (fun z => absurd (hz.mp z) h0)
      rw [qh_sizeI Z' hI' hj] at m1
      have hx6 := b3 (128 * j + p)
      have m2 := c_Mo_write_old l D cZ cI2 cB mo r1 r2 r3 r4 r5 r6 th pl mk nt bt us (nI mm) (nI kc) j p i q w x hj hp hq1 hq2 hw ttj b3 hx (by omega)
      rw [nI_add mm 1] at m2
      refine ⟨_, _, _, _, _, _, _, _, _, _, _, _, _, ?_, ?_, m1, m2, S'⟩
      · exact ⟨by decide, by decide, by decide, by decide⟩
      · exact ⟨by decide, by decide, by decide, by decide⟩
  · skip
    refine ⟨_, _, _, _, _, _, _, _, _, _, _, _, _, ?_, ?_, c_Tp_write_bad l D cI cJ tp tr x0 x1 tn T tk K hd h a f h2 a2 g au mt d0 d1 met hn v z u n y kT kK b2 i4 hb, c_Mo_write_bad l D cZ cI2 cB mo r1 r2 r3 r4 r5 r6 th pl mk nt bt us (nI mm) (nI kc) v z u n y (fun q => hb ⟨(qh_thI hI).mpr q.1, q.2⟩), S.up (by omega)⟩
    · exact ⟨by decide, by decide, by decide, by decide⟩
    · exact ⟨by decide, by decide, by decide, by decide⟩
set_option maxHeartbeats 1000000 in
theorem qGn_read (l : Launch) (D : va_G) (v z u : Int32) : qGn l D y_Tp_read b_Tp_read 5 y_Mo_read b_Mo_read 5 [.int v, .int z, .int u] := by
  intro cI cJ cZ cI2 cB tp tr x0 x1 tn tk h a h2 a2 au mt d0 d1 mo r1 r2 r3 r4 r5 r6 hn T K hd f g met th pl mk nt bt us mm kc J hJ S
  obtain ⟨hT, b1, b2, b3, b4, b5, b6, ⟨lv, ps, Z⟩, hI, b7, b8, b9, b10⟩ := id S
  obtain ⟨i1, i2, i3, i4, i5, i6, i7, i8⟩ := hT.b
  have ht := qh_tot Z hI
  have ht2 := Z.1.2.1
  have kT : T < 1000 := by omega
  have kK : K < 1000 := by omega
  by_cases hb : qp_th f T v ∧ qp_in z 128 ∧ qp_bs u (nI 1)
  · obtain ⟨hb1, hb2, hb3⟩ := hb
    obtain ⟨j, hj, rfl⟩ := qp_of (by decide) hb1.1
    have rrj := (qp_thN hj).mp hb1
    have ttj := (hI.1 j hj).mp rrj
    obtain ⟨p, hp, rfl⟩ := qp_of (by decide) hb2
    obtain ⟨i, q, rfl, hq, hq1, hq2⟩ := qp_ofBs hb3
    have hz := hI.2.1 j p hj hp
    have m1 := c_Tp_read_ok l D cI cJ tp tr x0 x1 tn T tk K hd h a f h2 a2 g au mt d0 d1 met hn j p i kT kK b2 i4 hj hp (by omega) rrj
    by_cases h0 : pl (128 * j + p) = 0
    · rw [if_pos (hz.mpr h0)] at m1
      refine ⟨_, _, _, _, _, _, _, _, _, _, _, _, _, ?_, ?_, m1, c_Mo_read_0 l D cZ cI2 cB mo r1 r2 r3 r4 r5 r6 th pl mk nt bt us (nI mm) (nI kc) j p i hj hp (by omega) ttj b3 h0, S.up (by omega)⟩
      · exact ⟨by decide, by decide, by decide, by decide⟩
      · exact ⟨by decide, by decide, by decide, by decide⟩
    · have h1 : qt_find f T j p ≠ 0 := fun z => h0 (hz.mp z)
      obtain ⟨x, hx⟩ : ∃ x, pl (128 * j + p) = x + 1 := ⟨pl (128 * j + p) - 1, by omega⟩
      have hx6 := b3 (128 * j + p)
      rw [if_neg h1] at m1
      have m2 := c_Mo_read_1 l D cZ cI2 cB mo r1 r2 r3 r4 r5 r6 th pl mk nt bt us (nI mm) (nI kc) j p i x hj hp (by omega) ttj b3 hx (by omega)
      have hc := hI.2.2.1 j p i hj hp (by omega) h1
      rw [hx, Nat.add_sub_cancel] at hc
      rw [hc] at m2
      refine ⟨_, _, _, _, _, _, _, _, _, _, _, _, _, ?_, ?_, m1, m2, S.up (by omega)⟩
      · exact ⟨by decide, by decide, by decide, by decide⟩
      · exact ⟨by decide, by decide, by decide, by decide⟩
  · skip
    refine ⟨_, _, _, _, _, _, _, _, _, _, _, _, _, ?_, ?_, c_Tp_read_bad l D cI cJ tp tr x0 x1 tn T tk K hd h a f h2 a2 g au mt d0 d1 met hn v z u kT kK b2 i4 hb, c_Mo_read_bad l D cZ cI2 cB mo r1 r2 r3 r4 r5 r6 th pl mk nt bt us (nI mm) (nI kc) v z u (fun q => hb ⟨(qh_thI hI).mpr q.1, q.2⟩), S.up (by omega)⟩
    · exact ⟨by decide, by decide, by decide, by decide⟩
    · exact ⟨by decide, by decide, by decide, by decide⟩
set_option maxHeartbeats 1000000 in
theorem qGn_trim (l : Launch) (D : va_G) (v lo up : Int32) : qGn l D y_Tp_trim b_Tp_trim 6 y_Mo_trim b_Mo_trim 6 [.int v, .int lo, .int up] := by
  intro cI cJ cZ cI2 cB tp tr x0 x1 tn tk h a h2 a2 au mt d0 d1 mo r1 r2 r3 r4 r5 r6 hn T K hd f g met th pl mk nt bt us mm kc J hJ S
  obtain ⟨hT, b1, b2, b3, b4, b5, b6, ⟨lv, ps, Z⟩, hI, b7, b8, b9, b10⟩ := id S
  obtain ⟨i1, i2, i3, i4, i5, i6, i7, i8⟩ := hT.b
  have ht := qh_tot Z hI
  have ht2 := Z.1.2.1
  have kT : T < 1000 := by omega
  have kK : K < 1000 := by omega
  by_cases hb : qp_th f T v ∧ qp_in lo 128 ∧ qp_in up 128 ∧ lo ≤ up
  · obtain ⟨hb1, hb2, hb3, hb4⟩ := hb
    obtain ⟨j, hj, rfl⟩ := qp_of (by decide) hb1.1
    have rrj := (qp_thN hj).mp hb1
    have ttj := (hI.1 j hj).mp rrj
    obtain ⟨p, hp, rfl⟩ := qp_of (by decide) hb2
    obtain ⟨q, hq, rfl⟩ := qp_of (by decide) hb3
    rw [nI_leI (by omega) (by omega)] at hb4
    obtain ⟨s1, s2⟩ := qh_trim (lo := p) (n := q - p + 1) S hj (by omega) rrj
    have m1 := c_Tp_trim_ok l D cI cJ tp tr x0 x1 tn T tk K hd h a f h2 a2 g au mt d0 d1 met hn j p q kT kK b2 i4 hj hq hb4 rrj
    rw [s2] at m1
    refine ⟨_, _, _, _, _, _, _, _, _, _, _, _, _, ?_, ?_, m1, c_Mo_trim_ok l D cZ cI2 cB mo r1 r2 r3 r4 r5 r6 th pl mk nt bt us (nI mm) (nI kc) j p q hj hq hb4 ttj b3, s1.up (by omega)⟩
    · exact ⟨by decide, by decide, by decide, by decide⟩
    · exact ⟨by decide, by decide, by decide, by decide⟩
  · skip
    refine ⟨_, _, _, _, _, _, _, _, _, _, _, _, _, ?_, ?_, c_Tp_trim_bad l D cI cJ tp tr x0 x1 tn T tk K hd h a f h2 a2 g au mt d0 d1 met hn v lo up kT kK b2 i4 hb, c_Mo_trim_bad l D cZ cI2 cB mo r1 r2 r3 r4 r5 r6 th pl mk nt bt us (nI mm) (nI kc) v lo up (fun q => hb ⟨(qh_thI hI).mpr q.1, q.2⟩), S.up (by omega)⟩
    · exact ⟨by decide, by decide, by decide, by decide⟩
    · exact ⟨by decide, by decide, by decide, by decide⟩
set_option maxHeartbeats 1000000 in
theorem qGn_pieces (l : Launch) (D : va_G) (v : Int32) : qGn l D y_Tp_pieces b_Tp_pieces 2 y_Mo_pieces b_Mo_pieces 2 [.int v] := by
  intro cI cJ cZ cI2 cB tp tr x0 x1 tn tk h a h2 a2 au mt d0 d1 mo r1 r2 r3 r4 r5 r6 hn T K hd f g met th pl mk nt bt us mm kc J hJ S
  obtain ⟨hT, b1, b2, b3, b4, b5, b6, ⟨lv, ps, Z⟩, hI, b7, b8, b9, b10⟩ := id S
  obtain ⟨i1, i2, i3, i4, i5, i6, i7, i8⟩ := hT.b
  have ht := qh_tot Z hI
  have ht2 := Z.1.2.1
  have kT : T < 1000 := by omega
  have kK : K < 1000 := by omega
  by_cases h1 : v = -1
  · subst h1
    have m1 := c_Tp_pieces_all l D cI cJ tp tr x0 x1 tn T tk K hd h a f h2 a2 g au mt d0 d1 met hn kT kK b2 i4
    rw [qh_allI Z hI] at m1
    refine ⟨_, _, _, _, _, _, _, _, _, _, _, _, _, ?_, ?_, m1, c_Mo_pieces_all l D cZ cI2 cB mo r1 r2 r3 r4 r5 r6 th pl mk nt bt us (nI mm) (nI kc) b3, S.up (by omega)⟩
    · exact ⟨by decide, by decide, by decide, by decide⟩
    · exact ⟨by decide, by decide, by decide, by decide⟩
  · by_cases hb : qp_th f T v
    · skip
      obtain ⟨j, hj, rfl⟩ := qp_of (by decide) hb.1
      have rrj := (qp_thN hj).mp hb
      have ttj := (hI.1 j hj).mp rrj
      have m1 := c_Tp_pieces_ok l D cI cJ tp tr x0 x1 tn T tk K hd h a f h2 a2 g au mt d0 d1 met hn j kT kK b2 i4 hj rrj
      rw [qh_sizeI Z hI hj] at m1
      refine ⟨_, _, _, _, _, _, _, _, _, _, _, _, _, ?_, ?_, m1, c_Mo_pieces_ok l D cZ cI2 cB mo r1 r2 r3 r4 r5 r6 th pl mk nt bt us (nI mm) (nI kc) j hj ttj b3, S.up (by omega)⟩
      · exact ⟨by decide, by decide, by decide, by decide⟩
      · exact ⟨by decide, by decide, by decide, by decide⟩
    · skip
      refine ⟨_, _, _, _, _, _, _, _, _, _, _, _, _, ?_, ?_, c_Tp_pieces_bad l D cI cJ tp tr x0 x1 tn T tk K hd h a f h2 a2 g au mt d0 d1 met hn v kT kK b2 i4 h1 hb, c_Mo_pieces_bad l D cZ cI2 cB mo r1 r2 r3 r4 r5 r6 th pl mk nt bt us (nI mm) (nI kc) v h1 (fun q => hb ((qh_thI hI).mpr q)), S.up (by omega)⟩
      · exact ⟨by decide, by decide, by decide, by decide⟩
      · exact ⟨by decide, by decide, by decide, by decide⟩
set_option maxHeartbeats 1000000 in
theorem qGn_next (l : Launch) (D : va_G) (v z : Int32) : qGn l D y_Tp_next b_Tp_next 4 y_Mo_next b_Mo_next 4 [.int v, .int z] := by
  intro cI cJ cZ cI2 cB tp tr x0 x1 tn tk h a h2 a2 au mt d0 d1 mo r1 r2 r3 r4 r5 r6 hn T K hd f g met th pl mk nt bt us mm kc J hJ S
  obtain ⟨hT, b1, b2, b3, b4, b5, b6, ⟨lv, ps, Z⟩, hI, b7, b8, b9, b10⟩ := id S
  obtain ⟨i1, i2, i3, i4, i5, i6, i7, i8⟩ := hT.b
  have ht := qh_tot Z hI
  have ht2 := Z.1.2.1
  have kT : T < 1000 := by omega
  have kK : K < 1000 := by omega
  by_cases hb : qp_th f T v ∧ qp_in z 128
  · obtain ⟨hb1, hb2⟩ := hb
    obtain ⟨j, hj, rfl⟩ := qp_of (by decide) hb1.1
    have rrj := (qp_thN hj).mp hb1
    have ttj := (hI.1 j hj).mp rrj
    obtain ⟨p, hp, rfl⟩ := qp_of (by decide) hb2
    have m1 := c_Tp_next_ok l D cI cJ tp tr x0 x1 tn T tk K hd h a f h2 a2 g au mt d0 d1 met hn j p kT kK b2 i4 hj hp rrj
    rw [qh_next hI hj (128 - p) p (by omega)] at m1
    refine ⟨_, _, _, _, _, _, _, _, _, _, _, _, _, ?_, ?_, m1, c_Mo_next_ok l D cZ cI2 cB mo r1 r2 r3 r4 r5 r6 th pl mk nt bt us (nI mm) (nI kc) j p hj hp ttj b3, S.up (by omega)⟩
    · exact ⟨by decide, by decide, by decide, by decide⟩
    · exact ⟨by decide, by decide, by decide, by decide⟩
  · skip
    refine ⟨_, _, _, _, _, _, _, _, _, _, _, _, _, ?_, ?_, c_Tp_next_bad l D cI cJ tp tr x0 x1 tn T tk K hd h a f h2 a2 g au mt d0 d1 met hn v z kT kK b2 i4 hb, c_Mo_next_bad l D cZ cI2 cB mo r1 r2 r3 r4 r5 r6 th pl mk nt bt us (nI mm) (nI kc) v z (fun q => hb ⟨(qh_thI hI).mpr q.1, q.2⟩), S.up (by omega)⟩
    · exact ⟨by decide, by decide, by decide, by decide⟩
    · exact ⟨by decide, by decide, by decide, by decide⟩
set_option maxHeartbeats 1000000 in
theorem qGn_shared (l : Launch) (D : va_G) (v z : Int32) : qGn l D y_Tp_shared b_Tp_shared 5 y_Mo_shared b_Mo_shared 6 [.int v, .int z] := by
  intro cI cJ cZ cI2 cB tp tr x0 x1 tn tk h a h2 a2 au mt d0 d1 mo r1 r2 r3 r4 r5 r6 hn T K hd f g met th pl mk nt bt us mm kc J hJ S
  obtain ⟨hT, b1, b2, b3, b4, b5, b6, ⟨lv, ps, Z⟩, hI, b7, b8, b9, b10⟩ := id S
  obtain ⟨i1, i2, i3, i4, i5, i6, i7, i8⟩ := hT.b
  have ht := qh_tot Z hI
  have ht2 := Z.1.2.1
  have kT : T < 1000 := by omega
  have kK : K < 1000 := by omega
  by_cases hb : qp_th f T v ∧ qp_in z 128
  · obtain ⟨hb1, hb2⟩ := hb
    obtain ⟨j, hj, rfl⟩ := qp_of (by decide) hb1.1
    have rrj := (qp_thN hj).mp hb1
    have ttj := (hI.1 j hj).mp rrj
    obtain ⟨p, hp, rfl⟩ := qp_of (by decide) hb2
    have m1 := c_Tp_shared_ok l D cI cJ tp tr x0 x1 tn T tk K hd h a f h2 a2 g au mt d0 d1 met hn j p kT kK b2 i4 hj hp rrj
    rw [qh_shared hI hj hp] at m1
    refine ⟨_, _, _, _, _, _, _, _, _, _, _, _, _, ?_, ?_, m1, c_Mo_shared_ok l D cZ cI2 cB mo r1 r2 r3 r4 r5 r6 th pl mk nt bt us (nI mm) (nI kc) j p hj hp ttj b3, S.up (by omega)⟩
    · exact ⟨by decide, by decide, by decide, by decide⟩
    · exact ⟨by decide, by decide, by decide, by decide⟩
  · skip
    refine ⟨_, _, _, _, _, _, _, _, _, _, _, _, _, ?_, ?_, c_Tp_shared_bad l D cI cJ tp tr x0 x1 tn T tk K hd h a f h2 a2 g au mt d0 d1 met hn v z kT kK b2 i4 hb, c_Mo_shared_bad l D cZ cI2 cB mo r1 r2 r3 r4 r5 r6 th pl mk nt bt us (nI mm) (nI kc) v z (fun q => hb ⟨(qh_thI hI).mpr q.1, q.2⟩), S.up (by omega)⟩
    · exact ⟨by decide, by decide, by decide, by decide⟩
    · exact ⟨by decide, by decide, by decide, by decide⟩
set_option maxHeartbeats 1000000 in
theorem qGn_tell (l : Launch) (D : va_G) (v z : Int32) : qGn l D y_Tp_tell b_Tp_tell 4 y_Mo_tell b_Mo_tell 4 [.int v, .int z] := by
  intro cI cJ cZ cI2 cB tp tr x0 x1 tn tk h a h2 a2 au mt d0 d1 mo r1 r2 r3 r4 r5 r6 hn T K hd f g met th pl mk nt bt us mm kc J hJ S
  obtain ⟨hT, b1, b2, b3, b4, b5, b6, ⟨lv, ps, Z⟩, hI, b7, b8, b9, b10⟩ := id S
  obtain ⟨i1, i2, i3, i4, i5, i6, i7, i8⟩ := hT.b
  have ht := qh_tot Z hI
  have ht2 := Z.1.2.1
  have kT : T < 1000 := by omega
  have kK : K < 1000 := by omega
  by_cases hb : qp_in v 32 ∧ qp_by z
  · obtain ⟨hb1, hb2⟩ := hb
    obtain ⟨j, hj, rfl⟩ := qp_of (by decide) hb1
    obtain ⟨w, hw, rfl⟩ := qp_ofB hb2
    have m1 := c_Tp_tell_ok l D cI cJ tp tr x0 x1 tn T tk K hd h a f h2 a2 g au mt d0 d1 met hn j w kT kK b2 i4 hj hw
    rw [← hI.2.2.2.2.1 j hj] at m1
    refine ⟨_, _, _, _, _, _, _, _, _, _, _, _, _, ?_, ?_, m1, c_Mo_tell_ok l D cZ cI2 cB mo r1 r2 r3 r4 r5 r6 th pl mk nt bt us (nI mm) (nI kc) j w hj hw, (qh_tell S hj hw).up (by omega)⟩
    · exact ⟨by decide, by decide, by decide, by decide⟩
    · exact ⟨by decide, by decide, by decide, by decide⟩
  · skip
    refine ⟨_, _, _, _, _, _, _, _, _, _, _, _, _, ?_, ?_, c_Tp_tell_bad l D cI cJ tp tr x0 x1 tn T tk K hd h a f h2 a2 g au mt d0 d1 met hn v z kT kK b2 i4 hb, c_Mo_tell_bad l D cZ cI2 cB mo r1 r2 r3 r4 r5 r6 th pl mk nt bt us (nI mm) (nI kc) v z hb, S.up (by omega)⟩
    · exact ⟨by decide, by decide, by decide, by decide⟩
    · exact ⟨by decide, by decide, by decide, by decide⟩
set_option maxHeartbeats 1000000 in
theorem qGn_told (l : Launch) (D : va_G) (v : Int32) : qGn l D y_Tp_told b_Tp_told 2 y_Mo_told b_Mo_told 2 [.int v] := by
  intro cI cJ cZ cI2 cB tp tr x0 x1 tn tk h a h2 a2 au mt d0 d1 mo r1 r2 r3 r4 r5 r6 hn T K hd f g met th pl mk nt bt us mm kc J hJ S
  obtain ⟨hT, b1, b2, b3, b4, b5, b6, ⟨lv, ps, Z⟩, hI, b7, b8, b9, b10⟩ := id S
  obtain ⟨i1, i2, i3, i4, i5, i6, i7, i8⟩ := hT.b
  have ht := qh_tot Z hI
  have ht2 := Z.1.2.1
  have kT : T < 1000 := by omega
  have kK : K < 1000 := by omega
  by_cases hb : qp_in v 32
  · obtain ⟨j, hj, rfl⟩ := qp_of (by decide) hb
    have m1 := c_Tp_told_ok l D cI cJ tp tr x0 x1 tn T tk K hd h a f h2 a2 g au mt d0 d1 met hn j kT kK b2 i4 hj
    rw [← hI.2.2.2.2.1 j hj] at m1
    refine ⟨_, _, _, _, _, _, _, _, _, _, _, _, _, ?_, ?_, m1, c_Mo_told_ok l D cZ cI2 cB mo r1 r2 r3 r4 r5 r6 th pl mk nt bt us (nI mm) (nI kc) j hj, S.up (by omega)⟩
    · exact ⟨by decide, by decide, by decide, by decide⟩
    · exact ⟨by decide, by decide, by decide, by decide⟩
  · skip
    refine ⟨_, _, _, _, _, _, _, _, _, _, _, _, _, ?_, ?_, c_Tp_told_bad l D cI cJ tp tr x0 x1 tn T tk K hd h a f h2 a2 g au mt d0 d1 met hn v kT kK b2 i4 hb, c_Mo_told_bad l D cZ cI2 cB mo r1 r2 r3 r4 r5 r6 th pl mk nt bt us (nI mm) (nI kc) v hb, S.up (by omega)⟩
    · exact ⟨by decide, by decide, by decide, by decide⟩
    · exact ⟨by decide, by decide, by decide, by decide⟩
set_option maxHeartbeats 1000000 in
theorem qGn_count (l : Launch) (D : va_G) (v : Int32) : qGn l D y_Tp_count b_Tp_count 2 y_Mo_count b_Mo_count 4 [.int v] := by
  intro cI cJ cZ cI2 cB tp tr x0 x1 tn tk h a h2 a2 au mt d0 d1 mo r1 r2 r3 r4 r5 r6 hn T K hd f g met th pl mk nt bt us mm kc J hJ S
  obtain ⟨hT, b1, b2, b3, b4, b5, b6, ⟨lv, ps, Z⟩, hI, b7, b8, b9, b10⟩ := id S
  obtain ⟨i1, i2, i3, i4, i5, i6, i7, i8⟩ := hT.b
  have ht := qh_tot Z hI
  have ht2 := Z.1.2.1
  have kT : T < 1000 := by omega
  have kK : K < 1000 := by omega
  by_cases h0 : v = nI 0
  · subst h0
    have m1 := c_Tp_count0 l D cI cJ tp tr x0 x1 tn T tk K hd h a f h2 a2 g au mt d0 d1 met hn kT kK b2 i4
    rw [qh_cnt hI 16 (by omega)] at m1
    refine ⟨_, _, _, _, _, _, _, _, _, _, _, _, _, ?_, ?_, m1, c_Mo_count0 l D cZ cI2 cB mo r1 r2 r3 r4 r5 r6 th pl mk nt bt us (nI mm) (nI kc), S.up (by omega)⟩
    · exact ⟨by decide, by decide, by decide, by decide⟩
    · exact ⟨by decide, by decide, by decide, by decide⟩
  · by_cases h1 : v = nI 1
    · subst h1
      have m1 := c_Tp_count1 l D cI cJ tp tr x0 x1 tn T tk K hd h a f h2 a2 g au mt d0 d1 met hn kT kK b2 i4
      have e1 : (qv_word f hn 0).toInt32 - nI 1 = nI kc := by
        rw [b10, b9.1, lN_i, pk_sub (by omega), Nat.add_sub_cancel]
      rw [e1] at m1
      refine ⟨_, _, _, _, _, _, _, _, _, _, _, _, _, ?_, ?_, m1, c_Mo_count1 l D cZ cI2 cB mo r1 r2 r3 r4 r5 r6 th pl mk nt bt us (nI mm) (nI kc), S.up (by omega)⟩
      · exact ⟨by decide, by decide, by decide, by decide⟩
      · exact ⟨by decide, by decide, by decide, by decide⟩
    · have g0 : ¬ v = 0 := fun z => h0 (by rw [z]; exact nI_0.symm)
      have g1 : ¬ v = 1 := fun z => h1 (by rw [z]; rfl)
      refine ⟨_, _, _, _, _, _, _, _, _, _, _, _, _, ?_, ?_, c_Tp_count_bad l D cI cJ tp tr x0 x1 tn T tk K hd h a f h2 a2 g au mt d0 d1 met hn v kT kK b2 i4 g0 g1, c_Mo_count_bad l D cZ cI2 cB mo r1 r2 r3 r4 r5 r6 th pl mk nt bt us (nI mm) (nI kc) v g0 h1, S.up (by omega)⟩
      · exact ⟨by decide, by decide, by decide, by decide⟩
      · exact ⟨by decide, by decide, by decide, by decide⟩
set_option maxHeartbeats 1000000 in
theorem qGn_check (l : Launch) (D : va_G) : qGn l D y_Tp_check b_Tp_check 2 y_Mo_check b_Mo_check 1 [] := by
  intro cI cJ cZ cI2 cB tp tr x0 x1 tn tk h a h2 a2 au mt d0 d1 mo r1 r2 r3 r4 r5 r6 hn T K hd f g met th pl mk nt bt us mm kc J hJ S
  obtain ⟨hT, b1, b2, b3, b4, b5, b6, ⟨lv, ps, Z⟩, hI, b7, b8, b9, b10⟩ := id S
  obtain ⟨i1, i2, i3, i4, i5, i6, i7, i8⟩ := hT.b
  have ht := qh_tot Z hI
  have ht2 := Z.1.2.1
  have kT : T < 1000 := by omega
  have kK : K < 1000 := by omega
  have hz := qg_check S met
  rcases (show hn = 0 ∨ hn = 1 by omega) with rfl | rfl
  · have hz : (if (qa_first f T met).1 = 0 then if (qa_first f K (qa_first f T met).2).1 = 0 then (qa_first g 2 (qa_first f K (qa_first f T met).2).2).1 else (qa_first f K (qa_first f T met).2).1 else (qa_first f T met).1) = 0 := hz
    have m1 := c_Tp_check_ok0 l D cI cJ tp tr x0 x1 tn T tk K hd h a f h2 a2 g au mt d0 d1 met kT kK b2
    rw [hz] at m1
    refine ⟨_, _, _, _, _, _, _, _, _, _, _, _, _, ?_, ?_, m1, c_Mo_check_ok l D cZ cI2 cB mo r1 r2 r3 r4 r5 r6 th pl mk nt bt us (nI mm) (nI kc), S.up (by omega)⟩
    · exact ⟨by decide, by decide, by decide, by decide⟩
    · exact ⟨by decide, by decide, by decide, by decide⟩
  · have hz : (if (qa_first f T met).1 = 0 then if (qa_first f K (qa_first f T met).2).1 = 0 then (qa_first g 9 (qa_first f K (qa_first f T met).2).2).1 else (qa_first f K (qa_first f T met).2).1 else (qa_first f T met).1) = 0 := hz
    have m1 := c_Tp_check_ok1 l D cI cJ tp tr x0 x1 tn T tk K hd h a f h2 a2 g au mt d0 d1 met kT kK b2
    rw [hz] at m1
    refine ⟨_, _, _, _, _, _, _, _, _, _, _, _, _, ?_, ?_, m1, c_Mo_check_ok l D cZ cI2 cB mo r1 r2 r3 r4 r5 r6 th pl mk nt bt us (nI mm) (nI kc), S.up (by omega)⟩
    · exact ⟨by decide, by decide, by decide, by decide⟩
    · exact ⟨by decide, by decide, by decide, by decide⟩
theorem qGf_make (l : Launch) (D : va_G) (z0 : Int32) : qGf l D y_Tp_make b_Tp_make 2 y_Mo_make b_Mo_make 2 [.int z0] := by
  intro cI cJ cZ cI2 cB tp tr x0 x1 tn tk h a h2 a2 au mt d0 d1 mo r1 r2 r3 r4 r5 r6 hn T K hd f g met th pl mk nt bt us md ck kT kK khd khn
  refine ⟨_, _, _, ?_, ?_, c_Tp_make_off l D cI cJ tp tr x0 x1 tn T tk K hd h a f h2 a2 g au mt d0 d1 met hn z0 kT kK khd khn, c_Mo_make_off l D cZ cI2 cB mo r1 r2 r3 r4 r5 r6 th pl mk nt bt us md ck z0⟩
  · exact ⟨by decide, by decide, by decide, by decide⟩
  · exact ⟨by decide, by decide, by decide, by decide⟩
theorem qOp_make (l : Launch) (D : va_G) (z0 : Int32) : qOp l D y_Tp_make b_Tp_make 2 y_Mo_make b_Mo_make 2 [.int z0] := qOp_of (qGn_make l D z0) (qGf_make l D z0)
theorem qGf_snap (l : Launch) (D : va_G) (z0 z1 : Int32) : qGf l D y_Tp_snap b_Tp_snap 4 y_Mo_snap b_Mo_snap 8 [.int z0, .int z1] := by
  intro cI cJ cZ cI2 cB tp tr x0 x1 tn tk h a h2 a2 au mt d0 d1 mo r1 r2 r3 r4 r5 r6 hn T K hd f g met th pl mk nt bt us md ck kT kK khd khn
  refine ⟨_, _, _, ?_, ?_, c_Tp_snap_off l D cI cJ tp tr x0 x1 tn T tk K hd h a f h2 a2 g au mt d0 d1 met hn z0 z1 kT kK khd khn, c_Mo_snap_off l D cZ cI2 cB mo r1 r2 r3 r4 r5 r6 th pl mk nt bt us md ck z0 z1⟩
  · exact ⟨by decide, by decide, by decide, by decide⟩
  · exact ⟨by decide, by decide, by decide, by decide⟩
theorem qOp_snap (l : Launch) (D : va_G) (z0 z1 : Int32) : qOp l D y_Tp_snap b_Tp_snap 4 y_Mo_snap b_Mo_snap 8 [.int z0, .int z1] := qOp_of (qGn_snap l D z0 z1) (qGf_snap l D z0 z1)
theorem qGf_remove (l : Launch) (D : va_G) (z0 : Int32) : qGf l D y_Tp_remove b_Tp_remove 3 y_Mo_remove b_Mo_remove 4 [.int z0] := by
  intro cI cJ cZ cI2 cB tp tr x0 x1 tn tk h a h2 a2 au mt d0 d1 mo r1 r2 r3 r4 r5 r6 hn T K hd f g met th pl mk nt bt us md ck kT kK khd khn
  refine ⟨_, _, _, ?_, ?_, c_Tp_remove_off l D cI cJ tp tr x0 x1 tn T tk K hd h a f h2 a2 g au mt d0 d1 met hn z0 kT kK khd khn, c_Mo_remove_off l D cZ cI2 cB mo r1 r2 r3 r4 r5 r6 th pl mk nt bt us md ck z0⟩
  · exact ⟨by decide, by decide, by decide, by decide⟩
  · exact ⟨by decide, by decide, by decide, by decide⟩
theorem qOp_remove (l : Launch) (D : va_G) (z0 : Int32) : qOp l D y_Tp_remove b_Tp_remove 3 y_Mo_remove b_Mo_remove 4 [.int z0] := qOp_of (qGn_remove l D z0) (qGf_remove l D z0)
theorem qGf_write (l : Launch) (D : va_G) (z0 z1 z2 z3 z4 : Int32) : qGf l D y_Tp_write b_Tp_write 8 y_Mo_write b_Mo_write 8 [.int z0, .int z1, .int z2, .int z3, .int z4] := by
  intro cI cJ cZ cI2 cB tp tr x0 x1 tn tk h a h2 a2 au mt d0 d1 mo r1 r2 r3 r4 r5 r6 hn T K hd f g met th pl mk nt bt us md ck kT kK khd khn
  refine ⟨_, _, _, ?_, ?_, c_Tp_write_off l D cI cJ tp tr x0 x1 tn T tk K hd h a f h2 a2 g au mt d0 d1 met hn z0 z1 z2 z3 z4 kT kK khd khn, c_Mo_write_off l D cZ cI2 cB mo r1 r2 r3 r4 r5 r6 th pl mk nt bt us md ck z0 z1 z2 z3 z4⟩
  · exact ⟨by decide, by decide, by decide, by decide⟩
  · exact ⟨by decide, by decide, by decide, by decide⟩
theorem qOp_write (l : Launch) (D : va_G) (z0 z1 z2 z3 z4 : Int32) : qOp l D y_Tp_write b_Tp_write 8 y_Mo_write b_Mo_write 8 [.int z0, .int z1, .int z2, .int z3, .int z4] := qOp_of (qGn_write l D z0 z1 z2 z3 z4) (qGf_write l D z0 z1 z2 z3 z4)
theorem qGf_read (l : Launch) (D : va_G) (z0 z1 z2 : Int32) : qGf l D y_Tp_read b_Tp_read 5 y_Mo_read b_Mo_read 5 [.int z0, .int z1, .int z2] := by
  intro cI cJ cZ cI2 cB tp tr x0 x1 tn tk h a h2 a2 au mt d0 d1 mo r1 r2 r3 r4 r5 r6 hn T K hd f g met th pl mk nt bt us md ck kT kK khd khn
  refine ⟨_, _, _, ?_, ?_, c_Tp_read_off l D cI cJ tp tr x0 x1 tn T tk K hd h a f h2 a2 g au mt d0 d1 met hn z0 z1 z2 kT kK khd khn, c_Mo_read_off l D cZ cI2 cB mo r1 r2 r3 r4 r5 r6 th pl mk nt bt us md ck z0 z1 z2⟩
  · exact ⟨by decide, by decide, by decide, by decide⟩
  · exact ⟨by decide, by decide, by decide, by decide⟩
theorem qOp_read (l : Launch) (D : va_G) (z0 z1 z2 : Int32) : qOp l D y_Tp_read b_Tp_read 5 y_Mo_read b_Mo_read 5 [.int z0, .int z1, .int z2] := qOp_of (qGn_read l D z0 z1 z2) (qGf_read l D z0 z1 z2)
theorem qGf_trim (l : Launch) (D : va_G) (z0 z1 z2 : Int32) : qGf l D y_Tp_trim b_Tp_trim 6 y_Mo_trim b_Mo_trim 6 [.int z0, .int z1, .int z2] := by
  intro cI cJ cZ cI2 cB tp tr x0 x1 tn tk h a h2 a2 au mt d0 d1 mo r1 r2 r3 r4 r5 r6 hn T K hd f g met th pl mk nt bt us md ck kT kK khd khn
  refine ⟨_, _, _, ?_, ?_, c_Tp_trim_off l D cI cJ tp tr x0 x1 tn T tk K hd h a f h2 a2 g au mt d0 d1 met hn z0 z1 z2 kT kK khd khn, c_Mo_trim_off l D cZ cI2 cB mo r1 r2 r3 r4 r5 r6 th pl mk nt bt us md ck z0 z1 z2⟩
  · exact ⟨by decide, by decide, by decide, by decide⟩
  · exact ⟨by decide, by decide, by decide, by decide⟩
theorem qOp_trim (l : Launch) (D : va_G) (z0 z1 z2 : Int32) : qOp l D y_Tp_trim b_Tp_trim 6 y_Mo_trim b_Mo_trim 6 [.int z0, .int z1, .int z2] := qOp_of (qGn_trim l D z0 z1 z2) (qGf_trim l D z0 z1 z2)
theorem qGf_pieces (l : Launch) (D : va_G) (z0 : Int32) : qGf l D y_Tp_pieces b_Tp_pieces 2 y_Mo_pieces b_Mo_pieces 2 [.int z0] := by
  intro cI cJ cZ cI2 cB tp tr x0 x1 tn tk h a h2 a2 au mt d0 d1 mo r1 r2 r3 r4 r5 r6 hn T K hd f g met th pl mk nt bt us md ck kT kK khd khn
  refine ⟨_, _, _, ?_, ?_, c_Tp_pieces_off l D cI cJ tp tr x0 x1 tn T tk K hd h a f h2 a2 g au mt d0 d1 met hn z0 kT kK khd khn, c_Mo_pieces_off l D cZ cI2 cB mo r1 r2 r3 r4 r5 r6 th pl mk nt bt us md ck z0⟩
  · exact ⟨by decide, by decide, by decide, by decide⟩
  · exact ⟨by decide, by decide, by decide, by decide⟩
theorem qOp_pieces (l : Launch) (D : va_G) (z0 : Int32) : qOp l D y_Tp_pieces b_Tp_pieces 2 y_Mo_pieces b_Mo_pieces 2 [.int z0] := qOp_of (qGn_pieces l D z0) (qGf_pieces l D z0)
theorem qGf_next (l : Launch) (D : va_G) (z0 z1 : Int32) : qGf l D y_Tp_next b_Tp_next 4 y_Mo_next b_Mo_next 4 [.int z0, .int z1] := by
  intro cI cJ cZ cI2 cB tp tr x0 x1 tn tk h a h2 a2 au mt d0 d1 mo r1 r2 r3 r4 r5 r6 hn T K hd f g met th pl mk nt bt us md ck kT kK khd khn
  refine ⟨_, _, _, ?_, ?_, c_Tp_next_off l D cI cJ tp tr x0 x1 tn T tk K hd h a f h2 a2 g au mt d0 d1 met hn z0 z1 kT kK khd khn, c_Mo_next_off l D cZ cI2 cB mo r1 r2 r3 r4 r5 r6 th pl mk nt bt us md ck z0 z1⟩
  · exact ⟨by decide, by decide, by decide, by decide⟩
  · exact ⟨by decide, by decide, by decide, by decide⟩
theorem qOp_next (l : Launch) (D : va_G) (z0 z1 : Int32) : qOp l D y_Tp_next b_Tp_next 4 y_Mo_next b_Mo_next 4 [.int z0, .int z1] := qOp_of (qGn_next l D z0 z1) (qGf_next l D z0 z1)
theorem qGf_shared (l : Launch) (D : va_G) (z0 z1 : Int32) : qGf l D y_Tp_shared b_Tp_shared 5 y_Mo_shared b_Mo_shared 6 [.int z0, .int z1] := by
  intro cI cJ cZ cI2 cB tp tr x0 x1 tn tk h a h2 a2 au mt d0 d1 mo r1 r2 r3 r4 r5 r6 hn T K hd f g met th pl mk nt bt us md ck kT kK khd khn
  refine ⟨_, _, _, ?_, ?_, c_Tp_shared_off l D cI cJ tp tr x0 x1 tn T tk K hd h a f h2 a2 g au mt d0 d1 met hn z0 z1 kT kK khd khn, c_Mo_shared_off l D cZ cI2 cB mo r1 r2 r3 r4 r5 r6 th pl mk nt bt us md ck z0 z1⟩
  · exact ⟨by decide, by decide, by decide, by decide⟩
  · exact ⟨by decide, by decide, by decide, by decide⟩
theorem qOp_shared (l : Launch) (D : va_G) (z0 z1 : Int32) : qOp l D y_Tp_shared b_Tp_shared 5 y_Mo_shared b_Mo_shared 6 [.int z0, .int z1] := qOp_of (qGn_shared l D z0 z1) (qGf_shared l D z0 z1)
theorem qGf_tell (l : Launch) (D : va_G) (z0 z1 : Int32) : qGf l D y_Tp_tell b_Tp_tell 4 y_Mo_tell b_Mo_tell 4 [.int z0, .int z1] := by
  intro cI cJ cZ cI2 cB tp tr x0 x1 tn tk h a h2 a2 au mt d0 d1 mo r1 r2 r3 r4 r5 r6 hn T K hd f g met th pl mk nt bt us md ck kT kK khd khn
  refine ⟨_, _, _, ?_, ?_, c_Tp_tell_off l D cI cJ tp tr x0 x1 tn T tk K hd h a f h2 a2 g au mt d0 d1 met hn z0 z1 kT kK khd khn, c_Mo_tell_off l D cZ cI2 cB mo r1 r2 r3 r4 r5 r6 th pl mk nt bt us md ck z0 z1⟩
  · exact ⟨by decide, by decide, by decide, by decide⟩
  · exact ⟨by decide, by decide, by decide, by decide⟩
theorem qOp_tell (l : Launch) (D : va_G) (z0 z1 : Int32) : qOp l D y_Tp_tell b_Tp_tell 4 y_Mo_tell b_Mo_tell 4 [.int z0, .int z1] := qOp_of (qGn_tell l D z0 z1) (qGf_tell l D z0 z1)
theorem qGf_told (l : Launch) (D : va_G) (z0 : Int32) : qGf l D y_Tp_told b_Tp_told 2 y_Mo_told b_Mo_told 2 [.int z0] := by
  intro cI cJ cZ cI2 cB tp tr x0 x1 tn tk h a h2 a2 au mt d0 d1 mo r1 r2 r3 r4 r5 r6 hn T K hd f g met th pl mk nt bt us md ck kT kK khd khn
  refine ⟨_, _, _, ?_, ?_, c_Tp_told_off l D cI cJ tp tr x0 x1 tn T tk K hd h a f h2 a2 g au mt d0 d1 met hn z0 kT kK khd khn, c_Mo_told_off l D cZ cI2 cB mo r1 r2 r3 r4 r5 r6 th pl mk nt bt us md ck z0⟩
  · exact ⟨by decide, by decide, by decide, by decide⟩
  · exact ⟨by decide, by decide, by decide, by decide⟩
theorem qOp_told (l : Launch) (D : va_G) (z0 : Int32) : qOp l D y_Tp_told b_Tp_told 2 y_Mo_told b_Mo_told 2 [.int z0] := qOp_of (qGn_told l D z0) (qGf_told l D z0)
theorem qGf_count (l : Launch) (D : va_G) (z0 : Int32) : qGf l D y_Tp_count b_Tp_count 2 y_Mo_count b_Mo_count 4 [.int z0] := by
  intro cI cJ cZ cI2 cB tp tr x0 x1 tn tk h a h2 a2 au mt d0 d1 mo r1 r2 r3 r4 r5 r6 hn T K hd f g met th pl mk nt bt us md ck kT kK khd khn
  refine ⟨_, _, _, ?_, ?_, c_Tp_count_off l D cI cJ tp tr x0 x1 tn T tk K hd h a f h2 a2 g au mt d0 d1 met hn z0 kT kK khd khn, c_Mo_count_off l D cZ cI2 cB mo r1 r2 r3 r4 r5 r6 th pl mk nt bt us md ck z0⟩
  · exact ⟨by decide, by decide, by decide, by decide⟩
  · exact ⟨by decide, by decide, by decide, by decide⟩
theorem qOp_count (l : Launch) (D : va_G) (z0 : Int32) : qOp l D y_Tp_count b_Tp_count 2 y_Mo_count b_Mo_count 4 [.int z0] := qOp_of (qGn_count l D z0) (qGf_count l D z0)
theorem qGf_check (l : Launch) (D : va_G) : qGf l D y_Tp_check b_Tp_check 2 y_Mo_check b_Mo_check 1 [] := by
  intro cI cJ cZ cI2 cB tp tr x0 x1 tn tk h a h2 a2 au mt d0 d1 mo r1 r2 r3 r4 r5 r6 hn T K hd f g met th pl mk nt bt us md ck kT kK khd khn
  refine ⟨_, _, _, ?_, ?_, c_Tp_check_off l D cI cJ tp tr x0 x1 tn T tk K hd h a f h2 a2 g au mt d0 d1 met hn kT kK khd khn, c_Mo_check_off l D cZ cI2 cB mo r1 r2 r3 r4 r5 r6 th pl mk nt bt us md ck⟩
  · exact ⟨by decide, by decide, by decide, by decide⟩
  · exact ⟨by decide, by decide, by decide, by decide⟩
theorem qOp_check (l : Launch) (D : va_G) : qOp l D y_Tp_check b_Tp_check 2 y_Mo_check b_Mo_check 1 [] := qOp_of (qGn_check l D) (qGf_check l D)
