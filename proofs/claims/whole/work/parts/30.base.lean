/-! CONTRACTS OF ONE FORM: the world's cells before, the answer and the cells behind; and how such a method is called -/
theorem tw_G : GoodIn lw_gd lw_gd := fun w hw => ⟨hw, good_of_word (List.mem_filter.mp hw).2⟩
/-- the words on nest mates: a caller hands them on by itself -/
def qN (U : State) : Prop := va_Nw (Cond.methodLinkNest R_Tp 11 y_Im_init "ThinPool") U ∧ va_Nw (Cond.methodLinkNest R_Tp 42 y_Au_init "ThinPool") U ∧ va_Nw (Cond.fieldLinkNest R_Tp 110 "ThinPool$Trees" "now" "LThinPool$Tables;" "ThinPool") U ∧ va_Nw (Cond.fieldLinkNest R_Tp 151 "ThinPool$Trees" "kept" "LThinPool$Tables;" "ThinPool") U
theorem qN.warm {s U : State} (hW : s.WarmedH U.vm) (h : qN s) : qN U := ⟨h.1.warmM hW, h.2.1.warmM hW, h.2.2.1.warmF hW, h.2.2.2.warmF hW⟩
theorem qN.same {u U : State} (h : u.vm = U.vm) (hZ : qN u) : qN U := ⟨hZ.1.same rfl h, hZ.2.1.same rfl h, hZ.2.2.1.same rfl h, hZ.2.2.2.same rfl h⟩
theorem tw_C {y : MethodName} {b : ByteArray} {n : Nat} {ret : Option FieldType} (h5 : Cond.code y b n ret ∈ lw_gd) : GoodIn lw_gd (Cond.code y b n ret :: lw_gd) := fun w hw => by
  rcases List.mem_cons.mp hw with e | h
  · rw [e]; exact tw_G _ h5
  · exact tw_G _ h
theorem tw_V {own C : String} {idx : Nat} {y : MethodName} {b : ByteArray} {n : Nat} {ret : Option FieldType} (h1 : Cond.methodLink own idx y ∈ lw_gd) (h2 : Cond.instanceMethod y ∈ lw_gd) (h3 : Cond.selects C y y ∈ lw_gd) (h4 : Cond.initialized C ∈ lw_gd) (h5 : Cond.code y b n ret ∈ lw_gd) : GoodIn lw_gd (wsV own idx C y (Cond.code y b n ret :: lw_gd)) := fun w hw => by
  unfold wsV at hw
  rcases List.mem_append.mp hw with h | h
  · rcases List.mem_cons.mp h with e | h
    · rw [e]; exact tw_G _ h1
    · rcases List.mem_cons.mp h with e | h
      · rw [e]; exact tw_G _ h2
      · rcases List.mem_cons.mp h with e | h
        · rw [e]; exact tw_G _ h3
        · rcases List.mem_cons.mp h with e | h
          · rw [e]; exact tw_G _ h4
          · cases h
  · exact tw_C h5 w h
theorem tw_S {own : String} {idx : Nat} {y : MethodName} {b : ByteArray} {n : Nat} {ret : Option FieldType} (h1 : Cond.methodLink own idx y ∈ lw_gd) (h2 : Cond.static y ∈ lw_gd) (h4 : Cond.initialized y.cls ∈ lw_gd) (h5 : Cond.code y b n ret ∈ lw_gd) : GoodIn lw_gd (va_wsS own idx y (Cond.code y b n ret :: lw_gd)) := fun w hw => by
  unfold va_wsS at hw
  rcases List.mem_append.mp hw with h | h
  · rcases List.mem_cons.mp h with e | h
    · rw [e]; exact tw_G _ h1
    · rcases List.mem_cons.mp h with e | h
      · rw [e]; exact tw_G _ h2
      · rcases List.mem_cons.mp h with e | h
        · rw [e]; exact tw_G _ h4
        · cases h
  · exact tw_C h5 w h
def qZi (D : va_G) (tys : List (ClassId × FieldType)) (ws' : va_W) (r : Int32) (A : Nat → Prop) : Array Value → State → Outcome → State → Prop := va_Qi (fun x (_ : Unit) => x = r) (fun _ t => va_P D cls ws' t.heap ∧ va_K D cls tys t ∧ va_D A ws') A
def qZl (D : va_G) (tys : List (ClassId × FieldType)) (ws' : va_W) (r : Int64) (A : Nat → Prop) : Array Value → State → Outcome → State → Prop := va_Ql (fun x (_ : Unit) => x = r) (fun _ t => va_P D cls ws' t.heap ∧ va_K D cls tys t ∧ va_D A ws') A
def qZv (D : va_G) (tys : List (ClassId × FieldType)) (ws' : va_W) (A : Nat → Prop) : Array Value → State → Outcome → State → Prop := va_Qv (fun (_ : Unit) => True) (fun _ t => va_P D cls ws' t.heap ∧ va_K D cls tys t ∧ va_D A ws') A
def qPc (D : va_G) (tys : List (ClassId × FieldType)) (ws : va_W) (sz : Nat) (U : State) : Prop := U.heap.size = sz ∧ va_P D cls ws U.heap ∧ va_K D cls tys U ∧ va_D (fun _ => True) ws ∧ qN U
/-- contracts: answers an int, a long, nothing -/
def qMi (l : Launch) (y : MethodName) (b : ByteArray) (n : Nat) (ret : Option FieldType) (rm : Room) (D : va_G) (tys : List (ClassId × FieldType)) (av : List Value) (ws ws' : va_W) (r : Int32) : Prop := ∀ sz, Met l y (Cond.code y b n ret :: lw_gd) rm (va_Pc av (qPc D tys ws sz)) (qZi D tys ws' r (va_A ws sz)) rm.cells rm.slots (va_A ws sz)
def qMl (l : Launch) (y : MethodName) (b : ByteArray) (n : Nat) (ret : Option FieldType) (rm : Room) (D : va_G) (tys : List (ClassId × FieldType)) (av : List Value) (ws ws' : va_W) (r : Int64) : Prop := ∀ sz, Met l y (Cond.code y b n ret :: lw_gd) rm (va_Pc av (qPc D tys ws sz)) (qZl D tys ws' r (va_A ws sz)) rm.cells rm.slots (va_A ws sz)
def qMv (l : Launch) (y : MethodName) (b : ByteArray) (n : Nat) (ret : Option FieldType) (rm : Room) (D : va_G) (tys : List (ClassId × FieldType)) (av : List Value) (ws ws' : va_W) : Prop := ∀ sz, Met l y (Cond.code y b n ret :: lw_gd) rm (va_Pc av (qPc D tys ws sz)) (qZv D tys ws' (va_A ws sz)) rm.cells rm.slots (va_A ws sz)
abbrev rmL (k : Nat) : Room := { frames := k, cells := 0, slots := 0, locals := 40 * k }
theorem q_blind {D : va_G} {tys : List (ClassId × FieldType)} {av : List Value} {ws : va_W} {sz : Nat} : FrameBlind (va_Pc av (qPc D tys ws sz)) := fun a U g mk q => by
  obtain ⟨q0, q1, qP, qK, qD, qn⟩ := q
  exact ⟨q0, q1, qP, va_K.moved (u := U) (U := U.calling g mk a) (Vm.Alike.refl U.vm) qK, qD, qN.same (u := U) (U := U.calling g mk a) rfl qn⟩
/-- the start of a method -/
theorem q_start {l : Launch} {y : MethodName} {b : ByteArray} {n : Nat} {ret : Option FieldType} {rm : Room} {D : va_G} {tys : List (ClassId × FieldType)} {av : List Value} {ws : va_W} {mc ms : Nat} {Qc : (Nat → Prop) → Array Value → State → Outcome → State → Prop} (hy : plainName y.cls = true) (hlen : (lg_sl av).length ≤ n)
    (body : ∀ (p : Program) (e : Env) (s : State) (m : MethodId) (below : List Frame) (meth : Method) (c : Code) (A : Nat → Prop), p.tables.exec = Jvm.exec → c.code = b → meth.sig.returnType = ret → meth.locks = false → c.maxLocals = n → s.vm.findClass y.cls = some m.cls → (∀ w ∈ lw_gd, w.before av.toArray s = true) → va_K D cls tys s → va_P D cls ws s.heap → va_D A ws → va_S A s.heap s.heap [] → (∀ q : Nat, s.heap.size ≤ q → A q) → qN s → ∀ ls : Array Slot, lv_has ls n (lv_args 0 av) → W p l e rm s m av.toArray below meth c s.heap [] 0 0 (MQ below (Qc A) av.toArray s mc ms A) (F0 m 0 ls [])) :
    ∀ sz, Met l y (Cond.code y b n ret :: lw_gd) rm (va_Pc av (qPc D tys ws sz)) (Qc (va_A ws sz)) mc ms (va_A ws sz) := by
  intro sz
  refine Met.ofW (cc := b) (maxL := n) (ret := ret) hy rfl ?_
  intro p e s m args below meth c s₁ B hml hv
  obtain ⟨rfl, hsz, hP, hK, hD0, hN⟩ := hv
  have hts := atoms_spec (ws := Cond.code y b n ret :: lw_gd) B.pre
  subst hsz
  have hl := lv_entry av (n := n) hlen
  rw [lg_entry_eq]
  exact body p e s m below meth c (va_A ws s.heap.size) B.exec B.bytes B.returns B.notSynchronized hml (findClass_of_methodNamed B.named) (fun w h => hts w (List.mem_cons_of_mem _ h)) hK hP hD0.self va_S.rf (fun q h => Or.inr h) hN _ hl
section QW
variable {p : Program} {l : Launch} {e : Env} {R : Room} {s : State} {m : MethodId} {args : Array Value} {below : List Frame} {meth : Method} {c : Code} {H : Heap} {locs : List Loc} {cells slots : Nat} {Q : State → Prop} {A : Nat → Prop} {D : va_G} {tys tysC : List (ClassId × FieldType)} {ws ws1 ws' wsC wsR wsC' wsN : va_W} {cc b : ByteArray} {pc n nL : Nat} {ls : Array Slot} {rest As st : List Value}
/-- the ends of a method -/
theorem q_iret {v r : Int32} (hx : p.tables.exec = Jvm.exec) (hb : c.code = cc) (hr : meth.sig.returnType = some .int) (hlk : meth.locks = false) (hK : va_K D cls tys s) (hP : va_P D cls ws1 H) (hD : va_D A ws1) (hS : va_S A s.heap H locs) (hdg : decode cc pc = .ok (.ireturn, 1)) (hv : v = r) (hw : ws1 = ws') :
    W p l e R s m args below meth c H locs cells slots (MQ below (qZi D tys ws' r A) args s cells slots A) (F0 m pc ls [.int v]) := by
  subst hw
  exact W.iret hx hb hr (fun t ht hW => ⟨⟨v, (), rfl, hv, by rw [ht]; exact hP, va_K.moved hW.alike hK, hD⟩, hS.F ht⟩) hS.2.2 hdg
theorem q_zret {v r : Int32} {ty : FieldType} (hx : p.tables.exec = Jvm.exec) (hb : c.code = cc) (hr : meth.sig.returnType = some ty) (hnr : narrow ty (.int v) = .int v) (hlk : meth.locks = false) (hK : va_K D cls tys s) (hP : va_P D cls ws1 H) (hD : va_D A ws1) (hS : va_S A s.heap H locs) (hdg : decode cc pc = .ok (.ireturn, 1)) (hv : v = r) (hw : ws1 = ws') :
    W p l e R s m args below meth c H locs cells slots (MQ below (qZi D tys ws' r A) args s cells slots A) (F0 m pc ls [.int v]) := by
  subst hw
  exact W.zret hx hb hr hnr (fun t ht hW => ⟨⟨v, (), rfl, hv, by rw [ht]; exact hP, va_K.moved hW.alike hK, hD⟩, hS.F ht⟩) hS.2.2 hdg
theorem q_lret {v r : Int64} (hx : p.tables.exec = Jvm.exec) (hb : c.code = cc) (hr : meth.sig.returnType = some .long) (hlk : meth.locks = false) (hK : va_K D cls tys s) (hP : va_P D cls ws1 H) (hD : va_D A ws1) (hS : va_S A s.heap H locs) (hdg : decode cc pc = .ok (.lreturn, 1)) (hv : v = r) (hw : ws1 = ws') :
    W p l e R s m args below meth c H locs cells slots (MQ below (qZl D tys ws' r A) args s cells slots A) (F0 m pc ls [.long v]) := by
  subst hw
  exact W.lret hx hb hr (fun t ht hW => ⟨⟨v, (), rfl, hv, by rw [ht]; exact hP, va_K.moved hW.alike hK, hD⟩, hS.F ht⟩) hS.2.2 hdg
theorem q_vret (hx : p.tables.exec = Jvm.exec) (hb : c.code = cc) (hr : meth.sig.returnType = none) (hlk : meth.locks = false) (hK : va_K D cls tys s) (hP : va_P D cls ws1 H) (hD : va_D A ws1) (hS : va_S A s.heap H locs) (hdg : decode cc pc = .ok (.return_, 1)) (hw : ws1 = ws') :
    W p l e R s m args below meth c H locs cells slots (MQ below (qZv D tys ws' A) args s cells slots A) (F0 m pc ls []) := by
  subst hw
  exact W.vret hx hb hr (fun t ht hW => ⟨⟨(), rfl, trivial, by rw [ht]; exact hP, va_K.moved hW.alike hK, hD⟩, hS.F ht⟩) hS.2.2 hdg
theorem q_fm {α β : Type} {g : α → Option β} : ∀ {is : List α} {w : List β}, is.map g = w.map some → is.filterMap g = w := by
  intro is
  induction is with
  | nil => intro w h; cases w with
    | nil => rfl
    | cons x w => simp at h
  | cons i is ih => intro w h; cases w with
    | nil => simp at h
    | cons x w =>
      simp only [List.map_cons, List.cons.injEq] at h
      rw [List.filterMap_cons, h.1]
      simp only [List.cons.injEq, true_and]
      exact ih h.2
/-- the words of a call, in short -/
def qCall (R : Room) (y : MethodName) (n k : Nat) (rm : Room) : Prop := (y.cls ≠ "java/lang/invoke/MethodHandle" ∧ y.cls ≠ "java/lang/invoke/VarHandle" ∧ (parseMethodDescriptor y.desc).map (fun d => d.parameters.length) = some k) ∧ rm.frames + 1 ≤ R.frames ∧ 8 + (n + 11) + rm.locals ≤ R.locals
/-- the cells of a call: those of the callee (isC), the others (isR), and how they stand behind it (isN) -/
def qCut (ws wsC wsR wsC' wsN : va_W) (isC isR isN : List Nat) : Prop := isC.map (fun i => ws[i]?) = wsC.map some ∧ isR.map (fun i => ws[i]?) = wsR.map some ∧ isN.map (fun i => (wsR ++ wsC')[i]?) = wsN.map some ∧ va_nd isC = true ∧ va_nd isR = true ∧ va_nd isN = true ∧ ∀ i ∈ isR, i ∉ isC
theorem q_back {H1 : Heap} {isC isR isN : List Nat} (hP : va_P D cls ws H) (hD : va_D A ws) (hS0 : va_S A s.heap H locs) (hA : ∀ q : Nat, s.heap.size ≤ q → A q) (hc : qCut ws wsC wsR wsC' wsN isC isR isN) (hk : ∀ q : Nat, q < H.size → ¬ va_A wsC H.size q → H1[q]? = H[q]?) (hP1 : va_P D cls wsC' H1) (hD1 : va_D (va_A wsC H.size) wsC') : va_P D cls wsN H1 ∧ va_D A wsN := by
  obtain ⟨h1, h2, h3, h4, h5, h6, h7⟩ := hc
  obtain ⟨g1, g2⟩ := va_join hP hD isC isR h1 h2 h5 h7 hk (va_free hD hS0 hA isC h1) hP1 hD1
  exact ⟨g1.sub isN (q_fm h3), g2.sub isN h6 h3⟩
theorem q_callVi {own C : String} {idx k : Nat} {y : MethodName} {ret : Option FieldType} {rm : Room} {a ci : Nat} {q : vw_C} {fs : List Value} {r : Int32} {isT isC isR isN : List Nat} (S : CallFix p m c cc nL s args lw_gd own) (hM : qMi l y b n ret rm D tysC (.ref a :: As) wsC wsC' r) (hG : GoodIn lw_gd (wsV own idx C y (Cond.code y b n ret :: lw_gd))) (hy : y.cls = C) (hq : qCall R y n k rm) (hc : cells + rm.cells ≤ R.cells ∧ slots + rm.slots ≤ R.slots)
    (hK : va_K D cls tys s) (hP : va_P D cls ws H) (hD : va_D A ws) (hS : va_S A s.heap H locs) (hA : ∀ q : Nat, s.heap.size ≤ q → A q) (hN : qN s) (hT : isT.filterMap (fun i => tys[i]?) = tysC) (cut : qCut ws wsC wsR wsC' wsN isC isR isN) (he : wsC[0]? = some (a, .inr (ci, fs))) (hci : cls[ci]? = some q) (hqC : q.1 = C)
    (hl : ls.size = nL) (hlen : As.length = k) (hst : st = As.reverse ++ .ref a :: rest) (hroom : (rest.map fun v => v.category).sum ≤ 8) (hdg : decode cc pc = .ok (.invokevirtual idx, 3))
    (kk : ∀ (H1 : Heap) (locs1 : List Loc), va_P D cls wsN H1 → va_D A wsN → va_S A s.heap H1 locs1 → W p l e R s m args below meth c H1 locs1 (cells + rm.cells) (slots + rm.slots) Q (F0 m (pc + 3) ls (.int r :: rest))) : W p l e R s m args below meth c H locs cells slots Q (F0 m pc ls st) := by
  subst hst
  have hPc := hP.sub isC (q_fm cut.1)
  have hDc := hD.sub isC cut.2.2.2.1 cut.1
  have hKc := hK.sub isT hT
  have hFc := va_free hD hS hA isC cut.1
  refine va_calli (va_runV (As := As) (rest := rest) S (hM H.size) (cwV k S.2.2.2.2 hG rfl rfl rfl ⟨hy, hq.1⟩ hq.2) ⟨q_blind, by rw [← hqC]; exact va_recv hKc hPc hci he, fun U hU hW => ⟨rfl, by rw [hU], by rw [hU]; exact hPc, va_K.moved hW.alike hKc, hDc.weaken (fun _ _ _ _ => trivial), hN.warm hW⟩⟩ rfl hlen hl rfl (lv_room hroom) hdg hc) hS (fun q _ h => hFc q h) hFc (fun r2 u t H1 locs1 ht hvm hw hB hz1 hk1 hS1 => ?_)
  obtain ⟨hP1, hK1, hD1⟩ := hB
  rw [ht] at hP1
  obtain ⟨g1, g2⟩ := q_back hP hD hS hA cut hk1 hP1 hD1
  have hw : r2 = r := hw
  subst hw
  exact kk H1 locs1 g1 g2 hS1
theorem q_callVl {own C : String} {idx k : Nat} {y : MethodName} {ret : Option FieldType} {rm : Room} {a ci : Nat} {q : vw_C} {fs : List Value} {r : Int64} {isT isC isR isN : List Nat} (S : CallFix p m c cc nL s args lw_gd own) (hM : qMl l y b n ret rm D tysC (.ref a :: As) wsC wsC' r) (hG : GoodIn lw_gd (wsV own idx C y (Cond.code y b n ret :: lw_gd))) (hy : y.cls = C) (hq : qCall R y n k rm) (hc : cells + rm.cells ≤ R.cells ∧ slots + rm.slots ≤ R.slots)
    (hK : va_K D cls tys s) (hP : va_P D cls ws H) (hD : va_D A ws) (hS : va_S A s.heap H locs) (hA : ∀ q : Nat, s.heap.size ≤ q → A q) (hN : qN s) (hT : isT.filterMap (fun i => tys[i]?) = tysC) (cut : qCut ws wsC wsR wsC' wsN isC isR isN) (he : wsC[0]? = some (a, .inr (ci, fs))) (hci : cls[ci]? = some q) (hqC : q.1 = C)
    (hl : ls.size = nL) (hlen : As.length = k) (hst : st = As.reverse ++ .ref a :: rest) (hroom : (rest.map fun v => v.category).sum ≤ 8) (hdg : decode cc pc = .ok (.invokevirtual idx, 3))
    (kk : ∀ (H1 : Heap) (locs1 : List Loc), va_P D cls wsN H1 → va_D A wsN → va_S A s.heap H1 locs1 → W p l e R s m args below meth c H1 locs1 (cells + rm.cells) (slots + rm.slots) Q (F0 m (pc + 3) ls (.long r :: rest))) : W p l e R s m args below meth c H locs cells slots Q (F0 m pc ls st) := by
  subst hst
  have hPc := hP.sub isC (q_fm cut.1)
  have hDc := hD.sub isC cut.2.2.2.1 cut.1
  have hKc := hK.sub isT hT
  have hFc := va_free hD hS hA isC cut.1
  refine va_calll (va_runV (As := As) (rest := rest) S (hM H.size) (cwV k S.2.2.2.2 hG rfl rfl rfl ⟨hy, hq.1⟩ hq.2) ⟨q_blind, by rw [← hqC]; exact va_recv hKc hPc hci he, fun U hU hW => ⟨rfl, by rw [hU], by rw [hU]; exact hPc, va_K.moved hW.alike hKc, hDc.weaken (fun _ _ _ _ => trivial), hN.warm hW⟩⟩ rfl hlen hl rfl (lv_room hroom) hdg hc) hS (fun q _ h => hFc q h) hFc (fun r2 u t H1 locs1 ht hvm hw hB hz1 hk1 hS1 => ?_)
  obtain ⟨hP1, hK1, hD1⟩ := hB
  rw [ht] at hP1
  obtain ⟨g1, g2⟩ := q_back hP hD hS hA cut hk1 hP1 hD1
  have hw : r2 = r := hw
  subst hw
  exact kk H1 locs1 g1 g2 hS1
theorem q_callVv {own C : String} {idx k : Nat} {y : MethodName} {ret : Option FieldType} {rm : Room} {a ci : Nat} {q : vw_C} {fs : List Value} {isT isC isR isN : List Nat} (S : CallFix p m c cc nL s args lw_gd own) (hM : qMv l y b n ret rm D tysC (.ref a :: As) wsC wsC') (hG : GoodIn lw_gd (wsV own idx C y (Cond.code y b n ret :: lw_gd))) (hy : y.cls = C) (hq : qCall R y n k rm) (hc : cells + rm.cells ≤ R.cells ∧ slots + rm.slots ≤ R.slots)
    (hK : va_K D cls tys s) (hP : va_P D cls ws H) (hD : va_D A ws) (hS : va_S A s.heap H locs) (hA : ∀ q : Nat, s.heap.size ≤ q → A q) (hN : qN s) (hT : isT.filterMap (fun i => tys[i]?) = tysC) (cut : qCut ws wsC wsR wsC' wsN isC isR isN) (he : wsC[0]? = some (a, .inr (ci, fs))) (hci : cls[ci]? = some q) (hqC : q.1 = C)
    (hl : ls.size = nL) (hlen : As.length = k) (hst : st = As.reverse ++ .ref a :: rest) (hroom : (rest.map fun v => v.category).sum ≤ 8) (hdg : decode cc pc = .ok (.invokevirtual idx, 3))
    (kk : ∀ (H1 : Heap) (locs1 : List Loc), va_P D cls wsN H1 → va_D A wsN → va_S A s.heap H1 locs1 → W p l e R s m args below meth c H1 locs1 (cells + rm.cells) (slots + rm.slots) Q (F0 m (pc + 3) ls rest)) : W p l e R s m args below meth c H locs cells slots Q (F0 m pc ls st) := by
  subst hst
  have hPc := hP.sub isC (q_fm cut.1)
  have hDc := hD.sub isC cut.2.2.2.1 cut.1
  have hKc := hK.sub isT hT
  have hFc := va_free hD hS hA isC cut.1
  refine va_callv (va_runV (As := As) (rest := rest) S (hM H.size) (cwV k S.2.2.2.2 hG rfl rfl rfl ⟨hy, hq.1⟩ hq.2) ⟨q_blind, by rw [← hqC]; exact va_recv hKc hPc hci he, fun U hU hW => ⟨rfl, by rw [hU], by rw [hU]; exact hPc, va_K.moved hW.alike hKc, hDc.weaken (fun _ _ _ _ => trivial), hN.warm hW⟩⟩ rfl hlen hl rfl (lv_room hroom) hdg hc) hS (fun q _ h => hFc q h) hFc (fun u t H1 locs1 ht hvm hw hB hz1 hk1 hS1 => ?_)
  obtain ⟨hP1, hK1, hD1⟩ := hB
  rw [ht] at hP1
  obtain ⟨g1, g2⟩ := q_back hP hD hS hA cut hk1 hP1 hD1
  exact kk H1 locs1 g1 g2 hS1
theorem q_callSi {own : String} {idx k : Nat} {y : MethodName} {ret : Option FieldType} {rm : Room} {r : Int32} {isT isC isR isN : List Nat} (S : CallFix p m c cc nL s args lw_gd own) (hM : qMi l y b n ret rm D tysC As wsC wsC' r) (hG : GoodIn lw_gd (va_wsS own idx y (Cond.code y b n ret :: lw_gd))) (hq : qCall R y n k rm) (hc : cells + rm.cells ≤ R.cells ∧ slots + rm.slots ≤ R.slots)
    (hK : va_K D cls tys s) (hP : va_P D cls ws H) (hD : va_D A ws) (hS : va_S A s.heap H locs) (hA : ∀ q : Nat, s.heap.size ≤ q → A q) (hN : qN s) (hT : isT.filterMap (fun i => tys[i]?) = tysC) (cut : qCut ws wsC wsR wsC' wsN isC isR isN)
    (hl : ls.size = nL) (hlen : As.length = k) (hst : st = As.reverse ++ rest) (hroom : (rest.map fun v => v.category).sum ≤ 8) (hdg : decode cc pc = .ok (.invokestatic idx, 3))
    (kk : ∀ (H1 : Heap) (locs1 : List Loc), va_P D cls wsN H1 → va_D A wsN → va_S A s.heap H1 locs1 → W p l e R s m args below meth c H1 locs1 (cells + rm.cells) (slots + rm.slots) Q (F0 m (pc + 3) ls (.int r :: rest))) : W p l e R s m args below meth c H locs cells slots Q (F0 m pc ls st) := by
  subst hst
  have hPc := hP.sub isC (q_fm cut.1)
  have hDc := hD.sub isC cut.2.2.2.1 cut.1
  have hKc := hK.sub isT hT
  have hFc := va_free hD hS hA isC cut.1
  refine va_calli (va_runS (As := As) (rest := rest) S (hM H.size) (va_cwS k S.2.2.2.2 hG rfl rfl rfl hq.1 hq.2) ⟨q_blind, fun U hU hW => ⟨rfl, by rw [hU], by rw [hU]; exact hPc, va_K.moved hW.alike hKc, hDc.weaken (fun _ _ _ _ => trivial), hN.warm hW⟩⟩ rfl hlen hl rfl (lv_room hroom) hdg hc) hS (fun q _ h => hFc q h) hFc (fun r2 u t H1 locs1 ht hvm hw hB hz1 hk1 hS1 => ?_)
  obtain ⟨hP1, hK1, hD1⟩ := hB
  rw [ht] at hP1
  obtain ⟨g1, g2⟩ := q_back hP hD hS hA cut hk1 hP1 hD1
  have hw : r2 = r := hw
  subst hw
  exact kk H1 locs1 g1 g2 hS1
theorem q_callSv {own : String} {idx k : Nat} {y : MethodName} {ret : Option FieldType} {rm : Room} {isT isC isR isN : List Nat} (S : CallFix p m c cc nL s args lw_gd own) (hM : qMv l y b n ret rm D tysC As wsC wsC') (hG : GoodIn lw_gd (va_wsS own idx y (Cond.code y b n ret :: lw_gd))) (hq : qCall R y n k rm) (hc : cells + rm.cells ≤ R.cells ∧ slots + rm.slots ≤ R.slots)
    (hK : va_K D cls tys s) (hP : va_P D cls ws H) (hD : va_D A ws) (hS : va_S A s.heap H locs) (hA : ∀ q : Nat, s.heap.size ≤ q → A q) (hN : qN s) (hT : isT.filterMap (fun i => tys[i]?) = tysC) (cut : qCut ws wsC wsR wsC' wsN isC isR isN)
    (hl : ls.size = nL) (hlen : As.length = k) (hst : st = As.reverse ++ rest) (hroom : (rest.map fun v => v.category).sum ≤ 8) (hdg : decode cc pc = .ok (.invokestatic idx, 3))
    (kk : ∀ (H1 : Heap) (locs1 : List Loc), va_P D cls wsN H1 → va_D A wsN → va_S A s.heap H1 locs1 → W p l e R s m args below meth c H1 locs1 (cells + rm.cells) (slots + rm.slots) Q (F0 m (pc + 3) ls rest)) : W p l e R s m args below meth c H locs cells slots Q (F0 m pc ls st) := by
  subst hst
  have hPc := hP.sub isC (q_fm cut.1)
  have hDc := hD.sub isC cut.2.2.2.1 cut.1
  have hKc := hK.sub isT hT
  have hFc := va_free hD hS hA isC cut.1
  refine va_callv (va_runS (As := As) (rest := rest) S (hM H.size) (va_cwS k S.2.2.2.2 hG rfl rfl rfl hq.1 hq.2) ⟨q_blind, fun U hU hW => ⟨rfl, by rw [hU], by rw [hU]; exact hPc, va_K.moved hW.alike hKc, hDc.weaken (fun _ _ _ _ => trivial), hN.warm hW⟩⟩ rfl hlen hl rfl (lv_room hroom) hdg hc) hS (fun q _ h => hFc q h) hFc (fun u t H1 locs1 ht hvm hw hB hz1 hk1 hS1 => ?_)
  obtain ⟨hP1, hK1, hD1⟩ := hB
  rw [ht] at hP1
  obtain ⟨g1, g2⟩ := q_back hP hD hS hA cut hk1 hP1 hD1
  exact kk H1 locs1 g1 g2 hS1
/-- a loop that counts i up to e1 -/
theorem q_loop {σ : Type} (I : Nat → σ → Heap → List Loc → Array Slot → Prop) (e1 : Nat)
    (hx : ∀ (x : σ) (H : Heap) (locs : List Loc) (ls : Array Slot), I e1 x H locs ls → W p l e R s m args below meth c H locs cells slots Q (F0 m pc ls []))
    (hs : ∀ (i : Nat) (x : σ) (H : Heap) (locs : List Loc) (ls : Array Slot), i < e1 → I i x H locs ls → (∀ (x' : σ) (H' : Heap) (locs' : List Loc) (ls' : Array Slot), I (i + 1) x' H' locs' ls' → W p l e R s m args below meth c H' locs' cells slots Q (F0 m pc ls' [])) → W p l e R s m args below meth c H locs cells slots Q (F0 m pc ls [])) :
    ∀ (i : Nat) (x : σ) (H : Heap) (locs : List Loc) (ls : Array Slot), i ≤ e1 → I i x H locs ls → W p l e R s m args below meth c H locs cells slots Q (F0 m pc ls []) := by
  have key : ∀ (d i : Nat) (x : σ) (H : Heap) (locs : List Loc) (ls : Array Slot), i ≤ e1 → e1 - i = d → I i x H locs ls → W p l e R s m args below meth c H locs cells slots Q (F0 m pc ls []) := by
    intro d
    induction d with
    | zero =>
      intro i x H locs ls h1 h2 h3
      have e2 : i = e1 := by omega
      subst e2
      exact hx x H locs ls h3
    | succ d ih =>
      intro i x H locs ls h1 h2 h3
      exact hs i x H locs ls (by omega) h3 (fun x' H' locs' ls' h4 => ih (i + 1) x' H' locs' ls' (by omega) (by omega) h4)
  intro i x H locs ls h1 h2
  exact key (e1 - i) i x H locs ls h1 rfl h2
end QW
section QT
variable {p : Program} {l : Launch} {e : Env} {R : Room} {s : State} {m : MethodId} {args : Array Value} {below : List Frame} {meth : Method} {c : Code} {H : Heap} {locs : List Loc} {cells slots pc : Nat} {Q : State → Prop} {ls : Array Slot} {rest : List Value}
theorem q_ti {x y : Int32} (h : x = y) (k : W p l e R s m args below meth c H locs cells slots Q (F0 m pc ls (.int y :: rest))) : W p l e R s m args below meth c H locs cells slots Q (F0 m pc ls (.int x :: rest)) := h ▸ k
theorem q_tl {x y : Int64} (h : x = y) (k : W p l e R s m args below meth c H locs cells slots Q (F0 m pc ls (.long y :: rest))) : W p l e R s m args below meth c H locs cells slots Q (F0 m pc ls (.long x :: rest)) := h ▸ k
end QT
theorem q_z_eq {a : Nat} (h : a < 2 ^ 31) : nI a = 0 ↔ a = 0 := by rw [← nI_0]; exact nI_eq h (by decide)
theorem q_z_lt {a : Nat} (h : a < 2 ^ 31) : nI a < 0 ↔ a < 0 := by rw [← nI_0]; exact nI_ltI h (by decide)
theorem q_z_le {a : Nat} (h : a < 2 ^ 31) : nI a ≤ 0 ↔ a ≤ 0 := by rw [← nI_0]; exact nI_leI h (by decide)
theorem q_z_gt {a : Nat} (h : a < 2 ^ 31) : 0 < nI a ↔ 0 < a := by rw [← nI_0]; exact nI_ltI (by decide) h
theorem q_z_ge {a : Nat} (h : a < 2 ^ 31) : 0 ≤ nI a ↔ 0 ≤ a := by rw [← nI_0]; exact nI_leI (by decide) h
