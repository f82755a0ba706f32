/-! CONTRACTS OF CONSTRUCTORS: u tells where the new cells lie -/
def qZc {σ : Type} (D : va_G) (tys' : σ → List (ClassId × FieldType)) (ws' : σ → va_W) (A : Nat → Prop) : Array Value → State → Outcome → State → Prop := va_Qv (fun (_ : σ) => True) (fun u t => va_P D cls (ws' u) t.heap ∧ va_K D cls (tys' u) t ∧ va_D A (ws' u)) A
def qMc {σ : Type} (l : Launch) (y : MethodName) (b : ByteArray) (n : Nat) (rm : Room) (D : va_G) (tys : List (ClassId × FieldType)) (av : List Value) (ws : va_W) (tys' : σ → List (ClassId × FieldType)) (ws' : σ → va_W) : Prop := ∀ sz, Met l y (Cond.code y b n none :: lw_gd) rm (va_Pc av (qPc D tys ws sz)) (qZc D tys' ws' (va_A ws sz)) rm.cells rm.slots (va_A ws sz)
abbrev rmC (k c n : Nat) : Room := { frames := k, cells := c, slots := n, locals := 40 * k }
theorem q_startI {l : Launch} {y : MethodName} {b : ByteArray} {n : Nat} {ret : Option FieldType} {rm : Room} {D : va_G} {tys : List (ClassId × FieldType)} {av : List Value} {ws : va_W} {mc ms : Nat} {Qc : (Nat → Prop) → Array Value → State → Outcome → State → Prop} (hy : plainName y.cls = true) (hlen : (lg_sl av).length ≤ n)
    (body : ∀ (p : Program) (e : Env) (s : State) (m : MethodId) (below : List Frame) (meth : Method) (c : Code) (A : Nat → Prop), p.tables.exec = Jvm.exec → c.code = b → meth.sig.returnType = ret → meth.locks = false → c.maxLocals = n → s.vm.findClass y.cls = some m.cls → (∀ w ∈ lw_gd, w.before av.toArray s = true) → va_K D cls tys s → va_P D cls ws s.heap → va_D A ws → va_S A s.heap s.heap [] → (∀ q : Nat, s.heap.size ≤ q → A q) → qN s → meth.name = y.name → ∀ ls : Array Slot, lv_has ls n (lv_args 0 av) → W p l e rm s m av.toArray below meth c s.heap [] 0 0 (MQ below (Qc A) av.toArray s mc ms A) (F0 m 0 ls [])) :
    ∀ sz, Met l y (Cond.code y b n ret :: lw_gd) rm (va_Pc av (qPc D tys ws sz)) (Qc (va_A ws sz)) mc ms (va_A ws sz) := by
  intro sz
  refine Met.ofW (cc := b) (maxL := n) (ret := ret) hy rfl ?_
  intro p e s m args below meth c s₁ B hml hv
  obtain ⟨rfl, hsz, hP, hK, hD0, hN⟩ := hv
  have hts := atoms_spec (ws := Cond.code y b n ret :: lw_gd) B.pre
  subst hsz
  have hl := lv_entry av (n := n) hlen
  rw [lg_entry_eq]
  exact body p e s m below meth c (va_A ws s.heap.size) B.exec B.bytes B.returns B.notSynchronized hml (findClass_of_methodNamed B.named) (fun w h => hts w (List.mem_cons_of_mem _ h)) hK hP hD0.self va_S.rf (fun q h => Or.inr h) hN (name_of_methodNamed B.named B.method).1 _ hl
section QC
variable {p : Program} {l : Launch} {e : Env} {R : Room} {s : State} {m : MethodId} {args : Array Value} {below : List Frame} {meth : Method} {c : Code} {H : Heap} {locs : List Loc} {cells slots : Nat} {Q : State → Prop} {A : Nat → Prop} {D : va_G} {tys tysC : List (ClassId × FieldType)} {ws wsC wsR : va_W} {cc b : ByteArray} {pc n nL : Nat} {ls : Array Slot} {rest As st : List Value}
theorem q_cret {σ : Type} {tys' : σ → List (ClassId × FieldType)} {ws' : σ → va_W} (u : σ) (hx : p.tables.exec = Jvm.exec) (hb : c.code = cc) (hr : meth.sig.returnType = none) (hlk : meth.locks = false) (hK : va_K D cls (tys' u) s) (hP : va_P D cls (ws' u) H) (hD : va_D A (ws' u)) (hS : va_S A s.heap H locs) (hdg : decode cc pc = .ok (.return_, 1)) :
    W p l e R s m args below meth c H locs cells slots (MQ below (qZc D tys' ws' A) args s cells slots A) (F0 m pc ls []) := 
  W.vret hx hb hr (fun t ht hW => ⟨⟨u, rfl, trivial, by rw [ht]; exact hP, va_K.moved hW.alike hK, hD⟩, hS.F ht⟩) hS.2.2 hdg
theorem q_callI {σ : Type} {tysC' : σ → List (ClassId × FieldType)} {wsC' : σ → va_W} {own : String} {idx k : Nat} {y : MethodName} {rm : Room} {a : Nat} {isT isC isR : List Nat} (S : CallFix p m c cc nL s args lw_gd own) (hM : qMc l y b n rm D tysC (.ref a :: As) wsC tysC' wsC') (h1 : Cond.methodLink own idx y ∈ lw_gd) (h2 : Cond.instanceMethod y ∈ lw_gd) (h4 : Cond.initialized y.cls ∈ lw_gd) (h5 : Cond.code y b n none ∈ lw_gd) (hy1 : y.name = "<init>") (hq : qCall R y n k rm) (hc : cells + rm.cells ≤ R.cells ∧ slots + rm.slots ≤ R.slots)
    (hK : va_K D cls tys s) (hP : va_P D cls ws H) (hD : va_D A ws) (hS : va_S A s.heap H locs) (hA : ∀ q : Nat, s.heap.size ≤ q → A q) (hN : qN s) (hT : isT.filterMap (fun i => tys[i]?) = tysC) (g1 : isC.map (fun i => ws[i]?) = wsC.map some) (g2 : isR.map (fun i => ws[i]?) = wsR.map some) (g3 : va_nd isC = true) (g4 : va_nd isR = true) (g5 : ∀ i ∈ isR, i ∉ isC)
    (hl : ls.size = nL) (hlen : As.length = k) (hst : st = As.reverse ++ .ref a :: rest) (hroom : (rest.map fun v => v.category).sum ≤ 8) (hdg : decode cc pc = .ok (.invokespecial idx, 3))
    (kk : ∀ (u : σ) (H1 : Heap) (locs1 : List Loc), va_K D cls (tys ++ tysC' u) s → va_P D cls (wsR ++ wsC' u) H1 → va_D A (wsR ++ wsC' u) → va_S A s.heap H1 locs1 → W p l e R s m args below meth c H1 locs1 (cells + rm.cells) (slots + rm.slots) Q (F0 m (pc + 3) ls rest)) : W p l e R s m args below meth c H locs cells slots Q (F0 m pc ls st) := by
  subst hst
  have hPc := hP.sub isC (q_fm g1)
  have hDc := hD.sub isC g3 g1
  have hKc := hK.sub isT hT
  have hFc := va_free hD hS hA isC g1
  refine va_callv (va_runI (As := As) (rest := rest) S (hM H.size) (cwI k S.2.2.2.2 (tw_C h5) rfl rfl rfl (S.2.2.2.2 _ h4) (S.2.2.2.2 _ h1) (S.2.2.2.2 _ h2) hy1 hq.1 hq.2) ⟨q_blind, fun U hU hW => ⟨rfl, by rw [hU], by rw [hU]; exact hPc, va_K.moved hW.alike hKc, hDc.weaken (fun _ _ _ _ => trivial), hN.warm hW⟩⟩ rfl hlen hl rfl (lv_room hroom) hdg hc) hS (fun q _ h => hFc q h) hFc (fun u t H1 locs1 ht hvm hw hB hz1 hk1 hS1 => ?_)
  obtain ⟨hP1, hK1, hD1⟩ := hB
  rw [ht] at hP1
  obtain ⟨q1, q2⟩ := va_join hP hD isC isR g1 g2 g4 g5 hk1 hFc hP1 hD1
  exact kk u H1 locs1 (hK.app (va_K.moved hvm.symm hK1)) q1 q2 hS1
theorem q_callIN {σ : Type} {tysC' : σ → List (ClassId × FieldType)} {wsC' : σ → va_W} {own host : String} {idx k : Nat} {y : MethodName} {rm : Room} {a : Nat} {isT isC isR : List Nat} (S : CallFix p m c cc nL s args lw_gd own) (hM : qMc l y b n rm D tysC (.ref a :: As) wsC tysC' wsC') (h1 : va_Nw (Cond.methodLinkNest own idx y host) s) (h2 : Cond.instanceMethod y ∈ lw_gd) (h4 : Cond.initialized y.cls ∈ lw_gd) (h5 : Cond.code y b n none ∈ lw_gd) (hy1 : y.name = "<init>") (hq : qCall R y n k rm) (hc : cells + rm.cells ≤ R.cells ∧ slots + rm.slots ≤ R.slots)
    (hK : va_K D cls tys s) (hP : va_P D cls ws H) (hD : va_D A ws) (hS : va_S A s.heap H locs) (hA : ∀ q : Nat, s.heap.size ≤ q → A q) (hN : qN s) (hT : isT.filterMap (fun i => tys[i]?) = tysC) (g1 : isC.map (fun i => ws[i]?) = wsC.map some) (g2 : isR.map (fun i => ws[i]?) = wsR.map some) (g3 : va_nd isC = true) (g4 : va_nd isR = true) (g5 : ∀ i ∈ isR, i ∉ isC)
    (hl : ls.size = nL) (hlen : As.length = k) (hst : st = As.reverse ++ .ref a :: rest) (hroom : (rest.map fun v => v.category).sum ≤ 8) (hdg : decode cc pc = .ok (.invokespecial idx, 3))
    (kk : ∀ (u : σ) (H1 : Heap) (locs1 : List Loc), va_K D cls (tys ++ tysC' u) s → va_P D cls (wsR ++ wsC' u) H1 → va_D A (wsR ++ wsC' u) → va_S A s.heap H1 locs1 → W p l e R s m args below meth c H1 locs1 (cells + rm.cells) (slots + rm.slots) Q (F0 m (pc + 3) ls rest)) : W p l e R s m args below meth c H locs cells slots Q (F0 m pc ls st) := by
  subst hst
  have hPc := hP.sub isC (q_fm g1)
  have hDc := hD.sub isC g3 g1
  have hKc := hK.sub isT hT
  have hFc := va_free hD hS hA isC g1
  refine va_callv (va_runIN (As := As) (rest := rest) S (hM H.size) ⟨va_cnB k S.2.2.2.2 (tw_C h5) rfl rfl rfl h1 (S.2.2.2.2 _ h4) hq.1 hq.2, hy1, S.2.2.2.2 _ h2⟩ ⟨q_blind, fun U hU hW => ⟨rfl, by rw [hU], by rw [hU]; exact hPc, va_K.moved hW.alike hKc, hDc.weaken (fun _ _ _ _ => trivial), hN.warm hW⟩⟩ rfl hlen hl rfl (lv_room hroom) hdg hc) hS (fun q _ h => hFc q h) hFc (fun u t H1 locs1 ht hvm hw hB hz1 hk1 hS1 => ?_)
  obtain ⟨hP1, hK1, hD1⟩ := hB
  rw [ht] at hP1
  obtain ⟨q1, q2⟩ := va_join hP hD isC isR g1 g2 g4 g5 hk1 hFc hP1 hD1
  exact kk u H1 locs1 (hK.app (va_K.moved hvm.symm hK1)) q1 q2 hS1
/-- arrays of one kind have one class -/
theorem q_same {t : FieldType} {c1 c2 : ClassId} {i j : Nat} (hK : va_K D cls tys s) (h1 : tys[i]? = some (c1, t)) (h2 : tys[j]? = some (c2, t)) (ht : t = .long ∨ t = .int ∨ t = .boolean ∨ t = .byte) : c1 = c2 := by
  have a := (hK.2 i _ h1).2
  have b := (hK.2 j _ h2).2
  rcases ht with rfl | rfl | rfl | rfl <;> exact Option.some.inj (a.symm.trans b)
end QC
