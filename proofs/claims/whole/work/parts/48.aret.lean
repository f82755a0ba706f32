/-! CONTRACTS OF METHODS THAT ANSWER A CELL that was there before -/
def qZr (D : va_G) (tys : List (ClassId × FieldType)) (ws' : va_W) (r : Nat) (A : Nat → Prop) : Array Value → State → Outcome → State → Prop := va_Qr (fun (_ : Unit) => True) (fun _ a t => a = r ∧ va_P D cls ws' t.heap ∧ va_K D cls tys t ∧ va_D A ws') A
def qMr (l : Launch) (y : MethodName) (b : ByteArray) (n : Nat) (ret : Option FieldType) (rm : Room) (D : va_G) (tys : List (ClassId × FieldType)) (av : List Value) (ws ws' : va_W) (r : Nat) : Prop := ∀ sz, Met l y (Cond.code y b n ret :: lw_gd) rm (va_Pc av (qPc D tys ws sz)) (qZr D tys ws' r (va_A ws sz)) rm.cells rm.slots (va_A ws sz)
section QR
variable {p : Program} {l : Launch} {e : Env} {R : Room} {s : State} {m : MethodId} {args : Array Value} {below : List Frame} {meth : Method} {c : Code} {H : Heap} {locs : List Loc} {cells slots : Nat} {Q : State → Prop} {A : Nat → Prop} {D : va_G} {tys tysC : List (ClassId × FieldType)} {ws ws1 ws' wsC wsR wsC' wsN : va_W} {cc b : ByteArray} {pc n nL : Nat} {ls : Array Slot} {rest As st : List Value}
theorem q_aret {a r : Nat} {k : String} (hx : p.tables.exec = Jvm.exec) (hb : c.code = cc) (hr : meth.sig.returnType = some (.object k)) (hlk : meth.locks = false) (hK : va_K D cls tys s) (hP : va_P D cls ws1 H) (hD : va_D A ws1) (hS : va_S A s.heap H locs) (hdg : decode cc pc = .ok (.areturn, 1)) (hv : a = r) (hw : ws1 = ws') :
    W p l e R s m args below meth c H locs cells slots (MQ below (qZr D tys ws' r A) args s cells slots A) (F0 m pc ls [.ref a]) := by
  subst hw
  exact W.aret hx hb hr (Or.inl ⟨k, rfl⟩) (Or.inr ⟨a, rfl⟩) (fun t ht hW => ⟨⟨(), a, rfl, trivial, hv, by rw [ht]; exact hP, va_K.moved hW.alike hK, hD⟩, hS.F ht⟩) hS.2.2 hdg
theorem q_callVr {own C : String} {idx k : Nat} {y : MethodName} {ret : Option FieldType} {rm : Room} {a ci : Nat} {q : vw_C} {fs : List Value} {r : Nat} {isT isC isR isN : List Nat} (S : CallFix p m c cc nL s args lw_gd own) (hM : qMr l y b n ret rm D tysC (.ref a :: As) wsC wsC' r) (hG : GoodIn lw_gd (wsV own idx C y (Cond.code y b n ret :: lw_gd))) (hy : y.cls = C) (hq : qCall R y n k rm) (hc : cells + rm.cells ≤ R.cells ∧ slots + rm.slots ≤ R.slots)
    (hK : va_K D cls tys s) (hP : va_P D cls ws H) (hD : va_D A ws) (hS : va_S A s.heap H locs) (hA : ∀ q : Nat, s.heap.size ≤ q → A q) (hN : qN s) (hT : isT.filterMap (fun i => tys[i]?) = tysC) (cut : qCut ws wsC wsR wsC' wsN isC isR isN) (he : wsC[0]? = some (a, .inr (ci, fs))) (hci : cls[ci]? = some q) (hqC : q.1 = C)
    (hl : ls.size = nL) (hlen : As.length = k) (hst : st = As.reverse ++ .ref a :: rest) (hroom : (rest.map fun v => v.category).sum ≤ 8) (hdg : decode cc pc = .ok (.invokevirtual idx, 3))
    (kk : ∀ (H1 : Heap) (locs1 : List Loc), va_P D cls wsN H1 → va_D A wsN → va_S A s.heap H1 locs1 → W p l e R s m args below meth c H1 locs1 (cells + rm.cells) (slots + rm.slots) Q (F0 m (pc + 3) ls (.ref r :: rest))) : W p l e R s m args below meth c H locs cells slots Q (F0 m pc ls st) := by
  subst hst
  have hPc := hP.sub isC (q_fm cut.1)
  have hDc := hD.sub isC cut.2.2.2.1 cut.1
  have hKc := hK.sub isT hT
  have hFc := va_free hD hS hA isC cut.1
  refine va_callr (va_runV (As := As) (rest := rest) S (hM H.size) (cwV k S.2.2.2.2 hG rfl rfl rfl ⟨hy, hq.1⟩ hq.2) ⟨q_blind, by rw [← hqC]; exact va_recv hKc hPc hci he, fun U hU hW => ⟨rfl, by rw [hU], by rw [hU]; exact hPc, va_K.moved hW.alike hKc, hDc.weaken (fun _ _ _ _ => trivial), hN.warm hW⟩⟩ rfl hlen hl rfl (lv_room hroom) hdg hc) hS (fun q _ h => hFc q h) hFc (fun u ra t H1 locs1 ht hvm hw hB hz1 hk1 hS1 => ?_)
  obtain ⟨he1, hP1, hK1, hD1⟩ := hB
  rw [ht] at hP1
  obtain ⟨g1, g2⟩ := q_back hP hD hS hA cut hk1 hP1 hD1
  have he1 : ra = r := he1
  subst he1
  exact kk H1 locs1 g1 g2 hS1
end QR
