/-! THE LAW'S LOOP, and the law from its entry -/
theorem law_more {i L : Nat} (hL : L ≤ 3072) (hi : i ≤ 3072) (h : ¬ nI L - nI 6 < nI i) : i + 6 ≤ L := by
  by_cases h6 : 6 ≤ L
  · rw [pk_sub h6, nI_ltI (by omega) (by omega)] at h
    omega
  · refine absurd ?_ h
    rw [Int32.lt_iff_toInt_lt, nI_toInt (n := i) (by omega)]
    rcases (show L = 0 ∨ L = 1 ∨ L = 2 ∨ L = 3 ∨ L = 4 ∨ L = 5 by omega) with rfl | rfl | rfl | rfl | rfl | rfl
    · have : (nI 0 - nI 6).toInt = -6 := by decide
      omega
    · have : (nI 1 - nI 6).toInt = -5 := by decide
      omega
    · have : (nI 2 - nI 6).toInt = -4 := by decide
      omega
    · have : (nI 3 - nI 6).toInt = -3 := by decide
      omega
    · have : (nI 4 - nI 6).toInt = -2 := by decide
      omega
    · have : (nI 5 - nI 6).toInt = -1 := by decide
      omega
theorem law_inc (J : Nat) : nI (6 * J) + Int32.ofInt 6 = nI (6 * (J + 1)) := by
  show nI (6 * J) + nI 6 = nI (6 * (J + 1))
  rw [nI_add, show 6 * J + 6 = 6 * (J + 1) by omega]
set_option maxHeartbeats 4000000 in
set_option maxRecDepth 100000 in
theorem law_loop {p : Program} {l : Launch} {e : Env} {s : State} {m : MethodId} {below : List Frame} {meth : Method} {c : Code} {b L : Nat} {xs : Nat → Int32} {D : va_G} {cI cJ cZ cI2 cB : ClassId} {tp mo : Nat} (hx : p.tables.exec = Jvm.exec) (hb : c.code = code) (hr : meth.sig.returnType = ret) (hlocks : meth.locks = false) (hml : c.maxLocals = 4) (hown : s.vm.findClass R_Lw = some m.cls) (hts : ∀ w ∈ lw_gd, w.before #[Value.ref b] s = true) (hX : va_X b L xs s s.heap) (hbl : b < s.heap.size) (hL : L ≤ 3072) (hN : qN s) (hK : va_K D cls [(cI, .int), (cJ, .long), (cZ, .boolean), (cI2, .int), (cB, .byte)] s) :
    ∀ (n J : Nat) (wv wm : va_W) (H : Heap) (locs : List Loc) (ls : Array Slot), J + n = 513 → 6 * J ≤ L → qJ cI cJ cZ cI2 cB tp mo J wv wm → va_P D cls (wv ++ wm) H → va_D (fun q : Nat => s.heap.size ≤ q) (wv ++ wm) → va_S (fun q : Nat => s.heap.size ≤ q) s.heap H locs → lv_has ls 4 [(0, .ref b), (1, .ref tp), (2, .ref mo), (3, .int (nI (6 * J)))] → W p l e room_1 s m #[Value.ref b] below meth c H locs (19 + J) (111578 + 2 * J) (lw_Z below #[Value.ref b] s) (F0 m 18 ls []) := by
  have hbA : ¬ (fun q : Nat => s.heap.size ≤ q) b := Nat.not_le.mpr hbl
  intro n
  induction n with
  | zero =>
    intro J wv wm H locs ls hn hJL
    exact absurd hn (by omega)
  | succ n ih =>
    intro J wv wm H locs ls hn hJL hJ hP hD hS hl
    refine lv_iload_n hx hb d_Lw_law_18 rfl (lv_at hl 3 rfl) ?_
    refine lv_aload_n hx hb d_Lw_law_19 rfl (lv_at hl 0 rfl) ?_
    refine va_slen hx hb hX hbl hbA hS d_Lw_law_20 ?_
    refine lv_bipush (v := nI 6) hx hb d_Lw_law_21 (by decide) ?_
    refine lv_isub hx hb d_Lw_law_23 ?_
    refine lv_icmp_gt (tgt := 633) hx hb d_Lw_law_24 (by decide) (fun cg => ?_) (fun cg => ?_)
    · refine lv_iconst (v := 1) hx hb d_Lw_law_633 (by decide) ?_
      refine va_forget (fun q hq => hS.2.2 q hq) ?_
      refine W.widen (k := 600000) (n := 7302250) (by omega) (by omega) ?_
      exact lw_ret hx hb hr hlocks d_Lw_law_634
    · have hi : 6 * J + 6 ≤ L := law_more hL (by omega) cg
      refine law_case hx hb hml hown hts hX hbl hL hN hK hJ (by omega) hi hP hD hS hl ⟨by omega, by omega⟩ (fun wv' wm' H' locs' hJ' hP' hD' hS' => ?_)
      refine lv_iinc (v := nI (6 * (J + 1))) (lv' := [(3, .int (nI (6 * (J + 1)))), (0, .ref b), (1, .ref tp), (2, .ref mo)]) hx hb d_Lw_law_627 hl (k := 3) rfl (law_inc J) (by decide) rfl (fun ls hl => ?_)
      refine lv_goto (tgt := 18) hx hb d_Lw_law_630 (by decide) ?_
      refine W.widen (k := 19 + (J + 1)) (n := 111578 + 2 * (J + 1)) (by omega) (by omega) ?_
      exact ih (J + 1) wv' wm' H' locs' ls (by omega) (by omega) hJ' hP' hD' hS' (lv_sub hl [1, 2, 3, 0] rfl)
set_option maxHeartbeats 4000000 in
set_option maxRecDepth 100000 in
/-- THE LAW, from its entry -/
theorem whole_start {p : Program} {e : Env} {s : State} {m : MethodId} {below : List Frame} {meth : Method} {c : Code} (l : Launch) {b L : Nat} {xs : Nat → Int32} (hL : L ≤ 3072) (C0 : lw_At p s m meth c b L xs) : W p l e room_1 s m #[Value.ref b] below meth c s.heap [] 0 0 (lw_Z below #[Value.ref b] s) (entryFrame m ([Value.ref b] : List Value).toArray 4) := by
  obtain ⟨hx, hb, hr, hml, hown, hts0, hX, hbl, hlocks, hgv⟩ := C0
  have hown : s.vm.findClass R_Lw = some m.cls := hown
  have hts : ∀ w ∈ lw_gd, w.before #[Value.ref b] s = true := fun w hw => hts0 w (List.mem_filter.mp hw).1
  have hN : qN s := ⟨va_Nw.of rfl (hts0 _ ml_Tp_11), va_Nw.of rfl (hts0 _ ml_Tp_42), va_Nw.of rfl (hts0 _ fl_Tp_110), va_Nw.of rfl (hts0 _ fl_Tp_151)⟩
  have hA : ∀ q : Nat, s.heap.size ≤ q → (fun q : Nat => s.heap.size ≤ q) q := fun _ h => h
  obtain ⟨c0, s0, hK0⟩ := u_known (C := R_Au) (T := F_Au) (N := 1) (n := 1) hts i_Au (hts _ it_Au)
  obtain ⟨c1, s1, hK1⟩ := u_known (C := R_Im) (T := F_Im) (N := 1) (n := 1) hts i_Im (hts _ it_Im)
  obtain ⟨c2, s2, hK2⟩ := u_known (C := R_Tb) (T := F_Tb) (N := 2) (n := 2) hts i_Tb (hts _ it_Tb)
  obtain ⟨c3, s3, hK3⟩ := u_known (C := R_Tr) (T := F_Tr) (N := 6) (n := 6) hts i_Tr (hts _ it_Tr)
  obtain ⟨c4, s4, hK4⟩ := u_known (C := R_Tp) (T := F_Tp) (N := 8) (n := 8) hts i_Tp (hts _ it_Tp)
  obtain ⟨c5, s5, hK5⟩ := u_known (C := R_Mo) (T := F_Mo) (N := 9) (n := 9) hts i_Mo (hts _ it_Mo)
  obtain ⟨D, hKD⟩ : ∃ D : va_G, ∀ (k : Nat) (q : vw_C), cls[k]? = some q → u_Kn s q.1 q.2.1 q.2.2 (D.1 k) (D.2 k) := by
    refine ⟨(fun k => if k = 0 then c0 else if k = 1 then c1 else if k = 2 then c2 else if k = 3 then c3 else if k = 4 then c4 else c5, fun k => if k = 0 then s0 else if k = 1 then s1 else if k = 2 then s2 else if k = 3 then s3 else if k = 4 then s4 else s5), ?_⟩
    intro k q hq
    match k, hq with
    | 0, hq => cases hq; exact hK0
    | 1, hq => cases hq; exact hK1
    | 2, hq => cases hq; exact hK2
    | 3, hq => cases hq; exact hK3
    | 4, hq => cases hq; exact hK4
    | 5, hq => cases hq; exact hK5
    | k + 6, hq => simp [cls] at hq
  have hS : va_S (fun q : Nat => s.heap.size ≤ q) s.heap s.heap [] := va_S.rf
  have hK : va_K D cls [] s := ⟨hKD, fun k q h => by simp at h⟩
  have hP : va_P D cls [] s.heap := fun k q h => by simp at h
  have hD : va_D (fun q : Nat => s.heap.size ≤ q) [] := ⟨fun i j p q h => by simp at h, fun k q h => by simp at h⟩
  have hl := lv_entry ([.ref b]) (n := 4) (Nat.le_of_ble_eq_true rfl)
  rw [lg_entry_eq]
  generalize (lg_sl ([.ref b]) ++ List.replicate (4 - (lg_sl ([.ref b])).length) Slot.unset).toArray = ls at hl ⊢
  have hl : lv_has ls 4 [(0, .ref b)] := hl
  refine va_new (ci := 4) (fs := [.null, .null, .null, .null, .null, .null, .int (nI 0), .int (nI 0)]) (C := R_Tp) (T := F_Tp) (N := 8) hx hb hts i_Tp t_Tp t_Tp_ok hown (hts _ cl_Lw_7) (hts _ it_Tp) (hts _ in_Tp) hK hP hD hS hA rfl (fun j hj => by rcases (show j = 0 ∨ j = 1 ∨ j = 2 ∨ j = 3 ∨ j = 4 ∨ j = 5 ∨ j = 6 ∨ j = 7 by omega) with rfl | rfl | rfl | rfl | rfl | rfl | rfl | rfl <;> rfl) (Nat.le_of_ble_eq_true rfl) (Nat.le_of_ble_eq_true rfl) d_Lw_law_0 (fun tp H hP hD hS => ?_)
  refine W.widen (k := 1) (n := 8) (show 0 + 1 ≤ 1 by omega) (show 0 + 8 ≤ 8 by omega) ?_
  have hP : va_P D cls [(tp, .inr (4, [.null, .null, .null, .null, .null, .null, .int (nI 0), .int (nI 0)]))] H := hP
  have hD : va_D (fun q : Nat => s.heap.size ≤ q) [(tp, .inr (4, [.null, .null, .null, .null, .null, .null, .int (nI 0), .int (nI 0)]))] := hD
  refine lv_dup hx hb d_Lw_law_3 rfl ?_
  refine q_callI (As := []) (rest := [.ref tp]) (wsC := [(tp, .inr (4, [.null, .null, .null, .null, .null, .null, .int (nI 0), .int (nI 0)]))]) (wsR := []) (isT := []) (isC := [0]) (isR := []) (k := 0) ⟨hx, hb, hml, hown, hts⟩ (c_Tp_init l D tp) ml_Lw_9 im_Tp_init in_Tp cd_Tp_init rfl ⟨by decide +kernel, Nat.le_of_ble_eq_true rfl, Nat.le_of_ble_eq_true rfl⟩ ⟨Nat.le_of_ble_eq_true rfl, Nat.le_of_ble_eq_true rfl⟩ hK hP hD hS hA hN rfl rfl rfl (by decide) (by decide) (by decide) hl.1 rfl rfl (Nat.le_of_ble_eq_true rfl) d_Lw_law_4 (fun u H locs hK hP hD hS => ?_)
  refine W.widen (k := 12) (n := 25881) (show 1 + 11 ≤ 12 by omega) (show 8 + 25873 ≤ 25881 by omega) ?_
  obtain ⟨h, a, h2, a2, tr, t0, t1, au, mt, d0, d1, cJ, cI⟩ := u
  have hK : va_K D cls [(cI, .int), (cJ, .long)] s := hK
  have hP : va_P D cls (qWA cI cJ tp tr t0 t1 h a h2 a2 au mt d0 d1 1 16 (qv_like (qv_copy (qv_setW (qv_for 16 (fun g9 i9 => qv_blank g9 i9) (fun _ => 0)) 0 0 1) (fun _ => 0)) 9 2) (qv_setW (qv_for 16 (fun g9 i9 => qv_blank g9 i9) (fun _ => 0)) 0 0 1) (fun _ => 0)) H := hP
  have hD : va_D (fun q : Nat => s.heap.size ≤ q) (qWA cI cJ tp tr t0 t1 h a h2 a2 au mt d0 d1 1 16 (qv_like (qv_copy (qv_setW (qv_for 16 (fun g9 i9 => qv_blank g9 i9) (fun _ => 0)) 0 0 1) (fun _ => 0)) 9 2) (qv_setW (qv_for 16 (fun g9 i9 => qv_blank g9 i9) (fun _ => 0)) 0 0 1) (fun _ => 0)) := hD
  refine lv_astore_n (lv' := [(1, .ref tp), (0, .ref b)]) hx hb d_Lw_law_7 rfl hl (by decide) rfl (fun ls hl => ?_)
  refine va_new (ci := 5) (fs := [.null, .null, .null, .null, .null, .null, .int (nI 0), .int (nI 0), .int (nI 0)]) (C := R_Mo) (T := F_Mo) (N := 9) hx hb hts i_Mo t_Mo t_Mo_ok hown (hts _ cl_Lw_10) (hts _ it_Mo) (hts _ in_Mo) hK hP hD hS hA rfl (fun j hj => by rcases (show j = 0 ∨ j = 1 ∨ j = 2 ∨ j = 3 ∨ j = 4 ∨ j = 5 ∨ j = 6 ∨ j = 7 ∨ j = 8 by omega) with rfl | rfl | rfl | rfl | rfl | rfl | rfl | rfl | rfl <;> rfl) (Nat.le_of_ble_eq_true rfl) (Nat.le_of_ble_eq_true rfl) d_Lw_law_8 (fun mo H hP hD hS => ?_)
  refine W.widen (k := 13) (n := 25890) (show 12 + 1 ≤ 13 by omega) (show 25881 + 9 ≤ 25890 by omega) ?_
  refine lv_dup hx hb d_Lw_law_11 rfl ?_
  refine q_callI (As := []) (rest := [.ref mo]) (wsC := [(mo, .inr (5, [.null, .null, .null, .null, .null, .null, .int (nI 0), .int (nI 0), .int (nI 0)]))]) (wsR := qWA cI cJ tp tr t0 t1 h a h2 a2 au mt d0 d1 1 16 (qv_like (qv_copy (qv_setW (qv_for 16 (fun g9 i9 => qv_blank g9 i9) (fun _ => 0)) 0 0 1) (fun _ => 0)) 9 2) (qv_setW (qv_for 16 (fun g9 i9 => qv_blank g9 i9) (fun _ => 0)) 0 0 1) (fun _ => 0)) (isT := []) (isC := [12]) (isR := [0, 1, 2, 3, 4, 5, 6, 7, 8, 9, 10, 11]) (k := 0) ⟨hx, hb, hml, hown, hts⟩ (c_Mo_init l D mo) ml_Lw_12 im_Mo_init in_Mo cd_Mo_init rfl ⟨by decide +kernel, Nat.le_of_ble_eq_true rfl, Nat.le_of_ble_eq_true rfl⟩ ⟨Nat.le_of_ble_eq_true rfl, Nat.le_of_ble_eq_true rfl⟩ hK hP hD hS hA hN rfl rfl rfl (by decide) (by decide) (by decide) hl.1 rfl rfl (Nat.le_of_ble_eq_true rfl) d_Lw_law_12 (fun u H locs hK hP hD hS => ?_)
  refine W.widen (k := 19) (n := 111578) (show 13 + 6 ≤ 19 by omega) (show 25890 + 85688 ≤ 111578 by omega) ?_
  obtain ⟨r1, r2, r3, r4, r5, r6, cZ, cI2, cB⟩ := u
  have hK : va_K D cls [(cI, .int), (cJ, .long), (cZ, .boolean), (cI2, .int), (cB, .byte)] s := hK
  have hP : va_P D cls (qWA cI cJ tp tr t0 t1 h a h2 a2 au mt d0 d1 1 16 (qv_like (qv_copy (qv_setW (qv_for 16 (fun g9 i9 => qv_blank g9 i9) (fun _ => 0)) 0 0 1) (fun _ => 0)) 9 2) (qv_setW (qv_for 16 (fun g9 i9 => qv_blank g9 i9) (fun _ => 0)) 0 0 1) (fun _ => 0) ++ qWM cZ cI2 cB mo r1 r2 r3 r4 r5 r6 (qm_fl (fun _ => false) 32) (qm_zl (fun _ => 1) 4096) (fun _ => 0) (qm_nl (fun _ => 0) 64) (fun _ => 0) (qm_fl (fun _ => false) 600) (nI 0) (nI 0) 0) H := hP
  have hD : va_D (fun q : Nat => s.heap.size ≤ q) (qWA cI cJ tp tr t0 t1 h a h2 a2 au mt d0 d1 1 16 (qv_like (qv_copy (qv_setW (qv_for 16 (fun g9 i9 => qv_blank g9 i9) (fun _ => 0)) 0 0 1) (fun _ => 0)) 9 2) (qv_setW (qv_for 16 (fun g9 i9 => qv_blank g9 i9) (fun _ => 0)) 0 0 1) (fun _ => 0) ++ qWM cZ cI2 cB mo r1 r2 r3 r4 r5 r6 (qm_fl (fun _ => false) 32) (qm_zl (fun _ => 1) 4096) (fun _ => 0) (qm_nl (fun _ => 0) 64) (fun _ => 0) (qm_fl (fun _ => false) 600) (nI 0) (nI 0) 0) := hD
  refine lv_astore_n (lv' := [(2, .ref mo), (1, .ref tp), (0, .ref b)]) hx hb d_Lw_law_15 rfl hl (by decide) rfl (fun ls hl => ?_)
  refine lv_iconst (v := nI (6 * 0)) hx hb d_Lw_law_16 (by decide) ?_
  refine lv_istore_n (lv' := [(3, .int (nI (6 * 0))), (2, .ref mo), (1, .ref tp), (0, .ref b)]) hx hb d_Lw_law_17 rfl hl (by decide) rfl (fun ls hl => ?_)
  have hJ : qJ cI cJ cZ cI2 cB tp mo 0 (qWA cI cJ tp tr t0 t1 h a h2 a2 au mt d0 d1 1 16 (qv_like (qv_copy (qv_setW (qv_for 16 (fun g9 i9 => qv_blank g9 i9) (fun _ => 0)) 0 0 1) (fun _ => 0)) 9 2) (qv_setW (qv_for 16 (fun g9 i9 => qv_blank g9 i9) (fun _ => 0)) 0 0 1) (fun _ => 0)) (qWM cZ cI2 cB mo r1 r2 r3 r4 r5 r6 (qm_fl (fun _ => false) 32) (qm_zl (fun _ => 1) 4096) (fun _ => 0) (qm_nl (fun _ => 0) 64) (fun _ => 0) (qm_fl (fun _ => false) 600) (nI 0) (nI 0) 0) := ⟨tr, t0, t1, h, a, h2, a2, au, mt, d0, d1, r1, r2, r3, r4, r5, r6, 16, _, _, _, _, _, _, _, _, _, 0, 0, Or.inl ⟨rfl, rfl, qg_lay (fun _ => 0) (fun _ => 0) (by omega) (by omega) (fun _ => by show 1 ≤ 600; omega) (Nat.le_refl _) (fun k _ => ⟨0, Nat.le_refl _, nI_0.symm⟩)⟩⟩
  exact law_loop hx hb hr hlocks hml hown hts hX hbl hL hN hK 513 0 _ _ H locs ls (by omega) (by omega) hJ hP hD hS (lv_sub hl [3, 2, 1, 0] rfl)
