set_option maxHeartbeats 4000000 in
set_option maxRecDepth 100000 in
theorem c_Im_init (l : Launch) (D : va_G) (h : Nat) : qMc (σ := Nat × ClassId) l y_Im_init b_Im_init 1 (rmC 1 1 12544) D [] [.ref h] [(h, .inr (1, [.null]))] (fun u => match u with | (a, cJ) => [(cJ, .long)]) (fun u => match u with | (a, cJ) => [(h, .inr (1, [.ref a])), (a, .inl (cJ, 12544, .inr (.inl (fun _ => 0))))]) := by
  refine q_startI (Qc := qZc D _ _) (by decide +kernel) (Nat.le_of_ble_eq_true rfl) ?_
  intro p e s m below meth c A hx hb hr hlk hml hown hts hK hP hD hS hA hN hin ls hl
  have hin : meth.name = "<init>" := hin
  have hl : lv_has ls 1 [(0, .ref h)] := hl
  have hP : va_P D cls [(h, .inr (1, [.null]))] s.heap := hP
  have hD : va_D A [(h, .inr (1, [.null]))] := hD
  refine lv_aload_n hx hb d_Im_init_0 rfl (lv_at hl 0 rfl) ?_
  refine W.objInit hx hb hown (hts _ ml_Im_3) (hts _ im_objectInit) (hts _ cd_objectInit) rfl (by rw [hml]; exact hl.1) rfl d_Im_init_1 (Nat.le_of_ble_eq_true rfl) (Nat.le_of_ble_eq_true rfl) ?_
  refine W.eq (g2 := F0 m 4 ls []) rfl ?_
  refine lv_aload_n hx hb d_Im_init_4 rfl (lv_at hl 0 rfl) ?_
  refine lv_sipush (v := nI 12544) hx hb d_Im_init_5 (by decide) ?_
  refine va_newa (atype := .long) (a0 := (12544, .inr (.inl (fun _ => 0)))) hx hb (hts _ ac_long) rfl hK hP hD hS hA (fun cA => rfl) (by decide +kernel) (by decide +kernel) (by decide +kernel) (show 0 + 1 ≤ 1 by omega) (show 0 + 12544 ≤ 12544 by omega) d_Im_init_8 (fun a cJ H hK hP hD hS => ?_)
  refine W.widen (k := 1) (n := 12544) (show 0 + 1 ≤ 1 by omega) (show 0 + 12544 ≤ 12544 by omega) ?_
  have hP : va_P D cls [(h, .inr (1, [.null])), (a, .inl (cJ, 12544, .inr (.inl (fun _ => 0))))] H := hP
  have hD : va_D A [(h, .inr (1, [.null])), (a, .inl (cJ, 12544, .inr (.inl (fun _ => 0))))] := hD
  have hK : va_K D cls [(cJ, .long)] s := hK
  refine va_putF (D := D) (ci := 1) (v := .ref a) (ty := .array .long) (C := R_Im) (T := F_Im) (N := 1) hx hb hts i_Im t_Im t_Im_ok n_Im hown hK hP hD hS 0 rfl rfl 0 (by decide) (hts _ fl_Im_9) (fun _ h9 => h9) rfl hin rfl (by decide +kernel) rfl rfl (Nat.le_of_ble_eq_true rfl) d_Im_init_10 (fun H locs hP hD hS => ?_)
  have hP : va_P D cls [(h, .inr (1, [.ref a])), (a, .inl (cJ, 12544, .inr (.inl (fun _ => 0))))] H := hP
  have hD : va_D A [(h, .inr (1, [.ref a])), (a, .inl (cJ, 12544, .inr (.inl (fun _ => 0))))] := hD
  refine W.widen (k := 1) (n := 12544) (show 1 ≤ 1 by omega) (show 12544 ≤ 12544 by omega) ?_
  have hP9 := hP.sub (ws' := [(h, .inr (1, [.ref a])), (a, .inl (cJ, 12544, .inr (.inl (fun _ => 0))))]) [0, 1] rfl
  have hD9 := hD.sub (ws' := [(h, .inr (1, [.ref a])), (a, .inl (cJ, 12544, .inr (.inl (fun _ => 0))))]) [0, 1] (by decide) rfl
  have hK9 := hK.sub (tys' := [(cJ, .long)]) [0] rfl
  exact q_cret (a, cJ) hx hb hr hlk hK9 hP9 hD9 hS d_Im_init_13
set_option maxHeartbeats 4000000 in
set_option maxRecDepth 100000 in
theorem c_Au_init (l : Launch) (D : va_G) (au : Nat) : qMc (σ := Nat × ClassId) l y_Au_init b_Au_init 1 (rmC 1 1 768) D [] [.ref au] [(au, .inr (0, [.null]))] (fun u => match u with | (mt, cI) => [(cI, .int)]) (fun u => match u with | (mt, cI) => [(au, .inr (0, [.ref mt])), (mt, .inl (cI, 768, .inl (fun _ => 0)))]) := by
  refine q_startI (Qc := qZc D _ _) (by decide +kernel) (Nat.le_of_ble_eq_true rfl) ?_
  intro p e s m below meth c A hx hb hr hlk hml hown hts hK hP hD hS hA hN hin ls hl
  have hin : meth.name = "<init>" := hin
  have hl : lv_has ls 1 [(0, .ref au)] := hl
  have hP : va_P D cls [(au, .inr (0, [.null]))] s.heap := hP
  have hD : va_D A [(au, .inr (0, [.null]))] := hD
  refine lv_aload_n hx hb d_Au_init_0 rfl (lv_at hl 0 rfl) ?_
  refine W.objInit hx hb hown (hts _ ml_Au_3) (hts _ im_objectInit) (hts _ cd_objectInit) rfl (by rw [hml]; exact hl.1) rfl d_Au_init_1 (Nat.le_of_ble_eq_true rfl) (Nat.le_of_ble_eq_true rfl) ?_
  refine W.eq (g2 := F0 m 4 ls []) rfl ?_
  refine lv_aload_n hx hb d_Au_init_4 rfl (lv_at hl 0 rfl) ?_
  refine lv_sipush (v := nI 768) hx hb d_Au_init_5 (by decide) ?_
  refine va_newa (atype := .int) (a0 := (768, .inl (fun _ => 0))) hx hb (hts _ ac_int) rfl hK hP hD hS hA (fun cA => rfl) (by decide +kernel) (by decide +kernel) (by decide +kernel) (show 0 + 1 ≤ 1 by omega) (show 0 + 768 ≤ 768 by omega) d_Au_init_8 (fun mt cI H hK hP hD hS => ?_)
  refine W.widen (k := 1) (n := 768) (show 0 + 1 ≤ 1 by omega) (show 0 + 768 ≤ 768 by omega) ?_
  have hP : va_P D cls [(au, .inr (0, [.null])), (mt, .inl (cI, 768, .inl (fun _ => 0)))] H := hP
  have hD : va_D A [(au, .inr (0, [.null])), (mt, .inl (cI, 768, .inl (fun _ => 0)))] := hD
  have hK : va_K D cls [(cI, .int)] s := hK
  refine va_putF (D := D) (ci := 0) (v := .ref mt) (ty := .array .int) (C := R_Au) (T := F_Au) (N := 1) hx hb hts i_Au t_Au t_Au_ok n_Au hown hK hP hD hS 0 rfl rfl 0 (by decide) (hts _ fl_Au_9) (fun _ h9 => h9) rfl hin rfl (by decide +kernel) rfl rfl (Nat.le_of_ble_eq_true rfl) d_Au_init_10 (fun H locs hP hD hS => ?_)
  have hP : va_P D cls [(au, .inr (0, [.ref mt])), (mt, .inl (cI, 768, .inl (fun _ => 0)))] H := hP
  have hD : va_D A [(au, .inr (0, [.ref mt])), (mt, .inl (cI, 768, .inl (fun _ => 0)))] := hD
  refine W.widen (k := 1) (n := 768) (show 1 ≤ 1 by omega) (show 768 ≤ 768 by omega) ?_
  have hP9 := hP.sub (ws' := [(au, .inr (0, [.ref mt])), (mt, .inl (cI, 768, .inl (fun _ => 0)))]) [0, 1] rfl
  have hD9 := hD.sub (ws' := [(au, .inr (0, [.ref mt])), (mt, .inl (cI, 768, .inl (fun _ => 0)))]) [0, 1] (by decide) rfl
  have hK9 := hK.sub (tys' := [(cI, .int)]) [0] rfl
  exact q_cret (mt, cI) hx hb hr hlk hK9 hP9 hD9 hS d_Au_init_13
set_option maxHeartbeats 4000000 in
set_option maxRecDepth 100000 in
theorem c_Tb_init (l : Launch) (D : va_G) (t : Nat) (h : Nat) (n : Nat) (kn : n < 65536) : qMc (σ := Unit) l y_Tb_init b_Tb_init 3 (rmC 2 0 0) D [] [.ref t, .ref h, .int (nI n)] [(t, .inr (2, [.null, .int (nI 0)]))] (fun u => match u with | _ => []) (fun u => match u with | _ => [(t, .inr (2, [.ref h, .int (nI (2 + n * 7))]))]) := by
  refine q_startI (Qc := qZc D _ _) (by decide +kernel) (Nat.le_of_ble_eq_true rfl) ?_
  intro p e s m below meth c A hx hb hr hlk hml hown hts hK hP hD hS hA hN hin ls hl
  have hin : meth.name = "<init>" := hin
  have hl : lv_has ls 3 [(0, .ref t), (1, .ref h), (2, .int (nI n))] := hl
  have hP : va_P D cls [(t, .inr (2, [.null, .int (nI 0)]))] s.heap := hP
  have hD : va_D A [(t, .inr (2, [.null, .int (nI 0)]))] := hD
  refine lv_aload_n hx hb d_Tb_init_0 rfl (lv_at hl 0 rfl) ?_
  refine W.objInit hx hb hown (hts _ ml_Tb_3) (hts _ im_objectInit) (hts _ cd_objectInit) rfl (by rw [hml]; exact hl.1) rfl d_Tb_init_1 (Nat.le_of_ble_eq_true rfl) (Nat.le_of_ble_eq_true rfl) ?_
  refine W.eq (g2 := F0 m 4 ls []) rfl ?_
  refine lv_aload_n hx hb d_Tb_init_4 rfl (lv_at hl 0 rfl) ?_
  refine lv_aload_n hx hb d_Tb_init_5 rfl (lv_at hl 1 rfl) ?_
  refine va_putF (D := D) (ci := 2) (v := .ref h) (ty := .object "ThinPool$Image") (C := R_Tb) (T := F_Tb) (N := 2) hx hb hts i_Tb t_Tb t_Tb_ok n_Tb hown hK hP hD hS 0 rfl rfl 0 (by decide) (hts _ fl_Tb_9) (fun _ h9 => h9) rfl hin rfl (by decide +kernel) rfl rfl (Nat.le_of_ble_eq_true rfl) d_Tb_init_6 (fun H locs hP hD hS => ?_)
  have hP : va_P D cls [(t, .inr (2, [.ref h, .int (nI 0)]))] H := hP
  have hD : va_D A [(t, .inr (2, [.ref h, .int (nI 0)]))] := hD
  refine lv_aload_n hx hb d_Tb_init_9 rfl (lv_at hl 0 rfl) ?_
  refine lv_iload_n hx hb d_Tb_init_10 rfl (lv_at hl 2 rfl) ?_
  refine q_callSi (As := [.int (nI n)]) (rest := [.ref t]) (wsC := []) (wsR := [(t, .inr (2, [.ref h, .int (nI 0)]))]) (wsC' := []) (wsN := [(t, .inr (2, [.ref h, .int (nI 0)]))]) (isT := []) (isC := []) (isR := [0]) (isN := [0]) (k := 1) ⟨hx, hb, hml, hown, hts⟩ (c_Tb_startOf l D n (by omega)) (tw_S ml_Tb_15 st_Tb_startOf in_Tb cd_Tb_startOf) ⟨by decide +kernel, Nat.le_of_ble_eq_true rfl, Nat.le_of_ble_eq_true rfl⟩ ⟨Nat.le_of_ble_eq_true rfl, Nat.le_of_ble_eq_true rfl⟩ hK hP hD hS hA hN rfl ⟨rfl, rfl, rfl, by decide, by decide, by decide, by decide⟩ hl.1 rfl rfl (Nat.le_of_ble_eq_true rfl) d_Tb_init_11 (fun H locs hP hD hS => ?_)
  refine va_putF (D := D) (ci := 2) (v := .int (nI (2 + n * 7))) (ty := .int) (C := R_Tb) (T := F_Tb) (N := 2) hx hb hts i_Tb t_Tb t_Tb_ok n_Tb hown hK hP hD hS 0 rfl rfl 1 (by decide) (hts _ fl_Tb_19) (fun _ h9 => h9) rfl hin rfl (by decide +kernel) rfl rfl (Nat.le_of_ble_eq_true rfl) d_Tb_init_14 (fun H locs hP hD hS => ?_)
  have hP : va_P D cls [(t, .inr (2, [.ref h, .int (nI (2 + n * 7))]))] H := hP
  have hD : va_D A [(t, .inr (2, [.ref h, .int (nI (2 + n * 7))]))] := hD
  refine W.widen (k := 0) (n := 0) (show 0 ≤ 0 by omega) (show 0 ≤ 0 by omega) ?_
  have hP9 := hP.sub (ws' := [(t, .inr (2, [.ref h, .int (nI (2 + n * 7))]))]) [0] rfl
  have hD9 := hD.sub (ws' := [(t, .inr (2, [.ref h, .int (nI (2 + n * 7))]))]) [0] (by decide) rfl
  have hK9 := hK.sub (tys' := []) [] rfl
  exact q_cret (()) hx hb hr hlk hK9 hP9 hD9 hS d_Tb_init_17
set_option maxHeartbeats 4000000 in
set_option maxRecDepth 100000 in
theorem c_Tr_init (l : Launch) (D : va_G) (tr : Nat) (h : Nat) : qMc (σ := Nat × Nat) l y_Tr_init b_Tr_init 2 (rmC 3 2 4) D [] [.ref tr, .ref h] [(tr, .inr (3, [.null, .null, .null, .null, .null, .int (nI 0)]))] (fun u => match u with | (t0, t1) => []) (fun u => match u with | (t0, t1) => [(tr, .inr (3, [.ref h, .ref t0, .ref t1, .ref t1, .ref t0, .int (nI 16)])), (t0, .inr (2, [.ref h, .int (nI 2)])), (t1, .inr (2, [.ref h, .int (nI 9)]))]) := by
  refine q_startI (Qc := qZc D _ _) (by decide +kernel) (Nat.le_of_ble_eq_true rfl) ?_
  intro p e s m below meth c A hx hb hr hlk hml hown hts hK hP hD hS hA hN hin ls hl
  have hin : meth.name = "<init>" := hin
  have hl : lv_has ls 2 [(0, .ref tr), (1, .ref h)] := hl
  have hP : va_P D cls [(tr, .inr (3, [.null, .null, .null, .null, .null, .int (nI 0)]))] s.heap := hP
  have hD : va_D A [(tr, .inr (3, [.null, .null, .null, .null, .null, .int (nI 0)]))] := hD
  refine lv_aload_n hx hb d_Tr_init_0 rfl (lv_at hl 0 rfl) ?_
  refine W.objInit hx hb hown (hts _ ml_Tr_3) (hts _ im_objectInit) (hts _ cd_objectInit) rfl (by rw [hml]; exact hl.1) rfl d_Tr_init_1 (Nat.le_of_ble_eq_true rfl) (Nat.le_of_ble_eq_true rfl) ?_
  refine W.eq (g2 := F0 m 4 ls []) rfl ?_
  refine lv_aload_n hx hb d_Tr_init_4 rfl (lv_at hl 0 rfl) ?_
  refine lv_bipush (v := nI 16) hx hb d_Tr_init_5 (by decide) ?_
  refine va_put (D := D) (ci := 3) (v := .int (nI 16)) (ty := .int) (C := R_Tr) (T := F_Tr) (N := 6) hx hb hts i_Tr t_Tr t_Tr_ok n_Tr hown hK hP hD hS 0 rfl rfl 5 (by decide) (hts _ fl_Tr_9) (fun _ h9 => h9) rfl (by decide +kernel) rfl rfl (Nat.le_of_ble_eq_true rfl) d_Tr_init_7 (fun H locs hP hD hS => ?_)
  have hP : va_P D cls [(tr, .inr (3, [.null, .null, .null, .null, .null, .int (nI 16)]))] H := hP
  have hD : va_D A [(tr, .inr (3, [.null, .null, .null, .null, .null, .int (nI 16)]))] := hD
  refine lv_aload_n hx hb d_Tr_init_10 rfl (lv_at hl 0 rfl) ?_
  refine lv_aload_n hx hb d_Tr_init_11 rfl (lv_at hl 1 rfl) ?_
  refine va_putF (D := D) (ci := 3) (v := .ref h) (ty := .object "ThinPool$Image") (C := R_Tr) (T := F_Tr) (N := 6) hx hb hts i_Tr t_Tr t_Tr_ok n_Tr hown hK hP hD hS 0 rfl rfl 0 (by decide) (hts _ fl_Tr_15) (fun _ h9 => h9) rfl hin rfl (by decide +kernel) rfl rfl (Nat.le_of_ble_eq_true rfl) d_Tr_init_12 (fun H locs hP hD hS => ?_)
  have hP : va_P D cls [(tr, .inr (3, [.ref h, .null, .null, .null, .null, .int (nI 16)]))] H := hP
  have hD : va_D A [(tr, .inr (3, [.ref h, .null, .null, .null, .null, .int (nI 16)]))] := hD
  refine lv_aload_n hx hb d_Tr_init_15 rfl (lv_at hl 0 rfl) ?_
  refine va_new (ci := 2) (fs := [.null, .int (nI 0)]) (C := R_Tb) (T := F_Tb) (N := 2) hx hb hts i_Tb t_Tb t_Tb_ok hown (hts _ cl_Tr_19) (hts _ it_Tb) (hts _ in_Tb) hK hP hD hS hA rfl (fun j hj => by rcases (show j = 0 ∨ j = 1 by omega) with rfl | rfl <;> rfl) (show 0 + 1 ≤ 2 by omega) (show 0 + 2 ≤ 4 by omega) d_Tr_init_16 (fun t0 H hP hD hS => ?_)
  refine W.widen (k := 1) (n := 2) (show 0 + 1 ≤ 1 by omega) (show 0 + 2 ≤ 2 by omega) ?_
  have hP : va_P D cls [(tr, .inr (3, [.ref h, .null, .null, .null, .null, .int (nI 16)])), (t0, .inr (2, [.null, .int (nI 0)]))] H := hP
  have hD : va_D A [(tr, .inr (3, [.ref h, .null, .null, .null, .null, .int (nI 16)])), (t0, .inr (2, [.null, .int (nI 0)]))] := hD
  refine lv_dup hx hb d_Tr_init_19 rfl ?_
  refine lv_aload_n hx hb d_Tr_init_20 rfl (lv_at hl 1 rfl) ?_
  refine lv_iconst (v := nI 0) hx hb d_Tr_init_21 (by decide) ?_
  refine q_callI (As := [.ref h, .int (nI 0)]) (rest := [.ref t0, .ref tr]) (wsC := [(t0, .inr (2, [.null, .int (nI 0)]))]) (wsR := [(tr, .inr (3, [.ref h, .null, .null, .null, .null, .int (nI 16)]))]) (isT := []) (isC := [1]) (isR := [0]) (k := 2) ⟨hx, hb, hml, hown, hts⟩ (c_Tb_init l D t0 h 0 (by omega)) ml_Tr_21 im_Tb_init in_Tb cd_Tb_init rfl ⟨by decide +kernel, Nat.le_of_ble_eq_true rfl, Nat.le_of_ble_eq_true rfl⟩ ⟨show 1 + 0 ≤ 2 by omega, show 2 + 0 ≤ 4 by omega⟩ hK hP hD hS hA hN rfl rfl rfl (by decide) (by decide) (by decide) hl.1 rfl rfl (Nat.le_of_ble_eq_true rfl) d_Tr_init_22 (fun u H locs hK hP hD hS => ?_)
  refine W.widen (k := 1) (n := 2) (show 1 + 0 ≤ 1 by omega) (show 2 + 0 ≤ 2 by omega) ?_
  have hK : va_K D cls [] s := hK
  have hP : va_P D cls [(tr, .inr (3, [.ref h, .null, .null, .null, .null, .int (nI 16)])), (t0, .inr (2, [.ref h, .int (nI (2 + 0 * 7))]))] H := hP
  have hD : va_D A [(tr, .inr (3, [.ref h, .null, .null, .null, .null, .int (nI 16)])), (t0, .inr (2, [.ref h, .int (nI (2 + 0 * 7))]))] := hD
  have hP := hP.sub (ws' := [(tr, .inr (3, [.ref h, .null, .null, .null, .null, .int (nI 16)])), (t0, .inr (2, [.ref h, .int (nI (2 + 0 * 7))]))]) [0, 1] rfl
  have hD := hD.sub (ws' := [(tr, .inr (3, [.ref h, .null, .null, .null, .null, .int (nI 16)])), (t0, .inr (2, [.ref h, .int (nI (2 + 0 * 7))]))]) [0, 1] (by decide) rfl
  have hP : va_P D cls [(tr, .inr (3, [.ref h, .null, .null, .null, .null, .int (nI 16)])), (t0, .inr (2, [.ref h, .int (nI (2))]))] H := hP
  have hD : va_D A [(tr, .inr (3, [.ref h, .null, .null, .null, .null, .int (nI 16)])), (t0, .inr (2, [.ref h, .int (nI (2))]))] := hD
  refine va_putF (D := D) (ci := 3) (v := .ref t0) (ty := .object "ThinPool$Tables") (C := R_Tr) (T := F_Tr) (N := 6) hx hb hts i_Tr t_Tr t_Tr_ok n_Tr hown hK hP hD hS 0 rfl rfl 1 (by decide) (hts _ fl_Tr_24) (fun _ h9 => h9) rfl hin rfl (by decide +kernel) rfl rfl (Nat.le_of_ble_eq_true rfl) d_Tr_init_25 (fun H locs hP hD hS => ?_)
  have hP : va_P D cls [(tr, .inr (3, [.ref h, .ref t0, .null, .null, .null, .int (nI 16)])), (t0, .inr (2, [.ref h, .int (nI (2))]))] H := hP
  have hD : va_D A [(tr, .inr (3, [.ref h, .ref t0, .null, .null, .null, .int (nI 16)])), (t0, .inr (2, [.ref h, .int (nI (2))]))] := hD
  refine lv_aload_n hx hb d_Tr_init_28 rfl (lv_at hl 0 rfl) ?_
  refine va_new (ci := 2) (fs := [.null, .int (nI 0)]) (C := R_Tb) (T := F_Tb) (N := 2) hx hb hts i_Tb t_Tb t_Tb_ok hown (hts _ cl_Tr_19) (hts _ it_Tb) (hts _ in_Tb) hK hP hD hS hA rfl (fun j hj => by rcases (show j = 0 ∨ j = 1 by omega) with rfl | rfl <;> rfl) (show 1 + 1 ≤ 2 by omega) (show 2 + 2 ≤ 4 by omega) d_Tr_init_29 (fun t1 H hP hD hS => ?_)
  refine W.widen (k := 2) (n := 4) (show 1 + 1 ≤ 2 by omega) (show 2 + 2 ≤ 4 by omega) ?_
  have hP : va_P D cls [(tr, .inr (3, [.ref h, .ref t0, .null, .null, .null, .int (nI 16)])), (t0, .inr (2, [.ref h, .int (nI (2))])), (t1, .inr (2, [.null, .int (nI 0)]))] H := hP
  have hD : va_D A [(tr, .inr (3, [.ref h, .ref t0, .null, .null, .null, .int (nI 16)])), (t0, .inr (2, [.ref h, .int (nI (2))])), (t1, .inr (2, [.null, .int (nI 0)]))] := hD
  refine lv_dup hx hb d_Tr_init_32 rfl ?_
  refine lv_aload_n hx hb d_Tr_init_33 rfl (lv_at hl 1 rfl) ?_
  refine lv_iconst (v := nI 1) hx hb d_Tr_init_34 (by decide) ?_
  refine q_callI (As := [.ref h, .int (nI 1)]) (rest := [.ref t1, .ref tr]) (wsC := [(t1, .inr (2, [.null, .int (nI 0)]))]) (wsR := [(tr, .inr (3, [.ref h, .ref t0, .null, .null, .null, .int (nI 16)])), (t0, .inr (2, [.ref h, .int (nI (2))]))]) (isT := []) (isC := [2]) (isR := [0, 1]) (k := 2) ⟨hx, hb, hml, hown, hts⟩ (c_Tb_init l D t1 h 1 (by omega)) ml_Tr_21 im_Tb_init in_Tb cd_Tb_init rfl ⟨by decide +kernel, Nat.le_of_ble_eq_true rfl, Nat.le_of_ble_eq_true rfl⟩ ⟨show 2 + 0 ≤ 2 by omega, show 4 + 0 ≤ 4 by omega⟩ hK hP hD hS hA hN rfl rfl rfl (by decide) (by decide) (by decide) hl.1 rfl rfl (Nat.le_of_ble_eq_true rfl) d_Tr_init_35 (fun u H locs hK hP hD hS => ?_)
  refine W.widen (k := 2) (n := 4) (show 2 + 0 ≤ 2 by omega) (show 4 + 0 ≤ 4 by omega) ?_
  have hK : va_K D cls [] s := hK
  have hP : va_P D cls [(tr, .inr (3, [.ref h, .ref t0, .null, .null, .null, .int (nI 16)])), (t0, .inr (2, [.ref h, .int (nI (2))])), (t1, .inr (2, [.ref h, .int (nI (2 + 1 * 7))]))] H := hP
  have hD : va_D A [(tr, .inr (3, [.ref h, .ref t0, .null, .null, .null, .int (nI 16)])), (t0, .inr (2, [.ref h, .int (nI (2))])), (t1, .inr (2, [.ref h, .int (nI (2 + 1 * 7))]))] := hD
  have hP := hP.sub (ws' := [(tr, .inr (3, [.ref h, .ref t0, .null, .null, .null, .int (nI 16)])), (t0, .inr (2, [.ref h, .int (nI (2))])), (t1, .inr (2, [.ref h, .int (nI (2 + 1 * 7))]))]) [0, 1, 2] rfl
  have hD := hD.sub (ws' := [(tr, .inr (3, [.ref h, .ref t0, .null, .null, .null, .int (nI 16)])), (t0, .inr (2, [.ref h, .int (nI (2))])), (t1, .inr (2, [.ref h, .int (nI (2 + 1 * 7))]))]) [0, 1, 2] (by decide) rfl
  have hP : va_P D cls [(tr, .inr (3, [.ref h, .ref t0, .null, .null, .null, .int (nI 16)])), (t0, .inr (2, [.ref h, .int (nI (2))])), (t1, .inr (2, [.ref h, .int (nI (9))]))] H := hP
  have hD : va_D A [(tr, .inr (3, [.ref h, .ref t0, .null, .null, .null, .int (nI 16)])), (t0, .inr (2, [.ref h, .int (nI (2))])), (t1, .inr (2, [.ref h, .int (nI (9))]))] := hD
  refine va_putF (D := D) (ci := 3) (v := .ref t1) (ty := .object "ThinPool$Tables") (C := R_Tr) (T := F_Tr) (N := 6) hx hb hts i_Tr t_Tr t_Tr_ok n_Tr hown hK hP hD hS 0 rfl rfl 2 (by decide) (hts _ fl_Tr_28) (fun _ h9 => h9) rfl hin rfl (by decide +kernel) rfl rfl (Nat.le_of_ble_eq_true rfl) d_Tr_init_38 (fun H locs hP hD hS => ?_)
  have hP : va_P D cls [(tr, .inr (3, [.ref h, .ref t0, .ref t1, .null, .null, .int (nI 16)])), (t0, .inr (2, [.ref h, .int (nI (2))])), (t1, .inr (2, [.ref h, .int (nI (9))]))] H := hP
  have hD : va_D A [(tr, .inr (3, [.ref h, .ref t0, .ref t1, .null, .null, .int (nI 16)])), (t0, .inr (2, [.ref h, .int (nI (2))])), (t1, .inr (2, [.ref h, .int (nI (9))]))] := hD
  refine lv_aload_n hx hb d_Tr_init_41 rfl (lv_at hl 0 rfl) ?_
  refine lv_aload_n hx hb d_Tr_init_42 rfl (lv_at hl 0 rfl) ?_
  refine va_get (D := D) (ci := 3) (v := .ref t0) (C := R_Tr) (T := F_Tr) (N := 6) hx hb hts i_Tr hown hK hP 0 rfl rfl 1 (by decide) (hts _ fl_Tr_24) (fun _ h9 => h9) rfl d_Tr_init_43 ?_
  refine va_put (D := D) (ci := 3) (v := .ref t0) (ty := .object "ThinPool$Tables") (C := R_Tr) (T := F_Tr) (N := 6) hx hb hts i_Tr t_Tr t_Tr_ok n_Tr hown hK hP hD hS 0 rfl rfl 4 (by decide) (hts _ fl_Tr_31) (fun _ h9 => h9) rfl (by decide +kernel) rfl rfl (Nat.le_of_ble_eq_true rfl) d_Tr_init_46 (fun H locs hP hD hS => ?_)
  have hP : va_P D cls [(tr, .inr (3, [.ref h, .ref t0, .ref t1, .null, .ref t0, .int (nI 16)])), (t0, .inr (2, [.ref h, .int (nI (2))])), (t1, .inr (2, [.ref h, .int (nI (9))]))] H := hP
  have hD : va_D A [(tr, .inr (3, [.ref h, .ref t0, .ref t1, .null, .ref t0, .int (nI 16)])), (t0, .inr (2, [.ref h, .int (nI (2))])), (t1, .inr (2, [.ref h, .int (nI (9))]))] := hD
  refine lv_aload_n hx hb d_Tr_init_49 rfl (lv_at hl 0 rfl) ?_
  refine lv_aload_n hx hb d_Tr_init_50 rfl (lv_at hl 0 rfl) ?_
  refine va_get (D := D) (ci := 3) (v := .ref t1) (C := R_Tr) (T := F_Tr) (N := 6) hx hb hts i_Tr hown hK hP 0 rfl rfl 2 (by decide) (hts _ fl_Tr_28) (fun _ h9 => h9) rfl d_Tr_init_51 ?_
  refine va_put (D := D) (ci := 3) (v := .ref t1) (ty := .object "ThinPool$Tables") (C := R_Tr) (T := F_Tr) (N := 6) hx hb hts i_Tr t_Tr t_Tr_ok n_Tr hown hK hP hD hS 0 rfl rfl 3 (by decide) (hts _ fl_Tr_34) (fun _ h9 => h9) rfl (by decide +kernel) rfl rfl (Nat.le_of_ble_eq_true rfl) d_Tr_init_54 (fun H locs hP hD hS => ?_)
  have hP : va_P D cls [(tr, .inr (3, [.ref h, .ref t0, .ref t1, .ref t1, .ref t0, .int (nI 16)])), (t0, .inr (2, [.ref h, .int (nI (2))])), (t1, .inr (2, [.ref h, .int (nI (9))]))] H := hP
  have hD : va_D A [(tr, .inr (3, [.ref h, .ref t0, .ref t1, .ref t1, .ref t0, .int (nI 16)])), (t0, .inr (2, [.ref h, .int (nI (2))])), (t1, .inr (2, [.ref h, .int (nI (9))]))] := hD
  refine W.widen (k := 2) (n := 4) (show 2 ≤ 2 by omega) (show 4 ≤ 4 by omega) ?_
  have hP9 := hP.sub (ws' := [(tr, .inr (3, [.ref h, .ref t0, .ref t1, .ref t1, .ref t0, .int (nI 16)])), (t0, .inr (2, [.ref h, .int (nI 2)])), (t1, .inr (2, [.ref h, .int (nI 9)]))]) [0, 1, 2] rfl
  have hD9 := hD.sub (ws' := [(tr, .inr (3, [.ref h, .ref t0, .ref t1, .ref t1, .ref t0, .int (nI 16)])), (t0, .inr (2, [.ref h, .int (nI 2)])), (t1, .inr (2, [.ref h, .int (nI 9)]))]) [0, 1, 2] (by decide) rfl
  have hK9 := hK.sub (tys' := []) [] rfl
  exact q_cret (t0, t1) hx hb hr hlk hK9 hP9 hD9 hS d_Tr_init_57
