theorem qv_rt_lt (f : Nat → Int64) (T v : Nat) : qv_rt f T v < 65536 := qv_lk_lt f T v
theorem qv_nt_lt (f : Nat → Int64) (T i : Nat) : qv_nt f T i < 256 := qv_by_lt f T (32 + i)
set_option maxHeartbeats 4000000 in
set_option maxRecDepth 100000 in
theorem c_Tb_startOf (l : Launch) (D : va_G) (n : Nat) (kn : n < 65536) : qMi l y_Tb_startOf b_Tb_startOf 1 (some .int) (rmL 1) D [] [.int (nI n)] [] [] (nI (2 + n * 7)) := by
  refine q_start (Qc := qZi D _ _ _) (by decide +kernel) (Nat.le_of_ble_eq_true rfl) ?_
  intro p e s m below meth c A hx hb hr hlk hml hown hts hK hP hD hS hA hN ls hl
  have hl : lv_has ls 1 [(0, .int (nI n))] := hl
  have hP : va_P D cls [] s.heap := hP
  have hD : va_D A [] := hD
  refine lv_iconst (v := nI 2) hx hb d_Tb_startOf_0 (by decide) ?_
  refine lv_iload_n hx hb d_Tb_startOf_1 rfl (lv_at hl 0 rfl) ?_
  refine lv_bipush (v := nI 7) hx hb d_Tb_startOf_2 (by decide) ?_
  refine lv_imul hx hb d_Tb_startOf_4 ?_
  refine q_ti (y := nI (n * 7)) (pk_mul _ _) ?_
  refine lv_iadd hx hb d_Tb_startOf_5 ?_
  refine q_ti (y := nI (2 + (n * 7))) (nI_add _ _) ?_
  exact q_iret hx hb hr hlk hK hP hD hS d_Tb_startOf_6 (rfl) (rfl)
set_option maxHeartbeats 4000000 in
set_option maxRecDepth 100000 in
theorem c_Tb_rootOf (l : Launch) (D : va_G) (cJ : ClassId) (t : Nat) (T : Nat) (h : Nat) (a : Nat) (f : Nat → Int64) (v : Nat) (kT : T < 1000) (kv : v < 65536) : qMi l y_Tb_rootOf b_Tb_rootOf 2 (some .int) (rmL 3) D [(cJ, .long)] [.ref t, .int (nI v)] [(t, .inr (2, [.ref h, .int (nI T)])), (h, .inr (1, [.ref a])), (a, .inl (cJ, 12544, .inr (.inl (f))))] [(t, .inr (2, [.ref h, .int (nI T)])), (h, .inr (1, [.ref a])), (a, .inl (cJ, 12544, .inr (.inl (f))))] (nI (qv_rt f T v)) := by
  refine q_start (Qc := qZi D _ _ _) (by decide +kernel) (Nat.le_of_ble_eq_true rfl) ?_
  intro p e s m below meth c A hx hb hr hlk hml hown hts hK hP hD hS hA hN ls hl
  have hl : lv_has ls 2 [(0, .ref t), (1, .int (nI v))] := hl
  have hP : va_P D cls [(t, .inr (2, [.ref h, .int (nI T)])), (h, .inr (1, [.ref a])), (a, .inl (cJ, 12544, .inr (.inl (f))))] s.heap := hP
  have hD : va_D A [(t, .inr (2, [.ref h, .int (nI T)])), (h, .inr (1, [.ref a])), (a, .inl (cJ, 12544, .inr (.inl (f))))] := hD
  refine lv_aload_n hx hb d_Tb_rootOf_0 rfl (lv_at hl 0 rfl) ?_
  refine va_get (D := D) (ci := 2) (v := .ref h) (C := R_Tb) (T := F_Tb) (N := 2) hx hb hts i_Tb hown hK hP 0 rfl rfl 0 (by decide) (hts _ fl_Tb_9) (fun _ h9 => h9) rfl d_Tb_rootOf_1 ?_
  refine lv_aload_n hx hb d_Tb_rootOf_4 rfl (lv_at hl 0 rfl) ?_
  refine va_get (D := D) (ci := 2) (v := .int (nI T)) (C := R_Tb) (T := F_Tb) (N := 2) hx hb hts i_Tb hown hK hP 0 rfl rfl 1 (by decide) (hts _ fl_Tb_19) (fun _ h9 => h9) rfl d_Tb_rootOf_5 ?_
  refine lv_iload_n hx hb d_Tb_rootOf_8 rfl (lv_at hl 1 rfl) ?_
  refine q_callVi (As := [.int (nI T), .int (nI v)]) (rest := []) (wsC := [(h, .inr (1, [.ref a])), (a, .inl (cJ, 12544, .inr (.inl (f))))]) (wsR := [(t, .inr (2, [.ref h, .int (nI T)]))]) (wsC' := [(h, .inr (1, [.ref a])), (a, .inl (cJ, 12544, .inr (.inl (f))))]) (wsN := [(t, .inr (2, [.ref h, .int (nI T)])), (h, .inr (1, [.ref a])), (a, .inl (cJ, 12544, .inr (.inl (f))))]) (isT := [0]) (isC := [1, 2]) (isR := [0]) (isN := [0, 1, 2]) (k := 2) (ci := 1) (C := R_Im) ⟨hx, hb, hml, hown, hts⟩ (c_Im_linkAt l D cJ h a f T v (by omega) (by omega)) (tw_V ml_Tb_23 im_Im_linkAt se_Im_linkAt in_Im cd_Im_linkAt) rfl ⟨by decide +kernel, Nat.le_of_ble_eq_true rfl, Nat.le_of_ble_eq_true rfl⟩ ⟨Nat.le_of_ble_eq_true rfl, Nat.le_of_ble_eq_true rfl⟩ hK hP hD hS hA hN rfl ⟨rfl, rfl, rfl, by decide, by decide, by decide, by decide⟩ rfl rfl rfl hl.1 rfl rfl (Nat.le_of_ble_eq_true rfl) d_Tb_rootOf_9 (fun H locs hP hD hS => ?_)
  have hq1 := qv_lk_lt f T v
  exact q_iret hx hb hr hlk hK hP hD hS d_Tb_rootOf_12 (rfl) (rfl)
set_option maxHeartbeats 4000000 in
set_option maxRecDepth 100000 in
theorem c_Tb_setRoot (l : Launch) (D : va_G) (cJ : ClassId) (t : Nat) (T : Nat) (h : Nat) (a : Nat) (f : Nat → Int64) (v : Nat) (r : Nat) (kT : T < 1000) (kv : v < 65536) (kr : r < 65536) : qMv l y_Tb_setRoot b_Tb_setRoot 3 none (rmL 3) D [(cJ, .long)] [.ref t, .int (nI v), .int (nI r)] [(t, .inr (2, [.ref h, .int (nI T)])), (h, .inr (1, [.ref a])), (a, .inl (cJ, 12544, .inr (.inl (f))))] [(t, .inr (2, [.ref h, .int (nI T)])), (h, .inr (1, [.ref a])), (a, .inl (cJ, 12544, .inr (.inl (qv_setL f T v r))))] := by
  refine q_start (Qc := qZv D _ _) (by decide +kernel) (Nat.le_of_ble_eq_true rfl) ?_
  intro p e s m below meth c A hx hb hr hlk hml hown hts hK hP hD hS hA hN ls hl
  have hl : lv_has ls 3 [(0, .ref t), (1, .int (nI v)), (2, .int (nI r))] := hl
  have hP : va_P D cls [(t, .inr (2, [.ref h, .int (nI T)])), (h, .inr (1, [.ref a])), (a, .inl (cJ, 12544, .inr (.inl (f))))] s.heap := hP
  have hD : va_D A [(t, .inr (2, [.ref h, .int (nI T)])), (h, .inr (1, [.ref a])), (a, .inl (cJ, 12544, .inr (.inl (f))))] := hD
  refine lv_aload_n hx hb d_Tb_setRoot_0 rfl (lv_at hl 0 rfl) ?_
  refine va_get (D := D) (ci := 2) (v := .ref h) (C := R_Tb) (T := F_Tb) (N := 2) hx hb hts i_Tb hown hK hP 0 rfl rfl 0 (by decide) (hts _ fl_Tb_9) (fun _ h9 => h9) rfl d_Tb_setRoot_1 ?_
  refine lv_aload_n hx hb d_Tb_setRoot_4 rfl (lv_at hl 0 rfl) ?_
  refine va_get (D := D) (ci := 2) (v := .int (nI T)) (C := R_Tb) (T := F_Tb) (N := 2) hx hb hts i_Tb hown hK hP 0 rfl rfl 1 (by decide) (hts _ fl_Tb_19) (fun _ h9 => h9) rfl d_Tb_setRoot_5 ?_
  refine lv_iload_n hx hb d_Tb_setRoot_8 rfl (lv_at hl 1 rfl) ?_
  refine lv_iload_n hx hb d_Tb_setRoot_9 rfl (lv_at hl 2 rfl) ?_
  refine q_callVv (As := [.int (nI T), .int (nI v), .int (nI r)]) (rest := []) (wsC := [(h, .inr (1, [.ref a])), (a, .inl (cJ, 12544, .inr (.inl (f))))]) (wsR := [(t, .inr (2, [.ref h, .int (nI T)]))]) (wsC' := [(h, .inr (1, [.ref a])), (a, .inl (cJ, 12544, .inr (.inl (qv_setL f T v r))))]) (wsN := [(t, .inr (2, [.ref h, .int (nI T)])), (h, .inr (1, [.ref a])), (a, .inl (cJ, 12544, .inr (.inl (qv_setL f T v r))))]) (isT := [0]) (isC := [1, 2]) (isR := [0]) (isN := [0, 1, 2]) (k := 3) (ci := 1) (C := R_Im) ⟨hx, hb, hml, hown, hts⟩ (c_Im_setLink l D cJ h a f T v r (by omega) (by omega) (by omega)) (tw_V ml_Tb_29 im_Im_setLink se_Im_setLink in_Im cd_Im_setLink) rfl ⟨by decide +kernel, Nat.le_of_ble_eq_true rfl, Nat.le_of_ble_eq_true rfl⟩ ⟨Nat.le_of_ble_eq_true rfl, Nat.le_of_ble_eq_true rfl⟩ hK hP hD hS hA hN rfl ⟨rfl, rfl, rfl, by decide, by decide, by decide, by decide⟩ rfl rfl rfl hl.1 rfl rfl (Nat.le_of_ble_eq_true rfl) d_Tb_setRoot_10 (fun H locs hP hD hS => ?_)
  exact q_vret hx hb hr hlk hK hP hD hS d_Tb_setRoot_13 (rfl)
set_option maxHeartbeats 4000000 in
set_option maxRecDepth 100000 in
theorem c_Tb_noteAt (l : Launch) (D : va_G) (cJ : ClassId) (t : Nat) (T : Nat) (h : Nat) (a : Nat) (f : Nat → Int64) (i : Nat) (kT : T < 1000) (ki : i < 60000) : qMi l y_Tb_noteAt b_Tb_noteAt 2 (some .int) (rmL 2) D [(cJ, .long)] [.ref t, .int (nI i)] [(t, .inr (2, [.ref h, .int (nI T)])), (h, .inr (1, [.ref a])), (a, .inl (cJ, 12544, .inr (.inl (f))))] [(t, .inr (2, [.ref h, .int (nI T)])), (h, .inr (1, [.ref a])), (a, .inl (cJ, 12544, .inr (.inl (f))))] (nI (qv_nt f T i)) := by
  refine q_start (Qc := qZi D _ _ _) (by decide +kernel) (Nat.le_of_ble_eq_true rfl) ?_
  intro p e s m below meth c A hx hb hr hlk hml hown hts hK hP hD hS hA hN ls hl
  have hl : lv_has ls 2 [(0, .ref t), (1, .int (nI i))] := hl
  have hP : va_P D cls [(t, .inr (2, [.ref h, .int (nI T)])), (h, .inr (1, [.ref a])), (a, .inl (cJ, 12544, .inr (.inl (f))))] s.heap := hP
  have hD : va_D A [(t, .inr (2, [.ref h, .int (nI T)])), (h, .inr (1, [.ref a])), (a, .inl (cJ, 12544, .inr (.inl (f))))] := hD
  refine lv_aload_n hx hb d_Tb_noteAt_0 rfl (lv_at hl 0 rfl) ?_
  refine va_get (D := D) (ci := 2) (v := .ref h) (C := R_Tb) (T := F_Tb) (N := 2) hx hb hts i_Tb hown hK hP 0 rfl rfl 0 (by decide) (hts _ fl_Tb_9) (fun _ h9 => h9) rfl d_Tb_noteAt_1 ?_
  refine lv_aload_n hx hb d_Tb_noteAt_4 rfl (lv_at hl 0 rfl) ?_
  refine va_get (D := D) (ci := 2) (v := .int (nI T)) (C := R_Tb) (T := F_Tb) (N := 2) hx hb hts i_Tb hown hK hP 0 rfl rfl 1 (by decide) (hts _ fl_Tb_19) (fun _ h9 => h9) rfl d_Tb_noteAt_5 ?_
  refine lv_bipush (v := nI 32) hx hb d_Tb_noteAt_8 (by decide) ?_
  refine lv_iload_n hx hb d_Tb_noteAt_10 rfl (lv_at hl 1 rfl) ?_
  refine lv_iadd hx hb d_Tb_noteAt_11 ?_
  refine q_ti (y := nI (32 + i)) (nI_add _ _) ?_
  refine q_callVi (As := [.int (nI T), .int (nI (32 + i))]) (rest := []) (wsC := [(h, .inr (1, [.ref a])), (a, .inl (cJ, 12544, .inr (.inl (f))))]) (wsR := [(t, .inr (2, [.ref h, .int (nI T)]))]) (wsC' := [(h, .inr (1, [.ref a])), (a, .inl (cJ, 12544, .inr (.inl (f))))]) (wsN := [(t, .inr (2, [.ref h, .int (nI T)])), (h, .inr (1, [.ref a])), (a, .inl (cJ, 12544, .inr (.inl (f))))]) (isT := [0]) (isC := [1, 2]) (isR := [0]) (isN := [0, 1, 2]) (k := 2) (ci := 1) (C := R_Im) ⟨hx, hb, hml, hown, hts⟩ (c_Im_byteAt l D cJ h a f T (32 + i) (by omega) (by omega)) (tw_V ml_Tb_33 im_Im_byteAt se_Im_byteAt in_Im cd_Im_byteAt) rfl ⟨by decide +kernel, Nat.le_of_ble_eq_true rfl, Nat.le_of_ble_eq_true rfl⟩ ⟨Nat.le_of_ble_eq_true rfl, Nat.le_of_ble_eq_true rfl⟩ hK hP hD hS hA hN rfl ⟨rfl, rfl, rfl, by decide, by decide, by decide, by decide⟩ rfl rfl rfl hl.1 rfl rfl (Nat.le_of_ble_eq_true rfl) d_Tb_noteAt_12 (fun H locs hP hD hS => ?_)
  have hq1 := qv_by_lt f T (32 + i)
  exact q_iret hx hb hr hlk hK hP hD hS d_Tb_noteAt_15 (rfl) (rfl)
set_option maxHeartbeats 4000000 in
set_option maxRecDepth 100000 in
theorem c_Tb_setNote (l : Launch) (D : va_G) (cJ : ClassId) (t : Nat) (T : Nat) (h : Nat) (a : Nat) (f : Nat → Int64) (i : Nat) (v : Nat) (kT : T < 1000) (ki : i < 60000) (kv : v < 60000) : qMv l y_Tb_setNote b_Tb_setNote 3 none (rmL 2) D [(cJ, .long)] [.ref t, .int (nI i), .int (nI v)] [(t, .inr (2, [.ref h, .int (nI T)])), (h, .inr (1, [.ref a])), (a, .inl (cJ, 12544, .inr (.inl (f))))] [(t, .inr (2, [.ref h, .int (nI T)])), (h, .inr (1, [.ref a])), (a, .inl (cJ, 12544, .inr (.inl (qv_setB f T (32 + i) v))))] := by
  refine q_start (Qc := qZv D _ _) (by decide +kernel) (Nat.le_of_ble_eq_true rfl) ?_
  intro p e s m below meth c A hx hb hr hlk hml hown hts hK hP hD hS hA hN ls hl
  have hl : lv_has ls 3 [(0, .ref t), (1, .int (nI i)), (2, .int (nI v))] := hl
  have hP : va_P D cls [(t, .inr (2, [.ref h, .int (nI T)])), (h, .inr (1, [.ref a])), (a, .inl (cJ, 12544, .inr (.inl (f))))] s.heap := hP
  have hD : va_D A [(t, .inr (2, [.ref h, .int (nI T)])), (h, .inr (1, [.ref a])), (a, .inl (cJ, 12544, .inr (.inl (f))))] := hD
  refine lv_aload_n hx hb d_Tb_setNote_0 rfl (lv_at hl 0 rfl) ?_
  refine va_get (D := D) (ci := 2) (v := .ref h) (C := R_Tb) (T := F_Tb) (N := 2) hx hb hts i_Tb hown hK hP 0 rfl rfl 0 (by decide) (hts _ fl_Tb_9) (fun _ h9 => h9) rfl d_Tb_setNote_1 ?_
  refine lv_aload_n hx hb d_Tb_setNote_4 rfl (lv_at hl 0 rfl) ?_
  refine va_get (D := D) (ci := 2) (v := .int (nI T)) (C := R_Tb) (T := F_Tb) (N := 2) hx hb hts i_Tb hown hK hP 0 rfl rfl 1 (by decide) (hts _ fl_Tb_19) (fun _ h9 => h9) rfl d_Tb_setNote_5 ?_
  refine lv_bipush (v := nI 32) hx hb d_Tb_setNote_8 (by decide) ?_
  refine lv_iload_n hx hb d_Tb_setNote_10 rfl (lv_at hl 1 rfl) ?_
  refine lv_iadd hx hb d_Tb_setNote_11 ?_
  refine q_ti (y := nI (32 + i)) (nI_add _ _) ?_
  refine lv_iload_n hx hb d_Tb_setNote_12 rfl (lv_at hl 2 rfl) ?_
  refine q_callVv (As := [.int (nI T), .int (nI (32 + i)), .int (nI v)]) (rest := []) (wsC := [(h, .inr (1, [.ref a])), (a, .inl (cJ, 12544, .inr (.inl (f))))]) (wsR := [(t, .inr (2, [.ref h, .int (nI T)]))]) (wsC' := [(h, .inr (1, [.ref a])), (a, .inl (cJ, 12544, .inr (.inl (qv_setB f T (32 + i) v))))]) (wsN := [(t, .inr (2, [.ref h, .int (nI T)])), (h, .inr (1, [.ref a])), (a, .inl (cJ, 12544, .inr (.inl (qv_setB f T (32 + i) v))))]) (isT := [0]) (isC := [1, 2]) (isR := [0]) (isN := [0, 1, 2]) (k := 3) (ci := 1) (C := R_Im) ⟨hx, hb, hml, hown, hts⟩ (c_Im_setByte l D cJ h a f T (32 + i) v (by omega) (by omega) (by omega)) (tw_V ml_Tb_36 im_Im_setByte se_Im_setByte in_Im cd_Im_setByte) rfl ⟨by decide +kernel, Nat.le_of_ble_eq_true rfl, Nat.le_of_ble_eq_true rfl⟩ ⟨Nat.le_of_ble_eq_true rfl, Nat.le_of_ble_eq_true rfl⟩ hK hP hD hS hA hN rfl ⟨rfl, rfl, rfl, by decide, by decide, by decide, by decide⟩ rfl rfl rfl hl.1 rfl rfl (Nat.le_of_ble_eq_true rfl) d_Tb_setNote_13 (fun H locs hP hD hS => ?_)
  exact q_vret hx hb hr hlk hK hP hD hS d_Tb_setNote_16 (rfl)
set_option maxHeartbeats 4000000 in
set_option maxRecDepth 100000 in
theorem c_Tb_waysToZ (l : Launch) (D : va_G) (cJ : ClassId) (t : Nat) (T : Nat) (h : Nat) (a : Nat) (f : Nat → Int64) (b : Nat) (kT : T < 1000) (kb : b < 65536) (kz : b < 16) : qMi l y_Tb_waysTo b_Tb_waysTo 3 (some .int) (rmL 2) D [(cJ, .long)] [.ref t, .int (nI b)] [(t, .inr (2, [.ref h, .int (nI T)])), (h, .inr (1, [.ref a])), (a, .inl (cJ, 12544, .inr (.inl (f))))] [(t, .inr (2, [.ref h, .int (nI T)])), (h, .inr (1, [.ref a])), (a, .inl (cJ, 12544, .inr (.inl (f))))] (nI (qv_wy f T b)) := by
  refine q_start (Qc := qZi D _ _ _) (by decide +kernel) (Nat.le_of_ble_eq_true rfl) ?_
  intro p e s m below meth c A hx hb hr hlk hml hown hts hK hP hD hS hA hN ls hl
  have hl : lv_has ls 3 [(0, .ref t), (1, .int (nI b))] := hl
  have hP : va_P D cls [(t, .inr (2, [.ref h, .int (nI T)])), (h, .inr (1, [.ref a])), (a, .inl (cJ, 12544, .inr (.inl (f))))] s.heap := hP
  have hD : va_D A [(t, .inr (2, [.ref h, .int (nI T)])), (h, .inr (1, [.ref a])), (a, .inl (cJ, 12544, .inr (.inl (f))))] := hD
  refine lv_iload_n hx hb d_Tb_waysTo_0 rfl (lv_at hl 1 rfl) ?_
  refine lv_bipush (v := nI 16) hx hb d_Tb_waysTo_1 (by decide) ?_
  refine lv_isub hx hb d_Tb_waysTo_3 ?_
  refine lv_istore_n (lv' := [(2, .int ((nI b) - (nI 16))), (0, .ref t), (1, .int (nI b))]) hx hb d_Tb_waysTo_4 rfl hl (by decide) rfl (fun ls hl => ?_)
  refine lv_iload_n hx hb d_Tb_waysTo_5 rfl (lv_at hl 0 rfl) ?_
  refine lv_if_lt (tgt := 43) hx hb d_Tb_waysTo_6 (by decide) (fun c6 => ?_) (fun c6 => ?_)
  · refine lv_iconst (v := nI 0) hx hb d_Tb_waysTo_43 (by decide) ?_
    exact q_iret hx hb hr hlk hK hP hD hS d_Tb_waysTo_44 (by unfold qv_wy; rw [if_neg (fun q => by have := q.1; omega)]) (rfl)
  · exact absurd (pk_sneg (by omega) (by omega)) c6
set_option maxHeartbeats 4000000 in
set_option maxRecDepth 100000 in
theorem c_Tb_waysToP (l : Launch) (D : va_G) (cJ : ClassId) (t : Nat) (T : Nat) (h : Nat) (a : Nat) (f : Nat → Int64) (b : Nat) (kT : T < 1000) (kb : b < 65536) (kz : 16 ≤ b) : qMi l y_Tb_waysTo b_Tb_waysTo 3 (some .int) (rmL 2) D [(cJ, .long)] [.ref t, .int (nI b)] [(t, .inr (2, [.ref h, .int (nI T)])), (h, .inr (1, [.ref a])), (a, .inl (cJ, 12544, .inr (.inl (f))))] [(t, .inr (2, [.ref h, .int (nI T)])), (h, .inr (1, [.ref a])), (a, .inl (cJ, 12544, .inr (.inl (f))))] (nI (qv_wy f T b)) := by
  refine q_start (Qc := qZi D _ _ _) (by decide +kernel) (Nat.le_of_ble_eq_true rfl) ?_
  intro p e s m below meth c A hx hb hr hlk hml hown hts hK hP hD hS hA hN ls hl
  have hl : lv_has ls 3 [(0, .ref t), (1, .int (nI b))] := hl
  have hP : va_P D cls [(t, .inr (2, [.ref h, .int (nI T)])), (h, .inr (1, [.ref a])), (a, .inl (cJ, 12544, .inr (.inl (f))))] s.heap := hP
  have hD : va_D A [(t, .inr (2, [.ref h, .int (nI T)])), (h, .inr (1, [.ref a])), (a, .inl (cJ, 12544, .inr (.inl (f))))] := hD
  refine lv_iload_n hx hb d_Tb_waysTo_0 rfl (lv_at hl 1 rfl) ?_
  refine lv_bipush (v := nI 16) hx hb d_Tb_waysTo_1 (by decide) ?_
  refine lv_isub hx hb d_Tb_waysTo_3 ?_
  refine q_ti (y := nI (b - 16)) (pk_sub (by omega)) ?_
  refine lv_istore_n (lv' := [(2, .int (nI (b - 16))), (0, .ref t), (1, .int (nI b))]) hx hb d_Tb_waysTo_4 rfl hl (by decide) rfl (fun ls hl => ?_)
  refine lv_iload_n hx hb d_Tb_waysTo_5 rfl (lv_at hl 0 rfl) ?_
  refine lv_if_lt (tgt := 43) hx hb d_Tb_waysTo_6 (by decide) (fun c6 => ?_) (fun c6 => ?_)
  · exact absurd c6 (nI_pos (by omega))
  · refine lv_iload_n hx hb d_Tb_waysTo_9 rfl (lv_at hl 0 rfl) ?_
    refine lv_sipush (v := nI 768) hx hb d_Tb_waysTo_10 (by decide) ?_
    refine lv_icmp_ge (tgt := 43) hx hb d_Tb_waysTo_13 (by decide) (fun c13 => ?_) (fun c13 => ?_)
    · have c13 : 768 ≤ (b - 16) := (nI_leI (by omega) (by omega)).mp c13
      refine lv_iconst (v := nI 0) hx hb d_Tb_waysTo_43 (by decide) ?_
      exact q_iret hx hb hr hlk hK hP hD hS d_Tb_waysTo_44 (by unfold qv_wy; rw [if_neg (fun q => by have := q.2; omega)]) (rfl)
    · have c13 : ¬ 768 ≤ (b - 16) := fun h9 => c13 ((nI_leI (by omega) (by omega)).mpr h9)
      refine lv_aload_n hx hb d_Tb_waysTo_16 rfl (lv_at hl 1 rfl) ?_
      refine va_get (D := D) (ci := 2) (v := .ref h) (C := R_Tb) (T := F_Tb) (N := 2) hx hb hts i_Tb hown hK hP 0 rfl rfl 0 (by decide) (hts _ fl_Tb_9) (fun _ h9 => h9) rfl d_Tb_waysTo_17 ?_
      refine lv_aload_n hx hb d_Tb_waysTo_20 rfl (lv_at hl 1 rfl) ?_
      refine va_get (D := D) (ci := 2) (v := .int (nI T)) (C := R_Tb) (T := F_Tb) (N := 2) hx hb hts i_Tb hown hK hP 0 rfl rfl 1 (by decide) (hts _ fl_Tb_19) (fun _ h9 => h9) rfl d_Tb_waysTo_21 ?_
      refine lv_iconst (v := nI 1) hx hb d_Tb_waysTo_24 (by decide) ?_
      refine lv_iadd hx hb d_Tb_waysTo_25 ?_
      refine q_ti (y := nI (T + 1)) (nI_add _ _) ?_
      refine lv_iload_n hx hb d_Tb_waysTo_26 rfl (lv_at hl 0 rfl) ?_
      refine lv_sipush (v := nI 128) hx hb d_Tb_waysTo_27 (by decide) ?_
      refine lv_idiv hx hb d_Tb_waysTo_30 (by decide) ?_
      refine q_ti (y := nI ((b - 16) / 128)) (pk_div (by omega) (by decide) (by decide)) ?_
      refine lv_iadd hx hb d_Tb_waysTo_31 ?_
      refine q_ti (y := nI (T + 1 + ((b - 16) / 128))) (nI_add _ _) ?_
      refine lv_iload_n hx hb d_Tb_waysTo_32 rfl (lv_at hl 0 rfl) ?_
      refine lv_sipush (v := nI 128) hx hb d_Tb_waysTo_33 (by decide) ?_
      refine lv_irem hx hb d_Tb_waysTo_36 (by decide) ?_
      refine q_ti (y := nI ((b - 16) % 128)) (pk_rem (by omega) (by decide) (by decide)) ?_
      refine q_callVi (As := [.int (nI (T + 1 + ((b - 16) / 128))), .int (nI ((b - 16) % 128))]) (rest := []) (wsC := [(h, .inr (1, [.ref a])), (a, .inl (cJ, 12544, .inr (.inl (f))))]) (wsR := [(t, .inr (2, [.ref h, .int (nI T)]))]) (wsC' := [(h, .inr (1, [.ref a])), (a, .inl (cJ, 12544, .inr (.inl (f))))]) (wsN := [(t, .inr (2, [.ref h, .int (nI T)])), (h, .inr (1, [.ref a])), (a, .inl (cJ, 12544, .inr (.inl (f))))]) (isT := [0]) (isC := [1, 2]) (isR := [0]) (isN := [0, 1, 2]) (k := 2) (ci := 1) (C := R_Im) ⟨hx, hb, hml, hown, hts⟩ (c_Im_byteAt l D cJ h a f (T + 1 + ((b - 16) / 128)) ((b - 16) % 128) (by omega) (by omega)) (tw_V ml_Tb_33 im_Im_byteAt se_Im_byteAt in_Im cd_Im_byteAt) rfl ⟨by decide +kernel, Nat.le_of_ble_eq_true rfl, Nat.le_of_ble_eq_true rfl⟩ ⟨Nat.le_of_ble_eq_true rfl, Nat.le_of_ble_eq_true rfl⟩ hK hP hD hS hA hN rfl ⟨rfl, rfl, rfl, by decide, by decide, by decide, by decide⟩ rfl rfl rfl hl.1 rfl rfl (Nat.le_of_ble_eq_true rfl) d_Tb_waysTo_37 (fun H locs hP hD hS => ?_)
      have hq1 := qv_by_lt f (T + 1 + ((b - 16) / 128)) ((b - 16) % 128)
      refine lv_goto (tgt := 44) hx hb d_Tb_waysTo_40 (by decide) ?_
      exact q_iret hx hb hr hlk hK hP hD hS d_Tb_waysTo_44 (by unfold qv_wy; rw [if_pos ⟨by omega, by omega⟩]) (rfl)
theorem c_Tb_waysTo (l : Launch) (D : va_G) (cJ : ClassId) (t : Nat) (T : Nat) (h : Nat) (a : Nat) (f : Nat → Int64) (b : Nat) (kT : T < 1000) (kb : b < 65536) : qMi l y_Tb_waysTo b_Tb_waysTo 3 (some .int) (rmL 2) D [(cJ, .long)] [.ref t, .int (nI b)] [(t, .inr (2, [.ref h, .int (nI T)])), (h, .inr (1, [.ref a])), (a, .inl (cJ, 12544, .inr (.inl (f))))] [(t, .inr (2, [.ref h, .int (nI T)])), (h, .inr (1, [.ref a])), (a, .inl (cJ, 12544, .inr (.inl (f))))] (nI (qv_wy f T b)) := by
  by_cases hz : b < 16
  · exact c_Tb_waysToZ l D cJ t T h a f b kT kb hz
  · exact c_Tb_waysToP l D cJ t T h a f b kT kb (by omega)
set_option maxHeartbeats 4000000 in
set_option maxRecDepth 100000 in
theorem c_Tb_setWaysZ (l : Launch) (D : va_G) (cJ : ClassId) (t : Nat) (T : Nat) (h : Nat) (a : Nat) (f : Nat → Int64) (b : Nat) (v : Nat) (kT : T < 1000) (kb : b < 65536) (kv : v < 65536) (kz : b < 16) : qMv l y_Tb_setWays b_Tb_setWays 4 none (rmL 2) D [(cJ, .long)] [.ref t, .int (nI b), .int (nI v)] [(t, .inr (2, [.ref h, .int (nI T)])), (h, .inr (1, [.ref a])), (a, .inl (cJ, 12544, .inr (.inl (f))))] [(t, .inr (2, [.ref h, .int (nI T)])), (h, .inr (1, [.ref a])), (a, .inl (cJ, 12544, .inr (.inl (qv_setY f T b v))))] := by
  refine q_start (Qc := qZv D _ _) (by decide +kernel) (Nat.le_of_ble_eq_true rfl) ?_
  intro p e s m below meth c A hx hb hr hlk hml hown hts hK hP hD hS hA hN ls hl
  have hl : lv_has ls 4 [(0, .ref t), (1, .int (nI b)), (2, .int (nI v))] := hl
  have hP : va_P D cls [(t, .inr (2, [.ref h, .int (nI T)])), (h, .inr (1, [.ref a])), (a, .inl (cJ, 12544, .inr (.inl (f))))] s.heap := hP
  have hD : va_D A [(t, .inr (2, [.ref h, .int (nI T)])), (h, .inr (1, [.ref a])), (a, .inl (cJ, 12544, .inr (.inl (f))))] := hD
  refine lv_iload_n hx hb d_Tb_setWays_0 rfl (lv_at hl 1 rfl) ?_
  refine lv_bipush (v := nI 16) hx hb d_Tb_setWays_1 (by decide) ?_
  refine lv_isub hx hb d_Tb_setWays_3 ?_
  refine lv_istore_n (lv' := [(3, .int ((nI b) - (nI 16))), (0, .ref t), (1, .int (nI b)), (2, .int (nI v))]) hx hb d_Tb_setWays_4 rfl hl (by decide) rfl (fun ls hl => ?_)
  refine lv_iload_n hx hb d_Tb_setWays_5 rfl (lv_at hl 0 rfl) ?_
  refine lv_if_lt (tgt := 41) hx hb d_Tb_setWays_6 (by decide) (fun c6 => ?_) (fun c6 => ?_)
  · exact q_vret hx hb hr hlk hK hP hD hS d_Tb_setWays_41 (by unfold qv_setY; rw [if_neg (fun q => by have := q.1; omega)])
  · exact absurd (pk_sneg (by omega) (by omega)) c6
set_option maxHeartbeats 4000000 in
set_option maxRecDepth 100000 in
theorem c_Tb_setWaysP (l : Launch) (D : va_G) (cJ : ClassId) (t : Nat) (T : Nat) (h : Nat) (a : Nat) (f : Nat → Int64) (b : Nat) (v : Nat) (kT : T < 1000) (kb : b < 65536) (kv : v < 65536) (kz : 16 ≤ b) : qMv l y_Tb_setWays b_Tb_setWays 4 none (rmL 2) D [(cJ, .long)] [.ref t, .int (nI b), .int (nI v)] [(t, .inr (2, [.ref h, .int (nI T)])), (h, .inr (1, [.ref a])), (a, .inl (cJ, 12544, .inr (.inl (f))))] [(t, .inr (2, [.ref h, .int (nI T)])), (h, .inr (1, [.ref a])), (a, .inl (cJ, 12544, .inr (.inl (qv_setY f T b v))))] := by
  refine q_start (Qc := qZv D _ _) (by decide +kernel) (Nat.le_of_ble_eq_true rfl) ?_
  intro p e s m below meth c A hx hb hr hlk hml hown hts hK hP hD hS hA hN ls hl
  have hl : lv_has ls 4 [(0, .ref t), (1, .int (nI b)), (2, .int (nI v))] := hl
  have hP : va_P D cls [(t, .inr (2, [.ref h, .int (nI T)])), (h, .inr (1, [.ref a])), (a, .inl (cJ, 12544, .inr (.inl (f))))] s.heap := hP
  have hD : va_D A [(t, .inr (2, [.ref h, .int (nI T)])), (h, .inr (1, [.ref a])), (a, .inl (cJ, 12544, .inr (.inl (f))))] := hD
  refine lv_iload_n hx hb d_Tb_setWays_0 rfl (lv_at hl 1 rfl) ?_
  refine lv_bipush (v := nI 16) hx hb d_Tb_setWays_1 (by decide) ?_
  refine lv_isub hx hb d_Tb_setWays_3 ?_
  refine q_ti (y := nI (b - 16)) (pk_sub (by omega)) ?_
  refine lv_istore_n (lv' := [(3, .int (nI (b - 16))), (0, .ref t), (1, .int (nI b)), (2, .int (nI v))]) hx hb d_Tb_setWays_4 rfl hl (by decide) rfl (fun ls hl => ?_)
  refine lv_iload_n hx hb d_Tb_setWays_5 rfl (lv_at hl 0 rfl) ?_
  refine lv_if_lt (tgt := 41) hx hb d_Tb_setWays_6 (by decide) (fun c6 => ?_) (fun c6 => ?_)
  · exact absurd c6 (nI_pos (by omega))
  · refine lv_iload_n hx hb d_Tb_setWays_9 rfl (lv_at hl 0 rfl) ?_
    refine lv_sipush (v := nI 768) hx hb d_Tb_setWays_10 (by decide) ?_
    refine lv_icmp_ge (tgt := 41) hx hb d_Tb_setWays_13 (by decide) (fun c13 => ?_) (fun c13 => ?_)
    · have c13 : 768 ≤ (b - 16) := (nI_leI (by omega) (by omega)).mp c13
      exact q_vret hx hb hr hlk hK hP hD hS d_Tb_setWays_41 (by unfold qv_setY; rw [if_neg (fun q => by have := q.2; omega)])
    · have c13 : ¬ 768 ≤ (b - 16) := fun h9 => c13 ((nI_leI (by omega) (by omega)).mpr h9)
      refine lv_aload_n hx hb d_Tb_setWays_16 rfl (lv_at hl 1 rfl) ?_
      refine va_get (D := D) (ci := 2) (v := .ref h) (C := R_Tb) (T := F_Tb) (N := 2) hx hb hts i_Tb hown hK hP 0 rfl rfl 0 (by decide) (hts _ fl_Tb_9) (fun _ h9 => h9) rfl d_Tb_setWays_17 ?_
      refine lv_aload_n hx hb d_Tb_setWays_20 rfl (lv_at hl 1 rfl) ?_
      refine va_get (D := D) (ci := 2) (v := .int (nI T)) (C := R_Tb) (T := F_Tb) (N := 2) hx hb hts i_Tb hown hK hP 0 rfl rfl 1 (by decide) (hts _ fl_Tb_19) (fun _ h9 => h9) rfl d_Tb_setWays_21 ?_
      refine lv_iconst (v := nI 1) hx hb d_Tb_setWays_24 (by decide) ?_
      refine lv_iadd hx hb d_Tb_setWays_25 ?_
      refine q_ti (y := nI (T + 1)) (nI_add _ _) ?_
      refine lv_iload_n hx hb d_Tb_setWays_26 rfl (lv_at hl 0 rfl) ?_
      refine lv_sipush (v := nI 128) hx hb d_Tb_setWays_27 (by decide) ?_
      refine lv_idiv hx hb d_Tb_setWays_30 (by decide) ?_
      refine q_ti (y := nI ((b - 16) / 128)) (pk_div (by omega) (by decide) (by decide)) ?_
      refine lv_iadd hx hb d_Tb_setWays_31 ?_
      refine q_ti (y := nI (T + 1 + ((b - 16) / 128))) (nI_add _ _) ?_
      refine lv_iload_n hx hb d_Tb_setWays_32 rfl (lv_at hl 0 rfl) ?_
      refine lv_sipush (v := nI 128) hx hb d_Tb_setWays_33 (by decide) ?_
      refine lv_irem hx hb d_Tb_setWays_36 (by decide) ?_
      refine q_ti (y := nI ((b - 16) % 128)) (pk_rem (by omega) (by decide) (by decide)) ?_
      refine lv_iload_n hx hb d_Tb_setWays_37 rfl (lv_at hl 3 rfl) ?_
      refine q_callVv (As := [.int (nI (T + 1 + ((b - 16) / 128))), .int (nI ((b - 16) % 128)), .int (nI v)]) (rest := []) (wsC := [(h, .inr (1, [.ref a])), (a, .inl (cJ, 12544, .inr (.inl (f))))]) (wsR := [(t, .inr (2, [.ref h, .int (nI T)]))]) (wsC' := [(h, .inr (1, [.ref a])), (a, .inl (cJ, 12544, .inr (.inl (qv_setB f (T + 1 + ((b - 16) / 128)) ((b - 16) % 128) v))))]) (wsN := [(t, .inr (2, [.ref h, .int (nI T)])), (h, .inr (1, [.ref a])), (a, .inl (cJ, 12544, .inr (.inl (qv_setB f (T + 1 + ((b - 16) / 128)) ((b - 16) % 128) v))))]) (isT := [0]) (isC := [1, 2]) (isR := [0]) (isN := [0, 1, 2]) (k := 3) (ci := 1) (C := R_Im) ⟨hx, hb, hml, hown, hts⟩ (c_Im_setByte l D cJ h a f (T + 1 + ((b - 16) / 128)) ((b - 16) % 128) v (by omega) (by omega) (by omega)) (tw_V ml_Tb_36 im_Im_setByte se_Im_setByte in_Im cd_Im_setByte) rfl ⟨by decide +kernel, Nat.le_of_ble_eq_true rfl, Nat.le_of_ble_eq_true rfl⟩ ⟨Nat.le_of_ble_eq_true rfl, Nat.le_of_ble_eq_true rfl⟩ hK hP hD hS hA hN rfl ⟨rfl, rfl, rfl, by decide, by decide, by decide, by decide⟩ rfl rfl rfl hl.1 rfl rfl (Nat.le_of_ble_eq_true rfl) d_Tb_setWays_38 (fun H locs hP hD hS => ?_)
      exact q_vret hx hb hr hlk hK hP hD hS d_Tb_setWays_41 (by unfold qv_setY; rw [if_pos ⟨by omega, by omega⟩])
theorem c_Tb_setWays (l : Launch) (D : va_G) (cJ : ClassId) (t : Nat) (T : Nat) (h : Nat) (a : Nat) (f : Nat → Int64) (b : Nat) (v : Nat) (kT : T < 1000) (kb : b < 65536) (kv : v < 65536) : qMv l y_Tb_setWays b_Tb_setWays 4 none (rmL 2) D [(cJ, .long)] [.ref t, .int (nI b), .int (nI v)] [(t, .inr (2, [.ref h, .int (nI T)])), (h, .inr (1, [.ref a])), (a, .inl (cJ, 12544, .inr (.inl (f))))] [(t, .inr (2, [.ref h, .int (nI T)])), (h, .inr (1, [.ref a])), (a, .inl (cJ, 12544, .inr (.inl (qv_setY f T b v))))] := by
  by_cases hz : b < 16
  · exact c_Tb_setWaysZ l D cJ t T h a f b v kT kb kv hz
  · exact c_Tb_setWaysP l D cJ t T h a f b v kT kb kv (by omega)
set_option maxHeartbeats 4000000 in
set_option maxRecDepth 100000 in
theorem c_Tb_becomeLike (l : Launch) (D : va_G) (cJ : ClassId) (t : Nat) (T : Nat) (t2 : Nat) (M : Nat) (h : Nat) (a : Nat) (f : Nat → Int64) (kT : T < 1000) (kM : M < 1000) : qMv l y_Tb_becomeLike b_Tb_becomeLike 3 none (rmL 3) D [(cJ, .long)] [.ref t, .ref t2] [(t, .inr (2, [.ref h, .int (nI T)])), (t2, .inr (2, [.ref h, .int (nI M)])), (h, .inr (1, [.ref a])), (a, .inl (cJ, 12544, .inr (.inl (f))))] [(t, .inr (2, [.ref h, .int (nI T)])), (t2, .inr (2, [.ref h, .int (nI M)])), (h, .inr (1, [.ref a])), (a, .inl (cJ, 12544, .inr (.inl (qv_like f T M))))] := by
  refine q_start (Qc := qZv D _ _) (by decide +kernel) (Nat.le_of_ble_eq_true rfl) ?_
  intro p e s m below meth c A hx hb hr hlk hml hown hts hK hP hD hS hA hN ls hl
  have hl : lv_has ls 3 [(0, .ref t), (1, .ref t2)] := hl
  have hP : va_P D cls [(t, .inr (2, [.ref h, .int (nI T)])), (t2, .inr (2, [.ref h, .int (nI M)])), (h, .inr (1, [.ref a])), (a, .inl (cJ, 12544, .inr (.inl (f))))] s.heap := hP
  have hD : va_D A [(t, .inr (2, [.ref h, .int (nI T)])), (t2, .inr (2, [.ref h, .int (nI M)])), (h, .inr (1, [.ref a])), (a, .inl (cJ, 12544, .inr (.inl (f))))] := hD
  refine lv_iconst (v := nI 0) hx hb d_Tb_becomeLike_0 (by decide) ?_
  refine lv_istore_n (lv' := [(2, .int (nI 0)), (0, .ref t), (1, .ref t2)]) hx hb d_Tb_becomeLike_1 rfl hl (by decide) rfl (fun ls hl => ?_)
  refine q_loop (pc := 2) (σ := Unit) (I := fun i x H locs ls => va_P D cls [(t, .inr (2, [.ref h, .int (nI T)])), (t2, .inr (2, [.ref h, .int (nI M)])), (h, .inr (1, [.ref a])), (a, .inl (cJ, 12544, .inr (.inl (qv_for i (fun g i => qv_dup g (M + i) (T + i)) f))))] H ∧ va_D A [(t, .inr (2, [.ref h, .int (nI T)])), (t2, .inr (2, [.ref h, .int (nI M)])), (h, .inr (1, [.ref a])), (a, .inl (cJ, 12544, .inr (.inl (qv_for i (fun g i => qv_dup g (M + i) (T + i)) f))))] ∧ va_S A s.heap H locs ∧ lv_has ls 3 [(0, .ref t), (1, .ref t2), (2, .int (nI i))]) (7) ?_ ?_ (0) (()) _ _ _ (by omega) ⟨hP, hD, hS, lv_sub hl [1, 2, 0] rfl⟩
  · intro x H locs ls hI
    obtain ⟨hP, hD, hS, hl⟩ := hI
    refine lv_iload_n hx hb d_Tb_becomeLike_2 rfl (lv_at hl 2 rfl) ?_
    refine lv_bipush (v := nI 7) hx hb d_Tb_becomeLike_3 (by decide) ?_
    refine lv_icmp_ge (tgt := 33) hx hb d_Tb_becomeLike_5 (by decide) (fun c5 => ?_) (fun c5 => ?_)
    · have c5 : 7 ≤ 7 := (nI_leI (by omega) (by omega)).mp c5
      exact q_vret hx hb hr hlk hK hP hD hS d_Tb_becomeLike_33 (rfl)
    · have c5 : ¬ 7 ≤ 7 := fun h9 => c5 ((nI_leI (by omega) (by omega)).mpr h9)
      exfalso; omega
  · intro i x H locs ls hi hI ih
    obtain ⟨hP, hD, hS, hl⟩ := hI
    refine lv_iload_n hx hb d_Tb_becomeLike_2 rfl (lv_at hl 2 rfl) ?_
    refine lv_bipush (v := nI 7) hx hb d_Tb_becomeLike_3 (by decide) ?_
    refine lv_icmp_ge (tgt := 33) hx hb d_Tb_becomeLike_5 (by decide) (fun c5 => ?_) (fun c5 => ?_)
    · have c5 : 7 ≤ i := (nI_leI (by omega) (by omega)).mp c5
      exfalso; omega
    · have c5 : ¬ 7 ≤ i := fun h9 => c5 ((nI_leI (by omega) (by omega)).mpr h9)
      refine lv_aload_n hx hb d_Tb_becomeLike_8 rfl (lv_at hl 0 rfl) ?_
      refine va_get (D := D) (ci := 2) (v := .ref h) (C := R_Tb) (T := F_Tb) (N := 2) hx hb hts i_Tb hown hK hP 0 rfl rfl 0 (by decide) (hts _ fl_Tb_9) (fun _ h9 => h9) rfl d_Tb_becomeLike_9 ?_
      refine lv_aload_n hx hb d_Tb_becomeLike_12 rfl (lv_at hl 1 rfl) ?_
      refine va_get (D := D) (ci := 2) (v := .int (nI M)) (C := R_Tb) (T := F_Tb) (N := 2) hx hb hts i_Tb hown hK hP 1 rfl rfl 1 (by decide) (hts _ fl_Tb_19) (fun _ h9 => h9) rfl d_Tb_becomeLike_13 ?_
      refine lv_iload_n hx hb d_Tb_becomeLike_16 rfl (lv_at hl 2 rfl) ?_
      refine lv_iadd hx hb d_Tb_becomeLike_17 ?_
      refine q_ti (y := nI (M + i)) (nI_add _ _) ?_
      refine lv_aload_n hx hb d_Tb_becomeLike_18 rfl (lv_at hl 0 rfl) ?_
      refine va_get (D := D) (ci := 2) (v := .int (nI T)) (C := R_Tb) (T := F_Tb) (N := 2) hx hb hts i_Tb hown hK hP 0 rfl rfl 1 (by decide) (hts _ fl_Tb_19) (fun _ h9 => h9) rfl d_Tb_becomeLike_19 ?_
      refine lv_iload_n hx hb d_Tb_becomeLike_22 rfl (lv_at hl 2 rfl) ?_
      refine lv_iadd hx hb d_Tb_becomeLike_23 ?_
      refine q_ti (y := nI (T + i)) (nI_add _ _) ?_
      refine q_callVv (As := [.int (nI (M + i)), .int (nI (T + i))]) (rest := []) (wsC := [(h, .inr (1, [.ref a])), (a, .inl (cJ, 12544, .inr (.inl (qv_for i (fun g i => qv_dup g (M + i) (T + i)) f))))]) (wsR := [(t, .inr (2, [.ref h, .int (nI T)])), (t2, .inr (2, [.ref h, .int (nI M)]))]) (wsC' := [(h, .inr (1, [.ref a])), (a, .inl (cJ, 12544, .inr (.inl (qv_dup (qv_for i (fun g i => qv_dup g (M + i) (T + i)) f) (M + i) (T + i)))))]) (wsN := [(t, .inr (2, [.ref h, .int (nI T)])), (t2, .inr (2, [.ref h, .int (nI M)])), (h, .inr (1, [.ref a])), (a, .inl (cJ, 12544, .inr (.inl (qv_dup (qv_for i (fun g i => qv_dup g (M + i) (T + i)) f) (M + i) (T + i)))))]) (isT := [0]) (isC := [2, 3]) (isR := [0, 1]) (isN := [0, 1, 2, 3]) (k := 2) (ci := 1) (C := R_Im) ⟨hx, hb, hml, hown, hts⟩ (c_Im_duplicate l D cJ h a (qv_for i (fun g i => qv_dup g (M + i) (T + i)) f) (M + i) (T + i) (by omega) (by omega)) (tw_V ml_Tb_39 im_Im_duplicate se_Im_duplicate in_Im cd_Im_duplicate) rfl ⟨by decide +kernel, Nat.le_of_ble_eq_true rfl, Nat.le_of_ble_eq_true rfl⟩ ⟨Nat.le_of_ble_eq_true rfl, Nat.le_of_ble_eq_true rfl⟩ hK hP hD hS hA hN rfl ⟨rfl, rfl, rfl, by decide, by decide, by decide, by decide⟩ rfl rfl rfl hl.1 rfl rfl (Nat.le_of_ble_eq_true rfl) d_Tb_becomeLike_24 (fun H locs hP hD hS => ?_)
      refine lv_iinc (v := nI (i + 1)) (lv' := [(2, .int (nI (i + 1))), (0, .ref t), (1, .ref t2)]) hx hb d_Tb_becomeLike_27 hl (k := 2) rfl (nI_1 _) (by decide) rfl (fun ls hl => ?_)
      refine lv_goto (tgt := 2) hx hb d_Tb_becomeLike_30 (by decide) ?_
      exact ih (()) _ _ _ ⟨hP, hD, hS, lv_sub hl [1, 2, 0] rfl⟩
