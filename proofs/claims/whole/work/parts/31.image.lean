set_option maxHeartbeats 4000000 in
set_option maxRecDepth 100000 in
theorem c_Im_wordAt (l : Launch) (D : va_G) (cJ : ClassId) (h : Nat) (a : Nat) (f : Nat → Int64) (b : Nat) (i : Nat) (kb : b < 65536) (ki : i < 65536) : qMl l y_Im_wordAt b_Im_wordAt 4 (some .long) (rmL 1) D [(cJ, .long)] [.ref h, .int (nI b), .int (nI i)] [(h, .inr (1, [.ref a])), (a, .inl (cJ, 12544, .inr (.inl (f))))] [(h, .inr (1, [.ref a])), (a, .inl (cJ, 12544, .inr (.inl (f))))] (qv_word f b i) := by
  refine q_start (Qc := qZl D _ _ _) (by decide +kernel) (Nat.le_of_ble_eq_true rfl) ?_
  intro p e s m below meth c A hx hb hr hlk hml hown hts hK hP hD hS hA hN ls hl
  have hl : lv_has ls 4 [(0, .ref h), (1, .int (nI b)), (2, .int (nI i))] := hl
  have hP : va_P D cls [(h, .inr (1, [.ref a])), (a, .inl (cJ, 12544, .inr (.inl (f))))] s.heap := hP
  have hD : va_D A [(h, .inr (1, [.ref a])), (a, .inl (cJ, 12544, .inr (.inl (f))))] := hD
  refine lv_iload_n hx hb d_Im_wordAt_0 rfl (lv_at hl 1 rfl) ?_
  refine lv_bipush (v := nI 16) hx hb d_Im_wordAt_1 (by decide) ?_
  refine lv_imul hx hb d_Im_wordAt_3 ?_
  refine q_ti (y := nI (b * 16)) (pk_mul _ _) ?_
  refine lv_iload_n hx hb d_Im_wordAt_4 rfl (lv_at hl 2 rfl) ?_
  refine lv_iadd hx hb d_Im_wordAt_5 ?_
  refine q_ti (y := nI (b * 16 + i)) (nI_add _ _) ?_
  refine lv_istore_n (lv' := [(3, .int (nI (b * 16 + i))), (0, .ref h), (1, .int (nI b)), (2, .int (nI i))]) hx hb d_Im_wordAt_6 rfl hl (by decide) rfl (fun ls hl => ?_)
  refine lv_iload_n hx hb d_Im_wordAt_7 rfl (lv_at hl 0 rfl) ?_
  refine lv_if_lt (tgt := 29) hx hb d_Im_wordAt_8 (by decide) (fun c8 => ?_) (fun c8 => ?_)
  · exact absurd c8 (nI_pos (by omega))
  · refine lv_iload_n hx hb d_Im_wordAt_11 rfl (lv_at hl 0 rfl) ?_
    refine lv_aload_n hx hb d_Im_wordAt_12 rfl (lv_at hl 1 rfl) ?_
    refine va_get (D := D) (ci := 1) (v := .ref a) (C := R_Im) (T := F_Im) (N := 1) hx hb hts i_Im hown hK hP 0 rfl rfl 0 (by decide) (hts _ fl_Im_9) (fun _ h9 => h9) rfl d_Im_wordAt_13 ?_
    refine va_alen (v := nI 12544) hx hb hK hP 1 0 rfl rfl rfl d_Im_wordAt_16 ?_
    refine lv_icmp_ge (tgt := 29) hx hb d_Im_wordAt_17 (by decide) (fun c17 => ?_) (fun c17 => ?_)
    · have c17 : 12544 ≤ (b * 16 + i) := (nI_leI (by omega) (by omega)).mp c17
      refine lv_lconst (v := 0) hx hb d_Im_wordAt_29 (by decide) ?_
      exact q_lret hx hb hr hlk hK hP hD hS d_Im_wordAt_30 (by unfold qv_word qv_wd; first | rw [if_pos (by omega)] | rw [if_neg (by omega)]) (rfl)
    · have c17 : ¬ 12544 ≤ (b * 16 + i) := fun h9 => c17 ((nI_leI (by omega) (by omega)).mpr h9)
      refine lv_aload_n hx hb d_Im_wordAt_20 rfl (lv_at hl 1 rfl) ?_
      refine va_get (D := D) (ci := 1) (v := .ref a) (C := R_Im) (T := F_Im) (N := 1) hx hb hts i_Im hown hK hP 0 rfl rfl 0 (by decide) (hts _ fl_Im_9) (fun _ h9 => h9) rfl d_Im_wordAt_21 ?_
      refine lv_iload_n hx hb d_Im_wordAt_24 rfl (lv_at hl 0 rfl) ?_
      refine va_lald hx hb hK hP 1 0 rfl rfl (vp_in_nI (by omega) (by decide)) d_Im_wordAt_25 ?_
      refine q_tl (y := f (b * 16 + i)) (by rw [nI_clamp (by omega)]) ?_
      refine lv_goto (tgt := 30) hx hb d_Im_wordAt_26 (by decide) ?_
      exact q_lret hx hb hr hlk hK hP hD hS d_Im_wordAt_30 (by unfold qv_word qv_wd; first | rw [if_pos (by omega)] | rw [if_neg (by omega)]) (rfl)
set_option maxHeartbeats 4000000 in
set_option maxRecDepth 100000 in
theorem c_Im_setWord (l : Launch) (D : va_G) (cJ : ClassId) (h : Nat) (a : Nat) (f : Nat → Int64) (b : Nat) (i : Nat) (x : Int64) (kb : b < 65536) (ki : i < 65536) : qMv l y_Im_setWord b_Im_setWord 6 none (rmL 1) D [(cJ, .long)] [.ref h, .int (nI b), .int (nI i), .long (x)] [(h, .inr (1, [.ref a])), (a, .inl (cJ, 12544, .inr (.inl (f))))] [(h, .inr (1, [.ref a])), (a, .inl (cJ, 12544, .inr (.inl (qv_setW f b i x))))] := by
  refine q_start (Qc := qZv D _ _) (by decide +kernel) (Nat.le_of_ble_eq_true rfl) ?_
  intro p e s m below meth c A hx hb hr hlk hml hown hts hK hP hD hS hA hN ls hl
  have hl : lv_has ls 6 [(0, .ref h), (1, .int (nI b)), (2, .int (nI i)), (3, .long (x))] := hl
  have hP : va_P D cls [(h, .inr (1, [.ref a])), (a, .inl (cJ, 12544, .inr (.inl (f))))] s.heap := hP
  have hD : va_D A [(h, .inr (1, [.ref a])), (a, .inl (cJ, 12544, .inr (.inl (f))))] := hD
  refine lv_iload_n hx hb d_Im_setWord_0 rfl (lv_at hl 1 rfl) ?_
  refine lv_bipush (v := nI 16) hx hb d_Im_setWord_1 (by decide) ?_
  refine lv_imul hx hb d_Im_setWord_3 ?_
  refine q_ti (y := nI (b * 16)) (pk_mul _ _) ?_
  refine lv_iload_n hx hb d_Im_setWord_4 rfl (lv_at hl 2 rfl) ?_
  refine lv_iadd hx hb d_Im_setWord_5 ?_
  refine q_ti (y := nI (b * 16 + i)) (nI_add _ _) ?_
  refine lv_istore (lv' := [(5, .int (nI (b * 16 + i))), (0, .ref h), (1, .int (nI b)), (2, .int (nI i)), (3, .long (x))]) hx hb d_Im_setWord_6 hl (by decide) rfl (fun ls hl => ?_)
  refine lv_iload hx hb d_Im_setWord_8 (lv_at hl 0 rfl) ?_
  refine lv_if_lt (tgt := 31) hx hb d_Im_setWord_10 (by decide) (fun c10 => ?_) (fun c10 => ?_)
  · exact absurd c10 (nI_pos (by omega))
  · refine lv_iload hx hb d_Im_setWord_13 (lv_at hl 0 rfl) ?_
    refine lv_aload_n hx hb d_Im_setWord_15 rfl (lv_at hl 1 rfl) ?_
    refine va_get (D := D) (ci := 1) (v := .ref a) (C := R_Im) (T := F_Im) (N := 1) hx hb hts i_Im hown hK hP 0 rfl rfl 0 (by decide) (hts _ fl_Im_9) (fun _ h9 => h9) rfl d_Im_setWord_16 ?_
    refine va_alen (v := nI 12544) hx hb hK hP 1 0 rfl rfl rfl d_Im_setWord_19 ?_
    refine lv_icmp_ge (tgt := 31) hx hb d_Im_setWord_20 (by decide) (fun c20 => ?_) (fun c20 => ?_)
    · have c20 : 12544 ≤ (b * 16 + i) := (nI_leI (by omega) (by omega)).mp c20
      exact q_vret hx hb hr hlk hK hP hD hS d_Im_setWord_31 (by unfold qv_setW qv_up; first | rw [if_pos (by omega)] | rw [if_neg (by omega)])
    · have c20 : ¬ 12544 ≤ (b * 16 + i) := fun h9 => c20 ((nI_leI (by omega) (by omega)).mpr h9)
      refine lv_aload_n hx hb d_Im_setWord_23 rfl (lv_at hl 1 rfl) ?_
      refine va_get (D := D) (ci := 1) (v := .ref a) (C := R_Im) (T := F_Im) (N := 1) hx hb hts i_Im hown hK hP 0 rfl rfl 0 (by decide) (hts _ fl_Im_9) (fun _ h9 => h9) rfl d_Im_setWord_24 ?_
      refine lv_iload hx hb d_Im_setWord_27 (lv_at hl 0 rfl) ?_
      refine lv_lload_n hx hb d_Im_setWord_29 rfl (lv_at hl 4 rfl) ?_
      refine va_last hx hb hK hP hD hS 1 0 rfl rfl (vp_in_nI (by omega) (by decide)) d_Im_setWord_30 (fun H locs hP hD hS => ?_)
      rw [nI_clamp (by omega)] at hP hD
      have hP : va_P D cls [(h, .inr (1, [.ref a])), (a, .inl (cJ, 12544, .inr (.inl (vp_updL f (b * 16 + i) (x)))))] H := hP
      have hD : va_D A [(h, .inr (1, [.ref a])), (a, .inl (cJ, 12544, .inr (.inl (vp_updL f (b * 16 + i) (x)))))] := hD
      exact q_vret hx hb hr hlk hK hP hD hS d_Im_setWord_31 (by unfold qv_setW qv_up; first | rw [if_pos (by omega)] | rw [if_neg (by omega)])
