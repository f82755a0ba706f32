/-! the words of Image: what the shifts and masks of setByte and setLink make -/
theorem qb_set8 (x : Int64) {p v : Nat} (hp : p + 8 ≤ 64) (hv : v < 65536) : (x &&& ((255 <<< ((nI p).toInt64 &&& 63)) ^^^ (-1))) ||| (((nI v).toInt64 &&& 255) <<< ((nI p).toInt64 &&& 63)) = lN (qb_put (qb_n x) p 8 (v % 2 ^ 8)) := by
  rw [← qb_set x (p := p) (s := 8) (a := v % 2 ^ 8) hp (by omega) (Nat.mod_lt _ (by decide)) (by decide), nI_l (n := v) (by omega), show (255 : Int64) = lN (2 ^ 8 - 1) by decide, wb_mask (by omega) (by decide)]
theorem qb_set16 (x : Int64) {p v : Nat} (hp : p + 16 ≤ 64) (hv : v < 65536) : (x &&& ((65535 <<< ((nI p).toInt64 &&& 63)) ^^^ (-1))) ||| (((nI v).toInt64 &&& 65535) <<< ((nI p).toInt64 &&& 63)) = lN (qb_put (qb_n x) p 16 (v % 2 ^ 16)) := by
  rw [← qb_set x (p := p) (s := 16) (a := v % 2 ^ 16) hp (by omega) (Nat.mod_lt _ (by decide)) (by decide), nI_l (n := v) (by omega), show (65535 : Int64) = lN (2 ^ 16 - 1) by decide, wb_mask (by omega) (by decide)]
def qv_fill (f : Nat → Int64) (x : Int64) : Nat → Int64 := qv_for 12544 (fun g i => vp_updL g i x) f
def qv_fillI (f : Nat → Int32) (x : Int32) : Nat → Int32 := qv_for 768 (fun g i => upd g i x) f
def qv_copy (g f : Nat → Int64) : Nat → Int64 := va_cpy g f 0 0 12544
def qv_lo (k : Nat) : Nat := if k = 1 ∨ k = 2 then 0 else 8
def qv_hi (k : Nat) : Nat := if k = 1 ∨ k = 3 then 16 else 8
def qv_recvP (f g : Nat → Int64) (b k : Nat) : Nat → Int64 := qv_recv f g b (qv_lo k) (qv_hi k)
set_option maxHeartbeats 4000000 in
set_option maxRecDepth 100000 in
theorem c_Im_wordAt (l : Launch) (D : va_G) (cJ : ClassId) (h : Nat) (a : Nat) (f : Nat → Int64) (b : Nat) (i : Nat) (kb : b < 65536) (ki : i < 65536) : qMl l y_Im_wordAt b_Im_wordAt 4 (some .long) (rmL 1) D [(cJ, .long)] [.ref h, .int (nI b), .int (nI i)] [(h, .inr (1, [.ref a])), (a, .inl (cJ, 12544, .inr (.inl (f))))] [(h, .inr (1, [.ref a])), (a, .inl (cJ, 12544, .inr (.inl (f))))] (qv_word f b i) := by
  refine q_start (Qc := qZl D _ _ _) (by decide +kernel) (Nat.le_of_ble_eq_true rfl) ?_
  intro p e s m below meth c A hx hb hr hlk hml hown hts hK hP hD hS hA hN ls hl
  have hl : lv_has ls 4 [(0, .ref h), (1, .int (nI b)), (2, .int (nI i))] := hl
  have hP : va_P D cls [(h, .inr (1, [.ref a])), (a, .inl (cJ, 12544, .inr (.inl (f))))] s.heap := hP
  have hD : va_D A [(h, .inr (1, [.ref a])), (a, .inl (cJ, 12544, .inr (.inl (f))))] := hD
  refine lv_iload_n hx hb d_Im_wordAt_0 rfl (lv_at hl 1 rfl) ?_
  refine lv_bipush (v := nI 16) hx hb d_Im_wordAt_1 (by decide) ?_
  refine lv_imul hx hb d_Im_wordAt_3 ?_
  refine q_ti (y := nI (b * 16)) (pk_mul _ _) ?_
  refine lv_iload_n hx hb d_Im_wordAt_4 rfl (lv_at hl 2 rfl) ?_
  refine lv_iadd hx hb d_Im_wordAt_5 ?_
  refine q_ti (y := nI (b * 16 + i)) (nI_add _ _) ?_
  refine lv_istore_n (lv' := [(3, .int (nI (b * 16 + i))), (0, .ref h), (1, .int (nI b)), (2, .int (nI i))]) hx hb d_Im_wordAt_6 rfl hl (by decide) rfl (fun ls hl => ?_)
  refine lv_iload_n hx hb d_Im_wordAt_7 rfl (lv_at hl 0 rfl) ?_
  refine lv_if_lt (tgt := 29) hx hb d_Im_wordAt_8 (by decide) (fun c8 => ?_) (fun c8 => ?_)
  · exact absurd c8 (nI_pos (by omega))
  · refine lv_iload_n hx hb d_Im_wordAt_11 rfl (lv_at hl 0 rfl) ?_
    refine lv_aload_n hx hb d_Im_wordAt_12 rfl (lv_at hl 1 rfl) ?_
    refine va_get (D := D) (ci := 1) (v := .ref a) (C := R_Im) (T := F_Im) (N := 1) hx hb hts i_Im hown hK hP 0 rfl rfl 0 (by decide) (hts _ fl_Im_9) (fun _ h9 => h9) rfl d_Im_wordAt_13 ?_
    refine va_alen (v := nI 12544) hx hb hK hP 1 0 rfl rfl rfl d_Im_wordAt_16 ?_
    refine lv_icmp_ge (tgt := 29) hx hb d_Im_wordAt_17 (by decide) (fun c17 => ?_) (fun c17 => ?_)
    · have c17 : 12544 ≤ (b * 16 + i) := (nI_leI (by omega) (by omega)).mp c17
      refine lv_lconst (v := 0) hx hb d_Im_wordAt_29 (by decide) ?_
      exact q_lret hx hb hr hlk hK hP hD hS d_Im_wordAt_30 (by unfold qv_word qv_wd; first | rw [if_pos (by omega)] | rw [if_neg (by omega)]) (rfl)
    · have c17 : ¬ 12544 ≤ (b * 16 + i) := fun h9 => c17 ((nI_leI (by omega) (by omega)).mpr h9)
      refine lv_aload_n hx hb d_Im_wordAt_20 rfl (lv_at hl 1 rfl) ?_
      refine va_get (D := D) (ci := 1) (v := .ref a) (C := R_Im) (T := F_Im) (N := 1) hx hb hts i_Im hown hK hP 0 rfl rfl 0 (by decide) (hts _ fl_Im_9) (fun _ h9 => h9) rfl d_Im_wordAt_21 ?_
      refine lv_iload_n hx hb d_Im_wordAt_24 rfl (lv_at hl 0 rfl) ?_
      refine va_lald hx hb hK hP 1 0 rfl rfl (vp_in_nI (by omega) (by decide)) d_Im_wordAt_25 ?_
      refine q_tl (y := f (b * 16 + i)) (by rw [nI_clamp (by omega)]) ?_
      refine lv_goto (tgt := 30) hx hb d_Im_wordAt_26 (by decide) ?_
      exact q_lret hx hb hr hlk hK hP hD hS d_Im_wordAt_30 (by unfold qv_word qv_wd; first | rw [if_pos (by omega)] | rw [if_neg (by omega)]) (rfl)
set_option maxHeartbeats 4000000 in
set_option maxRecDepth 100000 in
theorem c_Im_setWord (l : Launch) (D : va_G) (cJ : ClassId) (h : Nat) (a : Nat) (f : Nat → Int64) (b : Nat) (i : Nat) (x : Int64) (kb : b < 65536) (ki : i < 65536) : qMv l y_Im_setWord b_Im_setWord 6 none (rmL 1) D [(cJ, .long)] [.ref h, .int (nI b), .int (nI i), .long (x)] [(h, .inr (1, [.ref a])), (a, .inl (cJ, 12544, .inr (.inl (f))))] [(h, .inr (1, [.ref a])), (a, .inl (cJ, 12544, .inr (.inl (qv_setW f b i x))))] := by
  refine q_start (Qc := qZv D _ _) (by decide +kernel) (Nat.le_of_ble_eq_true rfl) ?_
  intro p e s m below meth c A hx hb hr hlk hml hown hts hK hP hD hS hA hN ls hl
  have hl : lv_has ls 6 [(0, .ref h), (1, .int (nI b)), (2, .int (nI i)), (3, .long (x))] := hl
  have hP : va_P D cls [(h, .inr (1, [.ref a])), (a, .inl (cJ, 12544, .inr (.inl (f))))] s.heap := hP
  have hD : va_D A [(h, .inr (1, [.ref a])), (a, .inl (cJ, 12544, .inr (.inl (f))))] := hD
  refine lv_iload_n hx hb d_Im_setWord_0 rfl (lv_at hl 1 rfl) ?_
  refine lv_bipush (v := nI 16) hx hb d_Im_setWord_1 (by decide) ?_
  refine lv_imul hx hb d_Im_setWord_3 ?_
  refine q_ti (y := nI (b * 16)) (pk_mul _ _) ?_
  refine lv_iload_n hx hb d_Im_setWord_4 rfl (lv_at hl 2 rfl) ?_
  refine lv_iadd hx hb d_Im_setWord_5 ?_
  refine q_ti (y := nI (b * 16 + i)) (nI_add _ _) ?_
  refine lv_istore (lv' := [(5, .int (nI (b * 16 + i))), (0, .ref h), (1, .int (nI b)), (2, .int (nI i)), (3, .long (x))]) hx hb d_Im_setWord_6 hl (by decide) rfl (fun ls hl => ?_)
  refine lv_iload hx hb d_Im_setWord_8 (lv_at hl 0 rfl) ?_
  refine lv_if_lt (tgt := 31) hx hb d_Im_setWord_10 (by decide) (fun c10 => ?_) (fun c10 => ?_)
  · exact absurd c10 (nI_pos (by omega))
  · refine lv_iload hx hb d_Im_setWord_13 (lv_at hl 0 rfl) ?_
    refine lv_aload_n hx hb d_Im_setWord_15 rfl (lv_at hl 1 rfl) ?_
    refine va_get (D := D) (ci := 1) (v := .ref a) (C := R_Im) (T := F_Im) (N := 1) hx hb hts i_Im hown hK hP 0 rfl rfl 0 (by decide) (hts _ fl_Im_9) (fun _ h9 => h9) rfl d_Im_setWord_16 ?_
    refine va_alen (v := nI 12544) hx hb hK hP 1 0 rfl rfl rfl d_Im_setWord_19 ?_
    refine lv_icmp_ge (tgt := 31) hx hb d_Im_setWord_20 (by decide) (fun c20 => ?_) (fun c20 => ?_)
    · have c20 : 12544 ≤ (b * 16 + i) := (nI_leI (by omega) (by omega)).mp c20
      exact q_vret hx hb hr hlk hK hP hD hS d_Im_setWord_31 (by unfold qv_setW qv_up; first | rw [if_pos (by omega)] | rw [if_neg (by omega)])
    · have c20 : ¬ 12544 ≤ (b * 16 + i) := fun h9 => c20 ((nI_leI (by omega) (by omega)).mpr h9)
      refine lv_aload_n hx hb d_Im_setWord_23 rfl (lv_at hl 1 rfl) ?_
      refine va_get (D := D) (ci := 1) (v := .ref a) (C := R_Im) (T := F_Im) (N := 1) hx hb hts i_Im hown hK hP 0 rfl rfl 0 (by decide) (hts _ fl_Im_9) (fun _ h9 => h9) rfl d_Im_setWord_24 ?_
      refine lv_iload hx hb d_Im_setWord_27 (lv_at hl 0 rfl) ?_
      refine lv_lload_n hx hb d_Im_setWord_29 rfl (lv_at hl 4 rfl) ?_
      refine va_last hx hb hK hP hD hS 1 0 rfl rfl (vp_in_nI (by omega) (by decide)) d_Im_setWord_30 (fun H locs hP hD hS => ?_)
      rw [nI_clamp (by omega)] at hP hD
      have hP : va_P D cls [(h, .inr (1, [.ref a])), (a, .inl (cJ, 12544, .inr (.inl (vp_updL f (b * 16 + i) (x)))))] H := hP
      have hD : va_D A [(h, .inr (1, [.ref a])), (a, .inl (cJ, 12544, .inr (.inl (vp_updL f (b * 16 + i) (x)))))] := hD
      exact q_vret hx hb hr hlk hK hP hD hS d_Im_setWord_31 (by unfold qv_setW qv_up; first | rw [if_pos (by omega)] | rw [if_neg (by omega)])
set_option maxHeartbeats 4000000 in
set_option maxRecDepth 100000 in
theorem c_Im_byteAt (l : Launch) (D : va_G) (cJ : ClassId) (h : Nat) (a : Nat) (f : Nat → Int64) (b : Nat) (i : Nat) (kb : b < 65536) (ki : i < 65536) : qMi l y_Im_byteAt b_Im_byteAt 4 (some .int) (rmL 1) D [(cJ, .long)] [.ref h, .int (nI b), .int (nI i)] [(h, .inr (1, [.ref a])), (a, .inl (cJ, 12544, .inr (.inl (f))))] [(h, .inr (1, [.ref a])), (a, .inl (cJ, 12544, .inr (.inl (f))))] (nI (qv_by f b i)) := by
  refine q_start (Qc := qZi D _ _ _) (by decide +kernel) (Nat.le_of_ble_eq_true rfl) ?_
  intro p e s m below meth c A hx hb hr hlk hml hown hts hK hP hD hS hA hN ls hl
  have hl : lv_has ls 4 [(0, .ref h), (1, .int (nI b)), (2, .int (nI i))] := hl
  have hP : va_P D cls [(h, .inr (1, [.ref a])), (a, .inl (cJ, 12544, .inr (.inl (f))))] s.heap := hP
  have hD : va_D A [(h, .inr (1, [.ref a])), (a, .inl (cJ, 12544, .inr (.inl (f))))] := hD
  refine lv_iload_n hx hb d_Im_byteAt_0 rfl (lv_at hl 1 rfl) ?_
  refine lv_bipush (v := nI 16) hx hb d_Im_byteAt_1 (by decide) ?_
  refine lv_imul hx hb d_Im_byteAt_3 ?_
  refine q_ti (y := nI (b * 16)) (pk_mul _ _) ?_
  refine lv_iload_n hx hb d_Im_byteAt_4 rfl (lv_at hl 2 rfl) ?_
  refine lv_iconst (v := nI 3) hx hb d_Im_byteAt_5 (by decide) ?_
  refine lv_ishr hx hb d_Im_byteAt_6 ?_
  refine q_ti (y := nI (i / 8)) (pk_shrN (by omega) _ 3 (by decide)) ?_
  refine lv_iadd hx hb d_Im_byteAt_7 ?_
  refine q_ti (y := nI (b * 16 + (i / 8))) (nI_add _ _) ?_
  refine lv_istore_n (lv' := [(3, .int (nI (b * 16 + (i / 8)))), (0, .ref h), (1, .int (nI b)), (2, .int (nI i))]) hx hb d_Im_byteAt_8 rfl hl (by decide) rfl (fun ls hl => ?_)
  refine lv_iload_n hx hb d_Im_byteAt_9 rfl (lv_at hl 0 rfl) ?_
  refine lv_if_lt (tgt := 43) hx hb d_Im_byteAt_10 (by decide) (fun c10 => ?_) (fun c10 => ?_)
  · exact absurd c10 (nI_pos (by omega))
  · refine lv_iload_n hx hb d_Im_byteAt_13 rfl (lv_at hl 0 rfl) ?_
    refine lv_aload_n hx hb d_Im_byteAt_14 rfl (lv_at hl 1 rfl) ?_
    refine va_get (D := D) (ci := 1) (v := .ref a) (C := R_Im) (T := F_Im) (N := 1) hx hb hts i_Im hown hK hP 0 rfl rfl 0 (by decide) (hts _ fl_Im_9) (fun _ h9 => h9) rfl d_Im_byteAt_15 ?_
    refine va_alen (v := nI 12544) hx hb hK hP 1 0 rfl rfl rfl d_Im_byteAt_18 ?_
    refine lv_icmp_ge (tgt := 43) hx hb d_Im_byteAt_19 (by decide) (fun c19 => ?_) (fun c19 => ?_)
    · have c19 : 12544 ≤ (b * 16 + (i / 8)) := (nI_leI (by omega) (by omega)).mp c19
      refine lv_iconst (v := nI 0) hx hb d_Im_byteAt_43 (by decide) ?_
      exact q_iret hx hb hr hlk hK hP hD hS d_Im_byteAt_44 (by unfold qv_by qv_word qv_wd; rw [if_neg (by omega), qb_0, Nat.zero_div, Nat.zero_mod]) (rfl)
    · have c19 : ¬ 12544 ≤ (b * 16 + (i / 8)) := fun h9 => c19 ((nI_leI (by omega) (by omega)).mpr h9)
      refine lv_aload_n hx hb d_Im_byteAt_22 rfl (lv_at hl 1 rfl) ?_
      refine va_get (D := D) (ci := 1) (v := .ref a) (C := R_Im) (T := F_Im) (N := 1) hx hb hts i_Im hown hK hP 0 rfl rfl 0 (by decide) (hts _ fl_Im_9) (fun _ h9 => h9) rfl d_Im_byteAt_23 ?_
      refine lv_iload_n hx hb d_Im_byteAt_26 rfl (lv_at hl 0 rfl) ?_
      refine va_lald hx hb hK hP 1 0 rfl rfl (vp_in_nI (by omega) (by decide)) d_Im_byteAt_27 ?_
      refine q_tl (y := f (b * 16 + (i / 8))) (by rw [nI_clamp (by omega)]) ?_
      refine lv_iload_n hx hb d_Im_byteAt_28 rfl (lv_at hl 3 rfl) ?_
      refine lv_bipush (v := nI 7) hx hb d_Im_byteAt_29 (by decide) ?_
      refine lv_iand hx hb d_Im_byteAt_31 ?_
      refine q_ti (y := nI (i % 8)) (pk_andN (by omega) 3 (by decide)) ?_
      refine lv_iconst (v := nI 3) hx hb d_Im_byteAt_32 (by decide) ?_
      refine lv_ishl hx hb d_Im_byteAt_33 ?_
      refine q_ti (y := nI ((i % 8) * 8)) (pk_shlN _ 3 (by decide) (by omega)) ?_
      refine lv_lushr (v := ((f (b * 16 + (i / 8))).toUInt64 >>> ((nI ((i % 8) * 8)).toInt64.toUInt64 &&& Int64.toUInt64 63)).toInt64) hx hb d_Im_byteAt_34 rfl ?_
      refine lv_l2i (v := (((f (b * 16 + (i / 8))).toUInt64 >>> ((nI ((i % 8) * 8)).toInt64.toUInt64 &&& Int64.toUInt64 63)).toInt64).toInt32) hx hb d_Im_byteAt_35 rfl ?_
      refine lv_sipush (v := nI 255) hx hb d_Im_byteAt_36 (by decide) ?_
      refine lv_iand hx hb d_Im_byteAt_39 ?_
      refine q_ti (y := nI (qv_by f b i)) (by rw [qb_get _ (show i % 8 * 8 < 64 by omega) (nI 255) (k := 8) (by decide) (by decide)]; unfold qv_by qv_word qv_wd; rw [if_pos (by omega), Nat.mul_comm (i % 8) 8]) ?_
      refine lv_goto (tgt := 44) hx hb d_Im_byteAt_40 (by decide) ?_
      exact q_iret hx hb hr hlk hK hP hD hS d_Im_byteAt_44 (rfl) (rfl)
set_option maxHeartbeats 4000000 in
set_option maxRecDepth 100000 in
theorem c_Im_setByte (l : Launch) (D : va_G) (cJ : ClassId) (h : Nat) (a : Nat) (f : Nat → Int64) (b : Nat) (i : Nat) (v : Nat) (kb : b < 65536) (ki : i < 65536) (kv : v < 65536) : qMv l y_Im_setByte b_Im_setByte 6 none (rmL 1) D [(cJ, .long)] [.ref h, .int (nI b), .int (nI i), .int (nI v)] [(h, .inr (1, [.ref a])), (a, .inl (cJ, 12544, .inr (.inl (f))))] [(h, .inr (1, [.ref a])), (a, .inl (cJ, 12544, .inr (.inl (qv_setB f b i v))))] := by
  refine q_start (Qc := qZv D _ _) (by decide +kernel) (Nat.le_of_ble_eq_true rfl) ?_
  intro p e s m below meth c A hx hb hr hlk hml hown hts hK hP hD hS hA hN ls hl
  have hl : lv_has ls 6 [(0, .ref h), (1, .int (nI b)), (2, .int (nI i)), (3, .int (nI v))] := hl
  have hP : va_P D cls [(h, .inr (1, [.ref a])), (a, .inl (cJ, 12544, .inr (.inl (f))))] s.heap := hP
  have hD : va_D A [(h, .inr (1, [.ref a])), (a, .inl (cJ, 12544, .inr (.inl (f))))] := hD
  refine lv_iload_n hx hb d_Im_setByte_0 rfl (lv_at hl 1 rfl) ?_
  refine lv_bipush (v := nI 16) hx hb d_Im_setByte_1 (by decide) ?_
  refine lv_imul hx hb d_Im_setByte_3 ?_
  refine q_ti (y := nI (b * 16)) (pk_mul _ _) ?_
  refine lv_iload_n hx hb d_Im_setByte_4 rfl (lv_at hl 2 rfl) ?_
  refine lv_iconst (v := nI 3) hx hb d_Im_setByte_5 (by decide) ?_
  refine lv_ishr hx hb d_Im_setByte_6 ?_
  refine q_ti (y := nI (i / 8)) (pk_shrN (by omega) _ 3 (by decide)) ?_
  refine lv_iadd hx hb d_Im_setByte_7 ?_
  refine q_ti (y := nI (b * 16 + (i / 8))) (nI_add _ _) ?_
  refine lv_istore (lv' := [(4, .int (nI (b * 16 + (i / 8)))), (0, .ref h), (1, .int (nI b)), (2, .int (nI i)), (3, .int (nI v))]) hx hb d_Im_setByte_8 hl (by decide) rfl (fun ls hl => ?_)
  refine lv_iload_n hx hb d_Im_setByte_10 rfl (lv_at hl 3 rfl) ?_
  refine lv_bipush (v := nI 7) hx hb d_Im_setByte_11 (by decide) ?_
  refine lv_iand hx hb d_Im_setByte_13 ?_
  refine q_ti (y := nI (i % 8)) (pk_andN (by omega) 3 (by decide)) ?_
  refine lv_iconst (v := nI 3) hx hb d_Im_setByte_14 (by decide) ?_
  refine lv_ishl hx hb d_Im_setByte_15 ?_
  refine q_ti (y := nI ((i % 8) * 8)) (pk_shlN _ 3 (by decide) (by omega)) ?_
  refine lv_istore (lv' := [(5, .int (nI ((i % 8) * 8))), (4, .int (nI (b * 16 + (i / 8)))), (0, .ref h), (1, .int (nI b)), (2, .int (nI i)), (3, .int (nI v))]) hx hb d_Im_setByte_16 hl (by decide) rfl (fun ls hl => ?_)
  refine lv_iload hx hb d_Im_setByte_18 (lv_at hl 1 rfl) ?_
  refine lv_if_lt (tgt := 68) hx hb d_Im_setByte_20 (by decide) (fun c20 => ?_) (fun c20 => ?_)
  · exact absurd c20 (nI_pos (by omega))
  · refine lv_iload hx hb d_Im_setByte_23 (lv_at hl 1 rfl) ?_
    refine lv_aload_n hx hb d_Im_setByte_25 rfl (lv_at hl 2 rfl) ?_
    refine va_get (D := D) (ci := 1) (v := .ref a) (C := R_Im) (T := F_Im) (N := 1) hx hb hts i_Im hown hK hP 0 rfl rfl 0 (by decide) (hts _ fl_Im_9) (fun _ h9 => h9) rfl d_Im_setByte_26 ?_
    refine va_alen (v := nI 12544) hx hb hK hP 1 0 rfl rfl rfl d_Im_setByte_29 ?_
    refine lv_icmp_ge (tgt := 68) hx hb d_Im_setByte_30 (by decide) (fun c30 => ?_) (fun c30 => ?_)
    · have c30 : 12544 ≤ (b * 16 + (i / 8)) := (nI_leI (by omega) (by omega)).mp c30
      exact q_vret hx hb hr hlk hK hP hD hS d_Im_setByte_68 (by unfold qv_setB qv_setW qv_up qv_word qv_wd; first | rw [if_pos (by omega), if_pos (by omega), Nat.mul_comm (i % 8) 8] | rw [if_neg (by omega)])
    · have c30 : ¬ 12544 ≤ (b * 16 + (i / 8)) := fun h9 => c30 ((nI_leI (by omega) (by omega)).mpr h9)
      refine lv_aload_n hx hb d_Im_setByte_33 rfl (lv_at hl 2 rfl) ?_
      refine va_get (D := D) (ci := 1) (v := .ref a) (C := R_Im) (T := F_Im) (N := 1) hx hb hts i_Im hown hK hP 0 rfl rfl 0 (by decide) (hts _ fl_Im_9) (fun _ h9 => h9) rfl d_Im_setByte_34 ?_
      refine lv_iload hx hb d_Im_setByte_37 (lv_at hl 1 rfl) ?_
      refine lv_aload_n hx hb d_Im_setByte_39 rfl (lv_at hl 2 rfl) ?_
      refine va_get (D := D) (ci := 1) (v := .ref a) (C := R_Im) (T := F_Im) (N := 1) hx hb hts i_Im hown hK hP 0 rfl rfl 0 (by decide) (hts _ fl_Im_9) (fun _ h9 => h9) rfl d_Im_setByte_40 ?_
      refine lv_iload hx hb d_Im_setByte_43 (lv_at hl 1 rfl) ?_
      refine va_lald hx hb hK hP 1 0 rfl rfl (vp_in_nI (by omega) (by decide)) d_Im_setByte_45 ?_
      refine q_tl (y := f (b * 16 + (i / 8))) (by rw [nI_clamp (by omega)]) ?_
      refine lv_ldc2 hx hb hown (hts _ kl_Im_15) d_Im_setByte_46 ?_
      refine lv_iload hx hb d_Im_setByte_49 (lv_at hl 0 rfl) ?_
      refine lv_lshl (v := 255 <<< ((nI ((i % 8) * 8)).toInt64 &&& 63)) hx hb d_Im_setByte_51 rfl ?_
      refine lv_ldc2 hx hb hown (hts _ kl_Im_17) d_Im_setByte_52 ?_
      refine lv_lxor hx hb d_Im_setByte_55 ?_
      refine lv_land hx hb d_Im_setByte_56 ?_
      refine lv_iload_n hx hb d_Im_setByte_57 rfl (lv_at hl 5 rfl) ?_
      refine lv_i2l (v := (nI v).toInt64) hx hb d_Im_setByte_58 rfl ?_
      refine lv_ldc2 hx hb hown (hts _ kl_Im_15) d_Im_setByte_59 ?_
      refine lv_land hx hb d_Im_setByte_62 ?_
      refine lv_iload hx hb d_Im_setByte_63 (lv_at hl 0 rfl) ?_
      refine lv_lshl (v := (((nI v).toInt64) &&& 255) <<< ((nI ((i % 8) * 8)).toInt64 &&& 63)) hx hb d_Im_setByte_65 rfl ?_
      refine lv_lor hx hb d_Im_setByte_66 ?_
      refine q_tl (y := lN (qb_put (qb_n (f (b * 16 + i / 8))) (i % 8 * 8) 8 (v % 2 ^ 8))) (qb_set8 _ (by omega) (by omega)) ?_
      refine va_last hx hb hK hP hD hS 1 0 rfl rfl (vp_in_nI (by omega) (by decide)) d_Im_setByte_67 (fun H locs hP hD hS => ?_)
      rw [nI_clamp (by omega)] at hP hD
      have hP : va_P D cls [(h, .inr (1, [.ref a])), (a, .inl (cJ, 12544, .inr (.inl (vp_updL f (b * 16 + (i / 8)) (lN (qb_put (qb_n (f (b * 16 + i / 8))) (i % 8 * 8) 8 (v % 2 ^ 8)))))))] H := hP
      have hD : va_D A [(h, .inr (1, [.ref a])), (a, .inl (cJ, 12544, .inr (.inl (vp_updL f (b * 16 + (i / 8)) (lN (qb_put (qb_n (f (b * 16 + i / 8))) (i % 8 * 8) 8 (v % 2 ^ 8)))))))] := hD
      exact q_vret hx hb hr hlk hK hP hD hS d_Im_setByte_68 (by unfold qv_setB qv_setW qv_up qv_word qv_wd; first | rw [if_pos (by omega), if_pos (by omega), Nat.mul_comm (i % 8) 8] | rw [if_neg (by omega)])
set_option maxHeartbeats 4000000 in
set_option maxRecDepth 100000 in
theorem c_Im_linkAt (l : Launch) (D : va_G) (cJ : ClassId) (h : Nat) (a : Nat) (f : Nat → Int64) (b : Nat) (i : Nat) (kb : b < 65536) (ki : i < 65536) : qMi l y_Im_linkAt b_Im_linkAt 3 (some .int) (rmL 2) D [(cJ, .long)] [.ref h, .int (nI b), .int (nI i)] [(h, .inr (1, [.ref a])), (a, .inl (cJ, 12544, .inr (.inl (f))))] [(h, .inr (1, [.ref a])), (a, .inl (cJ, 12544, .inr (.inl (f))))] (nI (qv_lk f b i)) := by
  refine q_start (Qc := qZi D _ _ _) (by decide +kernel) (Nat.le_of_ble_eq_true rfl) ?_
  intro p e s m below meth c A hx hb hr hlk hml hown hts hK hP hD hS hA hN ls hl
  have hl : lv_has ls 3 [(0, .ref h), (1, .int (nI b)), (2, .int (nI i))] := hl
  have hP : va_P D cls [(h, .inr (1, [.ref a])), (a, .inl (cJ, 12544, .inr (.inl (f))))] s.heap := hP
  have hD : va_D A [(h, .inr (1, [.ref a])), (a, .inl (cJ, 12544, .inr (.inl (f))))] := hD
  refine lv_aload_n hx hb d_Im_linkAt_0 rfl (lv_at hl 0 rfl) ?_
  refine lv_iload_n hx hb d_Im_linkAt_1 rfl (lv_at hl 1 rfl) ?_
  refine lv_iload_n hx hb d_Im_linkAt_2 rfl (lv_at hl 2 rfl) ?_
  refine lv_iconst (v := nI 2) hx hb d_Im_linkAt_3 (by decide) ?_
  refine lv_ishr hx hb d_Im_linkAt_4 ?_
  refine q_ti (y := nI (i / 4)) (pk_shrN (by omega) _ 2 (by decide)) ?_
  refine q_callVl (As := [.int (nI b), .int (nI (i / 4))]) (rest := []) (wsC := [(h, .inr (1, [.ref a])), (a, .inl (cJ, 12544, .inr (.inl (f))))]) (wsR := []) (wsC' := [(h, .inr (1, [.ref a])), (a, .inl (cJ, 12544, .inr (.inl (f))))]) (wsN := [(h, .inr (1, [.ref a])), (a, .inl (cJ, 12544, .inr (.inl (f))))]) (isT := [0]) (isC := [0, 1]) (isR := []) (isN := [0, 1]) (k := 2) (ci := 1) (C := R_Im) ⟨hx, hb, hml, hown, hts⟩ (c_Im_wordAt l D cJ h a f b (i / 4) (by omega) (by omega)) (tw_V ml_Im_19 im_Im_wordAt se_Im_wordAt in_Im cd_Im_wordAt) rfl ⟨by decide +kernel, Nat.le_of_ble_eq_true rfl, Nat.le_of_ble_eq_true rfl⟩ ⟨Nat.le_of_ble_eq_true rfl, Nat.le_of_ble_eq_true rfl⟩ hK hP hD hS hA hN rfl ⟨rfl, rfl, rfl, by decide, by decide, by decide, by decide⟩ rfl rfl rfl hl.1 rfl rfl (Nat.le_of_ble_eq_true rfl) d_Im_linkAt_5 (fun H locs hP hD hS => ?_)
  refine lv_iload_n hx hb d_Im_linkAt_8 rfl (lv_at hl 2 rfl) ?_
  refine lv_iconst (v := nI 3) hx hb d_Im_linkAt_9 (by decide) ?_
  refine lv_iand hx hb d_Im_linkAt_10 ?_
  refine q_ti (y := nI (i % 4)) (pk_andN (by omega) 2 (by decide)) ?_
  refine lv_iconst (v := nI 4) hx hb d_Im_linkAt_11 (by decide) ?_
  refine lv_ishl hx hb d_Im_linkAt_12 ?_
  refine q_ti (y := nI ((i % 4) * 16)) (pk_shlN _ 4 (by decide) (by omega)) ?_
  refine lv_lushr (v := ((qv_word f b (i / 4)).toUInt64 >>> ((nI ((i % 4) * 16)).toInt64.toUInt64 &&& Int64.toUInt64 63)).toInt64) hx hb d_Im_linkAt_13 rfl ?_
  refine lv_l2i (v := (((qv_word f b (i / 4)).toUInt64 >>> ((nI ((i % 4) * 16)).toInt64.toUInt64 &&& Int64.toUInt64 63)).toInt64).toInt32) hx hb d_Im_linkAt_14 rfl ?_
  refine lv_ldc hx hb hown (hts _ kc_Im_23) d_Im_linkAt_15 ?_
  refine q_ti (y := nI 65535) (by decide) ?_
  refine lv_iand hx hb d_Im_linkAt_17 ?_
  refine q_ti (y := nI (qv_lk f b i)) (by rw [qb_get _ (show i % 4 * 16 < 64 by omega) (nI 65535) (k := 16) (by decide) (by decide)]; unfold qv_lk; rw [Nat.mul_comm (i % 4) 16]) ?_
  exact q_iret hx hb hr hlk hK hP hD hS d_Im_linkAt_18 (rfl) (rfl)
set_option maxHeartbeats 4000000 in
set_option maxRecDepth 100000 in
theorem c_Im_setLink (l : Launch) (D : va_G) (cJ : ClassId) (h : Nat) (a : Nat) (f : Nat → Int64) (b : Nat) (i : Nat) (v : Nat) (kb : b < 65536) (ki : i < 65536) (kv : v < 65536) : qMv l y_Im_setLink b_Im_setLink 7 none (rmL 2) D [(cJ, .long)] [.ref h, .int (nI b), .int (nI i), .int (nI v)] [(h, .inr (1, [.ref a])), (a, .inl (cJ, 12544, .inr (.inl (f))))] [(h, .inr (1, [.ref a])), (a, .inl (cJ, 12544, .inr (.inl (qv_setL f b i v))))] := by
  refine q_start (Qc := qZv D _ _) (by decide +kernel) (Nat.le_of_ble_eq_true rfl) ?_
  intro p e s m below meth c A hx hb hr hlk hml hown hts hK hP hD hS hA hN ls hl
  have hl : lv_has ls 7 [(0, .ref h), (1, .int (nI b)), (2, .int (nI i)), (3, .int (nI v))] := hl
  have hP : va_P D cls [(h, .inr (1, [.ref a])), (a, .inl (cJ, 12544, .inr (.inl (f))))] s.heap := hP
  have hD : va_D A [(h, .inr (1, [.ref a])), (a, .inl (cJ, 12544, .inr (.inl (f))))] := hD
  refine lv_iload_n hx hb d_Im_setLink_0 rfl (lv_at hl 2 rfl) ?_
  refine lv_iconst (v := nI 3) hx hb d_Im_setLink_1 (by decide) ?_
  refine lv_iand hx hb d_Im_setLink_2 ?_
  refine q_ti (y := nI (i % 4)) (pk_andN (by omega) 2 (by decide)) ?_
  refine lv_iconst (v := nI 4) hx hb d_Im_setLink_3 (by decide) ?_
  refine lv_ishl hx hb d_Im_setLink_4 ?_
  refine q_ti (y := nI ((i % 4) * 16)) (pk_shlN _ 4 (by decide) (by omega)) ?_
  refine lv_istore (lv' := [(4, .int (nI ((i % 4) * 16))), (0, .ref h), (1, .int (nI b)), (2, .int (nI i)), (3, .int (nI v))]) hx hb d_Im_setLink_5 hl (by decide) rfl (fun ls hl => ?_)
  refine lv_aload_n hx hb d_Im_setLink_7 rfl (lv_at hl 1 rfl) ?_
  refine lv_iload_n hx hb d_Im_setLink_8 rfl (lv_at hl 2 rfl) ?_
  refine lv_iload_n hx hb d_Im_setLink_9 rfl (lv_at hl 3 rfl) ?_
  refine lv_iconst (v := nI 2) hx hb d_Im_setLink_10 (by decide) ?_
  refine lv_ishr hx hb d_Im_setLink_11 ?_
  refine q_ti (y := nI (i / 4)) (pk_shrN (by omega) _ 2 (by decide)) ?_
  refine q_callVl (As := [.int (nI b), .int (nI (i / 4))]) (rest := []) (wsC := [(h, .inr (1, [.ref a])), (a, .inl (cJ, 12544, .inr (.inl (f))))]) (wsR := []) (wsC' := [(h, .inr (1, [.ref a])), (a, .inl (cJ, 12544, .inr (.inl (f))))]) (wsN := [(h, .inr (1, [.ref a])), (a, .inl (cJ, 12544, .inr (.inl (f))))]) (isT := [0]) (isC := [0, 1]) (isR := []) (isN := [0, 1]) (k := 2) (ci := 1) (C := R_Im) ⟨hx, hb, hml, hown, hts⟩ (c_Im_wordAt l D cJ h a f b (i / 4) (by omega) (by omega)) (tw_V ml_Im_19 im_Im_wordAt se_Im_wordAt in_Im cd_Im_wordAt) rfl ⟨by decide +kernel, Nat.le_of_ble_eq_true rfl, Nat.le_of_ble_eq_true rfl⟩ ⟨Nat.le_of_ble_eq_true rfl, Nat.le_of_ble_eq_true rfl⟩ hK hP hD hS hA hN rfl ⟨rfl, rfl, rfl, by decide, by decide, by decide, by decide⟩ rfl rfl rfl hl.1 rfl rfl (Nat.le_of_ble_eq_true rfl) d_Im_setLink_12 (fun H locs hP hD hS => ?_)
  refine lv_ldc2 hx hb hown (hts _ kl_Im_24) d_Im_setLink_15 ?_
  refine lv_iload hx hb d_Im_setLink_18 (lv_at hl 0 rfl) ?_
  refine lv_lshl (v := 65535 <<< ((nI ((i % 4) * 16)).toInt64 &&& 63)) hx hb d_Im_setLink_20 rfl ?_
  refine lv_ldc2 hx hb hown (hts _ kl_Im_17) d_Im_setLink_21 ?_
  refine lv_lxor hx hb d_Im_setLink_24 ?_
  refine lv_land hx hb d_Im_setLink_25 ?_
  refine lv_lstore (lv' := [(5, .long ((qv_word f b (i / 4)) &&& ((65535 <<< ((nI ((i % 4) * 16)).toInt64 &&& 63)) ^^^ (-1)))), (4, .int (nI ((i % 4) * 16))), (0, .ref h), (1, .int (nI b)), (2, .int (nI i)), (3, .int (nI v))]) hx hb d_Im_setLink_26 hl (by decide) rfl (fun ls hl => ?_)
  refine lv_aload_n hx hb d_Im_setLink_28 rfl (lv_at hl 2 rfl) ?_
  refine lv_iload_n hx hb d_Im_setLink_29 rfl (lv_at hl 3 rfl) ?_
  refine lv_iload_n hx hb d_Im_setLink_30 rfl (lv_at hl 4 rfl) ?_
  refine lv_iconst (v := nI 2) hx hb d_Im_setLink_31 (by decide) ?_
  refine lv_ishr hx hb d_Im_setLink_32 ?_
  refine q_ti (y := nI (i / 4)) (pk_shrN (by omega) _ 2 (by decide)) ?_
  refine lv_lload hx hb d_Im_setLink_33 (lv_at hl 0 rfl) ?_
  refine lv_iload_n hx hb d_Im_setLink_35 rfl (lv_at hl 5 rfl) ?_
  refine lv_i2l (v := (nI v).toInt64) hx hb d_Im_setLink_36 rfl ?_
  refine lv_ldc2 hx hb hown (hts _ kl_Im_24) d_Im_setLink_37 ?_
  refine lv_land hx hb d_Im_setLink_40 ?_
  refine lv_iload hx hb d_Im_setLink_41 (lv_at hl 1 rfl) ?_
  refine lv_lshl (v := (((nI v).toInt64) &&& 65535) <<< ((nI ((i % 4) * 16)).toInt64 &&& 63)) hx hb d_Im_setLink_43 rfl ?_
  refine lv_lor hx hb d_Im_setLink_44 ?_
  refine q_tl (y := lN (qb_put (qb_n (qv_word f b (i / 4))) (i % 4 * 16) 16 (v % 2 ^ 16))) (qb_set16 _ (by omega) (by omega)) ?_
  refine q_callVv (As := [.int (nI b), .int (nI (i / 4)), .long (lN (qb_put (qb_n (qv_word f b (i / 4))) (i % 4 * 16) 16 (v % 2 ^ 16)))]) (rest := []) (wsC := [(h, .inr (1, [.ref a])), (a, .inl (cJ, 12544, .inr (.inl (f))))]) (wsR := []) (wsC' := [(h, .inr (1, [.ref a])), (a, .inl (cJ, 12544, .inr (.inl (qv_setW f b (i / 4) (lN (qb_put (qb_n (qv_word f b (i / 4))) (i % 4 * 16) 16 (v % 2 ^ 16)))))))]) (wsN := [(h, .inr (1, [.ref a])), (a, .inl (cJ, 12544, .inr (.inl (qv_setW f b (i / 4) (lN (qb_put (qb_n (qv_word f b (i / 4))) (i % 4 * 16) 16 (v % 2 ^ 16)))))))]) (isT := [0]) (isC := [0, 1]) (isR := []) (isN := [0, 1]) (k := 3) (ci := 1) (C := R_Im) ⟨hx, hb, hml, hown, hts⟩ (c_Im_setWord l D cJ h a f b (i / 4) (lN (qb_put (qb_n (qv_word f b (i / 4))) (i % 4 * 16) 16 (v % 2 ^ 16))) (by omega) (by omega)) (tw_V ml_Im_26 im_Im_setWord se_Im_setWord in_Im cd_Im_setWord) rfl ⟨by decide +kernel, Nat.le_of_ble_eq_true rfl, Nat.le_of_ble_eq_true rfl⟩ ⟨Nat.le_of_ble_eq_true rfl, Nat.le_of_ble_eq_true rfl⟩ hK hP hD hS hA hN rfl ⟨rfl, rfl, rfl, by decide, by decide, by decide, by decide⟩ rfl rfl rfl hl.1 rfl rfl (Nat.le_of_ble_eq_true rfl) d_Im_setLink_45 (fun H locs hP hD hS => ?_)
  exact q_vret hx hb hr hlk hK hP hD hS d_Im_setLink_48 (by unfold qv_setL; rw [Nat.mul_comm (i % 4) 16])
set_option maxHeartbeats 4000000 in
set_option maxRecDepth 100000 in
theorem c_Im_sizeAt (l : Launch) (D : va_G) (cJ : ClassId) (h : Nat) (a : Nat) (f : Nat → Int64) (b : Nat) (kb : b < 65536) : qMi l y_Im_sizeAt b_Im_sizeAt 2 (some .int) (rmL 2) D [(cJ, .long)] [.ref h, .int (nI b)] [(h, .inr (1, [.ref a])), (a, .inl (cJ, 12544, .inr (.inl (f))))] [(h, .inr (1, [.ref a])), (a, .inl (cJ, 12544, .inr (.inl (f))))] ((qv_sz f b).toInt32) := by
  refine q_start (Qc := qZi D _ _ _) (by decide +kernel) (Nat.le_of_ble_eq_true rfl) ?_
  intro p e s m below meth c A hx hb hr hlk hml hown hts hK hP hD hS hA hN ls hl
  have hl : lv_has ls 2 [(0, .ref h), (1, .int (nI b))] := hl
  have hP : va_P D cls [(h, .inr (1, [.ref a])), (a, .inl (cJ, 12544, .inr (.inl (f))))] s.heap := hP
  have hD : va_D A [(h, .inr (1, [.ref a])), (a, .inl (cJ, 12544, .inr (.inl (f))))] := hD
  refine lv_aload_n hx hb d_Im_sizeAt_0 rfl (lv_at hl 0 rfl) ?_
  refine lv_iload_n hx hb d_Im_sizeAt_1 rfl (lv_at hl 1 rfl) ?_
  refine lv_bipush (v := nI 15) hx hb d_Im_sizeAt_2 (by decide) ?_
  refine q_callVl (As := [.int (nI b), .int (nI 15)]) (rest := []) (wsC := [(h, .inr (1, [.ref a])), (a, .inl (cJ, 12544, .inr (.inl (f))))]) (wsR := []) (wsC' := [(h, .inr (1, [.ref a])), (a, .inl (cJ, 12544, .inr (.inl (f))))]) (wsN := [(h, .inr (1, [.ref a])), (a, .inl (cJ, 12544, .inr (.inl (f))))]) (isT := [0]) (isC := [0, 1]) (isR := []) (isN := [0, 1]) (k := 2) (ci := 1) (C := R_Im) ⟨hx, hb, hml, hown, hts⟩ (c_Im_wordAt l D cJ h a f b 15 (by omega) (by omega)) (tw_V ml_Im_19 im_Im_wordAt se_Im_wordAt in_Im cd_Im_wordAt) rfl ⟨by decide +kernel, Nat.le_of_ble_eq_true rfl, Nat.le_of_ble_eq_true rfl⟩ ⟨Nat.le_of_ble_eq_true rfl, Nat.le_of_ble_eq_true rfl⟩ hK hP hD hS hA hN rfl ⟨rfl, rfl, rfl, by decide, by decide, by decide, by decide⟩ rfl rfl rfl hl.1 rfl rfl (Nat.le_of_ble_eq_true rfl) d_Im_sizeAt_4 (fun H locs hP hD hS => ?_)
  refine lv_l2i (v := (qv_word f b 15).toInt32) hx hb d_Im_sizeAt_7 rfl ?_
  exact q_iret hx hb hr hlk hK hP hD hS d_Im_sizeAt_8 (rfl) (rfl)
set_option maxHeartbeats 4000000 in
set_option maxRecDepth 100000 in
theorem c_Im_addSize (l : Launch) (D : va_G) (cJ : ClassId) (h : Nat) (a : Nat) (f : Nat → Int64) (b : Nat) (x : Int32) (kb : b < 65536) : qMv l y_Im_addSize b_Im_addSize 3 none (rmL 2) D [(cJ, .long)] [.ref h, .int (nI b), .int (x)] [(h, .inr (1, [.ref a])), (a, .inl (cJ, 12544, .inr (.inl (f))))] [(h, .inr (1, [.ref a])), (a, .inl (cJ, 12544, .inr (.inl (qv_addS f b x.toInt64))))] := by
  refine q_start (Qc := qZv D _ _) (by decide +kernel) (Nat.le_of_ble_eq_true rfl) ?_
  intro p e s m below meth c A hx hb hr hlk hml hown hts hK hP hD hS hA hN ls hl
  have hl : lv_has ls 3 [(0, .ref h), (1, .int (nI b)), (2, .int (x))] := hl
  have hP : va_P D cls [(h, .inr (1, [.ref a])), (a, .inl (cJ, 12544, .inr (.inl (f))))] s.heap := hP
  have hD : va_D A [(h, .inr (1, [.ref a])), (a, .inl (cJ, 12544, .inr (.inl (f))))] := hD
  refine lv_aload_n hx hb d_Im_addSize_0 rfl (lv_at hl 0 rfl) ?_
  refine lv_iload_n hx hb d_Im_addSize_1 rfl (lv_at hl 1 rfl) ?_
  refine lv_bipush (v := nI 15) hx hb d_Im_addSize_2 (by decide) ?_
  refine lv_aload_n hx hb d_Im_addSize_4 rfl (lv_at hl 0 rfl) ?_
  refine lv_iload_n hx hb d_Im_addSize_5 rfl (lv_at hl 1 rfl) ?_
  refine lv_bipush (v := nI 15) hx hb d_Im_addSize_6 (by decide) ?_
  refine q_callVl (As := [.int (nI b), .int (nI 15)]) (rest := [.int (nI 15), .int (nI b), .ref h]) (wsC := [(h, .inr (1, [.ref a])), (a, .inl (cJ, 12544, .inr (.inl (f))))]) (wsR := []) (wsC' := [(h, .inr (1, [.ref a])), (a, .inl (cJ, 12544, .inr (.inl (f))))]) (wsN := [(h, .inr (1, [.ref a])), (a, .inl (cJ, 12544, .inr (.inl (f))))]) (isT := [0]) (isC := [0, 1]) (isR := []) (isN := [0, 1]) (k := 2) (ci := 1) (C := R_Im) ⟨hx, hb, hml, hown, hts⟩ (c_Im_wordAt l D cJ h a f b 15 (by omega) (by omega)) (tw_V ml_Im_19 im_Im_wordAt se_Im_wordAt in_Im cd_Im_wordAt) rfl ⟨by decide +kernel, Nat.le_of_ble_eq_true rfl, Nat.le_of_ble_eq_true rfl⟩ ⟨Nat.le_of_ble_eq_true rfl, Nat.le_of_ble_eq_true rfl⟩ hK hP hD hS hA hN rfl ⟨rfl, rfl, rfl, by decide, by decide, by decide, by decide⟩ rfl rfl rfl hl.1 rfl rfl (Nat.le_of_ble_eq_true rfl) d_Im_addSize_8 (fun H locs hP hD hS => ?_)
  refine lv_iload_n hx hb d_Im_addSize_11 rfl (lv_at hl 2 rfl) ?_
  refine lv_i2l (v := x.toInt64) hx hb d_Im_addSize_12 rfl ?_
  refine lv_ladd hx hb d_Im_addSize_13 ?_
  refine q_callVv (As := [.int (nI b), .int (nI 15), .long ((qv_word f b 15) + x.toInt64)]) (rest := []) (wsC := [(h, .inr (1, [.ref a])), (a, .inl (cJ, 12544, .inr (.inl (f))))]) (wsR := []) (wsC' := [(h, .inr (1, [.ref a])), (a, .inl (cJ, 12544, .inr (.inl (qv_setW f b 15 ((qv_word f b 15) + x.toInt64)))))]) (wsN := [(h, .inr (1, [.ref a])), (a, .inl (cJ, 12544, .inr (.inl (qv_setW f b 15 ((qv_word f b 15) + x.toInt64)))))]) (isT := [0]) (isC := [0, 1]) (isR := []) (isN := [0, 1]) (k := 3) (ci := 1) (C := R_Im) ⟨hx, hb, hml, hown, hts⟩ (c_Im_setWord l D cJ h a f b 15 ((qv_word f b 15) + x.toInt64) (by omega) (by omega)) (tw_V ml_Im_26 im_Im_setWord se_Im_setWord in_Im cd_Im_setWord) rfl ⟨by decide +kernel, Nat.le_of_ble_eq_true rfl, Nat.le_of_ble_eq_true rfl⟩ ⟨Nat.le_of_ble_eq_true rfl, Nat.le_of_ble_eq_true rfl⟩ hK hP hD hS hA hN rfl ⟨rfl, rfl, rfl, by decide, by decide, by decide, by decide⟩ rfl rfl rfl hl.1 rfl rfl (Nat.le_of_ble_eq_true rfl) d_Im_addSize_14 (fun H locs hP hD hS => ?_)
  exact q_vret hx hb hr hlk hK hP hD hS d_Im_addSize_17 (rfl)
set_option maxHeartbeats 4000000 in
set_option maxRecDepth 100000 in
theorem c_Im_blank (l : Launch) (D : va_G) (cJ : ClassId) (h : Nat) (a : Nat) (f : Nat → Int64) (b : Nat) (kb : b < 65536) : qMv l y_Im_blank b_Im_blank 3 none (rmL 2) D [(cJ, .long)] [.ref h, .int (nI b)] [(h, .inr (1, [.ref a])), (a, .inl (cJ, 12544, .inr (.inl (f))))] [(h, .inr (1, [.ref a])), (a, .inl (cJ, 12544, .inr (.inl (qv_blank f b))))] := by
  refine q_start (Qc := qZv D _ _) (by decide +kernel) (Nat.le_of_ble_eq_true rfl) ?_
  intro p e s m below meth c A hx hb hr hlk hml hown hts hK hP hD hS hA hN ls hl
  have hl : lv_has ls 3 [(0, .ref h), (1, .int (nI b))] := hl
  have hP : va_P D cls [(h, .inr (1, [.ref a])), (a, .inl (cJ, 12544, .inr (.inl (f))))] s.heap := hP
  have hD : va_D A [(h, .inr (1, [.ref a])), (a, .inl (cJ, 12544, .inr (.inl (f))))] := hD
  refine lv_iconst (v := nI 0) hx hb d_Im_blank_0 (by decide) ?_
  refine lv_istore_n (lv' := [(2, .int (nI 0)), (0, .ref h), (1, .int (nI b))]) hx hb d_Im_blank_1 rfl hl (by decide) rfl (fun ls hl => ?_)
  refine q_loop (pc := 2) (σ := Unit) (I := fun i x H locs ls => va_P D cls [(h, .inr (1, [.ref a])), (a, .inl (cJ, 12544, .inr (.inl (qv_for i (fun g i => qv_setW g b i 0) f))))] H ∧ va_D A [(h, .inr (1, [.ref a])), (a, .inl (cJ, 12544, .inr (.inl (qv_for i (fun g i => qv_setW g b i 0) f))))] ∧ va_S A s.heap H locs ∧ lv_has ls 3 [(0, .ref h), (1, .int (nI b)), (2, .int (nI i))]) (16) ?_ ?_ (0) (()) _ _ _ (by omega) ⟨hP, hD, hS, lv_sub hl [1, 2, 0] rfl⟩
  · intro x H locs ls hI
    obtain ⟨hP, hD, hS, hl⟩ := hI
    refine lv_iload_n hx hb d_Im_blank_2 rfl (lv_at hl 2 rfl) ?_
    refine lv_bipush (v := nI 16) hx hb d_Im_blank_3 (by decide) ?_
    refine lv_icmp_ge (tgt := 21) hx hb d_Im_blank_5 (by decide) (fun c5 => ?_) (fun c5 => ?_)
    · have c5 : 16 ≤ 16 := (nI_leI (by omega) (by omega)).mp c5
      exact q_vret hx hb hr hlk hK hP hD hS d_Im_blank_21 (rfl)
    · have c5 : ¬ 16 ≤ 16 := fun h9 => c5 ((nI_leI (by omega) (by omega)).mpr h9)
      exfalso; omega
  · intro i x H locs ls hi hI ih
    obtain ⟨hP, hD, hS, hl⟩ := hI
    refine lv_iload_n hx hb d_Im_blank_2 rfl (lv_at hl 2 rfl) ?_
    refine lv_bipush (v := nI 16) hx hb d_Im_blank_3 (by decide) ?_
    refine lv_icmp_ge (tgt := 21) hx hb d_Im_blank_5 (by decide) (fun c5 => ?_) (fun c5 => ?_)
    · have c5 : 16 ≤ i := (nI_leI (by omega) (by omega)).mp c5
      exfalso; omega
    · have c5 : ¬ 16 ≤ i := fun h9 => c5 ((nI_leI (by omega) (by omega)).mpr h9)
      refine lv_aload_n hx hb d_Im_blank_8 rfl (lv_at hl 0 rfl) ?_
      refine lv_iload_n hx hb d_Im_blank_9 rfl (lv_at hl 1 rfl) ?_
      refine lv_iload_n hx hb d_Im_blank_10 rfl (lv_at hl 2 rfl) ?_
      refine lv_lconst (v := 0) hx hb d_Im_blank_11 (by decide) ?_
      refine q_callVv (As := [.int (nI b), .int (nI i), .long (0)]) (rest := []) (wsC := [(h, .inr (1, [.ref a])), (a, .inl (cJ, 12544, .inr (.inl (qv_for i (fun g i => qv_setW g b i 0) f))))]) (wsR := []) (wsC' := [(h, .inr (1, [.ref a])), (a, .inl (cJ, 12544, .inr (.inl (qv_setW (qv_for i (fun g i => qv_setW g b i 0) f) b i 0))))]) (wsN := [(h, .inr (1, [.ref a])), (a, .inl (cJ, 12544, .inr (.inl (qv_setW (qv_for i (fun g i => qv_setW g b i 0) f) b i 0))))]) (isT := [0]) (isC := [0, 1]) (isR := []) (isN := [0, 1]) (k := 3) (ci := 1) (C := R_Im) ⟨hx, hb, hml, hown, hts⟩ (c_Im_setWord l D cJ h a (qv_for i (fun g i => qv_setW g b i 0) f) b i 0 (by omega) (by omega)) (tw_V ml_Im_26 im_Im_setWord se_Im_setWord in_Im cd_Im_setWord) rfl ⟨by decide +kernel, Nat.le_of_ble_eq_true rfl, Nat.le_of_ble_eq_true rfl⟩ ⟨Nat.le_of_ble_eq_true rfl, Nat.le_of_ble_eq_true rfl⟩ hK hP hD hS hA hN rfl ⟨rfl, rfl, rfl, by decide, by decide, by decide, by decide⟩ rfl rfl rfl hl.1 rfl rfl (Nat.le_of_ble_eq_true rfl) d_Im_blank_12 (fun H locs hP hD hS => ?_)
      refine lv_iinc (v := nI (i + 1)) (lv' := [(2, .int (nI (i + 1))), (0, .ref h), (1, .int (nI b))]) hx hb d_Im_blank_15 hl (k := 2) rfl (nI_1 _) (by decide) rfl (fun ls hl => ?_)
      refine lv_goto (tgt := 2) hx hb d_Im_blank_18 (by decide) ?_
      exact ih (()) _ _ _ ⟨hP, hD, hS, lv_sub hl [1, 2, 0] rfl⟩
set_option maxHeartbeats 4000000 in
set_option maxRecDepth 100000 in
theorem c_Im_duplicate (l : Launch) (D : va_G) (cJ : ClassId) (h : Nat) (a : Nat) (f : Nat → Int64) (u : Nat) (b : Nat) (ku : u < 65536) (kb : b < 65536) : qMv l y_Im_duplicate b_Im_duplicate 4 none (rmL 2) D [(cJ, .long)] [.ref h, .int (nI u), .int (nI b)] [(h, .inr (1, [.ref a])), (a, .inl (cJ, 12544, .inr (.inl (f))))] [(h, .inr (1, [.ref a])), (a, .inl (cJ, 12544, .inr (.inl (qv_dup f u b))))] := by
  refine q_start (Qc := qZv D _ _) (by decide +kernel) (Nat.le_of_ble_eq_true rfl) ?_
  intro p e s m below meth c A hx hb hr hlk hml hown hts hK hP hD hS hA hN ls hl
  have hl : lv_has ls 4 [(0, .ref h), (1, .int (nI u)), (2, .int (nI b))] := hl
  have hP : va_P D cls [(h, .inr (1, [.ref a])), (a, .inl (cJ, 12544, .inr (.inl (f))))] s.heap := hP
  have hD : va_D A [(h, .inr (1, [.ref a])), (a, .inl (cJ, 12544, .inr (.inl (f))))] := hD
  refine lv_iconst (v := nI 0) hx hb d_Im_duplicate_0 (by decide) ?_
  refine lv_istore_n (lv' := [(3, .int (nI 0)), (0, .ref h), (1, .int (nI u)), (2, .int (nI b))]) hx hb d_Im_duplicate_1 rfl hl (by decide) rfl (fun ls hl => ?_)
  refine q_loop (pc := 2) (σ := Unit) (I := fun i x H locs ls => va_P D cls [(h, .inr (1, [.ref a])), (a, .inl (cJ, 12544, .inr (.inl (qv_for i (fun g i => qv_setW g b i (qv_word g u i)) f))))] H ∧ va_D A [(h, .inr (1, [.ref a])), (a, .inl (cJ, 12544, .inr (.inl (qv_for i (fun g i => qv_setW g b i (qv_word g u i)) f))))] ∧ va_S A s.heap H locs ∧ lv_has ls 4 [(0, .ref h), (1, .int (nI u)), (2, .int (nI b)), (3, .int (nI i))]) (16) ?_ ?_ (0) (()) _ _ _ (by omega) ⟨hP, hD, hS, lv_sub hl [1, 2, 3, 0] rfl⟩
  · intro x H locs ls hI
    obtain ⟨hP, hD, hS, hl⟩ := hI
    refine lv_iload_n hx hb d_Im_duplicate_2 rfl (lv_at hl 3 rfl) ?_
    refine lv_bipush (v := nI 16) hx hb d_Im_duplicate_3 (by decide) ?_
    refine lv_icmp_ge (tgt := 26) hx hb d_Im_duplicate_5 (by decide) (fun c5 => ?_) (fun c5 => ?_)
    · have c5 : 16 ≤ 16 := (nI_leI (by omega) (by omega)).mp c5
      exact q_vret hx hb hr hlk hK hP hD hS d_Im_duplicate_26 (rfl)
    · have c5 : ¬ 16 ≤ 16 := fun h9 => c5 ((nI_leI (by omega) (by omega)).mpr h9)
      exfalso; omega
  · intro i x H locs ls hi hI ih
    obtain ⟨hP, hD, hS, hl⟩ := hI
    refine lv_iload_n hx hb d_Im_duplicate_2 rfl (lv_at hl 3 rfl) ?_
    refine lv_bipush (v := nI 16) hx hb d_Im_duplicate_3 (by decide) ?_
    refine lv_icmp_ge (tgt := 26) hx hb d_Im_duplicate_5 (by decide) (fun c5 => ?_) (fun c5 => ?_)
    · have c5 : 16 ≤ i := (nI_leI (by omega) (by omega)).mp c5
      exfalso; omega
    · have c5 : ¬ 16 ≤ i := fun h9 => c5 ((nI_leI (by omega) (by omega)).mpr h9)
      refine lv_aload_n hx hb d_Im_duplicate_8 rfl (lv_at hl 0 rfl) ?_
      refine lv_iload_n hx hb d_Im_duplicate_9 rfl (lv_at hl 2 rfl) ?_
      refine lv_iload_n hx hb d_Im_duplicate_10 rfl (lv_at hl 3 rfl) ?_
      refine lv_aload_n hx hb d_Im_duplicate_11 rfl (lv_at hl 0 rfl) ?_
      refine lv_iload_n hx hb d_Im_duplicate_12 rfl (lv_at hl 1 rfl) ?_
      refine lv_iload_n hx hb d_Im_duplicate_13 rfl (lv_at hl 3 rfl) ?_
      refine q_callVl (As := [.int (nI u), .int (nI i)]) (rest := [.int (nI i), .int (nI b), .ref h]) (wsC := [(h, .inr (1, [.ref a])), (a, .inl (cJ, 12544, .inr (.inl (qv_for i (fun g i => qv_setW g b i (qv_word g u i)) f))))]) (wsR := []) (wsC' := [(h, .inr (1, [.ref a])), (a, .inl (cJ, 12544, .inr (.inl ((qv_for i (fun g i => qv_setW g b i (qv_word g u i)) f)))))]) (wsN := [(h, .inr (1, [.ref a])), (a, .inl (cJ, 12544, .inr (.inl ((qv_for i (fun g i => qv_setW g b i (qv_word g u i)) f)))))]) (isT := [0]) (isC := [0, 1]) (isR := []) (isN := [0, 1]) (k := 2) (ci := 1) (C := R_Im) ⟨hx, hb, hml, hown, hts⟩ (c_Im_wordAt l D cJ h a (qv_for i (fun g i => qv_setW g b i (qv_word g u i)) f) u i (by omega) (by omega)) (tw_V ml_Im_19 im_Im_wordAt se_Im_wordAt in_Im cd_Im_wordAt) rfl ⟨by decide +kernel, Nat.le_of_ble_eq_true rfl, Nat.le_of_ble_eq_true rfl⟩ ⟨Nat.le_of_ble_eq_true rfl, Nat.le_of_ble_eq_true rfl⟩ hK hP hD hS hA hN rfl ⟨rfl, rfl, rfl, by decide, by decide, by decide, by decide⟩ rfl rfl rfl hl.1 rfl rfl (Nat.le_of_ble_eq_true rfl) d_Im_duplicate_14 (fun H locs hP hD hS => ?_)
      refine q_callVv (As := [.int (nI b), .int (nI i), .long (qv_word (qv_for i (fun g i => qv_setW g b i (qv_word g u i)) f) u i)]) (rest := []) (wsC := [(h, .inr (1, [.ref a])), (a, .inl (cJ, 12544, .inr (.inl ((qv_for i (fun g i => qv_setW g b i (qv_word g u i)) f)))))]) (wsR := []) (wsC' := [(h, .inr (1, [.ref a])), (a, .inl (cJ, 12544, .inr (.inl (qv_setW ((qv_for i (fun g i => qv_setW g b i (qv_word g u i)) f)) b i (qv_word (qv_for i (fun g i => qv_setW g b i (qv_word g u i)) f) u i)))))]) (wsN := [(h, .inr (1, [.ref a])), (a, .inl (cJ, 12544, .inr (.inl (qv_setW ((qv_for i (fun g i => qv_setW g b i (qv_word g u i)) f)) b i (qv_word (qv_for i (fun g i => qv_setW g b i (qv_word g u i)) f) u i)))))]) (isT := [0]) (isC := [0, 1]) (isR := []) (isN := [0, 1]) (k := 3) (ci := 1) (C := R_Im) ⟨hx, hb, hml, hown, hts⟩ (c_Im_setWord l D cJ h a (qv_for i (fun g i => qv_setW g b i (qv_word g u i)) f) b i (qv_word (qv_for i (fun g i => qv_setW g b i (qv_word g u i)) f) u i) (by omega) (by omega)) (tw_V ml_Im_26 im_Im_setWord se_Im_setWord in_Im cd_Im_setWord) rfl ⟨by decide +kernel, Nat.le_of_ble_eq_true rfl, Nat.le_of_ble_eq_true rfl⟩ ⟨Nat.le_of_ble_eq_true rfl, Nat.le_of_ble_eq_true rfl⟩ hK hP hD hS hA hN rfl ⟨rfl, rfl, rfl, by decide, by decide, by decide, by decide⟩ rfl rfl rfl hl.1 rfl rfl (Nat.le_of_ble_eq_true rfl) d_Im_duplicate_17 (fun H locs hP hD hS => ?_)
      refine lv_iinc (v := nI (i + 1)) (lv' := [(3, .int (nI (i + 1))), (0, .ref h), (1, .int (nI u)), (2, .int (nI b))]) hx hb d_Im_duplicate_20 hl (k := 3) rfl (nI_1 _) (by decide) rfl (fun ls hl => ?_)
      refine lv_goto (tgt := 2) hx hb d_Im_duplicate_23 (by decide) ?_
      exact ih (()) _ _ _ ⟨hP, hD, hS, lv_sub hl [1, 2, 3, 0] rfl⟩
set_option maxHeartbeats 4000000 in
set_option maxRecDepth 100000 in
theorem c_Im_receive0 (l : Launch) (D : va_G) (cJ : ClassId) (h : Nat) (a : Nat) (f : Nat → Int64) (h2 : Nat) (a2 : Nat) (g : Nat → Int64) (b : Nat) (kb : b < 65536) : qMv l y_Im_receive b_Im_receive 7 none (rmL 2) D [(cJ, .long)] [.ref h, .ref h2, .int (nI b), .int (nI 0)] [(h, .inr (1, [.ref a])), (a, .inl (cJ, 12544, .inr (.inl (f)))), (h2, .inr (1, [.ref a2])), (a2, .inl (cJ, 12544, .inr (.inl (g))))] [(h, .inr (1, [.ref a])), (a, .inl (cJ, 12544, .inr (.inl (qv_recv f g b 8 8)))), (h2, .inr (1, [.ref a2])), (a2, .inl (cJ, 12544, .inr (.inl (g))))] := by
  refine q_start (Qc := qZv D _ _) (by decide +kernel) (Nat.le_of_ble_eq_true rfl) ?_
  intro p e s m below meth c A hx hb hr hlk hml hown hts hK hP hD hS hA hN ls hl
  have hl : lv_has ls 7 [(0, .ref h), (1, .ref h2), (2, .int (nI b)), (3, .int (nI 0))] := hl
  have hP : va_P D cls [(h, .inr (1, [.ref a])), (a, .inl (cJ, 12544, .inr (.inl (f)))), (h2, .inr (1, [.ref a2])), (a2, .inl (cJ, 12544, .inr (.inl (g))))] s.heap := hP
  have hD : va_D A [(h, .inr (1, [.ref a])), (a, .inl (cJ, 12544, .inr (.inl (f)))), (h2, .inr (1, [.ref a2])), (a2, .inl (cJ, 12544, .inr (.inl (g))))] := hD
  refine lv_iload_n hx hb d_Im_receive_0 rfl (lv_at hl 3 rfl) ?_
  refine lv_iconst (v := nI 1) hx hb d_Im_receive_1 (by decide) ?_
  refine lv_icmp_eq (tgt := 10) hx hb d_Im_receive_2 (by decide) (fun c2 => ?_) (fun c2 => ?_)
  · have c2 : 0 = 1 := (nI_eq (by omega) (by omega)).mp c2
    exfalso; omega
  · have c2 : ¬ 0 = 1 := fun h9 => c2 ((nI_eq (by omega) (by omega)).mpr h9)
    refine lv_iload_n hx hb d_Im_receive_5 rfl (lv_at hl 3 rfl) ?_
    refine lv_iconst (v := nI 2) hx hb d_Im_receive_6 (by decide) ?_
    refine lv_icmp_ne (tgt := 14) hx hb d_Im_receive_7 (by decide) (fun c7 => ?_) (fun c7 => ?_)
    · have c7 : ¬ 0 = 2 := fun h9 => c7 ((nI_eq (by omega) (by omega)).mpr h9)
      refine lv_iconst (v := nI 0) hx hb d_Im_receive_14 (by decide) ?_
      refine lv_istore (lv' := [(4, .int (nI 0)), (0, .ref h), (1, .ref h2), (2, .int (nI b)), (3, .int (nI 0))]) hx hb d_Im_receive_15 hl (by decide) rfl (fun ls hl => ?_)
      refine lv_iload_n hx hb d_Im_receive_17 rfl (lv_at hl 4 rfl) ?_
      refine lv_iconst (v := nI 1) hx hb d_Im_receive_18 (by decide) ?_
      refine lv_icmp_eq (tgt := 27) hx hb d_Im_receive_19 (by decide) (fun c19 => ?_) (fun c19 => ?_)
      · have c19 : 0 = 1 := (nI_eq (by omega) (by omega)).mp c19
        exfalso; omega
      · have c19 : ¬ 0 = 1 := fun h9 => c19 ((nI_eq (by omega) (by omega)).mpr h9)
        refine lv_iload_n hx hb d_Im_receive_22 rfl (lv_at hl 4 rfl) ?_
        refine lv_iconst (v := nI 3) hx hb d_Im_receive_23 (by decide) ?_
        refine lv_icmp_ne (tgt := 31) hx hb d_Im_receive_24 (by decide) (fun c24 => ?_) (fun c24 => ?_)
        · have c24 : ¬ 0 = 3 := fun h9 => c24 ((nI_eq (by omega) (by omega)).mpr h9)
          refine lv_iconst (v := nI 0) hx hb d_Im_receive_31 (by decide) ?_
          refine lv_istore (lv' := [(5, .int (nI 0)), (4, .int (nI 0)), (0, .ref h), (1, .ref h2), (2, .int (nI b)), (3, .int (nI 0))]) hx hb d_Im_receive_32 hl (by decide) rfl (fun ls hl => ?_)
          refine lv_iload hx hb d_Im_receive_34 (lv_at hl 1 rfl) ?_
          refine lv_if_eq (tgt := 43) hx hb d_Im_receive_36 (by decide) (fun c36 => ?_) (fun c36 => ?_)
          · have c36 : 0 = 0 := (q_z_eq (by omega)).mp c36
            refine lv_bipush (v := nI 8) hx hb d_Im_receive_43 (by decide) ?_
            refine lv_istore (lv' := [(6, .int (nI 8)), (5, .int (nI 0)), (4, .int (nI 0)), (0, .ref h), (1, .ref h2), (2, .int (nI b)), (3, .int (nI 0))]) hx hb d_Im_receive_45 hl (by decide) rfl (fun ls hl => ?_)
            refine q_loop (pc := 47) (σ := Unit) (I := fun i x H locs ls => va_P D cls [(h, .inr (1, [.ref a])), (a, .inl (cJ, 12544, .inr (.inl (qv_for i (fun h9 i => qv_setW h9 b (8 + i) (qv_word g b (8 + i))) f)))), (h2, .inr (1, [.ref a2])), (a2, .inl (cJ, 12544, .inr (.inl (g))))] H ∧ va_D A [(h, .inr (1, [.ref a])), (a, .inl (cJ, 12544, .inr (.inl (qv_for i (fun h9 i => qv_setW h9 b (8 + i) (qv_word g b (8 + i))) f)))), (h2, .inr (1, [.ref a2])), (a2, .inl (cJ, 12544, .inr (.inl (g))))] ∧ va_S A s.heap H locs ∧ lv_has ls 7 [(0, .ref h), (1, .ref h2), (2, .int (nI b)), (4, .int (nI 0)), (5, .int (nI 0)), (6, .int (nI (8 + i)))]) (0) ?_ ?_ (0) (()) _ _ _ (by omega) ⟨hP, hD, hS, lv_sub hl [3, 4, 5, 2, 1, 0] rfl⟩
            · intro x H locs ls hI
              obtain ⟨hP, hD, hS, hl⟩ := hI
              refine lv_iload hx hb d_Im_receive_47 (lv_at hl 5 rfl) ?_
              refine lv_iload hx hb d_Im_receive_49 (lv_at hl 4 rfl) ?_
              refine lv_if_eq (tgt := 59) hx hb d_Im_receive_51 (by decide) (fun c51 => ?_) (fun c51 => ?_)
              · have c51 : 0 = 0 := (q_z_eq (by omega)).mp c51
                refine lv_bipush (v := nI 8) hx hb d_Im_receive_59 (by decide) ?_
                refine lv_icmp_ge (tgt := 84) hx hb d_Im_receive_61 (by decide) (fun c61 => ?_) (fun c61 => ?_)
                · have c61 : 8 ≤ (8 + 0) := (nI_leI (by omega) (by omega)).mp c61
                  exact q_vret hx hb hr hlk hK hP hD hS d_Im_receive_84 (rfl)
                · have c61 : ¬ 8 ≤ (8 + 0) := fun h9 => c61 ((nI_leI (by omega) (by omega)).mpr h9)
                  exfalso; omega
              · have c51 : ¬ 0 = 0 := fun h9 => c51 ((q_z_eq (by omega)).mpr h9)
                exfalso; omega
            · intro i x H locs ls hi hI ih
              obtain ⟨hP, hD, hS, hl⟩ := hI
              refine lv_iload hx hb d_Im_receive_47 (lv_at hl 5 rfl) ?_
              refine lv_iload hx hb d_Im_receive_49 (lv_at hl 4 rfl) ?_
              refine lv_if_eq (tgt := 59) hx hb d_Im_receive_51 (by decide) (fun c51 => ?_) (fun c51 => ?_)
              · have c51 : 0 = 0 := (q_z_eq (by omega)).mp c51
                refine lv_bipush (v := nI 8) hx hb d_Im_receive_59 (by decide) ?_
                refine lv_icmp_ge (tgt := 84) hx hb d_Im_receive_61 (by decide) (fun c61 => ?_) (fun c61 => ?_)
                · have c61 : 8 ≤ (8 + i) := (nI_leI (by omega) (by omega)).mp c61
                  exfalso; omega
                · have c61 : ¬ 8 ≤ (8 + i) := fun h9 => c61 ((nI_leI (by omega) (by omega)).mpr h9)
                  refine lv_aload_n hx hb d_Im_receive_64 rfl (lv_at hl 0 rfl) ?_
                  refine lv_iload_n hx hb d_Im_receive_65 rfl (lv_at hl 2 rfl) ?_
                  refine lv_iload hx hb d_Im_receive_66 (lv_at hl 5 rfl) ?_
                  refine lv_aload_n hx hb d_Im_receive_68 rfl (lv_at hl 1 rfl) ?_
                  refine lv_iload_n hx hb d_Im_receive_69 rfl (lv_at hl 2 rfl) ?_
                  refine lv_iload hx hb d_Im_receive_70 (lv_at hl 5 rfl) ?_
                  refine q_callVl (As := [.int (nI b), .int (nI (8 + i))]) (rest := [.int (nI (8 + i)), .int (nI b), .ref h]) (wsC := [(h2, .inr (1, [.ref a2])), (a2, .inl (cJ, 12544, .inr (.inl (g))))]) (wsR := [(h, .inr (1, [.ref a])), (a, .inl (cJ, 12544, .inr (.inl (qv_for i (fun h9 i => qv_setW h9 b (8 + i) (qv_word g b (8 + i))) f))))]) (wsC' := [(h2, .inr (1, [.ref a2])), (a2, .inl (cJ, 12544, .inr (.inl (g))))]) (wsN := [(h, .inr (1, [.ref a])), (a, .inl (cJ, 12544, .inr (.inl (qv_for i (fun h9 i => qv_setW h9 b (8 + i) (qv_word g b (8 + i))) f)))), (h2, .inr (1, [.ref a2])), (a2, .inl (cJ, 12544, .inr (.inl (g))))]) (isT := [0]) (isC := [2, 3]) (isR := [0, 1]) (isN := [0, 1, 2, 3]) (k := 2) (ci := 1) (C := R_Im) ⟨hx, hb, hml, hown, hts⟩ (c_Im_wordAt l D cJ h2 a2 g b (8 + i) (by omega) (by omega)) (tw_V ml_Im_19 im_Im_wordAt se_Im_wordAt in_Im cd_Im_wordAt) rfl ⟨by decide +kernel, Nat.le_of_ble_eq_true rfl, Nat.le_of_ble_eq_true rfl⟩ ⟨Nat.le_of_ble_eq_true rfl, Nat.le_of_ble_eq_true rfl⟩ hK hP hD hS hA hN rfl ⟨rfl, rfl, rfl, by decide, by decide, by decide, by decide⟩ rfl rfl rfl hl.1 rfl rfl (Nat.le_of_ble_eq_true rfl) d_Im_receive_72 (fun H locs hP hD hS => ?_)
                  refine q_callVv (As := [.int (nI b), .int (nI (8 + i)), .long (qv_word g b (8 + i))]) (rest := []) (wsC := [(h, .inr (1, [.ref a])), (a, .inl (cJ, 12544, .inr (.inl (qv_for i (fun h9 i => qv_setW h9 b (8 + i) (qv_word g b (8 + i))) f))))]) (wsR := [(h2, .inr (1, [.ref a2])), (a2, .inl (cJ, 12544, .inr (.inl (g))))]) (wsC' := [(h, .inr (1, [.ref a])), (a, .inl (cJ, 12544, .inr (.inl (qv_setW (qv_for i (fun h9 i => qv_setW h9 b (8 + i) (qv_word g b (8 + i))) f) b (8 + i) (qv_word g b (8 + i))))))]) (wsN := [(h, .inr (1, [.ref a])), (a, .inl (cJ, 12544, .inr (.inl (qv_setW (qv_for i (fun h9 i => qv_setW h9 b (8 + i) (qv_word g b (8 + i))) f) b (8 + i) (qv_word g b (8 + i)))))), (h2, .inr (1, [.ref a2])), (a2, .inl (cJ, 12544, .inr (.inl (g))))]) (isT := [0]) (isC := [0, 1]) (isR := [2, 3]) (isN := [2, 3, 0, 1]) (k := 3) (ci := 1) (C := R_Im) ⟨hx, hb, hml, hown, hts⟩ (c_Im_setWord l D cJ h a (qv_for i (fun h9 i => qv_setW h9 b (8 + i) (qv_word g b (8 + i))) f) b (8 + i) (qv_word g b (8 + i)) (by omega) (by omega)) (tw_V ml_Im_26 im_Im_setWord se_Im_setWord in_Im cd_Im_setWord) rfl ⟨by decide +kernel, Nat.le_of_ble_eq_true rfl, Nat.le_of_ble_eq_true rfl⟩ ⟨Nat.le_of_ble_eq_true rfl, Nat.le_of_ble_eq_true rfl⟩ hK hP hD hS hA hN rfl ⟨rfl, rfl, rfl, by decide, by decide, by decide, by decide⟩ rfl rfl rfl hl.1 rfl rfl (Nat.le_of_ble_eq_true rfl) d_Im_receive_75 (fun H locs hP hD hS => ?_)
                  refine lv_iinc (v := nI (8 + i + 1)) (lv' := [(6, .int (nI (8 + i + 1))), (0, .ref h), (1, .ref h2), (2, .int (nI b)), (4, .int (nI 0)), (5, .int (nI 0))]) hx hb d_Im_receive_78 hl (k := 5) rfl (nI_1 _) (by decide) rfl (fun ls hl => ?_)
                  refine lv_goto (tgt := 47) hx hb d_Im_receive_81 (by decide) ?_
                  exact ih (()) _ _ _ ⟨hP, hD, hS, lv_sub hl [1, 2, 3, 4, 5, 0] rfl⟩
              · have c51 : ¬ 0 = 0 := fun h9 => c51 ((q_z_eq (by omega)).mpr h9)
                exfalso; omega
          · have c36 : ¬ 0 = 0 := fun h9 => c36 ((q_z_eq (by omega)).mpr h9)
            exfalso; omega
        · have c24 : 0 = 3 := (nI_eq (by omega) (by omega)).mp c24
          exfalso; omega
    · have c7 : 0 = 2 := (nI_eq (by omega) (by omega)).mp c7
      exfalso; omega
set_option maxHeartbeats 4000000 in
set_option maxRecDepth 100000 in
theorem c_Im_receive1 (l : Launch) (D : va_G) (cJ : ClassId) (h : Nat) (a : Nat) (f : Nat → Int64) (h2 : Nat) (a2 : Nat) (g : Nat → Int64) (b : Nat) (kb : b < 65536) : qMv l y_Im_receive b_Im_receive 7 none (rmL 2) D [(cJ, .long)] [.ref h, .ref h2, .int (nI b), .int (nI 1)] [(h, .inr (1, [.ref a])), (a, .inl (cJ, 12544, .inr (.inl (f)))), (h2, .inr (1, [.ref a2])), (a2, .inl (cJ, 12544, .inr (.inl (g))))] [(h, .inr (1, [.ref a])), (a, .inl (cJ, 12544, .inr (.inl (qv_recv f g b 0 16)))), (h2, .inr (1, [.ref a2])), (a2, .inl (cJ, 12544, .inr (.inl (g))))] := by
  refine q_start (Qc := qZv D _ _) (by decide +kernel) (Nat.le_of_ble_eq_true rfl) ?_
  intro p e s m below meth c A hx hb hr hlk hml hown hts hK hP hD hS hA hN ls hl
  have hl : lv_has ls 7 [(0, .ref h), (1, .ref h2), (2, .int (nI b)), (3, .int (nI 1))] := hl
  have hP : va_P D cls [(h, .inr (1, [.ref a])), (a, .inl (cJ, 12544, .inr (.inl (f)))), (h2, .inr (1, [.ref a2])), (a2, .inl (cJ, 12544, .inr (.inl (g))))] s.heap := hP
  have hD : va_D A [(h, .inr (1, [.ref a])), (a, .inl (cJ, 12544, .inr (.inl (f)))), (h2, .inr (1, [.ref a2])), (a2, .inl (cJ, 12544, .inr (.inl (g))))] := hD
  refine lv_iload_n hx hb d_Im_receive_0 rfl (lv_at hl 3 rfl) ?_
  refine lv_iconst (v := nI 1) hx hb d_Im_receive_1 (by decide) ?_
  refine lv_icmp_eq (tgt := 10) hx hb d_Im_receive_2 (by decide) (fun c2 => ?_) (fun c2 => ?_)
  · have c2 : 1 = 1 := (nI_eq (by omega) (by omega)).mp c2
    refine lv_iconst (v := nI 1) hx hb d_Im_receive_10 (by decide) ?_
    refine lv_goto (tgt := 15) hx hb d_Im_receive_11 (by decide) ?_
    refine lv_istore (lv' := [(4, .int (nI 1)), (0, .ref h), (1, .ref h2), (2, .int (nI b)), (3, .int (nI 1))]) hx hb d_Im_receive_15 hl (by decide) rfl (fun ls hl => ?_)
    refine lv_iload_n hx hb d_Im_receive_17 rfl (lv_at hl 4 rfl) ?_
    refine lv_iconst (v := nI 1) hx hb d_Im_receive_18 (by decide) ?_
    refine lv_icmp_eq (tgt := 27) hx hb d_Im_receive_19 (by decide) (fun c19 => ?_) (fun c19 => ?_)
    · have c19 : 1 = 1 := (nI_eq (by omega) (by omega)).mp c19
      refine lv_iconst (v := nI 1) hx hb d_Im_receive_27 (by decide) ?_
      refine lv_goto (tgt := 32) hx hb d_Im_receive_28 (by decide) ?_
      refine lv_istore (lv' := [(5, .int (nI 1)), (4, .int (nI 1)), (0, .ref h), (1, .ref h2), (2, .int (nI b)), (3, .int (nI 1))]) hx hb d_Im_receive_32 hl (by decide) rfl (fun ls hl => ?_)
      refine lv_iload hx hb d_Im_receive_34 (lv_at hl 1 rfl) ?_
      refine lv_if_eq (tgt := 43) hx hb d_Im_receive_36 (by decide) (fun c36 => ?_) (fun c36 => ?_)
      · have c36 : 1 = 0 := (q_z_eq (by omega)).mp c36
        exfalso; omega
      · have c36 : ¬ 1 = 0 := fun h9 => c36 ((q_z_eq (by omega)).mpr h9)
        refine lv_iconst (v := nI 0) hx hb d_Im_receive_39 (by decide) ?_
        refine lv_goto (tgt := 45) hx hb d_Im_receive_40 (by decide) ?_
        refine lv_istore (lv' := [(6, .int (nI 0)), (5, .int (nI 1)), (4, .int (nI 1)), (0, .ref h), (1, .ref h2), (2, .int (nI b)), (3, .int (nI 1))]) hx hb d_Im_receive_45 hl (by decide) rfl (fun ls hl => ?_)
        refine q_loop (pc := 47) (σ := Unit) (I := fun i x H locs ls => va_P D cls [(h, .inr (1, [.ref a])), (a, .inl (cJ, 12544, .inr (.inl (qv_for i (fun h9 i => qv_setW h9 b (0 + i) (qv_word g b (0 + i))) f)))), (h2, .inr (1, [.ref a2])), (a2, .inl (cJ, 12544, .inr (.inl (g))))] H ∧ va_D A [(h, .inr (1, [.ref a])), (a, .inl (cJ, 12544, .inr (.inl (qv_for i (fun h9 i => qv_setW h9 b (0 + i) (qv_word g b (0 + i))) f)))), (h2, .inr (1, [.ref a2])), (a2, .inl (cJ, 12544, .inr (.inl (g))))] ∧ va_S A s.heap H locs ∧ lv_has ls 7 [(0, .ref h), (1, .ref h2), (2, .int (nI b)), (4, .int (nI 1)), (5, .int (nI 1)), (6, .int (nI (0 + i)))]) (16) ?_ ?_ (0) (()) _ _ _ (by omega) ⟨hP, hD, hS, lv_sub hl [3, 4, 5, 2, 1, 0] rfl⟩
        · intro x H locs ls hI
          obtain ⟨hP, hD, hS, hl⟩ := hI
          refine lv_iload hx hb d_Im_receive_47 (lv_at hl 5 rfl) ?_
          refine lv_iload hx hb d_Im_receive_49 (lv_at hl 4 rfl) ?_
          refine lv_if_eq (tgt := 59) hx hb d_Im_receive_51 (by decide) (fun c51 => ?_) (fun c51 => ?_)
          · have c51 : 1 = 0 := (q_z_eq (by omega)).mp c51
            exfalso; omega
          · have c51 : ¬ 1 = 0 := fun h9 => c51 ((q_z_eq (by omega)).mpr h9)
            refine lv_bipush (v := nI 16) hx hb d_Im_receive_54 (by decide) ?_
            refine lv_goto (tgt := 61) hx hb d_Im_receive_56 (by decide) ?_
            refine lv_icmp_ge (tgt := 84) hx hb d_Im_receive_61 (by decide) (fun c61 => ?_) (fun c61 => ?_)
            · have c61 : 16 ≤ (0 + 16) := (nI_leI (by omega) (by omega)).mp c61
              exact q_vret hx hb hr hlk hK hP hD hS d_Im_receive_84 (rfl)
            · have c61 : ¬ 16 ≤ (0 + 16) := fun h9 => c61 ((nI_leI (by omega) (by omega)).mpr h9)
              exfalso; omega
        · intro i x H locs ls hi hI ih
          obtain ⟨hP, hD, hS, hl⟩ := hI
          refine lv_iload hx hb d_Im_receive_47 (lv_at hl 5 rfl) ?_
          refine lv_iload hx hb d_Im_receive_49 (lv_at hl 4 rfl) ?_
          refine lv_if_eq (tgt := 59) hx hb d_Im_receive_51 (by decide) (fun c51 => ?_) (fun c51 => ?_)
          · have c51 : 1 = 0 := (q_z_eq (by omega)).mp c51
            exfalso; omega
          · have c51 : ¬ 1 = 0 := fun h9 => c51 ((q_z_eq (by omega)).mpr h9)
            refine lv_bipush (v := nI 16) hx hb d_Im_receive_54 (by decide) ?_
            refine lv_goto (tgt := 61) hx hb d_Im_receive_56 (by decide) ?_
            refine lv_icmp_ge (tgt := 84) hx hb d_Im_receive_61 (by decide) (fun c61 => ?_) (fun c61 => ?_)
            · have c61 : 16 ≤ (0 + i) := (nI_leI (by omega) (by omega)).mp c61
              exfalso; omega
            · have c61 : ¬ 16 ≤ (0 + i) := fun h9 => c61 ((nI_leI (by omega) (by omega)).mpr h9)
              refine lv_aload_n hx hb d_Im_receive_64 rfl (lv_at hl 0 rfl) ?_
              refine lv_iload_n hx hb d_Im_receive_65 rfl (lv_at hl 2 rfl) ?_
              refine lv_iload hx hb d_Im_receive_66 (lv_at hl 5 rfl) ?_
              refine lv_aload_n hx hb d_Im_receive_68 rfl (lv_at hl 1 rfl) ?_
              refine lv_iload_n hx hb d_Im_receive_69 rfl (lv_at hl 2 rfl) ?_
              refine lv_iload hx hb d_Im_receive_70 (lv_at hl 5 rfl) ?_
              refine q_callVl (As := [.int (nI b), .int (nI (0 + i))]) (rest := [.int (nI (0 + i)), .int (nI b), .ref h]) (wsC := [(h2, .inr (1, [.ref a2])), (a2, .inl (cJ, 12544, .inr (.inl (g))))]) (wsR := [(h, .inr (1, [.ref a])), (a, .inl (cJ, 12544, .inr (.inl (qv_for i (fun h9 i => qv_setW h9 b (0 + i) (qv_word g b (0 + i))) f))))]) (wsC' := [(h2, .inr (1, [.ref a2])), (a2, .inl (cJ, 12544, .inr (.inl (g))))]) (wsN := [(h, .inr (1, [.ref a])), (a, .inl (cJ, 12544, .inr (.inl (qv_for i (fun h9 i => qv_setW h9 b (0 + i) (qv_word g b (0 + i))) f)))), (h2, .inr (1, [.ref a2])), (a2, .inl (cJ, 12544, .inr (.inl (g))))]) (isT := [0]) (isC := [2, 3]) (isR := [0, 1]) (isN := [0, 1, 2, 3]) (k := 2) (ci := 1) (C := R_Im) ⟨hx, hb, hml, hown, hts⟩ (c_Im_wordAt l D cJ h2 a2 g b (0 + i) (by omega) (by omega)) (tw_V ml_Im_19 im_Im_wordAt se_Im_wordAt in_Im cd_Im_wordAt) rfl ⟨by decide +kernel, Nat.le_of_ble_eq_true rfl, Nat.le_of_ble_eq_true rfl⟩ ⟨Nat.le_of_ble_eq_true rfl, Nat.le_of_ble_eq_true rfl⟩ hK hP hD hS hA hN rfl ⟨rfl, rfl, rfl, by decide, by decide, by decide, by decide⟩ rfl rfl rfl hl.1 rfl rfl (Nat.le_of_ble_eq_true rfl) d_Im_receive_72 (fun H locs hP hD hS => ?_)
              refine q_callVv (As := [.int (nI b), .int (nI (0 + i)), .long (qv_word g b (0 + i))]) (rest := []) (wsC := [(h, .inr (1, [.ref a])), (a, .inl (cJ, 12544, .inr (.inl (qv_for i (fun h9 i => qv_setW h9 b (0 + i) (qv_word g b (0 + i))) f))))]) (wsR := [(h2, .inr (1, [.ref a2])), (a2, .inl (cJ, 12544, .inr (.inl (g))))]) (wsC' := [(h, .inr (1, [.ref a])), (a, .inl (cJ, 12544, .inr (.inl (qv_setW (qv_for i (fun h9 i => qv_setW h9 b (0 + i) (qv_word g b (0 + i))) f) b (0 + i) (qv_word g b (0 + i))))))]) (wsN := [(h, .inr (1, [.ref a])), (a, .inl (cJ, 12544, .inr (.inl (qv_setW (qv_for i (fun h9 i => qv_setW h9 b (0 + i) (qv_word g b (0 + i))) f) b (0 + i) (qv_word g b (0 + i)))))), (h2, .inr (1, [.ref a2])), (a2, .inl (cJ, 12544, .inr (.inl (g))))]) (isT := [0]) (isC := [0, 1]) (isR := [2, 3]) (isN := [2, 3, 0, 1]) (k := 3) (ci := 1) (C := R_Im) ⟨hx, hb, hml, hown, hts⟩ (c_Im_setWord l D cJ h a (qv_for i (fun h9 i => qv_setW h9 b (0 + i) (qv_word g b (0 + i))) f) b (0 + i) (qv_word g b (0 + i)) (by omega) (by omega)) (tw_V ml_Im_26 im_Im_setWord se_Im_setWord in_Im cd_Im_setWord) rfl ⟨by decide +kernel, Nat.le_of_ble_eq_true rfl, Nat.le_of_ble_eq_true rfl⟩ ⟨Nat.le_of_ble_eq_true rfl, Nat.le_of_ble_eq_true rfl⟩ hK hP hD hS hA hN rfl ⟨rfl, rfl, rfl, by decide, by decide, by decide, by decide⟩ rfl rfl rfl hl.1 rfl rfl (Nat.le_of_ble_eq_true rfl) d_Im_receive_75 (fun H locs hP hD hS => ?_)
              refine lv_iinc (v := nI (0 + i + 1)) (lv' := [(6, .int (nI (0 + i + 1))), (0, .ref h), (1, .ref h2), (2, .int (nI b)), (4, .int (nI 1)), (5, .int (nI 1))]) hx hb d_Im_receive_78 hl (k := 5) rfl (nI_1 _) (by decide) rfl (fun ls hl => ?_)
              refine lv_goto (tgt := 47) hx hb d_Im_receive_81 (by decide) ?_
              exact ih (()) _ _ _ ⟨hP, hD, hS, lv_sub hl [1, 2, 3, 4, 5, 0] rfl⟩
    · have c19 : ¬ 1 = 1 := fun h9 => c19 ((nI_eq (by omega) (by omega)).mpr h9)
      exfalso; omega
  · have c2 : ¬ 1 = 1 := fun h9 => c2 ((nI_eq (by omega) (by omega)).mpr h9)
    exfalso; omega
set_option maxHeartbeats 4000000 in
set_option maxRecDepth 100000 in
theorem c_Im_receive2 (l : Launch) (D : va_G) (cJ : ClassId) (h : Nat) (a : Nat) (f : Nat → Int64) (h2 : Nat) (a2 : Nat) (g : Nat → Int64) (b : Nat) (kb : b < 65536) : qMv l y_Im_receive b_Im_receive 7 none (rmL 2) D [(cJ, .long)] [.ref h, .ref h2, .int (nI b), .int (nI 2)] [(h, .inr (1, [.ref a])), (a, .inl (cJ, 12544, .inr (.inl (f)))), (h2, .inr (1, [.ref a2])), (a2, .inl (cJ, 12544, .inr (.inl (g))))] [(h, .inr (1, [.ref a])), (a, .inl (cJ, 12544, .inr (.inl (qv_recv f g b 0 8)))), (h2, .inr (1, [.ref a2])), (a2, .inl (cJ, 12544, .inr (.inl (g))))] := by
  refine q_start (Qc := qZv D _ _) (by decide +kernel) (Nat.le_of_ble_eq_true rfl) ?_
  intro p e s m below meth c A hx hb hr hlk hml hown hts hK hP hD hS hA hN ls hl
  have hl : lv_has ls 7 [(0, .ref h), (1, .ref h2), (2, .int (nI b)), (3, .int (nI 2))] := hl
  have hP : va_P D cls [(h, .inr (1, [.ref a])), (a, .inl (cJ, 12544, .inr (.inl (f)))), (h2, .inr (1, [.ref a2])), (a2, .inl (cJ, 12544, .inr (.inl (g))))] s.heap := hP
  have hD : va_D A [(h, .inr (1, [.ref a])), (a, .inl (cJ, 12544, .inr (.inl (f)))), (h2, .inr (1, [.ref a2])), (a2, .inl (cJ, 12544, .inr (.inl (g))))] := hD
  refine lv_iload_n hx hb d_Im_receive_0 rfl (lv_at hl 3 rfl) ?_
  refine lv_iconst (v := nI 1) hx hb d_Im_receive_1 (by decide) ?_
  refine lv_icmp_eq (tgt := 10) hx hb d_Im_receive_2 (by decide) (fun c2 => ?_) (fun c2 => ?_)
  · have c2 : 2 = 1 := (nI_eq (by omega) (by omega)).mp c2
    exfalso; omega
  · have c2 : ¬ 2 = 1 := fun h9 => c2 ((nI_eq (by omega) (by omega)).mpr h9)
    refine lv_iload_n hx hb d_Im_receive_5 rfl (lv_at hl 3 rfl) ?_
    refine lv_iconst (v := nI 2) hx hb d_Im_receive_6 (by decide) ?_
    refine lv_icmp_ne (tgt := 14) hx hb d_Im_receive_7 (by decide) (fun c7 => ?_) (fun c7 => ?_)
    · have c7 : ¬ 2 = 2 := fun h9 => c7 ((nI_eq (by omega) (by omega)).mpr h9)
      exfalso; omega
    · have c7 : 2 = 2 := (nI_eq (by omega) (by omega)).mp c7
      refine lv_iconst (v := nI 1) hx hb d_Im_receive_10 (by decide) ?_
      refine lv_goto (tgt := 15) hx hb d_Im_receive_11 (by decide) ?_
      refine lv_istore (lv' := [(4, .int (nI 1)), (0, .ref h), (1, .ref h2), (2, .int (nI b)), (3, .int (nI 2))]) hx hb d_Im_receive_15 hl (by decide) rfl (fun ls hl => ?_)
      refine lv_iload_n hx hb d_Im_receive_17 rfl (lv_at hl 4 rfl) ?_
      refine lv_iconst (v := nI 1) hx hb d_Im_receive_18 (by decide) ?_
      refine lv_icmp_eq (tgt := 27) hx hb d_Im_receive_19 (by decide) (fun c19 => ?_) (fun c19 => ?_)
      · have c19 : 2 = 1 := (nI_eq (by omega) (by omega)).mp c19
        exfalso; omega
      · have c19 : ¬ 2 = 1 := fun h9 => c19 ((nI_eq (by omega) (by omega)).mpr h9)
        refine lv_iload_n hx hb d_Im_receive_22 rfl (lv_at hl 4 rfl) ?_
        refine lv_iconst (v := nI 3) hx hb d_Im_receive_23 (by decide) ?_
        refine lv_icmp_ne (tgt := 31) hx hb d_Im_receive_24 (by decide) (fun c24 => ?_) (fun c24 => ?_)
        · have c24 : ¬ 2 = 3 := fun h9 => c24 ((nI_eq (by omega) (by omega)).mpr h9)
          refine lv_iconst (v := nI 0) hx hb d_Im_receive_31 (by decide) ?_
          refine lv_istore (lv' := [(5, .int (nI 0)), (4, .int (nI 1)), (0, .ref h), (1, .ref h2), (2, .int (nI b)), (3, .int (nI 2))]) hx hb d_Im_receive_32 hl (by decide) rfl (fun ls hl => ?_)
          refine lv_iload hx hb d_Im_receive_34 (lv_at hl 1 rfl) ?_
          refine lv_if_eq (tgt := 43) hx hb d_Im_receive_36 (by decide) (fun c36 => ?_) (fun c36 => ?_)
          · have c36 : 1 = 0 := (q_z_eq (by omega)).mp c36
            exfalso; omega
          · have c36 : ¬ 1 = 0 := fun h9 => c36 ((q_z_eq (by omega)).mpr h9)
            refine lv_iconst (v := nI 0) hx hb d_Im_receive_39 (by decide) ?_
            refine lv_goto (tgt := 45) hx hb d_Im_receive_40 (by decide) ?_
            refine lv_istore (lv' := [(6, .int (nI 0)), (5, .int (nI 0)), (4, .int (nI 1)), (0, .ref h), (1, .ref h2), (2, .int (nI b)), (3, .int (nI 2))]) hx hb d_Im_receive_45 hl (by decide) rfl (fun ls hl => ?_)
            refine q_loop (pc := 47) (σ := Unit) (I := fun i x H locs ls => va_P D cls [(h, .inr (1, [.ref a])), (a, .inl (cJ, 12544, .inr (.inl (qv_for i (fun h9 i => qv_setW h9 b (0 + i) (qv_word g b (0 + i))) f)))), (h2, .inr (1, [.ref a2])), (a2, .inl (cJ, 12544, .inr (.inl (g))))] H ∧ va_D A [(h, .inr (1, [.ref a])), (a, .inl (cJ, 12544, .inr (.inl (qv_for i (fun h9 i => qv_setW h9 b (0 + i) (qv_word g b (0 + i))) f)))), (h2, .inr (1, [.ref a2])), (a2, .inl (cJ, 12544, .inr (.inl (g))))] ∧ va_S A s.heap H locs ∧ lv_has ls 7 [(0, .ref h), (1, .ref h2), (2, .int (nI b)), (4, .int (nI 1)), (5, .int (nI 0)), (6, .int (nI (0 + i)))]) (8) ?_ ?_ (0) (()) _ _ _ (by omega) ⟨hP, hD, hS, lv_sub hl [3, 4, 5, 2, 1, 0] rfl⟩
            · intro x H locs ls hI
              obtain ⟨hP, hD, hS, hl⟩ := hI
              refine lv_iload hx hb d_Im_receive_47 (lv_at hl 5 rfl) ?_
              refine lv_iload hx hb d_Im_receive_49 (lv_at hl 4 rfl) ?_
              refine lv_if_eq (tgt := 59) hx hb d_Im_receive_51 (by decide) (fun c51 => ?_) (fun c51 => ?_)
              · have c51 : 0 = 0 := (q_z_eq (by omega)).mp c51
                refine lv_bipush (v := nI 8) hx hb d_Im_receive_59 (by decide) ?_
                refine lv_icmp_ge (tgt := 84) hx hb d_Im_receive_61 (by decide) (fun c61 => ?_) (fun c61 => ?_)
                · have c61 : 8 ≤ (0 + 8) := (nI_leI (by omega) (by omega)).mp c61
                  exact q_vret hx hb hr hlk hK hP hD hS d_Im_receive_84 (rfl)
                · have c61 : ¬ 8 ≤ (0 + 8) := fun h9 => c61 ((nI_leI (by omega) (by omega)).mpr h9)
                  exfalso; omega
              · have c51 : ¬ 0 = 0 := fun h9 => c51 ((q_z_eq (by omega)).mpr h9)
                exfalso; omega
            · intro i x H locs ls hi hI ih
              obtain ⟨hP, hD, hS, hl⟩ := hI
              refine lv_iload hx hb d_Im_receive_47 (lv_at hl 5 rfl) ?_
              refine lv_iload hx hb d_Im_receive_49 (lv_at hl 4 rfl) ?_
              refine lv_if_eq (tgt := 59) hx hb d_Im_receive_51 (by decide) (fun c51 => ?_) (fun c51 => ?_)
              · have c51 : 0 = 0 := (q_z_eq (by omega)).mp c51
                refine lv_bipush (v := nI 8) hx hb d_Im_receive_59 (by decide) ?_
                refine lv_icmp_ge (tgt := 84) hx hb d_Im_receive_61 (by decide) (fun c61 => ?_) (fun c61 => ?_)
                · have c61 : 8 ≤ (0 + i) := (nI_leI (by omega) (by omega)).mp c61
                  exfalso; omega
                · have c61 : ¬ 8 ≤ (0 + i) := fun h9 => c61 ((nI_leI (by omega) (by omega)).mpr h9)
                  refine lv_aload_n hx hb d_Im_receive_64 rfl (lv_at hl 0 rfl) ?_
                  refine lv_iload_n hx hb d_Im_receive_65 rfl (lv_at hl 2 rfl) ?_
                  refine lv_iload hx hb d_Im_receive_66 (lv_at hl 5 rfl) ?_
                  refine lv_aload_n hx hb d_Im_receive_68 rfl (lv_at hl 1 rfl) ?_
                  refine lv_iload_n hx hb d_Im_receive_69 rfl (lv_at hl 2 rfl) ?_
                  refine lv_iload hx hb d_Im_receive_70 (lv_at hl 5 rfl) ?_
                  refine q_callVl (As := [.int (nI b), .int (nI (0 + i))]) (rest := [.int (nI (0 + i)), .int (nI b), .ref h]) (wsC := [(h2, .inr (1, [.ref a2])), (a2, .inl (cJ, 12544, .inr (.inl (g))))]) (wsR := [(h, .inr (1, [.ref a])), (a, .inl (cJ, 12544, .inr (.inl (qv_for i (fun h9 i => qv_setW h9 b (0 + i) (qv_word g b (0 + i))) f))))]) (wsC' := [(h2, .inr (1, [.ref a2])), (a2, .inl (cJ, 12544, .inr (.inl (g))))]) (wsN := [(h, .inr (1, [.ref a])), (a, .inl (cJ, 12544, .inr (.inl (qv_for i (fun h9 i => qv_setW h9 b (0 + i) (qv_word g b (0 + i))) f)))), (h2, .inr (1, [.ref a2])), (a2, .inl (cJ, 12544, .inr (.inl (g))))]) (isT := [0]) (isC := [2, 3]) (isR := [0, 1]) (isN := [0, 1, 2, 3]) (k := 2) (ci := 1) (C := R_Im) ⟨hx, hb, hml, hown, hts⟩ (c_Im_wordAt l D cJ h2 a2 g b (0 + i) (by omega) (by omega)) (tw_V ml_Im_19 im_Im_wordAt se_Im_wordAt in_Im cd_Im_wordAt) rfl ⟨by decide +kernel, Nat.le_of_ble_eq_true rfl, Nat.le_of_ble_eq_true rfl⟩ ⟨Nat.le_of_ble_eq_true rfl, Nat.le_of_ble_eq_true rfl⟩ hK hP hD hS hA hN rfl ⟨rfl, rfl, rfl, by decide, by decide, by decide, by decide⟩ rfl rfl rfl hl.1 rfl rfl (Nat.le_of_ble_eq_true rfl) d_Im_receive_72 (fun H locs hP hD hS => ?_)
                  refine q_callVv (As := [.int (nI b), .int (nI (0 + i)), .long (qv_word g b (0 + i))]) (rest := []) (wsC := [(h, .inr (1, [.ref a])), (a, .inl (cJ, 12544, .inr (.inl (qv_for i (fun h9 i => qv_setW h9 b (0 + i) (qv_word g b (0 + i))) f))))]) (wsR := [(h2, .inr (1, [.ref a2])), (a2, .inl (cJ, 12544, .inr (.inl (g))))]) (wsC' := [(h, .inr (1, [.ref a])), (a, .inl (cJ, 12544, .inr (.inl (qv_setW (qv_for i (fun h9 i => qv_setW h9 b (0 + i) (qv_word g b (0 + i))) f) b (0 + i) (qv_word g b (0 + i))))))]) (wsN := [(h, .inr (1, [.ref a])), (a, .inl (cJ, 12544, .inr (.inl (qv_setW (qv_for i (fun h9 i => qv_setW h9 b (0 + i) (qv_word g b (0 + i))) f) b (0 + i) (qv_word g b (0 + i)))))), (h2, .inr (1, [.ref a2])), (a2, .inl (cJ, 12544, .inr (.inl (g))))]) (isT := [0]) (isC := [0, 1]) (isR := [2, 3]) (isN := [2, 3, 0, 1]) (k := 3) (ci := 1) (C := R_Im) ⟨hx, hb, hml, hown, hts⟩ (c_Im_setWord l D cJ h a (qv_for i (fun h9 i => qv_setW h9 b (0 + i) (qv_word g b (0 + i))) f) b (0 + i) (qv_word g b (0 + i)) (by omega) (by omega)) (tw_V ml_Im_26 im_Im_setWord se_Im_setWord in_Im cd_Im_setWord) rfl ⟨by decide +kernel, Nat.le_of_ble_eq_true rfl, Nat.le_of_ble_eq_true rfl⟩ ⟨Nat.le_of_ble_eq_true rfl, Nat.le_of_ble_eq_true rfl⟩ hK hP hD hS hA hN rfl ⟨rfl, rfl, rfl, by decide, by decide, by decide, by decide⟩ rfl rfl rfl hl.1 rfl rfl (Nat.le_of_ble_eq_true rfl) d_Im_receive_75 (fun H locs hP hD hS => ?_)
                  refine lv_iinc (v := nI (0 + i + 1)) (lv' := [(6, .int (nI (0 + i + 1))), (0, .ref h), (1, .ref h2), (2, .int (nI b)), (4, .int (nI 1)), (5, .int (nI 0))]) hx hb d_Im_receive_78 hl (k := 5) rfl (nI_1 _) (by decide) rfl (fun ls hl => ?_)
                  refine lv_goto (tgt := 47) hx hb d_Im_receive_81 (by decide) ?_
                  exact ih (()) _ _ _ ⟨hP, hD, hS, lv_sub hl [1, 2, 3, 4, 5, 0] rfl⟩
              · have c51 : ¬ 0 = 0 := fun h9 => c51 ((q_z_eq (by omega)).mpr h9)
                exfalso; omega
        · have c24 : 2 = 3 := (nI_eq (by omega) (by omega)).mp c24
          exfalso; omega
set_option maxHeartbeats 4000000 in
set_option maxRecDepth 100000 in
theorem c_Im_receive3 (l : Launch) (D : va_G) (cJ : ClassId) (h : Nat) (a : Nat) (f : Nat → Int64) (h2 : Nat) (a2 : Nat) (g : Nat → Int64) (b : Nat) (kb : b < 65536) : qMv l y_Im_receive b_Im_receive 7 none (rmL 2) D [(cJ, .long)] [.ref h, .ref h2, .int (nI b), .int (nI 3)] [(h, .inr (1, [.ref a])), (a, .inl (cJ, 12544, .inr (.inl (f)))), (h2, .inr (1, [.ref a2])), (a2, .inl (cJ, 12544, .inr (.inl (g))))] [(h, .inr (1, [.ref a])), (a, .inl (cJ, 12544, .inr (.inl (qv_recv f g b 8 16)))), (h2, .inr (1, [.ref a2])), (a2, .inl (cJ, 12544, .inr (.inl (g))))] := by
  refine q_start (Qc := qZv D _ _) (by decide +kernel) (Nat.le_of_ble_eq_true rfl) ?_
  intro p e s m below meth c A hx hb hr hlk hml hown hts hK hP hD hS hA hN ls hl
  have hl : lv_has ls 7 [(0, .ref h), (1, .ref h2), (2, .int (nI b)), (3, .int (nI 3))] := hl
  have hP : va_P D cls [(h, .inr (1, [.ref a])), (a, .inl (cJ, 12544, .inr (.inl (f)))), (h2, .inr (1, [.ref a2])), (a2, .inl (cJ, 12544, .inr (.inl (g))))] s.heap := hP
  have hD : va_D A [(h, .inr (1, [.ref a])), (a, .inl (cJ, 12544, .inr (.inl (f)))), (h2, .inr (1, [.ref a2])), (a2, .inl (cJ, 12544, .inr (.inl (g))))] := hD
  refine lv_iload_n hx hb d_Im_receive_0 rfl (lv_at hl 3 rfl) ?_
  refine lv_iconst (v := nI 1) hx hb d_Im_receive_1 (by decide) ?_
  refine lv_icmp_eq (tgt := 10) hx hb d_Im_receive_2 (by decide) (fun c2 => ?_) (fun c2 => ?_)
  · have c2 : 3 = 1 := (nI_eq (by omega) (by omega)).mp c2
    exfalso; omega
  · have c2 : ¬ 3 = 1 := fun h9 => c2 ((nI_eq (by omega) (by omega)).mpr h9)
    refine lv_iload_n hx hb d_Im_receive_5 rfl (lv_at hl 3 rfl) ?_
    refine lv_iconst (v := nI 2) hx hb d_Im_receive_6 (by decide) ?_
    refine lv_icmp_ne (tgt := 14) hx hb d_Im_receive_7 (by decide) (fun c7 => ?_) (fun c7 => ?_)
    · have c7 : ¬ 3 = 2 := fun h9 => c7 ((nI_eq (by omega) (by omega)).mpr h9)
      refine lv_iconst (v := nI 0) hx hb d_Im_receive_14 (by decide) ?_
      refine lv_istore (lv' := [(4, .int (nI 0)), (0, .ref h), (1, .ref h2), (2, .int (nI b)), (3, .int (nI 3))]) hx hb d_Im_receive_15 hl (by decide) rfl (fun ls hl => ?_)
      refine lv_iload_n hx hb d_Im_receive_17 rfl (lv_at hl 4 rfl) ?_
      refine lv_iconst (v := nI 1) hx hb d_Im_receive_18 (by decide) ?_
      refine lv_icmp_eq (tgt := 27) hx hb d_Im_receive_19 (by decide) (fun c19 => ?_) (fun c19 => ?_)
      · have c19 : 3 = 1 := (nI_eq (by omega) (by omega)).mp c19
        exfalso; omega
      · have c19 : ¬ 3 = 1 := fun h9 => c19 ((nI_eq (by omega) (by omega)).mpr h9)
        refine lv_iload_n hx hb d_Im_receive_22 rfl (lv_at hl 4 rfl) ?_
        refine lv_iconst (v := nI 3) hx hb d_Im_receive_23 (by decide) ?_
        refine lv_icmp_ne (tgt := 31) hx hb d_Im_receive_24 (by decide) (fun c24 => ?_) (fun c24 => ?_)
        · have c24 : ¬ 3 = 3 := fun h9 => c24 ((nI_eq (by omega) (by omega)).mpr h9)
          exfalso; omega
        · have c24 : 3 = 3 := (nI_eq (by omega) (by omega)).mp c24
          refine lv_iconst (v := nI 1) hx hb d_Im_receive_27 (by decide) ?_
          refine lv_goto (tgt := 32) hx hb d_Im_receive_28 (by decide) ?_
          refine lv_istore (lv' := [(5, .int (nI 1)), (4, .int (nI 0)), (0, .ref h), (1, .ref h2), (2, .int (nI b)), (3, .int (nI 3))]) hx hb d_Im_receive_32 hl (by decide) rfl (fun ls hl => ?_)
          refine lv_iload hx hb d_Im_receive_34 (lv_at hl 1 rfl) ?_
          refine lv_if_eq (tgt := 43) hx hb d_Im_receive_36 (by decide) (fun c36 => ?_) (fun c36 => ?_)
          · have c36 : 0 = 0 := (q_z_eq (by omega)).mp c36
            refine lv_bipush (v := nI 8) hx hb d_Im_receive_43 (by decide) ?_
            refine lv_istore (lv' := [(6, .int (nI 8)), (5, .int (nI 1)), (4, .int (nI 0)), (0, .ref h), (1, .ref h2), (2, .int (nI b)), (3, .int (nI 3))]) hx hb d_Im_receive_45 hl (by decide) rfl (fun ls hl => ?_)
            refine q_loop (pc := 47) (σ := Unit) (I := fun i x H locs ls => va_P D cls [(h, .inr (1, [.ref a])), (a, .inl (cJ, 12544, .inr (.inl (qv_for i (fun h9 i => qv_setW h9 b (8 + i) (qv_word g b (8 + i))) f)))), (h2, .inr (1, [.ref a2])), (a2, .inl (cJ, 12544, .inr (.inl (g))))] H ∧ va_D A [(h, .inr (1, [.ref a])), (a, .inl (cJ, 12544, .inr (.inl (qv_for i (fun h9 i => qv_setW h9 b (8 + i) (qv_word g b (8 + i))) f)))), (h2, .inr (1, [.ref a2])), (a2, .inl (cJ, 12544, .inr (.inl (g))))] ∧ va_S A s.heap H locs ∧ lv_has ls 7 [(0, .ref h), (1, .ref h2), (2, .int (nI b)), (4, .int (nI 0)), (5, .int (nI 1)), (6, .int (nI (8 + i)))]) (8) ?_ ?_ (0) (()) _ _ _ (by omega) ⟨hP, hD, hS, lv_sub hl [3, 4, 5, 2, 1, 0] rfl⟩
            · intro x H locs ls hI
              obtain ⟨hP, hD, hS, hl⟩ := hI
              refine lv_iload hx hb d_Im_receive_47 (lv_at hl 5 rfl) ?_
              refine lv_iload hx hb d_Im_receive_49 (lv_at hl 4 rfl) ?_
              refine lv_if_eq (tgt := 59) hx hb d_Im_receive_51 (by decide) (fun c51 => ?_) (fun c51 => ?_)
              · have c51 : 1 = 0 := (q_z_eq (by omega)).mp c51
                exfalso; omega
              · have c51 : ¬ 1 = 0 := fun h9 => c51 ((q_z_eq (by omega)).mpr h9)
                refine lv_bipush (v := nI 16) hx hb d_Im_receive_54 (by decide) ?_
                refine lv_goto (tgt := 61) hx hb d_Im_receive_56 (by decide) ?_
                refine lv_icmp_ge (tgt := 84) hx hb d_Im_receive_61 (by decide) (fun c61 => ?_) (fun c61 => ?_)
                · have c61 : 16 ≤ (8 + 8) := (nI_leI (by omega) (by omega)).mp c61
                  exact q_vret hx hb hr hlk hK hP hD hS d_Im_receive_84 (rfl)
                · have c61 : ¬ 16 ≤ (8 + 8) := fun h9 => c61 ((nI_leI (by omega) (by omega)).mpr h9)
                  exfalso; omega
            · intro i x H locs ls hi hI ih
              obtain ⟨hP, hD, hS, hl⟩ := hI
              refine lv_iload hx hb d_Im_receive_47 (lv_at hl 5 rfl) ?_
              refine lv_iload hx hb d_Im_receive_49 (lv_at hl 4 rfl) ?_
              refine lv_if_eq (tgt := 59) hx hb d_Im_receive_51 (by decide) (fun c51 => ?_) (fun c51 => ?_)
              · have c51 : 1 = 0 := (q_z_eq (by omega)).mp c51
                exfalso; omega
              · have c51 : ¬ 1 = 0 := fun h9 => c51 ((q_z_eq (by omega)).mpr h9)
                refine lv_bipush (v := nI 16) hx hb d_Im_receive_54 (by decide) ?_
                refine lv_goto (tgt := 61) hx hb d_Im_receive_56 (by decide) ?_
                refine lv_icmp_ge (tgt := 84) hx hb d_Im_receive_61 (by decide) (fun c61 => ?_) (fun c61 => ?_)
                · have c61 : 16 ≤ (8 + i) := (nI_leI (by omega) (by omega)).mp c61
                  exfalso; omega
                · have c61 : ¬ 16 ≤ (8 + i) := fun h9 => c61 ((nI_leI (by omega) (by omega)).mpr h9)
                  refine lv_aload_n hx hb d_Im_receive_64 rfl (lv_at hl 0 rfl) ?_
                  refine lv_iload_n hx hb d_Im_receive_65 rfl (lv_at hl 2 rfl) ?_
                  refine lv_iload hx hb d_Im_receive_66 (lv_at hl 5 rfl) ?_
                  refine lv_aload_n hx hb d_Im_receive_68 rfl (lv_at hl 1 rfl) ?_
                  refine lv_iload_n hx hb d_Im_receive_69 rfl (lv_at hl 2 rfl) ?_
                  refine lv_iload hx hb d_Im_receive_70 (lv_at hl 5 rfl) ?_
                  refine q_callVl (As := [.int (nI b), .int (nI (8 + i))]) (rest := [.int (nI (8 + i)), .int (nI b), .ref h]) (wsC := [(h2, .inr (1, [.ref a2])), (a2, .inl (cJ, 12544, .inr (.inl (g))))]) (wsR := [(h, .inr (1, [.ref a])), (a, .inl (cJ, 12544, .inr (.inl (qv_for i (fun h9 i => qv_setW h9 b (8 + i) (qv_word g b (8 + i))) f))))]) (wsC' := [(h2, .inr (1, [.ref a2])), (a2, .inl (cJ, 12544, .inr (.inl (g))))]) (wsN := [(h, .inr (1, [.ref a])), (a, .inl (cJ, 12544, .inr (.inl (qv_for i (fun h9 i => qv_setW h9 b (8 + i) (qv_word g b (8 + i))) f)))), (h2, .inr (1, [.ref a2])), (a2, .inl (cJ, 12544, .inr (.inl (g))))]) (isT := [0]) (isC := [2, 3]) (isR := [0, 1]) (isN := [0, 1, 2, 3]) (k := 2) (ci := 1) (C := R_Im) ⟨hx, hb, hml, hown, hts⟩ (c_Im_wordAt l D cJ h2 a2 g b (8 + i) (by omega) (by omega)) (tw_V ml_Im_19 im_Im_wordAt se_Im_wordAt in_Im cd_Im_wordAt) rfl ⟨by decide +kernel, Nat.le_of_ble_eq_true rfl, Nat.le_of_ble_eq_true rfl⟩ ⟨Nat.le_of_ble_eq_true rfl, Nat.le_of_ble_eq_true rfl⟩ hK hP hD hS hA hN rfl ⟨rfl, rfl, rfl, by decide, by decide, by decide, by decide⟩ rfl rfl rfl hl.1 rfl rfl (Nat.le_of_ble_eq_true rfl) d_Im_receive_72 (fun H locs hP hD hS => ?_)
                  refine q_callVv (As := [.int (nI b), .int (nI (8 + i)), .long (qv_word g b (8 + i))]) (rest := []) (wsC := [(h, .inr (1, [.ref a])), (a, .inl (cJ, 12544, .inr (.inl (qv_for i (fun h9 i => qv_setW h9 b (8 + i) (qv_word g b (8 + i))) f))))]) (wsR := [(h2, .inr (1, [.ref a2])), (a2, .inl (cJ, 12544, .inr (.inl (g))))]) (wsC' := [(h, .inr (1, [.ref a])), (a, .inl (cJ, 12544, .inr (.inl (qv_setW (qv_for i (fun h9 i => qv_setW h9 b (8 + i) (qv_word g b (8 + i))) f) b (8 + i) (qv_word g b (8 + i))))))]) (wsN := [(h, .inr (1, [.ref a])), (a, .inl (cJ, 12544, .inr (.inl (qv_setW (qv_for i (fun h9 i => qv_setW h9 b (8 + i) (qv_word g b (8 + i))) f) b (8 + i) (qv_word g b (8 + i)))))), (h2, .inr (1, [.ref a2])), (a2, .inl (cJ, 12544, .inr (.inl (g))))]) (isT := [0]) (isC := [0, 1]) (isR := [2, 3]) (isN := [2, 3, 0, 1]) (k := 3) (ci := 1) (C := R_Im) ⟨hx, hb, hml, hown, hts⟩ (c_Im_setWord l D cJ h a (qv_for i (fun h9 i => qv_setW h9 b (8 + i) (qv_word g b (8 + i))) f) b (8 + i) (qv_word g b (8 + i)) (by omega) (by omega)) (tw_V ml_Im_26 im_Im_setWord se_Im_setWord in_Im cd_Im_setWord) rfl ⟨by decide +kernel, Nat.le_of_ble_eq_true rfl, Nat.le_of_ble_eq_true rfl⟩ ⟨Nat.le_of_ble_eq_true rfl, Nat.le_of_ble_eq_true rfl⟩ hK hP hD hS hA hN rfl ⟨rfl, rfl, rfl, by decide, by decide, by decide, by decide⟩ rfl rfl rfl hl.1 rfl rfl (Nat.le_of_ble_eq_true rfl) d_Im_receive_75 (fun H locs hP hD hS => ?_)
                  refine lv_iinc (v := nI (8 + i + 1)) (lv' := [(6, .int (nI (8 + i + 1))), (0, .ref h), (1, .ref h2), (2, .int (nI b)), (4, .int (nI 0)), (5, .int (nI 1))]) hx hb d_Im_receive_78 hl (k := 5) rfl (nI_1 _) (by decide) rfl (fun ls hl => ?_)
                  refine lv_goto (tgt := 47) hx hb d_Im_receive_81 (by decide) ?_
                  exact ih (()) _ _ _ ⟨hP, hD, hS, lv_sub hl [1, 2, 3, 4, 5, 0] rfl⟩
          · have c36 : ¬ 0 = 0 := fun h9 => c36 ((q_z_eq (by omega)).mpr h9)
            exfalso; omega
    · have c7 : 3 = 2 := (nI_eq (by omega) (by omega)).mp c7
      exfalso; omega
theorem c_Im_receive (l : Launch) (D : va_G) (cJ : ClassId) (h : Nat) (a : Nat) (f : Nat → Int64) (h2 : Nat) (a2 : Nat) (g : Nat → Int64) (b : Nat) (pt : Nat) (kb : b < 65536) (kpt : pt < 4) : qMv l y_Im_receive b_Im_receive 7 none (rmL 2) D [(cJ, .long)] [.ref h, .ref h2, .int (nI b), .int (nI pt)] [(h, .inr (1, [.ref a])), (a, .inl (cJ, 12544, .inr (.inl (f)))), (h2, .inr (1, [.ref a2])), (a2, .inl (cJ, 12544, .inr (.inl (g))))] [(h, .inr (1, [.ref a])), (a, .inl (cJ, 12544, .inr (.inl (qv_recvP f g b pt)))), (h2, .inr (1, [.ref a2])), (a2, .inl (cJ, 12544, .inr (.inl (g))))] := by
  rcases (show pt = 0 ∨ pt = 1 ∨ pt = 2 ∨ pt = 3 by omega) with rfl | rfl | rfl | rfl
  · exact c_Im_receive0 l D cJ h a f h2 a2 g b kb
  · exact c_Im_receive1 l D cJ h a f h2 a2 g b kb
  · exact c_Im_receive2 l D cJ h a f h2 a2 g b kb
  · exact c_Im_receive3 l D cJ h a f h2 a2 g b kb
set_option maxHeartbeats 4000000 in
set_option maxRecDepth 100000 in
theorem c_Ar_fillJ (l : Launch) (D : va_G) (cJ : ClassId) (a : Nat) (f : Nat → Int64) (x : Int64) : qMv l y_Ar_fillJ b_Ar_fillJ 5 none (rmL 1) D [(cJ, .long)] [.ref a, .long (x)] [(a, .inl (cJ, 12544, .inr (.inl (f))))] [(a, .inl (cJ, 12544, .inr (.inl (qv_fill f x))))] := by
  refine q_start (Qc := qZv D _ _) (by decide +kernel) (Nat.le_of_ble_eq_true rfl) ?_
  intro p e s m below meth c A hx hb hr hlk hml hown hts hK hP hD hS hA hN ls hl
  have hl : lv_has ls 5 [(0, .ref a), (1, .long (x))] := hl
  have hP : va_P D cls [(a, .inl (cJ, 12544, .inr (.inl (f))))] s.heap := hP
  have hD : va_D A [(a, .inl (cJ, 12544, .inr (.inl (f))))] := hD
  refine lv_iconst (v := nI 0) hx hb d_Ar_fillJ_0 (by decide) ?_
  refine lv_istore_n (lv' := [(3, .int (nI 0)), (0, .ref a), (1, .long (x))]) hx hb d_Ar_fillJ_1 rfl hl (by decide) rfl (fun ls hl => ?_)
  refine lv_aload_n hx hb d_Ar_fillJ_2 rfl (lv_at hl 1 rfl) ?_
  refine va_alen (v := nI 12544) hx hb hK hP 0 0 rfl rfl rfl d_Ar_fillJ_3 ?_
  refine lv_istore (lv' := [(4, .int (nI 12544)), (3, .int (nI 0)), (0, .ref a), (1, .long (x))]) hx hb d_Ar_fillJ_4 hl (by decide) rfl (fun ls hl => ?_)
  refine q_loop (pc := 6) (σ := Unit) (I := fun i u H locs ls => va_P D cls [(a, .inl (cJ, 12544, .inr (.inl (qv_for i (fun g i => vp_updL g i x) f))))] H ∧ va_D A [(a, .inl (cJ, 12544, .inr (.inl (qv_for i (fun g i => vp_updL g i x) f))))] ∧ va_S A s.heap H locs ∧ lv_has ls 5 [(0, .ref a), (1, .long (x)), (3, .int (nI i)), (4, .int (nI 12544))]) (12544) ?_ ?_ (0) (()) _ _ _ (by omega) ⟨hP, hD, hS, lv_sub hl [2, 3, 1, 0] rfl⟩
  · intro u H locs ls hI
    obtain ⟨hP, hD, hS, hl⟩ := hI
    refine lv_iload_n hx hb d_Ar_fillJ_6 rfl (lv_at hl 2 rfl) ?_
    refine lv_iload hx hb d_Ar_fillJ_7 (lv_at hl 3 rfl) ?_
    refine lv_icmp_ge (tgt := 22) hx hb d_Ar_fillJ_9 (by decide) (fun c9 => ?_) (fun c9 => ?_)
    · have c9 : 12544 ≤ 12544 := (nI_leI (by omega) (by omega)).mp c9
      exact q_vret hx hb hr hlk hK hP hD hS d_Ar_fillJ_22 (rfl)
    · have c9 : ¬ 12544 ≤ 12544 := fun h9 => c9 ((nI_leI (by omega) (by omega)).mpr h9)
      exfalso; omega
  · intro i u H locs ls hi hI ih
    obtain ⟨hP, hD, hS, hl⟩ := hI
    refine lv_iload_n hx hb d_Ar_fillJ_6 rfl (lv_at hl 2 rfl) ?_
    refine lv_iload hx hb d_Ar_fillJ_7 (lv_at hl 3 rfl) ?_
    refine lv_icmp_ge (tgt := 22) hx hb d_Ar_fillJ_9 (by decide) (fun c9 => ?_) (fun c9 => ?_)
    · have c9 : 12544 ≤ i := (nI_leI (by omega) (by omega)).mp c9
      exfalso; omega
    · have c9 : ¬ 12544 ≤ i := fun h9 => c9 ((nI_leI (by omega) (by omega)).mpr h9)
      refine lv_aload_n hx hb d_Ar_fillJ_12 rfl (lv_at hl 0 rfl) ?_
      refine lv_iload_n hx hb d_Ar_fillJ_13 rfl (lv_at hl 2 rfl) ?_
      refine lv_lload_n hx hb d_Ar_fillJ_14 rfl (lv_at hl 1 rfl) ?_
      refine va_last hx hb hK hP hD hS 0 0 rfl rfl (vp_in_nI (by omega) (by decide)) d_Ar_fillJ_15 (fun H locs hP hD hS => ?_)
      rw [nI_clamp (by omega)] at hP hD
      have hP : va_P D cls [(a, .inl (cJ, 12544, .inr (.inl (vp_updL (qv_for i (fun g i => vp_updL g i x) f) (i) (x)))))] H := hP
      have hD : va_D A [(a, .inl (cJ, 12544, .inr (.inl (vp_updL (qv_for i (fun g i => vp_updL g i x) f) (i) (x)))))] := hD
      refine lv_iinc (v := nI (i + 1)) (lv' := [(3, .int (nI (i + 1))), (0, .ref a), (1, .long (x)), (4, .int (nI 12544))]) hx hb d_Ar_fillJ_16 hl (k := 2) rfl (nI_1 _) (by decide) rfl (fun ls hl => ?_)
      refine lv_goto (tgt := 6) hx hb d_Ar_fillJ_19 (by decide) ?_
      exact ih (()) _ _ _ ⟨hP, hD, hS, lv_sub hl [1, 2, 0, 3] rfl⟩
set_option maxHeartbeats 4000000 in
set_option maxRecDepth 100000 in
theorem c_Im_forgetAll (l : Launch) (D : va_G) (cJ : ClassId) (h : Nat) (a : Nat) (f : Nat → Int64) : qMv l y_Im_forgetAll b_Im_forgetAll 1 none (rmL 2) D [(cJ, .long)] [.ref h] [(h, .inr (1, [.ref a])), (a, .inl (cJ, 12544, .inr (.inl (f))))] [(h, .inr (1, [.ref a])), (a, .inl (cJ, 12544, .inr (.inl (qv_fill f 0))))] := by
  refine q_start (Qc := qZv D _ _) (by decide +kernel) (Nat.le_of_ble_eq_true rfl) ?_
  intro p e s m below meth c A hx hb hr hlk hml hown hts hK hP hD hS hA hN ls hl
  have hl : lv_has ls 1 [(0, .ref h)] := hl
  have hP : va_P D cls [(h, .inr (1, [.ref a])), (a, .inl (cJ, 12544, .inr (.inl (f))))] s.heap := hP
  have hD : va_D A [(h, .inr (1, [.ref a])), (a, .inl (cJ, 12544, .inr (.inl (f))))] := hD
  refine lv_aload_n hx hb d_Im_forgetAll_0 rfl (lv_at hl 0 rfl) ?_
  refine va_get (D := D) (ci := 1) (v := .ref a) (C := R_Im) (T := F_Im) (N := 1) hx hb hts i_Im hown hK hP 0 rfl rfl 0 (by decide) (hts _ fl_Im_9) (fun _ h9 => h9) rfl d_Im_forgetAll_1 ?_
  refine lv_lconst (v := 0) hx hb d_Im_forgetAll_4 (by decide) ?_
  refine q_callSv (As := [.ref a, .long (0)]) (rest := []) (wsC := [(a, .inl (cJ, 12544, .inr (.inl (f))))]) (wsR := [(h, .inr (1, [.ref a]))]) (wsC' := [(a, .inl (cJ, 12544, .inr (.inl (qv_fill f 0))))]) (wsN := [(h, .inr (1, [.ref a])), (a, .inl (cJ, 12544, .inr (.inl (qv_fill f 0))))]) (isT := [0]) (isC := [1]) (isR := [0]) (isN := [0, 1]) (k := 2) ⟨hx, hb, hml, hown, hts⟩ (c_Ar_fillJ l D cJ a f 0) (tw_S ml_Im_30 st_Ar_fillJ in_Ar cd_Ar_fillJ) ⟨by decide +kernel, Nat.le_of_ble_eq_true rfl, Nat.le_of_ble_eq_true rfl⟩ ⟨Nat.le_of_ble_eq_true rfl, Nat.le_of_ble_eq_true rfl⟩ hK hP hD hS hA hN rfl ⟨rfl, rfl, rfl, by decide, by decide, by decide, by decide⟩ hl.1 rfl rfl (Nat.le_of_ble_eq_true rfl) d_Im_forgetAll_5 (fun H locs hP hD hS => ?_)
  exact q_vret hx hb hr hlk hK hP hD hS d_Im_forgetAll_8 (rfl)
set_option maxHeartbeats 4000000 in
set_option maxRecDepth 100000 in
theorem c_Ar_fillI (l : Launch) (D : va_G) (cI : ClassId) (a : Nat) (f : Nat → Int32) (x : Int32) : qMv l y_Ar_fillI b_Ar_fillI 4 none (rmL 1) D [(cI, .int)] [.ref a, .int (x)] [(a, .inl (cI, 768, .inl (f)))] [(a, .inl (cI, 768, .inl (qv_fillI f x)))] := by
  refine q_start (Qc := qZv D _ _) (by decide +kernel) (Nat.le_of_ble_eq_true rfl) ?_
  intro p e s m below meth c A hx hb hr hlk hml hown hts hK hP hD hS hA hN ls hl
  have hl : lv_has ls 4 [(0, .ref a), (1, .int (x))] := hl
  have hP : va_P D cls [(a, .inl (cI, 768, .inl (f)))] s.heap := hP
  have hD : va_D A [(a, .inl (cI, 768, .inl (f)))] := hD
  refine lv_iconst (v := nI 0) hx hb d_Ar_fillI_0 (by decide) ?_
  refine lv_istore_n (lv' := [(2, .int (nI 0)), (0, .ref a), (1, .int (x))]) hx hb d_Ar_fillI_1 rfl hl (by decide) rfl (fun ls hl => ?_)
  refine lv_aload_n hx hb d_Ar_fillI_2 rfl (lv_at hl 1 rfl) ?_
  refine va_alen (v := nI 768) hx hb hK hP 0 0 rfl rfl rfl d_Ar_fillI_3 ?_
  refine lv_istore_n (lv' := [(3, .int (nI 768)), (2, .int (nI 0)), (0, .ref a), (1, .int (x))]) hx hb d_Ar_fillI_4 rfl hl (by decide) rfl (fun ls hl => ?_)
  refine q_loop (pc := 5) (σ := Unit) (I := fun i u H locs ls => va_P D cls [(a, .inl (cI, 768, .inl (qv_for i (fun g i => upd g i x) f)))] H ∧ va_D A [(a, .inl (cI, 768, .inl (qv_for i (fun g i => upd g i x) f)))] ∧ va_S A s.heap H locs ∧ lv_has ls 4 [(0, .ref a), (1, .int (x)), (2, .int (nI i)), (3, .int (nI 768))]) (768) ?_ ?_ (0) (()) _ _ _ (by omega) ⟨hP, hD, hS, lv_sub hl [2, 3, 1, 0] rfl⟩
  · intro u H locs ls hI
    obtain ⟨hP, hD, hS, hl⟩ := hI
    refine lv_iload_n hx hb d_Ar_fillI_5 rfl (lv_at hl 2 rfl) ?_
    refine lv_iload_n hx hb d_Ar_fillI_6 rfl (lv_at hl 3 rfl) ?_
    refine lv_icmp_ge (tgt := 20) hx hb d_Ar_fillI_7 (by decide) (fun c7 => ?_) (fun c7 => ?_)
    · have c7 : 768 ≤ 768 := (nI_leI (by omega) (by omega)).mp c7
      exact q_vret hx hb hr hlk hK hP hD hS d_Ar_fillI_20 (rfl)
    · have c7 : ¬ 768 ≤ 768 := fun h9 => c7 ((nI_leI (by omega) (by omega)).mpr h9)
      exfalso; omega
  · intro i u H locs ls hi hI ih
    obtain ⟨hP, hD, hS, hl⟩ := hI
    refine lv_iload_n hx hb d_Ar_fillI_5 rfl (lv_at hl 2 rfl) ?_
    refine lv_iload_n hx hb d_Ar_fillI_6 rfl (lv_at hl 3 rfl) ?_
    refine lv_icmp_ge (tgt := 20) hx hb d_Ar_fillI_7 (by decide) (fun c7 => ?_) (fun c7 => ?_)
    · have c7 : 768 ≤ i := (nI_leI (by omega) (by omega)).mp c7
      exfalso; omega
    · have c7 : ¬ 768 ≤ i := fun h9 => c7 ((nI_leI (by omega) (by omega)).mpr h9)
      refine lv_aload_n hx hb d_Ar_fillI_10 rfl (lv_at hl 0 rfl) ?_
      refine lv_iload_n hx hb d_Ar_fillI_11 rfl (lv_at hl 2 rfl) ?_
      refine lv_iload_n hx hb d_Ar_fillI_12 rfl (lv_at hl 1 rfl) ?_
      refine va_iast hx hb hK hP hD hS 0 0 rfl rfl (vp_in_nI (by omega) (by decide)) d_Ar_fillI_13 (fun H locs hP hD hS => ?_)
      rw [nI_clamp (by omega)] at hP hD
      have hP : va_P D cls [(a, .inl (cI, 768, .inl (upd (qv_for i (fun g i => upd g i x) f) (i) (x))))] H := hP
      have hD : va_D A [(a, .inl (cI, 768, .inl (upd (qv_for i (fun g i => upd g i x) f) (i) (x))))] := hD
      refine lv_iinc (v := nI (i + 1)) (lv' := [(2, .int (nI (i + 1))), (0, .ref a), (1, .int (x)), (3, .int (nI 768))]) hx hb d_Ar_fillI_14 hl (k := 2) rfl (nI_1 _) (by decide) rfl (fun ls hl => ?_)
      refine lv_goto (tgt := 5) hx hb d_Ar_fillI_17 (by decide) ?_
      exact ih (()) _ _ _ ⟨hP, hD, hS, lv_sub hl [1, 2, 0, 3] rfl⟩
set_option maxHeartbeats 4000000 in
set_option maxRecDepth 100000 in
theorem c_Im_receiveAll (l : Launch) (D : va_G) (cJ : ClassId) (h : Nat) (a : Nat) (f : Nat → Int64) (h2 : Nat) (a2 : Nat) (g : Nat → Int64) : qMv l y_Im_receiveAll b_Im_receiveAll 2 none (rmL 2) D [(cJ, .long)] [.ref h, .ref h2] [(h, .inr (1, [.ref a])), (a, .inl (cJ, 12544, .inr (.inl (f)))), (h2, .inr (1, [.ref a2])), (a2, .inl (cJ, 12544, .inr (.inl (g))))] [(h, .inr (1, [.ref a])), (a, .inl (cJ, 12544, .inr (.inl (qv_copy g f)))), (h2, .inr (1, [.ref a2])), (a2, .inl (cJ, 12544, .inr (.inl (g))))] := by
  refine q_start (Qc := qZv D _ _) (by decide +kernel) (Nat.le_of_ble_eq_true rfl) ?_
  intro p e s m below meth c A hx hb hr hlk hml hown hts hK hP hD hS hA hN ls hl
  have hl : lv_has ls 2 [(0, .ref h), (1, .ref h2)] := hl
  have hP : va_P D cls [(h, .inr (1, [.ref a])), (a, .inl (cJ, 12544, .inr (.inl (f)))), (h2, .inr (1, [.ref a2])), (a2, .inl (cJ, 12544, .inr (.inl (g))))] s.heap := hP
  have hD : va_D A [(h, .inr (1, [.ref a])), (a, .inl (cJ, 12544, .inr (.inl (f)))), (h2, .inr (1, [.ref a2])), (a2, .inl (cJ, 12544, .inr (.inl (g))))] := hD
  refine lv_aload_n hx hb d_Im_receiveAll_0 rfl (lv_at hl 1 rfl) ?_
  refine va_get (D := D) (ci := 1) (v := .ref a2) (C := R_Im) (T := F_Im) (N := 1) hx hb hts i_Im hown hK hP 2 rfl rfl 0 (by decide) (hts _ fl_Im_9) (fun _ h9 => h9) rfl d_Im_receiveAll_1 ?_
  refine lv_iconst (v := nI 0) hx hb d_Im_receiveAll_4 (by decide) ?_
  refine lv_aload_n hx hb d_Im_receiveAll_5 rfl (lv_at hl 0 rfl) ?_
  refine va_get (D := D) (ci := 1) (v := .ref a) (C := R_Im) (T := F_Im) (N := 1) hx hb hts i_Im hown hK hP 0 rfl rfl 0 (by decide) (hts _ fl_Im_9) (fun _ h9 => h9) rfl d_Im_receiveAll_6 ?_
  refine lv_iconst (v := nI 0) hx hb d_Im_receiveAll_9 (by decide) ?_
  refine lv_aload_n hx hb d_Im_receiveAll_10 rfl (lv_at hl 0 rfl) ?_
  refine va_get (D := D) (ci := 1) (v := .ref a) (C := R_Im) (T := F_Im) (N := 1) hx hb hts i_Im hown hK hP 0 rfl rfl 0 (by decide) (hts _ fl_Im_9) (fun _ h9 => h9) rfl d_Im_receiveAll_11 ?_
  refine va_alen (v := nI 12544) hx hb hK hP 1 0 rfl rfl rfl d_Im_receiveAll_14 ?_
  refine va_copyl hx hb (by rw [hml]; exact hl.1.symm) hown (hts _ ml_Im_36) (hts _ na_arraycopyName) (hts _ st_arraycopyName) (hts _ in_System) hK hP hD hS 3 1 0 0 rfl rfl rfl rfl rfl (by decide) (by decide) (by decide) (by decide) (by decide) (fun _ _ => rfl) (Nat.le_of_ble_eq_true rfl) (by decide) d_Im_receiveAll_15 (fun H locs hP hD hS => ?_)
  have hP : va_P D cls [(h, .inr (1, [.ref a])), (a, .inl (cJ, 12544, .inr (.inl (va_cpy g f (nI 0).toNatClampNeg (nI 0).toNatClampNeg (nI 12544).toNatClampNeg)))), (h2, .inr (1, [.ref a2])), (a2, .inl (cJ, 12544, .inr (.inl (g))))] H := hP
  have hD : va_D A [(h, .inr (1, [.ref a])), (a, .inl (cJ, 12544, .inr (.inl (va_cpy g f (nI 0).toNatClampNeg (nI 0).toNatClampNeg (nI 12544).toNatClampNeg)))), (h2, .inr (1, [.ref a2])), (a2, .inl (cJ, 12544, .inr (.inl (g))))] := hD
  rw [nI_clamp (by decide), nI_clamp (by decide)] at hP hD
  exact q_vret hx hb hr hlk hK hP hD hS d_Im_receiveAll_18 (rfl)
