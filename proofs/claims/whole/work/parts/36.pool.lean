def qa_vl (f : Nat → Int64) (T : Nat) (c i : Nat) (met : Nat → Int32) : Nat × (Nat → Int32) := match c with
  | 0 => (0, met)
  | c + 1 => if (qa_vis f 2 met (qv_rt f T i)).1 = 0 then qa_vl f T c (i + 1) (qa_vis f 2 met (qv_rt f T i)).2 else ((qa_vis f 2 met (qv_rt f T i)).1, (qa_vis f 2 met (qv_rt f T i)).2)
def qa_cmp (f : Nat → Int64) (T : Nat) (met : Nat → Int32) (c i : Nat) : Nat := match c with
  | 0 => 0
  | c + 1 => if met i - met i / nI 65536 * nI 65536 = nI (qv_wy f T (16 + i)) then qa_cmp f T met c (i + 1) else 16 + i
def qa_first (f : Nat → Int64) (T : Nat) (met : Nat → Int32) : Nat × (Nat → Int32) := if (qa_vl f T 16 0 (qv_fillI met (nI 0))).1 = 0 then (qa_cmp f T (qa_vl f T 16 0 (qv_fillI met (nI 0))).2 768 0, (qa_vl f T 16 0 (qv_fillI met (nI 0))).2) else qa_vl f T 16 0 (qv_fillI met (nI 0))
theorem qa_vl_go {f : Nat → Int64} {T c i : Nat} {met : Nat → Int32} (h : (qa_vis f 2 met (qv_rt f T i)).1 = 0) : qa_vl f T (c + 1) i met = qa_vl f T c (i + 1) (qa_vis f 2 met (qv_rt f T i)).2 := by
  conv => lhs; unfold qa_vl
  rw [if_pos h]
theorem qa_vl_bad {f : Nat → Int64} {T c i : Nat} {met : Nat → Int32} (h : ¬ (qa_vis f 2 met (qv_rt f T i)).1 = 0) : qa_vl f T (c + 1) i met = ((qa_vis f 2 met (qv_rt f T i)).1, (qa_vis f 2 met (qv_rt f T i)).2) := by
  conv => lhs; unfold qa_vl
  rw [if_neg h]
theorem qa_cmp_go {f : Nat → Int64} {T c i : Nat} {met : Nat → Int32} (h : met i - met i / nI 65536 * nI 65536 = nI (qv_wy f T (16 + i))) : qa_cmp f T met (c + 1) i = qa_cmp f T met c (i + 1) := by
  conv => lhs; unfold qa_cmp
  rw [if_pos h]
theorem qa_cmp_bad {f : Nat → Int64} {T c i : Nat} {met : Nat → Int32} (h : ¬ met i - met i / nI 65536 * nI 65536 = nI (qv_wy f T (16 + i))) : qa_cmp f T met (c + 1) i = 16 + i := by
  conv => lhs; unfold qa_cmp
  rw [if_neg h]
theorem qa_first_done {f : Nat → Int64} {T : Nat} {met m : Nat → Int32} (h : qa_vl f T 16 0 (qv_fillI met (nI 0)) = (0, m)) : qa_first f T met = (qa_cmp f T m 768 0, m) := by
  unfold qa_first
  rw [h, if_pos rfl]
theorem qa_first_bad {f : Nat → Int64} {T r : Nat} {met m : Nat → Int32} (h : qa_vl f T 16 0 (qv_fillI met (nI 0)) = (r, m)) (hr : ¬ r = 0) : qa_first f T met = (r, m) := by
  unfold qa_first
  rw [h, if_neg hr]
theorem qa_cmp_lt (f : Nat → Int64) (T : Nat) (met : Nat → Int32) : ∀ c i, c + i ≤ 768 → qa_cmp f T met c i < 65536 := by
  intro c
  induction c with
  | zero => intro i _; show 0 < 65536; decide
  | succ c ih =>
    intro i hi
    by_cases h : met i - met i / nI 65536 * nI 65536 = nI (qv_wy f T (16 + i))
    · rw [qa_cmp_go h]; exact ih _ (by omega)
    · rw [qa_cmp_bad h]; omega
theorem qa_vl_lt (f : Nat → Int64) (T : Nat) : ∀ c i (met : Nat → Int32), (qa_vl f T c i met).1 < 65536 := by
  intro c
  induction c with
  | zero => intro i met; show 0 < 65536; decide
  | succ c ih =>
    intro i met
    by_cases h : (qa_vis f 2 met (qv_rt f T i)).1 = 0
    · rw [qa_vl_go h]; exact ih _ _
    · rw [qa_vl_bad h]; exact qa_vis_lt _ _ _ _ (qv_rt_lt _ _ _)
theorem qa_first_lt (f : Nat → Int64) (T : Nat) (met : Nat → Int32) : (qa_first f T met).1 < 65536 := by
  unfold qa_first
  split
  · exact qa_cmp_lt _ _ _ _ _ (by omega)
  · exact qa_vl_lt _ _ _ _ _
/-! what the class says of numbers that it is given -/
abbrev qp_in (v : Int32) (n : Nat) : Prop := ¬ v < 0 ∧ ¬ nI n ≤ v
abbrev qp_by (v : Int32) : Prop := ¬ v < 0 ∧ ¬ nI 255 < v
abbrev qp_bs (u n : Int32) : Prop := ¬ n < nI 1 ∧ ¬ nI 128 < n ∧ ¬ u < 0 ∧ ¬ nI 128 - n < u
def qp_b (p : Prop) [Decidable p] : Int32 := if p then nI 1 else nI 0
theorem qp_b_t {p : Prop} [Decidable p] (h : p) : qp_b p = nI 1 := if_pos h
theorem qp_b_f {p : Prop} [Decidable p] (h : ¬ p) : qp_b p = nI 0 := if_neg h
theorem qp_b_ne {p : Prop} [Decidable p] (h : ¬ qp_b p = 0) : p := by
  by_cases q : p
  · exact q
  · exact absurd (qp_b_f q) h
theorem qp_b_eq {p : Prop} [Decidable p] (h : qp_b p = 0) : ¬ p := fun q => by
  rw [qp_b_t q] at h
  exact absurd h (by decide)
theorem qp_of {v : Int32} {n : Nat} (hn : n < 2 ^ 31) (h : qp_in v n) : ∃ j, j < n ∧ v = nI j := by
  rcases pk_ix v hn with q | q | q
  · exact absurd q h.1
  · exact absurd q h.2
  · exact q
theorem qp_ofB {v : Int32} (h : qp_by v) : ∃ j, j < 256 ∧ v = nI j := by
  obtain ⟨j, h1, h2⟩ := nI_of h.1
  refine ⟨j, ?_, h2⟩
  subst h2
  have := h.2
  rw [nI_ltI (by decide) h1] at this
  omega
theorem qp_nI {j n : Nat} (hj : j < n) (hn : n < 2 ^ 31) : qp_in (nI j) n := ⟨nI_pos (by omega), fun q => by rw [nI_leI hn (by omega)] at q; omega⟩
theorem qp_nIB {j : Nat} (hj : j < 256) : qp_by (nI j) := ⟨nI_pos (by omega), fun q => by rw [nI_ltI (by decide) (by omega)] at q; omega⟩
abbrev qp_th (f : Nat → Int64) (T : Nat) (v : Int32) : Prop := qp_in v 16 ∧ qv_rt f T v.toNatClampNeg ≠ 0
theorem qp_thN {f : Nat → Int64} {T n : Nat} (hn : n < 16) : qp_th f T (nI n) ↔ qv_rt f T n ≠ 0 := by
  unfold qp_th
  rw [nI_clamp (by omega)]
  exact ⟨fun q => q.2, fun q => ⟨qp_nI hn (by decide), q⟩⟩
set_option maxHeartbeats 4000000 in
set_option maxRecDepth 100000 in
theorem c_Au_firstFault (l : Launch) (D : va_G) (cI : ClassId) (cJ : ClassId) (au : Nat) (mt : Nat) (met : Nat → Int32) (h : Nat) (a : Nat) (f : Nat → Int64) (t : Nat) (T : Nat) (kT : T < 1000) : qMi l y_Au_firstFault b_Au_firstFault 5 (some .int) (rmL 7) D [(cI, .int), (cJ, .long)] [.ref au, .ref h, .ref t] [(au, .inr (0, [.ref mt])), (mt, .inl (cI, 768, .inl (met))), (t, .inr (2, [.ref h, .int (nI T)])), (h, .inr (1, [.ref a])), (a, .inl (cJ, 12544, .inr (.inl (f))))] [(au, .inr (0, [.ref mt])), (mt, .inl (cI, 768, .inl ((qa_first f T met).2))), (t, .inr (2, [.ref h, .int (nI T)])), (h, .inr (1, [.ref a])), (a, .inl (cJ, 12544, .inr (.inl (f))))] (nI (qa_first f T met).1) := by
  refine q_start (Qc := qZi D _ _ _) (by decide +kernel) (Nat.le_of_ble_eq_true rfl) ?_
  intro p e s m below meth c A hx hb hr hlk hml hown hts hK hP hD hS hA hN ls hl
  have hl : lv_has ls 5 [(0, .ref au), (1, .ref h), (2, .ref t)] := hl
  have hP : va_P D cls [(au, .inr (0, [.ref mt])), (mt, .inl (cI, 768, .inl (met))), (t, .inr (2, [.ref h, .int (nI T)])), (h, .inr (1, [.ref a])), (a, .inl (cJ, 12544, .inr (.inl (f))))] s.heap := hP
  have hD : va_D A [(au, .inr (0, [.ref mt])), (mt, .inl (cI, 768, .inl (met))), (t, .inr (2, [.ref h, .int (nI T)])), (h, .inr (1, [.ref a])), (a, .inl (cJ, 12544, .inr (.inl (f))))] := hD
  refine lv_aload_n hx hb d_Au_firstFault_0 rfl (lv_at hl 0 rfl) ?_
  refine va_get (D := D) (ci := 0) (v := .ref mt) (C := R_Au) (T := F_Au) (N := 1) hx hb hts i_Au hown hK hP 0 rfl rfl 0 (by decide) (hts _ fl_Au_9) (fun _ h9 => h9) rfl d_Au_firstFault_1 ?_
  refine lv_iconst (v := nI 0) hx hb d_Au_firstFault_4 (by decide) ?_
  refine q_callSv (As := [.ref mt, .int (nI 0)]) (rest := []) (wsC := [(mt, .inl (cI, 768, .inl (met)))]) (wsR := [(au, .inr (0, [.ref mt])), (t, .inr (2, [.ref h, .int (nI T)])), (h, .inr (1, [.ref a])), (a, .inl (cJ, 12544, .inr (.inl (f))))]) (wsC' := [(mt, .inl (cI, 768, .inl (qv_fillI met (nI 0))))]) (wsN := [(au, .inr (0, [.ref mt])), (mt, .inl (cI, 768, .inl (qv_fillI met (nI 0)))), (t, .inr (2, [.ref h, .int (nI T)])), (h, .inr (1, [.ref a])), (a, .inl (cJ, 12544, .inr (.inl (f))))]) (isT := [0]) (isC := [1]) (isR := [0, 2, 3, 4]) (isN := [0, 4, 1, 2, 3]) (k := 2) ⟨hx, hb, hml, hown, hts⟩ (c_Ar_fillI l D cI mt met (nI 0)) (tw_S ml_Au_15 st_Ar_fillI in_Ar cd_Ar_fillI) ⟨by decide +kernel, Nat.le_of_ble_eq_true rfl, Nat.le_of_ble_eq_true rfl⟩ ⟨Nat.le_of_ble_eq_true rfl, Nat.le_of_ble_eq_true rfl⟩ hK hP hD hS hA hN rfl ⟨rfl, rfl, rfl, by decide, by decide, by decide, by decide⟩ hl.1 rfl rfl (Nat.le_of_ble_eq_true rfl) d_Au_firstFault_5 (fun H locs hP hD hS => ?_)
  refine lv_iconst (v := nI 0) hx hb d_Au_firstFault_8 (by decide) ?_
  refine lv_istore_n (lv' := [(3, .int (nI 0)), (0, .ref au), (1, .ref h), (2, .ref t)]) hx hb d_Au_firstFault_9 rfl hl (by decide) rfl (fun ls hl => ?_)
  refine q_loop (pc := 10) (σ := Nat → Int32) (I := fun i x H locs ls => va_P D cls [(au, .inr (0, [.ref mt])), (mt, .inl (cI, 768, .inl (x))), (t, .inr (2, [.ref h, .int (nI T)])), (h, .inr (1, [.ref a])), (a, .inl (cJ, 12544, .inr (.inl (f))))] H ∧ va_D A [(au, .inr (0, [.ref mt])), (mt, .inl (cI, 768, .inl (x))), (t, .inr (2, [.ref h, .int (nI T)])), (h, .inr (1, [.ref a])), (a, .inl (cJ, 12544, .inr (.inl (f))))] ∧ va_S A s.heap H locs ∧ lv_has ls 5 [(0, .ref au), (1, .ref h), (2, .ref t), (3, .int (nI i))] ∧ (qa_vl f T 16 0 (qv_fillI met (nI 0)) = qa_vl f T (16 - i) i x)) (16) ?_ ?_ (0) (qv_fillI met (nI 0)) _ _ _ (by omega) ⟨hP, hD, hS, lv_sub hl [1, 2, 3, 0] rfl, rfl⟩
  · intro x H locs ls hI
    obtain ⟨hP, hD, hS, hl, hF⟩ := hI
    refine lv_iload_n hx hb d_Au_firstFault_10 rfl (lv_at hl 3 rfl) ?_
    refine lv_bipush (v := nI 16) hx hb d_Au_firstFault_11 (by decide) ?_
    refine lv_icmp_ge (tgt := 43) hx hb d_Au_firstFault_13 (by decide) (fun c13 => ?_) (fun c13 => ?_)
    · have c13 : 16 ≤ 16 := (nI_leI (by omega) (by omega)).mp c13
      have hF0 : qa_vl f T 16 0 (qv_fillI met (nI 0)) = (0, x) := hF
      refine lv_iconst (v := nI 0) hx hb d_Au_firstFault_43 (by decide) ?_
      refine lv_istore_n (lv' := [(3, .int (nI 0)), (0, .ref au), (1, .ref h), (2, .ref t)]) hx hb d_Au_firstFault_44 rfl hl (by decide) rfl (fun ls hl => ?_)
      refine q_loop (pc := 45) (σ := Unit) (I := fun j u H locs ls => va_P D cls [(au, .inr (0, [.ref mt])), (mt, .inl (cI, 768, .inl (x))), (t, .inr (2, [.ref h, .int (nI T)])), (h, .inr (1, [.ref a])), (a, .inl (cJ, 12544, .inr (.inl (f))))] H ∧ va_D A [(au, .inr (0, [.ref mt])), (mt, .inl (cI, 768, .inl (x))), (t, .inr (2, [.ref h, .int (nI T)])), (h, .inr (1, [.ref a])), (a, .inl (cJ, 12544, .inr (.inl (f))))] ∧ va_S A s.heap H locs ∧ lv_has ls 5 [(0, .ref au), (2, .ref t), (3, .int (nI j))] ∧ (qa_cmp f T x 768 0 = qa_cmp f T x (768 - j) j)) (768) ?_ ?_ (0) (()) _ _ _ (by omega) ⟨hP, hD, hS, lv_sub hl [1, 3, 0] rfl, rfl⟩
      · intro u H locs ls hI
        obtain ⟨hP, hD, hS, hl, hF⟩ := hI
        refine lv_iload_n hx hb d_Au_firstFault_45 rfl (lv_at hl 2 rfl) ?_
        refine lv_sipush (v := nI 768) hx hb d_Au_firstFault_46 (by decide) ?_
        refine lv_icmp_ge (tgt := 83) hx hb d_Au_firstFault_49 (by decide) (fun c49 => ?_) (fun c49 => ?_)
        · have c49 : 768 ≤ 768 := (nI_leI (by omega) (by omega)).mp c49
          refine lv_iconst (v := nI 0) hx hb d_Au_firstFault_83 (by decide) ?_
          exact q_iret hx hb hr hlk hK hP hD hS d_Au_firstFault_84 (by rw [qa_first_done hF0, hF]; rfl) (by rw [qa_first_done hF0])
        · have c49 : ¬ 768 ≤ 768 := fun h9 => c49 ((nI_leI (by omega) (by omega)).mpr h9)
          exfalso; omega
      · intro j u H locs ls hi hI ih
        obtain ⟨hP, hD, hS, hl, hF⟩ := hI
        have hF9 := hF
        refine lv_iload_n hx hb d_Au_firstFault_45 rfl (lv_at hl 2 rfl) ?_
        refine lv_sipush (v := nI 768) hx hb d_Au_firstFault_46 (by decide) ?_
        refine lv_icmp_ge (tgt := 83) hx hb d_Au_firstFault_49 (by decide) (fun c49 => ?_) (fun c49 => ?_)
        · have c49 : 768 ≤ j := (nI_leI (by omega) (by omega)).mp c49
          exfalso; omega
        · have c49 : ¬ 768 ≤ j := fun h9 => c49 ((nI_leI (by omega) (by omega)).mpr h9)
          refine lv_aload_n hx hb d_Au_firstFault_52 rfl (lv_at hl 0 rfl) ?_
          refine va_get (D := D) (ci := 0) (v := .ref mt) (C := R_Au) (T := F_Au) (N := 1) hx hb hts i_Au hown hK hP 0 rfl rfl 0 (by decide) (hts _ fl_Au_9) (fun _ h9 => h9) rfl d_Au_firstFault_53 ?_
          refine lv_iload_n hx hb d_Au_firstFault_56 rfl (lv_at hl 2 rfl) ?_
          refine va_iald hx hb hK hP 1 0 rfl rfl (vp_in_nI (by omega) (by decide)) d_Au_firstFault_57 ?_
          refine q_ti (y := x (j)) (by rw [nI_clamp (by omega)]) ?_
          refine lv_ldc hx hb hown (hts _ kc_Au_31) d_Au_firstFault_58 ?_
          refine q_ti (y := nI 65536) (by decide) ?_
          refine lv_irem hx hb d_Au_firstFault_60 (by decide) ?_
          refine lv_aload_n hx hb d_Au_firstFault_61 rfl (lv_at hl 1 rfl) ?_
          refine lv_bipush (v := nI 16) hx hb d_Au_firstFault_62 (by decide) ?_
          refine lv_iload_n hx hb d_Au_firstFault_64 rfl (lv_at hl 2 rfl) ?_
          refine lv_iadd hx hb d_Au_firstFault_65 ?_
          refine q_ti (y := nI (16 + j)) (nI_add _ _) ?_
          refine q_callVi (As := [.int (nI (16 + j))]) (rest := [.int ((x (j)) - (x (j)) / (nI 65536) * (nI 65536))]) (wsC := [(t, .inr (2, [.ref h, .int (nI T)])), (h, .inr (1, [.ref a])), (a, .inl (cJ, 12544, .inr (.inl (f))))]) (wsR := [(au, .inr (0, [.ref mt])), (mt, .inl (cI, 768, .inl (x)))]) (wsC' := [(t, .inr (2, [.ref h, .int (nI T)])), (h, .inr (1, [.ref a])), (a, .inl (cJ, 12544, .inr (.inl (f))))]) (wsN := [(au, .inr (0, [.ref mt])), (mt, .inl (cI, 768, .inl (x))), (t, .inr (2, [.ref h, .int (nI T)])), (h, .inr (1, [.ref a])), (a, .inl (cJ, 12544, .inr (.inl (f))))]) (isT := [1]) (isC := [2, 3, 4]) (isR := [0, 1]) (isN := [0, 1, 2, 3, 4]) (k := 1) (ci := 2) (C := R_Tb) ⟨hx, hb, hml, hown, hts⟩ (c_Tb_waysTo l D cJ t T h a f (16 + j) (by omega) (by omega)) (tw_V ml_Au_32 im_Tb_waysTo se_Tb_waysTo in_Tb cd_Tb_waysTo) rfl ⟨by decide +kernel, Nat.le_of_ble_eq_true rfl, Nat.le_of_ble_eq_true rfl⟩ ⟨Nat.le_of_ble_eq_true rfl, Nat.le_of_ble_eq_true rfl⟩ hK hP hD hS hA hN rfl ⟨rfl, rfl, rfl, by decide, by decide, by decide, by decide⟩ rfl rfl rfl hl.1 rfl rfl (Nat.le_of_ble_eq_true rfl) d_Au_firstFault_66 (fun H locs hP hD hS => ?_)
          have hq1 := qv_wy_lt f T (16 + j)
          refine lv_icmp_eq (tgt := 77) hx hb d_Au_firstFault_69 (by decide) (fun c69 => ?_) (fun c69 => ?_)
          · refine lv_iinc (v := nI (j + 1)) (lv' := [(3, .int (nI (j + 1))), (0, .ref au), (2, .ref t)]) hx hb d_Au_firstFault_77 hl (k := 2) rfl (nI_1 _) (by decide) rfl (fun ls hl => ?_)
            refine lv_goto (tgt := 45) hx hb d_Au_firstFault_80 (by decide) ?_
            exact ih (()) _ _ _ ⟨hP, hD, hS, lv_sub hl [1, 2, 0] rfl, by rw [hF, show 768 - j = (767 - j) + 1 by omega, qa_cmp_go c69, show 768 - (j + 1) = 767 - j by omega]⟩
          · refine lv_bipush (v := nI 16) hx hb d_Au_firstFault_72 (by decide) ?_
            refine lv_iload_n hx hb d_Au_firstFault_74 rfl (lv_at hl 2 rfl) ?_
            refine lv_iadd hx hb d_Au_firstFault_75 ?_
            refine q_ti (y := nI (16 + j)) (nI_add _ _) ?_
            exact q_iret hx hb hr hlk hK hP hD hS d_Au_firstFault_76 (by rw [qa_first_done hF0, hF, show 768 - j = (767 - j) + 1 by omega, qa_cmp_bad c69]) (by rw [qa_first_done hF0])
    · have c13 : ¬ 16 ≤ 16 := fun h9 => c13 ((nI_leI (by omega) (by omega)).mpr h9)
      exfalso; omega
  · intro i x H locs ls hi hI ih
    obtain ⟨hP, hD, hS, hl, hF⟩ := hI
    have h7 : 16 - i = (15 - i) + 1 := by omega
    refine lv_iload_n hx hb d_Au_firstFault_10 rfl (lv_at hl 3 rfl) ?_
    refine lv_bipush (v := nI 16) hx hb d_Au_firstFault_11 (by decide) ?_
    refine lv_icmp_ge (tgt := 43) hx hb d_Au_firstFault_13 (by decide) (fun c13 => ?_) (fun c13 => ?_)
    · have c13 : 16 ≤ i := (nI_leI (by omega) (by omega)).mp c13
      exfalso; omega
    · have c13 : ¬ 16 ≤ i := fun h9 => c13 ((nI_leI (by omega) (by omega)).mpr h9)
      refine lv_aload_n hx hb d_Au_firstFault_16 rfl (lv_at hl 0 rfl) ?_
      refine lv_aload_n hx hb d_Au_firstFault_17 rfl (lv_at hl 1 rfl) ?_
      refine lv_aload_n hx hb d_Au_firstFault_18 rfl (lv_at hl 2 rfl) ?_
      refine lv_iload_n hx hb d_Au_firstFault_19 rfl (lv_at hl 3 rfl) ?_
      refine q_callVi (As := [.int (nI i)]) (rest := [.ref h, .ref au]) (wsC := [(t, .inr (2, [.ref h, .int (nI T)])), (h, .inr (1, [.ref a])), (a, .inl (cJ, 12544, .inr (.inl (f))))]) (wsR := [(au, .inr (0, [.ref mt])), (mt, .inl (cI, 768, .inl (x)))]) (wsC' := [(t, .inr (2, [.ref h, .int (nI T)])), (h, .inr (1, [.ref a])), (a, .inl (cJ, 12544, .inr (.inl (f))))]) (wsN := [(au, .inr (0, [.ref mt])), (mt, .inl (cI, 768, .inl (x))), (t, .inr (2, [.ref h, .int (nI T)])), (h, .inr (1, [.ref a])), (a, .inl (cJ, 12544, .inr (.inl (f))))]) (isT := [1]) (isC := [2, 3, 4]) (isR := [0, 1]) (isN := [0, 1, 2, 3, 4]) (k := 1) (ci := 2) (C := R_Tb) ⟨hx, hb, hml, hown, hts⟩ (c_Tb_rootOf l D cJ t T h a f i (by omega) (by omega)) (tw_V ml_Au_21 im_Tb_rootOf se_Tb_rootOf in_Tb cd_Tb_rootOf) rfl ⟨by decide +kernel, Nat.le_of_ble_eq_true rfl, Nat.le_of_ble_eq_true rfl⟩ ⟨Nat.le_of_ble_eq_true rfl, Nat.le_of_ble_eq_true rfl⟩ hK hP hD hS hA hN rfl ⟨rfl, rfl, rfl, by decide, by decide, by decide, by decide⟩ rfl rfl rfl hl.1 rfl rfl (Nat.le_of_ble_eq_true rfl) d_Au_firstFault_20 (fun H locs hP hD hS => ?_)
      have hq2 := qv_rt_lt f T i
      refine lv_iconst (v := nI 2) hx hb d_Au_firstFault_23 (by decide) ?_
      refine q_callVi (As := [.ref h, .int (nI (qv_rt f T i)), .int (nI 2)]) (rest := []) (wsC := [(au, .inr (0, [.ref mt])), (mt, .inl (cI, 768, .inl (x))), (h, .inr (1, [.ref a])), (a, .inl (cJ, 12544, .inr (.inl (f))))]) (wsR := [(t, .inr (2, [.ref h, .int (nI T)]))]) (wsC' := [(au, .inr (0, [.ref mt])), (mt, .inl (cI, 768, .inl ((qa_vis f 2 x (qv_rt f T i)).2))), (h, .inr (1, [.ref a])), (a, .inl (cJ, 12544, .inr (.inl (f))))]) (wsN := [(au, .inr (0, [.ref mt])), (mt, .inl (cI, 768, .inl ((qa_vis f 2 x (qv_rt f T i)).2))), (t, .inr (2, [.ref h, .int (nI T)])), (h, .inr (1, [.ref a])), (a, .inl (cJ, 12544, .inr (.inl (f))))]) (isT := [0, 1]) (isC := [0, 1, 3, 4]) (isR := [2]) (isN := [1, 2, 0, 3, 4]) (k := 3) (ci := 0) (C := R_Au) ⟨hx, hb, hml, hown, hts⟩ (c_Au_visit2 l D cI cJ au mt x h a f (qv_rt f T i) (by omega)) (tw_V ml_Au_27 im_Au_visit se_Au_visit in_Au cd_Au_visit) rfl ⟨by decide +kernel, Nat.le_of_ble_eq_true rfl, Nat.le_of_ble_eq_true rfl⟩ ⟨Nat.le_of_ble_eq_true rfl, Nat.le_of_ble_eq_true rfl⟩ hK hP hD hS hA hN rfl ⟨rfl, rfl, rfl, by decide, by decide, by decide, by decide⟩ rfl rfl rfl hl.1 rfl rfl (Nat.le_of_ble_eq_true rfl) d_Au_firstFault_24 (fun H locs hP hD hS => ?_)
      have hq3 := qa_vis_lt f 2 x (qv_rt f T i) (by omega)
      refine lv_istore (lv' := [(4, .int (nI (qa_vis f 2 x (qv_rt f T i)).1)), (0, .ref au), (1, .ref h), (2, .ref t), (3, .int (nI i))]) hx hb d_Au_firstFault_27 hl (by decide) rfl (fun ls hl => ?_)
      refine lv_iload hx hb d_Au_firstFault_29 (lv_at hl 0 rfl) ?_
      refine lv_if_eq (tgt := 37) hx hb d_Au_firstFault_31 (by decide) (fun c31 => ?_) (fun c31 => ?_)
      · have c31 : ((qa_vis f 2 x (qv_rt f T i)).1) = 0 := (q_z_eq (by omega)).mp c31
        refine lv_iinc (v := nI (i + 1)) (lv' := [(3, .int (nI (i + 1))), (4, .int (nI (qa_vis f 2 x (qv_rt f T i)).1)), (0, .ref au), (1, .ref h), (2, .ref t)]) hx hb d_Au_firstFault_37 hl (k := 4) rfl (nI_1 _) (by decide) rfl (fun ls hl => ?_)
        refine lv_goto (tgt := 10) hx hb d_Au_firstFault_40 (by decide) ?_
        exact ih ((qa_vis f 2 x (qv_rt f T i)).2) _ _ _ ⟨hP, hD, hS, lv_sub hl [2, 3, 4, 0] rfl, by rw [hF, h7, qa_vl_go c31, show 16 - (i + 1) = 15 - i by omega]⟩
      · have c31 : ¬ ((qa_vis f 2 x (qv_rt f T i)).1) = 0 := fun h9 => c31 ((q_z_eq (by omega)).mpr h9)
        refine lv_iload hx hb d_Au_firstFault_34 (lv_at hl 0 rfl) ?_
        exact q_iret hx hb hr hlk hK hP hD hS d_Au_firstFault_36 (by rw [qa_first_bad (by rw [hF, h7, qa_vl_bad c31]) c31]) (by rw [qa_first_bad (by rw [hF, h7, qa_vl_bad c31]) c31])
set_option maxHeartbeats 4000000 in
set_option maxRecDepth 100000 in
theorem c_Tp_isVolume (l : Launch) (D : va_G) (v : Int32) : qMi l y_Tp_isVolume b_Tp_isVolume 1 (some .boolean) (rmL 1) D [] [.int (v)] [] [] (qp_b (qp_in v 16)) := by
  refine q_start (Qc := qZi D _ _ _) (by decide +kernel) (Nat.le_of_ble_eq_true rfl) ?_
  intro p e s m below meth c A hx hb hr hlk hml hown hts hK hP hD hS hA hN ls hl
  have hl : lv_has ls 1 [(0, .int (v))] := hl
  have hP : va_P D cls [] s.heap := hP
  have hD : va_D A [] := hD
  refine lv_iload_n hx hb d_Tp_isVolume_0 rfl (lv_at hl 0 rfl) ?_
  refine lv_if_lt (tgt := 14) hx hb d_Tp_isVolume_1 (by decide) (fun c1 => ?_) (fun c1 => ?_)
  · refine lv_iconst (v := nI 0) hx hb d_Tp_isVolume_14 (by decide) ?_
    exact q_zret (ty := .boolean) hx hb hr (by decide) hlk hK hP hD hS d_Tp_isVolume_15 (by rw [qp_b_f (fun q => q.1 c1)]) (rfl)
  · refine lv_iload_n hx hb d_Tp_isVolume_4 rfl (lv_at hl 0 rfl) ?_
    refine lv_bipush (v := nI 16) hx hb d_Tp_isVolume_5 (by decide) ?_
    refine lv_icmp_ge (tgt := 14) hx hb d_Tp_isVolume_7 (by decide) (fun c7 => ?_) (fun c7 => ?_)
    · refine lv_iconst (v := nI 0) hx hb d_Tp_isVolume_14 (by decide) ?_
      exact q_zret (ty := .boolean) hx hb hr (by decide) hlk hK hP hD hS d_Tp_isVolume_15 (by rw [qp_b_f (fun q => q.2 c7)]) (rfl)
    · refine lv_iconst (v := nI 1) hx hb d_Tp_isVolume_10 (by decide) ?_
      refine lv_goto (tgt := 15) hx hb d_Tp_isVolume_11 (by decide) ?_
      exact q_zret (ty := .boolean) hx hb hr (by decide) hlk hK hP hD hS d_Tp_isVolume_15 (by rw [qp_b_t ⟨c1, c7⟩]) (rfl)
set_option maxHeartbeats 4000000 in
set_option maxRecDepth 100000 in
theorem c_Tp_isNote (l : Launch) (D : va_G) (v : Int32) : qMi l y_Tp_isNote b_Tp_isNote 1 (some .boolean) (rmL 1) D [] [.int (v)] [] [] (qp_b (qp_in v 32)) := by
  refine q_start (Qc := qZi D _ _ _) (by decide +kernel) (Nat.le_of_ble_eq_true rfl) ?_
  intro p e s m below meth c A hx hb hr hlk hml hown hts hK hP hD hS hA hN ls hl
  have hl : lv_has ls 1 [(0, .int (v))] := hl
  have hP : va_P D cls [] s.heap := hP
  have hD : va_D A [] := hD
  refine lv_iload_n hx hb d_Tp_isNote_0 rfl (lv_at hl 0 rfl) ?_
  refine lv_if_lt (tgt := 14) hx hb d_Tp_isNote_1 (by decide) (fun c1 => ?_) (fun c1 => ?_)
  · refine lv_iconst (v := nI 0) hx hb d_Tp_isNote_14 (by decide) ?_
    exact q_zret (ty := .boolean) hx hb hr (by decide) hlk hK hP hD hS d_Tp_isNote_15 (by rw [qp_b_f (fun q => q.1 c1)]) (rfl)
  · refine lv_iload_n hx hb d_Tp_isNote_4 rfl (lv_at hl 0 rfl) ?_
    refine lv_bipush (v := nI 32) hx hb d_Tp_isNote_5 (by decide) ?_
    refine lv_icmp_ge (tgt := 14) hx hb d_Tp_isNote_7 (by decide) (fun c7 => ?_) (fun c7 => ?_)
    · refine lv_iconst (v := nI 0) hx hb d_Tp_isNote_14 (by decide) ?_
      exact q_zret (ty := .boolean) hx hb hr (by decide) hlk hK hP hD hS d_Tp_isNote_15 (by rw [qp_b_f (fun q => q.2 c7)]) (rfl)
    · refine lv_iconst (v := nI 1) hx hb d_Tp_isNote_10 (by decide) ?_
      refine lv_goto (tgt := 15) hx hb d_Tp_isNote_11 (by decide) ?_
      exact q_zret (ty := .boolean) hx hb hr (by decide) hlk hK hP hD hS d_Tp_isNote_15 (by rw [qp_b_t ⟨c1, c7⟩]) (rfl)
set_option maxHeartbeats 4000000 in
set_option maxRecDepth 100000 in
theorem c_Tp_isPiece (l : Launch) (D : va_G) (v : Int32) : qMi l y_Tp_isPiece b_Tp_isPiece 1 (some .boolean) (rmL 1) D [] [.int (v)] [] [] (qp_b (qp_in v 128)) := by
  refine q_start (Qc := qZi D _ _ _) (by decide +kernel) (Nat.le_of_ble_eq_true rfl) ?_
  intro p e s m below meth c A hx hb hr hlk hml hown hts hK hP hD hS hA hN ls hl
  have hl : lv_has ls 1 [(0, .int (v))] := hl
  have hP : va_P D cls [] s.heap := hP
  have hD : va_D A [] := hD
  refine lv_iload_n hx hb d_Tp_isPiece_0 rfl (lv_at hl 0 rfl) ?_
  refine lv_if_lt (tgt := 15) hx hb d_Tp_isPiece_1 (by decide) (fun c1 => ?_) (fun c1 => ?_)
  · refine lv_iconst (v := nI 0) hx hb d_Tp_isPiece_15 (by decide) ?_
    exact q_zret (ty := .boolean) hx hb hr (by decide) hlk hK hP hD hS d_Tp_isPiece_16 (by rw [qp_b_f (fun q => q.1 c1)]) (rfl)
  · refine lv_iload_n hx hb d_Tp_isPiece_4 rfl (lv_at hl 0 rfl) ?_
    refine lv_sipush (v := nI 128) hx hb d_Tp_isPiece_5 (by decide) ?_
    refine lv_icmp_ge (tgt := 15) hx hb d_Tp_isPiece_8 (by decide) (fun c8 => ?_) (fun c8 => ?_)
    · refine lv_iconst (v := nI 0) hx hb d_Tp_isPiece_15 (by decide) ?_
      exact q_zret (ty := .boolean) hx hb hr (by decide) hlk hK hP hD hS d_Tp_isPiece_16 (by rw [qp_b_f (fun q => q.2 c8)]) (rfl)
    · refine lv_iconst (v := nI 1) hx hb d_Tp_isPiece_11 (by decide) ?_
      refine lv_goto (tgt := 16) hx hb d_Tp_isPiece_12 (by decide) ?_
      exact q_zret (ty := .boolean) hx hb hr (by decide) hlk hK hP hD hS d_Tp_isPiece_16 (by rw [qp_b_t ⟨c1, c8⟩]) (rfl)
set_option maxHeartbeats 4000000 in
set_option maxRecDepth 100000 in
theorem c_Tp_isByte (l : Launch) (D : va_G) (v : Int32) : qMi l y_Tp_isByte b_Tp_isByte 1 (some .boolean) (rmL 1) D [] [.int (v)] [] [] (qp_b (qp_by v)) := by
  refine q_start (Qc := qZi D _ _ _) (by decide +kernel) (Nat.le_of_ble_eq_true rfl) ?_
  intro p e s m below meth c A hx hb hr hlk hml hown hts hK hP hD hS hA hN ls hl
  have hl : lv_has ls 1 [(0, .int (v))] := hl
  have hP : va_P D cls [] s.heap := hP
  have hD : va_D A [] := hD
  refine lv_iload_n hx hb d_Tp_isByte_0 rfl (lv_at hl 0 rfl) ?_
  refine lv_if_lt (tgt := 15) hx hb d_Tp_isByte_1 (by decide) (fun c1 => ?_) (fun c1 => ?_)
  · refine lv_iconst (v := nI 0) hx hb d_Tp_isByte_15 (by decide) ?_
    exact q_zret (ty := .boolean) hx hb hr (by decide) hlk hK hP hD hS d_Tp_isByte_16 (by rw [qp_b_f (fun q => q.1 c1)]) (rfl)
  · refine lv_iload_n hx hb d_Tp_isByte_4 rfl (lv_at hl 0 rfl) ?_
    refine lv_sipush (v := nI 255) hx hb d_Tp_isByte_5 (by decide) ?_
    refine lv_icmp_gt (tgt := 15) hx hb d_Tp_isByte_8 (by decide) (fun c8 => ?_) (fun c8 => ?_)
    · refine lv_iconst (v := nI 0) hx hb d_Tp_isByte_15 (by decide) ?_
      exact q_zret (ty := .boolean) hx hb hr (by decide) hlk hK hP hD hS d_Tp_isByte_16 (by rw [qp_b_f (fun q => q.2 c8)]) (rfl)
    · refine lv_iconst (v := nI 1) hx hb d_Tp_isByte_11 (by decide) ?_
      refine lv_goto (tgt := 16) hx hb d_Tp_isByte_12 (by decide) ?_
      exact q_zret (ty := .boolean) hx hb hr (by decide) hlk hK hP hD hS d_Tp_isByte_16 (by rw [qp_b_t ⟨c1, c8⟩]) (rfl)
set_option maxHeartbeats 4000000 in
set_option maxRecDepth 100000 in
theorem c_Tp_areBytes (l : Launch) (D : va_G) (u : Int32) (n : Int32) : qMi l y_Tp_areBytes b_Tp_areBytes 2 (some .boolean) (rmL 1) D [] [.int (u), .int (n)] [] [] (qp_b (qp_bs u n)) := by
  refine q_start (Qc := qZi D _ _ _) (by decide +kernel) (Nat.le_of_ble_eq_true rfl) ?_
  intro p e s m below meth c A hx hb hr hlk hml hown hts hK hP hD hS hA hN ls hl
  have hl : lv_has ls 2 [(0, .int (u)), (1, .int (n))] := hl
  have hP : va_P D cls [] s.heap := hP
  have hD : va_D A [] := hD
  refine lv_iload_n hx hb d_Tp_areBytes_0 rfl (lv_at hl 1 rfl) ?_
  refine lv_iconst (v := nI 1) hx hb d_Tp_areBytes_1 (by decide) ?_
  refine lv_icmp_lt (tgt := 29) hx hb d_Tp_areBytes_2 (by decide) (fun c2 => ?_) (fun c2 => ?_)
  · refine lv_iconst (v := nI 0) hx hb d_Tp_areBytes_29 (by decide) ?_
    exact q_zret (ty := .boolean) hx hb hr (by decide) hlk hK hP hD hS d_Tp_areBytes_30 (by rw [qp_b_f (fun q => q.1 c2)]) (rfl)
  · refine lv_iload_n hx hb d_Tp_areBytes_5 rfl (lv_at hl 1 rfl) ?_
    refine lv_sipush (v := nI 128) hx hb d_Tp_areBytes_6 (by decide) ?_
    refine lv_icmp_gt (tgt := 29) hx hb d_Tp_areBytes_9 (by decide) (fun c9 => ?_) (fun c9 => ?_)
    · refine lv_iconst (v := nI 0) hx hb d_Tp_areBytes_29 (by decide) ?_
      exact q_zret (ty := .boolean) hx hb hr (by decide) hlk hK hP hD hS d_Tp_areBytes_30 (by rw [qp_b_f (fun q => q.2.1 c9)]) (rfl)
    · refine lv_iload_n hx hb d_Tp_areBytes_12 rfl (lv_at hl 0 rfl) ?_
      refine lv_if_lt (tgt := 29) hx hb d_Tp_areBytes_13 (by decide) (fun c13 => ?_) (fun c13 => ?_)
      · refine lv_iconst (v := nI 0) hx hb d_Tp_areBytes_29 (by decide) ?_
        exact q_zret (ty := .boolean) hx hb hr (by decide) hlk hK hP hD hS d_Tp_areBytes_30 (by rw [qp_b_f (fun q => q.2.2.1 c13)]) (rfl)
      · refine lv_iload_n hx hb d_Tp_areBytes_16 rfl (lv_at hl 0 rfl) ?_
        refine lv_sipush (v := nI 128) hx hb d_Tp_areBytes_17 (by decide) ?_
        refine lv_iload_n hx hb d_Tp_areBytes_20 rfl (lv_at hl 1 rfl) ?_
        refine lv_isub hx hb d_Tp_areBytes_21 ?_
        refine lv_icmp_gt (tgt := 29) hx hb d_Tp_areBytes_22 (by decide) (fun c22 => ?_) (fun c22 => ?_)
        · refine lv_iconst (v := nI 0) hx hb d_Tp_areBytes_29 (by decide) ?_
          exact q_zret (ty := .boolean) hx hb hr (by decide) hlk hK hP hD hS d_Tp_areBytes_30 (by rw [qp_b_f (fun q => q.2.2.2 c22)]) (rfl)
        · refine lv_iconst (v := nI 1) hx hb d_Tp_areBytes_25 (by decide) ?_
          refine lv_goto (tgt := 30) hx hb d_Tp_areBytes_26 (by decide) ?_
          exact q_zret (ty := .boolean) hx hb hr (by decide) hlk hK hP hD hS d_Tp_areBytes_30 (by rw [qp_b_t ⟨c2, c9, c13, c22⟩]) (rfl)
