/-! the audit: what was met (level * 65536 + ways), block by block -/
def qa_add (f : Nat → Int64) (k x : Nat) : Int32 := if x = 0 then 0 else if k = 1 then 1 else (qv_sz f x).toInt32
def qa_lp (f : Nat → Int64) (k n : Nat) (vis : (Nat → Int32) → Nat → Nat × (Nat → Int32)) (c i : Nat) (met : Nat → Int32) (sz : Int32) : Nat × (Nat → Int32) × Int32 := match c with
  | 0 => (0, met, sz)
  | c + 1 => if (vis met (qv_lk f n i)).1 = 0 then qa_lp f k n vis c (i + 1) (vis met (qv_lk f n i)).2 (sz + qa_add f k (qv_lk f n i)) else ((vis met (qv_lk f n i)).1, (vis met (qv_lk f n i)).2, sz)
def qa_end (f : Nat → Int64) (k n : Nat) (r : Nat × (Nat → Int32) × Int32) : Nat := if r.1 = 0 then (if r.2.2 = (qv_sz f n).toInt32 ∧ ¬ (k = 1 ∧ r.2.2 = 0) then 0 else n) else r.1
def qa_links (f : Nat → Int64) (k : Nat) (vis : (Nat → Int32) → Nat → Nat × (Nat → Int32)) (met : Nat → Int32) (n : Nat) : Nat × (Nat → Int32) := (qa_end f k n (qa_lp f k n vis (qf_nl k) 0 met 0), (qa_lp f k n vis (qf_nl k) 0 met 0).2.1)
def qa_body (k : Nat) (lks : (Nat → Int32) → Nat → Nat × (Nat → Int32)) (met : Nat → Int32) (b : Nat) : Nat × (Nat → Int32) := if b = 0 then (0, met) else if ¬ qf_po b then (b, met) else if 0 < met (b - 16) then (if met (b - 16) / nI 65536 = nI k then 0 else b, upd met (b - 16) (met (b - 16) + nI 1)) else lks (upd met (b - 16) (nI (k * 65536 + 1))) b
def qa_vis (f : Nat → Int64) (k : Nat) : (Nat → Int32) → Nat → Nat × (Nat → Int32) := match k with
  | 0 => qa_body 0 (fun m _ => (0, m))
  | k + 1 => qa_body (k + 1) (qa_links f (k + 1) (qa_vis f k))
theorem qa_vis_eq0 (f : Nat → Int64) (met : Nat → Int32) (b : Nat) : qa_vis f 0 met b = qa_body 0 (fun m _ => (0, m)) met b := rfl
theorem qa_vis_eq1 (f : Nat → Int64) (met : Nat → Int32) (b : Nat) : qa_vis f 1 met b = qa_body 1 (qa_links f 1 (qa_vis f 0)) met b := rfl
theorem qa_vis_eq2 (f : Nat → Int64) (met : Nat → Int32) (b : Nat) : qa_vis f 2 met b = qa_body 2 (qa_links f 2 (qa_vis f 1)) met b := rfl
theorem qa_lp_go {f : Nat → Int64} {k n c i : Nat} {vis : (Nat → Int32) → Nat → Nat × (Nat → Int32)} {met : Nat → Int32} {sz : Int32} (h : (vis met (qv_lk f n i)).1 = 0) : qa_lp f k n vis (c + 1) i met sz = qa_lp f k n vis c (i + 1) (vis met (qv_lk f n i)).2 (sz + qa_add f k (qv_lk f n i)) := by
  conv => lhs; unfold qa_lp
  rw [if_pos h]
theorem qa_lp_bad {f : Nat → Int64} {k n c i : Nat} {vis : (Nat → Int32) → Nat → Nat × (Nat → Int32)} {met : Nat → Int32} {sz : Int32} (h : ¬ (vis met (qv_lk f n i)).1 = 0) : qa_lp f k n vis (c + 1) i met sz = ((vis met (qv_lk f n i)).1, (vis met (qv_lk f n i)).2, sz) := by
  conv => lhs; unfold qa_lp
  rw [if_neg h]
theorem qa_links_done {f : Nat → Int64} {k n : Nat} {vis : (Nat → Int32) → Nat → Nat × (Nat → Int32)} {met m : Nat → Int32} {s : Int32} (h : qa_lp f k n vis (qf_nl k) 0 met 0 = (0, m, s)) : qa_links f k vis met n = (if s = (qv_sz f n).toInt32 ∧ ¬ (k = 1 ∧ s = 0) then 0 else n, m) := by
  unfold qa_links qa_end
  rw [h]
  simp
theorem qa_links_bad {f : Nat → Int64} {k n r : Nat} {vis : (Nat → Int32) → Nat → Nat × (Nat → Int32)} {met m : Nat → Int32} {s : Int32} (h : qa_lp f k n vis (qf_nl k) 0 met 0 = (r, m, s)) (hr : ¬ r = 0) : qa_links f k vis met n = (r, m) := by
  unfold qa_links qa_end
  rw [h]
  simp [hr]
theorem qa_lp_lt {f : Nat → Int64} {k n : Nat} {vis : (Nat → Int32) → Nat → Nat × (Nat → Int32)} (hv : ∀ m b, b < 65536 → (vis m b).1 < 65536) : ∀ (c i : Nat) (met : Nat → Int32) (sz : Int32), (qa_lp f k n vis c i met sz).1 < 65536 := by
  intro c
  induction c with
  | zero => intro i met sz; show 0 < 65536; decide
  | succ c ih =>
    intro i met sz
    by_cases h : (vis met (qv_lk f n i)).1 = 0
    · rw [qa_lp_go h]; exact ih _ _ _
    · rw [qa_lp_bad h]; exact hv _ _ (qv_lk_lt _ _ _)
theorem qa_links_lt {f : Nat → Int64} {k n : Nat} {vis : (Nat → Int32) → Nat → Nat × (Nat → Int32)} (hv : ∀ m b, b < 65536 → (vis m b).1 < 65536) (met : Nat → Int32) (hn : n < 65536) : (qa_links f k vis met n).1 < 65536 := by
  have := qa_lp_lt (f := f) (k := k) (n := n) hv (qf_nl k) 0 met 0
  show qa_end f k n _ < 65536
  unfold qa_end
  split
  · split
    · decide
    · exact hn
  · exact this
theorem qa_body_lt {k : Nat} {lks : (Nat → Int32) → Nat → Nat × (Nat → Int32)} (hl : ∀ m b, b < 65536 → (lks m b).1 < 65536) (met : Nat → Int32) {b : Nat} (hb : b < 65536) : (qa_body k lks met b).1 < 65536 := by
  unfold qa_body
  split
  · show 0 < 65536; decide
  · split
    · exact hb
    · split
      · dsimp only
        split
        · decide
        · exact hb
      · exact hl _ _ hb
theorem qa_vis_lt (f : Nat → Int64) (k : Nat) (met : Nat → Int32) (b : Nat) (hb : b < 65536) : (qa_vis f k met b).1 < 65536 := by
  induction k generalizing met b with
  | zero => exact qa_body_lt (fun _ _ _ => by show 0 < 65536; decide) met hb
  | succ k ih => exact qa_body_lt (fun m b hb => qa_links_lt (fun m b hb => ih m b hb) m hb) met hb
set_option maxHeartbeats 4000000 in
set_option maxRecDepth 100000 in
theorem c_Au_visit0Z (l : Launch) (D : va_G) (cI : ClassId) (cJ : ClassId) (au : Nat) (mt : Nat) (met : Nat → Int32) (h : Nat) (a : Nat) (f : Nat → Int64) (b : Nat) (kb : b < 65536) (kz : b < 16) : qMi l y_Au_visit b_Au_visit 6 (some .int) (rmL 1) D [(cI, .int), (cJ, .long)] [.ref au, .ref h, .int (nI b), .int (nI 0)] [(au, .inr (0, [.ref mt])), (mt, .inl (cI, 768, .inl (met))), (h, .inr (1, [.ref a])), (a, .inl (cJ, 12544, .inr (.inl (f))))] [(au, .inr (0, [.ref mt])), (mt, .inl (cI, 768, .inl ((qa_vis f 0 met b).2))), (h, .inr (1, [.ref a])), (a, .inl (cJ, 12544, .inr (.inl (f))))] (nI (qa_vis f 0 met b).1) := by
  refine q_start (Qc := qZi D _ _ _) (by decide +kernel) (Nat.le_of_ble_eq_true rfl) ?_
  intro p e s m below meth c A hx hb hr hlk hml hown hts hK hP hD hS hA hN ls hl
  have hl : lv_has ls 6 [(0, .ref au), (1, .ref h), (2, .int (nI b)), (3, .int (nI 0))] := hl
  have hP : va_P D cls [(au, .inr (0, [.ref mt])), (mt, .inl (cI, 768, .inl (met))), (h, .inr (1, [.ref a])), (a, .inl (cJ, 12544, .inr (.inl (f))))] s.heap := hP
  have hD : va_D A [(au, .inr (0, [.ref mt])), (mt, .inl (cI, 768, .inl (met))), (h, .inr (1, [.ref a])), (a, .inl (cJ, 12544, .inr (.inl (f))))] := hD
  refine lv_iload_n hx hb d_Au_visit_0 rfl (lv_at hl 2 rfl) ?_
  refine lv_if_ne (tgt := 6) hx hb d_Au_visit_1 (by decide) (fun c1 => ?_) (fun c1 => ?_)
  · have c1 : ¬ b = 0 := fun h9 => c1 ((q_z_eq (by omega)).mpr h9)
    refine lv_iload_n hx hb d_Au_visit_6 rfl (lv_at hl 2 rfl) ?_
    refine lv_bipush (v := nI 16) hx hb d_Au_visit_7 (by decide) ?_
    refine lv_isub hx hb d_Au_visit_9 ?_
    refine lv_istore (lv' := [(4, .int ((nI b) - (nI 16))), (0, .ref au), (1, .ref h), (2, .int (nI b)), (3, .int (nI 0))]) hx hb d_Au_visit_10 hl (by decide) rfl (fun ls hl => ?_)
    refine lv_iload hx hb d_Au_visit_12 (lv_at hl 0 rfl) ?_
    refine lv_if_lt (tgt := 25) hx hb d_Au_visit_14 (by decide) (fun c14 => ?_) (fun c14 => ?_)
    · refine lv_iload_n hx hb d_Au_visit_25 rfl (lv_at hl 3 rfl) ?_
      exact q_iret hx hb hr hlk hK hP hD hS d_Au_visit_26 (by rw [qa_vis_eq0]; unfold qa_body; rw [if_neg c1, if_pos (fun q => by have := q.1; omega)]) (by rw [qa_vis_eq0]; unfold qa_body; rw [if_neg c1, if_pos (fun q => by have := q.1; omega)])
    · exact absurd (pk_sneg (by omega) (by omega)) c14
  · have c1 : b = 0 := (q_z_eq (by omega)).mp c1
    refine lv_iconst (v := nI 0) hx hb d_Au_visit_4 (by decide) ?_
    exact q_iret hx hb hr hlk hK hP hD hS d_Au_visit_5 (by rw [qa_vis_eq0]; unfold qa_body; rw [if_pos c1]) (by rw [qa_vis_eq0]; unfold qa_body; rw [if_pos c1])
set_option maxHeartbeats 4000000 in
set_option maxRecDepth 100000 in
theorem c_Au_visit0P (l : Launch) (D : va_G) (cI : ClassId) (cJ : ClassId) (au : Nat) (mt : Nat) (met : Nat → Int32) (h : Nat) (a : Nat) (f : Nat → Int64) (b : Nat) (kb : b < 65536) (kz : 16 ≤ b) : qMi l y_Au_visit b_Au_visit 6 (some .int) (rmL 1) D [(cI, .int), (cJ, .long)] [.ref au, .ref h, .int (nI b), .int (nI 0)] [(au, .inr (0, [.ref mt])), (mt, .inl (cI, 768, .inl (met))), (h, .inr (1, [.ref a])), (a, .inl (cJ, 12544, .inr (.inl (f))))] [(au, .inr (0, [.ref mt])), (mt, .inl (cI, 768, .inl ((qa_vis f 0 met b).2))), (h, .inr (1, [.ref a])), (a, .inl (cJ, 12544, .inr (.inl (f))))] (nI (qa_vis f 0 met b).1) := by
  refine q_start (Qc := qZi D _ _ _) (by decide +kernel) (Nat.le_of_ble_eq_true rfl) ?_
  intro p e s m below meth c A hx hb hr hlk hml hown hts hK hP hD hS hA hN ls hl
  have hl : lv_has ls 6 [(0, .ref au), (1, .ref h), (2, .int (nI b)), (3, .int (nI 0))] := hl
  have hP : va_P D cls [(au, .inr (0, [.ref mt])), (mt, .inl (cI, 768, .inl (met))), (h, .inr (1, [.ref a])), (a, .inl (cJ, 12544, .inr (.inl (f))))] s.heap := hP
  have hD : va_D A [(au, .inr (0, [.ref mt])), (mt, .inl (cI, 768, .inl (met))), (h, .inr (1, [.ref a])), (a, .inl (cJ, 12544, .inr (.inl (f))))] := hD
  refine lv_iload_n hx hb d_Au_visit_0 rfl (lv_at hl 2 rfl) ?_
  refine lv_if_ne (tgt := 6) hx hb d_Au_visit_1 (by decide) (fun c1 => ?_) (fun c1 => ?_)
  · have c1 : ¬ b = 0 := fun h9 => c1 ((q_z_eq (by omega)).mpr h9)
    refine lv_iload_n hx hb d_Au_visit_6 rfl (lv_at hl 2 rfl) ?_
    refine lv_bipush (v := nI 16) hx hb d_Au_visit_7 (by decide) ?_
    refine lv_isub hx hb d_Au_visit_9 ?_
    refine q_ti (y := nI (b - 16)) (pk_sub (by omega)) ?_
    refine lv_istore (lv' := [(4, .int (nI (b - 16))), (0, .ref au), (1, .ref h), (2, .int (nI b)), (3, .int (nI 0))]) hx hb d_Au_visit_10 hl (by decide) rfl (fun ls hl => ?_)
    refine lv_iload hx hb d_Au_visit_12 (lv_at hl 0 rfl) ?_
    refine lv_if_lt (tgt := 25) hx hb d_Au_visit_14 (by decide) (fun c14 => ?_) (fun c14 => ?_)
    · exact absurd c14 (nI_pos (by omega))
    · refine lv_iload hx hb d_Au_visit_17 (lv_at hl 0 rfl) ?_
      refine lv_sipush (v := nI 768) hx hb d_Au_visit_19 (by decide) ?_
      refine lv_icmp_lt (tgt := 27) hx hb d_Au_visit_22 (by decide) (fun c22 => ?_) (fun c22 => ?_)
      · have c22 : (b - 16) < 768 := (nI_ltI (by omega) (by omega)).mp c22
        refine lv_aload_n hx hb d_Au_visit_27 rfl (lv_at hl 1 rfl) ?_
        refine va_get (D := D) (ci := 0) (v := .ref mt) (C := R_Au) (T := F_Au) (N := 1) hx hb hts i_Au hown hK hP 0 rfl rfl 0 (by decide) (hts _ fl_Au_9) (fun _ h9 => h9) rfl d_Au_visit_28 ?_
        refine lv_iload hx hb d_Au_visit_31 (lv_at hl 0 rfl) ?_
        refine va_iald hx hb hK hP 1 0 rfl rfl (vp_in_nI (by omega) (by decide)) d_Au_visit_33 ?_
        refine q_ti (y := met (b - 16)) (by rw [nI_clamp (by omega)]) ?_
        refine lv_if_le (tgt := 72) hx hb d_Au_visit_34 (by decide) (fun c34 => ?_) (fun c34 => ?_)
        · have c34 : ¬ 0 < met (b - 16) := fun q => by have h1 := Int32.lt_iff_toInt_lt.mp q; have h2 := Int32.le_iff_toInt_le.mp c34; omega
          refine lv_aload_n hx hb d_Au_visit_72 rfl (lv_at hl 1 rfl) ?_
          refine va_get (D := D) (ci := 0) (v := .ref mt) (C := R_Au) (T := F_Au) (N := 1) hx hb hts i_Au hown hK hP 0 rfl rfl 0 (by decide) (hts _ fl_Au_9) (fun _ h9 => h9) rfl d_Au_visit_73 ?_
          refine lv_iload hx hb d_Au_visit_76 (lv_at hl 0 rfl) ?_
          refine lv_iload_n hx hb d_Au_visit_78 rfl (lv_at hl 4 rfl) ?_
          refine lv_ldc hx hb hown (hts _ kc_Au_31) d_Au_visit_79 ?_
          refine q_ti (y := nI 65536) (by decide) ?_
          refine lv_imul hx hb d_Au_visit_81 ?_
          refine q_ti (y := nI 0) (by decide) ?_
          refine q_ti (y := nI 0) (by decide) ?_
          refine lv_iconst (v := nI 1) hx hb d_Au_visit_82 (by decide) ?_
          refine lv_iadd hx hb d_Au_visit_83 ?_
          refine q_ti (y := nI 1) (by decide) ?_
          refine va_iast hx hb hK hP hD hS 1 0 rfl rfl (vp_in_nI (by omega) (by decide)) d_Au_visit_84 (fun H locs hP hD hS => ?_)
          rw [nI_clamp (by omega)] at hP hD
          have hP : va_P D cls [(au, .inr (0, [.ref mt])), (mt, .inl (cI, 768, .inl (upd met (b - 16) (nI 1)))), (h, .inr (1, [.ref a])), (a, .inl (cJ, 12544, .inr (.inl (f))))] H := hP
          have hD : va_D A [(au, .inr (0, [.ref mt])), (mt, .inl (cI, 768, .inl (upd met (b - 16) (nI 1)))), (h, .inr (1, [.ref a])), (a, .inl (cJ, 12544, .inr (.inl (f))))] := hD
          refine lv_iload_n hx hb d_Au_visit_85 rfl (lv_at hl 4 rfl) ?_
          refine lv_if_le (tgt := 99) hx hb d_Au_visit_86 (by decide) (fun c86 => ?_) (fun c86 => ?_)
          · have c86 : 0 ≤ 0 := (q_z_le (by omega)).mp c86
            refine lv_iconst (v := nI 0) hx hb d_Au_visit_99 (by decide) ?_
            exact q_iret hx hb hr hlk hK hP hD hS d_Au_visit_100 (by rw [qa_vis_eq0]; unfold qa_body; rw [if_neg c1, if_neg (fun q => q ⟨by omega, by omega⟩), if_neg c34]) (by rw [qa_vis_eq0]; unfold qa_body; rw [if_neg c1, if_neg (fun q => q ⟨by omega, by omega⟩), if_neg c34])
          · have c86 : ¬ 0 ≤ 0 := fun h9 => c86 ((q_z_le (by omega)).mpr h9)
            exfalso; omega
        · have c34 : 0 < met (b - 16) := by
            rcases (show 0 < met (b - 16) ∨ met (b - 16) ≤ 0 by rw [Int32.lt_iff_toInt_lt, Int32.le_iff_toInt_le]; omega) with q | q
            · exact q
            · exact absurd q c34
          refine lv_aload_n hx hb d_Au_visit_37 rfl (lv_at hl 1 rfl) ?_
          refine va_get (D := D) (ci := 0) (v := .ref mt) (C := R_Au) (T := F_Au) (N := 1) hx hb hts i_Au hown hK hP 0 rfl rfl 0 (by decide) (hts _ fl_Au_9) (fun _ h9 => h9) rfl d_Au_visit_38 ?_
          refine lv_iload hx hb d_Au_visit_41 (lv_at hl 0 rfl) ?_
          refine va_iald hx hb hK hP 1 0 rfl rfl (vp_in_nI (by omega) (by decide)) d_Au_visit_43 ?_
          refine q_ti (y := met (b - 16)) (by rw [nI_clamp (by omega)]) ?_
          refine lv_ldc hx hb hown (hts _ kc_Au_31) d_Au_visit_44 ?_
          refine q_ti (y := nI 65536) (by decide) ?_
          refine lv_idiv hx hb d_Au_visit_46 (by decide) ?_
          refine lv_istore (lv' := [(5, .int ((met (b - 16)) / (nI 65536))), (4, .int (nI (b - 16))), (0, .ref au), (1, .ref h), (2, .int (nI b)), (3, .int (nI 0))]) hx hb d_Au_visit_47 hl (by decide) rfl (fun ls hl => ?_)
          refine lv_aload_n hx hb d_Au_visit_49 rfl (lv_at hl 2 rfl) ?_
          refine va_get (D := D) (ci := 0) (v := .ref mt) (C := R_Au) (T := F_Au) (N := 1) hx hb hts i_Au hown hK hP 0 rfl rfl 0 (by decide) (hts _ fl_Au_9) (fun _ h9 => h9) rfl d_Au_visit_50 ?_
          refine lv_iload hx hb d_Au_visit_53 (lv_at hl 1 rfl) ?_
          refine lv_dup2_11 hx hb d_Au_visit_55 rfl rfl ?_
          refine va_iald hx hb hK hP 1 0 rfl rfl (vp_in_nI (by omega) (by decide)) d_Au_visit_56 ?_
          refine q_ti (y := met (b - 16)) (by rw [nI_clamp (by omega)]) ?_
          refine lv_iconst (v := nI 1) hx hb d_Au_visit_57 (by decide) ?_
          refine lv_iadd hx hb d_Au_visit_58 ?_
          refine va_iast hx hb hK hP hD hS 1 0 rfl rfl (vp_in_nI (by omega) (by decide)) d_Au_visit_59 (fun H locs hP hD hS => ?_)
          rw [nI_clamp (by omega)] at hP hD
          have hP : va_P D cls [(au, .inr (0, [.ref mt])), (mt, .inl (cI, 768, .inl (upd met (b - 16) ((met (b - 16)) + (nI 1))))), (h, .inr (1, [.ref a])), (a, .inl (cJ, 12544, .inr (.inl (f))))] H := hP
          have hD : va_D A [(au, .inr (0, [.ref mt])), (mt, .inl (cI, 768, .inl (upd met (b - 16) ((met (b - 16)) + (nI 1))))), (h, .inr (1, [.ref a])), (a, .inl (cJ, 12544, .inr (.inl (f))))] := hD
          refine lv_iload hx hb d_Au_visit_60 (lv_at hl 0 rfl) ?_
          refine lv_iload_n hx hb d_Au_visit_62 rfl (lv_at hl 5 rfl) ?_
          refine lv_icmp_ne (tgt := 70) hx hb d_Au_visit_63 (by decide) (fun c63 => ?_) (fun c63 => ?_)
          · refine lv_iload_n hx hb d_Au_visit_70 rfl (lv_at hl 4 rfl) ?_
            exact q_iret hx hb hr hlk hK hP hD hS d_Au_visit_71 (by rw [qa_vis_eq0]; unfold qa_body; rw [if_neg c1, if_neg (fun q => q ⟨by omega, by omega⟩), if_pos c34]; rw [if_neg c63]) (by rw [qa_vis_eq0]; unfold qa_body; rw [if_neg c1, if_neg (fun q => q ⟨by omega, by omega⟩), if_pos c34])
          · refine lv_iconst (v := nI 0) hx hb d_Au_visit_66 (by decide) ?_
            refine lv_goto (tgt := 71) hx hb d_Au_visit_67 (by decide) ?_
            exact q_iret hx hb hr hlk hK hP hD hS d_Au_visit_71 (by rw [qa_vis_eq0]; unfold qa_body; rw [if_neg c1, if_neg (fun q => q ⟨by omega, by omega⟩), if_pos c34]; rw [if_pos c63]) (by rw [qa_vis_eq0]; unfold qa_body; rw [if_neg c1, if_neg (fun q => q ⟨by omega, by omega⟩), if_pos c34])
      · have c22 : ¬ (b - 16) < 768 := fun h9 => c22 ((nI_ltI (by omega) (by omega)).mpr h9)
        refine lv_iload_n hx hb d_Au_visit_25 rfl (lv_at hl 3 rfl) ?_
        exact q_iret hx hb hr hlk hK hP hD hS d_Au_visit_26 (by rw [qa_vis_eq0]; unfold qa_body; rw [if_neg c1, if_pos (fun q => by have := q.2; omega)]) (by rw [qa_vis_eq0]; unfold qa_body; rw [if_neg c1, if_pos (fun q => by have := q.2; omega)])
  · have c1 : b = 0 := (q_z_eq (by omega)).mp c1
    refine lv_iconst (v := nI 0) hx hb d_Au_visit_4 (by decide) ?_
    exact q_iret hx hb hr hlk hK hP hD hS d_Au_visit_5 (by rw [qa_vis_eq0]; unfold qa_body; rw [if_pos c1]) (by rw [qa_vis_eq0]; unfold qa_body; rw [if_pos c1])
theorem c_Au_visit0 (l : Launch) (D : va_G) (cI : ClassId) (cJ : ClassId) (au : Nat) (mt : Nat) (met : Nat → Int32) (h : Nat) (a : Nat) (f : Nat → Int64) (b : Nat) (kb : b < 65536) : qMi l y_Au_visit b_Au_visit 6 (some .int) (rmL 1) D [(cI, .int), (cJ, .long)] [.ref au, .ref h, .int (nI b), .int (nI 0)] [(au, .inr (0, [.ref mt])), (mt, .inl (cI, 768, .inl (met))), (h, .inr (1, [.ref a])), (a, .inl (cJ, 12544, .inr (.inl (f))))] [(au, .inr (0, [.ref mt])), (mt, .inl (cI, 768, .inl ((qa_vis f 0 met b).2))), (h, .inr (1, [.ref a])), (a, .inl (cJ, 12544, .inr (.inl (f))))] (nI (qa_vis f 0 met b).1) := by
  by_cases hz : b < 16
  · exact c_Au_visit0Z l D cI cJ au mt met h a f b kb hz
  · exact c_Au_visit0P l D cI cJ au mt met h a f b kb (by omega)
set_option maxHeartbeats 4000000 in
set_option maxRecDepth 100000 in
theorem c_Au_visitLinks1 (l : Launch) (D : va_G) (cI : ClassId) (cJ : ClassId) (au : Nat) (mt : Nat) (met : Nat → Int32) (h : Nat) (a : Nat) (f : Nat → Int64) (nd : Nat) (knd : nd < 65536) : qMi l y_Au_visitLinks b_Au_visitLinks 8 (some .int) (rmL 3) D [(cI, .int), (cJ, .long)] [.ref au, .ref h, .int (nI nd), .int (nI 1)] [(au, .inr (0, [.ref mt])), (mt, .inl (cI, 768, .inl (met))), (h, .inr (1, [.ref a])), (a, .inl (cJ, 12544, .inr (.inl (f))))] [(au, .inr (0, [.ref mt])), (mt, .inl (cI, 768, .inl ((qa_links f 1 (qa_vis f 0) met nd).2))), (h, .inr (1, [.ref a])), (a, .inl (cJ, 12544, .inr (.inl (f))))] (nI (qa_links f 1 (qa_vis f 0) met nd).1) := by
  refine q_start (Qc := qZi D _ _ _) (by decide +kernel) (Nat.le_of_ble_eq_true rfl) ?_
  intro p e s m below meth c A hx hb hr hlk hml hown hts hK hP hD hS hA hN ls hl
  have hl : lv_has ls 8 [(0, .ref au), (1, .ref h), (2, .int (nI nd)), (3, .int (nI 1))] := hl
  have hP : va_P D cls [(au, .inr (0, [.ref mt])), (mt, .inl (cI, 768, .inl (met))), (h, .inr (1, [.ref a])), (a, .inl (cJ, 12544, .inr (.inl (f))))] s.heap := hP
  have hD : va_D A [(au, .inr (0, [.ref mt])), (mt, .inl (cI, 768, .inl (met))), (h, .inr (1, [.ref a])), (a, .inl (cJ, 12544, .inr (.inl (f))))] := hD
  refine lv_iconst (v := nI 0) hx hb d_Au_visitLinks_0 (by decide) ?_
  refine lv_istore (lv' := [(4, .int (nI 0)), (0, .ref au), (1, .ref h), (2, .int (nI nd)), (3, .int (nI 1))]) hx hb d_Au_visitLinks_1 hl (by decide) rfl (fun ls hl => ?_)
  refine lv_iconst (v := nI 0) hx hb d_Au_visitLinks_3 (by decide) ?_
  refine lv_istore (lv' := [(5, .int (nI 0)), (4, .int (nI 0)), (0, .ref au), (1, .ref h), (2, .int (nI nd)), (3, .int (nI 1))]) hx hb d_Au_visitLinks_4 hl (by decide) rfl (fun ls hl => ?_)
  refine q_loop (pc := 6) (σ := (Nat → Int32) × Int32) (I := fun i x H locs ls => va_P D cls [(au, .inr (0, [.ref mt])), (mt, .inl (cI, 768, .inl (x.1))), (h, .inr (1, [.ref a])), (a, .inl (cJ, 12544, .inr (.inl (f))))] H ∧ va_D A [(au, .inr (0, [.ref mt])), (mt, .inl (cI, 768, .inl (x.1))), (h, .inr (1, [.ref a])), (a, .inl (cJ, 12544, .inr (.inl (f))))] ∧ va_S A s.heap H locs ∧ lv_has ls 8 [(0, .ref au), (1, .ref h), (2, .int (nI nd)), (3, .int (nI 1)), (4, .int (x.2)), (5, .int (nI i))] ∧ (qa_lp f 1 nd (qa_vis f 0) (qf_nl 1) 0 met 0 = qa_lp f 1 nd (qa_vis f 0) (32 - i) (i) x.1 x.2)) (32) ?_ ?_ (0) ((met, 0)) _ _ _ (by omega) ⟨hP, hD, hS, lv_sub hl [2, 3, 4, 5, 1, 0] rfl, rfl⟩
  · intro x H locs ls hI
    obtain ⟨hP, hD, hS, hl, hF⟩ := hI
    refine lv_iload hx hb d_Au_visitLinks_6 (lv_at hl 5 rfl) ?_
    refine lv_iload_n hx hb d_Au_visitLinks_8 rfl (lv_at hl 3 rfl) ?_
    refine q_callSi (As := [.int (nI 1)]) (rest := [.int (nI 32)]) (wsC := []) (wsR := [(au, .inr (0, [.ref mt])), (mt, .inl (cI, 768, .inl (x.1))), (h, .inr (1, [.ref a])), (a, .inl (cJ, 12544, .inr (.inl (f))))]) (wsC' := []) (wsN := [(au, .inr (0, [.ref mt])), (mt, .inl (cI, 768, .inl (x.1))), (h, .inr (1, [.ref a])), (a, .inl (cJ, 12544, .inr (.inl (f))))]) (isT := []) (isC := []) (isR := [0, 1, 2, 3]) (isN := [0, 1, 2, 3]) (k := 1) ⟨hx, hb, hml, hown, hts⟩ (c_Tr_linksOf l D 1 (by omega)) (tw_S ml_Au_38 st_Tr_linksOf in_Tr cd_Tr_linksOf) ⟨by decide +kernel, Nat.le_of_ble_eq_true rfl, Nat.le_of_ble_eq_true rfl⟩ ⟨Nat.le_of_ble_eq_true rfl, Nat.le_of_ble_eq_true rfl⟩ hK hP hD hS hA hN rfl ⟨rfl, rfl, rfl, by decide, by decide, by decide, by decide⟩ hl.1 rfl rfl (Nat.le_of_ble_eq_true rfl) d_Au_visitLinks_9 (fun H locs hP hD hS => ?_)
    refine q_ti (y := nI 32) (rfl) ?_
    refine lv_icmp_ge (tgt := 79) hx hb d_Au_visitLinks_12 (by decide) (fun c12 => ?_) (fun c12 => ?_)
    · have c12 : 32 ≤ 32 := (nI_leI (by omega) (by omega)).mp c12
      refine lv_iload_n hx hb d_Au_visitLinks_79 rfl (lv_at hl 3 rfl) ?_
      refine lv_iconst (v := nI 1) hx hb d_Au_visitLinks_80 (by decide) ?_
      refine lv_icmp_ne (tgt := 93) hx hb d_Au_visitLinks_81 (by decide) (fun c81 => ?_) (fun c81 => ?_)
      · have c81 : ¬ 1 = 1 := fun h9 => c81 ((nI_eq (by omega) (by omega)).mpr h9)
        exfalso; omega
      · have c81 : 1 = 1 := (nI_eq (by omega) (by omega)).mp c81
        refine lv_iload hx hb d_Au_visitLinks_84 (lv_at hl 4 rfl) ?_
        refine lv_if_ne (tgt := 93) hx hb d_Au_visitLinks_86 (by decide) (fun c86 => ?_) (fun c86 => ?_)
        · refine lv_iconst (v := nI 0) hx hb d_Au_visitLinks_93 (by decide) ?_
          refine lv_istore (lv' := [(5, .int (nI 0)), (0, .ref au), (1, .ref h), (2, .int (nI nd)), (3, .int (nI 1)), (4, .int (x.2))]) hx hb d_Au_visitLinks_94 hl (by decide) rfl (fun ls hl => ?_)
          refine lv_iload hx hb d_Au_visitLinks_96 (lv_at hl 5 rfl) ?_
          refine lv_aload_n hx hb d_Au_visitLinks_98 rfl (lv_at hl 2 rfl) ?_
          refine lv_iload_n hx hb d_Au_visitLinks_99 rfl (lv_at hl 3 rfl) ?_
          refine q_callVi (As := [.int (nI nd)]) (rest := [.int (x.2)]) (wsC := [(h, .inr (1, [.ref a])), (a, .inl (cJ, 12544, .inr (.inl (f))))]) (wsR := [(au, .inr (0, [.ref mt])), (mt, .inl (cI, 768, .inl (x.1)))]) (wsC' := [(h, .inr (1, [.ref a])), (a, .inl (cJ, 12544, .inr (.inl (f))))]) (wsN := [(au, .inr (0, [.ref mt])), (mt, .inl (cI, 768, .inl (x.1))), (h, .inr (1, [.ref a])), (a, .inl (cJ, 12544, .inr (.inl (f))))]) (isT := [1]) (isC := [2, 3]) (isR := [0, 1]) (isN := [0, 1, 2, 3]) (k := 1) (ci := 1) (C := R_Im) ⟨hx, hb, hml, hown, hts⟩ (c_Im_sizeAt l D cJ h a f nd (by omega)) (tw_V ml_Au_49 im_Im_sizeAt se_Im_sizeAt in_Im cd_Im_sizeAt) rfl ⟨by decide +kernel, Nat.le_of_ble_eq_true rfl, Nat.le_of_ble_eq_true rfl⟩ ⟨Nat.le_of_ble_eq_true rfl, Nat.le_of_ble_eq_true rfl⟩ hK hP hD hS hA hN rfl ⟨rfl, rfl, rfl, by decide, by decide, by decide, by decide⟩ rfl rfl rfl hl.1 rfl rfl (Nat.le_of_ble_eq_true rfl) d_Au_visitLinks_100 (fun H locs hP hD hS => ?_)
          refine lv_icmp_ne (tgt := 115) hx hb d_Au_visitLinks_103 (by decide) (fun c103 => ?_) (fun c103 => ?_)
          · refine lv_iload_n hx hb d_Au_visitLinks_115 rfl (lv_at hl 3 rfl) ?_
            exact q_iret hx hb hr hlk hK hP hD hS d_Au_visitLinks_116 (by rw [qa_links_done (m := x.1) (s := x.2) hF]; rw [if_neg (fun z => c103 z.1)]) (by rw [qa_links_done (m := x.1) (s := x.2) hF])
          · refine lv_iload hx hb d_Au_visitLinks_106 (lv_at hl 0 rfl) ?_
            refine lv_if_ne (tgt := 115) hx hb d_Au_visitLinks_108 (by decide) (fun c108 => ?_) (fun c108 => ?_)
            · have c108 : ¬ 0 = 0 := fun h9 => c108 ((q_z_eq (by omega)).mpr h9)
              exfalso; omega
            · have c108 : 0 = 0 := (q_z_eq (by omega)).mp c108
              refine lv_iconst (v := nI 0) hx hb d_Au_visitLinks_111 (by decide) ?_
              refine lv_goto (tgt := 116) hx hb d_Au_visitLinks_112 (by decide) ?_
              exact q_iret hx hb hr hlk hK hP hD hS d_Au_visitLinks_116 (by rw [qa_links_done (m := x.1) (s := x.2) hF]; rw [if_pos ⟨c103, fun z => c86 z.2⟩]) (by rw [qa_links_done (m := x.1) (s := x.2) hF])
        · refine lv_iconst (v := nI 1) hx hb d_Au_visitLinks_89 (by decide) ?_
          refine lv_goto (tgt := 94) hx hb d_Au_visitLinks_90 (by decide) ?_
          refine lv_istore (lv' := [(5, .int (nI 1)), (0, .ref au), (1, .ref h), (2, .int (nI nd)), (3, .int (nI 1)), (4, .int (x.2))]) hx hb d_Au_visitLinks_94 hl (by decide) rfl (fun ls hl => ?_)
          refine lv_iload hx hb d_Au_visitLinks_96 (lv_at hl 5 rfl) ?_
          refine lv_aload_n hx hb d_Au_visitLinks_98 rfl (lv_at hl 2 rfl) ?_
          refine lv_iload_n hx hb d_Au_visitLinks_99 rfl (lv_at hl 3 rfl) ?_
          refine q_callVi (As := [.int (nI nd)]) (rest := [.int (x.2)]) (wsC := [(h, .inr (1, [.ref a])), (a, .inl (cJ, 12544, .inr (.inl (f))))]) (wsR := [(au, .inr (0, [.ref mt])), (mt, .inl (cI, 768, .inl (x.1)))]) (wsC' := [(h, .inr (1, [.ref a])), (a, .inl (cJ, 12544, .inr (.inl (f))))]) (wsN := [(au, .inr (0, [.ref mt])), (mt, .inl (cI, 768, .inl (x.1))), (h, .inr (1, [.ref a])), (a, .inl (cJ, 12544, .inr (.inl (f))))]) (isT := [1]) (isC := [2, 3]) (isR := [0, 1]) (isN := [0, 1, 2, 3]) (k := 1) (ci := 1) (C := R_Im) ⟨hx, hb, hml, hown, hts⟩ (c_Im_sizeAt l D cJ h a f nd (by omega)) (tw_V ml_Au_49 im_Im_sizeAt se_Im_sizeAt in_Im cd_Im_sizeAt) rfl ⟨by decide +kernel, Nat.le_of_ble_eq_true rfl, Nat.le_of_ble_eq_true rfl⟩ ⟨Nat.le_of_ble_eq_true rfl, Nat.le_of_ble_eq_true rfl⟩ hK hP hD hS hA hN rfl ⟨rfl, rfl, rfl, by decide, by decide, by decide, by decide⟩ rfl rfl rfl hl.1 rfl rfl (Nat.le_of_ble_eq_true rfl) d_Au_visitLinks_100 (fun H locs hP hD hS => ?_)
          refine lv_icmp_ne (tgt := 115) hx hb d_Au_visitLinks_103 (by decide) (fun c103 => ?_) (fun c103 => ?_)
          · refine lv_iload_n hx hb d_Au_visitLinks_115 rfl (lv_at hl 3 rfl) ?_
            exact q_iret hx hb hr hlk hK hP hD hS d_Au_visitLinks_116 (by rw [qa_links_done (m := x.1) (s := x.2) hF]; rw [if_neg (fun z => c103 z.1)]) (by rw [qa_links_done (m := x.1) (s := x.2) hF])
          · refine lv_iload hx hb d_Au_visitLinks_106 (lv_at hl 0 rfl) ?_
            refine lv_if_ne (tgt := 115) hx hb d_Au_visitLinks_108 (by decide) (fun c108 => ?_) (fun c108 => ?_)
            · have c108 : ¬ 1 = 0 := fun h9 => c108 ((q_z_eq (by omega)).mpr h9)
              refine lv_iload_n hx hb d_Au_visitLinks_115 rfl (lv_at hl 3 rfl) ?_
              exact q_iret hx hb hr hlk hK hP hD hS d_Au_visitLinks_116 (by rw [qa_links_done (m := x.1) (s := x.2) hF]; rw [if_neg (fun z => z.2 ⟨rfl, c86⟩)]) (by rw [qa_links_done (m := x.1) (s := x.2) hF])
            · have c108 : 1 = 0 := (q_z_eq (by omega)).mp c108
              exfalso; omega
    · have c12 : ¬ 32 ≤ 32 := fun h9 => c12 ((nI_leI (by omega) (by omega)).mpr h9)
      exfalso; omega
  · intro i x H locs ls hi hI ih
    obtain ⟨hP, hD, hS, hl, hF⟩ := hI
    have h7 : 32 - i = (31 - i) + 1 := by omega
    refine lv_iload hx hb d_Au_visitLinks_6 (lv_at hl 5 rfl) ?_
    refine lv_iload_n hx hb d_Au_visitLinks_8 rfl (lv_at hl 3 rfl) ?_
    refine q_callSi (As := [.int (nI 1)]) (rest := [.int (nI i)]) (wsC := []) (wsR := [(au, .inr (0, [.ref mt])), (mt, .inl (cI, 768, .inl (x.1))), (h, .inr (1, [.ref a])), (a, .inl (cJ, 12544, .inr (.inl (f))))]) (wsC' := []) (wsN := [(au, .inr (0, [.ref mt])), (mt, .inl (cI, 768, .inl (x.1))), (h, .inr (1, [.ref a])), (a, .inl (cJ, 12544, .inr (.inl (f))))]) (isT := []) (isC := []) (isR := [0, 1, 2, 3]) (isN := [0, 1, 2, 3]) (k := 1) ⟨hx, hb, hml, hown, hts⟩ (c_Tr_linksOf l D 1 (by omega)) (tw_S ml_Au_38 st_Tr_linksOf in_Tr cd_Tr_linksOf) ⟨by decide +kernel, Nat.le_of_ble_eq_true rfl, Nat.le_of_ble_eq_true rfl⟩ ⟨Nat.le_of_ble_eq_true rfl, Nat.le_of_ble_eq_true rfl⟩ hK hP hD hS hA hN rfl ⟨rfl, rfl, rfl, by decide, by decide, by decide, by decide⟩ hl.1 rfl rfl (Nat.le_of_ble_eq_true rfl) d_Au_visitLinks_9 (fun H locs hP hD hS => ?_)
    refine q_ti (y := nI 32) (rfl) ?_
    refine lv_icmp_ge (tgt := 79) hx hb d_Au_visitLinks_12 (by decide) (fun c12 => ?_) (fun c12 => ?_)
    · have c12 : 32 ≤ i := (nI_leI (by omega) (by omega)).mp c12
      exfalso; omega
    · have c12 : ¬ 32 ≤ i := fun h9 => c12 ((nI_leI (by omega) (by omega)).mpr h9)
      refine lv_aload_n hx hb d_Au_visitLinks_15 rfl (lv_at hl 1 rfl) ?_
      refine lv_iload_n hx hb d_Au_visitLinks_16 rfl (lv_at hl 2 rfl) ?_
      refine lv_iload hx hb d_Au_visitLinks_17 (lv_at hl 5 rfl) ?_
      refine q_callVi (As := [.int (nI nd), .int (nI i)]) (rest := []) (wsC := [(h, .inr (1, [.ref a])), (a, .inl (cJ, 12544, .inr (.inl (f))))]) (wsR := [(au, .inr (0, [.ref mt])), (mt, .inl (cI, 768, .inl (x.1)))]) (wsC' := [(h, .inr (1, [.ref a])), (a, .inl (cJ, 12544, .inr (.inl (f))))]) (wsN := [(au, .inr (0, [.ref mt])), (mt, .inl (cI, 768, .inl (x.1))), (h, .inr (1, [.ref a])), (a, .inl (cJ, 12544, .inr (.inl (f))))]) (isT := [1]) (isC := [2, 3]) (isR := [0, 1]) (isN := [0, 1, 2, 3]) (k := 2) (ci := 1) (C := R_Im) ⟨hx, hb, hml, hown, hts⟩ (c_Im_linkAt l D cJ h a f nd i (by omega) (by omega)) (tw_V ml_Au_43 im_Im_linkAt se_Im_linkAt in_Im cd_Im_linkAt) rfl ⟨by decide +kernel, Nat.le_of_ble_eq_true rfl, Nat.le_of_ble_eq_true rfl⟩ ⟨Nat.le_of_ble_eq_true rfl, Nat.le_of_ble_eq_true rfl⟩ hK hP hD hS hA hN rfl ⟨rfl, rfl, rfl, by decide, by decide, by decide, by decide⟩ rfl rfl rfl hl.1 rfl rfl (Nat.le_of_ble_eq_true rfl) d_Au_visitLinks_19 (fun H locs hP hD hS => ?_)
      have hq1 := qv_lk_lt f nd i
      refine lv_istore (lv' := [(6, .int (nI (qv_lk f nd i))), (0, .ref au), (1, .ref h), (2, .int (nI nd)), (3, .int (nI 1)), (4, .int (x.2)), (5, .int (nI i))]) hx hb d_Au_visitLinks_22 hl (by decide) rfl (fun ls hl => ?_)
      refine lv_aload_n hx hb d_Au_visitLinks_24 rfl (lv_at hl 1 rfl) ?_
      refine lv_aload_n hx hb d_Au_visitLinks_25 rfl (lv_at hl 2 rfl) ?_
      refine lv_iload hx hb d_Au_visitLinks_26 (lv_at hl 0 rfl) ?_
      refine lv_iload_n hx hb d_Au_visitLinks_28 rfl (lv_at hl 4 rfl) ?_
      refine lv_iconst (v := nI 1) hx hb d_Au_visitLinks_29 (by decide) ?_
      refine lv_isub hx hb d_Au_visitLinks_30 ?_
      refine q_ti (y := nI 0) (by decide) ?_
      refine q_callVi (As := [.ref h, .int (nI (qv_lk f nd i)), .int (nI 0)]) (rest := []) (wsC := [(au, .inr (0, [.ref mt])), (mt, .inl (cI, 768, .inl (x.1))), (h, .inr (1, [.ref a])), (a, .inl (cJ, 12544, .inr (.inl (f))))]) (wsR := []) (wsC' := [(au, .inr (0, [.ref mt])), (mt, .inl (cI, 768, .inl ((qa_vis f 0 x.1 (qv_lk f nd i)).2))), (h, .inr (1, [.ref a])), (a, .inl (cJ, 12544, .inr (.inl (f))))]) (wsN := [(au, .inr (0, [.ref mt])), (mt, .inl (cI, 768, .inl ((qa_vis f 0 x.1 (qv_lk f nd i)).2))), (h, .inr (1, [.ref a])), (a, .inl (cJ, 12544, .inr (.inl (f))))]) (isT := [0, 1]) (isC := [0, 1, 2, 3]) (isR := []) (isN := [0, 1, 2, 3]) (k := 3) (ci := 0) (C := R_Au) ⟨hx, hb, hml, hown, hts⟩ (c_Au_visit0 l D cI cJ au mt x.1 h a f (qv_lk f nd i) (by omega)) (tw_V ml_Au_27 im_Au_visit se_Au_visit in_Au cd_Au_visit) rfl ⟨by decide +kernel, Nat.le_of_ble_eq_true rfl, Nat.le_of_ble_eq_true rfl⟩ ⟨Nat.le_of_ble_eq_true rfl, Nat.le_of_ble_eq_true rfl⟩ hK hP hD hS hA hN rfl ⟨rfl, rfl, rfl, by decide, by decide, by decide, by decide⟩ rfl rfl rfl hl.1 rfl rfl (Nat.le_of_ble_eq_true rfl) d_Au_visitLinks_31 (fun H locs hP hD hS => ?_)
      have hq2 := qa_vis_lt f 0 x.1 (qv_lk f nd i) (by omega)
      refine lv_istore (lv' := [(7, .int (nI (qa_vis f 0 x.1 (qv_lk f nd i)).1)), (6, .int (nI (qv_lk f nd i))), (0, .ref au), (1, .ref h), (2, .int (nI nd)), (3, .int (nI 1)), (4, .int (x.2)), (5, .int (nI i))]) hx hb d_Au_visitLinks_34 hl (by decide) rfl (fun ls hl => ?_)
      refine lv_iload hx hb d_Au_visitLinks_36 (lv_at hl 0 rfl) ?_
      refine lv_if_eq (tgt := 44) hx hb d_Au_visitLinks_38 (by decide) (fun c38 => ?_) (fun c38 => ?_)
      · have c38 : ((qa_vis f 0 x.1 (qv_lk f nd i)).1) = 0 := (q_z_eq (by omega)).mp c38
        refine lv_iload hx hb d_Au_visitLinks_44 (lv_at hl 6 rfl) ?_
        refine lv_iload hx hb d_Au_visitLinks_46 (lv_at hl 1 rfl) ?_
        refine lv_if_ne (tgt := 55) hx hb d_Au_visitLinks_48 (by decide) (fun c48 => ?_) (fun c48 => ?_)
        · have c48 : ¬ (qv_lk f nd i) = 0 := fun h9 => c48 ((q_z_eq (by omega)).mpr h9)
          refine lv_iload_n hx hb d_Au_visitLinks_55 rfl (lv_at hl 5 rfl) ?_
          refine lv_iconst (v := nI 1) hx hb d_Au_visitLinks_56 (by decide) ?_
          refine lv_icmp_ne (tgt := 64) hx hb d_Au_visitLinks_57 (by decide) (fun c57 => ?_) (fun c57 => ?_)
          · have c57 : ¬ 1 = 1 := fun h9 => c57 ((nI_eq (by omega) (by omega)).mpr h9)
            exfalso; omega
          · have c57 : 1 = 1 := (nI_eq (by omega) (by omega)).mp c57
            refine lv_iconst (v := nI 1) hx hb d_Au_visitLinks_60 (by decide) ?_
            refine lv_goto (tgt := 70) hx hb d_Au_visitLinks_61 (by decide) ?_
            refine lv_iadd hx hb d_Au_visitLinks_70 ?_
            refine q_ti (y := x.2 + qa_add f 1 (qv_lk f nd i)) (by unfold qa_add; rw [if_neg c48, if_pos rfl]; rfl) ?_
            refine lv_istore (lv' := [(4, .int (x.2 + qa_add f 1 (qv_lk f nd i))), (7, .int (nI (qa_vis f 0 x.1 (qv_lk f nd i)).1)), (6, .int (nI (qv_lk f nd i))), (0, .ref au), (1, .ref h), (2, .int (nI nd)), (3, .int (nI 1)), (5, .int (nI i))]) hx hb d_Au_visitLinks_71 hl (by decide) rfl (fun ls hl => ?_)
            refine lv_iinc (v := nI (i + 1)) (lv' := [(5, .int (nI (i + 1))), (4, .int (x.2 + qa_add f 1 (qv_lk f nd i))), (7, .int (nI (qa_vis f 0 x.1 (qv_lk f nd i)).1)), (6, .int (nI (qv_lk f nd i))), (0, .ref au), (1, .ref h), (2, .int (nI nd)), (3, .int (nI 1))]) hx hb d_Au_visitLinks_73 hl (k := 7) rfl (nI_1 _) (by decide) rfl (fun ls hl => ?_)
            refine lv_goto (tgt := 6) hx hb d_Au_visitLinks_76 (by decide) ?_
            exact ih (((qa_vis f 0 x.1 (qv_lk f nd i)).2, x.2 + qa_add f 1 (qv_lk f nd i))) _ _ _ ⟨hP, hD, hS, lv_sub hl [4, 5, 6, 7, 1, 0] rfl, by rw [hF, h7, qa_lp_go c38, show 32 - (i + 1) = 31 - i by omega]⟩
        · have c48 : (qv_lk f nd i) = 0 := (q_z_eq (by omega)).mp c48
          refine lv_iconst (v := nI 0) hx hb d_Au_visitLinks_51 (by decide) ?_
          refine lv_goto (tgt := 70) hx hb d_Au_visitLinks_52 (by decide) ?_
          refine lv_iadd hx hb d_Au_visitLinks_70 ?_
          refine q_ti (y := x.2 + qa_add f 1 (qv_lk f nd i)) (by unfold qa_add; rw [if_pos c48]; rfl) ?_
          refine lv_istore (lv' := [(4, .int (x.2 + qa_add f 1 (qv_lk f nd i))), (7, .int (nI (qa_vis f 0 x.1 (qv_lk f nd i)).1)), (6, .int (nI (qv_lk f nd i))), (0, .ref au), (1, .ref h), (2, .int (nI nd)), (3, .int (nI 1)), (5, .int (nI i))]) hx hb d_Au_visitLinks_71 hl (by decide) rfl (fun ls hl => ?_)
          refine lv_iinc (v := nI (i + 1)) (lv' := [(5, .int (nI (i + 1))), (4, .int (x.2 + qa_add f 1 (qv_lk f nd i))), (7, .int (nI (qa_vis f 0 x.1 (qv_lk f nd i)).1)), (6, .int (nI (qv_lk f nd i))), (0, .ref au), (1, .ref h), (2, .int (nI nd)), (3, .int (nI 1))]) hx hb d_Au_visitLinks_73 hl (k := 7) rfl (nI_1 _) (by decide) rfl (fun ls hl => ?_)
          refine lv_goto (tgt := 6) hx hb d_Au_visitLinks_76 (by decide) ?_
          exact ih (((qa_vis f 0 x.1 (qv_lk f nd i)).2, x.2 + qa_add f 1 (qv_lk f nd i))) _ _ _ ⟨hP, hD, hS, lv_sub hl [4, 5, 6, 7, 1, 0] rfl, by rw [hF, h7, qa_lp_go c38, show 32 - (i + 1) = 31 - i by omega]⟩
      · have c38 : ¬ ((qa_vis f 0 x.1 (qv_lk f nd i)).1) = 0 := fun h9 => c38 ((q_z_eq (by omega)).mpr h9)
        refine lv_iload hx hb d_Au_visitLinks_41 (lv_at hl 0 rfl) ?_
        exact q_iret hx hb hr hlk hK hP hD hS d_Au_visitLinks_43 (by rw [qa_links_bad (m := (qa_vis f 0 x.1 (qv_lk f nd i)).2) (s := x.2) (by rw [hF, h7, qa_lp_bad c38]) c38]) (by rw [qa_links_bad (m := (qa_vis f 0 x.1 (qv_lk f nd i)).2) (s := x.2) (by rw [hF, h7, qa_lp_bad c38]) c38])
set_option maxHeartbeats 4000000 in
set_option maxRecDepth 100000 in
theorem c_Au_visit1Z (l : Launch) (D : va_G) (cI : ClassId) (cJ : ClassId) (au : Nat) (mt : Nat) (met : Nat → Int32) (h : Nat) (a : Nat) (f : Nat → Int64) (b : Nat) (kb : b < 65536) (kz : b < 16) : qMi l y_Au_visit b_Au_visit 6 (some .int) (rmL 4) D [(cI, .int), (cJ, .long)] [.ref au, .ref h, .int (nI b), .int (nI 1)] [(au, .inr (0, [.ref mt])), (mt, .inl (cI, 768, .inl (met))), (h, .inr (1, [.ref a])), (a, .inl (cJ, 12544, .inr (.inl (f))))] [(au, .inr (0, [.ref mt])), (mt, .inl (cI, 768, .inl ((qa_vis f 1 met b).2))), (h, .inr (1, [.ref a])), (a, .inl (cJ, 12544, .inr (.inl (f))))] (nI (qa_vis f 1 met b).1) := by
  refine q_start (Qc := qZi D _ _ _) (by decide +kernel) (Nat.le_of_ble_eq_true rfl) ?_
  intro p e s m below meth c A hx hb hr hlk hml hown hts hK hP hD hS hA hN ls hl
  have hl : lv_has ls 6 [(0, .ref au), (1, .ref h), (2, .int (nI b)), (3, .int (nI 1))] := hl
  have hP : va_P D cls [(au, .inr (0, [.ref mt])), (mt, .inl (cI, 768, .inl (met))), (h, .inr (1, [.ref a])), (a, .inl (cJ, 12544, .inr (.inl (f))))] s.heap := hP
  have hD : va_D A [(au, .inr (0, [.ref mt])), (mt, .inl (cI, 768, .inl (met))), (h, .inr (1, [.ref a])), (a, .inl (cJ, 12544, .inr (.inl (f))))] := hD
  refine lv_iload_n hx hb d_Au_visit_0 rfl (lv_at hl 2 rfl) ?_
  refine lv_if_ne (tgt := 6) hx hb d_Au_visit_1 (by decide) (fun c1 => ?_) (fun c1 => ?_)
  · have c1 : ¬ b = 0 := fun h9 => c1 ((q_z_eq (by omega)).mpr h9)
    refine lv_iload_n hx hb d_Au_visit_6 rfl (lv_at hl 2 rfl) ?_
    refine lv_bipush (v := nI 16) hx hb d_Au_visit_7 (by decide) ?_
    refine lv_isub hx hb d_Au_visit_9 ?_
    refine lv_istore (lv' := [(4, .int ((nI b) - (nI 16))), (0, .ref au), (1, .ref h), (2, .int (nI b)), (3, .int (nI 1))]) hx hb d_Au_visit_10 hl (by decide) rfl (fun ls hl => ?_)
    refine lv_iload hx hb d_Au_visit_12 (lv_at hl 0 rfl) ?_
    refine lv_if_lt (tgt := 25) hx hb d_Au_visit_14 (by decide) (fun c14 => ?_) (fun c14 => ?_)
    · refine lv_iload_n hx hb d_Au_visit_25 rfl (lv_at hl 3 rfl) ?_
      exact q_iret hx hb hr hlk hK hP hD hS d_Au_visit_26 (by rw [qa_vis_eq1]; unfold qa_body; rw [if_neg c1, if_pos (fun q => by have := q.1; omega)]) (by rw [qa_vis_eq1]; unfold qa_body; rw [if_neg c1, if_pos (fun q => by have := q.1; omega)])
    · exact absurd (pk_sneg (by omega) (by omega)) c14
  · have c1 : b = 0 := (q_z_eq (by omega)).mp c1
    refine lv_iconst (v := nI 0) hx hb d_Au_visit_4 (by decide) ?_
    exact q_iret hx hb hr hlk hK hP hD hS d_Au_visit_5 (by rw [qa_vis_eq1]; unfold qa_body; rw [if_pos c1]) (by rw [qa_vis_eq1]; unfold qa_body; rw [if_pos c1])
set_option maxHeartbeats 4000000 in
set_option maxRecDepth 100000 in
theorem c_Au_visit1P (l : Launch) (D : va_G) (cI : ClassId) (cJ : ClassId) (au : Nat) (mt : Nat) (met : Nat → Int32) (h : Nat) (a : Nat) (f : Nat → Int64) (b : Nat) (kb : b < 65536) (kz : 16 ≤ b) : qMi l y_Au_visit b_Au_visit 6 (some .int) (rmL 4) D [(cI, .int), (cJ, .long)] [.ref au, .ref h, .int (nI b), .int (nI 1)] [(au, .inr (0, [.ref mt])), (mt, .inl (cI, 768, .inl (met))), (h, .inr (1, [.ref a])), (a, .inl (cJ, 12544, .inr (.inl (f))))] [(au, .inr (0, [.ref mt])), (mt, .inl (cI, 768, .inl ((qa_vis f 1 met b).2))), (h, .inr (1, [.ref a])), (a, .inl (cJ, 12544, .inr (.inl (f))))] (nI (qa_vis f 1 met b).1) := by
  refine q_start (Qc := qZi D _ _ _) (by decide +kernel) (Nat.le_of_ble_eq_true rfl) ?_
  intro p e s m below meth c A hx hb hr hlk hml hown hts hK hP hD hS hA hN ls hl
  have hl : lv_has ls 6 [(0, .ref au), (1, .ref h), (2, .int (nI b)), (3, .int (nI 1))] := hl
  have hP : va_P D cls [(au, .inr (0, [.ref mt])), (mt, .inl (cI, 768, .inl (met))), (h, .inr (1, [.ref a])), (a, .inl (cJ, 12544, .inr (.inl (f))))] s.heap := hP
  have hD : va_D A [(au, .inr (0, [.ref mt])), (mt, .inl (cI, 768, .inl (met))), (h, .inr (1, [.ref a])), (a, .inl (cJ, 12544, .inr (.inl (f))))] := hD
  refine lv_iload_n hx hb d_Au_visit_0 rfl (lv_at hl 2 rfl) ?_
  refine lv_if_ne (tgt := 6) hx hb d_Au_visit_1 (by decide) (fun c1 => ?_) (fun c1 => ?_)
  · have c1 : ¬ b = 0 := fun h9 => c1 ((q_z_eq (by omega)).mpr h9)
    refine lv_iload_n hx hb d_Au_visit_6 rfl (lv_at hl 2 rfl) ?_
    refine lv_bipush (v := nI 16) hx hb d_Au_visit_7 (by decide) ?_
    refine lv_isub hx hb d_Au_visit_9 ?_
    refine q_ti (y := nI (b - 16)) (pk_sub (by omega)) ?_
    refine lv_istore (lv' := [(4, .int (nI (b - 16))), (0, .ref au), (1, .ref h), (2, .int (nI b)), (3, .int (nI 1))]) hx hb d_Au_visit_10 hl (by decide) rfl (fun ls hl => ?_)
    refine lv_iload hx hb d_Au_visit_12 (lv_at hl 0 rfl) ?_
    refine lv_if_lt (tgt := 25) hx hb d_Au_visit_14 (by decide) (fun c14 => ?_) (fun c14 => ?_)
    · exact absurd c14 (nI_pos (by omega))
    · refine lv_iload hx hb d_Au_visit_17 (lv_at hl 0 rfl) ?_
      refine lv_sipush (v := nI 768) hx hb d_Au_visit_19 (by decide) ?_
      refine lv_icmp_lt (tgt := 27) hx hb d_Au_visit_22 (by decide) (fun c22 => ?_) (fun c22 => ?_)
      · have c22 : (b - 16) < 768 := (nI_ltI (by omega) (by omega)).mp c22
        refine lv_aload_n hx hb d_Au_visit_27 rfl (lv_at hl 1 rfl) ?_
        refine va_get (D := D) (ci := 0) (v := .ref mt) (C := R_Au) (T := F_Au) (N := 1) hx hb hts i_Au hown hK hP 0 rfl rfl 0 (by decide) (hts _ fl_Au_9) (fun _ h9 => h9) rfl d_Au_visit_28 ?_
        refine lv_iload hx hb d_Au_visit_31 (lv_at hl 0 rfl) ?_
        refine va_iald hx hb hK hP 1 0 rfl rfl (vp_in_nI (by omega) (by decide)) d_Au_visit_33 ?_
        refine q_ti (y := met (b - 16)) (by rw [nI_clamp (by omega)]) ?_
        refine lv_if_le (tgt := 72) hx hb d_Au_visit_34 (by decide) (fun c34 => ?_) (fun c34 => ?_)
        · have c34 : ¬ 0 < met (b - 16) := fun q => by have h1 := Int32.lt_iff_toInt_lt.mp q; have h2 := Int32.le_iff_toInt_le.mp c34; omega
          refine lv_aload_n hx hb d_Au_visit_72 rfl (lv_at hl 1 rfl) ?_
          refine va_get (D := D) (ci := 0) (v := .ref mt) (C := R_Au) (T := F_Au) (N := 1) hx hb hts i_Au hown hK hP 0 rfl rfl 0 (by decide) (hts _ fl_Au_9) (fun _ h9 => h9) rfl d_Au_visit_73 ?_
          refine lv_iload hx hb d_Au_visit_76 (lv_at hl 0 rfl) ?_
          refine lv_iload_n hx hb d_Au_visit_78 rfl (lv_at hl 4 rfl) ?_
          refine lv_ldc hx hb hown (hts _ kc_Au_31) d_Au_visit_79 ?_
          refine q_ti (y := nI 65536) (by decide) ?_
          refine lv_imul hx hb d_Au_visit_81 ?_
          refine q_ti (y := nI 65536) (by decide) ?_
          refine q_ti (y := nI 65536) (by decide) ?_
          refine lv_iconst (v := nI 1) hx hb d_Au_visit_82 (by decide) ?_
          refine lv_iadd hx hb d_Au_visit_83 ?_
          refine q_ti (y := nI 65537) (by decide) ?_
          refine va_iast hx hb hK hP hD hS 1 0 rfl rfl (vp_in_nI (by omega) (by decide)) d_Au_visit_84 (fun H locs hP hD hS => ?_)
          rw [nI_clamp (by omega)] at hP hD
          have hP : va_P D cls [(au, .inr (0, [.ref mt])), (mt, .inl (cI, 768, .inl (upd met (b - 16) (nI 65537)))), (h, .inr (1, [.ref a])), (a, .inl (cJ, 12544, .inr (.inl (f))))] H := hP
          have hD : va_D A [(au, .inr (0, [.ref mt])), (mt, .inl (cI, 768, .inl (upd met (b - 16) (nI 65537)))), (h, .inr (1, [.ref a])), (a, .inl (cJ, 12544, .inr (.inl (f))))] := hD
          refine lv_iload_n hx hb d_Au_visit_85 rfl (lv_at hl 4 rfl) ?_
          refine lv_if_le (tgt := 99) hx hb d_Au_visit_86 (by decide) (fun c86 => ?_) (fun c86 => ?_)
          · have c86 : 1 ≤ 0 := (q_z_le (by omega)).mp c86
            exfalso; omega
          · have c86 : ¬ 1 ≤ 0 := fun h9 => c86 ((q_z_le (by omega)).mpr h9)
            refine lv_aload_n hx hb d_Au_visit_89 rfl (lv_at hl 1 rfl) ?_
            refine lv_aload_n hx hb d_Au_visit_90 rfl (lv_at hl 2 rfl) ?_
            refine lv_iload_n hx hb d_Au_visit_91 rfl (lv_at hl 3 rfl) ?_
            refine lv_iload_n hx hb d_Au_visit_92 rfl (lv_at hl 4 rfl) ?_
            refine q_callVi (As := [.ref h, .int (nI b), .int (nI 1)]) (rest := []) (wsC := [(au, .inr (0, [.ref mt])), (mt, .inl (cI, 768, .inl (upd met (b - 16) (nI 65537)))), (h, .inr (1, [.ref a])), (a, .inl (cJ, 12544, .inr (.inl (f))))]) (wsR := []) (wsC' := [(au, .inr (0, [.ref mt])), (mt, .inl (cI, 768, .inl ((qa_links f 1 (qa_vis f 0) (upd met (b - 16) (nI 65537)) b).2))), (h, .inr (1, [.ref a])), (a, .inl (cJ, 12544, .inr (.inl (f))))]) (wsN := [(au, .inr (0, [.ref mt])), (mt, .inl (cI, 768, .inl ((qa_links f 1 (qa_vis f 0) (upd met (b - 16) (nI 65537)) b).2))), (h, .inr (1, [.ref a])), (a, .inl (cJ, 12544, .inr (.inl (f))))]) (isT := [0, 1]) (isC := [0, 1, 2, 3]) (isR := []) (isN := [0, 1, 2, 3]) (k := 3) (ci := 0) (C := R_Au) ⟨hx, hb, hml, hown, hts⟩ (c_Au_visitLinks1 l D cI cJ au mt (upd met (b - 16) (nI 65537)) h a f b (by omega)) (tw_V ml_Au_35 im_Au_visitLinks se_Au_visitLinks in_Au cd_Au_visitLinks) rfl ⟨by decide +kernel, Nat.le_of_ble_eq_true rfl, Nat.le_of_ble_eq_true rfl⟩ ⟨Nat.le_of_ble_eq_true rfl, Nat.le_of_ble_eq_true rfl⟩ hK hP hD hS hA hN rfl ⟨rfl, rfl, rfl, by decide, by decide, by decide, by decide⟩ rfl rfl rfl hl.1 rfl rfl (Nat.le_of_ble_eq_true rfl) d_Au_visit_93 (fun H locs hP hD hS => ?_)
            refine lv_goto (tgt := 100) hx hb d_Au_visit_96 (by decide) ?_
            exact q_iret hx hb hr hlk hK hP hD hS d_Au_visit_100 (by rw [qa_vis_eq1]; unfold qa_body; rw [if_neg c1, if_neg (fun q => q ⟨by omega, by omega⟩), if_neg c34]) (by rw [qa_vis_eq1]; unfold qa_body; rw [if_neg c1, if_neg (fun q => q ⟨by omega, by omega⟩), if_neg c34])
        · have c34 : 0 < met (b - 16) := by
            rcases (show 0 < met (b - 16) ∨ met (b - 16) ≤ 0 by rw [Int32.lt_iff_toInt_lt, Int32.le_iff_toInt_le]; omega) with q | q
            · exact q
            · exact absurd q c34
          refine lv_aload_n hx hb d_Au_visit_37 rfl (lv_at hl 1 rfl) ?_
          refine va_get (D := D) (ci := 0) (v := .ref mt) (C := R_Au) (T := F_Au) (N := 1) hx hb hts i_Au hown hK hP 0 rfl rfl 0 (by decide) (hts _ fl_Au_9) (fun _ h9 => h9) rfl d_Au_visit_38 ?_
          refine lv_iload hx hb d_Au_visit_41 (lv_at hl 0 rfl) ?_
          refine va_iald hx hb hK hP 1 0 rfl rfl (vp_in_nI (by omega) (by decide)) d_Au_visit_43 ?_
          refine q_ti (y := met (b - 16)) (by rw [nI_clamp (by omega)]) ?_
          refine lv_ldc hx hb hown (hts _ kc_Au_31) d_Au_visit_44 ?_
          refine q_ti (y := nI 65536) (by decide) ?_
          refine lv_idiv hx hb d_Au_visit_46 (by decide) ?_
          refine lv_istore (lv' := [(5, .int ((met (b - 16)) / (nI 65536))), (4, .int (nI (b - 16))), (0, .ref au), (1, .ref h), (2, .int (nI b)), (3, .int (nI 1))]) hx hb d_Au_visit_47 hl (by decide) rfl (fun ls hl => ?_)
          refine lv_aload_n hx hb d_Au_visit_49 rfl (lv_at hl 2 rfl) ?_
          refine va_get (D := D) (ci := 0) (v := .ref mt) (C := R_Au) (T := F_Au) (N := 1) hx hb hts i_Au hown hK hP 0 rfl rfl 0 (by decide) (hts _ fl_Au_9) (fun _ h9 => h9) rfl d_Au_visit_50 ?_
          refine lv_iload hx hb d_Au_visit_53 (lv_at hl 1 rfl) ?_
          refine lv_dup2_11 hx hb d_Au_visit_55 rfl rfl ?_
          refine va_iald hx hb hK hP 1 0 rfl rfl (vp_in_nI (by omega) (by decide)) d_Au_visit_56 ?_
          refine q_ti (y := met (b - 16)) (by rw [nI_clamp (by omega)]) ?_
          refine lv_iconst (v := nI 1) hx hb d_Au_visit_57 (by decide) ?_
          refine lv_iadd hx hb d_Au_visit_58 ?_
          refine va_iast hx hb hK hP hD hS 1 0 rfl rfl (vp_in_nI (by omega) (by decide)) d_Au_visit_59 (fun H locs hP hD hS => ?_)
          rw [nI_clamp (by omega)] at hP hD
          have hP : va_P D cls [(au, .inr (0, [.ref mt])), (mt, .inl (cI, 768, .inl (upd met (b - 16) ((met (b - 16)) + (nI 1))))), (h, .inr (1, [.ref a])), (a, .inl (cJ, 12544, .inr (.inl (f))))] H := hP
          have hD : va_D A [(au, .inr (0, [.ref mt])), (mt, .inl (cI, 768, .inl (upd met (b - 16) ((met (b - 16)) + (nI 1))))), (h, .inr (1, [.ref a])), (a, .inl (cJ, 12544, .inr (.inl (f))))] := hD
          refine lv_iload hx hb d_Au_visit_60 (lv_at hl 0 rfl) ?_
          refine lv_iload_n hx hb d_Au_visit_62 rfl (lv_at hl 5 rfl) ?_
          refine lv_icmp_ne (tgt := 70) hx hb d_Au_visit_63 (by decide) (fun c63 => ?_) (fun c63 => ?_)
          · refine lv_iload_n hx hb d_Au_visit_70 rfl (lv_at hl 4 rfl) ?_
            exact q_iret hx hb hr hlk hK hP hD hS d_Au_visit_71 (by rw [qa_vis_eq1]; unfold qa_body; rw [if_neg c1, if_neg (fun q => q ⟨by omega, by omega⟩), if_pos c34]; rw [if_neg c63]) (by rw [qa_vis_eq1]; unfold qa_body; rw [if_neg c1, if_neg (fun q => q ⟨by omega, by omega⟩), if_pos c34])
          · refine lv_iconst (v := nI 0) hx hb d_Au_visit_66 (by decide) ?_
            refine lv_goto (tgt := 71) hx hb d_Au_visit_67 (by decide) ?_
            exact q_iret hx hb hr hlk hK hP hD hS d_Au_visit_71 (by rw [qa_vis_eq1]; unfold qa_body; rw [if_neg c1, if_neg (fun q => q ⟨by omega, by omega⟩), if_pos c34]; rw [if_pos c63]) (by rw [qa_vis_eq1]; unfold qa_body; rw [if_neg c1, if_neg (fun q => q ⟨by omega, by omega⟩), if_pos c34])
      · have c22 : ¬ (b - 16) < 768 := fun h9 => c22 ((nI_ltI (by omega) (by omega)).mpr h9)
        refine lv_iload_n hx hb d_Au_visit_25 rfl (lv_at hl 3 rfl) ?_
        exact q_iret hx hb hr hlk hK hP hD hS d_Au_visit_26 (by rw [qa_vis_eq1]; unfold qa_body; rw [if_neg c1, if_pos (fun q => by have := q.2; omega)]) (by rw [qa_vis_eq1]; unfold qa_body; rw [if_neg c1, if_pos (fun q => by have := q.2; omega)])
  · have c1 : b = 0 := (q_z_eq (by omega)).mp c1
    refine lv_iconst (v := nI 0) hx hb d_Au_visit_4 (by decide) ?_
    exact q_iret hx hb hr hlk hK hP hD hS d_Au_visit_5 (by rw [qa_vis_eq1]; unfold qa_body; rw [if_pos c1]) (by rw [qa_vis_eq1]; unfold qa_body; rw [if_pos c1])
theorem c_Au_visit1 (l : Launch) (D : va_G) (cI : ClassId) (cJ : ClassId) (au : Nat) (mt : Nat) (met : Nat → Int32) (h : Nat) (a : Nat) (f : Nat → Int64) (b : Nat) (kb : b < 65536) : qMi l y_Au_visit b_Au_visit 6 (some .int) (rmL 4) D [(cI, .int), (cJ, .long)] [.ref au, .ref h, .int (nI b), .int (nI 1)] [(au, .inr (0, [.ref mt])), (mt, .inl (cI, 768, .inl (met))), (h, .inr (1, [.ref a])), (a, .inl (cJ, 12544, .inr (.inl (f))))] [(au, .inr (0, [.ref mt])), (mt, .inl (cI, 768, .inl ((qa_vis f 1 met b).2))), (h, .inr (1, [.ref a])), (a, .inl (cJ, 12544, .inr (.inl (f))))] (nI (qa_vis f 1 met b).1) := by
  by_cases hz : b < 16
  · exact c_Au_visit1Z l D cI cJ au mt met h a f b kb hz
  · exact c_Au_visit1P l D cI cJ au mt met h a f b kb (by omega)
set_option maxHeartbeats 4000000 in
set_option maxRecDepth 100000 in
theorem c_Au_visitLinks2 (l : Launch) (D : va_G) (cI : ClassId) (cJ : ClassId) (au : Nat) (mt : Nat) (met : Nat → Int32) (h : Nat) (a : Nat) (f : Nat → Int64) (nd : Nat) (knd : nd < 65536) : qMi l y_Au_visitLinks b_Au_visitLinks 8 (some .int) (rmL 5) D [(cI, .int), (cJ, .long)] [.ref au, .ref h, .int (nI nd), .int (nI 2)] [(au, .inr (0, [.ref mt])), (mt, .inl (cI, 768, .inl (met))), (h, .inr (1, [.ref a])), (a, .inl (cJ, 12544, .inr (.inl (f))))] [(au, .inr (0, [.ref mt])), (mt, .inl (cI, 768, .inl ((qa_links f 2 (qa_vis f 1) met nd).2))), (h, .inr (1, [.ref a])), (a, .inl (cJ, 12544, .inr (.inl (f))))] (nI (qa_links f 2 (qa_vis f 1) met nd).1) := by
  refine q_start (Qc := qZi D _ _ _) (by decide +kernel) (Nat.le_of_ble_eq_true rfl) ?_
  intro p e s m below meth c A hx hb hr hlk hml hown hts hK hP hD hS hA hN ls hl
  have hl : lv_has ls 8 [(0, .ref au), (1, .ref h), (2, .int (nI nd)), (3, .int (nI 2))] := hl
  have hP : va_P D cls [(au, .inr (0, [.ref mt])), (mt, .inl (cI, 768, .inl (met))), (h, .inr (1, [.ref a])), (a, .inl (cJ, 12544, .inr (.inl (f))))] s.heap := hP
  have hD : va_D A [(au, .inr (0, [.ref mt])), (mt, .inl (cI, 768, .inl (met))), (h, .inr (1, [.ref a])), (a, .inl (cJ, 12544, .inr (.inl (f))))] := hD
  refine lv_iconst (v := nI 0) hx hb d_Au_visitLinks_0 (by decide) ?_
  refine lv_istore (lv' := [(4, .int (nI 0)), (0, .ref au), (1, .ref h), (2, .int (nI nd)), (3, .int (nI 2))]) hx hb d_Au_visitLinks_1 hl (by decide) rfl (fun ls hl => ?_)
  refine lv_iconst (v := nI 0) hx hb d_Au_visitLinks_3 (by decide) ?_
  refine lv_istore (lv' := [(5, .int (nI 0)), (4, .int (nI 0)), (0, .ref au), (1, .ref h), (2, .int (nI nd)), (3, .int (nI 2))]) hx hb d_Au_visitLinks_4 hl (by decide) rfl (fun ls hl => ?_)
  refine q_loop (pc := 6) (σ := (Nat → Int32) × Int32) (I := fun i x H locs ls => va_P D cls [(au, .inr (0, [.ref mt])), (mt, .inl (cI, 768, .inl (x.1))), (h, .inr (1, [.ref a])), (a, .inl (cJ, 12544, .inr (.inl (f))))] H ∧ va_D A [(au, .inr (0, [.ref mt])), (mt, .inl (cI, 768, .inl (x.1))), (h, .inr (1, [.ref a])), (a, .inl (cJ, 12544, .inr (.inl (f))))] ∧ va_S A s.heap H locs ∧ lv_has ls 8 [(0, .ref au), (1, .ref h), (2, .int (nI nd)), (3, .int (nI 2)), (4, .int (x.2)), (5, .int (nI i))] ∧ (qa_lp f 2 nd (qa_vis f 1) (qf_nl 2) 0 met 0 = qa_lp f 2 nd (qa_vis f 1) (4 - i) (i) x.1 x.2)) (4) ?_ ?_ (0) ((met, 0)) _ _ _ (by omega) ⟨hP, hD, hS, lv_sub hl [2, 3, 4, 5, 1, 0] rfl, rfl⟩
  · intro x H locs ls hI
    obtain ⟨hP, hD, hS, hl, hF⟩ := hI
    refine lv_iload hx hb d_Au_visitLinks_6 (lv_at hl 5 rfl) ?_
    refine lv_iload_n hx hb d_Au_visitLinks_8 rfl (lv_at hl 3 rfl) ?_
    refine q_callSi (As := [.int (nI 2)]) (rest := [.int (nI 4)]) (wsC := []) (wsR := [(au, .inr (0, [.ref mt])), (mt, .inl (cI, 768, .inl (x.1))), (h, .inr (1, [.ref a])), (a, .inl (cJ, 12544, .inr (.inl (f))))]) (wsC' := []) (wsN := [(au, .inr (0, [.ref mt])), (mt, .inl (cI, 768, .inl (x.1))), (h, .inr (1, [.ref a])), (a, .inl (cJ, 12544, .inr (.inl (f))))]) (isT := []) (isC := []) (isR := [0, 1, 2, 3]) (isN := [0, 1, 2, 3]) (k := 1) ⟨hx, hb, hml, hown, hts⟩ (c_Tr_linksOf l D 2 (by omega)) (tw_S ml_Au_38 st_Tr_linksOf in_Tr cd_Tr_linksOf) ⟨by decide +kernel, Nat.le_of_ble_eq_true rfl, Nat.le_of_ble_eq_true rfl⟩ ⟨Nat.le_of_ble_eq_true rfl, Nat.le_of_ble_eq_true rfl⟩ hK hP hD hS hA hN rfl ⟨rfl, rfl, rfl, by decide, by decide, by decide, by decide⟩ hl.1 rfl rfl (Nat.le_of_ble_eq_true rfl) d_Au_visitLinks_9 (fun H locs hP hD hS => ?_)
    refine q_ti (y := nI 4) (rfl) ?_
    refine lv_icmp_ge (tgt := 79) hx hb d_Au_visitLinks_12 (by decide) (fun c12 => ?_) (fun c12 => ?_)
    · have c12 : 4 ≤ 4 := (nI_leI (by omega) (by omega)).mp c12
      refine lv_iload_n hx hb d_Au_visitLinks_79 rfl (lv_at hl 3 rfl) ?_
      refine lv_iconst (v := nI 1) hx hb d_Au_visitLinks_80 (by decide) ?_
      refine lv_icmp_ne (tgt := 93) hx hb d_Au_visitLinks_81 (by decide) (fun c81 => ?_) (fun c81 => ?_)
      · have c81 : ¬ 2 = 1 := fun h9 => c81 ((nI_eq (by omega) (by omega)).mpr h9)
        refine lv_iconst (v := nI 0) hx hb d_Au_visitLinks_93 (by decide) ?_
        refine lv_istore (lv' := [(5, .int (nI 0)), (0, .ref au), (1, .ref h), (2, .int (nI nd)), (3, .int (nI 2)), (4, .int (x.2))]) hx hb d_Au_visitLinks_94 hl (by decide) rfl (fun ls hl => ?_)
        refine lv_iload hx hb d_Au_visitLinks_96 (lv_at hl 5 rfl) ?_
        refine lv_aload_n hx hb d_Au_visitLinks_98 rfl (lv_at hl 2 rfl) ?_
        refine lv_iload_n hx hb d_Au_visitLinks_99 rfl (lv_at hl 3 rfl) ?_
        refine q_callVi (As := [.int (nI nd)]) (rest := [.int (x.2)]) (wsC := [(h, .inr (1, [.ref a])), (a, .inl (cJ, 12544, .inr (.inl (f))))]) (wsR := [(au, .inr (0, [.ref mt])), (mt, .inl (cI, 768, .inl (x.1)))]) (wsC' := [(h, .inr (1, [.ref a])), (a, .inl (cJ, 12544, .inr (.inl (f))))]) (wsN := [(au, .inr (0, [.ref mt])), (mt, .inl (cI, 768, .inl (x.1))), (h, .inr (1, [.ref a])), (a, .inl (cJ, 12544, .inr (.inl (f))))]) (isT := [1]) (isC := [2, 3]) (isR := [0, 1]) (isN := [0, 1, 2, 3]) (k := 1) (ci := 1) (C := R_Im) ⟨hx, hb, hml, hown, hts⟩ (c_Im_sizeAt l D cJ h a f nd (by omega)) (tw_V ml_Au_49 im_Im_sizeAt se_Im_sizeAt in_Im cd_Im_sizeAt) rfl ⟨by decide +kernel, Nat.le_of_ble_eq_true rfl, Nat.le_of_ble_eq_true rfl⟩ ⟨Nat.le_of_ble_eq_true rfl, Nat.le_of_ble_eq_true rfl⟩ hK hP hD hS hA hN rfl ⟨rfl, rfl, rfl, by decide, by decide, by decide, by decide⟩ rfl rfl rfl hl.1 rfl rfl (Nat.le_of_ble_eq_true rfl) d_Au_visitLinks_100 (fun H locs hP hD hS => ?_)
        refine lv_icmp_ne (tgt := 115) hx hb d_Au_visitLinks_103 (by decide) (fun c103 => ?_) (fun c103 => ?_)
        · refine lv_iload_n hx hb d_Au_visitLinks_115 rfl (lv_at hl 3 rfl) ?_
          exact q_iret hx hb hr hlk hK hP hD hS d_Au_visitLinks_116 (by rw [qa_links_done (m := x.1) (s := x.2) hF]; rw [if_neg (fun z => c103 z.1)]) (by rw [qa_links_done (m := x.1) (s := x.2) hF])
        · refine lv_iload hx hb d_Au_visitLinks_106 (lv_at hl 0 rfl) ?_
          refine lv_if_ne (tgt := 115) hx hb d_Au_visitLinks_108 (by decide) (fun c108 => ?_) (fun c108 => ?_)
          · have c108 : ¬ 0 = 0 := fun h9 => c108 ((q_z_eq (by omega)).mpr h9)
            exfalso; omega
          · have c108 : 0 = 0 := (q_z_eq (by omega)).mp c108
            refine lv_iconst (v := nI 0) hx hb d_Au_visitLinks_111 (by decide) ?_
            refine lv_goto (tgt := 116) hx hb d_Au_visitLinks_112 (by decide) ?_
            exact q_iret hx hb hr hlk hK hP hD hS d_Au_visitLinks_116 (by rw [qa_links_done (m := x.1) (s := x.2) hF]; rw [if_pos ⟨c103, fun z => absurd z.1 (by decide)⟩]) (by rw [qa_links_done (m := x.1) (s := x.2) hF])
      · have c81 : 2 = 1 := (nI_eq (by omega) (by omega)).mp c81
        exfalso; omega
    · have c12 : ¬ 4 ≤ 4 := fun h9 => c12 ((nI_leI (by omega) (by omega)).mpr h9)
      exfalso; omega
  · intro i x H locs ls hi hI ih
    obtain ⟨hP, hD, hS, hl, hF⟩ := hI
    have h7 : 4 - i = (3 - i) + 1 := by omega
    refine lv_iload hx hb d_Au_visitLinks_6 (lv_at hl 5 rfl) ?_
    refine lv_iload_n hx hb d_Au_visitLinks_8 rfl (lv_at hl 3 rfl) ?_
    refine q_callSi (As := [.int (nI 2)]) (rest := [.int (nI i)]) (wsC := []) (wsR := [(au, .inr (0, [.ref mt])), (mt, .inl (cI, 768, .inl (x.1))), (h, .inr (1, [.ref a])), (a, .inl (cJ, 12544, .inr (.inl (f))))]) (wsC' := []) (wsN := [(au, .inr (0, [.ref mt])), (mt, .inl (cI, 768, .inl (x.1))), (h, .inr (1, [.ref a])), (a, .inl (cJ, 12544, .inr (.inl (f))))]) (isT := []) (isC := []) (isR := [0, 1, 2, 3]) (isN := [0, 1, 2, 3]) (k := 1) ⟨hx, hb, hml, hown, hts⟩ (c_Tr_linksOf l D 2 (by omega)) (tw_S ml_Au_38 st_Tr_linksOf in_Tr cd_Tr_linksOf) ⟨by decide +kernel, Nat.le_of_ble_eq_true rfl, Nat.le_of_ble_eq_true rfl⟩ ⟨Nat.le_of_ble_eq_true rfl, Nat.le_of_ble_eq_true rfl⟩ hK hP hD hS hA hN rfl ⟨rfl, rfl, rfl, by decide, by decide, by decide, by decide⟩ hl.1 rfl rfl (Nat.le_of_ble_eq_true rfl) d_Au_visitLinks_9 (fun H locs hP hD hS => ?_)
    refine q_ti (y := nI 4) (rfl) ?_
    refine lv_icmp_ge (tgt := 79) hx hb d_Au_visitLinks_12 (by decide) (fun c12 => ?_) (fun c12 => ?_)
    · have c12 : 4 ≤ i := (nI_leI (by omega) (by omega)).mp c12
      exfalso; omega
    · have c12 : ¬ 4 ≤ i := fun h9 => c12 ((nI_leI (by omega) (by omega)).mpr h9)
      refine lv_aload_n hx hb d_Au_visitLinks_15 rfl (lv_at hl 1 rfl) ?_
      refine lv_iload_n hx hb d_Au_visitLinks_16 rfl (lv_at hl 2 rfl) ?_
      refine lv_iload hx hb d_Au_visitLinks_17 (lv_at hl 5 rfl) ?_
      refine q_callVi (As := [.int (nI nd), .int (nI i)]) (rest := []) (wsC := [(h, .inr (1, [.ref a])), (a, .inl (cJ, 12544, .inr (.inl (f))))]) (wsR := [(au, .inr (0, [.ref mt])), (mt, .inl (cI, 768, .inl (x.1)))]) (wsC' := [(h, .inr (1, [.ref a])), (a, .inl (cJ, 12544, .inr (.inl (f))))]) (wsN := [(au, .inr (0, [.ref mt])), (mt, .inl (cI, 768, .inl (x.1))), (h, .inr (1, [.ref a])), (a, .inl (cJ, 12544, .inr (.inl (f))))]) (isT := [1]) (isC := [2, 3]) (isR := [0, 1]) (isN := [0, 1, 2, 3]) (k := 2) (ci := 1) (C := R_Im) ⟨hx, hb, hml, hown, hts⟩ (c_Im_linkAt l D cJ h a f nd i (by omega) (by omega)) (tw_V ml_Au_43 im_Im_linkAt se_Im_linkAt in_Im cd_Im_linkAt) rfl ⟨by decide +kernel, Nat.le_of_ble_eq_true rfl, Nat.le_of_ble_eq_true rfl⟩ ⟨Nat.le_of_ble_eq_true rfl, Nat.le_of_ble_eq_true rfl⟩ hK hP hD hS hA hN rfl ⟨rfl, rfl, rfl, by decide, by decide, by decide, by decide⟩ rfl rfl rfl hl.1 rfl rfl (Nat.le_of_ble_eq_true rfl) d_Au_visitLinks_19 (fun H locs hP hD hS => ?_)
      have hq1 := qv_lk_lt f nd i
      refine lv_istore (lv' := [(6, .int (nI (qv_lk f nd i))), (0, .ref au), (1, .ref h), (2, .int (nI nd)), (3, .int (nI 2)), (4, .int (x.2)), (5, .int (nI i))]) hx hb d_Au_visitLinks_22 hl (by decide) rfl (fun ls hl => ?_)
      refine lv_aload_n hx hb d_Au_visitLinks_24 rfl (lv_at hl 1 rfl) ?_
      refine lv_aload_n hx hb d_Au_visitLinks_25 rfl (lv_at hl 2 rfl) ?_
      refine lv_iload hx hb d_Au_visitLinks_26 (lv_at hl 0 rfl) ?_
      refine lv_iload_n hx hb d_Au_visitLinks_28 rfl (lv_at hl 4 rfl) ?_
      refine lv_iconst (v := nI 1) hx hb d_Au_visitLinks_29 (by decide) ?_
      refine lv_isub hx hb d_Au_visitLinks_30 ?_
      refine q_ti (y := nI 1) (by decide) ?_
      refine q_callVi (As := [.ref h, .int (nI (qv_lk f nd i)), .int (nI 1)]) (rest := []) (wsC := [(au, .inr (0, [.ref mt])), (mt, .inl (cI, 768, .inl (x.1))), (h, .inr (1, [.ref a])), (a, .inl (cJ, 12544, .inr (.inl (f))))]) (wsR := []) (wsC' := [(au, .inr (0, [.ref mt])), (mt, .inl (cI, 768, .inl ((qa_vis f 1 x.1 (qv_lk f nd i)).2))), (h, .inr (1, [.ref a])), (a, .inl (cJ, 12544, .inr (.inl (f))))]) (wsN := [(au, .inr (0, [.ref mt])), (mt, .inl (cI, 768, .inl ((qa_vis f 1 x.1 (qv_lk f nd i)).2))), (h, .inr (1, [.ref a])), (a, .inl (cJ, 12544, .inr (.inl (f))))]) (isT := [0, 1]) (isC := [0, 1, 2, 3]) (isR := []) (isN := [0, 1, 2, 3]) (k := 3) (ci := 0) (C := R_Au) ⟨hx, hb, hml, hown, hts⟩ (c_Au_visit1 l D cI cJ au mt x.1 h a f (qv_lk f nd i) (by omega)) (tw_V ml_Au_27 im_Au_visit se_Au_visit in_Au cd_Au_visit) rfl ⟨by decide +kernel, Nat.le_of_ble_eq_true rfl, Nat.le_of_ble_eq_true rfl⟩ ⟨Nat.le_of_ble_eq_true rfl, Nat.le_of_ble_eq_true rfl⟩ hK hP hD hS hA hN rfl ⟨rfl, rfl, rfl, by decide, by decide, by decide, by decide⟩ rfl rfl rfl hl.1 rfl rfl (Nat.le_of_ble_eq_true rfl) d_Au_visitLinks_31 (fun H locs hP hD hS => ?_)
      have hq2 := qa_vis_lt f 1 x.1 (qv_lk f nd i) (by omega)
      refine lv_istore (lv' := [(7, .int (nI (qa_vis f 1 x.1 (qv_lk f nd i)).1)), (6, .int (nI (qv_lk f nd i))), (0, .ref au), (1, .ref h), (2, .int (nI nd)), (3, .int (nI 2)), (4, .int (x.2)), (5, .int (nI i))]) hx hb d_Au_visitLinks_34 hl (by decide) rfl (fun ls hl => ?_)
      refine lv_iload hx hb d_Au_visitLinks_36 (lv_at hl 0 rfl) ?_
      refine lv_if_eq (tgt := 44) hx hb d_Au_visitLinks_38 (by decide) (fun c38 => ?_) (fun c38 => ?_)
      · have c38 : ((qa_vis f 1 x.1 (qv_lk f nd i)).1) = 0 := (q_z_eq (by omega)).mp c38
        refine lv_iload hx hb d_Au_visitLinks_44 (lv_at hl 6 rfl) ?_
        refine lv_iload hx hb d_Au_visitLinks_46 (lv_at hl 1 rfl) ?_
        refine lv_if_ne (tgt := 55) hx hb d_Au_visitLinks_48 (by decide) (fun c48 => ?_) (fun c48 => ?_)
        · have c48 : ¬ (qv_lk f nd i) = 0 := fun h9 => c48 ((q_z_eq (by omega)).mpr h9)
          refine lv_iload_n hx hb d_Au_visitLinks_55 rfl (lv_at hl 5 rfl) ?_
          refine lv_iconst (v := nI 1) hx hb d_Au_visitLinks_56 (by decide) ?_
          refine lv_icmp_ne (tgt := 64) hx hb d_Au_visitLinks_57 (by decide) (fun c57 => ?_) (fun c57 => ?_)
          · have c57 : ¬ 2 = 1 := fun h9 => c57 ((nI_eq (by omega) (by omega)).mpr h9)
            refine lv_aload_n hx hb d_Au_visitLinks_64 rfl (lv_at hl 3 rfl) ?_
            refine lv_iload hx hb d_Au_visitLinks_65 (lv_at hl 1 rfl) ?_
            refine q_callVi (As := [.int (nI (qv_lk f nd i))]) (rest := [.int (x.2)]) (wsC := [(h, .inr (1, [.ref a])), (a, .inl (cJ, 12544, .inr (.inl (f))))]) (wsR := [(au, .inr (0, [.ref mt])), (mt, .inl (cI, 768, .inl ((qa_vis f 1 x.1 (qv_lk f nd i)).2)))]) (wsC' := [(h, .inr (1, [.ref a])), (a, .inl (cJ, 12544, .inr (.inl (f))))]) (wsN := [(au, .inr (0, [.ref mt])), (mt, .inl (cI, 768, .inl ((qa_vis f 1 x.1 (qv_lk f nd i)).2))), (h, .inr (1, [.ref a])), (a, .inl (cJ, 12544, .inr (.inl (f))))]) (isT := [1]) (isC := [2, 3]) (isR := [0, 1]) (isN := [0, 1, 2, 3]) (k := 1) (ci := 1) (C := R_Im) ⟨hx, hb, hml, hown, hts⟩ (c_Im_sizeAt l D cJ h a f (qv_lk f nd i) (by omega)) (tw_V ml_Au_49 im_Im_sizeAt se_Im_sizeAt in_Im cd_Im_sizeAt) rfl ⟨by decide +kernel, Nat.le_of_ble_eq_true rfl, Nat.le_of_ble_eq_true rfl⟩ ⟨Nat.le_of_ble_eq_true rfl, Nat.le_of_ble_eq_true rfl⟩ hK hP hD hS hA hN rfl ⟨rfl, rfl, rfl, by decide, by decide, by decide, by decide⟩ rfl rfl rfl hl.1 rfl rfl (Nat.le_of_ble_eq_true rfl) d_Au_visitLinks_67 (fun H locs hP hD hS => ?_)
            refine lv_iadd hx hb d_Au_visitLinks_70 ?_
            refine q_ti (y := x.2 + qa_add f 2 (qv_lk f nd i)) (by unfold qa_add; rw [if_neg c48, if_neg (by decide)]) ?_
            refine lv_istore (lv' := [(4, .int (x.2 + qa_add f 2 (qv_lk f nd i))), (7, .int (nI (qa_vis f 1 x.1 (qv_lk f nd i)).1)), (6, .int (nI (qv_lk f nd i))), (0, .ref au), (1, .ref h), (2, .int (nI nd)), (3, .int (nI 2)), (5, .int (nI i))]) hx hb d_Au_visitLinks_71 hl (by decide) rfl (fun ls hl => ?_)
            refine lv_iinc (v := nI (i + 1)) (lv' := [(5, .int (nI (i + 1))), (4, .int (x.2 + qa_add f 2 (qv_lk f nd i))), (7, .int (nI (qa_vis f 1 x.1 (qv_lk f nd i)).1)), (6, .int (nI (qv_lk f nd i))), (0, .ref au), (1, .ref h), (2, .int (nI nd)), (3, .int (nI 2))]) hx hb d_Au_visitLinks_73 hl (k := 7) rfl (nI_1 _) (by decide) rfl (fun ls hl => ?_)
            refine lv_goto (tgt := 6) hx hb d_Au_visitLinks_76 (by decide) ?_
            exact ih (((qa_vis f 1 x.1 (qv_lk f nd i)).2, x.2 + qa_add f 2 (qv_lk f nd i))) _ _ _ ⟨hP, hD, hS, lv_sub hl [4, 5, 6, 7, 1, 0] rfl, by rw [hF, h7, qa_lp_go c38, show 4 - (i + 1) = 3 - i by omega]⟩
          · have c57 : 2 = 1 := (nI_eq (by omega) (by omega)).mp c57
            exfalso; omega
        · have c48 : (qv_lk f nd i) = 0 := (q_z_eq (by omega)).mp c48
          refine lv_iconst (v := nI 0) hx hb d_Au_visitLinks_51 (by decide) ?_
          refine lv_goto (tgt := 70) hx hb d_Au_visitLinks_52 (by decide) ?_
          refine lv_iadd hx hb d_Au_visitLinks_70 ?_
          refine q_ti (y := x.2 + qa_add f 2 (qv_lk f nd i)) (by unfold qa_add; rw [if_pos c48]; rfl) ?_
          refine lv_istore (lv' := [(4, .int (x.2 + qa_add f 2 (qv_lk f nd i))), (7, .int (nI (qa_vis f 1 x.1 (qv_lk f nd i)).1)), (6, .int (nI (qv_lk f nd i))), (0, .ref au), (1, .ref h), (2, .int (nI nd)), (3, .int (nI 2)), (5, .int (nI i))]) hx hb d_Au_visitLinks_71 hl (by decide) rfl (fun ls hl => ?_)
          refine lv_iinc (v := nI (i + 1)) (lv' := [(5, .int (nI (i + 1))), (4, .int (x.2 + qa_add f 2 (qv_lk f nd i))), (7, .int (nI (qa_vis f 1 x.1 (qv_lk f nd i)).1)), (6, .int (nI (qv_lk f nd i))), (0, .ref au), (1, .ref h), (2, .int (nI nd)), (3, .int (nI 2))]) hx hb d_Au_visitLinks_73 hl (k := 7) rfl (nI_1 _) (by decide) rfl (fun ls hl => ?_)
          refine lv_goto (tgt := 6) hx hb d_Au_visitLinks_76 (by decide) ?_
          exact ih (((qa_vis f 1 x.1 (qv_lk f nd i)).2, x.2 + qa_add f 2 (qv_lk f nd i))) _ _ _ ⟨hP, hD, hS, lv_sub hl [4, 5, 6, 7, 1, 0] rfl, by rw [hF, h7, qa_lp_go c38, show 4 - (i + 1) = 3 - i by omega]⟩
      · have c38 : ¬ ((qa_vis f 1 x.1 (qv_lk f nd i)).1) = 0 := fun h9 => c38 ((q_z_eq (by omega)).mpr h9)
        refine lv_iload hx hb d_Au_visitLinks_41 (lv_at hl 0 rfl) ?_
        exact q_iret hx hb hr hlk hK hP hD hS d_Au_visitLinks_43 (by rw [qa_links_bad (m := (qa_vis f 1 x.1 (qv_lk f nd i)).2) (s := x.2) (by rw [hF, h7, qa_lp_bad c38]) c38]) (by rw [qa_links_bad (m := (qa_vis f 1 x.1 (qv_lk f nd i)).2) (s := x.2) (by rw [hF, h7, qa_lp_bad c38]) c38])
set_option maxHeartbeats 4000000 in
set_option maxRecDepth 100000 in
theorem c_Au_visit2Z (l : Launch) (D : va_G) (cI : ClassId) (cJ : ClassId) (au : Nat) (mt : Nat) (met : Nat → Int32) (h : Nat) (a : Nat) (f : Nat → Int64) (b : Nat) (kb : b < 65536) (kz : b < 16) : qMi l y_Au_visit b_Au_visit 6 (some .int) (rmL 6) D [(cI, .int), (cJ, .long)] [.ref au, .ref h, .int (nI b), .int (nI 2)] [(au, .inr (0, [.ref mt])), (mt, .inl (cI, 768, .inl (met))), (h, .inr (1, [.ref a])), (a, .inl (cJ, 12544, .inr (.inl (f))))] [(au, .inr (0, [.ref mt])), (mt, .inl (cI, 768, .inl ((qa_vis f 2 met b).2))), (h, .inr (1, [.ref a])), (a, .inl (cJ, 12544, .inr (.inl (f))))] (nI (qa_vis f 2 met b).1) := by
  refine q_start (Qc := qZi D _ _ _) (by decide +kernel) (Nat.le_of_ble_eq_true rfl) ?_
  intro p e s m below meth c A hx hb hr hlk hml hown hts hK hP hD hS hA hN ls hl
  have hl : lv_has ls 6 [(0, .ref au), (1, .ref h), (2, .int (nI b)), (3, .int (nI 2))] := hl
  have hP : va_P D cls [(au, .inr (0, [.ref mt])), (mt, .inl (cI, 768, .inl (met))), (h, .inr (1, [.ref a])), (a, .inl (cJ, 12544, .inr (.inl (f))))] s.heap := hP
  have hD : va_D A [(au, .inr (0, [.ref mt])), (mt, .inl (cI, 768, .inl (met))), (h, .inr (1, [.ref a])), (a, .inl (cJ, 12544, .inr (.inl (f))))] := hD
  refine lv_iload_n hx hb d_Au_visit_0 rfl (lv_at hl 2 rfl) ?_
  refine lv_if_ne (tgt := 6) hx hb d_Au_visit_1 (by decide) (fun c1 => ?_) (fun c1 => ?_)
  · have c1 : ¬ b = 0 := fun h9 => c1 ((q_z_eq (by omega)).mpr h9)
    refine lv_iload_n hx hb d_Au_visit_6 rfl (lv_at hl 2 rfl) ?_
    refine lv_bipush (v := nI 16) hx hb d_Au_visit_7 (by decide) ?_
    refine lv_isub hx hb d_Au_visit_9 ?_
    refine lv_istore (lv' := [(4, .int ((nI b) - (nI 16))), (0, .ref au), (1, .ref h), (2, .int (nI b)), (3, .int (nI 2))]) hx hb d_Au_visit_10 hl (by decide) rfl (fun ls hl => ?_)
    refine lv_iload hx hb d_Au_visit_12 (lv_at hl 0 rfl) ?_
    refine lv_if_lt (tgt := 25) hx hb d_Au_visit_14 (by decide) (fun c14 => ?_) (fun c14 => ?_)
    · refine lv_iload_n hx hb d_Au_visit_25 rfl (lv_at hl 3 rfl) ?_
      exact q_iret hx hb hr hlk hK hP hD hS d_Au_visit_26 (by rw [qa_vis_eq2]; unfold qa_body; rw [if_neg c1, if_pos (fun q => by have := q.1; omega)]) (by rw [qa_vis_eq2]; unfold qa_body; rw [if_neg c1, if_pos (fun q => by have := q.1; omega)])
    · exact absurd (pk_sneg (by omega) (by omega)) c14
  · have c1 : b = 0 := (q_z_eq (by omega)).mp c1
    refine lv_iconst (v := nI 0) hx hb d_Au_visit_4 (by decide) ?_
    exact q_iret hx hb hr hlk hK hP hD hS d_Au_visit_5 (by rw [qa_vis_eq2]; unfold qa_body; rw [if_pos c1]) (by rw [qa_vis_eq2]; unfold qa_body; rw [if_pos c1])
set_option maxHeartbeats 4000000 in
set_option maxRecDepth 100000 in
theorem c_Au_visit2P (l : Launch) (D : va_G) (cI : ClassId) (cJ : ClassId) (au : Nat) (mt : Nat) (met : Nat → Int32) (h : Nat) (a : Nat) (f : Nat → Int64) (b : Nat) (kb : b < 65536) (kz : 16 ≤ b) : qMi l y_Au_visit b_Au_visit 6 (some .int) (rmL 6) D [(cI, .int), (cJ, .long)] [.ref au, .ref h, .int (nI b), .int (nI 2)] [(au, .inr (0, [.ref mt])), (mt, .inl (cI, 768, .inl (met))), (h, .inr (1, [.ref a])), (a, .inl (cJ, 12544, .inr (.inl (f))))] [(au, .inr (0, [.ref mt])), (mt, .inl (cI, 768, .inl ((qa_vis f 2 met b).2))), (h, .inr (1, [.ref a])), (a, .inl (cJ, 12544, .inr (.inl (f))))] (nI (qa_vis f 2 met b).1) := by
  refine q_start (Qc := qZi D _ _ _) (by decide +kernel) (Nat.le_of_ble_eq_true rfl) ?_
  intro p e s m below meth c A hx hb hr hlk hml hown hts hK hP hD hS hA hN ls hl
  have hl : lv_has ls 6 [(0, .ref au), (1, .ref h), (2, .int (nI b)), (3, .int (nI 2))] := hl
  have hP : va_P D cls [(au, .inr (0, [.ref mt])), (mt, .inl (cI, 768, .inl (met))), (h, .inr (1, [.ref a])), (a, .inl (cJ, 12544, .inr (.inl (f))))] s.heap := hP
  have hD : va_D A [(au, .inr (0, [.ref mt])), (mt, .inl (cI, 768, .inl (met))), (h, .inr (1, [.ref a])), (a, .inl (cJ, 12544, .inr (.inl (f))))] := hD
  refine lv_iload_n hx hb d_Au_visit_0 rfl (lv_at hl 2 rfl) ?_
  refine lv_if_ne (tgt := 6) hx hb d_Au_visit_1 (by decide) (fun c1 => ?_) (fun c1 => ?_)
  · have c1 : ¬ b = 0 := fun h9 => c1 ((q_z_eq (by omega)).mpr h9)
    refine lv_iload_n hx hb d_Au_visit_6 rfl (lv_at hl 2 rfl) ?_
    refine lv_bipush (v := nI 16) hx hb d_Au_visit_7 (by decide) ?_
    refine lv_isub hx hb d_Au_visit_9 ?_
    refine q_ti (y := nI (b - 16)) (pk_sub (by omega)) ?_
    refine lv_istore (lv' := [(4, .int (nI (b - 16))), (0, .ref au), (1, .ref h), (2, .int (nI b)), (3, .int (nI 2))]) hx hb d_Au_visit_10 hl (by decide) rfl (fun ls hl => ?_)
    refine lv_iload hx hb d_Au_visit_12 (lv_at hl 0 rfl) ?_
    refine lv_if_lt (tgt := 25) hx hb d_Au_visit_14 (by decide) (fun c14 => ?_) (fun c14 => ?_)
    · exact absurd c14 (nI_pos (by omega))
    · refine lv_iload hx hb d_Au_visit_17 (lv_at hl 0 rfl) ?_
      refine lv_sipush (v := nI 768) hx hb d_Au_visit_19 (by decide) ?_
      refine lv_icmp_lt (tgt := 27) hx hb d_Au_visit_22 (by decide) (fun c22 => ?_) (fun c22 => ?_)
      · have c22 : (b - 16) < 768 := (nI_ltI (by omega) (by omega)).mp c22
        refine lv_aload_n hx hb d_Au_visit_27 rfl (lv_at hl 1 rfl) ?_
        refine va_get (D := D) (ci := 0) (v := .ref mt) (C := R_Au) (T := F_Au) (N := 1) hx hb hts i_Au hown hK hP 0 rfl rfl 0 (by decide) (hts _ fl_Au_9) (fun _ h9 => h9) rfl d_Au_visit_28 ?_
        refine lv_iload hx hb d_Au_visit_31 (lv_at hl 0 rfl) ?_
        refine va_iald hx hb hK hP 1 0 rfl rfl (vp_in_nI (by omega) (by decide)) d_Au_visit_33 ?_
        refine q_ti (y := met (b - 16)) (by rw [nI_clamp (by omega)]) ?_
        refine lv_if_le (tgt := 72) hx hb d_Au_visit_34 (by decide) (fun c34 => ?_) (fun c34 => ?_)
        · have c34 : ¬ 0 < met (b - 16) := fun q => by have h1 := Int32.lt_iff_toInt_lt.mp q; have h2 := Int32.le_iff_toInt_le.mp c34; omega
          refine lv_aload_n hx hb d_Au_visit_72 rfl (lv_at hl 1 rfl) ?_
          refine va_get (D := D) (ci := 0) (v := .ref mt) (C := R_Au) (T := F_Au) (N := 1) hx hb hts i_Au hown hK hP 0 rfl rfl 0 (by decide) (hts _ fl_Au_9) (fun _ h9 => h9) rfl d_Au_visit_73 ?_
          refine lv_iload hx hb d_Au_visit_76 (lv_at hl 0 rfl) ?_
          refine lv_iload_n hx hb d_Au_visit_78 rfl (lv_at hl 4 rfl) ?_
          refine lv_ldc hx hb hown (hts _ kc_Au_31) d_Au_visit_79 ?_
          refine q_ti (y := nI 65536) (by decide) ?_
          refine lv_imul hx hb d_Au_visit_81 ?_
          refine q_ti (y := nI 131072) (by decide) ?_
          refine q_ti (y := nI 131072) (by decide) ?_
          refine lv_iconst (v := nI 1) hx hb d_Au_visit_82 (by decide) ?_
          refine lv_iadd hx hb d_Au_visit_83 ?_
          refine q_ti (y := nI 131073) (by decide) ?_
          refine va_iast hx hb hK hP hD hS 1 0 rfl rfl (vp_in_nI (by omega) (by decide)) d_Au_visit_84 (fun H locs hP hD hS => ?_)
          rw [nI_clamp (by omega)] at hP hD
          have hP : va_P D cls [(au, .inr (0, [.ref mt])), (mt, .inl (cI, 768, .inl (upd met (b - 16) (nI 131073)))), (h, .inr (1, [.ref a])), (a, .inl (cJ, 12544, .inr (.inl (f))))] H := hP
          have hD : va_D A [(au, .inr (0, [.ref mt])), (mt, .inl (cI, 768, .inl (upd met (b - 16) (nI 131073)))), (h, .inr (1, [.ref a])), (a, .inl (cJ, 12544, .inr (.inl (f))))] := hD
          refine lv_iload_n hx hb d_Au_visit_85 rfl (lv_at hl 4 rfl) ?_
          refine lv_if_le (tgt := 99) hx hb d_Au_visit_86 (by decide) (fun c86 => ?_) (fun c86 => ?_)
          · have c86 : 2 ≤ 0 := (q_z_le (by omega)).mp c86
            exfalso; omega
          · have c86 : ¬ 2 ≤ 0 := fun h9 => c86 ((q_z_le (by omega)).mpr h9)
            refine lv_aload_n hx hb d_Au_visit_89 rfl (lv_at hl 1 rfl) ?_
            refine lv_aload_n hx hb d_Au_visit_90 rfl (lv_at hl 2 rfl) ?_
            refine lv_iload_n hx hb d_Au_visit_91 rfl (lv_at hl 3 rfl) ?_
            refine lv_iload_n hx hb d_Au_visit_92 rfl (lv_at hl 4 rfl) ?_
            refine q_callVi (As := [.ref h, .int (nI b), .int (nI 2)]) (rest := []) (wsC := [(au, .inr (0, [.ref mt])), (mt, .inl (cI, 768, .inl (upd met (b - 16) (nI 131073)))), (h, .inr (1, [.ref a])), (a, .inl (cJ, 12544, .inr (.inl (f))))]) (wsR := []) (wsC' := [(au, .inr (0, [.ref mt])), (mt, .inl (cI, 768, .inl ((qa_links f 2 (qa_vis f 1) (upd met (b - 16) (nI 131073)) b).2))), (h, .inr (1, [.ref a])), (a, .inl (cJ, 12544, .inr (.inl (f))))]) (wsN := [(au, .inr (0, [.ref mt])), (mt, .inl (cI, 768, .inl ((qa_links f 2 (qa_vis f 1) (upd met (b - 16) (nI 131073)) b).2))), (h, .inr (1, [.ref a])), (a, .inl (cJ, 12544, .inr (.inl (f))))]) (isT := [0, 1]) (isC := [0, 1, 2, 3]) (isR := []) (isN := [0, 1, 2, 3]) (k := 3) (ci := 0) (C := R_Au) ⟨hx, hb, hml, hown, hts⟩ (c_Au_visitLinks2 l D cI cJ au mt (upd met (b - 16) (nI 131073)) h a f b (by omega)) (tw_V ml_Au_35 im_Au_visitLinks se_Au_visitLinks in_Au cd_Au_visitLinks) rfl ⟨by decide +kernel, Nat.le_of_ble_eq_true rfl, Nat.le_of_ble_eq_true rfl⟩ ⟨Nat.le_of_ble_eq_true rfl, Nat.le_of_ble_eq_true rfl⟩ hK hP hD hS hA hN rfl ⟨rfl, rfl, rfl, by decide, by decide, by decide, by decide⟩ rfl rfl rfl hl.1 rfl rfl (Nat.le_of_ble_eq_true rfl) d_Au_visit_93 (fun H locs hP hD hS => ?_)
            refine lv_goto (tgt := 100) hx hb d_Au_visit_96 (by decide) ?_
            exact q_iret hx hb hr hlk hK hP hD hS d_Au_visit_100 (by rw [qa_vis_eq2]; unfold qa_body; rw [if_neg c1, if_neg (fun q => q ⟨by omega, by omega⟩), if_neg c34]) (by rw [qa_vis_eq2]; unfold qa_body; rw [if_neg c1, if_neg (fun q => q ⟨by omega, by omega⟩), if_neg c34])
        · have c34 : 0 < met (b - 16) := by
            rcases (show 0 < met (b - 16) ∨ met (b - 16) ≤ 0 by rw [Int32.lt_iff_toInt_lt, Int32.le_iff_toInt_le]; omega) with q | q
            · exact q
            · exact absurd q c34
          refine lv_aload_n hx hb d_Au_visit_37 rfl (lv_at hl 1 rfl) ?_
          refine va_get (D := D) (ci := 0) (v := .ref mt) (C := R_Au) (T := F_Au) (N := 1) hx hb hts i_Au hown hK hP 0 rfl rfl 0 (by decide) (hts _ fl_Au_9) (fun _ h9 => h9) rfl d_Au_visit_38 ?_
          refine lv_iload hx hb d_Au_visit_41 (lv_at hl 0 rfl) ?_
          refine va_iald hx hb hK hP 1 0 rfl rfl (vp_in_nI (by omega) (by decide)) d_Au_visit_43 ?_
          refine q_ti (y := met (b - 16)) (by rw [nI_clamp (by omega)]) ?_
          refine lv_ldc hx hb hown (hts _ kc_Au_31) d_Au_visit_44 ?_
          refine q_ti (y := nI 65536) (by decide) ?_
          refine lv_idiv hx hb d_Au_visit_46 (by decide) ?_
          refine lv_istore (lv' := [(5, .int ((met (b - 16)) / (nI 65536))), (4, .int (nI (b - 16))), (0, .ref au), (1, .ref h), (2, .int (nI b)), (3, .int (nI 2))]) hx hb d_Au_visit_47 hl (by decide) rfl (fun ls hl => ?_)
          refine lv_aload_n hx hb d_Au_visit_49 rfl (lv_at hl 2 rfl) ?_
          refine va_get (D := D) (ci := 0) (v := .ref mt) (C := R_Au) (T := F_Au) (N := 1) hx hb hts i_Au hown hK hP 0 rfl rfl 0 (by decide) (hts _ fl_Au_9) (fun _ h9 => h9) rfl d_Au_visit_50 ?_
          refine lv_iload hx hb d_Au_visit_53 (lv_at hl 1 rfl) ?_
          refine lv_dup2_11 hx hb d_Au_visit_55 rfl rfl ?_
          refine va_iald hx hb hK hP 1 0 rfl rfl (vp_in_nI (by omega) (by decide)) d_Au_visit_56 ?_
          refine q_ti (y := met (b - 16)) (by rw [nI_clamp (by omega)]) ?_
          refine lv_iconst (v := nI 1) hx hb d_Au_visit_57 (by decide) ?_
          refine lv_iadd hx hb d_Au_visit_58 ?_
          refine va_iast hx hb hK hP hD hS 1 0 rfl rfl (vp_in_nI (by omega) (by decide)) d_Au_visit_59 (fun H locs hP hD hS => ?_)
          rw [nI_clamp (by omega)] at hP hD
          have hP : va_P D cls [(au, .inr (0, [.ref mt])), (mt, .inl (cI, 768, .inl (upd met (b - 16) ((met (b - 16)) + (nI 1))))), (h, .inr (1, [.ref a])), (a, .inl (cJ, 12544, .inr (.inl (f))))] H := hP
          have hD : va_D A [(au, .inr (0, [.ref mt])), (mt, .inl (cI, 768, .inl (upd met (b - 16) ((met (b - 16)) + (nI 1))))), (h, .inr (1, [.ref a])), (a, .inl (cJ, 12544, .inr (.inl (f))))] := hD
          refine lv_iload hx hb d_Au_visit_60 (lv_at hl 0 rfl) ?_
          refine lv_iload_n hx hb d_Au_visit_62 rfl (lv_at hl 5 rfl) ?_
          refine lv_icmp_ne (tgt := 70) hx hb d_Au_visit_63 (by decide) (fun c63 => ?_) (fun c63 => ?_)
          · refine lv_iload_n hx hb d_Au_visit_70 rfl (lv_at hl 4 rfl) ?_
            exact q_iret hx hb hr hlk hK hP hD hS d_Au_visit_71 (by rw [qa_vis_eq2]; unfold qa_body; rw [if_neg c1, if_neg (fun q => q ⟨by omega, by omega⟩), if_pos c34]; rw [if_neg c63]) (by rw [qa_vis_eq2]; unfold qa_body; rw [if_neg c1, if_neg (fun q => q ⟨by omega, by omega⟩), if_pos c34])
          · refine lv_iconst (v := nI 0) hx hb d_Au_visit_66 (by decide) ?_
            refine lv_goto (tgt := 71) hx hb d_Au_visit_67 (by decide) ?_
            exact q_iret hx hb hr hlk hK hP hD hS d_Au_visit_71 (by rw [qa_vis_eq2]; unfold qa_body; rw [if_neg c1, if_neg (fun q => q ⟨by omega, by omega⟩), if_pos c34]; rw [if_pos c63]) (by rw [qa_vis_eq2]; unfold qa_body; rw [if_neg c1, if_neg (fun q => q ⟨by omega, by omega⟩), if_pos c34])
      · have c22 : ¬ (b - 16) < 768 := fun h9 => c22 ((nI_ltI (by omega) (by omega)).mpr h9)
        refine lv_iload_n hx hb d_Au_visit_25 rfl (lv_at hl 3 rfl) ?_
        exact q_iret hx hb hr hlk hK hP hD hS d_Au_visit_26 (by rw [qa_vis_eq2]; unfold qa_body; rw [if_neg c1, if_pos (fun q => by have := q.2; omega)]) (by rw [qa_vis_eq2]; unfold qa_body; rw [if_neg c1, if_pos (fun q => by have := q.2; omega)])
  · have c1 : b = 0 := (q_z_eq (by omega)).mp c1
    refine lv_iconst (v := nI 0) hx hb d_Au_visit_4 (by decide) ?_
    exact q_iret hx hb hr hlk hK hP hD hS d_Au_visit_5 (by rw [qa_vis_eq2]; unfold qa_body; rw [if_pos c1]) (by rw [qa_vis_eq2]; unfold qa_body; rw [if_pos c1])
theorem c_Au_visit2 (l : Launch) (D : va_G) (cI : ClassId) (cJ : ClassId) (au : Nat) (mt : Nat) (met : Nat → Int32) (h : Nat) (a : Nat) (f : Nat → Int64) (b : Nat) (kb : b < 65536) : qMi l y_Au_visit b_Au_visit 6 (some .int) (rmL 6) D [(cI, .int), (cJ, .long)] [.ref au, .ref h, .int (nI b), .int (nI 2)] [(au, .inr (0, [.ref mt])), (mt, .inl (cI, 768, .inl (met))), (h, .inr (1, [.ref a])), (a, .inl (cJ, 12544, .inr (.inl (f))))] [(au, .inr (0, [.ref mt])), (mt, .inl (cI, 768, .inl ((qa_vis f 2 met b).2))), (h, .inr (1, [.ref a])), (a, .inl (cJ, 12544, .inr (.inl (f))))] (nI (qa_vis f 2 met b).1) := by
  by_cases hz : b < 16
  · exact c_Au_visit2Z l D cI cJ au mt met h a f b kb hz
  · exact c_Au_visit2P l D cI cJ au mt met h a f b kb (by omega)
