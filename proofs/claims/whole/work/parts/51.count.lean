/-! the pieces of a volume, one by one: 4 leaves of 32 -/
theorem qy_sum128 (g : Nat → Nat) : qs_ 128 g = qs_ 4 (fun i => qs_ 32 (fun j => g (32 * i + j))) := by
  have e4 : qs_ 4 (fun i => qs_ 32 (fun j => g (32 * i + j))) = 0 + qs_ 32 (fun j => g (32 * 0 + j)) + qs_ 32 (fun j => g (32 * 1 + j)) + qs_ 32 (fun j => g (32 * 2 + j)) + qs_ 32 (fun j => g (32 * 3 + j)) := rfl
  rw [e4, show (128 : Nat) = 32 + (32 + (32 + 32)) from rfl, qs_split, qs_split, qs_split]
  have e0 : qs_ 32 g = qs_ 32 (fun j => g (32 * 0 + j)) := qs_congr (fun j _ => by rw [Nat.mul_zero, Nat.zero_add])
  have e1 : qs_ 32 (fun i => g (32 + i)) = qs_ 32 (fun j => g (32 * 1 + j)) := rfl
  have e2 : qs_ 32 (fun i => g (32 + (32 + i))) = qs_ 32 (fun j => g (32 * 2 + j)) := qs_congr (fun j _ => by rw [show 32 + (32 + j) = 32 * 2 + j by omega])
  have e3 : qs_ 32 (fun i => g (32 + (32 + (32 + i)))) = qs_ 32 (fun j => g (32 * 3 + j)) := qs_congr (fun j _ => by rw [show 32 + (32 + (32 + j)) = 32 * 3 + j by omega])
  rw [e0, e1, e2, e3]
  omega
theorem qy_S {f : Nat → Int64} {T v : Nat} (h0 : qv_rt f T v ≠ 0) : qf_S (qv_lk f) (qv_rt f T v) = qs_ 128 (fun p => qi_ (qt_find f T v p ≠ 0)) := by
  rw [qy_sum128]
  refine qs_congr (fun i hi => ?_)
  try dsimp only
  have el : ∀ j, j < 32 → qt_leaf f T v (32 * i + j) = qv_lk f (qv_rt f T v) i := fun j hj => by
    unfold qt_leaf
    rw [if_neg h0, show (32 * i + j) / 32 = i by omega]
  by_cases hl : qv_lk f (qv_rt f T v) i = 0
  · rw [qi_f (p := qv_lk f (qv_rt f T v) i ≠ 0) (fun q => q hl), Nat.zero_mul]
    refine (qs_zero (fun j hj => qi_f (fun q => q ?_))).symm
    unfold qt_find
    rw [el j hj, if_pos hl]
  · rw [qi_n hl, Nat.one_mul]
    refine qs_congr (fun j hj => ?_)
    try dsimp only
    have e : qt_find f T v (32 * i + j) = qv_lk f (qv_lk f (qv_rt f T v) i) j := by
      unfold qt_find
      rw [el j hj, if_neg hl, show (32 * i + j) % 32 = j by omega]
    rw [e]
