/-! WHAT THE METHODS DO, as functions of an image (T: where the tables of now begin, K: those of what is kept) -/
def qt_new (f : Nat → Int64) (T K b : Nat) : Prop := 0 < qv_wy f T b ∧ qv_wy f K b = 0
def qt_size (f : Nat → Int64) (T v : Nat) : Int32 := if qv_rt f T v = 0 then 0 else (qv_sz f (qv_rt f T v)).toInt32
def qt_all (f : Nat → Int64) (T : Nat) : Int32 := qv_for 16 (fun s v => s + qt_size f T v) 0
def qt_leaf (f : Nat → Int64) (T v p : Nat) : Nat := if qv_rt f T v = 0 then 0 else qv_lk f (qv_rt f T v) (p / 32)
def qt_find (f : Nat → Int64) (T v p : Nat) : Nat := if qt_leaf f T v p = 0 then 0 else qv_lk f (qt_leaf f T v p) (p % 32)
def qt_hand (h : Nat) : Nat := if h + 1 < 784 then h + 1 else 16
/-- answers block, image, hand -/
def qt_take (T K : Nat) (n : Nat) (f : Nat → Int64) (h : Nat) : Nat × (Nat → Int64) × Nat := match n with
  | 0 => (0, f, h)
  | k + 1 => if qv_wy f T (qt_hand h) = 0 ∧ qv_wy f K (qt_hand h) = 0 then (qt_hand h, qv_setY f T (qt_hand h) 1, qt_hand h) else qt_take T K k f (qt_hand h)
def qt_addW (T : Nat) (f : Nat → Int64) (b : Nat) : Nat → Int64 := qv_setY f T b (qv_wy f T b + 1)
def qt_rel (T : Nat) (k : Nat) (f : Nat → Int64) (b : Nat) : Nat → Int64 := match k with
  | 0 => if qv_wy f T b = 0 then f else qv_setY f T b (qv_wy f T b - 1)
  | k + 1 => if qv_wy f T b = 0 then f else if 1 < qv_wy f T b then qv_setY f T b (qv_wy f T b - 1) else qv_for (qf_nl (k + 1)) (fun g i => qt_rel T k g (qv_lk g b i)) (qv_setY f T b (qv_wy f T b - 1))
def qt_blank (T K : Nat) (f : Nat → Int64) (h : Nat) : Nat × (Nat → Int64) × Nat := ((qt_take T K 768 f h).1, qv_blank (qt_take T K 768 f h).2.1 (qt_take T K 768 f h).1, (qt_take T K 768 f h).2.2)
/-- a copy's links count once more each -/
def qt_ways (T k c : Nat) (f : Nat → Int64) : Nat → Int64 := qv_for (qf_nl k) (fun g i => qt_addW T g (qv_lk g c i)) f
def qt_own (T K k : Nat) (f : Nat → Int64) (h b : Nat) : Nat × (Nat → Int64) × Nat :=
  if qv_wy f T b = 1 ∧ qv_wy f K b = 0 then (b, f, h) else
  ((qt_take T K 768 f h).1, qt_rel T k (qt_ways T k (qt_take T K 768 f h).1 (qv_dup (qt_take T K 768 f h).2.1 b (qt_take T K 768 f h).1)) b, (qt_take T K 768 f h).2.2)
def qt_ownRoot (T K : Nat) (f : Nat → Int64) (h v : Nat) : Nat × (Nat → Int64) × Nat :=
  ((qt_own T K 2 f h (qv_rt f T v)).1, qv_setL (qt_own T K 2 f h (qv_rt f T v)).2.1 T v (qt_own T K 2 f h (qv_rt f T v)).1, (qt_own T K 2 f h (qv_rt f T v)).2.2)
def qt_ownOr (T K k : Nat) (f : Nat → Int64) (h b : Nat) : Nat × (Nat → Int64) × Nat := if b = 0 then qt_blank T K f h else qt_own T K k f h b
def qt_ownLink (T K k : Nat) (f : Nat → Int64) (h n i : Nat) : Nat × (Nat → Int64) × Nat :=
  ((qt_ownOr T K k f h (qv_lk f n i)).1, qv_setL (qt_ownOr T K k f h (qv_lk f n i)).2.1 n i (qt_ownOr T K k f h (qv_lk f n i)).1, (qt_ownOr T K k f h (qv_lk f n i)).2.2)
def qt_grow (f : Nat → Int64) (r l i : Nat) : Nat → Int64 := if qv_lk f l i = 0 then qv_addS (qv_addS f r 1) l 1 else f
def qt_ownPiece (T K : Nat) (f : Nat → Int64) (h v p : Nat) : Nat × (Nat → Int64) × Nat :=
  match qt_ownRoot T K f h v with
  | (r, f1, h1) => match qt_ownLink T K 1 f1 h1 r (p / 32) with
    | (l, f2, h2) => qt_ownLink T K 0 (qt_grow f2 r l (p % 32)) h2 l (p % 32)
def qt_dropLink (T k : Nat) (f : Nat → Int64) (n i : Nat) : Nat → Int64 := qv_setL (qt_rel T k f (qv_lk f n i)) n i 0
def qt_dropPiece (T K : Nat) (f : Nat → Int64) (h v p : Nat) : (Nat → Int64) × Nat :=
  match qt_ownRoot T K f h v with
  | (r, f1, h1) => match qt_ownLink T K 1 f1 h1 r (p / 32) with
    | (l, f2, h2) => match qt_dropLink T 0 (qv_addS (qv_addS f2 r (-1)) l (-1)) l (p % 32) with
      | f3 => (if (qv_sz f3 l).toInt32 = 0 then qt_dropLink T 1 f3 r (p / 32) else f3, h2)
def qt_addEmpty (T K : Nat) (f : Nat → Int64) (h v : Nat) : (Nat → Int64) × Nat := (qv_setL (qt_blank T K f h).2.1 T v (qt_blank T K f h).1, (qt_blank T K f h).2.2)
def qt_addTwin (T : Nat) (f : Nat → Int64) (v o : Nat) : Nat → Int64 := qt_addW T (qv_setL f T v (qv_rt f T o)) (qv_rt f T o)
def qt_dropVol (T : Nat) (f : Nat → Int64) (v : Nat) : Nat → Int64 := qv_setL (qt_rel T 2 f (qv_rt f T v)) T v 0
