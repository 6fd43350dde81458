/-! A SWAP OF TWO ROWS turns the determinant's sign -/
def sw (P : Nat → Nat → Int) (a b : Nat) : Nat → Nat → Int := fun r c => P (if r = a then b else if r = b then a else r) c
set_option maxHeartbeats 4000000 in
set_option maxRecDepth 100000 in
theorem sw_2_0_1 (M : Nat → Nat → Int) (x0 x1 : Nat) : dt (sw M 0 1) (rv 2) [x0, x1] = - dt M (rv 2) [x0, x1] := by
  simp [sw, dt, lap, rv, List.nil_append, List.cons_append, List.append_nil, List.length_cons, List.length_nil, Nat.reduceAdd, Nat.reduceMod, if_true, if_false, reduceIte, Nat.one_ne_zero, Nat.zero_ne_one]
  try grind
set_option maxHeartbeats 4000000 in
set_option maxRecDepth 100000 in
theorem sw_3_0_1 (M : Nat → Nat → Int) (x0 x1 x2 : Nat) : dt (sw M 0 1) (rv 3) [x0, x1, x2] = - dt M (rv 3) [x0, x1, x2] := by
  simp [sw, dt, lap, rv, List.nil_append, List.cons_append, List.append_nil, List.length_cons, List.length_nil, Nat.reduceAdd, Nat.reduceMod, if_true, if_false, reduceIte, Nat.one_ne_zero, Nat.zero_ne_one]
  try grind
set_option maxHeartbeats 4000000 in
set_option maxRecDepth 100000 in
theorem sw_3_0_2 (M : Nat → Nat → Int) (x0 x1 x2 : Nat) : dt (sw M 0 2) (rv 3) [x0, x1, x2] = - dt M (rv 3) [x0, x1, x2] := by
  simp [sw, dt, lap, rv, List.nil_append, List.cons_append, List.append_nil, List.length_cons, List.length_nil, Nat.reduceAdd, Nat.reduceMod, if_true, if_false, reduceIte, Nat.one_ne_zero, Nat.zero_ne_one]
  try grind
set_option maxHeartbeats 4000000 in
set_option maxRecDepth 100000 in
theorem sw_3_1_2 (M : Nat → Nat → Int) (x0 x1 x2 : Nat) : dt (sw M 1 2) (rv 3) [x0, x1, x2] = - dt M (rv 3) [x0, x1, x2] := by
  simp [sw, dt, lap, rv, List.nil_append, List.cons_append, List.append_nil, List.length_cons, List.length_nil, Nat.reduceAdd, Nat.reduceMod, if_true, if_false, reduceIte, Nat.one_ne_zero, Nat.zero_ne_one]
  try grind
set_option maxHeartbeats 4000000 in
set_option maxRecDepth 100000 in
theorem sw_4_0_1 (M : Nat → Nat → Int) (x0 x1 x2 x3 : Nat) : dt (sw M 0 1) (rv 4) [x0, x1, x2, x3] = - dt M (rv 4) [x0, x1, x2, x3] := by
  simp [sw, dt, lap, rv, List.nil_append, List.cons_append, List.append_nil, List.length_cons, List.length_nil, Nat.reduceAdd, Nat.reduceMod, if_true, if_false, reduceIte, Nat.one_ne_zero, Nat.zero_ne_one]
  try grind
set_option maxHeartbeats 4000000 in
set_option maxRecDepth 100000 in
theorem sw_4_0_2 (M : Nat → Nat → Int) (x0 x1 x2 x3 : Nat) : dt (sw M 0 2) (rv 4) [x0, x1, x2, x3] = - dt M (rv 4) [x0, x1, x2, x3] := by
  simp [sw, dt, lap, rv, List.nil_append, List.cons_append, List.append_nil, List.length_cons, List.length_nil, Nat.reduceAdd, Nat.reduceMod, if_true, if_false, reduceIte, Nat.one_ne_zero, Nat.zero_ne_one]
  try grind
set_option maxHeartbeats 4000000 in
set_option maxRecDepth 100000 in
theorem sw_4_0_3 (M : Nat → Nat → Int) (x0 x1 x2 x3 : Nat) : dt (sw M 0 3) (rv 4) [x0, x1, x2, x3] = - dt M (rv 4) [x0, x1, x2, x3] := by
  simp [sw, dt, lap, rv, List.nil_append, List.cons_append, List.append_nil, List.length_cons, List.length_nil, Nat.reduceAdd, Nat.reduceMod, if_true, if_false, reduceIte, Nat.one_ne_zero, Nat.zero_ne_one]
  try grind
set_option maxHeartbeats 4000000 in
set_option maxRecDepth 100000 in
theorem sw_4_1_2 (M : Nat → Nat → Int) (x0 x1 x2 x3 : Nat) : dt (sw M 1 2) (rv 4) [x0, x1, x2, x3] = - dt M (rv 4) [x0, x1, x2, x3] := by
  simp [sw, dt, lap, rv, List.nil_append, List.cons_append, List.append_nil, List.length_cons, List.length_nil, Nat.reduceAdd, Nat.reduceMod, if_true, if_false, reduceIte, Nat.one_ne_zero, Nat.zero_ne_one]
  try grind
set_option maxHeartbeats 4000000 in
set_option maxRecDepth 100000 in
theorem sw_4_1_3 (M : Nat → Nat → Int) (x0 x1 x2 x3 : Nat) : dt (sw M 1 3) (rv 4) [x0, x1, x2, x3] = - dt M (rv 4) [x0, x1, x2, x3] := by
  simp [sw, dt, lap, rv, List.nil_append, List.cons_append, List.append_nil, List.length_cons, List.length_nil, Nat.reduceAdd, Nat.reduceMod, if_true, if_false, reduceIte, Nat.one_ne_zero, Nat.zero_ne_one]
  try grind
set_option maxHeartbeats 4000000 in
set_option maxRecDepth 100000 in
theorem sw_4_2_3 (M : Nat → Nat → Int) (x0 x1 x2 x3 : Nat) : dt (sw M 2 3) (rv 4) [x0, x1, x2, x3] = - dt M (rv 4) [x0, x1, x2, x3] := by
  simp [sw, dt, lap, rv, List.nil_append, List.cons_append, List.append_nil, List.length_cons, List.length_nil, Nat.reduceAdd, Nat.reduceMod, if_true, if_false, reduceIte, Nat.one_ne_zero, Nat.zero_ne_one]
  try grind
set_option maxHeartbeats 4000000 in
set_option maxRecDepth 100000 in
theorem sw_5_0_1 (M : Nat → Nat → Int) (x0 x1 x2 x3 x4 : Nat) : dt (sw M 0 1) (rv 5) [x0, x1, x2, x3, x4] = - dt M (rv 5) [x0, x1, x2, x3, x4] := by
  simp [sw, dt, lap, rv, List.nil_append, List.cons_append, List.append_nil, List.length_cons, List.length_nil, Nat.reduceAdd, Nat.reduceMod, if_true, if_false, reduceIte, Nat.one_ne_zero, Nat.zero_ne_one]
  try grind
set_option maxHeartbeats 4000000 in
set_option maxRecDepth 100000 in
theorem sw_5_0_2 (M : Nat → Nat → Int) (x0 x1 x2 x3 x4 : Nat) : dt (sw M 0 2) (rv 5) [x0, x1, x2, x3, x4] = - dt M (rv 5) [x0, x1, x2, x3, x4] := by
  simp [sw, dt, lap, rv, List.nil_append, List.cons_append, List.append_nil, List.length_cons, List.length_nil, Nat.reduceAdd, Nat.reduceMod, if_true, if_false, reduceIte, Nat.one_ne_zero, Nat.zero_ne_one]
  try grind
set_option maxHeartbeats 4000000 in
set_option maxRecDepth 100000 in
theorem sw_5_0_3 (M : Nat → Nat → Int) (x0 x1 x2 x3 x4 : Nat) : dt (sw M 0 3) (rv 5) [x0, x1, x2, x3, x4] = - dt M (rv 5) [x0, x1, x2, x3, x4] := by
  simp [sw, dt, lap, rv, List.nil_append, List.cons_append, List.append_nil, List.length_cons, List.length_nil, Nat.reduceAdd, Nat.reduceMod, if_true, if_false, reduceIte, Nat.one_ne_zero, Nat.zero_ne_one]
  try grind
set_option maxHeartbeats 4000000 in
set_option maxRecDepth 100000 in
theorem sw_5_0_4 (M : Nat → Nat → Int) (x0 x1 x2 x3 x4 : Nat) : dt (sw M 0 4) (rv 5) [x0, x1, x2, x3, x4] = - dt M (rv 5) [x0, x1, x2, x3, x4] := by
  simp [sw, dt, lap, rv, List.nil_append, List.cons_append, List.append_nil, List.length_cons, List.length_nil, Nat.reduceAdd, Nat.reduceMod, if_true, if_false, reduceIte, Nat.one_ne_zero, Nat.zero_ne_one]
  try grind
set_option maxHeartbeats 4000000 in
set_option maxRecDepth 100000 in
theorem sw_5_1_2 (M : Nat → Nat → Int) (x0 x1 x2 x3 x4 : Nat) : dt (sw M 1 2) (rv 5) [x0, x1, x2, x3, x4] = - dt M (rv 5) [x0, x1, x2, x3, x4] := by
  simp [sw, dt, lap, rv, List.nil_append, List.cons_append, List.append_nil, List.length_cons, List.length_nil, Nat.reduceAdd, Nat.reduceMod, if_true, if_false, reduceIte, Nat.one_ne_zero, Nat.zero_ne_one]
  try grind
set_option maxHeartbeats 4000000 in
set_option maxRecDepth 100000 in
theorem sw_5_1_3 (M : Nat → Nat → Int) (x0 x1 x2 x3 x4 : Nat) : dt (sw M 1 3) (rv 5) [x0, x1, x2, x3, x4] = - dt M (rv 5) [x0, x1, x2, x3, x4] := by
  simp [sw, dt, lap, rv, List.nil_append, List.cons_append, List.append_nil, List.length_cons, List.length_nil, Nat.reduceAdd, Nat.reduceMod, if_true, if_false, reduceIte, Nat.one_ne_zero, Nat.zero_ne_one]
  try grind
set_option maxHeartbeats 4000000 in
set_option maxRecDepth 100000 in
theorem sw_5_1_4 (M : Nat → Nat → Int) (x0 x1 x2 x3 x4 : Nat) : dt (sw M 1 4) (rv 5) [x0, x1, x2, x3, x4] = - dt M (rv 5) [x0, x1, x2, x3, x4] := by
  simp [sw, dt, lap, rv, List.nil_append, List.cons_append, List.append_nil, List.length_cons, List.length_nil, Nat.reduceAdd, Nat.reduceMod, if_true, if_false, reduceIte, Nat.one_ne_zero, Nat.zero_ne_one]
  try grind
set_option maxHeartbeats 4000000 in
set_option maxRecDepth 100000 in
theorem sw_5_2_3 (M : Nat → Nat → Int) (x0 x1 x2 x3 x4 : Nat) : dt (sw M 2 3) (rv 5) [x0, x1, x2, x3, x4] = - dt M (rv 5) [x0, x1, x2, x3, x4] := by
  simp [sw, dt, lap, rv, List.nil_append, List.cons_append, List.append_nil, List.length_cons, List.length_nil, Nat.reduceAdd, Nat.reduceMod, if_true, if_false, reduceIte, Nat.one_ne_zero, Nat.zero_ne_one]
  try grind
set_option maxHeartbeats 4000000 in
set_option maxRecDepth 100000 in
theorem sw_5_2_4 (M : Nat → Nat → Int) (x0 x1 x2 x3 x4 : Nat) : dt (sw M 2 4) (rv 5) [x0, x1, x2, x3, x4] = - dt M (rv 5) [x0, x1, x2, x3, x4] := by
  simp [sw, dt, lap, rv, List.nil_append, List.cons_append, List.append_nil, List.length_cons, List.length_nil, Nat.reduceAdd, Nat.reduceMod, if_true, if_false, reduceIte, Nat.one_ne_zero, Nat.zero_ne_one]
  try grind
set_option maxHeartbeats 4000000 in
set_option maxRecDepth 100000 in
theorem sw_5_3_4 (M : Nat → Nat → Int) (x0 x1 x2 x3 x4 : Nat) : dt (sw M 3 4) (rv 5) [x0, x1, x2, x3, x4] = - dt M (rv 5) [x0, x1, x2, x3, x4] := by
  simp [sw, dt, lap, rv, List.nil_append, List.cons_append, List.append_nil, List.length_cons, List.length_nil, Nat.reduceAdd, Nat.reduceMod, if_true, if_false, reduceIte, Nat.one_ne_zero, Nat.zero_ne_one]
  try grind
theorem sw_all {M : Nat → Nat → Int} {w a b : Nat} (hw : w ≤ 5) (hab : a < b) (hb : b < w) {cs : List Nat} (hc : cs.length = w) : dt (sw M a b) (rv w) cs = - dt M (rv w) cs := by
  match w, a, b, hw, hab, hb, cs, hc with
  | 2, 0, 1, _, _, _, [x0, x1], _ => exact sw_2_0_1 M x0 x1
  | 3, 0, 1, _, _, _, [x0, x1, x2], _ => exact sw_3_0_1 M x0 x1 x2
  | 3, 0, 2, _, _, _, [x0, x1, x2], _ => exact sw_3_0_2 M x0 x1 x2
  | 3, 1, 2, _, _, _, [x0, x1, x2], _ => exact sw_3_1_2 M x0 x1 x2
  | 4, 0, 1, _, _, _, [x0, x1, x2, x3], _ => exact sw_4_0_1 M x0 x1 x2 x3
  | 4, 0, 2, _, _, _, [x0, x1, x2, x3], _ => exact sw_4_0_2 M x0 x1 x2 x3
  | 4, 0, 3, _, _, _, [x0, x1, x2, x3], _ => exact sw_4_0_3 M x0 x1 x2 x3
  | 4, 1, 2, _, _, _, [x0, x1, x2, x3], _ => exact sw_4_1_2 M x0 x1 x2 x3
  | 4, 1, 3, _, _, _, [x0, x1, x2, x3], _ => exact sw_4_1_3 M x0 x1 x2 x3
  | 4, 2, 3, _, _, _, [x0, x1, x2, x3], _ => exact sw_4_2_3 M x0 x1 x2 x3
  | 5, 0, 1, _, _, _, [x0, x1, x2, x3, x4], _ => exact sw_5_0_1 M x0 x1 x2 x3 x4
  | 5, 0, 2, _, _, _, [x0, x1, x2, x3, x4], _ => exact sw_5_0_2 M x0 x1 x2 x3 x4
  | 5, 0, 3, _, _, _, [x0, x1, x2, x3, x4], _ => exact sw_5_0_3 M x0 x1 x2 x3 x4
  | 5, 0, 4, _, _, _, [x0, x1, x2, x3, x4], _ => exact sw_5_0_4 M x0 x1 x2 x3 x4
  | 5, 1, 2, _, _, _, [x0, x1, x2, x3, x4], _ => exact sw_5_1_2 M x0 x1 x2 x3 x4
  | 5, 1, 3, _, _, _, [x0, x1, x2, x3, x4], _ => exact sw_5_1_3 M x0 x1 x2 x3 x4
  | 5, 1, 4, _, _, _, [x0, x1, x2, x3, x4], _ => exact sw_5_1_4 M x0 x1 x2 x3 x4
  | 5, 2, 3, _, _, _, [x0, x1, x2, x3, x4], _ => exact sw_5_2_3 M x0 x1 x2 x3 x4
  | 5, 2, 4, _, _, _, [x0, x1, x2, x3, x4], _ => exact sw_5_2_4 M x0 x1 x2 x3 x4
  | 5, 3, 4, _, _, _, [x0, x1, x2, x3, x4], _ => exact sw_5_3_4 M x0 x1 x2 x3 x4
  | 1, a + 0, _, _, h1, h2, _, _ => omega
  | 2, a + 1, _, _, h1, h2, _, _ => omega
  | 3, a + 2, _, _, h1, h2, _, _ => omega
  | 4, a + 3, _, _, h1, h2, _, _ => omega
  | 5, a + 4, _, _, h1, h2, _, _ => omega
