/-! LINEAR ALGEBRA in small sizes -/
def sm (f : Nat → Int) : Nat → Int
  | 0 => 0
  | n + 1 => sm f n + f n
def lap (M : Nat → Nat → Int) (F : List Nat → Int) (r : Nat) : Int → List Nat → List Nat → Int
  | _, _, [] => 0
  | s, pre, c :: cs => s * M r c * F (pre ++ cs) + lap M F r (-s) (pre ++ [c]) cs
/-- the determinant of the rows rs (the last one first) and the columns cs -/
def dt (M : Nat → Nat → Int) : List Nat → List Nat → Int
  | [], _ => 1
  | r :: rs, cs => lap M (dt M rs) r (if rs.length % 2 = 0 then 1 else -1) [] cs
def rv : Nat → List Nat
  | 0 => []
  | k + 1 => k :: rv k
def ra : Nat → List Nat
  | 0 => []
  | k + 1 => ra k ++ [k]
/-- the leading minor; it with column r replaced by column c; it bordered by row r and column c -/
def Dk (M : Nat → Nat → Int) (k : Nat) : Int := dt M (rv k) (ra k)
def rep (M : Nat → Nat → Int) (k r c : Nat) : Int := dt M (rv k) ((ra k).set r c)
def bdr (M : Nat → Nat → Int) (k r c : Nat) : Int := dt M (r :: rv k) (ra k ++ [c])
theorem sm_congr {f g : Nat → Int} : ∀ {n : Nat}, (∀ i, i < n → f i = g i) → sm f n = sm g n
  | 0, _ => rfl
  | n + 1, h => by
    show sm f n + f n = sm g n + g n
    rw [sm_congr (fun i hi => h i (by omega)), h n (by omega)]
theorem sm_add {f g : Nat → Int} : ∀ {n : Nat}, sm (fun i => f i + g i) n = sm f n + sm g n
  | 0 => rfl
  | n + 1 => by
    show sm (fun i => f i + g i) n + (f n + g n) = (sm f n + f n) + (sm g n + g n)
    rw [sm_add]; omega
theorem sm_sub {f g : Nat → Int} : ∀ {n : Nat}, sm (fun i => f i - g i) n = sm f n - sm g n
  | 0 => rfl
  | n + 1 => by
    show sm (fun i => f i - g i) n + (f n - g n) = (sm f n + f n) - (sm g n + g n)
    rw [sm_sub]; omega
theorem sm_mul {f : Nat → Int} {a : Int} : ∀ {n : Nat}, sm (fun i => a * f i) n = a * sm f n
  | 0 => (Int.mul_zero a).symm
  | n + 1 => by
    show sm (fun i => a * f i) n + a * f n = a * (sm f n + f n)
    rw [sm_mul, Int.mul_add]
theorem sm_zero {f : Nat → Int} : ∀ {n : Nat}, (∀ i, i < n → f i = 0) → sm f n = 0
  | 0, _ => rfl
  | n + 1, h => by
    show sm f n + f n = 0
    rw [sm_zero (fun i hi => h i (by omega)), h n (by omega)]; rfl

set_option maxHeartbeats 4000000 in
set_option maxRecDepth 100000 in
theorem c1_1_0 (M : Nat → Nat → Int) (c : Nat) : sm (fun r => M 0 r * rep M 1 r c) 1 = Dk M 1 * M 0 c := by
  simp [sm, Dk, rep, bdr, dt, lap, rv, ra, List.set, List.nil_append, List.cons_append, List.append_nil, List.length_cons, List.length_nil, Nat.reduceAdd, Nat.reduceMod, if_true, if_false, reduceIte, Nat.one_ne_zero, Nat.zero_ne_one]
  try grind
set_option maxHeartbeats 4000000 in
set_option maxRecDepth 100000 in
theorem c1_2_0 (M : Nat → Nat → Int) (c : Nat) : sm (fun r => M 0 r * rep M 2 r c) 2 = Dk M 2 * M 0 c := by
  simp [sm, Dk, rep, bdr, dt, lap, rv, ra, List.set, List.nil_append, List.cons_append, List.append_nil, List.length_cons, List.length_nil, Nat.reduceAdd, Nat.reduceMod, if_true, if_false, reduceIte, Nat.one_ne_zero, Nat.zero_ne_one]
  try grind
set_option maxHeartbeats 4000000 in
set_option maxRecDepth 100000 in
theorem c1_2_1 (M : Nat → Nat → Int) (c : Nat) : sm (fun r => M 1 r * rep M 2 r c) 2 = Dk M 2 * M 1 c := by
  simp [sm, Dk, rep, bdr, dt, lap, rv, ra, List.set, List.nil_append, List.cons_append, List.append_nil, List.length_cons, List.length_nil, Nat.reduceAdd, Nat.reduceMod, if_true, if_false, reduceIte, Nat.one_ne_zero, Nat.zero_ne_one]
  try grind
set_option maxHeartbeats 4000000 in
set_option maxRecDepth 100000 in
theorem c1_3_0 (M : Nat → Nat → Int) (c : Nat) : sm (fun r => M 0 r * rep M 3 r c) 3 = Dk M 3 * M 0 c := by
  simp [sm, Dk, rep, bdr, dt, lap, rv, ra, List.set, List.nil_append, List.cons_append, List.append_nil, List.length_cons, List.length_nil, Nat.reduceAdd, Nat.reduceMod, if_true, if_false, reduceIte, Nat.one_ne_zero, Nat.zero_ne_one]
  try grind
set_option maxHeartbeats 4000000 in
set_option maxRecDepth 100000 in
theorem c1_3_1 (M : Nat → Nat → Int) (c : Nat) : sm (fun r => M 1 r * rep M 3 r c) 3 = Dk M 3 * M 1 c := by
  simp [sm, Dk, rep, bdr, dt, lap, rv, ra, List.set, List.nil_append, List.cons_append, List.append_nil, List.length_cons, List.length_nil, Nat.reduceAdd, Nat.reduceMod, if_true, if_false, reduceIte, Nat.one_ne_zero, Nat.zero_ne_one]
  try grind
set_option maxHeartbeats 4000000 in
set_option maxRecDepth 100000 in
theorem c1_3_2 (M : Nat → Nat → Int) (c : Nat) : sm (fun r => M 2 r * rep M 3 r c) 3 = Dk M 3 * M 2 c := by
  simp [sm, Dk, rep, bdr, dt, lap, rv, ra, List.set, List.nil_append, List.cons_append, List.append_nil, List.length_cons, List.length_nil, Nat.reduceAdd, Nat.reduceMod, if_true, if_false, reduceIte, Nat.one_ne_zero, Nat.zero_ne_one]
  try grind
set_option maxHeartbeats 4000000 in
set_option maxRecDepth 100000 in
theorem c1_4_0 (M : Nat → Nat → Int) (c : Nat) : sm (fun r => M 0 r * rep M 4 r c) 4 = Dk M 4 * M 0 c := by
  simp [sm, Dk, rep, bdr, dt, lap, rv, ra, List.set, List.nil_append, List.cons_append, List.append_nil, List.length_cons, List.length_nil, Nat.reduceAdd, Nat.reduceMod, if_true, if_false, reduceIte, Nat.one_ne_zero, Nat.zero_ne_one]
  try grind
set_option maxHeartbeats 4000000 in
set_option maxRecDepth 100000 in
theorem c1_4_1 (M : Nat → Nat → Int) (c : Nat) : sm (fun r => M 1 r * rep M 4 r c) 4 = Dk M 4 * M 1 c := by
  simp [sm, Dk, rep, bdr, dt, lap, rv, ra, List.set, List.nil_append, List.cons_append, List.append_nil, List.length_cons, List.length_nil, Nat.reduceAdd, Nat.reduceMod, if_true, if_false, reduceIte, Nat.one_ne_zero, Nat.zero_ne_one]
  try grind
set_option maxHeartbeats 4000000 in
set_option maxRecDepth 100000 in
theorem c1_4_2 (M : Nat → Nat → Int) (c : Nat) : sm (fun r => M 2 r * rep M 4 r c) 4 = Dk M 4 * M 2 c := by
  simp [sm, Dk, rep, bdr, dt, lap, rv, ra, List.set, List.nil_append, List.cons_append, List.append_nil, List.length_cons, List.length_nil, Nat.reduceAdd, Nat.reduceMod, if_true, if_false, reduceIte, Nat.one_ne_zero, Nat.zero_ne_one]
  try grind
set_option maxHeartbeats 4000000 in
set_option maxRecDepth 100000 in
theorem c1_4_3 (M : Nat → Nat → Int) (c : Nat) : sm (fun r => M 3 r * rep M 4 r c) 4 = Dk M 4 * M 3 c := by
  simp [sm, Dk, rep, bdr, dt, lap, rv, ra, List.set, List.nil_append, List.cons_append, List.append_nil, List.length_cons, List.length_nil, Nat.reduceAdd, Nat.reduceMod, if_true, if_false, reduceIte, Nat.one_ne_zero, Nat.zero_ne_one]
  try grind
set_option maxHeartbeats 4000000 in
set_option maxRecDepth 100000 in
theorem c1_5_0 (M : Nat → Nat → Int) (c : Nat) : sm (fun r => M 0 r * rep M 5 r c) 5 = Dk M 5 * M 0 c := by
  simp [sm, Dk, rep, bdr, dt, lap, rv, ra, List.set, List.nil_append, List.cons_append, List.append_nil, List.length_cons, List.length_nil, Nat.reduceAdd, Nat.reduceMod, if_true, if_false, reduceIte, Nat.one_ne_zero, Nat.zero_ne_one]
  try grind
set_option maxHeartbeats 4000000 in
set_option maxRecDepth 100000 in
theorem c1_5_1 (M : Nat → Nat → Int) (c : Nat) : sm (fun r => M 1 r * rep M 5 r c) 5 = Dk M 5 * M 1 c := by
  simp [sm, Dk, rep, bdr, dt, lap, rv, ra, List.set, List.nil_append, List.cons_append, List.append_nil, List.length_cons, List.length_nil, Nat.reduceAdd, Nat.reduceMod, if_true, if_false, reduceIte, Nat.one_ne_zero, Nat.zero_ne_one]
  try grind
set_option maxHeartbeats 4000000 in
set_option maxRecDepth 100000 in
theorem c1_5_2 (M : Nat → Nat → Int) (c : Nat) : sm (fun r => M 2 r * rep M 5 r c) 5 = Dk M 5 * M 2 c := by
  simp [sm, Dk, rep, bdr, dt, lap, rv, ra, List.set, List.nil_append, List.cons_append, List.append_nil, List.length_cons, List.length_nil, Nat.reduceAdd, Nat.reduceMod, if_true, if_false, reduceIte, Nat.one_ne_zero, Nat.zero_ne_one]
  try grind
set_option maxHeartbeats 4000000 in
set_option maxRecDepth 100000 in
theorem c1_5_3 (M : Nat → Nat → Int) (c : Nat) : sm (fun r => M 3 r * rep M 5 r c) 5 = Dk M 5 * M 3 c := by
  simp [sm, Dk, rep, bdr, dt, lap, rv, ra, List.set, List.nil_append, List.cons_append, List.append_nil, List.length_cons, List.length_nil, Nat.reduceAdd, Nat.reduceMod, if_true, if_false, reduceIte, Nat.one_ne_zero, Nat.zero_ne_one]
  try grind
set_option maxHeartbeats 4000000 in
set_option maxRecDepth 100000 in
theorem c1_5_4 (M : Nat → Nat → Int) (c : Nat) : sm (fun r => M 4 r * rep M 5 r c) 5 = Dk M 5 * M 4 c := by
  simp [sm, Dk, rep, bdr, dt, lap, rv, ra, List.set, List.nil_append, List.cons_append, List.append_nil, List.length_cons, List.length_nil, Nat.reduceAdd, Nat.reduceMod, if_true, if_false, reduceIte, Nat.one_ne_zero, Nat.zero_ne_one]
  try grind
set_option maxHeartbeats 4000000 in
set_option maxRecDepth 100000 in
theorem c2_0 (M : Nat → Nat → Int) (r c : Nat) : bdr M 0 r c = Dk M 0 * M r c - sm (fun i => M r i * rep M 0 i c) 0 := by
  simp [sm, Dk, rep, bdr, dt, lap, rv, ra, List.set, List.nil_append, List.cons_append, List.append_nil, List.length_cons, List.length_nil, Nat.reduceAdd, Nat.reduceMod, if_true, if_false, reduceIte, Nat.one_ne_zero, Nat.zero_ne_one]
  try grind
set_option maxHeartbeats 4000000 in
set_option maxRecDepth 100000 in
theorem c2_1 (M : Nat → Nat → Int) (r c : Nat) : bdr M 1 r c = Dk M 1 * M r c - sm (fun i => M r i * rep M 1 i c) 1 := by
  simp [sm, Dk, rep, bdr, dt, lap, rv, ra, List.set, List.nil_append, List.cons_append, List.append_nil, List.length_cons, List.length_nil, Nat.reduceAdd, Nat.reduceMod, if_true, if_false, reduceIte, Nat.one_ne_zero, Nat.zero_ne_one]
  try grind
set_option maxHeartbeats 4000000 in
set_option maxRecDepth 100000 in
theorem c2_2 (M : Nat → Nat → Int) (r c : Nat) : bdr M 2 r c = Dk M 2 * M r c - sm (fun i => M r i * rep M 2 i c) 2 := by
  simp [sm, Dk, rep, bdr, dt, lap, rv, ra, List.set, List.nil_append, List.cons_append, List.append_nil, List.length_cons, List.length_nil, Nat.reduceAdd, Nat.reduceMod, if_true, if_false, reduceIte, Nat.one_ne_zero, Nat.zero_ne_one]
  try grind
set_option maxHeartbeats 4000000 in
set_option maxRecDepth 100000 in
theorem c2_3 (M : Nat → Nat → Int) (r c : Nat) : bdr M 3 r c = Dk M 3 * M r c - sm (fun i => M r i * rep M 3 i c) 3 := by
  simp [sm, Dk, rep, bdr, dt, lap, rv, ra, List.set, List.nil_append, List.cons_append, List.append_nil, List.length_cons, List.length_nil, Nat.reduceAdd, Nat.reduceMod, if_true, if_false, reduceIte, Nat.one_ne_zero, Nat.zero_ne_one]
  try grind
set_option maxHeartbeats 4000000 in
set_option maxRecDepth 100000 in
theorem c2_4 (M : Nat → Nat → Int) (r c : Nat) : bdr M 4 r c = Dk M 4 * M r c - sm (fun i => M r i * rep M 4 i c) 4 := by
  simp [sm, Dk, rep, bdr, dt, lap, rv, ra, List.set, List.nil_append, List.cons_append, List.append_nil, List.length_cons, List.length_nil, Nat.reduceAdd, Nat.reduceMod, if_true, if_false, reduceIte, Nat.one_ne_zero, Nat.zero_ne_one]
  try grind
set_option maxHeartbeats 4000000 in
set_option maxRecDepth 100000 in
theorem c3_1_0 (M : Nat → Nat → Int) (z : Nat → Int) : Dk M 1 * z 0 = 1 * dt M [] [] * sm (fun c => M 0 c * z c) 1 := by
  simp [sm, Dk, rep, bdr, dt, lap, rv, ra, List.set, List.nil_append, List.cons_append, List.append_nil, List.length_cons, List.length_nil, Nat.reduceAdd, Nat.reduceMod, if_true, if_false, reduceIte, Nat.one_ne_zero, Nat.zero_ne_one]
  try grind
set_option maxHeartbeats 4000000 in
set_option maxRecDepth 100000 in
theorem c3_2_0 (M : Nat → Nat → Int) (z : Nat → Int) : Dk M 2 * z 0 = 1 * dt M [1] [1] * sm (fun c => M 0 c * z c) 2 + (-1) * dt M [0] [1] * sm (fun c => M 1 c * z c) 2 := by
  simp [sm, Dk, rep, bdr, dt, lap, rv, ra, List.set, List.nil_append, List.cons_append, List.append_nil, List.length_cons, List.length_nil, Nat.reduceAdd, Nat.reduceMod, if_true, if_false, reduceIte, Nat.one_ne_zero, Nat.zero_ne_one]
  try grind
set_option maxHeartbeats 4000000 in
set_option maxRecDepth 100000 in
theorem c3_2_1 (M : Nat → Nat → Int) (z : Nat → Int) : Dk M 2 * z 1 = (-1) * dt M [1] [0] * sm (fun c => M 0 c * z c) 2 + 1 * dt M [0] [0] * sm (fun c => M 1 c * z c) 2 := by
  simp [sm, Dk, rep, bdr, dt, lap, rv, ra, List.set, List.nil_append, List.cons_append, List.append_nil, List.length_cons, List.length_nil, Nat.reduceAdd, Nat.reduceMod, if_true, if_false, reduceIte, Nat.one_ne_zero, Nat.zero_ne_one]
  try grind
set_option maxHeartbeats 4000000 in
set_option maxRecDepth 100000 in
theorem c3_3_0 (M : Nat → Nat → Int) (z : Nat → Int) : Dk M 3 * z 0 = 1 * dt M [2, 1] [1, 2] * sm (fun c => M 0 c * z c) 3 + (-1) * dt M [2, 0] [1, 2] * sm (fun c => M 1 c * z c) 3 + 1 * dt M [1, 0] [1, 2] * sm (fun c => M 2 c * z c) 3 := by
  simp [sm, Dk, rep, bdr, dt, lap, rv, ra, List.set, List.nil_append, List.cons_append, List.append_nil, List.length_cons, List.length_nil, Nat.reduceAdd, Nat.reduceMod, if_true, if_false, reduceIte, Nat.one_ne_zero, Nat.zero_ne_one]
  try grind
set_option maxHeartbeats 4000000 in
set_option maxRecDepth 100000 in
theorem c3_3_1 (M : Nat → Nat → Int) (z : Nat → Int) : Dk M 3 * z 1 = (-1) * dt M [2, 1] [0, 2] * sm (fun c => M 0 c * z c) 3 + 1 * dt M [2, 0] [0, 2] * sm (fun c => M 1 c * z c) 3 + (-1) * dt M [1, 0] [0, 2] * sm (fun c => M 2 c * z c) 3 := by
  simp [sm, Dk, rep, bdr, dt, lap, rv, ra, List.set, List.nil_append, List.cons_append, List.append_nil, List.length_cons, List.length_nil, Nat.reduceAdd, Nat.reduceMod, if_true, if_false, reduceIte, Nat.one_ne_zero, Nat.zero_ne_one]
  try grind
set_option maxHeartbeats 4000000 in
set_option maxRecDepth 100000 in
theorem c3_3_2 (M : Nat → Nat → Int) (z : Nat → Int) : Dk M 3 * z 2 = 1 * dt M [2, 1] [0, 1] * sm (fun c => M 0 c * z c) 3 + (-1) * dt M [2, 0] [0, 1] * sm (fun c => M 1 c * z c) 3 + 1 * dt M [1, 0] [0, 1] * sm (fun c => M 2 c * z c) 3 := by
  simp [sm, Dk, rep, bdr, dt, lap, rv, ra, List.set, List.nil_append, List.cons_append, List.append_nil, List.length_cons, List.length_nil, Nat.reduceAdd, Nat.reduceMod, if_true, if_false, reduceIte, Nat.one_ne_zero, Nat.zero_ne_one]
  try grind
set_option maxHeartbeats 4000000 in
set_option maxRecDepth 100000 in
theorem c3_4_0 (M : Nat → Nat → Int) (z : Nat → Int) : Dk M 4 * z 0 = 1 * dt M [3, 2, 1] [1, 2, 3] * sm (fun c => M 0 c * z c) 4 + (-1) * dt M [3, 2, 0] [1, 2, 3] * sm (fun c => M 1 c * z c) 4 + 1 * dt M [3, 1, 0] [1, 2, 3] * sm (fun c => M 2 c * z c) 4 + (-1) * dt M [2, 1, 0] [1, 2, 3] * sm (fun c => M 3 c * z c) 4 := by
  simp [sm, Dk, rep, bdr, dt, lap, rv, ra, List.set, List.nil_append, List.cons_append, List.append_nil, List.length_cons, List.length_nil, Nat.reduceAdd, Nat.reduceMod, if_true, if_false, reduceIte, Nat.one_ne_zero, Nat.zero_ne_one]
  try grind
set_option maxHeartbeats 4000000 in
set_option maxRecDepth 100000 in
theorem c3_4_1 (M : Nat → Nat → Int) (z : Nat → Int) : Dk M 4 * z 1 = (-1) * dt M [3, 2, 1] [0, 2, 3] * sm (fun c => M 0 c * z c) 4 + 1 * dt M [3, 2, 0] [0, 2, 3] * sm (fun c => M 1 c * z c) 4 + (-1) * dt M [3, 1, 0] [0, 2, 3] * sm (fun c => M 2 c * z c) 4 + 1 * dt M [2, 1, 0] [0, 2, 3] * sm (fun c => M 3 c * z c) 4 := by
  simp [sm, Dk, rep, bdr, dt, lap, rv, ra, List.set, List.nil_append, List.cons_append, List.append_nil, List.length_cons, List.length_nil, Nat.reduceAdd, Nat.reduceMod, if_true, if_false, reduceIte, Nat.one_ne_zero, Nat.zero_ne_one]
  try grind
set_option maxHeartbeats 4000000 in
set_option maxRecDepth 100000 in
theorem c3_4_2 (M : Nat → Nat → Int) (z : Nat → Int) : Dk M 4 * z 2 = 1 * dt M [3, 2, 1] [0, 1, 3] * sm (fun c => M 0 c * z c) 4 + (-1) * dt M [3, 2, 0] [0, 1, 3] * sm (fun c => M 1 c * z c) 4 + 1 * dt M [3, 1, 0] [0, 1, 3] * sm (fun c => M 2 c * z c) 4 + (-1) * dt M [2, 1, 0] [0, 1, 3] * sm (fun c => M 3 c * z c) 4 := by
  simp [sm, Dk, rep, bdr, dt, lap, rv, ra, List.set, List.nil_append, List.cons_append, List.append_nil, List.length_cons, List.length_nil, Nat.reduceAdd, Nat.reduceMod, if_true, if_false, reduceIte, Nat.one_ne_zero, Nat.zero_ne_one]
  try grind
set_option maxHeartbeats 4000000 in
set_option maxRecDepth 100000 in
theorem c3_4_3 (M : Nat → Nat → Int) (z : Nat → Int) : Dk M 4 * z 3 = (-1) * dt M [3, 2, 1] [0, 1, 2] * sm (fun c => M 0 c * z c) 4 + 1 * dt M [3, 2, 0] [0, 1, 2] * sm (fun c => M 1 c * z c) 4 + (-1) * dt M [3, 1, 0] [0, 1, 2] * sm (fun c => M 2 c * z c) 4 + 1 * dt M [2, 1, 0] [0, 1, 2] * sm (fun c => M 3 c * z c) 4 := by
  simp [sm, Dk, rep, bdr, dt, lap, rv, ra, List.set, List.nil_append, List.cons_append, List.append_nil, List.length_cons, List.length_nil, Nat.reduceAdd, Nat.reduceMod, if_true, if_false, reduceIte, Nat.one_ne_zero, Nat.zero_ne_one]
  try grind
set_option maxHeartbeats 4000000 in
set_option maxRecDepth 100000 in
theorem c3_5_0 (M : Nat → Nat → Int) (z : Nat → Int) : Dk M 5 * z 0 = 1 * dt M [4, 3, 2, 1] [1, 2, 3, 4] * sm (fun c => M 0 c * z c) 5 + (-1) * dt M [4, 3, 2, 0] [1, 2, 3, 4] * sm (fun c => M 1 c * z c) 5 + 1 * dt M [4, 3, 1, 0] [1, 2, 3, 4] * sm (fun c => M 2 c * z c) 5 + (-1) * dt M [4, 2, 1, 0] [1, 2, 3, 4] * sm (fun c => M 3 c * z c) 5 + 1 * dt M [3, 2, 1, 0] [1, 2, 3, 4] * sm (fun c => M 4 c * z c) 5 := by
  simp [sm, Dk, rep, bdr, dt, lap, rv, ra, List.set, List.nil_append, List.cons_append, List.append_nil, List.length_cons, List.length_nil, Nat.reduceAdd, Nat.reduceMod, if_true, if_false, reduceIte, Nat.one_ne_zero, Nat.zero_ne_one]
  try grind
set_option maxHeartbeats 4000000 in
set_option maxRecDepth 100000 in
theorem c3_5_1 (M : Nat → Nat → Int) (z : Nat → Int) : Dk M 5 * z 1 = (-1) * dt M [4, 3, 2, 1] [0, 2, 3, 4] * sm (fun c => M 0 c * z c) 5 + 1 * dt M [4, 3, 2, 0] [0, 2, 3, 4] * sm (fun c => M 1 c * z c) 5 + (-1) * dt M [4, 3, 1, 0] [0, 2, 3, 4] * sm (fun c => M 2 c * z c) 5 + 1 * dt M [4, 2, 1, 0] [0, 2, 3, 4] * sm (fun c => M 3 c * z c) 5 + (-1) * dt M [3, 2, 1, 0] [0, 2, 3, 4] * sm (fun c => M 4 c * z c) 5 := by
  simp [sm, Dk, rep, bdr, dt, lap, rv, ra, List.set, List.nil_append, List.cons_append, List.append_nil, List.length_cons, List.length_nil, Nat.reduceAdd, Nat.reduceMod, if_true, if_false, reduceIte, Nat.one_ne_zero, Nat.zero_ne_one]
  try grind
set_option maxHeartbeats 4000000 in
set_option maxRecDepth 100000 in
theorem c3_5_2 (M : Nat → Nat → Int) (z : Nat → Int) : Dk M 5 * z 2 = 1 * dt M [4, 3, 2, 1] [0, 1, 3, 4] * sm (fun c => M 0 c * z c) 5 + (-1) * dt M [4, 3, 2, 0] [0, 1, 3, 4] * sm (fun c => M 1 c * z c) 5 + 1 * dt M [4, 3, 1, 0] [0, 1, 3, 4] * sm (fun c => M 2 c * z c) 5 + (-1) * dt M [4, 2, 1, 0] [0, 1, 3, 4] * sm (fun c => M 3 c * z c) 5 + 1 * dt M [3, 2, 1, 0] [0, 1, 3, 4] * sm (fun c => M 4 c * z c) 5 := by
  simp [sm, Dk, rep, bdr, dt, lap, rv, ra, List.set, List.nil_append, List.cons_append, List.append_nil, List.length_cons, List.length_nil, Nat.reduceAdd, Nat.reduceMod, if_true, if_false, reduceIte, Nat.one_ne_zero, Nat.zero_ne_one]
  try grind
set_option maxHeartbeats 4000000 in
set_option maxRecDepth 100000 in
theorem c3_5_3 (M : Nat → Nat → Int) (z : Nat → Int) : Dk M 5 * z 3 = (-1) * dt M [4, 3, 2, 1] [0, 1, 2, 4] * sm (fun c => M 0 c * z c) 5 + 1 * dt M [4, 3, 2, 0] [0, 1, 2, 4] * sm (fun c => M 1 c * z c) 5 + (-1) * dt M [4, 3, 1, 0] [0, 1, 2, 4] * sm (fun c => M 2 c * z c) 5 + 1 * dt M [4, 2, 1, 0] [0, 1, 2, 4] * sm (fun c => M 3 c * z c) 5 + (-1) * dt M [3, 2, 1, 0] [0, 1, 2, 4] * sm (fun c => M 4 c * z c) 5 := by
  simp [sm, Dk, rep, bdr, dt, lap, rv, ra, List.set, List.nil_append, List.cons_append, List.append_nil, List.length_cons, List.length_nil, Nat.reduceAdd, Nat.reduceMod, if_true, if_false, reduceIte, Nat.one_ne_zero, Nat.zero_ne_one]
  try grind
set_option maxHeartbeats 4000000 in
set_option maxRecDepth 100000 in
theorem c3_5_4 (M : Nat → Nat → Int) (z : Nat → Int) : Dk M 5 * z 4 = 1 * dt M [4, 3, 2, 1] [0, 1, 2, 3] * sm (fun c => M 0 c * z c) 5 + (-1) * dt M [4, 3, 2, 0] [0, 1, 2, 3] * sm (fun c => M 1 c * z c) 5 + 1 * dt M [4, 3, 1, 0] [0, 1, 2, 3] * sm (fun c => M 2 c * z c) 5 + (-1) * dt M [4, 2, 1, 0] [0, 1, 2, 3] * sm (fun c => M 3 c * z c) 5 + 1 * dt M [3, 2, 1, 0] [0, 1, 2, 3] * sm (fun c => M 4 c * z c) 5 := by
  simp [sm, Dk, rep, bdr, dt, lap, rv, ra, List.set, List.nil_append, List.cons_append, List.append_nil, List.length_cons, List.length_nil, Nat.reduceAdd, Nat.reduceMod, if_true, if_false, reduceIte, Nat.one_ne_zero, Nat.zero_ne_one]
  try grind
theorem c1_all {M : Nat → Nat → Int} {k i : Nat} (hk : k ≤ 5) (hi : i < k) (c : Nat) : sm (fun r => M i r * rep M k r c) k = Dk M k * M i c := by
  match k, i, hk, hi with
  | 1, 0, _, _ => exact c1_1_0 M c
  | 2, 0, _, _ => exact c1_2_0 M c
  | 2, 1, _, _ => exact c1_2_1 M c
  | 3, 0, _, _ => exact c1_3_0 M c
  | 3, 1, _, _ => exact c1_3_1 M c
  | 3, 2, _, _ => exact c1_3_2 M c
  | 4, 0, _, _ => exact c1_4_0 M c
  | 4, 1, _, _ => exact c1_4_1 M c
  | 4, 2, _, _ => exact c1_4_2 M c
  | 4, 3, _, _ => exact c1_4_3 M c
  | 5, 0, _, _ => exact c1_5_0 M c
  | 5, 1, _, _ => exact c1_5_1 M c
  | 5, 2, _, _ => exact c1_5_2 M c
  | 5, 3, _, _ => exact c1_5_3 M c
  | 5, 4, _, _ => exact c1_5_4 M c
theorem c2_all {M : Nat → Nat → Int} {k : Nat} (hk : k ≤ 4) (r c : Nat) : bdr M k r c = Dk M k * M r c - sm (fun i => M r i * rep M k i c) k := by
  match k, hk with
  | 0, _ => exact c2_0 M r c
  | 1, _ => exact c2_1 M r c
  | 2, _ => exact c2_2 M r c
  | 3, _ => exact c2_3 M r c
  | 4, _ => exact c2_4 M r c
theorem c3_all {M : Nat → Nat → Int} {k r : Nat} (hk : k ≤ 5) (hr : r < k) (hD : Dk M k ≠ 0) {z : Nat → Int} (hz : ∀ i, i < k → sm (fun c => M i c * z c) k = 0) : z r = 0 := by
  have h : Dk M k * z r = 0 := by
    match k, r, hk, hr, hz with
    | 1, 0, _, _, hz => rw [c3_1_0, hz 0 (by decide)]; simp
    | 2, 0, _, _, hz => rw [c3_2_0, hz 0 (by decide), hz 1 (by decide)]; simp
    | 2, 1, _, _, hz => rw [c3_2_1, hz 0 (by decide), hz 1 (by decide)]; simp
    | 3, 0, _, _, hz => rw [c3_3_0, hz 0 (by decide), hz 1 (by decide), hz 2 (by decide)]; simp
    | 3, 1, _, _, hz => rw [c3_3_1, hz 0 (by decide), hz 1 (by decide), hz 2 (by decide)]; simp
    | 3, 2, _, _, hz => rw [c3_3_2, hz 0 (by decide), hz 1 (by decide), hz 2 (by decide)]; simp
    | 4, 0, _, _, hz => rw [c3_4_0, hz 0 (by decide), hz 1 (by decide), hz 2 (by decide), hz 3 (by decide)]; simp
    | 4, 1, _, _, hz => rw [c3_4_1, hz 0 (by decide), hz 1 (by decide), hz 2 (by decide), hz 3 (by decide)]; simp
    | 4, 2, _, _, hz => rw [c3_4_2, hz 0 (by decide), hz 1 (by decide), hz 2 (by decide), hz 3 (by decide)]; simp
    | 4, 3, _, _, hz => rw [c3_4_3, hz 0 (by decide), hz 1 (by decide), hz 2 (by decide), hz 3 (by decide)]; simp
    | 5, 0, _, _, hz => rw [c3_5_0, hz 0 (by decide), hz 1 (by decide), hz 2 (by decide), hz 3 (by decide), hz 4 (by decide)]; simp
    | 5, 1, _, _, hz => rw [c3_5_1, hz 0 (by decide), hz 1 (by decide), hz 2 (by decide), hz 3 (by decide), hz 4 (by decide)]; simp
    | 5, 2, _, _, hz => rw [c3_5_2, hz 0 (by decide), hz 1 (by decide), hz 2 (by decide), hz 3 (by decide), hz 4 (by decide)]; simp
    | 5, 3, _, _, hz => rw [c3_5_3, hz 0 (by decide), hz 1 (by decide), hz 2 (by decide), hz 3 (by decide), hz 4 (by decide)]; simp
    | 5, 4, _, _, hz => rw [c3_5_4, hz 0 (by decide), hz 1 (by decide), hz 2 (by decide), hz 3 (by decide), hz 4 (by decide)]; simp
  rcases Int.mul_eq_zero.mp h with h | h
  · exact absurd h hD
  · exact h
