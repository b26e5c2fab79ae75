def f_X4_bridgeOver_b58 (N : Nat) (k16 : Int32 → Int32 → Int32 → (Nat → Int32) → Option ((Nat → Int32))) (x1 : Int32) (x2 : Int32) (x3 : Int32) (pl_rest : Nat → Int32) : Option ((Nat → Int32)) :=
  k16 x1 x2 (x3 + 1) pl_rest
def f_X4_bridgeOver_b16 (N : Nat) : Nat → Int32 → Int32 → Int32 → (Nat → Int32) → Option ((Nat → Int32))
  | 0 => fun _ _ _ _ => none
  | n + 1 => fun x1 x2 x3 pl_rest =>
  if 9 ≤ x3 then some pl_rest
  else bd1 (f_X7_contains N x2 x3) fun r_5 =>
  if r_5 = 0 then f_X4_bridgeOver_b58 N (f_X4_bridgeOver_b16 N n) x1 x2 x3 pl_rest
  else chk (inb x3 9) (bd1 (f_X7_bit N x1) fun r_8 =>
  bd1 (f_X7_bit N x3) fun r_9 =>
  chk (inb x3 9) (f_X4_bridgeOver_b58 N (f_X4_bridgeOver_b16 N n) x1 x2 x3 (upd pl_rest x3.toNatClampNeg (((pl_rest x3.toNatClampNeg) &&& (r_8 ^^^ (-1))) ||| (x2 &&& (r_9 ^^^ (-1)))))))
def f_X4_bridgeOver (N : Nat) (pl_rest : Nat → Int32) (p1 : Int32) : Option ((Nat → Int32)) :=
  chk (inb p1 9) (nm ((pl_rest p1.toNatClampNeg)) fun x2_2 =>
  chk (inb p1 9) (f_X4_bridgeOver_b16 N N p1 x2_2 0 (upd pl_rest p1.toNatClampNeg 0)))
def f_X4_reduce_b53 (N : Nat) (k2 : Int32 → (Nat → Int32) → Option ((Nat → Int32))) (x1 : Int32) (x2 : Int32) (pl_rest : Nat → Int32) : Option ((Nat → Int32)) :=
  if ¬ x2 = 0 then k2 (x1 + 1) pl_rest
  else some pl_rest
def f_X4_reduce_b47 (N : Nat) (k2 : Int32 → (Nat → Int32) → Option ((Nat → Int32))) (k12 : Int32 → Int32 → Int32 → (Nat → Int32) → Option ((Nat → Int32))) (x1 : Int32) (x2 : Int32) (x3 : Int32) (pl_rest : Nat → Int32) : Option ((Nat → Int32)) :=
  k12 x1 x2 (x3 + 1) pl_rest
def f_X4_reduce_b12 (N : Nat) (k2 : Int32 → (Nat → Int32) → Option ((Nat → Int32))) : Nat → Int32 → Int32 → Int32 → (Nat → Int32) → Option ((Nat → Int32))
  | 0 => fun _ _ _ _ => none
  | n + 1 => fun x1 x2 x3 pl_rest =>
  if 9 ≤ x3 then f_X4_reduce_b53 N k2 x1 x2 pl_rest
  else chk (inb x3 9) (if (pl_rest x3.toNatClampNeg) = 0 then f_X4_reduce_b47 N k2 (f_X4_reduce_b12 N k2 n) x1 x2 x3 pl_rest
  else chk (inb x3 9) (bd1 (f_J6_bitCount_0f7a4 N (pl_rest x3.toNatClampNeg)) fun r_6 =>
  if 2 < r_6 then f_X4_reduce_b47 N k2 (f_X4_reduce_b12 N k2 n) x1 x2 x3 pl_rest
  else bd1 (f_X4_bridgeOver N pl_rest x3) fun r_8 =>
  f_X4_reduce_b47 N k2 (f_X4_reduce_b12 N k2 n) x1 1 x3 r_8))
def f_X4_reduce_b2 (N : Nat) : Nat → Int32 → (Nat → Int32) → Option ((Nat → Int32))
  | 0 => fun _ _ => none
  | n + 1 => fun x1 pl_rest =>
  if 9 ≤ x1 then some pl_rest
  else f_X4_reduce_b12 N (f_X4_reduce_b2 N n) N x1 0 0 pl_rest
def f_X4_reduce (N : Nat) (pl_rest : Nat → Int32) : Option ((Nat → Int32)) :=
  f_X4_reduce_b2 N N 0 pl_rest
def f_X4_countEdges_b4 (N : Nat) (pl_rest : Nat → Int32) : Nat → Int32 → Int32 → Option (Int32)
  | 0 => fun _ _ => none
  | n + 1 => fun x1 x2 =>
  if 9 ≤ x2 then some (x1 / 2)
  else chk (inb x2 9) (bd1 (f_J6_bitCount_0f7a4 N (pl_rest x2.toNatClampNeg)) fun r_3 =>
  nm ((x1 + r_3)) fun x1_4 =>
  (f_X4_countEdges_b4 N pl_rest n) x1_4 (x2 + 1))
def f_X4_countEdges (N : Nat) (pl_rest : Nat → Int32) : Option (Int32) :=
  f_X4_countEdges_b4 N pl_rest N 0 0
def f_X4_cutPathBefore_b63 (N : Nat) (x2 : Int32) (pl_path : Nat → Int32) (pl_pathLength : Int32) : Option ((Nat → Int32) × Int32) :=
  some (pl_path, x2)
def f_X4_cutPathBefore_b57 (N : Nat) (k7 : Int32 → Int32 → Int32 → Int32 → (Nat → Int32) → Int32 → Option ((Nat → Int32) × Int32)) (x1 : Int32) (x2 : Int32) (x3 : Int32) (x4 : Int32) (pl_path : Nat → Int32) (pl_pathLength : Int32) : Option ((Nat → Int32) × Int32) :=
  k7 x1 x2 x3 (x4 + 1) pl_path pl_pathLength
def f_X4_cutPathBefore_b36 (N : Nat) (k7 : Int32 → Int32 → Int32 → Int32 → (Nat → Int32) → Int32 → Option ((Nat → Int32) × Int32)) (x1 : Int32) (x2 : Int32) (x4 : Int32) (y0 : Int32) (pl_path : Nat → Int32) (pl_pathLength : Int32) : Option ((Nat → Int32) × Int32) :=
  if y0 = 0 then f_X4_cutPathBefore_b57 N k7 x1 x2 y0 x4 pl_path pl_pathLength
  else chk (inb x4 9) (chk (inb x2 9) (f_X4_cutPathBefore_b57 N k7 x1 (x2 + 1) y0 x4 (upd pl_path x2.toNatClampNeg (pl_path x4.toNatClampNeg)) pl_pathLength))
def f_X4_cutPathBefore_b31 (N : Nat) (k7 : Int32 → Int32 → Int32 → Int32 → (Nat → Int32) → Int32 → Option ((Nat → Int32) × Int32)) (x1 : Int32) (x2 : Int32) (x4 : Int32) (pl_path : Nat → Int32) (pl_pathLength : Int32) : Option ((Nat → Int32) × Int32) :=
  f_X4_cutPathBefore_b36 N k7 x1 x2 x4 1 pl_path pl_pathLength
def f_X4_cutPathBefore_b7 (N : Nat) : Nat → Int32 → Int32 → Int32 → Int32 → (Nat → Int32) → Int32 → Option ((Nat → Int32) × Int32)
  | 0 => fun _ _ _ _ _ _ => none
  | n + 1 => fun x1 x2 x3 x4 pl_path pl_pathLength =>
  if pl_pathLength ≤ x4 then f_X4_cutPathBefore_b63 N x2 pl_path pl_pathLength
  else if ¬ x3 = 0 then f_X4_cutPathBefore_b31 N (f_X4_cutPathBefore_b7 N n) x1 x2 x4 pl_path pl_pathLength
  else chk (inb x4 9) (if ¬ (pl_path x4.toNatClampNeg) = x1 then f_X4_cutPathBefore_b36 N (f_X4_cutPathBefore_b7 N n) x1 x2 x4 0 pl_path pl_pathLength
  else f_X4_cutPathBefore_b31 N (f_X4_cutPathBefore_b7 N n) x1 x2 x4 pl_path pl_pathLength)
def f_X4_cutPathBefore (N : Nat) (pl_path : Nat → Int32) (pl_pathLength : Int32) (p1 : Int32) : Option ((Nat → Int32) × Int32) :=
  f_X4_cutPathBefore_b7 N N p1 0 0 0 pl_path pl_pathLength
def f_X4_findCycle_b95 (N : Nat) (pl_rest : Nat → Int32) (x1 : Int32) (x2 : Int32) (pl_path : Nat → Int32) (pl_pathLength : Int32) : Option (Int32 × (Nat → Int32) × Int32) :=
  if x1 < 0 then some (0, pl_path, pl_pathLength)
  else bd1 (f_X7_contains N x2 x1) fun r_14 =>
  if ¬ r_14 = 0 then bd1 (f_X4_cutPathBefore N pl_path pl_pathLength x1) fun r_16 =>
  some (1, r_16.1, r_16.2)
  else some (0, pl_path, pl_pathLength)
def f_X4_findCycle_b24 (N : Nat) (pl_rest : Nat → Int32) : Nat → Int32 → Int32 → Int32 → Int32 → (Nat → Int32) → Int32 → Option (Int32 × (Nat → Int32) × Int32)
  | 0 => fun _ _ _ _ _ _ => none
  | n + 1 => fun x1 x2 x3 x4 pl_path pl_pathLength =>
  if 9 ≤ x4 then f_X4_findCycle_b95 N pl_rest x1 x2 pl_path pl_pathLength
  else if x1 < 0 then f_X4_findCycle_b95 N pl_rest x1 x2 pl_path pl_pathLength
  else bd1 (f_X7_contains N x2 x1) fun r_5 =>
  if ¬ r_5 = 0 then f_X4_findCycle_b95 N pl_rest x1 x2 pl_path pl_pathLength
  else chk (inb x4 9) (bd1 (f_X7_bit N x1) fun r_8 =>
  nm ((x2 ||| r_8)) fun x2_9 =>
  chk (inb x1 9) (bd1 (f_X7_smallestOf N ((pl_rest x1.toNatClampNeg) &&& (x3 ^^^ (-1)))) fun r_11 =>
  bd1 (f_X7_bit N x1) fun r_12 =>
  (f_X4_findCycle_b24 N pl_rest n) r_11 x2_9 r_12 (x4 + 1) (upd pl_path x4.toNatClampNeg x1) (x4 + 1)))
def f_X4_findCycle (N : Nat) (pl_rest : Nat → Int32) (pl_path : Nat → Int32) (pl_pathLength : Int32) : Option (Int32 × (Nat → Int32) × Int32) :=
  bd1 (f_X7_neighboursOf N pl_rest (-1)) fun r_1 =>
  bd1 (f_X7_smallestOf N r_1) fun r_2 =>
  f_X4_findCycle_b24 N pl_rest N r_2 0 0 0 pl_path 0
def f_X4_drawPath_b53 (N : Nat) (pl_path : Nat → Int32) (pl_pathLength : Int32) (k2 : Int32 → (Nat → Int32) → Int32 → Option ((Nat → Int32) × Int32)) (x1 : Int32) (pl_sketch : Nat → Int32) (pl_placed : Int32) : Option ((Nat → Int32) × Int32) :=
  k2 (x1 + 1) pl_sketch pl_placed
def f_X4_drawPath_b2 (N : Nat) (pl_path : Nat → Int32) (pl_pathLength : Int32) : Nat → Int32 → (Nat → Int32) → Int32 → Option ((Nat → Int32) × Int32)
  | 0 => fun _ _ _ => none
  | n + 1 => fun x1 pl_sketch pl_placed =>
  if pl_pathLength ≤ x1 then some (pl_sketch, pl_placed)
  else chk (inb x1 9) (bd1 (f_X7_bit N (pl_path x1.toNatClampNeg)) fun r_3 =>
  if x1 ≤ 0 then f_X4_drawPath_b53 N pl_path pl_pathLength (f_X4_drawPath_b2 N pl_path pl_pathLength n) x1 pl_sketch (pl_placed ||| r_3)
  else chk (inb (x1 - 1) 9) (chk (inb x1 9) (bd1 (f_X7_toggleLink N pl_sketch (pl_path (x1 - 1).toNatClampNeg) (pl_path x1.toNatClampNeg)) fun r_7 =>
  f_X4_drawPath_b53 N pl_path pl_pathLength (f_X4_drawPath_b2 N pl_path pl_pathLength n) x1 r_7 (pl_placed ||| r_3))))
def f_X4_drawPath (N : Nat) (pl_sketch : Nat → Int32) (pl_placed : Int32) (pl_path : Nat → Int32) (pl_pathLength : Int32) : Option ((Nat → Int32) × Int32) :=
  f_X4_drawPath_b2 N pl_path pl_pathLength N 0 pl_sketch pl_placed
def f_X4_startSketch_b48 (N : Nat) (pl_path : Nat → Int32) (pl_pathLength : Int32) : Nat → Int32 → (Nat → Int32) → Int32 → Int32 → (Nat → Int32) → (Nat → Int32) → (Nat → Int32) → Option ((Nat → Int32) × Int32 × Int32 × (Nat → Int32) × (Nat → Int32) × (Nat → Int32))
  | 0 => fun _ _ _ _ _ _ _ => none
  | n + 1 => fun x1 pl_sketch pl_placed pl_rings pl_ringNodes pl_ringLength pl_ringSet =>
  if pl_rings ≤ x1 then some (pl_sketch, pl_placed, pl_rings, pl_ringNodes, pl_ringLength, pl_ringSet)
  else chk (cpok 0 (x1 * 9) pl_pathLength 9 135) (chk (inb x1 15) (chk (inb x1 15) ((f_X4_startSketch_b48 N pl_path pl_pathLength n) (x1 + 1) pl_sketch pl_placed pl_rings (va_cpy pl_path pl_ringNodes (0 : Int32).toNatClampNeg (x1 * 9).toNatClampNeg pl_pathLength.toNatClampNeg) (upd pl_ringLength x1.toNatClampNeg pl_pathLength) (upd pl_ringSet x1.toNatClampNeg pl_placed))))
def f_X4_startSketch (N : Nat) (pl_sketch : Nat → Int32) (pl_placed : Int32) (pl_rings : Int32) (pl_ringNodes : Nat → Int32) (pl_ringLength : Nat → Int32) (pl_ringSet : Nat → Int32) (pl_path : Nat → Int32) (pl_pathLength : Int32) : Option ((Nat → Int32) × Int32 × Int32 × (Nat → Int32) × (Nat → Int32) × (Nat → Int32)) :=
  bd1 (f_X4_drawPath N (filled 9 (0 : Int32) pl_sketch) 0 pl_path pl_pathLength) fun r_1 =>
  chk (inb 0 9) (chk (inb (pl_pathLength - 1) 9) (bd1 (f_X7_toggleLink N r_1.1 (pl_path (0 : Int32).toNatClampNeg) (pl_path (pl_pathLength - 1).toNatClampNeg)) fun r_4 =>
  f_X4_startSketch_b48 N pl_path pl_pathLength N 0 r_4 r_1.2 2 pl_ringNodes pl_ringLength pl_ringSet))
def f_X4_weigh_b80 (N : Nat) (pl_rings : Int32) (pl_ringSet : Nat → Int32) (x3 : Int32) (pl_inside : Int32) (pl_ends : Int32) (pl_ring : Int32) (pl_choices : Int32) : Option (Int32 × Int32 × Int32 × Int32 × Int32) :=
  if x3 ≤ 0 then some (0, pl_inside, pl_ends, pl_ring, pl_choices)
  else some (1, pl_inside, pl_ends, pl_ring, pl_choices)
def f_X4_weigh_b59 (N : Nat) (pl_rings : Int32) (pl_ringSet : Nat → Int32) (x1 : Int32) (x2 : Int32) (x3 : Int32) (x4 : Int32) (pl_inside : Int32) (pl_ends : Int32) (pl_ring : Int32) (pl_choices : Int32) : Option (Int32 × Int32 × Int32 × Int32 × Int32) :=
  f_X4_weigh_b80 N pl_rings pl_ringSet x3 x1 x2 x4 x3
def f_X4_weigh_b44 (N : Nat) (pl_rings : Int32) (pl_ringSet : Nat → Int32) (x1 : Int32) (x2 : Int32) (x3 : Int32) (x4 : Int32) (pl_inside : Int32) (pl_ends : Int32) (pl_ring : Int32) (pl_choices : Int32) : Option (Int32 × Int32 × Int32 × Int32 × Int32) :=
  if pl_ends = 0 then f_X4_weigh_b59 N pl_rings pl_ringSet x1 x2 x3 x4 pl_inside pl_ends pl_ring pl_choices
  else if pl_choices ≤ x3 then f_X4_weigh_b80 N pl_rings pl_ringSet x3 pl_inside pl_ends pl_ring pl_choices
  else f_X4_weigh_b59 N pl_rings pl_ringSet x1 x2 x3 x4 pl_inside pl_ends pl_ring pl_choices
def f_X4_weigh_b38 (N : Nat) (pl_rings : Int32) (pl_ringSet : Nat → Int32) (k8 : Int32 → Int32 → Int32 → Int32 → Int32 → Int32 → Int32 → Int32 → Int32 → Option (Int32 × Int32 × Int32 × Int32 × Int32)) (x1 : Int32) (x2 : Int32) (x3 : Int32) (x4 : Int32) (x5 : Int32) (pl_inside : Int32) (pl_ends : Int32) (pl_ring : Int32) (pl_choices : Int32) : Option (Int32 × Int32 × Int32 × Int32 × Int32) :=
  k8 x1 x2 x3 x4 (x5 + 1) pl_inside pl_ends pl_ring pl_choices
def f_X4_weigh_b8 (N : Nat) (pl_rings : Int32) (pl_ringSet : Nat → Int32) : Nat → Int32 → Int32 → Int32 → Int32 → Int32 → Int32 → Int32 → Int32 → Int32 → Option (Int32 × Int32 × Int32 × Int32 × Int32)
  | 0 => fun _ _ _ _ _ _ _ _ _ => none
  | n + 1 => fun x1 x2 x3 x4 x5 pl_inside pl_ends pl_ring pl_choices =>
  if pl_rings ≤ x5 then f_X4_weigh_b44 N pl_rings pl_ringSet x1 x2 x3 x4 pl_inside pl_ends pl_ring pl_choices
  else chk (inb x5 15) (if ¬ (x2 &&& ((pl_ringSet x5.toNatClampNeg) ^^^ (-1))) = 0 then f_X4_weigh_b38 N pl_rings pl_ringSet (f_X4_weigh_b8 N pl_rings pl_ringSet n) x1 x2 x3 x4 x5 pl_inside pl_ends pl_ring pl_choices
  else f_X4_weigh_b38 N pl_rings pl_ringSet (f_X4_weigh_b8 N pl_rings pl_ringSet n) x1 x2 (x3 + 1) x5 x5 pl_inside pl_ends pl_ring pl_choices)
def f_X4_weigh (N : Nat) (pl_rings : Int32) (pl_ringSet : Nat → Int32) (pl_inside : Int32) (pl_ends : Int32) (pl_ring : Int32) (pl_choices : Int32) (p1 : Int32) (p2 : Int32) : Option (Int32 × Int32 × Int32 × Int32 × Int32) :=
  f_X4_weigh_b8 N pl_rings pl_ringSet N p1 p2 0 0 0 pl_inside pl_ends pl_ring pl_choices
def f_X4_weighEdges_b87 (N : Nat) (pl_rest : Nat → Int32) (pl_sketch : Nat → Int32) (pl_placed : Int32) (pl_rings : Int32) (pl_ringSet : Nat → Int32) (k2 : Int32 → Int32 → Int32 → Int32 → Int32 → Option (Int32 × Int32 × Int32 × Int32 × Int32)) (x1 : Int32) (pl_inside : Int32) (pl_ends : Int32) (pl_ring : Int32) (pl_choices : Int32) : Option (Int32 × Int32 × Int32 × Int32 × Int32) :=
  k2 (x1 + 1) pl_inside pl_ends pl_ring pl_choices
def f_X4_weighEdges_b81 (N : Nat) (pl_rest : Nat → Int32) (pl_sketch : Nat → Int32) (pl_placed : Int32) (pl_rings : Int32) (pl_ringSet : Nat → Int32) (k2 : Int32 → Int32 → Int32 → Int32 → Int32 → Option (Int32 × Int32 × Int32 × Int32 × Int32)) (k48 : Int32 → Int32 → Int32 → Int32 → Int32 → Int32 → Int32 → Option (Int32 × Int32 × Int32 × Int32 × Int32)) (x1 : Int32) (x2 : Int32) (x3 : Int32) (pl_inside : Int32) (pl_ends : Int32) (pl_ring : Int32) (pl_choices : Int32) : Option (Int32 × Int32 × Int32 × Int32 × Int32) :=
  k48 x1 x2 (x3 + 1) pl_inside pl_ends pl_ring pl_choices
def f_X4_weighEdges_b48 (N : Nat) (pl_rest : Nat → Int32) (pl_sketch : Nat → Int32) (pl_placed : Int32) (pl_rings : Int32) (pl_ringSet : Nat → Int32) (k2 : Int32 → Int32 → Int32 → Int32 → Int32 → Option (Int32 × Int32 × Int32 × Int32 × Int32)) : Nat → Int32 → Int32 → Int32 → Int32 → Int32 → Int32 → Int32 → Option (Int32 × Int32 × Int32 × Int32 × Int32)
  | 0 => fun _ _ _ _ _ _ _ => none
  | n + 1 => fun x1 x2 x3 pl_inside pl_ends pl_ring pl_choices =>
  if 9 ≤ x3 then f_X4_weighEdges_b87 N pl_rest pl_sketch pl_placed pl_rings pl_ringSet k2 x1 pl_inside pl_ends pl_ring pl_choices
  else bd1 (f_X7_contains N x2 x3) fun r_8 =>
  if r_8 = 0 then f_X4_weighEdges_b81 N pl_rest pl_sketch pl_placed pl_rings pl_ringSet k2 (f_X4_weighEdges_b48 N pl_rest pl_sketch pl_placed pl_rings pl_ringSet k2 n) x1 x2 x3 pl_inside pl_ends pl_ring pl_choices
  else bd1 (f_X7_bit N x1) fun r_10 =>
  bd1 (f_X7_bit N x3) fun r_11 =>
  bd1 (f_X4_weigh N pl_rings pl_ringSet pl_inside pl_ends pl_ring pl_choices 0 (r_10 ||| r_11)) fun r_12 =>
  if ¬ r_12.1 = 0 then f_X4_weighEdges_b81 N pl_rest pl_sketch pl_placed pl_rings pl_ringSet k2 (f_X4_weighEdges_b48 N pl_rest pl_sketch pl_placed pl_rings pl_ringSet k2 n) x1 x2 x3 r_12.2.1 r_12.2.2.1 r_12.2.2.2.1 r_12.2.2.2.2
  else some (0, r_12.2.1, r_12.2.2.1, r_12.2.2.2.1, r_12.2.2.2.2)
def f_X4_weighEdges_b43 (N : Nat) (pl_rest : Nat → Int32) (pl_sketch : Nat → Int32) (pl_placed : Int32) (pl_rings : Int32) (pl_ringSet : Nat → Int32) (k2 : Int32 → Int32 → Int32 → Int32 → Int32 → Option (Int32 × Int32 × Int32 × Int32 × Int32)) (x1 : Int32) (y0 : Int32) (pl_inside : Int32) (pl_ends : Int32) (pl_ring : Int32) (pl_choices : Int32) : Option (Int32 × Int32 × Int32 × Int32 × Int32) :=
  nm ((x1 + 1)) fun x3_6 =>
  f_X4_weighEdges_b48 N pl_rest pl_sketch pl_placed pl_rings pl_ringSet k2 N x1 y0 x3_6 pl_inside pl_ends pl_ring pl_choices
def f_X4_weighEdges_b2 (N : Nat) (pl_rest : Nat → Int32) (pl_sketch : Nat → Int32) (pl_placed : Int32) (pl_rings : Int32) (pl_ringSet : Nat → Int32) : Nat → Int32 → Int32 → Int32 → Int32 → Int32 → Option (Int32 × Int32 × Int32 × Int32 × Int32)
  | 0 => fun _ _ _ _ _ => none
  | n + 1 => fun x1 pl_inside pl_ends pl_ring pl_choices =>
  if 9 ≤ x1 then some (1, pl_inside, pl_ends, pl_ring, pl_choices)
  else bd1 (f_X7_contains N pl_placed x1) fun r_2 =>
  if r_2 = 0 then f_X4_weighEdges_b43 N pl_rest pl_sketch pl_placed pl_rings pl_ringSet (f_X4_weighEdges_b2 N pl_rest pl_sketch pl_placed pl_rings pl_ringSet n) x1 0 pl_inside pl_ends pl_ring pl_choices
  else chk (inb x1 9) (chk (inb x1 9) (f_X4_weighEdges_b43 N pl_rest pl_sketch pl_placed pl_rings pl_ringSet (f_X4_weighEdges_b2 N pl_rest pl_sketch pl_placed pl_rings pl_ringSet n) x1 (((pl_rest x1.toNatClampNeg) &&& pl_placed) &&& ((pl_sketch x1.toNatClampNeg) ^^^ (-1))) pl_inside pl_ends pl_ring pl_choices))
def f_X4_weighEdges (N : Nat) (pl_rest : Nat → Int32) (pl_sketch : Nat → Int32) (pl_placed : Int32) (pl_rings : Int32) (pl_ringSet : Nat → Int32) (pl_inside : Int32) (pl_ends : Int32) (pl_ring : Int32) (pl_choices : Int32) : Option (Int32 × Int32 × Int32 × Int32 × Int32) :=
  f_X4_weighEdges_b2 N pl_rest pl_sketch pl_placed pl_rings pl_ringSet N 0 pl_inside pl_ends pl_ring pl_choices
def f_X4_weighParts_b76 (N : Nat) (pl_rest : Nat → Int32) (pl_placed : Int32) (pl_rings : Int32) (pl_ringSet : Nat → Int32) (k7 : Int32 → Int32 → Int32 → Int32 → Int32 → Int32 → Option (Int32 × Int32 × Int32 × Int32 × Int32)) (x1 : Int32) (x2 : Int32) (pl_inside : Int32) (pl_ends : Int32) (pl_ring : Int32) (pl_choices : Int32) : Option (Int32 × Int32 × Int32 × Int32 × Int32) :=
  k7 x1 (x2 + 1) pl_inside pl_ends pl_ring pl_choices
def f_X4_weighParts_b7 (N : Nat) (pl_rest : Nat → Int32) (pl_placed : Int32) (pl_rings : Int32) (pl_ringSet : Nat → Int32) : Nat → Int32 → Int32 → Int32 → Int32 → Int32 → Int32 → Option (Int32 × Int32 × Int32 × Int32 × Int32)
  | 0 => fun _ _ _ _ _ _ => none
  | n + 1 => fun x1 x2 pl_inside pl_ends pl_ring pl_choices =>
  if 9 ≤ x2 then some (1, pl_inside, pl_ends, pl_ring, pl_choices)
  else bd1 (f_X7_contains N x1 x2) fun r_2 =>
  if ¬ r_2 = 0 then f_X4_weighParts_b76 N pl_rest pl_placed pl_rings pl_ringSet (f_X4_weighParts_b7 N pl_rest pl_placed pl_rings pl_ringSet n) x1 x2 pl_inside pl_ends pl_ring pl_choices
  else bd1 (f_X7_spread N pl_rest x2 (pl_placed ^^^ (-1))) fun r_4 =>
  bd1 (f_X7_neighboursOf N pl_rest r_4) fun r_5 =>
  nm ((r_5 &&& pl_placed)) fun x4_6 =>
  nm ((x1 ||| r_4)) fun x1_7 =>
  bd1 (f_J6_bitCount_0f7a4 N x4_6) fun r_8 =>
  if r_8 < 2 then f_X4_weighParts_b76 N pl_rest pl_placed pl_rings pl_ringSet (f_X4_weighParts_b7 N pl_rest pl_placed pl_rings pl_ringSet n) x1_7 x2 pl_inside pl_ends pl_ring pl_choices
  else bd1 (f_X4_weigh N pl_rings pl_ringSet pl_inside pl_ends pl_ring pl_choices r_4 x4_6) fun r_10 =>
  if ¬ r_10.1 = 0 then f_X4_weighParts_b76 N pl_rest pl_placed pl_rings pl_ringSet (f_X4_weighParts_b7 N pl_rest pl_placed pl_rings pl_ringSet n) x1_7 x2 r_10.2.1 r_10.2.2.1 r_10.2.2.2.1 r_10.2.2.2.2
  else some (0, r_10.2.1, r_10.2.2.1, r_10.2.2.2.1, r_10.2.2.2.2)
def f_X4_weighParts (N : Nat) (pl_rest : Nat → Int32) (pl_placed : Int32) (pl_rings : Int32) (pl_ringSet : Nat → Int32) (pl_inside : Int32) (pl_ends : Int32) (pl_ring : Int32) (pl_choices : Int32) : Option (Int32 × Int32 × Int32 × Int32 × Int32) :=
  f_X4_weighParts_b7 N pl_rest pl_placed pl_rings pl_ringSet N pl_placed 0 pl_inside pl_ends pl_ring pl_choices
def f_X4_tracePath_b50 (N : Nat) (pl_origin : Nat → Int32) (x3 : Int32) (x5 : Int32) (pl_path : Nat → Int32) (pl_pathLength : Int32) : Option ((Nat → Int32) × Int32) :=
  chk (inb x5 9) (some ((upd pl_path x5.toNatClampNeg x3), (x5 + 1)))
def f_X4_tracePath_b13 (N : Nat) (pl_origin : Nat → Int32) : Nat → Int32 → Int32 → Int32 → (Nat → Int32) → Int32 → Option ((Nat → Int32) × Int32)
  | 0 => fun _ _ _ _ _ => none
  | n + 1 => fun x3 x4 x5 pl_path pl_pathLength =>
  if 8 ≤ x5 then f_X4_tracePath_b50 N pl_origin x3 x5 pl_path pl_pathLength
  else if x4 = x3 then f_X4_tracePath_b50 N pl_origin x3 x5 pl_path pl_pathLength
  else chk (inb x5 9) (chk (inb x4 9) (nm ((pl_origin x4.toNatClampNeg)) fun x4_6 =>
  (f_X4_tracePath_b13 N pl_origin n) x3 x4_6 (x5 + 1) (upd pl_path x5.toNatClampNeg x4) pl_pathLength))
def f_X4_tracePath (N : Nat) (pl_path : Nat → Int32) (pl_pathLength : Int32) (pl_origin : Nat → Int32) (p1 : Int32) (p2 : Int32) (p3 : Int32) : Option ((Nat → Int32) × Int32) :=
  chk (inb 0 9) (f_X4_tracePath_b13 N pl_origin N p3 p2 1 (upd pl_path (0 : Int32).toNatClampNeg p1) pl_pathLength)
def f_X4_findPath_b205 (N : Nat) (pl_rest : Nat → Int32) (pl_inside : Int32) (pl_ends : Int32) (k68 : Int32 → Int32 → Int32 → Int32 → Int32 → (Nat → Int32) → Int32 → (Nat → Int32) → (Nat → Int32) → Option ((Nat → Int32) × Int32 × (Nat → Int32) × (Nat → Int32))) (x1 : Int32) (x2 : Int32) (x3 : Int32) (x4 : Int32) (x5 : Int32) (pl_path : Nat → Int32) (pl_pathLength : Int32) (pl_queue : Nat → Int32) (pl_origin : Nat → Int32) : Option ((Nat → Int32) × Int32 × (Nat → Int32) × (Nat → Int32)) :=
  k68 x1 x2 x3 x4 (x5 + 1) pl_path pl_pathLength pl_queue pl_origin
def f_X4_findPath_b199 (N : Nat) (pl_rest : Nat → Int32) (pl_inside : Int32) (pl_ends : Int32) (k68 : Int32 → Int32 → Int32 → Int32 → Int32 → (Nat → Int32) → Int32 → (Nat → Int32) → (Nat → Int32) → Option ((Nat → Int32) × Int32 × (Nat → Int32) × (Nat → Int32))) (k131 : Int32 → Int32 → Int32 → Int32 → Int32 → Int32 → Int32 → (Nat → Int32) → Int32 → (Nat → Int32) → (Nat → Int32) → Option ((Nat → Int32) × Int32 × (Nat → Int32) × (Nat → Int32))) (x1 : Int32) (x2 : Int32) (x3 : Int32) (x4 : Int32) (x5 : Int32) (x6 : Int32) (x7 : Int32) (pl_path : Nat → Int32) (pl_pathLength : Int32) (pl_queue : Nat → Int32) (pl_origin : Nat → Int32) : Option ((Nat → Int32) × Int32 × (Nat → Int32) × (Nat → Int32)) :=
  k131 x1 x2 x3 x4 x5 x6 (x7 + 1) pl_path pl_pathLength pl_queue pl_origin
def f_X4_findPath_b131 (N : Nat) (pl_rest : Nat → Int32) (pl_inside : Int32) (pl_ends : Int32) (k68 : Int32 → Int32 → Int32 → Int32 → Int32 → (Nat → Int32) → Int32 → (Nat → Int32) → (Nat → Int32) → Option ((Nat → Int32) × Int32 × (Nat → Int32) × (Nat → Int32))) : Nat → Int32 → Int32 → Int32 → Int32 → Int32 → Int32 → Int32 → (Nat → Int32) → Int32 → (Nat → Int32) → (Nat → Int32) → Option ((Nat → Int32) × Int32 × (Nat → Int32) × (Nat → Int32))
  | 0 => fun _ _ _ _ _ _ _ _ _ _ _ => none
  | n + 1 => fun x1 x2 x3 x4 x5 x6 x7 pl_path pl_pathLength pl_queue pl_origin =>
  if 9 ≤ x7 then f_X4_findPath_b205 N pl_rest pl_inside pl_ends k68 x1 x2 x3 x4 x5 pl_path pl_pathLength pl_queue pl_origin
  else chk (inb x6 9) (bd1 (f_X7_contains N (((pl_rest x6.toNatClampNeg) &&& pl_inside) &&& (x4 ^^^ (-1))) x7) fun r_22 =>
  if r_22 = 0 then f_X4_findPath_b199 N pl_rest pl_inside pl_ends k68 (f_X4_findPath_b131 N pl_rest pl_inside pl_ends k68 n) x1 x2 x3 x4 x5 x6 x7 pl_path pl_pathLength pl_queue pl_origin
  else if 9 ≤ x3 then f_X4_findPath_b199 N pl_rest pl_inside pl_ends k68 (f_X4_findPath_b131 N pl_rest pl_inside pl_ends k68 n) x1 x2 x3 x4 x5 x6 x7 pl_path pl_pathLength pl_queue pl_origin
  else chk (inb x7 9) (chk (inb x3 9) (bd1 (f_X7_bit N x7) fun r_27 =>
  nm ((x4 ||| r_27)) fun x4_28 =>
  f_X4_findPath_b199 N pl_rest pl_inside pl_ends k68 (f_X4_findPath_b131 N pl_rest pl_inside pl_ends k68 n) x1 x2 (x3 + 1) x4_28 x5 x6 x7 pl_path pl_pathLength (upd pl_queue x3.toNatClampNeg x7) (upd pl_origin x7.toNatClampNeg x6))))
def f_X4_findPath_b128 (N : Nat) (pl_rest : Nat → Int32) (pl_inside : Int32) (pl_ends : Int32) (k68 : Int32 → Int32 → Int32 → Int32 → Int32 → (Nat → Int32) → Int32 → (Nat → Int32) → (Nat → Int32) → Option ((Nat → Int32) × Int32 × (Nat → Int32) × (Nat → Int32))) (x1 : Int32) (x2 : Int32) (x3 : Int32) (x4 : Int32) (x5 : Int32) (x6 : Int32) (pl_path : Nat → Int32) (pl_pathLength : Int32) (pl_queue : Nat → Int32) (pl_origin : Nat → Int32) : Option ((Nat → Int32) × Int32 × (Nat → Int32) × (Nat → Int32)) :=
  f_X4_findPath_b131 N pl_rest pl_inside pl_ends k68 N x1 x2 x3 x4 x5 x6 0 pl_path pl_pathLength pl_queue pl_origin
def f_X4_findPath_b108 (N : Nat) (pl_rest : Nat → Int32) (pl_inside : Int32) (pl_ends : Int32) (x1 : Int32) (x2 : Int32) (x6 : Int32) (pl_path : Nat → Int32) (pl_pathLength : Int32) (pl_queue : Nat → Int32) (pl_origin : Nat → Int32) : Option ((Nat → Int32) × Int32 × (Nat → Int32) × (Nat → Int32)) :=
  chk (inb x6 9) (bd1 (f_X7_smallestOf N ((pl_rest x6.toNatClampNeg) &&& x2)) fun r_18 =>
  bd1 (f_X4_tracePath N pl_path pl_pathLength pl_origin r_18 x6 x1) fun r_19 =>
  some (r_19.1, r_19.2, pl_queue, pl_origin))
def f_X4_findPath_b68 (N : Nat) (pl_rest : Nat → Int32) (pl_inside : Int32) (pl_ends : Int32) : Nat → Int32 → Int32 → Int32 → Int32 → Int32 → (Nat → Int32) → Int32 → (Nat → Int32) → (Nat → Int32) → Option ((Nat → Int32) × Int32 × (Nat → Int32) × (Nat → Int32))
  | 0 => fun _ _ _ _ _ _ _ _ _ => none
  | n + 1 => fun x1 x2 x3 x4 x5 pl_path pl_pathLength pl_queue pl_origin =>
  if x3 ≤ x5 then some (pl_path, pl_pathLength, pl_queue, pl_origin)
  else if 9 ≤ x5 then some (pl_path, pl_pathLength, pl_queue, pl_origin)
  else chk (inb x5 9) (nm ((pl_queue x5.toNatClampNeg)) fun x6_13 =>
  if x6_13 = x1 then f_X4_findPath_b128 N pl_rest pl_inside pl_ends (f_X4_findPath_b68 N pl_rest pl_inside pl_ends n) x1 x2 x3 x4 x5 x6_13 pl_path pl_pathLength pl_queue pl_origin
  else chk (inb x6_13 9) (if ((pl_rest x6_13.toNatClampNeg) &&& x2) = 0 then f_X4_findPath_b128 N pl_rest pl_inside pl_ends (f_X4_findPath_b68 N pl_rest pl_inside pl_ends n) x1 x2 x3 x4 x5 x6_13 pl_path pl_pathLength pl_queue pl_origin
  else f_X4_findPath_b108 N pl_rest pl_inside pl_ends x1 x2 x6_13 pl_path pl_pathLength pl_queue pl_origin))
def f_X4_findPath (N : Nat) (pl_rest : Nat → Int32) (pl_path : Nat → Int32) (pl_pathLength : Int32) (pl_queue : Nat → Int32) (pl_origin : Nat → Int32) (pl_inside : Int32) (pl_ends : Int32) : Option ((Nat → Int32) × Int32 × (Nat → Int32) × (Nat → Int32)) :=
  bd1 (f_X7_smallestOf N pl_ends) fun r_1 =>
  bd1 (f_X7_bit N r_1) fun r_2 =>
  nm ((pl_ends &&& (r_2 ^^^ (-1)))) fun x2_3 =>
  if ¬ pl_inside = 0 then chk (inb 0 9) (bd1 (f_X7_bit N r_1) fun r_6 =>
  f_X4_findPath_b68 N pl_rest pl_inside pl_ends N r_1 x2_3 1 r_6 0 pl_path pl_pathLength (upd pl_queue (0 : Int32).toNatClampNeg r_1) pl_origin)
  else chk (inb 0 9) (bd1 (f_X7_smallestOf N x2_3) fun r_8 =>
  chk (inb 1 9) (some ((upd (upd pl_path (0 : Int32).toNatClampNeg r_1) (1 : Int32).toNatClampNeg r_8), 2, pl_queue, pl_origin)))
def f_X4_extendRing (N : Nat) (pl_ringNodes : Nat → Int32) (pl_ringLength : Nat → Int32) (pl_ringSet : Nat → Int32) (p1 : Int32) (p2 : Int32) : Option ((Nat → Int32) × (Nat → Int32) × (Nat → Int32)) :=
  chk (inb p1 15) (if 9 ≤ (pl_ringLength p1.toNatClampNeg) then some (pl_ringNodes, pl_ringLength, pl_ringSet)
  else chk (inb p1 15) (chk (inb ((p1 * 9) + (pl_ringLength p1.toNatClampNeg)) 135) (chk (inb p1 15) (chk (inb p1 15) (chk (inb p1 15) (bd1 (f_X7_bit N p2) fun r_8 =>
  chk (inb p1 15) (some ((upd pl_ringNodes ((p1 * 9) + (pl_ringLength p1.toNatClampNeg)).toNatClampNeg p2), (upd pl_ringLength p1.toNatClampNeg ((pl_ringLength p1.toNatClampNeg) + 1)), (upd pl_ringSet p1.toNatClampNeg ((pl_ringSet p1.toNatClampNeg) ||| r_8))))))))))
def f_X4_copyArc_b103 (N : Nat) (pl_oldRing : Nat → Int32) (k56 : Int32 → Int32 → Int32 → Int32 → Int32 → (Nat → Int32) → (Nat → Int32) → (Nat → Int32) → Option ((Nat → Int32) × (Nat → Int32) × (Nat → Int32))) (x1 : Int32) (x3 : Int32) (x4 : Int32) (x6 : Int32) (y0 : Int32) (pl_ringNodes : Nat → Int32) (pl_ringLength : Nat → Int32) (pl_ringSet : Nat → Int32) : Option ((Nat → Int32) × (Nat → Int32) × (Nat → Int32)) :=
  k56 x1 x3 x4 y0 (x6 + 1) pl_ringNodes pl_ringLength pl_ringSet
def f_X4_copyArc_b56 (N : Nat) (pl_oldRing : Nat → Int32) : Nat → Int32 → Int32 → Int32 → Int32 → Int32 → (Nat → Int32) → (Nat → Int32) → (Nat → Int32) → Option ((Nat → Int32) × (Nat → Int32) × (Nat → Int32))
  | 0 => fun _ _ _ _ _ _ _ _ => none
  | n + 1 => fun x1 x3 x4 x5 x6 pl_ringNodes pl_ringLength pl_ringSet =>
  if x4 ≤ x6 then some (pl_ringNodes, pl_ringLength, pl_ringSet)
  else chk (inb x5 9) (nm ((pl_oldRing x5.toNatClampNeg)) fun x7_8 =>
  bd1 (f_X4_extendRing N pl_ringNodes pl_ringLength pl_ringSet x1 x7_8) fun r_9 =>
  if ¬ x7_8 = x3 then if x4 ≤ (x5 + 1) then f_X4_copyArc_b103 N pl_oldRing (f_X4_copyArc_b56 N pl_oldRing n) x1 x3 x4 x6 0 r_9.1 r_9.2.1 r_9.2.2
  else f_X4_copyArc_b103 N pl_oldRing (f_X4_copyArc_b56 N pl_oldRing n) x1 x3 x4 x6 (x5 + 1) r_9.1 r_9.2.1 r_9.2.2
  else some (r_9.1, r_9.2.1, r_9.2.2))
def f_X4_copyArc_b39 (N : Nat) (pl_oldRing : Nat → Int32) (x1 : Int32) (x3 : Int32) (x4 : Int32) (x5 : Int32) (pl_ringNodes : Nat → Int32) (pl_ringLength : Nat → Int32) (pl_ringSet : Nat → Int32) : Option ((Nat → Int32) × (Nat → Int32) × (Nat → Int32)) :=
  chk (inb x1 15) (chk (inb x1 15) (f_X4_copyArc_b56 N pl_oldRing N x1 x3 x4 x5 0 pl_ringNodes (upd pl_ringLength x1.toNatClampNeg 0) (upd pl_ringSet x1.toNatClampNeg 0)))
def f_X4_copyArc_b31 (N : Nat) (pl_oldRing : Nat → Int32) (k6 : Int32 → Int32 → Int32 → Int32 → Int32 → Int32 → (Nat → Int32) → (Nat → Int32) → (Nat → Int32) → Option ((Nat → Int32) × (Nat → Int32) × (Nat → Int32))) (x1 : Int32) (x2 : Int32) (x3 : Int32) (x4 : Int32) (x6 : Int32) (y0 : Int32) (pl_ringNodes : Nat → Int32) (pl_ringLength : Nat → Int32) (pl_ringSet : Nat → Int32) : Option ((Nat → Int32) × (Nat → Int32) × (Nat → Int32)) :=
  k6 x1 x2 x3 x4 y0 (x6 + 1) pl_ringNodes pl_ringLength pl_ringSet
def f_X4_copyArc_b6 (N : Nat) (pl_oldRing : Nat → Int32) : Nat → Int32 → Int32 → Int32 → Int32 → Int32 → Int32 → (Nat → Int32) → (Nat → Int32) → (Nat → Int32) → Option ((Nat → Int32) × (Nat → Int32) × (Nat → Int32))
  | 0 => fun _ _ _ _ _ _ _ _ _ => none
  | n + 1 => fun x1 x2 x3 x4 x5 x6 pl_ringNodes pl_ringLength pl_ringSet =>
  if x4 ≤ x6 then f_X4_copyArc_b39 N pl_oldRing x1 x3 x4 x5 pl_ringNodes pl_ringLength pl_ringSet
  else chk (inb x6 9) (if ¬ (pl_oldRing x6.toNatClampNeg) = x2 then f_X4_copyArc_b31 N pl_oldRing (f_X4_copyArc_b6 N pl_oldRing n) x1 x2 x3 x4 x6 x5 pl_ringNodes pl_ringLength pl_ringSet
  else f_X4_copyArc_b31 N pl_oldRing (f_X4_copyArc_b6 N pl_oldRing n) x1 x2 x3 x4 x6 x6 pl_ringNodes pl_ringLength pl_ringSet)
def f_X4_copyArc (N : Nat) (pl_ringNodes : Nat → Int32) (pl_ringLength : Nat → Int32) (pl_ringSet : Nat → Int32) (pl_oldRing : Nat → Int32) (p1 : Int32) (p2 : Int32) (p3 : Int32) (p4 : Int32) : Option ((Nat → Int32) × (Nat → Int32) × (Nat → Int32)) :=
  f_X4_copyArc_b6 N pl_oldRing N p1 p2 p3 p4 0 0 pl_ringNodes pl_ringLength pl_ringSet
def f_X4_splitRing_b140 (N : Nat) (pl_path : Nat → Int32) (pl_pathLength : Int32) (pl_ring : Int32) (pl_rings : Int32) (pl_ringNodes : Nat → Int32) (pl_ringLength : Nat → Int32) (pl_ringSet : Nat → Int32) (pl_oldRing : Nat → Int32) : Option (Int32 × (Nat → Int32) × (Nat → Int32) × (Nat → Int32) × (Nat → Int32)) :=
  some ((pl_rings + 1), pl_ringNodes, pl_ringLength, pl_ringSet, pl_oldRing)
def f_X4_splitRing_b108 (N : Nat) (pl_path : Nat → Int32) (pl_pathLength : Int32) (pl_ring : Int32) : Nat → Int32 → Int32 → (Nat → Int32) → (Nat → Int32) → (Nat → Int32) → (Nat → Int32) → Option (Int32 × (Nat → Int32) × (Nat → Int32) × (Nat → Int32) × (Nat → Int32))
  | 0 => fun _ _ _ _ _ _ => none
  | n + 1 => fun x4 pl_rings pl_ringNodes pl_ringLength pl_ringSet pl_oldRing =>
  if (pl_pathLength - 1) ≤ x4 then f_X4_splitRing_b140 N pl_path pl_pathLength pl_ring pl_rings pl_ringNodes pl_ringLength pl_ringSet pl_oldRing
  else chk (inb x4 9) (bd1 (f_X4_extendRing N pl_ringNodes pl_ringLength pl_ringSet pl_rings (pl_path x4.toNatClampNeg)) fun r_16 =>
  (f_X4_splitRing_b108 N pl_path pl_pathLength pl_ring n) (x4 + 1) pl_rings r_16.1 r_16.2.1 r_16.2.2 pl_oldRing)
def f_X4_splitRing_b94 (N : Nat) (pl_path : Nat → Int32) (pl_pathLength : Int32) (pl_ring : Int32) (x1 : Int32) (x2 : Int32) (x3 : Int32) (pl_rings : Int32) (pl_ringNodes : Nat → Int32) (pl_ringLength : Nat → Int32) (pl_ringSet : Nat → Int32) (pl_oldRing : Nat → Int32) : Option (Int32 × (Nat → Int32) × (Nat → Int32) × (Nat → Int32) × (Nat → Int32)) :=
  bd1 (f_X4_copyArc N pl_ringNodes pl_ringLength pl_ringSet pl_oldRing pl_rings x3 x2 x1) fun r_13 =>
  f_X4_splitRing_b108 N pl_path pl_pathLength pl_ring N 1 pl_rings r_13.1 r_13.2.1 r_13.2.2 pl_oldRing
def f_X4_splitRing_b68 (N : Nat) (pl_path : Nat → Int32) (pl_pathLength : Int32) (pl_ring : Int32) : Nat → Int32 → Int32 → Int32 → Int32 → Int32 → (Nat → Int32) → (Nat → Int32) → (Nat → Int32) → (Nat → Int32) → Option (Int32 × (Nat → Int32) × (Nat → Int32) × (Nat → Int32) × (Nat → Int32))
  | 0 => fun _ _ _ _ _ _ _ _ _ => none
  | n + 1 => fun x1 x2 x3 x4 pl_rings pl_ringNodes pl_ringLength pl_ringSet pl_oldRing =>
  if x4 ≤ 0 then f_X4_splitRing_b94 N pl_path pl_pathLength pl_ring x1 x2 x3 pl_rings pl_ringNodes pl_ringLength pl_ringSet pl_oldRing
  else chk (inb x4 9) (bd1 (f_X4_extendRing N pl_ringNodes pl_ringLength pl_ringSet pl_ring (pl_path x4.toNatClampNeg)) fun r_12 =>
  (f_X4_splitRing_b68 N pl_path pl_pathLength pl_ring n) x1 x2 x3 (x4 + (-1)) pl_rings r_12.1 r_12.2.1 r_12.2.2 pl_oldRing)
def f_X4_splitRing (N : Nat) (pl_rings : Int32) (pl_ringNodes : Nat → Int32) (pl_ringLength : Nat → Int32) (pl_ringSet : Nat → Int32) (pl_oldRing : Nat → Int32) (pl_path : Nat → Int32) (pl_pathLength : Int32) (pl_ring : Int32) : Option (Int32 × (Nat → Int32) × (Nat → Int32) × (Nat → Int32) × (Nat → Int32)) :=
  chk (inb pl_ring 15) (nm ((pl_ringLength pl_ring.toNatClampNeg)) fun x1_2 =>
  chk (cpok (pl_ring * 9) 0 x1_2 135 9) (chk (inb 0 9) (nm ((pl_path (0 : Int32).toNatClampNeg)) fun x2_5 =>
  chk (inb (pl_pathLength - 1) 9) (nm ((pl_path (pl_pathLength - 1).toNatClampNeg)) fun x3_7 =>
  bd1 (f_X4_copyArc N pl_ringNodes pl_ringLength pl_ringSet (va_cpy pl_ringNodes pl_oldRing (pl_ring * 9).toNatClampNeg (0 : Int32).toNatClampNeg x1_2.toNatClampNeg) pl_ring x2_5 x3_7 x1_2) fun r_8 =>
  nm ((pl_pathLength - 2)) fun x4_9 =>
  f_X4_splitRing_b68 N pl_path pl_pathLength pl_ring N x1_2 x2_5 x3_7 x4_9 pl_rings r_8.1 r_8.2.1 r_8.2.2 (va_cpy pl_ringNodes pl_oldRing (pl_ring * 9).toNatClampNeg (0 : Int32).toNatClampNeg x1_2.toNatClampNeg)))))
def f_X4_sketchBlock_b9 (N : Nat) (pl_rest : Nat → Int32) : Nat → Int32 → (Nat → Int32) → Int32 → Int32 → (Nat → Int32) → (Nat → Int32) → (Nat → Int32) → (Nat → Int32) → (Nat → Int32) → Int32 → (Nat → Int32) → (Nat → Int32) → Int32 → Int32 → Int32 → Int32 → Option (Int32 × (Nat → Int32) × Int32 × Int32 × (Nat → Int32) × (Nat → Int32) × (Nat → Int32) × (Nat → Int32) × (Nat → Int32) × Int32 × (Nat → Int32) × (Nat → Int32) × Int32 × Int32 × Int32 × Int32)
  | 0 => fun _ _ _ _ _ _ _ _ _ _ _ _ _ _ _ _ => none
  | n + 1 => fun x1 pl_sketch pl_placed pl_rings pl_ringNodes pl_ringLength pl_ringSet pl_oldRing pl_path pl_pathLength pl_queue pl_origin pl_inside pl_ends pl_ring pl_choices =>
  if 15 ≤ x1 then some (1, pl_sketch, pl_placed, pl_rings, pl_ringNodes, pl_ringLength, pl_ringSet, pl_oldRing, pl_path, pl_pathLength, pl_queue, pl_origin, pl_inside, pl_ends, pl_ring, pl_choices)
  else bd1 (f_X4_weighEdges N pl_rest pl_sketch pl_placed pl_rings pl_ringSet pl_inside 0 pl_ring pl_choices) fun r_4 =>
  if r_4.1 = 0 then some (0, pl_sketch, pl_placed, pl_rings, pl_ringNodes, pl_ringLength, pl_ringSet, pl_oldRing, pl_path, pl_pathLength, pl_queue, pl_origin, r_4.2.1, r_4.2.2.1, r_4.2.2.2.1, r_4.2.2.2.2)
  else bd1 (f_X4_weighParts N pl_rest pl_placed pl_rings pl_ringSet r_4.2.1 r_4.2.2.1 r_4.2.2.2.1 r_4.2.2.2.2) fun r_6 =>
  if ¬ r_6.1 = 0 then bd1 (f_J6_bitCount_0f7a4 N r_6.2.2.1) fun r_8 =>
  if 2 ≤ r_8 then bd1 (f_X4_findPath N pl_rest pl_path pl_pathLength pl_queue pl_origin r_6.2.1 r_6.2.2.1) fun r_10 =>
  bd1 (f_X4_splitRing N pl_rings pl_ringNodes pl_ringLength pl_ringSet pl_oldRing r_10.1 r_10.2.1 r_6.2.2.2.1) fun r_11 =>
  bd1 (f_X4_drawPath N pl_sketch pl_placed r_10.1 r_10.2.1) fun r_12 =>
  (f_X4_sketchBlock_b9 N pl_rest n) (x1 + 1) r_12.1 r_12.2 r_11.1 r_11.2.1 r_11.2.2.1 r_11.2.2.2.1 r_11.2.2.2.2 r_10.1 r_10.2.1 r_10.2.2.1 r_10.2.2.2 r_6.2.1 r_6.2.2.1 r_6.2.2.2.1 r_6.2.2.2.2
  else some (1, pl_sketch, pl_placed, pl_rings, pl_ringNodes, pl_ringLength, pl_ringSet, pl_oldRing, pl_path, pl_pathLength, pl_queue, pl_origin, r_6.2.1, r_6.2.2.1, r_6.2.2.2.1, r_6.2.2.2.2)
  else some (0, pl_sketch, pl_placed, pl_rings, pl_ringNodes, pl_ringLength, pl_ringSet, pl_oldRing, pl_path, pl_pathLength, pl_queue, pl_origin, r_6.2.1, r_6.2.2.1, r_6.2.2.2.1, r_6.2.2.2.2)
def f_X4_sketchBlock (N : Nat) (pl_rest : Nat → Int32) (pl_sketch : Nat → Int32) (pl_placed : Int32) (pl_rings : Int32) (pl_ringNodes : Nat → Int32) (pl_ringLength : Nat → Int32) (pl_ringSet : Nat → Int32) (pl_oldRing : Nat → Int32) (pl_path : Nat → Int32) (pl_pathLength : Int32) (pl_queue : Nat → Int32) (pl_origin : Nat → Int32) (pl_inside : Int32) (pl_ends : Int32) (pl_ring : Int32) (pl_choices : Int32) : Option (Int32 × (Nat → Int32) × Int32 × Int32 × (Nat → Int32) × (Nat → Int32) × (Nat → Int32) × (Nat → Int32) × (Nat → Int32) × Int32 × (Nat → Int32) × (Nat → Int32) × Int32 × Int32 × Int32 × Int32) :=
  bd1 (f_X4_startSketch N pl_sketch pl_placed pl_rings pl_ringNodes pl_ringLength pl_ringSet pl_path pl_pathLength) fun r_1 =>
  nm (r_1.2.2.1) fun x1_2 =>
  f_X4_sketchBlock_b9 N pl_rest N x1_2 r_1.1 r_1.2.1 r_1.2.2.1 r_1.2.2.2.1 r_1.2.2.2.2.1 r_1.2.2.2.2.2 pl_oldRing pl_path pl_pathLength pl_queue pl_origin pl_inside pl_ends pl_ring pl_choices
def f_X4_accepts_b82 (N : Nat) (nr_a : Nat → Int32) (k14 : Int32 → (Nat → Int32) → (Nat → Int32) → Int32 → Int32 → (Nat → Int32) → (Nat → Int32) → (Nat → Int32) → (Nat → Int32) → (Nat → Int32) → Int32 → (Nat → Int32) → (Nat → Int32) → Int32 → Int32 → Int32 → Int32 → Option (Int32 × (Nat → Int32) × (Nat → Int32) × Int32 × Int32 × (Nat → Int32) × (Nat → Int32) × (Nat → Int32) × (Nat → Int32) × (Nat → Int32) × Int32 × (Nat → Int32) × (Nat → Int32) × Int32 × Int32 × Int32 × Int32)) (x2 : Int32) (pl_rest : Nat → Int32) (pl_sketch : Nat → Int32) (pl_placed : Int32) (pl_rings : Int32) (pl_ringNodes : Nat → Int32) (pl_ringLength : Nat → Int32) (pl_ringSet : Nat → Int32) (pl_oldRing : Nat → Int32) (pl_path : Nat → Int32) (pl_pathLength : Int32) (pl_queue : Nat → Int32) (pl_origin : Nat → Int32) (pl_inside : Int32) (pl_ends : Int32) (pl_ring : Int32) (pl_choices : Int32) : Option (Int32 × (Nat → Int32) × (Nat → Int32) × Int32 × Int32 × (Nat → Int32) × (Nat → Int32) × (Nat → Int32) × (Nat → Int32) × (Nat → Int32) × Int32 × (Nat → Int32) × (Nat → Int32) × Int32 × Int32 × Int32 × Int32) :=
  k14 (x2 + 1) pl_rest pl_sketch pl_placed pl_rings pl_ringNodes pl_ringLength pl_ringSet pl_oldRing pl_path pl_pathLength pl_queue pl_origin pl_inside pl_ends pl_ring pl_choices
def f_X4_accepts_b53 (N : Nat) (nr_a : Nat → Int32) (k14 : Int32 → (Nat → Int32) → (Nat → Int32) → Int32 → Int32 → (Nat → Int32) → (Nat → Int32) → (Nat → Int32) → (Nat → Int32) → (Nat → Int32) → Int32 → (Nat → Int32) → (Nat → Int32) → Int32 → Int32 → Int32 → Int32 → Option (Int32 × (Nat → Int32) × (Nat → Int32) × Int32 × Int32 × (Nat → Int32) × (Nat → Int32) × (Nat → Int32) × (Nat → Int32) × (Nat → Int32) × Int32 × (Nat → Int32) × (Nat → Int32) × Int32 × Int32 × Int32 × Int32)) : Nat → Int32 → Int32 → (Nat → Int32) → (Nat → Int32) → Int32 → Int32 → (Nat → Int32) → (Nat → Int32) → (Nat → Int32) → (Nat → Int32) → (Nat → Int32) → Int32 → (Nat → Int32) → (Nat → Int32) → Int32 → Int32 → Int32 → Int32 → Option (Int32 × (Nat → Int32) × (Nat → Int32) × Int32 × Int32 × (Nat → Int32) × (Nat → Int32) × (Nat → Int32) × (Nat → Int32) × (Nat → Int32) × Int32 × (Nat → Int32) × (Nat → Int32) × Int32 × Int32 × Int32 × Int32)
  | 0 => fun _ _ _ _ _ _ _ _ _ _ _ _ _ _ _ _ _ _ => none
  | n + 1 => fun x2 x3 pl_rest pl_sketch pl_placed pl_rings pl_ringNodes pl_ringLength pl_ringSet pl_oldRing pl_path pl_pathLength pl_queue pl_origin pl_inside pl_ends pl_ring pl_choices =>
  if 9 ≤ x3 then f_X4_accepts_b82 N nr_a k14 x2 pl_rest pl_sketch pl_placed pl_rings pl_ringNodes pl_ringLength pl_ringSet pl_oldRing pl_path pl_pathLength pl_queue pl_origin pl_inside pl_ends pl_ring pl_choices
  else chk (inb x3 9) (chk (inb x3 9) (chk (inb x3 9) ((f_X4_accepts_b53 N nr_a k14 n) x2 (x3 + 1) (upd pl_rest x3.toNatClampNeg ((pl_rest x3.toNatClampNeg) &&& ((pl_sketch x3.toNatClampNeg) ^^^ (-1)))) pl_sketch pl_placed pl_rings pl_ringNodes pl_ringLength pl_ringSet pl_oldRing pl_path pl_pathLength pl_queue pl_origin pl_inside pl_ends pl_ring pl_choices)))
def f_X4_accepts_b14 (N : Nat) (nr_a : Nat → Int32) : Nat → Int32 → (Nat → Int32) → (Nat → Int32) → Int32 → Int32 → (Nat → Int32) → (Nat → Int32) → (Nat → Int32) → (Nat → Int32) → (Nat → Int32) → Int32 → (Nat → Int32) → (Nat → Int32) → Int32 → Int32 → Int32 → Int32 → Option (Int32 × (Nat → Int32) × (Nat → Int32) × Int32 × Int32 × (Nat → Int32) × (Nat → Int32) × (Nat → Int32) × (Nat → Int32) × (Nat → Int32) × Int32 × (Nat → Int32) × (Nat → Int32) × Int32 × Int32 × Int32 × Int32)
  | 0 => fun _ _ _ _ _ _ _ _ _ _ _ _ _ _ _ _ _ => none
  | n + 1 => fun x2 pl_rest pl_sketch pl_placed pl_rings pl_ringNodes pl_ringLength pl_ringSet pl_oldRing pl_path pl_pathLength pl_queue pl_origin pl_inside pl_ends pl_ring pl_choices =>
  if 9 ≤ x2 then some (1, pl_rest, pl_sketch, pl_placed, pl_rings, pl_ringNodes, pl_ringLength, pl_ringSet, pl_oldRing, pl_path, pl_pathLength, pl_queue, pl_origin, pl_inside, pl_ends, pl_ring, pl_choices)
  else bd1 (f_X4_reduce N pl_rest) fun r_3 =>
  bd1 (f_X4_countEdges N r_3) fun r_4 =>
  if r_4 < 9 then some (1, r_3, pl_sketch, pl_placed, pl_rings, pl_ringNodes, pl_ringLength, pl_ringSet, pl_oldRing, pl_path, pl_pathLength, pl_queue, pl_origin, pl_inside, pl_ends, pl_ring, pl_choices)
  else bd1 (f_X4_findCycle N r_3 pl_path pl_pathLength) fun r_6 =>
  if ¬ r_6.1 = 0 then bd1 (f_X4_sketchBlock N r_3 pl_sketch pl_placed pl_rings pl_ringNodes pl_ringLength pl_ringSet pl_oldRing r_6.2.1 r_6.2.2 pl_queue pl_origin pl_inside pl_ends pl_ring pl_choices) fun r_8 =>
  if ¬ r_8.1 = 0 then f_X4_accepts_b53 N nr_a (f_X4_accepts_b14 N nr_a n) N x2 0 r_3 r_8.2.1 r_8.2.2.1 r_8.2.2.2.1 r_8.2.2.2.2.1 r_8.2.2.2.2.2.1 r_8.2.2.2.2.2.2.1 r_8.2.2.2.2.2.2.2.1 r_8.2.2.2.2.2.2.2.2.1 r_8.2.2.2.2.2.2.2.2.2.1 r_8.2.2.2.2.2.2.2.2.2.2.1 r_8.2.2.2.2.2.2.2.2.2.2.2.1 r_8.2.2.2.2.2.2.2.2.2.2.2.2.1 r_8.2.2.2.2.2.2.2.2.2.2.2.2.2.1 r_8.2.2.2.2.2.2.2.2.2.2.2.2.2.2.1 r_8.2.2.2.2.2.2.2.2.2.2.2.2.2.2.2
  else some (0, r_3, r_8.2.1, r_8.2.2.1, r_8.2.2.2.1, r_8.2.2.2.2.1, r_8.2.2.2.2.2.1, r_8.2.2.2.2.2.2.1, r_8.2.2.2.2.2.2.2.1, r_8.2.2.2.2.2.2.2.2.1, r_8.2.2.2.2.2.2.2.2.2.1, r_8.2.2.2.2.2.2.2.2.2.2.1, r_8.2.2.2.2.2.2.2.2.2.2.2.1, r_8.2.2.2.2.2.2.2.2.2.2.2.2.1, r_8.2.2.2.2.2.2.2.2.2.2.2.2.2.1, r_8.2.2.2.2.2.2.2.2.2.2.2.2.2.2.1, r_8.2.2.2.2.2.2.2.2.2.2.2.2.2.2.2)
  else some (1, r_3, pl_sketch, pl_placed, pl_rings, pl_ringNodes, pl_ringLength, pl_ringSet, pl_oldRing, r_6.2.1, r_6.2.2, pl_queue, pl_origin, pl_inside, pl_ends, pl_ring, pl_choices)
def f_X4_accepts (N : Nat) (nr_a : Nat → Int32) (pl_rest : Nat → Int32) (pl_sketch : Nat → Int32) (pl_placed : Int32) (pl_rings : Int32) (pl_ringNodes : Nat → Int32) (pl_ringLength : Nat → Int32) (pl_ringSet : Nat → Int32) (pl_oldRing : Nat → Int32) (pl_path : Nat → Int32) (pl_pathLength : Int32) (pl_queue : Nat → Int32) (pl_origin : Nat → Int32) (pl_inside : Int32) (pl_ends : Int32) (pl_ring : Int32) (pl_choices : Int32) : Option (Int32 × (Nat → Int32) × (Nat → Int32) × Int32 × Int32 × (Nat → Int32) × (Nat → Int32) × (Nat → Int32) × (Nat → Int32) × (Nat → Int32) × Int32 × (Nat → Int32) × (Nat → Int32) × Int32 × Int32 × Int32 × Int32) :=
  chk (cpok 0 0 9 9 9) (f_X4_accepts_b14 N nr_a N 0 (va_cpy nr_a pl_rest (0 : Int32).toNatClampNeg (0 : Int32).toNatClampNeg (9 : Int32).toNatClampNeg) pl_sketch pl_placed pl_rings pl_ringNodes pl_ringLength pl_ringSet pl_oldRing pl_path pl_pathLength pl_queue pl_origin pl_inside pl_ends pl_ring pl_choices)
