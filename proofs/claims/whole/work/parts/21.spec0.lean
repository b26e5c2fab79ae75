def f_X0_areConnected (N : Nat) (f_near : Nat → Int32) (p1 : Int32) (p2 : Int32) : Option (Int32) :=
  bd1 (f_X7_spread N f_near p1 (-1)) fun r_1 =>
  bd1 (f_X7_contains N r_1 p2) fun r_2 =>
  chk (isB r_2) (some r_2)
def f_X0_countComponents_b95 (N : Nat) (f_number : Int32) (f_near : Nat → Int32) (g_nodes : Int32) (g_edges : Int32) (x2 : Int32) (f_components : Int32) (f_genus : Int32) : Option (Int32 × Int32) :=
  some (f_components, (x2 / 2))
def f_X0_countComponents_b89 (N : Nat) (f_number : Int32) (f_near : Nat → Int32) (g_nodes : Int32) (g_edges : Int32) (k20 : Int32 → Int32 → Int32 → Int32 → Int32 → Option (Int32 × Int32)) (x2 : Int32) (x3 : Int32) (x4 : Int32) (f_components : Int32) (f_genus : Int32) : Option (Int32 × Int32) :=
  k20 x2 x3 (x4 + 1) f_components f_genus
def f_X0_countComponents_b87 (N : Nat) (f_number : Int32) (f_near : Nat → Int32) (g_nodes : Int32) (g_edges : Int32) (k20 : Int32 → Int32 → Int32 → Int32 → Int32 → Option (Int32 × Int32)) (x3 : Int32) (x4 : Int32) (y0 : Int32) (y1 : Int32) (f_components : Int32) (f_genus : Int32) : Option (Int32 × Int32) :=
  nm ((y0 + y1)) fun x2_10 =>
  f_X0_countComponents_b89 N f_number f_near g_nodes g_edges k20 x2_10 x3 x4 f_components f_genus
def f_X0_countComponents_b20 (N : Nat) (f_number : Int32) (f_near : Nat → Int32) (g_nodes : Int32) (g_edges : Int32) : Nat → Int32 → Int32 → Int32 → Int32 → Int32 → Option (Int32 × Int32)
  | 0 => fun _ _ _ _ _ => none
  | n + 1 => fun x2 x3 x4 f_components f_genus =>
  if g_nodes ≤ x4 then f_X0_countComponents_b95 N f_number f_near g_nodes g_edges x2 f_components f_genus
  else bd1 (f_X7_contains N x3 x4) fun r_3 =>
  if ¬ r_3 = 0 then f_X0_countComponents_b89 N f_number f_near g_nodes g_edges (f_X0_countComponents_b20 N f_number f_near g_nodes g_edges n) x2 x3 x4 f_components f_genus
  else bd1 (f_X7_spread N f_near x4 (-1)) fun r_5 =>
  nm ((x3 ||| r_5)) fun x3_6 =>
  chk (inb x4 9) (if ¬ (f_near x4.toNatClampNeg) = 0 then bd1 (f_J6_bitCount_0f7a4 N r_5) fun r_9 =>
  f_X0_countComponents_b87 N f_number f_near g_nodes g_edges (f_X0_countComponents_b20 N f_number f_near g_nodes g_edges n) x3_6 x4 x2 (2 - r_9) (f_components + 1) f_genus
  else f_X0_countComponents_b87 N f_number f_near g_nodes g_edges (f_X0_countComponents_b20 N f_number f_near g_nodes g_edges n) x3_6 x4 x2 0 (f_components + 1) f_genus)
def f_X0_countComponents (N : Nat) (f_number : Int32) (f_components : Int32) (f_genus : Int32) (f_near : Nat → Int32) (g_nodes : Int32) (g_edges : Int32) : Option (Int32 × Int32) :=
  nm ((g_edges - f_number)) fun x2_1 =>
  f_X0_countComponents_b20 N f_number f_near g_nodes g_edges N x2_1 0 0 0 f_genus
def f_X0_countNeighbours_b61 (N : Nat) (f_owner : Nat → Int32) (g_edges : Int32) (x3 : Int32) : Option (Int32) :=
  bd1 (f_J6_bitCount_0f7a4 N x3) fun r_9 =>
  some r_9
def f_X0_countNeighbours_b55 (N : Nat) (f_owner : Nat → Int32) (g_edges : Int32) (k5 : Int32 → Int32 → Int32 → Option (Int32)) (x2 : Int32) (x3 : Int32) (x4 : Int32) : Option (Int32) :=
  k5 x2 x3 (x4 + 1)
def f_X0_countNeighbours_b5 (N : Nat) (f_owner : Nat → Int32) (g_edges : Int32) : Nat → Int32 → Int32 → Int32 → Option (Int32)
  | 0 => fun _ _ _ => none
  | n + 1 => fun x2 x3 x4 =>
  if (2 * g_edges) ≤ x4 then f_X0_countNeighbours_b61 N f_owner g_edges x3
  else chk (inb x4 40) (if ¬ (f_owner x4.toNatClampNeg) = x2 then f_X0_countNeighbours_b55 N f_owner g_edges (f_X0_countNeighbours_b5 N f_owner g_edges n) x2 x3 x4
  else chk (inb (x4 ^^^ 1) 40) (if (f_owner (x4 ^^^ 1).toNatClampNeg) = x2 then f_X0_countNeighbours_b55 N f_owner g_edges (f_X0_countNeighbours_b5 N f_owner g_edges n) x2 x3 x4
  else chk (inb (x4 ^^^ 1) 40) (bd1 (f_X7_bit N (f_owner (x4 ^^^ 1).toNatClampNeg)) fun r_7 =>
  nm ((x3 ||| r_7)) fun x3_8 =>
  f_X0_countNeighbours_b55 N f_owner g_edges (f_X0_countNeighbours_b5 N f_owner g_edges n) x2 x3_8 x4)))
def f_X0_countNeighbours (N : Nat) (f_owner : Nat → Int32) (g_edges : Int32) (p2 : Int32) : Option (Int32) :=
  f_X0_countNeighbours_b5 N f_owner g_edges N p2 0 0
def f_X0_directedAt_b10 (N : Nat) (f_next : Nat → Int32) (f_first : Nat → Int32) : Nat → Int32 → Int32 → Int32 → Option (Int32)
  | 0 => fun _ _ _ => none
  | n + 1 => fun x2 x3 x4 =>
  if x2 ≤ x4 then some x3
  else chk (inb x3 40) (nm ((f_next x3.toNatClampNeg)) fun x3_5 =>
  (f_X0_directedAt_b10 N f_next f_first n) x2 x3_5 (x4 + 1))
def f_X0_directedAt (N : Nat) (f_next : Nat → Int32) (f_first : Nat → Int32) (p1 : Int32) (p2 : Int32) : Option (Int32) :=
  chk (inb p1 40) (nm ((f_first p1.toNatClampNeg)) fun x3_2 =>
  f_X0_directedAt_b10 N f_next f_first N p2 x3_2 0)
def f_X0_exists (N : Nat) (f_number : Int32) (p1 : Int32) : Option (Int32) :=
  if p1 < 0 then some 0
  else if f_number ≤ p1 then some 0
  else some 1
def f_X0_firstEdgeLeaving_b11 (N : Nat) (f_next : Nat → Int32) (f_first : Nat → Int32) (f_length : Nat → Int32) (g_low : Nat → Int32) (g_high : Nat → Int32) : Nat → Int32 → Int32 → Int32 → Int32 → Option (Int32)
  | 0 => fun _ _ _ _ => none
  | n + 1 => fun x2 x3 x4 x5 =>
  chk (inb x2 40) (if (f_length x2.toNatClampNeg) ≤ x5 then some (x4 / 2)
  else bd1 (f_X1_tailOf N g_low g_high x4) fun r_5 =>
  if r_5 = x3 then some (x4 / 2)
  else chk (inb x4 40) (nm ((f_next x4.toNatClampNeg)) fun x4_8 =>
  (f_X0_firstEdgeLeaving_b11 N f_next f_first f_length g_low g_high n) x2 x3 x4_8 (x5 + 1)))
def f_X0_firstEdgeLeaving (N : Nat) (f_next : Nat → Int32) (f_first : Nat → Int32) (f_length : Nat → Int32) (g_low : Nat → Int32) (g_high : Nat → Int32) (p2 : Int32) (p3 : Int32) : Option (Int32) :=
  chk (inb p2 40) (nm ((f_first p2.toNatClampNeg)) fun x4_2 =>
  f_X0_firstEdgeLeaving_b11 N f_next f_first f_length g_low g_high N p2 p3 x4_2 0)
def f_X0_holds (N : Nat) (f_nodeSet : Nat → Int32) (p1 : Int32) (p2 : Int32) : Option (Int32) :=
  chk (inb p1 40) (bd1 (f_X7_contains N (f_nodeSet p1.toNatClampNeg) p2) fun r_2 =>
  chk (isB r_2) (some r_2))
def f_X0_walkFrom_b107 (N : Nat) (f_next : Nat → Int32) (g_low : Nat → Int32) (g_high : Nat → Int32) (f_number : Int32) (f_owner : Nat → Int32) (f_first : Nat → Int32) (f_length : Nat → Int32) (f_nodeSet : Nat → Int32) : Option (Int32 × (Nat → Int32) × (Nat → Int32) × (Nat → Int32) × (Nat → Int32)) :=
  some ((f_number + 1), f_owner, f_first, f_length, f_nodeSet)
def f_X0_walkFrom_b35 (N : Nat) (f_next : Nat → Int32) (g_low : Nat → Int32) (g_high : Nat → Int32) : Nat → Int32 → Int32 → Int32 → (Nat → Int32) → (Nat → Int32) → (Nat → Int32) → (Nat → Int32) → Option (Int32 × (Nat → Int32) × (Nat → Int32) × (Nat → Int32) × (Nat → Int32))
  | 0 => fun _ _ _ _ _ _ _ => none
  | n + 1 => fun x3 x4 f_number f_owner f_first f_length f_nodeSet =>
  if 40 ≤ x4 then f_X0_walkFrom_b107 N f_next g_low g_high f_number f_owner f_first f_length f_nodeSet
  else chk (inb x3 40) (if 0 ≤ (f_owner x3.toNatClampNeg) then f_X0_walkFrom_b107 N f_next g_low g_high f_number f_owner f_first f_length f_nodeSet
  else chk (inb x3 40) (chk (inb f_number 40) (chk (inb f_number 40) (chk (inb f_number 40) (bd1 (f_X1_tailOf N g_low g_high x3) fun r_11 =>
  bd1 (f_X7_bit N r_11) fun r_12 =>
  chk (inb f_number 40) (chk (inb x3 40) (nm ((f_next x3.toNatClampNeg)) fun x3_15 =>
  (f_X0_walkFrom_b35 N f_next g_low g_high n) x3_15 (x4 + 1) f_number (upd f_owner x3.toNatClampNeg f_number) f_first (upd f_length f_number.toNatClampNeg ((f_length f_number.toNatClampNeg) + 1)) (upd f_nodeSet f_number.toNatClampNeg ((f_nodeSet f_number.toNatClampNeg) ||| r_12)))))))))
def f_X0_walkFrom (N : Nat) (f_number : Int32) (f_next : Nat → Int32) (f_owner : Nat → Int32) (f_first : Nat → Int32) (f_length : Nat → Int32) (f_nodeSet : Nat → Int32) (g_low : Nat → Int32) (g_high : Nat → Int32) (p2 : Int32) : Option (Int32 × (Nat → Int32) × (Nat → Int32) × (Nat → Int32) × (Nat → Int32)) :=
  chk (inb f_number 40) (chk (inb f_number 40) (chk (inb f_number 40) (f_X0_walkFrom_b35 N f_next g_low g_high N p2 0 f_number f_owner (upd f_first f_number.toNatClampNeg p2) (upd f_length f_number.toNatClampNeg 0) (upd f_nodeSet f_number.toNatClampNeg 0))))
def f_X0_trace_b75 (N : Nat) (g_nodes : Int32) (g_edges : Int32) (g_low : Nat → Int32) (g_high : Nat → Int32) (g_degree : Nat → Int32) (g_turns : Nat → Int32) (f_number : Int32) (f_components : Int32) (f_genus : Int32) (f_next : Nat → Int32) (f_owner : Nat → Int32) (f_first : Nat → Int32) (f_length : Nat → Int32) (f_nodeSet : Nat → Int32) (f_near : Nat → Int32) : Option (Int32 × Int32 × Int32 × (Nat → Int32) × (Nat → Int32) × (Nat → Int32) × (Nat → Int32) × (Nat → Int32) × (Nat → Int32)) :=
  bd1 (f_X1_fillLinks N g_edges g_low g_high f_near) fun r_8 =>
  bd1 (f_X0_countComponents N f_number f_components f_genus r_8 g_nodes g_edges) fun r_9 =>
  some (f_number, r_9.1, r_9.2, f_next, f_owner, f_first, f_length, f_nodeSet, r_8)
def f_X0_trace_b69 (N : Nat) (g_nodes : Int32) (g_edges : Int32) (g_low : Nat → Int32) (g_high : Nat → Int32) (g_degree : Nat → Int32) (g_turns : Nat → Int32) (k44 : Int32 → Int32 → Int32 → Int32 → (Nat → Int32) → (Nat → Int32) → (Nat → Int32) → (Nat → Int32) → (Nat → Int32) → (Nat → Int32) → Option (Int32 × Int32 × Int32 × (Nat → Int32) × (Nat → Int32) × (Nat → Int32) × (Nat → Int32) × (Nat → Int32) × (Nat → Int32))) (x2 : Int32) (f_number : Int32) (f_components : Int32) (f_genus : Int32) (f_next : Nat → Int32) (f_owner : Nat → Int32) (f_first : Nat → Int32) (f_length : Nat → Int32) (f_nodeSet : Nat → Int32) (f_near : Nat → Int32) : Option (Int32 × Int32 × Int32 × (Nat → Int32) × (Nat → Int32) × (Nat → Int32) × (Nat → Int32) × (Nat → Int32) × (Nat → Int32)) :=
  k44 (x2 + 1) f_number f_components f_genus f_next f_owner f_first f_length f_nodeSet f_near
def f_X0_trace_b44 (N : Nat) (g_nodes : Int32) (g_edges : Int32) (g_low : Nat → Int32) (g_high : Nat → Int32) (g_degree : Nat → Int32) (g_turns : Nat → Int32) : Nat → Int32 → Int32 → Int32 → Int32 → (Nat → Int32) → (Nat → Int32) → (Nat → Int32) → (Nat → Int32) → (Nat → Int32) → (Nat → Int32) → Option (Int32 × Int32 × Int32 × (Nat → Int32) × (Nat → Int32) × (Nat → Int32) × (Nat → Int32) × (Nat → Int32) × (Nat → Int32))
  | 0 => fun _ _ _ _ _ _ _ _ _ _ => none
  | n + 1 => fun x2 f_number f_components f_genus f_next f_owner f_first f_length f_nodeSet f_near =>
  if (2 * g_edges) ≤ x2 then f_X0_trace_b75 N g_nodes g_edges g_low g_high g_degree g_turns f_number f_components f_genus f_next f_owner f_first f_length f_nodeSet f_near
  else chk (inb x2 40) (if 0 ≤ (f_owner x2.toNatClampNeg) then f_X0_trace_b69 N g_nodes g_edges g_low g_high g_degree g_turns (f_X0_trace_b44 N g_nodes g_edges g_low g_high g_degree g_turns n) x2 f_number f_components f_genus f_next f_owner f_first f_length f_nodeSet f_near
  else bd1 (f_X0_walkFrom N f_number f_next f_owner f_first f_length f_nodeSet g_low g_high x2) fun r_7 =>
  f_X0_trace_b69 N g_nodes g_edges g_low g_high g_degree g_turns (f_X0_trace_b44 N g_nodes g_edges g_low g_high g_degree g_turns n) x2 r_7.1 f_components f_genus f_next r_7.2.1 r_7.2.2.1 r_7.2.2.2.1 r_7.2.2.2.2 f_near)
def f_X0_trace_b42 (N : Nat) (g_nodes : Int32) (g_edges : Int32) (g_low : Nat → Int32) (g_high : Nat → Int32) (g_degree : Nat → Int32) (g_turns : Nat → Int32) (f_number : Int32) (f_components : Int32) (f_genus : Int32) (f_next : Nat → Int32) (f_owner : Nat → Int32) (f_first : Nat → Int32) (f_length : Nat → Int32) (f_nodeSet : Nat → Int32) (f_near : Nat → Int32) : Option (Int32 × Int32 × Int32 × (Nat → Int32) × (Nat → Int32) × (Nat → Int32) × (Nat → Int32) × (Nat → Int32) × (Nat → Int32)) :=
  f_X0_trace_b44 N g_nodes g_edges g_low g_high g_degree g_turns N 0 f_number f_components f_genus f_next f_owner f_first f_length f_nodeSet f_near
def f_X0_trace_b15 (N : Nat) (g_nodes : Int32) (g_edges : Int32) (g_low : Nat → Int32) (g_high : Nat → Int32) (g_degree : Nat → Int32) (g_turns : Nat → Int32) : Nat → Int32 → Int32 → Int32 → Int32 → (Nat → Int32) → (Nat → Int32) → (Nat → Int32) → (Nat → Int32) → (Nat → Int32) → (Nat → Int32) → Option (Int32 × Int32 × Int32 × (Nat → Int32) × (Nat → Int32) × (Nat → Int32) × (Nat → Int32) × (Nat → Int32) × (Nat → Int32))
  | 0 => fun _ _ _ _ _ _ _ _ _ _ => none
  | n + 1 => fun x2 f_number f_components f_genus f_next f_owner f_first f_length f_nodeSet f_near =>
  if (2 * g_edges) ≤ x2 then f_X0_trace_b42 N g_nodes g_edges g_low g_high g_degree g_turns f_number f_components f_genus f_next f_owner f_first f_length f_nodeSet f_near
  else bd1 (f_X1_following N g_low g_high g_degree g_turns x2) fun r_2 =>
  chk (inb x2 40) ((f_X0_trace_b15 N g_nodes g_edges g_low g_high g_degree g_turns n) (x2 + 1) f_number f_components f_genus (upd f_next x2.toNatClampNeg r_2) f_owner f_first f_length f_nodeSet f_near)
def f_X0_trace (N : Nat) (f_number : Int32) (f_components : Int32) (f_genus : Int32) (f_next : Nat → Int32) (f_owner : Nat → Int32) (f_first : Nat → Int32) (f_length : Nat → Int32) (f_nodeSet : Nat → Int32) (f_near : Nat → Int32) (g_nodes : Int32) (g_edges : Int32) (g_low : Nat → Int32) (g_high : Nat → Int32) (g_degree : Nat → Int32) (g_turns : Nat → Int32) : Option (Int32 × Int32 × Int32 × (Nat → Int32) × (Nat → Int32) × (Nat → Int32) × (Nat → Int32) × (Nat → Int32) × (Nat → Int32)) :=
  f_X0_trace_b15 N g_nodes g_edges g_low g_high g_degree g_turns N 0 0 f_components f_genus f_next (filled 40 (-1 : Int32) f_owner) f_first f_length f_nodeSet f_near
def f_X0_widen_b32 (N : Nat) (f_number : Int32) (f_nodeSet : Nat → Int32) (k4 : Int32 → Int32 → Int32 → Option (Int32)) (x1 : Int32) (x2 : Int32) (x3 : Int32) : Option (Int32) :=
  k4 x1 x2 (x3 + 1)
def f_X0_widen_b4 (N : Nat) (f_number : Int32) (f_nodeSet : Nat → Int32) : Nat → Int32 → Int32 → Int32 → Option (Int32)
  | 0 => fun _ _ _ => none
  | n + 1 => fun x1 x2 x3 =>
  if f_number ≤ x3 then some x2
  else chk (inb x3 40) (if ((f_nodeSet x3.toNatClampNeg) &&& x1) = 0 then f_X0_widen_b32 N f_number f_nodeSet (f_X0_widen_b4 N f_number f_nodeSet n) x1 x2 x3
  else chk (inb x3 40) (nm ((x2 ||| (f_nodeSet x3.toNatClampNeg))) fun x2_5 =>
  f_X0_widen_b32 N f_number f_nodeSet (f_X0_widen_b4 N f_number f_nodeSet n) x1 x2_5 x3))
def f_X0_widen (N : Nat) (f_number : Int32) (f_nodeSet : Nat → Int32) (p1 : Int32) : Option (Int32) :=
  f_X0_widen_b4 N f_number f_nodeSet N p1 p1 0
