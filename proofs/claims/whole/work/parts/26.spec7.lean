def f_X7_areTwoNodes (N : Nat) (g_nodes : Int32) (p1 : Int32) (p2 : Int32) : Option (Int32) :=
  bd1 (f_X1_hasNode N g_nodes p1) fun r_1 =>
  if r_1 = 0 then some 0
  else bd1 (f_X1_hasNode N g_nodes p2) fun r_3 =>
  if r_3 = 0 then some 0
  else if p1 = p2 then some 0
  else some 1
def f_X7_mayStandBehind_b17 (N : Nat) (g_edges : Int32) (g_low : Nat → Int32) (g_high : Nat → Int32) : Option (Int32) :=
  some 1
def f_X7_mayStandBehind (N : Nat) (g_edges : Int32) (g_low : Nat → Int32) (g_high : Nat → Int32) (p1 : Int32) (p2 : Int32) : Option (Int32) :=
  if p2 = (-1) then f_X7_mayStandBehind_b17 N g_edges g_low g_high 
  else bd1 (f_X1_isEnd N g_edges g_low g_high p2 p1) fun r_2 =>
  if r_2 = 0 then some 0
  else f_X7_mayStandBehind_b17 N g_edges g_low g_high 
def f_X7_settle (N : Nat) (f_number : Int32) (f_components : Int32) (f_genus : Int32) (f_next : Nat → Int32) (f_owner : Nat → Int32) (f_first : Nat → Int32) (f_length : Nat → Int32) (f_nodeSet : Nat → Int32) (f_near : Nat → Int32) (g_nodes : Int32) (g_edges : Int32) (g_outer : Int32) (g_low : Nat → Int32) (g_high : Nat → Int32) (g_degree : Nat → Int32) (g_turns : Nat → Int32) : Option (Int32 × Int32 × Int32 × (Nat → Int32) × (Nat → Int32) × (Nat → Int32) × (Nat → Int32) × (Nat → Int32) × (Nat → Int32) × Int32) :=
  bd1 (f_X0_trace N f_number f_components f_genus f_next f_owner f_first f_length f_nodeSet f_near g_nodes g_edges g_low g_high g_degree g_turns) fun r_1 =>
  some (r_1.1, r_1.2.1, r_1.2.2.1, r_1.2.2.2.1, r_1.2.2.2.2.1, r_1.2.2.2.2.2.1, r_1.2.2.2.2.2.2.1, r_1.2.2.2.2.2.2.2.1, r_1.2.2.2.2.2.2.2.2, 0)
def f_X7_join (N : Nat) (f_number : Int32) (f_components : Int32) (f_genus : Int32) (f_next : Nat → Int32) (f_owner : Nat → Int32) (f_first : Nat → Int32) (f_length : Nat → Int32) (f_nodeSet : Nat → Int32) (f_near : Nat → Int32) (g_nodes : Int32) (g_edges : Int32) (g_outer : Int32) (g_low : Nat → Int32) (g_high : Nat → Int32) (g_degree : Nat → Int32) (g_turns : Nat → Int32) (hi_saved : Int32) (hi_nodes : Nat → Int32) (hi_edges : Nat → Int32) (hi_outer : Nat → Int32) (hi_low : Nat → Nat → Int32) (hi_high : Nat → Nat → Int32) (hi_degree : Nat → Nat → Int32) (hi_turns : Nat → Nat → Int32) (p1 : Int32) (p2 : Int32) (p3 : Int32) (p4 : Int32) : Option (Int32 × Int32 × Int32 × Int32 × (Nat → Int32) × (Nat → Int32) × (Nat → Int32) × (Nat → Int32) × (Nat → Int32) × (Nat → Int32) × Int32 × Int32 × (Nat → Int32) × (Nat → Int32) × (Nat → Int32) × (Nat → Int32) × Int32 × (Nat → Int32) × (Nat → Int32) × (Nat → Int32) × (Nat → Nat → Int32) × (Nat → Nat → Int32) × (Nat → Nat → Int32) × (Nat → Nat → Int32)) :=
  if g_edges < 20 then bd1 (f_X2_save N hi_saved hi_nodes hi_edges hi_outer hi_low hi_high hi_degree hi_turns g_nodes g_edges g_outer g_low g_high g_degree g_turns) fun r_2 =>
  bd1 (f_X1_connect N g_edges g_low g_high g_degree g_turns p1 p2 p3 p4) fun r_4 =>
  nm (r_4.1) fun x5_6 =>
  bd1 (f_X7_settle N f_number f_components f_genus f_next f_owner f_first f_length f_nodeSet f_near g_nodes r_4.2.1 g_outer r_4.2.2.1 r_4.2.2.2.1 r_4.2.2.2.2.1 r_4.2.2.2.2.2) fun r_7 =>
  some (x5_6, r_7.1, r_7.2.1, r_7.2.2.1, r_7.2.2.2.1, r_7.2.2.2.2.1, r_7.2.2.2.2.2.1, r_7.2.2.2.2.2.2.1, r_7.2.2.2.2.2.2.2.1, r_7.2.2.2.2.2.2.2.2.1, r_4.2.1, r_7.2.2.2.2.2.2.2.2.2, r_4.2.2.1, r_4.2.2.2.1, r_4.2.2.2.2.1, r_4.2.2.2.2.2, r_2.1, r_2.2.1, r_2.2.2.1, r_2.2.2.2.1, r_2.2.2.2.2.1, r_2.2.2.2.2.2.1, r_2.2.2.2.2.2.2.1, r_2.2.2.2.2.2.2.2)
  else some ((-3), f_number, f_components, f_genus, f_next, f_owner, f_first, f_length, f_nodeSet, f_near, g_edges, g_outer, g_low, g_high, g_degree, g_turns, hi_saved, hi_nodes, hi_edges, hi_outer, hi_low, hi_high, hi_degree, hi_turns)
def f_X7_addEdge (N : Nat) (f_number : Int32) (f_components : Int32) (f_genus : Int32) (f_next : Nat → Int32) (f_owner : Nat → Int32) (f_first : Nat → Int32) (f_length : Nat → Int32) (f_nodeSet : Nat → Int32) (f_near : Nat → Int32) (g_nodes : Int32) (g_edges : Int32) (g_outer : Int32) (g_low : Nat → Int32) (g_high : Nat → Int32) (g_degree : Nat → Int32) (g_turns : Nat → Int32) (hi_saved : Int32) (hi_nodes : Nat → Int32) (hi_edges : Nat → Int32) (hi_outer : Nat → Int32) (hi_low : Nat → Nat → Int32) (hi_high : Nat → Nat → Int32) (hi_degree : Nat → Nat → Int32) (hi_turns : Nat → Nat → Int32) (p1 : Int32) (p2 : Int32) (p3 : Int32) (p4 : Int32) : Option (Int32 × Int32 × Int32 × Int32 × (Nat → Int32) × (Nat → Int32) × (Nat → Int32) × (Nat → Int32) × (Nat → Int32) × (Nat → Int32) × Int32 × Int32 × (Nat → Int32) × (Nat → Int32) × (Nat → Int32) × (Nat → Int32) × Int32 × (Nat → Int32) × (Nat → Int32) × (Nat → Int32) × (Nat → Nat → Int32) × (Nat → Nat → Int32) × (Nat → Nat → Int32) × (Nat → Nat → Int32)) :=
  bd1 (f_X7_areTwoNodes N g_nodes p1 p2) fun r_1 =>
  if r_1 = 0 then some ((-1), f_number, f_components, f_genus, f_next, f_owner, f_first, f_length, f_nodeSet, f_near, g_edges, g_outer, g_low, g_high, g_degree, g_turns, hi_saved, hi_nodes, hi_edges, hi_outer, hi_low, hi_high, hi_degree, hi_turns)
  else bd1 (f_X7_mayStandBehind N g_edges g_low g_high p1 p3) fun r_3 =>
  if r_3 = 0 then some ((-1), f_number, f_components, f_genus, f_next, f_owner, f_first, f_length, f_nodeSet, f_near, g_edges, g_outer, g_low, g_high, g_degree, g_turns, hi_saved, hi_nodes, hi_edges, hi_outer, hi_low, hi_high, hi_degree, hi_turns)
  else bd1 (f_X7_mayStandBehind N g_edges g_low g_high p2 p4) fun r_5 =>
  if ¬ r_5 = 0 then bd1 (f_X1_areJoined N g_edges g_low g_high p1 p2) fun r_7 =>
  if r_7 = 0 then bd1 (f_X1_slotOf N g_degree g_turns p1 p3) fun r_9 =>
  bd1 (f_X1_slotOf N g_degree g_turns p2 p4) fun r_10 =>
  bd1 (f_X7_join N f_number f_components f_genus f_next f_owner f_first f_length f_nodeSet f_near g_nodes g_edges g_outer g_low g_high g_degree g_turns hi_saved hi_nodes hi_edges hi_outer hi_low hi_high hi_degree hi_turns p1 p2 (r_9 + 1) (r_10 + 1)) fun r_11 =>
  some (r_11.1, r_11.2.1, r_11.2.2.1, r_11.2.2.2.1, r_11.2.2.2.2.1, r_11.2.2.2.2.2.1, r_11.2.2.2.2.2.2.1, r_11.2.2.2.2.2.2.2.1, r_11.2.2.2.2.2.2.2.2.1, r_11.2.2.2.2.2.2.2.2.2.1, r_11.2.2.2.2.2.2.2.2.2.2.1, r_11.2.2.2.2.2.2.2.2.2.2.2.1, r_11.2.2.2.2.2.2.2.2.2.2.2.2.1, r_11.2.2.2.2.2.2.2.2.2.2.2.2.2.1, r_11.2.2.2.2.2.2.2.2.2.2.2.2.2.2.1, r_11.2.2.2.2.2.2.2.2.2.2.2.2.2.2.2.1, r_11.2.2.2.2.2.2.2.2.2.2.2.2.2.2.2.2.1, r_11.2.2.2.2.2.2.2.2.2.2.2.2.2.2.2.2.2.1, r_11.2.2.2.2.2.2.2.2.2.2.2.2.2.2.2.2.2.2.1, r_11.2.2.2.2.2.2.2.2.2.2.2.2.2.2.2.2.2.2.2.1, r_11.2.2.2.2.2.2.2.2.2.2.2.2.2.2.2.2.2.2.2.2.1, r_11.2.2.2.2.2.2.2.2.2.2.2.2.2.2.2.2.2.2.2.2.2.1, r_11.2.2.2.2.2.2.2.2.2.2.2.2.2.2.2.2.2.2.2.2.2.2.1, r_11.2.2.2.2.2.2.2.2.2.2.2.2.2.2.2.2.2.2.2.2.2.2.2)
  else some ((-2), f_number, f_components, f_genus, f_next, f_owner, f_first, f_length, f_nodeSet, f_near, g_edges, g_outer, g_low, g_high, g_degree, g_turns, hi_saved, hi_nodes, hi_edges, hi_outer, hi_low, hi_high, hi_degree, hi_turns)
  else some ((-1), f_number, f_components, f_genus, f_next, f_owner, f_first, f_length, f_nodeSet, f_near, g_edges, g_outer, g_low, g_high, g_degree, g_turns, hi_saved, hi_nodes, hi_edges, hi_outer, hi_low, hi_high, hi_degree, hi_turns)
def f_X7_addInFace (N : Nat) (f_number : Int32) (f_components : Int32) (f_genus : Int32) (f_next : Nat → Int32) (f_owner : Nat → Int32) (f_first : Nat → Int32) (f_length : Nat → Int32) (f_nodeSet : Nat → Int32) (f_near : Nat → Int32) (g_nodes : Int32) (g_edges : Int32) (g_outer : Int32) (g_low : Nat → Int32) (g_high : Nat → Int32) (g_degree : Nat → Int32) (g_turns : Nat → Int32) (hi_saved : Int32) (hi_nodes : Nat → Int32) (hi_edges : Nat → Int32) (hi_outer : Nat → Int32) (hi_low : Nat → Nat → Int32) (hi_high : Nat → Nat → Int32) (hi_degree : Nat → Nat → Int32) (hi_turns : Nat → Nat → Int32) (p1 : Int32) (p2 : Int32) (p3 : Int32) : Option (Int32 × Int32 × Int32 × Int32 × (Nat → Int32) × (Nat → Int32) × (Nat → Int32) × (Nat → Int32) × (Nat → Int32) × (Nat → Int32) × Int32 × Int32 × (Nat → Int32) × (Nat → Int32) × (Nat → Int32) × (Nat → Int32) × Int32 × (Nat → Int32) × (Nat → Int32) × (Nat → Int32) × (Nat → Nat → Int32) × (Nat → Nat → Int32) × (Nat → Nat → Int32) × (Nat → Nat → Int32)) :=
  bd1 (f_X7_areTwoNodes N g_nodes p1 p2) fun r_1 =>
  if r_1 = 0 then some ((-1), f_number, f_components, f_genus, f_next, f_owner, f_first, f_length, f_nodeSet, f_near, g_edges, g_outer, g_low, g_high, g_degree, g_turns, hi_saved, hi_nodes, hi_edges, hi_outer, hi_low, hi_high, hi_degree, hi_turns)
  else bd1 (f_X0_exists N f_number p3) fun r_3 =>
  if ¬ r_3 = 0 then bd1 (f_X1_areJoined N g_edges g_low g_high p1 p2) fun r_5 =>
  if ¬ r_5 = 0 then some ((-2), f_number, f_components, f_genus, f_next, f_owner, f_first, f_length, f_nodeSet, f_near, g_edges, g_outer, g_low, g_high, g_degree, g_turns, hi_saved, hi_nodes, hi_edges, hi_outer, hi_low, hi_high, hi_degree, hi_turns)
  else bd1 (f_X0_holds N f_nodeSet p3 p1) fun r_7 =>
  if r_7 = 0 then some ((-2), f_number, f_components, f_genus, f_next, f_owner, f_first, f_length, f_nodeSet, f_near, g_edges, g_outer, g_low, g_high, g_degree, g_turns, hi_saved, hi_nodes, hi_edges, hi_outer, hi_low, hi_high, hi_degree, hi_turns)
  else bd1 (f_X0_holds N f_nodeSet p3 p2) fun r_9 =>
  if ¬ r_9 = 0 then bd1 (f_X0_firstEdgeLeaving N f_next f_first f_length g_low g_high p3 p1) fun r_11 =>
  bd1 (f_X1_slotOf N g_degree g_turns p1 r_11) fun r_12 =>
  bd1 (f_X0_firstEdgeLeaving N f_next f_first f_length g_low g_high p3 p2) fun r_13 =>
  bd1 (f_X1_slotOf N g_degree g_turns p2 r_13) fun r_14 =>
  bd1 (f_X7_join N f_number f_components f_genus f_next f_owner f_first f_length f_nodeSet f_near g_nodes g_edges g_outer g_low g_high g_degree g_turns hi_saved hi_nodes hi_edges hi_outer hi_low hi_high hi_degree hi_turns p1 p2 r_12 r_14) fun r_15 =>
  some (r_15.1, r_15.2.1, r_15.2.2.1, r_15.2.2.2.1, r_15.2.2.2.2.1, r_15.2.2.2.2.2.1, r_15.2.2.2.2.2.2.1, r_15.2.2.2.2.2.2.2.1, r_15.2.2.2.2.2.2.2.2.1, r_15.2.2.2.2.2.2.2.2.2.1, r_15.2.2.2.2.2.2.2.2.2.2.1, r_15.2.2.2.2.2.2.2.2.2.2.2.1, r_15.2.2.2.2.2.2.2.2.2.2.2.2.1, r_15.2.2.2.2.2.2.2.2.2.2.2.2.2.1, r_15.2.2.2.2.2.2.2.2.2.2.2.2.2.2.1, r_15.2.2.2.2.2.2.2.2.2.2.2.2.2.2.2.1, r_15.2.2.2.2.2.2.2.2.2.2.2.2.2.2.2.2.1, r_15.2.2.2.2.2.2.2.2.2.2.2.2.2.2.2.2.2.1, r_15.2.2.2.2.2.2.2.2.2.2.2.2.2.2.2.2.2.2.1, r_15.2.2.2.2.2.2.2.2.2.2.2.2.2.2.2.2.2.2.2.1, r_15.2.2.2.2.2.2.2.2.2.2.2.2.2.2.2.2.2.2.2.2.1, r_15.2.2.2.2.2.2.2.2.2.2.2.2.2.2.2.2.2.2.2.2.2.1, r_15.2.2.2.2.2.2.2.2.2.2.2.2.2.2.2.2.2.2.2.2.2.2.1, r_15.2.2.2.2.2.2.2.2.2.2.2.2.2.2.2.2.2.2.2.2.2.2.2)
  else some ((-2), f_number, f_components, f_genus, f_next, f_owner, f_first, f_length, f_nodeSet, f_near, g_edges, g_outer, g_low, g_high, g_degree, g_turns, hi_saved, hi_nodes, hi_edges, hi_outer, hi_low, hi_high, hi_degree, hi_turns)
  else some ((-1), f_number, f_components, f_genus, f_next, f_owner, f_first, f_length, f_nodeSet, f_near, g_edges, g_outer, g_low, g_high, g_degree, g_turns, hi_saved, hi_nodes, hi_edges, hi_outer, hi_low, hi_high, hi_degree, hi_turns)
def f_X7_appendCharacter (N : Nat) (tx_length : Int32) (tx_characters : Nat → Int32) (p1 : Int32) : Option (Int32 × Int32 × (Nat → Int32)) :=
  if p1 < 0 then some ((-1), tx_length, tx_characters)
  else if p1 ≤ 255 then if tx_length < 100 then bd1 (f_X5_add N tx_length tx_characters p1) fun r_4 =>
  some (r_4.1, r_4.1, r_4.2)
  else some ((-3), tx_length, tx_characters)
  else some ((-1), tx_length, tx_characters)
def f_X7_findObstruction_b113 (N : Nat) (g_edges : Int32) (g_low : Nat → Int32) (g_high : Nat → Int32) (k31 : Int32 → Int32 → (Nat → Int32) → (Nat → Int32) → (Nat → Int32) → Int32 → Int32 → (Nat → Int32) → (Nat → Int32) → (Nat → Int32) → (Nat → Int32) → (Nat → Int32) → Int32 → (Nat → Int32) → (Nat → Int32) → Int32 → Int32 → Int32 → Int32 → Option (Int32 × (Nat → Int32) × (Nat → Int32) × (Nat → Int32) × Int32 × Int32 × (Nat → Int32) × (Nat → Int32) × (Nat → Int32) × (Nat → Int32) × (Nat → Int32) × Int32 × (Nat → Int32) × (Nat → Int32) × Int32 × Int32 × Int32 × Int32)) (x1 : Int32) (x2 : Int32) (lk_a : Nat → Int32) (pl_rest : Nat → Int32) (pl_sketch : Nat → Int32) (pl_placed : Int32) (pl_rings : Int32) (pl_ringNodes : Nat → Int32) (pl_ringLength : Nat → Int32) (pl_ringSet : Nat → Int32) (pl_oldRing : Nat → Int32) (pl_path : Nat → Int32) (pl_pathLength : Int32) (pl_queue : Nat → Int32) (pl_origin : Nat → Int32) (pl_inside : Int32) (pl_ends : Int32) (pl_ring : Int32) (pl_choices : Int32) : Option (Int32 × (Nat → Int32) × (Nat → Int32) × (Nat → Int32) × Int32 × Int32 × (Nat → Int32) × (Nat → Int32) × (Nat → Int32) × (Nat → Int32) × (Nat → Int32) × Int32 × (Nat → Int32) × (Nat → Int32) × Int32 × Int32 × Int32 × Int32) :=
  k31 x1 (x2 + 1) lk_a pl_rest pl_sketch pl_placed pl_rings pl_ringNodes pl_ringLength pl_ringSet pl_oldRing pl_path pl_pathLength pl_queue pl_origin pl_inside pl_ends pl_ring pl_choices
def f_X7_findObstruction_b31 (N : Nat) (g_edges : Int32) (g_low : Nat → Int32) (g_high : Nat → Int32) : Nat → Int32 → Int32 → (Nat → Int32) → (Nat → Int32) → (Nat → Int32) → Int32 → Int32 → (Nat → Int32) → (Nat → Int32) → (Nat → Int32) → (Nat → Int32) → (Nat → Int32) → Int32 → (Nat → Int32) → (Nat → Int32) → Int32 → Int32 → Int32 → Int32 → Option (Int32 × (Nat → Int32) × (Nat → Int32) × (Nat → Int32) × Int32 × Int32 × (Nat → Int32) × (Nat → Int32) × (Nat → Int32) × (Nat → Int32) × (Nat → Int32) × Int32 × (Nat → Int32) × (Nat → Int32) × Int32 × Int32 × Int32 × Int32)
  | 0 => fun _ _ _ _ _ _ _ _ _ _ _ _ _ _ _ _ _ _ _ => none
  | n + 1 => fun x1 x2 lk_a pl_rest pl_sketch pl_placed pl_rings pl_ringNodes pl_ringLength pl_ringSet pl_oldRing pl_path pl_pathLength pl_queue pl_origin pl_inside pl_ends pl_ring pl_choices =>
  if g_edges ≤ x2 then some (x1, lk_a, pl_rest, pl_sketch, pl_placed, pl_rings, pl_ringNodes, pl_ringLength, pl_ringSet, pl_oldRing, pl_path, pl_pathLength, pl_queue, pl_origin, pl_inside, pl_ends, pl_ring, pl_choices)
  else chk (inb x2 20) (chk (inb x2 20) (bd1 (f_X7_toggleLink N lk_a (g_low x2.toNatClampNeg) (g_high x2.toNatClampNeg)) fun r_9 =>
  bd1 (f_X4_accepts N r_9 pl_rest pl_sketch pl_placed pl_rings pl_ringNodes pl_ringLength pl_ringSet pl_oldRing pl_path pl_pathLength pl_queue pl_origin pl_inside pl_ends pl_ring pl_choices) fun r_11 =>
  if r_11.1 = 0 then f_X7_findObstruction_b113 N g_edges g_low g_high (f_X7_findObstruction_b31 N g_edges g_low g_high n) x1 x2 r_9 r_11.2.1 r_11.2.2.1 r_11.2.2.2.1 r_11.2.2.2.2.1 r_11.2.2.2.2.2.1 r_11.2.2.2.2.2.2.1 r_11.2.2.2.2.2.2.2.1 r_11.2.2.2.2.2.2.2.2.1 r_11.2.2.2.2.2.2.2.2.2.1 r_11.2.2.2.2.2.2.2.2.2.2.1 r_11.2.2.2.2.2.2.2.2.2.2.2.1 r_11.2.2.2.2.2.2.2.2.2.2.2.2.1 r_11.2.2.2.2.2.2.2.2.2.2.2.2.2.1 r_11.2.2.2.2.2.2.2.2.2.2.2.2.2.2.1 r_11.2.2.2.2.2.2.2.2.2.2.2.2.2.2.2.1 r_11.2.2.2.2.2.2.2.2.2.2.2.2.2.2.2.2
  else chk (inb x2 20) (chk (inb x2 20) (bd1 (f_X7_toggleLink N r_9 (g_low x2.toNatClampNeg) (g_high x2.toNatClampNeg)) fun r_16 =>
  bd1 (f_X7_bit N x2) fun r_18 =>
  nm ((x1 ||| r_18)) fun x1_19 =>
  f_X7_findObstruction_b113 N g_edges g_low g_high (f_X7_findObstruction_b31 N g_edges g_low g_high n) x1_19 x2 r_16 r_11.2.1 r_11.2.2.1 r_11.2.2.2.1 r_11.2.2.2.2.1 r_11.2.2.2.2.2.1 r_11.2.2.2.2.2.2.1 r_11.2.2.2.2.2.2.2.1 r_11.2.2.2.2.2.2.2.2.1 r_11.2.2.2.2.2.2.2.2.2.1 r_11.2.2.2.2.2.2.2.2.2.2.1 r_11.2.2.2.2.2.2.2.2.2.2.2.1 r_11.2.2.2.2.2.2.2.2.2.2.2.2.1 r_11.2.2.2.2.2.2.2.2.2.2.2.2.2.1 r_11.2.2.2.2.2.2.2.2.2.2.2.2.2.2.1 r_11.2.2.2.2.2.2.2.2.2.2.2.2.2.2.2.1 r_11.2.2.2.2.2.2.2.2.2.2.2.2.2.2.2.2))))
def f_X7_findObstruction (N : Nat) (g_edges : Int32) (g_low : Nat → Int32) (g_high : Nat → Int32) (lk_a : Nat → Int32) (pl_rest : Nat → Int32) (pl_sketch : Nat → Int32) (pl_placed : Int32) (pl_rings : Int32) (pl_ringNodes : Nat → Int32) (pl_ringLength : Nat → Int32) (pl_ringSet : Nat → Int32) (pl_oldRing : Nat → Int32) (pl_path : Nat → Int32) (pl_pathLength : Int32) (pl_queue : Nat → Int32) (pl_origin : Nat → Int32) (pl_inside : Int32) (pl_ends : Int32) (pl_ring : Int32) (pl_choices : Int32) : Option (Int32 × (Nat → Int32) × (Nat → Int32) × (Nat → Int32) × Int32 × Int32 × (Nat → Int32) × (Nat → Int32) × (Nat → Int32) × (Nat → Int32) × (Nat → Int32) × Int32 × (Nat → Int32) × (Nat → Int32) × Int32 × Int32 × Int32 × Int32) :=
  bd1 (f_X1_fillLinks N g_edges g_low g_high lk_a) fun r_1 =>
  bd1 (f_X4_accepts N r_1 pl_rest pl_sketch pl_placed pl_rings pl_ringNodes pl_ringLength pl_ringSet pl_oldRing pl_path pl_pathLength pl_queue pl_origin pl_inside pl_ends pl_ring pl_choices) fun r_3 =>
  if r_3.1 = 0 then f_X7_findObstruction_b31 N g_edges g_low g_high N 0 0 r_1 r_3.2.1 r_3.2.2.1 r_3.2.2.2.1 r_3.2.2.2.2.1 r_3.2.2.2.2.2.1 r_3.2.2.2.2.2.2.1 r_3.2.2.2.2.2.2.2.1 r_3.2.2.2.2.2.2.2.2.1 r_3.2.2.2.2.2.2.2.2.2.1 r_3.2.2.2.2.2.2.2.2.2.2.1 r_3.2.2.2.2.2.2.2.2.2.2.2.1 r_3.2.2.2.2.2.2.2.2.2.2.2.2.1 r_3.2.2.2.2.2.2.2.2.2.2.2.2.2.1 r_3.2.2.2.2.2.2.2.2.2.2.2.2.2.2.1 r_3.2.2.2.2.2.2.2.2.2.2.2.2.2.2.2.1 r_3.2.2.2.2.2.2.2.2.2.2.2.2.2.2.2.2
  else some (0, r_1, r_3.2.1, r_3.2.2.1, r_3.2.2.2.1, r_3.2.2.2.2.1, r_3.2.2.2.2.2.1, r_3.2.2.2.2.2.2.1, r_3.2.2.2.2.2.2.2.1, r_3.2.2.2.2.2.2.2.2.1, r_3.2.2.2.2.2.2.2.2.2.1, r_3.2.2.2.2.2.2.2.2.2.2.1, r_3.2.2.2.2.2.2.2.2.2.2.2.1, r_3.2.2.2.2.2.2.2.2.2.2.2.2.1, r_3.2.2.2.2.2.2.2.2.2.2.2.2.2.1, r_3.2.2.2.2.2.2.2.2.2.2.2.2.2.2.1, r_3.2.2.2.2.2.2.2.2.2.2.2.2.2.2.2.1, r_3.2.2.2.2.2.2.2.2.2.2.2.2.2.2.2.2)
def f_X7_countEdgesAt_b39 (N : Nat) (g_degree : Nat → Int32) (g_turns : Nat → Int32) (k5 : Int32 → Int32 → Int32 → Int32 → Option (Int32)) (x1 : Int32) (x2 : Int32) (x3 : Int32) (x4 : Int32) : Option (Int32) :=
  k5 x1 x2 x3 (x4 + 1)
def f_X7_countEdgesAt_b5 (N : Nat) (g_degree : Nat → Int32) (g_turns : Nat → Int32) : Nat → Int32 → Int32 → Int32 → Int32 → Option (Int32)
  | 0 => fun _ _ _ _ => none
  | n + 1 => fun x1 x2 x3 x4 =>
  chk (inb x1 9) (if (g_degree x1.toNatClampNeg) ≤ x4 then some x3
  else bd1 (f_X1_edgeAt N g_turns x1 x4) fun r_3 =>
  bd1 (f_X7_contains N x2 r_3) fun r_4 =>
  if r_4 = 0 then f_X7_countEdgesAt_b39 N g_degree g_turns (f_X7_countEdgesAt_b5 N g_degree g_turns n) x1 x2 x3 x4
  else f_X7_countEdgesAt_b39 N g_degree g_turns (f_X7_countEdgesAt_b5 N g_degree g_turns n) x1 x2 (x3 + 1) x4)
def f_X7_countEdgesAt (N : Nat) (g_degree : Nat → Int32) (g_turns : Nat → Int32) (p1 : Int32) (p2 : Int32) : Option (Int32) :=
  f_X7_countEdgesAt_b5 N g_degree g_turns N p1 p2 0 0
def f_X7_branching_b37 (N : Nat) (g_nodes : Int32) (g_edges : Int32) (g_low : Nat → Int32) (g_high : Nat → Int32) (g_degree : Nat → Int32) (g_turns : Nat → Int32) (k9 : Int32 → Int32 → Int32 → (Nat → Int32) → (Nat → Int32) → (Nat → Int32) → Int32 → Int32 → (Nat → Int32) → (Nat → Int32) → (Nat → Int32) → (Nat → Int32) → (Nat → Int32) → Int32 → (Nat → Int32) → (Nat → Int32) → Int32 → Int32 → Int32 → Int32 → Option (Int32 × (Nat → Int32) × (Nat → Int32) × (Nat → Int32) × Int32 × Int32 × (Nat → Int32) × (Nat → Int32) × (Nat → Int32) × (Nat → Int32) × (Nat → Int32) × Int32 × (Nat → Int32) × (Nat → Int32) × Int32 × Int32 × Int32 × Int32)) (x1 : Int32) (x2 : Int32) (x3 : Int32) (lk_a : Nat → Int32) (pl_rest : Nat → Int32) (pl_sketch : Nat → Int32) (pl_placed : Int32) (pl_rings : Int32) (pl_ringNodes : Nat → Int32) (pl_ringLength : Nat → Int32) (pl_ringSet : Nat → Int32) (pl_oldRing : Nat → Int32) (pl_path : Nat → Int32) (pl_pathLength : Int32) (pl_queue : Nat → Int32) (pl_origin : Nat → Int32) (pl_inside : Int32) (pl_ends : Int32) (pl_ring : Int32) (pl_choices : Int32) : Option (Int32 × (Nat → Int32) × (Nat → Int32) × (Nat → Int32) × Int32 × Int32 × (Nat → Int32) × (Nat → Int32) × (Nat → Int32) × (Nat → Int32) × (Nat → Int32) × Int32 × (Nat → Int32) × (Nat → Int32) × Int32 × Int32 × Int32 × Int32) :=
  k9 x1 x2 (x3 + 1) lk_a pl_rest pl_sketch pl_placed pl_rings pl_ringNodes pl_ringLength pl_ringSet pl_oldRing pl_path pl_pathLength pl_queue pl_origin pl_inside pl_ends pl_ring pl_choices
def f_X7_branching_b9 (N : Nat) (g_nodes : Int32) (g_edges : Int32) (g_low : Nat → Int32) (g_high : Nat → Int32) (g_degree : Nat → Int32) (g_turns : Nat → Int32) : Nat → Int32 → Int32 → Int32 → (Nat → Int32) → (Nat → Int32) → (Nat → Int32) → Int32 → Int32 → (Nat → Int32) → (Nat → Int32) → (Nat → Int32) → (Nat → Int32) → (Nat → Int32) → Int32 → (Nat → Int32) → (Nat → Int32) → Int32 → Int32 → Int32 → Int32 → Option (Int32 × (Nat → Int32) × (Nat → Int32) × (Nat → Int32) × Int32 × Int32 × (Nat → Int32) × (Nat → Int32) × (Nat → Int32) × (Nat → Int32) × (Nat → Int32) × Int32 × (Nat → Int32) × (Nat → Int32) × Int32 × Int32 × Int32 × Int32)
  | 0 => fun _ _ _ _ _ _ _ _ _ _ _ _ _ _ _ _ _ _ _ _ => none
  | n + 1 => fun x1 x2 x3 lk_a pl_rest pl_sketch pl_placed pl_rings pl_ringNodes pl_ringLength pl_ringSet pl_oldRing pl_path pl_pathLength pl_queue pl_origin pl_inside pl_ends pl_ring pl_choices =>
  if g_nodes ≤ x3 then some (x2, lk_a, pl_rest, pl_sketch, pl_placed, pl_rings, pl_ringNodes, pl_ringLength, pl_ringSet, pl_oldRing, pl_path, pl_pathLength, pl_queue, pl_origin, pl_inside, pl_ends, pl_ring, pl_choices)
  else bd1 (f_X7_countEdgesAt N g_degree g_turns x3 x1) fun r_5 =>
  if r_5 < 3 then f_X7_branching_b37 N g_nodes g_edges g_low g_high g_degree g_turns (f_X7_branching_b9 N g_nodes g_edges g_low g_high g_degree g_turns n) x1 x2 x3 lk_a pl_rest pl_sketch pl_placed pl_rings pl_ringNodes pl_ringLength pl_ringSet pl_oldRing pl_path pl_pathLength pl_queue pl_origin pl_inside pl_ends pl_ring pl_choices
  else bd1 (f_X7_bit N x3) fun r_7 =>
  nm ((x2 ||| r_7)) fun x2_8 =>
  f_X7_branching_b37 N g_nodes g_edges g_low g_high g_degree g_turns (f_X7_branching_b9 N g_nodes g_edges g_low g_high g_degree g_turns n) x1 x2_8 x3 lk_a pl_rest pl_sketch pl_placed pl_rings pl_ringNodes pl_ringLength pl_ringSet pl_oldRing pl_path pl_pathLength pl_queue pl_origin pl_inside pl_ends pl_ring pl_choices
def f_X7_branching (N : Nat) (g_nodes : Int32) (g_edges : Int32) (g_low : Nat → Int32) (g_high : Nat → Int32) (g_degree : Nat → Int32) (g_turns : Nat → Int32) (lk_a : Nat → Int32) (pl_rest : Nat → Int32) (pl_sketch : Nat → Int32) (pl_placed : Int32) (pl_rings : Int32) (pl_ringNodes : Nat → Int32) (pl_ringLength : Nat → Int32) (pl_ringSet : Nat → Int32) (pl_oldRing : Nat → Int32) (pl_path : Nat → Int32) (pl_pathLength : Int32) (pl_queue : Nat → Int32) (pl_origin : Nat → Int32) (pl_inside : Int32) (pl_ends : Int32) (pl_ring : Int32) (pl_choices : Int32) : Option (Int32 × (Nat → Int32) × (Nat → Int32) × (Nat → Int32) × Int32 × Int32 × (Nat → Int32) × (Nat → Int32) × (Nat → Int32) × (Nat → Int32) × (Nat → Int32) × Int32 × (Nat → Int32) × (Nat → Int32) × Int32 × Int32 × Int32 × Int32) :=
  bd1 (f_X7_findObstruction N g_edges g_low g_high lk_a pl_rest pl_sketch pl_placed pl_rings pl_ringNodes pl_ringLength pl_ringSet pl_oldRing pl_path pl_pathLength pl_queue pl_origin pl_inside pl_ends pl_ring pl_choices) fun r_1 =>
  nm (r_1.1) fun x1_3 =>
  f_X7_branching_b9 N g_nodes g_edges g_low g_high g_degree g_turns N x1_3 0 0 r_1.2.1 r_1.2.2.1 r_1.2.2.2.1 r_1.2.2.2.2.1 r_1.2.2.2.2.2.1 r_1.2.2.2.2.2.2.1 r_1.2.2.2.2.2.2.2.1 r_1.2.2.2.2.2.2.2.2.1 r_1.2.2.2.2.2.2.2.2.2.1 r_1.2.2.2.2.2.2.2.2.2.2.1 r_1.2.2.2.2.2.2.2.2.2.2.2.1 r_1.2.2.2.2.2.2.2.2.2.2.2.2.1 r_1.2.2.2.2.2.2.2.2.2.2.2.2.2.1 r_1.2.2.2.2.2.2.2.2.2.2.2.2.2.2.1 r_1.2.2.2.2.2.2.2.2.2.2.2.2.2.2.2.1 r_1.2.2.2.2.2.2.2.2.2.2.2.2.2.2.2.2.1 r_1.2.2.2.2.2.2.2.2.2.2.2.2.2.2.2.2.2
def f_X7_canAdd (N : Nat) (g_nodes : Int32) (g_edges : Int32) (g_low : Nat → Int32) (g_high : Nat → Int32) (lk_a : Nat → Int32) (pl_rest : Nat → Int32) (pl_sketch : Nat → Int32) (pl_placed : Int32) (pl_rings : Int32) (pl_ringNodes : Nat → Int32) (pl_ringLength : Nat → Int32) (pl_ringSet : Nat → Int32) (pl_oldRing : Nat → Int32) (pl_path : Nat → Int32) (pl_pathLength : Int32) (pl_queue : Nat → Int32) (pl_origin : Nat → Int32) (pl_inside : Int32) (pl_ends : Int32) (pl_ring : Int32) (pl_choices : Int32) (p1 : Int32) (p2 : Int32) : Option (Int32 × (Nat → Int32) × (Nat → Int32) × (Nat → Int32) × Int32 × Int32 × (Nat → Int32) × (Nat → Int32) × (Nat → Int32) × (Nat → Int32) × (Nat → Int32) × Int32 × (Nat → Int32) × (Nat → Int32) × Int32 × Int32 × Int32 × Int32) :=
  bd1 (f_X7_areTwoNodes N g_nodes p1 p2) fun r_1 =>
  if ¬ r_1 = 0 then bd1 (f_X1_areJoined N g_edges g_low g_high p1 p2) fun r_3 =>
  if r_3 = 0 then bd1 (f_X1_fillLinks N g_edges g_low g_high lk_a) fun r_5 =>
  bd1 (f_X7_toggleLink N r_5 p1 p2) fun r_7 =>
  bd1 (f_X4_accepts N r_7 pl_rest pl_sketch pl_placed pl_rings pl_ringNodes pl_ringLength pl_ringSet pl_oldRing pl_path pl_pathLength pl_queue pl_origin pl_inside pl_ends pl_ring pl_choices) fun r_9 =>
  if r_9.1 = 0 then some (0, r_7, r_9.2.1, r_9.2.2.1, r_9.2.2.2.1, r_9.2.2.2.2.1, r_9.2.2.2.2.2.1, r_9.2.2.2.2.2.2.1, r_9.2.2.2.2.2.2.2.1, r_9.2.2.2.2.2.2.2.2.1, r_9.2.2.2.2.2.2.2.2.2.1, r_9.2.2.2.2.2.2.2.2.2.2.1, r_9.2.2.2.2.2.2.2.2.2.2.2.1, r_9.2.2.2.2.2.2.2.2.2.2.2.2.1, r_9.2.2.2.2.2.2.2.2.2.2.2.2.2.1, r_9.2.2.2.2.2.2.2.2.2.2.2.2.2.2.1, r_9.2.2.2.2.2.2.2.2.2.2.2.2.2.2.2.1, r_9.2.2.2.2.2.2.2.2.2.2.2.2.2.2.2.2)
  else some (1, r_7, r_9.2.1, r_9.2.2.1, r_9.2.2.2.1, r_9.2.2.2.2.1, r_9.2.2.2.2.2.1, r_9.2.2.2.2.2.2.1, r_9.2.2.2.2.2.2.2.1, r_9.2.2.2.2.2.2.2.2.1, r_9.2.2.2.2.2.2.2.2.2.1, r_9.2.2.2.2.2.2.2.2.2.2.1, r_9.2.2.2.2.2.2.2.2.2.2.2.1, r_9.2.2.2.2.2.2.2.2.2.2.2.2.1, r_9.2.2.2.2.2.2.2.2.2.2.2.2.2.1, r_9.2.2.2.2.2.2.2.2.2.2.2.2.2.2.1, r_9.2.2.2.2.2.2.2.2.2.2.2.2.2.2.2.1, r_9.2.2.2.2.2.2.2.2.2.2.2.2.2.2.2.2)
  else some ((-2), lk_a, pl_rest, pl_sketch, pl_placed, pl_rings, pl_ringNodes, pl_ringLength, pl_ringSet, pl_oldRing, pl_path, pl_pathLength, pl_queue, pl_origin, pl_inside, pl_ends, pl_ring, pl_choices)
  else some ((-1), lk_a, pl_rest, pl_sketch, pl_placed, pl_rings, pl_ringNodes, pl_ringLength, pl_ringSet, pl_oldRing, pl_path, pl_pathLength, pl_queue, pl_origin, pl_inside, pl_ends, pl_ring, pl_choices)
def f_X7_canInsert (N : Nat) (f_genus : Int32) (g_edges : Int32) (g_low : Nat → Int32) (g_high : Nat → Int32) (p1 : Int32) (p2 : Int32) : Option (Int32) :=
  if ¬ f_genus = 0 then some 0
  else bd1 (f_X1_areJoined N g_edges g_low g_high p1 p2) fun r_2 =>
  if ¬ r_2 = 0 then some 0
  else some 1
def f_X7_clearText (N : Nat) (tx_length : Int32) : Option (Int32 × Int32) :=
  some (tx_length, 0)
def f_X7_commonFace_b50 (N : Nat) (f_number : Int32) (f_nodeSet : Nat → Int32) (g_nodes : Int32) (k13 : Int32 → Int32 → Int32 → Option (Int32)) (x1 : Int32) (x2 : Int32) (x3 : Int32) : Option (Int32) :=
  k13 x1 x2 (x3 + 1)
def f_X7_commonFace_b13 (N : Nat) (f_number : Int32) (f_nodeSet : Nat → Int32) (g_nodes : Int32) : Nat → Int32 → Int32 → Int32 → Option (Int32)
  | 0 => fun _ _ _ => none
  | n + 1 => fun x1 x2 x3 =>
  if f_number ≤ x3 then some (-9)
  else bd1 (f_X0_holds N f_nodeSet x3 x1) fun r_4 =>
  if r_4 = 0 then f_X7_commonFace_b50 N f_number f_nodeSet g_nodes (f_X7_commonFace_b13 N f_number f_nodeSet g_nodes n) x1 x2 x3
  else bd1 (f_X0_holds N f_nodeSet x3 x2) fun r_6 =>
  if r_6 = 0 then f_X7_commonFace_b50 N f_number f_nodeSet g_nodes (f_X7_commonFace_b13 N f_number f_nodeSet g_nodes n) x1 x2 x3
  else some x3
def f_X7_commonFace (N : Nat) (f_number : Int32) (f_nodeSet : Nat → Int32) (g_nodes : Int32) (p1 : Int32) (p2 : Int32) : Option (Int32) :=
  bd1 (f_X7_areTwoNodes N g_nodes p1 p2) fun r_1 =>
  if ¬ r_1 = 0 then f_X7_commonFace_b13 N f_number f_nodeSet g_nodes N p1 p2 0
  else some (-1)
def f_X7_count (N : Nat) (f_number : Int32) (f_components : Int32) (f_genus : Int32) (g_nodes : Int32) (g_edges : Int32) (g_outer : Int32) (hi_saved : Int32) (tx_length : Int32) (p1 : Int32) : Option (Int32) :=
  if p1 = 0 then some g_nodes
  else if p1 = 1 then some g_edges
  else if p1 = 2 then some f_components
  else if p1 = 3 then some f_number
  else if p1 = 4 then some f_genus
  else if p1 = 5 then some g_outer
  else if p1 = 6 then some tx_length
  else if p1 = 7 then some hi_saved
  else some (-1)
def f_X7_crossed (N : Nat) (f_number : Int32) (f_genus : Int32) (f_owner : Nat → Int32) (f_nodeSet : Nat → Int32) (f_near : Nat → Int32) (g_nodes : Int32) (g_edges : Int32) (g_low : Nat → Int32) (g_high : Nat → Int32) (wa_cost : Int32) (wa_crossedEdges : Nat → Int32) (wa_distance : Nat → Int32) (p1 : Int32) (p2 : Int32) (p3 : Int32) : Option (Int32 × Int32 × (Nat → Int32) × (Nat → Int32)) :=
  bd1 (f_X7_areTwoNodes N g_nodes p1 p2) fun r_1 =>
  if r_1 = 0 then some ((-1), wa_cost, wa_crossedEdges, wa_distance)
  else if 0 ≤ p3 then bd1 (f_X7_canInsert N f_genus g_edges g_low g_high p1 p2) fun r_4 =>
  if ¬ r_4 = 0 then bd1 (f_X6_find N f_number f_owner f_nodeSet f_near g_edges wa_cost wa_crossedEdges wa_distance p1 p2) fun r_6 =>
  if r_6.1 ≤ p3 then some ((-9), r_6.1, r_6.2.1, r_6.2.2)
  else chk (inb p3 40) (some ((r_6.2.1 p3.toNatClampNeg), r_6.1, r_6.2.1, r_6.2.2))
  else some ((-2), wa_cost, wa_crossedEdges, wa_distance)
  else some ((-1), wa_cost, wa_crossedEdges, wa_distance)
def f_X7_crossings (N : Nat) (f_number : Int32) (f_next : Nat → Int32) (f_first : Nat → Int32) (f_length : Nat → Int32) (g_nodes : Int32) (g_edges : Int32) (g_outer : Int32) (g_low : Nat → Int32) (g_high : Nat → Int32) (g_degree : Nat → Int32) (g_turns : Nat → Int32) (la_x : Nat → UInt32) (la_y : Nat → UInt32) (p1 : Int32) : Option (Int32 × (Nat → UInt32) × (Nat → UInt32)) :=
  bd1 (f_X7_isRounds N p1) fun r_1 =>
  if ¬ r_1 = 0 then if ¬ g_edges = 0 then bd1 (f_X3_arrange N f_number f_next f_first f_length g_nodes g_outer g_low g_high g_degree g_turns la_x la_y p1) fun r_4 =>
  bd1 (f_X3_countCrossings N g_edges g_low g_high r_4.1 r_4.2) fun r_6 =>
  some (r_6, r_4.1, r_4.2)
  else some ((-2), la_x, la_y)
  else some ((-1), la_x, la_y)
def f_X7_depth_b52 (N : Nat) (f_number : Int32) (f_nodeSet : Nat → Int32) (g_nodes : Int32) (g_outer : Int32) : Nat → Int32 → Int32 → Int32 → Option (Int32)
  | 0 => fun _ _ _ => none
  | n + 1 => fun x1 x2 x3 =>
  if 9 ≤ x3 then some (-9)
  else bd1 (f_X7_contains N x2 x1) fun r_7 =>
  if r_7 = 0 then bd1 (f_X0_widen N f_number f_nodeSet x2) fun r_9 =>
  (f_X7_depth_b52 N f_number f_nodeSet g_nodes g_outer n) x1 r_9 (x3 + 1)
  else some x3
def f_X7_depth_b49 (N : Nat) (f_number : Int32) (f_nodeSet : Nat → Int32) (g_nodes : Int32) (g_outer : Int32) (x1 : Int32) (y0 : Int32) : Option (Int32) :=
  f_X7_depth_b52 N f_number f_nodeSet g_nodes g_outer N x1 y0 0
def f_X7_depth (N : Nat) (f_number : Int32) (f_nodeSet : Nat → Int32) (g_nodes : Int32) (g_outer : Int32) (p1 : Int32) : Option (Int32) :=
  bd1 (f_X1_hasNode N g_nodes p1) fun r_1 =>
  if ¬ r_1 = 0 then bd1 (f_X0_exists N f_number g_outer) fun r_3 =>
  if r_3 = 0 then f_X7_depth_b49 N f_number f_nodeSet g_nodes g_outer p1 0
  else chk (inb g_outer 40) (f_X7_depth_b49 N f_number f_nodeSet g_nodes g_outer p1 (f_nodeSet g_outer.toNatClampNeg))
  else some (-1)
def f_X7_edge (N : Nat) (g_edges : Int32) (g_low : Nat → Int32) (g_high : Nat → Int32) (p1 : Int32) (p2 : Int32) : Option (Int32) :=
  bd1 (f_X1_hasEdge N g_edges p1) fun r_1 =>
  if r_1 = 0 then some (-1)
  else if p2 < 0 then some (-1)
  else if p2 ≤ 1 then if ¬ p2 = 0 then chk (inb p1 20) (some (g_high p1.toNatClampNeg))
  else chk (inb p1 20) (some (g_low p1.toNatClampNeg))
  else some (-1)
def f_X7_extent (N : Nat) (f_number : Int32) (f_next : Nat → Int32) (f_first : Nat → Int32) (f_length : Nat → Int32) (g_nodes : Int32) (g_edges : Int32) (g_outer : Int32) (g_low : Nat → Int32) (g_high : Nat → Int32) (g_degree : Nat → Int32) (g_turns : Nat → Int32) (la_x : Nat → UInt32) (la_y : Nat → UInt32) (p1 : Int32) : Option (Int32 × (Nat → UInt32) × (Nat → UInt32)) :=
  bd1 (f_X7_isRounds N p1) fun r_1 =>
  if ¬ r_1 = 0 then if ¬ g_edges = 0 then bd1 (f_X3_arrange N f_number f_next f_first f_length g_nodes g_outer g_low g_high g_degree g_turns la_x la_y p1) fun r_4 =>
  bd1 (f_X3_addLengths N g_edges g_low g_high r_4.1 r_4.2) fun r_6 =>
  bd1 (f_X7_bitsOf N r_6) fun r_7 =>
  some (r_7, r_4.1, r_4.2)
  else some ((-2), la_x, la_y)
  else some ((-1), la_x, la_y)
def f_X7_face (N : Nat) (f_number : Int32) (f_owner : Nat → Int32) (f_first : Nat → Int32) (f_length : Nat → Int32) (f_nodeSet : Nat → Int32) (g_edges : Int32) (p1 : Int32) (p2 : Int32) : Option (Int32) :=
  bd1 (f_X0_exists N f_number p1) fun r_1 =>
  if ¬ r_1 = 0 then if p2 = 0 then chk (inb p1 40) (some (f_length p1.toNatClampNeg))
  else if p2 = 1 then chk (inb p1 40) (bd1 (f_J6_bitCount_0f7a4 N (f_nodeSet p1.toNatClampNeg)) fun r_7 =>
  some r_7)
  else if p2 = 2 then chk (inb p1 40) (some (f_first p1.toNatClampNeg))
  else if p2 = 3 then bd1 (f_X0_countNeighbours N f_owner g_edges p1) fun r_11 =>
  some r_11
  else some (-1)
  else some (-1)
def f_X7_faceOf (N : Nat) (f_owner : Nat → Int32) (g_edges : Int32) (p1 : Int32) : Option (Int32) :=
  bd1 (f_X1_hasDirected N g_edges p1) fun r_1 =>
  if r_1 = 0 then some (-1)
  else chk (inb p1 40) (some (f_owner p1.toNatClampNeg))
def f_X7_guiltyEdges_b85 (N : Nat) (g_edges : Int32) (g_low : Nat → Int32) (g_high : Nat → Int32) (k32 : Int32 → Int32 → (Nat → Int32) → (Nat → Int32) → (Nat → Int32) → Int32 → Int32 → (Nat → Int32) → (Nat → Int32) → (Nat → Int32) → (Nat → Int32) → (Nat → Int32) → Int32 → (Nat → Int32) → (Nat → Int32) → Int32 → Int32 → Int32 → Int32 → Option (Int32 × (Nat → Int32) × (Nat → Int32) × (Nat → Int32) × Int32 × Int32 × (Nat → Int32) × (Nat → Int32) × (Nat → Int32) × (Nat → Int32) × (Nat → Int32) × Int32 × (Nat → Int32) × (Nat → Int32) × Int32 × Int32 × Int32 × Int32)) (x1 : Int32) (x2 : Int32) (lk_a : Nat → Int32) (pl_rest : Nat → Int32) (pl_sketch : Nat → Int32) (pl_placed : Int32) (pl_rings : Int32) (pl_ringNodes : Nat → Int32) (pl_ringLength : Nat → Int32) (pl_ringSet : Nat → Int32) (pl_oldRing : Nat → Int32) (pl_path : Nat → Int32) (pl_pathLength : Int32) (pl_queue : Nat → Int32) (pl_origin : Nat → Int32) (pl_inside : Int32) (pl_ends : Int32) (pl_ring : Int32) (pl_choices : Int32) : Option (Int32 × (Nat → Int32) × (Nat → Int32) × (Nat → Int32) × Int32 × Int32 × (Nat → Int32) × (Nat → Int32) × (Nat → Int32) × (Nat → Int32) × (Nat → Int32) × Int32 × (Nat → Int32) × (Nat → Int32) × Int32 × Int32 × Int32 × Int32) :=
  chk (inb x2 20) (chk (inb x2 20) (bd1 (f_X7_toggleLink N lk_a (g_low x2.toNatClampNeg) (g_high x2.toNatClampNeg)) fun r_16 =>
  k32 x1 (x2 + 1) r_16 pl_rest pl_sketch pl_placed pl_rings pl_ringNodes pl_ringLength pl_ringSet pl_oldRing pl_path pl_pathLength pl_queue pl_origin pl_inside pl_ends pl_ring pl_choices))
def f_X7_guiltyEdges_b32 (N : Nat) (g_edges : Int32) (g_low : Nat → Int32) (g_high : Nat → Int32) : Nat → Int32 → Int32 → (Nat → Int32) → (Nat → Int32) → (Nat → Int32) → Int32 → Int32 → (Nat → Int32) → (Nat → Int32) → (Nat → Int32) → (Nat → Int32) → (Nat → Int32) → Int32 → (Nat → Int32) → (Nat → Int32) → Int32 → Int32 → Int32 → Int32 → Option (Int32 × (Nat → Int32) × (Nat → Int32) × (Nat → Int32) × Int32 × Int32 × (Nat → Int32) × (Nat → Int32) × (Nat → Int32) × (Nat → Int32) × (Nat → Int32) × Int32 × (Nat → Int32) × (Nat → Int32) × Int32 × Int32 × Int32 × Int32)
  | 0 => fun _ _ _ _ _ _ _ _ _ _ _ _ _ _ _ _ _ _ _ => none
  | n + 1 => fun x1 x2 lk_a pl_rest pl_sketch pl_placed pl_rings pl_ringNodes pl_ringLength pl_ringSet pl_oldRing pl_path pl_pathLength pl_queue pl_origin pl_inside pl_ends pl_ring pl_choices =>
  if g_edges ≤ x2 then some (x1, lk_a, pl_rest, pl_sketch, pl_placed, pl_rings, pl_ringNodes, pl_ringLength, pl_ringSet, pl_oldRing, pl_path, pl_pathLength, pl_queue, pl_origin, pl_inside, pl_ends, pl_ring, pl_choices)
  else chk (inb x2 20) (chk (inb x2 20) (bd1 (f_X7_toggleLink N lk_a (g_low x2.toNatClampNeg) (g_high x2.toNatClampNeg)) fun r_9 =>
  bd1 (f_X4_accepts N r_9 pl_rest pl_sketch pl_placed pl_rings pl_ringNodes pl_ringLength pl_ringSet pl_oldRing pl_path pl_pathLength pl_queue pl_origin pl_inside pl_ends pl_ring pl_choices) fun r_11 =>
  if r_11.1 = 0 then f_X7_guiltyEdges_b85 N g_edges g_low g_high (f_X7_guiltyEdges_b32 N g_edges g_low g_high n) x1 x2 r_9 r_11.2.1 r_11.2.2.1 r_11.2.2.2.1 r_11.2.2.2.2.1 r_11.2.2.2.2.2.1 r_11.2.2.2.2.2.2.1 r_11.2.2.2.2.2.2.2.1 r_11.2.2.2.2.2.2.2.2.1 r_11.2.2.2.2.2.2.2.2.2.1 r_11.2.2.2.2.2.2.2.2.2.2.1 r_11.2.2.2.2.2.2.2.2.2.2.2.1 r_11.2.2.2.2.2.2.2.2.2.2.2.2.1 r_11.2.2.2.2.2.2.2.2.2.2.2.2.2.1 r_11.2.2.2.2.2.2.2.2.2.2.2.2.2.2.1 r_11.2.2.2.2.2.2.2.2.2.2.2.2.2.2.2.1 r_11.2.2.2.2.2.2.2.2.2.2.2.2.2.2.2.2
  else f_X7_guiltyEdges_b85 N g_edges g_low g_high (f_X7_guiltyEdges_b32 N g_edges g_low g_high n) (x1 + 1) x2 r_9 r_11.2.1 r_11.2.2.1 r_11.2.2.2.1 r_11.2.2.2.2.1 r_11.2.2.2.2.2.1 r_11.2.2.2.2.2.2.1 r_11.2.2.2.2.2.2.2.1 r_11.2.2.2.2.2.2.2.2.1 r_11.2.2.2.2.2.2.2.2.2.1 r_11.2.2.2.2.2.2.2.2.2.2.1 r_11.2.2.2.2.2.2.2.2.2.2.2.1 r_11.2.2.2.2.2.2.2.2.2.2.2.2.1 r_11.2.2.2.2.2.2.2.2.2.2.2.2.2.1 r_11.2.2.2.2.2.2.2.2.2.2.2.2.2.2.1 r_11.2.2.2.2.2.2.2.2.2.2.2.2.2.2.2.1 r_11.2.2.2.2.2.2.2.2.2.2.2.2.2.2.2.2))
def f_X7_guiltyEdges (N : Nat) (g_edges : Int32) (g_low : Nat → Int32) (g_high : Nat → Int32) (lk_a : Nat → Int32) (pl_rest : Nat → Int32) (pl_sketch : Nat → Int32) (pl_placed : Int32) (pl_rings : Int32) (pl_ringNodes : Nat → Int32) (pl_ringLength : Nat → Int32) (pl_ringSet : Nat → Int32) (pl_oldRing : Nat → Int32) (pl_path : Nat → Int32) (pl_pathLength : Int32) (pl_queue : Nat → Int32) (pl_origin : Nat → Int32) (pl_inside : Int32) (pl_ends : Int32) (pl_ring : Int32) (pl_choices : Int32) : Option (Int32 × (Nat → Int32) × (Nat → Int32) × (Nat → Int32) × Int32 × Int32 × (Nat → Int32) × (Nat → Int32) × (Nat → Int32) × (Nat → Int32) × (Nat → Int32) × Int32 × (Nat → Int32) × (Nat → Int32) × Int32 × Int32 × Int32 × Int32) :=
  bd1 (f_X1_fillLinks N g_edges g_low g_high lk_a) fun r_1 =>
  bd1 (f_X4_accepts N r_1 pl_rest pl_sketch pl_placed pl_rings pl_ringNodes pl_ringLength pl_ringSet pl_oldRing pl_path pl_pathLength pl_queue pl_origin pl_inside pl_ends pl_ring pl_choices) fun r_3 =>
  if r_3.1 = 0 then f_X7_guiltyEdges_b32 N g_edges g_low g_high N 0 0 r_1 r_3.2.1 r_3.2.2.1 r_3.2.2.2.1 r_3.2.2.2.2.1 r_3.2.2.2.2.2.1 r_3.2.2.2.2.2.2.1 r_3.2.2.2.2.2.2.2.1 r_3.2.2.2.2.2.2.2.2.1 r_3.2.2.2.2.2.2.2.2.2.1 r_3.2.2.2.2.2.2.2.2.2.2.1 r_3.2.2.2.2.2.2.2.2.2.2.2.1 r_3.2.2.2.2.2.2.2.2.2.2.2.2.1 r_3.2.2.2.2.2.2.2.2.2.2.2.2.2.1 r_3.2.2.2.2.2.2.2.2.2.2.2.2.2.2.1 r_3.2.2.2.2.2.2.2.2.2.2.2.2.2.2.2.1 r_3.2.2.2.2.2.2.2.2.2.2.2.2.2.2.2.2
  else some ((-9), r_1, r_3.2.1, r_3.2.2.1, r_3.2.2.2.1, r_3.2.2.2.2.1, r_3.2.2.2.2.2.1, r_3.2.2.2.2.2.2.1, r_3.2.2.2.2.2.2.2.1, r_3.2.2.2.2.2.2.2.2.1, r_3.2.2.2.2.2.2.2.2.2.1, r_3.2.2.2.2.2.2.2.2.2.2.1, r_3.2.2.2.2.2.2.2.2.2.2.2.1, r_3.2.2.2.2.2.2.2.2.2.2.2.2.1, r_3.2.2.2.2.2.2.2.2.2.2.2.2.2.1, r_3.2.2.2.2.2.2.2.2.2.2.2.2.2.2.1, r_3.2.2.2.2.2.2.2.2.2.2.2.2.2.2.2.1, r_3.2.2.2.2.2.2.2.2.2.2.2.2.2.2.2.2)
def f_X7_insertionCost (N : Nat) (f_number : Int32) (f_genus : Int32) (f_owner : Nat → Int32) (f_nodeSet : Nat → Int32) (f_near : Nat → Int32) (g_nodes : Int32) (g_edges : Int32) (g_low : Nat → Int32) (g_high : Nat → Int32) (wa_cost : Int32) (wa_crossedEdges : Nat → Int32) (wa_distance : Nat → Int32) (p1 : Int32) (p2 : Int32) : Option (Int32 × Int32 × (Nat → Int32) × (Nat → Int32)) :=
  bd1 (f_X7_areTwoNodes N g_nodes p1 p2) fun r_1 =>
  if ¬ r_1 = 0 then bd1 (f_X7_canInsert N f_genus g_edges g_low g_high p1 p2) fun r_3 =>
  if ¬ r_3 = 0 then bd1 (f_X6_find N f_number f_owner f_nodeSet f_near g_edges wa_cost wa_crossedEdges wa_distance p1 p2) fun r_5 =>
  some (r_5.1, r_5.1, r_5.2.1, r_5.2.2)
  else some ((-2), wa_cost, wa_crossedEdges, wa_distance)
  else some ((-1), wa_cost, wa_crossedEdges, wa_distance)
def f_X7_isPlanar (N : Nat) (g_edges : Int32) (g_low : Nat → Int32) (g_high : Nat → Int32) (lk_a : Nat → Int32) (pl_rest : Nat → Int32) (pl_sketch : Nat → Int32) (pl_placed : Int32) (pl_rings : Int32) (pl_ringNodes : Nat → Int32) (pl_ringLength : Nat → Int32) (pl_ringSet : Nat → Int32) (pl_oldRing : Nat → Int32) (pl_path : Nat → Int32) (pl_pathLength : Int32) (pl_queue : Nat → Int32) (pl_origin : Nat → Int32) (pl_inside : Int32) (pl_ends : Int32) (pl_ring : Int32) (pl_choices : Int32) : Option (Int32 × (Nat → Int32) × (Nat → Int32) × (Nat → Int32) × Int32 × Int32 × (Nat → Int32) × (Nat → Int32) × (Nat → Int32) × (Nat → Int32) × (Nat → Int32) × Int32 × (Nat → Int32) × (Nat → Int32) × Int32 × Int32 × Int32 × Int32) :=
  bd1 (f_X1_fillLinks N g_edges g_low g_high lk_a) fun r_1 =>
  bd1 (f_X4_accepts N r_1 pl_rest pl_sketch pl_placed pl_rings pl_ringNodes pl_ringLength pl_ringSet pl_oldRing pl_path pl_pathLength pl_queue pl_origin pl_inside pl_ends pl_ring pl_choices) fun r_3 =>
  if r_3.1 = 0 then some (0, r_1, r_3.2.1, r_3.2.2.1, r_3.2.2.2.1, r_3.2.2.2.2.1, r_3.2.2.2.2.2.1, r_3.2.2.2.2.2.2.1, r_3.2.2.2.2.2.2.2.1, r_3.2.2.2.2.2.2.2.2.1, r_3.2.2.2.2.2.2.2.2.2.1, r_3.2.2.2.2.2.2.2.2.2.2.1, r_3.2.2.2.2.2.2.2.2.2.2.2.1, r_3.2.2.2.2.2.2.2.2.2.2.2.2.1, r_3.2.2.2.2.2.2.2.2.2.2.2.2.2.1, r_3.2.2.2.2.2.2.2.2.2.2.2.2.2.2.1, r_3.2.2.2.2.2.2.2.2.2.2.2.2.2.2.2.1, r_3.2.2.2.2.2.2.2.2.2.2.2.2.2.2.2.2)
  else some (1, r_1, r_3.2.1, r_3.2.2.1, r_3.2.2.2.1, r_3.2.2.2.2.1, r_3.2.2.2.2.2.1, r_3.2.2.2.2.2.2.1, r_3.2.2.2.2.2.2.2.1, r_3.2.2.2.2.2.2.2.2.1, r_3.2.2.2.2.2.2.2.2.2.1, r_3.2.2.2.2.2.2.2.2.2.2.1, r_3.2.2.2.2.2.2.2.2.2.2.2.1, r_3.2.2.2.2.2.2.2.2.2.2.2.2.1, r_3.2.2.2.2.2.2.2.2.2.2.2.2.2.1, r_3.2.2.2.2.2.2.2.2.2.2.2.2.2.2.1, r_3.2.2.2.2.2.2.2.2.2.2.2.2.2.2.2.1, r_3.2.2.2.2.2.2.2.2.2.2.2.2.2.2.2.2)
def f_X7_load (N : Nat) (dr_nodes : Int32) (dr_edges : Int32) (dr_outer : Int32) (dr_low : Nat → Int32) (dr_high : Nat → Int32) (dr_degree : Nat → Int32) (dr_turns : Nat → Int32) (f_number : Int32) (f_components : Int32) (f_genus : Int32) (f_next : Nat → Int32) (f_owner : Nat → Int32) (f_first : Nat → Int32) (f_length : Nat → Int32) (f_nodeSet : Nat → Int32) (f_near : Nat → Int32) (g_nodes : Int32) (g_edges : Int32) (g_outer : Int32) (g_low : Nat → Int32) (g_high : Nat → Int32) (g_degree : Nat → Int32) (g_turns : Nat → Int32) (hi_saved : Int32) (hi_nodes : Nat → Int32) (hi_edges : Nat → Int32) (hi_outer : Nat → Int32) (hi_low : Nat → Nat → Int32) (hi_high : Nat → Nat → Int32) (hi_degree : Nat → Nat → Int32) (hi_turns : Nat → Nat → Int32) (tx_length : Int32) (tx_characters : Nat → Int32) (tx_due : Int32) (tx_from : Int32) : Option (Int32 × Int32 × Int32 × (Nat → Int32) × (Nat → Int32) × (Nat → Int32) × (Nat → Int32) × Int32 × Int32 × Int32 × (Nat → Int32) × (Nat → Int32) × (Nat → Int32) × (Nat → Int32) × (Nat → Int32) × (Nat → Int32) × Int32 × Int32 × Int32 × (Nat → Int32) × (Nat → Int32) × (Nat → Int32) × (Nat → Int32) × Int32 × (Nat → Int32) × (Nat → Int32) × (Nat → Int32) × (Nat → Nat → Int32) × (Nat → Nat → Int32) × (Nat → Nat → Int32) × (Nat → Nat → Int32) × Int32 × Int32 × Int32) :=
  bd1 (f_X5_read N dr_nodes dr_edges dr_low dr_high dr_degree dr_turns tx_length tx_characters tx_due tx_from) fun r_1 =>
  nm (r_1.1) fun x1_3 =>
  if x1_3 < 0 then bd1 (f_X2_save N hi_saved hi_nodes hi_edges hi_outer hi_low hi_high hi_degree hi_turns g_nodes g_edges g_outer g_low g_high g_degree g_turns) fun r_5 =>
  bd1 (f_X1_copyFrom N g_nodes g_edges g_outer g_low g_high g_degree g_turns r_1.2.1 r_1.2.2.1 dr_outer r_1.2.2.2.1 r_1.2.2.2.2.1 r_1.2.2.2.2.2.1 r_1.2.2.2.2.2.2.1) fun r_7 =>
  bd1 (f_X7_settle N f_number f_components f_genus f_next f_owner f_first f_length f_nodeSet f_near r_7.1 r_7.2.1 r_7.2.2.1 r_7.2.2.2.1 r_7.2.2.2.2.1 r_7.2.2.2.2.2.1 r_7.2.2.2.2.2.2) fun r_9 =>
  some (r_7.2.1, r_1.2.1, r_1.2.2.1, r_1.2.2.2.1, r_1.2.2.2.2.1, r_1.2.2.2.2.2.1, r_1.2.2.2.2.2.2.1, r_9.1, r_9.2.1, r_9.2.2.1, r_9.2.2.2.1, r_9.2.2.2.2.1, r_9.2.2.2.2.2.1, r_9.2.2.2.2.2.2.1, r_9.2.2.2.2.2.2.2.1, r_9.2.2.2.2.2.2.2.2.1, r_7.1, r_7.2.1, r_9.2.2.2.2.2.2.2.2.2, r_7.2.2.2.1, r_7.2.2.2.2.1, r_7.2.2.2.2.2.1, r_7.2.2.2.2.2.2, r_5.1, r_5.2.1, r_5.2.2.1, r_5.2.2.2.1, r_5.2.2.2.2.1, r_5.2.2.2.2.2.1, r_5.2.2.2.2.2.2.1, r_5.2.2.2.2.2.2.2, 0, r_1.2.2.2.2.2.2.2.1, r_1.2.2.2.2.2.2.2.2)
  else some (((-10) - x1_3), r_1.2.1, r_1.2.2.1, r_1.2.2.2.1, r_1.2.2.2.2.1, r_1.2.2.2.2.2.1, r_1.2.2.2.2.2.2.1, f_number, f_components, f_genus, f_next, f_owner, f_first, f_length, f_nodeSet, f_near, g_nodes, g_edges, g_outer, g_low, g_high, g_degree, g_turns, hi_saved, hi_nodes, hi_edges, hi_outer, hi_low, hi_high, hi_degree, hi_turns, tx_length, r_1.2.2.2.2.2.2.2.1, r_1.2.2.2.2.2.2.2.2)
def f_X7_mirror (N : Nat) (f_number : Int32) (f_components : Int32) (f_genus : Int32) (f_next : Nat → Int32) (f_owner : Nat → Int32) (f_first : Nat → Int32) (f_length : Nat → Int32) (f_nodeSet : Nat → Int32) (f_near : Nat → Int32) (g_nodes : Int32) (g_edges : Int32) (g_outer : Int32) (g_low : Nat → Int32) (g_high : Nat → Int32) (g_degree : Nat → Int32) (g_turns : Nat → Int32) (hi_saved : Int32) (hi_nodes : Nat → Int32) (hi_edges : Nat → Int32) (hi_outer : Nat → Int32) (hi_low : Nat → Nat → Int32) (hi_high : Nat → Nat → Int32) (hi_degree : Nat → Nat → Int32) (hi_turns : Nat → Nat → Int32) : Option (Int32 × Int32 × Int32 × Int32 × (Nat → Int32) × (Nat → Int32) × (Nat → Int32) × (Nat → Int32) × (Nat → Int32) × (Nat → Int32) × Int32 × (Nat → Int32) × Int32 × (Nat → Int32) × (Nat → Int32) × (Nat → Int32) × (Nat → Nat → Int32) × (Nat → Nat → Int32) × (Nat → Nat → Int32) × (Nat → Nat → Int32)) :=
  bd1 (f_X2_save N hi_saved hi_nodes hi_edges hi_outer hi_low hi_high hi_degree hi_turns g_nodes g_edges g_outer g_low g_high g_degree g_turns) fun r_1 =>
  bd1 (f_X1_reverseAll N g_nodes g_degree g_turns) fun r_3 =>
  bd1 (f_X7_settle N f_number f_components f_genus f_next f_owner f_first f_length f_nodeSet f_near g_nodes g_edges g_outer g_low g_high g_degree r_3) fun r_5 =>
  some (r_5.1, r_5.1, r_5.2.1, r_5.2.2.1, r_5.2.2.2.1, r_5.2.2.2.2.1, r_5.2.2.2.2.2.1, r_5.2.2.2.2.2.2.1, r_5.2.2.2.2.2.2.2.1, r_5.2.2.2.2.2.2.2.2.1, r_5.2.2.2.2.2.2.2.2.2, r_3, r_1.1, r_1.2.1, r_1.2.2.1, r_1.2.2.2.1, r_1.2.2.2.2.1, r_1.2.2.2.2.2.1, r_1.2.2.2.2.2.2.1, r_1.2.2.2.2.2.2.2)
def f_X7_obstruction (N : Nat) (g_edges : Int32) (g_low : Nat → Int32) (g_high : Nat → Int32) (lk_a : Nat → Int32) (pl_rest : Nat → Int32) (pl_sketch : Nat → Int32) (pl_placed : Int32) (pl_rings : Int32) (pl_ringNodes : Nat → Int32) (pl_ringLength : Nat → Int32) (pl_ringSet : Nat → Int32) (pl_oldRing : Nat → Int32) (pl_path : Nat → Int32) (pl_pathLength : Int32) (pl_queue : Nat → Int32) (pl_origin : Nat → Int32) (pl_inside : Int32) (pl_ends : Int32) (pl_ring : Int32) (pl_choices : Int32) : Option (Int32 × (Nat → Int32) × (Nat → Int32) × (Nat → Int32) × Int32 × Int32 × (Nat → Int32) × (Nat → Int32) × (Nat → Int32) × (Nat → Int32) × (Nat → Int32) × Int32 × (Nat → Int32) × (Nat → Int32) × Int32 × Int32 × Int32 × Int32) :=
  bd1 (f_X7_findObstruction N g_edges g_low g_high lk_a pl_rest pl_sketch pl_placed pl_rings pl_ringNodes pl_ringLength pl_ringSet pl_oldRing pl_path pl_pathLength pl_queue pl_origin pl_inside pl_ends pl_ring pl_choices) fun r_1 =>
  some (r_1.1, r_1.2.1, r_1.2.2.1, r_1.2.2.2.1, r_1.2.2.2.2.1, r_1.2.2.2.2.2.1, r_1.2.2.2.2.2.2.1, r_1.2.2.2.2.2.2.2.1, r_1.2.2.2.2.2.2.2.2.1, r_1.2.2.2.2.2.2.2.2.2.1, r_1.2.2.2.2.2.2.2.2.2.2.1, r_1.2.2.2.2.2.2.2.2.2.2.2.1, r_1.2.2.2.2.2.2.2.2.2.2.2.2.1, r_1.2.2.2.2.2.2.2.2.2.2.2.2.2.1, r_1.2.2.2.2.2.2.2.2.2.2.2.2.2.2.1, r_1.2.2.2.2.2.2.2.2.2.2.2.2.2.2.2.1, r_1.2.2.2.2.2.2.2.2.2.2.2.2.2.2.2.2.1, r_1.2.2.2.2.2.2.2.2.2.2.2.2.2.2.2.2.2)
def f_X7_position_b83 (N : Nat) (f_number : Int32) (f_next : Nat → Int32) (f_first : Nat → Int32) (f_length : Nat → Int32) (g_nodes : Int32) (g_edges : Int32) (g_outer : Int32) (g_low : Nat → Int32) (g_high : Nat → Int32) (g_degree : Nat → Int32) (g_turns : Nat → Int32) (y0 : UInt32) (la_x : Nat → UInt32) (la_y : Nat → UInt32) : Option (Int32 × (Nat → UInt32) × (Nat → UInt32)) :=
  bd1 (f_X7_bitsOf N y0) fun r_13 =>
  some (r_13, la_x, la_y)
def f_X7_position (N : Nat) (f_number : Int32) (f_next : Nat → Int32) (f_first : Nat → Int32) (f_length : Nat → Int32) (g_nodes : Int32) (g_edges : Int32) (g_outer : Int32) (g_low : Nat → Int32) (g_high : Nat → Int32) (g_degree : Nat → Int32) (g_turns : Nat → Int32) (la_x : Nat → UInt32) (la_y : Nat → UInt32) (p1 : Int32) (p2 : Int32) (p3 : Int32) : Option (Int32 × (Nat → UInt32) × (Nat → UInt32)) :=
  bd1 (f_X1_hasNode N g_nodes p1) fun r_1 =>
  if r_1 = 0 then some ((-1), la_x, la_y)
  else if p2 < 0 then some ((-1), la_x, la_y)
  else if 1 < p2 then some ((-1), la_x, la_y)
  else bd1 (f_X7_isRounds N p3) fun r_5 =>
  if ¬ r_5 = 0 then if ¬ g_edges = 0 then bd1 (f_X3_arrange N f_number f_next f_first f_length g_nodes g_outer g_low g_high g_degree g_turns la_x la_y p3) fun r_8 =>
  if ¬ p2 = 0 then chk (inb p1 9) (f_X7_position_b83 N f_number f_next f_first f_length g_nodes g_edges g_outer g_low g_high g_degree g_turns (r_8.2 p1.toNatClampNeg) r_8.1 r_8.2)
  else chk (inb p1 9) (f_X7_position_b83 N f_number f_next f_first f_length g_nodes g_edges g_outer g_low g_high g_degree g_turns (r_8.1 p1.toNatClampNeg) r_8.1 r_8.2)
  else some ((-2), la_x, la_y)
  else some ((-1), la_x, la_y)
def f_X7_removeEdge (N : Nat) (f_number : Int32) (f_components : Int32) (f_genus : Int32) (f_next : Nat → Int32) (f_owner : Nat → Int32) (f_first : Nat → Int32) (f_length : Nat → Int32) (f_nodeSet : Nat → Int32) (f_near : Nat → Int32) (g_nodes : Int32) (g_edges : Int32) (g_outer : Int32) (g_low : Nat → Int32) (g_high : Nat → Int32) (g_degree : Nat → Int32) (g_turns : Nat → Int32) (hi_saved : Int32) (hi_nodes : Nat → Int32) (hi_edges : Nat → Int32) (hi_outer : Nat → Int32) (hi_low : Nat → Nat → Int32) (hi_high : Nat → Nat → Int32) (hi_degree : Nat → Nat → Int32) (hi_turns : Nat → Nat → Int32) (p1 : Int32) : Option (Int32 × Int32 × Int32 × Int32 × (Nat → Int32) × (Nat → Int32) × (Nat → Int32) × (Nat → Int32) × (Nat → Int32) × (Nat → Int32) × Int32 × Int32 × (Nat → Int32) × (Nat → Int32) × (Nat → Int32) × (Nat → Int32) × Int32 × (Nat → Int32) × (Nat → Int32) × (Nat → Int32) × (Nat → Nat → Int32) × (Nat → Nat → Int32) × (Nat → Nat → Int32) × (Nat → Nat → Int32)) :=
  bd1 (f_X1_hasEdge N g_edges p1) fun r_1 =>
  if ¬ r_1 = 0 then bd1 (f_X2_save N hi_saved hi_nodes hi_edges hi_outer hi_low hi_high hi_degree hi_turns g_nodes g_edges g_outer g_low g_high g_degree g_turns) fun r_3 =>
  bd1 (f_X1_removeAt N g_nodes g_edges g_low g_high g_degree g_turns p1) fun r_5 =>
  bd1 (f_X7_settle N f_number f_components f_genus f_next f_owner f_first f_length f_nodeSet f_near g_nodes r_5.1 g_outer r_5.2.1 r_5.2.2.1 r_5.2.2.2.1 r_5.2.2.2.2) fun r_7 =>
  some (r_5.1, r_7.1, r_7.2.1, r_7.2.2.1, r_7.2.2.2.1, r_7.2.2.2.2.1, r_7.2.2.2.2.2.1, r_7.2.2.2.2.2.2.1, r_7.2.2.2.2.2.2.2.1, r_7.2.2.2.2.2.2.2.2.1, r_5.1, r_7.2.2.2.2.2.2.2.2.2, r_5.2.1, r_5.2.2.1, r_5.2.2.2.1, r_5.2.2.2.2, r_3.1, r_3.2.1, r_3.2.2.1, r_3.2.2.2.1, r_3.2.2.2.2.1, r_3.2.2.2.2.2.1, r_3.2.2.2.2.2.2.1, r_3.2.2.2.2.2.2.2)
  else some ((-1), f_number, f_components, f_genus, f_next, f_owner, f_first, f_length, f_nodeSet, f_near, g_edges, g_outer, g_low, g_high, g_degree, g_turns, hi_saved, hi_nodes, hi_edges, hi_outer, hi_low, hi_high, hi_degree, hi_turns)
def f_X7_rotation (N : Nat) (g_nodes : Int32) (g_degree : Nat → Int32) (g_turns : Nat → Int32) (p1 : Int32) (p2 : Int32) : Option (Int32) :=
  bd1 (f_X1_hasNode N g_nodes p1) fun r_1 =>
  if r_1 = 0 then some (-1)
  else if 0 ≤ p2 then chk (inb p1 9) (if (g_degree p1.toNatClampNeg) ≤ p2 then some (-9)
  else bd1 (f_X1_edgeAt N g_turns p1 p2) fun r_6 =>
  some r_6)
  else some (-1)
def f_X7_setNodes (N : Nat) (f_number : Int32) (f_components : Int32) (f_genus : Int32) (f_next : Nat → Int32) (f_owner : Nat → Int32) (f_first : Nat → Int32) (f_length : Nat → Int32) (f_nodeSet : Nat → Int32) (f_near : Nat → Int32) (g_nodes : Int32) (g_edges : Int32) (g_outer : Int32) (g_low : Nat → Int32) (g_high : Nat → Int32) (g_degree : Nat → Int32) (g_turns : Nat → Int32) (hi_saved : Int32) (hi_nodes : Nat → Int32) (hi_edges : Nat → Int32) (hi_outer : Nat → Int32) (hi_low : Nat → Nat → Int32) (hi_high : Nat → Nat → Int32) (hi_degree : Nat → Nat → Int32) (hi_turns : Nat → Nat → Int32) (p1 : Int32) : Option (Int32 × Int32 × Int32 × Int32 × (Nat → Int32) × (Nat → Int32) × (Nat → Int32) × (Nat → Int32) × (Nat → Int32) × (Nat → Int32) × Int32 × Int32 × Int32 × (Nat → Int32) × Int32 × (Nat → Int32) × (Nat → Int32) × (Nat → Int32) × (Nat → Nat → Int32) × (Nat → Nat → Int32) × (Nat → Nat → Int32) × (Nat → Nat → Int32)) :=
  if p1 < 2 then some ((-1), f_number, f_components, f_genus, f_next, f_owner, f_first, f_length, f_nodeSet, f_near, g_nodes, g_edges, g_outer, g_degree, hi_saved, hi_nodes, hi_edges, hi_outer, hi_low, hi_high, hi_degree, hi_turns)
  else if p1 ≤ 9 then bd1 (f_X2_save N hi_saved hi_nodes hi_edges hi_outer hi_low hi_high hi_degree hi_turns g_nodes g_edges g_outer g_low g_high g_degree g_turns) fun r_3 =>
  bd1 (f_X1_makeEmpty N g_nodes g_edges g_degree p1) fun r_5 =>
  bd1 (f_X7_settle N f_number f_components f_genus f_next f_owner f_first f_length f_nodeSet f_near r_5.1 r_5.2.1 g_outer g_low g_high r_5.2.2 g_turns) fun r_7 =>
  some (g_nodes, r_7.1, r_7.2.1, r_7.2.2.1, r_7.2.2.2.1, r_7.2.2.2.2.1, r_7.2.2.2.2.2.1, r_7.2.2.2.2.2.2.1, r_7.2.2.2.2.2.2.2.1, r_7.2.2.2.2.2.2.2.2.1, r_5.1, r_5.2.1, r_7.2.2.2.2.2.2.2.2.2, r_5.2.2, r_3.1, r_3.2.1, r_3.2.2.1, r_3.2.2.2.1, r_3.2.2.2.2.1, r_3.2.2.2.2.2.1, r_3.2.2.2.2.2.2.1, r_3.2.2.2.2.2.2.2)
  else some ((-1), f_number, f_components, f_genus, f_next, f_owner, f_first, f_length, f_nodeSet, f_near, g_nodes, g_edges, g_outer, g_degree, hi_saved, hi_nodes, hi_edges, hi_outer, hi_low, hi_high, hi_degree, hi_turns)
def f_X7_setOuter (N : Nat) (f_number : Int32) (g_nodes : Int32) (g_edges : Int32) (g_outer : Int32) (g_low : Nat → Int32) (g_high : Nat → Int32) (g_degree : Nat → Int32) (g_turns : Nat → Int32) (hi_saved : Int32) (hi_nodes : Nat → Int32) (hi_edges : Nat → Int32) (hi_outer : Nat → Int32) (hi_low : Nat → Nat → Int32) (hi_high : Nat → Nat → Int32) (hi_degree : Nat → Nat → Int32) (hi_turns : Nat → Nat → Int32) (p1 : Int32) : Option (Int32 × Int32 × Int32 × (Nat → Int32) × (Nat → Int32) × (Nat → Int32) × (Nat → Nat → Int32) × (Nat → Nat → Int32) × (Nat → Nat → Int32) × (Nat → Nat → Int32)) :=
  bd1 (f_X0_exists N f_number p1) fun r_1 =>
  if ¬ r_1 = 0 then bd1 (f_X2_save N hi_saved hi_nodes hi_edges hi_outer hi_low hi_high hi_degree hi_turns g_nodes g_edges g_outer g_low g_high g_degree g_turns) fun r_3 =>
  some (g_outer, p1, r_3.1, r_3.2.1, r_3.2.2.1, r_3.2.2.2.1, r_3.2.2.2.2.1, r_3.2.2.2.2.2.1, r_3.2.2.2.2.2.2.1, r_3.2.2.2.2.2.2.2)
  else some ((-1), g_outer, hi_saved, hi_nodes, hi_edges, hi_outer, hi_low, hi_high, hi_degree, hi_turns)
def f_X7_swap (N : Nat) (f_number : Int32) (f_components : Int32) (f_genus : Int32) (f_next : Nat → Int32) (f_owner : Nat → Int32) (f_first : Nat → Int32) (f_length : Nat → Int32) (f_nodeSet : Nat → Int32) (f_near : Nat → Int32) (g_nodes : Int32) (g_edges : Int32) (g_outer : Int32) (g_low : Nat → Int32) (g_high : Nat → Int32) (g_degree : Nat → Int32) (g_turns : Nat → Int32) (hi_saved : Int32) (hi_nodes : Nat → Int32) (hi_edges : Nat → Int32) (hi_outer : Nat → Int32) (hi_low : Nat → Nat → Int32) (hi_high : Nat → Nat → Int32) (hi_degree : Nat → Nat → Int32) (hi_turns : Nat → Nat → Int32) (p1 : Int32) (p2 : Int32) (p3 : Int32) : Option (Int32 × Int32 × Int32 × Int32 × (Nat → Int32) × (Nat → Int32) × (Nat → Int32) × (Nat → Int32) × (Nat → Int32) × (Nat → Int32) × Int32 × (Nat → Int32) × Int32 × (Nat → Int32) × (Nat → Int32) × (Nat → Int32) × (Nat → Nat → Int32) × (Nat → Nat → Int32) × (Nat → Nat → Int32) × (Nat → Nat → Int32)) :=
  bd1 (f_X1_hasNode N g_nodes p1) fun r_1 =>
  if r_1 = 0 then some ((-1), f_number, f_components, f_genus, f_next, f_owner, f_first, f_length, f_nodeSet, f_near, g_outer, g_turns, hi_saved, hi_nodes, hi_edges, hi_outer, hi_low, hi_high, hi_degree, hi_turns)
  else bd1 (f_X1_isEnd N g_edges g_low g_high p2 p1) fun r_3 =>
  if r_3 = 0 then some ((-1), f_number, f_components, f_genus, f_next, f_owner, f_first, f_length, f_nodeSet, f_near, g_outer, g_turns, hi_saved, hi_nodes, hi_edges, hi_outer, hi_low, hi_high, hi_degree, hi_turns)
  else bd1 (f_X1_isEnd N g_edges g_low g_high p3 p1) fun r_5 =>
  if ¬ r_5 = 0 then bd1 (f_X2_save N hi_saved hi_nodes hi_edges hi_outer hi_low hi_high hi_degree hi_turns g_nodes g_edges g_outer g_low g_high g_degree g_turns) fun r_7 =>
  bd1 (f_X1_exchange N g_degree g_turns p1 p2 p3) fun r_9 =>
  bd1 (f_X7_settle N f_number f_components f_genus f_next f_owner f_first f_length f_nodeSet f_near g_nodes g_edges g_outer g_low g_high g_degree r_9) fun r_11 =>
  if ¬ r_11.2.2.1 = 0 then some (0, r_11.1, r_11.2.1, r_11.2.2.1, r_11.2.2.2.1, r_11.2.2.2.2.1, r_11.2.2.2.2.2.1, r_11.2.2.2.2.2.2.1, r_11.2.2.2.2.2.2.2.1, r_11.2.2.2.2.2.2.2.2.1, r_11.2.2.2.2.2.2.2.2.2, r_9, r_7.1, r_7.2.1, r_7.2.2.1, r_7.2.2.2.1, r_7.2.2.2.2.1, r_7.2.2.2.2.2.1, r_7.2.2.2.2.2.2.1, r_7.2.2.2.2.2.2.2)
  else some (1, r_11.1, r_11.2.1, r_11.2.2.1, r_11.2.2.2.1, r_11.2.2.2.2.1, r_11.2.2.2.2.2.1, r_11.2.2.2.2.2.2.1, r_11.2.2.2.2.2.2.2.1, r_11.2.2.2.2.2.2.2.2.1, r_11.2.2.2.2.2.2.2.2.2, r_9, r_7.1, r_7.2.1, r_7.2.2.1, r_7.2.2.2.1, r_7.2.2.2.2.1, r_7.2.2.2.2.2.1, r_7.2.2.2.2.2.2.1, r_7.2.2.2.2.2.2.2)
  else some ((-1), f_number, f_components, f_genus, f_next, f_owner, f_first, f_length, f_nodeSet, f_near, g_outer, g_turns, hi_saved, hi_nodes, hi_edges, hi_outer, hi_low, hi_high, hi_degree, hi_turns)
def f_X7_undo (N : Nat) (f_number : Int32) (f_components : Int32) (f_genus : Int32) (f_next : Nat → Int32) (f_owner : Nat → Int32) (f_first : Nat → Int32) (f_length : Nat → Int32) (f_nodeSet : Nat → Int32) (f_near : Nat → Int32) (g_nodes : Int32) (g_edges : Int32) (g_outer : Int32) (g_low : Nat → Int32) (g_high : Nat → Int32) (g_degree : Nat → Int32) (g_turns : Nat → Int32) (hi_saved : Int32) (hi_nodes : Nat → Int32) (hi_edges : Nat → Int32) (hi_outer : Nat → Int32) (hi_low : Nat → Nat → Int32) (hi_high : Nat → Nat → Int32) (hi_degree : Nat → Nat → Int32) (hi_turns : Nat → Nat → Int32) : Option (Int32 × Int32 × Int32 × Int32 × (Nat → Int32) × (Nat → Int32) × (Nat → Int32) × (Nat → Int32) × (Nat → Int32) × (Nat → Int32) × Int32 × Int32 × Int32 × (Nat → Int32) × (Nat → Int32) × (Nat → Int32) × (Nat → Int32) × Int32) :=
  if ¬ hi_saved = 0 then bd1 (f_X2_restore N g_nodes g_edges g_outer g_low g_high g_degree g_turns hi_saved hi_nodes hi_edges hi_outer hi_low hi_high hi_degree hi_turns) fun r_2 =>
  bd1 (f_X0_trace N f_number f_components f_genus f_next f_owner f_first f_length f_nodeSet f_near r_2.1 r_2.2.1 r_2.2.2.2.1 r_2.2.2.2.2.1 r_2.2.2.2.2.2.1 r_2.2.2.2.2.2.2.1) fun r_4 =>
  some (r_2.2.2.2.2.2.2.2, r_4.1, r_4.2.1, r_4.2.2.1, r_4.2.2.2.1, r_4.2.2.2.2.1, r_4.2.2.2.2.2.1, r_4.2.2.2.2.2.2.1, r_4.2.2.2.2.2.2.2.1, r_4.2.2.2.2.2.2.2.2, r_2.1, r_2.2.1, r_2.2.2.1, r_2.2.2.2.1, r_2.2.2.2.2.1, r_2.2.2.2.2.2.1, r_2.2.2.2.2.2.2.1, r_2.2.2.2.2.2.2.2)
  else some ((-2), f_number, f_components, f_genus, f_next, f_owner, f_first, f_length, f_nodeSet, f_near, g_nodes, g_edges, g_outer, g_low, g_high, g_degree, g_turns, hi_saved)
def f_X7_walk (N : Nat) (f_number : Int32) (f_next : Nat → Int32) (f_first : Nat → Int32) (f_length : Nat → Int32) (p1 : Int32) (p2 : Int32) : Option (Int32) :=
  bd1 (f_X0_exists N f_number p1) fun r_1 =>
  if r_1 = 0 then some (-1)
  else if 0 ≤ p2 then chk (inb p1 40) (if (f_length p1.toNatClampNeg) ≤ p2 then some (-9)
  else bd1 (f_X0_directedAt N f_next f_first p1 p2) fun r_6 =>
  some r_6)
  else some (-1)
