def f_J6_bitCount_0f7a4 (N : Nat) (p0 : Int32) : Option (Int32) :=
  nm ((p0 - ((((p0 : Int32).toUInt32 >>> ((1 : Int32).toUInt32 &&& Int32.toUInt32 31)).toInt32) &&& 1431655765))) fun x0_1 =>
  nm (((x0_1 &&& 858993459) + ((((x0_1 : Int32).toUInt32 >>> ((2 : Int32).toUInt32 &&& Int32.toUInt32 31)).toInt32) &&& 858993459))) fun x0_2 =>
  nm (((x0_2 + (((x0_2 : Int32).toUInt32 >>> ((4 : Int32).toUInt32 &&& Int32.toUInt32 31)).toInt32)) &&& 252645135)) fun x0_3 =>
  nm ((x0_3 + (((x0_3 : Int32).toUInt32 >>> ((8 : Int32).toUInt32 &&& Int32.toUInt32 31)).toInt32))) fun x0_4 =>
  nm ((x0_4 + (((x0_4 : Int32).toUInt32 >>> ((16 : Int32).toUInt32 &&& Int32.toUInt32 31)).toInt32))) fun x0_5 =>
  some (x0_5 &&& 63)
def f_Jxf58ca_isNaN_12338 (N : Nat) (p0 : UInt32) : Option (Int32) :=
  if (Op.cmpValue (FP.fcmp p0 p0) .l) = 0 then some 0
  else some 1
def f_Jxf58ca_floatToIntBits_5c35a (N : Nat) (p0 : UInt32) : Option (Int32) :=
  bd1 (f_Jxf58ca_isNaN_12338 N p0) fun r_1 =>
  if ¬ r_1 = 0 then some 2143289344
  else some ((p0).toInt32)
def f_X1_areJoined_b40 (N : Nat) (g_edges : Int32) (g_low : Nat → Int32) (g_high : Nat → Int32) (k2 : Int32 → Int32 → Int32 → Option (Int32)) (x1 : Int32) (x2 : Int32) (x3 : Int32) : Option (Int32) :=
  k2 x1 x2 (x3 + 1)
def f_X1_areJoined_b2 (N : Nat) (g_edges : Int32) (g_low : Nat → Int32) (g_high : Nat → Int32) : Nat → Int32 → Int32 → Int32 → Option (Int32)
  | 0 => fun _ _ _ => none
  | n + 1 => fun x1 x2 x3 =>
  if g_edges ≤ x3 then some 0
  else chk (inb x3 20) (if ¬ (g_low x3.toNatClampNeg) = (if x2 < x1 then x2 else x1) then f_X1_areJoined_b40 N g_edges g_low g_high (f_X1_areJoined_b2 N g_edges g_low g_high n) x1 x2 x3
  else chk (inb x3 20) (if ¬ (g_high x3.toNatClampNeg) = (if x1 < x2 then x2 else x1) then f_X1_areJoined_b40 N g_edges g_low g_high (f_X1_areJoined_b2 N g_edges g_low g_high n) x1 x2 x3
  else some 1))
def f_X1_areJoined (N : Nat) (g_edges : Int32) (g_low : Nat → Int32) (g_high : Nat → Int32) (p1 : Int32) (p2 : Int32) : Option (Int32) :=
  f_X1_areJoined_b2 N g_edges g_low g_high N p1 p2 0
def f_X1_closeSlots_b72 (N : Nat) (x1 : Int32) (x4 : Int32) (g_degree : Nat → Int32) (g_turns : Nat → Int32) : Option ((Nat → Int32) × (Nat → Int32)) :=
  chk (inb x1 9) (some ((upd g_degree x1.toNatClampNeg x4), g_turns))
def f_X1_closeSlots_b66 (N : Nat) (k11 : Int32 → Int32 → Int32 → Int32 → Int32 → (Nat → Int32) → (Nat → Int32) → Option ((Nat → Int32) × (Nat → Int32))) (x1 : Int32) (x2 : Int32) (x3 : Int32) (x4 : Int32) (x5 : Int32) (g_degree : Nat → Int32) (g_turns : Nat → Int32) : Option ((Nat → Int32) × (Nat → Int32)) :=
  k11 x1 x2 x3 x4 (x5 + 1) g_degree g_turns
def f_X1_closeSlots_b62 (N : Nat) (k11 : Int32 → Int32 → Int32 → Int32 → Int32 → (Nat → Int32) → (Nat → Int32) → Option ((Nat → Int32) × (Nat → Int32))) (x1 : Int32) (x2 : Int32) (x3 : Int32) (x4 : Int32) (x5 : Int32) (y1 : Int32) (y2 : Int32) (g_degree : Nat → Int32) (g_turns : Nat → Int32) : Option ((Nat → Int32) × (Nat → Int32)) :=
  chk (inb y1 72) (f_X1_closeSlots_b66 N k11 x1 x2 x3 (x4 + 1) x5 g_degree (upd g_turns y1.toNatClampNeg y2))
def f_X1_closeSlots_b11 (N : Nat) : Nat → Int32 → Int32 → Int32 → Int32 → Int32 → (Nat → Int32) → (Nat → Int32) → Option ((Nat → Int32) × (Nat → Int32))
  | 0 => fun _ _ _ _ _ _ _ => none
  | n + 1 => fun x1 x2 x3 x4 x5 g_degree g_turns =>
  chk (inb x1 9) (if (g_degree x1.toNatClampNeg) ≤ x5 then f_X1_closeSlots_b72 N x1 x4 g_degree g_turns
  else chk (inb (x3 + x5) 72) (nm ((g_turns (x3 + x5).toNatClampNeg)) fun x6_5 =>
  if x6_5 = x2 then f_X1_closeSlots_b66 N (f_X1_closeSlots_b11 N n) x1 x2 x3 x4 x5 g_degree g_turns
  else if x6_5 ≤ x2 then f_X1_closeSlots_b62 N (f_X1_closeSlots_b11 N n) x1 x2 x3 x4 x5 (x3 + x4) x6_5 g_degree g_turns
  else f_X1_closeSlots_b62 N (f_X1_closeSlots_b11 N n) x1 x2 x3 x4 x5 (x3 + x4) (x6_5 - 1) g_degree g_turns))
def f_X1_closeSlots (N : Nat) (g_degree : Nat → Int32) (g_turns : Nat → Int32) (p1 : Int32) (p2 : Int32) : Option ((Nat → Int32) × (Nat → Int32)) :=
  nm ((p1 * 8)) fun x3_1 =>
  f_X1_closeSlots_b11 N N p1 p2 x3_1 0 0 g_degree g_turns
def f_X1_openSlot_b74 (N : Nat) (x1 : Int32) (x2 : Int32) (x3 : Int32) (x4 : Int32) (g_degree : Nat → Int32) (g_turns : Nat → Int32) : Option ((Nat → Int32) × (Nat → Int32)) :=
  chk (inb (x4 + x2) 72) (chk (inb x1 9) (chk (inb x1 9) (some ((upd g_degree x1.toNatClampNeg ((g_degree x1.toNatClampNeg) + 1)), (upd g_turns (x4 + x2).toNatClampNeg x3)))))
def f_X1_openSlot_b40 (N : Nat) : Nat → Int32 → Int32 → Int32 → Int32 → Int32 → (Nat → Int32) → (Nat → Int32) → Option ((Nat → Int32) × (Nat → Int32))
  | 0 => fun _ _ _ _ _ _ _ => none
  | n + 1 => fun x1 x2 x3 x4 x5 g_degree g_turns =>
  if x5 ≤ x2 then f_X1_openSlot_b74 N x1 x2 x3 x4 g_degree g_turns
  else chk (inb ((x4 + x5) - 1) 72) (chk (inb (x4 + x5) 72) ((f_X1_openSlot_b40 N n) x1 x2 x3 x4 (x5 + (-1)) g_degree (upd g_turns (x4 + x5).toNatClampNeg (g_turns ((x4 + x5) - 1).toNatClampNeg))))
def f_X1_openSlot (N : Nat) (g_degree : Nat → Int32) (g_turns : Nat → Int32) (p1 : Int32) (p2 : Int32) (p3 : Int32) : Option ((Nat → Int32) × (Nat → Int32)) :=
  if p2 < 0 then some (g_degree, g_turns)
  else chk (inb p1 9) (if (g_degree p1.toNatClampNeg) < p2 then some (g_degree, g_turns)
  else chk (inb p1 9) (if (g_degree p1.toNatClampNeg) < 8 then nm ((p1 * 8)) fun x4_6 =>
  chk (inb p1 9) (nm ((g_degree p1.toNatClampNeg)) fun x5_8 =>
  f_X1_openSlot_b40 N N p1 p2 p3 x4_6 x5_8 g_degree g_turns)
  else some (g_degree, g_turns)))
def f_X1_connect (N : Nat) (g_edges : Int32) (g_low : Nat → Int32) (g_high : Nat → Int32) (g_degree : Nat → Int32) (g_turns : Nat → Int32) (p1 : Int32) (p2 : Int32) (p3 : Int32) (p4 : Int32) : Option (Int32 × Int32 × (Nat → Int32) × (Nat → Int32) × (Nat → Int32) × (Nat → Int32)) :=
  chk (inb g_edges 20) (chk (inb g_edges 20) (bd1 (f_X1_openSlot N g_degree g_turns p1 p3 g_edges) fun r_3 =>
  bd1 (f_X1_openSlot N r_3.1 r_3.2 p2 p4 g_edges) fun r_4 =>
  some (g_edges, (g_edges + 1), (upd g_low g_edges.toNatClampNeg (if p2 < p1 then p2 else p1)), (upd g_high g_edges.toNatClampNeg (if p1 < p2 then p2 else p1)), r_4.1, r_4.2)))
def f_X1_copyFrom (N : Nat) (g_nodes : Int32) (g_edges : Int32) (g_outer : Int32) (g_low : Nat → Int32) (g_high : Nat → Int32) (g_degree : Nat → Int32) (g_turns : Nat → Int32) (h_nodes : Int32) (h_edges : Int32) (h_outer : Int32) (h_low : Nat → Int32) (h_high : Nat → Int32) (h_degree : Nat → Int32) (h_turns : Nat → Int32) : Option (Int32 × Int32 × Int32 × (Nat → Int32) × (Nat → Int32) × (Nat → Int32) × (Nat → Int32)) :=
  chk (cpok 0 0 20 20 20) (chk (cpok 0 0 20 20 20) (chk (cpok 0 0 9 9 9) (chk (cpok 0 0 72 72 72) (some (h_nodes, h_edges, h_outer, (va_cpy h_low g_low (0 : Int32).toNatClampNeg (0 : Int32).toNatClampNeg (20 : Int32).toNatClampNeg), (va_cpy h_high g_high (0 : Int32).toNatClampNeg (0 : Int32).toNatClampNeg (20 : Int32).toNatClampNeg), (va_cpy h_degree g_degree (0 : Int32).toNatClampNeg (0 : Int32).toNatClampNeg (9 : Int32).toNatClampNeg), (va_cpy h_turns g_turns (0 : Int32).toNatClampNeg (0 : Int32).toNatClampNeg (72 : Int32).toNatClampNeg))))))
def f_X1_edgeAt (N : Nat) (g_turns : Nat → Int32) (p1 : Int32) (p2 : Int32) : Option (Int32) :=
  chk (inb ((p1 * 8) + p2) 72) (some (g_turns ((p1 * 8) + p2).toNatClampNeg))
def f_X1_slotOf_b2 (N : Nat) (g_degree : Nat → Int32) (g_turns : Nat → Int32) : Nat → Int32 → Int32 → Int32 → Option (Int32)
  | 0 => fun _ _ _ => none
  | n + 1 => fun x1 x2 x3 =>
  chk (inb x1 9) (if (g_degree x1.toNatClampNeg) ≤ x3 then some (-1)
  else bd1 (f_X1_edgeAt N g_turns x1 x3) fun r_3 =>
  if ¬ r_3 = x2 then (f_X1_slotOf_b2 N g_degree g_turns n) x1 x2 (x3 + 1)
  else some x3)
def f_X1_slotOf (N : Nat) (g_degree : Nat → Int32) (g_turns : Nat → Int32) (p1 : Int32) (p2 : Int32) : Option (Int32) :=
  f_X1_slotOf_b2 N g_degree g_turns N p1 p2 0
def f_X1_exchange (N : Nat) (g_degree : Nat → Int32) (g_turns : Nat → Int32) (p1 : Int32) (p2 : Int32) (p3 : Int32) : Option ((Nat → Int32)) :=
  bd1 (f_X1_slotOf N g_degree g_turns p1 p2) fun r_1 =>
  bd1 (f_X1_slotOf N g_degree g_turns p1 p3) fun r_2 =>
  if r_1 < 0 then some g_turns
  else if r_2 < 0 then some g_turns
  else chk (inb ((p1 * 8) + r_1) 72) (chk (inb ((p1 * 8) + r_2) 72) (some (upd (upd g_turns ((p1 * 8) + r_1).toNatClampNeg p3) ((p1 * 8) + r_2).toNatClampNeg p2)))
def f_X7_bit (N : Nat) (p0 : Int32) : Option (Int32) :=
  some ((1 : Int32) <<< (p0 &&& 31))
def f_X1_fillLinks_b7 (N : Nat) (g_edges : Int32) (g_low : Nat → Int32) (g_high : Nat → Int32) : Nat → Int32 → (Nat → Int32) → Option ((Nat → Int32))
  | 0 => fun _ _ => none
  | n + 1 => fun x2 nr_a =>
  if g_edges ≤ x2 then some nr_a
  else chk (inb x2 20) (chk (inb (g_low x2.toNatClampNeg) 9) (chk (inb x2 20) (bd1 (f_X7_bit N (g_high x2.toNatClampNeg)) fun r_5 =>
  chk (inb (g_low x2.toNatClampNeg) 9) (chk (inb x2 20) (chk (inb (g_high x2.toNatClampNeg) 9) (chk (inb x2 20) (bd1 (f_X7_bit N (g_low x2.toNatClampNeg)) fun r_10 =>
  chk (inb (g_high x2.toNatClampNeg) 9) ((f_X1_fillLinks_b7 N g_edges g_low g_high n) (x2 + 1) (upd (upd nr_a (g_low x2.toNatClampNeg).toNatClampNeg ((nr_a (g_low x2.toNatClampNeg).toNatClampNeg) ||| r_5)) (g_high x2.toNatClampNeg).toNatClampNeg (((upd nr_a (g_low x2.toNatClampNeg).toNatClampNeg ((nr_a (g_low x2.toNatClampNeg).toNatClampNeg) ||| r_5)) (g_high x2.toNatClampNeg).toNatClampNeg) ||| r_10))))))))))
def f_X1_fillLinks (N : Nat) (g_edges : Int32) (g_low : Nat → Int32) (g_high : Nat → Int32) (nr_a : Nat → Int32) : Option ((Nat → Int32)) :=
  f_X1_fillLinks_b7 N g_edges g_low g_high N 0 (filled 9 (0 : Int32) nr_a)
def f_X1_tailOf (N : Nat) (g_low : Nat → Int32) (g_high : Nat → Int32) (p1 : Int32) : Option (Int32) :=
  if ¬ (p1 - p1 / 2 * 2) = 0 then chk (inb (p1 / 2) 20) (some (g_high (p1 / 2).toNatClampNeg))
  else chk (inb (p1 / 2) 20) (some (g_low (p1 / 2).toNatClampNeg))
def f_X1_following_b36 (N : Nat) (g_low : Nat → Int32) (g_high : Nat → Int32) (g_degree : Nat → Int32) (g_turns : Nat → Int32) (x2 : Int32) (y1 : Int32) (y2 : Int32) : Option (Int32) :=
  bd1 (f_X1_edgeAt N g_turns y1 y2) fun r_6 =>
  chk (inb r_6 20) (if ¬ (g_low r_6.toNatClampNeg) = x2 then some ((2 * r_6) + 1)
  else some (2 * r_6))
def f_X1_following (N : Nat) (g_low : Nat → Int32) (g_high : Nat → Int32) (g_degree : Nat → Int32) (g_turns : Nat → Int32) (p1 : Int32) : Option (Int32) :=
  bd1 (f_X1_tailOf N g_low g_high (p1 ^^^ 1)) fun r_1 =>
  bd1 (f_X1_slotOf N g_degree g_turns r_1 (p1 / 2)) fun r_2 =>
  nm ((r_2 + 1)) fun x3_3 =>
  chk (inb r_1 9) (if (g_degree r_1.toNatClampNeg) ≤ x3_3 then f_X1_following_b36 N g_low g_high g_degree g_turns r_1 r_1 0
  else f_X1_following_b36 N g_low g_high g_degree g_turns r_1 r_1 x3_3)
def f_X1_hasDirected (N : Nat) (g_edges : Int32) (p1 : Int32) : Option (Int32) :=
  if p1 < 0 then some 0
  else if (2 * g_edges) ≤ p1 then some 0
  else some 1
def f_X1_hasEdge (N : Nat) (g_edges : Int32) (p1 : Int32) : Option (Int32) :=
  if p1 < 0 then some 0
  else if g_edges ≤ p1 then some 0
  else some 1
def f_X1_hasNode (N : Nat) (g_nodes : Int32) (p1 : Int32) : Option (Int32) :=
  if p1 < 0 then some 0
  else if g_nodes ≤ p1 then some 0
  else some 1
def f_X1_isEnd_b28 (N : Nat) (g_edges : Int32) (g_low : Nat → Int32) (g_high : Nat → Int32) : Option (Int32) :=
  some 1
def f_X1_isEnd (N : Nat) (g_edges : Int32) (g_low : Nat → Int32) (g_high : Nat → Int32) (p1 : Int32) (p2 : Int32) : Option (Int32) :=
  bd1 (f_X1_hasEdge N g_edges p1) fun r_1 =>
  if r_1 = 0 then some 0
  else chk (inb p1 20) (if (g_low p1.toNatClampNeg) = p2 then f_X1_isEnd_b28 N g_edges g_low g_high 
  else chk (inb p1 20) (if ¬ (g_high p1.toNatClampNeg) = p2 then some 0
  else f_X1_isEnd_b28 N g_edges g_low g_high ))
def f_X1_makeEmpty (N : Nat) (g_nodes : Int32) (g_edges : Int32) (g_degree : Nat → Int32) (p1 : Int32) : Option (Int32 × Int32 × (Nat → Int32)) :=
  some (p1, 0, (filled 9 (0 : Int32) g_degree))
def f_X1_removeAt_b34 (N : Nat) (g_nodes : Int32) : Nat → Int32 → Int32 → (Nat → Int32) → (Nat → Int32) → (Nat → Int32) → (Nat → Int32) → Option (Int32 × (Nat → Int32) × (Nat → Int32) × (Nat → Int32) × (Nat → Int32))
  | 0 => fun _ _ _ _ _ _ => none
  | n + 1 => fun x2 g_edges g_low g_high g_degree g_turns =>
  if g_edges ≤ x2 then some (g_edges, g_low, g_high, g_degree, g_turns)
  else chk (inb (x2 + 1) 20) (chk (inb x2 20) (chk (inb (x2 + 1) 20) (chk (inb x2 20) ((f_X1_removeAt_b34 N g_nodes n) (x2 + 1) g_edges (upd g_low x2.toNatClampNeg (g_low (x2 + 1).toNatClampNeg)) (upd g_high x2.toNatClampNeg (g_high (x2 + 1).toNatClampNeg)) g_degree g_turns))))
def f_X1_removeAt_b22 (N : Nat) (g_nodes : Int32) (x1 : Int32) (g_edges : Int32) (g_low : Nat → Int32) (g_high : Nat → Int32) (g_degree : Nat → Int32) (g_turns : Nat → Int32) : Option (Int32 × (Nat → Int32) × (Nat → Int32) × (Nat → Int32) × (Nat → Int32)) :=
  f_X1_removeAt_b34 N g_nodes N x1 (g_edges - 1) g_low g_high g_degree g_turns
def f_X1_removeAt_b2 (N : Nat) (g_nodes : Int32) : Nat → Int32 → Int32 → Int32 → (Nat → Int32) → (Nat → Int32) → (Nat → Int32) → (Nat → Int32) → Option (Int32 × (Nat → Int32) × (Nat → Int32) × (Nat → Int32) × (Nat → Int32))
  | 0 => fun _ _ _ _ _ _ _ => none
  | n + 1 => fun x1 x2 g_edges g_low g_high g_degree g_turns =>
  if g_nodes ≤ x2 then f_X1_removeAt_b22 N g_nodes x1 g_edges g_low g_high g_degree g_turns
  else bd1 (f_X1_closeSlots N g_degree g_turns x2 x1) fun r_2 =>
  (f_X1_removeAt_b2 N g_nodes n) x1 (x2 + 1) g_edges g_low g_high r_2.1 r_2.2
def f_X1_removeAt (N : Nat) (g_nodes : Int32) (g_edges : Int32) (g_low : Nat → Int32) (g_high : Nat → Int32) (g_degree : Nat → Int32) (g_turns : Nat → Int32) (p1 : Int32) : Option (Int32 × (Nat → Int32) × (Nat → Int32) × (Nat → Int32) × (Nat → Int32)) :=
  f_X1_removeAt_b2 N g_nodes N p1 0 g_edges g_low g_high g_degree g_turns
def f_X1_reverseAll_b68 (N : Nat) (g_nodes : Int32) (g_degree : Nat → Int32) (k2 : Int32 → (Nat → Int32) → Option ((Nat → Int32))) (x1 : Int32) (g_turns : Nat → Int32) : Option ((Nat → Int32)) :=
  k2 (x1 + 1) g_turns
def f_X1_reverseAll_b26 (N : Nat) (g_nodes : Int32) (g_degree : Nat → Int32) (k2 : Int32 → (Nat → Int32) → Option ((Nat → Int32))) : Nat → Int32 → Int32 → Int32 → (Nat → Int32) → Option ((Nat → Int32))
  | 0 => fun _ _ _ _ => none
  | n + 1 => fun x1 x2 x3 g_turns =>
  if x3 ≤ x2 then f_X1_reverseAll_b68 N g_nodes g_degree k2 x1 g_turns
  else chk (inb x2 72) (nm ((g_turns x2.toNatClampNeg)) fun x4_7 =>
  chk (inb x3 72) (chk (inb x2 72) (chk (inb x3 72) ((f_X1_reverseAll_b26 N g_nodes g_degree k2 n) x1 (x2 + 1) (x3 + (-1)) (upd (upd g_turns x2.toNatClampNeg (g_turns x3.toNatClampNeg)) x3.toNatClampNeg x4_7)))))
def f_X1_reverseAll_b2 (N : Nat) (g_nodes : Int32) (g_degree : Nat → Int32) : Nat → Int32 → (Nat → Int32) → Option ((Nat → Int32))
  | 0 => fun _ _ => none
  | n + 1 => fun x1 g_turns =>
  if g_nodes ≤ x1 then some g_turns
  else nm ((x1 * 8)) fun x2_2 =>
  chk (inb x1 9) (nm (((x2_2 + (g_degree x1.toNatClampNeg)) - 1)) fun x3_4 =>
  f_X1_reverseAll_b26 N g_nodes g_degree (f_X1_reverseAll_b2 N g_nodes g_degree n) N x1 x2_2 x3_4 g_turns)
def f_X1_reverseAll (N : Nat) (g_nodes : Int32) (g_degree : Nat → Int32) (g_turns : Nat → Int32) : Option ((Nat → Int32)) :=
  f_X1_reverseAll_b2 N g_nodes g_degree N 0 g_turns
def f_X7_bitsOf_b37 (N : Nat) (x1 : UInt32) (x2 : Int32) : Option (Int32) :=
  nm ((FP.f2i x1)) fun x3_6 =>
  if 8388608 ≤ x3_6 then some ((x2 <<< (23 &&& 31)) + (x3_6 - 8388608))
  else some x3_6
def f_X7_bitsOf_b14 (N : Nat) : Nat → UInt32 → Int32 → Option (Int32)
  | 0 => fun _ _ => none
  | n + 1 => fun x1 x2 =>
  if 0 ≤ (Op.cmpValue (FP.fcmp x1 1258291200) .g) then f_X7_bitsOf_b37 N x1 x2
  else if x2 ≤ 1 then f_X7_bitsOf_b37 N x1 x2
  else chk (nn32 (FP.fmul x1 FP.fconst2)) (nm ((FP.fmul x1 FP.fconst2)) fun x1_5 =>
  (f_X7_bitsOf_b14 N n) x1_5 (x2 + (-1)))
def f_X7_bitsOf (N : Nat) (p0 : UInt32) : Option (Int32) :=
  if 0 < (Op.cmpValue (FP.fcmp p0 FP.fconst0) .l) then f_X7_bitsOf_b14 N N p0 150
  else some 0
def f_X7_contains (N : Nat) (p0 : Int32) (p1 : Int32) : Option (Int32) :=
  if ((p0 >>> (p1 &&& 31)) &&& 1) = 0 then some 0
  else some 1
def f_X7_isRounds (N : Nat) (p0 : Int32) : Option (Int32) :=
  if p0 < 0 then some 0
  else if 50 < p0 then some 0
  else some 1
def f_X7_neighboursOf_b24 (N : Nat) (nr_a : Nat → Int32) (k4 : Int32 → Int32 → Int32 → Option (Int32)) (x0 : Int32) (x2 : Int32) (x3 : Int32) : Option (Int32) :=
  k4 x0 x2 (x3 + 1)
def f_X7_neighboursOf_b4 (N : Nat) (nr_a : Nat → Int32) : Nat → Int32 → Int32 → Int32 → Option (Int32)
  | 0 => fun _ _ _ => none
  | n + 1 => fun x0 x2 x3 =>
  if 9 ≤ x3 then some x2
  else bd1 (f_X7_contains N x0 x3) fun r_2 =>
  if r_2 = 0 then f_X7_neighboursOf_b24 N nr_a (f_X7_neighboursOf_b4 N nr_a n) x0 x2 x3
  else chk (inb x3 9) (nm ((x2 ||| (nr_a x3.toNatClampNeg))) fun x2_5 =>
  f_X7_neighboursOf_b24 N nr_a (f_X7_neighboursOf_b4 N nr_a n) x0 x2_5 x3)
def f_X7_neighboursOf (N : Nat) (nr_a : Nat → Int32) (p0 : Int32) : Option (Int32) :=
  f_X7_neighboursOf_b4 N nr_a N p0 0 0
def f_X7_smallestOf_b2 (N : Nat) : Nat → Int32 → Int32 → Option (Int32)
  | 0 => fun _ _ => none
  | n + 1 => fun x0 x1 =>
  if 9 ≤ x1 then some (-1)
  else bd1 (f_X7_contains N x0 x1) fun r_2 =>
  if r_2 = 0 then (f_X7_smallestOf_b2 N n) x0 (x1 + 1)
  else some x1
def f_X7_smallestOf (N : Nat) (p0 : Int32) : Option (Int32) :=
  f_X7_smallestOf_b2 N N p0 0
def f_X7_spread_b8 (N : Nat) (nr_a : Nat → Int32) : Nat → Int32 → Int32 → Int32 → Option (Int32)
  | 0 => fun _ _ _ => none
  | n + 1 => fun x1 x3 x4 =>
  if 9 ≤ x4 then some x3
  else bd1 (f_X7_neighboursOf N nr_a x3) fun r_3 =>
  nm ((x3 ||| (r_3 &&& x1))) fun x5_4 =>
  if ¬ x5_4 = x3 then (f_X7_spread_b8 N nr_a n) x1 x5_4 (x4 + 1)
  else some x3
def f_X7_spread (N : Nat) (nr_a : Nat → Int32) (p0 : Int32) (p1 : Int32) : Option (Int32) :=
  bd1 (f_X7_bit N p0) fun r_1 =>
  f_X7_spread_b8 N nr_a N p1 r_1 0
def f_X7_toggleLink (N : Nat) (nr_a : Nat → Int32) (p1 : Int32) (p2 : Int32) : Option ((Nat → Int32)) :=
  chk (inb p1 9) (bd1 (f_X7_bit N p2) fun r_2 =>
  chk (inb p1 9) (chk (inb p2 9) (bd1 (f_X7_bit N p1) fun r_5 =>
  chk (inb p2 9) (some (upd (upd nr_a p1.toNatClampNeg ((nr_a p1.toNatClampNeg) ^^^ r_2)) p2.toNatClampNeg (((upd nr_a p1.toNatClampNeg ((nr_a p1.toNatClampNeg) ^^^ r_2)) p2.toNatClampNeg) ^^^ r_5))))))
