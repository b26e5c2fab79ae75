def f_X3_distance (N : Nat) (p0 : UInt32) (p1 : UInt32) : Option (UInt32) :=
  chk (nn32 (FP.fsub p0 p1)) (nm ((FP.fsub p0 p1)) fun x2_2 =>
  if 0 ≤ (Op.cmpValue (FP.fcmp x2_2 FP.fconst0) .g) then some x2_2
  else some (FP.fneg x2_2))
def f_X3_addLengths_b82 (N : Nat) (g_edges : Int32) (g_low : Nat → Int32) (g_high : Nat → Int32) (la_x : Nat → UInt32) (la_y : Nat → UInt32) (k4 : UInt32 → Int32 → Option (UInt32)) (x3 : Int32) (y0 : UInt32) (y1 : UInt32) : Option (UInt32) :=
  chk (nn32 (FP.fadd y0 y1)) (nm ((FP.fadd y0 y1)) fun x2_15 =>
  k4 x2_15 (x3 + 1))
def f_X3_addLengths_b4 (N : Nat) (g_edges : Int32) (g_low : Nat → Int32) (g_high : Nat → Int32) (la_x : Nat → UInt32) (la_y : Nat → UInt32) : Nat → UInt32 → Int32 → Option (UInt32)
  | 0 => fun _ _ => none
  | n + 1 => fun x2 x3 =>
  if g_edges ≤ x3 then some x2
  else chk (inb x3 20) (chk (inb (g_low x3.toNatClampNeg) 9) (chk (inb x3 20) (chk (inb (g_high x3.toNatClampNeg) 9) (bd1 (f_X3_distance N (la_x (g_low x3.toNatClampNeg).toNatClampNeg) (la_x (g_high x3.toNatClampNeg).toNatClampNeg)) fun r_7 =>
  chk (inb x3 20) (chk (inb (g_low x3.toNatClampNeg) 9) (chk (inb x3 20) (chk (inb (g_high x3.toNatClampNeg) 9) (bd1 (f_X3_distance N (la_y (g_low x3.toNatClampNeg).toNatClampNeg) (la_y (g_high x3.toNatClampNeg).toNatClampNeg)) fun r_12 =>
  if (Op.cmpValue (FP.fcmp r_7 r_12) .l) < 0 then f_X3_addLengths_b82 N g_edges g_low g_high la_x la_y (f_X3_addLengths_b4 N g_edges g_low g_high la_x la_y n) x3 x2 r_12
  else f_X3_addLengths_b82 N g_edges g_low g_high la_x la_y (f_X3_addLengths_b4 N g_edges g_low g_high la_x la_y n) x3 x2 r_7))))))))
def f_X3_addLengths (N : Nat) (g_edges : Int32) (g_low : Nat → Int32) (g_high : Nat → Int32) (la_x : Nat → UInt32) (la_y : Nat → UInt32) : Option (UInt32) :=
  nm (FP.fconst0) fun x2_1 =>
  f_X3_addLengths_b4 N g_edges g_low g_high la_x la_y N x2_1 0
def f_X3_areOpposite_b24 (N : Nat) : Option (Int32) :=
  some 1
def f_X3_areOpposite_b12 (N : Nat) (x0 : UInt32) (x1 : UInt32) : Option (Int32) :=
  if 0 ≤ (Op.cmpValue (FP.fcmp x0 FP.fconst0) .g) then some 0
  else if (Op.cmpValue (FP.fcmp x1 FP.fconst0) .l) ≤ 0 then some 0
  else f_X3_areOpposite_b24 N 
def f_X3_areOpposite (N : Nat) (p0 : UInt32) (p1 : UInt32) : Option (Int32) :=
  if (Op.cmpValue (FP.fcmp p0 FP.fconst0) .l) ≤ 0 then f_X3_areOpposite_b12 N p0 p1
  else if (Op.cmpValue (FP.fcmp p1 FP.fconst0) .g) < 0 then f_X3_areOpposite_b24 N 
  else f_X3_areOpposite_b12 N p0 p1
def f_X3_pinOuterNodes_b84 (N : Nat) (f_next : Nat → Int32) (f_first : Nat → Int32) (f_length : Nat → Int32) (g_outer : Int32) (g_low : Nat → Int32) (g_high : Nat → Int32) (k19 : Int32 → Int32 → Int32 → Int32 → (Nat → UInt32) → (Nat → UInt32) → Option (Int32 × (Nat → UInt32) × (Nat → UInt32))) (x3 : Int32) (x4 : Int32) (x5 : Int32) (x6 : Int32) (la_x : Nat → UInt32) (la_y : Nat → UInt32) : Option (Int32 × (Nat → UInt32) × (Nat → UInt32)) :=
  chk (inb x5 40) (nm ((f_next x5.toNatClampNeg)) fun x5_13 =>
  k19 x3 x4 x5_13 (x6 + 1) la_x la_y)
def f_X3_pinOuterNodes_b19 (N : Nat) (f_next : Nat → Int32) (f_first : Nat → Int32) (f_length : Nat → Int32) (g_outer : Int32) (g_low : Nat → Int32) (g_high : Nat → Int32) : Nat → Int32 → Int32 → Int32 → Int32 → (Nat → UInt32) → (Nat → UInt32) → Option (Int32 × (Nat → UInt32) × (Nat → UInt32))
  | 0 => fun _ _ _ _ _ _ => none
  | n + 1 => fun x3 x4 x5 x6 la_x la_y =>
  chk (inb g_outer 40) (if (f_length g_outer.toNatClampNeg) ≤ x6 then some (x3, la_x, la_y)
  else bd1 (f_X1_tailOf N g_low g_high x5) fun r_5 =>
  bd1 (f_X7_contains N x3 r_5) fun r_6 =>
  if ¬ r_6 = 0 then f_X3_pinOuterNodes_b84 N f_next f_first f_length g_outer g_low g_high (f_X3_pinOuterNodes_b19 N f_next f_first f_length g_outer g_low g_high n) x3 x4 x5 x6 la_x la_y
  else chk (inb r_5 9) (chk (inb r_5 9) (bd1 (f_X7_bit N r_5) fun r_10 =>
  nm ((x3 ||| r_10)) fun x3_11 =>
  f_X3_pinOuterNodes_b84 N f_next f_first f_length g_outer g_low g_high (f_X3_pinOuterNodes_b19 N f_next f_first f_length g_outer g_low g_high n) x3_11 (x4 + 1) x5 x6 (vf_upd la_x r_5.toNatClampNeg (FP.i2f x4)) (vf_upd la_y r_5.toNatClampNeg (FP.i2f (x4 * x4))))))
def f_X3_pinOuterNodes (N : Nat) (f_next : Nat → Int32) (f_first : Nat → Int32) (f_length : Nat → Int32) (g_outer : Int32) (g_low : Nat → Int32) (g_high : Nat → Int32) (la_x : Nat → UInt32) (la_y : Nat → UInt32) : Option (Int32 × (Nat → UInt32) × (Nat → UInt32)) :=
  chk (inb g_outer 40) (nm ((f_first g_outer.toNatClampNeg)) fun x5_2 =>
  f_X3_pinOuterNodes_b19 N f_next f_first f_length g_outer g_low g_high N 0 0 x5_2 0 la_x la_y)
def f_X3_relax_b90 (N : Nat) (g_low : Nat → Int32) (g_high : Nat → Int32) (g_degree : Nat → Int32) (g_turns : Nat → Int32) (x2 : Int32) (x3 : UInt32) (x4 : UInt32) (x5 : Int32) (la_x : Nat → UInt32) (la_y : Nat → UInt32) : Option ((Nat → UInt32) × (Nat → UInt32)) :=
  if x5 ≤ 0 then some (la_x, la_y)
  else chk (nn32 (FP.fdiv x3 (FP.i2f x5))) (chk (inb x2 9) (chk (nn32 (FP.fdiv x4 (FP.i2f x5))) (chk (inb x2 9) (some ((vf_upd la_x x2.toNatClampNeg (FP.fdiv x3 (FP.i2f x5))), (vf_upd la_y x2.toNatClampNeg (FP.fdiv x4 (FP.i2f x5))))))))
def f_X3_relax_b60 (N : Nat) (g_low : Nat → Int32) (g_high : Nat → Int32) (g_degree : Nat → Int32) (g_turns : Nat → Int32) (k16 : Int32 → UInt32 → UInt32 → Int32 → Int32 → (Nat → UInt32) → (Nat → UInt32) → Option ((Nat → UInt32) × (Nat → UInt32))) (x2 : Int32) (x3 : UInt32) (x4 : UInt32) (x5 : Int32) (x6 : Int32) (y0 : Int32) (la_x : Nat → UInt32) (la_y : Nat → UInt32) : Option ((Nat → UInt32) × (Nat → UInt32)) :=
  chk (inb y0 9) (chk (nn32 (FP.fadd x3 (la_x y0.toNatClampNeg))) (nm ((FP.fadd x3 (la_x y0.toNatClampNeg))) fun x3_13 =>
  chk (inb y0 9) (chk (nn32 (FP.fadd x4 (la_y y0.toNatClampNeg))) (nm ((FP.fadd x4 (la_y y0.toNatClampNeg))) fun x4_16 =>
  k16 x2 x3_13 x4_16 x5 (x6 + 1) la_x la_y))))
def f_X3_relax_b16 (N : Nat) (g_low : Nat → Int32) (g_high : Nat → Int32) (g_degree : Nat → Int32) (g_turns : Nat → Int32) : Nat → Int32 → UInt32 → UInt32 → Int32 → Int32 → (Nat → UInt32) → (Nat → UInt32) → Option ((Nat → UInt32) × (Nat → UInt32))
  | 0 => fun _ _ _ _ _ _ _ => none
  | n + 1 => fun x2 x3 x4 x5 x6 la_x la_y =>
  if x5 ≤ x6 then f_X3_relax_b90 N g_low g_high g_degree g_turns x2 x3 x4 x5 la_x la_y
  else bd1 (f_X1_edgeAt N g_turns x2 x6) fun r_6 =>
  chk (inb r_6 20) (if ¬ (g_low r_6.toNatClampNeg) = x2 then chk (inb r_6 20) (f_X3_relax_b60 N g_low g_high g_degree g_turns (f_X3_relax_b16 N g_low g_high g_degree g_turns n) x2 x3 x4 x5 x6 (g_low r_6.toNatClampNeg) la_x la_y)
  else chk (inb r_6 20) (f_X3_relax_b60 N g_low g_high g_degree g_turns (f_X3_relax_b16 N g_low g_high g_degree g_turns n) x2 x3 x4 x5 x6 (g_high r_6.toNatClampNeg) la_x la_y))
def f_X3_relax (N : Nat) (g_low : Nat → Int32) (g_high : Nat → Int32) (g_degree : Nat → Int32) (g_turns : Nat → Int32) (la_x : Nat → UInt32) (la_y : Nat → UInt32) (p2 : Int32) : Option ((Nat → UInt32) × (Nat → UInt32)) :=
  nm (FP.fconst0) fun x3_1 =>
  nm (FP.fconst0) fun x4_2 =>
  chk (inb p2 9) (nm ((g_degree p2.toNatClampNeg)) fun x5_4 =>
  f_X3_relax_b16 N g_low g_high g_degree g_turns N p2 x3_1 x4_2 x5_4 0 la_x la_y)
def f_X3_arrange_b93 (N : Nat) (f_number : Int32) (f_next : Nat → Int32) (f_first : Nat → Int32) (f_length : Nat → Int32) (g_nodes : Int32) (g_outer : Int32) (g_low : Nat → Int32) (g_high : Nat → Int32) (g_degree : Nat → Int32) (g_turns : Nat → Int32) (k42 : Int32 → Int32 → Int32 → (Nat → UInt32) → (Nat → UInt32) → Option ((Nat → UInt32) × (Nat → UInt32))) (x3 : Int32) (x4 : Int32) (x5 : Int32) (la_x : Nat → UInt32) (la_y : Nat → UInt32) : Option ((Nat → UInt32) × (Nat → UInt32)) :=
  k42 x3 x4 (x5 + 1) la_x la_y
def f_X3_arrange_b87 (N : Nat) (f_number : Int32) (f_next : Nat → Int32) (f_first : Nat → Int32) (f_length : Nat → Int32) (g_nodes : Int32) (g_outer : Int32) (g_low : Nat → Int32) (g_high : Nat → Int32) (g_degree : Nat → Int32) (g_turns : Nat → Int32) (k42 : Int32 → Int32 → Int32 → (Nat → UInt32) → (Nat → UInt32) → Option ((Nat → UInt32) × (Nat → UInt32))) (k51 : Int32 → Int32 → Int32 → Int32 → (Nat → UInt32) → (Nat → UInt32) → Option ((Nat → UInt32) × (Nat → UInt32))) (x3 : Int32) (x4 : Int32) (x5 : Int32) (x6 : Int32) (la_x : Nat → UInt32) (la_y : Nat → UInt32) : Option ((Nat → UInt32) × (Nat → UInt32)) :=
  k51 x3 x4 x5 (x6 + 1) la_x la_y
def f_X3_arrange_b51 (N : Nat) (f_number : Int32) (f_next : Nat → Int32) (f_first : Nat → Int32) (f_length : Nat → Int32) (g_nodes : Int32) (g_outer : Int32) (g_low : Nat → Int32) (g_high : Nat → Int32) (g_degree : Nat → Int32) (g_turns : Nat → Int32) (k42 : Int32 → Int32 → Int32 → (Nat → UInt32) → (Nat → UInt32) → Option ((Nat → UInt32) × (Nat → UInt32))) : Nat → Int32 → Int32 → Int32 → Int32 → (Nat → UInt32) → (Nat → UInt32) → Option ((Nat → UInt32) × (Nat → UInt32))
  | 0 => fun _ _ _ _ _ _ => none
  | n + 1 => fun x3 x4 x5 x6 la_x la_y =>
  if g_nodes ≤ x6 then f_X3_arrange_b93 N f_number f_next f_first f_length g_nodes g_outer g_low g_high g_degree g_turns k42 x3 x4 x5 la_x la_y
  else bd1 (f_X7_contains N x4 x6) fun r_6 =>
  if ¬ r_6 = 0 then f_X3_arrange_b87 N f_number f_next f_first f_length g_nodes g_outer g_low g_high g_degree g_turns k42 (f_X3_arrange_b51 N f_number f_next f_first f_length g_nodes g_outer g_low g_high g_degree g_turns k42 n) x3 x4 x5 x6 la_x la_y
  else chk (inb x6 9) (if (g_degree x6.toNatClampNeg) ≤ 0 then f_X3_arrange_b87 N f_number f_next f_first f_length g_nodes g_outer g_low g_high g_degree g_turns k42 (f_X3_arrange_b51 N f_number f_next f_first f_length g_nodes g_outer g_low g_high g_degree g_turns k42 n) x3 x4 x5 x6 la_x la_y
  else bd1 (f_X3_relax N g_low g_high g_degree g_turns la_x la_y x6) fun r_10 =>
  f_X3_arrange_b87 N f_number f_next f_first f_length g_nodes g_outer g_low g_high g_degree g_turns k42 (f_X3_arrange_b51 N f_number f_next f_first f_length g_nodes g_outer g_low g_high g_degree g_turns k42 n) x3 x4 x5 x6 r_10.1 r_10.2)
def f_X3_arrange_b42 (N : Nat) (f_number : Int32) (f_next : Nat → Int32) (f_first : Nat → Int32) (f_length : Nat → Int32) (g_nodes : Int32) (g_outer : Int32) (g_low : Nat → Int32) (g_high : Nat → Int32) (g_degree : Nat → Int32) (g_turns : Nat → Int32) : Nat → Int32 → Int32 → Int32 → (Nat → UInt32) → (Nat → UInt32) → Option ((Nat → UInt32) × (Nat → UInt32))
  | 0 => fun _ _ _ _ _ => none
  | n + 1 => fun x3 x4 x5 la_x la_y =>
  if x3 ≤ x5 then some (la_x, la_y)
  else f_X3_arrange_b51 N f_number f_next f_first f_length g_nodes g_outer g_low g_high g_degree g_turns (f_X3_arrange_b42 N f_number f_next f_first f_length g_nodes g_outer g_low g_high g_degree g_turns n) N x3 x4 x5 0 la_x la_y
def f_X3_arrange_b37 (N : Nat) (f_number : Int32) (f_next : Nat → Int32) (f_first : Nat → Int32) (f_length : Nat → Int32) (g_nodes : Int32) (g_outer : Int32) (g_low : Nat → Int32) (g_high : Nat → Int32) (g_degree : Nat → Int32) (g_turns : Nat → Int32) (x3 : Int32) (y0 : Int32) (la_x : Nat → UInt32) (la_y : Nat → UInt32) : Option ((Nat → UInt32) × (Nat → UInt32)) :=
  f_X3_arrange_b42 N f_number f_next f_first f_length g_nodes g_outer g_low g_high g_degree g_turns N x3 y0 0 la_x la_y
def f_X3_arrange (N : Nat) (f_number : Int32) (f_next : Nat → Int32) (f_first : Nat → Int32) (f_length : Nat → Int32) (g_nodes : Int32) (g_outer : Int32) (g_low : Nat → Int32) (g_high : Nat → Int32) (g_degree : Nat → Int32) (g_turns : Nat → Int32) (la_x : Nat → UInt32) (la_y : Nat → UInt32) (p3 : Int32) : Option ((Nat → UInt32) × (Nat → UInt32)) :=
  bd1 (f_X0_exists N f_number g_outer) fun r_1 =>
  if r_1 = 0 then f_X3_arrange_b37 N f_number f_next f_first f_length g_nodes g_outer g_low g_high g_degree g_turns p3 0 (filledF 9 FP.fconst0 la_x) (filledF 9 FP.fconst0 la_y)
  else bd1 (f_X3_pinOuterNodes N f_next f_first f_length g_outer g_low g_high (filledF 9 FP.fconst0 la_x) (filledF 9 FP.fconst0 la_y)) fun r_3 =>
  f_X3_arrange_b37 N f_number f_next f_first f_length g_nodes g_outer g_low g_high g_degree g_turns p3 r_3.1 r_3.2.1 r_3.2.2
def f_X3_turn (N : Nat) (la_x : Nat → UInt32) (la_y : Nat → UInt32) (p1 : Int32) (p2 : Int32) (p3 : Int32) : Option (UInt32) :=
  chk (inb p2 9) (chk (inb p1 9) (chk (nn32 (FP.fsub (la_x p2.toNatClampNeg) (la_x p1.toNatClampNeg))) (chk (inb p3 9) (chk (inb p1 9) (chk (nn32 (FP.fsub (la_y p3.toNatClampNeg) (la_y p1.toNatClampNeg))) (chk (nn32 (FP.fmul (FP.fsub (la_x p2.toNatClampNeg) (la_x p1.toNatClampNeg)) (FP.fsub (la_y p3.toNatClampNeg) (la_y p1.toNatClampNeg)))) (chk (inb p2 9) (chk (inb p1 9) (chk (nn32 (FP.fsub (la_y p2.toNatClampNeg) (la_y p1.toNatClampNeg))) (chk (inb p3 9) (chk (inb p1 9) (chk (nn32 (FP.fsub (la_x p3.toNatClampNeg) (la_x p1.toNatClampNeg))) (chk (nn32 (FP.fmul (FP.fsub (la_y p2.toNatClampNeg) (la_y p1.toNatClampNeg)) (FP.fsub (la_x p3.toNatClampNeg) (la_x p1.toNatClampNeg)))) (chk (nn32 (FP.fsub (FP.fmul (FP.fsub (la_x p2.toNatClampNeg) (la_x p1.toNatClampNeg)) (FP.fsub (la_y p3.toNatClampNeg) (la_y p1.toNatClampNeg))) (FP.fmul (FP.fsub (la_y p2.toNatClampNeg) (la_y p1.toNatClampNeg)) (FP.fsub (la_x p3.toNatClampNeg) (la_x p1.toNatClampNeg))))) (some (FP.fsub (FP.fmul (FP.fsub (la_x p2.toNatClampNeg) (la_x p1.toNatClampNeg)) (FP.fsub (la_y p3.toNatClampNeg) (la_y p1.toNatClampNeg))) (FP.fmul (FP.fsub (la_y p2.toNatClampNeg) (la_y p1.toNatClampNeg)) (FP.fsub (la_x p3.toNatClampNeg) (la_x p1.toNatClampNeg)))))))))))))))))))
def f_X3_doCross (N : Nat) (la_x : Nat → UInt32) (la_y : Nat → UInt32) (p1 : Int32) (p2 : Int32) (p3 : Int32) (p4 : Int32) : Option (Int32) :=
  if p1 = p3 then some 0
  else if p1 = p4 then some 0
  else if p2 = p3 then some 0
  else if ¬ p2 = p4 then bd1 (f_X3_turn N la_x la_y p1 p2 p3) fun r_5 =>
  bd1 (f_X3_turn N la_x la_y p1 p2 p4) fun r_6 =>
  bd1 (f_X3_areOpposite N r_5 r_6) fun r_7 =>
  if r_7 = 0 then some 0
  else bd1 (f_X3_turn N la_x la_y p3 p4 p1) fun r_9 =>
  bd1 (f_X3_turn N la_x la_y p3 p4 p2) fun r_10 =>
  bd1 (f_X3_areOpposite N r_9 r_10) fun r_11 =>
  if r_11 = 0 then some 0
  else some 1
  else some 0
def f_X3_countCrossings_b68 (N : Nat) (g_edges : Int32) (g_low : Nat → Int32) (g_high : Nat → Int32) (la_x : Nat → UInt32) (la_y : Nat → UInt32) (k4 : Int32 → Int32 → Option (Int32)) (x2 : Int32) (x3 : Int32) : Option (Int32) :=
  k4 x2 (x3 + 1)
def f_X3_countCrossings_b62 (N : Nat) (g_edges : Int32) (g_low : Nat → Int32) (g_high : Nat → Int32) (la_x : Nat → UInt32) (la_y : Nat → UInt32) (k4 : Int32 → Int32 → Option (Int32)) (k17 : Int32 → Int32 → Int32 → Option (Int32)) (x2 : Int32) (x3 : Int32) (x4 : Int32) : Option (Int32) :=
  k17 x2 x3 (x4 + 1)
def f_X3_countCrossings_b17 (N : Nat) (g_edges : Int32) (g_low : Nat → Int32) (g_high : Nat → Int32) (la_x : Nat → UInt32) (la_y : Nat → UInt32) (k4 : Int32 → Int32 → Option (Int32)) : Nat → Int32 → Int32 → Int32 → Option (Int32)
  | 0 => fun _ _ _ => none
  | n + 1 => fun x2 x3 x4 =>
  if g_edges ≤ x4 then f_X3_countCrossings_b68 N g_edges g_low g_high la_x la_y k4 x2 x3
  else chk (inb x3 20) (chk (inb x3 20) (chk (inb x4 20) (chk (inb x4 20) (bd1 (f_X3_doCross N la_x la_y (g_low x3.toNatClampNeg) (g_high x3.toNatClampNeg) (g_low x4.toNatClampNeg) (g_high x4.toNatClampNeg)) fun r_8 =>
  if r_8 = 0 then f_X3_countCrossings_b62 N g_edges g_low g_high la_x la_y k4 (f_X3_countCrossings_b17 N g_edges g_low g_high la_x la_y k4 n) x2 x3 x4
  else f_X3_countCrossings_b62 N g_edges g_low g_high la_x la_y k4 (f_X3_countCrossings_b17 N g_edges g_low g_high la_x la_y k4 n) (x2 + 1) x3 x4))))
def f_X3_countCrossings_b4 (N : Nat) (g_edges : Int32) (g_low : Nat → Int32) (g_high : Nat → Int32) (la_x : Nat → UInt32) (la_y : Nat → UInt32) : Nat → Int32 → Int32 → Option (Int32)
  | 0 => fun _ _ => none
  | n + 1 => fun x2 x3 =>
  if g_edges ≤ x3 then some x2
  else nm ((x3 + 1)) fun x4_2 =>
  f_X3_countCrossings_b17 N g_edges g_low g_high la_x la_y (f_X3_countCrossings_b4 N g_edges g_low g_high la_x la_y n) N x2 x3 x4_2
def f_X3_countCrossings (N : Nat) (g_edges : Int32) (g_low : Nat → Int32) (g_high : Nat → Int32) (la_x : Nat → UInt32) (la_y : Nat → UInt32) : Option (Int32) :=
  f_X3_countCrossings_b4 N g_edges g_low g_high la_x la_y N 0 0
def f_X5_add (N : Nat) (tx_length : Int32) (tx_characters : Nat → Int32) (p1 : Int32) : Option (Int32 × (Nat → Int32)) :=
  chk (inb tx_length 100) (some ((tx_length + 1), (upd tx_characters tx_length.toNatClampNeg p1)))
def f_X5_takeNodes (N : Nat) (g_nodes : Int32) (g_edges : Int32) (g_degree : Nat → Int32) (tx_due : Int32) (p1 : Int32) : Option (Int32 × Int32 × Int32 × (Nat → Int32) × Int32) :=
  if p1 < 2 then some (0, g_nodes, g_edges, g_degree, tx_due)
  else if p1 ≤ 9 then bd1 (f_X1_makeEmpty N g_nodes g_edges g_degree p1) fun r_3 =>
  some (1, r_3.1, r_3.2.1, r_3.2.2, 1)
  else some (0, g_nodes, g_edges, g_degree, tx_due)
def f_X5_takeSecondEnd (N : Nat) (g_nodes : Int32) (g_edges : Int32) (g_low : Nat → Int32) (g_high : Nat → Int32) (g_degree : Nat → Int32) (g_turns : Nat → Int32) (tx_due : Int32) (tx_from : Int32) (p1 : Int32) : Option (Int32 × Int32 × (Nat → Int32) × (Nat → Int32) × (Nat → Int32) × (Nat → Int32) × Int32) :=
  bd1 (f_X1_hasNode N g_nodes p1) fun r_1 =>
  if r_1 = 0 then some (0, g_edges, g_low, g_high, g_degree, g_turns, tx_due)
  else if p1 = tx_from then some (0, g_edges, g_low, g_high, g_degree, g_turns, tx_due)
  else bd1 (f_X1_areJoined N g_edges g_low g_high tx_from p1) fun r_4 =>
  if r_4 = 0 then chk (inb tx_from 9) (chk (inb p1 9) (bd1 (f_X1_connect N g_edges g_low g_high g_degree g_turns tx_from p1 (g_degree tx_from.toNatClampNeg) (g_degree p1.toNatClampNeg)) fun r_8 =>
  some (1, r_8.2.1, r_8.2.2.1, r_8.2.2.2.1, r_8.2.2.2.2.1, r_8.2.2.2.2.2, 4)))
  else some (0, g_edges, g_low, g_high, g_degree, g_turns, tx_due)
def f_X5_take (N : Nat) (g_nodes : Int32) (g_edges : Int32) (g_low : Nat → Int32) (g_high : Nat → Int32) (g_degree : Nat → Int32) (g_turns : Nat → Int32) (tx_due : Int32) (tx_from : Int32) (p1 : Int32) : Option (Int32 × Int32 × Int32 × (Nat → Int32) × (Nat → Int32) × (Nat → Int32) × (Nat → Int32) × Int32 × Int32) :=
  nm ((p1 - 48)) fun x3_1 =>
  if tx_due = 0 then bd1 (f_X5_takeNodes N g_nodes g_edges g_degree tx_due x3_1) fun r_3 =>
  chk (isB r_3.1) (some (r_3.1, r_3.2.1, r_3.2.2.1, g_low, g_high, r_3.2.2.2.1, g_turns, r_3.2.2.2.2, tx_from))
  else if tx_due = 1 then if ¬ p1 = 58 then some (0, g_nodes, g_edges, g_low, g_high, g_degree, g_turns, 2, tx_from)
  else some (1, g_nodes, g_edges, g_low, g_high, g_degree, g_turns, 2, tx_from)
  else if tx_due = 2 then bd1 (f_X1_hasNode N g_nodes x3_1) fun r_8 =>
  if r_8 = 0 then some (0, g_nodes, g_edges, g_low, g_high, g_degree, g_turns, 3, x3_1)
  else if 20 ≤ g_edges then some (0, g_nodes, g_edges, g_low, g_high, g_degree, g_turns, 3, x3_1)
  else some (1, g_nodes, g_edges, g_low, g_high, g_degree, g_turns, 3, x3_1)
  else if tx_due = 3 then bd1 (f_X5_takeSecondEnd N g_nodes g_edges g_low g_high g_degree g_turns tx_due tx_from x3_1) fun r_12 =>
  chk (isB r_12.1) (some (r_12.1, g_nodes, r_12.2.1, r_12.2.2.1, r_12.2.2.2.1, r_12.2.2.2.2.1, r_12.2.2.2.2.2.1, r_12.2.2.2.2.2.2, tx_from))
  else if ¬ p1 = 59 then some (0, g_nodes, g_edges, g_low, g_high, g_degree, g_turns, 2, tx_from)
  else some (1, g_nodes, g_edges, g_low, g_high, g_degree, g_turns, 2, tx_from)
def f_X5_read_b48 (N : Nat) (tx_length : Int32) (tx_characters : Nat → Int32) (g_nodes : Int32) (g_edges : Int32) (g_low : Nat → Int32) (g_high : Nat → Int32) (g_degree : Nat → Int32) (g_turns : Nat → Int32) (tx_due : Int32) (tx_from : Int32) : Option (Int32 × Int32 × Int32 × (Nat → Int32) × (Nat → Int32) × (Nat → Int32) × (Nat → Int32) × Int32 × Int32) :=
  if ¬ tx_due = 2 then some (tx_length, g_nodes, g_edges, g_low, g_high, g_degree, g_turns, tx_due, tx_from)
  else some ((-1), g_nodes, g_edges, g_low, g_high, g_degree, g_turns, tx_due, tx_from)
def f_X5_read_b42 (N : Nat) (tx_length : Int32) (tx_characters : Nat → Int32) (k7 : Int32 → Int32 → Int32 → (Nat → Int32) → (Nat → Int32) → (Nat → Int32) → (Nat → Int32) → Int32 → Int32 → Option (Int32 × Int32 × Int32 × (Nat → Int32) × (Nat → Int32) × (Nat → Int32) × (Nat → Int32) × Int32 × Int32)) (x2 : Int32) (g_nodes : Int32) (g_edges : Int32) (g_low : Nat → Int32) (g_high : Nat → Int32) (g_degree : Nat → Int32) (g_turns : Nat → Int32) (tx_due : Int32) (tx_from : Int32) : Option (Int32 × Int32 × Int32 × (Nat → Int32) × (Nat → Int32) × (Nat → Int32) × (Nat → Int32) × Int32 × Int32) :=
  k7 (x2 + 1) g_nodes g_edges g_low g_high g_degree g_turns tx_due tx_from
def f_X5_read_b7 (N : Nat) (tx_length : Int32) (tx_characters : Nat → Int32) : Nat → Int32 → Int32 → Int32 → (Nat → Int32) → (Nat → Int32) → (Nat → Int32) → (Nat → Int32) → Int32 → Int32 → Option (Int32 × Int32 × Int32 × (Nat → Int32) × (Nat → Int32) × (Nat → Int32) × (Nat → Int32) × Int32 × Int32)
  | 0 => fun _ _ _ _ _ _ _ _ _ => none
  | n + 1 => fun x2 g_nodes g_edges g_low g_high g_degree g_turns tx_due tx_from =>
  if tx_length ≤ x2 then f_X5_read_b48 N tx_length tx_characters g_nodes g_edges g_low g_high g_degree g_turns tx_due tx_from
  else chk (inb x2 100) (if (tx_characters x2.toNatClampNeg) = 32 then f_X5_read_b42 N tx_length tx_characters (f_X5_read_b7 N tx_length tx_characters n) x2 g_nodes g_edges g_low g_high g_degree g_turns tx_due tx_from
  else chk (inb x2 100) (bd1 (f_X5_take N g_nodes g_edges g_low g_high g_degree g_turns tx_due tx_from (tx_characters x2.toNatClampNeg)) fun r_5 =>
  if ¬ r_5.1 = 0 then f_X5_read_b42 N tx_length tx_characters (f_X5_read_b7 N tx_length tx_characters n) x2 r_5.2.1 r_5.2.2.1 r_5.2.2.2.1 r_5.2.2.2.2.1 r_5.2.2.2.2.2.1 r_5.2.2.2.2.2.2.1 r_5.2.2.2.2.2.2.2.1 r_5.2.2.2.2.2.2.2.2
  else some (x2, r_5.2.1, r_5.2.2.1, r_5.2.2.2.1, r_5.2.2.2.2.1, r_5.2.2.2.2.2.1, r_5.2.2.2.2.2.2.1, r_5.2.2.2.2.2.2.2.1, r_5.2.2.2.2.2.2.2.2)))
def f_X5_read (N : Nat) (g_nodes : Int32) (g_edges : Int32) (g_low : Nat → Int32) (g_high : Nat → Int32) (g_degree : Nat → Int32) (g_turns : Nat → Int32) (tx_length : Int32) (tx_characters : Nat → Int32) (tx_due : Int32) (tx_from : Int32) : Option (Int32 × Int32 × Int32 × (Nat → Int32) × (Nat → Int32) × (Nat → Int32) × (Nat → Int32) × Int32 × Int32) :=
  f_X5_read_b7 N tx_length tx_characters N 0 g_nodes g_edges g_low g_high g_degree g_turns 0 tx_from
def f_X6_chooseStart_b95 (N : Nat) (f_number : Int32) (f_nodeSet : Nat → Int32) (wa_distance : Nat → Int32) (k11 : Int32 → Int32 → Int32 → Int32 → Option (Int32 × Int32)) (x2 : Int32) (x3 : Int32) (x4 : Int32) (wa_cost : Int32) : Option (Int32 × Int32) :=
  k11 x2 x3 (x4 + 1) wa_cost
def f_X6_chooseStart_b83 (N : Nat) (f_number : Int32) (f_nodeSet : Nat → Int32) (wa_distance : Nat → Int32) (k11 : Int32 → Int32 → Int32 → Int32 → Option (Int32 × Int32)) (x2 : Int32) (x4 : Int32) (y0 : Int32) (wa_cost : Int32) : Option (Int32 × Int32) :=
  chk (inb x4 40) (f_X6_chooseStart_b95 N f_number f_nodeSet wa_distance k11 x2 y0 x4 (wa_distance x4.toNatClampNeg))
def f_X6_chooseStart_b11 (N : Nat) (f_number : Int32) (f_nodeSet : Nat → Int32) (wa_distance : Nat → Int32) : Nat → Int32 → Int32 → Int32 → Int32 → Option (Int32 × Int32)
  | 0 => fun _ _ _ _ => none
  | n + 1 => fun x2 x3 x4 wa_cost =>
  if f_number ≤ x4 then some (x3, wa_cost)
  else bd1 (f_X0_holds N f_nodeSet x4 x2) fun r_2 =>
  if r_2 = 0 then f_X6_chooseStart_b95 N f_number f_nodeSet wa_distance (f_X6_chooseStart_b11 N f_number f_nodeSet wa_distance n) x2 x3 x4 wa_cost
  else chk (inb x4 40) (if (wa_distance x4.toNatClampNeg) < 0 then f_X6_chooseStart_b95 N f_number f_nodeSet wa_distance (f_X6_chooseStart_b11 N f_number f_nodeSet wa_distance n) x2 x3 x4 wa_cost
  else chk (inb x4 40) (if wa_cost < (wa_distance x4.toNatClampNeg) then f_X6_chooseStart_b95 N f_number f_nodeSet wa_distance (f_X6_chooseStart_b11 N f_number f_nodeSet wa_distance n) x2 x3 x4 wa_cost
  else chk (inb x4 40) (if wa_cost ≤ (wa_distance x4.toNatClampNeg) then bd1 (f_X7_bit N x4) fun r_10 =>
  f_X6_chooseStart_b83 N f_number f_nodeSet wa_distance (f_X6_chooseStart_b11 N f_number f_nodeSet wa_distance n) x2 x4 (x3 ||| r_10) wa_cost
  else bd1 (f_X7_bit N x4) fun r_11 =>
  f_X6_chooseStart_b83 N f_number f_nodeSet wa_distance (f_X6_chooseStart_b11 N f_number f_nodeSet wa_distance n) x2 x4 r_11 wa_cost)))
def f_X6_chooseStart (N : Nat) (f_number : Int32) (f_nodeSet : Nat → Int32) (wa_cost : Int32) (wa_distance : Nat → Int32) (p2 : Int32) : Option (Int32 × Int32) :=
  f_X6_chooseStart_b11 N f_number f_nodeSet wa_distance N p2 0 0 40
def f_X6_cross_b75 (N : Nat) (f_owner : Nat → Int32) (g_edges : Int32) (wa_cost : Int32) (wa_distance : Nat → Int32) (k3 : Int32 → Int32 → Int32 → (Nat → Int32) → Option (Int32 × (Nat → Int32))) (x3 : Int32) (x4 : Int32) (x5 : Int32) (wa_crossedEdges : Nat → Int32) : Option (Int32 × (Nat → Int32)) :=
  k3 x3 x4 (x5 + 1) wa_crossedEdges
def f_X6_cross_b58 (N : Nat) (f_owner : Nat → Int32) (g_edges : Int32) (wa_cost : Int32) (wa_distance : Nat → Int32) (x4 : Int32) (x5 : Int32) (x6 : Int32) (wa_crossedEdges : Nat → Int32) : Option (Int32 × (Nat → Int32)) :=
  chk (inb x4 40) (bd1 (f_X7_bit N x6) fun r_10 =>
  some (r_10, (upd wa_crossedEdges x4.toNatClampNeg (x5 / 2))))
def f_X6_cross_b3 (N : Nat) (f_owner : Nat → Int32) (g_edges : Int32) (wa_cost : Int32) (wa_distance : Nat → Int32) : Nat → Int32 → Int32 → Int32 → (Nat → Int32) → Option (Int32 × (Nat → Int32))
  | 0 => fun _ _ _ _ => none
  | n + 1 => fun x3 x4 x5 wa_crossedEdges =>
  if (2 * g_edges) ≤ x5 then some (x3, wa_crossedEdges)
  else chk (inb (x5 ^^^ 1) 40) (nm ((f_owner (x5 ^^^ 1).toNatClampNeg)) fun x6_3 =>
  chk (inb x5 40) (bd1 (f_X7_contains N x3 (f_owner x5.toNatClampNeg)) fun r_5 =>
  if r_5 = 0 then f_X6_cross_b75 N f_owner g_edges wa_cost wa_distance (f_X6_cross_b3 N f_owner g_edges wa_cost wa_distance n) x3 x4 x5 wa_crossedEdges
  else chk (inb x6_3 40) (if ¬ (wa_distance x6_3.toNatClampNeg) = ((wa_cost - x4) - 1) then f_X6_cross_b75 N f_owner g_edges wa_cost wa_distance (f_X6_cross_b3 N f_owner g_edges wa_cost wa_distance n) x3 x4 x5 wa_crossedEdges
  else f_X6_cross_b58 N f_owner g_edges wa_cost wa_distance x4 x5 x6_3 wa_crossedEdges)))
def f_X6_cross (N : Nat) (f_owner : Nat → Int32) (g_edges : Int32) (wa_cost : Int32) (wa_crossedEdges : Nat → Int32) (wa_distance : Nat → Int32) (p3 : Int32) (p4 : Int32) : Option (Int32 × (Nat → Int32)) :=
  f_X6_cross_b3 N f_owner g_edges wa_cost wa_distance N p3 p4 0 wa_crossedEdges
def f_X6_measure_b121 (N : Nat) (f_number : Int32) (f_owner : Nat → Int32) (f_nodeSet : Nat → Int32) (g_edges : Int32) (k43 : Int32 → (Nat → Int32) → Option ((Nat → Int32))) (x4 : Int32) (wa_distance : Nat → Int32) : Option ((Nat → Int32)) :=
  k43 (x4 + 1) wa_distance
def f_X6_measure_b115 (N : Nat) (f_number : Int32) (f_owner : Nat → Int32) (f_nodeSet : Nat → Int32) (g_edges : Int32) (k43 : Int32 → (Nat → Int32) → Option ((Nat → Int32))) (k55 : Int32 → Int32 → (Nat → Int32) → Option ((Nat → Int32))) (x4 : Int32) (x5 : Int32) (wa_distance : Nat → Int32) : Option ((Nat → Int32)) :=
  k55 x4 (x5 + 1) wa_distance
def f_X6_measure_b55 (N : Nat) (f_number : Int32) (f_owner : Nat → Int32) (f_nodeSet : Nat → Int32) (g_edges : Int32) (k43 : Int32 → (Nat → Int32) → Option ((Nat → Int32))) : Nat → Int32 → Int32 → (Nat → Int32) → Option ((Nat → Int32))
  | 0 => fun _ _ _ => none
  | n + 1 => fun x4 x5 wa_distance =>
  if (2 * g_edges) ≤ x5 then f_X6_measure_b121 N f_number f_owner f_nodeSet g_edges k43 x4 wa_distance
  else chk (inb (x5 ^^^ 1) 40) (nm ((f_owner (x5 ^^^ 1).toNatClampNeg)) fun x6_8 =>
  chk (inb x5 40) (chk (inb (f_owner x5.toNatClampNeg) 40) (if ¬ (wa_distance (f_owner x5.toNatClampNeg).toNatClampNeg) = x4 then f_X6_measure_b115 N f_number f_owner f_nodeSet g_edges k43 (f_X6_measure_b55 N f_number f_owner f_nodeSet g_edges k43 n) x4 x5 wa_distance
  else chk (inb x6_8 40) (if 0 ≤ (wa_distance x6_8.toNatClampNeg) then f_X6_measure_b115 N f_number f_owner f_nodeSet g_edges k43 (f_X6_measure_b55 N f_number f_owner f_nodeSet g_edges k43 n) x4 x5 wa_distance
  else chk (inb x6_8 40) (f_X6_measure_b115 N f_number f_owner f_nodeSet g_edges k43 (f_X6_measure_b55 N f_number f_owner f_nodeSet g_edges k43 n) x4 x5 (upd wa_distance x6_8.toNatClampNeg (x4 + 1)))))))
def f_X6_measure_b43 (N : Nat) (f_number : Int32) (f_owner : Nat → Int32) (f_nodeSet : Nat → Int32) (g_edges : Int32) : Nat → Int32 → (Nat → Int32) → Option ((Nat → Int32))
  | 0 => fun _ _ => none
  | n + 1 => fun x4 wa_distance =>
  if f_number ≤ x4 then some wa_distance
  else f_X6_measure_b55 N f_number f_owner f_nodeSet g_edges (f_X6_measure_b43 N f_number f_owner f_nodeSet g_edges n) N x4 0 wa_distance
def f_X6_measure_b40 (N : Nat) (f_number : Int32) (f_owner : Nat → Int32) (f_nodeSet : Nat → Int32) (g_edges : Int32) (wa_distance : Nat → Int32) : Option ((Nat → Int32)) :=
  f_X6_measure_b43 N f_number f_owner f_nodeSet g_edges N 0 wa_distance
def f_X6_measure_b33 (N : Nat) (f_number : Int32) (f_owner : Nat → Int32) (f_nodeSet : Nat → Int32) (g_edges : Int32) (k3 : Int32 → Int32 → (Nat → Int32) → Option ((Nat → Int32))) (x3 : Int32) (x4 : Int32) (y1 : Int32) (y2 : Int32) (wa_distance : Nat → Int32) : Option ((Nat → Int32)) :=
  chk (inb y1 40) (k3 x3 (x4 + 1) (upd wa_distance y1.toNatClampNeg y2))
def f_X6_measure_b3 (N : Nat) (f_number : Int32) (f_owner : Nat → Int32) (f_nodeSet : Nat → Int32) (g_edges : Int32) : Nat → Int32 → Int32 → (Nat → Int32) → Option ((Nat → Int32))
  | 0 => fun _ _ _ => none
  | n + 1 => fun x3 x4 wa_distance =>
  if f_number ≤ x4 then f_X6_measure_b40 N f_number f_owner f_nodeSet g_edges wa_distance
  else bd1 (f_X0_holds N f_nodeSet x4 x3) fun r_2 =>
  if r_2 = 0 then f_X6_measure_b33 N f_number f_owner f_nodeSet g_edges (f_X6_measure_b3 N f_number f_owner f_nodeSet g_edges n) x3 x4 x4 (-1) wa_distance
  else f_X6_measure_b33 N f_number f_owner f_nodeSet g_edges (f_X6_measure_b3 N f_number f_owner f_nodeSet g_edges n) x3 x4 x4 0 wa_distance
def f_X6_measure (N : Nat) (f_number : Int32) (f_owner : Nat → Int32) (f_nodeSet : Nat → Int32) (g_edges : Int32) (wa_distance : Nat → Int32) (p3 : Int32) : Option ((Nat → Int32)) :=
  f_X6_measure_b3 N f_number f_owner f_nodeSet g_edges N p3 0 wa_distance
def f_X6_find_b35 (N : Nat) (f_number : Int32) (f_owner : Nat → Int32) (f_nodeSet : Nat → Int32) (f_near : Nat → Int32) (g_edges : Int32) : Nat → Int32 → Int32 → Int32 → (Nat → Int32) → (Nat → Int32) → Option (Int32 × (Nat → Int32) × (Nat → Int32))
  | 0 => fun _ _ _ _ _ => none
  | n + 1 => fun x5 x6 wa_cost wa_crossedEdges wa_distance =>
  if wa_cost ≤ x6 then some (wa_cost, wa_crossedEdges, wa_distance)
  else bd1 (f_X6_cross N f_owner g_edges wa_cost wa_crossedEdges wa_distance x5 x6) fun r_7 =>
  nm (r_7.1) fun x5_8 =>
  (f_X6_find_b35 N f_number f_owner f_nodeSet f_near g_edges n) x5_8 (x6 + 1) wa_cost r_7.2 wa_distance
def f_X6_find (N : Nat) (f_number : Int32) (f_owner : Nat → Int32) (f_nodeSet : Nat → Int32) (f_near : Nat → Int32) (g_edges : Int32) (wa_cost : Int32) (wa_crossedEdges : Nat → Int32) (wa_distance : Nat → Int32) (p3 : Int32) (p4 : Int32) : Option (Int32 × (Nat → Int32) × (Nat → Int32)) :=
  bd1 (f_X0_areConnected N f_near p3 p4) fun r_1 =>
  if ¬ r_1 = 0 then bd1 (f_X6_measure N f_number f_owner f_nodeSet g_edges wa_distance p4) fun r_3 =>
  bd1 (f_X6_chooseStart N f_number f_nodeSet 0 r_3 p3) fun r_4 =>
  nm (r_4.1) fun x5_5 =>
  f_X6_find_b35 N f_number f_owner f_nodeSet f_near g_edges N x5_5 0 r_4.2 wa_crossedEdges r_3
  else some (0, wa_crossedEdges, wa_distance)
