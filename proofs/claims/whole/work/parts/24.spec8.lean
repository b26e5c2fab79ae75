def f_X8_across (N : Nat) (m_s : Nat → Int32) (p1 : Int32) (p2 : Int32) : Option (Int32) :=
  chk (inb (3 + p1) 124) (if ¬ (m_s (3 + p1).toNatClampNeg) = p2 then chk (inb (3 + p1) 124) (some (m_s (3 + p1).toNatClampNeg))
  else chk (inb (23 + p1) 124) (some (m_s (23 + p1).toNatClampNeg)))
def f_X8_in (N : Nat) (p0 : Int32) (p1 : Int32) (p2 : Int32) : Option (Int32) :=
  if p0 < p1 then some 0
  else if p2 < p0 then some 0
  else some 1
def f_X8_isNode (N : Nat) (m_s : Nat → Int32) (p1 : Int32) : Option (Int32) :=
  chk (inb 0 124) (bd1 (f_X8_in N p1 0 ((m_s (0 : Int32).toNatClampNeg) - 1)) fun r_2 =>
  chk (isB r_2) (some r_2))
def f_X8_areNodes (N : Nat) (m_s : Nat → Int32) (p1 : Int32) (p2 : Int32) : Option (Int32) :=
  bd1 (f_X8_isNode N m_s p1) fun r_1 =>
  if r_1 = 0 then some 0
  else bd1 (f_X8_isNode N m_s p2) fun r_3 =>
  if r_3 = 0 then some 0
  else if p1 = p2 then some 0
  else some 1
def f_X8_isEdge (N : Nat) (m_s : Nat → Int32) (p1 : Int32) : Option (Int32) :=
  chk (inb 1 124) (bd1 (f_X8_in N p1 0 ((m_s (1 : Int32).toNatClampNeg) - 1)) fun r_2 =>
  chk (isB r_2) (some r_2))
def f_X8_isAt_b33 (N : Nat) (m_s : Nat → Int32) : Option (Int32) :=
  some 1
def f_X8_isAt (N : Nat) (m_s : Nat → Int32) (p1 : Int32) (p2 : Int32) : Option (Int32) :=
  bd1 (f_X8_isEdge N m_s p1) fun r_1 =>
  if r_1 = 0 then some 0
  else chk (inb (3 + p1) 124) (if (m_s (3 + p1).toNatClampNeg) = p2 then f_X8_isAt_b33 N m_s 
  else chk (inb (23 + p1) 124) (if ¬ (m_s (23 + p1).toNatClampNeg) = p2 then some 0
  else f_X8_isAt_b33 N m_s ))
def f_X8_between_b43 (N : Nat) (m_s : Nat → Int32) (k6 : Int32 → Int32 → Int32 → Int32 → Option (Int32)) (x1 : Int32) (x2 : Int32) (x4 : Int32) (y0 : Int32) : Option (Int32) :=
  k6 x1 x2 y0 (x4 + 1)
def f_X8_between_b42 (N : Nat) (m_s : Nat → Int32) (k6 : Int32 → Int32 → Int32 → Int32 → Option (Int32)) (x1 : Int32) (x2 : Int32) (x3 : Int32) (x4 : Int32) : Option (Int32) :=
  f_X8_between_b43 N m_s k6 x1 x2 x4 x3
def f_X8_between_b6 (N : Nat) (m_s : Nat → Int32) : Nat → Int32 → Int32 → Int32 → Int32 → Option (Int32)
  | 0 => fun _ _ _ _ => none
  | n + 1 => fun x1 x2 x3 x4 =>
  chk (inb 1 124) (if (m_s (1 : Int32).toNatClampNeg) ≤ x4 then some x3
  else bd1 (f_X8_isAt N m_s x4 x1) fun r_3 =>
  if r_3 = 0 then f_X8_between_b42 N m_s (f_X8_between_b6 N m_s n) x1 x2 x3 x4
  else bd1 (f_X8_isAt N m_s x4 x2) fun r_5 =>
  if r_5 = 0 then f_X8_between_b42 N m_s (f_X8_between_b6 N m_s n) x1 x2 x3 x4
  else f_X8_between_b43 N m_s (f_X8_between_b6 N m_s n) x1 x2 x4 x4)
def f_X8_between (N : Nat) (m_s : Nat → Int32) (p1 : Int32) (p2 : Int32) : Option (Int32) :=
  f_X8_between_b6 N m_s N p1 p2 (-9) 0
def f_X8_notes_b83 (N : Nat) (m_s : Nat → Int32) (m_past : Nat → Int32) (m_pasts : Int32) : Option ((Nat → Int32) × Int32) :=
  some (m_past, (m_pasts + 1))
def f_X8_notes_b51 (N : Nat) (m_s : Nat → Int32) : Nat → Int32 → (Nat → Int32) → Int32 → Option ((Nat → Int32) × Int32)
  | 0 => fun _ _ _ => none
  | n + 1 => fun x1 m_past m_pasts =>
  if 124 ≤ x1 then f_X8_notes_b83 N m_s m_past m_pasts
  else chk (inb x1 124) (chk (inb ((124 * m_pasts) + x1) 744) ((f_X8_notes_b51 N m_s n) (x1 + 1) (upd m_past ((124 * m_pasts) + x1).toNatClampNeg (m_s x1.toNatClampNeg)) m_pasts))
def f_X8_notes_b49 (N : Nat) (m_s : Nat → Int32) (m_past : Nat → Int32) (m_pasts : Int32) : Option ((Nat → Int32) × Int32) :=
  f_X8_notes_b51 N m_s N 0 m_past m_pasts
def f_X8_notes_b39 (N : Nat) (m_s : Nat → Int32) (m_past : Nat → Int32) (m_pasts : Int32) : Option ((Nat → Int32) × Int32) :=
  f_X8_notes_b49 N m_s m_past (m_pasts - 1)
def f_X8_notes_b11 (N : Nat) (m_s : Nat → Int32) : Nat → Int32 → (Nat → Int32) → Int32 → Option ((Nat → Int32) × Int32)
  | 0 => fun _ _ _ => none
  | n + 1 => fun x1 m_past m_pasts =>
  if 620 ≤ x1 then f_X8_notes_b39 N m_s m_past m_pasts
  else chk (inb (x1 + 124) 744) (chk (inb x1 744) ((f_X8_notes_b11 N m_s n) (x1 + 1) (upd m_past x1.toNatClampNeg (m_past (x1 + 124).toNatClampNeg)) m_pasts))
def f_X8_notes (N : Nat) (m_s : Nat → Int32) (m_past : Nat → Int32) (m_pasts : Int32) : Option ((Nat → Int32) × Int32) :=
  if ¬ m_pasts = 6 then f_X8_notes_b49 N m_s m_past m_pasts
  else f_X8_notes_b11 N m_s N 0 m_past m_pasts
def f_X8_turn (N : Nat) (m_s : Nat → Int32) (p1 : Int32) (p2 : Int32) : Option (Int32) :=
  chk (inb ((52 + (8 * p1)) + p2) 124) (some (m_s ((52 + (8 * p1)) + p2).toNatClampNeg))
def f_X8_place_b2 (N : Nat) (m_s : Nat → Int32) : Nat → Int32 → Int32 → Int32 → Option (Int32)
  | 0 => fun _ _ _ => none
  | n + 1 => fun x1 x2 x3 =>
  bd1 (f_X8_turn N m_s x1 x3) fun r_1 =>
  if r_1 = x2 then some x3
  else (f_X8_place_b2 N m_s n) x1 x2 (x3 + 1)
def f_X8_place (N : Nat) (m_s : Nat → Int32) (p1 : Int32) (p2 : Int32) : Option (Int32) :=
  f_X8_place_b2 N m_s N p1 p2 0
def f_X8_puts_b55 (N : Nat) (x1 : Int32) (x2 : Int32) (x3 : Int32) (m_s : Nat → Int32) : Option ((Nat → Int32)) :=
  chk (inb ((52 + (8 * x1)) + x2) 124) (chk (inb (43 + x1) 124) (chk (inb (43 + x1) 124) (some (upd (upd m_s ((52 + (8 * x1)) + x2).toNatClampNeg x3) (43 + x1).toNatClampNeg (((upd m_s ((52 + (8 * x1)) + x2).toNatClampNeg x3) (43 + x1).toNatClampNeg) + 1)))))
def f_X8_puts_b11 (N : Nat) : Nat → Int32 → Int32 → Int32 → Int32 → (Nat → Int32) → Option ((Nat → Int32))
  | 0 => fun _ _ _ _ _ => none
  | n + 1 => fun x1 x2 x3 x4 m_s =>
  if x4 ≤ x2 then f_X8_puts_b55 N x1 x2 x3 m_s
  else chk (inb (((52 + (8 * x1)) + x4) - 1) 124) (chk (inb ((52 + (8 * x1)) + x4) 124) ((f_X8_puts_b11 N n) x1 x2 x3 (x4 + (-1)) (upd m_s ((52 + (8 * x1)) + x4).toNatClampNeg (m_s (((52 + (8 * x1)) + x4) - 1).toNatClampNeg))))
def f_X8_puts (N : Nat) (m_s : Nat → Int32) (p1 : Int32) (p2 : Int32) (p3 : Int32) : Option ((Nat → Int32)) :=
  chk (inb (43 + p1) 124) (nm ((m_s (43 + p1).toNatClampNeg)) fun x4_2 =>
  f_X8_puts_b11 N N p1 p2 p3 x4_2 m_s)
def f_X8_joins_b46 (N : Nat) (x1 : Int32) (x2 : Int32) (x3 : Int32) (x4 : Int32) (x5 : Int32) (y1 : Int32) (y2 : Int32) (m_s : Nat → Int32) : Option (Int32 × (Nat → Int32)) :=
  chk (inb y1 124) (bd1 (f_X8_puts N (upd m_s y1.toNatClampNeg y2) x1 x3 x5) fun r_7 =>
  bd1 (f_X8_puts N r_7 x2 x4 x5) fun r_8 =>
  chk (inb 1 124) (chk (inb 1 124) (chk (inb 2 124) (some (x5, (upd (upd r_8 (1 : Int32).toNatClampNeg ((r_8 (1 : Int32).toNatClampNeg) + 1)) (2 : Int32).toNatClampNeg 0))))))
def f_X8_joins_b26 (N : Nat) (x1 : Int32) (x2 : Int32) (x3 : Int32) (x4 : Int32) (x5 : Int32) (y1 : Int32) (y2 : Int32) (m_s : Nat → Int32) : Option (Int32 × (Nat → Int32)) :=
  chk (inb y1 124) (if x2 ≤ x1 then f_X8_joins_b46 N x1 x2 x3 x4 x5 (23 + x5) x1 (upd m_s y1.toNatClampNeg y2)
  else f_X8_joins_b46 N x1 x2 x3 x4 x5 (23 + x5) x2 (upd m_s y1.toNatClampNeg y2))
def f_X8_joins (N : Nat) (m_s : Nat → Int32) (p1 : Int32) (p2 : Int32) (p3 : Int32) (p4 : Int32) : Option (Int32 × (Nat → Int32)) :=
  chk (inb 1 124) (nm ((m_s (1 : Int32).toNatClampNeg)) fun x5_2 =>
  if p2 ≤ p1 then f_X8_joins_b26 N p1 p2 p3 p4 x5_2 (3 + x5_2) p2 m_s
  else f_X8_joins_b26 N p1 p2 p3 p4 x5_2 (3 + x5_2) p1 m_s)
def f_X8_addEdge_b112 (N : Nat) (y1 : Int32) (y2 : Int32) (y3 : Int32) (y4 : Int32) (m_s : Nat → Int32) (m_past : Nat → Int32) (m_pasts : Int32) : Option (Int32 × (Nat → Int32) × (Nat → Int32) × Int32) :=
  bd1 (f_X8_joins N m_s y1 y2 y3 y4) fun r_18 =>
  some (r_18.1, r_18.2, m_past, m_pasts)
def f_X8_addEdge_b93 (N : Nat) (x2 : Int32) (x4 : Int32) (y1 : Int32) (y2 : Int32) (y3 : Int32) (m_s : Nat → Int32) (m_past : Nat → Int32) (m_pasts : Int32) : Option (Int32 × (Nat → Int32) × (Nat → Int32) × Int32) :=
  if ¬ x4 = (-1) then bd1 (f_X8_place N m_s x2 x4) fun r_17 =>
  f_X8_addEdge_b112 N y1 y2 y3 (r_17 + 1) m_s m_past m_pasts
  else f_X8_addEdge_b112 N y1 y2 y3 0 m_s m_past m_pasts
def f_X8_addEdge_b41 (N : Nat) (x1 : Int32) (x2 : Int32) (x3 : Int32) (x4 : Int32) (m_s : Nat → Int32) (m_past : Nat → Int32) (m_pasts : Int32) : Option (Int32 × (Nat → Int32) × (Nat → Int32) × Int32) :=
  bd1 (f_X8_between N m_s x1 x2) fun r_9 =>
  if r_9 = (-9) then chk (inb 1 124) (if ¬ (m_s (1 : Int32).toNatClampNeg) = 20 then bd1 (f_X8_notes N m_s m_past m_pasts) fun r_13 =>
  if ¬ x3 = (-1) then bd1 (f_X8_place N m_s x1 x3) fun r_15 =>
  f_X8_addEdge_b93 N x2 x4 x1 x2 (r_15 + 1) m_s r_13.1 r_13.2
  else f_X8_addEdge_b93 N x2 x4 x1 x2 0 m_s r_13.1 r_13.2
  else some ((-3), m_s, m_past, m_pasts))
  else some ((-2), m_s, m_past, m_pasts)
def f_X8_addEdge_b23 (N : Nat) (x1 : Int32) (x2 : Int32) (x3 : Int32) (x4 : Int32) (m_s : Nat → Int32) (m_past : Nat → Int32) (m_pasts : Int32) : Option (Int32 × (Nat → Int32) × (Nat → Int32) × Int32) :=
  if x4 = (-1) then f_X8_addEdge_b41 N x1 x2 x3 x4 m_s m_past m_pasts
  else bd1 (f_X8_isAt N m_s x4 x2) fun r_7 =>
  if ¬ r_7 = 0 then f_X8_addEdge_b41 N x1 x2 x3 x4 m_s m_past m_pasts
  else some ((-1), m_s, m_past, m_pasts)
def f_X8_addEdge (N : Nat) (m_s : Nat → Int32) (m_past : Nat → Int32) (m_pasts : Int32) (p1 : Int32) (p2 : Int32) (p3 : Int32) (p4 : Int32) : Option (Int32 × (Nat → Int32) × (Nat → Int32) × Int32) :=
  bd1 (f_X8_areNodes N m_s p1 p2) fun r_1 =>
  if r_1 = 0 then some ((-1), m_s, m_past, m_pasts)
  else if p3 = (-1) then f_X8_addEdge_b23 N p1 p2 p3 p4 m_s m_past m_pasts
  else bd1 (f_X8_isAt N m_s p3 p1) fun r_4 =>
  if r_4 = 0 then some ((-1), m_s, m_past, m_pasts)
  else f_X8_addEdge_b23 N p1 p2 p3 p4 m_s m_past m_pasts
def f_X8_tail (N : Nat) (m_s : Nat → Int32) (p1 : Int32) : Option (Int32) :=
  if ¬ (p1 - p1 / 2 * 2) = 0 then chk (inb (23 + (p1 / 2)) 124) (some (m_s (23 + (p1 / 2)).toNatClampNeg))
  else chk (inb (3 + (p1 / 2)) 124) (some (m_s (3 + (p1 / 2)).toNatClampNeg))
def f_X8_follows (N : Nat) (m_s : Nat → Int32) (p1 : Int32) : Option (Int32) :=
  nm ((p1 / 2)) fun x2_1 =>
  bd1 (f_X8_tail N m_s p1) fun r_2 =>
  bd1 (f_X8_across N m_s x2_1 r_2) fun r_3 =>
  bd1 (f_X8_place N m_s r_3 x2_1) fun r_4 =>
  chk (inb (43 + r_3) 124) (chk (nz (m_s (43 + r_3).toNatClampNeg)) (bd1 (f_X8_turn N m_s r_3 ((r_4 + 1) - (r_4 + 1) / (m_s (43 + r_3).toNatClampNeg) * (m_s (43 + r_3).toNatClampNeg))) fun r_7 =>
  chk (inb (3 + r_7) 124) (if ¬ (m_s (3 + r_7).toNatClampNeg) = r_3 then some ((2 * r_7) + 1)
  else some ((2 * r_7) + 0))))
def f_X8_walks_b110 (N : Nat) (m_s : Nat → Int32) (k35 : Int32 → (Nat → Int32) → (Nat → Int32) → Int32 → Option ((Nat → Int32) × (Nat → Int32) × Int32)) (x1 : Int32) (m_faceOfSide : Nat → Int32) (m_firstSide : Nat → Int32) (m_faces : Int32) : Option ((Nat → Int32) × (Nat → Int32) × Int32) :=
  k35 (x1 + 1) m_faceOfSide m_firstSide m_faces
def f_X8_walks_b90 (N : Nat) (m_s : Nat → Int32) (k35 : Int32 → (Nat → Int32) → (Nat → Int32) → Int32 → Option ((Nat → Int32) × (Nat → Int32) × Int32)) (x1 : Int32) (m_faceOfSide : Nat → Int32) (m_firstSide : Nat → Int32) (m_faces : Int32) : Option ((Nat → Int32) × (Nat → Int32) × Int32) :=
  chk (inb m_faces 40) (f_X8_walks_b110 N m_s k35 x1 m_faceOfSide (upd m_firstSide m_faces.toNatClampNeg x1) (m_faces + 1))
def f_X8_walks_b60 (N : Nat) (m_s : Nat → Int32) (k35 : Int32 → (Nat → Int32) → (Nat → Int32) → Int32 → Option ((Nat → Int32) × (Nat → Int32) × Int32)) : Nat → Int32 → Int32 → (Nat → Int32) → (Nat → Int32) → Int32 → Option ((Nat → Int32) × (Nat → Int32) × Int32)
  | 0 => fun _ _ _ _ _ => none
  | n + 1 => fun x1 x2 m_faceOfSide m_firstSide m_faces =>
  chk (inb x2 40) (if ¬ (m_faceOfSide x2.toNatClampNeg) = (-9) then f_X8_walks_b90 N m_s k35 x1 m_faceOfSide m_firstSide m_faces
  else chk (inb x2 40) (bd1 (f_X8_follows N m_s x2) fun r_11 =>
  (f_X8_walks_b60 N m_s k35 n) x1 r_11 (upd m_faceOfSide x2.toNatClampNeg m_faces) m_firstSide m_faces))
def f_X8_walks_b35 (N : Nat) (m_s : Nat → Int32) : Nat → Int32 → (Nat → Int32) → (Nat → Int32) → Int32 → Option ((Nat → Int32) × (Nat → Int32) × Int32)
  | 0 => fun _ _ _ _ => none
  | n + 1 => fun x1 m_faceOfSide m_firstSide m_faces =>
  chk (inb 1 124) (if (2 * (m_s (1 : Int32).toNatClampNeg)) ≤ x1 then some (m_faceOfSide, m_firstSide, m_faces)
  else chk (inb x1 40) (if ¬ (m_faceOfSide x1.toNatClampNeg) = (-9) then f_X8_walks_b110 N m_s (f_X8_walks_b35 N m_s n) x1 m_faceOfSide m_firstSide m_faces
  else f_X8_walks_b60 N m_s (f_X8_walks_b35 N m_s n) N x1 x1 m_faceOfSide m_firstSide m_faces))
def f_X8_walks_b28 (N : Nat) (m_s : Nat → Int32) (m_faceOfSide : Nat → Int32) (m_firstSide : Nat → Int32) (m_faces : Int32) : Option ((Nat → Int32) × (Nat → Int32) × Int32) :=
  f_X8_walks_b35 N m_s N 0 m_faceOfSide m_firstSide 0
def f_X8_walks_b2 (N : Nat) (m_s : Nat → Int32) : Nat → Int32 → (Nat → Int32) → (Nat → Int32) → Int32 → Option ((Nat → Int32) × (Nat → Int32) × Int32)
  | 0 => fun _ _ _ _ => none
  | n + 1 => fun x1 m_faceOfSide m_firstSide m_faces =>
  chk (inb 1 124) (if (2 * (m_s (1 : Int32).toNatClampNeg)) ≤ x1 then f_X8_walks_b28 N m_s m_faceOfSide m_firstSide m_faces
  else chk (inb x1 40) ((f_X8_walks_b2 N m_s n) (x1 + 1) (upd m_faceOfSide x1.toNatClampNeg (-9)) m_firstSide m_faces))
def f_X8_walks (N : Nat) (m_s : Nat → Int32) (m_faceOfSide : Nat → Int32) (m_firstSide : Nat → Int32) (m_faces : Int32) : Option ((Nat → Int32) × (Nat → Int32) × Int32) :=
  f_X8_walks_b2 N m_s N 0 m_faceOfSide m_firstSide m_faces
def f_X8_nodesOn_b38 (N : Nat) (m_s : Nat → Int32) (m_faceOfSide : Nat → Int32) (k4 : Int32 → Int32 → Int32 → Option (Int32)) (x1 : Int32) (x3 : Int32) (y0 : Int32) (y1 : Int32) : Option (Int32) :=
  nm ((y0 ||| y1)) fun x2_6 =>
  k4 x1 x2_6 (x3 + 1)
def f_X8_nodesOn_b4 (N : Nat) (m_s : Nat → Int32) (m_faceOfSide : Nat → Int32) : Nat → Int32 → Int32 → Int32 → Option (Int32)
  | 0 => fun _ _ _ => none
  | n + 1 => fun x1 x2 x3 =>
  chk (inb 1 124) (if (2 * (m_s (1 : Int32).toNatClampNeg)) ≤ x3 then some x2
  else chk (inb x3 40) (if ¬ (m_faceOfSide x3.toNatClampNeg) = x1 then f_X8_nodesOn_b38 N m_s m_faceOfSide (f_X8_nodesOn_b4 N m_s m_faceOfSide n) x1 x3 x2 0
  else bd1 (f_X8_tail N m_s x3) fun r_5 =>
  f_X8_nodesOn_b38 N m_s m_faceOfSide (f_X8_nodesOn_b4 N m_s m_faceOfSide n) x1 x3 x2 ((1 : Int32) <<< (r_5 &&& 31))))
def f_X8_nodesOn (N : Nat) (m_s : Nat → Int32) (m_faceOfSide : Nat → Int32) (p1 : Int32) : Option (Int32) :=
  f_X8_nodesOn_b4 N m_s m_faceOfSide N p1 0 0
def f_X8_corner_b25 (N : Nat) (m_s : Nat → Int32) (m_firstSide : Nat → Int32) (x2 : Int32) (x3 : Int32) : Option (Int32) :=
  bd1 (f_X8_place N m_s x2 (x3 / 2)) fun r_6 =>
  some r_6
def f_X8_corner_b7 (N : Nat) (m_s : Nat → Int32) (m_firstSide : Nat → Int32) : Nat → Int32 → Int32 → Option (Int32)
  | 0 => fun _ _ => none
  | n + 1 => fun x2 x3 =>
  bd1 (f_X8_tail N m_s x3) fun r_3 =>
  if r_3 = x2 then f_X8_corner_b25 N m_s m_firstSide x2 x3
  else bd1 (f_X8_follows N m_s x3) fun r_5 =>
  (f_X8_corner_b7 N m_s m_firstSide n) x2 r_5
def f_X8_corner (N : Nat) (m_s : Nat → Int32) (m_firstSide : Nat → Int32) (p1 : Int32) (p2 : Int32) : Option (Int32) :=
  chk (inb p1 40) (nm ((m_firstSide p1.toNatClampNeg)) fun x3_2 =>
  f_X8_corner_b7 N m_s m_firstSide N p2 x3_2)
def f_X8_addInFace (N : Nat) (m_s : Nat → Int32) (m_past : Nat → Int32) (m_pasts : Int32) (m_faceOfSide : Nat → Int32) (m_firstSide : Nat → Int32) (m_faces : Int32) (p1 : Int32) (p2 : Int32) (p3 : Int32) : Option (Int32 × (Nat → Int32) × (Nat → Int32) × Int32 × (Nat → Int32) × (Nat → Int32) × Int32) :=
  bd1 (f_X8_walks N m_s m_faceOfSide m_firstSide m_faces) fun r_1 =>
  bd1 (f_X8_areNodes N m_s p1 p2) fun r_2 =>
  if r_2 = 0 then some ((-1), m_s, m_past, m_pasts, r_1.1, r_1.2.1, r_1.2.2)
  else bd1 (f_X8_in N p3 0 (r_1.2.2 - 1)) fun r_4 =>
  if ¬ r_4 = 0 then bd1 (f_X8_nodesOn N m_s r_1.1 p3) fun r_6 =>
  bd1 (f_X8_between N m_s p1 p2) fun r_7 =>
  if ¬ r_7 = (-9) then some ((-2), m_s, m_past, m_pasts, r_1.1, r_1.2.1, r_1.2.2)
  else if ¬ (((r_6 >>> (p1 &&& 31)) &&& (r_6 >>> (p2 &&& 31))) &&& 1) = 0 then chk (inb 1 124) (if ¬ (m_s (1 : Int32).toNatClampNeg) = 20 then bd1 (f_X8_notes N m_s m_past m_pasts) fun r_12 =>
  bd1 (f_X8_corner N m_s r_1.2.1 p3 p1) fun r_13 =>
  bd1 (f_X8_corner N m_s r_1.2.1 p3 p2) fun r_14 =>
  bd1 (f_X8_joins N m_s p1 p2 r_13 r_14) fun r_15 =>
  some (r_15.1, r_15.2, r_12.1, r_12.2, r_1.1, r_1.2.1, r_1.2.2)
  else some ((-3), m_s, m_past, m_pasts, r_1.1, r_1.2.1, r_1.2.2))
  else some ((-2), m_s, m_past, m_pasts, r_1.1, r_1.2.1, r_1.2.2)
  else some ((-1), m_s, m_past, m_pasts, r_1.1, r_1.2.1, r_1.2.2)
def f_X8_adds (N : Nat) (m_ring : Nat → Int32) (m_ringSize : Nat → Int32) (m_ringNodes : Nat → Int32) (p1 : Int32) (p2 : Int32) : Option ((Nat → Int32) × (Nat → Int32) × (Nat → Int32)) :=
  chk (inb p1 40) (chk (inb ((10 * p1) + (m_ringSize p1.toNatClampNeg)) 400) (chk (inb p1 40) (chk (inb p1 40) (chk (inb p1 40) (chk (inb p1 40) (some ((upd m_ring ((10 * p1) + (m_ringSize p1.toNatClampNeg)).toNatClampNeg p2), (upd m_ringSize p1.toNatClampNeg ((m_ringSize p1.toNatClampNeg) + 1)), (upd m_ringNodes p1.toNatClampNeg ((m_ringNodes p1.toNatClampNeg) ||| ((1 : Int32) <<< (p2 &&& 31)))))))))))
def f_X8_laysEnds_b47 (N : Nat) (m_s : Nat → Int32) (x1 : Int32) (x2 : Int32) (m_endA : Nat → Int32) (m_endB : Nat → Int32) : Option ((Nat → Int32) × (Nat → Int32)) :=
  chk (inb 1 124) (chk (inb (m_s (1 : Int32).toNatClampNeg) 21) (chk (inb 1 124) (chk (inb (m_s (1 : Int32).toNatClampNeg) 21) (some ((upd m_endA (m_s (1 : Int32).toNatClampNeg).toNatClampNeg x1), (upd m_endB (m_s (1 : Int32).toNatClampNeg).toNatClampNeg x2))))))
def f_X8_laysEnds_b2 (N : Nat) (m_s : Nat → Int32) : Nat → Int32 → Int32 → Int32 → (Nat → Int32) → (Nat → Int32) → Option ((Nat → Int32) × (Nat → Int32))
  | 0 => fun _ _ _ _ _ => none
  | n + 1 => fun x1 x2 x3 m_endA m_endB =>
  chk (inb 1 124) (if (m_s (1 : Int32).toNatClampNeg) ≤ x3 then f_X8_laysEnds_b47 N m_s x1 x2 m_endA m_endB
  else chk (inb (3 + x3) 124) (chk (inb x3 21) (chk (inb (23 + x3) 124) (chk (inb x3 21) ((f_X8_laysEnds_b2 N m_s n) x1 x2 (x3 + 1) (upd m_endA x3.toNatClampNeg (m_s (3 + x3).toNatClampNeg)) (upd m_endB x3.toNatClampNeg (m_s (23 + x3).toNatClampNeg)))))))
def f_X8_laysEnds (N : Nat) (m_s : Nat → Int32) (m_endA : Nat → Int32) (m_endB : Nat → Int32) (p1 : Int32) (p2 : Int32) : Option ((Nat → Int32) × (Nat → Int32)) :=
  f_X8_laysEnds_b2 N m_s N p1 p2 0 m_endA m_endB
def f_X8_allEdges (N : Nat) (m_s : Nat → Int32) (m_endA : Nat → Int32) (m_endB : Nat → Int32) : Option (Int32 × (Nat → Int32) × (Nat → Int32)) :=
  bd1 (f_X8_laysEnds N m_s m_endA m_endB 0 0) fun r_1 =>
  chk (inb 1 124) (some ((((1 : Int32) <<< ((m_s (1 : Int32).toNatClampNeg) &&& 31)) - 1), r_1.1, r_1.2))
def f_X8_appendCharacter (N : Nat) (m_text : Nat → Int32) (m_typed : Int32) (p1 : Int32) : Option (Int32 × (Nat → Int32) × Int32) :=
  bd1 (f_X8_in N p1 0 255) fun r_1 =>
  if ¬ r_1 = 0 then if ¬ m_typed = 100 then chk (inb m_typed 100) (some ((m_typed + 1), (upd m_text m_typed.toNatClampNeg (vp_nar .byte ((p1 : Int32).toInt8.toInt32))), (m_typed + 1)))
  else some ((-3), m_text, m_typed)
  else some ((-1), m_text, m_typed)
def f_X8_turnOf (N : Nat) (m_xs : Nat → UInt32) (m_ys : Nat → UInt32) (p1 : Int32) (p2 : Int32) (p3 : Int32) : Option (UInt32) :=
  chk (inb p2 9) (chk (inb p1 9) (chk (nn32 (FP.fsub (m_xs p2.toNatClampNeg) (m_xs p1.toNatClampNeg))) (chk (inb p3 9) (chk (inb p1 9) (chk (nn32 (FP.fsub (m_ys p3.toNatClampNeg) (m_ys p1.toNatClampNeg))) (chk (nn32 (FP.fmul (FP.fsub (m_xs p2.toNatClampNeg) (m_xs p1.toNatClampNeg)) (FP.fsub (m_ys p3.toNatClampNeg) (m_ys p1.toNatClampNeg)))) (chk (inb p2 9) (chk (inb p1 9) (chk (nn32 (FP.fsub (m_ys p2.toNatClampNeg) (m_ys p1.toNatClampNeg))) (chk (inb p3 9) (chk (inb p1 9) (chk (nn32 (FP.fsub (m_xs p3.toNatClampNeg) (m_xs p1.toNatClampNeg))) (chk (nn32 (FP.fmul (FP.fsub (m_ys p2.toNatClampNeg) (m_ys p1.toNatClampNeg)) (FP.fsub (m_xs p3.toNatClampNeg) (m_xs p1.toNatClampNeg)))) (chk (nn32 (FP.fsub (FP.fmul (FP.fsub (m_xs p2.toNatClampNeg) (m_xs p1.toNatClampNeg)) (FP.fsub (m_ys p3.toNatClampNeg) (m_ys p1.toNatClampNeg))) (FP.fmul (FP.fsub (m_ys p2.toNatClampNeg) (m_ys p1.toNatClampNeg)) (FP.fsub (m_xs p3.toNatClampNeg) (m_xs p1.toNatClampNeg))))) (some (FP.fsub (FP.fmul (FP.fsub (m_xs p2.toNatClampNeg) (m_xs p1.toNatClampNeg)) (FP.fsub (m_ys p3.toNatClampNeg) (m_ys p1.toNatClampNeg))) (FP.fmul (FP.fsub (m_ys p2.toNatClampNeg) (m_ys p1.toNatClampNeg)) (FP.fsub (m_xs p3.toNatClampNeg) (m_xs p1.toNatClampNeg)))))))))))))))))))
def f_X8_areApart_b76 (N : Nat) (m_s : Nat → Int32) (m_xs : Nat → UInt32) (m_ys : Nat → UInt32) : Option (Int32) :=
  some 1
def f_X8_areApart_b62 (N : Nat) (m_s : Nat → Int32) (m_xs : Nat → UInt32) (m_ys : Nat → UInt32) (x4 : UInt32) (x5 : UInt32) : Option (Int32) :=
  if 0 ≤ (Op.cmpValue (FP.fcmp x4 FP.fconst0) .g) then some 0
  else if (Op.cmpValue (FP.fcmp x5 FP.fconst0) .l) ≤ 0 then some 0
  else f_X8_areApart_b76 N m_s m_xs m_ys 
def f_X8_areApart (N : Nat) (m_s : Nat → Int32) (m_xs : Nat → UInt32) (m_ys : Nat → UInt32) (p1 : Int32) (p2 : Int32) (p3 : Int32) : Option (Int32) :=
  chk (inb (3 + p1) 124) (chk (inb (23 + p1) 124) (bd1 (f_X8_turnOf N m_xs m_ys (m_s (3 + p1).toNatClampNeg) (m_s (23 + p1).toNatClampNeg) p2) fun r_3 =>
  chk (inb (3 + p1) 124) (chk (inb (23 + p1) 124) (bd1 (f_X8_turnOf N m_xs m_ys (m_s (3 + p1).toNatClampNeg) (m_s (23 + p1).toNatClampNeg) p3) fun r_6 =>
  if (Op.cmpValue (FP.fcmp r_3 FP.fconst0) .l) ≤ 0 then f_X8_areApart_b62 N m_s m_xs m_ys r_3 r_6
  else if (Op.cmpValue (FP.fcmp r_6 FP.fconst0) .g) < 0 then f_X8_areApart_b76 N m_s m_xs m_ys 
  else f_X8_areApart_b62 N m_s m_xs m_ys r_3 r_6))))
def f_X8_has (N : Nat) (p0 : Int32) (p1 : Int32) : Option (Int32) :=
  if ¬ ((p0 >>> (p1 &&& 31)) &&& 1) = 1 then some 0
  else some 1
def f_X8_reached_b103 (N : Nat) (m_endA : Nat → Int32) (m_endB : Nat → Int32) (k6 : Int32 → Int32 → Int32 → Int32 → Option (Int32)) (x2 : Int32) (x3 : Int32) (x4 : Int32) (y0 : Int32) : Option (Int32) :=
  k6 x2 x3 x4 y0
def f_X8_reached_b91 (N : Nat) (m_endA : Nat → Int32) (m_endB : Nat → Int32) (k6 : Int32 → Int32 → Int32 → Int32 → Option (Int32)) (x2 : Int32) (x3 : Int32) (x4 : Int32) (x6 : Int32) : Option (Int32) :=
  if x4 = x6 then f_X8_reached_b103 N m_endA m_endB k6 x2 x3 x4 0
  else f_X8_reached_b103 N m_endA m_endB k6 x2 x3 x4 1
def f_X8_reached_b82 (N : Nat) (m_endA : Nat → Int32) (m_endB : Nat → Int32) (k6 : Int32 → Int32 → Int32 → Int32 → Option (Int32)) (k18 : Int32 → Int32 → Int32 → Int32 → Int32 → Option (Int32)) (x2 : Int32) (x3 : Int32) (x6 : Int32) (x7 : Int32) (y0 : Int32) (y1 : Int32) : Option (Int32) :=
  nm ((y0 ||| y1)) fun x4_9 =>
  k18 x2 x3 x4_9 x6 (x7 + 1)
def f_X8_reached_b81 (N : Nat) (m_endA : Nat → Int32) (m_endB : Nat → Int32) (k6 : Int32 → Int32 → Int32 → Int32 → Option (Int32)) (k18 : Int32 → Int32 → Int32 → Int32 → Int32 → Option (Int32)) (x2 : Int32) (x3 : Int32) (x6 : Int32) (x7 : Int32) (y0 : Int32) : Option (Int32) :=
  f_X8_reached_b82 N m_endA m_endB k6 k18 x2 x3 x6 x7 y0 0
def f_X8_reached_b57 (N : Nat) (m_endA : Nat → Int32) (m_endB : Nat → Int32) (k6 : Int32 → Int32 → Int32 → Int32 → Option (Int32)) (k18 : Int32 → Int32 → Int32 → Int32 → Int32 → Option (Int32)) (x2 : Int32) (x3 : Int32) (x4 : Int32) (x6 : Int32) (x7 : Int32) (y0 : Int32) : Option (Int32) :=
  if (y0 &&& x4) = 0 then f_X8_reached_b81 N m_endA m_endB k6 k18 x2 x3 x6 x7 x4
  else if ¬ (y0 &&& x3) = 0 then f_X8_reached_b81 N m_endA m_endB k6 k18 x2 x3 x6 x7 x4
  else f_X8_reached_b82 N m_endA m_endB k6 k18 x2 x3 x6 x7 x4 y0
def f_X8_reached_b18 (N : Nat) (m_endA : Nat → Int32) (m_endB : Nat → Int32) (k6 : Int32 → Int32 → Int32 → Int32 → Option (Int32)) : Nat → Int32 → Int32 → Int32 → Int32 → Int32 → Option (Int32)
  | 0 => fun _ _ _ _ _ => none
  | n + 1 => fun x2 x3 x4 x6 x7 =>
  if 21 ≤ x7 then f_X8_reached_b91 N m_endA m_endB k6 x2 x3 x4 x6
  else bd1 (f_X8_has N x2 x7) fun r_3 =>
  if r_3 = 0 then f_X8_reached_b57 N m_endA m_endB k6 (f_X8_reached_b18 N m_endA m_endB k6 n) x2 x3 x4 x6 x7 0
  else chk (inb x7 21) (chk (inb x7 21) (f_X8_reached_b57 N m_endA m_endB k6 (f_X8_reached_b18 N m_endA m_endB k6 n) x2 x3 x4 x6 x7 (((1 : Int32) <<< ((m_endA x7.toNatClampNeg) &&& 31)) ||| ((1 : Int32) <<< ((m_endB x7.toNatClampNeg) &&& 31)))))
def f_X8_reached_b6 (N : Nat) (m_endA : Nat → Int32) (m_endB : Nat → Int32) : Nat → Int32 → Int32 → Int32 → Int32 → Option (Int32)
  | 0 => fun _ _ _ _ => none
  | n + 1 => fun x2 x3 x4 x5 =>
  if x5 = 0 then some x4
  else f_X8_reached_b18 N m_endA m_endB (f_X8_reached_b6 N m_endA m_endB n) N x2 x3 x4 x4 0
def f_X8_reached (N : Nat) (m_endA : Nat → Int32) (m_endB : Nat → Int32) (p1 : Int32) (p2 : Int32) (p3 : Int32) : Option (Int32) :=
  f_X8_reached_b6 N m_endA m_endB N p2 p3 p1 1
def f_X8_areInOne (N : Nat) (m_endA : Nat → Int32) (m_endB : Nat → Int32) (p1 : Int32) (p2 : Int32) (p3 : Int32) : Option (Int32) :=
  chk (inb p2 21) (chk (inb p2 21) (chk (inb p3 21) (chk (inb p3 21) (nm (((((1 : Int32) <<< ((m_endA p2.toNatClampNeg) &&& 31)) ||| ((1 : Int32) <<< ((m_endB p2.toNatClampNeg) &&& 31))) &&& (((1 : Int32) <<< ((m_endA p3.toNatClampNeg) &&& 31)) ||| ((1 : Int32) <<< ((m_endB p3.toNatClampNeg) &&& 31))))) fun x4_5 =>
  if ¬ x4_5 = 0 then chk (inb p2 21) (chk (inb p2 21) (nm (((((1 : Int32) <<< ((m_endA p2.toNatClampNeg) &&& 31)) ||| ((1 : Int32) <<< ((m_endB p2.toNatClampNeg) &&& 31))) &&& (x4_5 ^^^ (-1)))) fun x5_9 =>
  chk (inb p3 21) (chk (inb p3 21) (nm (((((1 : Int32) <<< ((m_endA p3.toNatClampNeg) &&& 31)) ||| ((1 : Int32) <<< ((m_endB p3.toNatClampNeg) &&& 31))) &&& (x4_5 ^^^ (-1)))) fun x6_12 =>
  bd1 (f_X8_reached N m_endA m_endB x5_9 p1 x4_5) fun r_13 =>
  if (r_13 &&& x6_12) = 0 then some 0
  else some 1))))
  else some 0))))
def f_X8_begins (N : Nat) (m_ringSize : Nat → Int32) (m_ringNodes : Nat → Int32) (p1 : Int32) : Option ((Nat → Int32) × (Nat → Int32)) :=
  chk (inb p1 40) (chk (inb p1 40) (some ((upd m_ringSize p1.toNatClampNeg 0), (upd m_ringNodes p1.toNatClampNeg 0))))
def f_X8_bits_b4 (N : Nat) : Nat → Int64 → Int32 → Int32 → Option (Int32)
  | 0 => fun _ _ _ => none
  | n + 1 => fun x0 x2 x3 =>
  if 40 ≤ x3 then some x2
  else nm ((x2 + ((((x0 >>> ((x3 : Int32).toInt64 &&& 63)) &&& (1 : Int64)) : Int64).toInt32))) fun x2_2 =>
  (f_X8_bits_b4 N n) x0 x2_2 (x3 + 1)
def f_X8_bits (N : Nat) (p0 : Int64) : Option (Int32) :=
  f_X8_bits_b4 N N p0 0 0
def f_X8_besides_b53 (N : Nat) (m_s : Nat → Int32) (m_faceOfSide : Nat → Int32) (x1 : Int32) (x2 : Int64) : Option (Int32) :=
  bd1 (f_X8_bits N (x2 &&& (((1 : Int64) <<< ((x1 : Int32).toInt64 &&& 63)) ^^^ (-1 : Int64)))) fun r_8 =>
  some r_8
def f_X8_besides_b45 (N : Nat) (m_s : Nat → Int32) (m_faceOfSide : Nat → Int32) (k5 : Int32 → Int64 → Int32 → Option (Int32)) (x1 : Int32) (x4 : Int32) (y0 : Int64) (y1 : Int64) : Option (Int32) :=
  nm ((y0 ||| y1)) fun x2_7 =>
  k5 x1 x2_7 (x4 + 1)
def f_X8_besides_b5 (N : Nat) (m_s : Nat → Int32) (m_faceOfSide : Nat → Int32) : Nat → Int32 → Int64 → Int32 → Option (Int32)
  | 0 => fun _ _ _ => none
  | n + 1 => fun x1 x2 x4 =>
  chk (inb 1 124) (if (2 * (m_s (1 : Int32).toNatClampNeg)) ≤ x4 then f_X8_besides_b53 N m_s m_faceOfSide x1 x2
  else chk (inb x4 40) (if ¬ (m_faceOfSide x4.toNatClampNeg) = x1 then f_X8_besides_b45 N m_s m_faceOfSide (f_X8_besides_b5 N m_s m_faceOfSide n) x1 x4 x2 (0 : Int64)
  else chk (inb (x4 ^^^ 1) 40) (f_X8_besides_b45 N m_s m_faceOfSide (f_X8_besides_b5 N m_s m_faceOfSide n) x1 x4 x2 ((1 : Int64) <<< (((m_faceOfSide (x4 ^^^ 1).toNatClampNeg) : Int32).toInt64 &&& 63)))))
def f_X8_besides (N : Nat) (m_s : Nat → Int32) (m_faceOfSide : Nat → Int32) (p1 : Int32) : Option (Int32) :=
  nm ((0 : Int64)) fun x2_1 =>
  f_X8_besides_b5 N m_s m_faceOfSide N p1 x2_1 0
def f_X8_block_b108 (N : Nat) (m_endA : Nat → Int32) (m_endB : Nat → Int32) (k7 : Int32 → Int32 → Int32 → Option (Int32)) (x1 : Int32) (x3 : Int32) (y0 : Int32) : Option (Int32) :=
  k7 x1 x3 y0
def f_X8_block_b97 (N : Nat) (m_endA : Nat → Int32) (m_endB : Nat → Int32) (k7 : Int32 → Int32 → Int32 → Option (Int32)) (x1 : Int32) (x3 : Int32) (x5 : Int32) : Option (Int32) :=
  if x3 = x5 then f_X8_block_b108 N m_endA m_endB k7 x1 x3 0
  else f_X8_block_b108 N m_endA m_endB k7 x1 x3 1
def f_X8_block_b91 (N : Nat) (m_endA : Nat → Int32) (m_endB : Nat → Int32) (k7 : Int32 → Int32 → Int32 → Option (Int32)) (k18 : Int32 → Int32 → Int32 → Int32 → Option (Int32)) (x1 : Int32) (x3 : Int32) (x5 : Int32) (x6 : Int32) : Option (Int32) :=
  k18 x1 x3 x5 (x6 + 1)
def f_X8_block_b83 (N : Nat) (m_endA : Nat → Int32) (m_endB : Nat → Int32) (k7 : Int32 → Int32 → Int32 → Option (Int32)) (k18 : Int32 → Int32 → Int32 → Int32 → Option (Int32)) (k28 : Int32 → Int32 → Int32 → Int32 → Int32 → Option (Int32)) (x1 : Int32) (x5 : Int32) (x6 : Int32) (x7 : Int32) (y0 : Int32) (y1 : Int32) : Option (Int32) :=
  nm ((y0 ||| y1)) fun x3_13 =>
  k28 x1 x3_13 x5 x6 (x7 + 1)
def f_X8_block_b82 (N : Nat) (m_endA : Nat → Int32) (m_endB : Nat → Int32) (k7 : Int32 → Int32 → Int32 → Option (Int32)) (k18 : Int32 → Int32 → Int32 → Int32 → Option (Int32)) (k28 : Int32 → Int32 → Int32 → Int32 → Int32 → Option (Int32)) (x1 : Int32) (x5 : Int32) (x6 : Int32) (x7 : Int32) (y0 : Int32) : Option (Int32) :=
  f_X8_block_b83 N m_endA m_endB k7 k18 k28 x1 x5 x6 x7 y0 0
def f_X8_block_b28 (N : Nat) (m_endA : Nat → Int32) (m_endB : Nat → Int32) (k7 : Int32 → Int32 → Int32 → Option (Int32)) (k18 : Int32 → Int32 → Int32 → Int32 → Option (Int32)) : Nat → Int32 → Int32 → Int32 → Int32 → Int32 → Option (Int32)
  | 0 => fun _ _ _ _ _ => none
  | n + 1 => fun x1 x3 x5 x6 x7 =>
  if 21 ≤ x7 then f_X8_block_b91 N m_endA m_endB k7 k18 x1 x3 x5 x6
  else bd1 (f_X8_has N x3 x6) fun r_5 =>
  if r_5 = 0 then f_X8_block_b91 N m_endA m_endB k7 k18 x1 x3 x5 x6
  else bd1 (f_X8_has N x1 x7) fun r_7 =>
  if r_7 = 0 then f_X8_block_b82 N m_endA m_endB k7 k18 (f_X8_block_b28 N m_endA m_endB k7 k18 n) x1 x5 x6 x7 x3
  else bd1 (f_X8_has N x3 x7) fun r_9 =>
  if ¬ r_9 = 0 then f_X8_block_b82 N m_endA m_endB k7 k18 (f_X8_block_b28 N m_endA m_endB k7 k18 n) x1 x5 x6 x7 x3
  else bd1 (f_X8_areInOne N m_endA m_endB x1 x6 x7) fun r_11 =>
  if r_11 = 0 then f_X8_block_b82 N m_endA m_endB k7 k18 (f_X8_block_b28 N m_endA m_endB k7 k18 n) x1 x5 x6 x7 x3
  else f_X8_block_b83 N m_endA m_endB k7 k18 (f_X8_block_b28 N m_endA m_endB k7 k18 n) x1 x5 x6 x7 x3 ((1 : Int32) <<< (x7 &&& 31))
def f_X8_block_b18 (N : Nat) (m_endA : Nat → Int32) (m_endB : Nat → Int32) (k7 : Int32 → Int32 → Int32 → Option (Int32)) : Nat → Int32 → Int32 → Int32 → Int32 → Option (Int32)
  | 0 => fun _ _ _ _ => none
  | n + 1 => fun x1 x3 x5 x6 =>
  if 21 ≤ x6 then f_X8_block_b97 N m_endA m_endB k7 x1 x3 x5
  else f_X8_block_b28 N m_endA m_endB k7 (f_X8_block_b18 N m_endA m_endB k7 n) N x1 x3 x5 x6 0
def f_X8_block_b7 (N : Nat) (m_endA : Nat → Int32) (m_endB : Nat → Int32) : Nat → Int32 → Int32 → Int32 → Option (Int32)
  | 0 => fun _ _ _ => none
  | n + 1 => fun x1 x3 x4 =>
  if x4 = 0 then some x3
  else f_X8_block_b18 N m_endA m_endB (f_X8_block_b7 N m_endA m_endB n) N x1 x3 x3 0
def f_X8_block (N : Nat) (m_endA : Nat → Int32) (m_endB : Nat → Int32) (p1 : Int32) (p2 : Int32) : Option (Int32) :=
  nm (((1 : Int32) <<< (p2 &&& 31))) fun x3_1 =>
  f_X8_block_b7 N m_endA m_endB N p1 x3_1 1
def f_X8_lowest_b2 (N : Nat) : Nat → Int32 → Int32 → Option (Int32)
  | 0 => fun _ _ => none
  | n + 1 => fun x0 x1 =>
  bd1 (f_X8_has N x0 x1) fun r_1 =>
  if ¬ r_1 = 0 then some x1
  else (f_X8_lowest_b2 N n) x0 (x1 + 1)
def f_X8_lowest (N : Nat) (p0 : Int32) : Option (Int32) :=
  f_X8_lowest_b2 N N p0 0
def f_X8_finds_b234 (N : Nat) (m_endA : Nat → Int32) (m_endB : Nat → Int32) (k45 : Int32 → Int32 → Int32 → Int32 → Int32 → (Nat → Int32) → (Nat → Int32) → Option (Int32 × (Nat → Int32) × (Nat → Int32))) (x2 : Int32) (x3 : Int32) (x4 : Int32) (x5 : Int32) (x6 : Int32) (m_from : Nat → Int32) (m_queue : Nat → Int32) : Option (Int32 × (Nat → Int32) × (Nat → Int32)) :=
  k45 x2 x3 x4 x5 (x6 + 1) m_from m_queue
def f_X8_finds_b228 (N : Nat) (m_endA : Nat → Int32) (m_endB : Nat → Int32) (k45 : Int32 → Int32 → Int32 → Int32 → Int32 → (Nat → Int32) → (Nat → Int32) → Option (Int32 × (Nat → Int32) × (Nat → Int32))) (k64 : Int32 → Int32 → Int32 → Int32 → Int32 → Int32 → Int32 → (Nat → Int32) → (Nat → Int32) → Option (Int32 × (Nat → Int32) × (Nat → Int32))) (x2 : Int32) (x3 : Int32) (x4 : Int32) (x5 : Int32) (x6 : Int32) (x7 : Int32) (x8 : Int32) (m_from : Nat → Int32) (m_queue : Nat → Int32) : Option (Int32 × (Nat → Int32) × (Nat → Int32)) :=
  k64 x2 x3 x4 x5 x6 x7 (x8 + 1) m_from m_queue
def f_X8_finds_b181 (N : Nat) (m_endA : Nat → Int32) (m_endB : Nat → Int32) (k45 : Int32 → Int32 → Int32 → Int32 → Int32 → (Nat → Int32) → (Nat → Int32) → Option (Int32 × (Nat → Int32) × (Nat → Int32))) (k64 : Int32 → Int32 → Int32 → Int32 → Int32 → Int32 → Int32 → (Nat → Int32) → (Nat → Int32) → Option (Int32 × (Nat → Int32) × (Nat → Int32))) (x2 : Int32) (x3 : Int32) (x4 : Int32) (x5 : Int32) (x6 : Int32) (x7 : Int32) (x8 : Int32) (x9 : Int32) (x10 : Int32) (m_from : Nat → Int32) (m_queue : Nat → Int32) : Option (Int32 × (Nat → Int32) × (Nat → Int32)) :=
  if x9 = 0 then f_X8_finds_b228 N m_endA m_endB k45 k64 x2 x3 x4 x5 x6 x7 x8 m_from m_queue
  else chk (inb x10 9) (if ¬ (m_from x10.toNatClampNeg) = (-9) then f_X8_finds_b228 N m_endA m_endB k45 k64 x2 x3 x4 x5 x6 x7 x8 m_from m_queue
  else bd1 (f_X8_has N x3 x10) fun r_28 =>
  if r_28 = 0 then f_X8_finds_b228 N m_endA m_endB k45 k64 x2 x3 x4 x5 x6 x7 x8 m_from m_queue
  else chk (inb x10 9) (chk (inb x5 9) (f_X8_finds_b228 N m_endA m_endB k45 k64 x2 x3 x4 (x5 + 1) x6 x7 x8 (upd m_from x10.toNatClampNeg x7) (upd m_queue x5.toNatClampNeg x10))))
def f_X8_finds_b169 (N : Nat) (m_endA : Nat → Int32) (m_endB : Nat → Int32) (x7 : Int32) (x10 : Int32) (m_from : Nat → Int32) (m_queue : Nat → Int32) : Option (Int32 × (Nat → Int32) × (Nat → Int32)) :=
  chk (inb x10 9) (some (x10, (upd m_from x10.toNatClampNeg x7), m_queue))
def f_X8_finds_b140 (N : Nat) (m_endA : Nat → Int32) (m_endB : Nat → Int32) (k45 : Int32 → Int32 → Int32 → Int32 → Int32 → (Nat → Int32) → (Nat → Int32) → Option (Int32 × (Nat → Int32) × (Nat → Int32))) (k64 : Int32 → Int32 → Int32 → Int32 → Int32 → Int32 → Int32 → (Nat → Int32) → (Nat → Int32) → Option (Int32 × (Nat → Int32) × (Nat → Int32))) (x2 : Int32) (x3 : Int32) (x4 : Int32) (x5 : Int32) (x6 : Int32) (x7 : Int32) (x8 : Int32) (x9 : Int32) (y0 : Int32) (m_from : Nat → Int32) (m_queue : Nat → Int32) : Option (Int32 × (Nat → Int32) × (Nat → Int32)) :=
  if x9 = 0 then f_X8_finds_b181 N m_endA m_endB k45 k64 x2 x3 x4 x5 x6 x7 x8 x9 y0 m_from m_queue
  else chk (inb y0 9) (if ¬ (m_from y0.toNatClampNeg) = (-9) then f_X8_finds_b181 N m_endA m_endB k45 k64 x2 x3 x4 x5 x6 x7 x8 x9 y0 m_from m_queue
  else bd1 (f_X8_has N x4 y0) fun r_22 =>
  if r_22 = 0 then f_X8_finds_b181 N m_endA m_endB k45 k64 x2 x3 x4 x5 x6 x7 x8 x9 y0 m_from m_queue
  else f_X8_finds_b169 N m_endA m_endB x7 y0 m_from m_queue)
def f_X8_finds_b109 (N : Nat) (m_endA : Nat → Int32) (m_endB : Nat → Int32) (k45 : Int32 → Int32 → Int32 → Int32 → Int32 → (Nat → Int32) → (Nat → Int32) → Option (Int32 × (Nat → Int32) × (Nat → Int32))) (k64 : Int32 → Int32 → Int32 → Int32 → Int32 → Int32 → Int32 → (Nat → Int32) → (Nat → Int32) → Option (Int32 × (Nat → Int32) × (Nat → Int32))) (x2 : Int32) (x3 : Int32) (x4 : Int32) (x5 : Int32) (x6 : Int32) (x7 : Int32) (x8 : Int32) (y0 : Int32) (m_from : Nat → Int32) (m_queue : Nat → Int32) : Option (Int32 × (Nat → Int32) × (Nat → Int32)) :=
  chk (inb x8 21) (if ¬ (m_endA x8.toNatClampNeg) = x7 then chk (inb x8 21) (f_X8_finds_b140 N m_endA m_endB k45 k64 x2 x3 x4 x5 x6 x7 x8 y0 (m_endA x8.toNatClampNeg) m_from m_queue)
  else chk (inb x8 21) (f_X8_finds_b140 N m_endA m_endB k45 k64 x2 x3 x4 x5 x6 x7 x8 y0 (m_endB x8.toNatClampNeg) m_from m_queue))
def f_X8_finds_b108 (N : Nat) (m_endA : Nat → Int32) (m_endB : Nat → Int32) (k45 : Int32 → Int32 → Int32 → Int32 → Int32 → (Nat → Int32) → (Nat → Int32) → Option (Int32 × (Nat → Int32) × (Nat → Int32))) (k64 : Int32 → Int32 → Int32 → Int32 → Int32 → Int32 → Int32 → (Nat → Int32) → (Nat → Int32) → Option (Int32 × (Nat → Int32) × (Nat → Int32))) (x2 : Int32) (x3 : Int32) (x4 : Int32) (x5 : Int32) (x6 : Int32) (x7 : Int32) (x8 : Int32) (m_from : Nat → Int32) (m_queue : Nat → Int32) : Option (Int32 × (Nat → Int32) × (Nat → Int32)) :=
  f_X8_finds_b109 N m_endA m_endB k45 k64 x2 x3 x4 x5 x6 x7 x8 0 m_from m_queue
def f_X8_finds_b104 (N : Nat) (m_endA : Nat → Int32) (m_endB : Nat → Int32) (k45 : Int32 → Int32 → Int32 → Int32 → Int32 → (Nat → Int32) → (Nat → Int32) → Option (Int32 × (Nat → Int32) × (Nat → Int32))) (k64 : Int32 → Int32 → Int32 → Int32 → Int32 → Int32 → Int32 → (Nat → Int32) → (Nat → Int32) → Option (Int32 × (Nat → Int32) × (Nat → Int32))) (x2 : Int32) (x3 : Int32) (x4 : Int32) (x5 : Int32) (x6 : Int32) (x7 : Int32) (x8 : Int32) (m_from : Nat → Int32) (m_queue : Nat → Int32) : Option (Int32 × (Nat → Int32) × (Nat → Int32)) :=
  f_X8_finds_b109 N m_endA m_endB k45 k64 x2 x3 x4 x5 x6 x7 x8 1 m_from m_queue
def f_X8_finds_b64 (N : Nat) (m_endA : Nat → Int32) (m_endB : Nat → Int32) (k45 : Int32 → Int32 → Int32 → Int32 → Int32 → (Nat → Int32) → (Nat → Int32) → Option (Int32 × (Nat → Int32) × (Nat → Int32))) : Nat → Int32 → Int32 → Int32 → Int32 → Int32 → Int32 → Int32 → (Nat → Int32) → (Nat → Int32) → Option (Int32 × (Nat → Int32) × (Nat → Int32))
  | 0 => fun _ _ _ _ _ _ _ _ _ => none
  | n + 1 => fun x2 x3 x4 x5 x6 x7 x8 m_from m_queue =>
  if 21 ≤ x8 then f_X8_finds_b234 N m_endA m_endB k45 x2 x3 x4 x5 x6 m_from m_queue
  else bd1 (f_X8_has N x2 x8) fun r_9 =>
  if r_9 = 0 then f_X8_finds_b108 N m_endA m_endB k45 (f_X8_finds_b64 N m_endA m_endB k45 n) x2 x3 x4 x5 x6 x7 x8 m_from m_queue
  else chk (inb x8 21) (if (m_endA x8.toNatClampNeg) = x7 then f_X8_finds_b104 N m_endA m_endB k45 (f_X8_finds_b64 N m_endA m_endB k45 n) x2 x3 x4 x5 x6 x7 x8 m_from m_queue
  else chk (inb x8 21) (if ¬ (m_endB x8.toNatClampNeg) = x7 then f_X8_finds_b108 N m_endA m_endB k45 (f_X8_finds_b64 N m_endA m_endB k45 n) x2 x3 x4 x5 x6 x7 x8 m_from m_queue
  else f_X8_finds_b104 N m_endA m_endB k45 (f_X8_finds_b64 N m_endA m_endB k45 n) x2 x3 x4 x5 x6 x7 x8 m_from m_queue))
def f_X8_finds_b45 (N : Nat) (m_endA : Nat → Int32) (m_endB : Nat → Int32) : Nat → Int32 → Int32 → Int32 → Int32 → Int32 → (Nat → Int32) → (Nat → Int32) → Option (Int32 × (Nat → Int32) × (Nat → Int32))
  | 0 => fun _ _ _ _ _ _ _ => none
  | n + 1 => fun x2 x3 x4 x5 x6 m_from m_queue =>
  if x5 ≤ x6 then some ((-9), m_from, m_queue)
  else chk (inb x6 9) (nm ((m_queue x6.toNatClampNeg)) fun x7_7 =>
  f_X8_finds_b64 N m_endA m_endB (f_X8_finds_b45 N m_endA m_endB n) N x2 x3 x4 x5 x6 x7_7 0 m_from m_queue)
def f_X8_finds_b25 (N : Nat) (m_endA : Nat → Int32) (m_endB : Nat → Int32) (x1 : Int32) (x2 : Int32) (x3 : Int32) (x4 : Int32) (m_from : Nat → Int32) (m_queue : Nat → Int32) : Option (Int32 × (Nat → Int32) × (Nat → Int32)) :=
  chk (inb x1 9) (chk (inb 0 9) (f_X8_finds_b45 N m_endA m_endB N x2 x3 x4 1 0 (upd m_from x1.toNatClampNeg x1) (upd m_queue (0 : Int32).toNatClampNeg x1)))
def f_X8_finds_b3 (N : Nat) (m_endA : Nat → Int32) (m_endB : Nat → Int32) : Nat → Int32 → Int32 → Int32 → Int32 → Int32 → (Nat → Int32) → (Nat → Int32) → Option (Int32 × (Nat → Int32) × (Nat → Int32))
  | 0 => fun _ _ _ _ _ _ _ => none
  | n + 1 => fun x1 x2 x3 x4 x5 m_from m_queue =>
  if 9 ≤ x5 then f_X8_finds_b25 N m_endA m_endB x1 x2 x3 x4 m_from m_queue
  else chk (inb x5 9) ((f_X8_finds_b3 N m_endA m_endB n) x1 x2 x3 x4 (x5 + 1) (upd m_from x5.toNatClampNeg (-9)) m_queue)
def f_X8_finds (N : Nat) (m_endA : Nat → Int32) (m_endB : Nat → Int32) (m_from : Nat → Int32) (m_queue : Nat → Int32) (p1 : Int32) (p2 : Int32) (p3 : Int32) (p4 : Int32) : Option (Int32 × (Nat → Int32) × (Nat → Int32)) :=
  f_X8_finds_b3 N m_endA m_endB N p1 p2 p3 p4 0 m_from m_queue
def f_X8_takesPath_b42 (N : Nat) (m_from : Nat → Int32) (x2 : Int32) (m_path : Nat → Int32) (m_pathSize : Int32) : Option ((Nat → Int32) × Int32) :=
  chk (inb m_pathSize 10) (some ((upd m_path m_pathSize.toNatClampNeg x2), (m_pathSize + 1)))
def f_X8_takesPath_b7 (N : Nat) (m_from : Nat → Int32) : Nat → Int32 → Int32 → (Nat → Int32) → Int32 → Option ((Nat → Int32) × Int32)
  | 0 => fun _ _ _ _ => none
  | n + 1 => fun x2 x3 m_path m_pathSize =>
  if x3 = x2 then f_X8_takesPath_b42 N m_from x2 m_path m_pathSize
  else chk (inb m_pathSize 10) (chk (inb x3 9) (nm ((m_from x3.toNatClampNeg)) fun x3_4 =>
  (f_X8_takesPath_b7 N m_from n) x2 x3_4 (upd m_path m_pathSize.toNatClampNeg x3) (m_pathSize + 1)))
def f_X8_takesPath (N : Nat) (m_from : Nat → Int32) (m_path : Nat → Int32) (m_pathSize : Int32) (p1 : Int32) (p2 : Int32) : Option ((Nat → Int32) × Int32) :=
  f_X8_takesPath_b7 N m_from N p2 p1 m_path 0
def f_X8_edgesOfPath_b130 (N : Nat) (m_endA : Nat → Int32) (m_endB : Nat → Int32) (m_path : Nat → Int32) (m_pathSize : Int32) (k4 : Int32 → Int32 → Int32 → Option (Int32)) (x1 : Int32) (x2 : Int32) (x3 : Int32) : Option (Int32) :=
  k4 x1 x2 (x3 + 1)
def f_X8_edgesOfPath_b122 (N : Nat) (m_endA : Nat → Int32) (m_endB : Nat → Int32) (m_path : Nat → Int32) (m_pathSize : Int32) (k4 : Int32 → Int32 → Int32 → Option (Int32)) (k17 : Int32 → Int32 → Int32 → Int32 → Option (Int32)) (x1 : Int32) (x3 : Int32) (x4 : Int32) (y0 : Int32) (y1 : Int32) : Option (Int32) :=
  nm ((y0 ||| y1)) fun x2_12 =>
  k17 x1 x2_12 x3 (x4 + 1)
def f_X8_edgesOfPath_b121 (N : Nat) (m_endA : Nat → Int32) (m_endB : Nat → Int32) (m_path : Nat → Int32) (m_pathSize : Int32) (k4 : Int32 → Int32 → Int32 → Option (Int32)) (k17 : Int32 → Int32 → Int32 → Int32 → Option (Int32)) (x1 : Int32) (x3 : Int32) (x4 : Int32) (y0 : Int32) : Option (Int32) :=
  f_X8_edgesOfPath_b122 N m_endA m_endB m_path m_pathSize k4 k17 x1 x3 x4 y0 0
def f_X8_edgesOfPath_b97 (N : Nat) (m_endA : Nat → Int32) (m_endB : Nat → Int32) (m_path : Nat → Int32) (m_pathSize : Int32) (k4 : Int32 → Int32 → Int32 → Option (Int32)) (k17 : Int32 → Int32 → Int32 → Int32 → Option (Int32)) (x1 : Int32) (x2 : Int32) (x3 : Int32) (x4 : Int32) (y0 : Int32) : Option (Int32) :=
  if y0 = 0 then f_X8_edgesOfPath_b121 N m_endA m_endB m_path m_pathSize k4 k17 x1 x3 x4 x2
  else bd1 (f_X8_has N x1 x4) fun r_10 =>
  if r_10 = 0 then f_X8_edgesOfPath_b121 N m_endA m_endB m_path m_pathSize k4 k17 x1 x3 x4 x2
  else f_X8_edgesOfPath_b122 N m_endA m_endB m_path m_pathSize k4 k17 x1 x3 x4 x2 ((1 : Int32) <<< (x4 &&& 31))
def f_X8_edgesOfPath_b96 (N : Nat) (m_endA : Nat → Int32) (m_endB : Nat → Int32) (m_path : Nat → Int32) (m_pathSize : Int32) (k4 : Int32 → Int32 → Int32 → Option (Int32)) (k17 : Int32 → Int32 → Int32 → Int32 → Option (Int32)) (x1 : Int32) (x2 : Int32) (x3 : Int32) (x4 : Int32) : Option (Int32) :=
  f_X8_edgesOfPath_b97 N m_endA m_endB m_path m_pathSize k4 k17 x1 x2 x3 x4 0
def f_X8_edgesOfPath_b92 (N : Nat) (m_endA : Nat → Int32) (m_endB : Nat → Int32) (m_path : Nat → Int32) (m_pathSize : Int32) (k4 : Int32 → Int32 → Int32 → Option (Int32)) (k17 : Int32 → Int32 → Int32 → Int32 → Option (Int32)) (x1 : Int32) (x2 : Int32) (x3 : Int32) (x4 : Int32) : Option (Int32) :=
  f_X8_edgesOfPath_b97 N m_endA m_endB m_path m_pathSize k4 k17 x1 x2 x3 x4 1
def f_X8_edgesOfPath_b58 (N : Nat) (m_endA : Nat → Int32) (m_endB : Nat → Int32) (m_path : Nat → Int32) (m_pathSize : Int32) (k4 : Int32 → Int32 → Int32 → Option (Int32)) (k17 : Int32 → Int32 → Int32 → Int32 → Option (Int32)) (x1 : Int32) (x2 : Int32) (x3 : Int32) (x4 : Int32) : Option (Int32) :=
  chk (inb x4 21) (chk (inb x3 10) (if ¬ (m_endB x4.toNatClampNeg) = (m_path x3.toNatClampNeg) then f_X8_edgesOfPath_b96 N m_endA m_endB m_path m_pathSize k4 k17 x1 x2 x3 x4
  else chk (inb x4 21) (chk (inb (x3 + 1) 10) (if ¬ (m_endA x4.toNatClampNeg) = (m_path (x3 + 1).toNatClampNeg) then f_X8_edgesOfPath_b96 N m_endA m_endB m_path m_pathSize k4 k17 x1 x2 x3 x4
  else f_X8_edgesOfPath_b92 N m_endA m_endB m_path m_pathSize k4 k17 x1 x2 x3 x4))))
def f_X8_edgesOfPath_b17 (N : Nat) (m_endA : Nat → Int32) (m_endB : Nat → Int32) (m_path : Nat → Int32) (m_pathSize : Int32) (k4 : Int32 → Int32 → Int32 → Option (Int32)) : Nat → Int32 → Int32 → Int32 → Int32 → Option (Int32)
  | 0 => fun _ _ _ _ => none
  | n + 1 => fun x1 x2 x3 x4 =>
  if 21 ≤ x4 then f_X8_edgesOfPath_b130 N m_endA m_endB m_path m_pathSize k4 x1 x2 x3
  else chk (inb x4 21) (chk (inb x3 10) (if ¬ (m_endA x4.toNatClampNeg) = (m_path x3.toNatClampNeg) then f_X8_edgesOfPath_b58 N m_endA m_endB m_path m_pathSize k4 (f_X8_edgesOfPath_b17 N m_endA m_endB m_path m_pathSize k4 n) x1 x2 x3 x4
  else chk (inb x4 21) (chk (inb (x3 + 1) 10) (if (m_endB x4.toNatClampNeg) = (m_path (x3 + 1).toNatClampNeg) then f_X8_edgesOfPath_b92 N m_endA m_endB m_path m_pathSize k4 (f_X8_edgesOfPath_b17 N m_endA m_endB m_path m_pathSize k4 n) x1 x2 x3 x4
  else f_X8_edgesOfPath_b58 N m_endA m_endB m_path m_pathSize k4 (f_X8_edgesOfPath_b17 N m_endA m_endB m_path m_pathSize k4 n) x1 x2 x3 x4))))
def f_X8_edgesOfPath_b4 (N : Nat) (m_endA : Nat → Int32) (m_endB : Nat → Int32) (m_path : Nat → Int32) (m_pathSize : Int32) : Nat → Int32 → Int32 → Int32 → Option (Int32)
  | 0 => fun _ _ _ => none
  | n + 1 => fun x1 x2 x3 =>
  if m_pathSize ≤ (x3 + 1) then some x2
  else f_X8_edgesOfPath_b17 N m_endA m_endB m_path m_pathSize (f_X8_edgesOfPath_b4 N m_endA m_endB m_path m_pathSize n) N x1 x2 x3 0
def f_X8_edgesOfPath (N : Nat) (m_endA : Nat → Int32) (m_endB : Nat → Int32) (m_path : Nat → Int32) (m_pathSize : Int32) (p1 : Int32) : Option (Int32) :=
  f_X8_edgesOfPath_b4 N m_endA m_endB m_path m_pathSize N p1 0 0
def f_X8_nodesOfPath_b4 (N : Nat) (m_path : Nat → Int32) (m_pathSize : Int32) : Nat → Int32 → Int32 → Option (Int32)
  | 0 => fun _ _ => none
  | n + 1 => fun x1 x2 =>
  if m_pathSize ≤ x2 then some x1
  else chk (inb x2 10) (nm ((x1 ||| ((1 : Int32) <<< ((m_path x2.toNatClampNeg) &&& 31)))) fun x1_3 =>
  (f_X8_nodesOfPath_b4 N m_path m_pathSize n) x1_3 (x2 + 1))
def f_X8_nodesOfPath (N : Nat) (m_path : Nat → Int32) (m_pathSize : Int32) : Option (Int32) :=
  f_X8_nodesOfPath_b4 N m_path m_pathSize N 0 0
def f_X8_fitting_b59 (N : Nat) (m_ringNodes : Nat → Int32) (m_rings : Int32) (k4 : Int32 → Int32 → Int32 → Int32 → Option (Int32 × Int32)) (x1 : Int32) (x2 : Int32) (x3 : Int32) (y1 : Int32) (m_lastRing : Int32) : Option (Int32 × Int32) :=
  k4 x1 x2 (x3 + 1) y1
def f_X8_fitting_b43 (N : Nat) (m_ringNodes : Nat → Int32) (m_rings : Int32) (k4 : Int32 → Int32 → Int32 → Int32 → Option (Int32 × Int32)) (x1 : Int32) (x3 : Int32) (x4 : Int32) (y0 : Int32) (y1 : Int32) (m_lastRing : Int32) : Option (Int32 × Int32) :=
  nm ((y0 + y1)) fun x2_5 =>
  if x4 = 0 then f_X8_fitting_b59 N m_ringNodes m_rings k4 x1 x2_5 x3 m_lastRing m_lastRing
  else f_X8_fitting_b59 N m_ringNodes m_rings k4 x1 x2_5 x3 x3 m_lastRing
def f_X8_fitting_b30 (N : Nat) (m_ringNodes : Nat → Int32) (m_rings : Int32) (k4 : Int32 → Int32 → Int32 → Int32 → Option (Int32 × Int32)) (x1 : Int32) (x2 : Int32) (x3 : Int32) (y0 : Int32) (m_lastRing : Int32) : Option (Int32 × Int32) :=
  if y0 = 0 then f_X8_fitting_b43 N m_ringNodes m_rings k4 x1 x3 y0 x2 0 m_lastRing
  else f_X8_fitting_b43 N m_ringNodes m_rings k4 x1 x3 y0 x2 1 m_lastRing
def f_X8_fitting_b4 (N : Nat) (m_ringNodes : Nat → Int32) (m_rings : Int32) : Nat → Int32 → Int32 → Int32 → Int32 → Option (Int32 × Int32)
  | 0 => fun _ _ _ _ => none
  | n + 1 => fun x1 x2 x3 m_lastRing =>
  if m_rings ≤ x3 then some (x2, m_lastRing)
  else chk (inb x3 40) (if ¬ (x1 &&& ((m_ringNodes x3.toNatClampNeg) ^^^ (-1))) = 0 then f_X8_fitting_b30 N m_ringNodes m_rings (f_X8_fitting_b4 N m_ringNodes m_rings n) x1 x2 x3 0 m_lastRing
  else f_X8_fitting_b30 N m_ringNodes m_rings (f_X8_fitting_b4 N m_ringNodes m_rings n) x1 x2 x3 1 m_lastRing)
def f_X8_fitting (N : Nat) (m_ringNodes : Nat → Int32) (m_rings : Int32) (m_lastRing : Int32) (p1 : Int32) : Option (Int32 × Int32) :=
  f_X8_fitting_b4 N m_ringNodes m_rings N p1 0 0 m_lastRing
def f_X8_offers_b69 (N : Nat) (m_ringNodes : Nat → Int32) (m_rings : Int32) (y1 : Int32) (m_lastRing : Int32) (m_bestNodes : Int32) (m_bestInside : Int32) (m_bestFits : Int32) : Option (Int32 × Int32 × Int32 × Int32) :=
  some (m_lastRing, m_bestNodes, y1, m_bestFits)
def f_X8_offers_b52 (N : Nat) (m_ringNodes : Nat → Int32) (m_rings : Int32) (x2 : Int32) (x4 : Int32) (y1 : Int32) (m_lastRing : Int32) (m_bestNodes : Int32) (m_bestInside : Int32) (m_bestFits : Int32) : Option (Int32 × Int32 × Int32 × Int32) :=
  if x4 = 0 then f_X8_offers_b69 N m_ringNodes m_rings m_bestInside m_lastRing y1 m_bestInside m_bestFits
  else f_X8_offers_b69 N m_ringNodes m_rings x2 m_lastRing y1 m_bestInside m_bestFits
def f_X8_offers_b35 (N : Nat) (m_ringNodes : Nat → Int32) (m_rings : Int32) (x1 : Int32) (x2 : Int32) (x4 : Int32) (y1 : Int32) (m_lastRing : Int32) (m_bestNodes : Int32) (m_bestInside : Int32) (m_bestFits : Int32) : Option (Int32 × Int32 × Int32 × Int32) :=
  if x4 = 0 then f_X8_offers_b52 N m_ringNodes m_rings x2 x4 m_bestNodes m_lastRing m_bestNodes m_bestInside y1
  else f_X8_offers_b52 N m_ringNodes m_rings x2 x4 x1 m_lastRing m_bestNodes m_bestInside y1
def f_X8_offers_b19 (N : Nat) (m_ringNodes : Nat → Int32) (m_rings : Int32) (x1 : Int32) (x2 : Int32) (x3 : Int32) (y0 : Int32) (m_lastRing : Int32) (m_bestNodes : Int32) (m_bestInside : Int32) (m_bestFits : Int32) : Option (Int32 × Int32 × Int32 × Int32) :=
  if y0 = 0 then f_X8_offers_b35 N m_ringNodes m_rings x1 x2 y0 m_bestFits m_lastRing m_bestNodes m_bestInside m_bestFits
  else f_X8_offers_b35 N m_ringNodes m_rings x1 x2 y0 x3 m_lastRing m_bestNodes m_bestInside m_bestFits
def f_X8_offers (N : Nat) (m_ringNodes : Nat → Int32) (m_rings : Int32) (m_lastRing : Int32) (m_bestNodes : Int32) (m_bestInside : Int32) (m_bestFits : Int32) (p1 : Int32) (p2 : Int32) : Option (Int32 × Int32 × Int32 × Int32) :=
  bd1 (f_X8_fitting N m_ringNodes m_rings m_lastRing p1) fun r_1 =>
  nm (r_1.1) fun x3_2 =>
  if m_bestFits ≤ x3_2 then f_X8_offers_b19 N m_ringNodes m_rings p1 p2 x3_2 0 r_1.2 m_bestNodes m_bestInside m_bestFits
  else f_X8_offers_b19 N m_ringNodes m_rings p1 p2 x3_2 1 r_1.2 m_bestNodes m_bestInside m_bestFits
def f_X8_nodesOfEdges_b40 (N : Nat) (m_endA : Nat → Int32) (m_endB : Nat → Int32) (k4 : Int32 → Int32 → Int32 → Option (Int32)) (x1 : Int32) (x3 : Int32) (y0 : Int32) (y1 : Int32) : Option (Int32) :=
  nm ((y0 ||| y1)) fun x2_6 =>
  k4 x1 x2_6 (x3 + 1)
def f_X8_nodesOfEdges_b4 (N : Nat) (m_endA : Nat → Int32) (m_endB : Nat → Int32) : Nat → Int32 → Int32 → Int32 → Option (Int32)
  | 0 => fun _ _ _ => none
  | n + 1 => fun x1 x2 x3 =>
  if 21 ≤ x3 then some x2
  else bd1 (f_X8_has N x1 x3) fun r_2 =>
  if r_2 = 0 then f_X8_nodesOfEdges_b40 N m_endA m_endB (f_X8_nodesOfEdges_b4 N m_endA m_endB n) x1 x3 x2 0
  else chk (inb x3 21) (chk (inb x3 21) (f_X8_nodesOfEdges_b40 N m_endA m_endB (f_X8_nodesOfEdges_b4 N m_endA m_endB n) x1 x3 x2 (((1 : Int32) <<< ((m_endA x3.toNatClampNeg) &&& 31)) ||| ((1 : Int32) <<< ((m_endB x3.toNatClampNeg) &&& 31)))))
def f_X8_nodesOfEdges (N : Nat) (m_endA : Nat → Int32) (m_endB : Nat → Int32) (p1 : Int32) : Option (Int32) :=
  f_X8_nodesOfEdges_b4 N m_endA m_endB N p1 0 0
def f_X8_picks_b211 (N : Nat) (m_endA : Nat → Int32) (m_endB : Nat → Int32) (m_ringNodes : Nat → Int32) (m_rings : Int32) (k100 : Int32 → Int32 → Int32 → Int32 → Int32 → Int32 → Int32 → Int32 → Option (Int32 × Int32 × Int32 × Int32)) (x1 : Int32) (x3 : Int32) (x5 : Int32) (x6 : Int32) (m_lastRing : Int32) (m_bestNodes : Int32) (m_bestInside : Int32) (m_bestFits : Int32) : Option (Int32 × Int32 × Int32 × Int32) :=
  k100 x1 x3 x5 (x6 + 1) m_lastRing m_bestNodes m_bestInside m_bestFits
def f_X8_picks_b203 (N : Nat) (m_endA : Nat → Int32) (m_endB : Nat → Int32) (m_ringNodes : Nat → Int32) (m_rings : Int32) (k100 : Int32 → Int32 → Int32 → Int32 → Int32 → Int32 → Int32 → Int32 → Option (Int32 × Int32 × Int32 × Int32)) (x1 : Int32) (x3 : Int32) (x5 : Int32) (x6 : Int32) (x7 : Int32) (x8 : Int32) (m_lastRing : Int32) (m_bestNodes : Int32) (m_bestInside : Int32) (m_bestFits : Int32) : Option (Int32 × Int32 × Int32 × Int32) :=
  bd1 (f_X8_offers N m_ringNodes m_rings m_lastRing m_bestNodes m_bestInside m_bestFits x8 x7) fun r_23 =>
  f_X8_picks_b211 N m_endA m_endB m_ringNodes m_rings k100 x1 x3 x5 x6 r_23.1 r_23.2.1 r_23.2.2.1 r_23.2.2.2
def f_X8_picks_b194 (N : Nat) (m_endA : Nat → Int32) (m_endB : Nat → Int32) (m_ringNodes : Nat → Int32) (m_rings : Int32) (k100 : Int32 → Int32 → Int32 → Int32 → Int32 → Int32 → Int32 → Int32 → Option (Int32 × Int32 × Int32 × Int32)) (k135 : Int32 → Int32 → Int32 → Int32 → Int32 → Int32 → Int32 → Int32 → Int32 → Int32 → Int32 → Option (Int32 × Int32 × Int32 × Int32)) (x1 : Int32) (x3 : Int32) (x5 : Int32) (x6 : Int32) (x7 : Int32) (x9 : Int32) (y0 : Int32) (y1 : Int32) (m_lastRing : Int32) (m_bestNodes : Int32) (m_bestInside : Int32) (m_bestFits : Int32) : Option (Int32 × Int32 × Int32 × Int32) :=
  nm ((y0 ||| y1)) fun x8_22 =>
  k135 x1 x3 x5 x6 x7 x8_22 (x9 + 1) m_lastRing m_bestNodes m_bestInside m_bestFits
def f_X8_picks_b174 (N : Nat) (m_endA : Nat → Int32) (m_endB : Nat → Int32) (m_ringNodes : Nat → Int32) (m_rings : Int32) (k100 : Int32 → Int32 → Int32 → Int32 → Int32 → Int32 → Int32 → Int32 → Option (Int32 × Int32 × Int32 × Int32)) (k135 : Int32 → Int32 → Int32 → Int32 → Int32 → Int32 → Int32 → Int32 → Int32 → Int32 → Int32 → Option (Int32 × Int32 × Int32 × Int32)) (x1 : Int32) (x3 : Int32) (x5 : Int32) (x6 : Int32) (x7 : Int32) (x8 : Int32) (x9 : Int32) (y0 : Int32) (m_lastRing : Int32) (m_bestNodes : Int32) (m_bestInside : Int32) (m_bestFits : Int32) : Option (Int32 × Int32 × Int32 × Int32) :=
  if (y0 &&& x7) = 0 then f_X8_picks_b194 N m_endA m_endB m_ringNodes m_rings k100 k135 x1 x3 x5 x6 x7 x9 x8 0 m_lastRing m_bestNodes m_bestInside m_bestFits
  else f_X8_picks_b194 N m_endA m_endB m_ringNodes m_rings k100 k135 x1 x3 x5 x6 x7 x9 x8 (y0 &&& x3) m_lastRing m_bestNodes m_bestInside m_bestFits
def f_X8_picks_b135 (N : Nat) (m_endA : Nat → Int32) (m_endB : Nat → Int32) (m_ringNodes : Nat → Int32) (m_rings : Int32) (k100 : Int32 → Int32 → Int32 → Int32 → Int32 → Int32 → Int32 → Int32 → Option (Int32 × Int32 × Int32 × Int32)) : Nat → Int32 → Int32 → Int32 → Int32 → Int32 → Int32 → Int32 → Int32 → Int32 → Int32 → Int32 → Option (Int32 × Int32 × Int32 × Int32)
  | 0 => fun _ _ _ _ _ _ _ _ _ _ _ => none
  | n + 1 => fun x1 x3 x5 x6 x7 x8 x9 m_lastRing m_bestNodes m_bestInside m_bestFits =>
  if 21 ≤ x9 then f_X8_picks_b203 N m_endA m_endB m_ringNodes m_rings k100 x1 x3 x5 x6 x7 x8 m_lastRing m_bestNodes m_bestInside m_bestFits
  else bd1 (f_X8_has N x1 x9) fun r_17 =>
  if r_17 = 0 then f_X8_picks_b174 N m_endA m_endB m_ringNodes m_rings k100 (f_X8_picks_b135 N m_endA m_endB m_ringNodes m_rings k100 n) x1 x3 x5 x6 x7 x8 x9 0 m_lastRing m_bestNodes m_bestInside m_bestFits
  else chk (inb x9 21) (chk (inb x9 21) (f_X8_picks_b174 N m_endA m_endB m_ringNodes m_rings k100 (f_X8_picks_b135 N m_endA m_endB m_ringNodes m_rings k100 n) x1 x3 x5 x6 x7 x8 x9 (((1 : Int32) <<< ((m_endA x9.toNatClampNeg) &&& 31)) ||| ((1 : Int32) <<< ((m_endB x9.toNatClampNeg) &&& 31))) m_lastRing m_bestNodes m_bestInside m_bestFits))
def f_X8_picks_b100 (N : Nat) (m_endA : Nat → Int32) (m_endB : Nat → Int32) (m_ringNodes : Nat → Int32) (m_rings : Int32) : Nat → Int32 → Int32 → Int32 → Int32 → Int32 → Int32 → Int32 → Int32 → Option (Int32 × Int32 × Int32 × Int32)
  | 0 => fun _ _ _ _ _ _ _ _ => none
  | n + 1 => fun x1 x3 x5 x6 m_lastRing m_bestNodes m_bestInside m_bestFits =>
  if 9 ≤ x6 then some (m_lastRing, m_bestNodes, m_bestInside, m_bestFits)
  else bd1 (f_X8_has N x5 x6) fun r_13 =>
  if r_13 = 0 then f_X8_picks_b211 N m_endA m_endB m_ringNodes m_rings (f_X8_picks_b100 N m_endA m_endB m_ringNodes m_rings n) x1 x3 x5 x6 m_lastRing m_bestNodes m_bestInside m_bestFits
  else bd1 (f_X8_reached N m_endA m_endB ((1 : Int32) <<< (x6 &&& 31)) x1 x3) fun r_15 =>
  f_X8_picks_b135 N m_endA m_endB m_ringNodes m_rings (f_X8_picks_b100 N m_endA m_endB m_ringNodes m_rings n) N x1 x3 x5 x6 r_15 0 0 m_lastRing m_bestNodes m_bestInside m_bestFits
def f_X8_picks_b86 (N : Nat) (m_endA : Nat → Int32) (m_endB : Nat → Int32) (m_ringNodes : Nat → Int32) (m_rings : Int32) (x1 : Int32) (x3 : Int32) (m_lastRing : Int32) (m_bestNodes : Int32) (m_bestInside : Int32) (m_bestFits : Int32) : Option (Int32 × Int32 × Int32 × Int32) :=
  bd1 (f_X8_nodesOfEdges N m_endA m_endB x1) fun r_10 =>
  nm ((r_10 &&& (x3 ^^^ (-1)))) fun x5_11 =>
  f_X8_picks_b100 N m_endA m_endB m_ringNodes m_rings N x1 x3 x5_11 0 m_lastRing m_bestNodes m_bestInside m_bestFits
def f_X8_picks_b80 (N : Nat) (m_endA : Nat → Int32) (m_endB : Nat → Int32) (m_ringNodes : Nat → Int32) (m_rings : Int32) (k17 : Int32 → Int32 → Int32 → Int32 → Int32 → Int32 → Int32 → Int32 → Option (Int32 × Int32 × Int32 × Int32)) (x1 : Int32) (x3 : Int32) (x4 : Int32) (x5 : Int32) (m_lastRing : Int32) (m_bestNodes : Int32) (m_bestInside : Int32) (m_bestFits : Int32) : Option (Int32 × Int32 × Int32 × Int32) :=
  k17 x1 x3 x4 (x5 + 1) m_lastRing m_bestNodes m_bestInside m_bestFits
def f_X8_picks_b57 (N : Nat) (m_endA : Nat → Int32) (m_endB : Nat → Int32) (m_ringNodes : Nat → Int32) (m_rings : Int32) (k17 : Int32 → Int32 → Int32 → Int32 → Int32 → Int32 → Int32 → Int32 → Option (Int32 × Int32 × Int32 × Int32)) (x1 : Int32) (x3 : Int32) (x4 : Int32) (x5 : Int32) (y0 : Int32) (m_lastRing : Int32) (m_bestNodes : Int32) (m_bestInside : Int32) (m_bestFits : Int32) : Option (Int32 × Int32 × Int32 × Int32) :=
  if y0 = 0 then f_X8_picks_b80 N m_endA m_endB m_ringNodes m_rings k17 x1 x3 x4 x5 m_lastRing m_bestNodes m_bestInside m_bestFits
  else if ¬ (y0 &&& (x3 ^^^ (-1))) = 0 then f_X8_picks_b80 N m_endA m_endB m_ringNodes m_rings k17 x1 x3 x4 x5 m_lastRing m_bestNodes m_bestInside m_bestFits
  else bd1 (f_X8_offers N m_ringNodes m_rings m_lastRing m_bestNodes m_bestInside m_bestFits y0 0) fun r_9 =>
  f_X8_picks_b80 N m_endA m_endB m_ringNodes m_rings k17 x1 x3 x4 x5 r_9.1 r_9.2.1 r_9.2.2.1 r_9.2.2.2
def f_X8_picks_b17 (N : Nat) (m_endA : Nat → Int32) (m_endB : Nat → Int32) (m_ringNodes : Nat → Int32) (m_rings : Int32) : Nat → Int32 → Int32 → Int32 → Int32 → Int32 → Int32 → Int32 → Int32 → Option (Int32 × Int32 × Int32 × Int32)
  | 0 => fun _ _ _ _ _ _ _ _ => none
  | n + 1 => fun x1 x3 x4 x5 m_lastRing m_bestNodes m_bestInside m_bestFits =>
  if 21 ≤ x5 then f_X8_picks_b86 N m_endA m_endB m_ringNodes m_rings x1 x3 m_lastRing m_bestNodes m_bestInside m_bestFits
  else bd1 (f_X8_has N x4 x5) fun r_3 =>
  if r_3 = 0 then f_X8_picks_b57 N m_endA m_endB m_ringNodes m_rings (f_X8_picks_b17 N m_endA m_endB m_ringNodes m_rings n) x1 x3 x4 x5 0 m_lastRing m_bestNodes m_bestInside m_bestFits
  else chk (inb x5 21) (chk (inb x5 21) (f_X8_picks_b57 N m_endA m_endB m_ringNodes m_rings (f_X8_picks_b17 N m_endA m_endB m_ringNodes m_rings n) x1 x3 x4 x5 (((1 : Int32) <<< ((m_endA x5.toNatClampNeg) &&& 31)) ||| ((1 : Int32) <<< ((m_endB x5.toNatClampNeg) &&& 31))) m_lastRing m_bestNodes m_bestInside m_bestFits))
def f_X8_picks (N : Nat) (m_endA : Nat → Int32) (m_endB : Nat → Int32) (m_ringNodes : Nat → Int32) (m_rings : Int32) (m_lastRing : Int32) (m_bestNodes : Int32) (m_bestInside : Int32) (m_bestFits : Int32) (p1 : Int32) (p2 : Int32) (p3 : Int32) : Option (Int32 × Int32 × Int32 × Int32) :=
  nm ((p1 &&& (p2 ^^^ (-1)))) fun x4_1 =>
  f_X8_picks_b17 N m_endA m_endB m_ringNodes m_rings N p1 p3 x4_1 0 m_lastRing m_bestNodes m_bestInside 1000
def f_X8_ownEdges_b100 (N : Nat) (m_endA : Nat → Int32) (m_endB : Nat → Int32) (m_bestNodes : Int32) (m_bestInside : Int32) (k4 : Int32 → Int32 → Int32 → Option (Int32)) (x1 : Int32) (x3 : Int32) (y0 : Int32) (y1 : Int32) : Option (Int32) :=
  nm ((y0 ||| y1)) fun x2_11 =>
  k4 x1 x2_11 (x3 + 1)
def f_X8_ownEdges_b99 (N : Nat) (m_endA : Nat → Int32) (m_endB : Nat → Int32) (m_bestNodes : Int32) (m_bestInside : Int32) (k4 : Int32 → Int32 → Int32 → Option (Int32)) (x1 : Int32) (x3 : Int32) (y0 : Int32) : Option (Int32) :=
  f_X8_ownEdges_b100 N m_endA m_endB m_bestNodes m_bestInside k4 x1 x3 y0 0
def f_X8_ownEdges_b80 (N : Nat) (m_endA : Nat → Int32) (m_endB : Nat → Int32) (m_bestNodes : Int32) (m_bestInside : Int32) (k4 : Int32 → Int32 → Int32 → Option (Int32)) (x1 : Int32) (x2 : Int32) (x3 : Int32) (x4 : Int32) (y0 : Int32) : Option (Int32) :=
  if x4 = 0 then f_X8_ownEdges_b99 N m_endA m_endB m_bestNodes m_bestInside k4 x1 x3 x2
  else if y0 = 0 then f_X8_ownEdges_b99 N m_endA m_endB m_bestNodes m_bestInside k4 x1 x3 x2
  else f_X8_ownEdges_b100 N m_endA m_endB m_bestNodes m_bestInside k4 x1 x3 x2 ((1 : Int32) <<< (x3 &&& 31))
def f_X8_ownEdges_b39 (N : Nat) (m_endA : Nat → Int32) (m_endB : Nat → Int32) (m_bestNodes : Int32) (m_bestInside : Int32) (k4 : Int32 → Int32 → Int32 → Option (Int32)) (x1 : Int32) (x2 : Int32) (x3 : Int32) (y0 : Int32) : Option (Int32) :=
  if ¬ m_bestInside = 0 then if (y0 &&& m_bestInside) = 0 then f_X8_ownEdges_b80 N m_endA m_endB m_bestNodes m_bestInside k4 x1 x2 x3 y0 0
  else f_X8_ownEdges_b80 N m_endA m_endB m_bestNodes m_bestInside k4 x1 x2 x3 y0 1
  else if ¬ y0 = m_bestNodes then f_X8_ownEdges_b80 N m_endA m_endB m_bestNodes m_bestInside k4 x1 x2 x3 y0 0
  else f_X8_ownEdges_b80 N m_endA m_endB m_bestNodes m_bestInside k4 x1 x2 x3 y0 1
def f_X8_ownEdges_b4 (N : Nat) (m_endA : Nat → Int32) (m_endB : Nat → Int32) (m_bestNodes : Int32) (m_bestInside : Int32) : Nat → Int32 → Int32 → Int32 → Option (Int32)
  | 0 => fun _ _ _ => none
  | n + 1 => fun x1 x2 x3 =>
  if 21 ≤ x3 then some x2
  else bd1 (f_X8_has N x1 x3) fun r_2 =>
  if r_2 = 0 then f_X8_ownEdges_b39 N m_endA m_endB m_bestNodes m_bestInside (f_X8_ownEdges_b4 N m_endA m_endB m_bestNodes m_bestInside n) x1 x2 x3 0
  else chk (inb x3 21) (chk (inb x3 21) (f_X8_ownEdges_b39 N m_endA m_endB m_bestNodes m_bestInside (f_X8_ownEdges_b4 N m_endA m_endB m_bestNodes m_bestInside n) x1 x2 x3 (((1 : Int32) <<< ((m_endA x3.toNatClampNeg) &&& 31)) ||| ((1 : Int32) <<< ((m_endB x3.toNatClampNeg) &&& 31)))))
def f_X8_ownEdges (N : Nat) (m_endA : Nat → Int32) (m_endB : Nat → Int32) (m_bestNodes : Int32) (m_bestInside : Int32) (p1 : Int32) : Option (Int32) :=
  f_X8_ownEdges_b4 N m_endA m_endB m_bestNodes m_bestInside N p1 0 0
def f_X8_splits_b245 (N : Nat) (m_path : Nat → Int32) (m_pathSize : Int32) (m_ring : Nat → Int32) (m_ringSize : Nat → Int32) (m_ringNodes : Nat → Int32) (m_rings : Int32) (m_old : Nat → Int32) : Option ((Nat → Int32) × (Nat → Int32) × (Nat → Int32) × Int32 × (Nat → Int32)) :=
  some (m_ring, m_ringSize, m_ringNodes, (m_rings + 1), m_old)
def f_X8_splits_b213 (N : Nat) (m_path : Nat → Int32) (m_pathSize : Int32) : Nat → Int32 → (Nat → Int32) → (Nat → Int32) → (Nat → Int32) → Int32 → (Nat → Int32) → Option ((Nat → Int32) × (Nat → Int32) × (Nat → Int32) × Int32 × (Nat → Int32))
  | 0 => fun _ _ _ _ _ _ => none
  | n + 1 => fun x5 m_ring m_ringSize m_ringNodes m_rings m_old =>
  if (m_pathSize - 1) ≤ x5 then f_X8_splits_b245 N m_path m_pathSize m_ring m_ringSize m_ringNodes m_rings m_old
  else chk (inb x5 10) (bd1 (f_X8_adds N m_ring m_ringSize m_ringNodes m_rings (m_path x5.toNatClampNeg)) fun r_33 =>
  (f_X8_splits_b213 N m_path m_pathSize n) (x5 + 1) r_33.1 r_33.2.1 r_33.2.2 m_rings m_old)
def f_X8_splits_b210 (N : Nat) (m_path : Nat → Int32) (m_pathSize : Int32) (m_ring : Nat → Int32) (m_ringSize : Nat → Int32) (m_ringNodes : Nat → Int32) (m_rings : Int32) (m_old : Nat → Int32) : Option ((Nat → Int32) × (Nat → Int32) × (Nat → Int32) × Int32 × (Nat → Int32)) :=
  f_X8_splits_b213 N m_path m_pathSize N 1 m_ring m_ringSize m_ringNodes m_rings m_old
def f_X8_splits_b187 (N : Nat) (m_path : Nat → Int32) (m_pathSize : Int32) : Nat → Int32 → Int32 → (Nat → Int32) → (Nat → Int32) → (Nat → Int32) → Int32 → (Nat → Int32) → Option ((Nat → Int32) × (Nat → Int32) × (Nat → Int32) × Int32 × (Nat → Int32))
  | 0 => fun _ _ _ _ _ _ _ => none
  | n + 1 => fun x1 x5 m_ring m_ringSize m_ringNodes m_rings m_old =>
  if x5 ≤ 0 then f_X8_splits_b210 N m_path m_pathSize m_ring m_ringSize m_ringNodes m_rings m_old
  else chk (inb x5 10) (bd1 (f_X8_adds N m_ring m_ringSize m_ringNodes x1 (m_path x5.toNatClampNeg)) fun r_30 =>
  (f_X8_splits_b187 N m_path m_pathSize n) x1 (x5 + (-1)) r_30.1 r_30.2.1 r_30.2.2 m_rings m_old)
def f_X8_splits_b179 (N : Nat) (m_path : Nat → Int32) (m_pathSize : Int32) (x1 : Int32) (m_ring : Nat → Int32) (m_ringSize : Nat → Int32) (m_ringNodes : Nat → Int32) (m_rings : Int32) (m_old : Nat → Int32) : Option ((Nat → Int32) × (Nat → Int32) × (Nat → Int32) × Int32 × (Nat → Int32)) :=
  nm ((m_pathSize - 2)) fun x5_27 =>
  f_X8_splits_b187 N m_path m_pathSize N x1 x5_27 m_ring m_ringSize m_ringNodes m_rings m_old
def f_X8_splits_b147 (N : Nat) (m_path : Nat → Int32) (m_pathSize : Int32) : Nat → Int32 → Int32 → Int32 → Int32 → (Nat → Int32) → (Nat → Int32) → (Nat → Int32) → Int32 → (Nat → Int32) → Option ((Nat → Int32) × (Nat → Int32) × (Nat → Int32) × Int32 × (Nat → Int32))
  | 0 => fun _ _ _ _ _ _ _ _ _ => none
  | n + 1 => fun x1 x2 x3 x4 m_ring m_ringSize m_ringNodes m_rings m_old =>
  if x4 = x3 then f_X8_splits_b179 N m_path m_pathSize x1 m_ring m_ringSize m_ringNodes m_rings m_old
  else chk (nz x2) (nm (((x4 + 1) - (x4 + 1) / x2 * x2)) fun x4_24 =>
  chk (inb x4_24 10) (bd1 (f_X8_adds N m_ring m_ringSize m_ringNodes m_rings (m_old x4_24.toNatClampNeg)) fun r_26 =>
  (f_X8_splits_b147 N m_path m_pathSize n) x1 x2 x3 x4_24 r_26.1 r_26.2.1 r_26.2.2 m_rings m_old))
def f_X8_splits_b132 (N : Nat) (m_path : Nat → Int32) (m_pathSize : Int32) (x1 : Int32) (x2 : Int32) (x3 : Int32) (x4 : Int32) (m_ring : Nat → Int32) (m_ringSize : Nat → Int32) (m_ringNodes : Nat → Int32) (m_rings : Int32) (m_old : Nat → Int32) : Option ((Nat → Int32) × (Nat → Int32) × (Nat → Int32) × Int32 × (Nat → Int32)) :=
  chk (inb x4 10) (bd1 (f_X8_adds N m_ring m_ringSize m_ringNodes m_rings (m_old x4.toNatClampNeg)) fun r_21 =>
  f_X8_splits_b147 N m_path m_pathSize N x1 x2 x3 x4 r_21.1 r_21.2.1 r_21.2.2 m_rings m_old)
def f_X8_splits_b88 (N : Nat) (m_path : Nat → Int32) (m_pathSize : Int32) : Nat → Int32 → Int32 → Int32 → Int32 → (Nat → Int32) → (Nat → Int32) → (Nat → Int32) → Int32 → (Nat → Int32) → Option ((Nat → Int32) × (Nat → Int32) × (Nat → Int32) × Int32 × (Nat → Int32))
  | 0 => fun _ _ _ _ _ _ _ _ _ => none
  | n + 1 => fun x1 x2 x3 x4 m_ring m_ringSize m_ringNodes m_rings m_old =>
  chk (inb x4 10) (chk (inb (m_pathSize - 1) 10) (if (m_old x4.toNatClampNeg) = (m_path (m_pathSize - 1).toNatClampNeg) then f_X8_splits_b132 N m_path m_pathSize x1 x2 x3 x4 m_ring m_ringSize m_ringNodes m_rings m_old
  else chk (nz x2) (nm (((x4 + 1) - (x4 + 1) / x2 * x2)) fun x4_17 =>
  chk (inb x4_17 10) (bd1 (f_X8_adds N m_ring m_ringSize m_ringNodes x1 (m_old x4_17.toNatClampNeg)) fun r_19 =>
  (f_X8_splits_b88 N m_path m_pathSize n) x1 x2 x3 x4_17 r_19.1 r_19.2.1 r_19.2.2 m_rings m_old))))
def f_X8_splits_b60 (N : Nat) (m_path : Nat → Int32) (m_pathSize : Int32) (x1 : Int32) (x2 : Int32) (x3 : Int32) (m_ring : Nat → Int32) (m_ringSize : Nat → Int32) (m_ringNodes : Nat → Int32) (m_rings : Int32) (m_old : Nat → Int32) : Option ((Nat → Int32) × (Nat → Int32) × (Nat → Int32) × Int32 × (Nat → Int32)) :=
  bd1 (f_X8_begins N m_ringSize m_ringNodes x1) fun r_9 =>
  bd1 (f_X8_begins N r_9.1 r_9.2 m_rings) fun r_10 =>
  chk (inb x3 10) (bd1 (f_X8_adds N m_ring r_10.1 r_10.2 x1 (m_old x3.toNatClampNeg)) fun r_12 =>
  f_X8_splits_b88 N m_path m_pathSize N x1 x2 x3 x3 r_12.1 r_12.2.1 r_12.2.2 m_rings m_old)
def f_X8_splits_b39 (N : Nat) (m_path : Nat → Int32) (m_pathSize : Int32) : Nat → Int32 → Int32 → Int32 → (Nat → Int32) → (Nat → Int32) → (Nat → Int32) → Int32 → (Nat → Int32) → Option ((Nat → Int32) × (Nat → Int32) × (Nat → Int32) × Int32 × (Nat → Int32))
  | 0 => fun _ _ _ _ _ _ _ _ => none
  | n + 1 => fun x1 x2 x3 m_ring m_ringSize m_ringNodes m_rings m_old =>
  chk (inb x3 10) (chk (inb 0 10) (if (m_old x3.toNatClampNeg) = (m_path (0 : Int32).toNatClampNeg) then f_X8_splits_b60 N m_path m_pathSize x1 x2 x3 m_ring m_ringSize m_ringNodes m_rings m_old
  else (f_X8_splits_b39 N m_path m_pathSize n) x1 x2 (x3 + 1) m_ring m_ringSize m_ringNodes m_rings m_old))
def f_X8_splits_b37 (N : Nat) (m_path : Nat → Int32) (m_pathSize : Int32) (x1 : Int32) (x2 : Int32) (m_ring : Nat → Int32) (m_ringSize : Nat → Int32) (m_ringNodes : Nat → Int32) (m_rings : Int32) (m_old : Nat → Int32) : Option ((Nat → Int32) × (Nat → Int32) × (Nat → Int32) × Int32 × (Nat → Int32)) :=
  f_X8_splits_b39 N m_path m_pathSize N x1 x2 0 m_ring m_ringSize m_ringNodes m_rings m_old
def f_X8_splits_b9 (N : Nat) (m_path : Nat → Int32) (m_pathSize : Int32) : Nat → Int32 → Int32 → Int32 → (Nat → Int32) → (Nat → Int32) → (Nat → Int32) → Int32 → (Nat → Int32) → Option ((Nat → Int32) × (Nat → Int32) × (Nat → Int32) × Int32 × (Nat → Int32))
  | 0 => fun _ _ _ _ _ _ _ _ => none
  | n + 1 => fun x1 x2 x3 m_ring m_ringSize m_ringNodes m_rings m_old =>
  if x2 ≤ x3 then f_X8_splits_b37 N m_path m_pathSize x1 x2 m_ring m_ringSize m_ringNodes m_rings m_old
  else chk (inb ((10 * x1) + x3) 400) (chk (inb x3 10) ((f_X8_splits_b9 N m_path m_pathSize n) x1 x2 (x3 + 1) m_ring m_ringSize m_ringNodes m_rings (upd m_old x3.toNatClampNeg (m_ring ((10 * x1) + x3).toNatClampNeg))))
def f_X8_splits (N : Nat) (m_ring : Nat → Int32) (m_ringSize : Nat → Int32) (m_ringNodes : Nat → Int32) (m_rings : Int32) (m_path : Nat → Int32) (m_pathSize : Int32) (m_old : Nat → Int32) (p1 : Int32) : Option ((Nat → Int32) × (Nat → Int32) × (Nat → Int32) × Int32 × (Nat → Int32)) :=
  chk (inb p1 40) (nm ((m_ringSize p1.toNatClampNeg)) fun x2_2 =>
  f_X8_splits_b9 N m_path m_pathSize N p1 x2_2 0 m_ring m_ringSize m_ringNodes m_rings m_old)
def f_X8_canDraw_b249 (N : Nat) (m_endA : Nat → Int32) (m_endB : Nat → Int32) (k127 : Int32 → Int32 → Int32 → (Nat → Int32) → (Nat → Int32) → (Nat → Int32) → (Nat → Int32) → (Nat → Int32) → Int32 → (Nat → Int32) → Int32 → (Nat → Int32) → Int32 → Int32 → Int32 → Int32 → Option (Int32 × (Nat → Int32) × (Nat → Int32) × (Nat → Int32) × (Nat → Int32) × (Nat → Int32) × Int32 × (Nat → Int32) × Int32 × (Nat → Int32) × Int32 × Int32 × Int32 × Int32)) (x1 : Int32) (x4 : Int32) (x5 : Int32) (y1 : Int32) (m_from : Nat → Int32) (m_queue : Nat → Int32) (m_ring : Nat → Int32) (m_ringSize : Nat → Int32) (m_ringNodes : Nat → Int32) (m_rings : Int32) (m_path : Nat → Int32) (m_pathSize : Int32) (m_old : Nat → Int32) (m_lastRing : Int32) (m_bestNodes : Int32) (m_bestInside : Int32) (m_bestFits : Int32) : Option (Int32 × (Nat → Int32) × (Nat → Int32) × (Nat → Int32) × (Nat → Int32) × (Nat → Int32) × Int32 × (Nat → Int32) × Int32 × (Nat → Int32) × Int32 × Int32 × Int32 × Int32) :=
  bd1 (f_X8_splits N m_ring m_ringSize m_ringNodes m_rings m_path m_pathSize m_old y1) fun r_32 =>
  k127 x1 x4 x5 m_from m_queue r_32.1 r_32.2.1 r_32.2.2.1 r_32.2.2.2.1 m_path m_pathSize r_32.2.2.2.2 m_lastRing m_bestNodes m_bestInside m_bestFits
def f_X8_canDraw_b127 (N : Nat) (m_endA : Nat → Int32) (m_endB : Nat → Int32) : Nat → Int32 → Int32 → Int32 → (Nat → Int32) → (Nat → Int32) → (Nat → Int32) → (Nat → Int32) → (Nat → Int32) → Int32 → (Nat → Int32) → Int32 → (Nat → Int32) → Int32 → Int32 → Int32 → Int32 → Option (Int32 × (Nat → Int32) × (Nat → Int32) × (Nat → Int32) × (Nat → Int32) × (Nat → Int32) × Int32 × (Nat → Int32) × Int32 × (Nat → Int32) × Int32 × Int32 × Int32 × Int32)
  | 0 => fun _ _ _ _ _ _ _ _ _ _ _ _ _ _ _ _ => none
  | n + 1 => fun x1 x4 x5 m_from m_queue m_ring m_ringSize m_ringNodes m_rings m_path m_pathSize m_old m_lastRing m_bestNodes m_bestInside m_bestFits =>
  if x4 = x1 then some (1, m_from, m_queue, m_ring, m_ringSize, m_ringNodes, m_rings, m_path, m_pathSize, m_old, m_lastRing, m_bestNodes, m_bestInside, m_bestFits)
  else bd1 (f_X8_picks N m_endA m_endB m_ringNodes m_rings m_lastRing m_bestNodes m_bestInside m_bestFits x1 x4 x5) fun r_18 =>
  if ¬ r_18.2.2.2 = 0 then bd1 (f_X8_lowest N r_18.2.1) fun r_20 =>
  bd1 (f_X8_ownEdges N m_endA m_endB r_18.2.1 r_18.2.2.1 (x1 &&& (x4 ^^^ (-1)))) fun r_21 =>
  bd1 (f_X8_finds N m_endA m_endB m_from m_queue r_20 r_21 r_18.2.2.1 (r_18.2.1 &&& (((1 : Int32) <<< (r_20 &&& 31)) ^^^ (-1)))) fun r_22 =>
  nm (r_22.1) fun x8_23 =>
  bd1 (f_X8_takesPath N r_22.2.1 m_path m_pathSize x8_23 r_20) fun r_24 =>
  bd1 (f_X8_fitting N m_ringNodes m_rings r_18.1 r_18.2.1) fun r_25 =>
  nm (r_25.1) fun x9_26 =>
  bd1 (f_X8_edgesOfPath N m_endA m_endB r_24.1 r_24.2 r_21) fun r_27 =>
  nm ((x4 ||| r_27)) fun x4_28 =>
  bd1 (f_X8_nodesOfPath N r_24.1 r_24.2) fun r_29 =>
  nm ((x5 ||| r_29)) fun x5_30 =>
  if x9_26 ≤ 0 then f_X8_canDraw_b249 N m_endA m_endB (f_X8_canDraw_b127 N m_endA m_endB n) x1 x4_28 x5_30 0 r_22.2.1 r_22.2.2 m_ring m_ringSize m_ringNodes m_rings r_24.1 r_24.2 m_old r_25.2 r_18.2.1 r_18.2.2.1 r_18.2.2.2
  else f_X8_canDraw_b249 N m_endA m_endB (f_X8_canDraw_b127 N m_endA m_endB n) x1 x4_28 x5_30 r_25.2 r_22.2.1 r_22.2.2 m_ring m_ringSize m_ringNodes m_rings r_24.1 r_24.2 m_old r_25.2 r_18.2.1 r_18.2.2.1 r_18.2.2.2
  else some (0, m_from, m_queue, m_ring, m_ringSize, m_ringNodes, m_rings, m_path, m_pathSize, m_old, r_18.1, r_18.2.1, r_18.2.2.1, r_18.2.2.2)
def f_X8_canDraw_b121 (N : Nat) (m_endA : Nat → Int32) (m_endB : Nat → Int32) (k78 : Int32 → Int32 → Int32 → Int32 → (Nat → Int32) → (Nat → Int32) → (Nat → Int32) → (Nat → Int32) → (Nat → Int32) → Int32 → (Nat → Int32) → Int32 → (Nat → Int32) → Int32 → Int32 → Int32 → Int32 → Option (Int32 × (Nat → Int32) × (Nat → Int32) × (Nat → Int32) × (Nat → Int32) × (Nat → Int32) × Int32 × (Nat → Int32) × Int32 × (Nat → Int32) × Int32 × Int32 × Int32 × Int32)) (x1 : Int32) (x4 : Int32) (x5 : Int32) (x6 : Int32) (m_from : Nat → Int32) (m_queue : Nat → Int32) (m_ring : Nat → Int32) (m_ringSize : Nat → Int32) (m_ringNodes : Nat → Int32) (m_rings : Int32) (m_path : Nat → Int32) (m_pathSize : Int32) (m_old : Nat → Int32) (m_lastRing : Int32) (m_bestNodes : Int32) (m_bestInside : Int32) (m_bestFits : Int32) : Option (Int32 × (Nat → Int32) × (Nat → Int32) × (Nat → Int32) × (Nat → Int32) × (Nat → Int32) × Int32 × (Nat → Int32) × Int32 × (Nat → Int32) × Int32 × Int32 × Int32 × Int32) :=
  k78 x1 x4 x5 (x6 + 1) m_from m_queue m_ring m_ringSize m_ringNodes m_rings m_path m_pathSize m_old m_lastRing m_bestNodes m_bestInside m_bestFits
def f_X8_canDraw_b93 (N : Nat) (m_endA : Nat → Int32) (m_endB : Nat → Int32) (k78 : Int32 → Int32 → Int32 → Int32 → (Nat → Int32) → (Nat → Int32) → (Nat → Int32) → (Nat → Int32) → (Nat → Int32) → Int32 → (Nat → Int32) → Int32 → (Nat → Int32) → Int32 → Int32 → Int32 → Int32 → Option (Int32 × (Nat → Int32) × (Nat → Int32) × (Nat → Int32) × (Nat → Int32) × (Nat → Int32) × Int32 × (Nat → Int32) × Int32 × (Nat → Int32) × Int32 × Int32 × Int32 × Int32)) : Nat → Int32 → Int32 → Int32 → Int32 → Int32 → (Nat → Int32) → (Nat → Int32) → (Nat → Int32) → (Nat → Int32) → (Nat → Int32) → Int32 → (Nat → Int32) → Int32 → (Nat → Int32) → Int32 → Int32 → Int32 → Int32 → Option (Int32 × (Nat → Int32) × (Nat → Int32) × (Nat → Int32) × (Nat → Int32) × (Nat → Int32) × Int32 × (Nat → Int32) × Int32 × (Nat → Int32) × Int32 × Int32 × Int32 × Int32)
  | 0 => fun _ _ _ _ _ _ _ _ _ _ _ _ _ _ _ _ _ _ => none
  | n + 1 => fun x1 x4 x5 x6 x7 m_from m_queue m_ring m_ringSize m_ringNodes m_rings m_path m_pathSize m_old m_lastRing m_bestNodes m_bestInside m_bestFits =>
  if m_pathSize ≤ x7 then f_X8_canDraw_b121 N m_endA m_endB k78 x1 x4 x5 x6 m_from m_queue m_ring m_ringSize m_ringNodes m_rings m_path m_pathSize m_old m_lastRing m_bestNodes m_bestInside m_bestFits
  else chk (inb x7 10) (bd1 (f_X8_adds N m_ring m_ringSize m_ringNodes x6 (m_path x7.toNatClampNeg)) fun r_16 =>
  (f_X8_canDraw_b93 N m_endA m_endB k78 n) x1 x4 x5 x6 (x7 + 1) m_from m_queue r_16.1 r_16.2.1 r_16.2.2 m_rings m_path m_pathSize m_old m_lastRing m_bestNodes m_bestInside m_bestFits)
def f_X8_canDraw_b78 (N : Nat) (m_endA : Nat → Int32) (m_endB : Nat → Int32) : Nat → Int32 → Int32 → Int32 → Int32 → (Nat → Int32) → (Nat → Int32) → (Nat → Int32) → (Nat → Int32) → (Nat → Int32) → Int32 → (Nat → Int32) → Int32 → (Nat → Int32) → Int32 → Int32 → Int32 → Int32 → Option (Int32 × (Nat → Int32) × (Nat → Int32) × (Nat → Int32) × (Nat → Int32) × (Nat → Int32) × Int32 × (Nat → Int32) × Int32 × (Nat → Int32) × Int32 × Int32 × Int32 × Int32)
  | 0 => fun _ _ _ _ _ _ _ _ _ _ _ _ _ _ _ _ _ => none
  | n + 1 => fun x1 x4 x5 x6 m_from m_queue m_ring m_ringSize m_ringNodes m_rings m_path m_pathSize m_old m_lastRing m_bestNodes m_bestInside m_bestFits =>
  if 2 ≤ x6 then f_X8_canDraw_b127 N m_endA m_endB N x1 x4 x5 m_from m_queue m_ring m_ringSize m_ringNodes m_rings m_path m_pathSize m_old m_lastRing m_bestNodes m_bestInside m_bestFits
  else bd1 (f_X8_begins N m_ringSize m_ringNodes x6) fun r_13 =>
  f_X8_canDraw_b93 N m_endA m_endB (f_X8_canDraw_b78 N m_endA m_endB n) N x1 x4 x5 x6 0 m_from m_queue m_ring r_13.1 r_13.2 m_rings m_path m_pathSize m_old m_lastRing m_bestNodes m_bestInside m_bestFits
def f_X8_canDraw (N : Nat) (m_endA : Nat → Int32) (m_endB : Nat → Int32) (m_from : Nat → Int32) (m_queue : Nat → Int32) (m_ring : Nat → Int32) (m_ringSize : Nat → Int32) (m_ringNodes : Nat → Int32) (m_rings : Int32) (m_path : Nat → Int32) (m_pathSize : Int32) (m_old : Nat → Int32) (m_lastRing : Int32) (m_bestNodes : Int32) (m_bestInside : Int32) (m_bestFits : Int32) (p1 : Int32) : Option (Int32 × (Nat → Int32) × (Nat → Int32) × (Nat → Int32) × (Nat → Int32) × (Nat → Int32) × Int32 × (Nat → Int32) × Int32 × (Nat → Int32) × Int32 × Int32 × Int32 × Int32) :=
  bd1 (f_X8_lowest N p1) fun r_1 =>
  chk (inb r_1 21) (chk (inb r_1 21) (bd1 (f_X8_finds N m_endA m_endB m_from m_queue (m_endA r_1.toNatClampNeg) (p1 &&& (((1 : Int32) <<< (r_1 &&& 31)) ^^^ (-1))) 511 ((1 : Int32) <<< ((m_endB r_1.toNatClampNeg) &&& 31))) fun r_4 =>
  nm (r_4.1) fun x3_5 =>
  if ¬ x3_5 = (-9) then chk (inb r_1 21) (bd1 (f_X8_takesPath N r_4.2.1 m_path m_pathSize x3_5 (m_endA r_1.toNatClampNeg)) fun r_8 =>
  bd1 (f_X8_edgesOfPath N m_endA m_endB r_8.1 r_8.2 p1) fun r_9 =>
  nm ((r_9 ||| ((1 : Int32) <<< (r_1 &&& 31)))) fun x4_10 =>
  bd1 (f_X8_nodesOfPath N r_8.1 r_8.2) fun r_11 =>
  f_X8_canDraw_b78 N m_endA m_endB N p1 x4_10 r_11 0 r_4.2.1 r_4.2.2 m_ring m_ringSize m_ringNodes 2 r_8.1 r_8.2 m_old m_lastRing m_bestNodes m_bestInside m_bestFits)
  else some (1, r_4.2.1, r_4.2.2, m_ring, m_ringSize, m_ringNodes, m_rings, m_path, m_pathSize, m_old, m_lastRing, m_bestNodes, m_bestInside, m_bestFits)))
def f_X8_planar_b4 (N : Nat) (m_endA : Nat → Int32) (m_endB : Nat → Int32) : Nat → Int32 → Int32 → Int32 → (Nat → Int32) → (Nat → Int32) → (Nat → Int32) → (Nat → Int32) → (Nat → Int32) → Int32 → (Nat → Int32) → Int32 → (Nat → Int32) → Int32 → Int32 → Int32 → Int32 → Option (Int32 × (Nat → Int32) × (Nat → Int32) × (Nat → Int32) × (Nat → Int32) × (Nat → Int32) × Int32 × (Nat → Int32) × Int32 × (Nat → Int32) × Int32 × Int32 × Int32 × Int32)
  | 0 => fun _ _ _ _ _ _ _ _ _ _ _ _ _ _ _ _ => none
  | n + 1 => fun x1 x2 x3 m_from m_queue m_ring m_ringSize m_ringNodes m_rings m_path m_pathSize m_old m_lastRing m_bestNodes m_bestInside m_bestFits =>
  if x2 = 0 then chk (isB x3) (some (x3, m_from, m_queue, m_ring, m_ringSize, m_ringNodes, m_rings, m_path, m_pathSize, m_old, m_lastRing, m_bestNodes, m_bestInside, m_bestFits))
  else if x3 = 0 then chk (isB x3) (some (x3, m_from, m_queue, m_ring, m_ringSize, m_ringNodes, m_rings, m_path, m_pathSize, m_old, m_lastRing, m_bestNodes, m_bestInside, m_bestFits))
  else bd1 (f_X8_lowest N x2) fun r_5 =>
  bd1 (f_X8_block N m_endA m_endB x1 r_5) fun r_6 =>
  bd1 (f_X8_canDraw N m_endA m_endB m_from m_queue m_ring m_ringSize m_ringNodes m_rings m_path m_pathSize m_old m_lastRing m_bestNodes m_bestInside m_bestFits r_6) fun r_7 =>
  nm (r_7.1) fun x3_8 =>
  nm ((x2 &&& (r_6 ^^^ (-1)))) fun x2_9 =>
  (f_X8_planar_b4 N m_endA m_endB n) x1 x2_9 x3_8 r_7.2.1 r_7.2.2.1 r_7.2.2.2.1 r_7.2.2.2.2.1 r_7.2.2.2.2.2.1 r_7.2.2.2.2.2.2.1 r_7.2.2.2.2.2.2.2.1 r_7.2.2.2.2.2.2.2.2.1 r_7.2.2.2.2.2.2.2.2.2.1 r_7.2.2.2.2.2.2.2.2.2.2.1 r_7.2.2.2.2.2.2.2.2.2.2.2.1 r_7.2.2.2.2.2.2.2.2.2.2.2.2.1 r_7.2.2.2.2.2.2.2.2.2.2.2.2.2
def f_X8_planar (N : Nat) (m_endA : Nat → Int32) (m_endB : Nat → Int32) (m_from : Nat → Int32) (m_queue : Nat → Int32) (m_ring : Nat → Int32) (m_ringSize : Nat → Int32) (m_ringNodes : Nat → Int32) (m_rings : Int32) (m_path : Nat → Int32) (m_pathSize : Int32) (m_old : Nat → Int32) (m_lastRing : Int32) (m_bestNodes : Int32) (m_bestInside : Int32) (m_bestFits : Int32) (p1 : Int32) : Option (Int32 × (Nat → Int32) × (Nat → Int32) × (Nat → Int32) × (Nat → Int32) × (Nat → Int32) × Int32 × (Nat → Int32) × Int32 × (Nat → Int32) × Int32 × Int32 × Int32 × Int32) :=
  f_X8_planar_b4 N m_endA m_endB N p1 p1 1 m_from m_queue m_ring m_ringSize m_ringNodes m_rings m_path m_pathSize m_old m_lastRing m_bestNodes m_bestInside m_bestFits
def f_X8_obstructed_b52 (N : Nat) (m_s : Nat → Int32) (k17 : Int32 → Int32 → (Nat → Int32) → (Nat → Int32) → (Nat → Int32) → (Nat → Int32) → (Nat → Int32) → (Nat → Int32) → (Nat → Int32) → Int32 → (Nat → Int32) → Int32 → (Nat → Int32) → Int32 → Int32 → Int32 → Int32 → Option (Int32 × (Nat → Int32) × (Nat → Int32) × (Nat → Int32) × (Nat → Int32) × (Nat → Int32) × (Nat → Int32) × (Nat → Int32) × Int32 × (Nat → Int32) × Int32 × (Nat → Int32) × Int32 × Int32 × Int32 × Int32)) (x2 : Int32) (y0 : Int32) (m_endA : Nat → Int32) (m_endB : Nat → Int32) (m_from : Nat → Int32) (m_queue : Nat → Int32) (m_ring : Nat → Int32) (m_ringSize : Nat → Int32) (m_ringNodes : Nat → Int32) (m_rings : Int32) (m_path : Nat → Int32) (m_pathSize : Int32) (m_old : Nat → Int32) (m_lastRing : Int32) (m_bestNodes : Int32) (m_bestInside : Int32) (m_bestFits : Int32) : Option (Int32 × (Nat → Int32) × (Nat → Int32) × (Nat → Int32) × (Nat → Int32) × (Nat → Int32) × (Nat → Int32) × (Nat → Int32) × Int32 × (Nat → Int32) × Int32 × (Nat → Int32) × Int32 × Int32 × Int32 × Int32) :=
  k17 y0 (x2 + 1) m_endA m_endB m_from m_queue m_ring m_ringSize m_ringNodes m_rings m_path m_pathSize m_old m_lastRing m_bestNodes m_bestInside m_bestFits
def f_X8_obstructed_b17 (N : Nat) (m_s : Nat → Int32) : Nat → Int32 → Int32 → (Nat → Int32) → (Nat → Int32) → (Nat → Int32) → (Nat → Int32) → (Nat → Int32) → (Nat → Int32) → (Nat → Int32) → Int32 → (Nat → Int32) → Int32 → (Nat → Int32) → Int32 → Int32 → Int32 → Int32 → Option (Int32 × (Nat → Int32) × (Nat → Int32) × (Nat → Int32) × (Nat → Int32) × (Nat → Int32) × (Nat → Int32) × (Nat → Int32) × Int32 × (Nat → Int32) × Int32 × (Nat → Int32) × Int32 × Int32 × Int32 × Int32)
  | 0 => fun _ _ _ _ _ _ _ _ _ _ _ _ _ _ _ _ _ => none
  | n + 1 => fun x1 x2 m_endA m_endB m_from m_queue m_ring m_ringSize m_ringNodes m_rings m_path m_pathSize m_old m_lastRing m_bestNodes m_bestInside m_bestFits =>
  chk (inb 1 124) (if (m_s (1 : Int32).toNatClampNeg) ≤ x2 then some (x1, m_endA, m_endB, m_from, m_queue, m_ring, m_ringSize, m_ringNodes, m_rings, m_path, m_pathSize, m_old, m_lastRing, m_bestNodes, m_bestInside, m_bestFits)
  else bd1 (f_X8_planar N m_endA m_endB m_from m_queue m_ring m_ringSize m_ringNodes m_rings m_path m_pathSize m_old m_lastRing m_bestNodes m_bestInside m_bestFits (x1 &&& (((1 : Int32) <<< (x2 &&& 31)) ^^^ (-1)))) fun r_7 =>
  if r_7.1 = 0 then f_X8_obstructed_b52 N m_s (f_X8_obstructed_b17 N m_s n) x2 (x1 &&& (((1 : Int32) <<< (x2 &&& 31)) ^^^ (-1))) m_endA m_endB r_7.2.1 r_7.2.2.1 r_7.2.2.2.1 r_7.2.2.2.2.1 r_7.2.2.2.2.2.1 r_7.2.2.2.2.2.2.1 r_7.2.2.2.2.2.2.2.1 r_7.2.2.2.2.2.2.2.2.1 r_7.2.2.2.2.2.2.2.2.2.1 r_7.2.2.2.2.2.2.2.2.2.2.1 r_7.2.2.2.2.2.2.2.2.2.2.2.1 r_7.2.2.2.2.2.2.2.2.2.2.2.2.1 r_7.2.2.2.2.2.2.2.2.2.2.2.2.2
  else f_X8_obstructed_b52 N m_s (f_X8_obstructed_b17 N m_s n) x2 x1 m_endA m_endB r_7.2.1 r_7.2.2.1 r_7.2.2.2.1 r_7.2.2.2.2.1 r_7.2.2.2.2.2.1 r_7.2.2.2.2.2.2.1 r_7.2.2.2.2.2.2.2.1 r_7.2.2.2.2.2.2.2.2.1 r_7.2.2.2.2.2.2.2.2.2.1 r_7.2.2.2.2.2.2.2.2.2.2.1 r_7.2.2.2.2.2.2.2.2.2.2.2.1 r_7.2.2.2.2.2.2.2.2.2.2.2.2.1 r_7.2.2.2.2.2.2.2.2.2.2.2.2.2)
def f_X8_obstructed (N : Nat) (m_s : Nat → Int32) (m_endA : Nat → Int32) (m_endB : Nat → Int32) (m_from : Nat → Int32) (m_queue : Nat → Int32) (m_ring : Nat → Int32) (m_ringSize : Nat → Int32) (m_ringNodes : Nat → Int32) (m_rings : Int32) (m_path : Nat → Int32) (m_pathSize : Int32) (m_old : Nat → Int32) (m_lastRing : Int32) (m_bestNodes : Int32) (m_bestInside : Int32) (m_bestFits : Int32) : Option (Int32 × (Nat → Int32) × (Nat → Int32) × (Nat → Int32) × (Nat → Int32) × (Nat → Int32) × (Nat → Int32) × (Nat → Int32) × Int32 × (Nat → Int32) × Int32 × (Nat → Int32) × Int32 × Int32 × Int32 × Int32) :=
  bd1 (f_X8_allEdges N m_s m_endA m_endB) fun r_1 =>
  nm (r_1.1) fun x1_2 =>
  bd1 (f_X8_planar N r_1.2.1 r_1.2.2 m_from m_queue m_ring m_ringSize m_ringNodes m_rings m_path m_pathSize m_old m_lastRing m_bestNodes m_bestInside m_bestFits x1_2) fun r_3 =>
  if r_3.1 = 0 then f_X8_obstructed_b17 N m_s N x1_2 0 r_1.2.1 r_1.2.2 r_3.2.1 r_3.2.2.1 r_3.2.2.2.1 r_3.2.2.2.2.1 r_3.2.2.2.2.2.1 r_3.2.2.2.2.2.2.1 r_3.2.2.2.2.2.2.2.1 r_3.2.2.2.2.2.2.2.2.1 r_3.2.2.2.2.2.2.2.2.2.1 r_3.2.2.2.2.2.2.2.2.2.2.1 r_3.2.2.2.2.2.2.2.2.2.2.2.1 r_3.2.2.2.2.2.2.2.2.2.2.2.2.1 r_3.2.2.2.2.2.2.2.2.2.2.2.2.2
  else some (0, r_1.2.1, r_1.2.2, r_3.2.1, r_3.2.2.1, r_3.2.2.2.1, r_3.2.2.2.2.1, r_3.2.2.2.2.2.1, r_3.2.2.2.2.2.2.1, r_3.2.2.2.2.2.2.2.1, r_3.2.2.2.2.2.2.2.2.1, r_3.2.2.2.2.2.2.2.2.2.1, r_3.2.2.2.2.2.2.2.2.2.2.1, r_3.2.2.2.2.2.2.2.2.2.2.2.1, r_3.2.2.2.2.2.2.2.2.2.2.2.2.1, r_3.2.2.2.2.2.2.2.2.2.2.2.2.2)
def f_X8_branching_b85 (N : Nat) (m_s : Nat → Int32) (k9 : Int32 → Int32 → Int32 → (Nat → Int32) → (Nat → Int32) → (Nat → Int32) → (Nat → Int32) → (Nat → Int32) → (Nat → Int32) → (Nat → Int32) → Int32 → (Nat → Int32) → Int32 → (Nat → Int32) → Int32 → Int32 → Int32 → Int32 → Option (Int32 × (Nat → Int32) × (Nat → Int32) × (Nat → Int32) × (Nat → Int32) × (Nat → Int32) × (Nat → Int32) × (Nat → Int32) × Int32 × (Nat → Int32) × Int32 × (Nat → Int32) × Int32 × Int32 × Int32 × Int32)) (x1 : Int32) (x3 : Int32) (y0 : Int32) (y1 : Int32) (m_endA : Nat → Int32) (m_endB : Nat → Int32) (m_from : Nat → Int32) (m_queue : Nat → Int32) (m_ring : Nat → Int32) (m_ringSize : Nat → Int32) (m_ringNodes : Nat → Int32) (m_rings : Int32) (m_path : Nat → Int32) (m_pathSize : Int32) (m_old : Nat → Int32) (m_lastRing : Int32) (m_bestNodes : Int32) (m_bestInside : Int32) (m_bestFits : Int32) : Option (Int32 × (Nat → Int32) × (Nat → Int32) × (Nat → Int32) × (Nat → Int32) × (Nat → Int32) × (Nat → Int32) × (Nat → Int32) × Int32 × (Nat → Int32) × Int32 × (Nat → Int32) × Int32 × Int32 × Int32 × Int32) :=
  nm ((y0 ||| y1)) fun x2_13 =>
  k9 x1 x2_13 (x3 + 1) m_endA m_endB m_from m_queue m_ring m_ringSize m_ringNodes m_rings m_path m_pathSize m_old m_lastRing m_bestNodes m_bestInside m_bestFits
def f_X8_branching_b71 (N : Nat) (m_s : Nat → Int32) (k9 : Int32 → Int32 → Int32 → (Nat → Int32) → (Nat → Int32) → (Nat → Int32) → (Nat → Int32) → (Nat → Int32) → (Nat → Int32) → (Nat → Int32) → Int32 → (Nat → Int32) → Int32 → (Nat → Int32) → Int32 → Int32 → Int32 → Int32 → Option (Int32 × (Nat → Int32) × (Nat → Int32) × (Nat → Int32) × (Nat → Int32) × (Nat → Int32) × (Nat → Int32) × (Nat → Int32) × Int32 × (Nat → Int32) × Int32 × (Nat → Int32) × Int32 × Int32 × Int32 × Int32)) (x1 : Int32) (x2 : Int32) (x3 : Int32) (x4 : Int32) (m_endA : Nat → Int32) (m_endB : Nat → Int32) (m_from : Nat → Int32) (m_queue : Nat → Int32) (m_ring : Nat → Int32) (m_ringSize : Nat → Int32) (m_ringNodes : Nat → Int32) (m_rings : Int32) (m_path : Nat → Int32) (m_pathSize : Int32) (m_old : Nat → Int32) (m_lastRing : Int32) (m_bestNodes : Int32) (m_bestInside : Int32) (m_bestFits : Int32) : Option (Int32 × (Nat → Int32) × (Nat → Int32) × (Nat → Int32) × (Nat → Int32) × (Nat → Int32) × (Nat → Int32) × (Nat → Int32) × Int32 × (Nat → Int32) × Int32 × (Nat → Int32) × Int32 × Int32 × Int32 × Int32) :=
  if x4 ≤ 2 then f_X8_branching_b85 N m_s k9 x1 x3 x2 0 m_endA m_endB m_from m_queue m_ring m_ringSize m_ringNodes m_rings m_path m_pathSize m_old m_lastRing m_bestNodes m_bestInside m_bestFits
  else f_X8_branching_b85 N m_s k9 x1 x3 x2 ((1 : Int32) <<< (x3 &&& 31)) m_endA m_endB m_from m_queue m_ring m_ringSize m_ringNodes m_rings m_path m_pathSize m_old m_lastRing m_bestNodes m_bestInside m_bestFits
def f_X8_branching_b62 (N : Nat) (m_s : Nat → Int32) (k9 : Int32 → Int32 → Int32 → (Nat → Int32) → (Nat → Int32) → (Nat → Int32) → (Nat → Int32) → (Nat → Int32) → (Nat → Int32) → (Nat → Int32) → Int32 → (Nat → Int32) → Int32 → (Nat → Int32) → Int32 → Int32 → Int32 → Int32 → Option (Int32 × (Nat → Int32) × (Nat → Int32) × (Nat → Int32) × (Nat → Int32) × (Nat → Int32) × (Nat → Int32) × (Nat → Int32) × Int32 × (Nat → Int32) × Int32 × (Nat → Int32) × Int32 × Int32 × Int32 × Int32)) (k25 : Int32 → Int32 → Int32 → Int32 → Int32 → (Nat → Int32) → (Nat → Int32) → (Nat → Int32) → (Nat → Int32) → (Nat → Int32) → (Nat → Int32) → (Nat → Int32) → Int32 → (Nat → Int32) → Int32 → (Nat → Int32) → Int32 → Int32 → Int32 → Int32 → Option (Int32 × (Nat → Int32) × (Nat → Int32) × (Nat → Int32) × (Nat → Int32) × (Nat → Int32) × (Nat → Int32) × (Nat → Int32) × Int32 × (Nat → Int32) × Int32 × (Nat → Int32) × Int32 × Int32 × Int32 × Int32)) (x1 : Int32) (x2 : Int32) (x3 : Int32) (x5 : Int32) (y0 : Int32) (y1 : Int32) (m_endA : Nat → Int32) (m_endB : Nat → Int32) (m_from : Nat → Int32) (m_queue : Nat → Int32) (m_ring : Nat → Int32) (m_ringSize : Nat → Int32) (m_ringNodes : Nat → Int32) (m_rings : Int32) (m_path : Nat → Int32) (m_pathSize : Int32) (m_old : Nat → Int32) (m_lastRing : Int32) (m_bestNodes : Int32) (m_bestInside : Int32) (m_bestFits : Int32) : Option (Int32 × (Nat → Int32) × (Nat → Int32) × (Nat → Int32) × (Nat → Int32) × (Nat → Int32) × (Nat → Int32) × (Nat → Int32) × Int32 × (Nat → Int32) × Int32 × (Nat → Int32) × Int32 × Int32 × Int32 × Int32) :=
  nm ((y0 + y1)) fun x4_11 =>
  k25 x1 x2 x3 x4_11 (x5 + 1) m_endA m_endB m_from m_queue m_ring m_ringSize m_ringNodes m_rings m_path m_pathSize m_old m_lastRing m_bestNodes m_bestInside m_bestFits
def f_X8_branching_b61 (N : Nat) (m_s : Nat → Int32) (k9 : Int32 → Int32 → Int32 → (Nat → Int32) → (Nat → Int32) → (Nat → Int32) → (Nat → Int32) → (Nat → Int32) → (Nat → Int32) → (Nat → Int32) → Int32 → (Nat → Int32) → Int32 → (Nat → Int32) → Int32 → Int32 → Int32 → Int32 → Option (Int32 × (Nat → Int32) × (Nat → Int32) × (Nat → Int32) × (Nat → Int32) × (Nat → Int32) × (Nat → Int32) × (Nat → Int32) × Int32 × (Nat → Int32) × Int32 × (Nat → Int32) × Int32 × Int32 × Int32 × Int32)) (k25 : Int32 → Int32 → Int32 → Int32 → Int32 → (Nat → Int32) → (Nat → Int32) → (Nat → Int32) → (Nat → Int32) → (Nat → Int32) → (Nat → Int32) → (Nat → Int32) → Int32 → (Nat → Int32) → Int32 → (Nat → Int32) → Int32 → Int32 → Int32 → Int32 → Option (Int32 × (Nat → Int32) × (Nat → Int32) × (Nat → Int32) × (Nat → Int32) × (Nat → Int32) × (Nat → Int32) × (Nat → Int32) × Int32 × (Nat → Int32) × Int32 × (Nat → Int32) × Int32 × Int32 × Int32 × Int32)) (x1 : Int32) (x2 : Int32) (x3 : Int32) (x5 : Int32) (y0 : Int32) (m_endA : Nat → Int32) (m_endB : Nat → Int32) (m_from : Nat → Int32) (m_queue : Nat → Int32) (m_ring : Nat → Int32) (m_ringSize : Nat → Int32) (m_ringNodes : Nat → Int32) (m_rings : Int32) (m_path : Nat → Int32) (m_pathSize : Int32) (m_old : Nat → Int32) (m_lastRing : Int32) (m_bestNodes : Int32) (m_bestInside : Int32) (m_bestFits : Int32) : Option (Int32 × (Nat → Int32) × (Nat → Int32) × (Nat → Int32) × (Nat → Int32) × (Nat → Int32) × (Nat → Int32) × (Nat → Int32) × Int32 × (Nat → Int32) × Int32 × (Nat → Int32) × Int32 × Int32 × Int32 × Int32) :=
  f_X8_branching_b62 N m_s k9 k25 x1 x2 x3 x5 y0 0 m_endA m_endB m_from m_queue m_ring m_ringSize m_ringNodes m_rings m_path m_pathSize m_old m_lastRing m_bestNodes m_bestInside m_bestFits
def f_X8_branching_b25 (N : Nat) (m_s : Nat → Int32) (k9 : Int32 → Int32 → Int32 → (Nat → Int32) → (Nat → Int32) → (Nat → Int32) → (Nat → Int32) → (Nat → Int32) → (Nat → Int32) → (Nat → Int32) → Int32 → (Nat → Int32) → Int32 → (Nat → Int32) → Int32 → Int32 → Int32 → Int32 → Option (Int32 × (Nat → Int32) × (Nat → Int32) × (Nat → Int32) × (Nat → Int32) × (Nat → Int32) × (Nat → Int32) × (Nat → Int32) × Int32 × (Nat → Int32) × Int32 × (Nat → Int32) × Int32 × Int32 × Int32 × Int32)) : Nat → Int32 → Int32 → Int32 → Int32 → Int32 → (Nat → Int32) → (Nat → Int32) → (Nat → Int32) → (Nat → Int32) → (Nat → Int32) → (Nat → Int32) → (Nat → Int32) → Int32 → (Nat → Int32) → Int32 → (Nat → Int32) → Int32 → Int32 → Int32 → Int32 → Option (Int32 × (Nat → Int32) × (Nat → Int32) × (Nat → Int32) × (Nat → Int32) × (Nat → Int32) × (Nat → Int32) × (Nat → Int32) × Int32 × (Nat → Int32) × Int32 × (Nat → Int32) × Int32 × Int32 × Int32 × Int32)
  | 0 => fun _ _ _ _ _ _ _ _ _ _ _ _ _ _ _ _ _ _ _ _ => none
  | n + 1 => fun x1 x2 x3 x4 x5 m_endA m_endB m_from m_queue m_ring m_ringSize m_ringNodes m_rings m_path m_pathSize m_old m_lastRing m_bestNodes m_bestInside m_bestFits =>
  chk (inb 1 124) (if (m_s (1 : Int32).toNatClampNeg) ≤ x5 then f_X8_branching_b71 N m_s k9 x1 x2 x3 x4 m_endA m_endB m_from m_queue m_ring m_ringSize m_ringNodes m_rings m_path m_pathSize m_old m_lastRing m_bestNodes m_bestInside m_bestFits
  else bd1 (f_X8_has N x1 x5) fun r_7 =>
  if r_7 = 0 then f_X8_branching_b61 N m_s k9 (f_X8_branching_b25 N m_s k9 n) x1 x2 x3 x5 x4 m_endA m_endB m_from m_queue m_ring m_ringSize m_ringNodes m_rings m_path m_pathSize m_old m_lastRing m_bestNodes m_bestInside m_bestFits
  else bd1 (f_X8_isAt N m_s x5 x3) fun r_9 =>
  if r_9 = 0 then f_X8_branching_b61 N m_s k9 (f_X8_branching_b25 N m_s k9 n) x1 x2 x3 x5 x4 m_endA m_endB m_from m_queue m_ring m_ringSize m_ringNodes m_rings m_path m_pathSize m_old m_lastRing m_bestNodes m_bestInside m_bestFits
  else f_X8_branching_b62 N m_s k9 (f_X8_branching_b25 N m_s k9 n) x1 x2 x3 x5 x4 1 m_endA m_endB m_from m_queue m_ring m_ringSize m_ringNodes m_rings m_path m_pathSize m_old m_lastRing m_bestNodes m_bestInside m_bestFits)
def f_X8_branching_b9 (N : Nat) (m_s : Nat → Int32) : Nat → Int32 → Int32 → Int32 → (Nat → Int32) → (Nat → Int32) → (Nat → Int32) → (Nat → Int32) → (Nat → Int32) → (Nat → Int32) → (Nat → Int32) → Int32 → (Nat → Int32) → Int32 → (Nat → Int32) → Int32 → Int32 → Int32 → Int32 → Option (Int32 × (Nat → Int32) × (Nat → Int32) × (Nat → Int32) × (Nat → Int32) × (Nat → Int32) × (Nat → Int32) × (Nat → Int32) × Int32 × (Nat → Int32) × Int32 × (Nat → Int32) × Int32 × Int32 × Int32 × Int32)
  | 0 => fun _ _ _ _ _ _ _ _ _ _ _ _ _ _ _ _ _ _ => none
  | n + 1 => fun x1 x2 x3 m_endA m_endB m_from m_queue m_ring m_ringSize m_ringNodes m_rings m_path m_pathSize m_old m_lastRing m_bestNodes m_bestInside m_bestFits =>
  chk (inb 0 124) (if (m_s (0 : Int32).toNatClampNeg) ≤ x3 then some (x2, m_endA, m_endB, m_from, m_queue, m_ring, m_ringSize, m_ringNodes, m_rings, m_path, m_pathSize, m_old, m_lastRing, m_bestNodes, m_bestInside, m_bestFits)
  else f_X8_branching_b25 N m_s (f_X8_branching_b9 N m_s n) N x1 x2 x3 0 0 m_endA m_endB m_from m_queue m_ring m_ringSize m_ringNodes m_rings m_path m_pathSize m_old m_lastRing m_bestNodes m_bestInside m_bestFits)
def f_X8_branching (N : Nat) (m_s : Nat → Int32) (m_endA : Nat → Int32) (m_endB : Nat → Int32) (m_from : Nat → Int32) (m_queue : Nat → Int32) (m_ring : Nat → Int32) (m_ringSize : Nat → Int32) (m_ringNodes : Nat → Int32) (m_rings : Int32) (m_path : Nat → Int32) (m_pathSize : Int32) (m_old : Nat → Int32) (m_lastRing : Int32) (m_bestNodes : Int32) (m_bestInside : Int32) (m_bestFits : Int32) : Option (Int32 × (Nat → Int32) × (Nat → Int32) × (Nat → Int32) × (Nat → Int32) × (Nat → Int32) × (Nat → Int32) × (Nat → Int32) × Int32 × (Nat → Int32) × Int32 × (Nat → Int32) × Int32 × Int32 × Int32 × Int32) :=
  bd1 (f_X8_obstructed N m_s m_endA m_endB m_from m_queue m_ring m_ringSize m_ringNodes m_rings m_path m_pathSize m_old m_lastRing m_bestNodes m_bestInside m_bestFits) fun r_1 =>
  nm (r_1.1) fun x1_2 =>
  f_X8_branching_b9 N m_s N x1_2 0 0 r_1.2.1 r_1.2.2.1 r_1.2.2.2.1 r_1.2.2.2.2.1 r_1.2.2.2.2.2.1 r_1.2.2.2.2.2.2.1 r_1.2.2.2.2.2.2.2.1 r_1.2.2.2.2.2.2.2.2.1 r_1.2.2.2.2.2.2.2.2.2.1 r_1.2.2.2.2.2.2.2.2.2.2.1 r_1.2.2.2.2.2.2.2.2.2.2.2.1 r_1.2.2.2.2.2.2.2.2.2.2.2.2.1 r_1.2.2.2.2.2.2.2.2.2.2.2.2.2.1 r_1.2.2.2.2.2.2.2.2.2.2.2.2.2.2.1 r_1.2.2.2.2.2.2.2.2.2.2.2.2.2.2.2
def f_X8_canAdd (N : Nat) (m_s : Nat → Int32) (m_endA : Nat → Int32) (m_endB : Nat → Int32) (m_from : Nat → Int32) (m_queue : Nat → Int32) (m_ring : Nat → Int32) (m_ringSize : Nat → Int32) (m_ringNodes : Nat → Int32) (m_rings : Int32) (m_path : Nat → Int32) (m_pathSize : Int32) (m_old : Nat → Int32) (m_lastRing : Int32) (m_bestNodes : Int32) (m_bestInside : Int32) (m_bestFits : Int32) (p1 : Int32) (p2 : Int32) : Option (Int32 × (Nat → Int32) × (Nat → Int32) × (Nat → Int32) × (Nat → Int32) × (Nat → Int32) × (Nat → Int32) × (Nat → Int32) × Int32 × (Nat → Int32) × Int32 × (Nat → Int32) × Int32 × Int32 × Int32 × Int32) :=
  bd1 (f_X8_areNodes N m_s p1 p2) fun r_1 =>
  if ¬ r_1 = 0 then bd1 (f_X8_between N m_s p1 p2) fun r_3 =>
  if r_3 = (-9) then bd1 (f_X8_laysEnds N m_s m_endA m_endB p1 p2) fun r_5 =>
  chk (inb 1 124) (bd1 (f_X8_planar N r_5.1 r_5.2 m_from m_queue m_ring m_ringSize m_ringNodes m_rings m_path m_pathSize m_old m_lastRing m_bestNodes m_bestInside m_bestFits (((1 : Int32) <<< (((m_s (1 : Int32).toNatClampNeg) + 1) &&& 31)) - 1)) fun r_7 =>
  if r_7.1 = 0 then some (0, r_5.1, r_5.2, r_7.2.1, r_7.2.2.1, r_7.2.2.2.1, r_7.2.2.2.2.1, r_7.2.2.2.2.2.1, r_7.2.2.2.2.2.2.1, r_7.2.2.2.2.2.2.2.1, r_7.2.2.2.2.2.2.2.2.1, r_7.2.2.2.2.2.2.2.2.2.1, r_7.2.2.2.2.2.2.2.2.2.2.1, r_7.2.2.2.2.2.2.2.2.2.2.2.1, r_7.2.2.2.2.2.2.2.2.2.2.2.2.1, r_7.2.2.2.2.2.2.2.2.2.2.2.2.2)
  else some (1, r_5.1, r_5.2, r_7.2.1, r_7.2.2.1, r_7.2.2.2.1, r_7.2.2.2.2.1, r_7.2.2.2.2.2.1, r_7.2.2.2.2.2.2.1, r_7.2.2.2.2.2.2.2.1, r_7.2.2.2.2.2.2.2.2.1, r_7.2.2.2.2.2.2.2.2.2.1, r_7.2.2.2.2.2.2.2.2.2.2.1, r_7.2.2.2.2.2.2.2.2.2.2.2.1, r_7.2.2.2.2.2.2.2.2.2.2.2.2.1, r_7.2.2.2.2.2.2.2.2.2.2.2.2.2))
  else some ((-2), m_endA, m_endB, m_from, m_queue, m_ring, m_ringSize, m_ringNodes, m_rings, m_path, m_pathSize, m_old, m_lastRing, m_bestNodes, m_bestInside, m_bestFits)
  else some ((-1), m_endA, m_endB, m_from, m_queue, m_ring, m_ringSize, m_ringNodes, m_rings, m_path, m_pathSize, m_old, m_lastRing, m_bestNodes, m_bestInside, m_bestFits)
def f_X8_clearText (N : Nat) (m_typed : Int32) : Option (Int32 × Int32) :=
  some (m_typed, 0)
def f_X8_commonFace_b17 (N : Nat) (m_s : Nat → Int32) : Nat → Int32 → Int32 → Int32 → (Nat → Int32) → (Nat → Int32) → Int32 → Option (Int32 × (Nat → Int32) × (Nat → Int32) × Int32)
  | 0 => fun _ _ _ _ _ _ => none
  | n + 1 => fun x1 x2 x3 m_faceOfSide m_firstSide m_faces =>
  if m_faces ≤ x3 then some ((-9), m_faceOfSide, m_firstSide, m_faces)
  else bd1 (f_X8_nodesOn N m_s m_faceOfSide x3) fun r_5 =>
  bd1 (f_X8_nodesOn N m_s m_faceOfSide x3) fun r_6 =>
  if ¬ (((r_5 >>> (x1 &&& 31)) &&& (r_6 >>> (x2 &&& 31))) &&& 1) = 1 then (f_X8_commonFace_b17 N m_s n) x1 x2 (x3 + 1) m_faceOfSide m_firstSide m_faces
  else some (x3, m_faceOfSide, m_firstSide, m_faces)
def f_X8_commonFace (N : Nat) (m_s : Nat → Int32) (m_faceOfSide : Nat → Int32) (m_firstSide : Nat → Int32) (m_faces : Int32) (p1 : Int32) (p2 : Int32) : Option (Int32 × (Nat → Int32) × (Nat → Int32) × Int32) :=
  bd1 (f_X8_areNodes N m_s p1 p2) fun r_1 =>
  if ¬ r_1 = 0 then bd1 (f_X8_walks N m_s m_faceOfSide m_firstSide m_faces) fun r_3 =>
  f_X8_commonFace_b17 N m_s N p1 p2 0 r_3.1 r_3.2.1 r_3.2.2
  else some ((-1), m_faceOfSide, m_firstSide, m_faces)
def f_X8_component_b78 (N : Nat) (m_s : Nat → Int32) (k6 : Int32 → Int32 → Option (Int32)) (x2 : Int32) (x3 : Int32) : Option (Int32) :=
  k6 x2 (x3 + 1)
def f_X8_component_b70 (N : Nat) (m_s : Nat → Int32) (k6 : Int32 → Int32 → Option (Int32)) (k19 : Int32 → Int32 → Int32 → Option (Int32)) (x3 : Int32) (x4 : Int32) (y0 : Int32) (y1 : Int32) : Option (Int32) :=
  nm ((y0 ||| y1)) fun x2_10 =>
  k19 x2_10 x3 (x4 + 1)
def f_X8_component_b19 (N : Nat) (m_s : Nat → Int32) (k6 : Int32 → Int32 → Option (Int32)) : Nat → Int32 → Int32 → Int32 → Option (Int32)
  | 0 => fun _ _ _ => none
  | n + 1 => fun x2 x3 x4 =>
  chk (inb 1 124) (if (m_s (1 : Int32).toNatClampNeg) ≤ x4 then f_X8_component_b78 N m_s k6 x2 x3
  else chk (inb (3 + x4) 124) (chk (inb (23 + x4) 124) (nm ((((1 : Int32) <<< ((m_s (3 + x4).toNatClampNeg) &&& 31)) ||| ((1 : Int32) <<< ((m_s (23 + x4).toNatClampNeg) &&& 31)))) fun x5_8 =>
  if (x2 &&& x5_8) = 0 then f_X8_component_b70 N m_s k6 (f_X8_component_b19 N m_s k6 n) x3 x4 x2 0
  else f_X8_component_b70 N m_s k6 (f_X8_component_b19 N m_s k6 n) x3 x4 x2 x5_8)))
def f_X8_component_b6 (N : Nat) (m_s : Nat → Int32) : Nat → Int32 → Int32 → Option (Int32)
  | 0 => fun _ _ => none
  | n + 1 => fun x2 x3 =>
  chk (inb 0 124) (if (m_s (0 : Int32).toNatClampNeg) ≤ x3 then some x2
  else f_X8_component_b19 N m_s (f_X8_component_b6 N m_s n) N x2 x3 0)
def f_X8_component (N : Nat) (m_s : Nat → Int32) (p1 : Int32) : Option (Int32) :=
  nm (((1 : Int32) <<< (p1 &&& 31))) fun x2_1 =>
  f_X8_component_b6 N m_s N x2_1 0
def f_X8_components_b34 (N : Nat) (m_s : Nat → Int32) (k4 : Int32 → Int32 → Option (Int32)) (x2 : Int32) (y0 : Int32) (y1 : Int32) : Option (Int32) :=
  nm ((y0 + y1)) fun x1_5 =>
  k4 x1_5 (x2 + 1)
def f_X8_components_b4 (N : Nat) (m_s : Nat → Int32) : Nat → Int32 → Int32 → Option (Int32)
  | 0 => fun _ _ => none
  | n + 1 => fun x1 x2 =>
  chk (inb 0 124) (if (m_s (0 : Int32).toNatClampNeg) ≤ x2 then some x1
  else bd1 (f_X8_component N m_s x2) fun r_3 =>
  if ¬ (r_3 &&& (((1 : Int32) <<< (x2 &&& 31)) - 1)) = 0 then f_X8_components_b34 N m_s (f_X8_components_b4 N m_s n) x2 x1 0
  else f_X8_components_b34 N m_s (f_X8_components_b4 N m_s n) x2 x1 1)
def f_X8_components (N : Nat) (m_s : Nat → Int32) : Option (Int32) :=
  f_X8_components_b4 N m_s N 0 0
def f_X8_looks_b134 (N : Nat) (m_s : Nat → Int32) (m_faceOfSide : Nat → Int32) (m_faces : Int32) (k43 : Int32 → (Nat → Int32) → Option ((Nat → Int32))) (x2 : Int32) (m_far : Nat → Int32) : Option ((Nat → Int32)) :=
  k43 (x2 + 1) m_far
def f_X8_looks_b127 (N : Nat) (m_s : Nat → Int32) (m_faceOfSide : Nat → Int32) (m_faces : Int32) (k43 : Int32 → (Nat → Int32) → Option ((Nat → Int32))) (k53 : Int32 → Int32 → (Nat → Int32) → Option ((Nat → Int32))) (x2 : Int32) (x3 : Int32) (y1 : Int32) (y2 : Int32) (m_far : Nat → Int32) : Option ((Nat → Int32)) :=
  chk (inb y1 40) (k53 x2 (x3 + 1) (upd m_far y1.toNatClampNeg y2))
def f_X8_looks_b53 (N : Nat) (m_s : Nat → Int32) (m_faceOfSide : Nat → Int32) (m_faces : Int32) (k43 : Int32 → (Nat → Int32) → Option ((Nat → Int32))) : Nat → Int32 → Int32 → (Nat → Int32) → Option ((Nat → Int32))
  | 0 => fun _ _ _ => none
  | n + 1 => fun x2 x3 m_far =>
  chk (inb 1 124) (if (2 * (m_s (1 : Int32).toNatClampNeg)) ≤ x3 then f_X8_looks_b134 N m_s m_faceOfSide m_faces k43 x2 m_far
  else chk (inb x3 40) (nm ((m_faceOfSide x3.toNatClampNeg)) fun x4_10 =>
  chk (inb (x3 ^^^ 1) 40) (nm ((m_faceOfSide (x3 ^^^ 1).toNatClampNeg)) fun x5_12 =>
  chk (inb x5_12 40) (chk (inb x4_10 40) (if (m_far x4_10.toNatClampNeg) ≤ ((m_far x5_12.toNatClampNeg) + 1) then chk (inb x4_10 40) (f_X8_looks_b127 N m_s m_faceOfSide m_faces k43 (f_X8_looks_b53 N m_s m_faceOfSide m_faces k43 n) x2 x3 x4_10 (m_far x4_10.toNatClampNeg) m_far)
  else chk (inb x5_12 40) (f_X8_looks_b127 N m_s m_faceOfSide m_faces k43 (f_X8_looks_b53 N m_s m_faceOfSide m_faces k43 n) x2 x3 x4_10 ((m_far x5_12.toNatClampNeg) + 1) m_far))))))
def f_X8_looks_b43 (N : Nat) (m_s : Nat → Int32) (m_faceOfSide : Nat → Int32) (m_faces : Int32) : Nat → Int32 → (Nat → Int32) → Option ((Nat → Int32))
  | 0 => fun _ _ => none
  | n + 1 => fun x2 m_far =>
  if m_faces ≤ x2 then some m_far
  else f_X8_looks_b53 N m_s m_faceOfSide m_faces (f_X8_looks_b43 N m_s m_faceOfSide m_faces n) N x2 0 m_far
def f_X8_looks_b41 (N : Nat) (m_s : Nat → Int32) (m_faceOfSide : Nat → Int32) (m_faces : Int32) (m_far : Nat → Int32) : Option ((Nat → Int32)) :=
  f_X8_looks_b43 N m_s m_faceOfSide m_faces N 0 m_far
def f_X8_looks_b34 (N : Nat) (m_s : Nat → Int32) (m_faceOfSide : Nat → Int32) (m_faces : Int32) (k2 : Int32 → Int32 → (Nat → Int32) → Option ((Nat → Int32))) (x1 : Int32) (x2 : Int32) (y1 : Int32) (y2 : Int32) (m_far : Nat → Int32) : Option ((Nat → Int32)) :=
  chk (inb y1 40) (k2 x1 (x2 + 1) (upd m_far y1.toNatClampNeg y2))
def f_X8_looks_b2 (N : Nat) (m_s : Nat → Int32) (m_faceOfSide : Nat → Int32) (m_faces : Int32) : Nat → Int32 → Int32 → (Nat → Int32) → Option ((Nat → Int32))
  | 0 => fun _ _ _ => none
  | n + 1 => fun x1 x2 m_far =>
  if m_faces ≤ x2 then f_X8_looks_b41 N m_s m_faceOfSide m_faces m_far
  else bd1 (f_X8_nodesOn N m_s m_faceOfSide x2) fun r_2 =>
  bd1 (f_X8_has N r_2 x1) fun r_3 =>
  if r_3 = 0 then f_X8_looks_b34 N m_s m_faceOfSide m_faces (f_X8_looks_b2 N m_s m_faceOfSide m_faces n) x1 x2 x2 1000 m_far
  else f_X8_looks_b34 N m_s m_faceOfSide m_faces (f_X8_looks_b2 N m_s m_faceOfSide m_faces n) x1 x2 x2 0 m_far
def f_X8_looks (N : Nat) (m_s : Nat → Int32) (m_faceOfSide : Nat → Int32) (m_faces : Int32) (m_far : Nat → Int32) (p1 : Int32) : Option ((Nat → Int32)) :=
  f_X8_looks_b2 N m_s m_faceOfSide m_faces N p1 0 m_far
def f_X8_costOf_b70 (N : Nat) (m_s : Nat → Int32) (m_faceOfSide : Nat → Int32) (m_faces : Int32) (k26 : Int32 → Int32 → Int32 → (Nat → Int32) → Option (Int32 × (Nat → Int32))) (x1 : Int32) (x4 : Int32) (y0 : Int32) (m_far : Nat → Int32) : Option (Int32 × (Nat → Int32)) :=
  k26 x1 y0 (x4 + 1) m_far
def f_X8_costOf_b69 (N : Nat) (m_s : Nat → Int32) (m_faceOfSide : Nat → Int32) (m_faces : Int32) (k26 : Int32 → Int32 → Int32 → (Nat → Int32) → Option (Int32 × (Nat → Int32))) (x1 : Int32) (x3 : Int32) (x4 : Int32) (m_far : Nat → Int32) : Option (Int32 × (Nat → Int32)) :=
  f_X8_costOf_b70 N m_s m_faceOfSide m_faces k26 x1 x4 x3 m_far
def f_X8_costOf_b26 (N : Nat) (m_s : Nat → Int32) (m_faceOfSide : Nat → Int32) (m_faces : Int32) : Nat → Int32 → Int32 → Int32 → (Nat → Int32) → Option (Int32 × (Nat → Int32))
  | 0 => fun _ _ _ _ => none
  | n + 1 => fun x1 x3 x4 m_far =>
  if m_faces ≤ x4 then some (x3, m_far)
  else bd1 (f_X8_nodesOn N m_s m_faceOfSide x4) fun r_6 =>
  bd1 (f_X8_has N r_6 x1) fun r_7 =>
  if r_7 = 0 then f_X8_costOf_b69 N m_s m_faceOfSide m_faces (f_X8_costOf_b26 N m_s m_faceOfSide m_faces n) x1 x3 x4 m_far
  else chk (inb x4 40) (if x3 ≤ (m_far x4.toNatClampNeg) then f_X8_costOf_b69 N m_s m_faceOfSide m_faces (f_X8_costOf_b26 N m_s m_faceOfSide m_faces n) x1 x3 x4 m_far
  else chk (inb x4 40) (f_X8_costOf_b70 N m_s m_faceOfSide m_faces (f_X8_costOf_b26 N m_s m_faceOfSide m_faces n) x1 x4 (m_far x4.toNatClampNeg) m_far))
def f_X8_costOf (N : Nat) (m_s : Nat → Int32) (m_faceOfSide : Nat → Int32) (m_faces : Int32) (m_far : Nat → Int32) (p1 : Int32) (p2 : Int32) : Option (Int32 × (Nat → Int32)) :=
  bd1 (f_X8_component N m_s p1) fun r_1 =>
  bd1 (f_X8_has N r_1 p2) fun r_2 =>
  if ¬ r_2 = 0 then bd1 (f_X8_looks N m_s m_faceOfSide m_faces m_far p2) fun r_4 =>
  f_X8_costOf_b26 N m_s m_faceOfSide m_faces N p1 1000 0 r_4
  else some (0, m_far)
def f_X8_genus_b62 (N : Nat) (m_s : Nat → Int32) (x1 : Int32) (m_faceOfSide : Nat → Int32) (m_firstSide : Nat → Int32) (m_faces : Int32) : Option (Int32 × (Nat → Int32) × (Nat → Int32) × Int32) :=
  chk (inb 1 124) (some ((((x1 + (m_s (1 : Int32).toNatClampNeg)) - m_faces) / 2), m_faceOfSide, m_firstSide, m_faces))
def f_X8_genus_b56 (N : Nat) (m_s : Nat → Int32) (k8 : Int32 → Int32 → (Nat → Int32) → (Nat → Int32) → Int32 → Option (Int32 × (Nat → Int32) × (Nat → Int32) × Int32)) (x1 : Int32) (x2 : Int32) (m_faceOfSide : Nat → Int32) (m_firstSide : Nat → Int32) (m_faces : Int32) : Option (Int32 × (Nat → Int32) × (Nat → Int32) × Int32) :=
  k8 x1 (x2 + 1) m_faceOfSide m_firstSide m_faces
def f_X8_genus_b8 (N : Nat) (m_s : Nat → Int32) : Nat → Int32 → Int32 → (Nat → Int32) → (Nat → Int32) → Int32 → Option (Int32 × (Nat → Int32) × (Nat → Int32) × Int32)
  | 0 => fun _ _ _ _ _ => none
  | n + 1 => fun x1 x2 m_faceOfSide m_firstSide m_faces =>
  chk (inb 0 124) (if (m_s (0 : Int32).toNatClampNeg) ≤ x2 then f_X8_genus_b62 N m_s x1 m_faceOfSide m_firstSide m_faces
  else bd1 (f_X8_component N m_s x2) fun r_4 =>
  if ¬ (r_4 &&& (((1 : Int32) <<< (x2 &&& 31)) - 1)) = 0 then f_X8_genus_b56 N m_s (f_X8_genus_b8 N m_s n) x1 x2 m_faceOfSide m_firstSide m_faces
  else chk (inb (43 + x2) 124) (if (m_s (43 + x2).toNatClampNeg) ≤ 0 then f_X8_genus_b56 N m_s (f_X8_genus_b8 N m_s n) x1 x2 m_faceOfSide m_firstSide m_faces
  else bd1 (f_X8_bits N ((r_4 : Int32).toInt64)) fun r_8 =>
  nm ((x1 + (2 - r_8))) fun x1_9 =>
  f_X8_genus_b56 N m_s (f_X8_genus_b8 N m_s n) x1_9 x2 m_faceOfSide m_firstSide m_faces))
def f_X8_genus (N : Nat) (m_s : Nat → Int32) (m_faceOfSide : Nat → Int32) (m_firstSide : Nat → Int32) (m_faces : Int32) : Option (Int32 × (Nat → Int32) × (Nat → Int32) × Int32) :=
  bd1 (f_X8_walks N m_s m_faceOfSide m_firstSide m_faces) fun r_1 =>
  f_X8_genus_b8 N m_s N 0 0 r_1.1 r_1.2.1 r_1.2.2
def f_X8_count (N : Nat) (m_s : Nat → Int32) (m_pasts : Int32) (m_typed : Int32) (m_faceOfSide : Nat → Int32) (m_firstSide : Nat → Int32) (m_faces : Int32) (p1 : Int32) : Option (Int32 × (Nat → Int32) × (Nat → Int32) × Int32) :=
  if p1 = 0 then chk (inb 0 124) (some ((m_s (0 : Int32).toNatClampNeg), m_faceOfSide, m_firstSide, m_faces))
  else if p1 = 1 then chk (inb 1 124) (some ((m_s (1 : Int32).toNatClampNeg), m_faceOfSide, m_firstSide, m_faces))
  else if p1 = 2 then bd1 (f_X8_components N m_s) fun r_6 =>
  some (r_6, m_faceOfSide, m_firstSide, m_faces)
  else if p1 = 3 then bd1 (f_X8_walks N m_s m_faceOfSide m_firstSide m_faces) fun r_8 =>
  some (r_8.2.2, r_8.1, r_8.2.1, r_8.2.2)
  else if p1 = 4 then bd1 (f_X8_genus N m_s m_faceOfSide m_firstSide m_faces) fun r_10 =>
  some (r_10.1, r_10.2.1, r_10.2.2.1, r_10.2.2.2)
  else if p1 = 5 then chk (inb 2 124) (some ((m_s (2 : Int32).toNatClampNeg), m_faceOfSide, m_firstSide, m_faces))
  else if p1 = 6 then some (m_typed, m_faceOfSide, m_firstSide, m_faces)
  else if p1 = 7 then some (m_pasts, m_faceOfSide, m_firstSide, m_faces)
  else some ((-1), m_faceOfSide, m_firstSide, m_faces)
def f_X8_isRefused_b18 (N : Nat) (m_s : Nat → Int32) (m_faceOfSide : Nat → Int32) (m_firstSide : Nat → Int32) (m_faces : Int32) : Option (Int32 × (Nat → Int32) × (Nat → Int32) × Int32) :=
  some (1, m_faceOfSide, m_firstSide, m_faces)
def f_X8_isRefused (N : Nat) (m_s : Nat → Int32) (m_faceOfSide : Nat → Int32) (m_firstSide : Nat → Int32) (m_faces : Int32) (p1 : Int32) (p2 : Int32) : Option (Int32 × (Nat → Int32) × (Nat → Int32) × Int32) :=
  bd1 (f_X8_genus N m_s m_faceOfSide m_firstSide m_faces) fun r_1 =>
  if ¬ r_1.1 = 0 then f_X8_isRefused_b18 N m_s r_1.2.1 r_1.2.2.1 r_1.2.2.2
  else bd1 (f_X8_between N m_s p1 p2) fun r_3 =>
  if r_3 = (-9) then some (0, r_1.2.1, r_1.2.2.1, r_1.2.2.2)
  else f_X8_isRefused_b18 N m_s r_1.2.1 r_1.2.2.1 r_1.2.2.2
def f_X8_crossed_b267 (N : Nat) (m_s : Nat → Int32) (k110 : Int32 → Int32 → Int64 → Int32 → Int32 → (Nat → Int32) → (Nat → Int32) → Int32 → (Nat → Int32) → Option (Int32 × (Nat → Int32) × (Nat → Int32) × Int32 × (Nat → Int32))) (x3 : Int32) (x4 : Int32) (x7 : Int32) (x8 : Int32) (x9 : Int64) (m_faceOfSide : Nat → Int32) (m_firstSide : Nat → Int32) (m_faces : Int32) (m_far : Nat → Int32) : Option (Int32 × (Nat → Int32) × (Nat → Int32) × Int32 × (Nat → Int32)) :=
  k110 x3 x4 x9 x7 (x8 + 1) m_faceOfSide m_firstSide m_faces m_far
def f_X8_crossed_b259 (N : Nat) (m_s : Nat → Int32) (k110 : Int32 → Int32 → Int64 → Int32 → Int32 → (Nat → Int32) → (Nat → Int32) → Int32 → (Nat → Int32) → Option (Int32 × (Nat → Int32) × (Nat → Int32) × Int32 × (Nat → Int32))) (k129 : Int32 → Int32 → Int64 → Int32 → Int32 → Int64 → Int32 → (Nat → Int32) → (Nat → Int32) → Int32 → (Nat → Int32) → Option (Int32 × (Nat → Int32) × (Nat → Int32) × Int32 × (Nat → Int32))) (x3 : Int32) (x4 : Int32) (x5 : Int64) (x8 : Int32) (x9 : Int64) (x11 : Int32) (y0 : Int32) (m_faceOfSide : Nat → Int32) (m_firstSide : Nat → Int32) (m_faces : Int32) (m_far : Nat → Int32) : Option (Int32 × (Nat → Int32) × (Nat → Int32) × Int32 × (Nat → Int32)) :=
  k129 x3 x4 x5 y0 x8 x9 (x11 + 1) m_faceOfSide m_firstSide m_faces m_far
def f_X8_crossed_b242 (N : Nat) (m_s : Nat → Int32) (k110 : Int32 → Int32 → Int64 → Int32 → Int32 → (Nat → Int32) → (Nat → Int32) → Int32 → (Nat → Int32) → Option (Int32 × (Nat → Int32) × (Nat → Int32) × Int32 × (Nat → Int32))) (k129 : Int32 → Int32 → Int64 → Int32 → Int32 → Int64 → Int32 → (Nat → Int32) → (Nat → Int32) → Int32 → (Nat → Int32) → Option (Int32 × (Nat → Int32) × (Nat → Int32) × Int32 × (Nat → Int32))) (x3 : Int32) (x4 : Int32) (x5 : Int64) (x8 : Int32) (x11 : Int32) (y0 : Int64) (y1 : Int64) (m_faceOfSide : Nat → Int32) (m_firstSide : Nat → Int32) (m_faces : Int32) (m_far : Nat → Int32) : Option (Int32 × (Nat → Int32) × (Nat → Int32) × Int32 × (Nat → Int32)) :=
  nm ((y0 ||| y1)) fun x9_33 =>
  if (lg_cmp x9_33 (0 : Int64)) = 0 then f_X8_crossed_b259 N m_s k110 k129 x3 x4 x5 x8 x9_33 x11 (-9) m_faceOfSide m_firstSide m_faces m_far
  else f_X8_crossed_b259 N m_s k110 k129 x3 x4 x5 x8 x9_33 x11 x11 m_faceOfSide m_firstSide m_faces m_far
def f_X8_crossed_b241 (N : Nat) (m_s : Nat → Int32) (k110 : Int32 → Int32 → Int64 → Int32 → Int32 → (Nat → Int32) → (Nat → Int32) → Int32 → (Nat → Int32) → Option (Int32 × (Nat → Int32) × (Nat → Int32) × Int32 × (Nat → Int32))) (k129 : Int32 → Int32 → Int64 → Int32 → Int32 → Int64 → Int32 → (Nat → Int32) → (Nat → Int32) → Int32 → (Nat → Int32) → Option (Int32 × (Nat → Int32) × (Nat → Int32) × Int32 × (Nat → Int32))) (x3 : Int32) (x4 : Int32) (x5 : Int64) (x8 : Int32) (x11 : Int32) (y0 : Int64) (m_faceOfSide : Nat → Int32) (m_firstSide : Nat → Int32) (m_faces : Int32) (m_far : Nat → Int32) : Option (Int32 × (Nat → Int32) × (Nat → Int32) × Int32 × (Nat → Int32)) :=
  f_X8_crossed_b242 N m_s k110 k129 x3 x4 x5 x8 x11 y0 (0 : Int64) m_faceOfSide m_firstSide m_faces m_far
def f_X8_crossed_b205 (N : Nat) (m_s : Nat → Int32) (k110 : Int32 → Int32 → Int64 → Int32 → Int32 → (Nat → Int32) → (Nat → Int32) → Int32 → (Nat → Int32) → Option (Int32 × (Nat → Int32) × (Nat → Int32) × Int32 × (Nat → Int32))) (k129 : Int32 → Int32 → Int64 → Int32 → Int32 → Int64 → Int32 → (Nat → Int32) → (Nat → Int32) → Int32 → (Nat → Int32) → Option (Int32 × (Nat → Int32) × (Nat → Int32) × Int32 × (Nat → Int32))) (x3 : Int32) (x4 : Int32) (x5 : Int64) (x8 : Int32) (x11 : Int32) (x12 : Int32) (x13 : Int32) (y0 : Int64) (y1 : Int64) (m_faceOfSide : Nat → Int32) (m_firstSide : Nat → Int32) (m_faces : Int32) (m_far : Nat → Int32) : Option (Int32 × (Nat → Int32) × (Nat → Int32) × Int32 × (Nat → Int32)) :=
  nm ((y0 ||| y1)) fun x9_29 =>
  if ¬ (lg_cmp ((x5 >>> ((x13 : Int32).toInt64 &&& 63)) &&& (1 : Int64)) (1 : Int64)) = 0 then f_X8_crossed_b241 N m_s k110 k129 x3 x4 x5 x8 x11 x9_29 m_faceOfSide m_firstSide m_faces m_far
  else chk (inb x12 40) (if ¬ (m_far x12.toNatClampNeg) = x4 then f_X8_crossed_b241 N m_s k110 k129 x3 x4 x5 x8 x11 x9_29 m_faceOfSide m_firstSide m_faces m_far
  else f_X8_crossed_b242 N m_s k110 k129 x3 x4 x5 x8 x11 x9_29 ((1 : Int64) <<< ((x12 : Int32).toInt64 &&& 63)) m_faceOfSide m_firstSide m_faces m_far)
def f_X8_crossed_b204 (N : Nat) (m_s : Nat → Int32) (k110 : Int32 → Int32 → Int64 → Int32 → Int32 → (Nat → Int32) → (Nat → Int32) → Int32 → (Nat → Int32) → Option (Int32 × (Nat → Int32) × (Nat → Int32) × Int32 × (Nat → Int32))) (k129 : Int32 → Int32 → Int64 → Int32 → Int32 → Int64 → Int32 → (Nat → Int32) → (Nat → Int32) → Int32 → (Nat → Int32) → Option (Int32 × (Nat → Int32) × (Nat → Int32) × Int32 × (Nat → Int32))) (x3 : Int32) (x4 : Int32) (x5 : Int64) (x8 : Int32) (x11 : Int32) (x12 : Int32) (x13 : Int32) (y0 : Int64) (m_faceOfSide : Nat → Int32) (m_firstSide : Nat → Int32) (m_faces : Int32) (m_far : Nat → Int32) : Option (Int32 × (Nat → Int32) × (Nat → Int32) × Int32 × (Nat → Int32)) :=
  f_X8_crossed_b205 N m_s k110 k129 x3 x4 x5 x8 x11 x12 x13 y0 (0 : Int64) m_faceOfSide m_firstSide m_faces m_far
def f_X8_crossed_b129 (N : Nat) (m_s : Nat → Int32) (k110 : Int32 → Int32 → Int64 → Int32 → Int32 → (Nat → Int32) → (Nat → Int32) → Int32 → (Nat → Int32) → Option (Int32 × (Nat → Int32) × (Nat → Int32) × Int32 × (Nat → Int32))) : Nat → Int32 → Int32 → Int64 → Int32 → Int32 → Int64 → Int32 → (Nat → Int32) → (Nat → Int32) → Int32 → (Nat → Int32) → Option (Int32 × (Nat → Int32) × (Nat → Int32) × Int32 × (Nat → Int32))
  | 0 => fun _ _ _ _ _ _ _ _ _ _ _ => none
  | n + 1 => fun x3 x4 x5 x7 x8 x9 x11 m_faceOfSide m_firstSide m_faces m_far =>
  chk (inb 1 124) (if (m_s (1 : Int32).toNatClampNeg) ≤ x11 then f_X8_crossed_b267 N m_s k110 x3 x4 x7 x8 x9 m_faceOfSide m_firstSide m_faces m_far
  else if ¬ x7 = (-9) then f_X8_crossed_b267 N m_s k110 x3 x4 x7 x8 x9 m_faceOfSide m_firstSide m_faces m_far
  else chk (inb (2 * x11) 40) (nm ((m_faceOfSide (2 * x11).toNatClampNeg)) fun x12_23 =>
  chk (inb ((2 * x11) + 1) 40) (nm ((m_faceOfSide ((2 * x11) + 1).toNatClampNeg)) fun x13_25 =>
  if ¬ (lg_cmp ((x5 >>> ((x12_23 : Int32).toInt64 &&& 63)) &&& (1 : Int64)) (1 : Int64)) = 0 then f_X8_crossed_b204 N m_s k110 (f_X8_crossed_b129 N m_s k110 n) x3 x4 x5 x8 x11 x12_23 x13_25 x9 m_faceOfSide m_firstSide m_faces m_far
  else chk (inb x13_25 40) (if ¬ (m_far x13_25.toNatClampNeg) = x4 then f_X8_crossed_b204 N m_s k110 (f_X8_crossed_b129 N m_s k110 n) x3 x4 x5 x8 x11 x12_23 x13_25 x9 m_faceOfSide m_firstSide m_faces m_far
  else f_X8_crossed_b205 N m_s k110 (f_X8_crossed_b129 N m_s k110 n) x3 x4 x5 x8 x11 x12_23 x13_25 x9 ((1 : Int64) <<< ((x13_25 : Int32).toInt64 &&& 63)) m_faceOfSide m_firstSide m_faces m_far))))
def f_X8_crossed_b110 (N : Nat) (m_s : Nat → Int32) : Nat → Int32 → Int32 → Int64 → Int32 → Int32 → (Nat → Int32) → (Nat → Int32) → Int32 → (Nat → Int32) → Option (Int32 × (Nat → Int32) × (Nat → Int32) × Int32 × (Nat → Int32))
  | 0 => fun _ _ _ _ _ _ _ _ _ => none
  | n + 1 => fun x3 x4 x5 x7 x8 m_faceOfSide m_firstSide m_faces m_far =>
  if x3 < x8 then some (x7, m_faceOfSide, m_firstSide, m_faces, m_far)
  else nm ((0 : Int64)) fun x9_18 =>
  f_X8_crossed_b129 N m_s (f_X8_crossed_b110 N m_s n) N x3 (x4 + (-1)) x5 (-9) x8 x9_18 0 m_faceOfSide m_firstSide m_faces m_far
def f_X8_crossed_b103 (N : Nat) (m_s : Nat → Int32) (x3 : Int32) (x4 : Int32) (x5 : Int64) (m_faceOfSide : Nat → Int32) (m_firstSide : Nat → Int32) (m_faces : Int32) (m_far : Nat → Int32) : Option (Int32 × (Nat → Int32) × (Nat → Int32) × Int32 × (Nat → Int32)) :=
  f_X8_crossed_b110 N m_s N x3 x4 x5 (-9) 0 m_faceOfSide m_firstSide m_faces m_far
def f_X8_crossed_b94 (N : Nat) (m_s : Nat → Int32) (k50 : Int32 → Int32 → Int32 → Int64 → Int32 → (Nat → Int32) → (Nat → Int32) → Int32 → (Nat → Int32) → Option (Int32 × (Nat → Int32) × (Nat → Int32) × Int32 × (Nat → Int32))) (x1 : Int32) (x3 : Int32) (x4 : Int32) (x7 : Int32) (y0 : Int64) (y1 : Int64) (m_faceOfSide : Nat → Int32) (m_firstSide : Nat → Int32) (m_faces : Int32) (m_far : Nat → Int32) : Option (Int32 × (Nat → Int32) × (Nat → Int32) × Int32 × (Nat → Int32)) :=
  nm ((y0 ||| y1)) fun x5_16 =>
  k50 x1 x3 x4 x5_16 (x7 + 1) m_faceOfSide m_firstSide m_faces m_far
def f_X8_crossed_b93 (N : Nat) (m_s : Nat → Int32) (k50 : Int32 → Int32 → Int32 → Int64 → Int32 → (Nat → Int32) → (Nat → Int32) → Int32 → (Nat → Int32) → Option (Int32 × (Nat → Int32) × (Nat → Int32) × Int32 × (Nat → Int32))) (x1 : Int32) (x3 : Int32) (x4 : Int32) (x7 : Int32) (y0 : Int64) (m_faceOfSide : Nat → Int32) (m_firstSide : Nat → Int32) (m_faces : Int32) (m_far : Nat → Int32) : Option (Int32 × (Nat → Int32) × (Nat → Int32) × Int32 × (Nat → Int32)) :=
  f_X8_crossed_b94 N m_s k50 x1 x3 x4 x7 y0 (0 : Int64) m_faceOfSide m_firstSide m_faces m_far
def f_X8_crossed_b50 (N : Nat) (m_s : Nat → Int32) : Nat → Int32 → Int32 → Int32 → Int64 → Int32 → (Nat → Int32) → (Nat → Int32) → Int32 → (Nat → Int32) → Option (Int32 × (Nat → Int32) × (Nat → Int32) × Int32 × (Nat → Int32))
  | 0 => fun _ _ _ _ _ _ _ _ _ => none
  | n + 1 => fun x1 x3 x4 x5 x7 m_faceOfSide m_firstSide m_faces m_far =>
  if m_faces ≤ x7 then f_X8_crossed_b103 N m_s x3 x4 x5 m_faceOfSide m_firstSide m_faces m_far
  else bd1 (f_X8_nodesOn N m_s m_faceOfSide x7) fun r_11 =>
  bd1 (f_X8_has N r_11 x1) fun r_12 =>
  if r_12 = 0 then f_X8_crossed_b93 N m_s (f_X8_crossed_b50 N m_s n) x1 x3 x4 x7 x5 m_faceOfSide m_firstSide m_faces m_far
  else chk (inb x7 40) (if ¬ (m_far x7.toNatClampNeg) = x4 then f_X8_crossed_b93 N m_s (f_X8_crossed_b50 N m_s n) x1 x3 x4 x7 x5 m_faceOfSide m_firstSide m_faces m_far
  else f_X8_crossed_b94 N m_s (f_X8_crossed_b50 N m_s n) x1 x3 x4 x7 x5 ((1 : Int64) <<< ((x7 : Int32).toInt64 &&& 63)) m_faceOfSide m_firstSide m_faces m_far)
def f_X8_crossed (N : Nat) (m_s : Nat → Int32) (m_faceOfSide : Nat → Int32) (m_firstSide : Nat → Int32) (m_faces : Int32) (m_far : Nat → Int32) (p1 : Int32) (p2 : Int32) (p3 : Int32) : Option (Int32 × (Nat → Int32) × (Nat → Int32) × Int32 × (Nat → Int32)) :=
  bd1 (f_X8_areNodes N m_s p1 p2) fun r_1 =>
  if r_1 = 0 then some ((-1), m_faceOfSide, m_firstSide, m_faces, m_far)
  else if 0 ≤ p3 then bd1 (f_X8_isRefused N m_s m_faceOfSide m_firstSide m_faces p1 p2) fun r_4 =>
  if r_4.1 = 0 then bd1 (f_X8_costOf N m_s r_4.2.1 r_4.2.2.2 m_far p1 p2) fun r_6 =>
  nm (r_6.1) fun x4_7 =>
  if p3 < x4_7 then nm ((0 : Int64)) fun x5_9 =>
  f_X8_crossed_b50 N m_s N p1 p3 x4_7 x5_9 0 r_4.2.1 r_4.2.2.1 r_4.2.2.2 r_6.2
  else some ((-9), r_4.2.1, r_4.2.2.1, r_4.2.2.2, r_6.2)
  else some ((-2), r_4.2.1, r_4.2.2.1, r_4.2.2.2, m_far)
  else some ((-1), m_faceOfSide, m_firstSide, m_faces, m_far)
def f_X8_lengthOf_b32 (N : Nat) (m_s : Nat → Int32) (m_faceOfSide : Nat → Int32) (k4 : Int32 → Int32 → Int32 → Option (Int32)) (x1 : Int32) (x3 : Int32) (y0 : Int32) (y1 : Int32) : Option (Int32) :=
  nm ((y0 + y1)) fun x2_5 =>
  k4 x1 x2_5 (x3 + 1)
def f_X8_lengthOf_b4 (N : Nat) (m_s : Nat → Int32) (m_faceOfSide : Nat → Int32) : Nat → Int32 → Int32 → Int32 → Option (Int32)
  | 0 => fun _ _ _ => none
  | n + 1 => fun x1 x2 x3 =>
  chk (inb 1 124) (if (2 * (m_s (1 : Int32).toNatClampNeg)) ≤ x3 then some x2
  else chk (inb x3 40) (if ¬ (m_faceOfSide x3.toNatClampNeg) = x1 then f_X8_lengthOf_b32 N m_s m_faceOfSide (f_X8_lengthOf_b4 N m_s m_faceOfSide n) x1 x3 x2 0
  else f_X8_lengthOf_b32 N m_s m_faceOfSide (f_X8_lengthOf_b4 N m_s m_faceOfSide n) x1 x3 x2 1))
def f_X8_lengthOf (N : Nat) (m_s : Nat → Int32) (m_faceOfSide : Nat → Int32) (p1 : Int32) : Option (Int32) :=
  f_X8_lengthOf_b4 N m_s m_faceOfSide N p1 0 0
def f_X8_relaxes_b303 (N : Nat) (m_s : Nat → Int32) (k135 : Int32 → Int32 → Int32 → (Nat → Int32) → (Nat → Int32) → Int32 → (Nat → UInt32) → (Nat → UInt32) → Option ((Nat → Int32) × (Nat → Int32) × Int32 × (Nat → UInt32) × (Nat → UInt32))) (x1 : Int32) (x2 : Int32) (x5 : Int32) (m_faceOfSide : Nat → Int32) (m_firstSide : Nat → Int32) (m_faces : Int32) (m_xs : Nat → UInt32) (m_ys : Nat → UInt32) : Option ((Nat → Int32) × (Nat → Int32) × Int32 × (Nat → UInt32) × (Nat → UInt32)) :=
  k135 x1 x2 (x5 + 1) m_faceOfSide m_firstSide m_faces m_xs m_ys
def f_X8_relaxes_b297 (N : Nat) (m_s : Nat → Int32) (k135 : Int32 → Int32 → Int32 → (Nat → Int32) → (Nat → Int32) → Int32 → (Nat → UInt32) → (Nat → UInt32) → Option ((Nat → Int32) × (Nat → Int32) × Int32 × (Nat → UInt32) × (Nat → UInt32))) (k144 : Int32 → Int32 → Int32 → Int32 → (Nat → Int32) → (Nat → Int32) → Int32 → (Nat → UInt32) → (Nat → UInt32) → Option ((Nat → Int32) × (Nat → Int32) × Int32 × (Nat → UInt32) × (Nat → UInt32))) (x1 : Int32) (x2 : Int32) (x5 : Int32) (x6 : Int32) (m_faceOfSide : Nat → Int32) (m_firstSide : Nat → Int32) (m_faces : Int32) (m_xs : Nat → UInt32) (m_ys : Nat → UInt32) : Option ((Nat → Int32) × (Nat → Int32) × Int32 × (Nat → UInt32) × (Nat → UInt32)) :=
  k144 x1 x2 x5 (x6 + 1) m_faceOfSide m_firstSide m_faces m_xs m_ys
def f_X8_relaxes_b255 (N : Nat) (m_s : Nat → Int32) (k135 : Int32 → Int32 → Int32 → (Nat → Int32) → (Nat → Int32) → Int32 → (Nat → UInt32) → (Nat → UInt32) → Option ((Nat → Int32) × (Nat → Int32) × Int32 × (Nat → UInt32) × (Nat → UInt32))) (k144 : Int32 → Int32 → Int32 → Int32 → (Nat → Int32) → (Nat → Int32) → Int32 → (Nat → UInt32) → (Nat → UInt32) → Option ((Nat → Int32) × (Nat → Int32) × Int32 × (Nat → UInt32) × (Nat → UInt32))) (x1 : Int32) (x2 : Int32) (x5 : Int32) (x6 : Int32) (x7 : UInt32) (x8 : UInt32) (m_faceOfSide : Nat → Int32) (m_firstSide : Nat → Int32) (m_faces : Int32) (m_xs : Nat → UInt32) (m_ys : Nat → UInt32) : Option ((Nat → Int32) × (Nat → Int32) × Int32 × (Nat → UInt32) × (Nat → UInt32)) :=
  chk (inb (43 + x6) 124) (chk (nn32 (FP.fdiv x7 (FP.i2f (m_s (43 + x6).toNatClampNeg)))) (chk (inb x6 9) (chk (inb (43 + x6) 124) (chk (nn32 (FP.fdiv x8 (FP.i2f (m_s (43 + x6).toNatClampNeg)))) (chk (inb x6 9) (f_X8_relaxes_b297 N m_s k135 k144 x1 x2 x5 x6 m_faceOfSide m_firstSide m_faces (vf_upd m_xs x6.toNatClampNeg (FP.fdiv x7 (FP.i2f (m_s (43 + x6).toNatClampNeg)))) (vf_upd m_ys x6.toNatClampNeg (FP.fdiv x8 (FP.i2f (m_s (43 + x6).toNatClampNeg))))))))))
def f_X8_relaxes_b186 (N : Nat) (m_s : Nat → Int32) (k135 : Int32 → Int32 → Int32 → (Nat → Int32) → (Nat → Int32) → Int32 → (Nat → UInt32) → (Nat → UInt32) → Option ((Nat → Int32) × (Nat → Int32) × Int32 × (Nat → UInt32) × (Nat → UInt32))) (k144 : Int32 → Int32 → Int32 → Int32 → (Nat → Int32) → (Nat → Int32) → Int32 → (Nat → UInt32) → (Nat → UInt32) → Option ((Nat → Int32) × (Nat → Int32) × Int32 × (Nat → UInt32) × (Nat → UInt32))) : Nat → Int32 → Int32 → Int32 → Int32 → UInt32 → UInt32 → Int32 → (Nat → Int32) → (Nat → Int32) → Int32 → (Nat → UInt32) → (Nat → UInt32) → Option ((Nat → Int32) × (Nat → Int32) × Int32 × (Nat → UInt32) × (Nat → UInt32))
  | 0 => fun _ _ _ _ _ _ _ _ _ _ _ _ => none
  | n + 1 => fun x1 x2 x5 x6 x7 x8 x9 m_faceOfSide m_firstSide m_faces m_xs m_ys =>
  chk (inb (43 + x6) 124) (if (m_s (43 + x6).toNatClampNeg) ≤ x9 then f_X8_relaxes_b255 N m_s k135 k144 x1 x2 x5 x6 x7 x8 m_faceOfSide m_firstSide m_faces m_xs m_ys
  else bd1 (f_X8_turn N m_s x6 x9) fun r_29 =>
  bd1 (f_X8_across N m_s r_29 x6) fun r_30 =>
  chk (inb r_30 9) (chk (nn32 (FP.fadd x7 (m_xs r_30.toNatClampNeg))) (nm ((FP.fadd x7 (m_xs r_30.toNatClampNeg))) fun x7_33 =>
  bd1 (f_X8_turn N m_s x6 x9) fun r_34 =>
  bd1 (f_X8_across N m_s r_34 x6) fun r_35 =>
  chk (inb r_35 9) (chk (nn32 (FP.fadd x8 (m_ys r_35.toNatClampNeg))) (nm ((FP.fadd x8 (m_ys r_35.toNatClampNeg))) fun x8_38 =>
  (f_X8_relaxes_b186 N m_s k135 k144 n) x1 x2 x5 x6 x7_33 x8_38 (x9 + 1) m_faceOfSide m_firstSide m_faces m_xs m_ys)))))
def f_X8_relaxes_b144 (N : Nat) (m_s : Nat → Int32) (k135 : Int32 → Int32 → Int32 → (Nat → Int32) → (Nat → Int32) → Int32 → (Nat → UInt32) → (Nat → UInt32) → Option ((Nat → Int32) × (Nat → Int32) × Int32 × (Nat → UInt32) × (Nat → UInt32))) : Nat → Int32 → Int32 → Int32 → Int32 → (Nat → Int32) → (Nat → Int32) → Int32 → (Nat → UInt32) → (Nat → UInt32) → Option ((Nat → Int32) × (Nat → Int32) × Int32 × (Nat → UInt32) × (Nat → UInt32))
  | 0 => fun _ _ _ _ _ _ _ _ _ => none
  | n + 1 => fun x1 x2 x5 x6 m_faceOfSide m_firstSide m_faces m_xs m_ys =>
  chk (inb 0 124) (if (m_s (0 : Int32).toNatClampNeg) ≤ x6 then f_X8_relaxes_b303 N m_s k135 x1 x2 x5 m_faceOfSide m_firstSide m_faces m_xs m_ys
  else bd1 (f_X8_has N x2 x6) fun r_21 =>
  if ¬ r_21 = 0 then f_X8_relaxes_b297 N m_s k135 (f_X8_relaxes_b144 N m_s k135 n) x1 x2 x5 x6 m_faceOfSide m_firstSide m_faces m_xs m_ys
  else chk (inb (43 + x6) 124) (if (m_s (43 + x6).toNatClampNeg) ≤ 0 then f_X8_relaxes_b297 N m_s k135 (f_X8_relaxes_b144 N m_s k135 n) x1 x2 x5 x6 m_faceOfSide m_firstSide m_faces m_xs m_ys
  else nm (FP.fconst0) fun x7_25 =>
  nm (FP.fconst0) fun x8_26 =>
  f_X8_relaxes_b186 N m_s k135 (f_X8_relaxes_b144 N m_s k135 n) N x1 x2 x5 x6 x7_25 x8_26 0 m_faceOfSide m_firstSide m_faces m_xs m_ys))
def f_X8_relaxes_b135 (N : Nat) (m_s : Nat → Int32) : Nat → Int32 → Int32 → Int32 → (Nat → Int32) → (Nat → Int32) → Int32 → (Nat → UInt32) → (Nat → UInt32) → Option ((Nat → Int32) × (Nat → Int32) × Int32 × (Nat → UInt32) × (Nat → UInt32))
  | 0 => fun _ _ _ _ _ _ _ _ => none
  | n + 1 => fun x1 x2 x5 m_faceOfSide m_firstSide m_faces m_xs m_ys =>
  if x1 ≤ x5 then some (m_faceOfSide, m_firstSide, m_faces, m_xs, m_ys)
  else f_X8_relaxes_b144 N m_s (f_X8_relaxes_b135 N m_s n) N x1 x2 x5 0 m_faceOfSide m_firstSide m_faces m_xs m_ys
def f_X8_relaxes_b132 (N : Nat) (m_s : Nat → Int32) (x1 : Int32) (x2 : Int32) (m_faceOfSide : Nat → Int32) (m_firstSide : Nat → Int32) (m_faces : Int32) (m_xs : Nat → UInt32) (m_ys : Nat → UInt32) : Option ((Nat → Int32) × (Nat → Int32) × Int32 × (Nat → UInt32) × (Nat → UInt32)) :=
  f_X8_relaxes_b135 N m_s N x1 x2 0 m_faceOfSide m_firstSide m_faces m_xs m_ys
def f_X8_relaxes_b118 (N : Nat) (m_s : Nat → Int32) (k56 : Int32 → Int32 → Int32 → Int32 → Int32 → (Nat → Int32) → (Nat → Int32) → Int32 → (Nat → UInt32) → (Nat → UInt32) → Option ((Nat → Int32) × (Nat → Int32) × Int32 × (Nat → UInt32) × (Nat → UInt32))) (x1 : Int32) (x2 : Int32) (x3 : Int32) (x4 : Int32) (x5 : Int32) (m_faceOfSide : Nat → Int32) (m_firstSide : Nat → Int32) (m_faces : Int32) (m_xs : Nat → UInt32) (m_ys : Nat → UInt32) : Option ((Nat → Int32) × (Nat → Int32) × Int32 × (Nat → UInt32) × (Nat → UInt32)) :=
  bd1 (f_X8_follows N m_s x4) fun r_17 =>
  k56 x1 x2 x3 r_17 (x5 + 1) m_faceOfSide m_firstSide m_faces m_xs m_ys
def f_X8_relaxes_b56 (N : Nat) (m_s : Nat → Int32) : Nat → Int32 → Int32 → Int32 → Int32 → Int32 → (Nat → Int32) → (Nat → Int32) → Int32 → (Nat → UInt32) → (Nat → UInt32) → Option ((Nat → Int32) × (Nat → Int32) × Int32 × (Nat → UInt32) × (Nat → UInt32))
  | 0 => fun _ _ _ _ _ _ _ _ _ _ => none
  | n + 1 => fun x1 x2 x3 x4 x5 m_faceOfSide m_firstSide m_faces m_xs m_ys =>
  chk (inb 2 124) (bd1 (f_X8_lengthOf N m_s m_faceOfSide (m_s (2 : Int32).toNatClampNeg)) fun r_9 =>
  if r_9 ≤ x5 then f_X8_relaxes_b132 N m_s x1 x2 m_faceOfSide m_firstSide m_faces m_xs m_ys
  else bd1 (f_X8_tail N m_s x4) fun r_11 =>
  bd1 (f_X8_has N x2 r_11) fun r_12 =>
  if ¬ r_12 = 0 then f_X8_relaxes_b118 N m_s (f_X8_relaxes_b56 N m_s n) x1 x2 x3 x4 x5 m_faceOfSide m_firstSide m_faces m_xs m_ys
  else chk (inb r_11 9) (chk (inb r_11 9) (nm ((x2 ||| ((1 : Int32) <<< (r_11 &&& 31)))) fun x2_16 =>
  f_X8_relaxes_b118 N m_s (f_X8_relaxes_b56 N m_s n) x1 x2_16 (x3 + 1) x4 x5 m_faceOfSide m_firstSide m_faces (vf_upd m_xs r_11.toNatClampNeg (FP.i2f x3)) (vf_upd m_ys r_11.toNatClampNeg (FP.i2f (x3 * x3))))))
def f_X8_relaxes_b40 (N : Nat) (m_s : Nat → Int32) (x1 : Int32) (x2 : Int32) (x3 : Int32) (m_faceOfSide : Nat → Int32) (m_firstSide : Nat → Int32) (m_faces : Int32) (m_xs : Nat → UInt32) (m_ys : Nat → UInt32) : Option ((Nat → Int32) × (Nat → Int32) × Int32 × (Nat → UInt32) × (Nat → UInt32)) :=
  chk (inb 2 124) (chk (inb (m_s (2 : Int32).toNatClampNeg) 40) (nm ((m_firstSide (m_s (2 : Int32).toNatClampNeg).toNatClampNeg)) fun x4_7 =>
  f_X8_relaxes_b56 N m_s N x1 x2 x3 x4_7 0 m_faceOfSide m_firstSide m_faces m_xs m_ys))
def f_X8_relaxes_b11 (N : Nat) (m_s : Nat → Int32) : Nat → Int32 → Int32 → Int32 → Int32 → (Nat → Int32) → (Nat → Int32) → Int32 → (Nat → UInt32) → (Nat → UInt32) → Option ((Nat → Int32) × (Nat → Int32) × Int32 × (Nat → UInt32) × (Nat → UInt32))
  | 0 => fun _ _ _ _ _ _ _ _ _ => none
  | n + 1 => fun x1 x2 x3 x4 m_faceOfSide m_firstSide m_faces m_xs m_ys =>
  if 9 ≤ x4 then f_X8_relaxes_b40 N m_s x1 x2 x3 m_faceOfSide m_firstSide m_faces m_xs m_ys
  else chk (inb x4 9) (chk (inb x4 9) ((f_X8_relaxes_b11 N m_s n) x1 x2 x3 (x4 + 1) m_faceOfSide m_firstSide m_faces (vf_upd m_xs x4.toNatClampNeg FP.fconst0) (vf_upd m_ys x4.toNatClampNeg FP.fconst0)))
def f_X8_relaxes (N : Nat) (m_s : Nat → Int32) (m_faceOfSide : Nat → Int32) (m_firstSide : Nat → Int32) (m_faces : Int32) (m_xs : Nat → UInt32) (m_ys : Nat → UInt32) (p1 : Int32) : Option ((Nat → Int32) × (Nat → Int32) × Int32 × (Nat → UInt32) × (Nat → UInt32)) :=
  bd1 (f_X8_walks N m_s m_faceOfSide m_firstSide m_faces) fun r_1 =>
  f_X8_relaxes_b11 N m_s N p1 0 0 0 r_1.1 r_1.2.1 r_1.2.2 m_xs m_ys
def f_X8_crossings_b166 (N : Nat) (m_s : Nat → Int32) (k33 : Int32 → Int32 → (Nat → Int32) → (Nat → Int32) → Int32 → (Nat → UInt32) → (Nat → UInt32) → Option (Int32 × (Nat → Int32) × (Nat → Int32) × Int32 × (Nat → UInt32) × (Nat → UInt32))) (x2 : Int32) (x3 : Int32) (m_faceOfSide : Nat → Int32) (m_firstSide : Nat → Int32) (m_faces : Int32) (m_xs : Nat → UInt32) (m_ys : Nat → UInt32) : Option (Int32 × (Nat → Int32) × (Nat → Int32) × Int32 × (Nat → UInt32) × (Nat → UInt32)) :=
  k33 x2 (x3 + 1) m_faceOfSide m_firstSide m_faces m_xs m_ys
def f_X8_crossings_b158 (N : Nat) (m_s : Nat → Int32) (k33 : Int32 → Int32 → (Nat → Int32) → (Nat → Int32) → Int32 → (Nat → UInt32) → (Nat → UInt32) → Option (Int32 × (Nat → Int32) × (Nat → Int32) × Int32 × (Nat → UInt32) × (Nat → UInt32))) (k46 : Int32 → Int32 → Int32 → (Nat → Int32) → (Nat → Int32) → Int32 → (Nat → UInt32) → (Nat → UInt32) → Option (Int32 × (Nat → Int32) × (Nat → Int32) × Int32 × (Nat → UInt32) × (Nat → UInt32))) (x3 : Int32) (x4 : Int32) (y0 : Int32) (y1 : Int32) (m_faceOfSide : Nat → Int32) (m_firstSide : Nat → Int32) (m_faces : Int32) (m_xs : Nat → UInt32) (m_ys : Nat → UInt32) : Option (Int32 × (Nat → Int32) × (Nat → Int32) × Int32 × (Nat → UInt32) × (Nat → UInt32)) :=
  nm ((y0 + y1)) fun x2_24 =>
  k46 x2_24 x3 (x4 + 1) m_faceOfSide m_firstSide m_faces m_xs m_ys
def f_X8_crossings_b157 (N : Nat) (m_s : Nat → Int32) (k33 : Int32 → Int32 → (Nat → Int32) → (Nat → Int32) → Int32 → (Nat → UInt32) → (Nat → UInt32) → Option (Int32 × (Nat → Int32) × (Nat → Int32) × Int32 × (Nat → UInt32) × (Nat → UInt32))) (k46 : Int32 → Int32 → Int32 → (Nat → Int32) → (Nat → Int32) → Int32 → (Nat → UInt32) → (Nat → UInt32) → Option (Int32 × (Nat → Int32) × (Nat → Int32) × Int32 × (Nat → UInt32) × (Nat → UInt32))) (x3 : Int32) (x4 : Int32) (y0 : Int32) (m_faceOfSide : Nat → Int32) (m_firstSide : Nat → Int32) (m_faces : Int32) (m_xs : Nat → UInt32) (m_ys : Nat → UInt32) : Option (Int32 × (Nat → Int32) × (Nat → Int32) × Int32 × (Nat → UInt32) × (Nat → UInt32)) :=
  f_X8_crossings_b158 N m_s k33 k46 x3 x4 y0 0 m_faceOfSide m_firstSide m_faces m_xs m_ys
def f_X8_crossings_b92 (N : Nat) (m_s : Nat → Int32) (k33 : Int32 → Int32 → (Nat → Int32) → (Nat → Int32) → Int32 → (Nat → UInt32) → (Nat → UInt32) → Option (Int32 × (Nat → Int32) × (Nat → Int32) × Int32 × (Nat → UInt32) × (Nat → UInt32))) (k46 : Int32 → Int32 → Int32 → (Nat → Int32) → (Nat → Int32) → Int32 → (Nat → UInt32) → (Nat → UInt32) → Option (Int32 × (Nat → Int32) × (Nat → Int32) × Int32 × (Nat → UInt32) × (Nat → UInt32))) (x2 : Int32) (x3 : Int32) (x4 : Int32) (y0 : Int32) (m_faceOfSide : Nat → Int32) (m_firstSide : Nat → Int32) (m_faces : Int32) (m_xs : Nat → UInt32) (m_ys : Nat → UInt32) : Option (Int32 × (Nat → Int32) × (Nat → Int32) × Int32 × (Nat → UInt32) × (Nat → UInt32)) :=
  if y0 = 0 then f_X8_crossings_b157 N m_s k33 k46 x3 x4 x2 m_faceOfSide m_firstSide m_faces m_xs m_ys
  else chk (inb (3 + x4) 124) (chk (inb (23 + x4) 124) (bd1 (f_X8_areApart N m_s m_xs m_ys x3 (m_s (3 + x4).toNatClampNeg) (m_s (23 + x4).toNatClampNeg)) fun r_18 =>
  if r_18 = 0 then f_X8_crossings_b157 N m_s k33 k46 x3 x4 x2 m_faceOfSide m_firstSide m_faces m_xs m_ys
  else chk (inb (3 + x3) 124) (chk (inb (23 + x3) 124) (bd1 (f_X8_areApart N m_s m_xs m_ys x4 (m_s (3 + x3).toNatClampNeg) (m_s (23 + x3).toNatClampNeg)) fun r_22 =>
  if r_22 = 0 then f_X8_crossings_b157 N m_s k33 k46 x3 x4 x2 m_faceOfSide m_firstSide m_faces m_xs m_ys
  else f_X8_crossings_b158 N m_s k33 k46 x3 x4 x2 1 m_faceOfSide m_firstSide m_faces m_xs m_ys))))
def f_X8_crossings_b91 (N : Nat) (m_s : Nat → Int32) (k33 : Int32 → Int32 → (Nat → Int32) → (Nat → Int32) → Int32 → (Nat → UInt32) → (Nat → UInt32) → Option (Int32 × (Nat → Int32) × (Nat → Int32) × Int32 × (Nat → UInt32) × (Nat → UInt32))) (k46 : Int32 → Int32 → Int32 → (Nat → Int32) → (Nat → Int32) → Int32 → (Nat → UInt32) → (Nat → UInt32) → Option (Int32 × (Nat → Int32) × (Nat → Int32) × Int32 × (Nat → UInt32) × (Nat → UInt32))) (x2 : Int32) (x3 : Int32) (x4 : Int32) (m_faceOfSide : Nat → Int32) (m_firstSide : Nat → Int32) (m_faces : Int32) (m_xs : Nat → UInt32) (m_ys : Nat → UInt32) : Option (Int32 × (Nat → Int32) × (Nat → Int32) × Int32 × (Nat → UInt32) × (Nat → UInt32)) :=
  f_X8_crossings_b92 N m_s k33 k46 x2 x3 x4 0 m_faceOfSide m_firstSide m_faces m_xs m_ys
def f_X8_crossings_b46 (N : Nat) (m_s : Nat → Int32) (k33 : Int32 → Int32 → (Nat → Int32) → (Nat → Int32) → Int32 → (Nat → UInt32) → (Nat → UInt32) → Option (Int32 × (Nat → Int32) × (Nat → Int32) × Int32 × (Nat → UInt32) × (Nat → UInt32))) : Nat → Int32 → Int32 → Int32 → (Nat → Int32) → (Nat → Int32) → Int32 → (Nat → UInt32) → (Nat → UInt32) → Option (Int32 × (Nat → Int32) × (Nat → Int32) × Int32 × (Nat → UInt32) × (Nat → UInt32))
  | 0 => fun _ _ _ _ _ _ _ _ => none
  | n + 1 => fun x2 x3 x4 m_faceOfSide m_firstSide m_faces m_xs m_ys =>
  if x3 ≤ x4 then f_X8_crossings_b166 N m_s k33 x2 x3 m_faceOfSide m_firstSide m_faces m_xs m_ys
  else chk (inb (3 + x4) 124) (bd1 (f_X8_isAt N m_s x3 (m_s (3 + x4).toNatClampNeg)) fun r_10 =>
  if ¬ r_10 = 0 then f_X8_crossings_b91 N m_s k33 (f_X8_crossings_b46 N m_s k33 n) x2 x3 x4 m_faceOfSide m_firstSide m_faces m_xs m_ys
  else chk (inb (23 + x4) 124) (bd1 (f_X8_isAt N m_s x3 (m_s (23 + x4).toNatClampNeg)) fun r_13 =>
  if ¬ r_13 = 0 then f_X8_crossings_b91 N m_s k33 (f_X8_crossings_b46 N m_s k33 n) x2 x3 x4 m_faceOfSide m_firstSide m_faces m_xs m_ys
  else f_X8_crossings_b92 N m_s k33 (f_X8_crossings_b46 N m_s k33 n) x2 x3 x4 1 m_faceOfSide m_firstSide m_faces m_xs m_ys))
def f_X8_crossings_b33 (N : Nat) (m_s : Nat → Int32) : Nat → Int32 → Int32 → (Nat → Int32) → (Nat → Int32) → Int32 → (Nat → UInt32) → (Nat → UInt32) → Option (Int32 × (Nat → Int32) × (Nat → Int32) × Int32 × (Nat → UInt32) × (Nat → UInt32))
  | 0 => fun _ _ _ _ _ _ _ => none
  | n + 1 => fun x2 x3 m_faceOfSide m_firstSide m_faces m_xs m_ys =>
  chk (inb 1 124) (if (m_s (1 : Int32).toNatClampNeg) ≤ x3 then some (x2, m_faceOfSide, m_firstSide, m_faces, m_xs, m_ys)
  else f_X8_crossings_b46 N m_s (f_X8_crossings_b33 N m_s n) N x2 x3 0 m_faceOfSide m_firstSide m_faces m_xs m_ys)
def f_X8_crossings (N : Nat) (m_s : Nat → Int32) (m_faceOfSide : Nat → Int32) (m_firstSide : Nat → Int32) (m_faces : Int32) (m_xs : Nat → UInt32) (m_ys : Nat → UInt32) (p1 : Int32) : Option (Int32 × (Nat → Int32) × (Nat → Int32) × Int32 × (Nat → UInt32) × (Nat → UInt32)) :=
  bd1 (f_X8_in N p1 0 50) fun r_1 =>
  if ¬ r_1 = 0 then chk (inb 1 124) (if ¬ (m_s (1 : Int32).toNatClampNeg) = 0 then bd1 (f_X8_relaxes N m_s m_faceOfSide m_firstSide m_faces m_xs m_ys p1) fun r_5 =>
  f_X8_crossings_b33 N m_s N 0 0 r_5.1 r_5.2.1 r_5.2.2.1 r_5.2.2.2.1 r_5.2.2.2.2
  else some ((-2), m_faceOfSide, m_firstSide, m_faces, m_xs, m_ys))
  else some ((-1), m_faceOfSide, m_firstSide, m_faces, m_xs, m_ys)
def f_X8_depth_b105 (N : Nat) (m_s : Nat → Int32) (k38 : Int32 → Int32 → Int32 → (Nat → Int32) → (Nat → Int32) → Int32 → Option (Int32 × (Nat → Int32) × (Nat → Int32) × Int32)) (x1 : Int32) (x3 : Int32) (x4 : Int32) (m_faceOfSide : Nat → Int32) (m_firstSide : Nat → Int32) (m_faces : Int32) : Option (Int32 × (Nat → Int32) × (Nat → Int32) × Int32) :=
  k38 x1 x4 (x3 + 1) m_faceOfSide m_firstSide m_faces
def f_X8_depth_b96 (N : Nat) (m_s : Nat → Int32) (k38 : Int32 → Int32 → Int32 → (Nat → Int32) → (Nat → Int32) → Int32 → Option (Int32 × (Nat → Int32) × (Nat → Int32) × Int32)) (k64 : Int32 → Int32 → Int32 → Int32 → Int32 → (Nat → Int32) → (Nat → Int32) → Int32 → Option (Int32 × (Nat → Int32) × (Nat → Int32) × Int32)) (x1 : Int32) (x2 : Int32) (x3 : Int32) (x5 : Int32) (y0 : Int32) (y1 : Int32) (m_faceOfSide : Nat → Int32) (m_firstSide : Nat → Int32) (m_faces : Int32) : Option (Int32 × (Nat → Int32) × (Nat → Int32) × Int32) :=
  nm ((y0 ||| y1)) fun x4_15 =>
  k64 x1 x2 x3 x4_15 (x5 + 1) m_faceOfSide m_firstSide m_faces
def f_X8_depth_b64 (N : Nat) (m_s : Nat → Int32) (k38 : Int32 → Int32 → Int32 → (Nat → Int32) → (Nat → Int32) → Int32 → Option (Int32 × (Nat → Int32) × (Nat → Int32) × Int32)) : Nat → Int32 → Int32 → Int32 → Int32 → Int32 → (Nat → Int32) → (Nat → Int32) → Int32 → Option (Int32 × (Nat → Int32) × (Nat → Int32) × Int32)
  | 0 => fun _ _ _ _ _ _ _ _ => none
  | n + 1 => fun x1 x2 x3 x4 x5 m_faceOfSide m_firstSide m_faces =>
  if m_faces ≤ x5 then f_X8_depth_b105 N m_s k38 x1 x3 x4 m_faceOfSide m_firstSide m_faces
  else bd1 (f_X8_nodesOn N m_s m_faceOfSide x5) fun r_12 =>
  if (r_12 &&& x2) = 0 then f_X8_depth_b96 N m_s k38 (f_X8_depth_b64 N m_s k38 n) x1 x2 x3 x5 x4 0 m_faceOfSide m_firstSide m_faces
  else bd1 (f_X8_nodesOn N m_s m_faceOfSide x5) fun r_14 =>
  f_X8_depth_b96 N m_s k38 (f_X8_depth_b64 N m_s k38 n) x1 x2 x3 x5 x4 r_14 m_faceOfSide m_firstSide m_faces
def f_X8_depth_b38 (N : Nat) (m_s : Nat → Int32) : Nat → Int32 → Int32 → Int32 → (Nat → Int32) → (Nat → Int32) → Int32 → Option (Int32 × (Nat → Int32) × (Nat → Int32) × Int32)
  | 0 => fun _ _ _ _ _ _ => none
  | n + 1 => fun x1 x2 x3 m_faceOfSide m_firstSide m_faces =>
  chk (inb 0 124) (if (m_s (0 : Int32).toNatClampNeg) ≤ x3 then some ((-9), m_faceOfSide, m_firstSide, m_faces)
  else bd1 (f_X8_has N x2 x1) fun r_9 =>
  if r_9 = 0 then f_X8_depth_b64 N m_s (f_X8_depth_b38 N m_s n) N x1 x2 x3 x2 0 m_faceOfSide m_firstSide m_faces
  else some (x3, m_faceOfSide, m_firstSide, m_faces))
def f_X8_depth_b35 (N : Nat) (m_s : Nat → Int32) (x1 : Int32) (y0 : Int32) (m_faceOfSide : Nat → Int32) (m_firstSide : Nat → Int32) (m_faces : Int32) : Option (Int32 × (Nat → Int32) × (Nat → Int32) × Int32) :=
  f_X8_depth_b38 N m_s N x1 y0 0 m_faceOfSide m_firstSide m_faces
def f_X8_depth (N : Nat) (m_s : Nat → Int32) (m_faceOfSide : Nat → Int32) (m_firstSide : Nat → Int32) (m_faces : Int32) (p1 : Int32) : Option (Int32 × (Nat → Int32) × (Nat → Int32) × Int32) :=
  bd1 (f_X8_isNode N m_s p1) fun r_1 =>
  if ¬ r_1 = 0 then bd1 (f_X8_walks N m_s m_faceOfSide m_firstSide m_faces) fun r_3 =>
  if ¬ r_3.2.2 = 0 then chk (inb 2 124) (bd1 (f_X8_nodesOn N m_s r_3.1 (m_s (2 : Int32).toNatClampNeg)) fun r_6 =>
  f_X8_depth_b35 N m_s p1 r_6 r_3.1 r_3.2.1 r_3.2.2)
  else f_X8_depth_b35 N m_s p1 0 r_3.1 r_3.2.1 r_3.2.2
  else some ((-1), m_faceOfSide, m_firstSide, m_faces)
def f_X8_edge (N : Nat) (m_s : Nat → Int32) (p1 : Int32) (p2 : Int32) : Option (Int32) :=
  bd1 (f_X8_isEdge N m_s p1) fun r_1 =>
  if r_1 = 0 then some (-1)
  else bd1 (f_X8_in N p2 0 1) fun r_3 =>
  if ¬ r_3 = 0 then if ¬ p2 = 0 then chk (inb (23 + p1) 124) (some (m_s (23 + p1).toNatClampNeg))
  else chk (inb (3 + p1) 124) (some (m_s (3 + p1).toNatClampNeg))
  else some (-1)
def f_X8_empties_b21 (N : Nat) (x1 : Int32) (m_s : Nat → Int32) : Option ((Nat → Int32)) :=
  chk (inb 0 124) (some (upd m_s (0 : Int32).toNatClampNeg x1))
def f_X8_empties_b2 (N : Nat) : Nat → Int32 → Int32 → (Nat → Int32) → Option ((Nat → Int32))
  | 0 => fun _ _ _ => none
  | n + 1 => fun x1 x2 m_s =>
  if 124 ≤ x2 then f_X8_empties_b21 N x1 m_s
  else chk (inb x2 124) ((f_X8_empties_b2 N n) x1 (x2 + 1) (upd m_s x2.toNatClampNeg 0))
def f_X8_empties (N : Nat) (m_s : Nat → Int32) (p1 : Int32) : Option ((Nat → Int32)) :=
  f_X8_empties_b2 N N p1 0 m_s
def f_X8_exchanges_b2 (N : Nat) : Nat → Int32 → (Nat → Int32) → (Nat → Int32) → Option ((Nat → Int32) × (Nat → Int32))
  | 0 => fun _ _ _ => none
  | n + 1 => fun x1 m_s m_before =>
  if 124 ≤ x1 then some (m_s, m_before)
  else chk (inb x1 124) (nm ((m_s x1.toNatClampNeg)) fun x2_3 =>
  chk (inb x1 124) (chk (inb x1 124) (chk (inb x1 124) ((f_X8_exchanges_b2 N n) (x1 + 1) (upd m_s x1.toNatClampNeg (m_before x1.toNatClampNeg)) (upd m_before x1.toNatClampNeg x2_3)))))
def f_X8_exchanges (N : Nat) (m_s : Nat → Int32) (m_before : Nat → Int32) : Option ((Nat → Int32) × (Nat → Int32)) :=
  f_X8_exchanges_b2 N N 0 m_s m_before
def f_X8_size (N : Nat) (p0 : UInt32) : Option (UInt32) :=
  if 0 ≤ (Op.cmpValue (FP.fcmp p0 FP.fconst0) .g) then some p0
  else chk (nn32 (FP.fsub FP.fconst0 p0)) (some (FP.fsub FP.fconst0 p0))
def f_X8_extent_b133 (N : Nat) (m_s : Nat → Int32) (x2 : UInt32) (m_faceOfSide : Nat → Int32) (m_firstSide : Nat → Int32) (m_faces : Int32) (m_xs : Nat → UInt32) (m_ys : Nat → UInt32) : Option (Int32 × (Nat → Int32) × (Nat → Int32) × Int32 × (Nat → UInt32) × (Nat → UInt32)) :=
  bd1 (f_Jxf58ca_floatToIntBits_5c35a N x2) fun r_24 =>
  some (r_24, m_faceOfSide, m_firstSide, m_faces, m_xs, m_ys)
def f_X8_extent_b125 (N : Nat) (m_s : Nat → Int32) (k33 : UInt32 → Int32 → (Nat → Int32) → (Nat → Int32) → Int32 → (Nat → UInt32) → (Nat → UInt32) → Option (Int32 × (Nat → Int32) × (Nat → Int32) × Int32 × (Nat → UInt32) × (Nat → UInt32))) (x3 : Int32) (y0 : UInt32) (y1 : UInt32) (m_faceOfSide : Nat → Int32) (m_firstSide : Nat → Int32) (m_faces : Int32) (m_xs : Nat → UInt32) (m_ys : Nat → UInt32) : Option (Int32 × (Nat → Int32) × (Nat → Int32) × Int32 × (Nat → UInt32) × (Nat → UInt32)) :=
  chk (nn32 (FP.fadd y0 y1)) (nm ((FP.fadd y0 y1)) fun x2_23 =>
  k33 x2_23 (x3 + 1) m_faceOfSide m_firstSide m_faces m_xs m_ys)
def f_X8_extent_b33 (N : Nat) (m_s : Nat → Int32) : Nat → UInt32 → Int32 → (Nat → Int32) → (Nat → Int32) → Int32 → (Nat → UInt32) → (Nat → UInt32) → Option (Int32 × (Nat → Int32) × (Nat → Int32) × Int32 × (Nat → UInt32) × (Nat → UInt32))
  | 0 => fun _ _ _ _ _ _ _ => none
  | n + 1 => fun x2 x3 m_faceOfSide m_firstSide m_faces m_xs m_ys =>
  chk (inb 1 124) (if (m_s (1 : Int32).toNatClampNeg) ≤ x3 then f_X8_extent_b133 N m_s x2 m_faceOfSide m_firstSide m_faces m_xs m_ys
  else chk (inb (3 + x3) 124) (chk (inb (m_s (3 + x3).toNatClampNeg) 9) (chk (inb (23 + x3) 124) (chk (inb (m_s (23 + x3).toNatClampNeg) 9) (chk (nn32 (FP.fsub (m_xs (m_s (3 + x3).toNatClampNeg).toNatClampNeg) (m_xs (m_s (23 + x3).toNatClampNeg).toNatClampNeg))) (bd1 (f_X8_size N (FP.fsub (m_xs (m_s (3 + x3).toNatClampNeg).toNatClampNeg) (m_xs (m_s (23 + x3).toNatClampNeg).toNatClampNeg))) fun r_14 =>
  chk (inb (3 + x3) 124) (chk (inb (m_s (3 + x3).toNatClampNeg) 9) (chk (inb (23 + x3) 124) (chk (inb (m_s (23 + x3).toNatClampNeg) 9) (chk (nn32 (FP.fsub (m_ys (m_s (3 + x3).toNatClampNeg).toNatClampNeg) (m_ys (m_s (23 + x3).toNatClampNeg).toNatClampNeg))) (bd1 (f_X8_size N (FP.fsub (m_ys (m_s (3 + x3).toNatClampNeg).toNatClampNeg) (m_ys (m_s (23 + x3).toNatClampNeg).toNatClampNeg))) fun r_20 =>
  if (Op.cmpValue (FP.fcmp r_14 r_20) .l) ≤ 0 then f_X8_extent_b125 N m_s (f_X8_extent_b33 N m_s n) x3 x2 r_20 m_faceOfSide m_firstSide m_faces m_xs m_ys
  else f_X8_extent_b125 N m_s (f_X8_extent_b33 N m_s n) x3 x2 r_14 m_faceOfSide m_firstSide m_faces m_xs m_ys)))))))))))
def f_X8_extent (N : Nat) (m_s : Nat → Int32) (m_faceOfSide : Nat → Int32) (m_firstSide : Nat → Int32) (m_faces : Int32) (m_xs : Nat → UInt32) (m_ys : Nat → UInt32) (p1 : Int32) : Option (Int32 × (Nat → Int32) × (Nat → Int32) × Int32 × (Nat → UInt32) × (Nat → UInt32)) :=
  bd1 (f_X8_in N p1 0 50) fun r_1 =>
  if ¬ r_1 = 0 then chk (inb 1 124) (if ¬ (m_s (1 : Int32).toNatClampNeg) = 0 then bd1 (f_X8_relaxes N m_s m_faceOfSide m_firstSide m_faces m_xs m_ys p1) fun r_5 =>
  nm (FP.fconst0) fun x2_6 =>
  f_X8_extent_b33 N m_s N x2_6 0 r_5.1 r_5.2.1 r_5.2.2.1 r_5.2.2.2.1 r_5.2.2.2.2
  else some ((-2), m_faceOfSide, m_firstSide, m_faces, m_xs, m_ys))
  else some ((-1), m_faceOfSide, m_firstSide, m_faces, m_xs, m_ys)
def f_X8_face (N : Nat) (m_s : Nat → Int32) (m_faceOfSide : Nat → Int32) (m_firstSide : Nat → Int32) (m_faces : Int32) (p1 : Int32) (p2 : Int32) : Option (Int32 × (Nat → Int32) × (Nat → Int32) × Int32) :=
  bd1 (f_X8_walks N m_s m_faceOfSide m_firstSide m_faces) fun r_1 =>
  bd1 (f_X8_in N p1 0 (r_1.2.2 - 1)) fun r_2 =>
  if r_2 = 0 then some ((-1), r_1.1, r_1.2.1, r_1.2.2)
  else bd1 (f_X8_in N p2 0 3) fun r_4 =>
  if ¬ r_4 = 0 then if ¬ p2 = 0 then if ¬ p2 = 1 then if ¬ p2 = 2 then bd1 (f_X8_besides N m_s r_1.1 p1) fun r_9 =>
  some (r_9, r_1.1, r_1.2.1, r_1.2.2)
  else chk (inb p1 40) (some ((r_1.2.1 p1.toNatClampNeg), r_1.1, r_1.2.1, r_1.2.2))
  else bd1 (f_X8_nodesOn N m_s r_1.1 p1) fun r_11 =>
  bd1 (f_X8_bits N ((r_11 : Int32).toInt64)) fun r_12 =>
  some (r_12, r_1.1, r_1.2.1, r_1.2.2)
  else bd1 (f_X8_lengthOf N m_s r_1.1 p1) fun r_13 =>
  some (r_13, r_1.1, r_1.2.1, r_1.2.2)
  else some ((-1), r_1.1, r_1.2.1, r_1.2.2)
def f_X8_faceOf (N : Nat) (m_s : Nat → Int32) (m_faceOfSide : Nat → Int32) (m_firstSide : Nat → Int32) (m_faces : Int32) (p1 : Int32) : Option (Int32 × (Nat → Int32) × (Nat → Int32) × Int32) :=
  chk (inb 1 124) (bd1 (f_X8_in N p1 0 ((2 * (m_s (1 : Int32).toNatClampNeg)) - 1)) fun r_2 =>
  if ¬ r_2 = 0 then bd1 (f_X8_walks N m_s m_faceOfSide m_firstSide m_faces) fun r_4 =>
  chk (inb p1 40) (some ((r_4.1 p1.toNatClampNeg), r_4.1, r_4.2.1, r_4.2.2))
  else some ((-1), m_faceOfSide, m_firstSide, m_faces))
def f_X8_guiltyEdges_b50 (N : Nat) (m_s : Nat → Int32) (k20 : Int32 → Int32 → Int32 → (Nat → Int32) → (Nat → Int32) → (Nat → Int32) → (Nat → Int32) → (Nat → Int32) → (Nat → Int32) → (Nat → Int32) → Int32 → (Nat → Int32) → Int32 → (Nat → Int32) → Int32 → Int32 → Int32 → Int32 → Option (Int32 × (Nat → Int32) × (Nat → Int32) × (Nat → Int32) × (Nat → Int32) × (Nat → Int32) × (Nat → Int32) × (Nat → Int32) × Int32 × (Nat → Int32) × Int32 × (Nat → Int32) × Int32 × Int32 × Int32 × Int32)) (x1 : Int32) (x3 : Int32) (y0 : Int32) (y1 : Int32) (m_endA : Nat → Int32) (m_endB : Nat → Int32) (m_from : Nat → Int32) (m_queue : Nat → Int32) (m_ring : Nat → Int32) (m_ringSize : Nat → Int32) (m_ringNodes : Nat → Int32) (m_rings : Int32) (m_path : Nat → Int32) (m_pathSize : Int32) (m_old : Nat → Int32) (m_lastRing : Int32) (m_bestNodes : Int32) (m_bestInside : Int32) (m_bestFits : Int32) : Option (Int32 × (Nat → Int32) × (Nat → Int32) × (Nat → Int32) × (Nat → Int32) × (Nat → Int32) × (Nat → Int32) × (Nat → Int32) × Int32 × (Nat → Int32) × Int32 × (Nat → Int32) × Int32 × Int32 × Int32 × Int32) :=
  nm ((y0 + y1)) fun x2_9 =>
  k20 x1 x2_9 (x3 + 1) m_endA m_endB m_from m_queue m_ring m_ringSize m_ringNodes m_rings m_path m_pathSize m_old m_lastRing m_bestNodes m_bestInside m_bestFits
def f_X8_guiltyEdges_b20 (N : Nat) (m_s : Nat → Int32) : Nat → Int32 → Int32 → Int32 → (Nat → Int32) → (Nat → Int32) → (Nat → Int32) → (Nat → Int32) → (Nat → Int32) → (Nat → Int32) → (Nat → Int32) → Int32 → (Nat → Int32) → Int32 → (Nat → Int32) → Int32 → Int32 → Int32 → Int32 → Option (Int32 × (Nat → Int32) × (Nat → Int32) × (Nat → Int32) × (Nat → Int32) × (Nat → Int32) × (Nat → Int32) × (Nat → Int32) × Int32 × (Nat → Int32) × Int32 × (Nat → Int32) × Int32 × Int32 × Int32 × Int32)
  | 0 => fun _ _ _ _ _ _ _ _ _ _ _ _ _ _ _ _ _ _ => none
  | n + 1 => fun x1 x2 x3 m_endA m_endB m_from m_queue m_ring m_ringSize m_ringNodes m_rings m_path m_pathSize m_old m_lastRing m_bestNodes m_bestInside m_bestFits =>
  chk (inb 1 124) (if (m_s (1 : Int32).toNatClampNeg) ≤ x3 then some (x2, m_endA, m_endB, m_from, m_queue, m_ring, m_ringSize, m_ringNodes, m_rings, m_path, m_pathSize, m_old, m_lastRing, m_bestNodes, m_bestInside, m_bestFits)
  else bd1 (f_X8_planar N m_endA m_endB m_from m_queue m_ring m_ringSize m_ringNodes m_rings m_path m_pathSize m_old m_lastRing m_bestNodes m_bestInside m_bestFits (x1 &&& (((1 : Int32) <<< (x3 &&& 31)) ^^^ (-1)))) fun r_7 =>
  if r_7.1 = 0 then f_X8_guiltyEdges_b50 N m_s (f_X8_guiltyEdges_b20 N m_s n) x1 x3 x2 0 m_endA m_endB r_7.2.1 r_7.2.2.1 r_7.2.2.2.1 r_7.2.2.2.2.1 r_7.2.2.2.2.2.1 r_7.2.2.2.2.2.2.1 r_7.2.2.2.2.2.2.2.1 r_7.2.2.2.2.2.2.2.2.1 r_7.2.2.2.2.2.2.2.2.2.1 r_7.2.2.2.2.2.2.2.2.2.2.1 r_7.2.2.2.2.2.2.2.2.2.2.2.1 r_7.2.2.2.2.2.2.2.2.2.2.2.2.1 r_7.2.2.2.2.2.2.2.2.2.2.2.2.2
  else f_X8_guiltyEdges_b50 N m_s (f_X8_guiltyEdges_b20 N m_s n) x1 x3 x2 1 m_endA m_endB r_7.2.1 r_7.2.2.1 r_7.2.2.2.1 r_7.2.2.2.2.1 r_7.2.2.2.2.2.1 r_7.2.2.2.2.2.2.1 r_7.2.2.2.2.2.2.2.1 r_7.2.2.2.2.2.2.2.2.1 r_7.2.2.2.2.2.2.2.2.2.1 r_7.2.2.2.2.2.2.2.2.2.2.1 r_7.2.2.2.2.2.2.2.2.2.2.2.1 r_7.2.2.2.2.2.2.2.2.2.2.2.2.1 r_7.2.2.2.2.2.2.2.2.2.2.2.2.2)
def f_X8_guiltyEdges (N : Nat) (m_s : Nat → Int32) (m_endA : Nat → Int32) (m_endB : Nat → Int32) (m_from : Nat → Int32) (m_queue : Nat → Int32) (m_ring : Nat → Int32) (m_ringSize : Nat → Int32) (m_ringNodes : Nat → Int32) (m_rings : Int32) (m_path : Nat → Int32) (m_pathSize : Int32) (m_old : Nat → Int32) (m_lastRing : Int32) (m_bestNodes : Int32) (m_bestInside : Int32) (m_bestFits : Int32) : Option (Int32 × (Nat → Int32) × (Nat → Int32) × (Nat → Int32) × (Nat → Int32) × (Nat → Int32) × (Nat → Int32) × (Nat → Int32) × Int32 × (Nat → Int32) × Int32 × (Nat → Int32) × Int32 × Int32 × Int32 × Int32) :=
  bd1 (f_X8_allEdges N m_s m_endA m_endB) fun r_1 =>
  nm (r_1.1) fun x1_2 =>
  bd1 (f_X8_planar N r_1.2.1 r_1.2.2 m_from m_queue m_ring m_ringSize m_ringNodes m_rings m_path m_pathSize m_old m_lastRing m_bestNodes m_bestInside m_bestFits x1_2) fun r_3 =>
  if r_3.1 = 0 then f_X8_guiltyEdges_b20 N m_s N x1_2 0 0 r_1.2.1 r_1.2.2 r_3.2.1 r_3.2.2.1 r_3.2.2.2.1 r_3.2.2.2.2.1 r_3.2.2.2.2.2.1 r_3.2.2.2.2.2.2.1 r_3.2.2.2.2.2.2.2.1 r_3.2.2.2.2.2.2.2.2.1 r_3.2.2.2.2.2.2.2.2.2.1 r_3.2.2.2.2.2.2.2.2.2.2.1 r_3.2.2.2.2.2.2.2.2.2.2.2.1 r_3.2.2.2.2.2.2.2.2.2.2.2.2.1 r_3.2.2.2.2.2.2.2.2.2.2.2.2.2
  else some ((-9), r_1.2.1, r_1.2.2, r_3.2.1, r_3.2.2.1, r_3.2.2.2.1, r_3.2.2.2.2.1, r_3.2.2.2.2.2.1, r_3.2.2.2.2.2.2.1, r_3.2.2.2.2.2.2.2.1, r_3.2.2.2.2.2.2.2.2.1, r_3.2.2.2.2.2.2.2.2.2.1, r_3.2.2.2.2.2.2.2.2.2.2.1, r_3.2.2.2.2.2.2.2.2.2.2.2.1, r_3.2.2.2.2.2.2.2.2.2.2.2.2.1, r_3.2.2.2.2.2.2.2.2.2.2.2.2.2)
def f_X8_insertionCost (N : Nat) (m_s : Nat → Int32) (m_faceOfSide : Nat → Int32) (m_firstSide : Nat → Int32) (m_faces : Int32) (m_far : Nat → Int32) (p1 : Int32) (p2 : Int32) : Option (Int32 × (Nat → Int32) × (Nat → Int32) × Int32 × (Nat → Int32)) :=
  bd1 (f_X8_areNodes N m_s p1 p2) fun r_1 =>
  if ¬ r_1 = 0 then bd1 (f_X8_isRefused N m_s m_faceOfSide m_firstSide m_faces p1 p2) fun r_3 =>
  if r_3.1 = 0 then bd1 (f_X8_costOf N m_s r_3.2.1 r_3.2.2.2 m_far p1 p2) fun r_5 =>
  some (r_5.1, r_3.2.1, r_3.2.2.1, r_3.2.2.2, r_5.2)
  else some ((-2), r_3.2.1, r_3.2.2.1, r_3.2.2.2, m_far)
  else some ((-1), m_faceOfSide, m_firstSide, m_faces, m_far)
def f_X8_isPlanar (N : Nat) (m_s : Nat → Int32) (m_endA : Nat → Int32) (m_endB : Nat → Int32) (m_from : Nat → Int32) (m_queue : Nat → Int32) (m_ring : Nat → Int32) (m_ringSize : Nat → Int32) (m_ringNodes : Nat → Int32) (m_rings : Int32) (m_path : Nat → Int32) (m_pathSize : Int32) (m_old : Nat → Int32) (m_lastRing : Int32) (m_bestNodes : Int32) (m_bestInside : Int32) (m_bestFits : Int32) : Option (Int32 × (Nat → Int32) × (Nat → Int32) × (Nat → Int32) × (Nat → Int32) × (Nat → Int32) × (Nat → Int32) × (Nat → Int32) × Int32 × (Nat → Int32) × Int32 × (Nat → Int32) × Int32 × Int32 × Int32 × Int32) :=
  bd1 (f_X8_allEdges N m_s m_endA m_endB) fun r_1 =>
  bd1 (f_X8_planar N r_1.2.1 r_1.2.2 m_from m_queue m_ring m_ringSize m_ringNodes m_rings m_path m_pathSize m_old m_lastRing m_bestNodes m_bestInside m_bestFits r_1.1) fun r_2 =>
  if r_2.1 = 0 then some (0, r_1.2.1, r_1.2.2, r_2.2.1, r_2.2.2.1, r_2.2.2.2.1, r_2.2.2.2.2.1, r_2.2.2.2.2.2.1, r_2.2.2.2.2.2.2.1, r_2.2.2.2.2.2.2.2.1, r_2.2.2.2.2.2.2.2.2.1, r_2.2.2.2.2.2.2.2.2.2.1, r_2.2.2.2.2.2.2.2.2.2.2.1, r_2.2.2.2.2.2.2.2.2.2.2.2.1, r_2.2.2.2.2.2.2.2.2.2.2.2.2.1, r_2.2.2.2.2.2.2.2.2.2.2.2.2.2)
  else some (1, r_1.2.1, r_1.2.2, r_2.2.1, r_2.2.2.1, r_2.2.2.2.1, r_2.2.2.2.2.1, r_2.2.2.2.2.2.1, r_2.2.2.2.2.2.2.1, r_2.2.2.2.2.2.2.2.1, r_2.2.2.2.2.2.2.2.2.1, r_2.2.2.2.2.2.2.2.2.2.1, r_2.2.2.2.2.2.2.2.2.2.2.1, r_2.2.2.2.2.2.2.2.2.2.2.2.1, r_2.2.2.2.2.2.2.2.2.2.2.2.2.1, r_2.2.2.2.2.2.2.2.2.2.2.2.2.2)
def f_X8_may (N : Nat) (m_s : Nat → Int32) (p1 : Int32) (p2 : Int32) (p3 : Int32) : Option (Int32) :=
  nm ((p2 - 48)) fun x4_1 =>
  if p1 = 0 then bd1 (f_X8_in N x4_1 2 9) fun r_3 =>
  chk (isB r_3) (some r_3)
  else if p1 = 1 then if ¬ p2 = 58 then some 0
  else some 1
  else if p1 = 2 then bd1 (f_X8_isNode N m_s x4_1) fun r_8 =>
  if r_8 = 0 then some 0
  else chk (inb 1 124) (if 20 ≤ (m_s (1 : Int32).toNatClampNeg) then some 0
  else some 1)
  else if p1 = 3 then bd1 (f_X8_isNode N m_s x4_1) fun r_13 =>
  if r_13 = 0 then some 0
  else if x4_1 = p3 then some 0
  else bd1 (f_X8_between N m_s p3 x4_1) fun r_16 =>
  if ¬ r_16 = (-9) then some 0
  else some 1
  else if ¬ p2 = 59 then some 0
  else some 1
def f_X8_load_b227 (N : Nat) (m_text : Nat → Int32) (y0 : Int32) (m_s : Nat → Int32) (m_past : Nat → Int32) (m_pasts : Int32) (m_typed : Int32) (m_before : Nat → Int32) : Option (Int32 × (Nat → Int32) × (Nat → Int32) × Int32 × Int32 × (Nat → Int32)) :=
  bd1 (f_X8_exchanges N m_s m_before) fun r_27 =>
  if y0 = (-9) then bd1 (f_X8_notes N r_27.1 m_past m_pasts) fun r_29 =>
  bd1 (f_X8_exchanges N r_27.1 r_27.2) fun r_30 =>
  chk (inb 1 124) (some ((r_30.1 (1 : Int32).toNatClampNeg), r_30.1, r_29.1, r_29.2, 0, r_30.2))
  else some (((-10) - y0), r_27.1, m_past, m_pasts, m_typed, r_27.2)
def f_X8_load_b226 (N : Nat) (m_text : Nat → Int32) (x3 : Int32) (m_s : Nat → Int32) (m_past : Nat → Int32) (m_pasts : Int32) (m_typed : Int32) (m_before : Nat → Int32) : Option (Int32 × (Nat → Int32) × (Nat → Int32) × Int32 × Int32 × (Nat → Int32)) :=
  f_X8_load_b227 N m_text x3 m_s m_past m_pasts m_typed m_before
def f_X8_load_b208 (N : Nat) (m_text : Nat → Int32) (x1 : Int32) (x3 : Int32) (m_s : Nat → Int32) (m_past : Nat → Int32) (m_pasts : Int32) (m_typed : Int32) (m_before : Nat → Int32) : Option (Int32 × (Nat → Int32) × (Nat → Int32) × Int32 × Int32 × (Nat → Int32)) :=
  if ¬ x3 = (-9) then f_X8_load_b226 N m_text x3 m_s m_past m_pasts m_typed m_before
  else if x1 = 2 then f_X8_load_b226 N m_text x3 m_s m_past m_pasts m_typed m_before
  else f_X8_load_b227 N m_text m_typed m_s m_past m_pasts m_typed m_before
def f_X8_load_b202 (N : Nat) (m_text : Nat → Int32) (k41 : Int32 → Int32 → Int32 → Int32 → (Nat → Int32) → (Nat → Int32) → Int32 → Int32 → (Nat → Int32) → Option (Int32 × (Nat → Int32) × (Nat → Int32) × Int32 × Int32 × (Nat → Int32))) (x1 : Int32) (x2 : Int32) (x3 : Int32) (x4 : Int32) (m_s : Nat → Int32) (m_past : Nat → Int32) (m_pasts : Int32) (m_typed : Int32) (m_before : Nat → Int32) : Option (Int32 × (Nat → Int32) × (Nat → Int32) × Int32 × Int32 × (Nat → Int32)) :=
  k41 x1 x2 x3 (x4 + 1) m_s m_past m_pasts m_typed m_before
def f_X8_load_b201 (N : Nat) (m_text : Nat → Int32) (k41 : Int32 → Int32 → Int32 → Int32 → (Nat → Int32) → (Nat → Int32) → Int32 → Int32 → (Nat → Int32) → Option (Int32 × (Nat → Int32) × (Nat → Int32) × Int32 × Int32 × (Nat → Int32))) (x2 : Int32) (x3 : Int32) (x4 : Int32) (y0 : Int32) (m_s : Nat → Int32) (m_past : Nat → Int32) (m_pasts : Int32) (m_typed : Int32) (m_before : Nat → Int32) : Option (Int32 × (Nat → Int32) × (Nat → Int32) × Int32 × Int32 × (Nat → Int32)) :=
  f_X8_load_b202 N m_text k41 y0 x2 x3 x4 m_s m_past m_pasts m_typed m_before
def f_X8_load_b188 (N : Nat) (m_text : Nat → Int32) (k41 : Int32 → Int32 → Int32 → Int32 → (Nat → Int32) → (Nat → Int32) → Int32 → Int32 → (Nat → Int32) → Option (Int32 × (Nat → Int32) × (Nat → Int32) × Int32 × Int32 × (Nat → Int32))) (x1 : Int32) (x3 : Int32) (x4 : Int32) (y0 : Int32) (m_s : Nat → Int32) (m_past : Nat → Int32) (m_pasts : Int32) (m_typed : Int32) (m_before : Nat → Int32) : Option (Int32 × (Nat → Int32) × (Nat → Int32) × Int32 × Int32 × (Nat → Int32)) :=
  if ¬ x1 = 4 then f_X8_load_b201 N m_text k41 y0 x3 x4 (x1 + 1) m_s m_past m_pasts m_typed m_before
  else f_X8_load_b201 N m_text k41 y0 x3 x4 2 m_s m_past m_pasts m_typed m_before
def f_X8_load_b174 (N : Nat) (m_text : Nat → Int32) (k41 : Int32 → Int32 → Int32 → Int32 → (Nat → Int32) → (Nat → Int32) → Int32 → Int32 → (Nat → Int32) → Option (Int32 × (Nat → Int32) × (Nat → Int32) × Int32 × Int32 × (Nat → Int32))) (x1 : Int32) (x2 : Int32) (x3 : Int32) (x4 : Int32) (x5 : Int32) (m_s : Nat → Int32) (m_past : Nat → Int32) (m_pasts : Int32) (m_typed : Int32) (m_before : Nat → Int32) : Option (Int32 × (Nat → Int32) × (Nat → Int32) × Int32 × Int32 × (Nat → Int32)) :=
  if ¬ x1 = 2 then f_X8_load_b188 N m_text k41 x1 x3 x4 x2 m_s m_past m_pasts m_typed m_before
  else f_X8_load_b188 N m_text k41 x1 x3 x4 (x5 - 48) m_s m_past m_pasts m_typed m_before
def f_X8_load_b173 (N : Nat) (m_text : Nat → Int32) (k41 : Int32 → Int32 → Int32 → Int32 → (Nat → Int32) → (Nat → Int32) → Int32 → Int32 → (Nat → Int32) → Option (Int32 × (Nat → Int32) × (Nat → Int32) × Int32 × Int32 × (Nat → Int32))) (x1 : Int32) (x3 : Int32) (x4 : Int32) (x5 : Int32) (y0 : Int32) (m_s : Nat → Int32) (m_past : Nat → Int32) (m_pasts : Int32) (m_typed : Int32) (m_before : Nat → Int32) : Option (Int32 × (Nat → Int32) × (Nat → Int32) × Int32 × Int32 × (Nat → Int32)) :=
  f_X8_load_b174 N m_text k41 x1 y0 x3 x4 x5 m_s m_past m_pasts m_typed m_before
def f_X8_load_b116 (N : Nat) (m_text : Nat → Int32) (k41 : Int32 → Int32 → Int32 → Int32 → (Nat → Int32) → (Nat → Int32) → Int32 → Int32 → (Nat → Int32) → Option (Int32 × (Nat → Int32) × (Nat → Int32) × Int32 × Int32 × (Nat → Int32))) (x1 : Int32) (x2 : Int32) (x3 : Int32) (x4 : Int32) (x5 : Int32) (m_s : Nat → Int32) (m_past : Nat → Int32) (m_pasts : Int32) (m_typed : Int32) (m_before : Nat → Int32) : Option (Int32 × (Nat → Int32) × (Nat → Int32) × Int32 × Int32 × (Nat → Int32)) :=
  if ¬ x3 = (-9) then f_X8_load_b174 N m_text k41 x1 x2 x3 x4 x5 m_s m_past m_pasts m_typed m_before
  else if ¬ x1 = 3 then f_X8_load_b174 N m_text k41 x1 x2 x3 x4 x5 m_s m_past m_pasts m_typed m_before
  else nm ((x5 - 48)) fun x6_17 =>
  chk (inb (43 + x2) 124) (chk (inb (43 + x6_17) 124) (bd1 (f_X8_joins N m_s x2 x6_17 (m_s (43 + x2).toNatClampNeg) (m_s (43 + x6_17).toNatClampNeg)) fun r_20 =>
  nm (r_20.1) fun x7_21 =>
  if 0 ≤ x7_21 then f_X8_load_b173 N m_text k41 x1 x3 x4 x5 x6_17 r_20.2 m_past m_pasts m_typed m_before
  else f_X8_load_b173 N m_text k41 x1 x3 x4 x5 x2 r_20.2 m_past m_pasts m_typed m_before))
def f_X8_load_b94 (N : Nat) (m_text : Nat → Int32) (k41 : Int32 → Int32 → Int32 → Int32 → (Nat → Int32) → (Nat → Int32) → Int32 → Int32 → (Nat → Int32) → Option (Int32 × (Nat → Int32) × (Nat → Int32) × Int32 × Int32 × (Nat → Int32))) (x1 : Int32) (x2 : Int32) (x4 : Int32) (x5 : Int32) (y0 : Int32) (m_s : Nat → Int32) (m_past : Nat → Int32) (m_pasts : Int32) (m_typed : Int32) (m_before : Nat → Int32) : Option (Int32 × (Nat → Int32) × (Nat → Int32) × Int32 × Int32 × (Nat → Int32)) :=
  if ¬ y0 = (-9) then f_X8_load_b116 N m_text k41 x1 x2 y0 x4 x5 m_s m_past m_pasts m_typed m_before
  else if ¬ x1 = 0 then f_X8_load_b116 N m_text k41 x1 x2 y0 x4 x5 m_s m_past m_pasts m_typed m_before
  else chk (inb 0 124) (f_X8_load_b116 N m_text k41 x1 x2 y0 x4 x5 (upd m_s (0 : Int32).toNatClampNeg (x5 - 48)) m_past m_pasts m_typed m_before)
def f_X8_load_b41 (N : Nat) (m_text : Nat → Int32) : Nat → Int32 → Int32 → Int32 → Int32 → (Nat → Int32) → (Nat → Int32) → Int32 → Int32 → (Nat → Int32) → Option (Int32 × (Nat → Int32) × (Nat → Int32) × Int32 × Int32 × (Nat → Int32))
  | 0 => fun _ _ _ _ _ _ _ _ _ => none
  | n + 1 => fun x1 x2 x3 x4 m_s m_past m_pasts m_typed m_before =>
  if m_typed ≤ x4 then f_X8_load_b208 N m_text x1 x3 m_s m_past m_pasts m_typed m_before
  else if ¬ x3 = (-9) then f_X8_load_b208 N m_text x1 x3 m_s m_past m_pasts m_typed m_before
  else chk (inb x4 100) (nm (((m_text x4.toNatClampNeg) &&& 255)) fun x5_8 =>
  if x5_8 = 32 then f_X8_load_b202 N m_text (f_X8_load_b41 N m_text n) x1 x2 x3 x4 m_s m_past m_pasts m_typed m_before
  else bd1 (f_X8_may N m_s x1 x5_8 x2) fun r_10 =>
  if r_10 = 0 then f_X8_load_b94 N m_text (f_X8_load_b41 N m_text n) x1 x2 x4 x5_8 x4 m_s m_past m_pasts m_typed m_before
  else f_X8_load_b94 N m_text (f_X8_load_b41 N m_text n) x1 x2 x4 x5_8 (-9) m_s m_past m_pasts m_typed m_before)
def f_X8_load_b26 (N : Nat) (m_text : Nat → Int32) (m_s : Nat → Int32) (m_past : Nat → Int32) (m_pasts : Int32) (m_typed : Int32) (m_before : Nat → Int32) : Option (Int32 × (Nat → Int32) × (Nat → Int32) × Int32 × Int32 × (Nat → Int32)) :=
  bd1 (f_X8_empties N m_s 0) fun r_4 =>
  f_X8_load_b41 N m_text N 0 0 (-9) 0 r_4 m_past m_pasts m_typed m_before
def f_X8_load_b2 (N : Nat) (m_text : Nat → Int32) : Nat → Int32 → (Nat → Int32) → (Nat → Int32) → Int32 → Int32 → (Nat → Int32) → Option (Int32 × (Nat → Int32) × (Nat → Int32) × Int32 × Int32 × (Nat → Int32))
  | 0 => fun _ _ _ _ _ _ => none
  | n + 1 => fun x1 m_s m_past m_pasts m_typed m_before =>
  if 124 ≤ x1 then f_X8_load_b26 N m_text m_s m_past m_pasts m_typed m_before
  else chk (inb x1 124) (chk (inb x1 124) ((f_X8_load_b2 N m_text n) (x1 + 1) m_s m_past m_pasts m_typed (upd m_before x1.toNatClampNeg (m_s x1.toNatClampNeg))))
def f_X8_load (N : Nat) (m_s : Nat → Int32) (m_past : Nat → Int32) (m_pasts : Int32) (m_text : Nat → Int32) (m_typed : Int32) (m_before : Nat → Int32) : Option (Int32 × (Nat → Int32) × (Nat → Int32) × Int32 × Int32 × (Nat → Int32)) :=
  f_X8_load_b2 N m_text N 0 m_s m_past m_pasts m_typed m_before
def f_X8_mirror_b99 (N : Nat) (m_s : Nat → Int32) (m_past : Nat → Int32) (m_pasts : Int32) (m_faceOfSide : Nat → Int32) (m_firstSide : Nat → Int32) (m_faces : Int32) : Option (Int32 × (Nat → Int32) × (Nat → Int32) × Int32 × (Nat → Int32) × (Nat → Int32) × Int32) :=
  chk (inb 2 124) (bd1 (f_X8_walks N (upd m_s (2 : Int32).toNatClampNeg 0) m_faceOfSide m_firstSide m_faces) fun r_12 =>
  some (r_12.2.2, (upd m_s (2 : Int32).toNatClampNeg 0), m_past, m_pasts, r_12.1, r_12.2.1, r_12.2.2))
def f_X8_mirror_b93 (N : Nat) (k6 : Int32 → (Nat → Int32) → (Nat → Int32) → Int32 → (Nat → Int32) → (Nat → Int32) → Int32 → Option (Int32 × (Nat → Int32) × (Nat → Int32) × Int32 × (Nat → Int32) × (Nat → Int32) × Int32)) (x1 : Int32) (m_s : Nat → Int32) (m_past : Nat → Int32) (m_pasts : Int32) (m_faceOfSide : Nat → Int32) (m_firstSide : Nat → Int32) (m_faces : Int32) : Option (Int32 × (Nat → Int32) × (Nat → Int32) × Int32 × (Nat → Int32) × (Nat → Int32) × Int32) :=
  k6 (x1 + 1) m_s m_past m_pasts m_faceOfSide m_firstSide m_faces
def f_X8_mirror_b28 (N : Nat) (k6 : Int32 → (Nat → Int32) → (Nat → Int32) → Int32 → (Nat → Int32) → (Nat → Int32) → Int32 → Option (Int32 × (Nat → Int32) × (Nat → Int32) × Int32 × (Nat → Int32) × (Nat → Int32) × Int32)) : Nat → Int32 → Int32 → Int32 → (Nat → Int32) → (Nat → Int32) → Int32 → (Nat → Int32) → (Nat → Int32) → Int32 → Option (Int32 × (Nat → Int32) × (Nat → Int32) × Int32 × (Nat → Int32) × (Nat → Int32) × Int32)
  | 0 => fun _ _ _ _ _ _ _ _ _ => none
  | n + 1 => fun x1 x2 x3 m_s m_past m_pasts m_faceOfSide m_firstSide m_faces =>
  if (x2 / 2) ≤ x3 then f_X8_mirror_b93 N k6 x1 m_s m_past m_pasts m_faceOfSide m_firstSide m_faces
  else bd1 (f_X8_turn N m_s x1 x3) fun r_7 =>
  bd1 (f_X8_turn N m_s x1 ((x2 - 1) - x3)) fun r_8 =>
  chk (inb ((52 + (8 * x1)) + x3) 124) (chk (inb ((((52 + (8 * x1)) + x2) - 1) - x3) 124) ((f_X8_mirror_b28 N k6 n) x1 x2 (x3 + 1) (upd (upd m_s ((52 + (8 * x1)) + x3).toNatClampNeg r_8) ((((52 + (8 * x1)) + x2) - 1) - x3).toNatClampNeg r_7) m_past m_pasts m_faceOfSide m_firstSide m_faces))
def f_X8_mirror_b6 (N : Nat) : Nat → Int32 → (Nat → Int32) → (Nat → Int32) → Int32 → (Nat → Int32) → (Nat → Int32) → Int32 → Option (Int32 × (Nat → Int32) × (Nat → Int32) × Int32 × (Nat → Int32) × (Nat → Int32) × Int32)
  | 0 => fun _ _ _ _ _ _ _ => none
  | n + 1 => fun x1 m_s m_past m_pasts m_faceOfSide m_firstSide m_faces =>
  chk (inb 0 124) (if (m_s (0 : Int32).toNatClampNeg) ≤ x1 then f_X8_mirror_b99 N m_s m_past m_pasts m_faceOfSide m_firstSide m_faces
  else chk (inb (43 + x1) 124) (nm ((m_s (43 + x1).toNatClampNeg)) fun x2_5 =>
  f_X8_mirror_b28 N (f_X8_mirror_b6 N n) N x1 x2_5 0 m_s m_past m_pasts m_faceOfSide m_firstSide m_faces))
def f_X8_mirror (N : Nat) (m_s : Nat → Int32) (m_past : Nat → Int32) (m_pasts : Int32) (m_faceOfSide : Nat → Int32) (m_firstSide : Nat → Int32) (m_faces : Int32) : Option (Int32 × (Nat → Int32) × (Nat → Int32) × Int32 × (Nat → Int32) × (Nat → Int32) × Int32) :=
  bd1 (f_X8_notes N m_s m_past m_pasts) fun r_1 =>
  f_X8_mirror_b6 N N 0 m_s r_1.1 r_1.2 m_faceOfSide m_firstSide m_faces
def f_X8_obstruction (N : Nat) (m_s : Nat → Int32) (m_endA : Nat → Int32) (m_endB : Nat → Int32) (m_from : Nat → Int32) (m_queue : Nat → Int32) (m_ring : Nat → Int32) (m_ringSize : Nat → Int32) (m_ringNodes : Nat → Int32) (m_rings : Int32) (m_path : Nat → Int32) (m_pathSize : Int32) (m_old : Nat → Int32) (m_lastRing : Int32) (m_bestNodes : Int32) (m_bestInside : Int32) (m_bestFits : Int32) : Option (Int32 × (Nat → Int32) × (Nat → Int32) × (Nat → Int32) × (Nat → Int32) × (Nat → Int32) × (Nat → Int32) × (Nat → Int32) × Int32 × (Nat → Int32) × Int32 × (Nat → Int32) × Int32 × Int32 × Int32 × Int32) :=
  bd1 (f_X8_obstructed N m_s m_endA m_endB m_from m_queue m_ring m_ringSize m_ringNodes m_rings m_path m_pathSize m_old m_lastRing m_bestNodes m_bestInside m_bestFits) fun r_1 =>
  some (r_1.1, r_1.2.1, r_1.2.2.1, r_1.2.2.2.1, r_1.2.2.2.2.1, r_1.2.2.2.2.2.1, r_1.2.2.2.2.2.2.1, r_1.2.2.2.2.2.2.2.1, r_1.2.2.2.2.2.2.2.2.1, r_1.2.2.2.2.2.2.2.2.2.1, r_1.2.2.2.2.2.2.2.2.2.2.1, r_1.2.2.2.2.2.2.2.2.2.2.2.1, r_1.2.2.2.2.2.2.2.2.2.2.2.2.1, r_1.2.2.2.2.2.2.2.2.2.2.2.2.2.1, r_1.2.2.2.2.2.2.2.2.2.2.2.2.2.2.1, r_1.2.2.2.2.2.2.2.2.2.2.2.2.2.2.2)
def f_X8_position_b65 (N : Nat) (m_s : Nat → Int32) (y0 : UInt32) (m_faceOfSide : Nat → Int32) (m_firstSide : Nat → Int32) (m_faces : Int32) (m_xs : Nat → UInt32) (m_ys : Nat → UInt32) : Option (Int32 × (Nat → Int32) × (Nat → Int32) × Int32 × (Nat → UInt32) × (Nat → UInt32)) :=
  bd1 (f_Jxf58ca_floatToIntBits_5c35a N y0) fun r_13 =>
  some (r_13, m_faceOfSide, m_firstSide, m_faces, m_xs, m_ys)
def f_X8_position (N : Nat) (m_s : Nat → Int32) (m_faceOfSide : Nat → Int32) (m_firstSide : Nat → Int32) (m_faces : Int32) (m_xs : Nat → UInt32) (m_ys : Nat → UInt32) (p1 : Int32) (p2 : Int32) (p3 : Int32) : Option (Int32 × (Nat → Int32) × (Nat → Int32) × Int32 × (Nat → UInt32) × (Nat → UInt32)) :=
  bd1 (f_X8_isNode N m_s p1) fun r_1 =>
  if r_1 = 0 then some ((-1), m_faceOfSide, m_firstSide, m_faces, m_xs, m_ys)
  else bd1 (f_X8_in N p2 0 1) fun r_3 =>
  if r_3 = 0 then some ((-1), m_faceOfSide, m_firstSide, m_faces, m_xs, m_ys)
  else bd1 (f_X8_in N p3 0 50) fun r_5 =>
  if ¬ r_5 = 0 then chk (inb 1 124) (if ¬ (m_s (1 : Int32).toNatClampNeg) = 0 then bd1 (f_X8_relaxes N m_s m_faceOfSide m_firstSide m_faces m_xs m_ys p3) fun r_9 =>
  if ¬ p2 = 0 then chk (inb p1 9) (f_X8_position_b65 N m_s (r_9.2.2.2.2 p1.toNatClampNeg) r_9.1 r_9.2.1 r_9.2.2.1 r_9.2.2.2.1 r_9.2.2.2.2)
  else chk (inb p1 9) (f_X8_position_b65 N m_s (r_9.2.2.2.1 p1.toNatClampNeg) r_9.1 r_9.2.1 r_9.2.2.1 r_9.2.2.2.1 r_9.2.2.2.2)
  else some ((-2), m_faceOfSide, m_firstSide, m_faces, m_xs, m_ys))
  else some ((-1), m_faceOfSide, m_firstSide, m_faces, m_xs, m_ys)
def f_X8_removeEdge_b185 (N : Nat) (m_s : Nat → Int32) (m_past : Nat → Int32) (m_pasts : Int32) : Option (Int32 × (Nat → Int32) × (Nat → Int32) × Int32) :=
  chk (inb 2 124) (chk (inb 1 124) (some (((upd m_s (2 : Int32).toNatClampNeg 0) (1 : Int32).toNatClampNeg), (upd m_s (2 : Int32).toNatClampNeg 0), m_past, m_pasts)))
def f_X8_removeEdge_b131 (N : Nat) : Nat → Int32 → (Nat → Int32) → (Nat → Int32) → Int32 → Option (Int32 × (Nat → Int32) × (Nat → Int32) × Int32)
  | 0 => fun _ _ _ _ => none
  | n + 1 => fun x2 m_s m_past m_pasts =>
  chk (inb 1 124) (if (m_s (1 : Int32).toNatClampNeg) ≤ x2 then f_X8_removeEdge_b185 N m_s m_past m_pasts
  else chk (inb ((3 + x2) + 1) 124) (chk (inb (3 + x2) 124) (chk (inb ((23 + x2) + 1) 124) (chk (inb (23 + x2) 124) ((f_X8_removeEdge_b131 N n) (x2 + 1) (upd (upd m_s (3 + x2).toNatClampNeg (m_s ((3 + x2) + 1).toNatClampNeg)) (23 + x2).toNatClampNeg ((upd m_s (3 + x2).toNatClampNeg (m_s ((3 + x2) + 1).toNatClampNeg)) ((23 + x2) + 1).toNatClampNeg)) m_past m_pasts)))))
def f_X8_removeEdge_b119 (N : Nat) (x1 : Int32) (m_s : Nat → Int32) (m_past : Nat → Int32) (m_pasts : Int32) : Option (Int32 × (Nat → Int32) × (Nat → Int32) × Int32) :=
  chk (inb 1 124) (chk (inb 1 124) (f_X8_removeEdge_b131 N N x1 (upd m_s (1 : Int32).toNatClampNeg ((m_s (1 : Int32).toNatClampNeg) - 1)) m_past m_pasts))
def f_X8_removeEdge_b103 (N : Nat) (k16 : Int32 → Int32 → (Nat → Int32) → (Nat → Int32) → Int32 → Option (Int32 × (Nat → Int32) × (Nat → Int32) × Int32)) (x1 : Int32) (x2 : Int32) (x3 : Int32) (m_s : Nat → Int32) (m_past : Nat → Int32) (m_pasts : Int32) : Option (Int32 × (Nat → Int32) × (Nat → Int32) × Int32) :=
  chk (inb (43 + x2) 124) (k16 x1 (x2 + 1) (upd m_s (43 + x2).toNatClampNeg x3) m_past m_pasts)
def f_X8_removeEdge_b95 (N : Nat) (k16 : Int32 → Int32 → (Nat → Int32) → (Nat → Int32) → Int32 → Option (Int32 × (Nat → Int32) × (Nat → Int32) × Int32)) (k31 : Int32 → Int32 → Int32 → Int32 → (Nat → Int32) → (Nat → Int32) → Int32 → Option (Int32 × (Nat → Int32) × (Nat → Int32) × Int32)) (x1 : Int32) (x2 : Int32) (x4 : Int32) (y0 : Int32) (y1 : Int32) (m_s : Nat → Int32) (m_past : Nat → Int32) (m_pasts : Int32) : Option (Int32 × (Nat → Int32) × (Nat → Int32) × Int32) :=
  nm ((y0 + y1)) fun x3_12 =>
  k31 x1 x2 x3_12 (x4 + 1) m_s m_past m_pasts
def f_X8_removeEdge_b82 (N : Nat) (k16 : Int32 → Int32 → (Nat → Int32) → (Nat → Int32) → Int32 → Option (Int32 × (Nat → Int32) × (Nat → Int32) × Int32)) (k31 : Int32 → Int32 → Int32 → Int32 → (Nat → Int32) → (Nat → Int32) → Int32 → Option (Int32 × (Nat → Int32) × (Nat → Int32) × Int32)) (x1 : Int32) (x2 : Int32) (x3 : Int32) (x4 : Int32) (x5 : Int32) (y1 : Int32) (y2 : Int32) (m_s : Nat → Int32) (m_past : Nat → Int32) (m_pasts : Int32) : Option (Int32 × (Nat → Int32) × (Nat → Int32) × Int32) :=
  chk (inb y1 124) (if ¬ x5 = x1 then f_X8_removeEdge_b95 N k16 k31 x1 x2 x4 x3 1 (upd m_s y1.toNatClampNeg y2) m_past m_pasts
  else f_X8_removeEdge_b95 N k16 k31 x1 x2 x4 x3 0 (upd m_s y1.toNatClampNeg y2) m_past m_pasts)
def f_X8_removeEdge_b31 (N : Nat) (k16 : Int32 → Int32 → (Nat → Int32) → (Nat → Int32) → Int32 → Option (Int32 × (Nat → Int32) × (Nat → Int32) × Int32)) : Nat → Int32 → Int32 → Int32 → Int32 → (Nat → Int32) → (Nat → Int32) → Int32 → Option (Int32 × (Nat → Int32) × (Nat → Int32) × Int32)
  | 0 => fun _ _ _ _ _ _ _ => none
  | n + 1 => fun x1 x2 x3 x4 m_s m_past m_pasts =>
  chk (inb (43 + x2) 124) (if (m_s (43 + x2).toNatClampNeg) ≤ x4 then f_X8_removeEdge_b103 N k16 x1 x2 x3 m_s m_past m_pasts
  else bd1 (f_X8_turn N m_s x2 x4) fun r_8 =>
  if r_8 ≤ x1 then f_X8_removeEdge_b82 N k16 (f_X8_removeEdge_b31 N k16 n) x1 x2 x3 x4 r_8 ((52 + (8 * x2)) + x3) r_8 m_s m_past m_pasts
  else f_X8_removeEdge_b82 N k16 (f_X8_removeEdge_b31 N k16 n) x1 x2 x3 x4 r_8 ((52 + (8 * x2)) + x3) (r_8 - 1) m_s m_past m_pasts)
def f_X8_removeEdge_b16 (N : Nat) : Nat → Int32 → Int32 → (Nat → Int32) → (Nat → Int32) → Int32 → Option (Int32 × (Nat → Int32) × (Nat → Int32) × Int32)
  | 0 => fun _ _ _ _ _ => none
  | n + 1 => fun x1 x2 m_s m_past m_pasts =>
  chk (inb 0 124) (if (m_s (0 : Int32).toNatClampNeg) ≤ x2 then f_X8_removeEdge_b119 N x1 m_s m_past m_pasts
  else f_X8_removeEdge_b31 N (f_X8_removeEdge_b16 N n) N x1 x2 0 0 m_s m_past m_pasts)
def f_X8_removeEdge (N : Nat) (m_s : Nat → Int32) (m_past : Nat → Int32) (m_pasts : Int32) (p1 : Int32) : Option (Int32 × (Nat → Int32) × (Nat → Int32) × Int32) :=
  bd1 (f_X8_isEdge N m_s p1) fun r_1 =>
  if ¬ r_1 = 0 then bd1 (f_X8_notes N m_s m_past m_pasts) fun r_3 =>
  f_X8_removeEdge_b16 N N p1 0 m_s r_3.1 r_3.2
  else some ((-1), m_s, m_past, m_pasts)
def f_X8_rotation (N : Nat) (m_s : Nat → Int32) (p1 : Int32) (p2 : Int32) : Option (Int32) :=
  bd1 (f_X8_isNode N m_s p1) fun r_1 =>
  if r_1 = 0 then some (-1)
  else if 0 ≤ p2 then chk (inb (43 + p1) 124) (if (m_s (43 + p1).toNatClampNeg) ≤ p2 then some (-9)
  else bd1 (f_X8_turn N m_s p1 p2) fun r_6 =>
  some r_6)
  else some (-1)
def f_X8_setNodes (N : Nat) (m_s : Nat → Int32) (m_past : Nat → Int32) (m_pasts : Int32) (p1 : Int32) : Option (Int32 × (Nat → Int32) × (Nat → Int32) × Int32) :=
  bd1 (f_X8_in N p1 2 9) fun r_1 =>
  if ¬ r_1 = 0 then bd1 (f_X8_notes N m_s m_past m_pasts) fun r_3 =>
  chk (inb 0 124) (nm ((m_s (0 : Int32).toNatClampNeg)) fun x2_5 =>
  bd1 (f_X8_empties N m_s p1) fun r_6 =>
  some (x2_5, r_6, r_3.1, r_3.2))
  else some ((-1), m_s, m_past, m_pasts)
def f_X8_setOuter (N : Nat) (m_s : Nat → Int32) (m_past : Nat → Int32) (m_pasts : Int32) (m_faceOfSide : Nat → Int32) (m_firstSide : Nat → Int32) (m_faces : Int32) (p1 : Int32) : Option (Int32 × (Nat → Int32) × (Nat → Int32) × Int32 × (Nat → Int32) × (Nat → Int32) × Int32) :=
  bd1 (f_X8_walks N m_s m_faceOfSide m_firstSide m_faces) fun r_1 =>
  bd1 (f_X8_in N p1 0 (r_1.2.2 - 1)) fun r_2 =>
  if ¬ r_2 = 0 then bd1 (f_X8_notes N m_s m_past m_pasts) fun r_4 =>
  chk (inb 2 124) (nm ((m_s (2 : Int32).toNatClampNeg)) fun x2_6 =>
  chk (inb 2 124) (some (x2_6, (upd m_s (2 : Int32).toNatClampNeg p1), r_4.1, r_4.2, r_1.1, r_1.2.1, r_1.2.2)))
  else some ((-1), m_s, m_past, m_pasts, r_1.1, r_1.2.1, r_1.2.2)
def f_X8_swap (N : Nat) (m_s : Nat → Int32) (m_past : Nat → Int32) (m_pasts : Int32) (m_faceOfSide : Nat → Int32) (m_firstSide : Nat → Int32) (m_faces : Int32) (p1 : Int32) (p2 : Int32) (p3 : Int32) : Option (Int32 × (Nat → Int32) × (Nat → Int32) × Int32 × (Nat → Int32) × (Nat → Int32) × Int32) :=
  bd1 (f_X8_isNode N m_s p1) fun r_1 =>
  if r_1 = 0 then some ((-1), m_s, m_past, m_pasts, m_faceOfSide, m_firstSide, m_faces)
  else bd1 (f_X8_isAt N m_s p2 p1) fun r_3 =>
  if r_3 = 0 then some ((-1), m_s, m_past, m_pasts, m_faceOfSide, m_firstSide, m_faces)
  else bd1 (f_X8_isAt N m_s p3 p1) fun r_5 =>
  if ¬ r_5 = 0 then bd1 (f_X8_notes N m_s m_past m_pasts) fun r_7 =>
  bd1 (f_X8_place N m_s p1 p2) fun r_8 =>
  bd1 (f_X8_place N m_s p1 p3) fun r_9 =>
  chk (inb ((52 + (8 * p1)) + r_8) 124) (chk (inb ((52 + (8 * p1)) + r_9) 124) (chk (inb 2 124) (bd1 (f_X8_genus N (upd (upd (upd m_s ((52 + (8 * p1)) + r_8).toNatClampNeg p3) ((52 + (8 * p1)) + r_9).toNatClampNeg p2) (2 : Int32).toNatClampNeg 0) m_faceOfSide m_firstSide m_faces) fun r_13 =>
  if ¬ r_13.1 = 0 then some (0, (upd (upd (upd m_s ((52 + (8 * p1)) + r_8).toNatClampNeg p3) ((52 + (8 * p1)) + r_9).toNatClampNeg p2) (2 : Int32).toNatClampNeg 0), r_7.1, r_7.2, r_13.2.1, r_13.2.2.1, r_13.2.2.2)
  else some (1, (upd (upd (upd m_s ((52 + (8 * p1)) + r_8).toNatClampNeg p3) ((52 + (8 * p1)) + r_9).toNatClampNeg p2) (2 : Int32).toNatClampNeg 0), r_7.1, r_7.2, r_13.2.1, r_13.2.2.1, r_13.2.2.2))))
  else some ((-1), m_s, m_past, m_pasts, m_faceOfSide, m_firstSide, m_faces)
def f_X8_undo_b22 (N : Nat) (m_past : Nat → Int32) : Nat → Int32 → (Nat → Int32) → Int32 → Option (Int32 × (Nat → Int32) × Int32)
  | 0 => fun _ _ _ => none
  | n + 1 => fun x1 m_s m_pasts =>
  if 124 ≤ x1 then some (m_pasts, m_s, m_pasts)
  else chk (inb ((124 * m_pasts) + x1) 744) (chk (inb x1 124) ((f_X8_undo_b22 N m_past n) (x1 + 1) (upd m_s x1.toNatClampNeg (m_past ((124 * m_pasts) + x1).toNatClampNeg)) m_pasts))
def f_X8_undo (N : Nat) (m_s : Nat → Int32) (m_past : Nat → Int32) (m_pasts : Int32) : Option (Int32 × (Nat → Int32) × Int32) :=
  if ¬ m_pasts = 0 then f_X8_undo_b22 N m_past N 0 m_s (m_pasts - 1)
  else some ((-2), m_s, m_pasts)
def f_X8_walk_b46 (N : Nat) (m_s : Nat → Int32) : Nat → Int32 → Int32 → Int32 → (Nat → Int32) → (Nat → Int32) → Int32 → Option (Int32 × (Nat → Int32) × (Nat → Int32) × Int32)
  | 0 => fun _ _ _ _ _ _ => none
  | n + 1 => fun x2 x3 x4 m_faceOfSide m_firstSide m_faces =>
  if x2 ≤ x4 then some (x3, m_faceOfSide, m_firstSide, m_faces)
  else bd1 (f_X8_follows N m_s x3) fun r_10 =>
  (f_X8_walk_b46 N m_s n) x2 r_10 (x4 + 1) m_faceOfSide m_firstSide m_faces
def f_X8_walk (N : Nat) (m_s : Nat → Int32) (m_faceOfSide : Nat → Int32) (m_firstSide : Nat → Int32) (m_faces : Int32) (p1 : Int32) (p2 : Int32) : Option (Int32 × (Nat → Int32) × (Nat → Int32) × Int32) :=
  bd1 (f_X8_walks N m_s m_faceOfSide m_firstSide m_faces) fun r_1 =>
  bd1 (f_X8_in N p1 0 (r_1.2.2 - 1)) fun r_2 =>
  if r_2 = 0 then some ((-1), r_1.1, r_1.2.1, r_1.2.2)
  else if 0 ≤ p2 then bd1 (f_X8_lengthOf N m_s r_1.1 p1) fun r_5 =>
  if p2 < r_5 then chk (inb p1 40) (nm ((r_1.2.1 p1.toNatClampNeg)) fun x3_8 =>
  f_X8_walk_b46 N m_s N p2 x3_8 0 r_1.1 r_1.2.1 r_1.2.2)
  else some ((-9), r_1.1, r_1.2.1, r_1.2.2)
  else some ((-1), r_1.1, r_1.2.1, r_1.2.2)
