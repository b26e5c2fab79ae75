/-! ===== counting bits up to 20; face ===== -/
theorem nx_and (a b : Nat) : nI a &&& nI b = nI (a &&& b) := by
  apply Int32.toBitVec_inj.1
  show BitVec.ofNat 32 a &&& BitVec.ofNat 32 b = BitVec.ofNat 32 (a &&& b)
  apply BitVec.eq_of_getLsbD_eq
  intro i hi
  rw [BitVec.getLsbD_and, BitVec.getLsbD_ofNat, BitVec.getLsbD_ofNat, BitVec.getLsbD_ofNat, Nat.testBit_and]
  simp [hi]
theorem and_sp {k a b c d : Nat} (ha : a < 2 ^ k) (hc : c < 2 ^ k) : (2 ^ k * b + a) &&& (2 ^ k * d + c) = 2 ^ k * (b &&& d) + (a &&& c) := by
  have hac : a &&& c < 2 ^ k := Nat.lt_of_le_of_lt Nat.and_le_left ha
  refine Nat.eq_of_testBit_eq (fun i => ?_)
  rw [Nat.testBit_and, Nat.testBit_two_pow_mul_add _ ha, Nat.testBit_two_pow_mul_add _ hc, Nat.testBit_two_pow_mul_add _ hac]
  by_cases h : i < k
  · rw [if_pos h, if_pos h, if_pos h, Nat.testBit_and]
  · rw [if_neg h, if_neg h, if_neg h, Nat.testBit_and]
def bq1 (d : Nat) : Nat := d - (d / 2 &&& 0x55)
def bq2 (e : Nat) : Nat := (e &&& 0x33) + (e / 4 &&& 0x33)
def bn1 (n : Nat) : Nat := n - (n / 2 &&& 0x55555555)
def bn2 (n : Nat) : Nat := (n &&& 0x33333333) + (n / 4 &&& 0x33333333)
def bn3 (n : Nat) : Nat := (n + n / 16) &&& 0x0f0f0f0f
def bn6 (n : Nat) : Nat := ((n + n / 256) + (n + n / 256) / 65536) &&& 63
theorem byte_AA : ∀ d, d < 256 → d &&& 0xAA = 2 * (d / 2 &&& 0x55) := by decide +kernel
theorem byte_CC : ∀ d, d < 256 → d &&& 0xCC = 4 * (d / 4 &&& 0x33) := by decide +kernel
theorem nib_AA : ∀ d, d < 16 → d &&& 0xAAAA = 2 * (d / 2 &&& 0x55) := by decide +kernel
theorem nib_CC : ∀ d, d < 256 → d &&& 0xCCCC = 4 * (d / 4 &&& 0x33) := by decide +kernel
theorem nib_33 : ∀ d, d < 256 → d &&& 0x3333 = d &&& 0x33 := by decide +kernel
theorem bq1_le : ∀ d, d < 256 → d / 2 &&& 0x55 ≤ d := by decide +kernel
theorem bn1_sp {a b c : Nat} (ha : a < 256) (hb : b < 256) (hc : c < 16) : bn1 (65536 * c + (256 * b + a)) = 65536 * bq1 c + (256 * bq1 b + bq1 a) := by
  unfold bn1
  have e1 : (65536 * c + (256 * b + a)) / 2 = 2 ^ 7 * (256 * c + b) + a / 2 := by omega
  have e2 : (2 ^ 7 * (256 * c + b) + a / 2) &&& (2 ^ 7 * 0xAAAAAA + 0x55) = 2 ^ 7 * ((256 * c + b) &&& 0xAAAAAA) + (a / 2 &&& 0x55) := and_sp (by omega) (by decide)
  have e3 : (2 ^ 8 * c + b) &&& (2 ^ 8 * 0xAAAA + 0xAA) = 2 ^ 8 * (c &&& 0xAAAA) + (b &&& 0xAA) := and_sp (by omega) (by decide)
  have e4 : (256 * c + b) &&& 0xAAAAAA = 256 * (2 * (c / 2 &&& 0x55)) + 2 * (b / 2 &&& 0x55) := by
    rw [← nib_AA c hc, ← byte_AA b hb]; exact e3
  rw [e1, show (0x55555555 : Nat) = 2 ^ 7 * 0xAAAAAA + 0x55 from by decide, e2, e4]
  have l1 := bq1_le a ha
  have l2 := bq1_le b hb
  have l3 := bq1_le c (by omega)
  unfold bq1
  omega
theorem bn2_sp {a b c : Nat} (ha : a < 256) (hb : b < 256) (hc : c < 256) : bn2 (65536 * c + (256 * b + a)) = 65536 * bq2 c + (256 * bq2 b + bq2 a) := by
  unfold bn2
  have e1 : (65536 * c + (256 * b + a)) / 4 = 2 ^ 6 * (256 * c + b) + a / 4 := by omega
  have e2 : (2 ^ 6 * (256 * c + b) + a / 4) &&& (2 ^ 6 * 0xCCCCCC + 0x33) = 2 ^ 6 * ((256 * c + b) &&& 0xCCCCCC) + (a / 4 &&& 0x33) := and_sp (by omega) (by decide)
  have e3 : (2 ^ 8 * c + b) &&& (2 ^ 8 * 0xCCCC + 0xCC) = 2 ^ 8 * (c &&& 0xCCCC) + (b &&& 0xCC) := and_sp (by omega) (by decide)
  have e4 : (256 * c + b) &&& 0xCCCCCC = 256 * (4 * (c / 4 &&& 0x33)) + 4 * (b / 4 &&& 0x33) := by
    rw [← nib_CC c hc, ← byte_CC b hb]; exact e3
  have e5 : (2 ^ 8 * (256 * c + b) + a) &&& (2 ^ 8 * 0x333333 + 0x33) = 2 ^ 8 * ((256 * c + b) &&& 0x333333) + (a &&& 0x33) := and_sp (by omega) (by decide)
  have e6 : (2 ^ 8 * c + b) &&& (2 ^ 8 * 0x3333 + 0x33) = 2 ^ 8 * (c &&& 0x3333) + (b &&& 0x33) := and_sp (by omega) (by decide)
  have e7 : (256 * c + b) &&& 0x333333 = 256 * (c &&& 0x33) + (b &&& 0x33) := by
    rw [← nib_33 c hc]; exact e6
  have e8 : (65536 * c + (256 * b + a)) &&& 0x33333333 = 256 * (256 * (c &&& 0x33) + (b &&& 0x33)) + (a &&& 0x33) := by
    rw [← e7, show 65536 * c + (256 * b + a) = 2 ^ 8 * (256 * c + b) + a from by omega]
    exact e5
  rw [e8, e1, show (0x33333333 : Nat) = 2 ^ 6 * 0xCCCCCC + 0x33 from by decide, e2, e4]
  unfold bq2
  omega
theorem bq_nib0 : ∀ d, d < 256 → bq2 (bq1 d) % 16 < 5 ∧ bq2 (bq1 d) / 16 < 5 ∧ bq2 (bq1 d) % 16 + bq2 (bq1 d) / 16 = fb_ct (fun k => d.testBit k) 8 := by decide +kernel
theorem bq_nib (d : Nat) (h : d < 256) : ∃ lo hi, lo < 5 ∧ hi < 5 ∧ bq2 (bq1 d) = 16 * hi + lo ∧ lo + hi = fb_ct (fun k => d.testBit k) 8 := by
  obtain ⟨h1, h2, h3⟩ := bq_nib0 d h
  exact ⟨_, _, h1, h2, by omega, h3⟩
theorem bq1_lt {d : Nat} (h : d < 256) : bq1 d < 256 := by
  unfold bq1
  omega
theorem bn36 : ∀ l0, l0 < 5 → ∀ h0, h0 < 5 → ∀ l1, l1 < 5 → ∀ h1, h1 < 5 → ∀ l2, l2 < 5 → ∀ h2, h2 < 5 → bn6 (bn3 (65536 * (16 * h2 + l2) + (256 * (16 * h1 + l1) + (16 * h0 + l0)))) = l0 + h0 + (l1 + h1) + (l2 + h2) := by decide +kernel
theorem ct_parts {a b c : Nat} (ha : a < 256) (hb : b < 256) : fb_ct (fun k => (65536 * c + (256 * b + a)).testBit k) 24 = fb_ct (fun k => a.testBit k) 8 + fb_ct (fun k => b.testBit k) 8 + fb_ct (fun k => c.testBit k) 8 := by
  have t : ∀ k, (65536 * c + (256 * b + a)).testBit k = if k < 16 then (if k < 8 then a.testBit k else b.testBit (k - 8)) else c.testBit (k - 16) := by
    intro k
    have q1 : (2 ^ 16 * c + (2 ^ 8 * b + a)).testBit k = _ := Nat.testBit_two_pow_mul_add c (b := 2 ^ 8 * b + a) (i := 16) (by omega) k
    have q2 : (2 ^ 8 * b + a).testBit k = _ := Nat.testBit_two_pow_mul_add b (b := a) (i := 8) (by omega) k
    rw [q2] at q1
    exact q1
  rw [show (24 : Nat) = 8 + 8 + 8 from rfl, fb_ct_split _ (8 + 8), fb_ct_split _ 8]
  have c1 : fb_ct (fun k => (65536 * c + (256 * b + a)).testBit k) 8 = fb_ct (fun k => a.testBit k) 8 := fb_ct_cong (fun k hk => by rw [t, if_pos (by omega), if_pos hk])
  have c2 : fb_ct (fun k => (65536 * c + (256 * b + a)).testBit (8 + k)) 8 = fb_ct (fun k => b.testBit k) 8 := fb_ct_cong (fun k hk => by rw [t, if_pos (by omega), if_neg (by omega), Nat.add_sub_cancel_left])
  have c3 : fb_ct (fun k => (65536 * c + (256 * b + a)).testBit (8 + 8 + k)) 8 = fb_ct (fun k => c.testBit k) 8 := fb_ct_cong (fun k hk => by rw [t, if_neg (by omega), show 8 + 8 + k - 16 = k from by omega])
  rw [c1, c2, c3]
theorem bc_20 {n : Nat} (h : n < 2 ^ 20) : bn6 (bn3 (bn2 (bn1 n))) = fb_ct (fun k => n.testBit k) 24 := by
  obtain ⟨a, b, c, ha, hb, hc, rfl⟩ : ∃ a b c, a < 256 ∧ b < 256 ∧ c < 16 ∧ n = 65536 * c + (256 * b + a) := ⟨n % 256, n / 256 % 256, n / 65536, by omega, by omega, by omega, by omega⟩
  rw [bn1_sp ha hb hc, bn2_sp (bq1_lt ha) (bq1_lt hb) (bq1_lt (by omega)), ct_parts ha hb]
  obtain ⟨l0, h0, a1, a2, a3, a4⟩ := bq_nib a ha
  obtain ⟨l1, h1, b1, b2, b3, b4⟩ := bq_nib b hb
  obtain ⟨l2, h2, c1, c2, c3, c4⟩ := bq_nib c (by omega)
  rw [a3, b3, c3, bn36 l0 a1 h0 a2 l1 b1 h1 b2 l2 c1 h2 c2, a4, b4, c4]
theorem bn_lt {n : Nat} (h : n < 2 ^ 20) : bn1 n < 2 ^ 20 ∧ bn2 (bn1 n) < 2 ^ 24 ∧ bn3 (bn2 (bn1 n)) < 2 ^ 28 := by
  have h1 : bn1 n < 2 ^ 20 := by unfold bn1; omega
  have h2 : bn2 (bn1 n) < 2 ^ 24 := by
    unfold bn2
    have q1 : bn1 n &&& 0x33333333 ≤ bn1 n := Nat.and_le_left
    have q2 : bn1 n / 4 &&& 0x33333333 ≤ bn1 n / 4 := Nat.and_le_left
    omega
  refine ⟨h1, h2, ?_⟩
  unfold bn3
  have q1 : (bn2 (bn1 n) + bn2 (bn1 n) / 16) &&& 0x0f0f0f0f ≤ bn2 (bn1 n) + bn2 (bn1 n) / 16 := Nat.and_le_left
  omega
theorem J6_bitN (N : Nat) {n : Nat} (h : n < 2 ^ 20) : f_J6_bitCount_0f7a4 N (nI n) = some (nI (fb_ct (fun k => n.testBit k) 24)) := by
  obtain ⟨h1, h2, h3⟩ := bn_lt h
  rw [← bc_20 h]
  unfold f_J6_bitCount_0f7a4 nm
  dsimp only
  have s1 : nI n - (((nI n).toUInt32 >>> ((1 : Int32).toUInt32 &&& Int32.toUInt32 31)).toInt32 &&& 1431655765) = nI (bn1 n) := by
    rw [pk_ushrN (by omega) 1 1 (by decide), show (1431655765 : Int32) = nI 0x55555555 from rfl, nx_and, pk_sub]
    · rfl
    · have : n / 2 ^ 1 &&& 0x55555555 ≤ n / 2 ^ 1 := Nat.and_le_left
      omega
  rw [s1]
  have s2 : (nI (bn1 n) &&& 858993459) + (((nI (bn1 n)).toUInt32 >>> ((2 : Int32).toUInt32 &&& Int32.toUInt32 31)).toInt32 &&& 858993459) = nI (bn2 (bn1 n)) := by
    rw [pk_ushrN (by omega) 2 2 (by decide), show (858993459 : Int32) = nI 0x33333333 from rfl, nx_and, nx_and, nI_add]
    rfl
  rw [s2]
  have s3 : (nI (bn2 (bn1 n)) + ((nI (bn2 (bn1 n))).toUInt32 >>> ((4 : Int32).toUInt32 &&& Int32.toUInt32 31)).toInt32) &&& 252645135 = nI (bn3 (bn2 (bn1 n))) := by
    rw [pk_ushrN (by omega) 4 4 (by decide), nI_add, show (252645135 : Int32) = nI 0x0f0f0f0f from rfl, nx_and]
    rfl
  rw [s3]
  generalize bn3 (bn2 (bn1 n)) = m at *
  have s4 : nI m + ((nI m).toUInt32 >>> ((8 : Int32).toUInt32 &&& Int32.toUInt32 31)).toInt32 = nI (m + m / 256) := by
    rw [pk_ushrN (by omega) 8 8 (by decide), nI_add]
  rw [s4]
  have s5 : nI (m + m / 256) + ((nI (m + m / 256)).toUInt32 >>> ((16 : Int32).toUInt32 &&& Int32.toUInt32 31)).toInt32 = nI ((m + m / 256) + (m + m / 256) / 65536) := by
    rw [pk_ushrN (by omega) 16 16 (by decide), nI_add]
  rw [s5, show (63 : Int32) = nI 63 from rfl, nx_and]
  rfl
theorem J6_bit20 (N : Nat) {x : Int32} (h : ∀ b, bt x b = true → b < 20) : f_J6_bitCount_0f7a4 N x = some (nI (fb_ct (bt x) 20)) := by
  obtain ⟨n, h1, h2, rfl⟩ := b_small h
  rw [J6_bitN N h1]
  congr 2
  rw [show (24 : Nat) = 20 + 4 from rfl, ct_ext]
  · exact fb_ct_cong (fun k _ => (bt_nI h2 k).symm)
  · intro k hk _
    rw [← bt_nI h2 k]
    cases hb : bt (nI n) k with
    | false => rfl
    | true => have := h k hb; omega
/-! longs as sets -/
def bl (x : Int64) (i : Nat) : Bool := x.toBitVec.getLsbD i
theorem l_or (x y : Int64) (i : Nat) : bl (x ||| y) i = (bl x i || bl y i) := by unfold bl; rw [Int64.toBitVec_or, BitVec.getLsbD_or]
theorem l_and (x y : Int64) (i : Nat) : bl (x &&& y) i = (bl x i && bl y i) := by unfold bl; rw [Int64.toBitVec_and, BitVec.getLsbD_and]
theorem l_xor (x y : Int64) (i : Nat) : bl (x ^^^ y) i = (bl x i ^^ bl y i) := by unfold bl; rw [Int64.toBitVec_xor, BitVec.getLsbD_xor]
theorem l_big {x : Int64} {i : Nat} (h : 64 ≤ i) : bl x i = false := BitVec.getLsbD_of_ge _ _ h
theorem l_0 (i : Nat) : bl 0 i = false := BitVec.getLsbD_zero
theorem l_m1 : ∀ i, i < 64 → bl (-1) i = true := by decide +kernel
theorem l_bit0 : ∀ k, k < 40 → ∀ i, i < 64 → bl ((1 : Int64) <<< ((nI k).toInt64 &&& 63)) i = decide (i = k) := by decide +kernel
theorem l_bit {k : Nat} (hk : k < 40) (i : Nat) : bl ((1 : Int64) <<< ((nI k).toInt64 &&& 63)) i = decide (i = k) := by
  rcases Nat.lt_or_ge i 64 with h | h
  · exact l_bit0 k hk i h
  · rw [l_big h, decide_eq_false (by omega)]
theorem lN_all (x : Int64) : x = lN x.toBitVec.toNat := Int64.toBitVec_inj.mp (by show _ = BitVec.ofNat 64 _; simp)
theorem X8_bitsL (N : Nat) (hN : 100 < N) {x : Int64} (h : ∀ b, bl x b = true → b < 40) : f_X8_bits N x = some (nI (fb_ct (bl x) 40)) := by
  have h1 : x.toBitVec.toNat < 2 ^ 40 := Nat.lt_pow_two_of_testBit _ (fun i hi => by
    cases hb : x.toBitVec.toNat.testBit i with
    | false => rfl
    | true =>
      have := h i (by unfold bl; rw [← BitVec.testBit_toNat]; exact hb)
      omega)
  have h2 := X8_bits N hN (a := x.toBitVec.toNat) (by omega)
  rw [← lN_all x] at h2
  rw [h2]
  rfl
section FACE
variable {G : Gr}
/-- a face has two directed edges at least: at most 20 faces -/
theorem per_2 (hW : WF G) {s : Nat} (h : s < 2 * (gE G).length) : 2 ≤ per G s := by
  obtain ⟨⟨p1, p2⟩, -⟩ := per_sp hW h
  rcases Nat.lt_or_ge 1 (per G s) with q | q
  · exact q
  · have : per G s = 1 := by omega
    rw [this] at p2
    exact absurd p2 (nx_ne hW h)
theorem ct_sum (p : Nat → Nat) (k c : Nat) : ∀ n, (∀ f, f < k → c ≤ fb_ct (fun d => decide (p d = f)) n) → k * c ≤ fb_ct (fun d => decide (p d < k)) n := by
  induction k with
  | zero => intro n _; rw [Nat.zero_mul]; exact Nat.zero_le _
  | succ k ih =>
    intro n h
    have h1 := ih n (fun f hf => h f (by omega))
    have h2 := h k (by omega)
    have h3 : fb_ct (fun d => decide (p d < k + 1)) n = fb_ct (fun d => decide (p d < k)) n + fb_ct (fun d => decide (p d = k)) n := by
      rw [← fb_ct_or (p := fun d => decide (p d < k)) (q := fun d => decide (p d = k))]
      · refine fb_ct_cong (fun d _ => ?_)
        by_cases c1 : p d < k
        · rw [decide_eq_true c1, decide_eq_true (by omega : p d < k + 1)]; rfl
        · by_cases c2 : p d = k
          · rw [decide_eq_false c1, decide_eq_true c2, decide_eq_true (by omega : p d < k + 1)]; rfl
          · rw [decide_eq_false c1, decide_eq_false c2, decide_eq_false (by omega : ¬ p d < k + 1)]; rfl
      · intro d _
        rw [decide_eq_true_eq, decide_eq_true_eq]
        omega
    rw [h3, Nat.succ_mul]
    omega
theorem nF_20 (hW : WF G) : nF G ≤ 20 := by
  have h20 := hW.2.2.1
  have h := ct_sum (lab G) (nF G) 2 (2 * (gE G).length) (fun f hf => by
    rw [per_lab hW hf]
    exact per_2 hW (fst_sp hf).1)
  have := fb_ct_le (fun d => decide (lab G d < nF G)) (2 * (gE G).length)
  omega
/-- other faces at a face -/
def nbF (G : Gr) (f g : Nat) : Prop := ∃ d, d < 2 * (gE G).length ∧ lab G d = f ∧ lab G (op d) = g ∧ g ≠ f
theorem X0_countN (hW : WF G) {t : TF} (hF : FR G t) (N : Nat) (hN : 100 < N) {f : Nat} (hf : f < nF G) : Ok (f_X0_countNeighbours N t.2.2.2.2.1 (nI (gE G).length) (nI f)) (fun r => ∃ x : Int32, (∀ b, bt x b = true ↔ nbF G f b) ∧ r = nI (fb_ct (bt x) 20)) := by
  have h20 := hW.2.2.1
  have hnf := nF_20 hW
  have ho := hF.2.2.2.2.1
  unfold f_X0_countNeighbours
  refine lpU (fun n i x => f_X0_countNeighbours_b5 N t.2.2.2.2.1 (nI (gE G).length) n (nI f) x (nI i)) (fun i x => ∀ b, bt x b = true ↔ ∃ d, d < i ∧ lab G d = f ∧ lab G (op d) = b ∧ b ≠ f) (2 * (gE G).length) ?_ ?_ N 0 0 (Nat.zero_le _) (by omega) (fun b => by rw [b_0]; exact ⟨fun q => absurd q (by decide), fun ⟨e, q, _⟩ => absurd q (Nat.not_lt_zero e)⟩)
  · intro n x hI
    simp only [f_X0_countNeighbours_b5, f_X0_countNeighbours_b61]
    rw [two_nI]
    refine Ok_ife (nI_leI (by omega) (by omega)) (fun _ => ?_) (fun c => absurd (Nat.le_refl _) c)
    rw [J6_bit20 N (fun b hb => by
      obtain ⟨d, q1, q2, q3, q4⟩ := (hI b).mp hb
      have := lab_lt hW (op_lt q1)
      omega)]
    exact Ok_bd1.mpr (Ok_some.mpr (Ok_some.mpr ⟨x, hI, rfl⟩))
  · intro n i x hi hI ih
    have hl := lab_lt hW hi
    have ho2 := op_lt hi
    have hl2 := lab_lt hW ho2
    simp only [f_X0_countNeighbours_b5, f_X0_countNeighbours_b55]
    rw [two_nI, nI_op i (by omega), nI_clamp (by omega), nI_clamp (by omega), ho i hi, ho _ ho2, X7_bit, nI_1]
    have keep : (¬ (lab G i = f ∧ lab G (op i) ≠ f)) → ∀ b, bt x b = true ↔ ∃ d, d < i + 1 ∧ lab G d = f ∧ lab G (op d) = b ∧ b ≠ f := by
      intro c b
      rw [hI b]
      constructor
      · rintro ⟨d, q1, q2⟩; exact ⟨d, by omega, q2⟩
      · rintro ⟨d, q1, q2, q3, q4⟩
        rcases Nat.lt_or_ge d i with q | q
        · exact ⟨d, q, q2, q3, q4⟩
        · obtain rfl : d = i := by omega
          exact absurd ⟨q2, by rw [q3]; exact q4⟩ c
    refine Ok_ife (nI_leI (by omega) (by omega)) (fun c => absurd c (by omega)) (fun _ => Ok_chk.mpr ⟨inb_nI (by omega) (by decide), ?_⟩)
    by_cases c : lab G i = f
    · rw [if_neg (by rw [c]; exact fun q => q rfl)]
      refine Ok_chk.mpr ⟨inb_nI (by omega) (by decide), Ok_ife (nI_eq (by omega) (by omega)) (fun c2 => ih _ (keep (fun q => q.2 c2))) (fun c2 => Ok_chk.mpr ⟨inb_nI (by omega) (by decide), Ok_bd1.mpr (Ok_some.mpr (Ok_nm.mpr (ih _ (fun b => ?_))))⟩)⟩
      rw [b_or, Bool.or_eq_true, hI b, b_bit (by omega), decide_eq_true_eq]
      constructor
      · rintro (⟨d, q1, q2⟩ | q)
        · exact ⟨d, by omega, q2⟩
        · exact ⟨i, by omega, c, q.symm, by rw [q]; exact c2⟩
      · rintro ⟨d, q1, q2, q3, q4⟩
        rcases Nat.lt_or_ge d i with q | q
        · exact Or.inl ⟨d, q, q2, q3, q4⟩
        · obtain rfl : d = i := by omega
          exact Or.inr q3.symm
    · rw [if_pos (fun q => c ((nI_eq (by omega) (by omega)).mp q))]
      exact ih _ (keep (fun q => c q.1))
theorem X8_besides (hW : WF G) {s : Nat → Int32} (hR : RM G s) {fo : Nat → Int32} (ho : ∀ d, d < 2 * (gE G).length → fo d = nI (lab G d)) (N : Nat) (hN : 100 < N) {f : Nat} (hf : f < nF G) : Ok (f_X8_besides N s fo (nI f)) (fun r => ∃ x : Int64, (∀ b, bl x b = true ↔ nbF G f b) ∧ r = nI (fb_ct (bl x) 40)) := by
  have h20 := hW.2.2.1
  have hnf := nF_20 hW
  unfold f_X8_besides
  refine Ok_nm.mpr ?_
  refine lpU (fun n i x => f_X8_besides_b5 N s fo n (nI f) x (nI i)) (fun i x => ∀ b, bl x b = true ↔ ∃ d, d < i ∧ lab G d = f ∧ lab G (op d) = b) (2 * (gE G).length) ?_ ?_ N 0 0 (Nat.zero_le _) (by omega) (fun b => by rw [l_0]; exact ⟨fun q => absurd q (by decide), fun ⟨e, q, _⟩ => absurd q (Nat.not_lt_zero e)⟩)
  · intro n x hI
    simp only [f_X8_besides_b5, f_X8_besides_b53]
    rw [show (1 : Int32).toNatClampNeg = 1 from rfl, hR.2.1, two_nI]
    refine Ok_chk.mpr ⟨by decide, Ok_ife (nI_leI (by omega) (by omega)) (fun _ => ?_) (fun c => absurd (Nat.le_refl _) c)⟩
    have hx : ∀ b, bl (x &&& (((1 : Int64) <<< ((nI f).toInt64 &&& 63)) ^^^ (-1 : Int64))) b = true ↔ nbF G f b := by
      intro b
      rw [l_and, Bool.and_eq_true, hI b]
      constructor
      · rintro ⟨⟨d, q1, q2, q3⟩, q4⟩
        refine ⟨d, q1, q2, q3, fun q => ?_⟩
        rw [l_xor, l_bit (by omega), l_m1 b (by omega), decide_eq_true q] at q4
        cases q4
      · rintro ⟨d, q1, q2, q3, q4⟩
        refine ⟨⟨d, q1, q2, q3⟩, ?_⟩
        have := lab_lt hW (op_lt q1)
        rw [l_xor, l_bit (by omega), l_m1 b (by omega), decide_eq_false q4]
        rfl
    rw [X8_bitsL N hN (fun b hb => by
      obtain ⟨d, q1, q2, q3, q4⟩ := (hx b).mp hb
      have := lab_lt hW (op_lt q1)
      omega)]
    exact Ok_bd1.mpr (Ok_some.mpr (Ok_some.mpr ⟨_, hx, rfl⟩))
  · intro n i x hi hI ih
    have hl := lab_lt hW hi
    have ho2 := op_lt hi
    have hl2 := lab_lt hW ho2
    simp only [f_X8_besides_b5, f_X8_besides_b45]
    rw [show (1 : Int32).toNatClampNeg = 1 from rfl, hR.2.1, two_nI, nI_op i (by omega), nI_clamp (by omega), nI_clamp (by omega), ho i hi, ho _ ho2, nI_1]
    refine Ok_chk.mpr ⟨by decide, Ok_ife (nI_leI (by omega) (by omega)) (fun c => absurd c (by omega)) (fun _ => Ok_chk.mpr ⟨inb_nI (by omega) (by decide), ?_⟩)⟩
    by_cases c : lab G i = f
    · rw [if_neg (by rw [c]; exact fun q => q rfl)]
      refine Ok_chk.mpr ⟨inb_nI (by omega) (by decide), Ok_nm.mpr (ih _ (fun b => ?_))⟩
      rw [l_or, Bool.or_eq_true, hI b, l_bit (by omega), decide_eq_true_eq]
      constructor
      · rintro (⟨d, q1, q2⟩ | q)
        · exact ⟨d, by omega, q2⟩
        · exact ⟨i, by omega, c, q.symm⟩
      · rintro ⟨d, q1, q2, q3⟩
        rcases Nat.lt_or_ge d i with q | q
        · exact Or.inl ⟨d, q, q2, q3⟩
        · obtain rfl : d = i := by omega
          exact Or.inr q3.symm
    · rw [if_pos (fun q => c ((nI_eq (by omega) (by omega)).mp q))]
      refine Ok_nm.mpr (ih _ (fun b => ?_))
      rw [l_or, l_0, Bool.or_false, hI b]
      constructor
      · rintro ⟨d, q1, q2⟩; exact ⟨d, by omega, q2⟩
      · rintro ⟨d, q1, q2, q3⟩
        rcases Nat.lt_or_ge d i with q | q
        · exact ⟨d, q, q2, q3⟩
        · obtain rfl : d = i := by omega
          exact absurd q2 c
theorem ok_face (N : Nat) (hN : 1000 < N) : OK_face Inv N := by
  intro x m p1 p2 hi
  obtain ⟨G, n, hs, l, cs, hS, hX, hF, hH, hT, hM, hHM, hTM⟩ := hi
  have hW := hS.1
  have hnf := nF_20 hW
  refine OK_mk ?_
  unfold f_X7_face f_X8_face
  rw [X0_exists hW hF]
  refine Ok_bd1.mpr (Ok_some.mpr (Ok_sw.mpr (Ok_bd1.mpr (Ok_mono (X8_walks hW hM N (by omega) _ _ _) ?_))))
  rintro ⟨fo, fs, nf⟩ hb
  dsimp only at hb ⊢
  have hsame : Inv x (m.1, m.2.1, m.2.2.1, m.2.2.2.1, m.2.2.2.2.1, fo, fs, nf, m.2.2.2.2.2.2.2.2) := ⟨G, n, hs, l, cs, hS, hX, hF, hH, hT, hM, hHM, hTM⟩
  rw [show f_X8_in N p1 0 (nf - 1) = some (bI (inb p1 (nF G))) from by rw [hb.2.2]; exact X8_in0 N _ (by omega) p1, X8_inI]
  refine Ok_bd1.mpr (Ok_some.mpr (Ok_sw.mpr ?_))
  cases hp : inb p1 (nF G) with
  | false =>
    rw [if_neg (fun q => q bF0), if_pos bF0]
    exact Ok_some.mpr (Ok_some.mpr (OK_end rfl hsame))
  | true =>
    obtain ⟨f, hf, rfl⟩ := inb_of hp (by omega)
    rw [if_pos bT0, if_neg bT0]
    refine Ok_sw.mpr (Ok_bd1.mpr (Ok_some.mpr (Ok_sw.mpr ?_)))
    rw [nI_clamp (by omega)]
    have hin : inb (nI f) 40 = true := inb_nI (by omega) (by decide)
    by_cases c0 : p2 = 0
    · subst c0
      rw [if_pos rfl, if_neg (by decide : ¬ (0 : Int32) < 0), if_neg (by decide : ¬ (3 : Int32) < 0), if_pos i10, if_neg i00, X8_lengthOf hW hM hb.1 N (by omega) hf, hF.2.2.2.2.2.2.1 f hf]
      exact Ok_chk.mpr ⟨hin, Ok_some.mpr (Ok_bd1.mpr (Ok_some.mpr (Ok_some.mpr (OK_end rfl hsame))))⟩
    rw [if_neg c0]
    by_cases c1 : p2 = 1
    · subst c1
      rw [if_pos rfl, if_neg (by decide : ¬ (1 : Int32) < 0), if_neg (by decide : ¬ (3 : Int32) < 1), if_pos i10, if_pos c0, if_neg (fun q => q rfl), X8_nodesOn hW hM hb.1 N (by omega) (by omega), FR_ns hF hf]
      have hb9 : ∀ b, bt (nsI G f) b = true → b < 9 := fun b hbb => by
        have := NS_lt hW ((ns_sp hW f b).mp hbb)
        have := hW.2.1
        omega
      rw [J6_bitCount N hb9]
      refine Ok_chk.mpr ⟨hin, Ok_bd1.mpr (Ok_some.mpr (Ok_some.mpr (Ok_bd1.mpr (Ok_some.mpr ?_))))⟩
      rw [X8_bitsI N (by omega) hb9]
      exact Ok_bd1.mpr (Ok_some.mpr (Ok_some.mpr (OK_end rfl hsame)))
    rw [if_neg c1]
    by_cases c2 : p2 = 2
    · subst c2
      rw [if_pos rfl, if_neg (by decide : ¬ (2 : Int32) < 0), if_neg (by decide : ¬ (3 : Int32) < 2), if_pos i10, if_pos c0, if_pos c1, if_neg (fun q => q rfl), hb.2.1 f hf, hF.2.2.2.2.2.1 f hf]
      exact Ok_chk.mpr ⟨hin, Ok_some.mpr (Ok_chk.mpr ⟨hin, Ok_some.mpr (OK_end rfl hsame)⟩)⟩
    rw [if_neg c2]
    by_cases c3 : p2 = 3
    · subst c3
      have x2 := hX.2.1
      rw [if_pos rfl, if_neg (by decide : ¬ (3 : Int32) < 0), if_neg (by decide : ¬ (3 : Int32) < 3), if_pos i10, if_pos c0, if_pos c1, if_pos c2, x2]
      refine Ok_bd1.mpr (Ok_mono (X0_countN hW hF N (by omega) hf) ?_)
      rintro r ⟨y, hy, rfl⟩
      refine Ok_some.mpr (Ok_bd1.mpr (Ok_mono (X8_besides hW hM hb.1 N (by omega) hf) ?_))
      rintro r2 ⟨z, hz, rfl⟩
      refine Ok_some.mpr (OK_end ?_ hsame)
      show nI (fb_ct (bl z) 40) = nI (fb_ct (bt y) 20)
      congr 1
      rw [show (40 : Nat) = 20 + 20 from rfl, ct_ext]
      · refine fb_ct_cong (fun k _ => ?_)
        cases hyk : bt y k with
        | true => exact (hz k).mpr ((hy k).mp hyk)
        | false =>
          cases hzk : bl z k with
          | false => rfl
          | true => rw [(hy k).mpr ((hz k).mp hzk)] at hyk; cases hyk
      · intro k hk _
        cases hzk : bl z k with
        | false => rfl
        | true =>
          obtain ⟨d, q1, q2, q3, q4⟩ := (hz k).mp hzk
          have := lab_lt hW (op_lt q1)
          omega
    rw [if_neg c3]
    have hz : (if p2 < 0 then (0 : Int32) else if 3 < p2 then 0 else 1) = 0 := by
      by_cases d1 : p2 < 0
      · rw [if_pos d1]
      · rw [if_neg d1]
        by_cases d2 : 3 < p2
        · rw [if_pos d2]
        · exfalso
          obtain ⟨k, hk, rfl⟩ := nI_of d1
          have d3 : k ≤ 3 := (nI_leI (b := 3) hk (by decide)).mp (i_nlt.mp d2)
          have : k = 0 ∨ k = 1 ∨ k = 2 ∨ k = 3 := by omega
          rcases this with rfl | rfl | rfl | rfl
          · exact c0 rfl
          · exact c1 rfl
          · exact c2 rfl
          · exact c3 rfl
    rw [hz, if_neg i00]
    exact Ok_some.mpr (Ok_some.mpr (OK_end rfl hsame))
end FACE
