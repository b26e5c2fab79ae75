/-! ===== the faces of the class ===== -/
theorem lpU5 {σ σ2 σ3 σ4 σ5 β : Type} {Q : β → Prop} (F : Nat → Nat → σ → σ2 → σ3 → σ4 → σ5 → Option β) (I : Nat → σ → σ2 → σ3 → σ4 → σ5 → Prop) (m : Nat) (hx : ∀ n a b c d e, I m a b c d e → Ok (F (n + 1) m a b c d e) Q) (hs : ∀ n i a b c d e, i < m → I i a b c d e → (∀ a' b' c' d' e', I (i + 1) a' b' c' d' e' → Ok (F n (i + 1) a' b' c' d' e') Q) → Ok (F (n + 1) i a b c d e) Q) : ∀ n i a b c d e, i ≤ m → m - i < n → I i a b c d e → Ok (F n i a b c d e) Q :=
  fun n i a b c d e h1 h2 h3 => lpU (σ := σ × σ2 × σ3 × σ4 × σ5) (fun n i s => F n i s.1 s.2.1 s.2.2.1 s.2.2.2.1 s.2.2.2.2) (fun i s => I i s.1 s.2.1 s.2.2.1 s.2.2.2.1 s.2.2.2.2) m (fun n s h => hx n s.1 s.2.1 s.2.2.1 s.2.2.2.1 s.2.2.2.2 h) (fun n i s h0 h ih => hs n i s.1 s.2.1 s.2.2.1 s.2.2.2.1 s.2.2.2.2 h0 h (fun a' b' c' d' e' => ih (a', b', c', d', e'))) n i (a, b, c, d, e) h1 h2 h3
section SETTLE
variable {G : Gr}
theorem X0_trace (hW : WF G) {g : TG} (hX : RX G g) (N : Nat) (hN : 100 < N) (t : TF) :
    Ok (f_X0_trace N t.1 t.2.1 t.2.2.1 t.2.2.2.1 t.2.2.2.2.1 t.2.2.2.2.2.1 t.2.2.2.2.2.2.1 t.2.2.2.2.2.2.2.1 t.2.2.2.2.2.2.2.2 g.1 g.2.1 g.2.2.2.1 g.2.2.2.2.1 g.2.2.2.2.2.1 g.2.2.2.2.2.2) (fun r => FR G r) := by
  obtain ⟨x1, x2, x3, x4, x5, x6⟩ := hX
  have hm := hW.2.2.1
  have h9 := hW.2.1
  unfold f_X0_trace
  rw [x1, x2]
  refine lpU (fun n i a => f_X0_trace_b15 N (nI (gN G)) (nI (gE G).length) g.2.2.2.1 g.2.2.2.2.1 g.2.2.2.2.2.1 g.2.2.2.2.2.2 n (nI i) 0 t.2.1 t.2.2.1 a (filled 40 (-1 : Int32) t.2.2.2.2.1) t.2.2.2.2.2.1 t.2.2.2.2.2.2.1 t.2.2.2.2.2.2.2.1 t.2.2.2.2.2.2.2.2) (fun i a => ∀ d, d < i → a d = nI (nx G d)) (2 * (gE G).length) ?_ ?_ N 0 _ (Nat.zero_le _) (by omega) (fun d hd => absurd hd (Nat.not_lt_zero d))
  · intro n nxA hnx
    simp only [f_X0_trace_b15, f_X0_trace_b42]
    rw [two_nI]
    refine Ok_ife (nI_leI (by omega) (by omega)) (fun _ => ?_) (fun c => absurd (Nat.le_refl _) c)
    refine lpU5 (fun n i nu ow fs ln ns => f_X0_trace_b44 N (nI (gN G)) (nI (gE G).length) g.2.2.2.1 g.2.2.2.2.1 g.2.2.2.2.2.1 g.2.2.2.2.2.2 n (nI i) nu t.2.1 t.2.2.1 nxA ow fs ln ns t.2.2.2.2.2.2.2.2) (fun i nu ow fs ln ns => nu = nI (fb_ct (isMn G) i) ∧ FOw G i (-1) ow ∧ (∀ f, f < fb_ct (isMn G) i → fs f = nI (fst0 G f)) ∧ (∀ f, f < fb_ct (isMn G) i → ln f = nI (per G (fst0 G f))) ∧ (∀ f, f < fb_ct (isMn G) i → ∀ b, bt (ns f) b = true ↔ ∃ d, d < 2 * (gE G).length ∧ lab G d = f ∧ tl G d = b)) (2 * (gE G).length) ?_ ?_ N 0 0 _ _ _ _ (Nat.zero_le _) (by omega) ⟨rfl, fun d hd => ?_, fun f hf => absurd hf (Nat.not_lt_zero f), fun f hf => absurd hf (Nat.not_lt_zero f), fun f hf => absurd hf (Nat.not_lt_zero f)⟩
    · rintro n nu ow fs ln ns ⟨rfl, h2, h3, h4, h5⟩
      simp only [f_X0_trace_b44, f_X0_trace_b75]
      rw [two_nI]
      refine Ok_ife (nI_leI (by omega) (by omega)) (fun _ => ?_) (fun c => absurd (Nat.le_refl _) c)
      refine Ok_bd1.mpr (Ok_mono (X1_fillLinks hW x4 N hN _) (fun a ha => Ok_bd1.mpr ?_))
      rw [show fb_ct (isMn G) (2 * (gE G).length) = nF G from rfl, X0_count hW ha N hN]
      refine Ok_some.mpr (Ok_some.mpr ⟨rfl, rfl, rfl, hnx, fun d hd => ?_, h3, h4, h5, ha⟩)
      show ow d = _
      rw [h2 d hd, if_pos (mn_lt hW hd)]
    · rintro n i nu ow fs ln ns hi ⟨rfl, h2, h3, h4, h5⟩ ih
      simp only [f_X0_trace_b44, f_X0_trace_b69]
      rw [two_nI, nI_clamp (by omega), h2 i hi, nI_1]
      refine Ok_ife (nI_leI (by omega) (by omega)) (fun c => absurd c (by omega)) (fun _ => Ok_chk.mpr ⟨inb_nI (by omega) (by decide), ?_⟩)
      rcases mn_dec hW hi with q | q
      · have hl := lab_lt hW hi
        have : nF G ≤ 2 * (gE G).length := ct_le G _
        rw [if_pos q, if_pos (nI_pos' (by omega))]
        refine ih _ _ _ _ _ ⟨by rw [ct_no q], FOw_skip hW h2 q, by rw [ct_no q]; exact h3, by rw [ct_no q]; exact h4, by rw [ct_no q]; exact h5⟩
      · rw [if_neg (by omega : ¬ mn G i < i), if_neg (by decide)]
        refine Ok_bd1.mpr (Ok_mono (X0_walk hW x4 hnx hi q h2 N hN) ?_)
        rintro ⟨nu2, ow2, fs2, ln2, ns2⟩ ⟨r1, r2, r3, r4, r5, r6⟩
        dsimp only at r1 r2 r3 r4 r5 r6
        refine ih _ _ _ _ _ ⟨by rw [ct_yes q]; exact r1, r2, fun f hf => ?_, fun f hf => ?_, fun f hf b => ?_⟩
        · rw [ct_yes q] at hf
          dsimp only
          rw [r3, upd_at]
          by_cases e : f = fb_ct (isMn G) i
          · rw [if_pos e, e, fst_of hW hi q]
          · rw [if_neg e]; exact h3 f (by omega)
        · rw [ct_yes q] at hf
          dsimp only
          rw [r4, upd_at]
          by_cases e : f = fb_ct (isMn G) i
          · rw [if_pos e, e, fst_of hW hi q]
          · rw [if_neg e]; exact h4 f (by omega)
        · rw [ct_yes q] at hf
          by_cases e : f = fb_ct (isMn G) i
          · rw [e, r5 b]
            constructor
            · rintro ⟨j, q1, q2⟩
              refine ⟨it G j i, it_lt hW hi j, ?_, q2⟩
              unfold lab
              rw [mn_it hW hi, q]
            · rintro ⟨d, q1, q2, q3⟩
              have q4 : lab G d = lab G i := by
                rw [q2]
                unfold lab
                rw [q]
              obtain ⟨j, j1, j2⟩ := mn_orb hW hi q1 ((lab_eq hW q1 hi).mp q4)
              exact ⟨j, j1, by rw [j2]; exact q3⟩
          · dsimp only
            rw [r6 f e]
            exact h5 f (by omega) b
    · show filled 40 (-1 : Int32) t.2.2.2.2.1 d = _
      unfold filled
      rw [if_pos (by omega), if_neg (Nat.not_lt_zero _)]
  · intro n i a hi hI ih
    simp only [f_X0_trace_b15]
    rw [two_nI, X1_following hW x4 x5 x6 N (by omega) hi, nI_clamp (by omega), nI_1]
    refine Ok_ife (nI_leI (by omega) (by omega)) (fun c => absurd c (by omega)) (fun _ => Ok_bd1.mpr (Ok_some.mpr (Ok_chk.mpr ⟨inb_nI (by omega) (by decide), ih _ (fun d hd => ?_)⟩)))
    rw [upd_at]
    by_cases e : d = i
    · rw [if_pos e, e]
    · rw [if_neg e]; exact hI d (by omega)
theorem X7_settle (hW : WF G) {g : TG} (hX : RX G g) (N : Nat) (hN : 100 < N) (t : TF) (o : Int32) :
    Ok (f_X7_settle N t.1 t.2.1 t.2.2.1 t.2.2.2.1 t.2.2.2.2.1 t.2.2.2.2.2.1 t.2.2.2.2.2.2.1 t.2.2.2.2.2.2.2.1 t.2.2.2.2.2.2.2.2 g.1 g.2.1 o g.2.2.2.1 g.2.2.2.2.1 g.2.2.2.2.2.1 g.2.2.2.2.2.2) (fun r => FR G (r.1, r.2.1, r.2.2.1, r.2.2.2.1, r.2.2.2.2.1, r.2.2.2.2.2.1, r.2.2.2.2.2.2.1, r.2.2.2.2.2.2.2.1, r.2.2.2.2.2.2.2.2.1) ∧ r.2.2.2.2.2.2.2.2.2 = 0) := by
  unfold f_X7_settle
  exact Ok_bd1.mpr (Ok_mono (X0_trace hW hX N hN t) (fun r hr => Ok_some.mpr ⟨hr, rfl⟩))
end SETTLE
