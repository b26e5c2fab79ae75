/-! ===== the reference draws a block ===== -/
theorem Frg_edge {G H : Nat → Bool} (hG : GW G) (hV : ∀ x, VH H x → x < 9) {ins en : Int32} (hF : Frg G H ins en) : ∃ e a b, G e = true ∧ H e = false ∧ VH H a ∧ inc a e = true ∧ a ≠ b ∧ bt en b = true ∧ ∀ c, bt en c = true ↔ En G H e c := by
  rcases hF with ⟨_, a, b, a9, b9, hab, va, vb, hg, hh, h⟩ | ⟨_, v, v9, vo, hi, hen, a, b, hab, ha, hb⟩
  · have on : ∀ y, inc y (cd a b) = true ↔ y = a ∨ y = b := fun y => by
      rw [inc_cd a9 b9]
      by_cases w : y = a
      · rw [decide_eq_true w, decide_eq_false (fun z => hab (w.symm.trans z))]; exact ⟨fun _ => Or.inl w, fun _ => rfl⟩
      · rw [decide_eq_false w, Bool.false_xor, decide_eq_true_eq]; exact ⟨Or.inr, fun z => z.resolve_left w⟩
    refine ⟨cd a b, a, b, hg, hh, va, (on a).mpr (Or.inl rfl), hab, (h b).mpr (Or.inr rfl), fun c => ?_⟩
    rw [h]
    constructor
    · rintro (z | z)
      · rw [z]; exact ⟨va, Or.inl ((on a).mpr (Or.inl rfl))⟩
      · rw [z]; exact ⟨vb, Or.inl ((on b).mpr (Or.inr rfl))⟩
    · intro z
      exact (on c).mp (En_edge (fun y hy => by
        rcases (on y).mp hy with w | w
        · rw [w]; exact va
        · rw [w]; exact vb) z)
  · obtain ⟨va, y, y1, y2⟩ := (hen a).mp ha
    have y9 := rc_lt v9 y1
    have yo := rc_off vo y1
    have a9 := hV a va
    have ne : y ≠ a := fun z => yo (by rw [z]; exact va)
    have iy : inc y (cd y a) = true := by rw [inc_cd y9 a9, decide_eq_true rfl, decide_eq_false ne]; rfl
    have ia : inc a (cd y a) = true := by rw [inc_cd y9 a9, decide_eq_true rfl, decide_eq_false (Ne.symm ne)]; rfl
    refine ⟨cd y a, a, b, y2, ?_, va, ia, hab, hb, fun c => by rw [hen, En_part hG v9 vo y1 y2 iy]⟩
    cases z : H (cd y a) with
    | false => rfl
    | true => exact absurd ⟨_, z, iy⟩ yo
theorem gm_or {A B : Nat → Nat} {M M' : Int32} (e : Nat) : gm A B (M ||| M') e = (gm A B M e || gm A B M' e) := by
  cases c : (gm A B M e || gm A B M' e) with
  | true =>
    rw [Bool.or_eq_true, gm_t, gm_t] at c
    refine gm_t.mpr ?_
    rcases c with ⟨k, k1, k2⟩ | ⟨k, k1, k2⟩
    · exact ⟨k, by rw [b_or, k1]; rfl, k2⟩
    · exact ⟨k, by rw [b_or, k1, Bool.or_true], k2⟩
  | false =>
    cases q : gm A B (M ||| M') e with
    | false => rfl
    | true =>
      obtain ⟨k, k1, k2⟩ := gm_t.mp q
      rw [b_or, Bool.or_eq_true] at k1
      rw [Bool.or_eq_false_iff] at c
      rcases k1 with w | w
      · rw [gm_t.mpr ⟨k, w, k2⟩] at c; cases c.1
      · rw [gm_t.mpr ⟨k, w, k2⟩] at c; cases c.2
section DRW
variable {ea eb : Nat → Int32} {A B : Nat → Nat} {M r : Int32} {e0 e1 : Nat}
/-- there is a way through a piece -/
theorem Fnd_ok {dr nd : Int32} {st : Nat → Int32} {nr : Nat} {rg : Nat → List Nat} (h : DI ea eb A B M r dr nd e0 e1 st nr rg) {bn bi left own : Int32} (hF : Frg (gm A B r) (gm A B dr) bi bn) (hl : ∀ k, bt left k = true ↔ bt r k = true ∧ bt dr k = false) (ho : ∀ k, bt own k = true ↔ bt left k = true ∧ ((bi = 0 → ∀ x, bt bn x = true ↔ x = A k ∨ x = B k) ∧ (¬ bi = 0 → bt bi (A k) = true ∨ bt bi (B k) = true))) {s : Nat} (hs : bt bn s = true) {Gs : Int32} (hGs : ∀ g, bt Gs g = true ↔ bt bn g = true ∧ g ≠ s) {S : Nat → Prop} (h1 : S s) (h2 : ∀ z, S z → z = s ∨ (bt bi z = true ∧ bt Gs z = false)) (h3 : ∀ w o j, bt own j = true → Ev A B j w o → S w → S o ∨ (bt bi o = false ∧ bt Gs o = false)) : False := by
  have hEr := EE_sub h.1 h.2.1.2.1
  have hV : ∀ {x : Nat}, VH (gm A B dr) x → x < 9 := fun hx => VH_lt h.2.2.1.2.1 hx
  have sV := Frg_VH hF hs
  -- an edge of the graph that touches the inside is one of the piece's own
  have mine : ∀ {p q : Nat}, p < 9 → q < 9 → ¬ bi = 0 → ¬ VH (gm A B dr) p ∧ bt bi p = true ∨ ¬ VH (gm A B dr) q ∧ bt bi q = true → gm A B r (cd p q) = true → ∃ j, bt own j = true ∧ Ev A B j p q := by
    intro p q p9 q9 hbi hpq hg
    obtain ⟨k, k1, k2⟩ := gm_t.mp hg
    obtain ⟨_, _, _, a9, b9, ne⟩ := hEr.1 k k1
    have hk : bt dr k = false := by
      cases c : bt dr k with
      | false => rfl
      | true =>
        have va : VH (gm A B dr) (A k) := ⟨_, gm_i k c, by rw [inc_cd a9 b9, decide_eq_true rfl, decide_eq_false ne]; rfl⟩
        have vb : VH (gm A B dr) (B k) := ⟨_, gm_i k c, by rw [inc_cd a9 b9, decide_eq_true rfl, decide_eq_false (Ne.symm ne)]; rfl⟩
        rcases cd_inj p9 q9 a9 b9 k2 with w | w
        · rcases hpq with z | z
          · exact absurd (by rw [w.1]; exact va) z.1
          · exact absurd (by rw [w.2]; exact vb) z.1
        · rcases hpq with z | z
          · exact absurd (by rw [w.1]; exact vb) z.1
          · exact absurd (by rw [w.2]; exact va) z.1
    rcases cd_inj p9 q9 a9 b9 k2 with w | w
    · refine ⟨k, (ho k).mpr ⟨(hl k).mpr ⟨k1, hk⟩, fun z => absurd z hbi, fun _ => ?_⟩, Or.inl ⟨w.1.symm, w.2.symm⟩⟩
      rw [← w.1, ← w.2]
      exact hpq.imp (fun z => z.2) (fun z => z.2)
    · refine ⟨k, (ho k).mpr ⟨(hl k).mpr ⟨k1, hk⟩, fun z => absurd z hbi, fun _ => ?_⟩, Or.inr ⟨w.1.symm, w.2.symm⟩⟩
      rw [← w.1, ← w.2]
      exact (hpq.imp (fun z => z.2) (fun z => z.2)).symm
  rcases hF with ⟨b0, a, b, a9, b9, hab, va, vb, hg, hh, hx⟩ | ⟨bn0, v, v9, vo, hi, hen, a, b, hab, ha, hb⟩
  · obtain ⟨k, k1, k2⟩ := gm_t.mp hg
    obtain ⟨_, _, _, a9', b9', ne⟩ := hEr.1 k k1
    have hk : bt dr k = false := by
      cases c : bt dr k with
      | false => rfl
      | true => rw [k2, gm_i k c] at hh; cases hh
    have hends : ∀ x, bt bn x = true ↔ x = A k ∨ x = B k := fun x => by
      rw [hx]
      rcases cd_inj a9 b9 a9' b9' k2 with w | w <;> omega
    have own1 : bt own k = true := (ho k).mpr ⟨(hl k).mpr ⟨k1, hk⟩, fun _ => hends, fun z => absurd b0 z⟩
    have go : ∀ o, Ev A B k s o → o ≠ s → bt bn o = true → False := by
      intro o q1 q2 q3
      rcases h3 s o k own1 q1 h1 with w | w
      · rcases h2 o w with z | z
        · exact q2 z
        · rw [b0, b_0] at z; cases z.1
      · rw [(hGs o).mpr ⟨q3, q2⟩] at w; cases w.2
    rcases (hends s).mp hs with w | w
    · exact go (B k) (Or.inl ⟨w.symm, rfl⟩) (by omega) ((hends _).mpr (Or.inr rfl))
    · exact go (A k) (Or.inr ⟨w.symm, rfl⟩) (by omega) ((hends _).mpr (Or.inl rfl))
  · obtain ⟨g, hg, gs⟩ : ∃ g, bt bn g = true ∧ g ≠ s := by
      by_cases c : a = s
      · exact ⟨b, hb, fun q => hab (c.trans q.symm)⟩
      · exact ⟨a, ha, c⟩
    have iV : ∀ {z : Nat}, bt bi z = true → ¬ VH (gm A B dr) z ∧ z < 9 := fun {z} hz => ⟨rc_off vo ((hi z).mp hz), rc_lt v9 ((hi z).mp hz)⟩
    obtain ⟨_, y0, y1, y2⟩ := (hen s).mp hs
    have y0i := (hi y0).mpr y1
    obtain ⟨j0, j01, j02⟩ := mine (hV sV) (iV y0i).2 bn0 (Or.inr ⟨(iV y0i).1, y0i⟩) (by rw [cd_comm]; exact y2)
    have Sy0 : S y0 := (h3 s y0 j0 j01 j02 h1).resolve_right (fun z => by rw [y0i] at z; cases z.1)
    obtain ⟨gV, y, z1, z2⟩ := (hen g).mp hg
    have yr := rc_trans (rc_symm v9 vo y1) z1
    have Sy := yr (fun z => S z ∧ bt bi z = true) ⟨Sy0, y0i⟩ (fun u w ⟨q1, q2⟩ q3 q4 q5 q6 => by
      have wi : bt bi w = true := (hi w).mpr (rc_step ((hi u).mp q2) q3 q4 q5 q6)
      obtain ⟨j, j1, j2⟩ := mine (iV q2).2 q3 bn0 (Or.inl ⟨(iV q2).1, q2⟩) q5
      exact ⟨(h3 u w j j1 j2 q1).resolve_right (fun z => by rw [wi] at z; cases z.1), wi⟩)
    obtain ⟨j, j1, j2⟩ := mine (iV Sy.2).2 (hV gV) bn0 (Or.inl ⟨(iV Sy.2).1, Sy.2⟩) z2
    rcases h3 y g j j1 j2 Sy.1 with w | w
    · rcases h2 g w with z | z
      · exact gs z
      · exact (iV z.1).1 gV
    · rw [(hGs g).mpr ⟨hg, gs⟩] at w; cases w.2
theorem X8_drawL (N : Nat) (hN : 100 < N) : ∀ (n : Nat) (dr nd : Int32) (nr : Nat) (rg : Nat → List Nat) (org queue ns ls st path : Nat → Int32) (ps : Int32) (old : Nat → Int32) (last bn bi bf : Int32), DI ea eb A B M r dr nd e0 e1 st nr rg → Eu (gm A B dr) nr rg → (∀ k, k < nr → RR 10 ns ls st k (rg k)) → 15 - nr < n →
    Ok (f_X8_canDraw_b127 N ea eb n r dr nd org queue ns ls st (nI nr) path ps old last bn bi bf) (fun q => (q.1 = 1 ∧ Pl (gm A B r)) ∨ (q.1 = 0 ∧ ¬ Pl (gm A B r))) := by
  intro n
  induction n with
  | zero => intro _ _ nr; omega
  | succ n ih =>
    intro dr nd nr rg org queue ns ls st path ps old last bn bi bf h hE hRR hm
    have h' := h
    obtain ⟨hEE, hB, hD, hnr, hsub, he1, hnd, hst⟩ := h'
    have hEr := EE_sub hEE hB.2.1
    simp only [f_X8_canDraw_b127, f_X8_canDraw_b249]
    refine Ok_ite.mpr ⟨fun c => ?_, fun c => ?_⟩
    · exact Ok_some.mpr (Or.inl ⟨rfl, Dm_all hD (fun e he => by rw [c]; exact he)⟩)
    · refine Ok_bd1.mpr (Ok_mono (X8_picks N hN h last bn bi bf) (fun q ⟨q1, q2⟩ => ?_))
      have ex : ∃ k, bt r k = true ∧ bt dr k = false := by
        refine Classical.byContradiction (fun w => c (b_ext (fun i _ => ?_)))
        cases w1 : bt r i with
        | true =>
          cases w2 : bt dr i with
          | true => rfl
          | false => exact absurd ⟨i, w1, w2⟩ w
        | false =>
          cases w2 : bt dr i with
          | false => rfl
          | true => rw [hsub i w2] at w1; cases w1
      obtain ⟨k0, k01, k02⟩ := ex
      have bs : Bs (gm A B r) (gm A B dr) st nr q.2.1 q.2.2.1 q.2.2.2 := by
        rcases q1 with w | w
        · obtain ⟨_, C, m, _, c3, c4, _⟩ := q2 k0 k01 k02
          rw [c3] at w
          have := (nI_eq (by omega) (by omega)).mp w
          omega
        · exact w
      obtain ⟨b1, hF⟩ := bs
      have hft : ft st q.2.1 nr ≤ nr := fb_ct_le _ _
      have hV : ∀ x, VH (gm A B dr) x → x < 9 := fun x hx => VH_lt hD.2.1 hx
      refine Ok_ite.mpr ⟨fun c2 => ?_, fun c2 => ?_⟩
      · have fpos : 0 < ft st q.2.1 nr := by
          rcases Nat.eq_zero_or_pos (ft st q.2.1 nr) with w | w
          · rw [b1, w] at c2; exact absurd rfl c2
          · exact w
        refine Ok_bd1.mpr (Ok_mono (X8_low N (by omega) (Frg_ne hF)) (fun s0 ⟨s, s1, s2⟩ => ?_))
        rw [s2]
        have s9 := hV s (Frg_VH hF s1)
        generalize hleft : r &&& (dr ^^^ (-1)) = left
        have bl : ∀ k, bt left k = true ↔ bt r k = true ∧ bt dr k = false := fun k => by
          rw [← hleft]
          constructor
          · intro z
            have := b_31 z
            rw [b_and, b_not _ this, Bool.and_eq_true, Bool.not_eq_true'] at z
            exact z
          · rintro ⟨z1, z2⟩
            rw [b_and, b_not _ (b_31 z1), z1, z2]; rfl
        refine Ok_bd1.mpr (Ok_mono (X8_own N hN (EE_sub hEr (fun k hk => ((bl k).mp hk).1)) q.2.1 q.2.2.1) (fun own ho => ?_))
        have osub : ∀ k, bt own k = true → bt r k = true ∧ bt dr k = false := fun k hk => (bl k).mp ((ho k).mp hk).1
        have hEo : EE ea eb A B own := EE_sub hEr (fun k hk => (osub k hk).1)
        have hGs : ∀ g, bt (q.2.1 &&& (((1 : Int32) <<< (nI s &&& 31)) ^^^ (-1))) g = true ↔ bt q.2.1 g = true ∧ g ≠ s := fun g => by
          constructor
          · intro z
            have := b_31 z
            rw [b_and, b_not _ this, b_bit (by omega), Bool.and_eq_true, Bool.not_eq_true', decide_eq_false_iff_not] at z
            exact z
          · rintro ⟨z1, z2⟩
            rw [b_and, b_not _ (b_31 z1), b_bit (by omega), z1, decide_eq_false z2]; rfl
        refine Ok_bd1.mpr (Ok_mono (X8_finds N (by omega) hEo q.2.2.1 (q.2.1 &&& (((1 : Int32) <<< (nI s &&& 31)) ^^^ (-1))) s9 org queue) (fun w hw => Ok_nm.mpr ?_))
        rcases hw with ⟨_, S, S1, S2, S3⟩ | ⟨g, l, w1, g9, w2, gs, w3, w4, w5, w6⟩
        · exact (Fnd_ok h hF bl ho s1 hGs S1 S2 S3).elim
        · rw [w1]
          have gn := (hGs g).mp w2
          have pn : (g :: (l ++ [s])).Nodup := by
            rw [← List.cons_append]
            refine List.nodup_append.mpr ⟨w4, by simp, fun x hx y hy z => ?_⟩
            rw [List.mem_singleton] at hy
            rcases List.mem_cons.mp hx with k | k
            · exact gs (k.symm.trans (z.trans hy))
            · exact (w5 x k).2.1 (z.trans hy)
          have p9 : ∀ x, x ∈ g :: (l ++ [s]) → x < 9 := fun x hx => by
            rcases List.mem_cons.mp hx with k | k
            · rw [k]; exact g9
            · rcases List.mem_append.mp k with k | k
              · exact (w5 x k).1
              · rw [List.mem_singleton] at k; rw [k]; exact s9
          have pl := nd_le 9 _ pn p9
          have el : (g :: (l ++ [s])).length = l.length + 2 := by simp
          have tk := X8_take N (org := w.2.1) s9 l g N [] path w3 (fun z => by
            rcases List.mem_cons.mp z with k | k
            · exact gs k.symm
            · exact (w5 s k).2.1 rfl) (fun x hx => by
            rcases List.mem_cons.mp hx with k | k
            · rw [k]; exact g9
            · exact (w5 x k).1) (fun j hj => absurd hj (Nat.not_lt_zero j)) (by show 0 + l.length + 2 ≤ 10; omega) (by omega)
          unfold f_X8_takesPath
          refine Ok_bd1.mpr (Ok_mono tk (fun p ⟨p1, p2⟩ => ?_))
          have p1' : PA p.1 (g :: (l ++ [s])) := p1
          have p2' : p.2 = nI (g :: (l ++ [s])).length := p2
          rw [p2']
          refine Ok_bd1.mpr (Ok_mono (X8_fitting N hN hnr q.1 q.2.1) (fun t8 ⟨t1, t2⟩ => Ok_nm.mpr ?_))
          obtain ⟨f, f1, f2, f3⟩ := t2 fpos
          refine Ok_bd1.mpr (Ok_mono (X8_edgesOf N hN hEo pn p9 p1') (fun ed hed => Ok_nm.mpr ?_))
          refine Ok_bd1.mpr (Ok_mono (X8_nodesOf N (by omega) pn p9 p1') (fun no hno => Ok_nm.mpr ?_))
          rw [t1, if_neg (fun z => by
            have := (nI_leI (b := 0) (by omega) (by omega)).mp z
            omega), f2]
          have hfit : ∀ x, bt q.2.1 x = true → x ∈ rg f := fun x hx => by
            have := fit_iff.mp f3 x hx
            rw [hst f f1] at this
            exact of_decide_eq_true this
          have lkr : Lk (gm A B r) (g :: (l ++ [s])) := fun a1 x y t e => by
            obtain ⟨k, k1, k2⟩ := gm_t.mp (w6 a1 x y t e)
            exact gm_t.mpr ⟨k, (osub k k1).1, k2⟩
          have lne : ¬ q.2.2.1 = 0 → l ≠ [] := fun z1 z2 => by
            rw [z2] at w6
            obtain ⟨k, k1, k2⟩ := gm_t.mp (w6 [] g s [] rfl)
            obtain ⟨_, _, _, a9, b9, _⟩ := hEo.1 k k1
            have vg := Frg_VH hF gn.1
            have vs := Frg_VH hF s1
            rcases ((ho k).mp k1).2.2 z1 with y | y
            · rcases cd_inj g9 s9 a9 b9 k2 with x | x
              · exact (Frg_off hF y).2 (by rw [← x.1]; exact vg)
              · exact (Frg_off hF y).2 (by rw [← x.2]; exact vs)
            · rcases cd_inj g9 s9 a9 b9 k2 with x | x
              · exact (Frg_off hF y).2 (by rw [← x.2]; exact vs)
              · exact (Frg_off hF y).2 (by rw [← x.1]; exact vg)
          have cov : ∀ e, gm A B r e = true → gm A B dr e = false → (∃ a b, a ≠ b ∧ En (gm A B r) (gm A B dr) e a ∧ En (gm A B r) (gm A B dr) e b) → Cv (gm A B r) (gm A B dr) st nr q.2.1 q.2.2.2 e := fun e z1 z2 _ => by
            obtain ⟨k, k1, k2⟩ := gm_t.mp z1
            have : bt dr k = false := by
              cases y : bt dr k with
              | false => rfl
              | true => rw [k2, gm_i k y] at z2; cases z2
            rw [k2]; exact q2 k k1 this
          obtain ⟨u, v, s', t, e1', e2', hSp, hD2, hE2⟩ := Dm_go hD hE hF f1 hfit (fun hk => Cv_rule hst b1 (by omega) f1 hfit cov hk) gs gn.1 s1 (List.nodup_cons.mp w4).2 (fun x hx => (w5 x hx).2.2) lkr lne
          have hC := Sp_Cy hD.2.1 hSp
          rw [el]
          refine Ok_bd1.mpr (Ok_mono (X8_splits N hN p1' ns ls st old hD.2.1.1 hRR f1 hnr e1' e2' hC.1 hC.2) (fun z ⟨z1, z2⟩ => ?_))
          rw [z1]
          have hH : gm A B (dr ||| ed) = xs (gm A B dr) (wk g (l ++ [s])) := by
            funext e
            rw [gm_or]
            show _ = (gm A B dr e ^^ wk g (l ++ [s]) e)
            have hw : gm A B ed e = wk g (l ++ [s]) e := by
              cases y : wk g (l ++ [s]) e with
              | true =>
                obtain ⟨k, k1, k2⟩ := gm_t.mp (Lk_wk w6 y)
                rw [k2] at y
                exact gm_t.mpr ⟨k, (hed k).mpr ⟨k1, y⟩, k2⟩
              | false =>
                cases x : gm A B ed e with
                | false => rfl
                | true =>
                  obtain ⟨k, k1, k2⟩ := gm_t.mp x
                  rw [k2, ((hed k).mp k1).2] at y; cases y
            rw [hw]
            cases y : wk g (l ++ [s]) e with
            | false => rw [Bool.or_false, Bool.xor_false]
            | true => rw [Sp_off hD.2.1 hSp y]; rfl
          rw [← hH] at hD2 hE2
          have le2 := Eu_le hD2.2.1 hE2
          refine ih (dr ||| ed) (nd ||| no) (nr + 1) (rgN nr rg f g s s' t l) _ _ _ _ _ _ _ _ _ _ _ _ ⟨hEE, hB, hD2, le2, fun k hk => ?_, by rw [b_or, he1]; rfl, fun x => ?_, fun k hk x => (z2 k hk).2.2 x⟩ hE2 z2 (by omega)
          · rw [b_or, Bool.or_eq_true] at hk
            rcases hk with y | y
            · exact hsub k y
            · exact (osub k ((hed k).mp y).1).1
          · rw [b_or, Bool.or_eq_true, hnd, hno, hH, VH_xs hD.2.1 hSp]
      · refine Ok_some.mpr (Or.inr ⟨rfl, ?_⟩)
        have f0 : ft st q.2.1 nr = 0 := by
          have := Decidable.not_not.mp c2
          rw [b1] at this
          exact (nI_eq (b := 0) (by omega) (by omega)).mp this
        obtain ⟨e, a, b, x1, x2, x3, x4, x5, x6, x7⟩ := Frg_edge (gm_GW hEr) hV hF
        refine Dm_no hD x1 x2 x3 x4 ((x7 b).mp x6) x5 (fun k hk => ?_)
        have nf := of_decide_eq_false (fb_ct_zero.mp f0 k hk)
        rw [fit_iff] at nf
        refine Classical.byContradiction (fun y => nf (fun i hi => ?_))
        rw [hst k hk]
        refine decide_eq_true (Classical.byContradiction (fun z => y ⟨i, (x7 i).mp hi, z⟩))
end DRW
