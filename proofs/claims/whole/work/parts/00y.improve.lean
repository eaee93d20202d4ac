/-! EXCHANGE, IMPROVE, BEST on both sides -/
noncomputable def betterB (M : Mz) : Bool := decide ((exT M).2.2 < faultI M (mX M))
noncomputable def impS (M : Mz) : Mz := xM M (exT M).1.toNat (exT M).2.1.toNat
noncomputable def impI (M : Mz) : Nat → Mz
  | 0 => M
  | j + 1 => impS (impI M j)
noncomputable def impN (M : Mz) : Nat := lowF (fun j => !(betterB (impI M j))) 325
section IM
variable {v : MZ} {w w1 w2 : WY} {ex : EX} {s : nF} {M : Mz} {c d F n i j k x y : Nat} {a : Int}
theorem impS_wf (hw : WF M) (h1 : partI M = 1) : WF (impS M) ∧ partI (impS M) = 1 ∧ faultI (impS M) (mX (impS M)) = (exT M).2.2 := by
  obtain ⟨k, j, g1, g2, g3, g4, g5⟩ := exT_found hw h1
  have e : impS M = xM M k j := by
    unfold impS
    rw [g5]
    show xM M ((k : Int)).toNat ((j : Int)).toNat = xM M k j
    rw [Int.toNat_natCast, Int.toNat_natCast]
  rw [e, g5]
  exact ⟨xM_wf hw g2 g4, by rw [xM_part hw g1 g3 g2 g4, h1], rfl⟩
theorem impI_wf (hw : WF M) (h1 : partI M = 1) : ∀ j, j ≤ impN M → WF (impI M j) ∧ partI (impI M j) = 1 ∧ faultI (impI M j) (mX (impI M j)) ≤ faultI M (mX M) - j := by
  intro j
  induction j with
  | zero => intro _; exact ⟨hw, h1, by simp [impI]⟩
  | succ j ih =>
    intro hj
    obtain ⟨i1, i2, i3⟩ := ih (by omega)
    obtain ⟨s1, s2, s3⟩ := impS_wf i1 i2
    refine ⟨s1, s2, ?_⟩
    show faultI (impS (impI M j)) (mX (impS (impI M j))) ≤ _
    rw [s3]
    have hb := (lowF_spec (f := fun j => !(betterB (impI M j))) 325).2.2 j hj
    have hb : betterB (impI M j) = true := by simpa using hb
    have := of_decide_eq_true hb
    omega
theorem impN_spec (hw : WF M) (h1 : partI M = 1) : impN M ≤ 324 ∧ betterB (impI M (impN M)) = false := by
  have hl := lowF_spec (f := fun j => !(betterB (impI M j))) 325
  have hX : mX M < mN M := hw.2.2.2.2.2.1.1
  have hf := fault_b hw.w2 hw.2.1 hX
  have hlt : impN M < 325 := by
    apply Classical.byContradiction
    intro q
    have h3 : impN M = 325 := by have := hl.2.1; unfold impN at q ⊢; omega
    obtain ⟨i1, i2, i3⟩ := impI_wf hw h1 325 (by omega)
    have hX2 : mX (impI M 325) < mN (impI M 325) := i1.2.2.2.2.2.1.1
    have := fault_b i1.w2 i1.2.1 hX2
    omega
  have hz : (!(betterB (impI M (impN M)))) = true := hl.1 hlt
  exact ⟨by omega, by simpa using hz⟩
theorem betterB_lt (hj : j < impN M) : betterB (impI M j) = true := by
  have := (lowF_spec (f := fun j => !(betterB (impI M j))) 325).2.2 j hj
  simpa using this
/-- the better exchange of the class -/
theorem findBetter3 (hF : 72 < F) (h : R3 v M) (hw : WF M) (h1 : partI M = 1) : ∃ g y1 y2, mX7_findBetterExchange F v w1 w2 ex = some (bI (betterB M), y1, y2, (jI (exT M).1, jI (exT M).2.1, jI (faultI M (mX M)), jI (exT M).2.2, jI (toneS M : Nat), g)) := by
  obtain ⟨g, y1, y2, hf⟩ := find3 (ex := ex) (w1 := w1) (w2 := w2) hF h hw h1
  have hX : mX M < mN M := hw.2.2.2.2.2.1.1
  have hfb := fault_b hw.w2 hw.2.1 hX
  obtain ⟨k, j, g1, g2, g3, g4, g5⟩ := exT_found hw h1
  have hxb := exF_b hw g2 g4
  have hN := dm_le hw.1
  refine ⟨g, y1, y2, ?_⟩
  unfold mX7_findBetterExchange
  rw [hf, bnd_s]
  simp only [jn_e]
  have e1 : (exT M).2.1 = (j : Int) := by rw [g5]
  have e2 : (exT M).2.2 = exF M k j := by rw [g5]
  rw [e1, e2, if_neg (by rw [nem1 (by omega)]; exact id)]
  unfold betterB
  rw [e2]
  by_cases q : exF M k j < faultI M (mX M)
  · rw [jle_f (by omega) (by omega) q, decide_eq_true q]; rfl
  · rw [jle_t (by omega) (by omega) (by omega), decide_eq_false q]; rfl
theorem apply3 {e : EX} (h : R3 v M) (hw : WF M) (h1 : partI M = 1) (he1 : e.1 = jI (exT M).1) (he2 : e.2.1 = jI (exT M).2.1) : ∃ p, mX1_apply e v = some p ∧ R3 (wP v p) (impS M) := by
  obtain ⟨k, j, g1, g2, g3, g4, g5⟩ := exT_found hw h1
  have hvk := hw.2.2.1 k g3
  have hvj := ((cand_t hw.w2 g2).mp g4).1
  obtain ⟨p1, a1, a2⟩ := setPlace3 (t := false) h hw.1 hvk
  obtain ⟨p2, b1, b2⟩ := setPlace3 (t := true) (M := setO M (setE (mO M) k false)) a2 hw.1 hvj
  have e5 : impS M = xM M k j := by
    unfold impS
    rw [g5]
    show xM M ((k : Int)).toNat ((j : Int)).toNat = xM M k j
    rw [Int.toNat_natCast, Int.toNat_natCast]
  refine ⟨p2, ?_, by rw [e5]; exact b2⟩
  unfold mX1_apply
  rw [he1, he2, g5]
  have a1' : mX3_setPlace v (jI (k : Nat)) (0 : Int32) = some p1 := a1
  show (mX3_setPlace v (jI (k : Nat)) (0 : Int32)).bind _ = _
  rw [a1', bnd_s]
  have b1' : mX3_setPlace (v.1, v.2.1, v.2.2.1, p1, v.2.2.2.2.1, v.2.2.2.2.2) (jI (j : Nat)) (1 : Int32) = some p2 := b1
  show (mX3_setPlace (v.1, v.2.1, v.2.2.1, p1, v.2.2.2.2.1, v.2.2.2.2.2) (jI (j : Nat)) (1 : Int32)).bind _ = _
  rw [b1', bnd_s]
theorem exchanges8 {bA bM : Int32} (h : R8 s M) (hw : WF M) (h1 : partI M = 1) (he1 : bA = jI (exT M).1) (he2 : bM = jI (exT M).2.1) : ∃ s', mX8_exchanges s bA bM = some s' ∧ R8 s' (impS M) := by
  have hN := dm_le hw.1
  obtain ⟨k, j, g1, g2, g3, g4, g5⟩ := exT_found hw h1
  have a1 := R8_set (t := false) h hw.1 g1
  have b1 := R8_set (t := true) (M := setO M (setE (mO M) k false)) a1 hw.1 g2
  have e5 : impS M = xM M k j := by
    unfold impS
    rw [g5]
    show xM M ((k : Int)).toNat ((j : Int)).toNat = xM M k j
    rw [Int.toNat_natCast, Int.toNat_natCast]
  refine ⟨upd (upd s (42 + k) (0 : Int32)) (42 + j) (1 : Int32), ?_, by rw [e5]; exact b1⟩
  unfold mX8_exchanges
  have e1 : (exT M).1 = (k : Int) := by rw [g5]
  have e2 : (exT M).2.1 = (j : Int) := by rw [g5]
  rw [he1, he2, e1, e2, j42p, j42p, gdi (by omega) (by omega), gdi (by omega) (by omega), jcl _ (by omega), jcl _ (by omega)]
noncomputable def bestA (M : Mz) (a : Int) : Int := if 0 ≤ a ∧ a ≤ 2 then (if partI M = 1 then (if a = 0 then (exT M).1 else if a = 1 then (exT M).2.1 else (exT M).2.2) else -2) else -1
theorem best3 (hF : 72 < F) (h : R3 v M) (hw : WF M) (ha : -2147483648 ≤ a ∧ a < 2147483648) : ∃ z, mX7_best F v w1 w2 ex (jI a) = some (jI (bestA M a), z) := by
  unfold mX7_best bestA
  simp only [jn_e]
  by_cases h0 : a < 0
  · rw [j_0, jlt_t ha (by omega) h0, if_neg (by omega)]; exact ⟨_, rfl⟩
  · rw [j_0, jlt_f ha (by omega) (by omega), j_2]
    by_cases h2 : a ≤ 2
    · rw [jle_t ha (by omega) h2, if_pos (by omega), isWhole3 (by omega) h hw.1 hw.2.2.1, bnd_s, ← j_0, ifb]
      by_cases h1 : partI M = 1
      · obtain ⟨g, y1, y2, hf⟩ := find3 (ex := ex) (w1 := w1) (w2 := w2) hF h hw h1
        rw [if_pos (decide_eq_true h1), if_pos h1, hf, bnd_s, choose3 ha, bnd_s]
        refine ⟨(y1, y2, (jI (exT M).1, jI (exT M).2.1, jI (faultI M (mX M)), jI (exT M).2.2, jI (toneS M : Nat), g)), ?_⟩
        by_cases q : a = 0
        · rw [if_pos q, if_pos q]
        · rw [if_neg q, if_neg q]
          by_cases q1 : a = 1
          · rw [if_pos q1, if_pos q1]
          · rw [if_neg q1, if_neg q1]
      · rw [if_neg (by rw [decide_eq_false h1]; exact Bool.noConfusion), if_neg h1]
        exact ⟨_, rfl⟩
    · rw [jle_f ha (by omega) (by omega), if_neg (by omega)]; exact ⟨_, rfl⟩
theorem best8 {f1 f2 f3 f4 ih : nF} {i1 i2 bA bM bF : Int32} (hF : 72 < F) (h : R8 s M) (hw : WF M) (ha : -2147483648 ≤ a ∧ a < 2147483648) : ∃ s' z, mX8_best F s f1 f2 f3 f4 i1 i2 bA bM bF ih (jI a) = some (jI (bestA M a), s', z) ∧ R8 s' M := by
  unfold mX8_best bestA
  rw [j_0, j_2, in8 ha (by omega) (by omega), bnd_s, ← j_0, ifb]
  by_cases h0 : 0 ≤ a ∧ a ≤ 2
  · rw [if_pos (decide_eq_true h0), if_pos h0, isWhole8 (by omega) h hw.1, bnd_s, ifb]
    by_cases h1 : partI M = 1
    · obtain ⟨z, z1, z2, z3, z4, z5⟩ := looks8 (f1 := f1) (f2 := f2) (f3 := f3) (f4 := f4) (i1 := i1) (i2 := i2) (bA := bA) (bM := bM) (bF := bF) (ih := ih) hF h hw h1
      rw [if_pos (decide_eq_true h1), if_pos h1, z1, bnd_s]
      simp only [jn_e]
      refine ⟨z.1, (z.2.1, z.2.2.1, z.2.2.2.1, z.2.2.2.2.1, z.2.2.2.2.2.1, z.2.2.2.2.2.2.1, z.2.2.2.2.2.2.2.1, z.2.2.2.2.2.2.2.2.1, z.2.2.2.2.2.2.2.2.2.1, z.2.2.2.2.2.2.2.2.2.2), ?_, z2⟩
      by_cases q : a = 0
      · rw [j_0, jeq_t q, if_pos q, z3]
      · rw [j_0, jeq_f ha (by omega) q, if_neg q]
        by_cases q1 : a = 1
        · rw [j_1, jeq_t q1, if_pos q1, z4]
        · rw [j_1, jeq_f ha (by omega) q1, if_neg q1, z5]
    · rw [if_neg (by rw [decide_eq_false h1]; exact Bool.noConfusion), if_neg h1]
      exact ⟨_, _, rfl, h⟩
  · rw [if_neg (by rw [decide_eq_false h0]; exact Bool.noConfusion), if_neg h0]
    exact ⟨_, _, rfl, h⟩
/-- improving of the class -/
theorem improve_in3 {hs : HS} (hF : 324 < F) (h : R3 v M) (hw : WF M) (h1 : partI M = 1) : ∃ p z, lpr (mX7_improve_L30 F v (mX7_improve_K59 hs)) F ((0 : Int32), v.2.2.2.1, w1, w2, ex) = some (jI (impN M : Nat), p, hs, z) ∧ R3 (wP v p) (impI M (impN M)) := by
  obtain ⟨m1, m2⟩ := impN_spec hw h1
  have key := lpr_r (Q := fun z : Int32 × nF × HS × WY × WY × EX => z.1 = jI (impN M : Nat) ∧ z.2.2.1 = hs ∧ R3 (wP v z.2.1) (impI M (impN M))) (L := mX7_improve_L30 F v (mX7_improve_K59 hs)) (F := F)
    (fun j y => y.1 = jI (j : Nat) ∧ j ≤ impN M ∧ R3 (wP v y.2.1) (impI M j)) 324 (x := ((0 : Int32), v.2.2.2.1, w1, w2, ex)) (by
    rintro j ⟨y0, yp, y1, y2, ye⟩ hj ⟨e0, e1, hR⟩
    have e0 : y0 = jI (j : Nat) := e0
    subst e0
    have hR : R3 (wP v yp) (impI M j) := hR
    obtain ⟨i1, i2, i3⟩ := impI_wf hw h1 j e1
    by_cases e : j = 324
    · left
      subst e
      have em : impN M = 324 := by omega
      refine ⟨(jI ((324 : Nat) : Int), yp, hs, y1, y2, ye), ⟨by rw [em], rfl, by rw [em]; exact hR⟩, fun self => ?_⟩
      simp only [mX7_improve_L30, jl_324]
      rw [nle_t (Nat.le_refl _) (by omega)]; rfl
    · have hj2 : j < 324 := by omega
      obtain ⟨g, z1, z2, hfb⟩ := findBetter3 (F := F) (w1 := y1) (w2 := y2) (ex := ye) (by omega) hR i1 i2
      have hfb' : mX7_findBetterExchange F (v.1, v.2.1, v.2.2.1, yp, v.2.2.2.2.1, v.2.2.2.2.2) y1 y2 ye = _ := hfb
      cases hb : betterB (impI M j) with
      | false =>
        left
        have em : impN M = j := by
          apply Classical.byContradiction
          intro q
          have := betterB_lt (M := M) (j := j) (by omega)
          rw [hb] at this; cases this
        refine ⟨(jI (j : Nat), yp, hs, z1, z2, (jI (exT (impI M j)).1, jI (exT (impI M j)).2.1, jI (faultI (impI M j) (mX (impI M j))), jI (exT (impI M j)).2.2, jI (toneS (impI M j) : Nat), g)), ⟨by rw [em], rfl, by rw [em]; exact hR⟩, fun self => ?_⟩
        simp only [mX7_improve_L30, jl_324]
        rw [nle_f hj2 (by omega), hfb', bnd_s, hb]
        rw [if_pos (show bI false = 0 from rfl)]; rfl
      | true =>
        right
        have hlt : j < impN M := by
          apply Classical.byContradiction
          intro q
          have : j = impN M := by omega
          rw [this, m2] at hb; cases hb
        obtain ⟨p, p1, p2⟩ := apply3 (e := (jI (exT (impI M j)).1, jI (exT (impI M j)).2.1, jI (faultI (impI M j) (mX (impI M j))), jI (exT (impI M j)).2.2, jI (toneS (impI M j) : Nat), g)) hR i1 i2 rfl rfl
        have p1' : mX1_apply (jI (exT (impI M j)).1, jI (exT (impI M j)).2.1, jI (faultI (impI M j) (mX (impI M j))), jI (exT (impI M j)).2.2, jI (toneS (impI M j) : Nat), g) (v.1, v.2.1, v.2.2.1, yp, v.2.2.2.2.1, v.2.2.2.2.2) = some p := p1
        refine ⟨hj2, (jI ((j + 1 : Nat) : Int), p, z1, z2, (jI (exT (impI M j)).1, jI (exT (impI M j)).2.1, jI (faultI (impI M j) (mX (impI M j))), jI (exT (impI M j)).2.2, jI (toneS (impI M j) : Nat), g)), ⟨rfl, by omega, p2⟩, fun self => ?_⟩
        simp only [mX7_improve_L30, jl_324]
        rw [nle_f hj2 (by omega), hfb', bnd_s, hb]
        rw [if_neg bIt0]
        show (mX1_apply (jI (exT (impI M j)).1, jI (exT (impI M j)).2.1, jI (faultI (impI M j) (mX (impI M j))), jI (exT (impI M j)).2.2, jI (toneS (impI M j) : Nat), g) (v.1, v.2.1, v.2.2.1, yp, v.2.2.2.2.1, v.2.2.2.2.2)).bind _ = _
        rw [p1', bnd_s, jS]) ⟨jl_0, by omega, h⟩ (by omega)
  obtain ⟨z, ⟨z1, z2, z3⟩, z4⟩ := key
  refine ⟨z.2.1, z.2.2.2, ?_, z3⟩
  rw [z4, ← z1, ← z2]
theorem improve_in8 {f1 f2 f3 f4 ih : nF} {i1 i2 bA bM bF : Int32} {j5 : (Int32 × nF × nF × nF × nF × nF × Int32 × Int32 × Int32 × Int32 × Int32 × nF) → Option (Int32 × nF × nF × nF × Int32 × nF × nF × nF × nF × Int32 × Int32 × Int32 × Int32 × Int32 × nF)} (hF : 324 < F) (h : R8 s M) (hw : WF M) (h1 : partI M = 1) (hA : bA = jI (exT M).1) (hM : bM = jI (exT M).2.1) (hB : bF = jI (exT M).2.2) :
    ∃ z : Int32 × nF × nF × nF × nF × nF × Int32 × Int32 × Int32 × Int32 × Int32 × nF, lpr (mX8_improve_L20 F j5) F ((0 : Int32), s, f1, f2, f3, f4, i1, i2, bA, bM, bF, ih) = j5 z ∧ z.1 = jI (impN M : Nat) ∧ R8 z.2.1 (impI M (impN M)) := by
  obtain ⟨m1, m2⟩ := impN_spec hw h1
  have key := lpr_j (Q := fun z : Int32 × nF × nF × nF × nF × nF × Int32 × Int32 × Int32 × Int32 × Int32 × nF => z.1 = jI (impN M : Nat) ∧ R8 z.2.1 (impI M (impN M))) (L := fun j5 => mX8_improve_L20 F j5) (F := F)
    (fun j y => y.1 = jI (j : Nat) ∧ j ≤ impN M ∧ R8 y.2.1 (impI M j) ∧ y.2.2.2.2.2.2.2.2.1 = jI (exT (impI M j)).1 ∧ y.2.2.2.2.2.2.2.2.2.1 = jI (exT (impI M j)).2.1 ∧ y.2.2.2.2.2.2.2.2.2.2.1 = jI (exT (impI M j)).2.2) 324 (x := ((0 : Int32), s, f1, f2, f3, f4, i1, i2, bA, bM, bF, ih)) (by
    rintro j ⟨y0, ys, y1, y2, y3, y4, y5, y6, yA, yM, yF, yh⟩ hj ⟨e0, e1, hR, eA, eM, eF⟩
    have e0 : y0 = jI (j : Nat) := e0
    have hR : R8 ys (impI M j) := hR
    have eA : yA = jI (exT (impI M j)).1 := eA
    have eM : yM = jI (exT (impI M j)).2.1 := eM
    have eF : yF = jI (exT (impI M j)).2.2 := eF
    subst e0; subst eA; subst eM; subst eF
    obtain ⟨i1, i2, i3⟩ := impI_wf hw h1 j e1
    have hE2 : mE (impI M j) < mN (impI M j) := i1.2.2.2.2.1.1
    have hX2 : mX (impI M j) < mN (impI M j) := i1.2.2.2.2.2.1.1
    have hfb := fault_b i1.w2 i1.2.1 hX2
    obtain ⟨kk, jj, g1, g2, g3, g4, g5⟩ := exT_found i1 i2
    have hxb := exF_b i1 g2 g4
    have e2 : (exT (impI M j)).2.2 = exF (impI M j) kk jj := by rw [g5]
    obtain ⟨u, u1, u2⟩ := wayFault8 (f0 := y1) (q0 := y2) (o0 := y3) (st0 := y4) (wc := y5) (tu := y6) (F := F) (by omega) hR i1.w2 hX2 hE2
    cases hb : betterB (impI M j) with
    | false =>
      left
      have em : impN M = j := by
        apply Classical.byContradiction
        intro q
        have := betterB_lt (M := M) (j := j) (by omega)
        rw [hb] at this; cases this
      have hnb := of_decide_eq_false hb
      refine ⟨(jI (j : Nat), ys, u.2.1, u.2.2.1, u.2.2.2.1, u.2.2.2.2.1, u.2.2.2.2.2.1, u.2.2.2.2.2.2, jI (exT (impI M j)).1, jI (exT (impI M j)).2.1, jI (exT (impI M j)).2.2, yh), ⟨by rw [em], by rw [em]; exact hR⟩, fun j5 self => ?_⟩
      simp only [mX8_improve_L20, u1, bnd_s, u2]
      rw [jle_t (by omega) (by omega) (by omega)]
    | true =>
      right
      have hlt : j < impN M := by
        apply Classical.byContradiction
        intro q
        have : j = impN M := by omega
        rw [this, m2] at hb; cases hb
      have hbt := of_decide_eq_true hb
      obtain ⟨s', s1, s2⟩ := exchanges8 hR i1 i2 rfl rfl
      obtain ⟨q1, q2, q3⟩ := impS_wf i1 i2
      obtain ⟨z, z1, z2, z3, z4, z5⟩ := looks8 (f1 := u.2.1) (f2 := u.2.2.1) (f3 := u.2.2.2.1) (f4 := u.2.2.2.2.1) (i1 := u.2.2.2.2.2.1) (i2 := u.2.2.2.2.2.2) (bA := jI (exT (impI M j)).1) (bM := jI (exT (impI M j)).2.1) (bF := jI (exT (impI M j)).2.2) (ih := yh) (F := F) (by omega) s2 q1 q2
      refine ⟨by omega, (jI ((j + 1 : Nat) : Int), z.1, z.2.1, z.2.2.1, z.2.2.2.1, z.2.2.2.2.1, z.2.2.2.2.2.1, z.2.2.2.2.2.2.1, z.2.2.2.2.2.2.2.1, z.2.2.2.2.2.2.2.2.1, z.2.2.2.2.2.2.2.2.2.1, z.2.2.2.2.2.2.2.2.2.2), ⟨rfl, by omega, z2, z3, z4, z5⟩, fun j5 self => ?_⟩
      simp only [mX8_improve_L20, u1, bnd_s, u2, s1, z1, jS]
      rw [jle_f (by omega) (by omega) (by omega)]) ⟨jl_0, by omega, h, hA, hM, hB⟩ (by omega)
  obtain ⟨z, ⟨z1, z2⟩, z3⟩ := key
  exact ⟨z, z3 j5, z1, z2⟩
end IM
