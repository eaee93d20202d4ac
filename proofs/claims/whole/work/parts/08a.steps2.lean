/-! STEPS, second part: doors, exchanges, snapshot, undo, texts, and the calls that change nothing -/
section ST2
variable {hs ik st len : Int32} {o1 o2 : MZ} {o3 : HS} {o4 : PT} {s kept past text bg far qu f3 f4 f5 f6 ih : nF} {i1 i2 bA bM bF pl re wi hi : Int32} {F : Nat} {w5 w6 w7 : WY} {w8 : WK} {e10 : EX} {a b c : Int} {g1 g2 g3 : Int32}
theorem door_s (hF : 400 < F) (hI : INV hs o1 o2 o3 o4 s kept ik past st text len) (ha : -2147483648 ≤ a ∧ a < 2147483648) (hb : -2147483648 ≤ b ∧ b < 2147483648) (hc : -2147483648 ≤ c ∧ c < 2147483648) :
    ∃ o o', mX7_door F o1 o3 (jI a) (jI b) (jI c) = some o ∧ mX8_door F s bg past st (jI a) (jI b) (jI c) = some o' ∧ o.1 = o'.1 ∧ INV hs (o1.1, o1.2.1, o1.2.2.1, o1.2.2.2.1, o.2.1.1, o.2.1.2) o2 o.2.2 o4 o'.2.1 kept ik o'.2.2.2.1 o'.2.2.2.2 text len := by
  have hI0 := hI
  obtain ⟨M, n, H, kb, K, L, ch, hC, k1, k2, k3, k4, k5⟩ := hI
  have i1 := hC.1
  have i2 := hC.2.1
  have i3 := hC.2.2.1
  have hN := dm_le i1.1
  have hE : mE M < mN M := i1.2.2.2.2.1.1
  have hEs : mEs M < 4 := i1.2.2.2.2.1.2.1
  have hX : mX M < mN M := i1.2.2.2.2.2.1.1
  have hXs : mXs M < 4 := i1.2.2.2.2.2.1.2.1
  unfold mX7_door mX8_door
  rw [isDoor3 ha, bnd_s, begins8 (by omega), bnd_s, in8l 0 1 j_0 j_1 ha (by omega) (by omega), bnd_s]
  simp only [jn_e, ifb]
  by_cases h0 : 0 ≤ a ∧ a < 2
  · rw [if_pos (decide_eq_true h0), if_pos (decide_eq_true (show 0 ≤ a ∧ a ≤ 1 by omega)), hasCell3 i2 i1.1 hb, bnd_s, ifb, isCell8 i3 i1.1 hb, bnd_s, ifb]
    by_cases h1 : 0 ≤ b ∧ b < (mN M : Int)
    · rw [if_pos (decide_eq_true h1), if_pos (decide_eq_true h1), isDir3 hc, bnd_s, ifb, in8l 0 3 j_0 j_3 hc (by omega) (by omega), bnd_s, ifb]
      obtain ⟨p, rfl⟩ := Int.eq_ofNat_of_zero_le h1.1
      have hp : p < mN M := by omega
      by_cases h2 : 0 ≤ c ∧ c < 4
      · obtain ⟨d, rfl⟩ := Int.eq_ofNat_of_zero_le h2.1
        have hd4 : d < 4 := by omega
        rw [if_pos (decide_eq_true h2), if_pos (decide_eq_true (show 0 ≤ (d : Int) ∧ (d : Int) ≤ 3 by omega)), besides8 i3 i1.1 hp hd4, bnd_s]
        have ha2 : a = 0 ∨ a = 1 := by omega
        rcases ha2 with rfl | rfl
        · rw [if_pos (show jI 0 = 0 by decide), beside3 i2 i1.1 hp hd4, bnd_s]
          cases hn : nb (mC M) (mN M) p d with
          | some o =>
            have hno := num_lt i1.1 hp hd4 hn
            rw [oJ_some, if_neg (show ¬ jI (o : Nat) = (-1 : Int32) by rw [nem1 (by omega)]; exact id), if_pos (show (0 : Int32) ≤ jI (o : Nat) by rw [n0l (by omega)]; trivial)]
            exact ⟨_, _, rfl, rfl, rfl, hI0⟩
          | none =>
            have e1 : (4 : Int32) - (2 : Int32) * jI 0 = jI ((4 : Nat) : Int) := by decide
            have e2 : (2 : Int32) + (2 : Int32) * jI 0 = jI ((2 : Nat) : Int) := by decide
            have e3 : jI ((4 : Nat) : Int) + (1 : Int32) = jI ((5 : Nat) : Int) := by decide
            have e4 : jI ((2 : Nat) : Int) + (1 : Int32) = jI ((3 : Nat) : Int) := by decide
            rw [oJ_none, if_pos (show jI (-1) = (-1 : Int32) by decide), if_neg (show ¬ ((0 : Int32) ≤ jI (-1)) by decide), show (1 : Int32) = jI ((1 : Nat) : Int) from jl_1, isDoorAt3 (o := 1) (by omega) i2.2.2.2.2.2.1 i2.2.2.2.2.2.2.2 (by omega) (by omega) (by omega) (by omega), bnd_s, ifb, ← jl_1, e1, e2, e3, e4]
            rw [gdi (by omega) (by omega), jcl 4 (by omega), i3.2.2.2.2.1]
            by_cases hq : mX M = p ∧ mXs M = d
            · rw [if_pos (decide_eq_true hq), neq_t hq.1, gdi (by omega) (by omega), jcl 5 (by omega), i3.2.2.2.2.2.1, neq_t hq.2]
              exact ⟨_, _, rfl, rfl, rfl, hI0⟩
            · rw [if_neg (dnf hq)]
              have hM : WF (setD M ((p, d), (mX M, mXs M))) := ⟨i1.1, i1.2.1, i1.2.2.1, i1.2.2.2.1, ⟨hp, hd4, hn⟩, i1.2.2.2.2.2.1, fun z => hq ⟨z.1.symm, z.2.symm⟩⟩
              have h3 : R3 (o1.1, o1.2.1, o1.2.2.1, o1.2.2.2.1, upd o1.2.2.2.2.1 0 (jI (p : Nat)), upd o1.2.2.2.2.2 0 (jI (d : Nat))) (setD M ((p, d), (mX M, mXs M))) := by
                obtain ⟨q1, q2, q3, q4, q5, q6, q7, q8⟩ := i2
                exact R3_mk q1 q2 q3 q4 upd_s ((upd_n (by omega)).trans q6) upd_s ((upd_n (by omega)).trans q8)
              have h8 : R8 (upd (upd s 2 (jI (p : Nat))) 3 (jI (d : Nat))) (setD M ((p, d), (mX M, mXs M))) := by
                obtain ⟨q1, q2, q3, q4, q5, q6, q7, q8⟩ := i3
                refine ⟨?_, ?_, ?_, ?_, ?_, ?_, fun x hx => ?_, fun k hk => ?_⟩
                · rw [upd_n (by omega), upd_n (by omega)]; exact q1
                · rw [upd_n (by omega), upd_n (by omega)]; exact q2
                · rw [upd_n (by omega), upd_s]; rfl
                · rw [upd_s]; rfl
                · rw [upd_n (by omega), upd_n (by omega)]; exact q5
                · rw [upd_n (by omega), upd_n (by omega)]; exact q6
                · rw [upd_n (by omega), upd_n (by omega)]; exact q7 x hx
                · rw [upd_n (by omega), upd_n (by omega)]; exact q8 k hk
              obtain ⟨h', p', m1, m2, m3⟩ := mutate (F := F) (bg := bg) (a := (mE M : Int)) (by omega) hC hM h3 h8 (by omega)
              have hj11 : ∀ A B : Option (Int32 × nF × nF × nF × Int32), (if jI (mX M : Nat) = jI (p : Nat) then gd (inb (jI ((5 : Nat) : Int)) 114) (if s (jI ((5 : Nat) : Int)).toNatClampNeg = jI (d : Nat) then A else B) else B) = B := by
                intro A B
                by_cases z : mX M = p
                · rw [neq_t z, gdi (by omega) (by omega), jcl 5 (by omega), i3.2.2.2.2.2.1, neq_f (fun y => hq ⟨z, y⟩) (by omega) (by omega)]
                · rw [neq_f z (by omega) (by omega)]
              rw [hj11, gdi (by omega) (by omega), gdi (by omega) (by omega), gdi (by omega) (by omega), jcl 2 (by omega), jcl 3 (by omega), i3.2.2.1]
              rw [show jI 0 = jI ((0 : Nat) : Int) from rfl, at_i (show 0 < 2 by omega) (by omega), bnd_s, m1, bnd_s, put_i (show 0 < 2 by omega) (by omega), bnd_s, put_i (show 0 < 2 by omega) (by omega), bnd_s, m2, bnd_s]
              exact ⟨_, _, rfl, rfl, i2.2.2.2.2.1, _, _, _, kb, K, L, ch, m3, k1, k2, k3, k4, k5⟩
        · rw [if_neg (show ¬ (jI 1 = 0) by decide), beside3 i2 i1.1 hp hd4, bnd_s]
          cases hn : nb (mC M) (mN M) p d with
          | some o =>
            have hno := num_lt i1.1 hp hd4 hn
            rw [oJ_some, if_neg (show ¬ jI (o : Nat) = (-1 : Int32) by rw [nem1 (by omega)]; exact id), if_pos (show (0 : Int32) ≤ jI (o : Nat) by rw [n0l (by omega)]; trivial)]
            exact ⟨_, _, rfl, rfl, rfl, hI0⟩
          | none =>
            have e1 : (4 : Int32) - (2 : Int32) * jI 1 = jI ((2 : Nat) : Int) := by decide
            have e2 : (2 : Int32) + (2 : Int32) * jI 1 = jI ((4 : Nat) : Int) := by decide
            have e3 : jI ((4 : Nat) : Int) + (1 : Int32) = jI ((5 : Nat) : Int) := by decide
            have e4 : jI ((2 : Nat) : Int) + (1 : Int32) = jI ((3 : Nat) : Int) := by decide
            rw [oJ_none, if_pos (show jI (-1) = (-1 : Int32) by decide), if_neg (show ¬ ((0 : Int32) ≤ jI (-1)) by decide), show (0 : Int32) = jI ((0 : Nat) : Int) from jl_0, isDoorAt3 (o := 0) (by omega) i2.2.2.2.2.1 i2.2.2.2.2.2.2.1 (by omega) (by omega) (by omega) (by omega), bnd_s, ← jl_0, ifb, e1, e2, e3, e4]
            rw [gdi (by omega) (by omega), jcl 2 (by omega), i3.2.2.1]
            by_cases hq : mE M = p ∧ mEs M = d
            · rw [if_pos (decide_eq_true hq), neq_t hq.1, gdi (by omega) (by omega), jcl 3 (by omega), i3.2.2.2.1, neq_t hq.2]
              exact ⟨_, _, rfl, rfl, rfl, hI0⟩
            · rw [if_neg (dnf hq)]
              have hM : WF (setD M ((mE M, mEs M), (p, d))) := ⟨i1.1, i1.2.1, i1.2.2.1, i1.2.2.2.1, i1.2.2.2.2.1, ⟨hp, hd4, hn⟩, hq⟩
              have h3 : R3 (o1.1, o1.2.1, o1.2.2.1, o1.2.2.2.1, upd o1.2.2.2.2.1 1 (jI (p : Nat)), upd o1.2.2.2.2.2 1 (jI (d : Nat))) (setD M ((mE M, mEs M), (p, d))) := by
                obtain ⟨q1, q2, q3, q4, q5, q6, q7, q8⟩ := i2
                exact R3_mk q1 q2 q3 q4 ((upd_n (by omega)).trans q5) upd_s ((upd_n (by omega)).trans q7) upd_s
              have h8 : R8 (upd (upd s 4 (jI (p : Nat))) 5 (jI (d : Nat))) (setD M ((mE M, mEs M), (p, d))) := by
                obtain ⟨q1, q2, q3, q4, q5, q6, q7, q8⟩ := i3
                refine ⟨?_, ?_, ?_, ?_, ?_, ?_, fun x hx => ?_, fun k hk => ?_⟩
                · rw [upd_n (by omega), upd_n (by omega)]; exact q1
                · rw [upd_n (by omega), upd_n (by omega)]; exact q2
                · rw [upd_n (by omega), upd_n (by omega)]; exact q3
                · rw [upd_n (by omega), upd_n (by omega)]; exact q4
                · rw [upd_n (by omega), upd_s]; rfl
                · rw [upd_s]; rfl
                · rw [upd_n (by omega), upd_n (by omega)]; exact q7 x hx
                · rw [upd_n (by omega), upd_n (by omega)]; exact q8 k hk
              obtain ⟨h', p', m1, m2, m3⟩ := mutate (F := F) (bg := bg) (a := (mX M : Int)) (by omega) hC hM h3 h8 (by omega)
              have hj11 : ∀ A B : Option (Int32 × nF × nF × nF × Int32), (if jI (mE M : Nat) = jI (p : Nat) then gd (inb (jI ((3 : Nat) : Int)) 114) (if s (jI ((3 : Nat) : Int)).toNatClampNeg = jI (d : Nat) then A else B) else B) = B := by
                intro A B
                by_cases z : mE M = p
                · rw [neq_t z, gdi (by omega) (by omega), jcl 3 (by omega), i3.2.2.2.1, neq_f (fun y => hq ⟨z, y⟩) (by omega) (by omega)]
                · rw [neq_f z (by omega) (by omega)]
              rw [hj11, gdi (by omega) (by omega), gdi (by omega) (by omega), gdi (by omega) (by omega), jcl 4 (by omega), jcl 5 (by omega), i3.2.2.2.2.1]
              rw [show jI 1 = jI ((1 : Nat) : Int) from rfl, at_i (show 1 < 2 by omega) (by omega), bnd_s, m1, bnd_s, put_i (show 1 < 2 by omega) (by omega), bnd_s, put_i (show 1 < 2 by omega) (by omega), bnd_s, m2, bnd_s]
              exact ⟨_, _, rfl, rfl, i2.2.2.2.2.2.1, _, _, _, kb, K, L, ch, m3, k1, k2, k3, k4, k5⟩
      · rw [if_neg (dnf h2), if_neg (dnf (show ¬ (0 ≤ c ∧ c ≤ 3) by omega))]
        exact ⟨_, _, rfl, rfl, rfl, hI0⟩
    · rw [if_neg (dnf h1), if_neg (dnf h1)]
      exact ⟨_, _, rfl, rfl, rfl, hI0⟩
  · rw [if_neg (dnf h0), if_neg (dnf (show ¬ (0 ≤ a ∧ a ≤ 1) by omega))]
    exact ⟨_, _, rfl, rfl, rfl, hI0⟩
theorem exchange_s (hF : 400 < F) (hI : INV hs o1 o2 o3 o4 s kept ik past st text len) :
    ∃ o o', mX7_exchange F o1 o3 w6 w7 e10 = some o ∧ mX8_exchange F s bg past st far qu f3 f4 i1 i2 bA bM bF ih = some o' ∧ o.1 = o'.1 ∧ INV hs (o1.1, o1.2.1, o1.2.2.1, o.2.1, o1.2.2.2.2.1, o1.2.2.2.2.2) o2 o.2.2.1 o4 o'.2.1 kept ik o'.2.2.2.1 o'.2.2.2.2.1 text len := by
  have hI0 := hI
  obtain ⟨M, n, H, kb, K, L, ch, hC, k1, k2, k3, k4, k5⟩ := hI
  have j1 := hC.1
  have j2 := hC.2.1
  have j3 := hC.2.2.1
  have hN := dm_le j1.1
  have hE : mE M < mN M := j1.2.2.2.2.1.1
  have hX : mX M < mN M := j1.2.2.2.2.2.1.1
  unfold mX7_exchange mX8_exchange
  rw [isWhole3 (by omega) j2 j1.1 j1.2.2.1, bnd_s, begins8 (by omega), bnd_s, isWhole8 (by omega) j3 j1.1, bnd_s]
  simp only [jn_e, ifb]
  by_cases h1 : partI M = 1
  · rw [if_pos (decide_eq_true h1), if_pos (decide_eq_true h1)]
    obtain ⟨g, y1, y2, hf⟩ := findBetter3 (F := F) (w1 := w6) (w2 := w7) (ex := e10) (by omega) j2 j1 h1
    obtain ⟨z, z1, z2, z3, z4, z5⟩ := looks8 (F := F) (f1 := far) (f2 := qu) (f3 := f3) (f4 := f4) (i1 := i1) (i2 := i2) (bA := bA) (bM := bM) (bF := bF) (ih := ih) (by omega) j3 j1 h1
    obtain ⟨u, u1, u2⟩ := wayFault8 (F := F) (f0 := z.2.1) (q0 := z.2.2.1) (o0 := z.2.2.2.1) (st0 := z.2.2.2.2.1) (wc := z.2.2.2.2.2.1) (tu := z.2.2.2.2.2.2.1) (by omega) z2 j1.w2 hX hE
    have hfb := fault_b j1.w2 j1.2.1 hX
    obtain ⟨kk, jj, g1, g2, g3, g4, g5⟩ := exT_found j1 h1
    have hxb := exF_b j1 g2 g4
    have e2 : (exT M).2.2 = exF M kk jj := by rw [g5]
    rw [hf, bnd_s, ifb, z1, bnd_s, u1, bnd_s, z5, u2]
    cases hb : betterB M with
    | false =>
      have hnb := of_decide_eq_false hb
      rw [if_neg (show ¬ (false = true) from Bool.noConfusion), jlt_f (by omega) (by omega) (by omega)]
      refine ⟨_, _, rfl, rfl, rfl, M, n, H, kb, K, L, ch, ⟨j1, j2, z2, hC.2.2.2⟩, k1, k2, k3, k4, k5⟩
    | true =>
      have hbt := of_decide_eq_true hb
      rw [if_pos rfl, jlt_t (by omega) (by omega) hbt]
      obtain ⟨hM, hM1, hMf⟩ := impS_wf j1 h1
      obtain ⟨p, p1, p2⟩ := apply3 (e := (jI (exT M).1, jI (exT M).2.1, jI (faultI M (mX M)), jI (exT M).2.2, jI (toneS M : Nat), g)) j2 j1 h1 rfl rfl
      obtain ⟨s', s1, s2⟩ := exchanges8 z2 j1 h1 z3 z4
      have hE2 : mE (impS M) < mN (impS M) := hM.2.2.2.2.1.1
      have hX2 : mX (impS M) < mN (impS M) := hM.2.2.2.2.2.1.1
      obtain ⟨u', v1, v2⟩ := wayFault8 (F := F) (f0 := u.2.1) (q0 := u.2.2.1) (o0 := u.2.2.2.1) (st0 := u.2.2.2.2.1) (wc := u.2.2.2.2.2.1) (tu := u.2.2.2.2.2.2) (by omega) s2 hM.w2 hX2 hE2
      obtain ⟨h', p', m1, m2, m3⟩ := mutate (F := F) (bg := bg) (a := (exT M).2.2) (by omega) hC hM p2 s2 (by omega)
      rw [m1, bnd_s, p1, bnd_s, s1, bnd_s, v1, bnd_s, v2, hMf, m2, bnd_s]
      exact ⟨_, _, rfl, rfl, rfl, _, _, _, kb, K, L, ch, m3, k1, k2, k3, k4, k5⟩
  · rw [if_neg (dnf h1), if_neg (dnf h1)]
    exact ⟨_, _, rfl, rfl, rfl, hI0⟩
theorem improve_s (hF : 400 < F) (hI : INV hs o1 o2 o3 o4 s kept ik past st text len) :
    ∃ o o', mX7_improve F o1 o3 w6 w7 e10 = some o ∧ mX8_improve F s bg past st far qu f3 f4 i1 i2 bA bM bF ih = some o' ∧ o.1 = o'.1 ∧ INV hs (o1.1, o1.2.1, o1.2.2.1, o.2.1, o1.2.2.2.2.1, o1.2.2.2.2.2) o2 o.2.2.1 o4 o'.2.1 kept ik o'.2.2.2.1 o'.2.2.2.2.1 text len := by
  have hI0 := hI
  obtain ⟨M, n, H, kb, K, L, ch, hC, k1, k2, k3, k4, k5⟩ := hI
  have j1 := hC.1
  have j2 := hC.2.1
  have j3 := hC.2.2.1
  have hN := dm_le j1.1
  unfold mX7_improve mX8_improve
  rw [isWhole3 (by omega) j2 j1.1 j1.2.2.1, bnd_s, ifb, begins8 (by omega), bnd_s, isWhole8 (by omega) j3 j1.1, bnd_s, ifb]
  by_cases h1 : partI M = 1
  · rw [if_pos (decide_eq_true h1), if_pos (decide_eq_true h1)]
    obtain ⟨hm1, hm2⟩ := impN_spec j1 h1
    obtain ⟨hM, -, -⟩ := impI_wf j1 h1 (impN M) (Nat.le_refl _)
    obtain ⟨z, z1, z2, z3, z4, z5⟩ := looks8 (F := F) (f1 := far) (f2 := qu) (f3 := f3) (f4 := f4) (i1 := i1) (i2 := i2) (bA := bA) (bM := bM) (bF := bF) (ih := ih) (by omega) j3 j1 h1
    obtain ⟨y, y1, y2, y3⟩ := improve_in8 (F := F) (f1 := z.2.1) (f2 := z.2.2.1) (f3 := z.2.2.2.1) (f4 := z.2.2.2.2.1) (i1 := z.2.2.2.2.2.1) (i2 := z.2.2.2.2.2.2.1) (bA := z.2.2.2.2.2.2.2.1) (bM := z.2.2.2.2.2.2.2.2.1) (bF := z.2.2.2.2.2.2.2.2.2.1) (ih := z.2.2.2.2.2.2.2.2.2.2) (j5 := mX8_improve_K45 F past st (mix 114 s bg)) (by omega) z2 j1 h1 z3 z4 z5
    -- the history first: any passages
    obtain ⟨h0, -, m0, -, -⟩ := mutate (F := F) (bg := bg) (a := 0) (M' := M) (o1' := o1) (s' := s) (by omega) hC j1 j2 j3 (by omega)
    obtain ⟨p, x, p1, p2⟩ := improve_in3 (F := F) (w1 := w6) (w2 := w7) (ex := e10) (hs := h0) (by omega) j2 j1 h1
    obtain ⟨h', p', m1, m2, m3⟩ := mutate (F := F) (bg := bg) (a := (impN M : Int)) (by omega) hC hM p2 y3 (by omega)
    have eh : h0 = h' := by
      rw [m0] at m1
      exact Option.some.inj m1
    rw [z1, bnd_s]
    simp only [jn_e]
    rw [m0, bnd_s, p1, y1]
    simp only [mX8_improve_K45, y2]
    rw [m2, bnd_s]
    subst eh
    exact ⟨_, _, rfl, rfl, rfl, _, _, _, kb, K, L, ch, m3, k1, k2, k3, k4, k5⟩
  · rw [if_neg (dnf h1), if_neg (dnf h1)]
    exact ⟨_, _, rfl, rfl, rfl, hI0⟩
theorem cnt_b {M : Mz} (hw : WF M) : cnt (mO M) (2 * mN M) ≤ 72 := by
  have hN := dm_le hw.1
  have := cnt_le2 (op := mO M) (2 * mN M)
  omega
theorem keep_s (hF : 400 < F) (hI : INV hs o1 o2 o3 o4 s kept ik past st text len) :
    ∃ o o', mX7_keep F hs o1 o2 = some o ∧ mX8_keep F s kept ik = some o' ∧ o.1 = o'.1 ∧ INV o.2.1 o1 o.2.2 o3 o4 s o'.2.1 o'.2.2 past st text len := by
  obtain ⟨M, n, H, kb, K, L, ch, hC, k1, k2, k3, k4, k5⟩ := hI
  have j1 := hC.1
  have j2 := hC.2.1
  have j3 := hC.2.2.1
  obtain ⟨r, r1, r2⟩ := copyFrom3_R (v := o2) (F := F) (by omega) j2 j1.1
  unfold mX7_keep
  rw [r1, bnd_s, gz1, passageCount3 (by omega) j2 j1.1 j1.2.2.1, bnd_s, keep8 (by omega) j3 j1.1]
  exact ⟨_, _, rfl, rfl, rfl, M, n, H, true, M, L, ch, hC, rfl, rfl, fun _ => ⟨j1, r2, R8_mix j3 j1.1⟩, k4, k5⟩
theorem restore_s (hF : 400 < F) (hI : INV hs o1 o2 o3 o4 s kept ik past st text len) :
    ∃ o o', mX7_restore F hs o1 o2 o3 = some o ∧ mX8_restore F s bg kept ik past st = some o' ∧ o.1 = o'.1 ∧ INV hs o.2.1 o2 o.2.2 o4 o'.2.1 kept ik o'.2.2.2.1 o'.2.2.2.2 text len := by
  have hI0 := hI
  obtain ⟨M, n, H, kb, K, L, ch, hC, k1, k2, k3, k4, k5⟩ := hI
  have j1 := hC.1
  have j2 := hC.2.1
  have j3 := hC.2.2.1
  unfold mX7_restore mX8_restore
  rw [begins8 (by omega), bnd_s, k1, k2, ifb, ifb]
  cases hkb : kb with
  | false =>
    rw [if_neg (show ¬ (false = true) from Bool.noConfusion), if_neg (show ¬ (false = true) from Bool.noConfusion)]
    rw [k1, k2, hkb] at hI0
    exact ⟨_, _, rfl, rfl, rfl, hI0⟩
  | true =>
    obtain ⟨q1, q2, q3⟩ := k3 hkb
    rw [if_pos rfl, if_pos rfl]
    obtain ⟨r, r1, r2⟩ := copyFrom3_R (v := o1) (F := F) (by omega) q2 q1.1
    have h8 : R8 (mix 114 kept s) K := R8_mix q3 q1.1
    have hcb := cnt_b q1
    obtain ⟨h', p', m1, m2, m3⟩ := mutate (F := F) (bg := bg) (a := (cnt (mO K) (2 * mN K) : Int)) (by omega) hC q1 r2 h8 (by omega)
    have hloop := lpr_fn (L := mX8_restore_L16 kept (mX8_restore_K40 F past st (mix 114 s bg))) (e := mX8_restore_K40 F past st (mix 114 s bg) (mix 114 kept s)) (F := F) (fun i => (jI (i : Nat), mix i kept s)) 114 (by
      intro i hi self
      simp only [mX8_restore_L16, jl_114]
      rw [nle_f hi (by omega), gdi hi (by omega), gdi hi (by omega), jcl _ (by omega), jS, mix_S]) (by
      intro self
      simp only [mX8_restore_L16, jl_114]
      rw [nle_t (Nat.le_refl _) (by omega)]) (by omega)
    simp only [mix_0] at hloop
    have hloop' : lpr (mX8_restore_L16 kept (mX8_restore_K40 F past st (mix 114 s bg))) F ((0 : Int32), s) = _ := hloop
    simp only [jn_e]
    rw [m1, bnd_s, r1, bnd_s, passageCount3 (by omega) r2 q1.1 q1.2.2.1, bnd_s, hloop']
    simp only [mX8_restore_K40]
    rw [passages8 (by omega) h8 q1.1, bnd_s, m2, bnd_s]
    exact ⟨_, _, rfl, rfl, rfl, _, _, _, kb, K, L, ch, m3, by rw [hkb], by rw [hkb], k3, k4, k5⟩
theorem undo_s (hF : 400 < F) (hI : INV hs o1 o2 o3 o4 s kept ik past st text len) :
    ∃ o o', mX7_undo F o1 o3 = some o ∧ mX8_undo F s past st = some o' ∧ o.1 = o'.1 ∧ INV hs o.2.1 o2 (o.2.2, o3.2.1, o3.2.2) o4 o'.2.1 kept ik past o'.2.2 text len := by
  have hI0 := hI
  obtain ⟨M, n, H, kb, K, L, ch, hC, k1, k2, k3, k4, k5⟩ := hI
  obtain ⟨j1, j2, j3, j4, j5, j6, j7⟩ := hC
  unfold mX7_undo
  rw [j6]
  cases n with
  | zero =>
    rw [pop3_0 j4, bnd_s, undo8_0]
    rw [if_pos (show (0 : Int32) = 0 from rfl)]
    refine ⟨_, _, rfl, rfl, rfl, M, 0, H, kb, K, L, ch, ⟨j1, j2, j3, ⟨rfl, by omega, fun i hi => by omega⟩, j5, rfl, j7⟩, k1, k2, k3, k4, k5⟩
  | succ k =>
    have hk4 := j4.2.1
    obtain ⟨r, r1, r2⟩ := pop3_S (v := o1) (F := F) (by omega) j4 (j7 k (by omega)).1
    obtain ⟨s', s1, s2⟩ := undo8_S (s := s) (F := F) (by omega) (by omega) j5 (j7 k (by omega)).1
    rw [r1, bnd_s, s1, if_neg (show ¬ ((1 : Int32) = 0) by decide)]
    refine ⟨_, _, rfl, rfl, rfl, H k, k, H, kb, K, L, ch, ⟨j7 k (by omega), r2, s2, ⟨rfl, by omega, fun i hi => j4.2.2 i (by omega)⟩, fun i hi => j5 i (by omega), rfl, fun i hi => j7 i (by omega)⟩, k1, k2, k3, k4, k5⟩
theorem type_s (hI : INV hs o1 o2 o3 o4 s kept ik past st text len) (ha : -2147483648 ≤ a ∧ a < 2147483648) :
    ∃ o o', mX7_type o4 (jI a) = some o ∧ mX8_type text len (jI a) = some o' ∧ o.1 = o'.1 ∧ INV hs o1 o2 o3 (o.2.1, o4.2.1, o4.2.2.1, o.2.2, o4.2.2.2.2.1, o4.2.2.2.2.2.1, o4.2.2.2.2.2.2) s kept ik past st o'.2.1 o'.2.2 := by
  have hI0 := hI
  obtain ⟨M, n, H, kb, K, L, ch, hC, k1, k2, k3, k4, k5⟩ := hI
  obtain ⟨t1, t2, t3⟩ := k5
  unfold mX7_type mX8_type
  rw [in8l 32 126 j_32 j_126 ha (by omega) (by omega), bnd_s, ifb]
  simp only [jn_e]
  by_cases h1 : 32 ≤ a ∧ a ≤ 126
  · obtain ⟨p, rfl⟩ := Int.eq_ofNat_of_zero_le (show 0 ≤ a by omega)
    rw [j_32, jlt_f ha (by omega) (by omega), j_126, jle_t ha (by omega) (by omega), if_pos (decide_eq_true h1), t1, k4, jl_60]
    by_cases h2 : L < 60
    · rw [nlt_t h2 (by omega), neq_f (by omega) (by omega) (by omega), put_i h2 (by omega), bnd_s, gdi h2 (by omega), jcl _ (by omega), jS]
      refine ⟨_, _, rfl, rfl, rfl, M, n, H, kb, K, L + 1, set1 ch L p, hC, k1, k2, k3, rfl, rfl, by omega, fun i hi => ?_⟩
      show upd o4.2.2.2.1 L (jI (p : Nat)) i = _ ∧ upd text L (jI (p : Nat)) i = _ ∧ _
      by_cases z : i = L
      · subst z
        rw [upd_s, upd_s, set1_s]
        exact ⟨rfl, rfl, by omega, by omega⟩
      · rw [upd_n z, upd_n z, set1_n z]
        exact t3 i (by omega)
    · have hL : L = 60 := by omega
      rw [nlt_f (by omega) (by omega), neq_t hL]
      exact ⟨_, _, rfl, rfl, rfl, M, n, H, kb, K, L, ch, hC, k1, k2, k3, rfl, rfl, by omega, t3⟩
  · rw [if_neg (dnf h1)]
    have hcl : ∀ A : Option (Int32 × (Int32 × nF)), (if jI a < (32 : Int32) then some ((-1 : Int32), (o4.1, o4.2.2.2.1)) else if jI a ≤ (126 : Int32) then A else some ((-1 : Int32), (o4.1, o4.2.2.2.1))) = some ((-1 : Int32), (o4.1, o4.2.2.2.1)) := by
      intro A
      rw [j_32, j_126]
      by_cases z : a < 32
      · rw [jlt_t ha (by omega) z]
      · rw [jlt_f ha (by omega) (by omega), jle_f ha (by omega) (by omega)]
    rw [hcl]
    exact ⟨_, _, rfl, rfl, rfl, hI0⟩
theorem clear_s (hI : INV hs o1 o2 o3 o4 s kept ik past st text len) :
    ∃ o o', mX7_clearText o4 = some o ∧ mX8_clearText len = some o' ∧ o.1 = o'.1 ∧ INV hs o1 o2 o3 (o.2, o4.2.1, o4.2.2.1, o4.2.2.2.1, o4.2.2.2.2.1, o4.2.2.2.2.2.1, o4.2.2.2.2.2.2) s kept ik past st text o'.2 := by
  obtain ⟨M, n, H, kb, K, L, ch, hC, k1, k2, k3, k4, k5⟩ := hI
  exact ⟨_, _, rfl, rfl, k5.1.trans k4.symm, M, n, H, kb, K, 0, ch, hC, k1, k2, k3, rfl, rfl, by omega, fun i hi => by omega⟩
theorem fault_s (hF : 400 < F) (hI : INV hs o1 o2 o3 o4 s kept ik past st text len) (ha : -2147483648 ≤ a ∧ a < 2147483648) :
    ∃ o o', mX7_fault F o4 (jI a) = some o ∧ mX8_fault F text len pl re wi hi (jI a) = some o' ∧ o.1 = o'.1 ∧ INV hs o1 o2 o3 (o4.1, o.2.1, o.2.2.1, o4.2.2.2.1, o.2.2.2.1, o.2.2.2.2.1, o.2.2.2.2.2) s kept ik past st text len := by
  obtain ⟨M, n, H, kb, K, L, ch, hC, k1, k2, k3, k4, k5⟩ := hI
  obtain ⟨z, z1⟩ := fault3 (F := F) (by omega) k5 ha
  obtain ⟨y, y1⟩ := fault8 (F := F) (pl := pl) (re := re) (wi := wi) (hi := hi) (by omega) k5 ha
  rw [z1, k4, y1]
  exact ⟨_, _, rfl, rfl, rfl, M, n, H, kb, K, L, ch, hC, k1, k2, k3, rfl, k5⟩
theorem read_s (hF : 400 < F) (hI : INV hs o1 o2 o3 o4 s kept ik past st text len) :
    ∃ o o', mX7_read F o1 o3 o4 = some o ∧ mX8_read F s bg past st text len pl re wi hi = some o' ∧ o.1 = o'.1 ∧ INV hs o.2.1 o2 o.2.2.1 (o4.1, o.2.2.2.1, o.2.2.2.2.1, o4.2.2.2.1, o.2.2.2.2.2.1, o.2.2.2.2.2.2.1, o.2.2.2.2.2.2.2) o'.2.1 kept ik o'.2.2.2.1 o'.2.2.2.2.1 text len := by
  obtain ⟨M, n, H, kb, K, L, ch, hC, k1, k2, k3, k4, k5⟩ := hI
  have j1 := hC.1
  have j2 := hC.2.1
  have j3 := hC.2.2.1
  have hfb := fin_b (ch := ch) (L := L)
  obtain ⟨z, z1, z2, z3, z4, z5⟩ := look3 (F := F) (by omega) k5
  obtain ⟨y, y1, y2, y3, y4⟩ := isPicture8 (F := F) (pl := pl) (re := re) (wi := wi) (hi := hi) (by omega) k5
  unfold mX7_read mX8_read
  rw [z1, bnd_s, z3, begins8 (by omega), bnd_s, k4, y1, bnd_s, y2, ifb]
  by_cases hok : (fin ch L).1 = 0
  · rw [if_pos (show jI ((fin ch L).1 : Nat) = 0 by rw [hok]; decide), if_pos (decide_eq_true hok)]
    obtain ⟨y5, y6⟩ := y4 hok
    obtain ⟨q1, q2, -, -⟩ := fin_ok hok
    obtain ⟨r, r1, r2⟩ := paint3 (v := o1) (F := F) (ptz := (o4.1, z.1, z.2.1, o4.2.2.2.1, z.2.2.1, z.2.2.2.1, z.2.2.2.2)) (by omega) k5 hok rfl rfl z4 z5
    obtain ⟨l, l1, l2⟩ := lightens8 (s := s) (F := F) (by omega) q1 q2
    obtain ⟨s', s1, s2⟩ := readTones8 (F := F) (s0 := l) (r2 := y) (wi := wi) (j5 := mX8_read_K67 F past st (mix 114 s bg) y) (by omega) k5 hok y5 l2
    have hM := Mrd_wf hok
    have hN := dm_le hM.1
    obtain ⟨h', p', m1, m2, m3⟩ := mutate (F := F) (bg := bg) (a := (mN (Mrd ch L) : Int)) (by omega) hC hM r2 s2 (by omega)
    rw [m1, bnd_s, y5, y6, l1, bnd_s]
    have r1' : mX4_paint F (o4.1, z.1, jI ((fin ch L).1 : Nat), o4.2.2.2.1, z.2.2.1, z.2.2.2.1, z.2.2.2.2) o1 = some r := by rw [← z3]; exact r1
    rw [r1', bnd_s, cells3 r2, bnd_s]
    simp only [jn_e]
    rw [s1]
    simp only [mX8_read_K67]
    rw [cells8 s2, bnd_s, m2, bnd_s]
    exact ⟨_, _, rfl, rfl, rfl, _, _, _, kb, K, L, ch, m3, k1, k2, k3, rfl, k5⟩
  · rw [if_neg (show ¬ jI ((fin ch L).1 : Nat) = 0 by rw [ne0 (by omega)]; exact hok), if_neg (dnf hok)]
    exact ⟨_, _, rfl, rfl, rfl, M, n, H, kb, K, L, ch, hC, k1, k2, k3, rfl, k5⟩
theorem wres_b {M : Mz} (hw : WF M) : ∀ c, (wres M).2 c ≤ 145 := by
  obtain ⟨z, -, -, -, -, z5⟩ := take3 (F := 1000) (wk := (0, 0, fun _ => 0, fun _ => 0)) (v := vOf M) (by omega) ⟨rfl, rfl, fun _ _ => rfl, fun _ _ => rfl, rfl, rfl, rfl, rfl⟩ hw
  exact z5
theorem cellOf_s (hF : 400 < F) (hI : INV hs o1 o2 o3 o4 s kept ik past st text len) (ha : -2147483648 ≤ a ∧ a < 2147483648) (hb : -2147483648 ≤ b ∧ b < 2147483648) :
    ∃ o o', mX7_cellOf F o1 w5 w6 w7 w8 (jI a) (jI b) = some o ∧ mX8_cellOf F s far qu f3 f4 i1 i2 f5 f6 (jI a) (jI b) = some o' ∧ o.1 = o'.1 := by
  obtain ⟨M, n, H, kb, K, L, ch, hC, -⟩ := hI
  obtain ⟨z, z1⟩ := cellOf3 (F := F) (w1 := w5) (w2 := w6) (w3 := w7) (wk := w8) (by omega) hC.2.1 hC.1 ha hb
  obtain ⟨y, y1⟩ := cellOf8 (F := F) (f0 := far) (q0 := qu) (o0 := f3) (st0 := f4) (wc := i1) (tu := i2) (vi := f5) (ws := f6) (by omega) hC.2.2.1 hC.1 ha hb
  exact ⟨_, _, z1, y1, rfl⟩
theorem doorOf_s (hI : INV hs o1 o2 o3 o4 s kept ik past st text len) (ha : -2147483648 ≤ a ∧ a < 2147483648) (hb : -2147483648 ≤ b ∧ b < 2147483648) :
    ∃ o o', mX7_doorOf o1 (jI a) (jI b) = some o ∧ mX8_doorOf s (jI a) (jI b) = some o' ∧ o = o' := by
  obtain ⟨M, n, H, kb, K, L, ch, hC, -⟩ := hI
  exact ⟨_, _, doorOf3 hC.2.1 ha hb, doorOf8 hC.2.2.1 ha hb, rfl⟩
theorem count_s (hF : 400 < F) (hI : INV hs o1 o2 o3 o4 s kept ik past st text len) (ha : -2147483648 ≤ a ∧ a < 2147483648) :
    ∃ o o', mX7_count F hs o1 o3 o4 (jI a) = some o ∧ mX8_count F s ik st len (jI a) = some o' ∧ o = o' := by
  obtain ⟨M, n, H, kb, K, L, ch, hC, k1, k2, k3, k4, k5⟩ := hI
  obtain ⟨j1, j2, j3, j4, j5, j6, j7⟩ := hC
  rw [k1, k2, j6, k4]
  exact ⟨_, _, count3 (by omega) j2 j1 j4.1 k5.1 ha, count8 (by omega) j3 j1 ha, rfl⟩
theorem way_s (hF : 400 < F) (hI : INV hs o1 o2 o3 o4 s kept ik past st text len) (ha : -2147483648 ≤ a ∧ a < 2147483648) :
    ∃ o o', mX7_way F o1 w7 (jI a) = some o ∧ mX8_way F s far qu f3 f4 i1 i2 (jI a) = some o' ∧ o.1 = o'.1 := by
  obtain ⟨M, n, H, kb, K, L, ch, hC, -⟩ := hI
  have hE : mE M < mN M := hC.1.2.2.2.2.1.1
  have hX : mX M < mN M := hC.1.2.2.2.2.2.1.1
  obtain ⟨z, z1⟩ := way3 (F := F) (w := w7) (by omega) hC.2.1 hC.1.w2 hX hE ha
  obtain ⟨y, y1⟩ := way8 (F := F) (f0 := far) (q0 := qu) (o0 := f3) (st0 := f4) (wc := i1) (tu := i2) (by omega) hC.2.2.1 hC.1.w2 hX hE ha
  exact ⟨_, _, z1, y1, rfl⟩
theorem drawn_s (hF : 400 < F) (hI : INV hs o1 o2 o3 o4 s kept ik past st text len) (ha : -2147483648 ≤ a ∧ a < 2147483648) :
    ∃ o o', mX7_drawn F o1 w7 w8 (jI a) = some o ∧ mX8_drawn F s far qu f3 f4 i1 i2 f5 f6 (jI a) = some o' ∧ o.1 = o'.1 := by
  obtain ⟨M, n, H, kb, K, L, ch, hC, -⟩ := hI
  obtain ⟨z, z1⟩ := drawn3 (F := F) (w := w7) (wk := w8) (by omega) hC.2.1 hC.1 ha
  obtain ⟨y, y1⟩ := drawn8 (F := F) (f0 := far) (q0 := qu) (o0 := f3) (st0 := f4) (wc := i1) (tu := i2) (vi := f5) (ws := f6) (by omega) hC.2.2.1 hC.1 (wres_b hC.1) ha
  exact ⟨_, _, z1, y1, rfl⟩
theorem between_s (hF : 400 < F) (hI : INV hs o1 o2 o3 o4 s kept ik past st text len) (ha : -2147483648 ≤ a ∧ a < 2147483648) (hb : -2147483648 ≤ b ∧ b < 2147483648) :
    ∃ o o', mX7_between F o1 w5 (jI a) (jI b) = some o ∧ mX8_between F s far qu (jI a) (jI b) = some o' ∧ o.1 = o'.1 := by
  obtain ⟨M, n, H, kb, K, L, ch, hC, -⟩ := hI
  obtain ⟨z, z1⟩ := between3 (F := F) (w := w5) (by omega) hC.2.1 hC.1.w2 ha hb
  obtain ⟨y, y1⟩ := between8 (F := F) (f0 := far) (q0 := qu) (by omega) hC.2.2.1 hC.1.w2 ha hb
  exact ⟨_, _, z1, y1, rfl⟩
theorem farthest_s (hF : 400 < F) (hI : INV hs o1 o2 o3 o4 s kept ik past st text len) (ha : -2147483648 ≤ a ∧ a < 2147483648) :
    ∃ o o', mX7_farthest F o1 w5 (jI a) = some o ∧ mX8_farthest F s far qu (jI a) = some o' ∧ o.1 = o'.1 := by
  obtain ⟨M, n, H, kb, K, L, ch, hC, -⟩ := hI
  obtain ⟨z, z1⟩ := farthest3 (F := F) (w := w5) (by omega) hC.2.1 hC.1.w2 ha
  obtain ⟨y, y1⟩ := farthest8 (F := F) (f0 := far) (q0 := qu) (by omega) hC.2.2.1 hC.1.w2 ha
  exact ⟨_, _, z1, y1, rfl⟩
theorem best_s (hF : 400 < F) (hI : INV hs o1 o2 o3 o4 s kept ik past st text len) (ha : -2147483648 ≤ a ∧ a < 2147483648) :
    ∃ o o', mX7_best F o1 w6 w7 e10 (jI a) = some o ∧ mX8_best F s far qu f3 f4 i1 i2 bA bM bF ih (jI a) = some o' ∧ o.1 = o'.1 ∧ INV hs o1 o2 o3 o4 o'.2.1 kept ik past st text len := by
  obtain ⟨M, n, H, kb, K, L, ch, hC, hr⟩ := hI
  obtain ⟨z, z1⟩ := best3 (F := F) (w1 := w6) (w2 := w7) (ex := e10) (by omega) hC.2.1 hC.1 ha
  obtain ⟨s', y, y1, y2⟩ := best8 (F := F) (f1 := far) (f2 := qu) (f3 := f3) (f4 := f4) (i1 := i1) (i2 := i2) (bA := bA) (bM := bM) (bF := bF) (ih := ih) (by omega) hC.2.2.1 hC.1 ha
  exact ⟨_, _, z1, y1, rfl, M, n, H, kb, K, L, ch, ⟨hC.1, hC.2.1, y2, hC.2.2.2⟩, hr⟩
theorem bestExit_s (hF : 400 < F) (hI : INV hs o1 o2 o3 o4 s kept ik past st text len) (ha : -2147483648 ≤ a ∧ a < 2147483648) :
    ∃ o o', mX7_bestExit F o1 w6 (jI a) = some o ∧ mX8_bestExit F s far qu f3 f4 i1 i2 (jI a) = some o' ∧ o.1 = o'.1 := by
  obtain ⟨M, n, H, kb, K, L, ch, hC, -⟩ := hI
  obtain ⟨z, z1⟩ := bestExit3 (F := F) (w := w6) (by omega) hC.2.1 hC.1 ha
  obtain ⟨y, y1⟩ := bestExit8 (F := F) (f1 := far) (f2 := qu) (f3 := f3) (f4 := f4) (i1 := i1) (i2 := i2) (by omega) hC.2.2.1 hC.1 ha
  exact ⟨_, _, z1, y1, rfl⟩
/-- a new system -/
theorem fresh_s (hF : 400 < F) : ∃ o o', mX3_clear F (0, 0, (fun _ => 0), (fun _ => 0), (fun _ => 0), (fun _ => 0)) (4 : Int32) (4 : Int32) = some o ∧ mX8_lightens F (fun _ => 0) (4 : Int32) (4 : Int32) = some o' ∧
    INV 0 o o (0, 0, fun _ => o) (0, 0, 0, (fun _ => 0), 0, 0, 0) o' (fun _ => 0) 0 (fun _ => 0) 0 (fun _ => 0) 0 := by
  obtain ⟨o, q1, q2, -⟩ := clear3 (v := (0, 0, (fun _ => 0), (fun _ => 0), (fun _ => 0), (fun _ => 0))) (C := 4) (R := 4) (F := F) (by omega) (by omega) (by omega)
  obtain ⟨o', r1, r2⟩ := lightens8 (s := fun _ => 0) (C := 4) (R := 4) (F := F) (by omega) (by omega) (by omega)
  refine ⟨o, o', q1, r1, Mc 4 4, 0, fun _ => Mc 4 4, false, Mc 4 4, 0, fun _ => 0, ⟨?_, q2, r2, ⟨rfl, by omega, fun i hi => by omega⟩, fun i hi => by omega, rfl, fun i hi => by omega⟩, rfl, rfl, (fun z => by cases z), rfl, rfl, by omega, fun i hi => by omega⟩
  exact Mc_wf ⟨by omega, by omega⟩ ⟨by omega, by omega⟩ (fun c _ => by show 0 ≤ 9; omega)
end ST2
