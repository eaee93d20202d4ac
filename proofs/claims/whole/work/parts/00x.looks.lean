/-! LOOKS: the reference's search for the best exchange -/
def RV (t : Int × Int × Int) (bA bM bF : Int32) : Prop := bF = jI t.2.2 ∧ (t.2.1 ≠ -1 → bA = jI t.1 ∧ bM = jI t.2.1)
section LK
variable {s : nF} {M : Mz} {c d F n i j k x y : Nat}
theorem RV_t (hw : WF M) {t : Int × Int × Int} (ht : Tb M t) {bA bM bF : Int32} (hv : RV t bA bM bF) {x : Int} (hx : 0 ≤ x ∧ x ≤ 324) : (bF ≤ jI x) = (t.2.2 ≤ x) := by
  have := Tb_b hw ht
  rw [hv.1, jle (by omega) (by omega)]
theorem triesFor8 {f1 f2 f3 f4 ih : nF} {i1 i2 bA bM bF : Int32} {t : Int × Int × Int} (hF : 72 < F) (h : R8 s (cutM M k)) (hw : WF M) (h1 : partI M = 1) (hk : k < 2 * mN M) (ho : mO M k = true) (ht : Tb M t) (hv : RV t bA bM bF) :
    ∃ z, mX8_triesFor F s f1 f2 f3 f4 i1 i2 bA bM bF ih (jI (k : Nat)) = some z ∧ R8 z.1 (cutM M k) ∧ RV (exj M k (2 * mN M) t) z.2.2.2.2.2.2.2.1 z.2.2.2.2.2.2.2.2.1 z.2.2.2.2.2.2.2.2.2.1 := by
  have hd := hw.1
  have hN := dm_le hd
  have hE : mE M < mN M := hw.2.2.2.2.1.1
  have hX : mX M < mN M := hw.2.2.2.2.2.1.1
  have hc := cut_wf (k := k) hw
  have hkA : k / 2 < mN M := pA_lt hk
  obtain ⟨fq, m1, m2⟩ := measures8 (f0 := f1) (q0 := f2) (F := F) (r := k / 2) (by omega) h hc.w2 hkA
  unfold mX8_triesFor
  rw [gn2, jl_2, ndiv (by omega) (by omega) (by omega), m1, bnd_s]
  simp only [jn_e]
  have hloop := lpr_fn (L := mX8_triesFor_L9 s fq (mX8_triesFor_K43 F s f3 f4 i1 i2 bA bM bF (jI (k : Nat)) fq)) (e := mX8_triesFor_K43 F s f3 f4 i1 i2 bA bM bF (jI (k : Nat)) fq (mix (mN M) (fun c => jI (b01 (decide (0 ≤ dst (mC M) (setE (mO M) k false) (k / 2) c)) : Nat)) ih)) (F := F) (fun i => (jI (i : Nat), mix i (fun c => jI (b01 (decide (0 ≤ dst (mC M) (setE (mO M) k false) (k / 2) c)) : Nat)) ih)) (mN M) (by
    intro i hi self
    have hce : mX8_cells s = some (jI (mN M : Nat)) := cells8 (M := cutM M k) h
    simp only [mX8_triesFor_L9, hce, bnd_s]
    rw [nle_f hi (by omega), gdi (by omega) (by omega)]
    have hb : -2147483648 ≤ dst (mC M) (setE (mO M) k false) (k / 2) i ∧ dst (mC M) (setE (mO M) k false) (k / 2) i < 2147483648 := dst_b hc.w2 hkA hi
    have hm : fq.1 i = jI (dst (mC M) (setE (mO M) k false) (k / 2) i) := m2 i hi
    simp only [jn_e, gdi (show i < 36 by omega) (show 36 < 100000 by omega), jcl i (by omega), hm, jS]
    by_cases q : 0 ≤ dst (mC M) (setE (mO M) k false) (k / 2) i
    · rw [j_0, jlt_f hb (by omega) q, nar1, ← mix_S (f := fun c => jI (b01 (decide (0 ≤ dst (mC M) (setE (mO M) k false) (k / 2) c)) : Nat))]
      simp only [decide_eq_true q]
    · rw [show (0 : Int32) = jI 0 from j_0, jlt_t hb (by omega) (by omega), show jI 0 = (0 : Int32) from rfl, nar0, ← mix_S (f := fun c => jI (b01 (decide (0 ≤ dst (mC M) (setE (mO M) k false) (k / 2) c)) : Nat))]
      simp only [decide_eq_false q]) (by
    intro self
    have hce : mX8_cells s = some (jI (mN M : Nat)) := cells8 (M := cutM M k) h
    simp only [mX8_triesFor_L9, hce, bnd_s]
    rw [nle_t (Nat.le_refl _) (by omega)]) (by omega)
  simp only [mix_0] at hloop
  rw [jl_0, hloop]
  simp only [mX8_triesFor_K43]
  have key := lpr_r (Q := fun z : nF × nF × nF × nF × nF × Int32 × Int32 × Int32 × Int32 × Int32 × nF => R8 z.1 (cutM M k) ∧ RV (exj M k (2 * mN M) t) z.2.2.2.2.2.2.2.1 z.2.2.2.2.2.2.2.2.1 z.2.2.2.2.2.2.2.2.2.1) (L := mX8_triesFor_L45 F (jI (k : Nat)) (mix (mN M) (fun c => jI (b01 (decide (0 ≤ dst (mC M) (setE (mO M) k false) (k / 2) c)) : Nat)) ih)) (F := F)
    (fun j y => y.1 = jI (j : Nat) ∧ R8 y.2.1 (cutM M k) ∧ RV (exj M k j t) y.2.2.2.2.2.2.2.2.1 y.2.2.2.2.2.2.2.2.2.1 y.2.2.2.2.2.2.2.2.2.2) (2 * mN M) (x := (jI ((0 : Nat) : Int), s, fq.1, fq.2, f3, f4, i1, i2, bA, bM, bF)) (by
    rintro j ⟨y0, ys, y1, y2, y3, y4, y5, y6, yA, yM, yF⟩ hj ⟨e0, hR, hV⟩
    have e0 : y0 = jI (j : Nat) := e0
    subst e0
    have hR : R8 ys (cutM M k) := hR
    have hV : RV (exj M k j t) yA yM yF := hV
    have hce : mX8_cells ys = some (jI (mN M : Nat)) := cells8 (M := cutM M k) hR
    by_cases e : j = 2 * mN M
    · left
      subst e
      refine ⟨(ys, y1, y2, y3, y4, y5, y6, yA, yM, yF, mix (mN M) (fun c => jI (b01 (decide (0 ≤ dst (mC M) (setE (mO M) k false) (k / 2) c)) : Nat)) ih), ⟨hR, hV⟩, fun self => ?_⟩
      simp only [mX8_triesFor_L45, hce, bnd_s, j2m]
      rw [nle_t (by omega) (by omega)]
    · right
      have hj2 : j < 2 * mN M := by omega
      have hT := exj_T hk ho ht j (by omega)
      have hS : exj M k (j + 1) t = if candB M k j = true ∧ exF M k j < (exj M k j t).2.2 then ((k : Int), (j : Int), exF M k j) else exj M k j t := rfl
      have hA : j / 2 < mN M := pA_lt hj2
      have hsec : mX8_second ys (jI (j : Nat)) = some (oJ (nd (mC M) (mN M) j)) := second8 (M := cutM M k) hR hd hj2
      refine ⟨hj2, ?_⟩
      have hskip : candB M k j ≠ true → RV (exj M k (j + 1) t) yA yM yF := by
        intro z
        rw [hS, if_neg (fun q => z q.1)]; exact hV
      by_cases ek : j = k
      · have hc0 : candB M k j ≠ true := fun z => by
          have := ((cand_t hw.w2 hj2).mp z).2.1
          rw [ek, ho] at this; cases this
        refine ⟨(jI ((j + 1 : Nat) : Int), ys, y1, y2, y3, y4, y5, y6, yA, yM, yF), ⟨rfl, hR, hskip hc0⟩, fun self => ?_⟩
        simp only [mX8_triesFor_L45, hce, bnd_s, j2m]
        rw [nle_f hj2 (by omega), hsec, bnd_s]
        simp only [jn_e]
        rw [neq_t ek, jS]
      · cases hn : nd (mC M) (mN M) j with
        | none =>
          have hc0 : candB M k j ≠ true := fun z => by
            unfold candB at z; rw [hn] at z; cases z
          refine ⟨(jI ((j + 1 : Nat) : Int), ys, y1, y2, y3, y4, y5, y6, yA, yM, yF), ⟨rfl, hR, hskip hc0⟩, fun self => ?_⟩
          simp only [mX8_triesFor_L45, hce, bnd_s, j2m]
          rw [nle_f hj2 (by omega), hsec, bnd_s, hn, oJ_none]
          simp only [jn_e]
          rw [neq_f ek (by omega) (by omega), if_pos (by decide), jS]
        | some o =>
          obtain ⟨n1, n2, n3⟩ := nd_lt hd hj2 hn
          have hhc := here_cand hw h1 hk ho hj2 hn
          have hst : ∀ self, mX8_triesFor_L45 F (jI (k : Nat)) (mix (mN M) (fun c => jI (b01 (decide (0 ≤ dst (mC M) (setE (mO M) k false) (k / 2) c)) : Nat)) ih) self (jI (j : Nat), ys, y1, y2, y3, y4, y5, y6, yA, yM, yF) =
              if jI (b01 (decide (0 ≤ dst (mC M) (setE (mO M) k false) (k / 2) (j / 2))) : Nat) = jI (b01 (decide (0 ≤ dst (mC M) (setE (mO M) k false) (k / 2) o)) : Nat) then self (jI ((j + 1 : Nat) : Int), ys, y1, y2, y3, y4, y5, y6, yA, yM, yF)
              else (mX8_wayFault F (upd ys (42 + j) (1 : Int32)) y1 y2 y3 y4 y5 y6).bind fun r10 => if yF ≤ r10.1 then self (jI ((j + 1 : Nat) : Int), upd (upd ys (42 + j) (1 : Int32)) (42 + j) (0 : Int32), r10.2.1, r10.2.2.1, r10.2.2.2.1, r10.2.2.2.2.1, r10.2.2.2.2.2.1, r10.2.2.2.2.2.2, yA, yM, yF) else self (jI ((j + 1 : Nat) : Int), upd (upd ys (42 + j) (1 : Int32)) (42 + j) (0 : Int32), r10.2.1, r10.2.2.1, r10.2.2.2.1, r10.2.2.2.2.1, r10.2.2.2.2.2.1, r10.2.2.2.2.2.2, jI (k : Nat), jI (j : Nat), r10.1) := by
            intro self
            simp only [mX8_triesFor_L45, hce, bnd_s, j2m]
            rw [nle_f hj2 (by omega), hsec, bnd_s, hn, oJ_some]
            simp only [jn_e, gn2, jl_2, gn2c, ndiv (show j < 100000 by omega) (show 2 < 100000 by omega) (show 0 < 2 by omega), j42p, gdi (show j / 2 < 36 by omega) (show 36 < 100000 by omega), gdi (show o < 36 by omega) (show 36 < 100000 by omega), gdi (show 42 + j < 114 by omega) (show 114 < 100000 by omega), jcl (j / 2) (by omega), jcl o (by omega), jcl (42 + j) (by omega), mix_lt hA, mix_lt n1, jS]
            rw [neq_f ek (by omega) (by omega), if_neg (show ¬ (jI (o : Nat) < 0) by rw [nn0 (by omega)]; exact id)]
          by_cases hh : decide (0 ≤ dst (mC M) (setE (mO M) k false) (k / 2) (j / 2)) = decide (0 ≤ dst (mC M) (setE (mO M) k false) (k / 2) o)
          · have hc0 : candB M k j ≠ true := fun z => (hhc.mpr z).2 hh
            refine ⟨(jI ((j + 1 : Nat) : Int), ys, y1, y2, y3, y4, y5, y6, yA, yM, yF), ⟨rfl, hR, hskip hc0⟩, fun self => ?_⟩
            rw [hst, if_pos (by rw [b01_ne]; exact hh)]
          · have hcd : candB M k j = true := hhc.mp ⟨ek, hh⟩
            have hxw := xM_wf hw hj2 hcd
            have hR2 : R8 (upd ys (42 + j) (jI (b01 true : Nat))) (xM M k j) := R8_set hR hd hj2
            have hR3 : R8 (upd (upd ys (42 + j) (jI (b01 true : Nat))) (42 + j) (jI (b01 false : Nat))) (cutM M k) := by
              have := R8_set (t := false) hR2 hd hj2
              have e5 : setO (xM M k j) (setE (mO (xM M k j)) j false) = cutM M k := by
                show (M.1, M.2.1, setE (setE (setE (mO M) k false) j true) j false, M.2.2.2) = (M.1, M.2.1, setE (mO M) k false, M.2.2.2)
                rw [setE_setE, setE_id]
                rw [setE_ne ek]
                exact ((cand_t hw.w2 hj2).mp hcd).2.1
              rw [e5] at this
              exact this
            have hb := exF_b hw hj2 hcd
            obtain ⟨u, u1, u2⟩ := wayFault8 (f0 := y1) (q0 := y2) (o0 := y3) (st0 := y4) (wc := y5) (tu := y6) (F := F) (by omega) hR2 hxw.w2 hX hE
            have u2 : u.1 = jI (exF M k j) := u2
            have hcmp := RV_t hw hT hV hb
            by_cases q : (exj M k j t).2.2 ≤ exF M k j
            · refine ⟨(jI ((j + 1 : Nat) : Int), upd (upd ys (42 + j) (1 : Int32)) (42 + j) (0 : Int32), u.2.1, u.2.2.1, u.2.2.2.1, u.2.2.2.2.1, u.2.2.2.2.2.1, u.2.2.2.2.2.2, yA, yM, yF), ⟨rfl, hR3, by rw [hS, if_neg (fun z => by omega)]; exact hV⟩, fun self => ?_⟩
              rw [hst, if_neg (by rw [b01_ne]; exact hh), show (1 : Int32) = jI (b01 true : Nat) from rfl, u1, bnd_s, if_pos (by rw [u2, hcmp]; exact q)]
            · refine ⟨(jI ((j + 1 : Nat) : Int), upd (upd ys (42 + j) (1 : Int32)) (42 + j) (0 : Int32), u.2.1, u.2.2.1, u.2.2.2.1, u.2.2.2.2.1, u.2.2.2.2.2.1, u.2.2.2.2.2.2, jI (k : Nat), jI (j : Nat), u.1), ⟨rfl, hR3, by rw [hS, if_pos ⟨hcd, by omega⟩]; exact ⟨u2, fun _ => ⟨rfl, rfl⟩⟩⟩, fun self => ?_⟩
              rw [hst, if_neg (by rw [b01_ne]; exact hh), show (1 : Int32) = jI (b01 true : Nat) from rfl, u1, bnd_s, if_neg (by rw [u2, hcmp]; exact q)]) ⟨rfl, h, hv⟩ (by omega)
  obtain ⟨z, z1, z2⟩ := key
  exact ⟨z, z2, z1⟩
theorem looks8 {f1 f2 f3 f4 ih : nF} {i1 i2 bA bM bF : Int32} (hF : 72 < F) (h : R8 s M) (hw : WF M) (h1 : partI M = 1) :
    ∃ z, mX8_looksForBest F s f1 f2 f3 f4 i1 i2 bA bM bF ih = some z ∧ R8 z.1 M ∧ z.2.2.2.2.2.2.2.1 = jI (exT M).1 ∧ z.2.2.2.2.2.2.2.2.1 = jI (exT M).2.1 ∧ z.2.2.2.2.2.2.2.2.2.1 = jI (exT M).2.2 := by
  have hd := hw.1
  have hN := dm_le hd
  unfold mX8_looksForBest
  have key := lpr_r (Q := fun z : nF × nF × nF × nF × nF × Int32 × Int32 × Int32 × Int32 × Int32 × nF => R8 z.1 M ∧ RV (exT M) z.2.2.2.2.2.2.2.1 z.2.2.2.2.2.2.2.2.1 z.2.2.2.2.2.2.2.2.2.1) (L := mX8_looksForBest_L8 F) (F := F)
    (fun k y => y.1 = jI (k : Nat) ∧ R8 y.2.1 M ∧ RV (exk M k) y.2.2.2.2.2.2.2.2.1 y.2.2.2.2.2.2.2.2.2.1 y.2.2.2.2.2.2.2.2.2.2.1) (2 * mN M) (x := ((0 : Int32), s, f1, f2, f3, f4, i1, i2, bA, bM, (1000000 : Int32), ih)) (by
    rintro k ⟨y0, ys, y1, y2, y3, y4, y5, y6, yA, yM, yF, yh⟩ hk ⟨e0, hR, hV⟩
    have e0 : y0 = jI (k : Nat) := e0
    subst e0
    have hR : R8 ys M := hR
    have hV : RV (exk M k) yA yM yF := hV
    have hce := cells8 hR
    by_cases e : k = 2 * mN M
    · left
      subst e
      refine ⟨(ys, y1, y2, y3, y4, y5, y6, yA, yM, yF, yh), ⟨hR, hV⟩, fun self => ?_⟩
      simp only [mX8_looksForBest_L8, hce, bnd_s, j2m]
      rw [nle_t (by omega) (by omega)]
    · right
      have hk2 : k < 2 * mN M := by omega
      have hS : exk M (k + 1) = if mO M k = true then exj M k (2 * mN M) (exk M k) else exk M k := rfl
      refine ⟨hk2, ?_⟩
      have hb1 : ∀ b : Bool, (jI (b01 b : Nat) = (1 : Int32)) ↔ b = true := by decide
      have hval := hR.2.2.2.2.2.2.2 k hk2
      cases ho : mO M k with
      | false =>
        refine ⟨(jI ((k + 1 : Nat) : Int), ys, y1, y2, y3, y4, y5, y6, yA, yM, yF, yh), ⟨rfl, hR, by rw [hS, ho, if_neg Bool.noConfusion]; exact hV⟩, fun self => ?_⟩
        simp only [mX8_looksForBest_L8, hce, bnd_s, j2m]
        rw [nle_f hk2 (by omega), j42p, gdi (by omega) (by omega)]
        simp only [jn_e, jcl (42 + k) (by omega), hval, ho, jS]
        rw [if_neg (by rw [hb1]; exact Bool.noConfusion)]
      | true =>
        have hR2 : R8 (upd ys (42 + k) (jI (b01 false : Nat))) (cutM M k) := R8_set hR hd hk2
        obtain ⟨z, z1, z2, z3⟩ := triesFor8 (f1 := y1) (f2 := y2) (f3 := y3) (f4 := y4) (i1 := y5) (i2 := y6) (ih := yh) hF hR2 hw h1 hk2 ho (exk_T k hk) hV
        have hR4 : R8 (upd z.1 (42 + k) (jI (b01 true : Nat))) M := by
          have := R8_set (t := true) z2 hd hk2
          have e5 : setO (cutM M k) (setE (mO (cutM M k)) k true) = M := by
            show (M.1, M.2.1, setE (setE (mO M) k false) k true, M.2.2.2) = M
            rw [setE_setE, setE_id ho]
            rfl
          rw [e5] at this
          exact this
        refine ⟨(jI ((k + 1 : Nat) : Int), upd z.1 (42 + k) (1 : Int32), z.2.1, z.2.2.1, z.2.2.2.1, z.2.2.2.2.1, z.2.2.2.2.2.1, z.2.2.2.2.2.2.1, z.2.2.2.2.2.2.2.1, z.2.2.2.2.2.2.2.2.1, z.2.2.2.2.2.2.2.2.2.1, z.2.2.2.2.2.2.2.2.2.2), ⟨rfl, hR4, by rw [hS, ho, if_pos rfl]; exact z3⟩, fun self => ?_⟩
        simp only [mX8_looksForBest_L8, hce, bnd_s, j2m]
        rw [nle_f hk2 (by omega), j42p, gdi (by omega) (by omega)]
        simp only [jn_e, jcl (42 + k) (by omega), hval, ho, jS, gdi (show 42 + k < 114 by omega) (show 114 < 100000 by omega)]
        rw [if_pos (by rw [hb1])]
        have z1' : mX8_triesFor F (upd ys (42 + k) (0 : Int32)) y1 y2 y3 y4 y5 y6 yA yM yF yh (jI (k : Nat)) = some z := z1
        rw [z1', bnd_s]) ⟨jl_0, h, ⟨j_1000000, fun z => absurd rfl z⟩⟩ (by omega)
  obtain ⟨z, ⟨z1, z2⟩, z3⟩ := key
  obtain ⟨k, j, g1, g2, g3, g4, g5⟩ := exT_found hw h1
  have := z2.2 (by rw [g5]; show (j : Int) ≠ -1; omega)
  exact ⟨z, z3, z1, this.1, this.2, z2.1⟩
end LK
