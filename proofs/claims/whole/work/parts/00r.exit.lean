/-! THE BEST EXIT -/
def freeF (M : Mz) (c d : Nat) : Bool := (nb (mC M) (mN M) c d).isNone && !(decide (mE M = c ∧ mEs M = d))
/-- the lowest free side among the last i -/
def sd (f : Nat → Bool) : Nat → Nat
  | 0 => 4
  | i + 1 => if f (3 - i) = true then 3 - i else sd f i
def fsd (M : Mz) (c : Nat) : Nat := sd (freeF M c) 4
theorem sd_4 {f : Nat → Bool} : sd f 4 = if f 0 = true then 0 else if f 1 = true then 1 else if f 2 = true then 2 else if f 3 = true then 3 else 4 := rfl
theorem sd_le {f : Nat → Bool} : ∀ i, sd f i ≤ 4 := by
  intro i
  induction i with
  | zero => exact Nat.le_refl 4
  | succ i ih => simp only [sd]; split <;> omega
section BX
variable {v : MZ} {w : WY} {s : nF} {M : Mz} {c d F n i r x : Nat} {a b : Int}
theorem isDoorAt3 {p q : Nat} {o : Nat} (ho : o < 2) (hp : v.2.2.2.2.1 o = jI (p : Nat)) (hq : v.2.2.2.2.2 o = jI (q : Nat)) (h1 : p < 100000) (h2 : q < 100000) (hc : c < 100000) (hd : d < 100000) : mX3_isDoorAt v (jI (o : Nat)) (jI (c : Nat)) (jI (d : Nat)) = some (bI (decide (p = c ∧ q = d))) := by
  unfold mX3_isDoorAt
  rw [at_i ho (by omega), bnd_s, hp]
  simp only [jn_e]
  by_cases e : p = c
  · rw [neq_t e, at_i ho (by omega), bnd_s, hq]
    by_cases e2 : q = d
    · rw [neq_t e2, bI_p ⟨e, e2⟩]; rfl
    · rw [neq_f e2 h2 hd, bI_n (fun z => e2 z.2)]; rfl
  · rw [neq_f e h1 hc, bI_n (fun z => e z.1)]; rfl
theorem freeSide3 (hF : 4 < F) (h : R3 v M) (hw : WF M) (hc : c < mN M) : mX7_freeSide F v (jI (c : Nat)) = some (if fsd M c < 4 then jI (fsd M c : Nat) else (-1 : Int32)) := by
  have hd := hw.1
  have hN := dm_le hd
  have hE : mE M < mN M := hw.2.2.2.2.1.1
  have hEs : mEs M < 4 := hw.2.2.2.2.1.2.1
  unfold mX7_freeSide
  have hst : ∀ i, i < 4 → ∀ self : Int32 → Option Int32, mX7_freeSide_L2 v (jI (c : Nat)) self (jI (i : Nat)) = if freeF M c i = true then some (jI (i : Nat)) else self (jI ((i + 1 : Nat) : Int)) := by
    intro i hi self
    simp only [mX7_freeSide_L2, jl_4]
    rw [nle_f hi (by omega), beside3 h hd hc hi, bnd_s]
    simp only [jn_e, jS]
    unfold freeF
    cases hn : nb (mC M) (mN M) c i with
    | some o =>
      have ho := (num_lt hd hc hi hn).2
      rw [oJ_some, if_neg (by rw [nem1 (by omega)]; exact id), if_neg (by simp)]
    | none =>
      rw [oJ_none, if_pos (by decide), jl_0, isDoorAt3 (o := 0) (by omega) h.2.2.2.2.1 h.2.2.2.2.2.2.1 (by omega) (by omega) (by omega) (by omega), bnd_s, ← jl_0, ifb]
      cases hq : decide (mE M = c ∧ mEs M = i)
      · rw [if_neg Bool.noConfusion, if_pos (by simp)]
      · rw [if_pos rfl, if_neg (by simp)]
  have key := lpr_r (Q := fun z : Int32 => z = if fsd M c < 4 then jI (fsd M c : Nat) else (-1 : Int32)) (L := mX7_freeSide_L2 v (jI (c : Nat))) (F := F) (fun i y => y = jI (i : Nat) ∧ ∀ d, d < i → freeF M c d = false) 4 (x := (0 : Int32)) (by
    intro i y hi ⟨hy, hn⟩
    subst hy
    by_cases e : i = 4
    · left
      subst e
      refine ⟨(-1 : Int32), ?_, fun self => ?_⟩
      · have : fsd M c = 4 := by
          unfold fsd
          rw [sd_4, hn 0 (by omega), hn 1 (by omega), hn 2 (by omega), hn 3 (by omega)]
          rfl
        rw [this]; rfl
      · simp only [mX7_freeSide_L2, jl_4]
        rw [nle_t (Nat.le_refl _) (by omega)]
    · have hi4 : i < 4 := by omega
      by_cases q : freeF M c i = true
      · left
        refine ⟨jI (i : Nat), ?_, fun self => by rw [hst i hi4, if_pos q]⟩
        have : fsd M c = i := by
          unfold fsd
          rw [sd_4]
          have g : i = 0 ∨ i = 1 ∨ i = 2 ∨ i = 3 := by omega
          rcases g with rfl | rfl | rfl | rfl
          · rw [if_pos q]
          · rw [if_neg (by rw [hn 0 (by omega)]; exact Bool.noConfusion), if_pos q]
          · rw [if_neg (by rw [hn 0 (by omega)]; exact Bool.noConfusion), if_neg (by rw [hn 1 (by omega)]; exact Bool.noConfusion), if_pos q]
          · rw [if_neg (by rw [hn 0 (by omega)]; exact Bool.noConfusion), if_neg (by rw [hn 1 (by omega)]; exact Bool.noConfusion), if_neg (by rw [hn 2 (by omega)]; exact Bool.noConfusion), if_pos q]
        rw [this, if_pos hi4]
      · right
        refine ⟨hi4, jI ((i + 1 : Nat) : Int), ⟨rfl, fun d hd => ?_⟩, fun self => by rw [hst i hi4, if_neg q]⟩
        by_cases z : d = i
        · subst z; simpa using q
        · exact hn d (by omega)) ⟨jl_0, fun d hd => by omega⟩ hF
  obtain ⟨z, z1, z2⟩ := key
  rw [z2, z1]
theorem mayBeExit8 (h : R8 s M) (hw : WF M) (hc : c < mN M) (hdd : d < 4) : mX8_mayBeExit s (jI (c : Nat)) (jI (d : Nat)) = some (bI (freeF M c d)) := by
  have hd := hw.1
  have hN := dm_le hd
  have hE : mE M < mN M := hw.2.2.2.2.1.1
  have hEs : mEs M < 4 := hw.2.2.2.2.1.2.1
  unfold mX8_mayBeExit freeF
  rw [besides8 h hd hc hdd, bnd_s]
  simp only [jn_e, gl2, cl2, gl3, cl3, h.2.2.1, h.2.2.2.1]
  cases hn : nb (mC M) (mN M) c d with
  | some o =>
    have ho := (num_lt hd hc hdd hn).2
    rw [oJ_some, if_pos (by rw [n0l (by omega)]; trivial)]; rfl
  | none =>
    rw [oJ_none, if_neg (by decide)]
    by_cases e : mE M = c
    · rw [neq_t e]
      by_cases e2 : mEs M = d
      · rw [neq_t e2, decide_eq_true ⟨e, e2⟩]; rfl
      · rw [neq_f e2 (by omega) (by omega), decide_eq_false (fun z => e2 z.2)]; rfl
    · rw [neq_f e (by omega) (by omega), decide_eq_false (fun z => e z.1)]; rfl
/-- the fold over the cells -/
noncomputable def bxs (M : Mz) : Nat → (Int × Int × Int)
  | 0 => (-1, -1, 1000000)
  | i + 1 => if (0 ≤ dst (mC M) (mO M) (mE M) i ∧ fsd M i < 4) ∧ faultI M i < (bxs M i).2.2 then ((i : Int), (fsd M i : Int), faultI M i) else bxs M i
theorem bxs_b (hw : WF M) : ∀ i, i ≤ mN M → -1 ≤ (bxs M i).1 ∧ (bxs M i).1 < (i : Int) ∧ -1 ≤ (bxs M i).2.1 ∧ (bxs M i).2.1 < 4 ∧ 0 ≤ (bxs M i).2.2 ∧ (bxs M i).2.2 ≤ 1000000 ∧ ((bxs M i).1 = -1 → bxs M i = (-1, -1, 1000000)) := by
  intro i
  induction i with
  | zero =>
    intro _
    have e : bxs M 0 = (-1, -1, 1000000) := rfl
    rw [e]
    exact ⟨by decide, by decide, by decide, by decide, by decide, by decide, fun _ => rfl⟩
  | succ i ih =>
    intro hi
    have h1 := ih (by omega)
    have h2 := fault_b hw.w2 hw.2.1 (show i < mN M by omega)
    simp only [bxs]
    split
    · rename_i q
      refine ⟨?_, ?_, ?_, ?_, ?_, ?_, ?_⟩
      · show -1 ≤ (i : Int); omega
      · show (i : Int) < ((i + 1 : Nat) : Int); omega
      · show -1 ≤ (fsd M i : Int); omega
      · show (fsd M i : Int) < 4; omega
      · exact h2.1
      · show faultI M i ≤ 1000000; omega
      · intro z
        have z : (i : Int) = -1 := z
        omega
    · exact ⟨h1.1, by omega, h1.2.2.1, h1.2.2.2.1, h1.2.2.2.2.1, h1.2.2.2.2.2.1, h1.2.2.2.2.2.2⟩
noncomputable def exitA (M : Mz) (a : Int) : Int := if 0 ≤ a ∧ a ≤ 2 then (if (bxs M (mN M)).1 < 0 then -4 else if a = 0 then (bxs M (mN M)).1 else if a = 1 then (bxs M (mN M)).2.1 else (bxs M (mN M)).2.2) else -1
/-- the gain of the way from the entry is that of the way back -/
theorem wy_back (hw : WF2 M) (hr : r < mN M) (hx : x < mN M) : sumL (gain M) (wy (mC M) (mO M) r x) = sumL (gain M) (wy (mC M) (mO M) x r) := by
  by_cases h : conn (mC M) (mO M) r x
  · obtain ⟨V, len, prev, hrt⟩ := rt_ex hw hr
    obtain ⟨V2, len2, prev2, hrt2⟩ := rt_ex hw hx
    have hV := (rt_conn hrt).mpr h
    obtain ⟨h1, h2, h3⟩ := rt_back hw.1.1 hw.2.2 hrt hrt2 hV
    rw [wy_rt hw.1.1 hw.2.2 hrt hV, wy_rt hw.1.1 hw.2.2 hrt2 h1, h3, sumL_rev]
  · rw [wy_no h, wy_no (fun z => h (conn_sy z))]
def clsT (t : Int × Int × Int) : Int × Int × Int := if t.1 = -1 then (-1, -1, 0) else t
theorem bestExit3 (hF : 36 < F) (h : R3 v M) (hw : WF M) (ha : -2147483648 ≤ a ∧ a < 2147483648) : ∃ z, mX7_bestExit F v w (jI a) = some (jI (exitA M a), z) := by
  have hw2 := hw.w2
  have hN := dm_le hw.1
  have hE : mE M < mN M := hw.2.2.2.2.1.1
  unfold mX7_bestExit exitA
  simp only [jn_e]
  by_cases h0 : a < 0
  · rw [j_0, jlt_t ha (by omega) h0, if_neg (by omega)]; exact ⟨_, rfl⟩
  · rw [j_0, jlt_f ha (by omega) (by omega), j_2]
    by_cases h2 : a ≤ 2
    · rw [jle_t ha (by omega) h2, if_pos (by omega)]
      obtain ⟨w', q1, q2⟩ := findFrom3 (w := w) hF h hw2 hE
      rw [entry3 h, bnd_s, q1, bnd_s, toneSum3 hF h hw.1, bnd_s]
      have hbN := bxs_b hw (mN M) (Nat.le_refl _)
      have key := lpr_fn (L := mX7_bestExit_L48 F v w' (jI (toneS M : Nat)) (mX7_bestExit_K131 (jI a) w')) (e := mX7_bestExit_K131 (jI a) w' (jI (clsT (bxs M (mN M))).1, jI (clsT (bxs M (mN M))).2.1, jI (clsT (bxs M (mN M))).2.2)) (F := F) (fun i => (jI (clsT (bxs M i)).1, jI (clsT (bxs M i)).2.1, jI (clsT (bxs M i)).2.2, jI (i : Nat))) (mN M) (by
        intro i hi self
        have hb := bxs_b hw i (by omega)
        have hfb := fault_b hw2 hw.2.1 hi
        simp only [mX7_bestExit_L48, cells3 h, bnd_s]
        rw [nle_f hi (by omega), freeSide3 (by omega) h hw hi, bnd_s]
        simp only [jn_e, jS]
        by_cases e1 : fsd M i < 4
        · rw [if_pos e1, if_neg (by rw [nem1 (by omega)]; exact id), wq_reach hw2 hE hi q2, bnd_s, ifb]
          by_cases e2 : 0 ≤ dst (mC M) (mO M) (mE M) i
          · rw [if_pos (decide_eq_true e2), wq_gain hw2 hi q2 (dst_c.mp e2), bnd_s, jI_add]
            have hf : (toneS M : Int) + sumL (gain M) (wy (mC M) (mO M) (mE M) i) = faultI M i := by
              unfold faultI; rw [wy_back hw2 hE hi]
            rw [hf]
            by_cases e3 : (bxs M i).1 = -1
            · have e4 := hb.2.2.2.2.2.2 e3
              have e5 : bxs M (i + 1) = ((i : Int), (fsd M i : Int), faultI M i) := by
                simp only [bxs]
                rw [if_pos ⟨⟨e2, e1⟩, by rw [e4]; show faultI M i < 1000000; omega⟩]
              have e6 : clsT (bxs M i) = (-1, -1, 0) := by unfold clsT; rw [if_pos e3]
              have e7 : clsT (bxs M (i + 1)) = ((i : Int), (fsd M i : Int), faultI M i) := by
                rw [e5]; unfold clsT
                rw [if_neg (by show ¬ ((i : Int) = -1); omega)]
              rw [e6, e7, if_pos (by decide)]
            · have e6 : clsT (bxs M i) = bxs M i := by unfold clsT; rw [if_neg e3]
              rw [e6, j_m1, jeq_f (by omega) (by omega) e3]
              by_cases e7 : faultI M i < (bxs M i).2.2
              · have e5 : bxs M (i + 1) = ((i : Int), (fsd M i : Int), faultI M i) := by
                  simp only [bxs]
                  rw [if_pos ⟨⟨e2, e1⟩, e7⟩]
                have e8 : clsT (bxs M (i + 1)) = ((i : Int), (fsd M i : Int), faultI M i) := by
                  rw [e5]; unfold clsT
                  rw [if_neg (by show ¬ ((i : Int) = -1); omega)]
                rw [jle_f (by omega) (by omega) e7, e8]
              · have e5 : bxs M (i + 1) = bxs M i := by
                  simp only [bxs]
                  rw [if_neg (fun z => e7 z.2)]
                rw [jle_t (by omega) (by omega) (by omega), e5, e6]
          · have e5 : bxs M (i + 1) = bxs M i := by
              simp only [bxs]
              rw [if_neg (fun z => e2 z.1.1)]
            rw [if_neg (by rw [decide_eq_false e2]; exact Bool.noConfusion), e5]
        · have e5 : bxs M (i + 1) = bxs M i := by
            simp only [bxs]
            rw [if_neg (fun z => e1 z.1.2)]
          rw [if_neg e1, if_pos rfl, e5]) (by
        intro self
        simp only [mX7_bestExit_L48, cells3 h, bnd_s]
        rw [nle_t (by omega) (by omega)]) (by omega)
      have key2 : lpr (mX7_bestExit_L48 F v w' (jI (toneS M : Nat)) (mX7_bestExit_K131 (jI a) w')) F ((-1 : Int32), (-1 : Int32), jI 0, jI 0) = _ := key
      rw [key2]
      simp only [mX7_bestExit_K131, jn_e]
      by_cases e : (bxs M (mN M)).1 = -1
      · have e6 : clsT (bxs M (mN M)) = (-1, -1, 0) := by unfold clsT; rw [if_pos e]
        rw [e6, if_pos (by decide), if_pos (by omega)]
        exact ⟨_, rfl⟩
      · have e6 : clsT (bxs M (mN M)) = bxs M (mN M) := by unfold clsT; rw [if_neg e]
        rw [e6, j_m1, jeq_f (by omega) (by omega) e, if_neg (by omega), choose3 ha, bnd_s]
        refine ⟨w', ?_⟩
        by_cases q : a = 0
        · rw [if_pos q, if_pos q]
        · rw [if_neg q, if_neg q]
          by_cases q1 : a = 1
          · rw [if_pos q1, if_pos q1]
          · rw [if_neg q1, if_neg q1]
    · rw [jle_f ha (by omega) (by omega), if_neg (by omega)]; exact ⟨_, rfl⟩
theorem areJoined8 {f0 q0 : nF} {p q : Nat} (hF : 36 < F) (h : R8 s M) (hw : WF2 M) (hp : p < mN M) (hq : q < mN M) : ∃ z, mX8_areJoined F s f0 q0 (jI (p : Nat)) (jI (q : Nat)) = some (bI (decide (0 ≤ dst (mC M) (mO M) p q)), z) := by
  have hN := dm_le hw.1
  obtain ⟨fq, q1, q2⟩ := measures8 (f0 := f0) (q0 := q0) hF h hw hp
  unfold mX8_areJoined
  rw [q1, bnd_s, gdi (by omega) (by omega)]
  simp only [jn_e, jcl q (by omega), q2 q hq]
  by_cases e : 0 ≤ dst (mC M) (mO M) p q
  · rw [j_0, jlt_f (dst_b hw hp hq) (by omega) e, decide_eq_true e]
    exact ⟨_, rfl⟩
  · rw [j_0, jlt_t (dst_b hw hp hq) (by omega) (by omega), decide_eq_false e]
    exact ⟨_, rfl⟩
noncomputable def cur (M : Mz) (c i : Nat) : Int × Int × Int := if (0 ≤ dst (mC M) (mO M) (mE M) c ∧ sd (freeF M c) i < 4) ∧ faultI M c < (bxs M c).2.2 then ((c : Int), (sd (freeF M c) i : Int), faultI M c) else bxs M c
theorem cur_t (h1 : 0 ≤ dst (mC M) (mO M) (mE M) c) (h2 : sd (freeF M c) i < 4) (h3 : faultI M c < (bxs M c).2.2) : cur M c i = ((c : Int), (sd (freeF M c) i : Int), faultI M c) := if_pos ⟨⟨h1, h2⟩, h3⟩
theorem cur_f (h : ¬ ((0 ≤ dst (mC M) (mO M) (mE M) c ∧ sd (freeF M c) i < 4) ∧ faultI M c < (bxs M c).2.2)) : cur M c i = bxs M c := if_neg h
theorem exit_in8 (hF : 36 < F) (h : R8 s M) (hw : WF M) (hc : c < mN M) {x6 : Int32 × Int32 × Int32 × Int32 × nF × nF × nF × nF × Int32 × Int32} (hx : x6.2.2.2.1 = jI (c : Nat)) {f1 f2 f3 f4 : nF} {i1 i2 : Int32} :
    ∃ y : Int32 × Int32 × Int32 × nF × nF × nF × nF × Int32 × Int32, (y.1 = jI (bxs M (c + 1)).1 ∧ y.2.1 = jI (bxs M (c + 1)).2.1 ∧ y.2.2.1 = jI (bxs M (c + 1)).2.2) ∧ ∀ j10, lpr (mX8_bestExit_L34 F s x6 j10) F (jI (bxs M c).1, jI (bxs M c).2.1, jI (bxs M c).2.2, (3 : Int32), f1, f2, f3, f4, i1, i2) = j10 y := by
  have hw2 := hw.w2
  have hN := dm_le hw.1
  have hE : mE M < mN M := hw.2.2.2.2.1.1
  have hb := bxs_b hw c (by omega)
  have hfb := fault_b hw2 hw.2.1 hc
  have hend : cur M c 4 = bxs M (c + 1) := rfl
  refine lpr_j (L := fun j10 => mX8_bestExit_L34 F s x6 j10) (fun i y => y.2.2.2.1 = jI (3 - (i : Int)) ∧ y.1 = jI (cur M c i).1 ∧ y.2.1 = jI (cur M c i).2.1 ∧ y.2.2.1 = jI (cur M c i).2.2) 4 ?_ ⟨j_3, ?_⟩ (by omega)
  · intro i y hi ⟨y0, y1, y2, y3⟩
    by_cases e : i = 4
    · left
      subst e
      refine ⟨(y.1, y.2.1, y.2.2.1, y.2.2.2.2.1, y.2.2.2.2.2.1, y.2.2.2.2.2.2.1, y.2.2.2.2.2.2.2.1, y.2.2.2.2.2.2.2.2.1, y.2.2.2.2.2.2.2.2.2), ⟨y1, y2, y3⟩, fun j self => ?_⟩
      simp only [mX8_bestExit_L34, y0]
      rw [if_pos (by decide)]
    · right
      have hi4 : i < 4 := by omega
      refine ⟨hi4, ?_⟩
      have e3 : jI (3 - (i : Int)) = jI ((3 - i : Nat) : Int) := by congr 1; omega
      have e3s : jI ((3 - i : Nat) : Int) + (-1 : Int32) = jI (3 - ((i + 1 : Nat) : Int)) := by rw [j_m1, jI_add]; congr 1; omega
      have hsd : sd (freeF M c) (i + 1) = if freeF M c (3 - i) = true then 3 - i else sd (freeF M c) i := rfl
      obtain ⟨z, hz⟩ := areJoined8 (f0 := y.2.2.2.2.1) (q0 := y.2.2.2.2.2.1) hF h hw2 hE hc
      obtain ⟨u, hu1, hu2⟩ := faultTo8 (f0 := z.1) (q0 := z.2) (o0 := y.2.2.2.2.2.2.1) (st0 := y.2.2.2.2.2.2.2.1) (wc := y.2.2.2.2.2.2.2.2.1) (tu := y.2.2.2.2.2.2.2.2.2) hF h hw2 hc hE
      by_cases hfr : freeF M c (3 - i) = true
      · by_cases hjo : 0 ≤ dst (mC M) (mO M) (mE M) c
        · have hs0 : sd (freeF M c) (i + 1) = 3 - i := by rw [hsd, if_pos hfr]
          have hbit : (∃ b : Bool, ((if u.1 < y.2.2.1 then (1 : Int32) else if y.1 = jI (c : Nat) then (if u.1 = y.2.2.1 then (1 : Int32) else (0 : Int32)) else (0 : Int32)) = bI b) ∧ (if b = true then ((c : Int), ((3 - i : Nat) : Int), faultI M c) else cur M c i) = cur M c (i + 1)) := by
            have hcb : -1 ≤ (bxs M c).1 ∧ (bxs M c).1 < (c : Int) := ⟨hb.1, hb.2.1⟩
            rw [hu2, y3, y1]
            by_cases q : faultI M c < (bxs M c).2.2
            · refine ⟨true, ?_, by rw [if_pos rfl, cur_t hjo (by omega) q, hs0]⟩
              by_cases q2 : sd (freeF M c) i < 4
              · rw [cur_t hjo q2 q]
                show (if jI (faultI M c) < jI (faultI M c) then (1 : Int32) else if jI (c : Int) = jI (c : Nat) then (if jI (faultI M c) = jI (faultI M c) then (1 : Int32) else (0 : Int32)) else (0 : Int32)) = bI true
                rw [jlt_f (by omega) (by omega) (by omega), if_pos rfl, if_pos rfl]; rfl
              · rw [cur_f (fun z => q2 z.1.2), jlt_t (by omega) (by omega) q]; rfl
            · refine ⟨false, ?_, by rw [if_neg Bool.noConfusion, cur_f (fun z => q z.2), cur_f (fun z => q z.2)]⟩
              rw [cur_f (fun z => q z.2), jlt_f (by omega) (by omega) (by omega), jeq_f (by omega) (by omega) (by omega)]; rfl
          obtain ⟨b, hb1, hb2⟩ := hbit
          refine ⟨(jI (cur M c (i + 1)).1, jI (cur M c (i + 1)).2.1, jI (cur M c (i + 1)).2.2, jI (3 - ((i + 1 : Nat) : Int)), u.2.1, u.2.2.1, u.2.2.2.1, u.2.2.2.2.1, u.2.2.2.2.2.1, u.2.2.2.2.2.2), ⟨rfl, rfl, rfl, rfl⟩, fun j self => ?_⟩
          simp only [mX8_bestExit_L34, y0, hx]
          rw [if_neg (by rw [e3, nn0 (by omega)]; exact id), e3, mayBeExit8 h hw hc (by omega), bnd_s]
          simp only [jn_e, ifb, gl2, cl2, h.2.2.1]
          rw [if_pos hfr, hz, bnd_s, ifb, if_pos (decide_eq_true hjo), hu1, bnd_s]
          have hT : b = true → self (jI (c : Nat), jI ((3 - i : Nat) : Int), u.1, jI ((3 - i : Nat) : Int) + (-1 : Int32), u.2.1, u.2.2.1, u.2.2.2.1, u.2.2.2.2.1, u.2.2.2.2.2.1, u.2.2.2.2.2.2) = self (jI (cur M c (i + 1)).1, jI (cur M c (i + 1)).2.1, jI (cur M c (i + 1)).2.2, jI (3 - ((i + 1 : Nat) : Int)), u.2.1, u.2.2.1, u.2.2.2.1, u.2.2.2.2.1, u.2.2.2.2.2.1, u.2.2.2.2.2.2) := by
            intro hb
            rw [← hb2, if_pos hb, e3s, hu2]
          have hFa : b = false → self (y.1, y.2.1, y.2.2.1, jI ((3 - i : Nat) : Int) + (-1 : Int32), u.2.1, u.2.2.1, u.2.2.2.1, u.2.2.2.2.1, u.2.2.2.2.2.1, u.2.2.2.2.2.2) = self (jI (cur M c (i + 1)).1, jI (cur M c (i + 1)).2.1, jI (cur M c (i + 1)).2.2, jI (3 - ((i + 1 : Nat) : Int)), u.2.1, u.2.2.1, u.2.2.2.1, u.2.2.2.2.1, u.2.2.2.2.2.1, u.2.2.2.2.2.2) := by
            intro hb
            rw [← hb2, if_neg (by rw [hb]; exact Bool.noConfusion), e3s, y1, y2, y3]
          have b1 : (1 : Int32) = bI b → b = true := by cases b <;> decide
          have b0 : (0 : Int32) = bI b → b = false := by cases b <;> decide
          by_cases c1 : u.1 < y.2.2.1
          · rw [if_pos c1] at hb1
            simp only [if_pos c1, ne10, if_false]
            exact hT (b1 hb1)
          · rw [if_neg c1] at hb1
            by_cases c2 : y.1 = jI (c : Nat)
            · rw [if_pos c2] at hb1
              by_cases c3 : u.1 = y.2.2.1
              · rw [if_pos c3] at hb1
                simp only [if_neg c1, if_pos c2, if_pos c3, ne10, if_false]
                exact hT (b1 hb1)
              · rw [if_neg c3] at hb1
                simp only [if_neg c1, if_pos c2, if_neg c3, if_true]
                exact hFa (b0 hb1)
            · rw [if_neg c2] at hb1
              simp only [if_neg c1, if_neg c2, if_true]
              exact hFa (b0 hb1)
        · have e9 : cur M c (i + 1) = bxs M c := by unfold cur; rw [if_neg (fun z => hjo z.1.1)]
          have e8 : cur M c i = bxs M c := by unfold cur; rw [if_neg (fun z => hjo z.1.1)]
          refine ⟨(y.1, y.2.1, y.2.2.1, jI (3 - ((i + 1 : Nat) : Int)), z.1, z.2, y.2.2.2.2.2.2.1, y.2.2.2.2.2.2.2.1, y.2.2.2.2.2.2.2.2.1, y.2.2.2.2.2.2.2.2.2), ⟨rfl, by rw [e9, ← e8]; exact y1, by rw [e9, ← e8]; exact y2, by rw [e9, ← e8]; exact y3⟩, fun j self => ?_⟩
          simp only [mX8_bestExit_L34, y0, hx]
          rw [if_neg (by rw [e3, nn0 (by omega)]; exact id), e3, mayBeExit8 h hw hc (by omega), bnd_s]
          simp only [jn_e, ifb, gl2, cl2, h.2.2.1]
          rw [if_pos hfr, hz, bnd_s, ifb, if_neg (by rw [decide_eq_false hjo]; exact Bool.noConfusion), e3s]
      · have e9 : cur M c (i + 1) = cur M c i := by
          unfold cur
          rw [hsd, if_neg hfr]
        refine ⟨(y.1, y.2.1, y.2.2.1, jI (3 - ((i + 1 : Nat) : Int)), y.2.2.2.2.1, y.2.2.2.2.2.1, y.2.2.2.2.2.2.1, y.2.2.2.2.2.2.2.1, y.2.2.2.2.2.2.2.2.1, y.2.2.2.2.2.2.2.2.2), ⟨rfl, by rw [e9]; exact y1, by rw [e9]; exact y2, by rw [e9]; exact y3⟩, fun j self => ?_⟩
        simp only [mX8_bestExit_L34, y0, hx]
        rw [if_neg (by rw [e3, nn0 (by omega)]; exact id), e3, mayBeExit8 h hw hc (by omega), bnd_s]
        simp only [jn_e, ifb]
        rw [if_neg hfr, e3s]
  · have : cur M c 0 = bxs M c := by
      unfold cur
      rw [if_neg (fun z => by have := z.1.2; simp [sd] at this)]
    rw [this]
    exact ⟨rfl, rfl, rfl⟩
theorem bestExit8 {f1 f2 f3 f4 : nF} {i1 i2 : Int32} (hF : 36 < F) (h : R8 s M) (hw : WF M) (ha : -2147483648 ≤ a ∧ a < 2147483648) : ∃ z, mX8_bestExit F s f1 f2 f3 f4 i1 i2 (jI a) = some (jI (exitA M a), z) := by
  have hN := dm_le hw.1
  have hbN := bxs_b hw (mN M) (Nat.le_refl _)
  unfold mX8_bestExit exitA
  rw [j_0, j_2, in8 ha (by omega) (by omega), bnd_s, ← j_0, ifb]
  simp only [jn_e]
  by_cases h0 : 0 ≤ a ∧ a ≤ 2
  · rw [if_pos (decide_eq_true h0), if_pos h0]
    have key := lpr_r (Q := fun z : Int32 × nF × nF × nF × nF × Int32 × Int32 => z.1 = jI (if (bxs M (mN M)).1 < 0 then -4 else if a = 0 then (bxs M (mN M)).1 else if a = 1 then (bxs M (mN M)).2.1 else (bxs M (mN M)).2.2)) (L := mX8_bestExit_L22 F s (mX8_bestExit_K150 (jI a))) (F := F) (fun i y => y.1 = jI (bxs M i).1 ∧ y.2.1 = jI (bxs M i).2.1 ∧ y.2.2.1 = jI (bxs M i).2.2 ∧ y.2.2.2.1 = jI (i : Nat)) (mN M) (x := ((-1 : Int32), (-1 : Int32), (1000000 : Int32), (0 : Int32), f1, f2, f3, f4, i1, i2)) (by
      intro i y hi ⟨y1, y2, y3, y4⟩
      by_cases e : i = mN M
      · left
        refine ⟨(jI (if (bxs M (mN M)).1 < 0 then -4 else if a = 0 then (bxs M (mN M)).1 else if a = 1 then (bxs M (mN M)).2.1 else (bxs M (mN M)).2.2), y.2.2.2.2.1, y.2.2.2.2.2.1, y.2.2.2.2.2.2.1, y.2.2.2.2.2.2.2.1, y.2.2.2.2.2.2.2.2.1, y.2.2.2.2.2.2.2.2.2), rfl, fun self => ?_⟩
        simp only [mX8_bestExit_L22, cells8 h, bnd_s, y4]
        rw [nle_t (by omega) (by omega), y1, y2, y3, e]
        simp only [mX8_bestExit_K150, jn_e]
        by_cases e0 : (bxs M (mN M)).1 < 0
        · rw [j_0, jle_f (by omega) (by omega) e0, if_pos e0]; rfl
        · rw [j_0, jle_t (by omega) (by omega) (by omega), if_neg e0]
          by_cases q : a = 0
          · rw [jeq_t q, if_pos q]
          · rw [jeq_f ha (by omega) q, if_neg q]
            by_cases q1 : a = 1
            · rw [j_1, jeq_t q1, if_pos q1]
            · rw [j_1, jeq_f ha (by omega) q1, if_neg q1]
      · right
        have hi2 : i < mN M := by omega
        obtain ⟨z, ⟨z1, z2, z3⟩, zL⟩ := exit_in8 (x6 := y) (f1 := y.2.2.2.2.1) (f2 := y.2.2.2.2.2.1) (f3 := y.2.2.2.2.2.2.1) (f4 := y.2.2.2.2.2.2.2.1) (i1 := y.2.2.2.2.2.2.2.2.1) (i2 := y.2.2.2.2.2.2.2.2.2) hF h hw hi2 y4
        refine ⟨hi2, (z.1, z.2.1, z.2.2.1, jI ((i + 1 : Nat) : Int), z.2.2.2.1, z.2.2.2.2.1, z.2.2.2.2.2.1, z.2.2.2.2.2.2.1, z.2.2.2.2.2.2.2.1, z.2.2.2.2.2.2.2.2), ⟨z1, z2, z3, rfl⟩, fun self => ?_⟩
        simp only [mX8_bestExit_L22, cells8 h, bnd_s, y4]
        rw [nle_f hi2 (by omega)]
        simp only [jn_e]
        rw [y1, y2, y3, zL]
        simp only [mX8_bestExit_K144, y4, jS]) ⟨j_m1, j_m1, j_1000000, j_0⟩ (by omega)
    obtain ⟨z, z1, z2⟩ := key
    rw [z2, ← z1]
    exact ⟨_, rfl⟩
  · rw [if_neg (by rw [decide_eq_false h0]; exact Bool.noConfusion), if_neg h0]
    exact ⟨_, rfl⟩
end BX
