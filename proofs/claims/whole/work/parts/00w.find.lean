/-! FIND: the search for the best exchange on both sides -/
def clsE (f : Int) (t : Int × Int × Int) : Int × Int × Int := if t.2.1 = -1 then (-1, -1, f) else t
section FD
variable {v : MZ} {w w1 w2 : WY} {ex : EX} {s : nF} {M : Mz} {c d F n i j k x y : Nat}
/-- the cells cut off -/
theorem cut3 (hF : 36 < F) (h : R3 v M) (hw : WF M) (h1 : partI M = 1) (hk : k < 2 * mN M) (ho : mO M k = true) (hq : WQ M (mE M) w) : ∃ g, mX1_cut F ex v w (jI (k : Nat)) = some g ∧ ∀ c, c < mN M → g c = jI (b01 (!(side M k c)) : Nat) := by
  have hd := hw.1
  have hN := dm_le hd
  have hE : mE M < mN M := hw.2.2.2.2.1.1
  have hv := hw.2.2.1 k ho
  have hn := nd_vld hv
  have hl := nd_lt hd hk hn
  have hA : pA k < mN M := pA_lt hk
  have hlA := wq_len hw.w2 hE hA hq
  have hlB := wq_len hw.w2 hE hl.1 hq
  obtain ⟨n, ord, prev, len, hS, q1, q2, q3, -, -⟩ := hq
  have hrt := ss_rt hS
  have hVall : ∀ c, c < mN M → Vs n ord c := fun c hc => (rt_conn hrt).mpr (whole_all hw.w2 h1 hE hc)
  have dA := dst_rt hd.1 hw.2.2.2.1 hrt (hVall _ hA)
  have dB := dst_rt hd.1 hw.2.2.2.1 hrt (hVall _ hl.1)
  have hnN := ss_n hS
  -- the deeper end
  have hdeep : ∃ f, f < mN M ∧ f ≠ mE M ∧ ((pA k = f ∧ pB (mC M) k = prev f) ∨ (pA k = prev f ∧ pB (mC M) k = f)) ∧ (if jI (dst (mC M) (mO M) (mE M) (pA k)) ≤ jI (dst (mC M) (mO M) (mE M) (pB (mC M) k)) then jI (pB (mC M) k : Nat) else jI (pA k : Nat)) = jI (f : Nat) := by
    have hadj : adj (mC M) (mO M) (pA k) (pB (mC M) k) := adj_k ho
    have l1 := dst_lt hw.w2 hE hA
    have l2 := dst_lt hw.w2 hE hl.1
    rcases rt_edge hd.1 hw.2.2.2.1 hrt (hVall _ hA) hadj with ⟨e, hp⟩ | ⟨e, hp⟩
    · have h3 := (hrt.2.2.1 _ (hVall _ hA) e).2.2
      rw [hp] at h3
      exact ⟨pA k, hA, e, Or.inl ⟨rfl, hp.symm⟩, by rw [jle_f (by omega) (by omega) (by omega)]⟩
    · have h3 := (hrt.2.2.1 _ (hVall _ hl.1) e).2.2
      rw [hp] at h3
      exact ⟨pB (mC M) k, hl.1, e, Or.inr ⟨hp.symm, rfl⟩, by rw [jle_t (by omega) (by omega) (by omega)]⟩
  obtain ⟨f, hf1, hf2, hf3, hf4⟩ := hdeep
  have hside : ∀ c, c < mN M → (f ∈ pth prev (len c) c ↔ side M k c = false) := by
    intro c hc
    rw [cut_side hd.1 hw.2.2.2.1 hrt ho hf2 (hVall f hf1) hf3 (hVall c hc)]
    constructor
    · intro z
      cases hs : side M k c with
      | false => rfl
      | true => exact absurd (side_t.mp hs) z
    · intro z y
      rw [side_t.mpr y] at z; cases z
  unfold mX1_cut
  rw [lowEnd3 (show k < 72 by omega), bnd_s, highEnd3 h hd hk, bnd_s, hn, oJ_some, hlA, bnd_s, hlB, bnd_s]
  simp only [jn_e]
  have hfin : ∃ g, ((mJ7_fill_53178 F 36 ex.2.2.2.2.2 (0 : Int32)).bind fun r7 => (mX7_put 36 r7 (jI (f : Nat)) (1 : Int32)).bind fun r8 => lpr (mX1_cut_L59 w) F ((1 : Int32), r8)) = some g ∧ ∀ c, c < mN M → g c = jI (b01 (!(side M k c)) : Nat) := by
    rw [fill3 hF (by omega), bnd_s, put_i (show f < 36 by omega) (by omega), bnd_s]
    have key := lpr_r (Q := fun g : nF => ∀ c, c < mN M → g c = jI (b01 (!(side M k c)) : Nat)) (L := mX1_cut_L59 w) (F := F)
      (fun i y => y.1 = jI ((i + 1 : Nat) : Int) ∧ i < n ∧ (∀ j, j < i + 1 → y.2 (ord j) = jI (b01 (!(side M k (ord j))) : Nat)) ∧ ∀ j, i + 1 ≤ j → j < n → y.2 (ord j) = jI (b01 (decide (ord j = f)) : Nat)) 36 (x := ((1 : Int32), upd (mix 36 (fun _ => (0 : Int32)) ex.2.2.2.2.2) f (1 : Int32))) (by
      rintro i ⟨y1, y2⟩ hi ⟨e1, hin, hd1, hd2⟩
      have e1 : y1 = jI ((i + 1 : Nat) : Int) := e1
      subst e1
      have hd1 : ∀ j, j < i + 1 → y2 (ord j) = jI (b01 (!(side M k (ord j))) : Nat) := hd1
      have hd2 : ∀ j, i + 1 ≤ j → j < n → y2 (ord j) = jI (b01 (decide (ord j = f)) : Nat) := hd2
      by_cases e : n = i + 1
      · left
        refine ⟨y2, fun c hc => ?_, fun self => ?_⟩
        · obtain ⟨j, hj, rfl⟩ := hVall c hc
          exact hd1 j (by omega)
        · simp only [mX1_cut_L59, q1]
          rw [nle_t (by omega) (by omega)]
      · right
        have hi1 : i + 1 < n := by omega
        have hoN := hS.2.2.2.2.1 (i + 1) hi1
        obtain ⟨j0, g1, g2, g3, g4⟩ := hS.2.2.2.2.2.2.1 (i + 1) (by omega) hi1
        have hjN := hS.2.2.2.2.1 j0 (by omega)
        have hcur := hd2 (i + 1) (Nat.le_refl _) hi1
        have hpv := hd1 j0 (by omega)
        have hm : f ∈ pth prev (len (ord (i + 1))) (ord (i + 1)) ↔ f = ord (i + 1) ∨ f ∈ pth prev (len (ord j0)) (ord j0) := by
          rw [g4]
          show f ∈ ord (i + 1) :: pth prev (len (ord j0)) (prev (ord (i + 1))) ↔ _
          rw [g2, List.mem_cons]
        rw [hside _ hoN, hside _ hjN] at hm
        have hst : ∀ self, mX1_cut_L59 w self (jI ((i + 1 : Nat) : Int), y2) = if y2 (ord j0) = (1 : Int32) then self (jI ((i + 1 + 1 : Nat) : Int), upd y2 (ord (i + 1)) (1 : Int32)) else self (jI ((i + 1 + 1 : Nat) : Int), y2) := by
          intro self
          simp only [mX1_cut_L59, q1]
          rw [nle_f hi1 (by omega), at_i (by omega) (by omega), bnd_s, q2 _ hi1, at_i (by omega) (by omega), bnd_s, q3 _ (by omega) hi1, g2, at_i (by omega) (by omega), bnd_s]
          simp only [jn_e, put_i (show ord (i + 1) < 36 by omega) (show 36 < 100000 by omega), bnd_s, jS]
        have b1 : ∀ b : Bool, (jI (b01 b : Nat) = (1 : Int32)) ↔ b = true := by decide
        cases hsj : side M k (ord j0) with
        | false =>
          have hsi := hm.mpr (Or.inr hsj)
          refine ⟨by omega, (jI ((i + 1 + 1 : Nat) : Int), upd y2 (ord (i + 1)) (1 : Int32)), ⟨rfl, hi1, fun j hj => ?_, fun j hj1 hj2 => ?_⟩, fun self => by rw [hst, hpv, hsj, if_pos (by decide)]⟩
          · show upd y2 (ord (i + 1)) (1 : Int32) (ord j) = _
            by_cases z : j = i + 1
            · subst z; rw [upd_s, hsi]; rfl
            · rw [upd_n (fun q => z (hS.2.2.2.2.2.1 _ _ (by omega) hi1 q))]; exact hd1 j (by omega)
          · show upd y2 (ord (i + 1)) (1 : Int32) (ord j) = _
            rw [upd_n (fun q => by have := hS.2.2.2.2.2.1 _ _ hj2 hi1 q; omega)]; exact hd2 j (by omega) hj2
        | true =>
          refine ⟨by omega, (jI ((i + 1 + 1 : Nat) : Int), y2), ⟨rfl, hi1, fun j hj => ?_, fun j hj1 hj2 => hd2 j (by omega) hj2⟩, fun self => by rw [hst, hpv, hsj, if_neg (by decide)]⟩
          show y2 (ord j) = _
          by_cases z : j = i + 1
          · subst z
            rw [hcur]
            by_cases q : ord (i + 1) = f
            · rw [decide_eq_true q, hm.mpr (Or.inl q.symm)]; rfl
            · rw [decide_eq_false q]
              cases hsi : side M k (ord (i + 1)) with
              | true => rfl
              | false =>
                rcases hm.mp hsi with z | z
                · exact absurd z.symm q
                · rw [hsj] at z; cases z
          · exact hd1 j (by omega)) ⟨jl_1, hS.1, fun j hj => by
        obtain rfl : j = 0 := by omega
        show upd (mix 36 (fun _ => (0 : Int32)) ex.2.2.2.2.2) f (1 : Int32) (ord 0) = _
        rw [hS.2.2.1, upd_n (Ne.symm hf2), mix_lt (by omega)]
        have : side M k (mE M) = true := side_t.mpr conn_rf
        rw [this]; rfl, fun j hj1 hj2 => by
        show upd (mix 36 (fun _ => (0 : Int32)) ex.2.2.2.2.2) f (1 : Int32) (ord j) = _
        have := hS.2.2.2.2.1 j hj2
        by_cases q : ord j = f
        · rw [q, upd_s, decide_eq_true rfl]; rfl
        · rw [upd_n q, mix_lt (by omega), decide_eq_false q]; rfl⟩ hF
    obtain ⟨g, k1, k2⟩ := key
    exact ⟨g, k2, k1⟩
  by_cases q : jI (dst (mC M) (mO M) (mE M) (pA k)) ≤ jI (dst (mC M) (mO M) (mE M) (pB (mC M) k))
  · rw [if_pos q] at hf4 ⊢
    rw [hf4]; exact hfin
  · rw [if_neg q] at hf4 ⊢
    rw [hf4]; exact hfin
theorem b01_ne {b b' : Bool} : (jI (b01 b : Nat) = jI (b01 b' : Nat)) = (b = b') := by cases b <;> cases b' <;> decide +kernel
/-- the best place to be made for one that is taken away -/
theorem findMade3 {t : Int × Int × Int} (hF : 72 < F) (h : R3 v M) (hw : WF M) (h1 : partI M = 1) (hk : k < 2 * mN M) (ho : mO M k = true) (hq1 : WQ M (mE M) w1) (hq2 : WQ M (mX M) w2) (ht : Tb M t)
    (hg : ∀ c, c < mN M → ex.2.2.2.2.2 c = jI (b01 (!(side M k c)) : Nat)) (he1 : ex.1 = jI (clsE (faultI M (mX M)) t).1) (he2 : ex.2.1 = jI (clsE (faultI M (mX M)) t).2.1) (he3 : ex.2.2.1 = jI (faultI M (mX M))) (he4 : ex.2.2.2.1 = jI (clsE (faultI M (mX M)) t).2.2) (he5 : ex.2.2.2.2.1 = jI (toneS M : Nat)) :
    mX1_findMade F ex v w1 w2 (jI (k : Nat)) = some (jI (clsE (faultI M (mX M)) (exj M k (2 * mN M) t)).1, jI (clsE (faultI M (mX M)) (exj M k (2 * mN M) t)).2.1, jI (clsE (faultI M (mX M)) (exj M k (2 * mN M) t)).2.2) := by
  have hd := hw.1
  have hN := dm_le hd
  have hE : mE M < mN M := hw.2.2.2.2.1.1
  have hX : mX M < mN M := hw.2.2.2.2.2.1.1
  unfold mX1_findMade
  rw [exit3 h, bnd_s, at_i (by omega) (by omega), bnd_s, hg _ hX]
  simp only [jn_e]
  have hfin : lpr (mX1_findMade_L25 ex v w1 w2 (jI (k : Nat)) (bI (!(side M k (mX M))))) F ((0 : Int32), ex.1, ex.2.1, ex.2.2.2.1) = some (jI (clsE (faultI M (mX M)) (exj M k (2 * mN M) t)).1, jI (clsE (faultI M (mX M)) (exj M k (2 * mN M) t)).2.1, jI (clsE (faultI M (mX M)) (exj M k (2 * mN M) t)).2.2) := by
    have := lpr_fn (L := mX1_findMade_L25 ex v w1 w2 (jI (k : Nat)) (bI (!(side M k (mX M))))) (e := some (jI (clsE (faultI M (mX M)) (exj M k (2 * mN M) t)).1, jI (clsE (faultI M (mX M)) (exj M k (2 * mN M) t)).2.1, jI (clsE (faultI M (mX M)) (exj M k (2 * mN M) t)).2.2)) (F := F)
      (fun j => (jI (j : Nat), jI (clsE (faultI M (mX M)) (exj M k j t)).1, jI (clsE (faultI M (mX M)) (exj M k j t)).2.1, jI (clsE (faultI M (mX M)) (exj M k j t)).2.2)) (2 * mN M) (by
      intro j hj self
      have hT := exj_T hk ho ht j (by omega)
      have hb := Tb_b hw hT
      have hfb := fault_b hw.w2 hw.2.1 hX
      have hS : exj M k (j + 1) t = if candB M k j = true ∧ exF M k j < (exj M k j t).2.2 then ((k : Int), (j : Int), exF M k j) else exj M k j t := rfl
      have hA : pA j < mN M := pA_lt hj
      simp only [mX1_findMade_L25, places3 h, bnd_s]
      rw [nle_f hj (by omega), lowEnd3 (show j < 72 by omega), bnd_s, highEnd3 h hd hj, bnd_s]
      simp only [jn_e, jS]
      cases hn : nd (mC M) (mN M) j with
      | none =>
        have hc : candB M k j = false := by unfold candB; rw [hn]
        rw [oJ_none, if_pos (by decide), hS, if_neg (fun z => by rw [hc] at z; cases z.1)]
      | some o =>
        obtain ⟨n1, n2, n3⟩ := nd_lt hd hj hn
        rw [oJ_some, if_neg (by rw [nem1 (by omega)]; exact id), isOpenPlace3 h hd hw.2.2.1 hj, bnd_s, ifb]
        cases hoj : mO M j with
        | true =>
          have hc : ¬ candB M k j = true := fun z => by
            have := ((cand_t hw.w2 hj).mp z).2.1
            rw [hoj] at this; cases this
          rw [if_pos rfl, hS, if_neg (fun z => hc z.1)]
        | false =>
          rw [if_neg Bool.noConfusion, at_i (by omega) (by omega), bnd_s, at_i (by omega) (by omega), bnd_s, hg _ hA, hg _ n1]
          by_cases hs : side M k (pA j) = side M k o
          · have hc : ¬ candB M k j = true := fun z => by
              have := ((cand_t hw.w2 hj).mp z).2.2
              rw [n3] at this; exact this hs
            rw [if_pos (by rw [hs]), hS, if_neg (fun z => hc z.1)]
          · have hc : candB M k j = true := (cand_t hw.w2 hj).mpr ⟨n2, hoj, by rw [n3]; exact hs⟩
            rw [if_neg (by rw [b01_ne]; intro z; exact hs (by cases h3 : side M k (pA j) <;> cases h4 : side M k o <;> simp_all)), bnd_s]
            have hxb := exF_b hw hj hc
            -- what it would be
            have hthen : ∃ p q : Nat, p < mN M ∧ q < mN M ∧ side M k p = true ∧ side M k q = false ∧ ((pA j = p ∧ pB (mC M) j = q) ∨ (pA j = q ∧ pB (mC M) j = p)) ∧ (if jI (b01 (!(side M k (pA j))) : Nat) = 0 then jI (pA j : Nat) else jI (o : Nat)) = jI (p : Nat) ∧ (if jI (p : Nat) = jI (pA j : Nat) then jI (o : Nat) else jI (pA j : Nat)) = jI (q : Nat) := by
              cases h3 : side M k (pA j) with
              | true =>
                have h4 : side M k o = false := by cases h4 : side M k o <;> simp_all
                exact ⟨pA j, o, hA, n1, h3, h4, Or.inl ⟨rfl, n3⟩, if_pos (by decide), if_pos rfl⟩
              | false =>
                have h4 : side M k o = true := by cases h4 : side M k o <;> simp_all
                have hne : o ≠ pA j := by
                  rintro rfl
                  rw [h3] at h4; cases h4
                exact ⟨o, pA j, n1, hA, h4, h3, Or.inr ⟨rfl, n3⟩, if_neg (by decide), if_neg (by rw [neq (by omega) (by omega)]; exact hne)⟩
            obtain ⟨p, q, hp, hq, sp, sq, hpq, ep, eq⟩ := hthen
            have hval : ∀ x16 x18 : Int32, x16 = jI (p : Nat) → x18 = jI (q : Nat) → ∀ K : Int32 → Option (Int32 × Int32 × Int32), (if bI (!(side M k (mX M))) = 0 then K ex.2.2.1 else (mX7_at 36 w1.2.2.2.2 x16).bind fun r24 => (mX7_at 36 w2.2.2.2.2 x18).bind fun r25 => K (ex.2.2.2.2.1 + r24 + r25)) = K (jI (exF M k j)) := by
              intro x16 x18 e16 e18 K
              subst e16; subst e18
              rw [ifb]
              cases hsx : side M k (mX M) with
              | true =>
                rw [if_neg (by decide), he3, ex_keep hw hj hc hsx]
              | false =>
                rw [if_pos (by decide), wq_gain hw.w2 hp hq1 (whole_all hw.w2 h1 hE hp), bnd_s, wq_gain hw.w2 hq hq2 (whole_all hw.w2 h1 hX hq), bnd_s, he5, jI_add, jI_add, ex_over hw h1 ho hj hc hsx hpq sp sq]
            have hupd : ∀ X : Int32, X = jI (exF M k j) → (if jI (clsE (faultI M (mX M)) (exj M k j t)).2.1 = (-1 : Int32) then self (jI ((j + 1 : Nat) : Int), jI (k : Nat), jI (j : Nat), X) else if jI (clsE (faultI M (mX M)) (exj M k j t)).2.2 ≤ X then self (jI ((j + 1 : Nat) : Int), jI (clsE (faultI M (mX M)) (exj M k j t)).1, jI (clsE (faultI M (mX M)) (exj M k j t)).2.1, jI (clsE (faultI M (mX M)) (exj M k j t)).2.2) else self (jI ((j + 1 : Nat) : Int), jI (k : Nat), jI (j : Nat), X)) = self (jI ((j + 1 : Nat) : Int), jI (clsE (faultI M (mX M)) (exj M k (j + 1) t)).1, jI (clsE (faultI M (mX M)) (exj M k (j + 1) t)).2.1, jI (clsE (faultI M (mX M)) (exj M k (j + 1) t)).2.2) := by
              intro X hXe
              subst hXe
              have hnew : clsE (faultI M (mX M)) ((k : Int), (j : Int), exF M k j) = ((k : Int), (j : Int), exF M k j) := if_neg (show ¬ ((j : Int) = -1) by omega)
              by_cases e : (exj M k j t).2.1 = -1
              · have e2 := hb.2.2.2.2.2.2.1 e
                have e3 : exj M k (j + 1) t = ((k : Int), (j : Int), exF M k j) := by
                  rw [hS, if_pos ⟨hc, by rw [e2]; show exF M k j < 1000000; omega⟩]
                have e4 : clsE (faultI M (mX M)) (exj M k j t) = (-1, -1, faultI M (mX M)) := if_pos e
                rw [e4, e3, hnew]
                exact if_pos (show jI (-1) = (-1 : Int32) by decide)
              · have e4 : clsE (faultI M (mX M)) (exj M k j t) = exj M k j t := if_neg e
                rw [e4, j_m1, jeq_f (by omega) (by omega) e]
                by_cases e5 : exF M k j < (exj M k j t).2.2
                · rw [jle_f (by omega) (by omega) e5, hS, if_pos ⟨hc, e5⟩, hnew]
                · rw [jle_t (by omega) (by omega) (by omega), hS, if_neg (fun z => e5 z.2), e4]
            by_cases z1 : jI (b01 (!(side M k (pA j))) : Nat) = 0
            · rw [if_pos z1] at ep ⊢
              rw [← ep] at eq
              rw [if_pos rfl] at eq
              rw [if_pos trivial]
              exact (hval _ _ ep eq (fun X => if jI (clsE (faultI M (mX M)) (exj M k j t)).2.1 = (-1 : Int32) then self (jI ((j + 1 : Nat) : Int), jI (k : Nat), jI (j : Nat), X) else if jI (clsE (faultI M (mX M)) (exj M k j t)).2.2 ≤ X then self (jI ((j + 1 : Nat) : Int), jI (clsE (faultI M (mX M)) (exj M k j t)).1, jI (clsE (faultI M (mX M)) (exj M k j t)).2.1, jI (clsE (faultI M (mX M)) (exj M k j t)).2.2) else self (jI ((j + 1 : Nat) : Int), jI (k : Nat), jI (j : Nat), X))).trans (hupd _ rfl)
            · rw [if_neg z1] at ep ⊢
              rw [← ep] at eq
              by_cases z2 : jI (o : Nat) = jI (pA j : Nat)
              · rw [if_pos z2] at eq ⊢
                exact (hval _ _ ep eq (fun X => if jI (clsE (faultI M (mX M)) (exj M k j t)).2.1 = (-1 : Int32) then self (jI ((j + 1 : Nat) : Int), jI (k : Nat), jI (j : Nat), X) else if jI (clsE (faultI M (mX M)) (exj M k j t)).2.2 ≤ X then self (jI ((j + 1 : Nat) : Int), jI (clsE (faultI M (mX M)) (exj M k j t)).1, jI (clsE (faultI M (mX M)) (exj M k j t)).2.1, jI (clsE (faultI M (mX M)) (exj M k j t)).2.2) else self (jI ((j + 1 : Nat) : Int), jI (k : Nat), jI (j : Nat), X))).trans (hupd _ rfl)
              · rw [if_neg z2] at eq ⊢
                exact (hval _ _ ep eq (fun X => if jI (clsE (faultI M (mX M)) (exj M k j t)).2.1 = (-1 : Int32) then self (jI ((j + 1 : Nat) : Int), jI (k : Nat), jI (j : Nat), X) else if jI (clsE (faultI M (mX M)) (exj M k j t)).2.2 ≤ X then self (jI ((j + 1 : Nat) : Int), jI (clsE (faultI M (mX M)) (exj M k j t)).1, jI (clsE (faultI M (mX M)) (exj M k j t)).2.1, jI (clsE (faultI M (mX M)) (exj M k j t)).2.2) else self (jI ((j + 1 : Nat) : Int), jI (k : Nat), jI (j : Nat), X))).trans (hupd _ rfl)) (by
      intro self
      simp only [mX1_findMade_L25, places3 h, bnd_s]
      rw [nle_t (by omega) (by omega)]) (by omega)
    rw [← this, he1, he2, he4, jl_0]; rfl
  cases hsx : side M k (mX M) with
  | true =>
    rw [hsx] at hfin
    rw [if_neg (by decide)]
    exact hfin
  | false =>
    rw [hsx] at hfin
    rw [if_pos (by decide)]
    exact hfin
theorem find3 (hF : 72 < F) (h : R3 v M) (hw : WF M) (h1 : partI M = 1) : ∃ g y1 y2, mX1_find F ex v w1 w2 = some ((jI (exT M).1, jI (exT M).2.1, jI (faultI M (mX M)), jI (exT M).2.2, jI (toneS M : Nat), g), y1, y2) := by
  have hd := hw.1
  have hN := dm_le hd
  have hE : mE M < mN M := hw.2.2.2.2.1.1
  have hX : mX M < mN M := hw.2.2.2.2.2.1.1
  obtain ⟨y1, a1, a2⟩ := findFrom3 (w := w1) (F := F) (by omega) h hw.w2 hE
  obtain ⟨y2, b1, b2⟩ := findFrom3 (w := w2) (F := F) (by omega) h hw.w2 hX
  unfold mX1_find
  rw [entry3 h, bnd_s, a1, bnd_s, exit3 h, bnd_s, b1, bnd_s, toneSum3 (by omega) h hd, bnd_s, bnd_s, wq_gain hw.w2 hX a2 (whole_all hw.w2 h1 hE hX), bnd_s, jI_add]
  have hf : (toneS M : Int) + sumL (gain M) (wy (mC M) (mO M) (mE M) (mX M)) = faultI M (mX M) := by
    unfold faultI; rw [wy_back hw.w2 hE hX]
  rw [hf]
  have key := lpr_r (Q := fun z : EX × WY × WY => ∃ g, z = ((jI (exT M).1, jI (exT M).2.1, jI (faultI M (mX M)), jI (exT M).2.2, jI (toneS M : Nat), g), y1, y2)) (L := mX1_find_L67 F v y1 y2 (jI (toneS M : Nat)) (jI (sumL (gain M) (wy (mC M) (mO M) (mE M) (mX M))))) (F := F)
    (fun i y => y.1 = jI (i : Nat) ∧ y.2.1 = jI (clsE (faultI M (mX M)) (exk M i)).1 ∧ y.2.2.1 = jI (clsE (faultI M (mX M)) (exk M i)).2.1 ∧ y.2.2.2.1 = jI (clsE (faultI M (mX M)) (exk M i)).2.2) (2 * mN M) (x := ((0 : Int32), (-1 : Int32), (-1 : Int32), jI (faultI M (mX M)), ex.2.2.2.2.2)) (by
    rintro i ⟨z1, z2, z3, z4, z5⟩ hi ⟨e1, e2, e3, e4⟩
    have e1 : z1 = jI (i : Nat) := e1
    have e2 : z2 = jI (clsE (faultI M (mX M)) (exk M i)).1 := e2
    have e3 : z3 = jI (clsE (faultI M (mX M)) (exk M i)).2.1 := e3
    have e4 : z4 = jI (clsE (faultI M (mX M)) (exk M i)).2.2 := e4
    subst e1
    by_cases e : i = 2 * mN M
    · left
      subst e
      obtain ⟨k, j, g1, g2, g3, g4, g5⟩ := exT_found hw h1
      have hcl : clsE (faultI M (mX M)) (exk M (2 * mN M)) = exT M := by
        have : exT M = exk M (2 * mN M) := rfl
        rw [← this, g5]
        exact if_neg (show ¬ ((j : Int) = -1) by omega)
      rw [hcl] at e2 e3 e4
      have e2 : z2 = jI (exT M).1 := e2
      have e3 : z3 = jI (exT M).2.1 := e3
      have e4 : z4 = jI (exT M).2.2 := e4
      refine ⟨_, ⟨z5, rfl⟩, fun self => ?_⟩
      simp only [mX1_find_L67, places3 h, bnd_s]
      rw [nle_t (by omega) (by omega), e2, e3, e4, jI_add, hf]
    · right
      have hi2 : i < 2 * mN M := by omega
      refine ⟨hi2, ?_⟩
      have hS : exk M (i + 1) = if mO M i = true then exj M i (2 * mN M) (exk M i) else exk M i := rfl
      cases ho : mO M i with
      | false =>
        refine ⟨(jI ((i + 1 : Nat) : Int), z2, z3, z4, z5), ⟨rfl, ?_, ?_, ?_⟩, fun self => ?_⟩
        · rw [hS, ho, if_neg Bool.noConfusion]; exact e2
        · rw [hS, ho, if_neg Bool.noConfusion]; exact e3
        · rw [hS, ho, if_neg Bool.noConfusion]; exact e4
        · simp only [mX1_find_L67, places3 h, bnd_s]
          rw [nle_f hi2 (by omega), isOpenPlace3 h hd hw.2.2.1 hi2, bnd_s]
          simp only [jn_e, ifb, ho, jS]
          rw [if_neg Bool.noConfusion]
      | true =>
        obtain ⟨g, g1, g2⟩ := cut3 (ex := (z2, z3, jI (faultI M (mX M)), z4, jI (toneS M : Nat), z5)) (F := F) (by omega) h hw h1 hi2 ho a2
        have hm := findMade3 (ex := (z2, z3, jI (faultI M (mX M)), z4, jI (toneS M : Nat), g)) (t := exk M i) hF h hw h1 hi2 ho a2 b2 (exk_T i hi) g2 e2 e3 rfl e4 rfl
        refine ⟨(jI ((i + 1 : Nat) : Int), jI (clsE (faultI M (mX M)) (exj M i (2 * mN M) (exk M i))).1, jI (clsE (faultI M (mX M)) (exj M i (2 * mN M) (exk M i))).2.1, jI (clsE (faultI M (mX M)) (exj M i (2 * mN M) (exk M i))).2.2, g), ⟨rfl, ?_, ?_, ?_⟩, fun self => ?_⟩
        · rw [hS, ho, if_pos rfl]
        · rw [hS, ho, if_pos rfl]
        · rw [hS, ho, if_pos rfl]
        · simp only [mX1_find_L67, places3 h, bnd_s]
          rw [nle_f hi2 (by omega), isOpenPlace3 h hd hw.2.2.1 hi2, bnd_s]
          simp only [jn_e, ifb, ho, jS, jI_add, hf]
          rw [if_pos trivial, g1, bnd_s, hm, bnd_s]) ⟨jl_0, j_m1, j_m1, rfl⟩ (by omega)
  obtain ⟨z, ⟨g, hz⟩, hz2⟩ := key
  exact ⟨g, y1, y2, by rw [hz2, hz]⟩
end FD
