/-! BUILD: places by tones until all is one part -/
theorem WF_setO {M : Mz} {op : Op} (hw : WF M) (hv : vO (mC M) (mN M) op) (hf : forest (mC M) op) : WF (setO M op) := ⟨hw.1, hw.2.1, hv, hf, hw.2.2.2.2⟩
theorem nd_lt {M : Mz} {k o : Nat} (hd : dm M) (hk : k < 2 * mN M) (h : nd (mC M) (mN M) k = some o) : o < mN M ∧ vld (mC M) (mN M) k ∧ pB (mC M) k = o := by
  have h1 := num_lt hd (pA_lt hk) pdr_lt h
  have hv : vld (mC M) (mN M) k := by
    apply Classical.byContradiction
    intro q
    rw [nd_nvld hk q] at h; cases h
  refine ⟨h1.2, hv, ?_⟩
  have := nd_vld hv
  rw [h] at this
  exact (Option.some.inj this).symm
/-- a place whose ends are not joined yet -/
noncomputable def okB (M : Mz) (k : Nat) : Bool := match nd (mC M) (mN M) k with
  | none => false
  | some o => !(joined M (pA k) o)
def valP (M : Mz) (k : Nat) : Int := (mT M (pA k) : Int) + (mT M (pB (mC M) k) : Int)
noncomputable def dkf (M : Mz) : Nat → Int × Int
  | 0 => (-1, -1)
  | k + 1 => if okB M k = true ∧ (dkf M k).2 < valP M k then ((k : Int), valP M k) else dkf M k
theorem dkf_b {M : Mz} (hw : WF M) : ∀ k, k ≤ 2 * mN M → -1 ≤ (dkf M k).1 ∧ (dkf M k).1 < (k : Int) ∧ -1 ≤ (dkf M k).2 ∧ (dkf M k).2 ≤ 18 ∧ ((dkf M k).1 = -1 → ∀ j, j < k → okB M j = false) ∧ (0 ≤ (dkf M k).1 → okB M (dkf M k).1.toNat = true) ∧ ((dkf M k).1 = -1 → (dkf M k).2 = -1) := by
  intro k
  induction k with
  | zero =>
    intro _
    have e : dkf M 0 = (-1, -1) := rfl
    rw [e]
    exact ⟨by decide, by decide, by decide, by decide, fun _ j hj => by omega, fun z => absurd z (show ¬ (0 ≤ ((-1 : Int), (-1 : Int)).1) by decide), fun _ => rfl⟩
  | succ k ih =>
    intro hk
    obtain ⟨h1, h2, h3, h4, h5, h6, h7⟩ := ih (by omega)
    simp only [dkf]
    by_cases q : okB M k = true ∧ (dkf M k).2 < valP M k
    · rw [if_pos q]
      have hv : 0 ≤ valP M k ∧ valP M k ≤ 18 := by
        have hq := q.1
        unfold okB at hq
        cases hn : nd (mC M) (mN M) k with
        | none => rw [hn] at hq; cases hq
        | some o =>
          obtain ⟨n1, n2, n3⟩ := nd_lt hw.1 (show k < 2 * mN M by omega) hn
          have t1 := hw.2.1 (pA k) (pA_lt (show k < 2 * mN M by omega))
          have t2 := hw.2.1 (pB (mC M) k) (by rw [n3]; exact n1)
          unfold valP
          omega
      refine ⟨?_, ?_, ?_, ?_, ?_, ?_, ?_⟩
      · show -1 ≤ (k : Int); omega
      · show (k : Int) < ((k + 1 : Nat) : Int); omega
      · show -1 ≤ valP M k; omega
      · show valP M k ≤ 18; omega
      · intro z
        have z : (k : Int) = -1 := z
        omega
      · intro _
        show okB M ((k : Int)).toNat = true
        rw [Int.toNat_natCast]; exact q.1
      · intro z
        have z : (k : Int) = -1 := z
        omega
    · rw [if_neg q]
      refine ⟨h1, by omega, h3, h4, fun z j hj => ?_, h6, h7⟩
      by_cases e : j = k
      · subst e
        cases ho : okB M j with
        | false => rfl
        | true =>
          exfalso
          apply q
          refine ⟨ho, ?_⟩
          rw [h7 z]
          have : 0 ≤ valP M j := by unfold valP; omega
          omega
      · exact h5 z j (by omega)
noncomputable def dkP (M : Mz) : Nat := (dkf M (2 * mN M)).1.toNat
noncomputable def bstep (M : Mz) : Mz := setO M (setE (mO M) (dkP M) true)
noncomputable def bit (M : Mz) : Nat → Mz
  | 0 => M
  | j + 1 => bstep (bit M j)
section BU
variable {v : MZ} {s f : nF} {M : Mz} {c d F n i k x y : Nat} {P : Nat → Nat}
theorem ok_conn (hw : WF2 M) (hk : k < 2 * mN M) : okB M k = true ↔ vld (mC M) (mN M) k ∧ ¬ conn (mC M) (mO M) (pA k) (pB (mC M) k) := by
  unfold okB
  cases hn : nd (mC M) (mN M) k with
  | none =>
    constructor
    · intro z; cases z
    · intro z
      rw [nd_vld z.1] at hn; cases hn
  | some o =>
    obtain ⟨n1, n2, n3⟩ := nd_lt hw.1 hk hn
    show (!(joined M (pA k) o)) = true ↔ _
    unfold joined
    rw [← n3, Bool.not_eq_true', decide_eq_false_iff_not, dst_c]
    exact ⟨fun z => ⟨n2, z⟩, fun z => z.2⟩
/-- all cells of the grid are joined if all neighbours are -/
theorem grid_conn (hd : dm M) (h : ∀ k, vld (mC M) (mN M) k → conn (mC M) (mO M) (pA k) (pB (mC M) k)) : ∀ x, x < mN M → conn (mC M) (mO M) 0 x := by
  have hN := dm_le hd
  intro x
  induction x using Nat.strongRecOn with
  | ind x ih =>
    intro hx
    by_cases e0 : x = 0
    · subst e0; exact conn_rf
    · by_cases e : 0 < x % mC M
      · have hc : mC M = 2 ∨ mC M = 3 ∨ mC M = 4 ∨ mC M = 5 ∨ mC M = 6 := by omega
        have h1 := h (2 * (x - 1)) (by
          unfold vld
          rw [if_pos (by omega), show 2 * (x - 1) / 2 = x - 1 by omega]
          refine ⟨by omega, ?_⟩
          rcases hc with q | q | q | q | q <;> rw [q] at e ⊢ <;> omega)
        have e1 : pA (2 * (x - 1)) = x - 1 := by unfold pA; omega
        have e2 : pB (mC M) (2 * (x - 1)) = x := by unfold pB; rw [if_pos (by omega)]; omega
        rw [e1, e2] at h1
        exact conn_tr (ih (x - 1) (by omega) (by omega)) h1
      · have hge : mC M ≤ x := by
          apply Classical.byContradiction
          intro q
          rw [Nat.mod_eq_of_lt (by omega)] at e
          omega
        have h1 := h (2 * (x - mC M) + 1) (by
          unfold vld
          rw [if_neg (by omega), show (2 * (x - mC M) + 1) / 2 = x - mC M by omega]
          exact ⟨by omega, by omega⟩)
        have e1 : pA (2 * (x - mC M) + 1) = x - mC M := by unfold pA; omega
        have e2 : pB (mC M) (2 * (x - mC M) + 1) = x := by unfold pB; rw [if_neg (by omega)]; omega
        rw [e1, e2] at h1
        exact conn_tr (ih (x - mC M) (by omega) (by omega)) h1
theorem part_ge (hw : WF2 M) : 1 ≤ partI M := by
  have hN := dm_le hw.1
  have hG := vO_inG hw.1.1 hw.1.2.1 hw.1.2.2.1 hw.1.2.2.2 hw.2.1
  have := cnt_le hw.2.2 hG (by omega)
  have e : cnt (mO M) (2 * mN M) = cnt (mO M) (2 * (mC M * mR M)) := rfl
  unfold partI
  omega
theorem whole_iff (hw : WF2 M) : partI M = 1 ↔ ∀ k, k < 2 * mN M → okB M k = false := by
  have hN := dm_le hw.1
  have hG := vO_inG hw.1.1 hw.1.2.1 hw.1.2.2.1 hw.1.2.2.2 hw.2.1
  constructor
  · intro h k hk
    cases ho : okB M k with
    | false => rfl
    | true =>
      obtain ⟨h1, h2⟩ := (ok_conn hw hk).mp ho
      have hl := nd_lt hw.1 hk (nd_vld h1)
      exfalso
      apply h2
      refine whole_conn hw.2.2 hG ?_ (pA_lt hk) hl.1
      have e : cnt (mO M) (2 * mN M) = cnt (mO M) (2 * (mC M * mR M)) := rfl
      unfold partI at h
      omega
  · intro h
    have hg := grid_conn (M := M) hw.1 (fun k hk => by
      apply Classical.byContradiction
      intro q
      have := (ok_conn hw hk.1).mpr ⟨hk, q⟩
      rw [h k hk.1] at this; cases this)
    have := conn_whole hw.2.2 hG (by omega) (fun x y hx hy => conn_tr (conn_sy (hg x hx)) (hg y hy))
    have e : cnt (mO M) (2 * mN M) = cnt (mO M) (2 * (mC M * mR M)) := rfl
    unfold partI
    omega
theorem dk_found (hw : WF M) (h : partI M ≠ 1) : 0 ≤ (dkf M (2 * mN M)).1 ∧ dkP M < 2 * mN M ∧ vld (mC M) (mN M) (dkP M) ∧ ¬ conn (mC M) (mO M) (pA (dkP M)) (pB (mC M) (dkP M)) := by
  obtain ⟨h1, h2, h3, h4, h5, h6, h7⟩ := dkf_b hw (2 * mN M) (Nat.le_refl _)
  have h0 : 0 ≤ (dkf M (2 * mN M)).1 := by
    apply Classical.byContradiction
    intro q
    exact h ((whole_iff hw.w2).mpr (h5 (by omega)))
  have hk : dkP M < 2 * mN M := by unfold dkP; omega
  have := (ok_conn hw.w2 hk).mp (h6 h0)
  exact ⟨h0, hk, this.1, this.2⟩
theorem dk_none (hw : WF M) (h : partI M = 1) : (dkf M (2 * mN M)).1 = -1 := by
  obtain ⟨h1, h2, h3, h4, h5, h6, h7⟩ := dkf_b hw (2 * mN M) (Nat.le_refl _)
  apply Classical.byContradiction
  intro q
  have a := h6 (by omega)
  rw [(whole_iff hw.w2).mp h _ (by omega)] at a
  cases a
theorem bstep_wf (hw : WF M) (h : partI M ≠ 1) : WF (bstep M) ∧ partI (bstep M) = partI M - 1 := by
  obtain ⟨h1, h2, h3, h4⟩ := dk_found hw h
  have hno : mO M (dkP M) = false := by
    cases ho : mO M (dkP M) with
    | false => rfl
    | true => exact absurd (conn_ad (adj_k ho)) h4
  refine ⟨WF_setO hw (vO_set hw.2.2.1 h3) (forest_ins hw.2.2.2.1 h4), ?_⟩
  have e : cnt (setE (mO M) (dkP M) true) (2 * mN M) = cnt (mO M) (2 * mN M) + 1 := cnt_ins hno h2
  show (mN M : Int) - (cnt (setE (mO M) (dkP M) true) (2 * mN M) : Int) = partI M - 1
  unfold partI
  omega
theorem bit_wf (hw : WF M) : ∀ j : Nat, (j : Int) ≤ partI M - 1 → WF (bit M j) ∧ partI (bit M j) = partI M - j := by
  intro j
  induction j with
  | zero => intro _; exact ⟨hw, by simp [bit]⟩
  | succ j ih =>
    intro hj
    obtain ⟨h1, h2⟩ := ih (by omega)
    obtain ⟨h3, h4⟩ := bstep_wf h1 (by omega)
    exact ⟨h3, by show partI (bstep (bit M j)) = _; rw [h4, h2]; omega⟩
theorem bit_s (j : Nat) : mC (bit M j) = mC M ∧ mR (bit M j) = mR M ∧ mT (bit M j) = mT M ∧ mE (bit M j) = mE M ∧ mEs (bit M j) = mEs M ∧ mX (bit M j) = mX M ∧ mXs (bit M j) = mXs M ∧ mN (bit M j) = mN M := by
  induction j with
  | zero => exact ⟨rfl, rfl, rfl, rfl, rfl, rfl, rfl, rfl⟩
  | succ j ih => exact ih
/-- labels -/
def BR (f : nF) (P : Nat → Nat) : Prop := ∀ c, c < 36 → f c = jI (P c : Nat) ∧ P c < 36
def PI (C N : Nat) (op : Op) (P : Nat → Nat) : Prop := ∀ x y, x < N → y < N → (P x = P y ↔ conn C op x y)
theorem join3 {a b : Nat} (hF : 36 < F) (hf : BR f P) (ha : a < 36) (hb : b < 36) : ∃ g, mX0_join F f (jI (a : Nat)) (jI (b : Nat)) = some g ∧ BR g (fun c => if P c = P b then P a else P c) := by
  unfold mX0_join
  rw [at_i ha (by omega), bnd_s, at_i hb (by omega), bnd_s, (hf a ha).1, (hf b hb).1]
  have := lpr_fn (L := mX0_join_L22 (jI (P a : Nat)) (jI (P b : Nat))) (e := some (mix 36 (fun c => jI ((if P c = P b then P a else P c : Nat) : Int)) f)) (F := F) (fun i => (jI (i : Nat), mix i (fun c => jI ((if P c = P b then P a else P c : Nat) : Int)) f)) 36 (by
    intro i hi self
    simp only [mX0_join_L22, jN]
    rw [nle_f hi (by omega), gdi hi (by omega)]
    simp only [jn_e, jcl i (by omega), gdi hi (show 36 < 100000 by omega), jS]
    have e : mix i (fun c => jI ((if P c = P b then P a else P c : Nat) : Int)) f i = jI (P i : Nat) := by
      unfold mix; rw [if_neg (by omega)]; exact (hf i hi).1
    rw [e]
    have h1 := (hf i hi).2
    have h2 := (hf b hb).2
    by_cases q : P i = P b
    · rw [neq_t q, ← mix_S (f := fun c => jI ((if P c = P b then P a else P c : Nat) : Int))]
      simp only [if_pos q]
    · rw [neq_f q (by omega) (by omega), ← mix_S (f := fun c => jI ((if P c = P b then P a else P c : Nat) : Int))]
      simp only [if_neg q]
      have : upd (mix i (fun c => jI ((if P c = P b then P a else P c : Nat) : Int)) f) i (jI (P i : Nat)) = mix i (fun c => jI ((if P c = P b then P a else P c : Nat) : Int)) f := by
        funext j
        by_cases z : j = i
        · subst z; rw [upd_s, e]
        · rw [upd_n z]
      rw [this]) (by
    intro self
    simp only [mX0_join_L22, jN]
    rw [nle_t (Nat.le_refl _) (by omega)]) hF
  simp only [mix_0] at this
  refine ⟨mix 36 (fun c => jI ((if P c = P b then P a else P c : Nat) : Int)) f, ?_, fun c hc => ⟨mix_lt hc, ?_⟩⟩
  · rw [← this, jl_0]
  · have h1 := (hf c hc).2
    have h2 := (hf a ha).2
    show (if P c = P b then P a else P c) < 36
    split <;> omega
theorem PI_ins {C N : Nat} {op : Op} (h : PI C N op P) (ha : pA k < N) (hb : pB C k < N) : PI C N (setE op k true) (fun c => if P c = P (pB C k) then P (pA k) else P c) := by
  intro x y hx hy
  rw [conn_ins_iff, ← h x y hx hy, ← h x (pA k) hx ha, ← h (pB C k) y hb hy, ← h x (pB C k) hx hb, ← h (pA k) y ha hy]
  show ((if P x = P (pB C k) then P (pA k) else P x) = (if P y = P (pB C k) then P (pA k) else P y)) ↔ _
  by_cases q1 : P x = P (pB C k)
  · rw [if_pos q1]
    by_cases q2 : P y = P (pB C k)
    · rw [if_pos q2]
      exact ⟨fun _ => Or.inl (q1.trans q2.symm), fun _ => rfl⟩
    · rw [if_neg q2]
      refine ⟨fun z => Or.inr (Or.inr ⟨q1, z⟩), ?_⟩
      rintro (z | ⟨z1, z2⟩ | ⟨-, z⟩)
      · exact absurd (z.symm.trans q1) q2
      · exact absurd z2.symm q2
      · exact z
  · rw [if_neg q1]
    by_cases q2 : P y = P (pB C k)
    · rw [if_pos q2]
      refine ⟨fun z => Or.inr (Or.inl ⟨z, q2.symm⟩), ?_⟩
      rintro (z | ⟨z, -⟩ | ⟨z, -⟩)
      · exact absurd (z.trans q2) q1
      · exact z
      · exact absurd z q1
    · rw [if_neg q2]
      refine ⟨fun z => Or.inl z, ?_⟩
      rintro (z | ⟨-, z⟩ | ⟨z, -⟩)
      · exact z
      · exact absurd z.symm q2
      · exact absurd z q1
theorem findParts3 (hF : 72 < F) (h : R3 v M) (hw : WF2 M) : ∃ g P, mX0_findParts F f v = some g ∧ BR g P ∧ PI (mC M) (mN M) (mO M) P := by
  have hd := hw.1
  have hN := dm_le hd
  unfold mX0_findParts
  simp only [jn_e]
  have h1 := lpr_fn (L := mX0_findParts_L2 (mX0_findParts_K24 F v)) (e := mX0_findParts_K24 F v (mix 36 (fun c => jI (c : Nat)) f)) (F := F) (fun i => (jI (i : Nat), mix i (fun c => jI (c : Nat)) f)) 36 (by
    intro i hi self
    simp only [mX0_findParts_L2, jN]
    rw [nle_f hi (by omega), gdi hi (by omega), jcl _ (by omega), jS, mix_S (f := fun c => jI (c : Nat))]) (by
    intro self
    simp only [mX0_findParts_L2, jN]
    rw [nle_t (Nat.le_refl _) (by omega)]) (by omega)
  simp only [mix_0] at h1
  rw [jl_0, h1]
  simp only [mX0_findParts_K24]
  have key := lpr_r (Q := fun g : BD => ∃ P, BR g P ∧ PI (mC M) (mN M) (mO M) P) (L := mX0_findParts_L26 F v) (F := F)
    (fun i y => y.1 = jI (i : Nat) ∧ ∃ P, BR y.2 P ∧ PI (mC M) (mN M) (fun k => mO M k && decide (k < i)) P) (2 * mN M) (x := (jI ((0 : Nat) : Int), mix 36 (fun c => jI (c : Nat)) f)) (by
    rintro i ⟨y1, y2⟩ hi ⟨e1, P, hP, hI⟩
    have e1 : y1 = jI (i : Nat) := e1
    subst e1
    have hP : BR y2 P := hP
    by_cases e : i = 2 * mN M
    · left
      refine ⟨y2, ⟨P, hP, ?_⟩, fun self => ?_⟩
      · have : (fun k => mO M k && decide (k < i)) = mO M := by
          funext k
          cases ho : mO M k with
          | false => rfl
          | true => rw [decide_eq_true (by rw [e]; exact (hw.2.1 k ho).1)]; rfl
        rwa [this] at hI
      · simp only [mX0_findParts_L26, places3 h, bnd_s]
        rw [nle_t (by omega) (by omega)]
    · right
      have hi2 : i < 2 * mN M := by omega
      have hst : ∀ self, mX0_findParts_L26 F v self (jI (i : Nat), y2) = if mO M i = true then ((mX0_join F y2 (jI (pA i : Nat)) (oJ (nd (mC M) (mN M) i))).bind fun r11 => self (jI ((i + 1 : Nat) : Int), r11)) else self (jI ((i + 1 : Nat) : Int), y2) := by
        intro self
        simp only [mX0_findParts_L26, places3 h, bnd_s]
        rw [nle_f hi2 (by omega), isOpenPlace3 h hd hw.2.1 hi2, bnd_s]
        simp only [jn_e, ifb, lowEnd3 (show i < 72 by omega), highEnd3 h hd hi2, bnd_s, jS]
      refine ⟨hi2, ?_⟩
      by_cases ho : mO M i = true
      · have hv := hw.2.1 i ho
        have hn := nd_vld hv
        have hl := nd_lt hd hi2 hn
        have hA : pA i < mN M := pA_lt hi2
        obtain ⟨g, g1, g2⟩ := join3 (F := F) (by omega) hP (show pA i < 36 by omega) (show pB (mC M) i < 36 by omega)
        refine ⟨(jI ((i + 1 : Nat) : Int), g), ⟨rfl, _, g2, ?_⟩, fun self => by rw [hst, if_pos ho, hn, oJ_some, g1, bnd_s]⟩
        have := PI_ins (k := i) hI hA hl.1
        have e2 : setE (fun k => mO M k && decide (k < i)) i true = (fun k => mO M k && decide (k < i + 1)) := by
          funext k
          by_cases z : k = i
          · subst z; rw [setE_self, ho, decide_eq_true (by omega)]; rfl
          · rw [setE_ne z]
            show (mO M k && decide (k < i)) = (mO M k && decide (k < i + 1))
            congr 1
            exact decide_eq_decide.mpr (by omega)
        rwa [e2] at this
      · refine ⟨(jI ((i + 1 : Nat) : Int), y2), ⟨rfl, P, hP, ?_⟩, fun self => by rw [hst, if_neg ho]⟩
        have e2 : (fun k => mO M k && decide (k < i)) = (fun k => mO M k && decide (k < i + 1)) := by
          funext k
          by_cases z : k = i
          · subst z
            have : mO M k = false := by simpa using ho
            rw [this]; rfl
          · show (mO M k && decide (k < i)) = (mO M k && decide (k < i + 1))
            congr 1
            exact decide_eq_decide.mpr (by omega)
        rwa [e2] at hI) ⟨rfl, fun c => c, fun c hc => ⟨by
      show mix 36 (fun c => jI (c : Nat)) f c = jI (c : Nat)
      exact mix_lt hc, hc⟩, fun x y hx hy => by
      have e2 : (fun k => mO M k && decide (k < 0)) = fun _ => false := by
        funext k
        rw [decide_eq_false (by omega), Bool.and_false]
      rw [e2]
      refine ⟨fun z => ?_, fun z => z (fun w => x = w) rfl (fun u w huw _ => ?_)⟩
      · have z : x = y := z
        subst z; exact conn_rf
      · obtain ⟨k, hk, -⟩ := huw
        cases hk⟩ (by omega)
  obtain ⟨g, ⟨P, g1, g2⟩, g3⟩ := key
  exact ⟨g, P, g3, g1, g2⟩
theorem darkest3 (hF : 72 < F) (h : R3 v M) (hw : WF M) (hf : BR f P) (hP : PI (mC M) (mN M) (mO M) P) : mX0_darkestPlace F f v = some (jI (dkf M (2 * mN M)).1) := by
  have hd := hw.1
  have hN := dm_le hd
  unfold mX0_darkestPlace
  have := lpr_fn (L := mX0_darkestPlace_L7 f v) (e := some (jI (dkf M (2 * mN M)).1)) (F := F) (fun i => (jI (dkf M i).1, jI (dkf M i).2, jI (i : Nat))) (2 * mN M) (by
    intro i hi self
    obtain ⟨b1, b2, b3, b4, -⟩ := dkf_b hw i (by omega)
    simp only [mX0_darkestPlace_L7, places3 h, bnd_s]
    rw [nle_f hi (by omega), lowEnd3 (show i < 72 by omega), bnd_s, highEnd3 h hd hi, bnd_s]
    simp only [jn_e, jS]
    have hS : dkf M (i + 1) = if okB M i = true ∧ (dkf M i).2 < valP M i then ((i : Int), valP M i) else dkf M i := rfl
    have hA : pA i < mN M := pA_lt hi
    cases hn : nd (mC M) (mN M) i with
    | none =>
      have ho : okB M i = false := by unfold okB; rw [hn]
      rw [oJ_none, if_pos (by decide), hS, if_neg (fun z => by rw [ho] at z; cases z.1)]
    | some o =>
      obtain ⟨n1, n2, n3⟩ := nd_lt hd hi hn
      rw [oJ_some, if_neg (by rw [nem1 (by omega)]; exact id), at_i (by omega) (by omega), bnd_s, at_i (by omega) (by omega), bnd_s, (hf _ (show pA i < 36 by omega)).1, (hf o (by omega)).1]
      have hp1 := (hf _ (show pA i < 36 by omega)).2
      have hp2 := (hf o (by omega)).2
      have hok : okB M i = true ↔ P (pA i) ≠ P o := by
        rw [ok_conn hw.w2 hi, n3]
        have := hP (pA i) o hA n1
        exact ⟨fun z q => z.2 (this.mp q), fun z => ⟨n2, fun q => z (this.mpr q)⟩⟩
      by_cases q : P (pA i) = P o
      · rw [neq_t q, hS, if_neg (fun z => hok.mp z.1 q)]
      · rw [neq_f q (by omega) (by omega), at_i (by omega) (by omega), bnd_s, at_i (by omega) (by omega), bnd_s, h.2.2.1 _ hA, h.2.2.1 o n1, jI_add]
        have hval : (mT M (pA i) : Int) + (mT M o : Int) = valP M i := by unfold valP; rw [n3]
        have t1 := hw.2.1 (pA i) hA
        have t2 := hw.2.1 o n1
        by_cases z : (dkf M i).2 < valP M i
        · rw [jle_f (by omega) (by omega) (by omega), hS, if_pos ⟨hok.mpr q, z⟩, hval]
        · rw [jle_t (by omega) (by omega) (by omega), hS, if_neg (fun y => z y.2)]) (by
    intro self
    simp only [mX0_darkestPlace_L7, places3 h, bnd_s]
    rw [nle_t (Nat.le_refl _) (by omega)]) (by omega)
  have e0 : dkf M 0 = (-1, -1) := rfl
  rw [e0] at this
  have this2 : lpr (mX0_darkestPlace_L7 f v) F ((-1 : Int32), (-1 : Int32), (0 : Int32)) = _ := this
  exact this2
theorem joinAll3 (hF : 72 < F) (h : R3 v M) (hw : WF M) : ∃ g p, mX0_joinAllParts F f v = some (jI (partI M - 1), g, p) ∧ R3 (wP v p) (bit M (partI M - 1).toNat) := by
  have hN := dm_le hw.1
  have hp1 := part_ge hw.w2
  have hp2 : partI M ≤ 36 := by unfold partI; omega
  unfold mX0_joinAllParts
  obtain ⟨g, P, g1, g2, g3⟩ := findParts3 (f := f) hF h hw.w2
  rw [g1, bnd_s]
  simp only [jn_e]
  have key := lpr_r (Q := fun z : Int32 × BD × nF => z.1 = jI (partI M - 1) ∧ R3 (wP v z.2.2) (bit M (partI M - 1).toNat)) (L := mX0_joinAllParts_L9 F v mX0_joinAllParts_K63 (mX0_joinAllParts_K28 mX0_joinAllParts_K63)) (F := F)
    (fun j y => y.1 = jI (j : Nat) ∧ y.2.1 = jI (j : Nat) ∧ (j : Int) ≤ partI M - 1 ∧ (∃ P, BR y.2.2.1 P ∧ PI (mC (bit M j)) (mN (bit M j)) (mO (bit M j)) P) ∧ R3 (wP v y.2.2.2) (bit M j)) 36 (x := ((0 : Int32), (0 : Int32), g, v.2.2.2.1)) (by
    rintro j ⟨y1, y2, y3, y4⟩ hj ⟨e1, e2, e3, ⟨P, hP, hI⟩, hR⟩
    have e1 : y1 = jI (j : Nat) := e1
    have e2 : y2 = jI (j : Nat) := e2
    subst e1; subst e2
    have hP : BR y3 P := hP
    have hR : R3 (wP v y4) (bit M j) := hR
    obtain ⟨w1, w2⟩ := bit_wf hw j e3
    have hNj := dm_le w1.1
    have hdk := darkest3 hF hR w1 hP hI
    have hb := bit_s (M := M) j
    have hst : ∀ self, mX0_joinAllParts_L9 F v mX0_joinAllParts_K63 (mX0_joinAllParts_K28 mX0_joinAllParts_K63) self (jI (j : Nat), jI (j : Nat), y3, y4) = if jI (dkf (bit M j) (2 * mN (bit M j))).1 = (-1 : Int32) then some (jI (j : Nat), y3, y4) else ((mX3_setPlace (wP v y4) (jI (dkf (bit M j) (2 * mN (bit M j))).1) (bI true)).bind fun r9 => (mX3_lowEnd (jI (dkf (bit M j) (2 * mN (bit M j))).1)).bind fun r10 => (mX3_highEnd (wP v r9) (jI (dkf (bit M j) (2 * mN (bit M j))).1)).bind fun r11 => (mX0_join F y3 r10 r11).bind fun r12 => self (jI ((j + 1 : Nat) : Int), jI ((j + 1 : Nat) : Int), r12, r9)) := by
      intro self
      simp only [mX0_joinAllParts_L9, jl_36]
      rw [nle_f (by omega) (by omega)]
      have hdk2 : mX0_darkestPlace F y3 (v.1, v.2.1, v.2.2.1, y4, v.2.2.2.2.1, v.2.2.2.2.2) = some (jI (dkf (bit M j) (2 * mN (bit M j))).1) := hdk
      rw [hdk2, bnd_s]
      simp only [jS]
      rfl
    by_cases e : (j : Int) = partI M - 1
    · left
      have hone : partI (bit M j) = 1 := by omega
      have hno := dk_none w1 hone
      refine ⟨(jI (j : Nat), y3, y4), ⟨by rw [← e], ?_⟩, fun self => by rw [hst, hno, if_pos (by decide)]⟩
      rw [← e, Int.toNat_natCast]; exact hR
    · right
      obtain ⟨f1, f2, f3, f4⟩ := dk_found w1 (by omega)
      obtain ⟨w3, w4⟩ := bstep_wf w1 (by omega)
      have ek : (dkf (bit M j) (2 * mN (bit M j))).1 = ((dkP (bit M j) : Nat) : Int) := by unfold dkP; omega
      obtain ⟨p, p1, p2⟩ := setPlace3 (t := true) hR w1.1 f3
      have hn := nd_vld f3
      have hl := nd_lt w1.1 f2 hn
      have hA : pA (dkP (bit M j)) < mN (bit M j) := pA_lt f2
      obtain ⟨g', q1, q2⟩ := join3 (F := F) (by omega) hP (show pA (dkP (bit M j)) < 36 by omega) (show pB (mC (bit M j)) (dkP (bit M j)) < 36 by omega)
      have hhe := highEnd3 p2 w1.1 f2
      refine ⟨by omega, (jI ((j + 1 : Nat) : Int), jI ((j + 1 : Nat) : Int), g', p), ⟨rfl, rfl, by omega, ⟨_, q2, PI_ins hI hA hl.1⟩, p2⟩, fun self => ?_⟩
      rw [hst, ek, if_neg (by rw [nem1 (by omega)]; exact id), p1, bnd_s, lowEnd3 (by omega), bnd_s]
      have hhe2 : mX3_highEnd (wP v p) (jI (dkP (bit M j) : Nat)) = some (oJ (nd (mC (bit M j)) (mN (bit M j)) (dkP (bit M j)))) := hhe
      rw [hhe2, bnd_s, hn, oJ_some, q1, bnd_s]) ⟨jl_0, jl_0, by omega, ⟨P, g2, g3⟩, h⟩ (by omega)
  obtain ⟨z, ⟨z1, z2⟩, z3⟩ := key
  refine ⟨z.2.1, z.2.2, ?_, z2⟩
  rw [z3, ← z1]
/-- the reference's search for the place -/
theorem build_in8 {f0 q0 : nF} (hF : 72 < F) (h : R8 s M) (hw : WF M) {x6 : Int32 × nF × nF × nF} (hx : x6.2.1 = s) : ∃ z : Int32 × nF × nF, z.1 = jI (dkf M (2 * mN M)).1 ∧ ∀ j10, lpr (mX8_build_L30 F x6 j10) F ((-1 : Int32), (-1 : Int32), (0 : Int32), f0, q0) = j10 z := by
  have hd := hw.1
  have hN := dm_le hd
  subst hx
  refine lpr_j (L := fun j10 => mX8_build_L30 F x6 j10) (fun i y => y.1 = jI (dkf M i).1 ∧ y.2.1 = jI (dkf M i).2 ∧ y.2.2.1 = jI (i : Nat)) (2 * mN M) ?_ ⟨j_m1, j_m1, jl_0⟩ (by omega)
  rintro i y hi ⟨y1, y2, y3⟩
  by_cases e : i = 2 * mN M
  · left
    refine ⟨(y.1, y.2.2.2.1, y.2.2.2.2), by rw [← e]; exact y1, fun j self => ?_⟩
    simp only [mX8_build_L30, cells8 h, bnd_s, j2m, y3]
    rw [nle_t (by omega) (by omega)]
  · right
    have hi2 : i < 2 * mN M := by omega
    obtain ⟨b1, b2, b3, b4, -⟩ := dkf_b hw i (by omega)
    have hS : dkf M (i + 1) = if okB M i = true ∧ (dkf M i).2 < valP M i then ((i : Int), valP M i) else dkf M i := rfl
    have hA : i / 2 < mN M := pA_lt hi2
    refine ⟨hi2, ?_⟩
    cases hn : nd (mC M) (mN M) i with
    | none =>
      have ho : okB M i = false := by unfold okB; rw [hn]
      refine ⟨(y.1, y.2.1, jI ((i + 1 : Nat) : Int), y.2.2.2.1, y.2.2.2.2), ⟨by rw [hS, if_neg (fun z => by rw [ho] at z; cases z.1)]; exact y1, by rw [hS, if_neg (fun z => by rw [ho] at z; cases z.1)]; exact y2, rfl⟩, fun j self => ?_⟩
      simp only [mX8_build_L30, cells8 h, bnd_s, j2m, y3]
      rw [nle_f hi2 (by omega), second8 h hd hi2, bnd_s, hn, oJ_none]
      simp only [jn_e]
      rw [if_neg (by decide), y2, j_m1, jle_t (by omega) (by omega) (by omega), jS]
    | some o =>
      obtain ⟨n1, n2, n3⟩ := nd_lt hd hi2 hn
      have hval : (mT M (i / 2) : Int) + (mT M o : Int) = valP M i := by unfold valP; rw [n3]; rfl
      have t1 := hw.2.1 (i / 2) hA
      have t2 := hw.2.1 o n1
      obtain ⟨u, hu⟩ := areJoined8 (f0 := y.2.2.2.1) (q0 := y.2.2.2.2) (p := i / 2) (q := o) (F := F) (by omega) h hw.w2 hA n1
      have hst : ∀ j self, mX8_build_L30 F x6 j self y = if jI (valP M i) ≤ jI (dkf M i).2 then self (y.1, y.2.1, jI ((i + 1 : Nat) : Int), y.2.2.2.1, y.2.2.2.2) else (if decide (0 ≤ dst (mC M) (mO M) (i / 2) o) = true then self (y.1, y.2.1, jI ((i + 1 : Nat) : Int), u.1, u.2) else self (jI (i : Nat), jI (valP M i), jI ((i + 1 : Nat) : Int), u.1, u.2)) := by
        intro j self
        simp only [mX8_build_L30, cells8 h, bnd_s, j2m, y3]
        rw [nle_f hi2 (by omega), second8 h hd hi2, bnd_s, hn, oJ_some]
        simp only [jn_e, gn2, jl_2, ndiv (show i < 100000 by omega) (show 2 < 100000 by omega) (show 0 < 2 by omega), j6p, gn2c, gdi (show 6 + i / 2 < 114 by omega) (show 114 < 100000 by omega), gdi (show 6 + o < 114 by omega) (show 114 < 100000 by omega), jcl (6 + i / 2) (by omega), jcl (6 + o) (by omega), h.2.2.2.2.2.2.1 _ hA, h.2.2.2.2.2.2.1 o n1, jI_add, hval, hu, bnd_s, ifb, jS, y2]
        rw [if_pos (show (0 : Int32) ≤ jI (o : Nat) by rw [n0l (by omega)]; trivial)]
      have hok : okB M i = true ↔ ¬ 0 ≤ dst (mC M) (mO M) (i / 2) o := by
        rw [ok_conn hw.w2 hi2, n3, dst_c]
        exact ⟨fun z => z.2, fun z => ⟨n2, z⟩⟩
      by_cases q : valP M i ≤ (dkf M i).2
      · refine ⟨(y.1, y.2.1, jI ((i + 1 : Nat) : Int), y.2.2.2.1, y.2.2.2.2), ⟨by rw [hS, if_neg (fun z => by omega)]; exact y1, by rw [hS, if_neg (fun z => by omega)]; exact y2, rfl⟩, fun j self => ?_⟩
        rw [hst, jle_t (by omega) (by omega) q]
      · by_cases q2 : 0 ≤ dst (mC M) (mO M) (i / 2) o
        · refine ⟨(y.1, y.2.1, jI ((i + 1 : Nat) : Int), u.1, u.2), ⟨by rw [hS, if_neg (fun z => hok.mp z.1 q2)]; exact y1, by rw [hS, if_neg (fun z => hok.mp z.1 q2)]; exact y2, rfl⟩, fun j self => ?_⟩
          rw [hst, jle_f (by omega) (by omega) (by omega), if_pos (decide_eq_true q2)]
        · refine ⟨(jI (i : Nat), jI (valP M i), jI ((i + 1 : Nat) : Int), u.1, u.2), ⟨by rw [hS, if_pos ⟨hok.mpr q2, by omega⟩], by rw [hS, if_pos ⟨hok.mpr q2, by omega⟩], rfl⟩, fun j self => ?_⟩
          rw [hst, jle_f (by omega) (by omega) (by omega), if_neg (by rw [decide_eq_false q2]; exact Bool.noConfusion)]
theorem build_out8 {f0 q0 : nF} {j4 : (Int32 × nF × nF × nF) → Option (Int32 × nF × nF × nF × Int32 × nF × nF)} (hF : 72 < F) (h : R8 s M) (hw : WF M) : ∃ z : Int32 × nF × nF × nF, z.1 = jI (partI M - 1) ∧ R8 z.2.1 (bit M (partI M - 1).toNat) ∧ lpr (mX8_build_L16 F j4) F ((0 : Int32), s, f0, q0) = j4 z := by
  have hN := dm_le hw.1
  have hp1 := part_ge hw.w2
  have hp2 : partI M ≤ 36 := by unfold partI; omega
  have key := lpr_j (Q := fun z : Int32 × nF × nF × nF => z.1 = jI (partI M - 1) ∧ R8 z.2.1 (bit M (partI M - 1).toNat)) (L := fun j4 => mX8_build_L16 F j4) (F := F)
    (fun j y => y.1 = jI (j : Nat) ∧ (j : Int) ≤ partI M - 1 ∧ R8 y.2.1 (bit M j)) 36 (x := ((0 : Int32), s, f0, q0)) (by
    rintro j ⟨y1, y2, y3, y4⟩ hj ⟨e1, e3, hR⟩
    have e1 : y1 = jI (j : Nat) := e1
    subst e1
    have hR : R8 y2 (bit M j) := hR
    obtain ⟨w1, w2⟩ := bit_wf hw j e3
    have hNj := dm_le w1.1
    have hW := isWhole8 (F := F) (by omega) hR w1.1
    by_cases e : (j : Int) = partI M - 1
    · left
      have hone : partI (bit M j) = 1 := by omega
      refine ⟨(jI (j : Nat), y2, y3, y4), ⟨by rw [← e], ?_⟩, fun j4 self => ?_⟩
      · rw [← e, Int.toNat_natCast]; exact hR
      · simp only [mX8_build_L16, hW, bnd_s, ifb]
        rw [if_pos (decide_eq_true hone)]
    · right
      have hone : ¬ partI (bit M j) = 1 := by omega
      obtain ⟨f1, f2, f3, f4⟩ := dk_found w1 hone
      have ek : (dkf (bit M j) (2 * mN (bit M j))).1 = ((dkP (bit M j) : Nat) : Int) := by unfold dkP; omega
      obtain ⟨z, z1, z2⟩ := build_in8 (f0 := y3) (q0 := y4) (x6 := (jI (j : Nat), y2, y3, y4)) hF hR w1 rfl
      refine ⟨by omega, (jI ((j + 1 : Nat) : Int), upd y2 (42 + dkP (bit M j)) (jI (b01 true : Nat)), z.2.1, z.2.2), ⟨rfl, by omega, R8_set hR w1.1 f2⟩, fun j4 self => ?_⟩
      simp only [mX8_build_L16, hW, bnd_s, ifb, jn_e]
      rw [if_neg (by rw [decide_eq_false hone]; exact Bool.noConfusion), z2]
      simp only [mX8_build_K114, z1, ek, j42p]
      rw [gdi (by omega) (by omega), jcl _ (by omega), jS]
      rfl) ⟨jl_0, by omega, h⟩ (by omega)
  obtain ⟨z, ⟨z1, z2⟩, z3⟩ := key
  exact ⟨z, z1, z2, z3 j4⟩
end BU
