/-! THE MAZE as numbers: columns, rows, tones, open places, doors -/
abbrev Mz : Type := (Nat × Nat) × (Nat → Nat) × Op × ((Nat × Nat) × (Nat × Nat))
def mC (M : Mz) : Nat := M.1.1
def mR (M : Mz) : Nat := M.1.2
def mN (M : Mz) : Nat := M.1.1 * M.1.2
def mT (M : Mz) : Nat → Nat := M.2.1
def mO (M : Mz) : Op := M.2.2.1
def mE (M : Mz) : Nat := M.2.2.2.1.1
def mEs (M : Mz) : Nat := M.2.2.2.1.2
def mX (M : Mz) : Nat := M.2.2.2.2.1
def mXs (M : Mz) : Nat := M.2.2.2.2.2
def setO (M : Mz) (op : Op) : Mz := (M.1, M.2.1, op, M.2.2.2)
def setT (M : Mz) (t : Nat → Nat) : Mz := (M.1, t, M.2.2)
/-- the cell beside one -/
def nb (C N c d : Nat) : Option Nat :=
  if d = 0 then (if C ≤ c then some (c - C) else none)
  else if d = 1 then (if c % C + 1 < C then some (c + 1) else none)
  else if d = 2 then (if c + C < N then some (c + C) else none)
  else (if 0 < c % C then some (c - 1) else none)
/-- the number of the place of a passage -/
def num (C c d : Nat) : Nat := if d = 0 then 2 * (c - C) + 1 else if d = 1 then 2 * c else if d = 2 then 2 * c + 1 else 2 * (c - 1)
/-- a place of a passage -/
def vld (C N k : Nat) : Prop := k < 2 * N ∧ (if k % 2 = 0 then (k / 2) % C + 1 < C else k / 2 + C < N)
def oJ (x : Option Nat) : Int32 := match x with
  | none => jI (-1)
  | some k => jI k
def opn (C N : Nat) (op : Op) (c d : Nat) : Bool := (nb C N c d).isSome && op (num C c d)
def mask (C N : Nat) (op : Op) (c : Nat) : Nat := (if opn C N op c 0 then 1 else 0) + (if opn C N op c 1 then 2 else 0) + (if opn C N op c 2 then 4 else 0) + (if opn C N op c 3 then 8 else 0)
def dm (M : Mz) : Prop := 2 ≤ mC M ∧ mC M ≤ 6 ∧ 2 ≤ mR M ∧ mR M ≤ 6
def WF (M : Mz) : Prop := dm M ∧ (∀ c, c < mN M → mT M c ≤ 9) ∧ (∀ k, mO M k = true → vld (mC M) (mN M) k) ∧ forest (mC M) (mO M) ∧
  (mE M < mN M ∧ mEs M < 4 ∧ nb (mC M) (mN M) (mE M) (mEs M) = none) ∧ (mX M < mN M ∧ mXs M < 4 ∧ nb (mC M) (mN M) (mX M) (mXs M) = none) ∧ ¬ (mE M = mX M ∧ mEs M = mXs M)
theorem dm_N {M : Mz} (h : dm M) : mN M = mC M * mR M ∧ 4 ≤ mN M ∧ mN M ≤ 36 ∧ mC M ≤ mN M := by
  obtain ⟨h1, h2, h3, h4⟩ := h
  have e : mN M = mC M * mR M := rfl
  refine ⟨e, ?_, ?_, ?_⟩
  · rw [e]; exact Nat.mul_le_mul h1 h3
  · rw [e]; exact Nat.mul_le_mul h2 h4
  · rw [e]; exact Nat.le_mul_of_pos_right _ (by omega)
/-- numbers of the grid, tried one by one -/
theorem grid_all {P : Nat → Nat → Nat → Nat → Bool} (h : (List.range 7).all (fun C => (List.range 7).all (fun R => !(decide (2 ≤ C)) || !(decide (2 ≤ R)) || (List.range (C * R)).all (fun c => (List.range 4).all (fun d => P C R c d)))) = true) {C R c d : Nat} (h1 : 2 ≤ C) (h2 : C ≤ 6) (h3 : 2 ≤ R) (h4 : R ≤ 6) (hc : c < C * R) (hd : d < 4) : P C R c d = true := by
  simp only [List.all_eq_true, List.mem_range, Bool.or_eq_true, Bool.not_eq_true', decide_eq_false_iff_not] at h
  have := h C (by omega) R (by omega)
  rcases this with (h5 | h5) | h5
  · omega
  · omega
  · exact h5 c hc d hd
def opp (d : Nat) : Nat := if d = 0 then 2 else if d = 1 then 3 else if d = 2 then 0 else 1
theorem opp_lt {d : Nat} : opp d < 4 := by unfold opp; split <;> (try split) <;> (try split) <;> omega
theorem opp_opp {d : Nat} (h : d < 4) : opp (opp d) = d := by
  have : d = 0 ∨ d = 1 ∨ d = 2 ∨ d = 3 := by omega
  rcases this with rfl | rfl | rfl | rfl <;> rfl
/-- a neighbour, its place and the way back -/
theorem nb_pl {C R c d o : Nat} (h1 : 2 ≤ C) (h2 : C ≤ 6) (h3 : 2 ≤ R) (h4 : R ≤ 6) (hc : c < C * R) (hd : d < 4) (h : nb C (C * R) c d = some o) :
    vld C (C * R) (num C c d) ∧ ((pA (num C c d) = c ∧ pB C (num C c d) = o) ∨ (pA (num C c d) = o ∧ pB C (num C c d) = c)) ∧ o < C * R ∧ nb C (C * R) o (opp d) = some c ∧ num C o (opp d) = num C c d := by
  have hC : C = 2 ∨ C = 3 ∨ C = 4 ∨ C = 5 ∨ C = 6 := by omega
  have hR : R = 2 ∨ R = 3 ∨ R = 4 ∨ R = 5 ∨ R = 6 := by omega
  have hD : d = 0 ∨ d = 1 ∨ d = 2 ∨ d = 3 := by omega
  rcases hD with rfl | rfl | rfl | rfl
  · simp only [nb, num, opp, vld, pA, pB, if_true] at h ⊢
    split at h
    · cases h
      have e1 : (2 * (c - C) + 1) % 2 = 1 := by omega
      have e2 : (2 * (c - C) + 1) / 2 = c - C := by omega
      simp only [e1, e2, if_neg (show ¬ (1 : Nat) = 0 by omega), if_neg (show ¬ (2 : Nat) = 0 by omega), if_neg (show ¬ (2 : Nat) = 1 by omega), if_true]
      rename_i hh
      rw [if_pos (show c - C + C < C * R by omega)]
      refine ⟨⟨by omega, by omega⟩, Or.inr ⟨trivial, by omega⟩, by omega, by rw [show c - C + C = c by omega], trivial⟩
    · cases h
  · simp only [nb, num, opp, vld, pA, pB, if_neg (show ¬ (1 : Nat) = 0 by omega), if_true, if_neg (show ¬ (3 : Nat) = 0 by omega), if_neg (show ¬ (3 : Nat) = 1 by omega), if_neg (show ¬ (3 : Nat) = 2 by omega)] at h ⊢
    split at h
    · cases h
      rename_i hh
      have e1 : (2 * c) % 2 = 0 := by omega
      have e2 : (2 * c) / 2 = c := by omega
      have e3 : 0 < (c + 1) % C := by rcases hC with rfl | rfl | rfl | rfl | rfl <;> omega
      have e4 : c + 1 < C * R := by rcases hC with rfl | rfl | rfl | rfl | rfl <;> omega
      simp only [e1, e2, if_true]
      rw [if_pos e3]
      refine ⟨⟨by omega, hh⟩, Or.inl ⟨trivial, trivial⟩, e4, by rw [show c + 1 - 1 = c by omega], by omega⟩
    · cases h
  · simp only [nb, num, opp, vld, pA, pB, if_neg (show ¬ (2 : Nat) = 0 by omega), if_neg (show ¬ (2 : Nat) = 1 by omega), if_true] at h ⊢
    split at h
    · cases h
      rename_i hh
      have e1 : (2 * c + 1) % 2 = 1 := by omega
      have e2 : (2 * c + 1) / 2 = c := by omega
      simp only [e1, e2, if_neg (show ¬ (1 : Nat) = 0 by omega)]
      rw [if_pos (show C ≤ c + C by omega)]
      refine ⟨⟨by omega, hh⟩, Or.inl ⟨trivial, trivial⟩, hh, by rw [show c + C - C = c by omega], by omega⟩
    · cases h
  · simp only [nb, num, opp, vld, pA, pB, if_neg (show ¬ (3 : Nat) = 0 by omega), if_neg (show ¬ (3 : Nat) = 1 by omega), if_neg (show ¬ (3 : Nat) = 2 by omega), if_neg (show ¬ (1 : Nat) = 0 by omega), if_true] at h ⊢
    split at h
    · cases h
      rename_i hh
      have e0 : 0 < c := by
        rcases Nat.eq_zero_or_pos c with rfl | q
        · simp at hh
        · exact q
      have e1 : (2 * (c - 1)) % 2 = 0 := by omega
      have e2 : (2 * (c - 1)) / 2 = c - 1 := by omega
      have e3 : (c - 1) % C + 1 < C := by rcases hC with rfl | rfl | rfl | rfl | rfl <;> omega
      simp only [e1, e2, if_true]
      rw [if_pos e3]
      refine ⟨⟨by omega, by first | trivial | exact e3⟩, Or.inr ⟨trivial, by omega⟩, by omega, by rw [show c - 1 + 1 = c by omega], trivial⟩
    · cases h
/-- the direction in which a place goes from its low end -/
def pdr (k : Nat) : Nat := if k % 2 = 0 then 1 else 2
theorem pdr_lt {k : Nat} : pdr k < 4 := by unfold pdr; split <;> omega
theorem pdr_num {C k : Nat} : num C (pA k) (pdr k) = k := by
  unfold num pA pdr
  split
  · simp; omega
  · simp; omega
theorem pl_nb {C N k : Nat} (h : vld C N k) : nb C N (pA k) (pdr k) = some (pB C k) := by
  unfold vld at h
  unfold nb pA pB pdr
  by_cases e : k % 2 = 0
  · rw [if_pos e] at h
    simp only [if_pos e, if_neg (show ¬ (1 : Nat) = 0 by omega), if_true]
    rw [if_pos h.2]
  · rw [if_neg e] at h
    simp only [if_neg e, if_neg (show ¬ (2 : Nat) = 0 by omega), if_neg (show ¬ (2 : Nat) = 1 by omega), if_true]
    rw [if_pos h.2]
theorem npl_nb {C N k : Nat} (hk : k < 2 * N) (h : ¬ vld C N k) : nb C N (pA k) (pdr k) = none := by
  unfold vld at h
  unfold nb pA pdr
  by_cases e : k % 2 = 0
  · rw [if_pos e] at h
    simp only [if_pos e, if_neg (show ¬ (1 : Nat) = 0 by omega), if_true]
    rw [if_neg (fun q => h ⟨hk, q⟩)]
  · rw [if_neg e] at h
    simp only [if_neg e, if_neg (show ¬ (2 : Nat) = 0 by omega), if_neg (show ¬ (2 : Nat) = 1 by omega), if_true]
    rw [if_neg (fun q => h ⟨hk, q⟩)]
theorem pA_lt {N k : Nat} (hk : k < 2 * N) : pA k < N := by unfold pA; omega
/-- all open places are places of the grid -/
def vO (C N : Nat) (op : Op) : Prop := ∀ k, op k = true → vld C N k
theorem vO_inG {C R : Nat} {op : Op} (h1 : 2 ≤ C) (h2 : C ≤ 6) (h3 : 2 ≤ R) (h4 : R ≤ 6) (h : vO C (C * R) op) : inG (C * R) C op := by
  intro k hk
  have hv := h k hk
  have ha : pA k < C * R := pA_lt hv.1
  exact ⟨hv.1, ha, (nb_pl h1 h2 h3 h4 ha pdr_lt (pl_nb hv)).2.2.1⟩
theorem vO_set {C N k : Nat} {op : Op} {b : Bool} (h : vO C N op) (hk : vld C N k) : vO C N (setE op k b) := by
  intro j hj
  by_cases e : j = k
  · subst e; exact hk
  · rw [setE_ne e] at hj; exact h j hj
/-- being beside through an open place, by directions -/
theorem adj_dir {C R x y : Nat} {op : Op} (h1 : 2 ≤ C) (h2 : C ≤ 6) (h3 : 2 ≤ R) (h4 : R ≤ 6) (h : vO C (C * R) op) (hx : x < C * R) : adj C op x y ↔ ∃ d, d < 4 ∧ nb C (C * R) x d = some y ∧ op (num C x d) = true := by
  constructor
  · rintro ⟨k, hk, he⟩
    have hv := h k hk
    have ha : pA k < C * R := pA_lt hv.1
    have hn := pl_nb hv
    have hp := nb_pl h1 h2 h3 h4 ha pdr_lt hn
    rcases he with ⟨a, b⟩ | ⟨a, b⟩
    · subst a; subst b
      exact ⟨pdr k, pdr_lt, hn, by rw [pdr_num]; exact hk⟩
    · subst a; subst b
      exact ⟨opp (pdr k), opp_lt, hp.2.2.2.1, by rw [hp.2.2.2.2, pdr_num]; exact hk⟩
  · rintro ⟨d, hd, hn, ho⟩
    exact ⟨num C x d, ho, (nb_pl h1 h2 h3 h4 hx hd hn).2.1⟩
theorem opn_t {C N c d : Nat} {op : Op} : opn C N op c d = true ↔ ∃ o, nb C N c d = some o ∧ op (num C c d) = true := by
  unfold opn
  cases nb C N c d with
  | none => simp
  | some o => simp
theorem opn_set {C R c d o c' d' : Nat} {op : Op} {b : Bool} (h1 : 2 ≤ C) (h2 : C ≤ 6) (h3 : 2 ≤ R) (h4 : R ≤ 6) (hc : c < C * R) (hd : d < 4) (h : nb C (C * R) c d = some o) (hc' : c' < C * R) (hd' : d' < 4) :
    opn C (C * R) (setE op (num C c d) b) c' d' = if (c' = c ∧ d' = d) ∨ (c' = o ∧ d' = opp d) then b else opn C (C * R) op c' d' := by
  have hp := nb_pl h1 h2 h3 h4 hc hd h
  by_cases e : (c' = c ∧ d' = d) ∨ (c' = o ∧ d' = opp d)
  · rw [if_pos e]
    rcases e with ⟨rfl, rfl⟩ | ⟨rfl, rfl⟩
    · unfold opn; rw [h, setE_self]; rfl
    · unfold opn; rw [hp.2.2.2.1, hp.2.2.2.2, setE_self]; rfl
  · rw [if_neg e]
    unfold opn
    cases hn : nb C (C * R) c' d' with
    | none => rfl
    | some o' =>
      have hp' := nb_pl h1 h2 h3 h4 hc' hd' hn
      rw [setE_ne]
      intro hk
      apply e
      have h5 := hp.2.1
      rw [← hk] at h5
      have nbinj : ∀ {x d1 d2 y : Nat}, x < C * R → d1 < 4 → d2 < 4 → nb C (C * R) x d1 = some y → nb C (C * R) x d2 = some y → d1 = d2 := by
        intro x d1 d2 y hx q1 q2 n1 n2
        have g1 : d1 = 0 ∨ d1 = 1 ∨ d1 = 2 ∨ d1 = 3 := by omega
        have g2 : d2 = 0 ∨ d2 = 1 ∨ d2 = 2 ∨ d2 = 3 := by omega
        rcases g1 with rfl | rfl | rfl | rfl <;> rcases g2 with rfl | rfl | rfl | rfl <;> first | rfl | (simp only [nb] at n1 n2; simp at n1 n2; omega)
      rcases h5 with ⟨a, b⟩ | ⟨a, b⟩ <;> rcases hp'.2.1 with ⟨a', b'⟩ | ⟨a', b'⟩
      · left
        have e1 : c' = c := (a'.symm.trans a)
        have e2 : o' = o := (b'.symm.trans b)
        subst e1; subst e2
        exact ⟨rfl, nbinj hc' hd' hd hn h⟩
      · right
        have e1 : o' = c := (a'.symm.trans a)
        have e2 : c' = o := (b'.symm.trans b)
        subst e1; subst e2
        exact ⟨rfl, nbinj hc' hd' opp_lt hn hp.2.2.2.1⟩
      · right
        have e1 : c' = o := (a'.symm.trans a)
        have e2 : o' = c := (b'.symm.trans b)
        subst e1; subst e2
        exact ⟨rfl, nbinj hc' hd' opp_lt hn hp.2.2.2.1⟩
      · left
        have e1 : o' = o := (a'.symm.trans a)
        have e2 : c' = c := (b'.symm.trans b)
        subst e1; subst e2
        exact ⟨rfl, nbinj hc' hd' hd hn h⟩
