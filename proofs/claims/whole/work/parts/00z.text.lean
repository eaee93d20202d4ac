/-! TEXTS as pictures on both sides -/
/-- reason, place, columns, rows, cells in the row, behind k characters -/
def scn (ch : Nat → Nat) : Nat → (Nat × Nat × Nat × Nat × Nat)
  | 0 => (0, 0, 0, 1, 0)
  | k + 1 => if (scn ch k).1 ≠ 0 then scn ch k else
      if 48 ≤ ch k ∧ ch k ≤ 57 then
        (if (scn ch k).2.2.2.1 = 1 ∧ (scn ch k).2.2.2.2 = 6 then (2, k, (scn ch k).2.2)
         else if 1 < (scn ch k).2.2.2.1 ∧ (scn ch k).2.2.2.2 = (scn ch k).2.2.1 then (1, k, (scn ch k).2.2)
         else (0, 0, (if (scn ch k).2.2.2.1 = 1 then (scn ch k).2.2.2.2 + 1 else (scn ch k).2.2.1), (scn ch k).2.2.2.1, (scn ch k).2.2.2.2 + 1))
      else if ch k = 47 ∧ 0 < (scn ch k).2.2.2.2 ∧ (scn ch k).2.2.2.2 = (scn ch k).2.2.1 then
        (if (scn ch k).2.2.2.1 = 6 then (3, k, (scn ch k).2.2) else (0, 0, (scn ch k).2.2.1, (scn ch k).2.2.2.1 + 1, 0))
      else (1, k, (scn ch k).2.2)
/-- reason and place of the whole text -/
def fin (ch : Nat → Nat) (L : Nat) : Nat × Nat := if (scn ch L).1 ≠ 0 then ((scn ch L).1, (scn ch L).2.1) else
  if ¬ (0 < (scn ch L).2.2.2.2 ∧ (scn ch L).2.2.2.2 = (scn ch L).2.2.1) then (1, L) else
  if (scn ch L).2.2.1 = 1 ∨ (scn ch L).2.2.2.1 = 1 then (4, L) else (0, 0)
def dgt (c : Nat) : Prop := 48 ≤ c ∧ c ≤ 57
/-- what holds while there is no fault -/
def okS (ch : Nat → Nat) (k : Nat) (t : Nat × Nat × Nat × Nat × Nat) : Prop :=
  t.2.1 = 0 ∧ t.2.2.1 ≤ 6 ∧ 1 ≤ t.2.2.2.1 ∧ t.2.2.2.1 ≤ 6 ∧ t.2.2.2.2 ≤ t.2.2.1 ∧
  ((t.2.2.2.1 = 1 ∧ t.2.2.1 = k ∧ t.2.2.2.2 = k ∧ ∀ i, i < k → dgt (ch i)) ∨
   (1 < t.2.2.2.1 ∧ 1 ≤ t.2.2.1 ∧ k = (t.2.2.2.1 - 1) * (t.2.2.1 + 1) + t.2.2.2.2 ∧ ∀ i, i < k → (i % (t.2.2.1 + 1) = t.2.2.1 → ch i = 47) ∧ (i % (t.2.2.1 + 1) ≠ t.2.2.1 → dgt (ch i))))
theorem scn_ok {ch : Nat → Nat} : ∀ k, (scn ch k).1 = 0 → okS ch k (scn ch k) := by
  intro k
  induction k with
  | zero =>
    intro _
    have e0 : scn ch 0 = (0, 0, 0, 1, 0) := rfl
    rw [e0]
    exact ⟨rfl, by show 0 ≤ 6; omega, by show 1 ≤ 1; omega, by show 1 ≤ 6; omega, by show 0 ≤ 0; omega, Or.inl ⟨rfl, rfl, rfl, fun i hi => by omega⟩⟩
  | succ k ih =>
    intro h
    have hS : scn ch (k + 1) = if (scn ch k).1 ≠ 0 then scn ch k else
      if 48 ≤ ch k ∧ ch k ≤ 57 then
        (if (scn ch k).2.2.2.1 = 1 ∧ (scn ch k).2.2.2.2 = 6 then (2, k, (scn ch k).2.2)
         else if 1 < (scn ch k).2.2.2.1 ∧ (scn ch k).2.2.2.2 = (scn ch k).2.2.1 then (1, k, (scn ch k).2.2)
         else (0, 0, (if (scn ch k).2.2.2.1 = 1 then (scn ch k).2.2.2.2 + 1 else (scn ch k).2.2.1), (scn ch k).2.2.2.1, (scn ch k).2.2.2.2 + 1))
      else if ch k = 47 ∧ 0 < (scn ch k).2.2.2.2 ∧ (scn ch k).2.2.2.2 = (scn ch k).2.2.1 then
        (if (scn ch k).2.2.2.1 = 6 then (3, k, (scn ch k).2.2) else (0, 0, (scn ch k).2.2.1, (scn ch k).2.2.2.1 + 1, 0))
      else (1, k, (scn ch k).2.2) := rfl
    rw [hS] at h ⊢
    by_cases h0 : (scn ch k).1 ≠ 0
    · rw [if_pos h0] at h
      exact absurd h h0
    · rw [if_neg h0] at h ⊢
      obtain ⟨a1, a2, a3, a4, a5, a6⟩ := ih (by omega)
      generalize scn ch k = t at *
      obtain ⟨r, p, w, n, j⟩ := t
      simp only at a1 a2 a3 a4 a5 a6 h0 h ⊢
      by_cases hd : 48 ≤ ch k ∧ ch k ≤ 57
      · rw [if_pos hd] at h ⊢
        by_cases q1 : n = 1 ∧ j = 6
        · rw [if_pos q1] at h; exact absurd h (show ¬ ((2 : Nat) = 0) by decide)
        · rw [if_neg q1] at h ⊢
          by_cases q2 : 1 < n ∧ j = w
          · rw [if_pos q2] at h; exact absurd h (show ¬ ((1 : Nat) = 0) by decide)
          · rw [if_neg q2]
            rcases a6 with ⟨b1, b2, b3, b4⟩ | ⟨b1, b2, b3, b4⟩
            · refine ⟨rfl, ?_, ?_, ?_, ?_, Or.inl ⟨b1, ?_, ?_, fun i hi => ?_⟩⟩
              · show (if n = 1 then j + 1 else w) ≤ 6; rw [if_pos b1]; omega
              · show 1 ≤ n; omega
              · show n ≤ 6; omega
              · show j + 1 ≤ (if n = 1 then j + 1 else w); rw [if_pos b1]; omega
              · show (if n = 1 then j + 1 else w) = k + 1; rw [if_pos b1]; omega
              · show j + 1 = k + 1; omega
              · by_cases e : i = k
                · subst e; exact hd
                · exact b4 i (by omega)
            · have hw : w = 1 ∨ w = 2 ∨ w = 3 ∨ w = 4 ∨ w = 5 ∨ w = 6 := by omega
              refine ⟨rfl, ?_, ?_, ?_, ?_, Or.inr ⟨?_, ?_, ?_, fun i hi => ?_⟩⟩
              · show (if n = 1 then j + 1 else w) ≤ 6; rw [if_neg (by omega)]; omega
              · show 1 ≤ n; omega
              · show n ≤ 6; omega
              · show j + 1 ≤ (if n = 1 then j + 1 else w); rw [if_neg (by omega)]; omega
              · show 1 < n; omega
              · show 1 ≤ (if n = 1 then j + 1 else w); rw [if_neg (by omega)]; omega
              · show k + 1 = (n - 1) * ((if n = 1 then j + 1 else w) + 1) + (j + 1); rw [if_neg (by omega)]; omega
              · show (i % ((if n = 1 then j + 1 else w) + 1) = (if n = 1 then j + 1 else w) → ch i = 47) ∧ (i % ((if n = 1 then j + 1 else w) + 1) ≠ (if n = 1 then j + 1 else w) → dgt (ch i))
                rw [if_neg (show ¬ n = 1 by omega)]
                by_cases e : i = k
                · subst e
                  refine ⟨fun z => ?_, fun _ => hd⟩
                  exfalso
                  rcases hw with rfl | rfl | rfl | rfl | rfl | rfl <;> omega
                · exact b4 i (by omega)
      · rw [if_neg hd] at h ⊢
        by_cases q1 : ch k = 47 ∧ 0 < j ∧ j = w
        · rw [if_pos q1] at h ⊢
          by_cases q2 : n = 6
          · rw [if_pos q2] at h; exact absurd h (show ¬ ((3 : Nat) = 0) by decide)
          · rw [if_neg q2]
            rcases a6 with ⟨b1, b2, b3, b4⟩ | ⟨b1, b2, b3, b4⟩
            · refine ⟨rfl, ?_, ?_, ?_, ?_, Or.inr ⟨?_, ?_, ?_, fun i hi => ?_⟩⟩
              · show w ≤ 6; omega
              · show 1 ≤ n + 1; omega
              · show n + 1 ≤ 6; omega
              · show 0 ≤ w; omega
              · show 1 < n + 1; omega
              · show 1 ≤ w; omega
              · show k + 1 = (n + 1 - 1) * (w + 1) + 0; rw [b1]; omega
              · show (i % (w + 1) = w → ch i = 47) ∧ (i % (w + 1) ≠ w → dgt (ch i))
                by_cases e : i = k
                · subst e
                  refine ⟨fun _ => q1.1, fun z => ?_⟩
                  exfalso
                  rw [Nat.mod_eq_of_lt (by omega)] at z
                  omega
                · rw [Nat.mod_eq_of_lt (by omega)]
                  exact ⟨fun z => by omega, fun _ => b4 i (by omega)⟩
            · have hw : w = 1 ∨ w = 2 ∨ w = 3 ∨ w = 4 ∨ w = 5 ∨ w = 6 := by omega
              refine ⟨rfl, ?_, ?_, ?_, ?_, Or.inr ⟨?_, ?_, ?_, fun i hi => ?_⟩⟩
              · show w ≤ 6; omega
              · show 1 ≤ n + 1; omega
              · show n + 1 ≤ 6; omega
              · show 0 ≤ w; omega
              · show 1 < n + 1; omega
              · show 1 ≤ w; omega
              · show k + 1 = (n + 1 - 1) * (w + 1) + 0
                rcases hw with rfl | rfl | rfl | rfl | rfl | rfl <;> omega
              · show (i % (w + 1) = w → ch i = 47) ∧ (i % (w + 1) ≠ w → dgt (ch i))
                by_cases e : i = k
                · subst e
                  refine ⟨fun _ => q1.1, fun z => ?_⟩
                  exfalso
                  apply z
                  rcases hw with rfl | rfl | rfl | rfl | rfl | rfl <;> omega
                · exact b4 i (by omega)
        · rw [if_neg q1] at h; exact absurd h (show ¬ ((1 : Nat) = 0) by decide)
theorem scn_st {ch : Nat → Nat} {k : Nat} (h : (scn ch k).1 ≠ 0) : ∀ m, scn ch (k + m) = scn ch k := by
  intro m
  induction m with
  | zero => rfl
  | succ m ih =>
    show scn ch ((k + m) + 1) = _
    have : scn ch ((k + m) + 1) = scn ch (k + m) := by
      rw [scn, if_pos (by rw [ih]; exact h)]
    rw [this, ih]
/-- bounds of all parts of the state -/
theorem scn_b {ch : Nat → Nat} : ∀ k, (scn ch k).1 ≤ 3 ∧ (scn ch k).2.1 ≤ k ∧ (scn ch k).2.2.1 ≤ 6 ∧ (scn ch k).2.2.2.1 ≤ 6 ∧ (scn ch k).2.2.2.2 ≤ 6 := by
  intro k
  induction k with
  | zero =>
    have e0 : scn ch 0 = (0, 0, 0, 1, 0) := rfl
    rw [e0]
    exact ⟨by show 0 ≤ 3; omega, by show 0 ≤ 0; omega, by show 0 ≤ 6; omega, by show 1 ≤ 6; omega, by show 0 ≤ 6; omega⟩
  | succ k ih =>
    by_cases h : (scn ch (k + 1)).1 = 0
    · obtain ⟨a1, a2, a3, a4, a5, -⟩ := scn_ok _ h
      exact ⟨by omega, by omega, a2, a4, by omega⟩
    · rw [scn] at h ⊢
      obtain ⟨b1, b2, b3, b4, b5⟩ := ih
      by_cases h0 : (scn ch k).1 ≠ 0
      · rw [if_pos h0]; exact ⟨b1, by omega, b3, b4, b5⟩
      · rw [if_neg h0] at h ⊢
        split
        · split
          · exact ⟨by show 2 ≤ 3; omega, by show k ≤ k + 1; omega, b3, b4, b5⟩
          · split
            · exact ⟨by show 1 ≤ 3; omega, by show k ≤ k + 1; omega, b3, b4, b5⟩
            · rename_i q0 q1 q2
              rw [if_pos q0, if_neg q1, if_neg q2] at h
              exact absurd rfl h
        · split
          · split
            · exact ⟨by show 3 ≤ 3; omega, by show k ≤ k + 1; omega, b3, b4, b5⟩
            · rename_i q0 q1 q2
              rw [if_neg q0, if_pos q1, if_neg q2] at h
              exact absurd rfl h
          · exact ⟨by show 1 ≤ 3; omega, by show k ≤ k + 1; omega, b3, b4, b5⟩
section TX
variable {pt : PT} {text : nF} {ch : Nat → Nat} {L F k : Nat} {a : Int}
def TX (pt : PT) (text : nF) (L : Nat) (ch : Nat → Nat) : Prop := pt.1 = jI (L : Nat) ∧ L ≤ 60 ∧ ∀ i, i < L → pt.2.2.2.1 i = jI (ch i : Nat) ∧ text i = jI (ch i : Nat) ∧ 32 ≤ ch i ∧ ch i ≤ 126
def LK3 (ch : Nat → Nat) (L : Nat) (z : Int32 × Int32 × Int32 × Int32 × Int32) : Prop := z.1 = jI ((fin ch L).2 : Nat) ∧ z.2.1 = jI ((fin ch L).1 : Nat) ∧ z.2.2.1 = jI ((scn ch L).2.2.1 : Nat) ∧ z.2.2.2.1 = jI ((scn ch L).2.2.2.1 : Nat)
/-- one character, class -/
theorem look_st (h : TX pt text L ch) {t : Nat × Nat × Nat × Nat × Nat} (hk : k < L) (ht : t = scn ch k) (h0 : t.1 = 0) (j2 : (Int32 × Int32 × Int32 × Int32 × Int32) → Option (Int32 × Int32 × Int32 × Int32 × Int32)) (self : (Int32 × Int32 × Int32 × Int32 × Int32 × Int32) → Option (Int32 × Int32 × Int32 × Int32 × Int32)) :
    mX4_look_L27 pt j2 self (jI (k : Nat), jI (t.2.1 : Nat), jI (t.1 : Nat), jI (t.2.2.1 : Nat), jI (t.2.2.2.1 : Nat), jI (t.2.2.2.2 : Nat)) = self (jI ((k + 1 : Nat) : Int), jI ((scn ch (k + 1)).2.1 : Nat), jI ((scn ch (k + 1)).1 : Nat), jI ((scn ch (k + 1)).2.2.1 : Nat), jI ((scn ch (k + 1)).2.2.2.1 : Nat), jI ((scn ch (k + 1)).2.2.2.2 : Nat)) := by
  obtain ⟨h1, h2, h3⟩ := h
  obtain ⟨c1, c2, c3, c4⟩ := h3 k hk
  have hok := scn_ok (ch := ch) k (by rw [← ht]; exact h0)
  rw [scn, ← ht]
  rw [← ht] at hok
  obtain ⟨r, p, w, n, j⟩ := t
  obtain ⟨a1, a2, a3, a4, a5, a6⟩ := hok
  simp only at a1 a2 a3 a4 a5 a6 h0 ⊢
  subst h0; subst a1
  rw [if_neg (by simp)]
  simp only [mX4_look_L27, h1]
  rw [nle_f hk (by omega), if_pos (by decide), at_i (by omega) (by omega), bnd_s, c1]
  simp only [jn_e]
  rw [jl_48, jl_57, show (47 : Int32) = jI ((47 : Nat) : Int) from jl_47]
  by_cases hd : 48 ≤ ch k ∧ ch k ≤ 57
  · rw [nlt_f hd.1 (by omega), nlt_f hd.2 (by omega), if_pos hd]
    simp only [mX4_lookAtDigit, mX4_blame, jn_e, bnd_s, jS, jl_6]
    by_cases q1 : n = 1
    · rw [show (1 : Int32) = jI ((1 : Nat) : Int) from jl_1, neq_t q1]
      by_cases q2 : j = 6
      · rw [neq_t q2, if_pos (show n = 1 ∧ j = 6 from ⟨q1, q2⟩)]
        simp only [bnd_s]; rfl
      · rw [neq_f q2 (by omega) (by omega), if_neg (show ¬ (n = 1 ∧ j = 6) from fun z => q2 z.2), nle_t (by omega) (by omega), if_neg (show ¬ (1 < n ∧ j = w) by omega)]
        simp only [bnd_s]
        rw [if_pos q1]
        have hwj : w = j := by rcases a6 with ⟨b1, b2, b3, b4⟩ | ⟨b1, b2, b3, b4⟩ <;> omega
        rw [nlt_t (show w < j + 1 by omega) (by omega)]
    · rw [show (1 : Int32) = jI ((1 : Nat) : Int) from jl_1, neq_f q1 (by omega) (by omega), nle_f (by omega) (by omega)]
      by_cases q2 : j = w
      · rw [neq_t q2, if_neg (show ¬ (n = 1 ∧ j = 6) from fun z => q1 z.1), if_pos (show 1 < n ∧ j = w from ⟨by omega, q2⟩)]
        simp only [bnd_s]
      · rw [neq_f q2 (by omega) (by omega), if_neg (show ¬ (n = 1 ∧ j = 6) from fun z => q1 z.1), if_neg (show ¬ (1 < n ∧ j = w) from fun z => q2 z.2)]
        simp only [bnd_s]
        rw [if_neg q1, nlt_f (show j + 1 ≤ w by omega) (by omega)]
  · have hnd : ∀ (A B : Option (Int32 × Int32 × Int32 × Int32 × Int32)), (if jI (ch k : Nat) < jI ((48 : Nat) : Int) then A else if jI ((57 : Nat) : Int) < jI (ch k : Nat) then A else B) = A := by
      intro A B
      by_cases z : ch k < 48
      · rw [nlt_t z (by omega)]
      · rw [nlt_f (by omega) (by omega), nlt_t (by omega) (by omega)]
    rw [hnd, if_neg hd]
    by_cases q0 : ch k = 47
    · rw [neq_t q0]
      simp only [mX4_lookAtSlash, mX4_isRowFull, mX4_blame, jn_e, bnd_s, jS, jl_6]
      by_cases q1 : 0 < j
      · rw [if_neg (show ¬ (jI (j : Nat) ≤ 0) by rw [nle0 (by omega)]; omega)]
        by_cases q2 : j = w
        · rw [neq_t q2, gz1, bnd_s, if_neg (show ¬ ((1 : Int32) = 0) by decide), if_pos (show ch k = 47 ∧ 0 < j ∧ j = w from ⟨q0, q1, q2⟩)]
          by_cases q3 : n = 6
          · rw [neq_t q3, if_pos q3]
            simp only [bnd_s]; rfl
          · rw [neq_f q3 (by omega) (by omega), if_neg q3]
            simp only [bnd_s]; rfl
        · rw [neq_f q2 (by omega) (by omega), gz0, bnd_s, if_pos (show (0 : Int32) = 0 from rfl), if_neg (show ¬ (ch k = 47 ∧ 0 < j ∧ j = w) from fun z => q2 z.2.2)]
          simp only [bnd_s]; rfl
      · rw [if_pos (show jI (j : Nat) ≤ 0 by rw [nle0 (by omega)]; omega), gz0, bnd_s, if_pos (show (0 : Int32) = 0 from rfl), if_neg (show ¬ (ch k = 47 ∧ 0 < j ∧ j = w) from fun z => q1 z.2.1)]
        simp only [bnd_s]; rfl
    · rw [neq_f q0 (by omega) (by omega), if_neg (show ¬ (ch k = 47 ∧ 0 < j ∧ j = w) from fun z => q0 z.1)]
      simp only [mX4_blame, bnd_s, jS]
      rfl
theorem look3 (hF : 60 < F) (h : TX pt text L ch) : ∃ z, mX4_look F pt = some z ∧ LK3 ch L z := by
  have hL := h.2.1
  have hsb := scn_b (ch := ch) L
  unfold mX4_look
  simp only [jn_e]
  -- the end of the loop
  have hend : ∀ t : Nat × Nat × Nat × Nat × Nat, t = scn ch L → ∃ z, mX4_look_K97 pt (jI (t.2.1 : Nat), jI (t.1 : Nat), jI (t.2.2.1 : Nat), jI (t.2.2.2.1 : Nat), jI (t.2.2.2.2 : Nat)) = some z ∧ LK3 ch L z := by
    intro t ht
    rw [← ht] at hsb
    unfold LK3 fin
    rw [← ht]
    by_cases h0 : t.1 ≠ 0
    · rw [if_pos h0]
      simp only [mX4_look_K97, jn_e]
      rw [if_neg (by rw [ne0 (by omega)]; exact h0)]
      exact ⟨_, rfl, rfl, rfl, rfl, rfl⟩
    · rw [if_neg h0]
      have h00 : t.1 = 0 := by omega
      have hok := scn_ok (ch := ch) L (by rw [← ht]; exact h00)
      rw [← ht] at hok
      obtain ⟨a1, a2, a3, a4, a5, a6⟩ := hok
      simp only [mX4_look_K97, jn_e, mX4_lookAtEnd, mX4_isRowFull, mX4_blame, h.1, bnd_s]
      rw [h00, if_pos (show jI ((0 : Nat) : Int) = 0 by decide)]
      by_cases q1 : 0 < t.2.2.2.2
      · rw [if_neg (show ¬ (jI (t.2.2.2.2 : Nat) ≤ 0) by rw [nle0 (by omega)]; omega)]
        by_cases q2 : t.2.2.2.2 = t.2.2.1
        · rw [neq_t q2, gz1, bnd_s, if_neg (show ¬ ((1 : Int32) = 0) by decide), if_neg (show ¬ ¬ (0 < t.2.2.2.2 ∧ t.2.2.2.2 = t.2.2.1) by simp only [Decidable.not_not]; exact ⟨q1, q2⟩)]
          rw [show (1 : Int32) = jI ((1 : Nat) : Int) from jl_1]
          by_cases q3 : t.2.2.1 = 1
          · rw [neq_t q3, if_pos (Or.inl q3)]
            exact ⟨_, rfl, rfl, rfl, rfl, rfl⟩
          · rw [neq_f q3 (by omega) (by omega)]
            by_cases q4 : t.2.2.2.1 = 1
            · rw [neq_t q4, if_pos (Or.inr q4)]
              exact ⟨_, rfl, rfl, rfl, rfl, rfl⟩
            · rw [neq_f q4 (by omega) (by omega), if_neg (fun z => by omega)]
              refine ⟨_, rfl, ?_, rfl, rfl, rfl⟩
              show jI (t.2.1 : Nat) = jI ((0 : Nat) : Int)
              rw [a1]
        · rw [neq_f q2 (by omega) (by omega), gz0, bnd_s, if_pos (show (0 : Int32) = 0 from rfl), if_pos (fun z => q2 z.2)]
          exact ⟨_, rfl, rfl, rfl, rfl, rfl⟩
      · rw [if_pos (show jI (t.2.2.2.2 : Nat) ≤ 0 by rw [nle0 (by omega)]; omega), gz0, bnd_s, if_pos (show (0 : Int32) = 0 from rfl), if_pos (fun z => q1 z.1)]
        exact ⟨_, rfl, rfl, rfl, rfl, rfl⟩
  have key := lpr_r (Q := fun z => LK3 ch L z) (L := mX4_look_L27 pt (mX4_look_K97 pt)) (F := F)
    (fun i y => i ≤ L ∧ y = (jI (i : Nat), jI ((scn ch i).2.1 : Nat), jI ((scn ch i).1 : Nat), jI ((scn ch i).2.2.1 : Nat), jI ((scn ch i).2.2.2.1 : Nat), jI ((scn ch i).2.2.2.2 : Nat))) 60 (x := ((0 : Int32), (0 : Int32), (0 : Int32), (0 : Int32), (1 : Int32), (0 : Int32))) (by
    intro i y hi ⟨hiL, hy⟩
    subst hy
    by_cases e : i = L
    · left
      subst e
      obtain ⟨z, z1, z2⟩ := hend _ rfl
      refine ⟨z, z2, fun self => ?_⟩
      simp only [mX4_look_L27, h.1]
      rw [nle_t (Nat.le_refl _) (by omega)]
      exact z1
    · have hlt : i < L := by omega
      by_cases h0 : (scn ch i).1 = 0
      · right
        exact ⟨by omega, _, ⟨by omega, rfl⟩, fun self => look_st h hlt rfl h0 _ self⟩
      · left
        have hst := scn_st h0 (L - i)
        rw [show i + (L - i) = L by omega] at hst
        obtain ⟨z, z1, z2⟩ := hend _ hst.symm
        have hb := scn_b (ch := ch) i
        refine ⟨z, z2, fun self => ?_⟩
        simp only [mX4_look_L27, h.1]
        rw [nle_f hlt (by omega), if_neg (by rw [ne0 (by omega)]; exact h0)]
        exact z1) ⟨by omega, rfl⟩ hF
  obtain ⟨z, z1, z2⟩ := key
  exact ⟨z, z2, z1⟩
end TX
