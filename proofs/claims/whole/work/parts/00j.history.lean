/-! HISTORY: the states of both sides -/
def pushN (n : Nat) : Nat := if n = 4 then 4 else n + 1
def pushH (n : Nat) (H : Nat → Mz) (M : Mz) : Nat → Mz := if n = 4 then (fun i => if i < 3 then H (i + 1) else M) else (fun i => if i = n then M else H i)
def RP (p : nF) (n : Nat) (H : Nat → Mz) : Prop := ∀ i, i < n → R8 (fun j => p (114 * i + j)) (H i)
def RH (h : HS) (n : Nat) (H : Nat → Mz) : Prop := h.1 = jI (n : Nat) ∧ n ≤ 4 ∧ ∀ i, i < n → R3 (h.2.2 ((i + h.2.1) % 4)) (H i)
theorem pushN_le {n : Nat} (h : n ≤ 4) : pushN n ≤ 4 := by unfold pushN; split <;> omega
theorem pushH_all {P : Mz → Prop} {n : Nat} {H : Nat → Mz} {M : Mz} (hn : n ≤ 4) (h : ∀ i, i < n → P (H i)) (hM : P M) : ∀ i, i < pushN n → P (pushH n H M i) := by
  intro i hi
  unfold pushN at hi
  unfold pushH
  by_cases e : n = 4
  · rw [if_pos e] at hi ⊢
    by_cases q : i < 3
    · show P (if i < 3 then H (i + 1) else M)
      rw [if_pos q]; exact h _ (by omega)
    · show P (if i < 3 then H (i + 1) else M)
      rw [if_neg q]; exact hM
  · rw [if_neg e] at hi ⊢
    show P (if i = n then M else H i)
    by_cases q : i = n
    · rw [if_pos q]; exact hM
    · rw [if_neg q]; exact h _ (by omega)
section HI
variable {v w : MZ} {s b p : nF} {M : Mz} {F n : Nat} {H : Nat → Mz} {a : Int}
theorem j114a (k : Nat) : jI (k : Nat) + (114 : Int32) = jI ((k + 114 : Nat) : Int) := by rw [j_114, jI_add]; rfl
/-- b laid down as state n -/
def lay (n i : Nat) (b p : nF) : nF := fun j => if 114 * n ≤ j ∧ j < 114 * n + i then b (j - 114 * n) else p j
theorem lay_0 : lay n 0 b p = p := by funext j; unfold lay; rw [if_neg (by omega)]
theorem lay_S {i : Nat} : upd (lay n i b p) (114 * n + i) (b i) = lay n (i + 1) b p := by
  funext j
  unfold upd lay
  by_cases h : j = 114 * n + i
  · subst h; rw [if_pos rfl, if_pos (by omega)]; congr 1; omega
  · rw [if_neg h]
    by_cases h2 : 114 * n ≤ j ∧ j < 114 * n + i
    · rw [if_pos h2, if_pos (by omega)]
    · rw [if_neg h2, if_neg (by omega)]
theorem acted_lay {x : Int32} (hF : 114 < F) (hn : n < 4) : lpr (mX8_acted_L82 s b x (p, jI (n : Nat))) F ((0 : Int32), p) = some (x, s, lay n 114 b p, jI ((n + 1 : Nat) : Int)) := by
  have := lpr_fn (L := mX8_acted_L82 s b x (p, jI (n : Nat))) (e := some (x, s, lay n 114 b p, jI ((n + 1 : Nat) : Int))) (F := F) (fun i => (jI (i : Nat), lay n i b p)) 114 (by
    intro i hi self
    simp only [mX8_acted_L82, j114m, jnA]
    rw [jl_114, nle_f hi (by omega), gdi hi (by omega), gdi (by omega) (by omega), jcl _ (by omega), jcl _ (by omega), jS, lay_S]) (by
    intro self
    simp only [mX8_acted_L82, jl_114]
    rw [nle_t (Nat.le_refl _) (by omega), jS]) hF
  simp only [lay_0] at this
  rw [← this, jl_0]
/-- the oldest state dropped -/
def shf (i : Nat) (p : nF) : nF := fun j => if j < i then p (j + 114) else p j
theorem shf_S {i : Nat} : upd (shf i p) i (shf i p (i + 114)) = shf (i + 1) p := by
  funext j
  unfold upd shf
  by_cases h : j = i
  · subst h; rw [if_pos rfl, if_neg (by omega), if_pos (by omega)]
  · rw [if_neg h]
    by_cases h2 : j < i
    · rw [if_pos h2, if_pos (by omega)]
    · rw [if_neg h2, if_neg (by omega)]
theorem acted_shf {j6 : nF → Option (Int32 × nF × nF × Int32)} (hF : 342 < F) : lpr (mX8_acted_L42 j6) F ((0 : Int32), p) = j6 (shf 342 p) := by
  have := lpr_fn (L := mX8_acted_L42 j6) (e := j6 (shf 342 p)) (F := F) (fun i => (jI (i : Nat), shf i p)) 342 (by
    intro i hi self
    simp only [mX8_acted_L42, j114a]
    rw [jl_342, nle_f hi (by omega), gdi (by omega) (by omega), gdi (by omega) (by omega), jcl _ (by omega), jcl _ (by omega), jS, shf_S]) (by
    intro self
    simp only [mX8_acted_L42, jl_342]
    rw [nle_t (Nat.le_refl _) (by omega)]) hF
  have e : shf 0 p = p := by funext j; unfold shf; rw [if_neg (by omega)]
  simp only [e] at this
  rw [← this, jl_0]
theorem acted8 (hF : 342 < F) (hn : n ≤ 4) (hR : RP p n H) (hdH : ∀ i, i < n → dm (H i)) (hb : R8 b M) (hd : dm M) (ha : 0 ≤ a ∧ a < 2147483648) :
    ∃ p', mX8_acted F s b p (jI (n : Nat)) (jI a) = some (jI a, s, p', jI (pushN n : Nat)) ∧ RP p' (pushN n) (pushH n H M) := by
  unfold mX8_acted
  rw [j_0, jle_t (by omega) (by omega) (by omega)]
  simp only [jn_e]
  rw [jl_4, ← j_0]
  by_cases e : n = 4
  · subst e
    rw [neq_t rfl, acted_shf hF]
    simp only [mX8_acted_K70]
    rw [← jl_4, show (4 : Int32) - 1 = jI (3 : Nat) from by decide, acted_lay (by omega) (by omega)]
    refine ⟨_, rfl, fun i hi => ?_⟩
    unfold pushN at hi
    rw [if_pos rfl] at hi
    unfold pushH
    rw [if_pos rfl]
    show R8 _ (if i < 3 then H (i + 1) else M)
    by_cases q : i < 3
    · rw [if_pos q]
      refine R8_cong (hR (i + 1) (by omega)) (hdH _ (by omega)) (fun j hj => ?_)
      show lay 3 114 b (shf 342 p) (114 * i + j) = p (114 * (i + 1) + j)
      unfold lay shf
      rw [if_neg (by omega), if_pos (by omega)]
      exact congrArg p (by omega)
    · rw [if_neg q]
      refine R8_cong hb hd (fun j hj => ?_)
      show lay 3 114 b (shf 342 p) (114 * i + j) = b j
      unfold lay
      rw [if_pos (by omega)]
      exact congrArg b (by omega)
  · rw [neq_f e (by omega) (by omega)]
    show ∃ p', lpr (mX8_acted_L82 s b (jI a) (p, jI (n : Nat))) F ((0 : Int32), p) = _ ∧ _
    rw [acted_lay (by omega) (by omega)]
    unfold pushN pushH
    rw [if_neg e, if_neg e]
    refine ⟨_, rfl, fun i hi => ?_⟩
    show R8 _ (if i = n then M else H i)
    by_cases q : i = n
    · subst q
      rw [if_pos rfl]
      refine R8_cong hb hd (fun j hj => ?_)
      show lay i 114 b p (114 * i + j) = b j
      unfold lay
      rw [if_pos (by omega)]
      exact congrArg b (by omega)
    · rw [if_neg q]
      refine R8_cong (hR i (by omega)) (hdH _ (by omega)) (fun j hj => ?_)
      show lay n 114 b p (114 * i + j) = p (114 * i + j)
      unfold lay
      rw [if_neg (by omega)]
theorem undo8_0 : mX8_undo F s p (jI (0 : Nat)) = some ((-2 : Int32), s, jI (0 : Nat)) := by
  unfold mX8_undo
  rw [if_pos (by decide)]
theorem undo8_S {k : Nat} (hF : 114 < F) (hk : k < 4) (hR : RP p (k + 1) H) (hdH : dm (H k)) : ∃ s', mX8_undo F s p (jI ((k + 1 : Nat) : Int)) = some (jI (k : Nat), s', jI (k : Nat)) ∧ R8 s' (H k) := by
  unfold mX8_undo
  rw [if_neg (by rw [ne0 (by omega)]; omega)]
  have e1 : jI ((k + 1 : Nat) : Int) - (1 : Int32) = jI (k : Nat) := by rw [j_1, jI_sub]; congr 1; omega
  have := lpr_fn (L := mX8_undo_L22 p (jI ((k + 1 : Nat) : Int))) (e := some (jI (k : Nat), mix 114 (fun j => p (114 * k + j)) s, jI (k : Nat))) (F := F) (fun i => (jI (i : Nat), mix i (fun j => p (114 * k + j)) s)) 114 (by
    intro i hi self
    simp only [mX8_undo_L22, e1, j114m, jnA]
    rw [jl_114, nle_f hi (by omega), gdi (by omega) (by omega), gdi hi (by omega), jcl _ (by omega), jcl _ (by omega), jS, ← mix_S (f := fun j => p (114 * k + j))]) (by
    intro self
    simp only [mX8_undo_L22, e1, jl_114]
    rw [nle_t (Nat.le_refl _) (by omega)]) hF
  simp only [mix_0] at this
  refine ⟨mix 114 (fun j => p (114 * k + j)) s, ?_, R8_mix (b := s) (hR k (by omega)) hdH⟩
  rw [← this, jl_0]
theorem keep8 {m : Int32} (hF : 114 < F) (h : R8 s M) (hd : dm M) : mX8_keep F s b m = some (jI (cnt (mO M) (2 * mN M) : Nat), mix 114 s b, (1 : Int32)) := by
  unfold mX8_keep
  simp only [jn_e]
  have := lpr_fn (L := mX8_keep_L2 s (mX8_keep_K26 F s)) (e := some (jI (cnt (mO M) (2 * mN M) : Nat), mix 114 s b, (1 : Int32))) (F := F) (fun i => (jI (i : Nat), mix i s b)) 114 (by
    intro i hi self
    simp only [mX8_keep_L2, jl_114]
    rw [nle_f hi (by omega), gdi hi (by omega), gdi hi (by omega), jcl _ (by omega), jS, mix_S]) (by
    intro self
    simp only [mX8_keep_L2, jl_114, mX8_keep_K26]
    rw [nle_t (Nat.le_refl _) (by omega), gz1, passages8 (by omega) h hd, bnd_s]) hF
  simp only [mix_0] at this
  rw [← this, jl_0]
theorem push3 {h : HS} (hF : 36 < F) (hR : RH h n H) (hv : R3 v M) (hd : dm M) : ∃ h', mX2_push F h v = some h' ∧ RH h' (pushN n) (pushH n H M) := by
  obtain ⟨h1, h2, h3⟩ := hR
  have hk : n = 0 ∨ n = 1 ∨ n = 2 ∨ n = 3 ∨ n = 4 := by omega
  have lit : ∀ a b : Nat, a < 5 → b < 5 → (jI (a : Nat) = jI (b : Nat)) = (a = b) := fun a b ha hb => neq (by omega) (by omega)
  unfold mX2_push
  rw [h1]
  have step : ∀ k : Nat, k < 4 → n = k → ∀ r, R3 r M → RH (jI ((k + 1 : Nat) : Int), h.2.1, fun j => if j = (k + h.2.1) % 4 then r else h.2.2 j) (pushN n) (pushH n H M) := by
    intro k hk4 hnk r hr
    subst hnk
    unfold pushN pushH
    rw [if_neg (by omega), if_neg (by omega)]
    refine ⟨rfl, by omega, fun i hi => ?_⟩
    show R3 (if (i + h.2.1) % 4 = (n + h.2.1) % 4 then r else h.2.2 ((i + h.2.1) % 4)) (if i = n then M else H i)
    by_cases q : i = n
    · subst q; rw [if_pos rfl, if_pos rfl]; exact hr
    · rw [if_neg (by omega), if_neg q]; exact h3 i (by omega)
  rcases hk with rfl | rfl | rfl | rfl | rfl
  · obtain ⟨r, r1, r2⟩ := copyFrom3_R (v := h.2.2 ((0 + h.2.1) % 4)) hF hv hd
    rw [if_pos (by decide), r1, bnd_s]
    exact ⟨_, rfl, step 0 (by omega) rfl r r2⟩
  · obtain ⟨r, r1, r2⟩ := copyFrom3_R (v := h.2.2 ((1 + h.2.1) % 4)) hF hv hd
    rw [if_neg (by decide), if_pos (by decide), r1, bnd_s]
    exact ⟨_, rfl, step 1 (by omega) rfl r r2⟩
  · obtain ⟨r, r1, r2⟩ := copyFrom3_R (v := h.2.2 ((2 + h.2.1) % 4)) hF hv hd
    rw [if_neg (by decide), if_neg (by decide), if_pos (by decide), r1, bnd_s]
    exact ⟨_, rfl, step 2 (by omega) rfl r r2⟩
  · obtain ⟨r, r1, r2⟩ := copyFrom3_R (v := h.2.2 ((3 + h.2.1) % 4)) hF hv hd
    rw [if_neg (by decide), if_neg (by decide), if_neg (by decide), if_pos (by decide), r1, bnd_s]
    exact ⟨_, rfl, step 3 (by omega) rfl r r2⟩
  · obtain ⟨r, r1, r2⟩ := copyFrom3_R (v := h.2.2 ((3 + (h.2.1 + 1)) % 4)) hF hv hd
    rw [if_neg (by decide), if_neg (by decide), if_neg (by decide), if_neg (by decide), if_pos (by decide), r1, bnd_s]
    refine ⟨_, rfl, rfl, by decide, fun i hi => ?_⟩
    unfold pushN at hi
    rw [if_pos rfl] at hi
    unfold pushH
    rw [if_pos rfl]
    show R3 (if (i + (h.2.1 + 1)) % 4 = (3 + (h.2.1 + 1)) % 4 then r else h.2.2 ((i + (h.2.1 + 1)) % 4)) (if i < 3 then H (i + 1) else M)
    by_cases q : i < 3
    · rw [if_neg (by omega), if_pos q, show i + (h.2.1 + 1) = (i + 1) + h.2.1 by omega]; exact h3 (i + 1) (by omega)
    · rw [if_pos (by omega), if_neg q]; exact r2
theorem pop3_0 {h : HS} (hR : RH h 0 H) : mX2_pop F h v = some (0, 0, v) := by
  unfold mX2_pop
  rw [hR.1, if_pos (by decide)]
theorem pop3_S {h : HS} {k : Nat} (hF : 36 < F) (hR : RH h (k + 1) H) (hdH : dm (H k)) : ∃ r, mX2_pop F h v = some (1, jI (k : Nat), r) ∧ R3 r (H k) := by
  obtain ⟨h1, h2, h3⟩ := hR
  have hk : k = 0 ∨ k = 1 ∨ k = 2 ∨ k = 3 := by omega
  obtain ⟨r, r1, r2⟩ := copyFrom3_R (v := v) hF (h3 k (by omega)) hdH
  unfold mX2_pop
  rw [h1]
  rcases hk with rfl | rfl | rfl | rfl
  · rw [if_neg (by decide), if_pos (by decide), r1, bnd_s]; exact ⟨_, rfl, r2⟩
  · rw [if_neg (by decide), if_neg (by decide), if_pos (by decide), r1, bnd_s]; exact ⟨_, rfl, r2⟩
  · rw [if_neg (by decide), if_neg (by decide), if_neg (by decide), if_pos (by decide), r1, bnd_s]; exact ⟨_, rfl, r2⟩
  · rw [if_neg (by decide), if_neg (by decide), if_neg (by decide), if_neg (by decide), if_pos (by decide), r1, bnd_s]; exact ⟨_, rfl, r2⟩
end HI
