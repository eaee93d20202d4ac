/-! STATE: setting passages, copies, counts, the history -/
/-- the first n of f, then g -/
def mix (n : Nat) (f g : nF) : nF := fun j => if j < n then f j else g j
theorem mix_0 {f g : nF} : mix 0 f g = g := by funext j; simp [mix]
theorem mix_S {f g : nF} {n : Nat} : upd (mix n f g) n (f n) = mix (n + 1) f g := by
  funext j
  unfold upd mix
  by_cases h : j = n
  · subst h; rw [if_pos rfl, if_pos (by omega)]
  · rw [if_neg h]
    by_cases h2 : j < n
    · rw [if_pos h2, if_pos (by omega)]
    · rw [if_neg h2, if_neg (by omega)]
theorem mix_lt {f g : nF} {n j : Nat} (h : j < n) : mix n f g j = f j := if_pos h
section ST
variable {v w : MZ} {s : nF} {M : Mz} {c d k F n : Nat}
theorem fill3 {f : nF} {x : Int32} (hn : n < F) (h2 : n < 100000) : mJ7_fill_53178 F n f x = some (mix n (fun _ => x) f) := by
  unfold mJ7_fill_53178
  have := lpr_fn (L := mJ7_fill_53178_L5 n x) (e := some (mix n (fun _ => x) f)) (F := F) (fun i => (jI (i : Nat), mix i (fun _ => x) f)) n (by
    intro i hi self
    simp only [mJ7_fill_53178_L5, jN]
    rw [nle_f hi h2, gdi hi h2, jcl _ (by omega), jS, mix_S (f := fun _ => x)]) (by
    intro self
    simp only [mJ7_fill_53178_L5, jN]
    rw [nle_t (Nat.le_refl _) h2]) hn
  simp only [mix_0] at this
  rw [← this, jl_0]
theorem copyRow3 {f g : nF} (hn : n < F) (h2 : n < 100000) : mX3_copyRow F n f n g = some (mix n f g) := by
  unfold mX3_copyRow
  simp only [jn_e]
  have := lpr_fn (L := mX3_copyRow_L2 n f n mX3_copyRow_K26) (e := some (mix n f g)) (F := F) (fun i => (jI (i : Nat), mix i f g)) n (by
    intro i hi self
    simp only [mX3_copyRow_L2, jN]
    rw [nle_f hi h2, nle_f hi h2, gdi hi h2, gdi hi h2, jcl _ (by omega), jS, mix_S]) (by
    intro self
    simp only [mX3_copyRow_L2, jN]
    rw [nle_t (Nat.le_refl _) h2]; rfl) hn
  simp only [mix_0] at this
  rw [← this, jl_0]
theorem copyFrom3 (hF : 36 < F) : mX3_copyFrom F v w = some (w.1, w.2.1, mix 36 w.2.2.1 v.2.2.1, mix 36 w.2.2.2.1 v.2.2.2.1, mix 2 w.2.2.2.2.1 v.2.2.2.2.1, mix 2 w.2.2.2.2.2 v.2.2.2.2.2) := by
  unfold mX3_copyFrom
  rw [copyRow3 hF (by omega), bnd_s, copyRow3 hF (by omega), bnd_s, copyRow3 (by omega) (by omega), bnd_s, copyRow3 (by omega) (by omega), bnd_s]
theorem R3_copy (h : R3 w M) (hd : dm M) {t : MZ} (h1 : t.1 = w.1) (h2 : t.2.1 = w.2.1) (h3 : ∀ c, c < 36 → t.2.2.1 c = w.2.2.1 c) (h4 : ∀ c, c < 36 → t.2.2.2.1 c = w.2.2.2.1 c) (h5 : ∀ c, c < 2 → t.2.2.2.2.1 c = w.2.2.2.2.1 c) (h6 : ∀ c, c < 2 → t.2.2.2.2.2 c = w.2.2.2.2.2 c) : R3 t M := by
  have hN := dm_le hd
  obtain ⟨g1, g2, g3, g4, g5, g6, g7, g8⟩ := h
  exact ⟨h1.trans g1, h2.trans g2, fun c hc => (h3 c (by omega)).trans (g3 c hc), fun c hc => (h4 c (by omega)).trans (g4 c hc), (h5 0 (by omega)).trans g5, (h5 1 (by omega)).trans g6, (h6 0 (by omega)).trans g7, (h6 1 (by omega)).trans g8⟩
theorem copyFrom3_R (hF : 36 < F) (h : R3 w M) (hd : dm M) : ∃ r, mX3_copyFrom F v w = some r ∧ R3 r M :=
  ⟨_, copyFrom3 hF, R3_copy h hd rfl rfl (fun c hc => mix_lt hc) (fun c hc => mix_lt hc) (fun c hc => mix_lt hc) (fun c hc => mix_lt hc)⟩
theorem R3_mk {a b : Int32} {t p dc ds : nF} (h1 : a = jI (mC M : Nat)) (h2 : b = jI (mR M : Nat)) (h3 : ∀ c, c < mN M → t c = jI (mT M c : Nat)) (h4 : ∀ c, c < mN M → p c = jI (mask (mC M) (mN M) (mO M) c : Nat))
    (h5 : dc 0 = jI (mE M : Nat)) (h6 : dc 1 = jI (mX M : Nat)) (h7 : ds 0 = jI (mEs M : Nat)) (h8 : ds 1 = jI (mXs M : Nat)) : R3 (a, b, t, p, dc, ds) M := ⟨h1, h2, h3, h4, h5, h6, h7, h8⟩
/-- a bright maze without a passage -/
def Mc (C R : Nat) : Mz := ((C, R), fun _ => 0, fun _ => false, ((0, 3), (C * R - 1, 1)))
theorem mask_0 {C N : Nat} {c : Nat} : mask C N (fun _ => false) c = 0 := by
  rw [mask_b]; simp [opn, b01]
theorem clear3 {C R : Nat} (hF : 36 < F) (hC : 2 ≤ C ∧ C ≤ 6) (hR : 2 ≤ R ∧ R ≤ 6) : ∃ r, mX3_clear F v (jI (C : Nat)) (jI (R : Nat)) = some r ∧ R3 r (Mc C R) ∧ r.2.2.1 = mix 36 (fun _ => 0) v.2.2.1 := by
  have hd : dm (Mc C R) := ⟨hC.1, hC.2, hR.1, hR.2⟩
  have hN := dm_le hd
  have e0 : 4 ≤ C * R := hN.2.2.2.2.1
  unfold mX3_clear
  rw [fill3 hF (by omega), bnd_s, fill3 hF (by omega), bnd_s, jl_0, put_i (show 0 < 2 by omega) (by omega), bnd_s, put_i (show 0 < 2 by omega) (by omega), bnd_s]
  simp only [mX3_cells, jnM, bnd_s]
  rw [jl_1, put_i (show 1 < 2 by omega) (by omega), bnd_s, put_i (show 1 < 2 by omega) (by omega), bnd_s]
  refine ⟨_, rfl, R3_mk rfl rfl (fun c hc => ?_) (fun c hc => ?_) ?_ ?_ ?_ ?_, ?_⟩
  · have : c < 36 := by omega
    exact (mix_lt this).trans rfl
  · have : c < 36 := by omega
    refine (mix_lt this).trans ?_
    show _ = jI (mask (mC (Mc C R)) (mN (Mc C R)) (fun _ => false) c : Nat)
    rw [mask_0]
  · rw [upd_n (by omega), upd_s]; rfl
  · rw [upd_s, jI_sub]
    show jI _ = jI ((C * R - 1 : Nat) : Int)
    congr 1
    omega
  · rw [upd_n (by omega), upd_s, jl_3]; rfl
  · rw [upd_s]; rfl
  · rfl
theorem bits_set : ∀ a b c d t : Bool, ∀ i : Fin 4, (if bI t = 0 then (jI ((b01 a + 2 * b01 b + 4 * b01 c + 8 * b01 d : Nat) : Int) &&& (((1 : Int32) <<< (jI (i.val : Nat) &&& 31)) ^^^ (-1 : Int32))) else ((jI ((b01 a + 2 * b01 b + 4 * b01 c + 8 * b01 d : Nat) : Int) &&& (((1 : Int32) <<< (jI (i.val : Nat) &&& 31)) ^^^ (-1 : Int32))) ||| ((1 : Int32) <<< (jI (i.val : Nat) &&& 31))))
    = jI ((b01 (if i.val = 0 then t else a) + 2 * b01 (if i.val = 1 then t else b) + 4 * b01 (if i.val = 2 then t else c) + 8 * b01 (if i.val = 3 then t else d) : Nat) : Int) := by decide +kernel
/-- the set of directions with one changed -/
def mset (o : Nat → Bool) (d : Nat) (t : Bool) : Nat := b01 (if d = 0 then t else o 0) + 2 * b01 (if d = 1 then t else o 1) + 4 * b01 (if d = 2 then t else o 2) + 8 * b01 (if d = 3 then t else o 3)
theorem setOpen3 {o : Nat → Bool} {t : Bool} (hc : c < 36) (hdd : d < 4) (hm : v.2.2.2.1 c = jI ((b01 (o 0) + 2 * b01 (o 1) + 4 * b01 (o 2) + 8 * b01 (o 3) : Nat) : Int)) : mX3_setOpen v (jI (c : Nat)) (jI (d : Nat)) (bI t) = some (upd v.2.2.2.1 c (jI (mset o d t : Nat))) := by
  unfold mX3_setOpen
  rw [at_i hc (by omega), bnd_s]
  simp only [jn_e, hm]
  have h := bits_set (o 0) (o 1) (o 2) (o 3) t ⟨d, hdd⟩
  cases t
  · rw [if_pos (show bI false = 0 from rfl)] at h ⊢
    rw [h, put_i hc (by omega), bnd_s]; rfl
  · rw [if_neg bIt0] at h ⊢
    rw [h, put_i hc (by omega), bnd_s]; rfl
theorem opp_all : ∀ i : Fin 4, ((jI (i.val : Nat) + (2 : Int32)) - (jI (i.val : Nat) + (2 : Int32)) / (4 : Int32) * (4 : Int32)) = jI (opp i.val : Nat) := by decide +kernel
theorem opp8 (hdd : d < 4) : ((jI (d : Nat) + (2 : Int32)) - (jI (d : Nat) + (2 : Int32)) / (4 : Int32) * (4 : Int32)) = jI (opp d : Nat) := opp_all ⟨d, hdd⟩
/-- a maze with other passages -/
def wP (v : MZ) (p : nF) : MZ := (v.1, v.2.1, v.2.2.1, p, v.2.2.2.2.1, v.2.2.2.2.2)
theorem nb_ne {C R : Nat} {o : Nat} (h1 : 2 ≤ C) (h : nb C (C * R) c d = some o) : o ≠ c := by
  unfold nb at h
  rintro rfl
  split at h
  · split at h
    · have e : o - C = o := by simpa using h
      omega
    · cases h
  · split at h
    · split at h
      · simp at h
      · cases h
    · split at h
      · split at h
        · simp at h; omega
        · cases h
      · split at h
        · rename_i q
          have e : o - 1 = o := by simpa using h
          have : o = 0 := by omega
          subst this
          simp at q
        · cases h
theorem mset_mask {C R o : Nat} {op : Op} {t : Bool} (h1 : 2 ≤ C) (h2 : C ≤ 6) (h3 : 2 ≤ R) (h4 : R ≤ 6) (hc : c < C * R) (hdd : d < 4) (h : nb C (C * R) c d = some o) : mask C (C * R) (setE op (num C c d) t) c = mset (opn C (C * R) op c) d t := by
  rw [mask_b]
  unfold mset
  have e : ∀ d', d' < 4 → opn C (C * R) (setE op (num C c d) t) c d' = if d = d' then t else opn C (C * R) op c d' := by
    intro d' hd'
    rw [opn_set h1 h2 h3 h4 hc hdd h hc hd']
    have := nb_ne h1 h
    by_cases q : d = d'
    · subst q; rw [if_pos (Or.inl ⟨rfl, rfl⟩), if_pos rfl]
    · rw [if_neg q, if_neg]
      rintro (⟨-, z⟩ | ⟨z, -⟩)
      · exact q z.symm
      · exact this z.symm
  rw [e 0 (by omega), e 1 (by omega), e 2 (by omega), e 3 (by omega)]
theorem setPassage3 {o : Nat} {t : Bool} (h : R3 v M) (hd : dm M) (hc : c < mN M) (hdd : d < 4) (ho : nb (mC M) (mN M) c d = some o) :
    ∃ p, mX3_setPassage v (jI (c : Nat)) (jI (d : Nat)) (bI t) = some p ∧ R3 (wP v p) (setO M (setE (mO M) (num (mC M) c d) t)) := by
  have hN := dm_le hd
  have ho' : nb (mC M) (mC M * mR M) c d = some o := ho
  have hp := nb_pl hd.1 hd.2.1 hd.2.2.1 hd.2.2.2 hc hdd ho'
  have hne := nb_ne hd.1 ho'
  have hoN : o < mN M := hp.2.2.1
  unfold mX3_setPassage
  rw [beside3 h hd hc hdd, bnd_s]
  simp only [jn_e]
  rw [ho, oJ_some, if_neg (by rw [nem1 (by omega)]; exact id), setOpen3 (o := opn (mC M) (mN M) (mO M) c) (show c < 36 by omega) hdd (by rw [h.2.2.2.1 c hc, mask_b]), bnd_s, gn4, opp8 hdd]
  rw [setOpen3 (v := (v.1, v.2.1, v.2.2.1, upd v.2.2.2.1 c (jI (mset (opn (mC M) (mN M) (mO M) c) d t : Nat)), v.2.2.2.2.1, v.2.2.2.2.2)) (o := opn (mC M) (mN M) (mO M) o) (show o < 36 by omega) opp_lt (by
    show upd v.2.2.2.1 c _ o = _
    rw [upd_n hne, h.2.2.2.1 o hoN, mask_b]), bnd_s]
  refine ⟨_, rfl, h.1, h.2.1, h.2.2.1, fun c' hc' => ?_, h.2.2.2.2⟩
  show upd (upd v.2.2.2.1 c _) o _ c' = jI (mask (mC M) (mC M * mR M) (setE (mO M) (num (mC M) c d) t) c' : Nat)
  have e1 := mset_mask (op := mO M) (t := t) hd.1 hd.2.1 hd.2.2.1 hd.2.2.2 hc hdd ho'
  have e2 := mset_mask (op := mO M) (t := t) hd.1 hd.2.1 hd.2.2.1 hd.2.2.2 hp.2.2.1 opp_lt hp.2.2.2.1
  rw [hp.2.2.2.2] at e2
  by_cases q : c' = o
  · subst q; rw [upd_s, e2]; rfl
  · rw [upd_n q]
    by_cases q2 : c' = c
    · subst q2; rw [upd_s, e1]; rfl
    · rw [upd_n q2, h.2.2.2.1 c' hc', mask_b, mask_b]
      have e : ∀ d', d' < 4 → opn (mC M) (mC M * mR M) (setE (mO M) (num (mC M) c d) t) c' d' = opn (mC M) (mN M) (mO M) c' d' := by
        intro d' hd'
        rw [opn_set hd.1 hd.2.1 hd.2.2.1 hd.2.2.2 hc hdd ho' hc' hd', if_neg]
        · rfl
        · rintro (⟨z, -⟩ | ⟨z, -⟩)
          · exact q2 z
          · exact q z
      rw [e 0 (by omega), e 1 (by omega), e 2 (by omega), e 3 (by omega)]
theorem setPlace3 {t : Bool} (h : R3 v M) (hd : dm M) (hk : vld (mC M) (mN M) k) : ∃ p, mX3_setPlace v (jI (k : Nat)) (bI t) = some p ∧ R3 (wP v p) (setO M (setE (mO M) k t)) := by
  have hN := dm_le hd
  have hk1 := hk.1
  obtain ⟨p, h1, h2⟩ := setPassage3 (t := t) h hd (pA_lt hk.1) pdr_lt (pl_nb hk)
  rw [pdr_num] at h2
  refine ⟨p, ?_, h2⟩
  simp only [mX3_setPlace, lowEnd3 (show k < 72 by omega), plDir3 (show k < 72 by omega), bnd_s, h1]
/-- the reference's cells -/
theorem R8_set {t : Bool} (h : R8 s M) (hd : dm M) (hk : k < 2 * mN M) : R8 (upd s (42 + k) (jI (b01 t : Nat))) (setO M (setE (mO M) k t)) := by
  have hN := dm_le hd
  obtain ⟨g1, g2, g3, g4, g5, g6, g7, g8⟩ := h
  refine ⟨(upd_n (by omega)).trans g1, (upd_n (by omega)).trans g2, (upd_n (by omega)).trans g3, (upd_n (by omega)).trans g4, (upd_n (by omega)).trans g5, (upd_n (by omega)).trans g6, fun c hc => ?_, fun j hj => ?_⟩
  · have hc' : c < mN M := hc
    exact (upd_n (by omega)).trans (g7 c hc)
  · show _ = jI (b01 (setE (mO M) k t j) : Nat)
    by_cases e : j = k
    · subst e; rw [upd_s, setE_self]
    · rw [upd_n (by omega), setE_ne e]; exact g8 j hj
theorem R8_cong {s' : nF} (h : R8 s M) (hd : dm M) (he : ∀ j, j < 114 → s' j = s j) : R8 s' M := by
  have hN := dm_le hd
  obtain ⟨g1, g2, g3, g4, g5, g6, g7, g8⟩ := h
  exact ⟨(he _ (by omega)).trans g1, (he _ (by omega)).trans g2, (he _ (by omega)).trans g3, (he _ (by omega)).trans g4, (he _ (by omega)).trans g5, (he _ (by omega)).trans g6, fun c hc => (he _ (by omega)).trans (g7 c hc), fun k hk => (he _ (by omega)).trans (g8 k hk)⟩
theorem lightens8 {C R : Nat} (hF : 114 < F) (hC : 2 ≤ C ∧ C ≤ 6) (hR : 2 ≤ R ∧ R ≤ 6) : ∃ r, mX8_lightens F s (jI (C : Nat)) (jI (R : Nat)) = some r ∧ R8 r (Mc C R) := by
  have hd : dm (Mc C R) := ⟨hC.1, hC.2, hR.1, hR.2⟩
  have hN := dm_le hd
  have e0 : 4 ≤ C * R := hN.2.2.2.2.1
  have e1 : mN (Mc C R) ≤ 36 := hN.2.2.2.2.2.1
  unfold mX8_lightens
  simp only [jn_e]
  have := lpr_fn (L := mX8_lightens_L2 (mX8_lightens_K21 (jI (C : Nat)) (jI (R : Nat)))) (e := mX8_lightens_K21 (jI (C : Nat)) (jI (R : Nat)) (mix 114 (fun _ => 0) s)) (F := F) (fun i => (jI (i : Nat), mix i (fun _ => 0) s)) 114 (by
    intro i hi self
    simp only [mX8_lightens_L2, jl_114]
    rw [nle_f hi (by omega), gdi hi (by omega), jcl _ (by omega), jS, mix_S (f := fun _ => 0)]) (by
    intro self
    simp only [mX8_lightens_L2, jl_114]
    rw [nle_t (Nat.le_refl _) (by omega)]) hF
  simp only [mix_0] at this
  rw [jl_0, this]
  simp only [mX8_lightens_K21, gl0, gl1, gl3, gl4, gl5, cl0, cl1, cl3, cl4, cl5]
  refine ⟨_, rfl, ?_⟩
  refine ⟨?_, ?_, ?_, ?_, ?_, ?_, fun c hc => ?_, fun k hk => ?_⟩
  · rw [upd_n (by omega), upd_n (by omega), upd_n (by omega), upd_n (by omega), upd_s]; rfl
  · rw [upd_n (by omega), upd_n (by omega), upd_n (by omega), upd_s]; rfl
  · rw [upd_n (by omega), upd_n (by omega), upd_n (by omega), upd_n (by omega), upd_n (by omega), mix_lt (by omega)]; rfl
  · rw [upd_n (by omega), upd_n (by omega), upd_s]; rfl
  · rw [upd_n (by omega), upd_s, jnM, j_1, jI_sub]
    show jI _ = jI ((C * R - 1 : Nat) : Int)
    congr 1
    omega
  · rw [upd_s]; rfl
  · rw [upd_n (by omega), upd_n (by omega), upd_n (by omega), upd_n (by omega), upd_n (by omega), mix_lt (by omega)]; rfl
  · rw [upd_n (by omega), upd_n (by omega), upd_n (by omega), upd_n (by omega), upd_n (by omega), mix_lt (by omega)]; rfl
theorem begins8 {b : nF} (hF : 114 < F) : mX8_begins F s b = some (mix 114 s b) := by
  unfold mX8_begins
  have := lpr_fn (L := mX8_begins_L2 s) (e := some (mix 114 s b)) (F := F) (fun i => (jI (i : Nat), mix i s b)) 114 (by
    intro i hi self
    simp only [mX8_begins_L2, jl_114]
    rw [nle_f hi (by omega), gdi hi (by omega), gdi hi (by omega), jcl _ (by omega), jS, mix_S]) (by
    intro self
    simp only [mX8_begins_L2, jl_114]
    rw [nle_t (Nat.le_refl _) (by omega)]) hF
  simp only [mix_0] at this
  rw [← this, jl_0]
theorem R8_mix {b : nF} (h : R8 s M) (hd : dm M) : R8 (mix 114 s b) M := R8_cong h hd (fun j hj => mix_lt hj)
end ST
