/-! THE LAW, its loop -/
theorem vpj {k L : Nat} (h : k < L) (hL : L ≤ 2048) : vp_in (jI (k : Int)) L := inb_in (by rw [jI_inb (by omega) (by omega)]; exact decide_eq_true (by omega))
set_option maxHeartbeats 4000000 in
set_option maxRecDepth 100000 in
theorem law_body {G : gT} {X : xT} {k n b L : Nat} {xs : Nat → Int32} {a : Nat → Nat → Nat} {a8 : Nat → Nat} {x : Int32} {hs : Int32} {o1 : MZ} {o2 : MZ} {o3 : HS} {o4 : PT} {o5 : WY} {o6 : WY} {o7 : WY} {o8 : WK} {o9 : BD} {o10 : EX} {s : nF} {bg : nF} {kept : nF} {ik : Int32} {past : nF} {st : Int32} {text : nF} {len : Int32} {far : nF} {qu : nF} {f3 : nF} {f4 : nF} {i1 : Int32} {i2 : Int32} {f5 : nF} {f6 : nF} {bA : Int32} {bM : Int32} {bF : Int32} {ih : nF} {pl : Int32} {re : Int32} {wi : Int32} {hi : Int32} (hX : Ok G X cL_law RL wsL_law 4 room_1) (hsc : SC X b L xs) (hkn : k ≤ 600000 ∧ n ≤ 7302250) (e0 : vp_in x L) (e1 : vp_in (x + 1) L) (e2 : vp_in (x + 2) L) (e3 : vp_in (x + 3) L) (hI : INV hs o1 o2 o3 o4 s kept ik past st text len) (kk : GO G X k n a a8 [some (.ref b), some (.ref (a 0 0)), some (.ref (a8 0)), some (.int x)] 669) : WW G X k n (wA G a a8 hs o1 o2 o3 o4 o5 o6 o7 o8 o9 o10 s bg kept ik past st text len far qu f3 f4 i1 i2 f5 f6 bA bM bF ih pl re wi hi) [some (.ref b), some (.ref (a 0 0)), some (.ref (a8 0)), some (.int x)] 26 [] := by
  refine w_aload_n (pc := 26) hX dL_law_26 rfl rfl ?_
  refine w_iload_n (pc := 27) hX dL_law_27 rfl rfl ?_
  refine w_sld (pc := 28) hX hsc e0 dL_law_28 ?_
  refine w_bipush (pc := 29) (v := 31) hX dL_law_29 (by decide) ?_
  refine w_iand (pc := 31) hX dL_law_31 ?_
  obtain ⟨z, hz⟩ : ∃ z, z = xs x.toNatClampNeg &&& 31 := ⟨_, rfl⟩
  rw [← hz]
  by_cases h0 : z.toInt = 0
  · refine w_tabIn (pc := 32) (tgt := 140) hX dL_law_32 0 h0 (by decide) (by decide) rfl (by decide) ?_
    exact lc_tone hX hsc hkn e1 rfl e2 rfl hI kk
  by_cases h1 : z.toInt = 1
  · refine w_tabIn (pc := 32) (tgt := 173) hX dL_law_32 1 h1 (by decide) (by decide) rfl (by decide) ?_
    exact lc_carve hX hsc hkn e1 rfl e2 rfl hI kk
  by_cases h2 : z.toInt = 2
  · refine w_tabIn (pc := 32) (tgt := 206) hX dL_law_32 2 h2 (by decide) (by decide) rfl (by decide) ?_
    exact lc_wall hX hsc hkn e1 rfl e2 rfl hI kk
  by_cases h3 : z.toInt = 3
  · refine w_tabIn (pc := 32) (tgt := 239) hX dL_law_32 3 h3 (by decide) (by decide) rfl (by decide) ?_
    exact lc_door hX hsc hkn e1 rfl e2 rfl e3 rfl hI kk
  by_cases h4 : z.toInt = 4
  · refine w_tabIn (pc := 32) (tgt := 282) hX dL_law_32 4 h4 (by decide) (by decide) rfl (by decide) ?_
    exact lc_build hX hsc hkn hI kk
  by_cases h5 : z.toInt = 5
  · refine w_tabIn (pc := 32) (tgt := 295) hX dL_law_32 5 h5 (by decide) (by decide) rfl (by decide) ?_
    exact lc_exchange hX hsc hkn hI kk
  by_cases h6 : z.toInt = 6
  · refine w_tabIn (pc := 32) (tgt := 308) hX dL_law_32 6 h6 (by decide) (by decide) rfl (by decide) ?_
    exact lc_improve hX hsc hkn hI kk
  by_cases h7 : z.toInt = 7
  · refine w_tabIn (pc := 32) (tgt := 321) hX dL_law_32 7 h7 (by decide) (by decide) rfl (by decide) ?_
    exact lc_cellOf hX hsc hkn e1 rfl e2 rfl hI kk
  by_cases h8 : z.toInt = 8
  · refine w_tabIn (pc := 32) (tgt := 354) hX dL_law_32 8 h8 (by decide) (by decide) rfl (by decide) ?_
    exact lc_doorOf hX hsc hkn e1 rfl e2 rfl hI kk
  by_cases h9 : z.toInt = 9
  · refine w_tabIn (pc := 32) (tgt := 387) hX dL_law_32 9 h9 (by decide) (by decide) rfl (by decide) ?_
    exact lc_count hX hsc hkn e1 rfl hI kk
  by_cases h10 : z.toInt = 10
  · refine w_tabIn (pc := 32) (tgt := 410) hX dL_law_32 10 h10 (by decide) (by decide) rfl (by decide) ?_
    exact lc_way hX hsc hkn e1 rfl hI kk
  by_cases h11 : z.toInt = 11
  · refine w_tabIn (pc := 32) (tgt := 433) hX dL_law_32 11 h11 (by decide) (by decide) rfl (by decide) ?_
    exact lc_drawn hX hsc hkn e1 rfl hI kk
  by_cases h12 : z.toInt = 12
  · refine w_tabIn (pc := 32) (tgt := 456) hX dL_law_32 12 h12 (by decide) (by decide) rfl (by decide) ?_
    exact lc_between hX hsc hkn e1 rfl e2 rfl hI kk
  by_cases h13 : z.toInt = 13
  · refine w_tabIn (pc := 32) (tgt := 489) hX dL_law_32 13 h13 (by decide) (by decide) rfl (by decide) ?_
    exact lc_farthest hX hsc hkn e1 rfl hI kk
  by_cases h14 : z.toInt = 14
  · refine w_tabIn (pc := 32) (tgt := 512) hX dL_law_32 14 h14 (by decide) (by decide) rfl (by decide) ?_
    exact lc_best hX hsc hkn e1 rfl hI kk
  by_cases h15 : z.toInt = 15
  · refine w_tabIn (pc := 32) (tgt := 535) hX dL_law_32 15 h15 (by decide) (by decide) rfl (by decide) ?_
    exact lc_bestExit hX hsc hkn e1 rfl hI kk
  by_cases h16 : z.toInt = 16
  · refine w_tabIn (pc := 32) (tgt := 558) hX dL_law_32 16 h16 (by decide) (by decide) rfl (by decide) ?_
    exact lc_keep hX hsc hkn hI kk
  by_cases h17 : z.toInt = 17
  · refine w_tabIn (pc := 32) (tgt := 571) hX dL_law_32 17 h17 (by decide) (by decide) rfl (by decide) ?_
    exact lc_restore hX hsc hkn hI kk
  by_cases h18 : z.toInt = 18
  · refine w_tabIn (pc := 32) (tgt := 584) hX dL_law_32 18 h18 (by decide) (by decide) rfl (by decide) ?_
    exact lc_undo hX hsc hkn hI kk
  by_cases h19 : z.toInt = 19
  · refine w_tabIn (pc := 32) (tgt := 597) hX dL_law_32 19 h19 (by decide) (by decide) rfl (by decide) ?_
    exact lc_type hX hsc hkn e1 rfl hI kk
  by_cases h20 : z.toInt = 20
  · refine w_tabIn (pc := 32) (tgt := 620) hX dL_law_32 20 h20 (by decide) (by decide) rfl (by decide) ?_
    exact lc_clearText hX hsc hkn hI kk
  by_cases h21 : z.toInt = 21
  · refine w_tabIn (pc := 32) (tgt := 633) hX dL_law_32 21 h21 (by decide) (by decide) rfl (by decide) ?_
    exact lc_fault hX hsc hkn e1 rfl hI kk
  by_cases h22 : z.toInt = 22
  · refine w_tabIn (pc := 32) (tgt := 656) hX dL_law_32 22 h22 (by decide) (by decide) rfl (by decide) ?_
    exact lc_read hX hsc hkn hI kk
  refine w_tabOut (pc := 32) (tgt := 669) hX dL_law_32 (by omega) (by decide) ?_
  exact kk hs o1 o2 o3 o4 o5 o6 o7 o8 o9 o10 s bg kept ik past st text len far qu f3 f4 i1 i2 f5 f6 bA bM bF ih pl re wi hi hI
set_option maxHeartbeats 4000000 in
theorem law_loop {G : gT} {X : xT} {k n b L : Nat} {xs : Nat → Int32} {a : Nat → Nat → Nat} {a8 : Nat → Nat} (hX : Ok G X cL_law RL wsL_law 4 room_1) (hsc : SC X b L xs) (hkn : k ≤ 600000 ∧ n ≤ 7302250) (hL : L ≤ 2048) (hend : ∀ ws lv, WW G X k n ws lv 675 []) : ∀ (f t : Nat), 4 * t ≤ L → L < 4 * t + 4 * f → GO G X k n a a8 [some (.ref b), some (.ref (a 0 0)), some (.ref (a8 0)), some (.int (jI ((4 * t : Nat) : Int)))] 18 := by
  intro f
  induction f with
  | zero => intro t h1 h2; exact absurd h2 (by omega)
  | succ f IHf =>
    intro t h1 h2
    intro hs o1 o2 o3 o4 o5 o6 o7 o8 o9 o10 s bg kept ik past st text len far qu f3 f4 i1 i2 f5 f6 bA bM bF ih pl re wi hi hI
    refine w_iload_n (pc := 18) hX dL_law_18 rfl rfl ?_
    refine w_aload_n (pc := 19) hX dL_law_19 rfl rfl ?_
    refine w_slen (pc := 20) hX hsc dL_law_20 ?_
    refine w_iconst (pc := 21) (v := 4) hX dL_law_21 ic_4 ?_
    refine w_isub (pc := 22) hX dL_law_22 ?_
    have hs4 : Int32.ofNat L - 4 = jI ((L : Int) - 4) := by rw [jN, j_4, jI_sub]
    rw [hs4]
    refine wl_gt (pc := 23) (tgt := 675) hX dL_law_23 (by decide) (fun q => ?_) (fun q => ?_)
    · exact hend _ _
    · rw [jI_lt (by omega) (by omega) (by omega) (by omega)] at q
      have h4 : 4 * t + 4 ≤ L := by omega
      have a1 : jI ((4 * t : Nat) : Int) + (1 : Int32) = jI ((4 * t + 1 : Nat) : Int) := by rw [j_1, jI_add]; rfl
      have a2 : jI ((4 * t : Nat) : Int) + (2 : Int32) = jI ((4 * t + 2 : Nat) : Int) := by rw [j_2, jI_add]; rfl
      have a3 : jI ((4 * t : Nat) : Int) + (3 : Int32) = jI ((4 * t + 3 : Nat) : Int) := by rw [j_3, jI_add]; rfl
      have a4 : jI ((4 * t : Nat) : Int) + (4 : Int32) = jI ((4 * (t + 1) : Nat) : Int) := by rw [j_4, jI_add]; rfl
      refine law_body hX hsc hkn (vpj (by omega) hL) (by rw [a1]; exact vpj (by omega) hL) (by rw [a2]; exact vpj (by omega) hL) (by rw [a3]; exact vpj (by omega) hL) hI ?_
      intro hs o1 o2 o3 o4 o5 o6 o7 o8 o9 o10 s bg kept ik past st text len far qu f3 f4 i1 i2 f5 f6 bA bM bF ih pl re wi hi hI2
      refine w_iinc (pc := 669) (v := 4) hX dL_law_669 rfl (by decide) ic_4 ?_
      refine w_goto (pc := 672) (tgt := 18) hX dL_law_672 (by decide) ?_
      rw [a4]
      exact IHf (t + 1) (by omega) (by omega) hs o1 o2 o3 o4 o5 o6 o7 o8 o9 o10 s bg kept ik past st text len far qu f3 f4 i1 i2 f5 f6 bA bM bF ih pl re wi hi hI2
