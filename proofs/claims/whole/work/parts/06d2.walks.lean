/-! WALKS, printed by wip/whole/gen.py -/
theorem lkp_out {x : Int32} (h0 : ¬ x = (0 : Int32)) (h1 : ¬ x = (1 : Int32)) : Op.lookupswitch.offset [((0 : Int), (26 : Int)), (1, 38)] 50 x.toInt = 50 := by
  have a0 : ¬ (0 : Int) = x.toInt := fun q => h0 (Int32.toInt_inj.mp (by rw [← q]; decide))
  have a1 : ¬ (1 : Int) = x.toInt := fun q => h1 (Int32.toInt_inj.mp (by rw [← q]; decide))
  simp [Op.lookupswitch.offset, List.find?, a0, a1]
theorem lX7_between_X7 : ∀ w ∈ wsX70, w ∈ wsX7_between := in_at [57, 58, 59, 60, 61, 62, 63, 64, 65, 66, 67] (by decide +kernel)
set_option maxHeartbeats 4000000 in
set_option maxRecDepth 100000 in
theorem ctX7_between (G : gT) (F : Nat) (a : Nat → Nat → Nat) (m_hasSnapshot : Int32) (v_o1 : MZ) (v_o5 : WY) (g1 : Int32) (g2 : Int32) (o : (Int32 × WY)) (hm : mX7_between F v_o1 v_o5 g1 g2 = some o) : CT G yX7_between wsX7_between rmX7_between [.ref (a 0 0), .int g1, .int g2] (wX7 G a m_hasSnapshot ++ wX3 G (a 1) v_o1 ++ wX6 G (a 5) v_o5) (fun v w => v = some (.int o.1) ∧ w = wX7 G a m_hasSnapshot ++ wX3 G (a 1) v_o1 ++ wX6 G (a 5) o.2) := by
  refine CT_of (cc := cX7_between) (maxL := 3) (ret := (some .int)) 0 (by decide +kernel) rfl rfl (cat_ok rfl) (fun X hX hR hN => ?_)
  have hX : Ok G X cX7_between RX7 wsX7_between 3 rmX7_between := hX
  have hX7 : ∀ w ∈ wsX70, w ∈ wsX7_between := lX7_between_X7
  unfold mX7_between at hm
  refine w_aload_n (pc := 0) hX dX7_between_0 rfl rfl ?_
  refine gf_X7_maze (pc := 1) hX dX7_between_1 hX7 (List.mem_of_getElem? (i := 1) rfl) 0 rfl rfl ?_
  refine w_iload_n (pc := 4) hX dX7_between_4 rfl rfl ?_
  obtain ⟨r1, hr1, hm⟩ := bnd hm
  refine w_callpi (pc := 5) hX [1, 2, 3, 4, 5] (runV (rest := []) hX [1, 2, 3, 4, 5] (ctX3_hasCell G (a 1) v_o1 g1 r1 hr1) dX7_between_5 1 gX7_between_X3_hasCell rfl hyX3_hasCell ⟨Nat.le_of_ble_eq_true rfl, Nat.le_of_ble_eq_true rfl⟩ 1 rfl rfl rfl rfl (Nat.le_of_ble_eq_true rfl) ⟨Nat.le_of_ble_eq_true rfl, Nat.le_of_ble_eq_true rfl⟩ rfl (by decide +kernel)) rfl ⟨rfl, rfl⟩ ?_
  refine w_jn (T := fun x2 : Unit => WW G X 0 0 (wX7 G a m_hasSnapshot ++ wX3 G (a 1) v_o1 ++ wX6 G (a 5) v_o5) [none, none, none] 22 []) hm (fun x2 hm => ?_) (fun j3 hj3 hm => ?_)
  ·
    refine w_iconst (pc := 22) hX dX7_between_22 ic_m1 ?_
    obtain rfl := som hm
    exact w_iret (pc := 23) hX hR dX7_between_23 ⟨rfl, rfl⟩
  ·
    refine w_if_eq (pc := 8) (tgt := 22) hX dX7_between_8 (by decide) hm (fun hm => ?_) (fun hm => ?_)
    ·
      exact w_lvs [false, false, false] (hj3 () hm)
    ·
      refine w_aload_n (pc := 11) hX dX7_between_11 rfl rfl ?_
      refine gf_X7_maze (pc := 12) hX dX7_between_12 hX7 (List.mem_of_getElem? (i := 1) rfl) 0 rfl rfl ?_
      refine w_iload_n (pc := 15) hX dX7_between_15 rfl rfl ?_
      obtain ⟨r4, hr4, hm⟩ := bnd hm
      refine w_callpi (pc := 16) hX [1, 2, 3, 4, 5] (runV (rest := []) hX [1, 2, 3, 4, 5] (ctX3_hasCell G (a 1) v_o1 g2 r4 hr4) dX7_between_16 1 gX7_between_X3_hasCell rfl hyX3_hasCell ⟨Nat.le_of_ble_eq_true rfl, Nat.le_of_ble_eq_true rfl⟩ 1 rfl rfl rfl rfl (Nat.le_of_ble_eq_true rfl) ⟨Nat.le_of_ble_eq_true rfl, Nat.le_of_ble_eq_true rfl⟩ rfl (by decide +kernel)) rfl ⟨rfl, rfl⟩ ?_
      refine w_if_ne (pc := 19) (tgt := 24) hX dX7_between_19 (by decide) hm (fun hm => ?_) (fun hm => ?_)
      ·
        refine w_aload_n (pc := 24) hX dX7_between_24 rfl rfl ?_
        refine gf_X7_ways (pc := 25) hX dX7_between_25 hX7 (List.mem_of_getElem? (i := 2) rfl) 0 rfl rfl ?_
        refine w_aload_n (pc := 28) hX dX7_between_28 rfl rfl ?_
        refine gf_X7_maze (pc := 29) hX dX7_between_29 hX7 (List.mem_of_getElem? (i := 1) rfl) 0 rfl rfl ?_
        refine w_iload_n (pc := 32) hX dX7_between_32 rfl rfl ?_
        obtain ⟨r5, hr5, hm⟩ := bnd hm
        refine w_calldv (pc := 33) (ws' := wX7 G a m_hasSnapshot ++ wX3 G (a 1) v_o1 ++ wX6 G (a 5) r5) (os := [none, some 5, some 6, some 7, some 8, some 9, some 0, some 1, some 2, some 3, some 4]) 11 hX [6, 7, 8, 9, 10, 1, 2, 3, 4, 5] (runV (rest := []) hX [6, 7, 8, 9, 10, 1, 2, 3, 4, 5] (ctX6_findFrom G F (a 5) (a 1) v_o5 v_o1 g1 r5 hr5) dX7_between_33 2 gX7_between_X6_findFrom rfl hyX6_findFrom ⟨Nat.le_of_ble_eq_true rfl, Nat.le_of_ble_eq_true rfl⟩ 6 rfl rfl rfl rfl (Nat.le_of_ble_eq_true rfl) ⟨Nat.le_of_ble_eq_true rfl, Nat.le_of_ble_eq_true rfl⟩ rfl (by decide +kernel)) rfl rfl rfl (by decide +kernel) rfl ⟨rfl, rfl⟩ ?_
        refine w_aload_n (pc := 36) hX dX7_between_36 rfl rfl ?_
        refine gf_X7_ways (pc := 37) hX dX7_between_37 hX7 (List.mem_of_getElem? (i := 2) rfl) 0 rfl rfl ?_
        refine w_iload_n (pc := 40) hX dX7_between_40 rfl rfl ?_
        obtain ⟨r6, hr6, hm⟩ := bnd hm
        refine w_callpi (pc := 41) hX [6, 7, 8, 9, 10] (runV (rest := []) hX [6, 7, 8, 9, 10] (ctX6_reach G (a 5) r5 g2 r6 hr6) dX7_between_41 1 gX7_between_X6_reach rfl hyX6_reach ⟨Nat.le_of_ble_eq_true rfl, Nat.le_of_ble_eq_true rfl⟩ 6 rfl rfl rfl rfl (Nat.le_of_ble_eq_true rfl) ⟨Nat.le_of_ble_eq_true rfl, Nat.le_of_ble_eq_true rfl⟩ rfl (by decide +kernel)) rfl ⟨rfl, rfl⟩ ?_
        refine w_jn (T := fun x7 : Int32 => WW G X 0 0 (wX7 G a m_hasSnapshot ++ wX3 G (a 1) v_o1 ++ wX6 G (a 5) r5) [none, none, none] 60 [.int x7]) hm (fun x7 hm => ?_) (fun j8 hj8 hm => ?_)
        ·
          obtain rfl := som hm
          exact w_iret (pc := 60) hX hR dX7_between_60 ⟨rfl, rfl⟩
        ·
          refine w_if_eq (pc := 44) (tgt := 58) hX dX7_between_44 (by decide) hm (fun hm => ?_) (fun hm => ?_)
          ·
            refine w_bipush (pc := 58) hX dX7_between_58 bp_m4 ?_
            exact w_lvs [false, false, false] (hj8 (-4 : Int32) hm)
          ·
            refine w_aload_n (pc := 47) hX dX7_between_47 rfl rfl ?_
            refine gf_X7_ways (pc := 48) hX dX7_between_48 hX7 (List.mem_of_getElem? (i := 2) rfl) 0 rfl rfl ?_
            refine w_iload_n (pc := 51) hX dX7_between_51 rfl rfl ?_
            obtain ⟨r9, hr9, hm⟩ := bnd hm
            refine w_callpi (pc := 52) hX [6, 7, 8, 9, 10] (runV (rest := []) hX [6, 7, 8, 9, 10] (ctX6_lengthTo G (a 5) r5 g2 r9 hr9) dX7_between_52 1 gX7_between_X6_lengthTo rfl hyX6_lengthTo ⟨Nat.le_of_ble_eq_true rfl, Nat.le_of_ble_eq_true rfl⟩ 6 rfl rfl rfl rfl (Nat.le_of_ble_eq_true rfl) ⟨Nat.le_of_ble_eq_true rfl, Nat.le_of_ble_eq_true rfl⟩ rfl (by decide +kernel)) rfl ⟨rfl, rfl⟩ ?_
            refine w_goto (pc := 55) (tgt := 60) hX dX7_between_55 (by decide) ?_
            exact w_lvs [false, false, false] (hj8 r9 hm)
      ·
        exact w_lvs [false, false, false] (hj3 () hm)

theorem lX7_cellOf_X3 : ∀ w ∈ wsX30, w ∈ wsX7_cellOf := in_at [135, 136, 137, 138, 139, 140] (by decide +kernel)
theorem lX7_cellOf_X5 : ∀ w ∈ wsX50, w ∈ wsX7_cellOf := in_at [146, 147, 148, 149] (by decide +kernel)
theorem lX7_cellOf_X6 : ∀ w ∈ wsX60, w ∈ wsX7_cellOf := in_at [141, 142, 143, 144, 145] (by decide +kernel)
theorem lX7_cellOf_X7 : ∀ w ∈ wsX70, w ∈ wsX7_cellOf := in_at [124, 125, 126, 127, 128, 129, 130, 131, 132, 133, 134] (by decide +kernel)
set_option maxHeartbeats 4000000 in
set_option maxRecDepth 100000 in
theorem ctX7_cellOf (G : gT) (F : Nat) (a : Nat → Nat → Nat) (m_hasSnapshot : Int32) (v_o1 : MZ) (v_o5 : WY) (v_o6 : WY) (v_o7 : WY) (v_o8 : WK) (g1 : Int32) (g2 : Int32) (o : (Int32 × WY × WY × WY × WK)) (hm : mX7_cellOf F v_o1 v_o5 v_o6 v_o7 v_o8 g1 g2 = some o) : CT G yX7_cellOf wsX7_cellOf rmX7_cellOf [.ref (a 0 0), .int g1, .int g2] (wX7 G a m_hasSnapshot ++ wX3 G (a 1) v_o1 ++ wX6 G (a 5) v_o5 ++ wX6 G (a 6) v_o6 ++ wX6 G (a 7) v_o7 ++ wX5 G (a 8) v_o8) (fun v w => v = some (.int o.1) ∧ w = wX7 G a m_hasSnapshot ++ wX3 G (a 1) v_o1 ++ wX6 G (a 5) o.2.1 ++ wX6 G (a 6) o.2.2.1 ++ wX6 G (a 7) o.2.2.2.1 ++ wX5 G (a 8) o.2.2.2.2) := by
  refine CT_of (cc := cX7_cellOf) (maxL := 3) (ret := (some .int)) 0 (by decide +kernel) rfl rfl (cat_ok rfl) (fun X hX hR hN => ?_)
  have hX : Ok G X cX7_cellOf RX7 wsX7_cellOf 3 rmX7_cellOf := hX
  have hX3 : ∀ w ∈ wsX30, w ∈ wsX7_cellOf := lX7_cellOf_X3
  have hX5 : ∀ w ∈ wsX50, w ∈ wsX7_cellOf := lX7_cellOf_X5
  have hX6 : ∀ w ∈ wsX60, w ∈ wsX7_cellOf := lX7_cellOf_X6
  have hX7 : ∀ w ∈ wsX70, w ∈ wsX7_cellOf := lX7_cellOf_X7
  unfold mX7_cellOf at hm
  refine w_aload_n (pc := 0) hX dX7_cellOf_0 rfl rfl ?_
  refine gf_X7_maze (pc := 1) hX dX7_cellOf_1 hX7 (List.mem_of_getElem? (i := 1) rfl) 0 rfl rfl ?_
  refine w_iload_n (pc := 4) hX dX7_cellOf_4 rfl rfl ?_
  obtain ⟨r1, hr1, hm⟩ := bnd hm
  refine w_callpi (pc := 5) hX [1, 2, 3, 4, 5] (runV (rest := []) hX [1, 2, 3, 4, 5] (ctX3_hasCell G (a 1) v_o1 g1 r1 hr1) dX7_cellOf_5 1 gX7_cellOf_X3_hasCell rfl hyX3_hasCell ⟨Nat.le_of_ble_eq_true rfl, Nat.le_of_ble_eq_true rfl⟩ 1 rfl rfl rfl rfl (Nat.le_of_ble_eq_true rfl) ⟨Nat.le_of_ble_eq_true rfl, Nat.le_of_ble_eq_true rfl⟩ rfl (by decide +kernel)) rfl ⟨rfl, rfl⟩ ?_
  refine w_if_ne (pc := 8) (tgt := 13) hX dX7_cellOf_8 (by decide) hm (fun hm => ?_) (fun hm => ?_)
  ·
    refine w_iload_n (pc := 13) hX dX7_cellOf_13 rfl rfl ?_
    rcases Decidable.em (g2 = (0 : Int32)) with hc2 | hc2
    ·
      replace hm := ite_t hm hc2
      refine w_tabIn (pc := 14) (tgt := 56) hX dX7_cellOf_14 0 (by rw [hc2]; decide) (by decide) (by decide) rfl (by decide) ?_
      refine w_aload_n (pc := 56) hX dX7_cellOf_56 rfl rfl ?_
      refine gf_X7_maze (pc := 57) hX dX7_cellOf_57 hX7 (List.mem_of_getElem? (i := 1) rfl) 0 rfl rfl ?_
      refine gf_X3_tones (pc := 60) hX dX7_cellOf_60 hX3 (List.mem_of_getElem? (i := 2) rfl) 1 rfl rfl ?_
      refine w_iload_n (pc := 63) hX dX7_cellOf_63 rfl rfl ?_
      obtain ⟨r3, hr3, hm⟩ := bnd hm
      refine w_callpi (pc := 64) hX [2] (runS (rest := []) hX [2] (ctX7_at G (a 1 1) 36 v_o1.2.2.1 g1 r3 hr3) dX7_cellOf_64 2 gX7_cellOf_X7_at rfl hyX7_at.2 ⟨Nat.le_of_ble_eq_true rfl, Nat.le_of_ble_eq_true rfl⟩ rfl rfl (Nat.le_of_ble_eq_true rfl) ⟨Nat.le_of_ble_eq_true rfl, Nat.le_of_ble_eq_true rfl⟩ rfl (by decide +kernel)) rfl ⟨rfl, rfl⟩ ?_
      obtain rfl := som hm
      exact w_iret (pc := 67) hX hR dX7_cellOf_67 ⟨rfl, rfl⟩
    ·
      replace hm := ite_f hm hc2
      rcases Decidable.em (g2 = (1 : Int32)) with hc4 | hc4
      ·
        replace hm := ite_t hm hc4
        refine w_tabIn (pc := 14) (tgt := 68) hX dX7_cellOf_14 1 (by rw [hc4]; decide) (by decide) (by decide) rfl (by decide) ?_
        refine w_aload_n (pc := 68) hX dX7_cellOf_68 rfl rfl ?_
        refine gf_X7_maze (pc := 69) hX dX7_cellOf_69 hX7 (List.mem_of_getElem? (i := 1) rfl) 0 rfl rfl ?_
        refine gf_X3_passages (pc := 72) hX dX7_cellOf_72 hX3 (List.mem_of_getElem? (i := 3) rfl) 1 rfl rfl ?_
        refine w_iload_n (pc := 75) hX dX7_cellOf_75 rfl rfl ?_
        obtain ⟨r5, hr5, hm⟩ := bnd hm
        refine w_callpi (pc := 76) hX [3] (runS (rest := []) hX [3] (ctX7_at G (a 1 2) 36 v_o1.2.2.2.1 g1 r5 hr5) dX7_cellOf_76 2 gX7_cellOf_X7_at rfl hyX7_at.2 ⟨Nat.le_of_ble_eq_true rfl, Nat.le_of_ble_eq_true rfl⟩ rfl rfl (Nat.le_of_ble_eq_true rfl) ⟨Nat.le_of_ble_eq_true rfl, Nat.le_of_ble_eq_true rfl⟩ rfl (by decide +kernel)) rfl ⟨rfl, rfl⟩ ?_
        obtain rfl := som hm
        exact w_iret (pc := 79) hX hR dX7_cellOf_79 ⟨rfl, rfl⟩
      ·
        replace hm := ite_f hm hc4
        rcases Decidable.em (g2 = (2 : Int32)) with hc6 | hc6
        ·
          replace hm := ite_t hm hc6
          refine w_tabIn (pc := 14) (tgt := 80) hX dX7_cellOf_14 2 (by rw [hc6]; decide) (by decide) (by decide) rfl (by decide) ?_
          refine w_aload_n (pc := 80) hX dX7_cellOf_80 rfl rfl ?_
          refine gf_X7_ways (pc := 81) hX dX7_cellOf_81 hX7 (List.mem_of_getElem? (i := 4) rfl) 0 rfl rfl ?_
          refine w_aload_n (pc := 84) hX dX7_cellOf_84 rfl rfl ?_
          refine gf_X7_maze (pc := 85) hX dX7_cellOf_85 hX7 (List.mem_of_getElem? (i := 1) rfl) 0 rfl rfl ?_
          refine w_iload_n (pc := 88) hX dX7_cellOf_88 rfl rfl ?_
          obtain ⟨r7, hr7, hm⟩ := bnd hm
          refine w_calldv (pc := 89) (ws' := wX7 G a m_hasSnapshot ++ wX3 G (a 1) v_o1 ++ wX6 G (a 5) r7 ++ wX6 G (a 6) v_o6 ++ wX6 G (a 7) v_o7 ++ wX5 G (a 8) v_o8) (os := [none, some 5, some 6, some 7, some 8, some 9, some 0, some 1, some 2, some 3, some 4, none, none, none, none, none, none, none, none, none, none, none, none, none]) 24 hX [6, 7, 8, 9, 10, 1, 2, 3, 4, 5] (runV (rest := []) hX [6, 7, 8, 9, 10, 1, 2, 3, 4, 5] (ctX6_findFrom G F (a 5) (a 1) v_o5 v_o1 g1 r7 hr7) dX7_cellOf_89 2 gX7_cellOf_X6_findFrom rfl hyX6_findFrom ⟨Nat.le_of_ble_eq_true rfl, Nat.le_of_ble_eq_true rfl⟩ 6 rfl rfl rfl rfl (Nat.le_of_ble_eq_true rfl) ⟨Nat.le_of_ble_eq_true rfl, Nat.le_of_ble_eq_true rfl⟩ rfl (by decide +kernel)) rfl rfl rfl (by decide +kernel) rfl ⟨rfl, rfl⟩ ?_
          refine w_aload_n (pc := 92) hX dX7_cellOf_92 rfl rfl ?_
          refine gf_X7_ways (pc := 93) hX dX7_cellOf_93 hX7 (List.mem_of_getElem? (i := 4) rfl) 0 rfl rfl ?_
          obtain ⟨r8, hr8, hm⟩ := bnd hm
          refine w_callpi (pc := 96) hX [6, 7, 8, 9, 10] (runV (rest := []) hX [6, 7, 8, 9, 10] (ctX6_lowestCell G F (a 5) r7 r8 hr8) dX7_cellOf_96 0 gX7_cellOf_X6_lowestCell rfl hyX6_lowestCell ⟨Nat.le_of_ble_eq_true rfl, Nat.le_of_ble_eq_true rfl⟩ 6 rfl rfl rfl rfl (Nat.le_of_ble_eq_true rfl) ⟨Nat.le_of_ble_eq_true rfl, Nat.le_of_ble_eq_true rfl⟩ rfl (by decide +kernel)) rfl ⟨rfl, rfl⟩ ?_
          obtain rfl := som hm
          exact w_iret (pc := 99) hX hR dX7_cellOf_99 ⟨rfl, rfl⟩
        ·
          replace hm := ite_f hm hc6
          rcases Decidable.em (g2 = (3 : Int32)) with hc9 | hc9
          ·
            replace hm := ite_t hm hc9
            refine w_tabIn (pc := 14) (tgt := 100) hX dX7_cellOf_14 3 (by rw [hc9]; decide) (by decide) (by decide) rfl (by decide) ?_
            refine w_aload_n (pc := 100) hX dX7_cellOf_100 rfl rfl ?_
            refine gf_X7_ways (pc := 101) hX dX7_cellOf_101 hX7 (List.mem_of_getElem? (i := 4) rfl) 0 rfl rfl ?_
            refine w_aload_n (pc := 104) hX dX7_cellOf_104 rfl rfl ?_
            refine gf_X7_maze (pc := 105) hX dX7_cellOf_105 hX7 (List.mem_of_getElem? (i := 1) rfl) 0 rfl rfl ?_
            refine w_iload_n (pc := 108) hX dX7_cellOf_108 rfl rfl ?_
            obtain ⟨r10, hr10, hm⟩ := bnd hm
            refine w_calldv (pc := 109) (ws' := wX7 G a m_hasSnapshot ++ wX3 G (a 1) v_o1 ++ wX6 G (a 5) r10 ++ wX6 G (a 6) v_o6 ++ wX6 G (a 7) v_o7 ++ wX5 G (a 8) v_o8) (os := [none, some 5, some 6, some 7, some 8, some 9, some 0, some 1, some 2, some 3, some 4, none, none, none, none, none, none, none, none, none, none, none, none, none]) 24 hX [6, 7, 8, 9, 10, 1, 2, 3, 4, 5] (runV (rest := []) hX [6, 7, 8, 9, 10, 1, 2, 3, 4, 5] (ctX6_findFrom G F (a 5) (a 1) v_o5 v_o1 g1 r10 hr10) dX7_cellOf_109 2 gX7_cellOf_X6_findFrom rfl hyX6_findFrom ⟨Nat.le_of_ble_eq_true rfl, Nat.le_of_ble_eq_true rfl⟩ 6 rfl rfl rfl rfl (Nat.le_of_ble_eq_true rfl) ⟨Nat.le_of_ble_eq_true rfl, Nat.le_of_ble_eq_true rfl⟩ rfl (by decide +kernel)) rfl rfl rfl (by decide +kernel) rfl ⟨rfl, rfl⟩ ?_
            refine w_aload_n (pc := 112) hX dX7_cellOf_112 rfl rfl ?_
            refine gf_X7_ways (pc := 113) hX dX7_cellOf_113 hX7 (List.mem_of_getElem? (i := 4) rfl) 0 rfl rfl ?_
            refine gf_X6_cells (pc := 116) hX dX7_cellOf_116 hX6 (List.mem_of_getElem? (i := 5) rfl) 6 rfl rfl ?_
            obtain rfl := som hm
            exact w_iret (pc := 119) hX hR dX7_cellOf_119 ⟨rfl, rfl⟩
          ·
            replace hm := ite_f hm hc9
            rcases Decidable.em (g2 = (4 : Int32)) with hc11 | hc11
            ·
              replace hm := ite_t hm hc11
              refine w_tabIn (pc := 14) (tgt := 120) hX dX7_cellOf_14 4 (by rw [hc11]; decide) (by decide) (by decide) rfl (by decide) ?_
              refine w_aload_n (pc := 120) hX dX7_cellOf_120 rfl rfl ?_
              refine w_aload_n (pc := 121) hX dX7_cellOf_121 rfl rfl ?_
              refine gf_X7_maze (pc := 122) hX dX7_cellOf_122 hX7 (List.mem_of_getElem? (i := 1) rfl) 0 rfl rfl ?_
              obtain ⟨r12, hr12, hm⟩ := bnd hm
              refine w_callpi (pc := 125) hX [1, 2, 3, 4, 5] (runV (rest := [.ref (a 0 0)]) hX [1, 2, 3, 4, 5] (ctX3_entryCell G (a 1) v_o1 r12 hr12) dX7_cellOf_125 0 gX7_cellOf_X3_entryCell rfl hyX3_entryCell ⟨Nat.le_of_ble_eq_true rfl, Nat.le_of_ble_eq_true rfl⟩ 1 rfl rfl rfl rfl (Nat.le_of_ble_eq_true rfl) ⟨Nat.le_of_ble_eq_true rfl, Nat.le_of_ble_eq_true rfl⟩ rfl (by decide +kernel)) rfl ⟨rfl, rfl⟩ ?_
              refine w_iload_n (pc := 128) hX dX7_cellOf_128 rfl rfl ?_
              obtain ⟨r13, hr13, hm⟩ := bnd hm
              refine w_calldi (pc := 129) (ws' := wX7 G a m_hasSnapshot ++ wX3 G (a 1) v_o1 ++ wX6 G (a 5) r13.2 ++ wX6 G (a 6) v_o6 ++ wX6 G (a 7) v_o7 ++ wX5 G (a 8) v_o8) (os := [some 0, some 1, some 2, some 3, some 4, some 5, some 6, some 7, some 8, some 9, some 10, none, none, none, none, none, none, none, none, none, none, none, none, none]) 24 hX [0, 1, 2, 3, 4, 5, 6, 7, 8, 9, 10] (runV (rest := []) hX [0, 1, 2, 3, 4, 5, 6, 7, 8, 9, 10] (ctX7_between G F a m_hasSnapshot v_o1 v_o5 r12 g1 r13 hr13) dX7_cellOf_129 2 gX7_cellOf_X7_between rfl hyX7_between ⟨Nat.le_of_ble_eq_true rfl, Nat.le_of_ble_eq_true rfl⟩ 0 rfl rfl rfl rfl (Nat.le_of_ble_eq_true rfl) ⟨Nat.le_of_ble_eq_true rfl, Nat.le_of_ble_eq_true rfl⟩ rfl (by decide +kernel)) rfl rfl rfl (by decide +kernel) rfl ⟨rfl, rfl⟩ ?_
              obtain rfl := som hm
              exact w_iret (pc := 132) hX hR dX7_cellOf_132 ⟨rfl, rfl⟩
            ·
              replace hm := ite_f hm hc11
              rcases Decidable.em (g2 = (5 : Int32)) with hc14 | hc14
              ·
                replace hm := ite_t hm hc14
                refine w_tabIn (pc := 14) (tgt := 133) hX dX7_cellOf_14 5 (by rw [hc14]; decide) (by decide) (by decide) rfl (by decide) ?_
                refine w_aload_n (pc := 133) hX dX7_cellOf_133 rfl rfl ?_
                refine w_iload_n (pc := 134) hX dX7_cellOf_134 rfl rfl ?_
                obtain ⟨r15, hr15, hm⟩ := bnd hm
                refine w_calldi (pc := 135) (ws' := wX7 G a m_hasSnapshot ++ wX3 G (a 1) v_o1 ++ wX6 G (a 5) v_o5 ++ wX6 G (a 6) r15.2.1 ++ wX6 G (a 7) r15.2.2 ++ wX5 G (a 8) v_o8) (os := [some 0, some 1, some 2, some 3, some 4, some 5, none, none, none, none, none, some 6, some 7, some 8, some 9, some 10, some 11, some 12, some 13, some 14, some 15, none, none, none]) 24 hX [0, 1, 2, 3, 4, 5, 11, 12, 13, 14, 15, 16, 17, 18, 19, 20] (runV (rest := []) hX [0, 1, 2, 3, 4, 5, 11, 12, 13, 14, 15, 16, 17, 18, 19, 20] (ctX7_isOnWay G F a m_hasSnapshot v_o1 v_o6 v_o7 g1 r15 hr15) dX7_cellOf_135 1 gX7_cellOf_X7_isOnWay rfl hyX7_isOnWay ⟨Nat.le_of_ble_eq_true rfl, Nat.le_of_ble_eq_true rfl⟩ 0 rfl rfl rfl rfl (Nat.le_of_ble_eq_true rfl) ⟨Nat.le_of_ble_eq_true rfl, Nat.le_of_ble_eq_true rfl⟩ rfl (by decide +kernel)) rfl rfl rfl (by decide +kernel) rfl ⟨rfl, rfl⟩ ?_
                refine w_jn (T := fun x16 : Int32 => WW G X 0 0 (wX7 G a m_hasSnapshot ++ wX3 G (a 1) v_o1 ++ wX6 G (a 5) v_o5 ++ wX6 G (a 6) r15.2.1 ++ wX6 G (a 7) r15.2.2 ++ wX5 G (a 8) v_o8) [none, none, none] 146 [.int x16]) hm (fun x16 hm => ?_) (fun j17 hj17 hm => ?_)
                ·
                  obtain rfl := som hm
                  exact w_iret (pc := 146) hX hR dX7_cellOf_146 ⟨rfl, rfl⟩
                ·
                  refine w_if_eq (pc := 138) (tgt := 145) hX dX7_cellOf_138 (by decide) hm (fun hm => ?_) (fun hm => ?_)
                  ·
                    refine w_iconst (pc := 145) hX dX7_cellOf_145 ic_0 ?_
                    exact w_lvs [false, false, false] (hj17 (0 : Int32) hm)
                  ·
                    refine w_iconst (pc := 141) hX dX7_cellOf_141 ic_1 ?_
                    refine w_goto (pc := 142) (tgt := 146) hX dX7_cellOf_142 (by decide) ?_
                    exact w_lvs [false, false, false] (hj17 (1 : Int32) hm)
              ·
                replace hm := ite_f hm hc14
                rcases Decidable.em (g2 = (6 : Int32)) with hc18 | hc18
                ·
                  replace hm := ite_t hm hc18
                  refine w_tabIn (pc := 14) (tgt := 147) hX dX7_cellOf_14 6 (by rw [hc18]; decide) (by decide) (by decide) rfl (by decide) ?_
                  refine w_aload_n (pc := 147) hX dX7_cellOf_147 rfl rfl ?_
                  refine gf_X7_walk (pc := 148) hX dX7_cellOf_148 hX7 (List.mem_of_getElem? (i := 6) rfl) 0 rfl rfl ?_
                  refine w_aload_n (pc := 151) hX dX7_cellOf_151 rfl rfl ?_
                  refine gf_X7_maze (pc := 152) hX dX7_cellOf_152 hX7 (List.mem_of_getElem? (i := 1) rfl) 0 rfl rfl ?_
                  obtain ⟨r19, hr19, hm⟩ := bnd hm
                  refine w_calldv (pc := 155) (ws' := wX7 G a m_hasSnapshot ++ wX3 G (a 1) v_o1 ++ wX6 G (a 5) v_o5 ++ wX6 G (a 6) v_o6 ++ wX6 G (a 7) v_o7 ++ wX5 G (a 8) r19) (os := [none, some 3, some 4, some 5, some 6, some 7, none, none, none, none, none, none, none, none, none, none, none, none, none, none, none, some 0, some 1, some 2]) 24 hX [21, 22, 23, 1, 2, 3, 4, 5] (runV (rest := []) hX [21, 22, 23, 1, 2, 3, 4, 5] (ctX5_take G F (a 8) (a 1) v_o8 v_o1 r19 hr19) dX7_cellOf_155 1 gX7_cellOf_X5_take rfl hyX5_take ⟨Nat.le_of_ble_eq_true rfl, Nat.le_of_ble_eq_true rfl⟩ 21 rfl rfl rfl rfl (Nat.le_of_ble_eq_true rfl) ⟨Nat.le_of_ble_eq_true rfl, Nat.le_of_ble_eq_true rfl⟩ rfl (by decide +kernel)) rfl rfl rfl (by decide +kernel) rfl ⟨rfl, rfl⟩ ?_
                  refine w_aload_n (pc := 158) hX dX7_cellOf_158 rfl rfl ?_
                  refine gf_X7_walk (pc := 159) hX dX7_cellOf_159 hX7 (List.mem_of_getElem? (i := 6) rfl) 0 rfl rfl ?_
                  refine gf_X5_failed (pc := 162) hX dX7_cellOf_162 hX5 (List.mem_of_getElem? (i := 7) rfl) 21 rfl rfl ?_
                  refine w_jn (T := fun x20 : Int32 => WW G X 0 0 (wX7 G a m_hasSnapshot ++ wX3 G (a 1) v_o1 ++ wX6 G (a 5) v_o5 ++ wX6 G (a 6) v_o6 ++ wX6 G (a 7) v_o7 ++ wX5 G (a 8) r19) [none, none, none] 184 [.int x20]) hm (fun x20 hm => ?_) (fun j21 hj21 hm => ?_)
                  ·
                    obtain rfl := som hm
                    exact w_iret (pc := 184) hX hR dX7_cellOf_184 ⟨rfl, rfl⟩
                  ·
                    refine w_if_eq (pc := 165) (tgt := 173) hX dX7_cellOf_165 (by decide) hm (fun hm => ?_) (fun hm => ?_)
                    ·
                      refine w_aload_n (pc := 173) hX dX7_cellOf_173 rfl rfl ?_
                      refine gf_X7_walk (pc := 174) hX dX7_cellOf_174 hX7 (List.mem_of_getElem? (i := 6) rfl) 0 rfl rfl ?_
                      refine gf_X5_visits (pc := 177) hX dX7_cellOf_177 hX5 (List.mem_of_getElem? (i := 8) rfl) 21 rfl rfl ?_
                      refine w_iload_n (pc := 180) hX dX7_cellOf_180 rfl rfl ?_
                      obtain ⟨r22, hr22, hm⟩ := bnd hm
                      refine w_callpi (pc := 181) hX [22] (runS (rest := []) hX [22] (ctX7_at G (a 8 1) 36 r19.2.2.1 g1 r22 hr22) dX7_cellOf_181 2 gX7_cellOf_X7_at rfl hyX7_at.2 ⟨Nat.le_of_ble_eq_true rfl, Nat.le_of_ble_eq_true rfl⟩ rfl rfl (Nat.le_of_ble_eq_true rfl) ⟨Nat.le_of_ble_eq_true rfl, Nat.le_of_ble_eq_true rfl⟩ rfl (by decide +kernel)) rfl ⟨rfl, rfl⟩ ?_
                      exact w_lvs [false, false, false] (hj21 r22 hm)
                    ·
                      refine w_bipush (pc := 168) hX dX7_cellOf_168 bp_m4 ?_
                      refine w_goto (pc := 170) (tgt := 184) hX dX7_cellOf_170 (by decide) ?_
                      exact w_lvs [false, false, false] (hj21 (-4 : Int32) hm)
                ·
                  replace hm := ite_f hm hc18
                  refine w_tabOut (pc := 14) (tgt := 185) hX dX7_cellOf_14 (tsw_out (n := 6) (fun i hi => by rcases (show i = 0 ∨ i = 1 ∨ i = 2 ∨ i = 3 ∨ i = 4 ∨ i = 5 ∨ i = 6 by omega) with rfl | rfl | rfl | rfl | rfl | rfl | rfl <;> assumption)) (by decide) ?_
                  refine w_iconst (pc := 185) hX dX7_cellOf_185 ic_m1 ?_
                  obtain rfl := som hm
                  exact w_iret (pc := 186) hX hR dX7_cellOf_186 ⟨rfl, rfl⟩
  ·
    refine w_iconst (pc := 11) hX dX7_cellOf_11 ic_m1 ?_
    obtain rfl := som hm
    exact w_iret (pc := 12) hX hR dX7_cellOf_12 ⟨rfl, rfl⟩

theorem lX7_doorOf_X3 : ∀ w ∈ wsX30, w ∈ wsX7_doorOf := in_at [22, 23, 24, 25, 26, 27] (by decide +kernel)
theorem lX7_doorOf_X7 : ∀ w ∈ wsX70, w ∈ wsX7_doorOf := in_at [11, 12, 13, 14, 15, 16, 17, 18, 19, 20, 21] (by decide +kernel)
set_option maxHeartbeats 4000000 in
set_option maxRecDepth 100000 in
theorem ctX7_doorOf (G : gT) (a : Nat → Nat → Nat) (m_hasSnapshot : Int32) (v_o1 : MZ) (g1 : Int32) (g2 : Int32) (o : Int32) (hm : mX7_doorOf v_o1 g1 g2 = some o) : CT G yX7_doorOf wsX7_doorOf rmX7_doorOf [.ref (a 0 0), .int g1, .int g2] (wX7 G a m_hasSnapshot ++ wX3 G (a 1) v_o1) (fun v w => v = some (.int o) ∧ w = wX7 G a m_hasSnapshot ++ wX3 G (a 1) v_o1) := by
  refine CT_of (cc := cX7_doorOf) (maxL := 3) (ret := (some .int)) 0 (by decide +kernel) rfl rfl (cat_ok rfl) (fun X hX hR hN => ?_)
  have hX : Ok G X cX7_doorOf RX7 wsX7_doorOf 3 rmX7_doorOf := hX
  have hX3 : ∀ w ∈ wsX30, w ∈ wsX7_doorOf := lX7_doorOf_X3
  have hX7 : ∀ w ∈ wsX70, w ∈ wsX7_doorOf := lX7_doorOf_X7
  unfold mX7_doorOf at hm
  refine w_iload_n (pc := 0) hX dX7_doorOf_0 rfl rfl ?_
  obtain ⟨r1, hr1, hm⟩ := bnd hm
  refine w_callpi (pc := 1) hX [] (runS (rest := []) hX [] (ctX7_isDoor G g1 r1 hr1) dX7_doorOf_1 1 gX7_doorOf_X7_isDoor rfl hyX7_isDoor.2 ⟨Nat.le_of_ble_eq_true rfl, Nat.le_of_ble_eq_true rfl⟩ rfl rfl (Nat.le_of_ble_eq_true rfl) ⟨Nat.le_of_ble_eq_true rfl, Nat.le_of_ble_eq_true rfl⟩ rfl (by decide +kernel)) rfl ⟨rfl, rfl⟩ ?_
  refine w_if_ne (pc := 4) (tgt := 9) hX dX7_doorOf_4 (by decide) hm (fun hm => ?_) (fun hm => ?_)
  ·
    refine w_iload_n (pc := 9) hX dX7_doorOf_9 rfl rfl ?_
    rcases Decidable.em (g2 = (0 : Int32)) with hc2 | hc2
    ·
      replace hm := ite_t hm hc2
      refine w_lkp (pc := 10) (tgt := 36) (off := 26) hX dX7_doorOf_10 (by decide) (by rw [hc2]; decide) (by decide) ?_
      refine w_aload_n (pc := 36) hX dX7_doorOf_36 rfl rfl ?_
      refine gf_X7_maze (pc := 37) hX dX7_doorOf_37 hX7 (List.mem_of_getElem? (i := 1) rfl) 0 rfl rfl ?_
      refine gf_X3_doorCells (pc := 40) hX dX7_doorOf_40 hX3 (List.mem_of_getElem? (i := 2) rfl) 1 rfl rfl ?_
      refine w_iload_n (pc := 43) hX dX7_doorOf_43 rfl rfl ?_
      obtain ⟨r3, hr3, hm⟩ := bnd hm
      refine w_callpi (pc := 44) hX [4] (runS (rest := []) hX [4] (ctX7_at G (a 1 3) 2 v_o1.2.2.2.2.1 g1 r3 hr3) dX7_doorOf_44 2 gX7_doorOf_X7_at rfl hyX7_at.2 ⟨Nat.le_of_ble_eq_true rfl, Nat.le_of_ble_eq_true rfl⟩ rfl rfl (Nat.le_of_ble_eq_true rfl) ⟨Nat.le_of_ble_eq_true rfl, Nat.le_of_ble_eq_true rfl⟩ rfl (by decide +kernel)) rfl ⟨rfl, rfl⟩ ?_
      obtain rfl := som hm
      exact w_iret (pc := 47) hX hR dX7_doorOf_47 ⟨rfl, rfl⟩
    ·
      replace hm := ite_f hm hc2
      rcases Decidable.em (g2 = (1 : Int32)) with hc4 | hc4
      ·
        replace hm := ite_t hm hc4
        refine w_lkp (pc := 10) (tgt := 48) (off := 38) hX dX7_doorOf_10 (by decide) (by rw [hc4]; decide) (by decide) ?_
        refine w_aload_n (pc := 48) hX dX7_doorOf_48 rfl rfl ?_
        refine gf_X7_maze (pc := 49) hX dX7_doorOf_49 hX7 (List.mem_of_getElem? (i := 1) rfl) 0 rfl rfl ?_
        refine gf_X3_doorSides (pc := 52) hX dX7_doorOf_52 hX3 (List.mem_of_getElem? (i := 3) rfl) 1 rfl rfl ?_
        refine w_iload_n (pc := 55) hX dX7_doorOf_55 rfl rfl ?_
        obtain ⟨r5, hr5, hm⟩ := bnd hm
        refine w_callpi (pc := 56) hX [5] (runS (rest := []) hX [5] (ctX7_at G (a 1 4) 2 v_o1.2.2.2.2.2 g1 r5 hr5) dX7_doorOf_56 2 gX7_doorOf_X7_at rfl hyX7_at.2 ⟨Nat.le_of_ble_eq_true rfl, Nat.le_of_ble_eq_true rfl⟩ rfl rfl (Nat.le_of_ble_eq_true rfl) ⟨Nat.le_of_ble_eq_true rfl, Nat.le_of_ble_eq_true rfl⟩ rfl (by decide +kernel)) rfl ⟨rfl, rfl⟩ ?_
        obtain rfl := som hm
        exact w_iret (pc := 59) hX hR dX7_doorOf_59 ⟨rfl, rfl⟩
      ·
        replace hm := ite_f hm hc4
        refine w_lkp (pc := 10) (tgt := 60) (off := 50) hX dX7_doorOf_10 (by decide) (lkp_out hc2 hc4) (by decide) ?_
        refine w_iconst (pc := 60) hX dX7_doorOf_60 ic_m1 ?_
        obtain rfl := som hm
        exact w_iret (pc := 61) hX hR dX7_doorOf_61 ⟨rfl, rfl⟩
  ·
    refine w_iconst (pc := 7) hX dX7_doorOf_7 ic_m1 ?_
    obtain rfl := som hm
    exact w_iret (pc := 8) hX hR dX7_doorOf_8 ⟨rfl, rfl⟩

theorem lX7_count_X2 : ∀ w ∈ wsX20, w ∈ wsX7_count := in_at [67, 68] (by decide +kernel)
theorem lX7_count_X3 : ∀ w ∈ wsX30, w ∈ wsX7_count := in_at [61, 62, 63, 64, 65, 66] (by decide +kernel)
theorem lX7_count_X4 : ∀ w ∈ wsX40, w ∈ wsX7_count := in_at [69, 70, 71, 72, 73, 74, 75] (by decide +kernel)
theorem lX7_count_X7 : ∀ w ∈ wsX70, w ∈ wsX7_count := in_at [50, 51, 52, 53, 54, 55, 56, 57, 58, 59, 60] (by decide +kernel)
set_option maxHeartbeats 4000000 in
set_option maxRecDepth 100000 in
theorem ctX7_count (G : gT) (F : Nat) (a : Nat → Nat → Nat) (m_hasSnapshot : Int32) (v_o1 : MZ) (v_o3 : HS) (v_o4 : PT) (g1 : Int32) (o : Int32) (hm : mX7_count F m_hasSnapshot v_o1 v_o3 v_o4 g1 = some o) : CT G yX7_count wsX7_count rmX7_count [.ref (a 0 0), .int g1] (wX7 G a m_hasSnapshot ++ wX3 G (a 1) v_o1 ++ wX2 G a v_o3 ++ wX4 G (a 4) v_o4) (fun v w => v = some (.int o) ∧ w = wX7 G a m_hasSnapshot ++ wX3 G (a 1) v_o1 ++ wX2 G a v_o3 ++ wX4 G (a 4) v_o4) := by
  refine CT_of (cc := cX7_count) (maxL := 2) (ret := (some .int)) 0 (by decide +kernel) rfl rfl (cat_ok rfl) (fun X hX hR hN => ?_)
  have hX : Ok G X cX7_count RX7 wsX7_count 2 rmX7_count := hX
  have hX2 : ∀ w ∈ wsX20, w ∈ wsX7_count := lX7_count_X2
  have hX3 : ∀ w ∈ wsX30, w ∈ wsX7_count := lX7_count_X3
  have hX4 : ∀ w ∈ wsX40, w ∈ wsX7_count := lX7_count_X4
  have hX7 : ∀ w ∈ wsX70, w ∈ wsX7_count := lX7_count_X7
  unfold mX7_count at hm
  refine w_iload_n (pc := 0) hX dX7_count_0 rfl rfl ?_
  rcases Decidable.em (g1 = (0 : Int32)) with hc1 | hc1
  ·
    replace hm := ite_t hm hc1
    refine w_tabIn (pc := 1) (tgt := 56) hX dX7_count_1 0 (by rw [hc1]; decide) (by decide) (by decide) rfl (by decide) ?_
    refine w_aload_n (pc := 56) hX dX7_count_56 rfl rfl ?_
    refine gf_X7_maze (pc := 57) hX dX7_count_57 hX7 (List.mem_of_getElem? (i := 1) rfl) 0 rfl rfl ?_
    refine gf_X3_columns (pc := 60) hX dX7_count_60 hX3 (List.mem_of_getElem? (i := 2) rfl) 1 rfl rfl ?_
    obtain rfl := som hm
    exact w_iret (pc := 63) hX hR dX7_count_63 ⟨rfl, rfl⟩
  ·
    replace hm := ite_f hm hc1
    rcases Decidable.em (g1 = (1 : Int32)) with hc2 | hc2
    ·
      replace hm := ite_t hm hc2
      refine w_tabIn (pc := 1) (tgt := 64) hX dX7_count_1 1 (by rw [hc2]; decide) (by decide) (by decide) rfl (by decide) ?_
      refine w_aload_n (pc := 64) hX dX7_count_64 rfl rfl ?_
      refine gf_X7_maze (pc := 65) hX dX7_count_65 hX7 (List.mem_of_getElem? (i := 1) rfl) 0 rfl rfl ?_
      refine gf_X3_rows (pc := 68) hX dX7_count_68 hX3 (List.mem_of_getElem? (i := 3) rfl) 1 rfl rfl ?_
      obtain rfl := som hm
      exact w_iret (pc := 71) hX hR dX7_count_71 ⟨rfl, rfl⟩
    ·
      replace hm := ite_f hm hc2
      rcases Decidable.em (g1 = (2 : Int32)) with hc3 | hc3
      ·
        replace hm := ite_t hm hc3
        refine w_tabIn (pc := 1) (tgt := 72) hX dX7_count_1 2 (by rw [hc3]; decide) (by decide) (by decide) rfl (by decide) ?_
        refine w_aload_n (pc := 72) hX dX7_count_72 rfl rfl ?_
        refine gf_X7_maze (pc := 73) hX dX7_count_73 hX7 (List.mem_of_getElem? (i := 1) rfl) 0 rfl rfl ?_
        obtain ⟨r4, hr4, hm⟩ := bnd hm
        refine w_callpi (pc := 76) hX [1, 2, 3, 4, 5] (runV (rest := []) hX [1, 2, 3, 4, 5] (ctX3_passageCount G F (a 1) v_o1 r4 hr4) dX7_count_76 0 gX7_count_X3_passageCount rfl hyX3_passageCount ⟨Nat.le_of_ble_eq_true rfl, Nat.le_of_ble_eq_true rfl⟩ 1 rfl rfl rfl rfl (Nat.le_of_ble_eq_true rfl) ⟨Nat.le_of_ble_eq_true rfl, Nat.le_of_ble_eq_true rfl⟩ rfl (by decide +kernel)) rfl ⟨rfl, rfl⟩ ?_
        obtain rfl := som hm
        exact w_iret (pc := 79) hX hR dX7_count_79 ⟨rfl, rfl⟩
      ·
        replace hm := ite_f hm hc3
        rcases Decidable.em (g1 = (3 : Int32)) with hc5 | hc5
        ·
          replace hm := ite_t hm hc5
          refine w_tabIn (pc := 1) (tgt := 80) hX dX7_count_1 3 (by rw [hc5]; decide) (by decide) (by decide) rfl (by decide) ?_
          refine w_aload_n (pc := 80) hX dX7_count_80 rfl rfl ?_
          refine gf_X7_maze (pc := 81) hX dX7_count_81 hX7 (List.mem_of_getElem? (i := 1) rfl) 0 rfl rfl ?_
          obtain ⟨r6, hr6, hm⟩ := bnd hm
          refine w_callpi (pc := 84) hX [1, 2, 3, 4, 5] (runV (rest := []) hX [1, 2, 3, 4, 5] (ctX3_parts G F (a 1) v_o1 r6 hr6) dX7_count_84 0 gX7_count_X3_parts rfl hyX3_parts ⟨Nat.le_of_ble_eq_true rfl, Nat.le_of_ble_eq_true rfl⟩ 1 rfl rfl rfl rfl (Nat.le_of_ble_eq_true rfl) ⟨Nat.le_of_ble_eq_true rfl, Nat.le_of_ble_eq_true rfl⟩ rfl (by decide +kernel)) rfl ⟨rfl, rfl⟩ ?_
          obtain rfl := som hm
          exact w_iret (pc := 87) hX hR dX7_count_87 ⟨rfl, rfl⟩
        ·
          replace hm := ite_f hm hc5
          rcases Decidable.em (g1 = (4 : Int32)) with hc7 | hc7
          ·
            replace hm := ite_t hm hc7
            refine w_tabIn (pc := 1) (tgt := 88) hX dX7_count_1 4 (by rw [hc7]; decide) (by decide) (by decide) rfl (by decide) ?_
            refine w_aload_n (pc := 88) hX dX7_count_88 rfl rfl ?_
            refine gf_X7_maze (pc := 89) hX dX7_count_89 hX7 (List.mem_of_getElem? (i := 1) rfl) 0 rfl rfl ?_
            obtain ⟨r8, hr8, hm⟩ := bnd hm
            refine w_callpi (pc := 92) hX [1, 2, 3, 4, 5] (runV (rest := []) hX [1, 2, 3, 4, 5] (ctX3_isWhole G F (a 1) v_o1 r8 hr8) dX7_count_92 0 gX7_count_X3_isWhole rfl hyX3_isWhole ⟨Nat.le_of_ble_eq_true rfl, Nat.le_of_ble_eq_true rfl⟩ 1 rfl rfl rfl rfl (Nat.le_of_ble_eq_true rfl) ⟨Nat.le_of_ble_eq_true rfl, Nat.le_of_ble_eq_true rfl⟩ rfl (by decide +kernel)) rfl ⟨rfl, rfl⟩ ?_
            refine w_jn (T := fun x9 : Int32 => WW G X 0 0 (wX7 G a m_hasSnapshot ++ wX3 G (a 1) v_o1 ++ wX2 G a v_o3 ++ wX4 G (a 4) v_o4) [none, none] 103 [.int x9]) hm (fun x9 hm => ?_) (fun j10 hj10 hm => ?_)
            ·
              obtain rfl := som hm
              exact w_iret (pc := 103) hX hR dX7_count_103 ⟨rfl, rfl⟩
            ·
              refine w_if_eq (pc := 95) (tgt := 102) hX dX7_count_95 (by decide) hm (fun hm => ?_) (fun hm => ?_)
              ·
                refine w_iconst (pc := 102) hX dX7_count_102 ic_0 ?_
                exact w_lvs [false, false] (hj10 (0 : Int32) hm)
              ·
                refine w_iconst (pc := 98) hX dX7_count_98 ic_1 ?_
                refine w_goto (pc := 99) (tgt := 103) hX dX7_count_99 (by decide) ?_
                exact w_lvs [false, false] (hj10 (1 : Int32) hm)
          ·
            replace hm := ite_f hm hc7
            rcases Decidable.em (g1 = (5 : Int32)) with hc11 | hc11
            ·
              replace hm := ite_t hm hc11
              refine w_tabIn (pc := 1) (tgt := 104) hX dX7_count_1 5 (by rw [hc11]; decide) (by decide) (by decide) rfl (by decide) ?_
              refine w_aload_n (pc := 104) hX dX7_count_104 rfl rfl ?_
              refine gf_X7_maze (pc := 105) hX dX7_count_105 hX7 (List.mem_of_getElem? (i := 1) rfl) 0 rfl rfl ?_
              obtain ⟨r12, hr12, hm⟩ := bnd hm
              refine w_callpi (pc := 108) hX [1, 2, 3, 4, 5] (runV (rest := []) hX [1, 2, 3, 4, 5] (ctX3_deadEnds G F (a 1) v_o1 r12 hr12) dX7_count_108 0 gX7_count_X3_deadEnds rfl hyX3_deadEnds ⟨Nat.le_of_ble_eq_true rfl, Nat.le_of_ble_eq_true rfl⟩ 1 rfl rfl rfl rfl (Nat.le_of_ble_eq_true rfl) ⟨Nat.le_of_ble_eq_true rfl, Nat.le_of_ble_eq_true rfl⟩ rfl (by decide +kernel)) rfl ⟨rfl, rfl⟩ ?_
              obtain rfl := som hm
              exact w_iret (pc := 111) hX hR dX7_count_111 ⟨rfl, rfl⟩
            ·
              replace hm := ite_f hm hc11
              rcases Decidable.em (g1 = (6 : Int32)) with hc13 | hc13
              ·
                replace hm := ite_t hm hc13
                refine w_tabIn (pc := 1) (tgt := 112) hX dX7_count_1 6 (by rw [hc13]; decide) (by decide) (by decide) rfl (by decide) ?_
                refine w_aload_n (pc := 112) hX dX7_count_112 rfl rfl ?_
                refine gf_X7_maze (pc := 113) hX dX7_count_113 hX7 (List.mem_of_getElem? (i := 1) rfl) 0 rfl rfl ?_
                obtain ⟨r14, hr14, hm⟩ := bnd hm
                refine w_callpi (pc := 116) hX [1, 2, 3, 4, 5] (runV (rest := []) hX [1, 2, 3, 4, 5] (ctX3_toneSum G F (a 1) v_o1 r14 hr14) dX7_count_116 0 gX7_count_X3_toneSum rfl hyX3_toneSum ⟨Nat.le_of_ble_eq_true rfl, Nat.le_of_ble_eq_true rfl⟩ 1 rfl rfl rfl rfl (Nat.le_of_ble_eq_true rfl) ⟨Nat.le_of_ble_eq_true rfl, Nat.le_of_ble_eq_true rfl⟩ rfl (by decide +kernel)) rfl ⟨rfl, rfl⟩ ?_
                obtain rfl := som hm
                exact w_iret (pc := 119) hX hR dX7_count_119 ⟨rfl, rfl⟩
              ·
                replace hm := ite_f hm hc13
                rcases Decidable.em (g1 = (7 : Int32)) with hc15 | hc15
                ·
                  replace hm := ite_t hm hc15
                  refine w_tabIn (pc := 1) (tgt := 120) hX dX7_count_1 7 (by rw [hc15]; decide) (by decide) (by decide) rfl (by decide) ?_
                  refine w_aload_n (pc := 120) hX dX7_count_120 rfl rfl ?_
                  refine gf_X7_history (pc := 121) hX dX7_count_121 hX7 (List.mem_of_getElem? (i := 4) rfl) 0 rfl rfl ?_
                  refine gf_X2_states (pc := 124) hX dX7_count_124 hX2 (List.mem_of_getElem? (i := 5) rfl) 6 rfl rfl ?_
                  obtain rfl := som hm
                  exact w_iret (pc := 127) hX hR dX7_count_127 ⟨rfl, rfl⟩
                ·
                  replace hm := ite_f hm hc15
                  rcases Decidable.em (g1 = (8 : Int32)) with hc16 | hc16
                  ·
                    replace hm := ite_t hm hc16
                    refine w_tabIn (pc := 1) (tgt := 128) hX dX7_count_1 8 (by rw [hc16]; decide) (by decide) (by decide) rfl (by decide) ?_
                    refine w_aload_n (pc := 128) hX dX7_count_128 rfl rfl ?_
                    refine gf_X7_text (pc := 129) hX dX7_count_129 hX7 (List.mem_of_getElem? (i := 6) rfl) 0 rfl rfl ?_
                    refine gf_X4_length (pc := 132) hX dX7_count_132 hX4 (List.mem_of_getElem? (i := 7) rfl) 28 rfl rfl ?_
                    obtain rfl := som hm
                    exact w_iret (pc := 135) hX hR dX7_count_135 ⟨rfl, rfl⟩
                  ·
                    replace hm := ite_f hm hc16
                    rcases Decidable.em (g1 = (9 : Int32)) with hc17 | hc17
                    ·
                      replace hm := ite_t hm hc17
                      refine w_tabIn (pc := 1) (tgt := 136) hX dX7_count_1 9 (by rw [hc17]; decide) (by decide) (by decide) rfl (by decide) ?_
                      refine w_aload_n (pc := 136) hX dX7_count_136 rfl rfl ?_
                      refine gf_X7_hasSnapshot (pc := 137) hX dX7_count_137 hX7 (List.mem_of_getElem? (i := 8) rfl) 0 rfl rfl ?_
                      refine w_jn (T := fun x18 : Int32 => WW G X 0 0 (wX7 G a m_hasSnapshot ++ wX3 G (a 1) v_o1 ++ wX2 G a v_o3 ++ wX4 G (a 4) v_o4) [none, none] 148 [.int x18]) hm (fun x18 hm => ?_) (fun j19 hj19 hm => ?_)
                      ·
                        obtain rfl := som hm
                        exact w_iret (pc := 148) hX hR dX7_count_148 ⟨rfl, rfl⟩
                      ·
                        refine w_if_eq (pc := 140) (tgt := 147) hX dX7_count_140 (by decide) hm (fun hm => ?_) (fun hm => ?_)
                        ·
                          refine w_iconst (pc := 147) hX dX7_count_147 ic_0 ?_
                          exact w_lvs [false, false] (hj19 (0 : Int32) hm)
                        ·
                          refine w_iconst (pc := 143) hX dX7_count_143 ic_1 ?_
                          refine w_goto (pc := 144) (tgt := 148) hX dX7_count_144 (by decide) ?_
                          exact w_lvs [false, false] (hj19 (1 : Int32) hm)
                    ·
                      replace hm := ite_f hm hc17
                      refine w_tabOut (pc := 1) (tgt := 149) hX dX7_count_1 (tsw_out (n := 9) (fun i hi => by rcases (show i = 0 ∨ i = 1 ∨ i = 2 ∨ i = 3 ∨ i = 4 ∨ i = 5 ∨ i = 6 ∨ i = 7 ∨ i = 8 ∨ i = 9 by omega) with rfl | rfl | rfl | rfl | rfl | rfl | rfl | rfl | rfl | rfl <;> assumption)) (by decide) ?_
                      refine w_iconst (pc := 149) hX dX7_count_149 ic_m1 ?_
                      obtain rfl := som hm
                      exact w_iret (pc := 150) hX hR dX7_count_150 ⟨rfl, rfl⟩

theorem lX7_way_X6 : ∀ w ∈ wsX60, w ∈ wsX7_way := in_at [70, 71, 72, 73, 74] (by decide +kernel)
theorem lX7_way_X7 : ∀ w ∈ wsX70, w ∈ wsX7_way := in_at [59, 60, 61, 62, 63, 64, 65, 66, 67, 68, 69] (by decide +kernel)
set_option maxHeartbeats 4000000 in
set_option maxRecDepth 100000 in
theorem ctX7_way (G : gT) (F : Nat) (a : Nat → Nat → Nat) (m_hasSnapshot : Int32) (v_o1 : MZ) (v_o7 : WY) (g1 : Int32) (o : (Int32 × WY)) (hm : mX7_way F v_o1 v_o7 g1 = some o) : CT G yX7_way wsX7_way rmX7_way [.ref (a 0 0), .int g1] (wX7 G a m_hasSnapshot ++ wX3 G (a 1) v_o1 ++ wX6 G (a 7) v_o7) (fun v w => v = some (.int o.1) ∧ w = wX7 G a m_hasSnapshot ++ wX3 G (a 1) v_o1 ++ wX6 G (a 7) o.2) := by
  refine CT_of (cc := cX7_way) (maxL := 4) (ret := (some .int)) 2 (by decide +kernel) rfl rfl (cat_ok rfl) (fun X hX hR hN => ?_)
  have hX : Ok G X cX7_way RX7 wsX7_way 4 rmX7_way := hX
  have hX6 : ∀ w ∈ wsX60, w ∈ wsX7_way := lX7_way_X6
  have hX7 : ∀ w ∈ wsX70, w ∈ wsX7_way := lX7_way_X7
  unfold mX7_way at hm
  refine w_iload_n (pc := 0) hX dX7_way_0 rfl rfl ?_
  refine w_if_ge (pc := 1) (tgt := 6) hX dX7_way_1 (by decide) hm (fun hm => ?_) (fun hm => ?_)
  ·
    refine w_aload_n (pc := 6) hX dX7_way_6 rfl rfl ?_
    refine gf_X7_fromExit (pc := 7) hX dX7_way_7 hX7 (List.mem_of_getElem? (i := 1) rfl) 0 rfl rfl ?_
    refine w_aload_n (pc := 10) hX dX7_way_10 rfl rfl ?_
    refine gf_X7_maze (pc := 11) hX dX7_way_11 hX7 (List.mem_of_getElem? (i := 2) rfl) 0 rfl rfl ?_
    refine w_aload_n (pc := 14) hX dX7_way_14 rfl rfl ?_
    refine gf_X7_maze (pc := 15) hX dX7_way_15 hX7 (List.mem_of_getElem? (i := 2) rfl) 0 rfl rfl ?_
    obtain ⟨r1, hr1, hm⟩ := bnd hm
    refine w_callpi (pc := 18) hX [1, 2, 3, 4, 5] (runV (rest := [.ref (a 1 0), .ref (a 7 0)]) hX [1, 2, 3, 4, 5] (ctX3_exitCell G (a 1) v_o1 r1 hr1) dX7_way_18 0 gX7_way_X3_exitCell rfl hyX3_exitCell ⟨Nat.le_of_ble_eq_true rfl, Nat.le_of_ble_eq_true rfl⟩ 1 rfl rfl rfl rfl (Nat.le_of_ble_eq_true rfl) ⟨Nat.le_of_ble_eq_true rfl, Nat.le_of_ble_eq_true rfl⟩ rfl (by decide +kernel)) rfl ⟨rfl, rfl⟩ ?_
    obtain ⟨r2, hr2, hm⟩ := bnd hm
    refine w_calldv (pc := 21) (ws' := wX7 G a m_hasSnapshot ++ wX3 G (a 1) v_o1 ++ wX6 G (a 7) r2) (os := [none, some 5, some 6, some 7, some 8, some 9, some 0, some 1, some 2, some 3, some 4]) 11 hX [6, 7, 8, 9, 10, 1, 2, 3, 4, 5] (runV (rest := []) hX [6, 7, 8, 9, 10, 1, 2, 3, 4, 5] (ctX6_findFrom G F (a 7) (a 1) v_o7 v_o1 r1 r2 hr2) dX7_way_21 2 gX7_way_X6_findFrom rfl hyX6_findFrom ⟨Nat.le_of_ble_eq_true rfl, Nat.le_of_ble_eq_true rfl⟩ 6 rfl rfl rfl rfl (Nat.le_of_ble_eq_true rfl) ⟨Nat.le_of_ble_eq_true rfl, Nat.le_of_ble_eq_true rfl⟩ rfl (by decide +kernel)) rfl rfl rfl (by decide +kernel) rfl ⟨rfl, rfl⟩ ?_
    refine w_iload_n (pc := 24) hX dX7_way_24 rfl rfl ?_
    refine w_aload_n (pc := 25) hX dX7_way_25 rfl rfl ?_
    refine gf_X7_fromExit (pc := 26) hX dX7_way_26 hX7 (List.mem_of_getElem? (i := 1) rfl) 0 rfl rfl ?_
    refine w_aload_n (pc := 29) hX dX7_way_29 rfl rfl ?_
    refine gf_X7_maze (pc := 30) hX dX7_way_30 hX7 (List.mem_of_getElem? (i := 2) rfl) 0 rfl rfl ?_
    obtain ⟨r3, hr3, hm⟩ := bnd hm
    refine w_callpi (pc := 33) hX [1, 2, 3, 4, 5] (runV (rest := [.ref (a 7 0), .int g1]) hX [1, 2, 3, 4, 5] (ctX3_entryCell G (a 1) v_o1 r3 hr3) dX7_way_33 0 gX7_way_X3_entryCell rfl hyX3_entryCell ⟨Nat.le_of_ble_eq_true rfl, Nat.le_of_ble_eq_true rfl⟩ 1 rfl rfl rfl rfl (Nat.le_of_ble_eq_true rfl) ⟨Nat.le_of_ble_eq_true rfl, Nat.le_of_ble_eq_true rfl⟩ rfl (by decide +kernel)) rfl ⟨rfl, rfl⟩ ?_
    obtain ⟨r4, hr4, hm⟩ := bnd hm
    refine w_callpi (pc := 36) hX [6, 7, 8, 9, 10] (runV (rest := [.int g1]) hX [6, 7, 8, 9, 10] (ctX6_lengthTo G (a 7) r2 r3 r4 hr4) dX7_way_36 1 gX7_way_X6_lengthTo rfl hyX6_lengthTo ⟨Nat.le_of_ble_eq_true rfl, Nat.le_of_ble_eq_true rfl⟩ 6 rfl rfl rfl rfl (Nat.le_of_ble_eq_true rfl) ⟨Nat.le_of_ble_eq_true rfl, Nat.le_of_ble_eq_true rfl⟩ rfl (by decide +kernel)) rfl ⟨rfl, rfl⟩ ?_
    refine w_icmp_le (pc := 39) (tgt := 45) hX dX7_way_39 (by decide) hm (fun hm => ?_) (fun hm => ?_)
    ·
      refine w_aload_n (pc := 45) hX dX7_way_45 rfl rfl ?_
      refine gf_X7_maze (pc := 46) hX dX7_way_46 hX7 (List.mem_of_getElem? (i := 2) rfl) 0 rfl rfl ?_
      obtain ⟨r5, hr5, hm⟩ := bnd hm
      refine w_callpi (pc := 49) hX [1, 2, 3, 4, 5] (runV (rest := []) hX [1, 2, 3, 4, 5] (ctX3_entryCell G (a 1) v_o1 r5 hr5) dX7_way_49 0 gX7_way_X3_entryCell rfl hyX3_entryCell ⟨Nat.le_of_ble_eq_true rfl, Nat.le_of_ble_eq_true rfl⟩ 1 rfl rfl rfl rfl (Nat.le_of_ble_eq_true rfl) ⟨Nat.le_of_ble_eq_true rfl, Nat.le_of_ble_eq_true rfl⟩ rfl (by decide +kernel)) rfl ⟨rfl, rfl⟩ ?_
      refine w_istore_n (pc := 52) hX dX7_way_52 rfl (Nat.le_of_ble_eq_true rfl) ?_
      refine w_iconst (pc := 53) hX dX7_way_53 ic_0 ?_
      refine w_istore_n (pc := 54) hX dX7_way_54 rfl (Nat.le_of_ble_eq_true rfl) ?_
      refine w_lvs [true, true, true, true] ?_
      refine lpr_ind (T := fun x6 : (Int32 × Int32) => WW G X 0 0 (wX7 G a m_hasSnapshot ++ wX3 G (a 1) v_o1 ++ wX6 G (a 7) r2) [some (.ref (a 0 0)), some (.int g1), some (.int x6.1), some (.int x6.2)] 55 []) (fun self7 hself7 x6 hm => ?_) F (r5, (0 : Int32)) hm
      unfold mX7_way_L55 at hm
      refine w_iload_n (pc := 55) hX dX7_way_55 rfl rfl ?_
      refine w_iload_n (pc := 56) hX dX7_way_56 rfl rfl ?_
      refine w_icmp_ge (pc := 57) (tgt := 78) hX dX7_way_57 (by decide) hm (fun hm => ?_) (fun hm => ?_)
      ·
        refine w_iload_n (pc := 78) hX dX7_way_78 rfl rfl ?_
        obtain rfl := som hm
        exact w_iret (pc := 79) hX hR dX7_way_79 ⟨rfl, rfl⟩
      ·
        refine w_aload_n (pc := 60) hX dX7_way_60 rfl rfl ?_
        refine gf_X7_fromExit (pc := 61) hX dX7_way_61 hX7 (List.mem_of_getElem? (i := 1) rfl) 0 rfl rfl ?_
        refine gf_X6_previous (pc := 64) hX dX7_way_64 hX6 (List.mem_of_getElem? (i := 3) rfl) 6 rfl rfl ?_
        refine w_iload_n (pc := 67) hX dX7_way_67 rfl rfl ?_
        obtain ⟨r8, hr8, hm⟩ := bnd hm
        refine w_callpi (pc := 68) hX [8] (runS (rest := []) hX [8] (ctX7_at G (a 7 2) 36 r2.2.2.1 x6.1 r8 hr8) dX7_way_68 2 gX7_way_X7_at rfl hyX7_at.2 ⟨Nat.le_of_ble_eq_true rfl, Nat.le_of_ble_eq_true rfl⟩ rfl rfl (Nat.le_of_ble_eq_true rfl) ⟨Nat.le_of_ble_eq_true rfl, Nat.le_of_ble_eq_true rfl⟩ rfl (by decide +kernel)) rfl ⟨rfl, rfl⟩ ?_
        refine w_istore_n (pc := 71) hX dX7_way_71 rfl (Nat.le_of_ble_eq_true rfl) ?_
        refine w_iinc (pc := 72) hX dX7_way_72 rfl (Nat.le_of_ble_eq_true rfl) ic_1 ?_
        refine w_goto (pc := 75) (tgt := 55) hX dX7_way_75 (by decide) ?_
        exact w_lvs [true, true, true, true] (hself7 (r8, x6.2 + (1 : Int32)) hm)
    ·
      refine w_bipush (pc := 42) hX dX7_way_42 bp_m4 ?_
      obtain rfl := som hm
      exact w_iret (pc := 44) hX hR dX7_way_44 ⟨rfl, rfl⟩
  ·
    refine w_iconst (pc := 4) hX dX7_way_4 ic_m1 ?_
    obtain rfl := som hm
    exact w_iret (pc := 5) hX hR dX7_way_5 ⟨rfl, rfl⟩

theorem lX7_wayTurns_X6 : ∀ w ∈ wsX60, w ∈ wsX7_wayTurns := in_at [31, 32, 33, 34, 35] (by decide +kernel)
theorem lX7_wayTurns_X7 : ∀ w ∈ wsX70, w ∈ wsX7_wayTurns := in_at [20, 21, 22, 23, 24, 25, 26, 27, 28, 29, 30] (by decide +kernel)
set_option maxHeartbeats 4000000 in
set_option maxRecDepth 100000 in
theorem ctX7_wayTurns (G : gT) (F : Nat) (a : Nat → Nat → Nat) (m_hasSnapshot : Int32) (v_o1 : MZ) (v_o7 : WY) (o : Int32) (hm : mX7_wayTurns F v_o1 v_o7 = some o) : CT G yX7_wayTurns wsX7_wayTurns rmX7_wayTurns [.ref (a 0 0)] (wX7 G a m_hasSnapshot ++ wX3 G (a 1) v_o1 ++ wX6 G (a 7) v_o7) (fun v w => v = some (.int o) ∧ w = wX7 G a m_hasSnapshot ++ wX3 G (a 1) v_o1 ++ wX6 G (a 7) v_o7) := by
  refine CT_of (cc := cX7_wayTurns) (maxL := 8) (ret := (some .int)) 7 (by decide +kernel) rfl rfl (cat_ok rfl) (fun X hX hR hN => ?_)
  have hX : Ok G X cX7_wayTurns RX7 wsX7_wayTurns 8 rmX7_wayTurns := hX
  have hX6 : ∀ w ∈ wsX60, w ∈ wsX7_wayTurns := lX7_wayTurns_X6
  have hX7 : ∀ w ∈ wsX70, w ∈ wsX7_wayTurns := lX7_wayTurns_X7
  unfold mX7_wayTurns at hm
  refine w_aload_n (pc := 0) hX dX7_wayTurns_0 rfl rfl ?_
  refine gf_X7_maze (pc := 1) hX dX7_wayTurns_1 hX7 (List.mem_of_getElem? (i := 1) rfl) 0 rfl rfl ?_
  obtain ⟨r1, hr1, hm⟩ := bnd hm
  refine w_callpi (pc := 4) hX [1, 2, 3, 4, 5] (runV (rest := []) hX [1, 2, 3, 4, 5] (ctX3_entryCell G (a 1) v_o1 r1 hr1) dX7_wayTurns_4 0 gX7_wayTurns_X3_entryCell rfl hyX3_entryCell ⟨Nat.le_of_ble_eq_true rfl, Nat.le_of_ble_eq_true rfl⟩ 1 rfl rfl rfl rfl (Nat.le_of_ble_eq_true rfl) ⟨Nat.le_of_ble_eq_true rfl, Nat.le_of_ble_eq_true rfl⟩ rfl (by decide +kernel)) rfl ⟨rfl, rfl⟩ ?_
  refine w_istore_n (pc := 7) hX dX7_wayTurns_7 rfl (Nat.le_of_ble_eq_true rfl) ?_
  refine w_aload_n (pc := 8) hX dX7_wayTurns_8 rfl rfl ?_
  refine gf_X7_fromExit (pc := 9) hX dX7_wayTurns_9 hX7 (List.mem_of_getElem? (i := 2) rfl) 0 rfl rfl ?_
  refine w_iload_n (pc := 12) hX dX7_wayTurns_12 rfl rfl ?_
  obtain ⟨r2, hr2, hm⟩ := bnd hm
  refine w_callpi (pc := 13) hX [6, 7, 8, 9, 10] (runV (rest := []) hX [6, 7, 8, 9, 10] (ctX6_lengthTo G (a 7) v_o7 r1 r2 hr2) dX7_wayTurns_13 1 gX7_wayTurns_X6_lengthTo rfl hyX6_lengthTo ⟨Nat.le_of_ble_eq_true rfl, Nat.le_of_ble_eq_true rfl⟩ 6 rfl rfl rfl rfl (Nat.le_of_ble_eq_true rfl) ⟨Nat.le_of_ble_eq_true rfl, Nat.le_of_ble_eq_true rfl⟩ rfl (by decide +kernel)) rfl ⟨rfl, rfl⟩ ?_
  refine w_istore_n (pc := 16) hX dX7_wayTurns_16 rfl (Nat.le_of_ble_eq_true rfl) ?_
  refine w_iconst (pc := 17) hX dX7_wayTurns_17 ic_0 ?_
  refine w_istore_n (pc := 18) hX dX7_wayTurns_18 rfl (Nat.le_of_ble_eq_true rfl) ?_
  refine w_iconst (pc := 19) hX dX7_wayTurns_19 ic_0 ?_
  refine w_istore (pc := 20) hX dX7_wayTurns_20 (Nat.le_of_ble_eq_true rfl) ?_
  refine w_iconst (pc := 22) hX dX7_wayTurns_22 ic_0 ?_
  refine w_istore (pc := 23) hX dX7_wayTurns_23 (Nat.le_of_ble_eq_true rfl) ?_
  refine w_lvs [true, true, true, true, true, true, false, false] ?_
  refine lpr_ind (T := fun x3 : (Int32 × Int32 × Int32 × Int32) => WW G X 0 0 (wX7 G a m_hasSnapshot ++ wX3 G (a 1) v_o1 ++ wX6 G (a 7) v_o7) [some (.ref (a 0 0)), some (.int x3.1), some (.int r2), some (.int x3.2.1), some (.int x3.2.2.1), some (.int x3.2.2.2), none, none] 25 []) (fun self4 hself4 x3 hm => ?_) F (r1, (0 : Int32), (0 : Int32), (0 : Int32)) hm
  unfold mX7_wayTurns_L25 at hm
  refine w_iload (pc := 25) hX dX7_wayTurns_25 rfl ?_
  refine w_iload_n (pc := 27) hX dX7_wayTurns_27 rfl rfl ?_
  refine w_icmp_ge (pc := 28) (tgt := 78) hX dX7_wayTurns_28 (by decide) hm (fun hm => ?_) (fun hm => ?_)
  ·
    refine w_iload_n (pc := 78) hX dX7_wayTurns_78 rfl rfl ?_
    obtain rfl := som hm
    exact w_iret (pc := 79) hX hR dX7_wayTurns_79 ⟨rfl, rfl⟩
  ·
    refine w_aload_n (pc := 31) hX dX7_wayTurns_31 rfl rfl ?_
    refine gf_X7_fromExit (pc := 32) hX dX7_wayTurns_32 hX7 (List.mem_of_getElem? (i := 2) rfl) 0 rfl rfl ?_
    refine gf_X6_previous (pc := 35) hX dX7_wayTurns_35 hX6 (List.mem_of_getElem? (i := 3) rfl) 6 rfl rfl ?_
    refine w_iload_n (pc := 38) hX dX7_wayTurns_38 rfl rfl ?_
    obtain ⟨r5, hr5, hm⟩ := bnd hm
    refine w_callpi (pc := 39) hX [8] (runS (rest := []) hX [8] (ctX7_at G (a 7 2) 36 v_o7.2.2.1 x3.1 r5 hr5) dX7_wayTurns_39 2 gX7_wayTurns_X7_at rfl hyX7_at.2 ⟨Nat.le_of_ble_eq_true rfl, Nat.le_of_ble_eq_true rfl⟩ rfl rfl (Nat.le_of_ble_eq_true rfl) ⟨Nat.le_of_ble_eq_true rfl, Nat.le_of_ble_eq_true rfl⟩ rfl (by decide +kernel)) rfl ⟨rfl, rfl⟩ ?_
    refine w_istore (pc := 42) hX dX7_wayTurns_42 (Nat.le_of_ble_eq_true rfl) ?_
    refine w_iload (pc := 44) hX dX7_wayTurns_44 rfl ?_
    refine w_iload_n (pc := 46) hX dX7_wayTurns_46 rfl rfl ?_
    refine w_isub (pc := 47) hX dX7_wayTurns_47 ?_
    refine w_istore (pc := 48) hX dX7_wayTurns_48 (Nat.le_of_ble_eq_true rfl) ?_
    refine w_iload (pc := 50) hX dX7_wayTurns_50 rfl ?_
    refine w_jn (T := fun x6 : Int32 => WW G X 0 0 (wX7 G a m_hasSnapshot ++ wX3 G (a 1) v_o1 ++ wX6 G (a 7) v_o7) [some (.ref (a 0 0)), none, some (.int r2), some (.int x6), none, some (.int x3.2.2.2), some (.int r5), some (.int (r5 - x3.1))] 65 []) hm (fun x6 hm => ?_) (fun j7 hj7 hm => ?_)
    ·
      refine w_iload (pc := 65) hX dX7_wayTurns_65 rfl ?_
      refine w_istore (pc := 67) hX dX7_wayTurns_67 (Nat.le_of_ble_eq_true rfl) ?_
      refine w_iload (pc := 69) hX dX7_wayTurns_69 rfl ?_
      refine w_istore_n (pc := 71) hX dX7_wayTurns_71 rfl (Nat.le_of_ble_eq_true rfl) ?_
      refine w_iinc (pc := 72) hX dX7_wayTurns_72 rfl (Nat.le_of_ble_eq_true rfl) ic_1 ?_
      refine w_goto (pc := 75) (tgt := 25) hX dX7_wayTurns_75 (by decide) ?_
      exact w_lvs [true, true, true, true, true, true, false, false] (hself4 (r5, x6, r5 - x3.1, x3.2.2.2 + (1 : Int32)) hm)
    ·
      refine w_if_le (pc := 52) (tgt := 65) hX dX7_wayTurns_52 (by decide) hm (fun hm => ?_) (fun hm => ?_)
      ·
        exact w_lvs [true, false, true, true, false, true, true, true] (hj7 x3.2.1 hm)
      ·
        refine w_iload (pc := 55) hX dX7_wayTurns_55 rfl ?_
        refine w_iload (pc := 57) hX dX7_wayTurns_57 rfl ?_
        refine w_icmp_eq (pc := 59) (tgt := 65) hX dX7_wayTurns_59 (by decide) hm (fun hm => ?_) (fun hm => ?_)
        ·
          exact w_lvs [true, false, true, true, false, true, true, true] (hj7 x3.2.1 hm)
        ·
          refine w_iinc (pc := 62) hX dX7_wayTurns_62 rfl (Nat.le_of_ble_eq_true rfl) ic_1 ?_
          exact w_lvs [true, false, true, true, false, true, true, true] (hj7 (x3.2.1 + (1 : Int32)) hm)

theorem lX7_wayFault_X6 : ∀ w ∈ wsX60, w ∈ wsX7_wayFault := in_at [83, 84, 85, 86, 87] (by decide +kernel)
theorem lX7_wayFault_X7 : ∀ w ∈ wsX70, w ∈ wsX7_wayFault := in_at [72, 73, 74, 75, 76, 77, 78, 79, 80, 81, 82] (by decide +kernel)
set_option maxHeartbeats 4000000 in
set_option maxRecDepth 100000 in
theorem ctX7_wayFault (G : gT) (F : Nat) (a : Nat → Nat → Nat) (m_hasSnapshot : Int32) (v_o1 : MZ) (v_o7 : WY) (o : (Int32 × WY)) (hm : mX7_wayFault F v_o1 v_o7 = some o) : CT G yX7_wayFault wsX7_wayFault rmX7_wayFault [.ref (a 0 0)] (wX7 G a m_hasSnapshot ++ wX3 G (a 1) v_o1 ++ wX6 G (a 7) v_o7) (fun v w => v = some (.int o.1) ∧ w = wX7 G a m_hasSnapshot ++ wX3 G (a 1) v_o1 ++ wX6 G (a 7) o.2) := by
  refine CT_of (cc := cX7_wayFault) (maxL := 2) (ret := (some .int)) 1 (by decide +kernel) rfl rfl (cat_ok rfl) (fun X hX hR hN => ?_)
  have hX : Ok G X cX7_wayFault RX7 wsX7_wayFault 2 rmX7_wayFault := hX
  have hX6 : ∀ w ∈ wsX60, w ∈ wsX7_wayFault := lX7_wayFault_X6
  have hX7 : ∀ w ∈ wsX70, w ∈ wsX7_wayFault := lX7_wayFault_X7
  unfold mX7_wayFault at hm
  refine w_aload_n (pc := 0) hX dX7_wayFault_0 rfl rfl ?_
  refine gf_X7_maze (pc := 1) hX dX7_wayFault_1 hX7 (List.mem_of_getElem? (i := 1) rfl) 0 rfl rfl ?_
  obtain ⟨r1, hr1, hm⟩ := bnd hm
  refine w_callpi (pc := 4) hX [1, 2, 3, 4, 5] (runV (rest := []) hX [1, 2, 3, 4, 5] (ctX3_toneSum G F (a 1) v_o1 r1 hr1) dX7_wayFault_4 0 gX7_wayFault_X3_toneSum rfl hyX3_toneSum ⟨Nat.le_of_ble_eq_true rfl, Nat.le_of_ble_eq_true rfl⟩ 1 rfl rfl rfl rfl (Nat.le_of_ble_eq_true rfl) ⟨Nat.le_of_ble_eq_true rfl, Nat.le_of_ble_eq_true rfl⟩ rfl (by decide +kernel)) rfl ⟨rfl, rfl⟩ ?_
  refine w_istore_n (pc := 7) hX dX7_wayFault_7 rfl (Nat.le_of_ble_eq_true rfl) ?_
  refine w_aload_n (pc := 8) hX dX7_wayFault_8 rfl rfl ?_
  obtain ⟨r2, hr2, hm⟩ := bnd hm
  refine w_calldi (pc := 9) (ws' := wX7 G a m_hasSnapshot ++ wX3 G (a 1) v_o1 ++ wX6 G (a 7) r2.2) (os := [some 0, some 1, some 2, some 3, some 4, some 5, some 6, some 7, some 8, some 9, some 10]) 11 hX [0, 1, 2, 3, 4, 5, 6, 7, 8, 9, 10] (runV (rest := []) hX [0, 1, 2, 3, 4, 5, 6, 7, 8, 9, 10] (ctX7_hasWay G F a m_hasSnapshot v_o1 v_o7 r2 hr2) dX7_wayFault_9 0 gX7_wayFault_X7_hasWay rfl hyX7_hasWay ⟨Nat.le_of_ble_eq_true rfl, Nat.le_of_ble_eq_true rfl⟩ 0 rfl rfl rfl rfl (Nat.le_of_ble_eq_true rfl) ⟨Nat.le_of_ble_eq_true rfl, Nat.le_of_ble_eq_true rfl⟩ rfl (by decide +kernel)) rfl rfl rfl (by decide +kernel) rfl ⟨rfl, rfl⟩ ?_
  refine w_jn (T := fun x3 : Int32 => WW G X 0 0 (wX7 G a m_hasSnapshot ++ wX3 G (a 1) v_o1 ++ wX6 G (a 7) r2.2) [none, none] 38 [.int x3]) hm (fun x3 hm => ?_) (fun j4 hj4 hm => ?_)
  ·
    obtain rfl := som hm
    exact w_iret (pc := 38) hX hR dX7_wayFault_38 ⟨rfl, rfl⟩
  ·
    refine w_if_eq (pc := 12) (tgt := 37) hX dX7_wayFault_12 (by decide) hm (fun hm => ?_) (fun hm => ?_)
    ·
      refine w_iload_n (pc := 37) hX dX7_wayFault_37 rfl rfl ?_
      exact w_lvs [false, false] (hj4 r1 hm)
    ·
      refine w_iload_n (pc := 15) hX dX7_wayFault_15 rfl rfl ?_
      refine w_aload_n (pc := 16) hX dX7_wayFault_16 rfl rfl ?_
      refine gf_X7_fromExit (pc := 17) hX dX7_wayFault_17 hX7 (List.mem_of_getElem? (i := 2) rfl) 0 rfl rfl ?_
      refine gf_X6_gains (pc := 20) hX dX7_wayFault_20 hX6 (List.mem_of_getElem? (i := 3) rfl) 6 rfl rfl ?_
      refine w_aload_n (pc := 23) hX dX7_wayFault_23 rfl rfl ?_
      refine gf_X7_maze (pc := 24) hX dX7_wayFault_24 hX7 (List.mem_of_getElem? (i := 1) rfl) 0 rfl rfl ?_
      obtain ⟨r5, hr5, hm⟩ := bnd hm
      refine w_callpi (pc := 27) hX [1, 2, 3, 4, 5] (runV (rest := [.ref (a 7 4), .int r1]) hX [1, 2, 3, 4, 5] (ctX3_entryCell G (a 1) v_o1 r5 hr5) dX7_wayFault_27 0 gX7_wayFault_X3_entryCell rfl hyX3_entryCell ⟨Nat.le_of_ble_eq_true rfl, Nat.le_of_ble_eq_true rfl⟩ 1 rfl rfl rfl rfl (Nat.le_of_ble_eq_true rfl) ⟨Nat.le_of_ble_eq_true rfl, Nat.le_of_ble_eq_true rfl⟩ rfl (by decide +kernel)) rfl ⟨rfl, rfl⟩ ?_
      obtain ⟨r6, hr6, hm⟩ := bnd hm
      refine w_callpi (pc := 30) hX [10] (runS (rest := [.int r1]) hX [10] (ctX7_at G (a 7 4) 36 r2.2.2.2.2.2 r5 r6 hr6) dX7_wayFault_30 2 gX7_wayFault_X7_at rfl hyX7_at.2 ⟨Nat.le_of_ble_eq_true rfl, Nat.le_of_ble_eq_true rfl⟩ rfl rfl (Nat.le_of_ble_eq_true rfl) ⟨Nat.le_of_ble_eq_true rfl, Nat.le_of_ble_eq_true rfl⟩ rfl (by decide +kernel)) rfl ⟨rfl, rfl⟩ ?_
      refine w_iadd (pc := 33) hX dX7_wayFault_33 ?_
      refine w_goto (pc := 34) (tgt := 38) hX dX7_wayFault_34 (by decide) ?_
      exact w_lvs [false, false] (hj4 (r1 + r6) hm)

theorem lX7_drawn_X5 : ∀ w ∈ wsX50, w ∈ wsX7_drawn := in_at [138, 139, 140, 141] (by decide +kernel)
theorem lX7_drawn_X7 : ∀ w ∈ wsX70, w ∈ wsX7_drawn := in_at [127, 128, 129, 130, 131, 132, 133, 134, 135, 136, 137] (by decide +kernel)
set_option maxHeartbeats 4000000 in
set_option maxRecDepth 100000 in
theorem ctX7_drawn (G : gT) (F : Nat) (a : Nat → Nat → Nat) (m_hasSnapshot : Int32) (v_o1 : MZ) (v_o7 : WY) (v_o8 : WK) (g1 : Int32) (o : (Int32 × WY × WK)) (hm : mX7_drawn F v_o1 v_o7 v_o8 g1 = some o) : CT G yX7_drawn wsX7_drawn rmX7_drawn [.ref (a 0 0), .int g1] (wX7 G a m_hasSnapshot ++ wX3 G (a 1) v_o1 ++ wX6 G (a 7) v_o7 ++ wX5 G (a 8) v_o8) (fun v w => v = some (.int o.1) ∧ w = wX7 G a m_hasSnapshot ++ wX3 G (a 1) v_o1 ++ wX6 G (a 7) o.2.1 ++ wX5 G (a 8) o.2.2) := by
  refine CT_of (cc := cX7_drawn) (maxL := 2) (ret := (some .int)) 0 (by decide +kernel) rfl rfl (cat_ok rfl) (fun X hX hR hN => ?_)
  have hX : Ok G X cX7_drawn RX7 wsX7_drawn 2 rmX7_drawn := hX
  have hX5 : ∀ w ∈ wsX50, w ∈ wsX7_drawn := lX7_drawn_X5
  have hX7 : ∀ w ∈ wsX70, w ∈ wsX7_drawn := lX7_drawn_X7
  unfold mX7_drawn at hm
  refine w_iload_n (pc := 0) hX dX7_drawn_0 rfl rfl ?_
  rcases Decidable.em (g1 = (0 : Int32)) with hc1 | hc1
  ·
    replace hm := ite_t hm hc1
    refine w_tabIn (pc := 1) (tgt := 36) hX dX7_drawn_1 0 (by rw [hc1]; decide) (by decide) (by decide) rfl (by decide) ?_
    refine w_aload_n (pc := 36) hX dX7_drawn_36 rfl rfl ?_
    obtain ⟨r2, hr2, hm⟩ := bnd hm
    refine w_calldi (pc := 37) (ws' := wX7 G a m_hasSnapshot ++ wX3 G (a 1) v_o1 ++ wX6 G (a 7) r2.2 ++ wX5 G (a 8) v_o8) (os := [some 0, some 1, some 2, some 3, some 4, some 5, some 6, some 7, some 8, some 9, some 10, none, none, none]) 14 hX [0, 1, 2, 3, 4, 5, 6, 7, 8, 9, 10] (runV (rest := []) hX [0, 1, 2, 3, 4, 5, 6, 7, 8, 9, 10] (ctX7_hasWay G F a m_hasSnapshot v_o1 v_o7 r2 hr2) dX7_drawn_37 0 gX7_drawn_X7_hasWay rfl hyX7_hasWay ⟨Nat.le_of_ble_eq_true rfl, Nat.le_of_ble_eq_true rfl⟩ 0 rfl rfl rfl rfl (Nat.le_of_ble_eq_true rfl) ⟨Nat.le_of_ble_eq_true rfl, Nat.le_of_ble_eq_true rfl⟩ rfl (by decide +kernel)) rfl rfl rfl (by decide +kernel) rfl ⟨rfl, rfl⟩ ?_
    refine w_jn (T := fun x3 : Int32 => WW G X 0 0 (wX7 G a m_hasSnapshot ++ wX3 G (a 1) v_o1 ++ wX6 G (a 7) r2.2 ++ wX5 G (a 8) v_o8) [none, none] 64 [.int x3]) hm (fun x3 hm => ?_) (fun j4 hj4 hm => ?_)
    ·
      obtain rfl := som hm
      exact w_iret (pc := 64) hX hR dX7_drawn_64 ⟨rfl, rfl⟩
    ·
      refine w_if_eq (pc := 40) (tgt := 62) hX dX7_drawn_40 (by decide) hm (fun hm => ?_) (fun hm => ?_)
      ·
        refine w_bipush (pc := 62) hX dX7_drawn_62 bp_m4 ?_
        exact w_lvs [false, false] (hj4 (-4 : Int32) hm)
      ·
        refine w_aload_n (pc := 43) hX dX7_drawn_43 rfl rfl ?_
        refine gf_X7_fromExit (pc := 44) hX dX7_drawn_44 hX7 (List.mem_of_getElem? (i := 1) rfl) 0 rfl rfl ?_
        refine w_aload_n (pc := 47) hX dX7_drawn_47 rfl rfl ?_
        refine gf_X7_maze (pc := 48) hX dX7_drawn_48 hX7 (List.mem_of_getElem? (i := 2) rfl) 0 rfl rfl ?_
        obtain ⟨r5, hr5, hm⟩ := bnd hm
        refine w_callpi (pc := 51) hX [1, 2, 3, 4, 5] (runV (rest := [.ref (a 7 0)]) hX [1, 2, 3, 4, 5] (ctX3_entryCell G (a 1) v_o1 r5 hr5) dX7_drawn_51 0 gX7_drawn_X3_entryCell rfl hyX3_entryCell ⟨Nat.le_of_ble_eq_true rfl, Nat.le_of_ble_eq_true rfl⟩ 1 rfl rfl rfl rfl (Nat.le_of_ble_eq_true rfl) ⟨Nat.le_of_ble_eq_true rfl, Nat.le_of_ble_eq_true rfl⟩ rfl (by decide +kernel)) rfl ⟨rfl, rfl⟩ ?_
        obtain ⟨r6, hr6, hm⟩ := bnd hm
        refine w_callpi (pc := 54) hX [6, 7, 8, 9, 10] (runV (rest := []) hX [6, 7, 8, 9, 10] (ctX6_lengthTo G (a 7) r2.2 r5 r6 hr6) dX7_drawn_54 1 gX7_drawn_X6_lengthTo rfl hyX6_lengthTo ⟨Nat.le_of_ble_eq_true rfl, Nat.le_of_ble_eq_true rfl⟩ 6 rfl rfl rfl rfl (Nat.le_of_ble_eq_true rfl) ⟨Nat.le_of_ble_eq_true rfl, Nat.le_of_ble_eq_true rfl⟩ rfl (by decide +kernel)) rfl ⟨rfl, rfl⟩ ?_
        refine w_iconst (pc := 57) hX dX7_drawn_57 ic_1 ?_
        refine w_iadd (pc := 58) hX dX7_drawn_58 ?_
        refine w_goto (pc := 59) (tgt := 64) hX dX7_drawn_59 (by decide) ?_
        exact w_lvs [false, false] (hj4 (r6 + (1 : Int32)) hm)
  ·
    replace hm := ite_f hm hc1
    rcases Decidable.em (g1 = (1 : Int32)) with hc7 | hc7
    ·
      replace hm := ite_t hm hc7
      refine w_tabIn (pc := 1) (tgt := 65) hX dX7_drawn_1 1 (by rw [hc7]; decide) (by decide) (by decide) rfl (by decide) ?_
      refine w_aload_n (pc := 65) hX dX7_drawn_65 rfl rfl ?_
      obtain ⟨r8, hr8, hm⟩ := bnd hm
      refine w_calldi (pc := 66) (ws' := wX7 G a m_hasSnapshot ++ wX3 G (a 1) v_o1 ++ wX6 G (a 7) r8.2 ++ wX5 G (a 8) v_o8) (os := [some 0, some 1, some 2, some 3, some 4, some 5, some 6, some 7, some 8, some 9, some 10, none, none, none]) 14 hX [0, 1, 2, 3, 4, 5, 6, 7, 8, 9, 10] (runV (rest := []) hX [0, 1, 2, 3, 4, 5, 6, 7, 8, 9, 10] (ctX7_wayFault G F a m_hasSnapshot v_o1 v_o7 r8 hr8) dX7_drawn_66 0 gX7_drawn_X7_wayFault rfl hyX7_wayFault ⟨Nat.le_of_ble_eq_true rfl, Nat.le_of_ble_eq_true rfl⟩ 0 rfl rfl rfl rfl (Nat.le_of_ble_eq_true rfl) ⟨Nat.le_of_ble_eq_true rfl, Nat.le_of_ble_eq_true rfl⟩ rfl (by decide +kernel)) rfl rfl rfl (by decide +kernel) rfl ⟨rfl, rfl⟩ ?_
      obtain rfl := som hm
      exact w_iret (pc := 69) hX hR dX7_drawn_69 ⟨rfl, rfl⟩
    ·
      replace hm := ite_f hm hc7
      rcases Decidable.em (g1 = (2 : Int32)) with hc9 | hc9
      ·
        replace hm := ite_t hm hc9
        refine w_tabIn (pc := 1) (tgt := 70) hX dX7_drawn_1 2 (by rw [hc9]; decide) (by decide) (by decide) rfl (by decide) ?_
        refine w_aload_n (pc := 70) hX dX7_drawn_70 rfl rfl ?_
        refine gf_X7_walk (pc := 71) hX dX7_drawn_71 hX7 (List.mem_of_getElem? (i := 3) rfl) 0 rfl rfl ?_
        refine w_aload_n (pc := 74) hX dX7_drawn_74 rfl rfl ?_
        refine gf_X7_maze (pc := 75) hX dX7_drawn_75 hX7 (List.mem_of_getElem? (i := 2) rfl) 0 rfl rfl ?_
        obtain ⟨r10, hr10, hm⟩ := bnd hm
        refine w_calldv (pc := 78) (ws' := wX7 G a m_hasSnapshot ++ wX3 G (a 1) v_o1 ++ wX6 G (a 7) v_o7 ++ wX5 G (a 8) r10) (os := [none, some 3, some 4, some 5, some 6, some 7, none, none, none, none, none, some 0, some 1, some 2]) 14 hX [11, 12, 13, 1, 2, 3, 4, 5] (runV (rest := []) hX [11, 12, 13, 1, 2, 3, 4, 5] (ctX5_take G F (a 8) (a 1) v_o8 v_o1 r10 hr10) dX7_drawn_78 1 gX7_drawn_X5_take rfl hyX5_take ⟨Nat.le_of_ble_eq_true rfl, Nat.le_of_ble_eq_true rfl⟩ 11 rfl rfl rfl rfl (Nat.le_of_ble_eq_true rfl) ⟨Nat.le_of_ble_eq_true rfl, Nat.le_of_ble_eq_true rfl⟩ rfl (by decide +kernel)) rfl rfl rfl (by decide +kernel) rfl ⟨rfl, rfl⟩ ?_
        refine w_aload_n (pc := 81) hX dX7_drawn_81 rfl rfl ?_
        refine gf_X7_walk (pc := 82) hX dX7_drawn_82 hX7 (List.mem_of_getElem? (i := 3) rfl) 0 rfl rfl ?_
        refine gf_X5_failed (pc := 85) hX dX7_drawn_85 hX5 (List.mem_of_getElem? (i := 4) rfl) 11 rfl rfl ?_
        refine w_jn (T := fun x11 : Int32 => WW G X 0 0 (wX7 G a m_hasSnapshot ++ wX3 G (a 1) v_o1 ++ wX6 G (a 7) v_o7 ++ wX5 G (a 8) r10) [none, none] 103 [.int x11]) hm (fun x11 hm => ?_) (fun j12 hj12 hm => ?_)
        ·
          obtain rfl := som hm
          exact w_iret (pc := 103) hX hR dX7_drawn_103 ⟨rfl, rfl⟩
        ·
          refine w_if_eq (pc := 88) (tgt := 96) hX dX7_drawn_88 (by decide) hm (fun hm => ?_) (fun hm => ?_)
          ·
            refine w_aload_n (pc := 96) hX dX7_drawn_96 rfl rfl ?_
            refine gf_X7_walk (pc := 97) hX dX7_drawn_97 hX7 (List.mem_of_getElem? (i := 3) rfl) 0 rfl rfl ?_
            refine gf_X5_allVisits (pc := 100) hX dX7_drawn_100 hX5 (List.mem_of_getElem? (i := 5) rfl) 11 rfl rfl ?_
            exact w_lvs [false, false] (hj12 r10.2.1 hm)
          ·
            refine w_bipush (pc := 91) hX dX7_drawn_91 bp_m4 ?_
            refine w_goto (pc := 93) (tgt := 103) hX dX7_drawn_93 (by decide) ?_
            exact w_lvs [false, false] (hj12 (-4 : Int32) hm)
      ·
        replace hm := ite_f hm hc9
        rcases Decidable.em (g1 = (3 : Int32)) with hc13 | hc13
        ·
          replace hm := ite_t hm hc13
          refine w_tabIn (pc := 1) (tgt := 104) hX dX7_drawn_1 3 (by rw [hc13]; decide) (by decide) (by decide) rfl (by decide) ?_
          refine w_aload_n (pc := 104) hX dX7_drawn_104 rfl rfl ?_
          refine gf_X7_walk (pc := 105) hX dX7_drawn_105 hX7 (List.mem_of_getElem? (i := 3) rfl) 0 rfl rfl ?_
          refine w_aload_n (pc := 108) hX dX7_drawn_108 rfl rfl ?_
          refine gf_X7_maze (pc := 109) hX dX7_drawn_109 hX7 (List.mem_of_getElem? (i := 2) rfl) 0 rfl rfl ?_
          obtain ⟨r14, hr14, hm⟩ := bnd hm
          refine w_calldv (pc := 112) (ws' := wX7 G a m_hasSnapshot ++ wX3 G (a 1) v_o1 ++ wX6 G (a 7) v_o7 ++ wX5 G (a 8) r14) (os := [none, some 3, some 4, some 5, some 6, some 7, none, none, none, none, none, some 0, some 1, some 2]) 14 hX [11, 12, 13, 1, 2, 3, 4, 5] (runV (rest := []) hX [11, 12, 13, 1, 2, 3, 4, 5] (ctX5_take G F (a 8) (a 1) v_o8 v_o1 r14 hr14) dX7_drawn_112 1 gX7_drawn_X5_take rfl hyX5_take ⟨Nat.le_of_ble_eq_true rfl, Nat.le_of_ble_eq_true rfl⟩ 11 rfl rfl rfl rfl (Nat.le_of_ble_eq_true rfl) ⟨Nat.le_of_ble_eq_true rfl, Nat.le_of_ble_eq_true rfl⟩ rfl (by decide +kernel)) rfl rfl rfl (by decide +kernel) rfl ⟨rfl, rfl⟩ ?_
          refine w_aload_n (pc := 115) hX dX7_drawn_115 rfl rfl ?_
          refine gf_X7_walk (pc := 116) hX dX7_drawn_116 hX7 (List.mem_of_getElem? (i := 3) rfl) 0 rfl rfl ?_
          refine gf_X5_failed (pc := 119) hX dX7_drawn_119 hX5 (List.mem_of_getElem? (i := 4) rfl) 11 rfl rfl ?_
          refine w_jn (T := fun x15 : Int32 => WW G X 0 0 (wX7 G a m_hasSnapshot ++ wX3 G (a 1) v_o1 ++ wX6 G (a 7) v_o7 ++ wX5 G (a 8) r14) [none, none] 141 [.int x15]) hm (fun x15 hm => ?_) (fun j16 hj16 hm => ?_)
          ·
            obtain rfl := som hm
            exact w_iret (pc := 141) hX hR dX7_drawn_141 ⟨rfl, rfl⟩
          ·
            refine w_if_eq (pc := 122) (tgt := 130) hX dX7_drawn_122 (by decide) hm (fun hm => ?_) (fun hm => ?_)
            ·
              refine w_aload_n (pc := 130) hX dX7_drawn_130 rfl rfl ?_
              refine gf_X7_walk (pc := 131) hX dX7_drawn_131 hX7 (List.mem_of_getElem? (i := 3) rfl) 0 rfl rfl ?_
              refine w_aload_n (pc := 134) hX dX7_drawn_134 rfl rfl ?_
              refine gf_X7_maze (pc := 135) hX dX7_drawn_135 hX7 (List.mem_of_getElem? (i := 2) rfl) 0 rfl rfl ?_
              obtain ⟨r17, hr17, hm⟩ := bnd hm
              refine w_callpi (pc := 138) hX [11, 12, 13, 1, 2, 3, 4, 5] (runV (rest := []) hX [11, 12, 13, 1, 2, 3, 4, 5] (ctX5_faultOn G F (a 8) (a 1) r14 v_o1 r17 hr17) dX7_drawn_138 1 gX7_drawn_X5_faultOn rfl hyX5_faultOn ⟨Nat.le_of_ble_eq_true rfl, Nat.le_of_ble_eq_true rfl⟩ 11 rfl rfl rfl rfl (Nat.le_of_ble_eq_true rfl) ⟨Nat.le_of_ble_eq_true rfl, Nat.le_of_ble_eq_true rfl⟩ rfl (by decide +kernel)) rfl ⟨rfl, rfl⟩ ?_
              exact w_lvs [false, false] (hj16 r17 hm)
            ·
              refine w_bipush (pc := 125) hX dX7_drawn_125 bp_m4 ?_
              refine w_goto (pc := 127) (tgt := 141) hX dX7_drawn_127 (by decide) ?_
              exact w_lvs [false, false] (hj16 (-4 : Int32) hm)
        ·
          replace hm := ite_f hm hc13
          rcases Decidable.em (g1 = (4 : Int32)) with hc18 | hc18
          ·
            replace hm := ite_t hm hc18
            refine w_tabIn (pc := 1) (tgt := 142) hX dX7_drawn_1 4 (by rw [hc18]; decide) (by decide) (by decide) rfl (by decide) ?_
            refine w_aload_n (pc := 142) hX dX7_drawn_142 rfl rfl ?_
            obtain ⟨r19, hr19, hm⟩ := bnd hm
            refine w_calldi (pc := 143) (ws' := wX7 G a m_hasSnapshot ++ wX3 G (a 1) v_o1 ++ wX6 G (a 7) r19.2 ++ wX5 G (a 8) v_o8) (os := [some 0, some 1, some 2, some 3, some 4, some 5, some 6, some 7, some 8, some 9, some 10, none, none, none]) 14 hX [0, 1, 2, 3, 4, 5, 6, 7, 8, 9, 10] (runV (rest := []) hX [0, 1, 2, 3, 4, 5, 6, 7, 8, 9, 10] (ctX7_hasWay G F a m_hasSnapshot v_o1 v_o7 r19 hr19) dX7_drawn_143 0 gX7_drawn_X7_hasWay rfl hyX7_hasWay ⟨Nat.le_of_ble_eq_true rfl, Nat.le_of_ble_eq_true rfl⟩ 0 rfl rfl rfl rfl (Nat.le_of_ble_eq_true rfl) ⟨Nat.le_of_ble_eq_true rfl, Nat.le_of_ble_eq_true rfl⟩ rfl (by decide +kernel)) rfl rfl rfl (by decide +kernel) rfl ⟨rfl, rfl⟩ ?_
            refine w_jn (T := fun x20 : Int32 => WW G X 0 0 (wX7 G a m_hasSnapshot ++ wX3 G (a 1) v_o1 ++ wX6 G (a 7) r19.2 ++ wX5 G (a 8) v_o8) [none, none] 158 [.int x20]) hm (fun x20 hm => ?_) (fun j21 hj21 hm => ?_)
            ·
              obtain rfl := som hm
              exact w_iret (pc := 158) hX hR dX7_drawn_158 ⟨rfl, rfl⟩
            ·
              refine w_if_eq (pc := 146) (tgt := 156) hX dX7_drawn_146 (by decide) hm (fun hm => ?_) (fun hm => ?_)
              ·
                refine w_bipush (pc := 156) hX dX7_drawn_156 bp_m4 ?_
                exact w_lvs [false, false] (hj21 (-4 : Int32) hm)
              ·
                refine w_aload_n (pc := 149) hX dX7_drawn_149 rfl rfl ?_
                obtain ⟨r22, hr22, hm⟩ := bnd hm
                refine w_callpi (pc := 150) hX [0, 1, 2, 3, 4, 5, 6, 7, 8, 9, 10] (runV (rest := []) hX [0, 1, 2, 3, 4, 5, 6, 7, 8, 9, 10] (ctX7_wayTurns G F a m_hasSnapshot v_o1 r19.2 r22 hr22) dX7_drawn_150 0 gX7_drawn_X7_wayTurns rfl hyX7_wayTurns ⟨Nat.le_of_ble_eq_true rfl, Nat.le_of_ble_eq_true rfl⟩ 0 rfl rfl rfl rfl (Nat.le_of_ble_eq_true rfl) ⟨Nat.le_of_ble_eq_true rfl, Nat.le_of_ble_eq_true rfl⟩ rfl (by decide +kernel)) rfl ⟨rfl, rfl⟩ ?_
                refine w_goto (pc := 153) (tgt := 158) hX dX7_drawn_153 (by decide) ?_
                exact w_lvs [false, false] (hj21 r22 hm)
          ·
            replace hm := ite_f hm hc18
            refine w_tabOut (pc := 1) (tgt := 159) hX dX7_drawn_1 (tsw_out (n := 4) (fun i hi => by rcases (show i = 0 ∨ i = 1 ∨ i = 2 ∨ i = 3 ∨ i = 4 by omega) with rfl | rfl | rfl | rfl | rfl <;> assumption)) (by decide) ?_
            refine w_iconst (pc := 159) hX dX7_drawn_159 ic_m1 ?_
            obtain rfl := som hm
            exact w_iret (pc := 160) hX hR dX7_drawn_160 ⟨rfl, rfl⟩
