/-! WALKS, printed by wip/whole/gen.py -/
theorem lX6_lengthTo_X6 : ∀ w ∈ wsX60, w ∈ wsX6_lengthTo := in_at [2, 3, 4, 5, 6] (by decide +kernel)
set_option maxHeartbeats 4000000 in
set_option maxRecDepth 100000 in
theorem ctX6_lengthTo (G : gT) (a_t : Nat → Nat) (v_t : WY) (g1 : Int32) (o : Int32) (hm : mX6_lengthTo v_t g1 = some o) : CT G yX6_lengthTo wsX6_lengthTo rmX6_lengthTo [.ref (a_t 0), .int g1] (wX6 G a_t v_t) (fun v w => v = some (.int o) ∧ w = wX6 G a_t v_t) := by
  refine CT_of (cc := cX6_lengthTo) (maxL := 2) (ret := (some .int)) 0 (by decide +kernel) rfl rfl (cat_ok rfl) (fun X hX hR hN => ?_)
  have hX : Ok G X cX6_lengthTo RX6 wsX6_lengthTo 2 rmX6_lengthTo := hX
  have hX6 : ∀ w ∈ wsX60, w ∈ wsX6_lengthTo := lX6_lengthTo_X6
  unfold mX6_lengthTo at hm
  refine w_iload_n (pc := 0) hX dX6_lengthTo_0 rfl rfl ?_
  refine w_jn (T := fun x1 : Int32 => WW G X 0 0 (wX6 G a_t v_t) [none, none] 23 [.int x1]) hm (fun x1 hm => ?_) (fun j2 hj2 hm => ?_)
  ·
    obtain rfl := som hm
    exact w_iret (pc := 23) hX hR dX6_lengthTo_23 ⟨rfl, rfl⟩
  ·
    refine w_jn (T := fun x3 : Unit => WW G X 0 0 (wX6 G a_t v_t) [none, none] 22 []) hm (fun x3 hm => ?_) (fun j4 hj4 hm => ?_)
    ·
      refine w_iconst (pc := 22) hX dX6_lengthTo_22 ic_m1 ?_
      exact w_lvs [false, false] (hj2 (-1 : Int32) hm)
    ·
      refine w_if_lt (pc := 1) (tgt := 22) hX dX6_lengthTo_1 (by decide) hm (fun hm => ?_) (fun hm => ?_)
      ·
        exact w_lvs [false, false] (hj4 () hm)
      ·
        refine w_iload_n (pc := 4) hX dX6_lengthTo_4 rfl rfl ?_
        refine w_aload_n (pc := 5) hX dX6_lengthTo_5 rfl rfl ?_
        refine gf_X6_lengths (pc := 6) hX dX6_lengthTo_6 hX6 (List.mem_of_getElem? (i := 1) rfl) 0 rfl rfl ?_
        refine w_alen (pc := 9) hX dX6_lengthTo_9 3 rfl ?_
        refine w_icmp_ge (pc := 10) (tgt := 22) hX dX6_lengthTo_10 (by decide) hm (fun hm => ?_) (fun hm => ?_)
        ·
          exact w_lvs [false, false] (hj4 () hm)
        ·
          refine w_aload_n (pc := 13) hX dX6_lengthTo_13 rfl rfl ?_
          refine gf_X6_lengths (pc := 14) hX dX6_lengthTo_14 hX6 (List.mem_of_getElem? (i := 1) rfl) 0 rfl rfl ?_
          refine w_iload_n (pc := 17) hX dX6_lengthTo_17 rfl rfl ?_
          refine w_iald (pc := 18) hX dX6_lengthTo_18 3 rfl hm (fun hm => ?_)
          refine w_goto (pc := 19) (tgt := 23) hX dX6_lengthTo_19 (by decide) ?_
          exact w_lvs [false, false] (hj2 (v_t.2.2.2.1 g1.toNatClampNeg) hm)

theorem lX6_reachCell_X3 : ∀ w ∈ wsX30, w ∈ wsX6_reachCell := in_at [17, 18, 19, 20, 21, 22] (by decide +kernel)
theorem lX6_reachCell_X6 : ∀ w ∈ wsX60, w ∈ wsX6_reachCell := in_at [23, 24, 25, 26, 27] (by decide +kernel)
set_option maxHeartbeats 4000000 in
set_option maxRecDepth 100000 in
theorem ctX6_reachCell (G : gT) (a_t : Nat → Nat) (a_p1 : Nat → Nat) (v_t : WY) (v_p1 : MZ) (g2 : Int32) (g3 : Int32) (o : WY) (hm : mX6_reachCell v_t v_p1 g2 g3 = some o) : CT G yX6_reachCell wsX6_reachCell rmX6_reachCell [.ref (a_t 0), .ref (a_p1 0), .int g2, .int g3] (wX6 G a_t v_t ++ wX3 G a_p1 v_p1) (fun v w => v = none ∧ w = wX6 G a_t o ++ wX3 G a_p1 v_p1) := by
  refine CT_of (cc := cX6_reachCell) (maxL := 5) (ret := none) 1 (by decide +kernel) rfl rfl (cat_ok rfl) (fun X hX hR hN => ?_)
  have hX : Ok G X cX6_reachCell RX6 wsX6_reachCell 5 rmX6_reachCell := hX
  have hX3 : ∀ w ∈ wsX30, w ∈ wsX6_reachCell := lX6_reachCell_X3
  have hX6 : ∀ w ∈ wsX60, w ∈ wsX6_reachCell := lX6_reachCell_X6
  unfold mX6_reachCell at hm
  refine w_bipush (pc := 0) hX dX6_reachCell_0 bp_9 ?_
  refine w_iconst (pc := 2) hX dX6_reachCell_2 ic_2 ?_
  refine w_aload_n (pc := 3) hX dX6_reachCell_3 rfl rfl ?_
  refine gf_X3_tones (pc := 4) hX dX6_reachCell_4 hX3 (List.mem_of_getElem? (i := 1) rfl) 5 rfl rfl ?_
  refine w_iload_n (pc := 7) hX dX6_reachCell_7 rfl rfl ?_
  obtain ⟨r1, hr1, hm⟩ := bnd hm
  refine w_callpi (pc := 8) hX [6] (runSN (rest := [.int (2 : Int32), .int (9 : Int32)]) hX [6] (ctX7_at G (a_p1 1) 36 v_p1.2.2.1 g2 r1 hr1) dX6_reachCell_8 2 gX6_reachCell_X7_at_n38 rfl (List.mem_of_getElem? (i := 14) rfl) ⟨(List.mem_of_getElem? (i := 7) rfl), (List.mem_of_getElem? (i := 8) rfl)⟩ hyX7_at.2 ⟨Nat.le_of_ble_eq_true rfl, Nat.le_of_ble_eq_true rfl⟩ rfl rfl (Nat.le_of_ble_eq_true rfl) ⟨Nat.le_of_ble_eq_true rfl, Nat.le_of_ble_eq_true rfl⟩ rfl (by decide +kernel)) rfl ⟨rfl, rfl⟩ ?_
  refine w_imul (pc := 11) hX dX6_reachCell_11 ?_
  refine w_isub (pc := 12) hX dX6_reachCell_12 ?_
  refine w_istore (pc := 13) hX dX6_reachCell_13 (Nat.le_of_ble_eq_true rfl) ?_
  refine w_aload_n (pc := 15) hX dX6_reachCell_15 rfl rfl ?_
  refine gf_X6_order (pc := 16) hX dX6_reachCell_16 hX6 (List.mem_of_getElem? (i := 2) rfl) 0 rfl rfl ?_
  refine w_aload_n (pc := 19) hX dX6_reachCell_19 rfl rfl ?_
  refine gf_X6_cells (pc := 20) hX dX6_reachCell_20 hX6 (List.mem_of_getElem? (i := 3) rfl) 0 rfl rfl ?_
  refine w_iload_n (pc := 23) hX dX6_reachCell_23 rfl rfl ?_
  obtain ⟨r2, hr2, hm⟩ := bnd hm
  refine w_calldv (pc := 24) (ws' := wX6 G a_t (v_t.1, r2, v_t.2.2.1, v_t.2.2.2.1, v_t.2.2.2.2) ++ wX3 G a_p1 v_p1) (os := [none, some 0, none, none, none, none, none, none, none, none]) 10 hX [1] (runSN (rest := []) hX [1] (ctX7_put G (a_t 1) 36 v_t.2.1 v_t.1 g2 r2 hr2) dX6_reachCell_24 3 gX6_reachCell_X7_put_n59 rfl (List.mem_of_getElem? (i := 15) rfl) ⟨(List.mem_of_getElem? (i := 10) rfl), (List.mem_of_getElem? (i := 8) rfl)⟩ hyX7_put.2 ⟨Nat.le_of_ble_eq_true rfl, Nat.le_of_ble_eq_true rfl⟩ rfl rfl (Nat.le_of_ble_eq_true rfl) ⟨Nat.le_of_ble_eq_true rfl, Nat.le_of_ble_eq_true rfl⟩ rfl (by decide +kernel)) rfl rfl rfl (by decide +kernel) rfl ⟨rfl, rfl⟩ ?_
  refine w_aload_n (pc := 27) hX dX6_reachCell_27 rfl rfl ?_
  refine w_dup (pc := 28) hX dX6_reachCell_28 rfl ?_
  refine gf_X6_cells (pc := 29) hX dX6_reachCell_29 hX6 (List.mem_of_getElem? (i := 3) rfl) 0 rfl rfl ?_
  refine w_iconst (pc := 32) hX dX6_reachCell_32 ic_1 ?_
  refine w_iadd (pc := 33) hX dX6_reachCell_33 ?_
  refine pf_X6_cells (pc := 34) hX dX6_reachCell_34 hX6 (List.mem_of_getElem? (i := 3) rfl) 0 rfl rfl ?_
  refine w_aload_n (pc := 37) hX dX6_reachCell_37 rfl rfl ?_
  refine gf_X6_previous (pc := 38) hX dX6_reachCell_38 hX6 (List.mem_of_getElem? (i := 4) rfl) 0 rfl rfl ?_
  refine w_iload_n (pc := 41) hX dX6_reachCell_41 rfl rfl ?_
  refine w_iload_n (pc := 42) hX dX6_reachCell_42 rfl rfl ?_
  obtain ⟨r3, hr3, hm⟩ := bnd hm
  refine w_calldv (pc := 43) (ws' := wX6 G a_t (v_t.1 + (1 : Int32), r2, r3, v_t.2.2.2.1, v_t.2.2.2.2) ++ wX3 G a_p1 v_p1) (os := [none, none, some 0, none, none, none, none, none, none, none]) 10 hX [2] (runSN (rest := []) hX [2] (ctX7_put G (a_t 2) 36 v_t.2.2.1 g2 g3 r3 hr3) dX6_reachCell_43 3 gX6_reachCell_X7_put_n59 rfl (List.mem_of_getElem? (i := 15) rfl) ⟨(List.mem_of_getElem? (i := 10) rfl), (List.mem_of_getElem? (i := 8) rfl)⟩ hyX7_put.2 ⟨Nat.le_of_ble_eq_true rfl, Nat.le_of_ble_eq_true rfl⟩ rfl rfl (Nat.le_of_ble_eq_true rfl) ⟨Nat.le_of_ble_eq_true rfl, Nat.le_of_ble_eq_true rfl⟩ rfl (by decide +kernel)) rfl rfl rfl (by decide +kernel) rfl ⟨rfl, rfl⟩ ?_
  refine w_aload_n (pc := 46) hX dX6_reachCell_46 rfl rfl ?_
  refine gf_X6_lengths (pc := 47) hX dX6_reachCell_47 hX6 (List.mem_of_getElem? (i := 5) rfl) 0 rfl rfl ?_
  refine w_iload_n (pc := 50) hX dX6_reachCell_50 rfl rfl ?_
  refine w_iload_n (pc := 51) hX dX6_reachCell_51 rfl rfl ?_
  refine w_iconst (pc := 52) hX dX6_reachCell_52 ic_m1 ?_
  refine w_jn (T := fun x4 : Int32 => WW G X 0 0 (wX6 G a_t (v_t.1 + (1 : Int32), r2, r3, v_t.2.2.2.1, v_t.2.2.2.2) ++ wX3 G a_p1 v_p1) [some (.ref (a_t 0)), none, some (.int g2), some (.int g3), some (.int ((9 : Int32) - ((2 : Int32) * r1)))] 67 [.int x4, .int g2, .ref (a_t 3)]) hm (fun x4 hm => ?_) (fun j5 hj5 hm => ?_)
  ·
    obtain ⟨r6, hr6, hm⟩ := bnd hm
    refine w_calldv (pc := 67) (ws' := wX6 G a_t (v_t.1 + (1 : Int32), r2, r3, r6, v_t.2.2.2.2) ++ wX3 G a_p1 v_p1) (os := [none, none, none, some 0, none, none, none, none, none, none]) 10 hX [3] (runSN (rest := []) hX [3] (ctX7_put G (a_t 3) 36 v_t.2.2.2.1 g2 x4 r6 hr6) dX6_reachCell_67 3 gX6_reachCell_X7_put_n59 rfl (List.mem_of_getElem? (i := 15) rfl) ⟨(List.mem_of_getElem? (i := 10) rfl), (List.mem_of_getElem? (i := 8) rfl)⟩ hyX7_put.2 ⟨Nat.le_of_ble_eq_true rfl, Nat.le_of_ble_eq_true rfl⟩ rfl rfl (Nat.le_of_ble_eq_true rfl) ⟨Nat.le_of_ble_eq_true rfl, Nat.le_of_ble_eq_true rfl⟩ rfl (by decide +kernel)) rfl rfl rfl (by decide +kernel) rfl ⟨rfl, rfl⟩ ?_
    refine w_aload_n (pc := 70) hX dX6_reachCell_70 rfl rfl ?_
    refine gf_X6_gains (pc := 71) hX dX6_reachCell_71 hX6 (List.mem_of_getElem? (i := 6) rfl) 0 rfl rfl ?_
    refine w_iload_n (pc := 74) hX dX6_reachCell_74 rfl rfl ?_
    refine w_iload_n (pc := 75) hX dX6_reachCell_75 rfl rfl ?_
    refine w_iconst (pc := 76) hX dX6_reachCell_76 ic_m1 ?_
    refine w_jn (T := fun x7 : Int32 => WW G X 0 0 (wX6 G a_t (v_t.1 + (1 : Int32), r2, r3, r6, v_t.2.2.2.2) ++ wX3 G a_p1 v_p1) [none, none, none, none, none] 96 [.int x7, .int g2, .ref (a_t 4)]) hm (fun x7 hm => ?_) (fun j8 hj8 hm => ?_)
    ·
      obtain ⟨r9, hr9, hm⟩ := bnd hm
      refine w_calldv (pc := 96) (ws' := wX6 G a_t (v_t.1 + (1 : Int32), r2, r3, r6, r9) ++ wX3 G a_p1 v_p1) (os := [none, none, none, none, some 0, none, none, none, none, none]) 10 hX [4] (runSN (rest := []) hX [4] (ctX7_put G (a_t 4) 36 v_t.2.2.2.2 g2 x7 r9 hr9) dX6_reachCell_96 3 gX6_reachCell_X7_put_n59 rfl (List.mem_of_getElem? (i := 15) rfl) ⟨(List.mem_of_getElem? (i := 10) rfl), (List.mem_of_getElem? (i := 8) rfl)⟩ hyX7_put.2 ⟨Nat.le_of_ble_eq_true rfl, Nat.le_of_ble_eq_true rfl⟩ rfl rfl (Nat.le_of_ble_eq_true rfl) ⟨Nat.le_of_ble_eq_true rfl, Nat.le_of_ble_eq_true rfl⟩ rfl (by decide +kernel)) rfl rfl rfl (by decide +kernel) rfl ⟨rfl, rfl⟩ ?_
      obtain rfl := som hm
      exact w_vret (pc := 99) hX hR dX6_reachCell_99 ⟨rfl, rfl⟩
    ·
      refine w_icmp_ne (pc := 77) (tgt := 85) hX dX6_reachCell_77 (by decide) hm (fun hm => ?_) (fun hm => ?_)
      ·
        refine w_aload_n (pc := 85) hX dX6_reachCell_85 rfl rfl ?_
        refine gf_X6_gains (pc := 86) hX dX6_reachCell_86 hX6 (List.mem_of_getElem? (i := 6) rfl) 0 rfl rfl ?_
        refine w_iload_n (pc := 89) hX dX6_reachCell_89 rfl rfl ?_
        obtain ⟨r10, hr10, hm⟩ := bnd hm
        refine w_callpi (pc := 90) hX [4] (runSN (rest := [.int g2, .ref (a_t 4)]) hX [4] (ctX7_at G (a_t 4) 36 v_t.2.2.2.2 g3 r10 hr10) dX6_reachCell_90 2 gX6_reachCell_X7_at_n38 rfl (List.mem_of_getElem? (i := 14) rfl) ⟨(List.mem_of_getElem? (i := 7) rfl), (List.mem_of_getElem? (i := 8) rfl)⟩ hyX7_at.2 ⟨Nat.le_of_ble_eq_true rfl, Nat.le_of_ble_eq_true rfl⟩ rfl rfl (Nat.le_of_ble_eq_true rfl) ⟨Nat.le_of_ble_eq_true rfl, Nat.le_of_ble_eq_true rfl⟩ rfl (by decide +kernel)) rfl ⟨rfl, rfl⟩ ?_
        refine w_iload (pc := 93) hX dX6_reachCell_93 rfl ?_
        refine w_iadd (pc := 95) hX dX6_reachCell_95 ?_
        exact w_lvs [false, false, false, false, false] (hj8 (r10 + ((9 : Int32) - ((2 : Int32) * r1))) hm)
      ·
        refine w_iload (pc := 80) hX dX6_reachCell_80 rfl ?_
        refine w_goto (pc := 82) (tgt := 96) hX dX6_reachCell_82 (by decide) ?_
        exact w_lvs [false, false, false, false, false] (hj8 ((9 : Int32) - ((2 : Int32) * r1)) hm)
  ·
    refine w_icmp_ne (pc := 53) (tgt := 60) hX dX6_reachCell_53 (by decide) hm (fun hm => ?_) (fun hm => ?_)
    ·
      refine w_aload_n (pc := 60) hX dX6_reachCell_60 rfl rfl ?_
      refine w_iload_n (pc := 61) hX dX6_reachCell_61 rfl rfl ?_
      obtain ⟨r11, hr11, hm⟩ := bnd hm
      refine w_callpi (pc := 62) hX [0, 1, 2, 3, 4] (runV (rest := [.int g2, .ref (a_t 3)]) hX [0, 1, 2, 3, 4] (ctX6_lengthTo G a_t (v_t.1 + (1 : Int32), r2, r3, v_t.2.2.2.1, v_t.2.2.2.2) g3 r11 hr11) dX6_reachCell_62 1 gX6_reachCell_X6_lengthTo rfl hyX6_lengthTo ⟨Nat.le_of_ble_eq_true rfl, Nat.le_of_ble_eq_true rfl⟩ 0 rfl rfl rfl rfl (Nat.le_of_ble_eq_true rfl) ⟨Nat.le_of_ble_eq_true rfl, Nat.le_of_ble_eq_true rfl⟩ rfl (by decide +kernel)) rfl ⟨rfl, rfl⟩ ?_
      refine w_iconst (pc := 65) hX dX6_reachCell_65 ic_1 ?_
      refine w_iadd (pc := 66) hX dX6_reachCell_66 ?_
      exact w_lvs [true, false, true, true, true] (hj5 (r11 + (1 : Int32)) hm)
    ·
      refine w_iconst (pc := 56) hX dX6_reachCell_56 ic_0 ?_
      refine w_goto (pc := 57) (tgt := 67) hX dX6_reachCell_57 (by decide) ?_
      exact w_lvs [true, false, true, true, true] (hj5 (0 : Int32) hm)

set_option maxHeartbeats 4000000 in
set_option maxRecDepth 100000 in
theorem ctX6_reach (G : gT) (a_t : Nat → Nat) (v_t : WY) (g1 : Int32) (o : Int32) (hm : mX6_reach v_t g1 = some o) : CT G yX6_reach wsX6_reach rmX6_reach [.ref (a_t 0), .int g1] (wX6 G a_t v_t) (fun v w => v = some (.int o) ∧ w = wX6 G a_t v_t) := by
  refine CT_of (cc := cX6_reach) (maxL := 2) (ret := (some .boolean)) 0 (by decide +kernel) rfl rfl (cat_ok rfl) (fun X hX hR hN => ?_)
  have hX : Ok G X cX6_reach RX6 wsX6_reach 2 rmX6_reach := hX
  unfold mX6_reach at hm
  refine w_aload_n (pc := 0) hX dX6_reach_0 rfl rfl ?_
  refine w_iload_n (pc := 1) hX dX6_reach_1 rfl rfl ?_
  obtain ⟨r1, hr1, hm⟩ := bnd hm
  refine w_callpi (pc := 2) hX [0, 1, 2, 3, 4] (runV (rest := []) hX [0, 1, 2, 3, 4] (ctX6_lengthTo G a_t v_t g1 r1 hr1) dX6_reach_2 1 gX6_reach_X6_lengthTo rfl hyX6_lengthTo ⟨Nat.le_of_ble_eq_true rfl, Nat.le_of_ble_eq_true rfl⟩ 0 rfl rfl rfl rfl (Nat.le_of_ble_eq_true rfl) ⟨Nat.le_of_ble_eq_true rfl, Nat.le_of_ble_eq_true rfl⟩ rfl (by decide +kernel)) rfl ⟨rfl, rfl⟩ ?_
  refine w_iconst (pc := 5) hX dX6_reach_5 ic_m1 ?_
  refine w_jn (T := fun x2 : Int32 => WW G X 0 0 (wX6 G a_t v_t) [none, none] 14 [.int x2]) hm (fun x2 hm => ?_) (fun j3 hj3 hm => ?_)
  ·
    refine w_zret (pc := 14) hX hR dX6_reach_14 hm (fun hm => ?_)
    obtain rfl := som hm
    exact ⟨rfl, rfl⟩
  ·
    refine w_icmp_eq (pc := 6) (tgt := 13) hX dX6_reach_6 (by decide) hm (fun hm => ?_) (fun hm => ?_)
    ·
      refine w_iconst (pc := 13) hX dX6_reach_13 ic_0 ?_
      exact w_lvs [false, false] (hj3 (0 : Int32) hm)
    ·
      refine w_iconst (pc := 9) hX dX6_reach_9 ic_1 ?_
      refine w_goto (pc := 10) (tgt := 14) hX dX6_reach_10 (by decide) ?_
      exact w_lvs [false, false] (hj3 (1 : Int32) hm)

theorem lX6_findFrom_X6 : ∀ w ∈ wsX60, w ∈ wsX6_findFrom := in_at [41, 42, 43, 44, 45] (by decide +kernel)
set_option maxHeartbeats 4000000 in
set_option maxRecDepth 100000 in
theorem ctX6_findFrom (G : gT) (F : Nat) (a_t : Nat → Nat) (a_p1 : Nat → Nat) (v_t : WY) (v_p1 : MZ) (g2 : Int32) (o : WY) (hm : mX6_findFrom F v_t v_p1 g2 = some o) : CT G yX6_findFrom wsX6_findFrom rmX6_findFrom [.ref (a_t 0), .ref (a_p1 0), .int g2] (wX6 G a_t v_t ++ wX3 G a_p1 v_p1) (fun v w => v = none ∧ w = wX6 G a_t o ++ wX3 G a_p1 v_p1) := by
  refine CT_of (cc := cX6_findFrom) (maxL := 7) (ret := none) 4 (by decide +kernel) rfl rfl (cat_ok rfl) (fun X hX hR hN => ?_)
  have hX : Ok G X cX6_findFrom RX6 wsX6_findFrom 7 rmX6_findFrom := hX
  have hX6 : ∀ w ∈ wsX60, w ∈ wsX6_findFrom := lX6_findFrom_X6
  unfold mX6_findFrom at hm
  refine w_aload_n (pc := 0) hX dX6_findFrom_0 rfl rfl ?_
  refine gf_X6_lengths (pc := 1) hX dX6_findFrom_1 hX6 (List.mem_of_getElem? (i := 1) rfl) 0 rfl rfl ?_
  refine w_iconst (pc := 4) hX dX6_findFrom_4 ic_m1 ?_
  obtain ⟨r1, hr1, hm⟩ := bnd hm
  refine w_calldv (pc := 5) (ws' := wX6 G a_t (v_t.1, v_t.2.1, v_t.2.2.1, r1, v_t.2.2.2.2) ++ wX3 G a_p1 v_p1) (os := [none, none, none, some 0, none, none, none, none, none, none]) 10 hX [3] (runS (rest := []) hX [3] (ctJ7_fill_53178 G F (a_t 3) 36 v_t.2.2.2.1 (-1 : Int32) r1 hr1) dX6_findFrom_5 2 gX6_findFrom_J7_fill_53178 rfl hyJ7_fill_53178.2 ⟨Nat.le_of_ble_eq_true rfl, Nat.le_of_ble_eq_true rfl⟩ rfl rfl (Nat.le_of_ble_eq_true rfl) ⟨Nat.le_of_ble_eq_true rfl, Nat.le_of_ble_eq_true rfl⟩ rfl (by decide +kernel)) rfl rfl rfl (by decide +kernel) rfl ⟨rfl, rfl⟩ ?_
  refine w_aload_n (pc := 8) hX dX6_findFrom_8 rfl rfl ?_
  refine w_iconst (pc := 9) hX dX6_findFrom_9 ic_0 ?_
  refine pf_X6_cells (pc := 10) hX dX6_findFrom_10 hX6 (List.mem_of_getElem? (i := 2) rfl) 0 rfl rfl ?_
  refine w_aload_n (pc := 13) hX dX6_findFrom_13 rfl rfl ?_
  refine w_aload_n (pc := 14) hX dX6_findFrom_14 rfl rfl ?_
  refine w_iload_n (pc := 15) hX dX6_findFrom_15 rfl rfl ?_
  refine w_iconst (pc := 16) hX dX6_findFrom_16 ic_m1 ?_
  obtain ⟨r2, hr2, hm⟩ := bnd hm
  refine w_calldv (pc := 17) (ws' := wX6 G a_t r2 ++ wX3 G a_p1 v_p1) (os := [some 0, some 1, some 2, some 3, some 4, some 5, some 6, some 7, some 8, some 9]) 10 hX [0, 1, 2, 3, 4, 5, 6, 7, 8, 9] (runV (rest := []) hX [0, 1, 2, 3, 4, 5, 6, 7, 8, 9] (ctX6_reachCell G a_t a_p1 ((0 : Int32), v_t.2.1, v_t.2.2.1, r1, v_t.2.2.2.2) v_p1 g2 (-1 : Int32) r2 hr2) dX6_findFrom_17 3 gX6_findFrom_X6_reachCell rfl hyX6_reachCell ⟨Nat.le_of_ble_eq_true rfl, Nat.le_of_ble_eq_true rfl⟩ 0 rfl rfl rfl rfl (Nat.le_of_ble_eq_true rfl) ⟨Nat.le_of_ble_eq_true rfl, Nat.le_of_ble_eq_true rfl⟩ rfl (by decide +kernel)) rfl rfl rfl (by decide +kernel) rfl ⟨rfl, rfl⟩ ?_
  refine w_iconst (pc := 20) hX dX6_findFrom_20 ic_0 ?_
  refine w_istore_n (pc := 21) hX dX6_findFrom_21 rfl (Nat.le_of_ble_eq_true rfl) ?_
  refine w_jn (T := fun x3 : WY => WW G X 0 0 (wX6 G a_t x3 ++ wX3 G a_p1 v_p1) [none, none, none, none, none, none, none] 106 []) hm (fun x3 hm => ?_) (fun j4 hj4 hm => ?_)
  ·
    unfold mX6_findFrom_K106 at hm
    obtain rfl := som hm
    exact w_vret (pc := 106) hX hR dX6_findFrom_106 ⟨rfl, rfl⟩
  ·
    refine w_lvs [true, true, false, true, false, false, false] ?_
    refine lpr_ind (T := fun x5 : (Int32 × WY) => WW G X 0 0 (wX6 G a_t x5.2 ++ wX3 G a_p1 v_p1) [some (.ref (a_t 0)), some (.ref (a_p1 0)), none, some (.int x5.1), none, none, none] 22 []) (fun self6 hself6 x5 hm => ?_) F ((0 : Int32), r2) hm
    unfold mX6_findFrom_L22 at hm
    refine w_iload_n (pc := 22) hX dX6_findFrom_22 rfl rfl ?_
    refine w_aload_n (pc := 23) hX dX6_findFrom_23 rfl rfl ?_
    refine gf_X6_cells (pc := 24) hX dX6_findFrom_24 hX6 (List.mem_of_getElem? (i := 2) rfl) 0 rfl rfl ?_
    refine w_icmp_ge (pc := 27) (tgt := 106) hX dX6_findFrom_27 (by decide) hm (fun hm => ?_) (fun hm => ?_)
    ·
      exact w_lvs [false, false, false, false, false, false, false] (hj4 x5.2 hm)
    ·
      refine w_iload_n (pc := 30) hX dX6_findFrom_30 rfl rfl ?_
      refine w_bipush (pc := 31) hX dX6_findFrom_31 bp_36 ?_
      refine w_icmp_ge (pc := 33) (tgt := 106) hX dX6_findFrom_33 (by decide) hm (fun hm => ?_) (fun hm => ?_)
      ·
        exact w_lvs [false, false, false, false, false, false, false] (hj4 x5.2 hm)
      ·
        refine w_aload_n (pc := 36) hX dX6_findFrom_36 rfl rfl ?_
        refine gf_X6_order (pc := 37) hX dX6_findFrom_37 hX6 (List.mem_of_getElem? (i := 3) rfl) 0 rfl rfl ?_
        refine w_iload_n (pc := 40) hX dX6_findFrom_40 rfl rfl ?_
        obtain ⟨r7, hr7, hm⟩ := bnd hm
        refine w_callpi (pc := 41) hX [1] (runSN (rest := []) hX [1] (ctX7_at G (a_t 1) 36 x5.2.2.1 x5.1 r7 hr7) dX6_findFrom_41 2 gX6_findFrom_X7_at_n38 rfl (List.mem_of_getElem? (i := 14) rfl) ⟨(List.mem_of_getElem? (i := 16) rfl), (List.mem_of_getElem? (i := 17) rfl)⟩ hyX7_at.2 ⟨Nat.le_of_ble_eq_true rfl, Nat.le_of_ble_eq_true rfl⟩ rfl rfl (Nat.le_of_ble_eq_true rfl) ⟨Nat.le_of_ble_eq_true rfl, Nat.le_of_ble_eq_true rfl⟩ rfl (by decide +kernel)) rfl ⟨rfl, rfl⟩ ?_
        refine w_istore (pc := 44) hX dX6_findFrom_44 (Nat.le_of_ble_eq_true rfl) ?_
        refine w_iconst (pc := 46) hX dX6_findFrom_46 ic_0 ?_
        refine w_istore (pc := 47) hX dX6_findFrom_47 (Nat.le_of_ble_eq_true rfl) ?_
        refine w_jn (T := fun x8 : WY => WW G X 0 0 (wX6 G a_t x8 ++ wX3 G a_p1 v_p1) [some (.ref (a_t 0)), some (.ref (a_p1 0)), none, some (.int x5.1), none, none, none] 100 []) hm (fun x8 hm => ?_) (fun j9 hj9 hm => ?_)
        ·
          unfold mX6_findFrom_K100 at hm
          refine w_iinc (pc := 100) hX dX6_findFrom_100 rfl (Nat.le_of_ble_eq_true rfl) ic_1 ?_
          refine w_goto (pc := 103) (tgt := 22) hX dX6_findFrom_103 (by decide) ?_
          exact w_lvs [true, true, false, true, false, false, false] (hself6 (x5.1 + (1 : Int32), x8) hm)
        ·
          refine w_lvs [true, true, false, true, true, true, false] ?_
          refine lpr_ind (T := fun x10 : (Int32 × WY) => WW G X 0 0 (wX6 G a_t x10.2 ++ wX3 G a_p1 v_p1) [some (.ref (a_t 0)), some (.ref (a_p1 0)), none, some (.int x5.1), some (.int r7), some (.int x10.1), none] 49 []) (fun self11 hself11 x10 hm => ?_) F ((0 : Int32), x5.2) hm
          unfold mX6_findFrom_L49 at hm
          refine w_iload (pc := 49) hX dX6_findFrom_49 rfl ?_
          refine w_iconst (pc := 51) hX dX6_findFrom_51 ic_4 ?_
          refine w_icmp_ge (pc := 52) (tgt := 100) hX dX6_findFrom_52 (by decide) hm (fun hm => ?_) (fun hm => ?_)
          ·
            exact w_lvs [true, true, false, true, false, false, false] (hj9 x10.2 hm)
          ·
            refine w_aload_n (pc := 55) hX dX6_findFrom_55 rfl rfl ?_
            refine w_iload (pc := 56) hX dX6_findFrom_56 rfl ?_
            refine w_iload (pc := 58) hX dX6_findFrom_58 rfl ?_
            obtain ⟨r12, hr12, hm⟩ := bnd hm
            refine w_callpi (pc := 60) hX [5, 6, 7, 8, 9] (runV (rest := []) hX [5, 6, 7, 8, 9] (ctX3_beside G a_p1 v_p1 r7 x10.1 r12 hr12) dX6_findFrom_60 2 gX6_findFrom_X3_beside rfl hyX3_beside ⟨Nat.le_of_ble_eq_true rfl, Nat.le_of_ble_eq_true rfl⟩ 5 rfl rfl rfl rfl (Nat.le_of_ble_eq_true rfl) ⟨Nat.le_of_ble_eq_true rfl, Nat.le_of_ble_eq_true rfl⟩ rfl (by decide +kernel)) rfl ⟨rfl, rfl⟩ ?_
            refine w_istore (pc := 63) hX dX6_findFrom_63 (Nat.le_of_ble_eq_true rfl) ?_
            refine w_aload_n (pc := 65) hX dX6_findFrom_65 rfl rfl ?_
            refine w_iload (pc := 66) hX dX6_findFrom_66 rfl ?_
            refine w_iload (pc := 68) hX dX6_findFrom_68 rfl ?_
            obtain ⟨r13, hr13, hm⟩ := bnd hm
            refine w_callpi (pc := 70) hX [5, 6, 7, 8, 9] (runV (rest := []) hX [5, 6, 7, 8, 9] (ctX3_hasPassage G a_p1 v_p1 r7 x10.1 r13 hr13) dX6_findFrom_70 2 gX6_findFrom_X3_hasPassage rfl hyX3_hasPassage ⟨Nat.le_of_ble_eq_true rfl, Nat.le_of_ble_eq_true rfl⟩ 5 rfl rfl rfl rfl (Nat.le_of_ble_eq_true rfl) ⟨Nat.le_of_ble_eq_true rfl, Nat.le_of_ble_eq_true rfl⟩ rfl (by decide +kernel)) rfl ⟨rfl, rfl⟩ ?_
            refine w_jn (T := fun x14 : WY => WW G X 0 0 (wX6 G a_t x14 ++ wX3 G a_p1 v_p1) [some (.ref (a_t 0)), some (.ref (a_p1 0)), none, some (.int x5.1), some (.int r7), some (.int x10.1), none] 94 []) hm (fun x14 hm => ?_) (fun j15 hj15 hm => ?_)
            ·
              refine w_iinc (pc := 94) hX dX6_findFrom_94 rfl (Nat.le_of_ble_eq_true rfl) ic_1 ?_
              refine w_goto (pc := 97) (tgt := 49) hX dX6_findFrom_97 (by decide) ?_
              exact w_lvs [true, true, false, true, true, true, false] (hself11 (x10.1 + (1 : Int32), x14) hm)
            ·
              refine w_if_eq (pc := 73) (tgt := 94) hX dX6_findFrom_73 (by decide) hm (fun hm => ?_) (fun hm => ?_)
              ·
                exact w_lvs [true, true, false, true, true, true, false] (hj15 x10.2 hm)
              ·
                refine w_aload_n (pc := 76) hX dX6_findFrom_76 rfl rfl ?_
                refine w_iload (pc := 77) hX dX6_findFrom_77 rfl ?_
                obtain ⟨r16, hr16, hm⟩ := bnd hm
                refine w_callpi (pc := 79) hX [0, 1, 2, 3, 4] (runV (rest := []) hX [0, 1, 2, 3, 4] (ctX6_reach G a_t x10.2 r12 r16 hr16) dX6_findFrom_79 1 gX6_findFrom_X6_reach rfl hyX6_reach ⟨Nat.le_of_ble_eq_true rfl, Nat.le_of_ble_eq_true rfl⟩ 0 rfl rfl rfl rfl (Nat.le_of_ble_eq_true rfl) ⟨Nat.le_of_ble_eq_true rfl, Nat.le_of_ble_eq_true rfl⟩ rfl (by decide +kernel)) rfl ⟨rfl, rfl⟩ ?_
                refine w_if_ne (pc := 82) (tgt := 94) hX dX6_findFrom_82 (by decide) hm (fun hm => ?_) (fun hm => ?_)
                ·
                  exact w_lvs [true, true, false, true, true, true, false] (hj15 x10.2 hm)
                ·
                  refine w_aload_n (pc := 85) hX dX6_findFrom_85 rfl rfl ?_
                  refine w_aload_n (pc := 86) hX dX6_findFrom_86 rfl rfl ?_
                  refine w_iload (pc := 87) hX dX6_findFrom_87 rfl ?_
                  refine w_iload (pc := 89) hX dX6_findFrom_89 rfl ?_
                  obtain ⟨r17, hr17, hm⟩ := bnd hm
                  refine w_calldv (pc := 91) (ws' := wX6 G a_t r17 ++ wX3 G a_p1 v_p1) (os := [some 0, some 1, some 2, some 3, some 4, some 5, some 6, some 7, some 8, some 9]) 10 hX [0, 1, 2, 3, 4, 5, 6, 7, 8, 9] (runV (rest := []) hX [0, 1, 2, 3, 4, 5, 6, 7, 8, 9] (ctX6_reachCell G a_t a_p1 x10.2 v_p1 r12 r7 r17 hr17) dX6_findFrom_91 3 gX6_findFrom_X6_reachCell rfl hyX6_reachCell ⟨Nat.le_of_ble_eq_true rfl, Nat.le_of_ble_eq_true rfl⟩ 0 rfl rfl rfl rfl (Nat.le_of_ble_eq_true rfl) ⟨Nat.le_of_ble_eq_true rfl, Nat.le_of_ble_eq_true rfl⟩ rfl (by decide +kernel)) rfl rfl rfl (by decide +kernel) rfl ⟨rfl, rfl⟩ ?_
                  exact w_lvs [true, true, false, true, true, true, false] (hj15 r17 hm)

theorem lX0_join_X0 : ∀ w ∈ wsX00, w ∈ wsX0_join := in_at [5] (by decide +kernel)
set_option maxHeartbeats 4000000 in
set_option maxRecDepth 100000 in
theorem ctX0_join (G : gT) (F : Nat) (a_t : Nat → Nat) (v_t : BD) (g1 : Int32) (g2 : Int32) (o : BD) (hm : mX0_join F v_t g1 g2 = some o) : CT G yX0_join wsX0_join rmX0_join [.ref (a_t 0), .int g1, .int g2] (wX0 G a_t v_t) (fun v w => v = none ∧ w = wX0 G a_t o) := by
  refine CT_of (cc := cX0_join) (maxL := 6) (ret := none) 3 (by decide +kernel) rfl rfl (cat_ok rfl) (fun X hX hR hN => ?_)
  have hX : Ok G X cX0_join RX0 wsX0_join 6 rmX0_join := hX
  have hX0 : ∀ w ∈ wsX00, w ∈ wsX0_join := lX0_join_X0
  unfold mX0_join at hm
  refine w_aload_n (pc := 0) hX dX0_join_0 rfl rfl ?_
  refine gf_X0_partOf (pc := 1) hX dX0_join_1 hX0 (List.mem_of_getElem? (i := 1) rfl) 0 rfl rfl ?_
  refine w_iload_n (pc := 4) hX dX0_join_4 rfl rfl ?_
  obtain ⟨r1, hr1, hm⟩ := bnd hm
  refine w_callpi (pc := 5) hX [1] (runSN (rest := []) hX [1] (ctX7_at G (a_t 1) 36 v_t g1 r1 hr1) dX0_join_5 2 gX0_join_X7_at_n48 rfl (List.mem_of_getElem? (i := 5) rfl) ⟨(List.mem_of_getElem? (i := 2) rfl), (List.mem_of_getElem? (i := 3) rfl)⟩ hyX7_at.2 ⟨Nat.le_of_ble_eq_true rfl, Nat.le_of_ble_eq_true rfl⟩ rfl rfl (Nat.le_of_ble_eq_true rfl) ⟨Nat.le_of_ble_eq_true rfl, Nat.le_of_ble_eq_true rfl⟩ rfl (by decide +kernel)) rfl ⟨rfl, rfl⟩ ?_
  refine w_istore_n (pc := 8) hX dX0_join_8 rfl (Nat.le_of_ble_eq_true rfl) ?_
  refine w_aload_n (pc := 9) hX dX0_join_9 rfl rfl ?_
  refine gf_X0_partOf (pc := 10) hX dX0_join_10 hX0 (List.mem_of_getElem? (i := 1) rfl) 0 rfl rfl ?_
  refine w_iload_n (pc := 13) hX dX0_join_13 rfl rfl ?_
  obtain ⟨r2, hr2, hm⟩ := bnd hm
  refine w_callpi (pc := 14) hX [1] (runSN (rest := []) hX [1] (ctX7_at G (a_t 1) 36 v_t g2 r2 hr2) dX0_join_14 2 gX0_join_X7_at_n48 rfl (List.mem_of_getElem? (i := 5) rfl) ⟨(List.mem_of_getElem? (i := 2) rfl), (List.mem_of_getElem? (i := 3) rfl)⟩ hyX7_at.2 ⟨Nat.le_of_ble_eq_true rfl, Nat.le_of_ble_eq_true rfl⟩ rfl rfl (Nat.le_of_ble_eq_true rfl) ⟨Nat.le_of_ble_eq_true rfl, Nat.le_of_ble_eq_true rfl⟩ rfl (by decide +kernel)) rfl ⟨rfl, rfl⟩ ?_
  refine w_istore (pc := 17) hX dX0_join_17 (Nat.le_of_ble_eq_true rfl) ?_
  refine w_iconst (pc := 19) hX dX0_join_19 ic_0 ?_
  refine w_istore (pc := 20) hX dX0_join_20 (Nat.le_of_ble_eq_true rfl) ?_
  refine w_lvs [true, false, false, true, true, true] ?_
  refine lpr_ind (T := fun x3 : (Int32 × BD) => WW G X 0 0 (wX0 G a_t x3.2) [some (.ref (a_t 0)), none, none, some (.int r1), some (.int r2), some (.int x3.1)] 22 []) (fun self4 hself4 x3 hm => ?_) F ((0 : Int32), v_t) hm
  unfold mX0_join_L22 at hm
  refine w_iload (pc := 22) hX dX0_join_22 rfl ?_
  refine w_aload_n (pc := 24) hX dX0_join_24 rfl rfl ?_
  refine gf_X0_partOf (pc := 25) hX dX0_join_25 hX0 (List.mem_of_getElem? (i := 1) rfl) 0 rfl rfl ?_
  refine w_alen (pc := 28) hX dX0_join_28 1 rfl ?_
  refine w_icmp_ge (pc := 29) (tgt := 58) hX dX0_join_29 (by decide) hm (fun hm => ?_) (fun hm => ?_)
  ·
    obtain rfl := som hm
    exact w_vret (pc := 58) hX hR dX0_join_58 ⟨rfl, rfl⟩
  ·
    refine w_aload_n (pc := 32) hX dX0_join_32 rfl rfl ?_
    refine gf_X0_partOf (pc := 33) hX dX0_join_33 hX0 (List.mem_of_getElem? (i := 1) rfl) 0 rfl rfl ?_
    refine w_iload (pc := 36) hX dX0_join_36 rfl ?_
    refine w_iald (pc := 38) hX dX0_join_38 1 rfl hm (fun hm => ?_)
    refine w_iload (pc := 39) hX dX0_join_39 rfl ?_
    refine w_jn (T := fun x5 : BD => WW G X 0 0 (wX0 G a_t x5) [some (.ref (a_t 0)), none, none, some (.int r1), some (.int r2), some (.int x3.1)] 52 []) hm (fun x5 hm => ?_) (fun j6 hj6 hm => ?_)
    ·
      refine w_iinc (pc := 52) hX dX0_join_52 rfl (Nat.le_of_ble_eq_true rfl) ic_1 ?_
      refine w_goto (pc := 55) (tgt := 22) hX dX0_join_55 (by decide) ?_
      exact w_lvs [true, false, false, true, true, true] (hself4 (x3.1 + (1 : Int32), x5) hm)
    ·
      refine w_icmp_ne (pc := 41) (tgt := 52) hX dX0_join_41 (by decide) hm (fun hm => ?_) (fun hm => ?_)
      ·
        exact w_lvs [true, false, false, true, true, true] (hj6 x3.2 hm)
      ·
        refine w_aload_n (pc := 44) hX dX0_join_44 rfl rfl ?_
        refine gf_X0_partOf (pc := 45) hX dX0_join_45 hX0 (List.mem_of_getElem? (i := 1) rfl) 0 rfl rfl ?_
        refine w_iload (pc := 48) hX dX0_join_48 rfl ?_
        refine w_iload_n (pc := 50) hX dX0_join_50 rfl rfl ?_
        refine w_iast (pc := 51) hX dX0_join_51 1 rfl hm (fun hm => ?_)
        exact w_lvs [true, false, false, true, true, true] (hj6 (upd x3.2 x3.1.toNatClampNeg r1) hm)

theorem lX0_findParts_X0 : ∀ w ∈ wsX00, w ∈ wsX0_findParts := in_at [46] (by decide +kernel)
set_option maxHeartbeats 4000000 in
set_option maxRecDepth 100000 in
theorem ctX0_findParts (G : gT) (F : Nat) (a_t : Nat → Nat) (a_p1 : Nat → Nat) (v_t : BD) (v_p1 : MZ) (o : BD) (hm : mX0_findParts F v_t v_p1 = some o) : CT G yX0_findParts wsX0_findParts rmX0_findParts [.ref (a_t 0), .ref (a_p1 0)] (wX0 G a_t v_t ++ wX3 G a_p1 v_p1) (fun v w => v = none ∧ w = wX0 G a_t o ++ wX3 G a_p1 v_p1) := by
  refine CT_of (cc := cX0_findParts) (maxL := 3) (ret := none) 1 (by decide +kernel) rfl rfl (cat_ok rfl) (fun X hX hR hN => ?_)
  have hX : Ok G X cX0_findParts RX0 wsX0_findParts 3 rmX0_findParts := hX
  have hX0 : ∀ w ∈ wsX00, w ∈ wsX0_findParts := lX0_findParts_X0
  unfold mX0_findParts at hm
  refine w_iconst (pc := 0) hX dX0_findParts_0 ic_0 ?_
  refine w_istore_n (pc := 1) hX dX0_findParts_1 rfl (Nat.le_of_ble_eq_true rfl) ?_
  refine w_jn (T := fun x1 : BD => WW G X 0 0 (wX0 G a_t x1 ++ wX3 G a_p1 v_p1) [some (.ref (a_t 0)), some (.ref (a_p1 0)), none] 24 []) hm (fun x1 hm => ?_) (fun j2 hj2 hm => ?_)
  ·
    unfold mX0_findParts_K24 at hm
    refine w_iconst (pc := 24) hX dX0_findParts_24 ic_0 ?_
    refine w_istore_n (pc := 25) hX dX0_findParts_25 rfl (Nat.le_of_ble_eq_true rfl) ?_
    refine w_lvs [true, true, true] ?_
    refine lpr_ind (T := fun x3 : (Int32 × BD) => WW G X 0 0 (wX0 G a_t x3.2 ++ wX3 G a_p1 v_p1) [some (.ref (a_t 0)), some (.ref (a_p1 0)), some (.int x3.1)] 26 []) (fun self4 hself4 x3 hm => ?_) F ((0 : Int32), x1) hm
    unfold mX0_findParts_L26 at hm
    refine w_iload_n (pc := 26) hX dX0_findParts_26 rfl rfl ?_
    refine w_aload_n (pc := 27) hX dX0_findParts_27 rfl rfl ?_
    obtain ⟨r5, hr5, hm⟩ := bnd hm
    refine w_callpi (pc := 28) hX [2, 3, 4, 5, 6] (runV (rest := [.int x3.1]) hX [2, 3, 4, 5, 6] (ctX3_places G a_p1 v_p1 r5 hr5) dX0_findParts_28 0 gX0_findParts_X3_places rfl hyX3_places ⟨Nat.le_of_ble_eq_true rfl, Nat.le_of_ble_eq_true rfl⟩ 2 rfl rfl rfl rfl (Nat.le_of_ble_eq_true rfl) ⟨Nat.le_of_ble_eq_true rfl, Nat.le_of_ble_eq_true rfl⟩ rfl (by decide +kernel)) rfl ⟨rfl, rfl⟩ ?_
    refine w_icmp_ge (pc := 31) (tgt := 62) hX dX0_findParts_31 (by decide) hm (fun hm => ?_) (fun hm => ?_)
    ·
      obtain rfl := som hm
      exact w_vret (pc := 62) hX hR dX0_findParts_62 ⟨rfl, rfl⟩
    ·
      refine w_aload_n (pc := 34) hX dX0_findParts_34 rfl rfl ?_
      refine w_iload_n (pc := 35) hX dX0_findParts_35 rfl rfl ?_
      obtain ⟨r6, hr6, hm⟩ := bnd hm
      refine w_callpi (pc := 36) hX [2, 3, 4, 5, 6] (runV (rest := []) hX [2, 3, 4, 5, 6] (ctX3_isOpenPlace G a_p1 v_p1 x3.1 r6 hr6) dX0_findParts_36 1 gX0_findParts_X3_isOpenPlace rfl hyX3_isOpenPlace ⟨Nat.le_of_ble_eq_true rfl, Nat.le_of_ble_eq_true rfl⟩ 2 rfl rfl rfl rfl (Nat.le_of_ble_eq_true rfl) ⟨Nat.le_of_ble_eq_true rfl, Nat.le_of_ble_eq_true rfl⟩ rfl (by decide +kernel)) rfl ⟨rfl, rfl⟩ ?_
      refine w_jn (T := fun x7 : BD => WW G X 0 0 (wX0 G a_t x7 ++ wX3 G a_p1 v_p1) [some (.ref (a_t 0)), some (.ref (a_p1 0)), some (.int x3.1)] 56 []) hm (fun x7 hm => ?_) (fun j8 hj8 hm => ?_)
      ·
        refine w_iinc (pc := 56) hX dX0_findParts_56 rfl (Nat.le_of_ble_eq_true rfl) ic_1 ?_
        refine w_goto (pc := 59) (tgt := 26) hX dX0_findParts_59 (by decide) ?_
        exact w_lvs [true, true, true] (hself4 (x3.1 + (1 : Int32), x7) hm)
      ·
        refine w_if_eq (pc := 39) (tgt := 56) hX dX0_findParts_39 (by decide) hm (fun hm => ?_) (fun hm => ?_)
        ·
          exact w_lvs [true, true, true] (hj8 x3.2 hm)
        ·
          refine w_aload_n (pc := 42) hX dX0_findParts_42 rfl rfl ?_
          refine w_aload_n (pc := 43) hX dX0_findParts_43 rfl rfl ?_
          refine w_iload_n (pc := 44) hX dX0_findParts_44 rfl rfl ?_
          obtain ⟨r9, hr9, hm⟩ := bnd hm
          refine w_callpi (pc := 45) hX [2, 3, 4, 5, 6] (runV (rest := [.ref (a_t 0)]) hX [2, 3, 4, 5, 6] (ctX3_lowEnd G a_p1 v_p1 x3.1 r9 hr9) dX0_findParts_45 1 gX0_findParts_X3_lowEnd rfl hyX3_lowEnd ⟨Nat.le_of_ble_eq_true rfl, Nat.le_of_ble_eq_true rfl⟩ 2 rfl rfl rfl rfl (Nat.le_of_ble_eq_true rfl) ⟨Nat.le_of_ble_eq_true rfl, Nat.le_of_ble_eq_true rfl⟩ rfl (by decide +kernel)) rfl ⟨rfl, rfl⟩ ?_
          refine w_aload_n (pc := 48) hX dX0_findParts_48 rfl rfl ?_
          refine w_iload_n (pc := 49) hX dX0_findParts_49 rfl rfl ?_
          obtain ⟨r10, hr10, hm⟩ := bnd hm
          refine w_callpi (pc := 50) hX [2, 3, 4, 5, 6] (runV (rest := [.int r9, .ref (a_t 0)]) hX [2, 3, 4, 5, 6] (ctX3_highEnd G a_p1 v_p1 x3.1 r10 hr10) dX0_findParts_50 1 gX0_findParts_X3_highEnd rfl hyX3_highEnd ⟨Nat.le_of_ble_eq_true rfl, Nat.le_of_ble_eq_true rfl⟩ 2 rfl rfl rfl rfl (Nat.le_of_ble_eq_true rfl) ⟨Nat.le_of_ble_eq_true rfl, Nat.le_of_ble_eq_true rfl⟩ rfl (by decide +kernel)) rfl ⟨rfl, rfl⟩ ?_
          obtain ⟨r11, hr11, hm⟩ := bnd hm
          refine w_calldv (pc := 53) (ws' := wX0 G a_t r11 ++ wX3 G a_p1 v_p1) (os := [some 0, some 1, none, none, none, none, none]) 7 hX [0, 1] (runV (rest := []) hX [0, 1] (ctX0_join G F a_t x3.2 r9 r10 r11 hr11) dX0_findParts_53 2 gX0_findParts_X0_join rfl hyX0_join ⟨Nat.le_of_ble_eq_true rfl, Nat.le_of_ble_eq_true rfl⟩ 0 rfl rfl rfl rfl (Nat.le_of_ble_eq_true rfl) ⟨Nat.le_of_ble_eq_true rfl, Nat.le_of_ble_eq_true rfl⟩ rfl (by decide +kernel)) rfl rfl rfl (by decide +kernel) rfl ⟨rfl, rfl⟩ ?_
          exact w_lvs [true, true, true] (hj8 r11 hm)
  ·
    refine w_lvs [true, true, true] ?_
    refine lpr_ind (T := fun x12 : (Int32 × BD) => WW G X 0 0 (wX0 G a_t x12.2 ++ wX3 G a_p1 v_p1) [some (.ref (a_t 0)), some (.ref (a_p1 0)), some (.int x12.1)] 2 []) (fun self13 hself13 x12 hm => ?_) F ((0 : Int32), v_t) hm
    unfold mX0_findParts_L2 at hm
    refine w_iload_n (pc := 2) hX dX0_findParts_2 rfl rfl ?_
    refine w_aload_n (pc := 3) hX dX0_findParts_3 rfl rfl ?_
    refine gf_X0_partOf (pc := 4) hX dX0_findParts_4 hX0 (List.mem_of_getElem? (i := 1) rfl) 0 rfl rfl ?_
    refine w_alen (pc := 7) hX dX0_findParts_7 1 rfl ?_
    refine w_icmp_ge (pc := 8) (tgt := 24) hX dX0_findParts_8 (by decide) hm (fun hm => ?_) (fun hm => ?_)
    ·
      exact w_lvs [true, true, false] (hj2 x12.2 hm)
    ·
      refine w_aload_n (pc := 11) hX dX0_findParts_11 rfl rfl ?_
      refine gf_X0_partOf (pc := 12) hX dX0_findParts_12 hX0 (List.mem_of_getElem? (i := 1) rfl) 0 rfl rfl ?_
      refine w_iload_n (pc := 15) hX dX0_findParts_15 rfl rfl ?_
      refine w_iload_n (pc := 16) hX dX0_findParts_16 rfl rfl ?_
      refine w_iast (pc := 17) hX dX0_findParts_17 1 rfl hm (fun hm => ?_)
      refine w_iinc (pc := 18) hX dX0_findParts_18 rfl (Nat.le_of_ble_eq_true rfl) ic_1 ?_
      refine w_goto (pc := 21) (tgt := 2) hX dX0_findParts_21 (by decide) ?_
      exact w_lvs [true, true, true] (hself13 (x12.1 + (1 : Int32), (upd x12.2 x12.1.toNatClampNeg x12.1)) hm)

theorem lX0_darkestPlace_X0 : ∀ w ∈ wsX00, w ∈ wsX0_darkestPlace := in_at [33] (by decide +kernel)
theorem lX0_darkestPlace_X3 : ∀ w ∈ wsX30, w ∈ wsX0_darkestPlace := in_at [34, 35, 36, 37, 38, 39] (by decide +kernel)
set_option maxHeartbeats 4000000 in
set_option maxRecDepth 100000 in
theorem ctX0_darkestPlace (G : gT) (F : Nat) (a_t : Nat → Nat) (a_p1 : Nat → Nat) (v_t : BD) (v_p1 : MZ) (o : Int32) (hm : mX0_darkestPlace F v_t v_p1 = some o) : CT G yX0_darkestPlace wsX0_darkestPlace rmX0_darkestPlace [.ref (a_t 0), .ref (a_p1 0)] (wX0 G a_t v_t ++ wX3 G a_p1 v_p1) (fun v w => v = some (.int o) ∧ w = wX0 G a_t v_t ++ wX3 G a_p1 v_p1) := by
  refine CT_of (cc := cX0_darkestPlace) (maxL := 8) (ret := (some .int)) 6 (by decide +kernel) rfl rfl (cat_ok rfl) (fun X hX hR hN => ?_)
  have hX : Ok G X cX0_darkestPlace RX0 wsX0_darkestPlace 8 rmX0_darkestPlace := hX
  have hX0 : ∀ w ∈ wsX00, w ∈ wsX0_darkestPlace := lX0_darkestPlace_X0
  have hX3 : ∀ w ∈ wsX30, w ∈ wsX0_darkestPlace := lX0_darkestPlace_X3
  unfold mX0_darkestPlace at hm
  refine w_iconst (pc := 0) hX dX0_darkestPlace_0 ic_m1 ?_
  refine w_istore_n (pc := 1) hX dX0_darkestPlace_1 rfl (Nat.le_of_ble_eq_true rfl) ?_
  refine w_iconst (pc := 2) hX dX0_darkestPlace_2 ic_m1 ?_
  refine w_istore_n (pc := 3) hX dX0_darkestPlace_3 rfl (Nat.le_of_ble_eq_true rfl) ?_
  refine w_iconst (pc := 4) hX dX0_darkestPlace_4 ic_0 ?_
  refine w_istore (pc := 5) hX dX0_darkestPlace_5 (Nat.le_of_ble_eq_true rfl) ?_
  refine w_lvs [true, true, true, true, true, false, false, false] ?_
  refine lpr_ind (T := fun x1 : (Int32 × Int32 × Int32) => WW G X 0 0 (wX0 G a_t v_t ++ wX3 G a_p1 v_p1) [some (.ref (a_t 0)), some (.ref (a_p1 0)), some (.int x1.1), some (.int x1.2.1), some (.int x1.2.2), none, none, none] 7 []) (fun self2 hself2 x1 hm => ?_) F ((-1 : Int32), (-1 : Int32), (0 : Int32)) hm
  unfold mX0_darkestPlace_L7 at hm
  refine w_iload (pc := 7) hX dX0_darkestPlace_7 rfl ?_
  refine w_aload_n (pc := 9) hX dX0_darkestPlace_9 rfl rfl ?_
  obtain ⟨r3, hr3, hm⟩ := bnd hm
  refine w_callpi (pc := 10) hX [2, 3, 4, 5, 6] (runV (rest := [.int x1.2.2]) hX [2, 3, 4, 5, 6] (ctX3_places G a_p1 v_p1 r3 hr3) dX0_darkestPlace_10 0 gX0_darkestPlace_X3_places rfl hyX3_places ⟨Nat.le_of_ble_eq_true rfl, Nat.le_of_ble_eq_true rfl⟩ 2 rfl rfl rfl rfl (Nat.le_of_ble_eq_true rfl) ⟨Nat.le_of_ble_eq_true rfl, Nat.le_of_ble_eq_true rfl⟩ rfl (by decide +kernel)) rfl ⟨rfl, rfl⟩ ?_
  refine w_icmp_ge (pc := 13) (tgt := 98) hX dX0_darkestPlace_13 (by decide) hm (fun hm => ?_) (fun hm => ?_)
  ·
    refine w_iload_n (pc := 98) hX dX0_darkestPlace_98 rfl rfl ?_
    obtain rfl := som hm
    exact w_iret (pc := 99) hX hR dX0_darkestPlace_99 ⟨rfl, rfl⟩
  ·
    refine w_aload_n (pc := 16) hX dX0_darkestPlace_16 rfl rfl ?_
    refine w_iload (pc := 17) hX dX0_darkestPlace_17 rfl ?_
    obtain ⟨r4, hr4, hm⟩ := bnd hm
    refine w_callpi (pc := 19) hX [2, 3, 4, 5, 6] (runV (rest := []) hX [2, 3, 4, 5, 6] (ctX3_lowEnd G a_p1 v_p1 x1.2.2 r4 hr4) dX0_darkestPlace_19 1 gX0_darkestPlace_X3_lowEnd rfl hyX3_lowEnd ⟨Nat.le_of_ble_eq_true rfl, Nat.le_of_ble_eq_true rfl⟩ 2 rfl rfl rfl rfl (Nat.le_of_ble_eq_true rfl) ⟨Nat.le_of_ble_eq_true rfl, Nat.le_of_ble_eq_true rfl⟩ rfl (by decide +kernel)) rfl ⟨rfl, rfl⟩ ?_
    refine w_istore (pc := 22) hX dX0_darkestPlace_22 (Nat.le_of_ble_eq_true rfl) ?_
    refine w_aload_n (pc := 24) hX dX0_darkestPlace_24 rfl rfl ?_
    refine w_iload (pc := 25) hX dX0_darkestPlace_25 rfl ?_
    obtain ⟨r5, hr5, hm⟩ := bnd hm
    refine w_callpi (pc := 27) hX [2, 3, 4, 5, 6] (runV (rest := []) hX [2, 3, 4, 5, 6] (ctX3_highEnd G a_p1 v_p1 x1.2.2 r5 hr5) dX0_darkestPlace_27 1 gX0_darkestPlace_X3_highEnd rfl hyX3_highEnd ⟨Nat.le_of_ble_eq_true rfl, Nat.le_of_ble_eq_true rfl⟩ 2 rfl rfl rfl rfl (Nat.le_of_ble_eq_true rfl) ⟨Nat.le_of_ble_eq_true rfl, Nat.le_of_ble_eq_true rfl⟩ rfl (by decide +kernel)) rfl ⟨rfl, rfl⟩ ?_
    refine w_istore (pc := 30) hX dX0_darkestPlace_30 (Nat.le_of_ble_eq_true rfl) ?_
    refine w_iload (pc := 32) hX dX0_darkestPlace_32 rfl ?_
    refine w_iconst (pc := 34) hX dX0_darkestPlace_34 ic_m1 ?_
    refine w_jn (T := fun x6 : (Int32 × Int32) => WW G X 0 0 (wX0 G a_t v_t ++ wX3 G a_p1 v_p1) [some (.ref (a_t 0)), some (.ref (a_p1 0)), some (.int x6.1), some (.int x6.2), some (.int x1.2.2), none, none, none] 92 []) hm (fun x6 hm => ?_) (fun j7 hj7 hm => ?_)
    ·
      refine w_iinc (pc := 92) hX dX0_darkestPlace_92 rfl (Nat.le_of_ble_eq_true rfl) ic_1 ?_
      refine w_goto (pc := 95) (tgt := 7) hX dX0_darkestPlace_95 (by decide) ?_
      exact w_lvs [true, true, true, true, true, false, false, false] (hself2 (x6.1, x6.2, x1.2.2 + (1 : Int32)) hm)
    ·
      refine w_icmp_eq (pc := 35) (tgt := 92) hX dX0_darkestPlace_35 (by decide) hm (fun hm => ?_) (fun hm => ?_)
      ·
        exact w_lvs [true, true, true, true, true, false, false, false] (hj7 (x1.1, x1.2.1) hm)
      ·
        refine w_aload_n (pc := 38) hX dX0_darkestPlace_38 rfl rfl ?_
        refine gf_X0_partOf (pc := 39) hX dX0_darkestPlace_39 hX0 (List.mem_of_getElem? (i := 1) rfl) 0 rfl rfl ?_
        refine w_iload (pc := 42) hX dX0_darkestPlace_42 rfl ?_
        obtain ⟨r8, hr8, hm⟩ := bnd hm
        refine w_callpi (pc := 44) hX [1] (runSN (rest := []) hX [1] (ctX7_at G (a_t 1) 36 v_t r4 r8 hr8) dX0_darkestPlace_44 2 gX0_darkestPlace_X7_at_n48 rfl (List.mem_of_getElem? (i := 5) rfl) ⟨(List.mem_of_getElem? (i := 30) rfl), (List.mem_of_getElem? (i := 31) rfl)⟩ hyX7_at.2 ⟨Nat.le_of_ble_eq_true rfl, Nat.le_of_ble_eq_true rfl⟩ rfl rfl (Nat.le_of_ble_eq_true rfl) ⟨Nat.le_of_ble_eq_true rfl, Nat.le_of_ble_eq_true rfl⟩ rfl (by decide +kernel)) rfl ⟨rfl, rfl⟩ ?_
        refine w_aload_n (pc := 47) hX dX0_darkestPlace_47 rfl rfl ?_
        refine gf_X0_partOf (pc := 48) hX dX0_darkestPlace_48 hX0 (List.mem_of_getElem? (i := 1) rfl) 0 rfl rfl ?_
        refine w_iload (pc := 51) hX dX0_darkestPlace_51 rfl ?_
        obtain ⟨r9, hr9, hm⟩ := bnd hm
        refine w_callpi (pc := 53) hX [1] (runSN (rest := [.int r8]) hX [1] (ctX7_at G (a_t 1) 36 v_t r5 r9 hr9) dX0_darkestPlace_53 2 gX0_darkestPlace_X7_at_n48 rfl (List.mem_of_getElem? (i := 5) rfl) ⟨(List.mem_of_getElem? (i := 30) rfl), (List.mem_of_getElem? (i := 31) rfl)⟩ hyX7_at.2 ⟨Nat.le_of_ble_eq_true rfl, Nat.le_of_ble_eq_true rfl⟩ rfl rfl (Nat.le_of_ble_eq_true rfl) ⟨Nat.le_of_ble_eq_true rfl, Nat.le_of_ble_eq_true rfl⟩ rfl (by decide +kernel)) rfl ⟨rfl, rfl⟩ ?_
        refine w_icmp_eq (pc := 56) (tgt := 92) hX dX0_darkestPlace_56 (by decide) hm (fun hm => ?_) (fun hm => ?_)
        ·
          exact w_lvs [true, true, true, true, true, false, false, false] (hj7 (x1.1, x1.2.1) hm)
        ·
          refine w_aload_n (pc := 59) hX dX0_darkestPlace_59 rfl rfl ?_
          refine gf_X3_tones (pc := 60) hX dX0_darkestPlace_60 hX3 (List.mem_of_getElem? (i := 2) rfl) 2 rfl rfl ?_
          refine w_iload (pc := 63) hX dX0_darkestPlace_63 rfl ?_
          obtain ⟨r10, hr10, hm⟩ := bnd hm
          refine w_callpi (pc := 65) hX [3] (runSN (rest := []) hX [3] (ctX7_at G (a_p1 1) 36 v_p1.2.2.1 r4 r10 hr10) dX0_darkestPlace_65 2 gX0_darkestPlace_X7_at_n48 rfl (List.mem_of_getElem? (i := 5) rfl) ⟨(List.mem_of_getElem? (i := 30) rfl), (List.mem_of_getElem? (i := 31) rfl)⟩ hyX7_at.2 ⟨Nat.le_of_ble_eq_true rfl, Nat.le_of_ble_eq_true rfl⟩ rfl rfl (Nat.le_of_ble_eq_true rfl) ⟨Nat.le_of_ble_eq_true rfl, Nat.le_of_ble_eq_true rfl⟩ rfl (by decide +kernel)) rfl ⟨rfl, rfl⟩ ?_
          refine w_aload_n (pc := 68) hX dX0_darkestPlace_68 rfl rfl ?_
          refine gf_X3_tones (pc := 69) hX dX0_darkestPlace_69 hX3 (List.mem_of_getElem? (i := 2) rfl) 2 rfl rfl ?_
          refine w_iload (pc := 72) hX dX0_darkestPlace_72 rfl ?_
          obtain ⟨r11, hr11, hm⟩ := bnd hm
          refine w_callpi (pc := 74) hX [3] (runSN (rest := [.int r10]) hX [3] (ctX7_at G (a_p1 1) 36 v_p1.2.2.1 r5 r11 hr11) dX0_darkestPlace_74 2 gX0_darkestPlace_X7_at_n48 rfl (List.mem_of_getElem? (i := 5) rfl) ⟨(List.mem_of_getElem? (i := 30) rfl), (List.mem_of_getElem? (i := 31) rfl)⟩ hyX7_at.2 ⟨Nat.le_of_ble_eq_true rfl, Nat.le_of_ble_eq_true rfl⟩ rfl rfl (Nat.le_of_ble_eq_true rfl) ⟨Nat.le_of_ble_eq_true rfl, Nat.le_of_ble_eq_true rfl⟩ rfl (by decide +kernel)) rfl ⟨rfl, rfl⟩ ?_
          refine w_iadd (pc := 77) hX dX0_darkestPlace_77 ?_
          refine w_istore (pc := 78) hX dX0_darkestPlace_78 (Nat.le_of_ble_eq_true rfl) ?_
          refine w_iload (pc := 80) hX dX0_darkestPlace_80 rfl ?_
          refine w_iload_n (pc := 82) hX dX0_darkestPlace_82 rfl rfl ?_
          refine w_icmp_le (pc := 83) (tgt := 92) hX dX0_darkestPlace_83 (by decide) hm (fun hm => ?_) (fun hm => ?_)
          ·
            exact w_lvs [true, true, true, true, true, false, false, false] (hj7 (x1.1, x1.2.1) hm)
          ·
            refine w_iload (pc := 86) hX dX0_darkestPlace_86 rfl ?_
            refine w_istore_n (pc := 88) hX dX0_darkestPlace_88 rfl (Nat.le_of_ble_eq_true rfl) ?_
            refine w_iload (pc := 89) hX dX0_darkestPlace_89 rfl ?_
            refine w_istore_n (pc := 91) hX dX0_darkestPlace_91 rfl (Nat.le_of_ble_eq_true rfl) ?_
            exact w_lvs [true, true, true, true, true, false, false, false] (hj7 (x1.2.2, r10 + r11) hm)

set_option maxHeartbeats 4000000 in
set_option maxRecDepth 100000 in
theorem ctX0_joinAllParts (G : gT) (F : Nat) (a_t : Nat → Nat) (a_p1 : Nat → Nat) (v_t : BD) (v_p1 : MZ) (o : (Int32 × BD × nF)) (hm : mX0_joinAllParts F v_t v_p1 = some o) : CT G yX0_joinAllParts wsX0_joinAllParts rmX0_joinAllParts [.ref (a_t 0), .ref (a_p1 0)] (wX0 G a_t v_t ++ wX3 G a_p1 v_p1) (fun v w => v = some (.int o.1) ∧ w = wX0 G a_t o.2.1 ++ wX3 G a_p1 (v_p1.1, v_p1.2.1, v_p1.2.2.1, o.2.2, v_p1.2.2.2.2.1, v_p1.2.2.2.2.2)) := by
  refine CT_of (cc := cX0_joinAllParts) (maxL := 5) (ret := (some .int)) 3 (by decide +kernel) rfl rfl (cat_ok rfl) (fun X hX hR hN => ?_)
  have hX : Ok G X cX0_joinAllParts RX0 wsX0_joinAllParts 5 rmX0_joinAllParts := hX
  unfold mX0_joinAllParts at hm
  refine w_aload_n (pc := 0) hX dX0_joinAllParts_0 rfl rfl ?_
  refine w_aload_n (pc := 1) hX dX0_joinAllParts_1 rfl rfl ?_
  obtain ⟨r1, hr1, hm⟩ := bnd hm
  refine w_calldv (pc := 2) (ws' := wX0 G a_t r1 ++ wX3 G a_p1 v_p1) (os := [some 0, some 1, some 2, some 3, some 4, some 5, some 6]) 7 hX [0, 1, 2, 3, 4, 5, 6] (runV (rest := []) hX [0, 1, 2, 3, 4, 5, 6] (ctX0_findParts G F a_t a_p1 v_t v_p1 r1 hr1) dX0_joinAllParts_2 1 gX0_joinAllParts_X0_findParts rfl hyX0_findParts ⟨Nat.le_of_ble_eq_true rfl, Nat.le_of_ble_eq_true rfl⟩ 0 rfl rfl rfl rfl (Nat.le_of_ble_eq_true rfl) ⟨Nat.le_of_ble_eq_true rfl, Nat.le_of_ble_eq_true rfl⟩ rfl (by decide +kernel)) rfl rfl rfl (by decide +kernel) rfl ⟨rfl, rfl⟩ ?_
  refine w_iconst (pc := 5) hX dX0_joinAllParts_5 ic_0 ?_
  refine w_istore_n (pc := 6) hX dX0_joinAllParts_6 rfl (Nat.le_of_ble_eq_true rfl) ?_
  refine w_iconst (pc := 7) hX dX0_joinAllParts_7 ic_0 ?_
  refine w_istore_n (pc := 8) hX dX0_joinAllParts_8 rfl (Nat.le_of_ble_eq_true rfl) ?_
  refine w_jn (T := fun x2 : (Int32 × BD × nF) => WW G X 0 0 (wX0 G a_t x2.2.1 ++ wX3 G a_p1 (v_p1.1, v_p1.2.1, v_p1.2.2.1, x2.2.2, v_p1.2.2.2.2.1, v_p1.2.2.2.2.2)) [none, none, some (.int x2.1), none, none] 63 []) hm (fun x2 hm => ?_) (fun j3 hj3 hm => ?_)
  ·
    unfold mX0_joinAllParts_K63 at hm
    refine w_iload_n (pc := 63) hX dX0_joinAllParts_63 rfl rfl ?_
    obtain rfl := som hm
    exact w_iret (pc := 64) hX hR dX0_joinAllParts_64 ⟨rfl, rfl⟩
  ·
    refine w_jn (T := fun x4 : (Int32 × BD × nF) => WW G X 0 0 (wX0 G a_t x4.2.1 ++ wX3 G a_p1 (v_p1.1, v_p1.2.1, v_p1.2.2.1, x4.2.2, v_p1.2.2.2.2.1, v_p1.2.2.2.2.2)) [none, none, some (.int x4.1), none, none] 28 []) hm (fun x4 hm => ?_) (fun j5 hj5 hm => ?_)
    ·
      unfold mX0_joinAllParts_K28 at hm
      refine w_goto (pc := 28) (tgt := 63) hX dX0_joinAllParts_28 (by decide) ?_
      exact w_lvs [false, false, true, false, false] (hj3 (x4.1, x4.2.1, x4.2.2) hm)
    ·
      refine w_lvs [true, true, true, true, false] ?_
      refine lpr_ind (T := fun x6 : (Int32 × Int32 × BD × nF) => WW G X 0 0 (wX0 G a_t x6.2.2.1 ++ wX3 G a_p1 (v_p1.1, v_p1.2.1, v_p1.2.2.1, x6.2.2.2, v_p1.2.2.2.2.1, v_p1.2.2.2.2.2)) [some (.ref (a_t 0)), some (.ref (a_p1 0)), some (.int x6.1), some (.int x6.2.1), none] 9 []) (fun self7 hself7 x6 hm => ?_) F ((0 : Int32), (0 : Int32), r1, v_p1.2.2.2.1) hm
      unfold mX0_joinAllParts_L9 at hm
      refine w_iload_n (pc := 9) hX dX0_joinAllParts_9 rfl rfl ?_
      refine w_bipush (pc := 10) hX dX0_joinAllParts_10 bp_36 ?_
      refine w_icmp_ge (pc := 12) (tgt := 63) hX dX0_joinAllParts_12 (by decide) hm (fun hm => ?_) (fun hm => ?_)
      ·
        exact w_lvs [false, false, true, false, false] (hj3 (x6.1, x6.2.2.1, x6.2.2.2) hm)
      ·
        refine w_aload_n (pc := 15) hX dX0_joinAllParts_15 rfl rfl ?_
        refine w_aload_n (pc := 16) hX dX0_joinAllParts_16 rfl rfl ?_
        obtain ⟨r8, hr8, hm⟩ := bnd hm
        refine w_callpi (pc := 17) hX [0, 1, 2, 3, 4, 5, 6] (runV (rest := []) hX [0, 1, 2, 3, 4, 5, 6] (ctX0_darkestPlace G F a_t a_p1 x6.2.2.1 (v_p1.1, v_p1.2.1, v_p1.2.2.1, x6.2.2.2, v_p1.2.2.2.2.1, v_p1.2.2.2.2.2) r8 hr8) dX0_joinAllParts_17 1 gX0_joinAllParts_X0_darkestPlace rfl hyX0_darkestPlace ⟨Nat.le_of_ble_eq_true rfl, Nat.le_of_ble_eq_true rfl⟩ 0 rfl rfl rfl rfl (Nat.le_of_ble_eq_true rfl) ⟨Nat.le_of_ble_eq_true rfl, Nat.le_of_ble_eq_true rfl⟩ rfl (by decide +kernel)) rfl ⟨rfl, rfl⟩ ?_
        refine w_istore (pc := 20) hX dX0_joinAllParts_20 (Nat.le_of_ble_eq_true rfl) ?_
        refine w_iload (pc := 22) hX dX0_joinAllParts_22 rfl ?_
        refine w_iconst (pc := 24) hX dX0_joinAllParts_24 ic_m1 ?_
        refine w_icmp_ne (pc := 25) (tgt := 31) hX dX0_joinAllParts_25 (by decide) hm (fun hm => ?_) (fun hm => ?_)
        ·
          refine w_aload_n (pc := 31) hX dX0_joinAllParts_31 rfl rfl ?_
          refine w_iload (pc := 32) hX dX0_joinAllParts_32 rfl ?_
          refine w_iconst (pc := 34) hX dX0_joinAllParts_34 ic_1 ?_
          obtain ⟨r9, hr9, hm⟩ := bnd hm
          refine w_calldv (pc := 35) (ws' := wX0 G a_t x6.2.2.1 ++ wX3 G a_p1 (v_p1.1, v_p1.2.1, v_p1.2.2.1, r9, v_p1.2.2.2.2.1, v_p1.2.2.2.2.2)) (os := [none, none, some 0, some 1, some 2, some 3, some 4]) 7 hX [2, 3, 4, 5, 6] (runV (rest := []) hX [2, 3, 4, 5, 6] (ctX3_setPlace G a_p1 (v_p1.1, v_p1.2.1, v_p1.2.2.1, x6.2.2.2, v_p1.2.2.2.2.1, v_p1.2.2.2.2.2) r8 (1 : Int32) r9 hr9) dX0_joinAllParts_35 2 gX0_joinAllParts_X3_setPlace rfl hyX3_setPlace ⟨Nat.le_of_ble_eq_true rfl, Nat.le_of_ble_eq_true rfl⟩ 2 rfl rfl rfl rfl (Nat.le_of_ble_eq_true rfl) ⟨Nat.le_of_ble_eq_true rfl, Nat.le_of_ble_eq_true rfl⟩ rfl (by decide +kernel)) rfl rfl rfl (by decide +kernel) rfl ⟨rfl, rfl⟩ ?_
          refine w_aload_n (pc := 38) hX dX0_joinAllParts_38 rfl rfl ?_
          refine w_aload_n (pc := 39) hX dX0_joinAllParts_39 rfl rfl ?_
          refine w_iload (pc := 40) hX dX0_joinAllParts_40 rfl ?_
          obtain ⟨r10, hr10, hm⟩ := bnd hm
          refine w_callpi (pc := 42) hX [2, 3, 4, 5, 6] (runV (rest := [.ref (a_t 0)]) hX [2, 3, 4, 5, 6] (ctX3_lowEnd G a_p1 (v_p1.1, v_p1.2.1, v_p1.2.2.1, r9, v_p1.2.2.2.2.1, v_p1.2.2.2.2.2) r8 r10 hr10) dX0_joinAllParts_42 1 gX0_joinAllParts_X3_lowEnd rfl hyX3_lowEnd ⟨Nat.le_of_ble_eq_true rfl, Nat.le_of_ble_eq_true rfl⟩ 2 rfl rfl rfl rfl (Nat.le_of_ble_eq_true rfl) ⟨Nat.le_of_ble_eq_true rfl, Nat.le_of_ble_eq_true rfl⟩ rfl (by decide +kernel)) rfl ⟨rfl, rfl⟩ ?_
          refine w_aload_n (pc := 45) hX dX0_joinAllParts_45 rfl rfl ?_
          refine w_iload (pc := 46) hX dX0_joinAllParts_46 rfl ?_
          obtain ⟨r11, hr11, hm⟩ := bnd hm
          refine w_callpi (pc := 48) hX [2, 3, 4, 5, 6] (runV (rest := [.int r10, .ref (a_t 0)]) hX [2, 3, 4, 5, 6] (ctX3_highEnd G a_p1 (v_p1.1, v_p1.2.1, v_p1.2.2.1, r9, v_p1.2.2.2.2.1, v_p1.2.2.2.2.2) r8 r11 hr11) dX0_joinAllParts_48 1 gX0_joinAllParts_X3_highEnd rfl hyX3_highEnd ⟨Nat.le_of_ble_eq_true rfl, Nat.le_of_ble_eq_true rfl⟩ 2 rfl rfl rfl rfl (Nat.le_of_ble_eq_true rfl) ⟨Nat.le_of_ble_eq_true rfl, Nat.le_of_ble_eq_true rfl⟩ rfl (by decide +kernel)) rfl ⟨rfl, rfl⟩ ?_
          obtain ⟨r12, hr12, hm⟩ := bnd hm
          refine w_calldv (pc := 51) (ws' := wX0 G a_t r12 ++ wX3 G a_p1 (v_p1.1, v_p1.2.1, v_p1.2.2.1, r9, v_p1.2.2.2.2.1, v_p1.2.2.2.2.2)) (os := [some 0, some 1, none, none, none, none, none]) 7 hX [0, 1] (runV (rest := []) hX [0, 1] (ctX0_join G F a_t x6.2.2.1 r10 r11 r12 hr12) dX0_joinAllParts_51 2 gX0_joinAllParts_X0_join rfl hyX0_join ⟨Nat.le_of_ble_eq_true rfl, Nat.le_of_ble_eq_true rfl⟩ 0 rfl rfl rfl rfl (Nat.le_of_ble_eq_true rfl) ⟨Nat.le_of_ble_eq_true rfl, Nat.le_of_ble_eq_true rfl⟩ rfl (by decide +kernel)) rfl rfl rfl (by decide +kernel) rfl ⟨rfl, rfl⟩ ?_
          refine w_iinc (pc := 54) hX dX0_joinAllParts_54 rfl (Nat.le_of_ble_eq_true rfl) ic_1 ?_
          refine w_iinc (pc := 57) hX dX0_joinAllParts_57 rfl (Nat.le_of_ble_eq_true rfl) ic_1 ?_
          refine w_goto (pc := 60) (tgt := 9) hX dX0_joinAllParts_60 (by decide) ?_
          exact w_lvs [true, true, true, true, false] (hself7 (x6.1 + (1 : Int32), x6.2.1 + (1 : Int32), r12, r9) hm)
        ·
          exact w_lvs [false, false, true, false, false] (hj5 (x6.1, x6.2.2.1, x6.2.2.2) hm)

theorem lX1_cut_X1 : ∀ w ∈ wsX10, w ∈ wsX1_cut := in_at [39, 40, 41, 42, 43, 44] (by decide +kernel)
theorem lX1_cut_X6 : ∀ w ∈ wsX60, w ∈ wsX1_cut := in_at [45, 46, 47, 48, 49] (by decide +kernel)
set_option maxHeartbeats 4000000 in
set_option maxRecDepth 100000 in
theorem ctX1_cut (G : gT) (F : Nat) (a_t : Nat → Nat) (a_p1 : Nat → Nat) (a_p3 : Nat → Nat) (v_t : EX) (v_p1 : MZ) (v_p3 : WY) (g2 : Int32) (o : nF) (hm : mX1_cut F v_t v_p1 v_p3 g2 = some o) : CT G yX1_cut wsX1_cut rmX1_cut [.ref (a_t 0), .ref (a_p1 0), .int g2, .ref (a_p3 0)] (wX1 G a_t v_t ++ wX3 G a_p1 v_p1 ++ wX6 G a_p3 v_p3) (fun v w => v = none ∧ w = wX1 G a_t (v_t.1, v_t.2.1, v_t.2.2.1, v_t.2.2.2.1, v_t.2.2.2.2.1, o) ++ wX3 G a_p1 v_p1 ++ wX6 G a_p3 v_p3) := by
  refine CT_of (cc := cX1_cut) (maxL := 9) (ret := none) 5 (by decide +kernel) rfl rfl (cat_ok rfl) (fun X hX hR hN => ?_)
  have hX : Ok G X cX1_cut RX1 wsX1_cut 9 rmX1_cut := hX
  have hX1 : ∀ w ∈ wsX10, w ∈ wsX1_cut := lX1_cut_X1
  have hX6 : ∀ w ∈ wsX60, w ∈ wsX1_cut := lX1_cut_X6
  unfold mX1_cut at hm
  refine w_aload_n (pc := 0) hX dX1_cut_0 rfl rfl ?_
  refine w_iload_n (pc := 1) hX dX1_cut_1 rfl rfl ?_
  obtain ⟨r1, hr1, hm⟩ := bnd hm
  refine w_callpi (pc := 2) hX [2, 3, 4, 5, 6] (runV (rest := []) hX [2, 3, 4, 5, 6] (ctX3_lowEnd G a_p1 v_p1 g2 r1 hr1) dX1_cut_2 1 gX1_cut_X3_lowEnd rfl hyX3_lowEnd ⟨Nat.le_of_ble_eq_true rfl, Nat.le_of_ble_eq_true rfl⟩ 2 rfl rfl rfl rfl (Nat.le_of_ble_eq_true rfl) ⟨Nat.le_of_ble_eq_true rfl, Nat.le_of_ble_eq_true rfl⟩ rfl (by decide +kernel)) rfl ⟨rfl, rfl⟩ ?_
  refine w_istore (pc := 5) hX dX1_cut_5 (Nat.le_of_ble_eq_true rfl) ?_
  refine w_aload_n (pc := 7) hX dX1_cut_7 rfl rfl ?_
  refine w_iload_n (pc := 8) hX dX1_cut_8 rfl rfl ?_
  obtain ⟨r2, hr2, hm⟩ := bnd hm
  refine w_callpi (pc := 9) hX [2, 3, 4, 5, 6] (runV (rest := []) hX [2, 3, 4, 5, 6] (ctX3_highEnd G a_p1 v_p1 g2 r2 hr2) dX1_cut_9 1 gX1_cut_X3_highEnd rfl hyX3_highEnd ⟨Nat.le_of_ble_eq_true rfl, Nat.le_of_ble_eq_true rfl⟩ 2 rfl rfl rfl rfl (Nat.le_of_ble_eq_true rfl) ⟨Nat.le_of_ble_eq_true rfl, Nat.le_of_ble_eq_true rfl⟩ rfl (by decide +kernel)) rfl ⟨rfl, rfl⟩ ?_
  refine w_istore (pc := 12) hX dX1_cut_12 (Nat.le_of_ble_eq_true rfl) ?_
  refine w_aload_n (pc := 14) hX dX1_cut_14 rfl rfl ?_
  refine w_iload (pc := 15) hX dX1_cut_15 rfl ?_
  obtain ⟨r3, hr3, hm⟩ := bnd hm
  refine w_callpi (pc := 17) hX [7, 8, 9, 10, 11] (runV (rest := []) hX [7, 8, 9, 10, 11] (ctX6_lengthTo G a_p3 v_p3 r1 r3 hr3) dX1_cut_17 1 gX1_cut_X6_lengthTo rfl hyX6_lengthTo ⟨Nat.le_of_ble_eq_true rfl, Nat.le_of_ble_eq_true rfl⟩ 7 rfl rfl rfl rfl (Nat.le_of_ble_eq_true rfl) ⟨Nat.le_of_ble_eq_true rfl, Nat.le_of_ble_eq_true rfl⟩ rfl (by decide +kernel)) rfl ⟨rfl, rfl⟩ ?_
  refine w_aload_n (pc := 20) hX dX1_cut_20 rfl rfl ?_
  refine w_iload (pc := 21) hX dX1_cut_21 rfl ?_
  obtain ⟨r4, hr4, hm⟩ := bnd hm
  refine w_callpi (pc := 23) hX [7, 8, 9, 10, 11] (runV (rest := [.int r3]) hX [7, 8, 9, 10, 11] (ctX6_lengthTo G a_p3 v_p3 r2 r4 hr4) dX1_cut_23 1 gX1_cut_X6_lengthTo rfl hyX6_lengthTo ⟨Nat.le_of_ble_eq_true rfl, Nat.le_of_ble_eq_true rfl⟩ 7 rfl rfl rfl rfl (Nat.le_of_ble_eq_true rfl) ⟨Nat.le_of_ble_eq_true rfl, Nat.le_of_ble_eq_true rfl⟩ rfl (by decide +kernel)) rfl ⟨rfl, rfl⟩ ?_
  refine w_jn (T := fun x5 : Int32 => WW G X 0 0 (wX1 G a_t v_t ++ wX3 G a_p1 v_p1 ++ wX6 G a_p3 v_p3) [some (.ref (a_t 0)), none, none, some (.ref (a_p3 0)), none, none, none, none, none] 36 [.int x5]) hm (fun x5 hm => ?_) (fun j6 hj6 hm => ?_)
  ·
    refine w_istore (pc := 36) hX dX1_cut_36 (Nat.le_of_ble_eq_true rfl) ?_
    refine w_aload_n (pc := 38) hX dX1_cut_38 rfl rfl ?_
    refine gf_X1_cutOff (pc := 39) hX dX1_cut_39 hX1 (List.mem_of_getElem? (i := 1) rfl) 0 rfl rfl ?_
    refine w_iconst (pc := 42) hX dX1_cut_42 ic_0 ?_
    obtain ⟨r7, hr7, hm⟩ := bnd hm
    refine w_calldv (pc := 43) (ws' := wX1 G a_t (v_t.1, v_t.2.1, v_t.2.2.1, v_t.2.2.2.1, v_t.2.2.2.2.1, r7) ++ wX3 G a_p1 v_p1 ++ wX6 G a_p3 v_p3) (os := [none, some 0, none, none, none, none, none, none, none, none, none, none]) 12 hX [1] (runS (rest := []) hX [1] (ctJ7_fill_53178 G F (a_t 1) 36 v_t.2.2.2.2.2 (0 : Int32) r7 hr7) dX1_cut_43 2 gX1_cut_J7_fill_53178 rfl hyJ7_fill_53178.2 ⟨Nat.le_of_ble_eq_true rfl, Nat.le_of_ble_eq_true rfl⟩ rfl rfl (Nat.le_of_ble_eq_true rfl) ⟨Nat.le_of_ble_eq_true rfl, Nat.le_of_ble_eq_true rfl⟩ rfl (by decide +kernel)) rfl rfl rfl (by decide +kernel) rfl ⟨rfl, rfl⟩ ?_
    refine w_aload_n (pc := 46) hX dX1_cut_46 rfl rfl ?_
    refine gf_X1_cutOff (pc := 47) hX dX1_cut_47 hX1 (List.mem_of_getElem? (i := 1) rfl) 0 rfl rfl ?_
    refine w_iload (pc := 50) hX dX1_cut_50 rfl ?_
    refine w_iconst (pc := 52) hX dX1_cut_52 ic_1 ?_
    obtain ⟨r8, hr8, hm⟩ := bnd hm
    refine w_calldv (pc := 53) (ws' := wX1 G a_t (v_t.1, v_t.2.1, v_t.2.2.1, v_t.2.2.2.1, v_t.2.2.2.2.1, r8) ++ wX3 G a_p1 v_p1 ++ wX6 G a_p3 v_p3) (os := [none, some 0, none, none, none, none, none, none, none, none, none, none]) 12 hX [1] (runSN (rest := []) hX [1] (ctX7_put G (a_t 1) 36 r7 x5 (1 : Int32) r8 hr8) dX1_cut_53 3 gX1_cut_X7_put_n91 rfl (List.mem_of_getElem? (i := 7) rfl) ⟨(List.mem_of_getElem? (i := 34) rfl), (List.mem_of_getElem? (i := 35) rfl)⟩ hyX7_put.2 ⟨Nat.le_of_ble_eq_true rfl, Nat.le_of_ble_eq_true rfl⟩ rfl rfl (Nat.le_of_ble_eq_true rfl) ⟨Nat.le_of_ble_eq_true rfl, Nat.le_of_ble_eq_true rfl⟩ rfl (by decide +kernel)) rfl rfl rfl (by decide +kernel) rfl ⟨rfl, rfl⟩ ?_
    refine w_iconst (pc := 56) hX dX1_cut_56 ic_1 ?_
    refine w_istore (pc := 57) hX dX1_cut_57 (Nat.le_of_ble_eq_true rfl) ?_
    refine w_lvs [true, false, false, true, false, false, false, true, false] ?_
    refine lpr_ind (T := fun x9 : (Int32 × nF) => WW G X 0 0 (wX1 G a_t (v_t.1, v_t.2.1, v_t.2.2.1, v_t.2.2.2.1, v_t.2.2.2.2.1, x9.2) ++ wX3 G a_p1 v_p1 ++ wX6 G a_p3 v_p3) [some (.ref (a_t 0)), none, none, some (.ref (a_p3 0)), none, none, none, some (.int x9.1), none] 59 []) (fun self10 hself10 x9 hm => ?_) F ((1 : Int32), r8) hm
    unfold mX1_cut_L59 at hm
    refine w_iload (pc := 59) hX dX1_cut_59 rfl ?_
    refine w_aload_n (pc := 61) hX dX1_cut_61 rfl rfl ?_
    refine gf_X6_cells (pc := 62) hX dX1_cut_62 hX6 (List.mem_of_getElem? (i := 2) rfl) 7 rfl rfl ?_
    refine w_icmp_ge (pc := 65) (tgt := 115) hX dX1_cut_65 (by decide) hm (fun hm => ?_) (fun hm => ?_)
    ·
      obtain rfl := som hm
      exact w_vret (pc := 115) hX hR dX1_cut_115 ⟨rfl, rfl⟩
    ·
      refine w_aload_n (pc := 68) hX dX1_cut_68 rfl rfl ?_
      refine gf_X6_order (pc := 69) hX dX1_cut_69 hX6 (List.mem_of_getElem? (i := 3) rfl) 7 rfl rfl ?_
      refine w_iload (pc := 72) hX dX1_cut_72 rfl ?_
      obtain ⟨r11, hr11, hm⟩ := bnd hm
      refine w_callpi (pc := 74) hX [8] (runSN (rest := []) hX [8] (ctX7_at G (a_p3 1) 36 v_p3.2.1 x9.1 r11 hr11) dX1_cut_74 2 gX1_cut_X7_at_n46 rfl (List.mem_of_getElem? (i := 6) rfl) ⟨(List.mem_of_getElem? (i := 37) rfl), (List.mem_of_getElem? (i := 35) rfl)⟩ hyX7_at.2 ⟨Nat.le_of_ble_eq_true rfl, Nat.le_of_ble_eq_true rfl⟩ rfl rfl (Nat.le_of_ble_eq_true rfl) ⟨Nat.le_of_ble_eq_true rfl, Nat.le_of_ble_eq_true rfl⟩ rfl (by decide +kernel)) rfl ⟨rfl, rfl⟩ ?_
      refine w_istore (pc := 77) hX dX1_cut_77 (Nat.le_of_ble_eq_true rfl) ?_
      refine w_aload_n (pc := 79) hX dX1_cut_79 rfl rfl ?_
      refine gf_X1_cutOff (pc := 80) hX dX1_cut_80 hX1 (List.mem_of_getElem? (i := 1) rfl) 0 rfl rfl ?_
      refine w_aload_n (pc := 83) hX dX1_cut_83 rfl rfl ?_
      refine gf_X6_previous (pc := 84) hX dX1_cut_84 hX6 (List.mem_of_getElem? (i := 4) rfl) 7 rfl rfl ?_
      refine w_iload (pc := 87) hX dX1_cut_87 rfl ?_
      obtain ⟨r12, hr12, hm⟩ := bnd hm
      refine w_callpi (pc := 89) hX [9] (runSN (rest := [.ref (a_t 1)]) hX [9] (ctX7_at G (a_p3 2) 36 v_p3.2.2.1 r11 r12 hr12) dX1_cut_89 2 gX1_cut_X7_at_n46 rfl (List.mem_of_getElem? (i := 6) rfl) ⟨(List.mem_of_getElem? (i := 37) rfl), (List.mem_of_getElem? (i := 35) rfl)⟩ hyX7_at.2 ⟨Nat.le_of_ble_eq_true rfl, Nat.le_of_ble_eq_true rfl⟩ rfl rfl (Nat.le_of_ble_eq_true rfl) ⟨Nat.le_of_ble_eq_true rfl, Nat.le_of_ble_eq_true rfl⟩ rfl (by decide +kernel)) rfl ⟨rfl, rfl⟩ ?_
      obtain ⟨r13, hr13, hm⟩ := bnd hm
      refine w_callpi (pc := 92) hX [1] (runSN (rest := []) hX [1] (ctX7_at G (a_t 1) 36 x9.2 r12 r13 hr13) dX1_cut_92 2 gX1_cut_X7_at_n46 rfl (List.mem_of_getElem? (i := 6) rfl) ⟨(List.mem_of_getElem? (i := 37) rfl), (List.mem_of_getElem? (i := 35) rfl)⟩ hyX7_at.2 ⟨Nat.le_of_ble_eq_true rfl, Nat.le_of_ble_eq_true rfl⟩ rfl rfl (Nat.le_of_ble_eq_true rfl) ⟨Nat.le_of_ble_eq_true rfl, Nat.le_of_ble_eq_true rfl⟩ rfl (by decide +kernel)) rfl ⟨rfl, rfl⟩ ?_
      refine w_iconst (pc := 95) hX dX1_cut_95 ic_1 ?_
      refine w_jn (T := fun x14 : nF => WW G X 0 0 (wX1 G a_t (v_t.1, v_t.2.1, v_t.2.2.1, v_t.2.2.2.1, v_t.2.2.2.2.1, x14) ++ wX3 G a_p1 v_p1 ++ wX6 G a_p3 v_p3) [some (.ref (a_t 0)), none, none, some (.ref (a_p3 0)), none, none, none, some (.int x9.1), none] 109 []) hm (fun x14 hm => ?_) (fun j15 hj15 hm => ?_)
      ·
        refine w_iinc (pc := 109) hX dX1_cut_109 rfl (Nat.le_of_ble_eq_true rfl) ic_1 ?_
        refine w_goto (pc := 112) (tgt := 59) hX dX1_cut_112 (by decide) ?_
        exact w_lvs [true, false, false, true, false, false, false, true, false] (hself10 (x9.1 + (1 : Int32), x14) hm)
      ·
        refine w_icmp_ne (pc := 96) (tgt := 109) hX dX1_cut_96 (by decide) hm (fun hm => ?_) (fun hm => ?_)
        ·
          exact w_lvs [true, false, false, true, false, false, false, true, false] (hj15 x9.2 hm)
        ·
          refine w_aload_n (pc := 99) hX dX1_cut_99 rfl rfl ?_
          refine gf_X1_cutOff (pc := 100) hX dX1_cut_100 hX1 (List.mem_of_getElem? (i := 1) rfl) 0 rfl rfl ?_
          refine w_iload (pc := 103) hX dX1_cut_103 rfl ?_
          refine w_iconst (pc := 105) hX dX1_cut_105 ic_1 ?_
          obtain ⟨r16, hr16, hm⟩ := bnd hm
          refine w_calldv (pc := 106) (ws' := wX1 G a_t (v_t.1, v_t.2.1, v_t.2.2.1, v_t.2.2.2.1, v_t.2.2.2.2.1, r16) ++ wX3 G a_p1 v_p1 ++ wX6 G a_p3 v_p3) (os := [none, some 0, none, none, none, none, none, none, none, none, none, none]) 12 hX [1] (runSN (rest := []) hX [1] (ctX7_put G (a_t 1) 36 x9.2 r11 (1 : Int32) r16 hr16) dX1_cut_106 3 gX1_cut_X7_put_n91 rfl (List.mem_of_getElem? (i := 7) rfl) ⟨(List.mem_of_getElem? (i := 34) rfl), (List.mem_of_getElem? (i := 35) rfl)⟩ hyX7_put.2 ⟨Nat.le_of_ble_eq_true rfl, Nat.le_of_ble_eq_true rfl⟩ rfl rfl (Nat.le_of_ble_eq_true rfl) ⟨Nat.le_of_ble_eq_true rfl, Nat.le_of_ble_eq_true rfl⟩ rfl (by decide +kernel)) rfl rfl rfl (by decide +kernel) rfl ⟨rfl, rfl⟩ ?_
          exact w_lvs [true, false, false, true, false, false, false, true, false] (hj15 r16 hm)
  ·
    refine w_icmp_le (pc := 26) (tgt := 34) hX dX1_cut_26 (by decide) hm (fun hm => ?_) (fun hm => ?_)
    ·
      refine w_iload (pc := 34) hX dX1_cut_34 rfl ?_
      exact w_lvs [true, false, false, true, false, false, false, false, false] (hj6 r2 hm)
    ·
      refine w_iload (pc := 29) hX dX1_cut_29 rfl ?_
      refine w_goto (pc := 31) (tgt := 36) hX dX1_cut_31 (by decide) ?_
      exact w_lvs [true, false, false, true, false, false, false, false, false] (hj6 r1 hm)

theorem lX1_findMade_X1 : ∀ w ∈ wsX10, w ∈ wsX1_findMade := in_at [52, 53, 54, 55, 56, 57] (by decide +kernel)
theorem lX1_findMade_X6 : ∀ w ∈ wsX60, w ∈ wsX1_findMade := in_at [58, 59, 60, 61, 62] (by decide +kernel)
set_option maxHeartbeats 4000000 in
set_option maxRecDepth 100000 in
theorem ctX1_findMade (G : gT) (F : Nat) (a_t : Nat → Nat) (a_p1 : Nat → Nat) (a_p3 : Nat → Nat) (a_p4 : Nat → Nat) (v_t : EX) (v_p1 : MZ) (v_p3 : WY) (v_p4 : WY) (g2 : Int32) (o : (Int32 × Int32 × Int32)) (hm : mX1_findMade F v_t v_p1 v_p3 v_p4 g2 = some o) : CT G yX1_findMade wsX1_findMade rmX1_findMade [.ref (a_t 0), .ref (a_p1 0), .int g2, .ref (a_p3 0), .ref (a_p4 0)] (wX1 G a_t v_t ++ wX3 G a_p1 v_p1 ++ wX6 G a_p3 v_p3 ++ wX6 G a_p4 v_p4) (fun v w => v = none ∧ w = wX1 G a_t (o.1, o.2.1, v_t.2.2.1, o.2.2, v_t.2.2.2.2.1, v_t.2.2.2.2.2) ++ wX3 G a_p1 v_p1 ++ wX6 G a_p3 v_p3 ++ wX6 G a_p4 v_p4) := by
  refine CT_of (cc := cX1_findMade) (maxL := 12) (ret := none) 7 (by decide +kernel) rfl rfl (cat_ok rfl) (fun X hX hR hN => ?_)
  have hX : Ok G X cX1_findMade RX1 wsX1_findMade 12 rmX1_findMade := hX
  have hX1 : ∀ w ∈ wsX10, w ∈ wsX1_findMade := lX1_findMade_X1
  have hX6 : ∀ w ∈ wsX60, w ∈ wsX1_findMade := lX1_findMade_X6
  unfold mX1_findMade at hm
  refine w_aload_n (pc := 0) hX dX1_findMade_0 rfl rfl ?_
  refine gf_X1_cutOff (pc := 1) hX dX1_findMade_1 hX1 (List.mem_of_getElem? (i := 1) rfl) 0 rfl rfl ?_
  refine w_aload_n (pc := 4) hX dX1_findMade_4 rfl rfl ?_
  obtain ⟨r1, hr1, hm⟩ := bnd hm
  refine w_callpi (pc := 5) hX [2, 3, 4, 5, 6] (runV (rest := [.ref (a_t 1)]) hX [2, 3, 4, 5, 6] (ctX3_exitCell G a_p1 v_p1 r1 hr1) dX1_findMade_5 0 gX1_findMade_X3_exitCell rfl hyX3_exitCell ⟨Nat.le_of_ble_eq_true rfl, Nat.le_of_ble_eq_true rfl⟩ 2 rfl rfl rfl rfl (Nat.le_of_ble_eq_true rfl) ⟨Nat.le_of_ble_eq_true rfl, Nat.le_of_ble_eq_true rfl⟩ rfl (by decide +kernel)) rfl ⟨rfl, rfl⟩ ?_
  obtain ⟨r2, hr2, hm⟩ := bnd hm
  refine w_callpi (pc := 8) hX [1] (runSN (rest := []) hX [1] (ctX7_at G (a_t 1) 36 v_t.2.2.2.2.2 r1 r2 hr2) dX1_findMade_8 2 gX1_findMade_X7_at_n46 rfl (List.mem_of_getElem? (i := 6) rfl) ⟨(List.mem_of_getElem? (i := 14) rfl), (List.mem_of_getElem? (i := 15) rfl)⟩ hyX7_at.2 ⟨Nat.le_of_ble_eq_true rfl, Nat.le_of_ble_eq_true rfl⟩ rfl rfl (Nat.le_of_ble_eq_true rfl) ⟨Nat.le_of_ble_eq_true rfl, Nat.le_of_ble_eq_true rfl⟩ rfl (by decide +kernel)) rfl ⟨rfl, rfl⟩ ?_
  refine w_iconst (pc := 11) hX dX1_findMade_11 ic_1 ?_
  refine w_jn (T := fun x3 : Int32 => WW G X 0 0 (wX1 G a_t v_t ++ wX3 G a_p1 v_p1 ++ wX6 G a_p3 v_p3 ++ wX6 G a_p4 v_p4) [some (.ref (a_t 0)), some (.ref (a_p1 0)), some (.int g2), some (.ref (a_p3 0)), some (.ref (a_p4 0)), none, none, none, none, none, none, none] 20 [.int x3]) hm (fun x3 hm => ?_) (fun j4 hj4 hm => ?_)
  ·
    refine w_istore (pc := 20) hX dX1_findMade_20 (Nat.le_of_ble_eq_true rfl) ?_
    refine w_iconst (pc := 22) hX dX1_findMade_22 ic_0 ?_
    refine w_istore (pc := 23) hX dX1_findMade_23 (Nat.le_of_ble_eq_true rfl) ?_
    refine w_lvs [true, true, true, true, true, true, true, false, false, false, false, false] ?_
    refine lpr_ind (T := fun x5 : (Int32 × Int32 × Int32 × Int32) => WW G X 0 0 (wX1 G a_t (x5.2.1, x5.2.2.1, v_t.2.2.1, x5.2.2.2, v_t.2.2.2.2.1, v_t.2.2.2.2.2) ++ wX3 G a_p1 v_p1 ++ wX6 G a_p3 v_p3 ++ wX6 G a_p4 v_p4) [some (.ref (a_t 0)), some (.ref (a_p1 0)), some (.int g2), some (.ref (a_p3 0)), some (.ref (a_p4 0)), some (.int x3), some (.int x5.1), none, none, none, none, none] 25 []) (fun self6 hself6 x5 hm => ?_) F ((0 : Int32), v_t.1, v_t.2.1, v_t.2.2.2.1) hm
    unfold mX1_findMade_L25 at hm
    refine w_iload (pc := 25) hX dX1_findMade_25 rfl ?_
    refine w_aload_n (pc := 27) hX dX1_findMade_27 rfl rfl ?_
    obtain ⟨r7, hr7, hm⟩ := bnd hm
    refine w_callpi (pc := 28) hX [2, 3, 4, 5, 6] (runV (rest := [.int x5.1]) hX [2, 3, 4, 5, 6] (ctX3_places G a_p1 v_p1 r7 hr7) dX1_findMade_28 0 gX1_findMade_X3_places rfl hyX3_places ⟨Nat.le_of_ble_eq_true rfl, Nat.le_of_ble_eq_true rfl⟩ 2 rfl rfl rfl rfl (Nat.le_of_ble_eq_true rfl) ⟨Nat.le_of_ble_eq_true rfl, Nat.le_of_ble_eq_true rfl⟩ rfl (by decide +kernel)) rfl ⟨rfl, rfl⟩ ?_
    refine w_icmp_ge (pc := 31) (tgt := 205) hX dX1_findMade_31 (by decide) hm (fun hm => ?_) (fun hm => ?_)
    ·
      obtain rfl := som hm
      exact w_vret (pc := 205) hX hR dX1_findMade_205 ⟨rfl, rfl⟩
    ·
      refine w_aload_n (pc := 34) hX dX1_findMade_34 rfl rfl ?_
      refine w_iload (pc := 35) hX dX1_findMade_35 rfl ?_
      obtain ⟨r8, hr8, hm⟩ := bnd hm
      refine w_callpi (pc := 37) hX [2, 3, 4, 5, 6] (runV (rest := []) hX [2, 3, 4, 5, 6] (ctX3_lowEnd G a_p1 v_p1 x5.1 r8 hr8) dX1_findMade_37 1 gX1_findMade_X3_lowEnd rfl hyX3_lowEnd ⟨Nat.le_of_ble_eq_true rfl, Nat.le_of_ble_eq_true rfl⟩ 2 rfl rfl rfl rfl (Nat.le_of_ble_eq_true rfl) ⟨Nat.le_of_ble_eq_true rfl, Nat.le_of_ble_eq_true rfl⟩ rfl (by decide +kernel)) rfl ⟨rfl, rfl⟩ ?_
      refine w_istore (pc := 40) hX dX1_findMade_40 (Nat.le_of_ble_eq_true rfl) ?_
      refine w_aload_n (pc := 42) hX dX1_findMade_42 rfl rfl ?_
      refine w_iload (pc := 43) hX dX1_findMade_43 rfl ?_
      obtain ⟨r9, hr9, hm⟩ := bnd hm
      refine w_callpi (pc := 45) hX [2, 3, 4, 5, 6] (runV (rest := []) hX [2, 3, 4, 5, 6] (ctX3_highEnd G a_p1 v_p1 x5.1 r9 hr9) dX1_findMade_45 1 gX1_findMade_X3_highEnd rfl hyX3_highEnd ⟨Nat.le_of_ble_eq_true rfl, Nat.le_of_ble_eq_true rfl⟩ 2 rfl rfl rfl rfl (Nat.le_of_ble_eq_true rfl) ⟨Nat.le_of_ble_eq_true rfl, Nat.le_of_ble_eq_true rfl⟩ rfl (by decide +kernel)) rfl ⟨rfl, rfl⟩ ?_
      refine w_istore (pc := 48) hX dX1_findMade_48 (Nat.le_of_ble_eq_true rfl) ?_
      refine w_iload (pc := 50) hX dX1_findMade_50 rfl ?_
      refine w_iconst (pc := 52) hX dX1_findMade_52 ic_m1 ?_
      refine w_jn (T := fun x10 : (Int32 × Int32 × Int32) => WW G X 0 0 (wX1 G a_t (x10.1, x10.2.1, v_t.2.2.1, x10.2.2, v_t.2.2.2.2.1, v_t.2.2.2.2.2) ++ wX3 G a_p1 v_p1 ++ wX6 G a_p3 v_p3 ++ wX6 G a_p4 v_p4) [some (.ref (a_t 0)), some (.ref (a_p1 0)), some (.int g2), some (.ref (a_p3 0)), some (.ref (a_p4 0)), some (.int x3), some (.int x5.1), none, none, none, none, none] 199 []) hm (fun x10 hm => ?_) (fun j11 hj11 hm => ?_)
      ·
        refine w_iinc (pc := 199) hX dX1_findMade_199 rfl (Nat.le_of_ble_eq_true rfl) ic_1 ?_
        refine w_goto (pc := 202) (tgt := 25) hX dX1_findMade_202 (by decide) ?_
        exact w_lvs [true, true, true, true, true, true, true, false, false, false, false, false] (hself6 (x5.1 + (1 : Int32), x10.1, x10.2.1, x10.2.2) hm)
      ·
        refine w_icmp_eq (pc := 53) (tgt := 199) hX dX1_findMade_53 (by decide) hm (fun hm => ?_) (fun hm => ?_)
        ·
          exact w_lvs [true, true, true, true, true, true, true, false, false, false, false, false] (hj11 (x5.2.1, x5.2.2.1, x5.2.2.2) hm)
        ·
          refine w_aload_n (pc := 56) hX dX1_findMade_56 rfl rfl ?_
          refine w_iload (pc := 57) hX dX1_findMade_57 rfl ?_
          obtain ⟨r12, hr12, hm⟩ := bnd hm
          refine w_callpi (pc := 59) hX [2, 3, 4, 5, 6] (runV (rest := []) hX [2, 3, 4, 5, 6] (ctX3_isOpenPlace G a_p1 v_p1 x5.1 r12 hr12) dX1_findMade_59 1 gX1_findMade_X3_isOpenPlace rfl hyX3_isOpenPlace ⟨Nat.le_of_ble_eq_true rfl, Nat.le_of_ble_eq_true rfl⟩ 2 rfl rfl rfl rfl (Nat.le_of_ble_eq_true rfl) ⟨Nat.le_of_ble_eq_true rfl, Nat.le_of_ble_eq_true rfl⟩ rfl (by decide +kernel)) rfl ⟨rfl, rfl⟩ ?_
          refine w_if_ne (pc := 62) (tgt := 199) hX dX1_findMade_62 (by decide) hm (fun hm => ?_) (fun hm => ?_)
          ·
            exact w_lvs [true, true, true, true, true, true, true, false, false, false, false, false] (hj11 (x5.2.1, x5.2.2.1, x5.2.2.2) hm)
          ·
            refine w_aload_n (pc := 65) hX dX1_findMade_65 rfl rfl ?_
            refine gf_X1_cutOff (pc := 66) hX dX1_findMade_66 hX1 (List.mem_of_getElem? (i := 1) rfl) 0 rfl rfl ?_
            refine w_iload (pc := 69) hX dX1_findMade_69 rfl ?_
            obtain ⟨r13, hr13, hm⟩ := bnd hm
            refine w_callpi (pc := 71) hX [1] (runSN (rest := []) hX [1] (ctX7_at G (a_t 1) 36 v_t.2.2.2.2.2 r8 r13 hr13) dX1_findMade_71 2 gX1_findMade_X7_at_n46 rfl (List.mem_of_getElem? (i := 6) rfl) ⟨(List.mem_of_getElem? (i := 14) rfl), (List.mem_of_getElem? (i := 15) rfl)⟩ hyX7_at.2 ⟨Nat.le_of_ble_eq_true rfl, Nat.le_of_ble_eq_true rfl⟩ rfl rfl (Nat.le_of_ble_eq_true rfl) ⟨Nat.le_of_ble_eq_true rfl, Nat.le_of_ble_eq_true rfl⟩ rfl (by decide +kernel)) rfl ⟨rfl, rfl⟩ ?_
            refine w_aload_n (pc := 74) hX dX1_findMade_74 rfl rfl ?_
            refine gf_X1_cutOff (pc := 75) hX dX1_findMade_75 hX1 (List.mem_of_getElem? (i := 1) rfl) 0 rfl rfl ?_
            refine w_iload (pc := 78) hX dX1_findMade_78 rfl ?_
            obtain ⟨r14, hr14, hm⟩ := bnd hm
            refine w_callpi (pc := 80) hX [1] (runSN (rest := [.int r13]) hX [1] (ctX7_at G (a_t 1) 36 v_t.2.2.2.2.2 r9 r14 hr14) dX1_findMade_80 2 gX1_findMade_X7_at_n46 rfl (List.mem_of_getElem? (i := 6) rfl) ⟨(List.mem_of_getElem? (i := 14) rfl), (List.mem_of_getElem? (i := 15) rfl)⟩ hyX7_at.2 ⟨Nat.le_of_ble_eq_true rfl, Nat.le_of_ble_eq_true rfl⟩ rfl rfl (Nat.le_of_ble_eq_true rfl) ⟨Nat.le_of_ble_eq_true rfl, Nat.le_of_ble_eq_true rfl⟩ rfl (by decide +kernel)) rfl ⟨rfl, rfl⟩ ?_
            refine w_icmp_ne (pc := 83) (tgt := 89) hX dX1_findMade_83 (by decide) hm (fun hm => ?_) (fun hm => ?_)
            ·
              refine w_aload_n (pc := 89) hX dX1_findMade_89 rfl rfl ?_
              refine gf_X1_cutOff (pc := 90) hX dX1_findMade_90 hX1 (List.mem_of_getElem? (i := 1) rfl) 0 rfl rfl ?_
              refine w_iload (pc := 93) hX dX1_findMade_93 rfl ?_
              obtain ⟨r15, hr15, hm⟩ := bnd hm
              refine w_callpi (pc := 95) hX [1] (runSN (rest := []) hX [1] (ctX7_at G (a_t 1) 36 v_t.2.2.2.2.2 r8 r15 hr15) dX1_findMade_95 2 gX1_findMade_X7_at_n46 rfl (List.mem_of_getElem? (i := 6) rfl) ⟨(List.mem_of_getElem? (i := 14) rfl), (List.mem_of_getElem? (i := 15) rfl)⟩ hyX7_at.2 ⟨Nat.le_of_ble_eq_true rfl, Nat.le_of_ble_eq_true rfl⟩ rfl rfl (Nat.le_of_ble_eq_true rfl) ⟨Nat.le_of_ble_eq_true rfl, Nat.le_of_ble_eq_true rfl⟩ rfl (by decide +kernel)) rfl ⟨rfl, rfl⟩ ?_
              refine w_jn (T := fun x16 : Int32 => WW G X 0 0 (wX1 G a_t (x5.2.1, x5.2.2.1, v_t.2.2.1, x5.2.2.2, v_t.2.2.2.2.1, v_t.2.2.2.2.2) ++ wX3 G a_p1 v_p1 ++ wX6 G a_p3 v_p3 ++ wX6 G a_p4 v_p4) [some (.ref (a_t 0)), some (.ref (a_p1 0)), some (.int g2), some (.ref (a_p3 0)), some (.ref (a_p4 0)), some (.int x3), some (.int x5.1), some (.int r8), some (.int r9), none, none, none] 108 [.int x16]) hm (fun x16 hm => ?_) (fun j17 hj17 hm => ?_)
              ·
                refine w_istore (pc := 108) hX dX1_findMade_108 (Nat.le_of_ble_eq_true rfl) ?_
                refine w_iload (pc := 110) hX dX1_findMade_110 rfl ?_
                refine w_iload (pc := 112) hX dX1_findMade_112 rfl ?_
                refine w_jn (T := fun x18 : Int32 => WW G X 0 0 (wX1 G a_t (x5.2.1, x5.2.2.1, v_t.2.2.1, x5.2.2.2, v_t.2.2.2.2.1, v_t.2.2.2.2.2) ++ wX3 G a_p1 v_p1 ++ wX6 G a_p3 v_p3 ++ wX6 G a_p4 v_p4) [some (.ref (a_t 0)), some (.ref (a_p1 0)), some (.int g2), some (.ref (a_p3 0)), some (.ref (a_p4 0)), some (.int x3), some (.int x5.1), none, none, some (.int x16), none, none] 124 [.int x18]) hm (fun x18 hm => ?_) (fun j19 hj19 hm => ?_)
                ·
                  refine w_istore (pc := 124) hX dX1_findMade_124 (Nat.le_of_ble_eq_true rfl) ?_
                  refine w_iload (pc := 126) hX dX1_findMade_126 rfl ?_
                  refine w_jn (T := fun x20 : Int32 => WW G X 0 0 (wX1 G a_t (x5.2.1, x5.2.2.1, v_t.2.2.1, x5.2.2.2, v_t.2.2.2.2.1, v_t.2.2.2.2.2) ++ wX3 G a_p1 v_p1 ++ wX6 G a_p3 v_p3 ++ wX6 G a_p4 v_p4) [some (.ref (a_t 0)), some (.ref (a_p1 0)), some (.int g2), some (.ref (a_p3 0)), some (.ref (a_p4 0)), some (.int x3), some (.int x5.1), none, none, none, none, none] 163 [.int x20]) hm (fun x20 hm => ?_) (fun j21 hj21 hm => ?_)
                  ·
                    refine w_istore (pc := 163) hX dX1_findMade_163 (Nat.le_of_ble_eq_true rfl) ?_
                    refine w_aload_n (pc := 165) hX dX1_findMade_165 rfl rfl ?_
                    refine gf_X1_made (pc := 166) hX dX1_findMade_166 hX1 (List.mem_of_getElem? (i := 5) rfl) 0 rfl rfl ?_
                    refine w_iconst (pc := 169) hX dX1_findMade_169 ic_m1 ?_
                    refine w_jn (T := fun x22 : Unit => WW G X 0 0 (wX1 G a_t (x5.2.1, x5.2.2.1, v_t.2.2.1, x5.2.2.2, v_t.2.2.2.2.1, v_t.2.2.2.2.2) ++ wX3 G a_p1 v_p1 ++ wX6 G a_p3 v_p3 ++ wX6 G a_p4 v_p4) [some (.ref (a_t 0)), some (.ref (a_p1 0)), some (.int g2), some (.ref (a_p3 0)), some (.ref (a_p4 0)), some (.int x3), some (.int x5.1), none, none, none, none, some (.int x20)] 182 []) hm (fun x22 hm => ?_) (fun j23 hj23 hm => ?_)
                    ·
                      refine w_aload_n (pc := 182) hX dX1_findMade_182 rfl rfl ?_
                      refine w_iload_n (pc := 183) hX dX1_findMade_183 rfl rfl ?_
                      refine pf_X1_takenAway (pc := 184) hX dX1_findMade_184 hX1 (List.mem_of_getElem? (i := 7) rfl) 0 rfl rfl ?_
                      refine w_aload_n (pc := 187) hX dX1_findMade_187 rfl rfl ?_
                      refine w_iload (pc := 188) hX dX1_findMade_188 rfl ?_
                      refine pf_X1_made (pc := 190) hX dX1_findMade_190 hX1 (List.mem_of_getElem? (i := 5) rfl) 0 rfl rfl ?_
                      refine w_aload_n (pc := 193) hX dX1_findMade_193 rfl rfl ?_
                      refine w_iload (pc := 194) hX dX1_findMade_194 rfl ?_
                      refine pf_X1_faultThen (pc := 196) hX dX1_findMade_196 hX1 (List.mem_of_getElem? (i := 6) rfl) 0 rfl rfl ?_
                      exact w_lvs [true, true, true, true, true, true, true, false, false, false, false, false] (hj11 (g2, x5.1, x20) hm)
                    ·
                      refine w_icmp_eq (pc := 170) (tgt := 182) hX dX1_findMade_170 (by decide) hm (fun hm => ?_) (fun hm => ?_)
                      ·
                        exact w_lvs [true, true, true, true, true, true, true, false, false, false, false, true] (hj23 () hm)
                      ·
                        refine w_iload (pc := 173) hX dX1_findMade_173 rfl ?_
                        refine w_aload_n (pc := 175) hX dX1_findMade_175 rfl rfl ?_
                        refine gf_X1_faultThen (pc := 176) hX dX1_findMade_176 hX1 (List.mem_of_getElem? (i := 6) rfl) 0 rfl rfl ?_
                        refine w_icmp_ge (pc := 179) (tgt := 199) hX dX1_findMade_179 (by decide) hm (fun hm => ?_) (fun hm => ?_)
                        ·
                          exact w_lvs [true, true, true, true, true, true, true, false, false, false, false, false] (hj11 (x5.2.1, x5.2.2.1, x5.2.2.2) hm)
                        ·
                          exact w_lvs [true, true, true, true, true, true, true, false, false, false, false, true] (hj23 () hm)
                  ·
                    refine w_if_eq (pc := 128) (tgt := 159) hX dX1_findMade_128 (by decide) hm (fun hm => ?_) (fun hm => ?_)
                    ·
                      refine w_aload_n (pc := 159) hX dX1_findMade_159 rfl rfl ?_
                      refine gf_X1_faultNow (pc := 160) hX dX1_findMade_160 hX1 (List.mem_of_getElem? (i := 4) rfl) 0 rfl rfl ?_
                      exact w_lvs [true, true, true, true, true, true, true, false, false, false, false, false] (hj21 v_t.2.2.1 hm)
                    ·
                      refine w_aload_n (pc := 131) hX dX1_findMade_131 rfl rfl ?_
                      refine gf_X1_light (pc := 132) hX dX1_findMade_132 hX1 (List.mem_of_getElem? (i := 2) rfl) 0 rfl rfl ?_
                      refine w_aload_n (pc := 135) hX dX1_findMade_135 rfl rfl ?_
                      refine gf_X6_gains (pc := 136) hX dX1_findMade_136 hX6 (List.mem_of_getElem? (i := 3) rfl) 7 rfl rfl ?_
                      refine w_iload (pc := 139) hX dX1_findMade_139 rfl ?_
                      obtain ⟨r24, hr24, hm⟩ := bnd hm
                      refine w_callpi (pc := 141) hX [11] (runSN (rest := [.int v_t.2.2.2.2.1]) hX [11] (ctX7_at G (a_p3 4) 36 v_p3.2.2.2.2 x16 r24 hr24) dX1_findMade_141 2 gX1_findMade_X7_at_n46 rfl (List.mem_of_getElem? (i := 6) rfl) ⟨(List.mem_of_getElem? (i := 14) rfl), (List.mem_of_getElem? (i := 15) rfl)⟩ hyX7_at.2 ⟨Nat.le_of_ble_eq_true rfl, Nat.le_of_ble_eq_true rfl⟩ rfl rfl (Nat.le_of_ble_eq_true rfl) ⟨Nat.le_of_ble_eq_true rfl, Nat.le_of_ble_eq_true rfl⟩ rfl (by decide +kernel)) rfl ⟨rfl, rfl⟩ ?_
                      refine w_iadd (pc := 144) hX dX1_findMade_144 ?_
                      refine w_aload (pc := 145) hX dX1_findMade_145 rfl ?_
                      refine gf_X6_gains (pc := 147) hX dX1_findMade_147 hX6 (List.mem_of_getElem? (i := 3) rfl) 12 rfl rfl ?_
                      refine w_iload (pc := 150) hX dX1_findMade_150 rfl ?_
                      obtain ⟨r25, hr25, hm⟩ := bnd hm
                      refine w_callpi (pc := 152) hX [16] (runSN (rest := [.int (v_t.2.2.2.2.1 + r24)]) hX [16] (ctX7_at G (a_p4 4) 36 v_p4.2.2.2.2 x18 r25 hr25) dX1_findMade_152 2 gX1_findMade_X7_at_n46 rfl (List.mem_of_getElem? (i := 6) rfl) ⟨(List.mem_of_getElem? (i := 14) rfl), (List.mem_of_getElem? (i := 15) rfl)⟩ hyX7_at.2 ⟨Nat.le_of_ble_eq_true rfl, Nat.le_of_ble_eq_true rfl⟩ rfl rfl (Nat.le_of_ble_eq_true rfl) ⟨Nat.le_of_ble_eq_true rfl, Nat.le_of_ble_eq_true rfl⟩ rfl (by decide +kernel)) rfl ⟨rfl, rfl⟩ ?_
                      refine w_iadd (pc := 155) hX dX1_findMade_155 ?_
                      refine w_goto (pc := 156) (tgt := 163) hX dX1_findMade_156 (by decide) ?_
                      exact w_lvs [true, true, true, true, true, true, true, false, false, false, false, false] (hj21 ((v_t.2.2.2.2.1 + r24) + r25) hm)
                ·
                  refine w_icmp_ne (pc := 114) (tgt := 122) hX dX1_findMade_114 (by decide) hm (fun hm => ?_) (fun hm => ?_)
                  ·
                    refine w_iload (pc := 122) hX dX1_findMade_122 rfl ?_
                    exact w_lvs [true, true, true, true, true, true, true, false, false, true, false, false] (hj19 r8 hm)
                  ·
                    refine w_iload (pc := 117) hX dX1_findMade_117 rfl ?_
                    refine w_goto (pc := 119) (tgt := 124) hX dX1_findMade_119 (by decide) ?_
                    exact w_lvs [true, true, true, true, true, true, true, false, false, true, false, false] (hj19 r9 hm)
              ·
                refine w_if_ne (pc := 98) (tgt := 106) hX dX1_findMade_98 (by decide) hm (fun hm => ?_) (fun hm => ?_)
                ·
                  refine w_iload (pc := 106) hX dX1_findMade_106 rfl ?_
                  exact w_lvs [true, true, true, true, true, true, true, true, true, false, false, false] (hj17 r9 hm)
                ·
                  refine w_iload (pc := 101) hX dX1_findMade_101 rfl ?_
                  refine w_goto (pc := 103) (tgt := 108) hX dX1_findMade_103 (by decide) ?_
                  exact w_lvs [true, true, true, true, true, true, true, true, true, false, false, false] (hj17 r8 hm)
            ·
              refine w_goto (pc := 86) (tgt := 199) hX dX1_findMade_86 (by decide) ?_
              exact w_lvs [true, true, true, true, true, true, true, false, false, false, false, false] (hj11 (x5.2.1, x5.2.2.1, x5.2.2.2) hm)
  ·
    refine w_icmp_ne (pc := 12) (tgt := 19) hX dX1_findMade_12 (by decide) hm (fun hm => ?_) (fun hm => ?_)
    ·
      refine w_iconst (pc := 19) hX dX1_findMade_19 ic_0 ?_
      exact w_lvs [true, true, true, true, true, false, false, false, false, false, false, false] (hj4 (0 : Int32) hm)
    ·
      refine w_iconst (pc := 15) hX dX1_findMade_15 ic_1 ?_
      refine w_goto (pc := 16) (tgt := 20) hX dX1_findMade_16 (by decide) ?_
      exact w_lvs [true, true, true, true, true, false, false, false, false, false, false, false] (hj4 (1 : Int32) hm)

theorem lX1_find_X1 : ∀ w ∈ wsX10, w ∈ wsX1_find := in_at [106, 107, 108, 109, 110, 111] (by decide +kernel)
theorem lX1_find_X6 : ∀ w ∈ wsX60, w ∈ wsX1_find := in_at [112, 113, 114, 115, 116] (by decide +kernel)
set_option maxHeartbeats 4000000 in
set_option maxRecDepth 100000 in
theorem ctX1_find (G : gT) (F : Nat) (a_t : Nat → Nat) (a_p1 : Nat → Nat) (a_p2 : Nat → Nat) (a_p3 : Nat → Nat) (v_t : EX) (v_p1 : MZ) (v_p2 : WY) (v_p3 : WY) (o : (EX × WY × WY)) (hm : mX1_find F v_t v_p1 v_p2 v_p3 = some o) : CT G yX1_find wsX1_find rmX1_find [.ref (a_t 0), .ref (a_p1 0), .ref (a_p2 0), .ref (a_p3 0)] (wX1 G a_t v_t ++ wX3 G a_p1 v_p1 ++ wX6 G a_p2 v_p2 ++ wX6 G a_p3 v_p3) (fun v w => v = none ∧ w = wX1 G a_t o.1 ++ wX3 G a_p1 v_p1 ++ wX6 G a_p2 o.2.1 ++ wX6 G a_p3 o.2.2) := by
  refine CT_of (cc := cX1_find) (maxL := 5) (ret := none) 1 (by decide +kernel) rfl rfl (cat_ok rfl) (fun X hX hR hN => ?_)
  have hX : Ok G X cX1_find RX1 wsX1_find 5 rmX1_find := hX
  have hX1 : ∀ w ∈ wsX10, w ∈ wsX1_find := lX1_find_X1
  have hX6 : ∀ w ∈ wsX60, w ∈ wsX1_find := lX1_find_X6
  unfold mX1_find at hm
  refine w_aload_n (pc := 0) hX dX1_find_0 rfl rfl ?_
  refine w_aload_n (pc := 1) hX dX1_find_1 rfl rfl ?_
  refine w_aload_n (pc := 2) hX dX1_find_2 rfl rfl ?_
  obtain ⟨r1, hr1, hm⟩ := bnd hm
  refine w_callpi (pc := 3) hX [2, 3, 4, 5, 6] (runV (rest := [.ref (a_p1 0), .ref (a_p2 0)]) hX [2, 3, 4, 5, 6] (ctX3_entryCell G a_p1 v_p1 r1 hr1) dX1_find_3 0 gX1_find_X3_entryCell rfl hyX3_entryCell ⟨Nat.le_of_ble_eq_true rfl, Nat.le_of_ble_eq_true rfl⟩ 2 rfl rfl rfl rfl (Nat.le_of_ble_eq_true rfl) ⟨Nat.le_of_ble_eq_true rfl, Nat.le_of_ble_eq_true rfl⟩ rfl (by decide +kernel)) rfl ⟨rfl, rfl⟩ ?_
  obtain ⟨r2, hr2, hm⟩ := bnd hm
  refine w_calldv (pc := 6) (ws' := wX1 G a_t v_t ++ wX3 G a_p1 v_p1 ++ wX6 G a_p2 r2 ++ wX6 G a_p3 v_p3) (os := [none, none, some 5, some 6, some 7, some 8, some 9, some 0, some 1, some 2, some 3, some 4, none, none, none, none, none]) 17 hX [7, 8, 9, 10, 11, 2, 3, 4, 5, 6] (runV (rest := []) hX [7, 8, 9, 10, 11, 2, 3, 4, 5, 6] (ctX6_findFrom G F a_p2 a_p1 v_p2 v_p1 r1 r2 hr2) dX1_find_6 2 gX1_find_X6_findFrom rfl hyX6_findFrom ⟨Nat.le_of_ble_eq_true rfl, Nat.le_of_ble_eq_true rfl⟩ 7 rfl rfl rfl rfl (Nat.le_of_ble_eq_true rfl) ⟨Nat.le_of_ble_eq_true rfl, Nat.le_of_ble_eq_true rfl⟩ rfl (by decide +kernel)) rfl rfl rfl (by decide +kernel) rfl ⟨rfl, rfl⟩ ?_
  refine w_aload_n (pc := 9) hX dX1_find_9 rfl rfl ?_
  refine w_aload_n (pc := 10) hX dX1_find_10 rfl rfl ?_
  refine w_aload_n (pc := 11) hX dX1_find_11 rfl rfl ?_
  obtain ⟨r3, hr3, hm⟩ := bnd hm
  refine w_callpi (pc := 12) hX [2, 3, 4, 5, 6] (runV (rest := [.ref (a_p1 0), .ref (a_p3 0)]) hX [2, 3, 4, 5, 6] (ctX3_exitCell G a_p1 v_p1 r3 hr3) dX1_find_12 0 gX1_find_X3_exitCell rfl hyX3_exitCell ⟨Nat.le_of_ble_eq_true rfl, Nat.le_of_ble_eq_true rfl⟩ 2 rfl rfl rfl rfl (Nat.le_of_ble_eq_true rfl) ⟨Nat.le_of_ble_eq_true rfl, Nat.le_of_ble_eq_true rfl⟩ rfl (by decide +kernel)) rfl ⟨rfl, rfl⟩ ?_
  obtain ⟨r4, hr4, hm⟩ := bnd hm
  refine w_calldv (pc := 15) (ws' := wX1 G a_t v_t ++ wX3 G a_p1 v_p1 ++ wX6 G a_p2 r2 ++ wX6 G a_p3 r4) (os := [none, none, some 5, some 6, some 7, some 8, some 9, none, none, none, none, none, some 0, some 1, some 2, some 3, some 4]) 17 hX [12, 13, 14, 15, 16, 2, 3, 4, 5, 6] (runV (rest := []) hX [12, 13, 14, 15, 16, 2, 3, 4, 5, 6] (ctX6_findFrom G F a_p3 a_p1 v_p3 v_p1 r3 r4 hr4) dX1_find_15 2 gX1_find_X6_findFrom rfl hyX6_findFrom ⟨Nat.le_of_ble_eq_true rfl, Nat.le_of_ble_eq_true rfl⟩ 12 rfl rfl rfl rfl (Nat.le_of_ble_eq_true rfl) ⟨Nat.le_of_ble_eq_true rfl, Nat.le_of_ble_eq_true rfl⟩ rfl (by decide +kernel)) rfl rfl rfl (by decide +kernel) rfl ⟨rfl, rfl⟩ ?_
  refine w_aload_n (pc := 18) hX dX1_find_18 rfl rfl ?_
  refine w_aload_n (pc := 19) hX dX1_find_19 rfl rfl ?_
  obtain ⟨r5, hr5, hm⟩ := bnd hm
  refine w_callpi (pc := 20) hX [2, 3, 4, 5, 6] (runV (rest := [.ref (a_t 0)]) hX [2, 3, 4, 5, 6] (ctX3_toneSum G F a_p1 v_p1 r5 hr5) dX1_find_20 0 gX1_find_X3_toneSum rfl hyX3_toneSum ⟨Nat.le_of_ble_eq_true rfl, Nat.le_of_ble_eq_true rfl⟩ 2 rfl rfl rfl rfl (Nat.le_of_ble_eq_true rfl) ⟨Nat.le_of_ble_eq_true rfl, Nat.le_of_ble_eq_true rfl⟩ rfl (by decide +kernel)) rfl ⟨rfl, rfl⟩ ?_
  refine pf_X1_light (pc := 23) hX dX1_find_23 hX1 (List.mem_of_getElem? (i := 1) rfl) 0 rfl rfl ?_
  refine w_aload_n (pc := 26) hX dX1_find_26 rfl rfl ?_
  refine w_iconst (pc := 27) hX dX1_find_27 ic_m1 ?_
  refine pf_X1_takenAway (pc := 28) hX dX1_find_28 hX1 (List.mem_of_getElem? (i := 2) rfl) 0 rfl rfl ?_
  refine w_aload_n (pc := 31) hX dX1_find_31 rfl rfl ?_
  refine w_iconst (pc := 32) hX dX1_find_32 ic_m1 ?_
  refine pf_X1_made (pc := 33) hX dX1_find_33 hX1 (List.mem_of_getElem? (i := 3) rfl) 0 rfl rfl ?_
  refine w_aload_n (pc := 36) hX dX1_find_36 rfl rfl ?_
  refine w_aload_n (pc := 37) hX dX1_find_37 rfl rfl ?_
  refine gf_X1_light (pc := 38) hX dX1_find_38 hX1 (List.mem_of_getElem? (i := 1) rfl) 0 rfl rfl ?_
  refine w_aload_n (pc := 41) hX dX1_find_41 rfl rfl ?_
  refine gf_X6_gains (pc := 42) hX dX1_find_42 hX6 (List.mem_of_getElem? (i := 4) rfl) 7 rfl rfl ?_
  refine w_aload_n (pc := 45) hX dX1_find_45 rfl rfl ?_
  obtain ⟨r6, hr6, hm⟩ := bnd hm
  refine w_callpi (pc := 46) hX [2, 3, 4, 5, 6] (runV (rest := [.ref (a_p2 4), .int r5, .ref (a_t 0)]) hX [2, 3, 4, 5, 6] (ctX3_exitCell G a_p1 v_p1 r6 hr6) dX1_find_46 0 gX1_find_X3_exitCell rfl hyX3_exitCell ⟨Nat.le_of_ble_eq_true rfl, Nat.le_of_ble_eq_true rfl⟩ 2 rfl rfl rfl rfl (Nat.le_of_ble_eq_true rfl) ⟨Nat.le_of_ble_eq_true rfl, Nat.le_of_ble_eq_true rfl⟩ rfl (by decide +kernel)) rfl ⟨rfl, rfl⟩ ?_
  obtain ⟨r7, hr7, hm⟩ := bnd hm
  refine w_callpi (pc := 49) hX [11] (runSN (rest := [.int r5, .ref (a_t 0)]) hX [11] (ctX7_at G (a_p2 4) 36 r2.2.2.2.2 r6 r7 hr7) dX1_find_49 2 gX1_find_X7_at_n46 rfl (List.mem_of_getElem? (i := 6) rfl) ⟨(List.mem_of_getElem? (i := 13) rfl), (List.mem_of_getElem? (i := 14) rfl)⟩ hyX7_at.2 ⟨Nat.le_of_ble_eq_true rfl, Nat.le_of_ble_eq_true rfl⟩ rfl rfl (Nat.le_of_ble_eq_true rfl) ⟨Nat.le_of_ble_eq_true rfl, Nat.le_of_ble_eq_true rfl⟩ rfl (by decide +kernel)) rfl ⟨rfl, rfl⟩ ?_
  refine w_iadd (pc := 52) hX dX1_find_52 ?_
  refine pf_X1_faultNow (pc := 53) hX dX1_find_53 hX1 (List.mem_of_getElem? (i := 5) rfl) 0 rfl rfl ?_
  refine w_aload_n (pc := 56) hX dX1_find_56 rfl rfl ?_
  refine w_aload_n (pc := 57) hX dX1_find_57 rfl rfl ?_
  refine gf_X1_faultNow (pc := 58) hX dX1_find_58 hX1 (List.mem_of_getElem? (i := 5) rfl) 0 rfl rfl ?_
  refine pf_X1_faultThen (pc := 61) hX dX1_find_61 hX1 (List.mem_of_getElem? (i := 6) rfl) 0 rfl rfl ?_
  refine w_iconst (pc := 64) hX dX1_find_64 ic_0 ?_
  refine w_istore (pc := 65) hX dX1_find_65 (Nat.le_of_ble_eq_true rfl) ?_
  refine w_lvs [true, true, true, true, true] ?_
  refine lpr_ind (T := fun x8 : (Int32 × Int32 × Int32 × Int32 × nF) => WW G X 0 0 (wX1 G a_t (x8.2.1, x8.2.2.1, r5 + r7, x8.2.2.2.1, r5, x8.2.2.2.2) ++ wX3 G a_p1 v_p1 ++ wX6 G a_p2 r2 ++ wX6 G a_p3 r4) [some (.ref (a_t 0)), some (.ref (a_p1 0)), some (.ref (a_p2 0)), some (.ref (a_p3 0)), some (.int x8.1)] 67 []) (fun self9 hself9 x8 hm => ?_) F ((0 : Int32), (-1 : Int32), (-1 : Int32), r5 + r7, v_t.2.2.2.2.2) hm
  unfold mX1_find_L67 at hm
  refine w_iload (pc := 67) hX dX1_find_67 rfl ?_
  refine w_aload_n (pc := 69) hX dX1_find_69 rfl rfl ?_
  obtain ⟨r10, hr10, hm⟩ := bnd hm
  refine w_callpi (pc := 70) hX [2, 3, 4, 5, 6] (runV (rest := [.int x8.1]) hX [2, 3, 4, 5, 6] (ctX3_places G a_p1 v_p1 r10 hr10) dX1_find_70 0 gX1_find_X3_places rfl hyX3_places ⟨Nat.le_of_ble_eq_true rfl, Nat.le_of_ble_eq_true rfl⟩ 2 rfl rfl rfl rfl (Nat.le_of_ble_eq_true rfl) ⟨Nat.le_of_ble_eq_true rfl, Nat.le_of_ble_eq_true rfl⟩ rfl (by decide +kernel)) rfl ⟨rfl, rfl⟩ ?_
  refine w_icmp_ge (pc := 73) (tgt := 108) hX dX1_find_73 (by decide) hm (fun hm => ?_) (fun hm => ?_)
  ·
    obtain rfl := som hm
    exact w_vret (pc := 108) hX hR dX1_find_108 ⟨rfl, rfl⟩
  ·
    refine w_aload_n (pc := 76) hX dX1_find_76 rfl rfl ?_
    refine w_iload (pc := 77) hX dX1_find_77 rfl ?_
    obtain ⟨r11, hr11, hm⟩ := bnd hm
    refine w_callpi (pc := 79) hX [2, 3, 4, 5, 6] (runV (rest := []) hX [2, 3, 4, 5, 6] (ctX3_isOpenPlace G a_p1 v_p1 x8.1 r11 hr11) dX1_find_79 1 gX1_find_X3_isOpenPlace rfl hyX3_isOpenPlace ⟨Nat.le_of_ble_eq_true rfl, Nat.le_of_ble_eq_true rfl⟩ 2 rfl rfl rfl rfl (Nat.le_of_ble_eq_true rfl) ⟨Nat.le_of_ble_eq_true rfl, Nat.le_of_ble_eq_true rfl⟩ rfl (by decide +kernel)) rfl ⟨rfl, rfl⟩ ?_
    refine w_jn (T := fun x12 : (Int32 × Int32 × Int32 × nF) => WW G X 0 0 (wX1 G a_t (x12.1, x12.2.1, r5 + r7, x12.2.2.1, r5, x12.2.2.2) ++ wX3 G a_p1 v_p1 ++ wX6 G a_p2 r2 ++ wX6 G a_p3 r4) [some (.ref (a_t 0)), some (.ref (a_p1 0)), some (.ref (a_p2 0)), some (.ref (a_p3 0)), some (.int x8.1)] 102 []) hm (fun x12 hm => ?_) (fun j13 hj13 hm => ?_)
    ·
      refine w_iinc (pc := 102) hX dX1_find_102 rfl (Nat.le_of_ble_eq_true rfl) ic_1 ?_
      refine w_goto (pc := 105) (tgt := 67) hX dX1_find_105 (by decide) ?_
      exact w_lvs [true, true, true, true, true] (hself9 (x8.1 + (1 : Int32), x12.1, x12.2.1, x12.2.2.1, x12.2.2.2) hm)
    ·
      refine w_if_eq (pc := 82) (tgt := 102) hX dX1_find_82 (by decide) hm (fun hm => ?_) (fun hm => ?_)
      ·
        exact w_lvs [true, true, true, true, true] (hj13 (x8.2.1, x8.2.2.1, x8.2.2.2.1, x8.2.2.2.2) hm)
      ·
        refine w_aload_n (pc := 85) hX dX1_find_85 rfl rfl ?_
        refine w_aload_n (pc := 86) hX dX1_find_86 rfl rfl ?_
        refine w_iload (pc := 87) hX dX1_find_87 rfl ?_
        refine w_aload_n (pc := 89) hX dX1_find_89 rfl rfl ?_
        obtain ⟨r14, hr14, hm⟩ := bnd hm
        refine w_calldv (pc := 90) (ws' := wX1 G a_t (x8.2.1, x8.2.2.1, r5 + r7, x8.2.2.2.1, r5, r14) ++ wX3 G a_p1 v_p1 ++ wX6 G a_p2 r2 ++ wX6 G a_p3 r4) (os := [some 0, some 1, some 2, some 3, some 4, some 5, some 6, some 7, some 8, some 9, some 10, some 11, none, none, none, none, none]) 17 hX [0, 1, 2, 3, 4, 5, 6, 7, 8, 9, 10, 11] (runV (rest := []) hX [0, 1, 2, 3, 4, 5, 6, 7, 8, 9, 10, 11] (ctX1_cut G F a_t a_p1 a_p2 (x8.2.1, x8.2.2.1, r5 + r7, x8.2.2.2.1, r5, x8.2.2.2.2) v_p1 r2 x8.1 r14 hr14) dX1_find_90 3 gX1_find_X1_cut rfl hyX1_cut ⟨Nat.le_of_ble_eq_true rfl, Nat.le_of_ble_eq_true rfl⟩ 0 rfl rfl rfl rfl (Nat.le_of_ble_eq_true rfl) ⟨Nat.le_of_ble_eq_true rfl, Nat.le_of_ble_eq_true rfl⟩ rfl (by decide +kernel)) rfl rfl rfl (by decide +kernel) rfl ⟨rfl, rfl⟩ ?_
        refine w_aload_n (pc := 93) hX dX1_find_93 rfl rfl ?_
        refine w_aload_n (pc := 94) hX dX1_find_94 rfl rfl ?_
        refine w_iload (pc := 95) hX dX1_find_95 rfl ?_
        refine w_aload_n (pc := 97) hX dX1_find_97 rfl rfl ?_
        refine w_aload_n (pc := 98) hX dX1_find_98 rfl rfl ?_
        obtain ⟨r15, hr15, hm⟩ := bnd hm
        refine w_calldv (pc := 99) (ws' := wX1 G a_t (r15.1, r15.2.1, r5 + r7, r15.2.2, r5, r14) ++ wX3 G a_p1 v_p1 ++ wX6 G a_p2 r2 ++ wX6 G a_p3 r4) (os := [some 0, some 1, some 2, some 3, some 4, some 5, some 6, some 7, some 8, some 9, some 10, some 11, some 12, some 13, some 14, some 15, some 16]) 17 hX [0, 1, 2, 3, 4, 5, 6, 7, 8, 9, 10, 11, 12, 13, 14, 15, 16] (runV (rest := []) hX [0, 1, 2, 3, 4, 5, 6, 7, 8, 9, 10, 11, 12, 13, 14, 15, 16] (ctX1_findMade G F a_t a_p1 a_p2 a_p3 (x8.2.1, x8.2.2.1, r5 + r7, x8.2.2.2.1, r5, r14) v_p1 r2 r4 x8.1 r15 hr15) dX1_find_99 4 gX1_find_X1_findMade rfl hyX1_findMade ⟨Nat.le_of_ble_eq_true rfl, Nat.le_of_ble_eq_true rfl⟩ 0 rfl rfl rfl rfl (Nat.le_of_ble_eq_true rfl) ⟨Nat.le_of_ble_eq_true rfl, Nat.le_of_ble_eq_true rfl⟩ rfl (by decide +kernel)) rfl rfl rfl (by decide +kernel) rfl ⟨rfl, rfl⟩ ?_
        exact w_lvs [true, true, true, true, true] (hj13 (r15.1, r15.2.1, r15.2.2, r14) hm)

theorem lX1_apply_X1 : ∀ w ∈ wsX10, w ∈ wsX1_apply := in_at [35, 36, 37, 38, 39, 40] (by decide +kernel)
set_option maxHeartbeats 4000000 in
set_option maxRecDepth 100000 in
theorem ctX1_apply (G : gT) (a_t : Nat → Nat) (a_p1 : Nat → Nat) (v_t : EX) (v_p1 : MZ) (o : nF) (hm : mX1_apply v_t v_p1 = some o) : CT G yX1_apply wsX1_apply rmX1_apply [.ref (a_t 0), .ref (a_p1 0)] (wX1 G a_t v_t ++ wX3 G a_p1 v_p1) (fun v w => v = none ∧ w = wX1 G a_t v_t ++ wX3 G a_p1 (v_p1.1, v_p1.2.1, v_p1.2.2.1, o, v_p1.2.2.2.2.1, v_p1.2.2.2.2.2)) := by
  refine CT_of (cc := cX1_apply) (maxL := 2) (ret := none) 0 (by decide +kernel) rfl rfl (cat_ok rfl) (fun X hX hR hN => ?_)
  have hX : Ok G X cX1_apply RX1 wsX1_apply 2 rmX1_apply := hX
  have hX1 : ∀ w ∈ wsX10, w ∈ wsX1_apply := lX1_apply_X1
  unfold mX1_apply at hm
  refine w_aload_n (pc := 0) hX dX1_apply_0 rfl rfl ?_
  refine w_aload_n (pc := 1) hX dX1_apply_1 rfl rfl ?_
  refine gf_X1_takenAway (pc := 2) hX dX1_apply_2 hX1 (List.mem_of_getElem? (i := 1) rfl) 0 rfl rfl ?_
  refine w_iconst (pc := 5) hX dX1_apply_5 ic_0 ?_
  obtain ⟨r1, hr1, hm⟩ := bnd hm
  refine w_calldv (pc := 6) (ws' := wX1 G a_t v_t ++ wX3 G a_p1 (v_p1.1, v_p1.2.1, v_p1.2.2.1, r1, v_p1.2.2.2.2.1, v_p1.2.2.2.2.2)) (os := [none, none, some 0, some 1, some 2, some 3, some 4]) 7 hX [2, 3, 4, 5, 6] (runV (rest := []) hX [2, 3, 4, 5, 6] (ctX3_setPlace G a_p1 v_p1 v_t.1 (0 : Int32) r1 hr1) dX1_apply_6 2 gX1_apply_X3_setPlace rfl hyX3_setPlace ⟨Nat.le_of_ble_eq_true rfl, Nat.le_of_ble_eq_true rfl⟩ 2 rfl rfl rfl rfl (Nat.le_of_ble_eq_true rfl) ⟨Nat.le_of_ble_eq_true rfl, Nat.le_of_ble_eq_true rfl⟩ rfl (by decide +kernel)) rfl rfl rfl (by decide +kernel) rfl ⟨rfl, rfl⟩ ?_
  refine w_aload_n (pc := 9) hX dX1_apply_9 rfl rfl ?_
  refine w_aload_n (pc := 10) hX dX1_apply_10 rfl rfl ?_
  refine gf_X1_made (pc := 11) hX dX1_apply_11 hX1 (List.mem_of_getElem? (i := 2) rfl) 0 rfl rfl ?_
  refine w_iconst (pc := 14) hX dX1_apply_14 ic_1 ?_
  obtain ⟨r2, hr2, hm⟩ := bnd hm
  refine w_calldv (pc := 15) (ws' := wX1 G a_t v_t ++ wX3 G a_p1 (v_p1.1, v_p1.2.1, v_p1.2.2.1, r2, v_p1.2.2.2.2.1, v_p1.2.2.2.2.2)) (os := [none, none, some 0, some 1, some 2, some 3, some 4]) 7 hX [2, 3, 4, 5, 6] (runV (rest := []) hX [2, 3, 4, 5, 6] (ctX3_setPlace G a_p1 (v_p1.1, v_p1.2.1, v_p1.2.2.1, r1, v_p1.2.2.2.2.1, v_p1.2.2.2.2.2) v_t.2.1 (1 : Int32) r2 hr2) dX1_apply_15 2 gX1_apply_X3_setPlace rfl hyX3_setPlace ⟨Nat.le_of_ble_eq_true rfl, Nat.le_of_ble_eq_true rfl⟩ 2 rfl rfl rfl rfl (Nat.le_of_ble_eq_true rfl) ⟨Nat.le_of_ble_eq_true rfl, Nat.le_of_ble_eq_true rfl⟩ rfl (by decide +kernel)) rfl rfl rfl (by decide +kernel) rfl ⟨rfl, rfl⟩ ?_
  obtain rfl := som hm
  exact w_vret (pc := 18) hX hR dX1_apply_18 ⟨rfl, rfl⟩

set_option maxHeartbeats 4000000 in
set_option maxRecDepth 100000 in
theorem ctX5_opposite (G : gT) (g0 : Int32) (o : Int32) (hm : mX5_opposite g0 = some o) : CT G yX5_opposite wsX5_opposite rmX5_opposite [.int g0] ([]) (fun v w => v = some (.int o) ∧ w = []) := by
  refine CT_of (cc := cX5_opposite) (maxL := 1) (ret := (some .int)) 0 (by decide +kernel) rfl rfl (cat_ok rfl) (fun X hX hR hN => ?_)
  have hX : Ok G X cX5_opposite RX5 wsX5_opposite 1 rmX5_opposite := hX
  unfold mX5_opposite at hm
  refine w_iload_n (pc := 0) hX dX5_opposite_0 rfl rfl ?_
  refine w_iconst (pc := 1) hX dX5_opposite_1 ic_2 ?_
  refine w_iadd (pc := 2) hX dX5_opposite_2 ?_
  refine w_iconst (pc := 3) hX dX5_opposite_3 ic_4 ?_
  refine w_irem (pc := 4) hX dX5_opposite_4 hm (fun hm => ?_)
  obtain rfl := som hm
  exact w_iret (pc := 5) hX hR dX5_opposite_5 ⟨rfl, rfl⟩

theorem lX5_come_X5 : ∀ w ∈ wsX50, w ∈ wsX5_come := in_at [9, 10, 11, 12] (by decide +kernel)
set_option maxHeartbeats 4000000 in
set_option maxRecDepth 100000 in
theorem ctX5_come (G : gT) (a_t : Nat → Nat) (v_t : WK) (g1 : Int32) (g2 : Int32) (o : (Int32 × nF × nF)) (hm : mX5_come v_t g1 g2 = some o) : CT G yX5_come wsX5_come rmX5_come [.ref (a_t 0), .int g1, .int g2] (wX5 G a_t v_t) (fun v w => v = none ∧ w = wX5 G a_t (v_t.1, o.1, o.2.1, o.2.2)) := by
  refine CT_of (cc := cX5_come) (maxL := 3) (ret := none) 0 (by decide +kernel) rfl rfl (cat_ok rfl) (fun X hX hR hN => ?_)
  have hX : Ok G X cX5_come RX5 wsX5_come 3 rmX5_come := hX
  have hX5 : ∀ w ∈ wsX50, w ∈ wsX5_come := lX5_come_X5
  unfold mX5_come at hm
  refine w_aload_n (pc := 0) hX dX5_come_0 rfl rfl ?_
  refine gf_X5_looks (pc := 1) hX dX5_come_1 hX5 (List.mem_of_getElem? (i := 1) rfl) 0 rfl rfl ?_
  refine w_iload_n (pc := 4) hX dX5_come_4 rfl rfl ?_
  refine w_aload_n (pc := 5) hX dX5_come_5 rfl rfl ?_
  refine gf_X5_looks (pc := 6) hX dX5_come_6 hX5 (List.mem_of_getElem? (i := 1) rfl) 0 rfl rfl ?_
  refine w_iload_n (pc := 9) hX dX5_come_9 rfl rfl ?_
  obtain ⟨r1, hr1, hm⟩ := bnd hm
  refine w_callpi (pc := 10) hX [2] (runSN (rest := [.int g1, .ref (a_t 2)]) hX [2] (ctX7_at G (a_t 2) 36 v_t.2.2.2 g1 r1 hr1) dX5_come_10 2 gX5_come_X7_at_n41 rfl (List.mem_of_getElem? (i := 12) rfl) ⟨(List.mem_of_getElem? (i := 4) rfl), (List.mem_of_getElem? (i := 5) rfl)⟩ hyX7_at.2 ⟨Nat.le_of_ble_eq_true rfl, Nat.le_of_ble_eq_true rfl⟩ rfl rfl (Nat.le_of_ble_eq_true rfl) ⟨Nat.le_of_ble_eq_true rfl, Nat.le_of_ble_eq_true rfl⟩ rfl (by decide +kernel)) rfl ⟨rfl, rfl⟩ ?_
  refine w_iconst (pc := 13) hX dX5_come_13 ic_1 ?_
  refine w_iload_n (pc := 14) hX dX5_come_14 rfl rfl ?_
  refine w_ishl (pc := 15) hX dX5_come_15 ?_
  refine w_ior (pc := 16) hX dX5_come_16 ?_
  obtain ⟨r2, hr2, hm⟩ := bnd hm
  refine w_calldv (pc := 17) (ws' := wX5 G a_t (v_t.1, v_t.2.1, v_t.2.2.1, r2)) (os := [none, none, some 0]) 3 hX [2] (runSN (rest := []) hX [2] (ctX7_put G (a_t 2) 36 v_t.2.2.2 g1 (r1 ||| ((1 : Int32) <<< (g2 &&& 31))) r2 hr2) dX5_come_17 3 gX5_come_X7_put_n65 rfl (List.mem_of_getElem? (i := 13) rfl) ⟨(List.mem_of_getElem? (i := 7) rfl), (List.mem_of_getElem? (i := 5) rfl)⟩ hyX7_put.2 ⟨Nat.le_of_ble_eq_true rfl, Nat.le_of_ble_eq_true rfl⟩ rfl rfl (Nat.le_of_ble_eq_true rfl) ⟨Nat.le_of_ble_eq_true rfl, Nat.le_of_ble_eq_true rfl⟩ rfl (by decide +kernel)) rfl rfl rfl (by decide +kernel) rfl ⟨rfl, rfl⟩ ?_
  refine w_aload_n (pc := 20) hX dX5_come_20 rfl rfl ?_
  refine gf_X5_visits (pc := 21) hX dX5_come_21 hX5 (List.mem_of_getElem? (i := 2) rfl) 0 rfl rfl ?_
  refine w_iload_n (pc := 24) hX dX5_come_24 rfl rfl ?_
  refine w_aload_n (pc := 25) hX dX5_come_25 rfl rfl ?_
  refine gf_X5_visits (pc := 26) hX dX5_come_26 hX5 (List.mem_of_getElem? (i := 2) rfl) 0 rfl rfl ?_
  refine w_iload_n (pc := 29) hX dX5_come_29 rfl rfl ?_
  obtain ⟨r3, hr3, hm⟩ := bnd hm
  refine w_callpi (pc := 30) hX [1] (runSN (rest := [.int g1, .ref (a_t 1)]) hX [1] (ctX7_at G (a_t 1) 36 v_t.2.2.1 g1 r3 hr3) dX5_come_30 2 gX5_come_X7_at_n41 rfl (List.mem_of_getElem? (i := 12) rfl) ⟨(List.mem_of_getElem? (i := 4) rfl), (List.mem_of_getElem? (i := 5) rfl)⟩ hyX7_at.2 ⟨Nat.le_of_ble_eq_true rfl, Nat.le_of_ble_eq_true rfl⟩ rfl rfl (Nat.le_of_ble_eq_true rfl) ⟨Nat.le_of_ble_eq_true rfl, Nat.le_of_ble_eq_true rfl⟩ rfl (by decide +kernel)) rfl ⟨rfl, rfl⟩ ?_
  refine w_iconst (pc := 33) hX dX5_come_33 ic_1 ?_
  refine w_iadd (pc := 34) hX dX5_come_34 ?_
  obtain ⟨r4, hr4, hm⟩ := bnd hm
  refine w_calldv (pc := 35) (ws' := wX5 G a_t (v_t.1, v_t.2.1, r4, r2)) (os := [none, some 0, none]) 3 hX [1] (runSN (rest := []) hX [1] (ctX7_put G (a_t 1) 36 v_t.2.2.1 g1 (r3 + (1 : Int32)) r4 hr4) dX5_come_35 3 gX5_come_X7_put_n65 rfl (List.mem_of_getElem? (i := 13) rfl) ⟨(List.mem_of_getElem? (i := 7) rfl), (List.mem_of_getElem? (i := 5) rfl)⟩ hyX7_put.2 ⟨Nat.le_of_ble_eq_true rfl, Nat.le_of_ble_eq_true rfl⟩ rfl rfl (Nat.le_of_ble_eq_true rfl) ⟨Nat.le_of_ble_eq_true rfl, Nat.le_of_ble_eq_true rfl⟩ rfl (by decide +kernel)) rfl rfl rfl (by decide +kernel) rfl ⟨rfl, rfl⟩ ?_
  refine w_aload_n (pc := 38) hX dX5_come_38 rfl rfl ?_
  refine w_dup (pc := 39) hX dX5_come_39 rfl ?_
  refine gf_X5_allVisits (pc := 40) hX dX5_come_40 hX5 (List.mem_of_getElem? (i := 3) rfl) 0 rfl rfl ?_
  refine w_iconst (pc := 43) hX dX5_come_43 ic_1 ?_
  refine w_iadd (pc := 44) hX dX5_come_44 ?_
  refine pf_X5_allVisits (pc := 45) hX dX5_come_45 hX5 (List.mem_of_getElem? (i := 3) rfl) 0 rfl rfl ?_
  obtain rfl := som hm
  exact w_vret (pc := 48) hX hR dX5_come_48 ⟨rfl, rfl⟩

set_option maxHeartbeats 4000000 in
set_option maxRecDepth 100000 in
theorem ctX5_turn (G : gT) (F : Nat) (a_p0 : Nat → Nat) (v_p0 : MZ) (g1 : Int32) (g2 : Int32) (o : Int32) (hm : mX5_turn F v_p0 g1 g2 = some o) : CT G yX5_turn wsX5_turn rmX5_turn [.ref (a_p0 0), .int g1, .int g2] (wX3 G a_p0 v_p0) (fun v w => v = some (.int o) ∧ w = wX3 G a_p0 v_p0) := by
  refine CT_of (cc := cX5_turn) (maxL := 5) (ret := (some .int)) 2 (by decide +kernel) rfl rfl (cat_ok rfl) (fun X hX hR hN => ?_)
  have hX : Ok G X cX5_turn RX5 wsX5_turn 5 rmX5_turn := hX
  unfold mX5_turn at hm
  refine w_iconst (pc := 0) hX dX5_turn_0 ic_0 ?_
  refine w_istore_n (pc := 1) hX dX5_turn_1 rfl (Nat.le_of_ble_eq_true rfl) ?_
  refine w_jn (T := fun x1 : Int32 => WW G X 0 0 (wX3 G a_p0 v_p0) [none, none, none, none, some (.int x1)] 39 []) hm (fun x1 hm => ?_) (fun j2 hj2 hm => ?_)
  ·
    unfold mX5_turn_K39 at hm
    refine w_iload (pc := 39) hX dX5_turn_39 rfl ?_
    obtain rfl := som hm
    exact w_iret (pc := 41) hX hR dX5_turn_41 ⟨rfl, rfl⟩
  ·
    refine w_lvs [true, true, true, true, false] ?_
    refine lpr_ind (T := fun x3 : Int32 => WW G X 0 0 (wX3 G a_p0 v_p0) [some (.ref (a_p0 0)), some (.int g1), some (.int g2), some (.int x3), none] 2 []) (fun self4 hself4 x3 hm => ?_) F (0 : Int32) hm
    unfold mX5_turn_L2 at hm
    refine w_iload_n (pc := 2) hX dX5_turn_2 rfl rfl ?_
    refine w_iconst (pc := 3) hX dX5_turn_3 ic_4 ?_
    refine w_icmp_ge (pc := 4) (tgt := 48) hX dX5_turn_4 (by decide) hm (fun hm => ?_) (fun hm => ?_)
    ·
      refine w_iconst (pc := 48) hX dX5_turn_48 ic_m1 ?_
      obtain rfl := som hm
      exact w_iret (pc := 49) hX hR dX5_turn_49 ⟨rfl, rfl⟩
    ·
      refine w_iload_n (pc := 7) hX dX5_turn_7 rfl rfl ?_
      refine w_iconst (pc := 8) hX dX5_turn_8 ic_1 ?_
      refine w_iadd (pc := 9) hX dX5_turn_9 ?_
      refine w_iconst (pc := 10) hX dX5_turn_10 ic_4 ?_
      refine w_iadd (pc := 11) hX dX5_turn_11 ?_
      refine w_iload_n (pc := 12) hX dX5_turn_12 rfl rfl ?_
      refine w_isub (pc := 13) hX dX5_turn_13 ?_
      refine w_iconst (pc := 14) hX dX5_turn_14 ic_4 ?_
      refine w_irem (pc := 15) hX dX5_turn_15 hm (fun hm => ?_)
      refine w_istore (pc := 16) hX dX5_turn_16 (Nat.le_of_ble_eq_true rfl) ?_
      refine w_aload_n (pc := 18) hX dX5_turn_18 rfl rfl ?_
      refine w_iload_n (pc := 19) hX dX5_turn_19 rfl rfl ?_
      refine w_iload (pc := 20) hX dX5_turn_20 rfl ?_
      obtain ⟨r5, hr5, hm⟩ := bnd hm
      refine w_callpi (pc := 22) hX [0, 1, 2, 3, 4] (runV (rest := []) hX [0, 1, 2, 3, 4] (ctX3_hasPassage G a_p0 v_p0 g1 ((((g2 + (1 : Int32)) + (4 : Int32)) - x3) - (((g2 + (1 : Int32)) + (4 : Int32)) - x3) / (4 : Int32) * (4 : Int32)) r5 hr5) dX5_turn_22 2 gX5_turn_X3_hasPassage rfl hyX3_hasPassage ⟨Nat.le_of_ble_eq_true rfl, Nat.le_of_ble_eq_true rfl⟩ 0 rfl rfl rfl rfl (Nat.le_of_ble_eq_true rfl) ⟨Nat.le_of_ble_eq_true rfl, Nat.le_of_ble_eq_true rfl⟩ rfl (by decide +kernel)) rfl ⟨rfl, rfl⟩ ?_
      refine w_if_ne (pc := 25) (tgt := 39) hX dX5_turn_25 (by decide) hm (fun hm => ?_) (fun hm => ?_)
      ·
        exact w_lvs [false, false, false, false, true] (hj2 ((((g2 + (1 : Int32)) + (4 : Int32)) - x3) - (((g2 + (1 : Int32)) + (4 : Int32)) - x3) / (4 : Int32) * (4 : Int32)) hm)
      ·
        refine w_aload_n (pc := 28) hX dX5_turn_28 rfl rfl ?_
        refine w_iconst (pc := 29) hX dX5_turn_29 ic_1 ?_
        refine w_iload_n (pc := 30) hX dX5_turn_30 rfl rfl ?_
        refine w_iload (pc := 31) hX dX5_turn_31 rfl ?_
        obtain ⟨r6, hr6, hm⟩ := bnd hm
        refine w_callpi (pc := 33) hX [0, 1, 2, 3, 4] (runV (rest := []) hX [0, 1, 2, 3, 4] (ctX3_isDoorAt G a_p0 v_p0 (1 : Int32) g1 ((((g2 + (1 : Int32)) + (4 : Int32)) - x3) - (((g2 + (1 : Int32)) + (4 : Int32)) - x3) / (4 : Int32) * (4 : Int32)) r6 hr6) dX5_turn_33 3 gX5_turn_X3_isDoorAt rfl hyX3_isDoorAt ⟨Nat.le_of_ble_eq_true rfl, Nat.le_of_ble_eq_true rfl⟩ 0 rfl rfl rfl rfl (Nat.le_of_ble_eq_true rfl) ⟨Nat.le_of_ble_eq_true rfl, Nat.le_of_ble_eq_true rfl⟩ rfl (by decide +kernel)) rfl ⟨rfl, rfl⟩ ?_
        refine w_if_eq (pc := 36) (tgt := 42) hX dX5_turn_36 (by decide) hm (fun hm => ?_) (fun hm => ?_)
        ·
          refine w_iinc (pc := 42) hX dX5_turn_42 rfl (Nat.le_of_ble_eq_true rfl) ic_1 ?_
          refine w_goto (pc := 45) (tgt := 2) hX dX5_turn_45 (by decide) ?_
          exact w_lvs [true, true, true, true, false] (hself4 (x3 + (1 : Int32)) hm)
        ·
          exact w_lvs [false, false, false, false, true] (hj2 ((((g2 + (1 : Int32)) + (4 : Int32)) - x3) - (((g2 + (1 : Int32)) + (4 : Int32)) - x3) / (4 : Int32) * (4 : Int32)) hm)

theorem lX5_take_X3 : ∀ w ∈ wsX30, w ∈ wsX5_take := in_at [52, 53, 54, 55, 56, 57] (by decide +kernel)
theorem lX5_take_X5 : ∀ w ∈ wsX50, w ∈ wsX5_take := in_at [48, 49, 50, 51] (by decide +kernel)
set_option maxHeartbeats 4000000 in
set_option maxRecDepth 100000 in
theorem ctX5_take (G : gT) (F : Nat) (a_t : Nat → Nat) (a_p1 : Nat → Nat) (v_t : WK) (v_p1 : MZ) (o : WK) (hm : mX5_take F v_t v_p1 = some o) : CT G yX5_take wsX5_take rmX5_take [.ref (a_t 0), .ref (a_p1 0)] (wX5 G a_t v_t ++ wX3 G a_p1 v_p1) (fun v w => v = none ∧ w = wX5 G a_t o ++ wX3 G a_p1 v_p1) := by
  refine CT_of (cc := cX5_take) (maxL := 5) (ret := none) 3 (by decide +kernel) rfl rfl (cat_ok rfl) (fun X hX hR hN => ?_)
  have hX : Ok G X cX5_take RX5 wsX5_take 5 rmX5_take := hX
  have hX3 : ∀ w ∈ wsX30, w ∈ wsX5_take := lX5_take_X3
  have hX5 : ∀ w ∈ wsX50, w ∈ wsX5_take := lX5_take_X5
  unfold mX5_take at hm
  refine w_aload_n (pc := 0) hX dX5_take_0 rfl rfl ?_
  refine gf_X5_visits (pc := 1) hX dX5_take_1 hX5 (List.mem_of_getElem? (i := 1) rfl) 0 rfl rfl ?_
  refine w_iconst (pc := 4) hX dX5_take_4 ic_0 ?_
  obtain ⟨r1, hr1, hm⟩ := bnd hm
  refine w_calldv (pc := 5) (ws' := wX5 G a_t (v_t.1, v_t.2.1, r1, v_t.2.2.2) ++ wX3 G a_p1 v_p1) (os := [none, some 0, none, none, none, none, none, none]) 8 hX [1] (runS (rest := []) hX [1] (ctJ7_fill_53178 G F (a_t 1) 36 v_t.2.2.1 (0 : Int32) r1 hr1) dX5_take_5 2 gX5_take_J7_fill_53178 rfl hyJ7_fill_53178.2 ⟨Nat.le_of_ble_eq_true rfl, Nat.le_of_ble_eq_true rfl⟩ rfl rfl (Nat.le_of_ble_eq_true rfl) ⟨Nat.le_of_ble_eq_true rfl, Nat.le_of_ble_eq_true rfl⟩ rfl (by decide +kernel)) rfl rfl rfl (by decide +kernel) rfl ⟨rfl, rfl⟩ ?_
  refine w_aload_n (pc := 8) hX dX5_take_8 rfl rfl ?_
  refine gf_X5_looks (pc := 9) hX dX5_take_9 hX5 (List.mem_of_getElem? (i := 2) rfl) 0 rfl rfl ?_
  refine w_iconst (pc := 12) hX dX5_take_12 ic_0 ?_
  obtain ⟨r2, hr2, hm⟩ := bnd hm
  refine w_calldv (pc := 13) (ws' := wX5 G a_t (v_t.1, v_t.2.1, r1, r2) ++ wX3 G a_p1 v_p1) (os := [none, none, some 0, none, none, none, none, none]) 8 hX [2] (runS (rest := []) hX [2] (ctJ7_fill_53178 G F (a_t 2) 36 v_t.2.2.2 (0 : Int32) r2 hr2) dX5_take_13 2 gX5_take_J7_fill_53178 rfl hyJ7_fill_53178.2 ⟨Nat.le_of_ble_eq_true rfl, Nat.le_of_ble_eq_true rfl⟩ rfl rfl (Nat.le_of_ble_eq_true rfl) ⟨Nat.le_of_ble_eq_true rfl, Nat.le_of_ble_eq_true rfl⟩ rfl (by decide +kernel)) rfl rfl rfl (by decide +kernel) rfl ⟨rfl, rfl⟩ ?_
  refine w_aload_n (pc := 16) hX dX5_take_16 rfl rfl ?_
  refine w_iconst (pc := 17) hX dX5_take_17 ic_0 ?_
  refine pf_X5_allVisits (pc := 18) hX dX5_take_18 hX5 (List.mem_of_getElem? (i := 3) rfl) 0 rfl rfl ?_
  refine w_aload_n (pc := 21) hX dX5_take_21 rfl rfl ?_
  refine w_iconst (pc := 22) hX dX5_take_22 ic_1 ?_
  refine pf_X5_failed (pc := 23) hX dX5_take_23 hX5 (List.mem_of_getElem? (i := 4) rfl) 0 rfl rfl hm (fun hm => ?_)
  refine w_aload_n (pc := 26) hX dX5_take_26 rfl rfl ?_
  obtain ⟨r3, hr3, hm⟩ := bnd hm
  refine w_callpi (pc := 27) hX [3, 4, 5, 6, 7] (runV (rest := []) hX [3, 4, 5, 6, 7] (ctX3_entryCell G a_p1 v_p1 r3 hr3) dX5_take_27 0 gX5_take_X3_entryCell rfl hyX3_entryCell ⟨Nat.le_of_ble_eq_true rfl, Nat.le_of_ble_eq_true rfl⟩ 3 rfl rfl rfl rfl (Nat.le_of_ble_eq_true rfl) ⟨Nat.le_of_ble_eq_true rfl, Nat.le_of_ble_eq_true rfl⟩ rfl (by decide +kernel)) rfl ⟨rfl, rfl⟩ ?_
  refine w_istore_n (pc := 30) hX dX5_take_30 rfl (Nat.le_of_ble_eq_true rfl) ?_
  refine w_aload_n (pc := 31) hX dX5_take_31 rfl rfl ?_
  refine gf_X3_doorSides (pc := 32) hX dX5_take_32 hX3 (List.mem_of_getElem? (i := 5) rfl) 3 rfl rfl ?_
  refine w_iconst (pc := 35) hX dX5_take_35 ic_0 ?_
  obtain ⟨r4, hr4, hm⟩ := bnd hm
  refine w_callpi (pc := 36) hX [7] (runSN (rest := []) hX [7] (ctX7_at G (a_p1 4) 2 v_p1.2.2.2.2.2 (0 : Int32) r4 hr4) dX5_take_36 2 gX5_take_X7_at_n41 rfl (List.mem_of_getElem? (i := 12) rfl) ⟨(List.mem_of_getElem? (i := 16) rfl), (List.mem_of_getElem? (i := 17) rfl)⟩ hyX7_at.2 ⟨Nat.le_of_ble_eq_true rfl, Nat.le_of_ble_eq_true rfl⟩ rfl rfl (Nat.le_of_ble_eq_true rfl) ⟨Nat.le_of_ble_eq_true rfl, Nat.le_of_ble_eq_true rfl⟩ rfl (by decide +kernel)) rfl ⟨rfl, rfl⟩ ?_
  obtain ⟨r5, hr5, hm⟩ := bnd hm
  refine w_callpi (pc := 39) hX [] (runS (rest := []) hX [] (ctX5_opposite G r4 r5 hr5) dX5_take_39 1 gX5_take_X5_opposite rfl hyX5_opposite.2 ⟨Nat.le_of_ble_eq_true rfl, Nat.le_of_ble_eq_true rfl⟩ rfl rfl (Nat.le_of_ble_eq_true rfl) ⟨Nat.le_of_ble_eq_true rfl, Nat.le_of_ble_eq_true rfl⟩ rfl (by decide +kernel)) rfl ⟨rfl, rfl⟩ ?_
  refine w_istore_n (pc := 42) hX dX5_take_42 rfl (Nat.le_of_ble_eq_true rfl) ?_
  refine w_iconst (pc := 43) hX dX5_take_43 ic_0 ?_
  refine w_istore (pc := 44) hX dX5_take_44 (Nat.le_of_ble_eq_true rfl) ?_
  refine w_lvs [true, true, true, true, true] ?_
  refine lpr_ind (T := fun x6 : (Int32 × Int32 × Int32 × Int32 × nF × nF) => WW G X 0 0 (wX5 G a_t ((1 : Int32), x6.2.2.2.1, x6.2.2.2.2.1, x6.2.2.2.2.2) ++ wX3 G a_p1 v_p1) [some (.ref (a_t 0)), some (.ref (a_p1 0)), some (.int x6.1), some (.int x6.2.1), some (.int x6.2.2.1)] 46 []) (fun self7 hself7 x6 hm => ?_) F (r3, r5, (0 : Int32), (0 : Int32), r1, r2) hm
  unfold mX5_take_L46 at hm
  refine w_iload (pc := 46) hX dX5_take_46 rfl ?_
  refine w_sipush (pc := 48) hX dX5_take_48 sp_144 ?_
  refine w_icmp_gt (pc := 51) (tgt := 118) hX dX5_take_51 (by decide) hm (fun hm => ?_) (fun hm => ?_)
  ·
    obtain rfl := som hm
    exact w_vret (pc := 118) hX hR dX5_take_118 ⟨rfl, rfl⟩
  ·
    refine w_aload_n (pc := 54) hX dX5_take_54 rfl rfl ?_
    refine gf_X5_looks (pc := 55) hX dX5_take_55 hX5 (List.mem_of_getElem? (i := 2) rfl) 0 rfl rfl ?_
    refine w_iload_n (pc := 58) hX dX5_take_58 rfl rfl ?_
    obtain ⟨r8, hr8, hm⟩ := bnd hm
    refine w_callpi (pc := 59) hX [2] (runSN (rest := []) hX [2] (ctX7_at G (a_t 2) 36 x6.2.2.2.2.2 x6.1 r8 hr8) dX5_take_59 2 gX5_take_X7_at_n41 rfl (List.mem_of_getElem? (i := 12) rfl) ⟨(List.mem_of_getElem? (i := 16) rfl), (List.mem_of_getElem? (i := 17) rfl)⟩ hyX7_at.2 ⟨Nat.le_of_ble_eq_true rfl, Nat.le_of_ble_eq_true rfl⟩ rfl rfl (Nat.le_of_ble_eq_true rfl) ⟨Nat.le_of_ble_eq_true rfl, Nat.le_of_ble_eq_true rfl⟩ rfl (by decide +kernel)) rfl ⟨rfl, rfl⟩ ?_
    refine w_iconst (pc := 62) hX dX5_take_62 ic_1 ?_
    refine w_iload_n (pc := 63) hX dX5_take_63 rfl rfl ?_
    refine w_ishl (pc := 64) hX dX5_take_64 ?_
    refine w_iand (pc := 65) hX dX5_take_65 ?_
    refine w_if_eq (pc := 66) (tgt := 70) hX dX5_take_66 (by decide) hm (fun hm => ?_) (fun hm => ?_)
    ·
      refine w_aload_n (pc := 70) hX dX5_take_70 rfl rfl ?_
      refine w_iload_n (pc := 71) hX dX5_take_71 rfl rfl ?_
      refine w_iload_n (pc := 72) hX dX5_take_72 rfl rfl ?_
      obtain ⟨r9, hr9, hm⟩ := bnd hm
      refine w_calldv (pc := 73) (ws' := wX5 G a_t ((1 : Int32), r9.1, r9.2.1, r9.2.2) ++ wX3 G a_p1 v_p1) (os := [some 0, some 1, some 2, none, none, none, none, none]) 8 hX [0, 1, 2] (runV (rest := []) hX [0, 1, 2] (ctX5_come G a_t ((1 : Int32), x6.2.2.2.1, x6.2.2.2.2.1, x6.2.2.2.2.2) x6.1 x6.2.1 r9 hr9) dX5_take_73 2 gX5_take_X5_come rfl hyX5_come ⟨Nat.le_of_ble_eq_true rfl, Nat.le_of_ble_eq_true rfl⟩ 0 rfl rfl rfl rfl (Nat.le_of_ble_eq_true rfl) ⟨Nat.le_of_ble_eq_true rfl, Nat.le_of_ble_eq_true rfl⟩ rfl (by decide +kernel)) rfl rfl rfl (by decide +kernel) rfl ⟨rfl, rfl⟩ ?_
      refine w_aload_n (pc := 76) hX dX5_take_76 rfl rfl ?_
      refine w_iload_n (pc := 77) hX dX5_take_77 rfl rfl ?_
      refine w_iload_n (pc := 78) hX dX5_take_78 rfl rfl ?_
      obtain ⟨r10, hr10, hm⟩ := bnd hm
      refine w_callpi (pc := 79) hX [3, 4, 5, 6, 7] (runS (rest := []) hX [3, 4, 5, 6, 7] (ctX5_turn G F a_p1 v_p1 x6.1 x6.2.1 r10 hr10) dX5_take_79 3 gX5_take_X5_turn rfl hyX5_turn.2 ⟨Nat.le_of_ble_eq_true rfl, Nat.le_of_ble_eq_true rfl⟩ rfl rfl (Nat.le_of_ble_eq_true rfl) ⟨Nat.le_of_ble_eq_true rfl, Nat.le_of_ble_eq_true rfl⟩ rfl (by decide +kernel)) rfl ⟨rfl, rfl⟩ ?_
      refine w_istore_n (pc := 82) hX dX5_take_82 rfl (Nat.le_of_ble_eq_true rfl) ?_
      refine w_iload_n (pc := 83) hX dX5_take_83 rfl rfl ?_
      refine w_iconst (pc := 84) hX dX5_take_84 ic_m1 ?_
      refine w_icmp_ne (pc := 85) (tgt := 89) hX dX5_take_85 (by decide) hm (fun hm => ?_) (fun hm => ?_)
      ·
        refine w_aload_n (pc := 89) hX dX5_take_89 rfl rfl ?_
        refine w_iconst (pc := 90) hX dX5_take_90 ic_1 ?_
        refine w_iload_n (pc := 91) hX dX5_take_91 rfl rfl ?_
        refine w_iload_n (pc := 92) hX dX5_take_92 rfl rfl ?_
        obtain ⟨r11, hr11, hm⟩ := bnd hm
        refine w_callpi (pc := 93) hX [3, 4, 5, 6, 7] (runV (rest := []) hX [3, 4, 5, 6, 7] (ctX3_isDoorAt G a_p1 v_p1 (1 : Int32) x6.1 r10 r11 hr11) dX5_take_93 3 gX5_take_X3_isDoorAt rfl hyX3_isDoorAt ⟨Nat.le_of_ble_eq_true rfl, Nat.le_of_ble_eq_true rfl⟩ 3 rfl rfl rfl rfl (Nat.le_of_ble_eq_true rfl) ⟨Nat.le_of_ble_eq_true rfl, Nat.le_of_ble_eq_true rfl⟩ rfl (by decide +kernel)) rfl ⟨rfl, rfl⟩ ?_
        refine w_if_eq (pc := 96) (tgt := 105) hX dX5_take_96 (by decide) hm (fun hm => ?_) (fun hm => ?_)
        ·
          refine w_aload_n (pc := 105) hX dX5_take_105 rfl rfl ?_
          refine w_iload_n (pc := 106) hX dX5_take_106 rfl rfl ?_
          refine w_iload_n (pc := 107) hX dX5_take_107 rfl rfl ?_
          obtain ⟨r12, hr12, hm⟩ := bnd hm
          refine w_callpi (pc := 108) hX [3, 4, 5, 6, 7] (runV (rest := []) hX [3, 4, 5, 6, 7] (ctX3_beside G a_p1 v_p1 x6.1 r10 r12 hr12) dX5_take_108 2 gX5_take_X3_beside rfl hyX3_beside ⟨Nat.le_of_ble_eq_true rfl, Nat.le_of_ble_eq_true rfl⟩ 3 rfl rfl rfl rfl (Nat.le_of_ble_eq_true rfl) ⟨Nat.le_of_ble_eq_true rfl, Nat.le_of_ble_eq_true rfl⟩ rfl (by decide +kernel)) rfl ⟨rfl, rfl⟩ ?_
          refine w_istore_n (pc := 111) hX dX5_take_111 rfl (Nat.le_of_ble_eq_true rfl) ?_
          refine w_iinc (pc := 112) hX dX5_take_112 rfl (Nat.le_of_ble_eq_true rfl) ic_1 ?_
          refine w_goto (pc := 115) (tgt := 46) hX dX5_take_115 (by decide) ?_
          exact w_lvs [true, true, true, true, true] (hself7 (r12, r10, x6.2.2.1 + (1 : Int32), r9.1, r9.2.1, r9.2.2) hm)
        ·
          refine w_aload_n (pc := 99) hX dX5_take_99 rfl rfl ?_
          refine w_iconst (pc := 100) hX dX5_take_100 ic_0 ?_
          refine pf_X5_failed (pc := 101) hX dX5_take_101 hX5 (List.mem_of_getElem? (i := 4) rfl) 0 rfl rfl hm (fun hm => ?_)
          obtain rfl := som hm
          exact w_vret (pc := 104) hX hR dX5_take_104 ⟨rfl, rfl⟩
      ·
        obtain rfl := som hm
        exact w_vret (pc := 88) hX hR dX5_take_88 ⟨rfl, rfl⟩
    ·
      obtain rfl := som hm
      exact w_vret (pc := 69) hX hR dX5_take_69 ⟨rfl, rfl⟩

theorem lX6_lowestCell_X6 : ∀ w ∈ wsX60, w ∈ wsX6_lowestCell := in_at [10, 11, 12, 13, 14] (by decide +kernel)
set_option maxHeartbeats 4000000 in
set_option maxRecDepth 100000 in
theorem ctX6_lowestCell (G : gT) (F : Nat) (a_t : Nat → Nat) (v_t : WY) (o : Int32) (hm : mX6_lowestCell F v_t = some o) : CT G yX6_lowestCell wsX6_lowestCell rmX6_lowestCell [.ref (a_t 0)] (wX6 G a_t v_t) (fun v w => v = some (.int o) ∧ w = wX6 G a_t v_t) := by
  refine CT_of (cc := cX6_lowestCell) (maxL := 3) (ret := (some .int)) 2 (by decide +kernel) rfl rfl (cat_ok rfl) (fun X hX hR hN => ?_)
  have hX : Ok G X cX6_lowestCell RX6 wsX6_lowestCell 3 rmX6_lowestCell := hX
  have hX6 : ∀ w ∈ wsX60, w ∈ wsX6_lowestCell := lX6_lowestCell_X6
  unfold mX6_lowestCell at hm
  refine w_aload_n (pc := 0) hX dX6_lowestCell_0 rfl rfl ?_
  refine gf_X6_order (pc := 1) hX dX6_lowestCell_1 hX6 (List.mem_of_getElem? (i := 1) rfl) 0 rfl rfl ?_
  refine w_iconst (pc := 4) hX dX6_lowestCell_4 ic_0 ?_
  obtain ⟨r1, hr1, hm⟩ := bnd hm
  refine w_callpi (pc := 5) hX [1] (runSN (rest := []) hX [1] (ctX7_at G (a_t 1) 36 v_t.2.1 (0 : Int32) r1 hr1) dX6_lowestCell_5 2 gX6_lowestCell_X7_at_n38 rfl (List.mem_of_getElem? (i := 14) rfl) ⟨(List.mem_of_getElem? (i := 7) rfl), (List.mem_of_getElem? (i := 8) rfl)⟩ hyX7_at.2 ⟨Nat.le_of_ble_eq_true rfl, Nat.le_of_ble_eq_true rfl⟩ rfl rfl (Nat.le_of_ble_eq_true rfl) ⟨Nat.le_of_ble_eq_true rfl, Nat.le_of_ble_eq_true rfl⟩ rfl (by decide +kernel)) rfl ⟨rfl, rfl⟩ ?_
  refine w_istore_n (pc := 8) hX dX6_lowestCell_8 rfl (Nat.le_of_ble_eq_true rfl) ?_
  refine w_iconst (pc := 9) hX dX6_lowestCell_9 ic_1 ?_
  refine w_istore_n (pc := 10) hX dX6_lowestCell_10 rfl (Nat.le_of_ble_eq_true rfl) ?_
  refine w_lvs [true, true, true] ?_
  refine lpr_ind (T := fun x2 : (Int32 × Int32) => WW G X 0 0 (wX6 G a_t v_t) [some (.ref (a_t 0)), some (.int x2.1), some (.int x2.2)] 11 []) (fun self3 hself3 x2 hm => ?_) F (r1, (1 : Int32)) hm
  unfold mX6_lowestCell_L11 at hm
  refine w_iload_n (pc := 11) hX dX6_lowestCell_11 rfl rfl ?_
  refine w_aload_n (pc := 12) hX dX6_lowestCell_12 rfl rfl ?_
  refine gf_X6_cells (pc := 13) hX dX6_lowestCell_13 hX6 (List.mem_of_getElem? (i := 2) rfl) 0 rfl rfl ?_
  refine w_icmp_ge (pc := 16) (tgt := 38) hX dX6_lowestCell_16 (by decide) hm (fun hm => ?_) (fun hm => ?_)
  ·
    refine w_iload_n (pc := 38) hX dX6_lowestCell_38 rfl rfl ?_
    obtain rfl := som hm
    exact w_iret (pc := 39) hX hR dX6_lowestCell_39 ⟨rfl, rfl⟩
  ·
    refine w_iload_n (pc := 19) hX dX6_lowestCell_19 rfl rfl ?_
    refine w_aload_n (pc := 20) hX dX6_lowestCell_20 rfl rfl ?_
    refine gf_X6_order (pc := 21) hX dX6_lowestCell_21 hX6 (List.mem_of_getElem? (i := 1) rfl) 0 rfl rfl ?_
    refine w_iload_n (pc := 24) hX dX6_lowestCell_24 rfl rfl ?_
    obtain ⟨r4, hr4, hm⟩ := bnd hm
    refine w_callpi (pc := 25) hX [1] (runSN (rest := [.int x2.1]) hX [1] (ctX7_at G (a_t 1) 36 v_t.2.1 x2.2 r4 hr4) dX6_lowestCell_25 2 gX6_lowestCell_X7_at_n38 rfl (List.mem_of_getElem? (i := 14) rfl) ⟨(List.mem_of_getElem? (i := 7) rfl), (List.mem_of_getElem? (i := 8) rfl)⟩ hyX7_at.2 ⟨Nat.le_of_ble_eq_true rfl, Nat.le_of_ble_eq_true rfl⟩ rfl rfl (Nat.le_of_ble_eq_true rfl) ⟨Nat.le_of_ble_eq_true rfl, Nat.le_of_ble_eq_true rfl⟩ rfl (by decide +kernel)) rfl ⟨rfl, rfl⟩ ?_
    refine w_mmin (pc := 28) hX dX6_lowestCell_28 (List.mem_of_getElem? (i := 3) rfl) (List.mem_of_getElem? (i := 4) rfl) (List.mem_of_getElem? (i := 5) rfl) (List.mem_of_getElem? (i := 6) rfl) (Nat.le_of_ble_eq_true rfl) (Nat.le_of_ble_eq_true rfl) ⟨Nat.le_of_ble_eq_true rfl, Nat.le_of_ble_eq_true rfl⟩ ?_
    refine w_istore_n (pc := 31) hX dX6_lowestCell_31 rfl (Nat.le_of_ble_eq_true rfl) ?_
    refine w_iinc (pc := 32) hX dX6_lowestCell_32 rfl (Nat.le_of_ble_eq_true rfl) ic_1 ?_
    refine w_goto (pc := 35) (tgt := 11) hX dX6_lowestCell_35 (by decide) ?_
    exact w_lvs [true, true, true] (hself3 ((if r4 < x2.1 then r4 else x2.1), x2.2 + (1 : Int32)) hm)

theorem lX5_faultOn_X3 : ∀ w ∈ wsX30, w ∈ wsX5_faultOn := in_at [24, 25, 26, 27, 28, 29] (by decide +kernel)
theorem lX5_faultOn_X5 : ∀ w ∈ wsX50, w ∈ wsX5_faultOn := in_at [20, 21, 22, 23] (by decide +kernel)
set_option maxHeartbeats 4000000 in
set_option maxRecDepth 100000 in
theorem ctX5_faultOn (G : gT) (F : Nat) (a_t : Nat → Nat) (a_p1 : Nat → Nat) (v_t : WK) (v_p1 : MZ) (o : Int32) (hm : mX5_faultOn F v_t v_p1 = some o) : CT G yX5_faultOn wsX5_faultOn rmX5_faultOn [.ref (a_t 0), .ref (a_p1 0)] (wX5 G a_t v_t ++ wX3 G a_p1 v_p1) (fun v w => v = some (.int o) ∧ w = wX5 G a_t v_t ++ wX3 G a_p1 v_p1) := by
  refine CT_of (cc := cX5_faultOn) (maxL := 5) (ret := (some .int)) 3 (by decide +kernel) rfl rfl (cat_ok rfl) (fun X hX hR hN => ?_)
  have hX : Ok G X cX5_faultOn RX5 wsX5_faultOn 5 rmX5_faultOn := hX
  have hX3 : ∀ w ∈ wsX30, w ∈ wsX5_faultOn := lX5_faultOn_X3
  have hX5 : ∀ w ∈ wsX50, w ∈ wsX5_faultOn := lX5_faultOn_X5
  unfold mX5_faultOn at hm
  refine w_iconst (pc := 0) hX dX5_faultOn_0 ic_0 ?_
  refine w_istore_n (pc := 1) hX dX5_faultOn_1 rfl (Nat.le_of_ble_eq_true rfl) ?_
  refine w_iconst (pc := 2) hX dX5_faultOn_2 ic_0 ?_
  refine w_istore_n (pc := 3) hX dX5_faultOn_3 rfl (Nat.le_of_ble_eq_true rfl) ?_
  refine w_lvs [true, true, true, true, false] ?_
  refine lpr_ind (T := fun x1 : (Int32 × Int32) => WW G X 0 0 (wX5 G a_t v_t ++ wX3 G a_p1 v_p1) [some (.ref (a_t 0)), some (.ref (a_p1 0)), some (.int x1.1), some (.int x1.2), none] 4 []) (fun self2 hself2 x1 hm => ?_) F ((0 : Int32), (0 : Int32)) hm
  unfold mX5_faultOn_L4 at hm
  refine w_iload_n (pc := 4) hX dX5_faultOn_4 rfl rfl ?_
  refine w_aload_n (pc := 5) hX dX5_faultOn_5 rfl rfl ?_
  obtain ⟨r3, hr3, hm⟩ := bnd hm
  refine w_callpi (pc := 6) hX [3, 4, 5, 6, 7] (runV (rest := [.int x1.2]) hX [3, 4, 5, 6, 7] (ctX3_cells G a_p1 v_p1 r3 hr3) dX5_faultOn_6 0 gX5_faultOn_X3_cells rfl hyX3_cells ⟨Nat.le_of_ble_eq_true rfl, Nat.le_of_ble_eq_true rfl⟩ 3 rfl rfl rfl rfl (Nat.le_of_ble_eq_true rfl) ⟨Nat.le_of_ble_eq_true rfl, Nat.le_of_ble_eq_true rfl⟩ rfl (by decide +kernel)) rfl ⟨rfl, rfl⟩ ?_
  refine w_icmp_ge (pc := 9) (tgt := 52) hX dX5_faultOn_9 (by decide) hm (fun hm => ?_) (fun hm => ?_)
  ·
    refine w_iload_n (pc := 52) hX dX5_faultOn_52 rfl rfl ?_
    obtain rfl := som hm
    exact w_iret (pc := 53) hX hR dX5_faultOn_53 ⟨rfl, rfl⟩
  ·
    refine w_iconst (pc := 12) hX dX5_faultOn_12 ic_3 ?_
    refine w_aload_n (pc := 13) hX dX5_faultOn_13 rfl rfl ?_
    refine gf_X5_visits (pc := 14) hX dX5_faultOn_14 hX5 (List.mem_of_getElem? (i := 1) rfl) 0 rfl rfl ?_
    refine w_iload_n (pc := 17) hX dX5_faultOn_17 rfl rfl ?_
    obtain ⟨r4, hr4, hm⟩ := bnd hm
    refine w_callpi (pc := 18) hX [1] (runSN (rest := [.int (3 : Int32)]) hX [1] (ctX7_at G (a_t 1) 36 v_t.2.2.1 x1.2 r4 hr4) dX5_faultOn_18 2 gX5_faultOn_X7_at_n41 rfl (List.mem_of_getElem? (i := 12) rfl) ⟨(List.mem_of_getElem? (i := 17) rfl), (List.mem_of_getElem? (i := 18) rfl)⟩ hyX7_at.2 ⟨Nat.le_of_ble_eq_true rfl, Nat.le_of_ble_eq_true rfl⟩ rfl rfl (Nat.le_of_ble_eq_true rfl) ⟨Nat.le_of_ble_eq_true rfl, Nat.le_of_ble_eq_true rfl⟩ rfl (by decide +kernel)) rfl ⟨rfl, rfl⟩ ?_
    refine w_imul (pc := 21) hX dX5_faultOn_21 ?_
    refine w_bipush (pc := 22) hX dX5_faultOn_22 bp_9 ?_
    refine w_mmin (pc := 24) hX dX5_faultOn_24 (List.mem_of_getElem? (i := 2) rfl) (List.mem_of_getElem? (i := 3) rfl) (List.mem_of_getElem? (i := 4) rfl) (List.mem_of_getElem? (i := 5) rfl) (Nat.le_of_ble_eq_true rfl) (Nat.le_of_ble_eq_true rfl) ⟨Nat.le_of_ble_eq_true rfl, Nat.le_of_ble_eq_true rfl⟩ ?_
    refine w_istore (pc := 27) hX dX5_faultOn_27 (Nat.le_of_ble_eq_true rfl) ?_
    refine w_iload_n (pc := 29) hX dX5_faultOn_29 rfl rfl ?_
    refine w_aload_n (pc := 30) hX dX5_faultOn_30 rfl rfl ?_
    refine gf_X3_tones (pc := 31) hX dX5_faultOn_31 hX3 (List.mem_of_getElem? (i := 6) rfl) 3 rfl rfl ?_
    refine w_iload_n (pc := 34) hX dX5_faultOn_34 rfl rfl ?_
    obtain ⟨r5, hr5, hm⟩ := bnd hm
    refine w_callpi (pc := 35) hX [4] (runSN (rest := [.int x1.1]) hX [4] (ctX7_at G (a_p1 1) 36 v_p1.2.2.1 x1.2 r5 hr5) dX5_faultOn_35 2 gX5_faultOn_X7_at_n41 rfl (List.mem_of_getElem? (i := 12) rfl) ⟨(List.mem_of_getElem? (i := 17) rfl), (List.mem_of_getElem? (i := 18) rfl)⟩ hyX7_at.2 ⟨Nat.le_of_ble_eq_true rfl, Nat.le_of_ble_eq_true rfl⟩ rfl rfl (Nat.le_of_ble_eq_true rfl) ⟨Nat.le_of_ble_eq_true rfl, Nat.le_of_ble_eq_true rfl⟩ rfl (by decide +kernel)) rfl ⟨rfl, rfl⟩ ?_
    refine w_iload (pc := 38) hX dX5_faultOn_38 rfl ?_
    refine w_isub (pc := 40) hX dX5_faultOn_40 ?_
    refine w_mabs (pc := 41) hX dX5_faultOn_41 (List.mem_of_getElem? (i := 7) rfl) (List.mem_of_getElem? (i := 8) rfl) (List.mem_of_getElem? (i := 4) rfl) (List.mem_of_getElem? (i := 9) rfl) (Nat.le_of_ble_eq_true rfl) (Nat.le_of_ble_eq_true rfl) ⟨Nat.le_of_ble_eq_true rfl, Nat.le_of_ble_eq_true rfl⟩ ?_
    refine w_iadd (pc := 44) hX dX5_faultOn_44 ?_
    refine w_istore_n (pc := 45) hX dX5_faultOn_45 rfl (Nat.le_of_ble_eq_true rfl) ?_
    refine w_iinc (pc := 46) hX dX5_faultOn_46 rfl (Nat.le_of_ble_eq_true rfl) ic_1 ?_
    refine w_goto (pc := 49) (tgt := 4) hX dX5_faultOn_49 (by decide) ?_
    exact w_lvs [true, true, true, true, false] (hself2 (x1.1 + (if 0 ≤ (r5 - (if (9 : Int32) < ((3 : Int32) * r4) then (9 : Int32) else ((3 : Int32) * r4))) then (r5 - (if (9 : Int32) < ((3 : Int32) * r4) then (9 : Int32) else ((3 : Int32) * r4))) else 0 - (r5 - (if (9 : Int32) < ((3 : Int32) * r4) then (9 : Int32) else ((3 : Int32) * r4)))), x1.2 + (1 : Int32)) hm)

theorem lX4_blame_X4 : ∀ w ∈ wsX40, w ∈ wsX4_blame := in_at [3, 4, 5, 6, 7, 8, 9] (by decide +kernel)
set_option maxHeartbeats 4000000 in
set_option maxRecDepth 100000 in
theorem ctX4_blame (G : gT) (a_t : Nat → Nat) (v_t : PT) (g1 : Int32) (g2 : Int32) (o : (Int32 × Int32)) (hm : mX4_blame v_t g1 g2 = some o) : CT G yX4_blame wsX4_blame rmX4_blame [.ref (a_t 0), .int g1, .int g2] (wX4 G a_t v_t) (fun v w => v = none ∧ w = wX4 G a_t (v_t.1, o.1, o.2, v_t.2.2.2.1, v_t.2.2.2.2.1, v_t.2.2.2.2.2.1, v_t.2.2.2.2.2.2)) := by
  refine CT_of (cc := cX4_blame) (maxL := 3) (ret := none) 0 (by decide +kernel) rfl rfl (cat_ok rfl) (fun X hX hR hN => ?_)
  have hX : Ok G X cX4_blame RX4 wsX4_blame 3 rmX4_blame := hX
  have hX4 : ∀ w ∈ wsX40, w ∈ wsX4_blame := lX4_blame_X4
  unfold mX4_blame at hm
  refine w_aload_n (pc := 0) hX dX4_blame_0 rfl rfl ?_
  refine w_iload_n (pc := 1) hX dX4_blame_1 rfl rfl ?_
  refine pf_X4_place (pc := 2) hX dX4_blame_2 hX4 (List.mem_of_getElem? (i := 1) rfl) 0 rfl rfl ?_
  refine w_aload_n (pc := 5) hX dX4_blame_5 rfl rfl ?_
  refine w_iload_n (pc := 6) hX dX4_blame_6 rfl rfl ?_
  refine pf_X4_reason (pc := 7) hX dX4_blame_7 hX4 (List.mem_of_getElem? (i := 2) rfl) 0 rfl rfl ?_
  obtain rfl := som hm
  exact w_vret (pc := 10) hX hR dX4_blame_10 ⟨rfl, rfl⟩

theorem lX4_lookAtDigit_X4 : ∀ w ∈ wsX40, w ∈ wsX4_lookAtDigit := in_at [15, 16, 17, 18, 19, 20, 21] (by decide +kernel)
set_option maxHeartbeats 4000000 in
set_option maxRecDepth 100000 in
theorem ctX4_lookAtDigit (G : gT) (a_t : Nat → Nat) (v_t : PT) (g1 : Int32) (o : (Int32 × Int32 × Int32 × Int32)) (hm : mX4_lookAtDigit v_t g1 = some o) : CT G yX4_lookAtDigit wsX4_lookAtDigit rmX4_lookAtDigit [.ref (a_t 0), .int g1] (wX4 G a_t v_t) (fun v w => v = none ∧ w = wX4 G a_t (v_t.1, o.1, o.2.1, v_t.2.2.2.1, o.2.2.1, v_t.2.2.2.2.2.1, o.2.2.2)) := by
  refine CT_of (cc := cX4_lookAtDigit) (maxL := 2) (ret := none) 0 (by decide +kernel) rfl rfl (cat_ok rfl) (fun X hX hR hN => ?_)
  have hX : Ok G X cX4_lookAtDigit RX4 wsX4_lookAtDigit 2 rmX4_lookAtDigit := hX
  have hX4 : ∀ w ∈ wsX40, w ∈ wsX4_lookAtDigit := lX4_lookAtDigit_X4
  unfold mX4_lookAtDigit at hm
  refine w_aload_n (pc := 0) hX dX4_lookAtDigit_0 rfl rfl ?_
  refine gf_X4_rows (pc := 1) hX dX4_lookAtDigit_1 hX4 (List.mem_of_getElem? (i := 1) rfl) 0 rfl rfl ?_
  refine w_iconst (pc := 4) hX dX4_lookAtDigit_4 ic_1 ?_
  refine w_jn (T := fun x1 : (Int32 × Int32 × Int32 × Int32) => WW G X 0 0 (wX4 G a_t (v_t.1, x1.1, x1.2.1, v_t.2.2.2.1, x1.2.2.1, v_t.2.2.2.2.2.1, x1.2.2.2)) [none, none] 79 []) hm (fun x1 hm => ?_) (fun j2 hj2 hm => ?_)
  ·
    obtain rfl := som hm
    exact w_vret (pc := 79) hX hR dX4_lookAtDigit_79 ⟨rfl, rfl⟩
  ·
    refine w_jn (T := fun x3 : Unit => WW G X 0 0 (wX4 G a_t v_t) [some (.ref (a_t 0)), some (.int g1)] 26 []) hm (fun x3 hm => ?_) (fun j4 hj4 hm => ?_)
    ·
      refine w_aload_n (pc := 26) hX dX4_lookAtDigit_26 rfl rfl ?_
      refine gf_X4_rows (pc := 27) hX dX4_lookAtDigit_27 hX4 (List.mem_of_getElem? (i := 1) rfl) 0 rfl rfl ?_
      refine w_iconst (pc := 30) hX dX4_lookAtDigit_30 ic_1 ?_
      refine w_jn (T := fun x5 : Unit => WW G X 0 0 (wX4 G a_t v_t) [some (.ref (a_t 0)), none] 54 []) hm (fun x5 hm => ?_) (fun j6 hj6 hm => ?_)
      ·
        refine w_aload_n (pc := 54) hX dX4_lookAtDigit_54 rfl rfl ?_
        refine w_dup (pc := 55) hX dX4_lookAtDigit_55 rfl ?_
        refine gf_X4_inRow (pc := 56) hX dX4_lookAtDigit_56 hX4 (List.mem_of_getElem? (i := 2) rfl) 0 rfl rfl ?_
        refine w_iconst (pc := 59) hX dX4_lookAtDigit_59 ic_1 ?_
        refine w_iadd (pc := 60) hX dX4_lookAtDigit_60 ?_
        refine pf_X4_inRow (pc := 61) hX dX4_lookAtDigit_61 hX4 (List.mem_of_getElem? (i := 2) rfl) 0 rfl rfl ?_
        refine w_aload_n (pc := 64) hX dX4_lookAtDigit_64 rfl rfl ?_
        refine w_aload_n (pc := 65) hX dX4_lookAtDigit_65 rfl rfl ?_
        refine gf_X4_columns (pc := 66) hX dX4_lookAtDigit_66 hX4 (List.mem_of_getElem? (i := 3) rfl) 0 rfl rfl ?_
        refine w_aload_n (pc := 69) hX dX4_lookAtDigit_69 rfl rfl ?_
        refine gf_X4_inRow (pc := 70) hX dX4_lookAtDigit_70 hX4 (List.mem_of_getElem? (i := 2) rfl) 0 rfl rfl ?_
        refine w_mmax (pc := 73) hX dX4_lookAtDigit_73 (List.mem_of_getElem? (i := 4) rfl) (List.mem_of_getElem? (i := 5) rfl) (List.mem_of_getElem? (i := 6) rfl) (List.mem_of_getElem? (i := 7) rfl) (Nat.le_of_ble_eq_true rfl) (Nat.le_of_ble_eq_true rfl) ⟨Nat.le_of_ble_eq_true rfl, Nat.le_of_ble_eq_true rfl⟩ ?_
        refine pf_X4_columns (pc := 76) hX dX4_lookAtDigit_76 hX4 (List.mem_of_getElem? (i := 3) rfl) 0 rfl rfl ?_
        exact w_lvs [false, false] (hj2 (v_t.2.1, v_t.2.2.1, (if v_t.2.2.2.2.1 < (v_t.2.2.2.2.2.2 + (1 : Int32)) then (v_t.2.2.2.2.2.2 + (1 : Int32)) else v_t.2.2.2.2.1), v_t.2.2.2.2.2.2 + (1 : Int32)) hm)
      ·
        refine w_icmp_le (pc := 31) (tgt := 54) hX dX4_lookAtDigit_31 (by decide) hm (fun hm => ?_) (fun hm => ?_)
        ·
          exact w_lvs [true, false] (hj6 () hm)
        ·
          refine w_aload_n (pc := 34) hX dX4_lookAtDigit_34 rfl rfl ?_
          refine gf_X4_inRow (pc := 35) hX dX4_lookAtDigit_35 hX4 (List.mem_of_getElem? (i := 2) rfl) 0 rfl rfl ?_
          refine w_aload_n (pc := 38) hX dX4_lookAtDigit_38 rfl rfl ?_
          refine gf_X4_columns (pc := 39) hX dX4_lookAtDigit_39 hX4 (List.mem_of_getElem? (i := 3) rfl) 0 rfl rfl ?_
          refine w_icmp_ne (pc := 42) (tgt := 54) hX dX4_lookAtDigit_42 (by decide) hm (fun hm => ?_) (fun hm => ?_)
          ·
            exact w_lvs [true, false] (hj6 () hm)
          ·
            refine w_aload_n (pc := 45) hX dX4_lookAtDigit_45 rfl rfl ?_
            refine w_iload_n (pc := 46) hX dX4_lookAtDigit_46 rfl rfl ?_
            refine w_iconst (pc := 47) hX dX4_lookAtDigit_47 ic_1 ?_
            obtain ⟨r7, hr7, hm⟩ := bnd hm
            refine w_calldv (pc := 48) (ws' := wX4 G a_t (v_t.1, r7.1, r7.2, v_t.2.2.2.1, v_t.2.2.2.2.1, v_t.2.2.2.2.2.1, v_t.2.2.2.2.2.2)) (os := [some 0, some 1]) 2 hX [0, 1] (runV (rest := []) hX [0, 1] (ctX4_blame G a_t v_t g1 (1 : Int32) r7 hr7) dX4_lookAtDigit_48 2 gX4_lookAtDigit_X4_blame rfl hyX4_blame ⟨Nat.le_of_ble_eq_true rfl, Nat.le_of_ble_eq_true rfl⟩ 0 rfl rfl rfl rfl (Nat.le_of_ble_eq_true rfl) ⟨Nat.le_of_ble_eq_true rfl, Nat.le_of_ble_eq_true rfl⟩ rfl (by decide +kernel)) rfl rfl rfl (by decide +kernel) rfl ⟨rfl, rfl⟩ ?_
            refine w_goto (pc := 51) (tgt := 79) hX dX4_lookAtDigit_51 (by decide) ?_
            exact w_lvs [false, false] (hj2 (r7.1, r7.2, v_t.2.2.2.2.1, v_t.2.2.2.2.2.2) hm)
    ·
      refine w_icmp_ne (pc := 5) (tgt := 26) hX dX4_lookAtDigit_5 (by decide) hm (fun hm => ?_) (fun hm => ?_)
      ·
        exact w_lvs [true, true] (hj4 () hm)
      ·
        refine w_aload_n (pc := 8) hX dX4_lookAtDigit_8 rfl rfl ?_
        refine gf_X4_inRow (pc := 9) hX dX4_lookAtDigit_9 hX4 (List.mem_of_getElem? (i := 2) rfl) 0 rfl rfl ?_
        refine w_bipush (pc := 12) hX dX4_lookAtDigit_12 bp_6 ?_
        refine w_icmp_ne (pc := 14) (tgt := 26) hX dX4_lookAtDigit_14 (by decide) hm (fun hm => ?_) (fun hm => ?_)
        ·
          exact w_lvs [true, true] (hj4 () hm)
        ·
          refine w_aload_n (pc := 17) hX dX4_lookAtDigit_17 rfl rfl ?_
          refine w_iload_n (pc := 18) hX dX4_lookAtDigit_18 rfl rfl ?_
          refine w_iconst (pc := 19) hX dX4_lookAtDigit_19 ic_2 ?_
          obtain ⟨r8, hr8, hm⟩ := bnd hm
          refine w_calldv (pc := 20) (ws' := wX4 G a_t (v_t.1, r8.1, r8.2, v_t.2.2.2.1, v_t.2.2.2.2.1, v_t.2.2.2.2.2.1, v_t.2.2.2.2.2.2)) (os := [some 0, some 1]) 2 hX [0, 1] (runV (rest := []) hX [0, 1] (ctX4_blame G a_t v_t g1 (2 : Int32) r8 hr8) dX4_lookAtDigit_20 2 gX4_lookAtDigit_X4_blame rfl hyX4_blame ⟨Nat.le_of_ble_eq_true rfl, Nat.le_of_ble_eq_true rfl⟩ 0 rfl rfl rfl rfl (Nat.le_of_ble_eq_true rfl) ⟨Nat.le_of_ble_eq_true rfl, Nat.le_of_ble_eq_true rfl⟩ rfl (by decide +kernel)) rfl rfl rfl (by decide +kernel) rfl ⟨rfl, rfl⟩ ?_
          refine w_goto (pc := 23) (tgt := 79) hX dX4_lookAtDigit_23 (by decide) ?_
          exact w_lvs [false, false] (hj2 (r8.1, r8.2, v_t.2.2.2.2.1, v_t.2.2.2.2.2.2) hm)

theorem lX4_isRowFull_X4 : ∀ w ∈ wsX40, w ∈ wsX4_isRowFull := in_at [3, 4, 5, 6, 7, 8, 9] (by decide +kernel)
set_option maxHeartbeats 4000000 in
set_option maxRecDepth 100000 in
theorem ctX4_isRowFull (G : gT) (a_t : Nat → Nat) (v_t : PT) (o : Int32) (hm : mX4_isRowFull v_t = some o) : CT G yX4_isRowFull wsX4_isRowFull rmX4_isRowFull [.ref (a_t 0)] (wX4 G a_t v_t) (fun v w => v = some (.int o) ∧ w = wX4 G a_t v_t) := by
  refine CT_of (cc := cX4_isRowFull) (maxL := 1) (ret := (some .boolean)) 0 (by decide +kernel) rfl rfl (cat_ok rfl) (fun X hX hR hN => ?_)
  have hX : Ok G X cX4_isRowFull RX4 wsX4_isRowFull 1 rmX4_isRowFull := hX
  have hX4 : ∀ w ∈ wsX40, w ∈ wsX4_isRowFull := lX4_isRowFull_X4
  unfold mX4_isRowFull at hm
  refine w_aload_n (pc := 0) hX dX4_isRowFull_0 rfl rfl ?_
  refine gf_X4_inRow (pc := 1) hX dX4_isRowFull_1 hX4 (List.mem_of_getElem? (i := 1) rfl) 0 rfl rfl ?_
  refine w_jn (T := fun x1 : Int32 => WW G X 0 0 (wX4 G a_t v_t) [none] 23 [.int x1]) hm (fun x1 hm => ?_) (fun j2 hj2 hm => ?_)
  ·
    refine w_zret (pc := 23) hX hR dX4_isRowFull_23 hm (fun hm => ?_)
    obtain rfl := som hm
    exact ⟨rfl, rfl⟩
  ·
    refine w_jn (T := fun x3 : Unit => WW G X 0 0 (wX4 G a_t v_t) [none] 22 []) hm (fun x3 hm => ?_) (fun j4 hj4 hm => ?_)
    ·
      refine w_iconst (pc := 22) hX dX4_isRowFull_22 ic_0 ?_
      exact w_lvs [false] (hj2 (0 : Int32) hm)
    ·
      refine w_if_le (pc := 4) (tgt := 22) hX dX4_isRowFull_4 (by decide) hm (fun hm => ?_) (fun hm => ?_)
      ·
        exact w_lvs [false] (hj4 () hm)
      ·
        refine w_aload_n (pc := 7) hX dX4_isRowFull_7 rfl rfl ?_
        refine gf_X4_inRow (pc := 8) hX dX4_isRowFull_8 hX4 (List.mem_of_getElem? (i := 1) rfl) 0 rfl rfl ?_
        refine w_aload_n (pc := 11) hX dX4_isRowFull_11 rfl rfl ?_
        refine gf_X4_columns (pc := 12) hX dX4_isRowFull_12 hX4 (List.mem_of_getElem? (i := 2) rfl) 0 rfl rfl ?_
        refine w_icmp_ne (pc := 15) (tgt := 22) hX dX4_isRowFull_15 (by decide) hm (fun hm => ?_) (fun hm => ?_)
        ·
          exact w_lvs [false] (hj4 () hm)
        ·
          refine w_iconst (pc := 18) hX dX4_isRowFull_18 ic_1 ?_
          refine w_goto (pc := 19) (tgt := 23) hX dX4_isRowFull_19 (by decide) ?_
          exact w_lvs [false] (hj2 (1 : Int32) hm)

theorem lX4_lookAtSlash_X4 : ∀ w ∈ wsX40, w ∈ wsX4_lookAtSlash := in_at [15, 16, 17, 18, 19, 20, 21] (by decide +kernel)
set_option maxHeartbeats 4000000 in
set_option maxRecDepth 100000 in
theorem ctX4_lookAtSlash (G : gT) (a_t : Nat → Nat) (v_t : PT) (g1 : Int32) (o : (Int32 × Int32 × Int32 × Int32)) (hm : mX4_lookAtSlash v_t g1 = some o) : CT G yX4_lookAtSlash wsX4_lookAtSlash rmX4_lookAtSlash [.ref (a_t 0), .int g1] (wX4 G a_t v_t) (fun v w => v = none ∧ w = wX4 G a_t (v_t.1, o.1, o.2.1, v_t.2.2.2.1, v_t.2.2.2.2.1, o.2.2.1, o.2.2.2)) := by
  refine CT_of (cc := cX4_lookAtSlash) (maxL := 2) (ret := none) 0 (by decide +kernel) rfl rfl (cat_ok rfl) (fun X hX hR hN => ?_)
  have hX : Ok G X cX4_lookAtSlash RX4 wsX4_lookAtSlash 2 rmX4_lookAtSlash := hX
  have hX4 : ∀ w ∈ wsX40, w ∈ wsX4_lookAtSlash := lX4_lookAtSlash_X4
  unfold mX4_lookAtSlash at hm
  refine w_aload_n (pc := 0) hX dX4_lookAtSlash_0 rfl rfl ?_
  obtain ⟨r1, hr1, hm⟩ := bnd hm
  refine w_callpi (pc := 1) hX [0, 1] (runV (rest := []) hX [0, 1] (ctX4_isRowFull G a_t v_t r1 hr1) dX4_lookAtSlash_1 0 gX4_lookAtSlash_X4_isRowFull rfl hyX4_isRowFull ⟨Nat.le_of_ble_eq_true rfl, Nat.le_of_ble_eq_true rfl⟩ 0 rfl rfl rfl rfl (Nat.le_of_ble_eq_true rfl) ⟨Nat.le_of_ble_eq_true rfl, Nat.le_of_ble_eq_true rfl⟩ rfl (by decide +kernel)) rfl ⟨rfl, rfl⟩ ?_
  refine w_jn (T := fun x2 : (Int32 × Int32 × Int32 × Int32) => WW G X 0 0 (wX4 G a_t (v_t.1, x2.1, x2.2.1, v_t.2.2.2.1, v_t.2.2.2.2.1, x2.2.2.1, x2.2.2.2)) [none, none] 49 []) hm (fun x2 hm => ?_) (fun j3 hj3 hm => ?_)
  ·
    obtain rfl := som hm
    exact w_vret (pc := 49) hX hR dX4_lookAtSlash_49 ⟨rfl, rfl⟩
  ·
    refine w_if_ne (pc := 4) (tgt := 16) hX dX4_lookAtSlash_4 (by decide) hm (fun hm => ?_) (fun hm => ?_)
    ·
      refine w_aload_n (pc := 16) hX dX4_lookAtSlash_16 rfl rfl ?_
      refine gf_X4_rows (pc := 17) hX dX4_lookAtSlash_17 hX4 (List.mem_of_getElem? (i := 1) rfl) 0 rfl rfl ?_
      refine w_bipush (pc := 20) hX dX4_lookAtSlash_20 bp_6 ?_
      refine w_icmp_ne (pc := 22) (tgt := 34) hX dX4_lookAtSlash_22 (by decide) hm (fun hm => ?_) (fun hm => ?_)
      ·
        refine w_aload_n (pc := 34) hX dX4_lookAtSlash_34 rfl rfl ?_
        refine w_dup (pc := 35) hX dX4_lookAtSlash_35 rfl ?_
        refine gf_X4_rows (pc := 36) hX dX4_lookAtSlash_36 hX4 (List.mem_of_getElem? (i := 1) rfl) 0 rfl rfl ?_
        refine w_iconst (pc := 39) hX dX4_lookAtSlash_39 ic_1 ?_
        refine w_iadd (pc := 40) hX dX4_lookAtSlash_40 ?_
        refine pf_X4_rows (pc := 41) hX dX4_lookAtSlash_41 hX4 (List.mem_of_getElem? (i := 1) rfl) 0 rfl rfl ?_
        refine w_aload_n (pc := 44) hX dX4_lookAtSlash_44 rfl rfl ?_
        refine w_iconst (pc := 45) hX dX4_lookAtSlash_45 ic_0 ?_
        refine pf_X4_inRow (pc := 46) hX dX4_lookAtSlash_46 hX4 (List.mem_of_getElem? (i := 2) rfl) 0 rfl rfl ?_
        exact w_lvs [false, false] (hj3 (v_t.2.1, v_t.2.2.1, v_t.2.2.2.2.2.1 + (1 : Int32), (0 : Int32)) hm)
      ·
        refine w_aload_n (pc := 25) hX dX4_lookAtSlash_25 rfl rfl ?_
        refine w_iload_n (pc := 26) hX dX4_lookAtSlash_26 rfl rfl ?_
        refine w_iconst (pc := 27) hX dX4_lookAtSlash_27 ic_3 ?_
        obtain ⟨r4, hr4, hm⟩ := bnd hm
        refine w_calldv (pc := 28) (ws' := wX4 G a_t (v_t.1, r4.1, r4.2, v_t.2.2.2.1, v_t.2.2.2.2.1, v_t.2.2.2.2.2.1, v_t.2.2.2.2.2.2)) (os := [some 0, some 1]) 2 hX [0, 1] (runV (rest := []) hX [0, 1] (ctX4_blame G a_t v_t g1 (3 : Int32) r4 hr4) dX4_lookAtSlash_28 2 gX4_lookAtSlash_X4_blame rfl hyX4_blame ⟨Nat.le_of_ble_eq_true rfl, Nat.le_of_ble_eq_true rfl⟩ 0 rfl rfl rfl rfl (Nat.le_of_ble_eq_true rfl) ⟨Nat.le_of_ble_eq_true rfl, Nat.le_of_ble_eq_true rfl⟩ rfl (by decide +kernel)) rfl rfl rfl (by decide +kernel) rfl ⟨rfl, rfl⟩ ?_
        refine w_goto (pc := 31) (tgt := 49) hX dX4_lookAtSlash_31 (by decide) ?_
        exact w_lvs [false, false] (hj3 (r4.1, r4.2, v_t.2.2.2.2.2.1, v_t.2.2.2.2.2.2) hm)
    ·
      refine w_aload_n (pc := 7) hX dX4_lookAtSlash_7 rfl rfl ?_
      refine w_iload_n (pc := 8) hX dX4_lookAtSlash_8 rfl rfl ?_
      refine w_iconst (pc := 9) hX dX4_lookAtSlash_9 ic_1 ?_
      obtain ⟨r5, hr5, hm⟩ := bnd hm
      refine w_calldv (pc := 10) (ws' := wX4 G a_t (v_t.1, r5.1, r5.2, v_t.2.2.2.1, v_t.2.2.2.2.1, v_t.2.2.2.2.2.1, v_t.2.2.2.2.2.2)) (os := [some 0, some 1]) 2 hX [0, 1] (runV (rest := []) hX [0, 1] (ctX4_blame G a_t v_t g1 (1 : Int32) r5 hr5) dX4_lookAtSlash_10 2 gX4_lookAtSlash_X4_blame rfl hyX4_blame ⟨Nat.le_of_ble_eq_true rfl, Nat.le_of_ble_eq_true rfl⟩ 0 rfl rfl rfl rfl (Nat.le_of_ble_eq_true rfl) ⟨Nat.le_of_ble_eq_true rfl, Nat.le_of_ble_eq_true rfl⟩ rfl (by decide +kernel)) rfl rfl rfl (by decide +kernel) rfl ⟨rfl, rfl⟩ ?_
      refine w_goto (pc := 13) (tgt := 49) hX dX4_lookAtSlash_13 (by decide) ?_
      exact w_lvs [false, false] (hj3 (r5.1, r5.2, v_t.2.2.2.2.2.1, v_t.2.2.2.2.2.2) hm)

theorem lX4_lookAtEnd_X4 : ∀ w ∈ wsX40, w ∈ wsX4_lookAtEnd := in_at [16, 17, 18, 19, 20, 21, 22] (by decide +kernel)
set_option maxHeartbeats 4000000 in
set_option maxRecDepth 100000 in
theorem ctX4_lookAtEnd (G : gT) (a_t : Nat → Nat) (v_t : PT) (o : (Int32 × Int32)) (hm : mX4_lookAtEnd v_t = some o) : CT G yX4_lookAtEnd wsX4_lookAtEnd rmX4_lookAtEnd [.ref (a_t 0)] (wX4 G a_t v_t) (fun v w => v = none ∧ w = wX4 G a_t (v_t.1, o.1, o.2, v_t.2.2.2.1, v_t.2.2.2.2.1, v_t.2.2.2.2.2.1, v_t.2.2.2.2.2.2)) := by
  refine CT_of (cc := cX4_lookAtEnd) (maxL := 1) (ret := none) 0 (by decide +kernel) rfl rfl (cat_ok rfl) (fun X hX hR hN => ?_)
  have hX : Ok G X cX4_lookAtEnd RX4 wsX4_lookAtEnd 1 rmX4_lookAtEnd := hX
  have hX4 : ∀ w ∈ wsX40, w ∈ wsX4_lookAtEnd := lX4_lookAtEnd_X4
  unfold mX4_lookAtEnd at hm
  refine w_aload_n (pc := 0) hX dX4_lookAtEnd_0 rfl rfl ?_
  obtain ⟨r1, hr1, hm⟩ := bnd hm
  refine w_callpi (pc := 1) hX [0, 1] (runV (rest := []) hX [0, 1] (ctX4_isRowFull G a_t v_t r1 hr1) dX4_lookAtEnd_1 0 gX4_lookAtEnd_X4_isRowFull rfl hyX4_isRowFull ⟨Nat.le_of_ble_eq_true rfl, Nat.le_of_ble_eq_true rfl⟩ 0 rfl rfl rfl rfl (Nat.le_of_ble_eq_true rfl) ⟨Nat.le_of_ble_eq_true rfl, Nat.le_of_ble_eq_true rfl⟩ rfl (by decide +kernel)) rfl ⟨rfl, rfl⟩ ?_
  refine w_jn (T := fun x2 : (Int32 × Int32) => WW G X 0 0 (wX4 G a_t (v_t.1, x2.1, x2.2, v_t.2.2.2.1, v_t.2.2.2.2.1, v_t.2.2.2.2.2.1, v_t.2.2.2.2.2.2)) [none] 44 []) hm (fun x2 hm => ?_) (fun j3 hj3 hm => ?_)
  ·
    obtain rfl := som hm
    exact w_vret (pc := 44) hX hR dX4_lookAtEnd_44 ⟨rfl, rfl⟩
  ·
    refine w_if_ne (pc := 4) (tgt := 19) hX dX4_lookAtEnd_4 (by decide) hm (fun hm => ?_) (fun hm => ?_)
    ·
      refine w_aload_n (pc := 19) hX dX4_lookAtEnd_19 rfl rfl ?_
      refine gf_X4_columns (pc := 20) hX dX4_lookAtEnd_20 hX4 (List.mem_of_getElem? (i := 2) rfl) 0 rfl rfl ?_
      refine w_iconst (pc := 23) hX dX4_lookAtEnd_23 ic_1 ?_
      refine w_jn (T := fun x4 : Unit => WW G X 0 0 (wX4 G a_t v_t) [some (.ref (a_t 0))] 35 []) hm (fun x4 hm => ?_) (fun j5 hj5 hm => ?_)
      ·
        refine w_aload_n (pc := 35) hX dX4_lookAtEnd_35 rfl rfl ?_
        refine w_aload_n (pc := 36) hX dX4_lookAtEnd_36 rfl rfl ?_
        refine gf_X4_length (pc := 37) hX dX4_lookAtEnd_37 hX4 (List.mem_of_getElem? (i := 1) rfl) 0 rfl rfl ?_
        refine w_iconst (pc := 40) hX dX4_lookAtEnd_40 ic_4 ?_
        obtain ⟨r6, hr6, hm⟩ := bnd hm
        refine w_calldv (pc := 41) (ws' := wX4 G a_t (v_t.1, r6.1, r6.2, v_t.2.2.2.1, v_t.2.2.2.2.1, v_t.2.2.2.2.2.1, v_t.2.2.2.2.2.2)) (os := [some 0, some 1]) 2 hX [0, 1] (runV (rest := []) hX [0, 1] (ctX4_blame G a_t v_t v_t.1 (4 : Int32) r6 hr6) dX4_lookAtEnd_41 2 gX4_lookAtEnd_X4_blame rfl hyX4_blame ⟨Nat.le_of_ble_eq_true rfl, Nat.le_of_ble_eq_true rfl⟩ 0 rfl rfl rfl rfl (Nat.le_of_ble_eq_true rfl) ⟨Nat.le_of_ble_eq_true rfl, Nat.le_of_ble_eq_true rfl⟩ rfl (by decide +kernel)) rfl rfl rfl (by decide +kernel) rfl ⟨rfl, rfl⟩ ?_
        exact w_lvs [false] (hj3 (r6.1, r6.2) hm)
      ·
        refine w_icmp_eq (pc := 24) (tgt := 35) hX dX4_lookAtEnd_24 (by decide) hm (fun hm => ?_) (fun hm => ?_)
        ·
          exact w_lvs [true] (hj5 () hm)
        ·
          refine w_aload_n (pc := 27) hX dX4_lookAtEnd_27 rfl rfl ?_
          refine gf_X4_rows (pc := 28) hX dX4_lookAtEnd_28 hX4 (List.mem_of_getElem? (i := 3) rfl) 0 rfl rfl ?_
          refine w_iconst (pc := 31) hX dX4_lookAtEnd_31 ic_1 ?_
          refine w_icmp_ne (pc := 32) (tgt := 44) hX dX4_lookAtEnd_32 (by decide) hm (fun hm => ?_) (fun hm => ?_)
          ·
            exact w_lvs [false] (hj3 (v_t.2.1, v_t.2.2.1) hm)
          ·
            exact w_lvs [true] (hj5 () hm)
    ·
      refine w_aload_n (pc := 7) hX dX4_lookAtEnd_7 rfl rfl ?_
      refine w_aload_n (pc := 8) hX dX4_lookAtEnd_8 rfl rfl ?_
      refine gf_X4_length (pc := 9) hX dX4_lookAtEnd_9 hX4 (List.mem_of_getElem? (i := 1) rfl) 0 rfl rfl ?_
      refine w_iconst (pc := 12) hX dX4_lookAtEnd_12 ic_1 ?_
      obtain ⟨r7, hr7, hm⟩ := bnd hm
      refine w_calldv (pc := 13) (ws' := wX4 G a_t (v_t.1, r7.1, r7.2, v_t.2.2.2.1, v_t.2.2.2.2.1, v_t.2.2.2.2.2.1, v_t.2.2.2.2.2.2)) (os := [some 0, some 1]) 2 hX [0, 1] (runV (rest := []) hX [0, 1] (ctX4_blame G a_t v_t v_t.1 (1 : Int32) r7 hr7) dX4_lookAtEnd_13 2 gX4_lookAtEnd_X4_blame rfl hyX4_blame ⟨Nat.le_of_ble_eq_true rfl, Nat.le_of_ble_eq_true rfl⟩ 0 rfl rfl rfl rfl (Nat.le_of_ble_eq_true rfl) ⟨Nat.le_of_ble_eq_true rfl, Nat.le_of_ble_eq_true rfl⟩ rfl (by decide +kernel)) rfl rfl rfl (by decide +kernel) rfl ⟨rfl, rfl⟩ ?_
      refine w_goto (pc := 16) (tgt := 44) hX dX4_lookAtEnd_16 (by decide) ?_
      exact w_lvs [false] (hj3 (r7.1, r7.2) hm)

theorem lX4_look_X4 : ∀ w ∈ wsX40, w ∈ wsX4_look := in_at [36, 37, 38, 39, 40, 41, 42] (by decide +kernel)
set_option maxHeartbeats 4000000 in
set_option maxRecDepth 100000 in
theorem ctX4_look (G : gT) (F : Nat) (a_t : Nat → Nat) (v_t : PT) (o : (Int32 × Int32 × Int32 × Int32 × Int32)) (hm : mX4_look F v_t = some o) : CT G yX4_look wsX4_look rmX4_look [.ref (a_t 0)] (wX4 G a_t v_t) (fun v w => v = none ∧ w = wX4 G a_t (v_t.1, o.1, o.2.1, v_t.2.2.2.1, o.2.2.1, o.2.2.2.1, o.2.2.2.2)) := by
  refine CT_of (cc := cX4_look) (maxL := 3) (ret := none) 2 (by decide +kernel) rfl rfl (cat_ok rfl) (fun X hX hR hN => ?_)
  have hX : Ok G X cX4_look RX4 wsX4_look 3 rmX4_look := hX
  have hX4 : ∀ w ∈ wsX40, w ∈ wsX4_look := lX4_look_X4
  unfold mX4_look at hm
  refine w_aload_n (pc := 0) hX dX4_look_0 rfl rfl ?_
  refine w_iconst (pc := 1) hX dX4_look_1 ic_0 ?_
  refine pf_X4_reason (pc := 2) hX dX4_look_2 hX4 (List.mem_of_getElem? (i := 1) rfl) 0 rfl rfl ?_
  refine w_aload_n (pc := 5) hX dX4_look_5 rfl rfl ?_
  refine w_iconst (pc := 6) hX dX4_look_6 ic_0 ?_
  refine pf_X4_place (pc := 7) hX dX4_look_7 hX4 (List.mem_of_getElem? (i := 2) rfl) 0 rfl rfl ?_
  refine w_aload_n (pc := 10) hX dX4_look_10 rfl rfl ?_
  refine w_iconst (pc := 11) hX dX4_look_11 ic_0 ?_
  refine pf_X4_columns (pc := 12) hX dX4_look_12 hX4 (List.mem_of_getElem? (i := 3) rfl) 0 rfl rfl ?_
  refine w_aload_n (pc := 15) hX dX4_look_15 rfl rfl ?_
  refine w_iconst (pc := 16) hX dX4_look_16 ic_1 ?_
  refine pf_X4_rows (pc := 17) hX dX4_look_17 hX4 (List.mem_of_getElem? (i := 4) rfl) 0 rfl rfl ?_
  refine w_aload_n (pc := 20) hX dX4_look_20 rfl rfl ?_
  refine w_iconst (pc := 21) hX dX4_look_21 ic_0 ?_
  refine pf_X4_inRow (pc := 22) hX dX4_look_22 hX4 (List.mem_of_getElem? (i := 5) rfl) 0 rfl rfl ?_
  refine w_iconst (pc := 25) hX dX4_look_25 ic_0 ?_
  refine w_istore_n (pc := 26) hX dX4_look_26 rfl (Nat.le_of_ble_eq_true rfl) ?_
  refine w_jn (T := fun x1 : (Int32 × Int32 × Int32 × Int32 × Int32) => WW G X 0 0 (wX4 G a_t (v_t.1, x1.1, x1.2.1, v_t.2.2.2.1, x1.2.2.1, x1.2.2.2.1, x1.2.2.2.2)) [some (.ref (a_t 0)), none, none] 97 []) hm (fun x1 hm => ?_) (fun j2 hj2 hm => ?_)
  ·
    unfold mX4_look_K97 at hm
    refine w_aload_n (pc := 97) hX dX4_look_97 rfl rfl ?_
    refine gf_X4_reason (pc := 98) hX dX4_look_98 hX4 (List.mem_of_getElem? (i := 1) rfl) 0 rfl rfl ?_
    refine w_jn (T := fun x3 : (Int32 × Int32) => WW G X 0 0 (wX4 G a_t (v_t.1, x3.1, x3.2, v_t.2.2.2.1, x1.2.2.1, x1.2.2.2.1, x1.2.2.2.2)) [none, none, none] 108 []) hm (fun x3 hm => ?_) (fun j4 hj4 hm => ?_)
    ·
      obtain rfl := som hm
      exact w_vret (pc := 108) hX hR dX4_look_108 ⟨rfl, rfl⟩
    ·
      refine w_if_ne (pc := 101) (tgt := 108) hX dX4_look_101 (by decide) hm (fun hm => ?_) (fun hm => ?_)
      ·
        exact w_lvs [false, false, false] (hj4 (x1.1, x1.2.1) hm)
      ·
        refine w_aload_n (pc := 104) hX dX4_look_104 rfl rfl ?_
        obtain ⟨r5, hr5, hm⟩ := bnd hm
        refine w_calldv (pc := 105) (ws' := wX4 G a_t (v_t.1, r5.1, r5.2, v_t.2.2.2.1, x1.2.2.1, x1.2.2.2.1, x1.2.2.2.2)) (os := [some 0, some 1]) 2 hX [0, 1] (runV (rest := []) hX [0, 1] (ctX4_lookAtEnd G a_t (v_t.1, x1.1, x1.2.1, v_t.2.2.2.1, x1.2.2.1, x1.2.2.2.1, x1.2.2.2.2) r5 hr5) dX4_look_105 0 gX4_look_X4_lookAtEnd rfl hyX4_lookAtEnd ⟨Nat.le_of_ble_eq_true rfl, Nat.le_of_ble_eq_true rfl⟩ 0 rfl rfl rfl rfl (Nat.le_of_ble_eq_true rfl) ⟨Nat.le_of_ble_eq_true rfl, Nat.le_of_ble_eq_true rfl⟩ rfl (by decide +kernel)) rfl rfl rfl (by decide +kernel) rfl ⟨rfl, rfl⟩ ?_
        exact w_lvs [false, false, false] (hj4 (r5.1, r5.2) hm)
  ·
    refine w_lvs [true, true, false] ?_
    refine lpr_ind (T := fun x6 : (Int32 × Int32 × Int32 × Int32 × Int32 × Int32) => WW G X 0 0 (wX4 G a_t (v_t.1, x6.2.1, x6.2.2.1, v_t.2.2.2.1, x6.2.2.2.1, x6.2.2.2.2.1, x6.2.2.2.2.2)) [some (.ref (a_t 0)), some (.int x6.1), none] 27 []) (fun self7 hself7 x6 hm => ?_) F ((0 : Int32), (0 : Int32), (0 : Int32), (0 : Int32), (1 : Int32), (0 : Int32)) hm
    unfold mX4_look_L27 at hm
    refine w_iload_n (pc := 27) hX dX4_look_27 rfl rfl ?_
    refine w_aload_n (pc := 28) hX dX4_look_28 rfl rfl ?_
    refine gf_X4_length (pc := 29) hX dX4_look_29 hX4 (List.mem_of_getElem? (i := 6) rfl) 0 rfl rfl ?_
    refine w_icmp_ge (pc := 32) (tgt := 97) hX dX4_look_32 (by decide) hm (fun hm => ?_) (fun hm => ?_)
    ·
      exact w_lvs [true, false, false] (hj2 (x6.2.1, x6.2.2.1, x6.2.2.2.1, x6.2.2.2.2.1, x6.2.2.2.2.2) hm)
    ·
      refine w_aload_n (pc := 35) hX dX4_look_35 rfl rfl ?_
      refine gf_X4_reason (pc := 36) hX dX4_look_36 hX4 (List.mem_of_getElem? (i := 1) rfl) 0 rfl rfl ?_
      refine w_if_ne (pc := 39) (tgt := 97) hX dX4_look_39 (by decide) hm (fun hm => ?_) (fun hm => ?_)
      ·
        exact w_lvs [true, false, false] (hj2 (x6.2.1, x6.2.2.1, x6.2.2.2.1, x6.2.2.2.2.1, x6.2.2.2.2.2) hm)
      ·
        refine w_aload_n (pc := 42) hX dX4_look_42 rfl rfl ?_
        refine gf_X4_characters (pc := 43) hX dX4_look_43 hX4 (List.mem_of_getElem? (i := 7) rfl) 0 rfl rfl ?_
        refine w_iload_n (pc := 46) hX dX4_look_46 rfl rfl ?_
        obtain ⟨r8, hr8, hm⟩ := bnd hm
        refine w_callpi (pc := 47) hX [1] (runSN (rest := []) hX [1] (ctX7_at G (a_t 1) 60 v_t.2.2.2.1 x6.1 r8 hr8) dX4_look_47 2 gX4_look_X7_at_n34 rfl (List.mem_of_getElem? (i := 10) rfl) ⟨(List.mem_of_getElem? (i := 8) rfl), (List.mem_of_getElem? (i := 9) rfl)⟩ hyX7_at.2 ⟨Nat.le_of_ble_eq_true rfl, Nat.le_of_ble_eq_true rfl⟩ rfl rfl (Nat.le_of_ble_eq_true rfl) ⟨Nat.le_of_ble_eq_true rfl, Nat.le_of_ble_eq_true rfl⟩ rfl (by decide +kernel)) rfl ⟨rfl, rfl⟩ ?_
        refine w_istore_n (pc := 50) hX dX4_look_50 rfl (Nat.le_of_ble_eq_true rfl) ?_
        refine w_iload_n (pc := 51) hX dX4_look_51 rfl rfl ?_
        refine w_bipush (pc := 52) hX dX4_look_52 bp_48 ?_
        refine w_jn (T := fun x9 : (Int32 × Int32 × Int32 × Int32 × Int32) => WW G X 0 0 (wX4 G a_t (v_t.1, x9.1, x9.2.1, v_t.2.2.2.1, x9.2.2.1, x9.2.2.2.1, x9.2.2.2.2)) [some (.ref (a_t 0)), some (.int x6.1), none] 91 []) hm (fun x9 hm => ?_) (fun j10 hj10 hm => ?_)
        ·
          refine w_iinc (pc := 91) hX dX4_look_91 rfl (Nat.le_of_ble_eq_true rfl) ic_1 ?_
          refine w_goto (pc := 94) (tgt := 27) hX dX4_look_94 (by decide) ?_
          exact w_lvs [true, true, false] (hself7 (x6.1 + (1 : Int32), x9.1, x9.2.1, x9.2.2.1, x9.2.2.2.1, x9.2.2.2.2) hm)
        ·
          refine w_jn (T := fun x11 : Unit => WW G X 0 0 (wX4 G a_t (v_t.1, x6.2.1, x6.2.2.1, v_t.2.2.2.1, x6.2.2.2.1, x6.2.2.2.2.1, x6.2.2.2.2.2)) [some (.ref (a_t 0)), some (.int x6.1), some (.int r8)] 71 []) hm (fun x11 hm => ?_) (fun j12 hj12 hm => ?_)
          ·
            refine w_iload_n (pc := 71) hX dX4_look_71 rfl rfl ?_
            refine w_bipush (pc := 72) hX dX4_look_72 bp_47 ?_
            refine w_icmp_ne (pc := 74) (tgt := 85) hX dX4_look_74 (by decide) hm (fun hm => ?_) (fun hm => ?_)
            ·
              refine w_aload_n (pc := 85) hX dX4_look_85 rfl rfl ?_
              refine w_iload_n (pc := 86) hX dX4_look_86 rfl rfl ?_
              refine w_iconst (pc := 87) hX dX4_look_87 ic_1 ?_
              obtain ⟨r13, hr13, hm⟩ := bnd hm
              refine w_calldv (pc := 88) (ws' := wX4 G a_t (v_t.1, r13.1, r13.2, v_t.2.2.2.1, x6.2.2.2.1, x6.2.2.2.2.1, x6.2.2.2.2.2)) (os := [some 0, some 1]) 2 hX [0, 1] (runV (rest := []) hX [0, 1] (ctX4_blame G a_t (v_t.1, x6.2.1, x6.2.2.1, v_t.2.2.2.1, x6.2.2.2.1, x6.2.2.2.2.1, x6.2.2.2.2.2) x6.1 (1 : Int32) r13 hr13) dX4_look_88 2 gX4_look_X4_blame rfl hyX4_blame ⟨Nat.le_of_ble_eq_true rfl, Nat.le_of_ble_eq_true rfl⟩ 0 rfl rfl rfl rfl (Nat.le_of_ble_eq_true rfl) ⟨Nat.le_of_ble_eq_true rfl, Nat.le_of_ble_eq_true rfl⟩ rfl (by decide +kernel)) rfl rfl rfl (by decide +kernel) rfl ⟨rfl, rfl⟩ ?_
              exact w_lvs [true, true, false] (hj10 (r13.1, r13.2, x6.2.2.2.1, x6.2.2.2.2.1, x6.2.2.2.2.2) hm)
            ·
              refine w_aload_n (pc := 77) hX dX4_look_77 rfl rfl ?_
              refine w_iload_n (pc := 78) hX dX4_look_78 rfl rfl ?_
              obtain ⟨r14, hr14, hm⟩ := bnd hm
              refine w_calldv (pc := 79) (ws' := wX4 G a_t (v_t.1, r14.1, r14.2.1, v_t.2.2.2.1, x6.2.2.2.1, r14.2.2.1, r14.2.2.2)) (os := [some 0, some 1]) 2 hX [0, 1] (runV (rest := []) hX [0, 1] (ctX4_lookAtSlash G a_t (v_t.1, x6.2.1, x6.2.2.1, v_t.2.2.2.1, x6.2.2.2.1, x6.2.2.2.2.1, x6.2.2.2.2.2) x6.1 r14 hr14) dX4_look_79 1 gX4_look_X4_lookAtSlash rfl hyX4_lookAtSlash ⟨Nat.le_of_ble_eq_true rfl, Nat.le_of_ble_eq_true rfl⟩ 0 rfl rfl rfl rfl (Nat.le_of_ble_eq_true rfl) ⟨Nat.le_of_ble_eq_true rfl, Nat.le_of_ble_eq_true rfl⟩ rfl (by decide +kernel)) rfl rfl rfl (by decide +kernel) rfl ⟨rfl, rfl⟩ ?_
              refine w_goto (pc := 82) (tgt := 91) hX dX4_look_82 (by decide) ?_
              exact w_lvs [true, true, false] (hj10 (r14.1, r14.2.1, x6.2.2.2.1, r14.2.2.1, r14.2.2.2) hm)
          ·
            refine w_icmp_lt (pc := 54) (tgt := 71) hX dX4_look_54 (by decide) hm (fun hm => ?_) (fun hm => ?_)
            ·
              exact w_lvs [true, true, true] (hj12 () hm)
            ·
              refine w_iload_n (pc := 57) hX dX4_look_57 rfl rfl ?_
              refine w_bipush (pc := 58) hX dX4_look_58 bp_57 ?_
              refine w_icmp_gt (pc := 60) (tgt := 71) hX dX4_look_60 (by decide) hm (fun hm => ?_) (fun hm => ?_)
              ·
                exact w_lvs [true, true, true] (hj12 () hm)
              ·
                refine w_aload_n (pc := 63) hX dX4_look_63 rfl rfl ?_
                refine w_iload_n (pc := 64) hX dX4_look_64 rfl rfl ?_
                obtain ⟨r15, hr15, hm⟩ := bnd hm
                refine w_calldv (pc := 65) (ws' := wX4 G a_t (v_t.1, r15.1, r15.2.1, v_t.2.2.2.1, r15.2.2.1, x6.2.2.2.2.1, r15.2.2.2)) (os := [some 0, some 1]) 2 hX [0, 1] (runV (rest := []) hX [0, 1] (ctX4_lookAtDigit G a_t (v_t.1, x6.2.1, x6.2.2.1, v_t.2.2.2.1, x6.2.2.2.1, x6.2.2.2.2.1, x6.2.2.2.2.2) x6.1 r15 hr15) dX4_look_65 1 gX4_look_X4_lookAtDigit rfl hyX4_lookAtDigit ⟨Nat.le_of_ble_eq_true rfl, Nat.le_of_ble_eq_true rfl⟩ 0 rfl rfl rfl rfl (Nat.le_of_ble_eq_true rfl) ⟨Nat.le_of_ble_eq_true rfl, Nat.le_of_ble_eq_true rfl⟩ rfl (by decide +kernel)) rfl rfl rfl (by decide +kernel) rfl ⟨rfl, rfl⟩ ?_
                refine w_goto (pc := 68) (tgt := 91) hX dX4_look_68 (by decide) ?_
                exact w_lvs [true, true, false] (hj10 (r15.1, r15.2.1, r15.2.2.1, x6.2.2.2.2.1, r15.2.2.2) hm)

theorem lX4_paint_X3 : ∀ w ∈ wsX30, w ∈ wsX4_paint := in_at [37, 38, 39, 40, 41, 42] (by decide +kernel)
theorem lX4_paint_X4 : ∀ w ∈ wsX40, w ∈ wsX4_paint := in_at [30, 31, 32, 33, 34, 35, 36] (by decide +kernel)
set_option maxHeartbeats 4000000 in
set_option maxRecDepth 100000 in
theorem ctX4_paint (G : gT) (F : Nat) (a_t : Nat → Nat) (a_p1 : Nat → Nat) (v_t : PT) (v_p1 : MZ) (o : MZ) (hm : mX4_paint F v_t v_p1 = some o) : CT G yX4_paint wsX4_paint rmX4_paint [.ref (a_t 0), .ref (a_p1 0)] (wX4 G a_t v_t ++ wX3 G a_p1 v_p1) (fun v w => v = none ∧ w = wX4 G a_t v_t ++ wX3 G a_p1 o) := by
  refine CT_of (cc := cX4_paint) (maxL := 5) (ret := none) 3 (by decide +kernel) rfl rfl (cat_ok rfl) (fun X hX hR hN => ?_)
  have hX : Ok G X cX4_paint RX4 wsX4_paint 5 rmX4_paint := hX
  have hX3 : ∀ w ∈ wsX30, w ∈ wsX4_paint := lX4_paint_X3
  have hX4 : ∀ w ∈ wsX40, w ∈ wsX4_paint := lX4_paint_X4
  unfold mX4_paint at hm
  refine w_aload_n (pc := 0) hX dX4_paint_0 rfl rfl ?_
  refine w_aload_n (pc := 1) hX dX4_paint_1 rfl rfl ?_
  refine gf_X4_columns (pc := 2) hX dX4_paint_2 hX4 (List.mem_of_getElem? (i := 1) rfl) 0 rfl rfl ?_
  refine w_aload_n (pc := 5) hX dX4_paint_5 rfl rfl ?_
  refine gf_X4_rows (pc := 6) hX dX4_paint_6 hX4 (List.mem_of_getElem? (i := 2) rfl) 0 rfl rfl ?_
  obtain ⟨r1, hr1, hm⟩ := bnd hm
  refine w_calldv (pc := 9) (ws' := wX4 G a_t v_t ++ wX3 G a_p1 r1) (os := [none, none, some 0, some 1, some 2, some 3, some 4]) 7 hX [2, 3, 4, 5, 6] (runV (rest := []) hX [2, 3, 4, 5, 6] (ctX3_clear G F a_p1 v_p1 v_t.2.2.2.2.1 v_t.2.2.2.2.2.1 r1 hr1) dX4_paint_9 2 gX4_paint_X3_clear rfl hyX3_clear ⟨Nat.le_of_ble_eq_true rfl, Nat.le_of_ble_eq_true rfl⟩ 2 rfl rfl rfl rfl (Nat.le_of_ble_eq_true rfl) ⟨Nat.le_of_ble_eq_true rfl, Nat.le_of_ble_eq_true rfl⟩ rfl (by decide +kernel)) rfl rfl rfl (by decide +kernel) rfl ⟨rfl, rfl⟩ ?_
  refine w_iconst (pc := 12) hX dX4_paint_12 ic_0 ?_
  refine w_istore_n (pc := 13) hX dX4_paint_13 rfl (Nat.le_of_ble_eq_true rfl) ?_
  refine w_iconst (pc := 14) hX dX4_paint_14 ic_0 ?_
  refine w_istore_n (pc := 15) hX dX4_paint_15 rfl (Nat.le_of_ble_eq_true rfl) ?_
  refine w_lvs [true, true, true, true, false] ?_
  refine lpr_ind (T := fun x2 : (Int32 × Int32 × nF) => WW G X 0 0 (wX4 G a_t v_t ++ wX3 G a_p1 (r1.1, r1.2.1, x2.2.2, r1.2.2.2.1, r1.2.2.2.2.1, r1.2.2.2.2.2)) [some (.ref (a_t 0)), some (.ref (a_p1 0)), some (.int x2.1), some (.int x2.2.1), none] 16 []) (fun self3 hself3 x2 hm => ?_) F ((0 : Int32), (0 : Int32), r1.2.2.1) hm
  unfold mX4_paint_L16 at hm
  refine w_iload_n (pc := 16) hX dX4_paint_16 rfl rfl ?_
  refine w_aload_n (pc := 17) hX dX4_paint_17 rfl rfl ?_
  refine gf_X4_length (pc := 18) hX dX4_paint_18 hX4 (List.mem_of_getElem? (i := 3) rfl) 0 rfl rfl ?_
  refine w_icmp_ge (pc := 21) (tgt := 63) hX dX4_paint_21 (by decide) hm (fun hm => ?_) (fun hm => ?_)
  ·
    obtain rfl := som hm
    exact w_vret (pc := 63) hX hR dX4_paint_63 ⟨rfl, rfl⟩
  ·
    refine w_aload_n (pc := 24) hX dX4_paint_24 rfl rfl ?_
    refine gf_X4_characters (pc := 25) hX dX4_paint_25 hX4 (List.mem_of_getElem? (i := 4) rfl) 0 rfl rfl ?_
    refine w_iload_n (pc := 28) hX dX4_paint_28 rfl rfl ?_
    obtain ⟨r4, hr4, hm⟩ := bnd hm
    refine w_callpi (pc := 29) hX [1] (runSN (rest := []) hX [1] (ctX7_at G (a_t 1) 60 v_t.2.2.2.1 x2.2.1 r4 hr4) dX4_paint_29 2 gX4_paint_X7_at_n34 rfl (List.mem_of_getElem? (i := 10) rfl) ⟨(List.mem_of_getElem? (i := 28) rfl), (List.mem_of_getElem? (i := 22) rfl)⟩ hyX7_at.2 ⟨Nat.le_of_ble_eq_true rfl, Nat.le_of_ble_eq_true rfl⟩ rfl rfl (Nat.le_of_ble_eq_true rfl) ⟨Nat.le_of_ble_eq_true rfl, Nat.le_of_ble_eq_true rfl⟩ rfl (by decide +kernel)) rfl ⟨rfl, rfl⟩ ?_
    refine w_istore (pc := 32) hX dX4_paint_32 (Nat.le_of_ble_eq_true rfl) ?_
    refine w_iload (pc := 34) hX dX4_paint_34 rfl ?_
    refine w_bipush (pc := 36) hX dX4_paint_36 bp_47 ?_
    refine w_jn (T := fun x5 : (Int32 × nF) => WW G X 0 0 (wX4 G a_t v_t ++ wX3 G a_p1 (r1.1, r1.2.1, x5.2, r1.2.2.2.1, r1.2.2.2.2.1, r1.2.2.2.2.2)) [some (.ref (a_t 0)), some (.ref (a_p1 0)), some (.int x5.1), some (.int x2.2.1), none] 57 []) hm (fun x5 hm => ?_) (fun j6 hj6 hm => ?_)
    ·
      refine w_iinc (pc := 57) hX dX4_paint_57 rfl (Nat.le_of_ble_eq_true rfl) ic_1 ?_
      refine w_goto (pc := 60) (tgt := 16) hX dX4_paint_60 (by decide) ?_
      exact w_lvs [true, true, true, true, false] (hself3 (x5.1, x2.2.1 + (1 : Int32), x5.2) hm)
    ·
      refine w_icmp_eq (pc := 38) (tgt := 57) hX dX4_paint_38 (by decide) hm (fun hm => ?_) (fun hm => ?_)
      ·
        exact w_lvs [true, true, true, true, false] (hj6 (x2.1, x2.2.2) hm)
      ·
        refine w_aload_n (pc := 41) hX dX4_paint_41 rfl rfl ?_
        refine gf_X3_tones (pc := 42) hX dX4_paint_42 hX3 (List.mem_of_getElem? (i := 5) rfl) 2 rfl rfl ?_
        refine w_iload_n (pc := 45) hX dX4_paint_45 rfl rfl ?_
        refine w_iload (pc := 46) hX dX4_paint_46 rfl ?_
        refine w_bipush (pc := 48) hX dX4_paint_48 bp_48 ?_
        refine w_isub (pc := 50) hX dX4_paint_50 ?_
        obtain ⟨r7, hr7, hm⟩ := bnd hm
        refine w_calldv (pc := 51) (ws' := wX4 G a_t v_t ++ wX3 G a_p1 (r1.1, r1.2.1, r7, r1.2.2.2.1, r1.2.2.2.2.1, r1.2.2.2.2.2)) (os := [none, none, none, some 0, none, none, none]) 7 hX [3] (runSN (rest := []) hX [3] (ctX7_put G (a_p1 1) 36 x2.2.2 x2.1 (r4 - (48 : Int32)) r7 hr7) dX4_paint_51 3 gX4_paint_X7_put_n70 rfl (List.mem_of_getElem? (i := 11) rfl) ⟨(List.mem_of_getElem? (i := 21) rfl), (List.mem_of_getElem? (i := 22) rfl)⟩ hyX7_put.2 ⟨Nat.le_of_ble_eq_true rfl, Nat.le_of_ble_eq_true rfl⟩ rfl rfl (Nat.le_of_ble_eq_true rfl) ⟨Nat.le_of_ble_eq_true rfl, Nat.le_of_ble_eq_true rfl⟩ rfl (by decide +kernel)) rfl rfl rfl (by decide +kernel) rfl ⟨rfl, rfl⟩ ?_
        refine w_iinc (pc := 54) hX dX4_paint_54 rfl (Nat.le_of_ble_eq_true rfl) ic_1 ?_
        exact w_lvs [true, true, true, true, false] (hj6 (x2.1 + (1 : Int32), r7) hm)
