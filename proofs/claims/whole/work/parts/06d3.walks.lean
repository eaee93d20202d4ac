/-! WALKS, printed by wip/whole/gen.py -/
theorem lX7_farthest_X7 : ∀ w ∈ wsX70, w ∈ wsX7_farthest := in_at [55, 56, 57, 58, 59, 60, 61, 62, 63, 64, 65] (by decide +kernel)
set_option maxHeartbeats 4000000 in
set_option maxRecDepth 100000 in
theorem ctX7_farthest (G : gT) (F : Nat) (a : Nat → Nat → Nat) (m_hasSnapshot : Int32) (v_o1 : MZ) (v_o5 : WY) (g1 : Int32) (o : (Int32 × WY)) (hm : mX7_farthest F v_o1 v_o5 g1 = some o) : CT G yX7_farthest wsX7_farthest rmX7_farthest [.ref (a 0 0), .int g1] (wX7 G a m_hasSnapshot ++ wX3 G (a 1) v_o1 ++ wX6 G (a 5) v_o5) (fun v w => v = some (.int o.1) ∧ w = wX7 G a m_hasSnapshot ++ wX3 G (a 1) v_o1 ++ wX6 G (a 5) o.2) := by
  refine CT_of (cc := cX7_farthest) (maxL := 7) (ret := (some .int)) 5 (by decide +kernel) rfl rfl (cat_ok rfl) (fun X hX hR hN => ?_)
  have hX : Ok G X cX7_farthest RX7 wsX7_farthest 7 rmX7_farthest := hX
  have hX7 : ∀ w ∈ wsX70, w ∈ wsX7_farthest := lX7_farthest_X7
  unfold mX7_farthest at hm
  refine w_iload_n (pc := 0) hX dX7_farthest_0 rfl rfl ?_
  refine w_jn (T := fun x1 : Unit => WW G X 0 0 (wX7 G a m_hasSnapshot ++ wX3 G (a 1) v_o1 ++ wX6 G (a 5) v_o5) [none, none, none, none, none, none, none] 9 []) hm (fun x1 hm => ?_) (fun j2 hj2 hm => ?_)
  ·
    refine w_iconst (pc := 9) hX dX7_farthest_9 ic_m1 ?_
    obtain rfl := som hm
    exact w_iret (pc := 10) hX hR dX7_farthest_10 ⟨rfl, rfl⟩
  ·
    refine w_if_lt (pc := 1) (tgt := 9) hX dX7_farthest_1 (by decide) hm (fun hm => ?_) (fun hm => ?_)
    ·
      exact w_lvs [false, false, false, false, false, false, false] (hj2 () hm)
    ·
      refine w_iload_n (pc := 4) hX dX7_farthest_4 rfl rfl ?_
      refine w_iconst (pc := 5) hX dX7_farthest_5 ic_2 ?_
      refine w_icmp_le (pc := 6) (tgt := 11) hX dX7_farthest_6 (by decide) hm (fun hm => ?_) (fun hm => ?_)
      ·
        refine w_iconst (pc := 11) hX dX7_farthest_11 ic_m1 ?_
        refine w_istore_n (pc := 12) hX dX7_farthest_12 rfl (Nat.le_of_ble_eq_true rfl) ?_
        refine w_iconst (pc := 13) hX dX7_farthest_13 ic_m1 ?_
        refine w_istore_n (pc := 14) hX dX7_farthest_14 rfl (Nat.le_of_ble_eq_true rfl) ?_
        refine w_iconst (pc := 15) hX dX7_farthest_15 ic_0 ?_
        refine w_istore (pc := 16) hX dX7_farthest_16 (Nat.le_of_ble_eq_true rfl) ?_
        refine w_iconst (pc := 18) hX dX7_farthest_18 ic_0 ?_
        refine w_istore (pc := 19) hX dX7_farthest_19 (Nat.le_of_ble_eq_true rfl) ?_
        refine w_jn (T := fun x3 : (Int32 × Int32 × Int32 × WY) => WW G X 0 0 (wX7 G a m_hasSnapshot ++ wX3 G (a 1) v_o1 ++ wX6 G (a 5) x3.2.2.2) [none, some (.int g1), some (.int x3.1), some (.int x3.2.1), some (.int x3.2.2.1), none, none] 107 []) hm (fun x3 hm => ?_) (fun j4 hj4 hm => ?_)
        ·
          unfold mX7_farthest_K107 at hm
          refine w_iload (pc := 107) hX dX7_farthest_107 rfl ?_
          refine w_jn (T := fun x5 : Int32 => WW G X 0 0 (wX7 G a m_hasSnapshot ++ wX3 G (a 1) v_o1 ++ wX6 G (a 5) x3.2.2.2) [none, none, none, none, none, none, none] 125 [.int x5]) hm (fun x5 hm => ?_) (fun j6 hj6 hm => ?_)
          ·
            obtain rfl := som hm
            exact w_iret (pc := 125) hX hR dX7_farthest_125 ⟨rfl, rfl⟩
          ·
            refine w_if_ne (pc := 109) (tgt := 117) hX dX7_farthest_109 (by decide) hm (fun hm => ?_) (fun hm => ?_)
            ·
              refine w_iload_n (pc := 117) hX dX7_farthest_117 rfl rfl ?_
              refine w_iload_n (pc := 118) hX dX7_farthest_118 rfl rfl ?_
              refine w_iload_n (pc := 119) hX dX7_farthest_119 rfl rfl ?_
              refine w_iload (pc := 120) hX dX7_farthest_120 rfl ?_
              obtain ⟨r7, hr7, hm⟩ := bnd hm
              refine w_callpi (pc := 122) hX [] (runS (rest := []) hX [] (ctX7_choose G g1 x3.1 x3.2.1 x3.2.2.1 r7 hr7) dX7_farthest_122 4 gX7_farthest_X7_choose rfl hyX7_choose.2 ⟨Nat.le_of_ble_eq_true rfl, Nat.le_of_ble_eq_true rfl⟩ rfl rfl (Nat.le_of_ble_eq_true rfl) ⟨Nat.le_of_ble_eq_true rfl, Nat.le_of_ble_eq_true rfl⟩ rfl (by decide +kernel)) rfl ⟨rfl, rfl⟩ ?_
              exact w_lvs [false, false, false, false, false, false, false] (hj6 r7 hm)
            ·
              refine w_bipush (pc := 112) hX dX7_farthest_112 bp_m4 ?_
              refine w_goto (pc := 114) (tgt := 125) hX dX7_farthest_114 (by decide) ?_
              exact w_lvs [false, false, false, false, false, false, false] (hj6 (-4 : Int32) hm)
        ·
          refine w_lvs [true, true, true, true, true, true, false] ?_
          refine lpr_ind (T := fun x8 : (Int32 × Int32 × Int32 × Int32 × WY) => WW G X 0 0 (wX7 G a m_hasSnapshot ++ wX3 G (a 1) v_o1 ++ wX6 G (a 5) x8.2.2.2.2) [some (.ref (a 0 0)), some (.int g1), some (.int x8.1), some (.int x8.2.1), some (.int x8.2.2.1), some (.int x8.2.2.2.1), none] 21 []) (fun self9 hself9 x8 hm => ?_) F ((-1 : Int32), (-1 : Int32), (0 : Int32), (0 : Int32), v_o5) hm
          unfold mX7_farthest_L21 at hm
          refine w_iload (pc := 21) hX dX7_farthest_21 rfl ?_
          refine w_aload_n (pc := 23) hX dX7_farthest_23 rfl rfl ?_
          refine gf_X7_maze (pc := 24) hX dX7_farthest_24 hX7 (List.mem_of_getElem? (i := 1) rfl) 0 rfl rfl ?_
          obtain ⟨r10, hr10, hm⟩ := bnd hm
          refine w_callpi (pc := 27) hX [1, 2, 3, 4, 5] (runV (rest := [.int x8.2.2.2.1]) hX [1, 2, 3, 4, 5] (ctX3_cells G (a 1) v_o1 r10 hr10) dX7_farthest_27 0 gX7_farthest_X3_cells rfl hyX3_cells ⟨Nat.le_of_ble_eq_true rfl, Nat.le_of_ble_eq_true rfl⟩ 1 rfl rfl rfl rfl (Nat.le_of_ble_eq_true rfl) ⟨Nat.le_of_ble_eq_true rfl, Nat.le_of_ble_eq_true rfl⟩ rfl (by decide +kernel)) rfl ⟨rfl, rfl⟩ ?_
          refine w_icmp_ge (pc := 30) (tgt := 107) hX dX7_farthest_30 (by decide) hm (fun hm => ?_) (fun hm => ?_)
          ·
            exact w_lvs [false, true, true, true, true, false, false] (hj4 (x8.1, x8.2.1, x8.2.2.1, x8.2.2.2.2) hm)
          ·
            refine w_aload_n (pc := 33) hX dX7_farthest_33 rfl rfl ?_
            refine gf_X7_ways (pc := 34) hX dX7_farthest_34 hX7 (List.mem_of_getElem? (i := 2) rfl) 0 rfl rfl ?_
            refine w_aload_n (pc := 37) hX dX7_farthest_37 rfl rfl ?_
            refine gf_X7_maze (pc := 38) hX dX7_farthest_38 hX7 (List.mem_of_getElem? (i := 1) rfl) 0 rfl rfl ?_
            refine w_iload (pc := 41) hX dX7_farthest_41 rfl ?_
            obtain ⟨r11, hr11, hm⟩ := bnd hm
            refine w_calldv (pc := 43) (ws' := wX7 G a m_hasSnapshot ++ wX3 G (a 1) v_o1 ++ wX6 G (a 5) r11) (os := [none, some 5, some 6, some 7, some 8, some 9, some 0, some 1, some 2, some 3, some 4]) 11 hX [6, 7, 8, 9, 10, 1, 2, 3, 4, 5] (runV (rest := []) hX [6, 7, 8, 9, 10, 1, 2, 3, 4, 5] (ctX6_findFrom G F (a 5) (a 1) x8.2.2.2.2 v_o1 x8.2.2.2.1 r11 hr11) dX7_farthest_43 2 gX7_farthest_X6_findFrom rfl hyX6_findFrom ⟨Nat.le_of_ble_eq_true rfl, Nat.le_of_ble_eq_true rfl⟩ 6 rfl rfl rfl rfl (Nat.le_of_ble_eq_true rfl) ⟨Nat.le_of_ble_eq_true rfl, Nat.le_of_ble_eq_true rfl⟩ rfl (by decide +kernel)) rfl rfl rfl (by decide +kernel) rfl ⟨rfl, rfl⟩ ?_
            refine w_iload (pc := 46) hX dX7_farthest_46 rfl ?_
            refine w_iconst (pc := 48) hX dX7_farthest_48 ic_1 ?_
            refine w_iadd (pc := 49) hX dX7_farthest_49 ?_
            refine w_istore (pc := 50) hX dX7_farthest_50 (Nat.le_of_ble_eq_true rfl) ?_
            refine w_jn (T := fun x12 : (Int32 × Int32 × Int32) => WW G X 0 0 (wX7 G a m_hasSnapshot ++ wX3 G (a 1) v_o1 ++ wX6 G (a 5) r11) [some (.ref (a 0 0)), some (.int g1), some (.int x12.1), some (.int x12.2.1), some (.int x12.2.2), some (.int x8.2.2.2.1), none] 101 []) hm (fun x12 hm => ?_) (fun j13 hj13 hm => ?_)
            ·
              unfold mX7_farthest_K101 at hm
              refine w_iinc (pc := 101) hX dX7_farthest_101 rfl (Nat.le_of_ble_eq_true rfl) ic_1 ?_
              refine w_goto (pc := 104) (tgt := 21) hX dX7_farthest_104 (by decide) ?_
              exact w_lvs [true, true, true, true, true, true, false] (hself9 (x12.1, x12.2.1, x12.2.2, x8.2.2.2.1 + (1 : Int32), r11) hm)
            ·
              refine w_lvs [true, true, true, true, true, true, true] ?_
              refine lpr_ind (T := fun x14 : (Int32 × Int32 × Int32 × Int32) => WW G X 0 0 (wX7 G a m_hasSnapshot ++ wX3 G (a 1) v_o1 ++ wX6 G (a 5) r11) [some (.ref (a 0 0)), some (.int g1), some (.int x14.1), some (.int x14.2.1), some (.int x14.2.2.1), some (.int x8.2.2.2.1), some (.int x14.2.2.2)] 52 []) (fun self15 hself15 x14 hm => ?_) F (x8.1, x8.2.1, x8.2.2.1, x8.2.2.2.1 + (1 : Int32)) hm
              unfold mX7_farthest_L52 at hm
              refine w_iload (pc := 52) hX dX7_farthest_52 rfl ?_
              refine w_aload_n (pc := 54) hX dX7_farthest_54 rfl rfl ?_
              refine gf_X7_maze (pc := 55) hX dX7_farthest_55 hX7 (List.mem_of_getElem? (i := 1) rfl) 0 rfl rfl ?_
              obtain ⟨r16, hr16, hm⟩ := bnd hm
              refine w_callpi (pc := 58) hX [1, 2, 3, 4, 5] (runV (rest := [.int x14.2.2.2]) hX [1, 2, 3, 4, 5] (ctX3_cells G (a 1) v_o1 r16 hr16) dX7_farthest_58 0 gX7_farthest_X3_cells rfl hyX3_cells ⟨Nat.le_of_ble_eq_true rfl, Nat.le_of_ble_eq_true rfl⟩ 1 rfl rfl rfl rfl (Nat.le_of_ble_eq_true rfl) ⟨Nat.le_of_ble_eq_true rfl, Nat.le_of_ble_eq_true rfl⟩ rfl (by decide +kernel)) rfl ⟨rfl, rfl⟩ ?_
              refine w_icmp_ge (pc := 61) (tgt := 101) hX dX7_farthest_61 (by decide) hm (fun hm => ?_) (fun hm => ?_)
              ·
                exact w_lvs [true, true, true, true, true, true, false] (hj13 (x14.1, x14.2.1, x14.2.2.1) hm)
              ·
                refine w_aload_n (pc := 64) hX dX7_farthest_64 rfl rfl ?_
                refine gf_X7_ways (pc := 65) hX dX7_farthest_65 hX7 (List.mem_of_getElem? (i := 2) rfl) 0 rfl rfl ?_
                refine w_iload (pc := 68) hX dX7_farthest_68 rfl ?_
                obtain ⟨r17, hr17, hm⟩ := bnd hm
                refine w_callpi (pc := 70) hX [6, 7, 8, 9, 10] (runV (rest := []) hX [6, 7, 8, 9, 10] (ctX6_lengthTo G (a 5) r11 x14.2.2.2 r17 hr17) dX7_farthest_70 1 gX7_farthest_X6_lengthTo rfl hyX6_lengthTo ⟨Nat.le_of_ble_eq_true rfl, Nat.le_of_ble_eq_true rfl⟩ 6 rfl rfl rfl rfl (Nat.le_of_ble_eq_true rfl) ⟨Nat.le_of_ble_eq_true rfl, Nat.le_of_ble_eq_true rfl⟩ rfl (by decide +kernel)) rfl ⟨rfl, rfl⟩ ?_
                refine w_iload (pc := 73) hX dX7_farthest_73 rfl ?_
                refine w_jn (T := fun x18 : (Int32 × Int32 × Int32) => WW G X 0 0 (wX7 G a m_hasSnapshot ++ wX3 G (a 1) v_o1 ++ wX6 G (a 5) r11) [some (.ref (a 0 0)), some (.int g1), some (.int x18.1), some (.int x18.2.1), some (.int x18.2.2), some (.int x8.2.2.2.1), some (.int x14.2.2.2)] 95 []) hm (fun x18 hm => ?_) (fun j19 hj19 hm => ?_)
                ·
                  refine w_iinc (pc := 95) hX dX7_farthest_95 rfl (Nat.le_of_ble_eq_true rfl) ic_1 ?_
                  refine w_goto (pc := 98) (tgt := 52) hX dX7_farthest_98 (by decide) ?_
                  exact w_lvs [true, true, true, true, true, true, true] (hself15 (x18.1, x18.2.1, x18.2.2, x14.2.2.2 + (1 : Int32)) hm)
                ·
                  refine w_icmp_le (pc := 75) (tgt := 95) hX dX7_farthest_75 (by decide) hm (fun hm => ?_) (fun hm => ?_)
                  ·
                    exact w_lvs [true, true, true, true, true, true, true] (hj19 (x14.1, x14.2.1, x14.2.2.1) hm)
                  ·
                    refine w_iload (pc := 78) hX dX7_farthest_78 rfl ?_
                    refine w_istore_n (pc := 80) hX dX7_farthest_80 rfl (Nat.le_of_ble_eq_true rfl) ?_
                    refine w_iload (pc := 81) hX dX7_farthest_81 rfl ?_
                    refine w_istore_n (pc := 83) hX dX7_farthest_83 rfl (Nat.le_of_ble_eq_true rfl) ?_
                    refine w_aload_n (pc := 84) hX dX7_farthest_84 rfl rfl ?_
                    refine gf_X7_ways (pc := 85) hX dX7_farthest_85 hX7 (List.mem_of_getElem? (i := 2) rfl) 0 rfl rfl ?_
                    refine w_iload (pc := 88) hX dX7_farthest_88 rfl ?_
                    obtain ⟨r20, hr20, hm⟩ := bnd hm
                    refine w_callpi (pc := 90) hX [6, 7, 8, 9, 10] (runV (rest := []) hX [6, 7, 8, 9, 10] (ctX6_lengthTo G (a 5) r11 x14.2.2.2 r20 hr20) dX7_farthest_90 1 gX7_farthest_X6_lengthTo rfl hyX6_lengthTo ⟨Nat.le_of_ble_eq_true rfl, Nat.le_of_ble_eq_true rfl⟩ 6 rfl rfl rfl rfl (Nat.le_of_ble_eq_true rfl) ⟨Nat.le_of_ble_eq_true rfl, Nat.le_of_ble_eq_true rfl⟩ rfl (by decide +kernel)) rfl ⟨rfl, rfl⟩ ?_
                    refine w_istore (pc := 93) hX dX7_farthest_93 (Nat.le_of_ble_eq_true rfl) ?_
                    exact w_lvs [true, true, true, true, true, true, true] (hj19 (x8.2.2.2.1, x14.2.2.2, r20) hm)
      ·
        exact w_lvs [false, false, false, false, false, false, false] (hj2 () hm)

theorem lX7_best_X1 : ∀ w ∈ wsX10, w ∈ wsX7_best := in_at [150, 151, 152, 153, 154, 155] (by decide +kernel)
theorem lX7_best_X7 : ∀ w ∈ wsX70, w ∈ wsX7_best := in_at [139, 140, 141, 142, 143, 144, 145, 146, 147, 148, 149] (by decide +kernel)
set_option maxHeartbeats 4000000 in
set_option maxRecDepth 100000 in
theorem ctX7_best (G : gT) (F : Nat) (a : Nat → Nat → Nat) (m_hasSnapshot : Int32) (v_o1 : MZ) (v_o6 : WY) (v_o7 : WY) (v_o10 : EX) (g1 : Int32) (o : (Int32 × WY × WY × EX)) (hm : mX7_best F v_o1 v_o6 v_o7 v_o10 g1 = some o) : CT G yX7_best wsX7_best rmX7_best [.ref (a 0 0), .int g1] (wX7 G a m_hasSnapshot ++ wX3 G (a 1) v_o1 ++ wX6 G (a 6) v_o6 ++ wX6 G (a 7) v_o7 ++ wX1 G (a 10) v_o10) (fun v w => v = some (.int o.1) ∧ w = wX7 G a m_hasSnapshot ++ wX3 G (a 1) v_o1 ++ wX6 G (a 6) o.2.1 ++ wX6 G (a 7) o.2.2.1 ++ wX1 G (a 10) o.2.2.2) := by
  refine CT_of (cc := cX7_best) (maxL := 2) (ret := (some .int)) 0 (by decide +kernel) rfl rfl (cat_ok rfl) (fun X hX hR hN => ?_)
  have hX : Ok G X cX7_best RX7 wsX7_best 2 rmX7_best := hX
  have hX1 : ∀ w ∈ wsX10, w ∈ wsX7_best := lX7_best_X1
  have hX7 : ∀ w ∈ wsX70, w ∈ wsX7_best := lX7_best_X7
  unfold mX7_best at hm
  refine w_iload_n (pc := 0) hX dX7_best_0 rfl rfl ?_
  refine w_jn (T := fun x1 : Unit => WW G X 0 0 (wX7 G a m_hasSnapshot ++ wX3 G (a 1) v_o1 ++ wX6 G (a 6) v_o6 ++ wX6 G (a 7) v_o7 ++ wX1 G (a 10) v_o10) [none, none] 9 []) hm (fun x1 hm => ?_) (fun j2 hj2 hm => ?_)
  ·
    refine w_iconst (pc := 9) hX dX7_best_9 ic_m1 ?_
    obtain rfl := som hm
    exact w_iret (pc := 10) hX hR dX7_best_10 ⟨rfl, rfl⟩
  ·
    refine w_if_lt (pc := 1) (tgt := 9) hX dX7_best_1 (by decide) hm (fun hm => ?_) (fun hm => ?_)
    ·
      exact w_lvs [false, false] (hj2 () hm)
    ·
      refine w_iload_n (pc := 4) hX dX7_best_4 rfl rfl ?_
      refine w_iconst (pc := 5) hX dX7_best_5 ic_2 ?_
      refine w_icmp_le (pc := 6) (tgt := 11) hX dX7_best_6 (by decide) hm (fun hm => ?_) (fun hm => ?_)
      ·
        refine w_aload_n (pc := 11) hX dX7_best_11 rfl rfl ?_
        refine gf_X7_maze (pc := 12) hX dX7_best_12 hX7 (List.mem_of_getElem? (i := 1) rfl) 0 rfl rfl ?_
        obtain ⟨r3, hr3, hm⟩ := bnd hm
        refine w_callpi (pc := 15) hX [1, 2, 3, 4, 5] (runV (rest := []) hX [1, 2, 3, 4, 5] (ctX3_isWhole G F (a 1) v_o1 r3 hr3) dX7_best_15 0 gX7_best_X3_isWhole rfl hyX3_isWhole ⟨Nat.le_of_ble_eq_true rfl, Nat.le_of_ble_eq_true rfl⟩ 1 rfl rfl rfl rfl (Nat.le_of_ble_eq_true rfl) ⟨Nat.le_of_ble_eq_true rfl, Nat.le_of_ble_eq_true rfl⟩ rfl (by decide +kernel)) rfl ⟨rfl, rfl⟩ ?_
        refine w_if_ne (pc := 18) (tgt := 24) hX dX7_best_18 (by decide) hm (fun hm => ?_) (fun hm => ?_)
        ·
          refine w_aload_n (pc := 24) hX dX7_best_24 rfl rfl ?_
          refine gf_X7_exchanger (pc := 25) hX dX7_best_25 hX7 (List.mem_of_getElem? (i := 2) rfl) 0 rfl rfl ?_
          refine w_aload_n (pc := 28) hX dX7_best_28 rfl rfl ?_
          refine gf_X7_maze (pc := 29) hX dX7_best_29 hX7 (List.mem_of_getElem? (i := 1) rfl) 0 rfl rfl ?_
          refine w_aload_n (pc := 32) hX dX7_best_32 rfl rfl ?_
          refine gf_X7_fromEntry (pc := 33) hX dX7_best_33 hX7 (List.mem_of_getElem? (i := 3) rfl) 0 rfl rfl ?_
          refine w_aload_n (pc := 36) hX dX7_best_36 rfl rfl ?_
          refine gf_X7_fromExit (pc := 37) hX dX7_best_37 hX7 (List.mem_of_getElem? (i := 4) rfl) 0 rfl rfl ?_
          obtain ⟨r4, hr4, hm⟩ := bnd hm
          refine w_calldv (pc := 40) (ws' := wX7 G a m_hasSnapshot ++ wX3 G (a 1) v_o1 ++ wX6 G (a 6) r4.2.1 ++ wX6 G (a 7) r4.2.2 ++ wX1 G (a 10) r4.1) (os := [none, some 2, some 3, some 4, some 5, some 6, some 7, some 8, some 9, some 10, some 11, some 12, some 13, some 14, some 15, some 16, some 0, some 1]) 18 hX [16, 17, 1, 2, 3, 4, 5, 6, 7, 8, 9, 10, 11, 12, 13, 14, 15] (runV (rest := []) hX [16, 17, 1, 2, 3, 4, 5, 6, 7, 8, 9, 10, 11, 12, 13, 14, 15] (ctX1_find G F (a 10) (a 1) (a 6) (a 7) v_o10 v_o1 v_o6 v_o7 r4 hr4) dX7_best_40 3 gX7_best_X1_find rfl hyX1_find ⟨Nat.le_of_ble_eq_true rfl, Nat.le_of_ble_eq_true rfl⟩ 16 rfl rfl rfl rfl (Nat.le_of_ble_eq_true rfl) ⟨Nat.le_of_ble_eq_true rfl, Nat.le_of_ble_eq_true rfl⟩ rfl (by decide +kernel)) rfl rfl rfl (by decide +kernel) rfl ⟨rfl, rfl⟩ ?_
          refine w_iload_n (pc := 43) hX dX7_best_43 rfl rfl ?_
          refine w_aload_n (pc := 44) hX dX7_best_44 rfl rfl ?_
          refine gf_X7_exchanger (pc := 45) hX dX7_best_45 hX7 (List.mem_of_getElem? (i := 2) rfl) 0 rfl rfl ?_
          refine gf_X1_takenAway (pc := 48) hX dX7_best_48 hX1 (List.mem_of_getElem? (i := 5) rfl) 16 rfl rfl ?_
          refine w_aload_n (pc := 51) hX dX7_best_51 rfl rfl ?_
          refine gf_X7_exchanger (pc := 52) hX dX7_best_52 hX7 (List.mem_of_getElem? (i := 2) rfl) 0 rfl rfl ?_
          refine gf_X1_made (pc := 55) hX dX7_best_55 hX1 (List.mem_of_getElem? (i := 6) rfl) 16 rfl rfl ?_
          refine w_aload_n (pc := 58) hX dX7_best_58 rfl rfl ?_
          refine gf_X7_exchanger (pc := 59) hX dX7_best_59 hX7 (List.mem_of_getElem? (i := 2) rfl) 0 rfl rfl ?_
          refine gf_X1_faultThen (pc := 62) hX dX7_best_62 hX1 (List.mem_of_getElem? (i := 7) rfl) 16 rfl rfl ?_
          obtain ⟨r5, hr5, hm⟩ := bnd hm
          refine w_callpi (pc := 65) hX [] (runS (rest := []) hX [] (ctX7_choose G g1 r4.1.1 r4.1.2.1 r4.1.2.2.2.1 r5 hr5) dX7_best_65 4 gX7_best_X7_choose rfl hyX7_choose.2 ⟨Nat.le_of_ble_eq_true rfl, Nat.le_of_ble_eq_true rfl⟩ rfl rfl (Nat.le_of_ble_eq_true rfl) ⟨Nat.le_of_ble_eq_true rfl, Nat.le_of_ble_eq_true rfl⟩ rfl (by decide +kernel)) rfl ⟨rfl, rfl⟩ ?_
          obtain rfl := som hm
          exact w_iret (pc := 68) hX hR dX7_best_68 ⟨rfl, rfl⟩
        ·
          refine w_bipush (pc := 21) hX dX7_best_21 bp_m2 ?_
          obtain rfl := som hm
          exact w_iret (pc := 23) hX hR dX7_best_23 ⟨rfl, rfl⟩
      ·
        exact w_lvs [false, false] (hj2 () hm)

theorem lX7_freeSide_X7 : ∀ w ∈ wsX70, w ∈ wsX7_freeSide := in_at [18, 19, 20, 21, 22, 23, 24, 25, 26, 27, 28] (by decide +kernel)
set_option maxHeartbeats 4000000 in
set_option maxRecDepth 100000 in
theorem ctX7_freeSide (G : gT) (F : Nat) (a : Nat → Nat → Nat) (m_hasSnapshot : Int32) (v_o1 : MZ) (g1 : Int32) (o : Int32) (hm : mX7_freeSide F v_o1 g1 = some o) : CT G yX7_freeSide wsX7_freeSide rmX7_freeSide [.ref (a 0 0), .int g1] (wX7 G a m_hasSnapshot ++ wX3 G (a 1) v_o1) (fun v w => v = some (.int o) ∧ w = wX7 G a m_hasSnapshot ++ wX3 G (a 1) v_o1) := by
  refine CT_of (cc := cX7_freeSide) (maxL := 3) (ret := (some .int)) 1 (by decide +kernel) rfl rfl (cat_ok rfl) (fun X hX hR hN => ?_)
  have hX : Ok G X cX7_freeSide RX7 wsX7_freeSide 3 rmX7_freeSide := hX
  have hX7 : ∀ w ∈ wsX70, w ∈ wsX7_freeSide := lX7_freeSide_X7
  unfold mX7_freeSide at hm
  refine w_iconst (pc := 0) hX dX7_freeSide_0 ic_0 ?_
  refine w_istore_n (pc := 1) hX dX7_freeSide_1 rfl (Nat.le_of_ble_eq_true rfl) ?_
  refine w_lvs [true, true, true] ?_
  refine lpr_ind (T := fun x1 : Int32 => WW G X 0 0 (wX7 G a m_hasSnapshot ++ wX3 G (a 1) v_o1) [some (.ref (a 0 0)), some (.int g1), some (.int x1)] 2 []) (fun self2 hself2 x1 hm => ?_) F (0 : Int32) hm
  unfold mX7_freeSide_L2 at hm
  refine w_iload_n (pc := 2) hX dX7_freeSide_2 rfl rfl ?_
  refine w_iconst (pc := 3) hX dX7_freeSide_3 ic_4 ?_
  refine w_icmp_ge (pc := 4) (tgt := 41) hX dX7_freeSide_4 (by decide) hm (fun hm => ?_) (fun hm => ?_)
  ·
    refine w_iconst (pc := 41) hX dX7_freeSide_41 ic_m1 ?_
    obtain rfl := som hm
    exact w_iret (pc := 42) hX hR dX7_freeSide_42 ⟨rfl, rfl⟩
  ·
    refine w_aload_n (pc := 7) hX dX7_freeSide_7 rfl rfl ?_
    refine gf_X7_maze (pc := 8) hX dX7_freeSide_8 hX7 (List.mem_of_getElem? (i := 1) rfl) 0 rfl rfl ?_
    refine w_iload_n (pc := 11) hX dX7_freeSide_11 rfl rfl ?_
    refine w_iload_n (pc := 12) hX dX7_freeSide_12 rfl rfl ?_
    obtain ⟨r3, hr3, hm⟩ := bnd hm
    refine w_callpi (pc := 13) hX [1, 2, 3, 4, 5] (runV (rest := []) hX [1, 2, 3, 4, 5] (ctX3_beside G (a 1) v_o1 g1 x1 r3 hr3) dX7_freeSide_13 2 gX7_freeSide_X3_beside rfl hyX3_beside ⟨Nat.le_of_ble_eq_true rfl, Nat.le_of_ble_eq_true rfl⟩ 1 rfl rfl rfl rfl (Nat.le_of_ble_eq_true rfl) ⟨Nat.le_of_ble_eq_true rfl, Nat.le_of_ble_eq_true rfl⟩ rfl (by decide +kernel)) rfl ⟨rfl, rfl⟩ ?_
    refine w_iconst (pc := 16) hX dX7_freeSide_16 ic_m1 ?_
    refine w_jn (T := fun x4 : Unit => WW G X 0 0 (wX7 G a m_hasSnapshot ++ wX3 G (a 1) v_o1) [some (.ref (a 0 0)), some (.int g1), some (.int x1)] 35 []) hm (fun x4 hm => ?_) (fun j5 hj5 hm => ?_)
    ·
      refine w_iinc (pc := 35) hX dX7_freeSide_35 rfl (Nat.le_of_ble_eq_true rfl) ic_1 ?_
      refine w_goto (pc := 38) (tgt := 2) hX dX7_freeSide_38 (by decide) ?_
      exact w_lvs [true, true, true] (hself2 (x1 + (1 : Int32)) hm)
    ·
      refine w_icmp_ne (pc := 17) (tgt := 35) hX dX7_freeSide_17 (by decide) hm (fun hm => ?_) (fun hm => ?_)
      ·
        exact w_lvs [true, true, true] (hj5 () hm)
      ·
        refine w_aload_n (pc := 20) hX dX7_freeSide_20 rfl rfl ?_
        refine gf_X7_maze (pc := 21) hX dX7_freeSide_21 hX7 (List.mem_of_getElem? (i := 1) rfl) 0 rfl rfl ?_
        refine w_iconst (pc := 24) hX dX7_freeSide_24 ic_0 ?_
        refine w_iload_n (pc := 25) hX dX7_freeSide_25 rfl rfl ?_
        refine w_iload_n (pc := 26) hX dX7_freeSide_26 rfl rfl ?_
        obtain ⟨r6, hr6, hm⟩ := bnd hm
        refine w_callpi (pc := 27) hX [1, 2, 3, 4, 5] (runV (rest := []) hX [1, 2, 3, 4, 5] (ctX3_isDoorAt G (a 1) v_o1 (0 : Int32) g1 x1 r6 hr6) dX7_freeSide_27 3 gX7_freeSide_X3_isDoorAt rfl hyX3_isDoorAt ⟨Nat.le_of_ble_eq_true rfl, Nat.le_of_ble_eq_true rfl⟩ 1 rfl rfl rfl rfl (Nat.le_of_ble_eq_true rfl) ⟨Nat.le_of_ble_eq_true rfl, Nat.le_of_ble_eq_true rfl⟩ rfl (by decide +kernel)) rfl ⟨rfl, rfl⟩ ?_
        refine w_if_ne (pc := 30) (tgt := 35) hX dX7_freeSide_30 (by decide) hm (fun hm => ?_) (fun hm => ?_)
        ·
          exact w_lvs [true, true, true] (hj5 () hm)
        ·
          refine w_iload_n (pc := 33) hX dX7_freeSide_33 rfl rfl ?_
          obtain rfl := som hm
          exact w_iret (pc := 34) hX hR dX7_freeSide_34 ⟨rfl, rfl⟩

theorem lX7_bestExit_X6 : ∀ w ∈ wsX60, w ∈ wsX7_bestExit := in_at [89, 90, 91, 92, 93] (by decide +kernel)
theorem lX7_bestExit_X7 : ∀ w ∈ wsX70, w ∈ wsX7_bestExit := in_at [78, 79, 80, 81, 82, 83, 84, 85, 86, 87, 88] (by decide +kernel)
set_option maxHeartbeats 4000000 in
set_option maxRecDepth 100000 in
theorem ctX7_bestExit (G : gT) (F : Nat) (a : Nat → Nat → Nat) (m_hasSnapshot : Int32) (v_o1 : MZ) (v_o6 : WY) (g1 : Int32) (o : (Int32 × WY)) (hm : mX7_bestExit F v_o1 v_o6 g1 = some o) : CT G yX7_bestExit wsX7_bestExit rmX7_bestExit [.ref (a 0 0), .int g1] (wX7 G a m_hasSnapshot ++ wX3 G (a 1) v_o1 ++ wX6 G (a 6) v_o6) (fun v w => v = some (.int o.1) ∧ w = wX7 G a m_hasSnapshot ++ wX3 G (a 1) v_o1 ++ wX6 G (a 6) o.2) := by
  refine CT_of (cc := cX7_bestExit) (maxL := 9) (ret := (some .int)) 7 (by decide +kernel) rfl rfl (cat_ok rfl) (fun X hX hR hN => ?_)
  have hX : Ok G X cX7_bestExit RX7 wsX7_bestExit 9 rmX7_bestExit := hX
  have hX6 : ∀ w ∈ wsX60, w ∈ wsX7_bestExit := lX7_bestExit_X6
  have hX7 : ∀ w ∈ wsX70, w ∈ wsX7_bestExit := lX7_bestExit_X7
  unfold mX7_bestExit at hm
  refine w_iload_n (pc := 0) hX dX7_bestExit_0 rfl rfl ?_
  refine w_jn (T := fun x1 : Unit => WW G X 0 0 (wX7 G a m_hasSnapshot ++ wX3 G (a 1) v_o1 ++ wX6 G (a 6) v_o6) [none, none, none, none, none, none, none, none, none] 9 []) hm (fun x1 hm => ?_) (fun j2 hj2 hm => ?_)
  ·
    refine w_iconst (pc := 9) hX dX7_bestExit_9 ic_m1 ?_
    obtain rfl := som hm
    exact w_iret (pc := 10) hX hR dX7_bestExit_10 ⟨rfl, rfl⟩
  ·
    refine w_if_lt (pc := 1) (tgt := 9) hX dX7_bestExit_1 (by decide) hm (fun hm => ?_) (fun hm => ?_)
    ·
      exact w_lvs [false, false, false, false, false, false, false, false, false] (hj2 () hm)
    ·
      refine w_iload_n (pc := 4) hX dX7_bestExit_4 rfl rfl ?_
      refine w_iconst (pc := 5) hX dX7_bestExit_5 ic_2 ?_
      refine w_icmp_le (pc := 6) (tgt := 11) hX dX7_bestExit_6 (by decide) hm (fun hm => ?_) (fun hm => ?_)
      ·
        refine w_aload_n (pc := 11) hX dX7_bestExit_11 rfl rfl ?_
        refine gf_X7_fromEntry (pc := 12) hX dX7_bestExit_12 hX7 (List.mem_of_getElem? (i := 1) rfl) 0 rfl rfl ?_
        refine w_aload_n (pc := 15) hX dX7_bestExit_15 rfl rfl ?_
        refine gf_X7_maze (pc := 16) hX dX7_bestExit_16 hX7 (List.mem_of_getElem? (i := 2) rfl) 0 rfl rfl ?_
        refine w_aload_n (pc := 19) hX dX7_bestExit_19 rfl rfl ?_
        refine gf_X7_maze (pc := 20) hX dX7_bestExit_20 hX7 (List.mem_of_getElem? (i := 2) rfl) 0 rfl rfl ?_
        obtain ⟨r3, hr3, hm⟩ := bnd hm
        refine w_callpi (pc := 23) hX [1, 2, 3, 4, 5] (runV (rest := [.ref (a 1 0), .ref (a 6 0)]) hX [1, 2, 3, 4, 5] (ctX3_entryCell G (a 1) v_o1 r3 hr3) dX7_bestExit_23 0 gX7_bestExit_X3_entryCell rfl hyX3_entryCell ⟨Nat.le_of_ble_eq_true rfl, Nat.le_of_ble_eq_true rfl⟩ 1 rfl rfl rfl rfl (Nat.le_of_ble_eq_true rfl) ⟨Nat.le_of_ble_eq_true rfl, Nat.le_of_ble_eq_true rfl⟩ rfl (by decide +kernel)) rfl ⟨rfl, rfl⟩ ?_
        obtain ⟨r4, hr4, hm⟩ := bnd hm
        refine w_calldv (pc := 26) (ws' := wX7 G a m_hasSnapshot ++ wX3 G (a 1) v_o1 ++ wX6 G (a 6) r4) (os := [none, some 5, some 6, some 7, some 8, some 9, some 0, some 1, some 2, some 3, some 4]) 11 hX [6, 7, 8, 9, 10, 1, 2, 3, 4, 5] (runV (rest := []) hX [6, 7, 8, 9, 10, 1, 2, 3, 4, 5] (ctX6_findFrom G F (a 6) (a 1) v_o6 v_o1 r3 r4 hr4) dX7_bestExit_26 2 gX7_bestExit_X6_findFrom rfl hyX6_findFrom ⟨Nat.le_of_ble_eq_true rfl, Nat.le_of_ble_eq_true rfl⟩ 6 rfl rfl rfl rfl (Nat.le_of_ble_eq_true rfl) ⟨Nat.le_of_ble_eq_true rfl, Nat.le_of_ble_eq_true rfl⟩ rfl (by decide +kernel)) rfl rfl rfl (by decide +kernel) rfl ⟨rfl, rfl⟩ ?_
        refine w_aload_n (pc := 29) hX dX7_bestExit_29 rfl rfl ?_
        refine gf_X7_maze (pc := 30) hX dX7_bestExit_30 hX7 (List.mem_of_getElem? (i := 2) rfl) 0 rfl rfl ?_
        obtain ⟨r5, hr5, hm⟩ := bnd hm
        refine w_callpi (pc := 33) hX [1, 2, 3, 4, 5] (runV (rest := []) hX [1, 2, 3, 4, 5] (ctX3_toneSum G F (a 1) v_o1 r5 hr5) dX7_bestExit_33 0 gX7_bestExit_X3_toneSum rfl hyX3_toneSum ⟨Nat.le_of_ble_eq_true rfl, Nat.le_of_ble_eq_true rfl⟩ 1 rfl rfl rfl rfl (Nat.le_of_ble_eq_true rfl) ⟨Nat.le_of_ble_eq_true rfl, Nat.le_of_ble_eq_true rfl⟩ rfl (by decide +kernel)) rfl ⟨rfl, rfl⟩ ?_
        refine w_istore_n (pc := 36) hX dX7_bestExit_36 rfl (Nat.le_of_ble_eq_true rfl) ?_
        refine w_iconst (pc := 37) hX dX7_bestExit_37 ic_m1 ?_
        refine w_istore_n (pc := 38) hX dX7_bestExit_38 rfl (Nat.le_of_ble_eq_true rfl) ?_
        refine w_iconst (pc := 39) hX dX7_bestExit_39 ic_m1 ?_
        refine w_istore (pc := 40) hX dX7_bestExit_40 (Nat.le_of_ble_eq_true rfl) ?_
        refine w_iconst (pc := 42) hX dX7_bestExit_42 ic_0 ?_
        refine w_istore (pc := 43) hX dX7_bestExit_43 (Nat.le_of_ble_eq_true rfl) ?_
        refine w_iconst (pc := 45) hX dX7_bestExit_45 ic_0 ?_
        refine w_istore (pc := 46) hX dX7_bestExit_46 (Nat.le_of_ble_eq_true rfl) ?_
        refine w_jn (T := fun x6 : (Int32 × Int32 × Int32) => WW G X 0 0 (wX7 G a m_hasSnapshot ++ wX3 G (a 1) v_o1 ++ wX6 G (a 6) r4) [none, some (.int g1), none, some (.int x6.1), some (.int x6.2.1), some (.int x6.2.2), none, none, none] 131 []) hm (fun x6 hm => ?_) (fun j7 hj7 hm => ?_)
        ·
          unfold mX7_bestExit_K131 at hm
          refine w_iload_n (pc := 131) hX dX7_bestExit_131 rfl rfl ?_
          refine w_iconst (pc := 132) hX dX7_bestExit_132 ic_m1 ?_
          refine w_jn (T := fun x8 : Int32 => WW G X 0 0 (wX7 G a m_hasSnapshot ++ wX3 G (a 1) v_o1 ++ wX6 G (a 6) r4) [none, none, none, none, none, none, none, none, none] 150 [.int x8]) hm (fun x8 hm => ?_) (fun j9 hj9 hm => ?_)
          ·
            obtain rfl := som hm
            exact w_iret (pc := 150) hX hR dX7_bestExit_150 ⟨rfl, rfl⟩
          ·
            refine w_icmp_ne (pc := 133) (tgt := 141) hX dX7_bestExit_133 (by decide) hm (fun hm => ?_) (fun hm => ?_)
            ·
              refine w_iload_n (pc := 141) hX dX7_bestExit_141 rfl rfl ?_
              refine w_iload_n (pc := 142) hX dX7_bestExit_142 rfl rfl ?_
              refine w_iload (pc := 143) hX dX7_bestExit_143 rfl ?_
              refine w_iload (pc := 145) hX dX7_bestExit_145 rfl ?_
              obtain ⟨r10, hr10, hm⟩ := bnd hm
              refine w_callpi (pc := 147) hX [] (runS (rest := []) hX [] (ctX7_choose G g1 x6.1 x6.2.1 x6.2.2 r10 hr10) dX7_bestExit_147 4 gX7_bestExit_X7_choose rfl hyX7_choose.2 ⟨Nat.le_of_ble_eq_true rfl, Nat.le_of_ble_eq_true rfl⟩ rfl rfl (Nat.le_of_ble_eq_true rfl) ⟨Nat.le_of_ble_eq_true rfl, Nat.le_of_ble_eq_true rfl⟩ rfl (by decide +kernel)) rfl ⟨rfl, rfl⟩ ?_
              exact w_lvs [false, false, false, false, false, false, false, false, false] (hj9 r10 hm)
            ·
              refine w_bipush (pc := 136) hX dX7_bestExit_136 bp_m4 ?_
              refine w_goto (pc := 138) (tgt := 150) hX dX7_bestExit_138 (by decide) ?_
              exact w_lvs [false, false, false, false, false, false, false, false, false] (hj9 (-4 : Int32) hm)
        ·
          refine w_lvs [true, true, true, true, true, true, true, false, false] ?_
          refine lpr_ind (T := fun x11 : (Int32 × Int32 × Int32 × Int32) => WW G X 0 0 (wX7 G a m_hasSnapshot ++ wX3 G (a 1) v_o1 ++ wX6 G (a 6) r4) [some (.ref (a 0 0)), some (.int g1), some (.int r5), some (.int x11.1), some (.int x11.2.1), some (.int x11.2.2.1), some (.int x11.2.2.2), none, none] 48 []) (fun self12 hself12 x11 hm => ?_) F ((-1 : Int32), (-1 : Int32), (0 : Int32), (0 : Int32)) hm
          unfold mX7_bestExit_L48 at hm
          refine w_iload (pc := 48) hX dX7_bestExit_48 rfl ?_
          refine w_aload_n (pc := 50) hX dX7_bestExit_50 rfl rfl ?_
          refine gf_X7_maze (pc := 51) hX dX7_bestExit_51 hX7 (List.mem_of_getElem? (i := 2) rfl) 0 rfl rfl ?_
          obtain ⟨r13, hr13, hm⟩ := bnd hm
          refine w_callpi (pc := 54) hX [1, 2, 3, 4, 5] (runV (rest := [.int x11.2.2.2]) hX [1, 2, 3, 4, 5] (ctX3_cells G (a 1) v_o1 r13 hr13) dX7_bestExit_54 0 gX7_bestExit_X3_cells rfl hyX3_cells ⟨Nat.le_of_ble_eq_true rfl, Nat.le_of_ble_eq_true rfl⟩ 1 rfl rfl rfl rfl (Nat.le_of_ble_eq_true rfl) ⟨Nat.le_of_ble_eq_true rfl, Nat.le_of_ble_eq_true rfl⟩ rfl (by decide +kernel)) rfl ⟨rfl, rfl⟩ ?_
          refine w_icmp_ge (pc := 57) (tgt := 131) hX dX7_bestExit_57 (by decide) hm (fun hm => ?_) (fun hm => ?_)
          ·
            exact w_lvs [false, true, false, true, true, true, false, false, false] (hj7 (x11.1, x11.2.1, x11.2.2.1) hm)
          ·
            refine w_aload_n (pc := 60) hX dX7_bestExit_60 rfl rfl ?_
            refine w_iload (pc := 61) hX dX7_bestExit_61 rfl ?_
            obtain ⟨r14, hr14, hm⟩ := bnd hm
            refine w_callpi (pc := 63) hX [0, 1, 2, 3, 4, 5] (runV (rest := []) hX [0, 1, 2, 3, 4, 5] (ctX7_freeSide G F a m_hasSnapshot v_o1 x11.2.2.2 r14 hr14) dX7_bestExit_63 1 gX7_bestExit_X7_freeSide rfl hyX7_freeSide ⟨Nat.le_of_ble_eq_true rfl, Nat.le_of_ble_eq_true rfl⟩ 0 rfl rfl rfl rfl (Nat.le_of_ble_eq_true rfl) ⟨Nat.le_of_ble_eq_true rfl, Nat.le_of_ble_eq_true rfl⟩ rfl (by decide +kernel)) rfl ⟨rfl, rfl⟩ ?_
            refine w_istore (pc := 66) hX dX7_bestExit_66 (Nat.le_of_ble_eq_true rfl) ?_
            refine w_iload (pc := 68) hX dX7_bestExit_68 rfl ?_
            refine w_iconst (pc := 70) hX dX7_bestExit_70 ic_m1 ?_
            refine w_jn (T := fun x15 : (Int32 × Int32 × Int32) => WW G X 0 0 (wX7 G a m_hasSnapshot ++ wX3 G (a 1) v_o1 ++ wX6 G (a 6) r4) [some (.ref (a 0 0)), some (.int g1), some (.int r5), some (.int x15.1), some (.int x15.2.1), some (.int x15.2.2), some (.int x11.2.2.2), none, none] 125 []) hm (fun x15 hm => ?_) (fun j16 hj16 hm => ?_)
            ·
              refine w_iinc (pc := 125) hX dX7_bestExit_125 rfl (Nat.le_of_ble_eq_true rfl) ic_1 ?_
              refine w_goto (pc := 128) (tgt := 48) hX dX7_bestExit_128 (by decide) ?_
              exact w_lvs [true, true, true, true, true, true, true, false, false] (hself12 (x15.1, x15.2.1, x15.2.2, x11.2.2.2 + (1 : Int32)) hm)
            ·
              refine w_icmp_eq (pc := 71) (tgt := 125) hX dX7_bestExit_71 (by decide) hm (fun hm => ?_) (fun hm => ?_)
              ·
                exact w_lvs [true, true, true, true, true, true, true, false, false] (hj16 (x11.1, x11.2.1, x11.2.2.1) hm)
              ·
                refine w_aload_n (pc := 74) hX dX7_bestExit_74 rfl rfl ?_
                refine gf_X7_fromEntry (pc := 75) hX dX7_bestExit_75 hX7 (List.mem_of_getElem? (i := 1) rfl) 0 rfl rfl ?_
                refine w_iload (pc := 78) hX dX7_bestExit_78 rfl ?_
                obtain ⟨r17, hr17, hm⟩ := bnd hm
                refine w_callpi (pc := 80) hX [6, 7, 8, 9, 10] (runV (rest := []) hX [6, 7, 8, 9, 10] (ctX6_reach G (a 6) r4 x11.2.2.2 r17 hr17) dX7_bestExit_80 1 gX7_bestExit_X6_reach rfl hyX6_reach ⟨Nat.le_of_ble_eq_true rfl, Nat.le_of_ble_eq_true rfl⟩ 6 rfl rfl rfl rfl (Nat.le_of_ble_eq_true rfl) ⟨Nat.le_of_ble_eq_true rfl, Nat.le_of_ble_eq_true rfl⟩ rfl (by decide +kernel)) rfl ⟨rfl, rfl⟩ ?_
                refine w_if_eq (pc := 83) (tgt := 125) hX dX7_bestExit_83 (by decide) hm (fun hm => ?_) (fun hm => ?_)
                ·
                  exact w_lvs [true, true, true, true, true, true, true, false, false] (hj16 (x11.1, x11.2.1, x11.2.2.1) hm)
                ·
                  refine w_iload_n (pc := 86) hX dX7_bestExit_86 rfl rfl ?_
                  refine w_aload_n (pc := 87) hX dX7_bestExit_87 rfl rfl ?_
                  refine gf_X7_fromEntry (pc := 88) hX dX7_bestExit_88 hX7 (List.mem_of_getElem? (i := 1) rfl) 0 rfl rfl ?_
                  refine gf_X6_gains (pc := 91) hX dX7_bestExit_91 hX6 (List.mem_of_getElem? (i := 3) rfl) 6 rfl rfl ?_
                  refine w_iload (pc := 94) hX dX7_bestExit_94 rfl ?_
                  obtain ⟨r18, hr18, hm⟩ := bnd hm
                  refine w_callpi (pc := 96) hX [10] (runS (rest := [.int r5]) hX [10] (ctX7_at G (a 6 4) 36 r4.2.2.2.2 x11.2.2.2 r18 hr18) dX7_bestExit_96 2 gX7_bestExit_X7_at rfl hyX7_at.2 ⟨Nat.le_of_ble_eq_true rfl, Nat.le_of_ble_eq_true rfl⟩ rfl rfl (Nat.le_of_ble_eq_true rfl) ⟨Nat.le_of_ble_eq_true rfl, Nat.le_of_ble_eq_true rfl⟩ rfl (by decide +kernel)) rfl ⟨rfl, rfl⟩ ?_
                  refine w_iadd (pc := 99) hX dX7_bestExit_99 ?_
                  refine w_istore (pc := 100) hX dX7_bestExit_100 (Nat.le_of_ble_eq_true rfl) ?_
                  refine w_iload_n (pc := 102) hX dX7_bestExit_102 rfl rfl ?_
                  refine w_iconst (pc := 103) hX dX7_bestExit_103 ic_m1 ?_
                  refine w_jn (T := fun x19 : Unit => WW G X 0 0 (wX7 G a m_hasSnapshot ++ wX3 G (a 1) v_o1 ++ wX6 G (a 6) r4) [some (.ref (a 0 0)), some (.int g1), some (.int r5), none, none, none, some (.int x11.2.2.2), some (.int r14), some (.int (r5 + r18))] 114 []) hm (fun x19 hm => ?_) (fun j20 hj20 hm => ?_)
                  ·
                    refine w_iload (pc := 114) hX dX7_bestExit_114 rfl ?_
                    refine w_istore_n (pc := 116) hX dX7_bestExit_116 rfl (Nat.le_of_ble_eq_true rfl) ?_
                    refine w_iload (pc := 117) hX dX7_bestExit_117 rfl ?_
                    refine w_istore (pc := 119) hX dX7_bestExit_119 (Nat.le_of_ble_eq_true rfl) ?_
                    refine w_iload (pc := 121) hX dX7_bestExit_121 rfl ?_
                    refine w_istore (pc := 123) hX dX7_bestExit_123 (Nat.le_of_ble_eq_true rfl) ?_
                    exact w_lvs [true, true, true, true, true, true, true, false, false] (hj16 (x11.2.2.2, r14, r5 + r18) hm)
                  ·
                    refine w_icmp_eq (pc := 104) (tgt := 114) hX dX7_bestExit_104 (by decide) hm (fun hm => ?_) (fun hm => ?_)
                    ·
                      exact w_lvs [true, true, true, false, false, false, true, true, true] (hj20 () hm)
                    ·
                      refine w_iload (pc := 107) hX dX7_bestExit_107 rfl ?_
                      refine w_iload (pc := 109) hX dX7_bestExit_109 rfl ?_
                      refine w_icmp_ge (pc := 111) (tgt := 125) hX dX7_bestExit_111 (by decide) hm (fun hm => ?_) (fun hm => ?_)
                      ·
                        exact w_lvs [true, true, true, true, true, true, true, false, false] (hj16 (x11.1, x11.2.1, x11.2.2.1) hm)
                      ·
                        exact w_lvs [true, true, true, false, false, false, true, true, true] (hj20 () hm)
      ·
        exact w_lvs [false, false, false, false, false, false, false, false, false] (hj2 () hm)

theorem lX7_keep_X7 : ∀ w ∈ wsX70, w ∈ wsX7_keep := in_at [36, 37, 38, 39, 40, 41, 42, 43, 44, 45, 46] (by decide +kernel)
set_option maxHeartbeats 4000000 in
set_option maxRecDepth 100000 in
theorem ctX7_keep (G : gT) (F : Nat) (a : Nat → Nat → Nat) (m_hasSnapshot : Int32) (v_o1 : MZ) (v_o2 : MZ) (o : (Int32 × Int32 × MZ)) (hm : mX7_keep F m_hasSnapshot v_o1 v_o2 = some o) : CT G yX7_keep wsX7_keep rmX7_keep [.ref (a 0 0)] (wX7 G a m_hasSnapshot ++ wX3 G (a 1) v_o1 ++ wX3 G (a 2) v_o2) (fun v w => v = some (.int o.1) ∧ w = wX7 G a o.2.1 ++ wX3 G (a 1) v_o1 ++ wX3 G (a 2) o.2.2) := by
  refine CT_of (cc := cX7_keep) (maxL := 1) (ret := (some .int)) 0 (by decide +kernel) rfl rfl (cat_ok rfl) (fun X hX hR hN => ?_)
  have hX : Ok G X cX7_keep RX7 wsX7_keep 1 rmX7_keep := hX
  have hX7 : ∀ w ∈ wsX70, w ∈ wsX7_keep := lX7_keep_X7
  unfold mX7_keep at hm
  refine w_aload_n (pc := 0) hX dX7_keep_0 rfl rfl ?_
  refine gf_X7_snapshot (pc := 1) hX dX7_keep_1 hX7 (List.mem_of_getElem? (i := 1) rfl) 0 rfl rfl ?_
  refine w_aload_n (pc := 4) hX dX7_keep_4 rfl rfl ?_
  refine gf_X7_maze (pc := 5) hX dX7_keep_5 hX7 (List.mem_of_getElem? (i := 2) rfl) 0 rfl rfl ?_
  obtain ⟨r1, hr1, hm⟩ := bnd hm
  refine w_calldv (pc := 8) (ws' := wX7 G a m_hasSnapshot ++ wX3 G (a 1) v_o1 ++ wX3 G (a 2) r1) (os := [none, some 5, some 6, some 7, some 8, some 9, some 0, some 1, some 2, some 3, some 4]) 11 hX [6, 7, 8, 9, 10, 1, 2, 3, 4, 5] (runV (rest := []) hX [6, 7, 8, 9, 10, 1, 2, 3, 4, 5] (ctX3_copyFrom G F (a 2) (a 1) v_o2 v_o1 r1 hr1) dX7_keep_8 1 gX7_keep_X3_copyFrom rfl hyX3_copyFrom ⟨Nat.le_of_ble_eq_true rfl, Nat.le_of_ble_eq_true rfl⟩ 6 rfl rfl rfl rfl (Nat.le_of_ble_eq_true rfl) ⟨Nat.le_of_ble_eq_true rfl, Nat.le_of_ble_eq_true rfl⟩ rfl (by decide +kernel)) rfl rfl rfl (by decide +kernel) rfl ⟨rfl, rfl⟩ ?_
  refine w_aload_n (pc := 11) hX dX7_keep_11 rfl rfl ?_
  refine w_iconst (pc := 12) hX dX7_keep_12 ic_1 ?_
  refine pf_X7_hasSnapshot (pc := 13) hX dX7_keep_13 hX7 (List.mem_of_getElem? (i := 3) rfl) 0 rfl rfl hm (fun hm => ?_)
  refine w_aload_n (pc := 16) hX dX7_keep_16 rfl rfl ?_
  refine gf_X7_maze (pc := 17) hX dX7_keep_17 hX7 (List.mem_of_getElem? (i := 2) rfl) 0 rfl rfl ?_
  obtain ⟨r2, hr2, hm⟩ := bnd hm
  refine w_callpi (pc := 20) hX [1, 2, 3, 4, 5] (runV (rest := []) hX [1, 2, 3, 4, 5] (ctX3_passageCount G F (a 1) v_o1 r2 hr2) dX7_keep_20 0 gX7_keep_X3_passageCount rfl hyX3_passageCount ⟨Nat.le_of_ble_eq_true rfl, Nat.le_of_ble_eq_true rfl⟩ 1 rfl rfl rfl rfl (Nat.le_of_ble_eq_true rfl) ⟨Nat.le_of_ble_eq_true rfl, Nat.le_of_ble_eq_true rfl⟩ rfl (by decide +kernel)) rfl ⟨rfl, rfl⟩ ?_
  obtain rfl := som hm
  exact w_iret (pc := 23) hX hR dX7_keep_23 ⟨rfl, rfl⟩

theorem lX7_restore_X7 : ∀ w ∈ wsX70, w ∈ wsX7_restore := in_at [53, 54, 55, 56, 57, 58, 59, 60, 61, 62, 63] (by decide +kernel)
set_option maxHeartbeats 4000000 in
set_option maxRecDepth 100000 in
theorem ctX7_restore (G : gT) (F : Nat) (a : Nat → Nat → Nat) (m_hasSnapshot : Int32) (v_o1 : MZ) (v_o2 : MZ) (v_o3 : HS) (o : (Int32 × MZ × HS)) (hm : mX7_restore F m_hasSnapshot v_o1 v_o2 v_o3 = some o) : CT G yX7_restore wsX7_restore rmX7_restore [.ref (a 0 0)] (wX7 G a m_hasSnapshot ++ wX3 G (a 1) v_o1 ++ wX3 G (a 2) v_o2 ++ wX2 G a v_o3) (fun v w => v = some (.int o.1) ∧ w = wX7 G a m_hasSnapshot ++ wX3 G (a 1) o.2.1 ++ wX3 G (a 2) v_o2 ++ wX2 G a o.2.2) := by
  refine CT_of (cc := cX7_restore) (maxL := 1) (ret := (some .int)) 0 (by decide +kernel) rfl rfl (cat_ok rfl) (fun X hX hR hN => ?_)
  have hX : Ok G X cX7_restore RX7 wsX7_restore 1 rmX7_restore := hX
  have hX7 : ∀ w ∈ wsX70, w ∈ wsX7_restore := lX7_restore_X7
  unfold mX7_restore at hm
  refine w_aload_n (pc := 0) hX dX7_restore_0 rfl rfl ?_
  refine gf_X7_hasSnapshot (pc := 1) hX dX7_restore_1 hX7 (List.mem_of_getElem? (i := 1) rfl) 0 rfl rfl ?_
  refine w_if_ne (pc := 4) (tgt := 10) hX dX7_restore_4 (by decide) hm (fun hm => ?_) (fun hm => ?_)
  ·
    refine w_aload_n (pc := 10) hX dX7_restore_10 rfl rfl ?_
    refine gf_X7_history (pc := 11) hX dX7_restore_11 hX7 (List.mem_of_getElem? (i := 2) rfl) 0 rfl rfl ?_
    refine w_aload_n (pc := 14) hX dX7_restore_14 rfl rfl ?_
    refine gf_X7_maze (pc := 15) hX dX7_restore_15 hX7 (List.mem_of_getElem? (i := 3) rfl) 0 rfl rfl ?_
    obtain ⟨r1, hr1, hm⟩ := bnd hm
    refine w_calldv (pc := 18) (ws' := wX7 G a m_hasSnapshot ++ wX3 G (a 1) v_o1 ++ wX3 G (a 2) v_o2 ++ wX2 G a r1) (os := [none, some 22, some 23, some 24, some 25, some 26, none, none, none, none, none, some 0, some 1, some 2, some 3, some 4, some 5, some 6, some 7, some 8, some 9, some 10, some 11, some 12, some 13, some 14, some 15, some 16, some 17, some 18, some 19, some 20, some 21]) 33 hX [11, 12, 13, 14, 15, 16, 17, 18, 19, 20, 21, 22, 23, 24, 25, 26, 27, 28, 29, 30, 31, 32, 1, 2, 3, 4, 5] (runV (rest := []) hX [11, 12, 13, 14, 15, 16, 17, 18, 19, 20, 21, 22, 23, 24, 25, 26, 27, 28, 29, 30, 31, 32, 1, 2, 3, 4, 5] (ctX2_push G F a (a 1) v_o3 v_o1 r1 hr1) dX7_restore_18 1 gX7_restore_X2_push rfl hyX2_push ⟨Nat.le_of_ble_eq_true rfl, Nat.le_of_ble_eq_true rfl⟩ 11 rfl rfl rfl rfl (Nat.le_of_ble_eq_true rfl) ⟨Nat.le_of_ble_eq_true rfl, Nat.le_of_ble_eq_true rfl⟩ rfl (by decide +kernel)) rfl rfl rfl (by decide +kernel) rfl ⟨rfl, rfl⟩ ?_
    refine w_aload_n (pc := 21) hX dX7_restore_21 rfl rfl ?_
    refine gf_X7_maze (pc := 22) hX dX7_restore_22 hX7 (List.mem_of_getElem? (i := 3) rfl) 0 rfl rfl ?_
    refine w_aload_n (pc := 25) hX dX7_restore_25 rfl rfl ?_
    refine gf_X7_snapshot (pc := 26) hX dX7_restore_26 hX7 (List.mem_of_getElem? (i := 4) rfl) 0 rfl rfl ?_
    obtain ⟨r2, hr2, hm⟩ := bnd hm
    refine w_calldv (pc := 29) (ws' := wX7 G a m_hasSnapshot ++ wX3 G (a 1) r2 ++ wX3 G (a 2) v_o2 ++ wX2 G a r1) (os := [none, some 0, some 1, some 2, some 3, some 4, some 5, some 6, some 7, some 8, some 9, none, none, none, none, none, none, none, none, none, none, none, none, none, none, none, none, none, none, none, none, none, none]) 33 hX [1, 2, 3, 4, 5, 6, 7, 8, 9, 10] (runV (rest := []) hX [1, 2, 3, 4, 5, 6, 7, 8, 9, 10] (ctX3_copyFrom G F (a 1) (a 2) v_o1 v_o2 r2 hr2) dX7_restore_29 1 gX7_restore_X3_copyFrom rfl hyX3_copyFrom ⟨Nat.le_of_ble_eq_true rfl, Nat.le_of_ble_eq_true rfl⟩ 1 rfl rfl rfl rfl (Nat.le_of_ble_eq_true rfl) ⟨Nat.le_of_ble_eq_true rfl, Nat.le_of_ble_eq_true rfl⟩ rfl (by decide +kernel)) rfl rfl rfl (by decide +kernel) rfl ⟨rfl, rfl⟩ ?_
    refine w_aload_n (pc := 32) hX dX7_restore_32 rfl rfl ?_
    refine gf_X7_maze (pc := 33) hX dX7_restore_33 hX7 (List.mem_of_getElem? (i := 3) rfl) 0 rfl rfl ?_
    obtain ⟨r3, hr3, hm⟩ := bnd hm
    refine w_callpi (pc := 36) hX [1, 2, 3, 4, 5] (runV (rest := []) hX [1, 2, 3, 4, 5] (ctX3_passageCount G F (a 1) r2 r3 hr3) dX7_restore_36 0 gX7_restore_X3_passageCount rfl hyX3_passageCount ⟨Nat.le_of_ble_eq_true rfl, Nat.le_of_ble_eq_true rfl⟩ 1 rfl rfl rfl rfl (Nat.le_of_ble_eq_true rfl) ⟨Nat.le_of_ble_eq_true rfl, Nat.le_of_ble_eq_true rfl⟩ rfl (by decide +kernel)) rfl ⟨rfl, rfl⟩ ?_
    obtain rfl := som hm
    exact w_iret (pc := 39) hX hR dX7_restore_39 ⟨rfl, rfl⟩
  ·
    refine w_bipush (pc := 7) hX dX7_restore_7 bp_m2 ?_
    obtain rfl := som hm
    exact w_iret (pc := 9) hX hR dX7_restore_9 ⟨rfl, rfl⟩

theorem lX7_undo_X2 : ∀ w ∈ wsX20, w ∈ wsX7_undo := in_at [40, 41] (by decide +kernel)
theorem lX7_undo_X7 : ∀ w ∈ wsX70, w ∈ wsX7_undo := in_at [29, 30, 31, 32, 33, 34, 35, 36, 37, 38, 39] (by decide +kernel)
set_option maxHeartbeats 4000000 in
set_option maxRecDepth 100000 in
theorem ctX7_undo (G : gT) (F : Nat) (a : Nat → Nat → Nat) (m_hasSnapshot : Int32) (v_o1 : MZ) (v_o3 : HS) (o : (Int32 × MZ × Int32)) (hm : mX7_undo F v_o1 v_o3 = some o) : CT G yX7_undo wsX7_undo rmX7_undo [.ref (a 0 0)] (wX7 G a m_hasSnapshot ++ wX3 G (a 1) v_o1 ++ wX2 G a v_o3) (fun v w => v = some (.int o.1) ∧ w = wX7 G a m_hasSnapshot ++ wX3 G (a 1) o.2.1 ++ wX2 G a (o.2.2, v_o3.2.1, v_o3.2.2)) := by
  refine CT_of (cc := cX7_undo) (maxL := 1) (ret := (some .int)) 0 (by decide +kernel) rfl rfl (cat_ok rfl) (fun X hX hR hN => ?_)
  have hX : Ok G X cX7_undo RX7 wsX7_undo 1 rmX7_undo := hX
  have hX2 : ∀ w ∈ wsX20, w ∈ wsX7_undo := lX7_undo_X2
  have hX7 : ∀ w ∈ wsX70, w ∈ wsX7_undo := lX7_undo_X7
  unfold mX7_undo at hm
  refine w_aload_n (pc := 0) hX dX7_undo_0 rfl rfl ?_
  refine gf_X7_history (pc := 1) hX dX7_undo_1 hX7 (List.mem_of_getElem? (i := 1) rfl) 0 rfl rfl ?_
  refine w_aload_n (pc := 4) hX dX7_undo_4 rfl rfl ?_
  refine gf_X7_maze (pc := 5) hX dX7_undo_5 hX7 (List.mem_of_getElem? (i := 2) rfl) 0 rfl rfl ?_
  obtain ⟨r1, hr1, hm⟩ := bnd hm
  refine w_calldi (pc := 8) (ws' := wX7 G a m_hasSnapshot ++ wX3 G (a 1) r1.2.2 ++ wX2 G a (r1.2.1, v_o3.2.1, v_o3.2.2)) (os := [none, some 22, some 23, some 24, some 25, some 26, some 0, some 1, some 2, some 3, some 4, some 5, some 6, some 7, some 8, some 9, some 10, some 11, some 12, some 13, some 14, some 15, some 16, some 17, some 18, some 19, some 20, some 21]) 28 hX [6, 7, 8, 9, 10, 11, 12, 13, 14, 15, 16, 17, 18, 19, 20, 21, 22, 23, 24, 25, 26, 27, 1, 2, 3, 4, 5] (runV (rest := []) hX [6, 7, 8, 9, 10, 11, 12, 13, 14, 15, 16, 17, 18, 19, 20, 21, 22, 23, 24, 25, 26, 27, 1, 2, 3, 4, 5] (ctX2_pop G F a (a 1) v_o3 v_o1 r1 hr1) dX7_undo_8 1 gX7_undo_X2_pop rfl hyX2_pop ⟨Nat.le_of_ble_eq_true rfl, Nat.le_of_ble_eq_true rfl⟩ 6 rfl rfl rfl rfl (Nat.le_of_ble_eq_true rfl) ⟨Nat.le_of_ble_eq_true rfl, Nat.le_of_ble_eq_true rfl⟩ rfl (by decide +kernel)) rfl rfl rfl (by decide +kernel) rfl ⟨rfl, rfl⟩ ?_
  refine w_if_ne (pc := 11) (tgt := 17) hX dX7_undo_11 (by decide) hm (fun hm => ?_) (fun hm => ?_)
  ·
    refine w_aload_n (pc := 17) hX dX7_undo_17 rfl rfl ?_
    refine gf_X7_history (pc := 18) hX dX7_undo_18 hX7 (List.mem_of_getElem? (i := 1) rfl) 0 rfl rfl ?_
    refine gf_X2_states (pc := 21) hX dX7_undo_21 hX2 (List.mem_of_getElem? (i := 3) rfl) 6 rfl rfl ?_
    obtain rfl := som hm
    exact w_iret (pc := 24) hX hR dX7_undo_24 ⟨rfl, rfl⟩
  ·
    refine w_bipush (pc := 14) hX dX7_undo_14 bp_m2 ?_
    obtain rfl := som hm
    exact w_iret (pc := 16) hX hR dX7_undo_16 ⟨rfl, rfl⟩

theorem lX7_type_X4 : ∀ w ∈ wsX40, w ∈ wsX7_type := in_at [19, 20, 21, 22, 23, 24, 25] (by decide +kernel)
theorem lX7_type_X7 : ∀ w ∈ wsX70, w ∈ wsX7_type := in_at [8, 9, 10, 11, 12, 13, 14, 15, 16, 17, 18] (by decide +kernel)
set_option maxHeartbeats 4000000 in
set_option maxRecDepth 100000 in
theorem ctX7_type (G : gT) (a : Nat → Nat → Nat) (m_hasSnapshot : Int32) (v_o4 : PT) (g1 : Int32) (o : (Int32 × (Int32 × nF))) (hm : mX7_type v_o4 g1 = some o) : CT G yX7_type wsX7_type rmX7_type [.ref (a 0 0), .int g1] (wX7 G a m_hasSnapshot ++ wX4 G (a 4) v_o4) (fun v w => v = some (.int o.1) ∧ w = wX7 G a m_hasSnapshot ++ wX4 G (a 4) (o.2.1, v_o4.2.1, v_o4.2.2.1, o.2.2, v_o4.2.2.2.2.1, v_o4.2.2.2.2.2.1, v_o4.2.2.2.2.2.2)) := by
  refine CT_of (cc := cX7_type) (maxL := 2) (ret := (some .int)) 0 (by decide +kernel) rfl rfl (cat_ok rfl) (fun X hX hR hN => ?_)
  have hX : Ok G X cX7_type RX7 wsX7_type 2 rmX7_type := hX
  have hX4 : ∀ w ∈ wsX40, w ∈ wsX7_type := lX7_type_X4
  have hX7 : ∀ w ∈ wsX70, w ∈ wsX7_type := lX7_type_X7
  unfold mX7_type at hm
  refine w_iload_n (pc := 0) hX dX7_type_0 rfl rfl ?_
  refine w_bipush (pc := 1) hX dX7_type_1 bp_32 ?_
  refine w_jn (T := fun x1 : Unit => WW G X 0 0 (wX7 G a m_hasSnapshot ++ wX4 G (a 4) v_o4) [none, none] 12 []) hm (fun x1 hm => ?_) (fun j2 hj2 hm => ?_)
  ·
    refine w_iconst (pc := 12) hX dX7_type_12 ic_m1 ?_
    obtain rfl := som hm
    exact w_iret (pc := 13) hX hR dX7_type_13 ⟨rfl, rfl⟩
  ·
    refine w_icmp_lt (pc := 3) (tgt := 12) hX dX7_type_3 (by decide) hm (fun hm => ?_) (fun hm => ?_)
    ·
      exact w_lvs [false, false] (hj2 () hm)
    ·
      refine w_iload_n (pc := 6) hX dX7_type_6 rfl rfl ?_
      refine w_bipush (pc := 7) hX dX7_type_7 bp_126 ?_
      refine w_icmp_le (pc := 9) (tgt := 14) hX dX7_type_9 (by decide) hm (fun hm => ?_) (fun hm => ?_)
      ·
        refine w_aload_n (pc := 14) hX dX7_type_14 rfl rfl ?_
        refine gf_X7_text (pc := 15) hX dX7_type_15 hX7 (List.mem_of_getElem? (i := 1) rfl) 0 rfl rfl ?_
        refine gf_X4_length (pc := 18) hX dX7_type_18 hX4 (List.mem_of_getElem? (i := 2) rfl) 1 rfl rfl ?_
        refine w_bipush (pc := 21) hX dX7_type_21 bp_60 ?_
        refine w_icmp_lt (pc := 23) (tgt := 29) hX dX7_type_23 (by decide) hm (fun hm => ?_) (fun hm => ?_)
        ·
          refine w_aload_n (pc := 29) hX dX7_type_29 rfl rfl ?_
          refine gf_X7_text (pc := 30) hX dX7_type_30 hX7 (List.mem_of_getElem? (i := 1) rfl) 0 rfl rfl ?_
          refine gf_X4_characters (pc := 33) hX dX7_type_33 hX4 (List.mem_of_getElem? (i := 3) rfl) 1 rfl rfl ?_
          refine w_aload_n (pc := 36) hX dX7_type_36 rfl rfl ?_
          refine gf_X7_text (pc := 37) hX dX7_type_37 hX7 (List.mem_of_getElem? (i := 1) rfl) 0 rfl rfl ?_
          refine gf_X4_length (pc := 40) hX dX7_type_40 hX4 (List.mem_of_getElem? (i := 2) rfl) 1 rfl rfl ?_
          refine w_iload_n (pc := 43) hX dX7_type_43 rfl rfl ?_
          obtain ⟨r3, hr3, hm⟩ := bnd hm
          refine w_calldv (pc := 44) (ws' := wX7 G a m_hasSnapshot ++ wX4 G (a 4) (v_o4.1, v_o4.2.1, v_o4.2.2.1, r3, v_o4.2.2.2.2.1, v_o4.2.2.2.2.2.1, v_o4.2.2.2.2.2.2)) (os := [none, none, some 0]) 3 hX [2] (runS (rest := []) hX [2] (ctX7_put G (a 4 1) 60 v_o4.2.2.2.1 v_o4.1 g1 r3 hr3) dX7_type_44 3 gX7_type_X7_put rfl hyX7_put.2 ⟨Nat.le_of_ble_eq_true rfl, Nat.le_of_ble_eq_true rfl⟩ rfl rfl (Nat.le_of_ble_eq_true rfl) ⟨Nat.le_of_ble_eq_true rfl, Nat.le_of_ble_eq_true rfl⟩ rfl (by decide +kernel)) rfl rfl rfl (by decide +kernel) rfl ⟨rfl, rfl⟩ ?_
          refine w_aload_n (pc := 47) hX dX7_type_47 rfl rfl ?_
          refine gf_X7_text (pc := 48) hX dX7_type_48 hX7 (List.mem_of_getElem? (i := 1) rfl) 0 rfl rfl ?_
          refine w_dup (pc := 51) hX dX7_type_51 rfl ?_
          refine gf_X4_length (pc := 52) hX dX7_type_52 hX4 (List.mem_of_getElem? (i := 2) rfl) 1 rfl rfl ?_
          refine w_iconst (pc := 55) hX dX7_type_55 ic_1 ?_
          refine w_iadd (pc := 56) hX dX7_type_56 ?_
          refine pf_X4_length (pc := 57) hX dX7_type_57 hX4 (List.mem_of_getElem? (i := 2) rfl) 1 rfl rfl ?_
          refine w_aload_n (pc := 60) hX dX7_type_60 rfl rfl ?_
          refine gf_X7_text (pc := 61) hX dX7_type_61 hX7 (List.mem_of_getElem? (i := 1) rfl) 0 rfl rfl ?_
          refine gf_X4_length (pc := 64) hX dX7_type_64 hX4 (List.mem_of_getElem? (i := 2) rfl) 1 rfl rfl ?_
          obtain rfl := som hm
          exact w_iret (pc := 67) hX hR dX7_type_67 ⟨rfl, rfl⟩
        ·
          refine w_bipush (pc := 26) hX dX7_type_26 bp_m3 ?_
          obtain rfl := som hm
          exact w_iret (pc := 28) hX hR dX7_type_28 ⟨rfl, rfl⟩
      ·
        exact w_lvs [false, false] (hj2 () hm)

theorem lX7_clearText_X4 : ∀ w ∈ wsX40, w ∈ wsX7_clearText := in_at [14, 15, 16, 17, 18, 19, 20] (by decide +kernel)
theorem lX7_clearText_X7 : ∀ w ∈ wsX70, w ∈ wsX7_clearText := in_at [3, 4, 5, 6, 7, 8, 9, 10, 11, 12, 13] (by decide +kernel)
set_option maxHeartbeats 4000000 in
set_option maxRecDepth 100000 in
theorem ctX7_clearText (G : gT) (a : Nat → Nat → Nat) (m_hasSnapshot : Int32) (v_o4 : PT) (o : (Int32 × Int32)) (hm : mX7_clearText v_o4 = some o) : CT G yX7_clearText wsX7_clearText rmX7_clearText [.ref (a 0 0)] (wX7 G a m_hasSnapshot ++ wX4 G (a 4) v_o4) (fun v w => v = some (.int o.1) ∧ w = wX7 G a m_hasSnapshot ++ wX4 G (a 4) (o.2, v_o4.2.1, v_o4.2.2.1, v_o4.2.2.2.1, v_o4.2.2.2.2.1, v_o4.2.2.2.2.2.1, v_o4.2.2.2.2.2.2)) := by
  refine CT_of (cc := cX7_clearText) (maxL := 2) (ret := (some .int)) 1 (by decide +kernel) rfl rfl (cat_ok rfl) (fun X hX hR hN => ?_)
  have hX : Ok G X cX7_clearText RX7 wsX7_clearText 2 rmX7_clearText := hX
  have hX4 : ∀ w ∈ wsX40, w ∈ wsX7_clearText := lX7_clearText_X4
  have hX7 : ∀ w ∈ wsX70, w ∈ wsX7_clearText := lX7_clearText_X7
  unfold mX7_clearText at hm
  refine w_aload_n (pc := 0) hX dX7_clearText_0 rfl rfl ?_
  refine gf_X7_text (pc := 1) hX dX7_clearText_1 hX7 (List.mem_of_getElem? (i := 1) rfl) 0 rfl rfl ?_
  refine gf_X4_length (pc := 4) hX dX7_clearText_4 hX4 (List.mem_of_getElem? (i := 2) rfl) 1 rfl rfl ?_
  refine w_istore_n (pc := 7) hX dX7_clearText_7 rfl (Nat.le_of_ble_eq_true rfl) ?_
  refine w_aload_n (pc := 8) hX dX7_clearText_8 rfl rfl ?_
  refine gf_X7_text (pc := 9) hX dX7_clearText_9 hX7 (List.mem_of_getElem? (i := 1) rfl) 0 rfl rfl ?_
  refine w_iconst (pc := 12) hX dX7_clearText_12 ic_0 ?_
  refine pf_X4_length (pc := 13) hX dX7_clearText_13 hX4 (List.mem_of_getElem? (i := 2) rfl) 1 rfl rfl ?_
  refine w_iload_n (pc := 16) hX dX7_clearText_16 rfl rfl ?_
  obtain rfl := som hm
  exact w_iret (pc := 17) hX hR dX7_clearText_17 ⟨rfl, rfl⟩

theorem lX7_fault_X4 : ∀ w ∈ wsX40, w ∈ wsX7_fault := in_at [54, 55, 56, 57, 58, 59, 60] (by decide +kernel)
theorem lX7_fault_X7 : ∀ w ∈ wsX70, w ∈ wsX7_fault := in_at [43, 44, 45, 46, 47, 48, 49, 50, 51, 52, 53] (by decide +kernel)
set_option maxHeartbeats 4000000 in
set_option maxRecDepth 100000 in
theorem ctX7_fault (G : gT) (F : Nat) (a : Nat → Nat → Nat) (m_hasSnapshot : Int32) (v_o4 : PT) (g1 : Int32) (o : (Int32 × (Int32 × Int32 × Int32 × Int32 × Int32))) (hm : mX7_fault F v_o4 g1 = some o) : CT G yX7_fault wsX7_fault rmX7_fault [.ref (a 0 0), .int g1] (wX7 G a m_hasSnapshot ++ wX4 G (a 4) v_o4) (fun v w => v = some (.int o.1) ∧ w = wX7 G a m_hasSnapshot ++ wX4 G (a 4) (v_o4.1, o.2.1, o.2.2.1, v_o4.2.2.2.1, o.2.2.2.1, o.2.2.2.2.1, o.2.2.2.2.2)) := by
  refine CT_of (cc := cX7_fault) (maxL := 2) (ret := (some .int)) 0 (by decide +kernel) rfl rfl (cat_ok rfl) (fun X hX hR hN => ?_)
  have hX : Ok G X cX7_fault RX7 wsX7_fault 2 rmX7_fault := hX
  have hX4 : ∀ w ∈ wsX40, w ∈ wsX7_fault := lX7_fault_X4
  have hX7 : ∀ w ∈ wsX70, w ∈ wsX7_fault := lX7_fault_X7
  unfold mX7_fault at hm
  refine w_iload_n (pc := 0) hX dX7_fault_0 rfl rfl ?_
  refine w_jn (T := fun x1 : Unit => WW G X 0 0 (wX7 G a m_hasSnapshot ++ wX4 G (a 4) v_o4) [none, none] 9 []) hm (fun x1 hm => ?_) (fun j2 hj2 hm => ?_)
  ·
    refine w_iconst (pc := 9) hX dX7_fault_9 ic_m1 ?_
    obtain rfl := som hm
    exact w_iret (pc := 10) hX hR dX7_fault_10 ⟨rfl, rfl⟩
  ·
    refine w_if_lt (pc := 1) (tgt := 9) hX dX7_fault_1 (by decide) hm (fun hm => ?_) (fun hm => ?_)
    ·
      exact w_lvs [false, false] (hj2 () hm)
    ·
      refine w_iload_n (pc := 4) hX dX7_fault_4 rfl rfl ?_
      refine w_iconst (pc := 5) hX dX7_fault_5 ic_1 ?_
      refine w_icmp_le (pc := 6) (tgt := 11) hX dX7_fault_6 (by decide) hm (fun hm => ?_) (fun hm => ?_)
      ·
        refine w_aload_n (pc := 11) hX dX7_fault_11 rfl rfl ?_
        refine gf_X7_text (pc := 12) hX dX7_fault_12 hX7 (List.mem_of_getElem? (i := 1) rfl) 0 rfl rfl ?_
        obtain ⟨r3, hr3, hm⟩ := bnd hm
        refine w_calldv (pc := 15) (ws' := wX7 G a m_hasSnapshot ++ wX4 G (a 4) (v_o4.1, r3.1, r3.2.1, v_o4.2.2.2.1, r3.2.2.1, r3.2.2.2.1, r3.2.2.2.2)) (os := [none, some 0, some 1]) 3 hX [1, 2] (runV (rest := []) hX [1, 2] (ctX4_look G F (a 4) v_o4 r3 hr3) dX7_fault_15 0 gX7_fault_X4_look rfl hyX4_look ⟨Nat.le_of_ble_eq_true rfl, Nat.le_of_ble_eq_true rfl⟩ 1 rfl rfl rfl rfl (Nat.le_of_ble_eq_true rfl) ⟨Nat.le_of_ble_eq_true rfl, Nat.le_of_ble_eq_true rfl⟩ rfl (by decide +kernel)) rfl rfl rfl (by decide +kernel) rfl ⟨rfl, rfl⟩ ?_
        refine w_aload_n (pc := 18) hX dX7_fault_18 rfl rfl ?_
        refine gf_X7_text (pc := 19) hX dX7_fault_19 hX7 (List.mem_of_getElem? (i := 1) rfl) 0 rfl rfl ?_
        refine gf_X4_reason (pc := 22) hX dX7_fault_22 hX4 (List.mem_of_getElem? (i := 2) rfl) 1 rfl rfl ?_
        refine w_if_ne (pc := 25) (tgt := 31) hX dX7_fault_25 (by decide) hm (fun hm => ?_) (fun hm => ?_)
        ·
          refine w_iload_n (pc := 31) hX dX7_fault_31 rfl rfl ?_
          refine w_jn (T := fun x4 : Int32 => WW G X 0 0 (wX7 G a m_hasSnapshot ++ wX4 G (a 4) (v_o4.1, r3.1, r3.2.1, v_o4.2.2.2.1, r3.2.2.1, r3.2.2.2.1, r3.2.2.2.2)) [none, none] 52 [.int x4]) hm (fun x4 hm => ?_) (fun j5 hj5 hm => ?_)
          ·
            obtain rfl := som hm
            exact w_iret (pc := 52) hX hR dX7_fault_52 ⟨rfl, rfl⟩
          ·
            refine w_if_ne (pc := 32) (tgt := 45) hX dX7_fault_32 (by decide) hm (fun hm => ?_) (fun hm => ?_)
            ·
              refine w_aload_n (pc := 45) hX dX7_fault_45 rfl rfl ?_
              refine gf_X7_text (pc := 46) hX dX7_fault_46 hX7 (List.mem_of_getElem? (i := 1) rfl) 0 rfl rfl ?_
              refine gf_X4_reason (pc := 49) hX dX7_fault_49 hX4 (List.mem_of_getElem? (i := 2) rfl) 1 rfl rfl ?_
              exact w_lvs [false, false] (hj5 r3.2.1 hm)
            ·
              refine w_aload_n (pc := 35) hX dX7_fault_35 rfl rfl ?_
              refine gf_X7_text (pc := 36) hX dX7_fault_36 hX7 (List.mem_of_getElem? (i := 1) rfl) 0 rfl rfl ?_
              refine gf_X4_place (pc := 39) hX dX7_fault_39 hX4 (List.mem_of_getElem? (i := 3) rfl) 1 rfl rfl ?_
              refine w_goto (pc := 42) (tgt := 52) hX dX7_fault_42 (by decide) ?_
              exact w_lvs [false, false] (hj5 r3.1 hm)
        ·
          refine w_bipush (pc := 28) hX dX7_fault_28 bp_m4 ?_
          obtain rfl := som hm
          exact w_iret (pc := 30) hX hR dX7_fault_30 ⟨rfl, rfl⟩
      ·
        exact w_lvs [false, false] (hj2 () hm)

theorem lX7_read_X4 : ∀ w ∈ wsX40, w ∈ wsX7_read := in_at [104, 105, 106, 107, 108, 109, 110] (by decide +kernel)
theorem lX7_read_X7 : ∀ w ∈ wsX70, w ∈ wsX7_read := in_at [93, 94, 95, 96, 97, 98, 99, 100, 101, 102, 103] (by decide +kernel)
set_option maxHeartbeats 4000000 in
set_option maxRecDepth 100000 in
theorem ctX7_read (G : gT) (F : Nat) (a : Nat → Nat → Nat) (m_hasSnapshot : Int32) (v_o1 : MZ) (v_o3 : HS) (v_o4 : PT) (o : (Int32 × MZ × HS × (Int32 × Int32 × Int32 × Int32 × Int32))) (hm : mX7_read F v_o1 v_o3 v_o4 = some o) : CT G yX7_read wsX7_read rmX7_read [.ref (a 0 0)] (wX7 G a m_hasSnapshot ++ wX3 G (a 1) v_o1 ++ wX2 G a v_o3 ++ wX4 G (a 4) v_o4) (fun v w => v = some (.int o.1) ∧ w = wX7 G a m_hasSnapshot ++ wX3 G (a 1) o.2.1 ++ wX2 G a o.2.2.1 ++ wX4 G (a 4) (v_o4.1, o.2.2.2.1, o.2.2.2.2.1, v_o4.2.2.2.1, o.2.2.2.2.2.1, o.2.2.2.2.2.2.1, o.2.2.2.2.2.2.2)) := by
  refine CT_of (cc := cX7_read) (maxL := 1) (ret := (some .int)) 0 (by decide +kernel) rfl rfl (cat_ok rfl) (fun X hX hR hN => ?_)
  have hX : Ok G X cX7_read RX7 wsX7_read 1 rmX7_read := hX
  have hX4 : ∀ w ∈ wsX40, w ∈ wsX7_read := lX7_read_X4
  have hX7 : ∀ w ∈ wsX70, w ∈ wsX7_read := lX7_read_X7
  unfold mX7_read at hm
  refine w_aload_n (pc := 0) hX dX7_read_0 rfl rfl ?_
  refine gf_X7_text (pc := 1) hX dX7_read_1 hX7 (List.mem_of_getElem? (i := 1) rfl) 0 rfl rfl ?_
  obtain ⟨r1, hr1, hm⟩ := bnd hm
  refine w_calldv (pc := 4) (ws' := wX7 G a m_hasSnapshot ++ wX3 G (a 1) v_o1 ++ wX2 G a v_o3 ++ wX4 G (a 4) (v_o4.1, r1.1, r1.2.1, v_o4.2.2.2.1, r1.2.2.1, r1.2.2.2.1, r1.2.2.2.2)) (os := [none, none, none, none, none, none, none, none, none, none, none, none, none, none, none, none, none, none, none, none, none, none, none, none, none, none, none, none, some 0, some 1]) 30 hX [28, 29] (runV (rest := []) hX [28, 29] (ctX4_look G F (a 4) v_o4 r1 hr1) dX7_read_4 0 gX7_read_X4_look rfl hyX4_look ⟨Nat.le_of_ble_eq_true rfl, Nat.le_of_ble_eq_true rfl⟩ 28 rfl rfl rfl rfl (Nat.le_of_ble_eq_true rfl) ⟨Nat.le_of_ble_eq_true rfl, Nat.le_of_ble_eq_true rfl⟩ rfl (by decide +kernel)) rfl rfl rfl (by decide +kernel) rfl ⟨rfl, rfl⟩ ?_
  refine w_aload_n (pc := 7) hX dX7_read_7 rfl rfl ?_
  refine gf_X7_text (pc := 8) hX dX7_read_8 hX7 (List.mem_of_getElem? (i := 1) rfl) 0 rfl rfl ?_
  refine gf_X4_reason (pc := 11) hX dX7_read_11 hX4 (List.mem_of_getElem? (i := 2) rfl) 28 rfl rfl ?_
  refine w_if_eq (pc := 14) (tgt := 20) hX dX7_read_14 (by decide) hm (fun hm => ?_) (fun hm => ?_)
  ·
    refine w_aload_n (pc := 20) hX dX7_read_20 rfl rfl ?_
    refine gf_X7_history (pc := 21) hX dX7_read_21 hX7 (List.mem_of_getElem? (i := 3) rfl) 0 rfl rfl ?_
    refine w_aload_n (pc := 24) hX dX7_read_24 rfl rfl ?_
    refine gf_X7_maze (pc := 25) hX dX7_read_25 hX7 (List.mem_of_getElem? (i := 4) rfl) 0 rfl rfl ?_
    obtain ⟨r2, hr2, hm⟩ := bnd hm
    refine w_calldv (pc := 28) (ws' := wX7 G a m_hasSnapshot ++ wX3 G (a 1) v_o1 ++ wX2 G a r2 ++ wX4 G (a 4) (v_o4.1, r1.1, r1.2.1, v_o4.2.2.2.1, r1.2.2.1, r1.2.2.2.1, r1.2.2.2.2)) (os := [none, some 22, some 23, some 24, some 25, some 26, some 0, some 1, some 2, some 3, some 4, some 5, some 6, some 7, some 8, some 9, some 10, some 11, some 12, some 13, some 14, some 15, some 16, some 17, some 18, some 19, some 20, some 21, none, none]) 30 hX [6, 7, 8, 9, 10, 11, 12, 13, 14, 15, 16, 17, 18, 19, 20, 21, 22, 23, 24, 25, 26, 27, 1, 2, 3, 4, 5] (runV (rest := []) hX [6, 7, 8, 9, 10, 11, 12, 13, 14, 15, 16, 17, 18, 19, 20, 21, 22, 23, 24, 25, 26, 27, 1, 2, 3, 4, 5] (ctX2_push G F a (a 1) v_o3 v_o1 r2 hr2) dX7_read_28 1 gX7_read_X2_push rfl hyX2_push ⟨Nat.le_of_ble_eq_true rfl, Nat.le_of_ble_eq_true rfl⟩ 6 rfl rfl rfl rfl (Nat.le_of_ble_eq_true rfl) ⟨Nat.le_of_ble_eq_true rfl, Nat.le_of_ble_eq_true rfl⟩ rfl (by decide +kernel)) rfl rfl rfl (by decide +kernel) rfl ⟨rfl, rfl⟩ ?_
    refine w_aload_n (pc := 31) hX dX7_read_31 rfl rfl ?_
    refine gf_X7_text (pc := 32) hX dX7_read_32 hX7 (List.mem_of_getElem? (i := 1) rfl) 0 rfl rfl ?_
    refine w_aload_n (pc := 35) hX dX7_read_35 rfl rfl ?_
    refine gf_X7_maze (pc := 36) hX dX7_read_36 hX7 (List.mem_of_getElem? (i := 4) rfl) 0 rfl rfl ?_
    obtain ⟨r3, hr3, hm⟩ := bnd hm
    refine w_calldv (pc := 39) (ws' := wX7 G a m_hasSnapshot ++ wX3 G (a 1) r3 ++ wX2 G a r2 ++ wX4 G (a 4) (v_o4.1, r1.1, r1.2.1, v_o4.2.2.2.1, r1.2.2.1, r1.2.2.2.1, r1.2.2.2.2)) (os := [none, some 2, some 3, some 4, some 5, some 6, none, none, none, none, none, none, none, none, none, none, none, none, none, none, none, none, none, none, none, none, none, none, some 0, some 1]) 30 hX [28, 29, 1, 2, 3, 4, 5] (runV (rest := []) hX [28, 29, 1, 2, 3, 4, 5] (ctX4_paint G F (a 4) (a 1) (v_o4.1, r1.1, r1.2.1, v_o4.2.2.2.1, r1.2.2.1, r1.2.2.2.1, r1.2.2.2.2) v_o1 r3 hr3) dX7_read_39 1 gX7_read_X4_paint rfl hyX4_paint ⟨Nat.le_of_ble_eq_true rfl, Nat.le_of_ble_eq_true rfl⟩ 28 rfl rfl rfl rfl (Nat.le_of_ble_eq_true rfl) ⟨Nat.le_of_ble_eq_true rfl, Nat.le_of_ble_eq_true rfl⟩ rfl (by decide +kernel)) rfl rfl rfl (by decide +kernel) rfl ⟨rfl, rfl⟩ ?_
    refine w_aload_n (pc := 42) hX dX7_read_42 rfl rfl ?_
    refine gf_X7_maze (pc := 43) hX dX7_read_43 hX7 (List.mem_of_getElem? (i := 4) rfl) 0 rfl rfl ?_
    obtain ⟨r4, hr4, hm⟩ := bnd hm
    refine w_callpi (pc := 46) hX [1, 2, 3, 4, 5] (runV (rest := []) hX [1, 2, 3, 4, 5] (ctX3_cells G (a 1) r3 r4 hr4) dX7_read_46 0 gX7_read_X3_cells rfl hyX3_cells ⟨Nat.le_of_ble_eq_true rfl, Nat.le_of_ble_eq_true rfl⟩ 1 rfl rfl rfl rfl (Nat.le_of_ble_eq_true rfl) ⟨Nat.le_of_ble_eq_true rfl, Nat.le_of_ble_eq_true rfl⟩ rfl (by decide +kernel)) rfl ⟨rfl, rfl⟩ ?_
    obtain rfl := som hm
    exact w_iret (pc := 49) hX hR dX7_read_49 ⟨rfl, rfl⟩
  ·
    refine w_bipush (pc := 17) hX dX7_read_17 bp_m2 ?_
    obtain rfl := som hm
    exact w_iret (pc := 19) hX hR dX7_read_19 ⟨rfl, rfl⟩
