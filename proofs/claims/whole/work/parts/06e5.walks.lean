/-! WALKS, printed by wip/whole/gen.py -/
theorem lX8_cellOf_X8 : ∀ w ∈ wsX80, w ∈ wsX8_cellOf := in_at [61, 62, 63, 64, 65, 66, 67, 68, 69, 70, 71, 72, 73, 74, 75, 76, 77, 78, 79, 80, 81, 82, 83, 84] (by decide +kernel)
set_option maxHeartbeats 4000000 in
set_option maxRecDepth 100000 in
theorem ctX8_cellOf (G : gT) (F : Nat) (a_t : Nat → Nat) (m_s : nF) (m_begun : nF) (m_kept : nF) (m_isKept : Int32) (m_past : nF) (m_states : Int32) (m_text : nF) (m_length : Int32) (m_far : nF) (m_queue : nF) (m_isOn : nF) (m_steps : nF) (m_wayCells : Int32) (m_turns : Int32) (m_visits : nF) (m_wasSo : nF) (m_bestAway : Int32) (m_bestMade : Int32) (m_bestFault : Int32) (m_isHere : nF) (m_place : Int32) (m_reason : Int32) (m_wide : Int32) (m_high : Int32) (g1 : Int32) (g2 : Int32) (o : (Int32 × nF × nF × nF × nF × Int32 × Int32 × nF × nF)) (hm : mX8_cellOf F m_s m_far m_queue m_isOn m_steps m_wayCells m_turns m_visits m_wasSo g1 g2 = some o) : CT G yX8_cellOf wsX8_cellOf rmX8_cellOf [.ref (a_t 0), .int g1, .int g2] (wX8 G a_t m_s m_begun m_kept m_isKept m_past m_states m_text m_length m_far m_queue m_isOn m_steps m_wayCells m_turns m_visits m_wasSo m_bestAway m_bestMade m_bestFault m_isHere m_place m_reason m_wide m_high) (fun v w => v = some (.int o.1) ∧ w = wX8 G a_t m_s m_begun m_kept m_isKept m_past m_states m_text m_length o.2.1 o.2.2.1 o.2.2.2.1 o.2.2.2.2.1 o.2.2.2.2.2.1 o.2.2.2.2.2.2.1 o.2.2.2.2.2.2.2.1 o.2.2.2.2.2.2.2.2 m_bestAway m_bestMade m_bestFault m_isHere m_place m_reason m_wide m_high) := by
  refine CT_of (cc := cX8_cellOf) (maxL := 3) (ret := (some .int)) 0 (by decide +kernel) rfl rfl (cat_ok rfl) (fun X hX hR hN => ?_)
  have hX : Ok G X cX8_cellOf RX8 wsX8_cellOf 3 rmX8_cellOf := hX
  have hX8 : ∀ w ∈ wsX80, w ∈ wsX8_cellOf := lX8_cellOf_X8
  unfold mX8_cellOf at hm
  refine w_aload_n (pc := 0) hX dX8_cellOf_0 rfl rfl ?_
  refine w_iload_n (pc := 1) hX dX8_cellOf_1 rfl rfl ?_
  obtain ⟨r1, hr1, hm⟩ := bnd hm
  refine w_callpi (pc := 2) hX [0, 1, 2, 3, 4, 5, 6, 7, 8, 9, 10, 11, 12] (runV (rest := []) hX [0, 1, 2, 3, 4, 5, 6, 7, 8, 9, 10, 11, 12] (ctX8_isCell G a_t m_s m_begun m_kept m_isKept m_past m_states m_text m_length m_far m_queue m_isOn m_steps m_wayCells m_turns m_visits m_wasSo m_bestAway m_bestMade m_bestFault m_isHere m_place m_reason m_wide m_high g1 r1 hr1) dX8_cellOf_2 1 gX8_cellOf_X8_isCell rfl hyX8_isCell ⟨Nat.le_of_ble_eq_true rfl, Nat.le_of_ble_eq_true rfl⟩ 0 rfl rfl rfl rfl (Nat.le_of_ble_eq_true rfl) ⟨Nat.le_of_ble_eq_true rfl, Nat.le_of_ble_eq_true rfl⟩ rfl (by decide +kernel)) rfl ⟨rfl, rfl⟩ ?_
  refine w_jn (T := fun x2 : Unit => WW G X 0 0 (wX8 G a_t m_s m_begun m_kept m_isKept m_past m_states m_text m_length m_far m_queue m_isOn m_steps m_wayCells m_turns m_visits m_wasSo m_bestAway m_bestMade m_bestFault m_isHere m_place m_reason m_wide m_high) [none, none, none] 18 []) hm (fun x2 hm => ?_) (fun j3 hj3 hm => ?_)
  ·
    refine w_iconst (pc := 18) hX dX8_cellOf_18 ic_m1 ?_
    obtain rfl := som hm
    exact w_iret (pc := 19) hX hR dX8_cellOf_19 ⟨rfl, rfl⟩
  ·
    refine w_if_eq (pc := 5) (tgt := 18) hX dX8_cellOf_5 (by decide) hm (fun hm => ?_) (fun hm => ?_)
    ·
      exact w_lvs [false, false, false] (hj3 () hm)
    ·
      refine w_iload_n (pc := 8) hX dX8_cellOf_8 rfl rfl ?_
      refine w_iconst (pc := 9) hX dX8_cellOf_9 ic_0 ?_
      refine w_bipush (pc := 10) hX dX8_cellOf_10 bp_6 ?_
      obtain ⟨r4, hr4, hm⟩ := bnd hm
      refine w_callpi (pc := 12) hX [] (runS (rest := []) hX [] (ctX8_in G g2 (0 : Int32) (6 : Int32) r4 hr4) dX8_cellOf_12 3 gX8_cellOf_X8_in rfl hyX8_in.2 ⟨Nat.le_of_ble_eq_true rfl, Nat.le_of_ble_eq_true rfl⟩ rfl rfl (Nat.le_of_ble_eq_true rfl) ⟨Nat.le_of_ble_eq_true rfl, Nat.le_of_ble_eq_true rfl⟩ rfl (by decide +kernel)) rfl ⟨rfl, rfl⟩ ?_
      refine w_if_ne (pc := 15) (tgt := 20) hX dX8_cellOf_15 (by decide) hm (fun hm => ?_) (fun hm => ?_)
      ·
        refine w_iload_n (pc := 20) hX dX8_cellOf_20 rfl rfl ?_
        rcases Decidable.em (g2 = (0 : Int32)) with hc5 | hc5
        ·
          replace hm := ite_t hm hc5
          refine w_tabIn (pc := 21) (tgt := 60) hX dX8_cellOf_21 0 (by rw [hc5]; decide) (by decide) (by decide) rfl (by decide) ?_
          refine w_aload_n (pc := 60) hX dX8_cellOf_60 rfl rfl ?_
          refine gf_X8_s (pc := 61) hX dX8_cellOf_61 hX8 (List.mem_of_getElem? (i := 1) rfl) 0 rfl rfl ?_
          refine w_bipush (pc := 64) hX dX8_cellOf_64 bp_6 ?_
          refine w_iload_n (pc := 66) hX dX8_cellOf_66 rfl rfl ?_
          refine w_iadd (pc := 67) hX dX8_cellOf_67 ?_
          refine w_iald (pc := 68) hX dX8_cellOf_68 1 rfl hm (fun hm => ?_)
          obtain rfl := som hm
          exact w_iret (pc := 69) hX hR dX8_cellOf_69 ⟨rfl, rfl⟩
        ·
          replace hm := ite_f hm hc5
          rcases Decidable.em (g2 = (1 : Int32)) with hc6 | hc6
          ·
            replace hm := ite_t hm hc6
            refine w_tabIn (pc := 21) (tgt := 70) hX dX8_cellOf_21 1 (by rw [hc6]; decide) (by decide) (by decide) rfl (by decide) ?_
            refine w_aload_n (pc := 70) hX dX8_cellOf_70 rfl rfl ?_
            refine w_iload_n (pc := 71) hX dX8_cellOf_71 rfl rfl ?_
            obtain ⟨r7, hr7, hm⟩ := bnd hm
            refine w_callpi (pc := 72) hX [0, 1, 2, 3, 4, 5, 6, 7, 8, 9, 10, 11, 12] (runV (rest := []) hX [0, 1, 2, 3, 4, 5, 6, 7, 8, 9, 10, 11, 12] (ctX8_directions G F a_t m_s m_begun m_kept m_isKept m_past m_states m_text m_length m_far m_queue m_isOn m_steps m_wayCells m_turns m_visits m_wasSo m_bestAway m_bestMade m_bestFault m_isHere m_place m_reason m_wide m_high g1 r7 hr7) dX8_cellOf_72 1 gX8_cellOf_X8_directions rfl hyX8_directions ⟨Nat.le_of_ble_eq_true rfl, Nat.le_of_ble_eq_true rfl⟩ 0 rfl rfl rfl rfl (Nat.le_of_ble_eq_true rfl) ⟨Nat.le_of_ble_eq_true rfl, Nat.le_of_ble_eq_true rfl⟩ rfl (by decide +kernel)) rfl ⟨rfl, rfl⟩ ?_
            obtain rfl := som hm
            exact w_iret (pc := 75) hX hR dX8_cellOf_75 ⟨rfl, rfl⟩
          ·
            replace hm := ite_f hm hc6
            rcases Decidable.em (g2 = (2 : Int32)) with hc8 | hc8
            ·
              replace hm := ite_t hm hc8
              refine w_tabIn (pc := 21) (tgt := 76) hX dX8_cellOf_21 2 (by rw [hc8]; decide) (by decide) (by decide) rfl (by decide) ?_
              refine w_aload_n (pc := 76) hX dX8_cellOf_76 rfl rfl ?_
              refine w_iload_n (pc := 77) hX dX8_cellOf_77 rfl rfl ?_
              refine w_iconst (pc := 78) hX dX8_cellOf_78 ic_1 ?_
              obtain ⟨r9, hr9, hm⟩ := bnd hm
              refine w_calldi (pc := 79) (ws' := wX8 G a_t m_s m_begun m_kept m_isKept m_past m_states m_text m_length r9.2.1 r9.2.2 m_isOn m_steps m_wayCells m_turns m_visits m_wasSo m_bestAway m_bestMade m_bestFault m_isHere m_place m_reason m_wide m_high) (os := [some 0, some 1, some 2, some 3, some 4, some 5, some 6, some 7, some 8, some 9, some 10, some 11, some 12]) 13 hX [0, 1, 2, 3, 4, 5, 6, 7, 8, 9, 10, 11, 12] (runV (rest := []) hX [0, 1, 2, 3, 4, 5, 6, 7, 8, 9, 10, 11, 12] (ctX8_partOf G F a_t m_s m_begun m_kept m_isKept m_past m_states m_text m_length m_far m_queue m_isOn m_steps m_wayCells m_turns m_visits m_wasSo m_bestAway m_bestMade m_bestFault m_isHere m_place m_reason m_wide m_high g1 (1 : Int32) r9 hr9) dX8_cellOf_79 2 gX8_cellOf_X8_partOf rfl hyX8_partOf ⟨Nat.le_of_ble_eq_true rfl, Nat.le_of_ble_eq_true rfl⟩ 0 rfl rfl rfl rfl (Nat.le_of_ble_eq_true rfl) ⟨Nat.le_of_ble_eq_true rfl, Nat.le_of_ble_eq_true rfl⟩ rfl (by decide +kernel)) rfl rfl rfl (by decide +kernel) rfl ⟨rfl, rfl⟩ ?_
              obtain rfl := som hm
              exact w_iret (pc := 82) hX hR dX8_cellOf_82 ⟨rfl, rfl⟩
            ·
              replace hm := ite_f hm hc8
              rcases Decidable.em (g2 = (3 : Int32)) with hc10 | hc10
              ·
                replace hm := ite_t hm hc10
                refine w_tabIn (pc := 21) (tgt := 83) hX dX8_cellOf_21 3 (by rw [hc10]; decide) (by decide) (by decide) rfl (by decide) ?_
                refine w_aload_n (pc := 83) hX dX8_cellOf_83 rfl rfl ?_
                refine w_iload_n (pc := 84) hX dX8_cellOf_84 rfl rfl ?_
                refine w_iconst (pc := 85) hX dX8_cellOf_85 ic_0 ?_
                obtain ⟨r11, hr11, hm⟩ := bnd hm
                refine w_calldi (pc := 86) (ws' := wX8 G a_t m_s m_begun m_kept m_isKept m_past m_states m_text m_length r11.2.1 r11.2.2 m_isOn m_steps m_wayCells m_turns m_visits m_wasSo m_bestAway m_bestMade m_bestFault m_isHere m_place m_reason m_wide m_high) (os := [some 0, some 1, some 2, some 3, some 4, some 5, some 6, some 7, some 8, some 9, some 10, some 11, some 12]) 13 hX [0, 1, 2, 3, 4, 5, 6, 7, 8, 9, 10, 11, 12] (runV (rest := []) hX [0, 1, 2, 3, 4, 5, 6, 7, 8, 9, 10, 11, 12] (ctX8_partOf G F a_t m_s m_begun m_kept m_isKept m_past m_states m_text m_length m_far m_queue m_isOn m_steps m_wayCells m_turns m_visits m_wasSo m_bestAway m_bestMade m_bestFault m_isHere m_place m_reason m_wide m_high g1 (0 : Int32) r11 hr11) dX8_cellOf_86 2 gX8_cellOf_X8_partOf rfl hyX8_partOf ⟨Nat.le_of_ble_eq_true rfl, Nat.le_of_ble_eq_true rfl⟩ 0 rfl rfl rfl rfl (Nat.le_of_ble_eq_true rfl) ⟨Nat.le_of_ble_eq_true rfl, Nat.le_of_ble_eq_true rfl⟩ rfl (by decide +kernel)) rfl rfl rfl (by decide +kernel) rfl ⟨rfl, rfl⟩ ?_
                obtain rfl := som hm
                exact w_iret (pc := 89) hX hR dX8_cellOf_89 ⟨rfl, rfl⟩
              ·
                replace hm := ite_f hm hc10
                rcases Decidable.em (g2 = (4 : Int32)) with hc12 | hc12
                ·
                  replace hm := ite_t hm hc12
                  refine w_tabIn (pc := 21) (tgt := 90) hX dX8_cellOf_21 4 (by rw [hc12]; decide) (by decide) (by decide) rfl (by decide) ?_
                  refine w_aload_n (pc := 90) hX dX8_cellOf_90 rfl rfl ?_
                  refine w_aload_n (pc := 91) hX dX8_cellOf_91 rfl rfl ?_
                  refine gf_X8_s (pc := 92) hX dX8_cellOf_92 hX8 (List.mem_of_getElem? (i := 1) rfl) 0 rfl rfl ?_
                  refine w_iconst (pc := 95) hX dX8_cellOf_95 ic_2 ?_
                  refine w_iald (pc := 96) hX dX8_cellOf_96 1 rfl hm (fun hm => ?_)
                  obtain ⟨r13, hr13, hm⟩ := bnd hm
                  refine w_calldv (pc := 97) (ws' := wX8 G a_t m_s m_begun m_kept m_isKept m_past m_states m_text m_length r13.1 r13.2 m_isOn m_steps m_wayCells m_turns m_visits m_wasSo m_bestAway m_bestMade m_bestFault m_isHere m_place m_reason m_wide m_high) (os := [some 0, some 1, some 2, some 3, some 4, some 5, some 6, some 7, some 8, some 9, some 10, some 11, some 12]) 13 hX [0, 1, 2, 3, 4, 5, 6, 7, 8, 9, 10, 11, 12] (runV (rest := []) hX [0, 1, 2, 3, 4, 5, 6, 7, 8, 9, 10, 11, 12] (ctX8_measures G F a_t m_s m_begun m_kept m_isKept m_past m_states m_text m_length m_far m_queue m_isOn m_steps m_wayCells m_turns m_visits m_wasSo m_bestAway m_bestMade m_bestFault m_isHere m_place m_reason m_wide m_high (m_s (2 : Int32).toNatClampNeg) r13 hr13) dX8_cellOf_97 1 gX8_cellOf_X8_measures rfl hyX8_measures ⟨Nat.le_of_ble_eq_true rfl, Nat.le_of_ble_eq_true rfl⟩ 0 rfl rfl rfl rfl (Nat.le_of_ble_eq_true rfl) ⟨Nat.le_of_ble_eq_true rfl, Nat.le_of_ble_eq_true rfl⟩ rfl (by decide +kernel)) rfl rfl rfl (by decide +kernel) rfl ⟨rfl, rfl⟩ ?_
                  refine w_aload_n (pc := 100) hX dX8_cellOf_100 rfl rfl ?_
                  refine gf_X8_far (pc := 101) hX dX8_cellOf_101 hX8 (List.mem_of_getElem? (i := 2) rfl) 0 rfl rfl ?_
                  refine w_iload_n (pc := 104) hX dX8_cellOf_104 rfl rfl ?_
                  refine w_iald (pc := 105) hX dX8_cellOf_105 6 rfl hm (fun hm => ?_)
                  obtain ⟨r14, hr14, hm⟩ := bnd hm
                  refine w_callpi (pc := 106) hX [] (runS (rest := []) hX [] (ctX8_orNone G (r13.1 g1.toNatClampNeg) r14 hr14) dX8_cellOf_106 1 gX8_cellOf_X8_orNone rfl hyX8_orNone.2 ⟨Nat.le_of_ble_eq_true rfl, Nat.le_of_ble_eq_true rfl⟩ rfl rfl (Nat.le_of_ble_eq_true rfl) ⟨Nat.le_of_ble_eq_true rfl, Nat.le_of_ble_eq_true rfl⟩ rfl (by decide +kernel)) rfl ⟨rfl, rfl⟩ ?_
                  obtain rfl := som hm
                  exact w_iret (pc := 109) hX hR dX8_cellOf_109 ⟨rfl, rfl⟩
                ·
                  replace hm := ite_f hm hc12
                  rcases Decidable.em (g2 = (5 : Int32)) with hc15 | hc15
                  ·
                    replace hm := ite_t hm hc15
                    refine w_tabIn (pc := 21) (tgt := 110) hX dX8_cellOf_21 5 (by rw [hc15]; decide) (by decide) (by decide) rfl (by decide) ?_
                    refine w_aload_n (pc := 110) hX dX8_cellOf_110 rfl rfl ?_
                    refine w_iload_n (pc := 111) hX dX8_cellOf_111 rfl rfl ?_
                    obtain ⟨r16, hr16, hm⟩ := bnd hm
                    refine w_calldi (pc := 112) (ws' := wX8 G a_t m_s m_begun m_kept m_isKept m_past m_states m_text m_length r16.2.1 r16.2.2.1 r16.2.2.2.1 r16.2.2.2.2.1 r16.2.2.2.2.2.1 r16.2.2.2.2.2.2 m_visits m_wasSo m_bestAway m_bestMade m_bestFault m_isHere m_place m_reason m_wide m_high) (os := [some 0, some 1, some 2, some 3, some 4, some 5, some 6, some 7, some 8, some 9, some 10, some 11, some 12]) 13 hX [0, 1, 2, 3, 4, 5, 6, 7, 8, 9, 10, 11, 12] (runV (rest := []) hX [0, 1, 2, 3, 4, 5, 6, 7, 8, 9, 10, 11, 12] (ctX8_onWay G F a_t m_s m_begun m_kept m_isKept m_past m_states m_text m_length m_far m_queue m_isOn m_steps m_wayCells m_turns m_visits m_wasSo m_bestAway m_bestMade m_bestFault m_isHere m_place m_reason m_wide m_high g1 r16 hr16) dX8_cellOf_112 1 gX8_cellOf_X8_onWay rfl hyX8_onWay ⟨Nat.le_of_ble_eq_true rfl, Nat.le_of_ble_eq_true rfl⟩ 0 rfl rfl rfl rfl (Nat.le_of_ble_eq_true rfl) ⟨Nat.le_of_ble_eq_true rfl, Nat.le_of_ble_eq_true rfl⟩ rfl (by decide +kernel)) rfl rfl rfl (by decide +kernel) rfl ⟨rfl, rfl⟩ ?_
                    obtain rfl := som hm
                    exact w_iret (pc := 115) hX hR dX8_cellOf_115 ⟨rfl, rfl⟩
                  ·
                    replace hm := ite_f hm hc15
                    refine w_tabOut (pc := 21) (tgt := 116) hX dX8_cellOf_21 (tsw_out (n := 5) (fun i hi => by rcases (show i = 0 ∨ i = 1 ∨ i = 2 ∨ i = 3 ∨ i = 4 ∨ i = 5 by omega) with rfl | rfl | rfl | rfl | rfl | rfl <;> assumption)) (by decide) ?_
                    refine w_aload_n (pc := 116) hX dX8_cellOf_116 rfl rfl ?_
                    obtain ⟨r17, hr17, hm⟩ := bnd hm
                    refine w_calldi (pc := 117) (ws' := wX8 G a_t m_s m_begun m_kept m_isKept m_past m_states m_text m_length m_far m_queue m_isOn m_steps m_wayCells m_turns r17.2.1 r17.2.2 m_bestAway m_bestMade m_bestFault m_isHere m_place m_reason m_wide m_high) (os := [some 0, some 1, some 2, some 3, some 4, some 5, some 6, some 7, some 8, some 9, some 10, some 11, some 12]) 13 hX [0, 1, 2, 3, 4, 5, 6, 7, 8, 9, 10, 11, 12] (runV (rest := []) hX [0, 1, 2, 3, 4, 5, 6, 7, 8, 9, 10, 11, 12] (ctX8_walks G F a_t m_s m_begun m_kept m_isKept m_past m_states m_text m_length m_far m_queue m_isOn m_steps m_wayCells m_turns m_visits m_wasSo m_bestAway m_bestMade m_bestFault m_isHere m_place m_reason m_wide m_high r17 hr17) dX8_cellOf_117 0 gX8_cellOf_X8_walks rfl hyX8_walks ⟨Nat.le_of_ble_eq_true rfl, Nat.le_of_ble_eq_true rfl⟩ 0 rfl rfl rfl rfl (Nat.le_of_ble_eq_true rfl) ⟨Nat.le_of_ble_eq_true rfl, Nat.le_of_ble_eq_true rfl⟩ rfl (by decide +kernel)) rfl rfl rfl (by decide +kernel) rfl ⟨rfl, rfl⟩ ?_
                    refine w_jn (T := fun x18 : Int32 => WW G X 0 0 (wX8 G a_t m_s m_begun m_kept m_isKept m_past m_states m_text m_length m_far m_queue m_isOn m_steps m_wayCells m_turns r17.2.1 r17.2.2 m_bestAway m_bestMade m_bestFault m_isHere m_place m_reason m_wide m_high) [none, none, none] 134 [.int x18]) hm (fun x18 hm => ?_) (fun j19 hj19 hm => ?_)
                    ·
                      obtain rfl := som hm
                      exact w_iret (pc := 134) hX hR dX8_cellOf_134 ⟨rfl, rfl⟩
                    ·
                      refine w_if_eq (pc := 120) (tgt := 132) hX dX8_cellOf_120 (by decide) hm (fun hm => ?_) (fun hm => ?_)
                      ·
                        refine w_bipush (pc := 132) hX dX8_cellOf_132 bp_m4 ?_
                        exact w_lvs [false, false, false] (hj19 (-4 : Int32) hm)
                      ·
                        refine w_aload_n (pc := 123) hX dX8_cellOf_123 rfl rfl ?_
                        refine gf_X8_visits (pc := 124) hX dX8_cellOf_124 hX8 (List.mem_of_getElem? (i := 3) rfl) 0 rfl rfl ?_
                        refine w_iload_n (pc := 127) hX dX8_cellOf_127 rfl rfl ?_
                        refine w_iald (pc := 128) hX dX8_cellOf_128 10 rfl hm (fun hm => ?_)
                        refine w_goto (pc := 129) (tgt := 134) hX dX8_cellOf_129 (by decide) ?_
                        exact w_lvs [false, false, false] (hj19 (r17.2.1 g1.toNatClampNeg) hm)
      ·
        exact w_lvs [false, false, false] (hj3 () hm)

theorem lX8_doorOf_X8 : ∀ w ∈ wsX80, w ∈ wsX8_doorOf := in_at [6, 7, 8, 9, 10, 11, 12, 13, 14, 15, 16, 17, 18, 19, 20, 21, 22, 23, 24, 25, 26, 27, 28, 29] (by decide +kernel)
set_option maxHeartbeats 4000000 in
set_option maxRecDepth 100000 in
theorem ctX8_doorOf (G : gT) (a_t : Nat → Nat) (m_s : nF) (m_begun : nF) (m_kept : nF) (m_isKept : Int32) (m_past : nF) (m_states : Int32) (m_text : nF) (m_length : Int32) (m_far : nF) (m_queue : nF) (m_isOn : nF) (m_steps : nF) (m_wayCells : Int32) (m_turns : Int32) (m_visits : nF) (m_wasSo : nF) (m_bestAway : Int32) (m_bestMade : Int32) (m_bestFault : Int32) (m_isHere : nF) (m_place : Int32) (m_reason : Int32) (m_wide : Int32) (m_high : Int32) (g1 : Int32) (g2 : Int32) (o : Int32) (hm : mX8_doorOf m_s g1 g2 = some o) : CT G yX8_doorOf wsX8_doorOf rmX8_doorOf [.ref (a_t 0), .int g1, .int g2] (wX8 G a_t m_s m_begun m_kept m_isKept m_past m_states m_text m_length m_far m_queue m_isOn m_steps m_wayCells m_turns m_visits m_wasSo m_bestAway m_bestMade m_bestFault m_isHere m_place m_reason m_wide m_high) (fun v w => v = some (.int o) ∧ w = wX8 G a_t m_s m_begun m_kept m_isKept m_past m_states m_text m_length m_far m_queue m_isOn m_steps m_wayCells m_turns m_visits m_wasSo m_bestAway m_bestMade m_bestFault m_isHere m_place m_reason m_wide m_high) := by
  refine CT_of (cc := cX8_doorOf) (maxL := 3) (ret := (some .int)) 0 (by decide +kernel) rfl rfl (cat_ok rfl) (fun X hX hR hN => ?_)
  have hX : Ok G X cX8_doorOf RX8 wsX8_doorOf 3 rmX8_doorOf := hX
  have hX8 : ∀ w ∈ wsX80, w ∈ wsX8_doorOf := lX8_doorOf_X8
  unfold mX8_doorOf at hm
  refine w_iload_n (pc := 0) hX dX8_doorOf_0 rfl rfl ?_
  refine w_iconst (pc := 1) hX dX8_doorOf_1 ic_0 ?_
  refine w_iconst (pc := 2) hX dX8_doorOf_2 ic_1 ?_
  obtain ⟨r1, hr1, hm⟩ := bnd hm
  refine w_callpi (pc := 3) hX [] (runS (rest := []) hX [] (ctX8_in G g1 (0 : Int32) (1 : Int32) r1 hr1) dX8_doorOf_3 3 gX8_doorOf_X8_in rfl hyX8_in.2 ⟨Nat.le_of_ble_eq_true rfl, Nat.le_of_ble_eq_true rfl⟩ rfl rfl (Nat.le_of_ble_eq_true rfl) ⟨Nat.le_of_ble_eq_true rfl, Nat.le_of_ble_eq_true rfl⟩ rfl (by decide +kernel)) rfl ⟨rfl, rfl⟩ ?_
  refine w_jn (T := fun x2 : Int32 => WW G X 0 0 (wX8 G a_t m_s m_begun m_kept m_isKept m_past m_states m_text m_length m_far m_queue m_isOn m_steps m_wayCells m_turns m_visits m_wasSo m_bestAway m_bestMade m_bestFault m_isHere m_place m_reason m_wide m_high) [none, none, none] 34 [.int x2]) hm (fun x2 hm => ?_) (fun j3 hj3 hm => ?_)
  ·
    obtain rfl := som hm
    exact w_iret (pc := 34) hX hR dX8_doorOf_34 ⟨rfl, rfl⟩
  ·
    refine w_jn (T := fun x4 : Unit => WW G X 0 0 (wX8 G a_t m_s m_begun m_kept m_isKept m_past m_states m_text m_length m_far m_queue m_isOn m_steps m_wayCells m_turns m_visits m_wasSo m_bestAway m_bestMade m_bestFault m_isHere m_place m_reason m_wide m_high) [none, none, none] 33 []) hm (fun x4 hm => ?_) (fun j5 hj5 hm => ?_)
    ·
      refine w_iconst (pc := 33) hX dX8_doorOf_33 ic_m1 ?_
      exact w_lvs [false, false, false] (hj3 (-1 : Int32) hm)
    ·
      refine w_if_eq (pc := 6) (tgt := 33) hX dX8_doorOf_6 (by decide) hm (fun hm => ?_) (fun hm => ?_)
      ·
        exact w_lvs [false, false, false] (hj5 () hm)
      ·
        refine w_iload_n (pc := 9) hX dX8_doorOf_9 rfl rfl ?_
        refine w_iconst (pc := 10) hX dX8_doorOf_10 ic_0 ?_
        refine w_iconst (pc := 11) hX dX8_doorOf_11 ic_1 ?_
        obtain ⟨r6, hr6, hm⟩ := bnd hm
        refine w_callpi (pc := 12) hX [] (runS (rest := []) hX [] (ctX8_in G g2 (0 : Int32) (1 : Int32) r6 hr6) dX8_doorOf_12 3 gX8_doorOf_X8_in rfl hyX8_in.2 ⟨Nat.le_of_ble_eq_true rfl, Nat.le_of_ble_eq_true rfl⟩ rfl rfl (Nat.le_of_ble_eq_true rfl) ⟨Nat.le_of_ble_eq_true rfl, Nat.le_of_ble_eq_true rfl⟩ rfl (by decide +kernel)) rfl ⟨rfl, rfl⟩ ?_
        refine w_if_eq (pc := 15) (tgt := 33) hX dX8_doorOf_15 (by decide) hm (fun hm => ?_) (fun hm => ?_)
        ·
          exact w_lvs [false, false, false] (hj5 () hm)
        ·
          refine w_aload_n (pc := 18) hX dX8_doorOf_18 rfl rfl ?_
          refine gf_X8_s (pc := 19) hX dX8_doorOf_19 hX8 (List.mem_of_getElem? (i := 1) rfl) 0 rfl rfl ?_
          refine w_iconst (pc := 22) hX dX8_doorOf_22 ic_2 ?_
          refine w_iconst (pc := 23) hX dX8_doorOf_23 ic_2 ?_
          refine w_iload_n (pc := 24) hX dX8_doorOf_24 rfl rfl ?_
          refine w_imul (pc := 25) hX dX8_doorOf_25 ?_
          refine w_iadd (pc := 26) hX dX8_doorOf_26 ?_
          refine w_iload_n (pc := 27) hX dX8_doorOf_27 rfl rfl ?_
          refine w_iadd (pc := 28) hX dX8_doorOf_28 ?_
          refine w_iald (pc := 29) hX dX8_doorOf_29 1 rfl hm (fun hm => ?_)
          refine w_goto (pc := 30) (tgt := 34) hX dX8_doorOf_30 (by decide) ?_
          exact w_lvs [false, false, false] (hj3 (m_s (((2 : Int32) + ((2 : Int32) * g1)) + g2).toNatClampNeg) hm)

set_option maxHeartbeats 4000000 in
set_option maxRecDepth 100000 in
theorem ctX8_ends (G : gT) (F : Nat) (a_t : Nat → Nat) (m_s : nF) (m_begun : nF) (m_kept : nF) (m_isKept : Int32) (m_past : nF) (m_states : Int32) (m_text : nF) (m_length : Int32) (m_far : nF) (m_queue : nF) (m_isOn : nF) (m_steps : nF) (m_wayCells : Int32) (m_turns : Int32) (m_visits : nF) (m_wasSo : nF) (m_bestAway : Int32) (m_bestMade : Int32) (m_bestFault : Int32) (m_isHere : nF) (m_place : Int32) (m_reason : Int32) (m_wide : Int32) (m_high : Int32) (o : Int32) (hm : mX8_ends F m_s = some o) : CT G yX8_ends wsX8_ends rmX8_ends [.ref (a_t 0)] (wX8 G a_t m_s m_begun m_kept m_isKept m_past m_states m_text m_length m_far m_queue m_isOn m_steps m_wayCells m_turns m_visits m_wasSo m_bestAway m_bestMade m_bestFault m_isHere m_place m_reason m_wide m_high) (fun v w => v = some (.int o) ∧ w = wX8 G a_t m_s m_begun m_kept m_isKept m_past m_states m_text m_length m_far m_queue m_isOn m_steps m_wayCells m_turns m_visits m_wasSo m_bestAway m_bestMade m_bestFault m_isHere m_place m_reason m_wide m_high) := by
  refine CT_of (cc := cX8_ends) (maxL := 4) (ret := (some .int)) 3 (by decide +kernel) rfl rfl (cat_ok rfl) (fun X hX hR hN => ?_)
  have hX : Ok G X cX8_ends RX8 wsX8_ends 4 rmX8_ends := hX
  unfold mX8_ends at hm
  refine w_iconst (pc := 0) hX dX8_ends_0 ic_0 ?_
  refine w_istore_n (pc := 1) hX dX8_ends_1 rfl (Nat.le_of_ble_eq_true rfl) ?_
  refine w_iconst (pc := 2) hX dX8_ends_2 ic_0 ?_
  refine w_istore_n (pc := 3) hX dX8_ends_3 rfl (Nat.le_of_ble_eq_true rfl) ?_
  refine w_lvs [true, true, true, false] ?_
  refine lpr_ind (T := fun x1 : (Int32 × Int32) => WW G X 0 0 (wX8 G a_t m_s m_begun m_kept m_isKept m_past m_states m_text m_length m_far m_queue m_isOn m_steps m_wayCells m_turns m_visits m_wasSo m_bestAway m_bestMade m_bestFault m_isHere m_place m_reason m_wide m_high) [some (.ref (a_t 0)), some (.int x1.1), some (.int x1.2), none] 4 []) (fun self2 hself2 x1 hm => ?_) F ((0 : Int32), (0 : Int32)) hm
  unfold mX8_ends_L4 at hm
  refine w_iload_n (pc := 4) hX dX8_ends_4 rfl rfl ?_
  refine w_aload_n (pc := 5) hX dX8_ends_5 rfl rfl ?_
  obtain ⟨r3, hr3, hm⟩ := bnd hm
  refine w_callpi (pc := 6) hX [0, 1, 2, 3, 4, 5, 6, 7, 8, 9, 10, 11, 12] (runV (rest := [.int x1.2]) hX [0, 1, 2, 3, 4, 5, 6, 7, 8, 9, 10, 11, 12] (ctX8_cells G a_t m_s m_begun m_kept m_isKept m_past m_states m_text m_length m_far m_queue m_isOn m_steps m_wayCells m_turns m_visits m_wasSo m_bestAway m_bestMade m_bestFault m_isHere m_place m_reason m_wide m_high r3 hr3) dX8_ends_6 0 gX8_ends_X8_cells rfl hyX8_cells ⟨Nat.le_of_ble_eq_true rfl, Nat.le_of_ble_eq_true rfl⟩ 0 rfl rfl rfl rfl (Nat.le_of_ble_eq_true rfl) ⟨Nat.le_of_ble_eq_true rfl, Nat.le_of_ble_eq_true rfl⟩ rfl (by decide +kernel)) rfl ⟨rfl, rfl⟩ ?_
  refine w_icmp_ge (pc := 9) (tgt := 53) hX dX8_ends_9 (by decide) hm (fun hm => ?_) (fun hm => ?_)
  ·
    refine w_iload_n (pc := 53) hX dX8_ends_53 rfl rfl ?_
    obtain rfl := som hm
    exact w_iret (pc := 54) hX hR dX8_ends_54 ⟨rfl, rfl⟩
  ·
    refine w_aload_n (pc := 12) hX dX8_ends_12 rfl rfl ?_
    refine w_iload_n (pc := 13) hX dX8_ends_13 rfl rfl ?_
    obtain ⟨r4, hr4, hm⟩ := bnd hm
    refine w_callpi (pc := 14) hX [0, 1, 2, 3, 4, 5, 6, 7, 8, 9, 10, 11, 12] (runV (rest := []) hX [0, 1, 2, 3, 4, 5, 6, 7, 8, 9, 10, 11, 12] (ctX8_directions G F a_t m_s m_begun m_kept m_isKept m_past m_states m_text m_length m_far m_queue m_isOn m_steps m_wayCells m_turns m_visits m_wasSo m_bestAway m_bestMade m_bestFault m_isHere m_place m_reason m_wide m_high x1.2 r4 hr4) dX8_ends_14 1 gX8_ends_X8_directions rfl hyX8_directions ⟨Nat.le_of_ble_eq_true rfl, Nat.le_of_ble_eq_true rfl⟩ 0 rfl rfl rfl rfl (Nat.le_of_ble_eq_true rfl) ⟨Nat.le_of_ble_eq_true rfl, Nat.le_of_ble_eq_true rfl⟩ rfl (by decide +kernel)) rfl ⟨rfl, rfl⟩ ?_
    refine w_istore_n (pc := 17) hX dX8_ends_17 rfl (Nat.le_of_ble_eq_true rfl) ?_
    refine w_iload_n (pc := 18) hX dX8_ends_18 rfl rfl ?_
    refine w_iload_n (pc := 19) hX dX8_ends_19 rfl rfl ?_
    refine w_iconst (pc := 20) hX dX8_ends_20 ic_1 ?_
    refine w_jn (T := fun x5 : Int32 => WW G X 0 0 (wX8 G a_t m_s m_begun m_kept m_isKept m_past m_states m_text m_length m_far m_queue m_isOn m_steps m_wayCells m_turns m_visits m_wasSo m_bestAway m_bestMade m_bestFault m_isHere m_place m_reason m_wide m_high) [some (.ref (a_t 0)), none, some (.int x1.2), none] 45 [.int x5, .int x1.1]) hm (fun x5 hm => ?_) (fun j6 hj6 hm => ?_)
    ·
      refine w_iadd (pc := 45) hX dX8_ends_45 ?_
      refine w_istore_n (pc := 46) hX dX8_ends_46 rfl (Nat.le_of_ble_eq_true rfl) ?_
      refine w_iinc (pc := 47) hX dX8_ends_47 rfl (Nat.le_of_ble_eq_true rfl) ic_1 ?_
      refine w_goto (pc := 50) (tgt := 4) hX dX8_ends_50 (by decide) ?_
      exact w_lvs [true, true, true, false] (hself2 (x1.1 + x5, x1.2 + (1 : Int32)) hm)
    ·
      refine w_jn (T := fun x7 : Unit => WW G X 0 0 (wX8 G a_t m_s m_begun m_kept m_isKept m_past m_states m_text m_length m_far m_queue m_isOn m_steps m_wayCells m_turns m_visits m_wasSo m_bestAway m_bestMade m_bestFault m_isHere m_place m_reason m_wide m_high) [some (.ref (a_t 0)), none, some (.int x1.2), none] 40 [.int x1.1]) hm (fun x7 hm => ?_) (fun j8 hj8 hm => ?_)
      ·
        refine w_iconst (pc := 40) hX dX8_ends_40 ic_1 ?_
        refine w_goto (pc := 41) (tgt := 45) hX dX8_ends_41 (by decide) ?_
        exact w_lvs [true, false, true, false] (hj6 (1 : Int32) hm)
      ·
        refine w_icmp_eq (pc := 21) (tgt := 40) hX dX8_ends_21 (by decide) hm (fun hm => ?_) (fun hm => ?_)
        ·
          exact w_lvs [true, false, true, false] (hj8 () hm)
        ·
          refine w_iload_n (pc := 24) hX dX8_ends_24 rfl rfl ?_
          refine w_iconst (pc := 25) hX dX8_ends_25 ic_2 ?_
          refine w_icmp_eq (pc := 26) (tgt := 40) hX dX8_ends_26 (by decide) hm (fun hm => ?_) (fun hm => ?_)
          ·
            exact w_lvs [true, false, true, false] (hj8 () hm)
          ·
            refine w_iload_n (pc := 29) hX dX8_ends_29 rfl rfl ?_
            refine w_iconst (pc := 30) hX dX8_ends_30 ic_4 ?_
            refine w_icmp_eq (pc := 31) (tgt := 40) hX dX8_ends_31 (by decide) hm (fun hm => ?_) (fun hm => ?_)
            ·
              exact w_lvs [true, false, true, false] (hj8 () hm)
            ·
              refine w_iload_n (pc := 34) hX dX8_ends_34 rfl rfl ?_
              refine w_bipush (pc := 35) hX dX8_ends_35 bp_8 ?_
              refine w_icmp_ne (pc := 37) (tgt := 44) hX dX8_ends_37 (by decide) hm (fun hm => ?_) (fun hm => ?_)
              ·
                refine w_iconst (pc := 44) hX dX8_ends_44 ic_0 ?_
                exact w_lvs [true, false, true, false] (hj6 (0 : Int32) hm)
              ·
                exact w_lvs [true, false, true, false] (hj8 () hm)

theorem lX8_tones_X8 : ∀ w ∈ wsX80, w ∈ wsX8_tones := in_at [7, 8, 9, 10, 11, 12, 13, 14, 15, 16, 17, 18, 19, 20, 21, 22, 23, 24, 25, 26, 27, 28, 29, 30] (by decide +kernel)
set_option maxHeartbeats 4000000 in
set_option maxRecDepth 100000 in
theorem ctX8_tones (G : gT) (F : Nat) (a_t : Nat → Nat) (m_s : nF) (m_begun : nF) (m_kept : nF) (m_isKept : Int32) (m_past : nF) (m_states : Int32) (m_text : nF) (m_length : Int32) (m_far : nF) (m_queue : nF) (m_isOn : nF) (m_steps : nF) (m_wayCells : Int32) (m_turns : Int32) (m_visits : nF) (m_wasSo : nF) (m_bestAway : Int32) (m_bestMade : Int32) (m_bestFault : Int32) (m_isHere : nF) (m_place : Int32) (m_reason : Int32) (m_wide : Int32) (m_high : Int32) (o : Int32) (hm : mX8_tones F m_s = some o) : CT G yX8_tones wsX8_tones rmX8_tones [.ref (a_t 0)] (wX8 G a_t m_s m_begun m_kept m_isKept m_past m_states m_text m_length m_far m_queue m_isOn m_steps m_wayCells m_turns m_visits m_wasSo m_bestAway m_bestMade m_bestFault m_isHere m_place m_reason m_wide m_high) (fun v w => v = some (.int o) ∧ w = wX8 G a_t m_s m_begun m_kept m_isKept m_past m_states m_text m_length m_far m_queue m_isOn m_steps m_wayCells m_turns m_visits m_wasSo m_bestAway m_bestMade m_bestFault m_isHere m_place m_reason m_wide m_high) := by
  refine CT_of (cc := cX8_tones) (maxL := 3) (ret := (some .int)) 2 (by decide +kernel) rfl rfl (cat_ok rfl) (fun X hX hR hN => ?_)
  have hX : Ok G X cX8_tones RX8 wsX8_tones 3 rmX8_tones := hX
  have hX8 : ∀ w ∈ wsX80, w ∈ wsX8_tones := lX8_tones_X8
  unfold mX8_tones at hm
  refine w_iconst (pc := 0) hX dX8_tones_0 ic_0 ?_
  refine w_istore_n (pc := 1) hX dX8_tones_1 rfl (Nat.le_of_ble_eq_true rfl) ?_
  refine w_iconst (pc := 2) hX dX8_tones_2 ic_0 ?_
  refine w_istore_n (pc := 3) hX dX8_tones_3 rfl (Nat.le_of_ble_eq_true rfl) ?_
  refine w_lvs [true, true, true] ?_
  refine lpr_ind (T := fun x1 : (Int32 × Int32) => WW G X 0 0 (wX8 G a_t m_s m_begun m_kept m_isKept m_past m_states m_text m_length m_far m_queue m_isOn m_steps m_wayCells m_turns m_visits m_wasSo m_bestAway m_bestMade m_bestFault m_isHere m_place m_reason m_wide m_high) [some (.ref (a_t 0)), some (.int x1.1), some (.int x1.2)] 4 []) (fun self2 hself2 x1 hm => ?_) F ((0 : Int32), (0 : Int32)) hm
  unfold mX8_tones_L4 at hm
  refine w_iload_n (pc := 4) hX dX8_tones_4 rfl rfl ?_
  refine w_aload_n (pc := 5) hX dX8_tones_5 rfl rfl ?_
  obtain ⟨r3, hr3, hm⟩ := bnd hm
  refine w_callpi (pc := 6) hX [0, 1, 2, 3, 4, 5, 6, 7, 8, 9, 10, 11, 12] (runV (rest := [.int x1.2]) hX [0, 1, 2, 3, 4, 5, 6, 7, 8, 9, 10, 11, 12] (ctX8_cells G a_t m_s m_begun m_kept m_isKept m_past m_states m_text m_length m_far m_queue m_isOn m_steps m_wayCells m_turns m_visits m_wasSo m_bestAway m_bestMade m_bestFault m_isHere m_place m_reason m_wide m_high r3 hr3) dX8_tones_6 0 gX8_tones_X8_cells rfl hyX8_cells ⟨Nat.le_of_ble_eq_true rfl, Nat.le_of_ble_eq_true rfl⟩ 0 rfl rfl rfl rfl (Nat.le_of_ble_eq_true rfl) ⟨Nat.le_of_ble_eq_true rfl, Nat.le_of_ble_eq_true rfl⟩ rfl (by decide +kernel)) rfl ⟨rfl, rfl⟩ ?_
  refine w_icmp_ge (pc := 9) (tgt := 30) hX dX8_tones_9 (by decide) hm (fun hm => ?_) (fun hm => ?_)
  ·
    refine w_iload_n (pc := 30) hX dX8_tones_30 rfl rfl ?_
    obtain rfl := som hm
    exact w_iret (pc := 31) hX hR dX8_tones_31 ⟨rfl, rfl⟩
  ·
    refine w_iload_n (pc := 12) hX dX8_tones_12 rfl rfl ?_
    refine w_aload_n (pc := 13) hX dX8_tones_13 rfl rfl ?_
    refine gf_X8_s (pc := 14) hX dX8_tones_14 hX8 (List.mem_of_getElem? (i := 1) rfl) 0 rfl rfl ?_
    refine w_bipush (pc := 17) hX dX8_tones_17 bp_6 ?_
    refine w_iload_n (pc := 19) hX dX8_tones_19 rfl rfl ?_
    refine w_iadd (pc := 20) hX dX8_tones_20 ?_
    refine w_iald (pc := 21) hX dX8_tones_21 1 rfl hm (fun hm => ?_)
    refine w_iadd (pc := 22) hX dX8_tones_22 ?_
    refine w_istore_n (pc := 23) hX dX8_tones_23 rfl (Nat.le_of_ble_eq_true rfl) ?_
    refine w_iinc (pc := 24) hX dX8_tones_24 rfl (Nat.le_of_ble_eq_true rfl) ic_1 ?_
    refine w_goto (pc := 27) (tgt := 4) hX dX8_tones_27 (by decide) ?_
    exact w_lvs [true, true, true] (hself2 (x1.1 + (m_s ((6 : Int32) + x1.2).toNatClampNeg), x1.2 + (1 : Int32)) hm)

theorem lX8_count_X8 : ∀ w ∈ wsX80, w ∈ wsX8_count := in_at [46, 47, 48, 49, 50, 51, 52, 53, 54, 55, 56, 57, 58, 59, 60, 61, 62, 63, 64, 65, 66, 67, 68, 69] (by decide +kernel)
set_option maxHeartbeats 4000000 in
set_option maxRecDepth 100000 in
theorem ctX8_count (G : gT) (F : Nat) (a_t : Nat → Nat) (m_s : nF) (m_begun : nF) (m_kept : nF) (m_isKept : Int32) (m_past : nF) (m_states : Int32) (m_text : nF) (m_length : Int32) (m_far : nF) (m_queue : nF) (m_isOn : nF) (m_steps : nF) (m_wayCells : Int32) (m_turns : Int32) (m_visits : nF) (m_wasSo : nF) (m_bestAway : Int32) (m_bestMade : Int32) (m_bestFault : Int32) (m_isHere : nF) (m_place : Int32) (m_reason : Int32) (m_wide : Int32) (m_high : Int32) (g1 : Int32) (o : Int32) (hm : mX8_count F m_s m_isKept m_states m_length g1 = some o) : CT G yX8_count wsX8_count rmX8_count [.ref (a_t 0), .int g1] (wX8 G a_t m_s m_begun m_kept m_isKept m_past m_states m_text m_length m_far m_queue m_isOn m_steps m_wayCells m_turns m_visits m_wasSo m_bestAway m_bestMade m_bestFault m_isHere m_place m_reason m_wide m_high) (fun v w => v = some (.int o) ∧ w = wX8 G a_t m_s m_begun m_kept m_isKept m_past m_states m_text m_length m_far m_queue m_isOn m_steps m_wayCells m_turns m_visits m_wasSo m_bestAway m_bestMade m_bestFault m_isHere m_place m_reason m_wide m_high) := by
  refine CT_of (cc := cX8_count) (maxL := 2) (ret := (some .int)) 0 (by decide +kernel) rfl rfl (cat_ok rfl) (fun X hX hR hN => ?_)
  have hX : Ok G X cX8_count RX8 wsX8_count 2 rmX8_count := hX
  have hX8 : ∀ w ∈ wsX80, w ∈ wsX8_count := lX8_count_X8
  unfold mX8_count at hm
  refine w_iload_n (pc := 0) hX dX8_count_0 rfl rfl ?_
  rcases Decidable.em (g1 = (0 : Int32)) with hc1 | hc1
  ·
    replace hm := ite_t hm hc1
    refine w_tabIn (pc := 1) (tgt := 52) hX dX8_count_1 0 (by rw [hc1]; decide) (by decide) (by decide) rfl (by decide) ?_
    refine w_aload_n (pc := 52) hX dX8_count_52 rfl rfl ?_
    refine gf_X8_s (pc := 53) hX dX8_count_53 hX8 (List.mem_of_getElem? (i := 1) rfl) 0 rfl rfl ?_
    refine w_iload_n (pc := 56) hX dX8_count_56 rfl rfl ?_
    refine w_iald (pc := 57) hX dX8_count_57 1 rfl hm (fun hm => ?_)
    obtain rfl := som hm
    exact w_iret (pc := 58) hX hR dX8_count_58 ⟨rfl, rfl⟩
  ·
    replace hm := ite_f hm hc1
    rcases Decidable.em (g1 = (1 : Int32)) with hc2 | hc2
    ·
      replace hm := ite_t hm hc2
      refine w_tabIn (pc := 1) (tgt := 52) hX dX8_count_1 1 (by rw [hc2]; decide) (by decide) (by decide) rfl (by decide) ?_
      refine w_aload_n (pc := 52) hX dX8_count_52 rfl rfl ?_
      refine gf_X8_s (pc := 53) hX dX8_count_53 hX8 (List.mem_of_getElem? (i := 1) rfl) 0 rfl rfl ?_
      refine w_iload_n (pc := 56) hX dX8_count_56 rfl rfl ?_
      refine w_iald (pc := 57) hX dX8_count_57 1 rfl hm (fun hm => ?_)
      obtain rfl := som hm
      exact w_iret (pc := 58) hX hR dX8_count_58 ⟨rfl, rfl⟩
    ·
      replace hm := ite_f hm hc2
      rcases Decidable.em (g1 = (2 : Int32)) with hc3 | hc3
      ·
        replace hm := ite_t hm hc3
        refine w_tabIn (pc := 1) (tgt := 59) hX dX8_count_1 2 (by rw [hc3]; decide) (by decide) (by decide) rfl (by decide) ?_
        refine w_aload_n (pc := 59) hX dX8_count_59 rfl rfl ?_
        obtain ⟨r4, hr4, hm⟩ := bnd hm
        refine w_callpi (pc := 60) hX [0, 1, 2, 3, 4, 5, 6, 7, 8, 9, 10, 11, 12] (runV (rest := []) hX [0, 1, 2, 3, 4, 5, 6, 7, 8, 9, 10, 11, 12] (ctX8_passages G F a_t m_s m_begun m_kept m_isKept m_past m_states m_text m_length m_far m_queue m_isOn m_steps m_wayCells m_turns m_visits m_wasSo m_bestAway m_bestMade m_bestFault m_isHere m_place m_reason m_wide m_high r4 hr4) dX8_count_60 0 gX8_count_X8_passages rfl hyX8_passages ⟨Nat.le_of_ble_eq_true rfl, Nat.le_of_ble_eq_true rfl⟩ 0 rfl rfl rfl rfl (Nat.le_of_ble_eq_true rfl) ⟨Nat.le_of_ble_eq_true rfl, Nat.le_of_ble_eq_true rfl⟩ rfl (by decide +kernel)) rfl ⟨rfl, rfl⟩ ?_
        obtain rfl := som hm
        exact w_iret (pc := 63) hX hR dX8_count_63 ⟨rfl, rfl⟩
      ·
        replace hm := ite_f hm hc3
        rcases Decidable.em (g1 = (3 : Int32)) with hc5 | hc5
        ·
          replace hm := ite_t hm hc5
          refine w_tabIn (pc := 1) (tgt := 64) hX dX8_count_1 3 (by rw [hc5]; decide) (by decide) (by decide) rfl (by decide) ?_
          refine w_aload_n (pc := 64) hX dX8_count_64 rfl rfl ?_
          obtain ⟨r6, hr6, hm⟩ := bnd hm
          refine w_callpi (pc := 65) hX [0, 1, 2, 3, 4, 5, 6, 7, 8, 9, 10, 11, 12] (runV (rest := []) hX [0, 1, 2, 3, 4, 5, 6, 7, 8, 9, 10, 11, 12] (ctX8_parts G F a_t m_s m_begun m_kept m_isKept m_past m_states m_text m_length m_far m_queue m_isOn m_steps m_wayCells m_turns m_visits m_wasSo m_bestAway m_bestMade m_bestFault m_isHere m_place m_reason m_wide m_high r6 hr6) dX8_count_65 0 gX8_count_X8_parts rfl hyX8_parts ⟨Nat.le_of_ble_eq_true rfl, Nat.le_of_ble_eq_true rfl⟩ 0 rfl rfl rfl rfl (Nat.le_of_ble_eq_true rfl) ⟨Nat.le_of_ble_eq_true rfl, Nat.le_of_ble_eq_true rfl⟩ rfl (by decide +kernel)) rfl ⟨rfl, rfl⟩ ?_
          obtain rfl := som hm
          exact w_iret (pc := 68) hX hR dX8_count_68 ⟨rfl, rfl⟩
        ·
          replace hm := ite_f hm hc5
          rcases Decidable.em (g1 = (4 : Int32)) with hc7 | hc7
          ·
            replace hm := ite_t hm hc7
            refine w_tabIn (pc := 1) (tgt := 69) hX dX8_count_1 4 (by rw [hc7]; decide) (by decide) (by decide) rfl (by decide) ?_
            refine w_aload_n (pc := 69) hX dX8_count_69 rfl rfl ?_
            obtain ⟨r8, hr8, hm⟩ := bnd hm
            refine w_callpi (pc := 70) hX [0, 1, 2, 3, 4, 5, 6, 7, 8, 9, 10, 11, 12] (runV (rest := []) hX [0, 1, 2, 3, 4, 5, 6, 7, 8, 9, 10, 11, 12] (ctX8_isWhole G F a_t m_s m_begun m_kept m_isKept m_past m_states m_text m_length m_far m_queue m_isOn m_steps m_wayCells m_turns m_visits m_wasSo m_bestAway m_bestMade m_bestFault m_isHere m_place m_reason m_wide m_high r8 hr8) dX8_count_70 0 gX8_count_X8_isWhole rfl hyX8_isWhole ⟨Nat.le_of_ble_eq_true rfl, Nat.le_of_ble_eq_true rfl⟩ 0 rfl rfl rfl rfl (Nat.le_of_ble_eq_true rfl) ⟨Nat.le_of_ble_eq_true rfl, Nat.le_of_ble_eq_true rfl⟩ rfl (by decide +kernel)) rfl ⟨rfl, rfl⟩ ?_
            refine w_jn (T := fun x9 : Int32 => WW G X 0 0 (wX8 G a_t m_s m_begun m_kept m_isKept m_past m_states m_text m_length m_far m_queue m_isOn m_steps m_wayCells m_turns m_visits m_wasSo m_bestAway m_bestMade m_bestFault m_isHere m_place m_reason m_wide m_high) [none, none] 81 [.int x9]) hm (fun x9 hm => ?_) (fun j10 hj10 hm => ?_)
            ·
              obtain rfl := som hm
              exact w_iret (pc := 81) hX hR dX8_count_81 ⟨rfl, rfl⟩
            ·
              refine w_if_eq (pc := 73) (tgt := 80) hX dX8_count_73 (by decide) hm (fun hm => ?_) (fun hm => ?_)
              ·
                refine w_iconst (pc := 80) hX dX8_count_80 ic_0 ?_
                exact w_lvs [false, false] (hj10 (0 : Int32) hm)
              ·
                refine w_iconst (pc := 76) hX dX8_count_76 ic_1 ?_
                refine w_goto (pc := 77) (tgt := 81) hX dX8_count_77 (by decide) ?_
                exact w_lvs [false, false] (hj10 (1 : Int32) hm)
          ·
            replace hm := ite_f hm hc7
            rcases Decidable.em (g1 = (5 : Int32)) with hc11 | hc11
            ·
              replace hm := ite_t hm hc11
              refine w_tabIn (pc := 1) (tgt := 82) hX dX8_count_1 5 (by rw [hc11]; decide) (by decide) (by decide) rfl (by decide) ?_
              refine w_aload_n (pc := 82) hX dX8_count_82 rfl rfl ?_
              obtain ⟨r12, hr12, hm⟩ := bnd hm
              refine w_callpi (pc := 83) hX [0, 1, 2, 3, 4, 5, 6, 7, 8, 9, 10, 11, 12] (runV (rest := []) hX [0, 1, 2, 3, 4, 5, 6, 7, 8, 9, 10, 11, 12] (ctX8_ends G F a_t m_s m_begun m_kept m_isKept m_past m_states m_text m_length m_far m_queue m_isOn m_steps m_wayCells m_turns m_visits m_wasSo m_bestAway m_bestMade m_bestFault m_isHere m_place m_reason m_wide m_high r12 hr12) dX8_count_83 0 gX8_count_X8_ends rfl hyX8_ends ⟨Nat.le_of_ble_eq_true rfl, Nat.le_of_ble_eq_true rfl⟩ 0 rfl rfl rfl rfl (Nat.le_of_ble_eq_true rfl) ⟨Nat.le_of_ble_eq_true rfl, Nat.le_of_ble_eq_true rfl⟩ rfl (by decide +kernel)) rfl ⟨rfl, rfl⟩ ?_
              obtain rfl := som hm
              exact w_iret (pc := 86) hX hR dX8_count_86 ⟨rfl, rfl⟩
            ·
              replace hm := ite_f hm hc11
              rcases Decidable.em (g1 = (6 : Int32)) with hc13 | hc13
              ·
                replace hm := ite_t hm hc13
                refine w_tabIn (pc := 1) (tgt := 87) hX dX8_count_1 6 (by rw [hc13]; decide) (by decide) (by decide) rfl (by decide) ?_
                refine w_aload_n (pc := 87) hX dX8_count_87 rfl rfl ?_
                obtain ⟨r14, hr14, hm⟩ := bnd hm
                refine w_callpi (pc := 88) hX [0, 1, 2, 3, 4, 5, 6, 7, 8, 9, 10, 11, 12] (runV (rest := []) hX [0, 1, 2, 3, 4, 5, 6, 7, 8, 9, 10, 11, 12] (ctX8_tones G F a_t m_s m_begun m_kept m_isKept m_past m_states m_text m_length m_far m_queue m_isOn m_steps m_wayCells m_turns m_visits m_wasSo m_bestAway m_bestMade m_bestFault m_isHere m_place m_reason m_wide m_high r14 hr14) dX8_count_88 0 gX8_count_X8_tones rfl hyX8_tones ⟨Nat.le_of_ble_eq_true rfl, Nat.le_of_ble_eq_true rfl⟩ 0 rfl rfl rfl rfl (Nat.le_of_ble_eq_true rfl) ⟨Nat.le_of_ble_eq_true rfl, Nat.le_of_ble_eq_true rfl⟩ rfl (by decide +kernel)) rfl ⟨rfl, rfl⟩ ?_
                obtain rfl := som hm
                exact w_iret (pc := 91) hX hR dX8_count_91 ⟨rfl, rfl⟩
              ·
                replace hm := ite_f hm hc13
                rcases Decidable.em (g1 = (7 : Int32)) with hc15 | hc15
                ·
                  replace hm := ite_t hm hc15
                  refine w_tabIn (pc := 1) (tgt := 92) hX dX8_count_1 7 (by rw [hc15]; decide) (by decide) (by decide) rfl (by decide) ?_
                  refine w_aload_n (pc := 92) hX dX8_count_92 rfl rfl ?_
                  refine gf_X8_states (pc := 93) hX dX8_count_93 hX8 (List.mem_of_getElem? (i := 2) rfl) 0 rfl rfl ?_
                  obtain rfl := som hm
                  exact w_iret (pc := 96) hX hR dX8_count_96 ⟨rfl, rfl⟩
                ·
                  replace hm := ite_f hm hc15
                  rcases Decidable.em (g1 = (8 : Int32)) with hc16 | hc16
                  ·
                    replace hm := ite_t hm hc16
                    refine w_tabIn (pc := 1) (tgt := 97) hX dX8_count_1 8 (by rw [hc16]; decide) (by decide) (by decide) rfl (by decide) ?_
                    refine w_aload_n (pc := 97) hX dX8_count_97 rfl rfl ?_
                    refine gf_X8_length (pc := 98) hX dX8_count_98 hX8 (List.mem_of_getElem? (i := 3) rfl) 0 rfl rfl ?_
                    obtain rfl := som hm
                    exact w_iret (pc := 101) hX hR dX8_count_101 ⟨rfl, rfl⟩
                  ·
                    replace hm := ite_f hm hc16
                    refine w_tabOut (pc := 1) (tgt := 102) hX dX8_count_1 (tsw_out (n := 8) (fun i hi => by rcases (show i = 0 ∨ i = 1 ∨ i = 2 ∨ i = 3 ∨ i = 4 ∨ i = 5 ∨ i = 6 ∨ i = 7 ∨ i = 8 by omega) with rfl | rfl | rfl | rfl | rfl | rfl | rfl | rfl | rfl <;> assumption)) (by decide) ?_
                    refine w_iload_n (pc := 102) hX dX8_count_102 rfl rfl ?_
                    refine w_bipush (pc := 103) hX dX8_count_103 bp_9 ?_
                    refine w_jn (T := fun x17 : Int32 => WW G X 0 0 (wX8 G a_t m_s m_begun m_kept m_isKept m_past m_states m_text m_length m_far m_queue m_isOn m_steps m_wayCells m_turns m_visits m_wasSo m_bestAway m_bestMade m_bestFault m_isHere m_place m_reason m_wide m_high) [none, none] 124 [.int x17]) hm (fun x17 hm => ?_) (fun j18 hj18 hm => ?_)
                    ·
                      obtain rfl := som hm
                      exact w_iret (pc := 124) hX hR dX8_count_124 ⟨rfl, rfl⟩
                    ·
                      refine w_icmp_ne (pc := 105) (tgt := 123) hX dX8_count_105 (by decide) hm (fun hm => ?_) (fun hm => ?_)
                      ·
                        refine w_iconst (pc := 123) hX dX8_count_123 ic_m1 ?_
                        exact w_lvs [false, false] (hj18 (-1 : Int32) hm)
                      ·
                        refine w_aload_n (pc := 108) hX dX8_count_108 rfl rfl ?_
                        refine gf_X8_isKept (pc := 109) hX dX8_count_109 hX8 (List.mem_of_getElem? (i := 4) rfl) 0 rfl rfl ?_
                        refine w_if_eq (pc := 112) (tgt := 119) hX dX8_count_112 (by decide) hm (fun hm => ?_) (fun hm => ?_)
                        ·
                          refine w_iconst (pc := 119) hX dX8_count_119 ic_0 ?_
                          refine w_goto (pc := 120) (tgt := 124) hX dX8_count_120 (by decide) ?_
                          exact w_lvs [false, false] (hj18 (0 : Int32) hm)
                        ·
                          refine w_iconst (pc := 115) hX dX8_count_115 ic_1 ?_
                          refine w_goto (pc := 116) (tgt := 124) hX dX8_count_116 (by decide) ?_
                          exact w_lvs [false, false] (hj18 (1 : Int32) hm)

theorem lX8_way_X8 : ∀ w ∈ wsX80, w ∈ wsX8_way := in_at [33, 34, 35, 36, 37, 38, 39, 40, 41, 42, 43, 44, 45, 46, 47, 48, 49, 50, 51, 52, 53, 54, 55, 56] (by decide +kernel)
set_option maxHeartbeats 4000000 in
set_option maxRecDepth 100000 in
theorem ctX8_way (G : gT) (F : Nat) (a_t : Nat → Nat) (m_s : nF) (m_begun : nF) (m_kept : nF) (m_isKept : Int32) (m_past : nF) (m_states : Int32) (m_text : nF) (m_length : Int32) (m_far : nF) (m_queue : nF) (m_isOn : nF) (m_steps : nF) (m_wayCells : Int32) (m_turns : Int32) (m_visits : nF) (m_wasSo : nF) (m_bestAway : Int32) (m_bestMade : Int32) (m_bestFault : Int32) (m_isHere : nF) (m_place : Int32) (m_reason : Int32) (m_wide : Int32) (m_high : Int32) (g1 : Int32) (o : (Int32 × nF × nF × nF × nF × Int32 × Int32)) (hm : mX8_way F m_s m_far m_queue m_isOn m_steps m_wayCells m_turns g1 = some o) : CT G yX8_way wsX8_way rmX8_way [.ref (a_t 0), .int g1] (wX8 G a_t m_s m_begun m_kept m_isKept m_past m_states m_text m_length m_far m_queue m_isOn m_steps m_wayCells m_turns m_visits m_wasSo m_bestAway m_bestMade m_bestFault m_isHere m_place m_reason m_wide m_high) (fun v w => v = some (.int o.1) ∧ w = wX8 G a_t m_s m_begun m_kept m_isKept m_past m_states m_text m_length o.2.1 o.2.2.1 o.2.2.2.1 o.2.2.2.2.1 o.2.2.2.2.2.1 o.2.2.2.2.2.2 m_visits m_wasSo m_bestAway m_bestMade m_bestFault m_isHere m_place m_reason m_wide m_high) := by
  refine CT_of (cc := cX8_way) (maxL := 3) (ret := (some .int)) 1 (by decide +kernel) rfl rfl (cat_ok rfl) (fun X hX hR hN => ?_)
  have hX : Ok G X cX8_way RX8 wsX8_way 3 rmX8_way := hX
  have hX8 : ∀ w ∈ wsX80, w ∈ wsX8_way := lX8_way_X8
  unfold mX8_way at hm
  refine w_iload_n (pc := 0) hX dX8_way_0 rfl rfl ?_
  refine w_if_ge (pc := 1) (tgt := 6) hX dX8_way_1 (by decide) hm (fun hm => ?_) (fun hm => ?_)
  ·
    refine w_aload_n (pc := 6) hX dX8_way_6 rfl rfl ?_
    refine w_aload_n (pc := 7) hX dX8_way_7 rfl rfl ?_
    refine gf_X8_s (pc := 8) hX dX8_way_8 hX8 (List.mem_of_getElem? (i := 1) rfl) 0 rfl rfl ?_
    refine w_iconst (pc := 11) hX dX8_way_11 ic_4 ?_
    refine w_iald (pc := 12) hX dX8_way_12 1 rfl hm (fun hm => ?_)
    obtain ⟨r1, hr1, hm⟩ := bnd hm
    refine w_calldi (pc := 13) (ws' := wX8 G a_t m_s m_begun m_kept m_isKept m_past m_states m_text m_length r1.2.1 r1.2.2.1 r1.2.2.2.1 r1.2.2.2.2.1 r1.2.2.2.2.2.1 r1.2.2.2.2.2.2 m_visits m_wasSo m_bestAway m_bestMade m_bestFault m_isHere m_place m_reason m_wide m_high) (os := [some 0, some 1, some 2, some 3, some 4, some 5, some 6, some 7, some 8, some 9, some 10, some 11, some 12]) 13 hX [0, 1, 2, 3, 4, 5, 6, 7, 8, 9, 10, 11, 12] (runV (rest := []) hX [0, 1, 2, 3, 4, 5, 6, 7, 8, 9, 10, 11, 12] (ctX8_findsWay G F a_t m_s m_begun m_kept m_isKept m_past m_states m_text m_length m_far m_queue m_isOn m_steps m_wayCells m_turns m_visits m_wasSo m_bestAway m_bestMade m_bestFault m_isHere m_place m_reason m_wide m_high (m_s (4 : Int32).toNatClampNeg) r1 hr1) dX8_way_13 1 gX8_way_X8_findsWay rfl hyX8_findsWay ⟨Nat.le_of_ble_eq_true rfl, Nat.le_of_ble_eq_true rfl⟩ 0 rfl rfl rfl rfl (Nat.le_of_ble_eq_true rfl) ⟨Nat.le_of_ble_eq_true rfl, Nat.le_of_ble_eq_true rfl⟩ rfl (by decide +kernel)) rfl rfl rfl (by decide +kernel) rfl ⟨rfl, rfl⟩ ?_
    refine w_istore_n (pc := 16) hX dX8_way_16 rfl (Nat.le_of_ble_eq_true rfl) ?_
    refine w_iload_n (pc := 17) hX dX8_way_17 rfl rfl ?_
    refine w_jn (T := fun x2 : Int32 => WW G X 0 0 (wX8 G a_t m_s m_begun m_kept m_isKept m_past m_states m_text m_length r1.2.1 r1.2.2.1 r1.2.2.2.1 r1.2.2.2.2.1 r1.2.2.2.2.2.1 r1.2.2.2.2.2.2 m_visits m_wasSo m_bestAway m_bestMade m_bestFault m_isHere m_place m_reason m_wide m_high) [none, none, none] 40 [.int x2]) hm (fun x2 hm => ?_) (fun j3 hj3 hm => ?_)
    ·
      obtain rfl := som hm
      exact w_iret (pc := 40) hX hR dX8_way_40 ⟨rfl, rfl⟩
    ·
      refine w_jn (T := fun x4 : Unit => WW G X 0 0 (wX8 G a_t m_s m_begun m_kept m_isKept m_past m_states m_text m_length r1.2.1 r1.2.2.1 r1.2.2.2.1 r1.2.2.2.2.1 r1.2.2.2.2.2.1 r1.2.2.2.2.2.2 m_visits m_wasSo m_bestAway m_bestMade m_bestFault m_isHere m_place m_reason m_wide m_high) [none, none, none] 38 []) hm (fun x4 hm => ?_) (fun j5 hj5 hm => ?_)
      ·
        refine w_bipush (pc := 38) hX dX8_way_38 bp_m4 ?_
        exact w_lvs [false, false, false] (hj3 (-4 : Int32) hm)
      ·
        refine w_if_eq (pc := 18) (tgt := 38) hX dX8_way_18 (by decide) hm (fun hm => ?_) (fun hm => ?_)
        ·
          exact w_lvs [false, false, false] (hj5 () hm)
        ·
          refine w_iload_n (pc := 21) hX dX8_way_21 rfl rfl ?_
          refine w_aload_n (pc := 22) hX dX8_way_22 rfl rfl ?_
          refine gf_X8_wayCells (pc := 23) hX dX8_way_23 hX8 (List.mem_of_getElem? (i := 2) rfl) 0 rfl rfl ?_
          refine w_icmp_ge (pc := 26) (tgt := 38) hX dX8_way_26 (by decide) hm (fun hm => ?_) (fun hm => ?_)
          ·
            exact w_lvs [false, false, false] (hj5 () hm)
          ·
            refine w_aload_n (pc := 29) hX dX8_way_29 rfl rfl ?_
            refine gf_X8_steps (pc := 30) hX dX8_way_30 hX8 (List.mem_of_getElem? (i := 3) rfl) 0 rfl rfl ?_
            refine w_iload_n (pc := 33) hX dX8_way_33 rfl rfl ?_
            refine w_iald (pc := 34) hX dX8_way_34 9 rfl hm (fun hm => ?_)
            refine w_goto (pc := 35) (tgt := 40) hX dX8_way_35 (by decide) ?_
            exact w_lvs [false, false, false] (hj3 (r1.2.2.2.2.1 g1.toNatClampNeg) hm)
  ·
    refine w_iconst (pc := 4) hX dX8_way_4 ic_m1 ?_
    obtain rfl := som hm
    exact w_iret (pc := 5) hX hR dX8_way_5 ⟨rfl, rfl⟩

theorem lX8_drawn_X8 : ∀ w ∈ wsX80, w ∈ wsX8_drawn := in_at [55, 56, 57, 58, 59, 60, 61, 62, 63, 64, 65, 66, 67, 68, 69, 70, 71, 72, 73, 74, 75, 76, 77, 78] (by decide +kernel)
set_option maxHeartbeats 4000000 in
set_option maxRecDepth 100000 in
theorem ctX8_drawn (G : gT) (F : Nat) (a_t : Nat → Nat) (m_s : nF) (m_begun : nF) (m_kept : nF) (m_isKept : Int32) (m_past : nF) (m_states : Int32) (m_text : nF) (m_length : Int32) (m_far : nF) (m_queue : nF) (m_isOn : nF) (m_steps : nF) (m_wayCells : Int32) (m_turns : Int32) (m_visits : nF) (m_wasSo : nF) (m_bestAway : Int32) (m_bestMade : Int32) (m_bestFault : Int32) (m_isHere : nF) (m_place : Int32) (m_reason : Int32) (m_wide : Int32) (m_high : Int32) (g1 : Int32) (o : (Int32 × nF × nF × nF × nF × Int32 × Int32 × nF × nF)) (hm : mX8_drawn F m_s m_far m_queue m_isOn m_steps m_wayCells m_turns m_visits m_wasSo g1 = some o) : CT G yX8_drawn wsX8_drawn rmX8_drawn [.ref (a_t 0), .int g1] (wX8 G a_t m_s m_begun m_kept m_isKept m_past m_states m_text m_length m_far m_queue m_isOn m_steps m_wayCells m_turns m_visits m_wasSo m_bestAway m_bestMade m_bestFault m_isHere m_place m_reason m_wide m_high) (fun v w => v = some (.int o.1) ∧ w = wX8 G a_t m_s m_begun m_kept m_isKept m_past m_states m_text m_length o.2.1 o.2.2.1 o.2.2.2.1 o.2.2.2.2.1 o.2.2.2.2.2.1 o.2.2.2.2.2.2.1 o.2.2.2.2.2.2.2.1 o.2.2.2.2.2.2.2.2 m_bestAway m_bestMade m_bestFault m_isHere m_place m_reason m_wide m_high) := by
  refine CT_of (cc := cX8_drawn) (maxL := 2) (ret := (some .int)) 0 (by decide +kernel) rfl rfl (cat_ok rfl) (fun X hX hR hN => ?_)
  have hX : Ok G X cX8_drawn RX8 wsX8_drawn 2 rmX8_drawn := hX
  have hX8 : ∀ w ∈ wsX80, w ∈ wsX8_drawn := lX8_drawn_X8
  unfold mX8_drawn at hm
  refine w_iload_n (pc := 0) hX dX8_drawn_0 rfl rfl ?_
  rcases Decidable.em (g1 = (0 : Int32)) with hc1 | hc1
  ·
    replace hm := ite_t hm hc1
    refine w_tabIn (pc := 1) (tgt := 36) hX dX8_drawn_1 0 (by rw [hc1]; decide) (by decide) (by decide) rfl (by decide) ?_
    refine w_aload_n (pc := 36) hX dX8_drawn_36 rfl rfl ?_
    refine w_aload_n (pc := 37) hX dX8_drawn_37 rfl rfl ?_
    refine gf_X8_s (pc := 38) hX dX8_drawn_38 hX8 (List.mem_of_getElem? (i := 1) rfl) 0 rfl rfl ?_
    refine w_iconst (pc := 41) hX dX8_drawn_41 ic_4 ?_
    refine w_iald (pc := 42) hX dX8_drawn_42 1 rfl hm (fun hm => ?_)
    obtain ⟨r2, hr2, hm⟩ := bnd hm
    refine w_calldi (pc := 43) (ws' := wX8 G a_t m_s m_begun m_kept m_isKept m_past m_states m_text m_length r2.2.1 r2.2.2.1 r2.2.2.2.1 r2.2.2.2.2.1 r2.2.2.2.2.2.1 r2.2.2.2.2.2.2 m_visits m_wasSo m_bestAway m_bestMade m_bestFault m_isHere m_place m_reason m_wide m_high) (os := [some 0, some 1, some 2, some 3, some 4, some 5, some 6, some 7, some 8, some 9, some 10, some 11, some 12]) 13 hX [0, 1, 2, 3, 4, 5, 6, 7, 8, 9, 10, 11, 12] (runV (rest := []) hX [0, 1, 2, 3, 4, 5, 6, 7, 8, 9, 10, 11, 12] (ctX8_findsWay G F a_t m_s m_begun m_kept m_isKept m_past m_states m_text m_length m_far m_queue m_isOn m_steps m_wayCells m_turns m_visits m_wasSo m_bestAway m_bestMade m_bestFault m_isHere m_place m_reason m_wide m_high (m_s (4 : Int32).toNatClampNeg) r2 hr2) dX8_drawn_43 1 gX8_drawn_X8_findsWay rfl hyX8_findsWay ⟨Nat.le_of_ble_eq_true rfl, Nat.le_of_ble_eq_true rfl⟩ 0 rfl rfl rfl rfl (Nat.le_of_ble_eq_true rfl) ⟨Nat.le_of_ble_eq_true rfl, Nat.le_of_ble_eq_true rfl⟩ rfl (by decide +kernel)) rfl rfl rfl (by decide +kernel) rfl ⟨rfl, rfl⟩ ?_
    refine w_jn (T := fun x3 : Int32 => WW G X 0 0 (wX8 G a_t m_s m_begun m_kept m_isKept m_past m_states m_text m_length r2.2.1 r2.2.2.1 r2.2.2.2.1 r2.2.2.2.2.1 r2.2.2.2.2.2.1 r2.2.2.2.2.2.2 m_visits m_wasSo m_bestAway m_bestMade m_bestFault m_isHere m_place m_reason m_wide m_high) [none, none] 58 [.int x3]) hm (fun x3 hm => ?_) (fun j4 hj4 hm => ?_)
    ·
      obtain rfl := som hm
      exact w_iret (pc := 58) hX hR dX8_drawn_58 ⟨rfl, rfl⟩
    ·
      refine w_if_eq (pc := 46) (tgt := 56) hX dX8_drawn_46 (by decide) hm (fun hm => ?_) (fun hm => ?_)
      ·
        refine w_bipush (pc := 56) hX dX8_drawn_56 bp_m4 ?_
        exact w_lvs [false, false] (hj4 (-4 : Int32) hm)
      ·
        refine w_aload_n (pc := 49) hX dX8_drawn_49 rfl rfl ?_
        refine gf_X8_wayCells (pc := 50) hX dX8_drawn_50 hX8 (List.mem_of_getElem? (i := 2) rfl) 0 rfl rfl ?_
        refine w_goto (pc := 53) (tgt := 58) hX dX8_drawn_53 (by decide) ?_
        exact w_lvs [false, false] (hj4 r2.2.2.2.2.2.1 hm)
  ·
    replace hm := ite_f hm hc1
    rcases Decidable.em (g1 = (1 : Int32)) with hc5 | hc5
    ·
      replace hm := ite_t hm hc5
      refine w_tabIn (pc := 1) (tgt := 59) hX dX8_drawn_1 1 (by rw [hc5]; decide) (by decide) (by decide) rfl (by decide) ?_
      refine w_aload_n (pc := 59) hX dX8_drawn_59 rfl rfl ?_
      obtain ⟨r6, hr6, hm⟩ := bnd hm
      refine w_calldi (pc := 60) (ws' := wX8 G a_t m_s m_begun m_kept m_isKept m_past m_states m_text m_length r6.2.1 r6.2.2.1 r6.2.2.2.1 r6.2.2.2.2.1 r6.2.2.2.2.2.1 r6.2.2.2.2.2.2 m_visits m_wasSo m_bestAway m_bestMade m_bestFault m_isHere m_place m_reason m_wide m_high) (os := [some 0, some 1, some 2, some 3, some 4, some 5, some 6, some 7, some 8, some 9, some 10, some 11, some 12]) 13 hX [0, 1, 2, 3, 4, 5, 6, 7, 8, 9, 10, 11, 12] (runV (rest := []) hX [0, 1, 2, 3, 4, 5, 6, 7, 8, 9, 10, 11, 12] (ctX8_wayFault G F a_t m_s m_begun m_kept m_isKept m_past m_states m_text m_length m_far m_queue m_isOn m_steps m_wayCells m_turns m_visits m_wasSo m_bestAway m_bestMade m_bestFault m_isHere m_place m_reason m_wide m_high r6 hr6) dX8_drawn_60 0 gX8_drawn_X8_wayFault rfl hyX8_wayFault ⟨Nat.le_of_ble_eq_true rfl, Nat.le_of_ble_eq_true rfl⟩ 0 rfl rfl rfl rfl (Nat.le_of_ble_eq_true rfl) ⟨Nat.le_of_ble_eq_true rfl, Nat.le_of_ble_eq_true rfl⟩ rfl (by decide +kernel)) rfl rfl rfl (by decide +kernel) rfl ⟨rfl, rfl⟩ ?_
      obtain rfl := som hm
      exact w_iret (pc := 63) hX hR dX8_drawn_63 ⟨rfl, rfl⟩
    ·
      replace hm := ite_f hm hc5
      rcases Decidable.em (g1 = (2 : Int32)) with hc7 | hc7
      ·
        replace hm := ite_t hm hc7
        refine w_tabIn (pc := 1) (tgt := 64) hX dX8_drawn_1 2 (by rw [hc7]; decide) (by decide) (by decide) rfl (by decide) ?_
        refine w_aload_n (pc := 64) hX dX8_drawn_64 rfl rfl ?_
        obtain ⟨r8, hr8, hm⟩ := bnd hm
        refine w_calldi (pc := 65) (ws' := wX8 G a_t m_s m_begun m_kept m_isKept m_past m_states m_text m_length m_far m_queue m_isOn m_steps m_wayCells m_turns r8.2.1 r8.2.2 m_bestAway m_bestMade m_bestFault m_isHere m_place m_reason m_wide m_high) (os := [some 0, some 1, some 2, some 3, some 4, some 5, some 6, some 7, some 8, some 9, some 10, some 11, some 12]) 13 hX [0, 1, 2, 3, 4, 5, 6, 7, 8, 9, 10, 11, 12] (runV (rest := []) hX [0, 1, 2, 3, 4, 5, 6, 7, 8, 9, 10, 11, 12] (ctX8_walks G F a_t m_s m_begun m_kept m_isKept m_past m_states m_text m_length m_far m_queue m_isOn m_steps m_wayCells m_turns m_visits m_wasSo m_bestAway m_bestMade m_bestFault m_isHere m_place m_reason m_wide m_high r8 hr8) dX8_drawn_65 0 gX8_drawn_X8_walks rfl hyX8_walks ⟨Nat.le_of_ble_eq_true rfl, Nat.le_of_ble_eq_true rfl⟩ 0 rfl rfl rfl rfl (Nat.le_of_ble_eq_true rfl) ⟨Nat.le_of_ble_eq_true rfl, Nat.le_of_ble_eq_true rfl⟩ rfl (by decide +kernel)) rfl rfl rfl (by decide +kernel) rfl ⟨rfl, rfl⟩ ?_
        refine w_jn (T := fun x9 : Int32 => WW G X 0 0 (wX8 G a_t m_s m_begun m_kept m_isKept m_past m_states m_text m_length m_far m_queue m_isOn m_steps m_wayCells m_turns r8.2.1 r8.2.2 m_bestAway m_bestMade m_bestFault m_isHere m_place m_reason m_wide m_high) [none, none] 80 [.int x9]) hm (fun x9 hm => ?_) (fun j10 hj10 hm => ?_)
        ·
          obtain rfl := som hm
          exact w_iret (pc := 80) hX hR dX8_drawn_80 ⟨rfl, rfl⟩
        ·
          refine w_if_eq (pc := 68) (tgt := 78) hX dX8_drawn_68 (by decide) hm (fun hm => ?_) (fun hm => ?_)
          ·
            refine w_bipush (pc := 78) hX dX8_drawn_78 bp_m4 ?_
            exact w_lvs [false, false] (hj10 (-4 : Int32) hm)
          ·
            refine w_aload_n (pc := 71) hX dX8_drawn_71 rfl rfl ?_
            obtain ⟨r11, hr11, hm⟩ := bnd hm
            refine w_callpi (pc := 72) hX [0, 1, 2, 3, 4, 5, 6, 7, 8, 9, 10, 11, 12] (runV (rest := []) hX [0, 1, 2, 3, 4, 5, 6, 7, 8, 9, 10, 11, 12] (ctX8_walkCells G F a_t m_s m_begun m_kept m_isKept m_past m_states m_text m_length m_far m_queue m_isOn m_steps m_wayCells m_turns r8.2.1 r8.2.2 m_bestAway m_bestMade m_bestFault m_isHere m_place m_reason m_wide m_high r11 hr11) dX8_drawn_72 0 gX8_drawn_X8_walkCells rfl hyX8_walkCells ⟨Nat.le_of_ble_eq_true rfl, Nat.le_of_ble_eq_true rfl⟩ 0 rfl rfl rfl rfl (Nat.le_of_ble_eq_true rfl) ⟨Nat.le_of_ble_eq_true rfl, Nat.le_of_ble_eq_true rfl⟩ rfl (by decide +kernel)) rfl ⟨rfl, rfl⟩ ?_
            refine w_goto (pc := 75) (tgt := 80) hX dX8_drawn_75 (by decide) ?_
            exact w_lvs [false, false] (hj10 r11 hm)
      ·
        replace hm := ite_f hm hc7
        rcases Decidable.em (g1 = (3 : Int32)) with hc12 | hc12
        ·
          replace hm := ite_t hm hc12
          refine w_tabIn (pc := 1) (tgt := 81) hX dX8_drawn_1 3 (by rw [hc12]; decide) (by decide) (by decide) rfl (by decide) ?_
          refine w_aload_n (pc := 81) hX dX8_drawn_81 rfl rfl ?_
          obtain ⟨r13, hr13, hm⟩ := bnd hm
          refine w_calldi (pc := 82) (ws' := wX8 G a_t m_s m_begun m_kept m_isKept m_past m_states m_text m_length m_far m_queue m_isOn m_steps m_wayCells m_turns r13.2.1 r13.2.2 m_bestAway m_bestMade m_bestFault m_isHere m_place m_reason m_wide m_high) (os := [some 0, some 1, some 2, some 3, some 4, some 5, some 6, some 7, some 8, some 9, some 10, some 11, some 12]) 13 hX [0, 1, 2, 3, 4, 5, 6, 7, 8, 9, 10, 11, 12] (runV (rest := []) hX [0, 1, 2, 3, 4, 5, 6, 7, 8, 9, 10, 11, 12] (ctX8_walks G F a_t m_s m_begun m_kept m_isKept m_past m_states m_text m_length m_far m_queue m_isOn m_steps m_wayCells m_turns m_visits m_wasSo m_bestAway m_bestMade m_bestFault m_isHere m_place m_reason m_wide m_high r13 hr13) dX8_drawn_82 0 gX8_drawn_X8_walks rfl hyX8_walks ⟨Nat.le_of_ble_eq_true rfl, Nat.le_of_ble_eq_true rfl⟩ 0 rfl rfl rfl rfl (Nat.le_of_ble_eq_true rfl) ⟨Nat.le_of_ble_eq_true rfl, Nat.le_of_ble_eq_true rfl⟩ rfl (by decide +kernel)) rfl rfl rfl (by decide +kernel) rfl ⟨rfl, rfl⟩ ?_
          refine w_jn (T := fun x14 : Int32 => WW G X 0 0 (wX8 G a_t m_s m_begun m_kept m_isKept m_past m_states m_text m_length m_far m_queue m_isOn m_steps m_wayCells m_turns r13.2.1 r13.2.2 m_bestAway m_bestMade m_bestFault m_isHere m_place m_reason m_wide m_high) [none, none] 97 [.int x14]) hm (fun x14 hm => ?_) (fun j15 hj15 hm => ?_)
          ·
            obtain rfl := som hm
            exact w_iret (pc := 97) hX hR dX8_drawn_97 ⟨rfl, rfl⟩
          ·
            refine w_if_eq (pc := 85) (tgt := 95) hX dX8_drawn_85 (by decide) hm (fun hm => ?_) (fun hm => ?_)
            ·
              refine w_bipush (pc := 95) hX dX8_drawn_95 bp_m4 ?_
              exact w_lvs [false, false] (hj15 (-4 : Int32) hm)
            ·
              refine w_aload_n (pc := 88) hX dX8_drawn_88 rfl rfl ?_
              obtain ⟨r16, hr16, hm⟩ := bnd hm
              refine w_callpi (pc := 89) hX [0, 1, 2, 3, 4, 5, 6, 7, 8, 9, 10, 11, 12] (runV (rest := []) hX [0, 1, 2, 3, 4, 5, 6, 7, 8, 9, 10, 11, 12] (ctX8_walkFault G F a_t m_s m_begun m_kept m_isKept m_past m_states m_text m_length m_far m_queue m_isOn m_steps m_wayCells m_turns r13.2.1 r13.2.2 m_bestAway m_bestMade m_bestFault m_isHere m_place m_reason m_wide m_high r16 hr16) dX8_drawn_89 0 gX8_drawn_X8_walkFault rfl hyX8_walkFault ⟨Nat.le_of_ble_eq_true rfl, Nat.le_of_ble_eq_true rfl⟩ 0 rfl rfl rfl rfl (Nat.le_of_ble_eq_true rfl) ⟨Nat.le_of_ble_eq_true rfl, Nat.le_of_ble_eq_true rfl⟩ rfl (by decide +kernel)) rfl ⟨rfl, rfl⟩ ?_
              refine w_goto (pc := 92) (tgt := 97) hX dX8_drawn_92 (by decide) ?_
              exact w_lvs [false, false] (hj15 r16 hm)
        ·
          replace hm := ite_f hm hc12
          rcases Decidable.em (g1 = (4 : Int32)) with hc17 | hc17
          ·
            replace hm := ite_t hm hc17
            refine w_tabIn (pc := 1) (tgt := 98) hX dX8_drawn_1 4 (by rw [hc17]; decide) (by decide) (by decide) rfl (by decide) ?_
            refine w_aload_n (pc := 98) hX dX8_drawn_98 rfl rfl ?_
            refine w_aload_n (pc := 99) hX dX8_drawn_99 rfl rfl ?_
            refine gf_X8_s (pc := 100) hX dX8_drawn_100 hX8 (List.mem_of_getElem? (i := 1) rfl) 0 rfl rfl ?_
            refine w_iconst (pc := 103) hX dX8_drawn_103 ic_4 ?_
            refine w_iald (pc := 104) hX dX8_drawn_104 1 rfl hm (fun hm => ?_)
            obtain ⟨r18, hr18, hm⟩ := bnd hm
            refine w_calldi (pc := 105) (ws' := wX8 G a_t m_s m_begun m_kept m_isKept m_past m_states m_text m_length r18.2.1 r18.2.2.1 r18.2.2.2.1 r18.2.2.2.2.1 r18.2.2.2.2.2.1 r18.2.2.2.2.2.2 m_visits m_wasSo m_bestAway m_bestMade m_bestFault m_isHere m_place m_reason m_wide m_high) (os := [some 0, some 1, some 2, some 3, some 4, some 5, some 6, some 7, some 8, some 9, some 10, some 11, some 12]) 13 hX [0, 1, 2, 3, 4, 5, 6, 7, 8, 9, 10, 11, 12] (runV (rest := []) hX [0, 1, 2, 3, 4, 5, 6, 7, 8, 9, 10, 11, 12] (ctX8_findsWay G F a_t m_s m_begun m_kept m_isKept m_past m_states m_text m_length m_far m_queue m_isOn m_steps m_wayCells m_turns m_visits m_wasSo m_bestAway m_bestMade m_bestFault m_isHere m_place m_reason m_wide m_high (m_s (4 : Int32).toNatClampNeg) r18 hr18) dX8_drawn_105 1 gX8_drawn_X8_findsWay rfl hyX8_findsWay ⟨Nat.le_of_ble_eq_true rfl, Nat.le_of_ble_eq_true rfl⟩ 0 rfl rfl rfl rfl (Nat.le_of_ble_eq_true rfl) ⟨Nat.le_of_ble_eq_true rfl, Nat.le_of_ble_eq_true rfl⟩ rfl (by decide +kernel)) rfl rfl rfl (by decide +kernel) rfl ⟨rfl, rfl⟩ ?_
            refine w_jn (T := fun x19 : Int32 => WW G X 0 0 (wX8 G a_t m_s m_begun m_kept m_isKept m_past m_states m_text m_length r18.2.1 r18.2.2.1 r18.2.2.2.1 r18.2.2.2.2.1 r18.2.2.2.2.2.1 r18.2.2.2.2.2.2 m_visits m_wasSo m_bestAway m_bestMade m_bestFault m_isHere m_place m_reason m_wide m_high) [none, none] 120 [.int x19]) hm (fun x19 hm => ?_) (fun j20 hj20 hm => ?_)
            ·
              obtain rfl := som hm
              exact w_iret (pc := 120) hX hR dX8_drawn_120 ⟨rfl, rfl⟩
            ·
              refine w_if_eq (pc := 108) (tgt := 118) hX dX8_drawn_108 (by decide) hm (fun hm => ?_) (fun hm => ?_)
              ·
                refine w_bipush (pc := 118) hX dX8_drawn_118 bp_m4 ?_
                exact w_lvs [false, false] (hj20 (-4 : Int32) hm)
              ·
                refine w_aload_n (pc := 111) hX dX8_drawn_111 rfl rfl ?_
                refine gf_X8_turns (pc := 112) hX dX8_drawn_112 hX8 (List.mem_of_getElem? (i := 3) rfl) 0 rfl rfl ?_
                refine w_goto (pc := 115) (tgt := 120) hX dX8_drawn_115 (by decide) ?_
                exact w_lvs [false, false] (hj20 r18.2.2.2.2.2.2 hm)
          ·
            replace hm := ite_f hm hc17
            refine w_tabOut (pc := 1) (tgt := 121) hX dX8_drawn_1 (tsw_out (n := 4) (fun i hi => by rcases (show i = 0 ∨ i = 1 ∨ i = 2 ∨ i = 3 ∨ i = 4 by omega) with rfl | rfl | rfl | rfl | rfl <;> assumption)) (by decide) ?_
            refine w_iconst (pc := 121) hX dX8_drawn_121 ic_m1 ?_
            obtain rfl := som hm
            exact w_iret (pc := 122) hX hR dX8_drawn_122 ⟨rfl, rfl⟩

theorem lX8_between_X8 : ∀ w ∈ wsX80, w ∈ wsX8_between := in_at [35, 36, 37, 38, 39, 40, 41, 42, 43, 44, 45, 46, 47, 48, 49, 50, 51, 52, 53, 54, 55, 56, 57, 58] (by decide +kernel)
set_option maxHeartbeats 4000000 in
set_option maxRecDepth 100000 in
theorem ctX8_between (G : gT) (F : Nat) (a_t : Nat → Nat) (m_s : nF) (m_begun : nF) (m_kept : nF) (m_isKept : Int32) (m_past : nF) (m_states : Int32) (m_text : nF) (m_length : Int32) (m_far : nF) (m_queue : nF) (m_isOn : nF) (m_steps : nF) (m_wayCells : Int32) (m_turns : Int32) (m_visits : nF) (m_wasSo : nF) (m_bestAway : Int32) (m_bestMade : Int32) (m_bestFault : Int32) (m_isHere : nF) (m_place : Int32) (m_reason : Int32) (m_wide : Int32) (m_high : Int32) (g1 : Int32) (g2 : Int32) (o : (Int32 × nF × nF)) (hm : mX8_between F m_s m_far m_queue g1 g2 = some o) : CT G yX8_between wsX8_between rmX8_between [.ref (a_t 0), .int g1, .int g2] (wX8 G a_t m_s m_begun m_kept m_isKept m_past m_states m_text m_length m_far m_queue m_isOn m_steps m_wayCells m_turns m_visits m_wasSo m_bestAway m_bestMade m_bestFault m_isHere m_place m_reason m_wide m_high) (fun v w => v = some (.int o.1) ∧ w = wX8 G a_t m_s m_begun m_kept m_isKept m_past m_states m_text m_length o.2.1 o.2.2 m_isOn m_steps m_wayCells m_turns m_visits m_wasSo m_bestAway m_bestMade m_bestFault m_isHere m_place m_reason m_wide m_high) := by
  refine CT_of (cc := cX8_between) (maxL := 3) (ret := (some .int)) 0 (by decide +kernel) rfl rfl (cat_ok rfl) (fun X hX hR hN => ?_)
  have hX : Ok G X cX8_between RX8 wsX8_between 3 rmX8_between := hX
  have hX8 : ∀ w ∈ wsX80, w ∈ wsX8_between := lX8_between_X8
  unfold mX8_between at hm
  refine w_aload_n (pc := 0) hX dX8_between_0 rfl rfl ?_
  refine w_iload_n (pc := 1) hX dX8_between_1 rfl rfl ?_
  obtain ⟨r1, hr1, hm⟩ := bnd hm
  refine w_callpi (pc := 2) hX [0, 1, 2, 3, 4, 5, 6, 7, 8, 9, 10, 11, 12] (runV (rest := []) hX [0, 1, 2, 3, 4, 5, 6, 7, 8, 9, 10, 11, 12] (ctX8_isCell G a_t m_s m_begun m_kept m_isKept m_past m_states m_text m_length m_far m_queue m_isOn m_steps m_wayCells m_turns m_visits m_wasSo m_bestAway m_bestMade m_bestFault m_isHere m_place m_reason m_wide m_high g1 r1 hr1) dX8_between_2 1 gX8_between_X8_isCell rfl hyX8_isCell ⟨Nat.le_of_ble_eq_true rfl, Nat.le_of_ble_eq_true rfl⟩ 0 rfl rfl rfl rfl (Nat.le_of_ble_eq_true rfl) ⟨Nat.le_of_ble_eq_true rfl, Nat.le_of_ble_eq_true rfl⟩ rfl (by decide +kernel)) rfl ⟨rfl, rfl⟩ ?_
  refine w_jn (T := fun x2 : Unit => WW G X 0 0 (wX8 G a_t m_s m_begun m_kept m_isKept m_past m_states m_text m_length m_far m_queue m_isOn m_steps m_wayCells m_turns m_visits m_wasSo m_bestAway m_bestMade m_bestFault m_isHere m_place m_reason m_wide m_high) [none, none, none] 16 []) hm (fun x2 hm => ?_) (fun j3 hj3 hm => ?_)
  ·
    refine w_iconst (pc := 16) hX dX8_between_16 ic_m1 ?_
    obtain rfl := som hm
    exact w_iret (pc := 17) hX hR dX8_between_17 ⟨rfl, rfl⟩
  ·
    refine w_if_eq (pc := 5) (tgt := 16) hX dX8_between_5 (by decide) hm (fun hm => ?_) (fun hm => ?_)
    ·
      exact w_lvs [false, false, false] (hj3 () hm)
    ·
      refine w_aload_n (pc := 8) hX dX8_between_8 rfl rfl ?_
      refine w_iload_n (pc := 9) hX dX8_between_9 rfl rfl ?_
      obtain ⟨r4, hr4, hm⟩ := bnd hm
      refine w_callpi (pc := 10) hX [0, 1, 2, 3, 4, 5, 6, 7, 8, 9, 10, 11, 12] (runV (rest := []) hX [0, 1, 2, 3, 4, 5, 6, 7, 8, 9, 10, 11, 12] (ctX8_isCell G a_t m_s m_begun m_kept m_isKept m_past m_states m_text m_length m_far m_queue m_isOn m_steps m_wayCells m_turns m_visits m_wasSo m_bestAway m_bestMade m_bestFault m_isHere m_place m_reason m_wide m_high g2 r4 hr4) dX8_between_10 1 gX8_between_X8_isCell rfl hyX8_isCell ⟨Nat.le_of_ble_eq_true rfl, Nat.le_of_ble_eq_true rfl⟩ 0 rfl rfl rfl rfl (Nat.le_of_ble_eq_true rfl) ⟨Nat.le_of_ble_eq_true rfl, Nat.le_of_ble_eq_true rfl⟩ rfl (by decide +kernel)) rfl ⟨rfl, rfl⟩ ?_
      refine w_if_ne (pc := 13) (tgt := 18) hX dX8_between_13 (by decide) hm (fun hm => ?_) (fun hm => ?_)
      ·
        refine w_aload_n (pc := 18) hX dX8_between_18 rfl rfl ?_
        refine w_iload_n (pc := 19) hX dX8_between_19 rfl rfl ?_
        obtain ⟨r5, hr5, hm⟩ := bnd hm
        refine w_calldv (pc := 20) (ws' := wX8 G a_t m_s m_begun m_kept m_isKept m_past m_states m_text m_length r5.1 r5.2 m_isOn m_steps m_wayCells m_turns m_visits m_wasSo m_bestAway m_bestMade m_bestFault m_isHere m_place m_reason m_wide m_high) (os := [some 0, some 1, some 2, some 3, some 4, some 5, some 6, some 7, some 8, some 9, some 10, some 11, some 12]) 13 hX [0, 1, 2, 3, 4, 5, 6, 7, 8, 9, 10, 11, 12] (runV (rest := []) hX [0, 1, 2, 3, 4, 5, 6, 7, 8, 9, 10, 11, 12] (ctX8_measures G F a_t m_s m_begun m_kept m_isKept m_past m_states m_text m_length m_far m_queue m_isOn m_steps m_wayCells m_turns m_visits m_wasSo m_bestAway m_bestMade m_bestFault m_isHere m_place m_reason m_wide m_high g1 r5 hr5) dX8_between_20 1 gX8_between_X8_measures rfl hyX8_measures ⟨Nat.le_of_ble_eq_true rfl, Nat.le_of_ble_eq_true rfl⟩ 0 rfl rfl rfl rfl (Nat.le_of_ble_eq_true rfl) ⟨Nat.le_of_ble_eq_true rfl, Nat.le_of_ble_eq_true rfl⟩ rfl (by decide +kernel)) rfl rfl rfl (by decide +kernel) rfl ⟨rfl, rfl⟩ ?_
        refine w_aload_n (pc := 23) hX dX8_between_23 rfl rfl ?_
        refine gf_X8_far (pc := 24) hX dX8_between_24 hX8 (List.mem_of_getElem? (i := 1) rfl) 0 rfl rfl ?_
        refine w_iload_n (pc := 27) hX dX8_between_27 rfl rfl ?_
        refine w_iald (pc := 28) hX dX8_between_28 6 rfl hm (fun hm => ?_)
        obtain ⟨r6, hr6, hm⟩ := bnd hm
        refine w_callpi (pc := 29) hX [] (runS (rest := []) hX [] (ctX8_orNone G (r5.1 g2.toNatClampNeg) r6 hr6) dX8_between_29 1 gX8_between_X8_orNone rfl hyX8_orNone.2 ⟨Nat.le_of_ble_eq_true rfl, Nat.le_of_ble_eq_true rfl⟩ rfl rfl (Nat.le_of_ble_eq_true rfl) ⟨Nat.le_of_ble_eq_true rfl, Nat.le_of_ble_eq_true rfl⟩ rfl (by decide +kernel)) rfl ⟨rfl, rfl⟩ ?_
        obtain rfl := som hm
        exact w_iret (pc := 32) hX hR dX8_between_32 ⟨rfl, rfl⟩
      ·
        exact w_lvs [false, false, false] (hj3 () hm)
