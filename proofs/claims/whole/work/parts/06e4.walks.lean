/-! WALKS, printed by wip/whole/gen.py -/
theorem lX8_best_X8 : ∀ w ∈ wsX80, w ∈ wsX8_best := in_at [73, 74, 75, 76, 77, 78, 79, 80, 81, 82, 83, 84, 85, 86, 87, 88, 89, 90, 91, 92, 93, 94, 95, 96] (by decide +kernel)
set_option maxHeartbeats 4000000 in
set_option maxRecDepth 100000 in
theorem ctX8_best (G : gT) (F : Nat) (a_t : Nat → Nat) (m_s : nF) (m_begun : nF) (m_kept : nF) (m_isKept : Int32) (m_past : nF) (m_states : Int32) (m_text : nF) (m_length : Int32) (m_far : nF) (m_queue : nF) (m_isOn : nF) (m_steps : nF) (m_wayCells : Int32) (m_turns : Int32) (m_visits : nF) (m_wasSo : nF) (m_bestAway : Int32) (m_bestMade : Int32) (m_bestFault : Int32) (m_isHere : nF) (m_place : Int32) (m_reason : Int32) (m_wide : Int32) (m_high : Int32) (g1 : Int32) (o : (Int32 × nF × nF × nF × nF × nF × Int32 × Int32 × Int32 × Int32 × Int32 × nF)) (hm : mX8_best F m_s m_far m_queue m_isOn m_steps m_wayCells m_turns m_bestAway m_bestMade m_bestFault m_isHere g1 = some o) : CT G yX8_best wsX8_best rmX8_best [.ref (a_t 0), .int g1] (wX8 G a_t m_s m_begun m_kept m_isKept m_past m_states m_text m_length m_far m_queue m_isOn m_steps m_wayCells m_turns m_visits m_wasSo m_bestAway m_bestMade m_bestFault m_isHere m_place m_reason m_wide m_high) (fun v w => v = some (.int o.1) ∧ w = wX8 G a_t o.2.1 m_begun m_kept m_isKept m_past m_states m_text m_length o.2.2.1 o.2.2.2.1 o.2.2.2.2.1 o.2.2.2.2.2.1 o.2.2.2.2.2.2.1 o.2.2.2.2.2.2.2.1 m_visits m_wasSo o.2.2.2.2.2.2.2.2.1 o.2.2.2.2.2.2.2.2.2.1 o.2.2.2.2.2.2.2.2.2.2.1 o.2.2.2.2.2.2.2.2.2.2.2 m_place m_reason m_wide m_high) := by
  refine CT_of (cc := cX8_best) (maxL := 2) (ret := (some .int)) 0 (by decide +kernel) rfl rfl (cat_ok rfl) (fun X hX hR hN => ?_)
  have hX : Ok G X cX8_best RX8 wsX8_best 2 rmX8_best := hX
  have hX8 : ∀ w ∈ wsX80, w ∈ wsX8_best := lX8_best_X8
  unfold mX8_best at hm
  refine w_iload_n (pc := 0) hX dX8_best_0 rfl rfl ?_
  refine w_iconst (pc := 1) hX dX8_best_1 ic_0 ?_
  refine w_iconst (pc := 2) hX dX8_best_2 ic_2 ?_
  obtain ⟨r1, hr1, hm⟩ := bnd hm
  refine w_callpi (pc := 3) hX [] (runS (rest := []) hX [] (ctX8_in G g1 (0 : Int32) (2 : Int32) r1 hr1) dX8_best_3 3 gX8_best_X8_in rfl hyX8_in.2 ⟨Nat.le_of_ble_eq_true rfl, Nat.le_of_ble_eq_true rfl⟩ rfl rfl (Nat.le_of_ble_eq_true rfl) ⟨Nat.le_of_ble_eq_true rfl, Nat.le_of_ble_eq_true rfl⟩ rfl (by decide +kernel)) rfl ⟨rfl, rfl⟩ ?_
  refine w_if_ne (pc := 6) (tgt := 11) hX dX8_best_6 (by decide) hm (fun hm => ?_) (fun hm => ?_)
  ·
    refine w_aload_n (pc := 11) hX dX8_best_11 rfl rfl ?_
    obtain ⟨r2, hr2, hm⟩ := bnd hm
    refine w_callpi (pc := 12) hX [0, 1, 2, 3, 4, 5, 6, 7, 8, 9, 10, 11, 12] (runV (rest := []) hX [0, 1, 2, 3, 4, 5, 6, 7, 8, 9, 10, 11, 12] (ctX8_isWhole G F a_t m_s m_begun m_kept m_isKept m_past m_states m_text m_length m_far m_queue m_isOn m_steps m_wayCells m_turns m_visits m_wasSo m_bestAway m_bestMade m_bestFault m_isHere m_place m_reason m_wide m_high r2 hr2) dX8_best_12 0 gX8_best_X8_isWhole rfl hyX8_isWhole ⟨Nat.le_of_ble_eq_true rfl, Nat.le_of_ble_eq_true rfl⟩ 0 rfl rfl rfl rfl (Nat.le_of_ble_eq_true rfl) ⟨Nat.le_of_ble_eq_true rfl, Nat.le_of_ble_eq_true rfl⟩ rfl (by decide +kernel)) rfl ⟨rfl, rfl⟩ ?_
    refine w_if_ne (pc := 15) (tgt := 21) hX dX8_best_15 (by decide) hm (fun hm => ?_) (fun hm => ?_)
    ·
      refine w_aload_n (pc := 21) hX dX8_best_21 rfl rfl ?_
      obtain ⟨r3, hr3, hm⟩ := bnd hm
      refine w_calldv (pc := 22) (ws' := wX8 G a_t r3.1 m_begun m_kept m_isKept m_past m_states m_text m_length r3.2.1 r3.2.2.1 r3.2.2.2.1 r3.2.2.2.2.1 r3.2.2.2.2.2.1 r3.2.2.2.2.2.2.1 m_visits m_wasSo r3.2.2.2.2.2.2.2.1 r3.2.2.2.2.2.2.2.2.1 r3.2.2.2.2.2.2.2.2.2.1 r3.2.2.2.2.2.2.2.2.2.2 m_place m_reason m_wide m_high) (os := [some 0, some 1, some 2, some 3, some 4, some 5, some 6, some 7, some 8, some 9, some 10, some 11, some 12]) 13 hX [0, 1, 2, 3, 4, 5, 6, 7, 8, 9, 10, 11, 12] (runV (rest := []) hX [0, 1, 2, 3, 4, 5, 6, 7, 8, 9, 10, 11, 12] (ctX8_looksForBest G F a_t m_s m_begun m_kept m_isKept m_past m_states m_text m_length m_far m_queue m_isOn m_steps m_wayCells m_turns m_visits m_wasSo m_bestAway m_bestMade m_bestFault m_isHere m_place m_reason m_wide m_high r3 hr3) dX8_best_22 0 gX8_best_X8_looksForBest rfl hyX8_looksForBest ⟨Nat.le_of_ble_eq_true rfl, Nat.le_of_ble_eq_true rfl⟩ 0 rfl rfl rfl rfl (Nat.le_of_ble_eq_true rfl) ⟨Nat.le_of_ble_eq_true rfl, Nat.le_of_ble_eq_true rfl⟩ rfl (by decide +kernel)) rfl rfl rfl (by decide +kernel) rfl ⟨rfl, rfl⟩ ?_
      refine w_iload_n (pc := 25) hX dX8_best_25 rfl rfl ?_
      refine w_jn (T := fun x4 : Int32 => WW G X 0 0 (wX8 G a_t r3.1 m_begun m_kept m_isKept m_past m_states m_text m_length r3.2.1 r3.2.2.1 r3.2.2.2.1 r3.2.2.2.2.1 r3.2.2.2.2.2.1 r3.2.2.2.2.2.2.1 m_visits m_wasSo r3.2.2.2.2.2.2.2.1 r3.2.2.2.2.2.2.2.2.1 r3.2.2.2.2.2.2.2.2.2.1 r3.2.2.2.2.2.2.2.2.2.2 m_place m_reason m_wide m_high) [none, none] 52 [.int x4]) hm (fun x4 hm => ?_) (fun j5 hj5 hm => ?_)
      ·
        obtain rfl := som hm
        exact w_iret (pc := 52) hX hR dX8_best_52 ⟨rfl, rfl⟩
      ·
        refine w_if_ne (pc := 26) (tgt := 36) hX dX8_best_26 (by decide) hm (fun hm => ?_) (fun hm => ?_)
        ·
          refine w_iload_n (pc := 36) hX dX8_best_36 rfl rfl ?_
          refine w_iconst (pc := 37) hX dX8_best_37 ic_1 ?_
          refine w_icmp_ne (pc := 38) (tgt := 48) hX dX8_best_38 (by decide) hm (fun hm => ?_) (fun hm => ?_)
          ·
            refine w_aload_n (pc := 48) hX dX8_best_48 rfl rfl ?_
            refine gf_X8_bestFault (pc := 49) hX dX8_best_49 hX8 (List.mem_of_getElem? (i := 3) rfl) 0 rfl rfl ?_
            exact w_lvs [false, false] (hj5 r3.2.2.2.2.2.2.2.2.2.1 hm)
          ·
            refine w_aload_n (pc := 41) hX dX8_best_41 rfl rfl ?_
            refine gf_X8_bestMade (pc := 42) hX dX8_best_42 hX8 (List.mem_of_getElem? (i := 2) rfl) 0 rfl rfl ?_
            refine w_goto (pc := 45) (tgt := 52) hX dX8_best_45 (by decide) ?_
            exact w_lvs [false, false] (hj5 r3.2.2.2.2.2.2.2.2.1 hm)
        ·
          refine w_aload_n (pc := 29) hX dX8_best_29 rfl rfl ?_
          refine gf_X8_bestAway (pc := 30) hX dX8_best_30 hX8 (List.mem_of_getElem? (i := 1) rfl) 0 rfl rfl ?_
          refine w_goto (pc := 33) (tgt := 52) hX dX8_best_33 (by decide) ?_
          exact w_lvs [false, false] (hj5 r3.2.2.2.2.2.2.2.1 hm)
    ·
      refine w_bipush (pc := 18) hX dX8_best_18 bp_m2 ?_
      obtain rfl := som hm
      exact w_iret (pc := 20) hX hR dX8_best_20 ⟨rfl, rfl⟩
  ·
    refine w_iconst (pc := 9) hX dX8_best_9 ic_m1 ?_
    obtain rfl := som hm
    exact w_iret (pc := 10) hX hR dX8_best_10 ⟨rfl, rfl⟩

theorem lX8_tone_X8 : ∀ w ∈ wsX80, w ∈ wsX8_tone := in_at [25, 26, 27, 28, 29, 30, 31, 32, 33, 34, 35, 36, 37, 38, 39, 40, 41, 42, 43, 44, 45, 46, 47, 48] (by decide +kernel)
set_option maxHeartbeats 4000000 in
set_option maxRecDepth 100000 in
theorem ctX8_tone (G : gT) (F : Nat) (a_t : Nat → Nat) (m_s : nF) (m_begun : nF) (m_kept : nF) (m_isKept : Int32) (m_past : nF) (m_states : Int32) (m_text : nF) (m_length : Int32) (m_far : nF) (m_queue : nF) (m_isOn : nF) (m_steps : nF) (m_wayCells : Int32) (m_turns : Int32) (m_visits : nF) (m_wasSo : nF) (m_bestAway : Int32) (m_bestMade : Int32) (m_bestFault : Int32) (m_isHere : nF) (m_place : Int32) (m_reason : Int32) (m_wide : Int32) (m_high : Int32) (g1 : Int32) (g2 : Int32) (o : (Int32 × nF × nF × nF × Int32)) (hm : mX8_tone F m_s m_begun m_past m_states g1 g2 = some o) : CT G yX8_tone wsX8_tone rmX8_tone [.ref (a_t 0), .int g1, .int g2] (wX8 G a_t m_s m_begun m_kept m_isKept m_past m_states m_text m_length m_far m_queue m_isOn m_steps m_wayCells m_turns m_visits m_wasSo m_bestAway m_bestMade m_bestFault m_isHere m_place m_reason m_wide m_high) (fun v w => v = some (.int o.1) ∧ w = wX8 G a_t o.2.1 o.2.2.1 m_kept m_isKept o.2.2.2.1 o.2.2.2.2 m_text m_length m_far m_queue m_isOn m_steps m_wayCells m_turns m_visits m_wasSo m_bestAway m_bestMade m_bestFault m_isHere m_place m_reason m_wide m_high) := by
  refine CT_of (cc := cX8_tone) (maxL := 4) (ret := (some .int)) 1 (by decide +kernel) rfl rfl (cat_ok rfl) (fun X hX hR hN => ?_)
  have hX : Ok G X cX8_tone RX8 wsX8_tone 4 rmX8_tone := hX
  have hX8 : ∀ w ∈ wsX80, w ∈ wsX8_tone := lX8_tone_X8
  unfold mX8_tone at hm
  refine w_aload_n (pc := 0) hX dX8_tone_0 rfl rfl ?_
  obtain ⟨r1, hr1, hm⟩ := bnd hm
  refine w_calldv (pc := 1) (ws' := wX8 G a_t m_s r1 m_kept m_isKept m_past m_states m_text m_length m_far m_queue m_isOn m_steps m_wayCells m_turns m_visits m_wasSo m_bestAway m_bestMade m_bestFault m_isHere m_place m_reason m_wide m_high) (os := [some 0, some 1, some 2, some 3, some 4, some 5, some 6, some 7, some 8, some 9, some 10, some 11, some 12]) 13 hX [0, 1, 2, 3, 4, 5, 6, 7, 8, 9, 10, 11, 12] (runV (rest := []) hX [0, 1, 2, 3, 4, 5, 6, 7, 8, 9, 10, 11, 12] (ctX8_begins G F a_t m_s m_begun m_kept m_isKept m_past m_states m_text m_length m_far m_queue m_isOn m_steps m_wayCells m_turns m_visits m_wasSo m_bestAway m_bestMade m_bestFault m_isHere m_place m_reason m_wide m_high r1 hr1) dX8_tone_1 0 gX8_tone_X8_begins rfl hyX8_begins ⟨Nat.le_of_ble_eq_true rfl, Nat.le_of_ble_eq_true rfl⟩ 0 rfl rfl rfl rfl (Nat.le_of_ble_eq_true rfl) ⟨Nat.le_of_ble_eq_true rfl, Nat.le_of_ble_eq_true rfl⟩ rfl (by decide +kernel)) rfl rfl rfl (by decide +kernel) rfl ⟨rfl, rfl⟩ ?_
  refine w_aload_n (pc := 4) hX dX8_tone_4 rfl rfl ?_
  refine w_iload_n (pc := 5) hX dX8_tone_5 rfl rfl ?_
  obtain ⟨r2, hr2, hm⟩ := bnd hm
  refine w_callpi (pc := 6) hX [0, 1, 2, 3, 4, 5, 6, 7, 8, 9, 10, 11, 12] (runV (rest := []) hX [0, 1, 2, 3, 4, 5, 6, 7, 8, 9, 10, 11, 12] (ctX8_isCell G a_t m_s r1 m_kept m_isKept m_past m_states m_text m_length m_far m_queue m_isOn m_steps m_wayCells m_turns m_visits m_wasSo m_bestAway m_bestMade m_bestFault m_isHere m_place m_reason m_wide m_high g1 r2 hr2) dX8_tone_6 1 gX8_tone_X8_isCell rfl hyX8_isCell ⟨Nat.le_of_ble_eq_true rfl, Nat.le_of_ble_eq_true rfl⟩ 0 rfl rfl rfl rfl (Nat.le_of_ble_eq_true rfl) ⟨Nat.le_of_ble_eq_true rfl, Nat.le_of_ble_eq_true rfl⟩ rfl (by decide +kernel)) rfl ⟨rfl, rfl⟩ ?_
  refine w_jn (T := fun x3 : Unit => WW G X 0 0 (wX8 G a_t m_s r1 m_kept m_isKept m_past m_states m_text m_length m_far m_queue m_isOn m_steps m_wayCells m_turns m_visits m_wasSo m_bestAway m_bestMade m_bestFault m_isHere m_place m_reason m_wide m_high) [none, none, none, none] 22 []) hm (fun x3 hm => ?_) (fun j4 hj4 hm => ?_)
  ·
    refine w_iconst (pc := 22) hX dX8_tone_22 ic_m1 ?_
    obtain rfl := som hm
    exact w_iret (pc := 23) hX hR dX8_tone_23 ⟨rfl, rfl⟩
  ·
    refine w_if_eq (pc := 9) (tgt := 22) hX dX8_tone_9 (by decide) hm (fun hm => ?_) (fun hm => ?_)
    ·
      exact w_lvs [false, false, false, false] (hj4 () hm)
    ·
      refine w_iload_n (pc := 12) hX dX8_tone_12 rfl rfl ?_
      refine w_iconst (pc := 13) hX dX8_tone_13 ic_0 ?_
      refine w_bipush (pc := 14) hX dX8_tone_14 bp_9 ?_
      obtain ⟨r5, hr5, hm⟩ := bnd hm
      refine w_callpi (pc := 16) hX [] (runS (rest := []) hX [] (ctX8_in G g2 (0 : Int32) (9 : Int32) r5 hr5) dX8_tone_16 3 gX8_tone_X8_in rfl hyX8_in.2 ⟨Nat.le_of_ble_eq_true rfl, Nat.le_of_ble_eq_true rfl⟩ rfl rfl (Nat.le_of_ble_eq_true rfl) ⟨Nat.le_of_ble_eq_true rfl, Nat.le_of_ble_eq_true rfl⟩ rfl (by decide +kernel)) rfl ⟨rfl, rfl⟩ ?_
      refine w_if_ne (pc := 19) (tgt := 24) hX dX8_tone_19 (by decide) hm (fun hm => ?_) (fun hm => ?_)
      ·
        refine w_aload_n (pc := 24) hX dX8_tone_24 rfl rfl ?_
        refine gf_X8_s (pc := 25) hX dX8_tone_25 hX8 (List.mem_of_getElem? (i := 1) rfl) 0 rfl rfl ?_
        refine w_bipush (pc := 28) hX dX8_tone_28 bp_6 ?_
        refine w_iload_n (pc := 30) hX dX8_tone_30 rfl rfl ?_
        refine w_iadd (pc := 31) hX dX8_tone_31 ?_
        refine w_iald (pc := 32) hX dX8_tone_32 1 rfl hm (fun hm => ?_)
        refine w_istore_n (pc := 33) hX dX8_tone_33 rfl (Nat.le_of_ble_eq_true rfl) ?_
        refine w_aload_n (pc := 34) hX dX8_tone_34 rfl rfl ?_
        refine gf_X8_s (pc := 35) hX dX8_tone_35 hX8 (List.mem_of_getElem? (i := 1) rfl) 0 rfl rfl ?_
        refine w_bipush (pc := 38) hX dX8_tone_38 bp_6 ?_
        refine w_iload_n (pc := 40) hX dX8_tone_40 rfl rfl ?_
        refine w_iadd (pc := 41) hX dX8_tone_41 ?_
        refine w_iload_n (pc := 42) hX dX8_tone_42 rfl rfl ?_
        refine w_iast (pc := 43) hX dX8_tone_43 1 rfl hm (fun hm => ?_)
        refine w_aload_n (pc := 44) hX dX8_tone_44 rfl rfl ?_
        refine w_iload_n (pc := 45) hX dX8_tone_45 rfl rfl ?_
        obtain ⟨r6, hr6, hm⟩ := bnd hm
        refine w_calldi (pc := 46) (ws' := wX8 G a_t r6.2.1 r1 m_kept m_isKept r6.2.2.1 r6.2.2.2 m_text m_length m_far m_queue m_isOn m_steps m_wayCells m_turns m_visits m_wasSo m_bestAway m_bestMade m_bestFault m_isHere m_place m_reason m_wide m_high) (os := [some 0, some 1, some 2, some 3, some 4, some 5, some 6, some 7, some 8, some 9, some 10, some 11, some 12]) 13 hX [0, 1, 2, 3, 4, 5, 6, 7, 8, 9, 10, 11, 12] (runV (rest := []) hX [0, 1, 2, 3, 4, 5, 6, 7, 8, 9, 10, 11, 12] (ctX8_acted G F a_t (upd m_s ((6 : Int32) + g1).toNatClampNeg g2) r1 m_kept m_isKept m_past m_states m_text m_length m_far m_queue m_isOn m_steps m_wayCells m_turns m_visits m_wasSo m_bestAway m_bestMade m_bestFault m_isHere m_place m_reason m_wide m_high (m_s ((6 : Int32) + g1).toNatClampNeg) r6 hr6) dX8_tone_46 1 gX8_tone_X8_acted rfl hyX8_acted ⟨Nat.le_of_ble_eq_true rfl, Nat.le_of_ble_eq_true rfl⟩ 0 rfl rfl rfl rfl (Nat.le_of_ble_eq_true rfl) ⟨Nat.le_of_ble_eq_true rfl, Nat.le_of_ble_eq_true rfl⟩ rfl (by decide +kernel)) rfl rfl rfl (by decide +kernel) rfl ⟨rfl, rfl⟩ ?_
        obtain rfl := som hm
        exact w_iret (pc := 49) hX hR dX8_tone_49 ⟨rfl, rfl⟩
      ·
        exact w_lvs [false, false, false, false] (hj4 () hm)

theorem lX8_carve_X8 : ∀ w ∈ wsX80, w ∈ wsX8_carve := in_at [55, 56, 57, 58, 59, 60, 61, 62, 63, 64, 65, 66, 67, 68, 69, 70, 71, 72, 73, 74, 75, 76, 77, 78] (by decide +kernel)
set_option maxHeartbeats 4000000 in
set_option maxRecDepth 100000 in
theorem ctX8_carve (G : gT) (F : Nat) (a_t : Nat → Nat) (m_s : nF) (m_begun : nF) (m_kept : nF) (m_isKept : Int32) (m_past : nF) (m_states : Int32) (m_text : nF) (m_length : Int32) (m_far : nF) (m_queue : nF) (m_isOn : nF) (m_steps : nF) (m_wayCells : Int32) (m_turns : Int32) (m_visits : nF) (m_wasSo : nF) (m_bestAway : Int32) (m_bestMade : Int32) (m_bestFault : Int32) (m_isHere : nF) (m_place : Int32) (m_reason : Int32) (m_wide : Int32) (m_high : Int32) (g1 : Int32) (g2 : Int32) (o : (Int32 × nF × nF × nF × Int32 × nF × nF)) (hm : mX8_carve F m_s m_begun m_past m_states m_far m_queue g1 g2 = some o) : CT G yX8_carve wsX8_carve rmX8_carve [.ref (a_t 0), .int g1, .int g2] (wX8 G a_t m_s m_begun m_kept m_isKept m_past m_states m_text m_length m_far m_queue m_isOn m_steps m_wayCells m_turns m_visits m_wasSo m_bestAway m_bestMade m_bestFault m_isHere m_place m_reason m_wide m_high) (fun v w => v = some (.int o.1) ∧ w = wX8 G a_t o.2.1 o.2.2.1 m_kept m_isKept o.2.2.2.1 o.2.2.2.2.1 m_text m_length o.2.2.2.2.2.1 o.2.2.2.2.2.2 m_isOn m_steps m_wayCells m_turns m_visits m_wasSo m_bestAway m_bestMade m_bestFault m_isHere m_place m_reason m_wide m_high) := by
  refine CT_of (cc := cX8_carve) (maxL := 4) (ret := (some .int)) 1 (by decide +kernel) rfl rfl (cat_ok rfl) (fun X hX hR hN => ?_)
  have hX : Ok G X cX8_carve RX8 wsX8_carve 4 rmX8_carve := hX
  have hX8 : ∀ w ∈ wsX80, w ∈ wsX8_carve := lX8_carve_X8
  unfold mX8_carve at hm
  refine w_aload_n (pc := 0) hX dX8_carve_0 rfl rfl ?_
  obtain ⟨r1, hr1, hm⟩ := bnd hm
  refine w_calldv (pc := 1) (ws' := wX8 G a_t m_s r1 m_kept m_isKept m_past m_states m_text m_length m_far m_queue m_isOn m_steps m_wayCells m_turns m_visits m_wasSo m_bestAway m_bestMade m_bestFault m_isHere m_place m_reason m_wide m_high) (os := [some 0, some 1, some 2, some 3, some 4, some 5, some 6, some 7, some 8, some 9, some 10, some 11, some 12]) 13 hX [0, 1, 2, 3, 4, 5, 6, 7, 8, 9, 10, 11, 12] (runV (rest := []) hX [0, 1, 2, 3, 4, 5, 6, 7, 8, 9, 10, 11, 12] (ctX8_begins G F a_t m_s m_begun m_kept m_isKept m_past m_states m_text m_length m_far m_queue m_isOn m_steps m_wayCells m_turns m_visits m_wasSo m_bestAway m_bestMade m_bestFault m_isHere m_place m_reason m_wide m_high r1 hr1) dX8_carve_1 0 gX8_carve_X8_begins rfl hyX8_begins ⟨Nat.le_of_ble_eq_true rfl, Nat.le_of_ble_eq_true rfl⟩ 0 rfl rfl rfl rfl (Nat.le_of_ble_eq_true rfl) ⟨Nat.le_of_ble_eq_true rfl, Nat.le_of_ble_eq_true rfl⟩ rfl (by decide +kernel)) rfl rfl rfl (by decide +kernel) rfl ⟨rfl, rfl⟩ ?_
  refine w_aload_n (pc := 4) hX dX8_carve_4 rfl rfl ?_
  refine w_iload_n (pc := 5) hX dX8_carve_5 rfl rfl ?_
  obtain ⟨r2, hr2, hm⟩ := bnd hm
  refine w_callpi (pc := 6) hX [0, 1, 2, 3, 4, 5, 6, 7, 8, 9, 10, 11, 12] (runV (rest := []) hX [0, 1, 2, 3, 4, 5, 6, 7, 8, 9, 10, 11, 12] (ctX8_isCell G a_t m_s r1 m_kept m_isKept m_past m_states m_text m_length m_far m_queue m_isOn m_steps m_wayCells m_turns m_visits m_wasSo m_bestAway m_bestMade m_bestFault m_isHere m_place m_reason m_wide m_high g1 r2 hr2) dX8_carve_6 1 gX8_carve_X8_isCell rfl hyX8_isCell ⟨Nat.le_of_ble_eq_true rfl, Nat.le_of_ble_eq_true rfl⟩ 0 rfl rfl rfl rfl (Nat.le_of_ble_eq_true rfl) ⟨Nat.le_of_ble_eq_true rfl, Nat.le_of_ble_eq_true rfl⟩ rfl (by decide +kernel)) rfl ⟨rfl, rfl⟩ ?_
  refine w_jn (T := fun x3 : Unit => WW G X 0 0 (wX8 G a_t m_s r1 m_kept m_isKept m_past m_states m_text m_length m_far m_queue m_isOn m_steps m_wayCells m_turns m_visits m_wasSo m_bestAway m_bestMade m_bestFault m_isHere m_place m_reason m_wide m_high) [none, none, none, none] 21 []) hm (fun x3 hm => ?_) (fun j4 hj4 hm => ?_)
  ·
    refine w_iconst (pc := 21) hX dX8_carve_21 ic_m1 ?_
    obtain rfl := som hm
    exact w_iret (pc := 22) hX hR dX8_carve_22 ⟨rfl, rfl⟩
  ·
    refine w_if_eq (pc := 9) (tgt := 21) hX dX8_carve_9 (by decide) hm (fun hm => ?_) (fun hm => ?_)
    ·
      exact w_lvs [false, false, false, false] (hj4 () hm)
    ·
      refine w_iload_n (pc := 12) hX dX8_carve_12 rfl rfl ?_
      refine w_iconst (pc := 13) hX dX8_carve_13 ic_0 ?_
      refine w_iconst (pc := 14) hX dX8_carve_14 ic_3 ?_
      obtain ⟨r5, hr5, hm⟩ := bnd hm
      refine w_callpi (pc := 15) hX [] (runS (rest := []) hX [] (ctX8_in G g2 (0 : Int32) (3 : Int32) r5 hr5) dX8_carve_15 3 gX8_carve_X8_in rfl hyX8_in.2 ⟨Nat.le_of_ble_eq_true rfl, Nat.le_of_ble_eq_true rfl⟩ rfl rfl (Nat.le_of_ble_eq_true rfl) ⟨Nat.le_of_ble_eq_true rfl, Nat.le_of_ble_eq_true rfl⟩ rfl (by decide +kernel)) rfl ⟨rfl, rfl⟩ ?_
      refine w_if_ne (pc := 18) (tgt := 23) hX dX8_carve_18 (by decide) hm (fun hm => ?_) (fun hm => ?_)
      ·
        refine w_aload_n (pc := 23) hX dX8_carve_23 rfl rfl ?_
        refine w_iload_n (pc := 24) hX dX8_carve_24 rfl rfl ?_
        refine w_iload_n (pc := 25) hX dX8_carve_25 rfl rfl ?_
        obtain ⟨r6, hr6, hm⟩ := bnd hm
        refine w_callpi (pc := 26) hX [0, 1, 2, 3, 4, 5, 6, 7, 8, 9, 10, 11, 12] (runV (rest := []) hX [0, 1, 2, 3, 4, 5, 6, 7, 8, 9, 10, 11, 12] (ctX8_besides G a_t m_s r1 m_kept m_isKept m_past m_states m_text m_length m_far m_queue m_isOn m_steps m_wayCells m_turns m_visits m_wasSo m_bestAway m_bestMade m_bestFault m_isHere m_place m_reason m_wide m_high g1 g2 r6 hr6) dX8_carve_26 2 gX8_carve_X8_besides rfl hyX8_besides ⟨Nat.le_of_ble_eq_true rfl, Nat.le_of_ble_eq_true rfl⟩ 0 rfl rfl rfl rfl (Nat.le_of_ble_eq_true rfl) ⟨Nat.le_of_ble_eq_true rfl, Nat.le_of_ble_eq_true rfl⟩ rfl (by decide +kernel)) rfl ⟨rfl, rfl⟩ ?_
        refine w_istore_n (pc := 29) hX dX8_carve_29 rfl (Nat.le_of_ble_eq_true rfl) ?_
        refine w_iload_n (pc := 30) hX dX8_carve_30 rfl rfl ?_
        refine w_jn (T := fun x7 : (nF × nF) => WW G X 0 0 (wX8 G a_t m_s r1 m_kept m_isKept m_past m_states m_text m_length x7.1 x7.2 m_isOn m_steps m_wayCells m_turns m_visits m_wasSo m_bestAway m_bestMade m_bestFault m_isHere m_place m_reason m_wide m_high) [none, none, none, none] 43 []) hm (fun x7 hm => ?_) (fun j8 hj8 hm => ?_)
        ·
          refine w_bipush (pc := 43) hX dX8_carve_43 bp_m2 ?_
          obtain rfl := som hm
          exact w_iret (pc := 45) hX hR dX8_carve_45 ⟨rfl, rfl⟩
        ·
          refine w_if_lt (pc := 31) (tgt := 43) hX dX8_carve_31 (by decide) hm (fun hm => ?_) (fun hm => ?_)
          ·
            exact w_lvs [false, false, false, false] (hj8 (m_far, m_queue) hm)
          ·
            refine w_aload_n (pc := 34) hX dX8_carve_34 rfl rfl ?_
            refine w_iload_n (pc := 35) hX dX8_carve_35 rfl rfl ?_
            refine w_iload_n (pc := 36) hX dX8_carve_36 rfl rfl ?_
            obtain ⟨r9, hr9, hm⟩ := bnd hm
            refine w_calldi (pc := 37) (ws' := wX8 G a_t m_s r1 m_kept m_isKept m_past m_states m_text m_length r9.2.1 r9.2.2 m_isOn m_steps m_wayCells m_turns m_visits m_wasSo m_bestAway m_bestMade m_bestFault m_isHere m_place m_reason m_wide m_high) (os := [some 0, some 1, some 2, some 3, some 4, some 5, some 6, some 7, some 8, some 9, some 10, some 11, some 12]) 13 hX [0, 1, 2, 3, 4, 5, 6, 7, 8, 9, 10, 11, 12] (runV (rest := []) hX [0, 1, 2, 3, 4, 5, 6, 7, 8, 9, 10, 11, 12] (ctX8_areJoined G F a_t m_s r1 m_kept m_isKept m_past m_states m_text m_length m_far m_queue m_isOn m_steps m_wayCells m_turns m_visits m_wasSo m_bestAway m_bestMade m_bestFault m_isHere m_place m_reason m_wide m_high g1 r6 r9 hr9) dX8_carve_37 2 gX8_carve_X8_areJoined rfl hyX8_areJoined ⟨Nat.le_of_ble_eq_true rfl, Nat.le_of_ble_eq_true rfl⟩ 0 rfl rfl rfl rfl (Nat.le_of_ble_eq_true rfl) ⟨Nat.le_of_ble_eq_true rfl, Nat.le_of_ble_eq_true rfl⟩ rfl (by decide +kernel)) rfl rfl rfl (by decide +kernel) rfl ⟨rfl, rfl⟩ ?_
            refine w_if_eq (pc := 40) (tgt := 46) hX dX8_carve_40 (by decide) hm (fun hm => ?_) (fun hm => ?_)
            ·
              refine w_aload_n (pc := 46) hX dX8_carve_46 rfl rfl ?_
              refine gf_X8_s (pc := 47) hX dX8_carve_47 hX8 (List.mem_of_getElem? (i := 1) rfl) 0 rfl rfl ?_
              refine w_bipush (pc := 50) hX dX8_carve_50 bp_42 ?_
              refine w_aload_n (pc := 52) hX dX8_carve_52 rfl rfl ?_
              refine w_iload_n (pc := 53) hX dX8_carve_53 rfl rfl ?_
              refine w_iload_n (pc := 54) hX dX8_carve_54 rfl rfl ?_
              obtain ⟨r10, hr10, hm⟩ := bnd hm
              refine w_callpi (pc := 55) hX [0, 1, 2, 3, 4, 5, 6, 7, 8, 9, 10, 11, 12] (runV (rest := [.int (42 : Int32), .ref (a_t 1)]) hX [0, 1, 2, 3, 4, 5, 6, 7, 8, 9, 10, 11, 12] (ctX8_numberOf G a_t m_s r1 m_kept m_isKept m_past m_states m_text m_length r9.2.1 r9.2.2 m_isOn m_steps m_wayCells m_turns m_visits m_wasSo m_bestAway m_bestMade m_bestFault m_isHere m_place m_reason m_wide m_high g1 g2 r10 hr10) dX8_carve_55 2 gX8_carve_X8_numberOf rfl hyX8_numberOf ⟨Nat.le_of_ble_eq_true rfl, Nat.le_of_ble_eq_true rfl⟩ 0 rfl rfl rfl rfl (Nat.le_of_ble_eq_true rfl) ⟨Nat.le_of_ble_eq_true rfl, Nat.le_of_ble_eq_true rfl⟩ rfl (by decide +kernel)) rfl ⟨rfl, rfl⟩ ?_
              refine w_iadd (pc := 58) hX dX8_carve_58 ?_
              refine w_iconst (pc := 59) hX dX8_carve_59 ic_1 ?_
              refine w_iast (pc := 60) hX dX8_carve_60 1 rfl hm (fun hm => ?_)
              refine w_aload_n (pc := 61) hX dX8_carve_61 rfl rfl ?_
              refine w_aload_n (pc := 62) hX dX8_carve_62 rfl rfl ?_
              obtain ⟨r11, hr11, hm⟩ := bnd hm
              refine w_callpi (pc := 63) hX [0, 1, 2, 3, 4, 5, 6, 7, 8, 9, 10, 11, 12] (runV (rest := [.ref (a_t 0)]) hX [0, 1, 2, 3, 4, 5, 6, 7, 8, 9, 10, 11, 12] (ctX8_parts G F a_t (upd m_s ((42 : Int32) + r10).toNatClampNeg (1 : Int32)) r1 m_kept m_isKept m_past m_states m_text m_length r9.2.1 r9.2.2 m_isOn m_steps m_wayCells m_turns m_visits m_wasSo m_bestAway m_bestMade m_bestFault m_isHere m_place m_reason m_wide m_high r11 hr11) dX8_carve_63 0 gX8_carve_X8_parts rfl hyX8_parts ⟨Nat.le_of_ble_eq_true rfl, Nat.le_of_ble_eq_true rfl⟩ 0 rfl rfl rfl rfl (Nat.le_of_ble_eq_true rfl) ⟨Nat.le_of_ble_eq_true rfl, Nat.le_of_ble_eq_true rfl⟩ rfl (by decide +kernel)) rfl ⟨rfl, rfl⟩ ?_
              obtain ⟨r12, hr12, hm⟩ := bnd hm
              refine w_calldi (pc := 66) (ws' := wX8 G a_t r12.2.1 r1 m_kept m_isKept r12.2.2.1 r12.2.2.2 m_text m_length r9.2.1 r9.2.2 m_isOn m_steps m_wayCells m_turns m_visits m_wasSo m_bestAway m_bestMade m_bestFault m_isHere m_place m_reason m_wide m_high) (os := [some 0, some 1, some 2, some 3, some 4, some 5, some 6, some 7, some 8, some 9, some 10, some 11, some 12]) 13 hX [0, 1, 2, 3, 4, 5, 6, 7, 8, 9, 10, 11, 12] (runV (rest := []) hX [0, 1, 2, 3, 4, 5, 6, 7, 8, 9, 10, 11, 12] (ctX8_acted G F a_t (upd m_s ((42 : Int32) + r10).toNatClampNeg (1 : Int32)) r1 m_kept m_isKept m_past m_states m_text m_length r9.2.1 r9.2.2 m_isOn m_steps m_wayCells m_turns m_visits m_wasSo m_bestAway m_bestMade m_bestFault m_isHere m_place m_reason m_wide m_high r11 r12 hr12) dX8_carve_66 1 gX8_carve_X8_acted rfl hyX8_acted ⟨Nat.le_of_ble_eq_true rfl, Nat.le_of_ble_eq_true rfl⟩ 0 rfl rfl rfl rfl (Nat.le_of_ble_eq_true rfl) ⟨Nat.le_of_ble_eq_true rfl, Nat.le_of_ble_eq_true rfl⟩ rfl (by decide +kernel)) rfl rfl rfl (by decide +kernel) rfl ⟨rfl, rfl⟩ ?_
              obtain rfl := som hm
              exact w_iret (pc := 69) hX hR dX8_carve_69 ⟨rfl, rfl⟩
            ·
              exact w_lvs [false, false, false, false] (hj8 (r9.2.1, r9.2.2) hm)
      ·
        exact w_lvs [false, false, false, false] (hj4 () hm)

theorem lX8_wall_X8 : ∀ w ∈ wsX80, w ∈ wsX8_wall := in_at [45, 46, 47, 48, 49, 50, 51, 52, 53, 54, 55, 56, 57, 58, 59, 60, 61, 62, 63, 64, 65, 66, 67, 68] (by decide +kernel)
set_option maxHeartbeats 4000000 in
set_option maxRecDepth 100000 in
theorem ctX8_wall (G : gT) (F : Nat) (a_t : Nat → Nat) (m_s : nF) (m_begun : nF) (m_kept : nF) (m_isKept : Int32) (m_past : nF) (m_states : Int32) (m_text : nF) (m_length : Int32) (m_far : nF) (m_queue : nF) (m_isOn : nF) (m_steps : nF) (m_wayCells : Int32) (m_turns : Int32) (m_visits : nF) (m_wasSo : nF) (m_bestAway : Int32) (m_bestMade : Int32) (m_bestFault : Int32) (m_isHere : nF) (m_place : Int32) (m_reason : Int32) (m_wide : Int32) (m_high : Int32) (g1 : Int32) (g2 : Int32) (o : (Int32 × nF × nF × nF × Int32)) (hm : mX8_wall F m_s m_begun m_past m_states g1 g2 = some o) : CT G yX8_wall wsX8_wall rmX8_wall [.ref (a_t 0), .int g1, .int g2] (wX8 G a_t m_s m_begun m_kept m_isKept m_past m_states m_text m_length m_far m_queue m_isOn m_steps m_wayCells m_turns m_visits m_wasSo m_bestAway m_bestMade m_bestFault m_isHere m_place m_reason m_wide m_high) (fun v w => v = some (.int o.1) ∧ w = wX8 G a_t o.2.1 o.2.2.1 m_kept m_isKept o.2.2.2.1 o.2.2.2.2 m_text m_length m_far m_queue m_isOn m_steps m_wayCells m_turns m_visits m_wasSo m_bestAway m_bestMade m_bestFault m_isHere m_place m_reason m_wide m_high) := by
  refine CT_of (cc := cX8_wall) (maxL := 3) (ret := (some .int)) 0 (by decide +kernel) rfl rfl (cat_ok rfl) (fun X hX hR hN => ?_)
  have hX : Ok G X cX8_wall RX8 wsX8_wall 3 rmX8_wall := hX
  have hX8 : ∀ w ∈ wsX80, w ∈ wsX8_wall := lX8_wall_X8
  unfold mX8_wall at hm
  refine w_aload_n (pc := 0) hX dX8_wall_0 rfl rfl ?_
  obtain ⟨r1, hr1, hm⟩ := bnd hm
  refine w_calldv (pc := 1) (ws' := wX8 G a_t m_s r1 m_kept m_isKept m_past m_states m_text m_length m_far m_queue m_isOn m_steps m_wayCells m_turns m_visits m_wasSo m_bestAway m_bestMade m_bestFault m_isHere m_place m_reason m_wide m_high) (os := [some 0, some 1, some 2, some 3, some 4, some 5, some 6, some 7, some 8, some 9, some 10, some 11, some 12]) 13 hX [0, 1, 2, 3, 4, 5, 6, 7, 8, 9, 10, 11, 12] (runV (rest := []) hX [0, 1, 2, 3, 4, 5, 6, 7, 8, 9, 10, 11, 12] (ctX8_begins G F a_t m_s m_begun m_kept m_isKept m_past m_states m_text m_length m_far m_queue m_isOn m_steps m_wayCells m_turns m_visits m_wasSo m_bestAway m_bestMade m_bestFault m_isHere m_place m_reason m_wide m_high r1 hr1) dX8_wall_1 0 gX8_wall_X8_begins rfl hyX8_begins ⟨Nat.le_of_ble_eq_true rfl, Nat.le_of_ble_eq_true rfl⟩ 0 rfl rfl rfl rfl (Nat.le_of_ble_eq_true rfl) ⟨Nat.le_of_ble_eq_true rfl, Nat.le_of_ble_eq_true rfl⟩ rfl (by decide +kernel)) rfl rfl rfl (by decide +kernel) rfl ⟨rfl, rfl⟩ ?_
  refine w_aload_n (pc := 4) hX dX8_wall_4 rfl rfl ?_
  refine w_iload_n (pc := 5) hX dX8_wall_5 rfl rfl ?_
  obtain ⟨r2, hr2, hm⟩ := bnd hm
  refine w_callpi (pc := 6) hX [0, 1, 2, 3, 4, 5, 6, 7, 8, 9, 10, 11, 12] (runV (rest := []) hX [0, 1, 2, 3, 4, 5, 6, 7, 8, 9, 10, 11, 12] (ctX8_isCell G a_t m_s r1 m_kept m_isKept m_past m_states m_text m_length m_far m_queue m_isOn m_steps m_wayCells m_turns m_visits m_wasSo m_bestAway m_bestMade m_bestFault m_isHere m_place m_reason m_wide m_high g1 r2 hr2) dX8_wall_6 1 gX8_wall_X8_isCell rfl hyX8_isCell ⟨Nat.le_of_ble_eq_true rfl, Nat.le_of_ble_eq_true rfl⟩ 0 rfl rfl rfl rfl (Nat.le_of_ble_eq_true rfl) ⟨Nat.le_of_ble_eq_true rfl, Nat.le_of_ble_eq_true rfl⟩ rfl (by decide +kernel)) rfl ⟨rfl, rfl⟩ ?_
  refine w_jn (T := fun x3 : Unit => WW G X 0 0 (wX8 G a_t m_s r1 m_kept m_isKept m_past m_states m_text m_length m_far m_queue m_isOn m_steps m_wayCells m_turns m_visits m_wasSo m_bestAway m_bestMade m_bestFault m_isHere m_place m_reason m_wide m_high) [none, none, none] 21 []) hm (fun x3 hm => ?_) (fun j4 hj4 hm => ?_)
  ·
    refine w_iconst (pc := 21) hX dX8_wall_21 ic_m1 ?_
    obtain rfl := som hm
    exact w_iret (pc := 22) hX hR dX8_wall_22 ⟨rfl, rfl⟩
  ·
    refine w_if_eq (pc := 9) (tgt := 21) hX dX8_wall_9 (by decide) hm (fun hm => ?_) (fun hm => ?_)
    ·
      exact w_lvs [false, false, false] (hj4 () hm)
    ·
      refine w_iload_n (pc := 12) hX dX8_wall_12 rfl rfl ?_
      refine w_iconst (pc := 13) hX dX8_wall_13 ic_0 ?_
      refine w_iconst (pc := 14) hX dX8_wall_14 ic_3 ?_
      obtain ⟨r5, hr5, hm⟩ := bnd hm
      refine w_callpi (pc := 15) hX [] (runS (rest := []) hX [] (ctX8_in G g2 (0 : Int32) (3 : Int32) r5 hr5) dX8_wall_15 3 gX8_wall_X8_in rfl hyX8_in.2 ⟨Nat.le_of_ble_eq_true rfl, Nat.le_of_ble_eq_true rfl⟩ rfl rfl (Nat.le_of_ble_eq_true rfl) ⟨Nat.le_of_ble_eq_true rfl, Nat.le_of_ble_eq_true rfl⟩ rfl (by decide +kernel)) rfl ⟨rfl, rfl⟩ ?_
      refine w_if_ne (pc := 18) (tgt := 23) hX dX8_wall_18 (by decide) hm (fun hm => ?_) (fun hm => ?_)
      ·
        refine w_aload_n (pc := 23) hX dX8_wall_23 rfl rfl ?_
        refine w_iload_n (pc := 24) hX dX8_wall_24 rfl rfl ?_
        refine w_iload_n (pc := 25) hX dX8_wall_25 rfl rfl ?_
        obtain ⟨r6, hr6, hm⟩ := bnd hm
        refine w_callpi (pc := 26) hX [0, 1, 2, 3, 4, 5, 6, 7, 8, 9, 10, 11, 12] (runV (rest := []) hX [0, 1, 2, 3, 4, 5, 6, 7, 8, 9, 10, 11, 12] (ctX8_isOpen G a_t m_s r1 m_kept m_isKept m_past m_states m_text m_length m_far m_queue m_isOn m_steps m_wayCells m_turns m_visits m_wasSo m_bestAway m_bestMade m_bestFault m_isHere m_place m_reason m_wide m_high g1 g2 r6 hr6) dX8_wall_26 2 gX8_wall_X8_isOpen rfl hyX8_isOpen ⟨Nat.le_of_ble_eq_true rfl, Nat.le_of_ble_eq_true rfl⟩ 0 rfl rfl rfl rfl (Nat.le_of_ble_eq_true rfl) ⟨Nat.le_of_ble_eq_true rfl, Nat.le_of_ble_eq_true rfl⟩ rfl (by decide +kernel)) rfl ⟨rfl, rfl⟩ ?_
        refine w_if_ne (pc := 29) (tgt := 35) hX dX8_wall_29 (by decide) hm (fun hm => ?_) (fun hm => ?_)
        ·
          refine w_aload_n (pc := 35) hX dX8_wall_35 rfl rfl ?_
          refine gf_X8_s (pc := 36) hX dX8_wall_36 hX8 (List.mem_of_getElem? (i := 1) rfl) 0 rfl rfl ?_
          refine w_bipush (pc := 39) hX dX8_wall_39 bp_42 ?_
          refine w_aload_n (pc := 41) hX dX8_wall_41 rfl rfl ?_
          refine w_iload_n (pc := 42) hX dX8_wall_42 rfl rfl ?_
          refine w_iload_n (pc := 43) hX dX8_wall_43 rfl rfl ?_
          obtain ⟨r7, hr7, hm⟩ := bnd hm
          refine w_callpi (pc := 44) hX [0, 1, 2, 3, 4, 5, 6, 7, 8, 9, 10, 11, 12] (runV (rest := [.int (42 : Int32), .ref (a_t 1)]) hX [0, 1, 2, 3, 4, 5, 6, 7, 8, 9, 10, 11, 12] (ctX8_numberOf G a_t m_s r1 m_kept m_isKept m_past m_states m_text m_length m_far m_queue m_isOn m_steps m_wayCells m_turns m_visits m_wasSo m_bestAway m_bestMade m_bestFault m_isHere m_place m_reason m_wide m_high g1 g2 r7 hr7) dX8_wall_44 2 gX8_wall_X8_numberOf rfl hyX8_numberOf ⟨Nat.le_of_ble_eq_true rfl, Nat.le_of_ble_eq_true rfl⟩ 0 rfl rfl rfl rfl (Nat.le_of_ble_eq_true rfl) ⟨Nat.le_of_ble_eq_true rfl, Nat.le_of_ble_eq_true rfl⟩ rfl (by decide +kernel)) rfl ⟨rfl, rfl⟩ ?_
          refine w_iadd (pc := 47) hX dX8_wall_47 ?_
          refine w_iconst (pc := 48) hX dX8_wall_48 ic_0 ?_
          refine w_iast (pc := 49) hX dX8_wall_49 1 rfl hm (fun hm => ?_)
          refine w_aload_n (pc := 50) hX dX8_wall_50 rfl rfl ?_
          refine w_aload_n (pc := 51) hX dX8_wall_51 rfl rfl ?_
          obtain ⟨r8, hr8, hm⟩ := bnd hm
          refine w_callpi (pc := 52) hX [0, 1, 2, 3, 4, 5, 6, 7, 8, 9, 10, 11, 12] (runV (rest := [.ref (a_t 0)]) hX [0, 1, 2, 3, 4, 5, 6, 7, 8, 9, 10, 11, 12] (ctX8_parts G F a_t (upd m_s ((42 : Int32) + r7).toNatClampNeg (0 : Int32)) r1 m_kept m_isKept m_past m_states m_text m_length m_far m_queue m_isOn m_steps m_wayCells m_turns m_visits m_wasSo m_bestAway m_bestMade m_bestFault m_isHere m_place m_reason m_wide m_high r8 hr8) dX8_wall_52 0 gX8_wall_X8_parts rfl hyX8_parts ⟨Nat.le_of_ble_eq_true rfl, Nat.le_of_ble_eq_true rfl⟩ 0 rfl rfl rfl rfl (Nat.le_of_ble_eq_true rfl) ⟨Nat.le_of_ble_eq_true rfl, Nat.le_of_ble_eq_true rfl⟩ rfl (by decide +kernel)) rfl ⟨rfl, rfl⟩ ?_
          obtain ⟨r9, hr9, hm⟩ := bnd hm
          refine w_calldi (pc := 55) (ws' := wX8 G a_t r9.2.1 r1 m_kept m_isKept r9.2.2.1 r9.2.2.2 m_text m_length m_far m_queue m_isOn m_steps m_wayCells m_turns m_visits m_wasSo m_bestAway m_bestMade m_bestFault m_isHere m_place m_reason m_wide m_high) (os := [some 0, some 1, some 2, some 3, some 4, some 5, some 6, some 7, some 8, some 9, some 10, some 11, some 12]) 13 hX [0, 1, 2, 3, 4, 5, 6, 7, 8, 9, 10, 11, 12] (runV (rest := []) hX [0, 1, 2, 3, 4, 5, 6, 7, 8, 9, 10, 11, 12] (ctX8_acted G F a_t (upd m_s ((42 : Int32) + r7).toNatClampNeg (0 : Int32)) r1 m_kept m_isKept m_past m_states m_text m_length m_far m_queue m_isOn m_steps m_wayCells m_turns m_visits m_wasSo m_bestAway m_bestMade m_bestFault m_isHere m_place m_reason m_wide m_high r8 r9 hr9) dX8_wall_55 1 gX8_wall_X8_acted rfl hyX8_acted ⟨Nat.le_of_ble_eq_true rfl, Nat.le_of_ble_eq_true rfl⟩ 0 rfl rfl rfl rfl (Nat.le_of_ble_eq_true rfl) ⟨Nat.le_of_ble_eq_true rfl, Nat.le_of_ble_eq_true rfl⟩ rfl (by decide +kernel)) rfl rfl rfl (by decide +kernel) rfl ⟨rfl, rfl⟩ ?_
          obtain rfl := som hm
          exact w_iret (pc := 58) hX hR dX8_wall_58 ⟨rfl, rfl⟩
        ·
          refine w_bipush (pc := 32) hX dX8_wall_32 bp_m2 ?_
          obtain rfl := som hm
          exact w_iret (pc := 34) hX hR dX8_wall_34 ⟨rfl, rfl⟩
      ·
        exact w_lvs [false, false, false] (hj4 () hm)

theorem lX8_door_X8 : ∀ w ∈ wsX80, w ∈ wsX8_door := in_at [29, 30, 31, 32, 33, 34, 35, 36, 37, 38, 39, 40, 41, 42, 43, 44, 45, 46, 47, 48, 49, 50, 51, 52] (by decide +kernel)
set_option maxHeartbeats 4000000 in
set_option maxRecDepth 100000 in
theorem ctX8_door (G : gT) (F : Nat) (a_t : Nat → Nat) (m_s : nF) (m_begun : nF) (m_kept : nF) (m_isKept : Int32) (m_past : nF) (m_states : Int32) (m_text : nF) (m_length : Int32) (m_far : nF) (m_queue : nF) (m_isOn : nF) (m_steps : nF) (m_wayCells : Int32) (m_turns : Int32) (m_visits : nF) (m_wasSo : nF) (m_bestAway : Int32) (m_bestMade : Int32) (m_bestFault : Int32) (m_isHere : nF) (m_place : Int32) (m_reason : Int32) (m_wide : Int32) (m_high : Int32) (g1 : Int32) (g2 : Int32) (g3 : Int32) (o : (Int32 × nF × nF × nF × Int32)) (hm : mX8_door F m_s m_begun m_past m_states g1 g2 g3 = some o) : CT G yX8_door wsX8_door rmX8_door [.ref (a_t 0), .int g1, .int g2, .int g3] (wX8 G a_t m_s m_begun m_kept m_isKept m_past m_states m_text m_length m_far m_queue m_isOn m_steps m_wayCells m_turns m_visits m_wasSo m_bestAway m_bestMade m_bestFault m_isHere m_place m_reason m_wide m_high) (fun v w => v = some (.int o.1) ∧ w = wX8 G a_t o.2.1 o.2.2.1 m_kept m_isKept o.2.2.2.1 o.2.2.2.2 m_text m_length m_far m_queue m_isOn m_steps m_wayCells m_turns m_visits m_wasSo m_bestAway m_bestMade m_bestFault m_isHere m_place m_reason m_wide m_high) := by
  refine CT_of (cc := cX8_door) (maxL := 6) (ret := (some .int)) 2 (by decide +kernel) rfl rfl (cat_ok rfl) (fun X hX hR hN => ?_)
  have hX : Ok G X cX8_door RX8 wsX8_door 6 rmX8_door := hX
  have hX8 : ∀ w ∈ wsX80, w ∈ wsX8_door := lX8_door_X8
  unfold mX8_door at hm
  refine w_aload_n (pc := 0) hX dX8_door_0 rfl rfl ?_
  obtain ⟨r1, hr1, hm⟩ := bnd hm
  refine w_calldv (pc := 1) (ws' := wX8 G a_t m_s r1 m_kept m_isKept m_past m_states m_text m_length m_far m_queue m_isOn m_steps m_wayCells m_turns m_visits m_wasSo m_bestAway m_bestMade m_bestFault m_isHere m_place m_reason m_wide m_high) (os := [some 0, some 1, some 2, some 3, some 4, some 5, some 6, some 7, some 8, some 9, some 10, some 11, some 12]) 13 hX [0, 1, 2, 3, 4, 5, 6, 7, 8, 9, 10, 11, 12] (runV (rest := []) hX [0, 1, 2, 3, 4, 5, 6, 7, 8, 9, 10, 11, 12] (ctX8_begins G F a_t m_s m_begun m_kept m_isKept m_past m_states m_text m_length m_far m_queue m_isOn m_steps m_wayCells m_turns m_visits m_wasSo m_bestAway m_bestMade m_bestFault m_isHere m_place m_reason m_wide m_high r1 hr1) dX8_door_1 0 gX8_door_X8_begins rfl hyX8_begins ⟨Nat.le_of_ble_eq_true rfl, Nat.le_of_ble_eq_true rfl⟩ 0 rfl rfl rfl rfl (Nat.le_of_ble_eq_true rfl) ⟨Nat.le_of_ble_eq_true rfl, Nat.le_of_ble_eq_true rfl⟩ rfl (by decide +kernel)) rfl rfl rfl (by decide +kernel) rfl ⟨rfl, rfl⟩ ?_
  refine w_iload_n (pc := 4) hX dX8_door_4 rfl rfl ?_
  refine w_iconst (pc := 5) hX dX8_door_5 ic_0 ?_
  refine w_iconst (pc := 6) hX dX8_door_6 ic_1 ?_
  obtain ⟨r2, hr2, hm⟩ := bnd hm
  refine w_callpi (pc := 7) hX [] (runS (rest := []) hX [] (ctX8_in G g1 (0 : Int32) (1 : Int32) r2 hr2) dX8_door_7 3 gX8_door_X8_in rfl hyX8_in.2 ⟨Nat.le_of_ble_eq_true rfl, Nat.le_of_ble_eq_true rfl⟩ rfl rfl (Nat.le_of_ble_eq_true rfl) ⟨Nat.le_of_ble_eq_true rfl, Nat.le_of_ble_eq_true rfl⟩ rfl (by decide +kernel)) rfl ⟨rfl, rfl⟩ ?_
  refine w_jn (T := fun x3 : Unit => WW G X 0 0 (wX8 G a_t m_s r1 m_kept m_isKept m_past m_states m_text m_length m_far m_queue m_isOn m_steps m_wayCells m_turns m_visits m_wasSo m_bestAway m_bestMade m_bestFault m_isHere m_place m_reason m_wide m_high) [none, none, none, none, none, none] 30 []) hm (fun x3 hm => ?_) (fun j4 hj4 hm => ?_)
  ·
    refine w_iconst (pc := 30) hX dX8_door_30 ic_m1 ?_
    obtain rfl := som hm
    exact w_iret (pc := 31) hX hR dX8_door_31 ⟨rfl, rfl⟩
  ·
    refine w_if_eq (pc := 10) (tgt := 30) hX dX8_door_10 (by decide) hm (fun hm => ?_) (fun hm => ?_)
    ·
      exact w_lvs [false, false, false, false, false, false] (hj4 () hm)
    ·
      refine w_aload_n (pc := 13) hX dX8_door_13 rfl rfl ?_
      refine w_iload_n (pc := 14) hX dX8_door_14 rfl rfl ?_
      obtain ⟨r5, hr5, hm⟩ := bnd hm
      refine w_callpi (pc := 15) hX [0, 1, 2, 3, 4, 5, 6, 7, 8, 9, 10, 11, 12] (runV (rest := []) hX [0, 1, 2, 3, 4, 5, 6, 7, 8, 9, 10, 11, 12] (ctX8_isCell G a_t m_s r1 m_kept m_isKept m_past m_states m_text m_length m_far m_queue m_isOn m_steps m_wayCells m_turns m_visits m_wasSo m_bestAway m_bestMade m_bestFault m_isHere m_place m_reason m_wide m_high g2 r5 hr5) dX8_door_15 1 gX8_door_X8_isCell rfl hyX8_isCell ⟨Nat.le_of_ble_eq_true rfl, Nat.le_of_ble_eq_true rfl⟩ 0 rfl rfl rfl rfl (Nat.le_of_ble_eq_true rfl) ⟨Nat.le_of_ble_eq_true rfl, Nat.le_of_ble_eq_true rfl⟩ rfl (by decide +kernel)) rfl ⟨rfl, rfl⟩ ?_
      refine w_if_eq (pc := 18) (tgt := 30) hX dX8_door_18 (by decide) hm (fun hm => ?_) (fun hm => ?_)
      ·
        exact w_lvs [false, false, false, false, false, false] (hj4 () hm)
      ·
        refine w_iload_n (pc := 21) hX dX8_door_21 rfl rfl ?_
        refine w_iconst (pc := 22) hX dX8_door_22 ic_0 ?_
        refine w_iconst (pc := 23) hX dX8_door_23 ic_3 ?_
        obtain ⟨r6, hr6, hm⟩ := bnd hm
        refine w_callpi (pc := 24) hX [] (runS (rest := []) hX [] (ctX8_in G g3 (0 : Int32) (3 : Int32) r6 hr6) dX8_door_24 3 gX8_door_X8_in rfl hyX8_in.2 ⟨Nat.le_of_ble_eq_true rfl, Nat.le_of_ble_eq_true rfl⟩ rfl rfl (Nat.le_of_ble_eq_true rfl) ⟨Nat.le_of_ble_eq_true rfl, Nat.le_of_ble_eq_true rfl⟩ rfl (by decide +kernel)) rfl ⟨rfl, rfl⟩ ?_
        refine w_if_ne (pc := 27) (tgt := 32) hX dX8_door_27 (by decide) hm (fun hm => ?_) (fun hm => ?_)
        ·
          refine w_iconst (pc := 32) hX dX8_door_32 ic_4 ?_
          refine w_iconst (pc := 33) hX dX8_door_33 ic_2 ?_
          refine w_iload_n (pc := 34) hX dX8_door_34 rfl rfl ?_
          refine w_imul (pc := 35) hX dX8_door_35 ?_
          refine w_isub (pc := 36) hX dX8_door_36 ?_
          refine w_istore (pc := 37) hX dX8_door_37 (Nat.le_of_ble_eq_true rfl) ?_
          refine w_aload_n (pc := 39) hX dX8_door_39 rfl rfl ?_
          refine w_iload_n (pc := 40) hX dX8_door_40 rfl rfl ?_
          refine w_iload_n (pc := 41) hX dX8_door_41 rfl rfl ?_
          obtain ⟨r7, hr7, hm⟩ := bnd hm
          refine w_callpi (pc := 42) hX [0, 1, 2, 3, 4, 5, 6, 7, 8, 9, 10, 11, 12] (runV (rest := []) hX [0, 1, 2, 3, 4, 5, 6, 7, 8, 9, 10, 11, 12] (ctX8_besides G a_t m_s r1 m_kept m_isKept m_past m_states m_text m_length m_far m_queue m_isOn m_steps m_wayCells m_turns m_visits m_wasSo m_bestAway m_bestMade m_bestFault m_isHere m_place m_reason m_wide m_high g2 g3 r7 hr7) dX8_door_42 2 gX8_door_X8_besides rfl hyX8_besides ⟨Nat.le_of_ble_eq_true rfl, Nat.le_of_ble_eq_true rfl⟩ 0 rfl rfl rfl rfl (Nat.le_of_ble_eq_true rfl) ⟨Nat.le_of_ble_eq_true rfl, Nat.le_of_ble_eq_true rfl⟩ rfl (by decide +kernel)) rfl ⟨rfl, rfl⟩ ?_
          refine w_jn (T := fun x8 : Unit => WW G X 0 0 (wX8 G a_t m_s r1 m_kept m_isKept m_past m_states m_text m_length m_far m_queue m_isOn m_steps m_wayCells m_turns m_visits m_wasSo m_bestAway m_bestMade m_bestFault m_isHere m_place m_reason m_wide m_high) [none, none, none, none, none, none] 72 []) hm (fun x8 hm => ?_) (fun j9 hj9 hm => ?_)
          ·
            refine w_bipush (pc := 72) hX dX8_door_72 bp_m2 ?_
            obtain rfl := som hm
            exact w_iret (pc := 74) hX hR dX8_door_74 ⟨rfl, rfl⟩
          ·
            refine w_if_ge (pc := 45) (tgt := 72) hX dX8_door_45 (by decide) hm (fun hm => ?_) (fun hm => ?_)
            ·
              exact w_lvs [false, false, false, false, false, false] (hj9 () hm)
            ·
              refine w_aload_n (pc := 48) hX dX8_door_48 rfl rfl ?_
              refine gf_X8_s (pc := 49) hX dX8_door_49 hX8 (List.mem_of_getElem? (i := 1) rfl) 0 rfl rfl ?_
              refine w_iload (pc := 52) hX dX8_door_52 rfl ?_
              refine w_iald (pc := 54) hX dX8_door_54 1 rfl hm (fun hm => ?_)
              refine w_iload_n (pc := 55) hX dX8_door_55 rfl rfl ?_
              refine w_jn (T := fun x10 : Unit => WW G X 0 0 (wX8 G a_t m_s r1 m_kept m_isKept m_past m_states m_text m_length m_far m_queue m_isOn m_steps m_wayCells m_turns m_visits m_wasSo m_bestAway m_bestMade m_bestFault m_isHere m_place m_reason m_wide m_high) [some (.ref (a_t 0)), some (.int g1), some (.int g2), some (.int g3), none, none] 75 []) hm (fun x10 hm => ?_) (fun j11 hj11 hm => ?_)
              ·
                refine w_aload_n (pc := 75) hX dX8_door_75 rfl rfl ?_
                refine gf_X8_s (pc := 76) hX dX8_door_76 hX8 (List.mem_of_getElem? (i := 1) rfl) 0 rfl rfl ?_
                refine w_iconst (pc := 79) hX dX8_door_79 ic_2 ?_
                refine w_iconst (pc := 80) hX dX8_door_80 ic_2 ?_
                refine w_iload_n (pc := 81) hX dX8_door_81 rfl rfl ?_
                refine w_imul (pc := 82) hX dX8_door_82 ?_
                refine w_iadd (pc := 83) hX dX8_door_83 ?_
                refine w_iald (pc := 84) hX dX8_door_84 1 rfl hm (fun hm => ?_)
                refine w_istore (pc := 85) hX dX8_door_85 (Nat.le_of_ble_eq_true rfl) ?_
                refine w_aload_n (pc := 87) hX dX8_door_87 rfl rfl ?_
                refine gf_X8_s (pc := 88) hX dX8_door_88 hX8 (List.mem_of_getElem? (i := 1) rfl) 0 rfl rfl ?_
                refine w_iconst (pc := 91) hX dX8_door_91 ic_2 ?_
                refine w_iconst (pc := 92) hX dX8_door_92 ic_2 ?_
                refine w_iload_n (pc := 93) hX dX8_door_93 rfl rfl ?_
                refine w_imul (pc := 94) hX dX8_door_94 ?_
                refine w_iadd (pc := 95) hX dX8_door_95 ?_
                refine w_iload_n (pc := 96) hX dX8_door_96 rfl rfl ?_
                refine w_iast (pc := 97) hX dX8_door_97 1 rfl hm (fun hm => ?_)
                refine w_aload_n (pc := 98) hX dX8_door_98 rfl rfl ?_
                refine gf_X8_s (pc := 99) hX dX8_door_99 hX8 (List.mem_of_getElem? (i := 1) rfl) 0 rfl rfl ?_
                refine w_iconst (pc := 102) hX dX8_door_102 ic_2 ?_
                refine w_iconst (pc := 103) hX dX8_door_103 ic_2 ?_
                refine w_iload_n (pc := 104) hX dX8_door_104 rfl rfl ?_
                refine w_imul (pc := 105) hX dX8_door_105 ?_
                refine w_iadd (pc := 106) hX dX8_door_106 ?_
                refine w_iconst (pc := 107) hX dX8_door_107 ic_1 ?_
                refine w_iadd (pc := 108) hX dX8_door_108 ?_
                refine w_iload_n (pc := 109) hX dX8_door_109 rfl rfl ?_
                refine w_iast (pc := 110) hX dX8_door_110 1 rfl hm (fun hm => ?_)
                refine w_aload_n (pc := 111) hX dX8_door_111 rfl rfl ?_
                refine w_iload (pc := 112) hX dX8_door_112 rfl ?_
                obtain ⟨r12, hr12, hm⟩ := bnd hm
                refine w_calldi (pc := 114) (ws' := wX8 G a_t r12.2.1 r1 m_kept m_isKept r12.2.2.1 r12.2.2.2 m_text m_length m_far m_queue m_isOn m_steps m_wayCells m_turns m_visits m_wasSo m_bestAway m_bestMade m_bestFault m_isHere m_place m_reason m_wide m_high) (os := [some 0, some 1, some 2, some 3, some 4, some 5, some 6, some 7, some 8, some 9, some 10, some 11, some 12]) 13 hX [0, 1, 2, 3, 4, 5, 6, 7, 8, 9, 10, 11, 12] (runV (rest := []) hX [0, 1, 2, 3, 4, 5, 6, 7, 8, 9, 10, 11, 12] (ctX8_acted G F a_t (upd (upd m_s ((2 : Int32) + ((2 : Int32) * g1)).toNatClampNeg g2) (((2 : Int32) + ((2 : Int32) * g1)) + (1 : Int32)).toNatClampNeg g3) r1 m_kept m_isKept m_past m_states m_text m_length m_far m_queue m_isOn m_steps m_wayCells m_turns m_visits m_wasSo m_bestAway m_bestMade m_bestFault m_isHere m_place m_reason m_wide m_high (m_s ((2 : Int32) + ((2 : Int32) * g1)).toNatClampNeg) r12 hr12) dX8_door_114 1 gX8_door_X8_acted rfl hyX8_acted ⟨Nat.le_of_ble_eq_true rfl, Nat.le_of_ble_eq_true rfl⟩ 0 rfl rfl rfl rfl (Nat.le_of_ble_eq_true rfl) ⟨Nat.le_of_ble_eq_true rfl, Nat.le_of_ble_eq_true rfl⟩ rfl (by decide +kernel)) rfl rfl rfl (by decide +kernel) rfl ⟨rfl, rfl⟩ ?_
                obtain rfl := som hm
                exact w_iret (pc := 117) hX hR dX8_door_117 ⟨rfl, rfl⟩
              ·
                refine w_icmp_ne (pc := 56) (tgt := 75) hX dX8_door_56 (by decide) hm (fun hm => ?_) (fun hm => ?_)
                ·
                  exact w_lvs [true, true, true, true, false, false] (hj11 () hm)
                ·
                  refine w_aload_n (pc := 59) hX dX8_door_59 rfl rfl ?_
                  refine gf_X8_s (pc := 60) hX dX8_door_60 hX8 (List.mem_of_getElem? (i := 1) rfl) 0 rfl rfl ?_
                  refine w_iload (pc := 63) hX dX8_door_63 rfl ?_
                  refine w_iconst (pc := 65) hX dX8_door_65 ic_1 ?_
                  refine w_iadd (pc := 66) hX dX8_door_66 ?_
                  refine w_iald (pc := 67) hX dX8_door_67 1 rfl hm (fun hm => ?_)
                  refine w_iload_n (pc := 68) hX dX8_door_68 rfl rfl ?_
                  refine w_icmp_ne (pc := 69) (tgt := 75) hX dX8_door_69 (by decide) hm (fun hm => ?_) (fun hm => ?_)
                  ·
                    exact w_lvs [true, true, true, true, false, false] (hj11 () hm)
                  ·
                    exact w_lvs [false, false, false, false, false, false] (hj9 () hm)
        ·
          exact w_lvs [false, false, false, false, false, false] (hj4 () hm)

set_option maxHeartbeats 4000000 in
set_option maxRecDepth 100000 in
theorem ctX8_directions (G : gT) (F : Nat) (a_t : Nat → Nat) (m_s : nF) (m_begun : nF) (m_kept : nF) (m_isKept : Int32) (m_past : nF) (m_states : Int32) (m_text : nF) (m_length : Int32) (m_far : nF) (m_queue : nF) (m_isOn : nF) (m_steps : nF) (m_wayCells : Int32) (m_turns : Int32) (m_visits : nF) (m_wasSo : nF) (m_bestAway : Int32) (m_bestMade : Int32) (m_bestFault : Int32) (m_isHere : nF) (m_place : Int32) (m_reason : Int32) (m_wide : Int32) (m_high : Int32) (g1 : Int32) (o : Int32) (hm : mX8_directions F m_s g1 = some o) : CT G yX8_directions wsX8_directions rmX8_directions [.ref (a_t 0), .int g1] (wX8 G a_t m_s m_begun m_kept m_isKept m_past m_states m_text m_length m_far m_queue m_isOn m_steps m_wayCells m_turns m_visits m_wasSo m_bestAway m_bestMade m_bestFault m_isHere m_place m_reason m_wide m_high) (fun v w => v = some (.int o) ∧ w = wX8 G a_t m_s m_begun m_kept m_isKept m_past m_states m_text m_length m_far m_queue m_isOn m_steps m_wayCells m_turns m_visits m_wasSo m_bestAway m_bestMade m_bestFault m_isHere m_place m_reason m_wide m_high) := by
  refine CT_of (cc := cX8_directions) (maxL := 4) (ret := (some .int)) 2 (by decide +kernel) rfl rfl (cat_ok rfl) (fun X hX hR hN => ?_)
  have hX : Ok G X cX8_directions RX8 wsX8_directions 4 rmX8_directions := hX
  unfold mX8_directions at hm
  refine w_iconst (pc := 0) hX dX8_directions_0 ic_0 ?_
  refine w_istore_n (pc := 1) hX dX8_directions_1 rfl (Nat.le_of_ble_eq_true rfl) ?_
  refine w_iconst (pc := 2) hX dX8_directions_2 ic_0 ?_
  refine w_istore_n (pc := 3) hX dX8_directions_3 rfl (Nat.le_of_ble_eq_true rfl) ?_
  refine w_lvs [true, true, true, true] ?_
  refine lpr_ind (T := fun x1 : (Int32 × Int32) => WW G X 0 0 (wX8 G a_t m_s m_begun m_kept m_isKept m_past m_states m_text m_length m_far m_queue m_isOn m_steps m_wayCells m_turns m_visits m_wasSo m_bestAway m_bestMade m_bestFault m_isHere m_place m_reason m_wide m_high) [some (.ref (a_t 0)), some (.int g1), some (.int x1.1), some (.int x1.2)] 4 []) (fun self2 hself2 x1 hm => ?_) F ((0 : Int32), (0 : Int32)) hm
  unfold mX8_directions_L4 at hm
  refine w_iload_n (pc := 4) hX dX8_directions_4 rfl rfl ?_
  refine w_iconst (pc := 5) hX dX8_directions_5 ic_4 ?_
  refine w_icmp_ge (pc := 6) (tgt := 34) hX dX8_directions_6 (by decide) hm (fun hm => ?_) (fun hm => ?_)
  ·
    refine w_iload_n (pc := 34) hX dX8_directions_34 rfl rfl ?_
    obtain rfl := som hm
    exact w_iret (pc := 35) hX hR dX8_directions_35 ⟨rfl, rfl⟩
  ·
    refine w_iload_n (pc := 9) hX dX8_directions_9 rfl rfl ?_
    refine w_aload_n (pc := 10) hX dX8_directions_10 rfl rfl ?_
    refine w_iload_n (pc := 11) hX dX8_directions_11 rfl rfl ?_
    refine w_iload_n (pc := 12) hX dX8_directions_12 rfl rfl ?_
    obtain ⟨r3, hr3, hm⟩ := bnd hm
    refine w_callpi (pc := 13) hX [0, 1, 2, 3, 4, 5, 6, 7, 8, 9, 10, 11, 12] (runV (rest := [.int x1.1]) hX [0, 1, 2, 3, 4, 5, 6, 7, 8, 9, 10, 11, 12] (ctX8_isOpen G a_t m_s m_begun m_kept m_isKept m_past m_states m_text m_length m_far m_queue m_isOn m_steps m_wayCells m_turns m_visits m_wasSo m_bestAway m_bestMade m_bestFault m_isHere m_place m_reason m_wide m_high g1 x1.2 r3 hr3) dX8_directions_13 2 gX8_directions_X8_isOpen rfl hyX8_isOpen ⟨Nat.le_of_ble_eq_true rfl, Nat.le_of_ble_eq_true rfl⟩ 0 rfl rfl rfl rfl (Nat.le_of_ble_eq_true rfl) ⟨Nat.le_of_ble_eq_true rfl, Nat.le_of_ble_eq_true rfl⟩ rfl (by decide +kernel)) rfl ⟨rfl, rfl⟩ ?_
    refine w_jn (T := fun x4 : Int32 => WW G X 0 0 (wX8 G a_t m_s m_begun m_kept m_isKept m_past m_states m_text m_length m_far m_queue m_isOn m_steps m_wayCells m_turns m_visits m_wasSo m_bestAway m_bestMade m_bestFault m_isHere m_place m_reason m_wide m_high) [some (.ref (a_t 0)), some (.int g1), none, some (.int x1.2)] 26 [.int x4, .int x1.1]) hm (fun x4 hm => ?_) (fun j5 hj5 hm => ?_)
    ·
      refine w_ior (pc := 26) hX dX8_directions_26 ?_
      refine w_istore_n (pc := 27) hX dX8_directions_27 rfl (Nat.le_of_ble_eq_true rfl) ?_
      refine w_iinc (pc := 28) hX dX8_directions_28 rfl (Nat.le_of_ble_eq_true rfl) ic_1 ?_
      refine w_goto (pc := 31) (tgt := 4) hX dX8_directions_31 (by decide) ?_
      exact w_lvs [true, true, true, true] (hself2 (x1.1 ||| x4, x1.2 + (1 : Int32)) hm)
    ·
      refine w_if_eq (pc := 16) (tgt := 25) hX dX8_directions_16 (by decide) hm (fun hm => ?_) (fun hm => ?_)
      ·
        refine w_iconst (pc := 25) hX dX8_directions_25 ic_0 ?_
        exact w_lvs [true, true, false, true] (hj5 (0 : Int32) hm)
      ·
        refine w_iconst (pc := 19) hX dX8_directions_19 ic_1 ?_
        refine w_iload_n (pc := 20) hX dX8_directions_20 rfl rfl ?_
        refine w_ishl (pc := 21) hX dX8_directions_21 ?_
        refine w_goto (pc := 22) (tgt := 26) hX dX8_directions_22 (by decide) ?_
        exact w_lvs [true, true, false, true] (hj5 ((1 : Int32) <<< (x1.2 &&& 31)) hm)

theorem lX8_partOf_X8 : ∀ w ∈ wsX80, w ∈ wsX8_partOf := in_at [25, 26, 27, 28, 29, 30, 31, 32, 33, 34, 35, 36, 37, 38, 39, 40, 41, 42, 43, 44, 45, 46, 47, 48] (by decide +kernel)
set_option maxHeartbeats 4000000 in
set_option maxRecDepth 100000 in
theorem ctX8_partOf (G : gT) (F : Nat) (a_t : Nat → Nat) (m_s : nF) (m_begun : nF) (m_kept : nF) (m_isKept : Int32) (m_past : nF) (m_states : Int32) (m_text : nF) (m_length : Int32) (m_far : nF) (m_queue : nF) (m_isOn : nF) (m_steps : nF) (m_wayCells : Int32) (m_turns : Int32) (m_visits : nF) (m_wasSo : nF) (m_bestAway : Int32) (m_bestMade : Int32) (m_bestFault : Int32) (m_isHere : nF) (m_place : Int32) (m_reason : Int32) (m_wide : Int32) (m_high : Int32) (g1 : Int32) (g2 : Int32) (o : (Int32 × nF × nF)) (hm : mX8_partOf F m_s m_far m_queue g1 g2 = some o) : CT G yX8_partOf wsX8_partOf rmX8_partOf [.ref (a_t 0), .int g1, .int g2] (wX8 G a_t m_s m_begun m_kept m_isKept m_past m_states m_text m_length m_far m_queue m_isOn m_steps m_wayCells m_turns m_visits m_wasSo m_bestAway m_bestMade m_bestFault m_isHere m_place m_reason m_wide m_high) (fun v w => v = some (.int o.1) ∧ w = wX8 G a_t m_s m_begun m_kept m_isKept m_past m_states m_text m_length o.2.1 o.2.2 m_isOn m_steps m_wayCells m_turns m_visits m_wasSo m_bestAway m_bestMade m_bestFault m_isHere m_place m_reason m_wide m_high) := by
  refine CT_of (cc := cX8_partOf) (maxL := 6) (ret := (some .int)) 3 (by decide +kernel) rfl rfl (cat_ok rfl) (fun X hX hR hN => ?_)
  have hX : Ok G X cX8_partOf RX8 wsX8_partOf 6 rmX8_partOf := hX
  have hX8 : ∀ w ∈ wsX80, w ∈ wsX8_partOf := lX8_partOf_X8
  unfold mX8_partOf at hm
  refine w_aload_n (pc := 0) hX dX8_partOf_0 rfl rfl ?_
  refine w_iload_n (pc := 1) hX dX8_partOf_1 rfl rfl ?_
  obtain ⟨r1, hr1, hm⟩ := bnd hm
  refine w_calldv (pc := 2) (ws' := wX8 G a_t m_s m_begun m_kept m_isKept m_past m_states m_text m_length r1.1 r1.2 m_isOn m_steps m_wayCells m_turns m_visits m_wasSo m_bestAway m_bestMade m_bestFault m_isHere m_place m_reason m_wide m_high) (os := [some 0, some 1, some 2, some 3, some 4, some 5, some 6, some 7, some 8, some 9, some 10, some 11, some 12]) 13 hX [0, 1, 2, 3, 4, 5, 6, 7, 8, 9, 10, 11, 12] (runV (rest := []) hX [0, 1, 2, 3, 4, 5, 6, 7, 8, 9, 10, 11, 12] (ctX8_measures G F a_t m_s m_begun m_kept m_isKept m_past m_states m_text m_length m_far m_queue m_isOn m_steps m_wayCells m_turns m_visits m_wasSo m_bestAway m_bestMade m_bestFault m_isHere m_place m_reason m_wide m_high g1 r1 hr1) dX8_partOf_2 1 gX8_partOf_X8_measures rfl hyX8_measures ⟨Nat.le_of_ble_eq_true rfl, Nat.le_of_ble_eq_true rfl⟩ 0 rfl rfl rfl rfl (Nat.le_of_ble_eq_true rfl) ⟨Nat.le_of_ble_eq_true rfl, Nat.le_of_ble_eq_true rfl⟩ rfl (by decide +kernel)) rfl rfl rfl (by decide +kernel) rfl ⟨rfl, rfl⟩ ?_
  refine w_iconst (pc := 5) hX dX8_partOf_5 ic_m1 ?_
  refine w_istore_n (pc := 6) hX dX8_partOf_6 rfl (Nat.le_of_ble_eq_true rfl) ?_
  refine w_iconst (pc := 7) hX dX8_partOf_7 ic_0 ?_
  refine w_istore (pc := 8) hX dX8_partOf_8 (Nat.le_of_ble_eq_true rfl) ?_
  refine w_iconst (pc := 10) hX dX8_partOf_10 ic_0 ?_
  refine w_istore (pc := 11) hX dX8_partOf_11 (Nat.le_of_ble_eq_true rfl) ?_
  refine w_jn (T := fun x2 : (Int32 × Int32) => WW G X 0 0 (wX8 G a_t m_s m_begun m_kept m_isKept m_past m_states m_text m_length r1.1 r1.2 m_isOn m_steps m_wayCells m_turns m_visits m_wasSo m_bestAway m_bestMade m_bestFault m_isHere m_place m_reason m_wide m_high) [none, none, some (.int g2), some (.int x2.1), some (.int x2.2), none] 69 []) hm (fun x2 hm => ?_) (fun j3 hj3 hm => ?_)
  ·
    unfold mX8_partOf_K69 at hm
    refine w_iload_n (pc := 69) hX dX8_partOf_69 rfl rfl ?_
    refine w_jn (T := fun x4 : Int32 => WW G X 0 0 (wX8 G a_t m_s m_begun m_kept m_isKept m_past m_states m_text m_length r1.1 r1.2 m_isOn m_steps m_wayCells m_turns m_visits m_wasSo m_bestAway m_bestMade m_bestFault m_isHere m_place m_reason m_wide m_high) [none, none, none, none, none, none] 79 [.int x4]) hm (fun x4 hm => ?_) (fun j5 hj5 hm => ?_)
    ·
      obtain rfl := som hm
      exact w_iret (pc := 79) hX hR dX8_partOf_79 ⟨rfl, rfl⟩
    ·
      refine w_if_eq (pc := 70) (tgt := 77) hX dX8_partOf_70 (by decide) hm (fun hm => ?_) (fun hm => ?_)
      ·
        refine w_iload (pc := 77) hX dX8_partOf_77 rfl ?_
        exact w_lvs [false, false, false, false, false, false] (hj5 x2.2 hm)
      ·
        refine w_iload_n (pc := 73) hX dX8_partOf_73 rfl rfl ?_
        refine w_goto (pc := 74) (tgt := 79) hX dX8_partOf_74 (by decide) ?_
        exact w_lvs [false, false, false, false, false, false] (hj5 x2.1 hm)
  ·
    refine w_lvs [true, false, true, true, true, true] ?_
    refine lpr_ind (T := fun x6 : (Int32 × Int32 × Int32) => WW G X 0 0 (wX8 G a_t m_s m_begun m_kept m_isKept m_past m_states m_text m_length r1.1 r1.2 m_isOn m_steps m_wayCells m_turns m_visits m_wasSo m_bestAway m_bestMade m_bestFault m_isHere m_place m_reason m_wide m_high) [some (.ref (a_t 0)), none, some (.int g2), some (.int x6.1), some (.int x6.2.1), some (.int x6.2.2)] 13 []) (fun self7 hself7 x6 hm => ?_) F ((-1 : Int32), (0 : Int32), (0 : Int32)) hm
    unfold mX8_partOf_L13 at hm
    refine w_iload (pc := 13) hX dX8_partOf_13 rfl ?_
    refine w_aload_n (pc := 15) hX dX8_partOf_15 rfl rfl ?_
    obtain ⟨r8, hr8, hm⟩ := bnd hm
    refine w_callpi (pc := 16) hX [0, 1, 2, 3, 4, 5, 6, 7, 8, 9, 10, 11, 12] (runV (rest := [.int x6.2.2]) hX [0, 1, 2, 3, 4, 5, 6, 7, 8, 9, 10, 11, 12] (ctX8_cells G a_t m_s m_begun m_kept m_isKept m_past m_states m_text m_length r1.1 r1.2 m_isOn m_steps m_wayCells m_turns m_visits m_wasSo m_bestAway m_bestMade m_bestFault m_isHere m_place m_reason m_wide m_high r8 hr8) dX8_partOf_16 0 gX8_partOf_X8_cells rfl hyX8_cells ⟨Nat.le_of_ble_eq_true rfl, Nat.le_of_ble_eq_true rfl⟩ 0 rfl rfl rfl rfl (Nat.le_of_ble_eq_true rfl) ⟨Nat.le_of_ble_eq_true rfl, Nat.le_of_ble_eq_true rfl⟩ rfl (by decide +kernel)) rfl ⟨rfl, rfl⟩ ?_
    refine w_icmp_ge (pc := 19) (tgt := 69) hX dX8_partOf_19 (by decide) hm (fun hm => ?_) (fun hm => ?_)
    ·
      exact w_lvs [false, false, true, true, true, false] (hj3 (x6.1, x6.2.1) hm)
    ·
      refine w_iload_n (pc := 22) hX dX8_partOf_22 rfl rfl ?_
      refine w_jn (T := fun x9 : Int32 => WW G X 0 0 (wX8 G a_t m_s m_begun m_kept m_isKept m_past m_states m_text m_length r1.1 r1.2 m_isOn m_steps m_wayCells m_turns m_visits m_wasSo m_bestAway m_bestMade m_bestFault m_isHere m_place m_reason m_wide m_high) [some (.ref (a_t 0)), none, some (.int g2), none, some (.int x6.2.1), some (.int x6.2.2)] 42 [.int x9]) hm (fun x9 hm => ?_) (fun j10 hj10 hm => ?_)
      ·
        refine w_istore_n (pc := 42) hX dX8_partOf_42 rfl (Nat.le_of_ble_eq_true rfl) ?_
        refine w_iload (pc := 43) hX dX8_partOf_43 rfl ?_
        refine w_aload_n (pc := 45) hX dX8_partOf_45 rfl rfl ?_
        refine gf_X8_far (pc := 46) hX dX8_partOf_46 hX8 (List.mem_of_getElem? (i := 1) rfl) 0 rfl rfl ?_
        refine w_iload (pc := 49) hX dX8_partOf_49 rfl ?_
        refine w_iald (pc := 51) hX dX8_partOf_51 6 rfl hm (fun hm => ?_)
        refine w_jn (T := fun x11 : Int32 => WW G X 0 0 (wX8 G a_t m_s m_begun m_kept m_isKept m_past m_states m_text m_length r1.1 r1.2 m_isOn m_steps m_wayCells m_turns m_visits m_wasSo m_bestAway m_bestMade m_bestFault m_isHere m_place m_reason m_wide m_high) [some (.ref (a_t 0)), none, some (.int g2), some (.int x9), none, some (.int x6.2.2)] 60 [.int x11, .int x6.2.1]) hm (fun x11 hm => ?_) (fun j12 hj12 hm => ?_)
        ·
          refine w_iadd (pc := 60) hX dX8_partOf_60 ?_
          refine w_istore (pc := 61) hX dX8_partOf_61 (Nat.le_of_ble_eq_true rfl) ?_
          refine w_iinc (pc := 63) hX dX8_partOf_63 rfl (Nat.le_of_ble_eq_true rfl) ic_1 ?_
          refine w_goto (pc := 66) (tgt := 13) hX dX8_partOf_66 (by decide) ?_
          exact w_lvs [true, false, true, true, true, true] (hself7 (x9, x6.2.1 + x11, x6.2.2 + (1 : Int32)) hm)
        ·
          refine w_if_lt (pc := 52) (tgt := 59) hX dX8_partOf_52 (by decide) hm (fun hm => ?_) (fun hm => ?_)
          ·
            refine w_iconst (pc := 59) hX dX8_partOf_59 ic_0 ?_
            exact w_lvs [true, false, true, true, false, true] (hj12 (0 : Int32) hm)
          ·
            refine w_iconst (pc := 55) hX dX8_partOf_55 ic_1 ?_
            refine w_goto (pc := 56) (tgt := 60) hX dX8_partOf_56 (by decide) ?_
            exact w_lvs [true, false, true, true, false, true] (hj12 (1 : Int32) hm)
      ·
        refine w_jn (T := fun x13 : Unit => WW G X 0 0 (wX8 G a_t m_s m_begun m_kept m_isKept m_past m_states m_text m_length r1.1 r1.2 m_isOn m_steps m_wayCells m_turns m_visits m_wasSo m_bestAway m_bestMade m_bestFault m_isHere m_place m_reason m_wide m_high) [some (.ref (a_t 0)), none, some (.int g2), some (.int x6.1), some (.int x6.2.1), some (.int x6.2.2)] 41 []) hm (fun x13 hm => ?_) (fun j14 hj14 hm => ?_)
        ·
          refine w_iload_n (pc := 41) hX dX8_partOf_41 rfl rfl ?_
          exact w_lvs [true, false, true, false, true, true] (hj10 x6.1 hm)
        ·
          refine w_if_ge (pc := 23) (tgt := 41) hX dX8_partOf_23 (by decide) hm (fun hm => ?_) (fun hm => ?_)
          ·
            exact w_lvs [true, false, true, true, true, true] (hj14 () hm)
          ·
            refine w_aload_n (pc := 26) hX dX8_partOf_26 rfl rfl ?_
            refine gf_X8_far (pc := 27) hX dX8_partOf_27 hX8 (List.mem_of_getElem? (i := 1) rfl) 0 rfl rfl ?_
            refine w_iload (pc := 30) hX dX8_partOf_30 rfl ?_
            refine w_iald (pc := 32) hX dX8_partOf_32 6 rfl hm (fun hm => ?_)
            refine w_if_lt (pc := 33) (tgt := 41) hX dX8_partOf_33 (by decide) hm (fun hm => ?_) (fun hm => ?_)
            ·
              exact w_lvs [true, false, true, true, true, true] (hj14 () hm)
            ·
              refine w_iload (pc := 36) hX dX8_partOf_36 rfl ?_
              refine w_goto (pc := 38) (tgt := 42) hX dX8_partOf_38 (by decide) ?_
              exact w_lvs [true, false, true, false, true, true] (hj10 x6.2.2 hm)

set_option maxHeartbeats 4000000 in
set_option maxRecDepth 100000 in
theorem ctX8_orNone (G : gT) (g0 : Int32) (o : Int32) (hm : mX8_orNone g0 = some o) : CT G yX8_orNone wsX8_orNone rmX8_orNone [.int g0] ([]) (fun v w => v = some (.int o) ∧ w = []) := by
  refine CT_of (cc := cX8_orNone) (maxL := 1) (ret := (some .int)) 0 (by decide +kernel) rfl rfl (cat_ok rfl) (fun X hX hR hN => ?_)
  have hX : Ok G X cX8_orNone RX8 wsX8_orNone 1 rmX8_orNone := hX
  unfold mX8_orNone at hm
  refine w_iload_n (pc := 0) hX dX8_orNone_0 rfl rfl ?_
  refine w_jn (T := fun x1 : Int32 => WW G X 0 0 ([]) [none] 10 [.int x1]) hm (fun x1 hm => ?_) (fun j2 hj2 hm => ?_)
  ·
    obtain rfl := som hm
    exact w_iret (pc := 10) hX hR dX8_orNone_10 ⟨rfl, rfl⟩
  ·
    refine w_if_ge (pc := 1) (tgt := 9) hX dX8_orNone_1 (by decide) hm (fun hm => ?_) (fun hm => ?_)
    ·
      refine w_iload_n (pc := 9) hX dX8_orNone_9 rfl rfl ?_
      exact w_lvs [false] (hj2 g0 hm)
    ·
      refine w_bipush (pc := 4) hX dX8_orNone_4 bp_m4 ?_
      refine w_goto (pc := 6) (tgt := 10) hX dX8_orNone_6 (by decide) ?_
      exact w_lvs [false] (hj2 (-4 : Int32) hm)

theorem lX8_onWay_X8 : ∀ w ∈ wsX80, w ∈ wsX8_onWay := in_at [33, 34, 35, 36, 37, 38, 39, 40, 41, 42, 43, 44, 45, 46, 47, 48, 49, 50, 51, 52, 53, 54, 55, 56] (by decide +kernel)
set_option maxHeartbeats 4000000 in
set_option maxRecDepth 100000 in
theorem ctX8_onWay (G : gT) (F : Nat) (a_t : Nat → Nat) (m_s : nF) (m_begun : nF) (m_kept : nF) (m_isKept : Int32) (m_past : nF) (m_states : Int32) (m_text : nF) (m_length : Int32) (m_far : nF) (m_queue : nF) (m_isOn : nF) (m_steps : nF) (m_wayCells : Int32) (m_turns : Int32) (m_visits : nF) (m_wasSo : nF) (m_bestAway : Int32) (m_bestMade : Int32) (m_bestFault : Int32) (m_isHere : nF) (m_place : Int32) (m_reason : Int32) (m_wide : Int32) (m_high : Int32) (g1 : Int32) (o : (Int32 × nF × nF × nF × nF × Int32 × Int32)) (hm : mX8_onWay F m_s m_far m_queue m_isOn m_steps m_wayCells m_turns g1 = some o) : CT G yX8_onWay wsX8_onWay rmX8_onWay [.ref (a_t 0), .int g1] (wX8 G a_t m_s m_begun m_kept m_isKept m_past m_states m_text m_length m_far m_queue m_isOn m_steps m_wayCells m_turns m_visits m_wasSo m_bestAway m_bestMade m_bestFault m_isHere m_place m_reason m_wide m_high) (fun v w => v = some (.int o.1) ∧ w = wX8 G a_t m_s m_begun m_kept m_isKept m_past m_states m_text m_length o.2.1 o.2.2.1 o.2.2.2.1 o.2.2.2.2.1 o.2.2.2.2.2.1 o.2.2.2.2.2.2 m_visits m_wasSo m_bestAway m_bestMade m_bestFault m_isHere m_place m_reason m_wide m_high) := by
  refine CT_of (cc := cX8_onWay) (maxL := 3) (ret := (some .int)) 1 (by decide +kernel) rfl rfl (cat_ok rfl) (fun X hX hR hN => ?_)
  have hX : Ok G X cX8_onWay RX8 wsX8_onWay 3 rmX8_onWay := hX
  have hX8 : ∀ w ∈ wsX80, w ∈ wsX8_onWay := lX8_onWay_X8
  unfold mX8_onWay at hm
  refine w_aload_n (pc := 0) hX dX8_onWay_0 rfl rfl ?_
  refine w_aload_n (pc := 1) hX dX8_onWay_1 rfl rfl ?_
  refine gf_X8_s (pc := 2) hX dX8_onWay_2 hX8 (List.mem_of_getElem? (i := 1) rfl) 0 rfl rfl ?_
  refine w_iconst (pc := 5) hX dX8_onWay_5 ic_4 ?_
  refine w_iald (pc := 6) hX dX8_onWay_6 1 rfl hm (fun hm => ?_)
  obtain ⟨r1, hr1, hm⟩ := bnd hm
  refine w_calldi (pc := 7) (ws' := wX8 G a_t m_s m_begun m_kept m_isKept m_past m_states m_text m_length r1.2.1 r1.2.2.1 r1.2.2.2.1 r1.2.2.2.2.1 r1.2.2.2.2.2.1 r1.2.2.2.2.2.2 m_visits m_wasSo m_bestAway m_bestMade m_bestFault m_isHere m_place m_reason m_wide m_high) (os := [some 0, some 1, some 2, some 3, some 4, some 5, some 6, some 7, some 8, some 9, some 10, some 11, some 12]) 13 hX [0, 1, 2, 3, 4, 5, 6, 7, 8, 9, 10, 11, 12] (runV (rest := []) hX [0, 1, 2, 3, 4, 5, 6, 7, 8, 9, 10, 11, 12] (ctX8_findsWay G F a_t m_s m_begun m_kept m_isKept m_past m_states m_text m_length m_far m_queue m_isOn m_steps m_wayCells m_turns m_visits m_wasSo m_bestAway m_bestMade m_bestFault m_isHere m_place m_reason m_wide m_high (m_s (4 : Int32).toNatClampNeg) r1 hr1) dX8_onWay_7 1 gX8_onWay_X8_findsWay rfl hyX8_findsWay ⟨Nat.le_of_ble_eq_true rfl, Nat.le_of_ble_eq_true rfl⟩ 0 rfl rfl rfl rfl (Nat.le_of_ble_eq_true rfl) ⟨Nat.le_of_ble_eq_true rfl, Nat.le_of_ble_eq_true rfl⟩ rfl (by decide +kernel)) rfl rfl rfl (by decide +kernel) rfl ⟨rfl, rfl⟩ ?_
  refine w_istore_n (pc := 10) hX dX8_onWay_10 rfl (Nat.le_of_ble_eq_true rfl) ?_
  refine w_aload_n (pc := 11) hX dX8_onWay_11 rfl rfl ?_
  refine gf_X8_isOn (pc := 12) hX dX8_onWay_12 hX8 (List.mem_of_getElem? (i := 2) rfl) 0 rfl rfl ?_
  refine w_iload_n (pc := 15) hX dX8_onWay_15 rfl rfl ?_
  refine w_zald (pc := 16) hX dX8_onWay_16 8 rfl hm (fun hm => ?_)
  refine w_jn (T := fun x2 : Int32 => WW G X 0 0 (wX8 G a_t m_s m_begun m_kept m_isKept m_past m_states m_text m_length r1.2.1 r1.2.2.1 r1.2.2.2.1 r1.2.2.2.2.1 r1.2.2.2.2.2.1 r1.2.2.2.2.2.2 m_visits m_wasSo m_bestAway m_bestMade m_bestFault m_isHere m_place m_reason m_wide m_high) [none, none, none] 25 [.int x2]) hm (fun x2 hm => ?_) (fun j3 hj3 hm => ?_)
  ·
    obtain rfl := som hm
    exact w_iret (pc := 25) hX hR dX8_onWay_25 ⟨rfl, rfl⟩
  ·
    refine w_if_eq (pc := 17) (tgt := 24) hX dX8_onWay_17 (by decide) hm (fun hm => ?_) (fun hm => ?_)
    ·
      refine w_iconst (pc := 24) hX dX8_onWay_24 ic_0 ?_
      exact w_lvs [false, false, false] (hj3 (0 : Int32) hm)
    ·
      refine w_iconst (pc := 20) hX dX8_onWay_20 ic_1 ?_
      refine w_goto (pc := 21) (tgt := 25) hX dX8_onWay_21 (by decide) ?_
      exact w_lvs [false, false, false] (hj3 (1 : Int32) hm)
