/-! WALKS, printed by wip/whole/gen.py -/
theorem lX8_tone_X8 : ∀ w ∈ wsX80, w ∈ wsX8_tone := in_at [25, 26, 27, 28, 29, 30, 31, 32, 33, 34, 35, 36, 37, 38, 39, 40, 41, 42, 43, 44, 45, 46, 47, 48] (by decide +kernel)
set_option maxHeartbeats 4000000 in
set_option maxRecDepth 100000 in
theorem ctX8_tone (G : gT) (F : Nat) (a_t : Nat → Nat) (m_s : nF) (m_begun : nF) (m_kept : nF) (m_isKept : Int32) (m_past : nF) (m_states : Int32) (m_text : nF) (m_length : Int32) (m_far : nF) (m_queue : nF) (m_isOn : nF) (m_steps : nF) (m_wayCells : Int32) (m_turns : Int32) (m_visits : nF) (m_wasSo : nF) (m_bestAway : Int32) (m_bestMade : Int32) (m_bestFault : Int32) (m_isHere : nF) (m_place : Int32) (m_reason : Int32) (m_wide : Int32) (m_high : Int32) (g1 : Int32) (g2 : Int32) (o : (Int32 × nF × nF × nF × Int32)) (hm : mX8_tone F m_s m_begun m_past m_states g1 g2 = some o) : CT G yX8_tone wsX8_tone rmX8_tone [.ref (a_t 0), .int g1, .int g2] (wX8 G a_t m_s m_begun m_kept m_isKept m_past m_states m_text m_length m_far m_queue m_isOn m_steps m_wayCells m_turns m_visits m_wasSo m_bestAway m_bestMade m_bestFault m_isHere m_place m_reason m_wide m_high) (fun v w => v = some (.int o.1) ∧ w = wX8 G a_t o.2.1 o.2.2.1 m_kept m_isKept o.2.2.2.1 o.2.2.2.2 m_text m_length m_far m_queue m_isOn m_steps m_wayCells m_turns m_visits m_wasSo m_bestAway m_bestMade m_bestFault m_isHere m_place m_reason m_wide m_high) := by
  refine CT_of (cc := cX8_tone) (maxL := 4) (ret := (some .int)) 1 (by decide +kernel) rfl rfl (cat_ok rfl) (fun X hX hR hN => ?_)
  have hX : Ok G X cX8_tone RX8 wsX8_tone 4 rmX8_tone := hX
  have hX8 : ∀ w ∈ wsX80, w ∈ wsX8_tone := lX8_tone_X8
  unfold mX8_tone at hm
  refine w_aload_n (pc := 0) hX dX8_tone_0 rfl rfl ?_
  obtain ⟨r1, hr1, hm⟩ := bnd hm
  refine w_calldv (pc := 1) (ws' := wX8 G a_t m_s r1 m_kept m_isKept m_past m_states m_text m_length m_far m_queue m_isOn m_steps m_wayCells m_turns m_visits m_wasSo m_bestAway m_bestMade m_bestFault m_isHere m_place m_reason m_wide m_high) hX [0, 1, 2, 3, 4, 5, 6, 7, 8, 9, 10, 11, 12] (runV (rest := []) hX [0, 1, 2, 3, 4, 5, 6, 7, 8, 9, 10, 11, 12] (ctX8_begins G F a_t m_s m_begun m_kept m_isKept m_past m_states m_text m_length m_far m_queue m_isOn m_steps m_wayCells m_turns m_visits m_wasSo m_bestAway m_bestMade m_bestFault m_isHere m_place m_reason m_wide m_high r1 hr1) dX8_tone_1 0 gX8_tone_X8_begins rfl hyX8_begins ⟨Nat.le_of_ble_eq_true rfl, Nat.le_of_ble_eq_true rfl⟩ 0 rfl rfl rfl rfl (Nat.le_of_ble_eq_true rfl) ⟨Nat.le_of_ble_eq_true rfl, Nat.le_of_ble_eq_true rfl⟩ rfl rfl) rfl rfl rfl ⟨rfl, rfl⟩ ?_
  refine w_aload_n (pc := 4) hX dX8_tone_4 rfl rfl ?_
  refine w_iload_n (pc := 5) hX dX8_tone_5 rfl rfl ?_
  obtain ⟨r2, hr2, hm⟩ := bnd hm
  refine w_callpi (pc := 6) hX [0, 1, 2, 3, 4, 5, 6, 7, 8, 9, 10, 11, 12] (runV (rest := []) hX [0, 1, 2, 3, 4, 5, 6, 7, 8, 9, 10, 11, 12] (ctX8_isCell G a_t m_s r1 m_kept m_isKept m_past m_states m_text m_length m_far m_queue m_isOn m_steps m_wayCells m_turns m_visits m_wasSo m_bestAway m_bestMade m_bestFault m_isHere m_place m_reason m_wide m_high g1 r2 hr2) dX8_tone_6 1 gX8_tone_X8_isCell rfl hyX8_isCell ⟨Nat.le_of_ble_eq_true rfl, Nat.le_of_ble_eq_true rfl⟩ 0 rfl rfl rfl rfl (Nat.le_of_ble_eq_true rfl) ⟨Nat.le_of_ble_eq_true rfl, Nat.le_of_ble_eq_true rfl⟩ rfl rfl) rfl ⟨rfl, rfl⟩ ?_
  refine w_jn (T := fun x3 : Unit => WW G X 0 0 (wX8 G a_t m_s r1 m_kept m_isKept m_past m_states m_text m_length m_far m_queue m_isOn m_steps m_wayCells m_turns m_visits m_wasSo m_bestAway m_bestMade m_bestFault m_isHere m_place m_reason m_wide m_high) [none, none, none, none] 22 []) hm (fun x3 hm => ?_) (fun j4 hj4 hm => ?_)
  ·
    refine w_iconst (pc := 22) hX dX8_tone_22 ic_m1 ?_
    obtain rfl := som hm
    exact w_iret (pc := 23) hX hR dX8_tone_23 ⟨rfl, rfl⟩
  ·
    refine w_if_eq (pc := 9) (tgt := 22) hX dX8_tone_9 (by decide) hm (fun hm => ?_) (fun hm => ?_)
    ·
      exact w_lvs [false, false, false, false] (hj4 () hm)
    ·
      refine w_iload_n (pc := 12) hX dX8_tone_12 rfl rfl ?_
      refine w_iconst (pc := 13) hX dX8_tone_13 ic_0 ?_
      refine w_bipush (pc := 14) hX dX8_tone_14 bp_9 ?_
      obtain ⟨r5, hr5, hm⟩ := bnd hm
      refine w_callpi (pc := 16) hX [] (runS (rest := []) hX [] (ctX8_in G g2 (0 : Int32) (9 : Int32) r5 hr5) dX8_tone_16 3 gX8_tone_X8_in rfl hyX8_in.2 ⟨Nat.le_of_ble_eq_true rfl, Nat.le_of_ble_eq_true rfl⟩ rfl rfl (Nat.le_of_ble_eq_true rfl) ⟨Nat.le_of_ble_eq_true rfl, Nat.le_of_ble_eq_true rfl⟩ rfl rfl) rfl ⟨rfl, rfl⟩ ?_
      refine w_if_ne (pc := 19) (tgt := 24) hX dX8_tone_19 (by decide) hm (fun hm => ?_) (fun hm => ?_)
      ·
        refine w_aload_n (pc := 24) hX dX8_tone_24 rfl rfl ?_
        refine gf_X8_s (pc := 25) hX dX8_tone_25 hX8 (List.mem_of_getElem? (i := 1) rfl) 0 rfl rfl ?_
        refine w_bipush (pc := 28) hX dX8_tone_28 bp_6 ?_
        refine w_iload_n (pc := 30) hX dX8_tone_30 rfl rfl ?_
        refine w_iadd (pc := 31) hX dX8_tone_31 ?_
        refine w_iald (pc := 32) hX dX8_tone_32 1 rfl hm (fun hm => ?_)
        refine w_istore_n (pc := 33) hX dX8_tone_33 rfl (Nat.le_of_ble_eq_true rfl) ?_
        refine w_aload_n (pc := 34) hX dX8_tone_34 rfl rfl ?_
        refine gf_X8_s (pc := 35) hX dX8_tone_35 hX8 (List.mem_of_getElem? (i := 1) rfl) 0 rfl rfl ?_
        refine w_bipush (pc := 38) hX dX8_tone_38 bp_6 ?_
        refine w_iload_n (pc := 40) hX dX8_tone_40 rfl rfl ?_
        refine w_iadd (pc := 41) hX dX8_tone_41 ?_
        refine w_iload_n (pc := 42) hX dX8_tone_42 rfl rfl ?_
        refine w_iast (pc := 43) hX dX8_tone_43 1 rfl hm (fun hm => ?_)
        refine w_aload_n (pc := 44) hX dX8_tone_44 rfl rfl ?_
        refine w_iload_n (pc := 45) hX dX8_tone_45 rfl rfl ?_
        obtain ⟨r6, hr6, hm⟩ := bnd hm
        refine w_calldi (pc := 46) (ws' := wX8 G a_t r6.2.1 r1 m_kept m_isKept r6.2.2.1 r6.2.2.2 m_text m_length m_far m_queue m_isOn m_steps m_wayCells m_turns m_visits m_wasSo m_bestAway m_bestMade m_bestFault m_isHere m_place m_reason m_wide m_high) hX [0, 1, 2, 3, 4, 5, 6, 7, 8, 9, 10, 11, 12] (runV (rest := []) hX [0, 1, 2, 3, 4, 5, 6, 7, 8, 9, 10, 11, 12] (ctX8_acted G F a_t (upd m_s ((6 : Int32) + g1).toNatClampNeg g2) r1 m_kept m_isKept m_past m_states m_text m_length m_far m_queue m_isOn m_steps m_wayCells m_turns m_visits m_wasSo m_bestAway m_bestMade m_bestFault m_isHere m_place m_reason m_wide m_high (m_s ((6 : Int32) + g1).toNatClampNeg) r6 hr6) dX8_tone_46 1 gX8_tone_X8_acted rfl hyX8_acted ⟨Nat.le_of_ble_eq_true rfl, Nat.le_of_ble_eq_true rfl⟩ 0 rfl rfl rfl rfl (Nat.le_of_ble_eq_true rfl) ⟨Nat.le_of_ble_eq_true rfl, Nat.le_of_ble_eq_true rfl⟩ rfl rfl) rfl rfl rfl ⟨rfl, rfl⟩ ?_
        obtain rfl := som hm
        exact w_iret (pc := 49) hX hR dX8_tone_49 ⟨rfl, rfl⟩
      ·
        exact w_lvs [false, false, false, false] (hj4 () hm)

theorem lX8_carve_X8 : ∀ w ∈ wsX80, w ∈ wsX8_carve := in_at [55, 56, 57, 58, 59, 60, 61, 62, 63, 64, 65, 66, 67, 68, 69, 70, 71, 72, 73, 74, 75, 76, 77, 78] (by decide +kernel)
set_option maxHeartbeats 4000000 in
set_option maxRecDepth 100000 in
theorem ctX8_carve (G : gT) (F : Nat) (a_t : Nat → Nat) (m_s : nF) (m_begun : nF) (m_kept : nF) (m_isKept : Int32) (m_past : nF) (m_states : Int32) (m_text : nF) (m_length : Int32) (m_far : nF) (m_queue : nF) (m_isOn : nF) (m_steps : nF) (m_wayCells : Int32) (m_turns : Int32) (m_visits : nF) (m_wasSo : nF) (m_bestAway : Int32) (m_bestMade : Int32) (m_bestFault : Int32) (m_isHere : nF) (m_place : Int32) (m_reason : Int32) (m_wide : Int32) (m_high : Int32) (g1 : Int32) (g2 : Int32) (o : (Int32 × nF × nF × nF × Int32 × nF × nF)) (hm : mX8_carve F m_s m_begun m_past m_states m_far m_queue g1 g2 = some o) : CT G yX8_carve wsX8_carve rmX8_carve [.ref (a_t 0), .int g1, .int g2] (wX8 G a_t m_s m_begun m_kept m_isKept m_past m_states m_text m_length m_far m_queue m_isOn m_steps m_wayCells m_turns m_visits m_wasSo m_bestAway m_bestMade m_bestFault m_isHere m_place m_reason m_wide m_high) (fun v w => v = some (.int o.1) ∧ w = wX8 G a_t o.2.1 o.2.2.1 m_kept m_isKept o.2.2.2.1 o.2.2.2.2.1 m_text m_length o.2.2.2.2.2.1 o.2.2.2.2.2.2 m_isOn m_steps m_wayCells m_turns m_visits m_wasSo m_bestAway m_bestMade m_bestFault m_isHere m_place m_reason m_wide m_high) := by
  refine CT_of (cc := cX8_carve) (maxL := 4) (ret := (some .int)) 1 (by decide +kernel) rfl rfl (cat_ok rfl) (fun X hX hR hN => ?_)
  have hX : Ok G X cX8_carve RX8 wsX8_carve 4 rmX8_carve := hX
  have hX8 : ∀ w ∈ wsX80, w ∈ wsX8_carve := lX8_carve_X8
  unfold mX8_carve at hm
  refine w_aload_n (pc := 0) hX dX8_carve_0 rfl rfl ?_
  obtain ⟨r1, hr1, hm⟩ := bnd hm
  refine w_calldv (pc := 1) (ws' := wX8 G a_t m_s r1 m_kept m_isKept m_past m_states m_text m_length m_far m_queue m_isOn m_steps m_wayCells m_turns m_visits m_wasSo m_bestAway m_bestMade m_bestFault m_isHere m_place m_reason m_wide m_high) hX [0, 1, 2, 3, 4, 5, 6, 7, 8, 9, 10, 11, 12] (runV (rest := []) hX [0, 1, 2, 3, 4, 5, 6, 7, 8, 9, 10, 11, 12] (ctX8_begins G F a_t m_s m_begun m_kept m_isKept m_past m_states m_text m_length m_far m_queue m_isOn m_steps m_wayCells m_turns m_visits m_wasSo m_bestAway m_bestMade m_bestFault m_isHere m_place m_reason m_wide m_high r1 hr1) dX8_carve_1 0 gX8_carve_X8_begins rfl hyX8_begins ⟨Nat.le_of_ble_eq_true rfl, Nat.le_of_ble_eq_true rfl⟩ 0 rfl rfl rfl rfl (Nat.le_of_ble_eq_true rfl) ⟨Nat.le_of_ble_eq_true rfl, Nat.le_of_ble_eq_true rfl⟩ rfl rfl) rfl rfl rfl ⟨rfl, rfl⟩ ?_
  refine w_aload_n (pc := 4) hX dX8_carve_4 rfl rfl ?_
  refine w_iload_n (pc := 5) hX dX8_carve_5 rfl rfl ?_
  obtain ⟨r2, hr2, hm⟩ := bnd hm
  refine w_callpi (pc := 6) hX [0, 1, 2, 3, 4, 5, 6, 7, 8, 9, 10, 11, 12] (runV (rest := []) hX [0, 1, 2, 3, 4, 5, 6, 7, 8, 9, 10, 11, 12] (ctX8_isCell G a_t m_s r1 m_kept m_isKept m_past m_states m_text m_length m_far m_queue m_isOn m_steps m_wayCells m_turns m_visits m_wasSo m_bestAway m_bestMade m_bestFault m_isHere m_place m_reason m_wide m_high g1 r2 hr2) dX8_carve_6 1 gX8_carve_X8_isCell rfl hyX8_isCell ⟨Nat.le_of_ble_eq_true rfl, Nat.le_of_ble_eq_true rfl⟩ 0 rfl rfl rfl rfl (Nat.le_of_ble_eq_true rfl) ⟨Nat.le_of_ble_eq_true rfl, Nat.le_of_ble_eq_true rfl⟩ rfl rfl) rfl ⟨rfl, rfl⟩ ?_
  refine w_jn (T := fun x3 : Unit => WW G X 0 0 (wX8 G a_t m_s r1 m_kept m_isKept m_past m_states m_text m_length m_far m_queue m_isOn m_steps m_wayCells m_turns m_visits m_wasSo m_bestAway m_bestMade m_bestFault m_isHere m_place m_reason m_wide m_high) [none, none, none, none] 21 []) hm (fun x3 hm => ?_) (fun j4 hj4 hm => ?_)
  ·
    refine w_iconst (pc := 21) hX dX8_carve_21 ic_m1 ?_
    obtain rfl := som hm
    exact w_iret (pc := 22) hX hR dX8_carve_22 ⟨rfl, rfl⟩
  ·
    refine w_if_eq (pc := 9) (tgt := 21) hX dX8_carve_9 (by decide) hm (fun hm => ?_) (fun hm => ?_)
    ·
      exact w_lvs [false, false, false, false] (hj4 () hm)
    ·
      refine w_iload_n (pc := 12) hX dX8_carve_12 rfl rfl ?_
      refine w_iconst (pc := 13) hX dX8_carve_13 ic_0 ?_
      refine w_iconst (pc := 14) hX dX8_carve_14 ic_3 ?_
      obtain ⟨r5, hr5, hm⟩ := bnd hm
      refine w_callpi (pc := 15) hX [] (runS (rest := []) hX [] (ctX8_in G g2 (0 : Int32) (3 : Int32) r5 hr5) dX8_carve_15 3 gX8_carve_X8_in rfl hyX8_in.2 ⟨Nat.le_of_ble_eq_true rfl, Nat.le_of_ble_eq_true rfl⟩ rfl rfl (Nat.le_of_ble_eq_true rfl) ⟨Nat.le_of_ble_eq_true rfl, Nat.le_of_ble_eq_true rfl⟩ rfl rfl) rfl ⟨rfl, rfl⟩ ?_
      refine w_if_ne (pc := 18) (tgt := 23) hX dX8_carve_18 (by decide) hm (fun hm => ?_) (fun hm => ?_)
      ·
        refine w_aload_n (pc := 23) hX dX8_carve_23 rfl rfl ?_
        refine w_iload_n (pc := 24) hX dX8_carve_24 rfl rfl ?_
        refine w_iload_n (pc := 25) hX dX8_carve_25 rfl rfl ?_
        obtain ⟨r6, hr6, hm⟩ := bnd hm
        refine w_callpi (pc := 26) hX [0, 1, 2, 3, 4, 5, 6, 7, 8, 9, 10, 11, 12] (runV (rest := []) hX [0, 1, 2, 3, 4, 5, 6, 7, 8, 9, 10, 11, 12] (ctX8_besides G a_t m_s r1 m_kept m_isKept m_past m_states m_text m_length m_far m_queue m_isOn m_steps m_wayCells m_turns m_visits m_wasSo m_bestAway m_bestMade m_bestFault m_isHere m_place m_reason m_wide m_high g1 g2 r6 hr6) dX8_carve_26 2 gX8_carve_X8_besides rfl hyX8_besides ⟨Nat.le_of_ble_eq_true rfl, Nat.le_of_ble_eq_true rfl⟩ 0 rfl rfl rfl rfl (Nat.le_of_ble_eq_true rfl) ⟨Nat.le_of_ble_eq_true rfl, Nat.le_of_ble_eq_true rfl⟩ rfl rfl) rfl ⟨rfl, rfl⟩ ?_
        refine w_istore_n (pc := 29) hX dX8_carve_29 rfl (Nat.le_of_ble_eq_true rfl) ?_
        refine w_iload_n (pc := 30) hX dX8_carve_30 rfl rfl ?_
        refine w_jn (T := fun x7 : (nF × nF) => WW G X 0 0 (wX8 G a_t m_s r1 m_kept m_isKept m_past m_states m_text m_length x7.1 x7.2 m_isOn m_steps m_wayCells m_turns m_visits m_wasSo m_bestAway m_bestMade m_bestFault m_isHere m_place m_reason m_wide m_high) [none, none, none, none] 43 []) hm (fun x7 hm => ?_) (fun j8 hj8 hm => ?_)
        ·
          refine w_bipush (pc := 43) hX dX8_carve_43 bp_m2 ?_
          obtain rfl := som hm
          exact w_iret (pc := 45) hX hR dX8_carve_45 ⟨rfl, rfl⟩
        ·
          refine w_if_lt (pc := 31) (tgt := 43) hX dX8_carve_31 (by decide) hm (fun hm => ?_) (fun hm => ?_)
          ·
            exact w_lvs [false, false, false, false] (hj8 (m_far, m_queue) hm)
          ·
            refine w_aload_n (pc := 34) hX dX8_carve_34 rfl rfl ?_
            refine w_iload_n (pc := 35) hX dX8_carve_35 rfl rfl ?_
            refine w_iload_n (pc := 36) hX dX8_carve_36 rfl rfl ?_
            obtain ⟨r9, hr9, hm⟩ := bnd hm
            refine w_calldi (pc := 37) (ws' := wX8 G a_t m_s r1 m_kept m_isKept m_past m_states m_text m_length r9.2.1 r9.2.2 m_isOn m_steps m_wayCells m_turns m_visits m_wasSo m_bestAway m_bestMade m_bestFault m_isHere m_place m_reason m_wide m_high) hX [0, 1, 2, 3, 4, 5, 6, 7, 8, 9, 10, 11, 12] (runV (rest := []) hX [0, 1, 2, 3, 4, 5, 6, 7, 8, 9, 10, 11, 12] (ctX8_areJoined G F a_t m_s r1 m_kept m_isKept m_past m_states m_text m_length m_far m_queue m_isOn m_steps m_wayCells m_turns m_visits m_wasSo m_bestAway m_bestMade m_bestFault m_isHere m_place m_reason m_wide m_high g1 r6 r9 hr9) dX8_carve_37 2 gX8_carve_X8_areJoined rfl hyX8_areJoined ⟨Nat.le_of_ble_eq_true rfl, Nat.le_of_ble_eq_true rfl⟩ 0 rfl rfl rfl rfl (Nat.le_of_ble_eq_true rfl) ⟨Nat.le_of_ble_eq_true rfl, Nat.le_of_ble_eq_true rfl⟩ rfl rfl) rfl rfl rfl ⟨rfl, rfl⟩ ?_
            refine w_if_eq (pc := 40) (tgt := 46) hX dX8_carve_40 (by decide) hm (fun hm => ?_) (fun hm => ?_)
            ·
              refine w_aload_n (pc := 46) hX dX8_carve_46 rfl rfl ?_
              refine gf_X8_s (pc := 47) hX dX8_carve_47 hX8 (List.mem_of_getElem? (i := 1) rfl) 0 rfl rfl ?_
              refine w_bipush (pc := 50) hX dX8_carve_50 bp_42 ?_
              refine w_aload_n (pc := 52) hX dX8_carve_52 rfl rfl ?_
              refine w_iload_n (pc := 53) hX dX8_carve_53 rfl rfl ?_
              refine w_iload_n (pc := 54) hX dX8_carve_54 rfl rfl ?_
              obtain ⟨r10, hr10, hm⟩ := bnd hm
              refine w_callpi (pc := 55) hX [0, 1, 2, 3, 4, 5, 6, 7, 8, 9, 10, 11, 12] (runV (rest := [.int (42 : Int32), .ref (a_t 1)]) hX [0, 1, 2, 3, 4, 5, 6, 7, 8, 9, 10, 11, 12] (ctX8_numberOf G a_t m_s r1 m_kept m_isKept m_past m_states m_text m_length r9.2.1 r9.2.2 m_isOn m_steps m_wayCells m_turns m_visits m_wasSo m_bestAway m_bestMade m_bestFault m_isHere m_place m_reason m_wide m_high g1 g2 r10 hr10) dX8_carve_55 2 gX8_carve_X8_numberOf rfl hyX8_numberOf ⟨Nat.le_of_ble_eq_true rfl, Nat.le_of_ble_eq_true rfl⟩ 0 rfl rfl rfl rfl (Nat.le_of_ble_eq_true rfl) ⟨Nat.le_of_ble_eq_true rfl, Nat.le_of_ble_eq_true rfl⟩ rfl rfl) rfl ⟨rfl, rfl⟩ ?_
              refine w_iadd (pc := 58) hX dX8_carve_58 ?_
              refine w_iconst (pc := 59) hX dX8_carve_59 ic_1 ?_
              refine w_iast (pc := 60) hX dX8_carve_60 1 rfl hm (fun hm => ?_)
              refine w_aload_n (pc := 61) hX dX8_carve_61 rfl rfl ?_
              refine w_aload_n (pc := 62) hX dX8_carve_62 rfl rfl ?_
              obtain ⟨r11, hr11, hm⟩ := bnd hm
              refine w_callpi (pc := 63) hX [0, 1, 2, 3, 4, 5, 6, 7, 8, 9, 10, 11, 12] (runV (rest := [.ref (a_t 0)]) hX [0, 1, 2, 3, 4, 5, 6, 7, 8, 9, 10, 11, 12] (ctX8_parts G F a_t (upd m_s ((42 : Int32) + r10).toNatClampNeg (1 : Int32)) r1 m_kept m_isKept m_past m_states m_text m_length r9.2.1 r9.2.2 m_isOn m_steps m_wayCells m_turns m_visits m_wasSo m_bestAway m_bestMade m_bestFault m_isHere m_place m_reason m_wide m_high r11 hr11) dX8_carve_63 0 gX8_carve_X8_parts rfl hyX8_parts ⟨Nat.le_of_ble_eq_true rfl, Nat.le_of_ble_eq_true rfl⟩ 0 rfl rfl rfl rfl (Nat.le_of_ble_eq_true rfl) ⟨Nat.le_of_ble_eq_true rfl, Nat.le_of_ble_eq_true rfl⟩ rfl rfl) rfl ⟨rfl, rfl⟩ ?_
              obtain ⟨r12, hr12, hm⟩ := bnd hm
              refine w_calldi (pc := 66) (ws' := wX8 G a_t r12.2.1 r1 m_kept m_isKept r12.2.2.1 r12.2.2.2 m_text m_length r9.2.1 r9.2.2 m_isOn m_steps m_wayCells m_turns m_visits m_wasSo m_bestAway m_bestMade m_bestFault m_isHere m_place m_reason m_wide m_high) hX [0, 1, 2, 3, 4, 5, 6, 7, 8, 9, 10, 11, 12] (runV (rest := []) hX [0, 1, 2, 3, 4, 5, 6, 7, 8, 9, 10, 11, 12] (ctX8_acted G F a_t (upd m_s ((42 : Int32) + r10).toNatClampNeg (1 : Int32)) r1 m_kept m_isKept m_past m_states m_text m_length r9.2.1 r9.2.2 m_isOn m_steps m_wayCells m_turns m_visits m_wasSo m_bestAway m_bestMade m_bestFault m_isHere m_place m_reason m_wide m_high r11 r12 hr12) dX8_carve_66 1 gX8_carve_X8_acted rfl hyX8_acted ⟨Nat.le_of_ble_eq_true rfl, Nat.le_of_ble_eq_true rfl⟩ 0 rfl rfl rfl rfl (Nat.le_of_ble_eq_true rfl) ⟨Nat.le_of_ble_eq_true rfl, Nat.le_of_ble_eq_true rfl⟩ rfl rfl) rfl rfl rfl ⟨rfl, rfl⟩ ?_
              obtain rfl := som hm
              exact w_iret (pc := 69) hX hR dX8_carve_69 ⟨rfl, rfl⟩
            ·
              exact w_lvs [false, false, false, false] (hj8 (r9.2.1, r9.2.2) hm)
      ·
        exact w_lvs [false, false, false, false] (hj4 () hm)

theorem lX8_wall_X8 : ∀ w ∈ wsX80, w ∈ wsX8_wall := in_at [45, 46, 47, 48, 49, 50, 51, 52, 53, 54, 55, 56, 57, 58, 59, 60, 61, 62, 63, 64, 65, 66, 67, 68] (by decide +kernel)
set_option maxHeartbeats 4000000 in
set_option maxRecDepth 100000 in
theorem ctX8_wall (G : gT) (F : Nat) (a_t : Nat → Nat) (m_s : nF) (m_begun : nF) (m_kept : nF) (m_isKept : Int32) (m_past : nF) (m_states : Int32) (m_text : nF) (m_length : Int32) (m_far : nF) (m_queue : nF) (m_isOn : nF) (m_steps : nF) (m_wayCells : Int32) (m_turns : Int32) (m_visits : nF) (m_wasSo : nF) (m_bestAway : Int32) (m_bestMade : Int32) (m_bestFault : Int32) (m_isHere : nF) (m_place : Int32) (m_reason : Int32) (m_wide : Int32) (m_high : Int32) (g1 : Int32) (g2 : Int32) (o : (Int32 × nF × nF × nF × Int32)) (hm : mX8_wall F m_s m_begun m_past m_states g1 g2 = some o) : CT G yX8_wall wsX8_wall rmX8_wall [.ref (a_t 0), .int g1, .int g2] (wX8 G a_t m_s m_begun m_kept m_isKept m_past m_states m_text m_length m_far m_queue m_isOn m_steps m_wayCells m_turns m_visits m_wasSo m_bestAway m_bestMade m_bestFault m_isHere m_place m_reason m_wide m_high) (fun v w => v = some (.int o.1) ∧ w = wX8 G a_t o.2.1 o.2.2.1 m_kept m_isKept o.2.2.2.1 o.2.2.2.2 m_text m_length m_far m_queue m_isOn m_steps m_wayCells m_turns m_visits m_wasSo m_bestAway m_bestMade m_bestFault m_isHere m_place m_reason m_wide m_high) := by
  refine CT_of (cc := cX8_wall) (maxL := 3) (ret := (some .int)) 0 (by decide +kernel) rfl rfl (cat_ok rfl) (fun X hX hR hN => ?_)
  have hX : Ok G X cX8_wall RX8 wsX8_wall 3 rmX8_wall := hX
  have hX8 : ∀ w ∈ wsX80, w ∈ wsX8_wall := lX8_wall_X8
  unfold mX8_wall at hm
  refine w_aload_n (pc := 0) hX dX8_wall_0 rfl rfl ?_
  obtain ⟨r1, hr1, hm⟩ := bnd hm
  refine w_calldv (pc := 1) (ws' := wX8 G a_t m_s r1 m_kept m_isKept m_past m_states m_text m_length m_far m_queue m_isOn m_steps m_wayCells m_turns m_visits m_wasSo m_bestAway m_bestMade m_bestFault m_isHere m_place m_reason m_wide m_high) hX [0, 1, 2, 3, 4, 5, 6, 7, 8, 9, 10, 11, 12] (runV (rest := []) hX [0, 1, 2, 3, 4, 5, 6, 7, 8, 9, 10, 11, 12] (ctX8_begins G F a_t m_s m_begun m_kept m_isKept m_past m_states m_text m_length m_far m_queue m_isOn m_steps m_wayCells m_turns m_visits m_wasSo m_bestAway m_bestMade m_bestFault m_isHere m_place m_reason m_wide m_high r1 hr1) dX8_wall_1 0 gX8_wall_X8_begins rfl hyX8_begins ⟨Nat.le_of_ble_eq_true rfl, Nat.le_of_ble_eq_true rfl⟩ 0 rfl rfl rfl rfl (Nat.le_of_ble_eq_true rfl) ⟨Nat.le_of_ble_eq_true rfl, Nat.le_of_ble_eq_true rfl⟩ rfl rfl) rfl rfl rfl ⟨rfl, rfl⟩ ?_
  refine w_aload_n (pc := 4) hX dX8_wall_4 rfl rfl ?_
  refine w_iload_n (pc := 5) hX dX8_wall_5 rfl rfl ?_
  obtain ⟨r2, hr2, hm⟩ := bnd hm
  refine w_callpi (pc := 6) hX [0, 1, 2, 3, 4, 5, 6, 7, 8, 9, 10, 11, 12] (runV (rest := []) hX [0, 1, 2, 3, 4, 5, 6, 7, 8, 9, 10, 11, 12] (ctX8_isCell G a_t m_s r1 m_kept m_isKept m_past m_states m_text m_length m_far m_queue m_isOn m_steps m_wayCells m_turns m_visits m_wasSo m_bestAway m_bestMade m_bestFault m_isHere m_place m_reason m_wide m_high g1 r2 hr2) dX8_wall_6 1 gX8_wall_X8_isCell rfl hyX8_isCell ⟨Nat.le_of_ble_eq_true rfl, Nat.le_of_ble_eq_true rfl⟩ 0 rfl rfl rfl rfl (Nat.le_of_ble_eq_true rfl) ⟨Nat.le_of_ble_eq_true rfl, Nat.le_of_ble_eq_true rfl⟩ rfl rfl) rfl ⟨rfl, rfl⟩ ?_
  refine w_jn (T := fun x3 : Unit => WW G X 0 0 (wX8 G a_t m_s r1 m_kept m_isKept m_past m_states m_text m_length m_far m_queue m_isOn m_steps m_wayCells m_turns m_visits m_wasSo m_bestAway m_bestMade m_bestFault m_isHere m_place m_reason m_wide m_high) [none, none, none] 21 []) hm (fun x3 hm => ?_) (fun j4 hj4 hm => ?_)
  ·
    refine w_iconst (pc := 21) hX dX8_wall_21 ic_m1 ?_
    obtain rfl := som hm
    exact w_iret (pc := 22) hX hR dX8_wall_22 ⟨rfl, rfl⟩
  ·
    refine w_if_eq (pc := 9) (tgt := 21) hX dX8_wall_9 (by decide) hm (fun hm => ?_) (fun hm => ?_)
    ·
      exact w_lvs [false, false, false] (hj4 () hm)
    ·
      refine w_iload_n (pc := 12) hX dX8_wall_12 rfl rfl ?_
      refine w_iconst (pc := 13) hX dX8_wall_13 ic_0 ?_
      refine w_iconst (pc := 14) hX dX8_wall_14 ic_3 ?_
      obtain ⟨r5, hr5, hm⟩ := bnd hm
      refine w_callpi (pc := 15) hX [] (runS (rest := []) hX [] (ctX8_in G g2 (0 : Int32) (3 : Int32) r5 hr5) dX8_wall_15 3 gX8_wall_X8_in rfl hyX8_in.2 ⟨Nat.le_of_ble_eq_true rfl, Nat.le_of_ble_eq_true rfl⟩ rfl rfl (Nat.le_of_ble_eq_true rfl) ⟨Nat.le_of_ble_eq_true rfl, Nat.le_of_ble_eq_true rfl⟩ rfl rfl) rfl ⟨rfl, rfl⟩ ?_
      refine w_if_ne (pc := 18) (tgt := 23) hX dX8_wall_18 (by decide) hm (fun hm => ?_) (fun hm => ?_)
      ·
        refine w_aload_n (pc := 23) hX dX8_wall_23 rfl rfl ?_
        refine w_iload_n (pc := 24) hX dX8_wall_24 rfl rfl ?_
        refine w_iload_n (pc := 25) hX dX8_wall_25 rfl rfl ?_
        obtain ⟨r6, hr6, hm⟩ := bnd hm
        refine w_callpi (pc := 26) hX [0, 1, 2, 3, 4, 5, 6, 7, 8, 9, 10, 11, 12] (runV (rest := []) hX [0, 1, 2, 3, 4, 5, 6, 7, 8, 9, 10, 11, 12] (ctX8_isOpen G a_t m_s r1 m_kept m_isKept m_past m_states m_text m_length m_far m_queue m_isOn m_steps m_wayCells m_turns m_visits m_wasSo m_bestAway m_bestMade m_bestFault m_isHere m_place m_reason m_wide m_high g1 g2 r6 hr6) dX8_wall_26 2 gX8_wall_X8_isOpen rfl hyX8_isOpen ⟨Nat.le_of_ble_eq_true rfl, Nat.le_of_ble_eq_true rfl⟩ 0 rfl rfl rfl rfl (Nat.le_of_ble_eq_true rfl) ⟨Nat.le_of_ble_eq_true rfl, Nat.le_of_ble_eq_true rfl⟩ rfl rfl) rfl ⟨rfl, rfl⟩ ?_
        refine w_if_ne (pc := 29) (tgt := 35) hX dX8_wall_29 (by decide) hm (fun hm => ?_) (fun hm => ?_)
        ·
          refine w_aload_n (pc := 35) hX dX8_wall_35 rfl rfl ?_
          refine gf_X8_s (pc := 36) hX dX8_wall_36 hX8 (List.mem_of_getElem? (i := 1) rfl) 0 rfl rfl ?_
          refine w_bipush (pc := 39) hX dX8_wall_39 bp_42 ?_
          refine w_aload_n (pc := 41) hX dX8_wall_41 rfl rfl ?_
          refine w_iload_n (pc := 42) hX dX8_wall_42 rfl rfl ?_
          refine w_iload_n (pc := 43) hX dX8_wall_43 rfl rfl ?_
          obtain ⟨r7, hr7, hm⟩ := bnd hm
          refine w_callpi (pc := 44) hX [0, 1, 2, 3, 4, 5, 6, 7, 8, 9, 10, 11, 12] (runV (rest := [.int (42 : Int32), .ref (a_t 1)]) hX [0, 1, 2, 3, 4, 5, 6, 7, 8, 9, 10, 11, 12] (ctX8_numberOf G a_t m_s r1 m_kept m_isKept m_past m_states m_text m_length m_far m_queue m_isOn m_steps m_wayCells m_turns m_visits m_wasSo m_bestAway m_bestMade m_bestFault m_isHere m_place m_reason m_wide m_high g1 g2 r7 hr7) dX8_wall_44 2 gX8_wall_X8_numberOf rfl hyX8_numberOf ⟨Nat.le_of_ble_eq_true rfl, Nat.le_of_ble_eq_true rfl⟩ 0 rfl rfl rfl rfl (Nat.le_of_ble_eq_true rfl) ⟨Nat.le_of_ble_eq_true rfl, Nat.le_of_ble_eq_true rfl⟩ rfl rfl) rfl ⟨rfl, rfl⟩ ?_
          refine w_iadd (pc := 47) hX dX8_wall_47 ?_
          refine w_iconst (pc := 48) hX dX8_wall_48 ic_0 ?_
          refine w_iast (pc := 49) hX dX8_wall_49 1 rfl hm (fun hm => ?_)
          refine w_aload_n (pc := 50) hX dX8_wall_50 rfl rfl ?_
          refine w_aload_n (pc := 51) hX dX8_wall_51 rfl rfl ?_
          obtain ⟨r8, hr8, hm⟩ := bnd hm
          refine w_callpi (pc := 52) hX [0, 1, 2, 3, 4, 5, 6, 7, 8, 9, 10, 11, 12] (runV (rest := [.ref (a_t 0)]) hX [0, 1, 2, 3, 4, 5, 6, 7, 8, 9, 10, 11, 12] (ctX8_parts G F a_t (upd m_s ((42 : Int32) + r7).toNatClampNeg (0 : Int32)) r1 m_kept m_isKept m_past m_states m_text m_length m_far m_queue m_isOn m_steps m_wayCells m_turns m_visits m_wasSo m_bestAway m_bestMade m_bestFault m_isHere m_place m_reason m_wide m_high r8 hr8) dX8_wall_52 0 gX8_wall_X8_parts rfl hyX8_parts ⟨Nat.le_of_ble_eq_true rfl, Nat.le_of_ble_eq_true rfl⟩ 0 rfl rfl rfl rfl (Nat.le_of_ble_eq_true rfl) ⟨Nat.le_of_ble_eq_true rfl, Nat.le_of_ble_eq_true rfl⟩ rfl rfl) rfl ⟨rfl, rfl⟩ ?_
          obtain ⟨r9, hr9, hm⟩ := bnd hm
          refine w_calldi (pc := 55) (ws' := wX8 G a_t r9.2.1 r1 m_kept m_isKept r9.2.2.1 r9.2.2.2 m_text m_length m_far m_queue m_isOn m_steps m_wayCells m_turns m_visits m_wasSo m_bestAway m_bestMade m_bestFault m_isHere m_place m_reason m_wide m_high) hX [0, 1, 2, 3, 4, 5, 6, 7, 8, 9, 10, 11, 12] (runV (rest := []) hX [0, 1, 2, 3, 4, 5, 6, 7, 8, 9, 10, 11, 12] (ctX8_acted G F a_t (upd m_s ((42 : Int32) + r7).toNatClampNeg (0 : Int32)) r1 m_kept m_isKept m_past m_states m_text m_length m_far m_queue m_isOn m_steps m_wayCells m_turns m_visits m_wasSo m_bestAway m_bestMade m_bestFault m_isHere m_place m_reason m_wide m_high r8 r9 hr9) dX8_wall_55 1 gX8_wall_X8_acted rfl hyX8_acted ⟨Nat.le_of_ble_eq_true rfl, Nat.le_of_ble_eq_true rfl⟩ 0 rfl rfl rfl rfl (Nat.le_of_ble_eq_true rfl) ⟨Nat.le_of_ble_eq_true rfl, Nat.le_of_ble_eq_true rfl⟩ rfl rfl) rfl rfl rfl ⟨rfl, rfl⟩ ?_
          obtain rfl := som hm
          exact w_iret (pc := 58) hX hR dX8_wall_58 ⟨rfl, rfl⟩
        ·
          refine w_bipush (pc := 32) hX dX8_wall_32 bp_m2 ?_
          obtain rfl := som hm
          exact w_iret (pc := 34) hX hR dX8_wall_34 ⟨rfl, rfl⟩
      ·
        exact w_lvs [false, false, false] (hj4 () hm)

theorem lX8_door_X8 : ∀ w ∈ wsX80, w ∈ wsX8_door := in_at [29, 30, 31, 32, 33, 34, 35, 36, 37, 38, 39, 40, 41, 42, 43, 44, 45, 46, 47, 48, 49, 50, 51, 52] (by decide +kernel)
set_option maxHeartbeats 4000000 in
set_option maxRecDepth 100000 in
theorem ctX8_door (G : gT) (F : Nat) (a_t : Nat → Nat) (m_s : nF) (m_begun : nF) (m_kept : nF) (m_isKept : Int32) (m_past : nF) (m_states : Int32) (m_text : nF) (m_length : Int32) (m_far : nF) (m_queue : nF) (m_isOn : nF) (m_steps : nF) (m_wayCells : Int32) (m_turns : Int32) (m_visits : nF) (m_wasSo : nF) (m_bestAway : Int32) (m_bestMade : Int32) (m_bestFault : Int32) (m_isHere : nF) (m_place : Int32) (m_reason : Int32) (m_wide : Int32) (m_high : Int32) (g1 : Int32) (g2 : Int32) (g3 : Int32) (o : (Int32 × nF × nF × nF × Int32)) (hm : mX8_door F m_s m_begun m_past m_states g1 g2 g3 = some o) : CT G yX8_door wsX8_door rmX8_door [.ref (a_t 0), .int g1, .int g2, .int g3] (wX8 G a_t m_s m_begun m_kept m_isKept m_past m_states m_text m_length m_far m_queue m_isOn m_steps m_wayCells m_turns m_visits m_wasSo m_bestAway m_bestMade m_bestFault m_isHere m_place m_reason m_wide m_high) (fun v w => v = some (.int o.1) ∧ w = wX8 G a_t o.2.1 o.2.2.1 m_kept m_isKept o.2.2.2.1 o.2.2.2.2 m_text m_length m_far m_queue m_isOn m_steps m_wayCells m_turns m_visits m_wasSo m_bestAway m_bestMade m_bestFault m_isHere m_place m_reason m_wide m_high) := by
  refine CT_of (cc := cX8_door) (maxL := 6) (ret := (some .int)) 2 (by decide +kernel) rfl rfl (cat_ok rfl) (fun X hX hR hN => ?_)
  have hX : Ok G X cX8_door RX8 wsX8_door 6 rmX8_door := hX
  have hX8 : ∀ w ∈ wsX80, w ∈ wsX8_door := lX8_door_X8
  unfold mX8_door at hm
  refine w_aload_n (pc := 0) hX dX8_door_0 rfl rfl ?_
  obtain ⟨r1, hr1, hm⟩ := bnd hm
  refine w_calldv (pc := 1) (ws' := wX8 G a_t m_s r1 m_kept m_isKept m_past m_states m_text m_length m_far m_queue m_isOn m_steps m_wayCells m_turns m_visits m_wasSo m_bestAway m_bestMade m_bestFault m_isHere m_place m_reason m_wide m_high) hX [0, 1, 2, 3, 4, 5, 6, 7, 8, 9, 10, 11, 12] (runV (rest := []) hX [0, 1, 2, 3, 4, 5, 6, 7, 8, 9, 10, 11, 12] (ctX8_begins G F a_t m_s m_begun m_kept m_isKept m_past m_states m_text m_length m_far m_queue m_isOn m_steps m_wayCells m_turns m_visits m_wasSo m_bestAway m_bestMade m_bestFault m_isHere m_place m_reason m_wide m_high r1 hr1) dX8_door_1 0 gX8_door_X8_begins rfl hyX8_begins ⟨Nat.le_of_ble_eq_true rfl, Nat.le_of_ble_eq_true rfl⟩ 0 rfl rfl rfl rfl (Nat.le_of_ble_eq_true rfl) ⟨Nat.le_of_ble_eq_true rfl, Nat.le_of_ble_eq_true rfl⟩ rfl rfl) rfl rfl rfl ⟨rfl, rfl⟩ ?_
  refine w_iload_n (pc := 4) hX dX8_door_4 rfl rfl ?_
  refine w_iconst (pc := 5) hX dX8_door_5 ic_0 ?_
  refine w_iconst (pc := 6) hX dX8_door_6 ic_1 ?_
  obtain ⟨r2, hr2, hm⟩ := bnd hm
  refine w_callpi (pc := 7) hX [] (runS (rest := []) hX [] (ctX8_in G g1 (0 : Int32) (1 : Int32) r2 hr2) dX8_door_7 3 gX8_door_X8_in rfl hyX8_in.2 ⟨Nat.le_of_ble_eq_true rfl, Nat.le_of_ble_eq_true rfl⟩ rfl rfl (Nat.le_of_ble_eq_true rfl) ⟨Nat.le_of_ble_eq_true rfl, Nat.le_of_ble_eq_true rfl⟩ rfl rfl) rfl ⟨rfl, rfl⟩ ?_
  refine w_jn (T := fun x3 : Unit => WW G X 0 0 (wX8 G a_t m_s r1 m_kept m_isKept m_past m_states m_text m_length m_far m_queue m_isOn m_steps m_wayCells m_turns m_visits m_wasSo m_bestAway m_bestMade m_bestFault m_isHere m_place m_reason m_wide m_high) [none, none, none, none, none, none] 30 []) hm (fun x3 hm => ?_) (fun j4 hj4 hm => ?_)
  ·
    refine w_iconst (pc := 30) hX dX8_door_30 ic_m1 ?_
    obtain rfl := som hm
    exact w_iret (pc := 31) hX hR dX8_door_31 ⟨rfl, rfl⟩
  ·
    refine w_if_eq (pc := 10) (tgt := 30) hX dX8_door_10 (by decide) hm (fun hm => ?_) (fun hm => ?_)
    ·
      exact w_lvs [false, false, false, false, false, false] (hj4 () hm)
    ·
      refine w_aload_n (pc := 13) hX dX8_door_13 rfl rfl ?_
      refine w_iload_n (pc := 14) hX dX8_door_14 rfl rfl ?_
      obtain ⟨r5, hr5, hm⟩ := bnd hm
      refine w_callpi (pc := 15) hX [0, 1, 2, 3, 4, 5, 6, 7, 8, 9, 10, 11, 12] (runV (rest := []) hX [0, 1, 2, 3, 4, 5, 6, 7, 8, 9, 10, 11, 12] (ctX8_isCell G a_t m_s r1 m_kept m_isKept m_past m_states m_text m_length m_far m_queue m_isOn m_steps m_wayCells m_turns m_visits m_wasSo m_bestAway m_bestMade m_bestFault m_isHere m_place m_reason m_wide m_high g2 r5 hr5) dX8_door_15 1 gX8_door_X8_isCell rfl hyX8_isCell ⟨Nat.le_of_ble_eq_true rfl, Nat.le_of_ble_eq_true rfl⟩ 0 rfl rfl rfl rfl (Nat.le_of_ble_eq_true rfl) ⟨Nat.le_of_ble_eq_true rfl, Nat.le_of_ble_eq_true rfl⟩ rfl rfl) rfl ⟨rfl, rfl⟩ ?_
      refine w_if_eq (pc := 18) (tgt := 30) hX dX8_door_18 (by decide) hm (fun hm => ?_) (fun hm => ?_)
      ·
        exact w_lvs [false, false, false, false, false, false] (hj4 () hm)
      ·
        refine w_iload_n (pc := 21) hX dX8_door_21 rfl rfl ?_
        refine w_iconst (pc := 22) hX dX8_door_22 ic_0 ?_
        refine w_iconst (pc := 23) hX dX8_door_23 ic_3 ?_
        obtain ⟨r6, hr6, hm⟩ := bnd hm
        refine w_callpi (pc := 24) hX [] (runS (rest := []) hX [] (ctX8_in G g3 (0 : Int32) (3 : Int32) r6 hr6) dX8_door_24 3 gX8_door_X8_in rfl hyX8_in.2 ⟨Nat.le_of_ble_eq_true rfl, Nat.le_of_ble_eq_true rfl⟩ rfl rfl (Nat.le_of_ble_eq_true rfl) ⟨Nat.le_of_ble_eq_true rfl, Nat.le_of_ble_eq_true rfl⟩ rfl rfl) rfl ⟨rfl, rfl⟩ ?_
        refine w_if_ne (pc := 27) (tgt := 32) hX dX8_door_27 (by decide) hm (fun hm => ?_) (fun hm => ?_)
        ·
          refine w_iconst (pc := 32) hX dX8_door_32 ic_4 ?_
          refine w_iconst (pc := 33) hX dX8_door_33 ic_2 ?_
          refine w_iload_n (pc := 34) hX dX8_door_34 rfl rfl ?_
          refine w_imul (pc := 35) hX dX8_door_35 ?_
          refine w_isub (pc := 36) hX dX8_door_36 ?_
          refine w_istore (pc := 37) hX dX8_door_37 (Nat.le_of_ble_eq_true rfl) ?_
          refine w_aload_n (pc := 39) hX dX8_door_39 rfl rfl ?_
          refine w_iload_n (pc := 40) hX dX8_door_40 rfl rfl ?_
          refine w_iload_n (pc := 41) hX dX8_door_41 rfl rfl ?_
          obtain ⟨r7, hr7, hm⟩ := bnd hm
          refine w_callpi (pc := 42) hX [0, 1, 2, 3, 4, 5, 6, 7, 8, 9, 10, 11, 12] (runV (rest := []) hX [0, 1, 2, 3, 4, 5, 6, 7, 8, 9, 10, 11, 12] (ctX8_besides G a_t m_s r1 m_kept m_isKept m_past m_states m_text m_length m_far m_queue m_isOn m_steps m_wayCells m_turns m_visits m_wasSo m_bestAway m_bestMade m_bestFault m_isHere m_place m_reason m_wide m_high g2 g3 r7 hr7) dX8_door_42 2 gX8_door_X8_besides rfl hyX8_besides ⟨Nat.le_of_ble_eq_true rfl, Nat.le_of_ble_eq_true rfl⟩ 0 rfl rfl rfl rfl (Nat.le_of_ble_eq_true rfl) ⟨Nat.le_of_ble_eq_true rfl, Nat.le_of_ble_eq_true rfl⟩ rfl rfl) rfl ⟨rfl, rfl⟩ ?_
          refine w_jn (T := fun x8 : Unit => WW G X 0 0 (wX8 G a_t m_s r1 m_kept m_isKept m_past m_states m_text m_length m_far m_queue m_isOn m_steps m_wayCells m_turns m_visits m_wasSo m_bestAway m_bestMade m_bestFault m_isHere m_place m_reason m_wide m_high) [none, none, none, none, none, none] 72 []) hm (fun x8 hm => ?_) (fun j9 hj9 hm => ?_)
          ·
            refine w_bipush (pc := 72) hX dX8_door_72 bp_m2 ?_
            obtain rfl := som hm
            exact w_iret (pc := 74) hX hR dX8_door_74 ⟨rfl, rfl⟩
          ·
            refine w_if_ge (pc := 45) (tgt := 72) hX dX8_door_45 (by decide) hm (fun hm => ?_) (fun hm => ?_)
            ·
              exact w_lvs [false, false, false, false, false, false] (hj9 () hm)
            ·
              refine w_aload_n (pc := 48) hX dX8_door_48 rfl rfl ?_
              refine gf_X8_s (pc := 49) hX dX8_door_49 hX8 (List.mem_of_getElem? (i := 1) rfl) 0 rfl rfl ?_
              refine w_iload (pc := 52) hX dX8_door_52 rfl ?_
              refine w_iald (pc := 54) hX dX8_door_54 1 rfl hm (fun hm => ?_)
              refine w_iload_n (pc := 55) hX dX8_door_55 rfl rfl ?_
              refine w_jn (T := fun x10 : Unit => WW G X 0 0 (wX8 G a_t m_s r1 m_kept m_isKept m_past m_states m_text m_length m_far m_queue m_isOn m_steps m_wayCells m_turns m_visits m_wasSo m_bestAway m_bestMade m_bestFault m_isHere m_place m_reason m_wide m_high) [some (.ref (a_t 0)), some (.int g1), some (.int g2), some (.int g3), none, none] 75 []) hm (fun x10 hm => ?_) (fun j11 hj11 hm => ?_)
              ·
                refine w_aload_n (pc := 75) hX dX8_door_75 rfl rfl ?_
                refine gf_X8_s (pc := 76) hX dX8_door_76 hX8 (List.mem_of_getElem? (i := 1) rfl) 0 rfl rfl ?_
                refine w_iconst (pc := 79) hX dX8_door_79 ic_2 ?_
                refine w_iconst (pc := 80) hX dX8_door_80 ic_2 ?_
                refine w_iload_n (pc := 81) hX dX8_door_81 rfl rfl ?_
                refine w_imul (pc := 82) hX dX8_door_82 ?_
                refine w_iadd (pc := 83) hX dX8_door_83 ?_
                refine w_iald (pc := 84) hX dX8_door_84 1 rfl hm (fun hm => ?_)
                refine w_istore (pc := 85) hX dX8_door_85 (Nat.le_of_ble_eq_true rfl) ?_
                refine w_aload_n (pc := 87) hX dX8_door_87 rfl rfl ?_
                refine gf_X8_s (pc := 88) hX dX8_door_88 hX8 (List.mem_of_getElem? (i := 1) rfl) 0 rfl rfl ?_
                refine w_iconst (pc := 91) hX dX8_door_91 ic_2 ?_
                refine w_iconst (pc := 92) hX dX8_door_92 ic_2 ?_
                refine w_iload_n (pc := 93) hX dX8_door_93 rfl rfl ?_
                refine w_imul (pc := 94) hX dX8_door_94 ?_
                refine w_iadd (pc := 95) hX dX8_door_95 ?_
                refine w_iload_n (pc := 96) hX dX8_door_96 rfl rfl ?_
                refine w_iast (pc := 97) hX dX8_door_97 1 rfl hm (fun hm => ?_)
                refine w_aload_n (pc := 98) hX dX8_door_98 rfl rfl ?_
                refine gf_X8_s (pc := 99) hX dX8_door_99 hX8 (List.mem_of_getElem? (i := 1) rfl) 0 rfl rfl ?_
                refine w_iconst (pc := 102) hX dX8_door_102 ic_2 ?_
                refine w_iconst (pc := 103) hX dX8_door_103 ic_2 ?_
                refine w_iload_n (pc := 104) hX dX8_door_104 rfl rfl ?_
                refine w_imul (pc := 105) hX dX8_door_105 ?_
                refine w_iadd (pc := 106) hX dX8_door_106 ?_
                refine w_iconst (pc := 107) hX dX8_door_107 ic_1 ?_
                refine w_iadd (pc := 108) hX dX8_door_108 ?_
                refine w_iload_n (pc := 109) hX dX8_door_109 rfl rfl ?_
                refine w_iast (pc := 110) hX dX8_door_110 1 rfl hm (fun hm => ?_)
                refine w_aload_n (pc := 111) hX dX8_door_111 rfl rfl ?_
                refine w_iload (pc := 112) hX dX8_door_112 rfl ?_
                obtain ⟨r12, hr12, hm⟩ := bnd hm
                refine w_calldi (pc := 114) (ws' := wX8 G a_t r12.2.1 r1 m_kept m_isKept r12.2.2.1 r12.2.2.2 m_text m_length m_far m_queue m_isOn m_steps m_wayCells m_turns m_visits m_wasSo m_bestAway m_bestMade m_bestFault m_isHere m_place m_reason m_wide m_high) hX [0, 1, 2, 3, 4, 5, 6, 7, 8, 9, 10, 11, 12] (runV (rest := []) hX [0, 1, 2, 3, 4, 5, 6, 7, 8, 9, 10, 11, 12] (ctX8_acted G F a_t (upd (upd m_s ((2 : Int32) + ((2 : Int32) * g1)).toNatClampNeg g2) (((2 : Int32) + ((2 : Int32) * g1)) + (1 : Int32)).toNatClampNeg g3) r1 m_kept m_isKept m_past m_states m_text m_length m_far m_queue m_isOn m_steps m_wayCells m_turns m_visits m_wasSo m_bestAway m_bestMade m_bestFault m_isHere m_place m_reason m_wide m_high (m_s ((2 : Int32) + ((2 : Int32) * g1)).toNatClampNeg) r12 hr12) dX8_door_114 1 gX8_door_X8_acted rfl hyX8_acted ⟨Nat.le_of_ble_eq_true rfl, Nat.le_of_ble_eq_true rfl⟩ 0 rfl rfl rfl rfl (Nat.le_of_ble_eq_true rfl) ⟨Nat.le_of_ble_eq_true rfl, Nat.le_of_ble_eq_true rfl⟩ rfl rfl) rfl rfl rfl ⟨rfl, rfl⟩ ?_
                obtain rfl := som hm
                exact w_iret (pc := 117) hX hR dX8_door_117 ⟨rfl, rfl⟩
              ·
                refine w_icmp_ne (pc := 56) (tgt := 75) hX dX8_door_56 (by decide) hm (fun hm => ?_) (fun hm => ?_)
                ·
                  exact w_lvs [true, true, true, true, false, false] (hj11 () hm)
                ·
                  refine w_aload_n (pc := 59) hX dX8_door_59 rfl rfl ?_
                  refine gf_X8_s (pc := 60) hX dX8_door_60 hX8 (List.mem_of_getElem? (i := 1) rfl) 0 rfl rfl ?_
                  refine w_iload (pc := 63) hX dX8_door_63 rfl ?_
                  refine w_iconst (pc := 65) hX dX8_door_65 ic_1 ?_
                  refine w_iadd (pc := 66) hX dX8_door_66 ?_
                  refine w_iald (pc := 67) hX dX8_door_67 1 rfl hm (fun hm => ?_)
                  refine w_iload_n (pc := 68) hX dX8_door_68 rfl rfl ?_
                  refine w_icmp_ne (pc := 69) (tgt := 75) hX dX8_door_69 (by decide) hm (fun hm => ?_) (fun hm => ?_)
                  ·
                    exact w_lvs [true, true, true, true, false, false] (hj11 () hm)
                  ·
                    exact w_lvs [false, false, false, false, false, false] (hj9 () hm)
        ·
          exact w_lvs [false, false, false, false, false, false] (hj4 () hm)

set_option maxHeartbeats 4000000 in
set_option maxRecDepth 100000 in
theorem ctX8_directions (G : gT) (F : Nat) (a_t : Nat → Nat) (m_s : nF) (m_begun : nF) (m_kept : nF) (m_isKept : Int32) (m_past : nF) (m_states : Int32) (m_text : nF) (m_length : Int32) (m_far : nF) (m_queue : nF) (m_isOn : nF) (m_steps : nF) (m_wayCells : Int32) (m_turns : Int32) (m_visits : nF) (m_wasSo : nF) (m_bestAway : Int32) (m_bestMade : Int32) (m_bestFault : Int32) (m_isHere : nF) (m_place : Int32) (m_reason : Int32) (m_wide : Int32) (m_high : Int32) (g1 : Int32) (o : Int32) (hm : mX8_directions F m_s g1 = some o) : CT G yX8_directions wsX8_directions rmX8_directions [.ref (a_t 0), .int g1] (wX8 G a_t m_s m_begun m_kept m_isKept m_past m_states m_text m_length m_far m_queue m_isOn m_steps m_wayCells m_turns m_visits m_wasSo m_bestAway m_bestMade m_bestFault m_isHere m_place m_reason m_wide m_high) (fun v w => v = some (.int o) ∧ w = wX8 G a_t m_s m_begun m_kept m_isKept m_past m_states m_text m_length m_far m_queue m_isOn m_steps m_wayCells m_turns m_visits m_wasSo m_bestAway m_bestMade m_bestFault m_isHere m_place m_reason m_wide m_high) := by
  refine CT_of (cc := cX8_directions) (maxL := 4) (ret := (some .int)) 2 (by decide +kernel) rfl rfl (cat_ok rfl) (fun X hX hR hN => ?_)
  have hX : Ok G X cX8_directions RX8 wsX8_directions 4 rmX8_directions := hX
  unfold mX8_directions at hm
  refine w_iconst (pc := 0) hX dX8_directions_0 ic_0 ?_
  refine w_istore_n (pc := 1) hX dX8_directions_1 rfl (Nat.le_of_ble_eq_true rfl) ?_
  refine w_iconst (pc := 2) hX dX8_directions_2 ic_0 ?_
  refine w_istore_n (pc := 3) hX dX8_directions_3 rfl (Nat.le_of_ble_eq_true rfl) ?_
  refine w_lvs [true, true, true, true] ?_
  refine lpr_ind (T := fun x1 : (Int32 × Int32) => WW G X 0 0 (wX8 G a_t m_s m_begun m_kept m_isKept m_past m_states m_text m_length m_far m_queue m_isOn m_steps m_wayCells m_turns m_visits m_wasSo m_bestAway m_bestMade m_bestFault m_isHere m_place m_reason m_wide m_high) [some (.ref (a_t 0)), some (.int g1), some (.int x1.1), some (.int x1.2)] 4 []) (fun self2 hself2 x1 hm => ?_) F ((0 : Int32), (0 : Int32)) hm
  unfold mX8_directions_L4 at hm
  refine w_iload_n (pc := 4) hX dX8_directions_4 rfl rfl ?_
  refine w_iconst (pc := 5) hX dX8_directions_5 ic_4 ?_
  refine w_icmp_ge (pc := 6) (tgt := 34) hX dX8_directions_6 (by decide) hm (fun hm => ?_) (fun hm => ?_)
  ·
    refine w_iload_n (pc := 34) hX dX8_directions_34 rfl rfl ?_
    obtain rfl := som hm
    exact w_iret (pc := 35) hX hR dX8_directions_35 ⟨rfl, rfl⟩
  ·
    refine w_iload_n (pc := 9) hX dX8_directions_9 rfl rfl ?_
    refine w_aload_n (pc := 10) hX dX8_directions_10 rfl rfl ?_
    refine w_iload_n (pc := 11) hX dX8_directions_11 rfl rfl ?_
    refine w_iload_n (pc := 12) hX dX8_directions_12 rfl rfl ?_
    obtain ⟨r3, hr3, hm⟩ := bnd hm
    refine w_callpi (pc := 13) hX [0, 1, 2, 3, 4, 5, 6, 7, 8, 9, 10, 11, 12] (runV (rest := [.int x1.1]) hX [0, 1, 2, 3, 4, 5, 6, 7, 8, 9, 10, 11, 12] (ctX8_isOpen G a_t m_s m_begun m_kept m_isKept m_past m_states m_text m_length m_far m_queue m_isOn m_steps m_wayCells m_turns m_visits m_wasSo m_bestAway m_bestMade m_bestFault m_isHere m_place m_reason m_wide m_high g1 x1.2 r3 hr3) dX8_directions_13 2 gX8_directions_X8_isOpen rfl hyX8_isOpen ⟨Nat.le_of_ble_eq_true rfl, Nat.le_of_ble_eq_true rfl⟩ 0 rfl rfl rfl rfl (Nat.le_of_ble_eq_true rfl) ⟨Nat.le_of_ble_eq_true rfl, Nat.le_of_ble_eq_true rfl⟩ rfl rfl) rfl ⟨rfl, rfl⟩ ?_
    refine w_jn (T := fun x4 : Int32 => WW G X 0 0 (wX8 G a_t m_s m_begun m_kept m_isKept m_past m_states m_text m_length m_far m_queue m_isOn m_steps m_wayCells m_turns m_visits m_wasSo m_bestAway m_bestMade m_bestFault m_isHere m_place m_reason m_wide m_high) [some (.ref (a_t 0)), some (.int g1), none, some (.int x1.2)] 26 [.int x4, .int x1.1]) hm (fun x4 hm => ?_) (fun j5 hj5 hm => ?_)
    ·
      refine w_ior (pc := 26) hX dX8_directions_26 ?_
      refine w_istore_n (pc := 27) hX dX8_directions_27 rfl (Nat.le_of_ble_eq_true rfl) ?_
      refine w_iinc (pc := 28) hX dX8_directions_28 rfl (Nat.le_of_ble_eq_true rfl) ic_1 ?_
      refine w_goto (pc := 31) (tgt := 4) hX dX8_directions_31 (by decide) ?_
      exact w_lvs [true, true, true, true] (hself2 (x1.1 ||| x4, x1.2 + (1 : Int32)) hm)
    ·
      refine w_if_eq (pc := 16) (tgt := 25) hX dX8_directions_16 (by decide) hm (fun hm => ?_) (fun hm => ?_)
      ·
        refine w_iconst (pc := 25) hX dX8_directions_25 ic_0 ?_
        exact w_lvs [true, true, false, true] (hj5 (0 : Int32) hm)
      ·
        refine w_iconst (pc := 19) hX dX8_directions_19 ic_1 ?_
        refine w_iload_n (pc := 20) hX dX8_directions_20 rfl rfl ?_
        refine w_ishl (pc := 21) hX dX8_directions_21 ?_
        refine w_goto (pc := 22) (tgt := 26) hX dX8_directions_22 (by decide) ?_
        exact w_lvs [true, true, false, true] (hj5 ((1 : Int32) <<< (x1.2 &&& 31)) hm)

theorem lX8_partOf_X8 : ∀ w ∈ wsX80, w ∈ wsX8_partOf := in_at [25, 26, 27, 28, 29, 30, 31, 32, 33, 34, 35, 36, 37, 38, 39, 40, 41, 42, 43, 44, 45, 46, 47, 48] (by decide +kernel)
set_option maxHeartbeats 4000000 in
set_option maxRecDepth 100000 in
theorem ctX8_partOf (G : gT) (F : Nat) (a_t : Nat → Nat) (m_s : nF) (m_begun : nF) (m_kept : nF) (m_isKept : Int32) (m_past : nF) (m_states : Int32) (m_text : nF) (m_length : Int32) (m_far : nF) (m_queue : nF) (m_isOn : nF) (m_steps : nF) (m_wayCells : Int32) (m_turns : Int32) (m_visits : nF) (m_wasSo : nF) (m_bestAway : Int32) (m_bestMade : Int32) (m_bestFault : Int32) (m_isHere : nF) (m_place : Int32) (m_reason : Int32) (m_wide : Int32) (m_high : Int32) (g1 : Int32) (g2 : Int32) (o : (Int32 × nF × nF)) (hm : mX8_partOf F m_s m_far m_queue g1 g2 = some o) : CT G yX8_partOf wsX8_partOf rmX8_partOf [.ref (a_t 0), .int g1, .int g2] (wX8 G a_t m_s m_begun m_kept m_isKept m_past m_states m_text m_length m_far m_queue m_isOn m_steps m_wayCells m_turns m_visits m_wasSo m_bestAway m_bestMade m_bestFault m_isHere m_place m_reason m_wide m_high) (fun v w => v = some (.int o.1) ∧ w = wX8 G a_t m_s m_begun m_kept m_isKept m_past m_states m_text m_length o.2.1 o.2.2 m_isOn m_steps m_wayCells m_turns m_visits m_wasSo m_bestAway m_bestMade m_bestFault m_isHere m_place m_reason m_wide m_high) := by
  refine CT_of (cc := cX8_partOf) (maxL := 6) (ret := (some .int)) 3 (by decide +kernel) rfl rfl (cat_ok rfl) (fun X hX hR hN => ?_)
  have hX : Ok G X cX8_partOf RX8 wsX8_partOf 6 rmX8_partOf := hX
  have hX8 : ∀ w ∈ wsX80, w ∈ wsX8_partOf := lX8_partOf_X8
  unfold mX8_partOf at hm
  refine w_aload_n (pc := 0) hX dX8_partOf_0 rfl rfl ?_
  refine w_iload_n (pc := 1) hX dX8_partOf_1 rfl rfl ?_
  obtain ⟨r1, hr1, hm⟩ := bnd hm
  refine w_calldv (pc := 2) (ws' := wX8 G a_t m_s m_begun m_kept m_isKept m_past m_states m_text m_length r1.1 r1.2 m_isOn m_steps m_wayCells m_turns m_visits m_wasSo m_bestAway m_bestMade m_bestFault m_isHere m_place m_reason m_wide m_high) hX [0, 1, 2, 3, 4, 5, 6, 7, 8, 9, 10, 11, 12] (runV (rest := []) hX [0, 1, 2, 3, 4, 5, 6, 7, 8, 9, 10, 11, 12] (ctX8_measures G F a_t m_s m_begun m_kept m_isKept m_past m_states m_text m_length m_far m_queue m_isOn m_steps m_wayCells m_turns m_visits m_wasSo m_bestAway m_bestMade m_bestFault m_isHere m_place m_reason m_wide m_high g1 r1 hr1) dX8_partOf_2 1 gX8_partOf_X8_measures rfl hyX8_measures ⟨Nat.le_of_ble_eq_true rfl, Nat.le_of_ble_eq_true rfl⟩ 0 rfl rfl rfl rfl (Nat.le_of_ble_eq_true rfl) ⟨Nat.le_of_ble_eq_true rfl, Nat.le_of_ble_eq_true rfl⟩ rfl rfl) rfl rfl rfl ⟨rfl, rfl⟩ ?_
  refine w_iconst (pc := 5) hX dX8_partOf_5 ic_m1 ?_
  refine w_istore_n (pc := 6) hX dX8_partOf_6 rfl (Nat.le_of_ble_eq_true rfl) ?_
  refine w_iconst (pc := 7) hX dX8_partOf_7 ic_0 ?_
  refine w_istore (pc := 8) hX dX8_partOf_8 (Nat.le_of_ble_eq_true rfl) ?_
  refine w_iconst (pc := 10) hX dX8_partOf_10 ic_0 ?_
  refine w_istore (pc := 11) hX dX8_partOf_11 (Nat.le_of_ble_eq_true rfl) ?_
  refine w_jn (T := fun x2 : (Int32 × Int32) => WW G X 0 0 (wX8 G a_t m_s m_begun m_kept m_isKept m_past m_states m_text m_length r1.1 r1.2 m_isOn m_steps m_wayCells m_turns m_visits m_wasSo m_bestAway m_bestMade m_bestFault m_isHere m_place m_reason m_wide m_high) [none, none, some (.int g2), some (.int x2.1), some (.int x2.2), none] 69 []) hm (fun x2 hm => ?_) (fun j3 hj3 hm => ?_)
  ·
    unfold mX8_partOf_K69 at hm
    refine w_iload_n (pc := 69) hX dX8_partOf_69 rfl rfl ?_
    refine w_jn (T := fun x4 : Int32 => WW G X 0 0 (wX8 G a_t m_s m_begun m_kept m_isKept m_past m_states m_text m_length r1.1 r1.2 m_isOn m_steps m_wayCells m_turns m_visits m_wasSo m_bestAway m_bestMade m_bestFault m_isHere m_place m_reason m_wide m_high) [none, none, none, none, none, none] 79 [.int x4]) hm (fun x4 hm => ?_) (fun j5 hj5 hm => ?_)
    ·
      obtain rfl := som hm
      exact w_iret (pc := 79) hX hR dX8_partOf_79 ⟨rfl, rfl⟩
    ·
      refine w_if_eq (pc := 70) (tgt := 77) hX dX8_partOf_70 (by decide) hm (fun hm => ?_) (fun hm => ?_)
      ·
        refine w_iload (pc := 77) hX dX8_partOf_77 rfl ?_
        exact w_lvs [false, false, false, false, false, false] (hj5 x2.2 hm)
      ·
        refine w_iload_n (pc := 73) hX dX8_partOf_73 rfl rfl ?_
        refine w_goto (pc := 74) (tgt := 79) hX dX8_partOf_74 (by decide) ?_
        exact w_lvs [false, false, false, false, false, false] (hj5 x2.1 hm)
  ·
    refine w_lvs [true, false, true, true, true, true] ?_
    refine lpr_ind (T := fun x6 : (Int32 × Int32 × Int32) => WW G X 0 0 (wX8 G a_t m_s m_begun m_kept m_isKept m_past m_states m_text m_length r1.1 r1.2 m_isOn m_steps m_wayCells m_turns m_visits m_wasSo m_bestAway m_bestMade m_bestFault m_isHere m_place m_reason m_wide m_high) [some (.ref (a_t 0)), none, some (.int g2), some (.int x6.1), some (.int x6.2.1), some (.int x6.2.2)] 13 []) (fun self7 hself7 x6 hm => ?_) F ((-1 : Int32), (0 : Int32), (0 : Int32)) hm
    unfold mX8_partOf_L13 at hm
    refine w_iload (pc := 13) hX dX8_partOf_13 rfl ?_
    refine w_aload_n (pc := 15) hX dX8_partOf_15 rfl rfl ?_
    obtain ⟨r8, hr8, hm⟩ := bnd hm
    refine w_callpi (pc := 16) hX [0, 1, 2, 3, 4, 5, 6, 7, 8, 9, 10, 11, 12] (runV (rest := [.int x6.2.2]) hX [0, 1, 2, 3, 4, 5, 6, 7, 8, 9, 10, 11, 12] (ctX8_cells G a_t m_s m_begun m_kept m_isKept m_past m_states m_text m_length r1.1 r1.2 m_isOn m_steps m_wayCells m_turns m_visits m_wasSo m_bestAway m_bestMade m_bestFault m_isHere m_place m_reason m_wide m_high r8 hr8) dX8_partOf_16 0 gX8_partOf_X8_cells rfl hyX8_cells ⟨Nat.le_of_ble_eq_true rfl, Nat.le_of_ble_eq_true rfl⟩ 0 rfl rfl rfl rfl (Nat.le_of_ble_eq_true rfl) ⟨Nat.le_of_ble_eq_true rfl, Nat.le_of_ble_eq_true rfl⟩ rfl rfl) rfl ⟨rfl, rfl⟩ ?_
    refine w_icmp_ge (pc := 19) (tgt := 69) hX dX8_partOf_19 (by decide) hm (fun hm => ?_) (fun hm => ?_)
    ·
      exact w_lvs [false, false, true, true, true, false] (hj3 (x6.1, x6.2.1) hm)
    ·
      refine w_iload_n (pc := 22) hX dX8_partOf_22 rfl rfl ?_
      refine w_jn (T := fun x9 : Int32 => WW G X 0 0 (wX8 G a_t m_s m_begun m_kept m_isKept m_past m_states m_text m_length r1.1 r1.2 m_isOn m_steps m_wayCells m_turns m_visits m_wasSo m_bestAway m_bestMade m_bestFault m_isHere m_place m_reason m_wide m_high) [some (.ref (a_t 0)), none, some (.int g2), none, some (.int x6.2.1), some (.int x6.2.2)] 42 [.int x9]) hm (fun x9 hm => ?_) (fun j10 hj10 hm => ?_)
      ·
        refine w_istore_n (pc := 42) hX dX8_partOf_42 rfl (Nat.le_of_ble_eq_true rfl) ?_
        refine w_iload (pc := 43) hX dX8_partOf_43 rfl ?_
        refine w_aload_n (pc := 45) hX dX8_partOf_45 rfl rfl ?_
        refine gf_X8_far (pc := 46) hX dX8_partOf_46 hX8 (List.mem_of_getElem? (i := 1) rfl) 0 rfl rfl ?_
        refine w_iload (pc := 49) hX dX8_partOf_49 rfl ?_
        refine w_iald (pc := 51) hX dX8_partOf_51 6 rfl hm (fun hm => ?_)
        refine w_jn (T := fun x11 : Int32 => WW G X 0 0 (wX8 G a_t m_s m_begun m_kept m_isKept m_past m_states m_text m_length r1.1 r1.2 m_isOn m_steps m_wayCells m_turns m_visits m_wasSo m_bestAway m_bestMade m_bestFault m_isHere m_place m_reason m_wide m_high) [some (.ref (a_t 0)), none, some (.int g2), some (.int x9), none, some (.int x6.2.2)] 60 [.int x11, .int x6.2.1]) hm (fun x11 hm => ?_) (fun j12 hj12 hm => ?_)
        ·
          refine w_iadd (pc := 60) hX dX8_partOf_60 ?_
          refine w_istore (pc := 61) hX dX8_partOf_61 (Nat.le_of_ble_eq_true rfl) ?_
          refine w_iinc (pc := 63) hX dX8_partOf_63 rfl (Nat.le_of_ble_eq_true rfl) ic_1 ?_
          refine w_goto (pc := 66) (tgt := 13) hX dX8_partOf_66 (by decide) ?_
          exact w_lvs [true, false, true, true, true, true] (hself7 (x9, x6.2.1 + x11, x6.2.2 + (1 : Int32)) hm)
        ·
          refine w_if_lt (pc := 52) (tgt := 59) hX dX8_partOf_52 (by decide) hm (fun hm => ?_) (fun hm => ?_)
          ·
            refine w_iconst (pc := 59) hX dX8_partOf_59 ic_0 ?_
            exact w_lvs [true, false, true, true, false, true] (hj12 (0 : Int32) hm)
          ·
            refine w_iconst (pc := 55) hX dX8_partOf_55 ic_1 ?_
            refine w_goto (pc := 56) (tgt := 60) hX dX8_partOf_56 (by decide) ?_
            exact w_lvs [true, false, true, true, false, true] (hj12 (1 : Int32) hm)
      ·
        refine w_jn (T := fun x13 : Unit => WW G X 0 0 (wX8 G a_t m_s m_begun m_kept m_isKept m_past m_states m_text m_length r1.1 r1.2 m_isOn m_steps m_wayCells m_turns m_visits m_wasSo m_bestAway m_bestMade m_bestFault m_isHere m_place m_reason m_wide m_high) [some (.ref (a_t 0)), none, some (.int g2), some (.int x6.1), some (.int x6.2.1), some (.int x6.2.2)] 41 []) hm (fun x13 hm => ?_) (fun j14 hj14 hm => ?_)
        ·
          refine w_iload_n (pc := 41) hX dX8_partOf_41 rfl rfl ?_
          exact w_lvs [true, false, true, false, true, true] (hj10 x6.1 hm)
        ·
          refine w_if_ge (pc := 23) (tgt := 41) hX dX8_partOf_23 (by decide) hm (fun hm => ?_) (fun hm => ?_)
          ·
            exact w_lvs [true, false, true, true, true, true] (hj14 () hm)
          ·
            refine w_aload_n (pc := 26) hX dX8_partOf_26 rfl rfl ?_
            refine gf_X8_far (pc := 27) hX dX8_partOf_27 hX8 (List.mem_of_getElem? (i := 1) rfl) 0 rfl rfl ?_
            refine w_iload (pc := 30) hX dX8_partOf_30 rfl ?_
            refine w_iald (pc := 32) hX dX8_partOf_32 6 rfl hm (fun hm => ?_)
            refine w_if_lt (pc := 33) (tgt := 41) hX dX8_partOf_33 (by decide) hm (fun hm => ?_) (fun hm => ?_)
            ·
              exact w_lvs [true, false, true, true, true, true] (hj14 () hm)
            ·
              refine w_iload (pc := 36) hX dX8_partOf_36 rfl ?_
              refine w_goto (pc := 38) (tgt := 42) hX dX8_partOf_38 (by decide) ?_
              exact w_lvs [true, false, true, false, true, true] (hj10 x6.2.2 hm)

set_option maxHeartbeats 4000000 in
set_option maxRecDepth 100000 in
theorem ctX8_orNone (G : gT) (g0 : Int32) (o : Int32) (hm : mX8_orNone g0 = some o) : CT G yX8_orNone wsX8_orNone rmX8_orNone [.int g0] ([]) (fun v w => v = some (.int o) ∧ w = []) := by
  refine CT_of (cc := cX8_orNone) (maxL := 1) (ret := (some .int)) 0 (by decide +kernel) rfl rfl (cat_ok rfl) (fun X hX hR hN => ?_)
  have hX : Ok G X cX8_orNone RX8 wsX8_orNone 1 rmX8_orNone := hX
  unfold mX8_orNone at hm
  refine w_iload_n (pc := 0) hX dX8_orNone_0 rfl rfl ?_
  refine w_jn (T := fun x1 : Int32 => WW G X 0 0 ([]) [none] 10 [.int x1]) hm (fun x1 hm => ?_) (fun j2 hj2 hm => ?_)
  ·
    obtain rfl := som hm
    exact w_iret (pc := 10) hX hR dX8_orNone_10 ⟨rfl, rfl⟩
  ·
    refine w_if_ge (pc := 1) (tgt := 9) hX dX8_orNone_1 (by decide) hm (fun hm => ?_) (fun hm => ?_)
    ·
      refine w_iload_n (pc := 9) hX dX8_orNone_9 rfl rfl ?_
      exact w_lvs [false] (hj2 g0 hm)
    ·
      refine w_bipush (pc := 4) hX dX8_orNone_4 bp_m4 ?_
      refine w_goto (pc := 6) (tgt := 10) hX dX8_orNone_6 (by decide) ?_
      exact w_lvs [false] (hj2 (-4 : Int32) hm)

theorem lX8_onWay_X8 : ∀ w ∈ wsX80, w ∈ wsX8_onWay := in_at [33, 34, 35, 36, 37, 38, 39, 40, 41, 42, 43, 44, 45, 46, 47, 48, 49, 50, 51, 52, 53, 54, 55, 56] (by decide +kernel)
set_option maxHeartbeats 4000000 in
set_option maxRecDepth 100000 in
theorem ctX8_onWay (G : gT) (F : Nat) (a_t : Nat → Nat) (m_s : nF) (m_begun : nF) (m_kept : nF) (m_isKept : Int32) (m_past : nF) (m_states : Int32) (m_text : nF) (m_length : Int32) (m_far : nF) (m_queue : nF) (m_isOn : nF) (m_steps : nF) (m_wayCells : Int32) (m_turns : Int32) (m_visits : nF) (m_wasSo : nF) (m_bestAway : Int32) (m_bestMade : Int32) (m_bestFault : Int32) (m_isHere : nF) (m_place : Int32) (m_reason : Int32) (m_wide : Int32) (m_high : Int32) (g1 : Int32) (o : (Int32 × nF × nF × nF × nF × Int32 × Int32)) (hm : mX8_onWay F m_s m_far m_queue m_isOn m_steps m_wayCells m_turns g1 = some o) : CT G yX8_onWay wsX8_onWay rmX8_onWay [.ref (a_t 0), .int g1] (wX8 G a_t m_s m_begun m_kept m_isKept m_past m_states m_text m_length m_far m_queue m_isOn m_steps m_wayCells m_turns m_visits m_wasSo m_bestAway m_bestMade m_bestFault m_isHere m_place m_reason m_wide m_high) (fun v w => v = some (.int o.1) ∧ w = wX8 G a_t m_s m_begun m_kept m_isKept m_past m_states m_text m_length o.2.1 o.2.2.1 o.2.2.2.1 o.2.2.2.2.1 o.2.2.2.2.2.1 o.2.2.2.2.2.2 m_visits m_wasSo m_bestAway m_bestMade m_bestFault m_isHere m_place m_reason m_wide m_high) := by
  refine CT_of (cc := cX8_onWay) (maxL := 3) (ret := (some .int)) 1 (by decide +kernel) rfl rfl (cat_ok rfl) (fun X hX hR hN => ?_)
  have hX : Ok G X cX8_onWay RX8 wsX8_onWay 3 rmX8_onWay := hX
  have hX8 : ∀ w ∈ wsX80, w ∈ wsX8_onWay := lX8_onWay_X8
  unfold mX8_onWay at hm
  refine w_aload_n (pc := 0) hX dX8_onWay_0 rfl rfl ?_
  refine w_aload_n (pc := 1) hX dX8_onWay_1 rfl rfl ?_
  refine gf_X8_s (pc := 2) hX dX8_onWay_2 hX8 (List.mem_of_getElem? (i := 1) rfl) 0 rfl rfl ?_
  refine w_iconst (pc := 5) hX dX8_onWay_5 ic_4 ?_
  refine w_iald (pc := 6) hX dX8_onWay_6 1 rfl hm (fun hm => ?_)
  obtain ⟨r1, hr1, hm⟩ := bnd hm
  refine w_calldi (pc := 7) (ws' := wX8 G a_t m_s m_begun m_kept m_isKept m_past m_states m_text m_length r1.2.1 r1.2.2.1 r1.2.2.2.1 r1.2.2.2.2.1 r1.2.2.2.2.2.1 r1.2.2.2.2.2.2 m_visits m_wasSo m_bestAway m_bestMade m_bestFault m_isHere m_place m_reason m_wide m_high) hX [0, 1, 2, 3, 4, 5, 6, 7, 8, 9, 10, 11, 12] (runV (rest := []) hX [0, 1, 2, 3, 4, 5, 6, 7, 8, 9, 10, 11, 12] (ctX8_findsWay G F a_t m_s m_begun m_kept m_isKept m_past m_states m_text m_length m_far m_queue m_isOn m_steps m_wayCells m_turns m_visits m_wasSo m_bestAway m_bestMade m_bestFault m_isHere m_place m_reason m_wide m_high (m_s (4 : Int32).toNatClampNeg) r1 hr1) dX8_onWay_7 1 gX8_onWay_X8_findsWay rfl hyX8_findsWay ⟨Nat.le_of_ble_eq_true rfl, Nat.le_of_ble_eq_true rfl⟩ 0 rfl rfl rfl rfl (Nat.le_of_ble_eq_true rfl) ⟨Nat.le_of_ble_eq_true rfl, Nat.le_of_ble_eq_true rfl⟩ rfl rfl) rfl rfl rfl ⟨rfl, rfl⟩ ?_
  refine w_istore_n (pc := 10) hX dX8_onWay_10 rfl (Nat.le_of_ble_eq_true rfl) ?_
  refine w_aload_n (pc := 11) hX dX8_onWay_11 rfl rfl ?_
  refine gf_X8_isOn (pc := 12) hX dX8_onWay_12 hX8 (List.mem_of_getElem? (i := 2) rfl) 0 rfl rfl ?_
  refine w_iload_n (pc := 15) hX dX8_onWay_15 rfl rfl ?_
  refine w_zald (pc := 16) hX dX8_onWay_16 8 rfl hm (fun hm => ?_)
  refine w_jn (T := fun x2 : Int32 => WW G X 0 0 (wX8 G a_t m_s m_begun m_kept m_isKept m_past m_states m_text m_length r1.2.1 r1.2.2.1 r1.2.2.2.1 r1.2.2.2.2.1 r1.2.2.2.2.2.1 r1.2.2.2.2.2.2 m_visits m_wasSo m_bestAway m_bestMade m_bestFault m_isHere m_place m_reason m_wide m_high) [none, none, none] 25 [.int x2]) hm (fun x2 hm => ?_) (fun j3 hj3 hm => ?_)
  ·
    obtain rfl := som hm
    exact w_iret (pc := 25) hX hR dX8_onWay_25 ⟨rfl, rfl⟩
  ·
    refine w_if_eq (pc := 17) (tgt := 24) hX dX8_onWay_17 (by decide) hm (fun hm => ?_) (fun hm => ?_)
    ·
      refine w_iconst (pc := 24) hX dX8_onWay_24 ic_0 ?_
      exact w_lvs [false, false, false] (hj3 (0 : Int32) hm)
    ·
      refine w_iconst (pc := 20) hX dX8_onWay_20 ic_1 ?_
      refine w_goto (pc := 21) (tgt := 25) hX dX8_onWay_21 (by decide) ?_
      exact w_lvs [false, false, false] (hj3 (1 : Int32) hm)

theorem lX8_cellOf_X8 : ∀ w ∈ wsX80, w ∈ wsX8_cellOf := in_at [61, 62, 63, 64, 65, 66, 67, 68, 69, 70, 71, 72, 73, 74, 75, 76, 77, 78, 79, 80, 81, 82, 83, 84] (by decide +kernel)
set_option maxHeartbeats 4000000 in
set_option maxRecDepth 100000 in
theorem ctX8_cellOf (G : gT) (F : Nat) (a_t : Nat → Nat) (m_s : nF) (m_begun : nF) (m_kept : nF) (m_isKept : Int32) (m_past : nF) (m_states : Int32) (m_text : nF) (m_length : Int32) (m_far : nF) (m_queue : nF) (m_isOn : nF) (m_steps : nF) (m_wayCells : Int32) (m_turns : Int32) (m_visits : nF) (m_wasSo : nF) (m_bestAway : Int32) (m_bestMade : Int32) (m_bestFault : Int32) (m_isHere : nF) (m_place : Int32) (m_reason : Int32) (m_wide : Int32) (m_high : Int32) (g1 : Int32) (g2 : Int32) (o : (Int32 × nF × nF × nF × nF × Int32 × Int32 × nF × nF)) (hm : mX8_cellOf F m_s m_far m_queue m_isOn m_steps m_wayCells m_turns m_visits m_wasSo g1 g2 = some o) : CT G yX8_cellOf wsX8_cellOf rmX8_cellOf [.ref (a_t 0), .int g1, .int g2] (wX8 G a_t m_s m_begun m_kept m_isKept m_past m_states m_text m_length m_far m_queue m_isOn m_steps m_wayCells m_turns m_visits m_wasSo m_bestAway m_bestMade m_bestFault m_isHere m_place m_reason m_wide m_high) (fun v w => v = some (.int o.1) ∧ w = wX8 G a_t m_s m_begun m_kept m_isKept m_past m_states m_text m_length o.2.1 o.2.2.1 o.2.2.2.1 o.2.2.2.2.1 o.2.2.2.2.2.1 o.2.2.2.2.2.2.1 o.2.2.2.2.2.2.2.1 o.2.2.2.2.2.2.2.2 m_bestAway m_bestMade m_bestFault m_isHere m_place m_reason m_wide m_high) := by
  refine CT_of (cc := cX8_cellOf) (maxL := 3) (ret := (some .int)) 0 (by decide +kernel) rfl rfl (cat_ok rfl) (fun X hX hR hN => ?_)
  have hX : Ok G X cX8_cellOf RX8 wsX8_cellOf 3 rmX8_cellOf := hX
  have hX8 : ∀ w ∈ wsX80, w ∈ wsX8_cellOf := lX8_cellOf_X8
  unfold mX8_cellOf at hm
  refine w_aload_n (pc := 0) hX dX8_cellOf_0 rfl rfl ?_
  refine w_iload_n (pc := 1) hX dX8_cellOf_1 rfl rfl ?_
  obtain ⟨r1, hr1, hm⟩ := bnd hm
  refine w_callpi (pc := 2) hX [0, 1, 2, 3, 4, 5, 6, 7, 8, 9, 10, 11, 12] (runV (rest := []) hX [0, 1, 2, 3, 4, 5, 6, 7, 8, 9, 10, 11, 12] (ctX8_isCell G a_t m_s m_begun m_kept m_isKept m_past m_states m_text m_length m_far m_queue m_isOn m_steps m_wayCells m_turns m_visits m_wasSo m_bestAway m_bestMade m_bestFault m_isHere m_place m_reason m_wide m_high g1 r1 hr1) dX8_cellOf_2 1 gX8_cellOf_X8_isCell rfl hyX8_isCell ⟨Nat.le_of_ble_eq_true rfl, Nat.le_of_ble_eq_true rfl⟩ 0 rfl rfl rfl rfl (Nat.le_of_ble_eq_true rfl) ⟨Nat.le_of_ble_eq_true rfl, Nat.le_of_ble_eq_true rfl⟩ rfl rfl) rfl ⟨rfl, rfl⟩ ?_
  refine w_jn (T := fun x2 : Unit => WW G X 0 0 (wX8 G a_t m_s m_begun m_kept m_isKept m_past m_states m_text m_length m_far m_queue m_isOn m_steps m_wayCells m_turns m_visits m_wasSo m_bestAway m_bestMade m_bestFault m_isHere m_place m_reason m_wide m_high) [none, none, none] 18 []) hm (fun x2 hm => ?_) (fun j3 hj3 hm => ?_)
  ·
    refine w_iconst (pc := 18) hX dX8_cellOf_18 ic_m1 ?_
    obtain rfl := som hm
    exact w_iret (pc := 19) hX hR dX8_cellOf_19 ⟨rfl, rfl⟩
  ·
    refine w_if_eq (pc := 5) (tgt := 18) hX dX8_cellOf_5 (by decide) hm (fun hm => ?_) (fun hm => ?_)
    ·
      exact w_lvs [false, false, false] (hj3 () hm)
    ·
      refine w_iload_n (pc := 8) hX dX8_cellOf_8 rfl rfl ?_
      refine w_iconst (pc := 9) hX dX8_cellOf_9 ic_0 ?_
      refine w_bipush (pc := 10) hX dX8_cellOf_10 bp_6 ?_
      obtain ⟨r4, hr4, hm⟩ := bnd hm
      refine w_callpi (pc := 12) hX [] (runS (rest := []) hX [] (ctX8_in G g2 (0 : Int32) (6 : Int32) r4 hr4) dX8_cellOf_12 3 gX8_cellOf_X8_in rfl hyX8_in.2 ⟨Nat.le_of_ble_eq_true rfl, Nat.le_of_ble_eq_true rfl⟩ rfl rfl (Nat.le_of_ble_eq_true rfl) ⟨Nat.le_of_ble_eq_true rfl, Nat.le_of_ble_eq_true rfl⟩ rfl rfl) rfl ⟨rfl, rfl⟩ ?_
      refine w_if_ne (pc := 15) (tgt := 20) hX dX8_cellOf_15 (by decide) hm (fun hm => ?_) (fun hm => ?_)
      ·
        refine w_iload_n (pc := 20) hX dX8_cellOf_20 rfl rfl ?_
        rcases Decidable.em (g2 = (0 : Int32)) with hc5 | hc5
        ·
          replace hm := ite_t hm hc5
          refine w_tabIn (pc := 21) (tgt := 60) hX dX8_cellOf_21 0 (by rw [hc5]; decide) (by decide) (by decide) rfl (by decide) ?_
          refine w_aload_n (pc := 60) hX dX8_cellOf_60 rfl rfl ?_
          refine gf_X8_s (pc := 61) hX dX8_cellOf_61 hX8 (List.mem_of_getElem? (i := 1) rfl) 0 rfl rfl ?_
          refine w_bipush (pc := 64) hX dX8_cellOf_64 bp_6 ?_
          refine w_iload_n (pc := 66) hX dX8_cellOf_66 rfl rfl ?_
          refine w_iadd (pc := 67) hX dX8_cellOf_67 ?_
          refine w_iald (pc := 68) hX dX8_cellOf_68 1 rfl hm (fun hm => ?_)
          obtain rfl := som hm
          exact w_iret (pc := 69) hX hR dX8_cellOf_69 ⟨rfl, rfl⟩
        ·
          replace hm := ite_f hm hc5
          rcases Decidable.em (g2 = (1 : Int32)) with hc6 | hc6
          ·
            replace hm := ite_t hm hc6
            refine w_tabIn (pc := 21) (tgt := 70) hX dX8_cellOf_21 1 (by rw [hc6]; decide) (by decide) (by decide) rfl (by decide) ?_
            refine w_aload_n (pc := 70) hX dX8_cellOf_70 rfl rfl ?_
            refine w_iload_n (pc := 71) hX dX8_cellOf_71 rfl rfl ?_
            obtain ⟨r7, hr7, hm⟩ := bnd hm
            refine w_callpi (pc := 72) hX [0, 1, 2, 3, 4, 5, 6, 7, 8, 9, 10, 11, 12] (runV (rest := []) hX [0, 1, 2, 3, 4, 5, 6, 7, 8, 9, 10, 11, 12] (ctX8_directions G F a_t m_s m_begun m_kept m_isKept m_past m_states m_text m_length m_far m_queue m_isOn m_steps m_wayCells m_turns m_visits m_wasSo m_bestAway m_bestMade m_bestFault m_isHere m_place m_reason m_wide m_high g1 r7 hr7) dX8_cellOf_72 1 gX8_cellOf_X8_directions rfl hyX8_directions ⟨Nat.le_of_ble_eq_true rfl, Nat.le_of_ble_eq_true rfl⟩ 0 rfl rfl rfl rfl (Nat.le_of_ble_eq_true rfl) ⟨Nat.le_of_ble_eq_true rfl, Nat.le_of_ble_eq_true rfl⟩ rfl rfl) rfl ⟨rfl, rfl⟩ ?_
            obtain rfl := som hm
            exact w_iret (pc := 75) hX hR dX8_cellOf_75 ⟨rfl, rfl⟩
          ·
            replace hm := ite_f hm hc6
            rcases Decidable.em (g2 = (2 : Int32)) with hc8 | hc8
            ·
              replace hm := ite_t hm hc8
              refine w_tabIn (pc := 21) (tgt := 76) hX dX8_cellOf_21 2 (by rw [hc8]; decide) (by decide) (by decide) rfl (by decide) ?_
              refine w_aload_n (pc := 76) hX dX8_cellOf_76 rfl rfl ?_
              refine w_iload_n (pc := 77) hX dX8_cellOf_77 rfl rfl ?_
              refine w_iconst (pc := 78) hX dX8_cellOf_78 ic_1 ?_
              obtain ⟨r9, hr9, hm⟩ := bnd hm
              refine w_calldi (pc := 79) (ws' := wX8 G a_t m_s m_begun m_kept m_isKept m_past m_states m_text m_length r9.2.1 r9.2.2 m_isOn m_steps m_wayCells m_turns m_visits m_wasSo m_bestAway m_bestMade m_bestFault m_isHere m_place m_reason m_wide m_high) hX [0, 1, 2, 3, 4, 5, 6, 7, 8, 9, 10, 11, 12] (runV (rest := []) hX [0, 1, 2, 3, 4, 5, 6, 7, 8, 9, 10, 11, 12] (ctX8_partOf G F a_t m_s m_begun m_kept m_isKept m_past m_states m_text m_length m_far m_queue m_isOn m_steps m_wayCells m_turns m_visits m_wasSo m_bestAway m_bestMade m_bestFault m_isHere m_place m_reason m_wide m_high g1 (1 : Int32) r9 hr9) dX8_cellOf_79 2 gX8_cellOf_X8_partOf rfl hyX8_partOf ⟨Nat.le_of_ble_eq_true rfl, Nat.le_of_ble_eq_true rfl⟩ 0 rfl rfl rfl rfl (Nat.le_of_ble_eq_true rfl) ⟨Nat.le_of_ble_eq_true rfl, Nat.le_of_ble_eq_true rfl⟩ rfl rfl) rfl rfl rfl ⟨rfl, rfl⟩ ?_
              obtain rfl := som hm
              exact w_iret (pc := 82) hX hR dX8_cellOf_82 ⟨rfl, rfl⟩
            ·
              replace hm := ite_f hm hc8
              rcases Decidable.em (g2 = (3 : Int32)) with hc10 | hc10
              ·
                replace hm := ite_t hm hc10
                refine w_tabIn (pc := 21) (tgt := 83) hX dX8_cellOf_21 3 (by rw [hc10]; decide) (by decide) (by decide) rfl (by decide) ?_
                refine w_aload_n (pc := 83) hX dX8_cellOf_83 rfl rfl ?_
                refine w_iload_n (pc := 84) hX dX8_cellOf_84 rfl rfl ?_
                refine w_iconst (pc := 85) hX dX8_cellOf_85 ic_0 ?_
                obtain ⟨r11, hr11, hm⟩ := bnd hm
                refine w_calldi (pc := 86) (ws' := wX8 G a_t m_s m_begun m_kept m_isKept m_past m_states m_text m_length r11.2.1 r11.2.2 m_isOn m_steps m_wayCells m_turns m_visits m_wasSo m_bestAway m_bestMade m_bestFault m_isHere m_place m_reason m_wide m_high) hX [0, 1, 2, 3, 4, 5, 6, 7, 8, 9, 10, 11, 12] (runV (rest := []) hX [0, 1, 2, 3, 4, 5, 6, 7, 8, 9, 10, 11, 12] (ctX8_partOf G F a_t m_s m_begun m_kept m_isKept m_past m_states m_text m_length m_far m_queue m_isOn m_steps m_wayCells m_turns m_visits m_wasSo m_bestAway m_bestMade m_bestFault m_isHere m_place m_reason m_wide m_high g1 (0 : Int32) r11 hr11) dX8_cellOf_86 2 gX8_cellOf_X8_partOf rfl hyX8_partOf ⟨Nat.le_of_ble_eq_true rfl, Nat.le_of_ble_eq_true rfl⟩ 0 rfl rfl rfl rfl (Nat.le_of_ble_eq_true rfl) ⟨Nat.le_of_ble_eq_true rfl, Nat.le_of_ble_eq_true rfl⟩ rfl rfl) rfl rfl rfl ⟨rfl, rfl⟩ ?_
                obtain rfl := som hm
                exact w_iret (pc := 89) hX hR dX8_cellOf_89 ⟨rfl, rfl⟩
              ·
                replace hm := ite_f hm hc10
                rcases Decidable.em (g2 = (4 : Int32)) with hc12 | hc12
                ·
                  replace hm := ite_t hm hc12
                  refine w_tabIn (pc := 21) (tgt := 90) hX dX8_cellOf_21 4 (by rw [hc12]; decide) (by decide) (by decide) rfl (by decide) ?_
                  refine w_aload_n (pc := 90) hX dX8_cellOf_90 rfl rfl ?_
                  refine w_aload_n (pc := 91) hX dX8_cellOf_91 rfl rfl ?_
                  refine gf_X8_s (pc := 92) hX dX8_cellOf_92 hX8 (List.mem_of_getElem? (i := 1) rfl) 0 rfl rfl ?_
                  refine w_iconst (pc := 95) hX dX8_cellOf_95 ic_2 ?_
                  refine w_iald (pc := 96) hX dX8_cellOf_96 1 rfl hm (fun hm => ?_)
                  obtain ⟨r13, hr13, hm⟩ := bnd hm
                  refine w_calldv (pc := 97) (ws' := wX8 G a_t m_s m_begun m_kept m_isKept m_past m_states m_text m_length r13.1 r13.2 m_isOn m_steps m_wayCells m_turns m_visits m_wasSo m_bestAway m_bestMade m_bestFault m_isHere m_place m_reason m_wide m_high) hX [0, 1, 2, 3, 4, 5, 6, 7, 8, 9, 10, 11, 12] (runV (rest := []) hX [0, 1, 2, 3, 4, 5, 6, 7, 8, 9, 10, 11, 12] (ctX8_measures G F a_t m_s m_begun m_kept m_isKept m_past m_states m_text m_length m_far m_queue m_isOn m_steps m_wayCells m_turns m_visits m_wasSo m_bestAway m_bestMade m_bestFault m_isHere m_place m_reason m_wide m_high (m_s (2 : Int32).toNatClampNeg) r13 hr13) dX8_cellOf_97 1 gX8_cellOf_X8_measures rfl hyX8_measures ⟨Nat.le_of_ble_eq_true rfl, Nat.le_of_ble_eq_true rfl⟩ 0 rfl rfl rfl rfl (Nat.le_of_ble_eq_true rfl) ⟨Nat.le_of_ble_eq_true rfl, Nat.le_of_ble_eq_true rfl⟩ rfl rfl) rfl rfl rfl ⟨rfl, rfl⟩ ?_
                  refine w_aload_n (pc := 100) hX dX8_cellOf_100 rfl rfl ?_
                  refine gf_X8_far (pc := 101) hX dX8_cellOf_101 hX8 (List.mem_of_getElem? (i := 2) rfl) 0 rfl rfl ?_
                  refine w_iload_n (pc := 104) hX dX8_cellOf_104 rfl rfl ?_
                  refine w_iald (pc := 105) hX dX8_cellOf_105 6 rfl hm (fun hm => ?_)
                  obtain ⟨r14, hr14, hm⟩ := bnd hm
                  refine w_callpi (pc := 106) hX [] (runS (rest := []) hX [] (ctX8_orNone G (r13.1 g1.toNatClampNeg) r14 hr14) dX8_cellOf_106 1 gX8_cellOf_X8_orNone rfl hyX8_orNone.2 ⟨Nat.le_of_ble_eq_true rfl, Nat.le_of_ble_eq_true rfl⟩ rfl rfl (Nat.le_of_ble_eq_true rfl) ⟨Nat.le_of_ble_eq_true rfl, Nat.le_of_ble_eq_true rfl⟩ rfl rfl) rfl ⟨rfl, rfl⟩ ?_
                  obtain rfl := som hm
                  exact w_iret (pc := 109) hX hR dX8_cellOf_109 ⟨rfl, rfl⟩
                ·
                  replace hm := ite_f hm hc12
                  rcases Decidable.em (g2 = (5 : Int32)) with hc15 | hc15
                  ·
                    replace hm := ite_t hm hc15
                    refine w_tabIn (pc := 21) (tgt := 110) hX dX8_cellOf_21 5 (by rw [hc15]; decide) (by decide) (by decide) rfl (by decide) ?_
                    refine w_aload_n (pc := 110) hX dX8_cellOf_110 rfl rfl ?_
                    refine w_iload_n (pc := 111) hX dX8_cellOf_111 rfl rfl ?_
                    obtain ⟨r16, hr16, hm⟩ := bnd hm
                    refine w_calldi (pc := 112) (ws' := wX8 G a_t m_s m_begun m_kept m_isKept m_past m_states m_text m_length r16.2.1 r16.2.2.1 r16.2.2.2.1 r16.2.2.2.2.1 r16.2.2.2.2.2.1 r16.2.2.2.2.2.2 m_visits m_wasSo m_bestAway m_bestMade m_bestFault m_isHere m_place m_reason m_wide m_high) hX [0, 1, 2, 3, 4, 5, 6, 7, 8, 9, 10, 11, 12] (runV (rest := []) hX [0, 1, 2, 3, 4, 5, 6, 7, 8, 9, 10, 11, 12] (ctX8_onWay G F a_t m_s m_begun m_kept m_isKept m_past m_states m_text m_length m_far m_queue m_isOn m_steps m_wayCells m_turns m_visits m_wasSo m_bestAway m_bestMade m_bestFault m_isHere m_place m_reason m_wide m_high g1 r16 hr16) dX8_cellOf_112 1 gX8_cellOf_X8_onWay rfl hyX8_onWay ⟨Nat.le_of_ble_eq_true rfl, Nat.le_of_ble_eq_true rfl⟩ 0 rfl rfl rfl rfl (Nat.le_of_ble_eq_true rfl) ⟨Nat.le_of_ble_eq_true rfl, Nat.le_of_ble_eq_true rfl⟩ rfl rfl) rfl rfl rfl ⟨rfl, rfl⟩ ?_
                    obtain rfl := som hm
                    exact w_iret (pc := 115) hX hR dX8_cellOf_115 ⟨rfl, rfl⟩
                  ·
                    replace hm := ite_f hm hc15
                    refine w_tabOut (pc := 21) (tgt := 116) hX dX8_cellOf_21 (tsw_out (n := 5) (fun i hi => by rcases (show i = 0 ∨ i = 1 ∨ i = 2 ∨ i = 3 ∨ i = 4 ∨ i = 5 by omega) with rfl | rfl | rfl | rfl | rfl | rfl <;> assumption)) (by decide) ?_
                    refine w_aload_n (pc := 116) hX dX8_cellOf_116 rfl rfl ?_
                    obtain ⟨r17, hr17, hm⟩ := bnd hm
                    refine w_calldi (pc := 117) (ws' := wX8 G a_t m_s m_begun m_kept m_isKept m_past m_states m_text m_length m_far m_queue m_isOn m_steps m_wayCells m_turns r17.2.1 r17.2.2 m_bestAway m_bestMade m_bestFault m_isHere m_place m_reason m_wide m_high) hX [0, 1, 2, 3, 4, 5, 6, 7, 8, 9, 10, 11, 12] (runV (rest := []) hX [0, 1, 2, 3, 4, 5, 6, 7, 8, 9, 10, 11, 12] (ctX8_walks G F a_t m_s m_begun m_kept m_isKept m_past m_states m_text m_length m_far m_queue m_isOn m_steps m_wayCells m_turns m_visits m_wasSo m_bestAway m_bestMade m_bestFault m_isHere m_place m_reason m_wide m_high r17 hr17) dX8_cellOf_117 0 gX8_cellOf_X8_walks rfl hyX8_walks ⟨Nat.le_of_ble_eq_true rfl, Nat.le_of_ble_eq_true rfl⟩ 0 rfl rfl rfl rfl (Nat.le_of_ble_eq_true rfl) ⟨Nat.le_of_ble_eq_true rfl, Nat.le_of_ble_eq_true rfl⟩ rfl rfl) rfl rfl rfl ⟨rfl, rfl⟩ ?_
                    refine w_jn (T := fun x18 : Int32 => WW G X 0 0 (wX8 G a_t m_s m_begun m_kept m_isKept m_past m_states m_text m_length m_far m_queue m_isOn m_steps m_wayCells m_turns r17.2.1 r17.2.2 m_bestAway m_bestMade m_bestFault m_isHere m_place m_reason m_wide m_high) [none, none, none] 134 [.int x18]) hm (fun x18 hm => ?_) (fun j19 hj19 hm => ?_)
                    ·
                      obtain rfl := som hm
                      exact w_iret (pc := 134) hX hR dX8_cellOf_134 ⟨rfl, rfl⟩
                    ·
                      refine w_if_eq (pc := 120) (tgt := 132) hX dX8_cellOf_120 (by decide) hm (fun hm => ?_) (fun hm => ?_)
                      ·
                        refine w_bipush (pc := 132) hX dX8_cellOf_132 bp_m4 ?_
                        exact w_lvs [false, false, false] (hj19 (-4 : Int32) hm)
                      ·
                        refine w_aload_n (pc := 123) hX dX8_cellOf_123 rfl rfl ?_
                        refine gf_X8_visits (pc := 124) hX dX8_cellOf_124 hX8 (List.mem_of_getElem? (i := 3) rfl) 0 rfl rfl ?_
                        refine w_iload_n (pc := 127) hX dX8_cellOf_127 rfl rfl ?_
                        refine w_iald (pc := 128) hX dX8_cellOf_128 10 rfl hm (fun hm => ?_)
                        refine w_goto (pc := 129) (tgt := 134) hX dX8_cellOf_129 (by decide) ?_
                        exact w_lvs [false, false, false] (hj19 (r17.2.1 g1.toNatClampNeg) hm)
      ·
        exact w_lvs [false, false, false] (hj3 () hm)

theorem lX8_doorOf_X8 : ∀ w ∈ wsX80, w ∈ wsX8_doorOf := in_at [6, 7, 8, 9, 10, 11, 12, 13, 14, 15, 16, 17, 18, 19, 20, 21, 22, 23, 24, 25, 26, 27, 28, 29] (by decide +kernel)
set_option maxHeartbeats 4000000 in
set_option maxRecDepth 100000 in
theorem ctX8_doorOf (G : gT) (a_t : Nat → Nat) (m_s : nF) (m_begun : nF) (m_kept : nF) (m_isKept : Int32) (m_past : nF) (m_states : Int32) (m_text : nF) (m_length : Int32) (m_far : nF) (m_queue : nF) (m_isOn : nF) (m_steps : nF) (m_wayCells : Int32) (m_turns : Int32) (m_visits : nF) (m_wasSo : nF) (m_bestAway : Int32) (m_bestMade : Int32) (m_bestFault : Int32) (m_isHere : nF) (m_place : Int32) (m_reason : Int32) (m_wide : Int32) (m_high : Int32) (g1 : Int32) (g2 : Int32) (o : Int32) (hm : mX8_doorOf m_s g1 g2 = some o) : CT G yX8_doorOf wsX8_doorOf rmX8_doorOf [.ref (a_t 0), .int g1, .int g2] (wX8 G a_t m_s m_begun m_kept m_isKept m_past m_states m_text m_length m_far m_queue m_isOn m_steps m_wayCells m_turns m_visits m_wasSo m_bestAway m_bestMade m_bestFault m_isHere m_place m_reason m_wide m_high) (fun v w => v = some (.int o) ∧ w = wX8 G a_t m_s m_begun m_kept m_isKept m_past m_states m_text m_length m_far m_queue m_isOn m_steps m_wayCells m_turns m_visits m_wasSo m_bestAway m_bestMade m_bestFault m_isHere m_place m_reason m_wide m_high) := by
  refine CT_of (cc := cX8_doorOf) (maxL := 3) (ret := (some .int)) 0 (by decide +kernel) rfl rfl (cat_ok rfl) (fun X hX hR hN => ?_)
  have hX : Ok G X cX8_doorOf RX8 wsX8_doorOf 3 rmX8_doorOf := hX
  have hX8 : ∀ w ∈ wsX80, w ∈ wsX8_doorOf := lX8_doorOf_X8
  unfold mX8_doorOf at hm
  refine w_iload_n (pc := 0) hX dX8_doorOf_0 rfl rfl ?_
  refine w_iconst (pc := 1) hX dX8_doorOf_1 ic_0 ?_
  refine w_iconst (pc := 2) hX dX8_doorOf_2 ic_1 ?_
  obtain ⟨r1, hr1, hm⟩ := bnd hm
  refine w_callpi (pc := 3) hX [] (runS (rest := []) hX [] (ctX8_in G g1 (0 : Int32) (1 : Int32) r1 hr1) dX8_doorOf_3 3 gX8_doorOf_X8_in rfl hyX8_in.2 ⟨Nat.le_of_ble_eq_true rfl, Nat.le_of_ble_eq_true rfl⟩ rfl rfl (Nat.le_of_ble_eq_true rfl) ⟨Nat.le_of_ble_eq_true rfl, Nat.le_of_ble_eq_true rfl⟩ rfl rfl) rfl ⟨rfl, rfl⟩ ?_
  refine w_jn (T := fun x2 : Int32 => WW G X 0 0 (wX8 G a_t m_s m_begun m_kept m_isKept m_past m_states m_text m_length m_far m_queue m_isOn m_steps m_wayCells m_turns m_visits m_wasSo m_bestAway m_bestMade m_bestFault m_isHere m_place m_reason m_wide m_high) [none, none, none] 34 [.int x2]) hm (fun x2 hm => ?_) (fun j3 hj3 hm => ?_)
  ·
    obtain rfl := som hm
    exact w_iret (pc := 34) hX hR dX8_doorOf_34 ⟨rfl, rfl⟩
  ·
    refine w_jn (T := fun x4 : Unit => WW G X 0 0 (wX8 G a_t m_s m_begun m_kept m_isKept m_past m_states m_text m_length m_far m_queue m_isOn m_steps m_wayCells m_turns m_visits m_wasSo m_bestAway m_bestMade m_bestFault m_isHere m_place m_reason m_wide m_high) [none, none, none] 33 []) hm (fun x4 hm => ?_) (fun j5 hj5 hm => ?_)
    ·
      refine w_iconst (pc := 33) hX dX8_doorOf_33 ic_m1 ?_
      exact w_lvs [false, false, false] (hj3 (-1 : Int32) hm)
    ·
      refine w_if_eq (pc := 6) (tgt := 33) hX dX8_doorOf_6 (by decide) hm (fun hm => ?_) (fun hm => ?_)
      ·
        exact w_lvs [false, false, false] (hj5 () hm)
      ·
        refine w_iload_n (pc := 9) hX dX8_doorOf_9 rfl rfl ?_
        refine w_iconst (pc := 10) hX dX8_doorOf_10 ic_0 ?_
        refine w_iconst (pc := 11) hX dX8_doorOf_11 ic_1 ?_
        obtain ⟨r6, hr6, hm⟩ := bnd hm
        refine w_callpi (pc := 12) hX [] (runS (rest := []) hX [] (ctX8_in G g2 (0 : Int32) (1 : Int32) r6 hr6) dX8_doorOf_12 3 gX8_doorOf_X8_in rfl hyX8_in.2 ⟨Nat.le_of_ble_eq_true rfl, Nat.le_of_ble_eq_true rfl⟩ rfl rfl (Nat.le_of_ble_eq_true rfl) ⟨Nat.le_of_ble_eq_true rfl, Nat.le_of_ble_eq_true rfl⟩ rfl rfl) rfl ⟨rfl, rfl⟩ ?_
        refine w_if_eq (pc := 15) (tgt := 33) hX dX8_doorOf_15 (by decide) hm (fun hm => ?_) (fun hm => ?_)
        ·
          exact w_lvs [false, false, false] (hj5 () hm)
        ·
          refine w_aload_n (pc := 18) hX dX8_doorOf_18 rfl rfl ?_
          refine gf_X8_s (pc := 19) hX dX8_doorOf_19 hX8 (List.mem_of_getElem? (i := 1) rfl) 0 rfl rfl ?_
          refine w_iconst (pc := 22) hX dX8_doorOf_22 ic_2 ?_
          refine w_iconst (pc := 23) hX dX8_doorOf_23 ic_2 ?_
          refine w_iload_n (pc := 24) hX dX8_doorOf_24 rfl rfl ?_
          refine w_imul (pc := 25) hX dX8_doorOf_25 ?_
          refine w_iadd (pc := 26) hX dX8_doorOf_26 ?_
          refine w_iload_n (pc := 27) hX dX8_doorOf_27 rfl rfl ?_
          refine w_iadd (pc := 28) hX dX8_doorOf_28 ?_
          refine w_iald (pc := 29) hX dX8_doorOf_29 1 rfl hm (fun hm => ?_)
          refine w_goto (pc := 30) (tgt := 34) hX dX8_doorOf_30 (by decide) ?_
          exact w_lvs [false, false, false] (hj3 (m_s (((2 : Int32) + ((2 : Int32) * g1)) + g2).toNatClampNeg) hm)

set_option maxHeartbeats 4000000 in
set_option maxRecDepth 100000 in
theorem ctX8_ends (G : gT) (F : Nat) (a_t : Nat → Nat) (m_s : nF) (m_begun : nF) (m_kept : nF) (m_isKept : Int32) (m_past : nF) (m_states : Int32) (m_text : nF) (m_length : Int32) (m_far : nF) (m_queue : nF) (m_isOn : nF) (m_steps : nF) (m_wayCells : Int32) (m_turns : Int32) (m_visits : nF) (m_wasSo : nF) (m_bestAway : Int32) (m_bestMade : Int32) (m_bestFault : Int32) (m_isHere : nF) (m_place : Int32) (m_reason : Int32) (m_wide : Int32) (m_high : Int32) (o : Int32) (hm : mX8_ends F m_s = some o) : CT G yX8_ends wsX8_ends rmX8_ends [.ref (a_t 0)] (wX8 G a_t m_s m_begun m_kept m_isKept m_past m_states m_text m_length m_far m_queue m_isOn m_steps m_wayCells m_turns m_visits m_wasSo m_bestAway m_bestMade m_bestFault m_isHere m_place m_reason m_wide m_high) (fun v w => v = some (.int o) ∧ w = wX8 G a_t m_s m_begun m_kept m_isKept m_past m_states m_text m_length m_far m_queue m_isOn m_steps m_wayCells m_turns m_visits m_wasSo m_bestAway m_bestMade m_bestFault m_isHere m_place m_reason m_wide m_high) := by
  refine CT_of (cc := cX8_ends) (maxL := 4) (ret := (some .int)) 3 (by decide +kernel) rfl rfl (cat_ok rfl) (fun X hX hR hN => ?_)
  have hX : Ok G X cX8_ends RX8 wsX8_ends 4 rmX8_ends := hX
  unfold mX8_ends at hm
  refine w_iconst (pc := 0) hX dX8_ends_0 ic_0 ?_
  refine w_istore_n (pc := 1) hX dX8_ends_1 rfl (Nat.le_of_ble_eq_true rfl) ?_
  refine w_iconst (pc := 2) hX dX8_ends_2 ic_0 ?_
  refine w_istore_n (pc := 3) hX dX8_ends_3 rfl (Nat.le_of_ble_eq_true rfl) ?_
  refine w_lvs [true, true, true, false] ?_
  refine lpr_ind (T := fun x1 : (Int32 × Int32) => WW G X 0 0 (wX8 G a_t m_s m_begun m_kept m_isKept m_past m_states m_text m_length m_far m_queue m_isOn m_steps m_wayCells m_turns m_visits m_wasSo m_bestAway m_bestMade m_bestFault m_isHere m_place m_reason m_wide m_high) [some (.ref (a_t 0)), some (.int x1.1), some (.int x1.2), none] 4 []) (fun self2 hself2 x1 hm => ?_) F ((0 : Int32), (0 : Int32)) hm
  unfold mX8_ends_L4 at hm
  refine w_iload_n (pc := 4) hX dX8_ends_4 rfl rfl ?_
  refine w_aload_n (pc := 5) hX dX8_ends_5 rfl rfl ?_
  obtain ⟨r3, hr3, hm⟩ := bnd hm
  refine w_callpi (pc := 6) hX [0, 1, 2, 3, 4, 5, 6, 7, 8, 9, 10, 11, 12] (runV (rest := [.int x1.2]) hX [0, 1, 2, 3, 4, 5, 6, 7, 8, 9, 10, 11, 12] (ctX8_cells G a_t m_s m_begun m_kept m_isKept m_past m_states m_text m_length m_far m_queue m_isOn m_steps m_wayCells m_turns m_visits m_wasSo m_bestAway m_bestMade m_bestFault m_isHere m_place m_reason m_wide m_high r3 hr3) dX8_ends_6 0 gX8_ends_X8_cells rfl hyX8_cells ⟨Nat.le_of_ble_eq_true rfl, Nat.le_of_ble_eq_true rfl⟩ 0 rfl rfl rfl rfl (Nat.le_of_ble_eq_true rfl) ⟨Nat.le_of_ble_eq_true rfl, Nat.le_of_ble_eq_true rfl⟩ rfl rfl) rfl ⟨rfl, rfl⟩ ?_
  refine w_icmp_ge (pc := 9) (tgt := 53) hX dX8_ends_9 (by decide) hm (fun hm => ?_) (fun hm => ?_)
  ·
    refine w_iload_n (pc := 53) hX dX8_ends_53 rfl rfl ?_
    obtain rfl := som hm
    exact w_iret (pc := 54) hX hR dX8_ends_54 ⟨rfl, rfl⟩
  ·
    refine w_aload_n (pc := 12) hX dX8_ends_12 rfl rfl ?_
    refine w_iload_n (pc := 13) hX dX8_ends_13 rfl rfl ?_
    obtain ⟨r4, hr4, hm⟩ := bnd hm
    refine w_callpi (pc := 14) hX [0, 1, 2, 3, 4, 5, 6, 7, 8, 9, 10, 11, 12] (runV (rest := []) hX [0, 1, 2, 3, 4, 5, 6, 7, 8, 9, 10, 11, 12] (ctX8_directions G F a_t m_s m_begun m_kept m_isKept m_past m_states m_text m_length m_far m_queue m_isOn m_steps m_wayCells m_turns m_visits m_wasSo m_bestAway m_bestMade m_bestFault m_isHere m_place m_reason m_wide m_high x1.2 r4 hr4) dX8_ends_14 1 gX8_ends_X8_directions rfl hyX8_directions ⟨Nat.le_of_ble_eq_true rfl, Nat.le_of_ble_eq_true rfl⟩ 0 rfl rfl rfl rfl (Nat.le_of_ble_eq_true rfl) ⟨Nat.le_of_ble_eq_true rfl, Nat.le_of_ble_eq_true rfl⟩ rfl rfl) rfl ⟨rfl, rfl⟩ ?_
    refine w_istore_n (pc := 17) hX dX8_ends_17 rfl (Nat.le_of_ble_eq_true rfl) ?_
    refine w_iload_n (pc := 18) hX dX8_ends_18 rfl rfl ?_
    refine w_iload_n (pc := 19) hX dX8_ends_19 rfl rfl ?_
    refine w_iconst (pc := 20) hX dX8_ends_20 ic_1 ?_
    refine w_jn (T := fun x5 : Int32 => WW G X 0 0 (wX8 G a_t m_s m_begun m_kept m_isKept m_past m_states m_text m_length m_far m_queue m_isOn m_steps m_wayCells m_turns m_visits m_wasSo m_bestAway m_bestMade m_bestFault m_isHere m_place m_reason m_wide m_high) [some (.ref (a_t 0)), none, some (.int x1.2), none] 45 [.int x5, .int x1.1]) hm (fun x5 hm => ?_) (fun j6 hj6 hm => ?_)
    ·
      refine w_iadd (pc := 45) hX dX8_ends_45 ?_
      refine w_istore_n (pc := 46) hX dX8_ends_46 rfl (Nat.le_of_ble_eq_true rfl) ?_
      refine w_iinc (pc := 47) hX dX8_ends_47 rfl (Nat.le_of_ble_eq_true rfl) ic_1 ?_
      refine w_goto (pc := 50) (tgt := 4) hX dX8_ends_50 (by decide) ?_
      exact w_lvs [true, true, true, false] (hself2 (x1.1 + x5, x1.2 + (1 : Int32)) hm)
    ·
      refine w_jn (T := fun x7 : Unit => WW G X 0 0 (wX8 G a_t m_s m_begun m_kept m_isKept m_past m_states m_text m_length m_far m_queue m_isOn m_steps m_wayCells m_turns m_visits m_wasSo m_bestAway m_bestMade m_bestFault m_isHere m_place m_reason m_wide m_high) [some (.ref (a_t 0)), none, some (.int x1.2), none] 40 [.int x1.1]) hm (fun x7 hm => ?_) (fun j8 hj8 hm => ?_)
      ·
        refine w_iconst (pc := 40) hX dX8_ends_40 ic_1 ?_
        refine w_goto (pc := 41) (tgt := 45) hX dX8_ends_41 (by decide) ?_
        exact w_lvs [true, false, true, false] (hj6 (1 : Int32) hm)
      ·
        refine w_icmp_eq (pc := 21) (tgt := 40) hX dX8_ends_21 (by decide) hm (fun hm => ?_) (fun hm => ?_)
        ·
          exact w_lvs [true, false, true, false] (hj8 () hm)
        ·
          refine w_iload_n (pc := 24) hX dX8_ends_24 rfl rfl ?_
          refine w_iconst (pc := 25) hX dX8_ends_25 ic_2 ?_
          refine w_icmp_eq (pc := 26) (tgt := 40) hX dX8_ends_26 (by decide) hm (fun hm => ?_) (fun hm => ?_)
          ·
            exact w_lvs [true, false, true, false] (hj8 () hm)
          ·
            refine w_iload_n (pc := 29) hX dX8_ends_29 rfl rfl ?_
            refine w_iconst (pc := 30) hX dX8_ends_30 ic_4 ?_
            refine w_icmp_eq (pc := 31) (tgt := 40) hX dX8_ends_31 (by decide) hm (fun hm => ?_) (fun hm => ?_)
            ·
              exact w_lvs [true, false, true, false] (hj8 () hm)
            ·
              refine w_iload_n (pc := 34) hX dX8_ends_34 rfl rfl ?_
              refine w_bipush (pc := 35) hX dX8_ends_35 bp_8 ?_
              refine w_icmp_ne (pc := 37) (tgt := 44) hX dX8_ends_37 (by decide) hm (fun hm => ?_) (fun hm => ?_)
              ·
                refine w_iconst (pc := 44) hX dX8_ends_44 ic_0 ?_
                exact w_lvs [true, false, true, false] (hj6 (0 : Int32) hm)
              ·
                exact w_lvs [true, false, true, false] (hj8 () hm)

theorem lX8_tones_X8 : ∀ w ∈ wsX80, w ∈ wsX8_tones := in_at [7, 8, 9, 10, 11, 12, 13, 14, 15, 16, 17, 18, 19, 20, 21, 22, 23, 24, 25, 26, 27, 28, 29, 30] (by decide +kernel)
set_option maxHeartbeats 4000000 in
set_option maxRecDepth 100000 in
theorem ctX8_tones (G : gT) (F : Nat) (a_t : Nat → Nat) (m_s : nF) (m_begun : nF) (m_kept : nF) (m_isKept : Int32) (m_past : nF) (m_states : Int32) (m_text : nF) (m_length : Int32) (m_far : nF) (m_queue : nF) (m_isOn : nF) (m_steps : nF) (m_wayCells : Int32) (m_turns : Int32) (m_visits : nF) (m_wasSo : nF) (m_bestAway : Int32) (m_bestMade : Int32) (m_bestFault : Int32) (m_isHere : nF) (m_place : Int32) (m_reason : Int32) (m_wide : Int32) (m_high : Int32) (o : Int32) (hm : mX8_tones F m_s = some o) : CT G yX8_tones wsX8_tones rmX8_tones [.ref (a_t 0)] (wX8 G a_t m_s m_begun m_kept m_isKept m_past m_states m_text m_length m_far m_queue m_isOn m_steps m_wayCells m_turns m_visits m_wasSo m_bestAway m_bestMade m_bestFault m_isHere m_place m_reason m_wide m_high) (fun v w => v = some (.int o) ∧ w = wX8 G a_t m_s m_begun m_kept m_isKept m_past m_states m_text m_length m_far m_queue m_isOn m_steps m_wayCells m_turns m_visits m_wasSo m_bestAway m_bestMade m_bestFault m_isHere m_place m_reason m_wide m_high) := by
  refine CT_of (cc := cX8_tones) (maxL := 3) (ret := (some .int)) 2 (by decide +kernel) rfl rfl (cat_ok rfl) (fun X hX hR hN => ?_)
  have hX : Ok G X cX8_tones RX8 wsX8_tones 3 rmX8_tones := hX
  have hX8 : ∀ w ∈ wsX80, w ∈ wsX8_tones := lX8_tones_X8
  unfold mX8_tones at hm
  refine w_iconst (pc := 0) hX dX8_tones_0 ic_0 ?_
  refine w_istore_n (pc := 1) hX dX8_tones_1 rfl (Nat.le_of_ble_eq_true rfl) ?_
  refine w_iconst (pc := 2) hX dX8_tones_2 ic_0 ?_
  refine w_istore_n (pc := 3) hX dX8_tones_3 rfl (Nat.le_of_ble_eq_true rfl) ?_
  refine w_lvs [true, true, true] ?_
  refine lpr_ind (T := fun x1 : (Int32 × Int32) => WW G X 0 0 (wX8 G a_t m_s m_begun m_kept m_isKept m_past m_states m_text m_length m_far m_queue m_isOn m_steps m_wayCells m_turns m_visits m_wasSo m_bestAway m_bestMade m_bestFault m_isHere m_place m_reason m_wide m_high) [some (.ref (a_t 0)), some (.int x1.1), some (.int x1.2)] 4 []) (fun self2 hself2 x1 hm => ?_) F ((0 : Int32), (0 : Int32)) hm
  unfold mX8_tones_L4 at hm
  refine w_iload_n (pc := 4) hX dX8_tones_4 rfl rfl ?_
  refine w_aload_n (pc := 5) hX dX8_tones_5 rfl rfl ?_
  obtain ⟨r3, hr3, hm⟩ := bnd hm
  refine w_callpi (pc := 6) hX [0, 1, 2, 3, 4, 5, 6, 7, 8, 9, 10, 11, 12] (runV (rest := [.int x1.2]) hX [0, 1, 2, 3, 4, 5, 6, 7, 8, 9, 10, 11, 12] (ctX8_cells G a_t m_s m_begun m_kept m_isKept m_past m_states m_text m_length m_far m_queue m_isOn m_steps m_wayCells m_turns m_visits m_wasSo m_bestAway m_bestMade m_bestFault m_isHere m_place m_reason m_wide m_high r3 hr3) dX8_tones_6 0 gX8_tones_X8_cells rfl hyX8_cells ⟨Nat.le_of_ble_eq_true rfl, Nat.le_of_ble_eq_true rfl⟩ 0 rfl rfl rfl rfl (Nat.le_of_ble_eq_true rfl) ⟨Nat.le_of_ble_eq_true rfl, Nat.le_of_ble_eq_true rfl⟩ rfl rfl) rfl ⟨rfl, rfl⟩ ?_
  refine w_icmp_ge (pc := 9) (tgt := 30) hX dX8_tones_9 (by decide) hm (fun hm => ?_) (fun hm => ?_)
  ·
    refine w_iload_n (pc := 30) hX dX8_tones_30 rfl rfl ?_
    obtain rfl := som hm
    exact w_iret (pc := 31) hX hR dX8_tones_31 ⟨rfl, rfl⟩
  ·
    refine w_iload_n (pc := 12) hX dX8_tones_12 rfl rfl ?_
    refine w_aload_n (pc := 13) hX dX8_tones_13 rfl rfl ?_
    refine gf_X8_s (pc := 14) hX dX8_tones_14 hX8 (List.mem_of_getElem? (i := 1) rfl) 0 rfl rfl ?_
    refine w_bipush (pc := 17) hX dX8_tones_17 bp_6 ?_
    refine w_iload_n (pc := 19) hX dX8_tones_19 rfl rfl ?_
    refine w_iadd (pc := 20) hX dX8_tones_20 ?_
    refine w_iald (pc := 21) hX dX8_tones_21 1 rfl hm (fun hm => ?_)
    refine w_iadd (pc := 22) hX dX8_tones_22 ?_
    refine w_istore_n (pc := 23) hX dX8_tones_23 rfl (Nat.le_of_ble_eq_true rfl) ?_
    refine w_iinc (pc := 24) hX dX8_tones_24 rfl (Nat.le_of_ble_eq_true rfl) ic_1 ?_
    refine w_goto (pc := 27) (tgt := 4) hX dX8_tones_27 (by decide) ?_
    exact w_lvs [true, true, true] (hself2 (x1.1 + (m_s ((6 : Int32) + x1.2).toNatClampNeg), x1.2 + (1 : Int32)) hm)

theorem lX8_count_X8 : ∀ w ∈ wsX80, w ∈ wsX8_count := in_at [46, 47, 48, 49, 50, 51, 52, 53, 54, 55, 56, 57, 58, 59, 60, 61, 62, 63, 64, 65, 66, 67, 68, 69] (by decide +kernel)
set_option maxHeartbeats 4000000 in
set_option maxRecDepth 100000 in
theorem ctX8_count (G : gT) (F : Nat) (a_t : Nat → Nat) (m_s : nF) (m_begun : nF) (m_kept : nF) (m_isKept : Int32) (m_past : nF) (m_states : Int32) (m_text : nF) (m_length : Int32) (m_far : nF) (m_queue : nF) (m_isOn : nF) (m_steps : nF) (m_wayCells : Int32) (m_turns : Int32) (m_visits : nF) (m_wasSo : nF) (m_bestAway : Int32) (m_bestMade : Int32) (m_bestFault : Int32) (m_isHere : nF) (m_place : Int32) (m_reason : Int32) (m_wide : Int32) (m_high : Int32) (g1 : Int32) (o : Int32) (hm : mX8_count F m_s m_isKept m_states m_length g1 = some o) : CT G yX8_count wsX8_count rmX8_count [.ref (a_t 0), .int g1] (wX8 G a_t m_s m_begun m_kept m_isKept m_past m_states m_text m_length m_far m_queue m_isOn m_steps m_wayCells m_turns m_visits m_wasSo m_bestAway m_bestMade m_bestFault m_isHere m_place m_reason m_wide m_high) (fun v w => v = some (.int o) ∧ w = wX8 G a_t m_s m_begun m_kept m_isKept m_past m_states m_text m_length m_far m_queue m_isOn m_steps m_wayCells m_turns m_visits m_wasSo m_bestAway m_bestMade m_bestFault m_isHere m_place m_reason m_wide m_high) := by
  refine CT_of (cc := cX8_count) (maxL := 2) (ret := (some .int)) 0 (by decide +kernel) rfl rfl (cat_ok rfl) (fun X hX hR hN => ?_)
  have hX : Ok G X cX8_count RX8 wsX8_count 2 rmX8_count := hX
  have hX8 : ∀ w ∈ wsX80, w ∈ wsX8_count := lX8_count_X8
  unfold mX8_count at hm
  refine w_iload_n (pc := 0) hX dX8_count_0 rfl rfl ?_
  rcases Decidable.em (g1 = (0 : Int32)) with hc1 | hc1
  ·
    replace hm := ite_t hm hc1
    refine w_tabIn (pc := 1) (tgt := 52) hX dX8_count_1 0 (by rw [hc1]; decide) (by decide) (by decide) rfl (by decide) ?_
    refine w_aload_n (pc := 52) hX dX8_count_52 rfl rfl ?_
    refine gf_X8_s (pc := 53) hX dX8_count_53 hX8 (List.mem_of_getElem? (i := 1) rfl) 0 rfl rfl ?_
    refine w_iload_n (pc := 56) hX dX8_count_56 rfl rfl ?_
    refine w_iald (pc := 57) hX dX8_count_57 1 rfl hm (fun hm => ?_)
    obtain rfl := som hm
    exact w_iret (pc := 58) hX hR dX8_count_58 ⟨rfl, rfl⟩
  ·
    replace hm := ite_f hm hc1
    rcases Decidable.em (g1 = (1 : Int32)) with hc2 | hc2
    ·
      replace hm := ite_t hm hc2
      refine w_tabIn (pc := 1) (tgt := 52) hX dX8_count_1 1 (by rw [hc2]; decide) (by decide) (by decide) rfl (by decide) ?_
      refine w_aload_n (pc := 52) hX dX8_count_52 rfl rfl ?_
      refine gf_X8_s (pc := 53) hX dX8_count_53 hX8 (List.mem_of_getElem? (i := 1) rfl) 0 rfl rfl ?_
      refine w_iload_n (pc := 56) hX dX8_count_56 rfl rfl ?_
      refine w_iald (pc := 57) hX dX8_count_57 1 rfl hm (fun hm => ?_)
      obtain rfl := som hm
      exact w_iret (pc := 58) hX hR dX8_count_58 ⟨rfl, rfl⟩
    ·
      replace hm := ite_f hm hc2
      rcases Decidable.em (g1 = (2 : Int32)) with hc3 | hc3
      ·
        replace hm := ite_t hm hc3
        refine w_tabIn (pc := 1) (tgt := 59) hX dX8_count_1 2 (by rw [hc3]; decide) (by decide) (by decide) rfl (by decide) ?_
        refine w_aload_n (pc := 59) hX dX8_count_59 rfl rfl ?_
        obtain ⟨r4, hr4, hm⟩ := bnd hm
        refine w_callpi (pc := 60) hX [0, 1, 2, 3, 4, 5, 6, 7, 8, 9, 10, 11, 12] (runV (rest := []) hX [0, 1, 2, 3, 4, 5, 6, 7, 8, 9, 10, 11, 12] (ctX8_passages G F a_t m_s m_begun m_kept m_isKept m_past m_states m_text m_length m_far m_queue m_isOn m_steps m_wayCells m_turns m_visits m_wasSo m_bestAway m_bestMade m_bestFault m_isHere m_place m_reason m_wide m_high r4 hr4) dX8_count_60 0 gX8_count_X8_passages rfl hyX8_passages ⟨Nat.le_of_ble_eq_true rfl, Nat.le_of_ble_eq_true rfl⟩ 0 rfl rfl rfl rfl (Nat.le_of_ble_eq_true rfl) ⟨Nat.le_of_ble_eq_true rfl, Nat.le_of_ble_eq_true rfl⟩ rfl rfl) rfl ⟨rfl, rfl⟩ ?_
        obtain rfl := som hm
        exact w_iret (pc := 63) hX hR dX8_count_63 ⟨rfl, rfl⟩
      ·
        replace hm := ite_f hm hc3
        rcases Decidable.em (g1 = (3 : Int32)) with hc5 | hc5
        ·
          replace hm := ite_t hm hc5
          refine w_tabIn (pc := 1) (tgt := 64) hX dX8_count_1 3 (by rw [hc5]; decide) (by decide) (by decide) rfl (by decide) ?_
          refine w_aload_n (pc := 64) hX dX8_count_64 rfl rfl ?_
          obtain ⟨r6, hr6, hm⟩ := bnd hm
          refine w_callpi (pc := 65) hX [0, 1, 2, 3, 4, 5, 6, 7, 8, 9, 10, 11, 12] (runV (rest := []) hX [0, 1, 2, 3, 4, 5, 6, 7, 8, 9, 10, 11, 12] (ctX8_parts G F a_t m_s m_begun m_kept m_isKept m_past m_states m_text m_length m_far m_queue m_isOn m_steps m_wayCells m_turns m_visits m_wasSo m_bestAway m_bestMade m_bestFault m_isHere m_place m_reason m_wide m_high r6 hr6) dX8_count_65 0 gX8_count_X8_parts rfl hyX8_parts ⟨Nat.le_of_ble_eq_true rfl, Nat.le_of_ble_eq_true rfl⟩ 0 rfl rfl rfl rfl (Nat.le_of_ble_eq_true rfl) ⟨Nat.le_of_ble_eq_true rfl, Nat.le_of_ble_eq_true rfl⟩ rfl rfl) rfl ⟨rfl, rfl⟩ ?_
          obtain rfl := som hm
          exact w_iret (pc := 68) hX hR dX8_count_68 ⟨rfl, rfl⟩
        ·
          replace hm := ite_f hm hc5
          rcases Decidable.em (g1 = (4 : Int32)) with hc7 | hc7
          ·
            replace hm := ite_t hm hc7
            refine w_tabIn (pc := 1) (tgt := 69) hX dX8_count_1 4 (by rw [hc7]; decide) (by decide) (by decide) rfl (by decide) ?_
            refine w_aload_n (pc := 69) hX dX8_count_69 rfl rfl ?_
            obtain ⟨r8, hr8, hm⟩ := bnd hm
            refine w_callpi (pc := 70) hX [0, 1, 2, 3, 4, 5, 6, 7, 8, 9, 10, 11, 12] (runV (rest := []) hX [0, 1, 2, 3, 4, 5, 6, 7, 8, 9, 10, 11, 12] (ctX8_isWhole G F a_t m_s m_begun m_kept m_isKept m_past m_states m_text m_length m_far m_queue m_isOn m_steps m_wayCells m_turns m_visits m_wasSo m_bestAway m_bestMade m_bestFault m_isHere m_place m_reason m_wide m_high r8 hr8) dX8_count_70 0 gX8_count_X8_isWhole rfl hyX8_isWhole ⟨Nat.le_of_ble_eq_true rfl, Nat.le_of_ble_eq_true rfl⟩ 0 rfl rfl rfl rfl (Nat.le_of_ble_eq_true rfl) ⟨Nat.le_of_ble_eq_true rfl, Nat.le_of_ble_eq_true rfl⟩ rfl rfl) rfl ⟨rfl, rfl⟩ ?_
            refine w_jn (T := fun x9 : Int32 => WW G X 0 0 (wX8 G a_t m_s m_begun m_kept m_isKept m_past m_states m_text m_length m_far m_queue m_isOn m_steps m_wayCells m_turns m_visits m_wasSo m_bestAway m_bestMade m_bestFault m_isHere m_place m_reason m_wide m_high) [none, none] 81 [.int x9]) hm (fun x9 hm => ?_) (fun j10 hj10 hm => ?_)
            ·
              obtain rfl := som hm
              exact w_iret (pc := 81) hX hR dX8_count_81 ⟨rfl, rfl⟩
            ·
              refine w_if_eq (pc := 73) (tgt := 80) hX dX8_count_73 (by decide) hm (fun hm => ?_) (fun hm => ?_)
              ·
                refine w_iconst (pc := 80) hX dX8_count_80 ic_0 ?_
                exact w_lvs [false, false] (hj10 (0 : Int32) hm)
              ·
                refine w_iconst (pc := 76) hX dX8_count_76 ic_1 ?_
                refine w_goto (pc := 77) (tgt := 81) hX dX8_count_77 (by decide) ?_
                exact w_lvs [false, false] (hj10 (1 : Int32) hm)
          ·
            replace hm := ite_f hm hc7
            rcases Decidable.em (g1 = (5 : Int32)) with hc11 | hc11
            ·
              replace hm := ite_t hm hc11
              refine w_tabIn (pc := 1) (tgt := 82) hX dX8_count_1 5 (by rw [hc11]; decide) (by decide) (by decide) rfl (by decide) ?_
              refine w_aload_n (pc := 82) hX dX8_count_82 rfl rfl ?_
              obtain ⟨r12, hr12, hm⟩ := bnd hm
              refine w_callpi (pc := 83) hX [0, 1, 2, 3, 4, 5, 6, 7, 8, 9, 10, 11, 12] (runV (rest := []) hX [0, 1, 2, 3, 4, 5, 6, 7, 8, 9, 10, 11, 12] (ctX8_ends G F a_t m_s m_begun m_kept m_isKept m_past m_states m_text m_length m_far m_queue m_isOn m_steps m_wayCells m_turns m_visits m_wasSo m_bestAway m_bestMade m_bestFault m_isHere m_place m_reason m_wide m_high r12 hr12) dX8_count_83 0 gX8_count_X8_ends rfl hyX8_ends ⟨Nat.le_of_ble_eq_true rfl, Nat.le_of_ble_eq_true rfl⟩ 0 rfl rfl rfl rfl (Nat.le_of_ble_eq_true rfl) ⟨Nat.le_of_ble_eq_true rfl, Nat.le_of_ble_eq_true rfl⟩ rfl rfl) rfl ⟨rfl, rfl⟩ ?_
              obtain rfl := som hm
              exact w_iret (pc := 86) hX hR dX8_count_86 ⟨rfl, rfl⟩
            ·
              replace hm := ite_f hm hc11
              rcases Decidable.em (g1 = (6 : Int32)) with hc13 | hc13
              ·
                replace hm := ite_t hm hc13
                refine w_tabIn (pc := 1) (tgt := 87) hX dX8_count_1 6 (by rw [hc13]; decide) (by decide) (by decide) rfl (by decide) ?_
                refine w_aload_n (pc := 87) hX dX8_count_87 rfl rfl ?_
                obtain ⟨r14, hr14, hm⟩ := bnd hm
                refine w_callpi (pc := 88) hX [0, 1, 2, 3, 4, 5, 6, 7, 8, 9, 10, 11, 12] (runV (rest := []) hX [0, 1, 2, 3, 4, 5, 6, 7, 8, 9, 10, 11, 12] (ctX8_tones G F a_t m_s m_begun m_kept m_isKept m_past m_states m_text m_length m_far m_queue m_isOn m_steps m_wayCells m_turns m_visits m_wasSo m_bestAway m_bestMade m_bestFault m_isHere m_place m_reason m_wide m_high r14 hr14) dX8_count_88 0 gX8_count_X8_tones rfl hyX8_tones ⟨Nat.le_of_ble_eq_true rfl, Nat.le_of_ble_eq_true rfl⟩ 0 rfl rfl rfl rfl (Nat.le_of_ble_eq_true rfl) ⟨Nat.le_of_ble_eq_true rfl, Nat.le_of_ble_eq_true rfl⟩ rfl rfl) rfl ⟨rfl, rfl⟩ ?_
                obtain rfl := som hm
                exact w_iret (pc := 91) hX hR dX8_count_91 ⟨rfl, rfl⟩
              ·
                replace hm := ite_f hm hc13
                rcases Decidable.em (g1 = (7 : Int32)) with hc15 | hc15
                ·
                  replace hm := ite_t hm hc15
                  refine w_tabIn (pc := 1) (tgt := 92) hX dX8_count_1 7 (by rw [hc15]; decide) (by decide) (by decide) rfl (by decide) ?_
                  refine w_aload_n (pc := 92) hX dX8_count_92 rfl rfl ?_
                  refine gf_X8_states (pc := 93) hX dX8_count_93 hX8 (List.mem_of_getElem? (i := 2) rfl) 0 rfl rfl ?_
                  obtain rfl := som hm
                  exact w_iret (pc := 96) hX hR dX8_count_96 ⟨rfl, rfl⟩
                ·
                  replace hm := ite_f hm hc15
                  rcases Decidable.em (g1 = (8 : Int32)) with hc16 | hc16
                  ·
                    replace hm := ite_t hm hc16
                    refine w_tabIn (pc := 1) (tgt := 97) hX dX8_count_1 8 (by rw [hc16]; decide) (by decide) (by decide) rfl (by decide) ?_
                    refine w_aload_n (pc := 97) hX dX8_count_97 rfl rfl ?_
                    refine gf_X8_length (pc := 98) hX dX8_count_98 hX8 (List.mem_of_getElem? (i := 3) rfl) 0 rfl rfl ?_
                    obtain rfl := som hm
                    exact w_iret (pc := 101) hX hR dX8_count_101 ⟨rfl, rfl⟩
                  ·
                    replace hm := ite_f hm hc16
                    refine w_tabOut (pc := 1) (tgt := 102) hX dX8_count_1 (tsw_out (n := 8) (fun i hi => by rcases (show i = 0 ∨ i = 1 ∨ i = 2 ∨ i = 3 ∨ i = 4 ∨ i = 5 ∨ i = 6 ∨ i = 7 ∨ i = 8 by omega) with rfl | rfl | rfl | rfl | rfl | rfl | rfl | rfl | rfl <;> assumption)) (by decide) ?_
                    refine w_iload_n (pc := 102) hX dX8_count_102 rfl rfl ?_
                    refine w_bipush (pc := 103) hX dX8_count_103 bp_9 ?_
                    refine w_jn (T := fun x17 : Int32 => WW G X 0 0 (wX8 G a_t m_s m_begun m_kept m_isKept m_past m_states m_text m_length m_far m_queue m_isOn m_steps m_wayCells m_turns m_visits m_wasSo m_bestAway m_bestMade m_bestFault m_isHere m_place m_reason m_wide m_high) [none, none] 124 [.int x17]) hm (fun x17 hm => ?_) (fun j18 hj18 hm => ?_)
                    ·
                      obtain rfl := som hm
                      exact w_iret (pc := 124) hX hR dX8_count_124 ⟨rfl, rfl⟩
                    ·
                      refine w_icmp_ne (pc := 105) (tgt := 123) hX dX8_count_105 (by decide) hm (fun hm => ?_) (fun hm => ?_)
                      ·
                        refine w_iconst (pc := 123) hX dX8_count_123 ic_m1 ?_
                        exact w_lvs [false, false] (hj18 (-1 : Int32) hm)
                      ·
                        refine w_aload_n (pc := 108) hX dX8_count_108 rfl rfl ?_
                        refine gf_X8_isKept (pc := 109) hX dX8_count_109 hX8 (List.mem_of_getElem? (i := 4) rfl) 0 rfl rfl ?_
                        refine w_if_eq (pc := 112) (tgt := 119) hX dX8_count_112 (by decide) hm (fun hm => ?_) (fun hm => ?_)
                        ·
                          refine w_iconst (pc := 119) hX dX8_count_119 ic_0 ?_
                          refine w_goto (pc := 120) (tgt := 124) hX dX8_count_120 (by decide) ?_
                          exact w_lvs [false, false] (hj18 (0 : Int32) hm)
                        ·
                          refine w_iconst (pc := 115) hX dX8_count_115 ic_1 ?_
                          refine w_goto (pc := 116) (tgt := 124) hX dX8_count_116 (by decide) ?_
                          exact w_lvs [false, false] (hj18 (1 : Int32) hm)

theorem lX8_way_X8 : ∀ w ∈ wsX80, w ∈ wsX8_way := in_at [33, 34, 35, 36, 37, 38, 39, 40, 41, 42, 43, 44, 45, 46, 47, 48, 49, 50, 51, 52, 53, 54, 55, 56] (by decide +kernel)
set_option maxHeartbeats 4000000 in
set_option maxRecDepth 100000 in
theorem ctX8_way (G : gT) (F : Nat) (a_t : Nat → Nat) (m_s : nF) (m_begun : nF) (m_kept : nF) (m_isKept : Int32) (m_past : nF) (m_states : Int32) (m_text : nF) (m_length : Int32) (m_far : nF) (m_queue : nF) (m_isOn : nF) (m_steps : nF) (m_wayCells : Int32) (m_turns : Int32) (m_visits : nF) (m_wasSo : nF) (m_bestAway : Int32) (m_bestMade : Int32) (m_bestFault : Int32) (m_isHere : nF) (m_place : Int32) (m_reason : Int32) (m_wide : Int32) (m_high : Int32) (g1 : Int32) (o : (Int32 × nF × nF × nF × nF × Int32 × Int32)) (hm : mX8_way F m_s m_far m_queue m_isOn m_steps m_wayCells m_turns g1 = some o) : CT G yX8_way wsX8_way rmX8_way [.ref (a_t 0), .int g1] (wX8 G a_t m_s m_begun m_kept m_isKept m_past m_states m_text m_length m_far m_queue m_isOn m_steps m_wayCells m_turns m_visits m_wasSo m_bestAway m_bestMade m_bestFault m_isHere m_place m_reason m_wide m_high) (fun v w => v = some (.int o.1) ∧ w = wX8 G a_t m_s m_begun m_kept m_isKept m_past m_states m_text m_length o.2.1 o.2.2.1 o.2.2.2.1 o.2.2.2.2.1 o.2.2.2.2.2.1 o.2.2.2.2.2.2 m_visits m_wasSo m_bestAway m_bestMade m_bestFault m_isHere m_place m_reason m_wide m_high) := by
  refine CT_of (cc := cX8_way) (maxL := 3) (ret := (some .int)) 1 (by decide +kernel) rfl rfl (cat_ok rfl) (fun X hX hR hN => ?_)
  have hX : Ok G X cX8_way RX8 wsX8_way 3 rmX8_way := hX
  have hX8 : ∀ w ∈ wsX80, w ∈ wsX8_way := lX8_way_X8
  unfold mX8_way at hm
  refine w_iload_n (pc := 0) hX dX8_way_0 rfl rfl ?_
  refine w_if_ge (pc := 1) (tgt := 6) hX dX8_way_1 (by decide) hm (fun hm => ?_) (fun hm => ?_)
  ·
    refine w_aload_n (pc := 6) hX dX8_way_6 rfl rfl ?_
    refine w_aload_n (pc := 7) hX dX8_way_7 rfl rfl ?_
    refine gf_X8_s (pc := 8) hX dX8_way_8 hX8 (List.mem_of_getElem? (i := 1) rfl) 0 rfl rfl ?_
    refine w_iconst (pc := 11) hX dX8_way_11 ic_4 ?_
    refine w_iald (pc := 12) hX dX8_way_12 1 rfl hm (fun hm => ?_)
    obtain ⟨r1, hr1, hm⟩ := bnd hm
    refine w_calldi (pc := 13) (ws' := wX8 G a_t m_s m_begun m_kept m_isKept m_past m_states m_text m_length r1.2.1 r1.2.2.1 r1.2.2.2.1 r1.2.2.2.2.1 r1.2.2.2.2.2.1 r1.2.2.2.2.2.2 m_visits m_wasSo m_bestAway m_bestMade m_bestFault m_isHere m_place m_reason m_wide m_high) hX [0, 1, 2, 3, 4, 5, 6, 7, 8, 9, 10, 11, 12] (runV (rest := []) hX [0, 1, 2, 3, 4, 5, 6, 7, 8, 9, 10, 11, 12] (ctX8_findsWay G F a_t m_s m_begun m_kept m_isKept m_past m_states m_text m_length m_far m_queue m_isOn m_steps m_wayCells m_turns m_visits m_wasSo m_bestAway m_bestMade m_bestFault m_isHere m_place m_reason m_wide m_high (m_s (4 : Int32).toNatClampNeg) r1 hr1) dX8_way_13 1 gX8_way_X8_findsWay rfl hyX8_findsWay ⟨Nat.le_of_ble_eq_true rfl, Nat.le_of_ble_eq_true rfl⟩ 0 rfl rfl rfl rfl (Nat.le_of_ble_eq_true rfl) ⟨Nat.le_of_ble_eq_true rfl, Nat.le_of_ble_eq_true rfl⟩ rfl rfl) rfl rfl rfl ⟨rfl, rfl⟩ ?_
    refine w_istore_n (pc := 16) hX dX8_way_16 rfl (Nat.le_of_ble_eq_true rfl) ?_
    refine w_iload_n (pc := 17) hX dX8_way_17 rfl rfl ?_
    refine w_jn (T := fun x2 : Int32 => WW G X 0 0 (wX8 G a_t m_s m_begun m_kept m_isKept m_past m_states m_text m_length r1.2.1 r1.2.2.1 r1.2.2.2.1 r1.2.2.2.2.1 r1.2.2.2.2.2.1 r1.2.2.2.2.2.2 m_visits m_wasSo m_bestAway m_bestMade m_bestFault m_isHere m_place m_reason m_wide m_high) [none, none, none] 40 [.int x2]) hm (fun x2 hm => ?_) (fun j3 hj3 hm => ?_)
    ·
      obtain rfl := som hm
      exact w_iret (pc := 40) hX hR dX8_way_40 ⟨rfl, rfl⟩
    ·
      refine w_jn (T := fun x4 : Unit => WW G X 0 0 (wX8 G a_t m_s m_begun m_kept m_isKept m_past m_states m_text m_length r1.2.1 r1.2.2.1 r1.2.2.2.1 r1.2.2.2.2.1 r1.2.2.2.2.2.1 r1.2.2.2.2.2.2 m_visits m_wasSo m_bestAway m_bestMade m_bestFault m_isHere m_place m_reason m_wide m_high) [none, none, none] 38 []) hm (fun x4 hm => ?_) (fun j5 hj5 hm => ?_)
      ·
        refine w_bipush (pc := 38) hX dX8_way_38 bp_m4 ?_
        exact w_lvs [false, false, false] (hj3 (-4 : Int32) hm)
      ·
        refine w_if_eq (pc := 18) (tgt := 38) hX dX8_way_18 (by decide) hm (fun hm => ?_) (fun hm => ?_)
        ·
          exact w_lvs [false, false, false] (hj5 () hm)
        ·
          refine w_iload_n (pc := 21) hX dX8_way_21 rfl rfl ?_
          refine w_aload_n (pc := 22) hX dX8_way_22 rfl rfl ?_
          refine gf_X8_wayCells (pc := 23) hX dX8_way_23 hX8 (List.mem_of_getElem? (i := 2) rfl) 0 rfl rfl ?_
          refine w_icmp_ge (pc := 26) (tgt := 38) hX dX8_way_26 (by decide) hm (fun hm => ?_) (fun hm => ?_)
          ·
            exact w_lvs [false, false, false] (hj5 () hm)
          ·
            refine w_aload_n (pc := 29) hX dX8_way_29 rfl rfl ?_
            refine gf_X8_steps (pc := 30) hX dX8_way_30 hX8 (List.mem_of_getElem? (i := 3) rfl) 0 rfl rfl ?_
            refine w_iload_n (pc := 33) hX dX8_way_33 rfl rfl ?_
            refine w_iald (pc := 34) hX dX8_way_34 9 rfl hm (fun hm => ?_)
            refine w_goto (pc := 35) (tgt := 40) hX dX8_way_35 (by decide) ?_
            exact w_lvs [false, false, false] (hj3 (r1.2.2.2.2.1 g1.toNatClampNeg) hm)
  ·
    refine w_iconst (pc := 4) hX dX8_way_4 ic_m1 ?_
    obtain rfl := som hm
    exact w_iret (pc := 5) hX hR dX8_way_5 ⟨rfl, rfl⟩

theorem lX8_drawn_X8 : ∀ w ∈ wsX80, w ∈ wsX8_drawn := in_at [55, 56, 57, 58, 59, 60, 61, 62, 63, 64, 65, 66, 67, 68, 69, 70, 71, 72, 73, 74, 75, 76, 77, 78] (by decide +kernel)
set_option maxHeartbeats 4000000 in
set_option maxRecDepth 100000 in
theorem ctX8_drawn (G : gT) (F : Nat) (a_t : Nat → Nat) (m_s : nF) (m_begun : nF) (m_kept : nF) (m_isKept : Int32) (m_past : nF) (m_states : Int32) (m_text : nF) (m_length : Int32) (m_far : nF) (m_queue : nF) (m_isOn : nF) (m_steps : nF) (m_wayCells : Int32) (m_turns : Int32) (m_visits : nF) (m_wasSo : nF) (m_bestAway : Int32) (m_bestMade : Int32) (m_bestFault : Int32) (m_isHere : nF) (m_place : Int32) (m_reason : Int32) (m_wide : Int32) (m_high : Int32) (g1 : Int32) (o : (Int32 × nF × nF × nF × nF × Int32 × Int32 × nF × nF)) (hm : mX8_drawn F m_s m_far m_queue m_isOn m_steps m_wayCells m_turns m_visits m_wasSo g1 = some o) : CT G yX8_drawn wsX8_drawn rmX8_drawn [.ref (a_t 0), .int g1] (wX8 G a_t m_s m_begun m_kept m_isKept m_past m_states m_text m_length m_far m_queue m_isOn m_steps m_wayCells m_turns m_visits m_wasSo m_bestAway m_bestMade m_bestFault m_isHere m_place m_reason m_wide m_high) (fun v w => v = some (.int o.1) ∧ w = wX8 G a_t m_s m_begun m_kept m_isKept m_past m_states m_text m_length o.2.1 o.2.2.1 o.2.2.2.1 o.2.2.2.2.1 o.2.2.2.2.2.1 o.2.2.2.2.2.2.1 o.2.2.2.2.2.2.2.1 o.2.2.2.2.2.2.2.2 m_bestAway m_bestMade m_bestFault m_isHere m_place m_reason m_wide m_high) := by
  refine CT_of (cc := cX8_drawn) (maxL := 2) (ret := (some .int)) 0 (by decide +kernel) rfl rfl (cat_ok rfl) (fun X hX hR hN => ?_)
  have hX : Ok G X cX8_drawn RX8 wsX8_drawn 2 rmX8_drawn := hX
  have hX8 : ∀ w ∈ wsX80, w ∈ wsX8_drawn := lX8_drawn_X8
  unfold mX8_drawn at hm
  refine w_iload_n (pc := 0) hX dX8_drawn_0 rfl rfl ?_
  rcases Decidable.em (g1 = (0 : Int32)) with hc1 | hc1
  ·
    replace hm := ite_t hm hc1
    refine w_tabIn (pc := 1) (tgt := 36) hX dX8_drawn_1 0 (by rw [hc1]; decide) (by decide) (by decide) rfl (by decide) ?_
    refine w_aload_n (pc := 36) hX dX8_drawn_36 rfl rfl ?_
    refine w_aload_n (pc := 37) hX dX8_drawn_37 rfl rfl ?_
    refine gf_X8_s (pc := 38) hX dX8_drawn_38 hX8 (List.mem_of_getElem? (i := 1) rfl) 0 rfl rfl ?_
    refine w_iconst (pc := 41) hX dX8_drawn_41 ic_4 ?_
    refine w_iald (pc := 42) hX dX8_drawn_42 1 rfl hm (fun hm => ?_)
    obtain ⟨r2, hr2, hm⟩ := bnd hm
    refine w_calldi (pc := 43) (ws' := wX8 G a_t m_s m_begun m_kept m_isKept m_past m_states m_text m_length r2.2.1 r2.2.2.1 r2.2.2.2.1 r2.2.2.2.2.1 r2.2.2.2.2.2.1 r2.2.2.2.2.2.2 m_visits m_wasSo m_bestAway m_bestMade m_bestFault m_isHere m_place m_reason m_wide m_high) hX [0, 1, 2, 3, 4, 5, 6, 7, 8, 9, 10, 11, 12] (runV (rest := []) hX [0, 1, 2, 3, 4, 5, 6, 7, 8, 9, 10, 11, 12] (ctX8_findsWay G F a_t m_s m_begun m_kept m_isKept m_past m_states m_text m_length m_far m_queue m_isOn m_steps m_wayCells m_turns m_visits m_wasSo m_bestAway m_bestMade m_bestFault m_isHere m_place m_reason m_wide m_high (m_s (4 : Int32).toNatClampNeg) r2 hr2) dX8_drawn_43 1 gX8_drawn_X8_findsWay rfl hyX8_findsWay ⟨Nat.le_of_ble_eq_true rfl, Nat.le_of_ble_eq_true rfl⟩ 0 rfl rfl rfl rfl (Nat.le_of_ble_eq_true rfl) ⟨Nat.le_of_ble_eq_true rfl, Nat.le_of_ble_eq_true rfl⟩ rfl rfl) rfl rfl rfl ⟨rfl, rfl⟩ ?_
    refine w_jn (T := fun x3 : Int32 => WW G X 0 0 (wX8 G a_t m_s m_begun m_kept m_isKept m_past m_states m_text m_length r2.2.1 r2.2.2.1 r2.2.2.2.1 r2.2.2.2.2.1 r2.2.2.2.2.2.1 r2.2.2.2.2.2.2 m_visits m_wasSo m_bestAway m_bestMade m_bestFault m_isHere m_place m_reason m_wide m_high) [none, none] 58 [.int x3]) hm (fun x3 hm => ?_) (fun j4 hj4 hm => ?_)
    ·
      obtain rfl := som hm
      exact w_iret (pc := 58) hX hR dX8_drawn_58 ⟨rfl, rfl⟩
    ·
      refine w_if_eq (pc := 46) (tgt := 56) hX dX8_drawn_46 (by decide) hm (fun hm => ?_) (fun hm => ?_)
      ·
        refine w_bipush (pc := 56) hX dX8_drawn_56 bp_m4 ?_
        exact w_lvs [false, false] (hj4 (-4 : Int32) hm)
      ·
        refine w_aload_n (pc := 49) hX dX8_drawn_49 rfl rfl ?_
        refine gf_X8_wayCells (pc := 50) hX dX8_drawn_50 hX8 (List.mem_of_getElem? (i := 2) rfl) 0 rfl rfl ?_
        refine w_goto (pc := 53) (tgt := 58) hX dX8_drawn_53 (by decide) ?_
        exact w_lvs [false, false] (hj4 r2.2.2.2.2.2.1 hm)
  ·
    replace hm := ite_f hm hc1
    rcases Decidable.em (g1 = (1 : Int32)) with hc5 | hc5
    ·
      replace hm := ite_t hm hc5
      refine w_tabIn (pc := 1) (tgt := 59) hX dX8_drawn_1 1 (by rw [hc5]; decide) (by decide) (by decide) rfl (by decide) ?_
      refine w_aload_n (pc := 59) hX dX8_drawn_59 rfl rfl ?_
      obtain ⟨r6, hr6, hm⟩ := bnd hm
      refine w_calldi (pc := 60) (ws' := wX8 G a_t m_s m_begun m_kept m_isKept m_past m_states m_text m_length r6.2.1 r6.2.2.1 r6.2.2.2.1 r6.2.2.2.2.1 r6.2.2.2.2.2.1 r6.2.2.2.2.2.2 m_visits m_wasSo m_bestAway m_bestMade m_bestFault m_isHere m_place m_reason m_wide m_high) hX [0, 1, 2, 3, 4, 5, 6, 7, 8, 9, 10, 11, 12] (runV (rest := []) hX [0, 1, 2, 3, 4, 5, 6, 7, 8, 9, 10, 11, 12] (ctX8_wayFault G F a_t m_s m_begun m_kept m_isKept m_past m_states m_text m_length m_far m_queue m_isOn m_steps m_wayCells m_turns m_visits m_wasSo m_bestAway m_bestMade m_bestFault m_isHere m_place m_reason m_wide m_high r6 hr6) dX8_drawn_60 0 gX8_drawn_X8_wayFault rfl hyX8_wayFault ⟨Nat.le_of_ble_eq_true rfl, Nat.le_of_ble_eq_true rfl⟩ 0 rfl rfl rfl rfl (Nat.le_of_ble_eq_true rfl) ⟨Nat.le_of_ble_eq_true rfl, Nat.le_of_ble_eq_true rfl⟩ rfl rfl) rfl rfl rfl ⟨rfl, rfl⟩ ?_
      obtain rfl := som hm
      exact w_iret (pc := 63) hX hR dX8_drawn_63 ⟨rfl, rfl⟩
    ·
      replace hm := ite_f hm hc5
      rcases Decidable.em (g1 = (2 : Int32)) with hc7 | hc7
      ·
        replace hm := ite_t hm hc7
        refine w_tabIn (pc := 1) (tgt := 64) hX dX8_drawn_1 2 (by rw [hc7]; decide) (by decide) (by decide) rfl (by decide) ?_
        refine w_aload_n (pc := 64) hX dX8_drawn_64 rfl rfl ?_
        obtain ⟨r8, hr8, hm⟩ := bnd hm
        refine w_calldi (pc := 65) (ws' := wX8 G a_t m_s m_begun m_kept m_isKept m_past m_states m_text m_length m_far m_queue m_isOn m_steps m_wayCells m_turns r8.2.1 r8.2.2 m_bestAway m_bestMade m_bestFault m_isHere m_place m_reason m_wide m_high) hX [0, 1, 2, 3, 4, 5, 6, 7, 8, 9, 10, 11, 12] (runV (rest := []) hX [0, 1, 2, 3, 4, 5, 6, 7, 8, 9, 10, 11, 12] (ctX8_walks G F a_t m_s m_begun m_kept m_isKept m_past m_states m_text m_length m_far m_queue m_isOn m_steps m_wayCells m_turns m_visits m_wasSo m_bestAway m_bestMade m_bestFault m_isHere m_place m_reason m_wide m_high r8 hr8) dX8_drawn_65 0 gX8_drawn_X8_walks rfl hyX8_walks ⟨Nat.le_of_ble_eq_true rfl, Nat.le_of_ble_eq_true rfl⟩ 0 rfl rfl rfl rfl (Nat.le_of_ble_eq_true rfl) ⟨Nat.le_of_ble_eq_true rfl, Nat.le_of_ble_eq_true rfl⟩ rfl rfl) rfl rfl rfl ⟨rfl, rfl⟩ ?_
        refine w_jn (T := fun x9 : Int32 => WW G X 0 0 (wX8 G a_t m_s m_begun m_kept m_isKept m_past m_states m_text m_length m_far m_queue m_isOn m_steps m_wayCells m_turns r8.2.1 r8.2.2 m_bestAway m_bestMade m_bestFault m_isHere m_place m_reason m_wide m_high) [none, none] 80 [.int x9]) hm (fun x9 hm => ?_) (fun j10 hj10 hm => ?_)
        ·
          obtain rfl := som hm
          exact w_iret (pc := 80) hX hR dX8_drawn_80 ⟨rfl, rfl⟩
        ·
          refine w_if_eq (pc := 68) (tgt := 78) hX dX8_drawn_68 (by decide) hm (fun hm => ?_) (fun hm => ?_)
          ·
            refine w_bipush (pc := 78) hX dX8_drawn_78 bp_m4 ?_
            exact w_lvs [false, false] (hj10 (-4 : Int32) hm)
          ·
            refine w_aload_n (pc := 71) hX dX8_drawn_71 rfl rfl ?_
            obtain ⟨r11, hr11, hm⟩ := bnd hm
            refine w_callpi (pc := 72) hX [0, 1, 2, 3, 4, 5, 6, 7, 8, 9, 10, 11, 12] (runV (rest := []) hX [0, 1, 2, 3, 4, 5, 6, 7, 8, 9, 10, 11, 12] (ctX8_walkCells G F a_t m_s m_begun m_kept m_isKept m_past m_states m_text m_length m_far m_queue m_isOn m_steps m_wayCells m_turns r8.2.1 r8.2.2 m_bestAway m_bestMade m_bestFault m_isHere m_place m_reason m_wide m_high r11 hr11) dX8_drawn_72 0 gX8_drawn_X8_walkCells rfl hyX8_walkCells ⟨Nat.le_of_ble_eq_true rfl, Nat.le_of_ble_eq_true rfl⟩ 0 rfl rfl rfl rfl (Nat.le_of_ble_eq_true rfl) ⟨Nat.le_of_ble_eq_true rfl, Nat.le_of_ble_eq_true rfl⟩ rfl rfl) rfl ⟨rfl, rfl⟩ ?_
            refine w_goto (pc := 75) (tgt := 80) hX dX8_drawn_75 (by decide) ?_
            exact w_lvs [false, false] (hj10 r11 hm)
      ·
        replace hm := ite_f hm hc7
        rcases Decidable.em (g1 = (3 : Int32)) with hc12 | hc12
        ·
          replace hm := ite_t hm hc12
          refine w_tabIn (pc := 1) (tgt := 81) hX dX8_drawn_1 3 (by rw [hc12]; decide) (by decide) (by decide) rfl (by decide) ?_
          refine w_aload_n (pc := 81) hX dX8_drawn_81 rfl rfl ?_
          obtain ⟨r13, hr13, hm⟩ := bnd hm
          refine w_calldi (pc := 82) (ws' := wX8 G a_t m_s m_begun m_kept m_isKept m_past m_states m_text m_length m_far m_queue m_isOn m_steps m_wayCells m_turns r13.2.1 r13.2.2 m_bestAway m_bestMade m_bestFault m_isHere m_place m_reason m_wide m_high) hX [0, 1, 2, 3, 4, 5, 6, 7, 8, 9, 10, 11, 12] (runV (rest := []) hX [0, 1, 2, 3, 4, 5, 6, 7, 8, 9, 10, 11, 12] (ctX8_walks G F a_t m_s m_begun m_kept m_isKept m_past m_states m_text m_length m_far m_queue m_isOn m_steps m_wayCells m_turns m_visits m_wasSo m_bestAway m_bestMade m_bestFault m_isHere m_place m_reason m_wide m_high r13 hr13) dX8_drawn_82 0 gX8_drawn_X8_walks rfl hyX8_walks ⟨Nat.le_of_ble_eq_true rfl, Nat.le_of_ble_eq_true rfl⟩ 0 rfl rfl rfl rfl (Nat.le_of_ble_eq_true rfl) ⟨Nat.le_of_ble_eq_true rfl, Nat.le_of_ble_eq_true rfl⟩ rfl rfl) rfl rfl rfl ⟨rfl, rfl⟩ ?_
          refine w_jn (T := fun x14 : Int32 => WW G X 0 0 (wX8 G a_t m_s m_begun m_kept m_isKept m_past m_states m_text m_length m_far m_queue m_isOn m_steps m_wayCells m_turns r13.2.1 r13.2.2 m_bestAway m_bestMade m_bestFault m_isHere m_place m_reason m_wide m_high) [none, none] 97 [.int x14]) hm (fun x14 hm => ?_) (fun j15 hj15 hm => ?_)
          ·
            obtain rfl := som hm
            exact w_iret (pc := 97) hX hR dX8_drawn_97 ⟨rfl, rfl⟩
          ·
            refine w_if_eq (pc := 85) (tgt := 95) hX dX8_drawn_85 (by decide) hm (fun hm => ?_) (fun hm => ?_)
            ·
              refine w_bipush (pc := 95) hX dX8_drawn_95 bp_m4 ?_
              exact w_lvs [false, false] (hj15 (-4 : Int32) hm)
            ·
              refine w_aload_n (pc := 88) hX dX8_drawn_88 rfl rfl ?_
              obtain ⟨r16, hr16, hm⟩ := bnd hm
              refine w_callpi (pc := 89) hX [0, 1, 2, 3, 4, 5, 6, 7, 8, 9, 10, 11, 12] (runV (rest := []) hX [0, 1, 2, 3, 4, 5, 6, 7, 8, 9, 10, 11, 12] (ctX8_walkFault G F a_t m_s m_begun m_kept m_isKept m_past m_states m_text m_length m_far m_queue m_isOn m_steps m_wayCells m_turns r13.2.1 r13.2.2 m_bestAway m_bestMade m_bestFault m_isHere m_place m_reason m_wide m_high r16 hr16) dX8_drawn_89 0 gX8_drawn_X8_walkFault rfl hyX8_walkFault ⟨Nat.le_of_ble_eq_true rfl, Nat.le_of_ble_eq_true rfl⟩ 0 rfl rfl rfl rfl (Nat.le_of_ble_eq_true rfl) ⟨Nat.le_of_ble_eq_true rfl, Nat.le_of_ble_eq_true rfl⟩ rfl rfl) rfl ⟨rfl, rfl⟩ ?_
              refine w_goto (pc := 92) (tgt := 97) hX dX8_drawn_92 (by decide) ?_
              exact w_lvs [false, false] (hj15 r16 hm)
        ·
          replace hm := ite_f hm hc12
          rcases Decidable.em (g1 = (4 : Int32)) with hc17 | hc17
          ·
            replace hm := ite_t hm hc17
            refine w_tabIn (pc := 1) (tgt := 98) hX dX8_drawn_1 4 (by rw [hc17]; decide) (by decide) (by decide) rfl (by decide) ?_
            refine w_aload_n (pc := 98) hX dX8_drawn_98 rfl rfl ?_
            refine w_aload_n (pc := 99) hX dX8_drawn_99 rfl rfl ?_
            refine gf_X8_s (pc := 100) hX dX8_drawn_100 hX8 (List.mem_of_getElem? (i := 1) rfl) 0 rfl rfl ?_
            refine w_iconst (pc := 103) hX dX8_drawn_103 ic_4 ?_
            refine w_iald (pc := 104) hX dX8_drawn_104 1 rfl hm (fun hm => ?_)
            obtain ⟨r18, hr18, hm⟩ := bnd hm
            refine w_calldi (pc := 105) (ws' := wX8 G a_t m_s m_begun m_kept m_isKept m_past m_states m_text m_length r18.2.1 r18.2.2.1 r18.2.2.2.1 r18.2.2.2.2.1 r18.2.2.2.2.2.1 r18.2.2.2.2.2.2 m_visits m_wasSo m_bestAway m_bestMade m_bestFault m_isHere m_place m_reason m_wide m_high) hX [0, 1, 2, 3, 4, 5, 6, 7, 8, 9, 10, 11, 12] (runV (rest := []) hX [0, 1, 2, 3, 4, 5, 6, 7, 8, 9, 10, 11, 12] (ctX8_findsWay G F a_t m_s m_begun m_kept m_isKept m_past m_states m_text m_length m_far m_queue m_isOn m_steps m_wayCells m_turns m_visits m_wasSo m_bestAway m_bestMade m_bestFault m_isHere m_place m_reason m_wide m_high (m_s (4 : Int32).toNatClampNeg) r18 hr18) dX8_drawn_105 1 gX8_drawn_X8_findsWay rfl hyX8_findsWay ⟨Nat.le_of_ble_eq_true rfl, Nat.le_of_ble_eq_true rfl⟩ 0 rfl rfl rfl rfl (Nat.le_of_ble_eq_true rfl) ⟨Nat.le_of_ble_eq_true rfl, Nat.le_of_ble_eq_true rfl⟩ rfl rfl) rfl rfl rfl ⟨rfl, rfl⟩ ?_
            refine w_jn (T := fun x19 : Int32 => WW G X 0 0 (wX8 G a_t m_s m_begun m_kept m_isKept m_past m_states m_text m_length r18.2.1 r18.2.2.1 r18.2.2.2.1 r18.2.2.2.2.1 r18.2.2.2.2.2.1 r18.2.2.2.2.2.2 m_visits m_wasSo m_bestAway m_bestMade m_bestFault m_isHere m_place m_reason m_wide m_high) [none, none] 120 [.int x19]) hm (fun x19 hm => ?_) (fun j20 hj20 hm => ?_)
            ·
              obtain rfl := som hm
              exact w_iret (pc := 120) hX hR dX8_drawn_120 ⟨rfl, rfl⟩
            ·
              refine w_if_eq (pc := 108) (tgt := 118) hX dX8_drawn_108 (by decide) hm (fun hm => ?_) (fun hm => ?_)
              ·
                refine w_bipush (pc := 118) hX dX8_drawn_118 bp_m4 ?_
                exact w_lvs [false, false] (hj20 (-4 : Int32) hm)
              ·
                refine w_aload_n (pc := 111) hX dX8_drawn_111 rfl rfl ?_
                refine gf_X8_turns (pc := 112) hX dX8_drawn_112 hX8 (List.mem_of_getElem? (i := 3) rfl) 0 rfl rfl ?_
                refine w_goto (pc := 115) (tgt := 120) hX dX8_drawn_115 (by decide) ?_
                exact w_lvs [false, false] (hj20 r18.2.2.2.2.2.2 hm)
          ·
            replace hm := ite_f hm hc17
            refine w_tabOut (pc := 1) (tgt := 121) hX dX8_drawn_1 (tsw_out (n := 4) (fun i hi => by rcases (show i = 0 ∨ i = 1 ∨ i = 2 ∨ i = 3 ∨ i = 4 by omega) with rfl | rfl | rfl | rfl | rfl <;> assumption)) (by decide) ?_
            refine w_iconst (pc := 121) hX dX8_drawn_121 ic_m1 ?_
            obtain rfl := som hm
            exact w_iret (pc := 122) hX hR dX8_drawn_122 ⟨rfl, rfl⟩

theorem lX8_between_X8 : ∀ w ∈ wsX80, w ∈ wsX8_between := in_at [35, 36, 37, 38, 39, 40, 41, 42, 43, 44, 45, 46, 47, 48, 49, 50, 51, 52, 53, 54, 55, 56, 57, 58] (by decide +kernel)
set_option maxHeartbeats 4000000 in
set_option maxRecDepth 100000 in
theorem ctX8_between (G : gT) (F : Nat) (a_t : Nat → Nat) (m_s : nF) (m_begun : nF) (m_kept : nF) (m_isKept : Int32) (m_past : nF) (m_states : Int32) (m_text : nF) (m_length : Int32) (m_far : nF) (m_queue : nF) (m_isOn : nF) (m_steps : nF) (m_wayCells : Int32) (m_turns : Int32) (m_visits : nF) (m_wasSo : nF) (m_bestAway : Int32) (m_bestMade : Int32) (m_bestFault : Int32) (m_isHere : nF) (m_place : Int32) (m_reason : Int32) (m_wide : Int32) (m_high : Int32) (g1 : Int32) (g2 : Int32) (o : (Int32 × nF × nF)) (hm : mX8_between F m_s m_far m_queue g1 g2 = some o) : CT G yX8_between wsX8_between rmX8_between [.ref (a_t 0), .int g1, .int g2] (wX8 G a_t m_s m_begun m_kept m_isKept m_past m_states m_text m_length m_far m_queue m_isOn m_steps m_wayCells m_turns m_visits m_wasSo m_bestAway m_bestMade m_bestFault m_isHere m_place m_reason m_wide m_high) (fun v w => v = some (.int o.1) ∧ w = wX8 G a_t m_s m_begun m_kept m_isKept m_past m_states m_text m_length o.2.1 o.2.2 m_isOn m_steps m_wayCells m_turns m_visits m_wasSo m_bestAway m_bestMade m_bestFault m_isHere m_place m_reason m_wide m_high) := by
  refine CT_of (cc := cX8_between) (maxL := 3) (ret := (some .int)) 0 (by decide +kernel) rfl rfl (cat_ok rfl) (fun X hX hR hN => ?_)
  have hX : Ok G X cX8_between RX8 wsX8_between 3 rmX8_between := hX
  have hX8 : ∀ w ∈ wsX80, w ∈ wsX8_between := lX8_between_X8
  unfold mX8_between at hm
  refine w_aload_n (pc := 0) hX dX8_between_0 rfl rfl ?_
  refine w_iload_n (pc := 1) hX dX8_between_1 rfl rfl ?_
  obtain ⟨r1, hr1, hm⟩ := bnd hm
  refine w_callpi (pc := 2) hX [0, 1, 2, 3, 4, 5, 6, 7, 8, 9, 10, 11, 12] (runV (rest := []) hX [0, 1, 2, 3, 4, 5, 6, 7, 8, 9, 10, 11, 12] (ctX8_isCell G a_t m_s m_begun m_kept m_isKept m_past m_states m_text m_length m_far m_queue m_isOn m_steps m_wayCells m_turns m_visits m_wasSo m_bestAway m_bestMade m_bestFault m_isHere m_place m_reason m_wide m_high g1 r1 hr1) dX8_between_2 1 gX8_between_X8_isCell rfl hyX8_isCell ⟨Nat.le_of_ble_eq_true rfl, Nat.le_of_ble_eq_true rfl⟩ 0 rfl rfl rfl rfl (Nat.le_of_ble_eq_true rfl) ⟨Nat.le_of_ble_eq_true rfl, Nat.le_of_ble_eq_true rfl⟩ rfl rfl) rfl ⟨rfl, rfl⟩ ?_
  refine w_jn (T := fun x2 : Unit => WW G X 0 0 (wX8 G a_t m_s m_begun m_kept m_isKept m_past m_states m_text m_length m_far m_queue m_isOn m_steps m_wayCells m_turns m_visits m_wasSo m_bestAway m_bestMade m_bestFault m_isHere m_place m_reason m_wide m_high) [none, none, none] 16 []) hm (fun x2 hm => ?_) (fun j3 hj3 hm => ?_)
  ·
    refine w_iconst (pc := 16) hX dX8_between_16 ic_m1 ?_
    obtain rfl := som hm
    exact w_iret (pc := 17) hX hR dX8_between_17 ⟨rfl, rfl⟩
  ·
    refine w_if_eq (pc := 5) (tgt := 16) hX dX8_between_5 (by decide) hm (fun hm => ?_) (fun hm => ?_)
    ·
      exact w_lvs [false, false, false] (hj3 () hm)
    ·
      refine w_aload_n (pc := 8) hX dX8_between_8 rfl rfl ?_
      refine w_iload_n (pc := 9) hX dX8_between_9 rfl rfl ?_
      obtain ⟨r4, hr4, hm⟩ := bnd hm
      refine w_callpi (pc := 10) hX [0, 1, 2, 3, 4, 5, 6, 7, 8, 9, 10, 11, 12] (runV (rest := []) hX [0, 1, 2, 3, 4, 5, 6, 7, 8, 9, 10, 11, 12] (ctX8_isCell G a_t m_s m_begun m_kept m_isKept m_past m_states m_text m_length m_far m_queue m_isOn m_steps m_wayCells m_turns m_visits m_wasSo m_bestAway m_bestMade m_bestFault m_isHere m_place m_reason m_wide m_high g2 r4 hr4) dX8_between_10 1 gX8_between_X8_isCell rfl hyX8_isCell ⟨Nat.le_of_ble_eq_true rfl, Nat.le_of_ble_eq_true rfl⟩ 0 rfl rfl rfl rfl (Nat.le_of_ble_eq_true rfl) ⟨Nat.le_of_ble_eq_true rfl, Nat.le_of_ble_eq_true rfl⟩ rfl rfl) rfl ⟨rfl, rfl⟩ ?_
      refine w_if_ne (pc := 13) (tgt := 18) hX dX8_between_13 (by decide) hm (fun hm => ?_) (fun hm => ?_)
      ·
        refine w_aload_n (pc := 18) hX dX8_between_18 rfl rfl ?_
        refine w_iload_n (pc := 19) hX dX8_between_19 rfl rfl ?_
        obtain ⟨r5, hr5, hm⟩ := bnd hm
        refine w_calldv (pc := 20) (ws' := wX8 G a_t m_s m_begun m_kept m_isKept m_past m_states m_text m_length r5.1 r5.2 m_isOn m_steps m_wayCells m_turns m_visits m_wasSo m_bestAway m_bestMade m_bestFault m_isHere m_place m_reason m_wide m_high) hX [0, 1, 2, 3, 4, 5, 6, 7, 8, 9, 10, 11, 12] (runV (rest := []) hX [0, 1, 2, 3, 4, 5, 6, 7, 8, 9, 10, 11, 12] (ctX8_measures G F a_t m_s m_begun m_kept m_isKept m_past m_states m_text m_length m_far m_queue m_isOn m_steps m_wayCells m_turns m_visits m_wasSo m_bestAway m_bestMade m_bestFault m_isHere m_place m_reason m_wide m_high g1 r5 hr5) dX8_between_20 1 gX8_between_X8_measures rfl hyX8_measures ⟨Nat.le_of_ble_eq_true rfl, Nat.le_of_ble_eq_true rfl⟩ 0 rfl rfl rfl rfl (Nat.le_of_ble_eq_true rfl) ⟨Nat.le_of_ble_eq_true rfl, Nat.le_of_ble_eq_true rfl⟩ rfl rfl) rfl rfl rfl ⟨rfl, rfl⟩ ?_
        refine w_aload_n (pc := 23) hX dX8_between_23 rfl rfl ?_
        refine gf_X8_far (pc := 24) hX dX8_between_24 hX8 (List.mem_of_getElem? (i := 1) rfl) 0 rfl rfl ?_
        refine w_iload_n (pc := 27) hX dX8_between_27 rfl rfl ?_
        refine w_iald (pc := 28) hX dX8_between_28 6 rfl hm (fun hm => ?_)
        obtain ⟨r6, hr6, hm⟩ := bnd hm
        refine w_callpi (pc := 29) hX [] (runS (rest := []) hX [] (ctX8_orNone G (r5.1 g2.toNatClampNeg) r6 hr6) dX8_between_29 1 gX8_between_X8_orNone rfl hyX8_orNone.2 ⟨Nat.le_of_ble_eq_true rfl, Nat.le_of_ble_eq_true rfl⟩ rfl rfl (Nat.le_of_ble_eq_true rfl) ⟨Nat.le_of_ble_eq_true rfl, Nat.le_of_ble_eq_true rfl⟩ rfl rfl) rfl ⟨rfl, rfl⟩ ?_
        obtain rfl := som hm
        exact w_iret (pc := 32) hX hR dX8_between_32 ⟨rfl, rfl⟩
      ·
        exact w_lvs [false, false, false] (hj3 () hm)

theorem lX8_farthest_X8 : ∀ w ∈ wsX80, w ∈ wsX8_farthest := in_at [28, 29, 30, 31, 32, 33, 34, 35, 36, 37, 38, 39, 40, 41, 42, 43, 44, 45, 46, 47, 48, 49, 50, 51] (by decide +kernel)
set_option maxHeartbeats 4000000 in
set_option maxRecDepth 100000 in
theorem ctX8_farthest (G : gT) (F : Nat) (a_t : Nat → Nat) (m_s : nF) (m_begun : nF) (m_kept : nF) (m_isKept : Int32) (m_past : nF) (m_states : Int32) (m_text : nF) (m_length : Int32) (m_far : nF) (m_queue : nF) (m_isOn : nF) (m_steps : nF) (m_wayCells : Int32) (m_turns : Int32) (m_visits : nF) (m_wasSo : nF) (m_bestAway : Int32) (m_bestMade : Int32) (m_bestFault : Int32) (m_isHere : nF) (m_place : Int32) (m_reason : Int32) (m_wide : Int32) (m_high : Int32) (g1 : Int32) (o : (Int32 × nF × nF)) (hm : mX8_farthest F m_s m_far m_queue g1 = some o) : CT G yX8_farthest wsX8_farthest rmX8_farthest [.ref (a_t 0), .int g1] (wX8 G a_t m_s m_begun m_kept m_isKept m_past m_states m_text m_length m_far m_queue m_isOn m_steps m_wayCells m_turns m_visits m_wasSo m_bestAway m_bestMade m_bestFault m_isHere m_place m_reason m_wide m_high) (fun v w => v = some (.int o.1) ∧ w = wX8 G a_t m_s m_begun m_kept m_isKept m_past m_states m_text m_length o.2.1 o.2.2 m_isOn m_steps m_wayCells m_turns m_visits m_wasSo m_bestAway m_bestMade m_bestFault m_isHere m_place m_reason m_wide m_high) := by
  refine CT_of (cc := cX8_farthest) (maxL := 7) (ret := (some .int)) 5 (by decide +kernel) rfl rfl (cat_ok rfl) (fun X hX hR hN => ?_)
  have hX : Ok G X cX8_farthest RX8 wsX8_farthest 7 rmX8_farthest := hX
  have hX8 : ∀ w ∈ wsX80, w ∈ wsX8_farthest := lX8_farthest_X8
  unfold mX8_farthest at hm
  refine w_iload_n (pc := 0) hX dX8_farthest_0 rfl rfl ?_
  refine w_iconst (pc := 1) hX dX8_farthest_1 ic_0 ?_
  refine w_iconst (pc := 2) hX dX8_farthest_2 ic_2 ?_
  obtain ⟨r1, hr1, hm⟩ := bnd hm
  refine w_callpi (pc := 3) hX [] (runS (rest := []) hX [] (ctX8_in G g1 (0 : Int32) (2 : Int32) r1 hr1) dX8_farthest_3 3 gX8_farthest_X8_in rfl hyX8_in.2 ⟨Nat.le_of_ble_eq_true rfl, Nat.le_of_ble_eq_true rfl⟩ rfl rfl (Nat.le_of_ble_eq_true rfl) ⟨Nat.le_of_ble_eq_true rfl, Nat.le_of_ble_eq_true rfl⟩ rfl rfl) rfl ⟨rfl, rfl⟩ ?_
  refine w_if_ne (pc := 6) (tgt := 11) hX dX8_farthest_6 (by decide) hm (fun hm => ?_) (fun hm => ?_)
  ·
    refine w_iconst (pc := 11) hX dX8_farthest_11 ic_m1 ?_
    refine w_istore_n (pc := 12) hX dX8_farthest_12 rfl (Nat.le_of_ble_eq_true rfl) ?_
    refine w_iconst (pc := 13) hX dX8_farthest_13 ic_m1 ?_
    refine w_istore_n (pc := 14) hX dX8_farthest_14 rfl (Nat.le_of_ble_eq_true rfl) ?_
    refine w_iconst (pc := 15) hX dX8_farthest_15 ic_0 ?_
    refine w_istore (pc := 16) hX dX8_farthest_16 (Nat.le_of_ble_eq_true rfl) ?_
    refine w_iconst (pc := 18) hX dX8_farthest_18 ic_0 ?_
    refine w_istore (pc := 19) hX dX8_farthest_19 (Nat.le_of_ble_eq_true rfl) ?_
    refine w_jn (T := fun x2 : (Int32 × Int32 × Int32 × nF × nF) => WW G X 0 0 (wX8 G a_t m_s m_begun m_kept m_isKept m_past m_states m_text m_length x2.2.2.2.1 x2.2.2.2.2 m_isOn m_steps m_wayCells m_turns m_visits m_wasSo m_bestAway m_bestMade m_bestFault m_isHere m_place m_reason m_wide m_high) [none, some (.int g1), some (.int x2.1), some (.int x2.2.1), some (.int x2.2.2.1), none, none] 90 []) hm (fun x2 hm => ?_) (fun j3 hj3 hm => ?_)
    ·
      unfold mX8_farthest_K90 at hm
      refine w_iload (pc := 90) hX dX8_farthest_90 rfl ?_
      refine w_jn (T := fun x4 : Int32 => WW G X 0 0 (wX8 G a_t m_s m_begun m_kept m_isKept m_past m_states m_text m_length x2.2.2.2.1 x2.2.2.2.2 m_isOn m_steps m_wayCells m_turns m_visits m_wasSo m_bestAway m_bestMade m_bestFault m_isHere m_place m_reason m_wide m_high) [none, none, none, none, none, none, none] 119 [.int x4]) hm (fun x4 hm => ?_) (fun j5 hj5 hm => ?_)
      ·
        obtain rfl := som hm
        exact w_iret (pc := 119) hX hR dX8_farthest_119 ⟨rfl, rfl⟩
      ·
        refine w_if_ne (pc := 92) (tgt := 100) hX dX8_farthest_92 (by decide) hm (fun hm => ?_) (fun hm => ?_)
        ·
          refine w_iload_n (pc := 100) hX dX8_farthest_100 rfl rfl ?_
          refine w_if_ne (pc := 101) (tgt := 108) hX dX8_farthest_101 (by decide) hm (fun hm => ?_) (fun hm => ?_)
          ·
            refine w_iload_n (pc := 108) hX dX8_farthest_108 rfl rfl ?_
            refine w_iconst (pc := 109) hX dX8_farthest_109 ic_1 ?_
            refine w_icmp_ne (pc := 110) (tgt := 117) hX dX8_farthest_110 (by decide) hm (fun hm => ?_) (fun hm => ?_)
            ·
              refine w_iload (pc := 117) hX dX8_farthest_117 rfl ?_
              exact w_lvs [false, false, false, false, false, false, false] (hj5 x2.2.2.1 hm)
            ·
              refine w_iload_n (pc := 113) hX dX8_farthest_113 rfl rfl ?_
              refine w_goto (pc := 114) (tgt := 119) hX dX8_farthest_114 (by decide) ?_
              exact w_lvs [false, false, false, false, false, false, false] (hj5 x2.2.1 hm)
          ·
            refine w_iload_n (pc := 104) hX dX8_farthest_104 rfl rfl ?_
            refine w_goto (pc := 105) (tgt := 119) hX dX8_farthest_105 (by decide) ?_
            exact w_lvs [false, false, false, false, false, false, false] (hj5 x2.1 hm)
        ·
          refine w_bipush (pc := 95) hX dX8_farthest_95 bp_m4 ?_
          refine w_goto (pc := 97) (tgt := 119) hX dX8_farthest_97 (by decide) ?_
          exact w_lvs [false, false, false, false, false, false, false] (hj5 (-4 : Int32) hm)
    ·
      refine w_lvs [true, true, true, true, true, true, false] ?_
      refine lpr_ind (T := fun x6 : (Int32 × Int32 × Int32 × Int32 × nF × nF) => WW G X 0 0 (wX8 G a_t m_s m_begun m_kept m_isKept m_past m_states m_text m_length x6.2.2.2.2.1 x6.2.2.2.2.2 m_isOn m_steps m_wayCells m_turns m_visits m_wasSo m_bestAway m_bestMade m_bestFault m_isHere m_place m_reason m_wide m_high) [some (.ref (a_t 0)), some (.int g1), some (.int x6.1), some (.int x6.2.1), some (.int x6.2.2.1), some (.int x6.2.2.2.1), none] 21 []) (fun self7 hself7 x6 hm => ?_) F ((-1 : Int32), (-1 : Int32), (0 : Int32), (0 : Int32), m_far, m_queue) hm
      unfold mX8_farthest_L21 at hm
      refine w_iload (pc := 21) hX dX8_farthest_21 rfl ?_
      refine w_aload_n (pc := 23) hX dX8_farthest_23 rfl rfl ?_
      obtain ⟨r8, hr8, hm⟩ := bnd hm
      refine w_callpi (pc := 24) hX [0, 1, 2, 3, 4, 5, 6, 7, 8, 9, 10, 11, 12] (runV (rest := [.int x6.2.2.2.1]) hX [0, 1, 2, 3, 4, 5, 6, 7, 8, 9, 10, 11, 12] (ctX8_cells G a_t m_s m_begun m_kept m_isKept m_past m_states m_text m_length x6.2.2.2.2.1 x6.2.2.2.2.2 m_isOn m_steps m_wayCells m_turns m_visits m_wasSo m_bestAway m_bestMade m_bestFault m_isHere m_place m_reason m_wide m_high r8 hr8) dX8_farthest_24 0 gX8_farthest_X8_cells rfl hyX8_cells ⟨Nat.le_of_ble_eq_true rfl, Nat.le_of_ble_eq_true rfl⟩ 0 rfl rfl rfl rfl (Nat.le_of_ble_eq_true rfl) ⟨Nat.le_of_ble_eq_true rfl, Nat.le_of_ble_eq_true rfl⟩ rfl rfl) rfl ⟨rfl, rfl⟩ ?_
      refine w_icmp_ge (pc := 27) (tgt := 90) hX dX8_farthest_27 (by decide) hm (fun hm => ?_) (fun hm => ?_)
      ·
        exact w_lvs [false, true, true, true, true, false, false] (hj3 (x6.1, x6.2.1, x6.2.2.1, x6.2.2.2.2.1, x6.2.2.2.2.2) hm)
      ·
        refine w_aload_n (pc := 30) hX dX8_farthest_30 rfl rfl ?_
        refine w_iload (pc := 31) hX dX8_farthest_31 rfl ?_
        obtain ⟨r9, hr9, hm⟩ := bnd hm
        refine w_calldv (pc := 33) (ws' := wX8 G a_t m_s m_begun m_kept m_isKept m_past m_states m_text m_length r9.1 r9.2 m_isOn m_steps m_wayCells m_turns m_visits m_wasSo m_bestAway m_bestMade m_bestFault m_isHere m_place m_reason m_wide m_high) hX [0, 1, 2, 3, 4, 5, 6, 7, 8, 9, 10, 11, 12] (runV (rest := []) hX [0, 1, 2, 3, 4, 5, 6, 7, 8, 9, 10, 11, 12] (ctX8_measures G F a_t m_s m_begun m_kept m_isKept m_past m_states m_text m_length x6.2.2.2.2.1 x6.2.2.2.2.2 m_isOn m_steps m_wayCells m_turns m_visits m_wasSo m_bestAway m_bestMade m_bestFault m_isHere m_place m_reason m_wide m_high x6.2.2.2.1 r9 hr9) dX8_farthest_33 1 gX8_farthest_X8_measures rfl hyX8_measures ⟨Nat.le_of_ble_eq_true rfl, Nat.le_of_ble_eq_true rfl⟩ 0 rfl rfl rfl rfl (Nat.le_of_ble_eq_true rfl) ⟨Nat.le_of_ble_eq_true rfl, Nat.le_of_ble_eq_true rfl⟩ rfl rfl) rfl rfl rfl ⟨rfl, rfl⟩ ?_
        refine w_iload (pc := 36) hX dX8_farthest_36 rfl ?_
        refine w_iconst (pc := 38) hX dX8_farthest_38 ic_1 ?_
        refine w_iadd (pc := 39) hX dX8_farthest_39 ?_
        refine w_istore (pc := 40) hX dX8_farthest_40 (Nat.le_of_ble_eq_true rfl) ?_
        refine w_jn (T := fun x10 : (Int32 × Int32 × Int32) => WW G X 0 0 (wX8 G a_t m_s m_begun m_kept m_isKept m_past m_states m_text m_length r9.1 r9.2 m_isOn m_steps m_wayCells m_turns m_visits m_wasSo m_bestAway m_bestMade m_bestFault m_isHere m_place m_reason m_wide m_high) [some (.ref (a_t 0)), some (.int g1), some (.int x10.1), some (.int x10.2.1), some (.int x10.2.2), some (.int x6.2.2.2.1), none] 84 []) hm (fun x10 hm => ?_) (fun j11 hj11 hm => ?_)
        ·
          unfold mX8_farthest_K84 at hm
          refine w_iinc (pc := 84) hX dX8_farthest_84 rfl (Nat.le_of_ble_eq_true rfl) ic_1 ?_
          refine w_goto (pc := 87) (tgt := 21) hX dX8_farthest_87 (by decide) ?_
          exact w_lvs [true, true, true, true, true, true, false] (hself7 (x10.1, x10.2.1, x10.2.2, x6.2.2.2.1 + (1 : Int32), r9.1, r9.2) hm)
        ·
          refine w_lvs [true, true, true, true, true, true, true] ?_
          refine lpr_ind (T := fun x12 : (Int32 × Int32 × Int32 × Int32) => WW G X 0 0 (wX8 G a_t m_s m_begun m_kept m_isKept m_past m_states m_text m_length r9.1 r9.2 m_isOn m_steps m_wayCells m_turns m_visits m_wasSo m_bestAway m_bestMade m_bestFault m_isHere m_place m_reason m_wide m_high) [some (.ref (a_t 0)), some (.int g1), some (.int x12.1), some (.int x12.2.1), some (.int x12.2.2.1), some (.int x6.2.2.2.1), some (.int x12.2.2.2)] 42 []) (fun self13 hself13 x12 hm => ?_) F (x6.1, x6.2.1, x6.2.2.1, x6.2.2.2.1 + (1 : Int32)) hm
          unfold mX8_farthest_L42 at hm
          refine w_iload (pc := 42) hX dX8_farthest_42 rfl ?_
          refine w_aload_n (pc := 44) hX dX8_farthest_44 rfl rfl ?_
          obtain ⟨r14, hr14, hm⟩ := bnd hm
          refine w_callpi (pc := 45) hX [0, 1, 2, 3, 4, 5, 6, 7, 8, 9, 10, 11, 12] (runV (rest := [.int x12.2.2.2]) hX [0, 1, 2, 3, 4, 5, 6, 7, 8, 9, 10, 11, 12] (ctX8_cells G a_t m_s m_begun m_kept m_isKept m_past m_states m_text m_length r9.1 r9.2 m_isOn m_steps m_wayCells m_turns m_visits m_wasSo m_bestAway m_bestMade m_bestFault m_isHere m_place m_reason m_wide m_high r14 hr14) dX8_farthest_45 0 gX8_farthest_X8_cells rfl hyX8_cells ⟨Nat.le_of_ble_eq_true rfl, Nat.le_of_ble_eq_true rfl⟩ 0 rfl rfl rfl rfl (Nat.le_of_ble_eq_true rfl) ⟨Nat.le_of_ble_eq_true rfl, Nat.le_of_ble_eq_true rfl⟩ rfl rfl) rfl ⟨rfl, rfl⟩ ?_
          refine w_icmp_ge (pc := 48) (tgt := 84) hX dX8_farthest_48 (by decide) hm (fun hm => ?_) (fun hm => ?_)
          ·
            exact w_lvs [true, true, true, true, true, true, false] (hj11 (x12.1, x12.2.1, x12.2.2.1) hm)
          ·
            refine w_aload_n (pc := 51) hX dX8_farthest_51 rfl rfl ?_
            refine gf_X8_far (pc := 52) hX dX8_farthest_52 hX8 (List.mem_of_getElem? (i := 1) rfl) 0 rfl rfl ?_
            refine w_iload (pc := 55) hX dX8_farthest_55 rfl ?_
            refine w_iald (pc := 57) hX dX8_farthest_57 6 rfl hm (fun hm => ?_)
            refine w_iload (pc := 58) hX dX8_farthest_58 rfl ?_
            refine w_jn (T := fun x15 : (Int32 × Int32 × Int32) => WW G X 0 0 (wX8 G a_t m_s m_begun m_kept m_isKept m_past m_states m_text m_length r9.1 r9.2 m_isOn m_steps m_wayCells m_turns m_visits m_wasSo m_bestAway m_bestMade m_bestFault m_isHere m_place m_reason m_wide m_high) [some (.ref (a_t 0)), some (.int g1), some (.int x15.1), some (.int x15.2.1), some (.int x15.2.2), some (.int x6.2.2.2.1), some (.int x12.2.2.2)] 78 []) hm (fun x15 hm => ?_) (fun j16 hj16 hm => ?_)
            ·
              refine w_iinc (pc := 78) hX dX8_farthest_78 rfl (Nat.le_of_ble_eq_true rfl) ic_1 ?_
              refine w_goto (pc := 81) (tgt := 42) hX dX8_farthest_81 (by decide) ?_
              exact w_lvs [true, true, true, true, true, true, true] (hself13 (x15.1, x15.2.1, x15.2.2, x12.2.2.2 + (1 : Int32)) hm)
            ·
              refine w_icmp_le (pc := 60) (tgt := 78) hX dX8_farthest_60 (by decide) hm (fun hm => ?_) (fun hm => ?_)
              ·
                exact w_lvs [true, true, true, true, true, true, true] (hj16 (x12.1, x12.2.1, x12.2.2.1) hm)
              ·
                refine w_iload (pc := 63) hX dX8_farthest_63 rfl ?_
                refine w_istore_n (pc := 65) hX dX8_farthest_65 rfl (Nat.le_of_ble_eq_true rfl) ?_
                refine w_iload (pc := 66) hX dX8_farthest_66 rfl ?_
                refine w_istore_n (pc := 68) hX dX8_farthest_68 rfl (Nat.le_of_ble_eq_true rfl) ?_
                refine w_aload_n (pc := 69) hX dX8_farthest_69 rfl rfl ?_
                refine gf_X8_far (pc := 70) hX dX8_farthest_70 hX8 (List.mem_of_getElem? (i := 1) rfl) 0 rfl rfl ?_
                refine w_iload (pc := 73) hX dX8_farthest_73 rfl ?_
                refine w_iald (pc := 75) hX dX8_farthest_75 6 rfl hm (fun hm => ?_)
                refine w_istore (pc := 76) hX dX8_farthest_76 (Nat.le_of_ble_eq_true rfl) ?_
                exact w_lvs [true, true, true, true, true, true, true] (hj16 (x6.2.2.2.1, x12.2.2.2, r9.1 x12.2.2.2.toNatClampNeg) hm)
  ·
    refine w_iconst (pc := 9) hX dX8_farthest_9 ic_m1 ?_
    obtain rfl := som hm
    exact w_iret (pc := 10) hX hR dX8_farthest_10 ⟨rfl, rfl⟩

theorem lX8_mayBeExit_X8 : ∀ w ∈ wsX80, w ∈ wsX8_mayBeExit := in_at [7, 8, 9, 10, 11, 12, 13, 14, 15, 16, 17, 18, 19, 20, 21, 22, 23, 24, 25, 26, 27, 28, 29, 30] (by decide +kernel)
set_option maxHeartbeats 4000000 in
set_option maxRecDepth 100000 in
theorem ctX8_mayBeExit (G : gT) (a_t : Nat → Nat) (m_s : nF) (m_begun : nF) (m_kept : nF) (m_isKept : Int32) (m_past : nF) (m_states : Int32) (m_text : nF) (m_length : Int32) (m_far : nF) (m_queue : nF) (m_isOn : nF) (m_steps : nF) (m_wayCells : Int32) (m_turns : Int32) (m_visits : nF) (m_wasSo : nF) (m_bestAway : Int32) (m_bestMade : Int32) (m_bestFault : Int32) (m_isHere : nF) (m_place : Int32) (m_reason : Int32) (m_wide : Int32) (m_high : Int32) (g1 : Int32) (g2 : Int32) (o : Int32) (hm : mX8_mayBeExit m_s g1 g2 = some o) : CT G yX8_mayBeExit wsX8_mayBeExit rmX8_mayBeExit [.ref (a_t 0), .int g1, .int g2] (wX8 G a_t m_s m_begun m_kept m_isKept m_past m_states m_text m_length m_far m_queue m_isOn m_steps m_wayCells m_turns m_visits m_wasSo m_bestAway m_bestMade m_bestFault m_isHere m_place m_reason m_wide m_high) (fun v w => v = some (.int o) ∧ w = wX8 G a_t m_s m_begun m_kept m_isKept m_past m_states m_text m_length m_far m_queue m_isOn m_steps m_wayCells m_turns m_visits m_wasSo m_bestAway m_bestMade m_bestFault m_isHere m_place m_reason m_wide m_high) := by
  refine CT_of (cc := cX8_mayBeExit) (maxL := 3) (ret := (some .boolean)) 0 (by decide +kernel) rfl rfl (cat_ok rfl) (fun X hX hR hN => ?_)
  have hX : Ok G X cX8_mayBeExit RX8 wsX8_mayBeExit 3 rmX8_mayBeExit := hX
  have hX8 : ∀ w ∈ wsX80, w ∈ wsX8_mayBeExit := lX8_mayBeExit_X8
  unfold mX8_mayBeExit at hm
  refine w_aload_n (pc := 0) hX dX8_mayBeExit_0 rfl rfl ?_
  refine w_iload_n (pc := 1) hX dX8_mayBeExit_1 rfl rfl ?_
  refine w_iload_n (pc := 2) hX dX8_mayBeExit_2 rfl rfl ?_
  obtain ⟨r1, hr1, hm⟩ := bnd hm
  refine w_callpi (pc := 3) hX [0, 1, 2, 3, 4, 5, 6, 7, 8, 9, 10, 11, 12] (runV (rest := []) hX [0, 1, 2, 3, 4, 5, 6, 7, 8, 9, 10, 11, 12] (ctX8_besides G a_t m_s m_begun m_kept m_isKept m_past m_states m_text m_length m_far m_queue m_isOn m_steps m_wayCells m_turns m_visits m_wasSo m_bestAway m_bestMade m_bestFault m_isHere m_place m_reason m_wide m_high g1 g2 r1 hr1) dX8_mayBeExit_3 2 gX8_mayBeExit_X8_besides rfl hyX8_besides ⟨Nat.le_of_ble_eq_true rfl, Nat.le_of_ble_eq_true rfl⟩ 0 rfl rfl rfl rfl (Nat.le_of_ble_eq_true rfl) ⟨Nat.le_of_ble_eq_true rfl, Nat.le_of_ble_eq_true rfl⟩ rfl rfl) rfl ⟨rfl, rfl⟩ ?_
  refine w_jn (T := fun x2 : Int32 => WW G X 0 0 (wX8 G a_t m_s m_begun m_kept m_isKept m_past m_states m_text m_length m_far m_queue m_isOn m_steps m_wayCells m_turns m_visits m_wasSo m_bestAway m_bestMade m_bestFault m_isHere m_place m_reason m_wide m_high) [none, none, none] 34 [.int x2]) hm (fun x2 hm => ?_) (fun j3 hj3 hm => ?_)
  ·
    refine w_zret (pc := 34) hX hR dX8_mayBeExit_34 hm (fun hm => ?_)
    obtain rfl := som hm
    exact ⟨rfl, rfl⟩
  ·
    refine w_jn (T := fun x4 : Unit => WW G X 0 0 (wX8 G a_t m_s m_begun m_kept m_isKept m_past m_states m_text m_length m_far m_queue m_isOn m_steps m_wayCells m_turns m_visits m_wasSo m_bestAway m_bestMade m_bestFault m_isHere m_place m_reason m_wide m_high) [none, none, none] 33 []) hm (fun x4 hm => ?_) (fun j5 hj5 hm => ?_)
    ·
      refine w_iconst (pc := 33) hX dX8_mayBeExit_33 ic_0 ?_
      exact w_lvs [false, false, false] (hj3 (0 : Int32) hm)
    ·
      refine w_if_ge (pc := 6) (tgt := 33) hX dX8_mayBeExit_6 (by decide) hm (fun hm => ?_) (fun hm => ?_)
      ·
        exact w_lvs [false, false, false] (hj5 () hm)
      ·
        refine w_aload_n (pc := 9) hX dX8_mayBeExit_9 rfl rfl ?_
        refine gf_X8_s (pc := 10) hX dX8_mayBeExit_10 hX8 (List.mem_of_getElem? (i := 1) rfl) 0 rfl rfl ?_
        refine w_iconst (pc := 13) hX dX8_mayBeExit_13 ic_2 ?_
        refine w_iald (pc := 14) hX dX8_mayBeExit_14 1 rfl hm (fun hm => ?_)
        refine w_iload_n (pc := 15) hX dX8_mayBeExit_15 rfl rfl ?_
        refine w_jn (T := fun x6 : Unit => WW G X 0 0 (wX8 G a_t m_s m_begun m_kept m_isKept m_past m_states m_text m_length m_far m_queue m_isOn m_steps m_wayCells m_turns m_visits m_wasSo m_bestAway m_bestMade m_bestFault m_isHere m_place m_reason m_wide m_high) [none, none, none] 29 []) hm (fun x6 hm => ?_) (fun j7 hj7 hm => ?_)
        ·
          refine w_iconst (pc := 29) hX dX8_mayBeExit_29 ic_1 ?_
          refine w_goto (pc := 30) (tgt := 34) hX dX8_mayBeExit_30 (by decide) ?_
          exact w_lvs [false, false, false] (hj3 (1 : Int32) hm)
        ·
          refine w_icmp_ne (pc := 16) (tgt := 29) hX dX8_mayBeExit_16 (by decide) hm (fun hm => ?_) (fun hm => ?_)
          ·
            exact w_lvs [false, false, false] (hj7 () hm)
          ·
            refine w_aload_n (pc := 19) hX dX8_mayBeExit_19 rfl rfl ?_
            refine gf_X8_s (pc := 20) hX dX8_mayBeExit_20 hX8 (List.mem_of_getElem? (i := 1) rfl) 0 rfl rfl ?_
            refine w_iconst (pc := 23) hX dX8_mayBeExit_23 ic_3 ?_
            refine w_iald (pc := 24) hX dX8_mayBeExit_24 1 rfl hm (fun hm => ?_)
            refine w_iload_n (pc := 25) hX dX8_mayBeExit_25 rfl rfl ?_
            refine w_icmp_eq (pc := 26) (tgt := 33) hX dX8_mayBeExit_26 (by decide) hm (fun hm => ?_) (fun hm => ?_)
            ·
              exact w_lvs [false, false, false] (hj5 () hm)
            ·
              exact w_lvs [false, false, false] (hj7 () hm)

theorem lX8_bestExit_X8 : ∀ w ∈ wsX80, w ∈ wsX8_bestExit := in_at [49, 50, 51, 52, 53, 54, 55, 56, 57, 58, 59, 60, 61, 62, 63, 64, 65, 66, 67, 68, 69, 70, 71, 72] (by decide +kernel)
set_option maxHeartbeats 4000000 in
set_option maxRecDepth 100000 in
theorem ctX8_bestExit (G : gT) (F : Nat) (a_t : Nat → Nat) (m_s : nF) (m_begun : nF) (m_kept : nF) (m_isKept : Int32) (m_past : nF) (m_states : Int32) (m_text : nF) (m_length : Int32) (m_far : nF) (m_queue : nF) (m_isOn : nF) (m_steps : nF) (m_wayCells : Int32) (m_turns : Int32) (m_visits : nF) (m_wasSo : nF) (m_bestAway : Int32) (m_bestMade : Int32) (m_bestFault : Int32) (m_isHere : nF) (m_place : Int32) (m_reason : Int32) (m_wide : Int32) (m_high : Int32) (g1 : Int32) (o : (Int32 × nF × nF × nF × nF × Int32 × Int32)) (hm : mX8_bestExit F m_s m_far m_queue m_isOn m_steps m_wayCells m_turns g1 = some o) : CT G yX8_bestExit wsX8_bestExit rmX8_bestExit [.ref (a_t 0), .int g1] (wX8 G a_t m_s m_begun m_kept m_isKept m_past m_states m_text m_length m_far m_queue m_isOn m_steps m_wayCells m_turns m_visits m_wasSo m_bestAway m_bestMade m_bestFault m_isHere m_place m_reason m_wide m_high) (fun v w => v = some (.int o.1) ∧ w = wX8 G a_t m_s m_begun m_kept m_isKept m_past m_states m_text m_length o.2.1 o.2.2.1 o.2.2.2.1 o.2.2.2.2.1 o.2.2.2.2.2.1 o.2.2.2.2.2.2 m_visits m_wasSo m_bestAway m_bestMade m_bestFault m_isHere m_place m_reason m_wide m_high) := by
  refine CT_of (cc := cX8_bestExit) (maxL := 9) (ret := (some .int)) 7 (by decide +kernel) rfl rfl (cat_ok rfl) (fun X hX hR hN => ?_)
  have hX : Ok G X cX8_bestExit RX8 wsX8_bestExit 9 rmX8_bestExit := hX
  have hX8 : ∀ w ∈ wsX80, w ∈ wsX8_bestExit := lX8_bestExit_X8
  unfold mX8_bestExit at hm
  refine w_iload_n (pc := 0) hX dX8_bestExit_0 rfl rfl ?_
  refine w_iconst (pc := 1) hX dX8_bestExit_1 ic_0 ?_
  refine w_iconst (pc := 2) hX dX8_bestExit_2 ic_2 ?_
  obtain ⟨r1, hr1, hm⟩ := bnd hm
  refine w_callpi (pc := 3) hX [] (runS (rest := []) hX [] (ctX8_in G g1 (0 : Int32) (2 : Int32) r1 hr1) dX8_bestExit_3 3 gX8_bestExit_X8_in rfl hyX8_in.2 ⟨Nat.le_of_ble_eq_true rfl, Nat.le_of_ble_eq_true rfl⟩ rfl rfl (Nat.le_of_ble_eq_true rfl) ⟨Nat.le_of_ble_eq_true rfl, Nat.le_of_ble_eq_true rfl⟩ rfl rfl) rfl ⟨rfl, rfl⟩ ?_
  refine w_if_ne (pc := 6) (tgt := 11) hX dX8_bestExit_6 (by decide) hm (fun hm => ?_) (fun hm => ?_)
  ·
    refine w_iconst (pc := 11) hX dX8_bestExit_11 ic_m1 ?_
    refine w_istore_n (pc := 12) hX dX8_bestExit_12 rfl (Nat.le_of_ble_eq_true rfl) ?_
    refine w_iconst (pc := 13) hX dX8_bestExit_13 ic_m1 ?_
    refine w_istore_n (pc := 14) hX dX8_bestExit_14 rfl (Nat.le_of_ble_eq_true rfl) ?_
    refine w_ldc (pc := 15) hX dX8_bestExit_15 (List.mem_of_getElem? (i := 1) rfl) ?_
    refine w_istore (pc := 17) hX dX8_bestExit_17 (Nat.le_of_ble_eq_true rfl) ?_
    refine w_iconst (pc := 19) hX dX8_bestExit_19 ic_0 ?_
    refine w_istore (pc := 20) hX dX8_bestExit_20 (Nat.le_of_ble_eq_true rfl) ?_
    refine w_jn (T := fun x2 : (Int32 × Int32 × Int32 × nF × nF × nF × nF × Int32 × Int32) => WW G X 0 0 (wX8 G a_t m_s m_begun m_kept m_isKept m_past m_states m_text m_length x2.2.2.2.1 x2.2.2.2.2.1 x2.2.2.2.2.2.1 x2.2.2.2.2.2.2.1 x2.2.2.2.2.2.2.2.1 x2.2.2.2.2.2.2.2.2 m_visits m_wasSo m_bestAway m_bestMade m_bestFault m_isHere m_place m_reason m_wide m_high) [none, some (.int g1), some (.int x2.1), some (.int x2.2.1), some (.int x2.2.2.1), none, none, none, none] 150 []) hm (fun x2 hm => ?_) (fun j3 hj3 hm => ?_)
    ·
      unfold mX8_bestExit_K150 at hm
      refine w_iload_n (pc := 150) hX dX8_bestExit_150 rfl rfl ?_
      refine w_jn (T := fun x4 : Int32 => WW G X 0 0 (wX8 G a_t m_s m_begun m_kept m_isKept m_past m_states m_text m_length x2.2.2.2.1 x2.2.2.2.2.1 x2.2.2.2.2.2.1 x2.2.2.2.2.2.2.1 x2.2.2.2.2.2.2.2.1 x2.2.2.2.2.2.2.2.2 m_visits m_wasSo m_bestAway m_bestMade m_bestFault m_isHere m_place m_reason m_wide m_high) [none, none, none, none, none, none, none, none, none] 178 [.int x4]) hm (fun x4 hm => ?_) (fun j5 hj5 hm => ?_)
      ·
        obtain rfl := som hm
        exact w_iret (pc := 178) hX hR dX8_bestExit_178 ⟨rfl, rfl⟩
      ·
        refine w_if_ge (pc := 151) (tgt := 159) hX dX8_bestExit_151 (by decide) hm (fun hm => ?_) (fun hm => ?_)
        ·
          refine w_iload_n (pc := 159) hX dX8_bestExit_159 rfl rfl ?_
          refine w_if_ne (pc := 160) (tgt := 167) hX dX8_bestExit_160 (by decide) hm (fun hm => ?_) (fun hm => ?_)
          ·
            refine w_iload_n (pc := 167) hX dX8_bestExit_167 rfl rfl ?_
            refine w_iconst (pc := 168) hX dX8_bestExit_168 ic_1 ?_
            refine w_icmp_ne (pc := 169) (tgt := 176) hX dX8_bestExit_169 (by decide) hm (fun hm => ?_) (fun hm => ?_)
            ·
              refine w_iload (pc := 176) hX dX8_bestExit_176 rfl ?_
              exact w_lvs [false, false, false, false, false, false, false, false, false] (hj5 x2.2.2.1 hm)
            ·
              refine w_iload_n (pc := 172) hX dX8_bestExit_172 rfl rfl ?_
              refine w_goto (pc := 173) (tgt := 178) hX dX8_bestExit_173 (by decide) ?_
              exact w_lvs [false, false, false, false, false, false, false, false, false] (hj5 x2.2.1 hm)
          ·
            refine w_iload_n (pc := 163) hX dX8_bestExit_163 rfl rfl ?_
            refine w_goto (pc := 164) (tgt := 178) hX dX8_bestExit_164 (by decide) ?_
            exact w_lvs [false, false, false, false, false, false, false, false, false] (hj5 x2.1 hm)
        ·
          refine w_bipush (pc := 154) hX dX8_bestExit_154 bp_m4 ?_
          refine w_goto (pc := 156) (tgt := 178) hX dX8_bestExit_156 (by decide) ?_
          exact w_lvs [false, false, false, false, false, false, false, false, false] (hj5 (-4 : Int32) hm)
    ·
      refine w_lvs [true, true, true, true, true, true, false, false, false] ?_
      refine lpr_ind (T := fun x6 : (Int32 × Int32 × Int32 × Int32 × nF × nF × nF × nF × Int32 × Int32) => WW G X 0 0 (wX8 G a_t m_s m_begun m_kept m_isKept m_past m_states m_text m_length x6.2.2.2.2.1 x6.2.2.2.2.2.1 x6.2.2.2.2.2.2.1 x6.2.2.2.2.2.2.2.1 x6.2.2.2.2.2.2.2.2.1 x6.2.2.2.2.2.2.2.2.2 m_visits m_wasSo m_bestAway m_bestMade m_bestFault m_isHere m_place m_reason m_wide m_high) [some (.ref (a_t 0)), some (.int g1), some (.int x6.1), some (.int x6.2.1), some (.int x6.2.2.1), some (.int x6.2.2.2.1), none, none, none] 22 []) (fun self7 hself7 x6 hm => ?_) F ((-1 : Int32), (-1 : Int32), (1000000 : Int32), (0 : Int32), m_far, m_queue, m_isOn, m_steps, m_wayCells, m_turns) hm
      unfold mX8_bestExit_L22 at hm
      refine w_iload (pc := 22) hX dX8_bestExit_22 rfl ?_
      refine w_aload_n (pc := 24) hX dX8_bestExit_24 rfl rfl ?_
      obtain ⟨r8, hr8, hm⟩ := bnd hm
      refine w_callpi (pc := 25) hX [0, 1, 2, 3, 4, 5, 6, 7, 8, 9, 10, 11, 12] (runV (rest := [.int x6.2.2.2.1]) hX [0, 1, 2, 3, 4, 5, 6, 7, 8, 9, 10, 11, 12] (ctX8_cells G a_t m_s m_begun m_kept m_isKept m_past m_states m_text m_length x6.2.2.2.2.1 x6.2.2.2.2.2.1 x6.2.2.2.2.2.2.1 x6.2.2.2.2.2.2.2.1 x6.2.2.2.2.2.2.2.2.1 x6.2.2.2.2.2.2.2.2.2 m_visits m_wasSo m_bestAway m_bestMade m_bestFault m_isHere m_place m_reason m_wide m_high r8 hr8) dX8_bestExit_25 0 gX8_bestExit_X8_cells rfl hyX8_cells ⟨Nat.le_of_ble_eq_true rfl, Nat.le_of_ble_eq_true rfl⟩ 0 rfl rfl rfl rfl (Nat.le_of_ble_eq_true rfl) ⟨Nat.le_of_ble_eq_true rfl, Nat.le_of_ble_eq_true rfl⟩ rfl rfl) rfl ⟨rfl, rfl⟩ ?_
      refine w_icmp_ge (pc := 28) (tgt := 150) hX dX8_bestExit_28 (by decide) hm (fun hm => ?_) (fun hm => ?_)
      ·
        exact w_lvs [false, true, true, true, true, false, false, false, false] (hj3 (x6.1, x6.2.1, x6.2.2.1, x6.2.2.2.2.1, x6.2.2.2.2.2.1, x6.2.2.2.2.2.2.1, x6.2.2.2.2.2.2.2.1, x6.2.2.2.2.2.2.2.2.1, x6.2.2.2.2.2.2.2.2.2) hm)
      ·
        refine w_iconst (pc := 31) hX dX8_bestExit_31 ic_3 ?_
        refine w_istore (pc := 32) hX dX8_bestExit_32 (Nat.le_of_ble_eq_true rfl) ?_
        refine w_jn (T := fun x9 : (Int32 × Int32 × Int32 × nF × nF × nF × nF × Int32 × Int32) => WW G X 0 0 (wX8 G a_t m_s m_begun m_kept m_isKept m_past m_states m_text m_length x9.2.2.2.1 x9.2.2.2.2.1 x9.2.2.2.2.2.1 x9.2.2.2.2.2.2.1 x9.2.2.2.2.2.2.2.1 x9.2.2.2.2.2.2.2.2 m_visits m_wasSo m_bestAway m_bestMade m_bestFault m_isHere m_place m_reason m_wide m_high) [some (.ref (a_t 0)), some (.int g1), some (.int x9.1), some (.int x9.2.1), some (.int x9.2.2.1), some (.int x6.2.2.2.1), none, none, none] 144 []) hm (fun x9 hm => ?_) (fun j10 hj10 hm => ?_)
        ·
          unfold mX8_bestExit_K144 at hm
          refine w_iinc (pc := 144) hX dX8_bestExit_144 rfl (Nat.le_of_ble_eq_true rfl) ic_1 ?_
          refine w_goto (pc := 147) (tgt := 22) hX dX8_bestExit_147 (by decide) ?_
          exact w_lvs [true, true, true, true, true, true, false, false, false] (hself7 (x9.1, x9.2.1, x9.2.2.1, x6.2.2.2.1 + (1 : Int32), x9.2.2.2.1, x9.2.2.2.2.1, x9.2.2.2.2.2.1, x9.2.2.2.2.2.2.1, x9.2.2.2.2.2.2.2.1, x9.2.2.2.2.2.2.2.2) hm)
        ·
          refine w_lvs [true, true, true, true, true, true, true, false, false] ?_
          refine lpr_ind (T := fun x11 : (Int32 × Int32 × Int32 × Int32 × nF × nF × nF × nF × Int32 × Int32) => WW G X 0 0 (wX8 G a_t m_s m_begun m_kept m_isKept m_past m_states m_text m_length x11.2.2.2.2.1 x11.2.2.2.2.2.1 x11.2.2.2.2.2.2.1 x11.2.2.2.2.2.2.2.1 x11.2.2.2.2.2.2.2.2.1 x11.2.2.2.2.2.2.2.2.2 m_visits m_wasSo m_bestAway m_bestMade m_bestFault m_isHere m_place m_reason m_wide m_high) [some (.ref (a_t 0)), some (.int g1), some (.int x11.1), some (.int x11.2.1), some (.int x11.2.2.1), some (.int x6.2.2.2.1), some (.int x11.2.2.2.1), none, none] 34 []) (fun self12 hself12 x11 hm => ?_) F (x6.1, x6.2.1, x6.2.2.1, (3 : Int32), x6.2.2.2.2.1, x6.2.2.2.2.2.1, x6.2.2.2.2.2.2.1, x6.2.2.2.2.2.2.2.1, x6.2.2.2.2.2.2.2.2.1, x6.2.2.2.2.2.2.2.2.2) hm
          unfold mX8_bestExit_L34 at hm
          refine w_iload (pc := 34) hX dX8_bestExit_34 rfl ?_
          refine w_if_lt (pc := 36) (tgt := 144) hX dX8_bestExit_36 (by decide) hm (fun hm => ?_) (fun hm => ?_)
          ·
            exact w_lvs [true, true, true, true, true, true, false, false, false] (hj10 (x11.1, x11.2.1, x11.2.2.1, x11.2.2.2.2.1, x11.2.2.2.2.2.1, x11.2.2.2.2.2.2.1, x11.2.2.2.2.2.2.2.1, x11.2.2.2.2.2.2.2.2.1, x11.2.2.2.2.2.2.2.2.2) hm)
          ·
            refine w_aload_n (pc := 39) hX dX8_bestExit_39 rfl rfl ?_
            refine w_iload (pc := 40) hX dX8_bestExit_40 rfl ?_
            refine w_iload (pc := 42) hX dX8_bestExit_42 rfl ?_
            obtain ⟨r13, hr13, hm⟩ := bnd hm
            refine w_callpi (pc := 44) hX [0, 1, 2, 3, 4, 5, 6, 7, 8, 9, 10, 11, 12] (runV (rest := []) hX [0, 1, 2, 3, 4, 5, 6, 7, 8, 9, 10, 11, 12] (ctX8_mayBeExit G a_t m_s m_begun m_kept m_isKept m_past m_states m_text m_length x11.2.2.2.2.1 x11.2.2.2.2.2.1 x11.2.2.2.2.2.2.1 x11.2.2.2.2.2.2.2.1 x11.2.2.2.2.2.2.2.2.1 x11.2.2.2.2.2.2.2.2.2 m_visits m_wasSo m_bestAway m_bestMade m_bestFault m_isHere m_place m_reason m_wide m_high x6.2.2.2.1 x11.2.2.2.1 r13 hr13) dX8_bestExit_44 2 gX8_bestExit_X8_mayBeExit rfl hyX8_mayBeExit ⟨Nat.le_of_ble_eq_true rfl, Nat.le_of_ble_eq_true rfl⟩ 0 rfl rfl rfl rfl (Nat.le_of_ble_eq_true rfl) ⟨Nat.le_of_ble_eq_true rfl, Nat.le_of_ble_eq_true rfl⟩ rfl rfl) rfl ⟨rfl, rfl⟩ ?_
            refine w_jn (T := fun x14 : (Int32 × Int32 × Int32 × nF × nF × nF × nF × Int32 × Int32) => WW G X 0 0 (wX8 G a_t m_s m_begun m_kept m_isKept m_past m_states m_text m_length x14.2.2.2.1 x14.2.2.2.2.1 x14.2.2.2.2.2.1 x14.2.2.2.2.2.2.1 x14.2.2.2.2.2.2.2.1 x14.2.2.2.2.2.2.2.2 m_visits m_wasSo m_bestAway m_bestMade m_bestFault m_isHere m_place m_reason m_wide m_high) [some (.ref (a_t 0)), some (.int g1), some (.int x14.1), some (.int x14.2.1), some (.int x14.2.2.1), some (.int x6.2.2.2.1), some (.int x11.2.2.2.1), none, none] 138 []) hm (fun x14 hm => ?_) (fun j15 hj15 hm => ?_)
            ·
              refine w_iinc (pc := 138) hX dX8_bestExit_138 rfl (Nat.le_of_ble_eq_true rfl) ic_m1 ?_
              refine w_goto (pc := 141) (tgt := 34) hX dX8_bestExit_141 (by decide) ?_
              exact w_lvs [true, true, true, true, true, true, true, false, false] (hself12 (x14.1, x14.2.1, x14.2.2.1, x11.2.2.2.1 + (-1 : Int32), x14.2.2.2.1, x14.2.2.2.2.1, x14.2.2.2.2.2.1, x14.2.2.2.2.2.2.1, x14.2.2.2.2.2.2.2.1, x14.2.2.2.2.2.2.2.2) hm)
            ·
              refine w_if_eq (pc := 47) (tgt := 138) hX dX8_bestExit_47 (by decide) hm (fun hm => ?_) (fun hm => ?_)
              ·
                exact w_lvs [true, true, true, true, true, true, true, false, false] (hj15 (x11.1, x11.2.1, x11.2.2.1, x11.2.2.2.2.1, x11.2.2.2.2.2.1, x11.2.2.2.2.2.2.1, x11.2.2.2.2.2.2.2.1, x11.2.2.2.2.2.2.2.2.1, x11.2.2.2.2.2.2.2.2.2) hm)
              ·
                refine w_aload_n (pc := 50) hX dX8_bestExit_50 rfl rfl ?_
                refine w_aload_n (pc := 51) hX dX8_bestExit_51 rfl rfl ?_
                refine gf_X8_s (pc := 52) hX dX8_bestExit_52 hX8 (List.mem_of_getElem? (i := 2) rfl) 0 rfl rfl ?_
                refine w_iconst (pc := 55) hX dX8_bestExit_55 ic_2 ?_
                refine w_iald (pc := 56) hX dX8_bestExit_56 1 rfl hm (fun hm => ?_)
                refine w_iload (pc := 57) hX dX8_bestExit_57 rfl ?_
                obtain ⟨r16, hr16, hm⟩ := bnd hm
                refine w_calldi (pc := 59) (ws' := wX8 G a_t m_s m_begun m_kept m_isKept m_past m_states m_text m_length r16.2.1 r16.2.2 x11.2.2.2.2.2.2.1 x11.2.2.2.2.2.2.2.1 x11.2.2.2.2.2.2.2.2.1 x11.2.2.2.2.2.2.2.2.2 m_visits m_wasSo m_bestAway m_bestMade m_bestFault m_isHere m_place m_reason m_wide m_high) hX [0, 1, 2, 3, 4, 5, 6, 7, 8, 9, 10, 11, 12] (runV (rest := []) hX [0, 1, 2, 3, 4, 5, 6, 7, 8, 9, 10, 11, 12] (ctX8_areJoined G F a_t m_s m_begun m_kept m_isKept m_past m_states m_text m_length x11.2.2.2.2.1 x11.2.2.2.2.2.1 x11.2.2.2.2.2.2.1 x11.2.2.2.2.2.2.2.1 x11.2.2.2.2.2.2.2.2.1 x11.2.2.2.2.2.2.2.2.2 m_visits m_wasSo m_bestAway m_bestMade m_bestFault m_isHere m_place m_reason m_wide m_high (m_s (2 : Int32).toNatClampNeg) x6.2.2.2.1 r16 hr16) dX8_bestExit_59 2 gX8_bestExit_X8_areJoined rfl hyX8_areJoined ⟨Nat.le_of_ble_eq_true rfl, Nat.le_of_ble_eq_true rfl⟩ 0 rfl rfl rfl rfl (Nat.le_of_ble_eq_true rfl) ⟨Nat.le_of_ble_eq_true rfl, Nat.le_of_ble_eq_true rfl⟩ rfl rfl) rfl rfl rfl ⟨rfl, rfl⟩ ?_
                refine w_if_eq (pc := 62) (tgt := 138) hX dX8_bestExit_62 (by decide) hm (fun hm => ?_) (fun hm => ?_)
                ·
                  exact w_lvs [true, true, true, true, true, true, true, false, false] (hj15 (x11.1, x11.2.1, x11.2.2.1, r16.2.1, r16.2.2, x11.2.2.2.2.2.2.1, x11.2.2.2.2.2.2.2.1, x11.2.2.2.2.2.2.2.2.1, x11.2.2.2.2.2.2.2.2.2) hm)
                ·
                  refine w_aload_n (pc := 65) hX dX8_bestExit_65 rfl rfl ?_
                  refine w_iload (pc := 66) hX dX8_bestExit_66 rfl ?_
                  obtain ⟨r17, hr17, hm⟩ := bnd hm
                  refine w_calldi (pc := 68) (ws' := wX8 G a_t m_s m_begun m_kept m_isKept m_past m_states m_text m_length r17.2.1 r17.2.2.1 r17.2.2.2.1 r17.2.2.2.2.1 r17.2.2.2.2.2.1 r17.2.2.2.2.2.2 m_visits m_wasSo m_bestAway m_bestMade m_bestFault m_isHere m_place m_reason m_wide m_high) hX [0, 1, 2, 3, 4, 5, 6, 7, 8, 9, 10, 11, 12] (runV (rest := []) hX [0, 1, 2, 3, 4, 5, 6, 7, 8, 9, 10, 11, 12] (ctX8_faultTo G F a_t m_s m_begun m_kept m_isKept m_past m_states m_text m_length r16.2.1 r16.2.2 x11.2.2.2.2.2.2.1 x11.2.2.2.2.2.2.2.1 x11.2.2.2.2.2.2.2.2.1 x11.2.2.2.2.2.2.2.2.2 m_visits m_wasSo m_bestAway m_bestMade m_bestFault m_isHere m_place m_reason m_wide m_high x6.2.2.2.1 r17 hr17) dX8_bestExit_68 1 gX8_bestExit_X8_faultTo rfl hyX8_faultTo ⟨Nat.le_of_ble_eq_true rfl, Nat.le_of_ble_eq_true rfl⟩ 0 rfl rfl rfl rfl (Nat.le_of_ble_eq_true rfl) ⟨Nat.le_of_ble_eq_true rfl, Nat.le_of_ble_eq_true rfl⟩ rfl rfl) rfl rfl rfl ⟨rfl, rfl⟩ ?_
                  refine w_istore (pc := 71) hX dX8_bestExit_71 (Nat.le_of_ble_eq_true rfl) ?_
                  refine w_iload (pc := 73) hX dX8_bestExit_73 rfl ?_
                  refine w_iload (pc := 75) hX dX8_bestExit_75 rfl ?_
                  refine w_jn (T := fun x18 : Int32 => WW G X 0 0 (wX8 G a_t m_s m_begun m_kept m_isKept m_past m_states m_text m_length r17.2.1 r17.2.2.1 r17.2.2.2.1 r17.2.2.2.2.1 r17.2.2.2.2.2.1 r17.2.2.2.2.2.2 m_visits m_wasSo m_bestAway m_bestMade m_bestFault m_isHere m_place m_reason m_wide m_high) [some (.ref (a_t 0)), some (.int g1), some (.int x11.1), some (.int x11.2.1), some (.int x11.2.2.1), some (.int x6.2.2.2.1), some (.int x11.2.2.2.1), some (.int r17.1), none] 98 [.int x18]) hm (fun x18 hm => ?_) (fun j19 hj19 hm => ?_)
                  ·
                    refine w_istore (pc := 98) hX dX8_bestExit_98 (Nat.le_of_ble_eq_true rfl) ?_
                    refine w_iload (pc := 100) hX dX8_bestExit_100 rfl ?_
                    refine w_jn (T := fun x20 : Int32 => WW G X 0 0 (wX8 G a_t m_s m_begun m_kept m_isKept m_past m_states m_text m_length r17.2.1 r17.2.2.1 r17.2.2.2.1 r17.2.2.2.2.1 r17.2.2.2.2.2.1 r17.2.2.2.2.2.2 m_visits m_wasSo m_bestAway m_bestMade m_bestFault m_isHere m_place m_reason m_wide m_high) [some (.ref (a_t 0)), some (.int g1), none, some (.int x11.2.1), some (.int x11.2.2.1), some (.int x6.2.2.2.1), some (.int x11.2.2.2.1), some (.int r17.1), some (.int x18)] 111 [.int x20]) hm (fun x20 hm => ?_) (fun j21 hj21 hm => ?_)
                    ·
                      refine w_istore_n (pc := 111) hX dX8_bestExit_111 rfl (Nat.le_of_ble_eq_true rfl) ?_
                      refine w_iload (pc := 112) hX dX8_bestExit_112 rfl ?_
                      refine w_jn (T := fun x22 : Int32 => WW G X 0 0 (wX8 G a_t m_s m_begun m_kept m_isKept m_past m_states m_text m_length r17.2.1 r17.2.2.1 r17.2.2.2.1 r17.2.2.2.2.1 r17.2.2.2.2.2.1 r17.2.2.2.2.2.2 m_visits m_wasSo m_bestAway m_bestMade m_bestFault m_isHere m_place m_reason m_wide m_high) [some (.ref (a_t 0)), some (.int g1), some (.int x20), none, some (.int x11.2.2.1), some (.int x6.2.2.2.1), some (.int x11.2.2.2.1), some (.int r17.1), some (.int x18)] 123 [.int x22]) hm (fun x22 hm => ?_) (fun j23 hj23 hm => ?_)
                      ·
                        refine w_istore_n (pc := 123) hX dX8_bestExit_123 rfl (Nat.le_of_ble_eq_true rfl) ?_
                        refine w_iload (pc := 124) hX dX8_bestExit_124 rfl ?_
                        refine w_jn (T := fun x24 : Int32 => WW G X 0 0 (wX8 G a_t m_s m_begun m_kept m_isKept m_past m_states m_text m_length r17.2.1 r17.2.2.1 r17.2.2.2.1 r17.2.2.2.2.1 r17.2.2.2.2.2.1 r17.2.2.2.2.2.2 m_visits m_wasSo m_bestAway m_bestMade m_bestFault m_isHere m_place m_reason m_wide m_high) [some (.ref (a_t 0)), some (.int g1), some (.int x20), some (.int x22), none, some (.int x6.2.2.2.1), some (.int x11.2.2.2.1), none, none] 136 [.int x24]) hm (fun x24 hm => ?_) (fun j25 hj25 hm => ?_)
                        ·
                          refine w_istore (pc := 136) hX dX8_bestExit_136 (Nat.le_of_ble_eq_true rfl) ?_
                          exact w_lvs [true, true, true, true, true, true, true, false, false] (hj15 (x20, x22, x24, r17.2.1, r17.2.2.1, r17.2.2.2.1, r17.2.2.2.2.1, r17.2.2.2.2.2.1, r17.2.2.2.2.2.2) hm)
                        ·
                          refine w_if_eq (pc := 126) (tgt := 134) hX dX8_bestExit_126 (by decide) hm (fun hm => ?_) (fun hm => ?_)
                          ·
                            refine w_iload (pc := 134) hX dX8_bestExit_134 rfl ?_
                            exact w_lvs [true, true, true, true, false, true, true, false, false] (hj25 x11.2.2.1 hm)
                          ·
                            refine w_iload (pc := 129) hX dX8_bestExit_129 rfl ?_
                            refine w_goto (pc := 131) (tgt := 136) hX dX8_bestExit_131 (by decide) ?_
                            exact w_lvs [true, true, true, true, false, true, true, false, false] (hj25 r17.1 hm)
                      ·
                        refine w_if_eq (pc := 114) (tgt := 122) hX dX8_bestExit_114 (by decide) hm (fun hm => ?_) (fun hm => ?_)
                        ·
                          refine w_iload_n (pc := 122) hX dX8_bestExit_122 rfl rfl ?_
                          exact w_lvs [true, true, true, false, true, true, true, true, true] (hj23 x11.2.1 hm)
                        ·
                          refine w_iload (pc := 117) hX dX8_bestExit_117 rfl ?_
                          refine w_goto (pc := 119) (tgt := 123) hX dX8_bestExit_119 (by decide) ?_
                          exact w_lvs [true, true, true, false, true, true, true, true, true] (hj23 x11.2.2.2.1 hm)
                    ·
                      refine w_if_eq (pc := 102) (tgt := 110) hX dX8_bestExit_102 (by decide) hm (fun hm => ?_) (fun hm => ?_)
                      ·
                        refine w_iload_n (pc := 110) hX dX8_bestExit_110 rfl rfl ?_
                        exact w_lvs [true, true, false, true, true, true, true, true, true] (hj21 x11.1 hm)
                      ·
                        refine w_iload (pc := 105) hX dX8_bestExit_105 rfl ?_
                        refine w_goto (pc := 107) (tgt := 111) hX dX8_bestExit_107 (by decide) ?_
                        exact w_lvs [true, true, false, true, true, true, true, true, true] (hj21 x6.2.2.2.1 hm)
                  ·
                    refine w_jn (T := fun x26 : Unit => WW G X 0 0 (wX8 G a_t m_s m_begun m_kept m_isKept m_past m_states m_text m_length r17.2.1 r17.2.2.1 r17.2.2.2.1 r17.2.2.2.2.1 r17.2.2.2.2.2.1 r17.2.2.2.2.2.2 m_visits m_wasSo m_bestAway m_bestMade m_bestFault m_isHere m_place m_reason m_wide m_high) [some (.ref (a_t 0)), some (.int g1), some (.int x11.1), some (.int x11.2.1), some (.int x11.2.2.1), some (.int x6.2.2.2.1), some (.int x11.2.2.2.1), some (.int r17.1), none] 93 []) hm (fun x26 hm => ?_) (fun j27 hj27 hm => ?_)
                    ·
                      refine w_iconst (pc := 93) hX dX8_bestExit_93 ic_1 ?_
                      refine w_goto (pc := 94) (tgt := 98) hX dX8_bestExit_94 (by decide) ?_
                      exact w_lvs [true, true, true, true, true, true, true, true, false] (hj19 (1 : Int32) hm)
                    ·
                      refine w_icmp_lt (pc := 77) (tgt := 93) hX dX8_bestExit_77 (by decide) hm (fun hm => ?_) (fun hm => ?_)
                      ·
                        exact w_lvs [true, true, true, true, true, true, true, true, false] (hj27 () hm)
                      ·
                        refine w_iload_n (pc := 80) hX dX8_bestExit_80 rfl rfl ?_
                        refine w_iload (pc := 81) hX dX8_bestExit_81 rfl ?_
                        refine w_jn (T := fun x28 : Unit => WW G X 0 0 (wX8 G a_t m_s m_begun m_kept m_isKept m_past m_states m_text m_length r17.2.1 r17.2.2.1 r17.2.2.2.1 r17.2.2.2.2.1 r17.2.2.2.2.2.1 r17.2.2.2.2.2.2 m_visits m_wasSo m_bestAway m_bestMade m_bestFault m_isHere m_place m_reason m_wide m_high) [some (.ref (a_t 0)), some (.int g1), some (.int x11.1), some (.int x11.2.1), some (.int x11.2.2.1), some (.int x6.2.2.2.1), some (.int x11.2.2.2.1), some (.int r17.1), none] 97 []) hm (fun x28 hm => ?_) (fun j29 hj29 hm => ?_)
                        ·
                          refine w_iconst (pc := 97) hX dX8_bestExit_97 ic_0 ?_
                          exact w_lvs [true, true, true, true, true, true, true, true, false] (hj19 (0 : Int32) hm)
                        ·
                          refine w_icmp_ne (pc := 83) (tgt := 97) hX dX8_bestExit_83 (by decide) hm (fun hm => ?_) (fun hm => ?_)
                          ·
                            exact w_lvs [true, true, true, true, true, true, true, true, false] (hj29 () hm)
                          ·
                            refine w_iload (pc := 86) hX dX8_bestExit_86 rfl ?_
                            refine w_iload (pc := 88) hX dX8_bestExit_88 rfl ?_
                            refine w_icmp_ne (pc := 90) (tgt := 97) hX dX8_bestExit_90 (by decide) hm (fun hm => ?_) (fun hm => ?_)
                            ·
                              exact w_lvs [true, true, true, true, true, true, true, true, false] (hj29 () hm)
                            ·
                              exact w_lvs [true, true, true, true, true, true, true, true, false] (hj27 () hm)
  ·
    refine w_iconst (pc := 9) hX dX8_bestExit_9 ic_m1 ?_
    obtain rfl := som hm
    exact w_iret (pc := 10) hX hR dX8_bestExit_10 ⟨rfl, rfl⟩

theorem lX8_keep_X8 : ∀ w ∈ wsX80, w ∈ wsX8_keep := in_at [13, 14, 15, 16, 17, 18, 19, 20, 21, 22, 23, 24, 25, 26, 27, 28, 29, 30, 31, 32, 33, 34, 35, 36] (by decide +kernel)
set_option maxHeartbeats 4000000 in
set_option maxRecDepth 100000 in
theorem ctX8_keep (G : gT) (F : Nat) (a_t : Nat → Nat) (m_s : nF) (m_begun : nF) (m_kept : nF) (m_isKept : Int32) (m_past : nF) (m_states : Int32) (m_text : nF) (m_length : Int32) (m_far : nF) (m_queue : nF) (m_isOn : nF) (m_steps : nF) (m_wayCells : Int32) (m_turns : Int32) (m_visits : nF) (m_wasSo : nF) (m_bestAway : Int32) (m_bestMade : Int32) (m_bestFault : Int32) (m_isHere : nF) (m_place : Int32) (m_reason : Int32) (m_wide : Int32) (m_high : Int32) (o : (Int32 × nF × Int32)) (hm : mX8_keep F m_s m_kept m_isKept = some o) : CT G yX8_keep wsX8_keep rmX8_keep [.ref (a_t 0)] (wX8 G a_t m_s m_begun m_kept m_isKept m_past m_states m_text m_length m_far m_queue m_isOn m_steps m_wayCells m_turns m_visits m_wasSo m_bestAway m_bestMade m_bestFault m_isHere m_place m_reason m_wide m_high) (fun v w => v = some (.int o.1) ∧ w = wX8 G a_t m_s m_begun o.2.1 o.2.2 m_past m_states m_text m_length m_far m_queue m_isOn m_steps m_wayCells m_turns m_visits m_wasSo m_bestAway m_bestMade m_bestFault m_isHere m_place m_reason m_wide m_high) := by
  refine CT_of (cc := cX8_keep) (maxL := 2) (ret := (some .int)) 1 (by decide +kernel) rfl rfl (cat_ok rfl) (fun X hX hR hN => ?_)
  have hX : Ok G X cX8_keep RX8 wsX8_keep 2 rmX8_keep := hX
  have hX8 : ∀ w ∈ wsX80, w ∈ wsX8_keep := lX8_keep_X8
  unfold mX8_keep at hm
  refine w_iconst (pc := 0) hX dX8_keep_0 ic_0 ?_
  refine w_istore_n (pc := 1) hX dX8_keep_1 rfl (Nat.le_of_ble_eq_true rfl) ?_
  refine w_jn (T := fun x1 : nF => WW G X 0 0 (wX8 G a_t m_s m_begun x1 m_isKept m_past m_states m_text m_length m_far m_queue m_isOn m_steps m_wayCells m_turns m_visits m_wasSo m_bestAway m_bestMade m_bestFault m_isHere m_place m_reason m_wide m_high) [some (.ref (a_t 0)), none] 26 []) hm (fun x1 hm => ?_) (fun j2 hj2 hm => ?_)
  ·
    unfold mX8_keep_K26 at hm
    refine w_aload_n (pc := 26) hX dX8_keep_26 rfl rfl ?_
    refine w_iconst (pc := 27) hX dX8_keep_27 ic_1 ?_
    refine pf_X8_isKept (pc := 28) hX dX8_keep_28 hX8 (List.mem_of_getElem? (i := 3) rfl) 0 rfl rfl hm (fun hm => ?_)
    refine w_aload_n (pc := 31) hX dX8_keep_31 rfl rfl ?_
    obtain ⟨r3, hr3, hm⟩ := bnd hm
    refine w_callpi (pc := 32) hX [0, 1, 2, 3, 4, 5, 6, 7, 8, 9, 10, 11, 12] (runV (rest := []) hX [0, 1, 2, 3, 4, 5, 6, 7, 8, 9, 10, 11, 12] (ctX8_passages G F a_t m_s m_begun x1 (1 : Int32) m_past m_states m_text m_length m_far m_queue m_isOn m_steps m_wayCells m_turns m_visits m_wasSo m_bestAway m_bestMade m_bestFault m_isHere m_place m_reason m_wide m_high r3 hr3) dX8_keep_32 0 gX8_keep_X8_passages rfl hyX8_passages ⟨Nat.le_of_ble_eq_true rfl, Nat.le_of_ble_eq_true rfl⟩ 0 rfl rfl rfl rfl (Nat.le_of_ble_eq_true rfl) ⟨Nat.le_of_ble_eq_true rfl, Nat.le_of_ble_eq_true rfl⟩ rfl rfl) rfl ⟨rfl, rfl⟩ ?_
    obtain rfl := som hm
    exact w_iret (pc := 35) hX hR dX8_keep_35 ⟨rfl, rfl⟩
  ·
    refine w_lvs [true, true] ?_
    refine lpr_ind (T := fun x4 : (Int32 × nF) => WW G X 0 0 (wX8 G a_t m_s m_begun x4.2 m_isKept m_past m_states m_text m_length m_far m_queue m_isOn m_steps m_wayCells m_turns m_visits m_wasSo m_bestAway m_bestMade m_bestFault m_isHere m_place m_reason m_wide m_high) [some (.ref (a_t 0)), some (.int x4.1)] 2 []) (fun self5 hself5 x4 hm => ?_) F ((0 : Int32), m_kept) hm
    unfold mX8_keep_L2 at hm
    refine w_iload_n (pc := 2) hX dX8_keep_2 rfl rfl ?_
    refine w_bipush (pc := 3) hX dX8_keep_3 bp_114 ?_
    refine w_icmp_ge (pc := 5) (tgt := 26) hX dX8_keep_5 (by decide) hm (fun hm => ?_) (fun hm => ?_)
    ·
      exact w_lvs [true, false] (hj2 x4.2 hm)
    ·
      refine w_aload_n (pc := 8) hX dX8_keep_8 rfl rfl ?_
      refine gf_X8_kept (pc := 9) hX dX8_keep_9 hX8 (List.mem_of_getElem? (i := 1) rfl) 0 rfl rfl ?_
      refine w_iload_n (pc := 12) hX dX8_keep_12 rfl rfl ?_
      refine w_aload_n (pc := 13) hX dX8_keep_13 rfl rfl ?_
      refine gf_X8_s (pc := 14) hX dX8_keep_14 hX8 (List.mem_of_getElem? (i := 2) rfl) 0 rfl rfl ?_
      refine w_iload_n (pc := 17) hX dX8_keep_17 rfl rfl ?_
      refine w_iald (pc := 18) hX dX8_keep_18 1 rfl hm (fun hm => ?_)
      refine w_iast (pc := 19) hX dX8_keep_19 3 rfl hm (fun hm => ?_)
      refine w_iinc (pc := 20) hX dX8_keep_20 rfl (Nat.le_of_ble_eq_true rfl) ic_1 ?_
      refine w_goto (pc := 23) (tgt := 2) hX dX8_keep_23 (by decide) ?_
      exact w_lvs [true, true] (hself5 (x4.1 + (1 : Int32), (upd x4.2 x4.1.toNatClampNeg (m_s x4.1.toNatClampNeg))) hm)

theorem lX8_restore_X8 : ∀ w ∈ wsX80, w ∈ wsX8_restore := in_at [24, 25, 26, 27, 28, 29, 30, 31, 32, 33, 34, 35, 36, 37, 38, 39, 40, 41, 42, 43, 44, 45, 46, 47] (by decide +kernel)
set_option maxHeartbeats 4000000 in
set_option maxRecDepth 100000 in
theorem ctX8_restore (G : gT) (F : Nat) (a_t : Nat → Nat) (m_s : nF) (m_begun : nF) (m_kept : nF) (m_isKept : Int32) (m_past : nF) (m_states : Int32) (m_text : nF) (m_length : Int32) (m_far : nF) (m_queue : nF) (m_isOn : nF) (m_steps : nF) (m_wayCells : Int32) (m_turns : Int32) (m_visits : nF) (m_wasSo : nF) (m_bestAway : Int32) (m_bestMade : Int32) (m_bestFault : Int32) (m_isHere : nF) (m_place : Int32) (m_reason : Int32) (m_wide : Int32) (m_high : Int32) (o : (Int32 × nF × nF × nF × Int32)) (hm : mX8_restore F m_s m_begun m_kept m_isKept m_past m_states = some o) : CT G yX8_restore wsX8_restore rmX8_restore [.ref (a_t 0)] (wX8 G a_t m_s m_begun m_kept m_isKept m_past m_states m_text m_length m_far m_queue m_isOn m_steps m_wayCells m_turns m_visits m_wasSo m_bestAway m_bestMade m_bestFault m_isHere m_place m_reason m_wide m_high) (fun v w => v = some (.int o.1) ∧ w = wX8 G a_t o.2.1 o.2.2.1 m_kept m_isKept o.2.2.2.1 o.2.2.2.2 m_text m_length m_far m_queue m_isOn m_steps m_wayCells m_turns m_visits m_wasSo m_bestAway m_bestMade m_bestFault m_isHere m_place m_reason m_wide m_high) := by
  refine CT_of (cc := cX8_restore) (maxL := 2) (ret := (some .int)) 1 (by decide +kernel) rfl rfl (cat_ok rfl) (fun X hX hR hN => ?_)
  have hX : Ok G X cX8_restore RX8 wsX8_restore 2 rmX8_restore := hX
  have hX8 : ∀ w ∈ wsX80, w ∈ wsX8_restore := lX8_restore_X8
  unfold mX8_restore at hm
  refine w_aload_n (pc := 0) hX dX8_restore_0 rfl rfl ?_
  obtain ⟨r1, hr1, hm⟩ := bnd hm
  refine w_calldv (pc := 1) (ws' := wX8 G a_t m_s r1 m_kept m_isKept m_past m_states m_text m_length m_far m_queue m_isOn m_steps m_wayCells m_turns m_visits m_wasSo m_bestAway m_bestMade m_bestFault m_isHere m_place m_reason m_wide m_high) hX [0, 1, 2, 3, 4, 5, 6, 7, 8, 9, 10, 11, 12] (runV (rest := []) hX [0, 1, 2, 3, 4, 5, 6, 7, 8, 9, 10, 11, 12] (ctX8_begins G F a_t m_s m_begun m_kept m_isKept m_past m_states m_text m_length m_far m_queue m_isOn m_steps m_wayCells m_turns m_visits m_wasSo m_bestAway m_bestMade m_bestFault m_isHere m_place m_reason m_wide m_high r1 hr1) dX8_restore_1 0 gX8_restore_X8_begins rfl hyX8_begins ⟨Nat.le_of_ble_eq_true rfl, Nat.le_of_ble_eq_true rfl⟩ 0 rfl rfl rfl rfl (Nat.le_of_ble_eq_true rfl) ⟨Nat.le_of_ble_eq_true rfl, Nat.le_of_ble_eq_true rfl⟩ rfl rfl) rfl rfl rfl ⟨rfl, rfl⟩ ?_
  refine w_aload_n (pc := 4) hX dX8_restore_4 rfl rfl ?_
  refine gf_X8_isKept (pc := 5) hX dX8_restore_5 hX8 (List.mem_of_getElem? (i := 1) rfl) 0 rfl rfl ?_
  refine w_if_ne (pc := 8) (tgt := 14) hX dX8_restore_8 (by decide) hm (fun hm => ?_) (fun hm => ?_)
  ·
    refine w_iconst (pc := 14) hX dX8_restore_14 ic_0 ?_
    refine w_istore_n (pc := 15) hX dX8_restore_15 rfl (Nat.le_of_ble_eq_true rfl) ?_
    refine w_jn (T := fun x2 : nF => WW G X 0 0 (wX8 G a_t x2 r1 m_kept m_isKept m_past m_states m_text m_length m_far m_queue m_isOn m_steps m_wayCells m_turns m_visits m_wasSo m_bestAway m_bestMade m_bestFault m_isHere m_place m_reason m_wide m_high) [some (.ref (a_t 0)), none] 40 []) hm (fun x2 hm => ?_) (fun j3 hj3 hm => ?_)
    ·
      unfold mX8_restore_K40 at hm
      refine w_aload_n (pc := 40) hX dX8_restore_40 rfl rfl ?_
      refine w_aload_n (pc := 41) hX dX8_restore_41 rfl rfl ?_
      obtain ⟨r4, hr4, hm⟩ := bnd hm
      refine w_callpi (pc := 42) hX [0, 1, 2, 3, 4, 5, 6, 7, 8, 9, 10, 11, 12] (runV (rest := [.ref (a_t 0)]) hX [0, 1, 2, 3, 4, 5, 6, 7, 8, 9, 10, 11, 12] (ctX8_passages G F a_t x2 r1 m_kept m_isKept m_past m_states m_text m_length m_far m_queue m_isOn m_steps m_wayCells m_turns m_visits m_wasSo m_bestAway m_bestMade m_bestFault m_isHere m_place m_reason m_wide m_high r4 hr4) dX8_restore_42 0 gX8_restore_X8_passages rfl hyX8_passages ⟨Nat.le_of_ble_eq_true rfl, Nat.le_of_ble_eq_true rfl⟩ 0 rfl rfl rfl rfl (Nat.le_of_ble_eq_true rfl) ⟨Nat.le_of_ble_eq_true rfl, Nat.le_of_ble_eq_true rfl⟩ rfl rfl) rfl ⟨rfl, rfl⟩ ?_
      obtain ⟨r5, hr5, hm⟩ := bnd hm
      refine w_calldi (pc := 45) (ws' := wX8 G a_t r5.2.1 r1 m_kept m_isKept r5.2.2.1 r5.2.2.2 m_text m_length m_far m_queue m_isOn m_steps m_wayCells m_turns m_visits m_wasSo m_bestAway m_bestMade m_bestFault m_isHere m_place m_reason m_wide m_high) hX [0, 1, 2, 3, 4, 5, 6, 7, 8, 9, 10, 11, 12] (runV (rest := []) hX [0, 1, 2, 3, 4, 5, 6, 7, 8, 9, 10, 11, 12] (ctX8_acted G F a_t x2 r1 m_kept m_isKept m_past m_states m_text m_length m_far m_queue m_isOn m_steps m_wayCells m_turns m_visits m_wasSo m_bestAway m_bestMade m_bestFault m_isHere m_place m_reason m_wide m_high r4 r5 hr5) dX8_restore_45 1 gX8_restore_X8_acted rfl hyX8_acted ⟨Nat.le_of_ble_eq_true rfl, Nat.le_of_ble_eq_true rfl⟩ 0 rfl rfl rfl rfl (Nat.le_of_ble_eq_true rfl) ⟨Nat.le_of_ble_eq_true rfl, Nat.le_of_ble_eq_true rfl⟩ rfl rfl) rfl rfl rfl ⟨rfl, rfl⟩ ?_
      obtain rfl := som hm
      exact w_iret (pc := 48) hX hR dX8_restore_48 ⟨rfl, rfl⟩
    ·
      refine w_lvs [true, true] ?_
      refine lpr_ind (T := fun x6 : (Int32 × nF) => WW G X 0 0 (wX8 G a_t x6.2 r1 m_kept m_isKept m_past m_states m_text m_length m_far m_queue m_isOn m_steps m_wayCells m_turns m_visits m_wasSo m_bestAway m_bestMade m_bestFault m_isHere m_place m_reason m_wide m_high) [some (.ref (a_t 0)), some (.int x6.1)] 16 []) (fun self7 hself7 x6 hm => ?_) F ((0 : Int32), m_s) hm
      unfold mX8_restore_L16 at hm
      refine w_iload_n (pc := 16) hX dX8_restore_16 rfl rfl ?_
      refine w_bipush (pc := 17) hX dX8_restore_17 bp_114 ?_
      refine w_icmp_ge (pc := 19) (tgt := 40) hX dX8_restore_19 (by decide) hm (fun hm => ?_) (fun hm => ?_)
      ·
        exact w_lvs [true, false] (hj3 x6.2 hm)
      ·
        refine w_aload_n (pc := 22) hX dX8_restore_22 rfl rfl ?_
        refine gf_X8_s (pc := 23) hX dX8_restore_23 hX8 (List.mem_of_getElem? (i := 2) rfl) 0 rfl rfl ?_
        refine w_iload_n (pc := 26) hX dX8_restore_26 rfl rfl ?_
        refine w_aload_n (pc := 27) hX dX8_restore_27 rfl rfl ?_
        refine gf_X8_kept (pc := 28) hX dX8_restore_28 hX8 (List.mem_of_getElem? (i := 3) rfl) 0 rfl rfl ?_
        refine w_iload_n (pc := 31) hX dX8_restore_31 rfl rfl ?_
        refine w_iald (pc := 32) hX dX8_restore_32 3 rfl hm (fun hm => ?_)
        refine w_iast (pc := 33) hX dX8_restore_33 1 rfl hm (fun hm => ?_)
        refine w_iinc (pc := 34) hX dX8_restore_34 rfl (Nat.le_of_ble_eq_true rfl) ic_1 ?_
        refine w_goto (pc := 37) (tgt := 16) hX dX8_restore_37 (by decide) ?_
        exact w_lvs [true, true] (hself7 (x6.1 + (1 : Int32), (upd x6.2 x6.1.toNatClampNeg (m_kept x6.1.toNatClampNeg))) hm)
  ·
    refine w_bipush (pc := 11) hX dX8_restore_11 bp_m2 ?_
    obtain rfl := som hm
    exact w_iret (pc := 13) hX hR dX8_restore_13 ⟨rfl, rfl⟩

theorem lX8_undo_X8 : ∀ w ∈ wsX80, w ∈ wsX8_undo := in_at [4, 5, 6, 7, 8, 9, 10, 11, 12, 13, 14, 15, 16, 17, 18, 19, 20, 21, 22, 23, 24, 25, 26, 27] (by decide +kernel)
set_option maxHeartbeats 4000000 in
set_option maxRecDepth 100000 in
theorem ctX8_undo (G : gT) (F : Nat) (a_t : Nat → Nat) (m_s : nF) (m_begun : nF) (m_kept : nF) (m_isKept : Int32) (m_past : nF) (m_states : Int32) (m_text : nF) (m_length : Int32) (m_far : nF) (m_queue : nF) (m_isOn : nF) (m_steps : nF) (m_wayCells : Int32) (m_turns : Int32) (m_visits : nF) (m_wasSo : nF) (m_bestAway : Int32) (m_bestMade : Int32) (m_bestFault : Int32) (m_isHere : nF) (m_place : Int32) (m_reason : Int32) (m_wide : Int32) (m_high : Int32) (o : (Int32 × nF × Int32)) (hm : mX8_undo F m_s m_past m_states = some o) : CT G yX8_undo wsX8_undo rmX8_undo [.ref (a_t 0)] (wX8 G a_t m_s m_begun m_kept m_isKept m_past m_states m_text m_length m_far m_queue m_isOn m_steps m_wayCells m_turns m_visits m_wasSo m_bestAway m_bestMade m_bestFault m_isHere m_place m_reason m_wide m_high) (fun v w => v = some (.int o.1) ∧ w = wX8 G a_t o.2.1 m_begun m_kept m_isKept m_past o.2.2 m_text m_length m_far m_queue m_isOn m_steps m_wayCells m_turns m_visits m_wasSo m_bestAway m_bestMade m_bestFault m_isHere m_place m_reason m_wide m_high) := by
  refine CT_of (cc := cX8_undo) (maxL := 2) (ret := (some .int)) 1 (by decide +kernel) rfl rfl (cat_ok rfl) (fun X hX hR hN => ?_)
  have hX : Ok G X cX8_undo RX8 wsX8_undo 2 rmX8_undo := hX
  have hX8 : ∀ w ∈ wsX80, w ∈ wsX8_undo := lX8_undo_X8
  unfold mX8_undo at hm
  refine w_aload_n (pc := 0) hX dX8_undo_0 rfl rfl ?_
  refine gf_X8_states (pc := 1) hX dX8_undo_1 hX8 (List.mem_of_getElem? (i := 1) rfl) 0 rfl rfl ?_
  refine w_if_ne (pc := 4) (tgt := 10) hX dX8_undo_4 (by decide) hm (fun hm => ?_) (fun hm => ?_)
  ·
    refine w_aload_n (pc := 10) hX dX8_undo_10 rfl rfl ?_
    refine w_dup (pc := 11) hX dX8_undo_11 rfl ?_
    refine gf_X8_states (pc := 12) hX dX8_undo_12 hX8 (List.mem_of_getElem? (i := 1) rfl) 0 rfl rfl ?_
    refine w_iconst (pc := 15) hX dX8_undo_15 ic_1 ?_
    refine w_isub (pc := 16) hX dX8_undo_16 ?_
    refine pf_X8_states (pc := 17) hX dX8_undo_17 hX8 (List.mem_of_getElem? (i := 1) rfl) 0 rfl rfl ?_
    refine w_iconst (pc := 20) hX dX8_undo_20 ic_0 ?_
    refine w_istore_n (pc := 21) hX dX8_undo_21 rfl (Nat.le_of_ble_eq_true rfl) ?_
    refine w_lvs [true, true] ?_
    refine lpr_ind (T := fun x1 : (Int32 × nF) => WW G X 0 0 (wX8 G a_t x1.2 m_begun m_kept m_isKept m_past (m_states - (1 : Int32)) m_text m_length m_far m_queue m_isOn m_steps m_wayCells m_turns m_visits m_wasSo m_bestAway m_bestMade m_bestFault m_isHere m_place m_reason m_wide m_high) [some (.ref (a_t 0)), some (.int x1.1)] 22 []) (fun self2 hself2 x1 hm => ?_) F ((0 : Int32), m_s) hm
    unfold mX8_undo_L22 at hm
    refine w_iload_n (pc := 22) hX dX8_undo_22 rfl rfl ?_
    refine w_bipush (pc := 23) hX dX8_undo_23 bp_114 ?_
    refine w_icmp_ge (pc := 25) (tgt := 54) hX dX8_undo_25 (by decide) hm (fun hm => ?_) (fun hm => ?_)
    ·
      refine w_aload_n (pc := 54) hX dX8_undo_54 rfl rfl ?_
      refine gf_X8_states (pc := 55) hX dX8_undo_55 hX8 (List.mem_of_getElem? (i := 1) rfl) 0 rfl rfl ?_
      obtain rfl := som hm
      exact w_iret (pc := 58) hX hR dX8_undo_58 ⟨rfl, rfl⟩
    ·
      refine w_aload_n (pc := 28) hX dX8_undo_28 rfl rfl ?_
      refine gf_X8_s (pc := 29) hX dX8_undo_29 hX8 (List.mem_of_getElem? (i := 2) rfl) 0 rfl rfl ?_
      refine w_iload_n (pc := 32) hX dX8_undo_32 rfl rfl ?_
      refine w_aload_n (pc := 33) hX dX8_undo_33 rfl rfl ?_
      refine gf_X8_past (pc := 34) hX dX8_undo_34 hX8 (List.mem_of_getElem? (i := 3) rfl) 0 rfl rfl ?_
      refine w_bipush (pc := 37) hX dX8_undo_37 bp_114 ?_
      refine w_aload_n (pc := 39) hX dX8_undo_39 rfl rfl ?_
      refine gf_X8_states (pc := 40) hX dX8_undo_40 hX8 (List.mem_of_getElem? (i := 1) rfl) 0 rfl rfl ?_
      refine w_imul (pc := 43) hX dX8_undo_43 ?_
      refine w_iload_n (pc := 44) hX dX8_undo_44 rfl rfl ?_
      refine w_iadd (pc := 45) hX dX8_undo_45 ?_
      refine w_iald (pc := 46) hX dX8_undo_46 4 rfl hm (fun hm => ?_)
      refine w_iast (pc := 47) hX dX8_undo_47 1 rfl hm (fun hm => ?_)
      refine w_iinc (pc := 48) hX dX8_undo_48 rfl (Nat.le_of_ble_eq_true rfl) ic_1 ?_
      refine w_goto (pc := 51) (tgt := 22) hX dX8_undo_51 (by decide) ?_
      exact w_lvs [true, true] (hself2 (x1.1 + (1 : Int32), (upd x1.2 x1.1.toNatClampNeg (m_past (((114 : Int32) * (m_states - (1 : Int32))) + x1.1).toNatClampNeg))) hm)
  ·
    refine w_bipush (pc := 7) hX dX8_undo_7 bp_m2 ?_
    obtain rfl := som hm
    exact w_iret (pc := 9) hX hR dX8_undo_9 ⟨rfl, rfl⟩

theorem lX8_type_X8 : ∀ w ∈ wsX80, w ∈ wsX8_type := in_at [7, 8, 9, 10, 11, 12, 13, 14, 15, 16, 17, 18, 19, 20, 21, 22, 23, 24, 25, 26, 27, 28, 29, 30] (by decide +kernel)
set_option maxHeartbeats 4000000 in
set_option maxRecDepth 100000 in
theorem ctX8_type (G : gT) (a_t : Nat → Nat) (m_s : nF) (m_begun : nF) (m_kept : nF) (m_isKept : Int32) (m_past : nF) (m_states : Int32) (m_text : nF) (m_length : Int32) (m_far : nF) (m_queue : nF) (m_isOn : nF) (m_steps : nF) (m_wayCells : Int32) (m_turns : Int32) (m_visits : nF) (m_wasSo : nF) (m_bestAway : Int32) (m_bestMade : Int32) (m_bestFault : Int32) (m_isHere : nF) (m_place : Int32) (m_reason : Int32) (m_wide : Int32) (m_high : Int32) (g1 : Int32) (o : (Int32 × nF × Int32)) (hm : mX8_type m_text m_length g1 = some o) : CT G yX8_type wsX8_type rmX8_type [.ref (a_t 0), .int g1] (wX8 G a_t m_s m_begun m_kept m_isKept m_past m_states m_text m_length m_far m_queue m_isOn m_steps m_wayCells m_turns m_visits m_wasSo m_bestAway m_bestMade m_bestFault m_isHere m_place m_reason m_wide m_high) (fun v w => v = some (.int o.1) ∧ w = wX8 G a_t m_s m_begun m_kept m_isKept m_past m_states o.2.1 o.2.2 m_far m_queue m_isOn m_steps m_wayCells m_turns m_visits m_wasSo m_bestAway m_bestMade m_bestFault m_isHere m_place m_reason m_wide m_high) := by
  refine CT_of (cc := cX8_type) (maxL := 2) (ret := (some .int)) 0 (by decide +kernel) rfl rfl (cat_ok rfl) (fun X hX hR hN => ?_)
  have hX : Ok G X cX8_type RX8 wsX8_type 2 rmX8_type := hX
  have hX8 : ∀ w ∈ wsX80, w ∈ wsX8_type := lX8_type_X8
  unfold mX8_type at hm
  refine w_iload_n (pc := 0) hX dX8_type_0 rfl rfl ?_
  refine w_bipush (pc := 1) hX dX8_type_1 bp_32 ?_
  refine w_bipush (pc := 3) hX dX8_type_3 bp_126 ?_
  obtain ⟨r1, hr1, hm⟩ := bnd hm
  refine w_callpi (pc := 5) hX [] (runS (rest := []) hX [] (ctX8_in G g1 (32 : Int32) (126 : Int32) r1 hr1) dX8_type_5 3 gX8_type_X8_in rfl hyX8_in.2 ⟨Nat.le_of_ble_eq_true rfl, Nat.le_of_ble_eq_true rfl⟩ rfl rfl (Nat.le_of_ble_eq_true rfl) ⟨Nat.le_of_ble_eq_true rfl, Nat.le_of_ble_eq_true rfl⟩ rfl rfl) rfl ⟨rfl, rfl⟩ ?_
  refine w_if_ne (pc := 8) (tgt := 13) hX dX8_type_8 (by decide) hm (fun hm => ?_) (fun hm => ?_)
  ·
    refine w_aload_n (pc := 13) hX dX8_type_13 rfl rfl ?_
    refine gf_X8_length (pc := 14) hX dX8_type_14 hX8 (List.mem_of_getElem? (i := 1) rfl) 0 rfl rfl ?_
    refine w_bipush (pc := 17) hX dX8_type_17 bp_60 ?_
    refine w_icmp_ne (pc := 19) (tgt := 25) hX dX8_type_19 (by decide) hm (fun hm => ?_) (fun hm => ?_)
    ·
      refine w_aload_n (pc := 25) hX dX8_type_25 rfl rfl ?_
      refine gf_X8_text (pc := 26) hX dX8_type_26 hX8 (List.mem_of_getElem? (i := 2) rfl) 0 rfl rfl ?_
      refine w_aload_n (pc := 29) hX dX8_type_29 rfl rfl ?_
      refine gf_X8_length (pc := 30) hX dX8_type_30 hX8 (List.mem_of_getElem? (i := 1) rfl) 0 rfl rfl ?_
      refine w_iload_n (pc := 33) hX dX8_type_33 rfl rfl ?_
      refine w_iast (pc := 34) hX dX8_type_34 5 rfl hm (fun hm => ?_)
      refine w_aload_n (pc := 35) hX dX8_type_35 rfl rfl ?_
      refine w_dup (pc := 36) hX dX8_type_36 rfl ?_
      refine gf_X8_length (pc := 37) hX dX8_type_37 hX8 (List.mem_of_getElem? (i := 1) rfl) 0 rfl rfl ?_
      refine w_iconst (pc := 40) hX dX8_type_40 ic_1 ?_
      refine w_iadd (pc := 41) hX dX8_type_41 ?_
      refine pf_X8_length (pc := 42) hX dX8_type_42 hX8 (List.mem_of_getElem? (i := 1) rfl) 0 rfl rfl ?_
      refine w_aload_n (pc := 45) hX dX8_type_45 rfl rfl ?_
      refine gf_X8_length (pc := 46) hX dX8_type_46 hX8 (List.mem_of_getElem? (i := 1) rfl) 0 rfl rfl ?_
      obtain rfl := som hm
      exact w_iret (pc := 49) hX hR dX8_type_49 ⟨rfl, rfl⟩
    ·
      refine w_bipush (pc := 22) hX dX8_type_22 bp_m3 ?_
      obtain rfl := som hm
      exact w_iret (pc := 24) hX hR dX8_type_24 ⟨rfl, rfl⟩
  ·
    refine w_iconst (pc := 11) hX dX8_type_11 ic_m1 ?_
    obtain rfl := som hm
    exact w_iret (pc := 12) hX hR dX8_type_12 ⟨rfl, rfl⟩

theorem lX8_clearText_X8 : ∀ w ∈ wsX80, w ∈ wsX8_clearText := in_at [2, 3, 4, 5, 6, 7, 8, 9, 10, 11, 12, 13, 14, 15, 16, 17, 18, 19, 20, 21, 22, 23, 24, 25] (by decide +kernel)
set_option maxHeartbeats 4000000 in
set_option maxRecDepth 100000 in
theorem ctX8_clearText (G : gT) (a_t : Nat → Nat) (m_s : nF) (m_begun : nF) (m_kept : nF) (m_isKept : Int32) (m_past : nF) (m_states : Int32) (m_text : nF) (m_length : Int32) (m_far : nF) (m_queue : nF) (m_isOn : nF) (m_steps : nF) (m_wayCells : Int32) (m_turns : Int32) (m_visits : nF) (m_wasSo : nF) (m_bestAway : Int32) (m_bestMade : Int32) (m_bestFault : Int32) (m_isHere : nF) (m_place : Int32) (m_reason : Int32) (m_wide : Int32) (m_high : Int32) (o : (Int32 × Int32)) (hm : mX8_clearText m_length = some o) : CT G yX8_clearText wsX8_clearText rmX8_clearText [.ref (a_t 0)] (wX8 G a_t m_s m_begun m_kept m_isKept m_past m_states m_text m_length m_far m_queue m_isOn m_steps m_wayCells m_turns m_visits m_wasSo m_bestAway m_bestMade m_bestFault m_isHere m_place m_reason m_wide m_high) (fun v w => v = some (.int o.1) ∧ w = wX8 G a_t m_s m_begun m_kept m_isKept m_past m_states m_text o.2 m_far m_queue m_isOn m_steps m_wayCells m_turns m_visits m_wasSo m_bestAway m_bestMade m_bestFault m_isHere m_place m_reason m_wide m_high) := by
  refine CT_of (cc := cX8_clearText) (maxL := 2) (ret := (some .int)) 1 (by decide +kernel) rfl rfl (cat_ok rfl) (fun X hX hR hN => ?_)
  have hX : Ok G X cX8_clearText RX8 wsX8_clearText 2 rmX8_clearText := hX
  have hX8 : ∀ w ∈ wsX80, w ∈ wsX8_clearText := lX8_clearText_X8
  unfold mX8_clearText at hm
  refine w_aload_n (pc := 0) hX dX8_clearText_0 rfl rfl ?_
  refine gf_X8_length (pc := 1) hX dX8_clearText_1 hX8 (List.mem_of_getElem? (i := 1) rfl) 0 rfl rfl ?_
  refine w_istore_n (pc := 4) hX dX8_clearText_4 rfl (Nat.le_of_ble_eq_true rfl) ?_
  refine w_aload_n (pc := 5) hX dX8_clearText_5 rfl rfl ?_
  refine w_iconst (pc := 6) hX dX8_clearText_6 ic_0 ?_
  refine pf_X8_length (pc := 7) hX dX8_clearText_7 hX8 (List.mem_of_getElem? (i := 1) rfl) 0 rfl rfl ?_
  refine w_iload_n (pc := 10) hX dX8_clearText_10 rfl rfl ?_
  obtain rfl := som hm
  exact w_iret (pc := 11) hX hR dX8_clearText_11 ⟨rfl, rfl⟩

theorem lX8_breaks_X8 : ∀ w ∈ wsX80, w ∈ wsX8_breaks := in_at [3, 4, 5, 6, 7, 8, 9, 10, 11, 12, 13, 14, 15, 16, 17, 18, 19, 20, 21, 22, 23, 24, 25, 26] (by decide +kernel)
set_option maxHeartbeats 4000000 in
set_option maxRecDepth 100000 in
theorem ctX8_breaks (G : gT) (a_t : Nat → Nat) (m_s : nF) (m_begun : nF) (m_kept : nF) (m_isKept : Int32) (m_past : nF) (m_states : Int32) (m_text : nF) (m_length : Int32) (m_far : nF) (m_queue : nF) (m_isOn : nF) (m_steps : nF) (m_wayCells : Int32) (m_turns : Int32) (m_visits : nF) (m_wasSo : nF) (m_bestAway : Int32) (m_bestMade : Int32) (m_bestFault : Int32) (m_isHere : nF) (m_place : Int32) (m_reason : Int32) (m_wide : Int32) (m_high : Int32) (g1 : Int32) (g2 : Int32) (o : (Int32 × Int32 × Int32)) (hm : mX8_breaks m_place m_reason g1 g2 = some o) : CT G yX8_breaks wsX8_breaks rmX8_breaks [.ref (a_t 0), .int g1, .int g2] (wX8 G a_t m_s m_begun m_kept m_isKept m_past m_states m_text m_length m_far m_queue m_isOn m_steps m_wayCells m_turns m_visits m_wasSo m_bestAway m_bestMade m_bestFault m_isHere m_place m_reason m_wide m_high) (fun v w => v = some (.int o.1) ∧ w = wX8 G a_t m_s m_begun m_kept m_isKept m_past m_states m_text m_length m_far m_queue m_isOn m_steps m_wayCells m_turns m_visits m_wasSo m_bestAway m_bestMade m_bestFault m_isHere o.2.1 o.2.2 m_wide m_high) := by
  refine CT_of (cc := cX8_breaks) (maxL := 3) (ret := (some .boolean)) 0 (by decide +kernel) rfl rfl (cat_ok rfl) (fun X hX hR hN => ?_)
  have hX : Ok G X cX8_breaks RX8 wsX8_breaks 3 rmX8_breaks := hX
  have hX8 : ∀ w ∈ wsX80, w ∈ wsX8_breaks := lX8_breaks_X8
  unfold mX8_breaks at hm
  refine w_aload_n (pc := 0) hX dX8_breaks_0 rfl rfl ?_
  refine w_iload_n (pc := 1) hX dX8_breaks_1 rfl rfl ?_
  refine pf_X8_place (pc := 2) hX dX8_breaks_2 hX8 (List.mem_of_getElem? (i := 1) rfl) 0 rfl rfl ?_
  refine w_aload_n (pc := 5) hX dX8_breaks_5 rfl rfl ?_
  refine w_iload_n (pc := 6) hX dX8_breaks_6 rfl rfl ?_
  refine pf_X8_reason (pc := 7) hX dX8_breaks_7 hX8 (List.mem_of_getElem? (i := 2) rfl) 0 rfl rfl ?_
  refine w_iconst (pc := 10) hX dX8_breaks_10 ic_0 ?_
  refine w_zret (pc := 11) hX hR dX8_breaks_11 hm (fun hm => ?_)
  obtain rfl := som hm
  exact ⟨rfl, rfl⟩

theorem lX8_isPicture_X8 : ∀ w ∈ wsX80, w ∈ wsX8_isPicture := in_at [15, 16, 17, 18, 19, 20, 21, 22, 23, 24, 25, 26, 27, 28, 29, 30, 31, 32, 33, 34, 35, 36, 37, 38] (by decide +kernel)
set_option maxHeartbeats 4000000 in
set_option maxRecDepth 100000 in
theorem ctX8_isPicture (G : gT) (F : Nat) (a_t : Nat → Nat) (m_s : nF) (m_begun : nF) (m_kept : nF) (m_isKept : Int32) (m_past : nF) (m_states : Int32) (m_text : nF) (m_length : Int32) (m_far : nF) (m_queue : nF) (m_isOn : nF) (m_steps : nF) (m_wayCells : Int32) (m_turns : Int32) (m_visits : nF) (m_wasSo : nF) (m_bestAway : Int32) (m_bestMade : Int32) (m_bestFault : Int32) (m_isHere : nF) (m_place : Int32) (m_reason : Int32) (m_wide : Int32) (m_high : Int32) (o : (Int32 × Int32 × Int32 × Int32 × Int32)) (hm : mX8_isPicture F m_text m_length m_place m_reason m_wide m_high = some o) : CT G yX8_isPicture wsX8_isPicture rmX8_isPicture [.ref (a_t 0)] (wX8 G a_t m_s m_begun m_kept m_isKept m_past m_states m_text m_length m_far m_queue m_isOn m_steps m_wayCells m_turns m_visits m_wasSo m_bestAway m_bestMade m_bestFault m_isHere m_place m_reason m_wide m_high) (fun v w => v = some (.int o.1) ∧ w = wX8 G a_t m_s m_begun m_kept m_isKept m_past m_states m_text m_length m_far m_queue m_isOn m_steps m_wayCells m_turns m_visits m_wasSo m_bestAway m_bestMade m_bestFault m_isHere o.2.1 o.2.2.1 o.2.2.2.1 o.2.2.2.2) := by
  refine CT_of (cc := cX8_isPicture) (maxL := 4) (ret := (some .boolean)) 3 (by decide +kernel) rfl rfl (cat_ok rfl) (fun X hX hR hN => ?_)
  have hX : Ok G X cX8_isPicture RX8 wsX8_isPicture 4 rmX8_isPicture := hX
  have hX8 : ∀ w ∈ wsX80, w ∈ wsX8_isPicture := lX8_isPicture_X8
  unfold mX8_isPicture at hm
  refine w_aload_n (pc := 0) hX dX8_isPicture_0 rfl rfl ?_
  refine w_iconst (pc := 1) hX dX8_isPicture_1 ic_0 ?_
  refine pf_X8_wide (pc := 2) hX dX8_isPicture_2 hX8 (List.mem_of_getElem? (i := 1) rfl) 0 rfl rfl ?_
  refine w_aload_n (pc := 5) hX dX8_isPicture_5 rfl rfl ?_
  refine w_iconst (pc := 6) hX dX8_isPicture_6 ic_1 ?_
  refine pf_X8_high (pc := 7) hX dX8_isPicture_7 hX8 (List.mem_of_getElem? (i := 2) rfl) 0 rfl rfl ?_
  refine w_iconst (pc := 10) hX dX8_isPicture_10 ic_0 ?_
  refine w_istore_n (pc := 11) hX dX8_isPicture_11 rfl (Nat.le_of_ble_eq_true rfl) ?_
  refine w_iconst (pc := 12) hX dX8_isPicture_12 ic_0 ?_
  refine w_istore_n (pc := 13) hX dX8_isPicture_13 rfl (Nat.le_of_ble_eq_true rfl) ?_
  refine w_jn (T := fun x1 : (Int32 × Int32 × Int32) => WW G X 0 0 (wX8 G a_t m_s m_begun m_kept m_isKept m_past m_states m_text m_length m_far m_queue m_isOn m_steps m_wayCells m_turns m_visits m_wasSo m_bestAway m_bestMade m_bestFault m_isHere m_place m_reason x1.2.1 x1.2.2) [some (.ref (a_t 0)), some (.int x1.1), none, none] 172 []) hm (fun x1 hm => ?_) (fun j2 hj2 hm => ?_)
  ·
    unfold mX8_isPicture_K172 at hm
    refine w_iload_n (pc := 172) hX dX8_isPicture_172 rfl rfl ?_
    refine w_jn (T := fun x3 : Unit => WW G X 0 0 (wX8 G a_t m_s m_begun m_kept m_isKept m_past m_states m_text m_length m_far m_queue m_isOn m_steps m_wayCells m_turns m_visits m_wasSo m_bestAway m_bestMade m_bestFault m_isHere m_place m_reason x1.2.1 x1.2.2) [some (.ref (a_t 0)), none, none, none] 184 []) hm (fun x3 hm => ?_) (fun j4 hj4 hm => ?_)
    ·
      refine w_aload_n (pc := 184) hX dX8_isPicture_184 rfl rfl ?_
      refine w_aload_n (pc := 185) hX dX8_isPicture_185 rfl rfl ?_
      refine gf_X8_length (pc := 186) hX dX8_isPicture_186 hX8 (List.mem_of_getElem? (i := 3) rfl) 0 rfl rfl ?_
      refine w_iconst (pc := 189) hX dX8_isPicture_189 ic_1 ?_
      obtain ⟨r5, hr5, hm⟩ := bnd hm
      refine w_calldi (pc := 190) (ws' := wX8 G a_t m_s m_begun m_kept m_isKept m_past m_states m_text m_length m_far m_queue m_isOn m_steps m_wayCells m_turns m_visits m_wasSo m_bestAway m_bestMade m_bestFault m_isHere r5.2.1 r5.2.2 x1.2.1 x1.2.2) hX [0, 1, 2, 3, 4, 5, 6, 7, 8, 9, 10, 11, 12] (runV (rest := []) hX [0, 1, 2, 3, 4, 5, 6, 7, 8, 9, 10, 11, 12] (ctX8_breaks G a_t m_s m_begun m_kept m_isKept m_past m_states m_text m_length m_far m_queue m_isOn m_steps m_wayCells m_turns m_visits m_wasSo m_bestAway m_bestMade m_bestFault m_isHere m_place m_reason x1.2.1 x1.2.2 m_length (1 : Int32) r5 hr5) dX8_isPicture_190 2 gX8_isPicture_X8_breaks rfl hyX8_breaks ⟨Nat.le_of_ble_eq_true rfl, Nat.le_of_ble_eq_true rfl⟩ 0 rfl rfl rfl rfl (Nat.le_of_ble_eq_true rfl) ⟨Nat.le_of_ble_eq_true rfl, Nat.le_of_ble_eq_true rfl⟩ rfl rfl) rfl rfl rfl ⟨rfl, rfl⟩ ?_
      refine w_zret (pc := 193) hX hR dX8_isPicture_193 hm (fun hm => ?_)
      obtain rfl := som hm
      exact ⟨rfl, rfl⟩
    ·
      refine w_if_eq (pc := 173) (tgt := 184) hX dX8_isPicture_173 (by decide) hm (fun hm => ?_) (fun hm => ?_)
      ·
        exact w_lvs [true, false, false, false] (hj4 () hm)
      ·
        refine w_iload_n (pc := 176) hX dX8_isPicture_176 rfl rfl ?_
        refine w_aload_n (pc := 177) hX dX8_isPicture_177 rfl rfl ?_
        refine gf_X8_wide (pc := 178) hX dX8_isPicture_178 hX8 (List.mem_of_getElem? (i := 1) rfl) 0 rfl rfl ?_
        refine w_icmp_ge (pc := 181) (tgt := 194) hX dX8_isPicture_181 (by decide) hm (fun hm => ?_) (fun hm => ?_)
        ·
          refine w_aload_n (pc := 194) hX dX8_isPicture_194 rfl rfl ?_
          refine gf_X8_wide (pc := 195) hX dX8_isPicture_195 hX8 (List.mem_of_getElem? (i := 1) rfl) 0 rfl rfl ?_
          refine w_iconst (pc := 198) hX dX8_isPicture_198 ic_1 ?_
          refine w_jn (T := fun x6 : (Int32 × Int32 × Int32) => WW G X 0 0 (wX8 G a_t m_s m_begun m_kept m_isKept m_past m_states m_text m_length m_far m_queue m_isOn m_steps m_wayCells m_turns m_visits m_wasSo m_bestAway m_bestMade m_bestFault m_isHere x6.2.1 x6.2.2 x1.2.1 x1.2.2) [none, none, none, none] 227 [.int x6.1]) hm (fun x6 hm => ?_) (fun j7 hj7 hm => ?_)
          ·
            refine w_zret (pc := 227) hX hR dX8_isPicture_227 hm (fun hm => ?_)
            obtain rfl := som hm
            exact ⟨rfl, rfl⟩
          ·
            refine w_jn (T := fun x8 : (Int32 × Int32) => WW G X 0 0 (wX8 G a_t m_s m_begun m_kept m_isKept m_past m_states m_text m_length m_far m_queue m_isOn m_steps m_wayCells m_turns m_visits m_wasSo m_bestAway m_bestMade m_bestFault m_isHere x8.1 x8.2 x1.2.1 x1.2.2) [none, none, none, none] 222 []) hm (fun x8 hm => ?_) (fun j9 hj9 hm => ?_)
            ·
              refine w_iconst (pc := 222) hX dX8_isPicture_222 ic_1 ?_
              refine w_goto (pc := 223) (tgt := 227) hX dX8_isPicture_223 (by decide) ?_
              exact w_lvs [false, false, false, false] (hj7 ((1 : Int32), x8.1, x8.2) hm)
            ·
              refine w_jn (T := fun x10 : Unit => WW G X 0 0 (wX8 G a_t m_s m_begun m_kept m_isKept m_past m_states m_text m_length m_far m_queue m_isOn m_steps m_wayCells m_turns m_visits m_wasSo m_bestAway m_bestMade m_bestFault m_isHere m_place m_reason x1.2.1 x1.2.2) [some (.ref (a_t 0)), none, none, none] 210 []) hm (fun x10 hm => ?_) (fun j11 hj11 hm => ?_)
              ·
                refine w_aload_n (pc := 210) hX dX8_isPicture_210 rfl rfl ?_
                refine w_aload_n (pc := 211) hX dX8_isPicture_211 rfl rfl ?_
                refine gf_X8_length (pc := 212) hX dX8_isPicture_212 hX8 (List.mem_of_getElem? (i := 3) rfl) 0 rfl rfl ?_
                refine w_iconst (pc := 215) hX dX8_isPicture_215 ic_4 ?_
                obtain ⟨r12, hr12, hm⟩ := bnd hm
                refine w_calldi (pc := 216) (ws' := wX8 G a_t m_s m_begun m_kept m_isKept m_past m_states m_text m_length m_far m_queue m_isOn m_steps m_wayCells m_turns m_visits m_wasSo m_bestAway m_bestMade m_bestFault m_isHere r12.2.1 r12.2.2 x1.2.1 x1.2.2) hX [0, 1, 2, 3, 4, 5, 6, 7, 8, 9, 10, 11, 12] (runV (rest := []) hX [0, 1, 2, 3, 4, 5, 6, 7, 8, 9, 10, 11, 12] (ctX8_breaks G a_t m_s m_begun m_kept m_isKept m_past m_states m_text m_length m_far m_queue m_isOn m_steps m_wayCells m_turns m_visits m_wasSo m_bestAway m_bestMade m_bestFault m_isHere m_place m_reason x1.2.1 x1.2.2 m_length (4 : Int32) r12 hr12) dX8_isPicture_216 2 gX8_isPicture_X8_breaks rfl hyX8_breaks ⟨Nat.le_of_ble_eq_true rfl, Nat.le_of_ble_eq_true rfl⟩ 0 rfl rfl rfl rfl (Nat.le_of_ble_eq_true rfl) ⟨Nat.le_of_ble_eq_true rfl, Nat.le_of_ble_eq_true rfl⟩ rfl rfl) rfl rfl rfl ⟨rfl, rfl⟩ ?_
                refine w_if_eq (pc := 219) (tgt := 226) hX dX8_isPicture_219 (by decide) hm (fun hm => ?_) (fun hm => ?_)
                ·
                  refine w_iconst (pc := 226) hX dX8_isPicture_226 ic_0 ?_
                  exact w_lvs [false, false, false, false] (hj7 ((0 : Int32), r12.2.1, r12.2.2) hm)
                ·
                  exact w_lvs [false, false, false, false] (hj9 (r12.2.1, r12.2.2) hm)
              ·
                refine w_icmp_le (pc := 199) (tgt := 210) hX dX8_isPicture_199 (by decide) hm (fun hm => ?_) (fun hm => ?_)
                ·
                  exact w_lvs [true, false, false, false] (hj11 () hm)
                ·
                  refine w_aload_n (pc := 202) hX dX8_isPicture_202 rfl rfl ?_
                  refine gf_X8_high (pc := 203) hX dX8_isPicture_203 hX8 (List.mem_of_getElem? (i := 2) rfl) 0 rfl rfl ?_
                  refine w_iconst (pc := 206) hX dX8_isPicture_206 ic_1 ?_
                  refine w_icmp_gt (pc := 207) (tgt := 222) hX dX8_isPicture_207 (by decide) hm (fun hm => ?_) (fun hm => ?_)
                  ·
                    exact w_lvs [false, false, false, false] (hj9 (m_place, m_reason) hm)
                  ·
                    exact w_lvs [true, false, false, false] (hj11 () hm)
        ·
          exact w_lvs [true, false, false, false] (hj4 () hm)
  ·
    refine w_jn (T := fun x13 : (Int32 × Int32 × Int32) => WW G X 0 0 (wX8 G a_t m_s m_begun m_kept m_isKept m_past m_states m_text m_length m_far m_queue m_isOn m_steps m_wayCells m_turns m_visits m_wasSo m_bestAway m_bestMade m_bestFault m_isHere m_place m_reason x13.2.1 x13.2.2) [some (.ref (a_t 0)), none, some (.int x13.1), none] 159 []) hm (fun x13 hm => ?_) (fun j14 hj14 hm => ?_)
    ·
      unfold mX8_isPicture_K159 at hm
      refine w_aload_n (pc := 159) hX dX8_isPicture_159 rfl rfl ?_
      refine w_iload_n (pc := 160) hX dX8_isPicture_160 rfl rfl ?_
      refine w_iconst (pc := 161) hX dX8_isPicture_161 ic_1 ?_
      obtain ⟨r15, hr15, hm⟩ := bnd hm
      refine w_calldi (pc := 162) (ws' := wX8 G a_t m_s m_begun m_kept m_isKept m_past m_states m_text m_length m_far m_queue m_isOn m_steps m_wayCells m_turns m_visits m_wasSo m_bestAway m_bestMade m_bestFault m_isHere r15.2.1 r15.2.2 x13.2.1 x13.2.2) hX [0, 1, 2, 3, 4, 5, 6, 7, 8, 9, 10, 11, 12] (runV (rest := []) hX [0, 1, 2, 3, 4, 5, 6, 7, 8, 9, 10, 11, 12] (ctX8_breaks G a_t m_s m_begun m_kept m_isKept m_past m_states m_text m_length m_far m_queue m_isOn m_steps m_wayCells m_turns m_visits m_wasSo m_bestAway m_bestMade m_bestFault m_isHere m_place m_reason x13.2.1 x13.2.2 x13.1 (1 : Int32) r15 hr15) dX8_isPicture_162 2 gX8_isPicture_X8_breaks rfl hyX8_breaks ⟨Nat.le_of_ble_eq_true rfl, Nat.le_of_ble_eq_true rfl⟩ 0 rfl rfl rfl rfl (Nat.le_of_ble_eq_true rfl) ⟨Nat.le_of_ble_eq_true rfl, Nat.le_of_ble_eq_true rfl⟩ rfl rfl) rfl rfl rfl ⟨rfl, rfl⟩ ?_
      refine w_zret (pc := 165) hX hR dX8_isPicture_165 hm (fun hm => ?_)
      obtain rfl := som hm
      exact ⟨rfl, rfl⟩
    ·
      refine w_jn (T := fun x16 : (Int32 × Int32 × Int32) => WW G X 0 0 (wX8 G a_t m_s m_begun m_kept m_isKept m_past m_states m_text m_length m_far m_queue m_isOn m_steps m_wayCells m_turns m_visits m_wasSo m_bestAway m_bestMade m_bestFault m_isHere m_place m_reason x16.2.1 x16.2.2) [some (.ref (a_t 0)), none, some (.int x16.1), none] 137 []) hm (fun x16 hm => ?_) (fun j17 hj17 hm => ?_)
      ·
        unfold mX8_isPicture_K137 at hm
        refine w_aload_n (pc := 137) hX dX8_isPicture_137 rfl rfl ?_
        refine w_iload_n (pc := 138) hX dX8_isPicture_138 rfl rfl ?_
        refine w_iconst (pc := 139) hX dX8_isPicture_139 ic_3 ?_
        obtain ⟨r18, hr18, hm⟩ := bnd hm
        refine w_calldi (pc := 140) (ws' := wX8 G a_t m_s m_begun m_kept m_isKept m_past m_states m_text m_length m_far m_queue m_isOn m_steps m_wayCells m_turns m_visits m_wasSo m_bestAway m_bestMade m_bestFault m_isHere r18.2.1 r18.2.2 x16.2.1 x16.2.2) hX [0, 1, 2, 3, 4, 5, 6, 7, 8, 9, 10, 11, 12] (runV (rest := []) hX [0, 1, 2, 3, 4, 5, 6, 7, 8, 9, 10, 11, 12] (ctX8_breaks G a_t m_s m_begun m_kept m_isKept m_past m_states m_text m_length m_far m_queue m_isOn m_steps m_wayCells m_turns m_visits m_wasSo m_bestAway m_bestMade m_bestFault m_isHere m_place m_reason x16.2.1 x16.2.2 x16.1 (3 : Int32) r18 hr18) dX8_isPicture_140 2 gX8_isPicture_X8_breaks rfl hyX8_breaks ⟨Nat.le_of_ble_eq_true rfl, Nat.le_of_ble_eq_true rfl⟩ 0 rfl rfl rfl rfl (Nat.le_of_ble_eq_true rfl) ⟨Nat.le_of_ble_eq_true rfl, Nat.le_of_ble_eq_true rfl⟩ rfl rfl) rfl rfl rfl ⟨rfl, rfl⟩ ?_
        refine w_zret (pc := 143) hX hR dX8_isPicture_143 hm (fun hm => ?_)
        obtain rfl := som hm
        exact ⟨rfl, rfl⟩
      ·
        refine w_jn (T := fun x19 : (Int32 × Int32 × Int32) => WW G X 0 0 (wX8 G a_t m_s m_begun m_kept m_isKept m_past m_states m_text m_length m_far m_queue m_isOn m_steps m_wayCells m_turns m_visits m_wasSo m_bestAway m_bestMade m_bestFault m_isHere m_place m_reason x19.2.1 x19.2.2) [some (.ref (a_t 0)), none, some (.int x19.1), none] 77 []) hm (fun x19 hm => ?_) (fun j20 hj20 hm => ?_)
        ·
          unfold mX8_isPicture_K77 at hm
          refine w_aload_n (pc := 77) hX dX8_isPicture_77 rfl rfl ?_
          refine w_iload_n (pc := 78) hX dX8_isPicture_78 rfl rfl ?_
          refine w_iconst (pc := 79) hX dX8_isPicture_79 ic_1 ?_
          obtain ⟨r21, hr21, hm⟩ := bnd hm
          refine w_calldi (pc := 80) (ws' := wX8 G a_t m_s m_begun m_kept m_isKept m_past m_states m_text m_length m_far m_queue m_isOn m_steps m_wayCells m_turns m_visits m_wasSo m_bestAway m_bestMade m_bestFault m_isHere r21.2.1 r21.2.2 x19.2.1 x19.2.2) hX [0, 1, 2, 3, 4, 5, 6, 7, 8, 9, 10, 11, 12] (runV (rest := []) hX [0, 1, 2, 3, 4, 5, 6, 7, 8, 9, 10, 11, 12] (ctX8_breaks G a_t m_s m_begun m_kept m_isKept m_past m_states m_text m_length m_far m_queue m_isOn m_steps m_wayCells m_turns m_visits m_wasSo m_bestAway m_bestMade m_bestFault m_isHere m_place m_reason x19.2.1 x19.2.2 x19.1 (1 : Int32) r21 hr21) dX8_isPicture_80 2 gX8_isPicture_X8_breaks rfl hyX8_breaks ⟨Nat.le_of_ble_eq_true rfl, Nat.le_of_ble_eq_true rfl⟩ 0 rfl rfl rfl rfl (Nat.le_of_ble_eq_true rfl) ⟨Nat.le_of_ble_eq_true rfl, Nat.le_of_ble_eq_true rfl⟩ rfl rfl) rfl rfl rfl ⟨rfl, rfl⟩ ?_
          refine w_zret (pc := 83) hX hR dX8_isPicture_83 hm (fun hm => ?_)
          obtain rfl := som hm
          exact ⟨rfl, rfl⟩
        ·
          refine w_jn (T := fun x22 : (Int32 × Int32 × Int32) => WW G X 0 0 (wX8 G a_t m_s m_begun m_kept m_isKept m_past m_states m_text m_length m_far m_queue m_isOn m_steps m_wayCells m_turns m_visits m_wasSo m_bestAway m_bestMade m_bestFault m_isHere m_place m_reason x22.2.1 x22.2.2) [some (.ref (a_t 0)), none, some (.int x22.1), none] 54 []) hm (fun x22 hm => ?_) (fun j23 hj23 hm => ?_)
          ·
            unfold mX8_isPicture_K54 at hm
            refine w_aload_n (pc := 54) hX dX8_isPicture_54 rfl rfl ?_
            refine w_iload_n (pc := 55) hX dX8_isPicture_55 rfl rfl ?_
            refine w_iconst (pc := 56) hX dX8_isPicture_56 ic_2 ?_
            obtain ⟨r24, hr24, hm⟩ := bnd hm
            refine w_calldi (pc := 57) (ws' := wX8 G a_t m_s m_begun m_kept m_isKept m_past m_states m_text m_length m_far m_queue m_isOn m_steps m_wayCells m_turns m_visits m_wasSo m_bestAway m_bestMade m_bestFault m_isHere r24.2.1 r24.2.2 x22.2.1 x22.2.2) hX [0, 1, 2, 3, 4, 5, 6, 7, 8, 9, 10, 11, 12] (runV (rest := []) hX [0, 1, 2, 3, 4, 5, 6, 7, 8, 9, 10, 11, 12] (ctX8_breaks G a_t m_s m_begun m_kept m_isKept m_past m_states m_text m_length m_far m_queue m_isOn m_steps m_wayCells m_turns m_visits m_wasSo m_bestAway m_bestMade m_bestFault m_isHere m_place m_reason x22.2.1 x22.2.2 x22.1 (2 : Int32) r24 hr24) dX8_isPicture_57 2 gX8_isPicture_X8_breaks rfl hyX8_breaks ⟨Nat.le_of_ble_eq_true rfl, Nat.le_of_ble_eq_true rfl⟩ 0 rfl rfl rfl rfl (Nat.le_of_ble_eq_true rfl) ⟨Nat.le_of_ble_eq_true rfl, Nat.le_of_ble_eq_true rfl⟩ rfl rfl) rfl rfl rfl ⟨rfl, rfl⟩ ?_
            refine w_zret (pc := 60) hX hR dX8_isPicture_60 hm (fun hm => ?_)
            obtain rfl := som hm
            exact ⟨rfl, rfl⟩
          ·
            refine w_lvs [true, true, true, false] ?_
            refine lpr_ind (T := fun x25 : (Int32 × Int32 × Int32 × Int32) => WW G X 0 0 (wX8 G a_t m_s m_begun m_kept m_isKept m_past m_states m_text m_length m_far m_queue m_isOn m_steps m_wayCells m_turns m_visits m_wasSo m_bestAway m_bestMade m_bestFault m_isHere m_place m_reason x25.2.2.1 x25.2.2.2) [some (.ref (a_t 0)), some (.int x25.1), some (.int x25.2.1), none] 14 []) (fun self26 hself26 x25 hm => ?_) F ((0 : Int32), (0 : Int32), (0 : Int32), (1 : Int32)) hm
            unfold mX8_isPicture_L14 at hm
            refine w_iload_n (pc := 14) hX dX8_isPicture_14 rfl rfl ?_
            refine w_aload_n (pc := 15) hX dX8_isPicture_15 rfl rfl ?_
            refine gf_X8_length (pc := 16) hX dX8_isPicture_16 hX8 (List.mem_of_getElem? (i := 3) rfl) 0 rfl rfl ?_
            refine w_icmp_ge (pc := 19) (tgt := 172) hX dX8_isPicture_19 (by decide) hm (fun hm => ?_) (fun hm => ?_)
            ·
              exact w_lvs [true, true, false, false] (hj2 (x25.1, x25.2.2.1, x25.2.2.2) hm)
            ·
              refine w_aload_n (pc := 22) hX dX8_isPicture_22 rfl rfl ?_
              refine gf_X8_text (pc := 23) hX dX8_isPicture_23 hX8 (List.mem_of_getElem? (i := 4) rfl) 0 rfl rfl ?_
              refine w_iload_n (pc := 26) hX dX8_isPicture_26 rfl rfl ?_
              refine w_iald (pc := 27) hX dX8_isPicture_27 5 rfl hm (fun hm => ?_)
              refine w_istore_n (pc := 28) hX dX8_isPicture_28 rfl (Nat.le_of_ble_eq_true rfl) ?_
              refine w_iload_n (pc := 29) hX dX8_isPicture_29 rfl rfl ?_
              refine w_bipush (pc := 30) hX dX8_isPicture_30 bp_48 ?_
              refine w_bipush (pc := 32) hX dX8_isPicture_32 bp_57 ?_
              obtain ⟨r27, hr27, hm⟩ := bnd hm
              refine w_callpi (pc := 34) hX [] (runS (rest := []) hX [] (ctX8_in G (m_text x25.2.1.toNatClampNeg) (48 : Int32) (57 : Int32) r27 hr27) dX8_isPicture_34 3 gX8_isPicture_X8_in rfl hyX8_in.2 ⟨Nat.le_of_ble_eq_true rfl, Nat.le_of_ble_eq_true rfl⟩ rfl rfl (Nat.le_of_ble_eq_true rfl) ⟨Nat.le_of_ble_eq_true rfl, Nat.le_of_ble_eq_true rfl⟩ rfl rfl) rfl ⟨rfl, rfl⟩ ?_
              refine w_jn (T := fun x28 : (Int32 × Int32 × Int32) => WW G X 0 0 (wX8 G a_t m_s m_begun m_kept m_isKept m_past m_states m_text m_length m_far m_queue m_isOn m_steps m_wayCells m_turns m_visits m_wasSo m_bestAway m_bestMade m_bestFault m_isHere m_place m_reason x28.2.1 x28.2.2) [some (.ref (a_t 0)), some (.int x28.1), some (.int x25.2.1), none] 166 []) hm (fun x28 hm => ?_) (fun j29 hj29 hm => ?_)
              ·
                refine w_iinc (pc := 166) hX dX8_isPicture_166 rfl (Nat.le_of_ble_eq_true rfl) ic_1 ?_
                refine w_goto (pc := 169) (tgt := 14) hX dX8_isPicture_169 (by decide) ?_
                exact w_lvs [true, true, true, false] (hself26 (x28.1, x25.2.1 + (1 : Int32), x28.2.1, x28.2.2) hm)
              ·
                refine w_if_eq (pc := 37) (tgt := 110) hX dX8_isPicture_37 (by decide) hm (fun hm => ?_) (fun hm => ?_)
                ·
                  refine w_iload_n (pc := 110) hX dX8_isPicture_110 rfl rfl ?_
                  refine w_bipush (pc := 111) hX dX8_isPicture_111 bp_47 ?_
                  refine w_icmp_ne (pc := 113) (tgt := 159) hX dX8_isPicture_113 (by decide) hm (fun hm => ?_) (fun hm => ?_)
                  ·
                    exact w_lvs [true, false, true, false] (hj14 (x25.2.1, x25.2.2.1, x25.2.2.2) hm)
                  ·
                    refine w_iload_n (pc := 116) hX dX8_isPicture_116 rfl rfl ?_
                    refine w_if_le (pc := 117) (tgt := 159) hX dX8_isPicture_117 (by decide) hm (fun hm => ?_) (fun hm => ?_)
                    ·
                      exact w_lvs [true, false, true, false] (hj14 (x25.2.1, x25.2.2.1, x25.2.2.2) hm)
                    ·
                      refine w_iload_n (pc := 120) hX dX8_isPicture_120 rfl rfl ?_
                      refine w_aload_n (pc := 121) hX dX8_isPicture_121 rfl rfl ?_
                      refine gf_X8_wide (pc := 122) hX dX8_isPicture_122 hX8 (List.mem_of_getElem? (i := 1) rfl) 0 rfl rfl ?_
                      refine w_icmp_ne (pc := 125) (tgt := 159) hX dX8_isPicture_125 (by decide) hm (fun hm => ?_) (fun hm => ?_)
                      ·
                        exact w_lvs [true, false, true, false] (hj14 (x25.2.1, x25.2.2.1, x25.2.2.2) hm)
                      ·
                        refine w_aload_n (pc := 128) hX dX8_isPicture_128 rfl rfl ?_
                        refine gf_X8_high (pc := 129) hX dX8_isPicture_129 hX8 (List.mem_of_getElem? (i := 2) rfl) 0 rfl rfl ?_
                        refine w_bipush (pc := 132) hX dX8_isPicture_132 bp_6 ?_
                        refine w_icmp_ne (pc := 134) (tgt := 144) hX dX8_isPicture_134 (by decide) hm (fun hm => ?_) (fun hm => ?_)
                        ·
                          refine w_aload_n (pc := 144) hX dX8_isPicture_144 rfl rfl ?_
                          refine w_dup (pc := 145) hX dX8_isPicture_145 rfl ?_
                          refine gf_X8_high (pc := 146) hX dX8_isPicture_146 hX8 (List.mem_of_getElem? (i := 2) rfl) 0 rfl rfl ?_
                          refine w_iconst (pc := 149) hX dX8_isPicture_149 ic_1 ?_
                          refine w_iadd (pc := 150) hX dX8_isPicture_150 ?_
                          refine pf_X8_high (pc := 151) hX dX8_isPicture_151 hX8 (List.mem_of_getElem? (i := 2) rfl) 0 rfl rfl ?_
                          refine w_iconst (pc := 154) hX dX8_isPicture_154 ic_0 ?_
                          refine w_istore_n (pc := 155) hX dX8_isPicture_155 rfl (Nat.le_of_ble_eq_true rfl) ?_
                          refine w_goto (pc := 156) (tgt := 166) hX dX8_isPicture_156 (by decide) ?_
                          exact w_lvs [true, true, true, false] (hj29 ((0 : Int32), x25.2.2.1, x25.2.2.2 + (1 : Int32)) hm)
                        ·
                          exact w_lvs [true, false, true, false] (hj17 (x25.2.1, x25.2.2.1, x25.2.2.2) hm)
                ·
                  refine w_aload_n (pc := 40) hX dX8_isPicture_40 rfl rfl ?_
                  refine gf_X8_high (pc := 41) hX dX8_isPicture_41 hX8 (List.mem_of_getElem? (i := 2) rfl) 0 rfl rfl ?_
                  refine w_iconst (pc := 44) hX dX8_isPicture_44 ic_1 ?_
                  refine w_jn (T := fun x30 : Unit => WW G X 0 0 (wX8 G a_t m_s m_begun m_kept m_isKept m_past m_states m_text m_length m_far m_queue m_isOn m_steps m_wayCells m_turns m_visits m_wasSo m_bestAway m_bestMade m_bestFault m_isHere m_place m_reason x25.2.2.1 x25.2.2.2) [some (.ref (a_t 0)), some (.int x25.1), some (.int x25.2.1), none] 61 []) hm (fun x30 hm => ?_) (fun j31 hj31 hm => ?_)
                  ·
                    refine w_aload_n (pc := 61) hX dX8_isPicture_61 rfl rfl ?_
                    refine gf_X8_high (pc := 62) hX dX8_isPicture_62 hX8 (List.mem_of_getElem? (i := 2) rfl) 0 rfl rfl ?_
                    refine w_iconst (pc := 65) hX dX8_isPicture_65 ic_1 ?_
                    refine w_jn (T := fun x32 : Unit => WW G X 0 0 (wX8 G a_t m_s m_begun m_kept m_isKept m_past m_states m_text m_length m_far m_queue m_isOn m_steps m_wayCells m_turns m_visits m_wasSo m_bestAway m_bestMade m_bestFault m_isHere m_place m_reason x25.2.2.1 x25.2.2.2) [some (.ref (a_t 0)), some (.int x25.1), some (.int x25.2.1), none] 84 []) hm (fun x32 hm => ?_) (fun j33 hj33 hm => ?_)
                    ·
                      refine w_iinc (pc := 84) hX dX8_isPicture_84 rfl (Nat.le_of_ble_eq_true rfl) ic_1 ?_
                      refine w_aload_n (pc := 87) hX dX8_isPicture_87 rfl rfl ?_
                      refine w_aload_n (pc := 88) hX dX8_isPicture_88 rfl rfl ?_
                      refine gf_X8_high (pc := 89) hX dX8_isPicture_89 hX8 (List.mem_of_getElem? (i := 2) rfl) 0 rfl rfl ?_
                      refine w_iconst (pc := 92) hX dX8_isPicture_92 ic_1 ?_
                      refine w_jn (T := fun x34 : Int32 => WW G X 0 0 (wX8 G a_t m_s m_begun m_kept m_isKept m_past m_states m_text m_length m_far m_queue m_isOn m_steps m_wayCells m_turns m_visits m_wasSo m_bestAway m_bestMade m_bestFault m_isHere m_place m_reason x25.2.2.1 x25.2.2.2) [some (.ref (a_t 0)), some (.int (x25.1 + (1 : Int32))), some (.int x25.2.1), none] 104 [.int x34, .ref (a_t 0)]) hm (fun x34 hm => ?_) (fun j35 hj35 hm => ?_)
                      ·
                        refine pf_X8_wide (pc := 104) hX dX8_isPicture_104 hX8 (List.mem_of_getElem? (i := 1) rfl) 0 rfl rfl ?_
                        refine w_goto (pc := 107) (tgt := 166) hX dX8_isPicture_107 (by decide) ?_
                        exact w_lvs [true, true, true, false] (hj29 (x25.1 + (1 : Int32), x34, x25.2.2.2) hm)
                      ·
                        refine w_icmp_ne (pc := 93) (tgt := 100) hX dX8_isPicture_93 (by decide) hm (fun hm => ?_) (fun hm => ?_)
                        ·
                          refine w_aload_n (pc := 100) hX dX8_isPicture_100 rfl rfl ?_
                          refine gf_X8_wide (pc := 101) hX dX8_isPicture_101 hX8 (List.mem_of_getElem? (i := 1) rfl) 0 rfl rfl ?_
                          exact w_lvs [true, true, true, false] (hj35 x25.2.2.1 hm)
                        ·
                          refine w_iload_n (pc := 96) hX dX8_isPicture_96 rfl rfl ?_
                          refine w_goto (pc := 97) (tgt := 104) hX dX8_isPicture_97 (by decide) ?_
                          exact w_lvs [true, true, true, false] (hj35 (x25.1 + (1 : Int32)) hm)
                    ·
                      refine w_icmp_le (pc := 66) (tgt := 84) hX dX8_isPicture_66 (by decide) hm (fun hm => ?_) (fun hm => ?_)
                      ·
                        exact w_lvs [true, true, true, false] (hj33 () hm)
                      ·
                        refine w_iload_n (pc := 69) hX dX8_isPicture_69 rfl rfl ?_
                        refine w_aload_n (pc := 70) hX dX8_isPicture_70 rfl rfl ?_
                        refine gf_X8_wide (pc := 71) hX dX8_isPicture_71 hX8 (List.mem_of_getElem? (i := 1) rfl) 0 rfl rfl ?_
                        refine w_icmp_ne (pc := 74) (tgt := 84) hX dX8_isPicture_74 (by decide) hm (fun hm => ?_) (fun hm => ?_)
                        ·
                          exact w_lvs [true, true, true, false] (hj33 () hm)
                        ·
                          exact w_lvs [true, false, true, false] (hj20 (x25.2.1, x25.2.2.1, x25.2.2.2) hm)
                  ·
                    refine w_icmp_ne (pc := 45) (tgt := 61) hX dX8_isPicture_45 (by decide) hm (fun hm => ?_) (fun hm => ?_)
                    ·
                      exact w_lvs [true, true, true, false] (hj31 () hm)
                    ·
                      refine w_iload_n (pc := 48) hX dX8_isPicture_48 rfl rfl ?_
                      refine w_bipush (pc := 49) hX dX8_isPicture_49 bp_6 ?_
                      refine w_icmp_ne (pc := 51) (tgt := 61) hX dX8_isPicture_51 (by decide) hm (fun hm => ?_) (fun hm => ?_)
                      ·
                        exact w_lvs [true, true, true, false] (hj31 () hm)
                      ·
                        exact w_lvs [true, false, true, false] (hj23 (x25.2.1, x25.2.2.1, x25.2.2.2) hm)

theorem lX8_fault_X8 : ∀ w ∈ wsX80, w ∈ wsX8_fault := in_at [19, 20, 21, 22, 23, 24, 25, 26, 27, 28, 29, 30, 31, 32, 33, 34, 35, 36, 37, 38, 39, 40, 41, 42] (by decide +kernel)
set_option maxHeartbeats 4000000 in
set_option maxRecDepth 100000 in
theorem ctX8_fault (G : gT) (F : Nat) (a_t : Nat → Nat) (m_s : nF) (m_begun : nF) (m_kept : nF) (m_isKept : Int32) (m_past : nF) (m_states : Int32) (m_text : nF) (m_length : Int32) (m_far : nF) (m_queue : nF) (m_isOn : nF) (m_steps : nF) (m_wayCells : Int32) (m_turns : Int32) (m_visits : nF) (m_wasSo : nF) (m_bestAway : Int32) (m_bestMade : Int32) (m_bestFault : Int32) (m_isHere : nF) (m_place : Int32) (m_reason : Int32) (m_wide : Int32) (m_high : Int32) (g1 : Int32) (o : (Int32 × Int32 × Int32 × Int32 × Int32)) (hm : mX8_fault F m_text m_length m_place m_reason m_wide m_high g1 = some o) : CT G yX8_fault wsX8_fault rmX8_fault [.ref (a_t 0), .int g1] (wX8 G a_t m_s m_begun m_kept m_isKept m_past m_states m_text m_length m_far m_queue m_isOn m_steps m_wayCells m_turns m_visits m_wasSo m_bestAway m_bestMade m_bestFault m_isHere m_place m_reason m_wide m_high) (fun v w => v = some (.int o.1) ∧ w = wX8 G a_t m_s m_begun m_kept m_isKept m_past m_states m_text m_length m_far m_queue m_isOn m_steps m_wayCells m_turns m_visits m_wasSo m_bestAway m_bestMade m_bestFault m_isHere o.2.1 o.2.2.1 o.2.2.2.1 o.2.2.2.2) := by
  refine CT_of (cc := cX8_fault) (maxL := 2) (ret := (some .int)) 0 (by decide +kernel) rfl rfl (cat_ok rfl) (fun X hX hR hN => ?_)
  have hX : Ok G X cX8_fault RX8 wsX8_fault 2 rmX8_fault := hX
  have hX8 : ∀ w ∈ wsX80, w ∈ wsX8_fault := lX8_fault_X8
  unfold mX8_fault at hm
  refine w_iload_n (pc := 0) hX dX8_fault_0 rfl rfl ?_
  refine w_iconst (pc := 1) hX dX8_fault_1 ic_0 ?_
  refine w_iconst (pc := 2) hX dX8_fault_2 ic_1 ?_
  obtain ⟨r1, hr1, hm⟩ := bnd hm
  refine w_callpi (pc := 3) hX [] (runS (rest := []) hX [] (ctX8_in G g1 (0 : Int32) (1 : Int32) r1 hr1) dX8_fault_3 3 gX8_fault_X8_in rfl hyX8_in.2 ⟨Nat.le_of_ble_eq_true rfl, Nat.le_of_ble_eq_true rfl⟩ rfl rfl (Nat.le_of_ble_eq_true rfl) ⟨Nat.le_of_ble_eq_true rfl, Nat.le_of_ble_eq_true rfl⟩ rfl rfl) rfl ⟨rfl, rfl⟩ ?_
  refine w_if_ne (pc := 6) (tgt := 11) hX dX8_fault_6 (by decide) hm (fun hm => ?_) (fun hm => ?_)
  ·
    refine w_aload_n (pc := 11) hX dX8_fault_11 rfl rfl ?_
    obtain ⟨r2, hr2, hm⟩ := bnd hm
    refine w_calldi (pc := 12) (ws' := wX8 G a_t m_s m_begun m_kept m_isKept m_past m_states m_text m_length m_far m_queue m_isOn m_steps m_wayCells m_turns m_visits m_wasSo m_bestAway m_bestMade m_bestFault m_isHere r2.2.1 r2.2.2.1 r2.2.2.2.1 r2.2.2.2.2) hX [0, 1, 2, 3, 4, 5, 6, 7, 8, 9, 10, 11, 12] (runV (rest := []) hX [0, 1, 2, 3, 4, 5, 6, 7, 8, 9, 10, 11, 12] (ctX8_isPicture G F a_t m_s m_begun m_kept m_isKept m_past m_states m_text m_length m_far m_queue m_isOn m_steps m_wayCells m_turns m_visits m_wasSo m_bestAway m_bestMade m_bestFault m_isHere m_place m_reason m_wide m_high r2 hr2) dX8_fault_12 0 gX8_fault_X8_isPicture rfl hyX8_isPicture ⟨Nat.le_of_ble_eq_true rfl, Nat.le_of_ble_eq_true rfl⟩ 0 rfl rfl rfl rfl (Nat.le_of_ble_eq_true rfl) ⟨Nat.le_of_ble_eq_true rfl, Nat.le_of_ble_eq_true rfl⟩ rfl rfl) rfl rfl rfl ⟨rfl, rfl⟩ ?_
    refine w_if_eq (pc := 15) (tgt := 21) hX dX8_fault_15 (by decide) hm (fun hm => ?_) (fun hm => ?_)
    ·
      refine w_iload_n (pc := 21) hX dX8_fault_21 rfl rfl ?_
      refine w_jn (T := fun x3 : Int32 => WW G X 0 0 (wX8 G a_t m_s m_begun m_kept m_isKept m_past m_states m_text m_length m_far m_queue m_isOn m_steps m_wayCells m_turns m_visits m_wasSo m_bestAway m_bestMade m_bestFault m_isHere r2.2.1 r2.2.2.1 r2.2.2.2.1 r2.2.2.2.2) [none, none] 36 [.int x3]) hm (fun x3 hm => ?_) (fun j4 hj4 hm => ?_)
      ·
        obtain rfl := som hm
        exact w_iret (pc := 36) hX hR dX8_fault_36 ⟨rfl, rfl⟩
      ·
        refine w_if_ne (pc := 22) (tgt := 32) hX dX8_fault_22 (by decide) hm (fun hm => ?_) (fun hm => ?_)
        ·
          refine w_aload_n (pc := 32) hX dX8_fault_32 rfl rfl ?_
          refine gf_X8_reason (pc := 33) hX dX8_fault_33 hX8 (List.mem_of_getElem? (i := 2) rfl) 0 rfl rfl ?_
          exact w_lvs [false, false] (hj4 r2.2.2.1 hm)
        ·
          refine w_aload_n (pc := 25) hX dX8_fault_25 rfl rfl ?_
          refine gf_X8_place (pc := 26) hX dX8_fault_26 hX8 (List.mem_of_getElem? (i := 1) rfl) 0 rfl rfl ?_
          refine w_goto (pc := 29) (tgt := 36) hX dX8_fault_29 (by decide) ?_
          exact w_lvs [false, false] (hj4 r2.2.1 hm)
    ·
      refine w_bipush (pc := 18) hX dX8_fault_18 bp_m4 ?_
      obtain rfl := som hm
      exact w_iret (pc := 20) hX hR dX8_fault_20 ⟨rfl, rfl⟩
  ·
    refine w_iconst (pc := 9) hX dX8_fault_9 ic_m1 ?_
    obtain rfl := som hm
    exact w_iret (pc := 10) hX hR dX8_fault_10 ⟨rfl, rfl⟩

theorem lX8_read_X8 : ∀ w ∈ wsX80, w ∈ wsX8_read := in_at [39, 40, 41, 42, 43, 44, 45, 46, 47, 48, 49, 50, 51, 52, 53, 54, 55, 56, 57, 58, 59, 60, 61, 62] (by decide +kernel)
set_option maxHeartbeats 4000000 in
set_option maxRecDepth 100000 in
theorem ctX8_read (G : gT) (F : Nat) (a_t : Nat → Nat) (m_s : nF) (m_begun : nF) (m_kept : nF) (m_isKept : Int32) (m_past : nF) (m_states : Int32) (m_text : nF) (m_length : Int32) (m_far : nF) (m_queue : nF) (m_isOn : nF) (m_steps : nF) (m_wayCells : Int32) (m_turns : Int32) (m_visits : nF) (m_wasSo : nF) (m_bestAway : Int32) (m_bestMade : Int32) (m_bestFault : Int32) (m_isHere : nF) (m_place : Int32) (m_reason : Int32) (m_wide : Int32) (m_high : Int32) (o : (Int32 × nF × nF × nF × Int32 × Int32 × Int32 × Int32 × Int32)) (hm : mX8_read F m_s m_begun m_past m_states m_text m_length m_place m_reason m_wide m_high = some o) : CT G yX8_read wsX8_read rmX8_read [.ref (a_t 0)] (wX8 G a_t m_s m_begun m_kept m_isKept m_past m_states m_text m_length m_far m_queue m_isOn m_steps m_wayCells m_turns m_visits m_wasSo m_bestAway m_bestMade m_bestFault m_isHere m_place m_reason m_wide m_high) (fun v w => v = some (.int o.1) ∧ w = wX8 G a_t o.2.1 o.2.2.1 m_kept m_isKept o.2.2.2.1 o.2.2.2.2.1 m_text m_length m_far m_queue m_isOn m_steps m_wayCells m_turns m_visits m_wasSo m_bestAway m_bestMade m_bestFault m_isHere o.2.2.2.2.2.1 o.2.2.2.2.2.2.1 o.2.2.2.2.2.2.2.1 o.2.2.2.2.2.2.2.2) := by
  refine CT_of (cc := cX8_read) (maxL := 2) (ret := (some .int)) 1 (by decide +kernel) rfl rfl (cat_ok rfl) (fun X hX hR hN => ?_)
  have hX : Ok G X cX8_read RX8 wsX8_read 2 rmX8_read := hX
  have hX8 : ∀ w ∈ wsX80, w ∈ wsX8_read := lX8_read_X8
  unfold mX8_read at hm
  refine w_aload_n (pc := 0) hX dX8_read_0 rfl rfl ?_
  obtain ⟨r1, hr1, hm⟩ := bnd hm
  refine w_calldv (pc := 1) (ws' := wX8 G a_t m_s r1 m_kept m_isKept m_past m_states m_text m_length m_far m_queue m_isOn m_steps m_wayCells m_turns m_visits m_wasSo m_bestAway m_bestMade m_bestFault m_isHere m_place m_reason m_wide m_high) hX [0, 1, 2, 3, 4, 5, 6, 7, 8, 9, 10, 11, 12] (runV (rest := []) hX [0, 1, 2, 3, 4, 5, 6, 7, 8, 9, 10, 11, 12] (ctX8_begins G F a_t m_s m_begun m_kept m_isKept m_past m_states m_text m_length m_far m_queue m_isOn m_steps m_wayCells m_turns m_visits m_wasSo m_bestAway m_bestMade m_bestFault m_isHere m_place m_reason m_wide m_high r1 hr1) dX8_read_1 0 gX8_read_X8_begins rfl hyX8_begins ⟨Nat.le_of_ble_eq_true rfl, Nat.le_of_ble_eq_true rfl⟩ 0 rfl rfl rfl rfl (Nat.le_of_ble_eq_true rfl) ⟨Nat.le_of_ble_eq_true rfl, Nat.le_of_ble_eq_true rfl⟩ rfl rfl) rfl rfl rfl ⟨rfl, rfl⟩ ?_
  refine w_aload_n (pc := 4) hX dX8_read_4 rfl rfl ?_
  obtain ⟨r2, hr2, hm⟩ := bnd hm
  refine w_calldi (pc := 5) (ws' := wX8 G a_t m_s r1 m_kept m_isKept m_past m_states m_text m_length m_far m_queue m_isOn m_steps m_wayCells m_turns m_visits m_wasSo m_bestAway m_bestMade m_bestFault m_isHere r2.2.1 r2.2.2.1 r2.2.2.2.1 r2.2.2.2.2) hX [0, 1, 2, 3, 4, 5, 6, 7, 8, 9, 10, 11, 12] (runV (rest := []) hX [0, 1, 2, 3, 4, 5, 6, 7, 8, 9, 10, 11, 12] (ctX8_isPicture G F a_t m_s r1 m_kept m_isKept m_past m_states m_text m_length m_far m_queue m_isOn m_steps m_wayCells m_turns m_visits m_wasSo m_bestAway m_bestMade m_bestFault m_isHere m_place m_reason m_wide m_high r2 hr2) dX8_read_5 0 gX8_read_X8_isPicture rfl hyX8_isPicture ⟨Nat.le_of_ble_eq_true rfl, Nat.le_of_ble_eq_true rfl⟩ 0 rfl rfl rfl rfl (Nat.le_of_ble_eq_true rfl) ⟨Nat.le_of_ble_eq_true rfl, Nat.le_of_ble_eq_true rfl⟩ rfl rfl) rfl rfl rfl ⟨rfl, rfl⟩ ?_
  refine w_if_ne (pc := 8) (tgt := 14) hX dX8_read_8 (by decide) hm (fun hm => ?_) (fun hm => ?_)
  ·
    refine w_aload_n (pc := 14) hX dX8_read_14 rfl rfl ?_
    refine w_aload_n (pc := 15) hX dX8_read_15 rfl rfl ?_
    refine gf_X8_wide (pc := 16) hX dX8_read_16 hX8 (List.mem_of_getElem? (i := 1) rfl) 0 rfl rfl ?_
    refine w_aload_n (pc := 19) hX dX8_read_19 rfl rfl ?_
    refine gf_X8_high (pc := 20) hX dX8_read_20 hX8 (List.mem_of_getElem? (i := 2) rfl) 0 rfl rfl ?_
    obtain ⟨r3, hr3, hm⟩ := bnd hm
    refine w_calldv (pc := 23) (ws' := wX8 G a_t r3 r1 m_kept m_isKept m_past m_states m_text m_length m_far m_queue m_isOn m_steps m_wayCells m_turns m_visits m_wasSo m_bestAway m_bestMade m_bestFault m_isHere r2.2.1 r2.2.2.1 r2.2.2.2.1 r2.2.2.2.2) hX [0, 1, 2, 3, 4, 5, 6, 7, 8, 9, 10, 11, 12] (runV (rest := []) hX [0, 1, 2, 3, 4, 5, 6, 7, 8, 9, 10, 11, 12] (ctX8_lightens G F a_t m_s r1 m_kept m_isKept m_past m_states m_text m_length m_far m_queue m_isOn m_steps m_wayCells m_turns m_visits m_wasSo m_bestAway m_bestMade m_bestFault m_isHere r2.2.1 r2.2.2.1 r2.2.2.2.1 r2.2.2.2.2 r2.2.2.2.1 r2.2.2.2.2 r3 hr3) dX8_read_23 2 gX8_read_X8_lightens rfl hyX8_lightens ⟨Nat.le_of_ble_eq_true rfl, Nat.le_of_ble_eq_true rfl⟩ 0 rfl rfl rfl rfl (Nat.le_of_ble_eq_true rfl) ⟨Nat.le_of_ble_eq_true rfl, Nat.le_of_ble_eq_true rfl⟩ rfl rfl) rfl rfl rfl ⟨rfl, rfl⟩ ?_
    refine w_iconst (pc := 26) hX dX8_read_26 ic_0 ?_
    refine w_istore_n (pc := 27) hX dX8_read_27 rfl (Nat.le_of_ble_eq_true rfl) ?_
    refine w_jn (T := fun x4 : nF => WW G X 0 0 (wX8 G a_t x4 r1 m_kept m_isKept m_past m_states m_text m_length m_far m_queue m_isOn m_steps m_wayCells m_turns m_visits m_wasSo m_bestAway m_bestMade m_bestFault m_isHere r2.2.1 r2.2.2.1 r2.2.2.2.1 r2.2.2.2.2) [some (.ref (a_t 0)), none] 67 []) hm (fun x4 hm => ?_) (fun j5 hj5 hm => ?_)
    ·
      unfold mX8_read_K67 at hm
      refine w_aload_n (pc := 67) hX dX8_read_67 rfl rfl ?_
      refine w_aload_n (pc := 68) hX dX8_read_68 rfl rfl ?_
      obtain ⟨r6, hr6, hm⟩ := bnd hm
      refine w_callpi (pc := 69) hX [0, 1, 2, 3, 4, 5, 6, 7, 8, 9, 10, 11, 12] (runV (rest := [.ref (a_t 0)]) hX [0, 1, 2, 3, 4, 5, 6, 7, 8, 9, 10, 11, 12] (ctX8_cells G a_t x4 r1 m_kept m_isKept m_past m_states m_text m_length m_far m_queue m_isOn m_steps m_wayCells m_turns m_visits m_wasSo m_bestAway m_bestMade m_bestFault m_isHere r2.2.1 r2.2.2.1 r2.2.2.2.1 r2.2.2.2.2 r6 hr6) dX8_read_69 0 gX8_read_X8_cells rfl hyX8_cells ⟨Nat.le_of_ble_eq_true rfl, Nat.le_of_ble_eq_true rfl⟩ 0 rfl rfl rfl rfl (Nat.le_of_ble_eq_true rfl) ⟨Nat.le_of_ble_eq_true rfl, Nat.le_of_ble_eq_true rfl⟩ rfl rfl) rfl ⟨rfl, rfl⟩ ?_
      obtain ⟨r7, hr7, hm⟩ := bnd hm
      refine w_calldi (pc := 72) (ws' := wX8 G a_t r7.2.1 r1 m_kept m_isKept r7.2.2.1 r7.2.2.2 m_text m_length m_far m_queue m_isOn m_steps m_wayCells m_turns m_visits m_wasSo m_bestAway m_bestMade m_bestFault m_isHere r2.2.1 r2.2.2.1 r2.2.2.2.1 r2.2.2.2.2) hX [0, 1, 2, 3, 4, 5, 6, 7, 8, 9, 10, 11, 12] (runV (rest := []) hX [0, 1, 2, 3, 4, 5, 6, 7, 8, 9, 10, 11, 12] (ctX8_acted G F a_t x4 r1 m_kept m_isKept m_past m_states m_text m_length m_far m_queue m_isOn m_steps m_wayCells m_turns m_visits m_wasSo m_bestAway m_bestMade m_bestFault m_isHere r2.2.1 r2.2.2.1 r2.2.2.2.1 r2.2.2.2.2 r6 r7 hr7) dX8_read_72 1 gX8_read_X8_acted rfl hyX8_acted ⟨Nat.le_of_ble_eq_true rfl, Nat.le_of_ble_eq_true rfl⟩ 0 rfl rfl rfl rfl (Nat.le_of_ble_eq_true rfl) ⟨Nat.le_of_ble_eq_true rfl, Nat.le_of_ble_eq_true rfl⟩ rfl rfl) rfl rfl rfl ⟨rfl, rfl⟩ ?_
      obtain rfl := som hm
      exact w_iret (pc := 75) hX hR dX8_read_75 ⟨rfl, rfl⟩
    ·
      refine w_lvs [true, true] ?_
      refine lpr_ind (T := fun x8 : (Int32 × nF) => WW G X 0 0 (wX8 G a_t x8.2 r1 m_kept m_isKept m_past m_states m_text m_length m_far m_queue m_isOn m_steps m_wayCells m_turns m_visits m_wasSo m_bestAway m_bestMade m_bestFault m_isHere r2.2.1 r2.2.2.1 r2.2.2.2.1 r2.2.2.2.2) [some (.ref (a_t 0)), some (.int x8.1)] 28 []) (fun self9 hself9 x8 hm => ?_) F ((0 : Int32), r3) hm
      unfold mX8_read_L28 at hm
      refine w_iload_n (pc := 28) hX dX8_read_28 rfl rfl ?_
      refine w_aload_n (pc := 29) hX dX8_read_29 rfl rfl ?_
      obtain ⟨r10, hr10, hm⟩ := bnd hm
      refine w_callpi (pc := 30) hX [0, 1, 2, 3, 4, 5, 6, 7, 8, 9, 10, 11, 12] (runV (rest := [.int x8.1]) hX [0, 1, 2, 3, 4, 5, 6, 7, 8, 9, 10, 11, 12] (ctX8_cells G a_t x8.2 r1 m_kept m_isKept m_past m_states m_text m_length m_far m_queue m_isOn m_steps m_wayCells m_turns m_visits m_wasSo m_bestAway m_bestMade m_bestFault m_isHere r2.2.1 r2.2.2.1 r2.2.2.2.1 r2.2.2.2.2 r10 hr10) dX8_read_30 0 gX8_read_X8_cells rfl hyX8_cells ⟨Nat.le_of_ble_eq_true rfl, Nat.le_of_ble_eq_true rfl⟩ 0 rfl rfl rfl rfl (Nat.le_of_ble_eq_true rfl) ⟨Nat.le_of_ble_eq_true rfl, Nat.le_of_ble_eq_true rfl⟩ rfl rfl) rfl ⟨rfl, rfl⟩ ?_
      refine w_icmp_ge (pc := 33) (tgt := 67) hX dX8_read_33 (by decide) hm (fun hm => ?_) (fun hm => ?_)
      ·
        exact w_lvs [true, false] (hj5 x8.2 hm)
      ·
        refine w_aload_n (pc := 36) hX dX8_read_36 rfl rfl ?_
        refine gf_X8_s (pc := 37) hX dX8_read_37 hX8 (List.mem_of_getElem? (i := 3) rfl) 0 rfl rfl ?_
        refine w_bipush (pc := 40) hX dX8_read_40 bp_6 ?_
        refine w_iload_n (pc := 42) hX dX8_read_42 rfl rfl ?_
        refine w_iadd (pc := 43) hX dX8_read_43 ?_
        refine w_aload_n (pc := 44) hX dX8_read_44 rfl rfl ?_
        refine gf_X8_text (pc := 45) hX dX8_read_45 hX8 (List.mem_of_getElem? (i := 4) rfl) 0 rfl rfl ?_
        refine w_iload_n (pc := 48) hX dX8_read_48 rfl rfl ?_
        refine w_iload_n (pc := 49) hX dX8_read_49 rfl rfl ?_
        refine w_aload_n (pc := 50) hX dX8_read_50 rfl rfl ?_
        refine gf_X8_wide (pc := 51) hX dX8_read_51 hX8 (List.mem_of_getElem? (i := 1) rfl) 0 rfl rfl ?_
        refine w_idiv (pc := 54) hX dX8_read_54 hm (fun hm => ?_)
        refine w_iadd (pc := 55) hX dX8_read_55 ?_
        refine w_iald (pc := 56) hX dX8_read_56 5 rfl hm (fun hm => ?_)
        refine w_bipush (pc := 57) hX dX8_read_57 bp_48 ?_
        refine w_isub (pc := 59) hX dX8_read_59 ?_
        refine w_iast (pc := 60) hX dX8_read_60 1 rfl hm (fun hm => ?_)
        refine w_iinc (pc := 61) hX dX8_read_61 rfl (Nat.le_of_ble_eq_true rfl) ic_1 ?_
        refine w_goto (pc := 64) (tgt := 28) hX dX8_read_64 (by decide) ?_
        exact w_lvs [true, true] (hself9 (x8.1 + (1 : Int32), (upd x8.2 ((6 : Int32) + x8.1).toNatClampNeg ((m_text (x8.1 + (x8.1 / r2.2.2.2.1)).toNatClampNeg) - (48 : Int32)))) hm)
  ·
    refine w_bipush (pc := 11) hX dX8_read_11 bp_m2 ?_
    obtain rfl := som hm
    exact w_iret (pc := 13) hX hR dX8_read_13 ⟨rfl, rfl⟩
