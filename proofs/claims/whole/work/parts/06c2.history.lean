/-! HISTORY: push -/
set_option maxHeartbeats 4000000 in
set_option maxRecDepth 100000 in
theorem ctX2_push_0_0 (G : gT) (F : Nat) (a : Nat → Nat → Nat) (a_p1 : Nat → Nat) (h : HS) (z o : MZ) (hs : h.1 = 0) (hd : (0 + (h.2.1)) % 4 = 0) (hm : mX3_copyFrom F (h.2.2 0) z = some o) : CT G yX2_push wsX2_push rmX2_push [.ref (a 3 0), .ref (a_p1 0)] (wX2 G a h ++ wX3 G a_p1 z) (fun v w => v = none ∧ w = wX2 G a (1, h.2.1, fun j => if j = 0 then o else h.2.2 j) ++ wX3 G a_p1 z) := by
  obtain ⟨hst, rot, p⟩ := h
  dsimp only at hs hd hm ⊢
  subst hs
  refine CT_of (cc := cX2_push) (maxL := 3) (ret := none) 1 (by decide +kernel) rfl rfl (cat_ok rfl) (fun X hX hR hN => ?_)
  have hX : Ok G X cX2_push RX2 wsX2_push 3 rmX2_push := hX
  have hX2 : ∀ w ∈ wsX20, w ∈ wsX2_push := lX2_push_X2
  refine w_aload_n (pc := 0) hX dX2_push_0 rfl rfl ?_
  refine gf_X2_states (pc := 1) hX dX2_push_1 hX2 (List.mem_of_getElem? (i := 1) rfl) 0 rfl rfl ?_
  refine w_iconst (pc := 4) hX dX2_push_4 ic_4 ?_
  refine w_icmp_ltT (pc := 5) (tgt := 12) hX dX2_push_5 (by decide) (show (0 : Int32) < 4 from by decide) ?_
  refine w_aload_n (pc := 12) hX dX2_push_12 rfl rfl ?_
  refine w_aload_n (pc := 13) hX dX2_push_13 rfl rfl ?_
  refine gf_X2_states (pc := 14) hX dX2_push_14 hX2 (List.mem_of_getElem? (i := 1) rfl) 0 rfl rfl ?_
  refine w_callpo (pc := 17) hX [0, 1] (runV (rest := []) hX [0, 1] (ctX2_stateAt_0 G a (0 : Int32) (rot) 0 hd) dX2_push_17 1 gX2_push_X2_stateAt rfl hyX2_stateAt ⟨Nat.le_of_ble_eq_true rfl, Nat.le_of_ble_eq_true rfl⟩ 0 rfl rfl rfl rfl (Nat.le_of_ble_eq_true rfl) ⟨Nat.le_of_ble_eq_true rfl, Nat.le_of_ble_eq_true rfl⟩ rfl (by decide +kernel)) rfl ⟨rfl, rfl⟩ ?_
  refine w_astore_n (pc := 20) hX dX2_push_20 rfl (Nat.le_of_ble_eq_true rfl) ?_
  refine w_aload_n (pc := 21) hX dX2_push_21 rfl rfl ?_
  refine w_ifnull (pc := 22) hX dX2_push_22 ?_
  refine w_aload_n (pc := 25) hX dX2_push_25 rfl rfl ?_
  refine w_aload_n (pc := 26) hX dX2_push_26 rfl rfl ?_
  refine w_calldv (pc := 27) (ws' := wX2 G a ((0 : Int32), rot, fun j => if j = 0 then o else p j) ++ wX3 G a_p1 z) (os := [none, none, some 0, some 1, some 2, some 3, some 4, none, none, none, none, none, none, none, none, none, none, none, none, none, none, none, some 5, some 6, some 7, some 8, some 9]) 27 hX [2, 3, 4, 5, 6, 22, 23, 24, 25, 26] (runV (rest := []) hX [2, 3, 4, 5, 6, 22, 23, 24, 25, 26] (ctX3_copyFrom G F (a 11) a_p1 (p 0) z o hm) dX2_push_27 1 gX2_push_X3_copyFrom rfl hyX3_copyFrom ⟨Nat.le_of_ble_eq_true rfl, Nat.le_of_ble_eq_true rfl⟩ 2 rfl rfl rfl rfl (Nat.le_of_ble_eq_true rfl) ⟨Nat.le_of_ble_eq_true rfl, Nat.le_of_ble_eq_true rfl⟩ rfl (by decide +kernel)) rfl rfl rfl (by decide +kernel) rfl ⟨rfl, rfl⟩ ?_
  refine w_aload_n (pc := 30) hX dX2_push_30 rfl rfl ?_
  refine w_dup (pc := 31) hX dX2_push_31 rfl ?_
  refine gf_X2_states (pc := 32) hX dX2_push_32 hX2 (List.mem_of_getElem? (i := 1) rfl) 0 rfl rfl ?_
  refine w_iconst (pc := 35) hX dX2_push_35 ic_1 ?_
  refine w_iadd (pc := 36) hX dX2_push_36 ?_
  refine pf_X2_states (pc := 37) hX dX2_push_37 hX2 (List.mem_of_getElem? (i := 1) rfl) 0 rfl rfl ?_
  exact w_vret (pc := 40) hX hR dX2_push_40 ⟨rfl, rfl⟩
set_option maxHeartbeats 4000000 in
set_option maxRecDepth 100000 in
theorem ctX2_push_0_1 (G : gT) (F : Nat) (a : Nat → Nat → Nat) (a_p1 : Nat → Nat) (h : HS) (z o : MZ) (hs : h.1 = 0) (hd : (0 + (h.2.1)) % 4 = 1) (hm : mX3_copyFrom F (h.2.2 1) z = some o) : CT G yX2_push wsX2_push rmX2_push [.ref (a 3 0), .ref (a_p1 0)] (wX2 G a h ++ wX3 G a_p1 z) (fun v w => v = none ∧ w = wX2 G a (1, h.2.1, fun j => if j = 1 then o else h.2.2 j) ++ wX3 G a_p1 z) := by
  obtain ⟨hst, rot, p⟩ := h
  dsimp only at hs hd hm ⊢
  subst hs
  refine CT_of (cc := cX2_push) (maxL := 3) (ret := none) 1 (by decide +kernel) rfl rfl (cat_ok rfl) (fun X hX hR hN => ?_)
  have hX : Ok G X cX2_push RX2 wsX2_push 3 rmX2_push := hX
  have hX2 : ∀ w ∈ wsX20, w ∈ wsX2_push := lX2_push_X2
  refine w_aload_n (pc := 0) hX dX2_push_0 rfl rfl ?_
  refine gf_X2_states (pc := 1) hX dX2_push_1 hX2 (List.mem_of_getElem? (i := 1) rfl) 0 rfl rfl ?_
  refine w_iconst (pc := 4) hX dX2_push_4 ic_4 ?_
  refine w_icmp_ltT (pc := 5) (tgt := 12) hX dX2_push_5 (by decide) (show (0 : Int32) < 4 from by decide) ?_
  refine w_aload_n (pc := 12) hX dX2_push_12 rfl rfl ?_
  refine w_aload_n (pc := 13) hX dX2_push_13 rfl rfl ?_
  refine gf_X2_states (pc := 14) hX dX2_push_14 hX2 (List.mem_of_getElem? (i := 1) rfl) 0 rfl rfl ?_
  refine w_callpo (pc := 17) hX [0, 1] (runV (rest := []) hX [0, 1] (ctX2_stateAt_0 G a (0 : Int32) (rot) 1 hd) dX2_push_17 1 gX2_push_X2_stateAt rfl hyX2_stateAt ⟨Nat.le_of_ble_eq_true rfl, Nat.le_of_ble_eq_true rfl⟩ 0 rfl rfl rfl rfl (Nat.le_of_ble_eq_true rfl) ⟨Nat.le_of_ble_eq_true rfl, Nat.le_of_ble_eq_true rfl⟩ rfl (by decide +kernel)) rfl ⟨rfl, rfl⟩ ?_
  refine w_astore_n (pc := 20) hX dX2_push_20 rfl (Nat.le_of_ble_eq_true rfl) ?_
  refine w_aload_n (pc := 21) hX dX2_push_21 rfl rfl ?_
  refine w_ifnull (pc := 22) hX dX2_push_22 ?_
  refine w_aload_n (pc := 25) hX dX2_push_25 rfl rfl ?_
  refine w_aload_n (pc := 26) hX dX2_push_26 rfl rfl ?_
  refine w_calldv (pc := 27) (ws' := wX2 G a ((0 : Int32), rot, fun j => if j = 1 then o else p j) ++ wX3 G a_p1 z) (os := [none, none, none, none, none, none, none, some 0, some 1, some 2, some 3, some 4, none, none, none, none, none, none, none, none, none, none, some 5, some 6, some 7, some 8, some 9]) 27 hX [7, 8, 9, 10, 11, 22, 23, 24, 25, 26] (runV (rest := []) hX [7, 8, 9, 10, 11, 22, 23, 24, 25, 26] (ctX3_copyFrom G F (a 12) a_p1 (p 1) z o hm) dX2_push_27 1 gX2_push_X3_copyFrom rfl hyX3_copyFrom ⟨Nat.le_of_ble_eq_true rfl, Nat.le_of_ble_eq_true rfl⟩ 7 rfl rfl rfl rfl (Nat.le_of_ble_eq_true rfl) ⟨Nat.le_of_ble_eq_true rfl, Nat.le_of_ble_eq_true rfl⟩ rfl (by decide +kernel)) rfl rfl rfl (by decide +kernel) rfl ⟨rfl, rfl⟩ ?_
  refine w_aload_n (pc := 30) hX dX2_push_30 rfl rfl ?_
  refine w_dup (pc := 31) hX dX2_push_31 rfl ?_
  refine gf_X2_states (pc := 32) hX dX2_push_32 hX2 (List.mem_of_getElem? (i := 1) rfl) 0 rfl rfl ?_
  refine w_iconst (pc := 35) hX dX2_push_35 ic_1 ?_
  refine w_iadd (pc := 36) hX dX2_push_36 ?_
  refine pf_X2_states (pc := 37) hX dX2_push_37 hX2 (List.mem_of_getElem? (i := 1) rfl) 0 rfl rfl ?_
  exact w_vret (pc := 40) hX hR dX2_push_40 ⟨rfl, rfl⟩
set_option maxHeartbeats 4000000 in
set_option maxRecDepth 100000 in
theorem ctX2_push_0_2 (G : gT) (F : Nat) (a : Nat → Nat → Nat) (a_p1 : Nat → Nat) (h : HS) (z o : MZ) (hs : h.1 = 0) (hd : (0 + (h.2.1)) % 4 = 2) (hm : mX3_copyFrom F (h.2.2 2) z = some o) : CT G yX2_push wsX2_push rmX2_push [.ref (a 3 0), .ref (a_p1 0)] (wX2 G a h ++ wX3 G a_p1 z) (fun v w => v = none ∧ w = wX2 G a (1, h.2.1, fun j => if j = 2 then o else h.2.2 j) ++ wX3 G a_p1 z) := by
  obtain ⟨hst, rot, p⟩ := h
  dsimp only at hs hd hm ⊢
  subst hs
  refine CT_of (cc := cX2_push) (maxL := 3) (ret := none) 1 (by decide +kernel) rfl rfl (cat_ok rfl) (fun X hX hR hN => ?_)
  have hX : Ok G X cX2_push RX2 wsX2_push 3 rmX2_push := hX
  have hX2 : ∀ w ∈ wsX20, w ∈ wsX2_push := lX2_push_X2
  refine w_aload_n (pc := 0) hX dX2_push_0 rfl rfl ?_
  refine gf_X2_states (pc := 1) hX dX2_push_1 hX2 (List.mem_of_getElem? (i := 1) rfl) 0 rfl rfl ?_
  refine w_iconst (pc := 4) hX dX2_push_4 ic_4 ?_
  refine w_icmp_ltT (pc := 5) (tgt := 12) hX dX2_push_5 (by decide) (show (0 : Int32) < 4 from by decide) ?_
  refine w_aload_n (pc := 12) hX dX2_push_12 rfl rfl ?_
  refine w_aload_n (pc := 13) hX dX2_push_13 rfl rfl ?_
  refine gf_X2_states (pc := 14) hX dX2_push_14 hX2 (List.mem_of_getElem? (i := 1) rfl) 0 rfl rfl ?_
  refine w_callpo (pc := 17) hX [0, 1] (runV (rest := []) hX [0, 1] (ctX2_stateAt_0 G a (0 : Int32) (rot) 2 hd) dX2_push_17 1 gX2_push_X2_stateAt rfl hyX2_stateAt ⟨Nat.le_of_ble_eq_true rfl, Nat.le_of_ble_eq_true rfl⟩ 0 rfl rfl rfl rfl (Nat.le_of_ble_eq_true rfl) ⟨Nat.le_of_ble_eq_true rfl, Nat.le_of_ble_eq_true rfl⟩ rfl (by decide +kernel)) rfl ⟨rfl, rfl⟩ ?_
  refine w_astore_n (pc := 20) hX dX2_push_20 rfl (Nat.le_of_ble_eq_true rfl) ?_
  refine w_aload_n (pc := 21) hX dX2_push_21 rfl rfl ?_
  refine w_ifnull (pc := 22) hX dX2_push_22 ?_
  refine w_aload_n (pc := 25) hX dX2_push_25 rfl rfl ?_
  refine w_aload_n (pc := 26) hX dX2_push_26 rfl rfl ?_
  refine w_calldv (pc := 27) (ws' := wX2 G a ((0 : Int32), rot, fun j => if j = 2 then o else p j) ++ wX3 G a_p1 z) (os := [none, none, none, none, none, none, none, none, none, none, none, none, some 0, some 1, some 2, some 3, some 4, none, none, none, none, none, some 5, some 6, some 7, some 8, some 9]) 27 hX [12, 13, 14, 15, 16, 22, 23, 24, 25, 26] (runV (rest := []) hX [12, 13, 14, 15, 16, 22, 23, 24, 25, 26] (ctX3_copyFrom G F (a 13) a_p1 (p 2) z o hm) dX2_push_27 1 gX2_push_X3_copyFrom rfl hyX3_copyFrom ⟨Nat.le_of_ble_eq_true rfl, Nat.le_of_ble_eq_true rfl⟩ 12 rfl rfl rfl rfl (Nat.le_of_ble_eq_true rfl) ⟨Nat.le_of_ble_eq_true rfl, Nat.le_of_ble_eq_true rfl⟩ rfl (by decide +kernel)) rfl rfl rfl (by decide +kernel) rfl ⟨rfl, rfl⟩ ?_
  refine w_aload_n (pc := 30) hX dX2_push_30 rfl rfl ?_
  refine w_dup (pc := 31) hX dX2_push_31 rfl ?_
  refine gf_X2_states (pc := 32) hX dX2_push_32 hX2 (List.mem_of_getElem? (i := 1) rfl) 0 rfl rfl ?_
  refine w_iconst (pc := 35) hX dX2_push_35 ic_1 ?_
  refine w_iadd (pc := 36) hX dX2_push_36 ?_
  refine pf_X2_states (pc := 37) hX dX2_push_37 hX2 (List.mem_of_getElem? (i := 1) rfl) 0 rfl rfl ?_
  exact w_vret (pc := 40) hX hR dX2_push_40 ⟨rfl, rfl⟩
set_option maxHeartbeats 4000000 in
set_option maxRecDepth 100000 in
theorem ctX2_push_0_3 (G : gT) (F : Nat) (a : Nat → Nat → Nat) (a_p1 : Nat → Nat) (h : HS) (z o : MZ) (hs : h.1 = 0) (hd : (0 + (h.2.1)) % 4 = 3) (hm : mX3_copyFrom F (h.2.2 3) z = some o) : CT G yX2_push wsX2_push rmX2_push [.ref (a 3 0), .ref (a_p1 0)] (wX2 G a h ++ wX3 G a_p1 z) (fun v w => v = none ∧ w = wX2 G a (1, h.2.1, fun j => if j = 3 then o else h.2.2 j) ++ wX3 G a_p1 z) := by
  obtain ⟨hst, rot, p⟩ := h
  dsimp only at hs hd hm ⊢
  subst hs
  refine CT_of (cc := cX2_push) (maxL := 3) (ret := none) 1 (by decide +kernel) rfl rfl (cat_ok rfl) (fun X hX hR hN => ?_)
  have hX : Ok G X cX2_push RX2 wsX2_push 3 rmX2_push := hX
  have hX2 : ∀ w ∈ wsX20, w ∈ wsX2_push := lX2_push_X2
  refine w_aload_n (pc := 0) hX dX2_push_0 rfl rfl ?_
  refine gf_X2_states (pc := 1) hX dX2_push_1 hX2 (List.mem_of_getElem? (i := 1) rfl) 0 rfl rfl ?_
  refine w_iconst (pc := 4) hX dX2_push_4 ic_4 ?_
  refine w_icmp_ltT (pc := 5) (tgt := 12) hX dX2_push_5 (by decide) (show (0 : Int32) < 4 from by decide) ?_
  refine w_aload_n (pc := 12) hX dX2_push_12 rfl rfl ?_
  refine w_aload_n (pc := 13) hX dX2_push_13 rfl rfl ?_
  refine gf_X2_states (pc := 14) hX dX2_push_14 hX2 (List.mem_of_getElem? (i := 1) rfl) 0 rfl rfl ?_
  refine w_callpo (pc := 17) hX [0, 1] (runV (rest := []) hX [0, 1] (ctX2_stateAt_0 G a (0 : Int32) (rot) 3 hd) dX2_push_17 1 gX2_push_X2_stateAt rfl hyX2_stateAt ⟨Nat.le_of_ble_eq_true rfl, Nat.le_of_ble_eq_true rfl⟩ 0 rfl rfl rfl rfl (Nat.le_of_ble_eq_true rfl) ⟨Nat.le_of_ble_eq_true rfl, Nat.le_of_ble_eq_true rfl⟩ rfl (by decide +kernel)) rfl ⟨rfl, rfl⟩ ?_
  refine w_astore_n (pc := 20) hX dX2_push_20 rfl (Nat.le_of_ble_eq_true rfl) ?_
  refine w_aload_n (pc := 21) hX dX2_push_21 rfl rfl ?_
  refine w_ifnull (pc := 22) hX dX2_push_22 ?_
  refine w_aload_n (pc := 25) hX dX2_push_25 rfl rfl ?_
  refine w_aload_n (pc := 26) hX dX2_push_26 rfl rfl ?_
  refine w_calldv (pc := 27) (ws' := wX2 G a ((0 : Int32), rot, fun j => if j = 3 then o else p j) ++ wX3 G a_p1 z) (os := [none, none, none, none, none, none, none, none, none, none, none, none, none, none, none, none, none, some 0, some 1, some 2, some 3, some 4, some 5, some 6, some 7, some 8, some 9]) 27 hX [17, 18, 19, 20, 21, 22, 23, 24, 25, 26] (runV (rest := []) hX [17, 18, 19, 20, 21, 22, 23, 24, 25, 26] (ctX3_copyFrom G F (a 14) a_p1 (p 3) z o hm) dX2_push_27 1 gX2_push_X3_copyFrom rfl hyX3_copyFrom ⟨Nat.le_of_ble_eq_true rfl, Nat.le_of_ble_eq_true rfl⟩ 17 rfl rfl rfl rfl (Nat.le_of_ble_eq_true rfl) ⟨Nat.le_of_ble_eq_true rfl, Nat.le_of_ble_eq_true rfl⟩ rfl (by decide +kernel)) rfl rfl rfl (by decide +kernel) rfl ⟨rfl, rfl⟩ ?_
  refine w_aload_n (pc := 30) hX dX2_push_30 rfl rfl ?_
  refine w_dup (pc := 31) hX dX2_push_31 rfl ?_
  refine gf_X2_states (pc := 32) hX dX2_push_32 hX2 (List.mem_of_getElem? (i := 1) rfl) 0 rfl rfl ?_
  refine w_iconst (pc := 35) hX dX2_push_35 ic_1 ?_
  refine w_iadd (pc := 36) hX dX2_push_36 ?_
  refine pf_X2_states (pc := 37) hX dX2_push_37 hX2 (List.mem_of_getElem? (i := 1) rfl) 0 rfl rfl ?_
  exact w_vret (pc := 40) hX hR dX2_push_40 ⟨rfl, rfl⟩
set_option maxHeartbeats 4000000 in
set_option maxRecDepth 100000 in
theorem ctX2_push_1_0 (G : gT) (F : Nat) (a : Nat → Nat → Nat) (a_p1 : Nat → Nat) (h : HS) (z o : MZ) (hs : h.1 = 1) (hd : (1 + (h.2.1)) % 4 = 0) (hm : mX3_copyFrom F (h.2.2 0) z = some o) : CT G yX2_push wsX2_push rmX2_push [.ref (a 3 0), .ref (a_p1 0)] (wX2 G a h ++ wX3 G a_p1 z) (fun v w => v = none ∧ w = wX2 G a (2, h.2.1, fun j => if j = 0 then o else h.2.2 j) ++ wX3 G a_p1 z) := by
  obtain ⟨hst, rot, p⟩ := h
  dsimp only at hs hd hm ⊢
  subst hs
  refine CT_of (cc := cX2_push) (maxL := 3) (ret := none) 1 (by decide +kernel) rfl rfl (cat_ok rfl) (fun X hX hR hN => ?_)
  have hX : Ok G X cX2_push RX2 wsX2_push 3 rmX2_push := hX
  have hX2 : ∀ w ∈ wsX20, w ∈ wsX2_push := lX2_push_X2
  refine w_aload_n (pc := 0) hX dX2_push_0 rfl rfl ?_
  refine gf_X2_states (pc := 1) hX dX2_push_1 hX2 (List.mem_of_getElem? (i := 1) rfl) 0 rfl rfl ?_
  refine w_iconst (pc := 4) hX dX2_push_4 ic_4 ?_
  refine w_icmp_ltT (pc := 5) (tgt := 12) hX dX2_push_5 (by decide) (show (1 : Int32) < 4 from by decide) ?_
  refine w_aload_n (pc := 12) hX dX2_push_12 rfl rfl ?_
  refine w_aload_n (pc := 13) hX dX2_push_13 rfl rfl ?_
  refine gf_X2_states (pc := 14) hX dX2_push_14 hX2 (List.mem_of_getElem? (i := 1) rfl) 0 rfl rfl ?_
  refine w_callpo (pc := 17) hX [0, 1] (runV (rest := []) hX [0, 1] (ctX2_stateAt_1 G a (1 : Int32) (rot) 0 hd) dX2_push_17 1 gX2_push_X2_stateAt rfl hyX2_stateAt ⟨Nat.le_of_ble_eq_true rfl, Nat.le_of_ble_eq_true rfl⟩ 0 rfl rfl rfl rfl (Nat.le_of_ble_eq_true rfl) ⟨Nat.le_of_ble_eq_true rfl, Nat.le_of_ble_eq_true rfl⟩ rfl (by decide +kernel)) rfl ⟨rfl, rfl⟩ ?_
  refine w_astore_n (pc := 20) hX dX2_push_20 rfl (Nat.le_of_ble_eq_true rfl) ?_
  refine w_aload_n (pc := 21) hX dX2_push_21 rfl rfl ?_
  refine w_ifnull (pc := 22) hX dX2_push_22 ?_
  refine w_aload_n (pc := 25) hX dX2_push_25 rfl rfl ?_
  refine w_aload_n (pc := 26) hX dX2_push_26 rfl rfl ?_
  refine w_calldv (pc := 27) (ws' := wX2 G a ((1 : Int32), rot, fun j => if j = 0 then o else p j) ++ wX3 G a_p1 z) (os := [none, none, some 0, some 1, some 2, some 3, some 4, none, none, none, none, none, none, none, none, none, none, none, none, none, none, none, some 5, some 6, some 7, some 8, some 9]) 27 hX [2, 3, 4, 5, 6, 22, 23, 24, 25, 26] (runV (rest := []) hX [2, 3, 4, 5, 6, 22, 23, 24, 25, 26] (ctX3_copyFrom G F (a 11) a_p1 (p 0) z o hm) dX2_push_27 1 gX2_push_X3_copyFrom rfl hyX3_copyFrom ⟨Nat.le_of_ble_eq_true rfl, Nat.le_of_ble_eq_true rfl⟩ 2 rfl rfl rfl rfl (Nat.le_of_ble_eq_true rfl) ⟨Nat.le_of_ble_eq_true rfl, Nat.le_of_ble_eq_true rfl⟩ rfl (by decide +kernel)) rfl rfl rfl (by decide +kernel) rfl ⟨rfl, rfl⟩ ?_
  refine w_aload_n (pc := 30) hX dX2_push_30 rfl rfl ?_
  refine w_dup (pc := 31) hX dX2_push_31 rfl ?_
  refine gf_X2_states (pc := 32) hX dX2_push_32 hX2 (List.mem_of_getElem? (i := 1) rfl) 0 rfl rfl ?_
  refine w_iconst (pc := 35) hX dX2_push_35 ic_1 ?_
  refine w_iadd (pc := 36) hX dX2_push_36 ?_
  refine pf_X2_states (pc := 37) hX dX2_push_37 hX2 (List.mem_of_getElem? (i := 1) rfl) 0 rfl rfl ?_
  exact w_vret (pc := 40) hX hR dX2_push_40 ⟨rfl, rfl⟩
set_option maxHeartbeats 4000000 in
set_option maxRecDepth 100000 in
theorem ctX2_push_1_1 (G : gT) (F : Nat) (a : Nat → Nat → Nat) (a_p1 : Nat → Nat) (h : HS) (z o : MZ) (hs : h.1 = 1) (hd : (1 + (h.2.1)) % 4 = 1) (hm : mX3_copyFrom F (h.2.2 1) z = some o) : CT G yX2_push wsX2_push rmX2_push [.ref (a 3 0), .ref (a_p1 0)] (wX2 G a h ++ wX3 G a_p1 z) (fun v w => v = none ∧ w = wX2 G a (2, h.2.1, fun j => if j = 1 then o else h.2.2 j) ++ wX3 G a_p1 z) := by
  obtain ⟨hst, rot, p⟩ := h
  dsimp only at hs hd hm ⊢
  subst hs
  refine CT_of (cc := cX2_push) (maxL := 3) (ret := none) 1 (by decide +kernel) rfl rfl (cat_ok rfl) (fun X hX hR hN => ?_)
  have hX : Ok G X cX2_push RX2 wsX2_push 3 rmX2_push := hX
  have hX2 : ∀ w ∈ wsX20, w ∈ wsX2_push := lX2_push_X2
  refine w_aload_n (pc := 0) hX dX2_push_0 rfl rfl ?_
  refine gf_X2_states (pc := 1) hX dX2_push_1 hX2 (List.mem_of_getElem? (i := 1) rfl) 0 rfl rfl ?_
  refine w_iconst (pc := 4) hX dX2_push_4 ic_4 ?_
  refine w_icmp_ltT (pc := 5) (tgt := 12) hX dX2_push_5 (by decide) (show (1 : Int32) < 4 from by decide) ?_
  refine w_aload_n (pc := 12) hX dX2_push_12 rfl rfl ?_
  refine w_aload_n (pc := 13) hX dX2_push_13 rfl rfl ?_
  refine gf_X2_states (pc := 14) hX dX2_push_14 hX2 (List.mem_of_getElem? (i := 1) rfl) 0 rfl rfl ?_
  refine w_callpo (pc := 17) hX [0, 1] (runV (rest := []) hX [0, 1] (ctX2_stateAt_1 G a (1 : Int32) (rot) 1 hd) dX2_push_17 1 gX2_push_X2_stateAt rfl hyX2_stateAt ⟨Nat.le_of_ble_eq_true rfl, Nat.le_of_ble_eq_true rfl⟩ 0 rfl rfl rfl rfl (Nat.le_of_ble_eq_true rfl) ⟨Nat.le_of_ble_eq_true rfl, Nat.le_of_ble_eq_true rfl⟩ rfl (by decide +kernel)) rfl ⟨rfl, rfl⟩ ?_
  refine w_astore_n (pc := 20) hX dX2_push_20 rfl (Nat.le_of_ble_eq_true rfl) ?_
  refine w_aload_n (pc := 21) hX dX2_push_21 rfl rfl ?_
  refine w_ifnull (pc := 22) hX dX2_push_22 ?_
  refine w_aload_n (pc := 25) hX dX2_push_25 rfl rfl ?_
  refine w_aload_n (pc := 26) hX dX2_push_26 rfl rfl ?_
  refine w_calldv (pc := 27) (ws' := wX2 G a ((1 : Int32), rot, fun j => if j = 1 then o else p j) ++ wX3 G a_p1 z) (os := [none, none, none, none, none, none, none, some 0, some 1, some 2, some 3, some 4, none, none, none, none, none, none, none, none, none, none, some 5, some 6, some 7, some 8, some 9]) 27 hX [7, 8, 9, 10, 11, 22, 23, 24, 25, 26] (runV (rest := []) hX [7, 8, 9, 10, 11, 22, 23, 24, 25, 26] (ctX3_copyFrom G F (a 12) a_p1 (p 1) z o hm) dX2_push_27 1 gX2_push_X3_copyFrom rfl hyX3_copyFrom ⟨Nat.le_of_ble_eq_true rfl, Nat.le_of_ble_eq_true rfl⟩ 7 rfl rfl rfl rfl (Nat.le_of_ble_eq_true rfl) ⟨Nat.le_of_ble_eq_true rfl, Nat.le_of_ble_eq_true rfl⟩ rfl (by decide +kernel)) rfl rfl rfl (by decide +kernel) rfl ⟨rfl, rfl⟩ ?_
  refine w_aload_n (pc := 30) hX dX2_push_30 rfl rfl ?_
  refine w_dup (pc := 31) hX dX2_push_31 rfl ?_
  refine gf_X2_states (pc := 32) hX dX2_push_32 hX2 (List.mem_of_getElem? (i := 1) rfl) 0 rfl rfl ?_
  refine w_iconst (pc := 35) hX dX2_push_35 ic_1 ?_
  refine w_iadd (pc := 36) hX dX2_push_36 ?_
  refine pf_X2_states (pc := 37) hX dX2_push_37 hX2 (List.mem_of_getElem? (i := 1) rfl) 0 rfl rfl ?_
  exact w_vret (pc := 40) hX hR dX2_push_40 ⟨rfl, rfl⟩
set_option maxHeartbeats 4000000 in
set_option maxRecDepth 100000 in
theorem ctX2_push_1_2 (G : gT) (F : Nat) (a : Nat → Nat → Nat) (a_p1 : Nat → Nat) (h : HS) (z o : MZ) (hs : h.1 = 1) (hd : (1 + (h.2.1)) % 4 = 2) (hm : mX3_copyFrom F (h.2.2 2) z = some o) : CT G yX2_push wsX2_push rmX2_push [.ref (a 3 0), .ref (a_p1 0)] (wX2 G a h ++ wX3 G a_p1 z) (fun v w => v = none ∧ w = wX2 G a (2, h.2.1, fun j => if j = 2 then o else h.2.2 j) ++ wX3 G a_p1 z) := by
  obtain ⟨hst, rot, p⟩ := h
  dsimp only at hs hd hm ⊢
  subst hs
  refine CT_of (cc := cX2_push) (maxL := 3) (ret := none) 1 (by decide +kernel) rfl rfl (cat_ok rfl) (fun X hX hR hN => ?_)
  have hX : Ok G X cX2_push RX2 wsX2_push 3 rmX2_push := hX
  have hX2 : ∀ w ∈ wsX20, w ∈ wsX2_push := lX2_push_X2
  refine w_aload_n (pc := 0) hX dX2_push_0 rfl rfl ?_
  refine gf_X2_states (pc := 1) hX dX2_push_1 hX2 (List.mem_of_getElem? (i := 1) rfl) 0 rfl rfl ?_
  refine w_iconst (pc := 4) hX dX2_push_4 ic_4 ?_
  refine w_icmp_ltT (pc := 5) (tgt := 12) hX dX2_push_5 (by decide) (show (1 : Int32) < 4 from by decide) ?_
  refine w_aload_n (pc := 12) hX dX2_push_12 rfl rfl ?_
  refine w_aload_n (pc := 13) hX dX2_push_13 rfl rfl ?_
  refine gf_X2_states (pc := 14) hX dX2_push_14 hX2 (List.mem_of_getElem? (i := 1) rfl) 0 rfl rfl ?_
  refine w_callpo (pc := 17) hX [0, 1] (runV (rest := []) hX [0, 1] (ctX2_stateAt_1 G a (1 : Int32) (rot) 2 hd) dX2_push_17 1 gX2_push_X2_stateAt rfl hyX2_stateAt ⟨Nat.le_of_ble_eq_true rfl, Nat.le_of_ble_eq_true rfl⟩ 0 rfl rfl rfl rfl (Nat.le_of_ble_eq_true rfl) ⟨Nat.le_of_ble_eq_true rfl, Nat.le_of_ble_eq_true rfl⟩ rfl (by decide +kernel)) rfl ⟨rfl, rfl⟩ ?_
  refine w_astore_n (pc := 20) hX dX2_push_20 rfl (Nat.le_of_ble_eq_true rfl) ?_
  refine w_aload_n (pc := 21) hX dX2_push_21 rfl rfl ?_
  refine w_ifnull (pc := 22) hX dX2_push_22 ?_
  refine w_aload_n (pc := 25) hX dX2_push_25 rfl rfl ?_
  refine w_aload_n (pc := 26) hX dX2_push_26 rfl rfl ?_
  refine w_calldv (pc := 27) (ws' := wX2 G a ((1 : Int32), rot, fun j => if j = 2 then o else p j) ++ wX3 G a_p1 z) (os := [none, none, none, none, none, none, none, none, none, none, none, none, some 0, some 1, some 2, some 3, some 4, none, none, none, none, none, some 5, some 6, some 7, some 8, some 9]) 27 hX [12, 13, 14, 15, 16, 22, 23, 24, 25, 26] (runV (rest := []) hX [12, 13, 14, 15, 16, 22, 23, 24, 25, 26] (ctX3_copyFrom G F (a 13) a_p1 (p 2) z o hm) dX2_push_27 1 gX2_push_X3_copyFrom rfl hyX3_copyFrom ⟨Nat.le_of_ble_eq_true rfl, Nat.le_of_ble_eq_true rfl⟩ 12 rfl rfl rfl rfl (Nat.le_of_ble_eq_true rfl) ⟨Nat.le_of_ble_eq_true rfl, Nat.le_of_ble_eq_true rfl⟩ rfl (by decide +kernel)) rfl rfl rfl (by decide +kernel) rfl ⟨rfl, rfl⟩ ?_
  refine w_aload_n (pc := 30) hX dX2_push_30 rfl rfl ?_
  refine w_dup (pc := 31) hX dX2_push_31 rfl ?_
  refine gf_X2_states (pc := 32) hX dX2_push_32 hX2 (List.mem_of_getElem? (i := 1) rfl) 0 rfl rfl ?_
  refine w_iconst (pc := 35) hX dX2_push_35 ic_1 ?_
  refine w_iadd (pc := 36) hX dX2_push_36 ?_
  refine pf_X2_states (pc := 37) hX dX2_push_37 hX2 (List.mem_of_getElem? (i := 1) rfl) 0 rfl rfl ?_
  exact w_vret (pc := 40) hX hR dX2_push_40 ⟨rfl, rfl⟩
set_option maxHeartbeats 4000000 in
set_option maxRecDepth 100000 in
theorem ctX2_push_1_3 (G : gT) (F : Nat) (a : Nat → Nat → Nat) (a_p1 : Nat → Nat) (h : HS) (z o : MZ) (hs : h.1 = 1) (hd : (1 + (h.2.1)) % 4 = 3) (hm : mX3_copyFrom F (h.2.2 3) z = some o) : CT G yX2_push wsX2_push rmX2_push [.ref (a 3 0), .ref (a_p1 0)] (wX2 G a h ++ wX3 G a_p1 z) (fun v w => v = none ∧ w = wX2 G a (2, h.2.1, fun j => if j = 3 then o else h.2.2 j) ++ wX3 G a_p1 z) := by
  obtain ⟨hst, rot, p⟩ := h
  dsimp only at hs hd hm ⊢
  subst hs
  refine CT_of (cc := cX2_push) (maxL := 3) (ret := none) 1 (by decide +kernel) rfl rfl (cat_ok rfl) (fun X hX hR hN => ?_)
  have hX : Ok G X cX2_push RX2 wsX2_push 3 rmX2_push := hX
  have hX2 : ∀ w ∈ wsX20, w ∈ wsX2_push := lX2_push_X2
  refine w_aload_n (pc := 0) hX dX2_push_0 rfl rfl ?_
  refine gf_X2_states (pc := 1) hX dX2_push_1 hX2 (List.mem_of_getElem? (i := 1) rfl) 0 rfl rfl ?_
  refine w_iconst (pc := 4) hX dX2_push_4 ic_4 ?_
  refine w_icmp_ltT (pc := 5) (tgt := 12) hX dX2_push_5 (by decide) (show (1 : Int32) < 4 from by decide) ?_
  refine w_aload_n (pc := 12) hX dX2_push_12 rfl rfl ?_
  refine w_aload_n (pc := 13) hX dX2_push_13 rfl rfl ?_
  refine gf_X2_states (pc := 14) hX dX2_push_14 hX2 (List.mem_of_getElem? (i := 1) rfl) 0 rfl rfl ?_
  refine w_callpo (pc := 17) hX [0, 1] (runV (rest := []) hX [0, 1] (ctX2_stateAt_1 G a (1 : Int32) (rot) 3 hd) dX2_push_17 1 gX2_push_X2_stateAt rfl hyX2_stateAt ⟨Nat.le_of_ble_eq_true rfl, Nat.le_of_ble_eq_true rfl⟩ 0 rfl rfl rfl rfl (Nat.le_of_ble_eq_true rfl) ⟨Nat.le_of_ble_eq_true rfl, Nat.le_of_ble_eq_true rfl⟩ rfl (by decide +kernel)) rfl ⟨rfl, rfl⟩ ?_
  refine w_astore_n (pc := 20) hX dX2_push_20 rfl (Nat.le_of_ble_eq_true rfl) ?_
  refine w_aload_n (pc := 21) hX dX2_push_21 rfl rfl ?_
  refine w_ifnull (pc := 22) hX dX2_push_22 ?_
  refine w_aload_n (pc := 25) hX dX2_push_25 rfl rfl ?_
  refine w_aload_n (pc := 26) hX dX2_push_26 rfl rfl ?_
  refine w_calldv (pc := 27) (ws' := wX2 G a ((1 : Int32), rot, fun j => if j = 3 then o else p j) ++ wX3 G a_p1 z) (os := [none, none, none, none, none, none, none, none, none, none, none, none, none, none, none, none, none, some 0, some 1, some 2, some 3, some 4, some 5, some 6, some 7, some 8, some 9]) 27 hX [17, 18, 19, 20, 21, 22, 23, 24, 25, 26] (runV (rest := []) hX [17, 18, 19, 20, 21, 22, 23, 24, 25, 26] (ctX3_copyFrom G F (a 14) a_p1 (p 3) z o hm) dX2_push_27 1 gX2_push_X3_copyFrom rfl hyX3_copyFrom ⟨Nat.le_of_ble_eq_true rfl, Nat.le_of_ble_eq_true rfl⟩ 17 rfl rfl rfl rfl (Nat.le_of_ble_eq_true rfl) ⟨Nat.le_of_ble_eq_true rfl, Nat.le_of_ble_eq_true rfl⟩ rfl (by decide +kernel)) rfl rfl rfl (by decide +kernel) rfl ⟨rfl, rfl⟩ ?_
  refine w_aload_n (pc := 30) hX dX2_push_30 rfl rfl ?_
  refine w_dup (pc := 31) hX dX2_push_31 rfl ?_
  refine gf_X2_states (pc := 32) hX dX2_push_32 hX2 (List.mem_of_getElem? (i := 1) rfl) 0 rfl rfl ?_
  refine w_iconst (pc := 35) hX dX2_push_35 ic_1 ?_
  refine w_iadd (pc := 36) hX dX2_push_36 ?_
  refine pf_X2_states (pc := 37) hX dX2_push_37 hX2 (List.mem_of_getElem? (i := 1) rfl) 0 rfl rfl ?_
  exact w_vret (pc := 40) hX hR dX2_push_40 ⟨rfl, rfl⟩
set_option maxHeartbeats 4000000 in
set_option maxRecDepth 100000 in
theorem ctX2_push_2_0 (G : gT) (F : Nat) (a : Nat → Nat → Nat) (a_p1 : Nat → Nat) (h : HS) (z o : MZ) (hs : h.1 = 2) (hd : (2 + (h.2.1)) % 4 = 0) (hm : mX3_copyFrom F (h.2.2 0) z = some o) : CT G yX2_push wsX2_push rmX2_push [.ref (a 3 0), .ref (a_p1 0)] (wX2 G a h ++ wX3 G a_p1 z) (fun v w => v = none ∧ w = wX2 G a (3, h.2.1, fun j => if j = 0 then o else h.2.2 j) ++ wX3 G a_p1 z) := by
  obtain ⟨hst, rot, p⟩ := h
  dsimp only at hs hd hm ⊢
  subst hs
  refine CT_of (cc := cX2_push) (maxL := 3) (ret := none) 1 (by decide +kernel) rfl rfl (cat_ok rfl) (fun X hX hR hN => ?_)
  have hX : Ok G X cX2_push RX2 wsX2_push 3 rmX2_push := hX
  have hX2 : ∀ w ∈ wsX20, w ∈ wsX2_push := lX2_push_X2
  refine w_aload_n (pc := 0) hX dX2_push_0 rfl rfl ?_
  refine gf_X2_states (pc := 1) hX dX2_push_1 hX2 (List.mem_of_getElem? (i := 1) rfl) 0 rfl rfl ?_
  refine w_iconst (pc := 4) hX dX2_push_4 ic_4 ?_
  refine w_icmp_ltT (pc := 5) (tgt := 12) hX dX2_push_5 (by decide) (show (2 : Int32) < 4 from by decide) ?_
  refine w_aload_n (pc := 12) hX dX2_push_12 rfl rfl ?_
  refine w_aload_n (pc := 13) hX dX2_push_13 rfl rfl ?_
  refine gf_X2_states (pc := 14) hX dX2_push_14 hX2 (List.mem_of_getElem? (i := 1) rfl) 0 rfl rfl ?_
  refine w_callpo (pc := 17) hX [0, 1] (runV (rest := []) hX [0, 1] (ctX2_stateAt_2 G a (2 : Int32) (rot) 0 hd) dX2_push_17 1 gX2_push_X2_stateAt rfl hyX2_stateAt ⟨Nat.le_of_ble_eq_true rfl, Nat.le_of_ble_eq_true rfl⟩ 0 rfl rfl rfl rfl (Nat.le_of_ble_eq_true rfl) ⟨Nat.le_of_ble_eq_true rfl, Nat.le_of_ble_eq_true rfl⟩ rfl (by decide +kernel)) rfl ⟨rfl, rfl⟩ ?_
  refine w_astore_n (pc := 20) hX dX2_push_20 rfl (Nat.le_of_ble_eq_true rfl) ?_
  refine w_aload_n (pc := 21) hX dX2_push_21 rfl rfl ?_
  refine w_ifnull (pc := 22) hX dX2_push_22 ?_
  refine w_aload_n (pc := 25) hX dX2_push_25 rfl rfl ?_
  refine w_aload_n (pc := 26) hX dX2_push_26 rfl rfl ?_
  refine w_calldv (pc := 27) (ws' := wX2 G a ((2 : Int32), rot, fun j => if j = 0 then o else p j) ++ wX3 G a_p1 z) (os := [none, none, some 0, some 1, some 2, some 3, some 4, none, none, none, none, none, none, none, none, none, none, none, none, none, none, none, some 5, some 6, some 7, some 8, some 9]) 27 hX [2, 3, 4, 5, 6, 22, 23, 24, 25, 26] (runV (rest := []) hX [2, 3, 4, 5, 6, 22, 23, 24, 25, 26] (ctX3_copyFrom G F (a 11) a_p1 (p 0) z o hm) dX2_push_27 1 gX2_push_X3_copyFrom rfl hyX3_copyFrom ⟨Nat.le_of_ble_eq_true rfl, Nat.le_of_ble_eq_true rfl⟩ 2 rfl rfl rfl rfl (Nat.le_of_ble_eq_true rfl) ⟨Nat.le_of_ble_eq_true rfl, Nat.le_of_ble_eq_true rfl⟩ rfl (by decide +kernel)) rfl rfl rfl (by decide +kernel) rfl ⟨rfl, rfl⟩ ?_
  refine w_aload_n (pc := 30) hX dX2_push_30 rfl rfl ?_
  refine w_dup (pc := 31) hX dX2_push_31 rfl ?_
  refine gf_X2_states (pc := 32) hX dX2_push_32 hX2 (List.mem_of_getElem? (i := 1) rfl) 0 rfl rfl ?_
  refine w_iconst (pc := 35) hX dX2_push_35 ic_1 ?_
  refine w_iadd (pc := 36) hX dX2_push_36 ?_
  refine pf_X2_states (pc := 37) hX dX2_push_37 hX2 (List.mem_of_getElem? (i := 1) rfl) 0 rfl rfl ?_
  exact w_vret (pc := 40) hX hR dX2_push_40 ⟨rfl, rfl⟩
set_option maxHeartbeats 4000000 in
set_option maxRecDepth 100000 in
theorem ctX2_push_2_1 (G : gT) (F : Nat) (a : Nat → Nat → Nat) (a_p1 : Nat → Nat) (h : HS) (z o : MZ) (hs : h.1 = 2) (hd : (2 + (h.2.1)) % 4 = 1) (hm : mX3_copyFrom F (h.2.2 1) z = some o) : CT G yX2_push wsX2_push rmX2_push [.ref (a 3 0), .ref (a_p1 0)] (wX2 G a h ++ wX3 G a_p1 z) (fun v w => v = none ∧ w = wX2 G a (3, h.2.1, fun j => if j = 1 then o else h.2.2 j) ++ wX3 G a_p1 z) := by
  obtain ⟨hst, rot, p⟩ := h
  dsimp only at hs hd hm ⊢
  subst hs
  refine CT_of (cc := cX2_push) (maxL := 3) (ret := none) 1 (by decide +kernel) rfl rfl (cat_ok rfl) (fun X hX hR hN => ?_)
  have hX : Ok G X cX2_push RX2 wsX2_push 3 rmX2_push := hX
  have hX2 : ∀ w ∈ wsX20, w ∈ wsX2_push := lX2_push_X2
  refine w_aload_n (pc := 0) hX dX2_push_0 rfl rfl ?_
  refine gf_X2_states (pc := 1) hX dX2_push_1 hX2 (List.mem_of_getElem? (i := 1) rfl) 0 rfl rfl ?_
  refine w_iconst (pc := 4) hX dX2_push_4 ic_4 ?_
  refine w_icmp_ltT (pc := 5) (tgt := 12) hX dX2_push_5 (by decide) (show (2 : Int32) < 4 from by decide) ?_
  refine w_aload_n (pc := 12) hX dX2_push_12 rfl rfl ?_
  refine w_aload_n (pc := 13) hX dX2_push_13 rfl rfl ?_
  refine gf_X2_states (pc := 14) hX dX2_push_14 hX2 (List.mem_of_getElem? (i := 1) rfl) 0 rfl rfl ?_
  refine w_callpo (pc := 17) hX [0, 1] (runV (rest := []) hX [0, 1] (ctX2_stateAt_2 G a (2 : Int32) (rot) 1 hd) dX2_push_17 1 gX2_push_X2_stateAt rfl hyX2_stateAt ⟨Nat.le_of_ble_eq_true rfl, Nat.le_of_ble_eq_true rfl⟩ 0 rfl rfl rfl rfl (Nat.le_of_ble_eq_true rfl) ⟨Nat.le_of_ble_eq_true rfl, Nat.le_of_ble_eq_true rfl⟩ rfl (by decide +kernel)) rfl ⟨rfl, rfl⟩ ?_
  refine w_astore_n (pc := 20) hX dX2_push_20 rfl (Nat.le_of_ble_eq_true rfl) ?_
  refine w_aload_n (pc := 21) hX dX2_push_21 rfl rfl ?_
  refine w_ifnull (pc := 22) hX dX2_push_22 ?_
  refine w_aload_n (pc := 25) hX dX2_push_25 rfl rfl ?_
  refine w_aload_n (pc := 26) hX dX2_push_26 rfl rfl ?_
  refine w_calldv (pc := 27) (ws' := wX2 G a ((2 : Int32), rot, fun j => if j = 1 then o else p j) ++ wX3 G a_p1 z) (os := [none, none, none, none, none, none, none, some 0, some 1, some 2, some 3, some 4, none, none, none, none, none, none, none, none, none, none, some 5, some 6, some 7, some 8, some 9]) 27 hX [7, 8, 9, 10, 11, 22, 23, 24, 25, 26] (runV (rest := []) hX [7, 8, 9, 10, 11, 22, 23, 24, 25, 26] (ctX3_copyFrom G F (a 12) a_p1 (p 1) z o hm) dX2_push_27 1 gX2_push_X3_copyFrom rfl hyX3_copyFrom ⟨Nat.le_of_ble_eq_true rfl, Nat.le_of_ble_eq_true rfl⟩ 7 rfl rfl rfl rfl (Nat.le_of_ble_eq_true rfl) ⟨Nat.le_of_ble_eq_true rfl, Nat.le_of_ble_eq_true rfl⟩ rfl (by decide +kernel)) rfl rfl rfl (by decide +kernel) rfl ⟨rfl, rfl⟩ ?_
  refine w_aload_n (pc := 30) hX dX2_push_30 rfl rfl ?_
  refine w_dup (pc := 31) hX dX2_push_31 rfl ?_
  refine gf_X2_states (pc := 32) hX dX2_push_32 hX2 (List.mem_of_getElem? (i := 1) rfl) 0 rfl rfl ?_
  refine w_iconst (pc := 35) hX dX2_push_35 ic_1 ?_
  refine w_iadd (pc := 36) hX dX2_push_36 ?_
  refine pf_X2_states (pc := 37) hX dX2_push_37 hX2 (List.mem_of_getElem? (i := 1) rfl) 0 rfl rfl ?_
  exact w_vret (pc := 40) hX hR dX2_push_40 ⟨rfl, rfl⟩
set_option maxHeartbeats 4000000 in
set_option maxRecDepth 100000 in
theorem ctX2_push_2_2 (G : gT) (F : Nat) (a : Nat → Nat → Nat) (a_p1 : Nat → Nat) (h : HS) (z o : MZ) (hs : h.1 = 2) (hd : (2 + (h.2.1)) % 4 = 2) (hm : mX3_copyFrom F (h.2.2 2) z = some o) : CT G yX2_push wsX2_push rmX2_push [.ref (a 3 0), .ref (a_p1 0)] (wX2 G a h ++ wX3 G a_p1 z) (fun v w => v = none ∧ w = wX2 G a (3, h.2.1, fun j => if j = 2 then o else h.2.2 j) ++ wX3 G a_p1 z) := by
  obtain ⟨hst, rot, p⟩ := h
  dsimp only at hs hd hm ⊢
  subst hs
  refine CT_of (cc := cX2_push) (maxL := 3) (ret := none) 1 (by decide +kernel) rfl rfl (cat_ok rfl) (fun X hX hR hN => ?_)
  have hX : Ok G X cX2_push RX2 wsX2_push 3 rmX2_push := hX
  have hX2 : ∀ w ∈ wsX20, w ∈ wsX2_push := lX2_push_X2
  refine w_aload_n (pc := 0) hX dX2_push_0 rfl rfl ?_
  refine gf_X2_states (pc := 1) hX dX2_push_1 hX2 (List.mem_of_getElem? (i := 1) rfl) 0 rfl rfl ?_
  refine w_iconst (pc := 4) hX dX2_push_4 ic_4 ?_
  refine w_icmp_ltT (pc := 5) (tgt := 12) hX dX2_push_5 (by decide) (show (2 : Int32) < 4 from by decide) ?_
  refine w_aload_n (pc := 12) hX dX2_push_12 rfl rfl ?_
  refine w_aload_n (pc := 13) hX dX2_push_13 rfl rfl ?_
  refine gf_X2_states (pc := 14) hX dX2_push_14 hX2 (List.mem_of_getElem? (i := 1) rfl) 0 rfl rfl ?_
  refine w_callpo (pc := 17) hX [0, 1] (runV (rest := []) hX [0, 1] (ctX2_stateAt_2 G a (2 : Int32) (rot) 2 hd) dX2_push_17 1 gX2_push_X2_stateAt rfl hyX2_stateAt ⟨Nat.le_of_ble_eq_true rfl, Nat.le_of_ble_eq_true rfl⟩ 0 rfl rfl rfl rfl (Nat.le_of_ble_eq_true rfl) ⟨Nat.le_of_ble_eq_true rfl, Nat.le_of_ble_eq_true rfl⟩ rfl (by decide +kernel)) rfl ⟨rfl, rfl⟩ ?_
  refine w_astore_n (pc := 20) hX dX2_push_20 rfl (Nat.le_of_ble_eq_true rfl) ?_
  refine w_aload_n (pc := 21) hX dX2_push_21 rfl rfl ?_
  refine w_ifnull (pc := 22) hX dX2_push_22 ?_
  refine w_aload_n (pc := 25) hX dX2_push_25 rfl rfl ?_
  refine w_aload_n (pc := 26) hX dX2_push_26 rfl rfl ?_
  refine w_calldv (pc := 27) (ws' := wX2 G a ((2 : Int32), rot, fun j => if j = 2 then o else p j) ++ wX3 G a_p1 z) (os := [none, none, none, none, none, none, none, none, none, none, none, none, some 0, some 1, some 2, some 3, some 4, none, none, none, none, none, some 5, some 6, some 7, some 8, some 9]) 27 hX [12, 13, 14, 15, 16, 22, 23, 24, 25, 26] (runV (rest := []) hX [12, 13, 14, 15, 16, 22, 23, 24, 25, 26] (ctX3_copyFrom G F (a 13) a_p1 (p 2) z o hm) dX2_push_27 1 gX2_push_X3_copyFrom rfl hyX3_copyFrom ⟨Nat.le_of_ble_eq_true rfl, Nat.le_of_ble_eq_true rfl⟩ 12 rfl rfl rfl rfl (Nat.le_of_ble_eq_true rfl) ⟨Nat.le_of_ble_eq_true rfl, Nat.le_of_ble_eq_true rfl⟩ rfl (by decide +kernel)) rfl rfl rfl (by decide +kernel) rfl ⟨rfl, rfl⟩ ?_
  refine w_aload_n (pc := 30) hX dX2_push_30 rfl rfl ?_
  refine w_dup (pc := 31) hX dX2_push_31 rfl ?_
  refine gf_X2_states (pc := 32) hX dX2_push_32 hX2 (List.mem_of_getElem? (i := 1) rfl) 0 rfl rfl ?_
  refine w_iconst (pc := 35) hX dX2_push_35 ic_1 ?_
  refine w_iadd (pc := 36) hX dX2_push_36 ?_
  refine pf_X2_states (pc := 37) hX dX2_push_37 hX2 (List.mem_of_getElem? (i := 1) rfl) 0 rfl rfl ?_
  exact w_vret (pc := 40) hX hR dX2_push_40 ⟨rfl, rfl⟩
set_option maxHeartbeats 4000000 in
set_option maxRecDepth 100000 in
theorem ctX2_push_2_3 (G : gT) (F : Nat) (a : Nat → Nat → Nat) (a_p1 : Nat → Nat) (h : HS) (z o : MZ) (hs : h.1 = 2) (hd : (2 + (h.2.1)) % 4 = 3) (hm : mX3_copyFrom F (h.2.2 3) z = some o) : CT G yX2_push wsX2_push rmX2_push [.ref (a 3 0), .ref (a_p1 0)] (wX2 G a h ++ wX3 G a_p1 z) (fun v w => v = none ∧ w = wX2 G a (3, h.2.1, fun j => if j = 3 then o else h.2.2 j) ++ wX3 G a_p1 z) := by
  obtain ⟨hst, rot, p⟩ := h
  dsimp only at hs hd hm ⊢
  subst hs
  refine CT_of (cc := cX2_push) (maxL := 3) (ret := none) 1 (by decide +kernel) rfl rfl (cat_ok rfl) (fun X hX hR hN => ?_)
  have hX : Ok G X cX2_push RX2 wsX2_push 3 rmX2_push := hX
  have hX2 : ∀ w ∈ wsX20, w ∈ wsX2_push := lX2_push_X2
  refine w_aload_n (pc := 0) hX dX2_push_0 rfl rfl ?_
  refine gf_X2_states (pc := 1) hX dX2_push_1 hX2 (List.mem_of_getElem? (i := 1) rfl) 0 rfl rfl ?_
  refine w_iconst (pc := 4) hX dX2_push_4 ic_4 ?_
  refine w_icmp_ltT (pc := 5) (tgt := 12) hX dX2_push_5 (by decide) (show (2 : Int32) < 4 from by decide) ?_
  refine w_aload_n (pc := 12) hX dX2_push_12 rfl rfl ?_
  refine w_aload_n (pc := 13) hX dX2_push_13 rfl rfl ?_
  refine gf_X2_states (pc := 14) hX dX2_push_14 hX2 (List.mem_of_getElem? (i := 1) rfl) 0 rfl rfl ?_
  refine w_callpo (pc := 17) hX [0, 1] (runV (rest := []) hX [0, 1] (ctX2_stateAt_2 G a (2 : Int32) (rot) 3 hd) dX2_push_17 1 gX2_push_X2_stateAt rfl hyX2_stateAt ⟨Nat.le_of_ble_eq_true rfl, Nat.le_of_ble_eq_true rfl⟩ 0 rfl rfl rfl rfl (Nat.le_of_ble_eq_true rfl) ⟨Nat.le_of_ble_eq_true rfl, Nat.le_of_ble_eq_true rfl⟩ rfl (by decide +kernel)) rfl ⟨rfl, rfl⟩ ?_
  refine w_astore_n (pc := 20) hX dX2_push_20 rfl (Nat.le_of_ble_eq_true rfl) ?_
  refine w_aload_n (pc := 21) hX dX2_push_21 rfl rfl ?_
  refine w_ifnull (pc := 22) hX dX2_push_22 ?_
  refine w_aload_n (pc := 25) hX dX2_push_25 rfl rfl ?_
  refine w_aload_n (pc := 26) hX dX2_push_26 rfl rfl ?_
  refine w_calldv (pc := 27) (ws' := wX2 G a ((2 : Int32), rot, fun j => if j = 3 then o else p j) ++ wX3 G a_p1 z) (os := [none, none, none, none, none, none, none, none, none, none, none, none, none, none, none, none, none, some 0, some 1, some 2, some 3, some 4, some 5, some 6, some 7, some 8, some 9]) 27 hX [17, 18, 19, 20, 21, 22, 23, 24, 25, 26] (runV (rest := []) hX [17, 18, 19, 20, 21, 22, 23, 24, 25, 26] (ctX3_copyFrom G F (a 14) a_p1 (p 3) z o hm) dX2_push_27 1 gX2_push_X3_copyFrom rfl hyX3_copyFrom ⟨Nat.le_of_ble_eq_true rfl, Nat.le_of_ble_eq_true rfl⟩ 17 rfl rfl rfl rfl (Nat.le_of_ble_eq_true rfl) ⟨Nat.le_of_ble_eq_true rfl, Nat.le_of_ble_eq_true rfl⟩ rfl (by decide +kernel)) rfl rfl rfl (by decide +kernel) rfl ⟨rfl, rfl⟩ ?_
  refine w_aload_n (pc := 30) hX dX2_push_30 rfl rfl ?_
  refine w_dup (pc := 31) hX dX2_push_31 rfl ?_
  refine gf_X2_states (pc := 32) hX dX2_push_32 hX2 (List.mem_of_getElem? (i := 1) rfl) 0 rfl rfl ?_
  refine w_iconst (pc := 35) hX dX2_push_35 ic_1 ?_
  refine w_iadd (pc := 36) hX dX2_push_36 ?_
  refine pf_X2_states (pc := 37) hX dX2_push_37 hX2 (List.mem_of_getElem? (i := 1) rfl) 0 rfl rfl ?_
  exact w_vret (pc := 40) hX hR dX2_push_40 ⟨rfl, rfl⟩
set_option maxHeartbeats 4000000 in
set_option maxRecDepth 100000 in
theorem ctX2_push_3_0 (G : gT) (F : Nat) (a : Nat → Nat → Nat) (a_p1 : Nat → Nat) (h : HS) (z o : MZ) (hs : h.1 = 3) (hd : (3 + (h.2.1)) % 4 = 0) (hm : mX3_copyFrom F (h.2.2 0) z = some o) : CT G yX2_push wsX2_push rmX2_push [.ref (a 3 0), .ref (a_p1 0)] (wX2 G a h ++ wX3 G a_p1 z) (fun v w => v = none ∧ w = wX2 G a (4, h.2.1, fun j => if j = 0 then o else h.2.2 j) ++ wX3 G a_p1 z) := by
  obtain ⟨hst, rot, p⟩ := h
  dsimp only at hs hd hm ⊢
  subst hs
  refine CT_of (cc := cX2_push) (maxL := 3) (ret := none) 1 (by decide +kernel) rfl rfl (cat_ok rfl) (fun X hX hR hN => ?_)
  have hX : Ok G X cX2_push RX2 wsX2_push 3 rmX2_push := hX
  have hX2 : ∀ w ∈ wsX20, w ∈ wsX2_push := lX2_push_X2
  refine w_aload_n (pc := 0) hX dX2_push_0 rfl rfl ?_
  refine gf_X2_states (pc := 1) hX dX2_push_1 hX2 (List.mem_of_getElem? (i := 1) rfl) 0 rfl rfl ?_
  refine w_iconst (pc := 4) hX dX2_push_4 ic_4 ?_
  refine w_icmp_ltT (pc := 5) (tgt := 12) hX dX2_push_5 (by decide) (show (3 : Int32) < 4 from by decide) ?_
  refine w_aload_n (pc := 12) hX dX2_push_12 rfl rfl ?_
  refine w_aload_n (pc := 13) hX dX2_push_13 rfl rfl ?_
  refine gf_X2_states (pc := 14) hX dX2_push_14 hX2 (List.mem_of_getElem? (i := 1) rfl) 0 rfl rfl ?_
  refine w_callpo (pc := 17) hX [0, 1] (runV (rest := []) hX [0, 1] (ctX2_stateAt_3 G a (3 : Int32) (rot) 0 hd) dX2_push_17 1 gX2_push_X2_stateAt rfl hyX2_stateAt ⟨Nat.le_of_ble_eq_true rfl, Nat.le_of_ble_eq_true rfl⟩ 0 rfl rfl rfl rfl (Nat.le_of_ble_eq_true rfl) ⟨Nat.le_of_ble_eq_true rfl, Nat.le_of_ble_eq_true rfl⟩ rfl (by decide +kernel)) rfl ⟨rfl, rfl⟩ ?_
  refine w_astore_n (pc := 20) hX dX2_push_20 rfl (Nat.le_of_ble_eq_true rfl) ?_
  refine w_aload_n (pc := 21) hX dX2_push_21 rfl rfl ?_
  refine w_ifnull (pc := 22) hX dX2_push_22 ?_
  refine w_aload_n (pc := 25) hX dX2_push_25 rfl rfl ?_
  refine w_aload_n (pc := 26) hX dX2_push_26 rfl rfl ?_
  refine w_calldv (pc := 27) (ws' := wX2 G a ((3 : Int32), rot, fun j => if j = 0 then o else p j) ++ wX3 G a_p1 z) (os := [none, none, some 0, some 1, some 2, some 3, some 4, none, none, none, none, none, none, none, none, none, none, none, none, none, none, none, some 5, some 6, some 7, some 8, some 9]) 27 hX [2, 3, 4, 5, 6, 22, 23, 24, 25, 26] (runV (rest := []) hX [2, 3, 4, 5, 6, 22, 23, 24, 25, 26] (ctX3_copyFrom G F (a 11) a_p1 (p 0) z o hm) dX2_push_27 1 gX2_push_X3_copyFrom rfl hyX3_copyFrom ⟨Nat.le_of_ble_eq_true rfl, Nat.le_of_ble_eq_true rfl⟩ 2 rfl rfl rfl rfl (Nat.le_of_ble_eq_true rfl) ⟨Nat.le_of_ble_eq_true rfl, Nat.le_of_ble_eq_true rfl⟩ rfl (by decide +kernel)) rfl rfl rfl (by decide +kernel) rfl ⟨rfl, rfl⟩ ?_
  refine w_aload_n (pc := 30) hX dX2_push_30 rfl rfl ?_
  refine w_dup (pc := 31) hX dX2_push_31 rfl ?_
  refine gf_X2_states (pc := 32) hX dX2_push_32 hX2 (List.mem_of_getElem? (i := 1) rfl) 0 rfl rfl ?_
  refine w_iconst (pc := 35) hX dX2_push_35 ic_1 ?_
  refine w_iadd (pc := 36) hX dX2_push_36 ?_
  refine pf_X2_states (pc := 37) hX dX2_push_37 hX2 (List.mem_of_getElem? (i := 1) rfl) 0 rfl rfl ?_
  exact w_vret (pc := 40) hX hR dX2_push_40 ⟨rfl, rfl⟩
set_option maxHeartbeats 4000000 in
set_option maxRecDepth 100000 in
theorem ctX2_push_3_1 (G : gT) (F : Nat) (a : Nat → Nat → Nat) (a_p1 : Nat → Nat) (h : HS) (z o : MZ) (hs : h.1 = 3) (hd : (3 + (h.2.1)) % 4 = 1) (hm : mX3_copyFrom F (h.2.2 1) z = some o) : CT G yX2_push wsX2_push rmX2_push [.ref (a 3 0), .ref (a_p1 0)] (wX2 G a h ++ wX3 G a_p1 z) (fun v w => v = none ∧ w = wX2 G a (4, h.2.1, fun j => if j = 1 then o else h.2.2 j) ++ wX3 G a_p1 z) := by
  obtain ⟨hst, rot, p⟩ := h
  dsimp only at hs hd hm ⊢
  subst hs
  refine CT_of (cc := cX2_push) (maxL := 3) (ret := none) 1 (by decide +kernel) rfl rfl (cat_ok rfl) (fun X hX hR hN => ?_)
  have hX : Ok G X cX2_push RX2 wsX2_push 3 rmX2_push := hX
  have hX2 : ∀ w ∈ wsX20, w ∈ wsX2_push := lX2_push_X2
  refine w_aload_n (pc := 0) hX dX2_push_0 rfl rfl ?_
  refine gf_X2_states (pc := 1) hX dX2_push_1 hX2 (List.mem_of_getElem? (i := 1) rfl) 0 rfl rfl ?_
  refine w_iconst (pc := 4) hX dX2_push_4 ic_4 ?_
  refine w_icmp_ltT (pc := 5) (tgt := 12) hX dX2_push_5 (by decide) (show (3 : Int32) < 4 from by decide) ?_
  refine w_aload_n (pc := 12) hX dX2_push_12 rfl rfl ?_
  refine w_aload_n (pc := 13) hX dX2_push_13 rfl rfl ?_
  refine gf_X2_states (pc := 14) hX dX2_push_14 hX2 (List.mem_of_getElem? (i := 1) rfl) 0 rfl rfl ?_
  refine w_callpo (pc := 17) hX [0, 1] (runV (rest := []) hX [0, 1] (ctX2_stateAt_3 G a (3 : Int32) (rot) 1 hd) dX2_push_17 1 gX2_push_X2_stateAt rfl hyX2_stateAt ⟨Nat.le_of_ble_eq_true rfl, Nat.le_of_ble_eq_true rfl⟩ 0 rfl rfl rfl rfl (Nat.le_of_ble_eq_true rfl) ⟨Nat.le_of_ble_eq_true rfl, Nat.le_of_ble_eq_true rfl⟩ rfl (by decide +kernel)) rfl ⟨rfl, rfl⟩ ?_
  refine w_astore_n (pc := 20) hX dX2_push_20 rfl (Nat.le_of_ble_eq_true rfl) ?_
  refine w_aload_n (pc := 21) hX dX2_push_21 rfl rfl ?_
  refine w_ifnull (pc := 22) hX dX2_push_22 ?_
  refine w_aload_n (pc := 25) hX dX2_push_25 rfl rfl ?_
  refine w_aload_n (pc := 26) hX dX2_push_26 rfl rfl ?_
  refine w_calldv (pc := 27) (ws' := wX2 G a ((3 : Int32), rot, fun j => if j = 1 then o else p j) ++ wX3 G a_p1 z) (os := [none, none, none, none, none, none, none, some 0, some 1, some 2, some 3, some 4, none, none, none, none, none, none, none, none, none, none, some 5, some 6, some 7, some 8, some 9]) 27 hX [7, 8, 9, 10, 11, 22, 23, 24, 25, 26] (runV (rest := []) hX [7, 8, 9, 10, 11, 22, 23, 24, 25, 26] (ctX3_copyFrom G F (a 12) a_p1 (p 1) z o hm) dX2_push_27 1 gX2_push_X3_copyFrom rfl hyX3_copyFrom ⟨Nat.le_of_ble_eq_true rfl, Nat.le_of_ble_eq_true rfl⟩ 7 rfl rfl rfl rfl (Nat.le_of_ble_eq_true rfl) ⟨Nat.le_of_ble_eq_true rfl, Nat.le_of_ble_eq_true rfl⟩ rfl (by decide +kernel)) rfl rfl rfl (by decide +kernel) rfl ⟨rfl, rfl⟩ ?_
  refine w_aload_n (pc := 30) hX dX2_push_30 rfl rfl ?_
  refine w_dup (pc := 31) hX dX2_push_31 rfl ?_
  refine gf_X2_states (pc := 32) hX dX2_push_32 hX2 (List.mem_of_getElem? (i := 1) rfl) 0 rfl rfl ?_
  refine w_iconst (pc := 35) hX dX2_push_35 ic_1 ?_
  refine w_iadd (pc := 36) hX dX2_push_36 ?_
  refine pf_X2_states (pc := 37) hX dX2_push_37 hX2 (List.mem_of_getElem? (i := 1) rfl) 0 rfl rfl ?_
  exact w_vret (pc := 40) hX hR dX2_push_40 ⟨rfl, rfl⟩
set_option maxHeartbeats 4000000 in
set_option maxRecDepth 100000 in
theorem ctX2_push_3_2 (G : gT) (F : Nat) (a : Nat → Nat → Nat) (a_p1 : Nat → Nat) (h : HS) (z o : MZ) (hs : h.1 = 3) (hd : (3 + (h.2.1)) % 4 = 2) (hm : mX3_copyFrom F (h.2.2 2) z = some o) : CT G yX2_push wsX2_push rmX2_push [.ref (a 3 0), .ref (a_p1 0)] (wX2 G a h ++ wX3 G a_p1 z) (fun v w => v = none ∧ w = wX2 G a (4, h.2.1, fun j => if j = 2 then o else h.2.2 j) ++ wX3 G a_p1 z) := by
  obtain ⟨hst, rot, p⟩ := h
  dsimp only at hs hd hm ⊢
  subst hs
  refine CT_of (cc := cX2_push) (maxL := 3) (ret := none) 1 (by decide +kernel) rfl rfl (cat_ok rfl) (fun X hX hR hN => ?_)
  have hX : Ok G X cX2_push RX2 wsX2_push 3 rmX2_push := hX
  have hX2 : ∀ w ∈ wsX20, w ∈ wsX2_push := lX2_push_X2
  refine w_aload_n (pc := 0) hX dX2_push_0 rfl rfl ?_
  refine gf_X2_states (pc := 1) hX dX2_push_1 hX2 (List.mem_of_getElem? (i := 1) rfl) 0 rfl rfl ?_
  refine w_iconst (pc := 4) hX dX2_push_4 ic_4 ?_
  refine w_icmp_ltT (pc := 5) (tgt := 12) hX dX2_push_5 (by decide) (show (3 : Int32) < 4 from by decide) ?_
  refine w_aload_n (pc := 12) hX dX2_push_12 rfl rfl ?_
  refine w_aload_n (pc := 13) hX dX2_push_13 rfl rfl ?_
  refine gf_X2_states (pc := 14) hX dX2_push_14 hX2 (List.mem_of_getElem? (i := 1) rfl) 0 rfl rfl ?_
  refine w_callpo (pc := 17) hX [0, 1] (runV (rest := []) hX [0, 1] (ctX2_stateAt_3 G a (3 : Int32) (rot) 2 hd) dX2_push_17 1 gX2_push_X2_stateAt rfl hyX2_stateAt ⟨Nat.le_of_ble_eq_true rfl, Nat.le_of_ble_eq_true rfl⟩ 0 rfl rfl rfl rfl (Nat.le_of_ble_eq_true rfl) ⟨Nat.le_of_ble_eq_true rfl, Nat.le_of_ble_eq_true rfl⟩ rfl (by decide +kernel)) rfl ⟨rfl, rfl⟩ ?_
  refine w_astore_n (pc := 20) hX dX2_push_20 rfl (Nat.le_of_ble_eq_true rfl) ?_
  refine w_aload_n (pc := 21) hX dX2_push_21 rfl rfl ?_
  refine w_ifnull (pc := 22) hX dX2_push_22 ?_
  refine w_aload_n (pc := 25) hX dX2_push_25 rfl rfl ?_
  refine w_aload_n (pc := 26) hX dX2_push_26 rfl rfl ?_
  refine w_calldv (pc := 27) (ws' := wX2 G a ((3 : Int32), rot, fun j => if j = 2 then o else p j) ++ wX3 G a_p1 z) (os := [none, none, none, none, none, none, none, none, none, none, none, none, some 0, some 1, some 2, some 3, some 4, none, none, none, none, none, some 5, some 6, some 7, some 8, some 9]) 27 hX [12, 13, 14, 15, 16, 22, 23, 24, 25, 26] (runV (rest := []) hX [12, 13, 14, 15, 16, 22, 23, 24, 25, 26] (ctX3_copyFrom G F (a 13) a_p1 (p 2) z o hm) dX2_push_27 1 gX2_push_X3_copyFrom rfl hyX3_copyFrom ⟨Nat.le_of_ble_eq_true rfl, Nat.le_of_ble_eq_true rfl⟩ 12 rfl rfl rfl rfl (Nat.le_of_ble_eq_true rfl) ⟨Nat.le_of_ble_eq_true rfl, Nat.le_of_ble_eq_true rfl⟩ rfl (by decide +kernel)) rfl rfl rfl (by decide +kernel) rfl ⟨rfl, rfl⟩ ?_
  refine w_aload_n (pc := 30) hX dX2_push_30 rfl rfl ?_
  refine w_dup (pc := 31) hX dX2_push_31 rfl ?_
  refine gf_X2_states (pc := 32) hX dX2_push_32 hX2 (List.mem_of_getElem? (i := 1) rfl) 0 rfl rfl ?_
  refine w_iconst (pc := 35) hX dX2_push_35 ic_1 ?_
  refine w_iadd (pc := 36) hX dX2_push_36 ?_
  refine pf_X2_states (pc := 37) hX dX2_push_37 hX2 (List.mem_of_getElem? (i := 1) rfl) 0 rfl rfl ?_
  exact w_vret (pc := 40) hX hR dX2_push_40 ⟨rfl, rfl⟩
set_option maxHeartbeats 4000000 in
set_option maxRecDepth 100000 in
theorem ctX2_push_3_3 (G : gT) (F : Nat) (a : Nat → Nat → Nat) (a_p1 : Nat → Nat) (h : HS) (z o : MZ) (hs : h.1 = 3) (hd : (3 + (h.2.1)) % 4 = 3) (hm : mX3_copyFrom F (h.2.2 3) z = some o) : CT G yX2_push wsX2_push rmX2_push [.ref (a 3 0), .ref (a_p1 0)] (wX2 G a h ++ wX3 G a_p1 z) (fun v w => v = none ∧ w = wX2 G a (4, h.2.1, fun j => if j = 3 then o else h.2.2 j) ++ wX3 G a_p1 z) := by
  obtain ⟨hst, rot, p⟩ := h
  dsimp only at hs hd hm ⊢
  subst hs
  refine CT_of (cc := cX2_push) (maxL := 3) (ret := none) 1 (by decide +kernel) rfl rfl (cat_ok rfl) (fun X hX hR hN => ?_)
  have hX : Ok G X cX2_push RX2 wsX2_push 3 rmX2_push := hX
  have hX2 : ∀ w ∈ wsX20, w ∈ wsX2_push := lX2_push_X2
  refine w_aload_n (pc := 0) hX dX2_push_0 rfl rfl ?_
  refine gf_X2_states (pc := 1) hX dX2_push_1 hX2 (List.mem_of_getElem? (i := 1) rfl) 0 rfl rfl ?_
  refine w_iconst (pc := 4) hX dX2_push_4 ic_4 ?_
  refine w_icmp_ltT (pc := 5) (tgt := 12) hX dX2_push_5 (by decide) (show (3 : Int32) < 4 from by decide) ?_
  refine w_aload_n (pc := 12) hX dX2_push_12 rfl rfl ?_
  refine w_aload_n (pc := 13) hX dX2_push_13 rfl rfl ?_
  refine gf_X2_states (pc := 14) hX dX2_push_14 hX2 (List.mem_of_getElem? (i := 1) rfl) 0 rfl rfl ?_
  refine w_callpo (pc := 17) hX [0, 1] (runV (rest := []) hX [0, 1] (ctX2_stateAt_3 G a (3 : Int32) (rot) 3 hd) dX2_push_17 1 gX2_push_X2_stateAt rfl hyX2_stateAt ⟨Nat.le_of_ble_eq_true rfl, Nat.le_of_ble_eq_true rfl⟩ 0 rfl rfl rfl rfl (Nat.le_of_ble_eq_true rfl) ⟨Nat.le_of_ble_eq_true rfl, Nat.le_of_ble_eq_true rfl⟩ rfl (by decide +kernel)) rfl ⟨rfl, rfl⟩ ?_
  refine w_astore_n (pc := 20) hX dX2_push_20 rfl (Nat.le_of_ble_eq_true rfl) ?_
  refine w_aload_n (pc := 21) hX dX2_push_21 rfl rfl ?_
  refine w_ifnull (pc := 22) hX dX2_push_22 ?_
  refine w_aload_n (pc := 25) hX dX2_push_25 rfl rfl ?_
  refine w_aload_n (pc := 26) hX dX2_push_26 rfl rfl ?_
  refine w_calldv (pc := 27) (ws' := wX2 G a ((3 : Int32), rot, fun j => if j = 3 then o else p j) ++ wX3 G a_p1 z) (os := [none, none, none, none, none, none, none, none, none, none, none, none, none, none, none, none, none, some 0, some 1, some 2, some 3, some 4, some 5, some 6, some 7, some 8, some 9]) 27 hX [17, 18, 19, 20, 21, 22, 23, 24, 25, 26] (runV (rest := []) hX [17, 18, 19, 20, 21, 22, 23, 24, 25, 26] (ctX3_copyFrom G F (a 14) a_p1 (p 3) z o hm) dX2_push_27 1 gX2_push_X3_copyFrom rfl hyX3_copyFrom ⟨Nat.le_of_ble_eq_true rfl, Nat.le_of_ble_eq_true rfl⟩ 17 rfl rfl rfl rfl (Nat.le_of_ble_eq_true rfl) ⟨Nat.le_of_ble_eq_true rfl, Nat.le_of_ble_eq_true rfl⟩ rfl (by decide +kernel)) rfl rfl rfl (by decide +kernel) rfl ⟨rfl, rfl⟩ ?_
  refine w_aload_n (pc := 30) hX dX2_push_30 rfl rfl ?_
  refine w_dup (pc := 31) hX dX2_push_31 rfl ?_
  refine gf_X2_states (pc := 32) hX dX2_push_32 hX2 (List.mem_of_getElem? (i := 1) rfl) 0 rfl rfl ?_
  refine w_iconst (pc := 35) hX dX2_push_35 ic_1 ?_
  refine w_iadd (pc := 36) hX dX2_push_36 ?_
  refine pf_X2_states (pc := 37) hX dX2_push_37 hX2 (List.mem_of_getElem? (i := 1) rfl) 0 rfl rfl ?_
  exact w_vret (pc := 40) hX hR dX2_push_40 ⟨rfl, rfl⟩
