/-! HISTORY: push, the full one; pop -/
set_option maxHeartbeats 4000000 in
set_option maxRecDepth 100000 in
theorem ctX2_push_4_0 (G : gT) (F : Nat) (a : Nat → Nat → Nat) (a_p1 : Nat → Nat) (h : HS) (z o : MZ) (hs : h.1 = 4) (hd : (3 + (h.2.1 + 1)) % 4 = 0) (hm : mX3_copyFrom F (h.2.2 0) z = some o) : CT G yX2_push wsX2_push rmX2_push [.ref (a 3 0), .ref (a_p1 0)] (wX2 G a h ++ wX3 G a_p1 z) (fun v w => v = none ∧ w = wX2 G a (4, h.2.1 + 1, fun j => if j = 0 then o else h.2.2 j) ++ wX3 G a_p1 z) := by
  obtain ⟨hst, rot, p⟩ := h
  dsimp only at hs hd hm ⊢
  subst hs
  refine CT_of (cc := cX2_push) (maxL := 3) (ret := none) 1 (by decide +kernel) rfl rfl (cat_ok rfl) (fun X hX hR hN => ?_)
  have hX : Ok G X cX2_push RX2 wsX2_push 3 rmX2_push := hX
  have hX2 : ∀ w ∈ wsX20, w ∈ wsX2_push := lX2_push_X2
  refine w_aload_n (pc := 0) hX dX2_push_0 rfl rfl ?_
  refine gf_X2_states (pc := 1) hX dX2_push_1 hX2 (List.mem_of_getElem? (i := 1) rfl) 0 rfl rfl ?_
  refine w_iconst (pc := 4) hX dX2_push_4 ic_4 ?_
  refine w_icmp_ltF (pc := 5) (tgt := 12) hX dX2_push_5 (by decide) (show ¬ (4 : Int32) < 4 from by decide) ?_
  refine w_aload_n (pc := 8) hX dX2_push_8 rfl rfl ?_
  have hq : (4 : Int32) - 1 = 3 := by decide
  have hr : rot % 4 = 0 := by omega
  have hdo := ctX2_dropOldest_0 G a (4, rot, p) hr 3 (show (4 : Int32) - 1 = 3 from by decide)
  refine w_calldv (pc := 9) (ws' := wX2 G a (3, rot + 1, p) ++ wX3 G a_p1 z) (os := [some 0, some 1, some 2, some 3, some 4, some 5, some 6, some 7, some 8, some 9, some 10, some 11, some 12, some 13, some 14, some 15, some 16, some 17, some 18, some 19, some 20, some 21, none, none, none, none, none]) 27 hX [0, 1, 2, 3, 4, 5, 6, 7, 8, 9, 10, 11, 12, 13, 14, 15, 16, 17, 18, 19, 20, 21] (runV (rest := []) hX [0, 1, 2, 3, 4, 5, 6, 7, 8, 9, 10, 11, 12, 13, 14, 15, 16, 17, 18, 19, 20, 21] hdo dX2_push_9 0 gX2_push_X2_dropOldest rfl hyX2_dropOldest ⟨Nat.le_of_ble_eq_true rfl, Nat.le_of_ble_eq_true rfl⟩ 0 rfl rfl rfl rfl (Nat.le_of_ble_eq_true rfl) ⟨Nat.le_of_ble_eq_true rfl, Nat.le_of_ble_eq_true rfl⟩ rfl (by decide +kernel)) rfl rfl rfl (by decide +kernel) rfl ⟨rfl, rfl⟩ ?_
  refine w_aload_n (pc := 12) hX dX2_push_12 rfl rfl ?_
  refine w_aload_n (pc := 13) hX dX2_push_13 rfl rfl ?_
  refine gf_X2_states (pc := 14) hX dX2_push_14 hX2 (List.mem_of_getElem? (i := 1) rfl) 0 rfl rfl ?_
  refine w_callpo (pc := 17) hX [0, 1] (runV (rest := []) hX [0, 1] (ctX2_stateAt_3 G a (3 : Int32) (rot + 1) 0 hd) dX2_push_17 1 gX2_push_X2_stateAt rfl hyX2_stateAt ⟨Nat.le_of_ble_eq_true rfl, Nat.le_of_ble_eq_true rfl⟩ 0 rfl rfl rfl rfl (Nat.le_of_ble_eq_true rfl) ⟨Nat.le_of_ble_eq_true rfl, Nat.le_of_ble_eq_true rfl⟩ rfl (by decide +kernel)) rfl ⟨rfl, rfl⟩ ?_
  refine w_astore_n (pc := 20) hX dX2_push_20 rfl (Nat.le_of_ble_eq_true rfl) ?_
  refine w_aload_n (pc := 21) hX dX2_push_21 rfl rfl ?_
  refine w_ifnull (pc := 22) hX dX2_push_22 ?_
  refine w_aload_n (pc := 25) hX dX2_push_25 rfl rfl ?_
  refine w_aload_n (pc := 26) hX dX2_push_26 rfl rfl ?_
  refine w_calldv (pc := 27) (ws' := wX2 G a ((3 : Int32), rot + 1, fun j => if j = 0 then o else p j) ++ wX3 G a_p1 z) (os := [none, none, some 0, some 1, some 2, some 3, some 4, none, none, none, none, none, none, none, none, none, none, none, none, none, none, none, some 5, some 6, some 7, some 8, some 9]) 27 hX [2, 3, 4, 5, 6, 22, 23, 24, 25, 26] (runV (rest := []) hX [2, 3, 4, 5, 6, 22, 23, 24, 25, 26] (ctX3_copyFrom G F (a 11) a_p1 (p 0) z o hm) dX2_push_27 1 gX2_push_X3_copyFrom rfl hyX3_copyFrom ⟨Nat.le_of_ble_eq_true rfl, Nat.le_of_ble_eq_true rfl⟩ 2 rfl rfl rfl rfl (Nat.le_of_ble_eq_true rfl) ⟨Nat.le_of_ble_eq_true rfl, Nat.le_of_ble_eq_true rfl⟩ rfl (by decide +kernel)) rfl rfl rfl (by decide +kernel) rfl ⟨rfl, rfl⟩ ?_
  refine w_aload_n (pc := 30) hX dX2_push_30 rfl rfl ?_
  refine w_dup (pc := 31) hX dX2_push_31 rfl ?_
  refine gf_X2_states (pc := 32) hX dX2_push_32 hX2 (List.mem_of_getElem? (i := 1) rfl) 0 rfl rfl ?_
  refine w_iconst (pc := 35) hX dX2_push_35 ic_1 ?_
  refine w_iadd (pc := 36) hX dX2_push_36 ?_
  refine pf_X2_states (pc := 37) hX dX2_push_37 hX2 (List.mem_of_getElem? (i := 1) rfl) 0 rfl rfl ?_
  exact w_vret (pc := 40) hX hR dX2_push_40 ⟨rfl, rfl⟩
set_option maxHeartbeats 4000000 in
set_option maxRecDepth 100000 in
theorem ctX2_push_4_1 (G : gT) (F : Nat) (a : Nat → Nat → Nat) (a_p1 : Nat → Nat) (h : HS) (z o : MZ) (hs : h.1 = 4) (hd : (3 + (h.2.1 + 1)) % 4 = 1) (hm : mX3_copyFrom F (h.2.2 1) z = some o) : CT G yX2_push wsX2_push rmX2_push [.ref (a 3 0), .ref (a_p1 0)] (wX2 G a h ++ wX3 G a_p1 z) (fun v w => v = none ∧ w = wX2 G a (4, h.2.1 + 1, fun j => if j = 1 then o else h.2.2 j) ++ wX3 G a_p1 z) := by
  obtain ⟨hst, rot, p⟩ := h
  dsimp only at hs hd hm ⊢
  subst hs
  refine CT_of (cc := cX2_push) (maxL := 3) (ret := none) 1 (by decide +kernel) rfl rfl (cat_ok rfl) (fun X hX hR hN => ?_)
  have hX : Ok G X cX2_push RX2 wsX2_push 3 rmX2_push := hX
  have hX2 : ∀ w ∈ wsX20, w ∈ wsX2_push := lX2_push_X2
  refine w_aload_n (pc := 0) hX dX2_push_0 rfl rfl ?_
  refine gf_X2_states (pc := 1) hX dX2_push_1 hX2 (List.mem_of_getElem? (i := 1) rfl) 0 rfl rfl ?_
  refine w_iconst (pc := 4) hX dX2_push_4 ic_4 ?_
  refine w_icmp_ltF (pc := 5) (tgt := 12) hX dX2_push_5 (by decide) (show ¬ (4 : Int32) < 4 from by decide) ?_
  refine w_aload_n (pc := 8) hX dX2_push_8 rfl rfl ?_
  have hq : (4 : Int32) - 1 = 3 := by decide
  have hr : rot % 4 = 1 := by omega
  have hdo := ctX2_dropOldest_1 G a (4, rot, p) hr 3 (show (4 : Int32) - 1 = 3 from by decide)
  refine w_calldv (pc := 9) (ws' := wX2 G a (3, rot + 1, p) ++ wX3 G a_p1 z) (os := [some 0, some 1, some 2, some 3, some 4, some 5, some 6, some 7, some 8, some 9, some 10, some 11, some 12, some 13, some 14, some 15, some 16, some 17, some 18, some 19, some 20, some 21, none, none, none, none, none]) 27 hX [0, 1, 2, 3, 4, 5, 6, 7, 8, 9, 10, 11, 12, 13, 14, 15, 16, 17, 18, 19, 20, 21] (runV (rest := []) hX [0, 1, 2, 3, 4, 5, 6, 7, 8, 9, 10, 11, 12, 13, 14, 15, 16, 17, 18, 19, 20, 21] hdo dX2_push_9 0 gX2_push_X2_dropOldest rfl hyX2_dropOldest ⟨Nat.le_of_ble_eq_true rfl, Nat.le_of_ble_eq_true rfl⟩ 0 rfl rfl rfl rfl (Nat.le_of_ble_eq_true rfl) ⟨Nat.le_of_ble_eq_true rfl, Nat.le_of_ble_eq_true rfl⟩ rfl (by decide +kernel)) rfl rfl rfl (by decide +kernel) rfl ⟨rfl, rfl⟩ ?_
  refine w_aload_n (pc := 12) hX dX2_push_12 rfl rfl ?_
  refine w_aload_n (pc := 13) hX dX2_push_13 rfl rfl ?_
  refine gf_X2_states (pc := 14) hX dX2_push_14 hX2 (List.mem_of_getElem? (i := 1) rfl) 0 rfl rfl ?_
  refine w_callpo (pc := 17) hX [0, 1] (runV (rest := []) hX [0, 1] (ctX2_stateAt_3 G a (3 : Int32) (rot + 1) 1 hd) dX2_push_17 1 gX2_push_X2_stateAt rfl hyX2_stateAt ⟨Nat.le_of_ble_eq_true rfl, Nat.le_of_ble_eq_true rfl⟩ 0 rfl rfl rfl rfl (Nat.le_of_ble_eq_true rfl) ⟨Nat.le_of_ble_eq_true rfl, Nat.le_of_ble_eq_true rfl⟩ rfl (by decide +kernel)) rfl ⟨rfl, rfl⟩ ?_
  refine w_astore_n (pc := 20) hX dX2_push_20 rfl (Nat.le_of_ble_eq_true rfl) ?_
  refine w_aload_n (pc := 21) hX dX2_push_21 rfl rfl ?_
  refine w_ifnull (pc := 22) hX dX2_push_22 ?_
  refine w_aload_n (pc := 25) hX dX2_push_25 rfl rfl ?_
  refine w_aload_n (pc := 26) hX dX2_push_26 rfl rfl ?_
  refine w_calldv (pc := 27) (ws' := wX2 G a ((3 : Int32), rot + 1, fun j => if j = 1 then o else p j) ++ wX3 G a_p1 z) (os := [none, none, none, none, none, none, none, some 0, some 1, some 2, some 3, some 4, none, none, none, none, none, none, none, none, none, none, some 5, some 6, some 7, some 8, some 9]) 27 hX [7, 8, 9, 10, 11, 22, 23, 24, 25, 26] (runV (rest := []) hX [7, 8, 9, 10, 11, 22, 23, 24, 25, 26] (ctX3_copyFrom G F (a 12) a_p1 (p 1) z o hm) dX2_push_27 1 gX2_push_X3_copyFrom rfl hyX3_copyFrom ⟨Nat.le_of_ble_eq_true rfl, Nat.le_of_ble_eq_true rfl⟩ 7 rfl rfl rfl rfl (Nat.le_of_ble_eq_true rfl) ⟨Nat.le_of_ble_eq_true rfl, Nat.le_of_ble_eq_true rfl⟩ rfl (by decide +kernel)) rfl rfl rfl (by decide +kernel) rfl ⟨rfl, rfl⟩ ?_
  refine w_aload_n (pc := 30) hX dX2_push_30 rfl rfl ?_
  refine w_dup (pc := 31) hX dX2_push_31 rfl ?_
  refine gf_X2_states (pc := 32) hX dX2_push_32 hX2 (List.mem_of_getElem? (i := 1) rfl) 0 rfl rfl ?_
  refine w_iconst (pc := 35) hX dX2_push_35 ic_1 ?_
  refine w_iadd (pc := 36) hX dX2_push_36 ?_
  refine pf_X2_states (pc := 37) hX dX2_push_37 hX2 (List.mem_of_getElem? (i := 1) rfl) 0 rfl rfl ?_
  exact w_vret (pc := 40) hX hR dX2_push_40 ⟨rfl, rfl⟩
set_option maxHeartbeats 4000000 in
set_option maxRecDepth 100000 in
theorem ctX2_push_4_2 (G : gT) (F : Nat) (a : Nat → Nat → Nat) (a_p1 : Nat → Nat) (h : HS) (z o : MZ) (hs : h.1 = 4) (hd : (3 + (h.2.1 + 1)) % 4 = 2) (hm : mX3_copyFrom F (h.2.2 2) z = some o) : CT G yX2_push wsX2_push rmX2_push [.ref (a 3 0), .ref (a_p1 0)] (wX2 G a h ++ wX3 G a_p1 z) (fun v w => v = none ∧ w = wX2 G a (4, h.2.1 + 1, fun j => if j = 2 then o else h.2.2 j) ++ wX3 G a_p1 z) := by
  obtain ⟨hst, rot, p⟩ := h
  dsimp only at hs hd hm ⊢
  subst hs
  refine CT_of (cc := cX2_push) (maxL := 3) (ret := none) 1 (by decide +kernel) rfl rfl (cat_ok rfl) (fun X hX hR hN => ?_)
  have hX : Ok G X cX2_push RX2 wsX2_push 3 rmX2_push := hX
  have hX2 : ∀ w ∈ wsX20, w ∈ wsX2_push := lX2_push_X2
  refine w_aload_n (pc := 0) hX dX2_push_0 rfl rfl ?_
  refine gf_X2_states (pc := 1) hX dX2_push_1 hX2 (List.mem_of_getElem? (i := 1) rfl) 0 rfl rfl ?_
  refine w_iconst (pc := 4) hX dX2_push_4 ic_4 ?_
  refine w_icmp_ltF (pc := 5) (tgt := 12) hX dX2_push_5 (by decide) (show ¬ (4 : Int32) < 4 from by decide) ?_
  refine w_aload_n (pc := 8) hX dX2_push_8 rfl rfl ?_
  have hq : (4 : Int32) - 1 = 3 := by decide
  have hr : rot % 4 = 2 := by omega
  have hdo := ctX2_dropOldest_2 G a (4, rot, p) hr 3 (show (4 : Int32) - 1 = 3 from by decide)
  refine w_calldv (pc := 9) (ws' := wX2 G a (3, rot + 1, p) ++ wX3 G a_p1 z) (os := [some 0, some 1, some 2, some 3, some 4, some 5, some 6, some 7, some 8, some 9, some 10, some 11, some 12, some 13, some 14, some 15, some 16, some 17, some 18, some 19, some 20, some 21, none, none, none, none, none]) 27 hX [0, 1, 2, 3, 4, 5, 6, 7, 8, 9, 10, 11, 12, 13, 14, 15, 16, 17, 18, 19, 20, 21] (runV (rest := []) hX [0, 1, 2, 3, 4, 5, 6, 7, 8, 9, 10, 11, 12, 13, 14, 15, 16, 17, 18, 19, 20, 21] hdo dX2_push_9 0 gX2_push_X2_dropOldest rfl hyX2_dropOldest ⟨Nat.le_of_ble_eq_true rfl, Nat.le_of_ble_eq_true rfl⟩ 0 rfl rfl rfl rfl (Nat.le_of_ble_eq_true rfl) ⟨Nat.le_of_ble_eq_true rfl, Nat.le_of_ble_eq_true rfl⟩ rfl (by decide +kernel)) rfl rfl rfl (by decide +kernel) rfl ⟨rfl, rfl⟩ ?_
  refine w_aload_n (pc := 12) hX dX2_push_12 rfl rfl ?_
  refine w_aload_n (pc := 13) hX dX2_push_13 rfl rfl ?_
  refine gf_X2_states (pc := 14) hX dX2_push_14 hX2 (List.mem_of_getElem? (i := 1) rfl) 0 rfl rfl ?_
  refine w_callpo (pc := 17) hX [0, 1] (runV (rest := []) hX [0, 1] (ctX2_stateAt_3 G a (3 : Int32) (rot + 1) 2 hd) dX2_push_17 1 gX2_push_X2_stateAt rfl hyX2_stateAt ⟨Nat.le_of_ble_eq_true rfl, Nat.le_of_ble_eq_true rfl⟩ 0 rfl rfl rfl rfl (Nat.le_of_ble_eq_true rfl) ⟨Nat.le_of_ble_eq_true rfl, Nat.le_of_ble_eq_true rfl⟩ rfl (by decide +kernel)) rfl ⟨rfl, rfl⟩ ?_
  refine w_astore_n (pc := 20) hX dX2_push_20 rfl (Nat.le_of_ble_eq_true rfl) ?_
  refine w_aload_n (pc := 21) hX dX2_push_21 rfl rfl ?_
  refine w_ifnull (pc := 22) hX dX2_push_22 ?_
  refine w_aload_n (pc := 25) hX dX2_push_25 rfl rfl ?_
  refine w_aload_n (pc := 26) hX dX2_push_26 rfl rfl ?_
  refine w_calldv (pc := 27) (ws' := wX2 G a ((3 : Int32), rot + 1, fun j => if j = 2 then o else p j) ++ wX3 G a_p1 z) (os := [none, none, none, none, none, none, none, none, none, none, none, none, some 0, some 1, some 2, some 3, some 4, none, none, none, none, none, some 5, some 6, some 7, some 8, some 9]) 27 hX [12, 13, 14, 15, 16, 22, 23, 24, 25, 26] (runV (rest := []) hX [12, 13, 14, 15, 16, 22, 23, 24, 25, 26] (ctX3_copyFrom G F (a 13) a_p1 (p 2) z o hm) dX2_push_27 1 gX2_push_X3_copyFrom rfl hyX3_copyFrom ⟨Nat.le_of_ble_eq_true rfl, Nat.le_of_ble_eq_true rfl⟩ 12 rfl rfl rfl rfl (Nat.le_of_ble_eq_true rfl) ⟨Nat.le_of_ble_eq_true rfl, Nat.le_of_ble_eq_true rfl⟩ rfl (by decide +kernel)) rfl rfl rfl (by decide +kernel) rfl ⟨rfl, rfl⟩ ?_
  refine w_aload_n (pc := 30) hX dX2_push_30 rfl rfl ?_
  refine w_dup (pc := 31) hX dX2_push_31 rfl ?_
  refine gf_X2_states (pc := 32) hX dX2_push_32 hX2 (List.mem_of_getElem? (i := 1) rfl) 0 rfl rfl ?_
  refine w_iconst (pc := 35) hX dX2_push_35 ic_1 ?_
  refine w_iadd (pc := 36) hX dX2_push_36 ?_
  refine pf_X2_states (pc := 37) hX dX2_push_37 hX2 (List.mem_of_getElem? (i := 1) rfl) 0 rfl rfl ?_
  exact w_vret (pc := 40) hX hR dX2_push_40 ⟨rfl, rfl⟩
set_option maxHeartbeats 4000000 in
set_option maxRecDepth 100000 in
theorem ctX2_push_4_3 (G : gT) (F : Nat) (a : Nat → Nat → Nat) (a_p1 : Nat → Nat) (h : HS) (z o : MZ) (hs : h.1 = 4) (hd : (3 + (h.2.1 + 1)) % 4 = 3) (hm : mX3_copyFrom F (h.2.2 3) z = some o) : CT G yX2_push wsX2_push rmX2_push [.ref (a 3 0), .ref (a_p1 0)] (wX2 G a h ++ wX3 G a_p1 z) (fun v w => v = none ∧ w = wX2 G a (4, h.2.1 + 1, fun j => if j = 3 then o else h.2.2 j) ++ wX3 G a_p1 z) := by
  obtain ⟨hst, rot, p⟩ := h
  dsimp only at hs hd hm ⊢
  subst hs
  refine CT_of (cc := cX2_push) (maxL := 3) (ret := none) 1 (by decide +kernel) rfl rfl (cat_ok rfl) (fun X hX hR hN => ?_)
  have hX : Ok G X cX2_push RX2 wsX2_push 3 rmX2_push := hX
  have hX2 : ∀ w ∈ wsX20, w ∈ wsX2_push := lX2_push_X2
  refine w_aload_n (pc := 0) hX dX2_push_0 rfl rfl ?_
  refine gf_X2_states (pc := 1) hX dX2_push_1 hX2 (List.mem_of_getElem? (i := 1) rfl) 0 rfl rfl ?_
  refine w_iconst (pc := 4) hX dX2_push_4 ic_4 ?_
  refine w_icmp_ltF (pc := 5) (tgt := 12) hX dX2_push_5 (by decide) (show ¬ (4 : Int32) < 4 from by decide) ?_
  refine w_aload_n (pc := 8) hX dX2_push_8 rfl rfl ?_
  have hq : (4 : Int32) - 1 = 3 := by decide
  have hr : rot % 4 = 3 := by omega
  have hdo := ctX2_dropOldest_3 G a (4, rot, p) hr 3 (show (4 : Int32) - 1 = 3 from by decide)
  refine w_calldv (pc := 9) (ws' := wX2 G a (3, rot + 1, p) ++ wX3 G a_p1 z) (os := [some 0, some 1, some 2, some 3, some 4, some 5, some 6, some 7, some 8, some 9, some 10, some 11, some 12, some 13, some 14, some 15, some 16, some 17, some 18, some 19, some 20, some 21, none, none, none, none, none]) 27 hX [0, 1, 2, 3, 4, 5, 6, 7, 8, 9, 10, 11, 12, 13, 14, 15, 16, 17, 18, 19, 20, 21] (runV (rest := []) hX [0, 1, 2, 3, 4, 5, 6, 7, 8, 9, 10, 11, 12, 13, 14, 15, 16, 17, 18, 19, 20, 21] hdo dX2_push_9 0 gX2_push_X2_dropOldest rfl hyX2_dropOldest ⟨Nat.le_of_ble_eq_true rfl, Nat.le_of_ble_eq_true rfl⟩ 0 rfl rfl rfl rfl (Nat.le_of_ble_eq_true rfl) ⟨Nat.le_of_ble_eq_true rfl, Nat.le_of_ble_eq_true rfl⟩ rfl (by decide +kernel)) rfl rfl rfl (by decide +kernel) rfl ⟨rfl, rfl⟩ ?_
  refine w_aload_n (pc := 12) hX dX2_push_12 rfl rfl ?_
  refine w_aload_n (pc := 13) hX dX2_push_13 rfl rfl ?_
  refine gf_X2_states (pc := 14) hX dX2_push_14 hX2 (List.mem_of_getElem? (i := 1) rfl) 0 rfl rfl ?_
  refine w_callpo (pc := 17) hX [0, 1] (runV (rest := []) hX [0, 1] (ctX2_stateAt_3 G a (3 : Int32) (rot + 1) 3 hd) dX2_push_17 1 gX2_push_X2_stateAt rfl hyX2_stateAt ⟨Nat.le_of_ble_eq_true rfl, Nat.le_of_ble_eq_true rfl⟩ 0 rfl rfl rfl rfl (Nat.le_of_ble_eq_true rfl) ⟨Nat.le_of_ble_eq_true rfl, Nat.le_of_ble_eq_true rfl⟩ rfl (by decide +kernel)) rfl ⟨rfl, rfl⟩ ?_
  refine w_astore_n (pc := 20) hX dX2_push_20 rfl (Nat.le_of_ble_eq_true rfl) ?_
  refine w_aload_n (pc := 21) hX dX2_push_21 rfl rfl ?_
  refine w_ifnull (pc := 22) hX dX2_push_22 ?_
  refine w_aload_n (pc := 25) hX dX2_push_25 rfl rfl ?_
  refine w_aload_n (pc := 26) hX dX2_push_26 rfl rfl ?_
  refine w_calldv (pc := 27) (ws' := wX2 G a ((3 : Int32), rot + 1, fun j => if j = 3 then o else p j) ++ wX3 G a_p1 z) (os := [none, none, none, none, none, none, none, none, none, none, none, none, none, none, none, none, none, some 0, some 1, some 2, some 3, some 4, some 5, some 6, some 7, some 8, some 9]) 27 hX [17, 18, 19, 20, 21, 22, 23, 24, 25, 26] (runV (rest := []) hX [17, 18, 19, 20, 21, 22, 23, 24, 25, 26] (ctX3_copyFrom G F (a 14) a_p1 (p 3) z o hm) dX2_push_27 1 gX2_push_X3_copyFrom rfl hyX3_copyFrom ⟨Nat.le_of_ble_eq_true rfl, Nat.le_of_ble_eq_true rfl⟩ 17 rfl rfl rfl rfl (Nat.le_of_ble_eq_true rfl) ⟨Nat.le_of_ble_eq_true rfl, Nat.le_of_ble_eq_true rfl⟩ rfl (by decide +kernel)) rfl rfl rfl (by decide +kernel) rfl ⟨rfl, rfl⟩ ?_
  refine w_aload_n (pc := 30) hX dX2_push_30 rfl rfl ?_
  refine w_dup (pc := 31) hX dX2_push_31 rfl ?_
  refine gf_X2_states (pc := 32) hX dX2_push_32 hX2 (List.mem_of_getElem? (i := 1) rfl) 0 rfl rfl ?_
  refine w_iconst (pc := 35) hX dX2_push_35 ic_1 ?_
  refine w_iadd (pc := 36) hX dX2_push_36 ?_
  refine pf_X2_states (pc := 37) hX dX2_push_37 hX2 (List.mem_of_getElem? (i := 1) rfl) 0 rfl rfl ?_
  exact w_vret (pc := 40) hX hR dX2_push_40 ⟨rfl, rfl⟩
set_option maxHeartbeats 4000000 in
set_option maxRecDepth 100000 in
theorem ctX2_pop_0 (G : gT) (a : Nat → Nat → Nat) (a_p1 : Nat → Nat) (h : HS) (z : MZ) (hs : h.1 = 0) : CT G yX2_pop wsX2_pop rmX2_pop [.ref (a 3 0), .ref (a_p1 0)] (wX2 G a h ++ wX3 G a_p1 z) (fun v w => v = some (.int 0) ∧ w = wX2 G a (0, h.2) ++ wX3 G a_p1 z) := by
  obtain ⟨hst, rot, p⟩ := h
  dsimp only at hs ⊢
  subst hs
  refine CT_of (cc := cX2_pop) (maxL := 3) (ret := (some .boolean)) 1 (by decide +kernel) rfl rfl (cat_ok rfl) (fun X hX hR hN => ?_)
  have hX : Ok G X cX2_pop RX2 wsX2_pop 3 rmX2_pop := hX
  have hX2 : ∀ w ∈ wsX20, w ∈ wsX2_pop := lX2_pop_X2
  refine w_aload_n (pc := 0) hX dX2_pop_0 rfl rfl ?_
  refine w_aload_n (pc := 1) hX dX2_pop_1 rfl rfl ?_
  refine gf_X2_states (pc := 2) hX dX2_pop_2 hX2 (List.mem_of_getElem? (i := 1) rfl) 0 rfl rfl ?_
  refine w_iconst (pc := 5) hX dX2_pop_5 ic_1 ?_
  refine w_isub (pc := 6) hX dX2_pop_6 ?_
  have hq : (0 : Int32) - 1 = -1 := by decide
  rw [hq]
  refine w_callpo (pc := 7) hX [0, 1] (runV (rest := []) hX [0, 1] (ctX2_stateAt_m1 G a 0 rot) dX2_pop_7 1 gX2_pop_X2_stateAt rfl hyX2_stateAt ⟨Nat.le_of_ble_eq_true rfl, Nat.le_of_ble_eq_true rfl⟩ 0 rfl rfl rfl rfl (Nat.le_of_ble_eq_true rfl) ⟨Nat.le_of_ble_eq_true rfl, Nat.le_of_ble_eq_true rfl⟩ rfl (by decide +kernel)) rfl ⟨rfl, rfl⟩ ?_
  refine w_astore_nN (pc := 10) hX dX2_pop_10 rfl (Nat.le_of_ble_eq_true rfl) ?_
  refine w_aload_nN (pc := 11) hX dX2_pop_11 rfl rfl ?_
  refine w_ifnonnullN (pc := 12) hX dX2_pop_12 ?_
  refine w_iconst (pc := 15) hX dX2_pop_15 ic_0 ?_
  exact w_zretT (pc := 16) hX hR dX2_pop_16 (by decide) ⟨rfl, rfl⟩
set_option maxHeartbeats 4000000 in
set_option maxRecDepth 100000 in
theorem ctX2_pop_1_0 (G : gT) (F : Nat) (a : Nat → Nat → Nat) (a_p1 : Nat → Nat) (h : HS) (z o : MZ) (hs : h.1 = 1) (hd : (0 + h.2.1) % 4 = 0) (hm : mX3_copyFrom F z (h.2.2 0) = some o) : CT G yX2_pop wsX2_pop rmX2_pop [.ref (a 3 0), .ref (a_p1 0)] (wX2 G a h ++ wX3 G a_p1 z) (fun v w => v = some (.int 1) ∧ w = wX2 G a (0, h.2) ++ wX3 G a_p1 o) := by
  obtain ⟨hst, rot, p⟩ := h
  dsimp only at hs hd hm ⊢
  subst hs
  refine CT_of (cc := cX2_pop) (maxL := 3) (ret := (some .boolean)) 1 (by decide +kernel) rfl rfl (cat_ok rfl) (fun X hX hR hN => ?_)
  have hX : Ok G X cX2_pop RX2 wsX2_pop 3 rmX2_pop := hX
  have hX2 : ∀ w ∈ wsX20, w ∈ wsX2_pop := lX2_pop_X2
  refine w_aload_n (pc := 0) hX dX2_pop_0 rfl rfl ?_
  refine w_aload_n (pc := 1) hX dX2_pop_1 rfl rfl ?_
  refine gf_X2_states (pc := 2) hX dX2_pop_2 hX2 (List.mem_of_getElem? (i := 1) rfl) 0 rfl rfl ?_
  refine w_iconst (pc := 5) hX dX2_pop_5 ic_1 ?_
  refine w_isub (pc := 6) hX dX2_pop_6 ?_
  have hq : (1 : Int32) - 1 = 0 := by decide
  rw [hq]
  refine w_callpo (pc := 7) hX [0, 1] (runV (rest := []) hX [0, 1] (ctX2_stateAt_0 G a 1 rot 0 hd) dX2_pop_7 1 gX2_pop_X2_stateAt rfl hyX2_stateAt ⟨Nat.le_of_ble_eq_true rfl, Nat.le_of_ble_eq_true rfl⟩ 0 rfl rfl rfl rfl (Nat.le_of_ble_eq_true rfl) ⟨Nat.le_of_ble_eq_true rfl, Nat.le_of_ble_eq_true rfl⟩ rfl (by decide +kernel)) rfl ⟨rfl, rfl⟩ ?_
  refine w_astore_n (pc := 10) hX dX2_pop_10 rfl (Nat.le_of_ble_eq_true rfl) ?_
  refine w_aload_n (pc := 11) hX dX2_pop_11 rfl rfl ?_
  refine w_ifnonnull (pc := 12) (tgt := 17) hX dX2_pop_12 (by decide) ?_
  refine w_aload_n (pc := 17) hX dX2_pop_17 rfl rfl ?_
  refine w_aload_n (pc := 18) hX dX2_pop_18 rfl rfl ?_
  refine w_calldv (pc := 19) (ws' := wX2 G a (1, rot, p) ++ wX3 G a_p1 o) (os := [none, none, some 5, some 6, some 7, some 8, some 9, none, none, none, none, none, none, none, none, none, none, none, none, none, none, none, some 0, some 1, some 2, some 3, some 4]) 27 hX [22, 23, 24, 25, 26, 2, 3, 4, 5, 6] (runV (rest := []) hX [22, 23, 24, 25, 26, 2, 3, 4, 5, 6] (ctX3_copyFrom G F a_p1 (a 11) z (p 0) o hm) dX2_pop_19 1 gX2_pop_X3_copyFrom rfl hyX3_copyFrom ⟨Nat.le_of_ble_eq_true rfl, Nat.le_of_ble_eq_true rfl⟩ 22 rfl rfl rfl rfl (Nat.le_of_ble_eq_true rfl) ⟨Nat.le_of_ble_eq_true rfl, Nat.le_of_ble_eq_true rfl⟩ rfl (by decide +kernel)) rfl rfl rfl (by decide +kernel) rfl ⟨rfl, rfl⟩ ?_
  refine w_aload_n (pc := 22) hX dX2_pop_22 rfl rfl ?_
  refine w_dup (pc := 23) hX dX2_pop_23 rfl ?_
  refine gf_X2_states (pc := 24) hX dX2_pop_24 hX2 (List.mem_of_getElem? (i := 1) rfl) 0 rfl rfl ?_
  refine w_iconst (pc := 27) hX dX2_pop_27 ic_1 ?_
  refine w_isub (pc := 28) hX dX2_pop_28 ?_
  rw [hq]
  refine pf_X2_states (pc := 29) hX dX2_pop_29 hX2 (List.mem_of_getElem? (i := 1) rfl) 0 rfl rfl ?_
  refine w_iconst (pc := 32) hX dX2_pop_32 ic_1 ?_
  exact w_zretT (pc := 33) hX hR dX2_pop_33 (by decide) ⟨rfl, rfl⟩
set_option maxHeartbeats 4000000 in
set_option maxRecDepth 100000 in
theorem ctX2_pop_1_1 (G : gT) (F : Nat) (a : Nat → Nat → Nat) (a_p1 : Nat → Nat) (h : HS) (z o : MZ) (hs : h.1 = 1) (hd : (0 + h.2.1) % 4 = 1) (hm : mX3_copyFrom F z (h.2.2 1) = some o) : CT G yX2_pop wsX2_pop rmX2_pop [.ref (a 3 0), .ref (a_p1 0)] (wX2 G a h ++ wX3 G a_p1 z) (fun v w => v = some (.int 1) ∧ w = wX2 G a (0, h.2) ++ wX3 G a_p1 o) := by
  obtain ⟨hst, rot, p⟩ := h
  dsimp only at hs hd hm ⊢
  subst hs
  refine CT_of (cc := cX2_pop) (maxL := 3) (ret := (some .boolean)) 1 (by decide +kernel) rfl rfl (cat_ok rfl) (fun X hX hR hN => ?_)
  have hX : Ok G X cX2_pop RX2 wsX2_pop 3 rmX2_pop := hX
  have hX2 : ∀ w ∈ wsX20, w ∈ wsX2_pop := lX2_pop_X2
  refine w_aload_n (pc := 0) hX dX2_pop_0 rfl rfl ?_
  refine w_aload_n (pc := 1) hX dX2_pop_1 rfl rfl ?_
  refine gf_X2_states (pc := 2) hX dX2_pop_2 hX2 (List.mem_of_getElem? (i := 1) rfl) 0 rfl rfl ?_
  refine w_iconst (pc := 5) hX dX2_pop_5 ic_1 ?_
  refine w_isub (pc := 6) hX dX2_pop_6 ?_
  have hq : (1 : Int32) - 1 = 0 := by decide
  rw [hq]
  refine w_callpo (pc := 7) hX [0, 1] (runV (rest := []) hX [0, 1] (ctX2_stateAt_0 G a 1 rot 1 hd) dX2_pop_7 1 gX2_pop_X2_stateAt rfl hyX2_stateAt ⟨Nat.le_of_ble_eq_true rfl, Nat.le_of_ble_eq_true rfl⟩ 0 rfl rfl rfl rfl (Nat.le_of_ble_eq_true rfl) ⟨Nat.le_of_ble_eq_true rfl, Nat.le_of_ble_eq_true rfl⟩ rfl (by decide +kernel)) rfl ⟨rfl, rfl⟩ ?_
  refine w_astore_n (pc := 10) hX dX2_pop_10 rfl (Nat.le_of_ble_eq_true rfl) ?_
  refine w_aload_n (pc := 11) hX dX2_pop_11 rfl rfl ?_
  refine w_ifnonnull (pc := 12) (tgt := 17) hX dX2_pop_12 (by decide) ?_
  refine w_aload_n (pc := 17) hX dX2_pop_17 rfl rfl ?_
  refine w_aload_n (pc := 18) hX dX2_pop_18 rfl rfl ?_
  refine w_calldv (pc := 19) (ws' := wX2 G a (1, rot, p) ++ wX3 G a_p1 o) (os := [none, none, none, none, none, none, none, some 5, some 6, some 7, some 8, some 9, none, none, none, none, none, none, none, none, none, none, some 0, some 1, some 2, some 3, some 4]) 27 hX [22, 23, 24, 25, 26, 7, 8, 9, 10, 11] (runV (rest := []) hX [22, 23, 24, 25, 26, 7, 8, 9, 10, 11] (ctX3_copyFrom G F a_p1 (a 12) z (p 1) o hm) dX2_pop_19 1 gX2_pop_X3_copyFrom rfl hyX3_copyFrom ⟨Nat.le_of_ble_eq_true rfl, Nat.le_of_ble_eq_true rfl⟩ 22 rfl rfl rfl rfl (Nat.le_of_ble_eq_true rfl) ⟨Nat.le_of_ble_eq_true rfl, Nat.le_of_ble_eq_true rfl⟩ rfl (by decide +kernel)) rfl rfl rfl (by decide +kernel) rfl ⟨rfl, rfl⟩ ?_
  refine w_aload_n (pc := 22) hX dX2_pop_22 rfl rfl ?_
  refine w_dup (pc := 23) hX dX2_pop_23 rfl ?_
  refine gf_X2_states (pc := 24) hX dX2_pop_24 hX2 (List.mem_of_getElem? (i := 1) rfl) 0 rfl rfl ?_
  refine w_iconst (pc := 27) hX dX2_pop_27 ic_1 ?_
  refine w_isub (pc := 28) hX dX2_pop_28 ?_
  rw [hq]
  refine pf_X2_states (pc := 29) hX dX2_pop_29 hX2 (List.mem_of_getElem? (i := 1) rfl) 0 rfl rfl ?_
  refine w_iconst (pc := 32) hX dX2_pop_32 ic_1 ?_
  exact w_zretT (pc := 33) hX hR dX2_pop_33 (by decide) ⟨rfl, rfl⟩
set_option maxHeartbeats 4000000 in
set_option maxRecDepth 100000 in
theorem ctX2_pop_1_2 (G : gT) (F : Nat) (a : Nat → Nat → Nat) (a_p1 : Nat → Nat) (h : HS) (z o : MZ) (hs : h.1 = 1) (hd : (0 + h.2.1) % 4 = 2) (hm : mX3_copyFrom F z (h.2.2 2) = some o) : CT G yX2_pop wsX2_pop rmX2_pop [.ref (a 3 0), .ref (a_p1 0)] (wX2 G a h ++ wX3 G a_p1 z) (fun v w => v = some (.int 1) ∧ w = wX2 G a (0, h.2) ++ wX3 G a_p1 o) := by
  obtain ⟨hst, rot, p⟩ := h
  dsimp only at hs hd hm ⊢
  subst hs
  refine CT_of (cc := cX2_pop) (maxL := 3) (ret := (some .boolean)) 1 (by decide +kernel) rfl rfl (cat_ok rfl) (fun X hX hR hN => ?_)
  have hX : Ok G X cX2_pop RX2 wsX2_pop 3 rmX2_pop := hX
  have hX2 : ∀ w ∈ wsX20, w ∈ wsX2_pop := lX2_pop_X2
  refine w_aload_n (pc := 0) hX dX2_pop_0 rfl rfl ?_
  refine w_aload_n (pc := 1) hX dX2_pop_1 rfl rfl ?_
  refine gf_X2_states (pc := 2) hX dX2_pop_2 hX2 (List.mem_of_getElem? (i := 1) rfl) 0 rfl rfl ?_
  refine w_iconst (pc := 5) hX dX2_pop_5 ic_1 ?_
  refine w_isub (pc := 6) hX dX2_pop_6 ?_
  have hq : (1 : Int32) - 1 = 0 := by decide
  rw [hq]
  refine w_callpo (pc := 7) hX [0, 1] (runV (rest := []) hX [0, 1] (ctX2_stateAt_0 G a 1 rot 2 hd) dX2_pop_7 1 gX2_pop_X2_stateAt rfl hyX2_stateAt ⟨Nat.le_of_ble_eq_true rfl, Nat.le_of_ble_eq_true rfl⟩ 0 rfl rfl rfl rfl (Nat.le_of_ble_eq_true rfl) ⟨Nat.le_of_ble_eq_true rfl, Nat.le_of_ble_eq_true rfl⟩ rfl (by decide +kernel)) rfl ⟨rfl, rfl⟩ ?_
  refine w_astore_n (pc := 10) hX dX2_pop_10 rfl (Nat.le_of_ble_eq_true rfl) ?_
  refine w_aload_n (pc := 11) hX dX2_pop_11 rfl rfl ?_
  refine w_ifnonnull (pc := 12) (tgt := 17) hX dX2_pop_12 (by decide) ?_
  refine w_aload_n (pc := 17) hX dX2_pop_17 rfl rfl ?_
  refine w_aload_n (pc := 18) hX dX2_pop_18 rfl rfl ?_
  refine w_calldv (pc := 19) (ws' := wX2 G a (1, rot, p) ++ wX3 G a_p1 o) (os := [none, none, none, none, none, none, none, none, none, none, none, none, some 5, some 6, some 7, some 8, some 9, none, none, none, none, none, some 0, some 1, some 2, some 3, some 4]) 27 hX [22, 23, 24, 25, 26, 12, 13, 14, 15, 16] (runV (rest := []) hX [22, 23, 24, 25, 26, 12, 13, 14, 15, 16] (ctX3_copyFrom G F a_p1 (a 13) z (p 2) o hm) dX2_pop_19 1 gX2_pop_X3_copyFrom rfl hyX3_copyFrom ⟨Nat.le_of_ble_eq_true rfl, Nat.le_of_ble_eq_true rfl⟩ 22 rfl rfl rfl rfl (Nat.le_of_ble_eq_true rfl) ⟨Nat.le_of_ble_eq_true rfl, Nat.le_of_ble_eq_true rfl⟩ rfl (by decide +kernel)) rfl rfl rfl (by decide +kernel) rfl ⟨rfl, rfl⟩ ?_
  refine w_aload_n (pc := 22) hX dX2_pop_22 rfl rfl ?_
  refine w_dup (pc := 23) hX dX2_pop_23 rfl ?_
  refine gf_X2_states (pc := 24) hX dX2_pop_24 hX2 (List.mem_of_getElem? (i := 1) rfl) 0 rfl rfl ?_
  refine w_iconst (pc := 27) hX dX2_pop_27 ic_1 ?_
  refine w_isub (pc := 28) hX dX2_pop_28 ?_
  rw [hq]
  refine pf_X2_states (pc := 29) hX dX2_pop_29 hX2 (List.mem_of_getElem? (i := 1) rfl) 0 rfl rfl ?_
  refine w_iconst (pc := 32) hX dX2_pop_32 ic_1 ?_
  exact w_zretT (pc := 33) hX hR dX2_pop_33 (by decide) ⟨rfl, rfl⟩
set_option maxHeartbeats 4000000 in
set_option maxRecDepth 100000 in
theorem ctX2_pop_1_3 (G : gT) (F : Nat) (a : Nat → Nat → Nat) (a_p1 : Nat → Nat) (h : HS) (z o : MZ) (hs : h.1 = 1) (hd : (0 + h.2.1) % 4 = 3) (hm : mX3_copyFrom F z (h.2.2 3) = some o) : CT G yX2_pop wsX2_pop rmX2_pop [.ref (a 3 0), .ref (a_p1 0)] (wX2 G a h ++ wX3 G a_p1 z) (fun v w => v = some (.int 1) ∧ w = wX2 G a (0, h.2) ++ wX3 G a_p1 o) := by
  obtain ⟨hst, rot, p⟩ := h
  dsimp only at hs hd hm ⊢
  subst hs
  refine CT_of (cc := cX2_pop) (maxL := 3) (ret := (some .boolean)) 1 (by decide +kernel) rfl rfl (cat_ok rfl) (fun X hX hR hN => ?_)
  have hX : Ok G X cX2_pop RX2 wsX2_pop 3 rmX2_pop := hX
  have hX2 : ∀ w ∈ wsX20, w ∈ wsX2_pop := lX2_pop_X2
  refine w_aload_n (pc := 0) hX dX2_pop_0 rfl rfl ?_
  refine w_aload_n (pc := 1) hX dX2_pop_1 rfl rfl ?_
  refine gf_X2_states (pc := 2) hX dX2_pop_2 hX2 (List.mem_of_getElem? (i := 1) rfl) 0 rfl rfl ?_
  refine w_iconst (pc := 5) hX dX2_pop_5 ic_1 ?_
  refine w_isub (pc := 6) hX dX2_pop_6 ?_
  have hq : (1 : Int32) - 1 = 0 := by decide
  rw [hq]
  refine w_callpo (pc := 7) hX [0, 1] (runV (rest := []) hX [0, 1] (ctX2_stateAt_0 G a 1 rot 3 hd) dX2_pop_7 1 gX2_pop_X2_stateAt rfl hyX2_stateAt ⟨Nat.le_of_ble_eq_true rfl, Nat.le_of_ble_eq_true rfl⟩ 0 rfl rfl rfl rfl (Nat.le_of_ble_eq_true rfl) ⟨Nat.le_of_ble_eq_true rfl, Nat.le_of_ble_eq_true rfl⟩ rfl (by decide +kernel)) rfl ⟨rfl, rfl⟩ ?_
  refine w_astore_n (pc := 10) hX dX2_pop_10 rfl (Nat.le_of_ble_eq_true rfl) ?_
  refine w_aload_n (pc := 11) hX dX2_pop_11 rfl rfl ?_
  refine w_ifnonnull (pc := 12) (tgt := 17) hX dX2_pop_12 (by decide) ?_
  refine w_aload_n (pc := 17) hX dX2_pop_17 rfl rfl ?_
  refine w_aload_n (pc := 18) hX dX2_pop_18 rfl rfl ?_
  refine w_calldv (pc := 19) (ws' := wX2 G a (1, rot, p) ++ wX3 G a_p1 o) (os := [none, none, none, none, none, none, none, none, none, none, none, none, none, none, none, none, none, some 5, some 6, some 7, some 8, some 9, some 0, some 1, some 2, some 3, some 4]) 27 hX [22, 23, 24, 25, 26, 17, 18, 19, 20, 21] (runV (rest := []) hX [22, 23, 24, 25, 26, 17, 18, 19, 20, 21] (ctX3_copyFrom G F a_p1 (a 14) z (p 3) o hm) dX2_pop_19 1 gX2_pop_X3_copyFrom rfl hyX3_copyFrom ⟨Nat.le_of_ble_eq_true rfl, Nat.le_of_ble_eq_true rfl⟩ 22 rfl rfl rfl rfl (Nat.le_of_ble_eq_true rfl) ⟨Nat.le_of_ble_eq_true rfl, Nat.le_of_ble_eq_true rfl⟩ rfl (by decide +kernel)) rfl rfl rfl (by decide +kernel) rfl ⟨rfl, rfl⟩ ?_
  refine w_aload_n (pc := 22) hX dX2_pop_22 rfl rfl ?_
  refine w_dup (pc := 23) hX dX2_pop_23 rfl ?_
  refine gf_X2_states (pc := 24) hX dX2_pop_24 hX2 (List.mem_of_getElem? (i := 1) rfl) 0 rfl rfl ?_
  refine w_iconst (pc := 27) hX dX2_pop_27 ic_1 ?_
  refine w_isub (pc := 28) hX dX2_pop_28 ?_
  rw [hq]
  refine pf_X2_states (pc := 29) hX dX2_pop_29 hX2 (List.mem_of_getElem? (i := 1) rfl) 0 rfl rfl ?_
  refine w_iconst (pc := 32) hX dX2_pop_32 ic_1 ?_
  exact w_zretT (pc := 33) hX hR dX2_pop_33 (by decide) ⟨rfl, rfl⟩
set_option maxHeartbeats 4000000 in
set_option maxRecDepth 100000 in
theorem ctX2_pop_2_0 (G : gT) (F : Nat) (a : Nat → Nat → Nat) (a_p1 : Nat → Nat) (h : HS) (z o : MZ) (hs : h.1 = 2) (hd : (1 + h.2.1) % 4 = 0) (hm : mX3_copyFrom F z (h.2.2 0) = some o) : CT G yX2_pop wsX2_pop rmX2_pop [.ref (a 3 0), .ref (a_p1 0)] (wX2 G a h ++ wX3 G a_p1 z) (fun v w => v = some (.int 1) ∧ w = wX2 G a (1, h.2) ++ wX3 G a_p1 o) := by
  obtain ⟨hst, rot, p⟩ := h
  dsimp only at hs hd hm ⊢
  subst hs
  refine CT_of (cc := cX2_pop) (maxL := 3) (ret := (some .boolean)) 1 (by decide +kernel) rfl rfl (cat_ok rfl) (fun X hX hR hN => ?_)
  have hX : Ok G X cX2_pop RX2 wsX2_pop 3 rmX2_pop := hX
  have hX2 : ∀ w ∈ wsX20, w ∈ wsX2_pop := lX2_pop_X2
  refine w_aload_n (pc := 0) hX dX2_pop_0 rfl rfl ?_
  refine w_aload_n (pc := 1) hX dX2_pop_1 rfl rfl ?_
  refine gf_X2_states (pc := 2) hX dX2_pop_2 hX2 (List.mem_of_getElem? (i := 1) rfl) 0 rfl rfl ?_
  refine w_iconst (pc := 5) hX dX2_pop_5 ic_1 ?_
  refine w_isub (pc := 6) hX dX2_pop_6 ?_
  have hq : (2 : Int32) - 1 = 1 := by decide
  rw [hq]
  refine w_callpo (pc := 7) hX [0, 1] (runV (rest := []) hX [0, 1] (ctX2_stateAt_1 G a 2 rot 0 hd) dX2_pop_7 1 gX2_pop_X2_stateAt rfl hyX2_stateAt ⟨Nat.le_of_ble_eq_true rfl, Nat.le_of_ble_eq_true rfl⟩ 0 rfl rfl rfl rfl (Nat.le_of_ble_eq_true rfl) ⟨Nat.le_of_ble_eq_true rfl, Nat.le_of_ble_eq_true rfl⟩ rfl (by decide +kernel)) rfl ⟨rfl, rfl⟩ ?_
  refine w_astore_n (pc := 10) hX dX2_pop_10 rfl (Nat.le_of_ble_eq_true rfl) ?_
  refine w_aload_n (pc := 11) hX dX2_pop_11 rfl rfl ?_
  refine w_ifnonnull (pc := 12) (tgt := 17) hX dX2_pop_12 (by decide) ?_
  refine w_aload_n (pc := 17) hX dX2_pop_17 rfl rfl ?_
  refine w_aload_n (pc := 18) hX dX2_pop_18 rfl rfl ?_
  refine w_calldv (pc := 19) (ws' := wX2 G a (2, rot, p) ++ wX3 G a_p1 o) (os := [none, none, some 5, some 6, some 7, some 8, some 9, none, none, none, none, none, none, none, none, none, none, none, none, none, none, none, some 0, some 1, some 2, some 3, some 4]) 27 hX [22, 23, 24, 25, 26, 2, 3, 4, 5, 6] (runV (rest := []) hX [22, 23, 24, 25, 26, 2, 3, 4, 5, 6] (ctX3_copyFrom G F a_p1 (a 11) z (p 0) o hm) dX2_pop_19 1 gX2_pop_X3_copyFrom rfl hyX3_copyFrom ⟨Nat.le_of_ble_eq_true rfl, Nat.le_of_ble_eq_true rfl⟩ 22 rfl rfl rfl rfl (Nat.le_of_ble_eq_true rfl) ⟨Nat.le_of_ble_eq_true rfl, Nat.le_of_ble_eq_true rfl⟩ rfl (by decide +kernel)) rfl rfl rfl (by decide +kernel) rfl ⟨rfl, rfl⟩ ?_
  refine w_aload_n (pc := 22) hX dX2_pop_22 rfl rfl ?_
  refine w_dup (pc := 23) hX dX2_pop_23 rfl ?_
  refine gf_X2_states (pc := 24) hX dX2_pop_24 hX2 (List.mem_of_getElem? (i := 1) rfl) 0 rfl rfl ?_
  refine w_iconst (pc := 27) hX dX2_pop_27 ic_1 ?_
  refine w_isub (pc := 28) hX dX2_pop_28 ?_
  rw [hq]
  refine pf_X2_states (pc := 29) hX dX2_pop_29 hX2 (List.mem_of_getElem? (i := 1) rfl) 0 rfl rfl ?_
  refine w_iconst (pc := 32) hX dX2_pop_32 ic_1 ?_
  exact w_zretT (pc := 33) hX hR dX2_pop_33 (by decide) ⟨rfl, rfl⟩
set_option maxHeartbeats 4000000 in
set_option maxRecDepth 100000 in
theorem ctX2_pop_2_1 (G : gT) (F : Nat) (a : Nat → Nat → Nat) (a_p1 : Nat → Nat) (h : HS) (z o : MZ) (hs : h.1 = 2) (hd : (1 + h.2.1) % 4 = 1) (hm : mX3_copyFrom F z (h.2.2 1) = some o) : CT G yX2_pop wsX2_pop rmX2_pop [.ref (a 3 0), .ref (a_p1 0)] (wX2 G a h ++ wX3 G a_p1 z) (fun v w => v = some (.int 1) ∧ w = wX2 G a (1, h.2) ++ wX3 G a_p1 o) := by
  obtain ⟨hst, rot, p⟩ := h
  dsimp only at hs hd hm ⊢
  subst hs
  refine CT_of (cc := cX2_pop) (maxL := 3) (ret := (some .boolean)) 1 (by decide +kernel) rfl rfl (cat_ok rfl) (fun X hX hR hN => ?_)
  have hX : Ok G X cX2_pop RX2 wsX2_pop 3 rmX2_pop := hX
  have hX2 : ∀ w ∈ wsX20, w ∈ wsX2_pop := lX2_pop_X2
  refine w_aload_n (pc := 0) hX dX2_pop_0 rfl rfl ?_
  refine w_aload_n (pc := 1) hX dX2_pop_1 rfl rfl ?_
  refine gf_X2_states (pc := 2) hX dX2_pop_2 hX2 (List.mem_of_getElem? (i := 1) rfl) 0 rfl rfl ?_
  refine w_iconst (pc := 5) hX dX2_pop_5 ic_1 ?_
  refine w_isub (pc := 6) hX dX2_pop_6 ?_
  have hq : (2 : Int32) - 1 = 1 := by decide
  rw [hq]
  refine w_callpo (pc := 7) hX [0, 1] (runV (rest := []) hX [0, 1] (ctX2_stateAt_1 G a 2 rot 1 hd) dX2_pop_7 1 gX2_pop_X2_stateAt rfl hyX2_stateAt ⟨Nat.le_of_ble_eq_true rfl, Nat.le_of_ble_eq_true rfl⟩ 0 rfl rfl rfl rfl (Nat.le_of_ble_eq_true rfl) ⟨Nat.le_of_ble_eq_true rfl, Nat.le_of_ble_eq_true rfl⟩ rfl (by decide +kernel)) rfl ⟨rfl, rfl⟩ ?_
  refine w_astore_n (pc := 10) hX dX2_pop_10 rfl (Nat.le_of_ble_eq_true rfl) ?_
  refine w_aload_n (pc := 11) hX dX2_pop_11 rfl rfl ?_
  refine w_ifnonnull (pc := 12) (tgt := 17) hX dX2_pop_12 (by decide) ?_
  refine w_aload_n (pc := 17) hX dX2_pop_17 rfl rfl ?_
  refine w_aload_n (pc := 18) hX dX2_pop_18 rfl rfl ?_
  refine w_calldv (pc := 19) (ws' := wX2 G a (2, rot, p) ++ wX3 G a_p1 o) (os := [none, none, none, none, none, none, none, some 5, some 6, some 7, some 8, some 9, none, none, none, none, none, none, none, none, none, none, some 0, some 1, some 2, some 3, some 4]) 27 hX [22, 23, 24, 25, 26, 7, 8, 9, 10, 11] (runV (rest := []) hX [22, 23, 24, 25, 26, 7, 8, 9, 10, 11] (ctX3_copyFrom G F a_p1 (a 12) z (p 1) o hm) dX2_pop_19 1 gX2_pop_X3_copyFrom rfl hyX3_copyFrom ⟨Nat.le_of_ble_eq_true rfl, Nat.le_of_ble_eq_true rfl⟩ 22 rfl rfl rfl rfl (Nat.le_of_ble_eq_true rfl) ⟨Nat.le_of_ble_eq_true rfl, Nat.le_of_ble_eq_true rfl⟩ rfl (by decide +kernel)) rfl rfl rfl (by decide +kernel) rfl ⟨rfl, rfl⟩ ?_
  refine w_aload_n (pc := 22) hX dX2_pop_22 rfl rfl ?_
  refine w_dup (pc := 23) hX dX2_pop_23 rfl ?_
  refine gf_X2_states (pc := 24) hX dX2_pop_24 hX2 (List.mem_of_getElem? (i := 1) rfl) 0 rfl rfl ?_
  refine w_iconst (pc := 27) hX dX2_pop_27 ic_1 ?_
  refine w_isub (pc := 28) hX dX2_pop_28 ?_
  rw [hq]
  refine pf_X2_states (pc := 29) hX dX2_pop_29 hX2 (List.mem_of_getElem? (i := 1) rfl) 0 rfl rfl ?_
  refine w_iconst (pc := 32) hX dX2_pop_32 ic_1 ?_
  exact w_zretT (pc := 33) hX hR dX2_pop_33 (by decide) ⟨rfl, rfl⟩
set_option maxHeartbeats 4000000 in
set_option maxRecDepth 100000 in
theorem ctX2_pop_2_2 (G : gT) (F : Nat) (a : Nat → Nat → Nat) (a_p1 : Nat → Nat) (h : HS) (z o : MZ) (hs : h.1 = 2) (hd : (1 + h.2.1) % 4 = 2) (hm : mX3_copyFrom F z (h.2.2 2) = some o) : CT G yX2_pop wsX2_pop rmX2_pop [.ref (a 3 0), .ref (a_p1 0)] (wX2 G a h ++ wX3 G a_p1 z) (fun v w => v = some (.int 1) ∧ w = wX2 G a (1, h.2) ++ wX3 G a_p1 o) := by
  obtain ⟨hst, rot, p⟩ := h
  dsimp only at hs hd hm ⊢
  subst hs
  refine CT_of (cc := cX2_pop) (maxL := 3) (ret := (some .boolean)) 1 (by decide +kernel) rfl rfl (cat_ok rfl) (fun X hX hR hN => ?_)
  have hX : Ok G X cX2_pop RX2 wsX2_pop 3 rmX2_pop := hX
  have hX2 : ∀ w ∈ wsX20, w ∈ wsX2_pop := lX2_pop_X2
  refine w_aload_n (pc := 0) hX dX2_pop_0 rfl rfl ?_
  refine w_aload_n (pc := 1) hX dX2_pop_1 rfl rfl ?_
  refine gf_X2_states (pc := 2) hX dX2_pop_2 hX2 (List.mem_of_getElem? (i := 1) rfl) 0 rfl rfl ?_
  refine w_iconst (pc := 5) hX dX2_pop_5 ic_1 ?_
  refine w_isub (pc := 6) hX dX2_pop_6 ?_
  have hq : (2 : Int32) - 1 = 1 := by decide
  rw [hq]
  refine w_callpo (pc := 7) hX [0, 1] (runV (rest := []) hX [0, 1] (ctX2_stateAt_1 G a 2 rot 2 hd) dX2_pop_7 1 gX2_pop_X2_stateAt rfl hyX2_stateAt ⟨Nat.le_of_ble_eq_true rfl, Nat.le_of_ble_eq_true rfl⟩ 0 rfl rfl rfl rfl (Nat.le_of_ble_eq_true rfl) ⟨Nat.le_of_ble_eq_true rfl, Nat.le_of_ble_eq_true rfl⟩ rfl (by decide +kernel)) rfl ⟨rfl, rfl⟩ ?_
  refine w_astore_n (pc := 10) hX dX2_pop_10 rfl (Nat.le_of_ble_eq_true rfl) ?_
  refine w_aload_n (pc := 11) hX dX2_pop_11 rfl rfl ?_
  refine w_ifnonnull (pc := 12) (tgt := 17) hX dX2_pop_12 (by decide) ?_
  refine w_aload_n (pc := 17) hX dX2_pop_17 rfl rfl ?_
  refine w_aload_n (pc := 18) hX dX2_pop_18 rfl rfl ?_
  refine w_calldv (pc := 19) (ws' := wX2 G a (2, rot, p) ++ wX3 G a_p1 o) (os := [none, none, none, none, none, none, none, none, none, none, none, none, some 5, some 6, some 7, some 8, some 9, none, none, none, none, none, some 0, some 1, some 2, some 3, some 4]) 27 hX [22, 23, 24, 25, 26, 12, 13, 14, 15, 16] (runV (rest := []) hX [22, 23, 24, 25, 26, 12, 13, 14, 15, 16] (ctX3_copyFrom G F a_p1 (a 13) z (p 2) o hm) dX2_pop_19 1 gX2_pop_X3_copyFrom rfl hyX3_copyFrom ⟨Nat.le_of_ble_eq_true rfl, Nat.le_of_ble_eq_true rfl⟩ 22 rfl rfl rfl rfl (Nat.le_of_ble_eq_true rfl) ⟨Nat.le_of_ble_eq_true rfl, Nat.le_of_ble_eq_true rfl⟩ rfl (by decide +kernel)) rfl rfl rfl (by decide +kernel) rfl ⟨rfl, rfl⟩ ?_
  refine w_aload_n (pc := 22) hX dX2_pop_22 rfl rfl ?_
  refine w_dup (pc := 23) hX dX2_pop_23 rfl ?_
  refine gf_X2_states (pc := 24) hX dX2_pop_24 hX2 (List.mem_of_getElem? (i := 1) rfl) 0 rfl rfl ?_
  refine w_iconst (pc := 27) hX dX2_pop_27 ic_1 ?_
  refine w_isub (pc := 28) hX dX2_pop_28 ?_
  rw [hq]
  refine pf_X2_states (pc := 29) hX dX2_pop_29 hX2 (List.mem_of_getElem? (i := 1) rfl) 0 rfl rfl ?_
  refine w_iconst (pc := 32) hX dX2_pop_32 ic_1 ?_
  exact w_zretT (pc := 33) hX hR dX2_pop_33 (by decide) ⟨rfl, rfl⟩
set_option maxHeartbeats 4000000 in
set_option maxRecDepth 100000 in
theorem ctX2_pop_2_3 (G : gT) (F : Nat) (a : Nat → Nat → Nat) (a_p1 : Nat → Nat) (h : HS) (z o : MZ) (hs : h.1 = 2) (hd : (1 + h.2.1) % 4 = 3) (hm : mX3_copyFrom F z (h.2.2 3) = some o) : CT G yX2_pop wsX2_pop rmX2_pop [.ref (a 3 0), .ref (a_p1 0)] (wX2 G a h ++ wX3 G a_p1 z) (fun v w => v = some (.int 1) ∧ w = wX2 G a (1, h.2) ++ wX3 G a_p1 o) := by
  obtain ⟨hst, rot, p⟩ := h
  dsimp only at hs hd hm ⊢
  subst hs
  refine CT_of (cc := cX2_pop) (maxL := 3) (ret := (some .boolean)) 1 (by decide +kernel) rfl rfl (cat_ok rfl) (fun X hX hR hN => ?_)
  have hX : Ok G X cX2_pop RX2 wsX2_pop 3 rmX2_pop := hX
  have hX2 : ∀ w ∈ wsX20, w ∈ wsX2_pop := lX2_pop_X2
  refine w_aload_n (pc := 0) hX dX2_pop_0 rfl rfl ?_
  refine w_aload_n (pc := 1) hX dX2_pop_1 rfl rfl ?_
  refine gf_X2_states (pc := 2) hX dX2_pop_2 hX2 (List.mem_of_getElem? (i := 1) rfl) 0 rfl rfl ?_
  refine w_iconst (pc := 5) hX dX2_pop_5 ic_1 ?_
  refine w_isub (pc := 6) hX dX2_pop_6 ?_
  have hq : (2 : Int32) - 1 = 1 := by decide
  rw [hq]
  refine w_callpo (pc := 7) hX [0, 1] (runV (rest := []) hX [0, 1] (ctX2_stateAt_1 G a 2 rot 3 hd) dX2_pop_7 1 gX2_pop_X2_stateAt rfl hyX2_stateAt ⟨Nat.le_of_ble_eq_true rfl, Nat.le_of_ble_eq_true rfl⟩ 0 rfl rfl rfl rfl (Nat.le_of_ble_eq_true rfl) ⟨Nat.le_of_ble_eq_true rfl, Nat.le_of_ble_eq_true rfl⟩ rfl (by decide +kernel)) rfl ⟨rfl, rfl⟩ ?_
  refine w_astore_n (pc := 10) hX dX2_pop_10 rfl (Nat.le_of_ble_eq_true rfl) ?_
  refine w_aload_n (pc := 11) hX dX2_pop_11 rfl rfl ?_
  refine w_ifnonnull (pc := 12) (tgt := 17) hX dX2_pop_12 (by decide) ?_
  refine w_aload_n (pc := 17) hX dX2_pop_17 rfl rfl ?_
  refine w_aload_n (pc := 18) hX dX2_pop_18 rfl rfl ?_
  refine w_calldv (pc := 19) (ws' := wX2 G a (2, rot, p) ++ wX3 G a_p1 o) (os := [none, none, none, none, none, none, none, none, none, none, none, none, none, none, none, none, none, some 5, some 6, some 7, some 8, some 9, some 0, some 1, some 2, some 3, some 4]) 27 hX [22, 23, 24, 25, 26, 17, 18, 19, 20, 21] (runV (rest := []) hX [22, 23, 24, 25, 26, 17, 18, 19, 20, 21] (ctX3_copyFrom G F a_p1 (a 14) z (p 3) o hm) dX2_pop_19 1 gX2_pop_X3_copyFrom rfl hyX3_copyFrom ⟨Nat.le_of_ble_eq_true rfl, Nat.le_of_ble_eq_true rfl⟩ 22 rfl rfl rfl rfl (Nat.le_of_ble_eq_true rfl) ⟨Nat.le_of_ble_eq_true rfl, Nat.le_of_ble_eq_true rfl⟩ rfl (by decide +kernel)) rfl rfl rfl (by decide +kernel) rfl ⟨rfl, rfl⟩ ?_
  refine w_aload_n (pc := 22) hX dX2_pop_22 rfl rfl ?_
  refine w_dup (pc := 23) hX dX2_pop_23 rfl ?_
  refine gf_X2_states (pc := 24) hX dX2_pop_24 hX2 (List.mem_of_getElem? (i := 1) rfl) 0 rfl rfl ?_
  refine w_iconst (pc := 27) hX dX2_pop_27 ic_1 ?_
  refine w_isub (pc := 28) hX dX2_pop_28 ?_
  rw [hq]
  refine pf_X2_states (pc := 29) hX dX2_pop_29 hX2 (List.mem_of_getElem? (i := 1) rfl) 0 rfl rfl ?_
  refine w_iconst (pc := 32) hX dX2_pop_32 ic_1 ?_
  exact w_zretT (pc := 33) hX hR dX2_pop_33 (by decide) ⟨rfl, rfl⟩
set_option maxHeartbeats 4000000 in
set_option maxRecDepth 100000 in
theorem ctX2_pop_3_0 (G : gT) (F : Nat) (a : Nat → Nat → Nat) (a_p1 : Nat → Nat) (h : HS) (z o : MZ) (hs : h.1 = 3) (hd : (2 + h.2.1) % 4 = 0) (hm : mX3_copyFrom F z (h.2.2 0) = some o) : CT G yX2_pop wsX2_pop rmX2_pop [.ref (a 3 0), .ref (a_p1 0)] (wX2 G a h ++ wX3 G a_p1 z) (fun v w => v = some (.int 1) ∧ w = wX2 G a (2, h.2) ++ wX3 G a_p1 o) := by
  obtain ⟨hst, rot, p⟩ := h
  dsimp only at hs hd hm ⊢
  subst hs
  refine CT_of (cc := cX2_pop) (maxL := 3) (ret := (some .boolean)) 1 (by decide +kernel) rfl rfl (cat_ok rfl) (fun X hX hR hN => ?_)
  have hX : Ok G X cX2_pop RX2 wsX2_pop 3 rmX2_pop := hX
  have hX2 : ∀ w ∈ wsX20, w ∈ wsX2_pop := lX2_pop_X2
  refine w_aload_n (pc := 0) hX dX2_pop_0 rfl rfl ?_
  refine w_aload_n (pc := 1) hX dX2_pop_1 rfl rfl ?_
  refine gf_X2_states (pc := 2) hX dX2_pop_2 hX2 (List.mem_of_getElem? (i := 1) rfl) 0 rfl rfl ?_
  refine w_iconst (pc := 5) hX dX2_pop_5 ic_1 ?_
  refine w_isub (pc := 6) hX dX2_pop_6 ?_
  have hq : (3 : Int32) - 1 = 2 := by decide
  rw [hq]
  refine w_callpo (pc := 7) hX [0, 1] (runV (rest := []) hX [0, 1] (ctX2_stateAt_2 G a 3 rot 0 hd) dX2_pop_7 1 gX2_pop_X2_stateAt rfl hyX2_stateAt ⟨Nat.le_of_ble_eq_true rfl, Nat.le_of_ble_eq_true rfl⟩ 0 rfl rfl rfl rfl (Nat.le_of_ble_eq_true rfl) ⟨Nat.le_of_ble_eq_true rfl, Nat.le_of_ble_eq_true rfl⟩ rfl (by decide +kernel)) rfl ⟨rfl, rfl⟩ ?_
  refine w_astore_n (pc := 10) hX dX2_pop_10 rfl (Nat.le_of_ble_eq_true rfl) ?_
  refine w_aload_n (pc := 11) hX dX2_pop_11 rfl rfl ?_
  refine w_ifnonnull (pc := 12) (tgt := 17) hX dX2_pop_12 (by decide) ?_
  refine w_aload_n (pc := 17) hX dX2_pop_17 rfl rfl ?_
  refine w_aload_n (pc := 18) hX dX2_pop_18 rfl rfl ?_
  refine w_calldv (pc := 19) (ws' := wX2 G a (3, rot, p) ++ wX3 G a_p1 o) (os := [none, none, some 5, some 6, some 7, some 8, some 9, none, none, none, none, none, none, none, none, none, none, none, none, none, none, none, some 0, some 1, some 2, some 3, some 4]) 27 hX [22, 23, 24, 25, 26, 2, 3, 4, 5, 6] (runV (rest := []) hX [22, 23, 24, 25, 26, 2, 3, 4, 5, 6] (ctX3_copyFrom G F a_p1 (a 11) z (p 0) o hm) dX2_pop_19 1 gX2_pop_X3_copyFrom rfl hyX3_copyFrom ⟨Nat.le_of_ble_eq_true rfl, Nat.le_of_ble_eq_true rfl⟩ 22 rfl rfl rfl rfl (Nat.le_of_ble_eq_true rfl) ⟨Nat.le_of_ble_eq_true rfl, Nat.le_of_ble_eq_true rfl⟩ rfl (by decide +kernel)) rfl rfl rfl (by decide +kernel) rfl ⟨rfl, rfl⟩ ?_
  refine w_aload_n (pc := 22) hX dX2_pop_22 rfl rfl ?_
  refine w_dup (pc := 23) hX dX2_pop_23 rfl ?_
  refine gf_X2_states (pc := 24) hX dX2_pop_24 hX2 (List.mem_of_getElem? (i := 1) rfl) 0 rfl rfl ?_
  refine w_iconst (pc := 27) hX dX2_pop_27 ic_1 ?_
  refine w_isub (pc := 28) hX dX2_pop_28 ?_
  rw [hq]
  refine pf_X2_states (pc := 29) hX dX2_pop_29 hX2 (List.mem_of_getElem? (i := 1) rfl) 0 rfl rfl ?_
  refine w_iconst (pc := 32) hX dX2_pop_32 ic_1 ?_
  exact w_zretT (pc := 33) hX hR dX2_pop_33 (by decide) ⟨rfl, rfl⟩
set_option maxHeartbeats 4000000 in
set_option maxRecDepth 100000 in
theorem ctX2_pop_3_1 (G : gT) (F : Nat) (a : Nat → Nat → Nat) (a_p1 : Nat → Nat) (h : HS) (z o : MZ) (hs : h.1 = 3) (hd : (2 + h.2.1) % 4 = 1) (hm : mX3_copyFrom F z (h.2.2 1) = some o) : CT G yX2_pop wsX2_pop rmX2_pop [.ref (a 3 0), .ref (a_p1 0)] (wX2 G a h ++ wX3 G a_p1 z) (fun v w => v = some (.int 1) ∧ w = wX2 G a (2, h.2) ++ wX3 G a_p1 o) := by
  obtain ⟨hst, rot, p⟩ := h
  dsimp only at hs hd hm ⊢
  subst hs
  refine CT_of (cc := cX2_pop) (maxL := 3) (ret := (some .boolean)) 1 (by decide +kernel) rfl rfl (cat_ok rfl) (fun X hX hR hN => ?_)
  have hX : Ok G X cX2_pop RX2 wsX2_pop 3 rmX2_pop := hX
  have hX2 : ∀ w ∈ wsX20, w ∈ wsX2_pop := lX2_pop_X2
  refine w_aload_n (pc := 0) hX dX2_pop_0 rfl rfl ?_
  refine w_aload_n (pc := 1) hX dX2_pop_1 rfl rfl ?_
  refine gf_X2_states (pc := 2) hX dX2_pop_2 hX2 (List.mem_of_getElem? (i := 1) rfl) 0 rfl rfl ?_
  refine w_iconst (pc := 5) hX dX2_pop_5 ic_1 ?_
  refine w_isub (pc := 6) hX dX2_pop_6 ?_
  have hq : (3 : Int32) - 1 = 2 := by decide
  rw [hq]
  refine w_callpo (pc := 7) hX [0, 1] (runV (rest := []) hX [0, 1] (ctX2_stateAt_2 G a 3 rot 1 hd) dX2_pop_7 1 gX2_pop_X2_stateAt rfl hyX2_stateAt ⟨Nat.le_of_ble_eq_true rfl, Nat.le_of_ble_eq_true rfl⟩ 0 rfl rfl rfl rfl (Nat.le_of_ble_eq_true rfl) ⟨Nat.le_of_ble_eq_true rfl, Nat.le_of_ble_eq_true rfl⟩ rfl (by decide +kernel)) rfl ⟨rfl, rfl⟩ ?_
  refine w_astore_n (pc := 10) hX dX2_pop_10 rfl (Nat.le_of_ble_eq_true rfl) ?_
  refine w_aload_n (pc := 11) hX dX2_pop_11 rfl rfl ?_
  refine w_ifnonnull (pc := 12) (tgt := 17) hX dX2_pop_12 (by decide) ?_
  refine w_aload_n (pc := 17) hX dX2_pop_17 rfl rfl ?_
  refine w_aload_n (pc := 18) hX dX2_pop_18 rfl rfl ?_
  refine w_calldv (pc := 19) (ws' := wX2 G a (3, rot, p) ++ wX3 G a_p1 o) (os := [none, none, none, none, none, none, none, some 5, some 6, some 7, some 8, some 9, none, none, none, none, none, none, none, none, none, none, some 0, some 1, some 2, some 3, some 4]) 27 hX [22, 23, 24, 25, 26, 7, 8, 9, 10, 11] (runV (rest := []) hX [22, 23, 24, 25, 26, 7, 8, 9, 10, 11] (ctX3_copyFrom G F a_p1 (a 12) z (p 1) o hm) dX2_pop_19 1 gX2_pop_X3_copyFrom rfl hyX3_copyFrom ⟨Nat.le_of_ble_eq_true rfl, Nat.le_of_ble_eq_true rfl⟩ 22 rfl rfl rfl rfl (Nat.le_of_ble_eq_true rfl) ⟨Nat.le_of_ble_eq_true rfl, Nat.le_of_ble_eq_true rfl⟩ rfl (by decide +kernel)) rfl rfl rfl (by decide +kernel) rfl ⟨rfl, rfl⟩ ?_
  refine w_aload_n (pc := 22) hX dX2_pop_22 rfl rfl ?_
  refine w_dup (pc := 23) hX dX2_pop_23 rfl ?_
  refine gf_X2_states (pc := 24) hX dX2_pop_24 hX2 (List.mem_of_getElem? (i := 1) rfl) 0 rfl rfl ?_
  refine w_iconst (pc := 27) hX dX2_pop_27 ic_1 ?_
  refine w_isub (pc := 28) hX dX2_pop_28 ?_
  rw [hq]
  refine pf_X2_states (pc := 29) hX dX2_pop_29 hX2 (List.mem_of_getElem? (i := 1) rfl) 0 rfl rfl ?_
  refine w_iconst (pc := 32) hX dX2_pop_32 ic_1 ?_
  exact w_zretT (pc := 33) hX hR dX2_pop_33 (by decide) ⟨rfl, rfl⟩
set_option maxHeartbeats 4000000 in
set_option maxRecDepth 100000 in
theorem ctX2_pop_3_2 (G : gT) (F : Nat) (a : Nat → Nat → Nat) (a_p1 : Nat → Nat) (h : HS) (z o : MZ) (hs : h.1 = 3) (hd : (2 + h.2.1) % 4 = 2) (hm : mX3_copyFrom F z (h.2.2 2) = some o) : CT G yX2_pop wsX2_pop rmX2_pop [.ref (a 3 0), .ref (a_p1 0)] (wX2 G a h ++ wX3 G a_p1 z) (fun v w => v = some (.int 1) ∧ w = wX2 G a (2, h.2) ++ wX3 G a_p1 o) := by
  obtain ⟨hst, rot, p⟩ := h
  dsimp only at hs hd hm ⊢
  subst hs
  refine CT_of (cc := cX2_pop) (maxL := 3) (ret := (some .boolean)) 1 (by decide +kernel) rfl rfl (cat_ok rfl) (fun X hX hR hN => ?_)
  have hX : Ok G X cX2_pop RX2 wsX2_pop 3 rmX2_pop := hX
  have hX2 : ∀ w ∈ wsX20, w ∈ wsX2_pop := lX2_pop_X2
  refine w_aload_n (pc := 0) hX dX2_pop_0 rfl rfl ?_
  refine w_aload_n (pc := 1) hX dX2_pop_1 rfl rfl ?_
  refine gf_X2_states (pc := 2) hX dX2_pop_2 hX2 (List.mem_of_getElem? (i := 1) rfl) 0 rfl rfl ?_
  refine w_iconst (pc := 5) hX dX2_pop_5 ic_1 ?_
  refine w_isub (pc := 6) hX dX2_pop_6 ?_
  have hq : (3 : Int32) - 1 = 2 := by decide
  rw [hq]
  refine w_callpo (pc := 7) hX [0, 1] (runV (rest := []) hX [0, 1] (ctX2_stateAt_2 G a 3 rot 2 hd) dX2_pop_7 1 gX2_pop_X2_stateAt rfl hyX2_stateAt ⟨Nat.le_of_ble_eq_true rfl, Nat.le_of_ble_eq_true rfl⟩ 0 rfl rfl rfl rfl (Nat.le_of_ble_eq_true rfl) ⟨Nat.le_of_ble_eq_true rfl, Nat.le_of_ble_eq_true rfl⟩ rfl (by decide +kernel)) rfl ⟨rfl, rfl⟩ ?_
  refine w_astore_n (pc := 10) hX dX2_pop_10 rfl (Nat.le_of_ble_eq_true rfl) ?_
  refine w_aload_n (pc := 11) hX dX2_pop_11 rfl rfl ?_
  refine w_ifnonnull (pc := 12) (tgt := 17) hX dX2_pop_12 (by decide) ?_
  refine w_aload_n (pc := 17) hX dX2_pop_17 rfl rfl ?_
  refine w_aload_n (pc := 18) hX dX2_pop_18 rfl rfl ?_
  refine w_calldv (pc := 19) (ws' := wX2 G a (3, rot, p) ++ wX3 G a_p1 o) (os := [none, none, none, none, none, none, none, none, none, none, none, none, some 5, some 6, some 7, some 8, some 9, none, none, none, none, none, some 0, some 1, some 2, some 3, some 4]) 27 hX [22, 23, 24, 25, 26, 12, 13, 14, 15, 16] (runV (rest := []) hX [22, 23, 24, 25, 26, 12, 13, 14, 15, 16] (ctX3_copyFrom G F a_p1 (a 13) z (p 2) o hm) dX2_pop_19 1 gX2_pop_X3_copyFrom rfl hyX3_copyFrom ⟨Nat.le_of_ble_eq_true rfl, Nat.le_of_ble_eq_true rfl⟩ 22 rfl rfl rfl rfl (Nat.le_of_ble_eq_true rfl) ⟨Nat.le_of_ble_eq_true rfl, Nat.le_of_ble_eq_true rfl⟩ rfl (by decide +kernel)) rfl rfl rfl (by decide +kernel) rfl ⟨rfl, rfl⟩ ?_
  refine w_aload_n (pc := 22) hX dX2_pop_22 rfl rfl ?_
  refine w_dup (pc := 23) hX dX2_pop_23 rfl ?_
  refine gf_X2_states (pc := 24) hX dX2_pop_24 hX2 (List.mem_of_getElem? (i := 1) rfl) 0 rfl rfl ?_
  refine w_iconst (pc := 27) hX dX2_pop_27 ic_1 ?_
  refine w_isub (pc := 28) hX dX2_pop_28 ?_
  rw [hq]
  refine pf_X2_states (pc := 29) hX dX2_pop_29 hX2 (List.mem_of_getElem? (i := 1) rfl) 0 rfl rfl ?_
  refine w_iconst (pc := 32) hX dX2_pop_32 ic_1 ?_
  exact w_zretT (pc := 33) hX hR dX2_pop_33 (by decide) ⟨rfl, rfl⟩
set_option maxHeartbeats 4000000 in
set_option maxRecDepth 100000 in
theorem ctX2_pop_3_3 (G : gT) (F : Nat) (a : Nat → Nat → Nat) (a_p1 : Nat → Nat) (h : HS) (z o : MZ) (hs : h.1 = 3) (hd : (2 + h.2.1) % 4 = 3) (hm : mX3_copyFrom F z (h.2.2 3) = some o) : CT G yX2_pop wsX2_pop rmX2_pop [.ref (a 3 0), .ref (a_p1 0)] (wX2 G a h ++ wX3 G a_p1 z) (fun v w => v = some (.int 1) ∧ w = wX2 G a (2, h.2) ++ wX3 G a_p1 o) := by
  obtain ⟨hst, rot, p⟩ := h
  dsimp only at hs hd hm ⊢
  subst hs
  refine CT_of (cc := cX2_pop) (maxL := 3) (ret := (some .boolean)) 1 (by decide +kernel) rfl rfl (cat_ok rfl) (fun X hX hR hN => ?_)
  have hX : Ok G X cX2_pop RX2 wsX2_pop 3 rmX2_pop := hX
  have hX2 : ∀ w ∈ wsX20, w ∈ wsX2_pop := lX2_pop_X2
  refine w_aload_n (pc := 0) hX dX2_pop_0 rfl rfl ?_
  refine w_aload_n (pc := 1) hX dX2_pop_1 rfl rfl ?_
  refine gf_X2_states (pc := 2) hX dX2_pop_2 hX2 (List.mem_of_getElem? (i := 1) rfl) 0 rfl rfl ?_
  refine w_iconst (pc := 5) hX dX2_pop_5 ic_1 ?_
  refine w_isub (pc := 6) hX dX2_pop_6 ?_
  have hq : (3 : Int32) - 1 = 2 := by decide
  rw [hq]
  refine w_callpo (pc := 7) hX [0, 1] (runV (rest := []) hX [0, 1] (ctX2_stateAt_2 G a 3 rot 3 hd) dX2_pop_7 1 gX2_pop_X2_stateAt rfl hyX2_stateAt ⟨Nat.le_of_ble_eq_true rfl, Nat.le_of_ble_eq_true rfl⟩ 0 rfl rfl rfl rfl (Nat.le_of_ble_eq_true rfl) ⟨Nat.le_of_ble_eq_true rfl, Nat.le_of_ble_eq_true rfl⟩ rfl (by decide +kernel)) rfl ⟨rfl, rfl⟩ ?_
  refine w_astore_n (pc := 10) hX dX2_pop_10 rfl (Nat.le_of_ble_eq_true rfl) ?_
  refine w_aload_n (pc := 11) hX dX2_pop_11 rfl rfl ?_
  refine w_ifnonnull (pc := 12) (tgt := 17) hX dX2_pop_12 (by decide) ?_
  refine w_aload_n (pc := 17) hX dX2_pop_17 rfl rfl ?_
  refine w_aload_n (pc := 18) hX dX2_pop_18 rfl rfl ?_
  refine w_calldv (pc := 19) (ws' := wX2 G a (3, rot, p) ++ wX3 G a_p1 o) (os := [none, none, none, none, none, none, none, none, none, none, none, none, none, none, none, none, none, some 5, some 6, some 7, some 8, some 9, some 0, some 1, some 2, some 3, some 4]) 27 hX [22, 23, 24, 25, 26, 17, 18, 19, 20, 21] (runV (rest := []) hX [22, 23, 24, 25, 26, 17, 18, 19, 20, 21] (ctX3_copyFrom G F a_p1 (a 14) z (p 3) o hm) dX2_pop_19 1 gX2_pop_X3_copyFrom rfl hyX3_copyFrom ⟨Nat.le_of_ble_eq_true rfl, Nat.le_of_ble_eq_true rfl⟩ 22 rfl rfl rfl rfl (Nat.le_of_ble_eq_true rfl) ⟨Nat.le_of_ble_eq_true rfl, Nat.le_of_ble_eq_true rfl⟩ rfl (by decide +kernel)) rfl rfl rfl (by decide +kernel) rfl ⟨rfl, rfl⟩ ?_
  refine w_aload_n (pc := 22) hX dX2_pop_22 rfl rfl ?_
  refine w_dup (pc := 23) hX dX2_pop_23 rfl ?_
  refine gf_X2_states (pc := 24) hX dX2_pop_24 hX2 (List.mem_of_getElem? (i := 1) rfl) 0 rfl rfl ?_
  refine w_iconst (pc := 27) hX dX2_pop_27 ic_1 ?_
  refine w_isub (pc := 28) hX dX2_pop_28 ?_
  rw [hq]
  refine pf_X2_states (pc := 29) hX dX2_pop_29 hX2 (List.mem_of_getElem? (i := 1) rfl) 0 rfl rfl ?_
  refine w_iconst (pc := 32) hX dX2_pop_32 ic_1 ?_
  exact w_zretT (pc := 33) hX hR dX2_pop_33 (by decide) ⟨rfl, rfl⟩
set_option maxHeartbeats 4000000 in
set_option maxRecDepth 100000 in
theorem ctX2_pop_4_0 (G : gT) (F : Nat) (a : Nat → Nat → Nat) (a_p1 : Nat → Nat) (h : HS) (z o : MZ) (hs : h.1 = 4) (hd : (3 + h.2.1) % 4 = 0) (hm : mX3_copyFrom F z (h.2.2 0) = some o) : CT G yX2_pop wsX2_pop rmX2_pop [.ref (a 3 0), .ref (a_p1 0)] (wX2 G a h ++ wX3 G a_p1 z) (fun v w => v = some (.int 1) ∧ w = wX2 G a (3, h.2) ++ wX3 G a_p1 o) := by
  obtain ⟨hst, rot, p⟩ := h
  dsimp only at hs hd hm ⊢
  subst hs
  refine CT_of (cc := cX2_pop) (maxL := 3) (ret := (some .boolean)) 1 (by decide +kernel) rfl rfl (cat_ok rfl) (fun X hX hR hN => ?_)
  have hX : Ok G X cX2_pop RX2 wsX2_pop 3 rmX2_pop := hX
  have hX2 : ∀ w ∈ wsX20, w ∈ wsX2_pop := lX2_pop_X2
  refine w_aload_n (pc := 0) hX dX2_pop_0 rfl rfl ?_
  refine w_aload_n (pc := 1) hX dX2_pop_1 rfl rfl ?_
  refine gf_X2_states (pc := 2) hX dX2_pop_2 hX2 (List.mem_of_getElem? (i := 1) rfl) 0 rfl rfl ?_
  refine w_iconst (pc := 5) hX dX2_pop_5 ic_1 ?_
  refine w_isub (pc := 6) hX dX2_pop_6 ?_
  have hq : (4 : Int32) - 1 = 3 := by decide
  rw [hq]
  refine w_callpo (pc := 7) hX [0, 1] (runV (rest := []) hX [0, 1] (ctX2_stateAt_3 G a 4 rot 0 hd) dX2_pop_7 1 gX2_pop_X2_stateAt rfl hyX2_stateAt ⟨Nat.le_of_ble_eq_true rfl, Nat.le_of_ble_eq_true rfl⟩ 0 rfl rfl rfl rfl (Nat.le_of_ble_eq_true rfl) ⟨Nat.le_of_ble_eq_true rfl, Nat.le_of_ble_eq_true rfl⟩ rfl (by decide +kernel)) rfl ⟨rfl, rfl⟩ ?_
  refine w_astore_n (pc := 10) hX dX2_pop_10 rfl (Nat.le_of_ble_eq_true rfl) ?_
  refine w_aload_n (pc := 11) hX dX2_pop_11 rfl rfl ?_
  refine w_ifnonnull (pc := 12) (tgt := 17) hX dX2_pop_12 (by decide) ?_
  refine w_aload_n (pc := 17) hX dX2_pop_17 rfl rfl ?_
  refine w_aload_n (pc := 18) hX dX2_pop_18 rfl rfl ?_
  refine w_calldv (pc := 19) (ws' := wX2 G a (4, rot, p) ++ wX3 G a_p1 o) (os := [none, none, some 5, some 6, some 7, some 8, some 9, none, none, none, none, none, none, none, none, none, none, none, none, none, none, none, some 0, some 1, some 2, some 3, some 4]) 27 hX [22, 23, 24, 25, 26, 2, 3, 4, 5, 6] (runV (rest := []) hX [22, 23, 24, 25, 26, 2, 3, 4, 5, 6] (ctX3_copyFrom G F a_p1 (a 11) z (p 0) o hm) dX2_pop_19 1 gX2_pop_X3_copyFrom rfl hyX3_copyFrom ⟨Nat.le_of_ble_eq_true rfl, Nat.le_of_ble_eq_true rfl⟩ 22 rfl rfl rfl rfl (Nat.le_of_ble_eq_true rfl) ⟨Nat.le_of_ble_eq_true rfl, Nat.le_of_ble_eq_true rfl⟩ rfl (by decide +kernel)) rfl rfl rfl (by decide +kernel) rfl ⟨rfl, rfl⟩ ?_
  refine w_aload_n (pc := 22) hX dX2_pop_22 rfl rfl ?_
  refine w_dup (pc := 23) hX dX2_pop_23 rfl ?_
  refine gf_X2_states (pc := 24) hX dX2_pop_24 hX2 (List.mem_of_getElem? (i := 1) rfl) 0 rfl rfl ?_
  refine w_iconst (pc := 27) hX dX2_pop_27 ic_1 ?_
  refine w_isub (pc := 28) hX dX2_pop_28 ?_
  rw [hq]
  refine pf_X2_states (pc := 29) hX dX2_pop_29 hX2 (List.mem_of_getElem? (i := 1) rfl) 0 rfl rfl ?_
  refine w_iconst (pc := 32) hX dX2_pop_32 ic_1 ?_
  exact w_zretT (pc := 33) hX hR dX2_pop_33 (by decide) ⟨rfl, rfl⟩
set_option maxHeartbeats 4000000 in
set_option maxRecDepth 100000 in
theorem ctX2_pop_4_1 (G : gT) (F : Nat) (a : Nat → Nat → Nat) (a_p1 : Nat → Nat) (h : HS) (z o : MZ) (hs : h.1 = 4) (hd : (3 + h.2.1) % 4 = 1) (hm : mX3_copyFrom F z (h.2.2 1) = some o) : CT G yX2_pop wsX2_pop rmX2_pop [.ref (a 3 0), .ref (a_p1 0)] (wX2 G a h ++ wX3 G a_p1 z) (fun v w => v = some (.int 1) ∧ w = wX2 G a (3, h.2) ++ wX3 G a_p1 o) := by
  obtain ⟨hst, rot, p⟩ := h
  dsimp only at hs hd hm ⊢
  subst hs
  refine CT_of (cc := cX2_pop) (maxL := 3) (ret := (some .boolean)) 1 (by decide +kernel) rfl rfl (cat_ok rfl) (fun X hX hR hN => ?_)
  have hX : Ok G X cX2_pop RX2 wsX2_pop 3 rmX2_pop := hX
  have hX2 : ∀ w ∈ wsX20, w ∈ wsX2_pop := lX2_pop_X2
  refine w_aload_n (pc := 0) hX dX2_pop_0 rfl rfl ?_
  refine w_aload_n (pc := 1) hX dX2_pop_1 rfl rfl ?_
  refine gf_X2_states (pc := 2) hX dX2_pop_2 hX2 (List.mem_of_getElem? (i := 1) rfl) 0 rfl rfl ?_
  refine w_iconst (pc := 5) hX dX2_pop_5 ic_1 ?_
  refine w_isub (pc := 6) hX dX2_pop_6 ?_
  have hq : (4 : Int32) - 1 = 3 := by decide
  rw [hq]
  refine w_callpo (pc := 7) hX [0, 1] (runV (rest := []) hX [0, 1] (ctX2_stateAt_3 G a 4 rot 1 hd) dX2_pop_7 1 gX2_pop_X2_stateAt rfl hyX2_stateAt ⟨Nat.le_of_ble_eq_true rfl, Nat.le_of_ble_eq_true rfl⟩ 0 rfl rfl rfl rfl (Nat.le_of_ble_eq_true rfl) ⟨Nat.le_of_ble_eq_true rfl, Nat.le_of_ble_eq_true rfl⟩ rfl (by decide +kernel)) rfl ⟨rfl, rfl⟩ ?_
  refine w_astore_n (pc := 10) hX dX2_pop_10 rfl (Nat.le_of_ble_eq_true rfl) ?_
  refine w_aload_n (pc := 11) hX dX2_pop_11 rfl rfl ?_
  refine w_ifnonnull (pc := 12) (tgt := 17) hX dX2_pop_12 (by decide) ?_
  refine w_aload_n (pc := 17) hX dX2_pop_17 rfl rfl ?_
  refine w_aload_n (pc := 18) hX dX2_pop_18 rfl rfl ?_
  refine w_calldv (pc := 19) (ws' := wX2 G a (4, rot, p) ++ wX3 G a_p1 o) (os := [none, none, none, none, none, none, none, some 5, some 6, some 7, some 8, some 9, none, none, none, none, none, none, none, none, none, none, some 0, some 1, some 2, some 3, some 4]) 27 hX [22, 23, 24, 25, 26, 7, 8, 9, 10, 11] (runV (rest := []) hX [22, 23, 24, 25, 26, 7, 8, 9, 10, 11] (ctX3_copyFrom G F a_p1 (a 12) z (p 1) o hm) dX2_pop_19 1 gX2_pop_X3_copyFrom rfl hyX3_copyFrom ⟨Nat.le_of_ble_eq_true rfl, Nat.le_of_ble_eq_true rfl⟩ 22 rfl rfl rfl rfl (Nat.le_of_ble_eq_true rfl) ⟨Nat.le_of_ble_eq_true rfl, Nat.le_of_ble_eq_true rfl⟩ rfl (by decide +kernel)) rfl rfl rfl (by decide +kernel) rfl ⟨rfl, rfl⟩ ?_
  refine w_aload_n (pc := 22) hX dX2_pop_22 rfl rfl ?_
  refine w_dup (pc := 23) hX dX2_pop_23 rfl ?_
  refine gf_X2_states (pc := 24) hX dX2_pop_24 hX2 (List.mem_of_getElem? (i := 1) rfl) 0 rfl rfl ?_
  refine w_iconst (pc := 27) hX dX2_pop_27 ic_1 ?_
  refine w_isub (pc := 28) hX dX2_pop_28 ?_
  rw [hq]
  refine pf_X2_states (pc := 29) hX dX2_pop_29 hX2 (List.mem_of_getElem? (i := 1) rfl) 0 rfl rfl ?_
  refine w_iconst (pc := 32) hX dX2_pop_32 ic_1 ?_
  exact w_zretT (pc := 33) hX hR dX2_pop_33 (by decide) ⟨rfl, rfl⟩
set_option maxHeartbeats 4000000 in
set_option maxRecDepth 100000 in
theorem ctX2_pop_4_2 (G : gT) (F : Nat) (a : Nat → Nat → Nat) (a_p1 : Nat → Nat) (h : HS) (z o : MZ) (hs : h.1 = 4) (hd : (3 + h.2.1) % 4 = 2) (hm : mX3_copyFrom F z (h.2.2 2) = some o) : CT G yX2_pop wsX2_pop rmX2_pop [.ref (a 3 0), .ref (a_p1 0)] (wX2 G a h ++ wX3 G a_p1 z) (fun v w => v = some (.int 1) ∧ w = wX2 G a (3, h.2) ++ wX3 G a_p1 o) := by
  obtain ⟨hst, rot, p⟩ := h
  dsimp only at hs hd hm ⊢
  subst hs
  refine CT_of (cc := cX2_pop) (maxL := 3) (ret := (some .boolean)) 1 (by decide +kernel) rfl rfl (cat_ok rfl) (fun X hX hR hN => ?_)
  have hX : Ok G X cX2_pop RX2 wsX2_pop 3 rmX2_pop := hX
  have hX2 : ∀ w ∈ wsX20, w ∈ wsX2_pop := lX2_pop_X2
  refine w_aload_n (pc := 0) hX dX2_pop_0 rfl rfl ?_
  refine w_aload_n (pc := 1) hX dX2_pop_1 rfl rfl ?_
  refine gf_X2_states (pc := 2) hX dX2_pop_2 hX2 (List.mem_of_getElem? (i := 1) rfl) 0 rfl rfl ?_
  refine w_iconst (pc := 5) hX dX2_pop_5 ic_1 ?_
  refine w_isub (pc := 6) hX dX2_pop_6 ?_
  have hq : (4 : Int32) - 1 = 3 := by decide
  rw [hq]
  refine w_callpo (pc := 7) hX [0, 1] (runV (rest := []) hX [0, 1] (ctX2_stateAt_3 G a 4 rot 2 hd) dX2_pop_7 1 gX2_pop_X2_stateAt rfl hyX2_stateAt ⟨Nat.le_of_ble_eq_true rfl, Nat.le_of_ble_eq_true rfl⟩ 0 rfl rfl rfl rfl (Nat.le_of_ble_eq_true rfl) ⟨Nat.le_of_ble_eq_true rfl, Nat.le_of_ble_eq_true rfl⟩ rfl (by decide +kernel)) rfl ⟨rfl, rfl⟩ ?_
  refine w_astore_n (pc := 10) hX dX2_pop_10 rfl (Nat.le_of_ble_eq_true rfl) ?_
  refine w_aload_n (pc := 11) hX dX2_pop_11 rfl rfl ?_
  refine w_ifnonnull (pc := 12) (tgt := 17) hX dX2_pop_12 (by decide) ?_
  refine w_aload_n (pc := 17) hX dX2_pop_17 rfl rfl ?_
  refine w_aload_n (pc := 18) hX dX2_pop_18 rfl rfl ?_
  refine w_calldv (pc := 19) (ws' := wX2 G a (4, rot, p) ++ wX3 G a_p1 o) (os := [none, none, none, none, none, none, none, none, none, none, none, none, some 5, some 6, some 7, some 8, some 9, none, none, none, none, none, some 0, some 1, some 2, some 3, some 4]) 27 hX [22, 23, 24, 25, 26, 12, 13, 14, 15, 16] (runV (rest := []) hX [22, 23, 24, 25, 26, 12, 13, 14, 15, 16] (ctX3_copyFrom G F a_p1 (a 13) z (p 2) o hm) dX2_pop_19 1 gX2_pop_X3_copyFrom rfl hyX3_copyFrom ⟨Nat.le_of_ble_eq_true rfl, Nat.le_of_ble_eq_true rfl⟩ 22 rfl rfl rfl rfl (Nat.le_of_ble_eq_true rfl) ⟨Nat.le_of_ble_eq_true rfl, Nat.le_of_ble_eq_true rfl⟩ rfl (by decide +kernel)) rfl rfl rfl (by decide +kernel) rfl ⟨rfl, rfl⟩ ?_
  refine w_aload_n (pc := 22) hX dX2_pop_22 rfl rfl ?_
  refine w_dup (pc := 23) hX dX2_pop_23 rfl ?_
  refine gf_X2_states (pc := 24) hX dX2_pop_24 hX2 (List.mem_of_getElem? (i := 1) rfl) 0 rfl rfl ?_
  refine w_iconst (pc := 27) hX dX2_pop_27 ic_1 ?_
  refine w_isub (pc := 28) hX dX2_pop_28 ?_
  rw [hq]
  refine pf_X2_states (pc := 29) hX dX2_pop_29 hX2 (List.mem_of_getElem? (i := 1) rfl) 0 rfl rfl ?_
  refine w_iconst (pc := 32) hX dX2_pop_32 ic_1 ?_
  exact w_zretT (pc := 33) hX hR dX2_pop_33 (by decide) ⟨rfl, rfl⟩
set_option maxHeartbeats 4000000 in
set_option maxRecDepth 100000 in
theorem ctX2_pop_4_3 (G : gT) (F : Nat) (a : Nat → Nat → Nat) (a_p1 : Nat → Nat) (h : HS) (z o : MZ) (hs : h.1 = 4) (hd : (3 + h.2.1) % 4 = 3) (hm : mX3_copyFrom F z (h.2.2 3) = some o) : CT G yX2_pop wsX2_pop rmX2_pop [.ref (a 3 0), .ref (a_p1 0)] (wX2 G a h ++ wX3 G a_p1 z) (fun v w => v = some (.int 1) ∧ w = wX2 G a (3, h.2) ++ wX3 G a_p1 o) := by
  obtain ⟨hst, rot, p⟩ := h
  dsimp only at hs hd hm ⊢
  subst hs
  refine CT_of (cc := cX2_pop) (maxL := 3) (ret := (some .boolean)) 1 (by decide +kernel) rfl rfl (cat_ok rfl) (fun X hX hR hN => ?_)
  have hX : Ok G X cX2_pop RX2 wsX2_pop 3 rmX2_pop := hX
  have hX2 : ∀ w ∈ wsX20, w ∈ wsX2_pop := lX2_pop_X2
  refine w_aload_n (pc := 0) hX dX2_pop_0 rfl rfl ?_
  refine w_aload_n (pc := 1) hX dX2_pop_1 rfl rfl ?_
  refine gf_X2_states (pc := 2) hX dX2_pop_2 hX2 (List.mem_of_getElem? (i := 1) rfl) 0 rfl rfl ?_
  refine w_iconst (pc := 5) hX dX2_pop_5 ic_1 ?_
  refine w_isub (pc := 6) hX dX2_pop_6 ?_
  have hq : (4 : Int32) - 1 = 3 := by decide
  rw [hq]
  refine w_callpo (pc := 7) hX [0, 1] (runV (rest := []) hX [0, 1] (ctX2_stateAt_3 G a 4 rot 3 hd) dX2_pop_7 1 gX2_pop_X2_stateAt rfl hyX2_stateAt ⟨Nat.le_of_ble_eq_true rfl, Nat.le_of_ble_eq_true rfl⟩ 0 rfl rfl rfl rfl (Nat.le_of_ble_eq_true rfl) ⟨Nat.le_of_ble_eq_true rfl, Nat.le_of_ble_eq_true rfl⟩ rfl (by decide +kernel)) rfl ⟨rfl, rfl⟩ ?_
  refine w_astore_n (pc := 10) hX dX2_pop_10 rfl (Nat.le_of_ble_eq_true rfl) ?_
  refine w_aload_n (pc := 11) hX dX2_pop_11 rfl rfl ?_
  refine w_ifnonnull (pc := 12) (tgt := 17) hX dX2_pop_12 (by decide) ?_
  refine w_aload_n (pc := 17) hX dX2_pop_17 rfl rfl ?_
  refine w_aload_n (pc := 18) hX dX2_pop_18 rfl rfl ?_
  refine w_calldv (pc := 19) (ws' := wX2 G a (4, rot, p) ++ wX3 G a_p1 o) (os := [none, none, none, none, none, none, none, none, none, none, none, none, none, none, none, none, none, some 5, some 6, some 7, some 8, some 9, some 0, some 1, some 2, some 3, some 4]) 27 hX [22, 23, 24, 25, 26, 17, 18, 19, 20, 21] (runV (rest := []) hX [22, 23, 24, 25, 26, 17, 18, 19, 20, 21] (ctX3_copyFrom G F a_p1 (a 14) z (p 3) o hm) dX2_pop_19 1 gX2_pop_X3_copyFrom rfl hyX3_copyFrom ⟨Nat.le_of_ble_eq_true rfl, Nat.le_of_ble_eq_true rfl⟩ 22 rfl rfl rfl rfl (Nat.le_of_ble_eq_true rfl) ⟨Nat.le_of_ble_eq_true rfl, Nat.le_of_ble_eq_true rfl⟩ rfl (by decide +kernel)) rfl rfl rfl (by decide +kernel) rfl ⟨rfl, rfl⟩ ?_
  refine w_aload_n (pc := 22) hX dX2_pop_22 rfl rfl ?_
  refine w_dup (pc := 23) hX dX2_pop_23 rfl ?_
  refine gf_X2_states (pc := 24) hX dX2_pop_24 hX2 (List.mem_of_getElem? (i := 1) rfl) 0 rfl rfl ?_
  refine w_iconst (pc := 27) hX dX2_pop_27 ic_1 ?_
  refine w_isub (pc := 28) hX dX2_pop_28 ?_
  rw [hq]
  refine pf_X2_states (pc := 29) hX dX2_pop_29 hX2 (List.mem_of_getElem? (i := 1) rfl) 0 rfl rfl ?_
  refine w_iconst (pc := 32) hX dX2_pop_32 ic_1 ?_
  exact w_zretT (pc := 33) hX hR dX2_pop_33 (by decide) ⟨rfl, rfl⟩
set_option maxHeartbeats 4000000 in
theorem ctX2_push (G : gT) (F : Nat) (a : Nat → Nat → Nat) (a_p1 : Nat → Nat) (v_t : HS) (v_p1 : MZ) (o : HS) (hm : mX2_push F v_t v_p1 = some o) : CT G yX2_push wsX2_push rmX2_push [.ref (a 3 0), .ref (a_p1 0)] (wX2 G a v_t ++ wX3 G a_p1 v_p1) (fun v w => v = none ∧ w = wX2 G a o ++ wX3 G a_p1 v_p1) := by
  unfold mX2_push at hm
  rcases Decidable.em (v_t.1 = 0) with h | h
  · replace hm := ite_t hm h
    obtain ⟨r, hr, hm⟩ := bnd hm
    obtain rfl := som hm
    obtain ⟨d, hd⟩ : ∃ d, (0 + (v_t.2.1)) % 4 = d := ⟨_, rfl⟩
    have hdl : d < 4 := by omega
    rw [hd] at hr ⊢
    rcases (show d = 0 ∨ d = 1 ∨ d = 2 ∨ d = 3 by omega) with rfl | rfl | rfl | rfl
    · exact ctX2_push_0_0 G F a a_p1 v_t v_p1 r h hd hr
    · exact ctX2_push_0_1 G F a a_p1 v_t v_p1 r h hd hr
    · exact ctX2_push_0_2 G F a a_p1 v_t v_p1 r h hd hr
    · exact ctX2_push_0_3 G F a a_p1 v_t v_p1 r h hd hr
  replace hm := ite_f hm h
  rcases Decidable.em (v_t.1 = 1) with h | h
  · replace hm := ite_t hm h
    obtain ⟨r, hr, hm⟩ := bnd hm
    obtain rfl := som hm
    obtain ⟨d, hd⟩ : ∃ d, (1 + (v_t.2.1)) % 4 = d := ⟨_, rfl⟩
    have hdl : d < 4 := by omega
    rw [hd] at hr ⊢
    rcases (show d = 0 ∨ d = 1 ∨ d = 2 ∨ d = 3 by omega) with rfl | rfl | rfl | rfl
    · exact ctX2_push_1_0 G F a a_p1 v_t v_p1 r h hd hr
    · exact ctX2_push_1_1 G F a a_p1 v_t v_p1 r h hd hr
    · exact ctX2_push_1_2 G F a a_p1 v_t v_p1 r h hd hr
    · exact ctX2_push_1_3 G F a a_p1 v_t v_p1 r h hd hr
  replace hm := ite_f hm h
  rcases Decidable.em (v_t.1 = 2) with h | h
  · replace hm := ite_t hm h
    obtain ⟨r, hr, hm⟩ := bnd hm
    obtain rfl := som hm
    obtain ⟨d, hd⟩ : ∃ d, (2 + (v_t.2.1)) % 4 = d := ⟨_, rfl⟩
    have hdl : d < 4 := by omega
    rw [hd] at hr ⊢
    rcases (show d = 0 ∨ d = 1 ∨ d = 2 ∨ d = 3 by omega) with rfl | rfl | rfl | rfl
    · exact ctX2_push_2_0 G F a a_p1 v_t v_p1 r h hd hr
    · exact ctX2_push_2_1 G F a a_p1 v_t v_p1 r h hd hr
    · exact ctX2_push_2_2 G F a a_p1 v_t v_p1 r h hd hr
    · exact ctX2_push_2_3 G F a a_p1 v_t v_p1 r h hd hr
  replace hm := ite_f hm h
  rcases Decidable.em (v_t.1 = 3) with h | h
  · replace hm := ite_t hm h
    obtain ⟨r, hr, hm⟩ := bnd hm
    obtain rfl := som hm
    obtain ⟨d, hd⟩ : ∃ d, (3 + (v_t.2.1)) % 4 = d := ⟨_, rfl⟩
    have hdl : d < 4 := by omega
    rw [hd] at hr ⊢
    rcases (show d = 0 ∨ d = 1 ∨ d = 2 ∨ d = 3 by omega) with rfl | rfl | rfl | rfl
    · exact ctX2_push_3_0 G F a a_p1 v_t v_p1 r h hd hr
    · exact ctX2_push_3_1 G F a a_p1 v_t v_p1 r h hd hr
    · exact ctX2_push_3_2 G F a a_p1 v_t v_p1 r h hd hr
    · exact ctX2_push_3_3 G F a a_p1 v_t v_p1 r h hd hr
  replace hm := ite_f hm h
  rcases Decidable.em (v_t.1 = 4) with h | h
  · replace hm := ite_t hm h
    obtain ⟨r, hr, hm⟩ := bnd hm
    obtain rfl := som hm
    obtain ⟨d, hd⟩ : ∃ d, (3 + (v_t.2.1 + 1)) % 4 = d := ⟨_, rfl⟩
    have hdl : d < 4 := by omega
    rw [hd] at hr ⊢
    rcases (show d = 0 ∨ d = 1 ∨ d = 2 ∨ d = 3 by omega) with rfl | rfl | rfl | rfl
    · exact ctX2_push_4_0 G F a a_p1 v_t v_p1 r h hd hr
    · exact ctX2_push_4_1 G F a a_p1 v_t v_p1 r h hd hr
    · exact ctX2_push_4_2 G F a a_p1 v_t v_p1 r h hd hr
    · exact ctX2_push_4_3 G F a a_p1 v_t v_p1 r h hd hr
  replace hm := ite_f hm h
  cases hm
set_option maxHeartbeats 4000000 in
theorem ctX2_pop (G : gT) (F : Nat) (a : Nat → Nat → Nat) (a_p1 : Nat → Nat) (v_t : HS) (v_p1 : MZ) (o : Int32 × Int32 × MZ) (hm : mX2_pop F v_t v_p1 = some o) : CT G yX2_pop wsX2_pop rmX2_pop [.ref (a 3 0), .ref (a_p1 0)] (wX2 G a v_t ++ wX3 G a_p1 v_p1) (fun v w => v = some (.int o.1) ∧ w = wX2 G a (o.2.1, v_t.2.1, v_t.2.2) ++ wX3 G a_p1 o.2.2) := by
  unfold mX2_pop at hm
  rcases Decidable.em (v_t.1 = 0) with h | h
  · replace hm := ite_t hm h
    obtain rfl := som hm
    exact ctX2_pop_0 G a a_p1 v_t v_p1 h
  replace hm := ite_f hm h
  rcases Decidable.em (v_t.1 = 1) with h | h
  · replace hm := ite_t hm h
    obtain ⟨r, hr, hm⟩ := bnd hm
    obtain rfl := som hm
    obtain ⟨d, hd⟩ : ∃ d, (0 + v_t.2.1) % 4 = d := ⟨_, rfl⟩
    have hdl : d < 4 := by omega
    rw [hd] at hr
    rcases (show d = 0 ∨ d = 1 ∨ d = 2 ∨ d = 3 by omega) with rfl | rfl | rfl | rfl
    · exact ctX2_pop_1_0 G F a a_p1 v_t v_p1 r h hd hr
    · exact ctX2_pop_1_1 G F a a_p1 v_t v_p1 r h hd hr
    · exact ctX2_pop_1_2 G F a a_p1 v_t v_p1 r h hd hr
    · exact ctX2_pop_1_3 G F a a_p1 v_t v_p1 r h hd hr
  replace hm := ite_f hm h
  rcases Decidable.em (v_t.1 = 2) with h | h
  · replace hm := ite_t hm h
    obtain ⟨r, hr, hm⟩ := bnd hm
    obtain rfl := som hm
    obtain ⟨d, hd⟩ : ∃ d, (1 + v_t.2.1) % 4 = d := ⟨_, rfl⟩
    have hdl : d < 4 := by omega
    rw [hd] at hr
    rcases (show d = 0 ∨ d = 1 ∨ d = 2 ∨ d = 3 by omega) with rfl | rfl | rfl | rfl
    · exact ctX2_pop_2_0 G F a a_p1 v_t v_p1 r h hd hr
    · exact ctX2_pop_2_1 G F a a_p1 v_t v_p1 r h hd hr
    · exact ctX2_pop_2_2 G F a a_p1 v_t v_p1 r h hd hr
    · exact ctX2_pop_2_3 G F a a_p1 v_t v_p1 r h hd hr
  replace hm := ite_f hm h
  rcases Decidable.em (v_t.1 = 3) with h | h
  · replace hm := ite_t hm h
    obtain ⟨r, hr, hm⟩ := bnd hm
    obtain rfl := som hm
    obtain ⟨d, hd⟩ : ∃ d, (2 + v_t.2.1) % 4 = d := ⟨_, rfl⟩
    have hdl : d < 4 := by omega
    rw [hd] at hr
    rcases (show d = 0 ∨ d = 1 ∨ d = 2 ∨ d = 3 by omega) with rfl | rfl | rfl | rfl
    · exact ctX2_pop_3_0 G F a a_p1 v_t v_p1 r h hd hr
    · exact ctX2_pop_3_1 G F a a_p1 v_t v_p1 r h hd hr
    · exact ctX2_pop_3_2 G F a a_p1 v_t v_p1 r h hd hr
    · exact ctX2_pop_3_3 G F a a_p1 v_t v_p1 r h hd hr
  replace hm := ite_f hm h
  rcases Decidable.em (v_t.1 = 4) with h | h
  · replace hm := ite_t hm h
    obtain ⟨r, hr, hm⟩ := bnd hm
    obtain rfl := som hm
    obtain ⟨d, hd⟩ : ∃ d, (3 + v_t.2.1) % 4 = d := ⟨_, rfl⟩
    have hdl : d < 4 := by omega
    rw [hd] at hr
    rcases (show d = 0 ∨ d = 1 ∨ d = 2 ∨ d = 3 by omega) with rfl | rfl | rfl | rfl
    · exact ctX2_pop_4_0 G F a a_p1 v_t v_p1 r h hd hr
    · exact ctX2_pop_4_1 G F a a_p1 v_t v_p1 r h hd hr
    · exact ctX2_pop_4_2 G F a a_p1 v_t v_p1 r h hd hr
    · exact ctX2_pop_4_3 G F a a_p1 v_t v_p1 r h hd hr
  replace hm := ite_f hm h
  cases hm
