/-! CONSTRUCTORS, printed by wip/whole/ctor.py -/
section CROWS
variable {G : gT} {X : xT} {k n : Nat} {ws ws' : va_W} {lv : List (Option Value)} {pc : Nat} {st : List Value} {cc : ByteArray} {own : String} {Ts : List Cond} {nL : Nat} {rm : Room}
theorem w_ws (h : ws = ws') (kk : WW G X k n ws' lv pc st) : WW G X k n ws lv pc st := by rw [h]; exact kk
theorem w_newq {x : Int32} {N index : Nat} (hX : Ok G X cc own Ts nL rm) (hd : decode cc pc = .ok (.anewarray index, 3)) (hw : Cond.classLink own index "PortraitMazes$Maze" ∈ Ts) (hx : ¬ x < 0) (hN : x.toNatClampNeg = N) (hby : N * 4 ≤ 536870912) (hc : k + 1 ≤ rm.cells ∧ n + N ≤ rm.slots) (kk : ∀ q : Nat, WW G X (k + 1) (n + N) (ws ++ [(q, .inl (G.2.2.2, N, .inr (.inr (.inr (.inr (fun _ => none))))))]) lv (pc + 3) (.ref q :: st)) : WW G X k n ws lv pc (.int x :: st) := by
  obtain ⟨p, l, e, R, s, m, args, below, meth, c, H0, A, Q, nL'⟩ := X
  obtain ⟨hx0, hb, hml, hnl, hown, hts, hK, hA, hlk, hRm⟩ := hX
  have hRm : R = rm := hRm
  subst hRm
  refine fun H locs ls hP hD hS hl => va_newq hx0 hb hown (hts _ hw) hK.ao hK.1 hP hD hS hA hx hN hby hc.1 hc.2 hd (fun q cA H1 hK1 hP1 hD1 hS1 => ?_)
  have he := ra_eqo (hK1.2 3 (cA, .object "PortraitMazes$Maze") rfl).2 (hK.1.2 2 (G.2.2.2, .object "PortraitMazes$Maze") rfl).2
  subst he
  exact kk q H1 locs ls hP1 hD1 hS1 hl
end CROWS
abbrev rmX3_init : Room := { frames := 2, cells := 4, slots := 76, locals := 45 }
theorem hyX3_init : yX3_init.cls = RX3 ∧ yX3_init.cls ≠ "java/lang/invoke/MethodHandle" ∧ yX3_init.cls ≠ "java/lang/invoke/VarHandle" ∧ (parseMethodDescriptor yX3_init.desc).map (fun d => d.parameters.length) = some 0 := ⟨rfl, by decide +kernel, by decide +kernel, by decide +kernel⟩
theorem lX3_init_X3 : ∀ w ∈ wsX30, w ∈ wsX3_init := in_at [27, 28, 29, 30, 31, 32] (by decide +kernel)
set_option maxHeartbeats 4000000 in
set_option maxRecDepth 100000 in
theorem ctX3_init (G : gT) (F : Nat) (q : Nat) (o : MZ) (hm : mX3_clear F (0, 0, (fun _ => 0), (fun _ => 0), (fun _ => 0), (fun _ => 0)) (4 : Int32) (4 : Int32) = some o) : CT G yX3_init wsX3_init rmX3_init [.ref q] [(q, .inr (3, [.int 0, .int 0, .null, .null, .null, .null]))] (fun v w => v = none ∧ ∃ a : Nat → Nat, a 0 = q ∧ w = wX3 G a o) := by
  refine CT_of (cc := cX3_init) (maxL := 1) (ret := none) 0 (by decide +kernel) rfl rfl (cat_ok rfl) (fun X hX hR hN => ?_)
  have hX : Ok G X cX3_init RX3 wsX3_init 1 rmX3_init := hX
  have hX3 : ∀ w ∈ wsX30, w ∈ wsX3_init := lX3_init_X3
  refine w_aload_n (pc := 0) hX dX3_init_0 rfl rfl ?_
  refine w_objInit (pc := 1) hX dX3_init_1 (List.mem_of_getElem? (i := 1) rfl) (List.mem_of_getElem? (i := 2) rfl) (List.mem_of_getElem? (i := 3) rfl) (Nat.le_of_ble_eq_true rfl) (Nat.le_of_ble_eq_true rfl) ?_
  refine w_aload_n (pc := 4) hX dX3_init_4 rfl rfl ?_
  refine w_bipush (pc := 5) hX dX3_init_5 bp_36 ?_
  refine w_newi (N := 36) (pc := 7) hX dX3_init_7 (List.mem_of_getElem? (i := 4) rfl) (by decide) (by decide) (Nat.le_of_ble_eq_true rfl) ⟨Nat.le_of_ble_eq_true rfl, Nat.le_of_ble_eq_true rfl⟩ (fun q1 => ?_)
  refine pF_X3_tones hN (pc := 9) hX dX3_init_9 hX3 (List.mem_of_getElem? (i := 5) rfl) 0 rfl rfl ?_
  refine w_ws (ws' := [(q, .inr (3, [.int 0, .int 0, .ref q1, .null, .null, .null])), (q1, .inl (G.2.1, 36, .inl (fun _ => 0)))]) rfl ?_
  refine w_aload_n (pc := 12) hX dX3_init_12 rfl rfl ?_
  refine w_bipush (pc := 13) hX dX3_init_13 bp_36 ?_
  refine w_newi (N := 36) (pc := 15) hX dX3_init_15 (List.mem_of_getElem? (i := 4) rfl) (by decide) (by decide) (Nat.le_of_ble_eq_true rfl) ⟨Nat.le_of_ble_eq_true rfl, Nat.le_of_ble_eq_true rfl⟩ (fun q2 => ?_)
  refine pF_X3_passages hN (pc := 17) hX dX3_init_17 hX3 (List.mem_of_getElem? (i := 6) rfl) 0 rfl rfl ?_
  refine w_ws (ws' := [(q, .inr (3, [.int 0, .int 0, .ref q1, .ref q2, .null, .null])), (q1, .inl (G.2.1, 36, .inl (fun _ => 0))), (q2, .inl (G.2.1, 36, .inl (fun _ => 0)))]) rfl ?_
  refine w_aload_n (pc := 20) hX dX3_init_20 rfl rfl ?_
  refine w_iconst (pc := 21) hX dX3_init_21 ic_2 ?_
  refine w_newi (N := 2) (pc := 22) hX dX3_init_22 (List.mem_of_getElem? (i := 4) rfl) (by decide) (by decide) (Nat.le_of_ble_eq_true rfl) ⟨Nat.le_of_ble_eq_true rfl, Nat.le_of_ble_eq_true rfl⟩ (fun q3 => ?_)
  refine pF_X3_doorCells hN (pc := 24) hX dX3_init_24 hX3 (List.mem_of_getElem? (i := 7) rfl) 0 rfl rfl ?_
  refine w_ws (ws' := [(q, .inr (3, [.int 0, .int 0, .ref q1, .ref q2, .ref q3, .null])), (q1, .inl (G.2.1, 36, .inl (fun _ => 0))), (q2, .inl (G.2.1, 36, .inl (fun _ => 0))), (q3, .inl (G.2.1, 2, .inl (fun _ => 0)))]) rfl ?_
  refine w_aload_n (pc := 27) hX dX3_init_27 rfl rfl ?_
  refine w_iconst (pc := 28) hX dX3_init_28 ic_2 ?_
  refine w_newi (N := 2) (pc := 29) hX dX3_init_29 (List.mem_of_getElem? (i := 4) rfl) (by decide) (by decide) (Nat.le_of_ble_eq_true rfl) ⟨Nat.le_of_ble_eq_true rfl, Nat.le_of_ble_eq_true rfl⟩ (fun q4 => ?_)
  refine pF_X3_doorSides hN (pc := 31) hX dX3_init_31 hX3 (List.mem_of_getElem? (i := 8) rfl) 0 rfl rfl ?_
  refine w_ws (ws' := [(q, .inr (3, [.int 0, .int 0, .ref q1, .ref q2, .ref q3, .ref q4])), (q1, .inl (G.2.1, 36, .inl (fun _ => 0))), (q2, .inl (G.2.1, 36, .inl (fun _ => 0))), (q3, .inl (G.2.1, 2, .inl (fun _ => 0))), (q4, .inl (G.2.1, 2, .inl (fun _ => 0)))]) rfl ?_
  refine w_aload_n (pc := 34) hX dX3_init_34 rfl rfl ?_
  refine w_iconst (pc := 35) hX dX3_init_35 ic_4 ?_
  refine w_iconst (pc := 36) hX dX3_init_36 ic_4 ?_
  obtain ⟨a, ha⟩ : ∃ a : Nat → Nat, a = (fun i => match i with | 0 => q | 1 => q1 | 2 => q2 | 3 => q3 | _ => q4) := ⟨_, rfl⟩
  have e0 : q = a 0 := (congrFun ha 0).symm
  have e1 : q1 = a 1 := (congrFun ha 1).symm
  have e2 : q2 = a 2 := (congrFun ha 2).symm
  have e3 : q3 = a 3 := (congrFun ha 3).symm
  have e4 : q4 = a 4 := (congrFun ha 4).symm
  clear ha
  subst e0 e1 e2 e3 e4
  refine w_calldv (pc := 37) (ws' := wX3 G a o) (os := [some 0, some 1, some 2, some 3, some 4]) 5 hX [0, 1, 2, 3, 4] (runV (rest := []) hX [0, 1, 2, 3, 4] (ctX3_clear G F a (0, 0, (fun _ => 0), (fun _ => 0), (fun _ => 0), (fun _ => 0)) (4 : Int32) (4 : Int32) o hm) dX3_init_37 2 gX3_init_X3_clear rfl hyX3_clear ⟨Nat.le_of_ble_eq_true rfl, Nat.le_of_ble_eq_true rfl⟩ 0 rfl rfl rfl rfl (Nat.le_of_ble_eq_true rfl) ⟨Nat.le_of_ble_eq_true rfl, Nat.le_of_ble_eq_true rfl⟩ rfl (by decide +kernel)) rfl rfl rfl (by decide +kernel) rfl ⟨rfl, rfl⟩ ?_
  exact w_vret (pc := 40) hX hR dX3_init_40 ⟨rfl, a, rfl, rfl⟩

abbrev rmX0_init : Room := { frames := 1, cells := 1, slots := 36, locals := 12 }
theorem hyX0_init : yX0_init.cls = RX0 ∧ yX0_init.cls ≠ "java/lang/invoke/MethodHandle" ∧ yX0_init.cls ≠ "java/lang/invoke/VarHandle" ∧ (parseMethodDescriptor yX0_init.desc).map (fun d => d.parameters.length) = some 0 := ⟨rfl, by decide +kernel, by decide +kernel, by decide +kernel⟩
theorem lX0_init_X0 : ∀ w ∈ wsX00, w ∈ wsX0_init := in_at [6] (by decide +kernel)
set_option maxHeartbeats 4000000 in
set_option maxRecDepth 100000 in
theorem ctX0_init (G : gT) (q : Nat) : CT G yX0_init wsX0_init rmX0_init [.ref q] [(q, .inr (0, [.null]))] (fun v w => v = none ∧ ∃ a : Nat → Nat, a 0 = q ∧ w = wX0 G a (fun _ => 0)) := by
  refine CT_of (cc := cX0_init) (maxL := 1) (ret := none) 0 (by decide +kernel) rfl rfl (cat_ok rfl) (fun X hX hR hN => ?_)
  have hX : Ok G X cX0_init RX0 wsX0_init 1 rmX0_init := hX
  have hX0 : ∀ w ∈ wsX00, w ∈ wsX0_init := lX0_init_X0
  refine w_aload_n (pc := 0) hX dX0_init_0 rfl rfl ?_
  refine w_objInit (pc := 1) hX dX0_init_1 (List.mem_of_getElem? (i := 1) rfl) (List.mem_of_getElem? (i := 2) rfl) (List.mem_of_getElem? (i := 3) rfl) (Nat.le_of_ble_eq_true rfl) (Nat.le_of_ble_eq_true rfl) ?_
  refine w_aload_n (pc := 4) hX dX0_init_4 rfl rfl ?_
  refine w_bipush (pc := 5) hX dX0_init_5 bp_36 ?_
  refine w_newi (N := 36) (pc := 7) hX dX0_init_7 (List.mem_of_getElem? (i := 4) rfl) (by decide) (by decide) (Nat.le_of_ble_eq_true rfl) ⟨Nat.le_of_ble_eq_true rfl, Nat.le_of_ble_eq_true rfl⟩ (fun q1 => ?_)
  refine pF_X0_partOf hN (pc := 9) hX dX0_init_9 hX0 (List.mem_of_getElem? (i := 5) rfl) 0 rfl rfl ?_
  refine w_ws (ws' := [(q, .inr (0, [.ref q1])), (q1, .inl (G.2.1, 36, .inl (fun _ => 0)))]) rfl ?_
  exact w_vret (pc := 12) hX hR dX0_init_12 ⟨rfl, (fun i => match i with | 0 => q  | _ => q1), rfl, rfl⟩

abbrev rmX1_init : Room := { frames := 1, cells := 1, slots := 36, locals := 12 }
theorem hyX1_init : yX1_init.cls = RX1 ∧ yX1_init.cls ≠ "java/lang/invoke/MethodHandle" ∧ yX1_init.cls ≠ "java/lang/invoke/VarHandle" ∧ (parseMethodDescriptor yX1_init.desc).map (fun d => d.parameters.length) = some 0 := ⟨rfl, by decide +kernel, by decide +kernel, by decide +kernel⟩
theorem lX1_init_X1 : ∀ w ∈ wsX10, w ∈ wsX1_init := in_at [6, 7, 8, 9, 10, 11] (by decide +kernel)
set_option maxHeartbeats 4000000 in
set_option maxRecDepth 100000 in
theorem ctX1_init (G : gT) (q : Nat) : CT G yX1_init wsX1_init rmX1_init [.ref q] [(q, .inr (1, [.int 0, .int 0, .int 0, .int 0, .int 0, .null]))] (fun v w => v = none ∧ ∃ a : Nat → Nat, a 0 = q ∧ w = wX1 G a (0, 0, 0, 0, 0, (fun _ => 0))) := by
  refine CT_of (cc := cX1_init) (maxL := 1) (ret := none) 0 (by decide +kernel) rfl rfl (cat_ok rfl) (fun X hX hR hN => ?_)
  have hX : Ok G X cX1_init RX1 wsX1_init 1 rmX1_init := hX
  have hX1 : ∀ w ∈ wsX10, w ∈ wsX1_init := lX1_init_X1
  refine w_aload_n (pc := 0) hX dX1_init_0 rfl rfl ?_
  refine w_objInit (pc := 1) hX dX1_init_1 (List.mem_of_getElem? (i := 1) rfl) (List.mem_of_getElem? (i := 2) rfl) (List.mem_of_getElem? (i := 3) rfl) (Nat.le_of_ble_eq_true rfl) (Nat.le_of_ble_eq_true rfl) ?_
  refine w_aload_n (pc := 4) hX dX1_init_4 rfl rfl ?_
  refine w_bipush (pc := 5) hX dX1_init_5 bp_36 ?_
  refine w_newi (N := 36) (pc := 7) hX dX1_init_7 (List.mem_of_getElem? (i := 4) rfl) (by decide) (by decide) (Nat.le_of_ble_eq_true rfl) ⟨Nat.le_of_ble_eq_true rfl, Nat.le_of_ble_eq_true rfl⟩ (fun q1 => ?_)
  refine pF_X1_cutOff hN (pc := 9) hX dX1_init_9 hX1 (List.mem_of_getElem? (i := 5) rfl) 0 rfl rfl ?_
  refine w_ws (ws' := [(q, .inr (1, [.int 0, .int 0, .int 0, .int 0, .int 0, .ref q1])), (q1, .inl (G.2.1, 36, .inl (fun _ => 0)))]) rfl ?_
  exact w_vret (pc := 12) hX hR dX1_init_12 ⟨rfl, (fun i => match i with | 0 => q  | _ => q1), rfl, rfl⟩

abbrev rmX4_init : Room := { frames := 1, cells := 1, slots := 60, locals := 12 }
theorem hyX4_init : yX4_init.cls = RX4 ∧ yX4_init.cls ≠ "java/lang/invoke/MethodHandle" ∧ yX4_init.cls ≠ "java/lang/invoke/VarHandle" ∧ (parseMethodDescriptor yX4_init.desc).map (fun d => d.parameters.length) = some 0 := ⟨rfl, by decide +kernel, by decide +kernel, by decide +kernel⟩
theorem lX4_init_X4 : ∀ w ∈ wsX40, w ∈ wsX4_init := in_at [6, 7, 8, 9, 10, 11, 12] (by decide +kernel)
set_option maxHeartbeats 4000000 in
set_option maxRecDepth 100000 in
theorem ctX4_init (G : gT) (q : Nat) : CT G yX4_init wsX4_init rmX4_init [.ref q] [(q, .inr (4, [.int 0, .int 0, .int 0, .null, .int 0, .int 0, .int 0]))] (fun v w => v = none ∧ ∃ a : Nat → Nat, a 0 = q ∧ w = wX4 G a (0, 0, 0, (fun _ => 0), 0, 0, 0)) := by
  refine CT_of (cc := cX4_init) (maxL := 1) (ret := none) 0 (by decide +kernel) rfl rfl (cat_ok rfl) (fun X hX hR hN => ?_)
  have hX : Ok G X cX4_init RX4 wsX4_init 1 rmX4_init := hX
  have hX4 : ∀ w ∈ wsX40, w ∈ wsX4_init := lX4_init_X4
  refine w_aload_n (pc := 0) hX dX4_init_0 rfl rfl ?_
  refine w_objInit (pc := 1) hX dX4_init_1 (List.mem_of_getElem? (i := 1) rfl) (List.mem_of_getElem? (i := 2) rfl) (List.mem_of_getElem? (i := 3) rfl) (Nat.le_of_ble_eq_true rfl) (Nat.le_of_ble_eq_true rfl) ?_
  refine w_aload_n (pc := 4) hX dX4_init_4 rfl rfl ?_
  refine w_bipush (pc := 5) hX dX4_init_5 bp_60 ?_
  refine w_newi (N := 60) (pc := 7) hX dX4_init_7 (List.mem_of_getElem? (i := 4) rfl) (by decide) (by decide) (Nat.le_of_ble_eq_true rfl) ⟨Nat.le_of_ble_eq_true rfl, Nat.le_of_ble_eq_true rfl⟩ (fun q1 => ?_)
  refine pF_X4_characters hN (pc := 9) hX dX4_init_9 hX4 (List.mem_of_getElem? (i := 5) rfl) 0 rfl rfl ?_
  refine w_ws (ws' := [(q, .inr (4, [.int 0, .int 0, .int 0, .ref q1, .int 0, .int 0, .int 0])), (q1, .inl (G.2.1, 60, .inl (fun _ => 0)))]) rfl ?_
  exact w_vret (pc := 12) hX hR dX4_init_12 ⟨rfl, (fun i => match i with | 0 => q  | _ => q1), rfl, rfl⟩

abbrev rmX5_init : Room := { frames := 1, cells := 2, slots := 72, locals := 12 }
theorem hyX5_init : yX5_init.cls = RX5 ∧ yX5_init.cls ≠ "java/lang/invoke/MethodHandle" ∧ yX5_init.cls ≠ "java/lang/invoke/VarHandle" ∧ (parseMethodDescriptor yX5_init.desc).map (fun d => d.parameters.length) = some 0 := ⟨rfl, by decide +kernel, by decide +kernel, by decide +kernel⟩
theorem lX5_init_X5 : ∀ w ∈ wsX50, w ∈ wsX5_init := in_at [7, 8, 9, 10] (by decide +kernel)
set_option maxHeartbeats 4000000 in
set_option maxRecDepth 100000 in
theorem ctX5_init (G : gT) (q : Nat) : CT G yX5_init wsX5_init rmX5_init [.ref q] [(q, .inr (5, [.int 0, .int 0, .null, .null]))] (fun v w => v = none ∧ ∃ a : Nat → Nat, a 0 = q ∧ w = wX5 G a (0, 0, (fun _ => 0), (fun _ => 0))) := by
  refine CT_of (cc := cX5_init) (maxL := 1) (ret := none) 0 (by decide +kernel) rfl rfl (cat_ok rfl) (fun X hX hR hN => ?_)
  have hX : Ok G X cX5_init RX5 wsX5_init 1 rmX5_init := hX
  have hX5 : ∀ w ∈ wsX50, w ∈ wsX5_init := lX5_init_X5
  refine w_aload_n (pc := 0) hX dX5_init_0 rfl rfl ?_
  refine w_objInit (pc := 1) hX dX5_init_1 (List.mem_of_getElem? (i := 1) rfl) (List.mem_of_getElem? (i := 2) rfl) (List.mem_of_getElem? (i := 3) rfl) (Nat.le_of_ble_eq_true rfl) (Nat.le_of_ble_eq_true rfl) ?_
  refine w_aload_n (pc := 4) hX dX5_init_4 rfl rfl ?_
  refine w_bipush (pc := 5) hX dX5_init_5 bp_36 ?_
  refine w_newi (N := 36) (pc := 7) hX dX5_init_7 (List.mem_of_getElem? (i := 4) rfl) (by decide) (by decide) (Nat.le_of_ble_eq_true rfl) ⟨Nat.le_of_ble_eq_true rfl, Nat.le_of_ble_eq_true rfl⟩ (fun q1 => ?_)
  refine pF_X5_visits hN (pc := 9) hX dX5_init_9 hX5 (List.mem_of_getElem? (i := 5) rfl) 0 rfl rfl ?_
  refine w_ws (ws' := [(q, .inr (5, [.int 0, .int 0, .ref q1, .null])), (q1, .inl (G.2.1, 36, .inl (fun _ => 0)))]) rfl ?_
  refine w_aload_n (pc := 12) hX dX5_init_12 rfl rfl ?_
  refine w_bipush (pc := 13) hX dX5_init_13 bp_36 ?_
  refine w_newi (N := 36) (pc := 15) hX dX5_init_15 (List.mem_of_getElem? (i := 4) rfl) (by decide) (by decide) (Nat.le_of_ble_eq_true rfl) ⟨Nat.le_of_ble_eq_true rfl, Nat.le_of_ble_eq_true rfl⟩ (fun q2 => ?_)
  refine pF_X5_looks hN (pc := 17) hX dX5_init_17 hX5 (List.mem_of_getElem? (i := 6) rfl) 0 rfl rfl ?_
  refine w_ws (ws' := [(q, .inr (5, [.int 0, .int 0, .ref q1, .ref q2])), (q1, .inl (G.2.1, 36, .inl (fun _ => 0))), (q2, .inl (G.2.1, 36, .inl (fun _ => 0)))]) rfl ?_
  exact w_vret (pc := 20) hX hR dX5_init_20 ⟨rfl, (fun i => match i with | 0 => q | 1 => q1 | _ => q2), rfl, rfl⟩

abbrev rmX6_init : Room := { frames := 1, cells := 4, slots := 144, locals := 12 }
theorem hyX6_init : yX6_init.cls = RX6 ∧ yX6_init.cls ≠ "java/lang/invoke/MethodHandle" ∧ yX6_init.cls ≠ "java/lang/invoke/VarHandle" ∧ (parseMethodDescriptor yX6_init.desc).map (fun d => d.parameters.length) = some 0 := ⟨rfl, by decide +kernel, by decide +kernel, by decide +kernel⟩
theorem lX6_init_X6 : ∀ w ∈ wsX60, w ∈ wsX6_init := in_at [9, 10, 11, 12, 13] (by decide +kernel)
set_option maxHeartbeats 4000000 in
set_option maxRecDepth 100000 in
theorem ctX6_init (G : gT) (q : Nat) : CT G yX6_init wsX6_init rmX6_init [.ref q] [(q, .inr (6, [.int 0, .null, .null, .null, .null]))] (fun v w => v = none ∧ ∃ a : Nat → Nat, a 0 = q ∧ w = wX6 G a (0, (fun _ => 0), (fun _ => 0), (fun _ => 0), (fun _ => 0))) := by
  refine CT_of (cc := cX6_init) (maxL := 1) (ret := none) 0 (by decide +kernel) rfl rfl (cat_ok rfl) (fun X hX hR hN => ?_)
  have hX : Ok G X cX6_init RX6 wsX6_init 1 rmX6_init := hX
  have hX6 : ∀ w ∈ wsX60, w ∈ wsX6_init := lX6_init_X6
  refine w_aload_n (pc := 0) hX dX6_init_0 rfl rfl ?_
  refine w_objInit (pc := 1) hX dX6_init_1 (List.mem_of_getElem? (i := 1) rfl) (List.mem_of_getElem? (i := 2) rfl) (List.mem_of_getElem? (i := 3) rfl) (Nat.le_of_ble_eq_true rfl) (Nat.le_of_ble_eq_true rfl) ?_
  refine w_aload_n (pc := 4) hX dX6_init_4 rfl rfl ?_
  refine w_bipush (pc := 5) hX dX6_init_5 bp_36 ?_
  refine w_newi (N := 36) (pc := 7) hX dX6_init_7 (List.mem_of_getElem? (i := 4) rfl) (by decide) (by decide) (Nat.le_of_ble_eq_true rfl) ⟨Nat.le_of_ble_eq_true rfl, Nat.le_of_ble_eq_true rfl⟩ (fun q1 => ?_)
  refine pF_X6_order hN (pc := 9) hX dX6_init_9 hX6 (List.mem_of_getElem? (i := 5) rfl) 0 rfl rfl ?_
  refine w_ws (ws' := [(q, .inr (6, [.int 0, .ref q1, .null, .null, .null])), (q1, .inl (G.2.1, 36, .inl (fun _ => 0)))]) rfl ?_
  refine w_aload_n (pc := 12) hX dX6_init_12 rfl rfl ?_
  refine w_bipush (pc := 13) hX dX6_init_13 bp_36 ?_
  refine w_newi (N := 36) (pc := 15) hX dX6_init_15 (List.mem_of_getElem? (i := 4) rfl) (by decide) (by decide) (Nat.le_of_ble_eq_true rfl) ⟨Nat.le_of_ble_eq_true rfl, Nat.le_of_ble_eq_true rfl⟩ (fun q2 => ?_)
  refine pF_X6_previous hN (pc := 17) hX dX6_init_17 hX6 (List.mem_of_getElem? (i := 6) rfl) 0 rfl rfl ?_
  refine w_ws (ws' := [(q, .inr (6, [.int 0, .ref q1, .ref q2, .null, .null])), (q1, .inl (G.2.1, 36, .inl (fun _ => 0))), (q2, .inl (G.2.1, 36, .inl (fun _ => 0)))]) rfl ?_
  refine w_aload_n (pc := 20) hX dX6_init_20 rfl rfl ?_
  refine w_bipush (pc := 21) hX dX6_init_21 bp_36 ?_
  refine w_newi (N := 36) (pc := 23) hX dX6_init_23 (List.mem_of_getElem? (i := 4) rfl) (by decide) (by decide) (Nat.le_of_ble_eq_true rfl) ⟨Nat.le_of_ble_eq_true rfl, Nat.le_of_ble_eq_true rfl⟩ (fun q3 => ?_)
  refine pF_X6_lengths hN (pc := 25) hX dX6_init_25 hX6 (List.mem_of_getElem? (i := 7) rfl) 0 rfl rfl ?_
  refine w_ws (ws' := [(q, .inr (6, [.int 0, .ref q1, .ref q2, .ref q3, .null])), (q1, .inl (G.2.1, 36, .inl (fun _ => 0))), (q2, .inl (G.2.1, 36, .inl (fun _ => 0))), (q3, .inl (G.2.1, 36, .inl (fun _ => 0)))]) rfl ?_
  refine w_aload_n (pc := 28) hX dX6_init_28 rfl rfl ?_
  refine w_bipush (pc := 29) hX dX6_init_29 bp_36 ?_
  refine w_newi (N := 36) (pc := 31) hX dX6_init_31 (List.mem_of_getElem? (i := 4) rfl) (by decide) (by decide) (Nat.le_of_ble_eq_true rfl) ⟨Nat.le_of_ble_eq_true rfl, Nat.le_of_ble_eq_true rfl⟩ (fun q4 => ?_)
  refine pF_X6_gains hN (pc := 33) hX dX6_init_33 hX6 (List.mem_of_getElem? (i := 8) rfl) 0 rfl rfl ?_
  refine w_ws (ws' := [(q, .inr (6, [.int 0, .ref q1, .ref q2, .ref q3, .ref q4])), (q1, .inl (G.2.1, 36, .inl (fun _ => 0))), (q2, .inl (G.2.1, 36, .inl (fun _ => 0))), (q3, .inl (G.2.1, 36, .inl (fun _ => 0))), (q4, .inl (G.2.1, 36, .inl (fun _ => 0)))]) rfl ?_
  exact w_vret (pc := 36) hX hR dX6_init_36 ⟨rfl, (fun i => match i with | 0 => q | 1 => q1 | 2 => q2 | 3 => q3 | _ => q4), rfl, rfl⟩

abbrev rmX8_init : Room := { frames := 1, cells := 12, slots := 1218, locals := 23 }
theorem hyX8_init : yX8_init.cls = RX8 ∧ yX8_init.cls ≠ "java/lang/invoke/MethodHandle" ∧ yX8_init.cls ≠ "java/lang/invoke/VarHandle" ∧ (parseMethodDescriptor yX8_init.desc).map (fun d => d.parameters.length) = some 0 := ⟨rfl, by decide +kernel, by decide +kernel, by decide +kernel⟩
theorem lX8_init_X8 : ∀ w ∈ wsX80, w ∈ wsX8_init := in_at [23, 24, 25, 26, 27, 28, 29, 30, 31, 32, 33, 34, 35, 36, 37, 38, 39, 40, 41, 42, 43, 44, 45, 46] (by decide +kernel)
set_option maxHeartbeats 4000000 in
set_option maxRecDepth 100000 in
theorem ctX8_init (G : gT) (F : Nat) (q : Nat) (o : nF) (hm : mX8_lightens F (fun _ => 0) (4 : Int32) (4 : Int32) = some o) : CT G yX8_init wsX8_init rmX8_init [.ref q] [(q, .inr (8, [.null, .null, .null, .int 0, .null, .int 0, .null, .int 0, .null, .null, .null, .null, .int 0, .int 0, .null, .null, .int 0, .int 0, .int 0, .null, .int 0, .int 0, .int 0, .int 0]))] (fun v w => v = none ∧ ∃ a : Nat → Nat, a 0 = q ∧ w = wX8 G a o (fun _ => 0) (fun _ => 0) 0 (fun _ => 0) 0 (fun _ => 0) 0 (fun _ => 0) (fun _ => 0) (fun _ => 0) (fun _ => 0) 0 0 (fun _ => 0) (fun _ => 0) 0 0 0 (fun _ => 0) 0 0 0 0) := by
  refine CT_of (cc := cX8_init) (maxL := 1) (ret := none) 0 (by decide +kernel) rfl rfl (cat_ok rfl) (fun X hX hR hN => ?_)
  have hX : Ok G X cX8_init RX8 wsX8_init 1 rmX8_init := hX
  have hX8 : ∀ w ∈ wsX80, w ∈ wsX8_init := lX8_init_X8
  refine w_aload_n (pc := 0) hX dX8_init_0 rfl rfl ?_
  refine w_objInit (pc := 1) hX dX8_init_1 (List.mem_of_getElem? (i := 1) rfl) (List.mem_of_getElem? (i := 2) rfl) (List.mem_of_getElem? (i := 3) rfl) (Nat.le_of_ble_eq_true rfl) (Nat.le_of_ble_eq_true rfl) ?_
  refine w_aload_n (pc := 4) hX dX8_init_4 rfl rfl ?_
  refine w_bipush (pc := 5) hX dX8_init_5 bp_114 ?_
  refine w_newi (N := 114) (pc := 7) hX dX8_init_7 (List.mem_of_getElem? (i := 4) rfl) (by decide) (by decide) (Nat.le_of_ble_eq_true rfl) ⟨Nat.le_of_ble_eq_true rfl, Nat.le_of_ble_eq_true rfl⟩ (fun q1 => ?_)
  refine pF_X8_s hN (pc := 9) hX dX8_init_9 hX8 (List.mem_of_getElem? (i := 5) rfl) 0 rfl rfl ?_
  refine w_ws (ws' := [(q, .inr (8, [.ref q1, .null, .null, .int 0, .null, .int 0, .null, .int 0, .null, .null, .null, .null, .int 0, .int 0, .null, .null, .int 0, .int 0, .int 0, .null, .int 0, .int 0, .int 0, .int 0])), (q1, .inl (G.2.1, 114, .inl (fun _ => 0)))]) rfl ?_
  refine w_aload_n (pc := 12) hX dX8_init_12 rfl rfl ?_
  refine w_bipush (pc := 13) hX dX8_init_13 bp_114 ?_
  refine w_newi (N := 114) (pc := 15) hX dX8_init_15 (List.mem_of_getElem? (i := 4) rfl) (by decide) (by decide) (Nat.le_of_ble_eq_true rfl) ⟨Nat.le_of_ble_eq_true rfl, Nat.le_of_ble_eq_true rfl⟩ (fun q2 => ?_)
  refine pF_X8_begun hN (pc := 17) hX dX8_init_17 hX8 (List.mem_of_getElem? (i := 6) rfl) 0 rfl rfl ?_
  refine w_ws (ws' := [(q, .inr (8, [.ref q1, .ref q2, .null, .int 0, .null, .int 0, .null, .int 0, .null, .null, .null, .null, .int 0, .int 0, .null, .null, .int 0, .int 0, .int 0, .null, .int 0, .int 0, .int 0, .int 0])), (q1, .inl (G.2.1, 114, .inl (fun _ => 0))), (q2, .inl (G.2.1, 114, .inl (fun _ => 0)))]) rfl ?_
  refine w_aload_n (pc := 20) hX dX8_init_20 rfl rfl ?_
  refine w_bipush (pc := 21) hX dX8_init_21 bp_114 ?_
  refine w_newi (N := 114) (pc := 23) hX dX8_init_23 (List.mem_of_getElem? (i := 4) rfl) (by decide) (by decide) (Nat.le_of_ble_eq_true rfl) ⟨Nat.le_of_ble_eq_true rfl, Nat.le_of_ble_eq_true rfl⟩ (fun q3 => ?_)
  refine pF_X8_kept hN (pc := 25) hX dX8_init_25 hX8 (List.mem_of_getElem? (i := 7) rfl) 0 rfl rfl ?_
  refine w_ws (ws' := [(q, .inr (8, [.ref q1, .ref q2, .ref q3, .int 0, .null, .int 0, .null, .int 0, .null, .null, .null, .null, .int 0, .int 0, .null, .null, .int 0, .int 0, .int 0, .null, .int 0, .int 0, .int 0, .int 0])), (q1, .inl (G.2.1, 114, .inl (fun _ => 0))), (q2, .inl (G.2.1, 114, .inl (fun _ => 0))), (q3, .inl (G.2.1, 114, .inl (fun _ => 0)))]) rfl ?_
  refine w_aload_n (pc := 28) hX dX8_init_28 rfl rfl ?_
  refine w_sipush (pc := 29) hX dX8_init_29 sp_456 ?_
  refine w_newi (N := 456) (pc := 32) hX dX8_init_32 (List.mem_of_getElem? (i := 4) rfl) (by decide) (by decide) (Nat.le_of_ble_eq_true rfl) ⟨Nat.le_of_ble_eq_true rfl, Nat.le_of_ble_eq_true rfl⟩ (fun q4 => ?_)
  refine pF_X8_past hN (pc := 34) hX dX8_init_34 hX8 (List.mem_of_getElem? (i := 8) rfl) 0 rfl rfl ?_
  refine w_ws (ws' := [(q, .inr (8, [.ref q1, .ref q2, .ref q3, .int 0, .ref q4, .int 0, .null, .int 0, .null, .null, .null, .null, .int 0, .int 0, .null, .null, .int 0, .int 0, .int 0, .null, .int 0, .int 0, .int 0, .int 0])), (q1, .inl (G.2.1, 114, .inl (fun _ => 0))), (q2, .inl (G.2.1, 114, .inl (fun _ => 0))), (q3, .inl (G.2.1, 114, .inl (fun _ => 0))), (q4, .inl (G.2.1, 456, .inl (fun _ => 0)))]) rfl ?_
  refine w_aload_n (pc := 37) hX dX8_init_37 rfl rfl ?_
  refine w_bipush (pc := 38) hX dX8_init_38 bp_60 ?_
  refine w_newi (N := 60) (pc := 40) hX dX8_init_40 (List.mem_of_getElem? (i := 4) rfl) (by decide) (by decide) (Nat.le_of_ble_eq_true rfl) ⟨Nat.le_of_ble_eq_true rfl, Nat.le_of_ble_eq_true rfl⟩ (fun q5 => ?_)
  refine pF_X8_text hN (pc := 42) hX dX8_init_42 hX8 (List.mem_of_getElem? (i := 9) rfl) 0 rfl rfl ?_
  refine w_ws (ws' := [(q, .inr (8, [.ref q1, .ref q2, .ref q3, .int 0, .ref q4, .int 0, .ref q5, .int 0, .null, .null, .null, .null, .int 0, .int 0, .null, .null, .int 0, .int 0, .int 0, .null, .int 0, .int 0, .int 0, .int 0])), (q1, .inl (G.2.1, 114, .inl (fun _ => 0))), (q2, .inl (G.2.1, 114, .inl (fun _ => 0))), (q3, .inl (G.2.1, 114, .inl (fun _ => 0))), (q4, .inl (G.2.1, 456, .inl (fun _ => 0))), (q5, .inl (G.2.1, 60, .inl (fun _ => 0)))]) rfl ?_
  refine w_aload_n (pc := 45) hX dX8_init_45 rfl rfl ?_
  refine w_bipush (pc := 46) hX dX8_init_46 bp_36 ?_
  refine w_newi (N := 36) (pc := 48) hX dX8_init_48 (List.mem_of_getElem? (i := 4) rfl) (by decide) (by decide) (Nat.le_of_ble_eq_true rfl) ⟨Nat.le_of_ble_eq_true rfl, Nat.le_of_ble_eq_true rfl⟩ (fun q6 => ?_)
  refine pF_X8_far hN (pc := 50) hX dX8_init_50 hX8 (List.mem_of_getElem? (i := 10) rfl) 0 rfl rfl ?_
  refine w_ws (ws' := [(q, .inr (8, [.ref q1, .ref q2, .ref q3, .int 0, .ref q4, .int 0, .ref q5, .int 0, .ref q6, .null, .null, .null, .int 0, .int 0, .null, .null, .int 0, .int 0, .int 0, .null, .int 0, .int 0, .int 0, .int 0])), (q1, .inl (G.2.1, 114, .inl (fun _ => 0))), (q2, .inl (G.2.1, 114, .inl (fun _ => 0))), (q3, .inl (G.2.1, 114, .inl (fun _ => 0))), (q4, .inl (G.2.1, 456, .inl (fun _ => 0))), (q5, .inl (G.2.1, 60, .inl (fun _ => 0))), (q6, .inl (G.2.1, 36, .inl (fun _ => 0)))]) rfl ?_
  refine w_aload_n (pc := 53) hX dX8_init_53 rfl rfl ?_
  refine w_bipush (pc := 54) hX dX8_init_54 bp_36 ?_
  refine w_newi (N := 36) (pc := 56) hX dX8_init_56 (List.mem_of_getElem? (i := 4) rfl) (by decide) (by decide) (Nat.le_of_ble_eq_true rfl) ⟨Nat.le_of_ble_eq_true rfl, Nat.le_of_ble_eq_true rfl⟩ (fun q7 => ?_)
  refine pF_X8_queue hN (pc := 58) hX dX8_init_58 hX8 (List.mem_of_getElem? (i := 11) rfl) 0 rfl rfl ?_
  refine w_ws (ws' := [(q, .inr (8, [.ref q1, .ref q2, .ref q3, .int 0, .ref q4, .int 0, .ref q5, .int 0, .ref q6, .ref q7, .null, .null, .int 0, .int 0, .null, .null, .int 0, .int 0, .int 0, .null, .int 0, .int 0, .int 0, .int 0])), (q1, .inl (G.2.1, 114, .inl (fun _ => 0))), (q2, .inl (G.2.1, 114, .inl (fun _ => 0))), (q3, .inl (G.2.1, 114, .inl (fun _ => 0))), (q4, .inl (G.2.1, 456, .inl (fun _ => 0))), (q5, .inl (G.2.1, 60, .inl (fun _ => 0))), (q6, .inl (G.2.1, 36, .inl (fun _ => 0))), (q7, .inl (G.2.1, 36, .inl (fun _ => 0)))]) rfl ?_
  refine w_aload_n (pc := 61) hX dX8_init_61 rfl rfl ?_
  refine w_bipush (pc := 62) hX dX8_init_62 bp_36 ?_
  refine w_newz (N := 36) (pc := 64) hX dX8_init_64 (List.mem_of_getElem? (i := 12) rfl) (by decide) (by decide) (Nat.le_of_ble_eq_true rfl) ⟨Nat.le_of_ble_eq_true rfl, Nat.le_of_ble_eq_true rfl⟩ (fun q8 => ?_)
  refine pF_X8_isOn hN (pc := 66) hX dX8_init_66 hX8 (List.mem_of_getElem? (i := 13) rfl) 0 rfl rfl ?_
  refine w_ws (ws' := [(q, .inr (8, [.ref q1, .ref q2, .ref q3, .int 0, .ref q4, .int 0, .ref q5, .int 0, .ref q6, .ref q7, .ref q8, .null, .int 0, .int 0, .null, .null, .int 0, .int 0, .int 0, .null, .int 0, .int 0, .int 0, .int 0])), (q1, .inl (G.2.1, 114, .inl (fun _ => 0))), (q2, .inl (G.2.1, 114, .inl (fun _ => 0))), (q3, .inl (G.2.1, 114, .inl (fun _ => 0))), (q4, .inl (G.2.1, 456, .inl (fun _ => 0))), (q5, .inl (G.2.1, 60, .inl (fun _ => 0))), (q6, .inl (G.2.1, 36, .inl (fun _ => 0))), (q7, .inl (G.2.1, 36, .inl (fun _ => 0))), (q8, .inl (G.2.2.1, 36, .inl (fun _ => 0)))]) rfl ?_
  refine w_aload_n (pc := 69) hX dX8_init_69 rfl rfl ?_
  refine w_bipush (pc := 70) hX dX8_init_70 bp_36 ?_
  refine w_newi (N := 36) (pc := 72) hX dX8_init_72 (List.mem_of_getElem? (i := 4) rfl) (by decide) (by decide) (Nat.le_of_ble_eq_true rfl) ⟨Nat.le_of_ble_eq_true rfl, Nat.le_of_ble_eq_true rfl⟩ (fun q9 => ?_)
  refine pF_X8_steps hN (pc := 74) hX dX8_init_74 hX8 (List.mem_of_getElem? (i := 14) rfl) 0 rfl rfl ?_
  refine w_ws (ws' := [(q, .inr (8, [.ref q1, .ref q2, .ref q3, .int 0, .ref q4, .int 0, .ref q5, .int 0, .ref q6, .ref q7, .ref q8, .ref q9, .int 0, .int 0, .null, .null, .int 0, .int 0, .int 0, .null, .int 0, .int 0, .int 0, .int 0])), (q1, .inl (G.2.1, 114, .inl (fun _ => 0))), (q2, .inl (G.2.1, 114, .inl (fun _ => 0))), (q3, .inl (G.2.1, 114, .inl (fun _ => 0))), (q4, .inl (G.2.1, 456, .inl (fun _ => 0))), (q5, .inl (G.2.1, 60, .inl (fun _ => 0))), (q6, .inl (G.2.1, 36, .inl (fun _ => 0))), (q7, .inl (G.2.1, 36, .inl (fun _ => 0))), (q8, .inl (G.2.2.1, 36, .inl (fun _ => 0))), (q9, .inl (G.2.1, 36, .inl (fun _ => 0)))]) rfl ?_
  refine w_aload_n (pc := 77) hX dX8_init_77 rfl rfl ?_
  refine w_bipush (pc := 78) hX dX8_init_78 bp_36 ?_
  refine w_newi (N := 36) (pc := 80) hX dX8_init_80 (List.mem_of_getElem? (i := 4) rfl) (by decide) (by decide) (Nat.le_of_ble_eq_true rfl) ⟨Nat.le_of_ble_eq_true rfl, Nat.le_of_ble_eq_true rfl⟩ (fun q10 => ?_)
  refine pF_X8_visits hN (pc := 82) hX dX8_init_82 hX8 (List.mem_of_getElem? (i := 15) rfl) 0 rfl rfl ?_
  refine w_ws (ws' := [(q, .inr (8, [.ref q1, .ref q2, .ref q3, .int 0, .ref q4, .int 0, .ref q5, .int 0, .ref q6, .ref q7, .ref q8, .ref q9, .int 0, .int 0, .ref q10, .null, .int 0, .int 0, .int 0, .null, .int 0, .int 0, .int 0, .int 0])), (q1, .inl (G.2.1, 114, .inl (fun _ => 0))), (q2, .inl (G.2.1, 114, .inl (fun _ => 0))), (q3, .inl (G.2.1, 114, .inl (fun _ => 0))), (q4, .inl (G.2.1, 456, .inl (fun _ => 0))), (q5, .inl (G.2.1, 60, .inl (fun _ => 0))), (q6, .inl (G.2.1, 36, .inl (fun _ => 0))), (q7, .inl (G.2.1, 36, .inl (fun _ => 0))), (q8, .inl (G.2.2.1, 36, .inl (fun _ => 0))), (q9, .inl (G.2.1, 36, .inl (fun _ => 0))), (q10, .inl (G.2.1, 36, .inl (fun _ => 0)))]) rfl ?_
  refine w_aload_n (pc := 85) hX dX8_init_85 rfl rfl ?_
  refine w_sipush (pc := 86) hX dX8_init_86 sp_144 ?_
  refine w_newz (N := 144) (pc := 89) hX dX8_init_89 (List.mem_of_getElem? (i := 12) rfl) (by decide) (by decide) (Nat.le_of_ble_eq_true rfl) ⟨Nat.le_of_ble_eq_true rfl, Nat.le_of_ble_eq_true rfl⟩ (fun q11 => ?_)
  refine pF_X8_wasSo hN (pc := 91) hX dX8_init_91 hX8 (List.mem_of_getElem? (i := 16) rfl) 0 rfl rfl ?_
  refine w_ws (ws' := [(q, .inr (8, [.ref q1, .ref q2, .ref q3, .int 0, .ref q4, .int 0, .ref q5, .int 0, .ref q6, .ref q7, .ref q8, .ref q9, .int 0, .int 0, .ref q10, .ref q11, .int 0, .int 0, .int 0, .null, .int 0, .int 0, .int 0, .int 0])), (q1, .inl (G.2.1, 114, .inl (fun _ => 0))), (q2, .inl (G.2.1, 114, .inl (fun _ => 0))), (q3, .inl (G.2.1, 114, .inl (fun _ => 0))), (q4, .inl (G.2.1, 456, .inl (fun _ => 0))), (q5, .inl (G.2.1, 60, .inl (fun _ => 0))), (q6, .inl (G.2.1, 36, .inl (fun _ => 0))), (q7, .inl (G.2.1, 36, .inl (fun _ => 0))), (q8, .inl (G.2.2.1, 36, .inl (fun _ => 0))), (q9, .inl (G.2.1, 36, .inl (fun _ => 0))), (q10, .inl (G.2.1, 36, .inl (fun _ => 0))), (q11, .inl (G.2.2.1, 144, .inl (fun _ => 0)))]) rfl ?_
  refine w_aload_n (pc := 94) hX dX8_init_94 rfl rfl ?_
  refine w_bipush (pc := 95) hX dX8_init_95 bp_36 ?_
  refine w_newz (N := 36) (pc := 97) hX dX8_init_97 (List.mem_of_getElem? (i := 12) rfl) (by decide) (by decide) (Nat.le_of_ble_eq_true rfl) ⟨Nat.le_of_ble_eq_true rfl, Nat.le_of_ble_eq_true rfl⟩ (fun q12 => ?_)
  refine pF_X8_isHere hN (pc := 99) hX dX8_init_99 hX8 (List.mem_of_getElem? (i := 17) rfl) 0 rfl rfl ?_
  refine w_ws (ws' := [(q, .inr (8, [.ref q1, .ref q2, .ref q3, .int 0, .ref q4, .int 0, .ref q5, .int 0, .ref q6, .ref q7, .ref q8, .ref q9, .int 0, .int 0, .ref q10, .ref q11, .int 0, .int 0, .int 0, .ref q12, .int 0, .int 0, .int 0, .int 0])), (q1, .inl (G.2.1, 114, .inl (fun _ => 0))), (q2, .inl (G.2.1, 114, .inl (fun _ => 0))), (q3, .inl (G.2.1, 114, .inl (fun _ => 0))), (q4, .inl (G.2.1, 456, .inl (fun _ => 0))), (q5, .inl (G.2.1, 60, .inl (fun _ => 0))), (q6, .inl (G.2.1, 36, .inl (fun _ => 0))), (q7, .inl (G.2.1, 36, .inl (fun _ => 0))), (q8, .inl (G.2.2.1, 36, .inl (fun _ => 0))), (q9, .inl (G.2.1, 36, .inl (fun _ => 0))), (q10, .inl (G.2.1, 36, .inl (fun _ => 0))), (q11, .inl (G.2.2.1, 144, .inl (fun _ => 0))), (q12, .inl (G.2.2.1, 36, .inl (fun _ => 0)))]) rfl ?_
  refine w_aload_n (pc := 102) hX dX8_init_102 rfl rfl ?_
  refine w_iconst (pc := 103) hX dX8_init_103 ic_4 ?_
  refine w_iconst (pc := 104) hX dX8_init_104 ic_4 ?_
  obtain ⟨a, ha⟩ : ∃ a : Nat → Nat, a = (fun i => match i with | 0 => q | 1 => q1 | 2 => q2 | 3 => q3 | 4 => q4 | 5 => q5 | 6 => q6 | 7 => q7 | 8 => q8 | 9 => q9 | 10 => q10 | 11 => q11 | _ => q12) := ⟨_, rfl⟩
  have e0 : q = a 0 := (congrFun ha 0).symm
  have e1 : q1 = a 1 := (congrFun ha 1).symm
  have e2 : q2 = a 2 := (congrFun ha 2).symm
  have e3 : q3 = a 3 := (congrFun ha 3).symm
  have e4 : q4 = a 4 := (congrFun ha 4).symm
  have e5 : q5 = a 5 := (congrFun ha 5).symm
  have e6 : q6 = a 6 := (congrFun ha 6).symm
  have e7 : q7 = a 7 := (congrFun ha 7).symm
  have e8 : q8 = a 8 := (congrFun ha 8).symm
  have e9 : q9 = a 9 := (congrFun ha 9).symm
  have e10 : q10 = a 10 := (congrFun ha 10).symm
  have e11 : q11 = a 11 := (congrFun ha 11).symm
  have e12 : q12 = a 12 := (congrFun ha 12).symm
  clear ha
  subst e0 e1 e2 e3 e4 e5 e6 e7 e8 e9 e10 e11 e12
  refine w_calldv (pc := 105) (ws' := wX8 G a o (fun _ => 0) (fun _ => 0) 0 (fun _ => 0) 0 (fun _ => 0) 0 (fun _ => 0) (fun _ => 0) (fun _ => 0) (fun _ => 0) 0 0 (fun _ => 0) (fun _ => 0) 0 0 0 (fun _ => 0) 0 0 0 0) (os := [some 0, some 1, some 2, some 3, some 4, some 5, some 6, some 7, some 8, some 9, some 10, some 11, some 12]) 13 hX [0, 1, 2, 3, 4, 5, 6, 7, 8, 9, 10, 11, 12] (runV (rest := []) hX [0, 1, 2, 3, 4, 5, 6, 7, 8, 9, 10, 11, 12] (ctX8_lightens G F a (fun _ => 0) (fun _ => 0) (fun _ => 0) 0 (fun _ => 0) 0 (fun _ => 0) 0 (fun _ => 0) (fun _ => 0) (fun _ => 0) (fun _ => 0) 0 0 (fun _ => 0) (fun _ => 0) 0 0 0 (fun _ => 0) 0 0 0 0 (4 : Int32) (4 : Int32) o hm) dX8_init_105 2 gX8_init_X8_lightens rfl hyX8_lightens ⟨Nat.le_of_ble_eq_true rfl, Nat.le_of_ble_eq_true rfl⟩ 0 rfl rfl rfl rfl (Nat.le_of_ble_eq_true rfl) ⟨Nat.le_of_ble_eq_true rfl, Nat.le_of_ble_eq_true rfl⟩ rfl (by decide +kernel)) rfl rfl rfl (by decide +kernel) rfl ⟨rfl, rfl⟩ ?_
  exact w_vret (pc := 108) hX hR dX8_init_108 ⟨rfl, a, rfl, rfl⟩

abbrev rmX2_init : Room := { frames := 3, cells := 21, slots := 332, locals := 65 }
theorem hyX2_init : yX2_init.cls = RX2 ∧ yX2_init.cls ≠ "java/lang/invoke/MethodHandle" ∧ yX2_init.cls ≠ "java/lang/invoke/VarHandle" ∧ (parseMethodDescriptor yX2_init.desc).map (fun d => d.parameters.length) = some 0 := ⟨rfl, by decide +kernel, by decide +kernel, by decide +kernel⟩
theorem lX2_init_X2 : ∀ w ∈ wsX20, w ∈ wsX2_init := in_at [35, 36] (by decide +kernel)
theorem lX2_init_X3 : ∀ w ∈ wsX30, w ∈ wsX2_init := in_at [37, 38, 39, 40, 41, 42] (by decide +kernel)
set_option maxHeartbeats 4000000 in
set_option maxRecDepth 100000 in
theorem ctX2_init (G : gT) (F : Nat) (q : Nat) (o : MZ) (hm : mX3_clear F (0, 0, (fun _ => 0), (fun _ => 0), (fun _ => 0), (fun _ => 0)) (4 : Int32) (4 : Int32) = some o) : CT G yX2_init wsX2_init rmX2_init [.ref q] [(q, .inr (2, [.int 0, .null]))] (fun v w => v = none ∧ ∃ a : Nat → Nat → Nat, a 3 0 = q ∧ w = wX2 G a (0, 0, fun _ => o)) := by
  refine CT_of (cc := cX2_init) (maxL := 2) (ret := none) 1 (by decide +kernel) rfl rfl (cat_ok rfl) (fun X hX hR hN => ?_)
  have hX : Ok G X cX2_init RX2 wsX2_init 2 rmX2_init := hX
  have hX2 : ∀ w ∈ wsX20, w ∈ wsX2_init := lX2_init_X2
  have hX3 : ∀ w ∈ wsX30, w ∈ wsX2_init := lX2_init_X3
  refine w_aload_n (pc := 0) hX dX2_init_0 rfl rfl ?_
  refine w_objInit (pc := 1) hX dX2_init_1 (List.mem_of_getElem? (i := 1) rfl) (List.mem_of_getElem? (i := 2) rfl) (List.mem_of_getElem? (i := 3) rfl) (Nat.le_of_ble_eq_true rfl) (Nat.le_of_ble_eq_true rfl) ?_
  refine w_aload_n (pc := 4) hX dX2_init_4 rfl rfl ?_
  refine w_iconst (pc := 5) hX dX2_init_5 ic_4 ?_
  refine w_newq (pc := 6) (N := 4) hX dX2_init_6 (List.mem_of_getElem? (i := 4) rfl) (by decide) (by decide) (Nat.le_of_ble_eq_true rfl) ⟨Nat.le_of_ble_eq_true rfl, Nat.le_of_ble_eq_true rfl⟩ (fun q1 => ?_)
  refine pF_X2_kept hN (pc := 9) hX dX2_init_9 hX2 (List.mem_of_getElem? (i := 5) rfl) 0 rfl rfl ?_
  refine w_iconst (pc := 12) hX dX2_init_12 ic_0 ?_
  refine w_istore_n (pc := 13) hX dX2_init_13 rfl (Nat.le_of_ble_eq_true rfl) ?_
  refine w_iload_n (pc := 14) hX dX2_init_14 rfl rfl ?_
  refine w_aload_n (pc := 15) hX dX2_init_15 rfl rfl ?_
  refine gf_X2_kept (pc := 16) hX dX2_init_16 hX2 (List.mem_of_getElem? (i := 5) rfl) 0 rfl rfl ?_
  refine w_qlen (pc := 19) hX dX2_init_19 1 rfl ?_
  refine w_icmp_geF (pc := 20) (tgt := 42) hX dX2_init_20 (by decide) (by decide) ?_
  refine w_aload_n (pc := 23) hX dX2_init_23 rfl rfl ?_
  refine gf_X2_kept (pc := 24) hX dX2_init_24 hX2 (List.mem_of_getElem? (i := 5) rfl) 0 rfl rfl ?_
  refine w_iload_n (pc := 27) hX dX2_init_27 rfl rfl ?_
  refine w_new (pc := 28) (fs := [.int 0, .int 0, .null, .null, .null, .null]) (C := RX3) (T := TX3) (N := 6) (ci := 3) hX dX2_init_28 hX3 tyX3 tyX3_ok (List.mem_of_getElem? (i := 4) rfl) (List.mem_of_getElem? (i := 6) rfl) (List.mem_of_getElem? (i := 7) rfl) rfl (fun j hj => by rcases (show j = 0 ∨ j = 1 ∨ j = 2 ∨ j = 3 ∨ j = 4 ∨ j = 5 by omega) with rfl | rfl | rfl | rfl | rfl | rfl <;> rfl) ⟨Nat.le_of_ble_eq_true rfl, Nat.le_of_ble_eq_true rfl⟩ (fun z0 => ?_)
  refine w_dup (pc := 31) hX dX2_init_31 rfl ?_
  refine w_callG (pc := 32) hX (runI (rest := [.ref z0, .int (0 : Int32), .ref q1]) hX [2] (ctX3_init G F z0 o hm) dX2_init_32 0 gX2_init_X3_init rfl ⟨(List.mem_of_getElem? (i := 7) rfl), (List.mem_of_getElem? (i := 9) rfl), (List.mem_of_getElem? (i := 10) rfl)⟩ rfl hyX3_init.2 ⟨Nat.le_of_ble_eq_true rfl, Nat.le_of_ble_eq_true rfl⟩ rfl rfl (Nat.le_of_ble_eq_true rfl) ⟨Nat.le_of_ble_eq_true rfl, Nat.le_of_ble_eq_true rfl⟩ rfl rfl) [2] rfl (fun v w1 hp => ?_)
  obtain ⟨rfl, a0, rfl, rfl⟩ := hp
  refine ⟨[(a0 0, .inr (3, [.int o.1, .int o.2.1, .ref (a0 1), .ref (a0 2), .ref (a0 3), .ref (a0 4)]))], [(a0 1, .inl (G.2.1, 36, .inl o.2.2.1)), (a0 2, .inl (G.2.1, 36, .inl o.2.2.2.1)), (a0 3, .inl (G.2.1, 2, .inl o.2.2.2.2.1)), (a0 4, .inl (G.2.1, 2, .inl o.2.2.2.2.2))], rfl, rfl, ?_⟩
  refine w_ws (ws' := [(q, .inr (2, [.int 0, .ref q1])), (q1, .inl (G.2.2.2, 4, .inr (.inr (.inr (.inr (fun _ => none))))))] ++ wX3 G a0 o) rfl ?_
  refine w_aast (pc := 35) hX dX2_init_35 1 2 rfl rfl (by decide) ?_
  refine w_iinc (pc := 36) hX dX2_init_36 rfl (Nat.le_of_ble_eq_true rfl) ic_1 ?_
  refine w_goto (pc := 39) (tgt := 14) hX dX2_init_39 (by decide) ?_
  refine w_iload_n (pc := 14) hX dX2_init_14 rfl rfl ?_
  refine w_aload_n (pc := 15) hX dX2_init_15 rfl rfl ?_
  refine gf_X2_kept (pc := 16) hX dX2_init_16 hX2 (List.mem_of_getElem? (i := 5) rfl) 0 rfl rfl ?_
  refine w_qlen (pc := 19) hX dX2_init_19 1 rfl ?_
  refine w_icmp_geF (pc := 20) (tgt := 42) hX dX2_init_20 (by decide) (by decide) ?_
  refine w_aload_n (pc := 23) hX dX2_init_23 rfl rfl ?_
  refine gf_X2_kept (pc := 24) hX dX2_init_24 hX2 (List.mem_of_getElem? (i := 5) rfl) 0 rfl rfl ?_
  refine w_iload_n (pc := 27) hX dX2_init_27 rfl rfl ?_
  refine w_new (pc := 28) (fs := [.int 0, .int 0, .null, .null, .null, .null]) (C := RX3) (T := TX3) (N := 6) (ci := 3) hX dX2_init_28 hX3 tyX3 tyX3_ok (List.mem_of_getElem? (i := 4) rfl) (List.mem_of_getElem? (i := 6) rfl) (List.mem_of_getElem? (i := 7) rfl) rfl (fun j hj => by rcases (show j = 0 ∨ j = 1 ∨ j = 2 ∨ j = 3 ∨ j = 4 ∨ j = 5 by omega) with rfl | rfl | rfl | rfl | rfl | rfl <;> rfl) ⟨Nat.le_of_ble_eq_true rfl, Nat.le_of_ble_eq_true rfl⟩ (fun z1 => ?_)
  refine w_dup (pc := 31) hX dX2_init_31 rfl ?_
  refine w_callG (pc := 32) hX (runI (rest := [.ref z1, .int ((0 : Int32) + (1 : Int32)), .ref q1]) hX [7] (ctX3_init G F z1 o hm) dX2_init_32 0 gX2_init_X3_init rfl ⟨(List.mem_of_getElem? (i := 7) rfl), (List.mem_of_getElem? (i := 9) rfl), (List.mem_of_getElem? (i := 10) rfl)⟩ rfl hyX3_init.2 ⟨Nat.le_of_ble_eq_true rfl, Nat.le_of_ble_eq_true rfl⟩ rfl rfl (Nat.le_of_ble_eq_true rfl) ⟨Nat.le_of_ble_eq_true rfl, Nat.le_of_ble_eq_true rfl⟩ rfl rfl) [7] rfl (fun v w1 hp => ?_)
  obtain ⟨rfl, a1, rfl, rfl⟩ := hp
  refine ⟨[(a1 0, .inr (3, [.int o.1, .int o.2.1, .ref (a1 1), .ref (a1 2), .ref (a1 3), .ref (a1 4)]))], [(a1 1, .inl (G.2.1, 36, .inl o.2.2.1)), (a1 2, .inl (G.2.1, 36, .inl o.2.2.2.1)), (a1 3, .inl (G.2.1, 2, .inl o.2.2.2.2.1)), (a1 4, .inl (G.2.1, 2, .inl o.2.2.2.2.2))], rfl, rfl, ?_⟩
  refine w_ws (ws' := [(q, .inr (2, [.int 0, .ref q1])), (q1, .inl (G.2.2.2, 4, .inr (.inr (.inr (.inr (va_up (fun _ => none) (0 : Int32).toNatClampNeg (some (a0 0))))))))] ++ wX3 G a0 o ++ wX3 G a1 o) rfl ?_
  refine w_aast (pc := 35) hX dX2_init_35 1 7 rfl rfl (by decide) ?_
  refine w_iinc (pc := 36) hX dX2_init_36 rfl (Nat.le_of_ble_eq_true rfl) ic_1 ?_
  refine w_goto (pc := 39) (tgt := 14) hX dX2_init_39 (by decide) ?_
  refine w_iload_n (pc := 14) hX dX2_init_14 rfl rfl ?_
  refine w_aload_n (pc := 15) hX dX2_init_15 rfl rfl ?_
  refine gf_X2_kept (pc := 16) hX dX2_init_16 hX2 (List.mem_of_getElem? (i := 5) rfl) 0 rfl rfl ?_
  refine w_qlen (pc := 19) hX dX2_init_19 1 rfl ?_
  refine w_icmp_geF (pc := 20) (tgt := 42) hX dX2_init_20 (by decide) (by decide) ?_
  refine w_aload_n (pc := 23) hX dX2_init_23 rfl rfl ?_
  refine gf_X2_kept (pc := 24) hX dX2_init_24 hX2 (List.mem_of_getElem? (i := 5) rfl) 0 rfl rfl ?_
  refine w_iload_n (pc := 27) hX dX2_init_27 rfl rfl ?_
  refine w_new (pc := 28) (fs := [.int 0, .int 0, .null, .null, .null, .null]) (C := RX3) (T := TX3) (N := 6) (ci := 3) hX dX2_init_28 hX3 tyX3 tyX3_ok (List.mem_of_getElem? (i := 4) rfl) (List.mem_of_getElem? (i := 6) rfl) (List.mem_of_getElem? (i := 7) rfl) rfl (fun j hj => by rcases (show j = 0 ∨ j = 1 ∨ j = 2 ∨ j = 3 ∨ j = 4 ∨ j = 5 by omega) with rfl | rfl | rfl | rfl | rfl | rfl <;> rfl) ⟨Nat.le_of_ble_eq_true rfl, Nat.le_of_ble_eq_true rfl⟩ (fun z2 => ?_)
  refine w_dup (pc := 31) hX dX2_init_31 rfl ?_
  refine w_callG (pc := 32) hX (runI (rest := [.ref z2, .int (((0 : Int32) + (1 : Int32)) + (1 : Int32)), .ref q1]) hX [12] (ctX3_init G F z2 o hm) dX2_init_32 0 gX2_init_X3_init rfl ⟨(List.mem_of_getElem? (i := 7) rfl), (List.mem_of_getElem? (i := 9) rfl), (List.mem_of_getElem? (i := 10) rfl)⟩ rfl hyX3_init.2 ⟨Nat.le_of_ble_eq_true rfl, Nat.le_of_ble_eq_true rfl⟩ rfl rfl (Nat.le_of_ble_eq_true rfl) ⟨Nat.le_of_ble_eq_true rfl, Nat.le_of_ble_eq_true rfl⟩ rfl rfl) [12] rfl (fun v w1 hp => ?_)
  obtain ⟨rfl, a2, rfl, rfl⟩ := hp
  refine ⟨[(a2 0, .inr (3, [.int o.1, .int o.2.1, .ref (a2 1), .ref (a2 2), .ref (a2 3), .ref (a2 4)]))], [(a2 1, .inl (G.2.1, 36, .inl o.2.2.1)), (a2 2, .inl (G.2.1, 36, .inl o.2.2.2.1)), (a2 3, .inl (G.2.1, 2, .inl o.2.2.2.2.1)), (a2 4, .inl (G.2.1, 2, .inl o.2.2.2.2.2))], rfl, rfl, ?_⟩
  refine w_ws (ws' := [(q, .inr (2, [.int 0, .ref q1])), (q1, .inl (G.2.2.2, 4, .inr (.inr (.inr (.inr (va_up (va_up (fun _ => none) (0 : Int32).toNatClampNeg (some (a0 0))) ((0 : Int32) + (1 : Int32)).toNatClampNeg (some (a1 0))))))))] ++ wX3 G a0 o ++ wX3 G a1 o ++ wX3 G a2 o) rfl ?_
  refine w_aast (pc := 35) hX dX2_init_35 1 12 rfl rfl (by decide) ?_
  refine w_iinc (pc := 36) hX dX2_init_36 rfl (Nat.le_of_ble_eq_true rfl) ic_1 ?_
  refine w_goto (pc := 39) (tgt := 14) hX dX2_init_39 (by decide) ?_
  refine w_iload_n (pc := 14) hX dX2_init_14 rfl rfl ?_
  refine w_aload_n (pc := 15) hX dX2_init_15 rfl rfl ?_
  refine gf_X2_kept (pc := 16) hX dX2_init_16 hX2 (List.mem_of_getElem? (i := 5) rfl) 0 rfl rfl ?_
  refine w_qlen (pc := 19) hX dX2_init_19 1 rfl ?_
  refine w_icmp_geF (pc := 20) (tgt := 42) hX dX2_init_20 (by decide) (by decide) ?_
  refine w_aload_n (pc := 23) hX dX2_init_23 rfl rfl ?_
  refine gf_X2_kept (pc := 24) hX dX2_init_24 hX2 (List.mem_of_getElem? (i := 5) rfl) 0 rfl rfl ?_
  refine w_iload_n (pc := 27) hX dX2_init_27 rfl rfl ?_
  refine w_new (pc := 28) (fs := [.int 0, .int 0, .null, .null, .null, .null]) (C := RX3) (T := TX3) (N := 6) (ci := 3) hX dX2_init_28 hX3 tyX3 tyX3_ok (List.mem_of_getElem? (i := 4) rfl) (List.mem_of_getElem? (i := 6) rfl) (List.mem_of_getElem? (i := 7) rfl) rfl (fun j hj => by rcases (show j = 0 ∨ j = 1 ∨ j = 2 ∨ j = 3 ∨ j = 4 ∨ j = 5 by omega) with rfl | rfl | rfl | rfl | rfl | rfl <;> rfl) ⟨Nat.le_of_ble_eq_true rfl, Nat.le_of_ble_eq_true rfl⟩ (fun z3 => ?_)
  refine w_dup (pc := 31) hX dX2_init_31 rfl ?_
  refine w_callG (pc := 32) hX (runI (rest := [.ref z3, .int ((((0 : Int32) + (1 : Int32)) + (1 : Int32)) + (1 : Int32)), .ref q1]) hX [17] (ctX3_init G F z3 o hm) dX2_init_32 0 gX2_init_X3_init rfl ⟨(List.mem_of_getElem? (i := 7) rfl), (List.mem_of_getElem? (i := 9) rfl), (List.mem_of_getElem? (i := 10) rfl)⟩ rfl hyX3_init.2 ⟨Nat.le_of_ble_eq_true rfl, Nat.le_of_ble_eq_true rfl⟩ rfl rfl (Nat.le_of_ble_eq_true rfl) ⟨Nat.le_of_ble_eq_true rfl, Nat.le_of_ble_eq_true rfl⟩ rfl rfl) [17] rfl (fun v w1 hp => ?_)
  obtain ⟨rfl, a3, rfl, rfl⟩ := hp
  refine ⟨[(a3 0, .inr (3, [.int o.1, .int o.2.1, .ref (a3 1), .ref (a3 2), .ref (a3 3), .ref (a3 4)]))], [(a3 1, .inl (G.2.1, 36, .inl o.2.2.1)), (a3 2, .inl (G.2.1, 36, .inl o.2.2.2.1)), (a3 3, .inl (G.2.1, 2, .inl o.2.2.2.2.1)), (a3 4, .inl (G.2.1, 2, .inl o.2.2.2.2.2))], rfl, rfl, ?_⟩
  refine w_ws (ws' := [(q, .inr (2, [.int 0, .ref q1])), (q1, .inl (G.2.2.2, 4, .inr (.inr (.inr (.inr (va_up (va_up (va_up (fun _ => none) (0 : Int32).toNatClampNeg (some (a0 0))) ((0 : Int32) + (1 : Int32)).toNatClampNeg (some (a1 0))) (((0 : Int32) + (1 : Int32)) + (1 : Int32)).toNatClampNeg (some (a2 0))))))))] ++ wX3 G a0 o ++ wX3 G a1 o ++ wX3 G a2 o ++ wX3 G a3 o) rfl ?_
  refine w_aast (pc := 35) hX dX2_init_35 1 17 rfl rfl (by decide) ?_
  refine w_iinc (pc := 36) hX dX2_init_36 rfl (Nat.le_of_ble_eq_true rfl) ic_1 ?_
  refine w_goto (pc := 39) (tgt := 14) hX dX2_init_39 (by decide) ?_
  refine w_iload_n (pc := 14) hX dX2_init_14 rfl rfl ?_
  refine w_aload_n (pc := 15) hX dX2_init_15 rfl rfl ?_
  refine gf_X2_kept (pc := 16) hX dX2_init_16 hX2 (List.mem_of_getElem? (i := 5) rfl) 0 rfl rfl ?_
  refine w_qlen (pc := 19) hX dX2_init_19 1 rfl ?_
  refine w_icmp_geT (pc := 20) (tgt := 42) hX dX2_init_20 (by decide) (by decide) ?_
  refine w_aload_n (pc := 42) hX dX2_init_42 rfl rfl ?_
  refine w_iconst (pc := 43) hX dX2_init_43 ic_0 ?_
  refine pf_X2_states (pc := 44) hX dX2_init_44 hX2 (List.mem_of_getElem? (i := 8) rfl) 0 rfl rfl ?_
  obtain ⟨a, ha⟩ : ∃ a : Nat → Nat → Nat, a = (fun n i => if n = 3 then (if i = 0 then q else q1) else if n = 11 then a0 i else if n = 12 then a1 i else if n = 13 then a2 i else a3 i) := ⟨_, rfl⟩
  have g0 : q = a 3 0 := by rw [ha]; rfl
  have g1 : q1 = a 3 1 := by rw [ha]; rfl
  have b0 : a0 = a 11 := by rw [ha]; rfl
  have b1 : a1 = a 12 := by rw [ha]; rfl
  have b2 : a2 = a 13 := by rw [ha]; rfl
  have b3 : a3 = a 14 := by rw [ha]; rfl
  clear ha
  subst g0 g1 b0 b1 b2 b3
  refine w_qq (g := qH a 0) 1 rfl (fun j hj => ?_) ?_
  · have i0 : (0 : Int32).toNatClampNeg = 0 := by decide
    have i1 : ((0 : Int32) + 1).toNatClampNeg = 1 := by decide
    have i2 : ((0 : Int32) + 1 + 1).toNatClampNeg = 2 := by decide
    have i3 : ((0 : Int32) + 1 + 1 + 1).toNatClampNeg = 3 := by decide
    rcases (show j = 0 ∨ j = 1 ∨ j = 2 ∨ j = 3 by omega) with rfl | rfl | rfl | rfl <;> simp only [va_up, qH, i0, i1, i2, i3] <;> rfl
  exact w_vret (pc := 47) hX hR dX2_init_47 ⟨rfl, a, rfl, rfl⟩
