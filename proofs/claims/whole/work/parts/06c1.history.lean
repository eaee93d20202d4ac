/-! HISTORY: rows of arrays of references, then the five methods, case by case -/
section HROWS
variable {G : gT} {X : xT} {k n : Nat} {ws : va_W} {lv : List (Option Value)} {pc : Nat} {st : List Value} {cc : ByteArray} {own : String} {Ts : List Cond} {nL : Nat} {rm : Room}
theorem w_aald {a N : Nat} {f : nQ} {i : Int32} {v : Value} (hX : Ok G X cc own Ts nL rm) (hd : decode cc pc = .ok (.aaload, 1)) (q : Nat) (he : ws[q]? = some (a, .inl (G.2.2.2, N, .inr (.inr (.inr (.inr f)))))) (hi : inb i N = true) (hv : va_rf (f i.toNatClampNeg) = v) (kk : WW G X k n ws lv (pc + 1) (v :: st)) : WW G X k n ws lv pc (.int i :: .ref a :: st) := by
  obtain ⟨p, l, e, R, s, m, args, below, meth, c, H0, A, Q, nL'⟩ := X
  subst hv
  exact fun H locs ls hP hD hS hl => va_aldq hX.1 hX.2.1 hX.2.2.2.2.2.2.1.1 hP q 2 he rfl (inb_in hi) hd (kk H locs ls hP hD hS hl)
theorem w_aast {a N v : Nat} {f : nQ} {i : Int32} {vs : List Value} (hX : Ok G X cc own Ts nL rm) (hd : decode cc pc = .ok (.aastore, 1)) (q qk : Nat) (he : ws[q]? = some (a, .inl (G.2.2.2, N, .inr (.inr (.inr (.inr f)))))) (hv : ws[qk]? = some (v, .inr (3, vs))) (hi : inb i N = true) (kk : WW G X k n (ws.set q (a, .inl (G.2.2.2, N, .inr (.inr (.inr (.inr (va_up f i.toNatClampNeg (some v)))))))) lv (pc + 1) st) : WW G X k n ws lv pc (.ref v :: .int i :: .ref a :: st) := by
  obtain ⟨p, l, e, R, s, m, args, below, meth, c, H0, A, Q, nL'⟩ := X
  exact fun H locs ls hP hD hS hl => va_astq (r := (RX3, TX3, 6)) hX.1 hX.2.1 hX.2.2.2.2.2.2.1.1 hP hD hS q 2 qk 3 he rfl hv rfl (inb_in hi) hd (fun H1 locs1 hP1 hD1 hS1 => kk H1 locs1 ls hP1 hD1 hS1 hl)
/-- an array of references matters in its range alone -/
theorem w_qq {a N : Nat} {f g : nQ} (q : Nat) (he : ws[q]? = some (a, .inl (G.2.2.2, N, .inr (.inr (.inr (.inr f)))))) (h : ∀ j, j < N → f j = g j) (kk : WW G X k n (ws.set q (a, .inl (G.2.2.2, N, .inr (.inr (.inr (.inr g)))))) lv pc st) : WW G X k n ws lv pc st := by
  obtain ⟨p, l, e, R, s, m, args, below, meth, c, H0, A, Q, nL'⟩ := X
  have hcell : vp_cell G.2.2.2 (N, .inr (.inr (.inr (.inr f)))) = vp_cell G.2.2.2 (N, .inr (.inr (.inr (.inr g)))) := by
    rw [vp_cell_q, vp_cell_q]
    unfold arrV
    congr 2
    funext j
    show va_rf (f j.val) = va_rf (g j.val)
    rw [h j.val j.isLt]
  intro H locs ls hP hD hS hl
  refine kk H locs ls (hP.set hD he ?_ (fun _ _ => rfl)) (hD.set he) hS hl
  have h1 : H[a]? = some (vp_cell G.2.2.2 (N, .inr (.inr (.inr (.inr f))))) := hP q _ he
  show H[a]? = some (vp_cell G.2.2.2 (N, .inr (.inr (.inr (.inr g)))))
  rw [h1, hcell]
theorem w_icmp_geF {x y : Int32} {off : Int} {tgt : Nat} (hX : Ok G X cc own Ts nL rm) (hd : decode cc pc = .ok (.if_icmp .ge off, 3)) (ht : (pc : Int) + off = (tgt : Int)) (h : ¬ y ≤ x) (kk : WW G X k n ws lv (pc + 3) st) : WW G X k n ws lv pc (.int y :: .int x :: st) := w_icmp_ge (inst := Classical.propDecidable _) (B := none) (C := some ()) (o := ()) hX hd ht (if_neg h) (fun q => by cases q) (fun _ => kk)
theorem w_icmp_geT {x y : Int32} {off : Int} {tgt : Nat} (hX : Ok G X cc own Ts nL rm) (hd : decode cc pc = .ok (.if_icmp .ge off, 3)) (ht : (pc : Int) + off = (tgt : Int)) (h : y ≤ x) (kk : WW G X k n ws lv tgt st) : WW G X k n ws lv pc (.int y :: .int x :: st) := w_icmp_ge (inst := Classical.propDecidable _) (B := some ()) (C := none) (o := ()) hX hd ht (if_pos h) (fun _ => kk) (fun q => by cases q)
theorem w_icmp_ltF {x y : Int32} {off : Int} {tgt : Nat} (hX : Ok G X cc own Ts nL rm) (hd : decode cc pc = .ok (.if_icmp .lt off, 3)) (ht : (pc : Int) + off = (tgt : Int)) (h : ¬ x < y) (kk : WW G X k n ws lv (pc + 3) st) : WW G X k n ws lv pc (.int y :: .int x :: st) := w_icmp_lt (inst := Classical.propDecidable _) (B := none) (C := some ()) (o := ()) hX hd ht (if_neg h) (fun q => by cases q) (fun _ => kk)
theorem w_icmp_ltT {x y : Int32} {off : Int} {tgt : Nat} (hX : Ok G X cc own Ts nL rm) (hd : decode cc pc = .ok (.if_icmp .lt off, 3)) (ht : (pc : Int) + off = (tgt : Int)) (h : x < y) (kk : WW G X k n ws lv tgt st) : WW G X k n ws lv pc (.int y :: .int x :: st) := w_icmp_lt (inst := Classical.propDecidable _) (B := some ()) (C := none) (o := ()) hX hd ht (if_pos h) (fun _ => kk) (fun q => by cases q)
theorem w_if_ltF {x : Int32} {off : Int} {tgt : Nat} (hX : Ok G X cc own Ts nL rm) (hd : decode cc pc = .ok (.ifCond .lt off, 3)) (ht : (pc : Int) + off = (tgt : Int)) (h : ¬ x < 0) (kk : WW G X k n ws lv (pc + 3) st) : WW G X k n ws lv pc (.int x :: st) := w_if_lt (inst := Classical.propDecidable _) (B := none) (C := some ()) (o := ()) hX hd ht (if_neg h) (fun q => by cases q) (fun _ => kk)
theorem w_if_ltT {x : Int32} {off : Int} {tgt : Nat} (hX : Ok G X cc own Ts nL rm) (hd : decode cc pc = .ok (.ifCond .lt off, 3)) (ht : (pc : Int) + off = (tgt : Int)) (h : x < 0) (kk : WW G X k n ws lv tgt st) : WW G X k n ws lv pc (.int x :: st) := w_if_lt (inst := Classical.propDecidable _) (B := some ()) (C := none) (o := ()) hX hd ht (if_pos h) (fun _ => kk) (fun q => by cases q)
theorem w_zretT {v : Int32} {P : Option Value → va_W → Prop} {mc ms : Nat} (hX : Ok G X cc own Ts nL rm) (hR : Rt G X (some .boolean) P mc ms) (hd : decode cc pc = .ok (.ireturn, 1)) (hz : zb v = true) (hp : P (some (.int v)) ws) : WW G X mc ms ws lv pc [.int v] := w_zret (K := some ()) (o := ()) hX hR hd (by rw [hz]; rfl) (fun _ => hp)
/-- the call of stateAt, whose answer is a reference or null -/
theorem w_callpo {wc : va_W} {st0 rest : List Value} {rm' : Room} {v : Value} (hX : Ok G X cc own Ts nL rm) (isC : List Nat) (hr : Runs G X k n ws lv pc st0 rest rm' wc (fun r w => r = some v ∧ w = wc)) (hC : isC.map (fun i => ws[i]?) = wc.map some) (h0 : rm'.cells = 0 ∧ rm'.slots = 0)
    (kk : WW G X k n ws lv (pc + 3) (v :: rest)) : WW G X k n ws lv pc st0 := w_callp hX isC hr hC h0 kk
end HROWS
abbrev qH (a : Nat → Nat → Nat) (rot : Nat) : nQ := fun i => some (a (11 + (i + rot) % 4) 0)
abbrev wq2 (G : gT) (a : Nat → Nat → Nat) (s : Int32) (rot : Nat) : va_W := [(a 3 0, .inr (2, [.int s, .ref (a 3 1)])), (a 3 1, .inl (G.2.2.2, 4, .inr (.inr (.inr (.inr (qH a rot))))))]
theorem lX2_stateAt_X2 : ∀ w ∈ wsX20, w ∈ wsX2_stateAt := in_at [2, 3] (by decide +kernel)
theorem lX2_dropOldest_X2 : ∀ w ∈ wsX20, w ∈ wsX2_dropOldest := in_at [8, 9] (by decide +kernel)
theorem lX2_push_X2 : ∀ w ∈ wsX20, w ∈ wsX2_push := in_at [26, 27] (by decide +kernel)
theorem lX2_pop_X2 : ∀ w ∈ wsX20, w ∈ wsX2_pop := in_at [22, 23] (by decide +kernel)
set_option maxHeartbeats 4000000 in
set_option maxRecDepth 100000 in
theorem ctX2_stateAt_0 (G : gT) (a : Nat → Nat → Nat) (s : Int32) (rot d : Nat) (hd : (0 + rot) % 4 = d) : CT G yX2_stateAt wsX2_stateAt rmX2_stateAt [.ref (a 3 0), .int (0 : Int32)] (wq2 G a s rot) (fun v w => v = some (.ref (a (11 + d) 0)) ∧ w = wq2 G a s rot) := by
  refine CT_of (cc := cX2_stateAt) (maxL := 2) (ret := (some (.object "PortraitMazes$Maze"))) 0 (by decide +kernel) rfl rfl (cat_ok rfl) (fun X hX hR hN => ?_)
  have hX : Ok G X cX2_stateAt RX2 wsX2_stateAt 2 rmX2_stateAt := hX
  have hX2 : ∀ w ∈ wsX20, w ∈ wsX2_stateAt := lX2_stateAt_X2
  refine w_iload_n (pc := 0) hX dX2_stateAt_0 rfl rfl ?_
  refine w_if_ltF (pc := 1) (tgt := 22) hX dX2_stateAt_1 (by decide) (by decide) ?_
  refine w_iload_n (pc := 4) hX dX2_stateAt_4 rfl rfl ?_
  refine w_aload_n (pc := 5) hX dX2_stateAt_5 rfl rfl ?_
  refine gf_X2_kept (pc := 6) hX dX2_stateAt_6 hX2 (List.mem_of_getElem? (i := 1) rfl) 0 rfl rfl ?_
  refine w_qlen (pc := 9) hX dX2_stateAt_9 1 rfl ?_
  refine w_icmp_geF (pc := 10) (tgt := 22) hX dX2_stateAt_10 (by decide) (by decide) ?_
  refine w_aload_n (pc := 13) hX dX2_stateAt_13 rfl rfl ?_
  refine gf_X2_kept (pc := 14) hX dX2_stateAt_14 hX2 (List.mem_of_getElem? (i := 1) rfl) 0 rfl rfl ?_
  refine w_iload_n (pc := 17) hX dX2_stateAt_17 rfl rfl ?_
  refine w_aald (pc := 18) (v := .ref (a (11 + d) 0)) hX dX2_stateAt_18 1 rfl (by decide) (by rw [show (0 : Int32).toNatClampNeg = 0 from by decide]; show va_rf (some (a (11 + (0 + rot) % 4) 0)) = _; rw [hd]; rfl) ?_
  refine w_goto (pc := 19) (tgt := 23) hX dX2_stateAt_19 (by decide) ?_
  exact w_aret (pc := 23) hX hR (Or.inr ⟨_, rfl⟩) dX2_stateAt_23 ⟨rfl, rfl⟩
set_option maxHeartbeats 4000000 in
set_option maxRecDepth 100000 in
theorem ctX2_stateAt_1 (G : gT) (a : Nat → Nat → Nat) (s : Int32) (rot d : Nat) (hd : (1 + rot) % 4 = d) : CT G yX2_stateAt wsX2_stateAt rmX2_stateAt [.ref (a 3 0), .int (1 : Int32)] (wq2 G a s rot) (fun v w => v = some (.ref (a (11 + d) 0)) ∧ w = wq2 G a s rot) := by
  refine CT_of (cc := cX2_stateAt) (maxL := 2) (ret := (some (.object "PortraitMazes$Maze"))) 0 (by decide +kernel) rfl rfl (cat_ok rfl) (fun X hX hR hN => ?_)
  have hX : Ok G X cX2_stateAt RX2 wsX2_stateAt 2 rmX2_stateAt := hX
  have hX2 : ∀ w ∈ wsX20, w ∈ wsX2_stateAt := lX2_stateAt_X2
  refine w_iload_n (pc := 0) hX dX2_stateAt_0 rfl rfl ?_
  refine w_if_ltF (pc := 1) (tgt := 22) hX dX2_stateAt_1 (by decide) (by decide) ?_
  refine w_iload_n (pc := 4) hX dX2_stateAt_4 rfl rfl ?_
  refine w_aload_n (pc := 5) hX dX2_stateAt_5 rfl rfl ?_
  refine gf_X2_kept (pc := 6) hX dX2_stateAt_6 hX2 (List.mem_of_getElem? (i := 1) rfl) 0 rfl rfl ?_
  refine w_qlen (pc := 9) hX dX2_stateAt_9 1 rfl ?_
  refine w_icmp_geF (pc := 10) (tgt := 22) hX dX2_stateAt_10 (by decide) (by decide) ?_
  refine w_aload_n (pc := 13) hX dX2_stateAt_13 rfl rfl ?_
  refine gf_X2_kept (pc := 14) hX dX2_stateAt_14 hX2 (List.mem_of_getElem? (i := 1) rfl) 0 rfl rfl ?_
  refine w_iload_n (pc := 17) hX dX2_stateAt_17 rfl rfl ?_
  refine w_aald (pc := 18) (v := .ref (a (11 + d) 0)) hX dX2_stateAt_18 1 rfl (by decide) (by rw [show (1 : Int32).toNatClampNeg = 1 from by decide]; show va_rf (some (a (11 + (1 + rot) % 4) 0)) = _; rw [hd]; rfl) ?_
  refine w_goto (pc := 19) (tgt := 23) hX dX2_stateAt_19 (by decide) ?_
  exact w_aret (pc := 23) hX hR (Or.inr ⟨_, rfl⟩) dX2_stateAt_23 ⟨rfl, rfl⟩
set_option maxHeartbeats 4000000 in
set_option maxRecDepth 100000 in
theorem ctX2_stateAt_2 (G : gT) (a : Nat → Nat → Nat) (s : Int32) (rot d : Nat) (hd : (2 + rot) % 4 = d) : CT G yX2_stateAt wsX2_stateAt rmX2_stateAt [.ref (a 3 0), .int (2 : Int32)] (wq2 G a s rot) (fun v w => v = some (.ref (a (11 + d) 0)) ∧ w = wq2 G a s rot) := by
  refine CT_of (cc := cX2_stateAt) (maxL := 2) (ret := (some (.object "PortraitMazes$Maze"))) 0 (by decide +kernel) rfl rfl (cat_ok rfl) (fun X hX hR hN => ?_)
  have hX : Ok G X cX2_stateAt RX2 wsX2_stateAt 2 rmX2_stateAt := hX
  have hX2 : ∀ w ∈ wsX20, w ∈ wsX2_stateAt := lX2_stateAt_X2
  refine w_iload_n (pc := 0) hX dX2_stateAt_0 rfl rfl ?_
  refine w_if_ltF (pc := 1) (tgt := 22) hX dX2_stateAt_1 (by decide) (by decide) ?_
  refine w_iload_n (pc := 4) hX dX2_stateAt_4 rfl rfl ?_
  refine w_aload_n (pc := 5) hX dX2_stateAt_5 rfl rfl ?_
  refine gf_X2_kept (pc := 6) hX dX2_stateAt_6 hX2 (List.mem_of_getElem? (i := 1) rfl) 0 rfl rfl ?_
  refine w_qlen (pc := 9) hX dX2_stateAt_9 1 rfl ?_
  refine w_icmp_geF (pc := 10) (tgt := 22) hX dX2_stateAt_10 (by decide) (by decide) ?_
  refine w_aload_n (pc := 13) hX dX2_stateAt_13 rfl rfl ?_
  refine gf_X2_kept (pc := 14) hX dX2_stateAt_14 hX2 (List.mem_of_getElem? (i := 1) rfl) 0 rfl rfl ?_
  refine w_iload_n (pc := 17) hX dX2_stateAt_17 rfl rfl ?_
  refine w_aald (pc := 18) (v := .ref (a (11 + d) 0)) hX dX2_stateAt_18 1 rfl (by decide) (by rw [show (2 : Int32).toNatClampNeg = 2 from by decide]; show va_rf (some (a (11 + (2 + rot) % 4) 0)) = _; rw [hd]; rfl) ?_
  refine w_goto (pc := 19) (tgt := 23) hX dX2_stateAt_19 (by decide) ?_
  exact w_aret (pc := 23) hX hR (Or.inr ⟨_, rfl⟩) dX2_stateAt_23 ⟨rfl, rfl⟩
set_option maxHeartbeats 4000000 in
set_option maxRecDepth 100000 in
theorem ctX2_stateAt_3 (G : gT) (a : Nat → Nat → Nat) (s : Int32) (rot d : Nat) (hd : (3 + rot) % 4 = d) : CT G yX2_stateAt wsX2_stateAt rmX2_stateAt [.ref (a 3 0), .int (3 : Int32)] (wq2 G a s rot) (fun v w => v = some (.ref (a (11 + d) 0)) ∧ w = wq2 G a s rot) := by
  refine CT_of (cc := cX2_stateAt) (maxL := 2) (ret := (some (.object "PortraitMazes$Maze"))) 0 (by decide +kernel) rfl rfl (cat_ok rfl) (fun X hX hR hN => ?_)
  have hX : Ok G X cX2_stateAt RX2 wsX2_stateAt 2 rmX2_stateAt := hX
  have hX2 : ∀ w ∈ wsX20, w ∈ wsX2_stateAt := lX2_stateAt_X2
  refine w_iload_n (pc := 0) hX dX2_stateAt_0 rfl rfl ?_
  refine w_if_ltF (pc := 1) (tgt := 22) hX dX2_stateAt_1 (by decide) (by decide) ?_
  refine w_iload_n (pc := 4) hX dX2_stateAt_4 rfl rfl ?_
  refine w_aload_n (pc := 5) hX dX2_stateAt_5 rfl rfl ?_
  refine gf_X2_kept (pc := 6) hX dX2_stateAt_6 hX2 (List.mem_of_getElem? (i := 1) rfl) 0 rfl rfl ?_
  refine w_qlen (pc := 9) hX dX2_stateAt_9 1 rfl ?_
  refine w_icmp_geF (pc := 10) (tgt := 22) hX dX2_stateAt_10 (by decide) (by decide) ?_
  refine w_aload_n (pc := 13) hX dX2_stateAt_13 rfl rfl ?_
  refine gf_X2_kept (pc := 14) hX dX2_stateAt_14 hX2 (List.mem_of_getElem? (i := 1) rfl) 0 rfl rfl ?_
  refine w_iload_n (pc := 17) hX dX2_stateAt_17 rfl rfl ?_
  refine w_aald (pc := 18) (v := .ref (a (11 + d) 0)) hX dX2_stateAt_18 1 rfl (by decide) (by rw [show (3 : Int32).toNatClampNeg = 3 from by decide]; show va_rf (some (a (11 + (3 + rot) % 4) 0)) = _; rw [hd]; rfl) ?_
  refine w_goto (pc := 19) (tgt := 23) hX dX2_stateAt_19 (by decide) ?_
  exact w_aret (pc := 23) hX hR (Or.inr ⟨_, rfl⟩) dX2_stateAt_23 ⟨rfl, rfl⟩
set_option maxHeartbeats 4000000 in
set_option maxRecDepth 100000 in
theorem ctX2_stateAt_m1 (G : gT) (a : Nat → Nat → Nat) (s : Int32) (rot : Nat) : CT G yX2_stateAt wsX2_stateAt rmX2_stateAt [.ref (a 3 0), .int (-1 : Int32)] (wq2 G a s rot) (fun v w => v = some .null ∧ w = wq2 G a s rot) := by
  refine CT_of (cc := cX2_stateAt) (maxL := 2) (ret := (some (.object "PortraitMazes$Maze"))) 0 (by decide +kernel) rfl rfl (cat_ok rfl) (fun X hX hR hN => ?_)
  have hX : Ok G X cX2_stateAt RX2 wsX2_stateAt 2 rmX2_stateAt := hX
  have hX2 : ∀ w ∈ wsX20, w ∈ wsX2_stateAt := lX2_stateAt_X2
  refine w_iload_n (pc := 0) hX dX2_stateAt_0 rfl rfl ?_
  refine w_if_ltT (pc := 1) (tgt := 22) hX dX2_stateAt_1 (by decide) (by decide) ?_
  refine w_null (pc := 22) hX dX2_stateAt_22 ?_
  exact w_aret (pc := 23) hX hR (Or.inl rfl) dX2_stateAt_23 ⟨rfl, rfl⟩
set_option maxHeartbeats 4000000 in
set_option maxRecDepth 100000 in
theorem ctX2_dropOldest_0 (G : gT) (a : Nat → Nat → Nat) (h : HS) (hr : h.2.1 % 4 = 0) (s' : Int32) (hs : h.1 - 1 = s') : CT G yX2_dropOldest wsX2_dropOldest rmX2_dropOldest [.ref (a 3 0)] (wX2 G a h) (fun v w => v = none ∧ w = wX2 G a (s', h.2.1 + 1, h.2.2)) := by
  subst hs
  refine CT_of (cc := cX2_dropOldest) (maxL := 3) (ret := none) 2 (by decide +kernel) rfl rfl (cat_ok rfl) (fun X hX hR hN => ?_)
  have hX : Ok G X cX2_dropOldest RX2 wsX2_dropOldest 3 rmX2_dropOldest := hX
  have hX2 : ∀ w ∈ wsX20, w ∈ wsX2_dropOldest := lX2_dropOldest_X2
  have e0 : (0 + h.2.1) % 4 = 0 := by omega
  have e1 : (1 + h.2.1) % 4 = 1 := by omega
  have e2 : (2 + h.2.1) % 4 = 2 := by omega
  have e3 : (3 + h.2.1) % 4 = 3 := by omega
  refine w_aload_n (pc := 0) hX dX2_dropOldest_0 rfl rfl ?_
  refine w_iconst (pc := 1) hX dX2_dropOldest_1 ic_0 ?_
  refine w_callpo (pc := 2) hX [0, 1] (runV (rest := []) hX [0, 1] (ctX2_stateAt_0 G a h.1 h.2.1 0 e0) dX2_dropOldest_2 1 gX2_dropOldest_X2_stateAt rfl hyX2_stateAt ⟨Nat.le_of_ble_eq_true rfl, Nat.le_of_ble_eq_true rfl⟩ 0 rfl rfl rfl rfl (Nat.le_of_ble_eq_true rfl) ⟨Nat.le_of_ble_eq_true rfl, Nat.le_of_ble_eq_true rfl⟩ rfl (by decide +kernel)) rfl ⟨rfl, rfl⟩ ?_
  refine w_astore_n (pc := 5) hX dX2_dropOldest_5 rfl (Nat.le_of_ble_eq_true rfl) ?_
  refine w_iconst (pc := 6) hX dX2_dropOldest_6 ic_0 ?_
  refine w_istore_n (pc := 7) hX dX2_dropOldest_7 rfl (Nat.le_of_ble_eq_true rfl) ?_
  refine w_iload_n (pc := 8) hX dX2_dropOldest_8 rfl rfl ?_
  refine w_aload_n (pc := 9) hX dX2_dropOldest_9 rfl rfl ?_
  refine gf_X2_kept (pc := 10) hX dX2_dropOldest_10 hX2 (List.mem_of_getElem? (i := 1) rfl) 0 rfl rfl ?_
  refine w_qlen (pc := 13) hX dX2_dropOldest_13 1 rfl ?_
  refine w_icmp_geF (pc := 14) (tgt := 52) hX dX2_dropOldest_14 (by decide) (by decide) ?_
  refine w_aload_n (pc := 17) hX dX2_dropOldest_17 rfl rfl ?_
  refine gf_X2_kept (pc := 18) hX dX2_dropOldest_18 hX2 (List.mem_of_getElem? (i := 1) rfl) 0 rfl rfl ?_
  refine w_iload_n (pc := 21) hX dX2_dropOldest_21 rfl rfl ?_
  refine w_iload_n (pc := 22) hX dX2_dropOldest_22 rfl rfl ?_
  refine w_iconst (pc := 23) hX dX2_dropOldest_23 ic_1 ?_
  refine w_iadd (pc := 24) hX dX2_dropOldest_24 ?_
  refine w_aload_n (pc := 25) hX dX2_dropOldest_25 rfl rfl ?_
  refine gf_X2_kept (pc := 26) hX dX2_dropOldest_26 hX2 (List.mem_of_getElem? (i := 1) rfl) 0 rfl rfl ?_
  refine w_qlen (pc := 29) hX dX2_dropOldest_29 1 rfl ?_
  refine w_icmp_geF (pc := 30) (tgt := 44) hX dX2_dropOldest_30 (by decide) (by decide) ?_
  refine w_aload_n (pc := 33) hX dX2_dropOldest_33 rfl rfl ?_
  refine gf_X2_kept (pc := 34) hX dX2_dropOldest_34 hX2 (List.mem_of_getElem? (i := 1) rfl) 0 rfl rfl ?_
  refine w_iload_n (pc := 37) hX dX2_dropOldest_37 rfl rfl ?_
  refine w_iconst (pc := 38) hX dX2_dropOldest_38 ic_1 ?_
  refine w_iadd (pc := 39) hX dX2_dropOldest_39 ?_
  refine w_aald (pc := 40) (v := .ref (a 12 0)) hX dX2_dropOldest_40 1 rfl (by decide) (by rw [show ((0 : Int32) + (1 : Int32)).toNatClampNeg = 1 from by decide]; show va_rf (some (a (11 + (1 + h.2.1) % 4) 0)) = _; rw [e1]; rfl) ?_
  refine w_goto (pc := 41) (tgt := 45) hX dX2_dropOldest_41 (by decide) ?_
  refine w_aast (pc := 45) hX dX2_dropOldest_45 1 7 rfl rfl (by decide) ?_
  refine w_iinc (pc := 46) hX dX2_dropOldest_46 rfl (Nat.le_of_ble_eq_true rfl) ic_1 ?_
  refine w_goto (pc := 49) (tgt := 8) hX dX2_dropOldest_49 (by decide) ?_
  refine w_iload_n (pc := 8) hX dX2_dropOldest_8 rfl rfl ?_
  refine w_aload_n (pc := 9) hX dX2_dropOldest_9 rfl rfl ?_
  refine gf_X2_kept (pc := 10) hX dX2_dropOldest_10 hX2 (List.mem_of_getElem? (i := 1) rfl) 0 rfl rfl ?_
  refine w_qlen (pc := 13) hX dX2_dropOldest_13 1 rfl ?_
  refine w_icmp_geF (pc := 14) (tgt := 52) hX dX2_dropOldest_14 (by decide) (by decide) ?_
  refine w_aload_n (pc := 17) hX dX2_dropOldest_17 rfl rfl ?_
  refine gf_X2_kept (pc := 18) hX dX2_dropOldest_18 hX2 (List.mem_of_getElem? (i := 1) rfl) 0 rfl rfl ?_
  refine w_iload_n (pc := 21) hX dX2_dropOldest_21 rfl rfl ?_
  refine w_iload_n (pc := 22) hX dX2_dropOldest_22 rfl rfl ?_
  refine w_iconst (pc := 23) hX dX2_dropOldest_23 ic_1 ?_
  refine w_iadd (pc := 24) hX dX2_dropOldest_24 ?_
  refine w_aload_n (pc := 25) hX dX2_dropOldest_25 rfl rfl ?_
  refine gf_X2_kept (pc := 26) hX dX2_dropOldest_26 hX2 (List.mem_of_getElem? (i := 1) rfl) 0 rfl rfl ?_
  refine w_qlen (pc := 29) hX dX2_dropOldest_29 1 rfl ?_
  refine w_icmp_geF (pc := 30) (tgt := 44) hX dX2_dropOldest_30 (by decide) (by decide) ?_
  refine w_aload_n (pc := 33) hX dX2_dropOldest_33 rfl rfl ?_
  refine gf_X2_kept (pc := 34) hX dX2_dropOldest_34 hX2 (List.mem_of_getElem? (i := 1) rfl) 0 rfl rfl ?_
  refine w_iload_n (pc := 37) hX dX2_dropOldest_37 rfl rfl ?_
  refine w_iconst (pc := 38) hX dX2_dropOldest_38 ic_1 ?_
  refine w_iadd (pc := 39) hX dX2_dropOldest_39 ?_
  refine w_aald (pc := 40) (v := .ref (a 13 0)) hX dX2_dropOldest_40 1 rfl (by decide) (by rw [show (((0 : Int32) + (1 : Int32)) + (1 : Int32)).toNatClampNeg = 2 from by decide]; show va_rf (some (a (11 + (2 + h.2.1) % 4) 0)) = _; rw [e2]; rfl) ?_
  refine w_goto (pc := 41) (tgt := 45) hX dX2_dropOldest_41 (by decide) ?_
  refine w_aast (pc := 45) hX dX2_dropOldest_45 1 12 rfl rfl (by decide) ?_
  refine w_iinc (pc := 46) hX dX2_dropOldest_46 rfl (Nat.le_of_ble_eq_true rfl) ic_1 ?_
  refine w_goto (pc := 49) (tgt := 8) hX dX2_dropOldest_49 (by decide) ?_
  refine w_iload_n (pc := 8) hX dX2_dropOldest_8 rfl rfl ?_
  refine w_aload_n (pc := 9) hX dX2_dropOldest_9 rfl rfl ?_
  refine gf_X2_kept (pc := 10) hX dX2_dropOldest_10 hX2 (List.mem_of_getElem? (i := 1) rfl) 0 rfl rfl ?_
  refine w_qlen (pc := 13) hX dX2_dropOldest_13 1 rfl ?_
  refine w_icmp_geF (pc := 14) (tgt := 52) hX dX2_dropOldest_14 (by decide) (by decide) ?_
  refine w_aload_n (pc := 17) hX dX2_dropOldest_17 rfl rfl ?_
  refine gf_X2_kept (pc := 18) hX dX2_dropOldest_18 hX2 (List.mem_of_getElem? (i := 1) rfl) 0 rfl rfl ?_
  refine w_iload_n (pc := 21) hX dX2_dropOldest_21 rfl rfl ?_
  refine w_iload_n (pc := 22) hX dX2_dropOldest_22 rfl rfl ?_
  refine w_iconst (pc := 23) hX dX2_dropOldest_23 ic_1 ?_
  refine w_iadd (pc := 24) hX dX2_dropOldest_24 ?_
  refine w_aload_n (pc := 25) hX dX2_dropOldest_25 rfl rfl ?_
  refine gf_X2_kept (pc := 26) hX dX2_dropOldest_26 hX2 (List.mem_of_getElem? (i := 1) rfl) 0 rfl rfl ?_
  refine w_qlen (pc := 29) hX dX2_dropOldest_29 1 rfl ?_
  refine w_icmp_geF (pc := 30) (tgt := 44) hX dX2_dropOldest_30 (by decide) (by decide) ?_
  refine w_aload_n (pc := 33) hX dX2_dropOldest_33 rfl rfl ?_
  refine gf_X2_kept (pc := 34) hX dX2_dropOldest_34 hX2 (List.mem_of_getElem? (i := 1) rfl) 0 rfl rfl ?_
  refine w_iload_n (pc := 37) hX dX2_dropOldest_37 rfl rfl ?_
  refine w_iconst (pc := 38) hX dX2_dropOldest_38 ic_1 ?_
  refine w_iadd (pc := 39) hX dX2_dropOldest_39 ?_
  refine w_aald (pc := 40) (v := .ref (a 14 0)) hX dX2_dropOldest_40 1 rfl (by decide) (by rw [show ((((0 : Int32) + (1 : Int32)) + (1 : Int32)) + (1 : Int32)).toNatClampNeg = 3 from by decide]; show va_rf (some (a (11 + (3 + h.2.1) % 4) 0)) = _; rw [e3]; rfl) ?_
  refine w_goto (pc := 41) (tgt := 45) hX dX2_dropOldest_41 (by decide) ?_
  refine w_aast (pc := 45) hX dX2_dropOldest_45 1 17 rfl rfl (by decide) ?_
  refine w_iinc (pc := 46) hX dX2_dropOldest_46 rfl (Nat.le_of_ble_eq_true rfl) ic_1 ?_
  refine w_goto (pc := 49) (tgt := 8) hX dX2_dropOldest_49 (by decide) ?_
  refine w_iload_n (pc := 8) hX dX2_dropOldest_8 rfl rfl ?_
  refine w_aload_n (pc := 9) hX dX2_dropOldest_9 rfl rfl ?_
  refine gf_X2_kept (pc := 10) hX dX2_dropOldest_10 hX2 (List.mem_of_getElem? (i := 1) rfl) 0 rfl rfl ?_
  refine w_qlen (pc := 13) hX dX2_dropOldest_13 1 rfl ?_
  refine w_icmp_geF (pc := 14) (tgt := 52) hX dX2_dropOldest_14 (by decide) (by decide) ?_
  refine w_aload_n (pc := 17) hX dX2_dropOldest_17 rfl rfl ?_
  refine gf_X2_kept (pc := 18) hX dX2_dropOldest_18 hX2 (List.mem_of_getElem? (i := 1) rfl) 0 rfl rfl ?_
  refine w_iload_n (pc := 21) hX dX2_dropOldest_21 rfl rfl ?_
  refine w_iload_n (pc := 22) hX dX2_dropOldest_22 rfl rfl ?_
  refine w_iconst (pc := 23) hX dX2_dropOldest_23 ic_1 ?_
  refine w_iadd (pc := 24) hX dX2_dropOldest_24 ?_
  refine w_aload_n (pc := 25) hX dX2_dropOldest_25 rfl rfl ?_
  refine gf_X2_kept (pc := 26) hX dX2_dropOldest_26 hX2 (List.mem_of_getElem? (i := 1) rfl) 0 rfl rfl ?_
  refine w_qlen (pc := 29) hX dX2_dropOldest_29 1 rfl ?_
  refine w_icmp_geT (pc := 30) (tgt := 44) hX dX2_dropOldest_30 (by decide) (by decide) ?_
  refine w_aload_n (pc := 44) hX dX2_dropOldest_44 rfl rfl ?_
  refine w_aast (pc := 45) hX dX2_dropOldest_45 1 2 rfl rfl (by decide) ?_
  refine w_iinc (pc := 46) hX dX2_dropOldest_46 rfl (Nat.le_of_ble_eq_true rfl) ic_1 ?_
  refine w_goto (pc := 49) (tgt := 8) hX dX2_dropOldest_49 (by decide) ?_
  refine w_iload_n (pc := 8) hX dX2_dropOldest_8 rfl rfl ?_
  refine w_aload_n (pc := 9) hX dX2_dropOldest_9 rfl rfl ?_
  refine gf_X2_kept (pc := 10) hX dX2_dropOldest_10 hX2 (List.mem_of_getElem? (i := 1) rfl) 0 rfl rfl ?_
  refine w_qlen (pc := 13) hX dX2_dropOldest_13 1 rfl ?_
  refine w_icmp_geT (pc := 14) (tgt := 52) hX dX2_dropOldest_14 (by decide) (by decide) ?_
  refine w_aload_n (pc := 52) hX dX2_dropOldest_52 rfl rfl ?_
  refine w_dup (pc := 53) hX dX2_dropOldest_53 rfl ?_
  refine gf_X2_states (pc := 54) hX dX2_dropOldest_54 hX2 (List.mem_of_getElem? (i := 2) rfl) 0 rfl rfl ?_
  refine w_iconst (pc := 57) hX dX2_dropOldest_57 ic_1 ?_
  refine w_isub (pc := 58) hX dX2_dropOldest_58 ?_
  refine pf_X2_states (pc := 59) hX dX2_dropOldest_59 hX2 (List.mem_of_getElem? (i := 2) rfl) 0 rfl rfl ?_
  refine w_qq (g := qH a (h.2.1 + 1)) 1 rfl (fun j hj => ?_) ?_
  · have f0 : (0 + (h.2.1 + 1)) % 4 = 1 := by omega
    have f1 : (1 + (h.2.1 + 1)) % 4 = 2 := by omega
    have f2 : (2 + (h.2.1 + 1)) % 4 = 3 := by omega
    have f3 : (3 + (h.2.1 + 1)) % 4 = 0 := by omega
    have i0 : (0 : Int32).toNatClampNeg = 0 := by decide
    have i1 : ((0 : Int32) + 1).toNatClampNeg = 1 := by decide
    have i2 : ((0 : Int32) + 1 + 1).toNatClampNeg = 2 := by decide
    have i3 : ((0 : Int32) + 1 + 1 + 1).toNatClampNeg = 3 := by decide
    rcases (show j = 0 ∨ j = 1 ∨ j = 2 ∨ j = 3 by omega) with rfl | rfl | rfl | rfl <;> simp only [va_up, qH, i0, i1, i2, i3, f0, f1, f2, f3] <;> rfl
  exact w_vret (pc := 62) hX hR dX2_dropOldest_62 ⟨rfl, rfl⟩
set_option maxHeartbeats 4000000 in
set_option maxRecDepth 100000 in
theorem ctX2_dropOldest_1 (G : gT) (a : Nat → Nat → Nat) (h : HS) (hr : h.2.1 % 4 = 1) (s' : Int32) (hs : h.1 - 1 = s') : CT G yX2_dropOldest wsX2_dropOldest rmX2_dropOldest [.ref (a 3 0)] (wX2 G a h) (fun v w => v = none ∧ w = wX2 G a (s', h.2.1 + 1, h.2.2)) := by
  subst hs
  refine CT_of (cc := cX2_dropOldest) (maxL := 3) (ret := none) 2 (by decide +kernel) rfl rfl (cat_ok rfl) (fun X hX hR hN => ?_)
  have hX : Ok G X cX2_dropOldest RX2 wsX2_dropOldest 3 rmX2_dropOldest := hX
  have hX2 : ∀ w ∈ wsX20, w ∈ wsX2_dropOldest := lX2_dropOldest_X2
  have e0 : (0 + h.2.1) % 4 = 1 := by omega
  have e1 : (1 + h.2.1) % 4 = 2 := by omega
  have e2 : (2 + h.2.1) % 4 = 3 := by omega
  have e3 : (3 + h.2.1) % 4 = 0 := by omega
  refine w_aload_n (pc := 0) hX dX2_dropOldest_0 rfl rfl ?_
  refine w_iconst (pc := 1) hX dX2_dropOldest_1 ic_0 ?_
  refine w_callpo (pc := 2) hX [0, 1] (runV (rest := []) hX [0, 1] (ctX2_stateAt_0 G a h.1 h.2.1 1 e0) dX2_dropOldest_2 1 gX2_dropOldest_X2_stateAt rfl hyX2_stateAt ⟨Nat.le_of_ble_eq_true rfl, Nat.le_of_ble_eq_true rfl⟩ 0 rfl rfl rfl rfl (Nat.le_of_ble_eq_true rfl) ⟨Nat.le_of_ble_eq_true rfl, Nat.le_of_ble_eq_true rfl⟩ rfl (by decide +kernel)) rfl ⟨rfl, rfl⟩ ?_
  refine w_astore_n (pc := 5) hX dX2_dropOldest_5 rfl (Nat.le_of_ble_eq_true rfl) ?_
  refine w_iconst (pc := 6) hX dX2_dropOldest_6 ic_0 ?_
  refine w_istore_n (pc := 7) hX dX2_dropOldest_7 rfl (Nat.le_of_ble_eq_true rfl) ?_
  refine w_iload_n (pc := 8) hX dX2_dropOldest_8 rfl rfl ?_
  refine w_aload_n (pc := 9) hX dX2_dropOldest_9 rfl rfl ?_
  refine gf_X2_kept (pc := 10) hX dX2_dropOldest_10 hX2 (List.mem_of_getElem? (i := 1) rfl) 0 rfl rfl ?_
  refine w_qlen (pc := 13) hX dX2_dropOldest_13 1 rfl ?_
  refine w_icmp_geF (pc := 14) (tgt := 52) hX dX2_dropOldest_14 (by decide) (by decide) ?_
  refine w_aload_n (pc := 17) hX dX2_dropOldest_17 rfl rfl ?_
  refine gf_X2_kept (pc := 18) hX dX2_dropOldest_18 hX2 (List.mem_of_getElem? (i := 1) rfl) 0 rfl rfl ?_
  refine w_iload_n (pc := 21) hX dX2_dropOldest_21 rfl rfl ?_
  refine w_iload_n (pc := 22) hX dX2_dropOldest_22 rfl rfl ?_
  refine w_iconst (pc := 23) hX dX2_dropOldest_23 ic_1 ?_
  refine w_iadd (pc := 24) hX dX2_dropOldest_24 ?_
  refine w_aload_n (pc := 25) hX dX2_dropOldest_25 rfl rfl ?_
  refine gf_X2_kept (pc := 26) hX dX2_dropOldest_26 hX2 (List.mem_of_getElem? (i := 1) rfl) 0 rfl rfl ?_
  refine w_qlen (pc := 29) hX dX2_dropOldest_29 1 rfl ?_
  refine w_icmp_geF (pc := 30) (tgt := 44) hX dX2_dropOldest_30 (by decide) (by decide) ?_
  refine w_aload_n (pc := 33) hX dX2_dropOldest_33 rfl rfl ?_
  refine gf_X2_kept (pc := 34) hX dX2_dropOldest_34 hX2 (List.mem_of_getElem? (i := 1) rfl) 0 rfl rfl ?_
  refine w_iload_n (pc := 37) hX dX2_dropOldest_37 rfl rfl ?_
  refine w_iconst (pc := 38) hX dX2_dropOldest_38 ic_1 ?_
  refine w_iadd (pc := 39) hX dX2_dropOldest_39 ?_
  refine w_aald (pc := 40) (v := .ref (a 13 0)) hX dX2_dropOldest_40 1 rfl (by decide) (by rw [show ((0 : Int32) + (1 : Int32)).toNatClampNeg = 1 from by decide]; show va_rf (some (a (11 + (1 + h.2.1) % 4) 0)) = _; rw [e1]; rfl) ?_
  refine w_goto (pc := 41) (tgt := 45) hX dX2_dropOldest_41 (by decide) ?_
  refine w_aast (pc := 45) hX dX2_dropOldest_45 1 12 rfl rfl (by decide) ?_
  refine w_iinc (pc := 46) hX dX2_dropOldest_46 rfl (Nat.le_of_ble_eq_true rfl) ic_1 ?_
  refine w_goto (pc := 49) (tgt := 8) hX dX2_dropOldest_49 (by decide) ?_
  refine w_iload_n (pc := 8) hX dX2_dropOldest_8 rfl rfl ?_
  refine w_aload_n (pc := 9) hX dX2_dropOldest_9 rfl rfl ?_
  refine gf_X2_kept (pc := 10) hX dX2_dropOldest_10 hX2 (List.mem_of_getElem? (i := 1) rfl) 0 rfl rfl ?_
  refine w_qlen (pc := 13) hX dX2_dropOldest_13 1 rfl ?_
  refine w_icmp_geF (pc := 14) (tgt := 52) hX dX2_dropOldest_14 (by decide) (by decide) ?_
  refine w_aload_n (pc := 17) hX dX2_dropOldest_17 rfl rfl ?_
  refine gf_X2_kept (pc := 18) hX dX2_dropOldest_18 hX2 (List.mem_of_getElem? (i := 1) rfl) 0 rfl rfl ?_
  refine w_iload_n (pc := 21) hX dX2_dropOldest_21 rfl rfl ?_
  refine w_iload_n (pc := 22) hX dX2_dropOldest_22 rfl rfl ?_
  refine w_iconst (pc := 23) hX dX2_dropOldest_23 ic_1 ?_
  refine w_iadd (pc := 24) hX dX2_dropOldest_24 ?_
  refine w_aload_n (pc := 25) hX dX2_dropOldest_25 rfl rfl ?_
  refine gf_X2_kept (pc := 26) hX dX2_dropOldest_26 hX2 (List.mem_of_getElem? (i := 1) rfl) 0 rfl rfl ?_
  refine w_qlen (pc := 29) hX dX2_dropOldest_29 1 rfl ?_
  refine w_icmp_geF (pc := 30) (tgt := 44) hX dX2_dropOldest_30 (by decide) (by decide) ?_
  refine w_aload_n (pc := 33) hX dX2_dropOldest_33 rfl rfl ?_
  refine gf_X2_kept (pc := 34) hX dX2_dropOldest_34 hX2 (List.mem_of_getElem? (i := 1) rfl) 0 rfl rfl ?_
  refine w_iload_n (pc := 37) hX dX2_dropOldest_37 rfl rfl ?_
  refine w_iconst (pc := 38) hX dX2_dropOldest_38 ic_1 ?_
  refine w_iadd (pc := 39) hX dX2_dropOldest_39 ?_
  refine w_aald (pc := 40) (v := .ref (a 14 0)) hX dX2_dropOldest_40 1 rfl (by decide) (by rw [show (((0 : Int32) + (1 : Int32)) + (1 : Int32)).toNatClampNeg = 2 from by decide]; show va_rf (some (a (11 + (2 + h.2.1) % 4) 0)) = _; rw [e2]; rfl) ?_
  refine w_goto (pc := 41) (tgt := 45) hX dX2_dropOldest_41 (by decide) ?_
  refine w_aast (pc := 45) hX dX2_dropOldest_45 1 17 rfl rfl (by decide) ?_
  refine w_iinc (pc := 46) hX dX2_dropOldest_46 rfl (Nat.le_of_ble_eq_true rfl) ic_1 ?_
  refine w_goto (pc := 49) (tgt := 8) hX dX2_dropOldest_49 (by decide) ?_
  refine w_iload_n (pc := 8) hX dX2_dropOldest_8 rfl rfl ?_
  refine w_aload_n (pc := 9) hX dX2_dropOldest_9 rfl rfl ?_
  refine gf_X2_kept (pc := 10) hX dX2_dropOldest_10 hX2 (List.mem_of_getElem? (i := 1) rfl) 0 rfl rfl ?_
  refine w_qlen (pc := 13) hX dX2_dropOldest_13 1 rfl ?_
  refine w_icmp_geF (pc := 14) (tgt := 52) hX dX2_dropOldest_14 (by decide) (by decide) ?_
  refine w_aload_n (pc := 17) hX dX2_dropOldest_17 rfl rfl ?_
  refine gf_X2_kept (pc := 18) hX dX2_dropOldest_18 hX2 (List.mem_of_getElem? (i := 1) rfl) 0 rfl rfl ?_
  refine w_iload_n (pc := 21) hX dX2_dropOldest_21 rfl rfl ?_
  refine w_iload_n (pc := 22) hX dX2_dropOldest_22 rfl rfl ?_
  refine w_iconst (pc := 23) hX dX2_dropOldest_23 ic_1 ?_
  refine w_iadd (pc := 24) hX dX2_dropOldest_24 ?_
  refine w_aload_n (pc := 25) hX dX2_dropOldest_25 rfl rfl ?_
  refine gf_X2_kept (pc := 26) hX dX2_dropOldest_26 hX2 (List.mem_of_getElem? (i := 1) rfl) 0 rfl rfl ?_
  refine w_qlen (pc := 29) hX dX2_dropOldest_29 1 rfl ?_
  refine w_icmp_geF (pc := 30) (tgt := 44) hX dX2_dropOldest_30 (by decide) (by decide) ?_
  refine w_aload_n (pc := 33) hX dX2_dropOldest_33 rfl rfl ?_
  refine gf_X2_kept (pc := 34) hX dX2_dropOldest_34 hX2 (List.mem_of_getElem? (i := 1) rfl) 0 rfl rfl ?_
  refine w_iload_n (pc := 37) hX dX2_dropOldest_37 rfl rfl ?_
  refine w_iconst (pc := 38) hX dX2_dropOldest_38 ic_1 ?_
  refine w_iadd (pc := 39) hX dX2_dropOldest_39 ?_
  refine w_aald (pc := 40) (v := .ref (a 11 0)) hX dX2_dropOldest_40 1 rfl (by decide) (by rw [show ((((0 : Int32) + (1 : Int32)) + (1 : Int32)) + (1 : Int32)).toNatClampNeg = 3 from by decide]; show va_rf (some (a (11 + (3 + h.2.1) % 4) 0)) = _; rw [e3]; rfl) ?_
  refine w_goto (pc := 41) (tgt := 45) hX dX2_dropOldest_41 (by decide) ?_
  refine w_aast (pc := 45) hX dX2_dropOldest_45 1 2 rfl rfl (by decide) ?_
  refine w_iinc (pc := 46) hX dX2_dropOldest_46 rfl (Nat.le_of_ble_eq_true rfl) ic_1 ?_
  refine w_goto (pc := 49) (tgt := 8) hX dX2_dropOldest_49 (by decide) ?_
  refine w_iload_n (pc := 8) hX dX2_dropOldest_8 rfl rfl ?_
  refine w_aload_n (pc := 9) hX dX2_dropOldest_9 rfl rfl ?_
  refine gf_X2_kept (pc := 10) hX dX2_dropOldest_10 hX2 (List.mem_of_getElem? (i := 1) rfl) 0 rfl rfl ?_
  refine w_qlen (pc := 13) hX dX2_dropOldest_13 1 rfl ?_
  refine w_icmp_geF (pc := 14) (tgt := 52) hX dX2_dropOldest_14 (by decide) (by decide) ?_
  refine w_aload_n (pc := 17) hX dX2_dropOldest_17 rfl rfl ?_
  refine gf_X2_kept (pc := 18) hX dX2_dropOldest_18 hX2 (List.mem_of_getElem? (i := 1) rfl) 0 rfl rfl ?_
  refine w_iload_n (pc := 21) hX dX2_dropOldest_21 rfl rfl ?_
  refine w_iload_n (pc := 22) hX dX2_dropOldest_22 rfl rfl ?_
  refine w_iconst (pc := 23) hX dX2_dropOldest_23 ic_1 ?_
  refine w_iadd (pc := 24) hX dX2_dropOldest_24 ?_
  refine w_aload_n (pc := 25) hX dX2_dropOldest_25 rfl rfl ?_
  refine gf_X2_kept (pc := 26) hX dX2_dropOldest_26 hX2 (List.mem_of_getElem? (i := 1) rfl) 0 rfl rfl ?_
  refine w_qlen (pc := 29) hX dX2_dropOldest_29 1 rfl ?_
  refine w_icmp_geT (pc := 30) (tgt := 44) hX dX2_dropOldest_30 (by decide) (by decide) ?_
  refine w_aload_n (pc := 44) hX dX2_dropOldest_44 rfl rfl ?_
  refine w_aast (pc := 45) hX dX2_dropOldest_45 1 7 rfl rfl (by decide) ?_
  refine w_iinc (pc := 46) hX dX2_dropOldest_46 rfl (Nat.le_of_ble_eq_true rfl) ic_1 ?_
  refine w_goto (pc := 49) (tgt := 8) hX dX2_dropOldest_49 (by decide) ?_
  refine w_iload_n (pc := 8) hX dX2_dropOldest_8 rfl rfl ?_
  refine w_aload_n (pc := 9) hX dX2_dropOldest_9 rfl rfl ?_
  refine gf_X2_kept (pc := 10) hX dX2_dropOldest_10 hX2 (List.mem_of_getElem? (i := 1) rfl) 0 rfl rfl ?_
  refine w_qlen (pc := 13) hX dX2_dropOldest_13 1 rfl ?_
  refine w_icmp_geT (pc := 14) (tgt := 52) hX dX2_dropOldest_14 (by decide) (by decide) ?_
  refine w_aload_n (pc := 52) hX dX2_dropOldest_52 rfl rfl ?_
  refine w_dup (pc := 53) hX dX2_dropOldest_53 rfl ?_
  refine gf_X2_states (pc := 54) hX dX2_dropOldest_54 hX2 (List.mem_of_getElem? (i := 2) rfl) 0 rfl rfl ?_
  refine w_iconst (pc := 57) hX dX2_dropOldest_57 ic_1 ?_
  refine w_isub (pc := 58) hX dX2_dropOldest_58 ?_
  refine pf_X2_states (pc := 59) hX dX2_dropOldest_59 hX2 (List.mem_of_getElem? (i := 2) rfl) 0 rfl rfl ?_
  refine w_qq (g := qH a (h.2.1 + 1)) 1 rfl (fun j hj => ?_) ?_
  · have f0 : (0 + (h.2.1 + 1)) % 4 = 2 := by omega
    have f1 : (1 + (h.2.1 + 1)) % 4 = 3 := by omega
    have f2 : (2 + (h.2.1 + 1)) % 4 = 0 := by omega
    have f3 : (3 + (h.2.1 + 1)) % 4 = 1 := by omega
    have i0 : (0 : Int32).toNatClampNeg = 0 := by decide
    have i1 : ((0 : Int32) + 1).toNatClampNeg = 1 := by decide
    have i2 : ((0 : Int32) + 1 + 1).toNatClampNeg = 2 := by decide
    have i3 : ((0 : Int32) + 1 + 1 + 1).toNatClampNeg = 3 := by decide
    rcases (show j = 0 ∨ j = 1 ∨ j = 2 ∨ j = 3 by omega) with rfl | rfl | rfl | rfl <;> simp only [va_up, qH, i0, i1, i2, i3, f0, f1, f2, f3] <;> rfl
  exact w_vret (pc := 62) hX hR dX2_dropOldest_62 ⟨rfl, rfl⟩
set_option maxHeartbeats 4000000 in
set_option maxRecDepth 100000 in
theorem ctX2_dropOldest_2 (G : gT) (a : Nat → Nat → Nat) (h : HS) (hr : h.2.1 % 4 = 2) (s' : Int32) (hs : h.1 - 1 = s') : CT G yX2_dropOldest wsX2_dropOldest rmX2_dropOldest [.ref (a 3 0)] (wX2 G a h) (fun v w => v = none ∧ w = wX2 G a (s', h.2.1 + 1, h.2.2)) := by
  subst hs
  refine CT_of (cc := cX2_dropOldest) (maxL := 3) (ret := none) 2 (by decide +kernel) rfl rfl (cat_ok rfl) (fun X hX hR hN => ?_)
  have hX : Ok G X cX2_dropOldest RX2 wsX2_dropOldest 3 rmX2_dropOldest := hX
  have hX2 : ∀ w ∈ wsX20, w ∈ wsX2_dropOldest := lX2_dropOldest_X2
  have e0 : (0 + h.2.1) % 4 = 2 := by omega
  have e1 : (1 + h.2.1) % 4 = 3 := by omega
  have e2 : (2 + h.2.1) % 4 = 0 := by omega
  have e3 : (3 + h.2.1) % 4 = 1 := by omega
  refine w_aload_n (pc := 0) hX dX2_dropOldest_0 rfl rfl ?_
  refine w_iconst (pc := 1) hX dX2_dropOldest_1 ic_0 ?_
  refine w_callpo (pc := 2) hX [0, 1] (runV (rest := []) hX [0, 1] (ctX2_stateAt_0 G a h.1 h.2.1 2 e0) dX2_dropOldest_2 1 gX2_dropOldest_X2_stateAt rfl hyX2_stateAt ⟨Nat.le_of_ble_eq_true rfl, Nat.le_of_ble_eq_true rfl⟩ 0 rfl rfl rfl rfl (Nat.le_of_ble_eq_true rfl) ⟨Nat.le_of_ble_eq_true rfl, Nat.le_of_ble_eq_true rfl⟩ rfl (by decide +kernel)) rfl ⟨rfl, rfl⟩ ?_
  refine w_astore_n (pc := 5) hX dX2_dropOldest_5 rfl (Nat.le_of_ble_eq_true rfl) ?_
  refine w_iconst (pc := 6) hX dX2_dropOldest_6 ic_0 ?_
  refine w_istore_n (pc := 7) hX dX2_dropOldest_7 rfl (Nat.le_of_ble_eq_true rfl) ?_
  refine w_iload_n (pc := 8) hX dX2_dropOldest_8 rfl rfl ?_
  refine w_aload_n (pc := 9) hX dX2_dropOldest_9 rfl rfl ?_
  refine gf_X2_kept (pc := 10) hX dX2_dropOldest_10 hX2 (List.mem_of_getElem? (i := 1) rfl) 0 rfl rfl ?_
  refine w_qlen (pc := 13) hX dX2_dropOldest_13 1 rfl ?_
  refine w_icmp_geF (pc := 14) (tgt := 52) hX dX2_dropOldest_14 (by decide) (by decide) ?_
  refine w_aload_n (pc := 17) hX dX2_dropOldest_17 rfl rfl ?_
  refine gf_X2_kept (pc := 18) hX dX2_dropOldest_18 hX2 (List.mem_of_getElem? (i := 1) rfl) 0 rfl rfl ?_
  refine w_iload_n (pc := 21) hX dX2_dropOldest_21 rfl rfl ?_
  refine w_iload_n (pc := 22) hX dX2_dropOldest_22 rfl rfl ?_
  refine w_iconst (pc := 23) hX dX2_dropOldest_23 ic_1 ?_
  refine w_iadd (pc := 24) hX dX2_dropOldest_24 ?_
  refine w_aload_n (pc := 25) hX dX2_dropOldest_25 rfl rfl ?_
  refine gf_X2_kept (pc := 26) hX dX2_dropOldest_26 hX2 (List.mem_of_getElem? (i := 1) rfl) 0 rfl rfl ?_
  refine w_qlen (pc := 29) hX dX2_dropOldest_29 1 rfl ?_
  refine w_icmp_geF (pc := 30) (tgt := 44) hX dX2_dropOldest_30 (by decide) (by decide) ?_
  refine w_aload_n (pc := 33) hX dX2_dropOldest_33 rfl rfl ?_
  refine gf_X2_kept (pc := 34) hX dX2_dropOldest_34 hX2 (List.mem_of_getElem? (i := 1) rfl) 0 rfl rfl ?_
  refine w_iload_n (pc := 37) hX dX2_dropOldest_37 rfl rfl ?_
  refine w_iconst (pc := 38) hX dX2_dropOldest_38 ic_1 ?_
  refine w_iadd (pc := 39) hX dX2_dropOldest_39 ?_
  refine w_aald (pc := 40) (v := .ref (a 14 0)) hX dX2_dropOldest_40 1 rfl (by decide) (by rw [show ((0 : Int32) + (1 : Int32)).toNatClampNeg = 1 from by decide]; show va_rf (some (a (11 + (1 + h.2.1) % 4) 0)) = _; rw [e1]; rfl) ?_
  refine w_goto (pc := 41) (tgt := 45) hX dX2_dropOldest_41 (by decide) ?_
  refine w_aast (pc := 45) hX dX2_dropOldest_45 1 17 rfl rfl (by decide) ?_
  refine w_iinc (pc := 46) hX dX2_dropOldest_46 rfl (Nat.le_of_ble_eq_true rfl) ic_1 ?_
  refine w_goto (pc := 49) (tgt := 8) hX dX2_dropOldest_49 (by decide) ?_
  refine w_iload_n (pc := 8) hX dX2_dropOldest_8 rfl rfl ?_
  refine w_aload_n (pc := 9) hX dX2_dropOldest_9 rfl rfl ?_
  refine gf_X2_kept (pc := 10) hX dX2_dropOldest_10 hX2 (List.mem_of_getElem? (i := 1) rfl) 0 rfl rfl ?_
  refine w_qlen (pc := 13) hX dX2_dropOldest_13 1 rfl ?_
  refine w_icmp_geF (pc := 14) (tgt := 52) hX dX2_dropOldest_14 (by decide) (by decide) ?_
  refine w_aload_n (pc := 17) hX dX2_dropOldest_17 rfl rfl ?_
  refine gf_X2_kept (pc := 18) hX dX2_dropOldest_18 hX2 (List.mem_of_getElem? (i := 1) rfl) 0 rfl rfl ?_
  refine w_iload_n (pc := 21) hX dX2_dropOldest_21 rfl rfl ?_
  refine w_iload_n (pc := 22) hX dX2_dropOldest_22 rfl rfl ?_
  refine w_iconst (pc := 23) hX dX2_dropOldest_23 ic_1 ?_
  refine w_iadd (pc := 24) hX dX2_dropOldest_24 ?_
  refine w_aload_n (pc := 25) hX dX2_dropOldest_25 rfl rfl ?_
  refine gf_X2_kept (pc := 26) hX dX2_dropOldest_26 hX2 (List.mem_of_getElem? (i := 1) rfl) 0 rfl rfl ?_
  refine w_qlen (pc := 29) hX dX2_dropOldest_29 1 rfl ?_
  refine w_icmp_geF (pc := 30) (tgt := 44) hX dX2_dropOldest_30 (by decide) (by decide) ?_
  refine w_aload_n (pc := 33) hX dX2_dropOldest_33 rfl rfl ?_
  refine gf_X2_kept (pc := 34) hX dX2_dropOldest_34 hX2 (List.mem_of_getElem? (i := 1) rfl) 0 rfl rfl ?_
  refine w_iload_n (pc := 37) hX dX2_dropOldest_37 rfl rfl ?_
  refine w_iconst (pc := 38) hX dX2_dropOldest_38 ic_1 ?_
  refine w_iadd (pc := 39) hX dX2_dropOldest_39 ?_
  refine w_aald (pc := 40) (v := .ref (a 11 0)) hX dX2_dropOldest_40 1 rfl (by decide) (by rw [show (((0 : Int32) + (1 : Int32)) + (1 : Int32)).toNatClampNeg = 2 from by decide]; show va_rf (some (a (11 + (2 + h.2.1) % 4) 0)) = _; rw [e2]; rfl) ?_
  refine w_goto (pc := 41) (tgt := 45) hX dX2_dropOldest_41 (by decide) ?_
  refine w_aast (pc := 45) hX dX2_dropOldest_45 1 2 rfl rfl (by decide) ?_
  refine w_iinc (pc := 46) hX dX2_dropOldest_46 rfl (Nat.le_of_ble_eq_true rfl) ic_1 ?_
  refine w_goto (pc := 49) (tgt := 8) hX dX2_dropOldest_49 (by decide) ?_
  refine w_iload_n (pc := 8) hX dX2_dropOldest_8 rfl rfl ?_
  refine w_aload_n (pc := 9) hX dX2_dropOldest_9 rfl rfl ?_
  refine gf_X2_kept (pc := 10) hX dX2_dropOldest_10 hX2 (List.mem_of_getElem? (i := 1) rfl) 0 rfl rfl ?_
  refine w_qlen (pc := 13) hX dX2_dropOldest_13 1 rfl ?_
  refine w_icmp_geF (pc := 14) (tgt := 52) hX dX2_dropOldest_14 (by decide) (by decide) ?_
  refine w_aload_n (pc := 17) hX dX2_dropOldest_17 rfl rfl ?_
  refine gf_X2_kept (pc := 18) hX dX2_dropOldest_18 hX2 (List.mem_of_getElem? (i := 1) rfl) 0 rfl rfl ?_
  refine w_iload_n (pc := 21) hX dX2_dropOldest_21 rfl rfl ?_
  refine w_iload_n (pc := 22) hX dX2_dropOldest_22 rfl rfl ?_
  refine w_iconst (pc := 23) hX dX2_dropOldest_23 ic_1 ?_
  refine w_iadd (pc := 24) hX dX2_dropOldest_24 ?_
  refine w_aload_n (pc := 25) hX dX2_dropOldest_25 rfl rfl ?_
  refine gf_X2_kept (pc := 26) hX dX2_dropOldest_26 hX2 (List.mem_of_getElem? (i := 1) rfl) 0 rfl rfl ?_
  refine w_qlen (pc := 29) hX dX2_dropOldest_29 1 rfl ?_
  refine w_icmp_geF (pc := 30) (tgt := 44) hX dX2_dropOldest_30 (by decide) (by decide) ?_
  refine w_aload_n (pc := 33) hX dX2_dropOldest_33 rfl rfl ?_
  refine gf_X2_kept (pc := 34) hX dX2_dropOldest_34 hX2 (List.mem_of_getElem? (i := 1) rfl) 0 rfl rfl ?_
  refine w_iload_n (pc := 37) hX dX2_dropOldest_37 rfl rfl ?_
  refine w_iconst (pc := 38) hX dX2_dropOldest_38 ic_1 ?_
  refine w_iadd (pc := 39) hX dX2_dropOldest_39 ?_
  refine w_aald (pc := 40) (v := .ref (a 12 0)) hX dX2_dropOldest_40 1 rfl (by decide) (by rw [show ((((0 : Int32) + (1 : Int32)) + (1 : Int32)) + (1 : Int32)).toNatClampNeg = 3 from by decide]; show va_rf (some (a (11 + (3 + h.2.1) % 4) 0)) = _; rw [e3]; rfl) ?_
  refine w_goto (pc := 41) (tgt := 45) hX dX2_dropOldest_41 (by decide) ?_
  refine w_aast (pc := 45) hX dX2_dropOldest_45 1 7 rfl rfl (by decide) ?_
  refine w_iinc (pc := 46) hX dX2_dropOldest_46 rfl (Nat.le_of_ble_eq_true rfl) ic_1 ?_
  refine w_goto (pc := 49) (tgt := 8) hX dX2_dropOldest_49 (by decide) ?_
  refine w_iload_n (pc := 8) hX dX2_dropOldest_8 rfl rfl ?_
  refine w_aload_n (pc := 9) hX dX2_dropOldest_9 rfl rfl ?_
  refine gf_X2_kept (pc := 10) hX dX2_dropOldest_10 hX2 (List.mem_of_getElem? (i := 1) rfl) 0 rfl rfl ?_
  refine w_qlen (pc := 13) hX dX2_dropOldest_13 1 rfl ?_
  refine w_icmp_geF (pc := 14) (tgt := 52) hX dX2_dropOldest_14 (by decide) (by decide) ?_
  refine w_aload_n (pc := 17) hX dX2_dropOldest_17 rfl rfl ?_
  refine gf_X2_kept (pc := 18) hX dX2_dropOldest_18 hX2 (List.mem_of_getElem? (i := 1) rfl) 0 rfl rfl ?_
  refine w_iload_n (pc := 21) hX dX2_dropOldest_21 rfl rfl ?_
  refine w_iload_n (pc := 22) hX dX2_dropOldest_22 rfl rfl ?_
  refine w_iconst (pc := 23) hX dX2_dropOldest_23 ic_1 ?_
  refine w_iadd (pc := 24) hX dX2_dropOldest_24 ?_
  refine w_aload_n (pc := 25) hX dX2_dropOldest_25 rfl rfl ?_
  refine gf_X2_kept (pc := 26) hX dX2_dropOldest_26 hX2 (List.mem_of_getElem? (i := 1) rfl) 0 rfl rfl ?_
  refine w_qlen (pc := 29) hX dX2_dropOldest_29 1 rfl ?_
  refine w_icmp_geT (pc := 30) (tgt := 44) hX dX2_dropOldest_30 (by decide) (by decide) ?_
  refine w_aload_n (pc := 44) hX dX2_dropOldest_44 rfl rfl ?_
  refine w_aast (pc := 45) hX dX2_dropOldest_45 1 12 rfl rfl (by decide) ?_
  refine w_iinc (pc := 46) hX dX2_dropOldest_46 rfl (Nat.le_of_ble_eq_true rfl) ic_1 ?_
  refine w_goto (pc := 49) (tgt := 8) hX dX2_dropOldest_49 (by decide) ?_
  refine w_iload_n (pc := 8) hX dX2_dropOldest_8 rfl rfl ?_
  refine w_aload_n (pc := 9) hX dX2_dropOldest_9 rfl rfl ?_
  refine gf_X2_kept (pc := 10) hX dX2_dropOldest_10 hX2 (List.mem_of_getElem? (i := 1) rfl) 0 rfl rfl ?_
  refine w_qlen (pc := 13) hX dX2_dropOldest_13 1 rfl ?_
  refine w_icmp_geT (pc := 14) (tgt := 52) hX dX2_dropOldest_14 (by decide) (by decide) ?_
  refine w_aload_n (pc := 52) hX dX2_dropOldest_52 rfl rfl ?_
  refine w_dup (pc := 53) hX dX2_dropOldest_53 rfl ?_
  refine gf_X2_states (pc := 54) hX dX2_dropOldest_54 hX2 (List.mem_of_getElem? (i := 2) rfl) 0 rfl rfl ?_
  refine w_iconst (pc := 57) hX dX2_dropOldest_57 ic_1 ?_
  refine w_isub (pc := 58) hX dX2_dropOldest_58 ?_
  refine pf_X2_states (pc := 59) hX dX2_dropOldest_59 hX2 (List.mem_of_getElem? (i := 2) rfl) 0 rfl rfl ?_
  refine w_qq (g := qH a (h.2.1 + 1)) 1 rfl (fun j hj => ?_) ?_
  · have f0 : (0 + (h.2.1 + 1)) % 4 = 3 := by omega
    have f1 : (1 + (h.2.1 + 1)) % 4 = 0 := by omega
    have f2 : (2 + (h.2.1 + 1)) % 4 = 1 := by omega
    have f3 : (3 + (h.2.1 + 1)) % 4 = 2 := by omega
    have i0 : (0 : Int32).toNatClampNeg = 0 := by decide
    have i1 : ((0 : Int32) + 1).toNatClampNeg = 1 := by decide
    have i2 : ((0 : Int32) + 1 + 1).toNatClampNeg = 2 := by decide
    have i3 : ((0 : Int32) + 1 + 1 + 1).toNatClampNeg = 3 := by decide
    rcases (show j = 0 ∨ j = 1 ∨ j = 2 ∨ j = 3 by omega) with rfl | rfl | rfl | rfl <;> simp only [va_up, qH, i0, i1, i2, i3, f0, f1, f2, f3] <;> rfl
  exact w_vret (pc := 62) hX hR dX2_dropOldest_62 ⟨rfl, rfl⟩
set_option maxHeartbeats 4000000 in
set_option maxRecDepth 100000 in
theorem ctX2_dropOldest_3 (G : gT) (a : Nat → Nat → Nat) (h : HS) (hr : h.2.1 % 4 = 3) (s' : Int32) (hs : h.1 - 1 = s') : CT G yX2_dropOldest wsX2_dropOldest rmX2_dropOldest [.ref (a 3 0)] (wX2 G a h) (fun v w => v = none ∧ w = wX2 G a (s', h.2.1 + 1, h.2.2)) := by
  subst hs
  refine CT_of (cc := cX2_dropOldest) (maxL := 3) (ret := none) 2 (by decide +kernel) rfl rfl (cat_ok rfl) (fun X hX hR hN => ?_)
  have hX : Ok G X cX2_dropOldest RX2 wsX2_dropOldest 3 rmX2_dropOldest := hX
  have hX2 : ∀ w ∈ wsX20, w ∈ wsX2_dropOldest := lX2_dropOldest_X2
  have e0 : (0 + h.2.1) % 4 = 3 := by omega
  have e1 : (1 + h.2.1) % 4 = 0 := by omega
  have e2 : (2 + h.2.1) % 4 = 1 := by omega
  have e3 : (3 + h.2.1) % 4 = 2 := by omega
  refine w_aload_n (pc := 0) hX dX2_dropOldest_0 rfl rfl ?_
  refine w_iconst (pc := 1) hX dX2_dropOldest_1 ic_0 ?_
  refine w_callpo (pc := 2) hX [0, 1] (runV (rest := []) hX [0, 1] (ctX2_stateAt_0 G a h.1 h.2.1 3 e0) dX2_dropOldest_2 1 gX2_dropOldest_X2_stateAt rfl hyX2_stateAt ⟨Nat.le_of_ble_eq_true rfl, Nat.le_of_ble_eq_true rfl⟩ 0 rfl rfl rfl rfl (Nat.le_of_ble_eq_true rfl) ⟨Nat.le_of_ble_eq_true rfl, Nat.le_of_ble_eq_true rfl⟩ rfl (by decide +kernel)) rfl ⟨rfl, rfl⟩ ?_
  refine w_astore_n (pc := 5) hX dX2_dropOldest_5 rfl (Nat.le_of_ble_eq_true rfl) ?_
  refine w_iconst (pc := 6) hX dX2_dropOldest_6 ic_0 ?_
  refine w_istore_n (pc := 7) hX dX2_dropOldest_7 rfl (Nat.le_of_ble_eq_true rfl) ?_
  refine w_iload_n (pc := 8) hX dX2_dropOldest_8 rfl rfl ?_
  refine w_aload_n (pc := 9) hX dX2_dropOldest_9 rfl rfl ?_
  refine gf_X2_kept (pc := 10) hX dX2_dropOldest_10 hX2 (List.mem_of_getElem? (i := 1) rfl) 0 rfl rfl ?_
  refine w_qlen (pc := 13) hX dX2_dropOldest_13 1 rfl ?_
  refine w_icmp_geF (pc := 14) (tgt := 52) hX dX2_dropOldest_14 (by decide) (by decide) ?_
  refine w_aload_n (pc := 17) hX dX2_dropOldest_17 rfl rfl ?_
  refine gf_X2_kept (pc := 18) hX dX2_dropOldest_18 hX2 (List.mem_of_getElem? (i := 1) rfl) 0 rfl rfl ?_
  refine w_iload_n (pc := 21) hX dX2_dropOldest_21 rfl rfl ?_
  refine w_iload_n (pc := 22) hX dX2_dropOldest_22 rfl rfl ?_
  refine w_iconst (pc := 23) hX dX2_dropOldest_23 ic_1 ?_
  refine w_iadd (pc := 24) hX dX2_dropOldest_24 ?_
  refine w_aload_n (pc := 25) hX dX2_dropOldest_25 rfl rfl ?_
  refine gf_X2_kept (pc := 26) hX dX2_dropOldest_26 hX2 (List.mem_of_getElem? (i := 1) rfl) 0 rfl rfl ?_
  refine w_qlen (pc := 29) hX dX2_dropOldest_29 1 rfl ?_
  refine w_icmp_geF (pc := 30) (tgt := 44) hX dX2_dropOldest_30 (by decide) (by decide) ?_
  refine w_aload_n (pc := 33) hX dX2_dropOldest_33 rfl rfl ?_
  refine gf_X2_kept (pc := 34) hX dX2_dropOldest_34 hX2 (List.mem_of_getElem? (i := 1) rfl) 0 rfl rfl ?_
  refine w_iload_n (pc := 37) hX dX2_dropOldest_37 rfl rfl ?_
  refine w_iconst (pc := 38) hX dX2_dropOldest_38 ic_1 ?_
  refine w_iadd (pc := 39) hX dX2_dropOldest_39 ?_
  refine w_aald (pc := 40) (v := .ref (a 11 0)) hX dX2_dropOldest_40 1 rfl (by decide) (by rw [show ((0 : Int32) + (1 : Int32)).toNatClampNeg = 1 from by decide]; show va_rf (some (a (11 + (1 + h.2.1) % 4) 0)) = _; rw [e1]; rfl) ?_
  refine w_goto (pc := 41) (tgt := 45) hX dX2_dropOldest_41 (by decide) ?_
  refine w_aast (pc := 45) hX dX2_dropOldest_45 1 2 rfl rfl (by decide) ?_
  refine w_iinc (pc := 46) hX dX2_dropOldest_46 rfl (Nat.le_of_ble_eq_true rfl) ic_1 ?_
  refine w_goto (pc := 49) (tgt := 8) hX dX2_dropOldest_49 (by decide) ?_
  refine w_iload_n (pc := 8) hX dX2_dropOldest_8 rfl rfl ?_
  refine w_aload_n (pc := 9) hX dX2_dropOldest_9 rfl rfl ?_
  refine gf_X2_kept (pc := 10) hX dX2_dropOldest_10 hX2 (List.mem_of_getElem? (i := 1) rfl) 0 rfl rfl ?_
  refine w_qlen (pc := 13) hX dX2_dropOldest_13 1 rfl ?_
  refine w_icmp_geF (pc := 14) (tgt := 52) hX dX2_dropOldest_14 (by decide) (by decide) ?_
  refine w_aload_n (pc := 17) hX dX2_dropOldest_17 rfl rfl ?_
  refine gf_X2_kept (pc := 18) hX dX2_dropOldest_18 hX2 (List.mem_of_getElem? (i := 1) rfl) 0 rfl rfl ?_
  refine w_iload_n (pc := 21) hX dX2_dropOldest_21 rfl rfl ?_
  refine w_iload_n (pc := 22) hX dX2_dropOldest_22 rfl rfl ?_
  refine w_iconst (pc := 23) hX dX2_dropOldest_23 ic_1 ?_
  refine w_iadd (pc := 24) hX dX2_dropOldest_24 ?_
  refine w_aload_n (pc := 25) hX dX2_dropOldest_25 rfl rfl ?_
  refine gf_X2_kept (pc := 26) hX dX2_dropOldest_26 hX2 (List.mem_of_getElem? (i := 1) rfl) 0 rfl rfl ?_
  refine w_qlen (pc := 29) hX dX2_dropOldest_29 1 rfl ?_
  refine w_icmp_geF (pc := 30) (tgt := 44) hX dX2_dropOldest_30 (by decide) (by decide) ?_
  refine w_aload_n (pc := 33) hX dX2_dropOldest_33 rfl rfl ?_
  refine gf_X2_kept (pc := 34) hX dX2_dropOldest_34 hX2 (List.mem_of_getElem? (i := 1) rfl) 0 rfl rfl ?_
  refine w_iload_n (pc := 37) hX dX2_dropOldest_37 rfl rfl ?_
  refine w_iconst (pc := 38) hX dX2_dropOldest_38 ic_1 ?_
  refine w_iadd (pc := 39) hX dX2_dropOldest_39 ?_
  refine w_aald (pc := 40) (v := .ref (a 12 0)) hX dX2_dropOldest_40 1 rfl (by decide) (by rw [show (((0 : Int32) + (1 : Int32)) + (1 : Int32)).toNatClampNeg = 2 from by decide]; show va_rf (some (a (11 + (2 + h.2.1) % 4) 0)) = _; rw [e2]; rfl) ?_
  refine w_goto (pc := 41) (tgt := 45) hX dX2_dropOldest_41 (by decide) ?_
  refine w_aast (pc := 45) hX dX2_dropOldest_45 1 7 rfl rfl (by decide) ?_
  refine w_iinc (pc := 46) hX dX2_dropOldest_46 rfl (Nat.le_of_ble_eq_true rfl) ic_1 ?_
  refine w_goto (pc := 49) (tgt := 8) hX dX2_dropOldest_49 (by decide) ?_
  refine w_iload_n (pc := 8) hX dX2_dropOldest_8 rfl rfl ?_
  refine w_aload_n (pc := 9) hX dX2_dropOldest_9 rfl rfl ?_
  refine gf_X2_kept (pc := 10) hX dX2_dropOldest_10 hX2 (List.mem_of_getElem? (i := 1) rfl) 0 rfl rfl ?_
  refine w_qlen (pc := 13) hX dX2_dropOldest_13 1 rfl ?_
  refine w_icmp_geF (pc := 14) (tgt := 52) hX dX2_dropOldest_14 (by decide) (by decide) ?_
  refine w_aload_n (pc := 17) hX dX2_dropOldest_17 rfl rfl ?_
  refine gf_X2_kept (pc := 18) hX dX2_dropOldest_18 hX2 (List.mem_of_getElem? (i := 1) rfl) 0 rfl rfl ?_
  refine w_iload_n (pc := 21) hX dX2_dropOldest_21 rfl rfl ?_
  refine w_iload_n (pc := 22) hX dX2_dropOldest_22 rfl rfl ?_
  refine w_iconst (pc := 23) hX dX2_dropOldest_23 ic_1 ?_
  refine w_iadd (pc := 24) hX dX2_dropOldest_24 ?_
  refine w_aload_n (pc := 25) hX dX2_dropOldest_25 rfl rfl ?_
  refine gf_X2_kept (pc := 26) hX dX2_dropOldest_26 hX2 (List.mem_of_getElem? (i := 1) rfl) 0 rfl rfl ?_
  refine w_qlen (pc := 29) hX dX2_dropOldest_29 1 rfl ?_
  refine w_icmp_geF (pc := 30) (tgt := 44) hX dX2_dropOldest_30 (by decide) (by decide) ?_
  refine w_aload_n (pc := 33) hX dX2_dropOldest_33 rfl rfl ?_
  refine gf_X2_kept (pc := 34) hX dX2_dropOldest_34 hX2 (List.mem_of_getElem? (i := 1) rfl) 0 rfl rfl ?_
  refine w_iload_n (pc := 37) hX dX2_dropOldest_37 rfl rfl ?_
  refine w_iconst (pc := 38) hX dX2_dropOldest_38 ic_1 ?_
  refine w_iadd (pc := 39) hX dX2_dropOldest_39 ?_
  refine w_aald (pc := 40) (v := .ref (a 13 0)) hX dX2_dropOldest_40 1 rfl (by decide) (by rw [show ((((0 : Int32) + (1 : Int32)) + (1 : Int32)) + (1 : Int32)).toNatClampNeg = 3 from by decide]; show va_rf (some (a (11 + (3 + h.2.1) % 4) 0)) = _; rw [e3]; rfl) ?_
  refine w_goto (pc := 41) (tgt := 45) hX dX2_dropOldest_41 (by decide) ?_
  refine w_aast (pc := 45) hX dX2_dropOldest_45 1 12 rfl rfl (by decide) ?_
  refine w_iinc (pc := 46) hX dX2_dropOldest_46 rfl (Nat.le_of_ble_eq_true rfl) ic_1 ?_
  refine w_goto (pc := 49) (tgt := 8) hX dX2_dropOldest_49 (by decide) ?_
  refine w_iload_n (pc := 8) hX dX2_dropOldest_8 rfl rfl ?_
  refine w_aload_n (pc := 9) hX dX2_dropOldest_9 rfl rfl ?_
  refine gf_X2_kept (pc := 10) hX dX2_dropOldest_10 hX2 (List.mem_of_getElem? (i := 1) rfl) 0 rfl rfl ?_
  refine w_qlen (pc := 13) hX dX2_dropOldest_13 1 rfl ?_
  refine w_icmp_geF (pc := 14) (tgt := 52) hX dX2_dropOldest_14 (by decide) (by decide) ?_
  refine w_aload_n (pc := 17) hX dX2_dropOldest_17 rfl rfl ?_
  refine gf_X2_kept (pc := 18) hX dX2_dropOldest_18 hX2 (List.mem_of_getElem? (i := 1) rfl) 0 rfl rfl ?_
  refine w_iload_n (pc := 21) hX dX2_dropOldest_21 rfl rfl ?_
  refine w_iload_n (pc := 22) hX dX2_dropOldest_22 rfl rfl ?_
  refine w_iconst (pc := 23) hX dX2_dropOldest_23 ic_1 ?_
  refine w_iadd (pc := 24) hX dX2_dropOldest_24 ?_
  refine w_aload_n (pc := 25) hX dX2_dropOldest_25 rfl rfl ?_
  refine gf_X2_kept (pc := 26) hX dX2_dropOldest_26 hX2 (List.mem_of_getElem? (i := 1) rfl) 0 rfl rfl ?_
  refine w_qlen (pc := 29) hX dX2_dropOldest_29 1 rfl ?_
  refine w_icmp_geT (pc := 30) (tgt := 44) hX dX2_dropOldest_30 (by decide) (by decide) ?_
  refine w_aload_n (pc := 44) hX dX2_dropOldest_44 rfl rfl ?_
  refine w_aast (pc := 45) hX dX2_dropOldest_45 1 17 rfl rfl (by decide) ?_
  refine w_iinc (pc := 46) hX dX2_dropOldest_46 rfl (Nat.le_of_ble_eq_true rfl) ic_1 ?_
  refine w_goto (pc := 49) (tgt := 8) hX dX2_dropOldest_49 (by decide) ?_
  refine w_iload_n (pc := 8) hX dX2_dropOldest_8 rfl rfl ?_
  refine w_aload_n (pc := 9) hX dX2_dropOldest_9 rfl rfl ?_
  refine gf_X2_kept (pc := 10) hX dX2_dropOldest_10 hX2 (List.mem_of_getElem? (i := 1) rfl) 0 rfl rfl ?_
  refine w_qlen (pc := 13) hX dX2_dropOldest_13 1 rfl ?_
  refine w_icmp_geT (pc := 14) (tgt := 52) hX dX2_dropOldest_14 (by decide) (by decide) ?_
  refine w_aload_n (pc := 52) hX dX2_dropOldest_52 rfl rfl ?_
  refine w_dup (pc := 53) hX dX2_dropOldest_53 rfl ?_
  refine gf_X2_states (pc := 54) hX dX2_dropOldest_54 hX2 (List.mem_of_getElem? (i := 2) rfl) 0 rfl rfl ?_
  refine w_iconst (pc := 57) hX dX2_dropOldest_57 ic_1 ?_
  refine w_isub (pc := 58) hX dX2_dropOldest_58 ?_
  refine pf_X2_states (pc := 59) hX dX2_dropOldest_59 hX2 (List.mem_of_getElem? (i := 2) rfl) 0 rfl rfl ?_
  refine w_qq (g := qH a (h.2.1 + 1)) 1 rfl (fun j hj => ?_) ?_
  · have f0 : (0 + (h.2.1 + 1)) % 4 = 0 := by omega
    have f1 : (1 + (h.2.1 + 1)) % 4 = 1 := by omega
    have f2 : (2 + (h.2.1 + 1)) % 4 = 2 := by omega
    have f3 : (3 + (h.2.1 + 1)) % 4 = 3 := by omega
    have i0 : (0 : Int32).toNatClampNeg = 0 := by decide
    have i1 : ((0 : Int32) + 1).toNatClampNeg = 1 := by decide
    have i2 : ((0 : Int32) + 1 + 1).toNatClampNeg = 2 := by decide
    have i3 : ((0 : Int32) + 1 + 1 + 1).toNatClampNeg = 3 := by decide
    rcases (show j = 0 ∨ j = 1 ∨ j = 2 ∨ j = 3 by omega) with rfl | rfl | rfl | rfl <;> simp only [va_up, qH, i0, i1, i2, i3, f0, f1, f2, f3] <;> rfl
  exact w_vret (pc := 62) hX hR dX2_dropOldest_62 ⟨rfl, rfl⟩
