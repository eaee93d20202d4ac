/-! FRAME: a judgement WW over pure pictures (world list, locals list, stack), contracts CT, one row an instruction; each branch, guard and call follows a model in Option -/
theorem inb_in {i : Int32} {n : Nat} (h : inb i n = true) : vp_in i n := by
  simp only [inb, Bool.and_eq_true, Bool.not_eq_true', decide_eq_false_iff_not, decide_eq_true_eq] at h
  intro q
  rcases q with q | q
  · exact h.1 q
  · omega
theorem zb_or {x : Int32} (h : zb x = true) : x = 0 ∨ x = 1 := by simpa [zb] using h
theorem nz_ne {x : Int32} (h : nz x = true) : ¬ x = 0 := by simpa [nz] using h
theorem gd_b {β : Type} {b : Bool} {k : Option β} {o : β} (h : gd b k = some o) : b = true := by cases b <;> simp_all [gd]
theorem gd_k {β : Type} {b : Bool} {k : Option β} {o : β} (h : gd b k = some o) : k = some o := by cases b <;> simp_all [gd]
theorem bnd {α β : Type} {c : Option α} {K : α → Option β} {o : β} (h : c.bind K = some o) : ∃ r, c = some r ∧ K r = some o := Option.bind_eq_some_iff.mp h
theorem ite_t {β : Type} {c : Prop} {inst : Decidable c} {A B : Option β} {o : β} (h : (@ite _ c inst A B) = some o) (hc : c) : A = some o := by rw [if_pos hc] at h; exact h
theorem ite_f {β : Type} {c : Prop} {inst : Decidable c} {A B : Option β} {o : β} (h : (@ite _ c inst A B) = some o) (hc : ¬ c) : B = some o := by rw [if_neg hc] at h; exact h
theorem tsw_out {x : Int32} {n : Nat} (h : ∀ i : Nat, i ≤ n → ¬ x = Int32.ofNat i) : x.toInt < (0 : Int) ∨ (n : Int) < x.toInt := by
  rcases Int.lt_or_le x.toInt 0 with q | q
  · exact Or.inl q
  · rcases Int.lt_or_le n x.toInt with q2 | q2
    · exact Or.inr q2
    · refine absurd ?_ (h x.toInt.toNat (by omega))
      apply Int32.toInt_inj.mp
      rw [Int32.toInt_ofNat_of_lt (by have := x.toInt_lt; omega)]
      omega
theorem som {β : Type} {a b : β} (h : some a = some b) : b = a := (Option.some.inj h).symm
theorem lpr_ind {σ β : Type} {L : (σ → Option β) → σ → Option β} {o : β} {T : σ → Prop} (hs : ∀ self, (∀ a, self a = some o → T a) → ∀ a, L self a = some o → T a) : ∀ n a, lpr L n a = some o → T a := by
  intro n
  induction n with
  | zero => intro a h; cases h
  | succ n ih => intro a h; exact hs _ ih a h
/-- the array classes of the worlds: int[], boolean[], Maze[] -/
abbrev gT : Type := va_G × (ClassId × ClassId × ClassId)
abbrev gY (G : gT) : List (ClassId × FieldType) := [(G.2.1, .int), (G.2.2.1, .boolean), (G.2.2.2, .object "PortraitMazes$Maze")]
def nsq : List (String × Nat × MethodName × String) :=
  [("PortraitMazes", 28, yX4_init, "PortraitMazes"), ("PortraitMazes", 35, yX6_init, "PortraitMazes"), ("PortraitMazes", 48, yX5_init, "PortraitMazes"), ("PortraitMazes", 55, yX0_init, "PortraitMazes"), ("PortraitMazes", 62, yX1_init, "PortraitMazes"),
   ("PortraitMazes$Builder", 48, yX7_at, "PortraitMazes"), ("PortraitMazes$Exchanger", 46, yX7_at, "PortraitMazes"), ("PortraitMazes$Exchanger", 91, yX7_put, "PortraitMazes"), ("PortraitMazes$Maze", 41, yX7_put, "PortraitMazes"), ("PortraitMazes$Maze", 53, yX7_at, "PortraitMazes"),
   ("PortraitMazes$Picture", 34, yX7_at, "PortraitMazes"), ("PortraitMazes$Picture", 70, yX7_put, "PortraitMazes"), ("PortraitMazes$Walk", 41, yX7_at, "PortraitMazes"), ("PortraitMazes$Walk", 65, yX7_put, "PortraitMazes"), ("PortraitMazes$Ways", 38, yX7_at, "PortraitMazes"), ("PortraitMazes$Ways", 59, yX7_put, "PortraitMazes")]
def nsc (q : String × Nat × MethodName × String) : Cond := .methodLinkNest q.1 q.2.1 q.2.2.1 q.2.2.2
def KK (G : gT) (U : State) : Prop := va_K G.1 vwCl (gY G) U ∧ ∀ q ∈ nsq, va_Nw (nsc q) U ∧ va_AO "PortraitMazes$Maze" U
theorem KK.warm {G : gT} {s U : State} (hW : s.WarmedH U.vm) (h : KK G s) : KK G U := ⟨va_K.moved hW.alike h.1, fun q hq => ⟨va_Nw.warmM hW (h.2 q hq).1, va_AO.moved hW.alike (h.2 q hq).2⟩⟩
theorem KK.same {G : gT} {u U : State} (hv : u.vm = U.vm) (h : KK G u) : KK G U := ⟨va_K.moved (by rw [hv]; exact Vm.Alike.refl U.vm) h.1, fun q hq => ⟨va_Nw.same rfl hv (h.2 q hq).1, va_AO.moved (by rw [hv]; exact Vm.Alike.refl U.vm) (h.2 q hq).2⟩⟩
theorem KK.ao {G : gT} {U : State} (h : KK G U) : va_AO "PortraitMazes$Maze" U := (h.2 ("PortraitMazes", 28, yX4_init, "PortraitMazes") (List.mem_of_getElem? (i := 0) rfl)).2
/-- the locals: those that are known, all of one slot -/
def lo_has (ls : Array Slot) (nL : Nat) (lv : List (Option Value)) : Prop := ls.size = nL ∧ lv_wf ls ∧ ∀ (i : Nat) (v : Value), lv[i]? = some (some v) → ls[i]? = some (.val v) ∧ v.category = 1
def lo_A (lv : List (Option Value)) : List (Nat × Value) := lv.zipIdx.filterMap (fun q => q.1.map (fun v => (q.2, v)))
theorem lo_mem {lv : List (Option Value)} {j : Nat} {w : Value} : (j, w) ∈ lo_A lv ↔ lv[j]? = some (some w) := by
  unfold lo_A
  rw [List.mem_filterMap]
  constructor
  · rintro ⟨⟨a, i⟩, h1, h2⟩
    rw [List.mem_zipIdx_iff_getElem?] at h1
    cases a with
    | none => cases h2
    | some v => cases h2; exact h1
  · intro h
    exact ⟨(some w, j), List.mem_zipIdx_iff_getElem?.mpr h, rfl⟩
theorem lo_to {ls : Array Slot} {nL : Nat} {lv : List (Option Value)} (h : lo_has ls nL lv) : lv_has ls nL (lo_A lv) := ⟨h.1, h.2.1, fun q hq => (h.2.2 q.1 q.2 (lo_mem.mp hq)).1⟩
theorem lo_set {ls ls' : Array Slot} {nL i : Nat} {lv : List (Option Value)} {v : Value} (h : lo_has ls nL lv) (hc : v.category = 1) (h1 : lv_has ls' nL ((i, v) :: (lo_A lv).filter (fun q => !(q.1 == i) && !(q.1 + 1 == i && q.2.category == 2)))) : lo_has ls' nL (lv.set i (some v)) := by
  refine ⟨h1.1, h1.2.1, fun j w hj => ?_⟩
  by_cases hji : j = i
  · subst hji
    have hw : w = v := by
      by_cases hl : j < lv.length
      · rw [List.getElem?_set_self hl] at hj; cases hj; rfl
      · rw [List.getElem?_eq_none (by rw [List.length_set]; omega)] at hj; cases hj
    subst hw
    exact ⟨h1.2.2 (j, w) List.mem_cons_self, hc⟩
  · rw [List.getElem?_set_ne (Ne.symm hji)] at hj
    obtain ⟨g1, g2⟩ := h.2.2 j w hj
    refine ⟨h1.2.2 (j, w) (List.mem_cons_of_mem _ (List.mem_filter.mpr ⟨lo_mem.mpr hj, ?_⟩)), g2⟩
    simp [hji, g2]
theorem lo_sub {ls : Array Slot} {nL : Nat} {lv lv' : List (Option Value)} (h : lo_has ls nL lv) (hs : ∀ (i : Nat) (v : Value), lv'[i]? = some (some v) → lv[i]? = some (some v)) : lo_has ls nL lv' := ⟨h.1, h.2.1, fun i v hi => h.2.2 i v (hs i v hi)⟩
abbrev xT : Type := Program × Launch × Env × Room × State × MethodId × Array Value × List Frame × Method × Code × Heap × (Nat → Prop) × (State → Prop) × Nat
def WW (G : gT) (X : xT) (k n : Nat) (ws : va_W) (lv : List (Option Value)) (pc : Nat) (st : List Value) : Prop := match X with
  | (p, l, e, R, s, m, args, below, meth, c, H0, A, Q, nL) => ∀ (H : Heap) (locs : List Loc) (ls : Array Slot), va_P G.1 vwCl ws H → va_D A ws → va_S A H0 H locs → lo_has ls nL lv → W p l e R s m args below meth c H locs k n Q (F0 m pc ls st)
/-- what a body stands on: the code, its class, its words, its locals, its room -/
def Ok (G : gT) (X : xT) (cc : ByteArray) (own : String) (Ts : List Cond) (nL : Nat) (rm : Room) : Prop := match X with
  | (p, _, _, R, s, m, args, _, meth, c, H0, A, _, nL') => p.tables.exec = Jvm.exec ∧ c.code = cc ∧ c.maxLocals = nL ∧ nL' = nL ∧ s.vm.findClass own = some m.cls ∧ (∀ w ∈ Ts, w.before args s = true) ∧ KK G s ∧ (∀ q : Nat, H0.size ≤ q → A q) ∧ meth.locks = false ∧ R = rm
/-- how a body ends -/
def CQ (G : gT) (P : Option Value → va_W → Prop) (A : Nat → Prop) : Array Value → State → Outcome → State → Prop := fun _ st oc t => (∃ v w1, oc = .returned v ∧ P v w1 ∧ va_P G.1 vwCl w1 t.heap ∧ va_D A w1) ∧ va_F A st t
def Rt (G : gT) (X : xT) (ret : Option FieldType) (P : Option Value → va_W → Prop) (mc ms : Nat) : Prop := match X with
  | (_, _, _, _, s, m, args, below, meth, _, H0, A, Q, _) => meth.sig.returnType = ret ∧ H0 = s.heap ∧ Q = MQ below (CQ G P A) args s mc ms A ∧ meth.name = meth.name
def Nm (X : xT) (nm : String) : Prop := match X with
  | (_, _, _, _, _, _, _, _, meth, _) => meth.name = nm
/-- a contract: of a method at any launch -/
def CT (G : gT) (y : MethodName) (wy : List Cond) (rm : Room) (av : List Value) (ws : va_W) (P : Option Value → va_W → Prop) : Prop :=
  ∀ (l : Launch) (sz : Nat), Met l y wy rm (va_Pc av (fun U => U.heap.size = sz ∧ va_P G.1 vwCl ws U.heap ∧ KK G U ∧ va_D (fun _ => True) ws)) (CQ G P (va_A ws sz)) rm.cells rm.slots (va_A ws sz)
theorem CT_of {G : gT} {y : MethodName} {wy ws' : List Cond} {rm : Room} {av : List Value} {ws : va_W} {P : Option Value → va_W → Prop} {cc : ByteArray} {maxL : Nat} {ret : Option FieldType} (k : Nat) (hy : plainName y.cls = true) (hw : wy = Cond.code y cc maxL ret :: ws')
    (hn : av.length + k = maxL) (hcat : ∀ v ∈ av, v.category = 1)
    (body : ∀ X : xT, Ok G X cc y.cls wy maxL rm → Rt G X ret P rm.cells rm.slots → Nm X y.name → WW G X 0 0 ws (av.map some ++ List.replicate k none) 0 []) : CT G y wy rm av ws P := by
  intro l sz
  refine Met.ofW (cc := cc) (maxL := maxL) (ret := ret) hy hw ?_
  intro p e s m args below meth c s₁ B hml hv
  obtain ⟨rfl, hsz, hP, hK, hD0⟩ := hv
  have hts := atoms_spec (ws := wy) B.pre
  have hown : s.vm.findClass y.cls = some m.cls := findClass_of_methodNamed B.named
  have hD := hD0.self (sz := sz)
  rw [lg_entry_eq]
  have hlg : lg_sl av = av.map Slot.val := by
    have : ∀ l : List Value, (∀ v ∈ l, v.category = 1) → lg_sl l = l.map Slot.val := by
      intro l hl
      induction l with
      | nil => rfl
      | cons a l ih =>
        have ha := hl a List.mem_cons_self
        have := ih (fun v hv => hl v (List.mem_cons_of_mem _ hv))
        simp only [lg_sl, List.flatMap_cons, List.map_cons] at this ⊢
        rw [this, if_neg (by omega)]
        rfl
    exact this av hcat
  have hlen : (lg_sl av).length = av.length := by rw [hlg, List.length_map]
  have hl := lv_entry av (n := maxL) (by omega)
  refine body (p, l, e, (headSpec wy rm).room, s, m, av.toArray, below, meth, c, s.heap, va_A ws sz, MQ below (CQ G P (va_A ws sz)) av.toArray s rm.cells rm.slots (va_A ws sz), maxL) ⟨B.exec, B.bytes, hml, rfl, hown, hts, hK, fun q hq => Or.inr (by omega), B.notSynchronized, rfl⟩ ⟨B.returns, rfl, rfl, rfl⟩ (name_of_methodNamed B.named B.method).1 s.heap [] _ hP hD va_S.rf ⟨hl.1, hl.2.1, fun i v hi => ?_⟩
  have hil : i < av.length := by
    rcases Nat.lt_or_ge i av.length with q | q
    · exact q
    · rw [List.getElem?_append_right (by rw [List.length_map]; exact q)] at hi
      rw [List.getElem?_replicate] at hi
      split at hi <;> cases hi
  rw [List.getElem?_append_left (by rw [List.length_map]; exact hil), List.getElem?_map] at hi
  cases ha : av[i]? with
  | none => rw [ha] at hi; cases hi
  | some w =>
    rw [ha] at hi
    cases hi
    refine ⟨?_, hcat v (List.mem_of_getElem? ha)⟩
    rw [List.getElem?_toArray, List.getElem?_append_left (by rw [hlen]; exact hil), hlg, List.getElem?_map, ha]
    rfl
section WROWS
variable {G : gT} {X : xT} {k n : Nat} {ws : va_W} {lv : List (Option Value)} {pc : Nat} {st : List Value} {cc : ByteArray} {own : String} {Ts : List Cond} {nL : Nat} {rm : Room} {β : Type} {o : β}
theorem w_iconst {i : Int} {v : Int32} (hX : Ok G X cc own Ts nL rm) (hd : decode cc pc = .ok (.iconst i, 1)) (hv : Int32.ofInt i = v) (kk : WW G X k n ws lv (pc + 1) (.int v :: st)) : WW G X k n ws lv pc st := by
  obtain ⟨p, l, e, R, s, m, args, below, meth, c, H0, A, Q, nL'⟩ := X
  exact fun H locs ls hP hD hS hl => lv_iconst hX.1 hX.2.1 hd hv (kk H locs ls hP hD hS hl)
theorem w_bipush {i : Int} {v : Int32} (hX : Ok G X cc own Ts nL rm) (hd : decode cc pc = .ok (.bipush i, 2)) (hv : (Int8.ofInt i).toInt32 = v) (kk : WW G X k n ws lv (pc + 2) (.int v :: st)) : WW G X k n ws lv pc st := by
  obtain ⟨p, l, e, R, s, m, args, below, meth, c, H0, A, Q, nL'⟩ := X
  exact fun H locs ls hP hD hS hl => lv_bipush hX.1 hX.2.1 hd hv (kk H locs ls hP hD hS hl)
theorem w_sipush {i : Int} {v : Int32} (hX : Ok G X cc own Ts nL rm) (hd : decode cc pc = .ok (.sipush i, 3)) (hv : (Int16.ofInt i).toInt32 = v) (kk : WW G X k n ws lv (pc + 3) (.int v :: st)) : WW G X k n ws lv pc st := by
  obtain ⟨p, l, e, R, s, m, args, below, meth, c, H0, A, Q, nL'⟩ := X
  exact fun H locs ls hP hD hS hl => lv_sipush hX.1 hX.2.1 hd hv (kk H locs ls hP hD hS hl)
theorem w_ldc {index : Nat} {v : Int32} (hX : Ok G X cc own Ts nL rm) (hd : decode cc pc = .ok (.ldc index, 2)) (hc : Cond.constant own index v ∈ Ts) (kk : WW G X k n ws lv (pc + 2) (.int v :: st)) : WW G X k n ws lv pc st := by
  obtain ⟨p, l, e, R, s, m, args, below, meth, c, H0, A, Q, nL'⟩ := X
  exact fun H locs ls hP hD hS hl => lv_ldc hX.1 hX.2.1 hX.2.2.2.2.1 (hX.2.2.2.2.2.1 _ hc) hd (kk H locs ls hP hD hS hl)
theorem w_ldc_w {index : Nat} {v : Int32} (hX : Ok G X cc own Ts nL rm) (hd : decode cc pc = .ok (.ldc_w index, 3)) (hc : Cond.constant own index v ∈ Ts) (kk : WW G X k n ws lv (pc + 3) (.int v :: st)) : WW G X k n ws lv pc st := by
  obtain ⟨p, l, e, R, s, m, args, below, meth, c, H0, A, Q, nL'⟩ := X
  exact fun H locs ls hP hD hS hl => lv_ldcw hX.1 hX.2.1 hX.2.2.2.2.1 (hX.2.2.2.2.2.1 _ hc) hd (kk H locs ls hP hD hS hl)
theorem w_lkp {dflt : Int} {ps : Array (Int × Int)} {len : Nat} {x : Int32} {off : Int} {tgt : Nat} (hX : Ok G X cc own Ts nL rm) (hd : decode cc pc = .ok (.lookupswitch dflt ps, len)) (hp : (ps.toList.zip (ps.toList.drop 1)).all (fun (a, next) => a.1 < next.1) = true) (ho : Op.lookupswitch.offset ps.toList dflt x.toInt = off) (ht : (pc : Int) + off = (tgt : Int)) (kk : WW G X k n ws lv tgt st) : WW G X k n ws lv pc (.int x :: st) := by
  obtain ⟨p, l, e, R, s, m, args, below, meth, c, H0, A, Q, nL'⟩ := X
  exact fun H locs ls hP hD hS hl => lv_lookup hX.1 hX.2.1 hd hp ho ht (kk H locs ls hP hD hS hl)
theorem w_iload_n {j : Fin 4} {i : Nat} {x : Int32} (hX : Ok G X cc own Ts nL rm) (hd : decode cc pc = .ok (.iload_n j, 1)) (hi : (j : Nat) = i) (hg : lv[i]? = some (some (.int x))) (kk : WW G X k n ws lv (pc + 1) (.int x :: st)) : WW G X k n ws lv pc st := by
  obtain ⟨p, l, e, R, s, m, args, below, meth, c, H0, A, Q, nL'⟩ := X
  exact fun H locs ls hP hD hS hl => lv_iload_n hX.1 hX.2.1 hd hi (hl.2.2 i _ hg).1 (kk H locs ls hP hD hS hl)
theorem w_iload {i : Nat} {x : Int32} (hX : Ok G X cc own Ts nL rm) (hd : decode cc pc = .ok (.iload i, 2)) (hg : lv[i]? = some (some (.int x))) (kk : WW G X k n ws lv (pc + 2) (.int x :: st)) : WW G X k n ws lv pc st := by
  obtain ⟨p, l, e, R, s, m, args, below, meth, c, H0, A, Q, nL'⟩ := X
  exact fun H locs ls hP hD hS hl => lv_iload hX.1 hX.2.1 hd (hl.2.2 i _ hg).1 (kk H locs ls hP hD hS hl)
theorem w_aload_n {j : Fin 4} {i : Nat} {x : Nat} (hX : Ok G X cc own Ts nL rm) (hd : decode cc pc = .ok (.aload_n j, 1)) (hi : (j : Nat) = i) (hg : lv[i]? = some (some (.ref x))) (kk : WW G X k n ws lv (pc + 1) (.ref x :: st)) : WW G X k n ws lv pc st := by
  obtain ⟨p, l, e, R, s, m, args, below, meth, c, H0, A, Q, nL'⟩ := X
  exact fun H locs ls hP hD hS hl => lv_aload_n hX.1 hX.2.1 hd hi (hl.2.2 i _ hg).1 (kk H locs ls hP hD hS hl)
theorem w_aload_nN {j : Fin 4} {i : Nat} (hX : Ok G X cc own Ts nL rm) (hd : decode cc pc = .ok (.aload_n j, 1)) (hi : (j : Nat) = i) (hg : lv[i]? = some (some .null)) (kk : WW G X k n ws lv (pc + 1) (.null :: st)) : WW G X k n ws lv pc st := by
  obtain ⟨p, l, e, R, s, m, args, below, meth, c, H0, A, Q, nL'⟩ := X
  exact fun H locs ls hP hD hS hl => lv_aload_nN hX.1 hX.2.1 hd hi (hl.2.2 i _ hg).1 (kk H locs ls hP hD hS hl)
theorem w_aload {i : Nat} {x : Nat} (hX : Ok G X cc own Ts nL rm) (hd : decode cc pc = .ok (.aload i, 2)) (hg : lv[i]? = some (some (.ref x))) (kk : WW G X k n ws lv (pc + 2) (.ref x :: st)) : WW G X k n ws lv pc st := by
  obtain ⟨p, l, e, R, s, m, args, below, meth, c, H0, A, Q, nL'⟩ := X
  exact fun H locs ls hP hD hS hl => lv_aload hX.1 hX.2.1 hd (hl.2.2 i _ hg).1 (kk H locs ls hP hD hS hl)
theorem w_istore_n {j : Fin 4} {i : Nat} {x : Int32} (hX : Ok G X cc own Ts nL rm) (hd : decode cc pc = .ok (.istore_n j, 1)) (hi : (j : Nat) = i) (hn : i < nL) (kk : WW G X k n ws (lv.set i (some (.int x))) (pc + 1) st) : WW G X k n ws lv pc (.int x :: st) := by
  obtain ⟨p, l, e, R, s, m, args, below, meth, c, H0, A, Q, nL'⟩ := X
  intro H locs ls hP hD hS hl
  have e : nL' = nL := hX.2.2.2.1
  subst e
  exact lv_istore_n hX.1 hX.2.1 hd hi (lo_to hl) hn rfl (fun ls' hl' => kk H locs ls' hP hD hS (lo_set hl rfl hl'))
theorem w_istore {i : Nat} {x : Int32} (hX : Ok G X cc own Ts nL rm) (hd : decode cc pc = .ok (.istore i, 2)) (hn : i < nL) (kk : WW G X k n ws (lv.set i (some (.int x))) (pc + 2) st) : WW G X k n ws lv pc (.int x :: st) := by
  obtain ⟨p, l, e, R, s, m, args, below, meth, c, H0, A, Q, nL'⟩ := X
  intro H locs ls hP hD hS hl
  have e : nL' = nL := hX.2.2.2.1
  subst e
  exact lv_istore hX.1 hX.2.1 hd (lo_to hl) hn rfl (fun ls' hl' => kk H locs ls' hP hD hS (lo_set hl rfl hl'))
theorem w_astore_n {j : Fin 4} {i : Nat} {x : Nat} (hX : Ok G X cc own Ts nL rm) (hd : decode cc pc = .ok (.astore_n j, 1)) (hi : (j : Nat) = i) (hn : i < nL) (kk : WW G X k n ws (lv.set i (some (.ref x))) (pc + 1) st) : WW G X k n ws lv pc (.ref x :: st) := by
  obtain ⟨p, l, e, R, s, m, args, below, meth, c, H0, A, Q, nL'⟩ := X
  intro H locs ls hP hD hS hl
  have e : nL' = nL := hX.2.2.2.1
  subst e
  exact lv_astore_n hX.1 hX.2.1 hd hi (lo_to hl) hn rfl (fun ls' hl' => kk H locs ls' hP hD hS (lo_set hl rfl hl'))
theorem w_astore {i : Nat} {x : Nat} (hX : Ok G X cc own Ts nL rm) (hd : decode cc pc = .ok (.astore i, 2)) (hn : i < nL) (kk : WW G X k n ws (lv.set i (some (.ref x))) (pc + 2) st) : WW G X k n ws lv pc (.ref x :: st) := by
  obtain ⟨p, l, e, R, s, m, args, below, meth, c, H0, A, Q, nL'⟩ := X
  intro H locs ls hP hD hS hl
  have e : nL' = nL := hX.2.2.2.1
  subst e
  exact lv_astore hX.1 hX.2.1 hd (lo_to hl) hn rfl (fun ls' hl' => kk H locs ls' hP hD hS (lo_set hl rfl hl'))
theorem w_astore_nN {j : Fin 4} {i : Nat} (hX : Ok G X cc own Ts nL rm) (hd : decode cc pc = .ok (.astore_n j, 1)) (hi : (j : Nat) = i) (hn : i < nL) (kk : WW G X k n ws (lv.set i (some (.null))) (pc + 1) st) : WW G X k n ws lv pc (.null :: st) := by
  obtain ⟨p, l, e, R, s, m, args, below, meth, c, H0, A, Q, nL'⟩ := X
  intro H locs ls hP hD hS hl
  have e : nL' = nL := hX.2.2.2.1
  subst e
  exact lv_astore_nN hX.1 hX.2.1 hd hi (lo_to hl) hn rfl (fun ls' hl' => kk H locs ls' hP hD hS (lo_set hl rfl hl'))
theorem w_astoreN {i : Nat} (hX : Ok G X cc own Ts nL rm) (hd : decode cc pc = .ok (.astore i, 2)) (hn : i < nL) (kk : WW G X k n ws (lv.set i (some (.null))) (pc + 2) st) : WW G X k n ws lv pc (.null :: st) := by
  obtain ⟨p, l, e, R, s, m, args, below, meth, c, H0, A, Q, nL'⟩ := X
  intro H locs ls hP hD hS hl
  have e : nL' = nL := hX.2.2.2.1
  subst e
  exact lv_astoreN hX.1 hX.2.1 hd (lo_to hl) hn rfl (fun ls' hl' => kk H locs ls' hP hD hS (lo_set hl rfl hl'))
theorem w_iinc {i : Nat} {d : Int} {x v : Int32} (hX : Ok G X cc own Ts nL rm) (hd : decode cc pc = .ok (.iinc i d, 3)) (hg : lv[i]? = some (some (.int x))) (hn : i < nL) (hv : Int32.ofInt d = v) (kk : WW G X k n ws (lv.set i (some (.int (x + v)))) (pc + 3) st) : WW G X k n ws lv pc st := by
  obtain ⟨p, l, e, R, s, m, args, below, meth, c, H0, A, Q, nL'⟩ := X
  intro H locs ls hP hD hS hl
  have e : nL' = nL := hX.2.2.2.1
  subst e
  subst hv
  obtain ⟨q, hq⟩ := List.getElem?_of_mem (lo_mem.mpr hg)
  exact lv_iinc hX.1 hX.2.1 hd (lo_to hl) hq rfl hn rfl (fun ls' hl' => kk H locs ls' hP hD hS (lo_set hl rfl hl'))
theorem w_iadd {x y : Int32} (hX : Ok G X cc own Ts nL rm) (hd : decode cc pc = .ok (.iadd, 1)) (kk : WW G X k n ws lv (pc + 1) (.int (x + y) :: st)) : WW G X k n ws lv pc (.int y :: .int x :: st) := by
  obtain ⟨p, l, e, R, s, m, args, below, meth, c, H0, A, Q, nL'⟩ := X
  exact fun H locs ls hP hD hS hl => lv_iadd hX.1 hX.2.1 hd (kk H locs ls hP hD hS hl)
theorem w_isub {x y : Int32} (hX : Ok G X cc own Ts nL rm) (hd : decode cc pc = .ok (.isub, 1)) (kk : WW G X k n ws lv (pc + 1) (.int (x - y) :: st)) : WW G X k n ws lv pc (.int y :: .int x :: st) := by
  obtain ⟨p, l, e, R, s, m, args, below, meth, c, H0, A, Q, nL'⟩ := X
  exact fun H locs ls hP hD hS hl => lv_isub hX.1 hX.2.1 hd (kk H locs ls hP hD hS hl)
theorem w_imul {x y : Int32} (hX : Ok G X cc own Ts nL rm) (hd : decode cc pc = .ok (.imul, 1)) (kk : WW G X k n ws lv (pc + 1) (.int (x * y) :: st)) : WW G X k n ws lv pc (.int y :: .int x :: st) := by
  obtain ⟨p, l, e, R, s, m, args, below, meth, c, H0, A, Q, nL'⟩ := X
  exact fun H locs ls hP hD hS hl => lv_imul hX.1 hX.2.1 hd (kk H locs ls hP hD hS hl)
theorem w_iand {x y : Int32} (hX : Ok G X cc own Ts nL rm) (hd : decode cc pc = .ok (.iand, 1)) (kk : WW G X k n ws lv (pc + 1) (.int (x &&& y) :: st)) : WW G X k n ws lv pc (.int y :: .int x :: st) := by
  obtain ⟨p, l, e, R, s, m, args, below, meth, c, H0, A, Q, nL'⟩ := X
  exact fun H locs ls hP hD hS hl => lv_iand hX.1 hX.2.1 hd (kk H locs ls hP hD hS hl)
theorem w_ior {x y : Int32} (hX : Ok G X cc own Ts nL rm) (hd : decode cc pc = .ok (.ior, 1)) (kk : WW G X k n ws lv (pc + 1) (.int (x ||| y) :: st)) : WW G X k n ws lv pc (.int y :: .int x :: st) := by
  obtain ⟨p, l, e, R, s, m, args, below, meth, c, H0, A, Q, nL'⟩ := X
  exact fun H locs ls hP hD hS hl => lv_ior hX.1 hX.2.1 hd (kk H locs ls hP hD hS hl)
theorem w_ixor {x y : Int32} (hX : Ok G X cc own Ts nL rm) (hd : decode cc pc = .ok (.ixor, 1)) (kk : WW G X k n ws lv (pc + 1) (.int (x ^^^ y) :: st)) : WW G X k n ws lv pc (.int y :: .int x :: st) := by
  obtain ⟨p, l, e, R, s, m, args, below, meth, c, H0, A, Q, nL'⟩ := X
  exact fun H locs ls hP hD hS hl => lv_ixor hX.1 hX.2.1 hd (kk H locs ls hP hD hS hl)
theorem w_ishl {x y : Int32} (hX : Ok G X cc own Ts nL rm) (hd : decode cc pc = .ok (.ishl, 1)) (kk : WW G X k n ws lv (pc + 1) (.int (x <<< (y &&& 31)) :: st)) : WW G X k n ws lv pc (.int y :: .int x :: st) := by
  obtain ⟨p, l, e, R, s, m, args, below, meth, c, H0, A, Q, nL'⟩ := X
  exact fun H locs ls hP hD hS hl => lv_ishl hX.1 hX.2.1 hd (kk H locs ls hP hD hS hl)
theorem w_ishr {x y : Int32} (hX : Ok G X cc own Ts nL rm) (hd : decode cc pc = .ok (.ishr, 1)) (kk : WW G X k n ws lv (pc + 1) (.int (x >>> (y &&& 31)) :: st)) : WW G X k n ws lv pc (.int y :: .int x :: st) := by
  obtain ⟨p, l, e, R, s, m, args, below, meth, c, H0, A, Q, nL'⟩ := X
  exact fun H locs ls hP hD hS hl => lv_ishr hX.1 hX.2.1 hd (kk H locs ls hP hD hS hl)
theorem w_iushr {x y : Int32} (hX : Ok G X cc own Ts nL rm) (hd : decode cc pc = .ok (.iushr, 1)) (kk : WW G X k n ws lv (pc + 1) (.int ((x.toUInt32 >>> (y.toUInt32 &&& Int32.toUInt32 31)).toInt32) :: st)) : WW G X k n ws lv pc (.int y :: .int x :: st) := by
  obtain ⟨p, l, e, R, s, m, args, below, meth, c, H0, A, Q, nL'⟩ := X
  exact fun H locs ls hP hD hS hl => lv_iushr hX.1 hX.2.1 hd rfl (kk H locs ls hP hD hS hl)
theorem w_idiv {x y : Int32} {K : Option β} (hX : Ok G X cc own Ts nL rm) (hd : decode cc pc = .ok (.idiv, 1)) (hm : gd (nz y) K = some o) (kk : K = some o → WW G X k n ws lv (pc + 1) (.int (x / y) :: st)) : WW G X k n ws lv pc (.int y :: .int x :: st) := by
  obtain ⟨p, l, e, R, s, m, args, below, meth, c, H0, A, Q, nL'⟩ := X
  exact fun H locs ls hP hD hS hl => lv_idiv hX.1 hX.2.1 hd (nz_ne (gd_b hm)) (kk (gd_k hm) H locs ls hP hD hS hl)
theorem w_irem {x y : Int32} {K : Option β} (hX : Ok G X cc own Ts nL rm) (hd : decode cc pc = .ok (.irem, 1)) (hm : gd (nz y) K = some o) (kk : K = some o → WW G X k n ws lv (pc + 1) (.int (x - x / y * y) :: st)) : WW G X k n ws lv pc (.int y :: .int x :: st) := by
  obtain ⟨p, l, e, R, s, m, args, below, meth, c, H0, A, Q, nL'⟩ := X
  exact fun H locs ls hP hD hS hl => lv_irem hX.1 hX.2.1 hd (nz_ne (gd_b hm)) (kk (gd_k hm) H locs ls hP hD hS hl)
theorem w_ineg {x : Int32} (hX : Ok G X cc own Ts nL rm) (hd : decode cc pc = .ok (.ineg, 1)) (kk : WW G X k n ws lv (pc + 1) (.int (-x) :: st)) : WW G X k n ws lv pc (.int x :: st) := by
  obtain ⟨p, l, e, R, s, m, args, below, meth, c, H0, A, Q, nL'⟩ := X
  exact fun H locs ls hP hD hS hl => lv_ineg hX.1 hX.2.1 hd (kk H locs ls hP hD hS hl)
theorem w_dup {a : Value} (hX : Ok G X cc own Ts nL rm) (hd : decode cc pc = .ok (.dup, 1)) (ha : a.category = 1) (kk : WW G X k n ws lv (pc + 1) (a :: a :: st)) : WW G X k n ws lv pc (a :: st) := by
  obtain ⟨p, l, e, R, s, m, args, below, meth, c, H0, A, Q, nL'⟩ := X
  exact fun H locs ls hP hD hS hl => lv_dup hX.1 hX.2.1 hd ha (kk H locs ls hP hD hS hl)
theorem w_dup2 {a b : Value} (hX : Ok G X cc own Ts nL rm) (hd : decode cc pc = .ok (.dup2, 1)) (ha : a.category = 1) (hb : b.category = 1) (kk : WW G X k n ws lv (pc + 1) (a :: b :: a :: b :: st)) : WW G X k n ws lv pc (a :: b :: st) := by
  obtain ⟨p, l, e, R, s, m, args, below, meth, c, H0, A, Q, nL'⟩ := X
  exact fun H locs ls hP hD hS hl => lv_dup2_11 hX.1 hX.2.1 hd ha hb (kk H locs ls hP hD hS hl)
theorem w_pop {a : Value} (hX : Ok G X cc own Ts nL rm) (hd : decode cc pc = .ok (.pop, 1)) (ha : a.category = 1) (kk : WW G X k n ws lv (pc + 1) st) : WW G X k n ws lv pc (a :: st) := by
  obtain ⟨p, l, e, R, s, m, args, below, meth, c, H0, A, Q, nL'⟩ := X
  exact fun H locs ls hP hD hS hl => lv_pop hX.1 hX.2.1 hd ha (kk H locs ls hP hD hS hl)
theorem w_icmp_eq {x y : Int32} {off : Int} {tgt : Nat} {inst : Decidable (x = y)} {B C : Option β} (hX : Ok G X cc own Ts nL rm) (hd : decode cc pc = .ok (.if_icmp .eq off, 3)) (ht : (pc : Int) + off = (tgt : Int)) (hm : (@ite _ (x = y) inst B C) = some o) (kt : B = some o → WW G X k n ws lv tgt st) (kf : C = some o → WW G X k n ws lv (pc + 3) st) : WW G X k n ws lv pc (.int y :: .int x :: st) := by
  obtain ⟨p, l, e, R, s, m, args, below, meth, c, H0, A, Q, nL'⟩ := X
  exact fun H locs ls hP hD hS hl => lv_icmp_eq hX.1 hX.2.1 hd ht (fun q => kt (ite_t hm q) H locs ls hP hD hS hl) (fun q => kf (ite_f hm q) H locs ls hP hD hS hl)
theorem w_if_eq {x : Int32} {off : Int} {tgt : Nat} {inst : Decidable (x = 0)} {B C : Option β} (hX : Ok G X cc own Ts nL rm) (hd : decode cc pc = .ok (.ifCond .eq off, 3)) (ht : (pc : Int) + off = (tgt : Int)) (hm : (@ite _ (x = 0) inst B C) = some o) (kt : B = some o → WW G X k n ws lv tgt st) (kf : C = some o → WW G X k n ws lv (pc + 3) st) : WW G X k n ws lv pc (.int x :: st) := by
  obtain ⟨p, l, e, R, s, m, args, below, meth, c, H0, A, Q, nL'⟩ := X
  exact fun H locs ls hP hD hS hl => lv_if_eq hX.1 hX.2.1 hd ht (fun q => kt (ite_t hm q) H locs ls hP hD hS hl) (fun q => kf (ite_f hm q) H locs ls hP hD hS hl)
theorem w_icmp_ne {x y : Int32} {off : Int} {tgt : Nat} {inst : Decidable (x = y)} {B C : Option β} (hX : Ok G X cc own Ts nL rm) (hd : decode cc pc = .ok (.if_icmp .ne off, 3)) (ht : (pc : Int) + off = (tgt : Int)) (hm : (@ite _ (x = y) inst C B) = some o) (kt : B = some o → WW G X k n ws lv tgt st) (kf : C = some o → WW G X k n ws lv (pc + 3) st) : WW G X k n ws lv pc (.int y :: .int x :: st) := by
  obtain ⟨p, l, e, R, s, m, args, below, meth, c, H0, A, Q, nL'⟩ := X
  exact fun H locs ls hP hD hS hl => lv_icmp_ne hX.1 hX.2.1 hd ht (fun q => kt (ite_f hm (by simpa using q)) H locs ls hP hD hS hl) (fun q => kf (ite_t hm (by simpa using q)) H locs ls hP hD hS hl)
theorem w_if_ne {x : Int32} {off : Int} {tgt : Nat} {inst : Decidable (x = 0)} {B C : Option β} (hX : Ok G X cc own Ts nL rm) (hd : decode cc pc = .ok (.ifCond .ne off, 3)) (ht : (pc : Int) + off = (tgt : Int)) (hm : (@ite _ (x = 0) inst C B) = some o) (kt : B = some o → WW G X k n ws lv tgt st) (kf : C = some o → WW G X k n ws lv (pc + 3) st) : WW G X k n ws lv pc (.int x :: st) := by
  obtain ⟨p, l, e, R, s, m, args, below, meth, c, H0, A, Q, nL'⟩ := X
  exact fun H locs ls hP hD hS hl => lv_if_ne hX.1 hX.2.1 hd ht (fun q => kt (ite_f hm (by simpa using q)) H locs ls hP hD hS hl) (fun q => kf (ite_t hm (by simpa using q)) H locs ls hP hD hS hl)
theorem w_icmp_lt {x y : Int32} {off : Int} {tgt : Nat} {inst : Decidable (x < y)} {B C : Option β} (hX : Ok G X cc own Ts nL rm) (hd : decode cc pc = .ok (.if_icmp .lt off, 3)) (ht : (pc : Int) + off = (tgt : Int)) (hm : (@ite _ (x < y) inst B C) = some o) (kt : B = some o → WW G X k n ws lv tgt st) (kf : C = some o → WW G X k n ws lv (pc + 3) st) : WW G X k n ws lv pc (.int y :: .int x :: st) := by
  obtain ⟨p, l, e, R, s, m, args, below, meth, c, H0, A, Q, nL'⟩ := X
  exact fun H locs ls hP hD hS hl => lv_icmp_lt hX.1 hX.2.1 hd ht (fun q => kt (ite_t hm q) H locs ls hP hD hS hl) (fun q => kf (ite_f hm q) H locs ls hP hD hS hl)
theorem w_if_lt {x : Int32} {off : Int} {tgt : Nat} {inst : Decidable (x < 0)} {B C : Option β} (hX : Ok G X cc own Ts nL rm) (hd : decode cc pc = .ok (.ifCond .lt off, 3)) (ht : (pc : Int) + off = (tgt : Int)) (hm : (@ite _ (x < 0) inst B C) = some o) (kt : B = some o → WW G X k n ws lv tgt st) (kf : C = some o → WW G X k n ws lv (pc + 3) st) : WW G X k n ws lv pc (.int x :: st) := by
  obtain ⟨p, l, e, R, s, m, args, below, meth, c, H0, A, Q, nL'⟩ := X
  exact fun H locs ls hP hD hS hl => lv_if_lt hX.1 hX.2.1 hd ht (fun q => kt (ite_t hm q) H locs ls hP hD hS hl) (fun q => kf (ite_f hm q) H locs ls hP hD hS hl)
theorem w_icmp_ge {x y : Int32} {off : Int} {tgt : Nat} {inst : Decidable (y ≤ x)} {B C : Option β} (hX : Ok G X cc own Ts nL rm) (hd : decode cc pc = .ok (.if_icmp .ge off, 3)) (ht : (pc : Int) + off = (tgt : Int)) (hm : (@ite _ (y ≤ x) inst B C) = some o) (kt : B = some o → WW G X k n ws lv tgt st) (kf : C = some o → WW G X k n ws lv (pc + 3) st) : WW G X k n ws lv pc (.int y :: .int x :: st) := by
  obtain ⟨p, l, e, R, s, m, args, below, meth, c, H0, A, Q, nL'⟩ := X
  exact fun H locs ls hP hD hS hl => lv_icmp_ge hX.1 hX.2.1 hd ht (fun q => kt (ite_t hm q) H locs ls hP hD hS hl) (fun q => kf (ite_f hm q) H locs ls hP hD hS hl)
theorem w_if_ge {x : Int32} {off : Int} {tgt : Nat} {inst : Decidable (0 ≤ x)} {B C : Option β} (hX : Ok G X cc own Ts nL rm) (hd : decode cc pc = .ok (.ifCond .ge off, 3)) (ht : (pc : Int) + off = (tgt : Int)) (hm : (@ite _ (0 ≤ x) inst B C) = some o) (kt : B = some o → WW G X k n ws lv tgt st) (kf : C = some o → WW G X k n ws lv (pc + 3) st) : WW G X k n ws lv pc (.int x :: st) := by
  obtain ⟨p, l, e, R, s, m, args, below, meth, c, H0, A, Q, nL'⟩ := X
  exact fun H locs ls hP hD hS hl => lv_if_ge hX.1 hX.2.1 hd ht (fun q => kt (ite_t hm q) H locs ls hP hD hS hl) (fun q => kf (ite_f hm q) H locs ls hP hD hS hl)
theorem w_icmp_gt {x y : Int32} {off : Int} {tgt : Nat} {inst : Decidable (y < x)} {B C : Option β} (hX : Ok G X cc own Ts nL rm) (hd : decode cc pc = .ok (.if_icmp .gt off, 3)) (ht : (pc : Int) + off = (tgt : Int)) (hm : (@ite _ (y < x) inst B C) = some o) (kt : B = some o → WW G X k n ws lv tgt st) (kf : C = some o → WW G X k n ws lv (pc + 3) st) : WW G X k n ws lv pc (.int y :: .int x :: st) := by
  obtain ⟨p, l, e, R, s, m, args, below, meth, c, H0, A, Q, nL'⟩ := X
  exact fun H locs ls hP hD hS hl => lv_icmp_gt hX.1 hX.2.1 hd ht (fun q => kt (ite_t hm q) H locs ls hP hD hS hl) (fun q => kf (ite_f hm q) H locs ls hP hD hS hl)
theorem w_if_gt {x : Int32} {off : Int} {tgt : Nat} {inst : Decidable (0 < x)} {B C : Option β} (hX : Ok G X cc own Ts nL rm) (hd : decode cc pc = .ok (.ifCond .gt off, 3)) (ht : (pc : Int) + off = (tgt : Int)) (hm : (@ite _ (0 < x) inst B C) = some o) (kt : B = some o → WW G X k n ws lv tgt st) (kf : C = some o → WW G X k n ws lv (pc + 3) st) : WW G X k n ws lv pc (.int x :: st) := by
  obtain ⟨p, l, e, R, s, m, args, below, meth, c, H0, A, Q, nL'⟩ := X
  exact fun H locs ls hP hD hS hl => lv_if_gt hX.1 hX.2.1 hd ht (fun q => kt (ite_t hm q) H locs ls hP hD hS hl) (fun q => kf (ite_f hm q) H locs ls hP hD hS hl)
theorem w_icmp_le {x y : Int32} {off : Int} {tgt : Nat} {inst : Decidable (x ≤ y)} {B C : Option β} (hX : Ok G X cc own Ts nL rm) (hd : decode cc pc = .ok (.if_icmp .le off, 3)) (ht : (pc : Int) + off = (tgt : Int)) (hm : (@ite _ (x ≤ y) inst B C) = some o) (kt : B = some o → WW G X k n ws lv tgt st) (kf : C = some o → WW G X k n ws lv (pc + 3) st) : WW G X k n ws lv pc (.int y :: .int x :: st) := by
  obtain ⟨p, l, e, R, s, m, args, below, meth, c, H0, A, Q, nL'⟩ := X
  exact fun H locs ls hP hD hS hl => lv_icmp_le hX.1 hX.2.1 hd ht (fun q => kt (ite_t hm q) H locs ls hP hD hS hl) (fun q => kf (ite_f hm q) H locs ls hP hD hS hl)
theorem w_if_le {x : Int32} {off : Int} {tgt : Nat} {inst : Decidable (x ≤ 0)} {B C : Option β} (hX : Ok G X cc own Ts nL rm) (hd : decode cc pc = .ok (.ifCond .le off, 3)) (ht : (pc : Int) + off = (tgt : Int)) (hm : (@ite _ (x ≤ 0) inst B C) = some o) (kt : B = some o → WW G X k n ws lv tgt st) (kf : C = some o → WW G X k n ws lv (pc + 3) st) : WW G X k n ws lv pc (.int x :: st) := by
  obtain ⟨p, l, e, R, s, m, args, below, meth, c, H0, A, Q, nL'⟩ := X
  exact fun H locs ls hP hD hS hl => lv_if_le hX.1 hX.2.1 hd ht (fun q => kt (ite_t hm q) H locs ls hP hD hS hl) (fun q => kf (ite_f hm q) H locs ls hP hD hS hl)
theorem w_goto {off : Int} {tgt : Nat} (hX : Ok G X cc own Ts nL rm) (hd : decode cc pc = .ok (.goto off, 3)) (ht : (pc : Int) + off = (tgt : Int)) (kk : WW G X k n ws lv tgt st) : WW G X k n ws lv pc st := by
  obtain ⟨p, l, e, R, s, m, args, below, meth, c, H0, A, Q, nL'⟩ := X
  exact fun H locs ls hP hD hS hl => lv_goto hX.1 hX.2.1 hd ht (kk H locs ls hP hD hS hl)
theorem w_ifnull {a : Nat} {off : Int} (hX : Ok G X cc own Ts nL rm) (hd : decode cc pc = .ok (.ifnull off, 3)) (kk : WW G X k n ws lv (pc + 3) st) : WW G X k n ws lv pc (.ref a :: st) := by
  obtain ⟨p, l, e, R, s, m, args, below, meth, c, H0, A, Q, nL'⟩ := X
  exact fun H locs ls hP hD hS hl => lv_ifnull hX.1 hX.2.1 hd (kk H locs ls hP hD hS hl)
theorem w_ifnullN {off : Int} {tgt : Nat} (hX : Ok G X cc own Ts nL rm) (hd : decode cc pc = .ok (.ifnull off, 3)) (ht : (pc : Int) + off = (tgt : Int)) (kk : WW G X k n ws lv tgt st) : WW G X k n ws lv pc (.null :: st) := by
  obtain ⟨p, l, e, R, s, m, args, below, meth, c, H0, A, Q, nL'⟩ := X
  exact fun H locs ls hP hD hS hl => lv_ifnullN hX.1 hX.2.1 hd ht (kk H locs ls hP hD hS hl)
theorem w_ifnonnull {a : Nat} {off : Int} {tgt : Nat} (hX : Ok G X cc own Ts nL rm) (hd : decode cc pc = .ok (.ifnonnull off, 3)) (ht : (pc : Int) + off = (tgt : Int)) (kk : WW G X k n ws lv tgt st) : WW G X k n ws lv pc (.ref a :: st) := by
  obtain ⟨p, l, e, R, s, m, args, below, meth, c, H0, A, Q, nL'⟩ := X
  exact fun H locs ls hP hD hS hl => lv_ifnonnull hX.1 hX.2.1 hd ht (kk H locs ls hP hD hS hl)
theorem w_ifnonnullN {off : Int} (hX : Ok G X cc own Ts nL rm) (hd : decode cc pc = .ok (.ifnonnull off, 3)) (kk : WW G X k n ws lv (pc + 3) st) : WW G X k n ws lv pc (.null :: st) := by
  obtain ⟨p, l, e, R, s, m, args, below, meth, c, H0, A, Q, nL'⟩ := X
  exact fun H locs ls hP hD hS hl => lv_ifnonnullN hX.1 hX.2.1 hd (kk H locs ls hP hD hS hl)
theorem w_null (hX : Ok G X cc own Ts nL rm) (hd : decode cc pc = .ok (.aconst_null, 1)) (kk : WW G X k n ws lv (pc + 1) (.null :: st)) : WW G X k n ws lv pc st := by
  obtain ⟨p, l, e, R, s, m, args, below, meth, c, H0, A, Q, nL'⟩ := X
  exact fun H locs ls hP hD hS hl => lv_null hX.1 hX.2.1 hd (kk H locs ls hP hD hS hl)
theorem w_tabIn {dflt lo hi : Int} {offs : Array Int} {len : Nat} {x : Int32} {off : Int} {tgt : Nat} (hX : Ok G X cc own Ts nL rm) (hd : decode cc pc = .ok (.tableswitch dflt lo hi offs, len)) (i : Int) (hx : x.toInt = i) (h1 : ¬ i < lo) (h2 : ¬ hi < i) (ho : offs[(i - lo).toNat]? = some off) (ht : (pc : Int) + off = (tgt : Int)) (kk : WW G X k n ws lv tgt st) : WW G X k n ws lv pc (.int x :: st) := by
  obtain ⟨p, l, e, R, s, m, args, below, meth, c, H0, A, Q, nL'⟩ := X
  subst hx
  exact fun H locs ls hP hD hS hl => lv_tableIn hX.1 hX.2.1 hd h1 h2 ho ht (kk H locs ls hP hD hS hl)
theorem w_tabOut {dflt lo hi : Int} {offs : Array Int} {len : Nat} {x : Int32} {tgt : Nat} (hX : Ok G X cc own Ts nL rm) (hd : decode cc pc = .ok (.tableswitch dflt lo hi offs, len)) (h : x.toInt < lo ∨ hi < x.toInt) (ht : (pc : Int) + dflt = (tgt : Int)) (kk : WW G X k n ws lv tgt st) : WW G X k n ws lv pc (.int x :: st) := by
  obtain ⟨p, l, e, R, s, m, args, below, meth, c, H0, A, Q, nL'⟩ := X
  exact fun H locs ls hP hD hS hl => lv_tableOut hX.1 hX.2.1 hd h ht (kk H locs ls hP hD hS hl)
theorem w_get {C ref : String} {T : u_T} {N ci index a : Nat} {fs : List Value} {v : Value} (hX : Ok G X cc own Ts nL rm) (hd : decode cc pc = .ok (.getfield index, 3)) (hin : ∀ w ∈ u_ws C T N, w ∈ Ts) (q f : Nat) (he : ws[q]? = some (a, .inr (ci, fs))) (hc : vwCl[ci]? = some (C, T, N)) (hf : f < N) (hk : Cond.fieldLink own index ref (T f).2.1 (T f).2.2.1 ∈ Ts) (hr : (T f).1 = ref) (hv : fs[f]? = some v) (kk : WW G X k n ws lv (pc + 3) (v :: st)) : WW G X k n ws lv pc (.ref a :: st) := by
  obtain ⟨p, l, e, R, s, m, args, below, meth, c, H0, A, Q, nL'⟩ := X
  subst hr
  exact fun H locs ls hP hD hS hl => va_get hX.1 hX.2.1 hX.2.2.2.2.2.1 hin hX.2.2.2.2.1 hX.2.2.2.2.2.2.1.1 hP q he hc f hf (hX.2.2.2.2.2.1 _ hk) (fun _ h => h) hv hd (kk H locs ls hP hD hS hl)
theorem w_put {C ref : String} {T : u_T} {N ci index a : Nat} {fs : List Value} {v : Value} {ty : FieldType} (hX : Ok G X cc own Ts nL rm) (hd : decode cc pc = .ok (.putfield index, 3)) (hin : ∀ w ∈ u_ws C T N, w ∈ Ts) (ty0 : Nat → FieldType) (hty : ∀ k, k < N → parseFieldDescriptor (T k).2.2.1 = some (ty0 k)) (hnm : ∀ a, a < N → ∀ b, b < N → a ≠ b → (T a).2.1 ≠ (T b).2.1) (q f : Nat) (he : ws[q]? = some (a, .inr (ci, fs))) (hc : vwCl[ci]? = some (C, T, N)) (hf : f < N) (hk : Cond.fieldLink own index ref (T f).2.1 (T f).2.2.1 ∈ Ts) (hr : (T f).1 = ref) (hfin : (T f).2.2.2 = false) (htf : ty0 f = ty) (hn : narrow ty v = v) (hfit : fits ty v = true) (hl : f < fs.length) (kk : WW G X k n (ws.set q (a, .inr (ci, fs.set f v))) lv (pc + 3) st) : WW G X k n ws lv pc (v :: .ref a :: st) := by
  obtain ⟨p, l, e, R, s, m, args, below, meth, c, H0, A, Q, nL'⟩ := X
  subst hr
  exact fun H locs ls hP hD hS hl' => va_put hX.1 hX.2.1 hX.2.2.2.2.2.1 hin ty0 hty hnm hX.2.2.2.2.1 hX.2.2.2.2.2.2.1.1 hP hD hS q he hc f hf (hX.2.2.2.2.2.1 _ hk) (fun _ h => h) hfin (by rw [← htf]; exact hty f hf) hn hfit hl hd (fun H1 locs1 hP1 hD1 hS1 => kk H1 locs1 ls hP1 hD1 hS1 hl')
theorem w_putF {C ref : String} {T : u_T} {N ci index a : Nat} {fs : List Value} {v : Value} {ty : FieldType} (hX : Ok G X cc own Ts nL rm) (hnme : Nm X "<init>") (hd : decode cc pc = .ok (.putfield index, 3)) (hin : ∀ w ∈ u_ws C T N, w ∈ Ts) (ty0 : Nat → FieldType) (hty : ∀ k, k < N → parseFieldDescriptor (T k).2.2.1 = some (ty0 k)) (hnm : ∀ a, a < N → ∀ b, b < N → a ≠ b → (T a).2.1 ≠ (T b).2.1) (q f : Nat) (he : ws[q]? = some (a, .inr (ci, fs))) (hc : vwCl[ci]? = some (C, T, N)) (hf : f < N) (hk : Cond.fieldLink own index ref (T f).2.1 (T f).2.2.1 ∈ Ts) (hr : (T f).1 = ref) (hfin : (T f).2.2.2 = true) (hdc : (T f).1 = own) (htf : ty0 f = ty) (hn : narrow ty v = v) (hfit : fits ty v = true) (hl : f < fs.length) (kk : WW G X k n (ws.set q (a, .inr (ci, fs.set f v))) lv (pc + 3) st) : WW G X k n ws lv pc (v :: .ref a :: st) := by
  obtain ⟨p, l, e, R, s, m, args, below, meth, c, H0, A, Q, nL'⟩ := X
  subst hr
  exact fun H locs ls hP hD hS hl' => va_putF hX.1 hX.2.1 hX.2.2.2.2.2.1 hin ty0 hty hnm hX.2.2.2.2.1 hX.2.2.2.2.2.2.1.1 hP hD hS q he hc f hf (hX.2.2.2.2.2.1 _ hk) (fun _ h => h) hfin hnme hdc (by rw [← htf]; exact hty f hf) hn hfit hl hd (fun H1 locs1 hP1 hD1 hS1 => kk H1 locs1 ls hP1 hD1 hS1 hl')
theorem w_iald {a N : Nat} {f : nF} {i : Int32} {K : Option β} (hX : Ok G X cc own Ts nL rm) (hd : decode cc pc = .ok (.iaload, 1)) (q : Nat) (he : ws[q]? = some (a, .inl (G.2.1, N, .inl f))) (hm : gd (inb i N) K = some o) (kk : K = some o → WW G X k n ws lv (pc + 1) (.int (f i.toNatClampNeg) :: st)) : WW G X k n ws lv pc (.int i :: .ref a :: st) := by
  obtain ⟨p, l, e, R, s, m, args, below, meth, c, H0, A, Q, nL'⟩ := X
  exact fun H locs ls hP hD hS hl => va_iald hX.1 hX.2.1 hX.2.2.2.2.2.2.1.1 hP q 0 he rfl (inb_in (gd_b hm)) hd (kk (gd_k hm) H locs ls hP hD hS hl)
theorem w_zald {a N : Nat} {f : nF} {i : Int32} {K : Option β} (hX : Ok G X cc own Ts nL rm) (hd : decode cc pc = .ok (.baload, 1)) (q : Nat) (he : ws[q]? = some (a, .inl (G.2.2.1, N, .inl f))) (hm : gd (inb i N) K = some o) (kk : K = some o → WW G X k n ws lv (pc + 1) (.int (f i.toNatClampNeg) :: st)) : WW G X k n ws lv pc (.int i :: .ref a :: st) := by
  obtain ⟨p, l, e, R, s, m, args, below, meth, c, H0, A, Q, nL'⟩ := X
  exact fun H locs ls hP hD hS hl => va_zald hX.1 hX.2.1 hX.2.2.2.2.2.2.1.1 hP q 1 he rfl (inb_in (gd_b hm)) hd (kk (gd_k hm) H locs ls hP hD hS hl)
theorem w_iast {a N : Nat} {f : nF} {i x : Int32} {K : Option β} (hX : Ok G X cc own Ts nL rm) (hd : decode cc pc = .ok (.iastore, 1)) (q : Nat) (he : ws[q]? = some (a, .inl (G.2.1, N, .inl f))) (hm : gd (inb i N) K = some o) (kk : K = some o → WW G X k n (ws.set q (a, .inl (G.2.1, N, .inl (upd f i.toNatClampNeg x)))) lv (pc + 1) st) : WW G X k n ws lv pc (.int x :: .int i :: .ref a :: st) := by
  obtain ⟨p, l, e, R, s, m, args, below, meth, c, H0, A, Q, nL'⟩ := X
  exact fun H locs ls hP hD hS hl => va_iast hX.1 hX.2.1 hX.2.2.2.2.2.2.1.1 hP hD hS q 0 he rfl (inb_in (gd_b hm)) hd (fun H1 locs1 hP1 hD1 hS1 => kk (gd_k hm) H1 locs1 ls hP1 hD1 hS1 hl)
theorem w_zast {a N : Nat} {f : nF} {i x : Int32} {K : Option β} (hX : Ok G X cc own Ts nL rm) (hd : decode cc pc = .ok (.bastore, 1)) (q : Nat) (he : ws[q]? = some (a, .inl (G.2.2.1, N, .inl f))) (hm : gd (inb i N) K = some o) (kk : K = some o → WW G X k n (ws.set q (a, .inl (G.2.2.1, N, .inl (upd f i.toNatClampNeg (vp_nar .boolean x))))) lv (pc + 1) st) : WW G X k n ws lv pc (.int x :: .int i :: .ref a :: st) := by
  obtain ⟨p, l, e, R, s, m, args, below, meth, c, H0, A, Q, nL'⟩ := X
  exact fun H locs ls hP hD hS hl => va_zast hX.1 hX.2.1 hX.2.2.2.2.2.2.1.1 hP hD hS q 1 he rfl (inb_in (gd_b hm)) hd (fun H1 locs1 hP1 hD1 hS1 => kk (gd_k hm) H1 locs1 ls hP1 hD1 hS1 hl)
theorem w_alen {a N : Nat} {f} (hX : Ok G X cc own Ts nL rm) (hd : decode cc pc = .ok (.arraylength, 1)) (q : Nat) (he : ws[q]? = some (a, .inl (G.2.1, N, f))) (kk : WW G X k n ws lv (pc + 1) (.int (Int32.ofNat N) :: st)) : WW G X k n ws lv pc (.ref a :: st) := by
  obtain ⟨p, l, e, R, s, m, args, below, meth, c, H0, A, Q, nL'⟩ := X
  exact fun H locs ls hP hD hS hl => va_alen hX.1 hX.2.1 hX.2.2.2.2.2.2.1.1 hP q 0 he rfl rfl hd (kk H locs ls hP hD hS hl)
theorem w_zlen {a N : Nat} {f} (hX : Ok G X cc own Ts nL rm) (hd : decode cc pc = .ok (.arraylength, 1)) (q : Nat) (he : ws[q]? = some (a, .inl (G.2.2.1, N, f))) (kk : WW G X k n ws lv (pc + 1) (.int (Int32.ofNat N) :: st)) : WW G X k n ws lv pc (.ref a :: st) := by
  obtain ⟨p, l, e, R, s, m, args, below, meth, c, H0, A, Q, nL'⟩ := X
  exact fun H locs ls hP hD hS hl => va_alen hX.1 hX.2.1 hX.2.2.2.2.2.2.1.1 hP q 1 he rfl rfl hd (kk H locs ls hP hD hS hl)
theorem w_qlen {a N : Nat} {f} (hX : Ok G X cc own Ts nL rm) (hd : decode cc pc = .ok (.arraylength, 1)) (q : Nat) (he : ws[q]? = some (a, .inl (G.2.2.2, N, f))) (kk : WW G X k n ws lv (pc + 1) (.int (Int32.ofNat N) :: st)) : WW G X k n ws lv pc (.ref a :: st) := by
  obtain ⟨p, l, e, R, s, m, args, below, meth, c, H0, A, Q, nL'⟩ := X
  exact fun H locs ls hP hD hS hl => va_alen hX.1 hX.2.1 hX.2.2.2.2.2.2.1.1 hP q 2 he rfl rfl hd (kk H locs ls hP hD hS hl)
end WROWS
