/-! TREES, second part: sides of a cut, exchanges, sums along ways -/
section TR
variable {C : Nat} {op op' : Op} {r c c' x y u v : Nat} {V : Nat → Prop} {len prev : Nat → Nat}
theorem pth_split (h : RT C op r V len prev) : ∀ n c, V c → len c = n → ∀ d ∈ pth prev n c, d ≠ r → ∃ s t, pth prev n c = s ++ d :: prev d :: t := by
  intro n
  induction n with
  | zero =>
    intro c hc hn d hd hr
    simp only [pth, List.mem_singleton] at hd
    subst hd
    have := (h.2.2.1 d hc hr).2.2
    omega
  | succ n ih =>
    intro c hc hn d hd hr
    have e : c ≠ r := by rintro rfl; rw [h.2.1] at hn; cases hn
    obtain ⟨h1, h2, h3⟩ := h.2.2.1 c hc e
    by_cases q : d = c
    · subst q
      refine ⟨[], (pth prev n (prev d)).tail, ?_⟩
      cases n <;> rfl
    · rcases List.mem_cons.mp hd with z | z
      · exact absurd z q
      · obtain ⟨s, t, hst⟩ := ih (prev c) h1 (by omega) d z hr
        exact ⟨c :: s, t, by show c :: pth prev n (prev c) = _; rw [hst]; rfl⟩
theorem wk_split {t : List Nat} {a b : Nat} : ∀ {s : List Nat}, Wk C op (s ++ a :: b :: t) → adj C op a b
  | [], h => h.1
  | [_], h => h.2.1
  | _ :: y :: s, h => wk_split (s := y :: s) h.2
/-- the side of a cut that is away from the root: the cells whose way goes through the deeper end -/
theorem cut_side (hC : 2 ≤ C) (hF : forest C op) (h : RT C op r V len prev) {k f : Nat} (hk : op k = true) (hf : f ≠ r) (hV : V f) (he : (pA k = f ∧ pB C k = prev f) ∨ (pA k = prev f ∧ pB C k = f)) (hc : V c) : f ∈ pth prev (len c) c ↔ ¬ conn C (setE op k false) r c := by
  constructor
  · intro hm hcn
    have hw := way_sub hC hF h (op' := setE op k false) del_mo hcn
    obtain ⟨s, t, hst⟩ := pth_split h _ c hc rfl f hm hf
    rw [hst] at hw
    obtain ⟨j, hj, hj2⟩ := wk_split (s := s) hw
    have : j = k := place_eq hC (by
      rcases hj2 with ⟨a, b⟩ | ⟨a, b⟩ <;> rcases he with ⟨d, e⟩ | ⟨d, e⟩ <;> simp [a, b, d, e])
    subst this
    rw [setE_self] at hj
    cases hj
  · intro hn
    apply Classical.byContradiction
    intro hm
    apply hn
    have key : ∀ n c, V c → len c = n → f ∉ pth prev n c → Wk C (setE op k false) (pth prev n c) := by
      intro n
      induction n with
      | zero => intro c _ _ _; trivial
      | succ n ih =>
        intro c hc hn2 hm
        have e : c ≠ r := by rintro rfl; rw [h.2.1] at hn2; cases hn2
        obtain ⟨h1, h2, h3⟩ := h.2.2.1 c hc e
        have hcf : c ≠ f := fun e => hm (by subst e; exact List.mem_cons_self)
        have h4 := ih (prev c) h1 (by omega) (fun q => hm (List.mem_cons_of_mem _ q))
        have ha : adj C (setE op k false) c (prev c) := by
          obtain ⟨j, hj, hj2⟩ := h2
          refine ⟨j, ?_, hj2.symm⟩
          by_cases ej : j = k
          · subst ej
            exfalso
            have hfl := (h.2.2.1 f hV hf).2.2
            rcases hj2 with ⟨a1, a2⟩ | ⟨a1, a2⟩ <;> rcases he with ⟨b1, b2⟩ | ⟨b1, b2⟩
            · have e1 : prev c = f := by rw [← a1, b1]
              have e2 : c = prev f := by rw [← a2, b2]
              rw [← e2, h3, e1] at hfl; omega
            · exact hcf (by rw [← a2, b2])
            · exact hcf (by rw [← a1, b1])
            · have e1 : prev c = f := by rw [← a2, b2]
              have e2 : c = prev f := by rw [← a1, b1]
              rw [← e2, h3, e1] at hfl; omega
          · rw [setE_ne ej]; exact hj
        cases n with
        | zero => exact ⟨ha, trivial⟩
        | succ n => exact ⟨ha, h4⟩
    have hw := key _ c hc rfl hm
    exact conn_sy (wk_conn hw pth_head (List.mem_of_getLast? (pth_last h _ c hc rfl)))
/-- the two sides of a cut of a whole maze -/
theorem two_sides {k : Nat} (hF : forest C op) (hk : op k = true) (hx : conn C op r x) (hy : conn C op r y) (nx : ¬ conn C (setE op k false) r x) (ny : ¬ conn C (setE op k false) r y) : conn C (setE op k false) x y := by
  have hop : setE (setE op k false) k true = op := by rw [setE_setE, setE_id hk]
  rw [← hop] at hx hy
  rcases conn_ins hx with a | ⟨a, b⟩ | ⟨a, b⟩ <;> rcases conn_ins hy with d | ⟨d, e⟩ | ⟨d, e⟩
  · exact absurd a nx
  · exact absurd a nx
  · exact absurd a nx
  · exact absurd d ny
  · exact conn_tr (conn_sy b) e
  · exact absurd (conn_tr (conn_sy a) d) (hF k hk)
  · exact absurd d ny
  · exact absurd (conn_tr (conn_sy d) a) (hF k hk)
  · exact conn_tr (conn_sy b) e
/-- the way from r to x behind an exchange that goes over the new passage (n, f) -/
theorem way_exch (hC : 2 ≤ C) (hF : forest C op) {k j n f : Nat} {V2 V3 : Nat → Prop} {len2 prev2 len3 prev3 : Nat → Nat} (h : RT C op r V len prev) (h2 : RT C op x V2 len2 prev2) (h3 : RT C (setE (setE op k false) j true) x V3 len3 prev3)
    (he : (pA j = n ∧ pB C j = f) ∨ (pA j = f ∧ pB C j = n)) (hn : conn C (setE op k false) r n) (hf : conn C (setE op k false) x f) (hnx : ¬ conn C (setE op k false) r x) : V3 r ∧ pth prev3 (len3 r) r = (pth prev (len n) n).reverse ++ pth prev2 (len2 f) f := by
  have hF' : forest C (setE (setE op k false) j true) := forest_ins (forest_del hF) (by
    rcases he with ⟨a, b⟩ | ⟨a, b⟩ <;> rw [a, b] <;> intro q
    · exact hnx (conn_tr hn (conn_tr q (conn_sy hf)))
    · exact hnx (conn_tr hn (conn_tr (conn_sy q) (conn_sy hf))))
  have hVn : V n := (rt_conn h).mpr (conn_mo del_mo hn)
  have hVf : V2 f := (rt_conn h2).mpr (conn_mo del_mo hf)
  have w1 := way_sub hC hF h (op' := setE op k false) del_mo hn
  have w2 := way_sub hC hF h2 (op' := setE op k false) del_mo hf
  have hl1 := pth_last h _ n hVn rfl
  have hl2 := pth_last h2 _ f hVf rfl
  have hw : Wk C (setE (setE op k false) j true) ((pth prev (len n) n).reverse ++ pth prev2 (len2 f) f) := by
    refine wk_app (wk_mo ins_mo (wk_rev w1)) (wk_mo ins_mo w2) (fun a b ha hb => ?_)
    rw [List.getLast?_reverse, pth_head] at ha
    rw [pth_head] at hb
    cases ha; cases hb
    exact ⟨j, setE_self, he⟩
  have hnd : ((pth prev (len n) n).reverse ++ pth prev2 (len2 f) f).Nodup := by
    rw [List.nodup_append]
    refine ⟨nd_rev (pth_nd h _ n hVn rfl), pth_nd h2 _ f hVf rfl, fun a ha b hb => ?_⟩
    rintro rfl
    have a1 := wk_conn w1 pth_head (List.mem_reverse.mp ha)
    have a2 := wk_conn w2 pth_head hb
    exact hnx (conn_tr hn (conn_tr a1 (conn_tr (conn_sy a2) (conn_sy hf))))
  have hhd : ((pth prev (len n) n).reverse ++ pth prev2 (len2 f) f).head? = some r := by
    rw [List.head?_append, List.head?_reverse, hl1]
    rfl
  have hls : ((pth prev (len n) n).reverse ++ pth prev2 (len2 f) f).getLast? = some x := by
    rw [List.getLast?_append, hl2]
    rfl
  have hv3 : V3 r := (rt_conn h3).mpr (conn_sy (wk_conn hw hhd (List.mem_of_getLast? hls)))
  exact ⟨hv3, (way_uniq hC hF' h3 _ r hw hnd hhd hv3 hls).symm⟩
/-- .. and one that leaves the way as it is -/
theorem way_keep (hC : 2 ≤ C) (hF : forest C op) {k j : Nat} {V3 : Nat → Prop} {len3 prev3 : Nat → Nat} (h2 : RT C op x V len prev) (h3 : RT C (setE (setE op k false) j true) x V3 len3 prev3)
    (hF' : forest C (setE (setE op k false) j true)) (hrx : conn C (setE op k false) x r) : V3 r ∧ pth prev3 (len3 r) r = pth prev (len r) r := by
  have hV : V r := (rt_conn h2).mpr (conn_mo del_mo hrx)
  have w := wk_mo (op' := setE (setE op k false) j true) ins_mo (way_sub hC hF h2 (op' := setE op k false) del_mo hrx)
  have hl := pth_last h2 _ r hV rfl
  have hv3 : V3 r := (rt_conn h3).mpr (conn_sy (wk_conn w pth_head (List.mem_of_getLast? hl)))
  exact ⟨hv3, (way_uniq hC hF' h3 _ r w (pth_nd h2 _ r hV rfl) pth_head hv3 hl).symm⟩
/-- the cells on the way between two: those from which both are together as far as they are from one another -/
theorem on_way (hC : 2 ≤ C) (hF : forest C op) {V2 : Nat → Prop} {len2 prev2 : Nat → Nat} (h : RT C op r V len prev) (h2 : RT C op x V2 len2 prev2) (hr : V2 r) (hc : V2 c) : c ∈ pth prev2 (len2 r) r ↔ V c ∧ len c + len2 c = len2 r := by
  have hVc : V c := (rt_conn h).mpr (conn_tr (conn_sy ((rt_conn h2).mp hr)) ((rt_conn h2).mp hc))
  constructor
  · intro hm
    refine ⟨hVc, ?_⟩
    obtain ⟨s, t, hst⟩ := List.append_of_mem hm
    have hw := pth_wk h2 _ r hr rfl
    have hnd := pth_nd h2 _ r hr rfl
    have hls := pth_last h2 _ r hr rfl
    have hhd := pth_head (prev := prev2) (n := len2 r) (c := r)
    have hlen := pth_len (prev := prev2) (n := len2 r) r
    rw [hst] at hw hnd hls hhd hlen
    have w2 : Wk C op (c :: t) := by
      have : ∀ s : List Nat, Wk C op (s ++ c :: t) → Wk C op (c :: t) := by
        intro s
        induction s with
        | nil => exact fun h => h
        | cons a s ih => exact fun h => ih (wk_tail h)
      exact this s hw
    have w1 : Wk C op (s ++ [c]) := by
      have : ∀ (s t : List Nat), Wk C op (s ++ c :: t) → Wk C op (s ++ [c]) := by
        intro s t
        induction s with
        | nil => intro _; trivial
        | cons a s ih =>
          intro hw
          cases s with
          | nil => exact ⟨hw.1, trivial⟩
          | cons b s => exact ⟨hw.1, ih hw.2⟩
      exact this s t hw
    have e2 := way_uniq hC hF h2 (c :: t) c w2 (List.nodup_append.mp hnd).2.1 rfl hc (by
      rw [List.getLast?_append] at hls
      cases ht : (c :: t).getLast? with
      | none => simp at ht
      | some q => rw [ht] at hls; simpa using hls)
    have n1 : (s ++ [c]).Nodup := by
      have : (s ++ [c] ++ t).Nodup := by simpa using hnd
      exact (List.nodup_append.mp this).1
    have e1 := way_uniq hC hF h (s ++ [c]).reverse c (wk_rev w1) (nd_rev n1) (by simp) hVc (by
      rw [List.getLast?_reverse]
      cases s with
      | nil => simpa using hhd
      | cons a s => simpa using hhd)
    have l1 := congrArg List.length e1
    have l2 := congrArg List.length e2
    rw [pth_len] at l1 l2
    simp at l1 l2 hlen
    omega
  · rintro ⟨-, hs⟩
    have w1 := pth_wk h _ c hVc rfl
    have w2 := pth_wk h2 _ c hc rfl
    have l1 := pth_last h _ c hVc rfl
    have l2 := pth_last h2 _ c hc rfl
    have key : (pth prev (len c) c).reverse ++ (pth prev2 (len2 c) c).tail = pth prev2 (len2 r) r := by
      refine way_short hC hF h2 _ r ?_ ?_ ?_ hr ?_
      · cases hp : len2 c with
        | zero => simp only [pth, List.tail_cons, List.append_nil]; exact wk_rev w1
        | succ n =>
          rw [hp] at w2
          have e : c ≠ x := by rintro rfl; rw [h2.2.1] at hp; cases hp
          refine wk_app (wk_rev w1) (wk_tail w2) (fun a b ha hb => ?_)
          rw [List.getLast?_reverse, pth_head] at ha
          cases ha
          have hb : (pth prev2 n (prev2 c)).head? = some b := hb
          rw [pth_head] at hb
          cases hb
          exact adj_sy (h2.2.2.1 c hc e).2.1
      · simp only [List.length_append, List.length_reverse, pth_len, List.length_tail]; omega
      · rw [List.head?_append, List.head?_reverse, l1]; rfl
      · rw [List.getLast?_append]
        cases hp : len2 c with
        | zero =>
          have e : c = x := Classical.byContradiction fun e => by have := (h2.2.2.1 c hc e).2.2; omega
          subst e
          simp only [pth, List.tail_cons, List.getLast?_nil, Option.none_or]
          rw [List.getLast?_reverse, pth_head]
        | succ n =>
          rw [hp] at l2
          have l2 : (c :: pth prev2 n (prev2 c)).getLast? = some x := l2
          show (pth prev2 n (prev2 c)).getLast?.or _ = _
          have : pth prev2 n (prev2 c) ≠ [] := by cases n <;> simp [pth]
          cases hq : pth prev2 n (prev2 c) with
          | nil => exact absurd hq this
          | cons a l => rw [hq] at l2; rw [List.getLast?_cons_cons] at l2; rw [l2]; rfl
    rw [← key]
    refine List.mem_append_left _ (List.mem_reverse.mpr ?_)
    cases len c <;> simp [pth]
end TR
/-- sums -/
def sumL (g : Nat → Int) : List Nat → Int
  | [] => 0
  | a :: l => g a + sumL g l
theorem sumL_app {g : Nat → Int} : ∀ {a b : List Nat}, sumL g (a ++ b) = sumL g a + sumL g b
  | [], b => by simp [sumL]
  | x :: a, b => by simp only [List.cons_append, sumL, sumL_app (a := a)]; omega
theorem sumL_rev {g : Nat → Int} : ∀ {a : List Nat}, sumL g a.reverse = sumL g a
  | [] => rfl
  | x :: a => by simp only [List.reverse_cons, sumL_app, sumL, sumL_rev (a := a)]; omega
def sumN (g : Nat → Int) : Nat → Int
  | 0 => 0
  | n + 1 => sumN g n + g n
theorem sumN_congr {f g : Nat → Int} {n : Nat} (h : ∀ c, c < n → f c = g c) : sumN f n = sumN g n := by
  induction n with
  | zero => rfl
  | succ n ih => simp only [sumN]; rw [ih (fun c hc => h c (by omega)), h n (by omega)]
theorem sumN_add {f g : Nat → Int} {n : Nat} : sumN (fun c => f c + g c) n = sumN f n + sumN g n := by
  induction n with
  | zero => rfl
  | succ n ih => simp only [sumN, ih]; omega
theorem sumN_0 {n : Nat} : sumN (fun _ => 0) n = 0 := by
  induction n with
  | zero => rfl
  | succ n ih => simp only [sumN, ih]; rfl
theorem sumN_one {g : Nat → Int} {a n : Nat} (h : a < n) : sumN (fun c => if c = a then g c else 0) n = g a := by
  induction n with
  | zero => omega
  | succ n ih =>
    simp only [sumN]
    by_cases e : n = a
    · subst e
      rw [if_pos rfl, sumN_congr (g := fun _ => 0) (fun c hc => if_neg (by omega)), sumN_0]
      omega
    · rw [if_neg e, ih (by omega)]; omega
/-- a sum over some cells without a repetition -/
theorem sumL_N {g : Nat → Int} {N : Nat} : ∀ {l : List Nat}, l.Nodup → (∀ c ∈ l, c < N) → sumN (fun c => if c ∈ l then g c else 0) N = sumL g l
  | [], _, _ => by simp only [List.not_mem_nil, if_false, sumL]; exact sumN_0
  | a :: l, hn, hl => by
    obtain ⟨n1, n2⟩ := List.nodup_cons.mp hn
    have ih := sumL_N (g := g) (N := N) n2 (fun c hc => hl c (List.mem_cons_of_mem _ hc))
    simp only [sumL]
    rw [← ih, ← sumN_one (g := g) (hl a List.mem_cons_self), ← sumN_add]
    refine sumN_congr (fun c _ => ?_)
    by_cases e : c = a
    · subst e; simp [n1]
    · simp [e]
