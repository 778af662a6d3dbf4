/-! lodging: from lists to numbers -/
def lst (f : Nat → Int) (n : Nat) : List Int := (List.range n).map f
theorem lst_s {f : Nat → Int} {n : Nat} : lst f (n + 1) = lst f n ++ [f n] := by
  unfold lst
  rw [List.range_succ, List.map_append]; rfl
theorem lst_cp {f : Nat → Int} {p : Int → Bool} : ∀ n : Nat, (lst f n).countP p = cnB (fun i => p (f i)) n
  | 0 => rfl
  | n + 1 => by
    have ih := lst_cp (f := f) (p := p) n
    rw [lst_s, List.countP_append, ih, List.countP_singleton]; rfl
theorem lst_in {f : Nat → Int} {n : Nat} {x : Int} : x ∈ lst f n ↔ ∃ i, i < n ∧ x = f i := by
  unfold lst
  rw [List.mem_map]
  constructor
  · rintro ⟨i, h1, h2⟩
    exact ⟨i, List.mem_range.mp h1, h2.symm⟩
  · rintro ⟨i, h1, h2⟩
    exact ⟨i, List.mem_range.mpr h1, h2.symm⟩
def prG (kn a : Int → Int) (c x : Int) : Bool := knn kn c x && !(decide (a c = a x) && !decide (a c = -9))
theorem prt_snoc {kn a : Int → Int} {x : Int} : ∀ l : List Int, prt kn a (l ++ [x]) = prt kn a l + l.countP (fun c => prG kn a c x)
  | [] => rfl
  | c :: l => by
    have ih := prt_snoc (kn := kn) (a := a) (x := x) l
    show (((l ++ [x]).filter (fun y => prG kn a c y)).length : Int) + prt kn a (l ++ [x]) = ((l.filter (fun y => prG kn a c y)).length : Int) + prt kn a l + ((c :: l).countP (fun c => prG kn a c x) : Nat)
    rw [ih, ← List.countP_eq_length_filter, ← List.countP_eq_length_filter, List.countP_append, List.countP_singleton, List.countP_cons]
    cases prG kn a c x <;> simp <;> omega
theorem prt_lst {kn a : Int → Int} {f : Nat → Int} : ∀ n : Nat, prt kn a (lst f n) = smB (fun i => cnB (fun t => prG kn a (f t) (f i)) i) n
  | 0 => rfl
  | n + 1 => by
    have ih := prt_lst (kn := kn) (a := a) (f := f) n
    rw [lst_s, prt_snoc, ih, lst_cp]; rfl
/-- an assignment, by names and by numbers -/
def isR (cm hm : Nat → Int) (n m : Nat) (a : Int → Int) (β : Nat → Nat) : Prop := ∀ i, i < n → (β i < m ∧ a (cm i) = hm (β i)) ∨ (m ≤ β i ∧ a (cm i) = -9)
def injN (f : Nat → Int) (n : Nat) : Prop := ∀ i j, i < n → j < n → f i = f j → i = j
def invA (cm hm : Nat → Int) (m : Nat) (β : Nat → Nat) : Nat → Int → Int
  | 0 => fun _ => -9
  | n + 1 => fun c => if c = cm n then (if β n < m then hm (β n) else -9) else invA cm hm m β n c
theorem invA_at {cm hm : Nat → Int} {m : Nat} {β : Nat → Nat} : ∀ {n : Nat}, injN cm n → ∀ i, i < n → invA cm hm m β n (cm i) = if β i < m then hm (β i) else -9
  | 0, _, i, hi => by omega
  | n + 1, h, i, hi => by
    have ih := invA_at (hm := hm) (m := m) (β := β) (n := n) (fun i j hi hj => h i j (by omega) (by omega))
    show (if cm i = cm n then (if β n < m then hm (β n) else -9) else invA cm hm m β n (cm i)) = _
    by_cases e : i = n
    · subst e; rw [if_pos rfl]
    · rw [if_neg (fun y => e (h i n hi (by omega) y))]
      exact ih i (by omega)
theorem R_of {cm hm : Nat → Int} {n m : Nat} (β : Nat → Nat) (hc : injN cm n) : isR cm hm n m (invA cm hm m β n) β := by
  intro i hi
  rw [invA_at hc i hi]
  by_cases l : β i < m
  · rw [if_pos l]; exact Or.inl ⟨l, rfl⟩
  · rw [if_neg l]; exact Or.inr ⟨by omega, rfl⟩
def fdH (hm : Nat → Int) (x : Int) (z : Nat) : Nat → Nat
  | 0 => z
  | j + 1 => if x = hm j then j else fdH hm x z j
theorem fdH_s {hm : Nat → Int} {x : Int} {z : Nat} : ∀ m : Nat, (fdH hm x z m < m ∧ x = hm (fdH hm x z m)) ∨ (fdH hm x z m = z ∧ ∀ j, j < m → ¬ x = hm j)
  | 0 => Or.inr ⟨rfl, fun j hj => by omega⟩
  | m + 1 => by
    have ih := fdH_s (hm := hm) (x := x) (z := z) m
    show ((if x = hm m then m else fdH hm x z m) < m + 1 ∧ x = hm (if x = hm m then m else fdH hm x z m)) ∨ _
    by_cases e : x = hm m
    · rw [if_pos e]; exact Or.inl ⟨by omega, e⟩
    · rcases ih with ⟨h1, h2⟩ | ⟨h1, h2⟩
      · rw [if_neg e]; exact Or.inl ⟨by omega, h2⟩
      · refine Or.inr ⟨by show (if x = hm m then m else fdH hm x z m) = z; rw [if_neg e]; exact h1, fun j hj => ?_⟩
        by_cases y : j = m
        · subst y; exact e
        · exact h2 j (by omega)
theorem of_R {cm hm : Nat → Int} {n m : Nat} {a : Int → Int} (h : ∀ i, i < n → a (cm i) = -9 ∨ ∃ j, j < m ∧ a (cm i) = hm j) (_h9 : ∀ j, j < m → ¬ hm j = -9) : isR cm hm n m a (fun i => fdH hm (a (cm i)) m m) := by
  intro i hi
  rcases fdH_s (hm := hm) (x := a (cm i)) (z := m) m with ⟨h1, h2⟩ | ⟨h1, h2⟩
  · exact Or.inl ⟨h1, h2⟩
  · refine Or.inr ⟨by show m ≤ fdH hm (a (cm i)) m m; omega, ?_⟩
    rcases h i hi with y | ⟨j, j1, j2⟩
    · exact y
    · exact absurd j2 (h2 j j1)
theorem R_j {cm hm : Nat → Int} {n m : Nat} {a : Int → Int} {β : Nat → Nat} (hR : isR cm hm n m a β) (hh : injN hm m) (h9 : ∀ j, j < m → ¬ hm j = -9) {i j : Nat} (hi : i < n) (hj : j < m) : β i = j ↔ a (cm i) = hm j := by
  constructor
  · intro e
    rcases hR i hi with y | y
    · rw [e] at y; exact y.2
    · omega
  · intro e
    rcases hR i hi with y | y
    · exact hh _ _ y.1 hj (by rw [← y.2]; exact e)
    · exact absurd (e.symm.trans y.2) (h9 j hj)
theorem R_9 {cm hm : Nat → Int} {n m : Nat} {a : Int → Int} {β : Nat → Nat} (hR : isR cm hm n m a β) (h9 : ∀ j, j < m → ¬ hm j = -9) {i : Nat} (hi : i < n) : a (cm i) = -9 ↔ ¬ β i < m := by
  rcases hR i hi with y | y
  · exact ⟨fun e => absurd (y.2.symm.trans e) (h9 _ y.1), fun e => absurd y.1 e⟩
  · exact ⟨fun _ => by omega, fun _ => y.2⟩
def tkL (sx ag ho : Int → Int) (cm hm : Nat → Int) (n : Nat) (j : Nat) : Nat := mkM (fun i => tks sx ag ho (hm j) (cm i)) n
def bdL (ho : Int → Int) (hm : Nat → Int) (j : Nat) : Nat := (ho (5 * hm j + 2)).toNat
def KL (kn : Int → Int) (cm : Nat → Int) (n : Nat) (i : Nat) : Nat := mkM (fun t => decide (¬ t = i) && knn kn (cm i) (cm t)) n
def ttK (kn : Int → Int) (cm : Nat → Int) (n : Nat) : Nat := smB (fun i => cnB (fun t => (KL kn cm n i).testBit t) i) n
theorem R_fs {sx ag ho : Int → Int} {cm hm : Nat → Int} {n m : Nat} {a : Int → Int} {β : Nat → Nat} (hn : n ≤ 12) (hR : isR cm hm n m a β) (hh : injN hm m) (h9 : ∀ j, j < m → ¬ hm j = -9) (hb : ∀ j, j < m → 0 ≤ ho (5 * hm j + 2)) : fsb sx ag ho (lst cm n) (lst hm m) a ↔ fsB n (tkL sx ag ho cm hm n) (bdL ho hm) m β := by
  have ld : ∀ j, j < m → ((lst cm n).filter (fun c => a c = hm j)).length = pcB (mkJ n β j) := by
    intro j hj
    rw [← List.countP_eq_length_filter, lst_cp]
    unfold mkJ
    rw [pcB_mk hn]
    refine cnB_congr (fun i hi => ?_)
    rw [decide_eq_decide]
    exact (R_j hR hh h9 hi hj).symm
  constructor
  · rintro ⟨h1, h2⟩ j hj
    constructor
    · have := h2 (hm j) (lst_in.mpr ⟨j, hj, rfl⟩)
      rw [ld j hj] at this
      have := hb j hj
      unfold bdL; omega
    · refine t_sub (fun i hi => ?_)
      unfold mkJ at hi
      rw [mkM_t] at hi
      have h3 := Bool.and_eq_true_iff.mp hi
      have hin := of_decide_eq_true h3.1
      have e := (R_j hR hh h9 hin hj).mp (of_decide_eq_true h3.2)
      unfold tkL
      rw [mkM_t, h3.1]
      rcases h1 (cm i) (lst_in.mpr ⟨i, hin, rfl⟩) with y | y
      · exact absurd (e.symm.trans y) (h9 j hj)
      · rw [e] at y; rw [y.2]; rfl
  · intro h
    constructor
    · intro c hc
      obtain ⟨i, hi, e⟩ := lst_in.mp hc
      subst e
      rcases hR i hi with y | y
      · refine Or.inr ⟨lst_in.mpr ⟨_, y.1, y.2⟩, ?_⟩
        have h3 : (mkJ n β (β i)).testBit i = true := by
          unfold mkJ
          rw [mkM_t, decide_eq_true hi, decide_eq_true rfl]; rfl
        have h4 := sub_t (h (β i) y.1).2 h3
        unfold tkL at h4
        rw [mkM_t] at h4
        rw [y.2]
        exact (Bool.and_eq_true_iff.mp h4).2
      · exact Or.inl y.2
    · intro x hx
      obtain ⟨j, hj, e⟩ := lst_in.mp hx
      subst e
      rw [ld j hj]
      have h3 := (h j hj).1
      have := hb j hj
      unfold bdL at h3
      omega
theorem cnB_not {p : Nat → Bool} : ∀ n : Nat, cnB (fun i => !p i) n + cnB p n = n
  | 0 => rfl
  | n + 1 => by
    have ih := cnB_not (p := p) n
    show cnB (fun i => !p i) n + (if (!p n) = true then 1 else 0) + (cnB p n + (if p n = true then 1 else 0)) = n + 1
    cases p n <;> simp <;> omega
theorem R_ov {cm hm : Nat → Int} {n m : Nat} {a : Int → Int} {β : Nat → Nat} (hn : n ≤ 12) (hR : isR cm hm n m a β) (h9 : ∀ j, j < m → ¬ hm j = -9) : ovr (lst cm n) a + pcB (mkL n β m) = n := by
  unfold ovr mkL
  rw [← List.countP_eq_length_filter, lst_cp, pcB_mk hn]
  have e : cnB (fun i => decide (a (cm i) = -9)) n = cnB (fun i => !decide (β i < m)) n := by
    refine cnB_congr (fun i hi => ?_)
    by_cases l : β i < m
    · rw [decide_eq_true l, decide_eq_false (fun y => (R_9 hR h9 hi).mp y l)]; rfl
    · rw [decide_eq_false l, decide_eq_true ((R_9 hR h9 hi).mpr l)]; rfl
  rw [e]
  have := cnB_not (p := fun i => decide (β i < m)) n
  omega
theorem knn_sym {kn : Int → Int} {a b : Int} : knn kn a b = knn kn b a := by
  unfold knn
  by_cases e : kn a = kn b
  · rw [e]
  · rw [decide_eq_false e, decide_eq_false (show ¬ kn b = kn a from fun y => e y.symm), Bool.and_false, Bool.and_false]
theorem R_pr {kn : Int → Int} {cm hm : Nat → Int} {n m : Nat} {a : Int → Int} {β : Nat → Nat} (hn : n ≤ 12) (hR : isR cm hm n m a β) (hh : injN hm m) (h9 : ∀ j, j < m → ¬ hm j = -9) : prt kn a (lst cm n) + vlB (KL kn cm n) n β m = ttK kn cm n := by
  rw [prt_lst, vlB_kp hn]
  unfold ttK
  rw [← Int.natCast_add, ← smB_add]
  congr 1
  refine smB_congr (fun i hi => ?_)
  have kb : ∀ t, t < i → (KL kn cm n i).testBit t = knn kn (cm t) (cm i) := by
    intro t ht
    unfold KL
    rw [mkM_t, decide_eq_true (show t < n by omega), decide_eq_true (show ¬ t = i by omega), knn_sym]; rfl
  have same : ∀ t, t < i → (decide (a (cm t) = a (cm i)) && !decide (a (cm t) = -9)) = (decide (β t = β i) && decide (β i < m)) := by
    intro t ht
    by_cases l : β i < m
    · rw [decide_eq_true l, Bool.and_true]
      have r1 := R_j hR hh h9 (show t < n by omega) l
      have r2 : a (cm i) = hm (β i) := (R_j hR hh h9 hi l).mp rfl
      by_cases e : β t = β i
      · have e2 := r1.mp e
        rw [decide_eq_true e, decide_eq_true (e2.trans r2.symm), decide_eq_false (fun y => h9 _ l (e2.symm.trans y))]; rfl
      · rw [decide_eq_false e, decide_eq_false (fun y => e (r1.mpr (y.trans r2)))]; rfl
    · have r2 := (R_9 hR h9 hi).mpr l
      rw [decide_eq_false l, Bool.and_false, r2]
      cases decide (a (cm t) = -9) <;> rfl
  by_cases l : β i < m
  · rw [if_pos l]
    refine (cnB_or (fun t ht => ?_)).symm
    unfold prG
    rw [kb t ht, same t ht, decide_eq_true l]
    cases knn kn (cm t) (cm i) <;> cases decide (β t = β i) <;> rfl
  · rw [if_neg l]
    refine cnB_congr (fun t ht => ?_)
    unfold prG
    rw [kb t ht, same t ht, decide_eq_false l, Bool.and_false]
    cases knn kn (cm t) (cm i) <;> rfl
/-- the class's answer is the best -/
theorem best_of {sx ag kn ho : Int → Int} {cm hm : Nat → Int} {n m lod : Nat} {o p : Int} (hn : n ≤ 12) (hc : injN cm n) (hh : injN hm m) (h9 : ∀ j, j < m → ¬ hm j = -9) (hb : ∀ j, j < m → 0 ≤ ho (5 * hm j + 2)) (hl : ∀ β : Nat → Nat, fsB n (tkL sx ag ho cm hm n) (bdL ho hm) m β → pcB (mkL n β m) ≤ lod) (hol : o + lod = n) (hr : resK (KL kn cm n) n (tkL sx ag ho cm hm n) (bdL ho hm) m lod (ttK kn cm n - p)) : isBest sx ag kn ho (lst cm n) (lst hm m) o p := by
  obtain ⟨⟨β, b1, b2, b3⟩, h2⟩ := hr
  have hR := R_of (hm := hm) (m := m) β hc
  have e1 := R_ov hn hR h9
  have e2 := R_pr (kn := kn) hn hR hh h9
  refine ⟨_, (R_fs hn hR hh h9 hb).mpr b1, by omega, by omega, fun b hfb => ?_⟩
  have hR2 : isR cm hm n m b (fun i => fdH hm (b (cm i)) m m) := of_R (fun i hi => by
    rcases hfb.1 (cm i) (lst_in.mpr ⟨i, hi, rfl⟩) with y | y
    · exact Or.inl y
    · obtain ⟨j, j1, j2⟩ := lst_in.mp y.1
      exact Or.inr ⟨j, j1, j2⟩) h9
  have fB := (R_fs hn hR2 hh h9 hb).mp hfb
  have g1 := R_ov hn hR2 h9
  have g2 := R_pr (kn := kn) hn hR2 hh h9
  have g3 := hl _ fB
  by_cases e : pcB (mkL n (fun i => fdH hm (b (cm i)) m m) m) = lod
  · have g4 := h2 _ fB e
    exact Or.inr ⟨by omega, by omega⟩
  · exact Or.inl (by omega)
/-! lodging: the class's cut by sorts -/
def setP (sr : Nat → Nat) (n q : Nat) : Nat := mkM (fun i => q.testBit (sr i)) n
def bndI (sr : Nat → Nat) (tb bd : Nat → Nat) (n m q : Nat) : Nat := n - pcB (setP sr n q) + smB (fun j => if tb j &&& setP sr n q = 0 then 0 else bd j) m
theorem cnB_lj {n : Nat} {p : Nat → Bool} {β : Nat → Nat} : ∀ m : Nat, cnB (fun i => p i && decide (β i < m)) n = smB (fun j => cnB (fun i => p i && decide (β i = j)) n) m
  | 0 => cnB_0 (fun i _ => by rw [decide_eq_false (by omega)]; exact Bool.and_false _)
  | m + 1 => by
    have ih := cnB_lj (n := n) (p := p) (β := β) m
    show _ = smB (fun j => cnB (fun i => p i && decide (β i = j)) n) m + cnB (fun i => p i && decide (β i = m)) n
    rw [← ih]
    refine cnB_or (fun i _ => ?_)
    by_cases e : β i = m
    · rw [decide_eq_true e, decide_eq_true (show β i < m + 1 by omega), decide_eq_false (show ¬ β i < m by omega)]
      cases p i <;> rfl
    · rw [decide_eq_false e]
      by_cases h : β i < m
      · rw [decide_eq_true h, decide_eq_true (show β i < m + 1 by omega)]
        cases p i <;> rfl
      · rw [decide_eq_false h, decide_eq_false (show ¬ β i < m + 1 by omega)]
        cases p i <;> rfl
theorem bnd_up {sr : Nat → Nat} {tb bd : Nat → Nat} {n m q : Nat} {β : Nat → Nat} (hn : n ≤ 12) (hf : fsB n tb bd m β) : pcB (mkL n β m) ≤ bndI sr tb bd n m q := by
  unfold bndI
  have e0 : pcB (setP sr n q) = cnB (fun i => q.testBit (sr i)) n := pcB_mk hn
  have e1 : pcB (mkL n β m) = cnB (fun i => decide (β i < m)) n := pcB_mk hn
  have e2 := cnB_not (p := fun i => q.testBit (sr i)) n
  have e3 := cnB_lj (n := n) (p := fun i => q.testBit (sr i)) (β := β) m
  have e4 : cnB (fun i => decide (β i < m)) n = cnB (fun i => !q.testBit (sr i) && decide (β i < m)) n + cnB (fun i => q.testBit (sr i) && decide (β i < m)) n := cnB_or (fun i _ => by
    cases q.testBit (sr i) <;> cases decide (β i < m) <;> rfl)
  have e5 : cnB (fun i => !q.testBit (sr i) && decide (β i < m)) n ≤ cnB (fun i => !q.testBit (sr i)) n := cnB_mono (fun i _ h => (Bool.and_eq_true_iff.mp h).1)
  have e6 : smB (fun j => cnB (fun i => q.testBit (sr i) && decide (β i = j)) n) m ≤ smB (fun j => if tb j &&& setP sr n q = 0 then 0 else bd j) m := by
    refine smB_le (fun j hj => ?_)
    have hfj := hf j hj
    by_cases z : tb j &&& setP sr n q = 0
    · rw [if_pos z]
      refine Nat.le_of_eq (cnB_0 (fun i hi => ?_))
      cases hq : (q.testBit (sr i) && decide (β i = j)) with
      | false => rfl
      | true =>
        have h1 := Bool.and_eq_true_iff.mp hq
        have h2 : (mkJ n β j).testBit i = true := by
          unfold mkJ
          rw [mkM_t, decide_eq_true hi]; exact h1.2
        have h3 : (tb j &&& setP sr n q).testBit i = true := by
          unfold setP
          rw [Nat.testBit_and, sub_t hfj.2 h2, mkM_t, decide_eq_true hi, h1.1]; rfl
        rw [z, Nat.zero_testBit] at h3
        exact h3.symm
    · rw [if_neg z]
      refine Nat.le_trans (cnB_mono (fun i _ h => (Bool.and_eq_true_iff.mp h).2)) ?_
      have : pcB (mkJ n β j) = cnB (fun i => decide (β i = j)) n := pcB_mk hn
      rw [← this]; exact hfj.1
  omega
theorem lod_max {sr : Nat → Nat} {tb bd : Nat → Nat} {n m x : Nat} (hn : n ≤ 12) (hs : ∀ i, i < n → sr i < 4) (ht : ∀ j i i', j < m → i < n → i' < n → sr i = sr i' → (tb j).testBit i = (tb j).testBit i') (h1 : ∀ q, q < 16 → x ≤ bndI sr tb bd n m q) (h2 : x = n ∨ ∃ q, q < 16 ∧ x = bndI sr tb bd n m q) : (∃ β : Nat → Nat, fsB n tb bd m β ∧ pcB (mkL n β m) = x) ∧ ∀ β : Nat → Nat, fsB n tb bd m β → pcB (mkL n β m) ≤ x := by
  have up : ∀ β : Nat → Nat, fsB n tb bd m β → pcB (mkL n β m) ≤ x := by
    intro β hf
    rcases h2 with e | ⟨q, _, e⟩
    · have e1 : pcB (mkL n β m) = cnB (fun i => decide (β i < m)) n := pcB_mk hn
      have := cnB_le (p := fun i => decide (β i < m)) n
      omega
    · rw [e]; exact bnd_up hn hf
  refine ⟨?_, up⟩
  obtain ⟨β, b1, b2, b3⟩ := konigI (n := n) (m := m) (D := fun _ => true) (tkb := fun j i => (tb j).testBit i) (cap := bd) (F := x) (fun P => by
    have hq : mkM (fun s => decide (0 < cnB (fun i => P i && decide (sr i = s)) n)) 4 < 16 := mkM_lt 4
    have hx := h1 _ hq
    have pq : ∀ i, i < n → P i = true → (mkM (fun s => decide (0 < cnB (fun i => P i && decide (sr i = s)) n)) 4).testBit (sr i) = true := by
      intro i hi hp
      rw [mkM_t, decide_eq_true (hs i hi)]
      refine decide_eq_true (cnB_pos.mpr ⟨i, hi, ?_⟩)
      rw [hp, decide_eq_true rfl]; rfl
    generalize hQ : mkM (fun s => decide (0 < cnB (fun i => P i && decide (sr i = s)) n)) 4 = Q at hx pq
    unfold bndI at hx
    have e0 : pcB (setP sr n Q) = cnB (fun i => Q.testBit (sr i)) n := pcB_mk hn
    have e2 := cnB_not (p := P) n
    have e3 : cnB P n ≤ cnB (fun i => Q.testBit (sr i)) n := cnB_mono (fun i hi hp => pq i hi hp)
    have e4 : cnB (fun i => true && !P i) n = cnB (fun i => !P i) n := cnB_congr (fun i _ => Bool.true_and _)
    have e5 : smB (fun j => if tb j &&& setP sr n Q = 0 then 0 else bd j) m ≤ smB (fun j => if 0 < cnB (fun i => true && P i && (tb j).testBit i) n then bd j else 0) m := by
      refine smB_le (fun j hj => ?_)
      by_cases z : tb j &&& setP sr n Q = 0
      · rw [if_pos z]; exact Nat.zero_le _
      · rw [if_neg z, if_pos]
        · exact Nat.le_refl _
        · obtain ⟨i, hi⟩ := Nat.exists_testBit_of_ne_zero z
          rw [Nat.testBit_and] at hi
          have h3 := Bool.and_eq_true_iff.mp hi
          have h4 := h3.2
          unfold setP at h4
          rw [mkM_t] at h4
          have h5 := Bool.and_eq_true_iff.mp h4
          have hin := of_decide_eq_true h5.1
          have h6 := h5.2
          rw [← hQ, mkM_t] at h6
          obtain ⟨i', j1, j2⟩ := cnB_pos.mp (of_decide_eq_true (Bool.and_eq_true_iff.mp h6).2)
          have j3 := Bool.and_eq_true_iff.mp j2
          have j4 := of_decide_eq_true j3.2
          refine cnB_pos.mpr ⟨i', j1, ?_⟩
          rw [j3.1, ht j i' i hj j1 hin j4, h3.1]; rfl
    rw [e4]
    omega)
  have fB : fsB n tb bd m β := by
    intro j hj
    refine ⟨by unfold mkJ; rw [pcB_mk hn]; exact b2 j hj, t_sub (fun i hi => ?_)⟩
    unfold mkJ at hi
    rw [mkM_t] at hi
    have h3 := Bool.and_eq_true_iff.mp hi
    have h4 := of_decide_eq_true h3.2
    have := (b1 i (of_decide_eq_true h3.1) (by omega)).2
    rw [h4] at this
    exact this
  have e1 : pcB (mkL n β m) = cnB (fun i => decide (β i < m)) n := pcB_mk hn
  have := up β fB
  exact ⟨β, fB, by omega⟩
/-- twice the pairs -/
theorem tw_K {kin : Nat → Nat → Bool} (hs : ∀ i j, kin i j = kin j i) (hi : ∀ i, kin i i = false) : ∀ n : Nat, smB (fun i => cnB (fun t => kin i t) n) n = 2 * smB (fun i => cnB (fun t => kin i t) i) n
  | 0 => rfl
  | n + 1 => by
    have ih := tw_K hs hi n
    have e : smB (fun i => cnB (fun t => kin i t) (n + 1)) n = smB (fun i => cnB (fun t => kin i t) n) n + cnB (fun t => kin n t) n := by
      rw [cnB_sm (p := fun t => kin n t), ← smB_add]
      refine smB_congr (fun i _ => ?_)
      show cnB (fun t => kin i t) n + (if kin i n = true then 1 else 0) = _
      rw [hs i n]
    have e2 : cnB (fun t => kin n t) (n + 1) = cnB (fun t => kin n t) n := by
      show cnB (fun t => kin n t) n + (if kin n n = true then 1 else 0) = _
      rw [hi n]; rfl
    show smB (fun i => cnB (fun t => kin i t) (n + 1)) n + cnB (fun t => kin n t) (n + 1) = 2 * (smB (fun i => cnB (fun t => kin i t) i) n + cnB (fun t => kin n t) n)
    rw [e, e2, ih]
    omega
theorem tw_L {kn : Int → Int} {cm : Nat → Int} {n : Nat} (hn : n ≤ 12) : smB (fun i => pcB (KL kn cm n i)) n = 2 * ttK kn cm n := by
  have h := tw_K (kin := fun i t => decide (¬ t = i) && knn kn (cm i) (cm t)) (fun i j => by
    show (decide (¬ j = i) && knn kn (cm i) (cm j)) = (decide (¬ i = j) && knn kn (cm j) (cm i))
    rw [knn_sym]
    congr 1
    by_cases e : i = j
    · subst e; rfl
    · rw [decide_eq_true (show ¬ j = i from fun y => e y.symm), decide_eq_true (show ¬ i = j from e)]) (fun i => by
    show (decide (¬ i = i) && _) = false
    rw [decide_eq_false (show ¬ ¬ i = i from fun y => y rfl)]; rfl) n
  have e1 : smB (fun i => pcB (KL kn cm n i)) n = smB (fun i => cnB (fun t => decide (¬ t = i) && knn kn (cm i) (cm t)) n) n := smB_congr (fun i _ => pcB_mk hn)
  rw [e1, h]
  unfold ttK
  congr 1
  refine smB_congr (fun i hi => cnB_congr (fun t ht => ?_))
  unfold KL
  rw [mkM_t, decide_eq_true (show t < n by omega)]; rfl
