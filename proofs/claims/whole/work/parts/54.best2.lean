/-! lodging: who is in which house, by numbers -/
def mkJ (n : Nat) (β : Nat → Nat) (j : Nat) : Nat := mkM (fun i => decide (β i = j)) n
def mkL (n : Nat) (β : Nat → Nat) (j : Nat) : Nat := mkM (fun i => decide (β i < j)) n
def fsB (n : Nat) (tb bd : Nat → Nat) (m : Nat) (β : Nat → Nat) : Prop := ∀ j, j < m → pcB (mkJ n β j) ≤ bd j ∧ mkJ n β j &&& tb j = mkJ n β j
def vlB (K : Nat → Nat) (n : Nat) (β : Nat → Nat) (j : Nat) : Nat := smB (fun j => prK K (mkJ n β j)) j
theorem pcB_mk {p : Nat → Bool} {n : Nat} (hn : n ≤ 12) : pcB (mkM p n) = cnB p n := by
  have e : pcB (mkM p n) = cnB (fun i => (mkM p n).testBit i) n := cnB_ext2 hn (fun i hi => by rw [mkM_t, decide_eq_false (by omega)]; rfl)
  rw [e]
  exact cnB_congr (fun i hi => by rw [mkM_t, decide_eq_true hi]; rfl)
theorem mkL_s {n j : Nat} {β : Nat → Nat} : mkL n β (j + 1) ^^^ mkJ n β j = mkL n β j := by
  refine Nat.eq_of_testBit_eq (fun i => ?_)
  unfold mkL mkJ
  rw [Nat.testBit_xor, mkM_t, mkM_t, mkM_t]
  by_cases l : i < n
  · rw [decide_eq_true l]
    by_cases e : β i = j
    · rw [decide_eq_true e, decide_eq_true (show β i < j + 1 by omega), decide_eq_false (show ¬ β i < j by omega)]; rfl
    · rw [decide_eq_false e]
      by_cases h : β i < j
      · rw [decide_eq_true h, decide_eq_true (show β i < j + 1 by omega)]; rfl
      · rw [decide_eq_false h, decide_eq_false (show ¬ β i < j + 1 by omega)]; rfl
  · rw [decide_eq_false l]; rfl
theorem mkJ_sub {n j : Nat} {β : Nat → Nat} : mkJ n β j &&& mkL n β (j + 1) = mkJ n β j := by
  refine t_sub (fun i hi => ?_)
  unfold mkJ at hi
  unfold mkL
  rw [mkM_t] at hi ⊢
  have h1 := Bool.and_eq_true_iff.mp hi
  have h2 := of_decide_eq_true h1.2
  rw [h1.1, decide_eq_true (show β i < j + 1 by omega)]; rfl
theorem pc_L {n : Nat} {β : Nat → Nat} (hn : n ≤ 12) : ∀ j : Nat, pcB (mkL n β j) = smB (fun j => pcB (mkJ n β j)) j
  | 0 => by
    show pcB (mkM _ n) = 0
    rw [pcB_mk hn]
    exact cnB_0 (fun i _ => decide_eq_false (by omega))
  | j + 1 => by
    have ih := pc_L (β := β) hn j
    show _ = smB (fun j => pcB (mkJ n β j)) j + pcB (mkJ n β j)
    rw [← ih]
    unfold mkL mkJ
    rw [pcB_mk hn, pcB_mk hn, pcB_mk hn]
    refine cnB_or (fun i _ => ?_)
    by_cases e : β i = j
    · rw [decide_eq_true e, decide_eq_true (show β i < j + 1 by omega), decide_eq_false (show ¬ β i < j by omega)]; rfl
    · rw [decide_eq_false e]
      by_cases h : β i < j
      · rw [decide_eq_true h, decide_eq_true (show β i < j + 1 by omega)]; rfl
      · rw [decide_eq_false h, decide_eq_false (show ¬ β i < j + 1 by omega)]; rfl
theorem mkL_lt {n j : Nat} {β : Nat → Nat} : mkL n β j < 2 ^ n := mkM_lt n
theorem mkJ_lt {n j : Nat} {β : Nat → Nat} : mkJ n β j < 2 ^ n := mkM_lt n
def upB (I j : Nat) (β : Nat → Nat) : Nat → Nat := fun i => if I.testBit i = true then j else if β i < j then β i else j + 1
theorem upB_y {I j i : Nat} {β : Nat → Nat} (h : I.testBit i = true) : upB I j β i = j := if_pos h
theorem upB_n {I j i : Nat} {β : Nat → Nat} (h : I.testBit i = false) : upB I j β i = if β i < j then β i else j + 1 := if_neg (by rw [h]; decide)
/-- one house more -/
theorem fsB_up {K : Nat → Nat} {n j I S : Nat} {tb bd β : Nat → Nat} (hS : S < 2 ^ n) (hf : fsB n tb bd j β) (hL : mkL n β j = S ^^^ I) (hIS : I &&& S = I) (hI : I &&& tb j = I) (hb : pcB I ≤ bd j) : ∃ β' : Nat → Nat, fsB n tb bd (j + 1) β' ∧ mkL n β' (j + 1) = S ∧ vlB K n β' (j + 1) = vlB K n β j + prK K I := by
  have hIn : ∀ i, I.testBit i = true → i < n := fun i hi => bit_lt hS (sub_t hIS hi)
  have hd : ∀ i, I.testBit i = true → ¬ β i < j := by
    intro i hi y
    have h1 : (mkL n β j).testBit i = true := by
      unfold mkL
      rw [mkM_t, decide_eq_true (hIn i hi), decide_eq_true y]; rfl
    rw [hL, Nat.testBit_xor, sub_t hIS hi, hi] at h1
    exact absurd h1 (by decide)
  have eI : mkJ n (upB I j β) j = I := by
    refine Nat.eq_of_testBit_eq (fun i => ?_)
    unfold mkJ
    rw [mkM_t]
    cases hi : I.testBit i with
    | true => rw [decide_eq_true (hIn i hi), decide_eq_true (upB_y hi)]; rfl
    | false =>
      have : ¬ upB I j β i = j := by
        rw [upB_n hi]; split <;> omega
      rw [decide_eq_false this]
      exact Bool.and_false _
  have eJ : ∀ j', j' < j → mkJ n (upB I j β) j' = mkJ n β j' := by
    intro j' hj
    refine Nat.eq_of_testBit_eq (fun i => ?_)
    unfold mkJ
    rw [mkM_t, mkM_t]
    congr 1
    cases hi : I.testBit i with
    | true =>
      have := hd i hi
      have h1 : ¬ upB I j β i = j' := by rw [upB_y hi]; omega
      rw [decide_eq_false h1, decide_eq_false (show ¬ β i = j' by omega)]
    | false =>
      have e := upB_n (j := j) (β := β) hi
      by_cases l : β i < j
      · rw [if_pos l] at e; rw [e]
      · rw [if_neg l] at e
        rw [decide_eq_false (show ¬ upB I j β i = j' by omega), decide_eq_false (show ¬ β i = j' by omega)]
  refine ⟨upB I j β, ?_, ?_, ?_⟩
  · intro j' hj
    by_cases e : j' = j
    · subst e
      rw [eI]; exact ⟨hb, hI⟩
    · rw [eJ j' (by omega)]; exact hf j' (by omega)
  · refine Nat.eq_of_testBit_eq (fun i => ?_)
    have hLi : (mkL n β j).testBit i = (S ^^^ I).testBit i := by rw [hL]
    unfold mkL at hLi ⊢
    rw [mkM_t, Nat.testBit_xor] at hLi
    rw [mkM_t]
    cases hi : I.testBit i with
    | true =>
      have h1 : upB I j β i < j + 1 := by rw [upB_y hi]; omega
      rw [decide_eq_true h1, decide_eq_true (hIn i hi), sub_t hIS hi]; rfl
    | false =>
      rw [hi] at hLi
      have e0 := upB_n (j := j) (β := β) hi
      have e : decide (upB I j β i < j + 1) = decide (β i < j) := by
        by_cases l : β i < j
        · rw [if_pos l] at e0; rw [decide_eq_true l, decide_eq_true (by omega)]
        · rw [if_neg l] at e0; rw [decide_eq_false l, decide_eq_false (by omega)]
      rw [e, hLi]
      cases S.testBit i <;> rfl
  · show smB _ j + prK K (mkJ n _ j) = _
    rw [eI]
    congr 1
    exact smB_congr (fun j' hj => by rw [eJ j' hj])
theorem pcB_0 (b : Nat) : pcB 0 ≤ b := by
  have : pcB 0 = 0 := by decide
  omega
def SndK (K : Nat → Nat) (n : Nat) (tb bd : Nat → Nat) (j : Nat) (f : Int → Int) : Prop := ∀ S : Nat, S < 2 ^ n → 0 ≤ f S → ∃ β : Nat → Nat, fsB n tb bd j β ∧ mkL n β j = S ∧ f S = vlB K n β j
def CmpK (K : Nat → Nat) (n : Nat) (tb bd : Nat → Nat) (m lod j : Nat) (f : Int → Int) : Prop := ∀ β : Nat → Nat, fsB n tb bd m β → pcB (mkL n β m) = lod → (vlB K n β j : Int) ≤ f (mkL n β j : Nat)
def prc (lod so tc S : Nat) : Prop := pcB S ≤ so ∧ pcB S ≤ lod ∧ lod ≤ pcB S + tc
def stpK (K : Nat → Nat) (n : Nat) (tb bd : Nat → Nat) (lod so tc j : Nat) (g f : Int → Int) (S : Nat) : Prop := (S = 0 → f S = g S) ∧ (0 < S → (prc lod so tc S → isX (Q78 K g S (S &&& tb j) 0 (bd j)) (f S)) ∧ (¬ prc lod so tc S → f S = g S))
theorem sub_lt {I S n : Nat} (hS : S < 2 ^ n) (h : I &&& S = I) : I < 2 ^ n := by
  have := Nat.and_le_right (n := I) (m := S)
  rw [h] at this
  omega
theorem xor_lt {I S n : Nat} (hS : S < 2 ^ n) (h : I &&& S = I) : S ^^^ I < 2 ^ n := Nat.xor_lt_two_pow hS (sub_lt hS h)
theorem Snd_one {K : Nat → Nat} {n : Nat} {tb bd : Nat → Nat} {j S : Nat} {g : Int → Int} {x : Int} (hS : S < 2 ^ n) (hg : SndK K n tb bd j g) (hx : Q78 K g S (S &&& tb j) 0 (bd j) x) : ∃ β : Nat → Nat, fsB n tb bd (j + 1) β ∧ mkL n β (j + 1) = S ∧ x = vlB K n β (j + 1) := by
  obtain ⟨I, i1, i2, i3, i4⟩ := hx
  rw [Nat.zero_or] at i3 i4
  have hIS : I &&& S = I := t_sub (fun t ht => by have := sub_t i1 ht; rw [Nat.testBit_and] at this; exact (Bool.and_eq_true_iff.mp this).1)
  have hIt : I &&& tb j = I := t_sub (fun t ht => by have := sub_t i1 ht; rw [Nat.testBit_and] at this; exact (Bool.and_eq_true_iff.mp this).2)
  obtain ⟨β, b1, b2, b3⟩ := hg _ (xor_lt hS hIS) i3
  obtain ⟨β', c1, c2, c3⟩ := fsB_up (K := K) hS b1 b2 hIS hIt i2
  exact ⟨β', c1, c2, by rw [i4, b3, c3]; omega⟩
theorem Snd_old {K : Nat → Nat} {n : Nat} {tb bd : Nat → Nat} {j S : Nat} {g : Int → Int} (hS : S < 2 ^ n) (hg : SndK K n tb bd j g) (h0 : 0 ≤ g S) : ∃ β : Nat → Nat, fsB n tb bd (j + 1) β ∧ mkL n β (j + 1) = S ∧ g S = vlB K n β (j + 1) := by
  obtain ⟨β, b1, b2, b3⟩ := hg S hS h0
  obtain ⟨β', c1, c2, c3⟩ := fsB_up (K := K) (I := 0) hS b1 (by rw [b2, Nat.xor_zero]) (Nat.zero_and _) (Nat.zero_and _) (pcB_0 _)
  exact ⟨β', c1, c2, by rw [b3, c3, prK_0]; rfl⟩
theorem SndK_s {K : Nat → Nat} {n : Nat} {tb bd : Nat → Nat} {lod so tc j : Nat} {g f : Int → Int} (hg : SndK K n tb bd j g) (hs : ∀ S : Nat, S < 2 ^ n → stpK K n tb bd lod so tc j g f S) : SndK K n tb bd (j + 1) f := by
  intro S hS h0
  have hst := hs S hS
  have old : f S = g S → ∃ β : Nat → Nat, fsB n tb bd (j + 1) β ∧ mkL n β (j + 1) = S ∧ f S = vlB K n β (j + 1) := by
    intro e
    rw [e] at h0 ⊢
    exact Snd_old hS hg h0
  by_cases e : S = 0
  · exact old (hst.1 e)
  · by_cases p : prc lod so tc S
    · rcases (hst.2 (by omega)).1 p with y | y
      · omega
      · exact Snd_one hS hg y.2.1
    · exact old ((hst.2 (by omega)).2 p)
theorem smB_split {f : Nat → Nat} {j : Nat} : ∀ k : Nat, smB f (j + k) = smB f j + smB (fun i => f (j + i)) k
  | 0 => rfl
  | k + 1 => by
    have ih := smB_split (f := f) (j := j) k
    show smB f (j + k) + f (j + k) = smB f j + (smB (fun i => f (j + i)) k + f (j + k))
    omega
theorem CmpK_s {K : Nat → Nat} {n : Nat} {tb bd : Nat → Nat} {m lod so tc j : Nat} {g f : Int → Int} (hn : n ≤ 12) (hj : j < m) (hso : so = smB bd (j + 1)) (htc : tc + smB bd (j + 1) = smB bd m) (hg : CmpK K n tb bd m lod j g) (hs : ∀ S : Nat, S < 2 ^ n → stpK K n tb bd lod so tc j g f S) : CmpK K n tb bd m lod (j + 1) f := by
  intro β hβ hl
  have h1 := hg β hβ hl
  have hst := hs _ (mkL_lt (n := n) (j := j + 1) (β := β))
  have ex : vlB K n β (j + 1) = vlB K n β j + prK K (mkJ n β j) := rfl
  by_cases e : mkL n β (j + 1) = 0
  · have e2 : mkJ n β j = 0 := by
      have := mkJ_sub (n := n) (j := j) (β := β)
      rw [e, Nat.and_zero] at this; exact this.symm
    have e3 : mkL n β j = 0 := by
      have := mkL_s (n := n) (j := j) (β := β)
      rw [e, e2] at this; exact this.symm
    rw [hst.1 e, ex, e2, prK_0, e]
    rw [e3] at h1
    exact h1
  · have pl := pc_L (β := β) hn (j + 1)
    have pm := pc_L (β := β) hn m
    have sp := smB_split (f := fun j => pcB (mkJ n β j)) (j := j + 1) (m - (j + 1))
    have sb := smB_split (f := bd) (j := j + 1) (m - (j + 1))
    rw [show j + 1 + (m - (j + 1)) = m by omega] at sp sb
    have le1 : smB (fun j => pcB (mkJ n β j)) (j + 1) ≤ smB bd (j + 1) := smB_le (fun i hi => (hβ i (by omega)).1)
    have le2 : smB (fun i => pcB (mkJ n β (j + 1 + i))) (m - (j + 1)) ≤ smB (fun i => bd (j + 1 + i)) (m - (j + 1)) := smB_le (fun i hi => (hβ (j + 1 + i) (by omega)).1)
    have hp : prc lod so tc (mkL n β (j + 1)) := ⟨by omega, by omega, by omega⟩
    have hq : Q78 K g (mkL n β (j + 1)) (mkL n β (j + 1) &&& tb j) 0 (bd j) (g (mkL n β j : Nat) + prK K (mkJ n β j)) := by
      refine ⟨mkJ n β j, ?_, (hβ j hj).1, ?_⟩
      · rw [← Nat.and_assoc, mkJ_sub]; exact (hβ j hj).2
      · rw [Nat.zero_or, mkL_s]
        exact ⟨by omega, rfl⟩
    rcases (hst.2 (by omega)).1 hp with y | y
    · exact absurd hq (y.2 _)
    · have := y.2.2 _ hq
      rw [ex]
      omega
/-- two kin in one house, over all -/
theorem vlB_kp {K : Nat → Nat} {n : Nat} {β : Nat → Nat} (hn : n ≤ 12) : ∀ m : Nat, vlB K n β m = smB (fun i => if β i < m then cnB (fun t => (K i).testBit t && decide (β t = β i)) i else 0) n
  | 0 => by
    have : smB (fun i => if β i < 0 then cnB (fun t => (K i).testBit t && decide (β t = β i)) i else 0) n = smB (fun i => if β i < 0 then cnB (fun t => (K i).testBit t && decide (β t = β i)) i else 0) 0 := smB_ext2 (by omega) (fun i _ => if_neg (by omega))
    rw [this]; rfl
  | m + 1 => by
    have ih := vlB_kp (K := K) (β := β) hn m
    have e : prK K (mkJ n β m) = smB (fun i => if β i = m then cnB (fun t => (K i).testBit t && decide (β t = β i)) i else 0) n := by
      have e1 : prK K (mkJ n β m) = smB (fun i => if (mkJ n β m).testBit i = true then cnB (fun t => (K i).testBit t && (mkJ n β m).testBit t) i else 0) n := smB_ext2 hn (fun i hi => by
        unfold mkJ
        rw [mkM_t, decide_eq_false (by omega)]; rfl)
      rw [e1]
      refine smB_congr (fun i hi => ?_)
      unfold mkJ
      rw [mkM_t, decide_eq_true hi]
      by_cases y : β i = m
      · rw [decide_eq_true y, show (true && true) = true from rfl, if_pos rfl, if_pos y]
        refine cnB_congr (fun t ht => ?_)
        rw [mkM_t, decide_eq_true (show t < n by omega), y]; rfl
      · rw [decide_eq_false y, show (true && false) = false from rfl, if_neg (by decide), if_neg y]
    show vlB K n β m + prK K (mkJ n β m) = _
    rw [ih, e, ← smB_add]
    refine smB_congr (fun i hi => ?_)
    by_cases y : β i = m
    · rw [if_pos y, if_neg (by omega), if_pos (by omega)]; omega
    · by_cases z : β i < m
      · rw [if_pos z, if_neg y, if_pos (by omega)]; rfl
      · rw [if_neg z, if_neg y, if_neg (by omega)]
theorem vlB_le {K : Nat → Nat} {n m : Nat} {β : Nat → Nat} (hn : n ≤ 12) : vlB K n β m ≤ smB (fun i => cnB (fun t => (K i).testBit t) i) n := by
  rw [vlB_kp hn]
  refine smB_le (fun i hi => ?_)
  split
  · exact cnB_mono (fun t _ h => (Bool.and_eq_true_iff.mp h).1)
  · exact Nat.zero_le _
/-- the most two kin together if lod are lodged -/
def resK (K : Nat → Nat) (n : Nat) (tb bd : Nat → Nat) (m lod : Nat) (r : Int) : Prop := (∃ β : Nat → Nat, fsB n tb bd m β ∧ pcB (mkL n β m) = lod ∧ r = vlB K n β m) ∧ ∀ β : Nat → Nat, fsB n tb bd m β → pcB (mkL n β m) = lod → (vlB K n β m : Int) ≤ r
theorem resK_all {K : Nat → Nat} {n : Nat} {tb bd : Nat → Nat} {m lod : Nat} {f : Int → Int} {r : Int} (hS : SndK K n tb bd m f) (hC : CmpK K n tb bd m lod m f) (hex : ∃ β : Nat → Nat, fsB n tb bd m β ∧ pcB (mkL n β m) = lod) (h0 : r = 0 ∨ ∃ S : Nat, S < 2 ^ n ∧ pcB S = lod ∧ r = f S) (h1 : 0 ≤ r) (h2 : ∀ S : Nat, S < 2 ^ n → pcB S = lod → f S ≤ r) : resK K n tb bd m lod r := by
  have up : ∀ β : Nat → Nat, fsB n tb bd m β → pcB (mkL n β m) = lod → (vlB K n β m : Int) ≤ r := by
    intro β hβ hl
    exact Int.le_trans (hC β hβ hl) (h2 _ mkL_lt hl)
  refine ⟨?_, up⟩
  have fin : ∀ S : Nat, S < 2 ^ n → pcB S = lod → r = f S → ∃ β : Nat → Nat, fsB n tb bd m β ∧ pcB (mkL n β m) = lod ∧ r = vlB K n β m := by
    intro S s1 s2 s3
    obtain ⟨β, b1, b2, b3⟩ := hS S s1 (by omega)
    exact ⟨β, b1, by rw [b2]; exact s2, by rw [s3]; exact b3⟩
  rcases h0 with h0 | ⟨S, s1, s2, s3⟩
  · obtain ⟨β, b1, b2⟩ := hex
    have c1 := hC β b1 b2
    have c2 := h2 _ (mkL_lt (n := n) (j := m) (β := β)) b2
    exact fin _ mkL_lt b2 (by omega)
  · exact fin S s1 s2 s3
theorem resK_early {K : Nat → Nat} {n : Nat} {tb bd : Nat → Nat} {m lod j S : Nat} {r : Int} (hn : n ≤ 12) (hj : j ≤ m) (hr : r = smB (fun i => cnB (fun t => (K i).testBit t) i) n) (hl : pcB S = lod) (h : ∃ β : Nat → Nat, fsB n tb bd j β ∧ mkL n β j = S ∧ r = vlB K n β j) : resK K n tb bd m lod r := by
  refine ⟨?_, fun β _ _ => by rw [hr]; exact Int.ofNat_le.mpr (vlB_le hn)⟩
  obtain ⟨β, b1, b2, b3⟩ := h
  have go : ∀ k : Nat, ∃ β : Nat → Nat, fsB n tb bd (j + k) β ∧ mkL n β (j + k) = S ∧ r = vlB K n β (j + k) := by
    intro k
    induction k with
    | zero => exact ⟨β, b1, b2, b3⟩
    | succ k ih =>
      obtain ⟨β, b1, b2, b3⟩ := ih
      obtain ⟨β', c1, c2, c3⟩ := fsB_up (K := K) (I := 0) (S := S) (by rw [← b2]; exact mkL_lt) b1 (by rw [b2, Nat.xor_zero]) (Nat.zero_and _) (Nat.zero_and _) (pcB_0 _)
      exact ⟨β', c1, c2, by rw [b3, ← Nat.add_assoc, c3, prK_0]; rfl⟩
  obtain ⟨β, c1, c2, c3⟩ := go (m - j)
  rw [show j + (m - j) = m by omega] at c1 c2 c3
  exact ⟨β, c1, by rw [c2]; exact hl, c3⟩
/-! lodging: the narrowest cut, by numbers -/
def idx (n : Nat) : List Int := (List.range n).map (fun k : Nat => (k : Int))
theorem idx_s {n : Nat} : idx (n + 1) = idx n ++ [(n : Int)] := by
  unfold idx
  rw [List.range_succ, List.map_append]; rfl
theorem idx_cp {p : Int → Bool} : ∀ n : Nat, (idx n).countP p = cnB (fun i => p (i : Nat)) n
  | 0 => rfl
  | n + 1 => by
    have ih := idx_cp (p := p) n
    rw [idx_s, List.countP_append, ih, List.countP_singleton]; rfl
theorem idx_in {n : Nat} {x : Int} : x ∈ idx n ↔ ∃ i : Nat, i < n ∧ x = i := by
  unfold idx
  rw [List.mem_map]
  constructor
  · rintro ⟨i, h1, h2⟩
    exact ⟨i, List.mem_range.mp h1, h2.symm⟩
  · rintro ⟨i, h1, h2⟩
    exact ⟨i, List.mem_range.mpr h1, h2.symm⟩
theorem idx_nd : ∀ n : Nat, (idx n).Nodup
  | 0 => List.nodup_nil
  | n + 1 => by
    have ih := idx_nd n
    rw [idx_s]
    refine List.nodup_append.mpr ⟨ih, by simp, fun a ha b hb => ?_⟩
    obtain ⟨i, i1, i2⟩ := idx_in.mp ha
    rw [List.mem_singleton] at hb
    omega
theorem cnB_pos {p : Nat → Bool} : ∀ {n : Nat}, 0 < cnB p n ↔ ∃ i, i < n ∧ p i = true
  | 0 => ⟨fun h => by have h : 0 < 0 := h; omega, fun ⟨i, h, _⟩ => by omega⟩
  | n + 1 => by
    have ih := cnB_pos (p := p) (n := n)
    show 0 < cnB p n + (if p n = true then 1 else 0) ↔ _
    constructor
    · intro h
      by_cases y : p n = true
      · exact ⟨n, by omega, y⟩
      · rw [if_neg y] at h
        obtain ⟨i, h1, h2⟩ := ih.mp h
        exact ⟨i, by omega, h2⟩
    · rintro ⟨i, h1, h2⟩
      by_cases e : i = n
      · subst e; rw [if_pos h2]; omega
      · have := ih.mpr ⟨i, by omega, h2⟩
        omega
def bdsL (cap : Nat → Nat) : Nat → List Int
  | 0 => []
  | j + 1 => bdsL cap j ++ List.replicate (cap j) (j : Int)
theorem bds_cp {cap : Nat → Nat} {q : Int → Bool} : ∀ m : Nat, (bdsL cap m).countP q = smB (fun j => if q (j : Nat) = true then cap j else 0) m
  | 0 => rfl
  | m + 1 => by
    have ih := bds_cp (cap := cap) (q := q) m
    show (bdsL cap m ++ List.replicate (cap m) (m : Int)).countP q = smB _ m + _
    rw [List.countP_append, ih, List.countP_replicate]
theorem bds_in {cap : Nat → Nat} {x : Int} : ∀ {m : Nat}, x ∈ bdsL cap m → ∃ j : Nat, j < m ∧ x = j
  | 0, h => absurd h List.not_mem_nil
  | m + 1, h => by
    rcases List.mem_append.mp h with h | h
    · obtain ⟨j, h1, h2⟩ := bds_in h
      exact ⟨j, by omega, h2⟩
    · exact ⟨m, by omega, List.eq_of_mem_replicate h⟩
theorem smB_1 {cap : Nat → Nat} {j : Nat} : ∀ m : Nat, smB (fun i => if i = j then cap i else 0) m = if j < m then cap j else 0
  | 0 => by rw [if_neg (by omega)]; rfl
  | m + 1 => by
    have ih := smB_1 (cap := cap) (j := j) m
    show smB _ m + (if m = j then cap m else 0) = _
    rw [ih]
    by_cases e : m = j
    · subst e; rw [if_neg (show ¬ m < m by omega), if_pos rfl, if_pos (show m < m + 1 by omega)]; omega
    · rw [if_neg e]
      by_cases l : j < m
      · rw [if_pos l, if_pos (show j < m + 1 by omega)]; rfl
      · rw [if_neg l, if_neg (show ¬ j < m + 1 by omega)]
theorem konigI {n m : Nat} {D : Nat → Bool} {tkb : Nat → Nat → Bool} {cap : Nat → Nat} {F : Nat} (hF : ∀ P : Nat → Bool, F ≤ cnB (fun i => D i && !P i) n + smB (fun j => if 0 < cnB (fun i => D i && P i && tkb j i) n then cap j else 0) m) : ∃ β : Nat → Nat, (∀ i, i < n → β i < m → D i = true ∧ tkb (β i) i = true) ∧ (∀ j, j < m → cnB (fun i => decide (β i = j)) n ≤ cap j) ∧ F ≤ cnB (fun i => decide (β i < m)) n := by
  have hc : ∀ p : Int → Bool, ((idx n).filter (fun c => D c.toNat)).countP p = cnB (fun i => D i && p (i : Nat)) n := by
    intro p
    rw [List.countP_filter, idx_cp]
    exact cnB_congr (fun i _ => by rw [Bool.and_comm]; rfl)
  obtain ⟨a, a0, a1, a2, a3⟩ := konig (tk := fun h c => tkb h.toNat c.toNat) (C0 := (idx n).filter (fun c => D c.toNat)) (bdsL cap m) ((idx n).filter (fun c => D c.toNat)) F ((idx_nd n).filter _) (fun h hh => by obtain ⟨j, _, e⟩ := bds_in hh; omega) (fun P => by
    unfold cutN
    rw [hc, bds_cp]
    refine Nat.le_trans (hF (fun i => P (i : Nat))) (Nat.add_le_add_left (smB_le (fun j _ => ?_)) _)
    by_cases y : 0 < cnB (fun i => D i && P (i : Nat) && tkb j i) n
    · rw [if_pos y, if_pos]
      · exact Nat.le_refl _
      · obtain ⟨i, i1, i2⟩ := cnB_pos.mp y
        have i3 := Bool.and_eq_true_iff.mp i2
        have i4 := Bool.and_eq_true_iff.mp i3.1
        refine List.any_eq_true.mpr ⟨(i : Int), List.mem_filter.mpr ⟨idx_in.mpr ⟨i, i1, rfl⟩, i4.1⟩, ?_⟩
        exact Bool.and_eq_true_iff.mpr ⟨i4.2, i3.2⟩
    · rw [if_neg y]; exact Nat.zero_le _)
  have hin : ∀ i : Nat, i < n → ¬ a i = -9 → D i = true ∧ ∃ j : Nat, j < m ∧ a i = j ∧ tkb j i = true := by
    intro i hi hne
    have hm : (i : Int) ∈ (idx n).filter (fun c => D c.toNat) := Classical.byContradiction (fun z => hne (a0 _ z))
    have hd := (List.mem_filter.mp hm).2
    rcases a1 _ hm with y | y
    · exact absurd y hne
    · obtain ⟨j, j1, j2⟩ := bds_in y.1
      have y2 := y.2
      refine ⟨hd, j, j1, j2, ?_⟩
      rw [j2] at y2
      exact y2
  refine ⟨fun i => if a i = -9 then m else (a i).toNat, fun i hi hb => ?_, fun j hj => ?_, ?_⟩
  · have hb : (if a i = -9 then m else (a i).toNat) < m := hb
    by_cases e : a i = -9
    · rw [if_pos e] at hb; omega
    · obtain ⟨h1, j, h2, h3, h4⟩ := hin i hi e
      show D i = true ∧ tkb (if a i = -9 then m else (a i).toNat) i = true
      rw [if_neg e, h3]
      exact ⟨h1, h4⟩
  · have h2 := a2 j (by omega)
    rw [hc, bds_cp] at h2
    have e1 : smB (fun i => if decide ((i : Int) = (j : Int)) = true then cap i else 0) m = cap j := by
      have : smB (fun i => if decide ((i : Int) = (j : Int)) = true then cap i else 0) m = smB (fun i => if i = j then cap i else 0) m := smB_congr (fun i _ => by
        by_cases e : i = j
        · rw [if_pos e, if_pos (decide_eq_true (by omega))]
        · rw [if_neg e, if_neg (by rw [decide_eq_false (by omega)]; decide)])
      rw [this, smB_1, if_pos hj]
    rw [e1] at h2
    refine Nat.le_trans (cnB_mono (fun i hi hb => ?_)) h2
    have hb : (if a i = -9 then m else (a i).toNat) = j := of_decide_eq_true hb
    by_cases e : a i = -9
    · rw [if_pos e] at hb; omega
    · rw [if_neg e] at hb
      obtain ⟨h1, j', h3, h4, h5⟩ := hin i hi e
      rw [h1, decide_eq_true (show a i = (j : Int) by omega)]; rfl
  · rw [hc] at a3
    refine Nat.le_trans a3 (cnB_mono (fun i hi hb => ?_))
    have hb := (Bool.and_eq_true_iff.mp hb).2
    have e : ¬ a i = -9 := by
      intro e
      rw [e] at hb; exact absurd hb (by decide)
    obtain ⟨h1, j', h3, h4, h5⟩ := hin i hi e
    refine decide_eq_true ?_
    show (if a i = -9 then m else (a i).toNat) < m
    rw [if_neg e]; omega
