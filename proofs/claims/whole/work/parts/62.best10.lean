/-! lodging: the reference's step is right -/
def canP (tkb : Nat → Nat → Bool) (n m : Nat) (H : Nat → Bool) (x : Nat → Nat) : Prop := ∀ S, S < 2 ^ m → smB (fun j => if S.testBit j = true then x j else 0) m ≤ cnB (fun i => H i && decide (0 < cnB (fun j => (S.testBit j && decide (0 < x j)) && tkb j i) m)) n
theorem smB_eq {f g : Nat → Nat} : ∀ {m : Nat}, (∀ j, j < m → f j ≤ g j) → smB g m ≤ smB f m → ∀ j, j < m → f j = g j
  | 0, _, _, j, hj => by omega
  | m + 1, h, hs, j, hj => by
    have h1 := smB_le (f := f) (g := g) (n := m) (fun i hi => h i (by omega))
    have h2 := h m (by omega)
    have hs : smB g m + g m ≤ smB f m + f m := hs
    by_cases e : j = m
    · subst e; omega
    · exact smB_eq (f := f) (g := g) (m := m) (fun i hi => h i (by omega)) (by omega) j (by omega)
theorem can_ex {tkb : Nat → Nat → Bool} {n m : Nat} {H : Nat → Bool} {x : Nat → Nat} (h : canP tkb n m H x) : ∃ γ : Nat → Nat, (∀ i, i < n → H i = true → γ i < m → tkb (γ i) i = true) ∧ ∀ j, j < m → ldE n H γ j = x j := by
  obtain ⟨γ, c1, c2, c3⟩ := konigI (n := n) (m := m) (D := H) (tkb := tkb) (cap := x) (F := smB x m) (fun P => by
    have hS := h (mkM (fun j => decide (¬ 0 < cnB (fun i => H i && P i && tkb j i) n)) m) (mkM_lt m)
    have e1 : smB x m = smB (fun j => if (mkM (fun j => decide (¬ 0 < cnB (fun i => H i && P i && tkb j i) n)) m).testBit j = true then x j else 0) m + smB (fun j => if 0 < cnB (fun i => H i && P i && tkb j i) n then x j else 0) m := by
      rw [← smB_add]
      refine smB_congr (fun j hj => ?_)
      rw [mkM_t, decide_eq_true hj, Bool.true_and]
      by_cases y : 0 < cnB (fun i => H i && P i && tkb j i) n
      · rw [decide_eq_false (show ¬ ¬ 0 < cnB (fun i => H i && P i && tkb j i) n from fun z => z y), if_pos y, if_neg (by decide), Nat.zero_add]
      · rw [decide_eq_true (show ¬ 0 < cnB (fun i => H i && P i && tkb j i) n from y), if_neg y, if_pos rfl, Nat.add_zero]
    have e2 : cnB (fun i => H i && decide (0 < cnB (fun j => ((mkM (fun j => decide (¬ 0 < cnB (fun i => H i && P i && tkb j i) n)) m).testBit j && decide (0 < x j)) && tkb j i) m)) n ≤ cnB (fun i => H i && !P i) n := by
      refine cnB_mono (fun i hi hp => ?_)
      have h1 := Bool.and_eq_true_iff.mp hp
      obtain ⟨j, j1, j2⟩ := cnB_pos.mp (of_decide_eq_true h1.2)
      have j3 := Bool.and_eq_true_iff.mp j2
      have j4 := (Bool.and_eq_true_iff.mp j3.1).1
      rw [mkM_t, decide_eq_true j1, Bool.true_and] at j4
      have j5 : ¬ 0 < cnB (fun i => H i && P i && tkb j i) n := of_decide_eq_true j4
      rw [h1.1]
      cases hpi : P i with
      | false => rfl
      | true => exact absurd (cnB_pos.mpr ⟨i, hi, by rw [h1.1, hpi, j3.2]; rfl⟩) j5
    omega)
  have e : ∀ j, j < m → ldE n H γ j = cnB (fun i => decide (γ i = j)) n := by
    intro j hj
    refine cnB_congr (fun i hi => ?_)
    by_cases y : γ i = j
    · rw [(c1 i hi (by omega)).1]; rfl
    · rw [decide_eq_false y, Bool.and_false]
  refine ⟨γ, fun i hi _ hl => (c1 i hi hl).2, ?_⟩
  refine smB_eq (fun j hj => ?_) ?_
  · rw [e j hj]; exact c2 j hj
  · have e3 := cnB_lj (n := n) (p := fun _ => true) (β := γ) m
    have e4 : cnB (fun i => true && decide (γ i < m)) n = cnB (fun i => decide (γ i < m)) n := cnB_congr (fun i _ => Bool.true_and _)
    have e5 : smB (fun j => cnB (fun i => true && decide (γ i = j)) n) m = smB (ldE n H γ) m := smB_congr (fun j hj => by
      rw [e j hj]
      exact cnB_congr (fun i _ => Bool.true_and _))
    omega
theorem ex_can {tkb : Nat → Nat → Bool} {n m : Nat} {H : Nat → Bool} {x γ : Nat → Nat} (h1 : ∀ i, i < n → H i = true → γ i < m → tkb (γ i) i = true) (h2 : ∀ j, j < m → ldE n H γ j = x j) : canP tkb n m H x := by
  intro S _
  have e1 : ∀ k, k ≤ m → smB (fun j => if S.testBit j = true then x j else 0) k = cnB (fun i => (H i && S.testBit (γ i)) && decide (γ i < k)) n := by
    intro k hk
    rw [cnB_lj]
    refine smB_congr (fun j hj => ?_)
    rw [← h2 j (by omega)]
    cases hs : S.testBit j with
    | true =>
      rw [if_pos rfl]
      refine cnB_congr (fun i _ => ?_)
      by_cases y : γ i = j
      · rw [y, hs, decide_eq_true rfl, Bool.and_true, Bool.and_true]
      · rw [decide_eq_false y, Bool.and_false, Bool.and_false]
    | false =>
      rw [if_neg (by decide)]
      refine (cnB_0 (fun i _ => ?_)).symm
      by_cases y : γ i = j
      · rw [y, hs, Bool.and_false]; rfl
      · rw [decide_eq_false y, Bool.and_false]
  rw [e1 m (Nat.le_refl m)]
  refine cnB_mono (fun i hi hp => ?_)
  have p1 := Bool.and_eq_true_iff.mp hp
  have p2 := Bool.and_eq_true_iff.mp p1.1
  have p3 := of_decide_eq_true p1.2
  rw [p2.1]
  refine decide_eq_true (cnB_pos.mpr ⟨γ i, p3, ?_⟩)
  have pos : 0 < x (γ i) := by
    rw [← h2 _ p3]
    refine cnB_pos.mpr ⟨i, hi, ?_⟩
    rw [p2.1, decide_eq_true rfl]; rfl
  rw [p2.2, decide_eq_true pos, h1 i hi p2.1 p3]; rfl
/-- a way of the heap -/
def gdW (tkb : Nat → Nat → Bool) (bd : Nat → Nat) (n m : Nat) (H : Nat → Bool) (c : Nat) : Prop := c < 5 ^ m ∧ (∀ j, j < m → dg5 c j ≤ bd j) ∧ smB (dg5 c) m ≤ cnB H n ∧ canP tkb n m H (dg5 c)
def fit5 (bd : Nat → Nat) (m q c : Nat) : Prop := ∀ j, j < m → dg5 q j + dg5 c j ≤ bd j
def stpR (tkb : Nat → Nat → Bool) (bd : Nat → Nat) (n m : Nat) (H : Nat → Bool) (f f' : Int → Int) : Prop := (∀ p : Nat, p < 5 ^ m → f' p < 1000000 → ∃ q c : Nat, q < 5 ^ m ∧ gdW tkb bd n m H c ∧ fit5 bd m q c ∧ p = q + c ∧ f q < 1000000 ∧ f' p = f q + csW (cnB H n) m (dg5 c)) ∧ ∀ q c : Nat, q < 5 ^ m → gdW tkb bd n m H c → fit5 bd m q c → f q < 1000000 → f' ((q + c : Nat) : Int) ≤ f q + csW (cnB H n) m (dg5 c)
def SndR (kin tkb : Nat → Nat → Bool) (bd : Nat → Nat) (n m : Nat) (D : Nat → Bool) (f : Int → Int) : Prop := ∀ q : Nat, q < 5 ^ m → f q < 1000000 → ∃ β : Nat → Nat, okE tkb bd n m D β ∧ q = cd5 (ldE n D β) m ∧ f q = csE kin n m D β
def CmpR (kin tkb : Nat → Nat → Bool) (bd : Nat → Nat) (n m : Nat) (D : Nat → Bool) (f : Int → Int) : Prop := ∀ β : Nat → Nat, okE tkb bd n m D β → f (cd5 (ldE n D β) m : Nat) ≤ csE kin n m D β
theorem csW_c {h m : Nat} {x y : Nat → Nat} (e : ∀ j, j < m → x j = y j) : csW h m x = csW h m y := by
  unfold csW
  have e1 : smB x m = smB y m := smB_congr e
  have e2 : smB (fun j => triN (x j)) m = smB (fun j => triN (y j)) m := smB_congr (fun j hj => by rw [e j hj])
  rw [e1, e2]
theorem SndR_s {kin tkb : Nat → Nat → Bool} {bd : Nat → Nat} {n m : Nat} {D H : Nat → Bool} {f f' : Int → Int} (hb : ∀ j, j < m → bd j ≤ 4) (hd : dsE n D H) (hk : nkE kin n D H) (ha : akE kin n H) (hS : SndR kin tkb bd n m D f) (hs : stpR tkb bd n m H f f') : SndR kin tkb bd n m (orE D H) f' := by
  intro p hp hlt
  obtain ⟨q, c, q1, c1, qc, e, fq, fe⟩ := hs.1 p hp hlt
  obtain ⟨β, b1, b2, b3⟩ := hS q q1 fq
  obtain ⟨γ, g1, g2⟩ := can_ex c1.2.2.2
  have eD : ∀ i, i < n → D i = true → β i = (if H i = true then γ i else β i) := by
    intro i hi hdi
    rw [hd i hi hdi]; rfl
  have eH : ∀ i, i < n → H i = true → γ i = (if H i = true then γ i else β i) := by
    intro i hi hhi
    rw [if_pos hhi]
  have lD : ∀ j, j < m → ldE n D (fun i => if H i = true then γ i else β i) j = dg5 q j := by
    intro j hj
    rw [← ldE_c eD j]
    rw [b2]
    exact (cd5_d (fun j hj => Nat.le_trans (b1.2 j hj) (hb j hj)) j hj).symm
  have lH : ∀ j, j < m → ldE n H (fun i => if H i = true then γ i else β i) j = dg5 c j := by
    intro j hj
    rw [← ldE_c eH j]; exact g2 j hj
  refine ⟨fun i => if H i = true then γ i else β i, ⟨fun i hi he hl => ?_, fun j hj => ?_⟩, ?_, ?_⟩
  · show tkb (if H i = true then γ i else β i) i = true
    have hl : (if H i = true then γ i else β i) < m := hl
    by_cases y : H i = true
    · rw [if_pos y] at hl ⊢
      exact g1 i hi y hl
    · rw [if_neg y] at hl ⊢
      refine b1.1 i hi ?_ hl
      unfold orE at he
      rcases Bool.or_eq_true_iff.mp he with z | z
      · exact z
      · exact absurd z y
  · rw [ldE_or hd, lD j hj, lH j hj]; exact qc j hj
  · rw [e, cd5_c (x := ldE n (orE D H) (fun i => if H i = true then γ i else β i)) (y := fun j => dg5 q j + dg5 c j) (fun j hj => by rw [ldE_or hd, lD j hj, lH j hj]), cd5_add, cd5_q q1, cd5_q c1.1]
  · rw [fe, csE_or hd hk ha, b3, csE_c eD, csW_c lH]
theorem triN_le {c : Nat} (h : c ≤ 12) : triN c ≤ 66 := by
  unfold triN
  have : c * (c - 1) ≤ 12 * 11 := Nat.mul_le_mul h (by omega)
  omega
theorem csE_b {kin : Nat → Nat → Bool} {n m : Nat} {D : Nat → Bool} {β : Nat → Nat} (hn : n ≤ 12) : 0 ≤ csE kin n m D β ∧ csE kin n m D β ≤ 12144 ∧ ttE kin n D ≤ 144 := by
  have h1 : lgE n m D β ≤ cnB D n := cnB_mono (fun i _ h => (Bool.and_eq_true_iff.mp h).1)
  have h2 := cnB_le (p := D) n
  have h3 : kpE kin n m D β ≤ ttE kin n D := smB_le (fun i _ => by
    cases hd : D i with
    | false => exact Nat.zero_le _
    | true =>
      rw [if_pos rfl]
      split
      · exact cnB_mono (fun t _ h => (Bool.and_eq_true_iff.mp h).1)
      · exact Nat.zero_le _)
  have h4 : ttE kin n D ≤ smB (fun _ => 12) n := smB_le (fun i hi => by
    split
    · have := cnB_le (p := fun t => D t && kin i t) i
      omega
    · omega)
  have h5 : ∀ k : Nat, smB (fun _ => 12) k = 12 * k := by
    intro k
    induction k with
    | zero => rfl
    | succ k ih => show smB (fun _ => 12) k + 12 = 12 * (k + 1); omega
  rw [h5] at h4
  unfold csE
  omega
theorem CmpR_s {kin tkb : Nat → Nat → Bool} {bd : Nat → Nat} {n m : Nat} {D H : Nat → Bool} {f f' : Int → Int} (hn : n ≤ 12) (hb : ∀ j, j < m → bd j ≤ 4) (hd : dsE n D H) (hk : nkE kin n D H) (ha : akE kin n H) (hC : CmpR kin tkb bd n m D f) (hs : stpR tkb bd n m H f f') : CmpR kin tkb bd n m (orE D H) f' := by
  intro β ho
  have ld : ∀ j, j < m → ldE n D β j + ldE n H β j ≤ bd j := by
    intro j hj
    rw [← ldE_or hd]; exact ho.2 j hj
  have oD : okE tkb bd n m D β := ⟨fun i hi he hl => ho.1 i hi (by unfold orE; rw [he]; rfl) hl, fun j hj => by have := ld j hj; omega⟩
  have h1 := hC β oD
  have hcb := (csE_b (kin := kin) (m := m) (D := D) (β := β) hn).2.1
  have bD : ∀ j, j < m → ldE n D β j ≤ 4 := fun j hj => by have := ld j hj; have := hb j hj; omega
  have bH : ∀ j, j < m → ldE n H β j ≤ 4 := fun j hj => by have := ld j hj; have := hb j hj; omega
  have dD := cd5_d (x := ldE n D β) bD
  have dH := cd5_d (x := ldE n H β) bH
  have gw : gdW tkb bd n m H (cd5 (ldE n H β) m) := by
    refine ⟨cd5_lt bH, fun j hj => by rw [dH j hj]; have := ld j hj; omega, ?_, ?_⟩
    · rw [smB_congr dH]
      have e := lgE_ld (n := n) (H := H) (β := β) m
      have : lgE n m H β ≤ cnB H n := cnB_mono (fun i _ h => (Bool.and_eq_true_iff.mp h).1)
      have e2 : smB (fun j => ldE n H β j) m = smB (ldE n H β) m := rfl
      omega
    · refine ex_can (γ := β) (fun i hi he hl => ho.1 i hi (by unfold orE; rw [he]; exact Bool.or_true _) hl) (fun j hj => (dH j hj).symm)
  have key := hs.2 (cd5 (ldE n D β) m) (cd5 (ldE n H β) m) (cd5_lt bD) gw (fun j hj => by rw [dD j hj, dH j hj]; exact ld j hj) (by omega)
  have e : cd5 (ldE n (orE D H) β) m = cd5 (ldE n D β) m + cd5 (ldE n H β) m := by
    rw [← cd5_add]
    exact cd5_c (fun j _ => ldE_or hd j)
  rw [e, csE_or hd hk ha]
  rw [csW_c dH] at key
  omega
def kinL (kn : Int → Int) (cm : Nat → Int) (i t : Nat) : Bool := decide (¬ t = i) && knn kn (cm i) (cm t)
theorem best_ofR {sx ag kn ho : Int → Int} {cm hm : Nat → Int} {n m : Nat} {v : Int} (hn : n ≤ 12) (hc : injN cm n) (hh : injN hm m) (h9 : ∀ j, j < m → ¬ hm j = -9) (hb : ∀ j, j < m → 0 ≤ ho (5 * hm j + 2)) (hv : ∃ β : Nat → Nat, okE (fun j i => tks sx ag ho (hm j) (cm i)) (bdL ho hm) n m (fun _ => true) β ∧ v = csE (kinL kn cm) n m (fun _ => true) β) (hmin : ∀ β : Nat → Nat, okE (fun j i => tks sx ag ho (hm j) (cm i)) (bdL ho hm) n m (fun _ => true) β → v ≤ csE (kinL kn cm) n m (fun _ => true) β) : isBest sx ag kn ho (lst cm n) (lst hm m) (v / 1000) (v % 1000) := by
  have fe : ∀ β : Nat → Nat, okE (fun j i => tks sx ag ho (hm j) (cm i)) (bdL ho hm) n m (fun _ => true) β ↔ fsB n (tkL sx ag ho cm hm n) (bdL ho hm) m β := by
    intro β
    have el : ∀ j, ldE n (fun _ => true) β j = pcB (mkJ n β j) := fun j => by
      unfold mkJ
      rw [pcB_mk hn]
      exact cnB_congr (fun i _ => Bool.true_and _)
    constructor
    · intro h j hj
      refine ⟨by rw [← el]; exact h.2 j hj, t_sub (fun i hi => ?_)⟩
      unfold mkJ at hi
      rw [mkM_t] at hi
      have h3 := Bool.and_eq_true_iff.mp hi
      have hin := of_decide_eq_true h3.1
      have e := of_decide_eq_true h3.2
      have h4 : tks sx ag ho (hm (β i)) (cm i) = true := h.1 i hin rfl (by omega)
      rw [e] at h4
      unfold tkL
      rw [mkM_t, h3.1, h4]; rfl
    · intro h
      refine ⟨fun i hi _ hl => ?_, fun j hj => by rw [el]; exact (h j hj).1⟩
      have h3 : (mkJ n β (β i)).testBit i = true := by
        unfold mkJ
        rw [mkM_t, decide_eq_true hi, decide_eq_true rfl]; rfl
      have h4 := sub_t (h (β i) hl).2 h3
      unfold tkL at h4
      rw [mkM_t] at h4
      exact (Bool.and_eq_true_iff.mp h4).2
  have et : ttE (kinL kn cm) n (fun _ => true) = ttK kn cm n := by
    unfold ttE ttK
    refine smB_congr (fun i hi => ?_)
    rw [if_pos rfl]
    refine cnB_congr (fun t ht => ?_)
    unfold KL
    rw [mkM_t, decide_eq_true (show t < n by omega)]; rfl
  have ek : ∀ β : Nat → Nat, kpE (kinL kn cm) n m (fun _ => true) β = vlB (KL kn cm n) n β m := by
    intro β
    rw [vlB_kp hn]
    unfold kpE
    refine smB_congr (fun i hi => ?_)
    rw [Bool.true_and]
    by_cases l : β i < m
    · rw [decide_eq_true l, if_pos rfl, if_pos l]
      refine cnB_congr (fun t ht => ?_)
      unfold KL
      rw [mkM_t, decide_eq_true (show t < n by omega)]; rfl
    · rw [decide_eq_false l, if_neg (by decide), if_neg l]
  have ec : ∀ β : Nat → Nat, csE (kinL kn cm) n m (fun _ => true) β = 1000 * ((n : Int) - pcB (mkL n β m)) + ttK kn cm n - vlB (KL kn cm n) n β m := by
    intro β
    unfold csE
    rw [et, ek]
    have e1 : cnB (fun _ => true) n = n := by
      have := cnB_not (p := fun _ => true) n
      have z : cnB (fun _ : Nat => !true) n = 0 := cnB_0 (fun i _ => rfl)
      omega
    have e2 : lgE n m (fun _ => true) β = pcB (mkL n β m) := by
      unfold mkL
      rw [pcB_mk hn]
      exact cnB_congr (fun i _ => Bool.true_and _)
    rw [e1, e2]
  have tb : ttK kn cm n ≤ 144 := by
    rw [← et]
    exact (csE_b (kin := kinL kn cm) (m := m) (D := fun _ => true) (β := fun _ => 0) hn).2.2
  have vb : ∀ β : Nat → Nat, vlB (KL kn cm n) n β m ≤ ttK kn cm n := fun β => vlB_le hn
  obtain ⟨β, b1, b2⟩ := hv
  have hR := R_of (hm := hm) (m := m) β hc
  have e1 := R_ov hn hR h9
  have e2 := R_pr (kn := kn) hn hR hh h9
  have e3 := ec β
  have e4 := vb β
  refine ⟨_, (R_fs hn hR hh h9 hb).mpr ((fe β).mp b1), by omega, by omega, fun b hfb => ?_⟩
  have hR2 : isR cm hm n m b (fun i => fdH hm (b (cm i)) m m) := of_R (fun i hi => by
    rcases hfb.1 (cm i) (lst_in.mpr ⟨i, hi, rfl⟩) with y | y
    · exact Or.inl y
    · obtain ⟨j, j1, j2⟩ := lst_in.mp y.1
      exact Or.inr ⟨j, j1, j2⟩) h9
  have fB := (R_fs hn hR2 hh h9 hb).mp hfb
  have g1 := R_ov hn hR2 h9
  have g2 := R_pr (kn := kn) hn hR2 hh h9
  have g3 := hmin _ ((fe _).mpr fB)
  rw [ec] at g3
  have g4 := vb (fun i => fdH hm (b (cm i)) m m)
  omega
