/-! lodging: the reference's way, heap by heap -/
def ldE (n : Nat) (E : Nat → Bool) (β : Nat → Nat) (j : Nat) : Nat := cnB (fun i => E i && decide (β i = j)) n
def lgE (n m : Nat) (E : Nat → Bool) (β : Nat → Nat) : Nat := cnB (fun i => E i && decide (β i < m)) n
def kpE (kin : Nat → Nat → Bool) (n m : Nat) (E : Nat → Bool) (β : Nat → Nat) : Nat := smB (fun i => if (E i && decide (β i < m)) = true then cnB (fun t => (E t && kin i t) && decide (β t = β i)) i else 0) n
def ttE (kin : Nat → Nat → Bool) (n : Nat) (E : Nat → Bool) : Nat := smB (fun i => if E i = true then cnB (fun t => E t && kin i t) i else 0) n
def okE (tkb : Nat → Nat → Bool) (bd : Nat → Nat) (n m : Nat) (E : Nat → Bool) (β : Nat → Nat) : Prop := (∀ i, i < n → E i = true → β i < m → tkb (β i) i = true) ∧ ∀ j, j < m → ldE n E β j ≤ bd j
def csE (kin : Nat → Nat → Bool) (n m : Nat) (E : Nat → Bool) (β : Nat → Nat) : Int := 1000 * ((cnB E n : Int) - lgE n m E β) + ttE kin n E - kpE kin n m E β
theorem ldE_c {n : Nat} {E : Nat → Bool} {β γ : Nat → Nat} (h : ∀ i, i < n → E i = true → β i = γ i) (j : Nat) : ldE n E β j = ldE n E γ j :=
  cnB_congr (fun i hi => by
    cases he : E i with
    | false => rfl
    | true => rw [h i hi he])
theorem lgE_c {n m : Nat} {E : Nat → Bool} {β γ : Nat → Nat} (h : ∀ i, i < n → E i = true → β i = γ i) : lgE n m E β = lgE n m E γ :=
  cnB_congr (fun i hi => by
    cases he : E i with
    | false => rfl
    | true => rw [h i hi he])
theorem kpE_c {kin : Nat → Nat → Bool} {n m : Nat} {E : Nat → Bool} {β γ : Nat → Nat} (h : ∀ i, i < n → E i = true → β i = γ i) : kpE kin n m E β = kpE kin n m E γ :=
  smB_congr (fun i hi => by
    cases he : E i with
    | false => rfl
    | true =>
      rw [h i hi he]
      congr 1
      refine cnB_congr (fun t ht => ?_)
      cases het : E t with
      | false => rfl
      | true => rw [h t (by omega) het])
theorem okE_c {tkb : Nat → Nat → Bool} {bd : Nat → Nat} {n m : Nat} {E : Nat → Bool} {β γ : Nat → Nat} (h : ∀ i, i < n → E i = true → β i = γ i) (ho : okE tkb bd n m E β) : okE tkb bd n m E γ := by
  refine ⟨fun i hi he hl => ?_, fun j hj => ?_⟩
  · rw [← h i hi he] at hl ⊢
    exact ho.1 i hi he hl
  · rw [← ldE_c h j]; exact ho.2 j hj
theorem csE_c {kin : Nat → Nat → Bool} {n m : Nat} {E : Nat → Bool} {β γ : Nat → Nat} (h : ∀ i, i < n → E i = true → β i = γ i) : csE kin n m E β = csE kin n m E γ := by
  unfold csE
  rw [lgE_c h, kpE_c h]
def orE (D H : Nat → Bool) : Nat → Bool := fun i => D i || H i
def dsE (n : Nat) (D H : Nat → Bool) : Prop := ∀ i, i < n → D i = true → H i = false
theorem cnE_or {n : Nat} {D H : Nat → Bool} (h : dsE n D H) : cnB (orE D H) n = cnB D n + cnB H n :=
  cnB_or (fun i hi => by
    unfold orE
    cases hd : D i with
    | false => cases H i <;> rfl
    | true => rw [h i hi hd]; rfl)
theorem ldE_or {n : Nat} {D H : Nat → Bool} {β : Nat → Nat} (h : dsE n D H) (j : Nat) : ldE n (orE D H) β j = ldE n D β j + ldE n H β j :=
  cnB_or (fun i hi => by
    unfold orE
    cases hd : D i with
    | false => cases H i <;> cases decide (β i = j) <;> rfl
    | true => rw [h i hi hd]; cases decide (β i = j) <;> rfl)
theorem lgE_or {n m : Nat} {D H : Nat → Bool} {β : Nat → Nat} (h : dsE n D H) : lgE n m (orE D H) β = lgE n m D β + lgE n m H β :=
  cnB_or (fun i hi => by
    unfold orE
    cases hd : D i with
    | false => cases H i <;> cases decide (β i < m) <;> rfl
    | true => rw [h i hi hd]; cases decide (β i < m) <;> rfl)
/-- none of D is kin of one of H -/
def nkE (kin : Nat → Nat → Bool) (n : Nat) (D H : Nat → Bool) : Prop := ∀ i t, i < n → t < n → D i = true → H t = true → kin i t = false ∧ kin t i = false
theorem kpE_or {kin : Nat → Nat → Bool} {n m : Nat} {D H : Nat → Bool} {β : Nat → Nat} (h : dsE n D H) (hk : nkE kin n D H) : kpE kin n m (orE D H) β = kpE kin n m D β + kpE kin n m H β := by
  unfold kpE
  rw [← smB_add]
  refine smB_congr (fun i hi => ?_)
  cases hd : D i with
  | true =>
    have hh := h i hi hd
    rw [hh]
    have e : (orE D H i && decide (β i < m)) = (true && decide (β i < m)) := by unfold orE; rw [hd]; rfl
    rw [e]
    show _ = _ + (if (false && decide (β i < m)) = true then _ else 0)
    rw [if_neg (show ¬ (false && decide (β i < m)) = true by simp)]
    show _ = (if (true && decide (β i < m)) = true then _ else 0)
    congr 1
    refine cnB_congr (fun t ht => ?_)
    congr 1
    unfold orE
    cases hdt : D t with
    | true => rfl
    | false =>
      cases hht : H t with
      | false => rfl
      | true => rw [(hk i t hi (by omega) hd hht).1]; rfl
  | false =>
    have e : (orE D H i && decide (β i < m)) = (H i && decide (β i < m)) := by unfold orE; rw [hd]; rfl
    rw [e]
    show _ = (if (false && decide (β i < m)) = true then _ else 0) + _
    rw [if_neg (show ¬ (false && decide (β i < m)) = true by simp), Nat.zero_add]
    cases hhi : H i with
    | false => rfl
    | true =>
      congr 1
      refine cnB_congr (fun t ht => ?_)
      congr 1
      unfold orE
      cases hdt : D t with
      | false => rfl
      | true => rw [(hk t i (by omega) hi hdt hhi).2, Bool.and_false, Bool.and_false]
theorem ttE_or {kin : Nat → Nat → Bool} {n : Nat} {D H : Nat → Bool} (h : dsE n D H) (hk : nkE kin n D H) : ttE kin n (orE D H) = ttE kin n D + ttE kin n H := by
  unfold ttE
  rw [← smB_add]
  refine smB_congr (fun i hi => ?_)
  cases hd : D i with
  | true =>
    have hh := h i hi hd
    have e : orE D H i = true := by unfold orE; rw [hd]; rfl
    rw [hh, e, if_pos rfl, if_pos rfl, if_neg (by decide)]
    refine cnB_congr (fun t ht => ?_)
    unfold orE
    cases hdt : D t with
    | true => rfl
    | false =>
      cases hht : H t with
      | false => rfl
      | true => rw [(hk i t hi (by omega) hd hht).1]; rfl
  | false =>
    have e : orE D H i = H i := by unfold orE; rw [hd]; rfl
    rw [e, if_neg (show ¬ false = true by decide), Nat.zero_add]
    cases hhi : H i with
    | false => rfl
    | true =>
      rw [if_pos rfl, if_pos rfl]
      refine cnB_congr (fun t ht => ?_)
      unfold orE
      cases hdt : D t with
      | false => rfl
      | true => rw [(hk t i (by omega) hi hdt hhi).2, Bool.and_false, Bool.and_false]
/-- twice the pairs of c things -/
theorem tri_s {p : Nat → Bool} : ∀ n : Nat, 2 * smB (fun i => if p i = true then cnB p i else 0) n + cnB p n = cnB p n * cnB p n
  | 0 => rfl
  | n + 1 => by
    have ih := tri_s (p := p) n
    show 2 * (smB (fun i => if p i = true then cnB p i else 0) n + (if p n = true then cnB p n else 0)) + (cnB p n + (if p n = true then 1 else 0)) = (cnB p n + (if p n = true then 1 else 0)) * (cnB p n + (if p n = true then 1 else 0))
    cases p n with
    | true =>
      rw [if_pos rfl, if_pos rfl]
      have e : (cnB p n + 1) * (cnB p n + 1) = cnB p n * cnB p n + 2 * cnB p n + 1 := by
        rw [Nat.add_mul, Nat.mul_add]; omega
      rw [e]; omega
    | false =>
      rw [if_neg (by decide), if_neg (by decide)]; exact ih
def triN (c : Nat) : Nat := c * (c - 1) / 2
theorem tri_e {c s : Nat} (h : 2 * s + c = c * c) : s = triN c := by
  unfold triN
  cases c with
  | zero => omega
  | succ c =>
    rw [Nat.add_sub_cancel]
    have e : (c + 1) * (c + 1) = (c + 1) * c + (c + 1) := Nat.mul_succ _ _
    omega
/-- all of H are kin -/
def akE (kin : Nat → Nat → Bool) (n : Nat) (H : Nat → Bool) : Prop := ∀ i t, i < n → t < i → H i = true → H t = true → kin i t = true
theorem ttE_tri {kin : Nat → Nat → Bool} {n : Nat} {H : Nat → Bool} (h : akE kin n H) : ttE kin n H = triN (cnB H n) := by
  refine tri_e ?_
  rw [← tri_s]
  congr 2
  refine smB_congr (fun i hi => ?_)
  cases hh : H i with
  | false => rfl
  | true =>
    rw [if_pos rfl, if_pos rfl]
    refine cnB_congr (fun t ht => ?_)
    cases hht : H t with
    | false => rfl
    | true => rw [h i t hi ht hh hht]; rfl
theorem kpE_tri {kin : Nat → Nat → Bool} {n : Nat} {H : Nat → Bool} {β : Nat → Nat} (h : akE kin n H) : ∀ m : Nat, kpE kin n m H β = smB (fun j => triN (ldE n H β j)) m
  | 0 => by
    show smB _ n = 0
    have : smB (fun i => if (H i && decide (β i < 0)) = true then cnB (fun t => (H t && kin i t) && decide (β t = β i)) i else 0) n = smB (fun i => if (H i && decide (β i < 0)) = true then cnB (fun t => (H t && kin i t) && decide (β t = β i)) i else 0) 0 := smB_ext2 (by omega) (fun i _ => by
      rw [decide_eq_false (by omega), Bool.and_false]; rfl)
    rw [this]; rfl
  | m + 1 => by
    have ih := kpE_tri (kin := kin) (β := β) h m
    show _ = smB (fun j => triN (ldE n H β j)) m + triN (ldE n H β m)
    rw [← ih]
    have e : triN (ldE n H β m) = smB (fun i => if (H i && decide (β i = m)) = true then cnB (fun t => H t && decide (β t = m)) i else 0) n := (tri_e (tri_s (p := fun i => H i && decide (β i = m)) n)).symm
    rw [e]
    unfold kpE
    rw [← smB_add]
    refine smB_congr (fun i hi => ?_)
    cases hh : H i with
    | false => rfl
    | true =>
      have ek : cnB (fun t => (H t && kin i t) && decide (β t = β i)) i = cnB (fun t => H t && decide (β t = β i)) i := cnB_congr (fun t ht => by
        cases hht : H t with
        | false => rfl
        | true => rw [h i t hi ht hh hht]; rfl)
      rw [ek, Bool.true_and, Bool.true_and, Bool.true_and]
      by_cases y : β i = m
      · rw [decide_eq_true (show β i < m + 1 by omega), decide_eq_false (show ¬ β i < m by omega), decide_eq_true y, if_pos rfl, if_neg (by decide), if_pos rfl, y, Nat.zero_add]
      · rw [decide_eq_false y]
        by_cases l : β i < m
        · rw [decide_eq_true (show β i < m + 1 by omega), decide_eq_true l]; rfl
        · rw [decide_eq_false (show ¬ β i < m + 1 by omega), decide_eq_false l]; rfl
theorem lgE_ld {n : Nat} {H : Nat → Bool} {β : Nat → Nat} (m : Nat) : lgE n m H β = smB (fun j => ldE n H β j) m := cnB_lj m
/-- what a way of the heap costs -/
def csW (h m : Nat) (x : Nat → Nat) : Int := 1000 * ((h : Int) - smB x m) + triN h - smB (fun j => triN (x j)) m
theorem csE_or {kin : Nat → Nat → Bool} {n m : Nat} {D H : Nat → Bool} {β : Nat → Nat} (h : dsE n D H) (hk : nkE kin n D H) (ha : akE kin n H) : csE kin n m (orE D H) β = csE kin n m D β + csW (cnB H n) m (ldE n H β) := by
  unfold csE csW
  rw [cnE_or h, lgE_or h, kpE_or h hk, ttE_or h hk, ttE_tri ha, kpE_tri ha, lgE_ld (H := H) m]
  have e : smB (fun j => ldE n H β j) m = smB (ldE n H β) m := rfl
  rw [e]
  omega
/-- numbers of base 5 -/
def cd5 (x : Nat → Nat) : Nat → Nat
  | 0 => 0
  | m + 1 => cd5 x m + x m * 5 ^ m
theorem cd5_lt {x : Nat → Nat} : ∀ {m : Nat}, (∀ j, j < m → x j ≤ 4) → cd5 x m < 5 ^ m
  | 0, _ => by show 0 < 1; omega
  | m + 1, h => by
    have ih := cd5_lt (x := x) (m := m) (fun j hj => h j (by omega))
    have h1 := h m (by omega)
    show cd5 x m + x m * 5 ^ m < 5 ^ (m + 1)
    rw [Nat.pow_succ]
    have : x m * 5 ^ m ≤ 4 * 5 ^ m := Nat.mul_le_mul_right _ h1
    omega
theorem cd5_c {x y : Nat → Nat} : ∀ {m : Nat}, (∀ j, j < m → x j = y j) → cd5 x m = cd5 y m
  | 0, _ => rfl
  | m + 1, h => by
    have ih := cd5_c (x := x) (y := y) (m := m) (fun j hj => h j (by omega))
    show cd5 x m + x m * 5 ^ m = cd5 y m + y m * 5 ^ m
    rw [ih, h m (by omega)]
theorem cd5_add {x y : Nat → Nat} : ∀ m : Nat, cd5 (fun j => x j + y j) m = cd5 x m + cd5 y m
  | 0 => rfl
  | m + 1 => by
    have ih := cd5_add (x := x) (y := y) m
    show cd5 (fun j => x j + y j) m + (x m + y m) * 5 ^ m = cd5 x m + x m * 5 ^ m + (cd5 y m + y m * 5 ^ m)
    rw [ih, Nat.add_mul]; omega
def dg5 (q j : Nat) : Nat := q / 5 ^ j % 5
theorem dg5_b {q j : Nat} : dg5 q j ≤ 4 := by unfold dg5; omega
theorem cd5_d {x : Nat → Nat} : ∀ {m : Nat}, (∀ j, j < m → x j ≤ 4) → ∀ j, j < m → dg5 (cd5 x m) j = x j
  | 0, _, j, hj => by omega
  | m + 1, h, j, hj => by
    have ih := cd5_d (x := x) (m := m) (fun j hj => h j (by omega))
    have hl := cd5_lt (x := x) (m := m) (fun j hj => h j (by omega))
    have h1 := h m (by omega)
    show (cd5 x m + x m * 5 ^ m) / 5 ^ j % 5 = x j
    by_cases e : j = m
    · subst e
      rw [Nat.add_mul_div_right _ _ (Nat.pow_pos (by omega)), Nat.div_eq_of_lt hl]; omega
    · have ih := ih j (by omega)
      unfold dg5 at ih
      have e5 : x m * 5 ^ m = 5 ^ j * (5 * (x m * 5 ^ (m - j - 1))) := by
        have : m = j + (1 + (m - j - 1)) := by omega
        conv => lhs; rw [this, Nat.pow_add, Nat.pow_add, Nat.pow_one]
        rw [← this]
        simp only [Nat.mul_left_comm]
      rw [e5, Nat.add_mul_div_left _ _ (Nat.pow_pos (by omega)), Nat.add_mul_mod_self_left]
      exact ih
theorem cd5_of {q : Nat} : ∀ m : Nat, cd5 (dg5 q) m = q % 5 ^ m
  | 0 => by rw [Nat.pow_zero, Nat.mod_one]; rfl
  | m + 1 => by
    have ih := cd5_of (q := q) m
    show cd5 (dg5 q) m + dg5 q m * 5 ^ m = _
    rw [ih]
    unfold dg5
    rw [Nat.pow_succ, Nat.mod_mul, Nat.mul_comm]
theorem cd5_q {q m : Nat} (h : q < 5 ^ m) : cd5 (dg5 q) m = q := by
  rw [cd5_of, Nat.mod_eq_of_lt h]
