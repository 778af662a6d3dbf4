/-! lodging: the reference's digits, and whether a way can be -/
theorem lp_154 {d : Nat} {P : Int → Mm → Prop} {M : Mm} {q j : Nat} (hq : q < 2147483648) (hj : j ≤ 100) (h : P (dg5 q j : Nat) M) : ∀ (k i : Nat), k + i = j → H_154_4 d P j (q / 5 ^ i : Nat) i M
  | 0, i, hk => by
    have e : i = j := by omega
    subst e
    have hle := Nat.div_le_self q (5 ^ i)
    have hp : 0 ≤ ((q / 5 ^ i : Nat) : Int) ∧ ((q / 5 ^ i : Nat) : Int) ≤ 2147483647 ∧ (0 : Int) < 5 := by
      generalize q / 5 ^ i = z at hle ⊢
      omega
    refine sg_154_4 ⟨fun _ => ⟨hp, ?_⟩, fun z => by omega⟩
    have e2 : ((q / 5 ^ i : Nat) : Int) % 5 = ((dg5 q i : Nat) : Int) := rfl
    rw [e2]; exact h
  | k + 1, i, hk => by
    have ih := lp_154 (d := d) hq hj h k (i + 1) (by omega)
    have hle := Nat.div_le_self q (5 ^ i)
    have hp : 0 ≤ ((q / 5 ^ i : Nat) : Int) ∧ ((q / 5 ^ i : Nat) : Int) ≤ 2147483647 ∧ (0 : Int) < 5 := by
      generalize q / 5 ^ i = z at hle ⊢
      omega
    rw [Nat.pow_succ, ← Nat.div_div_eq_div_mul, show ((i + 1 : Nat) : Int) = (i : Int) + 1 by omega] at ih
    exact sg_154_4 ⟨fun z => by omega, fun _ => ⟨hp, by unfold inI; omega, ih⟩⟩
theorem c_154 {d : Nat} {P : Int → Mm → Prop} {M : Mm} {q j : Nat} (hq : q < 2147483648) (hj : j ≤ 100) (h : P (dg5 q j : Nat) M) : EE (d + 1) 154 [vI q, vI j] M (rI P) := by
  have := lp_154 (d := d) hq hj h j 0 rfl
  rw [Nat.pow_zero, Nat.div_one] at this
  exact sg_154 this
theorem cn_by {n : Nat} {p q : Nat → Bool} {σ : Nat → Nat} (k : Nat) : smB (fun s => if q s = true then cnB (fun i => p i && decide (σ i = s)) n else 0) k = cnB (fun i => (p i && q (σ i)) && decide (σ i < k)) n := by
  rw [cnB_lj]
  refine smB_congr (fun j hj => ?_)
  cases hs : q j with
  | true =>
    rw [if_pos rfl]
    refine cnB_congr (fun i _ => ?_)
    by_cases y : σ i = j
    · rw [y, hs, decide_eq_true rfl, Bool.and_true, Bool.and_true]
    · rw [decide_eq_false y, Bool.and_false, Bool.and_false]
  | false =>
    rw [if_neg (by decide)]
    refine (cnB_0 (fun i _ => ?_)).symm
    by_cases y : σ i = j
    · rw [y, hs, Bool.and_false]; rfl
    · rw [decide_eq_false y, Bool.and_false]
/-- the houses and the heap in the reference's store -/
def ok155 (M : Mm) (hm : Nat → Int) (T : Nat → Nat) (sr : Nat → Nat) (H : Nat → Bool) (n m : Nat) : Prop := (n ≤ 12 ∧ m ≤ 6) ∧ (∀ j : Nat, j < m → M 100 j = hm j ∧ (0 ≤ hm j ∧ hm j < 24) ∧ M 89 (5 * hm j + 3) = (T j : Nat) ∧ T j < 16) ∧ (∀ i, i < n → sr i < 4) ∧ ∀ k : Nat, k < 4 → M 106 k = (cnB (fun i => H i && decide (sr i = k)) n : Nat)
/-- the sorts that the houses of S take that want some -/
def tkS (T x : Nat → Nat) (S m : Nat) : Nat := mkM (fun k => decide (0 < cnB (fun j => (S.testBit j && decide (0 < x j)) && (T j).testBit k) m)) 4
theorem tkS_s {T x : Nat → Nat} {S j : Nat} (hT : T j < 16) : tkS T x S (j + 1) = if (S.testBit j && decide (0 < x j)) = true then tkS T x S j ||| T j else tkS T x S j := by
  have e : ∀ k, decide (0 < cnB (fun j => (S.testBit j && decide (0 < x j)) && (T j).testBit k) (j + 1)) = (decide (0 < cnB (fun j => (S.testBit j && decide (0 < x j)) && (T j).testBit k) j) || ((S.testBit j && decide (0 < x j)) && (T j).testBit k)) := by
    intro k
    show decide (0 < cnB (fun j => (S.testBit j && decide (0 < x j)) && (T j).testBit k) j + (if ((S.testBit j && decide (0 < x j)) && (T j).testBit k) = true then 1 else 0)) = _
    cases ((S.testBit j && decide (0 < x j)) && (T j).testBit k) with
    | true => rw [if_pos rfl, Bool.or_true]; exact decide_eq_true (by omega)
    | false => rw [if_neg (by decide), Bool.or_false, Nat.add_zero]
  refine bit_eq (n := 4) (mkM_lt 4) ?_ (fun k hk => ?_)
  · split
    · exact Nat.or_lt_two_pow (mkM_lt 4) hT
    · exact mkM_lt 4
  · unfold tkS
    rw [mkM_t, decide_eq_true hk, Bool.true_and, e k]
    cases (S.testBit j && decide (0 < x j)) with
    | true => rw [if_pos rfl, Nat.testBit_or, mkM_t, decide_eq_true hk]; rfl
    | false => rw [if_neg (by decide), mkM_t, decide_eq_true hk, Bool.false_and, Bool.or_false]; rfl
theorem lp_155_91 {d : Nat} {P : Int → Mm → Prop} {M : Mm} {hm : Nat → Int} {T sr : Nat → Nat} {H : Nat → Bool} {n m c S w t : Nat} (hM : ok155 M hm T sr H n m) (ht : t < 16) (hS : S < 64) (h1 : w ≤ cnB (fun i => H i && t.testBit (sr i)) n → H_155_2 d P c m ((S : Int) + 1) M) (h0 : ¬ w ≤ cnB (fun i => H i && t.testBit (sr i)) n → P 0 M) : ∀ (k s : Nat), k + s = 4 → H_155_91 d P c m S w t (smB (fun s => if t.testBit s = true then cnB (fun i => H i && decide (sr i = s)) n else 0) s : Nat) s M
  | 0, s, hk => by
    have e : s = 4 := by omega
    subst e
    have e2 : smB (fun s => if t.testBit s = true then cnB (fun i => H i && decide (sr i = s)) n else 0) 4 = cnB (fun i => H i && t.testBit (sr i)) n := by
      rw [cn_by]
      exact cnB_congr (fun i hi => by rw [decide_eq_true (hM.2.2.1 i hi), Bool.and_true])
    rw [e2]
    exact sg_155_91 ⟨fun _ => ⟨fun z => ⟨by unfold inI; omega, h1 (by omega)⟩, fun z => h0 (by omega)⟩, fun z => by omega⟩
  | k + 1, s, hk => by
    have ih := lp_155_91 (d := d) (P := P) hM ht hS h1 h0 k (s + 1) (by omega)
    have hb : zand (zshr (t : Int) (s : Int)) 1 = ((t / 2 ^ s % 2 : Nat) : Int) := bitq (by omega) (by omega)
    have htb := Nat.testBit_eq_decide_div_mod_eq (x := t) (i := s)
    have hn := hM.1.1
    have sb := smB_c (f := fun s => if t.testBit s = true then cnB (fun i => H i && decide (sr i = s)) n else 0) (c := 12) (n := s) (fun i _ => by
      have := cnB_le (p := fun u => H u && decide (sr u = i)) n
      split <;> omega)
    have cb := cnB_le (p := fun u => H u && decide (sr u = s)) n
    have es : smB (fun s => if t.testBit s = true then cnB (fun i => H i && decide (sr i = s)) n else 0) (s + 1) = smB (fun s => if t.testBit s = true then cnB (fun i => H i && decide (sr i = s)) n else 0) s + (if t.testBit s = true then cnB (fun i => H i && decide (sr i = s)) n else 0) := rfl
    rw [es, show ((s + 1 : Nat) : Int) = (s : Int) + 1 by omega] at ih
    refine sg_155_91 ⟨fun z => by omega, fun _ => ?_⟩
    rw [hb, hM.2.2.2 s (by omega)]
    refine ⟨fun z => ⟨by unfold inI; omega, by unfold inI; omega, ?_⟩, fun z => ⟨by omega, by unfold inI; omega, by unfold inI; omega, ?_⟩⟩
    · have z2 : ¬ t / 2 ^ s % 2 = 1 := fun y => z (by rw [y]; rfl)
      rw [decide_eq_false z2] at htb
      rw [htb, if_neg (by decide)] at ih
      rw [Int.add_zero]; exact ih
    · have z2 : t / 2 ^ s % 2 = 1 := by
        have : ((t / 2 ^ s % 2 : Nat) : Int) = ((1 : Nat) : Int) := z
        exact Int.ofNat_inj.mp this
      rw [decide_eq_true z2] at htb
      rw [htb, if_pos rfl, Int.natCast_add] at ih
      exact ih
theorem lp_155_18 {d : Nat} {P : Int → Mm → Prop} {M : Mm} {hm : Nat → Int} {T sr : Nat → Nat} {H : Nat → Bool} {n m c S : Nat} (hM : ok155 M hm T sr H n m) (hc : c < 15625) (hS : S < 64) (h : H_155_91 (d + 1) P c m S (smB (fun j => if S.testBit j = true then dg5 c j else 0) m : Nat) (tkS T (dg5 c) S m : Nat) 0 0 M) : ∀ (k j : Nat), k + j = m → H_155_18 (d + 1) P c m S (smB (fun j => if S.testBit j = true then dg5 c j else 0) j : Nat) (tkS T (dg5 c) S j : Nat) j M
  | 0, j, hk => by
    have e : j = m := by omega
    subst e
    exact sg_155_18 ⟨fun _ => h, fun z => by omega⟩
  | k + 1, j, hk => by
    have hm6 := hM.1.2
    have hMj := hM.2.1 j (by omega)
    have ih := lp_155_18 (d := d) (P := P) hM hc hS h k (j + 1) (by omega)
    have hb : zand (zshr (S : Int) (j : Int)) 1 = ((S / 2 ^ j % 2 : Nat) : Int) := bitq (by omega) (by omega)
    have htb := Nat.testBit_eq_decide_div_mod_eq (x := S) (i := j)
    have es : smB (fun j => if S.testBit j = true then dg5 c j else 0) (j + 1) = smB (fun j => if S.testBit j = true then dg5 c j else 0) j + (if S.testBit j = true then dg5 c j else 0) := rfl
    have sb := smB_c (f := fun j => if S.testBit j = true then dg5 c j else 0) (c := 4) (n := j) (fun i _ => by
      have := dg5_b (q := c) (j := i)
      split <;> omega)
    have db := dg5_b (q := c) (j := j)
    have tb : tkS T (dg5 c) S j < 16 := mkM_lt 4
    rw [es, tkS_s hMj.2.2.2, show ((j + 1 : Nat) : Int) = (j : Int) + 1 by omega] at ih
    refine sg_155_18 ⟨fun z => by omega, fun _ => ?_⟩
    rw [hb]
    refine ⟨fun z => ⟨by unfold inI; omega, ?_⟩, fun z => ?_⟩
    · have z2 : ¬ S / 2 ^ j % 2 = 1 := fun y => z (by rw [y]; rfl)
      rw [decide_eq_false z2] at htb
      rw [htb, if_neg (by decide), Bool.false_and, if_neg (by decide)] at ih
      exact ih
    · have z2 : S / 2 ^ j % 2 = 1 := by
        have : ((S / 2 ^ j % 2 : Nat) : Int) = ((1 : Nat) : Int) := z
        exact Int.ofNat_inj.mp this
      rw [decide_eq_true z2] at htb
      rw [htb, if_pos rfl, Bool.true_and, Int.natCast_add] at ih
      refine c_154 (by omega) (by omega) ⟨by unfold inI; omega, fun y => ⟨by unfold inI; omega, ?_⟩, fun y => ?_⟩
      · rw [decide_eq_false (by omega), if_neg (by decide)] at ih
        have z0 : zor ((tkS T (dg5 c) S j : Nat) : Int) ((0 : Nat) : Int) = ((tkS T (dg5 c) S j ||| 0 : Nat) : Int) := zor_n (by omega) (by omega)
        rw [Nat.or_zero] at z0
        rw [← z0] at ih
        exact ih
      · rw [decide_eq_true (by omega), if_pos rfl] at ih
        rw [hMj.1, hMj.2.2.1, zor_n (by omega) (by omega)]
        exact ⟨by omega, by unfold inI; omega, by unfold inI; omega, by omega, by unfold inI; omega, ih⟩
theorem tkS_p {T sr x : Nat → Nat} {S n m i : Nat} (hs : ∀ i, i < n → sr i < 4) (hi : i < n) : (tkS T x S m).testBit (sr i) = decide (0 < cnB (fun j => (S.testBit j && decide (0 < x j)) && (T j).testBit (sr i)) m) := by
  unfold tkS
  rw [mkM_t, decide_eq_true (hs i hi), Bool.true_and]
theorem lp_155_2 {d : Nat} {P : Int → Mm → Prop} {M : Mm} {hm : Nat → Int} {T sr : Nat → Nat} {H : Nat → Bool} {n m c : Nat} (hM : ok155 M hm T sr H n m) (hc : c < 15625) (h1 : canP (fun j i => (T j).testBit (sr i)) n m H (dg5 c) → P 1 M) (h0 : ¬ canP (fun j i => (T j).testBit (sr i)) n m H (dg5 c) → P 0 M) : ∀ (k S : Nat), k + S = 2 ^ m → (∀ R, R < S → smB (fun j => if R.testBit j = true then dg5 c j else 0) m ≤ cnB (fun i => H i && decide (0 < cnB (fun j => (R.testBit j && decide (0 < dg5 c j)) && (T j).testBit (sr i)) m)) n) → H_155_2 (d + 1) P c m S M
  | 0, S, hk, hR => by
    have hm6 := hM.1.2
    have e : S = 2 ^ m := by omega
    refine sg_155_2 ?_
    rw [(zshl_1 m (by omega)).1]
    exact ⟨fun _ => h1 (fun R hR2 => hR R (by omega)), fun z => by omega⟩
  | k + 1, S, hk, hR => by
    have hm6 := hM.1.2
    have h64 : 2 ^ m ≤ 2 ^ 6 := Nat.pow_le_pow_right (by omega) hm6
    have et : cnB (fun i => H i && (tkS T (dg5 c) S m).testBit (sr i)) n = cnB (fun i => H i && decide (0 < cnB (fun j => (S.testBit j && decide (0 < dg5 c j)) && (T j).testBit (sr i)) m)) n := cnB_congr (fun i hi => by rw [tkS_p hM.2.2.1 hi])
    refine sg_155_2 ?_
    rw [(zshl_1 m (by omega)).1]
    refine ⟨fun z => by omega, fun _ => ?_⟩
    have e0 : tkS T (dg5 c) S 0 = 0 := mkM_0 (fun k _ => decide_eq_false (Nat.lt_irrefl 0))
    have key := lp_155_18 (d := d) (P := P) hM hc (show S < 64 by omega) ?_ m 0 rfl
    · rw [e0] at key; exact key
    · refine lp_155_91 (d := d + 1) (t := tkS T (dg5 c) S m) hM (mkM_lt 4) (by omega) (fun y => ?_) (fun y => h0 (fun hcan => y ?_)) 4 0 rfl
      · rw [et] at y
        have := lp_155_2 (d := d) hM hc h1 h0 k (S + 1) (by omega) (fun R hR2 => ?_)
        · rw [show ((S + 1 : Nat) : Int) = (S : Int) + 1 by omega] at this
          exact this
        · by_cases e : R = S
          · subst e; exact y
          · exact hR R (by omega)
      · rw [et]; exact hcan S (by omega)
theorem c_155 {d : Nat} {P : Int → Mm → Prop} {M : Mm} {hm : Nat → Int} {T sr : Nat → Nat} {H : Nat → Bool} {n m c : Nat} (hM : ok155 M hm T sr H n m) (hc : c < 15625) (h1 : canP (fun j i => (T j).testBit (sr i)) n m H (dg5 c) → P 1 M) (h0 : ¬ canP (fun j i => (T j).testBit (sr i)) n m H (dg5 c) → P 0 M) : EE (d + 2) 155 [vR 76, vI c, vI m] M (rI P) := by
  refine sg_155 (lp_155_2 hM hc h1 h0 (2 ^ m - 1) 1 (by have := Nat.two_pow_pos m; omega) (fun R hR => ?_))
  have e : R = 0 := by omega
  subst e
  have z : smB (fun j => if (0 : Nat).testBit j = true then dg5 c j else 0) m = smB (fun j => if (0 : Nat).testBit j = true then dg5 c j else 0) 0 := smB_ext2 (by omega) (fun j _ => by rw [Nat.zero_testBit]; rfl)
  rw [z]
  exact Nat.zero_le _
