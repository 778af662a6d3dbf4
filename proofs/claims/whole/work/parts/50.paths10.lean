/-! paths: what the reference's table means -/
theorem dj8s : ∀ s, s < 256 → ∀ a, a < 256 → s &&& a = 0 → s ||| a = s + a ∧ (s ||| a) ^^^ a = s ∧ a &&& (s ||| a) = a := by
  decide +kernel
/-- the parties that the villages below n get -/
def unA (A : Nat → Nat) : Nat → Nat
  | 0 => 0
  | n + 1 => unA A n ||| A n
/-- how many villages get some -/
def cnA (A : Nat → Nat) : Nat → Nat
  | 0 => 0
  | n + 1 => cnA A n + (if A n = 0 then 0 else 1)
/-- which villages get some -/
def vlA (A : Nat → Nat) : Nat → Nat
  | 0 => 0
  | n + 1 => vlA A n + (if A n = 0 then 0 else 2 ^ n)
def upA (A : Nat → Nat) (v a : Nat) : Nat → Nat := fun u => if u = v then a else A u
def djA (A : Nat → Nat) : Prop := (∀ v, v < 6 → A v < 256) ∧ ∀ u v, u < 6 → v < 6 → ¬ u = v → A u &&& A v = 0
theorem upA_eq {A : Nat → Nat} {v a : Nat} : upA A v a v = a := if_pos rfl
theorem upA_ne {A : Nat → Nat} {v a u : Nat} (h : ¬ u = v) : upA A v a u = A u := if_neg h
theorem upA_back {A : Nat → Nat} {v : Nat} : upA (upA A v 0) v (A v) = A := by
  funext u
  by_cases e : u = v
  · subst e; exact upA_eq
  · rw [upA_ne e, upA_ne e]
theorem unA_lt {A : Nat → Nat} : ∀ n : Nat, (∀ v, v < n → A v < 256) → unA A n < 256
  | 0, _ => by show 0 < 256; omega
  | n + 1, h => Nat.or_lt_two_pow (n := 8) (unA_lt n (fun v hv => h v (by omega))) (h n (by omega))
theorem unA_dj {A : Nat → Nat} {a : Nat} : ∀ n : Nat, (unA A n &&& a = 0 ↔ ∀ u, u < n → A u &&& a = 0)
  | 0 => ⟨fun _ u hu => by omega, fun _ => Nat.zero_and a⟩
  | n + 1 => by
    have ih := unA_dj (A := A) (a := a) n
    show ((unA A n ||| A n) &&& a = 0) ↔ _
    rw [Nat.and_or_distrib_right, Nat.or_eq_zero_iff, ih]
    constructor
    · intro h u hu
      by_cases e : u = n
      · subst e; exact h.2
      · exact h.1 u (by omega)
    · intro h
      exact ⟨fun u hu => h u (by omega), h n (by omega)⟩
theorem unA_up {A : Nat → Nat} {v a : Nat} (h0 : A v = 0) : ∀ n : Nat, unA (upA A v a) n = if v < n then unA A n ||| a else unA A n
  | 0 => by rw [if_neg (by omega)]; rfl
  | n + 1 => by
    have ih := unA_up (A := A) (v := v) (a := a) h0 n
    show unA (upA A v a) n ||| upA A v a n = _
    rw [ih]
    by_cases e : n = v
    · subst e
      rw [if_neg (by omega), if_pos (by omega), upA_eq]
      show unA A n ||| a = (unA A n ||| A n) ||| a
      rw [h0, Nat.or_zero]
    · rw [upA_ne e]
      by_cases l : v < n
      · rw [if_pos l, if_pos (by omega)]
        show unA A n ||| a ||| A n = unA A n ||| A n ||| a
        rw [Nat.or_assoc, Nat.or_comm a, Nat.or_assoc]
      · rw [if_neg l, if_neg (by omega)]; rfl
theorem cnA_up {A : Nat → Nat} {v a : Nat} (h0 : A v = 0) (ha : ¬ a = 0) : ∀ n : Nat, cnA (upA A v a) n = if v < n then cnA A n + 1 else cnA A n
  | 0 => by rw [if_neg (by omega)]; rfl
  | n + 1 => by
    have ih := cnA_up (A := A) (v := v) (a := a) h0 ha n
    show cnA (upA A v a) n + (if upA A v a n = 0 then 0 else 1) = _
    rw [ih]
    by_cases e : n = v
    · subst e
      rw [if_neg (show ¬ n < n by omega), if_pos (show n < n + 1 by omega), upA_eq, if_neg ha]
      show cnA A n + 1 = cnA A n + (if A n = 0 then 0 else 1) + 1
      rw [if_pos h0]
    · rw [upA_ne e]
      by_cases l : v < n
      · rw [if_pos l, if_pos (show v < n + 1 by omega)]
        show cnA A n + 1 + (if A n = 0 then 0 else 1) = cnA A n + (if A n = 0 then 0 else 1) + 1
        omega
      · rw [if_neg l, if_neg (show ¬ v < n + 1 by omega)]; rfl
theorem vlA_up {A : Nat → Nat} {v a : Nat} (h0 : A v = 0) (ha : ¬ a = 0) : ∀ n : Nat, vlA (upA A v a) n = if v < n then vlA A n + 2 ^ v else vlA A n
  | 0 => by rw [if_neg (by omega)]; rfl
  | n + 1 => by
    have ih := vlA_up (A := A) (v := v) (a := a) h0 ha n
    show vlA (upA A v a) n + (if upA A v a n = 0 then 0 else 2 ^ n) = _
    rw [ih]
    by_cases e : n = v
    · subst e
      rw [if_neg (show ¬ n < n by omega), if_pos (show n < n + 1 by omega), upA_eq, if_neg ha]
      show vlA A n + 2 ^ n = vlA A n + (if A n = 0 then 0 else 2 ^ n) + 2 ^ n
      rw [if_pos h0]; rfl
    · rw [upA_ne e]
      by_cases l : v < n
      · rw [if_pos l, if_pos (show v < n + 1 by omega)]
        show vlA A n + 2 ^ v + (if A n = 0 then 0 else 2 ^ n) = vlA A n + (if A n = 0 then 0 else 2 ^ n) + 2 ^ v
        rw [Nat.add_right_comm]
      · rw [if_neg l, if_neg (show ¬ v < n + 1 by omega)]; rfl
theorem cnA_le {A : Nat → Nat} : ∀ n : Nat, cnA A n ≤ n
  | 0 => Nat.le_refl 0
  | n + 1 => by
    have ih := cnA_le (A := A) n
    show cnA A n + (if A n = 0 then 0 else 1) ≤ n + 1
    split <;> omega
theorem vlA_6 {A : Nat → Nat} : vlA A 6 < 64 ∧ ∀ v, v < 6 → vlA A 6 / 2 ^ v % 2 = if A v = 0 then 0 else 1 := by
  have e : vlA A 6 = 0 + (if A 0 = 0 then 0 else 1) + (if A 1 = 0 then 0 else 2) + (if A 2 = 0 then 0 else 4) + (if A 3 = 0 then 0 else 8) + (if A 4 = 0 then 0 else 16) + (if A 5 = 0 then 0 else 32) := rfl
  have b : ∀ i k : Nat, ∃ e : Nat, (if A i = 0 then 0 else k) = e * k ∧ e ≤ 1 ∧ (if A i = 0 then 0 else 1) = e := by
    intro i k
    by_cases h : A i = 0
    · exact ⟨0, by rw [if_pos h, Nat.zero_mul], by omega, if_pos h⟩
    · exact ⟨1, by rw [if_neg h, Nat.one_mul], by omega, if_neg h⟩
  obtain ⟨e0, a0, b0, c0⟩ := b 0 1
  obtain ⟨e1, a1, b1, c1⟩ := b 1 2
  obtain ⟨e2, a2, b2, c2⟩ := b 2 4
  obtain ⟨e3, a3, b3, c3⟩ := b 3 8
  obtain ⟨e4, a4, b4, c4⟩ := b 4 16
  obtain ⟨e5, a5, b5, c5⟩ := b 5 32
  rw [a0, a1, a2, a3, a4, a5] at e
  rw [e]
  refine ⟨by omega, fun v hv => ?_⟩
  have : v = 0 ∨ v = 1 ∨ v = 2 ∨ v = 3 ∨ v = 4 ∨ v = 5 := by omega
  rcases this with rfl | rfl | rfl | rfl | rfl | rfl
  · rw [c0]; simp only [Nat.reducePow]; omega
  · rw [c1]; simp only [Nat.reducePow]; omega
  · rw [c2]; simp only [Nat.reducePow]; omega
  · rw [c3]; simp only [Nat.reducePow]; omega
  · rw [c4]; simp only [Nat.reducePow]; omega
  · rw [c5]; simp only [Nat.reducePow]; omega
/-- the state of the table for A -/
def cdA (A : Nat → Nat) : Nat := 64 * unA A 6 + vlA A 6
theorem cdA_lt {A : Nat → Nat} (h : djA A) : cdA A < 16384 := by
  have h1 := unA_lt 6 h.1
  have h2 := (vlA_6 (A := A)).1
  unfold cdA
  omega
theorem cdA_s {A : Nat → Nat} {v : Nat} (hv : v < 6) : cdA A / 64 = unA A 6 ∧ cdA A / 2 ^ v % 2 = if A v = 0 then 0 else 1 := by
  have h2 := vlA_6 (A := A)
  have h3 := h2.2 v hv
  have e : cdA A % 64 = vlA A 6 := by unfold cdA; omega
  rw [← lo6 hv, e]
  exact ⟨by unfold cdA; omega, h3⟩
theorem cdA_up {A : Nat → Nat} {v a : Nat} (hA : djA A) (hv : v < 6) (h0 : A v = 0) (ha : ¬ a = 0) (ha2 : a < 256) (hd : unA A 6 &&& a = 0) : cdA (upA A v a) = cdA A + 64 * a + 2 ^ v ∧ cnA (upA A v a) 6 = cnA A 6 + 1 := by
  have e1 := unA_up (a := a) h0 6
  have e2 := vlA_up h0 ha 6
  have e3 := cnA_up h0 ha 6
  rw [if_pos hv] at e1 e2 e3
  rw [(dj8s _ (unA_lt 6 hA.1) a ha2 hd).1] at e1
  refine ⟨?_, e3⟩
  unfold cdA
  rw [e1, e2]
  generalize 2 ^ v = w
  omega
theorem djA_up {A : Nat → Nat} {v a : Nat} (hA : djA A) (ha2 : a < 256) (hd : ∀ u, u < 6 → ¬ u = v → A u &&& a = 0) : djA (upA A v a) := by
  refine ⟨fun u hu => ?_, fun u w hu hw hne => ?_⟩
  · by_cases e : u = v
    · subst e; rw [upA_eq]; exact ha2
    · rw [upA_ne e]; exact hA.1 u hu
  · by_cases e : u = v
    · subst e
      rw [upA_eq, upA_ne (fun y => hne y.symm), Nat.and_comm]
      exact hd w hw (fun y => hne y.symm)
    · rw [upA_ne e]
      by_cases e2 : w = v
      · subst e2
        rw [upA_eq]; exact hd u hu e
      · rw [upA_ne e2]; exact hA.2 u w hu hw hne
/-- what the table says is true -/
def Snd (cap : Nat → Int) (sz : Nat → Int) (f : Int → Int) : Prop := ∀ q : Nat, q < 16384 → f q < 1000000 → ∃ A : Nat → Nat, djA A ∧ (∀ v, v < 6 → ¬ A v = 0 → sz (A v) ≤ cap v) ∧ q = cdA A ∧ f q = cnA A 6
/-- what is true by the first t trains stands in the table -/
def gdT (vl : Nat → Nat) (ct : Nat → Int) (sz : Nat → Int) (ok : Nat → Bool) (t : Nat) (A : Nat → Nat) : Prop := djA A ∧ ∀ v, v < 6 → ¬ A v = 0 → (0 < sz (A v) ∧ ok (A v) = true) ∧ ∃ τ, τ < t ∧ vl τ = v ∧ sz (A v) ≤ ct τ
def Cmp (vl : Nat → Nat) (ct : Nat → Int) (sz : Nat → Int) (ok : Nat → Bool) (t : Nat) (f : Int → Int) : Prop := ∀ A : Nat → Nat, gdT vl ct sz ok t A → f (cdA A : Nat) ≤ cnA A 6
theorem rlx_le {v a q : Nat} {f : Int → Int} (j : Int) : rlx v a q f j ≤ f j := by
  unfold rlx
  split
  · rename_i h
    by_cases e : j = ((q + 64 * a + 2 ^ v : Nat) : Int)
    · rw [ps_eq e, e]
      have := h.2
      omega
    · rw [fs_ne e]; exact Int.le_refl _
  · exact Int.le_refl _
theorem rlx_t {v a q : Nat} {f : Int → Int} (h : f q < 1000000 ∧ q / 64 &&& a = 0 ∧ q / 2 ^ v % 2 = 0) : rlx v a q f ((q + 64 * a + 2 ^ v : Nat) : Int) ≤ f q + 1 := by
  unfold rlx
  split
  · rw [fs_eq]; exact Int.le_refl _
  · rename_i h2
    have : ¬ (f q + 1 < f ((q + 64 * a + 2 ^ v : Nat) : Int)) := fun y => h2 ⟨h, y⟩
    omega
theorem rlx_S {cap : Nat → Int} {sz : Nat → Int} {v a q : Nat} {f : Int → Int} (hv : v < 6) (ha : ¬ a = 0) (ha2 : a < 256) (hs : sz a ≤ cap v) (hq : q < 16384) (hf : Snd cap sz f) : Snd cap sz (rlx v a q f) := by
  intro j hj hlt
  unfold rlx at hlt ⊢
  split
  · rename_i h
    rw [if_pos h] at hlt
    by_cases e : (j : Int) = ((q + 64 * a + 2 ^ v : Nat) : Int)
    · obtain ⟨A, hA, h1, h2, h3⟩ := hf q hq h.1.1
      have e2 : j = q + 64 * a + 2 ^ v := Int.ofNat_inj.mp e
      have hs1 := cdA_s (A := A) hv
      rw [← h2] at hs1
      have hd : unA A 6 &&& a = 0 := by rw [← hs1.1]; exact h.1.2.1
      have h0 : A v = 0 := by
        have := hs1.2
        rw [h.1.2.2] at this
        by_cases y : A v = 0
        · exact y
        · rw [if_neg y] at this; omega
      have up := cdA_up hA hv h0 ha ha2 hd
      refine ⟨upA A v a, djA_up hA ha2 (fun u hu _ => (unA_dj 6).mp hd u hu), fun u hu hne => ?_, by rw [up.1, ← h2]; exact e2, ?_⟩
      · by_cases eu : u = v
        · subst eu; rw [upA_eq]; exact hs
        · rw [upA_ne eu] at hne ⊢; exact h1 u hu hne
      · rw [ps_eq e, up.2, h3]; omega
    · rw [fs_ne e] at hlt ⊢
      exact hf j hj hlt
  · rename_i h
    rw [if_neg h] at hlt
    exact hf j hj hlt
theorem lpN_le {v a : Nat} : ∀ (k q : Nat) {f : Int → Int} (j : Int), loopN (rlx v a) q k f j ≤ f j
  | 0, q, f, j => Int.le_refl _
  | k + 1, q, f, j => Int.le_trans (lpN_le k (q + 1) (f := rlx v a q f) j) (rlx_le j)
theorem lpN_b {v a : Nat} : ∀ (k q : Nat) {f : Int → Int}, k + q = 16384 → (∀ j : Nat, j < 16384 → 0 ≤ f j ∧ f j ≤ 1000000) → ∀ j : Nat, j < 16384 → 0 ≤ loopN (rlx v a) q k f j ∧ loopN (rlx v a) q k f j ≤ 1000000
  | 0, q, f, hk, hf => hf
  | k + 1, q, f, hk, hf => lpN_b k (q + 1) (f := rlx v a q f) (by omega) (rlx_b hf (by omega))
theorem lpN_S {cap : Nat → Int} {sz : Nat → Int} {v a : Nat} (hv : v < 6) (ha : ¬ a = 0) (ha2 : a < 256) (hs : sz a ≤ cap v) : ∀ (k q : Nat) {f : Int → Int}, k + q = 16384 → Snd cap sz f → Snd cap sz (loopN (rlx v a) q k f)
  | 0, q, f, hk, hf => hf
  | k + 1, q, f, hk, hf => lpN_S hv ha ha2 hs k (q + 1) (f := rlx v a q f) (by omega) (rlx_S hv ha ha2 hs (by omega) hf)
theorem lpN_t {v a p : Nat} (h1 : p / 64 &&& a = 0) (h2 : p / 2 ^ v % 2 = 0) : ∀ (k q : Nat) {f : Int → Int}, q ≤ p → p < q + k → f p < 1000000 → loopN (rlx v a) q k f ((p + 64 * a + 2 ^ v : Nat) : Int) ≤ f p + 1
  | 0, q, f, hq, hk, hf => by omega
  | k + 1, q, f, hq, hk, hf => by
    by_cases e : q = p
    · subst e
      exact Int.le_trans (lpN_le k (q + 1) (f := rlx v a q f) _) (rlx_t ⟨hf, h1, h2⟩)
    · have hle := rlx_le (v := v) (a := a) (q := q) (f := f) (p : Int)
      have ih := lpN_t h1 h2 k (q + 1) (f := rlx v a q f) (by omega) (by omega) (by omega)
      show loopN (rlx v a) (q + 1) k (rlx v a q f) ((p + 64 * a + 2 ^ v : Nat) : Int) ≤ f p + 1
      omega
