/-! paths: sizes, the class's side -/
theorem two8 : ∀ p, p < 8 → ∀ g, g < 8 → (2 ^ p : Nat).testBit g = decide (p = g) ∧ (2 ^ p = 2 ^ g → p = g) := by
  decide +kernel
theorem low8 : ∀ a, a < 256 → 0 < a → (zand ((a : Nat) : Int) ((a : Nat) - 1 : Int) = ((a &&& (a - 1) : Nat) : Int) ∧ zxor ((a : Nat) : Int) ((a &&& (a - 1) : Nat) : Int) = ((a ^^^ (a &&& (a - 1)) : Nat) : Int)) ∧ a &&& (a - 1) < a ∧ (a ^^^ (a &&& (a - 1)) = 1 ∨ a ^^^ (a &&& (a - 1)) = 2 ∨ a ^^^ (a &&& (a - 1)) = 4 ∨ a ^^^ (a &&& (a - 1)) = 8 ∨ a ^^^ (a &&& (a - 1)) = 16 ∨ a ^^^ (a &&& (a - 1)) = 32 ∨ a ^^^ (a &&& (a - 1)) = 64 ∨ a ^^^ (a &&& (a - 1)) = 128) := by
  decide +kernel
theorem low8b : ∀ a, a < 256 → 0 < a → ∀ g, g < 8 → (if a.testBit g = true then (1 : Int) else 0) = (if (a &&& (a - 1)).testBit g = true then 1 else 0) + (if (a ^^^ (a &&& (a - 1))).testBit g = true then 1 else 0) := by
  decide +kernel
theorem szP_0 {g : Int → Int} {n : Int} : szP g n 0 = 0 := cn_none (fun c _ _ => by rw [Nat.zero_testBit])
theorem szP_b {g : Int → Int} {n : Int} {a : Nat} (hn : 0 ≤ n) : 0 ≤ szP g n a ∧ szP g n a ≤ n := by
  have := cn_b (p := fun c => a.testBit (g c).toNat) n.toNat
  unfold szP
  omega
theorem pw8 {l : Nat} (h : l = 1 ∨ l = 2 ∨ l = 4 ∨ l = 8 ∨ l = 16 ∨ l = 32 ∨ l = 64 ∨ l = 128) : ∃ p, p < 8 ∧ l = 2 ^ p := by
  rcases h with h | h | h | h | h | h | h | h
  · exact ⟨0, by omega, h⟩
  · exact ⟨1, by omega, h⟩
  · exact ⟨2, by omega, h⟩
  · exact ⟨3, by omega, h⟩
  · exact ⟨4, by omega, h⟩
  · exact ⟨5, by omega, h⟩
  · exact ⟨6, by omega, h⟩
  · exact ⟨7, by omega, h⟩
theorem lp_91_43 {d : Nat} {P : Mm → Prop} {M : Mm} (hC : IC M) (hK : ∀ f : Int → Int, (∀ j : Nat, j < 256 → f j = szP (M 5) (M 1 6) j) → P (rset M 48 f)) : ∀ (k i : Nat) {f : Int → Int}, k + i = 256 → 1 ≤ i → (∀ j : Nat, j < 256 → (j < i ∨ ∃ p, p < 8 ∧ j = 2 ^ p) → f j = szP (M 5) (M 1 6) j) → H_91_43 d P i (rset M 48 f)
  | 0, i, f, hk, hi, hf => sg_91_43 ⟨fun _ => hK f (fun j hj => hf j hj (Or.inl (by omega))), fun z => by omega⟩
  | k + 1, i, f, hk, hi, hf => by
    have h48 := hC.1
    obtain ⟨⟨e1, e2⟩, e3, e4⟩ := low8 i (by omega) (by omega)
    have el := low8b i (by omega) (by omega)
    have ex := pw8 e4
    have elt : i ^^^ (i &&& (i - 1)) < 256 := by clear ex; omega
    have f1 := hf (i &&& (i - 1)) (by omega) (Or.inl e3)
    have f2 := hf (i ^^^ (i &&& (i - 1))) elt (Or.inr ex)
    have b1 := szP_b (g := M 5) (a := i &&& (i - 1)) h48.1
    have b2 := szP_b (g := M 5) (a := i ^^^ (i &&& (i - 1))) h48.1
    have es : szP (M 5) (M 1 6) i = szP (M 5) (M 1 6) (i &&& (i - 1)) + szP (M 5) (M 1 6) (i ^^^ (i &&& (i - 1))) := by
      refine cn_add (fun c c0 c1 => el (M 5 c).toNat ?_)
      have := (hC.2.2.2 c c0 (by omega)).2.2.2
      omega
    have ih := fun {f : Int → Int} => lp_91_43 (d := d) (P := P) hC hK k (i + 1) (f := f) (by omega) (by omega)
    rw [show ((i + 1 : Nat) : Int) = (i : Int) + 1 by omega] at ih
    clear ex
    refine sg_91_43 ⟨fun z => by omega, fun _ => ?_⟩
    rw [e1, e2, ms_same]
    have g1 : (rset M 48 f) 48 ((i &&& (i - 1) : Nat) : Int) = szP (M 5) (M 1 6) (i &&& (i - 1)) := f1
    have g2 : (rset M 48 f) 48 ((i ^^^ (i &&& (i - 1)) : Nat) : Int) = szP (M 5) (M 1 6) (i ^^^ (i &&& (i - 1))) := f2
    rw [g1, g2, ← es]
    refine ⟨by unfold inI; omega, by omega, by omega, by unfold inI; omega, by omega, by unfold inI; omega, ih (fun j hj hj2 => ?_)⟩
    by_cases e : j = i
    · subst e; rw [fs_eq]
    · have e' : ¬ (j : Int) = (i : Int) := by clear hj2; omega
      rw [fs_ne e']
      refine hf j hj ?_
      rcases hj2 with q | q
      · exact Or.inl (by omega)
      · exact Or.inr q
theorem lp_91_10 {d : Nat} {P : Mm → Prop} {M : Mm} (hC : IC M) (hK : ∀ f : Int → Int, (∀ j : Nat, j < 256 → f j = szP (M 5) (M 1 6) j) → P (rset M 48 f)) : ∀ (k i : Nat) {f : Int → Int}, (k : Int) = M 1 6 - i → f 0 = 0 → (∀ p, p < 8 → f ((2 ^ p : Nat) : Int) = cn (fun c => (2 ^ p : Nat).testBit (M 5 c).toNat) i) → H_91_10 d P i (rset M 48 f)
  | 0, i, f, hk, h0, hf => by
    refine sg_91_10 ⟨fun _ => lp_91_43 hC hK 255 1 rfl (by omega) (fun j hj hj2 => ?_), fun z => ?_⟩
    · rcases hj2 with q | ⟨p, p8, q⟩
      · have e : j = 0 := by omega
        subst e
        rw [szP_0]; exact h0
      · subst q
        have := hf p p8
        rw [show i = (M 1 6).toNat by omega] at this
        exact this
    · have z : (i : Int) < M 1 6 := z
      omega
  | k + 1, i, f, hk, h0, hf => by
    have h48 := hC.1
    have hg := (hC.2.2.2 i (by omega) (by omega)).2.2.2
    have e1 := bit1 (M 5 i).toNat (by omega)
    rw [show (((M 5 i).toNat : Nat) : Int) = M 5 i by omega] at e1
    have fg := hf (M 5 i).toNat (by omega)
    have hb := cn_b (p := fun c => (2 ^ (M 5 i).toNat : Nat).testBit (M 5 c).toNat) i
    have hp0 : 0 < 2 ^ (M 5 i).toNat := Nat.pow_pos (by omega)
    have ih := fun {f : Int → Int} => lp_91_10 (d := d) (P := P) hC hK k (i + 1) (f := f) (by omega)
    rw [show ((i + 1 : Nat) : Int) = (i : Int) + 1 by omega] at ih
    refine sg_91_10 ⟨fun z => ?_, fun _ => ?_⟩
    · have z : M 1 6 ≤ (i : Int) := z
      omega
    · show (0 ≤ (i : Int) ∧ (i : Int) < 48) ∧ (0 ≤ zshl 1 (M 5 i) ∧ zshl 1 (M 5 i) < 256) ∧ inI (f (zshl 1 (M 5 i)) + 1) ∧ (0 ≤ zshl 1 (M 5 i) ∧ zshl 1 (M 5 i) < 256) ∧ inI ((i : Int) + 1) ∧ H_91_10 d P ((i : Int) + 1) (mset (rset M 48 f) 48 (zshl 1 (M 5 i)) (f (zshl 1 (M 5 i)) + 1))
      rw [e1.1, ms_same]
      refine ⟨by omega, by omega, by unfold inI; omega, by omega, by unfold inI; omega, ih ?_ (fun p p8 => ?_)⟩
      · rw [fs_ne (by omega)]; exact h0
      · have t := two8 p p8 (M 5 i).toNat (by omega)
        rw [cn_s, t.1]
        by_cases e : p = (M 5 i).toNat
        · subst e
          rw [fs_eq, fg, if_pos (decide_eq_true rfl)]
        · rw [if_neg (by rw [decide_eq_false e]; decide), fs_ne (fun q => e (t.2 (by omega))), hf p p8, Int.add_zero]
theorem c_91 {d : Nat} {P : Mm → Prop} {M : Mm} (hC : IC M) (hK : ∀ f : Int → Int, (∀ j : Nat, j < 256 → f j = szP (M 5) (M 1 6) j) → P (rset M 48 f)) : EE (d + 2) 91 [vR 47, vR 1] M (rV P) := by
  refine sg_91 (c_173 shk_48 (by decide) ?_)
  refine lp_91_10 hC hK (M 1 6).toNat 0 (by have := hC.1; omega) ?_ (fun p p8 => ?_)
  · unfold ffl; rw [if_pos (by omega)]
  · have e2 : (2 ^ p : Nat) < 256 := (bit1 p p8).2
    generalize (2 ^ p : Nat) = w at e2 ⊢
    unfold ffl; rw [if_pos (by omega)]; rfl
