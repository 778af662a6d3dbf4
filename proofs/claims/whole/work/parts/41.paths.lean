/-! paths: sets of parties, and their sizes -/
theorem bit8 : ∀ a, a < 256 → ∀ g, g < 8 → zand (zshr ((a : Nat) : Int) ((g : Nat) : Int)) 1 = if a.testBit g = true then 1 else 0 := by
  decide +kernel
def szP (g : Int → Int) (n : Int) (a : Nat) : Int := cn (fun c => a.testBit (g c).toNat) n.toNat
theorem lp_171 {d : Nat} {P : Int → Mm → Prop} {M : Mm} {a : Nat} (ha : a < 256) (hn : 0 ≤ M 76 2 ∧ M 76 2 ≤ 48) (hg : ∀ c, 0 ≤ c → c < M 76 2 → 0 ≤ M 80 c ∧ M 80 c ≤ 7) (h : P (szP (M 80) (M 76 2) a) M) : ∀ (k i : Nat), (k : Int) = M 76 2 - i → H_171_4 d P a (cn (fun c => a.testBit (M 80 c).toNat) i) i M
  | 0, i, hk => by
    refine sg_171_4 ⟨fun _ => ?_, fun z => by omega⟩
    unfold szP at h
    rw [show (M 76 2).toNat = i by omega] at h; exact h
  | k + 1, i, hk => by
    have ih := lp_171 (d := d) ha hn hg h k (i + 1) (by omega)
    have hb := cn_b (p := fun c => a.testBit (M 80 c).toNat) i
    have hgi := hg i (by omega) (by omega)
    have e := bit8 a ha (M 80 i).toNat (by omega)
    rw [show (((M 80 i).toNat : Nat) : Int) = M 80 i by omega] at e
    rw [show ((i + 1 : Nat) : Int) = (i : Int) + 1 by omega, cn_s, ← e] at ih
    have e01 : zand (zshr (a : Int) (M 80 i)) 1 = 0 ∨ zand (zshr (a : Int) (M 80 i)) 1 = 1 := by
      rw [e]; split
      · exact Or.inr rfl
      · exact Or.inl rfl
    refine sg_171_4 ⟨fun z => by omega, fun _ => ⟨by omega, ?_, by unfold inI; omega, ih⟩⟩
    unfold inI
    rcases e01 with q | q <;> rw [q] <;> omega
theorem c_171 {d : Nat} {P : Int → Mm → Prop} {M : Mm} {a : Nat} (ha : a < 256) (hn : 0 ≤ M 76 2 ∧ M 76 2 ≤ 48) (hg : ∀ c, 0 ≤ c → c < M 76 2 → 0 ≤ M 80 c ∧ M 80 c ≤ 7) (h : P (szP (M 80) (M 76 2) a) M) : EE (d + 1) 171 [vR 76, vI a] M (rI P) :=
  sg_171 (lp_171 ha hn hg h (M 76 2).toNat 0 (by omega))
theorem bit1 : ∀ g, g < 8 → zshl 1 ((g : Nat) : Int) = ((2 ^ g : Nat) : Int) ∧ 2 ^ g < 256 := by
  decide +kernel
/-- every party of the set has a child -/
def nzP (g : Int → Int) (n : Int) (a : Nat) : Bool := allB (fun p => !a.testBit p || decide (0 < szP g n (2 ^ p))) 8
theorem lp_172 {d : Nat} {P : Int → Mm → Prop} {M : Mm} {a : Nat} (ha : a < 256) (hn : 0 ≤ M 76 2 ∧ M 76 2 ≤ 48) (hg : ∀ c, 0 ≤ c → c < M 76 2 → 0 ≤ M 80 c ∧ M 80 c ≤ 7) (h1 : nzP (M 80) (M 76 2) a = true → P 1 M) (h0 : nzP (M 80) (M 76 2) a = false → P 0 M) : ∀ (k i : Nat), k + i = 8 → allB (fun p => !a.testBit p || decide (0 < szP (M 80) (M 76 2) (2 ^ p))) i = true → H_172_4 (d + 1) P a 1 i M
  | 0, i, hk, hp => by
    refine sg_172_4 ⟨fun _ => ⟨Or.inr rfl, h1 ?_⟩, fun z => by omega⟩
    have e : i = 8 := by omega
    subst e; exact hp
  | k + 1, i, hk, hp => by
    have ih : (!a.testBit i || decide (0 < szP (M 80) (M 76 2) (2 ^ i))) = true → H_172_4 (d + 1) P a 1 ((i : Int) + 1) M := by
      intro z
      have := lp_172 (d := d) ha hn hg h1 h0 k (i + 1) (by omega) (by show (allB _ i && (!a.testBit i || decide (0 < szP (M 80) (M 76 2) (2 ^ i)))) = true; rw [hp, z]; rfl)
      rw [show ((i + 1 : Nat) : Int) = (i : Int) + 1 by omega] at this
      exact this
    have bad : (!a.testBit i || decide (0 < szP (M 80) (M 76 2) (2 ^ i))) = false → H_172_4 (d + 1) P a 0 ((i : Int) + 1) M := by
      intro z
      have hx := h0 (by have := allB_f (p := fun p => !a.testBit p || decide (0 < szP (M 80) (M 76 2) (2 ^ p))) z k; rw [show i + 1 + k = 8 by omega] at this; exact this)
      exact sg_172_4 ⟨fun _ => ⟨Or.inl rfl, hx⟩, fun _ => t0 ⟨Or.inl rfl, hx⟩⟩
    have hi : inI ((i : Int) + 1) := by unfold inI; omega
    have e := bit8 a ha i (by omega)
    have e1 := bit1 i (by omega)
    refine sg_172_4 ⟨fun z => by omega, fun _ => t1 ?_⟩
    rw [e, e1.1]
    cases hb : a.testBit i with
    | true =>
      refine ⟨fun z => ?_, fun _ => c_171 e1.2 hn hg ⟨fun z => ⟨hi, bad ?_⟩, fun z => ⟨hi, ih ?_⟩⟩⟩
      · rw [if_pos rfl] at z; omega
      · rw [hb, decide_eq_false (by omega)]; rfl
      · rw [decide_eq_true z]; simp
    | false =>
      refine ⟨fun _ => ⟨hi, ih ?_⟩, fun z => ?_⟩
      · rw [hb]; rfl
      · rw [if_neg (by decide)] at z; exact absurd rfl z
theorem c_172 {d : Nat} {P : Int → Mm → Prop} {M : Mm} {a : Nat} (ha : a < 256) (hn : 0 ≤ M 76 2 ∧ M 76 2 ≤ 48) (hg : ∀ c, 0 ≤ c → c < M 76 2 → 0 ≤ M 80 c ∧ M 80 c ≤ 7) (h1 : nzP (M 80) (M 76 2) a = true → P 1 M) (h0 : nzP (M 80) (M 76 2) a = false → P 0 M) : EE (d + 2) 172 [vR 76, vI a] M (rI P) :=
  sg_172 (lp_172 ha hn hg h1 h0 8 0 rfl rfl)
