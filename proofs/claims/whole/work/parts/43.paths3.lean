/-! paths: what a village takes -/
def rmP (ho : Int → Int) (v : Int) : Nat → Int
  | 0 => 0
  | h + 1 => rmP ho v h + (if ho (5 * h) = v then ho (5 * h + 2) else 0)
def stP (tn : Int → Int) (v : Int) : Nat → Int
  | 0 => 0
  | t + 1 => if tn (5 * t + 4) = v then (if stP tn v t < tn (5 * t + 2) then tn (5 * t + 2) else stP tn v t) else stP tn v t
theorem rmP_b {M : Mm} (hH : IH M) {v : Int} : ∀ i : Nat, (i : Int) ≤ M 24 5 → 0 ≤ rmP (M 89) v i ∧ rmP (M 89) v i ≤ 4 * i
  | 0, _ => by show (0 : Int) ≤ 0 ∧ (0 : Int) ≤ 4 * ((0 : Nat) : Int); omega
  | i + 1, h => by
    have ih := rmP_b hH (v := v) i (by omega)
    have h27 := (hH.2.2.2 i (by omega) (by omega)).2.2.1
    rw [(hH.2.2.1 i).2.2.1] at h27
    unfold rmP
    split <;> omega
theorem stP_b {M : Mm} (hP : IP M) {v : Int} : ∀ i : Nat, i ≤ 6 → 0 ≤ stP (M 84) v i ∧ stP (M 84) v i ≤ 48
  | 0, _ => by show (0 : Int) ≤ 0 ∧ (0 : Int) ≤ 48; omega
  | i + 1, h => by
    have ih := stP_b hP (v := v) i (by omega)
    have ht := (hP.2.2.2.1 i (by omega) (by omega)).2.2.1
    unfold stP
    split
    · split <;> omega
    · exact ih
theorem lp_71 {d : Nat} {P : Int → Mm → Prop} {M : Mm} {v : Int} (hH : IH M) (h : P (rmP (M 89) v (M 24 5).toNat) M) : ∀ (k i : Nat), (k : Int) = M 24 5 - i → H_71_4 d P v (rmP (M 89) v i) i M
  | 0, i, hk => by
    refine sg_71_4 ⟨fun _ => ?_, fun z => by omega⟩
    rw [show (M 24 5).toNat = i by omega] at h; exact h
  | k + 1, i, hk => by
    have h24 := hH.1
    have ih := lp_71 (d := d) hH h k (i + 1) (by omega)
    have hb := rmP_b hH (v := v) i (by omega)
    have h27 := (hH.2.2.2 i (by omega) (by omega)).2.2.1
    have e25 := (hH.2.2.1 i).1
    have e27 := (hH.2.2.1 i).2.2.1
    rw [show ((i + 1 : Nat) : Int) = (i : Int) + 1 by omega] at ih
    unfold rmP at ih
    rw [← e25, ← e27] at ih
    refine sg_71_4 ⟨fun z => by omega, fun _ => ⟨by omega, fun z => ⟨by unfold inI; omega, ?_⟩, fun z => ⟨by omega, by unfold inI; omega, by unfold inI; omega, ?_⟩⟩⟩
    · rw [if_neg z, Int.add_zero] at ih; exact ih
    · rw [if_pos z] at ih; exact ih
theorem c_71 {d : Nat} {P : Int → Mm → Prop} {M : Mm} {v : Int} (hH : IH M) (h : P (rmP (M 89) v (M 24 5).toNat) M) : EE (d + 1) 71 [vR 24, vI v] M (rI P) :=
  sg_71 (lp_71 hH h (M 24 5).toNat 0 (by have := hH.1; omega))
/-- the most that village v takes at once -/
def cpP (M : Mm) (v : Int) : Int := if rmP (M 89) v (M 24 5).toNat < stP (M 84) v 6 then rmP (M 89) v (M 24 5).toNat else stP (M 84) v 6
theorem lp_92 {d : Nat} {P : Int → Mm → Prop} {M : Mm} {v : Int} (hP : IP M) (hH : IH M) (h : P (cpP M v) M) : ∀ (k i : Nat), k + i = 6 → H_92_5 (d + 1) P v (stP (M 84) v i) i M
  | 0, i, hk => by
    refine sg_92_5 ⟨fun _ => c_71 hH ?_, fun z => by omega⟩
    have e : i = 6 := by omega
    subst e
    exact h
  | k + 1, i, hk => by
    have ih := lp_92 (d := d) hP hH h k (i + 1) (by omega)
    have e4 := hP.2.2.1.at (t := i) (j := 4) (by omega) (by omega) (by omega) (by omega)
    have e2 := hP.2.2.1.at (t := i) (j := 2) (by omega) (by omega) (by omega) (by omega)
    rw [show ((i + 1 : Nat) : Int) = (i : Int) + 1 by omega] at ih
    unfold stP at ih
    refine sg_92_5 ⟨fun z => by omega, fun _ => ?_⟩
    rw [e4, e2]
    refine ⟨by omega, fun z => ⟨by unfold inI; omega, ?_⟩, fun z => ⟨by omega, by unfold inI; omega, ?_⟩⟩
    · rw [if_neg z] at ih; exact ih
    · rw [if_pos z] at ih; exact ih
theorem c_92 {d : Nat} {P : Int → Mm → Prop} {M : Mm} {v : Int} (hP : IP M) (hH : IH M) (h : P (cpP M v) M) : EE (d + 2) 92 [vR 10, vR 24, vI v] M (rI P) :=
  sg_92 (lp_92 hP hH h 6 0 rfl)
/-- what train t can bring to village v at once -/
def ctP (M : Mm) (t : Nat) : Int := if rmP (M 89) (M 84 (5 * t + 4)) (M 24 5).toNat ≤ M 84 (5 * t + 2) then rmP (M 89) (M 84 (5 * t + 4)) (M 24 5).toNat else M 84 (5 * t + 2)
theorem lp_136_72 {d : Nat} {P : Int → Mm → Prop} {M : Mm} {a1 : Int} {t : Nat} (ht : t < 6) (hH : IH M) (h : H_136_155 d P a1 t (M 84 (5 * t + 4)) (ctP M t) 1 M) : ∀ (k i : Nat), (k : Int) = M 24 5 - i → H_136_72 d P a1 t (M 84 (5 * t + 4)) (rmP (M 89) (M 84 (5 * t + 4)) i) i M
  | 0, i, hk => by
    have h16 := hH.2.1
    refine sg_136_72 ⟨fun _ => ⟨by unfold inI; omega, by unfold inI; omega, by omega, fun z => ?_, fun z => ⟨by unfold inI; omega, by unfold inI; omega, by omega, ?_⟩⟩, fun z => by omega⟩
    · unfold ctP at h
      rw [show (M 24 5).toNat = i by omega, if_pos z] at h; exact h
    · unfold ctP at h
      rw [show (M 24 5).toNat = i by omega, if_neg (by omega)] at h; exact h
  | k + 1, i, hk => by
    have h16 := hH.2.1
    have h24 := hH.1
    have ih := lp_136_72 (d := d) ht hH h k (i + 1) (by omega)
    have hb := rmP_b hH (v := M 84 (5 * t + 4)) i (by omega)
    have h27 := (hH.2.2.2 i (by omega) (by omega)).2.2.1
    rw [(hH.2.2.1 i).2.2.1] at h27
    rw [show ((i + 1 : Nat) : Int) = (i : Int) + 1 by omega] at ih
    unfold rmP at ih
    refine sg_136_72 ⟨fun z => by omega, fun _ => ⟨by unfold inI; omega, by omega, fun z => ⟨by unfold inI; omega, by unfold inI; omega, ?_⟩, fun z => ⟨by unfold inI; omega, by unfold inI; omega, by omega, by unfold inI; omega, by unfold inI; omega, ?_⟩⟩⟩
    · rw [if_neg z] at ih; exact ih
    · rw [if_pos z] at ih; exact ih
