/-! paths: the reference's table, begun -/
theorem lp_136_18 {d : Nat} {P : Int → Mm → Prop} {M : Mm} {a1 : Int} (hK : ∀ f : Int → Int, (∀ q : Nat, q < 16384 → f q = if q = 0 then 0 else 1000000) → H_136_49 d P a1 0 (rset M 108 f)) : ∀ (k i : Nat) {f : Int → Int}, k + i = 16384 → (∀ q : Nat, q < i → f q = if q = 0 then 0 else 1000000) → H_136_18 d P a1 i (rset M 108 f)
  | 0, i, f, hk, hf => sg_136_18 ⟨fun _ => hK f (fun q hq => hf q (by omega)), fun z => by omega⟩
  | k + 1, i, f, hk, hf => by
    have ih := fun {f : Int → Int} => lp_136_18 (d := d) (P := P) hK k (i + 1) (f := f) (by omega)
    rw [show ((i + 1 : Nat) : Int) = (i : Int) + 1 by omega] at ih
    have st : ∀ x : Int, (x = if i = 0 then 0 else 1000000) → H_136_18 d P a1 ((i : Int) + 1) (mset (rset M 108 f) 108 i x) := by
      intro x hx
      rw [ms_same]
      refine ih (fun q hq => ?_)
      by_cases e : q = i
      · subst e; rw [fs_eq]; exact hx
      · rw [fs_ne (by omega)]; exact hf q (by omega)
    refine sg_136_18 ⟨fun z => by omega, fun _ => ⟨fun z => ⟨by omega, by unfold inI; omega, st _ ?_⟩, fun z => ⟨by omega, by unfold inI; omega, st _ ?_⟩⟩⟩
    · rw [if_neg (by omega)]
    · rw [if_pos (by omega)]
/-- the states of the reference after the first t trains: S the parties, V the villages -/
def Ft (vl : Nat → Nat) (ct : Nat → Int) (ok : Nat → Bool) (sz : Nat → Int) : Nat → Nat → Nat → Prop
  | 0, S, V => S = 0 ∧ V = 0
  | t + 1, S, V => Ft vl ct ok sz t S V ∨ ∃ a ∈ wlk S 256 S, (0 < sz a ∧ sz a ≤ ct t ∧ ok a = true) ∧ V.testBit (vl t) = true ∧ Ft vl ct ok sz t (S ^^^ a) (V - 2 ^ vl t)
theorem shr_c : ∀ v, v < 8 → ((Int32.ofInt ((v : Nat) : Int) &&& 31).toBitVec.smod 32).toNat = v := by decide +kernel
theorem zshr_d {x : Int} (hx : inI x) {v : Nat} (hv : v < 8) : zshr x (v : Int) = x / ((2 ^ v : Nat) : Int) := by
  show ((Int32.ofInt x).toBitVec.sshiftRight' ((Int32.ofInt (v : Int) &&& 31).toBitVec.smod 32)).toInt = _
  rw [BitVec.sshiftRight_eq', shr_c v hv, BitVec.toInt_sshiftRight]
  have e1 : (Int32.ofInt x).toBitVec.toInt = x := toI_of hx
  rw [e1, Int.shiftRight_eq_div_pow]
theorem bitq {q v : Nat} (hq : q < 2147483648) (hv : v < 8) : zand (zshr (q : Int) (v : Int)) 1 = ((q / 2 ^ v % 2 : Nat) : Int) := by
  rw [zshr_d (by unfold inI; omega) hv]
  have hle : q / 2 ^ v ≤ q := Nat.div_le_self q (2 ^ v)
  have e : zand ((q / 2 ^ v : Nat) : Int) ((1 : Nat) : Int) = ((q / 2 ^ v &&& 1 : Nat) : Int) := zand_n (by omega) (by omega)
  rw [Nat.and_one_is_mod] at e
  exact e
