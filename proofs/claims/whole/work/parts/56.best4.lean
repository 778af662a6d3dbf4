/-! lodging: counting bits, the lowest bit -/
def bc1 (x : Int) : Int := x - zand (zushr x 1) 1431655765
def bc2 (y : Int) : Int := zand y 858993459 + zand (zushr y 2) 858993459
def bc3 (y : Int) : Int := y + zushr y 4
def bc4 (y : Int) : Int := y + zushr y 8
def bc5 (y : Int) : Int := y + zushr y 16
def okI (x : Int) : Bool := decide (-2147483648 ≤ x ∧ x ≤ 2147483647)
def bcT (x : Nat) : Bool := okI (bc1 x) && okI (bc2 (bc1 x)) && okI (bc3 (bc2 (bc1 x))) && okI (bc4 (zand (bc3 (bc2 (bc1 x))) 252645135)) && okI (bc5 (bc4 (zand (bc3 (bc2 (bc1 x))) 252645135))) && decide (zand (bc5 (bc4 (zand (bc3 (bc2 (bc1 x))) 252645135))) 63 = (pcB x : Int))
theorem bcT_all : ∀ a, a < 64 → ∀ b, b < 64 → bcT (64 * a + b) = true := by
  decide +kernel
def nz62 (a0 a1 : Int) (i : Nat) : Bool := if 4 < a0 then okI (a1 + 2) && okI ((a1 + 2) + zushr (zushr a0 2) 1) && decide ((a1 + 2) + zushr (zushr a0 2) 1 = (i : Int)) else okI (a1 + zushr a0 1) && decide (a1 + zushr a0 1 = (i : Int))
def nz49 (a0 a1 : Int) (i : Nat) : Bool := if 16 < a0 then okI (a1 + 4) && nz62 (zushr a0 4) (a1 + 4) i else nz62 a0 a1 i
def nz34 (a0 a1 : Int) (i : Nat) : Bool := if 256 < a0 then okI (a1 + 8) && nz49 (zushr a0 8) (a1 + 8) i else nz49 a0 a1 i
def nz0 (z : Int) (i : Nat) : Bool := decide (z ≤ 65536) && (if 0 < z then nz34 z 1 i else decide (zand z 32 = (i : Int)))
def nzT (x : Nat) : Bool := decide (x = 0) || (List.range 12).any (fun i => x.testBit i && ((List.range 12).all (fun t => ((x &&& (x - 1)).testBit t == (x.testBit t && decide (¬ t = i))) && (!x.testBit t || decide (i ≤ t))) && nz0 (zand (zxor x (-1)) ((x : Int) - 1)) i))
theorem nzT_all : ∀ a, a < 64 → ∀ b, b < 64 → nzT (64 * a + b) = true := by
  decide +kernel
theorem zor_n {a b : Nat} (ha : a < 2147483648) (hb : b < 2147483648) : zor (a : Int) (b : Int) = ((a ||| b : Nat) : Int) := by
  show ((BitVec.ofInt 32 (a : Int)) ||| (BitVec.ofInt 32 (b : Int))).toInt = _
  rw [BitVec.toInt_eq_toNat_bmod, BitVec.toNat_or, BitVec.toNat_ofInt, BitVec.toNat_ofInt, ofn_32 ha, ofn_32 hb]
  have hl : a ||| b < 2 ^ 31 := Nat.or_lt_two_pow (by omega) (by omega)
  exact bm_32 (by omega)
theorem zshl_1 : ∀ g, g < 13 → zshl 1 ((g : Nat) : Int) = ((2 ^ g : Nat) : Int) ∧ 2 ^ g ≤ 4096 := by
  decide +kernel
theorem okI_i {x : Int} (h : okI x = true) : -2147483648 ≤ x ∧ x ≤ 2147483647 := of_decide_eq_true h
theorem low_of {x : Nat} (hx : x < 4096) (h0 : ¬ x = 0) : ∃ i, lowB x (x &&& (x - 1)) i ∧ (∀ t, x.testBit t = true → i ≤ t) ∧ nz0 (zand (zxor x (-1)) ((x : Int) - 1)) i = true := by
  have h := nzT_all (x / 64) (by omega) (x % 64) (by omega)
  rw [show 64 * (x / 64) + x % 64 = x by omega] at h
  unfold nzT at h
  rw [decide_eq_false h0, Bool.false_or] at h
  obtain ⟨i, i1, i2⟩ := List.any_eq_true.mp h
  have i1 := List.mem_range.mp i1
  have i3 := Bool.and_eq_true_iff.mp i2
  have i4 := Bool.and_eq_true_iff.mp i3.2
  have i5 := List.all_eq_true.mp i4.1
  have hle : x &&& (x - 1) ≤ x := Nat.and_le_left
  refine ⟨i, ⟨i1, i3.1, fun t => ?_⟩, fun t ht => ?_, i4.2⟩
  · by_cases l : t < 12
    · have := (Bool.and_eq_true_iff.mp (i5 t (List.mem_range.mpr l))).1
      exact eq_of_beq this
    · rw [hi_bit (i := 12) (by omega) (by omega), hi_bit (I := x) (i := 12) (by omega) (by omega)]; rfl
  · have l := bit_lt (n := 12) hx ht
    have := (Bool.and_eq_true_iff.mp (i5 t (List.mem_range.mpr l))).2
    rw [ht] at this
    exact of_decide_eq_true this
