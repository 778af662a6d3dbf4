/-! paths: and, xor of small numbers; the walk over the subsets -/
theorem ofn_32 {x : Nat} (h : x < 2147483648) : ((x : Int) % ((2 ^ 32 : Nat) : Int)).toNat = x := by
  have e2 : ((2 ^ 32 : Nat) : Int) = 4294967296 := by decide
  rw [e2]; omega
theorem bm_32 {x : Nat} (h : x < 2147483648) : Int.bmod (x : Int) (2 ^ 32) = (x : Int) := by
  have e2 : (2 ^ 32 : Nat) = 4294967296 := by decide
  rw [e2]
  exact Int.bmod_eq_of_le (by omega) (by omega)
theorem zand_n {a b : Nat} (ha : a < 2147483648) (hb : b < 2147483648) : zand (a : Int) (b : Int) = ((a &&& b : Nat) : Int) := by
  show ((BitVec.ofInt 32 (a : Int)) &&& (BitVec.ofInt 32 (b : Int))).toInt = _
  rw [BitVec.toInt_eq_toNat_bmod, BitVec.toNat_and, BitVec.toNat_ofInt, BitVec.toNat_ofInt, ofn_32 ha, ofn_32 hb]
  have hl : a &&& b ≤ a := Nat.and_le_left
  exact bm_32 (by omega)
theorem zxor_n {a b : Nat} (ha : a < 2147483648) (hb : b < 2147483648) : zxor (a : Int) (b : Int) = ((a ^^^ b : Nat) : Int) := by
  show ((BitVec.ofInt 32 (a : Int)) ^^^ (BitVec.ofInt 32 (b : Int))).toInt = _
  rw [BitVec.toInt_eq_toNat_bmod, BitVec.toNat_xor, BitVec.toNat_ofInt, BitVec.toNat_ofInt, ofn_32 ha, ofn_32 hb]
  have hl : a ^^^ b < 2 ^ 31 := Nat.xor_lt_two_pow (by omega) (by omega)
  exact bm_32 (by omega)
/-- the subsets of s from a on, as the class walks them -/
def wlk (s : Nat) : Nat → Nat → List Nat
  | 0, _ => []
  | k + 1, a => if a = 0 then [] else a :: wlk s k ((a - 1) &&& s)
theorem wlk_all : ∀ s, s < 256 → wlk s 256 s = ((List.range 256).filter (fun a => a != 0 && (a &&& s) == a)).reverse := by
  decide +kernel
theorem wlk_in {s a : Nat} (hs : s < 256) : a ∈ wlk s 256 s ↔ a < 256 ∧ ¬ a = 0 ∧ a &&& s = a := by
  rw [wlk_all s hs, List.mem_reverse, List.mem_filter, List.mem_range]
  simp
