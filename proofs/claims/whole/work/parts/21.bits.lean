/-! BYTES -/
theorem zand_255 (z : Int) : zand (wr z) 255 = z % 256 := by
  unfold zand
  rw [ofI_wr]
  have hb : (Int32.ofInt z &&& Int32.ofInt 255).toBitVec.toNat = (z % 256).toNat := by
    show (BitVec.ofInt 32 z &&& BitVec.ofInt 32 255).toNat = _
    rw [BitVec.toNat_and, BitVec.toNat_ofInt, BitVec.toNat_ofInt]
    have e1 : ((255 : Int) % ((2 ^ 32 : Nat) : Int)).toNat = 2 ^ 8 - 1 := by decide
    rw [e1, Nat.and_two_pow_sub_one_eq_mod]
    have e2 : ((2 ^ 32 : Nat) : Int) = 4294967296 := by decide
    have e3 : (2 ^ 8 : Nat) = 256 := by decide
    rw [e2, e3]
    omega
  show (Int32.ofInt z &&& Int32.ofInt 255).toBitVec.toInt = _
  rw [BitVec.toInt_eq_toNat_of_lt (by rw [hb]; have : (2 ^ 32 : Nat) = 4294967296 := by decide
                                      rw [this]; omega), hb]
  omega
theorem jand_255 (z : Int) : jand z 255 = z % 256 := by
  unfold jand
  have hb : (Int64.ofInt z &&& Int64.ofInt 255).toBitVec.toNat = (z % 256).toNat := by
    show (BitVec.ofInt 64 z &&& BitVec.ofInt 64 255).toNat = _
    rw [BitVec.toNat_and, BitVec.toNat_ofInt, BitVec.toNat_ofInt]
    have e1 : ((255 : Int) % ((2 ^ 64 : Nat) : Int)).toNat = 2 ^ 8 - 1 := by decide
    rw [e1, Nat.and_two_pow_sub_one_eq_mod]
    have e2 : ((2 ^ 64 : Nat) : Int) = 18446744073709551616 := by decide
    have e3 : (2 ^ 8 : Nat) = 256 := by decide
    rw [e2, e3]
    omega
  show (Int64.ofInt z &&& Int64.ofInt 255).toBitVec.toInt = _
  rw [BitVec.toInt_eq_toNat_of_lt (by rw [hb]; have : (2 ^ 64 : Nat) = 18446744073709551616 := by decide
                                      rw [this]; omega), hb]
  omega
/-- byte i of v, from the lowest -/
def byt (v : Int) (i : Nat) : Int := v / (256 ^ i : Nat) % 256
theorem byt_b (v : Int) (i : Nat) : 0 ≤ byt v i ∧ byt v i ≤ 255 := by unfold byt; omega
theorem bmod_m (x : Nat) : Int.bmod (x : Int) (2 ^ 64) % 256 = (x : Int) % 256 := by
  rw [Int.bmod_def]
  have e2 : ((2 ^ 64 : Nat) : Int) = 18446744073709551616 := by decide
  rw [e2]
  split <;> omega
theorem ju_0 (x : Int) : jushr x 0 % 256 = byt x 0 := by
  show ((BitVec.ofInt 64 x) >>> (((Int32.ofInt 0).toInt64.toUInt64 &&& Int64.toUInt64 63).toBitVec % 64)).toInt % 256 = _
  have e : (((Int32.ofInt 0).toInt64.toUInt64 &&& Int64.toUInt64 63).toBitVec % 64).toNat = 0 := by decide
  rw [BitVec.ushiftRight_eq', e, BitVec.toInt_eq_toNat_bmod, BitVec.toNat_ushiftRight, BitVec.toNat_ofInt, Nat.shiftRight_eq_div_pow, bmod_m]
  have e2 : ((2 ^ 64 : Nat) : Int) = 18446744073709551616 := by decide
  have e3 : (2 ^ 0 : Nat) = 1 := by decide
  unfold byt
  rw [e2, e3]
  omega
theorem js_0 (x : Int) (hx : inJ x) : jshr x 0 % 256 = byt x 0 := by
  show ((Int64.ofInt x).toBitVec.sshiftRight' (((Int32.ofInt 0).toInt64 &&& 63).toBitVec.smod 64)).toInt % 256 = _
  have e : (((Int32.ofInt 0).toInt64 &&& 63).toBitVec.smod 64).toNat = 0 := by decide
  rw [BitVec.sshiftRight_eq', e, BitVec.toInt_sshiftRight]
  have e1 : (Int64.ofInt x).toBitVec.toInt = x := toJ_of hx
  rw [e1, Int.shiftRight_eq_div_pow]
  have e3 : ((2 ^ 0 : Nat) : Int) = 1 := by decide
  unfold byt
  rw [e3]
theorem ju_1 (x : Int) : jushr x 8 % 256 = byt x 1 := by
  show ((BitVec.ofInt 64 x) >>> (((Int32.ofInt 8).toInt64.toUInt64 &&& Int64.toUInt64 63).toBitVec % 64)).toInt % 256 = _
  have e : (((Int32.ofInt 8).toInt64.toUInt64 &&& Int64.toUInt64 63).toBitVec % 64).toNat = 8 := by decide
  rw [BitVec.ushiftRight_eq', e, BitVec.toInt_eq_toNat_bmod, BitVec.toNat_ushiftRight, BitVec.toNat_ofInt, Nat.shiftRight_eq_div_pow, bmod_m]
  have e2 : ((2 ^ 64 : Nat) : Int) = 18446744073709551616 := by decide
  have e3 : (2 ^ 8 : Nat) = 256 := by decide
  unfold byt
  rw [e2, e3]
  omega
theorem js_1 (x : Int) (hx : inJ x) : jshr x 8 % 256 = byt x 1 := by
  show ((Int64.ofInt x).toBitVec.sshiftRight' (((Int32.ofInt 8).toInt64 &&& 63).toBitVec.smod 64)).toInt % 256 = _
  have e : (((Int32.ofInt 8).toInt64 &&& 63).toBitVec.smod 64).toNat = 8 := by decide
  rw [BitVec.sshiftRight_eq', e, BitVec.toInt_sshiftRight]
  have e1 : (Int64.ofInt x).toBitVec.toInt = x := toJ_of hx
  rw [e1, Int.shiftRight_eq_div_pow]
  have e3 : ((2 ^ 8 : Nat) : Int) = 256 := by decide
  unfold byt
  rw [e3]
theorem ju_2 (x : Int) : jushr x 16 % 256 = byt x 2 := by
  show ((BitVec.ofInt 64 x) >>> (((Int32.ofInt 16).toInt64.toUInt64 &&& Int64.toUInt64 63).toBitVec % 64)).toInt % 256 = _
  have e : (((Int32.ofInt 16).toInt64.toUInt64 &&& Int64.toUInt64 63).toBitVec % 64).toNat = 16 := by decide
  rw [BitVec.ushiftRight_eq', e, BitVec.toInt_eq_toNat_bmod, BitVec.toNat_ushiftRight, BitVec.toNat_ofInt, Nat.shiftRight_eq_div_pow, bmod_m]
  have e2 : ((2 ^ 64 : Nat) : Int) = 18446744073709551616 := by decide
  have e3 : (2 ^ 16 : Nat) = 65536 := by decide
  unfold byt
  rw [e2, e3]
  omega
theorem js_2 (x : Int) (hx : inJ x) : jshr x 16 % 256 = byt x 2 := by
  show ((Int64.ofInt x).toBitVec.sshiftRight' (((Int32.ofInt 16).toInt64 &&& 63).toBitVec.smod 64)).toInt % 256 = _
  have e : (((Int32.ofInt 16).toInt64 &&& 63).toBitVec.smod 64).toNat = 16 := by decide
  rw [BitVec.sshiftRight_eq', e, BitVec.toInt_sshiftRight]
  have e1 : (Int64.ofInt x).toBitVec.toInt = x := toJ_of hx
  rw [e1, Int.shiftRight_eq_div_pow]
  have e3 : ((2 ^ 16 : Nat) : Int) = 65536 := by decide
  unfold byt
  rw [e3]
theorem ju_3 (x : Int) : jushr x 24 % 256 = byt x 3 := by
  show ((BitVec.ofInt 64 x) >>> (((Int32.ofInt 24).toInt64.toUInt64 &&& Int64.toUInt64 63).toBitVec % 64)).toInt % 256 = _
  have e : (((Int32.ofInt 24).toInt64.toUInt64 &&& Int64.toUInt64 63).toBitVec % 64).toNat = 24 := by decide
  rw [BitVec.ushiftRight_eq', e, BitVec.toInt_eq_toNat_bmod, BitVec.toNat_ushiftRight, BitVec.toNat_ofInt, Nat.shiftRight_eq_div_pow, bmod_m]
  have e2 : ((2 ^ 64 : Nat) : Int) = 18446744073709551616 := by decide
  have e3 : (2 ^ 24 : Nat) = 16777216 := by decide
  unfold byt
  rw [e2, e3]
  omega
theorem js_3 (x : Int) (hx : inJ x) : jshr x 24 % 256 = byt x 3 := by
  show ((Int64.ofInt x).toBitVec.sshiftRight' (((Int32.ofInt 24).toInt64 &&& 63).toBitVec.smod 64)).toInt % 256 = _
  have e : (((Int32.ofInt 24).toInt64 &&& 63).toBitVec.smod 64).toNat = 24 := by decide
  rw [BitVec.sshiftRight_eq', e, BitVec.toInt_sshiftRight]
  have e1 : (Int64.ofInt x).toBitVec.toInt = x := toJ_of hx
  rw [e1, Int.shiftRight_eq_div_pow]
  have e3 : ((2 ^ 24 : Nat) : Int) = 16777216 := by decide
  unfold byt
  rw [e3]
theorem ju_4 (x : Int) : jushr x 32 % 256 = byt x 4 := by
  show ((BitVec.ofInt 64 x) >>> (((Int32.ofInt 32).toInt64.toUInt64 &&& Int64.toUInt64 63).toBitVec % 64)).toInt % 256 = _
  have e : (((Int32.ofInt 32).toInt64.toUInt64 &&& Int64.toUInt64 63).toBitVec % 64).toNat = 32 := by decide
  rw [BitVec.ushiftRight_eq', e, BitVec.toInt_eq_toNat_bmod, BitVec.toNat_ushiftRight, BitVec.toNat_ofInt, Nat.shiftRight_eq_div_pow, bmod_m]
  have e2 : ((2 ^ 64 : Nat) : Int) = 18446744073709551616 := by decide
  have e3 : (2 ^ 32 : Nat) = 4294967296 := by decide
  unfold byt
  rw [e2, e3]
  omega
theorem js_4 (x : Int) (hx : inJ x) : jshr x 32 % 256 = byt x 4 := by
  show ((Int64.ofInt x).toBitVec.sshiftRight' (((Int32.ofInt 32).toInt64 &&& 63).toBitVec.smod 64)).toInt % 256 = _
  have e : (((Int32.ofInt 32).toInt64 &&& 63).toBitVec.smod 64).toNat = 32 := by decide
  rw [BitVec.sshiftRight_eq', e, BitVec.toInt_sshiftRight]
  have e1 : (Int64.ofInt x).toBitVec.toInt = x := toJ_of hx
  rw [e1, Int.shiftRight_eq_div_pow]
  have e3 : ((2 ^ 32 : Nat) : Int) = 4294967296 := by decide
  unfold byt
  rw [e3]
theorem ju_5 (x : Int) : jushr x 40 % 256 = byt x 5 := by
  show ((BitVec.ofInt 64 x) >>> (((Int32.ofInt 40).toInt64.toUInt64 &&& Int64.toUInt64 63).toBitVec % 64)).toInt % 256 = _
  have e : (((Int32.ofInt 40).toInt64.toUInt64 &&& Int64.toUInt64 63).toBitVec % 64).toNat = 40 := by decide
  rw [BitVec.ushiftRight_eq', e, BitVec.toInt_eq_toNat_bmod, BitVec.toNat_ushiftRight, BitVec.toNat_ofInt, Nat.shiftRight_eq_div_pow, bmod_m]
  have e2 : ((2 ^ 64 : Nat) : Int) = 18446744073709551616 := by decide
  have e3 : (2 ^ 40 : Nat) = 1099511627776 := by decide
  unfold byt
  rw [e2, e3]
  omega
theorem js_5 (x : Int) (hx : inJ x) : jshr x 40 % 256 = byt x 5 := by
  show ((Int64.ofInt x).toBitVec.sshiftRight' (((Int32.ofInt 40).toInt64 &&& 63).toBitVec.smod 64)).toInt % 256 = _
  have e : (((Int32.ofInt 40).toInt64 &&& 63).toBitVec.smod 64).toNat = 40 := by decide
  rw [BitVec.sshiftRight_eq', e, BitVec.toInt_sshiftRight]
  have e1 : (Int64.ofInt x).toBitVec.toInt = x := toJ_of hx
  rw [e1, Int.shiftRight_eq_div_pow]
  have e3 : ((2 ^ 40 : Nat) : Int) = 1099511627776 := by decide
  unfold byt
  rw [e3]
theorem ju_6 (x : Int) : jushr x 48 % 256 = byt x 6 := by
  show ((BitVec.ofInt 64 x) >>> (((Int32.ofInt 48).toInt64.toUInt64 &&& Int64.toUInt64 63).toBitVec % 64)).toInt % 256 = _
  have e : (((Int32.ofInt 48).toInt64.toUInt64 &&& Int64.toUInt64 63).toBitVec % 64).toNat = 48 := by decide
  rw [BitVec.ushiftRight_eq', e, BitVec.toInt_eq_toNat_bmod, BitVec.toNat_ushiftRight, BitVec.toNat_ofInt, Nat.shiftRight_eq_div_pow, bmod_m]
  have e2 : ((2 ^ 64 : Nat) : Int) = 18446744073709551616 := by decide
  have e3 : (2 ^ 48 : Nat) = 281474976710656 := by decide
  unfold byt
  rw [e2, e3]
  omega
theorem js_6 (x : Int) (hx : inJ x) : jshr x 48 % 256 = byt x 6 := by
  show ((Int64.ofInt x).toBitVec.sshiftRight' (((Int32.ofInt 48).toInt64 &&& 63).toBitVec.smod 64)).toInt % 256 = _
  have e : (((Int32.ofInt 48).toInt64 &&& 63).toBitVec.smod 64).toNat = 48 := by decide
  rw [BitVec.sshiftRight_eq', e, BitVec.toInt_sshiftRight]
  have e1 : (Int64.ofInt x).toBitVec.toInt = x := toJ_of hx
  rw [e1, Int.shiftRight_eq_div_pow]
  have e3 : ((2 ^ 48 : Nat) : Int) = 281474976710656 := by decide
  unfold byt
  rw [e3]
theorem ju_7 (x : Int) : jushr x 56 % 256 = byt x 7 := by
  show ((BitVec.ofInt 64 x) >>> (((Int32.ofInt 56).toInt64.toUInt64 &&& Int64.toUInt64 63).toBitVec % 64)).toInt % 256 = _
  have e : (((Int32.ofInt 56).toInt64.toUInt64 &&& Int64.toUInt64 63).toBitVec % 64).toNat = 56 := by decide
  rw [BitVec.ushiftRight_eq', e, BitVec.toInt_eq_toNat_bmod, BitVec.toNat_ushiftRight, BitVec.toNat_ofInt, Nat.shiftRight_eq_div_pow, bmod_m]
  have e2 : ((2 ^ 64 : Nat) : Int) = 18446744073709551616 := by decide
  have e3 : (2 ^ 56 : Nat) = 72057594037927936 := by decide
  unfold byt
  rw [e2, e3]
  omega
theorem js_7 (x : Int) (hx : inJ x) : jshr x 56 % 256 = byt x 7 := by
  show ((Int64.ofInt x).toBitVec.sshiftRight' (((Int32.ofInt 56).toInt64 &&& 63).toBitVec.smod 64)).toInt % 256 = _
  have e : (((Int32.ofInt 56).toInt64 &&& 63).toBitVec.smod 64).toNat = 56 := by decide
  rw [BitVec.sshiftRight_eq', e, BitVec.toInt_sshiftRight]
  have e1 : (Int64.ofInt x).toBitVec.toInt = x := toJ_of hx
  rw [e1, Int.shiftRight_eq_div_pow]
  have e3 : ((2 ^ 56 : Nat) : Int) = 72057594037927936 := by decide
  unfold byt
  rw [e3]
theorem zju {x i : Int} (h : 0 ≤ i ∧ i < 8) : zand (wr (jushr x (8 * i))) 255 = byt x i.toNat := by
  rw [zand_255]
  have : i = 0 ∨ i = 1 ∨ i = 2 ∨ i = 3 ∨ i = 4 ∨ i = 5 ∨ i = 6 ∨ i = 7 := by omega
  rcases this with rfl | rfl | rfl | rfl | rfl | rfl | rfl | rfl
  · exact ju_0 x
  · exact ju_1 x
  · exact ju_2 x
  · exact ju_3 x
  · exact ju_4 x
  · exact ju_5 x
  · exact ju_6 x
  · exact ju_7 x
theorem wjs {x i : Int} (hx : inJ x) (h : 0 ≤ i ∧ i < 8) : wr (jand (jshr x (8 * i)) 255) = byt x i.toNat := by
  rw [jand_255]
  have hb := byt_b x i.toNat
  have key : jshr x (8 * i) % 256 = byt x i.toNat := by
    have : i = 0 ∨ i = 1 ∨ i = 2 ∨ i = 3 ∨ i = 4 ∨ i = 5 ∨ i = 6 ∨ i = 7 := by omega
    rcases this with rfl | rfl | rfl | rfl | rfl | rfl | rfl | rfl
    · exact js_0 x hx
    · exact js_1 x hx
    · exact js_2 x hx
    · exact js_3 x hx
    · exact js_4 x hx
    · exact js_5 x hx
    · exact js_6 x hx
    · exact js_7 x hx
  rw [key]
  exact wr_id (by unfold inI; omega)
theorem jor_low {a b : Nat} (hb : b < 256) (ha : a < 36028797018963968) : jor (jshl (a : Int) 8) (b : Int) = ((a * 256 + b : Nat) : Int) := by
  have e0 : (((Int32.ofInt 8).toInt64 &&& 63).toBitVec.smod 64).toNat = 8 := by decide
  have e1 : (Int64.ofInt (a : Int) <<< ((Int32.ofInt 8).toInt64 &&& 63)).toBitVec.toNat = a * 256 := by
    show ((BitVec.ofInt 64 (a : Int)) <<< (((Int32.ofInt 8).toInt64 &&& 63).toBitVec.smod 64)).toNat = _
    rw [BitVec.shiftLeft_eq', e0, BitVec.toNat_shiftLeft, BitVec.toNat_ofInt, Nat.shiftLeft_eq]
    have e2 : ((2 ^ 64 : Nat) : Int) = 18446744073709551616 := by decide
    have e3 : (2 ^ 64 : Nat) = 18446744073709551616 := by decide
    have e4 : (2 ^ 8 : Nat) = 256 := by decide
    rw [e2, e3, e4]
    omega
  have e5 : Int64.ofInt (jshl (a : Int) 8) = Int64.ofInt (a : Int) <<< ((Int32.ofInt 8).toInt64 &&& 63) := ofJ_t _
  unfold jor
  rw [e5]
  have e6 : (Int64.ofInt (a : Int) <<< ((Int32.ofInt 8).toInt64 &&& 63) ||| Int64.ofInt (b : Int)).toBitVec.toNat = a * 256 + b := by
    rw [Int64.toBitVec_or, BitVec.toNat_or, e1]
    have e7 : (Int64.ofInt (b : Int)).toBitVec.toNat = b := by
      show (BitVec.ofInt 64 (b : Int)).toNat = b
      rw [BitVec.toNat_ofInt]
      have e2 : ((2 ^ 64 : Nat) : Int) = 18446744073709551616 := by decide
      rw [e2]
      omega
    rw [e7]
    have e8 := Nat.two_pow_add_eq_or_of_lt (i := 8) (b := b) (by omega) a
    have e4 : (2 ^ 8 : Nat) = 256 := by decide
    rw [e4] at e8
    rw [Nat.mul_comm a 256]
    exact e8.symm
  show (Int64.ofInt (a : Int) <<< ((Int32.ofInt 8).toInt64 &&& 63) ||| Int64.ofInt (b : Int)).toBitVec.toInt = _
  rw [BitVec.toInt_eq_toNat_of_lt (by rw [e6]; have : (2 ^ 64 : Nat) = 18446744073709551616 := by decide
                                      rw [this]; omega), e6]
