/-! orders: the strings of the reader -/
theorem mN_176 : mN 176 = 1 := by decide +kernel
theorem mN_177 : mN 177 = 1 := by decide +kernel
theorem mN_178 : mN 178 = 2 := by decide +kernel
theorem mN_179 : mN 179 = 1 := by decide +kernel
theorem mN_180 : mN 180 = 2 := by decide +kernel
theorem mN_181 : mN 181 = 2 := by decide +kernel
theorem mN_182 : mN 182 = 3 := by decide +kernel
theorem ee_176 {d : Nat} {Q : Ql} {a : Nat} {M : Mm} (h : GoG false (EE d) cd_176 Q 0 [vK a] [] M) : EE (d + 1) 176 [vK a] M Q := by
  have e : cdTab 176 = cd_176 := rfl
  unfold EE; rw [mN_176, e]; exact ⟨Nat.le_of_ble_eq_true rfl, h⟩
theorem ee_177 {d : Nat} {Q : Ql} {a : Nat} {M : Mm} (h : GoG false (EE d) cd_177 Q 0 [vK a] [] M) : EE (d + 1) 177 [vK a] M Q := by
  have e : cdTab 177 = cd_177 := rfl
  unfold EE; rw [mN_177, e]; exact ⟨Nat.le_of_ble_eq_true rfl, h⟩
theorem ee_178 {d : Nat} {Q : Ql} {a : Nat} {i : Int} {M : Mm} (h : GoG false (EE d) cd_178 Q 0 [vK a, vI i] [] M) : EE (d + 1) 178 [vK a, vI i] M Q := by
  have e : cdTab 178 = cd_178 := rfl
  unfold EE; rw [mN_178, e]; exact ⟨Nat.le_of_ble_eq_true rfl, h⟩
theorem ee_179 {d : Nat} {Q : Ql} {a : Nat} {M : Mm} (h : GoG false (EE d) cd_179 Q 0 [vK a] [] M) : EE (d + 1) 179 [vK a] M Q := by
  have e : cdTab 179 = cd_179 := rfl
  unfold EE; rw [mN_179, e]; exact ⟨Nat.le_of_ble_eq_true rfl, h⟩
theorem ee_180 {d : Nat} {Q : Ql} {t : Nat} {i : Int} {M : Mm} (h : GoG false (EE d) cd_180 Q 0 [vT t, vI i] [] M) : EE (d + 1) 180 [vT t, vI i] M Q := by
  have e : cdTab 180 = cd_180 := rfl
  unfold EE; rw [mN_180, e]; exact ⟨Nat.le_of_ble_eq_true rfl, h⟩
theorem ee_181 {d : Nat} {Q : Ql} {i n : Int} {M : Mm} (h : GoG false (EE d) cd_181 Q 0 [vI i, vI n] [] M) : EE (d + 1) 181 [vI i, vI n] M Q := by
  have e : cdTab 181 = cd_181 := rfl
  unfold EE; rw [mN_181, e]; exact ⟨Nat.le_of_ble_eq_true rfl, h⟩
theorem ee_182 {d : Nat} {Q : Ql} {i n : Int} {t : Nat} {M : Mm} (h : GoG false (EE d) cd_182 Q 0 [vI i, vI n, vT t] [] M) : EE (d + 1) 182 [vI i, vI n, vT t] M Q := by
  have e : cdTab 182 = cd_182 := rfl
  unfold EE; rw [mN_182, e]; exact ⟨Nat.le_of_ble_eq_true rfl, h⟩
theorem c_177 {d : Nat} {P : Int → Mm → Prop} {M : Mm} {a : Nat} (ha : a < 8) (h : P 0 M) : EE (d + 1) 177 [vK a] M (rI P) := by
  have hE := EE_mono d
  refine ee_177 ?_
  refine z_getsI hE rfl rfl ?_
  refine z_if_eq hE rfl ⟨fun q => absurd q (by decide), fun _ => ?_⟩
  refine z_aload hE rfl rfl rfl ?_
  refine z_getC hE rfl rfl ha rfl ?_
  refine z_goto hE rfl ?_
  exact z_bret hE rfl rfl (by omega) h
theorem c_179 {d : Nat} {P : Int → Mm → Prop} {M : Mm} {a : Nat} (ha : a < 8) (h : P 1 M) : EE (d + 1) 179 [vK a] M (rI P) := by
  have hE := EE_mono d
  refine ee_179 ?_
  refine z_getsI hE rfl rfl ?_
  refine z_if_eq hE rfl ⟨fun q => absurd q (by decide), fun _ => ?_⟩
  refine z_aload hE rfl rfl rfl ?_
  refine z_getC hE rfl rfl ha rfl ?_
  refine z_if_ne hE rfl ⟨fun q => absurd rfl q, fun _ => ?_⟩
  refine z_iconst hE rfl ?_
  refine z_goto hE rfl ?_
  exact z_zret hE rfl rfl (Or.inr rfl) h
theorem c_182 {d : Nat} {P : Int → Mm → Prop} {M : Mm} {i n : Int} {t : Nat} (hi : 0 ≤ i ∧ i < n) (h : P i M) : EE (d + 1) 182 [vI i, vI n, vT t] M (rI P) := by
  have hE := EE_mono d
  refine ee_182 ?_
  refine z_iload hE rfl rfl ?_
  refine z_if_lt hE rfl ⟨fun q => by omega, fun _ => ?_⟩
  refine z_iload hE rfl rfl ?_
  refine z_iload hE rfl rfl ?_
  refine z_icmp_lt hE rfl ⟨fun _ => ?_, fun q => by omega⟩
  refine z_iload hE rfl rfl ?_
  exact z_iret hE rfl rfl h
theorem c_181 {d : Nat} {PV : Mm → Prop} {M : Mm} {i n : Int} (hi : 0 ≤ i ∧ i < n) (h : PV M) : EE (d + 2) 181 [vI i, vI n] M (rV PV) := by
  have hE := EE_mono (d + 1)
  refine ee_181 ?_
  refine z_iload hE rfl rfl ?_
  refine z_iload hE rfl rfl ?_
  refine z_getsT hE rfl (by decide) ?_
  refine z_callsI hE rfl rfl rfl rfl rfl (Nat.le_of_ble_eq_true rfl) (by decide) ?_
  refine c_182 hi ?_
  refine z_pop hE rfl rfl ?_
  exact z_vret hE rfl h
theorem isA_T : ∀ t, t < 10 → isA (vT t) = true := by decide +kernel
theorem c_180 {d : Nat} {P : Int → Mm → Prop} {M : Mm} {t n : Nat} {i : Int} (ht : 2 ≤ t ∧ t < 10) (hn : (tbL.getD t []).length = n) (hi : 0 ≤ i ∧ i < (n : Int)) (hv : 0 ≤ zi2c (zand ((tbL.getD t []).getD i.toNat 0) 255) ∧ zi2c (zand ((tbL.getD t []).getD i.toNat 0) 255) < 65536) (h : P (zi2c (zand ((tbL.getD t []).getD i.toNat 0) 255)) M) : EE (d + 3) 180 [vT t, vI i] M (rI P) := by
  have hE := EE_mono (d + 2)
  refine ee_180 ?_
  refine z_iload hE rfl rfl ?_
  refine z_aload hE rfl rfl (isA_T t ht.2) ?_
  refine z_alenT hE rfl ht.2 hn ?_
  refine z_callsV hE rfl rfl rfl rfl rfl (Nat.le_of_ble_eq_true rfl) (by decide) ?_
  refine c_181 hi ?_
  refine z_aload hE rfl rfl (isA_T t ht.2) ?_
  refine z_iload hE rfl rfl ?_
  refine z_baldT hE rfl ht hn hi ?_
  refine z_iconst hE rfl ?_
  refine z_iand hE rfl ?_
  refine z_i2c hE rfl ?_
  exact z_cret hE rfl rfl hv h
/-- the signs of string a -/
def sgL (a : Nat) : List Int := tbL.getD (2 + a) []
theorem sgL_ok : ∀ a, a < 8 → ∀ i, i < (sgL a).length → zi2c (zand ((sgL a).getD i 0) 255) = (sgL a).getD i 0 ∧ 0 ≤ (sgL a).getD i 0 ∧ (sgL a).getD i 0 < 65536 := by
  decide +kernel
theorem zshr_0 : ∀ a, a < 8 → zshr (((sgL a).length : Nat) : Int) 0 = ((sgL a).length : Nat) := by
  decide +kernel
theorem c_176 {d : Nat} {P : Int → Mm → Prop} {M : Mm} {a : Nat} (ha : a < 8) (h : P ((sgL a).length : Nat) M) : EE (d + 2) 176 [vK a] M (rI P) := by
  have hE := EE_mono (d + 1)
  refine ee_176 ?_
  refine z_aload hE rfl rfl rfl ?_
  refine z_getS hE rfl rfl ha rfl ?_
  refine z_alenT hE rfl (by omega) rfl ?_
  refine z_aload hE rfl rfl rfl ?_
  refine z_callvI hE rfl rfl rfl rfl rfl (Nat.le_of_ble_eq_true rfl) (by decide) ⟨rfl, ha⟩ ?_
  refine c_177 ha ?_
  refine z_ishr hE rfl ?_
  have e := zshr_0 a ha
  refine z_iret hE rfl rfl ?_
  rw [← e] at h
  exact h
theorem c_178 {d : Nat} {P : Int → Mm → Prop} {M : Mm} {a i : Nat} (ha : a < 8) (hi : i < (sgL a).length) (h : P ((sgL a).getD i 0) M) : EE (d + 4) 178 [vK a, vI i] M (rI P) := by
  have hE := EE_mono (d + 3)
  have hs := sgL_ok a ha i hi
  refine ee_178 ?_
  refine z_aload hE rfl rfl rfl ?_
  refine z_callvI hE rfl rfl rfl rfl rfl (Nat.le_of_ble_eq_true rfl) (by decide) ⟨rfl, ha⟩ ?_
  refine c_179 ha ?_
  refine z_if_eq hE rfl ⟨fun q => absurd q (by decide), fun _ => ?_⟩
  refine z_aload hE rfl rfl rfl ?_
  refine z_getS hE rfl rfl ha rfl ?_
  refine z_iload hE rfl rfl ?_
  refine z_callsI hE rfl rfl rfl rfl rfl (Nat.le_of_ble_eq_true rfl) (by decide) ?_
  have e : zi2c (zand ((tbL.getD (2 + a) []).getD ((i : Int)).toNat 0) 255) = (sgL a).getD i 0 := hs.1
  refine c_180 (by omega) rfl (by show 0 ≤ (i : Int) ∧ (i : Int) < ((sgL a).length : Int); omega) (by rw [e]; exact hs.2) ?_
  rw [e]
  exact z_cret hE rfl rfl hs.2 h
