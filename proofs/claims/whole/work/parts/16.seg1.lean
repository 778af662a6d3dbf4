/-! SEGMENTS, printed by gen16.py -/
/-! 69: ChildTrains$Houses.takesSort(II)Z -/
theorem mN_69 : mN 69 = 3 := by decide +kernel
theorem ee_69 {d : Nat} {Q : Ql} {a1 : Int} {a2 : Int} {M : Mm} (h : GoG false (EE d) cd_69 Q 0 [vR 24, vI a1, vI a2] [] M) : EE (d + 1) 69 [vR 24, vI a1, vI a2] M Q := by
  have e : cdTab 69 = cd_69 := rfl
  unfold EE; rw [mN_69, e]; exact ⟨Nat.le_of_ble_eq_true rfl, h⟩
theorem sg_69 {d : Nat} {P : Int → Mm → Prop} {a1 : Int} {a2 : Int} {M : Mm} (h : (0 ≤ a1 ∧ a1 < 24) ∧ ((¬ (zand (zshr (M 28 a1) a2) 1) = 1 → P 0 M) ∧ ((zand (zshr (M 28 a1) a2) 1) = 1 → P 1 M))) : EE (d + 1) 69 [vR 24, vI a1, vI a2] M (rI P) := by
  have hE := EE_mono d
  refine ee_69 ?_
  refine z_aload hE rfl rfl rfl ?_
  refine z_getR hE (q := 28) rfl shk_24 rfl rfl rfl ?_
  refine z_iload hE rfl rfl ?_
  have hb := h.1
  have h := h.2
  refine z_iald hE rfl shk_28 hb ?_
  refine z_iload hE rfl rfl ?_
  refine z_ishr hE rfl ?_
  refine z_iconst hE rfl ?_
  refine z_iand hE rfl ?_
  refine z_iconst hE rfl ?_
  refine z_icmp_ne hE rfl ⟨fun q => ?_, fun q => ?_⟩
  · have h := h.1 q
    refine z_iconst hE rfl ?_
    exact z_zret hE rfl rfl (Or.inl rfl) h
  · have h := h.2 q
    refine z_iconst hE rfl ?_
    refine z_goto hE rfl ?_
    exact z_zret hE rfl rfl (Or.inr rfl) h
/-! 70: ChildTrains$Houses.countIn(I)I -/
def H_70_4 (d : Nat) (P : Int → Mm → Prop) (a1 : Int) (a2 : Int) (a3 : Int) (M : Mm) : Prop := GoG false (EE d) cd_70 (rI P) 4 [vR 24, vI a1, vI a2, vI a3] [] M
theorem mN_70 : mN 70 = 4 := by decide +kernel
theorem ee_70 {d : Nat} {Q : Ql} {a1 : Int} {M : Mm} (h : GoG false (EE d) cd_70 Q 0 [vR 24, vI a1, vU, vU] [] M) : EE (d + 1) 70 [vR 24, vI a1] M Q := by
  have e : cdTab 70 = cd_70 := rfl
  unfold EE; rw [mN_70, e]; exact ⟨Nat.le_of_ble_eq_true rfl, h⟩
theorem sg_70 {d : Nat} {P : Int → Mm → Prop} {a1 : Int} {M : Mm} (h : H_70_4 d P a1 0 0 M) : EE (d + 1) 70 [vR 24, vI a1] M (rI P) := by
  have hE := EE_mono d
  refine ee_70 ?_
  refine z_iconst hE rfl ?_
  refine z_istore hE rfl rfl rfl ?_
  refine z_iconst hE rfl ?_
  refine z_istore hE rfl rfl rfl ?_
  exact h
theorem sg_70_4 {d : Nat} {P : Int → Mm → Prop} {a1 : Int} {a2 : Int} {a3 : Int} {M : Mm} (h : (((M 24 5) ≤ a3 → P a2 M) ∧ (a3 < (M 24 5) → (0 ≤ a3 ∧ a3 < 24) ∧ ((¬ (M 25 a3) = a1 → inI (a3 + 1) ∧ H_70_4 d P a1 a2 (a3 + 1) M) ∧ ((M 25 a3) = a1 → inI (a2 + 1) ∧ inI (a3 + 1) ∧ H_70_4 d P a1 (a2 + 1) (a3 + 1) M))))) : H_70_4 d P a1 a2 a3 M := by
  have hE := EE_mono d
  unfold H_70_4
  refine z_iload hE rfl rfl ?_
  refine z_aload hE rfl rfl rfl ?_
  refine z_getI hE (sl := 5) rfl shk_24 rfl rfl rfl ?_
  refine z_icmp_ge hE rfl ⟨fun q => ?_, fun q => ?_⟩
  · have h := h.1 q
    refine z_iload hE rfl rfl ?_
    exact z_iret hE rfl rfl h
  · have h := h.2 q
    refine z_aload hE rfl rfl rfl ?_
    refine z_getR hE (q := 25) rfl shk_24 rfl rfl rfl ?_
    refine z_iload hE rfl rfl ?_
    have hb := h.1
    have h := h.2
    refine z_iald hE rfl shk_25 hb ?_
    refine z_iload hE rfl rfl ?_
    refine z_icmp_ne hE rfl ⟨fun q => ?_, fun q => ?_⟩
    · have h := h.1 q
      have hb := h.1
      have h := h.2
      refine z_iinc hE rfl rfl rfl hb ?_
      refine z_goto hE rfl ?_
      exact h
    · have h := h.2 q
      have hb := h.1
      have h := h.2
      refine z_iinc hE rfl rfl rfl hb ?_
      have hb := h.1
      have h := h.2
      refine z_iinc hE rfl rfl rfl hb ?_
      refine z_goto hE rfl ?_
      exact h
/-! 71: ChildTrains$Houses.bedsIn(I)I -/
def H_71_4 (d : Nat) (P : Int → Mm → Prop) (a1 : Int) (a2 : Int) (a3 : Int) (M : Mm) : Prop := GoG false (EE d) cd_71 (rI P) 4 [vR 24, vI a1, vI a2, vI a3] [] M
theorem mN_71 : mN 71 = 4 := by decide +kernel
theorem ee_71 {d : Nat} {Q : Ql} {a1 : Int} {M : Mm} (h : GoG false (EE d) cd_71 Q 0 [vR 24, vI a1, vU, vU] [] M) : EE (d + 1) 71 [vR 24, vI a1] M Q := by
  have e : cdTab 71 = cd_71 := rfl
  unfold EE; rw [mN_71, e]; exact ⟨Nat.le_of_ble_eq_true rfl, h⟩
theorem sg_71 {d : Nat} {P : Int → Mm → Prop} {a1 : Int} {M : Mm} (h : H_71_4 d P a1 0 0 M) : EE (d + 1) 71 [vR 24, vI a1] M (rI P) := by
  have hE := EE_mono d
  refine ee_71 ?_
  refine z_iconst hE rfl ?_
  refine z_istore hE rfl rfl rfl ?_
  refine z_iconst hE rfl ?_
  refine z_istore hE rfl rfl rfl ?_
  exact h
theorem sg_71_4 {d : Nat} {P : Int → Mm → Prop} {a1 : Int} {a2 : Int} {a3 : Int} {M : Mm} (h : (((M 24 5) ≤ a3 → P a2 M) ∧ (a3 < (M 24 5) → (0 ≤ a3 ∧ a3 < 24) ∧ ((¬ (M 25 a3) = a1 → inI (a3 + 1) ∧ H_71_4 d P a1 a2 (a3 + 1) M) ∧ ((M 25 a3) = a1 → (0 ≤ a3 ∧ a3 < 24) ∧ inI (a2 + (M 27 a3)) ∧ inI (a3 + 1) ∧ H_71_4 d P a1 (a2 + (M 27 a3)) (a3 + 1) M))))) : H_71_4 d P a1 a2 a3 M := by
  have hE := EE_mono d
  unfold H_71_4
  refine z_iload hE rfl rfl ?_
  refine z_aload hE rfl rfl rfl ?_
  refine z_getI hE (sl := 5) rfl shk_24 rfl rfl rfl ?_
  refine z_icmp_ge hE rfl ⟨fun q => ?_, fun q => ?_⟩
  · have h := h.1 q
    refine z_iload hE rfl rfl ?_
    exact z_iret hE rfl rfl h
  · have h := h.2 q
    refine z_aload hE rfl rfl rfl ?_
    refine z_getR hE (q := 25) rfl shk_24 rfl rfl rfl ?_
    refine z_iload hE rfl rfl ?_
    have hb := h.1
    have h := h.2
    refine z_iald hE rfl shk_25 hb ?_
    refine z_iload hE rfl rfl ?_
    refine z_icmp_ne hE rfl ⟨fun q => ?_, fun q => ?_⟩
    · have h := h.1 q
      have hb := h.1
      have h := h.2
      refine z_iinc hE rfl rfl rfl hb ?_
      refine z_goto hE rfl ?_
      exact h
    · have h := h.2 q
      refine z_iload hE rfl rfl ?_
      refine z_aload hE rfl rfl rfl ?_
      refine z_getR hE (q := 27) rfl shk_24 rfl rfl rfl ?_
      refine z_iload hE rfl rfl ?_
      have hb := h.1
      have h := h.2
      refine z_iald hE rfl shk_27 hb ?_
      have hb := h.1
      have h := h.2
      refine z_iadd hE rfl hb ?_
      refine z_istore hE rfl rfl rfl ?_
      have hb := h.1
      have h := h.2
      refine z_iinc hE rfl rfl rfl hb ?_
      refine z_goto hE rfl ?_
      exact h
/-! 72: ChildTrains$Lodging.solve(LChildTrains$Children;LChildTrains$Houses;LChildTrains$Hall;I)V -/
theorem mN_72 : mN 72 = 7 := by decide +kernel
theorem ee_72 {d : Nat} {Q : Ql} {a4 : Int} {M : Mm} (h : GoG false (EE d) cd_72 Q 0 [vR 33, vR 1, vR 24, vR 30, vI a4, vU, vU] [] M) : EE (d + 1) 72 [vR 33, vR 1, vR 24, vR 30, vI a4] M Q := by
  have e : cdTab 72 = cd_72 := rfl
  unfold EE; rw [mN_72, e]; exact ⟨Nat.le_of_ble_eq_true rfl, h⟩
theorem sg_72 {d : Nat} {P : Mm → Prop} {a4 : Int} {M : Mm} (h : EE d 73 [vR 33, vR 1, vR 30] (mset (mset M 33 7 a4) 33 5 (if 12 < (M 30 2) then 12 else (M 30 2))) (rV fun M1 => EE d 74 [vR 33, vR 24, vI a4] M1 (rV fun M2 => EE d 75 [vR 33] M2 (rI fun r3 M3 => EE d 76 [vR 33] M3 (rI fun r4 M4 => inI ((M4 33 5) - r3) ∧ ((¬ r4 = 0 → EE d 77 [vR 33, vI r3, vI r4] (mset M4 33 8 ((M4 33 5) - r3)) (rI fun r5 M5 => inI (r4 - r5) ∧ P (mset M5 33 9 (r4 - r5)))) ∧ (r4 = 0 → P (mset (mset M4 33 8 ((M4 33 5) - r3)) 33 9 0)))))))) : EE (d + 1) 72 [vR 33, vR 1, vR 24, vR 30, vI a4] M (rV P) := by
  have hE := EE_mono d
  refine ee_72 ?_
  refine z_aload hE rfl rfl rfl ?_
  refine z_iload hE rfl rfl ?_
  refine z_putI hE (sl := 7) rfl shk_33 rfl rfl rfl ?_
  refine z_aload hE rfl rfl rfl ?_
  refine z_aload hE rfl rfl rfl ?_
  refine z_getI hE (sl := 2) rfl shk_30 rfl rfl rfl ?_
  refine z_iconst hE rfl ?_
  refine z_min hE rfl (Nat.le_of_ble_eq_true rfl) ?_
  refine z_putI hE (sl := 5) rfl shk_33 rfl rfl rfl ?_
  refine z_aload hE rfl rfl rfl ?_
  refine z_aload hE rfl rfl rfl ?_
  refine z_aload hE rfl rfl rfl ?_
  refine z_callvV hE rfl rfl rfl rfl rfl (Nat.le_of_ble_eq_true rfl) (by decide) ⟨rfl, rfl⟩ (EE_mono d _ _ _ _ _ (rV_mono fun M1 h => ?_) h)
  refine z_aload hE rfl rfl rfl ?_
  refine z_aload hE rfl rfl rfl ?_
  refine z_iload hE rfl rfl ?_
  refine z_callvV hE rfl rfl rfl rfl rfl (Nat.le_of_ble_eq_true rfl) (by decide) ⟨rfl, rfl⟩ (EE_mono d _ _ _ _ _ (rV_mono fun M2 h => ?_) h)
  refine z_aload hE rfl rfl rfl ?_
  refine z_callvI hE rfl rfl rfl rfl rfl (Nat.le_of_ble_eq_true rfl) (by decide) ⟨rfl, rfl⟩ (EE_mono d _ _ _ _ _ (rI_mono fun r3 M3 h => ?_) h)
  refine z_istore hE rfl rfl rfl ?_
  refine z_aload hE rfl rfl rfl ?_
  refine z_callvI hE rfl rfl rfl rfl rfl (Nat.le_of_ble_eq_true rfl) (by decide) ⟨rfl, rfl⟩ (EE_mono d _ _ _ _ _ (rI_mono fun r4 M4 h => ?_) h)
  refine z_istore hE rfl rfl rfl ?_
  refine z_aload hE rfl rfl rfl ?_
  refine z_aload hE rfl rfl rfl ?_
  refine z_getI hE (sl := 5) rfl shk_33 rfl rfl rfl ?_
  refine z_iload hE rfl rfl ?_
  have hb := h.1
  have h := h.2
  refine z_isub hE rfl hb ?_
  refine z_putI hE (sl := 8) rfl shk_33 rfl rfl rfl ?_
  refine z_aload hE rfl rfl rfl ?_
  refine z_iload hE rfl rfl ?_
  refine z_if_ne hE rfl ⟨fun q => ?_, fun q => ?_⟩
  · have h := h.1 q
    refine z_iload hE rfl rfl ?_
    refine z_aload hE rfl rfl rfl ?_
    refine z_iload hE rfl rfl ?_
    refine z_iload hE rfl rfl ?_
    refine z_callvI hE rfl rfl rfl rfl rfl (Nat.le_of_ble_eq_true rfl) (by decide) ⟨rfl, rfl⟩ (EE_mono d _ _ _ _ _ (rI_mono fun r5 M5 h => ?_) h)
    have hb := h.1
    have h := h.2
    refine z_isub hE rfl hb ?_
    refine z_putI hE (sl := 9) rfl shk_33 rfl rfl rfl ?_
    exact z_vret hE rfl h
  · have h := h.2 q
    refine z_iconst hE rfl ?_
    refine z_goto hE rfl ?_
    refine z_putI hE (sl := 9) rfl shk_33 rfl rfl rfl ?_
    exact z_vret hE rfl h
/-! 73: ChildTrains$Lodging.noteChildren(LChildTrains$Children;LChildTrains$Hall;)V -/
def H_73_10 (d : Nat) (P : Mm → Prop) (a3 : Int) (M : Mm) : Prop := GoG false (EE d) cd_73 (rV P) 10 [vR 33, vR 1, vR 30, vI a3, vU] [] M
def H_73_49 (d : Nat) (P : Mm → Prop) (a3 : Int) (a4 : Int) (M : Mm) : Prop := GoG false (EE d) cd_73 (rV P) 49 [vR 33, vR 1, vR 30, vI a3, vI a4] [] M
theorem mN_73 : mN 73 = 5 := by decide +kernel
theorem ee_73 {d : Nat} {Q : Ql} {M : Mm} (h : GoG false (EE d) cd_73 Q 0 [vR 33, vR 1, vR 30, vU, vU] [] M) : EE (d + 1) 73 [vR 33, vR 1, vR 30] M Q := by
  have e : cdTab 73 = cd_73 := rfl
  unfold EE; rw [mN_73, e]; exact ⟨Nat.le_of_ble_eq_true rfl, h⟩
theorem sg_73 {d : Nat} {P : Mm → Prop} {M : Mm} (h : EE d 173 [vR 37, vI 0] M (rV fun M1 => H_73_10 d P 0 M1)) : EE (d + 1) 73 [vR 33, vR 1, vR 30] M (rV P) := by
  have hE := EE_mono d
  refine ee_73 ?_
  refine z_aload hE rfl rfl rfl ?_
  refine z_getR hE (q := 37) rfl shk_33 rfl rfl rfl ?_
  refine z_iconst hE rfl ?_
  refine z_callsV hE rfl rfl rfl rfl rfl (Nat.le_of_ble_eq_true rfl) (by decide) (EE_mono d _ _ _ _ _ (rV_mono fun M1 h => ?_) h)
  refine z_iconst hE rfl ?_
  refine z_istore hE rfl rfl rfl ?_
  exact h
theorem sg_73_10 {d : Nat} {P : Mm → Prop} {a3 : Int} {M : Mm} (h : (((M 33 5) ≤ a3 → P M) ∧ (a3 < (M 33 5) → (0 ≤ a3 ∧ a3 < 48) ∧ EE d 50 [vR 1, vI (M 31 a3)] M (rI fun r1 M1 => (0 ≤ r1 ∧ r1 < 4) ∧ (0 ≤ r1 ∧ r1 < 4) ∧ (0 ≤ a3 ∧ a3 < 12) ∧ H_73_49 d P a3 0 (mset (mset M1 37 r1 (zor (M1 37 r1) (zshl 1 a3))) 34 a3 0))))) : H_73_10 d P a3 M := by
  have hE := EE_mono d
  unfold H_73_10
  refine z_iload hE rfl rfl ?_
  refine z_aload hE rfl rfl rfl ?_
  refine z_getI hE (sl := 5) rfl shk_33 rfl rfl rfl ?_
  refine z_icmp_ge hE rfl ⟨fun q => ?_, fun q => ?_⟩
  · have h := h.1 q
    exact z_vret hE rfl h
  · have h := h.2 q
    refine z_aload hE rfl rfl rfl ?_
    refine z_getR hE (q := 37) rfl shk_33 rfl rfl rfl ?_
    refine z_aload hE rfl rfl rfl ?_
    refine z_aload hE rfl rfl rfl ?_
    refine z_getR hE (q := 31) rfl shk_30 rfl rfl rfl ?_
    refine z_iload hE rfl rfl ?_
    have hb := h.1
    have h := h.2
    refine z_iald hE rfl shk_31 hb ?_
    refine z_callvI hE rfl rfl rfl rfl rfl (Nat.le_of_ble_eq_true rfl) (by decide) ⟨rfl, rfl⟩ (EE_mono d _ _ _ _ _ (rI_mono fun r1 M1 h => ?_) h)
    refine z_dup2 hE rfl rfl rfl ?_
    have hb := h.1
    have h := h.2
    refine z_iald hE rfl shk_37 hb ?_
    refine z_iconst hE rfl ?_
    refine z_iload hE rfl rfl ?_
    refine z_ishl hE rfl ?_
    refine z_ior hE rfl ?_
    have hb := h.1
    have h := h.2
    refine z_iast hE rfl shk_37 hb ?_
    refine z_aload hE rfl rfl rfl ?_
    refine z_getR hE (q := 34) rfl shk_33 rfl rfl rfl ?_
    refine z_iload hE rfl rfl ?_
    refine z_iconst hE rfl ?_
    have hb := h.1
    have h := h.2
    refine z_iast hE rfl shk_34 hb ?_
    refine z_iconst hE rfl ?_
    refine z_istore hE rfl rfl rfl ?_
    exact h
theorem sg_73_49 {d : Nat} {P : Mm → Prop} {a3 : Int} {a4 : Int} {M : Mm} (h : (((M 33 5) ≤ a4 → inI (a3 + 1) ∧ H_73_10 d P (a3 + 1) M) ∧ (a4 < (M 33 5) → (0 ≤ a3 ∧ a3 < 48) ∧ (0 ≤ a4 ∧ a4 < 48) ∧ EE d 52 [vR 1, vI (M 31 a3), vI (M 31 a4)] M (rI fun r1 M1 => ((r1 = 0 → inI (a4 + 1) ∧ H_73_49 d P a3 (a4 + 1) M1) ∧ (¬ r1 = 0 → (0 ≤ a3 ∧ a3 < 12) ∧ (0 ≤ a3 ∧ a3 < 12) ∧ inI (a4 + 1) ∧ H_73_49 d P a3 (a4 + 1) (mset M1 34 a3 (zor (M1 34 a3) (zshl 1 a4))))))))) : H_73_49 d P a3 a4 M := by
  have hE := EE_mono d
  unfold H_73_49
  refine z_iload hE rfl rfl ?_
  refine z_aload hE rfl rfl rfl ?_
  refine z_getI hE (sl := 5) rfl shk_33 rfl rfl rfl ?_
  refine z_icmp_ge hE rfl ⟨fun q => ?_, fun q => ?_⟩
  · have h := h.1 q
    have hb := h.1
    have h := h.2
    refine z_iinc hE rfl rfl rfl hb ?_
    refine z_goto hE rfl ?_
    exact GoG.weak hE (ls := [vR 33, vR 1, vR 30, vI (a3 + 1), vU]) ⟨Or.inl rfl, Or.inl rfl, Or.inl rfl, Or.inl rfl, Or.inr ⟨rfl, _, rfl⟩, trivial⟩ h
  · have h := h.2 q
    refine z_aload hE rfl rfl rfl ?_
    refine z_aload hE rfl rfl rfl ?_
    refine z_getR hE (q := 31) rfl shk_30 rfl rfl rfl ?_
    refine z_iload hE rfl rfl ?_
    have hb := h.1
    have h := h.2
    refine z_iald hE rfl shk_31 hb ?_
    refine z_aload hE rfl rfl rfl ?_
    refine z_getR hE (q := 31) rfl shk_30 rfl rfl rfl ?_
    refine z_iload hE rfl rfl ?_
    have hb := h.1
    have h := h.2
    refine z_iald hE rfl shk_31 hb ?_
    refine z_callvI hE rfl rfl rfl rfl rfl (Nat.le_of_ble_eq_true rfl) (by decide) ⟨rfl, rfl⟩ (EE_mono d _ _ _ _ _ (rI_mono fun r1 M1 h => ?_) h)
    refine z_if_eq hE rfl ⟨fun q => ?_, fun q => ?_⟩
    · have h := h.1 q
      have hb := h.1
      have h := h.2
      refine z_iinc hE rfl rfl rfl hb ?_
      refine z_goto hE rfl ?_
      exact h
    · have h := h.2 q
      refine z_aload hE rfl rfl rfl ?_
      refine z_getR hE (q := 34) rfl shk_33 rfl rfl rfl ?_
      refine z_iload hE rfl rfl ?_
      refine z_dup2 hE rfl rfl rfl ?_
      have hb := h.1
      have h := h.2
      refine z_iald hE rfl shk_34 hb ?_
      refine z_iconst hE rfl ?_
      refine z_iload hE rfl rfl ?_
      refine z_ishl hE rfl ?_
      refine z_ior hE rfl ?_
      have hb := h.1
      have h := h.2
      refine z_iast hE rfl shk_34 hb ?_
      have hb := h.1
      have h := h.2
      refine z_iinc hE rfl rfl rfl hb ?_
      refine z_goto hE rfl ?_
      exact h
/-! 74: ChildTrains$Lodging.noteHouses(LChildTrains$Houses;I)V -/
def H_74_7 (d : Nat) (P : Mm → Prop) (a2 : Int) (a3 : Int) (M : Mm) : Prop := GoG false (EE d) cd_74 (rV P) 7 [vR 33, vR 24, vI a2, vI a3, vU] [] M
def H_74_62 (d : Nat) (P : Mm → Prop) (a2 : Int) (a3 : Int) (a4 : Int) (M : Mm) : Prop := GoG false (EE d) cd_74 (rV P) 62 [vR 33, vR 24, vI a2, vI a3, vI a4] [] M
theorem mN_74 : mN 74 = 5 := by decide +kernel
theorem ee_74 {d : Nat} {Q : Ql} {a2 : Int} {M : Mm} (h : GoG false (EE d) cd_74 Q 0 [vR 33, vR 24, vI a2, vU, vU] [] M) : EE (d + 1) 74 [vR 33, vR 24, vI a2] M Q := by
  have e : cdTab 74 = cd_74 := rfl
  unfold EE; rw [mN_74, e]; exact ⟨Nat.le_of_ble_eq_true rfl, h⟩
theorem sg_74 {d : Nat} {P : Mm → Prop} {a2 : Int} {M : Mm} (h : H_74_7 d P a2 0 (mset M 33 6 0)) : EE (d + 1) 74 [vR 33, vR 24, vI a2] M (rV P) := by
  have hE := EE_mono d
  refine ee_74 ?_
  refine z_aload hE rfl rfl rfl ?_
  refine z_iconst hE rfl ?_
  refine z_putI hE (sl := 6) rfl shk_33 rfl rfl rfl ?_
  refine z_iconst hE rfl ?_
  refine z_istore hE rfl rfl rfl ?_
  exact h
theorem sg_74_7 {d : Nat} {P : Mm → Prop} {a2 : Int} {a3 : Int} {M : Mm} (h : (((M 24 5) ≤ a3 → P M) ∧ (a3 < (M 24 5) → ((6 ≤ (M 33 6) → P M) ∧ ((M 33 6) < 6 → (0 ≤ a3 ∧ a3 < 24) ∧ ((¬ (M 25 a3) = a2 → inI (a3 + 1) ∧ H_74_7 d P a2 (a3 + 1) M) ∧ ((M 25 a3) = a2 → (0 ≤ a3 ∧ a3 < 24) ∧ (0 ≤ (M 33 6) ∧ (M 33 6) < 6) ∧ (0 ≤ (M 33 6) ∧ (M 33 6) < 6) ∧ H_74_62 d P a2 a3 0 (mset (mset M 36 (M 33 6) (M 27 a3)) 35 (M 33 6) 0)))))))) : H_74_7 d P a2 a3 M := by
  have hE := EE_mono d
  unfold H_74_7
  refine z_iload hE rfl rfl ?_
  refine z_aload hE rfl rfl rfl ?_
  refine z_getI hE (sl := 5) rfl shk_24 rfl rfl rfl ?_
  refine z_icmp_ge hE rfl ⟨fun q => ?_, fun q => ?_⟩
  · have h := h.1 q
    exact z_vret hE rfl h
  · have h := h.2 q
    refine z_aload hE rfl rfl rfl ?_
    refine z_getI hE (sl := 6) rfl shk_33 rfl rfl rfl ?_
    refine z_iconst hE rfl ?_
    refine z_icmp_ge hE rfl ⟨fun q => ?_, fun q => ?_⟩
    · have h := h.1 q
      exact z_vret hE rfl h
    · have h := h.2 q
      refine z_aload hE rfl rfl rfl ?_
      refine z_getR hE (q := 25) rfl shk_24 rfl rfl rfl ?_
      refine z_iload hE rfl rfl ?_
      have hb := h.1
      have h := h.2
      refine z_iald hE rfl shk_25 hb ?_
      refine z_iload hE rfl rfl ?_
      refine z_icmp_ne hE rfl ⟨fun q => ?_, fun q => ?_⟩
      · have h := h.1 q
        have hb := h.1
        have h := h.2
        refine z_iinc hE rfl rfl rfl hb ?_
        refine z_goto hE rfl ?_
        exact h
      · have h := h.2 q
        refine z_aload hE rfl rfl rfl ?_
        refine z_getR hE (q := 36) rfl shk_33 rfl rfl rfl ?_
        refine z_aload hE rfl rfl rfl ?_
        refine z_getI hE (sl := 6) rfl shk_33 rfl rfl rfl ?_
        refine z_aload hE rfl rfl rfl ?_
        refine z_getR hE (q := 27) rfl shk_24 rfl rfl rfl ?_
        refine z_iload hE rfl rfl ?_
        have hb := h.1
        have h := h.2
        refine z_iald hE rfl shk_27 hb ?_
        have hb := h.1
        have h := h.2
        refine z_iast hE rfl shk_36 hb ?_
        refine z_aload hE rfl rfl rfl ?_
        refine z_getR hE (q := 35) rfl shk_33 rfl rfl rfl ?_
        refine z_aload hE rfl rfl rfl ?_
        refine z_getI hE (sl := 6) rfl shk_33 rfl rfl rfl ?_
        refine z_iconst hE rfl ?_
        have hb := h.1
        have h := h.2
        refine z_iast hE rfl shk_35 hb ?_
        refine z_iconst hE rfl ?_
        refine z_istore hE rfl rfl rfl ?_
        exact h
theorem sg_74_62 {d : Nat} {P : Mm → Prop} {a2 : Int} {a3 : Int} {a4 : Int} {M : Mm} (h : ((4 ≤ a4 → inI ((M 33 6) + 1) ∧ inI (a3 + 1) ∧ H_74_7 d P a2 (a3 + 1) (mset M 33 6 ((M 33 6) + 1))) ∧ (a4 < 4 → (0 ≤ (M 33 6) ∧ (M 33 6) < 6) ∧ EE d 69 [vR 24, vI a3, vI a4] M (rI fun r1 M1 => ((r1 = 0 → (0 ≤ (M 33 6) ∧ (M 33 6) < 6) ∧ inI (a4 + 1) ∧ H_74_62 d P a2 a3 (a4 + 1) (mset M1 35 (M 33 6) (zor (M 35 (M 33 6)) 0))) ∧ (¬ r1 = 0 → (0 ≤ a4 ∧ a4 < 4) ∧ (0 ≤ (M 33 6) ∧ (M 33 6) < 6) ∧ inI (a4 + 1) ∧ H_74_62 d P a2 a3 (a4 + 1) (mset M1 35 (M 33 6) (zor (M 35 (M 33 6)) (M1 37 a4))))))))) : H_74_62 d P a2 a3 a4 M := by
  have hE := EE_mono d
  unfold H_74_62
  refine z_iload hE rfl rfl ?_
  refine z_iconst hE rfl ?_
  refine z_icmp_ge hE rfl ⟨fun q => ?_, fun q => ?_⟩
  · have h := h.1 q
    refine z_aload hE rfl rfl rfl ?_
    refine z_dup hE rfl rfl ?_
    refine z_getI hE (sl := 6) rfl shk_33 rfl rfl rfl ?_
    refine z_iconst hE rfl ?_
    have hb := h.1
    have h := h.2
    refine z_iadd hE rfl hb ?_
    refine z_putI hE (sl := 6) rfl shk_33 rfl rfl rfl ?_
    have hb := h.1
    have h := h.2
    refine z_iinc hE rfl rfl rfl hb ?_
    refine z_goto hE rfl ?_
    exact GoG.weak hE (ls := [vR 33, vR 24, vI a2, vI (a3 + 1), vU]) ⟨Or.inl rfl, Or.inl rfl, Or.inl rfl, Or.inl rfl, Or.inr ⟨rfl, _, rfl⟩, trivial⟩ h
  · have h := h.2 q
    refine z_aload hE rfl rfl rfl ?_
    refine z_getR hE (q := 35) rfl shk_33 rfl rfl rfl ?_
    refine z_aload hE rfl rfl rfl ?_
    refine z_getI hE (sl := 6) rfl shk_33 rfl rfl rfl ?_
    refine z_dup2 hE rfl rfl rfl ?_
    have hb := h.1
    have h := h.2
    refine z_iald hE rfl shk_35 hb ?_
    refine z_aload hE rfl rfl rfl ?_
    refine z_iload hE rfl rfl ?_
    refine z_iload hE rfl rfl ?_
    refine z_callvI hE rfl rfl rfl rfl rfl (Nat.le_of_ble_eq_true rfl) (by decide) ⟨rfl, rfl⟩ (EE_mono d _ _ _ _ _ (rI_mono fun r1 M1 h => ?_) h)
    refine z_if_eq hE rfl ⟨fun q => ?_, fun q => ?_⟩
    · have h := h.1 q
      refine z_iconst hE rfl ?_
      refine z_ior hE rfl ?_
      have hb := h.1
      have h := h.2
      refine z_iast hE rfl shk_35 hb ?_
      have hb := h.1
      have h := h.2
      refine z_iinc hE rfl rfl rfl hb ?_
      refine z_goto hE rfl ?_
      exact h
    · have h := h.2 q
      refine z_aload hE rfl rfl rfl ?_
      refine z_getR hE (q := 37) rfl shk_33 rfl rfl rfl ?_
      refine z_iload hE rfl rfl ?_
      have hb := h.1
      have h := h.2
      refine z_iald hE rfl shk_37 hb ?_
      refine z_goto hE rfl ?_
      refine z_ior hE rfl ?_
      have hb := h.1
      have h := h.2
      refine z_iast hE rfl shk_35 hb ?_
      have hb := h.1
      have h := h.2
      refine z_iinc hE rfl rfl rfl hb ?_
      refine z_goto hE rfl ?_
      exact h
/-! 75: ChildTrains$Lodging.mostLodged()I -/
def H_75_7 (d : Nat) (P : Int → Mm → Prop) (a1 : Int) (a2 : Int) (M : Mm) : Prop := GoG false (EE d) cd_75 (rI P) 7 [vR 33, vI a1, vI a2, vU, vU, vU] [] M
def H_75_18 (d : Nat) (P : Int → Mm → Prop) (a1 : Int) (a2 : Int) (a3 : Int) (a4 : Int) (M : Mm) : Prop := GoG false (EE d) cd_75 (rI P) 18 [vR 33, vI a1, vI a2, vI a3, vI a4, vU] [] M
def H_75_68 (d : Nat) (P : Int → Mm → Prop) (a1 : Int) (a2 : Int) (a3 : Int) (a4 : Int) (a5 : Int) (M : Mm) : Prop := GoG false (EE d) cd_75 (rI P) 68 [vR 33, vI a1, vI a2, vI a3, vI a4, vI a5] [] M
theorem mN_75 : mN 75 = 6 := by decide +kernel
theorem ee_75 {d : Nat} {Q : Ql} {M : Mm} (h : GoG false (EE d) cd_75 Q 0 [vR 33, vU, vU, vU, vU, vU] [] M) : EE (d + 1) 75 [vR 33] M Q := by
  have e : cdTab 75 = cd_75 := rfl
  unfold EE; rw [mN_75, e]; exact ⟨Nat.le_of_ble_eq_true rfl, h⟩
theorem sg_75 {d : Nat} {P : Int → Mm → Prop} {M : Mm} (h : H_75_7 d P (M 33 5) 0 M) : EE (d + 1) 75 [vR 33] M (rI P) := by
  have hE := EE_mono d
  refine ee_75 ?_
  refine z_aload hE rfl rfl rfl ?_
  refine z_getI hE (sl := 5) rfl shk_33 rfl rfl rfl ?_
  refine z_istore hE rfl rfl rfl ?_
  refine z_iconst hE rfl ?_
  refine z_istore hE rfl rfl rfl ?_
  exact h
theorem sg_75_7 {d : Nat} {P : Int → Mm → Prop} {a1 : Int} {a2 : Int} {M : Mm} (h : ((16 ≤ a2 → P a1 M) ∧ (a2 < 16 → H_75_18 d P a1 a2 0 0 M))) : H_75_7 d P a1 a2 M := by
  have hE := EE_mono d
  unfold H_75_7
  refine z_iload hE rfl rfl ?_
  refine z_iconst hE rfl ?_
  refine z_icmp_ge hE rfl ⟨fun q => ?_, fun q => ?_⟩
  · have h := h.1 q
    refine z_iload hE rfl rfl ?_
    exact z_iret hE rfl rfl h
  · have h := h.2 q
    refine z_iconst hE rfl ?_
    refine z_istore hE rfl rfl rfl ?_
    refine z_iconst hE rfl ?_
    refine z_istore hE rfl rfl rfl ?_
    exact h
theorem sg_75_18 {d : Nat} {P : Int → Mm → Prop} {a1 : Int} {a2 : Int} {a3 : Int} {a4 : Int} {M : Mm} (h : ((4 ≤ a4 → EE d 174 [vI a3] M (rI fun r1 M1 => inI ((M 33 5) - r1) ∧ H_75_68 d P a1 a2 a3 ((M 33 5) - r1) 0 M1)) ∧ (a4 < 4 → ((¬ (zand (zshr a2 a4) 1) = 1 → inI (a4 + 1) ∧ H_75_18 d P a1 a2 (zor a3 0) (a4 + 1) M) ∧ ((zand (zshr a2 a4) 1) = 1 → (0 ≤ a4 ∧ a4 < 4) ∧ inI (a4 + 1) ∧ H_75_18 d P a1 a2 (zor a3 (M 37 a4)) (a4 + 1) M))))) : H_75_18 d P a1 a2 a3 a4 M := by
  have hE := EE_mono d
  unfold H_75_18
  refine z_iload hE rfl rfl ?_
  refine z_iconst hE rfl ?_
  refine z_icmp_ge hE rfl ⟨fun q => ?_, fun q => ?_⟩
  · have h := h.1 q
    refine z_aload hE rfl rfl rfl ?_
    refine z_getI hE (sl := 5) rfl shk_33 rfl rfl rfl ?_
    refine z_iload hE rfl rfl ?_
    refine z_callsI hE rfl rfl rfl rfl rfl (Nat.le_of_ble_eq_true rfl) (by decide) (EE_mono d _ _ _ _ _ (rI_mono fun r1 M1 h => ?_) h)
    have hb := h.1
    have h := h.2
    refine z_isub hE rfl hb ?_
    refine z_istore hE rfl rfl rfl ?_
    refine z_iconst hE rfl ?_
    refine z_istore hE rfl rfl rfl ?_
    exact h
  · have h := h.2 q
    refine z_iload hE rfl rfl ?_
    refine z_iload hE rfl rfl ?_
    refine z_iload hE rfl rfl ?_
    refine z_ishr hE rfl ?_
    refine z_iconst hE rfl ?_
    refine z_iand hE rfl ?_
    refine z_iconst hE rfl ?_
    refine z_icmp_ne hE rfl ⟨fun q => ?_, fun q => ?_⟩
    · have h := h.1 q
      refine z_iconst hE rfl ?_
      refine z_ior hE rfl ?_
      refine z_istore hE rfl rfl rfl ?_
      have hb := h.1
      have h := h.2
      refine z_iinc hE rfl rfl rfl hb ?_
      refine z_goto hE rfl ?_
      exact h
    · have h := h.2 q
      refine z_aload hE rfl rfl rfl ?_
      refine z_getR hE (q := 37) rfl shk_33 rfl rfl rfl ?_
      refine z_iload hE rfl rfl ?_
      have hb := h.1
      have h := h.2
      refine z_iald hE rfl shk_37 hb ?_
      refine z_goto hE rfl ?_
      refine z_ior hE rfl ?_
      refine z_istore hE rfl rfl rfl ?_
      have hb := h.1
      have h := h.2
      refine z_iinc hE rfl rfl rfl hb ?_
      refine z_goto hE rfl ?_
      exact h
theorem sg_75_68 {d : Nat} {P : Int → Mm → Prop} {a1 : Int} {a2 : Int} {a3 : Int} {a4 : Int} {a5 : Int} {M : Mm} (h : (((M 33 6) ≤ a5 → inI (a2 + 1) ∧ H_75_7 d P (if a4 < a1 then a4 else a1) (a2 + 1) M) ∧ (a5 < (M 33 6) → (0 ≤ a5 ∧ a5 < 6) ∧ (((zand (M 35 a5) a3) = 0 → inI (a4 + 0) ∧ inI (a5 + 1) ∧ H_75_68 d P a1 a2 a3 (a4 + 0) (a5 + 1) M) ∧ (¬ (zand (M 35 a5) a3) = 0 → (0 ≤ a5 ∧ a5 < 6) ∧ inI (a4 + (M 36 a5)) ∧ inI (a5 + 1) ∧ H_75_68 d P a1 a2 a3 (a4 + (M 36 a5)) (a5 + 1) M))))) : H_75_68 d P a1 a2 a3 a4 a5 M := by
  have hE := EE_mono d
  unfold H_75_68
  refine z_iload hE rfl rfl ?_
  refine z_aload hE rfl rfl rfl ?_
  refine z_getI hE (sl := 6) rfl shk_33 rfl rfl rfl ?_
  refine z_icmp_ge hE rfl ⟨fun q => ?_, fun q => ?_⟩
  · have h := h.1 q
    refine z_iload hE rfl rfl ?_
    refine z_iload hE rfl rfl ?_
    refine z_min hE rfl (Nat.le_of_ble_eq_true rfl) ?_
    refine z_istore hE rfl rfl rfl ?_
    have hb := h.1
    have h := h.2
    refine z_iinc hE rfl rfl rfl hb ?_
    refine z_goto hE rfl ?_
    exact GoG.weak hE (ls := [vR 33, vI (if a4 < a1 then a4 else a1), vI (a2 + 1), vU, vU, vU]) ⟨Or.inl rfl, Or.inl rfl, Or.inl rfl, Or.inr ⟨rfl, _, rfl⟩, Or.inr ⟨rfl, _, rfl⟩, Or.inr ⟨rfl, _, rfl⟩, trivial⟩ h
  · have h := h.2 q
    refine z_iload hE rfl rfl ?_
    refine z_aload hE rfl rfl rfl ?_
    refine z_getR hE (q := 35) rfl shk_33 rfl rfl rfl ?_
    refine z_iload hE rfl rfl ?_
    have hb := h.1
    have h := h.2
    refine z_iald hE rfl shk_35 hb ?_
    refine z_iload hE rfl rfl ?_
    refine z_iand hE rfl ?_
    refine z_if_eq hE rfl ⟨fun q => ?_, fun q => ?_⟩
    · have h := h.1 q
      refine z_iconst hE rfl ?_
      have hb := h.1
      have h := h.2
      refine z_iadd hE rfl hb ?_
      refine z_istore hE rfl rfl rfl ?_
      have hb := h.1
      have h := h.2
      refine z_iinc hE rfl rfl rfl hb ?_
      refine z_goto hE rfl ?_
      exact h
    · have h := h.2 q
      refine z_aload hE rfl rfl rfl ?_
      refine z_getR hE (q := 36) rfl shk_33 rfl rfl rfl ?_
      refine z_iload hE rfl rfl ?_
      have hb := h.1
      have h := h.2
      refine z_iald hE rfl shk_36 hb ?_
      refine z_goto hE rfl ?_
      have hb := h.1
      have h := h.2
      refine z_iadd hE rfl hb ?_
      refine z_istore hE rfl rfl rfl ?_
      have hb := h.1
      have h := h.2
      refine z_iinc hE rfl rfl rfl hb ?_
      refine z_goto hE rfl ?_
      exact h
/-! 76: ChildTrains$Lodging.countPairs()I -/
def H_76_4 (d : Nat) (P : Int → Mm → Prop) (a1 : Int) (a2 : Int) (M : Mm) : Prop := GoG false (EE d) cd_76 (rI P) 4 [vR 33, vI a1, vI a2] [] M
theorem mN_76 : mN 76 = 3 := by decide +kernel
theorem ee_76 {d : Nat} {Q : Ql} {M : Mm} (h : GoG false (EE d) cd_76 Q 0 [vR 33, vU, vU] [] M) : EE (d + 1) 76 [vR 33] M Q := by
  have e : cdTab 76 = cd_76 := rfl
  unfold EE; rw [mN_76, e]; exact ⟨Nat.le_of_ble_eq_true rfl, h⟩
theorem sg_76 {d : Nat} {P : Int → Mm → Prop} {M : Mm} (h : H_76_4 d P 0 0 M) : EE (d + 1) 76 [vR 33] M (rI P) := by
  have hE := EE_mono d
  refine ee_76 ?_
  refine z_iconst hE rfl ?_
  refine z_istore hE rfl rfl rfl ?_
  refine z_iconst hE rfl ?_
  refine z_istore hE rfl rfl rfl ?_
  exact h
theorem sg_76_4 {d : Nat} {P : Int → Mm → Prop} {a1 : Int} {a2 : Int} {M : Mm} (h : (((M 33 5) ≤ a2 → (0 ≤ a1 ∧ a1 ≤ 2147483647 ∧ (0 : Int) < 2) ∧ P (a1 / 2) M) ∧ (a2 < (M 33 5) → (0 ≤ a2 ∧ a2 < 12) ∧ EE d 174 [vI (M 34 a2)] M (rI fun r1 M1 => inI (a1 + r1) ∧ inI (a2 + 1) ∧ H_76_4 d P (a1 + r1) (a2 + 1) M1)))) : H_76_4 d P a1 a2 M := by
  have hE := EE_mono d
  unfold H_76_4
  refine z_iload hE rfl rfl ?_
  refine z_aload hE rfl rfl rfl ?_
  refine z_getI hE (sl := 5) rfl shk_33 rfl rfl rfl ?_
  refine z_icmp_ge hE rfl ⟨fun q => ?_, fun q => ?_⟩
  · have h := h.1 q
    refine z_iload hE rfl rfl ?_
    refine z_iconst hE rfl ?_
    have hb := h.1
    have h := h.2
    refine z_idiv hE rfl hb ?_
    exact z_iret hE rfl rfl h
  · have h := h.2 q
    refine z_iload hE rfl rfl ?_
    refine z_aload hE rfl rfl rfl ?_
    refine z_getR hE (q := 34) rfl shk_33 rfl rfl rfl ?_
    refine z_iload hE rfl rfl ?_
    have hb := h.1
    have h := h.2
    refine z_iald hE rfl shk_34 hb ?_
    refine z_callsI hE rfl rfl rfl rfl rfl (Nat.le_of_ble_eq_true rfl) (by decide) (EE_mono d _ _ _ _ _ (rI_mono fun r1 M1 h => ?_) h)
    have hb := h.1
    have h := h.2
    refine z_iadd hE rfl hb ?_
    refine z_istore hE rfl rfl rfl ?_
    have hb := h.1
    have h := h.2
    refine z_iinc hE rfl rfl rfl hb ?_
    refine z_goto hE rfl ?_
    exact h
/-! 77: ChildTrains$Lodging.mostTogether(II)I -/
def H_77_32 (d : Nat) (P : Int → Mm → Prop) (a1 : Int) (a2 : Int) (a3 : Int) (a4 : Int) (a5 : Int) (a6 : Int) (M : Mm) : Prop := GoG false (EE d) cd_77 (rI P) 32 [vR 33, vI a1, vI a2, vI a3, vI a4, vI a5, vI a6, vU, vU] [] M
def H_77_62 (d : Nat) (P : Int → Mm → Prop) (a1 : Int) (a2 : Int) (a3 : Int) (a4 : Int) (a5 : Int) (a6 : Int) (M : Mm) : Prop := GoG false (EE d) cd_77 (rI P) 62 [vR 33, vI a1, vI a2, vI a3, vI a4, vI a5, vI a6, vU, vU] [] M
def H_77_100 (d : Nat) (P : Int → Mm → Prop) (a1 : Int) (a2 : Int) (a3 : Int) (a4 : Int) (a5 : Int) (a6 : Int) (a7 : Int) (M : Mm) : Prop := GoG false (EE d) cd_77 (rI P) 100 [vR 33, vI a1, vI a2, vI a3, vI a4, vI a5, vI a6, vI a7, vU] [] M
def H_77_201 (d : Nat) (P : Int → Mm → Prop) (a1 : Int) (a3 : Int) (a6 : Int) (a7 : Int) (M : Mm) : Prop := GoG false (EE d) cd_77 (rI P) 201 [vR 33, vI a1, vU, vI a3, vU, vU, vI a6, vI a7, vU] [] M
theorem mN_77 : mN 77 = 9 := by decide +kernel
theorem ee_77 {d : Nat} {Q : Ql} {a1 : Int} {a2 : Int} {M : Mm} (h : GoG false (EE d) cd_77 Q 0 [vR 33, vI a1, vI a2, vU, vU, vU, vU, vU, vU] [] M) : EE (d + 1) 77 [vR 33, vI a1, vI a2] M Q := by
  have e : cdTab 77 = cd_77 := rfl
  unfold EE; rw [mN_77, e]; exact ⟨Nat.le_of_ble_eq_true rfl, h⟩
theorem sg_77 {d : Nat} {P : Int → Mm → Prop} {a1 : Int} {a2 : Int} {M : Mm} (h : EE d 173 [vR 38, vI (-9)] M (rV fun M1 => H_77_32 d P a1 a2 (zshl 1 (M 33 5)) 0 0 0 (mset M1 38 0 0))) : EE (d + 1) 77 [vR 33, vI a1, vI a2] M (rI P) := by
  have hE := EE_mono d
  refine ee_77 ?_
  refine z_iconst hE rfl ?_
  refine z_aload hE rfl rfl rfl ?_
  refine z_getI hE (sl := 5) rfl shk_33 rfl rfl rfl ?_
  refine z_ishl hE rfl ?_
  refine z_istore hE rfl rfl rfl ?_
  refine z_aload hE rfl rfl rfl ?_
  refine z_getR hE (q := 38) rfl shk_33 rfl rfl rfl ?_
  refine z_iconst hE rfl ?_
  refine z_callsV hE rfl rfl rfl rfl rfl (Nat.le_of_ble_eq_true rfl) (by decide) (EE_mono d _ _ _ _ _ (rV_mono fun M1 h => ?_) h)
  refine z_aload hE rfl rfl rfl ?_
  refine z_getR hE (q := 38) rfl shk_33 rfl rfl rfl ?_
  refine z_iconst hE rfl ?_
  refine z_iconst hE rfl ?_
  have hb : (0 : Int) ≤ 0 ∧ (0 : Int) < 4096 := by decide
  refine z_iast hE rfl shk_38 hb ?_
  refine z_iconst hE rfl ?_
  refine z_istore hE rfl rfl rfl ?_
  refine z_iconst hE rfl ?_
  refine z_istore hE rfl rfl rfl ?_
  refine z_iconst hE rfl ?_
  refine z_istore hE rfl rfl rfl ?_
  exact h
theorem sg_77_32 {d : Nat} {P : Int → Mm → Prop} {a1 : Int} {a2 : Int} {a3 : Int} {a4 : Int} {a5 : Int} {a6 : Int} {M : Mm} (h : (((M 33 6) ≤ a6 → H_77_62 d P a1 a2 a3 a4 a5 0 M) ∧ (a6 < (M 33 6) → (0 ≤ a6 ∧ a6 < 6) ∧ inI (a5 + (M 36 a6)) ∧ inI (a6 + 1) ∧ H_77_32 d P a1 a2 a3 a4 (a5 + (M 36 a6)) (a6 + 1) M))) : H_77_32 d P a1 a2 a3 a4 a5 a6 M := by
  have hE := EE_mono d
  unfold H_77_32
  refine z_iload hE rfl rfl ?_
  refine z_aload hE rfl rfl rfl ?_
  refine z_getI hE (sl := 6) rfl shk_33 rfl rfl rfl ?_
  refine z_icmp_ge hE rfl ⟨fun q => ?_, fun q => ?_⟩
  · have h := h.1 q
    refine z_iconst hE rfl ?_
    refine z_istore hE rfl rfl rfl ?_
    exact h
  · have h := h.2 q
    refine z_iload hE rfl rfl ?_
    refine z_aload hE rfl rfl rfl ?_
    refine z_getR hE (q := 36) rfl shk_33 rfl rfl rfl ?_
    refine z_iload hE rfl rfl ?_
    have hb := h.1
    have h := h.2
    refine z_iald hE rfl shk_36 hb ?_
    have hb := h.1
    have h := h.2
    refine z_iadd hE rfl hb ?_
    refine z_istore hE rfl rfl rfl ?_
    have hb := h.1
    have h := h.2
    refine z_iinc hE rfl rfl rfl hb ?_
    refine z_goto hE rfl ?_
    exact h
theorem sg_77_62 {d : Nat} {P : Int → Mm → Prop} {a1 : Int} {a2 : Int} {a3 : Int} {a4 : Int} {a5 : Int} {a6 : Int} {M : Mm} (h : (((M 33 6) ≤ a6 → H_77_201 d P a1 a3 0 0 M) ∧ (a6 < (M 33 6) → (0 ≤ a6 ∧ a6 < 6) ∧ inI (a4 + (M 36 a6)) ∧ (0 ≤ a6 ∧ a6 < 6) ∧ inI (a5 - (M 36 a6)) ∧ inI (a3 - 1) ∧ H_77_100 d P a1 a2 a3 (a4 + (M 36 a6)) (a5 - (M 36 a6)) a6 (a3 - 1) M))) : H_77_62 d P a1 a2 a3 a4 a5 a6 M := by
  have hE := EE_mono d
  unfold H_77_62
  refine z_iload hE rfl rfl ?_
  refine z_aload hE rfl rfl rfl ?_
  refine z_getI hE (sl := 6) rfl shk_33 rfl rfl rfl ?_
  refine z_icmp_ge hE rfl ⟨fun q => ?_, fun q => ?_⟩
  · have h := h.1 q
    refine z_iconst hE rfl ?_
    refine z_istore hE rfl rfl rfl ?_
    refine z_iconst hE rfl ?_
    refine z_istore hE rfl rfl rfl ?_
    exact GoG.weak hE (ls := [vR 33, vI a1, vU, vI a3, vU, vU, vI 0, vI 0, vU]) ⟨Or.inl rfl, Or.inl rfl, Or.inr ⟨rfl, _, rfl⟩, Or.inl rfl, Or.inr ⟨rfl, _, rfl⟩, Or.inr ⟨rfl, _, rfl⟩, Or.inl rfl, Or.inl rfl, Or.inl rfl, trivial⟩ h
  · have h := h.2 q
    refine z_iload hE rfl rfl ?_
    refine z_aload hE rfl rfl rfl ?_
    refine z_getR hE (q := 36) rfl shk_33 rfl rfl rfl ?_
    refine z_iload hE rfl rfl ?_
    have hb := h.1
    have h := h.2
    refine z_iald hE rfl shk_36 hb ?_
    have hb := h.1
    have h := h.2
    refine z_iadd hE rfl hb ?_
    refine z_istore hE rfl rfl rfl ?_
    refine z_iload hE rfl rfl ?_
    refine z_aload hE rfl rfl rfl ?_
    refine z_getR hE (q := 36) rfl shk_33 rfl rfl rfl ?_
    refine z_iload hE rfl rfl ?_
    have hb := h.1
    have h := h.2
    refine z_iald hE rfl shk_36 hb ?_
    have hb := h.1
    have h := h.2
    refine z_isub hE rfl hb ?_
    refine z_istore hE rfl rfl rfl ?_
    refine z_iload hE rfl rfl ?_
    refine z_iconst hE rfl ?_
    have hb := h.1
    have h := h.2
    refine z_isub hE rfl hb ?_
    refine z_istore hE rfl rfl rfl ?_
    exact h
theorem sg_77_100 {d : Nat} {P : Int → Mm → Prop} {a1 : Int} {a2 : Int} {a3 : Int} {a4 : Int} {a5 : Int} {a6 : Int} {a7 : Int} {M : Mm} (h : ((a7 ≤ 0 → inI (a6 + 1) ∧ H_77_62 d P a1 a2 a3 a4 a5 (a6 + 1) M) ∧ (0 < a7 → EE d 174 [vI a7] M (rI fun r1 M1 => (((if a1 < a4 then a1 else a4) < r1 → inI (a7 + -1) ∧ H_77_100 d P a1 a2 a3 a4 a5 a6 (a7 + -1) M1) ∧ (r1 ≤ (if a1 < a4 then a1 else a4) → inI (r1 + a5) ∧ (((r1 + a5) < a1 → inI (a7 + -1) ∧ H_77_100 d P a1 a2 a3 a4 a5 a6 (a7 + -1) M1) ∧ (a1 ≤ (r1 + a5) → (0 ≤ a6 ∧ a6 < 6) ∧ (0 ≤ a6 ∧ a6 < 6) ∧ EE d 78 [vR 33, vI a7, vI (zand a7 (M1 35 a6)), vI 0, vI 0, vI (M1 36 a6)] M1 (rI fun r2 M2 => (0 ≤ a7 ∧ a7 < 4096) ∧ ((¬ r1 = a1 → inI (a7 + -1) ∧ H_77_100 d P a1 a2 a3 a4 a5 a6 (a7 + -1) (mset M2 38 a7 r2)) ∧ (r1 = a1 → (0 ≤ a7 ∧ a7 < 4096) ∧ ((¬ (mset M2 38 a7 r2) 38 a7 = a2 → inI (a7 + -1) ∧ H_77_100 d P a1 a2 a3 a4 a5 a6 (a7 + -1) (mset M2 38 a7 r2)) ∧ ((mset M2 38 a7 r2) 38 a7 = a2 → P a2 (mset M2 38 a7 r2)))))))))))))) : H_77_100 d P a1 a2 a3 a4 a5 a6 a7 M := by
  have hE := EE_mono d
  unfold H_77_100
  refine z_iload hE rfl rfl ?_
  refine z_if_le hE rfl ⟨fun q => ?_, fun q => ?_⟩
  · have h := h.1 q
    have hb := h.1
    have h := h.2
    refine z_iinc hE rfl rfl rfl hb ?_
    refine z_goto hE rfl ?_
    exact GoG.weak hE (ls := [vR 33, vI a1, vI a2, vI a3, vI a4, vI a5, vI (a6 + 1), vU, vU]) ⟨Or.inl rfl, Or.inl rfl, Or.inl rfl, Or.inl rfl, Or.inl rfl, Or.inl rfl, Or.inl rfl, Or.inr ⟨rfl, _, rfl⟩, Or.inl rfl, trivial⟩ h
  · have h := h.2 q
    refine z_iload hE rfl rfl ?_
    refine z_callsI hE rfl rfl rfl rfl rfl (Nat.le_of_ble_eq_true rfl) (by decide) (EE_mono d _ _ _ _ _ (rI_mono fun r1 M1 h => ?_) h)
    refine z_istore hE rfl rfl rfl ?_
    refine z_iload hE rfl rfl ?_
    refine z_iload hE rfl rfl ?_
    refine z_iload hE rfl rfl ?_
    refine z_min hE rfl (Nat.le_of_ble_eq_true rfl) ?_
    refine z_icmp_gt hE rfl ⟨fun q => ?_, fun q => ?_⟩
    · have h := h.1 q
      have hb := h.1
      have h := h.2
      refine z_iinc hE rfl rfl rfl hb ?_
      refine z_goto hE rfl ?_
      exact GoG.weak hE (ls := [vR 33, vI a1, vI a2, vI a3, vI a4, vI a5, vI a6, vI (a7 + -1), vU]) ⟨Or.inl rfl, Or.inl rfl, Or.inl rfl, Or.inl rfl, Or.inl rfl, Or.inl rfl, Or.inl rfl, Or.inl rfl, Or.inr ⟨rfl, _, rfl⟩, trivial⟩ h
    · have h := h.2 q
      refine z_iload hE rfl rfl ?_
      refine z_iload hE rfl rfl ?_
      have hb := h.1
      have h := h.2
      refine z_iadd hE rfl hb ?_
      refine z_iload hE rfl rfl ?_
      refine z_icmp_lt hE rfl ⟨fun q => ?_, fun q => ?_⟩
      · have h := h.1 q
        have hb := h.1
        have h := h.2
        refine z_iinc hE rfl rfl rfl hb ?_
        refine z_goto hE rfl ?_
        exact GoG.weak hE (ls := [vR 33, vI a1, vI a2, vI a3, vI a4, vI a5, vI a6, vI (a7 + -1), vU]) ⟨Or.inl rfl, Or.inl rfl, Or.inl rfl, Or.inl rfl, Or.inl rfl, Or.inl rfl, Or.inl rfl, Or.inl rfl, Or.inr ⟨rfl, _, rfl⟩, trivial⟩ h
      · have h := h.2 q
        refine z_aload hE rfl rfl rfl ?_
        refine z_getR hE (q := 38) rfl shk_33 rfl rfl rfl ?_
        refine z_iload hE rfl rfl ?_
        refine z_aload hE rfl rfl rfl ?_
        refine z_iload hE rfl rfl ?_
        refine z_iload hE rfl rfl ?_
        refine z_aload hE rfl rfl rfl ?_
        refine z_getR hE (q := 35) rfl shk_33 rfl rfl rfl ?_
        refine z_iload hE rfl rfl ?_
        have hb := h.1
        have h := h.2
        refine z_iald hE rfl shk_35 hb ?_
        refine z_iand hE rfl ?_
        refine z_iconst hE rfl ?_
        refine z_iconst hE rfl ?_
        refine z_aload hE rfl rfl rfl ?_
        refine z_getR hE (q := 36) rfl shk_33 rfl rfl rfl ?_
        refine z_iload hE rfl rfl ?_
        have hb := h.1
        have h := h.2
        refine z_iald hE rfl shk_36 hb ?_
        refine z_callsI hE rfl rfl rfl rfl rfl (Nat.le_of_ble_eq_true rfl) (by decide) (EE_mono d _ _ _ _ _ (rI_mono fun r2 M2 h => ?_) h)
        have hb := h.1
        have h := h.2
        refine z_iast hE rfl shk_38 hb ?_
        refine z_iload hE rfl rfl ?_
        refine z_iload hE rfl rfl ?_
        refine z_icmp_ne hE rfl ⟨fun q => ?_, fun q => ?_⟩
        · have h := h.1 q
          have hb := h.1
          have h := h.2
          refine z_iinc hE rfl rfl rfl hb ?_
          refine z_goto hE rfl ?_
          exact GoG.weak hE (ls := [vR 33, vI a1, vI a2, vI a3, vI a4, vI a5, vI a6, vI (a7 + -1), vU]) ⟨Or.inl rfl, Or.inl rfl, Or.inl rfl, Or.inl rfl, Or.inl rfl, Or.inl rfl, Or.inl rfl, Or.inl rfl, Or.inr ⟨rfl, _, rfl⟩, trivial⟩ h
        · have h := h.2 q
          refine z_aload hE rfl rfl rfl ?_
          refine z_getR hE (q := 38) rfl shk_33 rfl rfl rfl ?_
          refine z_iload hE rfl rfl ?_
          have hb := h.1
          have h := h.2
          refine z_iald hE rfl shk_38 hb ?_
          refine z_iload hE rfl rfl ?_
          refine z_icmp_ne hE rfl ⟨fun q => ?_, fun q => ?_⟩
          · have h := h.1 q
            have hb := h.1
            have h := h.2
            refine z_iinc hE rfl rfl rfl hb ?_
            refine z_goto hE rfl ?_
            exact GoG.weak hE (ls := [vR 33, vI a1, vI a2, vI a3, vI a4, vI a5, vI a6, vI (a7 + -1), vU]) ⟨Or.inl rfl, Or.inl rfl, Or.inl rfl, Or.inl rfl, Or.inl rfl, Or.inl rfl, Or.inl rfl, Or.inl rfl, Or.inr ⟨rfl, _, rfl⟩, trivial⟩ h
          · have h := h.2 q
            refine z_iload hE rfl rfl ?_
            exact z_iret hE rfl rfl h
theorem sg_77_201 {d : Nat} {P : Int → Mm → Prop} {a1 : Int} {a3 : Int} {a6 : Int} {a7 : Int} {M : Mm} (h : ((a3 ≤ a7 → P a6 M) ∧ (a7 < a3 → EE d 174 [vI a7] M (rI fun r1 M1 => ((¬ r1 = a1 → inI (a7 + 1) ∧ H_77_201 d P a1 a3 a6 (a7 + 1) M1) ∧ (r1 = a1 → (0 ≤ a7 ∧ a7 < 4096) ∧ inI (a7 + 1) ∧ H_77_201 d P a1 a3 (if a6 < (M1 38 a7) then (M1 38 a7) else a6) (a7 + 1) M1)))))) : H_77_201 d P a1 a3 a6 a7 M := by
  have hE := EE_mono d
  unfold H_77_201
  refine z_iload hE rfl rfl ?_
  refine z_iload hE rfl rfl ?_
  refine z_icmp_ge hE rfl ⟨fun q => ?_, fun q => ?_⟩
  · have h := h.1 q
    refine z_iload hE rfl rfl ?_
    exact z_iret hE rfl rfl h
  · have h := h.2 q
    refine z_iload hE rfl rfl ?_
    refine z_callsI hE rfl rfl rfl rfl rfl (Nat.le_of_ble_eq_true rfl) (by decide) (EE_mono d _ _ _ _ _ (rI_mono fun r1 M1 h => ?_) h)
    refine z_iload hE rfl rfl ?_
    refine z_icmp_ne hE rfl ⟨fun q => ?_, fun q => ?_⟩
    · have h := h.1 q
      have hb := h.1
      have h := h.2
      refine z_iinc hE rfl rfl rfl hb ?_
      refine z_goto hE rfl ?_
      exact h
    · have h := h.2 q
      refine z_iload hE rfl rfl ?_
      refine z_aload hE rfl rfl rfl ?_
      refine z_getR hE (q := 38) rfl shk_33 rfl rfl rfl ?_
      refine z_iload hE rfl rfl ?_
      have hb := h.1
      have h := h.2
      refine z_iald hE rfl shk_38 hb ?_
      refine z_max hE rfl (Nat.le_of_ble_eq_true rfl) ?_
      refine z_istore hE rfl rfl rfl ?_
      have hb := h.1
      have h := h.2
      refine z_iinc hE rfl rfl rfl hb ?_
      refine z_goto hE rfl ?_
      exact h
/-! 78: ChildTrains$Lodging.keptWith(LChildTrains$Lodging;IIIII)I -/
def H_78_25 (d : Nat) (P : Int → Mm → Prop) (a1 : Int) (a2 : Int) (a3 : Int) (a4 : Int) (a5 : Int) (s0 : Int) (M : Mm) : Prop := GoG false (EE d) cd_78 (rI P) 25 [vR 33, vI a1, vI a2, vI a3, vI a4, vI a5, vU, vU, vU, vU, vU, vU] [vI s0] M
def H_78_42 (d : Nat) (P : Int → Mm → Prop) (a1 : Int) (a3 : Int) (a4 : Int) (a5 : Int) (a7 : Int) (a8 : Int) (a9 : Int) (M : Mm) : Prop := GoG false (EE d) cd_78 (rI P) 42 [vR 33, vI a1, vU, vI a3, vI a4, vI a5, vU, vI a7, vI a8, vI a9, vU, vU] [] M
theorem mN_78 : mN 78 = 12 := by decide +kernel
theorem ee_78 {d : Nat} {Q : Ql} {a1 : Int} {a2 : Int} {a3 : Int} {a4 : Int} {a5 : Int} {M : Mm} (h : GoG false (EE d) cd_78 Q 0 [vR 33, vI a1, vI a2, vI a3, vI a4, vI a5, vU, vU, vU, vU, vU, vU] [] M) : EE (d + 1) 78 [vR 33, vI a1, vI a2, vI a3, vI a4, vI a5] M Q := by
  have e : cdTab 78 = cd_78 := rfl
  unfold EE; rw [mN_78, e]; exact ⟨Nat.le_of_ble_eq_true rfl, h⟩
theorem sg_78 {d : Nat} {P : Int → Mm → Prop} {a1 : Int} {a2 : Int} {a3 : Int} {a4 : Int} {a5 : Int} {M : Mm} (h : (0 ≤ (zxor a1 a3) ∧ (zxor a1 a3) < 4096) ∧ ((0 ≤ (M 38 (zxor a1 a3)) → inI ((M 38 (zxor a1 a3)) + a4) ∧ H_78_25 d P a1 a2 a3 a4 a5 ((M 38 (zxor a1 a3)) + a4) M) ∧ ((M 38 (zxor a1 a3)) < 0 → H_78_25 d P a1 a2 a3 a4 a5 (-9) M))) : EE (d + 1) 78 [vR 33, vI a1, vI a2, vI a3, vI a4, vI a5] M (rI P) := by
  have hE := EE_mono d
  refine ee_78 ?_
  refine z_aload hE rfl rfl rfl ?_
  refine z_getR hE (q := 38) rfl shk_33 rfl rfl rfl ?_
  refine z_iload hE rfl rfl ?_
  refine z_iload hE rfl rfl ?_
  refine z_ixor hE rfl ?_
  have hb := h.1
  have h := h.2
  refine z_iald hE rfl shk_38 hb ?_
  refine z_istore hE rfl rfl rfl ?_
  refine z_iload hE rfl rfl ?_
  refine z_if_ge hE rfl ⟨fun q => ?_, fun q => ?_⟩
  · have h := h.1 q
    refine z_iload hE rfl rfl ?_
    refine z_iload hE rfl rfl ?_
    have hb := h.1
    have h := h.2
    refine z_iadd hE rfl hb ?_
    exact GoG.weak hE (ls := [vR 33, vI a1, vI a2, vI a3, vI a4, vI a5, vU, vU, vU, vU, vU, vU]) ⟨Or.inl rfl, Or.inl rfl, Or.inl rfl, Or.inl rfl, Or.inl rfl, Or.inl rfl, Or.inr ⟨rfl, _, rfl⟩, Or.inl rfl, Or.inl rfl, Or.inl rfl, Or.inl rfl, Or.inl rfl, trivial⟩ h
  · have h := h.2 q
    refine z_iconst hE rfl ?_
    refine z_goto hE rfl ?_
    exact GoG.weak hE (ls := [vR 33, vI a1, vI a2, vI a3, vI a4, vI a5, vU, vU, vU, vU, vU, vU]) ⟨Or.inl rfl, Or.inl rfl, Or.inl rfl, Or.inl rfl, Or.inl rfl, Or.inl rfl, Or.inr ⟨rfl, _, rfl⟩, Or.inl rfl, Or.inl rfl, Or.inl rfl, Or.inl rfl, Or.inl rfl, trivial⟩ h
theorem sg_78_25 {d : Nat} {P : Int → Mm → Prop} {a1 : Int} {a2 : Int} {a3 : Int} {a4 : Int} {a5 : Int} {s0 : Int} {M : Mm} (h : ((a5 ≤ 0 → H_78_42 d P a1 a3 a4 a5 s0 0 0 M) ∧ (0 < a5 → H_78_42 d P a1 a3 a4 a5 s0 a2 0 M))) : H_78_25 d P a1 a2 a3 a4 a5 s0 M := by
  have hE := EE_mono d
  unfold H_78_25
  refine z_istore hE rfl rfl rfl ?_
  refine z_iload hE rfl rfl ?_
  refine z_if_le hE rfl ⟨fun q => ?_, fun q => ?_⟩
  · have h := h.1 q
    refine z_iconst hE rfl ?_
    refine z_istore hE rfl rfl rfl ?_
    refine z_iconst hE rfl ?_
    refine z_istore hE rfl rfl rfl ?_
    exact GoG.weak hE (ls := [vR 33, vI a1, vU, vI a3, vI a4, vI a5, vU, vI s0, vI 0, vI 0, vU, vU]) ⟨Or.inl rfl, Or.inl rfl, Or.inr ⟨rfl, _, rfl⟩, Or.inl rfl, Or.inl rfl, Or.inl rfl, Or.inl rfl, Or.inl rfl, Or.inl rfl, Or.inl rfl, Or.inl rfl, Or.inl rfl, trivial⟩ h
  · have h := h.2 q
    refine z_iload hE rfl rfl ?_
    refine z_goto hE rfl ?_
    refine z_istore hE rfl rfl rfl ?_
    refine z_iconst hE rfl ?_
    refine z_istore hE rfl rfl rfl ?_
    exact GoG.weak hE (ls := [vR 33, vI a1, vU, vI a3, vI a4, vI a5, vU, vI s0, vI a2, vI 0, vU, vU]) ⟨Or.inl rfl, Or.inl rfl, Or.inr ⟨rfl, _, rfl⟩, Or.inl rfl, Or.inl rfl, Or.inl rfl, Or.inl rfl, Or.inl rfl, Or.inl rfl, Or.inl rfl, Or.inl rfl, Or.inl rfl, trivial⟩ h
theorem sg_78_42 {d : Nat} {P : Int → Mm → Prop} {a1 : Int} {a3 : Int} {a4 : Int} {a5 : Int} {a7 : Int} {a8 : Int} {a9 : Int} {M : Mm} (h : (((M 33 5) ≤ a9 → P a7 M) ∧ (a9 < (M 33 5) → ((a8 = 0 → P a7 M) ∧ (¬ a8 = 0 → EE d 175 [vI a8] M (rI fun r1 M1 => inI (a8 - 1) ∧ (0 ≤ r1 ∧ r1 < 12) ∧ EE d 174 [vI (zand (M1 34 r1) a3)] M1 (rI fun r2 M2 => inI (a4 + r2) ∧ inI (a5 - 1) ∧ EE d 78 [vR 33, vI a1, vI (zand a8 (a8 - 1)), vI (zor a3 (zshl 1 r1)), vI (a4 + r2), vI (a5 - 1)] M2 (rI fun r3 M3 => inI (a9 + 1) ∧ H_78_42 d P a1 a3 a4 a5 (if a7 < r3 then r3 else a7) (zand a8 (a8 - 1)) (a9 + 1) M3)))))))) : H_78_42 d P a1 a3 a4 a5 a7 a8 a9 M := by
  have hE := EE_mono d
  unfold H_78_42
  refine z_iload hE rfl rfl ?_
  refine z_aload hE rfl rfl rfl ?_
  refine z_getI hE (sl := 5) rfl shk_33 rfl rfl rfl ?_
  refine z_icmp_ge hE rfl ⟨fun q => ?_, fun q => ?_⟩
  · have h := h.1 q
    refine z_iload hE rfl rfl ?_
    exact z_iret hE rfl rfl h
  · have h := h.2 q
    refine z_iload hE rfl rfl ?_
    refine z_if_eq hE rfl ⟨fun q => ?_, fun q => ?_⟩
    · have h := h.1 q
      refine z_iload hE rfl rfl ?_
      exact z_iret hE rfl rfl h
    · have h := h.2 q
      refine z_iload hE rfl rfl ?_
      refine z_callsI hE rfl rfl rfl rfl rfl (Nat.le_of_ble_eq_true rfl) (by decide) (EE_mono d _ _ _ _ _ (rI_mono fun r1 M1 h => ?_) h)
      refine z_istore hE rfl rfl rfl ?_
      refine z_iload hE rfl rfl ?_
      refine z_iload hE rfl rfl ?_
      refine z_iconst hE rfl ?_
      have hb := h.1
      have h := h.2
      refine z_isub hE rfl hb ?_
      refine z_iand hE rfl ?_
      refine z_istore hE rfl rfl rfl ?_
      refine z_iload hE rfl rfl ?_
      refine z_aload hE rfl rfl rfl ?_
      refine z_getR hE (q := 34) rfl shk_33 rfl rfl rfl ?_
      refine z_iload hE rfl rfl ?_
      have hb := h.1
      have h := h.2
      refine z_iald hE rfl shk_34 hb ?_
      refine z_iload hE rfl rfl ?_
      refine z_iand hE rfl ?_
      refine z_callsI hE rfl rfl rfl rfl rfl (Nat.le_of_ble_eq_true rfl) (by decide) (EE_mono d _ _ _ _ _ (rI_mono fun r2 M2 h => ?_) h)
      have hb := h.1
      have h := h.2
      refine z_iadd hE rfl hb ?_
      refine z_istore hE rfl rfl rfl ?_
      refine z_iload hE rfl rfl ?_
      refine z_aload hE rfl rfl rfl ?_
      refine z_iload hE rfl rfl ?_
      refine z_iload hE rfl rfl ?_
      refine z_iload hE rfl rfl ?_
      refine z_iconst hE rfl ?_
      refine z_iload hE rfl rfl ?_
      refine z_ishl hE rfl ?_
      refine z_ior hE rfl ?_
      refine z_iload hE rfl rfl ?_
      refine z_iload hE rfl rfl ?_
      refine z_iconst hE rfl ?_
      have hb := h.1
      have h := h.2
      refine z_isub hE rfl hb ?_
      refine z_callsI hE rfl rfl rfl rfl rfl (Nat.le_of_ble_eq_true rfl) (by decide) (EE_mono d _ _ _ _ _ (rI_mono fun r3 M3 h => ?_) h)
      refine z_max hE rfl (Nat.le_of_ble_eq_true rfl) ?_
      refine z_istore hE rfl rfl rfl ?_
      have hb := h.1
      have h := h.2
      refine z_iinc hE rfl rfl rfl hb ?_
      refine z_goto hE rfl ?_
      exact GoG.weak hE (ls := [vR 33, vI a1, vU, vI a3, vI a4, vI a5, vU, vI (if a7 < r3 then r3 else a7), vI (zand a8 (a8 - 1)), vI (a9 + 1), vU, vU]) ⟨Or.inl rfl, Or.inl rfl, Or.inl rfl, Or.inl rfl, Or.inl rfl, Or.inl rfl, Or.inl rfl, Or.inl rfl, Or.inl rfl, Or.inl rfl, Or.inr ⟨rfl, _, rfl⟩, Or.inr ⟨rfl, _, rfl⟩, trivial⟩ h
/-! 79: ChildTrains$OrderBook.ruler(ILChildTrains$Children;ILChildTrains$Houses;II[I)I -/
def H_79_7 (d : Nat) (P : Int → Mm → Prop) (a1 : Int) (a3 : Int) (a5 : Int) (a6 : Int) (a7 : Int) (a8 : Int) (a9 : Int) (M : Mm) : Prop := GoG false (EE d) cd_79 (rI P) 7 [vR 58, vI a1, vR 1, vI a3, vR 24, vI a5, vI a6, vW 52 a7, vI a8, vI a9] [] M
theorem mN_79 : mN 79 = 10 := by decide +kernel
theorem ee_79 {d : Nat} {Q : Ql} {a1 : Int} {a3 : Int} {a5 : Int} {a6 : Int} {a7 : Int} {M : Mm} (h : GoG false (EE d) cd_79 Q 0 [vR 58, vI a1, vR 1, vI a3, vR 24, vI a5, vI a6, vW 52 a7, vU, vU] [] M) : EE (d + 1) 79 [vR 58, vI a1, vR 1, vI a3, vR 24, vI a5, vI a6, vW 52 a7] M Q := by
  have e : cdTab 79 = cd_79 := rfl
  unfold EE; rw [mN_79, e]; exact ⟨Nat.le_of_ble_eq_true rfl, h⟩
theorem sg_79 {d : Nat} {P : Int → Mm → Prop} {a1 : Int} {a3 : Int} {a5 : Int} {a6 : Int} {a7 : Int} {M : Mm} (h : H_79_7 d P a1 a3 a5 a6 a7 (-9) 0 M) : EE (d + 1) 79 [vR 58, vI a1, vR 1, vI a3, vR 24, vI a5, vI a6, vW 52 a7] M (rI P) := by
  have hE := EE_mono d
  refine ee_79 ?_
  refine z_iconst hE rfl ?_
  refine z_istore hE rfl rfl rfl ?_
  refine z_iconst hE rfl ?_
  refine z_istore hE rfl rfl rfl ?_
  exact h
theorem sg_79_7 {d : Nat} {P : Int → Mm → Prop} {a1 : Int} {a3 : Int} {a5 : Int} {a6 : Int} {a7 : Int} {a8 : Int} {a9 : Int} {M : Mm} (h : (((M 58 8) ≤ a9 → P a8 M) ∧ (a9 < (M 58 8) → (0 ≤ a9 ∧ a9 < 30) ∧ ((¬ (M 62 a9) = a1 → inI (a9 + 1) ∧ H_79_7 d P a1 a3 a5 a6 a7 a8 (a9 + 1) M) ∧ ((M 62 a9) = a1 → (0 ≤ a9 ∧ a9 < 30) ∧ (0 ≤ a9 ∧ a9 < 30) ∧ (0 ≤ (M 59 a9) ∧ (M 59 a9) < 3) ∧ inI ((M 60 a9) + (M (52 + a7.toNat) (M 59 a9))) ∧ ((a6 < ((M 60 a9) + (M (52 + a7.toNat) (M 59 a9))) → inI (a9 + 1) ∧ H_79_7 d P a1 a3 a5 a6 a7 a8 (a9 + 1) M) ∧ (((M 60 a9) + (M (52 + a7.toNat) (M 59 a9))) ≤ a6 → EE d 80 [vR 58, vI a9, vR 1, vI a3, vR 24, vI a5] M (rI fun r1 M1 => ((r1 = 0 → inI (a9 + 1) ∧ H_79_7 d P a1 a3 a5 a6 a7 a8 (a9 + 1) M1) ∧ (¬ r1 = 0 → ((a8 = (-9) → inI (a9 + 1) ∧ H_79_7 d P a1 a3 a5 a6 a7 a9 (a9 + 1) M1) ∧ (¬ a8 = (-9) → (0 ≤ a9 ∧ a9 < 30) ∧ (0 ≤ a8 ∧ a8 < 30) ∧ (((M1 59 a9) < (M1 59 a8) → inI (a9 + 1) ∧ H_79_7 d P a1 a3 a5 a6 a7 a9 (a9 + 1) M1) ∧ ((M1 59 a8) ≤ (M1 59 a9) → (0 ≤ a9 ∧ a9 < 30) ∧ (0 ≤ a8 ∧ a8 < 30) ∧ ((¬ (M1 59 a9) = (M1 59 a8) → inI (a9 + 1) ∧ H_79_7 d P a1 a3 a5 a6 a7 a8 (a9 + 1) M1) ∧ ((M1 59 a9) = (M1 59 a8) → (0 ≤ a9 ∧ a9 < 30) ∧ (0 ≤ a8 ∧ a8 < 30) ∧ (((M1 60 a9) < (M1 60 a8) → inI (a9 + 1) ∧ H_79_7 d P a1 a3 a5 a6 a7 a8 (a9 + 1) M1) ∧ ((M1 60 a8) ≤ (M1 60 a9) → inI (a9 + 1) ∧ H_79_7 d P a1 a3 a5 a6 a7 a9 (a9 + 1) M1)))))))))))))))))) : H_79_7 d P a1 a3 a5 a6 a7 a8 a9 M := by
  have hE := EE_mono d
  unfold H_79_7
  refine z_iload hE rfl rfl ?_
  refine z_aload hE rfl rfl rfl ?_
  refine z_getI hE (sl := 8) rfl shk_58 rfl rfl rfl ?_
  refine z_icmp_ge hE rfl ⟨fun q => ?_, fun q => ?_⟩
  · have h := h.1 q
    refine z_iload hE rfl rfl ?_
    exact z_iret hE rfl rfl h
  · have h := h.2 q
    refine z_aload hE rfl rfl rfl ?_
    refine z_getR hE (q := 62) rfl shk_58 rfl rfl rfl ?_
    refine z_iload hE rfl rfl ?_
    have hb := h.1
    have h := h.2
    refine z_iald hE rfl shk_62 hb ?_
    refine z_iload hE rfl rfl ?_
    refine z_icmp_ne hE rfl ⟨fun q => ?_, fun q => ?_⟩
    · have h := h.1 q
      have hb := h.1
      have h := h.2
      refine z_iinc hE rfl rfl rfl hb ?_
      refine z_goto hE rfl ?_
      exact h
    · have h := h.2 q
      refine z_aload hE rfl rfl rfl ?_
      refine z_getR hE (q := 60) rfl shk_58 rfl rfl rfl ?_
      refine z_iload hE rfl rfl ?_
      have hb := h.1
      have h := h.2
      refine z_iald hE rfl shk_60 hb ?_
      refine z_aload hE rfl rfl rfl ?_
      refine z_aload hE rfl rfl rfl ?_
      refine z_getR hE (q := 59) rfl shk_58 rfl rfl rfl ?_
      refine z_iload hE rfl rfl ?_
      have hb := h.1
      have h := h.2
      refine z_iald hE rfl shk_59 hb ?_
      have hb := h.1
      have h := h.2
      refine z_ialdW hE rfl shk_52 hb ?_
      have hb := h.1
      have h := h.2
      refine z_iadd hE rfl hb ?_
      refine z_iload hE rfl rfl ?_
      refine z_icmp_gt hE rfl ⟨fun q => ?_, fun q => ?_⟩
      · have h := h.1 q
        have hb := h.1
        have h := h.2
        refine z_iinc hE rfl rfl rfl hb ?_
        refine z_goto hE rfl ?_
        exact h
      · have h := h.2 q
        refine z_aload hE rfl rfl rfl ?_
        refine z_iload hE rfl rfl ?_
        refine z_aload hE rfl rfl rfl ?_
        refine z_iload hE rfl rfl ?_
        refine z_aload hE rfl rfl rfl ?_
        refine z_iload hE rfl rfl ?_
        refine z_callvI hE rfl rfl rfl rfl rfl (Nat.le_of_ble_eq_true rfl) (by decide) ⟨rfl, rfl⟩ (EE_mono d _ _ _ _ _ (rI_mono fun r1 M1 h => ?_) h)
        refine z_if_eq hE rfl ⟨fun q => ?_, fun q => ?_⟩
        · have h := h.1 q
          have hb := h.1
          have h := h.2
          refine z_iinc hE rfl rfl rfl hb ?_
          refine z_goto hE rfl ?_
          exact h
        · have h := h.2 q
          refine z_iload hE rfl rfl ?_
          refine z_iconst hE rfl ?_
          refine z_icmp_eq hE rfl ⟨fun q => ?_, fun q => ?_⟩
          · have h := h.1 q
            refine z_iload hE rfl rfl ?_
            refine z_istore hE rfl rfl rfl ?_
            have hb := h.1
            have h := h.2
            refine z_iinc hE rfl rfl rfl hb ?_
            refine z_goto hE rfl ?_
            exact h
          · have h := h.2 q
            refine z_aload hE rfl rfl rfl ?_
            refine z_getR hE (q := 59) rfl shk_58 rfl rfl rfl ?_
            refine z_iload hE rfl rfl ?_
            have hb := h.1
            have h := h.2
            refine z_iald hE rfl shk_59 hb ?_
            refine z_aload hE rfl rfl rfl ?_
            refine z_getR hE (q := 59) rfl shk_58 rfl rfl rfl ?_
            refine z_iload hE rfl rfl ?_
            have hb := h.1
            have h := h.2
            refine z_iald hE rfl shk_59 hb ?_
            refine z_icmp_lt hE rfl ⟨fun q => ?_, fun q => ?_⟩
            · have h := h.1 q
              refine z_iload hE rfl rfl ?_
              refine z_istore hE rfl rfl rfl ?_
              have hb := h.1
              have h := h.2
              refine z_iinc hE rfl rfl rfl hb ?_
              refine z_goto hE rfl ?_
              exact h
            · have h := h.2 q
              refine z_aload hE rfl rfl rfl ?_
              refine z_getR hE (q := 59) rfl shk_58 rfl rfl rfl ?_
              refine z_iload hE rfl rfl ?_
              have hb := h.1
              have h := h.2
              refine z_iald hE rfl shk_59 hb ?_
              refine z_aload hE rfl rfl rfl ?_
              refine z_getR hE (q := 59) rfl shk_58 rfl rfl rfl ?_
              refine z_iload hE rfl rfl ?_
              have hb := h.1
              have h := h.2
              refine z_iald hE rfl shk_59 hb ?_
              refine z_icmp_ne hE rfl ⟨fun q => ?_, fun q => ?_⟩
              · have h := h.1 q
                have hb := h.1
                have h := h.2
                refine z_iinc hE rfl rfl rfl hb ?_
                refine z_goto hE rfl ?_
                exact h
              · have h := h.2 q
                refine z_aload hE rfl rfl rfl ?_
                refine z_getR hE (q := 60) rfl shk_58 rfl rfl rfl ?_
                refine z_iload hE rfl rfl ?_
                have hb := h.1
                have h := h.2
                refine z_iald hE rfl shk_60 hb ?_
                refine z_aload hE rfl rfl rfl ?_
                refine z_getR hE (q := 60) rfl shk_58 rfl rfl rfl ?_
                refine z_iload hE rfl rfl ?_
                have hb := h.1
                have h := h.2
                refine z_iald hE rfl shk_60 hb ?_
                refine z_icmp_lt hE rfl ⟨fun q => ?_, fun q => ?_⟩
                · have h := h.1 q
                  have hb := h.1
                  have h := h.2
                  refine z_iinc hE rfl rfl rfl hb ?_
                  refine z_goto hE rfl ?_
                  exact h
                · have h := h.2 q
                  refine z_iload hE rfl rfl ?_
                  refine z_istore hE rfl rfl rfl ?_
                  have hb := h.1
                  have h := h.2
                  refine z_iinc hE rfl rfl rfl hb ?_
                  refine z_goto hE rfl ?_
                  exact h
/-! 80: ChildTrains$OrderBook.holds(ILChildTrains$Children;ILChildTrains$Houses;I)Z -/
def H_80_3 (d : Nat) (P : Int → Mm → Prop) (a1 : Int) (a3 : Int) (a5 : Int) (a6 : Int) (M : Mm) : Prop := GoG false (EE d) cd_80 (rI P) 3 [vR 58, vI a1, vR 1, vI a3, vR 24, vI a5, vI a6, vU] [] M
theorem mN_80 : mN 80 = 8 := by decide +kernel
theorem ee_80 {d : Nat} {Q : Ql} {a1 : Int} {a3 : Int} {a5 : Int} {M : Mm} (h : GoG false (EE d) cd_80 Q 0 [vR 58, vI a1, vR 1, vI a3, vR 24, vI a5, vU, vU] [] M) : EE (d + 1) 80 [vR 58, vI a1, vR 1, vI a3, vR 24, vI a5] M Q := by
  have e : cdTab 80 = cd_80 := rfl
  unfold EE; rw [mN_80, e]; exact ⟨Nat.le_of_ble_eq_true rfl, h⟩
theorem sg_80 {d : Nat} {P : Int → Mm → Prop} {a1 : Int} {a3 : Int} {a5 : Int} {M : Mm} (h : H_80_3 d P a1 a3 a5 0 M) : EE (d + 1) 80 [vR 58, vI a1, vR 1, vI a3, vR 24, vI a5] M (rI P) := by
  have hE := EE_mono d
  refine ee_80 ?_
  refine z_iconst hE rfl ?_
  refine z_istore hE rfl rfl rfl ?_
  exact h
theorem sg_80_3 {d : Nat} {P : Int → Mm → Prop} {a1 : Int} {a3 : Int} {a5 : Int} {a6 : Int} {M : Mm} (h : (0 ≤ a1 ∧ a1 < 30) ∧ (((M 63 a1) ≤ a6 → P 1 M) ∧ (a6 < (M 63 a1) → inI (a1 * 6) ∧ inI ((a1 * 6) + a6) ∧ EE d 81 [vR 58, vI ((a1 * 6) + a6), vR 1, vI a3, vR 24, vI a5] M (rI fun r1 M1 => (0 ≤ ((a1 * 6) + a6) ∧ ((a1 * 6) + a6) < 180) ∧ ((¬ r1 = (M1 66 ((a1 * 6) + a6)) → inI (a6 + 1) ∧ H_80_3 d P a1 a3 a5 (a6 + 1) M1) ∧ (r1 = (M1 66 ((a1 * 6) + a6)) → P 0 M1)))))) : H_80_3 d P a1 a3 a5 a6 M := by
  have hE := EE_mono d
  unfold H_80_3
  refine z_iload hE rfl rfl ?_
  refine z_aload hE rfl rfl rfl ?_
  refine z_getR hE (q := 63) rfl shk_58 rfl rfl rfl ?_
  refine z_iload hE rfl rfl ?_
  have hb := h.1
  have h := h.2
  refine z_iald hE rfl shk_63 hb ?_
  refine z_icmp_ge hE rfl ⟨fun q => ?_, fun q => ?_⟩
  · have h := h.1 q
    refine z_iconst hE rfl ?_
    exact z_zret hE rfl rfl (Or.inr rfl) h
  · have h := h.2 q
    refine z_iload hE rfl rfl ?_
    refine z_iconst hE rfl ?_
    have hb := h.1
    have h := h.2
    refine z_imul hE rfl hb ?_
    refine z_iload hE rfl rfl ?_
    have hb := h.1
    have h := h.2
    refine z_iadd hE rfl hb ?_
    refine z_istore hE rfl rfl rfl ?_
    refine z_aload hE rfl rfl rfl ?_
    refine z_iload hE rfl rfl ?_
    refine z_aload hE rfl rfl rfl ?_
    refine z_iload hE rfl rfl ?_
    refine z_aload hE rfl rfl rfl ?_
    refine z_iload hE rfl rfl ?_
    refine z_callvI hE rfl rfl rfl rfl rfl (Nat.le_of_ble_eq_true rfl) (by decide) ⟨rfl, rfl⟩ (EE_mono d _ _ _ _ _ (rI_mono fun r1 M1 h => ?_) h)
    refine z_aload hE rfl rfl rfl ?_
    refine z_getR hE (q := 66) rfl shk_58 rfl rfl rfl ?_
    refine z_iload hE rfl rfl ?_
    have hb := h.1
    have h := h.2
    refine z_bald hE rfl shk_66 hb ?_
    refine z_icmp_ne hE rfl ⟨fun q => ?_, fun q => ?_⟩
    · have h := h.1 q
      have hb := h.1
      have h := h.2
      refine z_iinc hE rfl rfl rfl hb ?_
      refine z_goto hE rfl ?_
      exact GoG.weak hE (ls := [vR 58, vI a1, vR 1, vI a3, vR 24, vI a5, vI (a6 + 1), vU]) ⟨Or.inl rfl, Or.inl rfl, Or.inl rfl, Or.inl rfl, Or.inl rfl, Or.inl rfl, Or.inl rfl, Or.inr ⟨rfl, _, rfl⟩, trivial⟩ h
    · have h := h.2 q
      refine z_iconst hE rfl ?_
      exact z_zret hE rfl rfl (Or.inl rfl) h
/-! 81: ChildTrains$OrderBook.isSo(ILChildTrains$Children;ILChildTrains$Houses;I)Z -/
theorem mN_81 : mN 81 = 7 := by decide +kernel
theorem ee_81 {d : Nat} {Q : Ql} {a1 : Int} {a3 : Int} {a5 : Int} {M : Mm} (h : GoG false (EE d) cd_81 Q 0 [vR 58, vI a1, vR 1, vI a3, vR 24, vI a5, vU] [] M) : EE (d + 1) 81 [vR 58, vI a1, vR 1, vI a3, vR 24, vI a5] M Q := by
  have e : cdTab 81 = cd_81 := rfl
  unfold EE; rw [mN_81, e]; exact ⟨Nat.le_of_ble_eq_true rfl, h⟩
theorem sg_81 {d : Nat} {P : Int → Mm → Prop} {a1 : Int} {a3 : Int} {a5 : Int} {M : Mm} (h : (0 ≤ a1 ∧ a1 < 180) ∧ (0 ≤ a1 ∧ a1 < 180) ∧ (((M 64 a1) = 0 → (0 ≤ a3 ∧ a3 < 48) ∧ ((¬ (M 2 a3) = (M 65 a1) → P 0 M) ∧ ((M 2 a3) = (M 65 a1) → P 1 M))) ∧ ((M 64 a1) = 1 → (0 ≤ a3 ∧ a3 < 48) ∧ (((M 65 a1) ≤ (M 3 a3) → P 0 M) ∧ ((M 3 a3) < (M 65 a1) → P 1 M))) ∧ ((M 64 a1) = 2 → EE d 53 [vR 1, vI a3] M (rI fun r1 M1 => (r1 = 0 ∨ r1 = 1) ∧ P r1 M1)) ∧ ((M 64 a1) = 3 → (0 ≤ a5 ∧ a5 < 24) ∧ ((¬ (M 26 a5) = (M 65 a1) → P 0 M) ∧ ((M 26 a5) = (M 65 a1) → P 1 M))) ∧ ((M 64 a1) = 4 → (0 ≤ a5 ∧ a5 < 24) ∧ ((¬ (M 25 a5) = (M 65 a1) → P 0 M) ∧ ((M 25 a5) = (M 65 a1) → P 1 M))) ∧ (((M 64 a1) < 0 ∨ 5 ≤ (M 64 a1)) → (0 ≤ a3 ∧ a3 < 48) ∧ (((M 3 a3) ≤ (M 65 a1) → P 0 M) ∧ ((M 65 a1) < (M 3 a3) → P 1 M))))) : EE (d + 1) 81 [vR 58, vI a1, vR 1, vI a3, vR 24, vI a5] M (rI P) := by
  have hE := EE_mono d
  refine ee_81 ?_
  refine z_aload hE rfl rfl rfl ?_
  refine z_getR hE (q := 65) rfl shk_58 rfl rfl rfl ?_
  refine z_iload hE rfl rfl ?_
  have hb := h.1
  have h := h.2
  refine z_iald hE rfl shk_65 hb ?_
  refine z_istore hE rfl rfl rfl ?_
  refine z_aload hE rfl rfl rfl ?_
  refine z_getR hE (q := 64) rfl shk_58 rfl rfl rfl ?_
  refine z_iload hE rfl rfl ?_
  have hb := h.1
  have h := h.2
  refine z_iald hE rfl shk_64 hb ?_
  refine z_tsw hE rfl ⟨fun q => ?_, fun q => ?_, fun q => ?_, fun q => ?_, fun q => ?_, trivial⟩ (fun q => ?_)
  · have h := h.1 (by have q2 := q; simp only [xI] at q2; omega)
    refine z_aload hE rfl rfl rfl ?_
    refine z_getR hE (q := 2) rfl shk_1 rfl rfl rfl ?_
    refine z_iload hE rfl rfl ?_
    have hb := h.1
    have h := h.2
    refine z_iald hE rfl shk_2 hb ?_
    refine z_iload hE rfl rfl ?_
    refine z_icmp_ne hE rfl ⟨fun q => ?_, fun q => ?_⟩
    · have h := h.1 q
      refine z_iconst hE rfl ?_
      exact z_zret hE rfl rfl (Or.inl rfl) h
    · have h := h.2 q
      refine z_iconst hE rfl ?_
      refine z_goto hE rfl ?_
      exact z_zret hE rfl rfl (Or.inr rfl) h
  · have h := h.2.1 (by have q2 := q; simp only [xI] at q2; omega)
    refine z_aload hE rfl rfl rfl ?_
    refine z_getR hE (q := 3) rfl shk_1 rfl rfl rfl ?_
    refine z_iload hE rfl rfl ?_
    have hb := h.1
    have h := h.2
    refine z_iald hE rfl shk_3 hb ?_
    refine z_iload hE rfl rfl ?_
    refine z_icmp_ge hE rfl ⟨fun q => ?_, fun q => ?_⟩
    · have h := h.1 q
      refine z_iconst hE rfl ?_
      exact z_zret hE rfl rfl (Or.inl rfl) h
    · have h := h.2 q
      refine z_iconst hE rfl ?_
      refine z_goto hE rfl ?_
      exact z_zret hE rfl rfl (Or.inr rfl) h
  · have h := h.2.2.1 (by have q2 := q; simp only [xI] at q2; omega)
    refine z_aload hE rfl rfl rfl ?_
    refine z_iload hE rfl rfl ?_
    refine z_callvI hE rfl rfl rfl rfl rfl (Nat.le_of_ble_eq_true rfl) (by decide) ⟨rfl, rfl⟩ (EE_mono d _ _ _ _ _ (rI_mono fun r1 M1 h => ?_) h)
    have hb := h.1
    have h := h.2
    exact z_zret hE rfl rfl hb h
  · have h := h.2.2.2.1 (by have q2 := q; simp only [xI] at q2; omega)
    refine z_aload hE rfl rfl rfl ?_
    refine z_getR hE (q := 26) rfl shk_24 rfl rfl rfl ?_
    refine z_iload hE rfl rfl ?_
    have hb := h.1
    have h := h.2
    refine z_iald hE rfl shk_26 hb ?_
    refine z_iload hE rfl rfl ?_
    refine z_icmp_ne hE rfl ⟨fun q => ?_, fun q => ?_⟩
    · have h := h.1 q
      refine z_iconst hE rfl ?_
      exact z_zret hE rfl rfl (Or.inl rfl) h
    · have h := h.2 q
      refine z_iconst hE rfl ?_
      refine z_goto hE rfl ?_
      exact z_zret hE rfl rfl (Or.inr rfl) h
  · have h := h.2.2.2.2.1 (by have q2 := q; simp only [xI] at q2; omega)
    refine z_aload hE rfl rfl rfl ?_
    refine z_getR hE (q := 25) rfl shk_24 rfl rfl rfl ?_
    refine z_iload hE rfl rfl ?_
    have hb := h.1
    have h := h.2
    refine z_iald hE rfl shk_25 hb ?_
    refine z_iload hE rfl rfl ?_
    refine z_icmp_ne hE rfl ⟨fun q => ?_, fun q => ?_⟩
    · have h := h.1 q
      refine z_iconst hE rfl ?_
      exact z_zret hE rfl rfl (Or.inl rfl) h
    · have h := h.2 q
      refine z_iconst hE rfl ?_
      refine z_goto hE rfl ?_
      exact z_zret hE rfl rfl (Or.inr rfl) h
  · have h := h.2.2.2.2.2 (by have q2 := q; simp only [xI, x3, List.length_cons, List.length_nil] at q2; omega)
    refine z_aload hE rfl rfl rfl ?_
    refine z_getR hE (q := 3) rfl shk_1 rfl rfl rfl ?_
    refine z_iload hE rfl rfl ?_
    have hb := h.1
    have h := h.2
    refine z_iald hE rfl shk_3 hb ?_
    refine z_iload hE rfl rfl ?_
    refine z_icmp_le hE rfl ⟨fun q => ?_, fun q => ?_⟩
    · have h := h.1 q
      refine z_iconst hE rfl ?_
      exact z_zret hE rfl rfl (Or.inl rfl) h
    · have h := h.2 q
      refine z_iconst hE rfl ?_
      refine z_goto hE rfl ?_
      exact z_zret hE rfl rfl (Or.inr rfl) h
/-! 82: ChildTrains$OrderReader.read(LChildTrains$Draft;LChildTrains$OrderBook;)I -/
def H_82_12 (d : Nat) (P : Int → Mm → Prop) (a3 : Int) (M : Mm) : Prop := GoG false (EE d) cd_82 (rI P) 12 [vR 39, vR 8, vR 67, vI a3] [] M
theorem mN_82 : mN 82 = 4 := by decide +kernel
theorem ee_82 {d : Nat} {Q : Ql} {M : Mm} (h : GoG false (EE d) cd_82 Q 0 [vR 39, vR 8, vR 67, vU] [] M) : EE (d + 1) 82 [vR 39, vR 8, vR 67] M Q := by
  have e : cdTab 82 = cd_82 := rfl
  unfold EE; rw [mN_82, e]; exact ⟨Nat.le_of_ble_eq_true rfl, h⟩
theorem sg_82 {d : Nat} {P : Int → Mm → Prop} {M : Mm} (h : H_82_12 d P 0 (mset (mset M 39 0 0) 67 8 0)) : EE (d + 1) 82 [vR 39, vR 8, vR 67] M (rI P) := by
  have hE := EE_mono d
  refine ee_82 ?_
  refine z_aload hE rfl rfl rfl ?_
  refine z_iconst hE rfl ?_
  refine z_putI hE (sl := 0) rfl shk_39 rfl rfl rfl ?_
  refine z_aload hE rfl rfl rfl ?_
  refine z_iconst hE rfl ?_
  refine z_putI hE (sl := 8) rfl shk_67 rfl rfl rfl ?_
  refine z_iconst hE rfl ?_
  refine z_istore hE rfl rfl rfl ?_
  exact h
theorem sg_82_12 {d : Nat} {P : Int → Mm → Prop} {a3 : Int} {M : Mm} (h : ((30 < a3 → P (-9) M) ∧ (a3 ≤ 30 → (((M 8 1) ≤ (M 39 0) → P (-9) M) ∧ ((M 39 0) < (M 8 1) → EE d 83 [vR 39, vR 8, vR 67] M (rI fun r1 M1 => ((¬ r1 = 0 → inI (a3 + 1) ∧ H_82_12 d P (a3 + 1) M1) ∧ (r1 = 0 → P (M1 39 0) M1)))))))) : H_82_12 d P a3 M := by
  have hE := EE_mono d
  unfold H_82_12
  refine z_iload hE rfl rfl ?_
  refine z_iconst hE rfl ?_
  refine z_icmp_gt hE rfl ⟨fun q => ?_, fun q => ?_⟩
  · have h := h.1 q
    refine z_iconst hE rfl ?_
    exact z_iret hE rfl rfl h
  · have h := h.2 q
    refine z_aload hE rfl rfl rfl ?_
    refine z_getI hE (sl := 0) rfl shk_39 rfl rfl rfl ?_
    refine z_aload hE rfl rfl rfl ?_
    refine z_getI hE (sl := 1) rfl shk_8 rfl rfl rfl ?_
    refine z_icmp_ge hE rfl ⟨fun q => ?_, fun q => ?_⟩
    · have h := h.1 q
      refine z_iconst hE rfl ?_
      exact z_iret hE rfl rfl h
    · have h := h.2 q
      refine z_aload hE rfl rfl rfl ?_
      refine z_aload hE rfl rfl rfl ?_
      refine z_aload hE rfl rfl rfl ?_
      refine z_callvI hE rfl rfl rfl rfl rfl (Nat.le_of_ble_eq_true rfl) (by decide) ⟨rfl, rfl⟩ (EE_mono d _ _ _ _ _ (rI_mono fun r1 M1 h => ?_) h)
      refine z_if_ne hE rfl ⟨fun q => ?_, fun q => ?_⟩
      · have h := h.1 q
        have hb := h.1
        have h := h.2
        refine z_iinc hE rfl rfl rfl hb ?_
        refine z_goto hE rfl ?_
        exact h
      · have h := h.2 q
        refine z_aload hE rfl rfl rfl ?_
        refine z_getI hE (sl := 0) rfl shk_39 rfl rfl rfl ?_
        exact z_iret hE rfl rfl h
/-! 83: ChildTrains$OrderReader.readOrder(LChildTrains$Draft;LChildTrains$OrderBook;)Z -/
theorem mN_83 : mN 83 = 5 := by decide +kernel
theorem ee_83 {d : Nat} {Q : Ql} {M : Mm} (h : GoG false (EE d) cd_83 Q 0 [vR 39, vR 8, vR 67, vU, vU] [] M) : EE (d + 1) 83 [vR 39, vR 8, vR 67] M Q := by
  have e : cdTab 83 = cd_83 := rfl
  unfold EE; rw [mN_83, e]; exact ⟨Nat.le_of_ble_eq_true rfl, h⟩
theorem sg_83 {d : Nat} {P : Int → Mm → Prop} {M : Mm} (h : (((M 67 8) < 30 → EE d 84 [vR 39, vR 8, vK 0] M (rI fun r1 M1 => (0 ≤ (M 67 8) ∧ (M 67 8) < 30) ∧ (0 ≤ (M 67 8) ∧ (M 67 8) < 30) ∧ ((0 ≤ (mset M1 68 (M 67 8) r1) 68 (M 67 8) → EE d 85 [vR 39, vR 8, vI 99] (mset M1 68 (M 67 8) r1) (rI fun r2 M2 => (0 ≤ (M 67 8) ∧ (M 67 8) < 30) ∧ (0 ≤ (M 67 8) ∧ (M 67 8) < 30) ∧ (((mset M2 69 (M 67 8) r2) 69 (M 67 8) < 0 → P 0 (mset M2 69 (M 67 8) r2)) ∧ (0 ≤ (mset M2 69 (M 67 8) r2) 69 (M 67 8) → EE d 84 [vR 39, vR 8, vK 1] (mset M2 69 (M 67 8) r2) (rI fun r3 M3 => ((0 ≤ r3 → EE d 84 [vR 39, vR 8, vK 2] M3 (rI fun r4 M4 => ((0 ≤ r4 → inI (r4 - 1) ∧ (0 ≤ (M 67 8) ∧ (M 67 8) < 30) ∧ EE d 84 [vR 39, vR 8, vK 3] (mset M4 70 (M 67 8) (r4 - 1)) (rI fun r5 M5 => (0 ≤ (M 67 8) ∧ (M 67 8) < 30) ∧ (0 ≤ (M 67 8) ∧ (M 67 8) < 30) ∧ (((mset M5 71 (M 67 8) r5) 71 (M 67 8) < 0 → P 0 (mset M5 71 (M 67 8) r5)) ∧ (0 ≤ (mset M5 71 (M 67 8) r5) 71 (M 67 8) → EE d 86 [vR 39, vR 8, vR 67, vI (M 67 8)] (mset M5 71 (M 67 8) r5) (rI fun r6 M6 => ((¬ r6 = 0 → inI ((M6 67 8) + 1) ∧ P 1 (mset M6 67 8 ((M6 67 8) + 1))) ∧ (r6 = 0 → P 0 M6))))))) ∧ (r4 < 0 → P 0 M4)))) ∧ (r3 < 0 → P 0 M3))))))) ∧ ((mset M1 68 (M 67 8) r1) 68 (M 67 8) < 0 → P 0 (mset M1 68 (M 67 8) r1))))) ∧ (30 ≤ (M 67 8) → P 0 M))) : EE (d + 1) 83 [vR 39, vR 8, vR 67] M (rI P) := by
  have hE := EE_mono d
  refine ee_83 ?_
  refine z_aload hE rfl rfl rfl ?_
  refine z_getI hE (sl := 8) rfl shk_67 rfl rfl rfl ?_
  refine z_istore hE rfl rfl rfl ?_
  refine z_iload hE rfl rfl ?_
  refine z_iconst hE rfl ?_
  refine z_icmp_lt hE rfl ⟨fun q => ?_, fun q => ?_⟩
  · have h := h.1 q
    refine z_aload hE rfl rfl rfl ?_
    refine z_getR hE (q := 68) rfl shk_67 rfl rfl rfl ?_
    refine z_iload hE rfl rfl ?_
    refine z_aload hE rfl rfl rfl ?_
    refine z_aload hE rfl rfl rfl ?_
    refine z_ldcS hE rfl ?_
    refine z_callvI hE rfl rfl rfl rfl rfl (Nat.le_of_ble_eq_true rfl) (by decide) ⟨rfl, rfl⟩ (EE_mono d _ _ _ _ _ (rI_mono fun r1 M1 h => ?_) h)
    have hb := h.1
    have h := h.2
    refine z_iast hE rfl shk_68 hb ?_
    refine z_aload hE rfl rfl rfl ?_
    refine z_getR hE (q := 68) rfl shk_67 rfl rfl rfl ?_
    refine z_iload hE rfl rfl ?_
    have hb := h.1
    have h := h.2
    refine z_iald hE rfl shk_68 hb ?_
    refine z_if_ge hE rfl ⟨fun q => ?_, fun q => ?_⟩
    · have h := h.1 q
      refine z_aload hE rfl rfl rfl ?_
      refine z_getR hE (q := 69) rfl shk_67 rfl rfl rfl ?_
      refine z_iload hE rfl rfl ?_
      refine z_aload hE rfl rfl rfl ?_
      refine z_aload hE rfl rfl rfl ?_
      refine z_iconst hE rfl ?_
      refine z_callvI hE rfl rfl rfl rfl rfl (Nat.le_of_ble_eq_true rfl) (by decide) ⟨rfl, rfl⟩ (EE_mono d _ _ _ _ _ (rI_mono fun r2 M2 h => ?_) h)
      have hb := h.1
      have h := h.2
      refine z_iast hE rfl shk_69 hb ?_
      refine z_aload hE rfl rfl rfl ?_
      refine z_getR hE (q := 69) rfl shk_67 rfl rfl rfl ?_
      refine z_iload hE rfl rfl ?_
      have hb := h.1
      have h := h.2
      refine z_iald hE rfl shk_69 hb ?_
      refine z_if_lt hE rfl ⟨fun q => ?_, fun q => ?_⟩
      · have h := h.1 q
        refine z_iconst hE rfl ?_
        exact z_zret hE rfl rfl (Or.inl rfl) h
      · have h := h.2 q
        refine z_aload hE rfl rfl rfl ?_
        refine z_aload hE rfl rfl rfl ?_
        refine z_ldcS hE rfl ?_
        refine z_callvI hE rfl rfl rfl rfl rfl (Nat.le_of_ble_eq_true rfl) (by decide) ⟨rfl, rfl⟩ (EE_mono d _ _ _ _ _ (rI_mono fun r3 M3 h => ?_) h)
        refine z_if_ge hE rfl ⟨fun q => ?_, fun q => ?_⟩
        · have h := h.1 q
          refine z_aload hE rfl rfl rfl ?_
          refine z_aload hE rfl rfl rfl ?_
          refine z_ldcS hE rfl ?_
          refine z_callvI hE rfl rfl rfl rfl rfl (Nat.le_of_ble_eq_true rfl) (by decide) ⟨rfl, rfl⟩ (EE_mono d _ _ _ _ _ (rI_mono fun r4 M4 h => ?_) h)
          refine z_istore hE rfl rfl rfl ?_
          refine z_iload hE rfl rfl ?_
          refine z_if_ge hE rfl ⟨fun q => ?_, fun q => ?_⟩
          · have h := h.1 q
            refine z_aload hE rfl rfl rfl ?_
            refine z_getR hE (q := 70) rfl shk_67 rfl rfl rfl ?_
            refine z_iload hE rfl rfl ?_
            refine z_iload hE rfl rfl ?_
            refine z_iconst hE rfl ?_
            have hb := h.1
            have h := h.2
            refine z_isub hE rfl hb ?_
            have hb := h.1
            have h := h.2
            refine z_iast hE rfl shk_70 hb ?_
            refine z_aload hE rfl rfl rfl ?_
            refine z_getR hE (q := 71) rfl shk_67 rfl rfl rfl ?_
            refine z_iload hE rfl rfl ?_
            refine z_aload hE rfl rfl rfl ?_
            refine z_aload hE rfl rfl rfl ?_
            refine z_ldcS hE rfl ?_
            refine z_callvI hE rfl rfl rfl rfl rfl (Nat.le_of_ble_eq_true rfl) (by decide) ⟨rfl, rfl⟩ (EE_mono d _ _ _ _ _ (rI_mono fun r5 M5 h => ?_) h)
            have hb := h.1
            have h := h.2
            refine z_iast hE rfl shk_71 hb ?_
            refine z_aload hE rfl rfl rfl ?_
            refine z_getR hE (q := 71) rfl shk_67 rfl rfl rfl ?_
            refine z_iload hE rfl rfl ?_
            have hb := h.1
            have h := h.2
            refine z_iald hE rfl shk_71 hb ?_
            refine z_if_lt hE rfl ⟨fun q => ?_, fun q => ?_⟩
            · have h := h.1 q
              refine z_iconst hE rfl ?_
              exact z_zret hE rfl rfl (Or.inl rfl) h
            · have h := h.2 q
              refine z_aload hE rfl rfl rfl ?_
              refine z_aload hE rfl rfl rfl ?_
              refine z_aload hE rfl rfl rfl ?_
              refine z_iload hE rfl rfl ?_
              refine z_callvI hE rfl rfl rfl rfl rfl (Nat.le_of_ble_eq_true rfl) (by decide) ⟨rfl, rfl⟩ (EE_mono d _ _ _ _ _ (rI_mono fun r6 M6 h => ?_) h)
              refine z_if_ne hE rfl ⟨fun q => ?_, fun q => ?_⟩
              · have h := h.1 q
                refine z_aload hE rfl rfl rfl ?_
                refine z_dup hE rfl rfl ?_
                refine z_getI hE (sl := 8) rfl shk_67 rfl rfl rfl ?_
                refine z_iconst hE rfl ?_
                have hb := h.1
                have h := h.2
                refine z_iadd hE rfl hb ?_
                refine z_putI hE (sl := 8) rfl shk_67 rfl rfl rfl ?_
                refine z_iconst hE rfl ?_
                exact z_zret hE rfl rfl (Or.inr rfl) h
              · have h := h.2 q
                refine z_iconst hE rfl ?_
                exact z_zret hE rfl rfl (Or.inl rfl) h
          · have h := h.2 q
            refine z_iconst hE rfl ?_
            exact z_zret hE rfl rfl (Or.inl rfl) h
        · have h := h.2 q
          refine z_iconst hE rfl ?_
          exact z_zret hE rfl rfl (Or.inl rfl) h
    · have h := h.2 q
      refine z_iconst hE rfl ?_
      exact z_zret hE rfl rfl (Or.inl rfl) h
  · have h := h.2 q
    refine z_iconst hE rfl ?_
    exact z_zret hE rfl rfl (Or.inl rfl) h
/-! 84: ChildTrains$OrderReader.readSign(LChildTrains$Draft;Ljava/lang/String;)I -/
def H_84_2 (d : Nat) (P : Int → Mm → Prop) (a2 : Nat) (a3 : Int) (M : Mm) : Prop := GoG false (EE d) cd_84 (rI P) 2 [vR 39, vR 8, vK a2, vI a3] [] M
theorem mN_84 : mN 84 = 4 := by decide +kernel
theorem ee_84 {d : Nat} {Q : Ql} {a2 : Nat} {M : Mm} (h : GoG false (EE d) cd_84 Q 0 [vR 39, vR 8, vK a2, vU] [] M) : EE (d + 1) 84 [vR 39, vR 8, vK a2] M Q := by
  have e : cdTab 84 = cd_84 := rfl
  unfold EE; rw [mN_84, e]; exact ⟨Nat.le_of_ble_eq_true rfl, h⟩
theorem sg_84 {d : Nat} {P : Int → Mm → Prop} {a2 : Nat} {M : Mm} (hK : a2 < 8) (h : H_84_2 d P a2 0 M) : EE (d + 1) 84 [vR 39, vR 8, vK a2] M (rI P) := by
  have hE := EE_mono d
  refine ee_84 ?_
  refine z_iconst hE rfl ?_
  refine z_istore hE rfl rfl rfl ?_
  exact h
theorem sg_84_2 {d : Nat} {P : Int → Mm → Prop} {a2 : Nat} {a3 : Int} {M : Mm} (hK : a2 < 8) (h : EE d 176 [vK a2] M (rI fun r1 M1 => ((r1 ≤ a3 → P (-9) M1) ∧ (a3 < r1 → EE d 60 [vR 8, vI (M1 39 0)] M1 (rI fun r2 M2 => EE d 178 [vK a2, vI a3] M2 (rI fun r3 M3 => ((¬ r2 = r3 → inI (a3 + 1) ∧ H_84_2 d P a2 (a3 + 1) M3) ∧ (r2 = r3 → inI ((M3 39 0) + 1) ∧ P a3 (mset M3 39 0 ((M3 39 0) + 1)))))))))) : H_84_2 d P a2 a3 M := by
  have hE := EE_mono d
  unfold H_84_2
  refine z_iload hE rfl rfl ?_
  refine z_aload hE rfl rfl rfl ?_
  refine z_callvI hE rfl rfl rfl rfl rfl (Nat.le_of_ble_eq_true rfl) (by decide) ⟨rfl, hK⟩ (EE_mono d _ _ _ _ _ (rI_mono fun r1 M1 h => ?_) h)
  refine z_icmp_ge hE rfl ⟨fun q => ?_, fun q => ?_⟩
  · have h := h.1 q
    refine z_iconst hE rfl ?_
    exact z_iret hE rfl rfl h
  · have h := h.2 q
    refine z_aload hE rfl rfl rfl ?_
    refine z_aload hE rfl rfl rfl ?_
    refine z_getI hE (sl := 0) rfl shk_39 rfl rfl rfl ?_
    refine z_callvI hE rfl rfl rfl rfl rfl (Nat.le_of_ble_eq_true rfl) (by decide) ⟨rfl, rfl⟩ (EE_mono d _ _ _ _ _ (rI_mono fun r2 M2 h => ?_) h)
    refine z_aload hE rfl rfl rfl ?_
    refine z_iload hE rfl rfl ?_
    refine z_callvI hE rfl rfl rfl rfl rfl (Nat.le_of_ble_eq_true rfl) (by decide) ⟨rfl, hK⟩ (EE_mono d _ _ _ _ _ (rI_mono fun r3 M3 h => ?_) h)
    refine z_icmp_ne hE rfl ⟨fun q => ?_, fun q => ?_⟩
    · have h := h.1 q
      have hb := h.1
      have h := h.2
      refine z_iinc hE rfl rfl rfl hb ?_
      refine z_goto hE rfl ?_
      exact h
    · have h := h.2 q
      refine z_aload hE rfl rfl rfl ?_
      refine z_dup hE rfl rfl ?_
      refine z_getI hE (sl := 0) rfl shk_39 rfl rfl rfl ?_
      refine z_iconst hE rfl ?_
      have hb := h.1
      have h := h.2
      refine z_iadd hE rfl hb ?_
      refine z_putI hE (sl := 0) rfl shk_39 rfl rfl rfl ?_
      refine z_iload hE rfl rfl ?_
      exact z_iret hE rfl rfl h
/-! 85: ChildTrains$OrderReader.readNumber(LChildTrains$Draft;I)I -/
def H_85_42 (d : Nat) (P : Int → Mm → Prop) (a2 : Int) (a3 : Int) (a4 : Int) (M : Mm) : Prop := GoG false (EE d) cd_85 (rI P) 42 [vR 39, vR 8, vI a2, vI a3, vI a4, vU] [] M
theorem mN_85 : mN 85 = 6 := by decide +kernel
theorem ee_85 {d : Nat} {Q : Ql} {a2 : Int} {M : Mm} (h : GoG false (EE d) cd_85 Q 0 [vR 39, vR 8, vI a2, vU, vU, vU] [] M) : EE (d + 1) 85 [vR 39, vR 8, vI a2] M Q := by
  have e : cdTab 85 = cd_85 := rfl
  unfold EE; rw [mN_85, e]; exact ⟨Nat.le_of_ble_eq_true rfl, h⟩
theorem sg_85 {d : Nat} {P : Int → Mm → Prop} {a2 : Int} {M : Mm} (h : EE d 60 [vR 8, vI (M 39 0)] M (rI fun r1 M1 => inI (r1 - 48) ∧ EE d 32 [vI (r1 - 48), vI 0, vI (if 9 < a2 then 9 else a2)] M1 (rI fun r2 M2 => ((¬ r2 = 0 → inI ((M2 39 0) + 1) ∧ H_85_42 d P a2 (r1 - 48) 0 (mset M2 39 0 ((M2 39 0) + 1))) ∧ (r2 = 0 → P (-9) M2))))) : EE (d + 1) 85 [vR 39, vR 8, vI a2] M (rI P) := by
  have hE := EE_mono d
  refine ee_85 ?_
  refine z_aload hE rfl rfl rfl ?_
  refine z_aload hE rfl rfl rfl ?_
  refine z_getI hE (sl := 0) rfl shk_39 rfl rfl rfl ?_
  refine z_callvI hE rfl rfl rfl rfl rfl (Nat.le_of_ble_eq_true rfl) (by decide) ⟨rfl, rfl⟩ (EE_mono d _ _ _ _ _ (rI_mono fun r1 M1 h => ?_) h)
  refine z_iconst hE rfl ?_
  have hb := h.1
  have h := h.2
  refine z_isub hE rfl hb ?_
  refine z_istore hE rfl rfl rfl ?_
  refine z_iload hE rfl rfl ?_
  refine z_iconst hE rfl ?_
  refine z_iload hE rfl rfl ?_
  refine z_iconst hE rfl ?_
  refine z_min hE rfl (Nat.le_of_ble_eq_true rfl) ?_
  refine z_callsI hE rfl rfl rfl rfl rfl (Nat.le_of_ble_eq_true rfl) (by decide) (EE_mono d _ _ _ _ _ (rI_mono fun r2 M2 h => ?_) h)
  refine z_if_ne hE rfl ⟨fun q => ?_, fun q => ?_⟩
  · have h := h.1 q
    refine z_aload hE rfl rfl rfl ?_
    refine z_dup hE rfl rfl ?_
    refine z_getI hE (sl := 0) rfl shk_39 rfl rfl rfl ?_
    refine z_iconst hE rfl ?_
    have hb := h.1
    have h := h.2
    refine z_iadd hE rfl hb ?_
    refine z_putI hE (sl := 0) rfl shk_39 rfl rfl rfl ?_
    refine z_iconst hE rfl ?_
    refine z_istore hE rfl rfl rfl ?_
    exact h
  · have h := h.2 q
    refine z_iconst hE rfl ?_
    exact z_iret hE rfl rfl h
theorem sg_85_42 {d : Nat} {P : Int → Mm → Prop} {a2 : Int} {a3 : Int} {a4 : Int} {M : Mm} (h : ((2 ≤ a4 → P a3 M) ∧ (a4 < 2 → EE d 60 [vR 8, vI (M 39 0)] M (rI fun r1 M1 => inI (r1 - 48) ∧ EE d 32 [vI (r1 - 48), vI 0, vI 9] M1 (rI fun r2 M2 => ((¬ r2 = 0 → ((a3 = 0 → P (-9) M2) ∧ (¬ a3 = 0 → inI (a3 * 10) ∧ inI ((a3 * 10) + (r1 - 48)) ∧ ((((a3 * 10) + (r1 - 48)) ≤ a2 → inI (a3 * 10) ∧ inI ((a3 * 10) + (r1 - 48)) ∧ inI ((M2 39 0) + 1) ∧ inI (a4 + 1) ∧ H_85_42 d P a2 ((a3 * 10) + (r1 - 48)) (a4 + 1) (mset M2 39 0 ((M2 39 0) + 1))) ∧ (a2 < ((a3 * 10) + (r1 - 48)) → P (-9) M2))))) ∧ (r2 = 0 → P a3 M2))))))) : H_85_42 d P a2 a3 a4 M := by
  have hE := EE_mono d
  unfold H_85_42
  refine z_iload hE rfl rfl ?_
  refine z_iconst hE rfl ?_
  refine z_icmp_ge hE rfl ⟨fun q => ?_, fun q => ?_⟩
  · have h := h.1 q
    refine z_iload hE rfl rfl ?_
    exact z_iret hE rfl rfl h
  · have h := h.2 q
    refine z_aload hE rfl rfl rfl ?_
    refine z_aload hE rfl rfl rfl ?_
    refine z_getI hE (sl := 0) rfl shk_39 rfl rfl rfl ?_
    refine z_callvI hE rfl rfl rfl rfl rfl (Nat.le_of_ble_eq_true rfl) (by decide) ⟨rfl, rfl⟩ (EE_mono d _ _ _ _ _ (rI_mono fun r1 M1 h => ?_) h)
    refine z_iconst hE rfl ?_
    have hb := h.1
    have h := h.2
    refine z_isub hE rfl hb ?_
    refine z_istore hE rfl rfl rfl ?_
    refine z_iload hE rfl rfl ?_
    refine z_iconst hE rfl ?_
    refine z_iconst hE rfl ?_
    refine z_callsI hE rfl rfl rfl rfl rfl (Nat.le_of_ble_eq_true rfl) (by decide) (EE_mono d _ _ _ _ _ (rI_mono fun r2 M2 h => ?_) h)
    refine z_if_ne hE rfl ⟨fun q => ?_, fun q => ?_⟩
    · have h := h.1 q
      refine z_iload hE rfl rfl ?_
      refine z_if_eq hE rfl ⟨fun q => ?_, fun q => ?_⟩
      · have h := h.1 q
        refine z_iconst hE rfl ?_
        exact z_iret hE rfl rfl h
      · have h := h.2 q
        refine z_iload hE rfl rfl ?_
        refine z_iconst hE rfl ?_
        have hb := h.1
        have h := h.2
        refine z_imul hE rfl hb ?_
        refine z_iload hE rfl rfl ?_
        have hb := h.1
        have h := h.2
        refine z_iadd hE rfl hb ?_
        refine z_iload hE rfl rfl ?_
        refine z_icmp_le hE rfl ⟨fun q => ?_, fun q => ?_⟩
        · have h := h.1 q
          refine z_iload hE rfl rfl ?_
          refine z_iconst hE rfl ?_
          have hb := h.1
          have h := h.2
          refine z_imul hE rfl hb ?_
          refine z_iload hE rfl rfl ?_
          have hb := h.1
          have h := h.2
          refine z_iadd hE rfl hb ?_
          refine z_istore hE rfl rfl rfl ?_
          refine z_aload hE rfl rfl rfl ?_
          refine z_dup hE rfl rfl ?_
          refine z_getI hE (sl := 0) rfl shk_39 rfl rfl rfl ?_
          refine z_iconst hE rfl ?_
          have hb := h.1
          have h := h.2
          refine z_iadd hE rfl hb ?_
          refine z_putI hE (sl := 0) rfl shk_39 rfl rfl rfl ?_
          have hb := h.1
          have h := h.2
          refine z_iinc hE rfl rfl rfl hb ?_
          refine z_goto hE rfl ?_
          exact GoG.weak hE (ls := [vR 39, vR 8, vI a2, vI ((a3 * 10) + (r1 - 48)), vI (a4 + 1), vU]) ⟨Or.inl rfl, Or.inl rfl, Or.inl rfl, Or.inl rfl, Or.inl rfl, Or.inr ⟨rfl, _, rfl⟩, trivial⟩ h
        · have h := h.2 q
          refine z_iconst hE rfl ?_
          exact z_iret hE rfl rfl h
    · have h := h.2 q
      refine z_iload hE rfl rfl ?_
      exact z_iret hE rfl rfl h
/-! 86: ChildTrains$OrderReader.readConds(LChildTrains$Draft;LChildTrains$OrderBook;I)Z -/
def H_86_10 (d : Nat) (P : Int → Mm → Prop) (a3 : Int) (a4 : Int) (M : Mm) : Prop := GoG false (EE d) cd_86 (rI P) 10 [vR 39, vR 8, vR 67, vI a3, vI a4] [] M
def H_86_67 (d : Nat) (P : Int → Mm → Prop) (M : Mm) : Prop := GoG false (EE d) cd_86 (rI P) 67 [vR 39, vR 8, vR 67, vU, vU] [] M
theorem mN_86 : mN 86 = 5 := by decide +kernel
theorem ee_86 {d : Nat} {Q : Ql} {a3 : Int} {M : Mm} (h : GoG false (EE d) cd_86 Q 0 [vR 39, vR 8, vR 67, vI a3, vU] [] M) : EE (d + 1) 86 [vR 39, vR 8, vR 67, vI a3] M Q := by
  have e : cdTab 86 = cd_86 := rfl
  unfold EE; rw [mN_86, e]; exact ⟨Nat.le_of_ble_eq_true rfl, h⟩
theorem sg_86 {d : Nat} {P : Int → Mm → Prop} {a3 : Int} {M : Mm} (h : (0 ≤ a3 ∧ a3 < 30) ∧ H_86_10 d P a3 0 (mset M 72 a3 0)) : EE (d + 1) 86 [vR 39, vR 8, vR 67, vI a3] M (rI P) := by
  have hE := EE_mono d
  refine ee_86 ?_
  refine z_aload hE rfl rfl rfl ?_
  refine z_getR hE (q := 72) rfl shk_67 rfl rfl rfl ?_
  refine z_iload hE rfl rfl ?_
  refine z_iconst hE rfl ?_
  have hb := h.1
  have h := h.2
  refine z_iast hE rfl shk_72 hb ?_
  refine z_iconst hE rfl ?_
  refine z_istore hE rfl rfl rfl ?_
  exact h
theorem sg_86_10 {d : Nat} {P : Int → Mm → Prop} {a3 : Int} {a4 : Int} {M : Mm} (h : ((6 ≤ a4 → H_86_67 d P M) ∧ (a4 < 6 → EE d 60 [vR 8, vI (M 39 0)] M (rI fun r1 M1 => ((¬ r1 = 59 → inI (a3 * 6) ∧ inI ((a3 * 6) + a4) ∧ EE d 87 [vR 39, vR 8, vR 67, vI ((a3 * 6) + a4)] M1 (rI fun r2 M2 => ((¬ r2 = 0 → (0 ≤ a3 ∧ a3 < 30) ∧ inI ((M2 72 a3) + 1) ∧ (0 ≤ a3 ∧ a3 < 30) ∧ inI (a4 + 1) ∧ H_86_10 d P a3 (a4 + 1) (mset M2 72 a3 ((M2 72 a3) + 1))) ∧ (r2 = 0 → P 0 M2)))) ∧ (r1 = 59 → H_86_67 d P M1)))))) : H_86_10 d P a3 a4 M := by
  have hE := EE_mono d
  unfold H_86_10
  refine z_iload hE rfl rfl ?_
  refine z_iconst hE rfl ?_
  refine z_icmp_ge hE rfl ⟨fun q => ?_, fun q => ?_⟩
  · have h := h.1 q
    exact GoG.weak hE (ls := [vR 39, vR 8, vR 67, vU, vU]) ⟨Or.inl rfl, Or.inl rfl, Or.inl rfl, Or.inr ⟨rfl, _, rfl⟩, Or.inr ⟨rfl, _, rfl⟩, trivial⟩ h
  · have h := h.2 q
    refine z_aload hE rfl rfl rfl ?_
    refine z_aload hE rfl rfl rfl ?_
    refine z_getI hE (sl := 0) rfl shk_39 rfl rfl rfl ?_
    refine z_callvI hE rfl rfl rfl rfl rfl (Nat.le_of_ble_eq_true rfl) (by decide) ⟨rfl, rfl⟩ (EE_mono d _ _ _ _ _ (rI_mono fun r1 M1 h => ?_) h)
    refine z_iconst hE rfl ?_
    refine z_icmp_ne hE rfl ⟨fun q => ?_, fun q => ?_⟩
    · have h := h.1 q
      refine z_aload hE rfl rfl rfl ?_
      refine z_aload hE rfl rfl rfl ?_
      refine z_aload hE rfl rfl rfl ?_
      refine z_iload hE rfl rfl ?_
      refine z_iconst hE rfl ?_
      have hb := h.1
      have h := h.2
      refine z_imul hE rfl hb ?_
      refine z_iload hE rfl rfl ?_
      have hb := h.1
      have h := h.2
      refine z_iadd hE rfl hb ?_
      refine z_callvI hE rfl rfl rfl rfl rfl (Nat.le_of_ble_eq_true rfl) (by decide) ⟨rfl, rfl⟩ (EE_mono d _ _ _ _ _ (rI_mono fun r2 M2 h => ?_) h)
      refine z_if_ne hE rfl ⟨fun q => ?_, fun q => ?_⟩
      · have h := h.1 q
        refine z_aload hE rfl rfl rfl ?_
        refine z_getR hE (q := 72) rfl shk_67 rfl rfl rfl ?_
        refine z_iload hE rfl rfl ?_
        refine z_dup2 hE rfl rfl rfl ?_
        have hb := h.1
        have h := h.2
        refine z_iald hE rfl shk_72 hb ?_
        refine z_iconst hE rfl ?_
        have hb := h.1
        have h := h.2
        refine z_iadd hE rfl hb ?_
        have hb := h.1
        have h := h.2
        refine z_iast hE rfl shk_72 hb ?_
        have hb := h.1
        have h := h.2
        refine z_iinc hE rfl rfl rfl hb ?_
        refine z_goto hE rfl ?_
        exact h
      · have h := h.2 q
        refine z_iconst hE rfl ?_
        exact z_zret hE rfl rfl (Or.inl rfl) h
    · have h := h.2 q
      refine z_goto hE rfl ?_
      exact GoG.weak hE (ls := [vR 39, vR 8, vR 67, vU, vU]) ⟨Or.inl rfl, Or.inl rfl, Or.inl rfl, Or.inr ⟨rfl, _, rfl⟩, Or.inr ⟨rfl, _, rfl⟩, trivial⟩ h
theorem sg_86_67 {d : Nat} {P : Int → Mm → Prop} {M : Mm} (h : EE d 84 [vR 39, vR 8, vK 7] M (rI fun r1 M1 => ((r1 < 0 → P 0 M1) ∧ (0 ≤ r1 → P 1 M1)))) : H_86_67 d P M := by
  have hE := EE_mono d
  unfold H_86_67
  refine z_aload hE rfl rfl rfl ?_
  refine z_aload hE rfl rfl rfl ?_
  refine z_ldcS hE rfl ?_
  refine z_callvI hE rfl rfl rfl rfl rfl (Nat.le_of_ble_eq_true rfl) (by decide) ⟨rfl, rfl⟩ (EE_mono d _ _ _ _ _ (rI_mono fun r1 M1 h => ?_) h)
  refine z_if_lt hE rfl ⟨fun q => ?_, fun q => ?_⟩
  · have h := h.1 q
    refine z_iconst hE rfl ?_
    exact z_zret hE rfl rfl (Or.inl rfl) h
  · have h := h.2 q
    refine z_iconst hE rfl ?_
    refine z_goto hE rfl ?_
    exact z_zret hE rfl rfl (Or.inr rfl) h
/-! 87: ChildTrains$OrderReader.readCond(LChildTrains$Draft;LChildTrains$OrderBook;I)Z -/
def H_87_20 (d : Nat) (P : Int → Mm → Prop) (a3 : Int) (s0 : Int) (s1 : Int) (M : Mm) : Prop := GoG false (EE d) cd_87 (rI P) 20 [vR 39, vR 8, vR 67, vI a3, vU, vU] [vI s0, vI s1, vR 75] M
def H_87_54 (d : Nat) (P : Int → Mm → Prop) (a3 : Int) (a4 : Int) (s0 : Int) (M : Mm) : Prop := GoG false (EE d) cd_87 (rI P) 54 [vR 39, vR 8, vR 67, vI a3, vI a4, vU] [vI s0] M
def H_87_79 (d : Nat) (P : Int → Mm → Prop) (a3 : Int) (a4 : Int) (s0 : Int) (s1 : Int) (M : Mm) : Prop := GoG false (EE d) cd_87 (rI P) 79 [vR 39, vR 8, vR 67, vI a3, vI a4, vU] [vI s0, vI s1, vR 73] M
def H_87_106 (d : Nat) (P : Int → Mm → Prop) (a3 : Int) (s0 : Int) (s1 : Int) (M : Mm) : Prop := GoG false (EE d) cd_87 (rI P) 106 [vR 39, vR 8, vR 67, vI a3, vU, vU] [vI s0, vI s1, vR 74] M
theorem mN_87 : mN 87 = 6 := by decide +kernel
theorem ee_87 {d : Nat} {Q : Ql} {a3 : Int} {M : Mm} (h : GoG false (EE d) cd_87 Q 0 [vR 39, vR 8, vR 67, vI a3, vU, vU] [] M) : EE (d + 1) 87 [vR 39, vR 8, vR 67, vI a3] M Q := by
  have e : cdTab 87 = cd_87 := rfl
  unfold EE; rw [mN_87, e]; exact ⟨Nat.le_of_ble_eq_true rfl, h⟩
theorem sg_87 {d : Nat} {P : Int → Mm → Prop} {a3 : Int} {M : Mm} (h : EE d 84 [vR 39, vR 8, vK 4] M (rI fun r1 M1 => ((r1 < 0 → H_87_20 d P a3 0 a3 M1) ∧ (0 ≤ r1 → H_87_20 d P a3 1 a3 M1)))) : EE (d + 1) 87 [vR 39, vR 8, vR 67, vI a3] M (rI P) := by
  have hE := EE_mono d
  refine ee_87 ?_
  refine z_aload hE rfl rfl rfl ?_
  refine z_getR hE (q := 75) rfl shk_67 rfl rfl rfl ?_
  refine z_iload hE rfl rfl ?_
  refine z_aload hE rfl rfl rfl ?_
  refine z_aload hE rfl rfl rfl ?_
  refine z_ldcS hE rfl ?_
  refine z_callvI hE rfl rfl rfl rfl rfl (Nat.le_of_ble_eq_true rfl) (by decide) ⟨rfl, rfl⟩ (EE_mono d _ _ _ _ _ (rI_mono fun r1 M1 h => ?_) h)
  refine z_if_lt hE rfl ⟨fun q => ?_, fun q => ?_⟩
  · have h := h.1 q
    refine z_iconst hE rfl ?_
    exact h
  · have h := h.2 q
    refine z_iconst hE rfl ?_
    refine z_goto hE rfl ?_
    exact h
theorem sg_87_20 {d : Nat} {P : Int → Mm → Prop} {a3 : Int} {s0 : Int} {s1 : Int} {M : Mm} (h : (s0 = 0 ∨ s0 = 1) ∧ (0 ≤ s1 ∧ s1 < 180) ∧ EE d 84 [vR 39, vR 8, vK 5] (mset M 75 s1 s0) (rI fun r1 M1 => ((0 ≤ r1 → ((¬ r1 = 1 → H_87_54 d P a3 r1 0 M1) ∧ (r1 = 1 → EE d 84 [vR 39, vR 8, vK 6] M1 (rI fun r2 M2 => H_87_54 d P a3 r1 r2 M2)))) ∧ (r1 < 0 → P 0 M1)))) : H_87_20 d P a3 s0 s1 M := by
  have hE := EE_mono d
  unfold H_87_20
  have hb := h.1
  have h := h.2
  have hx := hb
  have hb := h.1
  have h := h.2
  refine z_bast hE rfl shk_75 hx hb ?_
  refine z_aload hE rfl rfl rfl ?_
  refine z_aload hE rfl rfl rfl ?_
  refine z_ldcS hE rfl ?_
  refine z_callvI hE rfl rfl rfl rfl rfl (Nat.le_of_ble_eq_true rfl) (by decide) ⟨rfl, rfl⟩ (EE_mono d _ _ _ _ _ (rI_mono fun r1 M1 h => ?_) h)
  refine z_istore hE rfl rfl rfl ?_
  refine z_iload hE rfl rfl ?_
  refine z_if_ge hE rfl ⟨fun q => ?_, fun q => ?_⟩
  · have h := h.1 q
    refine z_iload hE rfl rfl ?_
    refine z_iconst hE rfl ?_
    refine z_icmp_ne hE rfl ⟨fun q => ?_, fun q => ?_⟩
    · have h := h.1 q
      refine z_iconst hE rfl ?_
      exact h
    · have h := h.2 q
      refine z_aload hE rfl rfl rfl ?_
      refine z_aload hE rfl rfl rfl ?_
      refine z_ldcS hE rfl ?_
      refine z_callvI hE rfl rfl rfl rfl rfl (Nat.le_of_ble_eq_true rfl) (by decide) ⟨rfl, rfl⟩ (EE_mono d _ _ _ _ _ (rI_mono fun r2 M2 h => ?_) h)
      refine z_goto hE rfl ?_
      exact h
  · have h := h.2 q
    refine z_iconst hE rfl ?_
    exact z_zret hE rfl rfl (Or.inl rfl) h
theorem sg_87_54 {d : Nat} {P : Int → Mm → Prop} {a3 : Int} {a4 : Int} {s0 : Int} {M : Mm} (h : ((0 ≤ s0 → ((¬ s0 = 0 → H_87_79 d P a3 a4 5 a3 M) ∧ (s0 = 0 → H_87_79 d P a3 a4 a4 a3 M))) ∧ (s0 < 0 → P 0 M))) : H_87_54 d P a3 a4 s0 M := by
  have hE := EE_mono d
  unfold H_87_54
  refine z_istore hE rfl rfl rfl ?_
  refine z_iload hE rfl rfl ?_
  refine z_if_ge hE rfl ⟨fun q => ?_, fun q => ?_⟩
  · have h := h.1 q
    refine z_aload hE rfl rfl rfl ?_
    refine z_getR hE (q := 73) rfl shk_67 rfl rfl rfl ?_
    refine z_iload hE rfl rfl ?_
    refine z_iload hE rfl rfl ?_
    refine z_if_ne hE rfl ⟨fun q => ?_, fun q => ?_⟩
    · have h := h.1 q
      refine z_iconst hE rfl ?_
      exact GoG.weak hE (ls := [vR 39, vR 8, vR 67, vI a3, vI a4, vU]) ⟨Or.inl rfl, Or.inl rfl, Or.inl rfl, Or.inl rfl, Or.inl rfl, Or.inr ⟨rfl, _, rfl⟩, trivial⟩ h
    · have h := h.2 q
      refine z_iload hE rfl rfl ?_
      refine z_goto hE rfl ?_
      exact GoG.weak hE (ls := [vR 39, vR 8, vR 67, vI a3, vI a4, vU]) ⟨Or.inl rfl, Or.inl rfl, Or.inl rfl, Or.inl rfl, Or.inl rfl, Or.inr ⟨rfl, _, rfl⟩, trivial⟩ h
  · have h := h.2 q
    refine z_iconst hE rfl ?_
    exact z_zret hE rfl rfl (Or.inl rfl) h
theorem sg_87_79 {d : Nat} {P : Int → Mm → Prop} {a3 : Int} {a4 : Int} {s0 : Int} {s1 : Int} {M : Mm} (h : (0 ≤ s1 ∧ s1 < 180) ∧ ((¬ a4 = 2 → (0 ≤ a4 ∧ a4 < 5) ∧ EE d 85 [vR 39, vR 8, vI ((tbL.getD 10 []).getD (a4).toNat 0)] (mset M 73 s1 s0) (rI fun r1 M1 => H_87_106 d P a3 r1 a3 M1)) ∧ (a4 = 2 → H_87_106 d P a3 0 a3 (mset M 73 s1 s0)))) : H_87_79 d P a3 a4 s0 s1 M := by
  have hE := EE_mono d
  unfold H_87_79
  have hb := h.1
  have h := h.2
  refine z_iast hE rfl shk_73 hb ?_
  refine z_aload hE rfl rfl rfl ?_
  refine z_getR hE (q := 74) rfl shk_67 rfl rfl rfl ?_
  refine z_iload hE rfl rfl ?_
  refine z_iload hE rfl rfl ?_
  refine z_iconst hE rfl ?_
  refine z_icmp_ne hE rfl ⟨fun q => ?_, fun q => ?_⟩
  · have h := h.1 q
    refine z_aload hE rfl rfl rfl ?_
    refine z_aload hE rfl rfl rfl ?_
    refine z_getsT hE rfl (by decide) ?_
    refine z_iload hE rfl rfl ?_
    have hb := h.1
    have h := h.2
    refine z_ialdT hE rfl (by decide) rfl hb ?_
    refine z_callvI hE rfl rfl rfl rfl rfl (Nat.le_of_ble_eq_true rfl) (by decide) ⟨rfl, rfl⟩ (EE_mono d _ _ _ _ _ (rI_mono fun r1 M1 h => ?_) h)
    exact GoG.weak hE (ls := [vR 39, vR 8, vR 67, vI a3, vU, vU]) ⟨Or.inl rfl, Or.inl rfl, Or.inl rfl, Or.inl rfl, Or.inr ⟨rfl, _, rfl⟩, Or.inl rfl, trivial⟩ h
  · have h := h.2 q
    refine z_iconst hE rfl ?_
    refine z_goto hE rfl ?_
    exact GoG.weak hE (ls := [vR 39, vR 8, vR 67, vI a3, vU, vU]) ⟨Or.inl rfl, Or.inl rfl, Or.inl rfl, Or.inl rfl, Or.inr ⟨rfl, _, rfl⟩, Or.inl rfl, trivial⟩ h
theorem sg_87_106 {d : Nat} {P : Int → Mm → Prop} {a3 : Int} {s0 : Int} {s1 : Int} {M : Mm} (h : (0 ≤ s1 ∧ s1 < 180) ∧ (0 ≤ a3 ∧ a3 < 180) ∧ (((mset M 74 s1 s0) 74 a3 < 0 → P 0 (mset M 74 s1 s0)) ∧ (0 ≤ (mset M 74 s1 s0) 74 a3 → P 1 (mset M 74 s1 s0)))) : H_87_106 d P a3 s0 s1 M := by
  have hE := EE_mono d
  unfold H_87_106
  have hb := h.1
  have h := h.2
  refine z_iast hE rfl shk_74 hb ?_
  refine z_aload hE rfl rfl rfl ?_
  refine z_getR hE (q := 74) rfl shk_67 rfl rfl rfl ?_
  refine z_iload hE rfl rfl ?_
  have hb := h.1
  have h := h.2
  refine z_iald hE rfl shk_74 hb ?_
  refine z_if_lt hE rfl ⟨fun q => ?_, fun q => ?_⟩
  · have h := h.1 q
    refine z_iconst hE rfl ?_
    exact z_zret hE rfl rfl (Or.inl rfl) h
  · have h := h.2 q
    refine z_iconst hE rfl ?_
    refine z_goto hE rfl ?_
    exact z_zret hE rfl rfl (Or.inr rfl) h
/-! 88: ChildTrains.isChild(I)Z -/
theorem mN_88 : mN 88 = 2 := by decide +kernel
theorem ee_88 {d : Nat} {Q : Ql} {a1 : Int} {M : Mm} (h : GoG false (EE d) cd_88 Q 0 [vR 0, vI a1] [] M) : EE (d + 1) 88 [vR 0, vI a1] M Q := by
  have e : cdTab 88 = cd_88 := rfl
  unfold EE; rw [mN_88, e]; exact ⟨Nat.le_of_ble_eq_true rfl, h⟩
theorem sg_88 {d : Nat} {P : Int → Mm → Prop} {a1 : Int} {M : Mm} (h : inI ((M 1 6) - 1) ∧ EE d 32 [vI a1, vI 0, vI ((M 1 6) - 1)] M (rI fun r1 M1 => (r1 = 0 ∨ r1 = 1) ∧ P r1 M1)) : EE (d + 1) 88 [vR 0, vI a1] M (rI P) := by
  have hE := EE_mono d
  refine ee_88 ?_
  refine z_iload hE rfl rfl ?_
  refine z_iconst hE rfl ?_
  refine z_aload hE rfl rfl rfl ?_
  refine z_getR hE (q := 1) rfl shk_0 rfl rfl rfl ?_
  refine z_getI hE (sl := 6) rfl shk_1 rfl rfl rfl ?_
  refine z_iconst hE rfl ?_
  have hb := h.1
  have h := h.2
  refine z_isub hE rfl hb ?_
  refine z_callsI hE rfl rfl rfl rfl rfl (Nat.le_of_ble_eq_true rfl) (by decide) (EE_mono d _ _ _ _ _ (rI_mono fun r1 M1 h => ?_) h)
  have hb := h.1
  have h := h.2
  exact z_zret hE rfl rfl hb h
/-! 89: ChildTrains.isChild(I)Z -/
theorem mN_89 : mN 89 = 2 := by decide +kernel
theorem ee_89 {d : Nat} {Q : Ql} {a1 : Int} {M : Mm} (h : GoG false (EE d) cd_89 Q 0 [vR 0, vI a1] [] M) : EE (d + 1) 89 [vR 0, vI a1] M Q := by
  have e : cdTab 89 = cd_89 := rfl
  unfold EE; rw [mN_89, e]; exact ⟨Nat.le_of_ble_eq_true rfl, h⟩
theorem sg_89 {d : Nat} {P : Int → Mm → Prop} {a1 : Int} {M : Mm} (h : inI ((M 1 6) - 1) ∧ EE d 32 [vI a1, vI 0, vI ((M 1 6) - 1)] M (rI fun r1 M1 => (r1 = 0 ∨ r1 = 1) ∧ P r1 M1)) : EE (d + 1) 89 [vR 0, vI a1] M (rI P) := by
  have hE := EE_mono d
  refine ee_89 ?_
  refine z_iload hE rfl rfl ?_
  refine z_iconst hE rfl ?_
  refine z_aload hE rfl rfl rfl ?_
  refine z_getR hE (q := 1) rfl shk_0 rfl rfl rfl ?_
  refine z_getI hE (sl := 6) rfl shk_1 rfl rfl rfl ?_
  refine z_iconst hE rfl ?_
  have hb := h.1
  have h := h.2
  refine z_isub hE rfl hb ?_
  refine z_callsI hE rfl rfl rfl rfl rfl (Nat.le_of_ble_eq_true rfl) (by decide) (EE_mono d _ _ _ _ _ (rI_mono fun r1 M1 h => ?_) h)
  have hb := h.1
  have h := h.2
  exact z_zret hE rfl rfl hb h
/-! 90: ChildTrains$Paths.solve(LChildTrains$Children;LChildTrains$Platform;LChildTrains$Houses;)V -/
def H_90_24 (d : Nat) (P : Mm → Prop) (a4 : Int) (M : Mm) : Prop := GoG false (EE d) cd_90 (rV P) 24 [vR 47, vR 1, vR 10, vR 24, vI a4] [] M
def H_90_61 (d : Nat) (P : Mm → Prop) (a4 : Int) (M : Mm) : Prop := GoG false (EE d) cd_90 (rV P) 61 [vR 47, vR 1, vR 10, vR 24, vI a4] [] M
def H_90_121 (d : Nat) (P : Mm → Prop) (a4 : Int) (M : Mm) : Prop := GoG false (EE d) cd_90 (rV P) 121 [vR 47, vR 1, vR 10, vR 24, vI a4] [] M
theorem mN_90 : mN 90 = 5 := by decide +kernel
theorem ee_90 {d : Nat} {Q : Ql} {M : Mm} (h : GoG false (EE d) cd_90 Q 0 [vR 47, vR 1, vR 10, vR 24, vU] [] M) : EE (d + 1) 90 [vR 47, vR 1, vR 10, vR 24] M Q := by
  have e : cdTab 90 = cd_90 := rfl
  unfold EE; rw [mN_90, e]; exact ⟨Nat.le_of_ble_eq_true rfl, h⟩
theorem sg_90 {d : Nat} {P : Mm → Prop} {M : Mm} (h : EE d 91 [vR 47, vR 1] M (rV fun M1 => EE d 173 [vR 49, vI (-9)] M1 (rV fun M2 => H_90_24 d P 0 (mset M2 49 0 0)))) : EE (d + 1) 90 [vR 47, vR 1, vR 10, vR 24] M (rV P) := by
  have hE := EE_mono d
  refine ee_90 ?_
  refine z_aload hE rfl rfl rfl ?_
  refine z_aload hE rfl rfl rfl ?_
  refine z_callvV hE rfl rfl rfl rfl rfl (Nat.le_of_ble_eq_true rfl) (by decide) ⟨rfl, rfl⟩ (EE_mono d _ _ _ _ _ (rV_mono fun M1 h => ?_) h)
  refine z_aload hE rfl rfl rfl ?_
  refine z_getR hE (q := 49) rfl shk_47 rfl rfl rfl ?_
  refine z_iconst hE rfl ?_
  refine z_callsV hE rfl rfl rfl rfl rfl (Nat.le_of_ble_eq_true rfl) (by decide) (EE_mono d _ _ _ _ _ (rV_mono fun M2 h => ?_) h)
  refine z_aload hE rfl rfl rfl ?_
  refine z_getR hE (q := 49) rfl shk_47 rfl rfl rfl ?_
  refine z_iconst hE rfl ?_
  refine z_iconst hE rfl ?_
  have hb : (0 : Int) ≤ 0 ∧ (0 : Int) < 256 := by decide
  refine z_iast hE rfl shk_49 hb ?_
  refine z_iconst hE rfl ?_
  refine z_istore hE rfl rfl rfl ?_
  exact h
theorem sg_90_24 {d : Nat} {P : Mm → Prop} {a4 : Int} {M : Mm} (h : ((6 ≤ a4 → H_90_61 d P 1 (mset (mset M 47 2 0) 47 3 0)) ∧ (a4 < 6 → EE d 92 [vR 10, vR 24, vI a4] M (rI fun r1 M1 => EE d 93 [vR 47, vI r1] M1 (rV fun M2 => inI (a4 + 1) ∧ H_90_24 d P (a4 + 1) M2))))) : H_90_24 d P a4 M := by
  have hE := EE_mono d
  unfold H_90_24
  refine z_iload hE rfl rfl ?_
  refine z_iconst hE rfl ?_
  refine z_icmp_ge hE rfl ⟨fun q => ?_, fun q => ?_⟩
  · have h := h.1 q
    refine z_aload hE rfl rfl rfl ?_
    refine z_iconst hE rfl ?_
    refine z_putI hE (sl := 2) rfl shk_47 rfl rfl rfl ?_
    refine z_aload hE rfl rfl rfl ?_
    refine z_iconst hE rfl ?_
    refine z_putI hE (sl := 3) rfl shk_47 rfl rfl rfl ?_
    refine z_iconst hE rfl ?_
    refine z_istore hE rfl rfl rfl ?_
    exact h
  · have h := h.2 q
    refine z_aload hE rfl rfl rfl ?_
    refine z_aload hE rfl rfl rfl ?_
    refine z_aload hE rfl rfl rfl ?_
    refine z_iload hE rfl rfl ?_
    refine z_callsI hE rfl rfl rfl rfl rfl (Nat.le_of_ble_eq_true rfl) (by decide) (EE_mono d _ _ _ _ _ (rI_mono fun r1 M1 h => ?_) h)
    refine z_callvV hE rfl rfl rfl rfl rfl (Nat.le_of_ble_eq_true rfl) (by decide) ⟨rfl, rfl⟩ (EE_mono d _ _ _ _ _ (rV_mono fun M2 h => ?_) h)
    have hb := h.1
    have h := h.2
    refine z_iinc hE rfl rfl rfl hb ?_
    refine z_goto hE rfl ?_
    exact h
theorem sg_90_61 {d : Nat} {P : Mm → Prop} {a4 : Int} {M : Mm} (h : ((256 ≤ a4 → P M) ∧ (a4 < 256 → (0 ≤ a4 ∧ a4 < 256) ∧ (((M 49 a4) < 0 → inI (a4 + 1) ∧ H_90_61 d P (a4 + 1) M) ∧ (0 ≤ (M 49 a4) → (0 ≤ a4 ∧ a4 < 256) ∧ (((M 47 2) < (M 48 a4) → H_90_121 d P a4 M) ∧ ((M 48 a4) ≤ (M 47 2) → (0 ≤ a4 ∧ a4 < 256) ∧ ((¬ (M 48 a4) = (M 47 2) → inI (a4 + 1) ∧ H_90_61 d P (a4 + 1) M) ∧ ((M 48 a4) = (M 47 2) → (0 ≤ a4 ∧ a4 < 256) ∧ (((M 47 3) ≤ (M 49 a4) → inI (a4 + 1) ∧ H_90_61 d P (a4 + 1) M) ∧ ((M 49 a4) < (M 47 3) → H_90_121 d P a4 M))))))))))) : H_90_61 d P a4 M := by
  have hE := EE_mono d
  unfold H_90_61
  refine z_iload hE rfl rfl ?_
  refine z_iconst hE rfl ?_
  refine z_icmp_ge hE rfl ⟨fun q => ?_, fun q => ?_⟩
  · have h := h.1 q
    exact z_vret hE rfl h
  · have h := h.2 q
    refine z_aload hE rfl rfl rfl ?_
    refine z_getR hE (q := 49) rfl shk_47 rfl rfl rfl ?_
    refine z_iload hE rfl rfl ?_
    have hb := h.1
    have h := h.2
    refine z_iald hE rfl shk_49 hb ?_
    refine z_if_lt hE rfl ⟨fun q => ?_, fun q => ?_⟩
    · have h := h.1 q
      have hb := h.1
      have h := h.2
      refine z_iinc hE rfl rfl rfl hb ?_
      refine z_goto hE rfl ?_
      exact h
    · have h := h.2 q
      refine z_aload hE rfl rfl rfl ?_
      refine z_getR hE (q := 48) rfl shk_47 rfl rfl rfl ?_
      refine z_iload hE rfl rfl ?_
      have hb := h.1
      have h := h.2
      refine z_iald hE rfl shk_48 hb ?_
      refine z_aload hE rfl rfl rfl ?_
      refine z_getI hE (sl := 2) rfl shk_47 rfl rfl rfl ?_
      refine z_icmp_gt hE rfl ⟨fun q => ?_, fun q => ?_⟩
      · have h := h.1 q
        exact h
      · have h := h.2 q
        refine z_aload hE rfl rfl rfl ?_
        refine z_getR hE (q := 48) rfl shk_47 rfl rfl rfl ?_
        refine z_iload hE rfl rfl ?_
        have hb := h.1
        have h := h.2
        refine z_iald hE rfl shk_48 hb ?_
        refine z_aload hE rfl rfl rfl ?_
        refine z_getI hE (sl := 2) rfl shk_47 rfl rfl rfl ?_
        refine z_icmp_ne hE rfl ⟨fun q => ?_, fun q => ?_⟩
        · have h := h.1 q
          have hb := h.1
          have h := h.2
          refine z_iinc hE rfl rfl rfl hb ?_
          refine z_goto hE rfl ?_
          exact h
        · have h := h.2 q
          refine z_aload hE rfl rfl rfl ?_
          refine z_getR hE (q := 49) rfl shk_47 rfl rfl rfl ?_
          refine z_iload hE rfl rfl ?_
          have hb := h.1
          have h := h.2
          refine z_iald hE rfl shk_49 hb ?_
          refine z_aload hE rfl rfl rfl ?_
          refine z_getI hE (sl := 3) rfl shk_47 rfl rfl rfl ?_
          refine z_icmp_ge hE rfl ⟨fun q => ?_, fun q => ?_⟩
          · have h := h.1 q
            have hb := h.1
            have h := h.2
            refine z_iinc hE rfl rfl rfl hb ?_
            refine z_goto hE rfl ?_
            exact h
          · have h := h.2 q
            exact h
theorem sg_90_121 {d : Nat} {P : Mm → Prop} {a4 : Int} {M : Mm} (h : (0 ≤ a4 ∧ a4 < 256) ∧ (0 ≤ a4 ∧ a4 < 256) ∧ inI (a4 + 1) ∧ H_90_61 d P (a4 + 1) (mset (mset M 47 2 (M 48 a4)) 47 3 (M 49 a4))) : H_90_121 d P a4 M := by
  have hE := EE_mono d
  unfold H_90_121
  refine z_aload hE rfl rfl rfl ?_
  refine z_aload hE rfl rfl rfl ?_
  refine z_getR hE (q := 48) rfl shk_47 rfl rfl rfl ?_
  refine z_iload hE rfl rfl ?_
  have hb := h.1
  have h := h.2
  refine z_iald hE rfl shk_48 hb ?_
  refine z_putI hE (sl := 2) rfl shk_47 rfl rfl rfl ?_
  refine z_aload hE rfl rfl rfl ?_
  refine z_aload hE rfl rfl rfl ?_
  refine z_getR hE (q := 49) rfl shk_47 rfl rfl rfl ?_
  refine z_iload hE rfl rfl ?_
  have hb := h.1
  have h := h.2
  refine z_iald hE rfl shk_49 hb ?_
  refine z_putI hE (sl := 3) rfl shk_47 rfl rfl rfl ?_
  have hb := h.1
  have h := h.2
  refine z_iinc hE rfl rfl rfl hb ?_
  refine z_goto hE rfl ?_
  exact h
/-! 91: ChildTrains$Paths.countPeople(LChildTrains$Children;)V -/
def H_91_10 (d : Nat) (P : Mm → Prop) (a2 : Int) (M : Mm) : Prop := GoG false (EE d) cd_91 (rV P) 10 [vR 47, vR 1, vI a2, vU] [] M
def H_91_43 (d : Nat) (P : Mm → Prop) (a2 : Int) (M : Mm) : Prop := GoG false (EE d) cd_91 (rV P) 43 [vR 47, vR 1, vI a2, vU] [] M
theorem mN_91 : mN 91 = 4 := by decide +kernel
theorem ee_91 {d : Nat} {Q : Ql} {M : Mm} (h : GoG false (EE d) cd_91 Q 0 [vR 47, vR 1, vU, vU] [] M) : EE (d + 1) 91 [vR 47, vR 1] M Q := by
  have e : cdTab 91 = cd_91 := rfl
  unfold EE; rw [mN_91, e]; exact ⟨Nat.le_of_ble_eq_true rfl, h⟩
theorem sg_91 {d : Nat} {P : Mm → Prop} {M : Mm} (h : EE d 173 [vR 48, vI 0] M (rV fun M1 => H_91_10 d P 0 M1)) : EE (d + 1) 91 [vR 47, vR 1] M (rV P) := by
  have hE := EE_mono d
  refine ee_91 ?_
  refine z_aload hE rfl rfl rfl ?_
  refine z_getR hE (q := 48) rfl shk_47 rfl rfl rfl ?_
  refine z_iconst hE rfl ?_
  refine z_callsV hE rfl rfl rfl rfl rfl (Nat.le_of_ble_eq_true rfl) (by decide) (EE_mono d _ _ _ _ _ (rV_mono fun M1 h => ?_) h)
  refine z_iconst hE rfl ?_
  refine z_istore hE rfl rfl rfl ?_
  exact h
theorem sg_91_10 {d : Nat} {P : Mm → Prop} {a2 : Int} {M : Mm} (h : (((M 1 6) ≤ a2 → H_91_43 d P 1 M) ∧ (a2 < (M 1 6) → (0 ≤ a2 ∧ a2 < 48) ∧ (0 ≤ (zshl 1 (M 5 a2)) ∧ (zshl 1 (M 5 a2)) < 256) ∧ inI ((M 48 (zshl 1 (M 5 a2))) + 1) ∧ (0 ≤ (zshl 1 (M 5 a2)) ∧ (zshl 1 (M 5 a2)) < 256) ∧ inI (a2 + 1) ∧ H_91_10 d P (a2 + 1) (mset M 48 (zshl 1 (M 5 a2)) ((M 48 (zshl 1 (M 5 a2))) + 1))))) : H_91_10 d P a2 M := by
  have hE := EE_mono d
  unfold H_91_10
  refine z_iload hE rfl rfl ?_
  refine z_aload hE rfl rfl rfl ?_
  refine z_getI hE (sl := 6) rfl shk_1 rfl rfl rfl ?_
  refine z_icmp_ge hE rfl ⟨fun q => ?_, fun q => ?_⟩
  · have h := h.1 q
    refine z_iconst hE rfl ?_
    refine z_istore hE rfl rfl rfl ?_
    exact h
  · have h := h.2 q
    refine z_aload hE rfl rfl rfl ?_
    refine z_getR hE (q := 48) rfl shk_47 rfl rfl rfl ?_
    refine z_iconst hE rfl ?_
    refine z_aload hE rfl rfl rfl ?_
    refine z_getR hE (q := 5) rfl shk_1 rfl rfl rfl ?_
    refine z_iload hE rfl rfl ?_
    have hb := h.1
    have h := h.2
    refine z_iald hE rfl shk_5 hb ?_
    refine z_ishl hE rfl ?_
    refine z_dup2 hE rfl rfl rfl ?_
    have hb := h.1
    have h := h.2
    refine z_iald hE rfl shk_48 hb ?_
    refine z_iconst hE rfl ?_
    have hb := h.1
    have h := h.2
    refine z_iadd hE rfl hb ?_
    have hb := h.1
    have h := h.2
    refine z_iast hE rfl shk_48 hb ?_
    have hb := h.1
    have h := h.2
    refine z_iinc hE rfl rfl rfl hb ?_
    refine z_goto hE rfl ?_
    exact h
theorem sg_91_43 {d : Nat} {P : Mm → Prop} {a2 : Int} {M : Mm} (h : ((256 ≤ a2 → P M) ∧ (a2 < 256 → inI (a2 - 1) ∧ (0 ≤ (zand a2 (a2 - 1)) ∧ (zand a2 (a2 - 1)) < 256) ∧ (0 ≤ (zxor a2 (zand a2 (a2 - 1))) ∧ (zxor a2 (zand a2 (a2 - 1))) < 256) ∧ inI ((M 48 (zand a2 (a2 - 1))) + (M 48 (zxor a2 (zand a2 (a2 - 1))))) ∧ (0 ≤ a2 ∧ a2 < 256) ∧ inI (a2 + 1) ∧ H_91_43 d P (a2 + 1) (mset M 48 a2 ((M 48 (zand a2 (a2 - 1))) + (M 48 (zxor a2 (zand a2 (a2 - 1))))))))) : H_91_43 d P a2 M := by
  have hE := EE_mono d
  unfold H_91_43
  refine z_iload hE rfl rfl ?_
  refine z_iconst hE rfl ?_
  refine z_icmp_ge hE rfl ⟨fun q => ?_, fun q => ?_⟩
  · have h := h.1 q
    exact z_vret hE rfl h
  · have h := h.2 q
    refine z_iload hE rfl rfl ?_
    refine z_iload hE rfl rfl ?_
    refine z_iconst hE rfl ?_
    have hb := h.1
    have h := h.2
    refine z_isub hE rfl hb ?_
    refine z_iand hE rfl ?_
    refine z_istore hE rfl rfl rfl ?_
    refine z_aload hE rfl rfl rfl ?_
    refine z_getR hE (q := 48) rfl shk_47 rfl rfl rfl ?_
    refine z_iload hE rfl rfl ?_
    refine z_aload hE rfl rfl rfl ?_
    refine z_getR hE (q := 48) rfl shk_47 rfl rfl rfl ?_
    refine z_iload hE rfl rfl ?_
    have hb := h.1
    have h := h.2
    refine z_iald hE rfl shk_48 hb ?_
    refine z_aload hE rfl rfl rfl ?_
    refine z_getR hE (q := 48) rfl shk_47 rfl rfl rfl ?_
    refine z_iload hE rfl rfl ?_
    refine z_iload hE rfl rfl ?_
    refine z_ixor hE rfl ?_
    have hb := h.1
    have h := h.2
    refine z_iald hE rfl shk_48 hb ?_
    have hb := h.1
    have h := h.2
    refine z_iadd hE rfl hb ?_
    have hb := h.1
    have h := h.2
    refine z_iast hE rfl shk_48 hb ?_
    have hb := h.1
    have h := h.2
    refine z_iinc hE rfl rfl rfl hb ?_
    refine z_goto hE rfl ?_
    exact GoG.weak hE (ls := [vR 47, vR 1, vI (a2 + 1), vU]) ⟨Or.inl rfl, Or.inl rfl, Or.inl rfl, Or.inr ⟨rfl, _, rfl⟩, trivial⟩ h
/-! 92: ChildTrains$Paths.roomTo(LChildTrains$Platform;LChildTrains$Houses;I)I -/
def H_92_5 (d : Nat) (P : Int → Mm → Prop) (a2 : Int) (a3 : Int) (a4 : Int) (M : Mm) : Prop := GoG false (EE d) cd_92 (rI P) 5 [vR 10, vR 24, vI a2, vI a3, vI a4] [] M
theorem mN_92 : mN 92 = 5 := by decide +kernel
theorem ee_92 {d : Nat} {Q : Ql} {a2 : Int} {M : Mm} (h : GoG false (EE d) cd_92 Q 0 [vR 10, vR 24, vI a2, vU, vU] [] M) : EE (d + 1) 92 [vR 10, vR 24, vI a2] M Q := by
  have e : cdTab 92 = cd_92 := rfl
  unfold EE; rw [mN_92, e]; exact ⟨Nat.le_of_ble_eq_true rfl, h⟩
theorem sg_92 {d : Nat} {P : Int → Mm → Prop} {a2 : Int} {M : Mm} (h : H_92_5 d P a2 0 0 M) : EE (d + 1) 92 [vR 10, vR 24, vI a2] M (rI P) := by
  have hE := EE_mono d
  refine ee_92 ?_
  refine z_iconst hE rfl ?_
  refine z_istore hE rfl rfl rfl ?_
  refine z_iconst hE rfl ?_
  refine z_istore hE rfl rfl rfl ?_
  exact h
theorem sg_92_5 {d : Nat} {P : Int → Mm → Prop} {a2 : Int} {a3 : Int} {a4 : Int} {M : Mm} (h : ((6 ≤ a4 → EE d 71 [vR 24, vI a2] M (rI fun r1 M1 => P (if r1 < a3 then r1 else a3) M1)) ∧ (a4 < 6 → (0 ≤ a4 ∧ a4 < 6) ∧ ((¬ (M (14 + a4.toNat) 4) = a2 → inI (a4 + 1) ∧ H_92_5 d P a2 a3 (a4 + 1) M) ∧ ((M (14 + a4.toNat) 4) = a2 → (0 ≤ a4 ∧ a4 < 6) ∧ inI (a4 + 1) ∧ H_92_5 d P a2 (if a3 < (M (14 + a4.toNat) 2) then (M (14 + a4.toNat) 2) else a3) (a4 + 1) M))))) : H_92_5 d P a2 a3 a4 M := by
  have hE := EE_mono d
  unfold H_92_5
  refine z_iload hE rfl rfl ?_
  refine z_iconst hE rfl ?_
  refine z_icmp_ge hE rfl ⟨fun q => ?_, fun q => ?_⟩
  · have h := h.1 q
    refine z_iload hE rfl rfl ?_
    refine z_aload hE rfl rfl rfl ?_
    refine z_iload hE rfl rfl ?_
    refine z_callvI hE rfl rfl rfl rfl rfl (Nat.le_of_ble_eq_true rfl) (by decide) ⟨rfl, rfl⟩ (EE_mono d _ _ _ _ _ (rI_mono fun r1 M1 h => ?_) h)
    refine z_min hE rfl (Nat.le_of_ble_eq_true rfl) ?_
    exact z_iret hE rfl rfl h
  · have h := h.2 q
    refine z_aload hE rfl rfl rfl ?_
    refine z_getR hE (q := 13) rfl shk_10 rfl rfl rfl ?_
    refine z_iload hE rfl rfl ?_
    have hb := h.1
    have h := h.2
    refine z_aald hE rfl shk_13 rfl hb ?_
    refine z_iconst hE rfl ?_
    have hb : (0 : Int) ≤ 4 ∧ (4 : Int) < 5 := by decide
    refine z_ialdW hE rfl shk_14 hb ?_
    refine z_iload hE rfl rfl ?_
    refine z_icmp_ne hE rfl ⟨fun q => ?_, fun q => ?_⟩
    · have h := h.1 q
      have hb := h.1
      have h := h.2
      refine z_iinc hE rfl rfl rfl hb ?_
      refine z_goto hE rfl ?_
      exact h
    · have h := h.2 q
      refine z_iload hE rfl rfl ?_
      refine z_aload hE rfl rfl rfl ?_
      refine z_getR hE (q := 13) rfl shk_10 rfl rfl rfl ?_
      refine z_iload hE rfl rfl ?_
      have hb := h.1
      have h := h.2
      refine z_aald hE rfl shk_13 rfl hb ?_
      refine z_iconst hE rfl ?_
      have hb : (0 : Int) ≤ 2 ∧ (2 : Int) < 5 := by decide
      refine z_ialdW hE rfl shk_14 hb ?_
      refine z_max hE rfl (Nat.le_of_ble_eq_true rfl) ?_
      refine z_istore hE rfl rfl rfl ?_
      have hb := h.1
      have h := h.2
      refine z_iinc hE rfl rfl rfl hb ?_
      refine z_goto hE rfl ?_
      exact h
/-! 93: ChildTrains$Paths.bring(I)V -/
def H_93_4 (d : Nat) (P : Mm → Prop) (a1 : Int) (a2 : Int) (M : Mm) : Prop := GoG false (EE d) cd_93 (rV P) 4 [vR 47, vI a1, vI a2, vU, vU, vU] [] M
def H_93_13 (d : Nat) (P : Mm → Prop) (a1 : Int) (a2 : Int) (a3 : Int) (a4 : Int) (M : Mm) : Prop := GoG false (EE d) cd_93 (rV P) 13 [vR 47, vI a1, vI a2, vI a3, vI a4, vU] [] M
def H_93_72 (d : Nat) (P : Mm → Prop) (a1 : Int) (a2 : Int) (a3 : Int) (a4 : Int) (a5 : Int) (M : Mm) : Prop := GoG false (EE d) cd_93 (rV P) 72 [vR 47, vI a1, vI a2, vI a3, vI a4, vI a5] [] M
def H_93_82 (d : Nat) (P : Mm → Prop) (a1 : Int) (a2 : Int) (a3 : Int) (a4 : Int) (M : Mm) : Prop := GoG false (EE d) cd_93 (rV P) 82 [vR 47, vI a1, vI a2, vI a3, vI a4, vU] [] M
theorem mN_93 : mN 93 = 6 := by decide +kernel
theorem ee_93 {d : Nat} {Q : Ql} {a1 : Int} {M : Mm} (h : GoG false (EE d) cd_93 Q 0 [vR 47, vI a1, vU, vU, vU, vU] [] M) : EE (d + 1) 93 [vR 47, vI a1] M Q := by
  have e : cdTab 93 = cd_93 := rfl
  unfold EE; rw [mN_93, e]; exact ⟨Nat.le_of_ble_eq_true rfl, h⟩
theorem sg_93 {d : Nat} {P : Mm → Prop} {a1 : Int} {M : Mm} (h : H_93_4 d P a1 255 M) : EE (d + 1) 93 [vR 47, vI a1] M (rV P) := by
  have hE := EE_mono d
  refine ee_93 ?_
  refine z_iconst hE rfl ?_
  refine z_istore hE rfl rfl rfl ?_
  exact h
theorem sg_93_4 {d : Nat} {P : Mm → Prop} {a1 : Int} {a2 : Int} {M : Mm} (h : ((a2 ≤ 0 → P M) ∧ (0 < a2 → H_93_13 d P a1 a2 a2 0 M))) : H_93_4 d P a1 a2 M := by
  have hE := EE_mono d
  unfold H_93_4
  refine z_iload hE rfl rfl ?_
  refine z_if_le hE rfl ⟨fun q => ?_, fun q => ?_⟩
  · have h := h.1 q
    exact z_vret hE rfl h
  · have h := h.2 q
    refine z_iload hE rfl rfl ?_
    refine z_istore hE rfl rfl rfl ?_
    refine z_iconst hE rfl ?_
    refine z_istore hE rfl rfl rfl ?_
    exact h
theorem sg_93_13 {d : Nat} {P : Mm → Prop} {a1 : Int} {a2 : Int} {a3 : Int} {a4 : Int} {M : Mm} (h : ((256 ≤ a4 → inI (a2 + -1) ∧ H_93_4 d P a1 (a2 + -1) M) ∧ (a4 < 256 → ((a3 = 0 → inI (a2 + -1) ∧ H_93_4 d P a1 (a2 + -1) M) ∧ (¬ a3 = 0 → (0 ≤ (zxor a2 a3) ∧ (zxor a2 a3) < 256) ∧ (0 ≤ a3 ∧ a3 < 256) ∧ ((a1 < (M 48 a3) → H_93_82 d P a1 a2 a3 a4 M) ∧ ((M 48 a3) ≤ a1 → (((M 49 (zxor a2 a3)) < 0 → H_93_82 d P a1 a2 a3 a4 M) ∧ (0 ≤ (M 49 (zxor a2 a3)) → (0 ≤ a2 ∧ a2 < 256) ∧ (((M 49 a2) < 0 → H_93_72 d P a1 a2 a3 a4 (M 49 (zxor a2 a3)) M) ∧ (0 ≤ (M 49 a2) → inI ((M 49 (zxor a2 a3)) + 1) ∧ (0 ≤ a2 ∧ a2 < 256) ∧ (((M 49 a2) ≤ ((M 49 (zxor a2 a3)) + 1) → H_93_82 d P a1 a2 a3 a4 M) ∧ (((M 49 (zxor a2 a3)) + 1) < (M 49 a2) → H_93_72 d P a1 a2 a3 a4 (M 49 (zxor a2 a3)) M))))))))))))) : H_93_13 d P a1 a2 a3 a4 M := by
  have hE := EE_mono d
  unfold H_93_13
  refine z_iload hE rfl rfl ?_
  refine z_iconst hE rfl ?_
  refine z_icmp_ge hE rfl ⟨fun q => ?_, fun q => ?_⟩
  · have h := h.1 q
    have hb := h.1
    have h := h.2
    refine z_iinc hE rfl rfl rfl hb ?_
    refine z_goto hE rfl ?_
    exact GoG.weak hE (ls := [vR 47, vI a1, vI (a2 + -1), vU, vU, vU]) ⟨Or.inl rfl, Or.inl rfl, Or.inl rfl, Or.inr ⟨rfl, _, rfl⟩, Or.inr ⟨rfl, _, rfl⟩, Or.inl rfl, trivial⟩ h
  · have h := h.2 q
    refine z_iload hE rfl rfl ?_
    refine z_if_eq hE rfl ⟨fun q => ?_, fun q => ?_⟩
    · have h := h.1 q
      have hb := h.1
      have h := h.2
      refine z_iinc hE rfl rfl rfl hb ?_
      refine z_goto hE rfl ?_
      exact GoG.weak hE (ls := [vR 47, vI a1, vI (a2 + -1), vU, vU, vU]) ⟨Or.inl rfl, Or.inl rfl, Or.inl rfl, Or.inr ⟨rfl, _, rfl⟩, Or.inr ⟨rfl, _, rfl⟩, Or.inl rfl, trivial⟩ h
    · have h := h.2 q
      refine z_aload hE rfl rfl rfl ?_
      refine z_getR hE (q := 49) rfl shk_47 rfl rfl rfl ?_
      refine z_iload hE rfl rfl ?_
      refine z_iload hE rfl rfl ?_
      refine z_ixor hE rfl ?_
      have hb := h.1
      have h := h.2
      refine z_iald hE rfl shk_49 hb ?_
      refine z_istore hE rfl rfl rfl ?_
      refine z_aload hE rfl rfl rfl ?_
      refine z_getR hE (q := 48) rfl shk_47 rfl rfl rfl ?_
      refine z_iload hE rfl rfl ?_
      have hb := h.1
      have h := h.2
      refine z_iald hE rfl shk_48 hb ?_
      refine z_iload hE rfl rfl ?_
      refine z_icmp_gt hE rfl ⟨fun q => ?_, fun q => ?_⟩
      · have h := h.1 q
        exact GoG.weak hE (ls := [vR 47, vI a1, vI a2, vI a3, vI a4, vU]) ⟨Or.inl rfl, Or.inl rfl, Or.inl rfl, Or.inl rfl, Or.inl rfl, Or.inr ⟨rfl, _, rfl⟩, trivial⟩ h
      · have h := h.2 q
        refine z_iload hE rfl rfl ?_
        refine z_if_lt hE rfl ⟨fun q => ?_, fun q => ?_⟩
        · have h := h.1 q
          exact GoG.weak hE (ls := [vR 47, vI a1, vI a2, vI a3, vI a4, vU]) ⟨Or.inl rfl, Or.inl rfl, Or.inl rfl, Or.inl rfl, Or.inl rfl, Or.inr ⟨rfl, _, rfl⟩, trivial⟩ h
        · have h := h.2 q
          refine z_aload hE rfl rfl rfl ?_
          refine z_getR hE (q := 49) rfl shk_47 rfl rfl rfl ?_
          refine z_iload hE rfl rfl ?_
          have hb := h.1
          have h := h.2
          refine z_iald hE rfl shk_49 hb ?_
          refine z_if_lt hE rfl ⟨fun q => ?_, fun q => ?_⟩
          · have h := h.1 q
            exact h
          · have h := h.2 q
            refine z_iload hE rfl rfl ?_
            refine z_iconst hE rfl ?_
            have hb := h.1
            have h := h.2
            refine z_iadd hE rfl hb ?_
            refine z_aload hE rfl rfl rfl ?_
            refine z_getR hE (q := 49) rfl shk_47 rfl rfl rfl ?_
            refine z_iload hE rfl rfl ?_
            have hb := h.1
            have h := h.2
            refine z_iald hE rfl shk_49 hb ?_
            refine z_icmp_ge hE rfl ⟨fun q => ?_, fun q => ?_⟩
            · have h := h.1 q
              exact GoG.weak hE (ls := [vR 47, vI a1, vI a2, vI a3, vI a4, vU]) ⟨Or.inl rfl, Or.inl rfl, Or.inl rfl, Or.inl rfl, Or.inl rfl, Or.inr ⟨rfl, _, rfl⟩, trivial⟩ h
            · have h := h.2 q
              exact h
theorem sg_93_72 {d : Nat} {P : Mm → Prop} {a1 : Int} {a2 : Int} {a3 : Int} {a4 : Int} {a5 : Int} {M : Mm} (h : inI (a5 + 1) ∧ (0 ≤ a2 ∧ a2 < 256) ∧ H_93_82 d P a1 a2 a3 a4 (mset M 49 a2 (a5 + 1))) : H_93_72 d P a1 a2 a3 a4 a5 M := by
  have hE := EE_mono d
  unfold H_93_72
  refine z_aload hE rfl rfl rfl ?_
  refine z_getR hE (q := 49) rfl shk_47 rfl rfl rfl ?_
  refine z_iload hE rfl rfl ?_
  refine z_iload hE rfl rfl ?_
  refine z_iconst hE rfl ?_
  have hb := h.1
  have h := h.2
  refine z_iadd hE rfl hb ?_
  have hb := h.1
  have h := h.2
  refine z_iast hE rfl shk_49 hb ?_
  exact GoG.weak hE (ls := [vR 47, vI a1, vI a2, vI a3, vI a4, vU]) ⟨Or.inl rfl, Or.inl rfl, Or.inl rfl, Or.inl rfl, Or.inl rfl, Or.inr ⟨rfl, _, rfl⟩, trivial⟩ h
theorem sg_93_82 {d : Nat} {P : Mm → Prop} {a1 : Int} {a2 : Int} {a3 : Int} {a4 : Int} {M : Mm} (h : inI (a3 - 1) ∧ inI (a4 + 1) ∧ H_93_13 d P a1 a2 (zand (a3 - 1) a2) (a4 + 1) M) : H_93_82 d P a1 a2 a3 a4 M := by
  have hE := EE_mono d
  unfold H_93_82
  refine z_iload hE rfl rfl ?_
  refine z_iconst hE rfl ?_
  have hb := h.1
  have h := h.2
  refine z_isub hE rfl hb ?_
  refine z_iload hE rfl rfl ?_
  refine z_iand hE rfl ?_
  refine z_istore hE rfl rfl rfl ?_
  have hb := h.1
  have h := h.2
  refine z_iinc hE rfl rfl rfl hb ?_
  refine z_goto hE rfl ?_
  exact h
/-! 94: ChildTrains$Platform.settle(LChildTrains$Children;)V -/
def H_94_38 (d : Nat) (P : Mm → Prop) (a2 : Int) (M : Mm) : Prop := GoG false (EE d) cd_94 (rV P) 38 [vR 10, vR 1, vI a2, vU] [] M
def H_94_66 (d : Nat) (P : Mm → Prop) (a2 : Int) (M : Mm) : Prop := GoG false (EE d) cd_94 (rV P) 66 [vR 10, vR 1, vI a2, vU] [] M
def H_94_81 (d : Nat) (P : Mm → Prop) (a2 : Int) (a3 : Int) (M : Mm) : Prop := GoG false (EE d) cd_94 (rV P) 81 [vR 10, vR 1, vI a2, vI a3] [] M
theorem mN_94 : mN 94 = 4 := by decide +kernel
theorem ee_94 {d : Nat} {Q : Ql} {M : Mm} (h : GoG false (EE d) cd_94 Q 0 [vR 10, vR 1, vU, vU] [] M) : EE (d + 1) 94 [vR 10, vR 1] M Q := by
  have e : cdTab 94 = cd_94 := rfl
  unfold EE; rw [mN_94, e]; exact ⟨Nat.le_of_ble_eq_true rfl, h⟩
theorem sg_94 {d : Nat} {P : Mm → Prop} {M : Mm} (h : ((¬ (M 10 9) = 0 → EE d 173 [vR 22, vI (-9)] (mset M 10 9 0) (rV fun M1 => EE d 173 [vR 23, vI (-9)] M1 (rV fun M2 => H_94_38 d P 0 (mset M2 10 7 0)))) ∧ ((M 10 9) = 0 → P M))) : EE (d + 1) 94 [vR 10, vR 1] M (rV P) := by
  have hE := EE_mono d
  refine ee_94 ?_
  refine z_aload hE rfl rfl rfl ?_
  refine z_getZ hE (sl := 9) rfl shk_10 rfl rfl rfl ?_
  refine z_if_ne hE rfl ⟨fun q => ?_, fun q => ?_⟩
  · have h := h.1 q
    refine z_aload hE rfl rfl rfl ?_
    refine z_iconst hE rfl ?_
    refine z_putZ hE (sl := 9) rfl shk_10 rfl rfl rfl (Or.inl rfl) ?_
    refine z_aload hE rfl rfl rfl ?_
    refine z_getR hE (q := 22) rfl shk_10 rfl rfl rfl ?_
    refine z_iconst hE rfl ?_
    refine z_callsV hE rfl rfl rfl rfl rfl (Nat.le_of_ble_eq_true rfl) (by decide) (EE_mono d _ _ _ _ _ (rV_mono fun M1 h => ?_) h)
    refine z_aload hE rfl rfl rfl ?_
    refine z_getR hE (q := 23) rfl shk_10 rfl rfl rfl ?_
    refine z_iconst hE rfl ?_
    refine z_callsV hE rfl rfl rfl rfl rfl (Nat.le_of_ble_eq_true rfl) (by decide) (EE_mono d _ _ _ _ _ (rV_mono fun M2 h => ?_) h)
    refine z_aload hE rfl rfl rfl ?_
    refine z_iconst hE rfl ?_
    refine z_putI hE (sl := 7) rfl shk_10 rfl rfl rfl ?_
    refine z_iconst hE rfl ?_
    refine z_istore hE rfl rfl rfl ?_
    exact h
  · have h := h.2 q
    exact z_vret hE rfl h
theorem sg_94_38 {d : Nat} {P : Mm → Prop} {a2 : Int} {M : Mm} (h : ((6 ≤ a2 → H_94_66 d P 0 M) ∧ (a2 < 6 → (0 ≤ a2 ∧ a2 < 6) ∧ (0 ≤ a2 ∧ a2 < 6) ∧ inI (a2 + 1) ∧ H_94_38 d P (a2 + 1) (mset M 20 a2 (M (14 + a2.toNat) 2))))) : H_94_38 d P a2 M := by
  have hE := EE_mono d
  unfold H_94_38
  refine z_iload hE rfl rfl ?_
  refine z_iconst hE rfl ?_
  refine z_icmp_ge hE rfl ⟨fun q => ?_, fun q => ?_⟩
  · have h := h.1 q
    refine z_iconst hE rfl ?_
    refine z_istore hE rfl rfl rfl ?_
    exact h
  · have h := h.2 q
    refine z_aload hE rfl rfl rfl ?_
    refine z_getR hE (q := 20) rfl shk_10 rfl rfl rfl ?_
    refine z_iload hE rfl rfl ?_
    refine z_aload hE rfl rfl rfl ?_
    refine z_getR hE (q := 13) rfl shk_10 rfl rfl rfl ?_
    refine z_iload hE rfl rfl ?_
    have hb := h.1
    have h := h.2
    refine z_aald hE rfl shk_13 rfl hb ?_
    refine z_iconst hE rfl ?_
    have hb : (0 : Int) ≤ 2 ∧ (2 : Int) < 5 := by decide
    refine z_ialdW hE rfl shk_14 hb ?_
    have hb := h.1
    have h := h.2
    refine z_iast hE rfl shk_20 hb ?_
    have hb := h.1
    have h := h.2
    refine z_iinc hE rfl rfl rfl hb ?_
    refine z_goto hE rfl ?_
    exact h
theorem sg_94_66 {d : Nat} {P : Mm → Prop} {a2 : Int} {M : Mm} (h : ((300 < a2 → P M) ∧ (a2 ≤ 300 → EE d 95 [vR 10, vR 1, vI a2] M (rV fun M1 => H_94_81 d P a2 0 M1)))) : H_94_66 d P a2 M := by
  have hE := EE_mono d
  unfold H_94_66
  refine z_iload hE rfl rfl ?_
  refine z_iconst hE rfl ?_
  refine z_icmp_gt hE rfl ⟨fun q => ?_, fun q => ?_⟩
  · have h := h.1 q
    exact z_vret hE rfl h
  · have h := h.2 q
    refine z_aload hE rfl rfl rfl ?_
    refine z_aload hE rfl rfl rfl ?_
    refine z_iload hE rfl rfl ?_
    refine z_callvV hE rfl rfl rfl rfl rfl (Nat.le_of_ble_eq_true rfl) (by decide) ⟨rfl, rfl⟩ (EE_mono d _ _ _ _ _ (rV_mono fun M1 h => ?_) h)
    refine z_iconst hE rfl ?_
    refine z_istore hE rfl rfl rfl ?_
    exact h
theorem sg_94_81 {d : Nat} {P : Mm → Prop} {a2 : Int} {a3 : Int} {M : Mm} (h : ((6 ≤ a3 → inI (a2 + 1) ∧ H_94_66 d P (a2 + 1) M) ∧ (a3 < 6 → (((M 10 7) ≤ 0 → inI (a2 + 1) ∧ H_94_66 d P (a2 + 1) M) ∧ (0 < (M 10 7) → (0 ≤ a3 ∧ a3 < 6) ∧ ((a2 < (M (14 + a3.toNat) 0) → inI (a3 + 1) ∧ H_94_81 d P a2 (a3 + 1) M) ∧ ((M (14 + a3.toNat) 0) ≤ a2 → (0 ≤ a3 ∧ a3 < 6) ∧ (((M (14 + a3.toNat) 1) ≤ a2 → inI (a3 + 1) ∧ H_94_81 d P a2 (a3 + 1) M) ∧ (a2 < (M (14 + a3.toNat) 1) → EE d 96 [vR 10, vR 1, vI a3, vI a2] M (rV fun M1 => inI (a3 + 1) ∧ H_94_81 d P a2 (a3 + 1) M1)))))))))) : H_94_81 d P a2 a3 M := by
  have hE := EE_mono d
  unfold H_94_81
  refine z_iload hE rfl rfl ?_
  refine z_iconst hE rfl ?_
  refine z_icmp_ge hE rfl ⟨fun q => ?_, fun q => ?_⟩
  · have h := h.1 q
    have hb := h.1
    have h := h.2
    refine z_iinc hE rfl rfl rfl hb ?_
    refine z_goto hE rfl ?_
    exact GoG.weak hE (ls := [vR 10, vR 1, vI (a2 + 1), vU]) ⟨Or.inl rfl, Or.inl rfl, Or.inl rfl, Or.inr ⟨rfl, _, rfl⟩, trivial⟩ h
  · have h := h.2 q
    refine z_aload hE rfl rfl rfl ?_
    refine z_getI hE (sl := 7) rfl shk_10 rfl rfl rfl ?_
    refine z_if_le hE rfl ⟨fun q => ?_, fun q => ?_⟩
    · have h := h.1 q
      have hb := h.1
      have h := h.2
      refine z_iinc hE rfl rfl rfl hb ?_
      refine z_goto hE rfl ?_
      exact GoG.weak hE (ls := [vR 10, vR 1, vI (a2 + 1), vU]) ⟨Or.inl rfl, Or.inl rfl, Or.inl rfl, Or.inr ⟨rfl, _, rfl⟩, trivial⟩ h
    · have h := h.2 q
      refine z_iload hE rfl rfl ?_
      refine z_aload hE rfl rfl rfl ?_
      refine z_getR hE (q := 13) rfl shk_10 rfl rfl rfl ?_
      refine z_iload hE rfl rfl ?_
      have hb := h.1
      have h := h.2
      refine z_aald hE rfl shk_13 rfl hb ?_
      refine z_iconst hE rfl ?_
      have hb : (0 : Int) ≤ 0 ∧ (0 : Int) < 5 := by decide
      refine z_ialdW hE rfl shk_14 hb ?_
      refine z_icmp_lt hE rfl ⟨fun q => ?_, fun q => ?_⟩
      · have h := h.1 q
        have hb := h.1
        have h := h.2
        refine z_iinc hE rfl rfl rfl hb ?_
        refine z_goto hE rfl ?_
        exact h
      · have h := h.2 q
        refine z_iload hE rfl rfl ?_
        refine z_aload hE rfl rfl rfl ?_
        refine z_getR hE (q := 13) rfl shk_10 rfl rfl rfl ?_
        refine z_iload hE rfl rfl ?_
        have hb := h.1
        have h := h.2
        refine z_aald hE rfl shk_13 rfl hb ?_
        refine z_iconst hE rfl ?_
        have hb : (0 : Int) ≤ 1 ∧ (1 : Int) < 5 := by decide
        refine z_ialdW hE rfl shk_14 hb ?_
        refine z_icmp_ge hE rfl ⟨fun q => ?_, fun q => ?_⟩
        · have h := h.1 q
          have hb := h.1
          have h := h.2
          refine z_iinc hE rfl rfl rfl hb ?_
          refine z_goto hE rfl ?_
          exact h
        · have h := h.2 q
          refine z_aload hE rfl rfl rfl ?_
          refine z_aload hE rfl rfl rfl ?_
          refine z_iload hE rfl rfl ?_
          refine z_iload hE rfl rfl ?_
          refine z_callvV hE rfl rfl rfl rfl rfl (Nat.le_of_ble_eq_true rfl) (by decide) ⟨rfl, rfl⟩ (EE_mono d _ _ _ _ _ (rV_mono fun M1 h => ?_) h)
          have hb := h.1
          have h := h.2
          refine z_iinc hE rfl rfl rfl hb ?_
          refine z_goto hE rfl ?_
          exact h
/-! 95: ChildTrains$Platform.arrive(LChildTrains$Children;I)V -/
def H_95_2 (d : Nat) (P : Mm → Prop) (a2 : Int) (a3 : Int) (M : Mm) : Prop := GoG false (EE d) cd_95 (rV P) 2 [vR 10, vR 1, vI a2, vI a3, vU] [] M
def H_95_11 (d : Nat) (P : Mm → Prop) (a2 : Int) (a3 : Int) (a4 : Int) (M : Mm) : Prop := GoG false (EE d) cd_95 (rV P) 11 [vR 10, vR 1, vI a2, vI a3, vI a4] [] M
theorem mN_95 : mN 95 = 5 := by decide +kernel
theorem ee_95 {d : Nat} {Q : Ql} {a2 : Int} {M : Mm} (h : GoG false (EE d) cd_95 Q 0 [vR 10, vR 1, vI a2, vU, vU] [] M) : EE (d + 1) 95 [vR 10, vR 1, vI a2] M Q := by
  have e : cdTab 95 = cd_95 := rfl
  unfold EE; rw [mN_95, e]; exact ⟨Nat.le_of_ble_eq_true rfl, h⟩
theorem sg_95 {d : Nat} {P : Mm → Prop} {a2 : Int} {M : Mm} (h : H_95_2 d P a2 0 M) : EE (d + 1) 95 [vR 10, vR 1, vI a2] M (rV P) := by
  have hE := EE_mono d
  refine ee_95 ?_
  refine z_iconst hE rfl ?_
  refine z_istore hE rfl rfl rfl ?_
  exact h
theorem sg_95_2 {d : Nat} {P : Mm → Prop} {a2 : Int} {a3 : Int} {M : Mm} (h : ((8 ≤ a3 → P M) ∧ (a3 < 8 → H_95_11 d P a2 a3 0 M))) : H_95_2 d P a2 a3 M := by
  have hE := EE_mono d
  unfold H_95_2
  refine z_iload hE rfl rfl ?_
  refine z_iconst hE rfl ?_
  refine z_icmp_ge hE rfl ⟨fun q => ?_, fun q => ?_⟩
  · have h := h.1 q
    exact z_vret hE rfl h
  · have h := h.2 q
    refine z_iconst hE rfl ?_
    refine z_istore hE rfl rfl rfl ?_
    exact h
theorem sg_95_11 {d : Nat} {P : Mm → Prop} {a2 : Int} {a3 : Int} {a4 : Int} {M : Mm} (h : (0 ≤ a3 ∧ a3 < 8) ∧ ((¬ (M 12 a3) = a2 → inI (a3 + 1) ∧ H_95_2 d P a2 (a3 + 1) M) ∧ ((M 12 a3) = a2 → (((M 1 6) ≤ a4 → inI (a3 + 1) ∧ H_95_2 d P a2 (a3 + 1) M) ∧ (a4 < (M 1 6) → (0 ≤ a4 ∧ a4 < 48) ∧ ((¬ (M 5 a4) = a3 → inI (a4 + 1) ∧ H_95_11 d P a2 a3 (a4 + 1) M) ∧ ((M 5 a4) = a3 → (0 ≤ (M 10 7) ∧ (M 10 7) < 48) ∧ inI ((M 10 7) + 1) ∧ inI (a4 + 1) ∧ H_95_11 d P a2 a3 (a4 + 1) (mset (mset M 21 (M 10 7) a4) 10 7 ((M 10 7) + 1))))))))) : H_95_11 d P a2 a3 a4 M := by
  have hE := EE_mono d
  unfold H_95_11
  refine z_aload hE rfl rfl rfl ?_
  refine z_getR hE (q := 12) rfl shk_10 rfl rfl rfl ?_
  refine z_iload hE rfl rfl ?_
  have hb := h.1
  have h := h.2
  refine z_iald hE rfl shk_12 hb ?_
  refine z_iload hE rfl rfl ?_
  refine z_icmp_ne hE rfl ⟨fun q => ?_, fun q => ?_⟩
  · have h := h.1 q
    have hb := h.1
    have h := h.2
    refine z_iinc hE rfl rfl rfl hb ?_
    refine z_goto hE rfl ?_
    exact GoG.weak hE (ls := [vR 10, vR 1, vI a2, vI (a3 + 1), vU]) ⟨Or.inl rfl, Or.inl rfl, Or.inl rfl, Or.inl rfl, Or.inr ⟨rfl, _, rfl⟩, trivial⟩ h
  · have h := h.2 q
    refine z_iload hE rfl rfl ?_
    refine z_aload hE rfl rfl rfl ?_
    refine z_getI hE (sl := 6) rfl shk_1 rfl rfl rfl ?_
    refine z_icmp_ge hE rfl ⟨fun q => ?_, fun q => ?_⟩
    · have h := h.1 q
      have hb := h.1
      have h := h.2
      refine z_iinc hE rfl rfl rfl hb ?_
      refine z_goto hE rfl ?_
      exact GoG.weak hE (ls := [vR 10, vR 1, vI a2, vI (a3 + 1), vU]) ⟨Or.inl rfl, Or.inl rfl, Or.inl rfl, Or.inl rfl, Or.inr ⟨rfl, _, rfl⟩, trivial⟩ h
    · have h := h.2 q
      refine z_aload hE rfl rfl rfl ?_
      refine z_getR hE (q := 5) rfl shk_1 rfl rfl rfl ?_
      refine z_iload hE rfl rfl ?_
      have hb := h.1
      have h := h.2
      refine z_iald hE rfl shk_5 hb ?_
      refine z_iload hE rfl rfl ?_
      refine z_icmp_ne hE rfl ⟨fun q => ?_, fun q => ?_⟩
      · have h := h.1 q
        have hb := h.1
        have h := h.2
        refine z_iinc hE rfl rfl rfl hb ?_
        refine z_goto hE rfl ?_
        exact h
      · have h := h.2 q
        refine z_aload hE rfl rfl rfl ?_
        refine z_getR hE (q := 21) rfl shk_10 rfl rfl rfl ?_
        refine z_aload hE rfl rfl rfl ?_
        refine z_getI hE (sl := 7) rfl shk_10 rfl rfl rfl ?_
        refine z_iload hE rfl rfl ?_
        have hb := h.1
        have h := h.2
        refine z_iast hE rfl shk_21 hb ?_
        refine z_aload hE rfl rfl rfl ?_
        refine z_dup hE rfl rfl ?_
        refine z_getI hE (sl := 7) rfl shk_10 rfl rfl rfl ?_
        refine z_iconst hE rfl ?_
        have hb := h.1
        have h := h.2
        refine z_iadd hE rfl hb ?_
        refine z_putI hE (sl := 7) rfl shk_10 rfl rfl rfl ?_
        have hb := h.1
        have h := h.2
        refine z_iinc hE rfl rfl rfl hb ?_
        refine z_goto hE rfl ?_
        exact h
/-! 96: ChildTrains$Platform.fill(LChildTrains$Children;II)V -/
def H_96_39 (d : Nat) (P : Mm → Prop) (a2 : Int) (a3 : Int) (a4 : Int) (a5 : Int) (M : Mm) : Prop := GoG false (EE d) cd_96 (rV P) 39 [vR 10, vR 1, vI a2, vI a3, vI a4, vI a5, vU, vU] [] M
def H_96_76 (d : Nat) (P : Mm → Prop) (a2 : Int) (a3 : Int) (a4 : Int) (a5 : Int) (s0 : Int) (M : Mm) : Prop := GoG false (EE d) cd_96 (rV P) 76 [vR 10, vR 1, vI a2, vI a3, vI a4, vI a5, vU, vU] [vI s0] M
theorem mN_96 : mN 96 = 8 := by decide +kernel
theorem ee_96 {d : Nat} {Q : Ql} {a2 : Int} {a3 : Int} {M : Mm} (h : GoG false (EE d) cd_96 Q 0 [vR 10, vR 1, vI a2, vI a3, vU, vU, vU, vU] [] M) : EE (d + 1) 96 [vR 10, vR 1, vI a2, vI a3] M Q := by
  have e : cdTab 96 = cd_96 := rfl
  unfold EE; rw [mN_96, e]; exact ⟨Nat.le_of_ble_eq_true rfl, h⟩
theorem sg_96 {d : Nat} {P : Mm → Prop} {a2 : Int} {a3 : Int} {M : Mm} (h : (((M 10 8) = 0 → H_96_39 d P a2 a3 1 0 M) ∧ (¬ (M 10 8) = 0 → ((¬ (M 10 8) = 2 → H_96_39 d P a2 a3 0 0 M) ∧ ((M 10 8) = 2 → (0 ≤ a2 ∧ a2 < 6) ∧ inI ((M (14 + a2.toNat) 1) - 5) ∧ ((a3 < ((M (14 + a2.toNat) 1) - 5) → H_96_39 d P a2 a3 0 0 M) ∧ (((M (14 + a2.toNat) 1) - 5) ≤ a3 → H_96_39 d P a2 a3 1 0 M))))))) : EE (d + 1) 96 [vR 10, vR 1, vI a2, vI a3] M (rV P) := by
  have hE := EE_mono d
  refine ee_96 ?_
  refine z_aload hE rfl rfl rfl ?_
  refine z_getI hE (sl := 8) rfl shk_10 rfl rfl rfl ?_
  refine z_if_eq hE rfl ⟨fun q => ?_, fun q => ?_⟩
  · have h := h.1 q
    refine z_iconst hE rfl ?_
    refine z_goto hE rfl ?_
    refine z_istore hE rfl rfl rfl ?_
    refine z_iconst hE rfl ?_
    refine z_istore hE rfl rfl rfl ?_
    exact h
  · have h := h.2 q
    refine z_aload hE rfl rfl rfl ?_
    refine z_getI hE (sl := 8) rfl shk_10 rfl rfl rfl ?_
    refine z_iconst hE rfl ?_
    refine z_icmp_ne hE rfl ⟨fun q => ?_, fun q => ?_⟩
    · have h := h.1 q
      refine z_iconst hE rfl ?_
      refine z_istore hE rfl rfl rfl ?_
      refine z_iconst hE rfl ?_
      refine z_istore hE rfl rfl rfl ?_
      exact h
    · have h := h.2 q
      refine z_iload hE rfl rfl ?_
      refine z_aload hE rfl rfl rfl ?_
      refine z_getR hE (q := 13) rfl shk_10 rfl rfl rfl ?_
      refine z_iload hE rfl rfl ?_
      have hb := h.1
      have h := h.2
      refine z_aald hE rfl shk_13 rfl hb ?_
      refine z_iconst hE rfl ?_
      have hb : (0 : Int) ≤ 1 ∧ (1 : Int) < 5 := by decide
      refine z_ialdW hE rfl shk_14 hb ?_
      refine z_iconst hE rfl ?_
      have hb := h.1
      have h := h.2
      refine z_isub hE rfl hb ?_
      refine z_icmp_lt hE rfl ⟨fun q => ?_, fun q => ?_⟩
      · have h := h.1 q
        refine z_iconst hE rfl ?_
        refine z_istore hE rfl rfl rfl ?_
        refine z_iconst hE rfl ?_
        refine z_istore hE rfl rfl rfl ?_
        exact h
      · have h := h.2 q
        refine z_iconst hE rfl ?_
        refine z_goto hE rfl ?_
        refine z_istore hE rfl rfl rfl ?_
        refine z_iconst hE rfl ?_
        refine z_istore hE rfl rfl rfl ?_
        exact h
theorem sg_96_39 {d : Nat} {P : Mm → Prop} {a2 : Int} {a3 : Int} {a4 : Int} {a5 : Int} {M : Mm} (h : (0 ≤ a2 ∧ a2 < 6) ∧ (((M (14 + a2.toNat) 3) ≤ a5 → P M) ∧ (a5 < (M (14 + a2.toNat) 3) → (0 ≤ a2 ∧ a2 < 6) ∧ (((M 20 a2) ≤ 0 → P M) ∧ (0 < (M 20 a2) → ((a4 = 0 → EE d 97 [vR 10, vR 1, vI a2] M (rI fun r1 M1 => H_96_76 d P a2 a3 a4 a5 r1 M1)) ∧ (¬ a4 = 0 → H_96_76 d P a2 a3 a4 a5 0 M))))))) : H_96_39 d P a2 a3 a4 a5 M := by
  have hE := EE_mono d
  unfold H_96_39
  refine z_iload hE rfl rfl ?_
  refine z_aload hE rfl rfl rfl ?_
  refine z_getR hE (q := 13) rfl shk_10 rfl rfl rfl ?_
  refine z_iload hE rfl rfl ?_
  have hb := h.1
  have h := h.2
  refine z_aald hE rfl shk_13 rfl hb ?_
  refine z_iconst hE rfl ?_
  have hb : (0 : Int) ≤ 3 ∧ (3 : Int) < 5 := by decide
  refine z_ialdW hE rfl shk_14 hb ?_
  refine z_icmp_ge hE rfl ⟨fun q => ?_, fun q => ?_⟩
  · have h := h.1 q
    exact z_vret hE rfl h
  · have h := h.2 q
    refine z_aload hE rfl rfl rfl ?_
    refine z_getR hE (q := 20) rfl shk_10 rfl rfl rfl ?_
    refine z_iload hE rfl rfl ?_
    have hb := h.1
    have h := h.2
    refine z_iald hE rfl shk_20 hb ?_
    refine z_if_le hE rfl ⟨fun q => ?_, fun q => ?_⟩
    · have h := h.1 q
      exact z_vret hE rfl h
    · have h := h.2 q
      refine z_iload hE rfl rfl ?_
      refine z_if_eq hE rfl ⟨fun q => ?_, fun q => ?_⟩
      · have h := h.1 q
        refine z_aload hE rfl rfl rfl ?_
        refine z_aload hE rfl rfl rfl ?_
        refine z_iload hE rfl rfl ?_
        refine z_callvI hE rfl rfl rfl rfl rfl (Nat.le_of_ble_eq_true rfl) (by decide) ⟨rfl, rfl⟩ (EE_mono d _ _ _ _ _ (rI_mono fun r1 M1 h => ?_) h)
        exact h
      · have h := h.2 q
        refine z_iconst hE rfl ?_
        refine z_goto hE rfl ?_
        exact h
theorem sg_96_76 {d : Nat} {P : Mm → Prop} {a2 : Int} {a3 : Int} {a4 : Int} {a5 : Int} {s0 : Int} {M : Mm} (h : ((s0 < (M 10 7) → (0 ≤ s0 ∧ s0 < 48) ∧ (0 ≤ (M 21 s0) ∧ (M 21 s0) < 48) ∧ (0 ≤ (M 21 s0) ∧ (M 21 s0) < 48) ∧ (0 ≤ a2 ∧ a2 < 6) ∧ inI ((M 20 a2) - 1) ∧ (0 ≤ a2 ∧ a2 < 6) ∧ inI ((M 10 7) - 1) ∧ inI (s0 + 1) ∧ inI (((M 10 7) - 1) - s0) ∧ (0 ≤ (s0 + 1) ∧ 0 ≤ s0 ∧ 0 ≤ (((M 10 7) - 1) - s0) ∧ (s0 + 1) + (((M 10 7) - 1) - s0) ≤ 48 ∧ s0 + (((M 10 7) - 1) - s0) ≤ 48) ∧ inI (a5 + 1) ∧ H_96_39 d P a2 a3 a4 (a5 + 1) (rset (mset (mset (mset (mset M 22 (M 21 s0) a2) 23 (M 21 s0) a3) 20 a2 ((M 20 a2) - 1)) 10 7 ((M 10 7) - 1)) 21 (fcpy ((mset (mset (mset (mset M 22 (M 21 s0) a2) 23 (M 21 s0) a3) 20 a2 ((M 20 a2) - 1)) 10 7 ((M 10 7) - 1)) 21) ((mset (mset (mset (mset M 22 (M 21 s0) a2) 23 (M 21 s0) a3) 20 a2 ((M 20 a2) - 1)) 10 7 ((M 10 7) - 1)) 21) (s0 + 1) s0 (((M 10 7) - 1) - s0)))) ∧ ((M 10 7) ≤ s0 → P M))) : H_96_76 d P a2 a3 a4 a5 s0 M := by
  have hE := EE_mono d
  unfold H_96_76
  refine z_istore hE rfl rfl rfl ?_
  refine z_iload hE rfl rfl ?_
  refine z_aload hE rfl rfl rfl ?_
  refine z_getI hE (sl := 7) rfl shk_10 rfl rfl rfl ?_
  refine z_icmp_lt hE rfl ⟨fun q => ?_, fun q => ?_⟩
  · have h := h.1 q
    refine z_aload hE rfl rfl rfl ?_
    refine z_getR hE (q := 21) rfl shk_10 rfl rfl rfl ?_
    refine z_iload hE rfl rfl ?_
    have hb := h.1
    have h := h.2
    refine z_iald hE rfl shk_21 hb ?_
    refine z_istore hE rfl rfl rfl ?_
    refine z_aload hE rfl rfl rfl ?_
    refine z_getR hE (q := 22) rfl shk_10 rfl rfl rfl ?_
    refine z_iload hE rfl rfl ?_
    refine z_iload hE rfl rfl ?_
    have hb := h.1
    have h := h.2
    refine z_iast hE rfl shk_22 hb ?_
    refine z_aload hE rfl rfl rfl ?_
    refine z_getR hE (q := 23) rfl shk_10 rfl rfl rfl ?_
    refine z_iload hE rfl rfl ?_
    refine z_iload hE rfl rfl ?_
    have hb := h.1
    have h := h.2
    refine z_iast hE rfl shk_23 hb ?_
    refine z_aload hE rfl rfl rfl ?_
    refine z_getR hE (q := 20) rfl shk_10 rfl rfl rfl ?_
    refine z_iload hE rfl rfl ?_
    refine z_dup2 hE rfl rfl rfl ?_
    have hb := h.1
    have h := h.2
    refine z_iald hE rfl shk_20 hb ?_
    refine z_iconst hE rfl ?_
    have hb := h.1
    have h := h.2
    refine z_isub hE rfl hb ?_
    have hb := h.1
    have h := h.2
    refine z_iast hE rfl shk_20 hb ?_
    refine z_aload hE rfl rfl rfl ?_
    refine z_dup hE rfl rfl ?_
    refine z_getI hE (sl := 7) rfl shk_10 rfl rfl rfl ?_
    refine z_iconst hE rfl ?_
    have hb := h.1
    have h := h.2
    refine z_isub hE rfl hb ?_
    refine z_putI hE (sl := 7) rfl shk_10 rfl rfl rfl ?_
    refine z_aload hE rfl rfl rfl ?_
    refine z_getR hE (q := 21) rfl shk_10 rfl rfl rfl ?_
    refine z_iload hE rfl rfl ?_
    refine z_iconst hE rfl ?_
    have hb := h.1
    have h := h.2
    refine z_iadd hE rfl hb ?_
    refine z_aload hE rfl rfl rfl ?_
    refine z_getR hE (q := 21) rfl shk_10 rfl rfl rfl ?_
    refine z_iload hE rfl rfl ?_
    refine z_aload hE rfl rfl rfl ?_
    refine z_getI hE (sl := 7) rfl shk_10 rfl rfl rfl ?_
    refine z_iload hE rfl rfl ?_
    have hb := h.1
    have h := h.2
    refine z_isub hE rfl hb ?_
    have hb := h.1
    have h := h.2
    refine z_copy hE rfl shk_21 shk_21 (Nat.le_of_ble_eq_true rfl) hb ?_
    have hb := h.1
    have h := h.2
    refine z_iinc hE rfl rfl rfl hb ?_
    refine z_goto hE rfl ?_
    exact GoG.weak hE (ls := [vR 10, vR 1, vI a2, vI a3, vI a4, vI (a5 + 1), vU, vU]) ⟨Or.inl rfl, Or.inl rfl, Or.inl rfl, Or.inl rfl, Or.inl rfl, Or.inl rfl, Or.inr ⟨rfl, _, rfl⟩, Or.inr ⟨rfl, _, rfl⟩, trivial⟩ h
  · have h := h.2 q
    exact z_vret hE rfl h
/-! 97: ChildTrains$Platform.firstLabelled(LChildTrains$Children;I)I -/
def H_97_2 (d : Nat) (P : Int → Mm → Prop) (a2 : Int) (a3 : Int) (M : Mm) : Prop := GoG false (EE d) cd_97 (rI P) 2 [vR 10, vR 1, vI a2, vI a3] [] M
theorem mN_97 : mN 97 = 4 := by decide +kernel
theorem ee_97 {d : Nat} {Q : Ql} {a2 : Int} {M : Mm} (h : GoG false (EE d) cd_97 Q 0 [vR 10, vR 1, vI a2, vU] [] M) : EE (d + 1) 97 [vR 10, vR 1, vI a2] M Q := by
  have e : cdTab 97 = cd_97 := rfl
  unfold EE; rw [mN_97, e]; exact ⟨Nat.le_of_ble_eq_true rfl, h⟩
theorem sg_97 {d : Nat} {P : Int → Mm → Prop} {a2 : Int} {M : Mm} (h : H_97_2 d P a2 0 M) : EE (d + 1) 97 [vR 10, vR 1, vI a2] M (rI P) := by
  have hE := EE_mono d
  refine ee_97 ?_
  refine z_iconst hE rfl ?_
  refine z_istore hE rfl rfl rfl ?_
  exact h
theorem sg_97_2 {d : Nat} {P : Int → Mm → Prop} {a2 : Int} {a3 : Int} {M : Mm} (h : (((M 10 7) ≤ a3 → P (M 10 7) M) ∧ (a3 < (M 10 7) → (0 ≤ a3 ∧ a3 < 48) ∧ (0 ≤ (M 21 a3) ∧ (M 21 a3) < 48) ∧ (0 ≤ (M 5 (M 21 a3)) ∧ (M 5 (M 21 a3)) < 8) ∧ ((¬ (M 11 (M 5 (M 21 a3))) = a2 → inI (a3 + 1) ∧ H_97_2 d P a2 (a3 + 1) M) ∧ ((M 11 (M 5 (M 21 a3))) = a2 → P a3 M))))) : H_97_2 d P a2 a3 M := by
  have hE := EE_mono d
  unfold H_97_2
  refine z_iload hE rfl rfl ?_
  refine z_aload hE rfl rfl rfl ?_
  refine z_getI hE (sl := 7) rfl shk_10 rfl rfl rfl ?_
  refine z_icmp_ge hE rfl ⟨fun q => ?_, fun q => ?_⟩
  · have h := h.1 q
    refine z_aload hE rfl rfl rfl ?_
    refine z_getI hE (sl := 7) rfl shk_10 rfl rfl rfl ?_
    exact z_iret hE rfl rfl h
  · have h := h.2 q
    refine z_aload hE rfl rfl rfl ?_
    refine z_getR hE (q := 11) rfl shk_10 rfl rfl rfl ?_
    refine z_aload hE rfl rfl rfl ?_
    refine z_getR hE (q := 5) rfl shk_1 rfl rfl rfl ?_
    refine z_aload hE rfl rfl rfl ?_
    refine z_getR hE (q := 21) rfl shk_10 rfl rfl rfl ?_
    refine z_iload hE rfl rfl ?_
    have hb := h.1
    have h := h.2
    refine z_iald hE rfl shk_21 hb ?_
    have hb := h.1
    have h := h.2
    refine z_iald hE rfl shk_5 hb ?_
    have hb := h.1
    have h := h.2
    refine z_iald hE rfl shk_11 hb ?_
    refine z_iload hE rfl rfl ?_
    refine z_icmp_ne hE rfl ⟨fun q => ?_, fun q => ?_⟩
    · have h := h.1 q
      have hb := h.1
      have h := h.2
      refine z_iinc hE rfl rfl rfl hb ?_
      refine z_goto hE rfl ?_
      exact h
    · have h := h.2 q
      refine z_iload hE rfl rfl ?_
      exact z_iret hE rfl rfl h
/-! 98: ChildTrains$Platform.villageOf(I)I -/
theorem mN_98 : mN 98 = 2 := by decide +kernel
theorem ee_98 {d : Nat} {Q : Ql} {a1 : Int} {M : Mm} (h : GoG false (EE d) cd_98 Q 0 [vR 10, vI a1] [] M) : EE (d + 1) 98 [vR 10, vI a1] M Q := by
  have e : cdTab 98 = cd_98 := rfl
  unfold EE; rw [mN_98, e]; exact ⟨Nat.le_of_ble_eq_true rfl, h⟩
theorem sg_98 {d : Nat} {P : Int → Mm → Prop} {a1 : Int} {M : Mm} (h : (0 ≤ a1 ∧ a1 < 48) ∧ ((¬ (M 22 a1) = (-9) → (0 ≤ a1 ∧ a1 < 48) ∧ (0 ≤ (M 22 a1) ∧ (M 22 a1) < 6) ∧ P (M (14 + (M 22 a1).toNat) 4) M) ∧ ((M 22 a1) = (-9) → P (-9) M))) : EE (d + 1) 98 [vR 10, vI a1] M (rI P) := by
  have hE := EE_mono d
  refine ee_98 ?_
  refine z_aload hE rfl rfl rfl ?_
  refine z_getR hE (q := 22) rfl shk_10 rfl rfl rfl ?_
  refine z_iload hE rfl rfl ?_
  have hb := h.1
  have h := h.2
  refine z_iald hE rfl shk_22 hb ?_
  refine z_iconst hE rfl ?_
  refine z_icmp_ne hE rfl ⟨fun q => ?_, fun q => ?_⟩
  · have h := h.1 q
    refine z_aload hE rfl rfl rfl ?_
    refine z_getR hE (q := 13) rfl shk_10 rfl rfl rfl ?_
    refine z_aload hE rfl rfl rfl ?_
    refine z_getR hE (q := 22) rfl shk_10 rfl rfl rfl ?_
    refine z_iload hE rfl rfl ?_
    have hb := h.1
    have h := h.2
    refine z_iald hE rfl shk_22 hb ?_
    have hb := h.1
    have h := h.2
    refine z_aald hE rfl shk_13 rfl hb ?_
    refine z_iconst hE rfl ?_
    have hb : (0 : Int) ≤ 4 ∧ (4 : Int) < 5 := by decide
    refine z_ialdW hE rfl shk_14 hb ?_
    exact z_iret hE rfl rfl h
  · have h := h.2 q
    refine z_iconst hE rfl ?_
    refine z_goto hE rfl ?_
    exact z_iret hE rfl rfl h
/-! 99: ChildTrains$Platform.carried(LChildTrains$Children;I)I -/
def H_99_5 (d : Nat) (P : Int → Mm → Prop) (a2 : Int) (a3 : Int) (a4 : Int) (M : Mm) : Prop := GoG false (EE d) cd_99 (rI P) 5 [vR 10, vR 1, vI a2, vI a3, vI a4] [] M
theorem mN_99 : mN 99 = 5 := by decide +kernel
theorem ee_99 {d : Nat} {Q : Ql} {a2 : Int} {M : Mm} (h : GoG false (EE d) cd_99 Q 0 [vR 10, vR 1, vI a2, vU, vU] [] M) : EE (d + 1) 99 [vR 10, vR 1, vI a2] M Q := by
  have e : cdTab 99 = cd_99 := rfl
  unfold EE; rw [mN_99, e]; exact ⟨Nat.le_of_ble_eq_true rfl, h⟩
theorem sg_99 {d : Nat} {P : Int → Mm → Prop} {a2 : Int} {M : Mm} (h : H_99_5 d P a2 0 0 M) : EE (d + 1) 99 [vR 10, vR 1, vI a2] M (rI P) := by
  have hE := EE_mono d
  refine ee_99 ?_
  refine z_iconst hE rfl ?_
  refine z_istore hE rfl rfl rfl ?_
  refine z_iconst hE rfl ?_
  refine z_istore hE rfl rfl rfl ?_
  exact h
theorem sg_99_5 {d : Nat} {P : Int → Mm → Prop} {a2 : Int} {a3 : Int} {a4 : Int} {M : Mm} (h : ((8 ≤ a4 → P a3 M) ∧ (a4 < 8 → EE d 100 [vR 10, vR 1, vI a2, vI a4] M (rI fun r1 M1 => inI (a3 + r1) ∧ inI (a4 + 1) ∧ H_99_5 d P a2 (a3 + r1) (a4 + 1) M1)))) : H_99_5 d P a2 a3 a4 M := by
  have hE := EE_mono d
  unfold H_99_5
  refine z_iload hE rfl rfl ?_
  refine z_iconst hE rfl ?_
  refine z_icmp_ge hE rfl ⟨fun q => ?_, fun q => ?_⟩
  · have h := h.1 q
    refine z_iload hE rfl rfl ?_
    exact z_iret hE rfl rfl h
  · have h := h.2 q
    refine z_iload hE rfl rfl ?_
    refine z_aload hE rfl rfl rfl ?_
    refine z_aload hE rfl rfl rfl ?_
    refine z_iload hE rfl rfl ?_
    refine z_iload hE rfl rfl ?_
    refine z_callvI hE rfl rfl rfl rfl rfl (Nat.le_of_ble_eq_true rfl) (by decide) ⟨rfl, rfl⟩ (EE_mono d _ _ _ _ _ (rI_mono fun r1 M1 h => ?_) h)
    have hb := h.1
    have h := h.2
    refine z_iadd hE rfl hb ?_
    refine z_istore hE rfl rfl rfl ?_
    have hb := h.1
    have h := h.2
    refine z_iinc hE rfl rfl rfl hb ?_
    refine z_goto hE rfl ?_
    exact h
/-! 100: ChildTrains$Platform.carriedOf(LChildTrains$Children;II)I -/
def H_100_6 (d : Nat) (P : Int → Mm → Prop) (a2 : Int) (a3 : Int) (a4 : Int) (a5 : Int) (M : Mm) : Prop := GoG false (EE d) cd_100 (rI P) 6 [vR 10, vR 1, vI a2, vI a3, vI a4, vI a5] [] M
theorem mN_100 : mN 100 = 6 := by decide +kernel
theorem ee_100 {d : Nat} {Q : Ql} {a2 : Int} {a3 : Int} {M : Mm} (h : GoG false (EE d) cd_100 Q 0 [vR 10, vR 1, vI a2, vI a3, vU, vU] [] M) : EE (d + 1) 100 [vR 10, vR 1, vI a2, vI a3] M Q := by
  have e : cdTab 100 = cd_100 := rfl
  unfold EE; rw [mN_100, e]; exact ⟨Nat.le_of_ble_eq_true rfl, h⟩
theorem sg_100 {d : Nat} {P : Int → Mm → Prop} {a2 : Int} {a3 : Int} {M : Mm} (h : H_100_6 d P a2 a3 0 0 M) : EE (d + 1) 100 [vR 10, vR 1, vI a2, vI a3] M (rI P) := by
  have hE := EE_mono d
  refine ee_100 ?_
  refine z_iconst hE rfl ?_
  refine z_istore hE rfl rfl rfl ?_
  refine z_iconst hE rfl ?_
  refine z_istore hE rfl rfl rfl ?_
  exact h
theorem sg_100_6 {d : Nat} {P : Int → Mm → Prop} {a2 : Int} {a3 : Int} {a4 : Int} {a5 : Int} {M : Mm} (h : (((M 1 6) ≤ a5 → P a4 M) ∧ (a5 < (M 1 6) → (0 ≤ a5 ∧ a5 < 48) ∧ ((¬ (M 22 a5) = a2 → inI (a5 + 1) ∧ H_100_6 d P a2 a3 a4 (a5 + 1) M) ∧ ((M 22 a5) = a2 → (0 ≤ a5 ∧ a5 < 48) ∧ ((¬ (M 5 a5) = a3 → inI (a5 + 1) ∧ H_100_6 d P a2 a3 a4 (a5 + 1) M) ∧ ((M 5 a5) = a3 → inI (a4 + 1) ∧ inI (a5 + 1) ∧ H_100_6 d P a2 a3 (a4 + 1) (a5 + 1) M))))))) : H_100_6 d P a2 a3 a4 a5 M := by
  have hE := EE_mono d
  unfold H_100_6
  refine z_iload hE rfl rfl ?_
  refine z_aload hE rfl rfl rfl ?_
  refine z_getI hE (sl := 6) rfl shk_1 rfl rfl rfl ?_
  refine z_icmp_ge hE rfl ⟨fun q => ?_, fun q => ?_⟩
  · have h := h.1 q
    refine z_iload hE rfl rfl ?_
    exact z_iret hE rfl rfl h
  · have h := h.2 q
    refine z_aload hE rfl rfl rfl ?_
    refine z_getR hE (q := 22) rfl shk_10 rfl rfl rfl ?_
    refine z_iload hE rfl rfl ?_
    have hb := h.1
    have h := h.2
    refine z_iald hE rfl shk_22 hb ?_
    refine z_iload hE rfl rfl ?_
    refine z_icmp_ne hE rfl ⟨fun q => ?_, fun q => ?_⟩
    · have h := h.1 q
      have hb := h.1
      have h := h.2
      refine z_iinc hE rfl rfl rfl hb ?_
      refine z_goto hE rfl ?_
      exact h
    · have h := h.2 q
      refine z_aload hE rfl rfl rfl ?_
      refine z_getR hE (q := 5) rfl shk_1 rfl rfl rfl ?_
      refine z_iload hE rfl rfl ?_
      have hb := h.1
      have h := h.2
      refine z_iald hE rfl shk_5 hb ?_
      refine z_iload hE rfl rfl ?_
      refine z_icmp_ne hE rfl ⟨fun q => ?_, fun q => ?_⟩
      · have h := h.1 q
        have hb := h.1
        have h := h.2
        refine z_iinc hE rfl rfl rfl hb ?_
        refine z_goto hE rfl ?_
        exact h
      · have h := h.2 q
        have hb := h.1
        have h := h.2
        refine z_iinc hE rfl rfl rfl hb ?_
        have hb := h.1
        have h := h.2
        refine z_iinc hE rfl rfl rfl hb ?_
        refine z_goto hE rfl ?_
        exact h
/-! 101: ChildTrains$Platform.mislaid(LChildTrains$Children;)I -/
def H_101_4 (d : Nat) (P : Int → Mm → Prop) (a2 : Int) (a3 : Int) (M : Mm) : Prop := GoG false (EE d) cd_101 (rI P) 4 [vR 10, vR 1, vI a2, vI a3] [] M
theorem mN_101 : mN 101 = 4 := by decide +kernel
theorem ee_101 {d : Nat} {Q : Ql} {M : Mm} (h : GoG false (EE d) cd_101 Q 0 [vR 10, vR 1, vU, vU] [] M) : EE (d + 1) 101 [vR 10, vR 1] M Q := by
  have e : cdTab 101 = cd_101 := rfl
  unfold EE; rw [mN_101, e]; exact ⟨Nat.le_of_ble_eq_true rfl, h⟩
theorem sg_101 {d : Nat} {P : Int → Mm → Prop} {M : Mm} (h : H_101_4 d P 0 0 M) : EE (d + 1) 101 [vR 10, vR 1] M (rI P) := by
  have hE := EE_mono d
  refine ee_101 ?_
  refine z_iconst hE rfl ?_
  refine z_istore hE rfl rfl rfl ?_
  refine z_iconst hE rfl ?_
  refine z_istore hE rfl rfl rfl ?_
  exact h
theorem sg_101_4 {d : Nat} {P : Int → Mm → Prop} {a2 : Int} {a3 : Int} {M : Mm} (h : (((M 1 6) ≤ a3 → P a2 M) ∧ (a3 < (M 1 6) → (0 ≤ a3 ∧ a3 < 48) ∧ (((M 22 a3) = (-9) → inI (a3 + 1) ∧ H_101_4 d P a2 (a3 + 1) M) ∧ (¬ (M 22 a3) = (-9) → (0 ≤ a3 ∧ a3 < 48) ∧ (0 ≤ a3 ∧ a3 < 48) ∧ (0 ≤ (M 5 a3) ∧ (M 5 a3) < 8) ∧ (((M 22 a3) = (M 11 (M 5 a3)) → inI (a3 + 1) ∧ H_101_4 d P a2 (a3 + 1) M) ∧ (¬ (M 22 a3) = (M 11 (M 5 a3)) → inI (a2 + 1) ∧ inI (a3 + 1) ∧ H_101_4 d P (a2 + 1) (a3 + 1) M))))))) : H_101_4 d P a2 a3 M := by
  have hE := EE_mono d
  unfold H_101_4
  refine z_iload hE rfl rfl ?_
  refine z_aload hE rfl rfl rfl ?_
  refine z_getI hE (sl := 6) rfl shk_1 rfl rfl rfl ?_
  refine z_icmp_ge hE rfl ⟨fun q => ?_, fun q => ?_⟩
  · have h := h.1 q
    refine z_iload hE rfl rfl ?_
    exact z_iret hE rfl rfl h
  · have h := h.2 q
    refine z_aload hE rfl rfl rfl ?_
    refine z_getR hE (q := 22) rfl shk_10 rfl rfl rfl ?_
    refine z_iload hE rfl rfl ?_
    have hb := h.1
    have h := h.2
    refine z_iald hE rfl shk_22 hb ?_
    refine z_iconst hE rfl ?_
    refine z_icmp_eq hE rfl ⟨fun q => ?_, fun q => ?_⟩
    · have h := h.1 q
      have hb := h.1
      have h := h.2
      refine z_iinc hE rfl rfl rfl hb ?_
      refine z_goto hE rfl ?_
      exact h
    · have h := h.2 q
      refine z_aload hE rfl rfl rfl ?_
      refine z_getR hE (q := 22) rfl shk_10 rfl rfl rfl ?_
      refine z_iload hE rfl rfl ?_
      have hb := h.1
      have h := h.2
      refine z_iald hE rfl shk_22 hb ?_
      refine z_aload hE rfl rfl rfl ?_
      refine z_getR hE (q := 11) rfl shk_10 rfl rfl rfl ?_
      refine z_aload hE rfl rfl rfl ?_
      refine z_getR hE (q := 5) rfl shk_1 rfl rfl rfl ?_
      refine z_iload hE rfl rfl ?_
      have hb := h.1
      have h := h.2
      refine z_iald hE rfl shk_5 hb ?_
      have hb := h.1
      have h := h.2
      refine z_iald hE rfl shk_11 hb ?_
      refine z_icmp_eq hE rfl ⟨fun q => ?_, fun q => ?_⟩
      · have h := h.1 q
        have hb := h.1
        have h := h.2
        refine z_iinc hE rfl rfl rfl hb ?_
        refine z_goto hE rfl ?_
        exact h
      · have h := h.2 q
        have hb := h.1
        have h := h.2
        refine z_iinc hE rfl rfl rfl hb ?_
        have hb := h.1
        have h := h.2
        refine z_iinc hE rfl rfl rfl hb ?_
        refine z_goto hE rfl ?_
        exact h
/-! 102: ChildTrains$Register.inside(II)I -/
def H_102_5 (d : Nat) (P : Int → Mm → Prop) (a1 : Int) (a2 : Int) (a3 : Int) (a4 : Int) (M : Mm) : Prop := GoG false (EE d) cd_102 (rI P) 5 [vR 40, vI a1, vI a2, vI a3, vI a4] [] M
def H_102_42 (d : Nat) (P : Int → Mm → Prop) (a1 : Int) (a2 : Int) (a4 : Int) (s0 : Int) (s1 : Int) (M : Mm) : Prop := GoG false (EE d) cd_102 (rI P) 42 [vR 40, vI a1, vI a2, vU, vI a4] [vI s0, vI s1] M
theorem mN_102 : mN 102 = 5 := by decide +kernel
theorem ee_102 {d : Nat} {Q : Ql} {a1 : Int} {a2 : Int} {M : Mm} (h : GoG false (EE d) cd_102 Q 0 [vR 40, vI a1, vI a2, vU, vU] [] M) : EE (d + 1) 102 [vR 40, vI a1, vI a2] M Q := by
  have e : cdTab 102 = cd_102 := rfl
  unfold EE; rw [mN_102, e]; exact ⟨Nat.le_of_ble_eq_true rfl, h⟩
theorem sg_102 {d : Nat} {P : Int → Mm → Prop} {a1 : Int} {a2 : Int} {M : Mm} (h : H_102_5 d P a1 a2 0 0 M) : EE (d + 1) 102 [vR 40, vI a1, vI a2] M (rI P) := by
  have hE := EE_mono d
  refine ee_102 ?_
  refine z_iconst hE rfl ?_
  refine z_istore hE rfl rfl rfl ?_
  refine z_iconst hE rfl ?_
  refine z_istore hE rfl rfl rfl ?_
  exact h
theorem sg_102_5 {d : Nat} {P : Int → Mm → Prop} {a1 : Int} {a2 : Int} {a3 : Int} {a4 : Int} {M : Mm} (h : (((M 40 6) ≤ a4 → P a3 M) ∧ (a4 < (M 40 6) → (0 ≤ a4 ∧ a4 < 80) ∧ ((a2 < (M 44 a4) → P a3 M) ∧ ((M 44 a4) ≤ a2 → (0 ≤ a4 ∧ a4 < 80) ∧ ((¬ (M 43 a4) = a1 → H_102_42 d P a1 a2 a4 0 a3 M) ∧ ((M 43 a4) = a1 → H_102_42 d P a1 a2 a4 1 a3 M))))))) : H_102_5 d P a1 a2 a3 a4 M := by
  have hE := EE_mono d
  unfold H_102_5
  refine z_iload hE rfl rfl ?_
  refine z_aload hE rfl rfl rfl ?_
  refine z_getI hE (sl := 6) rfl shk_40 rfl rfl rfl ?_
  refine z_icmp_ge hE rfl ⟨fun q => ?_, fun q => ?_⟩
  · have h := h.1 q
    refine z_iload hE rfl rfl ?_
    exact z_iret hE rfl rfl h
  · have h := h.2 q
    refine z_aload hE rfl rfl rfl ?_
    refine z_getR hE (q := 44) rfl shk_40 rfl rfl rfl ?_
    refine z_iload hE rfl rfl ?_
    have hb := h.1
    have h := h.2
    refine z_iald hE rfl shk_44 hb ?_
    refine z_iload hE rfl rfl ?_
    refine z_icmp_gt hE rfl ⟨fun q => ?_, fun q => ?_⟩
    · have h := h.1 q
      refine z_iload hE rfl rfl ?_
      exact z_iret hE rfl rfl h
    · have h := h.2 q
      refine z_iload hE rfl rfl ?_
      refine z_aload hE rfl rfl rfl ?_
      refine z_getR hE (q := 43) rfl shk_40 rfl rfl rfl ?_
      refine z_iload hE rfl rfl ?_
      have hb := h.1
      have h := h.2
      refine z_iald hE rfl shk_43 hb ?_
      refine z_iload hE rfl rfl ?_
      refine z_icmp_ne hE rfl ⟨fun q => ?_, fun q => ?_⟩
      · have h := h.1 q
        refine z_iconst hE rfl ?_
        exact GoG.weak hE (ls := [vR 40, vI a1, vI a2, vU, vI a4]) ⟨Or.inl rfl, Or.inl rfl, Or.inl rfl, Or.inr ⟨rfl, _, rfl⟩, Or.inl rfl, trivial⟩ h
      · have h := h.2 q
        refine z_iconst hE rfl ?_
        refine z_goto hE rfl ?_
        exact GoG.weak hE (ls := [vR 40, vI a1, vI a2, vU, vI a4]) ⟨Or.inl rfl, Or.inl rfl, Or.inl rfl, Or.inr ⟨rfl, _, rfl⟩, Or.inl rfl, trivial⟩ h
theorem sg_102_42 {d : Nat} {P : Int → Mm → Prop} {a1 : Int} {a2 : Int} {a4 : Int} {s0 : Int} {s1 : Int} {M : Mm} (h : (0 ≤ a4 ∧ a4 < 80) ∧ ((¬ (M 42 a4) = a1 → inI (s0 - 0) ∧ inI (s1 + (s0 - 0)) ∧ inI (a4 + 1) ∧ H_102_5 d P a1 a2 (s1 + (s0 - 0)) (a4 + 1) M) ∧ ((M 42 a4) = a1 → inI (s0 - 1) ∧ inI (s1 + (s0 - 1)) ∧ inI (a4 + 1) ∧ H_102_5 d P a1 a2 (s1 + (s0 - 1)) (a4 + 1) M))) : H_102_42 d P a1 a2 a4 s0 s1 M := by
  have hE := EE_mono d
  unfold H_102_42
  refine z_aload hE rfl rfl rfl ?_
  refine z_getR hE (q := 42) rfl shk_40 rfl rfl rfl ?_
  refine z_iload hE rfl rfl ?_
  have hb := h.1
  have h := h.2
  refine z_iald hE rfl shk_42 hb ?_
  refine z_iload hE rfl rfl ?_
  refine z_icmp_ne hE rfl ⟨fun q => ?_, fun q => ?_⟩
  · have h := h.1 q
    refine z_iconst hE rfl ?_
    have hb := h.1
    have h := h.2
    refine z_isub hE rfl hb ?_
    have hb := h.1
    have h := h.2
    refine z_iadd hE rfl hb ?_
    refine z_istore hE rfl rfl rfl ?_
    have hb := h.1
    have h := h.2
    refine z_iinc hE rfl rfl rfl hb ?_
    refine z_goto hE rfl ?_
    exact h
  · have h := h.2 q
    refine z_iconst hE rfl ?_
    refine z_goto hE rfl ?_
    have hb := h.1
    have h := h.2
    refine z_isub hE rfl hb ?_
    have hb := h.1
    have h := h.2
    refine z_iadd hE rfl hb ?_
    refine z_istore hE rfl rfl rfl ?_
    have hb := h.1
    have h := h.2
    refine z_iinc hE rfl rfl rfl hb ?_
    refine z_goto hE rfl ?_
    exact h
/-! 103: ChildTrains$Register.tell(III)I -/
theorem mN_103 : mN 103 = 4 := by decide +kernel
theorem ee_103 {d : Nat} {Q : Ql} {a1 : Int} {a2 : Int} {a3 : Int} {M : Mm} (h : GoG false (EE d) cd_103 Q 0 [vR 40, vI a1, vI a2, vI a3] [] M) : EE (d + 1) 103 [vR 40, vI a1, vI a2, vI a3] M Q := by
  have e : cdTab 103 = cd_103 := rfl
  unfold EE; rw [mN_103, e]; exact ⟨Nat.le_of_ble_eq_true rfl, h⟩
theorem sg_103 {d : Nat} {P : Int → Mm → Prop} {a1 : Int} {a2 : Int} {a3 : Int} {M : Mm} (h : (((M 40 6) < 80 → (0 ≤ (M 40 6) ∧ (M 40 6) < 80) ∧ (0 ≤ a1 ∧ a1 < 48) ∧ (0 ≤ (M 40 6) ∧ (M 40 6) < 80) ∧ (0 ≤ (M 40 6) ∧ (M 40 6) < 80) ∧ (0 ≤ (M 40 6) ∧ (M 40 6) < 80) ∧ (0 ≤ a1 ∧ a1 < 48) ∧ inI (((mset (mset (mset (mset (mset (mset M 41 (M 40 6) a1) 42 (M 40 6) (M 45 a1)) 43 (M 40 6) a2) 44 (M 40 6) a3) 45 a1 a2) 40 7 a3) 40 6) + 1) ∧ P (((mset (mset (mset (mset (mset (mset M 41 (M 40 6) a1) 42 (M 40 6) (M 45 a1)) 43 (M 40 6) a2) 44 (M 40 6) a3) 45 a1 a2) 40 7 a3) 40 6) + 1) (mset (mset (mset (mset (mset (mset (mset M 41 (M 40 6) a1) 42 (M 40 6) (M 45 a1)) 43 (M 40 6) a2) 44 (M 40 6) a3) 45 a1 a2) 40 7 a3) 40 6 (((mset (mset (mset (mset (mset (mset M 41 (M 40 6) a1) 42 (M 40 6) (M 45 a1)) 43 (M 40 6) a2) 44 (M 40 6) a3) 45 a1 a2) 40 7 a3) 40 6) + 1))) ∧ (80 ≤ (M 40 6) → P (-3) M))) : EE (d + 1) 103 [vR 40, vI a1, vI a2, vI a3] M (rI P) := by
  have hE := EE_mono d
  refine ee_103 ?_
  refine z_aload hE rfl rfl rfl ?_
  refine z_getI hE (sl := 6) rfl shk_40 rfl rfl rfl ?_
  refine z_iconst hE rfl ?_
  refine z_icmp_lt hE rfl ⟨fun q => ?_, fun q => ?_⟩
  · have h := h.1 q
    refine z_aload hE rfl rfl rfl ?_
    refine z_getR hE (q := 41) rfl shk_40 rfl rfl rfl ?_
    refine z_aload hE rfl rfl rfl ?_
    refine z_getI hE (sl := 6) rfl shk_40 rfl rfl rfl ?_
    refine z_iload hE rfl rfl ?_
    have hb := h.1
    have h := h.2
    refine z_iast hE rfl shk_41 hb ?_
    refine z_aload hE rfl rfl rfl ?_
    refine z_getR hE (q := 42) rfl shk_40 rfl rfl rfl ?_
    refine z_aload hE rfl rfl rfl ?_
    refine z_getI hE (sl := 6) rfl shk_40 rfl rfl rfl ?_
    refine z_aload hE rfl rfl rfl ?_
    refine z_getR hE (q := 45) rfl shk_40 rfl rfl rfl ?_
    refine z_iload hE rfl rfl ?_
    have hb := h.1
    have h := h.2
    refine z_iald hE rfl shk_45 hb ?_
    have hb := h.1
    have h := h.2
    refine z_iast hE rfl shk_42 hb ?_
    refine z_aload hE rfl rfl rfl ?_
    refine z_getR hE (q := 43) rfl shk_40 rfl rfl rfl ?_
    refine z_aload hE rfl rfl rfl ?_
    refine z_getI hE (sl := 6) rfl shk_40 rfl rfl rfl ?_
    refine z_iload hE rfl rfl ?_
    have hb := h.1
    have h := h.2
    refine z_iast hE rfl shk_43 hb ?_
    refine z_aload hE rfl rfl rfl ?_
    refine z_getR hE (q := 44) rfl shk_40 rfl rfl rfl ?_
    refine z_aload hE rfl rfl rfl ?_
    refine z_getI hE (sl := 6) rfl shk_40 rfl rfl rfl ?_
    refine z_iload hE rfl rfl ?_
    have hb := h.1
    have h := h.2
    refine z_iast hE rfl shk_44 hb ?_
    refine z_aload hE rfl rfl rfl ?_
    refine z_getR hE (q := 45) rfl shk_40 rfl rfl rfl ?_
    refine z_iload hE rfl rfl ?_
    refine z_iload hE rfl rfl ?_
    have hb := h.1
    have h := h.2
    refine z_iast hE rfl shk_45 hb ?_
    refine z_aload hE rfl rfl rfl ?_
    refine z_iload hE rfl rfl ?_
    refine z_putI hE (sl := 7) rfl shk_40 rfl rfl rfl ?_
    refine z_aload hE rfl rfl rfl ?_
    refine z_dup hE rfl rfl ?_
    refine z_getI hE (sl := 6) rfl shk_40 rfl rfl rfl ?_
    refine z_iconst hE rfl ?_
    have hb := h.1
    have h := h.2
    refine z_iadd hE rfl hb ?_
    refine z_putI hE (sl := 6) rfl shk_40 rfl rfl rfl ?_
    refine z_aload hE rfl rfl rfl ?_
    refine z_getI hE (sl := 6) rfl shk_40 rfl rfl rfl ?_
    exact z_iret hE rfl rfl h
  · have h := h.2 q
    refine z_iconst hE rfl ?_
    exact z_iret hE rfl rfl h
/-! 104: ChildTrains$Register.placeOf(II)I -/
def H_104_6 (d : Nat) (P : Int → Mm → Prop) (a1 : Int) (a2 : Int) (a3 : Int) (a4 : Int) (M : Mm) : Prop := GoG false (EE d) cd_104 (rI P) 6 [vR 40, vI a1, vI a2, vI a3, vI a4] [] M
theorem mN_104 : mN 104 = 5 := by decide +kernel
theorem ee_104 {d : Nat} {Q : Ql} {a1 : Int} {a2 : Int} {M : Mm} (h : GoG false (EE d) cd_104 Q 0 [vR 40, vI a1, vI a2, vU, vU] [] M) : EE (d + 1) 104 [vR 40, vI a1, vI a2] M Q := by
  have e : cdTab 104 = cd_104 := rfl
  unfold EE; rw [mN_104, e]; exact ⟨Nat.le_of_ble_eq_true rfl, h⟩
theorem sg_104 {d : Nat} {P : Int → Mm → Prop} {a1 : Int} {a2 : Int} {M : Mm} (h : H_104_6 d P a1 a2 (-9) 0 M) : EE (d + 1) 104 [vR 40, vI a1, vI a2] M (rI P) := by
  have hE := EE_mono d
  refine ee_104 ?_
  refine z_iconst hE rfl ?_
  refine z_istore hE rfl rfl rfl ?_
  refine z_iconst hE rfl ?_
  refine z_istore hE rfl rfl rfl ?_
  exact h
theorem sg_104_6 {d : Nat} {P : Int → Mm → Prop} {a1 : Int} {a2 : Int} {a3 : Int} {a4 : Int} {M : Mm} (h : (((M 40 6) ≤ a4 → P a3 M) ∧ (a4 < (M 40 6) → (0 ≤ a4 ∧ a4 < 80) ∧ ((a2 < (M 44 a4) → P a3 M) ∧ ((M 44 a4) ≤ a2 → (0 ≤ a4 ∧ a4 < 80) ∧ ((¬ (M 41 a4) = a1 → inI (a4 + 1) ∧ H_104_6 d P a1 a2 a3 (a4 + 1) M) ∧ ((M 41 a4) = a1 → (0 ≤ a4 ∧ a4 < 80) ∧ inI (a4 + 1) ∧ H_104_6 d P a1 a2 (M 43 a4) (a4 + 1) M))))))) : H_104_6 d P a1 a2 a3 a4 M := by
  have hE := EE_mono d
  unfold H_104_6
  refine z_iload hE rfl rfl ?_
  refine z_aload hE rfl rfl rfl ?_
  refine z_getI hE (sl := 6) rfl shk_40 rfl rfl rfl ?_
  refine z_icmp_ge hE rfl ⟨fun q => ?_, fun q => ?_⟩
  · have h := h.1 q
    refine z_iload hE rfl rfl ?_
    exact z_iret hE rfl rfl h
  · have h := h.2 q
    refine z_aload hE rfl rfl rfl ?_
    refine z_getR hE (q := 44) rfl shk_40 rfl rfl rfl ?_
    refine z_iload hE rfl rfl ?_
    have hb := h.1
    have h := h.2
    refine z_iald hE rfl shk_44 hb ?_
    refine z_iload hE rfl rfl ?_
    refine z_icmp_gt hE rfl ⟨fun q => ?_, fun q => ?_⟩
    · have h := h.1 q
      refine z_iload hE rfl rfl ?_
      exact z_iret hE rfl rfl h
    · have h := h.2 q
      refine z_aload hE rfl rfl rfl ?_
      refine z_getR hE (q := 41) rfl shk_40 rfl rfl rfl ?_
      refine z_iload hE rfl rfl ?_
      have hb := h.1
      have h := h.2
      refine z_iald hE rfl shk_41 hb ?_
      refine z_iload hE rfl rfl ?_
      refine z_icmp_ne hE rfl ⟨fun q => ?_, fun q => ?_⟩
      · have h := h.1 q
        have hb := h.1
        have h := h.2
        refine z_iinc hE rfl rfl rfl hb ?_
        refine z_goto hE rfl ?_
        exact h
      · have h := h.2 q
        refine z_aload hE rfl rfl rfl ?_
        refine z_getR hE (q := 43) rfl shk_40 rfl rfl rfl ?_
        refine z_iload hE rfl rfl ?_
        have hb := h.1
        have h := h.2
        refine z_iald hE rfl shk_43 hb ?_
        refine z_istore hE rfl rfl rfl ?_
        have hb := h.1
        have h := h.2
        refine z_iinc hE rfl rfl rfl hb ?_
        refine z_goto hE rfl ?_
        exact h
/-! 105: ChildTrains$Register.smallInside(LChildTrains$Children;II)I -/
def H_105_6 (d : Nat) (P : Int → Mm → Prop) (a2 : Int) (a3 : Int) (a4 : Int) (a5 : Int) (M : Mm) : Prop := GoG false (EE d) cd_105 (rI P) 6 [vR 40, vR 1, vI a2, vI a3, vI a4, vI a5] [] M
def H_105_60 (d : Nat) (P : Int → Mm → Prop) (a2 : Int) (a3 : Int) (a5 : Int) (s0 : Int) (s1 : Int) (M : Mm) : Prop := GoG false (EE d) cd_105 (rI P) 60 [vR 40, vR 1, vI a2, vI a3, vU, vI a5] [vI s0, vI s1] M
theorem mN_105 : mN 105 = 6 := by decide +kernel
theorem ee_105 {d : Nat} {Q : Ql} {a2 : Int} {a3 : Int} {M : Mm} (h : GoG false (EE d) cd_105 Q 0 [vR 40, vR 1, vI a2, vI a3, vU, vU] [] M) : EE (d + 1) 105 [vR 40, vR 1, vI a2, vI a3] M Q := by
  have e : cdTab 105 = cd_105 := rfl
  unfold EE; rw [mN_105, e]; exact ⟨Nat.le_of_ble_eq_true rfl, h⟩
theorem sg_105 {d : Nat} {P : Int → Mm → Prop} {a2 : Int} {a3 : Int} {M : Mm} (h : H_105_6 d P a2 a3 0 0 M) : EE (d + 1) 105 [vR 40, vR 1, vI a2, vI a3] M (rI P) := by
  have hE := EE_mono d
  refine ee_105 ?_
  refine z_iconst hE rfl ?_
  refine z_istore hE rfl rfl rfl ?_
  refine z_iconst hE rfl ?_
  refine z_istore hE rfl rfl rfl ?_
  exact h
theorem sg_105_6 {d : Nat} {P : Int → Mm → Prop} {a2 : Int} {a3 : Int} {a4 : Int} {a5 : Int} {M : Mm} (h : (((M 40 6) ≤ a5 → P a4 M) ∧ (a5 < (M 40 6) → (0 ≤ a5 ∧ a5 < 80) ∧ ((a3 < (M 44 a5) → P a4 M) ∧ ((M 44 a5) ≤ a3 → (0 ≤ a5 ∧ a5 < 80) ∧ (0 ≤ (M 41 a5) ∧ (M 41 a5) < 48) ∧ ((5 ≤ (M 3 (M 41 a5)) → inI (a5 + 1) ∧ H_105_6 d P a2 a3 a4 (a5 + 1) M) ∧ ((M 3 (M 41 a5)) < 5 → (0 ≤ a5 ∧ a5 < 80) ∧ ((¬ (M 43 a5) = a2 → H_105_60 d P a2 a3 a5 0 a4 M) ∧ ((M 43 a5) = a2 → H_105_60 d P a2 a3 a5 1 a4 M))))))))) : H_105_6 d P a2 a3 a4 a5 M := by
  have hE := EE_mono d
  unfold H_105_6
  refine z_iload hE rfl rfl ?_
  refine z_aload hE rfl rfl rfl ?_
  refine z_getI hE (sl := 6) rfl shk_40 rfl rfl rfl ?_
  refine z_icmp_ge hE rfl ⟨fun q => ?_, fun q => ?_⟩
  · have h := h.1 q
    refine z_iload hE rfl rfl ?_
    exact z_iret hE rfl rfl h
  · have h := h.2 q
    refine z_aload hE rfl rfl rfl ?_
    refine z_getR hE (q := 44) rfl shk_40 rfl rfl rfl ?_
    refine z_iload hE rfl rfl ?_
    have hb := h.1
    have h := h.2
    refine z_iald hE rfl shk_44 hb ?_
    refine z_iload hE rfl rfl ?_
    refine z_icmp_gt hE rfl ⟨fun q => ?_, fun q => ?_⟩
    · have h := h.1 q
      refine z_iload hE rfl rfl ?_
      exact z_iret hE rfl rfl h
    · have h := h.2 q
      refine z_aload hE rfl rfl rfl ?_
      refine z_getR hE (q := 3) rfl shk_1 rfl rfl rfl ?_
      refine z_aload hE rfl rfl rfl ?_
      refine z_getR hE (q := 41) rfl shk_40 rfl rfl rfl ?_
      refine z_iload hE rfl rfl ?_
      have hb := h.1
      have h := h.2
      refine z_iald hE rfl shk_41 hb ?_
      have hb := h.1
      have h := h.2
      refine z_iald hE rfl shk_3 hb ?_
      refine z_iconst hE rfl ?_
      refine z_icmp_ge hE rfl ⟨fun q => ?_, fun q => ?_⟩
      · have h := h.1 q
        have hb := h.1
        have h := h.2
        refine z_iinc hE rfl rfl rfl hb ?_
        refine z_goto hE rfl ?_
        exact h
      · have h := h.2 q
        refine z_iload hE rfl rfl ?_
        refine z_aload hE rfl rfl rfl ?_
        refine z_getR hE (q := 43) rfl shk_40 rfl rfl rfl ?_
        refine z_iload hE rfl rfl ?_
        have hb := h.1
        have h := h.2
        refine z_iald hE rfl shk_43 hb ?_
        refine z_iload hE rfl rfl ?_
        refine z_icmp_ne hE rfl ⟨fun q => ?_, fun q => ?_⟩
        · have h := h.1 q
          refine z_iconst hE rfl ?_
          exact GoG.weak hE (ls := [vR 40, vR 1, vI a2, vI a3, vU, vI a5]) ⟨Or.inl rfl, Or.inl rfl, Or.inl rfl, Or.inl rfl, Or.inr ⟨rfl, _, rfl⟩, Or.inl rfl, trivial⟩ h
        · have h := h.2 q
          refine z_iconst hE rfl ?_
          refine z_goto hE rfl ?_
          exact GoG.weak hE (ls := [vR 40, vR 1, vI a2, vI a3, vU, vI a5]) ⟨Or.inl rfl, Or.inl rfl, Or.inl rfl, Or.inl rfl, Or.inr ⟨rfl, _, rfl⟩, Or.inl rfl, trivial⟩ h
theorem sg_105_60 {d : Nat} {P : Int → Mm → Prop} {a2 : Int} {a3 : Int} {a5 : Int} {s0 : Int} {s1 : Int} {M : Mm} (h : (0 ≤ a5 ∧ a5 < 80) ∧ ((¬ (M 42 a5) = a2 → inI (s0 - 0) ∧ inI (s1 + (s0 - 0)) ∧ inI (a5 + 1) ∧ H_105_6 d P a2 a3 (s1 + (s0 - 0)) (a5 + 1) M) ∧ ((M 42 a5) = a2 → inI (s0 - 1) ∧ inI (s1 + (s0 - 1)) ∧ inI (a5 + 1) ∧ H_105_6 d P a2 a3 (s1 + (s0 - 1)) (a5 + 1) M))) : H_105_60 d P a2 a3 a5 s0 s1 M := by
  have hE := EE_mono d
  unfold H_105_60
  refine z_aload hE rfl rfl rfl ?_
  refine z_getR hE (q := 42) rfl shk_40 rfl rfl rfl ?_
  refine z_iload hE rfl rfl ?_
  have hb := h.1
  have h := h.2
  refine z_iald hE rfl shk_42 hb ?_
  refine z_iload hE rfl rfl ?_
  refine z_icmp_ne hE rfl ⟨fun q => ?_, fun q => ?_⟩
  · have h := h.1 q
    refine z_iconst hE rfl ?_
    have hb := h.1
    have h := h.2
    refine z_isub hE rfl hb ?_
    have hb := h.1
    have h := h.2
    refine z_iadd hE rfl hb ?_
    refine z_istore hE rfl rfl rfl ?_
    have hb := h.1
    have h := h.2
    refine z_iinc hE rfl rfl rfl hb ?_
    refine z_goto hE rfl ?_
    exact h
  · have h := h.2 q
    refine z_iconst hE rfl ?_
    refine z_goto hE rfl ?_
    have hb := h.1
    have h := h.2
    refine z_isub hE rfl hb ?_
    have hb := h.1
    have h := h.2
    refine z_iadd hE rfl hb ?_
    refine z_istore hE rfl rfl rfl ?_
    have hb := h.1
    have h := h.2
    refine z_iinc hE rfl rfl rfl hb ?_
    refine z_goto hE rfl ?_
    exact h
/-! 106: ChildTrains$Register.isTroubled(I)Z -/
def H_106_4 (d : Nat) (P : Int → Mm → Prop) (a1 : Int) (a2 : Int) (a3 : Int) (M : Mm) : Prop := GoG false (EE d) cd_106 (rI P) 4 [vR 40, vI a1, vI a2, vI a3] [] M
theorem mN_106 : mN 106 = 4 := by decide +kernel
theorem ee_106 {d : Nat} {Q : Ql} {a1 : Int} {M : Mm} (h : GoG false (EE d) cd_106 Q 0 [vR 40, vI a1, vU, vU] [] M) : EE (d + 1) 106 [vR 40, vI a1] M Q := by
  have e : cdTab 106 = cd_106 := rfl
  unfold EE; rw [mN_106, e]; exact ⟨Nat.le_of_ble_eq_true rfl, h⟩
theorem sg_106 {d : Nat} {P : Int → Mm → Prop} {a1 : Int} {M : Mm} (h : H_106_4 d P a1 0 0 M) : EE (d + 1) 106 [vR 40, vI a1] M (rI P) := by
  have hE := EE_mono d
  refine ee_106 ?_
  refine z_iconst hE rfl ?_
  refine z_istore hE rfl rfl rfl ?_
  refine z_iconst hE rfl ?_
  refine z_istore hE rfl rfl rfl ?_
  exact h
theorem sg_106_4 {d : Nat} {P : Int → Mm → Prop} {a1 : Int} {a2 : Int} {a3 : Int} {M : Mm} (h : (((M 40 6) ≤ a3 → P 0 M) ∧ (a3 < (M 40 6) → (0 ≤ a3 ∧ a3 < 80) ∧ ((¬ (M 42 a3) = a1 → inI (a3 + 1) ∧ H_106_4 d P a1 a2 (a3 + 1) M) ∧ ((M 42 a3) = a1 → (0 ≤ a3 ∧ a3 < 80) ∧ (0 ≤ a2 ∧ a2 < 80) ∧ inI (a2 + 1) ∧ (((a2 + 1) < 4 → inI (a3 + 1) ∧ H_106_4 d P a1 (a2 + 1) (a3 + 1) (mset M 46 a2 (M 44 a3))) ∧ (4 ≤ (a2 + 1) → (0 ≤ a3 ∧ a3 < 80) ∧ inI ((a2 + 1) - 4) ∧ (0 ≤ ((a2 + 1) - 4) ∧ ((a2 + 1) - 4) < 80) ∧ inI ((M 44 a3) - (mset M 46 a2 (M 44 a3)) 46 ((a2 + 1) - 4)) ∧ ((27 < ((M 44 a3) - (mset M 46 a2 (M 44 a3)) 46 ((a2 + 1) - 4)) → inI (a3 + 1) ∧ H_106_4 d P a1 (a2 + 1) (a3 + 1) (mset M 46 a2 (M 44 a3))) ∧ (((M 44 a3) - (mset M 46 a2 (M 44 a3)) 46 ((a2 + 1) - 4)) ≤ 27 → P 1 (mset M 46 a2 (M 44 a3))))))))))) : H_106_4 d P a1 a2 a3 M := by
  have hE := EE_mono d
  unfold H_106_4
  refine z_iload hE rfl rfl ?_
  refine z_aload hE rfl rfl rfl ?_
  refine z_getI hE (sl := 6) rfl shk_40 rfl rfl rfl ?_
  refine z_icmp_ge hE rfl ⟨fun q => ?_, fun q => ?_⟩
  · have h := h.1 q
    refine z_iconst hE rfl ?_
    exact z_zret hE rfl rfl (Or.inl rfl) h
  · have h := h.2 q
    refine z_aload hE rfl rfl rfl ?_
    refine z_getR hE (q := 42) rfl shk_40 rfl rfl rfl ?_
    refine z_iload hE rfl rfl ?_
    have hb := h.1
    have h := h.2
    refine z_iald hE rfl shk_42 hb ?_
    refine z_iload hE rfl rfl ?_
    refine z_icmp_ne hE rfl ⟨fun q => ?_, fun q => ?_⟩
    · have h := h.1 q
      have hb := h.1
      have h := h.2
      refine z_iinc hE rfl rfl rfl hb ?_
      refine z_goto hE rfl ?_
      exact h
    · have h := h.2 q
      refine z_aload hE rfl rfl rfl ?_
      refine z_getR hE (q := 46) rfl shk_40 rfl rfl rfl ?_
      refine z_iload hE rfl rfl ?_
      refine z_aload hE rfl rfl rfl ?_
      refine z_getR hE (q := 44) rfl shk_40 rfl rfl rfl ?_
      refine z_iload hE rfl rfl ?_
      have hb := h.1
      have h := h.2
      refine z_iald hE rfl shk_44 hb ?_
      have hb := h.1
      have h := h.2
      refine z_iast hE rfl shk_46 hb ?_
      have hb := h.1
      have h := h.2
      refine z_iinc hE rfl rfl rfl hb ?_
      refine z_iload hE rfl rfl ?_
      refine z_iconst hE rfl ?_
      refine z_icmp_lt hE rfl ⟨fun q => ?_, fun q => ?_⟩
      · have h := h.1 q
        have hb := h.1
        have h := h.2
        refine z_iinc hE rfl rfl rfl hb ?_
        refine z_goto hE rfl ?_
        exact h
      · have h := h.2 q
        refine z_aload hE rfl rfl rfl ?_
        refine z_getR hE (q := 44) rfl shk_40 rfl rfl rfl ?_
        refine z_iload hE rfl rfl ?_
        have hb := h.1
        have h := h.2
        refine z_iald hE rfl shk_44 hb ?_
        refine z_aload hE rfl rfl rfl ?_
        refine z_getR hE (q := 46) rfl shk_40 rfl rfl rfl ?_
        refine z_iload hE rfl rfl ?_
        refine z_iconst hE rfl ?_
        have hb := h.1
        have h := h.2
        refine z_isub hE rfl hb ?_
        have hb := h.1
        have h := h.2
        refine z_iald hE rfl shk_46 hb ?_
        have hb := h.1
        have h := h.2
        refine z_isub hE rfl hb ?_
        refine z_iconst hE rfl ?_
        refine z_icmp_gt hE rfl ⟨fun q => ?_, fun q => ?_⟩
        · have h := h.1 q
          have hb := h.1
          have h := h.2
          refine z_iinc hE rfl rfl rfl hb ?_
          refine z_goto hE rfl ?_
          exact h
        · have h := h.2 q
          refine z_iconst hE rfl ?_
          exact z_zret hE rfl rfl (Or.inr rfl) h
/-! 107: ChildTrains$Register.movesOf(I)I -/
def H_107_4 (d : Nat) (P : Int → Mm → Prop) (a1 : Int) (a2 : Int) (a3 : Int) (M : Mm) : Prop := GoG false (EE d) cd_107 (rI P) 4 [vR 40, vI a1, vI a2, vI a3] [] M
theorem mN_107 : mN 107 = 4 := by decide +kernel
theorem ee_107 {d : Nat} {Q : Ql} {a1 : Int} {M : Mm} (h : GoG false (EE d) cd_107 Q 0 [vR 40, vI a1, vU, vU] [] M) : EE (d + 1) 107 [vR 40, vI a1] M Q := by
  have e : cdTab 107 = cd_107 := rfl
  unfold EE; rw [mN_107, e]; exact ⟨Nat.le_of_ble_eq_true rfl, h⟩
theorem sg_107 {d : Nat} {P : Int → Mm → Prop} {a1 : Int} {M : Mm} (h : H_107_4 d P a1 0 0 M) : EE (d + 1) 107 [vR 40, vI a1] M (rI P) := by
  have hE := EE_mono d
  refine ee_107 ?_
  refine z_iconst hE rfl ?_
  refine z_istore hE rfl rfl rfl ?_
  refine z_iconst hE rfl ?_
  refine z_istore hE rfl rfl rfl ?_
  exact h
theorem sg_107_4 {d : Nat} {P : Int → Mm → Prop} {a1 : Int} {a2 : Int} {a3 : Int} {M : Mm} (h : (((M 40 6) ≤ a3 → P a2 M) ∧ (a3 < (M 40 6) → (0 ≤ a3 ∧ a3 < 80) ∧ ((¬ (M 41 a3) = a1 → inI (a3 + 1) ∧ H_107_4 d P a1 a2 (a3 + 1) M) ∧ ((M 41 a3) = a1 → (0 ≤ a3 ∧ a3 < 80) ∧ (((M 42 a3) = (-9) → inI (a3 + 1) ∧ H_107_4 d P a1 a2 (a3 + 1) M) ∧ (¬ (M 42 a3) = (-9) → (0 ≤ a3 ∧ a3 < 80) ∧ (((M 43 a3) = (-9) → inI (a3 + 1) ∧ H_107_4 d P a1 a2 (a3 + 1) M) ∧ (¬ (M 43 a3) = (-9) → inI (a2 + 1) ∧ inI (a3 + 1) ∧ H_107_4 d P a1 (a2 + 1) (a3 + 1) M))))))))) : H_107_4 d P a1 a2 a3 M := by
  have hE := EE_mono d
  unfold H_107_4
  refine z_iload hE rfl rfl ?_
  refine z_aload hE rfl rfl rfl ?_
  refine z_getI hE (sl := 6) rfl shk_40 rfl rfl rfl ?_
  refine z_icmp_ge hE rfl ⟨fun q => ?_, fun q => ?_⟩
  · have h := h.1 q
    refine z_iload hE rfl rfl ?_
    exact z_iret hE rfl rfl h
  · have h := h.2 q
    refine z_aload hE rfl rfl rfl ?_
    refine z_getR hE (q := 41) rfl shk_40 rfl rfl rfl ?_
    refine z_iload hE rfl rfl ?_
    have hb := h.1
    have h := h.2
    refine z_iald hE rfl shk_41 hb ?_
    refine z_iload hE rfl rfl ?_
    refine z_icmp_ne hE rfl ⟨fun q => ?_, fun q => ?_⟩
    · have h := h.1 q
      have hb := h.1
      have h := h.2
      refine z_iinc hE rfl rfl rfl hb ?_
      refine z_goto hE rfl ?_
      exact h
    · have h := h.2 q
      refine z_aload hE rfl rfl rfl ?_
      refine z_getR hE (q := 42) rfl shk_40 rfl rfl rfl ?_
      refine z_iload hE rfl rfl ?_
      have hb := h.1
      have h := h.2
      refine z_iald hE rfl shk_42 hb ?_
      refine z_iconst hE rfl ?_
      refine z_icmp_eq hE rfl ⟨fun q => ?_, fun q => ?_⟩
      · have h := h.1 q
        have hb := h.1
        have h := h.2
        refine z_iinc hE rfl rfl rfl hb ?_
        refine z_goto hE rfl ?_
        exact h
      · have h := h.2 q
        refine z_aload hE rfl rfl rfl ?_
        refine z_getR hE (q := 43) rfl shk_40 rfl rfl rfl ?_
        refine z_iload hE rfl rfl ?_
        have hb := h.1
        have h := h.2
        refine z_iald hE rfl shk_43 hb ?_
        refine z_iconst hE rfl ?_
        refine z_icmp_eq hE rfl ⟨fun q => ?_, fun q => ?_⟩
        · have h := h.1 q
          have hb := h.1
          have h := h.2
          refine z_iinc hE rfl rfl rfl hb ?_
          refine z_goto hE rfl ?_
          exact h
        · have h := h.2 q
          have hb := h.1
          have h := h.2
          refine z_iinc hE rfl rfl rfl hb ?_
          have hb := h.1
          have h := h.2
          refine z_iinc hE rfl rfl rfl hb ?_
          refine z_goto hE rfl ?_
          exact h
