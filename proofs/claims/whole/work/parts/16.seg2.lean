/-! SEGMENTS, printed by gen16.py -/
/-! 108: ChildTrainsModel.child(IIII)I -/
theorem mN_108 : mN 108 = 5 := by decide +kernel
theorem ee_108 {d : Nat} {Q : Ql} {a1 : Int} {a2 : Int} {a3 : Int} {a4 : Int} {M : Mm} (h : GoG false (EE d) cd_108 Q 0 [vR 76, vI a1, vI a2, vI a3, vI a4] [] M) : EE (d + 1) 108 [vR 76, vI a1, vI a2, vI a3, vI a4] M Q := by
  have e : cdTab 108 = cd_108 := rfl
  unfold EE; rw [mN_108, e]; exact ⟨Nat.le_of_ble_eq_true rfl, h⟩
theorem sg_108 {d : Nat} {P : Int → Mm → Prop} {a1 : Int} {a2 : Int} {a3 : Int} {a4 : Int} {M : Mm} (h : EE d 140 [vI a1, vI 0, vI 1] (mset M 76 0 0) (rI fun r1 M1 => ((r1 = 0 → P (-1) M1) ∧ (¬ r1 = 0 → EE d 140 [vI a2, vI 1, vI 15] M1 (rI fun r2 M2 => ((r2 = 0 → P (-1) M2) ∧ (¬ r2 = 0 → EE d 140 [vI a3, vI 0, vI 20] M2 (rI fun r3 M3 => ((r3 = 0 → P (-1) M3) ∧ (¬ r3 = 0 → EE d 140 [vI a4, vI 0, vI 7] M3 (rI fun r4 M4 => ((¬ r4 = 0 → ((¬ (M4 76 2) = 48 → (0 ≤ (M4 76 2) ∧ (M4 76 2) < 48) ∧ (0 ≤ (M4 76 2) ∧ (M4 76 2) < 48) ∧ (0 ≤ (M4 76 2) ∧ (M4 76 2) < 48) ∧ (0 ≤ (M4 76 2) ∧ (M4 76 2) < 48) ∧ inI ((M4 76 2) + 1) ∧ inI (((M4 76 2) + 1) - 1) ∧ P (((M4 76 2) + 1) - 1) (mset (mset (mset (mset (mset M4 77 (M4 76 2) a1) 78 (M4 76 2) a2) 79 (M4 76 2) a3) 80 (M4 76 2) a4) 76 2 ((M4 76 2) + 1))) ∧ ((M4 76 2) = 48 → P (-3) M4))) ∧ (r4 = 0 → P (-1) M4))))))))))))) : EE (d + 1) 108 [vR 76, vI a1, vI a2, vI a3, vI a4] M (rI P) := by
  have hE := EE_mono d
  refine ee_108 ?_
  refine z_aload hE rfl rfl rfl ?_
  refine z_iconst hE rfl ?_
  refine z_putI hE (sl := 0) rfl shk_76 rfl rfl rfl ?_
  refine z_iload hE rfl rfl ?_
  refine z_iconst hE rfl ?_
  refine z_iconst hE rfl ?_
  refine z_callsI hE rfl rfl rfl rfl rfl (Nat.le_of_ble_eq_true rfl) (by decide) (EE_mono d _ _ _ _ _ (rI_mono fun r1 M1 h => ?_) h)
  refine z_if_eq hE rfl ⟨fun q => ?_, fun q => ?_⟩
  · have h := h.1 q
    refine z_iconst hE rfl ?_
    exact z_iret hE rfl rfl h
  · have h := h.2 q
    refine z_iload hE rfl rfl ?_
    refine z_iconst hE rfl ?_
    refine z_iconst hE rfl ?_
    refine z_callsI hE rfl rfl rfl rfl rfl (Nat.le_of_ble_eq_true rfl) (by decide) (EE_mono d _ _ _ _ _ (rI_mono fun r2 M2 h => ?_) h)
    refine z_if_eq hE rfl ⟨fun q => ?_, fun q => ?_⟩
    · have h := h.1 q
      refine z_iconst hE rfl ?_
      exact z_iret hE rfl rfl h
    · have h := h.2 q
      refine z_iload hE rfl rfl ?_
      refine z_iconst hE rfl ?_
      refine z_iconst hE rfl ?_
      refine z_callsI hE rfl rfl rfl rfl rfl (Nat.le_of_ble_eq_true rfl) (by decide) (EE_mono d _ _ _ _ _ (rI_mono fun r3 M3 h => ?_) h)
      refine z_if_eq hE rfl ⟨fun q => ?_, fun q => ?_⟩
      · have h := h.1 q
        refine z_iconst hE rfl ?_
        exact z_iret hE rfl rfl h
      · have h := h.2 q
        refine z_iload hE rfl rfl ?_
        refine z_iconst hE rfl ?_
        refine z_iconst hE rfl ?_
        refine z_callsI hE rfl rfl rfl rfl rfl (Nat.le_of_ble_eq_true rfl) (by decide) (EE_mono d _ _ _ _ _ (rI_mono fun r4 M4 h => ?_) h)
        refine z_if_ne hE rfl ⟨fun q => ?_, fun q => ?_⟩
        · have h := h.1 q
          refine z_aload hE rfl rfl rfl ?_
          refine z_getI hE (sl := 2) rfl shk_76 rfl rfl rfl ?_
          refine z_iconst hE rfl ?_
          refine z_icmp_ne hE rfl ⟨fun q => ?_, fun q => ?_⟩
          · have h := h.1 q
            refine z_aload hE rfl rfl rfl ?_
            refine z_getR hE (q := 77) rfl shk_76 rfl rfl rfl ?_
            refine z_aload hE rfl rfl rfl ?_
            refine z_getI hE (sl := 2) rfl shk_76 rfl rfl rfl ?_
            refine z_iload hE rfl rfl ?_
            have hb := h.1
            have h := h.2
            refine z_iast hE rfl shk_77 hb ?_
            refine z_aload hE rfl rfl rfl ?_
            refine z_getR hE (q := 78) rfl shk_76 rfl rfl rfl ?_
            refine z_aload hE rfl rfl rfl ?_
            refine z_getI hE (sl := 2) rfl shk_76 rfl rfl rfl ?_
            refine z_iload hE rfl rfl ?_
            have hb := h.1
            have h := h.2
            refine z_iast hE rfl shk_78 hb ?_
            refine z_aload hE rfl rfl rfl ?_
            refine z_getR hE (q := 79) rfl shk_76 rfl rfl rfl ?_
            refine z_aload hE rfl rfl rfl ?_
            refine z_getI hE (sl := 2) rfl shk_76 rfl rfl rfl ?_
            refine z_iload hE rfl rfl ?_
            have hb := h.1
            have h := h.2
            refine z_iast hE rfl shk_79 hb ?_
            refine z_aload hE rfl rfl rfl ?_
            refine z_getR hE (q := 80) rfl shk_76 rfl rfl rfl ?_
            refine z_aload hE rfl rfl rfl ?_
            refine z_getI hE (sl := 2) rfl shk_76 rfl rfl rfl ?_
            refine z_iload hE rfl rfl ?_
            have hb := h.1
            have h := h.2
            refine z_iast hE rfl shk_80 hb ?_
            refine z_aload hE rfl rfl rfl ?_
            refine z_dup hE rfl rfl ?_
            refine z_getI hE (sl := 2) rfl shk_76 rfl rfl rfl ?_
            refine z_iconst hE rfl ?_
            have hb := h.1
            have h := h.2
            refine z_iadd hE rfl hb ?_
            refine z_putI hE (sl := 2) rfl shk_76 rfl rfl rfl ?_
            refine z_aload hE rfl rfl rfl ?_
            refine z_getI hE (sl := 2) rfl shk_76 rfl rfl rfl ?_
            refine z_iconst hE rfl ?_
            have hb := h.1
            have h := h.2
            refine z_isub hE rfl hb ?_
            exact z_iret hE rfl rfl h
          · have h := h.2 q
            refine z_iconst hE rfl ?_
            exact z_iret hE rfl rfl h
        · have h := h.2 q
          refine z_iconst hE rfl ?_
          exact z_iret hE rfl rfl h
/-! 109: ChildTrainsModel.type(JI)I -/
def H_109_37 (d : Nat) (P : Int → Mm → Prop) (a1 : Int) (a4 : Int) (M : Mm) : Prop := GoG false (EE d) cd_109 (rI P) 37 [vR 76, vL a1, vU, vU, vI a4] [] M
theorem mN_109 : mN 109 = 5 := by decide +kernel
theorem ee_109 {d : Nat} {Q : Ql} {a1 : Int} {a3 : Int} {M : Mm} (h : GoG false (EE d) cd_109 Q 0 [vR 76, vL a1, vU, vI a3, vU] [] M) : EE (d + 1) 109 [vR 76, vL a1, vI a3] M Q := by
  have e : cdTab 109 = cd_109 := rfl
  unfold EE; rw [mN_109, e]; exact ⟨Nat.le_of_ble_eq_true rfl, h⟩
theorem sg_109 {d : Nat} {P : Int → Mm → Prop} {a1 : Int} {a3 : Int} {M : Mm} (h : EE d 140 [vI a3, vI 1, vI 8] (mset M 76 0 0) (rI fun r1 M1 => ((¬ r1 = 0 → inI ((M1 76 20) + a3) ∧ ((((M1 76 20) + a3) ≤ 600 → inI (a3 - 1) ∧ H_109_37 d P a1 (a3 - 1) M1) ∧ (600 < ((M1 76 20) + a3) → P (-3) M1))) ∧ (r1 = 0 → P (-1) M1)))) : EE (d + 1) 109 [vR 76, vL a1, vI a3] M (rI P) := by
  have hE := EE_mono d
  refine ee_109 ?_
  refine z_aload hE rfl rfl rfl ?_
  refine z_iconst hE rfl ?_
  refine z_putI hE (sl := 0) rfl shk_76 rfl rfl rfl ?_
  refine z_iload hE rfl rfl ?_
  refine z_iconst hE rfl ?_
  refine z_iconst hE rfl ?_
  refine z_callsI hE rfl rfl rfl rfl rfl (Nat.le_of_ble_eq_true rfl) (by decide) (EE_mono d _ _ _ _ _ (rI_mono fun r1 M1 h => ?_) h)
  refine z_if_ne hE rfl ⟨fun q => ?_, fun q => ?_⟩
  · have h := h.1 q
    refine z_aload hE rfl rfl rfl ?_
    refine z_getI hE (sl := 20) rfl shk_76 rfl rfl rfl ?_
    refine z_iload hE rfl rfl ?_
    have hb := h.1
    have h := h.2
    refine z_iadd hE rfl hb ?_
    refine z_iconst hE rfl ?_
    refine z_icmp_le hE rfl ⟨fun q => ?_, fun q => ?_⟩
    · have h := h.1 q
      refine z_iload hE rfl rfl ?_
      refine z_iconst hE rfl ?_
      have hb := h.1
      have h := h.2
      refine z_isub hE rfl hb ?_
      refine z_istore hE rfl rfl rfl ?_
      exact GoG.weak hE (ls := [vR 76, vL a1, vU, vU, vI (a3 - 1)]) ⟨Or.inl rfl, Or.inl rfl, Or.inl rfl, Or.inr ⟨rfl, _, rfl⟩, Or.inl rfl, trivial⟩ h
    · have h := h.2 q
      refine z_iconst hE rfl ?_
      exact z_iret hE rfl rfl h
  · have h := h.2 q
    refine z_iconst hE rfl ?_
    exact z_iret hE rfl rfl h
theorem sg_109_37 {d : Nat} {P : Int → Mm → Prop} {a1 : Int} {a4 : Int} {M : Mm} (h : ((a4 < 0 → P (M 76 20) M) ∧ (0 ≤ a4 → inI (8 * a4) ∧ (0 ≤ (M 76 20) ∧ (M 76 20) < 600) ∧ inI ((M 76 20) + 1) ∧ inI (a4 + -1) ∧ H_109_37 d P a1 (a4 + -1) (mset (mset M 91 (M 76 20) (wr (jand (jshr a1 (8 * a4)) 255))) 76 20 ((M 76 20) + 1))))) : H_109_37 d P a1 a4 M := by
  have hE := EE_mono d
  unfold H_109_37
  refine z_iload hE rfl rfl ?_
  refine z_if_lt hE rfl ⟨fun q => ?_, fun q => ?_⟩
  · have h := h.1 q
    refine z_aload hE rfl rfl rfl ?_
    refine z_getI hE (sl := 20) rfl shk_76 rfl rfl rfl ?_
    exact z_iret hE rfl rfl h
  · have h := h.2 q
    refine z_aload hE rfl rfl rfl ?_
    refine z_getR hE (q := 91) rfl shk_76 rfl rfl rfl ?_
    refine z_aload hE rfl rfl rfl ?_
    refine z_getI hE (sl := 20) rfl shk_76 rfl rfl rfl ?_
    refine z_lload hE rfl rfl ?_
    refine z_iconst hE rfl ?_
    refine z_iload hE rfl rfl ?_
    have hb := h.1
    have h := h.2
    refine z_imul hE rfl hb ?_
    refine z_lshr hE rfl ?_
    refine z_lconst hE rfl ?_
    refine z_land hE rfl ?_
    refine z_l2i hE rfl ?_
    have hb := h.1
    have h := h.2
    refine z_iast hE rfl shk_91 hb ?_
    refine z_aload hE rfl rfl rfl ?_
    refine z_dup hE rfl rfl ?_
    refine z_getI hE (sl := 20) rfl shk_76 rfl rfl rfl ?_
    refine z_iconst hE rfl ?_
    have hb := h.1
    have h := h.2
    refine z_iadd hE rfl hb ?_
    refine z_putI hE (sl := 20) rfl shk_76 rfl rfl rfl ?_
    have hb := h.1
    have h := h.2
    refine z_iinc hE rfl rfl rfl hb ?_
    refine z_goto hE rfl ?_
    exact h
/-! 110: ChildTrainsModel.clear()I -/
theorem mN_110 : mN 110 = 2 := by decide +kernel
theorem ee_110 {d : Nat} {Q : Ql} {M : Mm} (h : GoG false (EE d) cd_110 Q 0 [vR 76, vU] [] M) : EE (d + 1) 110 [vR 76] M Q := by
  have e : cdTab 110 = cd_110 := rfl
  unfold EE; rw [mN_110, e]; exact ⟨Nat.le_of_ble_eq_true rfl, h⟩
theorem sg_110 {d : Nat} {P : Int → Mm → Prop} {M : Mm} (h : P ((mset M 76 0 0) 76 20) (mset (mset M 76 0 0) 76 20 0)) : EE (d + 1) 110 [vR 76] M (rI P) := by
  have hE := EE_mono d
  refine ee_110 ?_
  refine z_aload hE rfl rfl rfl ?_
  refine z_iconst hE rfl ?_
  refine z_putI hE (sl := 0) rfl shk_76 rfl rfl rfl ?_
  refine z_aload hE rfl rfl rfl ?_
  refine z_getI hE (sl := 20) rfl shk_76 rfl rfl rfl ?_
  refine z_istore hE rfl rfl rfl ?_
  refine z_aload hE rfl rfl rfl ?_
  refine z_iconst hE rfl ?_
  refine z_putI hE (sl := 20) rfl shk_76 rfl rfl rfl ?_
  refine z_iload hE rfl rfl ?_
  exact z_iret hE rfl rfl h
/-! 111: ChildTrainsModel.name(I)I -/
def H_111_28 (d : Nat) (P : Int → Mm → Prop) (a1 : Int) (a2 : Int) (a3 : Int) (M : Mm) : Prop := GoG false (EE d) cd_111 (rI P) 28 [vR 76, vI a1, vI a2, vI a3] [] M
def H_111_60 (d : Nat) (P : Int → Mm → Prop) (a1 : Int) (a2 : Int) (M : Mm) : Prop := GoG false (EE d) cd_111 (rI P) 60 [vR 76, vI a1, vI a2, vU] [] M
def H_111_79 (d : Nat) (P : Int → Mm → Prop) (a1 : Int) (a3 : Int) (M : Mm) : Prop := GoG false (EE d) cd_111 (rI P) 79 [vR 76, vI a1, vU, vI a3] [] M
theorem mN_111 : mN 111 = 4 := by decide +kernel
theorem ee_111 {d : Nat} {Q : Ql} {a1 : Int} {M : Mm} (h : GoG false (EE d) cd_111 Q 0 [vR 76, vI a1, vU, vU] [] M) : EE (d + 1) 111 [vR 76, vI a1] M Q := by
  have e : cdTab 111 = cd_111 := rfl
  unfold EE; rw [mN_111, e]; exact ⟨Nat.le_of_ble_eq_true rfl, h⟩
theorem sg_111 {d : Nat} {P : Int → Mm → Prop} {a1 : Int} {M : Mm} (h : EE d 141 [vR 76, vI a1] (mset M 76 0 0) (rI fun r1 M1 => ((¬ r1 = 0 → EE d 140 [vI (M1 76 20), vI 1, vI 8] M1 (rI fun r2 M2 => H_111_28 d P a1 r2 0 M2)) ∧ (r1 = 0 → P (-1) M1)))) : EE (d + 1) 111 [vR 76, vI a1] M (rI P) := by
  have hE := EE_mono d
  refine ee_111 ?_
  refine z_aload hE rfl rfl rfl ?_
  refine z_iconst hE rfl ?_
  refine z_putI hE (sl := 0) rfl shk_76 rfl rfl rfl ?_
  refine z_aload hE rfl rfl rfl ?_
  refine z_iload hE rfl rfl ?_
  refine z_callvI hE rfl rfl rfl rfl rfl (Nat.le_of_ble_eq_true rfl) (by decide) ⟨rfl, rfl⟩ (EE_mono d _ _ _ _ _ (rI_mono fun r1 M1 h => ?_) h)
  refine z_if_ne hE rfl ⟨fun q => ?_, fun q => ?_⟩
  · have h := h.1 q
    refine z_aload hE rfl rfl rfl ?_
    refine z_getI hE (sl := 20) rfl shk_76 rfl rfl rfl ?_
    refine z_iconst hE rfl ?_
    refine z_iconst hE rfl ?_
    refine z_callsI hE rfl rfl rfl rfl rfl (Nat.le_of_ble_eq_true rfl) (by decide) (EE_mono d _ _ _ _ _ (rI_mono fun r2 M2 h => ?_) h)
    refine z_istore hE rfl rfl rfl ?_
    refine z_iconst hE rfl ?_
    refine z_istore hE rfl rfl rfl ?_
    exact h
  · have h := h.2 q
    refine z_iconst hE rfl ?_
    exact z_iret hE rfl rfl h
theorem sg_111_28 {d : Nat} {P : Int → Mm → Prop} {a1 : Int} {a2 : Int} {a3 : Int} {M : Mm} (h : (((M 76 20) ≤ a3 → H_111_60 d P a1 a2 M) ∧ (a3 < (M 76 20) → ((a2 = 0 → H_111_60 d P a1 a2 M) ∧ (¬ a2 = 0 → (0 ≤ a3 ∧ a3 < 600) ∧ EE d 140 [vI (M 91 a3), vI 97, vI 122] M (rI fun r1 M1 => inI (a3 + 1) ∧ H_111_28 d P a1 r1 (a3 + 1) M1)))))) : H_111_28 d P a1 a2 a3 M := by
  have hE := EE_mono d
  unfold H_111_28
  refine z_iload hE rfl rfl ?_
  refine z_aload hE rfl rfl rfl ?_
  refine z_getI hE (sl := 20) rfl shk_76 rfl rfl rfl ?_
  refine z_icmp_ge hE rfl ⟨fun q => ?_, fun q => ?_⟩
  · have h := h.1 q
    exact GoG.weak hE (ls := [vR 76, vI a1, vI a2, vU]) ⟨Or.inl rfl, Or.inl rfl, Or.inl rfl, Or.inr ⟨rfl, _, rfl⟩, trivial⟩ h
  · have h := h.2 q
    refine z_iload hE rfl rfl ?_
    refine z_if_eq hE rfl ⟨fun q => ?_, fun q => ?_⟩
    · have h := h.1 q
      exact GoG.weak hE (ls := [vR 76, vI a1, vI a2, vU]) ⟨Or.inl rfl, Or.inl rfl, Or.inl rfl, Or.inr ⟨rfl, _, rfl⟩, trivial⟩ h
    · have h := h.2 q
      refine z_aload hE rfl rfl rfl ?_
      refine z_getR hE (q := 91) rfl shk_76 rfl rfl rfl ?_
      refine z_iload hE rfl rfl ?_
      have hb := h.1
      have h := h.2
      refine z_iald hE rfl shk_91 hb ?_
      refine z_iconst hE rfl ?_
      refine z_iconst hE rfl ?_
      refine z_callsI hE rfl rfl rfl rfl rfl (Nat.le_of_ble_eq_true rfl) (by decide) (EE_mono d _ _ _ _ _ (rI_mono fun r1 M1 h => ?_) h)
      refine z_istore hE rfl rfl rfl ?_
      have hb := h.1
      have h := h.2
      refine z_iinc hE rfl rfl rfl hb ?_
      refine z_goto hE rfl ?_
      exact h
theorem sg_111_60 {d : Nat} {P : Int → Mm → Prop} {a1 : Int} {a2 : Int} {M : Mm} (h : ((¬ a2 = 0 → (0 ≤ a1 ∧ a1 < 48) ∧ H_111_79 d P a1 0 (mset M 81 a1 (M 76 20))) ∧ (a2 = 0 → P (-2) M))) : H_111_60 d P a1 a2 M := by
  have hE := EE_mono d
  unfold H_111_60
  refine z_iload hE rfl rfl ?_
  refine z_if_ne hE rfl ⟨fun q => ?_, fun q => ?_⟩
  · have h := h.1 q
    refine z_aload hE rfl rfl rfl ?_
    refine z_getR hE (q := 81) rfl shk_76 rfl rfl rfl ?_
    refine z_iload hE rfl rfl ?_
    refine z_aload hE rfl rfl rfl ?_
    refine z_getI hE (sl := 20) rfl shk_76 rfl rfl rfl ?_
    have hb := h.1
    have h := h.2
    refine z_iast hE rfl shk_81 hb ?_
    refine z_iconst hE rfl ?_
    refine z_istore hE rfl rfl rfl ?_
    exact GoG.weak hE (ls := [vR 76, vI a1, vU, vI 0]) ⟨Or.inl rfl, Or.inl rfl, Or.inr ⟨rfl, _, rfl⟩, Or.inl rfl, trivial⟩ h
  · have h := h.2 q
    refine z_iconst hE rfl ?_
    exact z_iret hE rfl rfl h
theorem sg_111_79 {d : Nat} {P : Int → Mm → Prop} {a1 : Int} {a3 : Int} {M : Mm} (h : (((M 76 20) ≤ a3 → (0 ≤ a1 ∧ a1 < 48) ∧ P (M 81 a1) (mset M 76 20 0)) ∧ (a3 < (M 76 20) → inI (8 * a1) ∧ inI ((8 * a1) + a3) ∧ (0 ≤ a3 ∧ a3 < 600) ∧ (0 ≤ ((8 * a1) + a3) ∧ ((8 * a1) + a3) < 384) ∧ inI (a3 + 1) ∧ H_111_79 d P a1 (a3 + 1) (mset M 82 ((8 * a1) + a3) (M 91 a3))))) : H_111_79 d P a1 a3 M := by
  have hE := EE_mono d
  unfold H_111_79
  refine z_iload hE rfl rfl ?_
  refine z_aload hE rfl rfl rfl ?_
  refine z_getI hE (sl := 20) rfl shk_76 rfl rfl rfl ?_
  refine z_icmp_ge hE rfl ⟨fun q => ?_, fun q => ?_⟩
  · have h := h.1 q
    refine z_aload hE rfl rfl rfl ?_
    refine z_iconst hE rfl ?_
    refine z_putI hE (sl := 20) rfl shk_76 rfl rfl rfl ?_
    refine z_aload hE rfl rfl rfl ?_
    refine z_getR hE (q := 81) rfl shk_76 rfl rfl rfl ?_
    refine z_iload hE rfl rfl ?_
    have hb := h.1
    have h := h.2
    refine z_iald hE rfl shk_81 hb ?_
    exact z_iret hE rfl rfl h
  · have h := h.2 q
    refine z_aload hE rfl rfl rfl ?_
    refine z_getR hE (q := 82) rfl shk_76 rfl rfl rfl ?_
    refine z_iconst hE rfl ?_
    refine z_iload hE rfl rfl ?_
    have hb := h.1
    have h := h.2
    refine z_imul hE rfl hb ?_
    refine z_iload hE rfl rfl ?_
    have hb := h.1
    have h := h.2
    refine z_iadd hE rfl hb ?_
    refine z_aload hE rfl rfl rfl ?_
    refine z_getR hE (q := 91) rfl shk_76 rfl rfl rfl ?_
    refine z_iload hE rfl rfl ?_
    have hb := h.1
    have h := h.2
    refine z_iald hE rfl shk_91 hb ?_
    have hb := h.1
    have h := h.2
    refine z_iast hE rfl shk_82 hb ?_
    have hb := h.1
    have h := h.2
    refine z_iinc hE rfl rfl rfl hb ?_
    refine z_goto hE rfl ?_
    exact h
/-! 112: ChildTrainsModel.party(III)I -/
def H_112_37 (d : Nat) (P : Int → Mm → Prop) (a1 : Int) (a2 : Int) (a3 : Int) (s0 : Int) (s1 : Int) (s2 : Int) (M : Mm) : Prop := GoG false (EE d) cd_112 (rI P) 37 [vR 76, vI a1, vI a2, vI a3, vU] [vI s0, vI s1, vI s2] M
theorem mN_112 : mN 112 = 5 := by decide +kernel
theorem ee_112 {d : Nat} {Q : Ql} {a1 : Int} {a2 : Int} {a3 : Int} {M : Mm} (h : GoG false (EE d) cd_112 Q 0 [vR 76, vI a1, vI a2, vI a3, vU] [] M) : EE (d + 1) 112 [vR 76, vI a1, vI a2, vI a3] M Q := by
  have e : cdTab 112 = cd_112 := rfl
  unfold EE; rw [mN_112, e]; exact ⟨Nat.le_of_ble_eq_true rfl, h⟩
theorem sg_112 {d : Nat} {P : Int → Mm → Prop} {a1 : Int} {a2 : Int} {a3 : Int} {M : Mm} (h : EE d 140 [vI a1, vI 0, vI 7] (mset M 76 0 0) (rI fun r1 M1 => ((r1 = 0 → P (-1) M1) ∧ (¬ r1 = 0 → EE d 140 [vI a2, vI 0, vI 1] M1 (rI fun r2 M2 => ((r2 = 0 → P (-1) M2) ∧ (¬ r2 = 0 → ((¬ a2 = 0 → H_112_37 d P a1 a2 a3 300 0 a3 M2) ∧ (a2 = 0 → H_112_37 d P a1 a2 a3 5 0 a3 M2))))))))) : EE (d + 1) 112 [vR 76, vI a1, vI a2, vI a3] M (rI P) := by
  have hE := EE_mono d
  refine ee_112 ?_
  refine z_aload hE rfl rfl rfl ?_
  refine z_iconst hE rfl ?_
  refine z_putI hE (sl := 0) rfl shk_76 rfl rfl rfl ?_
  refine z_iload hE rfl rfl ?_
  refine z_iconst hE rfl ?_
  refine z_iconst hE rfl ?_
  refine z_callsI hE rfl rfl rfl rfl rfl (Nat.le_of_ble_eq_true rfl) (by decide) (EE_mono d _ _ _ _ _ (rI_mono fun r1 M1 h => ?_) h)
  refine z_if_eq hE rfl ⟨fun q => ?_, fun q => ?_⟩
  · have h := h.1 q
    refine z_iconst hE rfl ?_
    exact z_iret hE rfl rfl h
  · have h := h.2 q
    refine z_iload hE rfl rfl ?_
    refine z_iconst hE rfl ?_
    refine z_iconst hE rfl ?_
    refine z_callsI hE rfl rfl rfl rfl rfl (Nat.le_of_ble_eq_true rfl) (by decide) (EE_mono d _ _ _ _ _ (rI_mono fun r2 M2 h => ?_) h)
    refine z_if_eq hE rfl ⟨fun q => ?_, fun q => ?_⟩
    · have h := h.1 q
      refine z_iconst hE rfl ?_
      exact z_iret hE rfl rfl h
    · have h := h.2 q
      refine z_iload hE rfl rfl ?_
      refine z_iconst hE rfl ?_
      refine z_iload hE rfl rfl ?_
      refine z_if_ne hE rfl ⟨fun q => ?_, fun q => ?_⟩
      · have h := h.1 q
        refine z_iconst hE rfl ?_
        exact h
      · have h := h.2 q
        refine z_iconst hE rfl ?_
        refine z_goto hE rfl ?_
        exact h
theorem sg_112_37 {d : Nat} {P : Int → Mm → Prop} {a1 : Int} {a2 : Int} {a3 : Int} {s0 : Int} {s1 : Int} {s2 : Int} {M : Mm} (h : EE d 140 [vI s2, vI s1, vI s0] M (rI fun r1 M1 => ((¬ r1 = 0 → inI (2 * a1) ∧ inI ((2 * a1) + a2) ∧ (0 ≤ ((2 * a1) + a2) ∧ ((2 * a1) + a2) < 16) ∧ inI (2 * a1) ∧ inI ((2 * a1) + a2) ∧ (0 ≤ ((2 * a1) + a2) ∧ ((2 * a1) + a2) < 16) ∧ P (M1 83 ((2 * a1) + a2)) (mset M1 83 ((2 * a1) + a2) a3)) ∧ (r1 = 0 → P (-1) M1)))) : H_112_37 d P a1 a2 a3 s0 s1 s2 M := by
  have hE := EE_mono d
  unfold H_112_37
  refine z_callsI hE rfl rfl rfl rfl rfl (Nat.le_of_ble_eq_true rfl) (by decide) (EE_mono d _ _ _ _ _ (rI_mono fun r1 M1 h => ?_) h)
  refine z_if_ne hE rfl ⟨fun q => ?_, fun q => ?_⟩
  · have h := h.1 q
    refine z_aload hE rfl rfl rfl ?_
    refine z_getR hE (q := 83) rfl shk_76 rfl rfl rfl ?_
    refine z_iconst hE rfl ?_
    refine z_iload hE rfl rfl ?_
    have hb := h.1
    have h := h.2
    refine z_imul hE rfl hb ?_
    refine z_iload hE rfl rfl ?_
    have hb := h.1
    have h := h.2
    refine z_iadd hE rfl hb ?_
    have hb := h.1
    have h := h.2
    refine z_iald hE rfl shk_83 hb ?_
    refine z_istore hE rfl rfl rfl ?_
    refine z_aload hE rfl rfl rfl ?_
    refine z_getR hE (q := 83) rfl shk_76 rfl rfl rfl ?_
    refine z_iconst hE rfl ?_
    refine z_iload hE rfl rfl ?_
    have hb := h.1
    have h := h.2
    refine z_imul hE rfl hb ?_
    refine z_iload hE rfl rfl ?_
    have hb := h.1
    have h := h.2
    refine z_iadd hE rfl hb ?_
    refine z_iload hE rfl rfl ?_
    have hb := h.1
    have h := h.2
    refine z_iast hE rfl shk_83 hb ?_
    refine z_iload hE rfl rfl ?_
    exact z_iret hE rfl rfl h
  · have h := h.2 q
    refine z_iconst hE rfl ?_
    exact z_iret hE rfl rfl h
/-! 113: ChildTrainsModel.train(III)I -/
def H_113_34 (d : Nat) (P : Int → Mm → Prop) (a1 : Int) (a2 : Int) (a3 : Int) (s0 : Int) (s1 : Int) (M : Mm) : Prop := GoG false (EE d) cd_113 (rI P) 34 [vR 76, vI a1, vI a2, vI a3, vU] [vI s0, vI s1] M
def H_113_65 (d : Nat) (P : Int → Mm → Prop) (a1 : Int) (a2 : Int) (a3 : Int) (s0 : Int) (s1 : Int) (s2 : Int) (M : Mm) : Prop := GoG false (EE d) cd_113 (rI P) 65 [vR 76, vI a1, vI a2, vI a3, vU] [vI s0, vI s1, vI s2] M
theorem mN_113 : mN 113 = 5 := by decide +kernel
theorem ee_113 {d : Nat} {Q : Ql} {a1 : Int} {a2 : Int} {a3 : Int} {M : Mm} (h : GoG false (EE d) cd_113 Q 0 [vR 76, vI a1, vI a2, vI a3, vU] [] M) : EE (d + 1) 113 [vR 76, vI a1, vI a2, vI a3] M Q := by
  have e : cdTab 113 = cd_113 := rfl
  unfold EE; rw [mN_113, e]; exact ⟨Nat.le_of_ble_eq_true rfl, h⟩
theorem sg_113 {d : Nat} {P : Int → Mm → Prop} {a1 : Int} {a2 : Int} {a3 : Int} {M : Mm} (h : EE d 140 [vI a1, vI 0, vI 5] (mset M 76 0 0) (rI fun r1 M1 => ((r1 = 0 → P (-1) M1) ∧ (¬ r1 = 0 → EE d 140 [vI a2, vI 0, vI 4] M1 (rI fun r2 M2 => ((r2 = 0 → P (-1) M2) ∧ (¬ r2 = 0 → ((¬ a2 = 3 → H_113_34 d P a1 a2 a3 0 a3 M2) ∧ (a2 = 3 → H_113_34 d P a1 a2 a3 1 a3 M2))))))))) : EE (d + 1) 113 [vR 76, vI a1, vI a2, vI a3] M (rI P) := by
  have hE := EE_mono d
  refine ee_113 ?_
  refine z_aload hE rfl rfl rfl ?_
  refine z_iconst hE rfl ?_
  refine z_putI hE (sl := 0) rfl shk_76 rfl rfl rfl ?_
  refine z_iload hE rfl rfl ?_
  refine z_iconst hE rfl ?_
  refine z_iconst hE rfl ?_
  refine z_callsI hE rfl rfl rfl rfl rfl (Nat.le_of_ble_eq_true rfl) (by decide) (EE_mono d _ _ _ _ _ (rI_mono fun r1 M1 h => ?_) h)
  refine z_if_eq hE rfl ⟨fun q => ?_, fun q => ?_⟩
  · have h := h.1 q
    refine z_iconst hE rfl ?_
    exact z_iret hE rfl rfl h
  · have h := h.2 q
    refine z_iload hE rfl rfl ?_
    refine z_iconst hE rfl ?_
    refine z_iconst hE rfl ?_
    refine z_callsI hE rfl rfl rfl rfl rfl (Nat.le_of_ble_eq_true rfl) (by decide) (EE_mono d _ _ _ _ _ (rI_mono fun r2 M2 h => ?_) h)
    refine z_if_eq hE rfl ⟨fun q => ?_, fun q => ?_⟩
    · have h := h.1 q
      refine z_iconst hE rfl ?_
      exact z_iret hE rfl rfl h
    · have h := h.2 q
      refine z_iload hE rfl rfl ?_
      refine z_iload hE rfl rfl ?_
      refine z_iconst hE rfl ?_
      refine z_icmp_ne hE rfl ⟨fun q => ?_, fun q => ?_⟩
      · have h := h.1 q
        refine z_iconst hE rfl ?_
        exact h
      · have h := h.2 q
        refine z_iconst hE rfl ?_
        refine z_goto hE rfl ?_
        exact h
theorem sg_113_34 {d : Nat} {P : Int → Mm → Prop} {a1 : Int} {a2 : Int} {a3 : Int} {s0 : Int} {s1 : Int} {M : Mm} (h : ((2 ≤ a2 → ((¬ a2 = 2 → ((¬ a2 = 3 → H_113_65 d P a1 a2 a3 5 s0 s1 M) ∧ (a2 = 3 → H_113_65 d P a1 a2 a3 4 s0 s1 M))) ∧ (a2 = 2 → H_113_65 d P a1 a2 a3 48 s0 s1 M))) ∧ (a2 < 2 → H_113_65 d P a1 a2 a3 300 s0 s1 M))) : H_113_34 d P a1 a2 a3 s0 s1 M := by
  have hE := EE_mono d
  unfold H_113_34
  refine z_iload hE rfl rfl ?_
  refine z_iconst hE rfl ?_
  refine z_icmp_ge hE rfl ⟨fun q => ?_, fun q => ?_⟩
  · have h := h.1 q
    refine z_iload hE rfl rfl ?_
    refine z_iconst hE rfl ?_
    refine z_icmp_ne hE rfl ⟨fun q => ?_, fun q => ?_⟩
    · have h := h.1 q
      refine z_iload hE rfl rfl ?_
      refine z_iconst hE rfl ?_
      refine z_icmp_ne hE rfl ⟨fun q => ?_, fun q => ?_⟩
      · have h := h.1 q
        refine z_iconst hE rfl ?_
        exact h
      · have h := h.2 q
        refine z_iconst hE rfl ?_
        refine z_goto hE rfl ?_
        exact h
    · have h := h.2 q
      refine z_iconst hE rfl ?_
      refine z_goto hE rfl ?_
      exact h
  · have h := h.2 q
    refine z_iconst hE rfl ?_
    refine z_goto hE rfl ?_
    exact h
theorem sg_113_65 {d : Nat} {P : Int → Mm → Prop} {a1 : Int} {a2 : Int} {a3 : Int} {s0 : Int} {s1 : Int} {s2 : Int} {M : Mm} (h : EE d 140 [vI s2, vI s1, vI s0] M (rI fun r1 M1 => ((¬ r1 = 0 → inI (5 * a1) ∧ inI ((5 * a1) + a2) ∧ (0 ≤ ((5 * a1) + a2) ∧ ((5 * a1) + a2) < 30) ∧ inI (5 * a1) ∧ inI ((5 * a1) + a2) ∧ (0 ≤ ((5 * a1) + a2) ∧ ((5 * a1) + a2) < 30) ∧ P (M1 84 ((5 * a1) + a2)) (mset M1 84 ((5 * a1) + a2) a3)) ∧ (r1 = 0 → P (-1) M1)))) : H_113_65 d P a1 a2 a3 s0 s1 s2 M := by
  have hE := EE_mono d
  unfold H_113_65
  refine z_callsI hE rfl rfl rfl rfl rfl (Nat.le_of_ble_eq_true rfl) (by decide) (EE_mono d _ _ _ _ _ (rI_mono fun r1 M1 h => ?_) h)
  refine z_if_ne hE rfl ⟨fun q => ?_, fun q => ?_⟩
  · have h := h.1 q
    refine z_aload hE rfl rfl rfl ?_
    refine z_getR hE (q := 84) rfl shk_76 rfl rfl rfl ?_
    refine z_iconst hE rfl ?_
    refine z_iload hE rfl rfl ?_
    have hb := h.1
    have h := h.2
    refine z_imul hE rfl hb ?_
    refine z_iload hE rfl rfl ?_
    have hb := h.1
    have h := h.2
    refine z_iadd hE rfl hb ?_
    have hb := h.1
    have h := h.2
    refine z_iald hE rfl shk_84 hb ?_
    refine z_istore hE rfl rfl rfl ?_
    refine z_aload hE rfl rfl rfl ?_
    refine z_getR hE (q := 84) rfl shk_76 rfl rfl rfl ?_
    refine z_iconst hE rfl ?_
    refine z_iload hE rfl rfl ?_
    have hb := h.1
    have h := h.2
    refine z_imul hE rfl hb ?_
    refine z_iload hE rfl rfl ?_
    have hb := h.1
    have h := h.2
    refine z_iadd hE rfl hb ?_
    refine z_iload hE rfl rfl ?_
    have hb := h.1
    have h := h.2
    refine z_iast hE rfl shk_84 hb ?_
    refine z_iload hE rfl rfl ?_
    exact z_iret hE rfl rfl h
  · have h := h.2 q
    refine z_iconst hE rfl ?_
    exact z_iret hE rfl rfl h
/-! 114: ChildTrainsModel.wayOf(I)I -/
theorem mN_114 : mN 114 = 3 := by decide +kernel
theorem ee_114 {d : Nat} {Q : Ql} {a1 : Int} {M : Mm} (h : GoG false (EE d) cd_114 Q 0 [vR 76, vI a1, vU] [] M) : EE (d + 1) 114 [vR 76, vI a1] M Q := by
  have e : cdTab 114 = cd_114 := rfl
  unfold EE; rw [mN_114, e]; exact ⟨Nat.le_of_ble_eq_true rfl, h⟩
theorem sg_114 {d : Nat} {P : Int → Mm → Prop} {a1 : Int} {M : Mm} (h : EE d 140 [vI a1, vI 0, vI 2] (mset M 76 0 0) (rI fun r1 M1 => ((¬ r1 = 0 → P (M1 76 11) (mset M1 76 11 a1)) ∧ (r1 = 0 → P (-1) M1)))) : EE (d + 1) 114 [vR 76, vI a1] M (rI P) := by
  have hE := EE_mono d
  refine ee_114 ?_
  refine z_aload hE rfl rfl rfl ?_
  refine z_iconst hE rfl ?_
  refine z_putI hE (sl := 0) rfl shk_76 rfl rfl rfl ?_
  refine z_iload hE rfl rfl ?_
  refine z_iconst hE rfl ?_
  refine z_iconst hE rfl ?_
  refine z_callsI hE rfl rfl rfl rfl rfl (Nat.le_of_ble_eq_true rfl) (by decide) (EE_mono d _ _ _ _ _ (rI_mono fun r1 M1 h => ?_) h)
  refine z_if_ne hE rfl ⟨fun q => ?_, fun q => ?_⟩
  · have h := h.1 q
    refine z_aload hE rfl rfl rfl ?_
    refine z_getI hE (sl := 11) rfl shk_76 rfl rfl rfl ?_
    refine z_istore hE rfl rfl rfl ?_
    refine z_aload hE rfl rfl rfl ?_
    refine z_iload hE rfl rfl ?_
    refine z_putI hE (sl := 11) rfl shk_76 rfl rfl rfl ?_
    refine z_iload hE rfl rfl ?_
    exact z_iret hE rfl rfl h
  · have h := h.2 q
    refine z_iconst hE rfl ?_
    exact z_iret hE rfl rfl h
/-! 115: ChildTrainsModel.boarded(II)I -/
theorem mN_115 : mN 115 = 3 := by decide +kernel
theorem ee_115 {d : Nat} {Q : Ql} {a1 : Int} {a2 : Int} {M : Mm} (h : GoG false (EE d) cd_115 Q 0 [vR 76, vI a1, vI a2] [] M) : EE (d + 1) 115 [vR 76, vI a1, vI a2] M Q := by
  have e : cdTab 115 = cd_115 := rfl
  unfold EE; rw [mN_115, e]; exact ⟨Nat.le_of_ble_eq_true rfl, h⟩
theorem sg_115 {d : Nat} {P : Int → Mm → Prop} {a1 : Int} {a2 : Int} {M : Mm} (h : EE d 141 [vR 76, vI a1] (mset M 76 0 0) (rI fun r1 M1 => ((r1 = 0 → P (-1) M1) ∧ (¬ r1 = 0 → EE d 140 [vI a2, vI 0, vI 2] M1 (rI fun r2 M2 => ((¬ r2 = 0 → EE d 142 [vR 76] M2 (rV fun M3 => ((¬ a2 = 0 → ((¬ a2 = 1 → EE d 144 [vR 76, vI a1] M3 (rI fun r4 M4 => P r4 M4)) ∧ (a2 = 1 → (0 ≤ a1 ∧ a1 < 48) ∧ P (M3 86 a1) M3))) ∧ (a2 = 0 → (0 ≤ a1 ∧ a1 < 48) ∧ P (M3 85 a1) M3)))) ∧ (r2 = 0 → P (-1) M2))))))) : EE (d + 1) 115 [vR 76, vI a1, vI a2] M (rI P) := by
  have hE := EE_mono d
  refine ee_115 ?_
  refine z_aload hE rfl rfl rfl ?_
  refine z_iconst hE rfl ?_
  refine z_putI hE (sl := 0) rfl shk_76 rfl rfl rfl ?_
  refine z_aload hE rfl rfl rfl ?_
  refine z_iload hE rfl rfl ?_
  refine z_callvI hE rfl rfl rfl rfl rfl (Nat.le_of_ble_eq_true rfl) (by decide) ⟨rfl, rfl⟩ (EE_mono d _ _ _ _ _ (rI_mono fun r1 M1 h => ?_) h)
  refine z_if_eq hE rfl ⟨fun q => ?_, fun q => ?_⟩
  · have h := h.1 q
    refine z_iconst hE rfl ?_
    exact z_iret hE rfl rfl h
  · have h := h.2 q
    refine z_iload hE rfl rfl ?_
    refine z_iconst hE rfl ?_
    refine z_iconst hE rfl ?_
    refine z_callsI hE rfl rfl rfl rfl rfl (Nat.le_of_ble_eq_true rfl) (by decide) (EE_mono d _ _ _ _ _ (rI_mono fun r2 M2 h => ?_) h)
    refine z_if_ne hE rfl ⟨fun q => ?_, fun q => ?_⟩
    · have h := h.1 q
      refine z_aload hE rfl rfl rfl ?_
      refine z_callvV hE rfl rfl rfl rfl rfl (Nat.le_of_ble_eq_true rfl) (by decide) ⟨rfl, rfl⟩ (EE_mono d _ _ _ _ _ (rV_mono fun M3 h => ?_) h)
      refine z_iload hE rfl rfl ?_
      refine z_if_ne hE rfl ⟨fun q => ?_, fun q => ?_⟩
      · have h := h.1 q
        refine z_iload hE rfl rfl ?_
        refine z_iconst hE rfl ?_
        refine z_icmp_ne hE rfl ⟨fun q => ?_, fun q => ?_⟩
        · have h := h.1 q
          refine z_aload hE rfl rfl rfl ?_
          refine z_iload hE rfl rfl ?_
          refine z_callvI hE rfl rfl rfl rfl rfl (Nat.le_of_ble_eq_true rfl) (by decide) ⟨rfl, rfl⟩ (EE_mono d _ _ _ _ _ (rI_mono fun r4 M4 h => ?_) h)
          exact z_iret hE rfl rfl h
        · have h := h.2 q
          refine z_aload hE rfl rfl rfl ?_
          refine z_getR hE (q := 86) rfl shk_76 rfl rfl rfl ?_
          refine z_iload hE rfl rfl ?_
          have hb := h.1
          have h := h.2
          refine z_iald hE rfl shk_86 hb ?_
          refine z_goto hE rfl ?_
          exact z_iret hE rfl rfl h
      · have h := h.2 q
        refine z_aload hE rfl rfl rfl ?_
        refine z_getR hE (q := 85) rfl shk_76 rfl rfl rfl ?_
        refine z_iload hE rfl rfl ?_
        have hb := h.1
        have h := h.2
        refine z_iald hE rfl shk_85 hb ?_
        refine z_goto hE rfl ?_
        exact z_iret hE rfl rfl h
    · have h := h.2 q
      refine z_iconst hE rfl ?_
      exact z_iret hE rfl rfl h
/-! 116: ChildTrainsModel.mixed(I)I -/
def H_116_24 (d : Nat) (P : Int → Mm → Prop) (a1 : Int) (a2 : Int) (a3 : Int) (M : Mm) : Prop := GoG false (EE d) cd_116 (rI P) 24 [vR 76, vI a1, vI a2, vI a3, vU] [] M
def H_116_48 (d : Nat) (P : Int → Mm → Prop) (a1 : Int) (a2 : Int) (a3 : Int) (s0 : Int) (M : Mm) : Prop := GoG false (EE d) cd_116 (rI P) 48 [vR 76, vI a1, vI a2, vI a3, vU] [vI s0] M
def H_116_94 (d : Nat) (P : Int → Mm → Prop) (a1 : Int) (a3 : Int) (s0 : Int) (s1 : Int) (s2 : Int) (M : Mm) : Prop := GoG false (EE d) cd_116 (rI P) 94 [vR 76, vI a1, vU, vI a3, vU] [vI s0, vI s1, vI s2] M
theorem mN_116 : mN 116 = 5 := by decide +kernel
theorem ee_116 {d : Nat} {Q : Ql} {a1 : Int} {M : Mm} (h : GoG false (EE d) cd_116 Q 0 [vR 76, vI a1, vU, vU, vU] [] M) : EE (d + 1) 116 [vR 76, vI a1] M Q := by
  have e : cdTab 116 = cd_116 := rfl
  unfold EE; rw [mN_116, e]; exact ⟨Nat.le_of_ble_eq_true rfl, h⟩
theorem sg_116 {d : Nat} {P : Int → Mm → Prop} {a1 : Int} {M : Mm} (h : EE d 140 [vI a1, vI 0, vI 2] (mset M 76 0 0) (rI fun r1 M1 => ((¬ r1 = 0 → EE d 142 [vR 76] M1 (rV fun M2 => H_116_24 d P a1 0 0 M2)) ∧ (r1 = 0 → P (-1) M1)))) : EE (d + 1) 116 [vR 76, vI a1] M (rI P) := by
  have hE := EE_mono d
  refine ee_116 ?_
  refine z_aload hE rfl rfl rfl ?_
  refine z_iconst hE rfl ?_
  refine z_putI hE (sl := 0) rfl shk_76 rfl rfl rfl ?_
  refine z_iload hE rfl rfl ?_
  refine z_iconst hE rfl ?_
  refine z_iconst hE rfl ?_
  refine z_callsI hE rfl rfl rfl rfl rfl (Nat.le_of_ble_eq_true rfl) (by decide) (EE_mono d _ _ _ _ _ (rI_mono fun r1 M1 h => ?_) h)
  refine z_if_ne hE rfl ⟨fun q => ?_, fun q => ?_⟩
  · have h := h.1 q
    refine z_aload hE rfl rfl rfl ?_
    refine z_callvV hE rfl rfl rfl rfl rfl (Nat.le_of_ble_eq_true rfl) (by decide) ⟨rfl, rfl⟩ (EE_mono d _ _ _ _ _ (rV_mono fun M2 h => ?_) h)
    refine z_iconst hE rfl ?_
    refine z_istore hE rfl rfl rfl ?_
    refine z_iconst hE rfl ?_
    refine z_istore hE rfl rfl rfl ?_
    exact h
  · have h := h.2 q
    refine z_iconst hE rfl ?_
    exact z_iret hE rfl rfl h
theorem sg_116_24 {d : Nat} {P : Int → Mm → Prop} {a1 : Int} {a2 : Int} {a3 : Int} {M : Mm} (h : (((M 76 2) ≤ a3 → P a2 M) ∧ (a3 < (M 76 2) → (0 ≤ a3 ∧ a3 < 48) ∧ (((M 85 a3) = (-9) → H_116_48 d P a1 a2 a3 0 M) ∧ (¬ (M 85 a3) = (-9) → H_116_48 d P a1 a2 a3 1 M))))) : H_116_24 d P a1 a2 a3 M := by
  have hE := EE_mono d
  unfold H_116_24
  refine z_iload hE rfl rfl ?_
  refine z_aload hE rfl rfl rfl ?_
  refine z_getI hE (sl := 2) rfl shk_76 rfl rfl rfl ?_
  refine z_icmp_ge hE rfl ⟨fun q => ?_, fun q => ?_⟩
  · have h := h.1 q
    refine z_iload hE rfl rfl ?_
    exact z_iret hE rfl rfl h
  · have h := h.2 q
    refine z_aload hE rfl rfl rfl ?_
    refine z_getR hE (q := 85) rfl shk_76 rfl rfl rfl ?_
    refine z_iload hE rfl rfl ?_
    have hb := h.1
    have h := h.2
    refine z_iald hE rfl shk_85 hb ?_
    refine z_iconst hE rfl ?_
    refine z_icmp_eq hE rfl ⟨fun q => ?_, fun q => ?_⟩
    · have h := h.1 q
      refine z_iconst hE rfl ?_
      exact h
    · have h := h.2 q
      refine z_iconst hE rfl ?_
      refine z_goto hE rfl ?_
      exact h
theorem sg_116_48 {d : Nat} {P : Int → Mm → Prop} {a1 : Int} {a2 : Int} {a3 : Int} {s0 : Int} {M : Mm} (h : ((¬ a1 = 0 → ((¬ a1 = 2 → H_116_94 d P a1 a3 0 s0 a2 M) ∧ (a1 = 2 → H_116_94 d P a1 a3 1 s0 a2 M))) ∧ (a1 = 0 → ((s0 = 0 → inI (a2 + 0) ∧ inI (a3 + 1) ∧ H_116_24 d P a1 (a2 + 0) (a3 + 1) M) ∧ (¬ s0 = 0 → (0 ≤ a3 ∧ a3 < 48) ∧ EE d 143 [vR 76, vI a3] M (rI fun r1 M1 => (((M 85 a3) = r1 → inI (a2 + 0) ∧ inI (a3 + 1) ∧ H_116_24 d P a1 (a2 + 0) (a3 + 1) M1) ∧ (¬ (M 85 a3) = r1 → inI (a2 + 1) ∧ inI (a3 + 1) ∧ H_116_24 d P a1 (a2 + 1) (a3 + 1) M1)))))))) : H_116_48 d P a1 a2 a3 s0 M := by
  have hE := EE_mono d
  unfold H_116_48
  refine z_istore hE rfl rfl rfl ?_
  refine z_iload hE rfl rfl ?_
  refine z_iload hE rfl rfl ?_
  refine z_if_ne hE rfl ⟨fun q => ?_, fun q => ?_⟩
  · have h := h.1 q
    refine z_iload hE rfl rfl ?_
    refine z_iload hE rfl rfl ?_
    refine z_iconst hE rfl ?_
    refine z_icmp_ne hE rfl ⟨fun q => ?_, fun q => ?_⟩
    · have h := h.1 q
      refine z_iconst hE rfl ?_
      exact GoG.weak hE (ls := [vR 76, vI a1, vU, vI a3, vU]) ⟨Or.inl rfl, Or.inl rfl, Or.inr ⟨rfl, _, rfl⟩, Or.inl rfl, Or.inr ⟨rfl, _, rfl⟩, trivial⟩ h
    · have h := h.2 q
      refine z_iconst hE rfl ?_
      refine z_goto hE rfl ?_
      exact GoG.weak hE (ls := [vR 76, vI a1, vU, vI a3, vU]) ⟨Or.inl rfl, Or.inl rfl, Or.inr ⟨rfl, _, rfl⟩, Or.inl rfl, Or.inr ⟨rfl, _, rfl⟩, trivial⟩ h
  · have h := h.2 q
    refine z_iload hE rfl rfl ?_
    refine z_if_eq hE rfl ⟨fun q => ?_, fun q => ?_⟩
    · have h := h.1 q
      refine z_iconst hE rfl ?_
      refine z_goto hE rfl ?_
      have hb := h.1
      have h := h.2
      refine z_iadd hE rfl hb ?_
      refine z_istore hE rfl rfl rfl ?_
      have hb := h.1
      have h := h.2
      refine z_iinc hE rfl rfl rfl hb ?_
      refine z_goto hE rfl ?_
      exact GoG.weak hE (ls := [vR 76, vI a1, vI (a2 + 0), vI (a3 + 1), vU]) ⟨Or.inl rfl, Or.inl rfl, Or.inl rfl, Or.inl rfl, Or.inr ⟨rfl, _, rfl⟩, trivial⟩ h
    · have h := h.2 q
      refine z_aload hE rfl rfl rfl ?_
      refine z_getR hE (q := 85) rfl shk_76 rfl rfl rfl ?_
      refine z_iload hE rfl rfl ?_
      have hb := h.1
      have h := h.2
      refine z_iald hE rfl shk_85 hb ?_
      refine z_aload hE rfl rfl rfl ?_
      refine z_iload hE rfl rfl ?_
      refine z_callvI hE rfl rfl rfl rfl rfl (Nat.le_of_ble_eq_true rfl) (by decide) ⟨rfl, rfl⟩ (EE_mono d _ _ _ _ _ (rI_mono fun r1 M1 h => ?_) h)
      refine z_icmp_eq hE rfl ⟨fun q => ?_, fun q => ?_⟩
      · have h := h.1 q
        refine z_iconst hE rfl ?_
        refine z_goto hE rfl ?_
        have hb := h.1
        have h := h.2
        refine z_iadd hE rfl hb ?_
        refine z_istore hE rfl rfl rfl ?_
        have hb := h.1
        have h := h.2
        refine z_iinc hE rfl rfl rfl hb ?_
        refine z_goto hE rfl ?_
        exact GoG.weak hE (ls := [vR 76, vI a1, vI (a2 + 0), vI (a3 + 1), vU]) ⟨Or.inl rfl, Or.inl rfl, Or.inl rfl, Or.inl rfl, Or.inr ⟨rfl, _, rfl⟩, trivial⟩ h
      · have h := h.2 q
        refine z_iconst hE rfl ?_
        refine z_goto hE rfl ?_
        have hb := h.1
        have h := h.2
        refine z_iadd hE rfl hb ?_
        refine z_istore hE rfl rfl rfl ?_
        have hb := h.1
        have h := h.2
        refine z_iinc hE rfl rfl rfl hb ?_
        refine z_goto hE rfl ?_
        exact GoG.weak hE (ls := [vR 76, vI a1, vI (a2 + 1), vI (a3 + 1), vU]) ⟨Or.inl rfl, Or.inl rfl, Or.inl rfl, Or.inl rfl, Or.inr ⟨rfl, _, rfl⟩, trivial⟩ h
theorem sg_116_94 {d : Nat} {P : Int → Mm → Prop} {a1 : Int} {a3 : Int} {s0 : Int} {s1 : Int} {s2 : Int} {M : Mm} (h : ((¬ s1 = s0 → inI (s2 + 0) ∧ inI (a3 + 1) ∧ H_116_24 d P a1 (s2 + 0) (a3 + 1) M) ∧ (s1 = s0 → inI (s2 + 1) ∧ inI (a3 + 1) ∧ H_116_24 d P a1 (s2 + 1) (a3 + 1) M))) : H_116_94 d P a1 a3 s0 s1 s2 M := by
  have hE := EE_mono d
  unfold H_116_94
  refine z_icmp_ne hE rfl ⟨fun q => ?_, fun q => ?_⟩
  · have h := h.1 q
    refine z_iconst hE rfl ?_
    have hb := h.1
    have h := h.2
    refine z_iadd hE rfl hb ?_
    refine z_istore hE rfl rfl rfl ?_
    have hb := h.1
    have h := h.2
    refine z_iinc hE rfl rfl rfl hb ?_
    refine z_goto hE rfl ?_
    exact h
  · have h := h.2 q
    refine z_iconst hE rfl ?_
    refine z_goto hE rfl ?_
    have hb := h.1
    have h := h.2
    refine z_iadd hE rfl hb ?_
    refine z_istore hE rfl rfl rfl ?_
    have hb := h.1
    have h := h.2
    refine z_iinc hE rfl rfl rfl hb ?_
    refine z_goto hE rfl ?_
    exact h
/-! 117: ChildTrainsModel.load(II)I -/
def H_117_20 (d : Nat) (P : Int → Mm → Prop) (a1 : Int) (a2 : Int) (M : Mm) : Prop := GoG false (EE d) cd_117 (rI P) 20 [vR 76, vI a1, vI a2, vU, vU] [] M
def H_117_41 (d : Nat) (P : Int → Mm → Prop) (a1 : Int) (a2 : Int) (a3 : Int) (a4 : Int) (M : Mm) : Prop := GoG false (EE d) cd_117 (rI P) 41 [vR 76, vI a1, vI a2, vI a3, vI a4] [] M
theorem mN_117 : mN 117 = 5 := by decide +kernel
theorem ee_117 {d : Nat} {Q : Ql} {a1 : Int} {a2 : Int} {M : Mm} (h : GoG false (EE d) cd_117 Q 0 [vR 76, vI a1, vI a2, vU, vU] [] M) : EE (d + 1) 117 [vR 76, vI a1, vI a2] M Q := by
  have e : cdTab 117 = cd_117 := rfl
  unfold EE; rw [mN_117, e]; exact ⟨Nat.le_of_ble_eq_true rfl, h⟩
theorem sg_117 {d : Nat} {P : Int → Mm → Prop} {a1 : Int} {a2 : Int} {M : Mm} (h : ((a1 = (-9) → H_117_20 d P a1 a2 (mset M 76 0 0)) ∧ (¬ a1 = (-9) → EE d 140 [vI a1, vI 0, vI 5] (mset M 76 0 0) (rI fun r1 M1 => ((r1 = 0 → P (-1) M1) ∧ (¬ r1 = 0 → H_117_20 d P a1 a2 M1)))))) : EE (d + 1) 117 [vR 76, vI a1, vI a2] M (rI P) := by
  have hE := EE_mono d
  refine ee_117 ?_
  refine z_aload hE rfl rfl rfl ?_
  refine z_iconst hE rfl ?_
  refine z_putI hE (sl := 0) rfl shk_76 rfl rfl rfl ?_
  refine z_iload hE rfl rfl ?_
  refine z_iconst hE rfl ?_
  refine z_icmp_eq hE rfl ⟨fun q => ?_, fun q => ?_⟩
  · have h := h.1 q
    exact h
  · have h := h.2 q
    refine z_iload hE rfl rfl ?_
    refine z_iconst hE rfl ?_
    refine z_iconst hE rfl ?_
    refine z_callsI hE rfl rfl rfl rfl rfl (Nat.le_of_ble_eq_true rfl) (by decide) (EE_mono d _ _ _ _ _ (rI_mono fun r1 M1 h => ?_) h)
    refine z_if_eq hE rfl ⟨fun q => ?_, fun q => ?_⟩
    · have h := h.1 q
      refine z_iconst hE rfl ?_
      exact z_iret hE rfl rfl h
    · have h := h.2 q
      exact h
theorem sg_117_20 {d : Nat} {P : Int → Mm → Prop} {a1 : Int} {a2 : Int} {M : Mm} (h : EE d 140 [vI a2, vI 0, vI 7] M (rI fun r1 M1 => ((¬ r1 = 0 → EE d 142 [vR 76] M1 (rV fun M2 => H_117_41 d P a1 a2 0 0 M2)) ∧ (r1 = 0 → P (-1) M1)))) : H_117_20 d P a1 a2 M := by
  have hE := EE_mono d
  unfold H_117_20
  refine z_iload hE rfl rfl ?_
  refine z_iconst hE rfl ?_
  refine z_iconst hE rfl ?_
  refine z_callsI hE rfl rfl rfl rfl rfl (Nat.le_of_ble_eq_true rfl) (by decide) (EE_mono d _ _ _ _ _ (rI_mono fun r1 M1 h => ?_) h)
  refine z_if_ne hE rfl ⟨fun q => ?_, fun q => ?_⟩
  · have h := h.1 q
    refine z_aload hE rfl rfl rfl ?_
    refine z_callvV hE rfl rfl rfl rfl rfl (Nat.le_of_ble_eq_true rfl) (by decide) ⟨rfl, rfl⟩ (EE_mono d _ _ _ _ _ (rV_mono fun M2 h => ?_) h)
    refine z_iconst hE rfl ?_
    refine z_istore hE rfl rfl rfl ?_
    refine z_iconst hE rfl ?_
    refine z_istore hE rfl rfl rfl ?_
    exact h
  · have h := h.2 q
    refine z_iconst hE rfl ?_
    exact z_iret hE rfl rfl h
theorem sg_117_41 {d : Nat} {P : Int → Mm → Prop} {a1 : Int} {a2 : Int} {a3 : Int} {a4 : Int} {M : Mm} (h : (((M 76 2) ≤ a4 → P a3 M) ∧ (a4 < (M 76 2) → (0 ≤ a4 ∧ a4 < 48) ∧ ((¬ (M 85 a4) = a1 → inI (a3 + 0) ∧ inI (a4 + 1) ∧ H_117_41 d P a1 a2 (a3 + 0) (a4 + 1) M) ∧ ((M 85 a4) = a1 → (0 ≤ a4 ∧ a4 < 48) ∧ ((¬ (M 80 a4) = a2 → inI (a3 + 0) ∧ inI (a4 + 1) ∧ H_117_41 d P a1 a2 (a3 + 0) (a4 + 1) M) ∧ ((M 80 a4) = a2 → inI (a3 + 1) ∧ inI (a4 + 1) ∧ H_117_41 d P a1 a2 (a3 + 1) (a4 + 1) M))))))) : H_117_41 d P a1 a2 a3 a4 M := by
  have hE := EE_mono d
  unfold H_117_41
  refine z_iload hE rfl rfl ?_
  refine z_aload hE rfl rfl rfl ?_
  refine z_getI hE (sl := 2) rfl shk_76 rfl rfl rfl ?_
  refine z_icmp_ge hE rfl ⟨fun q => ?_, fun q => ?_⟩
  · have h := h.1 q
    refine z_iload hE rfl rfl ?_
    exact z_iret hE rfl rfl h
  · have h := h.2 q
    refine z_iload hE rfl rfl ?_
    refine z_aload hE rfl rfl rfl ?_
    refine z_getR hE (q := 85) rfl shk_76 rfl rfl rfl ?_
    refine z_iload hE rfl rfl ?_
    have hb := h.1
    have h := h.2
    refine z_iald hE rfl shk_85 hb ?_
    refine z_iload hE rfl rfl ?_
    refine z_icmp_ne hE rfl ⟨fun q => ?_, fun q => ?_⟩
    · have h := h.1 q
      refine z_iconst hE rfl ?_
      have hb := h.1
      have h := h.2
      refine z_iadd hE rfl hb ?_
      refine z_istore hE rfl rfl rfl ?_
      have hb := h.1
      have h := h.2
      refine z_iinc hE rfl rfl rfl hb ?_
      refine z_goto hE rfl ?_
      exact h
    · have h := h.2 q
      refine z_aload hE rfl rfl rfl ?_
      refine z_getR hE (q := 80) rfl shk_76 rfl rfl rfl ?_
      refine z_iload hE rfl rfl ?_
      have hb := h.1
      have h := h.2
      refine z_iald hE rfl shk_80 hb ?_
      refine z_iload hE rfl rfl ?_
      refine z_icmp_ne hE rfl ⟨fun q => ?_, fun q => ?_⟩
      · have h := h.1 q
        refine z_iconst hE rfl ?_
        have hb := h.1
        have h := h.2
        refine z_iadd hE rfl hb ?_
        refine z_istore hE rfl rfl rfl ?_
        have hb := h.1
        have h := h.2
        refine z_iinc hE rfl rfl rfl hb ?_
        refine z_goto hE rfl ?_
        exact h
      · have h := h.2 q
        refine z_iconst hE rfl ?_
        refine z_goto hE rfl ?_
        have hb := h.1
        have h := h.2
        refine z_iadd hE rfl hb ?_
        refine z_istore hE rfl rfl rfl ?_
        have hb := h.1
        have h := h.2
        refine z_iinc hE rfl rfl rfl hb ?_
        refine z_goto hE rfl ?_
        exact h
/-! 118: ChildTrainsModel.house(IIIII)I -/
theorem mN_118 : mN 118 = 7 := by decide +kernel
theorem ee_118 {d : Nat} {Q : Ql} {a1 : Int} {a2 : Int} {a3 : Int} {a4 : Int} {a5 : Int} {M : Mm} (h : GoG false (EE d) cd_118 Q 0 [vR 76, vI a1, vI a2, vI a3, vI a4, vI a5, vU] [] M) : EE (d + 1) 118 [vR 76, vI a1, vI a2, vI a3, vI a4, vI a5] M Q := by
  have e : cdTab 118 = cd_118 := rfl
  unfold EE; rw [mN_118, e]; exact ⟨Nat.le_of_ble_eq_true rfl, h⟩
theorem sg_118 {d : Nat} {P : Int → Mm → Prop} {a1 : Int} {a2 : Int} {a3 : Int} {a4 : Int} {a5 : Int} {M : Mm} (h : EE d 145 [vI a1] (mset M 76 0 0) (rI fun r1 M1 => ((r1 = 0 → P (-1) M1) ∧ (¬ r1 = 0 → EE d 140 [vI a2, vI 1, vI 3] M1 (rI fun r2 M2 => ((r2 = 0 → P (-1) M2) ∧ (¬ r2 = 0 → EE d 140 [vI a3, vI 1, vI 4] M2 (rI fun r3 M3 => ((r3 = 0 → P (-1) M3) ∧ (¬ r3 = 0 → EE d 140 [vI a4, vI 0, vI 15] M3 (rI fun r4 M4 => ((r4 = 0 → P (-1) M4) ∧ (¬ r4 = 0 → EE d 140 [vI a5, vI 0, vI 3] M4 (rI fun r5 M5 => ((¬ r5 = 0 → ((¬ (M5 76 16) = 24 → inI (5 * (M5 76 16)) ∧ (0 ≤ (5 * (M5 76 16)) ∧ (5 * (M5 76 16)) < 120) ∧ inI ((5 * (M5 76 16)) + 1) ∧ (0 ≤ ((5 * (M5 76 16)) + 1) ∧ ((5 * (M5 76 16)) + 1) < 120) ∧ inI ((5 * (M5 76 16)) + 2) ∧ (0 ≤ ((5 * (M5 76 16)) + 2) ∧ ((5 * (M5 76 16)) + 2) < 120) ∧ inI ((5 * (M5 76 16)) + 3) ∧ (0 ≤ ((5 * (M5 76 16)) + 3) ∧ ((5 * (M5 76 16)) + 3) < 120) ∧ inI ((5 * (M5 76 16)) + 4) ∧ (0 ≤ ((5 * (M5 76 16)) + 4) ∧ ((5 * (M5 76 16)) + 4) < 120) ∧ inI ((M5 76 16) + 1) ∧ inI (((M5 76 16) + 1) - 1) ∧ P (((M5 76 16) + 1) - 1) (mset (mset (mset (mset (mset (mset M5 89 (5 * (M5 76 16)) a1) 89 ((5 * (M5 76 16)) + 1) a2) 89 ((5 * (M5 76 16)) + 2) a3) 89 ((5 * (M5 76 16)) + 3) a4) 89 ((5 * (M5 76 16)) + 4) a5) 76 16 ((M5 76 16) + 1))) ∧ ((M5 76 16) = 24 → P (-3) M5))) ∧ (r5 = 0 → P (-1) M5)))))))))))))))) : EE (d + 1) 118 [vR 76, vI a1, vI a2, vI a3, vI a4, vI a5] M (rI P) := by
  have hE := EE_mono d
  refine ee_118 ?_
  refine z_aload hE rfl rfl rfl ?_
  refine z_iconst hE rfl ?_
  refine z_putI hE (sl := 0) rfl shk_76 rfl rfl rfl ?_
  refine z_iload hE rfl rfl ?_
  refine z_callsI hE rfl rfl rfl rfl rfl (Nat.le_of_ble_eq_true rfl) (by decide) (EE_mono d _ _ _ _ _ (rI_mono fun r1 M1 h => ?_) h)
  refine z_if_eq hE rfl ⟨fun q => ?_, fun q => ?_⟩
  · have h := h.1 q
    refine z_iconst hE rfl ?_
    exact z_iret hE rfl rfl h
  · have h := h.2 q
    refine z_iload hE rfl rfl ?_
    refine z_iconst hE rfl ?_
    refine z_iconst hE rfl ?_
    refine z_callsI hE rfl rfl rfl rfl rfl (Nat.le_of_ble_eq_true rfl) (by decide) (EE_mono d _ _ _ _ _ (rI_mono fun r2 M2 h => ?_) h)
    refine z_if_eq hE rfl ⟨fun q => ?_, fun q => ?_⟩
    · have h := h.1 q
      refine z_iconst hE rfl ?_
      exact z_iret hE rfl rfl h
    · have h := h.2 q
      refine z_iload hE rfl rfl ?_
      refine z_iconst hE rfl ?_
      refine z_iconst hE rfl ?_
      refine z_callsI hE rfl rfl rfl rfl rfl (Nat.le_of_ble_eq_true rfl) (by decide) (EE_mono d _ _ _ _ _ (rI_mono fun r3 M3 h => ?_) h)
      refine z_if_eq hE rfl ⟨fun q => ?_, fun q => ?_⟩
      · have h := h.1 q
        refine z_iconst hE rfl ?_
        exact z_iret hE rfl rfl h
      · have h := h.2 q
        refine z_iload hE rfl rfl ?_
        refine z_iconst hE rfl ?_
        refine z_iconst hE rfl ?_
        refine z_callsI hE rfl rfl rfl rfl rfl (Nat.le_of_ble_eq_true rfl) (by decide) (EE_mono d _ _ _ _ _ (rI_mono fun r4 M4 h => ?_) h)
        refine z_if_eq hE rfl ⟨fun q => ?_, fun q => ?_⟩
        · have h := h.1 q
          refine z_iconst hE rfl ?_
          exact z_iret hE rfl rfl h
        · have h := h.2 q
          refine z_iload hE rfl rfl ?_
          refine z_iconst hE rfl ?_
          refine z_iconst hE rfl ?_
          refine z_callsI hE rfl rfl rfl rfl rfl (Nat.le_of_ble_eq_true rfl) (by decide) (EE_mono d _ _ _ _ _ (rI_mono fun r5 M5 h => ?_) h)
          refine z_if_ne hE rfl ⟨fun q => ?_, fun q => ?_⟩
          · have h := h.1 q
            refine z_aload hE rfl rfl rfl ?_
            refine z_getI hE (sl := 16) rfl shk_76 rfl rfl rfl ?_
            refine z_iconst hE rfl ?_
            refine z_icmp_ne hE rfl ⟨fun q => ?_, fun q => ?_⟩
            · have h := h.1 q
              refine z_iconst hE rfl ?_
              refine z_aload hE rfl rfl rfl ?_
              refine z_getI hE (sl := 16) rfl shk_76 rfl rfl rfl ?_
              have hb := h.1
              have h := h.2
              refine z_imul hE rfl hb ?_
              refine z_istore hE rfl rfl rfl ?_
              refine z_aload hE rfl rfl rfl ?_
              refine z_getR hE (q := 89) rfl shk_76 rfl rfl rfl ?_
              refine z_iload hE rfl rfl ?_
              refine z_iload hE rfl rfl ?_
              have hb := h.1
              have h := h.2
              refine z_iast hE rfl shk_89 hb ?_
              refine z_aload hE rfl rfl rfl ?_
              refine z_getR hE (q := 89) rfl shk_76 rfl rfl rfl ?_
              refine z_iload hE rfl rfl ?_
              refine z_iconst hE rfl ?_
              have hb := h.1
              have h := h.2
              refine z_iadd hE rfl hb ?_
              refine z_iload hE rfl rfl ?_
              have hb := h.1
              have h := h.2
              refine z_iast hE rfl shk_89 hb ?_
              refine z_aload hE rfl rfl rfl ?_
              refine z_getR hE (q := 89) rfl shk_76 rfl rfl rfl ?_
              refine z_iload hE rfl rfl ?_
              refine z_iconst hE rfl ?_
              have hb := h.1
              have h := h.2
              refine z_iadd hE rfl hb ?_
              refine z_iload hE rfl rfl ?_
              have hb := h.1
              have h := h.2
              refine z_iast hE rfl shk_89 hb ?_
              refine z_aload hE rfl rfl rfl ?_
              refine z_getR hE (q := 89) rfl shk_76 rfl rfl rfl ?_
              refine z_iload hE rfl rfl ?_
              refine z_iconst hE rfl ?_
              have hb := h.1
              have h := h.2
              refine z_iadd hE rfl hb ?_
              refine z_iload hE rfl rfl ?_
              have hb := h.1
              have h := h.2
              refine z_iast hE rfl shk_89 hb ?_
              refine z_aload hE rfl rfl rfl ?_
              refine z_getR hE (q := 89) rfl shk_76 rfl rfl rfl ?_
              refine z_iload hE rfl rfl ?_
              refine z_iconst hE rfl ?_
              have hb := h.1
              have h := h.2
              refine z_iadd hE rfl hb ?_
              refine z_iload hE rfl rfl ?_
              have hb := h.1
              have h := h.2
              refine z_iast hE rfl shk_89 hb ?_
              refine z_aload hE rfl rfl rfl ?_
              refine z_dup hE rfl rfl ?_
              refine z_getI hE (sl := 16) rfl shk_76 rfl rfl rfl ?_
              refine z_iconst hE rfl ?_
              have hb := h.1
              have h := h.2
              refine z_iadd hE rfl hb ?_
              refine z_putI hE (sl := 16) rfl shk_76 rfl rfl rfl ?_
              refine z_aload hE rfl rfl rfl ?_
              refine z_getI hE (sl := 16) rfl shk_76 rfl rfl rfl ?_
              refine z_iconst hE rfl ?_
              have hb := h.1
              have h := h.2
              refine z_isub hE rfl hb ?_
              exact z_iret hE rfl rfl h
            · have h := h.2 q
              refine z_iconst hE rfl ?_
              exact z_iret hE rfl rfl h
          · have h := h.2 q
            refine z_iconst hE rfl ?_
            exact z_iret hE rfl rfl h
/-! 119: ChildTrainsModel.pay(III)I -/
def H_119_73 (d : Nat) (P : Int → Mm → Prop) (a1 : Int) (a2 : Int) (a3 : Int) (s0 : Int) (s1 : Int) (M : Mm) : Prop := GoG false (EE d) cd_119 (rI P) 73 [vR 76, vI a1, vI a2, vI a3] [vL s0, vL s1, vR 76] M
theorem mN_119 : mN 119 = 4 := by decide +kernel
theorem ee_119 {d : Nat} {Q : Ql} {a1 : Int} {a2 : Int} {a3 : Int} {M : Mm} (h : GoG false (EE d) cd_119 Q 0 [vR 76, vI a1, vI a2, vI a3] [] M) : EE (d + 1) 119 [vR 76, vI a1, vI a2, vI a3] M Q := by
  have e : cdTab 119 = cd_119 := rfl
  unfold EE; rw [mN_119, e]; exact ⟨Nat.le_of_ble_eq_true rfl, h⟩
theorem sg_119 {d : Nat} {P : Int → Mm → Prop} {a1 : Int} {a2 : Int} {a3 : Int} {M : Mm} (h : EE d 140 [vI a1, vI 0, vI 3] (mset M 76 0 0) (rI fun r1 M1 => ((r1 = 0 → P (-1) M1) ∧ (¬ r1 = 0 → EE d 140 [vI a2, vI 0, vI 9] M1 (rI fun r2 M2 => ((r2 = 0 → P (-1) M2) ∧ (¬ r2 = 0 → EE d 140 [vI a3, vI 0, vI a2] M2 (rI fun r3 M3 => ((¬ r3 = 0 → ((¬ a1 = 0 → ((¬ a1 = 1 → ((¬ a1 = 2 → H_119_73 d P a1 a2 a3 1111 (M3 76 1) M3) ∧ (a1 = 2 → H_119_73 d P a1 a2 a3 111 (M3 76 1) M3))) ∧ (a1 = 1 → H_119_73 d P a1 a2 a3 11 (M3 76 1) M3))) ∧ (a1 = 0 → H_119_73 d P a1 a2 a3 1 (M3 76 1) M3))) ∧ (r3 = 0 → P (-1) M3)))))))))) : EE (d + 1) 119 [vR 76, vI a1, vI a2, vI a3] M (rI P) := by
  have hE := EE_mono d
  refine ee_119 ?_
  refine z_aload hE rfl rfl rfl ?_
  refine z_iconst hE rfl ?_
  refine z_putI hE (sl := 0) rfl shk_76 rfl rfl rfl ?_
  refine z_iload hE rfl rfl ?_
  refine z_iconst hE rfl ?_
  refine z_iconst hE rfl ?_
  refine z_callsI hE rfl rfl rfl rfl rfl (Nat.le_of_ble_eq_true rfl) (by decide) (EE_mono d _ _ _ _ _ (rI_mono fun r1 M1 h => ?_) h)
  refine z_if_eq hE rfl ⟨fun q => ?_, fun q => ?_⟩
  · have h := h.1 q
    refine z_iconst hE rfl ?_
    exact z_iret hE rfl rfl h
  · have h := h.2 q
    refine z_iload hE rfl rfl ?_
    refine z_iconst hE rfl ?_
    refine z_iconst hE rfl ?_
    refine z_callsI hE rfl rfl rfl rfl rfl (Nat.le_of_ble_eq_true rfl) (by decide) (EE_mono d _ _ _ _ _ (rI_mono fun r2 M2 h => ?_) h)
    refine z_if_eq hE rfl ⟨fun q => ?_, fun q => ?_⟩
    · have h := h.1 q
      refine z_iconst hE rfl ?_
      exact z_iret hE rfl rfl h
    · have h := h.2 q
      refine z_iload hE rfl rfl ?_
      refine z_iconst hE rfl ?_
      refine z_iload hE rfl rfl ?_
      refine z_callsI hE rfl rfl rfl rfl rfl (Nat.le_of_ble_eq_true rfl) (by decide) (EE_mono d _ _ _ _ _ (rI_mono fun r3 M3 h => ?_) h)
      refine z_if_ne hE rfl ⟨fun q => ?_, fun q => ?_⟩
      · have h := h.1 q
        refine z_aload hE rfl rfl rfl ?_
        refine z_dup hE rfl rfl ?_
        refine z_getJ hE (sl := 1) rfl shk_76 rfl rfl rfl ?_
        refine z_iload hE rfl rfl ?_
        refine z_if_ne hE rfl ⟨fun q => ?_, fun q => ?_⟩
        · have h := h.1 q
          refine z_iload hE rfl rfl ?_
          refine z_iconst hE rfl ?_
          refine z_icmp_ne hE rfl ⟨fun q => ?_, fun q => ?_⟩
          · have h := h.1 q
            refine z_iload hE rfl rfl ?_
            refine z_iconst hE rfl ?_
            refine z_icmp_ne hE rfl ⟨fun q => ?_, fun q => ?_⟩
            · have h := h.1 q
              refine z_lconst hE rfl ?_
              exact h
            · have h := h.2 q
              refine z_lconst hE rfl ?_
              refine z_goto hE rfl ?_
              exact h
          · have h := h.2 q
            refine z_lconst hE rfl ?_
            refine z_goto hE rfl ?_
            exact h
        · have h := h.2 q
          refine z_lconst hE rfl ?_
          refine z_goto hE rfl ?_
          exact h
      · have h := h.2 q
        refine z_iconst hE rfl ?_
        exact z_iret hE rfl rfl h
theorem sg_119_73 {d : Nat} {P : Int → Mm → Prop} {a1 : Int} {a2 : Int} {a3 : Int} {s0 : Int} {s1 : Int} {M : Mm} (h : inJ (s1 + s0) ∧ EE d 146 [vI a1, vI a2, vI a3] (mset M 76 1 (s1 + s0)) (rI fun r1 M1 => P r1 M1)) : H_119_73 d P a1 a2 a3 s0 s1 M := by
  have hE := EE_mono d
  unfold H_119_73
  have hb := h.1
  have h := h.2
  refine z_ladd hE rfl hb ?_
  refine z_putJ hE (sl := 1) rfl shk_76 rfl rfl rfl ?_
  refine z_iload hE rfl rfl ?_
  refine z_iload hE rfl rfl ?_
  refine z_iload hE rfl rfl ?_
  refine z_callsI hE rfl rfl rfl rfl rfl (Nat.le_of_ble_eq_true rfl) (by decide) (EE_mono d _ _ _ _ _ (rI_mono fun r1 M1 h => ?_) h)
  exact z_iret hE rfl rfl h
/-! 120: ChildTrainsModel.hall(II)I -/
def H_120_37 (d : Nat) (P : Int → Mm → Prop) (a1 : Int) (a2 : Int) (a3 : Int) (a4 : Int) (M : Mm) : Prop := GoG false (EE d) cd_120 (rI P) 37 [vR 76, vI a1, vI a2, vI a3, vI a4, vU] [] M
def H_120_88 (d : Nat) (P : Int → Mm → Prop) (a1 : Int) (a2 : Int) (a3 : Int) (a4 : Int) (a5 : Int) (M : Mm) : Prop := GoG false (EE d) cd_120 (rI P) 88 [vR 76, vI a1, vI a2, vI a3, vI a4, vI a5] [] M
theorem mN_120 : mN 120 = 6 := by decide +kernel
theorem ee_120 {d : Nat} {Q : Ql} {a1 : Int} {a2 : Int} {M : Mm} (h : GoG false (EE d) cd_120 Q 0 [vR 76, vI a1, vI a2, vU, vU, vU] [] M) : EE (d + 1) 120 [vR 76, vI a1, vI a2] M Q := by
  have e : cdTab 120 = cd_120 := rfl
  unfold EE; rw [mN_120, e]; exact ⟨Nat.le_of_ble_eq_true rfl, h⟩
theorem sg_120 {d : Nat} {P : Int → Mm → Prop} {a1 : Int} {a2 : Int} {M : Mm} (h : EE d 145 [vI a1] (mset M 76 0 0) (rI fun r1 M1 => ((r1 = 0 → P (-1) M1) ∧ (¬ r1 = 0 → EE d 140 [vI a2, vI 0, vI 2] M1 (rI fun r2 M2 => ((¬ r2 = 0 → EE d 142 [vR 76] M2 (rV fun M3 => EE d 147 [vR 76, vI a1] M3 (rV fun M4 => H_120_37 d P a1 a2 0 0 M4))) ∧ (r2 = 0 → P (-1) M2))))))) : EE (d + 1) 120 [vR 76, vI a1, vI a2] M (rI P) := by
  have hE := EE_mono d
  refine ee_120 ?_
  refine z_aload hE rfl rfl rfl ?_
  refine z_iconst hE rfl ?_
  refine z_putI hE (sl := 0) rfl shk_76 rfl rfl rfl ?_
  refine z_iload hE rfl rfl ?_
  refine z_callsI hE rfl rfl rfl rfl rfl (Nat.le_of_ble_eq_true rfl) (by decide) (EE_mono d _ _ _ _ _ (rI_mono fun r1 M1 h => ?_) h)
  refine z_if_eq hE rfl ⟨fun q => ?_, fun q => ?_⟩
  · have h := h.1 q
    refine z_iconst hE rfl ?_
    exact z_iret hE rfl rfl h
  · have h := h.2 q
    refine z_iload hE rfl rfl ?_
    refine z_iconst hE rfl ?_
    refine z_iconst hE rfl ?_
    refine z_callsI hE rfl rfl rfl rfl rfl (Nat.le_of_ble_eq_true rfl) (by decide) (EE_mono d _ _ _ _ _ (rI_mono fun r2 M2 h => ?_) h)
    refine z_if_ne hE rfl ⟨fun q => ?_, fun q => ?_⟩
    · have h := h.1 q
      refine z_aload hE rfl rfl rfl ?_
      refine z_callvV hE rfl rfl rfl rfl rfl (Nat.le_of_ble_eq_true rfl) (by decide) ⟨rfl, rfl⟩ (EE_mono d _ _ _ _ _ (rV_mono fun M3 h => ?_) h)
      refine z_aload hE rfl rfl rfl ?_
      refine z_iload hE rfl rfl ?_
      refine z_callvV hE rfl rfl rfl rfl rfl (Nat.le_of_ble_eq_true rfl) (by decide) ⟨rfl, rfl⟩ (EE_mono d _ _ _ _ _ (rV_mono fun M4 h => ?_) h)
      refine z_iconst hE rfl ?_
      refine z_istore hE rfl rfl rfl ?_
      refine z_iconst hE rfl ?_
      refine z_istore hE rfl rfl rfl ?_
      exact h
    · have h := h.2 q
      refine z_iconst hE rfl ?_
      exact z_iret hE rfl rfl h
theorem sg_120_37 {d : Nat} {P : Int → Mm → Prop} {a1 : Int} {a2 : Int} {a3 : Int} {a4 : Int} {M : Mm} (h : (((M 76 2) ≤ a4 → P a3 M) ∧ (a4 < (M 76 2) → EE d 144 [vR 76, vI a4] M (rI fun r1 M1 => ((¬ r1 = a1 → inI (a4 + 1) ∧ H_120_37 d P a1 a2 a3 (a4 + 1) M1) ∧ (r1 = a1 → ((a2 = 0 → inI (a3 + 1) ∧ H_120_88 d P a1 a2 (a3 + 1) a4 0 M1) ∧ (¬ a2 = 0 → ((¬ a2 = 1 → inI (a3 + 0) ∧ H_120_88 d P a1 a2 (a3 + 0) a4 0 M1) ∧ (a2 = 1 → (0 ≤ a4 ∧ a4 < 48) ∧ ((¬ (M1 90 a4) = (-9) → inI (a3 + 0) ∧ H_120_88 d P a1 a2 (a3 + 0) a4 0 M1) ∧ ((M1 90 a4) = (-9) → inI (a3 + 1) ∧ H_120_88 d P a1 a2 (a3 + 1) a4 0 M1)))))))))))) : H_120_37 d P a1 a2 a3 a4 M := by
  have hE := EE_mono d
  unfold H_120_37
  refine z_iload hE rfl rfl ?_
  refine z_aload hE rfl rfl rfl ?_
  refine z_getI hE (sl := 2) rfl shk_76 rfl rfl rfl ?_
  refine z_icmp_ge hE rfl ⟨fun q => ?_, fun q => ?_⟩
  · have h := h.1 q
    refine z_iload hE rfl rfl ?_
    exact z_iret hE rfl rfl h
  · have h := h.2 q
    refine z_aload hE rfl rfl rfl ?_
    refine z_iload hE rfl rfl ?_
    refine z_callvI hE rfl rfl rfl rfl rfl (Nat.le_of_ble_eq_true rfl) (by decide) ⟨rfl, rfl⟩ (EE_mono d _ _ _ _ _ (rI_mono fun r1 M1 h => ?_) h)
    refine z_iload hE rfl rfl ?_
    refine z_icmp_ne hE rfl ⟨fun q => ?_, fun q => ?_⟩
    · have h := h.1 q
      have hb := h.1
      have h := h.2
      refine z_iinc hE rfl rfl rfl hb ?_
      refine z_goto hE rfl ?_
      exact h
    · have h := h.2 q
      refine z_iload hE rfl rfl ?_
      refine z_iload hE rfl rfl ?_
      refine z_if_eq hE rfl ⟨fun q => ?_, fun q => ?_⟩
      · have h := h.1 q
        refine z_iconst hE rfl ?_
        refine z_goto hE rfl ?_
        have hb := h.1
        have h := h.2
        refine z_iadd hE rfl hb ?_
        refine z_istore hE rfl rfl rfl ?_
        refine z_iconst hE rfl ?_
        refine z_istore hE rfl rfl rfl ?_
        exact h
      · have h := h.2 q
        refine z_iload hE rfl rfl ?_
        refine z_iconst hE rfl ?_
        refine z_icmp_ne hE rfl ⟨fun q => ?_, fun q => ?_⟩
        · have h := h.1 q
          refine z_iconst hE rfl ?_
          have hb := h.1
          have h := h.2
          refine z_iadd hE rfl hb ?_
          refine z_istore hE rfl rfl rfl ?_
          refine z_iconst hE rfl ?_
          refine z_istore hE rfl rfl rfl ?_
          exact h
        · have h := h.2 q
          refine z_aload hE rfl rfl rfl ?_
          refine z_getR hE (q := 90) rfl shk_76 rfl rfl rfl ?_
          refine z_iload hE rfl rfl ?_
          have hb := h.1
          have h := h.2
          refine z_iald hE rfl shk_90 hb ?_
          refine z_iconst hE rfl ?_
          refine z_icmp_ne hE rfl ⟨fun q => ?_, fun q => ?_⟩
          · have h := h.1 q
            refine z_iconst hE rfl ?_
            have hb := h.1
            have h := h.2
            refine z_iadd hE rfl hb ?_
            refine z_istore hE rfl rfl rfl ?_
            refine z_iconst hE rfl ?_
            refine z_istore hE rfl rfl rfl ?_
            exact h
          · have h := h.2 q
            refine z_iconst hE rfl ?_
            refine z_goto hE rfl ?_
            have hb := h.1
            have h := h.2
            refine z_iadd hE rfl hb ?_
            refine z_istore hE rfl rfl rfl ?_
            refine z_iconst hE rfl ?_
            refine z_istore hE rfl rfl rfl ?_
            exact h
theorem sg_120_88 {d : Nat} {P : Int → Mm → Prop} {a1 : Int} {a2 : Int} {a3 : Int} {a4 : Int} {a5 : Int} {M : Mm} (h : ((a4 ≤ a5 → inI (a4 + 1) ∧ H_120_37 d P a1 a2 a3 (a4 + 1) M) ∧ (a5 < a4 → ((¬ a2 = 2 → inI (a4 + 1) ∧ H_120_37 d P a1 a2 a3 (a4 + 1) M) ∧ (a2 = 2 → EE d 144 [vR 76, vI a5] M (rI fun r1 M1 => ((¬ r1 = a1 → inI (a3 + 0) ∧ inI (a5 + 1) ∧ H_120_88 d P a1 a2 (a3 + 0) a4 (a5 + 1) M1) ∧ (r1 = a1 → EE d 152 [vR 76, vI a4, vI a5] M1 (rI fun r2 M2 => ((r2 = 0 → inI (a3 + 0) ∧ inI (a5 + 1) ∧ H_120_88 d P a1 a2 (a3 + 0) a4 (a5 + 1) M2) ∧ (¬ r2 = 0 → (0 ≤ a4 ∧ a4 < 48) ∧ (((M2 90 a4) = (-9) → inI (a3 + 1) ∧ inI (a5 + 1) ∧ H_120_88 d P a1 a2 (a3 + 1) a4 (a5 + 1) M2) ∧ (¬ (M2 90 a4) = (-9) → (0 ≤ a4 ∧ a4 < 48) ∧ (0 ≤ a5 ∧ a5 < 48) ∧ (((M2 90 a4) = (M2 90 a5) → inI (a3 + 0) ∧ inI (a5 + 1) ∧ H_120_88 d P a1 a2 (a3 + 0) a4 (a5 + 1) M2) ∧ (¬ (M2 90 a4) = (M2 90 a5) → inI (a3 + 1) ∧ inI (a5 + 1) ∧ H_120_88 d P a1 a2 (a3 + 1) a4 (a5 + 1) M2))))))))))))))) : H_120_88 d P a1 a2 a3 a4 a5 M := by
  have hE := EE_mono d
  unfold H_120_88
  refine z_iload hE rfl rfl ?_
  refine z_iload hE rfl rfl ?_
  refine z_icmp_ge hE rfl ⟨fun q => ?_, fun q => ?_⟩
  · have h := h.1 q
    have hb := h.1
    have h := h.2
    refine z_iinc hE rfl rfl rfl hb ?_
    refine z_goto hE rfl ?_
    exact GoG.weak hE (ls := [vR 76, vI a1, vI a2, vI a3, vI (a4 + 1), vU]) ⟨Or.inl rfl, Or.inl rfl, Or.inl rfl, Or.inl rfl, Or.inl rfl, Or.inr ⟨rfl, _, rfl⟩, trivial⟩ h
  · have h := h.2 q
    refine z_iload hE rfl rfl ?_
    refine z_iconst hE rfl ?_
    refine z_icmp_ne hE rfl ⟨fun q => ?_, fun q => ?_⟩
    · have h := h.1 q
      have hb := h.1
      have h := h.2
      refine z_iinc hE rfl rfl rfl hb ?_
      refine z_goto hE rfl ?_
      exact GoG.weak hE (ls := [vR 76, vI a1, vI a2, vI a3, vI (a4 + 1), vU]) ⟨Or.inl rfl, Or.inl rfl, Or.inl rfl, Or.inl rfl, Or.inl rfl, Or.inr ⟨rfl, _, rfl⟩, trivial⟩ h
    · have h := h.2 q
      refine z_iload hE rfl rfl ?_
      refine z_aload hE rfl rfl rfl ?_
      refine z_iload hE rfl rfl ?_
      refine z_callvI hE rfl rfl rfl rfl rfl (Nat.le_of_ble_eq_true rfl) (by decide) ⟨rfl, rfl⟩ (EE_mono d _ _ _ _ _ (rI_mono fun r1 M1 h => ?_) h)
      refine z_iload hE rfl rfl ?_
      refine z_icmp_ne hE rfl ⟨fun q => ?_, fun q => ?_⟩
      · have h := h.1 q
        refine z_iconst hE rfl ?_
        have hb := h.1
        have h := h.2
        refine z_iadd hE rfl hb ?_
        refine z_istore hE rfl rfl rfl ?_
        have hb := h.1
        have h := h.2
        refine z_iinc hE rfl rfl rfl hb ?_
        refine z_goto hE rfl ?_
        exact h
      · have h := h.2 q
        refine z_aload hE rfl rfl rfl ?_
        refine z_iload hE rfl rfl ?_
        refine z_iload hE rfl rfl ?_
        refine z_callvI hE rfl rfl rfl rfl rfl (Nat.le_of_ble_eq_true rfl) (by decide) ⟨rfl, rfl⟩ (EE_mono d _ _ _ _ _ (rI_mono fun r2 M2 h => ?_) h)
        refine z_if_eq hE rfl ⟨fun q => ?_, fun q => ?_⟩
        · have h := h.1 q
          refine z_iconst hE rfl ?_
          have hb := h.1
          have h := h.2
          refine z_iadd hE rfl hb ?_
          refine z_istore hE rfl rfl rfl ?_
          have hb := h.1
          have h := h.2
          refine z_iinc hE rfl rfl rfl hb ?_
          refine z_goto hE rfl ?_
          exact h
        · have h := h.2 q
          refine z_aload hE rfl rfl rfl ?_
          refine z_getR hE (q := 90) rfl shk_76 rfl rfl rfl ?_
          refine z_iload hE rfl rfl ?_
          have hb := h.1
          have h := h.2
          refine z_iald hE rfl shk_90 hb ?_
          refine z_iconst hE rfl ?_
          refine z_icmp_eq hE rfl ⟨fun q => ?_, fun q => ?_⟩
          · have h := h.1 q
            refine z_iconst hE rfl ?_
            refine z_goto hE rfl ?_
            have hb := h.1
            have h := h.2
            refine z_iadd hE rfl hb ?_
            refine z_istore hE rfl rfl rfl ?_
            have hb := h.1
            have h := h.2
            refine z_iinc hE rfl rfl rfl hb ?_
            refine z_goto hE rfl ?_
            exact h
          · have h := h.2 q
            refine z_aload hE rfl rfl rfl ?_
            refine z_getR hE (q := 90) rfl shk_76 rfl rfl rfl ?_
            refine z_iload hE rfl rfl ?_
            have hb := h.1
            have h := h.2
            refine z_iald hE rfl shk_90 hb ?_
            refine z_aload hE rfl rfl rfl ?_
            refine z_getR hE (q := 90) rfl shk_76 rfl rfl rfl ?_
            refine z_iload hE rfl rfl ?_
            have hb := h.1
            have h := h.2
            refine z_iald hE rfl shk_90 hb ?_
            refine z_icmp_eq hE rfl ⟨fun q => ?_, fun q => ?_⟩
            · have h := h.1 q
              refine z_iconst hE rfl ?_
              have hb := h.1
              have h := h.2
              refine z_iadd hE rfl hb ?_
              refine z_istore hE rfl rfl rfl ?_
              have hb := h.1
              have h := h.2
              refine z_iinc hE rfl rfl rfl hb ?_
              refine z_goto hE rfl ?_
              exact h
            · have h := h.2 q
              refine z_iconst hE rfl ?_
              refine z_goto hE rfl ?_
              have hb := h.1
              have h := h.2
              refine z_iadd hE rfl hb ?_
              refine z_istore hE rfl rfl rfl ?_
              have hb := h.1
              have h := h.2
              refine z_iinc hE rfl rfl rfl hb ?_
              refine z_goto hE rfl ?_
              exact h
/-! 121: ChildTrainsModel.chosen(I)I -/
theorem mN_121 : mN 121 = 2 := by decide +kernel
theorem ee_121 {d : Nat} {Q : Ql} {a1 : Int} {M : Mm} (h : GoG false (EE d) cd_121 Q 0 [vR 76, vI a1] [] M) : EE (d + 1) 121 [vR 76, vI a1] M Q := by
  have e : cdTab 121 = cd_121 := rfl
  unfold EE; rw [mN_121, e]; exact ⟨Nat.le_of_ble_eq_true rfl, h⟩
theorem sg_121 {d : Nat} {P : Int → Mm → Prop} {a1 : Int} {M : Mm} (h : EE d 141 [vR 76, vI a1] (mset M 76 0 0) (rI fun r1 M1 => ((¬ r1 = 0 → EE d 142 [vR 76] M1 (rV fun M2 => (0 ≤ a1 ∧ a1 < 48) ∧ ((¬ (M2 85 a1) = (-9) → EE d 144 [vR 76, vI a1] M2 (rI fun r3 M3 => EE d 147 [vR 76, vI r3] M3 (rV fun M4 => (0 ≤ a1 ∧ a1 < 48) ∧ P (M4 90 a1) M4))) ∧ ((M2 85 a1) = (-9) → P (-9) M2)))) ∧ (r1 = 0 → P (-1) M1)))) : EE (d + 1) 121 [vR 76, vI a1] M (rI P) := by
  have hE := EE_mono d
  refine ee_121 ?_
  refine z_aload hE rfl rfl rfl ?_
  refine z_iconst hE rfl ?_
  refine z_putI hE (sl := 0) rfl shk_76 rfl rfl rfl ?_
  refine z_aload hE rfl rfl rfl ?_
  refine z_iload hE rfl rfl ?_
  refine z_callvI hE rfl rfl rfl rfl rfl (Nat.le_of_ble_eq_true rfl) (by decide) ⟨rfl, rfl⟩ (EE_mono d _ _ _ _ _ (rI_mono fun r1 M1 h => ?_) h)
  refine z_if_ne hE rfl ⟨fun q => ?_, fun q => ?_⟩
  · have h := h.1 q
    refine z_aload hE rfl rfl rfl ?_
    refine z_callvV hE rfl rfl rfl rfl rfl (Nat.le_of_ble_eq_true rfl) (by decide) ⟨rfl, rfl⟩ (EE_mono d _ _ _ _ _ (rV_mono fun M2 h => ?_) h)
    refine z_aload hE rfl rfl rfl ?_
    refine z_getR hE (q := 85) rfl shk_76 rfl rfl rfl ?_
    refine z_iload hE rfl rfl ?_
    have hb := h.1
    have h := h.2
    refine z_iald hE rfl shk_85 hb ?_
    refine z_iconst hE rfl ?_
    refine z_icmp_ne hE rfl ⟨fun q => ?_, fun q => ?_⟩
    · have h := h.1 q
      refine z_aload hE rfl rfl rfl ?_
      refine z_aload hE rfl rfl rfl ?_
      refine z_iload hE rfl rfl ?_
      refine z_callvI hE rfl rfl rfl rfl rfl (Nat.le_of_ble_eq_true rfl) (by decide) ⟨rfl, rfl⟩ (EE_mono d _ _ _ _ _ (rI_mono fun r3 M3 h => ?_) h)
      refine z_callvV hE rfl rfl rfl rfl rfl (Nat.le_of_ble_eq_true rfl) (by decide) ⟨rfl, rfl⟩ (EE_mono d _ _ _ _ _ (rV_mono fun M4 h => ?_) h)
      refine z_aload hE rfl rfl rfl ?_
      refine z_getR hE (q := 90) rfl shk_76 rfl rfl rfl ?_
      refine z_iload hE rfl rfl ?_
      have hb := h.1
      have h := h.2
      refine z_iald hE rfl shk_90 hb ?_
      exact z_iret hE rfl rfl h
    · have h := h.2 q
      refine z_iconst hE rfl ?_
      exact z_iret hE rfl rfl h
  · have h := h.2 q
    refine z_iconst hE rfl ?_
    exact z_iret hE rfl rfl h
/-! 122: ChildTrainsModel.best(II)I -/
def H_122_32 (d : Nat) (P : Int → Mm → Prop) (a1 : Int) (a2 : Int) (a3 : Int) (a4 : Int) (M : Mm) : Prop := GoG false (EE d) cd_122 (rI P) 32 [vR 76, vI a1, vI a2, vI a3, vI a4, vU, vU, vU, vU] [] M
def H_122_77 (d : Nat) (P : Int → Mm → Prop) (a1 : Int) (a2 : Int) (a3 : Int) (a4 : Int) (a5 : Int) (a6 : Int) (M : Mm) : Prop := GoG false (EE d) cd_122 (rI P) 77 [vR 76, vI a1, vI a2, vI a3, vI a4, vI a5, vI a6, vU, vU] [] M
def H_122_136 (d : Nat) (P : Int → Mm → Prop) (a2 : Int) (a3 : Int) (a4 : Int) (a5 : Int) (a6 : Int) (M : Mm) : Prop := GoG false (EE d) cd_122 (rI P) 136 [vR 76, vU, vI a2, vI a3, vI a4, vI a5, vI a6, vU, vU] [] M
def H_122_181 (d : Nat) (P : Int → Mm → Prop) (a2 : Int) (a3 : Int) (a4 : Int) (a5 : Int) (a6 : Int) (M : Mm) : Prop := GoG false (EE d) cd_122 (rI P) 181 [vR 76, vU, vI a2, vI a3, vI a4, vI a5, vI a6, vU, vU] [] M
def H_122_215 (d : Nat) (P : Int → Mm → Prop) (a2 : Int) (a3 : Int) (a4 : Int) (a5 : Int) (a6 : Int) (M : Mm) : Prop := GoG false (EE d) cd_122 (rI P) 215 [vR 76, vU, vI a2, vI a3, vI a4, vI a5, vI a6, vU, vU] [] M
def H_122_238 (d : Nat) (P : Int → Mm → Prop) (a2 : Int) (a3 : Int) (a4 : Int) (a5 : Int) (a6 : Int) (M : Mm) : Prop := GoG false (EE d) cd_122 (rI P) 238 [vR 76, vU, vI a2, vI a3, vI a4, vI a5, vI a6, vU, vU] [] M
def H_122_260 (d : Nat) (P : Int → Mm → Prop) (a2 : Int) (a3 : Int) (a4 : Int) (a5 : Int) (a6 : Int) (a7 : Int) (a8 : Int) (M : Mm) : Prop := GoG false (EE d) cd_122 (rI P) 260 [vR 76, vU, vI a2, vI a3, vI a4, vI a5, vI a6, vI a7, vI a8] [] M
def H_122_284 (d : Nat) (P : Int → Mm → Prop) (a2 : Int) (a3 : Int) (a4 : Int) (a5 : Int) (a6 : Int) (a7 : Int) (a8 : Int) (M : Mm) : Prop := GoG false (EE d) cd_122 (rI P) 284 [vR 76, vU, vI a2, vI a3, vI a4, vI a5, vI a6, vI a7, vI a8] [] M
def H_122_318 (d : Nat) (P : Int → Mm → Prop) (a2 : Int) (a3 : Int) (a4 : Int) (a5 : Int) (a6 : Int) (a7 : Int) (a8 : Int) (M : Mm) : Prop := GoG false (EE d) cd_122 (rI P) 318 [vR 76, vU, vI a2, vI a3, vI a4, vI a5, vI a6, vI a7, vI a8] [] M
def H_122_378 (d : Nat) (P : Int → Mm → Prop) (a2 : Int) (a5 : Int) (a6 : Int) (a7 : Int) (M : Mm) : Prop := GoG false (EE d) cd_122 (rI P) 378 [vR 76, vU, vI a2, vU, vU, vI a5, vI a6, vI a7, vU] [] M
theorem mN_122 : mN 122 = 9 := by decide +kernel
theorem ee_122 {d : Nat} {Q : Ql} {a1 : Int} {a2 : Int} {M : Mm} (h : GoG false (EE d) cd_122 Q 0 [vR 76, vI a1, vI a2, vU, vU, vU, vU, vU, vU] [] M) : EE (d + 1) 122 [vR 76, vI a1, vI a2] M Q := by
  have e : cdTab 122 = cd_122 := rfl
  unfold EE; rw [mN_122, e]; exact ⟨Nat.le_of_ble_eq_true rfl, h⟩
theorem sg_122 {d : Nat} {P : Int → Mm → Prop} {a1 : Int} {a2 : Int} {M : Mm} (h : EE d 145 [vI a1] (mset M 76 0 0) (rI fun r1 M1 => ((r1 = 0 → P (-1) M1) ∧ (¬ r1 = 0 → EE d 140 [vI a2, vI 0, vI 1] M1 (rI fun r2 M2 => ((¬ r2 = 0 → EE d 142 [vR 76] M2 (rV fun M3 => H_122_32 d P a1 a2 0 0 M3)) ∧ (r2 = 0 → P (-1) M2))))))) : EE (d + 1) 122 [vR 76, vI a1, vI a2] M (rI P) := by
  have hE := EE_mono d
  refine ee_122 ?_
  refine z_aload hE rfl rfl rfl ?_
  refine z_iconst hE rfl ?_
  refine z_putI hE (sl := 0) rfl shk_76 rfl rfl rfl ?_
  refine z_iload hE rfl rfl ?_
  refine z_callsI hE rfl rfl rfl rfl rfl (Nat.le_of_ble_eq_true rfl) (by decide) (EE_mono d _ _ _ _ _ (rI_mono fun r1 M1 h => ?_) h)
  refine z_if_eq hE rfl ⟨fun q => ?_, fun q => ?_⟩
  · have h := h.1 q
    refine z_iconst hE rfl ?_
    exact z_iret hE rfl rfl h
  · have h := h.2 q
    refine z_iload hE rfl rfl ?_
    refine z_iconst hE rfl ?_
    refine z_iconst hE rfl ?_
    refine z_callsI hE rfl rfl rfl rfl rfl (Nat.le_of_ble_eq_true rfl) (by decide) (EE_mono d _ _ _ _ _ (rI_mono fun r2 M2 h => ?_) h)
    refine z_if_ne hE rfl ⟨fun q => ?_, fun q => ?_⟩
    · have h := h.1 q
      refine z_aload hE rfl rfl rfl ?_
      refine z_callvV hE rfl rfl rfl rfl rfl (Nat.le_of_ble_eq_true rfl) (by decide) ⟨rfl, rfl⟩ (EE_mono d _ _ _ _ _ (rV_mono fun M3 h => ?_) h)
      refine z_iconst hE rfl ?_
      refine z_istore hE rfl rfl rfl ?_
      refine z_iconst hE rfl ?_
      refine z_istore hE rfl rfl rfl ?_
      exact h
    · have h := h.2 q
      refine z_iconst hE rfl ?_
      exact z_iret hE rfl rfl h
theorem sg_122_32 {d : Nat} {P : Int → Mm → Prop} {a1 : Int} {a2 : Int} {a3 : Int} {a4 : Int} {M : Mm} (h : (((M 76 2) ≤ a4 → H_122_77 d P a1 a2 a3 0 1 0 M) ∧ (a4 < (M 76 2) → EE d 144 [vR 76, vI a4] M (rI fun r1 M1 => ((¬ r1 = a1 → inI (a4 + 1) ∧ H_122_32 d P a1 a2 a3 (a4 + 1) M1) ∧ (r1 = a1 → (0 ≤ a3 ∧ a3 < 48) ∧ inI (a3 + 1) ∧ inI (a4 + 1) ∧ H_122_32 d P a1 a2 (a3 + 1) (a4 + 1) (mset M1 99 a3 a4))))))) : H_122_32 d P a1 a2 a3 a4 M := by
  have hE := EE_mono d
  unfold H_122_32
  refine z_iload hE rfl rfl ?_
  refine z_aload hE rfl rfl rfl ?_
  refine z_getI hE (sl := 2) rfl shk_76 rfl rfl rfl ?_
  refine z_icmp_ge hE rfl ⟨fun q => ?_, fun q => ?_⟩
  · have h := h.1 q
    refine z_iconst hE rfl ?_
    refine z_istore hE rfl rfl rfl ?_
    refine z_iconst hE rfl ?_
    refine z_istore hE rfl rfl rfl ?_
    refine z_iconst hE rfl ?_
    refine z_istore hE rfl rfl rfl ?_
    exact h
  · have h := h.2 q
    refine z_aload hE rfl rfl rfl ?_
    refine z_iload hE rfl rfl ?_
    refine z_callvI hE rfl rfl rfl rfl rfl (Nat.le_of_ble_eq_true rfl) (by decide) ⟨rfl, rfl⟩ (EE_mono d _ _ _ _ _ (rI_mono fun r1 M1 h => ?_) h)
    refine z_iload hE rfl rfl ?_
    refine z_icmp_ne hE rfl ⟨fun q => ?_, fun q => ?_⟩
    · have h := h.1 q
      have hb := h.1
      have h := h.2
      refine z_iinc hE rfl rfl rfl hb ?_
      refine z_goto hE rfl ?_
      exact h
    · have h := h.2 q
      refine z_aload hE rfl rfl rfl ?_
      refine z_getR hE (q := 99) rfl shk_76 rfl rfl rfl ?_
      refine z_iload hE rfl rfl ?_
      refine z_iload hE rfl rfl ?_
      have hb := h.1
      have h := h.2
      refine z_iast hE rfl shk_99 hb ?_
      have hb := h.1
      have h := h.2
      refine z_iinc hE rfl rfl rfl hb ?_
      have hb := h.1
      have h := h.2
      refine z_iinc hE rfl rfl rfl hb ?_
      refine z_goto hE rfl ?_
      exact h
theorem sg_122_77 {d : Nat} {P : Int → Mm → Prop} {a1 : Int} {a2 : Int} {a3 : Int} {a4 : Int} {a5 : Int} {a6 : Int} {M : Mm} (h : (((M 76 16) ≤ a6 → ((12 < a3 → P (-2) M) ∧ (a3 ≤ 12 → ((a4 ≤ 6 → H_122_136 d P a2 a3 a4 a5 0 M) ∧ (6 < a4 → P (-2) M))))) ∧ (a6 < (M 76 16) → inI (5 * a6) ∧ (0 ≤ (5 * a6) ∧ (5 * a6) < 120) ∧ ((¬ (M 89 (5 * a6)) = a1 → inI (a6 + 1) ∧ H_122_77 d P a1 a2 a3 a4 a5 (a6 + 1) M) ∧ ((M 89 (5 * a6)) = a1 → (0 ≤ a4 ∧ a4 < 24) ∧ inI (a4 + 1) ∧ inI (a6 + 1) ∧ H_122_77 d P a1 a2 a3 (a4 + 1) a5 (a6 + 1) (mset M 100 a4 a6)))))) : H_122_77 d P a1 a2 a3 a4 a5 a6 M := by
  have hE := EE_mono d
  unfold H_122_77
  refine z_iload hE rfl rfl ?_
  refine z_aload hE rfl rfl rfl ?_
  refine z_getI hE (sl := 16) rfl shk_76 rfl rfl rfl ?_
  refine z_icmp_ge hE rfl ⟨fun q => ?_, fun q => ?_⟩
  · have h := h.1 q
    refine z_iload hE rfl rfl ?_
    refine z_iconst hE rfl ?_
    refine z_icmp_gt hE rfl ⟨fun q => ?_, fun q => ?_⟩
    · have h := h.1 q
      refine z_iconst hE rfl ?_
      exact z_iret hE rfl rfl h
    · have h := h.2 q
      refine z_iload hE rfl rfl ?_
      refine z_iconst hE rfl ?_
      refine z_icmp_le hE rfl ⟨fun q => ?_, fun q => ?_⟩
      · have h := h.1 q
        refine z_iconst hE rfl ?_
        refine z_istore hE rfl rfl rfl ?_
        exact GoG.weak hE (ls := [vR 76, vU, vI a2, vI a3, vI a4, vI a5, vI 0, vU, vU]) ⟨Or.inl rfl, Or.inr ⟨rfl, _, rfl⟩, Or.inl rfl, Or.inl rfl, Or.inl rfl, Or.inl rfl, Or.inl rfl, Or.inl rfl, Or.inl rfl, trivial⟩ h
      · have h := h.2 q
        refine z_iconst hE rfl ?_
        exact z_iret hE rfl rfl h
  · have h := h.2 q
    refine z_aload hE rfl rfl rfl ?_
    refine z_getR hE (q := 89) rfl shk_76 rfl rfl rfl ?_
    refine z_iconst hE rfl ?_
    refine z_iload hE rfl rfl ?_
    have hb := h.1
    have h := h.2
    refine z_imul hE rfl hb ?_
    have hb := h.1
    have h := h.2
    refine z_iald hE rfl shk_89 hb ?_
    refine z_iload hE rfl rfl ?_
    refine z_icmp_ne hE rfl ⟨fun q => ?_, fun q => ?_⟩
    · have h := h.1 q
      have hb := h.1
      have h := h.2
      refine z_iinc hE rfl rfl rfl hb ?_
      refine z_goto hE rfl ?_
      exact h
    · have h := h.2 q
      refine z_aload hE rfl rfl rfl ?_
      refine z_getR hE (q := 100) rfl shk_76 rfl rfl rfl ?_
      refine z_iload hE rfl rfl ?_
      refine z_iload hE rfl rfl ?_
      have hb := h.1
      have h := h.2
      refine z_iast hE rfl shk_100 hb ?_
      have hb := h.1
      have h := h.2
      refine z_iinc hE rfl rfl rfl hb ?_
      have hb := h.1
      have h := h.2
      refine z_iinc hE rfl rfl rfl hb ?_
      refine z_goto hE rfl ?_
      exact h
theorem sg_122_136 {d : Nat} {P : Int → Mm → Prop} {a2 : Int} {a3 : Int} {a4 : Int} {a5 : Int} {a6 : Int} {M : Mm} (h : ((a4 ≤ a6 → H_122_181 d P a2 a3 a4 a5 0 M) ∧ (a6 < a4 → (0 ≤ a6 ∧ a6 < 24) ∧ inI (5 * (M 100 a6)) ∧ inI ((5 * (M 100 a6)) + 2) ∧ (0 ≤ ((5 * (M 100 a6)) + 2) ∧ ((5 * (M 100 a6)) + 2) < 120) ∧ (0 ≤ a6 ∧ a6 < 6) ∧ inI (a5 * 5) ∧ inI (a6 + 1) ∧ H_122_136 d P a2 a3 a4 (a5 * 5) (a6 + 1) (mset M 101 a6 (M 89 ((5 * (M 100 a6)) + 2)))))) : H_122_136 d P a2 a3 a4 a5 a6 M := by
  have hE := EE_mono d
  unfold H_122_136
  refine z_iload hE rfl rfl ?_
  refine z_iload hE rfl rfl ?_
  refine z_icmp_ge hE rfl ⟨fun q => ?_, fun q => ?_⟩
  · have h := h.1 q
    refine z_iconst hE rfl ?_
    refine z_istore hE rfl rfl rfl ?_
    exact h
  · have h := h.2 q
    refine z_aload hE rfl rfl rfl ?_
    refine z_getR hE (q := 101) rfl shk_76 rfl rfl rfl ?_
    refine z_iload hE rfl rfl ?_
    refine z_aload hE rfl rfl rfl ?_
    refine z_getR hE (q := 89) rfl shk_76 rfl rfl rfl ?_
    refine z_iconst hE rfl ?_
    refine z_aload hE rfl rfl rfl ?_
    refine z_getR hE (q := 100) rfl shk_76 rfl rfl rfl ?_
    refine z_iload hE rfl rfl ?_
    have hb := h.1
    have h := h.2
    refine z_iald hE rfl shk_100 hb ?_
    have hb := h.1
    have h := h.2
    refine z_imul hE rfl hb ?_
    refine z_iconst hE rfl ?_
    have hb := h.1
    have h := h.2
    refine z_iadd hE rfl hb ?_
    have hb := h.1
    have h := h.2
    refine z_iald hE rfl shk_89 hb ?_
    have hb := h.1
    have h := h.2
    refine z_iast hE rfl shk_101 hb ?_
    refine z_iload hE rfl rfl ?_
    refine z_iconst hE rfl ?_
    have hb := h.1
    have h := h.2
    refine z_imul hE rfl hb ?_
    refine z_istore hE rfl rfl rfl ?_
    have hb := h.1
    have h := h.2
    refine z_iinc hE rfl rfl rfl hb ?_
    refine z_goto hE rfl ?_
    exact h
theorem sg_122_181 {d : Nat} {P : Int → Mm → Prop} {a2 : Int} {a3 : Int} {a4 : Int} {a5 : Int} {a6 : Int} {M : Mm} (h : ((a5 ≤ a6 → H_122_215 d P a2 a3 a4 a5 0 M) ∧ (a6 < a5 → ((¬ a6 = 0 → (0 ≤ a6 ∧ a6 < 15625) ∧ inI (a6 + 1) ∧ H_122_181 d P a2 a3 a4 a5 (a6 + 1) (mset M 102 a6 1000000)) ∧ (a6 = 0 → (0 ≤ a6 ∧ a6 < 15625) ∧ inI (a6 + 1) ∧ H_122_181 d P a2 a3 a4 a5 (a6 + 1) (mset M 102 a6 0)))))) : H_122_181 d P a2 a3 a4 a5 a6 M := by
  have hE := EE_mono d
  unfold H_122_181
  refine z_iload hE rfl rfl ?_
  refine z_iload hE rfl rfl ?_
  refine z_icmp_ge hE rfl ⟨fun q => ?_, fun q => ?_⟩
  · have h := h.1 q
    refine z_iconst hE rfl ?_
    refine z_istore hE rfl rfl rfl ?_
    exact h
  · have h := h.2 q
    refine z_aload hE rfl rfl rfl ?_
    refine z_getR hE (q := 102) rfl shk_76 rfl rfl rfl ?_
    refine z_iload hE rfl rfl ?_
    refine z_iload hE rfl rfl ?_
    refine z_if_ne hE rfl ⟨fun q => ?_, fun q => ?_⟩
    · have h := h.1 q
      refine z_iconst hE rfl ?_
      have hb := h.1
      have h := h.2
      refine z_iast hE rfl shk_102 hb ?_
      have hb := h.1
      have h := h.2
      refine z_iinc hE rfl rfl rfl hb ?_
      refine z_goto hE rfl ?_
      exact h
    · have h := h.2 q
      refine z_iconst hE rfl ?_
      refine z_goto hE rfl ?_
      have hb := h.1
      have h := h.2
      refine z_iast hE rfl shk_102 hb ?_
      have hb := h.1
      have h := h.2
      refine z_iinc hE rfl rfl rfl hb ?_
      refine z_goto hE rfl ?_
      exact h
theorem sg_122_215 {d : Nat} {P : Int → Mm → Prop} {a2 : Int} {a3 : Int} {a4 : Int} {a5 : Int} {a6 : Int} {M : Mm} (h : ((a3 ≤ a6 → H_122_238 d P a2 a3 a4 a5 0 M) ∧ (a6 < a3 → (0 ≤ a6 ∧ a6 < 48) ∧ inI (a6 + 1) ∧ H_122_215 d P a2 a3 a4 a5 (a6 + 1) (mset M 107 a6 0)))) : H_122_215 d P a2 a3 a4 a5 a6 M := by
  have hE := EE_mono d
  unfold H_122_215
  refine z_iload hE rfl rfl ?_
  refine z_iload hE rfl rfl ?_
  refine z_icmp_ge hE rfl ⟨fun q => ?_, fun q => ?_⟩
  · have h := h.1 q
    refine z_iconst hE rfl ?_
    refine z_istore hE rfl rfl rfl ?_
    exact h
  · have h := h.2 q
    refine z_aload hE rfl rfl rfl ?_
    refine z_getR hE (q := 107) rfl shk_76 rfl rfl rfl ?_
    refine z_iload hE rfl rfl ?_
    refine z_iconst hE rfl ?_
    have hb := h.1
    have h := h.2
    refine z_bast hE rfl shk_107 (Or.inl rfl) hb ?_
    have hb := h.1
    have h := h.2
    refine z_iinc hE rfl rfl rfl hb ?_
    refine z_goto hE rfl ?_
    exact h
theorem sg_122_238 {d : Nat} {P : Int → Mm → Prop} {a2 : Int} {a3 : Int} {a4 : Int} {a5 : Int} {a6 : Int} {M : Mm} (h : ((a3 ≤ a6 → H_122_378 d P a2 a5 1000000 0 M) ∧ (a6 < a3 → (0 ≤ a6 ∧ a6 < 48) ∧ ((¬ (M 107 a6) = 0 → inI (a6 + 1) ∧ H_122_238 d P a2 a3 a4 a5 (a6 + 1) M) ∧ ((M 107 a6) = 0 → H_122_260 d P a2 a3 a4 a5 a6 0 0 M))))) : H_122_238 d P a2 a3 a4 a5 a6 M := by
  have hE := EE_mono d
  unfold H_122_238
  refine z_iload hE rfl rfl ?_
  refine z_iload hE rfl rfl ?_
  refine z_icmp_ge hE rfl ⟨fun q => ?_, fun q => ?_⟩
  · have h := h.1 q
    refine z_iconst hE rfl ?_
    refine z_istore hE rfl rfl rfl ?_
    refine z_iconst hE rfl ?_
    refine z_istore hE rfl rfl rfl ?_
    exact GoG.weak hE (ls := [vR 76, vU, vI a2, vU, vU, vI a5, vI 1000000, vI 0, vU]) ⟨Or.inl rfl, Or.inl rfl, Or.inl rfl, Or.inr ⟨rfl, _, rfl⟩, Or.inr ⟨rfl, _, rfl⟩, Or.inl rfl, Or.inl rfl, Or.inl rfl, Or.inl rfl, trivial⟩ h
  · have h := h.2 q
    refine z_aload hE rfl rfl rfl ?_
    refine z_getR hE (q := 107) rfl shk_76 rfl rfl rfl ?_
    refine z_iload hE rfl rfl ?_
    have hb := h.1
    have h := h.2
    refine z_bald hE rfl shk_107 hb ?_
    refine z_if_ne hE rfl ⟨fun q => ?_, fun q => ?_⟩
    · have h := h.1 q
      have hb := h.1
      have h := h.2
      refine z_iinc hE rfl rfl rfl hb ?_
      refine z_goto hE rfl ?_
      exact h
    · have h := h.2 q
      refine z_iconst hE rfl ?_
      refine z_istore hE rfl rfl rfl ?_
      refine z_iconst hE rfl ?_
      refine z_istore hE rfl rfl rfl ?_
      exact h
theorem sg_122_260 {d : Nat} {P : Int → Mm → Prop} {a2 : Int} {a3 : Int} {a4 : Int} {a5 : Int} {a6 : Int} {a7 : Int} {a8 : Int} {M : Mm} (h : ((4 ≤ a8 → H_122_284 d P a2 a3 a4 a5 a6 a7 a6 M) ∧ (a8 < 4 → (0 ≤ a8 ∧ a8 < 4) ∧ inI (a8 + 1) ∧ H_122_260 d P a2 a3 a4 a5 a6 a7 (a8 + 1) (mset M 106 a8 0)))) : H_122_260 d P a2 a3 a4 a5 a6 a7 a8 M := by
  have hE := EE_mono d
  unfold H_122_260
  refine z_iload hE rfl rfl ?_
  refine z_iconst hE rfl ?_
  refine z_icmp_ge hE rfl ⟨fun q => ?_, fun q => ?_⟩
  · have h := h.1 q
    refine z_iload hE rfl rfl ?_
    refine z_istore hE rfl rfl rfl ?_
    exact h
  · have h := h.2 q
    refine z_aload hE rfl rfl rfl ?_
    refine z_getR hE (q := 106) rfl shk_76 rfl rfl rfl ?_
    refine z_iload hE rfl rfl ?_
    refine z_iconst hE rfl ?_
    have hb := h.1
    have h := h.2
    refine z_iast hE rfl shk_106 hb ?_
    have hb := h.1
    have h := h.2
    refine z_iinc hE rfl rfl rfl hb ?_
    refine z_goto hE rfl ?_
    exact h
theorem sg_122_284 {d : Nat} {P : Int → Mm → Prop} {a2 : Int} {a3 : Int} {a4 : Int} {a5 : Int} {a6 : Int} {a7 : Int} {a8 : Int} {M : Mm} (h : ((a3 ≤ a8 → EE d 153 [vR 76, vI a7, vI a4, vI a5] M (rV fun M1 => inI (a6 + 1) ∧ H_122_238 d P a2 a3 a4 a5 (a6 + 1) M1)) ∧ (a8 < a3 → ((a8 = a6 → H_122_318 d P a2 a3 a4 a5 a6 a7 a8 M) ∧ (¬ a8 = a6 → (0 ≤ a6 ∧ a6 < 48) ∧ (0 ≤ a8 ∧ a8 < 48) ∧ EE d 152 [vR 76, vI (M 99 a6), vI (M 99 a8)] M (rI fun r2 M2 => ((r2 = 0 → inI (a8 + 1) ∧ H_122_284 d P a2 a3 a4 a5 a6 a7 (a8 + 1) M2) ∧ (¬ r2 = 0 → H_122_318 d P a2 a3 a4 a5 a6 a7 a8 M2)))))))) : H_122_284 d P a2 a3 a4 a5 a6 a7 a8 M := by
  have hE := EE_mono d
  unfold H_122_284
  refine z_iload hE rfl rfl ?_
  refine z_iload hE rfl rfl ?_
  refine z_icmp_ge hE rfl ⟨fun q => ?_, fun q => ?_⟩
  · have h := h.1 q
    refine z_aload hE rfl rfl rfl ?_
    refine z_iload hE rfl rfl ?_
    refine z_iload hE rfl rfl ?_
    refine z_iload hE rfl rfl ?_
    refine z_callvV hE rfl rfl rfl rfl rfl (Nat.le_of_ble_eq_true rfl) (by decide) ⟨rfl, rfl⟩ (EE_mono d _ _ _ _ _ (rV_mono fun M1 h => ?_) h)
    have hb := h.1
    have h := h.2
    refine z_iinc hE rfl rfl rfl hb ?_
    refine z_goto hE rfl ?_
    exact GoG.weak hE (ls := [vR 76, vU, vI a2, vI a3, vI a4, vI a5, vI (a6 + 1), vU, vU]) ⟨Or.inl rfl, Or.inl rfl, Or.inl rfl, Or.inl rfl, Or.inl rfl, Or.inl rfl, Or.inl rfl, Or.inr ⟨rfl, _, rfl⟩, Or.inr ⟨rfl, _, rfl⟩, trivial⟩ h
  · have h := h.2 q
    refine z_iload hE rfl rfl ?_
    refine z_iload hE rfl rfl ?_
    refine z_icmp_eq hE rfl ⟨fun q => ?_, fun q => ?_⟩
    · have h := h.1 q
      exact h
    · have h := h.2 q
      refine z_aload hE rfl rfl rfl ?_
      refine z_aload hE rfl rfl rfl ?_
      refine z_getR hE (q := 99) rfl shk_76 rfl rfl rfl ?_
      refine z_iload hE rfl rfl ?_
      have hb := h.1
      have h := h.2
      refine z_iald hE rfl shk_99 hb ?_
      refine z_aload hE rfl rfl rfl ?_
      refine z_getR hE (q := 99) rfl shk_76 rfl rfl rfl ?_
      refine z_iload hE rfl rfl ?_
      have hb := h.1
      have h := h.2
      refine z_iald hE rfl shk_99 hb ?_
      refine z_callvI hE rfl rfl rfl rfl rfl (Nat.le_of_ble_eq_true rfl) (by decide) ⟨rfl, rfl⟩ (EE_mono d _ _ _ _ _ (rI_mono fun r2 M2 h => ?_) h)
      refine z_if_eq hE rfl ⟨fun q => ?_, fun q => ?_⟩
      · have h := h.1 q
        have hb := h.1
        have h := h.2
        refine z_iinc hE rfl rfl rfl hb ?_
        refine z_goto hE rfl ?_
        exact h
      · have h := h.2 q
        exact h
theorem sg_122_318 {d : Nat} {P : Int → Mm → Prop} {a2 : Int} {a3 : Int} {a4 : Int} {a5 : Int} {a6 : Int} {a7 : Int} {a8 : Int} {M : Mm} (h : (0 ≤ a8 ∧ a8 < 48) ∧ (0 ≤ a8 ∧ a8 < 48) ∧ EE d 149 [vR 76, vI (M 99 a8)] (mset M 107 a8 1) (rI fun r1 M1 => (0 ≤ r1 ∧ r1 < 4) ∧ inI ((M1 106 r1) + 1) ∧ (0 ≤ r1 ∧ r1 < 4) ∧ inI (a7 + 1) ∧ inI (a8 + 1) ∧ H_122_284 d P a2 a3 a4 a5 a6 (a7 + 1) (a8 + 1) (mset M1 106 r1 ((M1 106 r1) + 1)))) : H_122_318 d P a2 a3 a4 a5 a6 a7 a8 M := by
  have hE := EE_mono d
  unfold H_122_318
  refine z_aload hE rfl rfl rfl ?_
  refine z_getR hE (q := 107) rfl shk_76 rfl rfl rfl ?_
  refine z_iload hE rfl rfl ?_
  refine z_iconst hE rfl ?_
  have hb := h.1
  have h := h.2
  refine z_bast hE rfl shk_107 (Or.inr rfl) hb ?_
  refine z_aload hE rfl rfl rfl ?_
  refine z_getR hE (q := 106) rfl shk_76 rfl rfl rfl ?_
  refine z_aload hE rfl rfl rfl ?_
  refine z_aload hE rfl rfl rfl ?_
  refine z_getR hE (q := 99) rfl shk_76 rfl rfl rfl ?_
  refine z_iload hE rfl rfl ?_
  have hb := h.1
  have h := h.2
  refine z_iald hE rfl shk_99 hb ?_
  refine z_callvI hE rfl rfl rfl rfl rfl (Nat.le_of_ble_eq_true rfl) (by decide) ⟨rfl, rfl⟩ (EE_mono d _ _ _ _ _ (rI_mono fun r1 M1 h => ?_) h)
  refine z_dup2 hE rfl rfl rfl ?_
  have hb := h.1
  have h := h.2
  refine z_iald hE rfl shk_106 hb ?_
  refine z_iconst hE rfl ?_
  have hb := h.1
  have h := h.2
  refine z_iadd hE rfl hb ?_
  have hb := h.1
  have h := h.2
  refine z_iast hE rfl shk_106 hb ?_
  have hb := h.1
  have h := h.2
  refine z_iinc hE rfl rfl rfl hb ?_
  have hb := h.1
  have h := h.2
  refine z_iinc hE rfl rfl rfl hb ?_
  refine z_goto hE rfl ?_
  exact h
theorem sg_122_378 {d : Nat} {P : Int → Mm → Prop} {a2 : Int} {a5 : Int} {a6 : Int} {a7 : Int} {M : Mm} (h : ((a5 ≤ a7 → ((¬ a2 = 0 → (0 ≤ a6 ∧ a6 ≤ 2147483647 ∧ (0 : Int) < 1000) ∧ P (a6 % 1000) M) ∧ (a2 = 0 → (0 ≤ a6 ∧ a6 ≤ 2147483647 ∧ (0 : Int) < 1000) ∧ P (a6 / 1000) M))) ∧ (a7 < a5 → (0 ≤ a7 ∧ a7 < 15625) ∧ ((a6 ≤ (M 102 a7) → inI (a7 + 1) ∧ H_122_378 d P a2 a5 a6 (a7 + 1) M) ∧ ((M 102 a7) < a6 → (0 ≤ a7 ∧ a7 < 15625) ∧ inI (a7 + 1) ∧ H_122_378 d P a2 a5 (M 102 a7) (a7 + 1) M))))) : H_122_378 d P a2 a5 a6 a7 M := by
  have hE := EE_mono d
  unfold H_122_378
  refine z_iload hE rfl rfl ?_
  refine z_iload hE rfl rfl ?_
  refine z_icmp_ge hE rfl ⟨fun q => ?_, fun q => ?_⟩
  · have h := h.1 q
    refine z_iload hE rfl rfl ?_
    refine z_if_ne hE rfl ⟨fun q => ?_, fun q => ?_⟩
    · have h := h.1 q
      refine z_iload hE rfl rfl ?_
      refine z_iconst hE rfl ?_
      have hb := h.1
      have h := h.2
      refine z_irem hE rfl hb ?_
      exact z_iret hE rfl rfl h
    · have h := h.2 q
      refine z_iload hE rfl rfl ?_
      refine z_iconst hE rfl ?_
      have hb := h.1
      have h := h.2
      refine z_idiv hE rfl hb ?_
      refine z_goto hE rfl ?_
      exact z_iret hE rfl rfl h
  · have h := h.2 q
    refine z_aload hE rfl rfl rfl ?_
    refine z_getR hE (q := 102) rfl shk_76 rfl rfl rfl ?_
    refine z_iload hE rfl rfl ?_
    have hb := h.1
    have h := h.2
    refine z_iald hE rfl shk_102 hb ?_
    refine z_iload hE rfl rfl ?_
    refine z_icmp_ge hE rfl ⟨fun q => ?_, fun q => ?_⟩
    · have h := h.1 q
      refine z_iload hE rfl rfl ?_
      refine z_istore hE rfl rfl rfl ?_
      have hb := h.1
      have h := h.2
      refine z_iinc hE rfl rfl rfl hb ?_
      refine z_goto hE rfl ?_
      exact h
    · have h := h.2 q
      refine z_aload hE rfl rfl rfl ?_
      refine z_getR hE (q := 102) rfl shk_76 rfl rfl rfl ?_
      refine z_iload hE rfl rfl ?_
      have hb := h.1
      have h := h.2
      refine z_iald hE rfl shk_102 hb ?_
      refine z_goto hE rfl ?_
      refine z_istore hE rfl rfl rfl ?_
      have hb := h.1
      have h := h.2
      refine z_iinc hE rfl rfl rfl hb ?_
      refine z_goto hE rfl ?_
      exact h
/-! 123: ChildTrainsModel.orders()I -/
def H_123_12 (d : Nat) (P : Int → Mm → Prop) (a1 : Int) (M : Mm) : Prop := GoG false (EE d) cd_123 (rI P) 12 [vR 76, vI a1, vU] [] M
def H_123_44 (d : Nat) (P : Int → Mm → Prop) (a1 : Int) (s0 : Int) (M : Mm) : Prop := GoG false (EE d) cd_123 (rI P) 44 [vR 76, vI a1, vU] [vI s0] M
def H_123_65 (d : Nat) (P : Int → Mm → Prop) (a1 : Int) (a2 : Int) (M : Mm) : Prop := GoG false (EE d) cd_123 (rI P) 65 [vR 76, vI a1, vI a2] [] M
theorem mN_123 : mN 123 = 3 := by decide +kernel
theorem ee_123 {d : Nat} {Q : Ql} {M : Mm} (h : GoG false (EE d) cd_123 Q 0 [vR 76, vU, vU] [] M) : EE (d + 1) 123 [vR 76] M Q := by
  have e : cdTab 123 = cd_123 := rfl
  unfold EE; rw [mN_123, e]; exact ⟨Nat.le_of_ble_eq_true rfl, h⟩
theorem sg_123 {d : Nat} {P : Int → Mm → Prop} {M : Mm} (h : H_123_12 d P 0 (mset (mset M 76 0 0) 76 24 0)) : EE (d + 1) 123 [vR 76] M (rI P) := by
  have hE := EE_mono d
  refine ee_123 ?_
  refine z_aload hE rfl rfl rfl ?_
  refine z_iconst hE rfl ?_
  refine z_putI hE (sl := 0) rfl shk_76 rfl rfl rfl ?_
  refine z_aload hE rfl rfl rfl ?_
  refine z_iconst hE rfl ?_
  refine z_putI hE (sl := 24) rfl shk_76 rfl rfl rfl ?_
  refine z_iconst hE rfl ?_
  refine z_istore hE rfl rfl rfl ?_
  exact h
theorem sg_123_12 {d : Nat} {P : Int → Mm → Prop} {a1 : Int} {M : Mm} (h : (((M 76 20) ≤ (M 76 24) → H_123_65 d P a1 0 M) ∧ ((M 76 24) < (M 76 20) → ((30 ≤ a1 → EE d 158 [vR 76] M (rI fun r1 M1 => H_123_44 d P a1 r1 M1)) ∧ (a1 < 30 → inI (25 * a1) ∧ EE d 156 [vR 76, vI (25 * a1)] M (rI fun r2 M2 => H_123_44 d P a1 r2 M2)))))) : H_123_12 d P a1 M := by
  have hE := EE_mono d
  unfold H_123_12
  refine z_aload hE rfl rfl rfl ?_
  refine z_getI hE (sl := 24) rfl shk_76 rfl rfl rfl ?_
  refine z_aload hE rfl rfl rfl ?_
  refine z_getI hE (sl := 20) rfl shk_76 rfl rfl rfl ?_
  refine z_icmp_ge hE rfl ⟨fun q => ?_, fun q => ?_⟩
  · have h := h.1 q
    refine z_iconst hE rfl ?_
    refine z_istore hE rfl rfl rfl ?_
    exact h
  · have h := h.2 q
    refine z_iload hE rfl rfl ?_
    refine z_iconst hE rfl ?_
    refine z_icmp_ge hE rfl ⟨fun q => ?_, fun q => ?_⟩
    · have h := h.1 q
      refine z_aload hE rfl rfl rfl ?_
      refine z_callvI hE rfl rfl rfl rfl rfl (Nat.le_of_ble_eq_true rfl) (by decide) ⟨rfl, rfl⟩ (EE_mono d _ _ _ _ _ (rI_mono fun r1 M1 h => ?_) h)
      exact h
    · have h := h.2 q
      refine z_aload hE rfl rfl rfl ?_
      refine z_iconst hE rfl ?_
      refine z_iload hE rfl rfl ?_
      have hb := h.1
      have h := h.2
      refine z_imul hE rfl hb ?_
      refine z_callvI hE rfl rfl rfl rfl rfl (Nat.le_of_ble_eq_true rfl) (by decide) ⟨rfl, rfl⟩ (EE_mono d _ _ _ _ _ (rI_mono fun r2 M2 h => ?_) h)
      refine z_goto hE rfl ?_
      exact h
theorem sg_123_44 {d : Nat} {P : Int → Mm → Prop} {a1 : Int} {s0 : Int} {M : Mm} (h : ((¬ s0 = 0 → inI (a1 + 1) ∧ H_123_12 d P (a1 + 1) M) ∧ (s0 = 0 → inI ((-10) - (M 76 26)) ∧ P ((-10) - (M 76 26)) M))) : H_123_44 d P a1 s0 M := by
  have hE := EE_mono d
  unfold H_123_44
  refine z_istore hE rfl rfl rfl ?_
  refine z_iload hE rfl rfl ?_
  refine z_if_ne hE rfl ⟨fun q => ?_, fun q => ?_⟩
  · have h := h.1 q
    have hb := h.1
    have h := h.2
    refine z_iinc hE rfl rfl rfl hb ?_
    refine z_goto hE rfl ?_
    exact GoG.weak hE (ls := [vR 76, vI (a1 + 1), vU]) ⟨Or.inl rfl, Or.inl rfl, Or.inr ⟨rfl, _, rfl⟩, trivial⟩ h
  · have h := h.2 q
    refine z_iconst hE rfl ?_
    refine z_aload hE rfl rfl rfl ?_
    refine z_getI hE (sl := 26) rfl shk_76 rfl rfl rfl ?_
    have hb := h.1
    have h := h.2
    refine z_isub hE rfl hb ?_
    exact z_iret hE rfl rfl h
theorem sg_123_65 {d : Nat} {P : Int → Mm → Prop} {a1 : Int} {a2 : Int} {M : Mm} (h : ((750 ≤ a2 → P a1 (mset (mset M 76 21 a1) 76 20 0)) ∧ (a2 < 750 → (0 ≤ a2 ∧ a2 < 750) ∧ (0 ≤ a2 ∧ a2 < 750) ∧ inI (a2 + 1) ∧ H_123_65 d P a1 (a2 + 1) (mset M 92 a2 (M 93 a2))))) : H_123_65 d P a1 a2 M := by
  have hE := EE_mono d
  unfold H_123_65
  refine z_iload hE rfl rfl ?_
  refine z_iconst hE rfl ?_
  refine z_icmp_ge hE rfl ⟨fun q => ?_, fun q => ?_⟩
  · have h := h.1 q
    refine z_aload hE rfl rfl rfl ?_
    refine z_iload hE rfl rfl ?_
    refine z_putI hE (sl := 21) rfl shk_76 rfl rfl rfl ?_
    refine z_aload hE rfl rfl rfl ?_
    refine z_iconst hE rfl ?_
    refine z_putI hE (sl := 20) rfl shk_76 rfl rfl rfl ?_
    refine z_iload hE rfl rfl ?_
    exact z_iret hE rfl rfl h
  · have h := h.2 q
    refine z_aload hE rfl rfl rfl ?_
    refine z_getR hE (q := 92) rfl shk_76 rfl rfl rfl ?_
    refine z_iload hE rfl rfl ?_
    refine z_aload hE rfl rfl rfl ?_
    refine z_getR hE (q := 93) rfl shk_76 rfl rfl rfl ?_
    refine z_iload hE rfl rfl ?_
    have hb := h.1
    have h := h.2
    refine z_iald hE rfl shk_93 hb ?_
    have hb := h.1
    have h := h.2
    refine z_iast hE rfl shk_92 hb ?_
    have hb := h.1
    have h := h.2
    refine z_iinc hE rfl rfl rfl hb ?_
    refine z_goto hE rfl ?_
    exact h
/-! 124: ChildTrainsModel.delay(III)I -/
theorem mN_124 : mN 124 = 5 := by decide +kernel
theorem ee_124 {d : Nat} {Q : Ql} {a1 : Int} {a2 : Int} {a3 : Int} {M : Mm} (h : GoG false (EE d) cd_124 Q 0 [vR 76, vI a1, vI a2, vI a3, vU] [] M) : EE (d + 1) 124 [vR 76, vI a1, vI a2, vI a3] M Q := by
  have e : cdTab 124 = cd_124 := rfl
  unfold EE; rw [mN_124, e]; exact ⟨Nat.le_of_ble_eq_true rfl, h⟩
theorem sg_124 {d : Nat} {P : Int → Mm → Prop} {a1 : Int} {a2 : Int} {a3 : Int} {M : Mm} (h : EE d 145 [vI a1] (mset M 76 0 0) (rI fun r1 M1 => ((r1 = 0 → P (-1) M1) ∧ (¬ r1 = 0 → EE d 140 [vI a2, vI 0, vI 2] M1 (rI fun r2 M2 => ((r2 = 0 → P (-1) M2) ∧ (¬ r2 = 0 → EE d 140 [vI a3, vI 0, vI 20] M2 (rI fun r3 M3 => ((¬ r3 = 0 → inI (3 * a1) ∧ inI ((3 * a1) + a2) ∧ (0 ≤ ((3 * a1) + a2) ∧ ((3 * a1) + a2) < 18) ∧ inI (3 * a1) ∧ inI ((3 * a1) + a2) ∧ (0 ≤ ((3 * a1) + a2) ∧ ((3 * a1) + a2) < 18) ∧ P (M3 94 ((3 * a1) + a2)) (mset M3 94 ((3 * a1) + a2) a3)) ∧ (r3 = 0 → P (-1) M3)))))))))) : EE (d + 1) 124 [vR 76, vI a1, vI a2, vI a3] M (rI P) := by
  have hE := EE_mono d
  refine ee_124 ?_
  refine z_aload hE rfl rfl rfl ?_
  refine z_iconst hE rfl ?_
  refine z_putI hE (sl := 0) rfl shk_76 rfl rfl rfl ?_
  refine z_iload hE rfl rfl ?_
  refine z_callsI hE rfl rfl rfl rfl rfl (Nat.le_of_ble_eq_true rfl) (by decide) (EE_mono d _ _ _ _ _ (rI_mono fun r1 M1 h => ?_) h)
  refine z_if_eq hE rfl ⟨fun q => ?_, fun q => ?_⟩
  · have h := h.1 q
    refine z_iconst hE rfl ?_
    exact z_iret hE rfl rfl h
  · have h := h.2 q
    refine z_iload hE rfl rfl ?_
    refine z_iconst hE rfl ?_
    refine z_iconst hE rfl ?_
    refine z_callsI hE rfl rfl rfl rfl rfl (Nat.le_of_ble_eq_true rfl) (by decide) (EE_mono d _ _ _ _ _ (rI_mono fun r2 M2 h => ?_) h)
    refine z_if_eq hE rfl ⟨fun q => ?_, fun q => ?_⟩
    · have h := h.1 q
      refine z_iconst hE rfl ?_
      exact z_iret hE rfl rfl h
    · have h := h.2 q
      refine z_iload hE rfl rfl ?_
      refine z_iconst hE rfl ?_
      refine z_iconst hE rfl ?_
      refine z_callsI hE rfl rfl rfl rfl rfl (Nat.le_of_ble_eq_true rfl) (by decide) (EE_mono d _ _ _ _ _ (rI_mono fun r3 M3 h => ?_) h)
      refine z_if_ne hE rfl ⟨fun q => ?_, fun q => ?_⟩
      · have h := h.1 q
        refine z_aload hE rfl rfl rfl ?_
        refine z_getR hE (q := 94) rfl shk_76 rfl rfl rfl ?_
        refine z_iconst hE rfl ?_
        refine z_iload hE rfl rfl ?_
        have hb := h.1
        have h := h.2
        refine z_imul hE rfl hb ?_
        refine z_iload hE rfl rfl ?_
        have hb := h.1
        have h := h.2
        refine z_iadd hE rfl hb ?_
        have hb := h.1
        have h := h.2
        refine z_iald hE rfl shk_94 hb ?_
        refine z_istore hE rfl rfl rfl ?_
        refine z_aload hE rfl rfl rfl ?_
        refine z_getR hE (q := 94) rfl shk_76 rfl rfl rfl ?_
        refine z_iconst hE rfl ?_
        refine z_iload hE rfl rfl ?_
        have hb := h.1
        have h := h.2
        refine z_imul hE rfl hb ?_
        refine z_iload hE rfl rfl ?_
        have hb := h.1
        have h := h.2
        refine z_iadd hE rfl hb ?_
        refine z_iload hE rfl rfl ?_
        have hb := h.1
        have h := h.2
        refine z_iast hE rfl shk_94 hb ?_
        refine z_iload hE rfl rfl ?_
        exact z_iret hE rfl rfl h
      · have h := h.2 q
        refine z_iconst hE rfl ?_
        exact z_iret hE rfl rfl h
/-! 125: ChildTrainsModel.ruling(IIII)I -/
theorem mN_125 : mN 125 = 5 := by decide +kernel
theorem ee_125 {d : Nat} {Q : Ql} {a1 : Int} {a2 : Int} {a3 : Int} {a4 : Int} {M : Mm} (h : GoG false (EE d) cd_125 Q 0 [vR 76, vI a1, vI a2, vI a3, vI a4] [] M) : EE (d + 1) 125 [vR 76, vI a1, vI a2, vI a3, vI a4] M Q := by
  have e : cdTab 125 = cd_125 := rfl
  unfold EE; rw [mN_125, e]; exact ⟨Nat.le_of_ble_eq_true rfl, h⟩
theorem sg_125 {d : Nat} {P : Int → Mm → Prop} {a1 : Int} {a2 : Int} {a3 : Int} {a4 : Int} {M : Mm} (h : EE d 140 [vI a1, vI 0, vI 2] (mset M 76 0 0) (rI fun r1 M1 => ((r1 = 0 → P (-5) M1) ∧ (¬ r1 = 0 → EE d 141 [vR 76, vI a2] M1 (rI fun r2 M2 => ((r2 = 0 → P (-5) M2) ∧ (¬ r2 = 0 → EE d 162 [vR 76, vI a3] M2 (rI fun r3 M3 => ((r3 = 0 → P (-5) M3) ∧ (¬ r3 = 0 → EE d 163 [vI a4] M3 (rI fun r4 M4 => ((r4 = 0 → P (-5) M4) ∧ (¬ r4 = 0 → EE d 164 [vR 76, vI a1, vI a2, vI a3, vI a4] M4 (rI fun r5 M5 => P r5 M5)))))))))))))) : EE (d + 1) 125 [vR 76, vI a1, vI a2, vI a3, vI a4] M (rI P) := by
  have hE := EE_mono d
  refine ee_125 ?_
  refine z_aload hE rfl rfl rfl ?_
  refine z_iconst hE rfl ?_
  refine z_putI hE (sl := 0) rfl shk_76 rfl rfl rfl ?_
  refine z_iload hE rfl rfl ?_
  refine z_iconst hE rfl ?_
  refine z_iconst hE rfl ?_
  refine z_callsI hE rfl rfl rfl rfl rfl (Nat.le_of_ble_eq_true rfl) (by decide) (EE_mono d _ _ _ _ _ (rI_mono fun r1 M1 h => ?_) h)
  refine z_if_eq hE rfl ⟨fun q => ?_, fun q => ?_⟩
  · have h := h.1 q
    refine z_iconst hE rfl ?_
    exact z_iret hE rfl rfl h
  · have h := h.2 q
    refine z_aload hE rfl rfl rfl ?_
    refine z_iload hE rfl rfl ?_
    refine z_callvI hE rfl rfl rfl rfl rfl (Nat.le_of_ble_eq_true rfl) (by decide) ⟨rfl, rfl⟩ (EE_mono d _ _ _ _ _ (rI_mono fun r2 M2 h => ?_) h)
    refine z_if_eq hE rfl ⟨fun q => ?_, fun q => ?_⟩
    · have h := h.1 q
      refine z_iconst hE rfl ?_
      exact z_iret hE rfl rfl h
    · have h := h.2 q
      refine z_aload hE rfl rfl rfl ?_
      refine z_iload hE rfl rfl ?_
      refine z_callvI hE rfl rfl rfl rfl rfl (Nat.le_of_ble_eq_true rfl) (by decide) ⟨rfl, rfl⟩ (EE_mono d _ _ _ _ _ (rI_mono fun r3 M3 h => ?_) h)
      refine z_if_eq hE rfl ⟨fun q => ?_, fun q => ?_⟩
      · have h := h.1 q
        refine z_iconst hE rfl ?_
        exact z_iret hE rfl rfl h
      · have h := h.2 q
        refine z_iload hE rfl rfl ?_
        refine z_callsI hE rfl rfl rfl rfl rfl (Nat.le_of_ble_eq_true rfl) (by decide) (EE_mono d _ _ _ _ _ (rI_mono fun r4 M4 h => ?_) h)
        refine z_if_eq hE rfl ⟨fun q => ?_, fun q => ?_⟩
        · have h := h.1 q
          refine z_iconst hE rfl ?_
          exact z_iret hE rfl rfl h
        · have h := h.2 q
          refine z_aload hE rfl rfl rfl ?_
          refine z_iload hE rfl rfl ?_
          refine z_iload hE rfl rfl ?_
          refine z_iload hE rfl rfl ?_
          refine z_iload hE rfl rfl ?_
          refine z_callvI hE rfl rfl rfl rfl rfl (Nat.le_of_ble_eq_true rfl) (by decide) ⟨rfl, rfl⟩ (EE_mono d _ _ _ _ _ (rI_mono fun r5 M5 h => ?_) h)
          refine z_goto hE rfl ?_
          exact z_iret hE rfl rfl h
/-! 126: ChildTrainsModel.why(IIII)I -/
theorem mN_126 : mN 126 = 5 := by decide +kernel
theorem ee_126 {d : Nat} {Q : Ql} {a1 : Int} {a2 : Int} {a3 : Int} {a4 : Int} {M : Mm} (h : GoG false (EE d) cd_126 Q 0 [vR 76, vI a1, vI a2, vI a3, vI a4] [] M) : EE (d + 1) 126 [vR 76, vI a1, vI a2, vI a3, vI a4] M Q := by
  have e : cdTab 126 = cd_126 := rfl
  unfold EE; rw [mN_126, e]; exact ⟨Nat.le_of_ble_eq_true rfl, h⟩
theorem sg_126 {d : Nat} {P : Int → Mm → Prop} {a1 : Int} {a2 : Int} {a3 : Int} {a4 : Int} {M : Mm} (h : EE d 140 [vI a1, vI 0, vI 2] (mset M 76 0 0) (rI fun r1 M1 => ((r1 = 0 → P (-1) M1) ∧ (¬ r1 = 0 → EE d 141 [vR 76, vI a2] M1 (rI fun r2 M2 => ((r2 = 0 → P (-1) M2) ∧ (¬ r2 = 0 → EE d 162 [vR 76, vI a3] M2 (rI fun r3 M3 => ((r3 = 0 → P (-1) M3) ∧ (¬ r3 = 0 → EE d 163 [vI a4] M3 (rI fun r4 M4 => ((r4 = 0 → P (-1) M4) ∧ (¬ r4 = 0 → EE d 165 [vR 76, vI a1, vI a2, vI a3, vI a4] M4 (rI fun r5 M5 => P r5 M5)))))))))))))) : EE (d + 1) 126 [vR 76, vI a1, vI a2, vI a3, vI a4] M (rI P) := by
  have hE := EE_mono d
  refine ee_126 ?_
  refine z_aload hE rfl rfl rfl ?_
  refine z_iconst hE rfl ?_
  refine z_putI hE (sl := 0) rfl shk_76 rfl rfl rfl ?_
  refine z_iload hE rfl rfl ?_
  refine z_iconst hE rfl ?_
  refine z_iconst hE rfl ?_
  refine z_callsI hE rfl rfl rfl rfl rfl (Nat.le_of_ble_eq_true rfl) (by decide) (EE_mono d _ _ _ _ _ (rI_mono fun r1 M1 h => ?_) h)
  refine z_if_eq hE rfl ⟨fun q => ?_, fun q => ?_⟩
  · have h := h.1 q
    refine z_iconst hE rfl ?_
    exact z_iret hE rfl rfl h
  · have h := h.2 q
    refine z_aload hE rfl rfl rfl ?_
    refine z_iload hE rfl rfl ?_
    refine z_callvI hE rfl rfl rfl rfl rfl (Nat.le_of_ble_eq_true rfl) (by decide) ⟨rfl, rfl⟩ (EE_mono d _ _ _ _ _ (rI_mono fun r2 M2 h => ?_) h)
    refine z_if_eq hE rfl ⟨fun q => ?_, fun q => ?_⟩
    · have h := h.1 q
      refine z_iconst hE rfl ?_
      exact z_iret hE rfl rfl h
    · have h := h.2 q
      refine z_aload hE rfl rfl rfl ?_
      refine z_iload hE rfl rfl ?_
      refine z_callvI hE rfl rfl rfl rfl rfl (Nat.le_of_ble_eq_true rfl) (by decide) ⟨rfl, rfl⟩ (EE_mono d _ _ _ _ _ (rI_mono fun r3 M3 h => ?_) h)
      refine z_if_eq hE rfl ⟨fun q => ?_, fun q => ?_⟩
      · have h := h.1 q
        refine z_iconst hE rfl ?_
        exact z_iret hE rfl rfl h
      · have h := h.2 q
        refine z_iload hE rfl rfl ?_
        refine z_callsI hE rfl rfl rfl rfl rfl (Nat.le_of_ble_eq_true rfl) (by decide) (EE_mono d _ _ _ _ _ (rI_mono fun r4 M4 h => ?_) h)
        refine z_if_eq hE rfl ⟨fun q => ?_, fun q => ?_⟩
        · have h := h.1 q
          refine z_iconst hE rfl ?_
          exact z_iret hE rfl rfl h
        · have h := h.2 q
          refine z_aload hE rfl rfl rfl ?_
          refine z_iload hE rfl rfl ?_
          refine z_iload hE rfl rfl ?_
          refine z_iload hE rfl rfl ?_
          refine z_iload hE rfl rfl ?_
          refine z_callvI hE rfl rfl rfl rfl rfl (Nat.le_of_ble_eq_true rfl) (by decide) ⟨rfl, rfl⟩ (EE_mono d _ _ _ _ _ (rI_mono fun r5 M5 h => ?_) h)
          refine z_goto hE rfl ?_
          exact z_iret hE rfl rfl h
/-! 127: ChildTrainsModel.lodge(III)I -/
def H_127_103 (d : Nat) (P : Int → Mm → Prop) (a1 : Int) (a2 : Int) (a3 : Int) (a4 : Int) (s0 : Int) (M : Mm) : Prop := GoG false (EE d) cd_127 (rI P) 103 [vR 76, vI a1, vI a2, vI a3, vI a4] [vI s0, vR 76] M
theorem mN_127 : mN 127 = 5 := by decide +kernel
theorem ee_127 {d : Nat} {Q : Ql} {a1 : Int} {a2 : Int} {a3 : Int} {M : Mm} (h : GoG false (EE d) cd_127 Q 0 [vR 76, vI a1, vI a2, vI a3, vU] [] M) : EE (d + 1) 127 [vR 76, vI a1, vI a2, vI a3] M Q := by
  have e : cdTab 127 = cd_127 := rfl
  unfold EE; rw [mN_127, e]; exact ⟨Nat.le_of_ble_eq_true rfl, h⟩
theorem sg_127 {d : Nat} {P : Int → Mm → Prop} {a1 : Int} {a2 : Int} {a3 : Int} {M : Mm} (h : EE d 141 [vR 76, vI a1] (mset M 76 0 0) (rI fun r1 M1 => ((r1 = 0 → P (-1) M1) ∧ (¬ r1 = 0 → EE d 162 [vR 76, vI a2] M1 (rI fun r2 M2 => ((r2 = 0 → P (-1) M2) ∧ (¬ r2 = 0 → EE d 163 [vI a3] M2 (rI fun r3 M3 => ((r3 = 0 → P (-1) M3) ∧ (¬ r3 = 0 → EE d 167 [vR 76, vI a1, vI 199] M3 (rI fun r4 M4 => ((¬ r4 = a2 → EE d 167 [vR 76, vI a1, vI 199] M4 (rI fun r5 M5 => EE d 168 [vR 76, vI a3] M5 (rI fun r6 M6 => ((¬ r6 = 0 → P (-2) M6) ∧ (r6 = 0 → EE d 169 [vR 76, vI a2, vI 199] M6 (rI fun r7 M7 => inI (5 * a2) ∧ inI ((5 * a2) + 2) ∧ (0 ≤ ((5 * a2) + 2) ∧ ((5 * a2) + 2) < 120) ∧ ((r7 = (M7 89 ((5 * a2) + 2)) → P (-2) M7) ∧ (¬ r7 = (M7 89 ((5 * a2) + 2)) → EE d 148 [vR 76, vI a2, vI a1] M7 (rI fun r8 M8 => ((r8 = 0 → P (-2) M8) ∧ (¬ r8 = 0 → ((¬ r5 = (-9) → H_127_103 d P a1 a2 a3 r5 1 M8) ∧ (r5 = (-9) → H_127_103 d P a1 a2 a3 r5 0 M8))))))))))))) ∧ (r4 = a2 → P (-1) M4))))))))))))) : EE (d + 1) 127 [vR 76, vI a1, vI a2, vI a3] M (rI P) := by
  have hE := EE_mono d
  refine ee_127 ?_
  refine z_aload hE rfl rfl rfl ?_
  refine z_iconst hE rfl ?_
  refine z_putI hE (sl := 0) rfl shk_76 rfl rfl rfl ?_
  refine z_aload hE rfl rfl rfl ?_
  refine z_iload hE rfl rfl ?_
  refine z_callvI hE rfl rfl rfl rfl rfl (Nat.le_of_ble_eq_true rfl) (by decide) ⟨rfl, rfl⟩ (EE_mono d _ _ _ _ _ (rI_mono fun r1 M1 h => ?_) h)
  refine z_if_eq hE rfl ⟨fun q => ?_, fun q => ?_⟩
  · have h := h.1 q
    refine z_iconst hE rfl ?_
    exact z_iret hE rfl rfl h
  · have h := h.2 q
    refine z_aload hE rfl rfl rfl ?_
    refine z_iload hE rfl rfl ?_
    refine z_callvI hE rfl rfl rfl rfl rfl (Nat.le_of_ble_eq_true rfl) (by decide) ⟨rfl, rfl⟩ (EE_mono d _ _ _ _ _ (rI_mono fun r2 M2 h => ?_) h)
    refine z_if_eq hE rfl ⟨fun q => ?_, fun q => ?_⟩
    · have h := h.1 q
      refine z_iconst hE rfl ?_
      exact z_iret hE rfl rfl h
    · have h := h.2 q
      refine z_iload hE rfl rfl ?_
      refine z_callsI hE rfl rfl rfl rfl rfl (Nat.le_of_ble_eq_true rfl) (by decide) (EE_mono d _ _ _ _ _ (rI_mono fun r3 M3 h => ?_) h)
      refine z_if_eq hE rfl ⟨fun q => ?_, fun q => ?_⟩
      · have h := h.1 q
        refine z_iconst hE rfl ?_
        exact z_iret hE rfl rfl h
      · have h := h.2 q
        refine z_aload hE rfl rfl rfl ?_
        refine z_iload hE rfl rfl ?_
        refine z_iconst hE rfl ?_
        refine z_callvI hE rfl rfl rfl rfl rfl (Nat.le_of_ble_eq_true rfl) (by decide) ⟨rfl, rfl⟩ (EE_mono d _ _ _ _ _ (rI_mono fun r4 M4 h => ?_) h)
        refine z_iload hE rfl rfl ?_
        refine z_icmp_ne hE rfl ⟨fun q => ?_, fun q => ?_⟩
        · have h := h.1 q
          refine z_aload hE rfl rfl rfl ?_
          refine z_iload hE rfl rfl ?_
          refine z_iconst hE rfl ?_
          refine z_callvI hE rfl rfl rfl rfl rfl (Nat.le_of_ble_eq_true rfl) (by decide) ⟨rfl, rfl⟩ (EE_mono d _ _ _ _ _ (rI_mono fun r5 M5 h => ?_) h)
          refine z_istore hE rfl rfl rfl ?_
          refine z_aload hE rfl rfl rfl ?_
          refine z_iload hE rfl rfl ?_
          refine z_callvI hE rfl rfl rfl rfl rfl (Nat.le_of_ble_eq_true rfl) (by decide) ⟨rfl, rfl⟩ (EE_mono d _ _ _ _ _ (rI_mono fun r6 M6 h => ?_) h)
          refine z_if_ne hE rfl ⟨fun q => ?_, fun q => ?_⟩
          · have h := h.1 q
            refine z_iconst hE rfl ?_
            exact z_iret hE rfl rfl h
          · have h := h.2 q
            refine z_aload hE rfl rfl rfl ?_
            refine z_iload hE rfl rfl ?_
            refine z_iconst hE rfl ?_
            refine z_callvI hE rfl rfl rfl rfl rfl (Nat.le_of_ble_eq_true rfl) (by decide) ⟨rfl, rfl⟩ (EE_mono d _ _ _ _ _ (rI_mono fun r7 M7 h => ?_) h)
            refine z_aload hE rfl rfl rfl ?_
            refine z_getR hE (q := 89) rfl shk_76 rfl rfl rfl ?_
            refine z_iconst hE rfl ?_
            refine z_iload hE rfl rfl ?_
            have hb := h.1
            have h := h.2
            refine z_imul hE rfl hb ?_
            refine z_iconst hE rfl ?_
            have hb := h.1
            have h := h.2
            refine z_iadd hE rfl hb ?_
            have hb := h.1
            have h := h.2
            refine z_iald hE rfl shk_89 hb ?_
            refine z_icmp_eq hE rfl ⟨fun q => ?_, fun q => ?_⟩
            · have h := h.1 q
              refine z_iconst hE rfl ?_
              exact z_iret hE rfl rfl h
            · have h := h.2 q
              refine z_aload hE rfl rfl rfl ?_
              refine z_iload hE rfl rfl ?_
              refine z_iload hE rfl rfl ?_
              refine z_callvI hE rfl rfl rfl rfl rfl (Nat.le_of_ble_eq_true rfl) (by decide) ⟨rfl, rfl⟩ (EE_mono d _ _ _ _ _ (rI_mono fun r8 M8 h => ?_) h)
              refine z_if_eq hE rfl ⟨fun q => ?_, fun q => ?_⟩
              · have h := h.1 q
                refine z_iconst hE rfl ?_
                exact z_iret hE rfl rfl h
              · have h := h.2 q
                refine z_aload hE rfl rfl rfl ?_
                refine z_iload hE rfl rfl ?_
                refine z_iconst hE rfl ?_
                refine z_icmp_ne hE rfl ⟨fun q => ?_, fun q => ?_⟩
                · have h := h.1 q
                  refine z_iconst hE rfl ?_
                  exact h
                · have h := h.2 q
                  refine z_iconst hE rfl ?_
                  refine z_goto hE rfl ?_
                  exact h
        · have h := h.2 q
          refine z_iconst hE rfl ?_
          exact z_iret hE rfl rfl h
theorem sg_127_103 {d : Nat} {P : Int → Mm → Prop} {a1 : Int} {a2 : Int} {a3 : Int} {a4 : Int} {s0 : Int} {M : Mm} (h : EE d 164 [vR 76, vI s0, vI a1, vI a2, vI a3] M (rI fun r1 M1 => ((¬ r1 = (-1) → ((¬ (M1 76 28) = 80 → EE d 170 [vR 76, vI a1, vI a2, vI a3, vI a4] M1 (rV fun M2 => P (M2 76 28) M2)) ∧ ((M1 76 28) = 80 → P (-3) M1))) ∧ (r1 = (-1) → P (-2) M1)))) : H_127_103 d P a1 a2 a3 a4 s0 M := by
  have hE := EE_mono d
  unfold H_127_103
  refine z_iload hE rfl rfl ?_
  refine z_iload hE rfl rfl ?_
  refine z_iload hE rfl rfl ?_
  refine z_callvI hE rfl rfl rfl rfl rfl (Nat.le_of_ble_eq_true rfl) (by decide) ⟨rfl, rfl⟩ (EE_mono d _ _ _ _ _ (rI_mono fun r1 M1 h => ?_) h)
  refine z_iconst hE rfl ?_
  refine z_icmp_ne hE rfl ⟨fun q => ?_, fun q => ?_⟩
  · have h := h.1 q
    refine z_aload hE rfl rfl rfl ?_
    refine z_getI hE (sl := 28) rfl shk_76 rfl rfl rfl ?_
    refine z_iconst hE rfl ?_
    refine z_icmp_ne hE rfl ⟨fun q => ?_, fun q => ?_⟩
    · have h := h.1 q
      refine z_aload hE rfl rfl rfl ?_
      refine z_iload hE rfl rfl ?_
      refine z_iload hE rfl rfl ?_
      refine z_iload hE rfl rfl ?_
      refine z_iload hE rfl rfl ?_
      refine z_callvV hE rfl rfl rfl rfl rfl (Nat.le_of_ble_eq_true rfl) (by decide) ⟨rfl, rfl⟩ (EE_mono d _ _ _ _ _ (rV_mono fun M2 h => ?_) h)
      refine z_aload hE rfl rfl rfl ?_
      refine z_getI hE (sl := 28) rfl shk_76 rfl rfl rfl ?_
      exact z_iret hE rfl rfl h
    · have h := h.2 q
      refine z_iconst hE rfl ?_
      exact z_iret hE rfl rfl h
  · have h := h.2 q
    refine z_iconst hE rfl ?_
    exact z_iret hE rfl rfl h
/-! 128: ChildTrainsModel.fetch(II)I -/
theorem mN_128 : mN 128 = 4 := by decide +kernel
theorem ee_128 {d : Nat} {Q : Ql} {a1 : Int} {a2 : Int} {M : Mm} (h : GoG false (EE d) cd_128 Q 0 [vR 76, vI a1, vI a2, vU] [] M) : EE (d + 1) 128 [vR 76, vI a1, vI a2] M Q := by
  have e : cdTab 128 = cd_128 := rfl
  unfold EE; rw [mN_128, e]; exact ⟨Nat.le_of_ble_eq_true rfl, h⟩
theorem sg_128 {d : Nat} {P : Int → Mm → Prop} {a1 : Int} {a2 : Int} {M : Mm} (h : EE d 141 [vR 76, vI a1] (mset M 76 0 0) (rI fun r1 M1 => ((r1 = 0 → P (-1) M1) ∧ (¬ r1 = 0 → EE d 163 [vI a2] M1 (rI fun r2 M2 => ((¬ r2 = 0 → EE d 167 [vR 76, vI a1, vI 199] M2 (rI fun r3 M3 => EE d 168 [vR 76, vI a2] M3 (rI fun r4 M4 => ((¬ r4 = 0 → P (-2) M4) ∧ (r4 = 0 → ((r3 = (-9) → P (-2) M4) ∧ (¬ r3 = (-9) → EE d 164 [vR 76, vI 2, vI a1, vI r3, vI a2] M4 (rI fun r5 M5 => ((¬ r5 = (-1) → ((¬ (M5 76 28) = 80 → EE d 170 [vR 76, vI a1, vI (-9), vI a2, vI r3] M5 (rV fun M6 => P (M6 76 28) M6)) ∧ ((M5 76 28) = 80 → P (-3) M5))) ∧ (r5 = (-1) → P (-2) M5)))))))))) ∧ (r2 = 0 → P (-1) M2))))))) : EE (d + 1) 128 [vR 76, vI a1, vI a2] M (rI P) := by
  have hE := EE_mono d
  refine ee_128 ?_
  refine z_aload hE rfl rfl rfl ?_
  refine z_iconst hE rfl ?_
  refine z_putI hE (sl := 0) rfl shk_76 rfl rfl rfl ?_
  refine z_aload hE rfl rfl rfl ?_
  refine z_iload hE rfl rfl ?_
  refine z_callvI hE rfl rfl rfl rfl rfl (Nat.le_of_ble_eq_true rfl) (by decide) ⟨rfl, rfl⟩ (EE_mono d _ _ _ _ _ (rI_mono fun r1 M1 h => ?_) h)
  refine z_if_eq hE rfl ⟨fun q => ?_, fun q => ?_⟩
  · have h := h.1 q
    refine z_iconst hE rfl ?_
    exact z_iret hE rfl rfl h
  · have h := h.2 q
    refine z_iload hE rfl rfl ?_
    refine z_callsI hE rfl rfl rfl rfl rfl (Nat.le_of_ble_eq_true rfl) (by decide) (EE_mono d _ _ _ _ _ (rI_mono fun r2 M2 h => ?_) h)
    refine z_if_ne hE rfl ⟨fun q => ?_, fun q => ?_⟩
    · have h := h.1 q
      refine z_aload hE rfl rfl rfl ?_
      refine z_iload hE rfl rfl ?_
      refine z_iconst hE rfl ?_
      refine z_callvI hE rfl rfl rfl rfl rfl (Nat.le_of_ble_eq_true rfl) (by decide) ⟨rfl, rfl⟩ (EE_mono d _ _ _ _ _ (rI_mono fun r3 M3 h => ?_) h)
      refine z_istore hE rfl rfl rfl ?_
      refine z_aload hE rfl rfl rfl ?_
      refine z_iload hE rfl rfl ?_
      refine z_callvI hE rfl rfl rfl rfl rfl (Nat.le_of_ble_eq_true rfl) (by decide) ⟨rfl, rfl⟩ (EE_mono d _ _ _ _ _ (rI_mono fun r4 M4 h => ?_) h)
      refine z_if_ne hE rfl ⟨fun q => ?_, fun q => ?_⟩
      · have h := h.1 q
        refine z_iconst hE rfl ?_
        exact z_iret hE rfl rfl h
      · have h := h.2 q
        refine z_iload hE rfl rfl ?_
        refine z_iconst hE rfl ?_
        refine z_icmp_eq hE rfl ⟨fun q => ?_, fun q => ?_⟩
        · have h := h.1 q
          refine z_iconst hE rfl ?_
          exact z_iret hE rfl rfl h
        · have h := h.2 q
          refine z_aload hE rfl rfl rfl ?_
          refine z_iconst hE rfl ?_
          refine z_iload hE rfl rfl ?_
          refine z_iload hE rfl rfl ?_
          refine z_iload hE rfl rfl ?_
          refine z_callvI hE rfl rfl rfl rfl rfl (Nat.le_of_ble_eq_true rfl) (by decide) ⟨rfl, rfl⟩ (EE_mono d _ _ _ _ _ (rI_mono fun r5 M5 h => ?_) h)
          refine z_iconst hE rfl ?_
          refine z_icmp_ne hE rfl ⟨fun q => ?_, fun q => ?_⟩
          · have h := h.1 q
            refine z_aload hE rfl rfl rfl ?_
            refine z_getI hE (sl := 28) rfl shk_76 rfl rfl rfl ?_
            refine z_iconst hE rfl ?_
            refine z_icmp_ne hE rfl ⟨fun q => ?_, fun q => ?_⟩
            · have h := h.1 q
              refine z_aload hE rfl rfl rfl ?_
              refine z_iload hE rfl rfl ?_
              refine z_iconst hE rfl ?_
              refine z_iload hE rfl rfl ?_
              refine z_iload hE rfl rfl ?_
              refine z_callvV hE rfl rfl rfl rfl rfl (Nat.le_of_ble_eq_true rfl) (by decide) ⟨rfl, rfl⟩ (EE_mono d _ _ _ _ _ (rV_mono fun M6 h => ?_) h)
              refine z_aload hE rfl rfl rfl ?_
              refine z_getI hE (sl := 28) rfl shk_76 rfl rfl rfl ?_
              exact z_iret hE rfl rfl h
            · have h := h.2 q
              refine z_iconst hE rfl ?_
              exact z_iret hE rfl rfl h
          · have h := h.2 q
            refine z_iconst hE rfl ?_
            exact z_iret hE rfl rfl h
    · have h := h.2 q
      refine z_iconst hE rfl ?_
      exact z_iret hE rfl rfl h
/-! 129: ChildTrainsModel.where(II)I -/
theorem mN_129 : mN 129 = 3 := by decide +kernel
theorem ee_129 {d : Nat} {Q : Ql} {a1 : Int} {a2 : Int} {M : Mm} (h : GoG false (EE d) cd_129 Q 0 [vR 76, vI a1, vI a2] [] M) : EE (d + 1) 129 [vR 76, vI a1, vI a2] M Q := by
  have e : cdTab 129 = cd_129 := rfl
  unfold EE; rw [mN_129, e]; exact ⟨Nat.le_of_ble_eq_true rfl, h⟩
theorem sg_129 {d : Nat} {P : Int → Mm → Prop} {a1 : Int} {a2 : Int} {M : Mm} (h : EE d 141 [vR 76, vI a1] (mset M 76 0 0) (rI fun r1 M1 => ((r1 = 0 → P (-1) M1) ∧ (¬ r1 = 0 → EE d 163 [vI a2] M1 (rI fun r2 M2 => ((r2 = 0 → P (-1) M2) ∧ (¬ r2 = 0 → EE d 167 [vR 76, vI a1, vI a2] M2 (rI fun r3 M3 => P r3 M3)))))))) : EE (d + 1) 129 [vR 76, vI a1, vI a2] M (rI P) := by
  have hE := EE_mono d
  refine ee_129 ?_
  refine z_aload hE rfl rfl rfl ?_
  refine z_iconst hE rfl ?_
  refine z_putI hE (sl := 0) rfl shk_76 rfl rfl rfl ?_
  refine z_aload hE rfl rfl rfl ?_
  refine z_iload hE rfl rfl ?_
  refine z_callvI hE rfl rfl rfl rfl rfl (Nat.le_of_ble_eq_true rfl) (by decide) ⟨rfl, rfl⟩ (EE_mono d _ _ _ _ _ (rI_mono fun r1 M1 h => ?_) h)
  refine z_if_eq hE rfl ⟨fun q => ?_, fun q => ?_⟩
  · have h := h.1 q
    refine z_iconst hE rfl ?_
    exact z_iret hE rfl rfl h
  · have h := h.2 q
    refine z_iload hE rfl rfl ?_
    refine z_callsI hE rfl rfl rfl rfl rfl (Nat.le_of_ble_eq_true rfl) (by decide) (EE_mono d _ _ _ _ _ (rI_mono fun r2 M2 h => ?_) h)
    refine z_if_eq hE rfl ⟨fun q => ?_, fun q => ?_⟩
    · have h := h.1 q
      refine z_iconst hE rfl ?_
      exact z_iret hE rfl rfl h
    · have h := h.2 q
      refine z_aload hE rfl rfl rfl ?_
      refine z_iload hE rfl rfl ?_
      refine z_iload hE rfl rfl ?_
      refine z_callvI hE rfl rfl rfl rfl rfl (Nat.le_of_ble_eq_true rfl) (by decide) ⟨rfl, rfl⟩ (EE_mono d _ _ _ _ _ (rI_mono fun r3 M3 h => ?_) h)
      refine z_goto hE rfl ?_
      exact z_iret hE rfl rfl h
/-! 130: ChildTrainsModel.paid(II)I -/
def H_130_33 (d : Nat) (P : Int → Mm → Prop) (a1 : Int) (a2 : Int) (a3 : Int) (a4 : Int) (a5 : Int) (M : Mm) : Prop := GoG false (EE d) cd_130 (rI P) 33 [vR 76, vI a1, vI a2, vI a3, vI a4, vI a5, vU] [] M
def H_130_61 (d : Nat) (P : Int → Mm → Prop) (a1 : Int) (a2 : Int) (a3 : Int) (a4 : Int) (a5 : Int) (s0 : Int) (M : Mm) : Prop := GoG false (EE d) cd_130 (rI P) 61 [vR 76, vI a1, vI a2, vI a3, vI a4, vI a5, vU] [vI s0] M
def H_130_74 (d : Nat) (P : Int → Mm → Prop) (a1 : Int) (a2 : Int) (a4 : Int) (a5 : Int) (a6 : Int) (s0 : Int) (s1 : Int) (M : Mm) : Prop := GoG false (EE d) cd_130 (rI P) 74 [vR 76, vI a1, vI a2, vU, vI a4, vI a5, vI a6] [vI s0, vI s1] M
theorem mN_130 : mN 130 = 7 := by decide +kernel
theorem ee_130 {d : Nat} {Q : Ql} {a1 : Int} {a2 : Int} {M : Mm} (h : GoG false (EE d) cd_130 Q 0 [vR 76, vI a1, vI a2, vU, vU, vU, vU] [] M) : EE (d + 1) 130 [vR 76, vI a1, vI a2] M Q := by
  have e : cdTab 130 = cd_130 := rfl
  unfold EE; rw [mN_130, e]; exact ⟨Nat.le_of_ble_eq_true rfl, h⟩
theorem sg_130 {d : Nat} {P : Int → Mm → Prop} {a1 : Int} {a2 : Int} {M : Mm} (h : EE d 162 [vR 76, vI a1] (mset M 76 0 0) (rI fun r1 M1 => ((r1 = 0 → P (-1) M1) ∧ (¬ r1 = 0 → EE d 140 [vI a2, vI 0, vI 27] M1 (rI fun r2 M2 => ((¬ r2 = 0 → H_130_33 d P a1 a2 0 0 0 M2) ∧ (r2 = 0 → P (-1) M2))))))) : EE (d + 1) 130 [vR 76, vI a1, vI a2] M (rI P) := by
  have hE := EE_mono d
  refine ee_130 ?_
  refine z_aload hE rfl rfl rfl ?_
  refine z_iconst hE rfl ?_
  refine z_putI hE (sl := 0) rfl shk_76 rfl rfl rfl ?_
  refine z_aload hE rfl rfl rfl ?_
  refine z_iload hE rfl rfl ?_
  refine z_callvI hE rfl rfl rfl rfl rfl (Nat.le_of_ble_eq_true rfl) (by decide) ⟨rfl, rfl⟩ (EE_mono d _ _ _ _ _ (rI_mono fun r1 M1 h => ?_) h)
  refine z_if_eq hE rfl ⟨fun q => ?_, fun q => ?_⟩
  · have h := h.1 q
    refine z_iconst hE rfl ?_
    exact z_iret hE rfl rfl h
  · have h := h.2 q
    refine z_iload hE rfl rfl ?_
    refine z_iconst hE rfl ?_
    refine z_iconst hE rfl ?_
    refine z_callsI hE rfl rfl rfl rfl rfl (Nat.le_of_ble_eq_true rfl) (by decide) (EE_mono d _ _ _ _ _ (rI_mono fun r2 M2 h => ?_) h)
    refine z_if_ne hE rfl ⟨fun q => ?_, fun q => ?_⟩
    · have h := h.1 q
      refine z_iconst hE rfl ?_
      refine z_istore hE rfl rfl rfl ?_
      refine z_iconst hE rfl ?_
      refine z_istore hE rfl rfl rfl ?_
      refine z_iconst hE rfl ?_
      refine z_istore hE rfl rfl rfl ?_
      exact h
    · have h := h.2 q
      refine z_iconst hE rfl ?_
      exact z_iret hE rfl rfl h
theorem sg_130_33 {d : Nat} {P : Int → Mm → Prop} {a1 : Int} {a2 : Int} {a3 : Int} {a4 : Int} {a5 : Int} {M : Mm} (h : (((M 76 2) ≤ a5 → inI (5 * a1) ∧ inI ((5 * a1) + 1) ∧ (0 ≤ ((5 * a1) + 1) ∧ ((5 * a1) + 1) < 120) ∧ EE d 146 [vI (M 89 ((5 * a1) + 1)), vI a3, vI a4] M (rI fun r1 M1 => P r1 M1)) ∧ (a5 < (M 76 2) → inI (7 * a2) ∧ EE d 167 [vR 76, vI a5, vI (7 * a2)] M (rI fun r2 M2 => ((¬ r2 = a1 → H_130_61 d P a1 a2 a3 a4 a5 0 M2) ∧ (r2 = a1 → H_130_61 d P a1 a2 a3 a4 a5 1 M2)))))) : H_130_33 d P a1 a2 a3 a4 a5 M := by
  have hE := EE_mono d
  unfold H_130_33
  refine z_iload hE rfl rfl ?_
  refine z_aload hE rfl rfl rfl ?_
  refine z_getI hE (sl := 2) rfl shk_76 rfl rfl rfl ?_
  refine z_icmp_ge hE rfl ⟨fun q => ?_, fun q => ?_⟩
  · have h := h.1 q
    refine z_aload hE rfl rfl rfl ?_
    refine z_getR hE (q := 89) rfl shk_76 rfl rfl rfl ?_
    refine z_iconst hE rfl ?_
    refine z_iload hE rfl rfl ?_
    have hb := h.1
    have h := h.2
    refine z_imul hE rfl hb ?_
    refine z_iconst hE rfl ?_
    have hb := h.1
    have h := h.2
    refine z_iadd hE rfl hb ?_
    have hb := h.1
    have h := h.2
    refine z_iald hE rfl shk_89 hb ?_
    refine z_iload hE rfl rfl ?_
    refine z_iload hE rfl rfl ?_
    refine z_callsI hE rfl rfl rfl rfl rfl (Nat.le_of_ble_eq_true rfl) (by decide) (EE_mono d _ _ _ _ _ (rI_mono fun r1 M1 h => ?_) h)
    exact z_iret hE rfl rfl h
  · have h := h.2 q
    refine z_aload hE rfl rfl rfl ?_
    refine z_iload hE rfl rfl ?_
    refine z_iconst hE rfl ?_
    refine z_iload hE rfl rfl ?_
    have hb := h.1
    have h := h.2
    refine z_imul hE rfl hb ?_
    refine z_callvI hE rfl rfl rfl rfl rfl (Nat.le_of_ble_eq_true rfl) (by decide) ⟨rfl, rfl⟩ (EE_mono d _ _ _ _ _ (rI_mono fun r2 M2 h => ?_) h)
    refine z_iload hE rfl rfl ?_
    refine z_icmp_ne hE rfl ⟨fun q => ?_, fun q => ?_⟩
    · have h := h.1 q
      refine z_iconst hE rfl ?_
      exact h
    · have h := h.2 q
      refine z_iconst hE rfl ?_
      refine z_goto hE rfl ?_
      exact h
theorem sg_130_61 {d : Nat} {P : Int → Mm → Prop} {a1 : Int} {a2 : Int} {a3 : Int} {a4 : Int} {a5 : Int} {s0 : Int} {M : Mm} (h : ((s0 = 0 → H_130_74 d P a1 a2 a4 a5 s0 0 a3 M) ∧ (¬ s0 = 0 → H_130_74 d P a1 a2 a4 a5 s0 1 a3 M))) : H_130_61 d P a1 a2 a3 a4 a5 s0 M := by
  have hE := EE_mono d
  unfold H_130_61
  refine z_istore hE rfl rfl rfl ?_
  refine z_iload hE rfl rfl ?_
  refine z_iload hE rfl rfl ?_
  refine z_if_eq hE rfl ⟨fun q => ?_, fun q => ?_⟩
  · have h := h.1 q
    refine z_iconst hE rfl ?_
    exact GoG.weak hE (ls := [vR 76, vI a1, vI a2, vU, vI a4, vI a5, vI s0]) ⟨Or.inl rfl, Or.inl rfl, Or.inl rfl, Or.inr ⟨rfl, _, rfl⟩, Or.inl rfl, Or.inl rfl, Or.inl rfl, trivial⟩ h
  · have h := h.2 q
    refine z_iconst hE rfl ?_
    refine z_goto hE rfl ?_
    exact GoG.weak hE (ls := [vR 76, vI a1, vI a2, vU, vI a4, vI a5, vI s0]) ⟨Or.inl rfl, Or.inl rfl, Or.inl rfl, Or.inr ⟨rfl, _, rfl⟩, Or.inl rfl, Or.inl rfl, Or.inl rfl, trivial⟩ h
theorem sg_130_74 {d : Nat} {P : Int → Mm → Prop} {a1 : Int} {a2 : Int} {a4 : Int} {a5 : Int} {a6 : Int} {s0 : Int} {s1 : Int} {M : Mm} (h : inI (s1 + s0) ∧ ((a6 = 0 → inI (a4 + 0) ∧ inI (a5 + 1) ∧ H_130_33 d P a1 a2 (s1 + s0) (a4 + 0) (a5 + 1) M) ∧ (¬ a6 = 0 → (0 ≤ a5 ∧ a5 < 48) ∧ ((5 ≤ (M 78 a5) → inI (a4 + 0) ∧ inI (a5 + 1) ∧ H_130_33 d P a1 a2 (s1 + s0) (a4 + 0) (a5 + 1) M) ∧ ((M 78 a5) < 5 → inI (a4 + 1) ∧ inI (a5 + 1) ∧ H_130_33 d P a1 a2 (s1 + s0) (a4 + 1) (a5 + 1) M))))) : H_130_74 d P a1 a2 a4 a5 a6 s0 s1 M := by
  have hE := EE_mono d
  unfold H_130_74
  have hb := h.1
  have h := h.2
  refine z_iadd hE rfl hb ?_
  refine z_istore hE rfl rfl rfl ?_
  refine z_iload hE rfl rfl ?_
  refine z_iload hE rfl rfl ?_
  refine z_if_eq hE rfl ⟨fun q => ?_, fun q => ?_⟩
  · have h := h.1 q
    refine z_iconst hE rfl ?_
    have hb := h.1
    have h := h.2
    refine z_iadd hE rfl hb ?_
    refine z_istore hE rfl rfl rfl ?_
    have hb := h.1
    have h := h.2
    refine z_iinc hE rfl rfl rfl hb ?_
    refine z_goto hE rfl ?_
    exact GoG.weak hE (ls := [vR 76, vI a1, vI a2, vI (s1 + s0), vI (a4 + 0), vI (a5 + 1), vU]) ⟨Or.inl rfl, Or.inl rfl, Or.inl rfl, Or.inl rfl, Or.inl rfl, Or.inl rfl, Or.inr ⟨rfl, _, rfl⟩, trivial⟩ h
  · have h := h.2 q
    refine z_aload hE rfl rfl rfl ?_
    refine z_getR hE (q := 78) rfl shk_76 rfl rfl rfl ?_
    refine z_iload hE rfl rfl ?_
    have hb := h.1
    have h := h.2
    refine z_iald hE rfl shk_78 hb ?_
    refine z_iconst hE rfl ?_
    refine z_icmp_ge hE rfl ⟨fun q => ?_, fun q => ?_⟩
    · have h := h.1 q
      refine z_iconst hE rfl ?_
      have hb := h.1
      have h := h.2
      refine z_iadd hE rfl hb ?_
      refine z_istore hE rfl rfl rfl ?_
      have hb := h.1
      have h := h.2
      refine z_iinc hE rfl rfl rfl hb ?_
      refine z_goto hE rfl ?_
      exact GoG.weak hE (ls := [vR 76, vI a1, vI a2, vI (s1 + s0), vI (a4 + 0), vI (a5 + 1), vU]) ⟨Or.inl rfl, Or.inl rfl, Or.inl rfl, Or.inl rfl, Or.inl rfl, Or.inl rfl, Or.inr ⟨rfl, _, rfl⟩, trivial⟩ h
    · have h := h.2 q
      refine z_iconst hE rfl ?_
      refine z_goto hE rfl ?_
      have hb := h.1
      have h := h.2
      refine z_iadd hE rfl hb ?_
      refine z_istore hE rfl rfl rfl ?_
      have hb := h.1
      have h := h.2
      refine z_iinc hE rfl rfl rfl hb ?_
      refine z_goto hE rfl ?_
      exact GoG.weak hE (ls := [vR 76, vI a1, vI a2, vI (s1 + s0), vI (a4 + 1), vI (a5 + 1), vU]) ⟨Or.inl rfl, Or.inl rfl, Or.inl rfl, Or.inl rfl, Or.inl rfl, Or.inl rfl, Or.inr ⟨rfl, _, rfl⟩, trivial⟩ h
/-! 131: ChildTrainsModel.free(II)I -/
theorem mN_131 : mN 131 = 3 := by decide +kernel
theorem ee_131 {d : Nat} {Q : Ql} {a1 : Int} {a2 : Int} {M : Mm} (h : GoG false (EE d) cd_131 Q 0 [vR 76, vI a1, vI a2] [] M) : EE (d + 1) 131 [vR 76, vI a1, vI a2] M Q := by
  have e : cdTab 131 = cd_131 := rfl
  unfold EE; rw [mN_131, e]; exact ⟨Nat.le_of_ble_eq_true rfl, h⟩
theorem sg_131 {d : Nat} {P : Int → Mm → Prop} {a1 : Int} {a2 : Int} {M : Mm} (h : EE d 162 [vR 76, vI a1] (mset M 76 0 0) (rI fun r1 M1 => ((r1 = 0 → P (-1) M1) ∧ (¬ r1 = 0 → EE d 163 [vI a2] M1 (rI fun r2 M2 => ((r2 = 0 → P (-1) M2) ∧ (¬ r2 = 0 → inI (5 * a1) ∧ inI ((5 * a1) + 2) ∧ (0 ≤ ((5 * a1) + 2) ∧ ((5 * a1) + 2) < 120) ∧ EE d 169 [vR 76, vI a1, vI a2] M2 (rI fun r3 M3 => inI ((M2 89 ((5 * a1) + 2)) - r3) ∧ P ((M2 89 ((5 * a1) + 2)) - r3) M3)))))))) : EE (d + 1) 131 [vR 76, vI a1, vI a2] M (rI P) := by
  have hE := EE_mono d
  refine ee_131 ?_
  refine z_aload hE rfl rfl rfl ?_
  refine z_iconst hE rfl ?_
  refine z_putI hE (sl := 0) rfl shk_76 rfl rfl rfl ?_
  refine z_aload hE rfl rfl rfl ?_
  refine z_iload hE rfl rfl ?_
  refine z_callvI hE rfl rfl rfl rfl rfl (Nat.le_of_ble_eq_true rfl) (by decide) ⟨rfl, rfl⟩ (EE_mono d _ _ _ _ _ (rI_mono fun r1 M1 h => ?_) h)
  refine z_if_eq hE rfl ⟨fun q => ?_, fun q => ?_⟩
  · have h := h.1 q
    refine z_iconst hE rfl ?_
    exact z_iret hE rfl rfl h
  · have h := h.2 q
    refine z_iload hE rfl rfl ?_
    refine z_callsI hE rfl rfl rfl rfl rfl (Nat.le_of_ble_eq_true rfl) (by decide) (EE_mono d _ _ _ _ _ (rI_mono fun r2 M2 h => ?_) h)
    refine z_if_eq hE rfl ⟨fun q => ?_, fun q => ?_⟩
    · have h := h.1 q
      refine z_iconst hE rfl ?_
      exact z_iret hE rfl rfl h
    · have h := h.2 q
      refine z_aload hE rfl rfl rfl ?_
      refine z_getR hE (q := 89) rfl shk_76 rfl rfl rfl ?_
      refine z_iconst hE rfl ?_
      refine z_iload hE rfl rfl ?_
      have hb := h.1
      have h := h.2
      refine z_imul hE rfl hb ?_
      refine z_iconst hE rfl ?_
      have hb := h.1
      have h := h.2
      refine z_iadd hE rfl hb ?_
      have hb := h.1
      have h := h.2
      refine z_iald hE rfl shk_89 hb ?_
      refine z_aload hE rfl rfl rfl ?_
      refine z_iload hE rfl rfl ?_
      refine z_iload hE rfl rfl ?_
      refine z_callvI hE rfl rfl rfl rfl rfl (Nat.le_of_ble_eq_true rfl) (by decide) ⟨rfl, rfl⟩ (EE_mono d _ _ _ _ _ (rI_mono fun r3 M3 h => ?_) h)
      have hb := h.1
      have h := h.2
      refine z_isub hE rfl hb ?_
      refine z_goto hE rfl ?_
      exact z_iret hE rfl rfl h
/-! 132: ChildTrainsModel.trouble(I)I -/
def H_132_17 (d : Nat) (P : Int → Mm → Prop) (a1 : Int) (a2 : Int) (M : Mm) : Prop := GoG false (EE d) cd_132 (rI P) 17 [vR 76, vI a1, vI a2, vU, vU] [] M
def H_132_30 (d : Nat) (P : Int → Mm → Prop) (a1 : Int) (a2 : Int) (a3 : Int) (a4 : Int) (M : Mm) : Prop := GoG false (EE d) cd_132 (rI P) 30 [vR 76, vI a1, vI a2, vI a3, vI a4] [] M
def H_132_93 (d : Nat) (P : Int → Mm → Prop) (a1 : Int) (a2 : Int) (a3 : Int) (M : Mm) : Prop := GoG false (EE d) cd_132 (rI P) 93 [vR 76, vI a1, vI a2, vI a3, vU] [] M
theorem mN_132 : mN 132 = 5 := by decide +kernel
theorem ee_132 {d : Nat} {Q : Ql} {a1 : Int} {M : Mm} (h : GoG false (EE d) cd_132 Q 0 [vR 76, vI a1, vU, vU, vU] [] M) : EE (d + 1) 132 [vR 76, vI a1] M Q := by
  have e : cdTab 132 = cd_132 := rfl
  unfold EE; rw [mN_132, e]; exact ⟨Nat.le_of_ble_eq_true rfl, h⟩
theorem sg_132 {d : Nat} {P : Int → Mm → Prop} {a1 : Int} {M : Mm} (h : EE d 162 [vR 76, vI a1] (mset M 76 0 0) (rI fun r1 M1 => ((¬ r1 = 0 → H_132_17 d P a1 0 M1) ∧ (r1 = 0 → P (-1) M1)))) : EE (d + 1) 132 [vR 76, vI a1] M (rI P) := by
  have hE := EE_mono d
  refine ee_132 ?_
  refine z_aload hE rfl rfl rfl ?_
  refine z_iconst hE rfl ?_
  refine z_putI hE (sl := 0) rfl shk_76 rfl rfl rfl ?_
  refine z_aload hE rfl rfl rfl ?_
  refine z_iload hE rfl rfl ?_
  refine z_callvI hE rfl rfl rfl rfl rfl (Nat.le_of_ble_eq_true rfl) (by decide) ⟨rfl, rfl⟩ (EE_mono d _ _ _ _ _ (rI_mono fun r1 M1 h => ?_) h)
  refine z_if_ne hE rfl ⟨fun q => ?_, fun q => ?_⟩
  · have h := h.1 q
    refine z_iconst hE rfl ?_
    refine z_istore hE rfl rfl rfl ?_
    exact h
  · have h := h.2 q
    refine z_iconst hE rfl ?_
    exact z_iret hE rfl rfl h
theorem sg_132_17 {d : Nat} {P : Int → Mm → Prop} {a1 : Int} {a2 : Int} {M : Mm} (h : (((M 76 28) ≤ a2 → P 0 M) ∧ (a2 < (M 76 28) → H_132_30 d P a1 a2 0 a2 M))) : H_132_17 d P a1 a2 M := by
  have hE := EE_mono d
  unfold H_132_17
  refine z_iload hE rfl rfl ?_
  refine z_aload hE rfl rfl rfl ?_
  refine z_getI hE (sl := 28) rfl shk_76 rfl rfl rfl ?_
  refine z_icmp_ge hE rfl ⟨fun q => ?_, fun q => ?_⟩
  · have h := h.1 q
    refine z_iconst hE rfl ?_
    exact z_iret hE rfl rfl h
  · have h := h.2 q
    refine z_iconst hE rfl ?_
    refine z_istore hE rfl rfl rfl ?_
    refine z_iload hE rfl rfl ?_
    refine z_istore hE rfl rfl rfl ?_
    exact h
theorem sg_132_30 {d : Nat} {P : Int → Mm → Prop} {a1 : Int} {a2 : Int} {a3 : Int} {a4 : Int} {M : Mm} (h : (((M 76 28) ≤ a4 → H_132_93 d P a1 a2 a3 M) ∧ (a4 < (M 76 28) → (0 ≤ a2 ∧ a2 < 80) ∧ ((¬ (M 98 a2) = a1 → H_132_93 d P a1 a2 a3 M) ∧ ((M 98 a2) = a1 → (0 ≤ a4 ∧ a4 < 80) ∧ ((¬ (M 98 a4) = a1 → inI (a3 + 0) ∧ inI (a4 + 1) ∧ H_132_30 d P a1 a2 (a3 + 0) (a4 + 1) M) ∧ ((M 98 a4) = a1 → (0 ≤ a4 ∧ a4 < 80) ∧ (0 ≤ a2 ∧ a2 < 80) ∧ inI ((M 97 a4) - (M 97 a2)) ∧ ((28 ≤ ((M 97 a4) - (M 97 a2)) → inI (a3 + 0) ∧ inI (a4 + 1) ∧ H_132_30 d P a1 a2 (a3 + 0) (a4 + 1) M) ∧ (((M 97 a4) - (M 97 a2)) < 28 → inI (a3 + 1) ∧ inI (a4 + 1) ∧ H_132_30 d P a1 a2 (a3 + 1) (a4 + 1) M))))))))) : H_132_30 d P a1 a2 a3 a4 M := by
  have hE := EE_mono d
  unfold H_132_30
  refine z_iload hE rfl rfl ?_
  refine z_aload hE rfl rfl rfl ?_
  refine z_getI hE (sl := 28) rfl shk_76 rfl rfl rfl ?_
  refine z_icmp_ge hE rfl ⟨fun q => ?_, fun q => ?_⟩
  · have h := h.1 q
    exact GoG.weak hE (ls := [vR 76, vI a1, vI a2, vI a3, vU]) ⟨Or.inl rfl, Or.inl rfl, Or.inl rfl, Or.inl rfl, Or.inr ⟨rfl, _, rfl⟩, trivial⟩ h
  · have h := h.2 q
    refine z_aload hE rfl rfl rfl ?_
    refine z_getR hE (q := 98) rfl shk_76 rfl rfl rfl ?_
    refine z_iload hE rfl rfl ?_
    have hb := h.1
    have h := h.2
    refine z_iald hE rfl shk_98 hb ?_
    refine z_iload hE rfl rfl ?_
    refine z_icmp_ne hE rfl ⟨fun q => ?_, fun q => ?_⟩
    · have h := h.1 q
      exact GoG.weak hE (ls := [vR 76, vI a1, vI a2, vI a3, vU]) ⟨Or.inl rfl, Or.inl rfl, Or.inl rfl, Or.inl rfl, Or.inr ⟨rfl, _, rfl⟩, trivial⟩ h
    · have h := h.2 q
      refine z_iload hE rfl rfl ?_
      refine z_aload hE rfl rfl rfl ?_
      refine z_getR hE (q := 98) rfl shk_76 rfl rfl rfl ?_
      refine z_iload hE rfl rfl ?_
      have hb := h.1
      have h := h.2
      refine z_iald hE rfl shk_98 hb ?_
      refine z_iload hE rfl rfl ?_
      refine z_icmp_ne hE rfl ⟨fun q => ?_, fun q => ?_⟩
      · have h := h.1 q
        refine z_iconst hE rfl ?_
        have hb := h.1
        have h := h.2
        refine z_iadd hE rfl hb ?_
        refine z_istore hE rfl rfl rfl ?_
        have hb := h.1
        have h := h.2
        refine z_iinc hE rfl rfl rfl hb ?_
        refine z_goto hE rfl ?_
        exact h
      · have h := h.2 q
        refine z_aload hE rfl rfl rfl ?_
        refine z_getR hE (q := 97) rfl shk_76 rfl rfl rfl ?_
        refine z_iload hE rfl rfl ?_
        have hb := h.1
        have h := h.2
        refine z_iald hE rfl shk_97 hb ?_
        refine z_aload hE rfl rfl rfl ?_
        refine z_getR hE (q := 97) rfl shk_76 rfl rfl rfl ?_
        refine z_iload hE rfl rfl ?_
        have hb := h.1
        have h := h.2
        refine z_iald hE rfl shk_97 hb ?_
        have hb := h.1
        have h := h.2
        refine z_isub hE rfl hb ?_
        refine z_iconst hE rfl ?_
        refine z_icmp_ge hE rfl ⟨fun q => ?_, fun q => ?_⟩
        · have h := h.1 q
          refine z_iconst hE rfl ?_
          have hb := h.1
          have h := h.2
          refine z_iadd hE rfl hb ?_
          refine z_istore hE rfl rfl rfl ?_
          have hb := h.1
          have h := h.2
          refine z_iinc hE rfl rfl rfl hb ?_
          refine z_goto hE rfl ?_
          exact h
        · have h := h.2 q
          refine z_iconst hE rfl ?_
          refine z_goto hE rfl ?_
          have hb := h.1
          have h := h.2
          refine z_iadd hE rfl hb ?_
          refine z_istore hE rfl rfl rfl ?_
          have hb := h.1
          have h := h.2
          refine z_iinc hE rfl rfl rfl hb ?_
          refine z_goto hE rfl ?_
          exact h
theorem sg_132_93 {d : Nat} {P : Int → Mm → Prop} {a1 : Int} {a2 : Int} {a3 : Int} {M : Mm} (h : ((a3 ≤ 3 → inI (a2 + 1) ∧ H_132_17 d P a1 (a2 + 1) M) ∧ (3 < a3 → P 1 M))) : H_132_93 d P a1 a2 a3 M := by
  have hE := EE_mono d
  unfold H_132_93
  refine z_iload hE rfl rfl ?_
  refine z_iconst hE rfl ?_
  refine z_icmp_le hE rfl ⟨fun q => ?_, fun q => ?_⟩
  · have h := h.1 q
    have hb := h.1
    have h := h.2
    refine z_iinc hE rfl rfl rfl hb ?_
    refine z_goto hE rfl ?_
    exact GoG.weak hE (ls := [vR 76, vI a1, vI (a2 + 1), vU, vU]) ⟨Or.inl rfl, Or.inl rfl, Or.inl rfl, Or.inr ⟨rfl, _, rfl⟩, Or.inl rfl, trivial⟩ h
  · have h := h.2 q
    refine z_iconst hE rfl ?_
    exact z_iret hE rfl rfl h
/-! 133: ChildTrainsModel.restless()I -/
def H_133_9 (d : Nat) (P : Int → Mm → Prop) (a1 : Int) (a2 : Int) (M : Mm) : Prop := GoG false (EE d) cd_133 (rI P) 9 [vR 76, vI a1, vI a2, vU, vU] [] M
def H_133_22 (d : Nat) (P : Int → Mm → Prop) (a1 : Int) (a2 : Int) (a3 : Int) (a4 : Int) (M : Mm) : Prop := GoG false (EE d) cd_133 (rI P) 22 [vR 76, vI a1, vI a2, vI a3, vI a4] [] M
theorem mN_133 : mN 133 = 5 := by decide +kernel
theorem ee_133 {d : Nat} {Q : Ql} {M : Mm} (h : GoG false (EE d) cd_133 Q 0 [vR 76, vU, vU, vU, vU] [] M) : EE (d + 1) 133 [vR 76] M Q := by
  have e : cdTab 133 = cd_133 := rfl
  unfold EE; rw [mN_133, e]; exact ⟨Nat.le_of_ble_eq_true rfl, h⟩
theorem sg_133 {d : Nat} {P : Int → Mm → Prop} {M : Mm} (h : H_133_9 d P 0 0 (mset M 76 0 0)) : EE (d + 1) 133 [vR 76] M (rI P) := by
  have hE := EE_mono d
  refine ee_133 ?_
  refine z_aload hE rfl rfl rfl ?_
  refine z_iconst hE rfl ?_
  refine z_putI hE (sl := 0) rfl shk_76 rfl rfl rfl ?_
  refine z_iconst hE rfl ?_
  refine z_istore hE rfl rfl rfl ?_
  refine z_iconst hE rfl ?_
  refine z_istore hE rfl rfl rfl ?_
  exact h
theorem sg_133_9 {d : Nat} {P : Int → Mm → Prop} {a1 : Int} {a2 : Int} {M : Mm} (h : (((M 76 2) ≤ a2 → P a1 M) ∧ (a2 < (M 76 2) → H_133_22 d P a1 a2 0 0 M))) : H_133_9 d P a1 a2 M := by
  have hE := EE_mono d
  unfold H_133_9
  refine z_iload hE rfl rfl ?_
  refine z_aload hE rfl rfl rfl ?_
  refine z_getI hE (sl := 2) rfl shk_76 rfl rfl rfl ?_
  refine z_icmp_ge hE rfl ⟨fun q => ?_, fun q => ?_⟩
  · have h := h.1 q
    refine z_iload hE rfl rfl ?_
    exact z_iret hE rfl rfl h
  · have h := h.2 q
    refine z_iconst hE rfl ?_
    refine z_istore hE rfl rfl rfl ?_
    refine z_iconst hE rfl ?_
    refine z_istore hE rfl rfl rfl ?_
    exact h
theorem sg_133_22 {d : Nat} {P : Int → Mm → Prop} {a1 : Int} {a2 : Int} {a3 : Int} {a4 : Int} {M : Mm} (h : (((M 76 28) ≤ a4 → ((a3 ≤ 2 → inI (a1 + 0) ∧ inI (a2 + 1) ∧ H_133_9 d P (a1 + 0) (a2 + 1) M) ∧ (2 < a3 → inI (a1 + 1) ∧ inI (a2 + 1) ∧ H_133_9 d P (a1 + 1) (a2 + 1) M))) ∧ (a4 < (M 76 28) → (0 ≤ a4 ∧ a4 < 80) ∧ ((¬ (M 95 a4) = a2 → inI (a3 + 0) ∧ inI (a4 + 1) ∧ H_133_22 d P a1 a2 (a3 + 0) (a4 + 1) M) ∧ ((M 95 a4) = a2 → (0 ≤ a4 ∧ a4 < 80) ∧ (((M 96 a4) = (-9) → inI (a3 + 0) ∧ inI (a4 + 1) ∧ H_133_22 d P a1 a2 (a3 + 0) (a4 + 1) M) ∧ (¬ (M 96 a4) = (-9) → (0 ≤ a4 ∧ a4 < 80) ∧ (((M 98 a4) = (-9) → inI (a3 + 0) ∧ inI (a4 + 1) ∧ H_133_22 d P a1 a2 (a3 + 0) (a4 + 1) M) ∧ (¬ (M 98 a4) = (-9) → inI (a3 + 1) ∧ inI (a4 + 1) ∧ H_133_22 d P a1 a2 (a3 + 1) (a4 + 1) M))))))))) : H_133_22 d P a1 a2 a3 a4 M := by
  have hE := EE_mono d
  unfold H_133_22
  refine z_iload hE rfl rfl ?_
  refine z_aload hE rfl rfl rfl ?_
  refine z_getI hE (sl := 28) rfl shk_76 rfl rfl rfl ?_
  refine z_icmp_ge hE rfl ⟨fun q => ?_, fun q => ?_⟩
  · have h := h.1 q
    refine z_iload hE rfl rfl ?_
    refine z_iload hE rfl rfl ?_
    refine z_iconst hE rfl ?_
    refine z_icmp_le hE rfl ⟨fun q => ?_, fun q => ?_⟩
    · have h := h.1 q
      refine z_iconst hE rfl ?_
      have hb := h.1
      have h := h.2
      refine z_iadd hE rfl hb ?_
      refine z_istore hE rfl rfl rfl ?_
      have hb := h.1
      have h := h.2
      refine z_iinc hE rfl rfl rfl hb ?_
      refine z_goto hE rfl ?_
      exact GoG.weak hE (ls := [vR 76, vI (a1 + 0), vI (a2 + 1), vU, vU]) ⟨Or.inl rfl, Or.inl rfl, Or.inl rfl, Or.inr ⟨rfl, _, rfl⟩, Or.inr ⟨rfl, _, rfl⟩, trivial⟩ h
    · have h := h.2 q
      refine z_iconst hE rfl ?_
      refine z_goto hE rfl ?_
      have hb := h.1
      have h := h.2
      refine z_iadd hE rfl hb ?_
      refine z_istore hE rfl rfl rfl ?_
      have hb := h.1
      have h := h.2
      refine z_iinc hE rfl rfl rfl hb ?_
      refine z_goto hE rfl ?_
      exact GoG.weak hE (ls := [vR 76, vI (a1 + 1), vI (a2 + 1), vU, vU]) ⟨Or.inl rfl, Or.inl rfl, Or.inl rfl, Or.inr ⟨rfl, _, rfl⟩, Or.inr ⟨rfl, _, rfl⟩, trivial⟩ h
  · have h := h.2 q
    refine z_iload hE rfl rfl ?_
    refine z_aload hE rfl rfl rfl ?_
    refine z_getR hE (q := 95) rfl shk_76 rfl rfl rfl ?_
    refine z_iload hE rfl rfl ?_
    have hb := h.1
    have h := h.2
    refine z_iald hE rfl shk_95 hb ?_
    refine z_iload hE rfl rfl ?_
    refine z_icmp_ne hE rfl ⟨fun q => ?_, fun q => ?_⟩
    · have h := h.1 q
      refine z_iconst hE rfl ?_
      have hb := h.1
      have h := h.2
      refine z_iadd hE rfl hb ?_
      refine z_istore hE rfl rfl rfl ?_
      have hb := h.1
      have h := h.2
      refine z_iinc hE rfl rfl rfl hb ?_
      refine z_goto hE rfl ?_
      exact h
    · have h := h.2 q
      refine z_aload hE rfl rfl rfl ?_
      refine z_getR hE (q := 96) rfl shk_76 rfl rfl rfl ?_
      refine z_iload hE rfl rfl ?_
      have hb := h.1
      have h := h.2
      refine z_iald hE rfl shk_96 hb ?_
      refine z_iconst hE rfl ?_
      refine z_icmp_eq hE rfl ⟨fun q => ?_, fun q => ?_⟩
      · have h := h.1 q
        refine z_iconst hE rfl ?_
        have hb := h.1
        have h := h.2
        refine z_iadd hE rfl hb ?_
        refine z_istore hE rfl rfl rfl ?_
        have hb := h.1
        have h := h.2
        refine z_iinc hE rfl rfl rfl hb ?_
        refine z_goto hE rfl ?_
        exact h
      · have h := h.2 q
        refine z_aload hE rfl rfl rfl ?_
        refine z_getR hE (q := 98) rfl shk_76 rfl rfl rfl ?_
        refine z_iload hE rfl rfl ?_
        have hb := h.1
        have h := h.2
        refine z_iald hE rfl shk_98 hb ?_
        refine z_iconst hE rfl ?_
        refine z_icmp_eq hE rfl ⟨fun q => ?_, fun q => ?_⟩
        · have h := h.1 q
          refine z_iconst hE rfl ?_
          have hb := h.1
          have h := h.2
          refine z_iadd hE rfl hb ?_
          refine z_istore hE rfl rfl rfl ?_
          have hb := h.1
          have h := h.2
          refine z_iinc hE rfl rfl rfl hb ?_
          refine z_goto hE rfl ?_
          exact h
        · have h := h.2 q
          refine z_iconst hE rfl ?_
          refine z_goto hE rfl ?_
          have hb := h.1
          have h := h.2
          refine z_iadd hE rfl hb ?_
          refine z_istore hE rfl rfl rfl ?_
          have hb := h.1
          have h := h.2
          refine z_iinc hE rfl rfl rfl hb ?_
          refine z_goto hE rfl ?_
          exact h
/-! 134: ChildTrainsModel.city(I)I -/
theorem mN_134 : mN 134 = 2 := by decide +kernel
theorem ee_134 {d : Nat} {Q : Ql} {a1 : Int} {M : Mm} (h : GoG false (EE d) cd_134 Q 0 [vR 76, vI a1] [] M) : EE (d + 1) 134 [vR 76, vI a1] M Q := by
  have e : cdTab 134 = cd_134 := rfl
  unfold EE; rw [mN_134, e]; exact ⟨Nat.le_of_ble_eq_true rfl, h⟩
theorem sg_134 {d : Nat} {P : Int → Mm → Prop} {a1 : Int} {M : Mm} (h : EE d 163 [vI a1] (mset M 76 0 0) (rI fun r1 M1 => ((r1 = 0 → P (-1) M1) ∧ (¬ r1 = 0 → EE d 169 [vR 76, vI (-9), vI a1] M1 (rI fun r2 M2 => P r2 M2))))) : EE (d + 1) 134 [vR 76, vI a1] M (rI P) := by
  have hE := EE_mono d
  refine ee_134 ?_
  refine z_aload hE rfl rfl rfl ?_
  refine z_iconst hE rfl ?_
  refine z_putI hE (sl := 0) rfl shk_76 rfl rfl rfl ?_
  refine z_iload hE rfl rfl ?_
  refine z_callsI hE rfl rfl rfl rfl rfl (Nat.le_of_ble_eq_true rfl) (by decide) (EE_mono d _ _ _ _ _ (rI_mono fun r1 M1 h => ?_) h)
  refine z_if_eq hE rfl ⟨fun q => ?_, fun q => ?_⟩
  · have h := h.1 q
    refine z_iconst hE rfl ?_
    exact z_iret hE rfl rfl h
  · have h := h.2 q
    refine z_aload hE rfl rfl rfl ?_
    refine z_iconst hE rfl ?_
    refine z_iload hE rfl rfl ?_
    refine z_callvI hE rfl rfl rfl rfl rfl (Nat.le_of_ble_eq_true rfl) (by decide) ⟨rfl, rfl⟩ (EE_mono d _ _ _ _ _ (rI_mono fun r2 M2 h => ?_) h)
    refine z_goto hE rfl ?_
    exact z_iret hE rfl rfl h
/-! 135: ChildTrainsModel.torn(JII)I -/
def H_135_35 (d : Nat) (P : Int → Mm → Prop) (a1 : Int) (a3 : Int) (a4 : Int) (a5 : Int) (a6 : Int) (M : Mm) : Prop := GoG false (EE d) cd_135 (rI P) 35 [vR 76, vL a1, vU, vI a3, vI a4, vI a5, vI a6, vU, vU, vU, vU, vU, vU, vU] [] M
def H_135_92 (d : Nat) (P : Int → Mm → Prop) (a1 : Int) (a3 : Int) (a4 : Int) (a5 : Int) (M : Mm) : Prop := GoG false (EE d) cd_135 (rI P) 92 [vR 76, vL a1, vU, vI a3, vI a4, vI a5, vU, vU, vU, vU, vU, vU, vU, vU] [] M
def H_135_109 (d : Nat) (P : Int → Mm → Prop) (a1 : Int) (a3 : Int) (a4 : Int) (a6 : Int) (a7 : Int) (a8 : Int) (M : Mm) : Prop := GoG false (EE d) cd_135 (rI P) 109 [vR 76, vL a1, vU, vI a3, vI a4, vU, vI a6, vI a7, vI a8, vU, vU, vU, vU, vU] [] M
def H_135_139 (d : Nat) (P : Int → Mm → Prop) (a1 : Int) (a3 : Int) (a4 : Int) (a6 : Int) (a7 : Int) (a8 : Int) (a9 : Int) (a10 : Int) (M : Mm) : Prop := GoG false (EE d) cd_135 (rI P) 139 [vR 76, vL a1, vU, vI a3, vI a4, vU, vI a6, vI a7, vI a8, vI a9, vI a10, vU, vU, vU] [] M
def H_135_206 (d : Nat) (P : Int → Mm → Prop) (a1 : Int) (a3 : Int) (a4 : Int) (a6 : Int) (a7 : Int) (a8 : Int) (a9 : Int) (M : Mm) : Prop := GoG false (EE d) cd_135 (rI P) 206 [vR 76, vL a1, vU, vI a3, vI a4, vU, vI a6, vI a7, vI a8, vI a9, vU, vU, vU, vU] [] M
def H_135_227 (d : Nat) (P : Int → Mm → Prop) (a1 : Int) (a3 : Int) (a4 : Int) (a7 : Int) (a8 : Int) (a9 : Int) (s0 : Int) (s1 : Int) (M : Mm) : Prop := GoG false (EE d) cd_135 (rI P) 227 [vR 76, vL a1, vU, vI a3, vI a4, vU, vU, vI a7, vI a8, vI a9, vU, vU, vU, vU] [vI s0, vI s1] M
def H_135_287 (d : Nat) (P : Int → Mm → Prop) (a1 : Int) (a6 : Int) (a8 : Int) (a9 : Int) (a10 : Int) (M : Mm) : Prop := GoG false (EE d) cd_135 (rI P) 287 [vR 76, vL a1, vU, vU, vU, vU, vI a6, vU, vI a8, vI a9, vI a10, vU, vU, vU] [] M
def H_135_302 (d : Nat) (P : Int → Mm → Prop) (a1 : Int) (a6 : Int) (a8 : Int) (a9 : Int) (a10 : Int) (a11 : Int) (M : Mm) : Prop := GoG false (EE d) cd_135 (rI P) 302 [vR 76, vL a1, vU, vU, vU, vU, vI a6, vU, vI a8, vI a9, vI a10, vI a11, vU, vU] [] M
def H_135_329 (d : Nat) (P : Int → Mm → Prop) (a1 : Int) (a6 : Int) (a8 : Int) (a9 : Int) (a10 : Int) (a11 : Int) (a12 : Int) (M : Mm) : Prop := GoG false (EE d) cd_135 (rI P) 329 [vR 76, vL a1, vU, vU, vU, vU, vI a6, vU, vI a8, vI a9, vI a10, vI a11, vI a12, vU] [] M
def H_135_420 (d : Nat) (P : Int → Mm → Prop) (a1 : Int) (a6 : Int) (a8 : Int) (a9 : Int) (a10 : Int) (a11 : Int) (a12 : Int) (s0 : Int) (M : Mm) : Prop := GoG false (EE d) cd_135 (rI P) 420 [vR 76, vL a1, vU, vU, vU, vU, vI a6, vU, vI a8, vI a9, vI a10, vI a11, vI a12, vU] [vI s0] M
theorem mN_135 : mN 135 = 14 := by decide +kernel
theorem ee_135 {d : Nat} {Q : Ql} {a1 : Int} {a3 : Int} {a4 : Int} {M : Mm} (h : GoG false (EE d) cd_135 Q 0 [vR 76, vL a1, vU, vI a3, vI a4, vU, vU, vU, vU, vU, vU, vU, vU, vU] [] M) : EE (d + 1) 135 [vR 76, vL a1, vI a3, vI a4] M Q := by
  have e : cdTab 135 = cd_135 := rfl
  unfold EE; rw [mN_135, e]; exact ⟨Nat.le_of_ble_eq_true rfl, h⟩
theorem sg_135 {d : Nat} {P : Int → Mm → Prop} {a1 : Int} {a3 : Int} {a4 : Int} {M : Mm} (h : EE d 140 [vI a3, vI 1, vI 8] (mset M 76 0 0) (rI fun r1 M1 => ((r1 = 0 → H_135_35 d P a1 a3 a4 0 0 M1) ∧ (¬ r1 = 0 → EE d 140 [vI a4, vI 0, vI 2] M1 (rI fun r2 M2 => ((r2 = 0 → H_135_35 d P a1 a3 a4 0 0 M2) ∧ (¬ r2 = 0 → H_135_35 d P a1 a3 a4 1 0 M2))))))) : EE (d + 1) 135 [vR 76, vL a1, vI a3, vI a4] M (rI P) := by
  have hE := EE_mono d
  refine ee_135 ?_
  refine z_aload hE rfl rfl rfl ?_
  refine z_iconst hE rfl ?_
  refine z_putI hE (sl := 0) rfl shk_76 rfl rfl rfl ?_
  refine z_iload hE rfl rfl ?_
  refine z_iconst hE rfl ?_
  refine z_iconst hE rfl ?_
  refine z_callsI hE rfl rfl rfl rfl rfl (Nat.le_of_ble_eq_true rfl) (by decide) (EE_mono d _ _ _ _ _ (rI_mono fun r1 M1 h => ?_) h)
  refine z_if_eq hE rfl ⟨fun q => ?_, fun q => ?_⟩
  · have h := h.1 q
    refine z_iconst hE rfl ?_
    refine z_istore hE rfl rfl rfl ?_
    refine z_iconst hE rfl ?_
    refine z_istore hE rfl rfl rfl ?_
    exact h
  · have h := h.2 q
    refine z_iload hE rfl rfl ?_
    refine z_iconst hE rfl ?_
    refine z_iconst hE rfl ?_
    refine z_callsI hE rfl rfl rfl rfl rfl (Nat.le_of_ble_eq_true rfl) (by decide) (EE_mono d _ _ _ _ _ (rI_mono fun r2 M2 h => ?_) h)
    refine z_if_eq hE rfl ⟨fun q => ?_, fun q => ?_⟩
    · have h := h.1 q
      refine z_iconst hE rfl ?_
      refine z_istore hE rfl rfl rfl ?_
      refine z_iconst hE rfl ?_
      refine z_istore hE rfl rfl rfl ?_
      exact h
    · have h := h.2 q
      refine z_iconst hE rfl ?_
      refine z_goto hE rfl ?_
      refine z_istore hE rfl rfl rfl ?_
      refine z_iconst hE rfl ?_
      refine z_istore hE rfl rfl rfl ?_
      exact h
theorem sg_135_35 {d : Nat} {P : Int → Mm → Prop} {a1 : Int} {a3 : Int} {a4 : Int} {a5 : Int} {a6 : Int} {M : Mm} (h : ((a3 ≤ a6 → H_135_92 d P a1 a3 a4 a5 M) ∧ (a6 < a3 → ((a5 = 0 → H_135_92 d P a1 a3 a4 a5 M) ∧ (¬ a5 = 0 → inI (8 * a6) ∧ (((wr (jand (jshr a1 (8 * a6)) 255)) = 63 → inI (a6 + 1) ∧ H_135_35 d P a1 a3 a4 1 (a6 + 1) M) ∧ (¬ (wr (jand (jshr a1 (8 * a6)) 255)) = 63 → EE d 140 [vI (wr (jand (jshr a1 (8 * a6)) 255)), vI 97, vI 122] M (rI fun r1 M1 => ((r1 = 0 → inI (a6 + 1) ∧ H_135_35 d P a1 a3 a4 0 (a6 + 1) M1) ∧ (¬ r1 = 0 → inI (a6 + 1) ∧ H_135_35 d P a1 a3 a4 1 (a6 + 1) M1)))))))))) : H_135_35 d P a1 a3 a4 a5 a6 M := by
  have hE := EE_mono d
  unfold H_135_35
  refine z_iload hE rfl rfl ?_
  refine z_iload hE rfl rfl ?_
  refine z_icmp_ge hE rfl ⟨fun q => ?_, fun q => ?_⟩
  · have h := h.1 q
    exact GoG.weak hE (ls := [vR 76, vL a1, vU, vI a3, vI a4, vI a5, vU, vU, vU, vU, vU, vU, vU, vU]) ⟨Or.inl rfl, Or.inl rfl, Or.inl rfl, Or.inl rfl, Or.inl rfl, Or.inl rfl, Or.inr ⟨rfl, _, rfl⟩, Or.inl rfl, Or.inl rfl, Or.inl rfl, Or.inl rfl, Or.inl rfl, Or.inl rfl, Or.inl rfl, trivial⟩ h
  · have h := h.2 q
    refine z_iload hE rfl rfl ?_
    refine z_if_eq hE rfl ⟨fun q => ?_, fun q => ?_⟩
    · have h := h.1 q
      exact GoG.weak hE (ls := [vR 76, vL a1, vU, vI a3, vI a4, vI a5, vU, vU, vU, vU, vU, vU, vU, vU]) ⟨Or.inl rfl, Or.inl rfl, Or.inl rfl, Or.inl rfl, Or.inl rfl, Or.inl rfl, Or.inr ⟨rfl, _, rfl⟩, Or.inl rfl, Or.inl rfl, Or.inl rfl, Or.inl rfl, Or.inl rfl, Or.inl rfl, Or.inl rfl, trivial⟩ h
    · have h := h.2 q
      refine z_lload hE rfl rfl ?_
      refine z_iconst hE rfl ?_
      refine z_iload hE rfl rfl ?_
      have hb := h.1
      have h := h.2
      refine z_imul hE rfl hb ?_
      refine z_lshr hE rfl ?_
      refine z_lconst hE rfl ?_
      refine z_land hE rfl ?_
      refine z_l2i hE rfl ?_
      refine z_istore hE rfl rfl rfl ?_
      refine z_iload hE rfl rfl ?_
      refine z_iconst hE rfl ?_
      refine z_icmp_eq hE rfl ⟨fun q => ?_, fun q => ?_⟩
      · have h := h.1 q
        refine z_iconst hE rfl ?_
        refine z_goto hE rfl ?_
        refine z_istore hE rfl rfl rfl ?_
        have hb := h.1
        have h := h.2
        refine z_iinc hE rfl rfl rfl hb ?_
        refine z_goto hE rfl ?_
        exact GoG.weak hE (ls := [vR 76, vL a1, vU, vI a3, vI a4, vI 1, vI (a6 + 1), vU, vU, vU, vU, vU, vU, vU]) ⟨Or.inl rfl, Or.inl rfl, Or.inl rfl, Or.inl rfl, Or.inl rfl, Or.inl rfl, Or.inl rfl, Or.inr ⟨rfl, _, rfl⟩, Or.inl rfl, Or.inl rfl, Or.inl rfl, Or.inl rfl, Or.inl rfl, Or.inl rfl, trivial⟩ h
      · have h := h.2 q
        refine z_iload hE rfl rfl ?_
        refine z_iconst hE rfl ?_
        refine z_iconst hE rfl ?_
        refine z_callsI hE rfl rfl rfl rfl rfl (Nat.le_of_ble_eq_true rfl) (by decide) (EE_mono d _ _ _ _ _ (rI_mono fun r1 M1 h => ?_) h)
        refine z_if_eq hE rfl ⟨fun q => ?_, fun q => ?_⟩
        · have h := h.1 q
          refine z_iconst hE rfl ?_
          refine z_istore hE rfl rfl rfl ?_
          have hb := h.1
          have h := h.2
          refine z_iinc hE rfl rfl rfl hb ?_
          refine z_goto hE rfl ?_
          exact GoG.weak hE (ls := [vR 76, vL a1, vU, vI a3, vI a4, vI 0, vI (a6 + 1), vU, vU, vU, vU, vU, vU, vU]) ⟨Or.inl rfl, Or.inl rfl, Or.inl rfl, Or.inl rfl, Or.inl rfl, Or.inl rfl, Or.inl rfl, Or.inr ⟨rfl, _, rfl⟩, Or.inl rfl, Or.inl rfl, Or.inl rfl, Or.inl rfl, Or.inl rfl, Or.inl rfl, trivial⟩ h
        · have h := h.2 q
          refine z_iconst hE rfl ?_
          refine z_goto hE rfl ?_
          refine z_istore hE rfl rfl rfl ?_
          have hb := h.1
          have h := h.2
          refine z_iinc hE rfl rfl rfl hb ?_
          refine z_goto hE rfl ?_
          exact GoG.weak hE (ls := [vR 76, vL a1, vU, vI a3, vI a4, vI 1, vI (a6 + 1), vU, vU, vU, vU, vU, vU, vU]) ⟨Or.inl rfl, Or.inl rfl, Or.inl rfl, Or.inl rfl, Or.inl rfl, Or.inl rfl, Or.inl rfl, Or.inr ⟨rfl, _, rfl⟩, Or.inl rfl, Or.inl rfl, Or.inl rfl, Or.inl rfl, Or.inl rfl, Or.inl rfl, trivial⟩ h
theorem sg_135_92 {d : Nat} {P : Int → Mm → Prop} {a1 : Int} {a3 : Int} {a4 : Int} {a5 : Int} {M : Mm} (h : ((¬ a5 = 0 → H_135_109 d P a1 a3 a4 0 (-9) 0 M) ∧ (a5 = 0 → P (-1) M))) : H_135_92 d P a1 a3 a4 a5 M := by
  have hE := EE_mono d
  unfold H_135_92
  refine z_iload hE rfl rfl ?_
  refine z_if_ne hE rfl ⟨fun q => ?_, fun q => ?_⟩
  · have h := h.1 q
    refine z_iconst hE rfl ?_
    refine z_istore hE rfl rfl rfl ?_
    refine z_iconst hE rfl ?_
    refine z_istore hE rfl rfl rfl ?_
    refine z_iconst hE rfl ?_
    refine z_istore hE rfl rfl rfl ?_
    exact GoG.weak hE (ls := [vR 76, vL a1, vU, vI a3, vI a4, vU, vI 0, vI (-9), vI 0, vU, vU, vU, vU, vU]) ⟨Or.inl rfl, Or.inl rfl, Or.inl rfl, Or.inl rfl, Or.inl rfl, Or.inr ⟨rfl, _, rfl⟩, Or.inl rfl, Or.inl rfl, Or.inl rfl, Or.inl rfl, Or.inl rfl, Or.inl rfl, Or.inl rfl, Or.inl rfl, trivial⟩ h
  · have h := h.2 q
    refine z_iconst hE rfl ?_
    exact z_iret hE rfl rfl h
theorem sg_135_109 {d : Nat} {P : Int → Mm → Prop} {a1 : Int} {a3 : Int} {a4 : Int} {a6 : Int} {a7 : Int} {a8 : Int} {M : Mm} (h : (((M 76 2) ≤ a8 → ((2 ≤ a4 → H_135_287 d P a1 a6 (-9) 100 0 M) ∧ (a4 < 2 → ((¬ a4 = 0 → P a7 M) ∧ (a4 = 0 → P a6 M))))) ∧ (a8 < (M 76 2) → (0 ≤ a8 ∧ a8 < 48) ∧ ((¬ (M 81 a8) = a3 → H_135_139 d P a1 a3 a4 a6 a7 a8 0 0 M) ∧ ((M 81 a8) = a3 → H_135_139 d P a1 a3 a4 a6 a7 a8 1 0 M))))) : H_135_109 d P a1 a3 a4 a6 a7 a8 M := by
  have hE := EE_mono d
  unfold H_135_109
  refine z_iload hE rfl rfl ?_
  refine z_aload hE rfl rfl rfl ?_
  refine z_getI hE (sl := 2) rfl shk_76 rfl rfl rfl ?_
  refine z_icmp_ge hE rfl ⟨fun q => ?_, fun q => ?_⟩
  · have h := h.1 q
    refine z_iload hE rfl rfl ?_
    refine z_iconst hE rfl ?_
    refine z_icmp_ge hE rfl ⟨fun q => ?_, fun q => ?_⟩
    · have h := h.1 q
      refine z_iconst hE rfl ?_
      refine z_istore hE rfl rfl rfl ?_
      refine z_iconst hE rfl ?_
      refine z_istore hE rfl rfl rfl ?_
      refine z_iconst hE rfl ?_
      refine z_istore hE rfl rfl rfl ?_
      exact GoG.weak hE (ls := [vR 76, vL a1, vU, vU, vU, vU, vI a6, vU, vI (-9), vI 100, vI 0, vU, vU, vU]) ⟨Or.inl rfl, Or.inl rfl, Or.inl rfl, Or.inr ⟨rfl, _, rfl⟩, Or.inr ⟨rfl, _, rfl⟩, Or.inl rfl, Or.inl rfl, Or.inr ⟨rfl, _, rfl⟩, Or.inl rfl, Or.inl rfl, Or.inl rfl, Or.inl rfl, Or.inl rfl, Or.inl rfl, trivial⟩ h
    · have h := h.2 q
      refine z_iload hE rfl rfl ?_
      refine z_if_ne hE rfl ⟨fun q => ?_, fun q => ?_⟩
      · have h := h.1 q
        refine z_iload hE rfl rfl ?_
        exact z_iret hE rfl rfl h
      · have h := h.2 q
        refine z_iload hE rfl rfl ?_
        refine z_goto hE rfl ?_
        exact z_iret hE rfl rfl h
  · have h := h.2 q
    refine z_aload hE rfl rfl rfl ?_
    refine z_getR hE (q := 81) rfl shk_76 rfl rfl rfl ?_
    refine z_iload hE rfl rfl ?_
    have hb := h.1
    have h := h.2
    refine z_iald hE rfl shk_81 hb ?_
    refine z_iload hE rfl rfl ?_
    refine z_icmp_ne hE rfl ⟨fun q => ?_, fun q => ?_⟩
    · have h := h.1 q
      refine z_iconst hE rfl ?_
      refine z_istore hE rfl rfl rfl ?_
      refine z_iconst hE rfl ?_
      refine z_istore hE rfl rfl rfl ?_
      exact h
    · have h := h.2 q
      refine z_iconst hE rfl ?_
      refine z_goto hE rfl ?_
      refine z_istore hE rfl rfl rfl ?_
      refine z_iconst hE rfl ?_
      refine z_istore hE rfl rfl rfl ?_
      exact h
theorem sg_135_139 {d : Nat} {P : Int → Mm → Prop} {a1 : Int} {a3 : Int} {a4 : Int} {a6 : Int} {a7 : Int} {a8 : Int} {a9 : Int} {a10 : Int} {M : Mm} (h : ((a3 ≤ a10 → H_135_206 d P a1 a3 a4 a6 a7 a8 a9 M) ∧ (a10 < a3 → ((a9 = 0 → H_135_206 d P a1 a3 a4 a6 a7 a8 a9 M) ∧ (¬ a9 = 0 → inI (a3 - 1) ∧ inI ((a3 - 1) - a10) ∧ inI (8 * ((a3 - 1) - a10)) ∧ (((wr (jand (jshr a1 (8 * ((a3 - 1) - a10))) 255)) = 63 → inI (a10 + 1) ∧ H_135_139 d P a1 a3 a4 a6 a7 a8 1 (a10 + 1) M) ∧ (¬ (wr (jand (jshr a1 (8 * ((a3 - 1) - a10))) 255)) = 63 → inI (8 * a8) ∧ inI ((8 * a8) + a10) ∧ (0 ≤ ((8 * a8) + a10) ∧ ((8 * a8) + a10) < 384) ∧ ((¬ (wr (jand (jshr a1 (8 * ((a3 - 1) - a10))) 255)) = (M 82 ((8 * a8) + a10)) → inI (a10 + 1) ∧ H_135_139 d P a1 a3 a4 a6 a7 a8 0 (a10 + 1) M) ∧ ((wr (jand (jshr a1 (8 * ((a3 - 1) - a10))) 255)) = (M 82 ((8 * a8) + a10)) → inI (a10 + 1) ∧ H_135_139 d P a1 a3 a4 a6 a7 a8 1 (a10 + 1) M))))))))) : H_135_139 d P a1 a3 a4 a6 a7 a8 a9 a10 M := by
  have hE := EE_mono d
  unfold H_135_139
  refine z_iload hE rfl rfl ?_
  refine z_iload hE rfl rfl ?_
  refine z_icmp_ge hE rfl ⟨fun q => ?_, fun q => ?_⟩
  · have h := h.1 q
    exact GoG.weak hE (ls := [vR 76, vL a1, vU, vI a3, vI a4, vU, vI a6, vI a7, vI a8, vI a9, vU, vU, vU, vU]) ⟨Or.inl rfl, Or.inl rfl, Or.inl rfl, Or.inl rfl, Or.inl rfl, Or.inl rfl, Or.inl rfl, Or.inl rfl, Or.inl rfl, Or.inl rfl, Or.inr ⟨rfl, _, rfl⟩, Or.inl rfl, Or.inl rfl, Or.inl rfl, trivial⟩ h
  · have h := h.2 q
    refine z_iload hE rfl rfl ?_
    refine z_if_eq hE rfl ⟨fun q => ?_, fun q => ?_⟩
    · have h := h.1 q
      exact GoG.weak hE (ls := [vR 76, vL a1, vU, vI a3, vI a4, vU, vI a6, vI a7, vI a8, vI a9, vU, vU, vU, vU]) ⟨Or.inl rfl, Or.inl rfl, Or.inl rfl, Or.inl rfl, Or.inl rfl, Or.inl rfl, Or.inl rfl, Or.inl rfl, Or.inl rfl, Or.inl rfl, Or.inr ⟨rfl, _, rfl⟩, Or.inl rfl, Or.inl rfl, Or.inl rfl, trivial⟩ h
    · have h := h.2 q
      refine z_lload hE rfl rfl ?_
      refine z_iconst hE rfl ?_
      refine z_iload hE rfl rfl ?_
      refine z_iconst hE rfl ?_
      have hb := h.1
      have h := h.2
      refine z_isub hE rfl hb ?_
      refine z_iload hE rfl rfl ?_
      have hb := h.1
      have h := h.2
      refine z_isub hE rfl hb ?_
      have hb := h.1
      have h := h.2
      refine z_imul hE rfl hb ?_
      refine z_lshr hE rfl ?_
      refine z_lconst hE rfl ?_
      refine z_land hE rfl ?_
      refine z_l2i hE rfl ?_
      refine z_istore hE rfl rfl rfl ?_
      refine z_iload hE rfl rfl ?_
      refine z_iconst hE rfl ?_
      refine z_icmp_eq hE rfl ⟨fun q => ?_, fun q => ?_⟩
      · have h := h.1 q
        refine z_iconst hE rfl ?_
        refine z_goto hE rfl ?_
        refine z_istore hE rfl rfl rfl ?_
        have hb := h.1
        have h := h.2
        refine z_iinc hE rfl rfl rfl hb ?_
        refine z_goto hE rfl ?_
        exact GoG.weak hE (ls := [vR 76, vL a1, vU, vI a3, vI a4, vU, vI a6, vI a7, vI a8, vI 1, vI (a10 + 1), vU, vU, vU]) ⟨Or.inl rfl, Or.inl rfl, Or.inl rfl, Or.inl rfl, Or.inl rfl, Or.inl rfl, Or.inl rfl, Or.inl rfl, Or.inl rfl, Or.inl rfl, Or.inl rfl, Or.inr ⟨rfl, _, rfl⟩, Or.inl rfl, Or.inl rfl, trivial⟩ h
      · have h := h.2 q
        refine z_iload hE rfl rfl ?_
        refine z_aload hE rfl rfl rfl ?_
        refine z_getR hE (q := 82) rfl shk_76 rfl rfl rfl ?_
        refine z_iconst hE rfl ?_
        refine z_iload hE rfl rfl ?_
        have hb := h.1
        have h := h.2
        refine z_imul hE rfl hb ?_
        refine z_iload hE rfl rfl ?_
        have hb := h.1
        have h := h.2
        refine z_iadd hE rfl hb ?_
        have hb := h.1
        have h := h.2
        refine z_iald hE rfl shk_82 hb ?_
        refine z_icmp_ne hE rfl ⟨fun q => ?_, fun q => ?_⟩
        · have h := h.1 q
          refine z_iconst hE rfl ?_
          refine z_istore hE rfl rfl rfl ?_
          have hb := h.1
          have h := h.2
          refine z_iinc hE rfl rfl rfl hb ?_
          refine z_goto hE rfl ?_
          exact GoG.weak hE (ls := [vR 76, vL a1, vU, vI a3, vI a4, vU, vI a6, vI a7, vI a8, vI 0, vI (a10 + 1), vU, vU, vU]) ⟨Or.inl rfl, Or.inl rfl, Or.inl rfl, Or.inl rfl, Or.inl rfl, Or.inl rfl, Or.inl rfl, Or.inl rfl, Or.inl rfl, Or.inl rfl, Or.inl rfl, Or.inr ⟨rfl, _, rfl⟩, Or.inl rfl, Or.inl rfl, trivial⟩ h
        · have h := h.2 q
          refine z_iconst hE rfl ?_
          refine z_goto hE rfl ?_
          refine z_istore hE rfl rfl rfl ?_
          have hb := h.1
          have h := h.2
          refine z_iinc hE rfl rfl rfl hb ?_
          refine z_goto hE rfl ?_
          exact GoG.weak hE (ls := [vR 76, vL a1, vU, vI a3, vI a4, vU, vI a6, vI a7, vI a8, vI 1, vI (a10 + 1), vU, vU, vU]) ⟨Or.inl rfl, Or.inl rfl, Or.inl rfl, Or.inl rfl, Or.inl rfl, Or.inl rfl, Or.inl rfl, Or.inl rfl, Or.inl rfl, Or.inl rfl, Or.inl rfl, Or.inr ⟨rfl, _, rfl⟩, Or.inl rfl, Or.inl rfl, trivial⟩ h
theorem sg_135_206 {d : Nat} {P : Int → Mm → Prop} {a1 : Int} {a3 : Int} {a4 : Int} {a6 : Int} {a7 : Int} {a8 : Int} {a9 : Int} {M : Mm} (h : (a9 = 0 ∨ a9 = 1) ∧ (0 ≤ a8 ∧ a8 < 48) ∧ ((a9 = 0 → H_135_227 d P a1 a3 a4 a7 a8 a9 0 a6 (mset M 107 a8 a9)) ∧ (¬ a9 = 0 → H_135_227 d P a1 a3 a4 a7 a8 a9 1 a6 (mset M 107 a8 a9)))) : H_135_206 d P a1 a3 a4 a6 a7 a8 a9 M := by
  have hE := EE_mono d
  unfold H_135_206
  refine z_aload hE rfl rfl rfl ?_
  refine z_getR hE (q := 107) rfl shk_76 rfl rfl rfl ?_
  refine z_iload hE rfl rfl ?_
  refine z_iload hE rfl rfl ?_
  have hb := h.1
  have h := h.2
  have hx := hb
  have hb := h.1
  have h := h.2
  refine z_bast hE rfl shk_107 hx hb ?_
  refine z_iload hE rfl rfl ?_
  refine z_iload hE rfl rfl ?_
  refine z_if_eq hE rfl ⟨fun q => ?_, fun q => ?_⟩
  · have h := h.1 q
    refine z_iconst hE rfl ?_
    exact GoG.weak hE (ls := [vR 76, vL a1, vU, vI a3, vI a4, vU, vU, vI a7, vI a8, vI a9, vU, vU, vU, vU]) ⟨Or.inl rfl, Or.inl rfl, Or.inl rfl, Or.inl rfl, Or.inl rfl, Or.inl rfl, Or.inr ⟨rfl, _, rfl⟩, Or.inl rfl, Or.inl rfl, Or.inl rfl, Or.inl rfl, Or.inl rfl, Or.inl rfl, Or.inl rfl, trivial⟩ h
  · have h := h.2 q
    refine z_iconst hE rfl ?_
    refine z_goto hE rfl ?_
    exact GoG.weak hE (ls := [vR 76, vL a1, vU, vI a3, vI a4, vU, vU, vI a7, vI a8, vI a9, vU, vU, vU, vU]) ⟨Or.inl rfl, Or.inl rfl, Or.inl rfl, Or.inl rfl, Or.inl rfl, Or.inl rfl, Or.inr ⟨rfl, _, rfl⟩, Or.inl rfl, Or.inl rfl, Or.inl rfl, Or.inl rfl, Or.inl rfl, Or.inl rfl, Or.inl rfl, trivial⟩ h
theorem sg_135_227 {d : Nat} {P : Int → Mm → Prop} {a1 : Int} {a3 : Int} {a4 : Int} {a7 : Int} {a8 : Int} {a9 : Int} {s0 : Int} {s1 : Int} {M : Mm} (h : inI (s1 + s0) ∧ ((a9 = 0 → inI (a8 + 1) ∧ H_135_109 d P a1 a3 a4 (s1 + s0) a7 (a8 + 1) M) ∧ (¬ a9 = 0 → ((¬ a7 = (-9) → inI (a8 + 1) ∧ H_135_109 d P a1 a3 a4 (s1 + s0) a7 (a8 + 1) M) ∧ (a7 = (-9) → inI (a8 + 1) ∧ H_135_109 d P a1 a3 a4 (s1 + s0) a8 (a8 + 1) M))))) : H_135_227 d P a1 a3 a4 a7 a8 a9 s0 s1 M := by
  have hE := EE_mono d
  unfold H_135_227
  have hb := h.1
  have h := h.2
  refine z_iadd hE rfl hb ?_
  refine z_istore hE rfl rfl rfl ?_
  refine z_iload hE rfl rfl ?_
  refine z_if_eq hE rfl ⟨fun q => ?_, fun q => ?_⟩
  · have h := h.1 q
    refine z_iload hE rfl rfl ?_
    refine z_istore hE rfl rfl rfl ?_
    have hb := h.1
    have h := h.2
    refine z_iinc hE rfl rfl rfl hb ?_
    refine z_goto hE rfl ?_
    exact GoG.weak hE (ls := [vR 76, vL a1, vU, vI a3, vI a4, vU, vI (s1 + s0), vI a7, vI (a8 + 1), vU, vU, vU, vU, vU]) ⟨Or.inl rfl, Or.inl rfl, Or.inl rfl, Or.inl rfl, Or.inl rfl, Or.inl rfl, Or.inl rfl, Or.inl rfl, Or.inl rfl, Or.inr ⟨rfl, _, rfl⟩, Or.inl rfl, Or.inl rfl, Or.inl rfl, Or.inl rfl, trivial⟩ h
  · have h := h.2 q
    refine z_iload hE rfl rfl ?_
    refine z_iconst hE rfl ?_
    refine z_icmp_ne hE rfl ⟨fun q => ?_, fun q => ?_⟩
    · have h := h.1 q
      refine z_iload hE rfl rfl ?_
      refine z_istore hE rfl rfl rfl ?_
      have hb := h.1
      have h := h.2
      refine z_iinc hE rfl rfl rfl hb ?_
      refine z_goto hE rfl ?_
      exact GoG.weak hE (ls := [vR 76, vL a1, vU, vI a3, vI a4, vU, vI (s1 + s0), vI a7, vI (a8 + 1), vU, vU, vU, vU, vU]) ⟨Or.inl rfl, Or.inl rfl, Or.inl rfl, Or.inl rfl, Or.inl rfl, Or.inl rfl, Or.inl rfl, Or.inl rfl, Or.inl rfl, Or.inr ⟨rfl, _, rfl⟩, Or.inl rfl, Or.inl rfl, Or.inl rfl, Or.inl rfl, trivial⟩ h
    · have h := h.2 q
      refine z_iload hE rfl rfl ?_
      refine z_goto hE rfl ?_
      refine z_istore hE rfl rfl rfl ?_
      have hb := h.1
      have h := h.2
      refine z_iinc hE rfl rfl rfl hb ?_
      refine z_goto hE rfl ?_
      exact GoG.weak hE (ls := [vR 76, vL a1, vU, vI a3, vI a4, vU, vI (s1 + s0), vI a8, vI (a8 + 1), vU, vU, vU, vU, vU]) ⟨Or.inl rfl, Or.inl rfl, Or.inl rfl, Or.inl rfl, Or.inl rfl, Or.inl rfl, Or.inl rfl, Or.inl rfl, Or.inl rfl, Or.inr ⟨rfl, _, rfl⟩, Or.inl rfl, Or.inl rfl, Or.inl rfl, Or.inl rfl, trivial⟩ h
theorem sg_135_287 {d : Nat} {P : Int → Mm → Prop} {a1 : Int} {a6 : Int} {a8 : Int} {a9 : Int} {a10 : Int} {M : Mm} (h : ((4 ≤ a10 → P a8 M) ∧ (a10 < 4 → ((a6 ≤ 1 → P a8 M) ∧ (1 < a6 → H_135_302 d P a1 a6 a8 a9 a10 0 M))))) : H_135_287 d P a1 a6 a8 a9 a10 M := by
  have hE := EE_mono d
  unfold H_135_287
  refine z_iload hE rfl rfl ?_
  refine z_iconst hE rfl ?_
  refine z_icmp_ge hE rfl ⟨fun q => ?_, fun q => ?_⟩
  · have h := h.1 q
    refine z_iload hE rfl rfl ?_
    exact z_iret hE rfl rfl h
  · have h := h.2 q
    refine z_iload hE rfl rfl ?_
    refine z_iconst hE rfl ?_
    refine z_icmp_le hE rfl ⟨fun q => ?_, fun q => ?_⟩
    · have h := h.1 q
      refine z_iload hE rfl rfl ?_
      exact z_iret hE rfl rfl h
    · have h := h.2 q
      refine z_iconst hE rfl ?_
      refine z_istore hE rfl rfl rfl ?_
      exact h
theorem sg_135_302 {d : Nat} {P : Int → Mm → Prop} {a1 : Int} {a6 : Int} {a8 : Int} {a9 : Int} {a10 : Int} {a11 : Int} {M : Mm} (h : ((9 ≤ a11 → H_135_329 d P a1 a6 a8 a9 a10 0 0 M) ∧ (a11 < 9 → (0 ≤ a11 ∧ a11 < 9) ∧ inI (a11 + 1) ∧ H_135_302 d P a1 a6 a8 a9 a10 (a11 + 1) (mset M 109 a11 0)))) : H_135_302 d P a1 a6 a8 a9 a10 a11 M := by
  have hE := EE_mono d
  unfold H_135_302
  refine z_iload hE rfl rfl ?_
  refine z_iconst hE rfl ?_
  refine z_icmp_ge hE rfl ⟨fun q => ?_, fun q => ?_⟩
  · have h := h.1 q
    refine z_iconst hE rfl ?_
    refine z_istore hE rfl rfl rfl ?_
    refine z_iconst hE rfl ?_
    refine z_istore hE rfl rfl rfl ?_
    exact h
  · have h := h.2 q
    refine z_aload hE rfl rfl rfl ?_
    refine z_getR hE (q := 109) rfl shk_76 rfl rfl rfl ?_
    refine z_iload hE rfl rfl ?_
    refine z_iconst hE rfl ?_
    have hb := h.1
    have h := h.2
    refine z_iast hE rfl shk_109 hb ?_
    have hb := h.1
    have h := h.2
    refine z_iinc hE rfl rfl rfl hb ?_
    refine z_goto hE rfl ?_
    exact h
theorem sg_135_329 {d : Nat} {P : Int → Mm → Prop} {a1 : Int} {a6 : Int} {a8 : Int} {a9 : Int} {a10 : Int} {a11 : Int} {a12 : Int} {M : Mm} (h : (((M 76 2) ≤ a12 → ((a9 ≤ a11 → inI (a10 + 1) ∧ H_135_287 d P a1 a6 a8 a9 (a10 + 1) M) ∧ (a11 < a9 → inI (a10 + 1) ∧ H_135_287 d P a1 a6 a10 a11 (a10 + 1) M))) ∧ (a12 < (M 76 2) → (0 ≤ a12 ∧ a12 < 48) ∧ (((M 107 a12) = 0 → inI (a12 + 1) ∧ H_135_329 d P a1 a6 a8 a9 a10 a11 (a12 + 1) M) ∧ (¬ (M 107 a12) = 0 → ((¬ a10 = 0 → ((¬ a10 = 1 → ((¬ a10 = 2 → (0 ≤ a12 ∧ a12 < 48) ∧ H_135_420 d P a1 a6 a8 a9 a10 a11 a12 (M 80 a12) M) ∧ (a10 = 2 → (0 ≤ a12 ∧ a12 < 48) ∧ (((M 79 a12) ≤ 0 → H_135_420 d P a1 a6 a8 a9 a10 a11 a12 0 M) ∧ (0 < (M 79 a12) → H_135_420 d P a1 a6 a8 a9 a10 a11 a12 1 M))))) ∧ (a10 = 1 → (0 ≤ a12 ∧ a12 < 48) ∧ (((M 78 a12) ≤ 8 → H_135_420 d P a1 a6 a8 a9 a10 a11 a12 0 M) ∧ (8 < (M 78 a12) → H_135_420 d P a1 a6 a8 a9 a10 a11 a12 1 M))))) ∧ (a10 = 0 → (0 ≤ a12 ∧ a12 < 48) ∧ H_135_420 d P a1 a6 a8 a9 a10 a11 a12 (M 77 a12) M))))))) : H_135_329 d P a1 a6 a8 a9 a10 a11 a12 M := by
  have hE := EE_mono d
  unfold H_135_329
  refine z_iload hE rfl rfl ?_
  refine z_aload hE rfl rfl rfl ?_
  refine z_getI hE (sl := 2) rfl shk_76 rfl rfl rfl ?_
  refine z_icmp_ge hE rfl ⟨fun q => ?_, fun q => ?_⟩
  · have h := h.1 q
    refine z_iload hE rfl rfl ?_
    refine z_iload hE rfl rfl ?_
    refine z_icmp_ge hE rfl ⟨fun q => ?_, fun q => ?_⟩
    · have h := h.1 q
      have hb := h.1
      have h := h.2
      refine z_iinc hE rfl rfl rfl hb ?_
      refine z_goto hE rfl ?_
      exact GoG.weak hE (ls := [vR 76, vL a1, vU, vU, vU, vU, vI a6, vU, vI a8, vI a9, vI (a10 + 1), vU, vU, vU]) ⟨Or.inl rfl, Or.inl rfl, Or.inl rfl, Or.inl rfl, Or.inl rfl, Or.inl rfl, Or.inl rfl, Or.inl rfl, Or.inl rfl, Or.inl rfl, Or.inl rfl, Or.inr ⟨rfl, _, rfl⟩, Or.inr ⟨rfl, _, rfl⟩, Or.inl rfl, trivial⟩ h
    · have h := h.2 q
      refine z_iload hE rfl rfl ?_
      refine z_istore hE rfl rfl rfl ?_
      refine z_iload hE rfl rfl ?_
      refine z_istore hE rfl rfl rfl ?_
      have hb := h.1
      have h := h.2
      refine z_iinc hE rfl rfl rfl hb ?_
      refine z_goto hE rfl ?_
      exact GoG.weak hE (ls := [vR 76, vL a1, vU, vU, vU, vU, vI a6, vU, vI a10, vI a11, vI (a10 + 1), vU, vU, vU]) ⟨Or.inl rfl, Or.inl rfl, Or.inl rfl, Or.inl rfl, Or.inl rfl, Or.inl rfl, Or.inl rfl, Or.inl rfl, Or.inl rfl, Or.inl rfl, Or.inl rfl, Or.inr ⟨rfl, _, rfl⟩, Or.inr ⟨rfl, _, rfl⟩, Or.inl rfl, trivial⟩ h
  · have h := h.2 q
    refine z_aload hE rfl rfl rfl ?_
    refine z_getR hE (q := 107) rfl shk_76 rfl rfl rfl ?_
    refine z_iload hE rfl rfl ?_
    have hb := h.1
    have h := h.2
    refine z_bald hE rfl shk_107 hb ?_
    refine z_if_eq hE rfl ⟨fun q => ?_, fun q => ?_⟩
    · have h := h.1 q
      have hb := h.1
      have h := h.2
      refine z_iinc hE rfl rfl rfl hb ?_
      refine z_goto hE rfl ?_
      exact h
    · have h := h.2 q
      refine z_iload hE rfl rfl ?_
      refine z_if_ne hE rfl ⟨fun q => ?_, fun q => ?_⟩
      · have h := h.1 q
        refine z_iload hE rfl rfl ?_
        refine z_iconst hE rfl ?_
        refine z_icmp_ne hE rfl ⟨fun q => ?_, fun q => ?_⟩
        · have h := h.1 q
          refine z_iload hE rfl rfl ?_
          refine z_iconst hE rfl ?_
          refine z_icmp_ne hE rfl ⟨fun q => ?_, fun q => ?_⟩
          · have h := h.1 q
            refine z_aload hE rfl rfl rfl ?_
            refine z_getR hE (q := 80) rfl shk_76 rfl rfl rfl ?_
            refine z_iload hE rfl rfl ?_
            have hb := h.1
            have h := h.2
            refine z_iald hE rfl shk_80 hb ?_
            exact h
          · have h := h.2 q
            refine z_aload hE rfl rfl rfl ?_
            refine z_getR hE (q := 79) rfl shk_76 rfl rfl rfl ?_
            refine z_iload hE rfl rfl ?_
            have hb := h.1
            have h := h.2
            refine z_iald hE rfl shk_79 hb ?_
            refine z_if_le hE rfl ⟨fun q => ?_, fun q => ?_⟩
            · have h := h.1 q
              refine z_iconst hE rfl ?_
              refine z_goto hE rfl ?_
              exact h
            · have h := h.2 q
              refine z_iconst hE rfl ?_
              refine z_goto hE rfl ?_
              exact h
        · have h := h.2 q
          refine z_aload hE rfl rfl rfl ?_
          refine z_getR hE (q := 78) rfl shk_76 rfl rfl rfl ?_
          refine z_iload hE rfl rfl ?_
          have hb := h.1
          have h := h.2
          refine z_iald hE rfl shk_78 hb ?_
          refine z_iconst hE rfl ?_
          refine z_icmp_le hE rfl ⟨fun q => ?_, fun q => ?_⟩
          · have h := h.1 q
            refine z_iconst hE rfl ?_
            refine z_goto hE rfl ?_
            exact h
          · have h := h.2 q
            refine z_iconst hE rfl ?_
            refine z_goto hE rfl ?_
            exact h
      · have h := h.2 q
        refine z_aload hE rfl rfl rfl ?_
        refine z_getR hE (q := 77) rfl shk_76 rfl rfl rfl ?_
        refine z_iload hE rfl rfl ?_
        have hb := h.1
        have h := h.2
        refine z_iald hE rfl shk_77 hb ?_
        refine z_goto hE rfl ?_
        exact h
theorem sg_135_420 {d : Nat} {P : Int → Mm → Prop} {a1 : Int} {a6 : Int} {a8 : Int} {a9 : Int} {a10 : Int} {a11 : Int} {a12 : Int} {s0 : Int} {M : Mm} (h : (0 ≤ s0 ∧ s0 < 9) ∧ inI ((M 109 s0) + 1) ∧ (0 ≤ s0 ∧ s0 < 9) ∧ (0 ≤ s0 ∧ s0 < 9) ∧ (((mset M 109 s0 ((M 109 s0) + 1)) 109 s0 ≤ a11 → inI (a12 + 1) ∧ H_135_329 d P a1 a6 a8 a9 a10 a11 (a12 + 1) (mset M 109 s0 ((M 109 s0) + 1))) ∧ (a11 < (mset M 109 s0 ((M 109 s0) + 1)) 109 s0 → (0 ≤ s0 ∧ s0 < 9) ∧ inI (a12 + 1) ∧ H_135_329 d P a1 a6 a8 a9 a10 ((mset M 109 s0 ((M 109 s0) + 1)) 109 s0) (a12 + 1) (mset M 109 s0 ((M 109 s0) + 1))))) : H_135_420 d P a1 a6 a8 a9 a10 a11 a12 s0 M := by
  have hE := EE_mono d
  unfold H_135_420
  refine z_istore hE rfl rfl rfl ?_
  refine z_aload hE rfl rfl rfl ?_
  refine z_getR hE (q := 109) rfl shk_76 rfl rfl rfl ?_
  refine z_iload hE rfl rfl ?_
  refine z_dup2 hE rfl rfl rfl ?_
  have hb := h.1
  have h := h.2
  refine z_iald hE rfl shk_109 hb ?_
  refine z_iconst hE rfl ?_
  have hb := h.1
  have h := h.2
  refine z_iadd hE rfl hb ?_
  have hb := h.1
  have h := h.2
  refine z_iast hE rfl shk_109 hb ?_
  refine z_aload hE rfl rfl rfl ?_
  refine z_getR hE (q := 109) rfl shk_76 rfl rfl rfl ?_
  refine z_iload hE rfl rfl ?_
  have hb := h.1
  have h := h.2
  refine z_iald hE rfl shk_109 hb ?_
  refine z_iload hE rfl rfl ?_
  refine z_icmp_le hE rfl ⟨fun q => ?_, fun q => ?_⟩
  · have h := h.1 q
    refine z_iload hE rfl rfl ?_
    refine z_istore hE rfl rfl rfl ?_
    have hb := h.1
    have h := h.2
    refine z_iinc hE rfl rfl rfl hb ?_
    refine z_goto hE rfl ?_
    exact GoG.weak hE (ls := [vR 76, vL a1, vU, vU, vU, vU, vI a6, vU, vI a8, vI a9, vI a10, vI a11, vI (a12 + 1), vU]) ⟨Or.inl rfl, Or.inl rfl, Or.inl rfl, Or.inl rfl, Or.inl rfl, Or.inl rfl, Or.inl rfl, Or.inl rfl, Or.inl rfl, Or.inl rfl, Or.inl rfl, Or.inl rfl, Or.inl rfl, Or.inr ⟨rfl, _, rfl⟩, trivial⟩ h
  · have h := h.2 q
    refine z_aload hE rfl rfl rfl ?_
    refine z_getR hE (q := 109) rfl shk_76 rfl rfl rfl ?_
    refine z_iload hE rfl rfl ?_
    have hb := h.1
    have h := h.2
    refine z_iald hE rfl shk_109 hb ?_
    refine z_goto hE rfl ?_
    refine z_istore hE rfl rfl rfl ?_
    have hb := h.1
    have h := h.2
    refine z_iinc hE rfl rfl rfl hb ?_
    refine z_goto hE rfl ?_
    exact GoG.weak hE (ls := [vR 76, vL a1, vU, vU, vU, vU, vI a6, vU, vI a8, vI a9, vI a10, vI ((mset M 109 s0 ((M 109 s0) + 1)) 109 s0), vI (a12 + 1), vU]) ⟨Or.inl rfl, Or.inl rfl, Or.inl rfl, Or.inl rfl, Or.inl rfl, Or.inl rfl, Or.inl rfl, Or.inl rfl, Or.inl rfl, Or.inl rfl, Or.inl rfl, Or.inl rfl, Or.inl rfl, Or.inr ⟨rfl, _, rfl⟩, trivial⟩ h
/-! 136: ChildTrainsModel.paths(I)I -/
def H_136_18 (d : Nat) (P : Int → Mm → Prop) (a1 : Int) (a2 : Int) (M : Mm) : Prop := GoG false (EE d) cd_136 (rI P) 18 [vR 76, vI a1, vI a2, vU, vU, vU, vU, vU, vU, vU, vU] [] M
def H_136_49 (d : Nat) (P : Int → Mm → Prop) (a1 : Int) (a2 : Int) (M : Mm) : Prop := GoG false (EE d) cd_136 (rI P) 49 [vR 76, vI a1, vI a2, vU, vU, vU, vU, vU, vU, vU, vU] [] M
def H_136_72 (d : Nat) (P : Int → Mm → Prop) (a1 : Int) (a2 : Int) (a3 : Int) (a4 : Int) (a5 : Int) (M : Mm) : Prop := GoG false (EE d) cd_136 (rI P) 72 [vR 76, vI a1, vI a2, vI a3, vI a4, vI a5, vU, vU, vU, vU, vU] [] M
def H_136_155 (d : Nat) (P : Int → Mm → Prop) (a1 : Int) (a2 : Int) (a3 : Int) (a4 : Int) (a5 : Int) (M : Mm) : Prop := GoG false (EE d) cd_136 (rI P) 155 [vR 76, vI a1, vI a2, vI a3, vI a4, vI a5, vU, vU, vU, vU, vU] [] M
def H_136_195 (d : Nat) (P : Int → Mm → Prop) (a1 : Int) (a2 : Int) (a3 : Int) (a4 : Int) (a5 : Int) (a7 : Int) (M : Mm) : Prop := GoG false (EE d) cd_136 (rI P) 195 [vR 76, vI a1, vI a2, vI a3, vI a4, vI a5, vU, vI a7, vU, vU, vU] [] M
def H_136_243 (d : Nat) (P : Int → Mm → Prop) (a1 : Int) (a2 : Int) (a3 : Int) (a4 : Int) (a5 : Int) (a7 : Int) (M : Mm) : Prop := GoG false (EE d) cd_136 (rI P) 243 [vR 76, vI a1, vI a2, vI a3, vI a4, vI a5, vU, vI a7, vU, vU, vU] [] M
def H_136_244 (d : Nat) (P : Int → Mm → Prop) (a1 : Int) (a2 : Int) (a3 : Int) (a4 : Int) (a5 : Int) (a7 : Int) (s0 : Int) (M : Mm) : Prop := GoG false (EE d) cd_136 (rI P) 244 [vR 76, vI a1, vI a2, vI a3, vI a4, vI a5, vU, vI a7, vU, vU, vU] [vI s0] M
def H_136_325 (d : Nat) (P : Int → Mm → Prop) (a1 : Int) (a2 : Int) (a3 : Int) (a4 : Int) (M : Mm) : Prop := GoG false (EE d) cd_136 (rI P) 325 [vR 76, vI a1, vI a2, vI a3, vI a4, vU, vU, vU, vU, vU, vU] [] M
def H_136_379 (d : Nat) (P : Int → Mm → Prop) (a1 : Int) (a4 : Int) (a5 : Int) (M : Mm) : Prop := GoG false (EE d) cd_136 (rI P) 379 [vR 76, vI a1, vU, vU, vI a4, vI a5, vU, vU, vU, vU, vU] [] M
theorem mN_136 : mN 136 = 11 := by decide +kernel
theorem ee_136 {d : Nat} {Q : Ql} {a1 : Int} {M : Mm} (h : GoG false (EE d) cd_136 Q 0 [vR 76, vI a1, vU, vU, vU, vU, vU, vU, vU, vU, vU] [] M) : EE (d + 1) 136 [vR 76, vI a1] M Q := by
  have e : cdTab 136 = cd_136 := rfl
  unfold EE; rw [mN_136, e]; exact ⟨Nat.le_of_ble_eq_true rfl, h⟩
theorem sg_136 {d : Nat} {P : Int → Mm → Prop} {a1 : Int} {M : Mm} (h : EE d 140 [vI a1, vI 0, vI 1] (mset M 76 0 0) (rI fun r1 M1 => ((¬ r1 = 0 → H_136_18 d P a1 0 M1) ∧ (r1 = 0 → P (-1) M1)))) : EE (d + 1) 136 [vR 76, vI a1] M (rI P) := by
  have hE := EE_mono d
  refine ee_136 ?_
  refine z_aload hE rfl rfl rfl ?_
  refine z_iconst hE rfl ?_
  refine z_putI hE (sl := 0) rfl shk_76 rfl rfl rfl ?_
  refine z_iload hE rfl rfl ?_
  refine z_iconst hE rfl ?_
  refine z_iconst hE rfl ?_
  refine z_callsI hE rfl rfl rfl rfl rfl (Nat.le_of_ble_eq_true rfl) (by decide) (EE_mono d _ _ _ _ _ (rI_mono fun r1 M1 h => ?_) h)
  refine z_if_ne hE rfl ⟨fun q => ?_, fun q => ?_⟩
  · have h := h.1 q
    refine z_iconst hE rfl ?_
    refine z_istore hE rfl rfl rfl ?_
    exact h
  · have h := h.2 q
    refine z_iconst hE rfl ?_
    exact z_iret hE rfl rfl h
theorem sg_136_18 {d : Nat} {P : Int → Mm → Prop} {a1 : Int} {a2 : Int} {M : Mm} (h : ((16384 ≤ a2 → H_136_49 d P a1 0 M) ∧ (a2 < 16384 → ((¬ a2 = 0 → (0 ≤ a2 ∧ a2 < 16384) ∧ inI (a2 + 1) ∧ H_136_18 d P a1 (a2 + 1) (mset M 108 a2 1000000)) ∧ (a2 = 0 → (0 ≤ a2 ∧ a2 < 16384) ∧ inI (a2 + 1) ∧ H_136_18 d P a1 (a2 + 1) (mset M 108 a2 0)))))) : H_136_18 d P a1 a2 M := by
  have hE := EE_mono d
  unfold H_136_18
  refine z_iload hE rfl rfl ?_
  refine z_iconst hE rfl ?_
  refine z_icmp_ge hE rfl ⟨fun q => ?_, fun q => ?_⟩
  · have h := h.1 q
    refine z_iconst hE rfl ?_
    refine z_istore hE rfl rfl rfl ?_
    exact h
  · have h := h.2 q
    refine z_aload hE rfl rfl rfl ?_
    refine z_getR hE (q := 108) rfl shk_76 rfl rfl rfl ?_
    refine z_iload hE rfl rfl ?_
    refine z_iload hE rfl rfl ?_
    refine z_if_ne hE rfl ⟨fun q => ?_, fun q => ?_⟩
    · have h := h.1 q
      refine z_iconst hE rfl ?_
      have hb := h.1
      have h := h.2
      refine z_iast hE rfl shk_108 hb ?_
      have hb := h.1
      have h := h.2
      refine z_iinc hE rfl rfl rfl hb ?_
      refine z_goto hE rfl ?_
      exact h
    · have h := h.2 q
      refine z_iconst hE rfl ?_
      refine z_goto hE rfl ?_
      have hb := h.1
      have h := h.2
      refine z_iast hE rfl shk_108 hb ?_
      have hb := h.1
      have h := h.2
      refine z_iinc hE rfl rfl rfl hb ?_
      refine z_goto hE rfl ?_
      exact h
theorem sg_136_49 {d : Nat} {P : Int → Mm → Prop} {a1 : Int} {a2 : Int} {M : Mm} (h : ((6 ≤ a2 → H_136_325 d P a1 0 0 0 M) ∧ (a2 < 6 → inI (5 * a2) ∧ inI ((5 * a2) + 4) ∧ (0 ≤ ((5 * a2) + 4) ∧ ((5 * a2) + 4) < 30) ∧ H_136_72 d P a1 a2 (M 84 ((5 * a2) + 4)) 0 0 M))) : H_136_49 d P a1 a2 M := by
  have hE := EE_mono d
  unfold H_136_49
  refine z_iload hE rfl rfl ?_
  refine z_iconst hE rfl ?_
  refine z_icmp_ge hE rfl ⟨fun q => ?_, fun q => ?_⟩
  · have h := h.1 q
    refine z_iconst hE rfl ?_
    refine z_istore hE rfl rfl rfl ?_
    refine z_iconst hE rfl ?_
    refine z_istore hE rfl rfl rfl ?_
    refine z_iconst hE rfl ?_
    refine z_istore hE rfl rfl rfl ?_
    exact h
  · have h := h.2 q
    refine z_aload hE rfl rfl rfl ?_
    refine z_getR hE (q := 84) rfl shk_76 rfl rfl rfl ?_
    refine z_iconst hE rfl ?_
    refine z_iload hE rfl rfl ?_
    have hb := h.1
    have h := h.2
    refine z_imul hE rfl hb ?_
    refine z_iconst hE rfl ?_
    have hb := h.1
    have h := h.2
    refine z_iadd hE rfl hb ?_
    have hb := h.1
    have h := h.2
    refine z_iald hE rfl shk_84 hb ?_
    refine z_istore hE rfl rfl rfl ?_
    refine z_iconst hE rfl ?_
    refine z_istore hE rfl rfl rfl ?_
    refine z_iconst hE rfl ?_
    refine z_istore hE rfl rfl rfl ?_
    exact h
theorem sg_136_72 {d : Nat} {P : Int → Mm → Prop} {a1 : Int} {a2 : Int} {a3 : Int} {a4 : Int} {a5 : Int} {M : Mm} (h : (((M 76 16) ≤ a5 → inI (5 * a2) ∧ inI ((5 * a2) + 2) ∧ (0 ≤ ((5 * a2) + 2) ∧ ((5 * a2) + 2) < 30) ∧ ((a4 ≤ (M 84 ((5 * a2) + 2)) → H_136_155 d P a1 a2 a3 a4 1 M) ∧ ((M 84 ((5 * a2) + 2)) < a4 → inI (5 * a2) ∧ inI ((5 * a2) + 2) ∧ (0 ≤ ((5 * a2) + 2) ∧ ((5 * a2) + 2) < 30) ∧ H_136_155 d P a1 a2 a3 (M 84 ((5 * a2) + 2)) 1 M))) ∧ (a5 < (M 76 16) → inI (5 * a5) ∧ (0 ≤ (5 * a5) ∧ (5 * a5) < 120) ∧ ((¬ (M 89 (5 * a5)) = a3 → inI (a4 + 0) ∧ inI (a5 + 1) ∧ H_136_72 d P a1 a2 a3 (a4 + 0) (a5 + 1) M) ∧ ((M 89 (5 * a5)) = a3 → inI (5 * a5) ∧ inI ((5 * a5) + 2) ∧ (0 ≤ ((5 * a5) + 2) ∧ ((5 * a5) + 2) < 120) ∧ inI (a4 + (M 89 ((5 * a5) + 2))) ∧ inI (a5 + 1) ∧ H_136_72 d P a1 a2 a3 (a4 + (M 89 ((5 * a5) + 2))) (a5 + 1) M))))) : H_136_72 d P a1 a2 a3 a4 a5 M := by
  have hE := EE_mono d
  unfold H_136_72
  refine z_iload hE rfl rfl ?_
  refine z_aload hE rfl rfl rfl ?_
  refine z_getI hE (sl := 16) rfl shk_76 rfl rfl rfl ?_
  refine z_icmp_ge hE rfl ⟨fun q => ?_, fun q => ?_⟩
  · have h := h.1 q
    refine z_aload hE rfl rfl rfl ?_
    refine z_getR hE (q := 84) rfl shk_76 rfl rfl rfl ?_
    refine z_iconst hE rfl ?_
    refine z_iload hE rfl rfl ?_
    have hb := h.1
    have h := h.2
    refine z_imul hE rfl hb ?_
    refine z_iconst hE rfl ?_
    have hb := h.1
    have h := h.2
    refine z_iadd hE rfl hb ?_
    have hb := h.1
    have h := h.2
    refine z_iald hE rfl shk_84 hb ?_
    refine z_iload hE rfl rfl ?_
    refine z_icmp_ge hE rfl ⟨fun q => ?_, fun q => ?_⟩
    · have h := h.1 q
      refine z_iload hE rfl rfl ?_
      refine z_istore hE rfl rfl rfl ?_
      refine z_iconst hE rfl ?_
      refine z_istore hE rfl rfl rfl ?_
      exact h
    · have h := h.2 q
      refine z_aload hE rfl rfl rfl ?_
      refine z_getR hE (q := 84) rfl shk_76 rfl rfl rfl ?_
      refine z_iconst hE rfl ?_
      refine z_iload hE rfl rfl ?_
      have hb := h.1
      have h := h.2
      refine z_imul hE rfl hb ?_
      refine z_iconst hE rfl ?_
      have hb := h.1
      have h := h.2
      refine z_iadd hE rfl hb ?_
      have hb := h.1
      have h := h.2
      refine z_iald hE rfl shk_84 hb ?_
      refine z_goto hE rfl ?_
      refine z_istore hE rfl rfl rfl ?_
      refine z_iconst hE rfl ?_
      refine z_istore hE rfl rfl rfl ?_
      exact h
  · have h := h.2 q
    refine z_iload hE rfl rfl ?_
    refine z_aload hE rfl rfl rfl ?_
    refine z_getR hE (q := 89) rfl shk_76 rfl rfl rfl ?_
    refine z_iconst hE rfl ?_
    refine z_iload hE rfl rfl ?_
    have hb := h.1
    have h := h.2
    refine z_imul hE rfl hb ?_
    have hb := h.1
    have h := h.2
    refine z_iald hE rfl shk_89 hb ?_
    refine z_iload hE rfl rfl ?_
    refine z_icmp_ne hE rfl ⟨fun q => ?_, fun q => ?_⟩
    · have h := h.1 q
      refine z_iconst hE rfl ?_
      have hb := h.1
      have h := h.2
      refine z_iadd hE rfl hb ?_
      refine z_istore hE rfl rfl rfl ?_
      have hb := h.1
      have h := h.2
      refine z_iinc hE rfl rfl rfl hb ?_
      refine z_goto hE rfl ?_
      exact h
    · have h := h.2 q
      refine z_aload hE rfl rfl rfl ?_
      refine z_getR hE (q := 89) rfl shk_76 rfl rfl rfl ?_
      refine z_iconst hE rfl ?_
      refine z_iload hE rfl rfl ?_
      have hb := h.1
      have h := h.2
      refine z_imul hE rfl hb ?_
      refine z_iconst hE rfl ?_
      have hb := h.1
      have h := h.2
      refine z_iadd hE rfl hb ?_
      have hb := h.1
      have h := h.2
      refine z_iald hE rfl shk_89 hb ?_
      refine z_goto hE rfl ?_
      have hb := h.1
      have h := h.2
      refine z_iadd hE rfl hb ?_
      refine z_istore hE rfl rfl rfl ?_
      have hb := h.1
      have h := h.2
      refine z_iinc hE rfl rfl rfl hb ?_
      refine z_goto hE rfl ?_
      exact h
theorem sg_136_155 {d : Nat} {P : Int → Mm → Prop} {a1 : Int} {a2 : Int} {a3 : Int} {a4 : Int} {a5 : Int} {M : Mm} (h : ((256 ≤ a5 → inI (a2 + 1) ∧ H_136_49 d P a1 (a2 + 1) M) ∧ (a5 < 256 → EE d 171 [vR 76, vI a5] M (rI fun r1 M1 => ((r1 ≤ 0 → inI (a5 + 1) ∧ H_136_155 d P a1 a2 a3 a4 (a5 + 1) M1) ∧ (0 < r1 → ((a4 < r1 → inI (a5 + 1) ∧ H_136_155 d P a1 a2 a3 a4 (a5 + 1) M1) ∧ (r1 ≤ a4 → EE d 172 [vR 76, vI a5] M1 (rI fun r2 M2 => ((r2 = 0 → inI (a5 + 1) ∧ H_136_155 d P a1 a2 a3 a4 (a5 + 1) M2) ∧ (¬ r2 = 0 → H_136_195 d P a1 a2 a3 a4 a5 0 M2))))))))))) : H_136_155 d P a1 a2 a3 a4 a5 M := by
  have hE := EE_mono d
  unfold H_136_155
  refine z_iload hE rfl rfl ?_
  refine z_iconst hE rfl ?_
  refine z_icmp_ge hE rfl ⟨fun q => ?_, fun q => ?_⟩
  · have h := h.1 q
    have hb := h.1
    have h := h.2
    refine z_iinc hE rfl rfl rfl hb ?_
    refine z_goto hE rfl ?_
    exact GoG.weak hE (ls := [vR 76, vI a1, vI (a2 + 1), vU, vU, vU, vU, vU, vU, vU, vU]) ⟨Or.inl rfl, Or.inl rfl, Or.inl rfl, Or.inr ⟨rfl, _, rfl⟩, Or.inr ⟨rfl, _, rfl⟩, Or.inr ⟨rfl, _, rfl⟩, Or.inl rfl, Or.inl rfl, Or.inl rfl, Or.inl rfl, Or.inl rfl, trivial⟩ h
  · have h := h.2 q
    refine z_aload hE rfl rfl rfl ?_
    refine z_iload hE rfl rfl ?_
    refine z_callvI hE rfl rfl rfl rfl rfl (Nat.le_of_ble_eq_true rfl) (by decide) ⟨rfl, rfl⟩ (EE_mono d _ _ _ _ _ (rI_mono fun r1 M1 h => ?_) h)
    refine z_istore hE rfl rfl rfl ?_
    refine z_iload hE rfl rfl ?_
    refine z_if_le hE rfl ⟨fun q => ?_, fun q => ?_⟩
    · have h := h.1 q
      have hb := h.1
      have h := h.2
      refine z_iinc hE rfl rfl rfl hb ?_
      refine z_goto hE rfl ?_
      exact GoG.weak hE (ls := [vR 76, vI a1, vI a2, vI a3, vI a4, vI (a5 + 1), vU, vU, vU, vU, vU]) ⟨Or.inl rfl, Or.inl rfl, Or.inl rfl, Or.inl rfl, Or.inl rfl, Or.inl rfl, Or.inr ⟨rfl, _, rfl⟩, Or.inl rfl, Or.inl rfl, Or.inl rfl, Or.inl rfl, trivial⟩ h
    · have h := h.2 q
      refine z_iload hE rfl rfl ?_
      refine z_iload hE rfl rfl ?_
      refine z_icmp_gt hE rfl ⟨fun q => ?_, fun q => ?_⟩
      · have h := h.1 q
        have hb := h.1
        have h := h.2
        refine z_iinc hE rfl rfl rfl hb ?_
        refine z_goto hE rfl ?_
        exact GoG.weak hE (ls := [vR 76, vI a1, vI a2, vI a3, vI a4, vI (a5 + 1), vU, vU, vU, vU, vU]) ⟨Or.inl rfl, Or.inl rfl, Or.inl rfl, Or.inl rfl, Or.inl rfl, Or.inl rfl, Or.inr ⟨rfl, _, rfl⟩, Or.inl rfl, Or.inl rfl, Or.inl rfl, Or.inl rfl, trivial⟩ h
      · have h := h.2 q
        refine z_aload hE rfl rfl rfl ?_
        refine z_iload hE rfl rfl ?_
        refine z_callvI hE rfl rfl rfl rfl rfl (Nat.le_of_ble_eq_true rfl) (by decide) ⟨rfl, rfl⟩ (EE_mono d _ _ _ _ _ (rI_mono fun r2 M2 h => ?_) h)
        refine z_if_eq hE rfl ⟨fun q => ?_, fun q => ?_⟩
        · have h := h.1 q
          have hb := h.1
          have h := h.2
          refine z_iinc hE rfl rfl rfl hb ?_
          refine z_goto hE rfl ?_
          exact GoG.weak hE (ls := [vR 76, vI a1, vI a2, vI a3, vI a4, vI (a5 + 1), vU, vU, vU, vU, vU]) ⟨Or.inl rfl, Or.inl rfl, Or.inl rfl, Or.inl rfl, Or.inl rfl, Or.inl rfl, Or.inr ⟨rfl, _, rfl⟩, Or.inl rfl, Or.inl rfl, Or.inl rfl, Or.inl rfl, trivial⟩ h
        · have h := h.2 q
          refine z_iconst hE rfl ?_
          refine z_istore hE rfl rfl rfl ?_
          exact GoG.weak hE (ls := [vR 76, vI a1, vI a2, vI a3, vI a4, vI a5, vU, vI 0, vU, vU, vU]) ⟨Or.inl rfl, Or.inl rfl, Or.inl rfl, Or.inl rfl, Or.inl rfl, Or.inl rfl, Or.inr ⟨rfl, _, rfl⟩, Or.inl rfl, Or.inl rfl, Or.inl rfl, Or.inl rfl, trivial⟩ h
theorem sg_136_195 {d : Nat} {P : Int → Mm → Prop} {a1 : Int} {a2 : Int} {a3 : Int} {a4 : Int} {a5 : Int} {a7 : Int} {M : Mm} (h : ((16384 ≤ a7 → inI (a5 + 1) ∧ H_136_155 d P a1 a2 a3 a4 (a5 + 1) M) ∧ (a7 < 16384 → (0 ≤ a7 ∧ a7 ≤ 2147483647 ∧ (0 : Int) < 64) ∧ (0 ≤ a7 ∧ a7 < 16384) ∧ ((1000000 ≤ (M 108 a7) → H_136_243 d P a1 a2 a3 a4 a5 a7 M) ∧ ((M 108 a7) < 1000000 → ((¬ (zand (a7 / 64) a5) = 0 → H_136_243 d P a1 a2 a3 a4 a5 a7 M) ∧ ((zand (a7 / 64) a5) = 0 → ((¬ (zand (zshr a7 a3) 1) = 0 → H_136_243 d P a1 a2 a3 a4 a5 a7 M) ∧ ((zand (zshr a7 a3) 1) = 0 → H_136_244 d P a1 a2 a3 a4 a5 a7 1 M))))))))) : H_136_195 d P a1 a2 a3 a4 a5 a7 M := by
  have hE := EE_mono d
  unfold H_136_195
  refine z_iload hE rfl rfl ?_
  refine z_iconst hE rfl ?_
  refine z_icmp_ge hE rfl ⟨fun q => ?_, fun q => ?_⟩
  · have h := h.1 q
    have hb := h.1
    have h := h.2
    refine z_iinc hE rfl rfl rfl hb ?_
    refine z_goto hE rfl ?_
    exact GoG.weak hE (ls := [vR 76, vI a1, vI a2, vI a3, vI a4, vI (a5 + 1), vU, vU, vU, vU, vU]) ⟨Or.inl rfl, Or.inl rfl, Or.inl rfl, Or.inl rfl, Or.inl rfl, Or.inl rfl, Or.inl rfl, Or.inr ⟨rfl, _, rfl⟩, Or.inl rfl, Or.inl rfl, Or.inl rfl, trivial⟩ h
  · have h := h.2 q
    refine z_iload hE rfl rfl ?_
    refine z_iconst hE rfl ?_
    have hb := h.1
    have h := h.2
    refine z_idiv hE rfl hb ?_
    refine z_istore hE rfl rfl rfl ?_
    refine z_aload hE rfl rfl rfl ?_
    refine z_getR hE (q := 108) rfl shk_76 rfl rfl rfl ?_
    refine z_iload hE rfl rfl ?_
    have hb := h.1
    have h := h.2
    refine z_iald hE rfl shk_108 hb ?_
    refine z_iconst hE rfl ?_
    refine z_icmp_ge hE rfl ⟨fun q => ?_, fun q => ?_⟩
    · have h := h.1 q
      exact GoG.weak hE (ls := [vR 76, vI a1, vI a2, vI a3, vI a4, vI a5, vU, vI a7, vU, vU, vU]) ⟨Or.inl rfl, Or.inl rfl, Or.inl rfl, Or.inl rfl, Or.inl rfl, Or.inl rfl, Or.inl rfl, Or.inl rfl, Or.inr ⟨rfl, _, rfl⟩, Or.inl rfl, Or.inl rfl, trivial⟩ h
    · have h := h.2 q
      refine z_iload hE rfl rfl ?_
      refine z_iload hE rfl rfl ?_
      refine z_iand hE rfl ?_
      refine z_if_ne hE rfl ⟨fun q => ?_, fun q => ?_⟩
      · have h := h.1 q
        exact GoG.weak hE (ls := [vR 76, vI a1, vI a2, vI a3, vI a4, vI a5, vU, vI a7, vU, vU, vU]) ⟨Or.inl rfl, Or.inl rfl, Or.inl rfl, Or.inl rfl, Or.inl rfl, Or.inl rfl, Or.inl rfl, Or.inl rfl, Or.inr ⟨rfl, _, rfl⟩, Or.inl rfl, Or.inl rfl, trivial⟩ h
      · have h := h.2 q
        refine z_iload hE rfl rfl ?_
        refine z_iload hE rfl rfl ?_
        refine z_ishr hE rfl ?_
        refine z_iconst hE rfl ?_
        refine z_iand hE rfl ?_
        refine z_if_ne hE rfl ⟨fun q => ?_, fun q => ?_⟩
        · have h := h.1 q
          exact GoG.weak hE (ls := [vR 76, vI a1, vI a2, vI a3, vI a4, vI a5, vU, vI a7, vU, vU, vU]) ⟨Or.inl rfl, Or.inl rfl, Or.inl rfl, Or.inl rfl, Or.inl rfl, Or.inl rfl, Or.inl rfl, Or.inl rfl, Or.inr ⟨rfl, _, rfl⟩, Or.inl rfl, Or.inl rfl, trivial⟩ h
        · have h := h.2 q
          refine z_iconst hE rfl ?_
          refine z_goto hE rfl ?_
          exact GoG.weak hE (ls := [vR 76, vI a1, vI a2, vI a3, vI a4, vI a5, vU, vI a7, vU, vU, vU]) ⟨Or.inl rfl, Or.inl rfl, Or.inl rfl, Or.inl rfl, Or.inl rfl, Or.inl rfl, Or.inl rfl, Or.inl rfl, Or.inr ⟨rfl, _, rfl⟩, Or.inl rfl, Or.inl rfl, trivial⟩ h
theorem sg_136_243 {d : Nat} {P : Int → Mm → Prop} {a1 : Int} {a2 : Int} {a3 : Int} {a4 : Int} {a5 : Int} {a7 : Int} {M : Mm} (h : H_136_244 d P a1 a2 a3 a4 a5 a7 0 M) : H_136_243 d P a1 a2 a3 a4 a5 a7 M := by
  have hE := EE_mono d
  unfold H_136_243
  refine z_iconst hE rfl ?_
  exact h
theorem sg_136_244 {d : Nat} {P : Int → Mm → Prop} {a1 : Int} {a2 : Int} {a3 : Int} {a4 : Int} {a5 : Int} {a7 : Int} {s0 : Int} {M : Mm} (h : inI (64 * a5) ∧ inI (a7 + (64 * a5)) ∧ inI ((a7 + (64 * a5)) + (zshl 1 a3)) ∧ ((s0 = 0 → inI (a7 + 1) ∧ H_136_195 d P a1 a2 a3 a4 a5 (a7 + 1) M) ∧ (¬ s0 = 0 → (0 ≤ a7 ∧ a7 < 16384) ∧ inI ((M 108 a7) + 1) ∧ (0 ≤ ((a7 + (64 * a5)) + (zshl 1 a3)) ∧ ((a7 + (64 * a5)) + (zshl 1 a3)) < 16384) ∧ (((M 108 ((a7 + (64 * a5)) + (zshl 1 a3))) ≤ ((M 108 a7) + 1) → inI (a7 + 1) ∧ H_136_195 d P a1 a2 a3 a4 a5 (a7 + 1) M) ∧ (((M 108 a7) + 1) < (M 108 ((a7 + (64 * a5)) + (zshl 1 a3))) → (0 ≤ a7 ∧ a7 < 16384) ∧ inI ((M 108 a7) + 1) ∧ (0 ≤ ((a7 + (64 * a5)) + (zshl 1 a3)) ∧ ((a7 + (64 * a5)) + (zshl 1 a3)) < 16384) ∧ inI (a7 + 1) ∧ H_136_195 d P a1 a2 a3 a4 a5 (a7 + 1) (mset M 108 ((a7 + (64 * a5)) + (zshl 1 a3)) ((M 108 a7) + 1))))))) : H_136_244 d P a1 a2 a3 a4 a5 a7 s0 M := by
  have hE := EE_mono d
  unfold H_136_244
  refine z_istore hE rfl rfl rfl ?_
  refine z_iload hE rfl rfl ?_
  refine z_iconst hE rfl ?_
  refine z_iload hE rfl rfl ?_
  have hb := h.1
  have h := h.2
  refine z_imul hE rfl hb ?_
  have hb := h.1
  have h := h.2
  refine z_iadd hE rfl hb ?_
  refine z_iconst hE rfl ?_
  refine z_iload hE rfl rfl ?_
  refine z_ishl hE rfl ?_
  have hb := h.1
  have h := h.2
  refine z_iadd hE rfl hb ?_
  refine z_istore hE rfl rfl rfl ?_
  refine z_iload hE rfl rfl ?_
  refine z_if_eq hE rfl ⟨fun q => ?_, fun q => ?_⟩
  · have h := h.1 q
    have hb := h.1
    have h := h.2
    refine z_iinc hE rfl rfl rfl hb ?_
    refine z_goto hE rfl ?_
    exact GoG.weak hE (ls := [vR 76, vI a1, vI a2, vI a3, vI a4, vI a5, vU, vI (a7 + 1), vU, vU, vU]) ⟨Or.inl rfl, Or.inl rfl, Or.inl rfl, Or.inl rfl, Or.inl rfl, Or.inl rfl, Or.inl rfl, Or.inl rfl, Or.inl rfl, Or.inr ⟨rfl, _, rfl⟩, Or.inr ⟨rfl, _, rfl⟩, trivial⟩ h
  · have h := h.2 q
    refine z_aload hE rfl rfl rfl ?_
    refine z_getR hE (q := 108) rfl shk_76 rfl rfl rfl ?_
    refine z_iload hE rfl rfl ?_
    have hb := h.1
    have h := h.2
    refine z_iald hE rfl shk_108 hb ?_
    refine z_iconst hE rfl ?_
    have hb := h.1
    have h := h.2
    refine z_iadd hE rfl hb ?_
    refine z_aload hE rfl rfl rfl ?_
    refine z_getR hE (q := 108) rfl shk_76 rfl rfl rfl ?_
    refine z_iload hE rfl rfl ?_
    have hb := h.1
    have h := h.2
    refine z_iald hE rfl shk_108 hb ?_
    refine z_icmp_ge hE rfl ⟨fun q => ?_, fun q => ?_⟩
    · have h := h.1 q
      have hb := h.1
      have h := h.2
      refine z_iinc hE rfl rfl rfl hb ?_
      refine z_goto hE rfl ?_
      exact GoG.weak hE (ls := [vR 76, vI a1, vI a2, vI a3, vI a4, vI a5, vU, vI (a7 + 1), vU, vU, vU]) ⟨Or.inl rfl, Or.inl rfl, Or.inl rfl, Or.inl rfl, Or.inl rfl, Or.inl rfl, Or.inl rfl, Or.inl rfl, Or.inl rfl, Or.inr ⟨rfl, _, rfl⟩, Or.inr ⟨rfl, _, rfl⟩, trivial⟩ h
    · have h := h.2 q
      refine z_aload hE rfl rfl rfl ?_
      refine z_getR hE (q := 108) rfl shk_76 rfl rfl rfl ?_
      refine z_iload hE rfl rfl ?_
      refine z_aload hE rfl rfl rfl ?_
      refine z_getR hE (q := 108) rfl shk_76 rfl rfl rfl ?_
      refine z_iload hE rfl rfl ?_
      have hb := h.1
      have h := h.2
      refine z_iald hE rfl shk_108 hb ?_
      refine z_iconst hE rfl ?_
      have hb := h.1
      have h := h.2
      refine z_iadd hE rfl hb ?_
      have hb := h.1
      have h := h.2
      refine z_iast hE rfl shk_108 hb ?_
      have hb := h.1
      have h := h.2
      refine z_iinc hE rfl rfl rfl hb ?_
      refine z_goto hE rfl ?_
      exact GoG.weak hE (ls := [vR 76, vI a1, vI a2, vI a3, vI a4, vI a5, vU, vI (a7 + 1), vU, vU, vU]) ⟨Or.inl rfl, Or.inl rfl, Or.inl rfl, Or.inl rfl, Or.inl rfl, Or.inl rfl, Or.inl rfl, Or.inl rfl, Or.inl rfl, Or.inr ⟨rfl, _, rfl⟩, Or.inr ⟨rfl, _, rfl⟩, trivial⟩ h
theorem sg_136_325 {d : Nat} {P : Int → Mm → Prop} {a1 : Int} {a2 : Int} {a3 : Int} {a4 : Int} {M : Mm} (h : ((16384 ≤ a4 → ((¬ a1 = 0 → P a3 M) ∧ (a1 = 0 → P a2 M))) ∧ (a4 < 16384 → (0 ≤ a4 ∧ a4 < 16384) ∧ ((1000000 ≤ (M 108 a4) → inI (a4 + 1) ∧ H_136_325 d P a1 a2 a3 (a4 + 1) M) ∧ ((M 108 a4) < 1000000 → (0 ≤ a4 ∧ a4 ≤ 2147483647 ∧ (0 : Int) < 64) ∧ EE d 171 [vR 76, vI (a4 / 64)] M (rI fun r1 M1 => ((a2 < r1 → H_136_379 d P a1 a4 r1 M1) ∧ (r1 ≤ a2 → ((¬ r1 = a2 → inI (a4 + 1) ∧ H_136_325 d P a1 a2 a3 (a4 + 1) M1) ∧ (r1 = a2 → (0 ≤ a4 ∧ a4 < 16384) ∧ ((a3 ≤ (M1 108 a4) → inI (a4 + 1) ∧ H_136_325 d P a1 a2 a3 (a4 + 1) M1) ∧ ((M1 108 a4) < a3 → H_136_379 d P a1 a4 r1 M1)))))))))))) : H_136_325 d P a1 a2 a3 a4 M := by
  have hE := EE_mono d
  unfold H_136_325
  refine z_iload hE rfl rfl ?_
  refine z_iconst hE rfl ?_
  refine z_icmp_ge hE rfl ⟨fun q => ?_, fun q => ?_⟩
  · have h := h.1 q
    refine z_iload hE rfl rfl ?_
    refine z_if_ne hE rfl ⟨fun q => ?_, fun q => ?_⟩
    · have h := h.1 q
      refine z_iload hE rfl rfl ?_
      exact z_iret hE rfl rfl h
    · have h := h.2 q
      refine z_iload hE rfl rfl ?_
      refine z_goto hE rfl ?_
      exact z_iret hE rfl rfl h
  · have h := h.2 q
    refine z_aload hE rfl rfl rfl ?_
    refine z_getR hE (q := 108) rfl shk_76 rfl rfl rfl ?_
    refine z_iload hE rfl rfl ?_
    have hb := h.1
    have h := h.2
    refine z_iald hE rfl shk_108 hb ?_
    refine z_iconst hE rfl ?_
    refine z_icmp_ge hE rfl ⟨fun q => ?_, fun q => ?_⟩
    · have h := h.1 q
      have hb := h.1
      have h := h.2
      refine z_iinc hE rfl rfl rfl hb ?_
      refine z_goto hE rfl ?_
      exact h
    · have h := h.2 q
      refine z_aload hE rfl rfl rfl ?_
      refine z_iload hE rfl rfl ?_
      refine z_iconst hE rfl ?_
      have hb := h.1
      have h := h.2
      refine z_idiv hE rfl hb ?_
      refine z_callvI hE rfl rfl rfl rfl rfl (Nat.le_of_ble_eq_true rfl) (by decide) ⟨rfl, rfl⟩ (EE_mono d _ _ _ _ _ (rI_mono fun r1 M1 h => ?_) h)
      refine z_istore hE rfl rfl rfl ?_
      refine z_iload hE rfl rfl ?_
      refine z_iload hE rfl rfl ?_
      refine z_icmp_gt hE rfl ⟨fun q => ?_, fun q => ?_⟩
      · have h := h.1 q
        exact GoG.weak hE (ls := [vR 76, vI a1, vU, vU, vI a4, vI r1, vU, vU, vU, vU, vU]) ⟨Or.inl rfl, Or.inl rfl, Or.inr ⟨rfl, _, rfl⟩, Or.inr ⟨rfl, _, rfl⟩, Or.inl rfl, Or.inl rfl, Or.inl rfl, Or.inl rfl, Or.inl rfl, Or.inl rfl, Or.inl rfl, trivial⟩ h
      · have h := h.2 q
        refine z_iload hE rfl rfl ?_
        refine z_iload hE rfl rfl ?_
        refine z_icmp_ne hE rfl ⟨fun q => ?_, fun q => ?_⟩
        · have h := h.1 q
          have hb := h.1
          have h := h.2
          refine z_iinc hE rfl rfl rfl hb ?_
          refine z_goto hE rfl ?_
          exact GoG.weak hE (ls := [vR 76, vI a1, vI a2, vI a3, vI (a4 + 1), vU, vU, vU, vU, vU, vU]) ⟨Or.inl rfl, Or.inl rfl, Or.inl rfl, Or.inl rfl, Or.inl rfl, Or.inr ⟨rfl, _, rfl⟩, Or.inl rfl, Or.inl rfl, Or.inl rfl, Or.inl rfl, Or.inl rfl, trivial⟩ h
        · have h := h.2 q
          refine z_aload hE rfl rfl rfl ?_
          refine z_getR hE (q := 108) rfl shk_76 rfl rfl rfl ?_
          refine z_iload hE rfl rfl ?_
          have hb := h.1
          have h := h.2
          refine z_iald hE rfl shk_108 hb ?_
          refine z_iload hE rfl rfl ?_
          refine z_icmp_ge hE rfl ⟨fun q => ?_, fun q => ?_⟩
          · have h := h.1 q
            have hb := h.1
            have h := h.2
            refine z_iinc hE rfl rfl rfl hb ?_
            refine z_goto hE rfl ?_
            exact GoG.weak hE (ls := [vR 76, vI a1, vI a2, vI a3, vI (a4 + 1), vU, vU, vU, vU, vU, vU]) ⟨Or.inl rfl, Or.inl rfl, Or.inl rfl, Or.inl rfl, Or.inl rfl, Or.inr ⟨rfl, _, rfl⟩, Or.inl rfl, Or.inl rfl, Or.inl rfl, Or.inl rfl, Or.inl rfl, trivial⟩ h
          · have h := h.2 q
            exact GoG.weak hE (ls := [vR 76, vI a1, vU, vU, vI a4, vI r1, vU, vU, vU, vU, vU]) ⟨Or.inl rfl, Or.inl rfl, Or.inr ⟨rfl, _, rfl⟩, Or.inr ⟨rfl, _, rfl⟩, Or.inl rfl, Or.inl rfl, Or.inl rfl, Or.inl rfl, Or.inl rfl, Or.inl rfl, Or.inl rfl, trivial⟩ h
theorem sg_136_379 {d : Nat} {P : Int → Mm → Prop} {a1 : Int} {a4 : Int} {a5 : Int} {M : Mm} (h : (0 ≤ a4 ∧ a4 < 16384) ∧ inI (a4 + 1) ∧ H_136_325 d P a1 a5 (M 108 a4) (a4 + 1) M) : H_136_379 d P a1 a4 a5 M := by
  have hE := EE_mono d
  unfold H_136_379
  refine z_iload hE rfl rfl ?_
  refine z_istore hE rfl rfl rfl ?_
  refine z_aload hE rfl rfl rfl ?_
  refine z_getR hE (q := 108) rfl shk_76 rfl rfl rfl ?_
  refine z_iload hE rfl rfl ?_
  have hb := h.1
  have h := h.2
  refine z_iald hE rfl shk_108 hb ?_
  refine z_istore hE rfl rfl rfl ?_
  have hb := h.1
  have h := h.2
  refine z_iinc hE rfl rfl rfl hb ?_
  refine z_goto hE rfl ?_
  exact GoG.weak hE (ls := [vR 76, vI a1, vI a5, vI (M 108 a4), vI (a4 + 1), vU, vU, vU, vU, vU, vU]) ⟨Or.inl rfl, Or.inl rfl, Or.inl rfl, Or.inl rfl, Or.inl rfl, Or.inr ⟨rfl, _, rfl⟩, Or.inl rfl, Or.inl rfl, Or.inl rfl, Or.inl rfl, Or.inl rfl, trivial⟩ h
/-! 137: ChildTrainsModel.lessons(IIIIII)I -/
def H_137_81 (d : Nat) (P : Int → Mm → Prop) (a1 : Int) (a4 : Int) (a5 : Int) (a6 : Int) (s0 : Int) (M : Mm) : Prop := GoG false (EE d) cd_137 (rI P) 81 [vR 76, vI a1, vU, vU, vI a4, vI a5, vI a6, vU, vU, vU, vU, vU, vU, vU] [vI s0] M
def H_137_100 (d : Nat) (P : Int → Mm → Prop) (a1 : Int) (a4 : Int) (a5 : Int) (a6 : Int) (a7 : Int) (a8 : Int) (M : Mm) : Prop := GoG false (EE d) cd_137 (rI P) 100 [vR 76, vI a1, vU, vU, vI a4, vI a5, vI a6, vI a7, vI a8, vU, vU, vU, vU, vU] [] M
def H_137_124 (d : Nat) (P : Int → Mm → Prop) (a1 : Int) (a4 : Int) (a5 : Int) (a6 : Int) (a7 : Int) (a8 : Int) (M : Mm) : Prop := GoG false (EE d) cd_137 (rI P) 124 [vR 76, vI a1, vU, vU, vI a4, vI a5, vI a6, vI a7, vI a8, vU, vU, vU, vU, vU] [] M
def H_137_140 (d : Nat) (P : Int → Mm → Prop) (a1 : Int) (a4 : Int) (a5 : Int) (a6 : Int) (a7 : Int) (a8 : Int) (a9 : Int) (a10 : Int) (M : Mm) : Prop := GoG false (EE d) cd_137 (rI P) 140 [vR 76, vI a1, vU, vU, vI a4, vI a5, vI a6, vI a7, vI a8, vI a9, vI a10, vU, vU, vU] [] M
def H_137_154 (d : Nat) (P : Int → Mm → Prop) (a1 : Int) (a4 : Int) (a5 : Int) (a6 : Int) (a7 : Int) (a8 : Int) (a9 : Int) (a10 : Int) (a11 : Int) (a12 : Int) (M : Mm) : Prop := GoG false (EE d) cd_137 (rI P) 154 [vR 76, vI a1, vU, vU, vI a4, vI a5, vI a6, vI a7, vI a8, vI a9, vI a10, vI a11, vI a12, vU] [] M
def H_137_175 (d : Nat) (P : Int → Mm → Prop) (a1 : Int) (a4 : Int) (a5 : Int) (a6 : Int) (a7 : Int) (a8 : Int) (a9 : Int) (a10 : Int) (a11 : Int) (a12 : Int) (s0 : Int) (M : Mm) : Prop := GoG false (EE d) cd_137 (rI P) 175 [vR 76, vI a1, vU, vU, vI a4, vI a5, vI a6, vI a7, vI a8, vI a9, vI a10, vI a11, vI a12, vU] [vI s0] M
def H_137_239 (d : Nat) (P : Int → Mm → Prop) (a1 : Int) (a4 : Int) (a5 : Int) (a6 : Int) (a7 : Int) (a8 : Int) (a9 : Int) (a10 : Int) (M : Mm) : Prop := GoG false (EE d) cd_137 (rI P) 239 [vR 76, vI a1, vU, vU, vI a4, vI a5, vI a6, vI a7, vI a8, vI a9, vI a10, vU, vU, vU] [] M
theorem mN_137 : mN 137 = 14 := by decide +kernel
theorem ee_137 {d : Nat} {Q : Ql} {a1 : Int} {a2 : Int} {a3 : Int} {a4 : Int} {a5 : Int} {a6 : Int} {M : Mm} (h : GoG false (EE d) cd_137 Q 0 [vR 76, vI a1, vI a2, vI a3, vI a4, vI a5, vI a6, vU, vU, vU, vU, vU, vU, vU] [] M) : EE (d + 1) 137 [vR 76, vI a1, vI a2, vI a3, vI a4, vI a5, vI a6] M Q := by
  have e : cdTab 137 = cd_137 := rfl
  unfold EE; rw [mN_137, e]; exact ⟨Nat.le_of_ble_eq_true rfl, h⟩
theorem sg_137 {d : Nat} {P : Int → Mm → Prop} {a1 : Int} {a2 : Int} {a3 : Int} {a4 : Int} {a5 : Int} {a6 : Int} {M : Mm} (h : EE d 140 [vI a1, vI 1, vI 9] (mset M 76 0 0) (rI fun r1 M1 => ((r1 = 0 → P (-1) M1) ∧ (¬ r1 = 0 → EE d 140 [vI a2, vI 1, vI 9] M1 (rI fun r2 M2 => ((r2 = 0 → P (-1) M2) ∧ (¬ r2 = 0 → EE d 140 [vI a3, vI 1, vI 9] M2 (rI fun r3 M3 => ((r3 = 0 → P (-1) M3) ∧ (¬ r3 = 0 → EE d 140 [vI a4, vI 1, vI 10] M3 (rI fun r4 M4 => ((r4 = 0 → P (-1) M4) ∧ (¬ r4 = 0 → EE d 140 [vI a5, vI 1, vI 30] M4 (rI fun r5 M5 => ((r5 = 0 → P (-1) M5) ∧ (¬ r5 = 0 → inI (a1 - 1) ∧ EE d 140 [vI a6, vI 0, vI (a1 - 1)] M5 (rI fun r6 M6 => ((¬ r6 = 0 → ((a3 ≤ a2 → H_137_81 d P a1 a4 a5 a6 a3 M6) ∧ (a2 < a3 → H_137_81 d P a1 a4 a5 a6 a2 M6))) ∧ (r6 = 0 → P (-1) M6))))))))))))))))))) : EE (d + 1) 137 [vR 76, vI a1, vI a2, vI a3, vI a4, vI a5, vI a6] M (rI P) := by
  have hE := EE_mono d
  refine ee_137 ?_
  refine z_aload hE rfl rfl rfl ?_
  refine z_iconst hE rfl ?_
  refine z_putI hE (sl := 0) rfl shk_76 rfl rfl rfl ?_
  refine z_iload hE rfl rfl ?_
  refine z_iconst hE rfl ?_
  refine z_iconst hE rfl ?_
  refine z_callsI hE rfl rfl rfl rfl rfl (Nat.le_of_ble_eq_true rfl) (by decide) (EE_mono d _ _ _ _ _ (rI_mono fun r1 M1 h => ?_) h)
  refine z_if_eq hE rfl ⟨fun q => ?_, fun q => ?_⟩
  · have h := h.1 q
    refine z_iconst hE rfl ?_
    exact z_iret hE rfl rfl h
  · have h := h.2 q
    refine z_iload hE rfl rfl ?_
    refine z_iconst hE rfl ?_
    refine z_iconst hE rfl ?_
    refine z_callsI hE rfl rfl rfl rfl rfl (Nat.le_of_ble_eq_true rfl) (by decide) (EE_mono d _ _ _ _ _ (rI_mono fun r2 M2 h => ?_) h)
    refine z_if_eq hE rfl ⟨fun q => ?_, fun q => ?_⟩
    · have h := h.1 q
      refine z_iconst hE rfl ?_
      exact z_iret hE rfl rfl h
    · have h := h.2 q
      refine z_iload hE rfl rfl ?_
      refine z_iconst hE rfl ?_
      refine z_iconst hE rfl ?_
      refine z_callsI hE rfl rfl rfl rfl rfl (Nat.le_of_ble_eq_true rfl) (by decide) (EE_mono d _ _ _ _ _ (rI_mono fun r3 M3 h => ?_) h)
      refine z_if_eq hE rfl ⟨fun q => ?_, fun q => ?_⟩
      · have h := h.1 q
        refine z_iconst hE rfl ?_
        exact z_iret hE rfl rfl h
      · have h := h.2 q
        refine z_iload hE rfl rfl ?_
        refine z_iconst hE rfl ?_
        refine z_iconst hE rfl ?_
        refine z_callsI hE rfl rfl rfl rfl rfl (Nat.le_of_ble_eq_true rfl) (by decide) (EE_mono d _ _ _ _ _ (rI_mono fun r4 M4 h => ?_) h)
        refine z_if_eq hE rfl ⟨fun q => ?_, fun q => ?_⟩
        · have h := h.1 q
          refine z_iconst hE rfl ?_
          exact z_iret hE rfl rfl h
        · have h := h.2 q
          refine z_iload hE rfl rfl ?_
          refine z_iconst hE rfl ?_
          refine z_iconst hE rfl ?_
          refine z_callsI hE rfl rfl rfl rfl rfl (Nat.le_of_ble_eq_true rfl) (by decide) (EE_mono d _ _ _ _ _ (rI_mono fun r5 M5 h => ?_) h)
          refine z_if_eq hE rfl ⟨fun q => ?_, fun q => ?_⟩
          · have h := h.1 q
            refine z_iconst hE rfl ?_
            exact z_iret hE rfl rfl h
          · have h := h.2 q
            refine z_iload hE rfl rfl ?_
            refine z_iconst hE rfl ?_
            refine z_iload hE rfl rfl ?_
            refine z_iconst hE rfl ?_
            have hb := h.1
            have h := h.2
            refine z_isub hE rfl hb ?_
            refine z_callsI hE rfl rfl rfl rfl rfl (Nat.le_of_ble_eq_true rfl) (by decide) (EE_mono d _ _ _ _ _ (rI_mono fun r6 M6 h => ?_) h)
            refine z_if_ne hE rfl ⟨fun q => ?_, fun q => ?_⟩
            · have h := h.1 q
              refine z_iload hE rfl rfl ?_
              refine z_iload hE rfl rfl ?_
              refine z_icmp_ge hE rfl ⟨fun q => ?_, fun q => ?_⟩
              · have h := h.1 q
                refine z_iload hE rfl rfl ?_
                exact GoG.weak hE (ls := [vR 76, vI a1, vU, vU, vI a4, vI a5, vI a6, vU, vU, vU, vU, vU, vU, vU]) ⟨Or.inl rfl, Or.inl rfl, Or.inr ⟨rfl, _, rfl⟩, Or.inr ⟨rfl, _, rfl⟩, Or.inl rfl, Or.inl rfl, Or.inl rfl, Or.inl rfl, Or.inl rfl, Or.inl rfl, Or.inl rfl, Or.inl rfl, Or.inl rfl, Or.inl rfl, trivial⟩ h
              · have h := h.2 q
                refine z_iload hE rfl rfl ?_
                refine z_goto hE rfl ?_
                exact GoG.weak hE (ls := [vR 76, vI a1, vU, vU, vI a4, vI a5, vI a6, vU, vU, vU, vU, vU, vU, vU]) ⟨Or.inl rfl, Or.inl rfl, Or.inr ⟨rfl, _, rfl⟩, Or.inr ⟨rfl, _, rfl⟩, Or.inl rfl, Or.inl rfl, Or.inl rfl, Or.inl rfl, Or.inl rfl, Or.inl rfl, Or.inl rfl, Or.inl rfl, Or.inl rfl, Or.inl rfl, trivial⟩ h
            · have h := h.2 q
              refine z_iconst hE rfl ?_
              exact z_iret hE rfl rfl h
theorem sg_137_81 {d : Nat} {P : Int → Mm → Prop} {a1 : Int} {a4 : Int} {a5 : Int} {a6 : Int} {s0 : Int} {M : Mm} (h : ((s0 ≤ a1 → H_137_100 d P a1 a4 a5 a6 s0 0 M) ∧ (a1 < s0 → H_137_100 d P a1 a4 a5 a6 a1 0 M))) : H_137_81 d P a1 a4 a5 a6 s0 M := by
  have hE := EE_mono d
  unfold H_137_81
  refine z_istore hE rfl rfl rfl ?_
  refine z_iload hE rfl rfl ?_
  refine z_iload hE rfl rfl ?_
  refine z_icmp_ge hE rfl ⟨fun q => ?_, fun q => ?_⟩
  · have h := h.1 q
    refine z_iload hE rfl rfl ?_
    refine z_istore hE rfl rfl rfl ?_
    refine z_iconst hE rfl ?_
    refine z_istore hE rfl rfl rfl ?_
    exact h
  · have h := h.2 q
    refine z_iload hE rfl rfl ?_
    refine z_goto hE rfl ?_
    refine z_istore hE rfl rfl rfl ?_
    refine z_iconst hE rfl ?_
    refine z_istore hE rfl rfl rfl ?_
    exact h
theorem sg_137_100 {d : Nat} {P : Int → Mm → Prop} {a1 : Int} {a4 : Int} {a5 : Int} {a6 : Int} {a7 : Int} {a8 : Int} {M : Mm} (h : ((9 ≤ a8 → H_137_124 d P a1 a4 a5 a6 a7 0 M) ∧ (a8 < 9 → (0 ≤ a8 ∧ a8 < 9) ∧ inI (a8 + 1) ∧ H_137_100 d P a1 a4 a5 a6 a7 (a8 + 1) (mset M 110 a8 0)))) : H_137_100 d P a1 a4 a5 a6 a7 a8 M := by
  have hE := EE_mono d
  unfold H_137_100
  refine z_iload hE rfl rfl ?_
  refine z_iconst hE rfl ?_
  refine z_icmp_ge hE rfl ⟨fun q => ?_, fun q => ?_⟩
  · have h := h.1 q
    refine z_iconst hE rfl ?_
    refine z_istore hE rfl rfl rfl ?_
    exact h
  · have h := h.2 q
    refine z_aload hE rfl rfl rfl ?_
    refine z_getR hE (q := 110) rfl shk_76 rfl rfl rfl ?_
    refine z_iload hE rfl rfl ?_
    refine z_iconst hE rfl ?_
    have hb := h.1
    have h := h.2
    refine z_iast hE rfl shk_110 hb ?_
    have hb := h.1
    have h := h.2
    refine z_iinc hE rfl rfl rfl hb ?_
    refine z_goto hE rfl ?_
    exact h
theorem sg_137_124 {d : Nat} {P : Int → Mm → Prop} {a1 : Int} {a4 : Int} {a5 : Int} {a6 : Int} {a7 : Int} {a8 : Int} {M : Mm} (h : inI (a4 * a5) ∧ (((a4 * a5) ≤ a8 → (0 ≤ a6 ∧ a6 < 9) ∧ P (M 110 a6) M) ∧ (a8 < (a4 * a5) → H_137_140 d P a1 a4 a5 a6 a7 a8 0 0 M))) : H_137_124 d P a1 a4 a5 a6 a7 a8 M := by
  have hE := EE_mono d
  unfold H_137_124
  refine z_iload hE rfl rfl ?_
  refine z_iload hE rfl rfl ?_
  refine z_iload hE rfl rfl ?_
  have hb := h.1
  have h := h.2
  refine z_imul hE rfl hb ?_
  refine z_icmp_ge hE rfl ⟨fun q => ?_, fun q => ?_⟩
  · have h := h.1 q
    refine z_aload hE rfl rfl rfl ?_
    refine z_getR hE (q := 110) rfl shk_76 rfl rfl rfl ?_
    refine z_iload hE rfl rfl ?_
    have hb := h.1
    have h := h.2
    refine z_iald hE rfl shk_110 hb ?_
    exact z_iret hE rfl rfl h
  · have h := h.2 q
    refine z_iconst hE rfl ?_
    refine z_istore hE rfl rfl rfl ?_
    refine z_iconst hE rfl ?_
    refine z_istore hE rfl rfl rfl ?_
    exact h
theorem sg_137_140 {d : Nat} {P : Int → Mm → Prop} {a1 : Int} {a4 : Int} {a5 : Int} {a6 : Int} {a7 : Int} {a8 : Int} {a9 : Int} {a10 : Int} {M : Mm} (h : ((a7 ≤ a10 → H_137_239 d P a1 a4 a5 a6 a7 a8 a9 0 M) ∧ (a10 < a7 → H_137_154 d P a1 a4 a5 a6 a7 a8 a9 a10 (-9) 0 M))) : H_137_140 d P a1 a4 a5 a6 a7 a8 a9 a10 M := by
  have hE := EE_mono d
  unfold H_137_140
  refine z_iload hE rfl rfl ?_
  refine z_iload hE rfl rfl ?_
  refine z_icmp_ge hE rfl ⟨fun q => ?_, fun q => ?_⟩
  · have h := h.1 q
    refine z_iconst hE rfl ?_
    refine z_istore hE rfl rfl rfl ?_
    exact h
  · have h := h.2 q
    refine z_iconst hE rfl ?_
    refine z_istore hE rfl rfl rfl ?_
    refine z_iconst hE rfl ?_
    refine z_istore hE rfl rfl rfl ?_
    exact h
theorem sg_137_154 {d : Nat} {P : Int → Mm → Prop} {a1 : Int} {a4 : Int} {a5 : Int} {a6 : Int} {a7 : Int} {a8 : Int} {a9 : Int} {a10 : Int} {a11 : Int} {a12 : Int} {M : Mm} (h : ((a1 ≤ a12 → inI (a10 + 1) ∧ H_137_140 d P a1 a4 a5 a6 a7 a8 (zor a9 (zshl 1 a11)) (a10 + 1) M) ∧ (a12 < a1 → ((¬ (zand (zshr a9 a12) 1) = 0 → H_137_175 d P a1 a4 a5 a6 a7 a8 a9 a10 a11 a12 0 M) ∧ ((zand (zshr a9 a12) 1) = 0 → H_137_175 d P a1 a4 a5 a6 a7 a8 a9 a10 a11 a12 1 M))))) : H_137_154 d P a1 a4 a5 a6 a7 a8 a9 a10 a11 a12 M := by
  have hE := EE_mono d
  unfold H_137_154
  refine z_iload hE rfl rfl ?_
  refine z_iload hE rfl rfl ?_
  refine z_icmp_ge hE rfl ⟨fun q => ?_, fun q => ?_⟩
  · have h := h.1 q
    refine z_iload hE rfl rfl ?_
    refine z_iconst hE rfl ?_
    refine z_iload hE rfl rfl ?_
    refine z_ishl hE rfl ?_
    refine z_ior hE rfl ?_
    refine z_istore hE rfl rfl rfl ?_
    have hb := h.1
    have h := h.2
    refine z_iinc hE rfl rfl rfl hb ?_
    refine z_goto hE rfl ?_
    exact GoG.weak hE (ls := [vR 76, vI a1, vU, vU, vI a4, vI a5, vI a6, vI a7, vI a8, vI (zor a9 (zshl 1 a11)), vI (a10 + 1), vU, vU, vU]) ⟨Or.inl rfl, Or.inl rfl, Or.inl rfl, Or.inl rfl, Or.inl rfl, Or.inl rfl, Or.inl rfl, Or.inl rfl, Or.inl rfl, Or.inl rfl, Or.inl rfl, Or.inr ⟨rfl, _, rfl⟩, Or.inr ⟨rfl, _, rfl⟩, Or.inl rfl, trivial⟩ h
  · have h := h.2 q
    refine z_iload hE rfl rfl ?_
    refine z_iload hE rfl rfl ?_
    refine z_ishr hE rfl ?_
    refine z_iconst hE rfl ?_
    refine z_iand hE rfl ?_
    refine z_if_ne hE rfl ⟨fun q => ?_, fun q => ?_⟩
    · have h := h.1 q
      refine z_iconst hE rfl ?_
      exact h
    · have h := h.2 q
      refine z_iconst hE rfl ?_
      refine z_goto hE rfl ?_
      exact h
theorem sg_137_175 {d : Nat} {P : Int → Mm → Prop} {a1 : Int} {a4 : Int} {a5 : Int} {a6 : Int} {a7 : Int} {a8 : Int} {a9 : Int} {a10 : Int} {a11 : Int} {a12 : Int} {s0 : Int} {M : Mm} (h : ((s0 = 0 → inI (a12 + 1) ∧ H_137_154 d P a1 a4 a5 a6 a7 a8 a9 a10 a11 (a12 + 1) M) ∧ (¬ s0 = 0 → ((a11 = (-9) → inI (a12 + 1) ∧ H_137_154 d P a1 a4 a5 a6 a7 a8 a9 a10 a12 (a12 + 1) M) ∧ (¬ a11 = (-9) → (0 ≤ a12 ∧ a12 < 9) ∧ (0 ≤ a11 ∧ a11 < 9) ∧ (((M 110 a11) ≤ (M 110 a12) → inI (a12 + 1) ∧ H_137_154 d P a1 a4 a5 a6 a7 a8 a9 a10 a11 (a12 + 1) M) ∧ ((M 110 a12) < (M 110 a11) → inI (a12 + 1) ∧ H_137_154 d P a1 a4 a5 a6 a7 a8 a9 a10 a12 (a12 + 1) M))))))) : H_137_175 d P a1 a4 a5 a6 a7 a8 a9 a10 a11 a12 s0 M := by
  have hE := EE_mono d
  unfold H_137_175
  refine z_istore hE rfl rfl rfl ?_
  refine z_iload hE rfl rfl ?_
  refine z_if_eq hE rfl ⟨fun q => ?_, fun q => ?_⟩
  · have h := h.1 q
    refine z_iload hE rfl rfl ?_
    refine z_istore hE rfl rfl rfl ?_
    have hb := h.1
    have h := h.2
    refine z_iinc hE rfl rfl rfl hb ?_
    refine z_goto hE rfl ?_
    exact GoG.weak hE (ls := [vR 76, vI a1, vU, vU, vI a4, vI a5, vI a6, vI a7, vI a8, vI a9, vI a10, vI a11, vI (a12 + 1), vU]) ⟨Or.inl rfl, Or.inl rfl, Or.inl rfl, Or.inl rfl, Or.inl rfl, Or.inl rfl, Or.inl rfl, Or.inl rfl, Or.inl rfl, Or.inl rfl, Or.inl rfl, Or.inl rfl, Or.inl rfl, Or.inr ⟨rfl, _, rfl⟩, trivial⟩ h
  · have h := h.2 q
    refine z_iload hE rfl rfl ?_
    refine z_iconst hE rfl ?_
    refine z_icmp_eq hE rfl ⟨fun q => ?_, fun q => ?_⟩
    · have h := h.1 q
      refine z_iload hE rfl rfl ?_
      refine z_goto hE rfl ?_
      refine z_istore hE rfl rfl rfl ?_
      have hb := h.1
      have h := h.2
      refine z_iinc hE rfl rfl rfl hb ?_
      refine z_goto hE rfl ?_
      exact GoG.weak hE (ls := [vR 76, vI a1, vU, vU, vI a4, vI a5, vI a6, vI a7, vI a8, vI a9, vI a10, vI a12, vI (a12 + 1), vU]) ⟨Or.inl rfl, Or.inl rfl, Or.inl rfl, Or.inl rfl, Or.inl rfl, Or.inl rfl, Or.inl rfl, Or.inl rfl, Or.inl rfl, Or.inl rfl, Or.inl rfl, Or.inl rfl, Or.inl rfl, Or.inr ⟨rfl, _, rfl⟩, trivial⟩ h
    · have h := h.2 q
      refine z_aload hE rfl rfl rfl ?_
      refine z_getR hE (q := 110) rfl shk_76 rfl rfl rfl ?_
      refine z_iload hE rfl rfl ?_
      have hb := h.1
      have h := h.2
      refine z_iald hE rfl shk_110 hb ?_
      refine z_aload hE rfl rfl rfl ?_
      refine z_getR hE (q := 110) rfl shk_76 rfl rfl rfl ?_
      refine z_iload hE rfl rfl ?_
      have hb := h.1
      have h := h.2
      refine z_iald hE rfl shk_110 hb ?_
      refine z_icmp_ge hE rfl ⟨fun q => ?_, fun q => ?_⟩
      · have h := h.1 q
        refine z_iload hE rfl rfl ?_
        refine z_istore hE rfl rfl rfl ?_
        have hb := h.1
        have h := h.2
        refine z_iinc hE rfl rfl rfl hb ?_
        refine z_goto hE rfl ?_
        exact GoG.weak hE (ls := [vR 76, vI a1, vU, vU, vI a4, vI a5, vI a6, vI a7, vI a8, vI a9, vI a10, vI a11, vI (a12 + 1), vU]) ⟨Or.inl rfl, Or.inl rfl, Or.inl rfl, Or.inl rfl, Or.inl rfl, Or.inl rfl, Or.inl rfl, Or.inl rfl, Or.inl rfl, Or.inl rfl, Or.inl rfl, Or.inl rfl, Or.inl rfl, Or.inr ⟨rfl, _, rfl⟩, trivial⟩ h
      · have h := h.2 q
        refine z_iload hE rfl rfl ?_
        refine z_goto hE rfl ?_
        refine z_istore hE rfl rfl rfl ?_
        have hb := h.1
        have h := h.2
        refine z_iinc hE rfl rfl rfl hb ?_
        refine z_goto hE rfl ?_
        exact GoG.weak hE (ls := [vR 76, vI a1, vU, vU, vI a4, vI a5, vI a6, vI a7, vI a8, vI a9, vI a10, vI a12, vI (a12 + 1), vU]) ⟨Or.inl rfl, Or.inl rfl, Or.inl rfl, Or.inl rfl, Or.inl rfl, Or.inl rfl, Or.inl rfl, Or.inl rfl, Or.inl rfl, Or.inl rfl, Or.inl rfl, Or.inl rfl, Or.inl rfl, Or.inr ⟨rfl, _, rfl⟩, trivial⟩ h
theorem sg_137_239 {d : Nat} {P : Int → Mm → Prop} {a1 : Int} {a4 : Int} {a5 : Int} {a6 : Int} {a7 : Int} {a8 : Int} {a9 : Int} {a10 : Int} {M : Mm} (h : ((a1 ≤ a10 → inI (a8 + 1) ∧ H_137_124 d P a1 a4 a5 a6 a7 (a8 + 1) M) ∧ (a10 < a1 → (0 ≤ a10 ∧ a10 < 9) ∧ inI ((M 110 a10) + (zand (zshr a9 a10) 1)) ∧ (0 ≤ a10 ∧ a10 < 9) ∧ inI (a10 + 1) ∧ H_137_239 d P a1 a4 a5 a6 a7 a8 a9 (a10 + 1) (mset M 110 a10 ((M 110 a10) + (zand (zshr a9 a10) 1)))))) : H_137_239 d P a1 a4 a5 a6 a7 a8 a9 a10 M := by
  have hE := EE_mono d
  unfold H_137_239
  refine z_iload hE rfl rfl ?_
  refine z_iload hE rfl rfl ?_
  refine z_icmp_ge hE rfl ⟨fun q => ?_, fun q => ?_⟩
  · have h := h.1 q
    have hb := h.1
    have h := h.2
    refine z_iinc hE rfl rfl rfl hb ?_
    refine z_goto hE rfl ?_
    exact GoG.weak hE (ls := [vR 76, vI a1, vU, vU, vI a4, vI a5, vI a6, vI a7, vI (a8 + 1), vU, vU, vU, vU, vU]) ⟨Or.inl rfl, Or.inl rfl, Or.inl rfl, Or.inl rfl, Or.inl rfl, Or.inl rfl, Or.inl rfl, Or.inl rfl, Or.inl rfl, Or.inr ⟨rfl, _, rfl⟩, Or.inr ⟨rfl, _, rfl⟩, Or.inl rfl, Or.inl rfl, Or.inl rfl, trivial⟩ h
  · have h := h.2 q
    refine z_aload hE rfl rfl rfl ?_
    refine z_getR hE (q := 110) rfl shk_76 rfl rfl rfl ?_
    refine z_iload hE rfl rfl ?_
    refine z_dup2 hE rfl rfl rfl ?_
    have hb := h.1
    have h := h.2
    refine z_iald hE rfl shk_110 hb ?_
    refine z_iload hE rfl rfl ?_
    refine z_iload hE rfl rfl ?_
    refine z_ishr hE rfl ?_
    refine z_iconst hE rfl ?_
    refine z_iand hE rfl ?_
    have hb := h.1
    have h := h.2
    refine z_iadd hE rfl hb ?_
    have hb := h.1
    have h := h.2
    refine z_iast hE rfl shk_110 hb ?_
    have hb := h.1
    have h := h.2
    refine z_iinc hE rfl rfl rfl hb ?_
    refine z_goto hE rfl ?_
    exact h
/-! 138: ChildTrainsModel.count(I)I -/
theorem mN_138 : mN 138 = 2 := by decide +kernel
theorem ee_138 {d : Nat} {Q : Ql} {a1 : Int} {M : Mm} (h : GoG false (EE d) cd_138 Q 0 [vR 76, vI a1] [] M) : EE (d + 1) 138 [vR 76, vI a1] M Q := by
  have e : cdTab 138 = cd_138 := rfl
  unfold EE; rw [mN_138, e]; exact ⟨Nat.le_of_ble_eq_true rfl, h⟩
theorem sg_138 {d : Nat} {P : Int → Mm → Prop} {a1 : Int} {M : Mm} (h : ((a1 = 0 → P ((mset M 76 0 0) 76 2) (mset M 76 0 0)) ∧ (a1 = 1 → P ((mset M 76 0 0) 76 16) (mset M 76 0 0)) ∧ (a1 = 2 → P ((mset M 76 0 0) 76 21) (mset M 76 0 0)) ∧ (a1 = 3 → P ((mset M 76 0 0) 76 28) (mset M 76 0 0)) ∧ (a1 = 4 → P ((mset M 76 0 0) 76 20) (mset M 76 0 0)) ∧ ((a1 < 0 ∨ 5 ≤ a1) → P (-1) (mset M 76 0 0)))) : EE (d + 1) 138 [vR 76, vI a1] M (rI P) := by
  have hE := EE_mono d
  refine ee_138 ?_
  refine z_aload hE rfl rfl rfl ?_
  refine z_iconst hE rfl ?_
  refine z_putI hE (sl := 0) rfl shk_76 rfl rfl rfl ?_
  refine z_iload hE rfl rfl ?_
  refine z_tsw hE rfl ⟨fun q => ?_, fun q => ?_, fun q => ?_, fun q => ?_, fun q => ?_, trivial⟩ (fun q => ?_)
  · have h := h.1 (by have q2 := q; simp only [xI] at q2; omega)
    refine z_aload hE rfl rfl rfl ?_
    refine z_getI hE (sl := 2) rfl shk_76 rfl rfl rfl ?_
    exact z_iret hE rfl rfl h
  · have h := h.2.1 (by have q2 := q; simp only [xI] at q2; omega)
    refine z_aload hE rfl rfl rfl ?_
    refine z_getI hE (sl := 16) rfl shk_76 rfl rfl rfl ?_
    exact z_iret hE rfl rfl h
  · have h := h.2.2.1 (by have q2 := q; simp only [xI] at q2; omega)
    refine z_aload hE rfl rfl rfl ?_
    refine z_getI hE (sl := 21) rfl shk_76 rfl rfl rfl ?_
    exact z_iret hE rfl rfl h
  · have h := h.2.2.2.1 (by have q2 := q; simp only [xI] at q2; omega)
    refine z_aload hE rfl rfl rfl ?_
    refine z_getI hE (sl := 28) rfl shk_76 rfl rfl rfl ?_
    exact z_iret hE rfl rfl h
  · have h := h.2.2.2.2.1 (by have q2 := q; simp only [xI] at q2; omega)
    refine z_aload hE rfl rfl rfl ?_
    refine z_getI hE (sl := 20) rfl shk_76 rfl rfl rfl ?_
    exact z_iret hE rfl rfl h
  · have h := h.2.2.2.2.2 (by have q2 := q; simp only [xI, x3, List.length_cons, List.length_nil] at q2; omega)
    refine z_iconst hE rfl ?_
    exact z_iret hE rfl rfl h
/-! 139: ChildTrainsModel.trace()J -/
theorem mN_139 : mN 139 = 1 := by decide +kernel
theorem ee_139 {d : Nat} {Q : Ql} {M : Mm} (h : GoG false (EE d) cd_139 Q 0 [vR 76] [] M) : EE (d + 1) 139 [vR 76] M Q := by
  have e : cdTab 139 = cd_139 := rfl
  unfold EE; rw [mN_139, e]; exact ⟨Nat.le_of_ble_eq_true rfl, h⟩
theorem sg_139 {d : Nat} {P : Int → Mm → Prop} {M : Mm} (h : P ((mset M 76 0 0) 76 1) (mset M 76 0 0)) : EE (d + 1) 139 [vR 76] M (rL P) := by
  have hE := EE_mono d
  refine ee_139 ?_
  refine z_aload hE rfl rfl rfl ?_
  refine z_iconst hE rfl ?_
  refine z_putI hE (sl := 0) rfl shk_76 rfl rfl rfl ?_
  refine z_aload hE rfl rfl rfl ?_
  refine z_getJ hE (sl := 1) rfl shk_76 rfl rfl rfl ?_
  exact z_lret hE rfl h
/-! 140: ChildTrainsModel.in(III)Z -/
theorem mN_140 : mN 140 = 3 := by decide +kernel
theorem ee_140 {d : Nat} {Q : Ql} {a0 : Int} {a1 : Int} {a2 : Int} {M : Mm} (h : GoG false (EE d) cd_140 Q 0 [vI a0, vI a1, vI a2] [] M) : EE (d + 1) 140 [vI a0, vI a1, vI a2] M Q := by
  have e : cdTab 140 = cd_140 := rfl
  unfold EE; rw [mN_140, e]; exact ⟨Nat.le_of_ble_eq_true rfl, h⟩
theorem sg_140 {d : Nat} {P : Int → Mm → Prop} {a0 : Int} {a1 : Int} {a2 : Int} {M : Mm} (h : ((a0 < a1 → P 0 M) ∧ (a1 ≤ a0 → ((a2 < a0 → P 0 M) ∧ (a0 ≤ a2 → P 1 M))))) : EE (d + 1) 140 [vI a0, vI a1, vI a2] M (rI P) := by
  have hE := EE_mono d
  refine ee_140 ?_
  refine z_iload hE rfl rfl ?_
  refine z_iload hE rfl rfl ?_
  refine z_icmp_lt hE rfl ⟨fun q => ?_, fun q => ?_⟩
  · have h := h.1 q
    refine z_iconst hE rfl ?_
    exact z_zret hE rfl rfl (Or.inl rfl) h
  · have h := h.2 q
    refine z_iload hE rfl rfl ?_
    refine z_iload hE rfl rfl ?_
    refine z_icmp_gt hE rfl ⟨fun q => ?_, fun q => ?_⟩
    · have h := h.1 q
      refine z_iconst hE rfl ?_
      exact z_zret hE rfl rfl (Or.inl rfl) h
    · have h := h.2 q
      refine z_iconst hE rfl ?_
      refine z_goto hE rfl ?_
      exact z_zret hE rfl rfl (Or.inr rfl) h
