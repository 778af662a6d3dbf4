/-! SEGMENTS, printed by gen16.py -/
/-! 0: ChildTrains.child(IIII)I -/
theorem mN_0 : mN 0 = 5 := by decide +kernel
theorem ee_0 {d : Nat} {Q : Ql} {a1 : Int} {a2 : Int} {a3 : Int} {a4 : Int} {M : Mm} (h : GoG false (EE d) cd_0 Q 0 [vR 0, vI a1, vI a2, vI a3, vI a4] [] M) : EE (d + 1) 0 [vR 0, vI a1, vI a2, vI a3, vI a4] M Q := by
  have e : cdTab 0 = cd_0 := rfl
  unfold EE; rw [mN_0, e]; exact ⟨Nat.le_of_ble_eq_true rfl, h⟩
theorem sg_0 {d : Nat} {P : Int → Mm → Prop} {a1 : Int} {a2 : Int} {a3 : Int} {a4 : Int} {M : Mm} (h : EE d 32 [vI a1, vI 0, vI 1] M (rI fun r1 M1 => ((r1 = 0 → P (-1) M1) ∧ (¬ r1 = 0 → EE d 32 [vI a2, vI 1, vI 15] M1 (rI fun r2 M2 => ((r2 = 0 → P (-1) M2) ∧ (¬ r2 = 0 → EE d 32 [vI a3, vI 0, vI 20] M2 (rI fun r3 M3 => ((r3 = 0 → P (-1) M3) ∧ (¬ r3 = 0 → EE d 33 [vI a4] M3 (rI fun r4 M4 => ((¬ r4 = 0 → (((M4 1 6) < 48 → EE d 34 [vR 0] M4 (rV fun M5 => EE d 49 [vR 1, vI a1, vI a2, vI a3, vI a4] M5 (rI fun r6 M6 => P r6 M6))) ∧ (48 ≤ (M4 1 6) → P (-3) M4))) ∧ (r4 = 0 → P (-1) M4))))))))))))) : EE (d + 1) 0 [vR 0, vI a1, vI a2, vI a3, vI a4] M (rI P) := by
  have hE := EE_mono d
  refine ee_0 ?_
  refine z_iload hE rfl rfl ?_
  refine z_iconst hE rfl ?_
  refine z_iconst hE rfl ?_
  refine z_callsI hE rfl rfl rfl rfl rfl (Nat.le_of_ble_eq_true rfl) (by decide) (EE_mono d _ _ _ _ _ (rI_mono fun r1 M1 h => ?_) h)
  refine z_if_eq hE rfl ⟨fun q => ?_, fun q => ?_⟩
  · have h := h.1 q
    refine z_iconst hE rfl ?_
    exact z_iret hE rfl rfl h
  · have h := h.2 q
    refine z_iload hE rfl rfl ?_
    refine z_iconst hE rfl ?_
    refine z_iconst hE rfl ?_
    refine z_callsI hE rfl rfl rfl rfl rfl (Nat.le_of_ble_eq_true rfl) (by decide) (EE_mono d _ _ _ _ _ (rI_mono fun r2 M2 h => ?_) h)
    refine z_if_eq hE rfl ⟨fun q => ?_, fun q => ?_⟩
    · have h := h.1 q
      refine z_iconst hE rfl ?_
      exact z_iret hE rfl rfl h
    · have h := h.2 q
      refine z_iload hE rfl rfl ?_
      refine z_iconst hE rfl ?_
      refine z_iconst hE rfl ?_
      refine z_callsI hE rfl rfl rfl rfl rfl (Nat.le_of_ble_eq_true rfl) (by decide) (EE_mono d _ _ _ _ _ (rI_mono fun r3 M3 h => ?_) h)
      refine z_if_eq hE rfl ⟨fun q => ?_, fun q => ?_⟩
      · have h := h.1 q
        refine z_iconst hE rfl ?_
        exact z_iret hE rfl rfl h
      · have h := h.2 q
        refine z_iload hE rfl rfl ?_
        refine z_callsI hE rfl rfl rfl rfl rfl (Nat.le_of_ble_eq_true rfl) (by decide) (EE_mono d _ _ _ _ _ (rI_mono fun r4 M4 h => ?_) h)
        refine z_if_ne hE rfl ⟨fun q => ?_, fun q => ?_⟩
        · have h := h.1 q
          refine z_aload hE rfl rfl rfl ?_
          refine z_getR hE (q := 1) rfl shk_0 rfl rfl rfl ?_
          refine z_getI hE (sl := 6) rfl shk_1 rfl rfl rfl ?_
          refine z_iconst hE rfl ?_
          refine z_icmp_lt hE rfl ⟨fun q => ?_, fun q => ?_⟩
          · have h := h.1 q
            refine z_aload hE rfl rfl rfl ?_
            refine z_callvV hE rfl rfl rfl rfl rfl (Nat.le_of_ble_eq_true rfl) (by decide) ⟨rfl, rfl⟩ (EE_mono d _ _ _ _ _ (rV_mono fun M5 h => ?_) h)
            refine z_aload hE rfl rfl rfl ?_
            refine z_getR hE (q := 1) rfl shk_0 rfl rfl rfl ?_
            refine z_iload hE rfl rfl ?_
            refine z_iload hE rfl rfl ?_
            refine z_iload hE rfl rfl ?_
            refine z_iload hE rfl rfl ?_
            refine z_callvI hE rfl rfl rfl rfl rfl (Nat.le_of_ble_eq_true rfl) (by decide) ⟨rfl, rfl⟩ (EE_mono d _ _ _ _ _ (rI_mono fun r6 M6 h => ?_) h)
            exact z_iret hE rfl rfl h
          · have h := h.2 q
            refine z_iconst hE rfl ?_
            exact z_iret hE rfl rfl h
        · have h := h.2 q
          refine z_iconst hE rfl ?_
          exact z_iret hE rfl rfl h
/-! 1: ChildTrains.type(JI)I -/
theorem mN_1 : mN 1 = 4 := by decide +kernel
theorem ee_1 {d : Nat} {Q : Ql} {a1 : Int} {a3 : Int} {M : Mm} (h : GoG false (EE d) cd_1 Q 0 [vR 0, vL a1, vU, vI a3] [] M) : EE (d + 1) 1 [vR 0, vL a1, vI a3] M Q := by
  have e : cdTab 1 = cd_1 := rfl
  unfold EE; rw [mN_1, e]; exact ⟨Nat.le_of_ble_eq_true rfl, h⟩
theorem sg_1 {d : Nat} {P : Int → Mm → Prop} {a1 : Int} {a3 : Int} {M : Mm} (h : EE d 32 [vI a3, vI 1, vI 8] M (rI fun r1 M1 => ((¬ r1 = 0 → inI ((M1 8 1) + a3) ∧ ((((M1 8 1) + a3) ≤ 600 → EE d 56 [vR 8, vL a1, vI a3] M1 (rV fun M2 => P (M2 8 1) M2)) ∧ (600 < ((M1 8 1) + a3) → P (-3) M1))) ∧ (r1 = 0 → P (-1) M1)))) : EE (d + 1) 1 [vR 0, vL a1, vI a3] M (rI P) := by
  have hE := EE_mono d
  refine ee_1 ?_
  refine z_iload hE rfl rfl ?_
  refine z_iconst hE rfl ?_
  refine z_iconst hE rfl ?_
  refine z_callsI hE rfl rfl rfl rfl rfl (Nat.le_of_ble_eq_true rfl) (by decide) (EE_mono d _ _ _ _ _ (rI_mono fun r1 M1 h => ?_) h)
  refine z_if_ne hE rfl ⟨fun q => ?_, fun q => ?_⟩
  · have h := h.1 q
    refine z_aload hE rfl rfl rfl ?_
    refine z_getR hE (q := 8) rfl shk_0 rfl rfl rfl ?_
    refine z_getI hE (sl := 1) rfl shk_8 rfl rfl rfl ?_
    refine z_iload hE rfl rfl ?_
    have hb := h.1
    have h := h.2
    refine z_iadd hE rfl hb ?_
    refine z_iconst hE rfl ?_
    refine z_icmp_le hE rfl ⟨fun q => ?_, fun q => ?_⟩
    · have h := h.1 q
      refine z_aload hE rfl rfl rfl ?_
      refine z_getR hE (q := 8) rfl shk_0 rfl rfl rfl ?_
      refine z_lload hE rfl rfl ?_
      refine z_iload hE rfl rfl ?_
      refine z_callvV hE rfl rfl rfl rfl rfl (Nat.le_of_ble_eq_true rfl) (by decide) ⟨rfl, rfl⟩ (EE_mono d _ _ _ _ _ (rV_mono fun M2 h => ?_) h)
      refine z_aload hE rfl rfl rfl ?_
      refine z_getR hE (q := 8) rfl shk_0 rfl rfl rfl ?_
      refine z_getI hE (sl := 1) rfl shk_8 rfl rfl rfl ?_
      exact z_iret hE rfl rfl h
    · have h := h.2 q
      refine z_iconst hE rfl ?_
      exact z_iret hE rfl rfl h
  · have h := h.2 q
    refine z_iconst hE rfl ?_
    exact z_iret hE rfl rfl h
/-! 2: ChildTrains.clear()I -/
theorem mN_2 : mN 2 = 1 := by decide +kernel
theorem ee_2 {d : Nat} {Q : Ql} {M : Mm} (h : GoG false (EE d) cd_2 Q 0 [vR 0] [] M) : EE (d + 1) 2 [vR 0] M Q := by
  have e : cdTab 2 = cd_2 := rfl
  unfold EE; rw [mN_2, e]; exact ⟨Nat.le_of_ble_eq_true rfl, h⟩
theorem sg_2 {d : Nat} {P : Int → Mm → Prop} {M : Mm} (h : EE d 57 [vR 8] M (rI fun r1 M1 => P r1 M1)) : EE (d + 1) 2 [vR 0] M (rI P) := by
  have hE := EE_mono d
  refine ee_2 ?_
  refine z_aload hE rfl rfl rfl ?_
  refine z_getR hE (q := 8) rfl shk_0 rfl rfl rfl ?_
  refine z_callvI hE rfl rfl rfl rfl rfl (Nat.le_of_ble_eq_true rfl) (by decide) ⟨rfl, rfl⟩ (EE_mono d _ _ _ _ _ (rI_mono fun r1 M1 h => ?_) h)
  exact z_iret hE rfl rfl h
/-! 3: ChildTrains.name(I)I -/
theorem mN_3 : mN 3 = 2 := by decide +kernel
theorem ee_3 {d : Nat} {Q : Ql} {a1 : Int} {M : Mm} (h : GoG false (EE d) cd_3 Q 0 [vR 0, vI a1] [] M) : EE (d + 1) 3 [vR 0, vI a1] M Q := by
  have e : cdTab 3 = cd_3 := rfl
  unfold EE; rw [mN_3, e]; exact ⟨Nat.le_of_ble_eq_true rfl, h⟩
theorem sg_3 {d : Nat} {P : Int → Mm → Prop} {a1 : Int} {M : Mm} (h : EE d 35 [vR 0, vI a1] M (rI fun r1 M1 => ((¬ r1 = 0 → EE d 58 [vR 8] M1 (rI fun r2 M2 => ((¬ r2 = 0 → EE d 59 [vR 8] M2 (rL fun r3 M3 => (0 ≤ a1 ∧ a1 < 48) ∧ (0 ≤ a1 ∧ a1 < 48) ∧ EE d 57 [vR 8] (mset (mset M3 6 a1 r3) 7 a1 (M3 8 1)) (rI fun r4 M4 => P r4 M4))) ∧ (r2 = 0 → P (-2) M2)))) ∧ (r1 = 0 → P (-1) M1)))) : EE (d + 1) 3 [vR 0, vI a1] M (rI P) := by
  have hE := EE_mono d
  refine ee_3 ?_
  refine z_aload hE rfl rfl rfl ?_
  refine z_iload hE rfl rfl ?_
  refine z_callvI hE rfl rfl rfl rfl rfl (Nat.le_of_ble_eq_true rfl) (by decide) ⟨rfl, rfl⟩ (EE_mono d _ _ _ _ _ (rI_mono fun r1 M1 h => ?_) h)
  refine z_if_ne hE rfl ⟨fun q => ?_, fun q => ?_⟩
  · have h := h.1 q
    refine z_aload hE rfl rfl rfl ?_
    refine z_getR hE (q := 8) rfl shk_0 rfl rfl rfl ?_
    refine z_callvI hE rfl rfl rfl rfl rfl (Nat.le_of_ble_eq_true rfl) (by decide) ⟨rfl, rfl⟩ (EE_mono d _ _ _ _ _ (rI_mono fun r2 M2 h => ?_) h)
    refine z_if_ne hE rfl ⟨fun q => ?_, fun q => ?_⟩
    · have h := h.1 q
      refine z_aload hE rfl rfl rfl ?_
      refine z_getR hE (q := 1) rfl shk_0 rfl rfl rfl ?_
      refine z_getR hE (q := 6) rfl shk_1 rfl rfl rfl ?_
      refine z_iload hE rfl rfl ?_
      refine z_aload hE rfl rfl rfl ?_
      refine z_getR hE (q := 8) rfl shk_0 rfl rfl rfl ?_
      refine z_callvL hE rfl rfl rfl rfl rfl (Nat.le_of_ble_eq_true rfl) (by decide) ⟨rfl, rfl⟩ (EE_mono d _ _ _ _ _ (rL_mono fun r3 M3 h => ?_) h)
      have hb := h.1
      have h := h.2
      refine z_last hE rfl shk_6 hb ?_
      refine z_aload hE rfl rfl rfl ?_
      refine z_getR hE (q := 1) rfl shk_0 rfl rfl rfl ?_
      refine z_getR hE (q := 7) rfl shk_1 rfl rfl rfl ?_
      refine z_iload hE rfl rfl ?_
      refine z_aload hE rfl rfl rfl ?_
      refine z_getR hE (q := 8) rfl shk_0 rfl rfl rfl ?_
      refine z_getI hE (sl := 1) rfl shk_8 rfl rfl rfl ?_
      have hb := h.1
      have h := h.2
      refine z_iast hE rfl shk_7 hb ?_
      refine z_aload hE rfl rfl rfl ?_
      refine z_getR hE (q := 8) rfl shk_0 rfl rfl rfl ?_
      refine z_callvI hE rfl rfl rfl rfl rfl (Nat.le_of_ble_eq_true rfl) (by decide) ⟨rfl, rfl⟩ (EE_mono d _ _ _ _ _ (rI_mono fun r4 M4 h => ?_) h)
      exact z_iret hE rfl rfl h
    · have h := h.2 q
      refine z_iconst hE rfl ?_
      exact z_iret hE rfl rfl h
  · have h := h.2 q
    refine z_iconst hE rfl ?_
    exact z_iret hE rfl rfl h
/-! 4: ChildTrains.party(III)I -/
def H_4_29 (d : Nat) (P : Int → Mm → Prop) (a1 : Int) (a2 : Int) (a3 : Int) (s0 : Int) (s1 : Int) (s2 : Int) (M : Mm) : Prop := GoG false (EE d) cd_4 (rI P) 29 [vR 0, vI a1, vI a2, vI a3, vU, vU] [vI s0, vI s1, vI s2] M
theorem mN_4 : mN 4 = 6 := by decide +kernel
theorem ee_4 {d : Nat} {Q : Ql} {a1 : Int} {a2 : Int} {a3 : Int} {M : Mm} (h : GoG false (EE d) cd_4 Q 0 [vR 0, vI a1, vI a2, vI a3, vU, vU] [] M) : EE (d + 1) 4 [vR 0, vI a1, vI a2, vI a3] M Q := by
  have e : cdTab 4 = cd_4 := rfl
  unfold EE; rw [mN_4, e]; exact ⟨Nat.le_of_ble_eq_true rfl, h⟩
theorem sg_4 {d : Nat} {P : Int → Mm → Prop} {a1 : Int} {a2 : Int} {a3 : Int} {M : Mm} (h : EE d 33 [vI a1] M (rI fun r1 M1 => ((r1 = 0 → P (-1) M1) ∧ (¬ r1 = 0 → EE d 32 [vI a2, vI 0, vI 1] M1 (rI fun r2 M2 => ((r2 = 0 → P (-1) M2) ∧ (¬ r2 = 0 → ((¬ a2 = 0 → H_4_29 d P a1 a2 a3 300 0 a3 M2) ∧ (a2 = 0 → H_4_29 d P a1 a2 a3 5 0 a3 M2))))))))) : EE (d + 1) 4 [vR 0, vI a1, vI a2, vI a3] M (rI P) := by
  have hE := EE_mono d
  refine ee_4 ?_
  refine z_iload hE rfl rfl ?_
  refine z_callsI hE rfl rfl rfl rfl rfl (Nat.le_of_ble_eq_true rfl) (by decide) (EE_mono d _ _ _ _ _ (rI_mono fun r1 M1 h => ?_) h)
  refine z_if_eq hE rfl ⟨fun q => ?_, fun q => ?_⟩
  · have h := h.1 q
    refine z_iconst hE rfl ?_
    exact z_iret hE rfl rfl h
  · have h := h.2 q
    refine z_iload hE rfl rfl ?_
    refine z_iconst hE rfl ?_
    refine z_iconst hE rfl ?_
    refine z_callsI hE rfl rfl rfl rfl rfl (Nat.le_of_ble_eq_true rfl) (by decide) (EE_mono d _ _ _ _ _ (rI_mono fun r2 M2 h => ?_) h)
    refine z_if_eq hE rfl ⟨fun q => ?_, fun q => ?_⟩
    · have h := h.1 q
      refine z_iconst hE rfl ?_
      exact z_iret hE rfl rfl h
    · have h := h.2 q
      refine z_iload hE rfl rfl ?_
      refine z_iconst hE rfl ?_
      refine z_iload hE rfl rfl ?_
      refine z_if_ne hE rfl ⟨fun q => ?_, fun q => ?_⟩
      · have h := h.1 q
        refine z_iconst hE rfl ?_
        exact h
      · have h := h.2 q
        refine z_iconst hE rfl ?_
        refine z_goto hE rfl ?_
        exact h
theorem sg_4_29 {d : Nat} {P : Int → Mm → Prop} {a1 : Int} {a2 : Int} {a3 : Int} {s0 : Int} {s1 : Int} {s2 : Int} {M : Mm} (h : EE d 32 [vI s2, vI s1, vI s0] M (rI fun r1 M1 => ((¬ r1 = 0 → ((¬ a2 = 0 → (0 ≤ a1 ∧ a1 < 8) ∧ (0 ≤ a1 ∧ a1 < 8) ∧ EE d 34 [vR 0] (mset M1 12 a1 a3) (rV fun M2 => P (M1 12 a1) M2)) ∧ (a2 = 0 → (0 ≤ a1 ∧ a1 < 8) ∧ (0 ≤ a1 ∧ a1 < 8) ∧ EE d 34 [vR 0] (mset M1 11 a1 a3) (rV fun M3 => P (M1 11 a1) M3)))) ∧ (r1 = 0 → P (-1) M1)))) : H_4_29 d P a1 a2 a3 s0 s1 s2 M := by
  have hE := EE_mono d
  unfold H_4_29
  refine z_callsI hE rfl rfl rfl rfl rfl (Nat.le_of_ble_eq_true rfl) (by decide) (EE_mono d _ _ _ _ _ (rI_mono fun r1 M1 h => ?_) h)
  refine z_if_ne hE rfl ⟨fun q => ?_, fun q => ?_⟩
  · have h := h.1 q
    refine z_iload hE rfl rfl ?_
    refine z_if_ne hE rfl ⟨fun q => ?_, fun q => ?_⟩
    · have h := h.1 q
      refine z_aload hE rfl rfl rfl ?_
      refine z_getR hE (q := 10) rfl shk_0 rfl rfl rfl ?_
      refine z_getR hE (q := 12) rfl shk_10 rfl rfl rfl ?_
      refine z_astore hE rfl rfl rfl ?_
      refine z_aload hE rfl rfl rfl ?_
      refine z_iload hE rfl rfl ?_
      have hb := h.1
      have h := h.2
      refine z_iald hE rfl shk_12 hb ?_
      refine z_istore hE rfl rfl rfl ?_
      refine z_aload hE rfl rfl rfl ?_
      refine z_iload hE rfl rfl ?_
      refine z_iload hE rfl rfl ?_
      have hb := h.1
      have h := h.2
      refine z_iast hE rfl shk_12 hb ?_
      refine z_aload hE rfl rfl rfl ?_
      refine z_callvV hE rfl rfl rfl rfl rfl (Nat.le_of_ble_eq_true rfl) (by decide) ⟨rfl, rfl⟩ (EE_mono d _ _ _ _ _ (rV_mono fun M2 h => ?_) h)
      refine z_iload hE rfl rfl ?_
      exact z_iret hE rfl rfl h
    · have h := h.2 q
      refine z_aload hE rfl rfl rfl ?_
      refine z_getR hE (q := 10) rfl shk_0 rfl rfl rfl ?_
      refine z_getR hE (q := 11) rfl shk_10 rfl rfl rfl ?_
      refine z_goto hE rfl ?_
      refine z_astore hE rfl rfl rfl ?_
      refine z_aload hE rfl rfl rfl ?_
      refine z_iload hE rfl rfl ?_
      have hb := h.1
      have h := h.2
      refine z_iald hE rfl shk_11 hb ?_
      refine z_istore hE rfl rfl rfl ?_
      refine z_aload hE rfl rfl rfl ?_
      refine z_iload hE rfl rfl ?_
      refine z_iload hE rfl rfl ?_
      have hb := h.1
      have h := h.2
      refine z_iast hE rfl shk_11 hb ?_
      refine z_aload hE rfl rfl rfl ?_
      refine z_callvV hE rfl rfl rfl rfl rfl (Nat.le_of_ble_eq_true rfl) (by decide) ⟨rfl, rfl⟩ (EE_mono d _ _ _ _ _ (rV_mono fun M3 h => ?_) h)
      refine z_iload hE rfl rfl ?_
      exact z_iret hE rfl rfl h
  · have h := h.2 q
    refine z_iconst hE rfl ?_
    exact z_iret hE rfl rfl h
/-! 5: ChildTrains.train(III)I -/
theorem mN_5 : mN 5 = 5 := by decide +kernel
theorem ee_5 {d : Nat} {Q : Ql} {a1 : Int} {a2 : Int} {a3 : Int} {M : Mm} (h : GoG false (EE d) cd_5 Q 0 [vR 0, vI a1, vI a2, vI a3, vU] [] M) : EE (d + 1) 5 [vR 0, vI a1, vI a2, vI a3] M Q := by
  have e : cdTab 5 = cd_5 := rfl
  unfold EE; rw [mN_5, e]; exact ⟨Nat.le_of_ble_eq_true rfl, h⟩
theorem sg_5 {d : Nat} {P : Int → Mm → Prop} {a1 : Int} {a2 : Int} {a3 : Int} {M : Mm} (h : EE d 36 [vI a1] M (rI fun r1 M1 => ((r1 = 0 → P (-1) M1) ∧ (¬ r1 = 0 → EE d 32 [vI a2, vI 0, vI 4] M1 (rI fun r2 M2 => ((r2 = 0 → P (-1) M2) ∧ (¬ r2 = 0 → (0 ≤ a2 ∧ a2 < 5) ∧ (0 ≤ a2 ∧ a2 < 5) ∧ EE d 32 [vI a3, vI ((tbL.getD 0 []).getD (a2).toNat 0), vI ((tbL.getD 1 []).getD (a2).toNat 0)] M2 (rI fun r3 M3 => ((¬ r3 = 0 → (0 ≤ a1 ∧ a1 < 6) ∧ (0 ≤ a2 ∧ a2 < 5) ∧ (0 ≤ a1 ∧ a1 < 6) ∧ (0 ≤ a2 ∧ a2 < 5) ∧ EE d 34 [vR 0] (mset M3 (14 + a1.toNat) a2 a3) (rV fun M4 => P (M3 (14 + a1.toNat) a2) M4)) ∧ (r3 = 0 → P (-1) M3)))))))))) : EE (d + 1) 5 [vR 0, vI a1, vI a2, vI a3] M (rI P) := by
  have hE := EE_mono d
  refine ee_5 ?_
  refine z_iload hE rfl rfl ?_
  refine z_callsI hE rfl rfl rfl rfl rfl (Nat.le_of_ble_eq_true rfl) (by decide) (EE_mono d _ _ _ _ _ (rI_mono fun r1 M1 h => ?_) h)
  refine z_if_eq hE rfl ⟨fun q => ?_, fun q => ?_⟩
  · have h := h.1 q
    refine z_iconst hE rfl ?_
    exact z_iret hE rfl rfl h
  · have h := h.2 q
    refine z_iload hE rfl rfl ?_
    refine z_iconst hE rfl ?_
    refine z_iconst hE rfl ?_
    refine z_callsI hE rfl rfl rfl rfl rfl (Nat.le_of_ble_eq_true rfl) (by decide) (EE_mono d _ _ _ _ _ (rI_mono fun r2 M2 h => ?_) h)
    refine z_if_eq hE rfl ⟨fun q => ?_, fun q => ?_⟩
    · have h := h.1 q
      refine z_iconst hE rfl ?_
      exact z_iret hE rfl rfl h
    · have h := h.2 q
      refine z_iload hE rfl rfl ?_
      refine z_getsT hE rfl (by decide) ?_
      refine z_iload hE rfl rfl ?_
      have hb := h.1
      have h := h.2
      refine z_ialdT hE rfl (by decide) rfl hb ?_
      refine z_getsT hE rfl (by decide) ?_
      refine z_iload hE rfl rfl ?_
      have hb := h.1
      have h := h.2
      refine z_ialdT hE rfl (by decide) rfl hb ?_
      refine z_callsI hE rfl rfl rfl rfl rfl (Nat.le_of_ble_eq_true rfl) (by decide) (EE_mono d _ _ _ _ _ (rI_mono fun r3 M3 h => ?_) h)
      refine z_if_ne hE rfl ⟨fun q => ?_, fun q => ?_⟩
      · have h := h.1 q
        refine z_aload hE rfl rfl rfl ?_
        refine z_getR hE (q := 10) rfl shk_0 rfl rfl rfl ?_
        refine z_getR hE (q := 13) rfl shk_10 rfl rfl rfl ?_
        refine z_iload hE rfl rfl ?_
        have hb := h.1
        have h := h.2
        refine z_aald hE rfl shk_13 rfl hb ?_
        refine z_iload hE rfl rfl ?_
        have hb := h.1
        have h := h.2
        refine z_ialdW hE rfl shk_14 hb ?_
        refine z_istore hE rfl rfl rfl ?_
        refine z_aload hE rfl rfl rfl ?_
        refine z_getR hE (q := 10) rfl shk_0 rfl rfl rfl ?_
        refine z_getR hE (q := 13) rfl shk_10 rfl rfl rfl ?_
        refine z_iload hE rfl rfl ?_
        have hb := h.1
        have h := h.2
        refine z_aald hE rfl shk_13 rfl hb ?_
        refine z_iload hE rfl rfl ?_
        refine z_iload hE rfl rfl ?_
        have hb := h.1
        have h := h.2
        refine z_iastW hE rfl shk_14 hb ?_
        refine z_aload hE rfl rfl rfl ?_
        refine z_callvV hE rfl rfl rfl rfl rfl (Nat.le_of_ble_eq_true rfl) (by decide) ⟨rfl, rfl⟩ (EE_mono d _ _ _ _ _ (rV_mono fun M4 h => ?_) h)
        refine z_iload hE rfl rfl ?_
        exact z_iret hE rfl rfl h
      · have h := h.2 q
        refine z_iconst hE rfl ?_
        exact z_iret hE rfl rfl h
/-! 6: ChildTrains.wayOf(I)I -/
theorem mN_6 : mN 6 = 3 := by decide +kernel
theorem ee_6 {d : Nat} {Q : Ql} {a1 : Int} {M : Mm} (h : GoG false (EE d) cd_6 Q 0 [vR 0, vI a1, vU] [] M) : EE (d + 1) 6 [vR 0, vI a1] M Q := by
  have e : cdTab 6 = cd_6 := rfl
  unfold EE; rw [mN_6, e]; exact ⟨Nat.le_of_ble_eq_true rfl, h⟩
theorem sg_6 {d : Nat} {P : Int → Mm → Prop} {a1 : Int} {M : Mm} (h : EE d 32 [vI a1, vI 0, vI 2] M (rI fun r1 M1 => ((¬ r1 = 0 → EE d 34 [vR 0] (mset M1 10 8 a1) (rV fun M2 => P (M1 10 8) M2)) ∧ (r1 = 0 → P (-1) M1)))) : EE (d + 1) 6 [vR 0, vI a1] M (rI P) := by
  have hE := EE_mono d
  refine ee_6 ?_
  refine z_iload hE rfl rfl ?_
  refine z_iconst hE rfl ?_
  refine z_iconst hE rfl ?_
  refine z_callsI hE rfl rfl rfl rfl rfl (Nat.le_of_ble_eq_true rfl) (by decide) (EE_mono d _ _ _ _ _ (rI_mono fun r1 M1 h => ?_) h)
  refine z_if_ne hE rfl ⟨fun q => ?_, fun q => ?_⟩
  · have h := h.1 q
    refine z_aload hE rfl rfl rfl ?_
    refine z_getR hE (q := 10) rfl shk_0 rfl rfl rfl ?_
    refine z_getI hE (sl := 8) rfl shk_10 rfl rfl rfl ?_
    refine z_istore hE rfl rfl rfl ?_
    refine z_aload hE rfl rfl rfl ?_
    refine z_getR hE (q := 10) rfl shk_0 rfl rfl rfl ?_
    refine z_iload hE rfl rfl ?_
    refine z_putI hE (sl := 8) rfl shk_10 rfl rfl rfl ?_
    refine z_aload hE rfl rfl rfl ?_
    refine z_callvV hE rfl rfl rfl rfl rfl (Nat.le_of_ble_eq_true rfl) (by decide) ⟨rfl, rfl⟩ (EE_mono d _ _ _ _ _ (rV_mono fun M2 h => ?_) h)
    refine z_iload hE rfl rfl ?_
    exact z_iret hE rfl rfl h
  · have h := h.2 q
    refine z_iconst hE rfl ?_
    exact z_iret hE rfl rfl h
/-! 7: ChildTrains.boarded(II)I -/
theorem mN_7 : mN 7 = 3 := by decide +kernel
theorem ee_7 {d : Nat} {Q : Ql} {a1 : Int} {a2 : Int} {M : Mm} (h : GoG false (EE d) cd_7 Q 0 [vR 0, vI a1, vI a2] [] M) : EE (d + 1) 7 [vR 0, vI a1, vI a2] M Q := by
  have e : cdTab 7 = cd_7 := rfl
  unfold EE; rw [mN_7, e]; exact ⟨Nat.le_of_ble_eq_true rfl, h⟩
theorem sg_7 {d : Nat} {P : Int → Mm → Prop} {a1 : Int} {a2 : Int} {M : Mm} (h : EE d 35 [vR 0, vI a1] M (rI fun r1 M1 => ((r1 = 0 → P (-1) M1) ∧ (¬ r1 = 0 → EE d 32 [vI a2, vI 0, vI 2] M1 (rI fun r2 M2 => ((¬ r2 = 0 → EE d 94 [vR 10, vR 1] M2 (rV fun M3 => ((¬ a2 = 0 → ((¬ a2 = 1 → EE d 98 [vR 10, vI a1] M3 (rI fun r4 M4 => P r4 M4)) ∧ (a2 = 1 → (0 ≤ a1 ∧ a1 < 48) ∧ P (M3 23 a1) M3))) ∧ (a2 = 0 → (0 ≤ a1 ∧ a1 < 48) ∧ P (M3 22 a1) M3)))) ∧ (r2 = 0 → P (-1) M2))))))) : EE (d + 1) 7 [vR 0, vI a1, vI a2] M (rI P) := by
  have hE := EE_mono d
  refine ee_7 ?_
  refine z_aload hE rfl rfl rfl ?_
  refine z_iload hE rfl rfl ?_
  refine z_callvI hE rfl rfl rfl rfl rfl (Nat.le_of_ble_eq_true rfl) (by decide) ⟨rfl, rfl⟩ (EE_mono d _ _ _ _ _ (rI_mono fun r1 M1 h => ?_) h)
  refine z_if_eq hE rfl ⟨fun q => ?_, fun q => ?_⟩
  · have h := h.1 q
    refine z_iconst hE rfl ?_
    exact z_iret hE rfl rfl h
  · have h := h.2 q
    refine z_iload hE rfl rfl ?_
    refine z_iconst hE rfl ?_
    refine z_iconst hE rfl ?_
    refine z_callsI hE rfl rfl rfl rfl rfl (Nat.le_of_ble_eq_true rfl) (by decide) (EE_mono d _ _ _ _ _ (rI_mono fun r2 M2 h => ?_) h)
    refine z_if_ne hE rfl ⟨fun q => ?_, fun q => ?_⟩
    · have h := h.1 q
      refine z_aload hE rfl rfl rfl ?_
      refine z_getR hE (q := 10) rfl shk_0 rfl rfl rfl ?_
      refine z_aload hE rfl rfl rfl ?_
      refine z_getR hE (q := 1) rfl shk_0 rfl rfl rfl ?_
      refine z_callvV hE rfl rfl rfl rfl rfl (Nat.le_of_ble_eq_true rfl) (by decide) ⟨rfl, rfl⟩ (EE_mono d _ _ _ _ _ (rV_mono fun M3 h => ?_) h)
      refine z_iload hE rfl rfl ?_
      refine z_if_ne hE rfl ⟨fun q => ?_, fun q => ?_⟩
      · have h := h.1 q
        refine z_iload hE rfl rfl ?_
        refine z_iconst hE rfl ?_
        refine z_icmp_ne hE rfl ⟨fun q => ?_, fun q => ?_⟩
        · have h := h.1 q
          refine z_aload hE rfl rfl rfl ?_
          refine z_getR hE (q := 10) rfl shk_0 rfl rfl rfl ?_
          refine z_iload hE rfl rfl ?_
          refine z_callvI hE rfl rfl rfl rfl rfl (Nat.le_of_ble_eq_true rfl) (by decide) ⟨rfl, rfl⟩ (EE_mono d _ _ _ _ _ (rI_mono fun r4 M4 h => ?_) h)
          exact z_iret hE rfl rfl h
        · have h := h.2 q
          refine z_aload hE rfl rfl rfl ?_
          refine z_getR hE (q := 10) rfl shk_0 rfl rfl rfl ?_
          refine z_getR hE (q := 23) rfl shk_10 rfl rfl rfl ?_
          refine z_iload hE rfl rfl ?_
          have hb := h.1
          have h := h.2
          refine z_iald hE rfl shk_23 hb ?_
          refine z_goto hE rfl ?_
          exact z_iret hE rfl rfl h
      · have h := h.2 q
        refine z_aload hE rfl rfl rfl ?_
        refine z_getR hE (q := 10) rfl shk_0 rfl rfl rfl ?_
        refine z_getR hE (q := 22) rfl shk_10 rfl rfl rfl ?_
        refine z_iload hE rfl rfl ?_
        have hb := h.1
        have h := h.2
        refine z_iald hE rfl shk_22 hb ?_
        refine z_goto hE rfl ?_
        exact z_iret hE rfl rfl h
    · have h := h.2 q
      refine z_iconst hE rfl ?_
      exact z_iret hE rfl rfl h
/-! 8: ChildTrains.mixed(I)I -/
theorem mN_8 : mN 8 = 3 := by decide +kernel
theorem ee_8 {d : Nat} {Q : Ql} {a1 : Int} {M : Mm} (h : GoG false (EE d) cd_8 Q 0 [vR 0, vI a1, vU] [] M) : EE (d + 1) 8 [vR 0, vI a1] M Q := by
  have e : cdTab 8 = cd_8 := rfl
  unfold EE; rw [mN_8, e]; exact ⟨Nat.le_of_ble_eq_true rfl, h⟩
theorem sg_8 {d : Nat} {P : Int → Mm → Prop} {a1 : Int} {M : Mm} (h : EE d 32 [vI a1, vI 0, vI 2] M (rI fun r1 M1 => ((¬ r1 = 0 → EE d 94 [vR 10, vR 1] M1 (rV fun M2 => EE d 99 [vR 10, vR 1, vI (-9)] M2 (rI fun r3 M3 => ((¬ a1 = 0 → ((¬ a1 = 1 → inI ((M3 1 6) - r3) ∧ P ((M3 1 6) - r3) M3) ∧ (a1 = 1 → P r3 M3))) ∧ (a1 = 0 → EE d 101 [vR 10, vR 1] M3 (rI fun r4 M4 => P r4 M4)))))) ∧ (r1 = 0 → P (-1) M1)))) : EE (d + 1) 8 [vR 0, vI a1] M (rI P) := by
  have hE := EE_mono d
  refine ee_8 ?_
  refine z_iload hE rfl rfl ?_
  refine z_iconst hE rfl ?_
  refine z_iconst hE rfl ?_
  refine z_callsI hE rfl rfl rfl rfl rfl (Nat.le_of_ble_eq_true rfl) (by decide) (EE_mono d _ _ _ _ _ (rI_mono fun r1 M1 h => ?_) h)
  refine z_if_ne hE rfl ⟨fun q => ?_, fun q => ?_⟩
  · have h := h.1 q
    refine z_aload hE rfl rfl rfl ?_
    refine z_getR hE (q := 10) rfl shk_0 rfl rfl rfl ?_
    refine z_aload hE rfl rfl rfl ?_
    refine z_getR hE (q := 1) rfl shk_0 rfl rfl rfl ?_
    refine z_callvV hE rfl rfl rfl rfl rfl (Nat.le_of_ble_eq_true rfl) (by decide) ⟨rfl, rfl⟩ (EE_mono d _ _ _ _ _ (rV_mono fun M2 h => ?_) h)
    refine z_aload hE rfl rfl rfl ?_
    refine z_getR hE (q := 10) rfl shk_0 rfl rfl rfl ?_
    refine z_aload hE rfl rfl rfl ?_
    refine z_getR hE (q := 1) rfl shk_0 rfl rfl rfl ?_
    refine z_iconst hE rfl ?_
    refine z_callvI hE rfl rfl rfl rfl rfl (Nat.le_of_ble_eq_true rfl) (by decide) ⟨rfl, rfl⟩ (EE_mono d _ _ _ _ _ (rI_mono fun r3 M3 h => ?_) h)
    refine z_istore hE rfl rfl rfl ?_
    refine z_iload hE rfl rfl ?_
    refine z_if_ne hE rfl ⟨fun q => ?_, fun q => ?_⟩
    · have h := h.1 q
      refine z_iload hE rfl rfl ?_
      refine z_iconst hE rfl ?_
      refine z_icmp_ne hE rfl ⟨fun q => ?_, fun q => ?_⟩
      · have h := h.1 q
        refine z_aload hE rfl rfl rfl ?_
        refine z_getR hE (q := 1) rfl shk_0 rfl rfl rfl ?_
        refine z_getI hE (sl := 6) rfl shk_1 rfl rfl rfl ?_
        refine z_iload hE rfl rfl ?_
        have hb := h.1
        have h := h.2
        refine z_isub hE rfl hb ?_
        exact z_iret hE rfl rfl h
      · have h := h.2 q
        refine z_iload hE rfl rfl ?_
        refine z_goto hE rfl ?_
        exact z_iret hE rfl rfl h
    · have h := h.2 q
      refine z_aload hE rfl rfl rfl ?_
      refine z_getR hE (q := 10) rfl shk_0 rfl rfl rfl ?_
      refine z_aload hE rfl rfl rfl ?_
      refine z_getR hE (q := 1) rfl shk_0 rfl rfl rfl ?_
      refine z_callvI hE rfl rfl rfl rfl rfl (Nat.le_of_ble_eq_true rfl) (by decide) ⟨rfl, rfl⟩ (EE_mono d _ _ _ _ _ (rI_mono fun r4 M4 h => ?_) h)
      refine z_goto hE rfl ?_
      exact z_iret hE rfl rfl h
  · have h := h.2 q
    refine z_iconst hE rfl ?_
    exact z_iret hE rfl rfl h
/-! 9: ChildTrains.load(II)I -/
def H_9_13 (d : Nat) (P : Int → Mm → Prop) (a1 : Int) (a2 : Int) (M : Mm) : Prop := GoG false (EE d) cd_9 (rI P) 13 [vR 0, vI a1, vI a2] [] M
theorem mN_9 : mN 9 = 3 := by decide +kernel
theorem ee_9 {d : Nat} {Q : Ql} {a1 : Int} {a2 : Int} {M : Mm} (h : GoG false (EE d) cd_9 Q 0 [vR 0, vI a1, vI a2] [] M) : EE (d + 1) 9 [vR 0, vI a1, vI a2] M Q := by
  have e : cdTab 9 = cd_9 := rfl
  unfold EE; rw [mN_9, e]; exact ⟨Nat.le_of_ble_eq_true rfl, h⟩
theorem sg_9 {d : Nat} {P : Int → Mm → Prop} {a1 : Int} {a2 : Int} {M : Mm} (h : ((a1 = (-9) → H_9_13 d P a1 a2 M) ∧ (¬ a1 = (-9) → EE d 36 [vI a1] M (rI fun r1 M1 => ((r1 = 0 → P (-1) M1) ∧ (¬ r1 = 0 → H_9_13 d P a1 a2 M1)))))) : EE (d + 1) 9 [vR 0, vI a1, vI a2] M (rI P) := by
  have hE := EE_mono d
  refine ee_9 ?_
  refine z_iload hE rfl rfl ?_
  refine z_iconst hE rfl ?_
  refine z_icmp_eq hE rfl ⟨fun q => ?_, fun q => ?_⟩
  · have h := h.1 q
    exact h
  · have h := h.2 q
    refine z_iload hE rfl rfl ?_
    refine z_callsI hE rfl rfl rfl rfl rfl (Nat.le_of_ble_eq_true rfl) (by decide) (EE_mono d _ _ _ _ _ (rI_mono fun r1 M1 h => ?_) h)
    refine z_if_eq hE rfl ⟨fun q => ?_, fun q => ?_⟩
    · have h := h.1 q
      refine z_iconst hE rfl ?_
      exact z_iret hE rfl rfl h
    · have h := h.2 q
      exact h
theorem sg_9_13 {d : Nat} {P : Int → Mm → Prop} {a1 : Int} {a2 : Int} {M : Mm} (h : EE d 33 [vI a2] M (rI fun r1 M1 => ((¬ r1 = 0 → EE d 94 [vR 10, vR 1] M1 (rV fun M2 => EE d 100 [vR 10, vR 1, vI a1, vI a2] M2 (rI fun r3 M3 => P r3 M3))) ∧ (r1 = 0 → P (-1) M1)))) : H_9_13 d P a1 a2 M := by
  have hE := EE_mono d
  unfold H_9_13
  refine z_iload hE rfl rfl ?_
  refine z_callsI hE rfl rfl rfl rfl rfl (Nat.le_of_ble_eq_true rfl) (by decide) (EE_mono d _ _ _ _ _ (rI_mono fun r1 M1 h => ?_) h)
  refine z_if_ne hE rfl ⟨fun q => ?_, fun q => ?_⟩
  · have h := h.1 q
    refine z_aload hE rfl rfl rfl ?_
    refine z_getR hE (q := 10) rfl shk_0 rfl rfl rfl ?_
    refine z_aload hE rfl rfl rfl ?_
    refine z_getR hE (q := 1) rfl shk_0 rfl rfl rfl ?_
    refine z_callvV hE rfl rfl rfl rfl rfl (Nat.le_of_ble_eq_true rfl) (by decide) ⟨rfl, rfl⟩ (EE_mono d _ _ _ _ _ (rV_mono fun M2 h => ?_) h)
    refine z_aload hE rfl rfl rfl ?_
    refine z_getR hE (q := 10) rfl shk_0 rfl rfl rfl ?_
    refine z_aload hE rfl rfl rfl ?_
    refine z_getR hE (q := 1) rfl shk_0 rfl rfl rfl ?_
    refine z_iload hE rfl rfl ?_
    refine z_iload hE rfl rfl ?_
    refine z_callvI hE rfl rfl rfl rfl rfl (Nat.le_of_ble_eq_true rfl) (by decide) ⟨rfl, rfl⟩ (EE_mono d _ _ _ _ _ (rI_mono fun r3 M3 h => ?_) h)
    exact z_iret hE rfl rfl h
  · have h := h.2 q
    refine z_iconst hE rfl ?_
    exact z_iret hE rfl rfl h
/-! 10: ChildTrains.house(IIIII)I -/
theorem mN_10 : mN 10 = 6 := by decide +kernel
theorem ee_10 {d : Nat} {Q : Ql} {a1 : Int} {a2 : Int} {a3 : Int} {a4 : Int} {a5 : Int} {M : Mm} (h : GoG false (EE d) cd_10 Q 0 [vR 0, vI a1, vI a2, vI a3, vI a4, vI a5] [] M) : EE (d + 1) 10 [vR 0, vI a1, vI a2, vI a3, vI a4, vI a5] M Q := by
  have e : cdTab 10 = cd_10 := rfl
  unfold EE; rw [mN_10, e]; exact ⟨Nat.le_of_ble_eq_true rfl, h⟩
theorem sg_10 {d : Nat} {P : Int → Mm → Prop} {a1 : Int} {a2 : Int} {a3 : Int} {a4 : Int} {a5 : Int} {M : Mm} (h : EE d 37 [vI a1] M (rI fun r1 M1 => ((r1 = 0 → P (-1) M1) ∧ (¬ r1 = 0 → EE d 32 [vI a2, vI 1, vI 3] M1 (rI fun r2 M2 => ((r2 = 0 → P (-1) M2) ∧ (¬ r2 = 0 → EE d 32 [vI a3, vI 1, vI 4] M2 (rI fun r3 M3 => ((r3 = 0 → P (-1) M3) ∧ (¬ r3 = 0 → EE d 32 [vI a4, vI 0, vI 15] M3 (rI fun r4 M4 => ((r4 = 0 → P (-1) M4) ∧ (¬ r4 = 0 → EE d 32 [vI a5, vI 0, vI 3] M4 (rI fun r5 M5 => ((¬ r5 = 0 → (((M5 24 5) < 24 → EE d 68 [vR 24, vI a1, vI a2, vI a3, vI a4, vI a5] (mset M5 33 7 (-9)) (rI fun r6 M6 => P r6 M6)) ∧ (24 ≤ (M5 24 5) → P (-3) M5))) ∧ (r5 = 0 → P (-1) M5)))))))))))))))) : EE (d + 1) 10 [vR 0, vI a1, vI a2, vI a3, vI a4, vI a5] M (rI P) := by
  have hE := EE_mono d
  refine ee_10 ?_
  refine z_iload hE rfl rfl ?_
  refine z_callsI hE rfl rfl rfl rfl rfl (Nat.le_of_ble_eq_true rfl) (by decide) (EE_mono d _ _ _ _ _ (rI_mono fun r1 M1 h => ?_) h)
  refine z_if_eq hE rfl ⟨fun q => ?_, fun q => ?_⟩
  · have h := h.1 q
    refine z_iconst hE rfl ?_
    exact z_iret hE rfl rfl h
  · have h := h.2 q
    refine z_iload hE rfl rfl ?_
    refine z_iconst hE rfl ?_
    refine z_iconst hE rfl ?_
    refine z_callsI hE rfl rfl rfl rfl rfl (Nat.le_of_ble_eq_true rfl) (by decide) (EE_mono d _ _ _ _ _ (rI_mono fun r2 M2 h => ?_) h)
    refine z_if_eq hE rfl ⟨fun q => ?_, fun q => ?_⟩
    · have h := h.1 q
      refine z_iconst hE rfl ?_
      exact z_iret hE rfl rfl h
    · have h := h.2 q
      refine z_iload hE rfl rfl ?_
      refine z_iconst hE rfl ?_
      refine z_iconst hE rfl ?_
      refine z_callsI hE rfl rfl rfl rfl rfl (Nat.le_of_ble_eq_true rfl) (by decide) (EE_mono d _ _ _ _ _ (rI_mono fun r3 M3 h => ?_) h)
      refine z_if_eq hE rfl ⟨fun q => ?_, fun q => ?_⟩
      · have h := h.1 q
        refine z_iconst hE rfl ?_
        exact z_iret hE rfl rfl h
      · have h := h.2 q
        refine z_iload hE rfl rfl ?_
        refine z_iconst hE rfl ?_
        refine z_iconst hE rfl ?_
        refine z_callsI hE rfl rfl rfl rfl rfl (Nat.le_of_ble_eq_true rfl) (by decide) (EE_mono d _ _ _ _ _ (rI_mono fun r4 M4 h => ?_) h)
        refine z_if_eq hE rfl ⟨fun q => ?_, fun q => ?_⟩
        · have h := h.1 q
          refine z_iconst hE rfl ?_
          exact z_iret hE rfl rfl h
        · have h := h.2 q
          refine z_iload hE rfl rfl ?_
          refine z_iconst hE rfl ?_
          refine z_iconst hE rfl ?_
          refine z_callsI hE rfl rfl rfl rfl rfl (Nat.le_of_ble_eq_true rfl) (by decide) (EE_mono d _ _ _ _ _ (rI_mono fun r5 M5 h => ?_) h)
          refine z_if_ne hE rfl ⟨fun q => ?_, fun q => ?_⟩
          · have h := h.1 q
            refine z_aload hE rfl rfl rfl ?_
            refine z_getR hE (q := 24) rfl shk_0 rfl rfl rfl ?_
            refine z_getI hE (sl := 5) rfl shk_24 rfl rfl rfl ?_
            refine z_iconst hE rfl ?_
            refine z_icmp_lt hE rfl ⟨fun q => ?_, fun q => ?_⟩
            · have h := h.1 q
              refine z_aload hE rfl rfl rfl ?_
              refine z_getR hE (q := 33) rfl shk_0 rfl rfl rfl ?_
              refine z_iconst hE rfl ?_
              refine z_putI hE (sl := 7) rfl shk_33 rfl rfl rfl ?_
              refine z_aload hE rfl rfl rfl ?_
              refine z_getR hE (q := 24) rfl shk_0 rfl rfl rfl ?_
              refine z_iload hE rfl rfl ?_
              refine z_iload hE rfl rfl ?_
              refine z_iload hE rfl rfl ?_
              refine z_iload hE rfl rfl ?_
              refine z_iload hE rfl rfl ?_
              refine z_callvI hE rfl rfl rfl rfl rfl (Nat.le_of_ble_eq_true rfl) (by decide) ⟨rfl, rfl⟩ (EE_mono d _ _ _ _ _ (rI_mono fun r6 M6 h => ?_) h)
              exact z_iret hE rfl rfl h
            · have h := h.2 q
              refine z_iconst hE rfl ?_
              exact z_iret hE rfl rfl h
          · have h := h.2 q
            refine z_iconst hE rfl ?_
            exact z_iret hE rfl rfl h
/-! 11: ChildTrains.pay(III)I -/
theorem mN_11 : mN 11 = 4 := by decide +kernel
theorem ee_11 {d : Nat} {Q : Ql} {a1 : Int} {a2 : Int} {a3 : Int} {M : Mm} (h : GoG false (EE d) cd_11 Q 0 [vR 0, vI a1, vI a2, vI a3] [] M) : EE (d + 1) 11 [vR 0, vI a1, vI a2, vI a3] M Q := by
  have e : cdTab 11 = cd_11 := rfl
  unfold EE; rw [mN_11, e]; exact ⟨Nat.le_of_ble_eq_true rfl, h⟩
theorem sg_11 {d : Nat} {P : Int → Mm → Prop} {a1 : Int} {a2 : Int} {a3 : Int} {M : Mm} (h : EE d 32 [vI a1, vI 0, vI 3] M (rI fun r1 M1 => ((r1 = 0 → P (-1) M1) ∧ (¬ r1 = 0 → EE d 32 [vI a2, vI 0, vI 9] M1 (rI fun r2 M2 => ((r2 = 0 → P (-1) M2) ∧ (¬ r2 = 0 → EE d 32 [vI a3, vI 0, vI a2] M2 (rI fun r3 M3 => ((¬ r3 = 0 → EE d 38 [vI a1] M3 (rL fun r4 M4 => inJ ((M3 0 13) + r4) ∧ EE d 39 [vI a1, vI a2, vI a3] (mset M4 0 13 ((M3 0 13) + r4)) (rI fun r5 M5 => P r5 M5))) ∧ (r3 = 0 → P (-1) M3)))))))))) : EE (d + 1) 11 [vR 0, vI a1, vI a2, vI a3] M (rI P) := by
  have hE := EE_mono d
  refine ee_11 ?_
  refine z_iload hE rfl rfl ?_
  refine z_iconst hE rfl ?_
  refine z_iconst hE rfl ?_
  refine z_callsI hE rfl rfl rfl rfl rfl (Nat.le_of_ble_eq_true rfl) (by decide) (EE_mono d _ _ _ _ _ (rI_mono fun r1 M1 h => ?_) h)
  refine z_if_eq hE rfl ⟨fun q => ?_, fun q => ?_⟩
  · have h := h.1 q
    refine z_iconst hE rfl ?_
    exact z_iret hE rfl rfl h
  · have h := h.2 q
    refine z_iload hE rfl rfl ?_
    refine z_iconst hE rfl ?_
    refine z_iconst hE rfl ?_
    refine z_callsI hE rfl rfl rfl rfl rfl (Nat.le_of_ble_eq_true rfl) (by decide) (EE_mono d _ _ _ _ _ (rI_mono fun r2 M2 h => ?_) h)
    refine z_if_eq hE rfl ⟨fun q => ?_, fun q => ?_⟩
    · have h := h.1 q
      refine z_iconst hE rfl ?_
      exact z_iret hE rfl rfl h
    · have h := h.2 q
      refine z_iload hE rfl rfl ?_
      refine z_iconst hE rfl ?_
      refine z_iload hE rfl rfl ?_
      refine z_callsI hE rfl rfl rfl rfl rfl (Nat.le_of_ble_eq_true rfl) (by decide) (EE_mono d _ _ _ _ _ (rI_mono fun r3 M3 h => ?_) h)
      refine z_if_ne hE rfl ⟨fun q => ?_, fun q => ?_⟩
      · have h := h.1 q
        refine z_aload hE rfl rfl rfl ?_
        refine z_dup hE rfl rfl ?_
        refine z_getJ hE (sl := 13) rfl shk_0 rfl rfl rfl ?_
        refine z_iload hE rfl rfl ?_
        refine z_callsL hE rfl rfl rfl rfl rfl (Nat.le_of_ble_eq_true rfl) (by decide) (EE_mono d _ _ _ _ _ (rL_mono fun r4 M4 h => ?_) h)
        have hb := h.1
        have h := h.2
        refine z_ladd hE rfl hb ?_
        refine z_putJ hE (sl := 13) rfl shk_0 rfl rfl rfl ?_
        refine z_iload hE rfl rfl ?_
        refine z_iload hE rfl rfl ?_
        refine z_iload hE rfl rfl ?_
        refine z_callsI hE rfl rfl rfl rfl rfl (Nat.le_of_ble_eq_true rfl) (by decide) (EE_mono d _ _ _ _ _ (rI_mono fun r5 M5 h => ?_) h)
        exact z_iret hE rfl rfl h
      · have h := h.2 q
        refine z_iconst hE rfl ?_
        exact z_iret hE rfl rfl h
/-! 12: ChildTrains.hall(II)I -/
theorem mN_12 : mN 12 = 3 := by decide +kernel
theorem ee_12 {d : Nat} {Q : Ql} {a1 : Int} {a2 : Int} {M : Mm} (h : GoG false (EE d) cd_12 Q 0 [vR 0, vI a1, vI a2] [] M) : EE (d + 1) 12 [vR 0, vI a1, vI a2] M Q := by
  have e : cdTab 12 = cd_12 := rfl
  unfold EE; rw [mN_12, e]; exact ⟨Nat.le_of_ble_eq_true rfl, h⟩
theorem sg_12 {d : Nat} {P : Int → Mm → Prop} {a1 : Int} {a2 : Int} {M : Mm} (h : EE d 37 [vI a1] M (rI fun r1 M1 => ((r1 = 0 → P (-1) M1) ∧ (¬ r1 = 0 → EE d 32 [vI a2, vI 0, vI 2] M1 (rI fun r2 M2 => ((¬ r2 = 0 → EE d 40 [vR 0, vI a1] M2 (rV fun M3 => ((¬ a2 = 0 → EE d 62 [vR 30, vR 1, vR 24, vI a1] M3 (rV fun M4 => ((¬ a2 = 1 → EE d 67 [vR 30, vR 1] M4 (rI fun r5 M5 => P r5 M5)) ∧ (a2 = 1 → EE d 66 [vR 30] M4 (rI fun r6 M6 => P r6 M6))))) ∧ (a2 = 0 → P (M3 30 2) M3)))) ∧ (r2 = 0 → P (-1) M2))))))) : EE (d + 1) 12 [vR 0, vI a1, vI a2] M (rI P) := by
  have hE := EE_mono d
  refine ee_12 ?_
  refine z_iload hE rfl rfl ?_
  refine z_callsI hE rfl rfl rfl rfl rfl (Nat.le_of_ble_eq_true rfl) (by decide) (EE_mono d _ _ _ _ _ (rI_mono fun r1 M1 h => ?_) h)
  refine z_if_eq hE rfl ⟨fun q => ?_, fun q => ?_⟩
  · have h := h.1 q
    refine z_iconst hE rfl ?_
    exact z_iret hE rfl rfl h
  · have h := h.2 q
    refine z_iload hE rfl rfl ?_
    refine z_iconst hE rfl ?_
    refine z_iconst hE rfl ?_
    refine z_callsI hE rfl rfl rfl rfl rfl (Nat.le_of_ble_eq_true rfl) (by decide) (EE_mono d _ _ _ _ _ (rI_mono fun r2 M2 h => ?_) h)
    refine z_if_ne hE rfl ⟨fun q => ?_, fun q => ?_⟩
    · have h := h.1 q
      refine z_aload hE rfl rfl rfl ?_
      refine z_iload hE rfl rfl ?_
      refine z_callvV hE rfl rfl rfl rfl rfl (Nat.le_of_ble_eq_true rfl) (by decide) ⟨rfl, rfl⟩ (EE_mono d _ _ _ _ _ (rV_mono fun M3 h => ?_) h)
      refine z_iload hE rfl rfl ?_
      refine z_if_ne hE rfl ⟨fun q => ?_, fun q => ?_⟩
      · have h := h.1 q
        refine z_aload hE rfl rfl rfl ?_
        refine z_getR hE (q := 30) rfl shk_0 rfl rfl rfl ?_
        refine z_aload hE rfl rfl rfl ?_
        refine z_getR hE (q := 1) rfl shk_0 rfl rfl rfl ?_
        refine z_aload hE rfl rfl rfl ?_
        refine z_getR hE (q := 24) rfl shk_0 rfl rfl rfl ?_
        refine z_iload hE rfl rfl ?_
        refine z_callvV hE rfl rfl rfl rfl rfl (Nat.le_of_ble_eq_true rfl) (by decide) ⟨rfl, rfl⟩ (EE_mono d _ _ _ _ _ (rV_mono fun M4 h => ?_) h)
        refine z_iload hE rfl rfl ?_
        refine z_iconst hE rfl ?_
        refine z_icmp_ne hE rfl ⟨fun q => ?_, fun q => ?_⟩
        · have h := h.1 q
          refine z_aload hE rfl rfl rfl ?_
          refine z_getR hE (q := 30) rfl shk_0 rfl rfl rfl ?_
          refine z_aload hE rfl rfl rfl ?_
          refine z_getR hE (q := 1) rfl shk_0 rfl rfl rfl ?_
          refine z_callvI hE rfl rfl rfl rfl rfl (Nat.le_of_ble_eq_true rfl) (by decide) ⟨rfl, rfl⟩ (EE_mono d _ _ _ _ _ (rI_mono fun r5 M5 h => ?_) h)
          exact z_iret hE rfl rfl h
        · have h := h.2 q
          refine z_aload hE rfl rfl rfl ?_
          refine z_getR hE (q := 30) rfl shk_0 rfl rfl rfl ?_
          refine z_callvI hE rfl rfl rfl rfl rfl (Nat.le_of_ble_eq_true rfl) (by decide) ⟨rfl, rfl⟩ (EE_mono d _ _ _ _ _ (rI_mono fun r6 M6 h => ?_) h)
          refine z_goto hE rfl ?_
          exact z_iret hE rfl rfl h
      · have h := h.2 q
        refine z_aload hE rfl rfl rfl ?_
        refine z_getR hE (q := 30) rfl shk_0 rfl rfl rfl ?_
        refine z_getI hE (sl := 2) rfl shk_30 rfl rfl rfl ?_
        exact z_iret hE rfl rfl h
    · have h := h.2 q
      refine z_iconst hE rfl ?_
      exact z_iret hE rfl rfl h
/-! 13: ChildTrains.chosen(I)I -/
theorem mN_13 : mN 13 = 3 := by decide +kernel
theorem ee_13 {d : Nat} {Q : Ql} {a1 : Int} {M : Mm} (h : GoG false (EE d) cd_13 Q 0 [vR 0, vI a1, vU] [] M) : EE (d + 1) 13 [vR 0, vI a1] M Q := by
  have e : cdTab 13 = cd_13 := rfl
  unfold EE; rw [mN_13, e]; exact ⟨Nat.le_of_ble_eq_true rfl, h⟩
theorem sg_13 {d : Nat} {P : Int → Mm → Prop} {a1 : Int} {M : Mm} (h : EE d 35 [vR 0, vI a1] M (rI fun r1 M1 => ((¬ r1 = 0 → EE d 94 [vR 10, vR 1] M1 (rV fun M2 => EE d 98 [vR 10, vI a1] M2 (rI fun r3 M3 => ((¬ r3 = (-9) → EE d 40 [vR 0, vI r3] M3 (rV fun M4 => EE d 62 [vR 30, vR 1, vR 24, vI r3] M4 (rV fun M5 => (0 ≤ a1 ∧ a1 < 48) ∧ P (M5 32 a1) M5))) ∧ (r3 = (-9) → P (-9) M3))))) ∧ (r1 = 0 → P (-1) M1)))) : EE (d + 1) 13 [vR 0, vI a1] M (rI P) := by
  have hE := EE_mono d
  refine ee_13 ?_
  refine z_aload hE rfl rfl rfl ?_
  refine z_iload hE rfl rfl ?_
  refine z_callvI hE rfl rfl rfl rfl rfl (Nat.le_of_ble_eq_true rfl) (by decide) ⟨rfl, rfl⟩ (EE_mono d _ _ _ _ _ (rI_mono fun r1 M1 h => ?_) h)
  refine z_if_ne hE rfl ⟨fun q => ?_, fun q => ?_⟩
  · have h := h.1 q
    refine z_aload hE rfl rfl rfl ?_
    refine z_getR hE (q := 10) rfl shk_0 rfl rfl rfl ?_
    refine z_aload hE rfl rfl rfl ?_
    refine z_getR hE (q := 1) rfl shk_0 rfl rfl rfl ?_
    refine z_callvV hE rfl rfl rfl rfl rfl (Nat.le_of_ble_eq_true rfl) (by decide) ⟨rfl, rfl⟩ (EE_mono d _ _ _ _ _ (rV_mono fun M2 h => ?_) h)
    refine z_aload hE rfl rfl rfl ?_
    refine z_getR hE (q := 10) rfl shk_0 rfl rfl rfl ?_
    refine z_iload hE rfl rfl ?_
    refine z_callvI hE rfl rfl rfl rfl rfl (Nat.le_of_ble_eq_true rfl) (by decide) ⟨rfl, rfl⟩ (EE_mono d _ _ _ _ _ (rI_mono fun r3 M3 h => ?_) h)
    refine z_istore hE rfl rfl rfl ?_
    refine z_iload hE rfl rfl ?_
    refine z_iconst hE rfl ?_
    refine z_icmp_ne hE rfl ⟨fun q => ?_, fun q => ?_⟩
    · have h := h.1 q
      refine z_aload hE rfl rfl rfl ?_
      refine z_iload hE rfl rfl ?_
      refine z_callvV hE rfl rfl rfl rfl rfl (Nat.le_of_ble_eq_true rfl) (by decide) ⟨rfl, rfl⟩ (EE_mono d _ _ _ _ _ (rV_mono fun M4 h => ?_) h)
      refine z_aload hE rfl rfl rfl ?_
      refine z_getR hE (q := 30) rfl shk_0 rfl rfl rfl ?_
      refine z_aload hE rfl rfl rfl ?_
      refine z_getR hE (q := 1) rfl shk_0 rfl rfl rfl ?_
      refine z_aload hE rfl rfl rfl ?_
      refine z_getR hE (q := 24) rfl shk_0 rfl rfl rfl ?_
      refine z_iload hE rfl rfl ?_
      refine z_callvV hE rfl rfl rfl rfl rfl (Nat.le_of_ble_eq_true rfl) (by decide) ⟨rfl, rfl⟩ (EE_mono d _ _ _ _ _ (rV_mono fun M5 h => ?_) h)
      refine z_aload hE rfl rfl rfl ?_
      refine z_getR hE (q := 30) rfl shk_0 rfl rfl rfl ?_
      refine z_getR hE (q := 32) rfl shk_30 rfl rfl rfl ?_
      refine z_iload hE rfl rfl ?_
      have hb := h.1
      have h := h.2
      refine z_iald hE rfl shk_32 hb ?_
      exact z_iret hE rfl rfl h
    · have h := h.2 q
      refine z_iconst hE rfl ?_
      exact z_iret hE rfl rfl h
  · have h := h.2 q
    refine z_iconst hE rfl ?_
    exact z_iret hE rfl rfl h
/-! 14: ChildTrains.best(II)I -/
def H_14_82 (d : Nat) (P : Int → Mm → Prop) (a2 : Int) (M : Mm) : Prop := GoG false (EE d) cd_14 (rI P) 82 [vR 0, vU, vI a2] [] M
theorem mN_14 : mN 14 = 3 := by decide +kernel
theorem ee_14 {d : Nat} {Q : Ql} {a1 : Int} {a2 : Int} {M : Mm} (h : GoG false (EE d) cd_14 Q 0 [vR 0, vI a1, vI a2] [] M) : EE (d + 1) 14 [vR 0, vI a1, vI a2] M Q := by
  have e : cdTab 14 = cd_14 := rfl
  unfold EE; rw [mN_14, e]; exact ⟨Nat.le_of_ble_eq_true rfl, h⟩
theorem sg_14 {d : Nat} {P : Int → Mm → Prop} {a1 : Int} {a2 : Int} {M : Mm} (h : EE d 37 [vI a1] M (rI fun r1 M1 => ((r1 = 0 → P (-1) M1) ∧ (¬ r1 = 0 → EE d 32 [vI a2, vI 0, vI 1] M1 (rI fun r2 M2 => ((¬ r2 = 0 → EE d 40 [vR 0, vI a1] M2 (rV fun M3 => ((12 < (M3 30 2) → P (-2) M3) ∧ ((M3 30 2) ≤ 12 → EE d 70 [vR 24, vI a1] M3 (rI fun r4 M4 => ((r4 ≤ 6 → (((M4 33 7) = a1 → H_14_82 d P a2 M4) ∧ (¬ (M4 33 7) = a1 → EE d 72 [vR 33, vR 1, vR 24, vR 30, vI a1] M4 (rV fun M5 => H_14_82 d P a2 M5)))) ∧ (6 < r4 → P (-2) M4))))))) ∧ (r2 = 0 → P (-1) M2))))))) : EE (d + 1) 14 [vR 0, vI a1, vI a2] M (rI P) := by
  have hE := EE_mono d
  refine ee_14 ?_
  refine z_iload hE rfl rfl ?_
  refine z_callsI hE rfl rfl rfl rfl rfl (Nat.le_of_ble_eq_true rfl) (by decide) (EE_mono d _ _ _ _ _ (rI_mono fun r1 M1 h => ?_) h)
  refine z_if_eq hE rfl ⟨fun q => ?_, fun q => ?_⟩
  · have h := h.1 q
    refine z_iconst hE rfl ?_
    exact z_iret hE rfl rfl h
  · have h := h.2 q
    refine z_iload hE rfl rfl ?_
    refine z_iconst hE rfl ?_
    refine z_iconst hE rfl ?_
    refine z_callsI hE rfl rfl rfl rfl rfl (Nat.le_of_ble_eq_true rfl) (by decide) (EE_mono d _ _ _ _ _ (rI_mono fun r2 M2 h => ?_) h)
    refine z_if_ne hE rfl ⟨fun q => ?_, fun q => ?_⟩
    · have h := h.1 q
      refine z_aload hE rfl rfl rfl ?_
      refine z_iload hE rfl rfl ?_
      refine z_callvV hE rfl rfl rfl rfl rfl (Nat.le_of_ble_eq_true rfl) (by decide) ⟨rfl, rfl⟩ (EE_mono d _ _ _ _ _ (rV_mono fun M3 h => ?_) h)
      refine z_aload hE rfl rfl rfl ?_
      refine z_getR hE (q := 30) rfl shk_0 rfl rfl rfl ?_
      refine z_getI hE (sl := 2) rfl shk_30 rfl rfl rfl ?_
      refine z_iconst hE rfl ?_
      refine z_icmp_gt hE rfl ⟨fun q => ?_, fun q => ?_⟩
      · have h := h.1 q
        refine z_iconst hE rfl ?_
        exact z_iret hE rfl rfl h
      · have h := h.2 q
        refine z_aload hE rfl rfl rfl ?_
        refine z_getR hE (q := 24) rfl shk_0 rfl rfl rfl ?_
        refine z_iload hE rfl rfl ?_
        refine z_callvI hE rfl rfl rfl rfl rfl (Nat.le_of_ble_eq_true rfl) (by decide) ⟨rfl, rfl⟩ (EE_mono d _ _ _ _ _ (rI_mono fun r4 M4 h => ?_) h)
        refine z_iconst hE rfl ?_
        refine z_icmp_le hE rfl ⟨fun q => ?_, fun q => ?_⟩
        · have h := h.1 q
          refine z_aload hE rfl rfl rfl ?_
          refine z_getR hE (q := 33) rfl shk_0 rfl rfl rfl ?_
          refine z_getI hE (sl := 7) rfl shk_33 rfl rfl rfl ?_
          refine z_iload hE rfl rfl ?_
          refine z_icmp_eq hE rfl ⟨fun q => ?_, fun q => ?_⟩
          · have h := h.1 q
            exact GoG.weak hE (ls := [vR 0, vU, vI a2]) ⟨Or.inl rfl, Or.inr ⟨rfl, _, rfl⟩, Or.inl rfl, trivial⟩ h
          · have h := h.2 q
            refine z_aload hE rfl rfl rfl ?_
            refine z_getR hE (q := 33) rfl shk_0 rfl rfl rfl ?_
            refine z_aload hE rfl rfl rfl ?_
            refine z_getR hE (q := 1) rfl shk_0 rfl rfl rfl ?_
            refine z_aload hE rfl rfl rfl ?_
            refine z_getR hE (q := 24) rfl shk_0 rfl rfl rfl ?_
            refine z_aload hE rfl rfl rfl ?_
            refine z_getR hE (q := 30) rfl shk_0 rfl rfl rfl ?_
            refine z_iload hE rfl rfl ?_
            refine z_callvV hE rfl rfl rfl rfl rfl (Nat.le_of_ble_eq_true rfl) (by decide) ⟨rfl, rfl⟩ (EE_mono d _ _ _ _ _ (rV_mono fun M5 h => ?_) h)
            exact GoG.weak hE (ls := [vR 0, vU, vI a2]) ⟨Or.inl rfl, Or.inr ⟨rfl, _, rfl⟩, Or.inl rfl, trivial⟩ h
        · have h := h.2 q
          refine z_iconst hE rfl ?_
          exact z_iret hE rfl rfl h
    · have h := h.2 q
      refine z_iconst hE rfl ?_
      exact z_iret hE rfl rfl h
theorem sg_14_82 {d : Nat} {P : Int → Mm → Prop} {a2 : Int} {M : Mm} (h : ((¬ a2 = 0 → P (M 33 9) M) ∧ (a2 = 0 → P (M 33 8) M))) : H_14_82 d P a2 M := by
  have hE := EE_mono d
  unfold H_14_82
  refine z_iload hE rfl rfl ?_
  refine z_if_ne hE rfl ⟨fun q => ?_, fun q => ?_⟩
  · have h := h.1 q
    refine z_aload hE rfl rfl rfl ?_
    refine z_getR hE (q := 33) rfl shk_0 rfl rfl rfl ?_
    refine z_getI hE (sl := 9) rfl shk_33 rfl rfl rfl ?_
    exact z_iret hE rfl rfl h
  · have h := h.2 q
    refine z_aload hE rfl rfl rfl ?_
    refine z_getR hE (q := 33) rfl shk_0 rfl rfl rfl ?_
    refine z_getI hE (sl := 8) rfl shk_33 rfl rfl rfl ?_
    refine z_goto hE rfl ?_
    exact z_iret hE rfl rfl h
/-! 15: ChildTrains.orders()I -/
theorem mN_15 : mN 15 = 3 := by decide +kernel
theorem ee_15 {d : Nat} {Q : Ql} {M : Mm} (h : GoG true (EE d) cd_15 Q 0 [vR 0, vU, vU] [] M) : EE (d + 1) 15 [vR 0] M Q := by
  have e : cdTab 15 = cd_15 := rfl
  unfold EE; rw [mN_15, e]; exact ⟨Nat.le_of_ble_eq_true rfl, h⟩
theorem sg_15 {d : Nat} {P : Int → Mm → Prop} {M : Mm} (h : EE d 82 [vR 39, vR 8, vR 67] M (rI fun r1 M1 => ((r1 = (-9) → EE d 57 [vR 8] (mswap M1) (rI fun r2 M2 => P (M2 58 8) M2)) ∧ (¬ r1 = (-9) → inI ((-10) - r1) ∧ P ((-10) - r1) M1)))) : EE (d + 1) 15 [vR 0] M (rI P) := by
  have hE := EE_mono d
  refine ee_15 ?_
  refine z_aload hE rfl rfl rfl ?_
  refine z_getR hE (q := 39) rfl shk_0 rfl rfl rfl ?_
  refine z_aload hE rfl rfl rfl ?_
  refine z_getR hE (q := 8) rfl shk_0 rfl rfl rfl ?_
  refine z_aload hE rfl rfl rfl ?_
  refine z_getR hE (q := 67) rfl shk_0 rfl rfl rfl ?_
  refine z_callvI hE rfl rfl rfl rfl rfl (Nat.le_of_ble_eq_true rfl) (by decide) ⟨rfl, rfl⟩ (EE_mono d _ _ _ _ _ (rI_mono fun r1 M1 h => ?_) h)
  refine z_istore hE rfl rfl rfl ?_
  refine z_iload hE rfl rfl ?_
  refine z_iconst hE rfl ?_
  refine z_icmp_eq hE rfl ⟨fun q => ?_, fun q => ?_⟩
  · have h := h.1 q
    refine z_swap hE rfl rfl rfl rfl ?_
    refine z_aload hE rfl rfl rfl ?_
    refine z_getR hE (q := 8) rfl shk_0 rfl rfl rfl ?_
    refine z_callvI hE rfl rfl rfl rfl rfl (Nat.le_of_ble_eq_true rfl) (by decide) ⟨rfl, rfl⟩ (EE_mono d _ _ _ _ _ (rI_mono fun r2 M2 h => ?_) h)
    refine z_pop hE rfl rfl ?_
    refine z_aload hE rfl rfl rfl ?_
    refine z_getR hE (q := 58) rfl shk_0 rfl rfl rfl ?_
    refine z_getI hE (sl := 8) rfl shk_58 rfl rfl rfl ?_
    exact z_iret hE rfl rfl h
  · have h := h.2 q
    refine z_iconst hE rfl ?_
    refine z_iload hE rfl rfl ?_
    have hb := h.1
    have h := h.2
    refine z_isub hE rfl hb ?_
    exact z_iret hE rfl rfl h
/-! 16: ChildTrains.delay(III)I -/
theorem mN_16 : mN 16 = 5 := by decide +kernel
theorem ee_16 {d : Nat} {Q : Ql} {a1 : Int} {a2 : Int} {a3 : Int} {M : Mm} (h : GoG false (EE d) cd_16 Q 0 [vR 0, vI a1, vI a2, vI a3, vU] [] M) : EE (d + 1) 16 [vR 0, vI a1, vI a2, vI a3] M Q := by
  have e : cdTab 16 = cd_16 := rfl
  unfold EE; rw [mN_16, e]; exact ⟨Nat.le_of_ble_eq_true rfl, h⟩
theorem sg_16 {d : Nat} {P : Int → Mm → Prop} {a1 : Int} {a2 : Int} {a3 : Int} {M : Mm} (h : EE d 37 [vI a1] M (rI fun r1 M1 => ((r1 = 0 → P (-1) M1) ∧ (¬ r1 = 0 → EE d 32 [vI a2, vI 0, vI 2] M1 (rI fun r2 M2 => ((r2 = 0 → P (-1) M2) ∧ (¬ r2 = 0 → EE d 32 [vI a3, vI 0, vI 20] M2 (rI fun r3 M3 => ((¬ r3 = 0 → (0 ≤ a1 ∧ a1 < 6) ∧ (0 ≤ a2 ∧ a2 < 3) ∧ (0 ≤ a1 ∧ a1 < 6) ∧ (0 ≤ a2 ∧ a2 < 3) ∧ P (M3 (52 + a1.toNat) a2) (mset M3 (52 + a1.toNat) a2 a3)) ∧ (r3 = 0 → P (-1) M3)))))))))) : EE (d + 1) 16 [vR 0, vI a1, vI a2, vI a3] M (rI P) := by
  have hE := EE_mono d
  refine ee_16 ?_
  refine z_iload hE rfl rfl ?_
  refine z_callsI hE rfl rfl rfl rfl rfl (Nat.le_of_ble_eq_true rfl) (by decide) (EE_mono d _ _ _ _ _ (rI_mono fun r1 M1 h => ?_) h)
  refine z_if_eq hE rfl ⟨fun q => ?_, fun q => ?_⟩
  · have h := h.1 q
    refine z_iconst hE rfl ?_
    exact z_iret hE rfl rfl h
  · have h := h.2 q
    refine z_iload hE rfl rfl ?_
    refine z_iconst hE rfl ?_
    refine z_iconst hE rfl ?_
    refine z_callsI hE rfl rfl rfl rfl rfl (Nat.le_of_ble_eq_true rfl) (by decide) (EE_mono d _ _ _ _ _ (rI_mono fun r2 M2 h => ?_) h)
    refine z_if_eq hE rfl ⟨fun q => ?_, fun q => ?_⟩
    · have h := h.1 q
      refine z_iconst hE rfl ?_
      exact z_iret hE rfl rfl h
    · have h := h.2 q
      refine z_iload hE rfl rfl ?_
      refine z_iconst hE rfl ?_
      refine z_iconst hE rfl ?_
      refine z_callsI hE rfl rfl rfl rfl rfl (Nat.le_of_ble_eq_true rfl) (by decide) (EE_mono d _ _ _ _ _ (rI_mono fun r3 M3 h => ?_) h)
      refine z_if_ne hE rfl ⟨fun q => ?_, fun q => ?_⟩
      · have h := h.1 q
        refine z_aload hE rfl rfl rfl ?_
        refine z_getR hE (q := 51) rfl shk_0 rfl rfl rfl ?_
        refine z_iload hE rfl rfl ?_
        have hb := h.1
        have h := h.2
        refine z_aald hE rfl shk_51 rfl hb ?_
        refine z_iload hE rfl rfl ?_
        have hb := h.1
        have h := h.2
        refine z_ialdW hE rfl shk_52 hb ?_
        refine z_istore hE rfl rfl rfl ?_
        refine z_aload hE rfl rfl rfl ?_
        refine z_getR hE (q := 51) rfl shk_0 rfl rfl rfl ?_
        refine z_iload hE rfl rfl ?_
        have hb := h.1
        have h := h.2
        refine z_aald hE rfl shk_51 rfl hb ?_
        refine z_iload hE rfl rfl ?_
        refine z_iload hE rfl rfl ?_
        have hb := h.1
        have h := h.2
        refine z_iastW hE rfl shk_52 hb ?_
        refine z_iload hE rfl rfl ?_
        exact z_iret hE rfl rfl h
      · have h := h.2 q
        refine z_iconst hE rfl ?_
        exact z_iret hE rfl rfl h
/-! 17: ChildTrains.ruling(IIII)I -/
theorem mN_17 : mN 17 = 5 := by decide +kernel
theorem ee_17 {d : Nat} {Q : Ql} {a1 : Int} {a2 : Int} {a3 : Int} {a4 : Int} {M : Mm} (h : GoG false (EE d) cd_17 Q 0 [vR 0, vI a1, vI a2, vI a3, vI a4] [] M) : EE (d + 1) 17 [vR 0, vI a1, vI a2, vI a3, vI a4] M Q := by
  have e : cdTab 17 = cd_17 := rfl
  unfold EE; rw [mN_17, e]; exact ⟨Nat.le_of_ble_eq_true rfl, h⟩
theorem sg_17 {d : Nat} {P : Int → Mm → Prop} {a1 : Int} {a2 : Int} {a3 : Int} {a4 : Int} {M : Mm} (h : EE d 41 [vR 0, vI a1, vI a2, vI a3, vI a4] M (rI fun r1 M1 => ((¬ r1 = 0 → EE d 44 [vR 0, vI a1, vI a2, vI a3, vI a4] M1 (rI fun r2 M2 => P r2 M2)) ∧ (r1 = 0 → P (-5) M1)))) : EE (d + 1) 17 [vR 0, vI a1, vI a2, vI a3, vI a4] M (rI P) := by
  have hE := EE_mono d
  refine ee_17 ?_
  refine z_aload hE rfl rfl rfl ?_
  refine z_iload hE rfl rfl ?_
  refine z_iload hE rfl rfl ?_
  refine z_iload hE rfl rfl ?_
  refine z_iload hE rfl rfl ?_
  refine z_callvI hE rfl rfl rfl rfl rfl (Nat.le_of_ble_eq_true rfl) (by decide) ⟨rfl, rfl⟩ (EE_mono d _ _ _ _ _ (rI_mono fun r1 M1 h => ?_) h)
  refine z_if_ne hE rfl ⟨fun q => ?_, fun q => ?_⟩
  · have h := h.1 q
    refine z_aload hE rfl rfl rfl ?_
    refine z_iload hE rfl rfl ?_
    refine z_iload hE rfl rfl ?_
    refine z_iload hE rfl rfl ?_
    refine z_iload hE rfl rfl ?_
    refine z_callvI hE rfl rfl rfl rfl rfl (Nat.le_of_ble_eq_true rfl) (by decide) ⟨rfl, rfl⟩ (EE_mono d _ _ _ _ _ (rI_mono fun r2 M2 h => ?_) h)
    exact z_iret hE rfl rfl h
  · have h := h.2 q
    refine z_iconst hE rfl ?_
    exact z_iret hE rfl rfl h
/-! 18: ChildTrains.why(IIII)I -/
theorem mN_18 : mN 18 = 5 := by decide +kernel
theorem ee_18 {d : Nat} {Q : Ql} {a1 : Int} {a2 : Int} {a3 : Int} {a4 : Int} {M : Mm} (h : GoG false (EE d) cd_18 Q 0 [vR 0, vI a1, vI a2, vI a3, vI a4] [] M) : EE (d + 1) 18 [vR 0, vI a1, vI a2, vI a3, vI a4] M Q := by
  have e : cdTab 18 = cd_18 := rfl
  unfold EE; rw [mN_18, e]; exact ⟨Nat.le_of_ble_eq_true rfl, h⟩
theorem sg_18 {d : Nat} {P : Int → Mm → Prop} {a1 : Int} {a2 : Int} {a3 : Int} {a4 : Int} {M : Mm} (h : EE d 41 [vR 0, vI a1, vI a2, vI a3, vI a4] M (rI fun r1 M1 => ((¬ r1 = 0 → EE d 45 [vR 0, vI a1, vI a2, vI a3, vI a4] M1 (rI fun r2 M2 => P r2 M2)) ∧ (r1 = 0 → P (-1) M1)))) : EE (d + 1) 18 [vR 0, vI a1, vI a2, vI a3, vI a4] M (rI P) := by
  have hE := EE_mono d
  refine ee_18 ?_
  refine z_aload hE rfl rfl rfl ?_
  refine z_iload hE rfl rfl ?_
  refine z_iload hE rfl rfl ?_
  refine z_iload hE rfl rfl ?_
  refine z_iload hE rfl rfl ?_
  refine z_callvI hE rfl rfl rfl rfl rfl (Nat.le_of_ble_eq_true rfl) (by decide) ⟨rfl, rfl⟩ (EE_mono d _ _ _ _ _ (rI_mono fun r1 M1 h => ?_) h)
  refine z_if_ne hE rfl ⟨fun q => ?_, fun q => ?_⟩
  · have h := h.1 q
    refine z_aload hE rfl rfl rfl ?_
    refine z_iload hE rfl rfl ?_
    refine z_iload hE rfl rfl ?_
    refine z_iload hE rfl rfl ?_
    refine z_iload hE rfl rfl ?_
    refine z_callvI hE rfl rfl rfl rfl rfl (Nat.le_of_ble_eq_true rfl) (by decide) ⟨rfl, rfl⟩ (EE_mono d _ _ _ _ _ (rI_mono fun r2 M2 h => ?_) h)
    exact z_iret hE rfl rfl h
  · have h := h.2 q
    refine z_iconst hE rfl ?_
    exact z_iret hE rfl rfl h
/-! 19: ChildTrains.lodge(III)I -/
def H_19_57 (d : Nat) (P : Int → Mm → Prop) (a1 : Int) (a2 : Int) (a3 : Int) (s0 : Int) (M : Mm) : Prop := GoG false (EE d) cd_19 (rI P) 57 [vR 0, vI a1, vI a2, vI a3, vU] [vI s0] M
theorem mN_19 : mN 19 = 5 := by decide +kernel
theorem ee_19 {d : Nat} {Q : Ql} {a1 : Int} {a2 : Int} {a3 : Int} {M : Mm} (h : GoG false (EE d) cd_19 Q 0 [vR 0, vI a1, vI a2, vI a3, vU] [] M) : EE (d + 1) 19 [vR 0, vI a1, vI a2, vI a3] M Q := by
  have e : cdTab 19 = cd_19 := rfl
  unfold EE; rw [mN_19, e]; exact ⟨Nat.le_of_ble_eq_true rfl, h⟩
theorem sg_19 {d : Nat} {P : Int → Mm → Prop} {a1 : Int} {a2 : Int} {a3 : Int} {M : Mm} (h : EE d 35 [vR 0, vI a1] M (rI fun r1 M1 => ((r1 = 0 → P (-1) M1) ∧ (¬ r1 = 0 → EE d 42 [vR 0, vI a2] M1 (rI fun r2 M2 => ((r2 = 0 → P (-1) M2) ∧ (¬ r2 = 0 → EE d 43 [vI a3] M2 (rI fun r3 M3 => ((r3 = 0 → P (-1) M3) ∧ (¬ r3 = 0 → (0 ≤ a1 ∧ a1 < 48) ∧ ((¬ (M3 45 a1) = a2 → (0 ≤ a1 ∧ a1 < 48) ∧ ((¬ (M3 45 a1) = (-9) → H_19_57 d P a1 a2 a3 1 M3) ∧ ((M3 45 a1) = (-9) → H_19_57 d P a1 a2 a3 0 M3))) ∧ ((M3 45 a1) = a2 → P (-1) M3)))))))))))) : EE (d + 1) 19 [vR 0, vI a1, vI a2, vI a3] M (rI P) := by
  have hE := EE_mono d
  refine ee_19 ?_
  refine z_aload hE rfl rfl rfl ?_
  refine z_iload hE rfl rfl ?_
  refine z_callvI hE rfl rfl rfl rfl rfl (Nat.le_of_ble_eq_true rfl) (by decide) ⟨rfl, rfl⟩ (EE_mono d _ _ _ _ _ (rI_mono fun r1 M1 h => ?_) h)
  refine z_if_eq hE rfl ⟨fun q => ?_, fun q => ?_⟩
  · have h := h.1 q
    refine z_iconst hE rfl ?_
    exact z_iret hE rfl rfl h
  · have h := h.2 q
    refine z_aload hE rfl rfl rfl ?_
    refine z_iload hE rfl rfl ?_
    refine z_callvI hE rfl rfl rfl rfl rfl (Nat.le_of_ble_eq_true rfl) (by decide) ⟨rfl, rfl⟩ (EE_mono d _ _ _ _ _ (rI_mono fun r2 M2 h => ?_) h)
    refine z_if_eq hE rfl ⟨fun q => ?_, fun q => ?_⟩
    · have h := h.1 q
      refine z_iconst hE rfl ?_
      exact z_iret hE rfl rfl h
    · have h := h.2 q
      refine z_iload hE rfl rfl ?_
      refine z_callsI hE rfl rfl rfl rfl rfl (Nat.le_of_ble_eq_true rfl) (by decide) (EE_mono d _ _ _ _ _ (rI_mono fun r3 M3 h => ?_) h)
      refine z_if_eq hE rfl ⟨fun q => ?_, fun q => ?_⟩
      · have h := h.1 q
        refine z_iconst hE rfl ?_
        exact z_iret hE rfl rfl h
      · have h := h.2 q
        refine z_aload hE rfl rfl rfl ?_
        refine z_getR hE (q := 40) rfl shk_0 rfl rfl rfl ?_
        refine z_getR hE (q := 45) rfl shk_40 rfl rfl rfl ?_
        refine z_iload hE rfl rfl ?_
        have hb := h.1
        have h := h.2
        refine z_iald hE rfl shk_45 hb ?_
        refine z_iload hE rfl rfl ?_
        refine z_icmp_ne hE rfl ⟨fun q => ?_, fun q => ?_⟩
        · have h := h.1 q
          refine z_aload hE rfl rfl rfl ?_
          refine z_getR hE (q := 40) rfl shk_0 rfl rfl rfl ?_
          refine z_getR hE (q := 45) rfl shk_40 rfl rfl rfl ?_
          refine z_iload hE rfl rfl ?_
          have hb := h.1
          have h := h.2
          refine z_iald hE rfl shk_45 hb ?_
          refine z_iconst hE rfl ?_
          refine z_icmp_ne hE rfl ⟨fun q => ?_, fun q => ?_⟩
          · have h := h.1 q
            refine z_iconst hE rfl ?_
            exact h
          · have h := h.2 q
            refine z_iconst hE rfl ?_
            refine z_goto hE rfl ?_
            exact h
        · have h := h.2 q
          refine z_iconst hE rfl ?_
          exact z_iret hE rfl rfl h
theorem sg_19_57 {d : Nat} {P : Int → Mm → Prop} {a1 : Int} {a2 : Int} {a3 : Int} {s0 : Int} {M : Mm} (h : ((a3 < (M 40 7) → P (-2) M) ∧ ((M 40 7) ≤ a3 → EE d 102 [vR 40, vI a2, vI 199] M (rI fun r1 M1 => (0 ≤ a2 ∧ a2 < 24) ∧ (((M1 27 a2) ≤ r1 → P (-2) M1) ∧ (r1 < (M1 27 a2) → EE d 50 [vR 1, vI a1] M1 (rI fun r2 M2 => EE d 69 [vR 24, vI a2, vI r2] M2 (rI fun r3 M3 => ((r3 = 0 → P (-2) M3) ∧ (¬ r3 = 0 → EE d 44 [vR 0, vI s0, vI a1, vI a2, vI a3] M3 (rI fun r4 M4 => ((¬ r4 = (-1) → EE d 103 [vR 40, vI a1, vI a2, vI a3] M4 (rI fun r5 M5 => P r5 M5)) ∧ (r4 = (-1) → P (-2) M4))))))))))))) : H_19_57 d P a1 a2 a3 s0 M := by
  have hE := EE_mono d
  unfold H_19_57
  refine z_istore hE rfl rfl rfl ?_
  refine z_iload hE rfl rfl ?_
  refine z_aload hE rfl rfl rfl ?_
  refine z_getR hE (q := 40) rfl shk_0 rfl rfl rfl ?_
  refine z_getI hE (sl := 7) rfl shk_40 rfl rfl rfl ?_
  refine z_icmp_lt hE rfl ⟨fun q => ?_, fun q => ?_⟩
  · have h := h.1 q
    refine z_iconst hE rfl ?_
    exact z_iret hE rfl rfl h
  · have h := h.2 q
    refine z_aload hE rfl rfl rfl ?_
    refine z_getR hE (q := 40) rfl shk_0 rfl rfl rfl ?_
    refine z_iload hE rfl rfl ?_
    refine z_iconst hE rfl ?_
    refine z_callvI hE rfl rfl rfl rfl rfl (Nat.le_of_ble_eq_true rfl) (by decide) ⟨rfl, rfl⟩ (EE_mono d _ _ _ _ _ (rI_mono fun r1 M1 h => ?_) h)
    refine z_aload hE rfl rfl rfl ?_
    refine z_getR hE (q := 24) rfl shk_0 rfl rfl rfl ?_
    refine z_getR hE (q := 27) rfl shk_24 rfl rfl rfl ?_
    refine z_iload hE rfl rfl ?_
    have hb := h.1
    have h := h.2
    refine z_iald hE rfl shk_27 hb ?_
    refine z_icmp_ge hE rfl ⟨fun q => ?_, fun q => ?_⟩
    · have h := h.1 q
      refine z_iconst hE rfl ?_
      exact z_iret hE rfl rfl h
    · have h := h.2 q
      refine z_aload hE rfl rfl rfl ?_
      refine z_getR hE (q := 24) rfl shk_0 rfl rfl rfl ?_
      refine z_iload hE rfl rfl ?_
      refine z_aload hE rfl rfl rfl ?_
      refine z_getR hE (q := 1) rfl shk_0 rfl rfl rfl ?_
      refine z_iload hE rfl rfl ?_
      refine z_callvI hE rfl rfl rfl rfl rfl (Nat.le_of_ble_eq_true rfl) (by decide) ⟨rfl, rfl⟩ (EE_mono d _ _ _ _ _ (rI_mono fun r2 M2 h => ?_) h)
      refine z_callvI hE rfl rfl rfl rfl rfl (Nat.le_of_ble_eq_true rfl) (by decide) ⟨rfl, rfl⟩ (EE_mono d _ _ _ _ _ (rI_mono fun r3 M3 h => ?_) h)
      refine z_if_eq hE rfl ⟨fun q => ?_, fun q => ?_⟩
      · have h := h.1 q
        refine z_iconst hE rfl ?_
        exact z_iret hE rfl rfl h
      · have h := h.2 q
        refine z_aload hE rfl rfl rfl ?_
        refine z_iload hE rfl rfl ?_
        refine z_iload hE rfl rfl ?_
        refine z_iload hE rfl rfl ?_
        refine z_iload hE rfl rfl ?_
        refine z_callvI hE rfl rfl rfl rfl rfl (Nat.le_of_ble_eq_true rfl) (by decide) ⟨rfl, rfl⟩ (EE_mono d _ _ _ _ _ (rI_mono fun r4 M4 h => ?_) h)
        refine z_iconst hE rfl ?_
        refine z_icmp_ne hE rfl ⟨fun q => ?_, fun q => ?_⟩
        · have h := h.1 q
          refine z_aload hE rfl rfl rfl ?_
          refine z_getR hE (q := 40) rfl shk_0 rfl rfl rfl ?_
          refine z_iload hE rfl rfl ?_
          refine z_iload hE rfl rfl ?_
          refine z_iload hE rfl rfl ?_
          refine z_callvI hE rfl rfl rfl rfl rfl (Nat.le_of_ble_eq_true rfl) (by decide) ⟨rfl, rfl⟩ (EE_mono d _ _ _ _ _ (rI_mono fun r5 M5 h => ?_) h)
          exact z_iret hE rfl rfl h
        · have h := h.2 q
          refine z_iconst hE rfl ?_
          exact z_iret hE rfl rfl h
/-! 20: ChildTrains.fetch(II)I -/
theorem mN_20 : mN 20 = 4 := by decide +kernel
theorem ee_20 {d : Nat} {Q : Ql} {a1 : Int} {a2 : Int} {M : Mm} (h : GoG false (EE d) cd_20 Q 0 [vR 0, vI a1, vI a2, vU] [] M) : EE (d + 1) 20 [vR 0, vI a1, vI a2] M Q := by
  have e : cdTab 20 = cd_20 := rfl
  unfold EE; rw [mN_20, e]; exact ⟨Nat.le_of_ble_eq_true rfl, h⟩
theorem sg_20 {d : Nat} {P : Int → Mm → Prop} {a1 : Int} {a2 : Int} {M : Mm} (h : EE d 35 [vR 0, vI a1] M (rI fun r1 M1 => ((r1 = 0 → P (-1) M1) ∧ (¬ r1 = 0 → EE d 43 [vI a2] M1 (rI fun r2 M2 => ((¬ r2 = 0 → (0 ≤ a1 ∧ a1 < 48) ∧ ((a2 < (M2 40 7) → P (-2) M2) ∧ ((M2 40 7) ≤ a2 → (((M2 45 a1) = (-9) → P (-2) M2) ∧ (¬ (M2 45 a1) = (-9) → EE d 44 [vR 0, vI 2, vI a1, vI (M2 45 a1), vI a2] M2 (rI fun r3 M3 => ((¬ r3 = (-1) → EE d 103 [vR 40, vI a1, vI (-9), vI a2] M3 (rI fun r4 M4 => P r4 M4)) ∧ (r3 = (-1) → P (-2) M3)))))))) ∧ (r2 = 0 → P (-1) M2))))))) : EE (d + 1) 20 [vR 0, vI a1, vI a2] M (rI P) := by
  have hE := EE_mono d
  refine ee_20 ?_
  refine z_aload hE rfl rfl rfl ?_
  refine z_iload hE rfl rfl ?_
  refine z_callvI hE rfl rfl rfl rfl rfl (Nat.le_of_ble_eq_true rfl) (by decide) ⟨rfl, rfl⟩ (EE_mono d _ _ _ _ _ (rI_mono fun r1 M1 h => ?_) h)
  refine z_if_eq hE rfl ⟨fun q => ?_, fun q => ?_⟩
  · have h := h.1 q
    refine z_iconst hE rfl ?_
    exact z_iret hE rfl rfl h
  · have h := h.2 q
    refine z_iload hE rfl rfl ?_
    refine z_callsI hE rfl rfl rfl rfl rfl (Nat.le_of_ble_eq_true rfl) (by decide) (EE_mono d _ _ _ _ _ (rI_mono fun r2 M2 h => ?_) h)
    refine z_if_ne hE rfl ⟨fun q => ?_, fun q => ?_⟩
    · have h := h.1 q
      refine z_aload hE rfl rfl rfl ?_
      refine z_getR hE (q := 40) rfl shk_0 rfl rfl rfl ?_
      refine z_getR hE (q := 45) rfl shk_40 rfl rfl rfl ?_
      refine z_iload hE rfl rfl ?_
      have hb := h.1
      have h := h.2
      refine z_iald hE rfl shk_45 hb ?_
      refine z_istore hE rfl rfl rfl ?_
      refine z_iload hE rfl rfl ?_
      refine z_aload hE rfl rfl rfl ?_
      refine z_getR hE (q := 40) rfl shk_0 rfl rfl rfl ?_
      refine z_getI hE (sl := 7) rfl shk_40 rfl rfl rfl ?_
      refine z_icmp_lt hE rfl ⟨fun q => ?_, fun q => ?_⟩
      · have h := h.1 q
        refine z_iconst hE rfl ?_
        exact z_iret hE rfl rfl h
      · have h := h.2 q
        refine z_iload hE rfl rfl ?_
        refine z_iconst hE rfl ?_
        refine z_icmp_eq hE rfl ⟨fun q => ?_, fun q => ?_⟩
        · have h := h.1 q
          refine z_iconst hE rfl ?_
          exact z_iret hE rfl rfl h
        · have h := h.2 q
          refine z_aload hE rfl rfl rfl ?_
          refine z_iconst hE rfl ?_
          refine z_iload hE rfl rfl ?_
          refine z_iload hE rfl rfl ?_
          refine z_iload hE rfl rfl ?_
          refine z_callvI hE rfl rfl rfl rfl rfl (Nat.le_of_ble_eq_true rfl) (by decide) ⟨rfl, rfl⟩ (EE_mono d _ _ _ _ _ (rI_mono fun r3 M3 h => ?_) h)
          refine z_iconst hE rfl ?_
          refine z_icmp_ne hE rfl ⟨fun q => ?_, fun q => ?_⟩
          · have h := h.1 q
            refine z_aload hE rfl rfl rfl ?_
            refine z_getR hE (q := 40) rfl shk_0 rfl rfl rfl ?_
            refine z_iload hE rfl rfl ?_
            refine z_iconst hE rfl ?_
            refine z_iload hE rfl rfl ?_
            refine z_callvI hE rfl rfl rfl rfl rfl (Nat.le_of_ble_eq_true rfl) (by decide) ⟨rfl, rfl⟩ (EE_mono d _ _ _ _ _ (rI_mono fun r4 M4 h => ?_) h)
            exact z_iret hE rfl rfl h
          · have h := h.2 q
            refine z_iconst hE rfl ?_
            exact z_iret hE rfl rfl h
    · have h := h.2 q
      refine z_iconst hE rfl ?_
      exact z_iret hE rfl rfl h
/-! 21: ChildTrains.where(II)I -/
theorem mN_21 : mN 21 = 3 := by decide +kernel
theorem ee_21 {d : Nat} {Q : Ql} {a1 : Int} {a2 : Int} {M : Mm} (h : GoG false (EE d) cd_21 Q 0 [vR 0, vI a1, vI a2] [] M) : EE (d + 1) 21 [vR 0, vI a1, vI a2] M Q := by
  have e : cdTab 21 = cd_21 := rfl
  unfold EE; rw [mN_21, e]; exact ⟨Nat.le_of_ble_eq_true rfl, h⟩
theorem sg_21 {d : Nat} {P : Int → Mm → Prop} {a1 : Int} {a2 : Int} {M : Mm} (h : EE d 35 [vR 0, vI a1] M (rI fun r1 M1 => ((r1 = 0 → P (-1) M1) ∧ (¬ r1 = 0 → EE d 43 [vI a2] M1 (rI fun r2 M2 => ((¬ r2 = 0 → EE d 104 [vR 40, vI a1, vI a2] M2 (rI fun r3 M3 => P r3 M3)) ∧ (r2 = 0 → P (-1) M2))))))) : EE (d + 1) 21 [vR 0, vI a1, vI a2] M (rI P) := by
  have hE := EE_mono d
  refine ee_21 ?_
  refine z_aload hE rfl rfl rfl ?_
  refine z_iload hE rfl rfl ?_
  refine z_callvI hE rfl rfl rfl rfl rfl (Nat.le_of_ble_eq_true rfl) (by decide) ⟨rfl, rfl⟩ (EE_mono d _ _ _ _ _ (rI_mono fun r1 M1 h => ?_) h)
  refine z_if_eq hE rfl ⟨fun q => ?_, fun q => ?_⟩
  · have h := h.1 q
    refine z_iconst hE rfl ?_
    exact z_iret hE rfl rfl h
  · have h := h.2 q
    refine z_iload hE rfl rfl ?_
    refine z_callsI hE rfl rfl rfl rfl rfl (Nat.le_of_ble_eq_true rfl) (by decide) (EE_mono d _ _ _ _ _ (rI_mono fun r2 M2 h => ?_) h)
    refine z_if_ne hE rfl ⟨fun q => ?_, fun q => ?_⟩
    · have h := h.1 q
      refine z_aload hE rfl rfl rfl ?_
      refine z_getR hE (q := 40) rfl shk_0 rfl rfl rfl ?_
      refine z_iload hE rfl rfl ?_
      refine z_iload hE rfl rfl ?_
      refine z_callvI hE rfl rfl rfl rfl rfl (Nat.le_of_ble_eq_true rfl) (by decide) ⟨rfl, rfl⟩ (EE_mono d _ _ _ _ _ (rI_mono fun r3 M3 h => ?_) h)
      exact z_iret hE rfl rfl h
    · have h := h.2 q
      refine z_iconst hE rfl ?_
      exact z_iret hE rfl rfl h
/-! 22: ChildTrains.paid(II)I -/
theorem mN_22 : mN 22 = 4 := by decide +kernel
theorem ee_22 {d : Nat} {Q : Ql} {a1 : Int} {a2 : Int} {M : Mm} (h : GoG false (EE d) cd_22 Q 0 [vR 0, vI a1, vI a2, vU] [] M) : EE (d + 1) 22 [vR 0, vI a1, vI a2] M Q := by
  have e : cdTab 22 = cd_22 := rfl
  unfold EE; rw [mN_22, e]; exact ⟨Nat.le_of_ble_eq_true rfl, h⟩
theorem sg_22 {d : Nat} {P : Int → Mm → Prop} {a1 : Int} {a2 : Int} {M : Mm} (h : EE d 42 [vR 0, vI a1] M (rI fun r1 M1 => ((r1 = 0 → P (-1) M1) ∧ (¬ r1 = 0 → EE d 32 [vI a2, vI 0, vI 27] M1 (rI fun r2 M2 => ((¬ r2 = 0 → inI (7 * a2) ∧ (0 ≤ a1 ∧ a1 < 24) ∧ EE d 102 [vR 40, vI a1, vI (7 * a2)] M2 (rI fun r3 M3 => EE d 105 [vR 40, vR 1, vI a1, vI (7 * a2)] M3 (rI fun r4 M4 => EE d 39 [vI (M2 26 a1), vI r3, vI r4] M4 (rI fun r5 M5 => P r5 M5)))) ∧ (r2 = 0 → P (-1) M2))))))) : EE (d + 1) 22 [vR 0, vI a1, vI a2] M (rI P) := by
  have hE := EE_mono d
  refine ee_22 ?_
  refine z_aload hE rfl rfl rfl ?_
  refine z_iload hE rfl rfl ?_
  refine z_callvI hE rfl rfl rfl rfl rfl (Nat.le_of_ble_eq_true rfl) (by decide) ⟨rfl, rfl⟩ (EE_mono d _ _ _ _ _ (rI_mono fun r1 M1 h => ?_) h)
  refine z_if_eq hE rfl ⟨fun q => ?_, fun q => ?_⟩
  · have h := h.1 q
    refine z_iconst hE rfl ?_
    exact z_iret hE rfl rfl h
  · have h := h.2 q
    refine z_iload hE rfl rfl ?_
    refine z_iconst hE rfl ?_
    refine z_iconst hE rfl ?_
    refine z_callsI hE rfl rfl rfl rfl rfl (Nat.le_of_ble_eq_true rfl) (by decide) (EE_mono d _ _ _ _ _ (rI_mono fun r2 M2 h => ?_) h)
    refine z_if_ne hE rfl ⟨fun q => ?_, fun q => ?_⟩
    · have h := h.1 q
      refine z_iconst hE rfl ?_
      refine z_iload hE rfl rfl ?_
      have hb := h.1
      have h := h.2
      refine z_imul hE rfl hb ?_
      refine z_istore hE rfl rfl rfl ?_
      refine z_aload hE rfl rfl rfl ?_
      refine z_getR hE (q := 24) rfl shk_0 rfl rfl rfl ?_
      refine z_getR hE (q := 26) rfl shk_24 rfl rfl rfl ?_
      refine z_iload hE rfl rfl ?_
      have hb := h.1
      have h := h.2
      refine z_iald hE rfl shk_26 hb ?_
      refine z_aload hE rfl rfl rfl ?_
      refine z_getR hE (q := 40) rfl shk_0 rfl rfl rfl ?_
      refine z_iload hE rfl rfl ?_
      refine z_iload hE rfl rfl ?_
      refine z_callvI hE rfl rfl rfl rfl rfl (Nat.le_of_ble_eq_true rfl) (by decide) ⟨rfl, rfl⟩ (EE_mono d _ _ _ _ _ (rI_mono fun r3 M3 h => ?_) h)
      refine z_aload hE rfl rfl rfl ?_
      refine z_getR hE (q := 40) rfl shk_0 rfl rfl rfl ?_
      refine z_aload hE rfl rfl rfl ?_
      refine z_getR hE (q := 1) rfl shk_0 rfl rfl rfl ?_
      refine z_iload hE rfl rfl ?_
      refine z_iload hE rfl rfl ?_
      refine z_callvI hE rfl rfl rfl rfl rfl (Nat.le_of_ble_eq_true rfl) (by decide) ⟨rfl, rfl⟩ (EE_mono d _ _ _ _ _ (rI_mono fun r4 M4 h => ?_) h)
      refine z_callsI hE rfl rfl rfl rfl rfl (Nat.le_of_ble_eq_true rfl) (by decide) (EE_mono d _ _ _ _ _ (rI_mono fun r5 M5 h => ?_) h)
      exact z_iret hE rfl rfl h
    · have h := h.2 q
      refine z_iconst hE rfl ?_
      exact z_iret hE rfl rfl h
/-! 23: ChildTrains.free(II)I -/
theorem mN_23 : mN 23 = 3 := by decide +kernel
theorem ee_23 {d : Nat} {Q : Ql} {a1 : Int} {a2 : Int} {M : Mm} (h : GoG false (EE d) cd_23 Q 0 [vR 0, vI a1, vI a2] [] M) : EE (d + 1) 23 [vR 0, vI a1, vI a2] M Q := by
  have e : cdTab 23 = cd_23 := rfl
  unfold EE; rw [mN_23, e]; exact ⟨Nat.le_of_ble_eq_true rfl, h⟩
theorem sg_23 {d : Nat} {P : Int → Mm → Prop} {a1 : Int} {a2 : Int} {M : Mm} (h : EE d 42 [vR 0, vI a1] M (rI fun r1 M1 => ((r1 = 0 → P (-1) M1) ∧ (¬ r1 = 0 → EE d 43 [vI a2] M1 (rI fun r2 M2 => ((¬ r2 = 0 → (0 ≤ a1 ∧ a1 < 24) ∧ EE d 102 [vR 40, vI a1, vI a2] M2 (rI fun r3 M3 => inI ((M2 27 a1) - r3) ∧ P ((M2 27 a1) - r3) M3)) ∧ (r2 = 0 → P (-1) M2))))))) : EE (d + 1) 23 [vR 0, vI a1, vI a2] M (rI P) := by
  have hE := EE_mono d
  refine ee_23 ?_
  refine z_aload hE rfl rfl rfl ?_
  refine z_iload hE rfl rfl ?_
  refine z_callvI hE rfl rfl rfl rfl rfl (Nat.le_of_ble_eq_true rfl) (by decide) ⟨rfl, rfl⟩ (EE_mono d _ _ _ _ _ (rI_mono fun r1 M1 h => ?_) h)
  refine z_if_eq hE rfl ⟨fun q => ?_, fun q => ?_⟩
  · have h := h.1 q
    refine z_iconst hE rfl ?_
    exact z_iret hE rfl rfl h
  · have h := h.2 q
    refine z_iload hE rfl rfl ?_
    refine z_callsI hE rfl rfl rfl rfl rfl (Nat.le_of_ble_eq_true rfl) (by decide) (EE_mono d _ _ _ _ _ (rI_mono fun r2 M2 h => ?_) h)
    refine z_if_ne hE rfl ⟨fun q => ?_, fun q => ?_⟩
    · have h := h.1 q
      refine z_aload hE rfl rfl rfl ?_
      refine z_getR hE (q := 24) rfl shk_0 rfl rfl rfl ?_
      refine z_getR hE (q := 27) rfl shk_24 rfl rfl rfl ?_
      refine z_iload hE rfl rfl ?_
      have hb := h.1
      have h := h.2
      refine z_iald hE rfl shk_27 hb ?_
      refine z_aload hE rfl rfl rfl ?_
      refine z_getR hE (q := 40) rfl shk_0 rfl rfl rfl ?_
      refine z_iload hE rfl rfl ?_
      refine z_iload hE rfl rfl ?_
      refine z_callvI hE rfl rfl rfl rfl rfl (Nat.le_of_ble_eq_true rfl) (by decide) ⟨rfl, rfl⟩ (EE_mono d _ _ _ _ _ (rI_mono fun r3 M3 h => ?_) h)
      have hb := h.1
      have h := h.2
      refine z_isub hE rfl hb ?_
      exact z_iret hE rfl rfl h
    · have h := h.2 q
      refine z_iconst hE rfl ?_
      exact z_iret hE rfl rfl h
/-! 24: ChildTrains.trouble(I)I -/
theorem mN_24 : mN 24 = 2 := by decide +kernel
theorem ee_24 {d : Nat} {Q : Ql} {a1 : Int} {M : Mm} (h : GoG false (EE d) cd_24 Q 0 [vR 0, vI a1] [] M) : EE (d + 1) 24 [vR 0, vI a1] M Q := by
  have e : cdTab 24 = cd_24 := rfl
  unfold EE; rw [mN_24, e]; exact ⟨Nat.le_of_ble_eq_true rfl, h⟩
theorem sg_24 {d : Nat} {P : Int → Mm → Prop} {a1 : Int} {M : Mm} (h : EE d 42 [vR 0, vI a1] M (rI fun r1 M1 => ((¬ r1 = 0 → EE d 106 [vR 40, vI a1] M1 (rI fun r2 M2 => ((r2 = 0 → P 0 M2) ∧ (¬ r2 = 0 → P 1 M2)))) ∧ (r1 = 0 → P (-1) M1)))) : EE (d + 1) 24 [vR 0, vI a1] M (rI P) := by
  have hE := EE_mono d
  refine ee_24 ?_
  refine z_aload hE rfl rfl rfl ?_
  refine z_iload hE rfl rfl ?_
  refine z_callvI hE rfl rfl rfl rfl rfl (Nat.le_of_ble_eq_true rfl) (by decide) ⟨rfl, rfl⟩ (EE_mono d _ _ _ _ _ (rI_mono fun r1 M1 h => ?_) h)
  refine z_if_ne hE rfl ⟨fun q => ?_, fun q => ?_⟩
  · have h := h.1 q
    refine z_aload hE rfl rfl rfl ?_
    refine z_getR hE (q := 40) rfl shk_0 rfl rfl rfl ?_
    refine z_iload hE rfl rfl ?_
    refine z_callvI hE rfl rfl rfl rfl rfl (Nat.le_of_ble_eq_true rfl) (by decide) ⟨rfl, rfl⟩ (EE_mono d _ _ _ _ _ (rI_mono fun r2 M2 h => ?_) h)
    refine z_if_eq hE rfl ⟨fun q => ?_, fun q => ?_⟩
    · have h := h.1 q
      refine z_iconst hE rfl ?_
      exact z_iret hE rfl rfl h
    · have h := h.2 q
      refine z_iconst hE rfl ?_
      refine z_goto hE rfl ?_
      exact z_iret hE rfl rfl h
  · have h := h.2 q
    refine z_iconst hE rfl ?_
    exact z_iret hE rfl rfl h
/-! 25: ChildTrains.restless()I -/
def H_25_4 (d : Nat) (P : Int → Mm → Prop) (a1 : Int) (a2 : Int) (M : Mm) : Prop := GoG false (EE d) cd_25 (rI P) 4 [vR 0, vI a1, vI a2] [] M
theorem mN_25 : mN 25 = 3 := by decide +kernel
theorem ee_25 {d : Nat} {Q : Ql} {M : Mm} (h : GoG false (EE d) cd_25 Q 0 [vR 0, vU, vU] [] M) : EE (d + 1) 25 [vR 0] M Q := by
  have e : cdTab 25 = cd_25 := rfl
  unfold EE; rw [mN_25, e]; exact ⟨Nat.le_of_ble_eq_true rfl, h⟩
theorem sg_25 {d : Nat} {P : Int → Mm → Prop} {M : Mm} (h : H_25_4 d P 0 0 M) : EE (d + 1) 25 [vR 0] M (rI P) := by
  have hE := EE_mono d
  refine ee_25 ?_
  refine z_iconst hE rfl ?_
  refine z_istore hE rfl rfl rfl ?_
  refine z_iconst hE rfl ?_
  refine z_istore hE rfl rfl rfl ?_
  exact h
theorem sg_25_4 {d : Nat} {P : Int → Mm → Prop} {a1 : Int} {a2 : Int} {M : Mm} (h : (((M 1 6) ≤ a2 → P a1 M) ∧ (a2 < (M 1 6) → EE d 107 [vR 40, vI a2] M (rI fun r1 M1 => ((r1 < 3 → inI (a2 + 1) ∧ H_25_4 d P a1 (a2 + 1) M1) ∧ (3 ≤ r1 → inI (a1 + 1) ∧ inI (a2 + 1) ∧ H_25_4 d P (a1 + 1) (a2 + 1) M1)))))) : H_25_4 d P a1 a2 M := by
  have hE := EE_mono d
  unfold H_25_4
  refine z_iload hE rfl rfl ?_
  refine z_aload hE rfl rfl rfl ?_
  refine z_getR hE (q := 1) rfl shk_0 rfl rfl rfl ?_
  refine z_getI hE (sl := 6) rfl shk_1 rfl rfl rfl ?_
  refine z_icmp_ge hE rfl ⟨fun q => ?_, fun q => ?_⟩
  · have h := h.1 q
    refine z_iload hE rfl rfl ?_
    exact z_iret hE rfl rfl h
  · have h := h.2 q
    refine z_aload hE rfl rfl rfl ?_
    refine z_getR hE (q := 40) rfl shk_0 rfl rfl rfl ?_
    refine z_iload hE rfl rfl ?_
    refine z_callvI hE rfl rfl rfl rfl rfl (Nat.le_of_ble_eq_true rfl) (by decide) ⟨rfl, rfl⟩ (EE_mono d _ _ _ _ _ (rI_mono fun r1 M1 h => ?_) h)
    refine z_iconst hE rfl ?_
    refine z_icmp_lt hE rfl ⟨fun q => ?_, fun q => ?_⟩
    · have h := h.1 q
      have hb := h.1
      have h := h.2
      refine z_iinc hE rfl rfl rfl hb ?_
      refine z_goto hE rfl ?_
      exact h
    · have h := h.2 q
      have hb := h.1
      have h := h.2
      refine z_iinc hE rfl rfl rfl hb ?_
      have hb := h.1
      have h := h.2
      refine z_iinc hE rfl rfl rfl hb ?_
      refine z_goto hE rfl ?_
      exact h
/-! 26: ChildTrains.city(I)I -/
def H_26_13 (d : Nat) (P : Int → Mm → Prop) (a1 : Int) (a2 : Int) (a3 : Int) (M : Mm) : Prop := GoG false (EE d) cd_26 (rI P) 13 [vR 0, vI a1, vI a2, vI a3] [] M
theorem mN_26 : mN 26 = 4 := by decide +kernel
theorem ee_26 {d : Nat} {Q : Ql} {a1 : Int} {M : Mm} (h : GoG false (EE d) cd_26 Q 0 [vR 0, vI a1, vU, vU] [] M) : EE (d + 1) 26 [vR 0, vI a1] M Q := by
  have e : cdTab 26 = cd_26 := rfl
  unfold EE; rw [mN_26, e]; exact ⟨Nat.le_of_ble_eq_true rfl, h⟩
theorem sg_26 {d : Nat} {P : Int → Mm → Prop} {a1 : Int} {M : Mm} (h : EE d 43 [vI a1] M (rI fun r1 M1 => ((¬ r1 = 0 → H_26_13 d P a1 0 0 M1) ∧ (r1 = 0 → P (-1) M1)))) : EE (d + 1) 26 [vR 0, vI a1] M (rI P) := by
  have hE := EE_mono d
  refine ee_26 ?_
  refine z_iload hE rfl rfl ?_
  refine z_callsI hE rfl rfl rfl rfl rfl (Nat.le_of_ble_eq_true rfl) (by decide) (EE_mono d _ _ _ _ _ (rI_mono fun r1 M1 h => ?_) h)
  refine z_if_ne hE rfl ⟨fun q => ?_, fun q => ?_⟩
  · have h := h.1 q
    refine z_iconst hE rfl ?_
    refine z_istore hE rfl rfl rfl ?_
    refine z_iconst hE rfl ?_
    refine z_istore hE rfl rfl rfl ?_
    exact h
  · have h := h.2 q
    refine z_iconst hE rfl ?_
    exact z_iret hE rfl rfl h
theorem sg_26_13 {d : Nat} {P : Int → Mm → Prop} {a1 : Int} {a2 : Int} {a3 : Int} {M : Mm} (h : (((M 1 6) ≤ a3 → P a2 M) ∧ (a3 < (M 1 6) → EE d 104 [vR 40, vI a3, vI a1] M (rI fun r1 M1 => ((¬ r1 = (-9) → inI (a3 + 1) ∧ H_26_13 d P a1 a2 (a3 + 1) M1) ∧ (r1 = (-9) → inI (a2 + 1) ∧ inI (a3 + 1) ∧ H_26_13 d P a1 (a2 + 1) (a3 + 1) M1)))))) : H_26_13 d P a1 a2 a3 M := by
  have hE := EE_mono d
  unfold H_26_13
  refine z_iload hE rfl rfl ?_
  refine z_aload hE rfl rfl rfl ?_
  refine z_getR hE (q := 1) rfl shk_0 rfl rfl rfl ?_
  refine z_getI hE (sl := 6) rfl shk_1 rfl rfl rfl ?_
  refine z_icmp_ge hE rfl ⟨fun q => ?_, fun q => ?_⟩
  · have h := h.1 q
    refine z_iload hE rfl rfl ?_
    exact z_iret hE rfl rfl h
  · have h := h.2 q
    refine z_aload hE rfl rfl rfl ?_
    refine z_getR hE (q := 40) rfl shk_0 rfl rfl rfl ?_
    refine z_iload hE rfl rfl ?_
    refine z_iload hE rfl rfl ?_
    refine z_callvI hE rfl rfl rfl rfl rfl (Nat.le_of_ble_eq_true rfl) (by decide) ⟨rfl, rfl⟩ (EE_mono d _ _ _ _ _ (rI_mono fun r1 M1 h => ?_) h)
    refine z_iconst hE rfl ?_
    refine z_icmp_ne hE rfl ⟨fun q => ?_, fun q => ?_⟩
    · have h := h.1 q
      have hb := h.1
      have h := h.2
      refine z_iinc hE rfl rfl rfl hb ?_
      refine z_goto hE rfl ?_
      exact h
    · have h := h.2 q
      have hb := h.1
      have h := h.2
      refine z_iinc hE rfl rfl rfl hb ?_
      have hb := h.1
      have h := h.2
      refine z_iinc hE rfl rfl rfl hb ?_
      refine z_goto hE rfl ?_
      exact h
/-! 27: ChildTrains.torn(JII)I -/
def H_27_48 (d : Nat) (P : Int → Mm → Prop) (a1 : Int) (a3 : Int) (a4 : Int) (a5 : Int) (a6 : Int) (a7 : Int) (M : Mm) : Prop := GoG false (EE d) cd_27 (rI P) 48 [vR 0, vL a1, vU, vI a3, vI a4, vI a5, vI a6, vI a7] [] M
theorem mN_27 : mN 27 = 8 := by decide +kernel
theorem ee_27 {d : Nat} {Q : Ql} {a1 : Int} {a3 : Int} {a4 : Int} {M : Mm} (h : GoG false (EE d) cd_27 Q 0 [vR 0, vL a1, vU, vI a3, vI a4, vU, vU, vU] [] M) : EE (d + 1) 27 [vR 0, vL a1, vI a3, vI a4] M Q := by
  have e : cdTab 27 = cd_27 := rfl
  unfold EE; rw [mN_27, e]; exact ⟨Nat.le_of_ble_eq_true rfl, h⟩
theorem sg_27 {d : Nat} {P : Int → Mm → Prop} {a1 : Int} {a3 : Int} {a4 : Int} {M : Mm} (h : EE d 32 [vI a3, vI 1, vI 8] M (rI fun r1 M1 => ((r1 = 0 → P (-1) M1) ∧ (¬ r1 = 0 → EE d 32 [vI a4, vI 0, vI 2] M1 (rI fun r2 M2 => ((r2 = 0 → P (-1) M2) ∧ (¬ r2 = 0 → EE d 46 [vL a1, vI a3] M2 (rI fun r3 M3 => ((¬ r3 = 0 → inI ((M3 1 6) - 1) ∧ H_27_48 d P a1 a3 a4 0 (-9) ((M3 1 6) - 1) M3) ∧ (r3 = 0 → P (-1) M3)))))))))) : EE (d + 1) 27 [vR 0, vL a1, vI a3, vI a4] M (rI P) := by
  have hE := EE_mono d
  refine ee_27 ?_
  refine z_iload hE rfl rfl ?_
  refine z_iconst hE rfl ?_
  refine z_iconst hE rfl ?_
  refine z_callsI hE rfl rfl rfl rfl rfl (Nat.le_of_ble_eq_true rfl) (by decide) (EE_mono d _ _ _ _ _ (rI_mono fun r1 M1 h => ?_) h)
  refine z_if_eq hE rfl ⟨fun q => ?_, fun q => ?_⟩
  · have h := h.1 q
    refine z_iconst hE rfl ?_
    exact z_iret hE rfl rfl h
  · have h := h.2 q
    refine z_iload hE rfl rfl ?_
    refine z_iconst hE rfl ?_
    refine z_iconst hE rfl ?_
    refine z_callsI hE rfl rfl rfl rfl rfl (Nat.le_of_ble_eq_true rfl) (by decide) (EE_mono d _ _ _ _ _ (rI_mono fun r2 M2 h => ?_) h)
    refine z_if_eq hE rfl ⟨fun q => ?_, fun q => ?_⟩
    · have h := h.1 q
      refine z_iconst hE rfl ?_
      exact z_iret hE rfl rfl h
    · have h := h.2 q
      refine z_lload hE rfl rfl ?_
      refine z_iload hE rfl rfl ?_
      refine z_callsI hE rfl rfl rfl rfl rfl (Nat.le_of_ble_eq_true rfl) (by decide) (EE_mono d _ _ _ _ _ (rI_mono fun r3 M3 h => ?_) h)
      refine z_if_ne hE rfl ⟨fun q => ?_, fun q => ?_⟩
      · have h := h.1 q
        refine z_iconst hE rfl ?_
        refine z_istore hE rfl rfl rfl ?_
        refine z_iconst hE rfl ?_
        refine z_istore hE rfl rfl rfl ?_
        refine z_aload hE rfl rfl rfl ?_
        refine z_getR hE (q := 1) rfl shk_0 rfl rfl rfl ?_
        refine z_getI hE (sl := 6) rfl shk_1 rfl rfl rfl ?_
        refine z_iconst hE rfl ?_
        have hb := h.1
        have h := h.2
        refine z_isub hE rfl hb ?_
        refine z_istore hE rfl rfl rfl ?_
        exact h
      · have h := h.2 q
        refine z_iconst hE rfl ?_
        exact z_iret hE rfl rfl h
theorem sg_27_48 {d : Nat} {P : Int → Mm → Prop} {a1 : Int} {a3 : Int} {a4 : Int} {a5 : Int} {a6 : Int} {a7 : Int} {M : Mm} (h : ((a7 < 0 → ((¬ a4 = 0 → ((¬ a4 = 1 → ((2 ≤ a5 → EE d 47 [vR 0, vL a1, vI a3] M (rI fun r1 M1 => P r1 M1)) ∧ (a5 < 2 → P (-9) M))) ∧ (a4 = 1 → P a6 M))) ∧ (a4 = 0 → P a5 M))) ∧ (0 ≤ a7 → EE d 54 [vR 1, vI a7, vL a1, vI a3] M (rI fun r2 M2 => ((r2 = 0 → inI (a7 + -1) ∧ H_27_48 d P a1 a3 a4 a5 a6 (a7 + -1) M2) ∧ (¬ r2 = 0 → inI (a5 + 1) ∧ inI (a7 + -1) ∧ H_27_48 d P a1 a3 a4 (a5 + 1) a7 (a7 + -1) M2)))))) : H_27_48 d P a1 a3 a4 a5 a6 a7 M := by
  have hE := EE_mono d
  unfold H_27_48
  refine z_iload hE rfl rfl ?_
  refine z_if_lt hE rfl ⟨fun q => ?_, fun q => ?_⟩
  · have h := h.1 q
    refine z_iload hE rfl rfl ?_
    refine z_if_ne hE rfl ⟨fun q => ?_, fun q => ?_⟩
    · have h := h.1 q
      refine z_iload hE rfl rfl ?_
      refine z_iconst hE rfl ?_
      refine z_icmp_ne hE rfl ⟨fun q => ?_, fun q => ?_⟩
      · have h := h.1 q
        refine z_iload hE rfl rfl ?_
        refine z_iconst hE rfl ?_
        refine z_icmp_ge hE rfl ⟨fun q => ?_, fun q => ?_⟩
        · have h := h.1 q
          refine z_aload hE rfl rfl rfl ?_
          refine z_lload hE rfl rfl ?_
          refine z_iload hE rfl rfl ?_
          refine z_callvI hE rfl rfl rfl rfl rfl (Nat.le_of_ble_eq_true rfl) (by decide) ⟨rfl, rfl⟩ (EE_mono d _ _ _ _ _ (rI_mono fun r1 M1 h => ?_) h)
          exact z_iret hE rfl rfl h
        · have h := h.2 q
          refine z_iconst hE rfl ?_
          refine z_goto hE rfl ?_
          exact z_iret hE rfl rfl h
      · have h := h.2 q
        refine z_iload hE rfl rfl ?_
        refine z_goto hE rfl ?_
        exact z_iret hE rfl rfl h
    · have h := h.2 q
      refine z_iload hE rfl rfl ?_
      refine z_goto hE rfl ?_
      exact z_iret hE rfl rfl h
  · have h := h.2 q
    refine z_aload hE rfl rfl rfl ?_
    refine z_getR hE (q := 1) rfl shk_0 rfl rfl rfl ?_
    refine z_iload hE rfl rfl ?_
    refine z_lload hE rfl rfl ?_
    refine z_iload hE rfl rfl ?_
    refine z_callvI hE rfl rfl rfl rfl rfl (Nat.le_of_ble_eq_true rfl) (by decide) ⟨rfl, rfl⟩ (EE_mono d _ _ _ _ _ (rI_mono fun r2 M2 h => ?_) h)
    refine z_if_eq hE rfl ⟨fun q => ?_, fun q => ?_⟩
    · have h := h.1 q
      have hb := h.1
      have h := h.2
      refine z_iinc hE rfl rfl rfl hb ?_
      refine z_goto hE rfl ?_
      exact h
    · have h := h.2 q
      have hb := h.1
      have h := h.2
      refine z_iinc hE rfl rfl rfl hb ?_
      refine z_iload hE rfl rfl ?_
      refine z_istore hE rfl rfl rfl ?_
      have hb := h.1
      have h := h.2
      refine z_iinc hE rfl rfl rfl hb ?_
      refine z_goto hE rfl ?_
      exact h
/-! 28: ChildTrains.paths(I)I -/
theorem mN_28 : mN 28 = 2 := by decide +kernel
theorem ee_28 {d : Nat} {Q : Ql} {a1 : Int} {M : Mm} (h : GoG false (EE d) cd_28 Q 0 [vR 0, vI a1] [] M) : EE (d + 1) 28 [vR 0, vI a1] M Q := by
  have e : cdTab 28 = cd_28 := rfl
  unfold EE; rw [mN_28, e]; exact ⟨Nat.le_of_ble_eq_true rfl, h⟩
theorem sg_28 {d : Nat} {P : Int → Mm → Prop} {a1 : Int} {M : Mm} (h : EE d 32 [vI a1, vI 0, vI 1] M (rI fun r1 M1 => ((¬ r1 = 0 → EE d 90 [vR 47, vR 1, vR 10, vR 24] M1 (rV fun M2 => ((¬ a1 = 0 → P (M2 47 3) M2) ∧ (a1 = 0 → P (M2 47 2) M2)))) ∧ (r1 = 0 → P (-1) M1)))) : EE (d + 1) 28 [vR 0, vI a1] M (rI P) := by
  have hE := EE_mono d
  refine ee_28 ?_
  refine z_iload hE rfl rfl ?_
  refine z_iconst hE rfl ?_
  refine z_iconst hE rfl ?_
  refine z_callsI hE rfl rfl rfl rfl rfl (Nat.le_of_ble_eq_true rfl) (by decide) (EE_mono d _ _ _ _ _ (rI_mono fun r1 M1 h => ?_) h)
  refine z_if_ne hE rfl ⟨fun q => ?_, fun q => ?_⟩
  · have h := h.1 q
    refine z_aload hE rfl rfl rfl ?_
    refine z_getR hE (q := 47) rfl shk_0 rfl rfl rfl ?_
    refine z_aload hE rfl rfl rfl ?_
    refine z_getR hE (q := 1) rfl shk_0 rfl rfl rfl ?_
    refine z_aload hE rfl rfl rfl ?_
    refine z_getR hE (q := 10) rfl shk_0 rfl rfl rfl ?_
    refine z_aload hE rfl rfl rfl ?_
    refine z_getR hE (q := 24) rfl shk_0 rfl rfl rfl ?_
    refine z_callvV hE rfl rfl rfl rfl rfl (Nat.le_of_ble_eq_true rfl) (by decide) ⟨rfl, rfl⟩ (EE_mono d _ _ _ _ _ (rV_mono fun M2 h => ?_) h)
    refine z_iload hE rfl rfl ?_
    refine z_if_ne hE rfl ⟨fun q => ?_, fun q => ?_⟩
    · have h := h.1 q
      refine z_aload hE rfl rfl rfl ?_
      refine z_getR hE (q := 47) rfl shk_0 rfl rfl rfl ?_
      refine z_getI hE (sl := 3) rfl shk_47 rfl rfl rfl ?_
      exact z_iret hE rfl rfl h
    · have h := h.2 q
      refine z_aload hE rfl rfl rfl ?_
      refine z_getR hE (q := 47) rfl shk_0 rfl rfl rfl ?_
      refine z_getI hE (sl := 2) rfl shk_47 rfl rfl rfl ?_
      refine z_goto hE rfl ?_
      exact z_iret hE rfl rfl h
  · have h := h.2 q
    refine z_iconst hE rfl ?_
    exact z_iret hE rfl rfl h
/-! 29: ChildTrains.lessons(IIIIII)I -/
theorem mN_29 : mN 29 = 8 := by decide +kernel
theorem ee_29 {d : Nat} {Q : Ql} {a1 : Int} {a2 : Int} {a3 : Int} {a4 : Int} {a5 : Int} {a6 : Int} {M : Mm} (h : GoG false (EE d) cd_29 Q 0 [vR 0, vI a1, vI a2, vI a3, vI a4, vI a5, vI a6, vU] [] M) : EE (d + 1) 29 [vR 0, vI a1, vI a2, vI a3, vI a4, vI a5, vI a6] M Q := by
  have e : cdTab 29 = cd_29 := rfl
  unfold EE; rw [mN_29, e]; exact ⟨Nat.le_of_ble_eq_true rfl, h⟩
theorem sg_29 {d : Nat} {P : Int → Mm → Prop} {a1 : Int} {a2 : Int} {a3 : Int} {a4 : Int} {a5 : Int} {a6 : Int} {M : Mm} (h : EE d 32 [vI a1, vI 1, vI 9] M (rI fun r1 M1 => ((r1 = 0 → P (-1) M1) ∧ (¬ r1 = 0 → EE d 32 [vI a2, vI 1, vI 9] M1 (rI fun r2 M2 => ((r2 = 0 → P (-1) M2) ∧ (¬ r2 = 0 → EE d 32 [vI a3, vI 1, vI 9] M2 (rI fun r3 M3 => ((r3 = 0 → P (-1) M3) ∧ (¬ r3 = 0 → EE d 32 [vI a4, vI 1, vI 10] M3 (rI fun r4 M4 => ((r4 = 0 → P (-1) M4) ∧ (¬ r4 = 0 → EE d 32 [vI a5, vI 1, vI 30] M4 (rI fun r5 M5 => ((r5 = 0 → P (-1) M5) ∧ (¬ r5 = 0 → inI (a1 - 1) ∧ EE d 32 [vI a6, vI 0, vI (a1 - 1)] M5 (rI fun r6 M6 => ((¬ r6 = 0 → inI ((if (if a3 < a2 then a3 else a2) < a1 then (if a3 < a2 then a3 else a2) else a1) * a4) ∧ inI (((if (if a3 < a2 then a3 else a2) < a1 then (if a3 < a2 then a3 else a2) else a1) * a4) * a5) ∧ (0 ≤ (((if (if a3 < a2 then a3 else a2) < a1 then (if a3 < a2 then a3 else a2) else a1) * a4) * a5) ∧ (((if (if a3 < a2 then a3 else a2) < a1 then (if a3 < a2 then a3 else a2) else a1) * a4) * a5) ≤ 2147483647 ∧ (0 : Int) < a1) ∧ (0 ≤ (((if (if a3 < a2 then a3 else a2) < a1 then (if a3 < a2 then a3 else a2) else a1) * a4) * a5) ∧ (((if (if a3 < a2 then a3 else a2) < a1 then (if a3 < a2 then a3 else a2) else a1) * a4) * a5) ≤ 2147483647 ∧ (0 : Int) < a1) ∧ ((((((if (if a3 < a2 then a3 else a2) < a1 then (if a3 < a2 then a3 else a2) else a1) * a4) * a5) % a1) ≤ a6 → inI (((((if (if a3 < a2 then a3 else a2) < a1 then (if a3 < a2 then a3 else a2) else a1) * a4) * a5) / a1) + 0) ∧ P (((((if (if a3 < a2 then a3 else a2) < a1 then (if a3 < a2 then a3 else a2) else a1) * a4) * a5) / a1) + 0) M6) ∧ (a6 < ((((if (if a3 < a2 then a3 else a2) < a1 then (if a3 < a2 then a3 else a2) else a1) * a4) * a5) % a1) → inI (((((if (if a3 < a2 then a3 else a2) < a1 then (if a3 < a2 then a3 else a2) else a1) * a4) * a5) / a1) + 1) ∧ P (((((if (if a3 < a2 then a3 else a2) < a1 then (if a3 < a2 then a3 else a2) else a1) * a4) * a5) / a1) + 1) M6))) ∧ (r6 = 0 → P (-1) M6))))))))))))))))))) : EE (d + 1) 29 [vR 0, vI a1, vI a2, vI a3, vI a4, vI a5, vI a6] M (rI P) := by
  have hE := EE_mono d
  refine ee_29 ?_
  refine z_iload hE rfl rfl ?_
  refine z_iconst hE rfl ?_
  refine z_iconst hE rfl ?_
  refine z_callsI hE rfl rfl rfl rfl rfl (Nat.le_of_ble_eq_true rfl) (by decide) (EE_mono d _ _ _ _ _ (rI_mono fun r1 M1 h => ?_) h)
  refine z_if_eq hE rfl ⟨fun q => ?_, fun q => ?_⟩
  · have h := h.1 q
    refine z_iconst hE rfl ?_
    exact z_iret hE rfl rfl h
  · have h := h.2 q
    refine z_iload hE rfl rfl ?_
    refine z_iconst hE rfl ?_
    refine z_iconst hE rfl ?_
    refine z_callsI hE rfl rfl rfl rfl rfl (Nat.le_of_ble_eq_true rfl) (by decide) (EE_mono d _ _ _ _ _ (rI_mono fun r2 M2 h => ?_) h)
    refine z_if_eq hE rfl ⟨fun q => ?_, fun q => ?_⟩
    · have h := h.1 q
      refine z_iconst hE rfl ?_
      exact z_iret hE rfl rfl h
    · have h := h.2 q
      refine z_iload hE rfl rfl ?_
      refine z_iconst hE rfl ?_
      refine z_iconst hE rfl ?_
      refine z_callsI hE rfl rfl rfl rfl rfl (Nat.le_of_ble_eq_true rfl) (by decide) (EE_mono d _ _ _ _ _ (rI_mono fun r3 M3 h => ?_) h)
      refine z_if_eq hE rfl ⟨fun q => ?_, fun q => ?_⟩
      · have h := h.1 q
        refine z_iconst hE rfl ?_
        exact z_iret hE rfl rfl h
      · have h := h.2 q
        refine z_iload hE rfl rfl ?_
        refine z_iconst hE rfl ?_
        refine z_iconst hE rfl ?_
        refine z_callsI hE rfl rfl rfl rfl rfl (Nat.le_of_ble_eq_true rfl) (by decide) (EE_mono d _ _ _ _ _ (rI_mono fun r4 M4 h => ?_) h)
        refine z_if_eq hE rfl ⟨fun q => ?_, fun q => ?_⟩
        · have h := h.1 q
          refine z_iconst hE rfl ?_
          exact z_iret hE rfl rfl h
        · have h := h.2 q
          refine z_iload hE rfl rfl ?_
          refine z_iconst hE rfl ?_
          refine z_iconst hE rfl ?_
          refine z_callsI hE rfl rfl rfl rfl rfl (Nat.le_of_ble_eq_true rfl) (by decide) (EE_mono d _ _ _ _ _ (rI_mono fun r5 M5 h => ?_) h)
          refine z_if_eq hE rfl ⟨fun q => ?_, fun q => ?_⟩
          · have h := h.1 q
            refine z_iconst hE rfl ?_
            exact z_iret hE rfl rfl h
          · have h := h.2 q
            refine z_iload hE rfl rfl ?_
            refine z_iconst hE rfl ?_
            refine z_iload hE rfl rfl ?_
            refine z_iconst hE rfl ?_
            have hb := h.1
            have h := h.2
            refine z_isub hE rfl hb ?_
            refine z_callsI hE rfl rfl rfl rfl rfl (Nat.le_of_ble_eq_true rfl) (by decide) (EE_mono d _ _ _ _ _ (rI_mono fun r6 M6 h => ?_) h)
            refine z_if_ne hE rfl ⟨fun q => ?_, fun q => ?_⟩
            · have h := h.1 q
              refine z_iload hE rfl rfl ?_
              refine z_iload hE rfl rfl ?_
              refine z_iload hE rfl rfl ?_
              refine z_min hE rfl (Nat.le_of_ble_eq_true rfl) ?_
              refine z_min hE rfl (Nat.le_of_ble_eq_true rfl) ?_
              refine z_iload hE rfl rfl ?_
              have hb := h.1
              have h := h.2
              refine z_imul hE rfl hb ?_
              refine z_iload hE rfl rfl ?_
              have hb := h.1
              have h := h.2
              refine z_imul hE rfl hb ?_
              refine z_istore hE rfl rfl rfl ?_
              refine z_iload hE rfl rfl ?_
              refine z_iload hE rfl rfl ?_
              have hb := h.1
              have h := h.2
              refine z_idiv hE rfl hb ?_
              refine z_iload hE rfl rfl ?_
              refine z_iload hE rfl rfl ?_
              refine z_iload hE rfl rfl ?_
              have hb := h.1
              have h := h.2
              refine z_irem hE rfl hb ?_
              refine z_icmp_ge hE rfl ⟨fun q => ?_, fun q => ?_⟩
              · have h := h.1 q
                refine z_iconst hE rfl ?_
                have hb := h.1
                have h := h.2
                refine z_iadd hE rfl hb ?_
                exact z_iret hE rfl rfl h
              · have h := h.2 q
                refine z_iconst hE rfl ?_
                refine z_goto hE rfl ?_
                have hb := h.1
                have h := h.2
                refine z_iadd hE rfl hb ?_
                exact z_iret hE rfl rfl h
            · have h := h.2 q
              refine z_iconst hE rfl ?_
              exact z_iret hE rfl rfl h
/-! 30: ChildTrains.count(I)I -/
theorem mN_30 : mN 30 = 2 := by decide +kernel
theorem ee_30 {d : Nat} {Q : Ql} {a1 : Int} {M : Mm} (h : GoG false (EE d) cd_30 Q 0 [vR 0, vI a1] [] M) : EE (d + 1) 30 [vR 0, vI a1] M Q := by
  have e : cdTab 30 = cd_30 := rfl
  unfold EE; rw [mN_30, e]; exact ⟨Nat.le_of_ble_eq_true rfl, h⟩
theorem sg_30 {d : Nat} {P : Int → Mm → Prop} {a1 : Int} {M : Mm} (h : ((a1 = 0 → P (M 1 6) M) ∧ (a1 = 1 → P (M 24 5) M) ∧ (a1 = 2 → P (M 58 8) M) ∧ (a1 = 3 → P (M 40 6) M) ∧ (a1 = 4 → P (M 8 1) M) ∧ ((a1 < 0 ∨ 5 ≤ a1) → P (-1) M))) : EE (d + 1) 30 [vR 0, vI a1] M (rI P) := by
  have hE := EE_mono d
  refine ee_30 ?_
  refine z_iload hE rfl rfl ?_
  refine z_tsw hE rfl ⟨fun q => ?_, fun q => ?_, fun q => ?_, fun q => ?_, fun q => ?_, trivial⟩ (fun q => ?_)
  · have h := h.1 (by have q2 := q; simp only [xI] at q2; omega)
    refine z_aload hE rfl rfl rfl ?_
    refine z_getR hE (q := 1) rfl shk_0 rfl rfl rfl ?_
    refine z_getI hE (sl := 6) rfl shk_1 rfl rfl rfl ?_
    exact z_iret hE rfl rfl h
  · have h := h.2.1 (by have q2 := q; simp only [xI] at q2; omega)
    refine z_aload hE rfl rfl rfl ?_
    refine z_getR hE (q := 24) rfl shk_0 rfl rfl rfl ?_
    refine z_getI hE (sl := 5) rfl shk_24 rfl rfl rfl ?_
    exact z_iret hE rfl rfl h
  · have h := h.2.2.1 (by have q2 := q; simp only [xI] at q2; omega)
    refine z_aload hE rfl rfl rfl ?_
    refine z_getR hE (q := 58) rfl shk_0 rfl rfl rfl ?_
    refine z_getI hE (sl := 8) rfl shk_58 rfl rfl rfl ?_
    exact z_iret hE rfl rfl h
  · have h := h.2.2.2.1 (by have q2 := q; simp only [xI] at q2; omega)
    refine z_aload hE rfl rfl rfl ?_
    refine z_getR hE (q := 40) rfl shk_0 rfl rfl rfl ?_
    refine z_getI hE (sl := 6) rfl shk_40 rfl rfl rfl ?_
    exact z_iret hE rfl rfl h
  · have h := h.2.2.2.2.1 (by have q2 := q; simp only [xI] at q2; omega)
    refine z_aload hE rfl rfl rfl ?_
    refine z_getR hE (q := 8) rfl shk_0 rfl rfl rfl ?_
    refine z_getI hE (sl := 1) rfl shk_8 rfl rfl rfl ?_
    exact z_iret hE rfl rfl h
  · have h := h.2.2.2.2.2 (by have q2 := q; simp only [xI, x3, List.length_cons, List.length_nil] at q2; omega)
    refine z_iconst hE rfl ?_
    exact z_iret hE rfl rfl h
/-! 31: ChildTrains.trace()J -/
theorem mN_31 : mN 31 = 1 := by decide +kernel
theorem ee_31 {d : Nat} {Q : Ql} {M : Mm} (h : GoG false (EE d) cd_31 Q 0 [vR 0] [] M) : EE (d + 1) 31 [vR 0] M Q := by
  have e : cdTab 31 = cd_31 := rfl
  unfold EE; rw [mN_31, e]; exact ⟨Nat.le_of_ble_eq_true rfl, h⟩
theorem sg_31 {d : Nat} {P : Int → Mm → Prop} {M : Mm} (h : P (M 0 13) M) : EE (d + 1) 31 [vR 0] M (rL P) := by
  have hE := EE_mono d
  refine ee_31 ?_
  refine z_aload hE rfl rfl rfl ?_
  refine z_getJ hE (sl := 13) rfl shk_0 rfl rfl rfl ?_
  exact z_lret hE rfl h
/-! 32: ChildTrains.within(III)Z -/
theorem mN_32 : mN 32 = 3 := by decide +kernel
theorem ee_32 {d : Nat} {Q : Ql} {a0 : Int} {a1 : Int} {a2 : Int} {M : Mm} (h : GoG false (EE d) cd_32 Q 0 [vI a0, vI a1, vI a2] [] M) : EE (d + 1) 32 [vI a0, vI a1, vI a2] M Q := by
  have e : cdTab 32 = cd_32 := rfl
  unfold EE; rw [mN_32, e]; exact ⟨Nat.le_of_ble_eq_true rfl, h⟩
theorem sg_32 {d : Nat} {P : Int → Mm → Prop} {a0 : Int} {a1 : Int} {a2 : Int} {M : Mm} (h : ((a0 < a1 → P 0 M) ∧ (a1 ≤ a0 → ((a2 < a0 → P 0 M) ∧ (a0 ≤ a2 → P 1 M))))) : EE (d + 1) 32 [vI a0, vI a1, vI a2] M (rI P) := by
  have hE := EE_mono d
  refine ee_32 ?_
  refine z_iload hE rfl rfl ?_
  refine z_iload hE rfl rfl ?_
  refine z_icmp_lt hE rfl ⟨fun q => ?_, fun q => ?_⟩
  · have h := h.1 q
    refine z_iconst hE rfl ?_
    exact z_zret hE rfl rfl (Or.inl rfl) h
  · have h := h.2 q
    refine z_iload hE rfl rfl ?_
    refine z_iload hE rfl rfl ?_
    refine z_icmp_gt hE rfl ⟨fun q => ?_, fun q => ?_⟩
    · have h := h.1 q
      refine z_iconst hE rfl ?_
      exact z_zret hE rfl rfl (Or.inl rfl) h
    · have h := h.2 q
      refine z_iconst hE rfl ?_
      refine z_goto hE rfl ?_
      exact z_zret hE rfl rfl (Or.inr rfl) h
/-! 33: ChildTrains.isParty(I)Z -/
theorem mN_33 : mN 33 = 1 := by decide +kernel
theorem ee_33 {d : Nat} {Q : Ql} {a0 : Int} {M : Mm} (h : GoG false (EE d) cd_33 Q 0 [vI a0] [] M) : EE (d + 1) 33 [vI a0] M Q := by
  have e : cdTab 33 = cd_33 := rfl
  unfold EE; rw [mN_33, e]; exact ⟨Nat.le_of_ble_eq_true rfl, h⟩
theorem sg_33 {d : Nat} {P : Int → Mm → Prop} {a0 : Int} {M : Mm} (h : EE d 32 [vI a0, vI 0, vI 7] M (rI fun r1 M1 => (r1 = 0 ∨ r1 = 1) ∧ P r1 M1)) : EE (d + 1) 33 [vI a0] M (rI P) := by
  have hE := EE_mono d
  refine ee_33 ?_
  refine z_iload hE rfl rfl ?_
  refine z_iconst hE rfl ?_
  refine z_iconst hE rfl ?_
  refine z_callsI hE rfl rfl rfl rfl rfl (Nat.le_of_ble_eq_true rfl) (by decide) (EE_mono d _ _ _ _ _ (rI_mono fun r1 M1 h => ?_) h)
  have hb := h.1
  have h := h.2
  exact z_zret hE rfl rfl hb h
/-! 34: ChildTrains.boardAnew()V -/
theorem mN_34 : mN 34 = 1 := by decide +kernel
theorem ee_34 {d : Nat} {Q : Ql} {M : Mm} (h : GoG false (EE d) cd_34 Q 0 [vR 0] [] M) : EE (d + 1) 34 [vR 0] M Q := by
  have e : cdTab 34 = cd_34 := rfl
  unfold EE; rw [mN_34, e]; exact ⟨Nat.le_of_ble_eq_true rfl, h⟩
theorem sg_34 {d : Nat} {P : Mm → Prop} {M : Mm} (h : P (mset (mset M 10 9 1) 33 7 (-9))) : EE (d + 1) 34 [vR 0] M (rV P) := by
  have hE := EE_mono d
  refine ee_34 ?_
  refine z_aload hE rfl rfl rfl ?_
  refine z_getR hE (q := 10) rfl shk_0 rfl rfl rfl ?_
  refine z_iconst hE rfl ?_
  refine z_putZ hE (sl := 9) rfl shk_10 rfl rfl rfl (Or.inr rfl) ?_
  refine z_aload hE rfl rfl rfl ?_
  refine z_getR hE (q := 33) rfl shk_0 rfl rfl rfl ?_
  refine z_iconst hE rfl ?_
  refine z_putI hE (sl := 7) rfl shk_33 rfl rfl rfl ?_
  exact z_vret hE rfl h
/-! 35: ChildTrains.isChild(I)Z -/
theorem mN_35 : mN 35 = 2 := by decide +kernel
theorem ee_35 {d : Nat} {Q : Ql} {a1 : Int} {M : Mm} (h : GoG false (EE d) cd_35 Q 0 [vR 0, vI a1] [] M) : EE (d + 1) 35 [vR 0, vI a1] M Q := by
  have e : cdTab 35 = cd_35 := rfl
  unfold EE; rw [mN_35, e]; exact ⟨Nat.le_of_ble_eq_true rfl, h⟩
theorem sg_35 {d : Nat} {P : Int → Mm → Prop} {a1 : Int} {M : Mm} (h : inI ((M 1 6) - 1) ∧ EE d 32 [vI a1, vI 0, vI ((M 1 6) - 1)] M (rI fun r1 M1 => (r1 = 0 ∨ r1 = 1) ∧ P r1 M1)) : EE (d + 1) 35 [vR 0, vI a1] M (rI P) := by
  have hE := EE_mono d
  refine ee_35 ?_
  refine z_iload hE rfl rfl ?_
  refine z_iconst hE rfl ?_
  refine z_aload hE rfl rfl rfl ?_
  refine z_getR hE (q := 1) rfl shk_0 rfl rfl rfl ?_
  refine z_getI hE (sl := 6) rfl shk_1 rfl rfl rfl ?_
  refine z_iconst hE rfl ?_
  have hb := h.1
  have h := h.2
  refine z_isub hE rfl hb ?_
  refine z_callsI hE rfl rfl rfl rfl rfl (Nat.le_of_ble_eq_true rfl) (by decide) (EE_mono d _ _ _ _ _ (rI_mono fun r1 M1 h => ?_) h)
  have hb := h.1
  have h := h.2
  exact z_zret hE rfl rfl hb h
/-! 36: ChildTrains.isTrain(I)Z -/
theorem mN_36 : mN 36 = 1 := by decide +kernel
theorem ee_36 {d : Nat} {Q : Ql} {a0 : Int} {M : Mm} (h : GoG false (EE d) cd_36 Q 0 [vI a0] [] M) : EE (d + 1) 36 [vI a0] M Q := by
  have e : cdTab 36 = cd_36 := rfl
  unfold EE; rw [mN_36, e]; exact ⟨Nat.le_of_ble_eq_true rfl, h⟩
theorem sg_36 {d : Nat} {P : Int → Mm → Prop} {a0 : Int} {M : Mm} (h : EE d 32 [vI a0, vI 0, vI 5] M (rI fun r1 M1 => (r1 = 0 ∨ r1 = 1) ∧ P r1 M1)) : EE (d + 1) 36 [vI a0] M (rI P) := by
  have hE := EE_mono d
  refine ee_36 ?_
  refine z_iload hE rfl rfl ?_
  refine z_iconst hE rfl ?_
  refine z_iconst hE rfl ?_
  refine z_callsI hE rfl rfl rfl rfl rfl (Nat.le_of_ble_eq_true rfl) (by decide) (EE_mono d _ _ _ _ _ (rI_mono fun r1 M1 h => ?_) h)
  have hb := h.1
  have h := h.2
  exact z_zret hE rfl rfl hb h
/-! 37: ChildTrains.isVillage(I)Z -/
theorem mN_37 : mN 37 = 1 := by decide +kernel
theorem ee_37 {d : Nat} {Q : Ql} {a0 : Int} {M : Mm} (h : GoG false (EE d) cd_37 Q 0 [vI a0] [] M) : EE (d + 1) 37 [vI a0] M Q := by
  have e : cdTab 37 = cd_37 := rfl
  unfold EE; rw [mN_37, e]; exact ⟨Nat.le_of_ble_eq_true rfl, h⟩
theorem sg_37 {d : Nat} {P : Int → Mm → Prop} {a0 : Int} {M : Mm} (h : EE d 32 [vI a0, vI 0, vI 5] M (rI fun r1 M1 => (r1 = 0 ∨ r1 = 1) ∧ P r1 M1)) : EE (d + 1) 37 [vI a0] M (rI P) := by
  have hE := EE_mono d
  refine ee_37 ?_
  refine z_iload hE rfl rfl ?_
  refine z_iconst hE rfl ?_
  refine z_iconst hE rfl ?_
  refine z_callsI hE rfl rfl rfl rfl rfl (Nat.le_of_ble_eq_true rfl) (by decide) (EE_mono d _ _ _ _ _ (rI_mono fun r1 M1 h => ?_) h)
  have hb := h.1
  have h := h.2
  exact z_zret hE rfl rfl hb h
/-! 38: ChildTrains.bodiesAsked(I)J -/
theorem mN_38 : mN 38 = 1 := by decide +kernel
theorem ee_38 {d : Nat} {Q : Ql} {a0 : Int} {M : Mm} (h : GoG false (EE d) cd_38 Q 0 [vI a0] [] M) : EE (d + 1) 38 [vI a0] M Q := by
  have e : cdTab 38 = cd_38 := rfl
  unfold EE; rw [mN_38, e]; exact ⟨Nat.le_of_ble_eq_true rfl, h⟩
theorem sg_38 {d : Nat} {P : Int → Mm → Prop} {a0 : Int} {M : Mm} (h : ((¬ a0 = 0 → ((¬ a0 = 1 → ((¬ a0 = 2 → P 1111 M) ∧ (a0 = 2 → P 111 M))) ∧ (a0 = 1 → P 11 M))) ∧ (a0 = 0 → P 1 M))) : EE (d + 1) 38 [vI a0] M (rL P) := by
  have hE := EE_mono d
  refine ee_38 ?_
  refine z_iload hE rfl rfl ?_
  refine z_if_ne hE rfl ⟨fun q => ?_, fun q => ?_⟩
  · have h := h.1 q
    refine z_iload hE rfl rfl ?_
    refine z_iconst hE rfl ?_
    refine z_icmp_ne hE rfl ⟨fun q => ?_, fun q => ?_⟩
    · have h := h.1 q
      refine z_iload hE rfl rfl ?_
      refine z_iconst hE rfl ?_
      refine z_icmp_ne hE rfl ⟨fun q => ?_, fun q => ?_⟩
      · have h := h.1 q
        refine z_lconst hE rfl ?_
        exact z_lret hE rfl h
      · have h := h.2 q
        refine z_lconst hE rfl ?_
        refine z_goto hE rfl ?_
        exact z_lret hE rfl h
    · have h := h.2 q
      refine z_lconst hE rfl ?_
      refine z_goto hE rfl ?_
      exact z_lret hE rfl h
  · have h := h.2 q
    refine z_lconst hE rfl ?_
    refine z_goto hE rfl ?_
    exact z_lret hE rfl h
/-! 39: ChildTrains.payFor(III)I -/
def H_39_26 (d : Nat) (P : Int → Mm → Prop) (a0 : Int) (a2 : Int) (a3 : Int) (M : Mm) : Prop := GoG false (EE d) cd_39 (rI P) 26 [vI a0, vU, vI a2, vI a3] [] M
def H_39_41 (d : Nat) (P : Int → Mm → Prop) (a0 : Int) (a2 : Int) (a3 : Int) (M : Mm) : Prop := GoG false (EE d) cd_39 (rI P) 41 [vI a0, vU, vI a2, vI a3] [] M
theorem mN_39 : mN 39 = 4 := by decide +kernel
theorem ee_39 {d : Nat} {Q : Ql} {a0 : Int} {a1 : Int} {a2 : Int} {M : Mm} (h : GoG false (EE d) cd_39 Q 0 [vI a0, vI a1, vI a2, vU] [] M) : EE (d + 1) 39 [vI a0, vI a1, vI a2] M Q := by
  have e : cdTab 39 = cd_39 := rfl
  unfold EE; rw [mN_39, e]; exact ⟨Nat.le_of_ble_eq_true rfl, h⟩
theorem sg_39 {d : Nat} {P : Int → Mm → Prop} {a0 : Int} {a1 : Int} {a2 : Int} {M : Mm} (h : inI (60 * a1) ∧ ((a0 < 1 → H_39_26 d P a0 a2 (60 * a1) M) ∧ (1 ≤ a0 → ((a1 ≤ 0 → H_39_26 d P a0 a2 (60 * a1) M) ∧ (0 < a1 → inI (a1 - 1) ∧ inI (12 * (a1 - 1)) ∧ inI (24 + (12 * (a1 - 1))) ∧ inI ((60 * a1) + (24 + (12 * (a1 - 1)))) ∧ H_39_26 d P a0 a2 ((60 * a1) + (24 + (12 * (a1 - 1)))) M))))) : EE (d + 1) 39 [vI a0, vI a1, vI a2] M (rI P) := by
  have hE := EE_mono d
  refine ee_39 ?_
  refine z_iconst hE rfl ?_
  refine z_iload hE rfl rfl ?_
  have hb := h.1
  have h := h.2
  refine z_imul hE rfl hb ?_
  refine z_istore hE rfl rfl rfl ?_
  refine z_iload hE rfl rfl ?_
  refine z_iconst hE rfl ?_
  refine z_icmp_lt hE rfl ⟨fun q => ?_, fun q => ?_⟩
  · have h := h.1 q
    exact GoG.weak hE (ls := [vI a0, vU, vI a2, vI (60 * a1)]) ⟨Or.inl rfl, Or.inr ⟨rfl, _, rfl⟩, Or.inl rfl, Or.inl rfl, trivial⟩ h
  · have h := h.2 q
    refine z_iload hE rfl rfl ?_
    refine z_if_le hE rfl ⟨fun q => ?_, fun q => ?_⟩
    · have h := h.1 q
      exact GoG.weak hE (ls := [vI a0, vU, vI a2, vI (60 * a1)]) ⟨Or.inl rfl, Or.inr ⟨rfl, _, rfl⟩, Or.inl rfl, Or.inl rfl, trivial⟩ h
    · have h := h.2 q
      refine z_iload hE rfl rfl ?_
      refine z_iconst hE rfl ?_
      refine z_iconst hE rfl ?_
      refine z_iload hE rfl rfl ?_
      refine z_iconst hE rfl ?_
      have hb := h.1
      have h := h.2
      refine z_isub hE rfl hb ?_
      have hb := h.1
      have h := h.2
      refine z_imul hE rfl hb ?_
      have hb := h.1
      have h := h.2
      refine z_iadd hE rfl hb ?_
      have hb := h.1
      have h := h.2
      refine z_iadd hE rfl hb ?_
      refine z_istore hE rfl rfl rfl ?_
      exact GoG.weak hE (ls := [vI a0, vU, vI a2, vI ((60 * a1) + (24 + (12 * (a1 - 1))))]) ⟨Or.inl rfl, Or.inr ⟨rfl, _, rfl⟩, Or.inl rfl, Or.inl rfl, trivial⟩ h
theorem sg_39_26 {d : Nat} {P : Int → Mm → Prop} {a0 : Int} {a2 : Int} {a3 : Int} {M : Mm} (h : ((a0 < 2 → H_39_41 d P a0 a2 a3 M) ∧ (2 ≤ a0 → inI (a3 + 9) ∧ (0 ≤ (a3 + 9) ∧ (a3 + 9) ≤ 2147483647 ∧ (0 : Int) < 10) ∧ inI (a3 + ((a3 + 9) / 10)) ∧ H_39_41 d P a0 a2 (a3 + ((a3 + 9) / 10)) M))) : H_39_26 d P a0 a2 a3 M := by
  have hE := EE_mono d
  unfold H_39_26
  refine z_iload hE rfl rfl ?_
  refine z_iconst hE rfl ?_
  refine z_icmp_lt hE rfl ⟨fun q => ?_, fun q => ?_⟩
  · have h := h.1 q
    exact h
  · have h := h.2 q
    refine z_iload hE rfl rfl ?_
    refine z_iload hE rfl rfl ?_
    refine z_iconst hE rfl ?_
    have hb := h.1
    have h := h.2
    refine z_iadd hE rfl hb ?_
    refine z_iconst hE rfl ?_
    have hb := h.1
    have h := h.2
    refine z_idiv hE rfl hb ?_
    have hb := h.1
    have h := h.2
    refine z_iadd hE rfl hb ?_
    refine z_istore hE rfl rfl rfl ?_
    exact h
theorem sg_39_41 {d : Nat} {P : Int → Mm → Prop} {a0 : Int} {a2 : Int} {a3 : Int} {M : Mm} (h : ((a0 < 3 → P a3 M) ∧ (3 ≤ a0 → inI (30 * a2) ∧ inI (a3 + (30 * a2)) ∧ P (a3 + (30 * a2)) M))) : H_39_41 d P a0 a2 a3 M := by
  have hE := EE_mono d
  unfold H_39_41
  refine z_iload hE rfl rfl ?_
  refine z_iconst hE rfl ?_
  refine z_icmp_lt hE rfl ⟨fun q => ?_, fun q => ?_⟩
  · have h := h.1 q
    refine z_iload hE rfl rfl ?_
    exact z_iret hE rfl rfl h
  · have h := h.2 q
    refine z_iload hE rfl rfl ?_
    refine z_iconst hE rfl ?_
    refine z_iload hE rfl rfl ?_
    have hb := h.1
    have h := h.2
    refine z_imul hE rfl hb ?_
    have hb := h.1
    have h := h.2
    refine z_iadd hE rfl hb ?_
    refine z_istore hE rfl rfl rfl ?_
    refine z_iload hE rfl rfl ?_
    exact z_iret hE rfl rfl h
/-! 40: ChildTrains.assemble(I)V -/
theorem mN_40 : mN 40 = 2 := by decide +kernel
theorem ee_40 {d : Nat} {Q : Ql} {a1 : Int} {M : Mm} (h : GoG false (EE d) cd_40 Q 0 [vR 0, vI a1] [] M) : EE (d + 1) 40 [vR 0, vI a1] M Q := by
  have e : cdTab 40 = cd_40 := rfl
  unfold EE; rw [mN_40, e]; exact ⟨Nat.le_of_ble_eq_true rfl, h⟩
theorem sg_40 {d : Nat} {P : Mm → Prop} {a1 : Int} {M : Mm} (h : EE d 94 [vR 10, vR 1] M (rV fun M1 => EE d 61 [vR 30, vR 1, vR 10, vI a1] M1 (rV fun M2 => P M2))) : EE (d + 1) 40 [vR 0, vI a1] M (rV P) := by
  have hE := EE_mono d
  refine ee_40 ?_
  refine z_aload hE rfl rfl rfl ?_
  refine z_getR hE (q := 10) rfl shk_0 rfl rfl rfl ?_
  refine z_aload hE rfl rfl rfl ?_
  refine z_getR hE (q := 1) rfl shk_0 rfl rfl rfl ?_
  refine z_callvV hE rfl rfl rfl rfl rfl (Nat.le_of_ble_eq_true rfl) (by decide) ⟨rfl, rfl⟩ (EE_mono d _ _ _ _ _ (rV_mono fun M1 h => ?_) h)
  refine z_aload hE rfl rfl rfl ?_
  refine z_getR hE (q := 30) rfl shk_0 rfl rfl rfl ?_
  refine z_aload hE rfl rfl rfl ?_
  refine z_getR hE (q := 1) rfl shk_0 rfl rfl rfl ?_
  refine z_aload hE rfl rfl rfl ?_
  refine z_getR hE (q := 10) rfl shk_0 rfl rfl rfl ?_
  refine z_iload hE rfl rfl ?_
  refine z_callvV hE rfl rfl rfl rfl rfl (Nat.le_of_ble_eq_true rfl) (by decide) ⟨rfl, rfl⟩ (EE_mono d _ _ _ _ _ (rV_mono fun M2 h => ?_) h)
  exact z_vret hE rfl h
/-! 41: ChildTrains.canRule(IIII)Z -/
theorem mN_41 : mN 41 = 5 := by decide +kernel
theorem ee_41 {d : Nat} {Q : Ql} {a1 : Int} {a2 : Int} {a3 : Int} {a4 : Int} {M : Mm} (h : GoG false (EE d) cd_41 Q 0 [vR 0, vI a1, vI a2, vI a3, vI a4] [] M) : EE (d + 1) 41 [vR 0, vI a1, vI a2, vI a3, vI a4] M Q := by
  have e : cdTab 41 = cd_41 := rfl
  unfold EE; rw [mN_41, e]; exact ⟨Nat.le_of_ble_eq_true rfl, h⟩
theorem sg_41 {d : Nat} {P : Int → Mm → Prop} {a1 : Int} {a2 : Int} {a3 : Int} {a4 : Int} {M : Mm} (h : EE d 32 [vI a1, vI 0, vI 2] M (rI fun r1 M1 => ((r1 = 0 → P 0 M1) ∧ (¬ r1 = 0 → EE d 35 [vR 0, vI a2] M1 (rI fun r2 M2 => ((r2 = 0 → P 0 M2) ∧ (¬ r2 = 0 → EE d 42 [vR 0, vI a3] M2 (rI fun r3 M3 => ((r3 = 0 → P 0 M3) ∧ (¬ r3 = 0 → EE d 43 [vI a4] M3 (rI fun r4 M4 => ((r4 = 0 → P 0 M4) ∧ (¬ r4 = 0 → P 1 M4))))))))))))) : EE (d + 1) 41 [vR 0, vI a1, vI a2, vI a3, vI a4] M (rI P) := by
  have hE := EE_mono d
  refine ee_41 ?_
  refine z_iload hE rfl rfl ?_
  refine z_iconst hE rfl ?_
  refine z_iconst hE rfl ?_
  refine z_callsI hE rfl rfl rfl rfl rfl (Nat.le_of_ble_eq_true rfl) (by decide) (EE_mono d _ _ _ _ _ (rI_mono fun r1 M1 h => ?_) h)
  refine z_if_eq hE rfl ⟨fun q => ?_, fun q => ?_⟩
  · have h := h.1 q
    refine z_iconst hE rfl ?_
    exact z_zret hE rfl rfl (Or.inl rfl) h
  · have h := h.2 q
    refine z_aload hE rfl rfl rfl ?_
    refine z_iload hE rfl rfl ?_
    refine z_callvI hE rfl rfl rfl rfl rfl (Nat.le_of_ble_eq_true rfl) (by decide) ⟨rfl, rfl⟩ (EE_mono d _ _ _ _ _ (rI_mono fun r2 M2 h => ?_) h)
    refine z_if_eq hE rfl ⟨fun q => ?_, fun q => ?_⟩
    · have h := h.1 q
      refine z_iconst hE rfl ?_
      exact z_zret hE rfl rfl (Or.inl rfl) h
    · have h := h.2 q
      refine z_aload hE rfl rfl rfl ?_
      refine z_iload hE rfl rfl ?_
      refine z_callvI hE rfl rfl rfl rfl rfl (Nat.le_of_ble_eq_true rfl) (by decide) ⟨rfl, rfl⟩ (EE_mono d _ _ _ _ _ (rI_mono fun r3 M3 h => ?_) h)
      refine z_if_eq hE rfl ⟨fun q => ?_, fun q => ?_⟩
      · have h := h.1 q
        refine z_iconst hE rfl ?_
        exact z_zret hE rfl rfl (Or.inl rfl) h
      · have h := h.2 q
        refine z_iload hE rfl rfl ?_
        refine z_callsI hE rfl rfl rfl rfl rfl (Nat.le_of_ble_eq_true rfl) (by decide) (EE_mono d _ _ _ _ _ (rI_mono fun r4 M4 h => ?_) h)
        refine z_if_eq hE rfl ⟨fun q => ?_, fun q => ?_⟩
        · have h := h.1 q
          refine z_iconst hE rfl ?_
          exact z_zret hE rfl rfl (Or.inl rfl) h
        · have h := h.2 q
          refine z_iconst hE rfl ?_
          refine z_goto hE rfl ?_
          exact z_zret hE rfl rfl (Or.inr rfl) h
/-! 42: ChildTrains.isHouse(I)Z -/
theorem mN_42 : mN 42 = 2 := by decide +kernel
theorem ee_42 {d : Nat} {Q : Ql} {a1 : Int} {M : Mm} (h : GoG false (EE d) cd_42 Q 0 [vR 0, vI a1] [] M) : EE (d + 1) 42 [vR 0, vI a1] M Q := by
  have e : cdTab 42 = cd_42 := rfl
  unfold EE; rw [mN_42, e]; exact ⟨Nat.le_of_ble_eq_true rfl, h⟩
theorem sg_42 {d : Nat} {P : Int → Mm → Prop} {a1 : Int} {M : Mm} (h : inI ((M 24 5) - 1) ∧ EE d 32 [vI a1, vI 0, vI ((M 24 5) - 1)] M (rI fun r1 M1 => (r1 = 0 ∨ r1 = 1) ∧ P r1 M1)) : EE (d + 1) 42 [vR 0, vI a1] M (rI P) := by
  have hE := EE_mono d
  refine ee_42 ?_
  refine z_iload hE rfl rfl ?_
  refine z_iconst hE rfl ?_
  refine z_aload hE rfl rfl rfl ?_
  refine z_getR hE (q := 24) rfl shk_0 rfl rfl rfl ?_
  refine z_getI hE (sl := 5) rfl shk_24 rfl rfl rfl ?_
  refine z_iconst hE rfl ?_
  have hb := h.1
  have h := h.2
  refine z_isub hE rfl hb ?_
  refine z_callsI hE rfl rfl rfl rfl rfl (Nat.le_of_ble_eq_true rfl) (by decide) (EE_mono d _ _ _ _ _ (rI_mono fun r1 M1 h => ?_) h)
  have hb := h.1
  have h := h.2
  exact z_zret hE rfl rfl hb h
/-! 43: ChildTrains.isDay(I)Z -/
theorem mN_43 : mN 43 = 1 := by decide +kernel
theorem ee_43 {d : Nat} {Q : Ql} {a0 : Int} {M : Mm} (h : GoG false (EE d) cd_43 Q 0 [vI a0] [] M) : EE (d + 1) 43 [vI a0] M Q := by
  have e : cdTab 43 = cd_43 := rfl
  unfold EE; rw [mN_43, e]; exact ⟨Nat.le_of_ble_eq_true rfl, h⟩
theorem sg_43 {d : Nat} {P : Int → Mm → Prop} {a0 : Int} {M : Mm} (h : EE d 32 [vI a0, vI 0, vI 199] M (rI fun r1 M1 => (r1 = 0 ∨ r1 = 1) ∧ P r1 M1)) : EE (d + 1) 43 [vI a0] M (rI P) := by
  have hE := EE_mono d
  refine ee_43 ?_
  refine z_iload hE rfl rfl ?_
  refine z_iconst hE rfl ?_
  refine z_iconst hE rfl ?_
  refine z_callsI hE rfl rfl rfl rfl rfl (Nat.le_of_ble_eq_true rfl) (by decide) (EE_mono d _ _ _ _ _ (rI_mono fun r1 M1 h => ?_) h)
  have hb := h.1
  have h := h.2
  exact z_zret hE rfl rfl hb h
/-! 44: ChildTrains.rulingOf(IIII)I -/
theorem mN_44 : mN 44 = 6 := by decide +kernel
theorem ee_44 {d : Nat} {Q : Ql} {a1 : Int} {a2 : Int} {a3 : Int} {a4 : Int} {M : Mm} (h : GoG false (EE d) cd_44 Q 0 [vR 0, vI a1, vI a2, vI a3, vI a4, vU] [] M) : EE (d + 1) 44 [vR 0, vI a1, vI a2, vI a3, vI a4] M Q := by
  have e : cdTab 44 = cd_44 := rfl
  unfold EE; rw [mN_44, e]; exact ⟨Nat.le_of_ble_eq_true rfl, h⟩
theorem sg_44 {d : Nat} {P : Int → Mm → Prop} {a1 : Int} {a2 : Int} {a3 : Int} {a4 : Int} {M : Mm} (h : EE d 45 [vR 0, vI a1, vI a2, vI a3, vI a4] M (rI fun r1 M1 => ((¬ r1 = (-9) → (0 ≤ r1 ∧ r1 < 30) ∧ P (M1 61 r1) M1) ∧ (r1 = (-9) → P 0 M1)))) : EE (d + 1) 44 [vR 0, vI a1, vI a2, vI a3, vI a4] M (rI P) := by
  have hE := EE_mono d
  refine ee_44 ?_
  refine z_aload hE rfl rfl rfl ?_
  refine z_iload hE rfl rfl ?_
  refine z_iload hE rfl rfl ?_
  refine z_iload hE rfl rfl ?_
  refine z_iload hE rfl rfl ?_
  refine z_callvI hE rfl rfl rfl rfl rfl (Nat.le_of_ble_eq_true rfl) (by decide) ⟨rfl, rfl⟩ (EE_mono d _ _ _ _ _ (rI_mono fun r1 M1 h => ?_) h)
  refine z_istore hE rfl rfl rfl ?_
  refine z_iload hE rfl rfl ?_
  refine z_iconst hE rfl ?_
  refine z_icmp_ne hE rfl ⟨fun q => ?_, fun q => ?_⟩
  · have h := h.1 q
    refine z_aload hE rfl rfl rfl ?_
    refine z_getR hE (q := 58) rfl shk_0 rfl rfl rfl ?_
    refine z_getR hE (q := 61) rfl shk_58 rfl rfl rfl ?_
    refine z_iload hE rfl rfl ?_
    have hb := h.1
    have h := h.2
    refine z_iald hE rfl shk_61 hb ?_
    exact z_iret hE rfl rfl h
  · have h := h.2 q
    refine z_iconst hE rfl ?_
    refine z_goto hE rfl ?_
    exact z_iret hE rfl rfl h
/-! 45: ChildTrains.rulerOf(IIII)I -/
theorem mN_45 : mN 45 = 5 := by decide +kernel
theorem ee_45 {d : Nat} {Q : Ql} {a1 : Int} {a2 : Int} {a3 : Int} {a4 : Int} {M : Mm} (h : GoG false (EE d) cd_45 Q 0 [vR 0, vI a1, vI a2, vI a3, vI a4] [] M) : EE (d + 1) 45 [vR 0, vI a1, vI a2, vI a3, vI a4] M Q := by
  have e : cdTab 45 = cd_45 := rfl
  unfold EE; rw [mN_45, e]; exact ⟨Nat.le_of_ble_eq_true rfl, h⟩
theorem sg_45 {d : Nat} {P : Int → Mm → Prop} {a1 : Int} {a2 : Int} {a3 : Int} {a4 : Int} {M : Mm} (h : (0 ≤ a3 ∧ a3 < 24) ∧ (0 ≤ (M 25 a3) ∧ (M 25 a3) < 6) ∧ EE d 79 [vR 58, vI a1, vR 1, vI a2, vR 24, vI a3, vI a4, vW 52 (M 25 a3)] M (rI fun r1 M1 => P r1 M1)) : EE (d + 1) 45 [vR 0, vI a1, vI a2, vI a3, vI a4] M (rI P) := by
  have hE := EE_mono d
  refine ee_45 ?_
  refine z_aload hE rfl rfl rfl ?_
  refine z_getR hE (q := 58) rfl shk_0 rfl rfl rfl ?_
  refine z_iload hE rfl rfl ?_
  refine z_aload hE rfl rfl rfl ?_
  refine z_getR hE (q := 1) rfl shk_0 rfl rfl rfl ?_
  refine z_iload hE rfl rfl ?_
  refine z_aload hE rfl rfl rfl ?_
  refine z_getR hE (q := 24) rfl shk_0 rfl rfl rfl ?_
  refine z_iload hE rfl rfl ?_
  refine z_iload hE rfl rfl ?_
  refine z_aload hE rfl rfl rfl ?_
  refine z_getR hE (q := 51) rfl shk_0 rfl rfl rfl ?_
  refine z_aload hE rfl rfl rfl ?_
  refine z_getR hE (q := 24) rfl shk_0 rfl rfl rfl ?_
  refine z_getR hE (q := 25) rfl shk_24 rfl rfl rfl ?_
  refine z_iload hE rfl rfl ?_
  have hb := h.1
  have h := h.2
  refine z_iald hE rfl shk_25 hb ?_
  have hb := h.1
  have h := h.2
  refine z_aald hE rfl shk_51 rfl hb ?_
  refine z_callvI hE rfl rfl rfl rfl rfl (Nat.le_of_ble_eq_true rfl) (by decide) ⟨rfl, rfl⟩ (EE_mono d _ _ _ _ _ (rI_mono fun r1 M1 h => ?_) h)
  exact z_iret hE rfl rfl h
/-! 46: ChildTrains.isTorn(JI)Z -/
def H_46_2 (d : Nat) (P : Int → Mm → Prop) (a0 : Int) (a2 : Int) (a3 : Int) (M : Mm) : Prop := GoG false (EE d) cd_46 (rI P) 2 [vL a0, vU, vI a2, vI a3, vU] [] M
theorem mN_46 : mN 46 = 5 := by decide +kernel
theorem ee_46 {d : Nat} {Q : Ql} {a0 : Int} {a2 : Int} {M : Mm} (h : GoG false (EE d) cd_46 Q 0 [vL a0, vU, vI a2, vU, vU] [] M) : EE (d + 1) 46 [vL a0, vI a2] M Q := by
  have e : cdTab 46 = cd_46 := rfl
  unfold EE; rw [mN_46, e]; exact ⟨Nat.le_of_ble_eq_true rfl, h⟩
theorem sg_46 {d : Nat} {P : Int → Mm → Prop} {a0 : Int} {a2 : Int} {M : Mm} (h : H_46_2 d P a0 a2 0 M) : EE (d + 1) 46 [vL a0, vI a2] M (rI P) := by
  have hE := EE_mono d
  refine ee_46 ?_
  refine z_iconst hE rfl ?_
  refine z_istore hE rfl rfl rfl ?_
  exact h
theorem sg_46_2 {d : Nat} {P : Int → Mm → Prop} {a0 : Int} {a2 : Int} {a3 : Int} {M : Mm} (h : ((a2 ≤ a3 → P 1 M) ∧ (a3 < a2 → inI (8 * a3) ∧ (((zand (wr (jushr a0 (8 * a3))) 255) = 63 → inI (a3 + 1) ∧ H_46_2 d P a0 a2 (a3 + 1) M) ∧ (¬ (zand (wr (jushr a0 (8 * a3))) 255) = 63 → EE d 32 [vI (zand (wr (jushr a0 (8 * a3))) 255), vI 97, vI 122] M (rI fun r1 M1 => ((¬ r1 = 0 → inI (a3 + 1) ∧ H_46_2 d P a0 a2 (a3 + 1) M1) ∧ (r1 = 0 → P 0 M1)))))))) : H_46_2 d P a0 a2 a3 M := by
  have hE := EE_mono d
  unfold H_46_2
  refine z_iload hE rfl rfl ?_
  refine z_iload hE rfl rfl ?_
  refine z_icmp_ge hE rfl ⟨fun q => ?_, fun q => ?_⟩
  · have h := h.1 q
    refine z_iconst hE rfl ?_
    exact z_zret hE rfl rfl (Or.inr rfl) h
  · have h := h.2 q
    refine z_lload hE rfl rfl ?_
    refine z_iconst hE rfl ?_
    refine z_iload hE rfl rfl ?_
    have hb := h.1
    have h := h.2
    refine z_imul hE rfl hb ?_
    refine z_lushr hE rfl ?_
    refine z_l2i hE rfl ?_
    refine z_iconst hE rfl ?_
    refine z_iand hE rfl ?_
    refine z_istore hE rfl rfl rfl ?_
    refine z_iload hE rfl rfl ?_
    refine z_iconst hE rfl ?_
    refine z_icmp_eq hE rfl ⟨fun q => ?_, fun q => ?_⟩
    · have h := h.1 q
      have hb := h.1
      have h := h.2
      refine z_iinc hE rfl rfl rfl hb ?_
      refine z_goto hE rfl ?_
      exact GoG.weak hE (ls := [vL a0, vU, vI a2, vI (a3 + 1), vU]) ⟨Or.inl rfl, Or.inl rfl, Or.inl rfl, Or.inl rfl, Or.inr ⟨rfl, _, rfl⟩, trivial⟩ h
    · have h := h.2 q
      refine z_iload hE rfl rfl ?_
      refine z_iconst hE rfl ?_
      refine z_iconst hE rfl ?_
      refine z_callsI hE rfl rfl rfl rfl rfl (Nat.le_of_ble_eq_true rfl) (by decide) (EE_mono d _ _ _ _ _ (rI_mono fun r1 M1 h => ?_) h)
      refine z_if_ne hE rfl ⟨fun q => ?_, fun q => ?_⟩
      · have h := h.1 q
        have hb := h.1
        have h := h.2
        refine z_iinc hE rfl rfl rfl hb ?_
        refine z_goto hE rfl ?_
        exact GoG.weak hE (ls := [vL a0, vU, vI a2, vI (a3 + 1), vU]) ⟨Or.inl rfl, Or.inl rfl, Or.inl rfl, Or.inl rfl, Or.inr ⟨rfl, _, rfl⟩, trivial⟩ h
      · have h := h.2 q
        refine z_iconst hE rfl ?_
        exact z_zret hE rfl rfl (Or.inl rfl) h
/-! 47: ChildTrains.nextQuestion(JI)I -/
def H_47_11 (d : Nat) (P : Int → Mm → Prop) (a1 : Int) (a3 : Int) (a4 : Int) (a5 : Int) (a6 : Int) (M : Mm) : Prop := GoG false (EE d) cd_47 (rI P) 11 [vR 0, vL a1, vU, vI a3, vI a4, vI a5, vI a6, vU] [] M
theorem mN_47 : mN 47 = 8 := by decide +kernel
theorem ee_47 {d : Nat} {Q : Ql} {a1 : Int} {a3 : Int} {M : Mm} (h : GoG false (EE d) cd_47 Q 0 [vR 0, vL a1, vU, vI a3, vU, vU, vU, vU] [] M) : EE (d + 1) 47 [vR 0, vL a1, vI a3] M Q := by
  have e : cdTab 47 = cd_47 := rfl
  unfold EE; rw [mN_47, e]; exact ⟨Nat.le_of_ble_eq_true rfl, h⟩
theorem sg_47 {d : Nat} {P : Int → Mm → Prop} {a1 : Int} {a3 : Int} {M : Mm} (h : H_47_11 d P a1 a3 (-9) 49 0 M) : EE (d + 1) 47 [vR 0, vL a1, vI a3] M (rI P) := by
  have hE := EE_mono d
  refine ee_47 ?_
  refine z_iconst hE rfl ?_
  refine z_istore hE rfl rfl rfl ?_
  refine z_iconst hE rfl ?_
  refine z_istore hE rfl rfl rfl ?_
  refine z_iconst hE rfl ?_
  refine z_istore hE rfl rfl rfl ?_
  exact h
theorem sg_47_11 {d : Nat} {P : Int → Mm → Prop} {a1 : Int} {a3 : Int} {a4 : Int} {a5 : Int} {a6 : Int} {M : Mm} (h : ((4 ≤ a6 → P a4 M) ∧ (a6 < 4 → EE d 48 [vR 0, vL a1, vI a3, vI a6] M (rI fun r1 M1 => ((a5 ≤ r1 → inI (a6 + 1) ∧ H_47_11 d P a1 a3 a4 a5 (a6 + 1) M1) ∧ (r1 < a5 → inI (a6 + 1) ∧ H_47_11 d P a1 a3 a6 r1 (a6 + 1) M1)))))) : H_47_11 d P a1 a3 a4 a5 a6 M := by
  have hE := EE_mono d
  unfold H_47_11
  refine z_iload hE rfl rfl ?_
  refine z_iconst hE rfl ?_
  refine z_icmp_ge hE rfl ⟨fun q => ?_, fun q => ?_⟩
  · have h := h.1 q
    refine z_iload hE rfl rfl ?_
    exact z_iret hE rfl rfl h
  · have h := h.2 q
    refine z_aload hE rfl rfl rfl ?_
    refine z_lload hE rfl rfl ?_
    refine z_iload hE rfl rfl ?_
    refine z_iload hE rfl rfl ?_
    refine z_callvI hE rfl rfl rfl rfl rfl (Nat.le_of_ble_eq_true rfl) (by decide) ⟨rfl, rfl⟩ (EE_mono d _ _ _ _ _ (rI_mono fun r1 M1 h => ?_) h)
    refine z_istore hE rfl rfl rfl ?_
    refine z_iload hE rfl rfl ?_
    refine z_iload hE rfl rfl ?_
    refine z_icmp_ge hE rfl ⟨fun q => ?_, fun q => ?_⟩
    · have h := h.1 q
      have hb := h.1
      have h := h.2
      refine z_iinc hE rfl rfl rfl hb ?_
      refine z_goto hE rfl ?_
      exact GoG.weak hE (ls := [vR 0, vL a1, vU, vI a3, vI a4, vI a5, vI (a6 + 1), vU]) ⟨Or.inl rfl, Or.inl rfl, Or.inl rfl, Or.inl rfl, Or.inl rfl, Or.inl rfl, Or.inl rfl, Or.inr ⟨rfl, _, rfl⟩, trivial⟩ h
    · have h := h.2 q
      refine z_iload hE rfl rfl ?_
      refine z_istore hE rfl rfl rfl ?_
      refine z_iload hE rfl rfl ?_
      refine z_istore hE rfl rfl rfl ?_
      have hb := h.1
      have h := h.2
      refine z_iinc hE rfl rfl rfl hb ?_
      refine z_goto hE rfl ?_
      exact GoG.weak hE (ls := [vR 0, vL a1, vU, vI a3, vI a6, vI r1, vI (a6 + 1), vU]) ⟨Or.inl rfl, Or.inl rfl, Or.inl rfl, Or.inl rfl, Or.inl rfl, Or.inl rfl, Or.inl rfl, Or.inr ⟨rfl, _, rfl⟩, trivial⟩ h
/-! 48: ChildTrains.mostAlike(JII)I -/
def H_48_14 (d : Nat) (P : Int → Mm → Prop) (a1 : Int) (a3 : Int) (a4 : Int) (a5 : Int) (a6 : Int) (M : Mm) : Prop := GoG false (EE d) cd_48 (rI P) 14 [vR 0, vL a1, vU, vI a3, vI a4, vI a5, vI a6, vU] [] M
theorem mN_48 : mN 48 = 8 := by decide +kernel
theorem ee_48 {d : Nat} {Q : Ql} {a1 : Int} {a3 : Int} {a4 : Int} {M : Mm} (h : GoG false (EE d) cd_48 Q 0 [vR 0, vL a1, vU, vI a3, vI a4, vU, vU, vU] [] M) : EE (d + 1) 48 [vR 0, vL a1, vI a3, vI a4] M Q := by
  have e : cdTab 48 = cd_48 := rfl
  unfold EE; rw [mN_48, e]; exact ⟨Nat.le_of_ble_eq_true rfl, h⟩
theorem sg_48 {d : Nat} {P : Int → Mm → Prop} {a1 : Int} {a3 : Int} {a4 : Int} {M : Mm} (h : EE d 173 [vR 50, vI 0] M (rV fun M1 => H_48_14 d P a1 a3 a4 0 0 M1)) : EE (d + 1) 48 [vR 0, vL a1, vI a3, vI a4] M (rI P) := by
  have hE := EE_mono d
  refine ee_48 ?_
  refine z_aload hE rfl rfl rfl ?_
  refine z_getR hE (q := 50) rfl shk_0 rfl rfl rfl ?_
  refine z_iconst hE rfl ?_
  refine z_callsV hE rfl rfl rfl rfl rfl (Nat.le_of_ble_eq_true rfl) (by decide) (EE_mono d _ _ _ _ _ (rV_mono fun M1 h => ?_) h)
  refine z_iconst hE rfl ?_
  refine z_istore hE rfl rfl rfl ?_
  refine z_iconst hE rfl ?_
  refine z_istore hE rfl rfl rfl ?_
  exact h
theorem sg_48_14 {d : Nat} {P : Int → Mm → Prop} {a1 : Int} {a3 : Int} {a4 : Int} {a5 : Int} {a6 : Int} {M : Mm} (h : (((M 1 6) ≤ a6 → P a5 M) ∧ (a6 < (M 1 6) → EE d 54 [vR 1, vI a6, vL a1, vI a3] M (rI fun r1 M1 => ((r1 = 0 → inI (a6 + 1) ∧ H_48_14 d P a1 a3 a4 a5 (a6 + 1) M1) ∧ (¬ r1 = 0 → EE d 55 [vR 1, vI a6, vI a4] M1 (rI fun r2 M2 => (0 ≤ r2 ∧ r2 < 8) ∧ inI ((M2 50 r2) + 1) ∧ (0 ≤ r2 ∧ r2 < 8) ∧ (0 ≤ r2 ∧ r2 < 8) ∧ inI (a6 + 1) ∧ H_48_14 d P a1 a3 a4 (if a5 < (mset M2 50 r2 ((M2 50 r2) + 1)) 50 r2 then (mset M2 50 r2 ((M2 50 r2) + 1)) 50 r2 else a5) (a6 + 1) (mset M2 50 r2 ((M2 50 r2) + 1))))))))) : H_48_14 d P a1 a3 a4 a5 a6 M := by
  have hE := EE_mono d
  unfold H_48_14
  refine z_iload hE rfl rfl ?_
  refine z_aload hE rfl rfl rfl ?_
  refine z_getR hE (q := 1) rfl shk_0 rfl rfl rfl ?_
  refine z_getI hE (sl := 6) rfl shk_1 rfl rfl rfl ?_
  refine z_icmp_ge hE rfl ⟨fun q => ?_, fun q => ?_⟩
  · have h := h.1 q
    refine z_iload hE rfl rfl ?_
    exact z_iret hE rfl rfl h
  · have h := h.2 q
    refine z_aload hE rfl rfl rfl ?_
    refine z_getR hE (q := 1) rfl shk_0 rfl rfl rfl ?_
    refine z_iload hE rfl rfl ?_
    refine z_lload hE rfl rfl ?_
    refine z_iload hE rfl rfl ?_
    refine z_callvI hE rfl rfl rfl rfl rfl (Nat.le_of_ble_eq_true rfl) (by decide) ⟨rfl, rfl⟩ (EE_mono d _ _ _ _ _ (rI_mono fun r1 M1 h => ?_) h)
    refine z_if_eq hE rfl ⟨fun q => ?_, fun q => ?_⟩
    · have h := h.1 q
      have hb := h.1
      have h := h.2
      refine z_iinc hE rfl rfl rfl hb ?_
      refine z_goto hE rfl ?_
      exact h
    · have h := h.2 q
      refine z_aload hE rfl rfl rfl ?_
      refine z_getR hE (q := 1) rfl shk_0 rfl rfl rfl ?_
      refine z_iload hE rfl rfl ?_
      refine z_iload hE rfl rfl ?_
      refine z_callvI hE rfl rfl rfl rfl rfl (Nat.le_of_ble_eq_true rfl) (by decide) ⟨rfl, rfl⟩ (EE_mono d _ _ _ _ _ (rI_mono fun r2 M2 h => ?_) h)
      refine z_istore hE rfl rfl rfl ?_
      refine z_aload hE rfl rfl rfl ?_
      refine z_getR hE (q := 50) rfl shk_0 rfl rfl rfl ?_
      refine z_iload hE rfl rfl ?_
      refine z_dup2 hE rfl rfl rfl ?_
      have hb := h.1
      have h := h.2
      refine z_iald hE rfl shk_50 hb ?_
      refine z_iconst hE rfl ?_
      have hb := h.1
      have h := h.2
      refine z_iadd hE rfl hb ?_
      have hb := h.1
      have h := h.2
      refine z_iast hE rfl shk_50 hb ?_
      refine z_iload hE rfl rfl ?_
      refine z_aload hE rfl rfl rfl ?_
      refine z_getR hE (q := 50) rfl shk_0 rfl rfl rfl ?_
      refine z_iload hE rfl rfl ?_
      have hb := h.1
      have h := h.2
      refine z_iald hE rfl shk_50 hb ?_
      refine z_max hE rfl (Nat.le_of_ble_eq_true rfl) ?_
      refine z_istore hE rfl rfl rfl ?_
      have hb := h.1
      have h := h.2
      refine z_iinc hE rfl rfl rfl hb ?_
      refine z_goto hE rfl ?_
      exact GoG.weak hE (ls := [vR 0, vL a1, vU, vI a3, vI a4, vI (if a5 < (mset M2 50 r2 ((M2 50 r2) + 1)) 50 r2 then (mset M2 50 r2 ((M2 50 r2) + 1)) 50 r2 else a5), vI (a6 + 1), vU]) ⟨Or.inl rfl, Or.inl rfl, Or.inl rfl, Or.inl rfl, Or.inl rfl, Or.inl rfl, Or.inl rfl, Or.inr ⟨rfl, _, rfl⟩, trivial⟩ h
/-! 49: ChildTrains$Children.add(IIII)I -/
theorem mN_49 : mN 49 = 5 := by decide +kernel
theorem ee_49 {d : Nat} {Q : Ql} {a1 : Int} {a2 : Int} {a3 : Int} {a4 : Int} {M : Mm} (h : GoG false (EE d) cd_49 Q 0 [vR 1, vI a1, vI a2, vI a3, vI a4] [] M) : EE (d + 1) 49 [vR 1, vI a1, vI a2, vI a3, vI a4] M Q := by
  have e : cdTab 49 = cd_49 := rfl
  unfold EE; rw [mN_49, e]; exact ⟨Nat.le_of_ble_eq_true rfl, h⟩
theorem sg_49 {d : Nat} {P : Int → Mm → Prop} {a1 : Int} {a2 : Int} {a3 : Int} {a4 : Int} {M : Mm} (h : (0 ≤ (M 1 6) ∧ (M 1 6) < 48) ∧ (0 ≤ (M 1 6) ∧ (M 1 6) < 48) ∧ (0 ≤ (M 1 6) ∧ (M 1 6) < 48) ∧ (0 ≤ (M 1 6) ∧ (M 1 6) < 48) ∧ inI ((M 1 6) + 1) ∧ inI (((M 1 6) + 1) - 1) ∧ P (((M 1 6) + 1) - 1) (mset (mset (mset (mset (mset M 2 (M 1 6) a1) 3 (M 1 6) a2) 4 (M 1 6) a3) 5 (M 1 6) a4) 1 6 ((M 1 6) + 1))) : EE (d + 1) 49 [vR 1, vI a1, vI a2, vI a3, vI a4] M (rI P) := by
  have hE := EE_mono d
  refine ee_49 ?_
  refine z_aload hE rfl rfl rfl ?_
  refine z_getR hE (q := 2) rfl shk_1 rfl rfl rfl ?_
  refine z_aload hE rfl rfl rfl ?_
  refine z_getI hE (sl := 6) rfl shk_1 rfl rfl rfl ?_
  refine z_iload hE rfl rfl ?_
  have hb := h.1
  have h := h.2
  refine z_iast hE rfl shk_2 hb ?_
  refine z_aload hE rfl rfl rfl ?_
  refine z_getR hE (q := 3) rfl shk_1 rfl rfl rfl ?_
  refine z_aload hE rfl rfl rfl ?_
  refine z_getI hE (sl := 6) rfl shk_1 rfl rfl rfl ?_
  refine z_iload hE rfl rfl ?_
  have hb := h.1
  have h := h.2
  refine z_iast hE rfl shk_3 hb ?_
  refine z_aload hE rfl rfl rfl ?_
  refine z_getR hE (q := 4) rfl shk_1 rfl rfl rfl ?_
  refine z_aload hE rfl rfl rfl ?_
  refine z_getI hE (sl := 6) rfl shk_1 rfl rfl rfl ?_
  refine z_iload hE rfl rfl ?_
  have hb := h.1
  have h := h.2
  refine z_iast hE rfl shk_4 hb ?_
  refine z_aload hE rfl rfl rfl ?_
  refine z_getR hE (q := 5) rfl shk_1 rfl rfl rfl ?_
  refine z_aload hE rfl rfl rfl ?_
  refine z_getI hE (sl := 6) rfl shk_1 rfl rfl rfl ?_
  refine z_iload hE rfl rfl ?_
  have hb := h.1
  have h := h.2
  refine z_iast hE rfl shk_5 hb ?_
  refine z_aload hE rfl rfl rfl ?_
  refine z_dup hE rfl rfl ?_
  refine z_getI hE (sl := 6) rfl shk_1 rfl rfl rfl ?_
  refine z_iconst hE rfl ?_
  have hb := h.1
  have h := h.2
  refine z_iadd hE rfl hb ?_
  refine z_putI hE (sl := 6) rfl shk_1 rfl rfl rfl ?_
  refine z_aload hE rfl rfl rfl ?_
  refine z_getI hE (sl := 6) rfl shk_1 rfl rfl rfl ?_
  refine z_iconst hE rfl ?_
  have hb := h.1
  have h := h.2
  refine z_isub hE rfl hb ?_
  exact z_iret hE rfl rfl h
/-! 50: ChildTrains$Children.sortOf(I)I -/
theorem mN_50 : mN 50 = 2 := by decide +kernel
theorem ee_50 {d : Nat} {Q : Ql} {a1 : Int} {M : Mm} (h : GoG false (EE d) cd_50 Q 0 [vR 1, vI a1] [] M) : EE (d + 1) 50 [vR 1, vI a1] M Q := by
  have e : cdTab 50 = cd_50 := rfl
  unfold EE; rw [mN_50, e]; exact ⟨Nat.le_of_ble_eq_true rfl, h⟩
theorem sg_50 {d : Nat} {P : Int → Mm → Prop} {a1 : Int} {M : Mm} (h : (0 ≤ a1 ∧ a1 < 48) ∧ EE d 51 [vR 1, vI a1] M (rI fun r1 M1 => ((r1 = 0 → inI ((M 2 a1) + 0) ∧ P ((M 2 a1) + 0) M1) ∧ (¬ r1 = 0 → inI ((M 2 a1) + 2) ∧ P ((M 2 a1) + 2) M1)))) : EE (d + 1) 50 [vR 1, vI a1] M (rI P) := by
  have hE := EE_mono d
  refine ee_50 ?_
  refine z_aload hE rfl rfl rfl ?_
  refine z_getR hE (q := 2) rfl shk_1 rfl rfl rfl ?_
  refine z_iload hE rfl rfl ?_
  have hb := h.1
  have h := h.2
  refine z_iald hE rfl shk_2 hb ?_
  refine z_aload hE rfl rfl rfl ?_
  refine z_iload hE rfl rfl ?_
  refine z_callvI hE rfl rfl rfl rfl rfl (Nat.le_of_ble_eq_true rfl) (by decide) ⟨rfl, rfl⟩ (EE_mono d _ _ _ _ _ (rI_mono fun r1 M1 h => ?_) h)
  refine z_if_eq hE rfl ⟨fun q => ?_, fun q => ?_⟩
  · have h := h.1 q
    refine z_iconst hE rfl ?_
    have hb := h.1
    have h := h.2
    refine z_iadd hE rfl hb ?_
    exact z_iret hE rfl rfl h
  · have h := h.2 q
    refine z_iconst hE rfl ?_
    refine z_goto hE rfl ?_
    have hb := h.1
    have h := h.2
    refine z_iadd hE rfl hb ?_
    exact z_iret hE rfl rfl h
/-! 51: ChildTrains$Children.isBig(I)Z -/
theorem mN_51 : mN 51 = 2 := by decide +kernel
theorem ee_51 {d : Nat} {Q : Ql} {a1 : Int} {M : Mm} (h : GoG false (EE d) cd_51 Q 0 [vR 1, vI a1] [] M) : EE (d + 1) 51 [vR 1, vI a1] M Q := by
  have e : cdTab 51 = cd_51 := rfl
  unfold EE; rw [mN_51, e]; exact ⟨Nat.le_of_ble_eq_true rfl, h⟩
theorem sg_51 {d : Nat} {P : Int → Mm → Prop} {a1 : Int} {M : Mm} (h : (0 ≤ a1 ∧ a1 < 48) ∧ (((M 3 a1) < 9 → P 0 M) ∧ (9 ≤ (M 3 a1) → P 1 M))) : EE (d + 1) 51 [vR 1, vI a1] M (rI P) := by
  have hE := EE_mono d
  refine ee_51 ?_
  refine z_aload hE rfl rfl rfl ?_
  refine z_getR hE (q := 3) rfl shk_1 rfl rfl rfl ?_
  refine z_iload hE rfl rfl ?_
  have hb := h.1
  have h := h.2
  refine z_iald hE rfl shk_3 hb ?_
  refine z_iconst hE rfl ?_
  refine z_icmp_lt hE rfl ⟨fun q => ?_, fun q => ?_⟩
  · have h := h.1 q
    refine z_iconst hE rfl ?_
    exact z_zret hE rfl rfl (Or.inl rfl) h
  · have h := h.2 q
    refine z_iconst hE rfl ?_
    refine z_goto hE rfl ?_
    exact z_zret hE rfl rfl (Or.inr rfl) h
/-! 52: ChildTrains$Children.areKin(II)Z -/
theorem mN_52 : mN 52 = 3 := by decide +kernel
theorem ee_52 {d : Nat} {Q : Ql} {a1 : Int} {a2 : Int} {M : Mm} (h : GoG false (EE d) cd_52 Q 0 [vR 1, vI a1, vI a2] [] M) : EE (d + 1) 52 [vR 1, vI a1, vI a2] M Q := by
  have e : cdTab 52 = cd_52 := rfl
  unfold EE; rw [mN_52, e]; exact ⟨Nat.le_of_ble_eq_true rfl, h⟩
theorem sg_52 {d : Nat} {P : Int → Mm → Prop} {a1 : Int} {a2 : Int} {M : Mm} (h : ((a1 = a2 → P 0 M) ∧ (¬ a1 = a2 → (0 ≤ a1 ∧ a1 < 48) ∧ (((M 4 a1) = 0 → P 0 M) ∧ (¬ (M 4 a1) = 0 → (0 ≤ a1 ∧ a1 < 48) ∧ (0 ≤ a2 ∧ a2 < 48) ∧ ((¬ (M 4 a1) = (M 4 a2) → P 0 M) ∧ ((M 4 a1) = (M 4 a2) → P 1 M))))))) : EE (d + 1) 52 [vR 1, vI a1, vI a2] M (rI P) := by
  have hE := EE_mono d
  refine ee_52 ?_
  refine z_iload hE rfl rfl ?_
  refine z_iload hE rfl rfl ?_
  refine z_icmp_eq hE rfl ⟨fun q => ?_, fun q => ?_⟩
  · have h := h.1 q
    refine z_iconst hE rfl ?_
    exact z_zret hE rfl rfl (Or.inl rfl) h
  · have h := h.2 q
    refine z_aload hE rfl rfl rfl ?_
    refine z_getR hE (q := 4) rfl shk_1 rfl rfl rfl ?_
    refine z_iload hE rfl rfl ?_
    have hb := h.1
    have h := h.2
    refine z_iald hE rfl shk_4 hb ?_
    refine z_if_eq hE rfl ⟨fun q => ?_, fun q => ?_⟩
    · have h := h.1 q
      refine z_iconst hE rfl ?_
      exact z_zret hE rfl rfl (Or.inl rfl) h
    · have h := h.2 q
      refine z_aload hE rfl rfl rfl ?_
      refine z_getR hE (q := 4) rfl shk_1 rfl rfl rfl ?_
      refine z_iload hE rfl rfl ?_
      have hb := h.1
      have h := h.2
      refine z_iald hE rfl shk_4 hb ?_
      refine z_aload hE rfl rfl rfl ?_
      refine z_getR hE (q := 4) rfl shk_1 rfl rfl rfl ?_
      refine z_iload hE rfl rfl ?_
      have hb := h.1
      have h := h.2
      refine z_iald hE rfl shk_4 hb ?_
      refine z_icmp_ne hE rfl ⟨fun q => ?_, fun q => ?_⟩
      · have h := h.1 q
        refine z_iconst hE rfl ?_
        exact z_zret hE rfl rfl (Or.inl rfl) h
      · have h := h.2 q
        refine z_iconst hE rfl ?_
        refine z_goto hE rfl ?_
        exact z_zret hE rfl rfl (Or.inr rfl) h
/-! 53: ChildTrains$Children.hasKin(I)Z -/
theorem mN_53 : mN 53 = 2 := by decide +kernel
theorem ee_53 {d : Nat} {Q : Ql} {a1 : Int} {M : Mm} (h : GoG false (EE d) cd_53 Q 0 [vR 1, vI a1] [] M) : EE (d + 1) 53 [vR 1, vI a1] M Q := by
  have e : cdTab 53 = cd_53 := rfl
  unfold EE; rw [mN_53, e]; exact ⟨Nat.le_of_ble_eq_true rfl, h⟩
theorem sg_53 {d : Nat} {P : Int → Mm → Prop} {a1 : Int} {M : Mm} (h : (0 ≤ a1 ∧ a1 < 48) ∧ (((M 4 a1) = 0 → P 0 M) ∧ (¬ (M 4 a1) = 0 → P 1 M))) : EE (d + 1) 53 [vR 1, vI a1] M (rI P) := by
  have hE := EE_mono d
  refine ee_53 ?_
  refine z_aload hE rfl rfl rfl ?_
  refine z_getR hE (q := 4) rfl shk_1 rfl rfl rfl ?_
  refine z_iload hE rfl rfl ?_
  have hb := h.1
  have h := h.2
  refine z_iald hE rfl shk_4 hb ?_
  refine z_if_eq hE rfl ⟨fun q => ?_, fun q => ?_⟩
  · have h := h.1 q
    refine z_iconst hE rfl ?_
    exact z_zret hE rfl rfl (Or.inl rfl) h
  · have h := h.2 q
    refine z_iconst hE rfl ?_
    refine z_goto hE rfl ?_
    exact z_zret hE rfl rfl (Or.inr rfl) h
/-! 54: ChildTrains$Children.fits(IJI)Z -/
def H_54_16 (d : Nat) (P : Int → Mm → Prop) (a1 : Int) (a2 : Int) (a4 : Int) (a5 : Int) (M : Mm) : Prop := GoG false (EE d) cd_54 (rI P) 16 [vR 1, vI a1, vL a2, vU, vI a4, vI a5, vU, vU] [] M
theorem mN_54 : mN 54 = 8 := by decide +kernel
theorem ee_54 {d : Nat} {Q : Ql} {a1 : Int} {a2 : Int} {a4 : Int} {M : Mm} (h : GoG false (EE d) cd_54 Q 0 [vR 1, vI a1, vL a2, vU, vI a4, vU, vU, vU] [] M) : EE (d + 1) 54 [vR 1, vI a1, vL a2, vI a4] M Q := by
  have e : cdTab 54 = cd_54 := rfl
  unfold EE; rw [mN_54, e]; exact ⟨Nat.le_of_ble_eq_true rfl, h⟩
theorem sg_54 {d : Nat} {P : Int → Mm → Prop} {a1 : Int} {a2 : Int} {a4 : Int} {M : Mm} (h : (0 ≤ a1 ∧ a1 < 48) ∧ (((M 7 a1) = a4 → H_54_16 d P a1 a2 a4 0 M) ∧ (¬ (M 7 a1) = a4 → P 0 M))) : EE (d + 1) 54 [vR 1, vI a1, vL a2, vI a4] M (rI P) := by
  have hE := EE_mono d
  refine ee_54 ?_
  refine z_aload hE rfl rfl rfl ?_
  refine z_getR hE (q := 7) rfl shk_1 rfl rfl rfl ?_
  refine z_iload hE rfl rfl ?_
  have hb := h.1
  have h := h.2
  refine z_iald hE rfl shk_7 hb ?_
  refine z_iload hE rfl rfl ?_
  refine z_icmp_eq hE rfl ⟨fun q => ?_, fun q => ?_⟩
  · have h := h.1 q
    refine z_iconst hE rfl ?_
    refine z_istore hE rfl rfl rfl ?_
    exact h
  · have h := h.2 q
    refine z_iconst hE rfl ?_
    exact z_zret hE rfl rfl (Or.inl rfl) h
theorem sg_54_16 {d : Nat} {P : Int → Mm → Prop} {a1 : Int} {a2 : Int} {a4 : Int} {a5 : Int} {M : Mm} (h : ((a4 ≤ a5 → P 1 M) ∧ (a5 < a4 → inI (8 * a5) ∧ (0 ≤ a1 ∧ a1 < 48) ∧ inI (8 * a5) ∧ (((zand (wr (jushr a2 (8 * a5))) 255) = 63 → inI (a5 + 1) ∧ H_54_16 d P a1 a2 a4 (a5 + 1) M) ∧ (¬ (zand (wr (jushr a2 (8 * a5))) 255) = 63 → (((zand (wr (jushr a2 (8 * a5))) 255) = (zand (wr (jushr (M 6 a1) (8 * a5))) 255) → inI (a5 + 1) ∧ H_54_16 d P a1 a2 a4 (a5 + 1) M) ∧ (¬ (zand (wr (jushr a2 (8 * a5))) 255) = (zand (wr (jushr (M 6 a1) (8 * a5))) 255) → P 0 M))))))) : H_54_16 d P a1 a2 a4 a5 M := by
  have hE := EE_mono d
  unfold H_54_16
  refine z_iload hE rfl rfl ?_
  refine z_iload hE rfl rfl ?_
  refine z_icmp_ge hE rfl ⟨fun q => ?_, fun q => ?_⟩
  · have h := h.1 q
    refine z_iconst hE rfl ?_
    exact z_zret hE rfl rfl (Or.inr rfl) h
  · have h := h.2 q
    refine z_lload hE rfl rfl ?_
    refine z_iconst hE rfl ?_
    refine z_iload hE rfl rfl ?_
    have hb := h.1
    have h := h.2
    refine z_imul hE rfl hb ?_
    refine z_lushr hE rfl ?_
    refine z_l2i hE rfl ?_
    refine z_iconst hE rfl ?_
    refine z_iand hE rfl ?_
    refine z_istore hE rfl rfl rfl ?_
    refine z_aload hE rfl rfl rfl ?_
    refine z_getR hE (q := 6) rfl shk_1 rfl rfl rfl ?_
    refine z_iload hE rfl rfl ?_
    have hb := h.1
    have h := h.2
    refine z_lald hE rfl shk_6 hb ?_
    refine z_iconst hE rfl ?_
    refine z_iload hE rfl rfl ?_
    have hb := h.1
    have h := h.2
    refine z_imul hE rfl hb ?_
    refine z_lushr hE rfl ?_
    refine z_l2i hE rfl ?_
    refine z_iconst hE rfl ?_
    refine z_iand hE rfl ?_
    refine z_istore hE rfl rfl rfl ?_
    refine z_iload hE rfl rfl ?_
    refine z_iconst hE rfl ?_
    refine z_icmp_eq hE rfl ⟨fun q => ?_, fun q => ?_⟩
    · have h := h.1 q
      have hb := h.1
      have h := h.2
      refine z_iinc hE rfl rfl rfl hb ?_
      refine z_goto hE rfl ?_
      exact GoG.weak hE (ls := [vR 1, vI a1, vL a2, vU, vI a4, vI (a5 + 1), vU, vU]) ⟨Or.inl rfl, Or.inl rfl, Or.inl rfl, Or.inl rfl, Or.inl rfl, Or.inl rfl, Or.inr ⟨rfl, _, rfl⟩, Or.inr ⟨rfl, _, rfl⟩, trivial⟩ h
    · have h := h.2 q
      refine z_iload hE rfl rfl ?_
      refine z_iload hE rfl rfl ?_
      refine z_icmp_eq hE rfl ⟨fun q => ?_, fun q => ?_⟩
      · have h := h.1 q
        have hb := h.1
        have h := h.2
        refine z_iinc hE rfl rfl rfl hb ?_
        refine z_goto hE rfl ?_
        exact GoG.weak hE (ls := [vR 1, vI a1, vL a2, vU, vI a4, vI (a5 + 1), vU, vU]) ⟨Or.inl rfl, Or.inl rfl, Or.inl rfl, Or.inl rfl, Or.inl rfl, Or.inl rfl, Or.inr ⟨rfl, _, rfl⟩, Or.inr ⟨rfl, _, rfl⟩, trivial⟩ h
      · have h := h.2 q
        refine z_iconst hE rfl ?_
        exact z_zret hE rfl rfl (Or.inl rfl) h
/-! 55: ChildTrains$Children.answer(II)I -/
theorem mN_55 : mN 55 = 3 := by decide +kernel
theorem ee_55 {d : Nat} {Q : Ql} {a1 : Int} {a2 : Int} {M : Mm} (h : GoG false (EE d) cd_55 Q 0 [vR 1, vI a1, vI a2] [] M) : EE (d + 1) 55 [vR 1, vI a1, vI a2] M Q := by
  have e : cdTab 55 = cd_55 := rfl
  unfold EE; rw [mN_55, e]; exact ⟨Nat.le_of_ble_eq_true rfl, h⟩
theorem sg_55 {d : Nat} {P : Int → Mm → Prop} {a1 : Int} {a2 : Int} {M : Mm} (h : ((a2 = 0 → (0 ≤ a1 ∧ a1 < 48) ∧ P (M 2 a1) M) ∧ (a2 = 1 → EE d 51 [vR 1, vI a1] M (rI fun r1 M1 => ((r1 = 0 → P 0 M1) ∧ (¬ r1 = 0 → P 1 M1)))) ∧ (a2 = 2 → EE d 53 [vR 1, vI a1] M (rI fun r2 M2 => ((r2 = 0 → P 0 M2) ∧ (¬ r2 = 0 → P 1 M2)))) ∧ ((a2 < 0 ∨ 3 ≤ a2) → (0 ≤ a1 ∧ a1 < 48) ∧ P (M 5 a1) M))) : EE (d + 1) 55 [vR 1, vI a1, vI a2] M (rI P) := by
  have hE := EE_mono d
  refine ee_55 ?_
  refine z_iload hE rfl rfl ?_
  refine z_tsw hE rfl ⟨fun q => ?_, fun q => ?_, fun q => ?_, trivial⟩ (fun q => ?_)
  · have h := h.1 (by have q2 := q; simp only [xI] at q2; omega)
    refine z_aload hE rfl rfl rfl ?_
    refine z_getR hE (q := 2) rfl shk_1 rfl rfl rfl ?_
    refine z_iload hE rfl rfl ?_
    have hb := h.1
    have h := h.2
    refine z_iald hE rfl shk_2 hb ?_
    exact z_iret hE rfl rfl h
  · have h := h.2.1 (by have q2 := q; simp only [xI] at q2; omega)
    refine z_aload hE rfl rfl rfl ?_
    refine z_iload hE rfl rfl ?_
    refine z_callvI hE rfl rfl rfl rfl rfl (Nat.le_of_ble_eq_true rfl) (by decide) ⟨rfl, rfl⟩ (EE_mono d _ _ _ _ _ (rI_mono fun r1 M1 h => ?_) h)
    refine z_if_eq hE rfl ⟨fun q => ?_, fun q => ?_⟩
    · have h := h.1 q
      refine z_iconst hE rfl ?_
      exact z_iret hE rfl rfl h
    · have h := h.2 q
      refine z_iconst hE rfl ?_
      refine z_goto hE rfl ?_
      exact z_iret hE rfl rfl h
  · have h := h.2.2.1 (by have q2 := q; simp only [xI] at q2; omega)
    refine z_aload hE rfl rfl rfl ?_
    refine z_iload hE rfl rfl ?_
    refine z_callvI hE rfl rfl rfl rfl rfl (Nat.le_of_ble_eq_true rfl) (by decide) ⟨rfl, rfl⟩ (EE_mono d _ _ _ _ _ (rI_mono fun r2 M2 h => ?_) h)
    refine z_if_eq hE rfl ⟨fun q => ?_, fun q => ?_⟩
    · have h := h.1 q
      refine z_iconst hE rfl ?_
      exact z_iret hE rfl rfl h
    · have h := h.2 q
      refine z_iconst hE rfl ?_
      refine z_goto hE rfl ?_
      exact z_iret hE rfl rfl h
  · have h := h.2.2.2 (by have q2 := q; simp only [xI, x3, List.length_cons, List.length_nil] at q2; omega)
    refine z_aload hE rfl rfl rfl ?_
    refine z_getR hE (q := 5) rfl shk_1 rfl rfl rfl ?_
    refine z_iload hE rfl rfl ?_
    have hb := h.1
    have h := h.2
    refine z_iald hE rfl shk_5 hb ?_
    exact z_iret hE rfl rfl h
/-! 56: ChildTrains$Draft.append(JI)V -/
def H_56_5 (d : Nat) (P : Mm → Prop) (a1 : Int) (a4 : Int) (M : Mm) : Prop := GoG false (EE d) cd_56 (rV P) 5 [vR 8, vL a1, vU, vU, vI a4] [] M
theorem mN_56 : mN 56 = 5 := by decide +kernel
theorem ee_56 {d : Nat} {Q : Ql} {a1 : Int} {a3 : Int} {M : Mm} (h : GoG false (EE d) cd_56 Q 0 [vR 8, vL a1, vU, vI a3, vU] [] M) : EE (d + 1) 56 [vR 8, vL a1, vI a3] M Q := by
  have e : cdTab 56 = cd_56 := rfl
  unfold EE; rw [mN_56, e]; exact ⟨Nat.le_of_ble_eq_true rfl, h⟩
theorem sg_56 {d : Nat} {P : Mm → Prop} {a1 : Int} {a3 : Int} {M : Mm} (h : inI (a3 - 1) ∧ H_56_5 d P a1 (a3 - 1) M) : EE (d + 1) 56 [vR 8, vL a1, vI a3] M (rV P) := by
  have hE := EE_mono d
  refine ee_56 ?_
  refine z_iload hE rfl rfl ?_
  refine z_iconst hE rfl ?_
  have hb := h.1
  have h := h.2
  refine z_isub hE rfl hb ?_
  refine z_istore hE rfl rfl rfl ?_
  exact GoG.weak hE (ls := [vR 8, vL a1, vU, vU, vI (a3 - 1)]) ⟨Or.inl rfl, Or.inl rfl, Or.inl rfl, Or.inr ⟨rfl, _, rfl⟩, Or.inl rfl, trivial⟩ h
theorem sg_56_5 {d : Nat} {P : Mm → Prop} {a1 : Int} {a4 : Int} {M : Mm} (h : ((a4 < 0 → P M) ∧ (0 ≤ a4 → inI (8 * a4) ∧ (0 ≤ (M 8 1) ∧ (M 8 1) < 600) ∧ inI ((M 8 1) + 1) ∧ inI (a4 + -1) ∧ H_56_5 d P a1 (a4 + -1) (mset (mset M 9 (M 8 1) (zand (wr (jushr a1 (8 * a4))) 255)) 8 1 ((M 8 1) + 1))))) : H_56_5 d P a1 a4 M := by
  have hE := EE_mono d
  unfold H_56_5
  refine z_iload hE rfl rfl ?_
  refine z_if_lt hE rfl ⟨fun q => ?_, fun q => ?_⟩
  · have h := h.1 q
    exact z_vret hE rfl h
  · have h := h.2 q
    refine z_aload hE rfl rfl rfl ?_
    refine z_getR hE (q := 9) rfl shk_8 rfl rfl rfl ?_
    refine z_aload hE rfl rfl rfl ?_
    refine z_getI hE (sl := 1) rfl shk_8 rfl rfl rfl ?_
    refine z_lload hE rfl rfl ?_
    refine z_iconst hE rfl ?_
    refine z_iload hE rfl rfl ?_
    have hb := h.1
    have h := h.2
    refine z_imul hE rfl hb ?_
    refine z_lushr hE rfl ?_
    refine z_l2i hE rfl ?_
    refine z_iconst hE rfl ?_
    refine z_iand hE rfl ?_
    have hb := h.1
    have h := h.2
    refine z_iast hE rfl shk_9 hb ?_
    refine z_aload hE rfl rfl rfl ?_
    refine z_dup hE rfl rfl ?_
    refine z_getI hE (sl := 1) rfl shk_8 rfl rfl rfl ?_
    refine z_iconst hE rfl ?_
    have hb := h.1
    have h := h.2
    refine z_iadd hE rfl hb ?_
    refine z_putI hE (sl := 1) rfl shk_8 rfl rfl rfl ?_
    have hb := h.1
    have h := h.2
    refine z_iinc hE rfl rfl rfl hb ?_
    refine z_goto hE rfl ?_
    exact h
/-! 57: ChildTrains$Draft.empty()I -/
theorem mN_57 : mN 57 = 2 := by decide +kernel
theorem ee_57 {d : Nat} {Q : Ql} {M : Mm} (h : GoG false (EE d) cd_57 Q 0 [vR 8, vU] [] M) : EE (d + 1) 57 [vR 8] M Q := by
  have e : cdTab 57 = cd_57 := rfl
  unfold EE; rw [mN_57, e]; exact ⟨Nat.le_of_ble_eq_true rfl, h⟩
theorem sg_57 {d : Nat} {P : Int → Mm → Prop} {M : Mm} (h : P (M 8 1) (mset M 8 1 0)) : EE (d + 1) 57 [vR 8] M (rI P) := by
  have hE := EE_mono d
  refine ee_57 ?_
  refine z_aload hE rfl rfl rfl ?_
  refine z_getI hE (sl := 1) rfl shk_8 rfl rfl rfl ?_
  refine z_istore hE rfl rfl rfl ?_
  refine z_aload hE rfl rfl rfl ?_
  refine z_iconst hE rfl ?_
  refine z_putI hE (sl := 1) rfl shk_8 rfl rfl rfl ?_
  refine z_iload hE rfl rfl ?_
  exact z_iret hE rfl rfl h
/-! 58: ChildTrains$Draft.isName()Z -/
def H_58_17 (d : Nat) (P : Int → Mm → Prop) (a1 : Int) (M : Mm) : Prop := GoG false (EE d) cd_58 (rI P) 17 [vR 8, vI a1] [] M
theorem mN_58 : mN 58 = 2 := by decide +kernel
theorem ee_58 {d : Nat} {Q : Ql} {M : Mm} (h : GoG false (EE d) cd_58 Q 0 [vR 8, vU] [] M) : EE (d + 1) 58 [vR 8] M Q := by
  have e : cdTab 58 = cd_58 := rfl
  unfold EE; rw [mN_58, e]; exact ⟨Nat.le_of_ble_eq_true rfl, h⟩
theorem sg_58 {d : Nat} {P : Int → Mm → Prop} {M : Mm} (h : EE d 32 [vI (M 8 1), vI 1, vI 8] M (rI fun r1 M1 => ((¬ r1 = 0 → H_58_17 d P 0 M1) ∧ (r1 = 0 → P 0 M1)))) : EE (d + 1) 58 [vR 8] M (rI P) := by
  have hE := EE_mono d
  refine ee_58 ?_
  refine z_aload hE rfl rfl rfl ?_
  refine z_getI hE (sl := 1) rfl shk_8 rfl rfl rfl ?_
  refine z_iconst hE rfl ?_
  refine z_iconst hE rfl ?_
  refine z_callsI hE rfl rfl rfl rfl rfl (Nat.le_of_ble_eq_true rfl) (by decide) (EE_mono d _ _ _ _ _ (rI_mono fun r1 M1 h => ?_) h)
  refine z_if_ne hE rfl ⟨fun q => ?_, fun q => ?_⟩
  · have h := h.1 q
    refine z_iconst hE rfl ?_
    refine z_istore hE rfl rfl rfl ?_
    exact h
  · have h := h.2 q
    refine z_iconst hE rfl ?_
    exact z_zret hE rfl rfl (Or.inl rfl) h
theorem sg_58_17 {d : Nat} {P : Int → Mm → Prop} {a1 : Int} {M : Mm} (h : (((M 8 1) ≤ a1 → P 1 M) ∧ (a1 < (M 8 1) → (0 ≤ a1 ∧ a1 < 600) ∧ EE d 32 [vI (M 9 a1), vI 97, vI 122] M (rI fun r1 M1 => ((¬ r1 = 0 → inI (a1 + 1) ∧ H_58_17 d P (a1 + 1) M1) ∧ (r1 = 0 → P 0 M1)))))) : H_58_17 d P a1 M := by
  have hE := EE_mono d
  unfold H_58_17
  refine z_iload hE rfl rfl ?_
  refine z_aload hE rfl rfl rfl ?_
  refine z_getI hE (sl := 1) rfl shk_8 rfl rfl rfl ?_
  refine z_icmp_ge hE rfl ⟨fun q => ?_, fun q => ?_⟩
  · have h := h.1 q
    refine z_iconst hE rfl ?_
    exact z_zret hE rfl rfl (Or.inr rfl) h
  · have h := h.2 q
    refine z_aload hE rfl rfl rfl ?_
    refine z_getR hE (q := 9) rfl shk_8 rfl rfl rfl ?_
    refine z_iload hE rfl rfl ?_
    have hb := h.1
    have h := h.2
    refine z_iald hE rfl shk_9 hb ?_
    refine z_iconst hE rfl ?_
    refine z_iconst hE rfl ?_
    refine z_callsI hE rfl rfl rfl rfl rfl (Nat.le_of_ble_eq_true rfl) (by decide) (EE_mono d _ _ _ _ _ (rI_mono fun r1 M1 h => ?_) h)
    refine z_if_ne hE rfl ⟨fun q => ?_, fun q => ?_⟩
    · have h := h.1 q
      have hb := h.1
      have h := h.2
      refine z_iinc hE rfl rfl rfl hb ?_
      refine z_goto hE rfl ?_
      exact h
    · have h := h.2 q
      refine z_iconst hE rfl ?_
      exact z_zret hE rfl rfl (Or.inl rfl) h
/-! 59: ChildTrains$Draft.packed()J -/
def H_59_4 (d : Nat) (P : Int → Mm → Prop) (a1 : Int) (a3 : Int) (M : Mm) : Prop := GoG false (EE d) cd_59 (rL P) 4 [vR 8, vL a1, vU, vI a3] [] M
theorem mN_59 : mN 59 = 4 := by decide +kernel
theorem ee_59 {d : Nat} {Q : Ql} {M : Mm} (h : GoG false (EE d) cd_59 Q 0 [vR 8, vU, vU, vU] [] M) : EE (d + 1) 59 [vR 8] M Q := by
  have e : cdTab 59 = cd_59 := rfl
  unfold EE; rw [mN_59, e]; exact ⟨Nat.le_of_ble_eq_true rfl, h⟩
theorem sg_59 {d : Nat} {P : Int → Mm → Prop} {M : Mm} (h : H_59_4 d P 0 0 M) : EE (d + 1) 59 [vR 8] M (rL P) := by
  have hE := EE_mono d
  refine ee_59 ?_
  refine z_lconst hE rfl ?_
  refine z_lstore hE rfl rfl rfl ?_
  refine z_iconst hE rfl ?_
  refine z_istore hE rfl rfl rfl ?_
  exact h
theorem sg_59_4 {d : Nat} {P : Int → Mm → Prop} {a1 : Int} {a3 : Int} {M : Mm} (h : (((M 8 1) ≤ a3 → P a1 M) ∧ (a3 < (M 8 1) → (0 ≤ a3 ∧ a3 < 600) ∧ inI (a3 + 1) ∧ H_59_4 d P (jor (jshl a1 8) (M 9 a3)) (a3 + 1) M))) : H_59_4 d P a1 a3 M := by
  have hE := EE_mono d
  unfold H_59_4
  refine z_iload hE rfl rfl ?_
  refine z_aload hE rfl rfl rfl ?_
  refine z_getI hE (sl := 1) rfl shk_8 rfl rfl rfl ?_
  refine z_icmp_ge hE rfl ⟨fun q => ?_, fun q => ?_⟩
  · have h := h.1 q
    refine z_lload hE rfl rfl ?_
    exact z_lret hE rfl h
  · have h := h.2 q
    refine z_lload hE rfl rfl ?_
    refine z_iconst hE rfl ?_
    refine z_lshl hE rfl ?_
    refine z_aload hE rfl rfl rfl ?_
    refine z_getR hE (q := 9) rfl shk_8 rfl rfl rfl ?_
    refine z_iload hE rfl rfl ?_
    have hb := h.1
    have h := h.2
    refine z_iald hE rfl shk_9 hb ?_
    refine z_i2l hE rfl ?_
    refine z_lor hE rfl ?_
    refine z_lstore hE rfl rfl rfl ?_
    have hb := h.1
    have h := h.2
    refine z_iinc hE rfl rfl rfl hb ?_
    refine z_goto hE rfl ?_
    exact h
/-! 60: ChildTrains$Draft.at(I)I -/
theorem mN_60 : mN 60 = 2 := by decide +kernel
theorem ee_60 {d : Nat} {Q : Ql} {a1 : Int} {M : Mm} (h : GoG false (EE d) cd_60 Q 0 [vR 8, vI a1] [] M) : EE (d + 1) 60 [vR 8, vI a1] M Q := by
  have e : cdTab 60 = cd_60 := rfl
  unfold EE; rw [mN_60, e]; exact ⟨Nat.le_of_ble_eq_true rfl, h⟩
theorem sg_60 {d : Nat} {P : Int → Mm → Prop} {a1 : Int} {M : Mm} (h : ((a1 < 0 → P (-9) M) ∧ (0 ≤ a1 → (((M 8 1) ≤ a1 → P (-9) M) ∧ (a1 < (M 8 1) → (0 ≤ a1 ∧ a1 < 600) ∧ P (M 9 a1) M))))) : EE (d + 1) 60 [vR 8, vI a1] M (rI P) := by
  have hE := EE_mono d
  refine ee_60 ?_
  refine z_iload hE rfl rfl ?_
  refine z_if_lt hE rfl ⟨fun q => ?_, fun q => ?_⟩
  · have h := h.1 q
    refine z_iconst hE rfl ?_
    exact z_iret hE rfl rfl h
  · have h := h.2 q
    refine z_iload hE rfl rfl ?_
    refine z_aload hE rfl rfl rfl ?_
    refine z_getI hE (sl := 1) rfl shk_8 rfl rfl rfl ?_
    refine z_icmp_ge hE rfl ⟨fun q => ?_, fun q => ?_⟩
    · have h := h.1 q
      refine z_iconst hE rfl ?_
      exact z_iret hE rfl rfl h
    · have h := h.2 q
      refine z_aload hE rfl rfl rfl ?_
      refine z_getR hE (q := 9) rfl shk_8 rfl rfl rfl ?_
      refine z_iload hE rfl rfl ?_
      have hb := h.1
      have h := h.2
      refine z_iald hE rfl shk_9 hb ?_
      refine z_goto hE rfl ?_
      exact z_iret hE rfl rfl h
/-! 61: ChildTrains$Hall.gather(LChildTrains$Children;LChildTrains$Platform;I)V -/
def H_61_17 (d : Nat) (P : Mm → Prop) (a3 : Int) (a4 : Int) (M : Mm) : Prop := GoG false (EE d) cd_61 (rV P) 17 [vR 30, vR 1, vR 10, vI a3, vI a4] [] M
theorem mN_61 : mN 61 = 5 := by decide +kernel
theorem ee_61 {d : Nat} {Q : Ql} {a3 : Int} {M : Mm} (h : GoG false (EE d) cd_61 Q 0 [vR 30, vR 1, vR 10, vI a3, vU] [] M) : EE (d + 1) 61 [vR 30, vR 1, vR 10, vI a3] M Q := by
  have e : cdTab 61 = cd_61 := rfl
  unfold EE; rw [mN_61, e]; exact ⟨Nat.le_of_ble_eq_true rfl, h⟩
theorem sg_61 {d : Nat} {P : Mm → Prop} {a3 : Int} {M : Mm} (h : EE d 173 [vR 32, vI (-9)] M (rV fun M1 => H_61_17 d P a3 0 (mset M1 30 2 0))) : EE (d + 1) 61 [vR 30, vR 1, vR 10, vI a3] M (rV P) := by
  have hE := EE_mono d
  refine ee_61 ?_
  refine z_aload hE rfl rfl rfl ?_
  refine z_getR hE (q := 32) rfl shk_30 rfl rfl rfl ?_
  refine z_iconst hE rfl ?_
  refine z_callsV hE rfl rfl rfl rfl rfl (Nat.le_of_ble_eq_true rfl) (by decide) (EE_mono d _ _ _ _ _ (rV_mono fun M1 h => ?_) h)
  refine z_aload hE rfl rfl rfl ?_
  refine z_iconst hE rfl ?_
  refine z_putI hE (sl := 2) rfl shk_30 rfl rfl rfl ?_
  refine z_iconst hE rfl ?_
  refine z_istore hE rfl rfl rfl ?_
  exact h
theorem sg_61_17 {d : Nat} {P : Mm → Prop} {a3 : Int} {a4 : Int} {M : Mm} (h : (((M 1 6) ≤ a4 → P M) ∧ (a4 < (M 1 6) → EE d 98 [vR 10, vI a4] M (rI fun r1 M1 => ((¬ r1 = a3 → inI (a4 + 1) ∧ H_61_17 d P a3 (a4 + 1) M1) ∧ (r1 = a3 → (0 ≤ (M1 30 2) ∧ (M1 30 2) < 48) ∧ inI ((M1 30 2) + 1) ∧ inI (a4 + 1) ∧ H_61_17 d P a3 (a4 + 1) (mset (mset M1 31 (M1 30 2) a4) 30 2 ((M1 30 2) + 1)))))))) : H_61_17 d P a3 a4 M := by
  have hE := EE_mono d
  unfold H_61_17
  refine z_iload hE rfl rfl ?_
  refine z_aload hE rfl rfl rfl ?_
  refine z_getI hE (sl := 6) rfl shk_1 rfl rfl rfl ?_
  refine z_icmp_ge hE rfl ⟨fun q => ?_, fun q => ?_⟩
  · have h := h.1 q
    exact z_vret hE rfl h
  · have h := h.2 q
    refine z_aload hE rfl rfl rfl ?_
    refine z_iload hE rfl rfl ?_
    refine z_callvI hE rfl rfl rfl rfl rfl (Nat.le_of_ble_eq_true rfl) (by decide) ⟨rfl, rfl⟩ (EE_mono d _ _ _ _ _ (rI_mono fun r1 M1 h => ?_) h)
    refine z_iload hE rfl rfl ?_
    refine z_icmp_ne hE rfl ⟨fun q => ?_, fun q => ?_⟩
    · have h := h.1 q
      have hb := h.1
      have h := h.2
      refine z_iinc hE rfl rfl rfl hb ?_
      refine z_goto hE rfl ?_
      exact h
    · have h := h.2 q
      refine z_aload hE rfl rfl rfl ?_
      refine z_getR hE (q := 31) rfl shk_30 rfl rfl rfl ?_
      refine z_aload hE rfl rfl rfl ?_
      refine z_getI hE (sl := 2) rfl shk_30 rfl rfl rfl ?_
      refine z_iload hE rfl rfl ?_
      have hb := h.1
      have h := h.2
      refine z_iast hE rfl shk_31 hb ?_
      refine z_aload hE rfl rfl rfl ?_
      refine z_dup hE rfl rfl ?_
      refine z_getI hE (sl := 2) rfl shk_30 rfl rfl rfl ?_
      refine z_iconst hE rfl ?_
      have hb := h.1
      have h := h.2
      refine z_iadd hE rfl hb ?_
      refine z_putI hE (sl := 2) rfl shk_30 rfl rfl rfl ?_
      have hb := h.1
      have h := h.2
      refine z_iinc hE rfl rfl rfl hb ?_
      refine z_goto hE rfl ?_
      exact h
/-! 62: ChildTrains$Hall.choose(LChildTrains$Children;LChildTrains$Houses;I)V -/
def H_62_3 (d : Nat) (P : Mm → Prop) (a3 : Int) (a4 : Int) (M : Mm) : Prop := GoG false (EE d) cd_62 (rV P) 3 [vR 30, vR 1, vR 24, vI a3, vI a4, vU, vU] [] M
def H_62_15 (d : Nat) (P : Mm → Prop) (a3 : Int) (a4 : Int) (a5 : Int) (M : Mm) : Prop := GoG false (EE d) cd_62 (rV P) 15 [vR 30, vR 1, vR 24, vI a3, vI a4, vI a5, vU] [] M
theorem mN_62 : mN 62 = 7 := by decide +kernel
theorem ee_62 {d : Nat} {Q : Ql} {a3 : Int} {M : Mm} (h : GoG false (EE d) cd_62 Q 0 [vR 30, vR 1, vR 24, vI a3, vU, vU, vU] [] M) : EE (d + 1) 62 [vR 30, vR 1, vR 24, vI a3] M Q := by
  have e : cdTab 62 = cd_62 := rfl
  unfold EE; rw [mN_62, e]; exact ⟨Nat.le_of_ble_eq_true rfl, h⟩
theorem sg_62 {d : Nat} {P : Mm → Prop} {a3 : Int} {M : Mm} (h : H_62_3 d P a3 0 M) : EE (d + 1) 62 [vR 30, vR 1, vR 24, vI a3] M (rV P) := by
  have hE := EE_mono d
  refine ee_62 ?_
  refine z_iconst hE rfl ?_
  refine z_istore hE rfl rfl rfl ?_
  exact h
theorem sg_62_3 {d : Nat} {P : Mm → Prop} {a3 : Int} {a4 : Int} {M : Mm} (h : (((M 24 5) ≤ a4 → P M) ∧ (a4 < (M 24 5) → H_62_15 d P a3 a4 0 M))) : H_62_3 d P a3 a4 M := by
  have hE := EE_mono d
  unfold H_62_3
  refine z_iload hE rfl rfl ?_
  refine z_aload hE rfl rfl rfl ?_
  refine z_getI hE (sl := 5) rfl shk_24 rfl rfl rfl ?_
  refine z_icmp_ge hE rfl ⟨fun q => ?_, fun q => ?_⟩
  · have h := h.1 q
    exact z_vret hE rfl h
  · have h := h.2 q
    refine z_iconst hE rfl ?_
    refine z_istore hE rfl rfl rfl ?_
    exact h
theorem sg_62_15 {d : Nat} {P : Mm → Prop} {a3 : Int} {a4 : Int} {a5 : Int} {M : Mm} (h : (0 ≤ a4 ∧ a4 < 24) ∧ ((¬ (M 25 a4) = a3 → inI (a4 + 1) ∧ H_62_3 d P a3 (a4 + 1) M) ∧ ((M 25 a4) = a3 → (0 ≤ a4 ∧ a4 < 24) ∧ (((M 27 a4) ≤ a5 → inI (a4 + 1) ∧ H_62_3 d P a3 (a4 + 1) M) ∧ (a5 < (M 27 a4) → EE d 63 [vR 30, vR 1, vR 24, vI a4] M (rI fun r1 M1 => ((¬ r1 = (-9) → (0 ≤ r1 ∧ r1 < 48) ∧ inI (a5 + 1) ∧ H_62_15 d P a3 a4 (a5 + 1) (mset M1 32 r1 a4)) ∧ (r1 = (-9) → inI (a4 + 1) ∧ H_62_3 d P a3 (a4 + 1) M1)))))))) : H_62_15 d P a3 a4 a5 M := by
  have hE := EE_mono d
  unfold H_62_15
  refine z_aload hE rfl rfl rfl ?_
  refine z_getR hE (q := 25) rfl shk_24 rfl rfl rfl ?_
  refine z_iload hE rfl rfl ?_
  have hb := h.1
  have h := h.2
  refine z_iald hE rfl shk_25 hb ?_
  refine z_iload hE rfl rfl ?_
  refine z_icmp_ne hE rfl ⟨fun q => ?_, fun q => ?_⟩
  · have h := h.1 q
    have hb := h.1
    have h := h.2
    refine z_iinc hE rfl rfl rfl hb ?_
    refine z_goto hE rfl ?_
    exact GoG.weak hE (ls := [vR 30, vR 1, vR 24, vI a3, vI (a4 + 1), vU, vU]) ⟨Or.inl rfl, Or.inl rfl, Or.inl rfl, Or.inl rfl, Or.inl rfl, Or.inr ⟨rfl, _, rfl⟩, Or.inl rfl, trivial⟩ h
  · have h := h.2 q
    refine z_iload hE rfl rfl ?_
    refine z_aload hE rfl rfl rfl ?_
    refine z_getR hE (q := 27) rfl shk_24 rfl rfl rfl ?_
    refine z_iload hE rfl rfl ?_
    have hb := h.1
    have h := h.2
    refine z_iald hE rfl shk_27 hb ?_
    refine z_icmp_ge hE rfl ⟨fun q => ?_, fun q => ?_⟩
    · have h := h.1 q
      have hb := h.1
      have h := h.2
      refine z_iinc hE rfl rfl rfl hb ?_
      refine z_goto hE rfl ?_
      exact GoG.weak hE (ls := [vR 30, vR 1, vR 24, vI a3, vI (a4 + 1), vU, vU]) ⟨Or.inl rfl, Or.inl rfl, Or.inl rfl, Or.inl rfl, Or.inl rfl, Or.inr ⟨rfl, _, rfl⟩, Or.inl rfl, trivial⟩ h
    · have h := h.2 q
      refine z_aload hE rfl rfl rfl ?_
      refine z_aload hE rfl rfl rfl ?_
      refine z_aload hE rfl rfl rfl ?_
      refine z_iload hE rfl rfl ?_
      refine z_callvI hE rfl rfl rfl rfl rfl (Nat.le_of_ble_eq_true rfl) (by decide) ⟨rfl, rfl⟩ (EE_mono d _ _ _ _ _ (rI_mono fun r1 M1 h => ?_) h)
      refine z_istore hE rfl rfl rfl ?_
      refine z_iload hE rfl rfl ?_
      refine z_iconst hE rfl ?_
      refine z_icmp_ne hE rfl ⟨fun q => ?_, fun q => ?_⟩
      · have h := h.1 q
        refine z_aload hE rfl rfl rfl ?_
        refine z_getR hE (q := 32) rfl shk_30 rfl rfl rfl ?_
        refine z_iload hE rfl rfl ?_
        refine z_iload hE rfl rfl ?_
        have hb := h.1
        have h := h.2
        refine z_iast hE rfl shk_32 hb ?_
        have hb := h.1
        have h := h.2
        refine z_iinc hE rfl rfl rfl hb ?_
        refine z_goto hE rfl ?_
        exact GoG.weak hE (ls := [vR 30, vR 1, vR 24, vI a3, vI a4, vI (a5 + 1), vU]) ⟨Or.inl rfl, Or.inl rfl, Or.inl rfl, Or.inl rfl, Or.inl rfl, Or.inl rfl, Or.inr ⟨rfl, _, rfl⟩, trivial⟩ h
      · have h := h.2 q
        refine z_goto hE rfl ?_
        have hb := h.1
        have h := h.2
        refine z_iinc hE rfl rfl rfl hb ?_
        refine z_goto hE rfl ?_
        exact GoG.weak hE (ls := [vR 30, vR 1, vR 24, vI a3, vI (a4 + 1), vU, vU]) ⟨Or.inl rfl, Or.inl rfl, Or.inl rfl, Or.inl rfl, Or.inl rfl, Or.inr ⟨rfl, _, rfl⟩, Or.inr ⟨rfl, _, rfl⟩, trivial⟩ h
/-! 63: ChildTrains$Hall.favourite(LChildTrains$Children;LChildTrains$Houses;I)I -/
def H_63_10 (d : Nat) (P : Int → Mm → Prop) (a3 : Int) (a4 : Int) (a5 : Int) (a6 : Int) (M : Mm) : Prop := GoG false (EE d) cd_63 (rI P) 10 [vR 30, vR 1, vR 24, vI a3, vI a4, vI a5, vI a6, vU, vU] [] M
theorem mN_63 : mN 63 = 9 := by decide +kernel
theorem ee_63 {d : Nat} {Q : Ql} {a3 : Int} {M : Mm} (h : GoG false (EE d) cd_63 Q 0 [vR 30, vR 1, vR 24, vI a3, vU, vU, vU, vU, vU] [] M) : EE (d + 1) 63 [vR 30, vR 1, vR 24, vI a3] M Q := by
  have e : cdTab 63 = cd_63 := rfl
  unfold EE; rw [mN_63, e]; exact ⟨Nat.le_of_ble_eq_true rfl, h⟩
theorem sg_63 {d : Nat} {P : Int → Mm → Prop} {a3 : Int} {M : Mm} (h : H_63_10 d P a3 (-9) 0 0 M) : EE (d + 1) 63 [vR 30, vR 1, vR 24, vI a3] M (rI P) := by
  have hE := EE_mono d
  refine ee_63 ?_
  refine z_iconst hE rfl ?_
  refine z_istore hE rfl rfl rfl ?_
  refine z_iconst hE rfl ?_
  refine z_istore hE rfl rfl rfl ?_
  refine z_iconst hE rfl ?_
  refine z_istore hE rfl rfl rfl ?_
  exact h
theorem sg_63_10 {d : Nat} {P : Int → Mm → Prop} {a3 : Int} {a4 : Int} {a5 : Int} {a6 : Int} {M : Mm} (h : (((M 30 2) ≤ a6 → P a4 M) ∧ (a6 < (M 30 2) → (0 ≤ a6 ∧ a6 < 48) ∧ (0 ≤ (M 31 a6) ∧ (M 31 a6) < 48) ∧ ((¬ (M 32 (M 31 a6)) = (-9) → inI (a6 + 1) ∧ H_63_10 d P a3 a4 a5 (a6 + 1) M) ∧ ((M 32 (M 31 a6)) = (-9) → EE d 50 [vR 1, vI (M 31 a6)] M (rI fun r1 M1 => EE d 69 [vR 24, vI a3, vI r1] M1 (rI fun r2 M2 => ((r2 = 0 → inI (a6 + 1) ∧ H_63_10 d P a3 a4 a5 (a6 + 1) M2) ∧ (¬ r2 = 0 → (0 ≤ a3 ∧ a3 < 24) ∧ EE d 64 [vR 30, vR 1, vI (M 31 a6), vI a3, vI (M2 29 a3)] M2 (rI fun r3 M3 => ((a4 = (-9) → inI (a6 + 1) ∧ H_63_10 d P a3 (M 31 a6) r3 (a6 + 1) M3) ∧ (¬ a4 = (-9) → ((r3 ≤ a5 → inI (a6 + 1) ∧ H_63_10 d P a3 a4 a5 (a6 + 1) M3) ∧ (a5 < r3 → inI (a6 + 1) ∧ H_63_10 d P a3 (M 31 a6) r3 (a6 + 1) M3)))))))))))))) : H_63_10 d P a3 a4 a5 a6 M := by
  have hE := EE_mono d
  unfold H_63_10
  refine z_iload hE rfl rfl ?_
  refine z_aload hE rfl rfl rfl ?_
  refine z_getI hE (sl := 2) rfl shk_30 rfl rfl rfl ?_
  refine z_icmp_ge hE rfl ⟨fun q => ?_, fun q => ?_⟩
  · have h := h.1 q
    refine z_iload hE rfl rfl ?_
    exact z_iret hE rfl rfl h
  · have h := h.2 q
    refine z_aload hE rfl rfl rfl ?_
    refine z_getR hE (q := 31) rfl shk_30 rfl rfl rfl ?_
    refine z_iload hE rfl rfl ?_
    have hb := h.1
    have h := h.2
    refine z_iald hE rfl shk_31 hb ?_
    refine z_istore hE rfl rfl rfl ?_
    refine z_aload hE rfl rfl rfl ?_
    refine z_getR hE (q := 32) rfl shk_30 rfl rfl rfl ?_
    refine z_iload hE rfl rfl ?_
    have hb := h.1
    have h := h.2
    refine z_iald hE rfl shk_32 hb ?_
    refine z_iconst hE rfl ?_
    refine z_icmp_ne hE rfl ⟨fun q => ?_, fun q => ?_⟩
    · have h := h.1 q
      have hb := h.1
      have h := h.2
      refine z_iinc hE rfl rfl rfl hb ?_
      refine z_goto hE rfl ?_
      exact GoG.weak hE (ls := [vR 30, vR 1, vR 24, vI a3, vI a4, vI a5, vI (a6 + 1), vU, vU]) ⟨Or.inl rfl, Or.inl rfl, Or.inl rfl, Or.inl rfl, Or.inl rfl, Or.inl rfl, Or.inl rfl, Or.inr ⟨rfl, _, rfl⟩, Or.inl rfl, trivial⟩ h
    · have h := h.2 q
      refine z_aload hE rfl rfl rfl ?_
      refine z_iload hE rfl rfl ?_
      refine z_aload hE rfl rfl rfl ?_
      refine z_iload hE rfl rfl ?_
      refine z_callvI hE rfl rfl rfl rfl rfl (Nat.le_of_ble_eq_true rfl) (by decide) ⟨rfl, rfl⟩ (EE_mono d _ _ _ _ _ (rI_mono fun r1 M1 h => ?_) h)
      refine z_callvI hE rfl rfl rfl rfl rfl (Nat.le_of_ble_eq_true rfl) (by decide) ⟨rfl, rfl⟩ (EE_mono d _ _ _ _ _ (rI_mono fun r2 M2 h => ?_) h)
      refine z_if_eq hE rfl ⟨fun q => ?_, fun q => ?_⟩
      · have h := h.1 q
        have hb := h.1
        have h := h.2
        refine z_iinc hE rfl rfl rfl hb ?_
        refine z_goto hE rfl ?_
        exact GoG.weak hE (ls := [vR 30, vR 1, vR 24, vI a3, vI a4, vI a5, vI (a6 + 1), vU, vU]) ⟨Or.inl rfl, Or.inl rfl, Or.inl rfl, Or.inl rfl, Or.inl rfl, Or.inl rfl, Or.inl rfl, Or.inr ⟨rfl, _, rfl⟩, Or.inl rfl, trivial⟩ h
      · have h := h.2 q
        refine z_aload hE rfl rfl rfl ?_
        refine z_aload hE rfl rfl rfl ?_
        refine z_iload hE rfl rfl ?_
        refine z_iload hE rfl rfl ?_
        refine z_aload hE rfl rfl rfl ?_
        refine z_getR hE (q := 29) rfl shk_24 rfl rfl rfl ?_
        refine z_iload hE rfl rfl ?_
        have hb := h.1
        have h := h.2
        refine z_iald hE rfl shk_29 hb ?_
        refine z_callvI hE rfl rfl rfl rfl rfl (Nat.le_of_ble_eq_true rfl) (by decide) ⟨rfl, rfl⟩ (EE_mono d _ _ _ _ _ (rI_mono fun r3 M3 h => ?_) h)
        refine z_istore hE rfl rfl rfl ?_
        refine z_iload hE rfl rfl ?_
        refine z_iconst hE rfl ?_
        refine z_icmp_eq hE rfl ⟨fun q => ?_, fun q => ?_⟩
        · have h := h.1 q
          refine z_iload hE rfl rfl ?_
          refine z_istore hE rfl rfl rfl ?_
          refine z_iload hE rfl rfl ?_
          refine z_istore hE rfl rfl rfl ?_
          have hb := h.1
          have h := h.2
          refine z_iinc hE rfl rfl rfl hb ?_
          refine z_goto hE rfl ?_
          exact GoG.weak hE (ls := [vR 30, vR 1, vR 24, vI a3, vI (M 31 a6), vI r3, vI (a6 + 1), vU, vU]) ⟨Or.inl rfl, Or.inl rfl, Or.inl rfl, Or.inl rfl, Or.inl rfl, Or.inl rfl, Or.inl rfl, Or.inr ⟨rfl, _, rfl⟩, Or.inr ⟨rfl, _, rfl⟩, trivial⟩ h
        · have h := h.2 q
          refine z_iload hE rfl rfl ?_
          refine z_iload hE rfl rfl ?_
          refine z_icmp_le hE rfl ⟨fun q => ?_, fun q => ?_⟩
          · have h := h.1 q
            have hb := h.1
            have h := h.2
            refine z_iinc hE rfl rfl rfl hb ?_
            refine z_goto hE rfl ?_
            exact GoG.weak hE (ls := [vR 30, vR 1, vR 24, vI a3, vI a4, vI a5, vI (a6 + 1), vU, vU]) ⟨Or.inl rfl, Or.inl rfl, Or.inl rfl, Or.inl rfl, Or.inl rfl, Or.inl rfl, Or.inl rfl, Or.inr ⟨rfl, _, rfl⟩, Or.inr ⟨rfl, _, rfl⟩, trivial⟩ h
          · have h := h.2 q
            refine z_iload hE rfl rfl ?_
            refine z_istore hE rfl rfl rfl ?_
            refine z_iload hE rfl rfl ?_
            refine z_istore hE rfl rfl rfl ?_
            have hb := h.1
            have h := h.2
            refine z_iinc hE rfl rfl rfl hb ?_
            refine z_goto hE rfl ?_
            exact GoG.weak hE (ls := [vR 30, vR 1, vR 24, vI a3, vI (M 31 a6), vI r3, vI (a6 + 1), vU, vU]) ⟨Or.inl rfl, Or.inl rfl, Or.inl rfl, Or.inl rfl, Or.inl rfl, Or.inl rfl, Or.inl rfl, Or.inr ⟨rfl, _, rfl⟩, Or.inr ⟨rfl, _, rfl⟩, trivial⟩ h
/-! 64: ChildTrains$Hall.rankOf(LChildTrains$Children;III)I -/
theorem mN_64 : mN 64 = 5 := by decide +kernel
theorem ee_64 {d : Nat} {Q : Ql} {a2 : Int} {a3 : Int} {a4 : Int} {M : Mm} (h : GoG false (EE d) cd_64 Q 0 [vR 30, vR 1, vI a2, vI a3, vI a4] [] M) : EE (d + 1) 64 [vR 30, vR 1, vI a2, vI a3, vI a4] M Q := by
  have e : cdTab 64 = cd_64 := rfl
  unfold EE; rw [mN_64, e]; exact ⟨Nat.le_of_ble_eq_true rfl, h⟩
theorem sg_64 {d : Nat} {P : Int → Mm → Prop} {a2 : Int} {a3 : Int} {a4 : Int} {M : Mm} (h : ((a4 = 0 → (0 ≤ a2 ∧ a2 < 48) ∧ P (M 3 a2) M) ∧ (a4 = 1 → (0 ≤ a2 ∧ a2 < 48) ∧ inI (-(M 3 a2)) ∧ P (-(M 3 a2)) M) ∧ (a4 = 2 → P 0 M) ∧ (a4 = 3 → EE d 65 [vR 30, vR 1, vI a2, vI a3] M (rI fun r1 M1 => ((r1 = 0 → P 0 M1) ∧ (¬ r1 = 0 → P 1 M1)))) ∧ ((a4 < 0 ∨ 4 ≤ a4) → P 0 M))) : EE (d + 1) 64 [vR 30, vR 1, vI a2, vI a3, vI a4] M (rI P) := by
  have hE := EE_mono d
  refine ee_64 ?_
  refine z_iload hE rfl rfl ?_
  refine z_tsw hE rfl ⟨fun q => ?_, fun q => ?_, fun q => ?_, fun q => ?_, trivial⟩ (fun q => ?_)
  · have h := h.1 (by have q2 := q; simp only [xI] at q2; omega)
    refine z_aload hE rfl rfl rfl ?_
    refine z_getR hE (q := 3) rfl shk_1 rfl rfl rfl ?_
    refine z_iload hE rfl rfl ?_
    have hb := h.1
    have h := h.2
    refine z_iald hE rfl shk_3 hb ?_
    exact z_iret hE rfl rfl h
  · have h := h.2.1 (by have q2 := q; simp only [xI] at q2; omega)
    refine z_aload hE rfl rfl rfl ?_
    refine z_getR hE (q := 3) rfl shk_1 rfl rfl rfl ?_
    refine z_iload hE rfl rfl ?_
    have hb := h.1
    have h := h.2
    refine z_iald hE rfl shk_3 hb ?_
    have hb := h.1
    have h := h.2
    refine z_ineg hE rfl hb ?_
    exact z_iret hE rfl rfl h
  · have h := h.2.2.1 (by have q2 := q; simp only [xI] at q2; omega)
    refine z_iconst hE rfl ?_
    exact z_iret hE rfl rfl h
  · have h := h.2.2.2.1 (by have q2 := q; simp only [xI] at q2; omega)
    refine z_aload hE rfl rfl rfl ?_
    refine z_aload hE rfl rfl rfl ?_
    refine z_iload hE rfl rfl ?_
    refine z_iload hE rfl rfl ?_
    refine z_callvI hE rfl rfl rfl rfl rfl (Nat.le_of_ble_eq_true rfl) (by decide) ⟨rfl, rfl⟩ (EE_mono d _ _ _ _ _ (rI_mono fun r1 M1 h => ?_) h)
    refine z_if_eq hE rfl ⟨fun q => ?_, fun q => ?_⟩
    · have h := h.1 q
      refine z_iconst hE rfl ?_
      exact z_iret hE rfl rfl h
    · have h := h.2 q
      refine z_iconst hE rfl ?_
      refine z_goto hE rfl ?_
      exact z_iret hE rfl rfl h
  · have h := h.2.2.2.2 (by have q2 := q; simp only [xI, x3, List.length_cons, List.length_nil] at q2; omega)
    refine z_iconst hE rfl ?_
    exact z_iret hE rfl rfl h
/-! 65: ChildTrains$Hall.hasKinIn(LChildTrains$Children;II)Z -/
def H_65_3 (d : Nat) (P : Int → Mm → Prop) (a2 : Int) (a3 : Int) (a4 : Int) (M : Mm) : Prop := GoG false (EE d) cd_65 (rI P) 3 [vR 30, vR 1, vI a2, vI a3, vI a4] [] M
theorem mN_65 : mN 65 = 5 := by decide +kernel
theorem ee_65 {d : Nat} {Q : Ql} {a2 : Int} {a3 : Int} {M : Mm} (h : GoG false (EE d) cd_65 Q 0 [vR 30, vR 1, vI a2, vI a3, vU] [] M) : EE (d + 1) 65 [vR 30, vR 1, vI a2, vI a3] M Q := by
  have e : cdTab 65 = cd_65 := rfl
  unfold EE; rw [mN_65, e]; exact ⟨Nat.le_of_ble_eq_true rfl, h⟩
theorem sg_65 {d : Nat} {P : Int → Mm → Prop} {a2 : Int} {a3 : Int} {M : Mm} (h : H_65_3 d P a2 a3 0 M) : EE (d + 1) 65 [vR 30, vR 1, vI a2, vI a3] M (rI P) := by
  have hE := EE_mono d
  refine ee_65 ?_
  refine z_iconst hE rfl ?_
  refine z_istore hE rfl rfl rfl ?_
  exact h
theorem sg_65_3 {d : Nat} {P : Int → Mm → Prop} {a2 : Int} {a3 : Int} {a4 : Int} {M : Mm} (h : (((M 30 2) ≤ a4 → P 0 M) ∧ (a4 < (M 30 2) → (0 ≤ a4 ∧ a4 < 48) ∧ (0 ≤ (M 31 a4) ∧ (M 31 a4) < 48) ∧ ((¬ (M 32 (M 31 a4)) = a3 → inI (a4 + 1) ∧ H_65_3 d P a2 a3 (a4 + 1) M) ∧ ((M 32 (M 31 a4)) = a3 → (0 ≤ a4 ∧ a4 < 48) ∧ EE d 52 [vR 1, vI a2, vI (M 31 a4)] M (rI fun r1 M1 => ((r1 = 0 → inI (a4 + 1) ∧ H_65_3 d P a2 a3 (a4 + 1) M1) ∧ (¬ r1 = 0 → P 1 M1)))))))) : H_65_3 d P a2 a3 a4 M := by
  have hE := EE_mono d
  unfold H_65_3
  refine z_iload hE rfl rfl ?_
  refine z_aload hE rfl rfl rfl ?_
  refine z_getI hE (sl := 2) rfl shk_30 rfl rfl rfl ?_
  refine z_icmp_ge hE rfl ⟨fun q => ?_, fun q => ?_⟩
  · have h := h.1 q
    refine z_iconst hE rfl ?_
    exact z_zret hE rfl rfl (Or.inl rfl) h
  · have h := h.2 q
    refine z_aload hE rfl rfl rfl ?_
    refine z_getR hE (q := 32) rfl shk_30 rfl rfl rfl ?_
    refine z_aload hE rfl rfl rfl ?_
    refine z_getR hE (q := 31) rfl shk_30 rfl rfl rfl ?_
    refine z_iload hE rfl rfl ?_
    have hb := h.1
    have h := h.2
    refine z_iald hE rfl shk_31 hb ?_
    have hb := h.1
    have h := h.2
    refine z_iald hE rfl shk_32 hb ?_
    refine z_iload hE rfl rfl ?_
    refine z_icmp_ne hE rfl ⟨fun q => ?_, fun q => ?_⟩
    · have h := h.1 q
      have hb := h.1
      have h := h.2
      refine z_iinc hE rfl rfl rfl hb ?_
      refine z_goto hE rfl ?_
      exact h
    · have h := h.2 q
      refine z_aload hE rfl rfl rfl ?_
      refine z_iload hE rfl rfl ?_
      refine z_aload hE rfl rfl rfl ?_
      refine z_getR hE (q := 31) rfl shk_30 rfl rfl rfl ?_
      refine z_iload hE rfl rfl ?_
      have hb := h.1
      have h := h.2
      refine z_iald hE rfl shk_31 hb ?_
      refine z_callvI hE rfl rfl rfl rfl rfl (Nat.le_of_ble_eq_true rfl) (by decide) ⟨rfl, rfl⟩ (EE_mono d _ _ _ _ _ (rI_mono fun r1 M1 h => ?_) h)
      refine z_if_eq hE rfl ⟨fun q => ?_, fun q => ?_⟩
      · have h := h.1 q
        have hb := h.1
        have h := h.2
        refine z_iinc hE rfl rfl rfl hb ?_
        refine z_goto hE rfl ?_
        exact h
      · have h := h.2 q
        refine z_iconst hE rfl ?_
        exact z_zret hE rfl rfl (Or.inr rfl) h
/-! 66: ChildTrains$Hall.countOver()I -/
def H_66_4 (d : Nat) (P : Int → Mm → Prop) (a1 : Int) (a2 : Int) (M : Mm) : Prop := GoG false (EE d) cd_66 (rI P) 4 [vR 30, vI a1, vI a2] [] M
theorem mN_66 : mN 66 = 3 := by decide +kernel
theorem ee_66 {d : Nat} {Q : Ql} {M : Mm} (h : GoG false (EE d) cd_66 Q 0 [vR 30, vU, vU] [] M) : EE (d + 1) 66 [vR 30] M Q := by
  have e : cdTab 66 = cd_66 := rfl
  unfold EE; rw [mN_66, e]; exact ⟨Nat.le_of_ble_eq_true rfl, h⟩
theorem sg_66 {d : Nat} {P : Int → Mm → Prop} {M : Mm} (h : H_66_4 d P 0 0 M) : EE (d + 1) 66 [vR 30] M (rI P) := by
  have hE := EE_mono d
  refine ee_66 ?_
  refine z_iconst hE rfl ?_
  refine z_istore hE rfl rfl rfl ?_
  refine z_iconst hE rfl ?_
  refine z_istore hE rfl rfl rfl ?_
  exact h
theorem sg_66_4 {d : Nat} {P : Int → Mm → Prop} {a1 : Int} {a2 : Int} {M : Mm} (h : (((M 30 2) ≤ a2 → P a1 M) ∧ (a2 < (M 30 2) → (0 ≤ a2 ∧ a2 < 48) ∧ (0 ≤ (M 31 a2) ∧ (M 31 a2) < 48) ∧ ((¬ (M 32 (M 31 a2)) = (-9) → inI (a2 + 1) ∧ H_66_4 d P a1 (a2 + 1) M) ∧ ((M 32 (M 31 a2)) = (-9) → inI (a1 + 1) ∧ inI (a2 + 1) ∧ H_66_4 d P (a1 + 1) (a2 + 1) M))))) : H_66_4 d P a1 a2 M := by
  have hE := EE_mono d
  unfold H_66_4
  refine z_iload hE rfl rfl ?_
  refine z_aload hE rfl rfl rfl ?_
  refine z_getI hE (sl := 2) rfl shk_30 rfl rfl rfl ?_
  refine z_icmp_ge hE rfl ⟨fun q => ?_, fun q => ?_⟩
  · have h := h.1 q
    refine z_iload hE rfl rfl ?_
    exact z_iret hE rfl rfl h
  · have h := h.2 q
    refine z_aload hE rfl rfl rfl ?_
    refine z_getR hE (q := 32) rfl shk_30 rfl rfl rfl ?_
    refine z_aload hE rfl rfl rfl ?_
    refine z_getR hE (q := 31) rfl shk_30 rfl rfl rfl ?_
    refine z_iload hE rfl rfl ?_
    have hb := h.1
    have h := h.2
    refine z_iald hE rfl shk_31 hb ?_
    have hb := h.1
    have h := h.2
    refine z_iald hE rfl shk_32 hb ?_
    refine z_iconst hE rfl ?_
    refine z_icmp_ne hE rfl ⟨fun q => ?_, fun q => ?_⟩
    · have h := h.1 q
      have hb := h.1
      have h := h.2
      refine z_iinc hE rfl rfl rfl hb ?_
      refine z_goto hE rfl ?_
      exact h
    · have h := h.2 q
      have hb := h.1
      have h := h.2
      refine z_iinc hE rfl rfl rfl hb ?_
      have hb := h.1
      have h := h.2
      refine z_iinc hE rfl rfl rfl hb ?_
      refine z_goto hE rfl ?_
      exact h
/-! 67: ChildTrains$Hall.countParted(LChildTrains$Children;)I -/
def H_67_4 (d : Nat) (P : Int → Mm → Prop) (a2 : Int) (a3 : Int) (M : Mm) : Prop := GoG false (EE d) cd_67 (rI P) 4 [vR 30, vR 1, vI a2, vI a3, vU, vU] [] M
def H_67_15 (d : Nat) (P : Int → Mm → Prop) (a2 : Int) (a3 : Int) (a4 : Int) (M : Mm) : Prop := GoG false (EE d) cd_67 (rI P) 15 [vR 30, vR 1, vI a2, vI a3, vI a4, vU] [] M
theorem mN_67 : mN 67 = 6 := by decide +kernel
theorem ee_67 {d : Nat} {Q : Ql} {M : Mm} (h : GoG false (EE d) cd_67 Q 0 [vR 30, vR 1, vU, vU, vU, vU] [] M) : EE (d + 1) 67 [vR 30, vR 1] M Q := by
  have e : cdTab 67 = cd_67 := rfl
  unfold EE; rw [mN_67, e]; exact ⟨Nat.le_of_ble_eq_true rfl, h⟩
theorem sg_67 {d : Nat} {P : Int → Mm → Prop} {M : Mm} (h : H_67_4 d P 0 0 M) : EE (d + 1) 67 [vR 30, vR 1] M (rI P) := by
  have hE := EE_mono d
  refine ee_67 ?_
  refine z_iconst hE rfl ?_
  refine z_istore hE rfl rfl rfl ?_
  refine z_iconst hE rfl ?_
  refine z_istore hE rfl rfl rfl ?_
  exact h
theorem sg_67_4 {d : Nat} {P : Int → Mm → Prop} {a2 : Int} {a3 : Int} {M : Mm} (h : (((M 30 2) ≤ a3 → P a2 M) ∧ (a3 < (M 30 2) → H_67_15 d P a2 a3 0 M))) : H_67_4 d P a2 a3 M := by
  have hE := EE_mono d
  unfold H_67_4
  refine z_iload hE rfl rfl ?_
  refine z_aload hE rfl rfl rfl ?_
  refine z_getI hE (sl := 2) rfl shk_30 rfl rfl rfl ?_
  refine z_icmp_ge hE rfl ⟨fun q => ?_, fun q => ?_⟩
  · have h := h.1 q
    refine z_iload hE rfl rfl ?_
    exact z_iret hE rfl rfl h
  · have h := h.2 q
    refine z_iconst hE rfl ?_
    refine z_istore hE rfl rfl rfl ?_
    exact h
theorem sg_67_15 {d : Nat} {P : Int → Mm → Prop} {a2 : Int} {a3 : Int} {a4 : Int} {M : Mm} (h : ((a3 ≤ a4 → inI (a3 + 1) ∧ H_67_4 d P a2 (a3 + 1) M) ∧ (a4 < a3 → (0 ≤ a3 ∧ a3 < 48) ∧ (0 ≤ (M 31 a3) ∧ (M 31 a3) < 48) ∧ (0 ≤ a3 ∧ a3 < 48) ∧ (0 ≤ a4 ∧ a4 < 48) ∧ EE d 52 [vR 1, vI (M 31 a3), vI (M 31 a4)] M (rI fun r1 M1 => ((r1 = 0 → inI (a4 + 1) ∧ H_67_15 d P a2 a3 (a4 + 1) M1) ∧ (¬ r1 = 0 → (((M 32 (M 31 a3)) = (-9) → inI (a2 + 1) ∧ inI (a4 + 1) ∧ H_67_15 d P (a2 + 1) a3 (a4 + 1) M1) ∧ (¬ (M 32 (M 31 a3)) = (-9) → (0 ≤ a4 ∧ a4 < 48) ∧ (0 ≤ (M1 31 a4) ∧ (M1 31 a4) < 48) ∧ (((M 32 (M 31 a3)) = (M1 32 (M1 31 a4)) → inI (a4 + 1) ∧ H_67_15 d P a2 a3 (a4 + 1) M1) ∧ (¬ (M 32 (M 31 a3)) = (M1 32 (M1 31 a4)) → inI (a2 + 1) ∧ inI (a4 + 1) ∧ H_67_15 d P (a2 + 1) a3 (a4 + 1) M1)))))))))) : H_67_15 d P a2 a3 a4 M := by
  have hE := EE_mono d
  unfold H_67_15
  refine z_iload hE rfl rfl ?_
  refine z_iload hE rfl rfl ?_
  refine z_icmp_ge hE rfl ⟨fun q => ?_, fun q => ?_⟩
  · have h := h.1 q
    have hb := h.1
    have h := h.2
    refine z_iinc hE rfl rfl rfl hb ?_
    refine z_goto hE rfl ?_
    exact GoG.weak hE (ls := [vR 30, vR 1, vI a2, vI (a3 + 1), vU, vU]) ⟨Or.inl rfl, Or.inl rfl, Or.inl rfl, Or.inl rfl, Or.inr ⟨rfl, _, rfl⟩, Or.inl rfl, trivial⟩ h
  · have h := h.2 q
    refine z_aload hE rfl rfl rfl ?_
    refine z_getR hE (q := 32) rfl shk_30 rfl rfl rfl ?_
    refine z_aload hE rfl rfl rfl ?_
    refine z_getR hE (q := 31) rfl shk_30 rfl rfl rfl ?_
    refine z_iload hE rfl rfl ?_
    have hb := h.1
    have h := h.2
    refine z_iald hE rfl shk_31 hb ?_
    have hb := h.1
    have h := h.2
    refine z_iald hE rfl shk_32 hb ?_
    refine z_istore hE rfl rfl rfl ?_
    refine z_aload hE rfl rfl rfl ?_
    refine z_aload hE rfl rfl rfl ?_
    refine z_getR hE (q := 31) rfl shk_30 rfl rfl rfl ?_
    refine z_iload hE rfl rfl ?_
    have hb := h.1
    have h := h.2
    refine z_iald hE rfl shk_31 hb ?_
    refine z_aload hE rfl rfl rfl ?_
    refine z_getR hE (q := 31) rfl shk_30 rfl rfl rfl ?_
    refine z_iload hE rfl rfl ?_
    have hb := h.1
    have h := h.2
    refine z_iald hE rfl shk_31 hb ?_
    refine z_callvI hE rfl rfl rfl rfl rfl (Nat.le_of_ble_eq_true rfl) (by decide) ⟨rfl, rfl⟩ (EE_mono d _ _ _ _ _ (rI_mono fun r1 M1 h => ?_) h)
    refine z_if_eq hE rfl ⟨fun q => ?_, fun q => ?_⟩
    · have h := h.1 q
      have hb := h.1
      have h := h.2
      refine z_iinc hE rfl rfl rfl hb ?_
      refine z_goto hE rfl ?_
      exact GoG.weak hE (ls := [vR 30, vR 1, vI a2, vI a3, vI (a4 + 1), vU]) ⟨Or.inl rfl, Or.inl rfl, Or.inl rfl, Or.inl rfl, Or.inl rfl, Or.inr ⟨rfl, _, rfl⟩, trivial⟩ h
    · have h := h.2 q
      refine z_iload hE rfl rfl ?_
      refine z_iconst hE rfl ?_
      refine z_icmp_eq hE rfl ⟨fun q => ?_, fun q => ?_⟩
      · have h := h.1 q
        have hb := h.1
        have h := h.2
        refine z_iinc hE rfl rfl rfl hb ?_
        have hb := h.1
        have h := h.2
        refine z_iinc hE rfl rfl rfl hb ?_
        refine z_goto hE rfl ?_
        exact GoG.weak hE (ls := [vR 30, vR 1, vI (a2 + 1), vI a3, vI (a4 + 1), vU]) ⟨Or.inl rfl, Or.inl rfl, Or.inl rfl, Or.inl rfl, Or.inl rfl, Or.inr ⟨rfl, _, rfl⟩, trivial⟩ h
      · have h := h.2 q
        refine z_iload hE rfl rfl ?_
        refine z_aload hE rfl rfl rfl ?_
        refine z_getR hE (q := 32) rfl shk_30 rfl rfl rfl ?_
        refine z_aload hE rfl rfl rfl ?_
        refine z_getR hE (q := 31) rfl shk_30 rfl rfl rfl ?_
        refine z_iload hE rfl rfl ?_
        have hb := h.1
        have h := h.2
        refine z_iald hE rfl shk_31 hb ?_
        have hb := h.1
        have h := h.2
        refine z_iald hE rfl shk_32 hb ?_
        refine z_icmp_eq hE rfl ⟨fun q => ?_, fun q => ?_⟩
        · have h := h.1 q
          have hb := h.1
          have h := h.2
          refine z_iinc hE rfl rfl rfl hb ?_
          refine z_goto hE rfl ?_
          exact GoG.weak hE (ls := [vR 30, vR 1, vI a2, vI a3, vI (a4 + 1), vU]) ⟨Or.inl rfl, Or.inl rfl, Or.inl rfl, Or.inl rfl, Or.inl rfl, Or.inr ⟨rfl, _, rfl⟩, trivial⟩ h
        · have h := h.2 q
          have hb := h.1
          have h := h.2
          refine z_iinc hE rfl rfl rfl hb ?_
          have hb := h.1
          have h := h.2
          refine z_iinc hE rfl rfl rfl hb ?_
          refine z_goto hE rfl ?_
          exact GoG.weak hE (ls := [vR 30, vR 1, vI (a2 + 1), vI a3, vI (a4 + 1), vU]) ⟨Or.inl rfl, Or.inl rfl, Or.inl rfl, Or.inl rfl, Or.inl rfl, Or.inr ⟨rfl, _, rfl⟩, trivial⟩ h
/-! 68: ChildTrains$Houses.add(IIIII)I -/
theorem mN_68 : mN 68 = 6 := by decide +kernel
theorem ee_68 {d : Nat} {Q : Ql} {a1 : Int} {a2 : Int} {a3 : Int} {a4 : Int} {a5 : Int} {M : Mm} (h : GoG false (EE d) cd_68 Q 0 [vR 24, vI a1, vI a2, vI a3, vI a4, vI a5] [] M) : EE (d + 1) 68 [vR 24, vI a1, vI a2, vI a3, vI a4, vI a5] M Q := by
  have e : cdTab 68 = cd_68 := rfl
  unfold EE; rw [mN_68, e]; exact ⟨Nat.le_of_ble_eq_true rfl, h⟩
theorem sg_68 {d : Nat} {P : Int → Mm → Prop} {a1 : Int} {a2 : Int} {a3 : Int} {a4 : Int} {a5 : Int} {M : Mm} (h : (0 ≤ (M 24 5) ∧ (M 24 5) < 24) ∧ (0 ≤ (M 24 5) ∧ (M 24 5) < 24) ∧ (0 ≤ (M 24 5) ∧ (M 24 5) < 24) ∧ (0 ≤ (M 24 5) ∧ (M 24 5) < 24) ∧ (0 ≤ (M 24 5) ∧ (M 24 5) < 24) ∧ inI ((M 24 5) + 1) ∧ inI (((M 24 5) + 1) - 1) ∧ P (((M 24 5) + 1) - 1) (mset (mset (mset (mset (mset (mset M 25 (M 24 5) a1) 26 (M 24 5) a2) 27 (M 24 5) a3) 28 (M 24 5) a4) 29 (M 24 5) a5) 24 5 ((M 24 5) + 1))) : EE (d + 1) 68 [vR 24, vI a1, vI a2, vI a3, vI a4, vI a5] M (rI P) := by
  have hE := EE_mono d
  refine ee_68 ?_
  refine z_aload hE rfl rfl rfl ?_
  refine z_getR hE (q := 25) rfl shk_24 rfl rfl rfl ?_
  refine z_aload hE rfl rfl rfl ?_
  refine z_getI hE (sl := 5) rfl shk_24 rfl rfl rfl ?_
  refine z_iload hE rfl rfl ?_
  have hb := h.1
  have h := h.2
  refine z_iast hE rfl shk_25 hb ?_
  refine z_aload hE rfl rfl rfl ?_
  refine z_getR hE (q := 26) rfl shk_24 rfl rfl rfl ?_
  refine z_aload hE rfl rfl rfl ?_
  refine z_getI hE (sl := 5) rfl shk_24 rfl rfl rfl ?_
  refine z_iload hE rfl rfl ?_
  have hb := h.1
  have h := h.2
  refine z_iast hE rfl shk_26 hb ?_
  refine z_aload hE rfl rfl rfl ?_
  refine z_getR hE (q := 27) rfl shk_24 rfl rfl rfl ?_
  refine z_aload hE rfl rfl rfl ?_
  refine z_getI hE (sl := 5) rfl shk_24 rfl rfl rfl ?_
  refine z_iload hE rfl rfl ?_
  have hb := h.1
  have h := h.2
  refine z_iast hE rfl shk_27 hb ?_
  refine z_aload hE rfl rfl rfl ?_
  refine z_getR hE (q := 28) rfl shk_24 rfl rfl rfl ?_
  refine z_aload hE rfl rfl rfl ?_
  refine z_getI hE (sl := 5) rfl shk_24 rfl rfl rfl ?_
  refine z_iload hE rfl rfl ?_
  have hb := h.1
  have h := h.2
  refine z_iast hE rfl shk_28 hb ?_
  refine z_aload hE rfl rfl rfl ?_
  refine z_getR hE (q := 29) rfl shk_24 rfl rfl rfl ?_
  refine z_aload hE rfl rfl rfl ?_
  refine z_getI hE (sl := 5) rfl shk_24 rfl rfl rfl ?_
  refine z_iload hE rfl rfl ?_
  have hb := h.1
  have h := h.2
  refine z_iast hE rfl shk_29 hb ?_
  refine z_aload hE rfl rfl rfl ?_
  refine z_dup hE rfl rfl ?_
  refine z_getI hE (sl := 5) rfl shk_24 rfl rfl rfl ?_
  refine z_iconst hE rfl ?_
  have hb := h.1
  have h := h.2
  refine z_iadd hE rfl hb ?_
  refine z_putI hE (sl := 5) rfl shk_24 rfl rfl rfl ?_
  refine z_aload hE rfl rfl rfl ?_
  refine z_getI hE (sl := 5) rfl shk_24 rfl rfl rfl ?_
  refine z_iconst hE rfl ?_
  have hb := h.1
  have h := h.2
  refine z_isub hE rfl hb ?_
  exact z_iret hE rfl rfl h
