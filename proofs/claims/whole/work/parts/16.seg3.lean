/-! SEGMENTS, printed by gen16.py -/
/-! 141: ChildTrainsModel.isChild(I)Z -/
theorem mN_141 : mN 141 = 2 := by decide +kernel
theorem ee_141 {d : Nat} {Q : Ql} {a1 : Int} {M : Mm} (h : GoG false (EE d) cd_141 Q 0 [vR 76, vI a1] [] M) : EE (d + 1) 141 [vR 76, vI a1] M Q := by
  have e : cdTab 141 = cd_141 := rfl
  unfold EE; rw [mN_141, e]; exact ⟨Nat.le_of_ble_eq_true rfl, h⟩
theorem sg_141 {d : Nat} {P : Int → Mm → Prop} {a1 : Int} {M : Mm} (h : inI ((M 76 2) - 1) ∧ EE d 140 [vI a1, vI 0, vI ((M 76 2) - 1)] M (rI fun r1 M1 => (r1 = 0 ∨ r1 = 1) ∧ P r1 M1)) : EE (d + 1) 141 [vR 76, vI a1] M (rI P) := by
  have hE := EE_mono d
  refine ee_141 ?_
  refine z_iload hE rfl rfl ?_
  refine z_iconst hE rfl ?_
  refine z_aload hE rfl rfl rfl ?_
  refine z_getI hE (sl := 2) rfl shk_76 rfl rfl rfl ?_
  refine z_iconst hE rfl ?_
  have hb := h.1
  have h := h.2
  refine z_isub hE rfl hb ?_
  refine z_callsI hE rfl rfl rfl rfl rfl (Nat.le_of_ble_eq_true rfl) (by decide) (EE_mono d _ _ _ _ _ (rI_mono fun r1 M1 h => ?_) h)
  have hb := h.1
  have h := h.2
  exact z_zret hE rfl rfl hb h
/-! 142: ChildTrainsModel.boards()V -/
def H_142_2 (d : Nat) (P : Mm → Prop) (a1 : Int) (M : Mm) : Prop := GoG false (EE d) cd_142 (rV P) 2 [vR 76, vI a1, vU, vU, vU, vU, vU, vU, vU] [] M
def H_142_32 (d : Nat) (P : Mm → Prop) (a1 : Int) (M : Mm) : Prop := GoG false (EE d) cd_142 (rV P) 32 [vR 76, vI a1, vU, vU, vU, vU, vU, vU, vU] [] M
def H_142_55 (d : Nat) (P : Mm → Prop) (a1 : Int) (a2 : Int) (M : Mm) : Prop := GoG false (EE d) cd_142 (rV P) 55 [vR 76, vI a1, vI a2, vU, vU, vU, vU, vU, vU] [] M
def H_142_64 (d : Nat) (P : Mm → Prop) (a1 : Int) (a2 : Int) (a3 : Int) (M : Mm) : Prop := GoG false (EE d) cd_142 (rV P) 64 [vR 76, vI a1, vI a2, vI a3, vU, vU, vU, vU, vU] [] M
def H_142_73 (d : Nat) (P : Mm → Prop) (a1 : Int) (a2 : Int) (a3 : Int) (a4 : Int) (M : Mm) : Prop := GoG false (EE d) cd_142 (rV P) 73 [vR 76, vI a1, vI a2, vI a3, vI a4, vU, vU, vU, vU] [] M
def H_142_132 (d : Nat) (P : Mm → Prop) (a1 : Int) (a2 : Int) (a3 : Int) (M : Mm) : Prop := GoG false (EE d) cd_142 (rV P) 132 [vR 76, vI a1, vI a2, vI a3, vU, vU, vU, vU, vU] [] M
def H_142_168 (d : Nat) (P : Mm → Prop) (a1 : Int) (a2 : Int) (a3 : Int) (M : Mm) : Prop := GoG false (EE d) cd_142 (rV P) 168 [vR 76, vI a1, vI a2, vI a3, vU, vU, vU, vU, vU] [] M
def H_142_169 (d : Nat) (P : Mm → Prop) (a1 : Int) (a2 : Int) (a3 : Int) (s0 : Int) (M : Mm) : Prop := GoG false (EE d) cd_142 (rV P) 169 [vR 76, vI a1, vI a2, vI a3, vU, vU, vU, vU, vU] [vI s0] M
def H_142_212 (d : Nat) (P : Mm → Prop) (a1 : Int) (a2 : Int) (a3 : Int) (a4 : Int) (a5 : Int) (a6 : Int) (M : Mm) : Prop := GoG false (EE d) cd_142 (rV P) 212 [vR 76, vI a1, vI a2, vI a3, vI a4, vI a5, vI a6, vU, vU] [] M
def H_142_254 (d : Nat) (P : Mm → Prop) (a1 : Int) (a2 : Int) (a3 : Int) (a4 : Int) (a5 : Int) (a6 : Int) (a7 : Int) (M : Mm) : Prop := GoG false (EE d) cd_142 (rV P) 254 [vR 76, vI a1, vI a2, vI a3, vI a4, vI a5, vI a6, vI a7, vU] [] M
def H_142_286 (d : Nat) (P : Mm → Prop) (a1 : Int) (a2 : Int) (a3 : Int) (a4 : Int) (a5 : Int) (a6 : Int) (a7 : Int) (M : Mm) : Prop := GoG false (EE d) cd_142 (rV P) 286 [vR 76, vI a1, vI a2, vI a3, vI a4, vI a5, vI a6, vI a7, vU] [] M
def H_142_335 (d : Nat) (P : Mm → Prop) (a1 : Int) (a2 : Int) (a3 : Int) (a4 : Int) (a5 : Int) (a6 : Int) (a8 : Int) (M : Mm) : Prop := GoG false (EE d) cd_142 (rV P) 335 [vR 76, vI a1, vI a2, vI a3, vI a4, vI a5, vI a6, vU, vI a8] [] M
theorem mN_142 : mN 142 = 9 := by decide +kernel
theorem ee_142 {d : Nat} {Q : Ql} {M : Mm} (h : GoG false (EE d) cd_142 Q 0 [vR 76, vU, vU, vU, vU, vU, vU, vU, vU] [] M) : EE (d + 1) 142 [vR 76] M Q := by
  have e : cdTab 142 = cd_142 := rfl
  unfold EE; rw [mN_142, e]; exact ⟨Nat.le_of_ble_eq_true rfl, h⟩
theorem sg_142 {d : Nat} {P : Mm → Prop} {M : Mm} (h : H_142_2 d P 0 M) : EE (d + 1) 142 [vR 76] M (rV P) := by
  have hE := EE_mono d
  refine ee_142 ?_
  refine z_iconst hE rfl ?_
  refine z_istore hE rfl rfl rfl ?_
  exact h
theorem sg_142_2 {d : Nat} {P : Mm → Prop} {a1 : Int} {M : Mm} (h : ((48 ≤ a1 → H_142_32 d P 0 M) ∧ (a1 < 48 → (0 ≤ a1 ∧ a1 < 48) ∧ (0 ≤ a1 ∧ a1 < 48) ∧ inI (a1 + 1) ∧ H_142_2 d P (a1 + 1) (mset (mset M 85 a1 (-9)) 86 a1 (-9))))) : H_142_2 d P a1 M := by
  have hE := EE_mono d
  unfold H_142_2
  refine z_iload hE rfl rfl ?_
  refine z_iconst hE rfl ?_
  refine z_icmp_ge hE rfl ⟨fun q => ?_, fun q => ?_⟩
  · have h := h.1 q
    refine z_iconst hE rfl ?_
    refine z_istore hE rfl rfl rfl ?_
    exact h
  · have h := h.2 q
    refine z_aload hE rfl rfl rfl ?_
    refine z_getR hE (q := 85) rfl shk_76 rfl rfl rfl ?_
    refine z_iload hE rfl rfl ?_
    refine z_iconst hE rfl ?_
    have hb := h.1
    have h := h.2
    refine z_iast hE rfl shk_85 hb ?_
    refine z_aload hE rfl rfl rfl ?_
    refine z_getR hE (q := 86) rfl shk_76 rfl rfl rfl ?_
    refine z_iload hE rfl rfl ?_
    refine z_iconst hE rfl ?_
    have hb := h.1
    have h := h.2
    refine z_iast hE rfl shk_86 hb ?_
    have hb := h.1
    have h := h.2
    refine z_iinc hE rfl rfl rfl hb ?_
    refine z_goto hE rfl ?_
    exact h
theorem sg_142_32 {d : Nat} {P : Mm → Prop} {a1 : Int} {M : Mm} (h : ((6 ≤ a1 → H_142_55 d P 0 0 M) ∧ (a1 < 6 → (0 ≤ a1 ∧ a1 < 6) ∧ inI (a1 + 1) ∧ H_142_32 d P (a1 + 1) (mset M 87 a1 0)))) : H_142_32 d P a1 M := by
  have hE := EE_mono d
  unfold H_142_32
  refine z_iload hE rfl rfl ?_
  refine z_iconst hE rfl ?_
  refine z_icmp_ge hE rfl ⟨fun q => ?_, fun q => ?_⟩
  · have h := h.1 q
    refine z_iconst hE rfl ?_
    refine z_istore hE rfl rfl rfl ?_
    refine z_iconst hE rfl ?_
    refine z_istore hE rfl rfl rfl ?_
    exact h
  · have h := h.2 q
    refine z_aload hE rfl rfl rfl ?_
    refine z_getR hE (q := 87) rfl shk_76 rfl rfl rfl ?_
    refine z_iload hE rfl rfl ?_
    refine z_iconst hE rfl ?_
    have hb := h.1
    have h := h.2
    refine z_iast hE rfl shk_87 hb ?_
    have hb := h.1
    have h := h.2
    refine z_iinc hE rfl rfl rfl hb ?_
    refine z_goto hE rfl ?_
    exact h
theorem sg_142_55 {d : Nat} {P : Mm → Prop} {a1 : Int} {a2 : Int} {M : Mm} (h : ((300 < a2 → P M) ∧ (a2 ≤ 300 → H_142_64 d P a1 a2 0 M))) : H_142_55 d P a1 a2 M := by
  have hE := EE_mono d
  unfold H_142_55
  refine z_iload hE rfl rfl ?_
  refine z_iconst hE rfl ?_
  refine z_icmp_gt hE rfl ⟨fun q => ?_, fun q => ?_⟩
  · have h := h.1 q
    exact z_vret hE rfl h
  · have h := h.2 q
    refine z_iconst hE rfl ?_
    refine z_istore hE rfl rfl rfl ?_
    exact h
theorem sg_142_64 {d : Nat} {P : Mm → Prop} {a1 : Int} {a2 : Int} {a3 : Int} {M : Mm} (h : ((8 ≤ a3 → H_142_132 d P a1 a2 0 M) ∧ (a3 < 8 → H_142_73 d P a1 a2 a3 0 M))) : H_142_64 d P a1 a2 a3 M := by
  have hE := EE_mono d
  unfold H_142_64
  refine z_iload hE rfl rfl ?_
  refine z_iconst hE rfl ?_
  refine z_icmp_ge hE rfl ⟨fun q => ?_, fun q => ?_⟩
  · have h := h.1 q
    refine z_iconst hE rfl ?_
    refine z_istore hE rfl rfl rfl ?_
    exact h
  · have h := h.2 q
    refine z_iconst hE rfl ?_
    refine z_istore hE rfl rfl rfl ?_
    exact h
theorem sg_142_73 {d : Nat} {P : Mm → Prop} {a1 : Int} {a2 : Int} {a3 : Int} {a4 : Int} {M : Mm} (h : (((M 76 2) ≤ a4 → inI (a3 + 1) ∧ H_142_64 d P a1 a2 (a3 + 1) M) ∧ (a4 < (M 76 2) → inI (2 * a3) ∧ inI ((2 * a3) + 1) ∧ (0 ≤ ((2 * a3) + 1) ∧ ((2 * a3) + 1) < 16) ∧ ((¬ (M 83 ((2 * a3) + 1)) = a2 → inI (a3 + 1) ∧ H_142_64 d P a1 a2 (a3 + 1) M) ∧ ((M 83 ((2 * a3) + 1)) = a2 → (0 ≤ a4 ∧ a4 < 48) ∧ ((¬ (M 80 a4) = a3 → inI (a4 + 1) ∧ H_142_73 d P a1 a2 a3 (a4 + 1) M) ∧ ((M 80 a4) = a3 → (0 ≤ a1 ∧ a1 < 48) ∧ inI (a1 + 1) ∧ inI (a4 + 1) ∧ H_142_73 d P (a1 + 1) a2 a3 (a4 + 1) (mset M 88 a1 a4)))))))) : H_142_73 d P a1 a2 a3 a4 M := by
  have hE := EE_mono d
  unfold H_142_73
  refine z_iload hE rfl rfl ?_
  refine z_aload hE rfl rfl rfl ?_
  refine z_getI hE (sl := 2) rfl shk_76 rfl rfl rfl ?_
  refine z_icmp_ge hE rfl ⟨fun q => ?_, fun q => ?_⟩
  · have h := h.1 q
    have hb := h.1
    have h := h.2
    refine z_iinc hE rfl rfl rfl hb ?_
    refine z_goto hE rfl ?_
    exact GoG.weak hE (ls := [vR 76, vI a1, vI a2, vI (a3 + 1), vU, vU, vU, vU, vU]) ⟨Or.inl rfl, Or.inl rfl, Or.inl rfl, Or.inl rfl, Or.inr ⟨rfl, _, rfl⟩, Or.inl rfl, Or.inl rfl, Or.inl rfl, Or.inl rfl, trivial⟩ h
  · have h := h.2 q
    refine z_aload hE rfl rfl rfl ?_
    refine z_getR hE (q := 83) rfl shk_76 rfl rfl rfl ?_
    refine z_iconst hE rfl ?_
    refine z_iload hE rfl rfl ?_
    have hb := h.1
    have h := h.2
    refine z_imul hE rfl hb ?_
    refine z_iconst hE rfl ?_
    have hb := h.1
    have h := h.2
    refine z_iadd hE rfl hb ?_
    have hb := h.1
    have h := h.2
    refine z_iald hE rfl shk_83 hb ?_
    refine z_iload hE rfl rfl ?_
    refine z_icmp_ne hE rfl ⟨fun q => ?_, fun q => ?_⟩
    · have h := h.1 q
      have hb := h.1
      have h := h.2
      refine z_iinc hE rfl rfl rfl hb ?_
      refine z_goto hE rfl ?_
      exact GoG.weak hE (ls := [vR 76, vI a1, vI a2, vI (a3 + 1), vU, vU, vU, vU, vU]) ⟨Or.inl rfl, Or.inl rfl, Or.inl rfl, Or.inl rfl, Or.inr ⟨rfl, _, rfl⟩, Or.inl rfl, Or.inl rfl, Or.inl rfl, Or.inl rfl, trivial⟩ h
    · have h := h.2 q
      refine z_aload hE rfl rfl rfl ?_
      refine z_getR hE (q := 80) rfl shk_76 rfl rfl rfl ?_
      refine z_iload hE rfl rfl ?_
      have hb := h.1
      have h := h.2
      refine z_iald hE rfl shk_80 hb ?_
      refine z_iload hE rfl rfl ?_
      refine z_icmp_ne hE rfl ⟨fun q => ?_, fun q => ?_⟩
      · have h := h.1 q
        have hb := h.1
        have h := h.2
        refine z_iinc hE rfl rfl rfl hb ?_
        refine z_goto hE rfl ?_
        exact h
      · have h := h.2 q
        refine z_aload hE rfl rfl rfl ?_
        refine z_getR hE (q := 88) rfl shk_76 rfl rfl rfl ?_
        refine z_iload hE rfl rfl ?_
        refine z_iload hE rfl rfl ?_
        have hb := h.1
        have h := h.2
        refine z_iast hE rfl shk_88 hb ?_
        have hb := h.1
        have h := h.2
        refine z_iinc hE rfl rfl rfl hb ?_
        have hb := h.1
        have h := h.2
        refine z_iinc hE rfl rfl rfl hb ?_
        refine z_goto hE rfl ?_
        exact h
theorem sg_142_132 {d : Nat} {P : Mm → Prop} {a1 : Int} {a2 : Int} {a3 : Int} {M : Mm} (h : ((6 ≤ a3 → inI (a2 + 1) ∧ H_142_55 d P a1 (a2 + 1) M) ∧ (a3 < 6 → inI (5 * a3) ∧ (0 ≤ (5 * a3) ∧ (5 * a3) < 30) ∧ ((a2 < (M 84 (5 * a3)) → H_142_168 d P a1 a2 a3 M) ∧ ((M 84 (5 * a3)) ≤ a2 → inI (5 * a3) ∧ inI ((5 * a3) + 1) ∧ (0 ≤ ((5 * a3) + 1) ∧ ((5 * a3) + 1) < 30) ∧ (((M 84 ((5 * a3) + 1)) ≤ a2 → H_142_168 d P a1 a2 a3 M) ∧ (a2 < (M 84 ((5 * a3) + 1)) → H_142_169 d P a1 a2 a3 1 M))))))) : H_142_132 d P a1 a2 a3 M := by
  have hE := EE_mono d
  unfold H_142_132
  refine z_iload hE rfl rfl ?_
  refine z_iconst hE rfl ?_
  refine z_icmp_ge hE rfl ⟨fun q => ?_, fun q => ?_⟩
  · have h := h.1 q
    have hb := h.1
    have h := h.2
    refine z_iinc hE rfl rfl rfl hb ?_
    refine z_goto hE rfl ?_
    exact GoG.weak hE (ls := [vR 76, vI a1, vI (a2 + 1), vU, vU, vU, vU, vU, vU]) ⟨Or.inl rfl, Or.inl rfl, Or.inl rfl, Or.inr ⟨rfl, _, rfl⟩, Or.inl rfl, Or.inl rfl, Or.inl rfl, Or.inl rfl, Or.inl rfl, trivial⟩ h
  · have h := h.2 q
    refine z_iload hE rfl rfl ?_
    refine z_aload hE rfl rfl rfl ?_
    refine z_getR hE (q := 84) rfl shk_76 rfl rfl rfl ?_
    refine z_iconst hE rfl ?_
    refine z_iload hE rfl rfl ?_
    have hb := h.1
    have h := h.2
    refine z_imul hE rfl hb ?_
    have hb := h.1
    have h := h.2
    refine z_iald hE rfl shk_84 hb ?_
    refine z_icmp_lt hE rfl ⟨fun q => ?_, fun q => ?_⟩
    · have h := h.1 q
      exact h
    · have h := h.2 q
      refine z_iload hE rfl rfl ?_
      refine z_aload hE rfl rfl rfl ?_
      refine z_getR hE (q := 84) rfl shk_76 rfl rfl rfl ?_
      refine z_iconst hE rfl ?_
      refine z_iload hE rfl rfl ?_
      have hb := h.1
      have h := h.2
      refine z_imul hE rfl hb ?_
      refine z_iconst hE rfl ?_
      have hb := h.1
      have h := h.2
      refine z_iadd hE rfl hb ?_
      have hb := h.1
      have h := h.2
      refine z_iald hE rfl shk_84 hb ?_
      refine z_icmp_ge hE rfl ⟨fun q => ?_, fun q => ?_⟩
      · have h := h.1 q
        exact h
      · have h := h.2 q
        refine z_iconst hE rfl ?_
        refine z_goto hE rfl ?_
        exact h
theorem sg_142_168 {d : Nat} {P : Mm → Prop} {a1 : Int} {a2 : Int} {a3 : Int} {M : Mm} (h : H_142_169 d P a1 a2 a3 0 M) : H_142_168 d P a1 a2 a3 M := by
  have hE := EE_mono d
  unfold H_142_168
  refine z_iconst hE rfl ?_
  exact h
theorem sg_142_169 {d : Nat} {P : Mm → Prop} {a1 : Int} {a2 : Int} {a3 : Int} {s0 : Int} {M : Mm} (h : (((M 76 11) = 0 → H_142_212 d P a1 a2 a3 s0 1 0 M) ∧ (¬ (M 76 11) = 0 → ((¬ (M 76 11) = 2 → H_142_212 d P a1 a2 a3 s0 0 0 M) ∧ ((M 76 11) = 2 → inI (5 * a3) ∧ inI ((5 * a3) + 1) ∧ (0 ≤ ((5 * a3) + 1) ∧ ((5 * a3) + 1) < 30) ∧ inI ((M 84 ((5 * a3) + 1)) - 5) ∧ ((a2 < ((M 84 ((5 * a3) + 1)) - 5) → H_142_212 d P a1 a2 a3 s0 0 0 M) ∧ (((M 84 ((5 * a3) + 1)) - 5) ≤ a2 → H_142_212 d P a1 a2 a3 s0 1 0 M))))))) : H_142_169 d P a1 a2 a3 s0 M := by
  have hE := EE_mono d
  unfold H_142_169
  refine z_istore hE rfl rfl rfl ?_
  refine z_aload hE rfl rfl rfl ?_
  refine z_getI hE (sl := 11) rfl shk_76 rfl rfl rfl ?_
  refine z_if_eq hE rfl ⟨fun q => ?_, fun q => ?_⟩
  · have h := h.1 q
    refine z_iconst hE rfl ?_
    refine z_goto hE rfl ?_
    refine z_istore hE rfl rfl rfl ?_
    refine z_iconst hE rfl ?_
    refine z_istore hE rfl rfl rfl ?_
    exact h
  · have h := h.2 q
    refine z_aload hE rfl rfl rfl ?_
    refine z_getI hE (sl := 11) rfl shk_76 rfl rfl rfl ?_
    refine z_iconst hE rfl ?_
    refine z_icmp_ne hE rfl ⟨fun q => ?_, fun q => ?_⟩
    · have h := h.1 q
      refine z_iconst hE rfl ?_
      refine z_istore hE rfl rfl rfl ?_
      refine z_iconst hE rfl ?_
      refine z_istore hE rfl rfl rfl ?_
      exact h
    · have h := h.2 q
      refine z_iload hE rfl rfl ?_
      refine z_aload hE rfl rfl rfl ?_
      refine z_getR hE (q := 84) rfl shk_76 rfl rfl rfl ?_
      refine z_iconst hE rfl ?_
      refine z_iload hE rfl rfl ?_
      have hb := h.1
      have h := h.2
      refine z_imul hE rfl hb ?_
      refine z_iconst hE rfl ?_
      have hb := h.1
      have h := h.2
      refine z_iadd hE rfl hb ?_
      have hb := h.1
      have h := h.2
      refine z_iald hE rfl shk_84 hb ?_
      refine z_iconst hE rfl ?_
      have hb := h.1
      have h := h.2
      refine z_isub hE rfl hb ?_
      refine z_icmp_lt hE rfl ⟨fun q => ?_, fun q => ?_⟩
      · have h := h.1 q
        refine z_iconst hE rfl ?_
        refine z_istore hE rfl rfl rfl ?_
        refine z_iconst hE rfl ?_
        refine z_istore hE rfl rfl rfl ?_
        exact h
      · have h := h.2 q
        refine z_iconst hE rfl ?_
        refine z_goto hE rfl ?_
        refine z_istore hE rfl rfl rfl ?_
        refine z_iconst hE rfl ?_
        refine z_istore hE rfl rfl rfl ?_
        exact h
theorem sg_142_212 {d : Nat} {P : Mm → Prop} {a1 : Int} {a2 : Int} {a3 : Int} {a4 : Int} {a5 : Int} {a6 : Int} {M : Mm} (h : inI (5 * a3) ∧ inI ((5 * a3) + 3) ∧ (0 ≤ ((5 * a3) + 3) ∧ ((5 * a3) + 3) < 30) ∧ (((M 84 ((5 * a3) + 3)) ≤ a6 → inI (a3 + 1) ∧ H_142_132 d P a1 a2 (a3 + 1) M) ∧ (a6 < (M 84 ((5 * a3) + 3)) → ((a4 = 0 → inI (a3 + 1) ∧ H_142_132 d P a1 a2 (a3 + 1) M) ∧ (¬ a4 = 0 → (0 ≤ a3 ∧ a3 < 6) ∧ inI (5 * a3) ∧ inI ((5 * a3) + 2) ∧ (0 ≤ ((5 * a3) + 2) ∧ ((5 * a3) + 2) < 30) ∧ (((M 84 ((5 * a3) + 2)) ≤ (M 87 a3) → inI (a3 + 1) ∧ H_142_132 d P a1 a2 (a3 + 1) M) ∧ ((M 87 a3) < (M 84 ((5 * a3) + 2)) → H_142_254 d P a1 a2 a3 a4 a5 a6 0 M))))))) : H_142_212 d P a1 a2 a3 a4 a5 a6 M := by
  have hE := EE_mono d
  unfold H_142_212
  refine z_iload hE rfl rfl ?_
  refine z_aload hE rfl rfl rfl ?_
  refine z_getR hE (q := 84) rfl shk_76 rfl rfl rfl ?_
  refine z_iconst hE rfl ?_
  refine z_iload hE rfl rfl ?_
  have hb := h.1
  have h := h.2
  refine z_imul hE rfl hb ?_
  refine z_iconst hE rfl ?_
  have hb := h.1
  have h := h.2
  refine z_iadd hE rfl hb ?_
  have hb := h.1
  have h := h.2
  refine z_iald hE rfl shk_84 hb ?_
  refine z_icmp_ge hE rfl ⟨fun q => ?_, fun q => ?_⟩
  · have h := h.1 q
    have hb := h.1
    have h := h.2
    refine z_iinc hE rfl rfl rfl hb ?_
    refine z_goto hE rfl ?_
    exact GoG.weak hE (ls := [vR 76, vI a1, vI a2, vI (a3 + 1), vU, vU, vU, vU, vU]) ⟨Or.inl rfl, Or.inl rfl, Or.inl rfl, Or.inl rfl, Or.inr ⟨rfl, _, rfl⟩, Or.inr ⟨rfl, _, rfl⟩, Or.inr ⟨rfl, _, rfl⟩, Or.inl rfl, Or.inl rfl, trivial⟩ h
  · have h := h.2 q
    refine z_iload hE rfl rfl ?_
    refine z_if_eq hE rfl ⟨fun q => ?_, fun q => ?_⟩
    · have h := h.1 q
      have hb := h.1
      have h := h.2
      refine z_iinc hE rfl rfl rfl hb ?_
      refine z_goto hE rfl ?_
      exact GoG.weak hE (ls := [vR 76, vI a1, vI a2, vI (a3 + 1), vU, vU, vU, vU, vU]) ⟨Or.inl rfl, Or.inl rfl, Or.inl rfl, Or.inl rfl, Or.inr ⟨rfl, _, rfl⟩, Or.inr ⟨rfl, _, rfl⟩, Or.inr ⟨rfl, _, rfl⟩, Or.inl rfl, Or.inl rfl, trivial⟩ h
    · have h := h.2 q
      refine z_aload hE rfl rfl rfl ?_
      refine z_getR hE (q := 87) rfl shk_76 rfl rfl rfl ?_
      refine z_iload hE rfl rfl ?_
      have hb := h.1
      have h := h.2
      refine z_iald hE rfl shk_87 hb ?_
      refine z_aload hE rfl rfl rfl ?_
      refine z_getR hE (q := 84) rfl shk_76 rfl rfl rfl ?_
      refine z_iconst hE rfl ?_
      refine z_iload hE rfl rfl ?_
      have hb := h.1
      have h := h.2
      refine z_imul hE rfl hb ?_
      refine z_iconst hE rfl ?_
      have hb := h.1
      have h := h.2
      refine z_iadd hE rfl hb ?_
      have hb := h.1
      have h := h.2
      refine z_iald hE rfl shk_84 hb ?_
      refine z_icmp_ge hE rfl ⟨fun q => ?_, fun q => ?_⟩
      · have h := h.1 q
        have hb := h.1
        have h := h.2
        refine z_iinc hE rfl rfl rfl hb ?_
        refine z_goto hE rfl ?_
        exact GoG.weak hE (ls := [vR 76, vI a1, vI a2, vI (a3 + 1), vU, vU, vU, vU, vU]) ⟨Or.inl rfl, Or.inl rfl, Or.inl rfl, Or.inl rfl, Or.inr ⟨rfl, _, rfl⟩, Or.inr ⟨rfl, _, rfl⟩, Or.inr ⟨rfl, _, rfl⟩, Or.inl rfl, Or.inl rfl, trivial⟩ h
      · have h := h.2 q
        refine z_iconst hE rfl ?_
        refine z_istore hE rfl rfl rfl ?_
        exact h
theorem sg_142_254 {d : Nat} {P : Mm → Prop} {a1 : Int} {a2 : Int} {a3 : Int} {a4 : Int} {a5 : Int} {a6 : Int} {a7 : Int} {M : Mm} (h : ((a1 ≤ a7 → H_142_286 d P a1 a2 a3 a4 a5 a6 a7 M) ∧ (a7 < a1 → ((¬ a5 = 0 → H_142_286 d P a1 a2 a3 a4 a5 a6 a7 M) ∧ (a5 = 0 → (0 ≤ a7 ∧ a7 < 48) ∧ EE d 143 [vR 76, vI (M 88 a7)] M (rI fun r1 M1 => ((r1 = a3 → H_142_286 d P a1 a2 a3 a4 a5 a6 a7 M1) ∧ (¬ r1 = a3 → inI (a7 + 1) ∧ H_142_254 d P a1 a2 a3 a4 a5 a6 (a7 + 1) M1)))))))) : H_142_254 d P a1 a2 a3 a4 a5 a6 a7 M := by
  have hE := EE_mono d
  unfold H_142_254
  refine z_iload hE rfl rfl ?_
  refine z_iload hE rfl rfl ?_
  refine z_icmp_ge hE rfl ⟨fun q => ?_, fun q => ?_⟩
  · have h := h.1 q
    exact h
  · have h := h.2 q
    refine z_iload hE rfl rfl ?_
    refine z_if_ne hE rfl ⟨fun q => ?_, fun q => ?_⟩
    · have h := h.1 q
      exact h
    · have h := h.2 q
      refine z_aload hE rfl rfl rfl ?_
      refine z_aload hE rfl rfl rfl ?_
      refine z_getR hE (q := 88) rfl shk_76 rfl rfl rfl ?_
      refine z_iload hE rfl rfl ?_
      have hb := h.1
      have h := h.2
      refine z_iald hE rfl shk_88 hb ?_
      refine z_callvI hE rfl rfl rfl rfl rfl (Nat.le_of_ble_eq_true rfl) (by decide) ⟨rfl, rfl⟩ (EE_mono d _ _ _ _ _ (rI_mono fun r1 M1 h => ?_) h)
      refine z_iload hE rfl rfl ?_
      refine z_icmp_eq hE rfl ⟨fun q => ?_, fun q => ?_⟩
      · have h := h.1 q
        exact h
      · have h := h.2 q
        have hb := h.1
        have h := h.2
        refine z_iinc hE rfl rfl rfl hb ?_
        refine z_goto hE rfl ?_
        exact h
theorem sg_142_286 {d : Nat} {P : Mm → Prop} {a1 : Int} {a2 : Int} {a3 : Int} {a4 : Int} {a5 : Int} {a6 : Int} {a7 : Int} {M : Mm} (h : ((a1 ≤ a7 → inI (a6 + 1) ∧ H_142_212 d P a1 a2 a3 a4 a5 (a6 + 1) M) ∧ (a7 < a1 → (0 ≤ a7 ∧ a7 < 48) ∧ (0 ≤ (M 88 a7) ∧ (M 88 a7) < 48) ∧ (0 ≤ a7 ∧ a7 < 48) ∧ (0 ≤ (M 88 a7) ∧ (M 88 a7) < 48) ∧ (0 ≤ a3 ∧ a3 < 6) ∧ inI ((M 87 a3) + 1) ∧ (0 ≤ a3 ∧ a3 < 6) ∧ inI (a1 + -1) ∧ H_142_335 d P (a1 + -1) a2 a3 a4 a5 a6 a7 (mset (mset (mset M 85 (M 88 a7) a3) 86 (M 88 a7) a2) 87 a3 ((M 87 a3) + 1))))) : H_142_286 d P a1 a2 a3 a4 a5 a6 a7 M := by
  have hE := EE_mono d
  unfold H_142_286
  refine z_iload hE rfl rfl ?_
  refine z_iload hE rfl rfl ?_
  refine z_icmp_ge hE rfl ⟨fun q => ?_, fun q => ?_⟩
  · have h := h.1 q
    have hb := h.1
    have h := h.2
    refine z_iinc hE rfl rfl rfl hb ?_
    refine z_goto hE rfl ?_
    exact GoG.weak hE (ls := [vR 76, vI a1, vI a2, vI a3, vI a4, vI a5, vI (a6 + 1), vU, vU]) ⟨Or.inl rfl, Or.inl rfl, Or.inl rfl, Or.inl rfl, Or.inl rfl, Or.inl rfl, Or.inl rfl, Or.inr ⟨rfl, _, rfl⟩, Or.inl rfl, trivial⟩ h
  · have h := h.2 q
    refine z_aload hE rfl rfl rfl ?_
    refine z_getR hE (q := 85) rfl shk_76 rfl rfl rfl ?_
    refine z_aload hE rfl rfl rfl ?_
    refine z_getR hE (q := 88) rfl shk_76 rfl rfl rfl ?_
    refine z_iload hE rfl rfl ?_
    have hb := h.1
    have h := h.2
    refine z_iald hE rfl shk_88 hb ?_
    refine z_iload hE rfl rfl ?_
    have hb := h.1
    have h := h.2
    refine z_iast hE rfl shk_85 hb ?_
    refine z_aload hE rfl rfl rfl ?_
    refine z_getR hE (q := 86) rfl shk_76 rfl rfl rfl ?_
    refine z_aload hE rfl rfl rfl ?_
    refine z_getR hE (q := 88) rfl shk_76 rfl rfl rfl ?_
    refine z_iload hE rfl rfl ?_
    have hb := h.1
    have h := h.2
    refine z_iald hE rfl shk_88 hb ?_
    refine z_iload hE rfl rfl ?_
    have hb := h.1
    have h := h.2
    refine z_iast hE rfl shk_86 hb ?_
    refine z_aload hE rfl rfl rfl ?_
    refine z_getR hE (q := 87) rfl shk_76 rfl rfl rfl ?_
    refine z_iload hE rfl rfl ?_
    refine z_dup2 hE rfl rfl rfl ?_
    have hb := h.1
    have h := h.2
    refine z_iald hE rfl shk_87 hb ?_
    refine z_iconst hE rfl ?_
    have hb := h.1
    have h := h.2
    refine z_iadd hE rfl hb ?_
    have hb := h.1
    have h := h.2
    refine z_iast hE rfl shk_87 hb ?_
    have hb := h.1
    have h := h.2
    refine z_iinc hE rfl rfl rfl hb ?_
    refine z_iload hE rfl rfl ?_
    refine z_istore hE rfl rfl rfl ?_
    exact GoG.weak hE (ls := [vR 76, vI (a1 + -1), vI a2, vI a3, vI a4, vI a5, vI a6, vU, vI a7]) ⟨Or.inl rfl, Or.inl rfl, Or.inl rfl, Or.inl rfl, Or.inl rfl, Or.inl rfl, Or.inl rfl, Or.inr ⟨rfl, _, rfl⟩, Or.inl rfl, trivial⟩ h
theorem sg_142_335 {d : Nat} {P : Mm → Prop} {a1 : Int} {a2 : Int} {a3 : Int} {a4 : Int} {a5 : Int} {a6 : Int} {a8 : Int} {M : Mm} (h : ((a1 ≤ a8 → inI (a6 + 1) ∧ H_142_212 d P a1 a2 a3 a4 a5 (a6 + 1) M) ∧ (a8 < a1 → inI (a8 + 1) ∧ (0 ≤ (a8 + 1) ∧ (a8 + 1) < 48) ∧ (0 ≤ a8 ∧ a8 < 48) ∧ inI (a8 + 1) ∧ H_142_335 d P a1 a2 a3 a4 a5 a6 (a8 + 1) (mset M 88 a8 (M 88 (a8 + 1)))))) : H_142_335 d P a1 a2 a3 a4 a5 a6 a8 M := by
  have hE := EE_mono d
  unfold H_142_335
  refine z_iload hE rfl rfl ?_
  refine z_iload hE rfl rfl ?_
  refine z_icmp_ge hE rfl ⟨fun q => ?_, fun q => ?_⟩
  · have h := h.1 q
    have hb := h.1
    have h := h.2
    refine z_iinc hE rfl rfl rfl hb ?_
    refine z_goto hE rfl ?_
    exact GoG.weak hE (ls := [vR 76, vI a1, vI a2, vI a3, vI a4, vI a5, vI (a6 + 1), vU, vU]) ⟨Or.inl rfl, Or.inl rfl, Or.inl rfl, Or.inl rfl, Or.inl rfl, Or.inl rfl, Or.inl rfl, Or.inl rfl, Or.inr ⟨rfl, _, rfl⟩, trivial⟩ h
  · have h := h.2 q
    refine z_aload hE rfl rfl rfl ?_
    refine z_getR hE (q := 88) rfl shk_76 rfl rfl rfl ?_
    refine z_iload hE rfl rfl ?_
    refine z_aload hE rfl rfl rfl ?_
    refine z_getR hE (q := 88) rfl shk_76 rfl rfl rfl ?_
    refine z_iload hE rfl rfl ?_
    refine z_iconst hE rfl ?_
    have hb := h.1
    have h := h.2
    refine z_iadd hE rfl hb ?_
    have hb := h.1
    have h := h.2
    refine z_iald hE rfl shk_88 hb ?_
    have hb := h.1
    have h := h.2
    refine z_iast hE rfl shk_88 hb ?_
    have hb := h.1
    have h := h.2
    refine z_iinc hE rfl rfl rfl hb ?_
    refine z_goto hE rfl ?_
    exact h
/-! 143: ChildTrainsModel.labelOf(I)I -/
theorem mN_143 : mN 143 = 2 := by decide +kernel
theorem ee_143 {d : Nat} {Q : Ql} {a1 : Int} {M : Mm} (h : GoG false (EE d) cd_143 Q 0 [vR 76, vI a1] [] M) : EE (d + 1) 143 [vR 76, vI a1] M Q := by
  have e : cdTab 143 = cd_143 := rfl
  unfold EE; rw [mN_143, e]; exact ⟨Nat.le_of_ble_eq_true rfl, h⟩
theorem sg_143 {d : Nat} {P : Int → Mm → Prop} {a1 : Int} {M : Mm} (h : (0 ≤ a1 ∧ a1 < 48) ∧ inI (2 * (M 80 a1)) ∧ (0 ≤ (2 * (M 80 a1)) ∧ (2 * (M 80 a1)) < 16) ∧ P (M 83 (2 * (M 80 a1))) M) : EE (d + 1) 143 [vR 76, vI a1] M (rI P) := by
  have hE := EE_mono d
  refine ee_143 ?_
  refine z_aload hE rfl rfl rfl ?_
  refine z_getR hE (q := 83) rfl shk_76 rfl rfl rfl ?_
  refine z_iconst hE rfl ?_
  refine z_aload hE rfl rfl rfl ?_
  refine z_getR hE (q := 80) rfl shk_76 rfl rfl rfl ?_
  refine z_iload hE rfl rfl ?_
  have hb := h.1
  have h := h.2
  refine z_iald hE rfl shk_80 hb ?_
  have hb := h.1
  have h := h.2
  refine z_imul hE rfl hb ?_
  have hb := h.1
  have h := h.2
  refine z_iald hE rfl shk_83 hb ?_
  exact z_iret hE rfl rfl h
/-! 144: ChildTrainsModel.villageOf(I)I -/
theorem mN_144 : mN 144 = 2 := by decide +kernel
theorem ee_144 {d : Nat} {Q : Ql} {a1 : Int} {M : Mm} (h : GoG false (EE d) cd_144 Q 0 [vR 76, vI a1] [] M) : EE (d + 1) 144 [vR 76, vI a1] M Q := by
  have e : cdTab 144 = cd_144 := rfl
  unfold EE; rw [mN_144, e]; exact ⟨Nat.le_of_ble_eq_true rfl, h⟩
theorem sg_144 {d : Nat} {P : Int → Mm → Prop} {a1 : Int} {M : Mm} (h : (0 ≤ a1 ∧ a1 < 48) ∧ ((¬ (M 85 a1) = (-9) → (0 ≤ a1 ∧ a1 < 48) ∧ inI (5 * (M 85 a1)) ∧ inI ((5 * (M 85 a1)) + 4) ∧ (0 ≤ ((5 * (M 85 a1)) + 4) ∧ ((5 * (M 85 a1)) + 4) < 30) ∧ P (M 84 ((5 * (M 85 a1)) + 4)) M) ∧ ((M 85 a1) = (-9) → P (-9) M))) : EE (d + 1) 144 [vR 76, vI a1] M (rI P) := by
  have hE := EE_mono d
  refine ee_144 ?_
  refine z_aload hE rfl rfl rfl ?_
  refine z_getR hE (q := 85) rfl shk_76 rfl rfl rfl ?_
  refine z_iload hE rfl rfl ?_
  have hb := h.1
  have h := h.2
  refine z_iald hE rfl shk_85 hb ?_
  refine z_iconst hE rfl ?_
  refine z_icmp_ne hE rfl ⟨fun q => ?_, fun q => ?_⟩
  · have h := h.1 q
    refine z_aload hE rfl rfl rfl ?_
    refine z_getR hE (q := 84) rfl shk_76 rfl rfl rfl ?_
    refine z_iconst hE rfl ?_
    refine z_aload hE rfl rfl rfl ?_
    refine z_getR hE (q := 85) rfl shk_76 rfl rfl rfl ?_
    refine z_iload hE rfl rfl ?_
    have hb := h.1
    have h := h.2
    refine z_iald hE rfl shk_85 hb ?_
    have hb := h.1
    have h := h.2
    refine z_imul hE rfl hb ?_
    refine z_iconst hE rfl ?_
    have hb := h.1
    have h := h.2
    refine z_iadd hE rfl hb ?_
    have hb := h.1
    have h := h.2
    refine z_iald hE rfl shk_84 hb ?_
    exact z_iret hE rfl rfl h
  · have h := h.2 q
    refine z_iconst hE rfl ?_
    refine z_goto hE rfl ?_
    exact z_iret hE rfl rfl h
/-! 145: ChildTrainsModel.isVillage(I)Z -/
theorem mN_145 : mN 145 = 1 := by decide +kernel
theorem ee_145 {d : Nat} {Q : Ql} {a0 : Int} {M : Mm} (h : GoG false (EE d) cd_145 Q 0 [vI a0] [] M) : EE (d + 1) 145 [vI a0] M Q := by
  have e : cdTab 145 = cd_145 := rfl
  unfold EE; rw [mN_145, e]; exact ⟨Nat.le_of_ble_eq_true rfl, h⟩
theorem sg_145 {d : Nat} {P : Int → Mm → Prop} {a0 : Int} {M : Mm} (h : EE d 140 [vI a0, vI 0, vI 5] M (rI fun r1 M1 => (r1 = 0 ∨ r1 = 1) ∧ P r1 M1)) : EE (d + 1) 145 [vI a0] M (rI P) := by
  have hE := EE_mono d
  refine ee_145 ?_
  refine z_iload hE rfl rfl ?_
  refine z_iconst hE rfl ?_
  refine z_iconst hE rfl ?_
  refine z_callsI hE rfl rfl rfl rfl rfl (Nat.le_of_ble_eq_true rfl) (by decide) (EE_mono d _ _ _ _ _ (rI_mono fun r1 M1 h => ?_) h)
  have hb := h.1
  have h := h.2
  exact z_zret hE rfl rfl hb h
/-! 146: ChildTrainsModel.payOf(III)I -/
def H_146_23 (d : Nat) (P : Int → Mm → Prop) (a0 : Int) (a2 : Int) (a3 : Int) (M : Mm) : Prop := GoG false (EE d) cd_146 (rI P) 23 [vI a0, vU, vI a2, vI a3] [] M
def H_146_38 (d : Nat) (P : Int → Mm → Prop) (a0 : Int) (a2 : Int) (a3 : Int) (M : Mm) : Prop := GoG false (EE d) cd_146 (rI P) 38 [vI a0, vU, vI a2, vI a3] [] M
theorem mN_146 : mN 146 = 4 := by decide +kernel
theorem ee_146 {d : Nat} {Q : Ql} {a0 : Int} {a1 : Int} {a2 : Int} {M : Mm} (h : GoG false (EE d) cd_146 Q 0 [vI a0, vI a1, vI a2, vU] [] M) : EE (d + 1) 146 [vI a0, vI a1, vI a2] M Q := by
  have e : cdTab 146 = cd_146 := rfl
  unfold EE; rw [mN_146, e]; exact ⟨Nat.le_of_ble_eq_true rfl, h⟩
theorem sg_146 {d : Nat} {P : Int → Mm → Prop} {a0 : Int} {a1 : Int} {a2 : Int} {M : Mm} (h : inI (60 * a1) ∧ ((a0 ≤ 0 → H_146_23 d P a0 a2 (60 * a1) M) ∧ (0 < a0 → ((a1 ≤ 0 → H_146_23 d P a0 a2 (60 * a1) M) ∧ (0 < a1 → inI (12 * a1) ∧ inI (12 + (12 * a1)) ∧ inI ((60 * a1) + (12 + (12 * a1))) ∧ H_146_23 d P a0 a2 ((60 * a1) + (12 + (12 * a1))) M))))) : EE (d + 1) 146 [vI a0, vI a1, vI a2] M (rI P) := by
  have hE := EE_mono d
  refine ee_146 ?_
  refine z_iconst hE rfl ?_
  refine z_iload hE rfl rfl ?_
  have hb := h.1
  have h := h.2
  refine z_imul hE rfl hb ?_
  refine z_istore hE rfl rfl rfl ?_
  refine z_iload hE rfl rfl ?_
  refine z_if_le hE rfl ⟨fun q => ?_, fun q => ?_⟩
  · have h := h.1 q
    exact GoG.weak hE (ls := [vI a0, vU, vI a2, vI (60 * a1)]) ⟨Or.inl rfl, Or.inr ⟨rfl, _, rfl⟩, Or.inl rfl, Or.inl rfl, trivial⟩ h
  · have h := h.2 q
    refine z_iload hE rfl rfl ?_
    refine z_if_le hE rfl ⟨fun q => ?_, fun q => ?_⟩
    · have h := h.1 q
      exact GoG.weak hE (ls := [vI a0, vU, vI a2, vI (60 * a1)]) ⟨Or.inl rfl, Or.inr ⟨rfl, _, rfl⟩, Or.inl rfl, Or.inl rfl, trivial⟩ h
    · have h := h.2 q
      refine z_iload hE rfl rfl ?_
      refine z_iconst hE rfl ?_
      refine z_iconst hE rfl ?_
      refine z_iload hE rfl rfl ?_
      have hb := h.1
      have h := h.2
      refine z_imul hE rfl hb ?_
      have hb := h.1
      have h := h.2
      refine z_iadd hE rfl hb ?_
      have hb := h.1
      have h := h.2
      refine z_iadd hE rfl hb ?_
      refine z_istore hE rfl rfl rfl ?_
      exact GoG.weak hE (ls := [vI a0, vU, vI a2, vI ((60 * a1) + (12 + (12 * a1)))]) ⟨Or.inl rfl, Or.inr ⟨rfl, _, rfl⟩, Or.inl rfl, Or.inl rfl, trivial⟩ h
theorem sg_146_23 {d : Nat} {P : Int → Mm → Prop} {a0 : Int} {a2 : Int} {a3 : Int} {M : Mm} (h : ((a0 ≤ 1 → H_146_38 d P a0 a2 a3 M) ∧ (1 < a0 → inI (a3 + 9) ∧ (0 ≤ (a3 + 9) ∧ (a3 + 9) ≤ 2147483647 ∧ (0 : Int) < 10) ∧ inI (a3 + ((a3 + 9) / 10)) ∧ H_146_38 d P a0 a2 (a3 + ((a3 + 9) / 10)) M))) : H_146_23 d P a0 a2 a3 M := by
  have hE := EE_mono d
  unfold H_146_23
  refine z_iload hE rfl rfl ?_
  refine z_iconst hE rfl ?_
  refine z_icmp_le hE rfl ⟨fun q => ?_, fun q => ?_⟩
  · have h := h.1 q
    exact h
  · have h := h.2 q
    refine z_iload hE rfl rfl ?_
    refine z_iload hE rfl rfl ?_
    refine z_iconst hE rfl ?_
    have hb := h.1
    have h := h.2
    refine z_iadd hE rfl hb ?_
    refine z_iconst hE rfl ?_
    have hb := h.1
    have h := h.2
    refine z_idiv hE rfl hb ?_
    have hb := h.1
    have h := h.2
    refine z_iadd hE rfl hb ?_
    refine z_istore hE rfl rfl rfl ?_
    exact h
theorem sg_146_38 {d : Nat} {P : Int → Mm → Prop} {a0 : Int} {a2 : Int} {a3 : Int} {M : Mm} (h : ((a0 ≤ 2 → P a3 M) ∧ (2 < a0 → inI (30 * a2) ∧ inI (a3 + (30 * a2)) ∧ P (a3 + (30 * a2)) M))) : H_146_38 d P a0 a2 a3 M := by
  have hE := EE_mono d
  unfold H_146_38
  refine z_iload hE rfl rfl ?_
  refine z_iconst hE rfl ?_
  refine z_icmp_le hE rfl ⟨fun q => ?_, fun q => ?_⟩
  · have h := h.1 q
    refine z_iload hE rfl rfl ?_
    exact z_iret hE rfl rfl h
  · have h := h.2 q
    refine z_iload hE rfl rfl ?_
    refine z_iconst hE rfl ?_
    refine z_iload hE rfl rfl ?_
    have hb := h.1
    have h := h.2
    refine z_imul hE rfl hb ?_
    have hb := h.1
    have h := h.2
    refine z_iadd hE rfl hb ?_
    refine z_goto hE rfl ?_
    exact z_iret hE rfl rfl h
/-! 147: ChildTrainsModel.chooses(I)V -/
def H_147_2 (d : Nat) (P : Mm → Prop) (a1 : Int) (a2 : Int) (M : Mm) : Prop := GoG false (EE d) cd_147 (rV P) 2 [vR 76, vI a1, vI a2, vU, vU, vU] [] M
def H_147_24 (d : Nat) (P : Mm → Prop) (a1 : Int) (a2 : Int) (M : Mm) : Prop := GoG false (EE d) cd_147 (rV P) 24 [vR 76, vI a1, vI a2, vU, vU, vU] [] M
def H_147_34 (d : Nat) (P : Mm → Prop) (a1 : Int) (a2 : Int) (a3 : Int) (M : Mm) : Prop := GoG false (EE d) cd_147 (rV P) 34 [vR 76, vI a1, vI a2, vI a3, vU, vU] [] M
def H_147_67 (d : Nat) (P : Mm → Prop) (a1 : Int) (a2 : Int) (a3 : Int) (a4 : Int) (a5 : Int) (M : Mm) : Prop := GoG false (EE d) cd_147 (rV P) 67 [vR 76, vI a1, vI a2, vI a3, vI a4, vI a5] [] M
theorem mN_147 : mN 147 = 6 := by decide +kernel
theorem ee_147 {d : Nat} {Q : Ql} {a1 : Int} {M : Mm} (h : GoG false (EE d) cd_147 Q 0 [vR 76, vI a1, vU, vU, vU, vU] [] M) : EE (d + 1) 147 [vR 76, vI a1] M Q := by
  have e : cdTab 147 = cd_147 := rfl
  unfold EE; rw [mN_147, e]; exact ⟨Nat.le_of_ble_eq_true rfl, h⟩
theorem sg_147 {d : Nat} {P : Mm → Prop} {a1 : Int} {M : Mm} (h : H_147_2 d P a1 0 M) : EE (d + 1) 147 [vR 76, vI a1] M (rV P) := by
  have hE := EE_mono d
  refine ee_147 ?_
  refine z_iconst hE rfl ?_
  refine z_istore hE rfl rfl rfl ?_
  exact h
theorem sg_147_2 {d : Nat} {P : Mm → Prop} {a1 : Int} {a2 : Int} {M : Mm} (h : ((48 ≤ a2 → H_147_24 d P a1 0 M) ∧ (a2 < 48 → (0 ≤ a2 ∧ a2 < 48) ∧ inI (a2 + 1) ∧ H_147_2 d P a1 (a2 + 1) (mset M 90 a2 (-9))))) : H_147_2 d P a1 a2 M := by
  have hE := EE_mono d
  unfold H_147_2
  refine z_iload hE rfl rfl ?_
  refine z_iconst hE rfl ?_
  refine z_icmp_ge hE rfl ⟨fun q => ?_, fun q => ?_⟩
  · have h := h.1 q
    refine z_iconst hE rfl ?_
    refine z_istore hE rfl rfl rfl ?_
    exact h
  · have h := h.2 q
    refine z_aload hE rfl rfl rfl ?_
    refine z_getR hE (q := 90) rfl shk_76 rfl rfl rfl ?_
    refine z_iload hE rfl rfl ?_
    refine z_iconst hE rfl ?_
    have hb := h.1
    have h := h.2
    refine z_iast hE rfl shk_90 hb ?_
    have hb := h.1
    have h := h.2
    refine z_iinc hE rfl rfl rfl hb ?_
    refine z_goto hE rfl ?_
    exact h
theorem sg_147_24 {d : Nat} {P : Mm → Prop} {a1 : Int} {a2 : Int} {M : Mm} (h : (((M 76 16) ≤ a2 → P M) ∧ (a2 < (M 76 16) → H_147_34 d P a1 a2 0 M))) : H_147_24 d P a1 a2 M := by
  have hE := EE_mono d
  unfold H_147_24
  refine z_iload hE rfl rfl ?_
  refine z_aload hE rfl rfl rfl ?_
  refine z_getI hE (sl := 16) rfl shk_76 rfl rfl rfl ?_
  refine z_icmp_ge hE rfl ⟨fun q => ?_, fun q => ?_⟩
  · have h := h.1 q
    exact z_vret hE rfl h
  · have h := h.2 q
    refine z_iconst hE rfl ?_
    refine z_istore hE rfl rfl rfl ?_
    exact h
theorem sg_147_34 {d : Nat} {P : Mm → Prop} {a1 : Int} {a2 : Int} {a3 : Int} {M : Mm} (h : inI (5 * a2) ∧ inI ((5 * a2) + 2) ∧ (0 ≤ ((5 * a2) + 2) ∧ ((5 * a2) + 2) < 120) ∧ (((M 89 ((5 * a2) + 2)) ≤ a3 → inI (a2 + 1) ∧ H_147_24 d P a1 (a2 + 1) M) ∧ (a3 < (M 89 ((5 * a2) + 2)) → inI (5 * a2) ∧ (0 ≤ (5 * a2) ∧ (5 * a2) < 120) ∧ ((¬ (M 89 (5 * a2)) = a1 → inI (a2 + 1) ∧ H_147_24 d P a1 (a2 + 1) M) ∧ ((M 89 (5 * a2)) = a1 → H_147_67 d P a1 a2 a3 (-9) 0 M))))) : H_147_34 d P a1 a2 a3 M := by
  have hE := EE_mono d
  unfold H_147_34
  refine z_iload hE rfl rfl ?_
  refine z_aload hE rfl rfl rfl ?_
  refine z_getR hE (q := 89) rfl shk_76 rfl rfl rfl ?_
  refine z_iconst hE rfl ?_
  refine z_iload hE rfl rfl ?_
  have hb := h.1
  have h := h.2
  refine z_imul hE rfl hb ?_
  refine z_iconst hE rfl ?_
  have hb := h.1
  have h := h.2
  refine z_iadd hE rfl hb ?_
  have hb := h.1
  have h := h.2
  refine z_iald hE rfl shk_89 hb ?_
  refine z_icmp_ge hE rfl ⟨fun q => ?_, fun q => ?_⟩
  · have h := h.1 q
    have hb := h.1
    have h := h.2
    refine z_iinc hE rfl rfl rfl hb ?_
    refine z_goto hE rfl ?_
    exact GoG.weak hE (ls := [vR 76, vI a1, vI (a2 + 1), vU, vU, vU]) ⟨Or.inl rfl, Or.inl rfl, Or.inl rfl, Or.inr ⟨rfl, _, rfl⟩, Or.inl rfl, Or.inl rfl, trivial⟩ h
  · have h := h.2 q
    refine z_aload hE rfl rfl rfl ?_
    refine z_getR hE (q := 89) rfl shk_76 rfl rfl rfl ?_
    refine z_iconst hE rfl ?_
    refine z_iload hE rfl rfl ?_
    have hb := h.1
    have h := h.2
    refine z_imul hE rfl hb ?_
    have hb := h.1
    have h := h.2
    refine z_iald hE rfl shk_89 hb ?_
    refine z_iload hE rfl rfl ?_
    refine z_icmp_ne hE rfl ⟨fun q => ?_, fun q => ?_⟩
    · have h := h.1 q
      have hb := h.1
      have h := h.2
      refine z_iinc hE rfl rfl rfl hb ?_
      refine z_goto hE rfl ?_
      exact GoG.weak hE (ls := [vR 76, vI a1, vI (a2 + 1), vU, vU, vU]) ⟨Or.inl rfl, Or.inl rfl, Or.inl rfl, Or.inr ⟨rfl, _, rfl⟩, Or.inl rfl, Or.inl rfl, trivial⟩ h
    · have h := h.2 q
      refine z_iconst hE rfl ?_
      refine z_istore hE rfl rfl rfl ?_
      refine z_iconst hE rfl ?_
      refine z_istore hE rfl rfl rfl ?_
      exact h
theorem sg_147_67 {d : Nat} {P : Mm → Prop} {a1 : Int} {a2 : Int} {a3 : Int} {a4 : Int} {a5 : Int} {M : Mm} (h : (((M 76 2) ≤ a5 → ((a4 = (-9) → inI (a3 + 1) ∧ H_147_34 d P a1 a2 (a3 + 1) M) ∧ (¬ a4 = (-9) → (0 ≤ a4 ∧ a4 < 48) ∧ inI (a3 + 1) ∧ H_147_34 d P a1 a2 (a3 + 1) (mset M 90 a4 a2)))) ∧ (a5 < (M 76 2) → EE d 144 [vR 76, vI a5] M (rI fun r1 M1 => ((¬ r1 = a1 → inI (a5 + 1) ∧ H_147_67 d P a1 a2 a3 a4 (a5 + 1) M1) ∧ (r1 = a1 → (0 ≤ a5 ∧ a5 < 48) ∧ ((¬ (M1 90 a5) = (-9) → inI (a5 + 1) ∧ H_147_67 d P a1 a2 a3 a4 (a5 + 1) M1) ∧ ((M1 90 a5) = (-9) → EE d 148 [vR 76, vI a2, vI a5] M1 (rI fun r2 M2 => ((r2 = 0 → inI (a5 + 1) ∧ H_147_67 d P a1 a2 a3 a4 (a5 + 1) M2) ∧ (¬ r2 = 0 → ((a4 = (-9) → inI (a5 + 1) ∧ H_147_67 d P a1 a2 a3 a5 (a5 + 1) M2) ∧ (¬ a4 = (-9) → EE d 150 [vR 76, vI a2, vI a5, vI a4] M2 (rI fun r3 M3 => ((r3 = 0 → inI (a5 + 1) ∧ H_147_67 d P a1 a2 a3 a4 (a5 + 1) M3) ∧ (¬ r3 = 0 → inI (a5 + 1) ∧ H_147_67 d P a1 a2 a3 a5 (a5 + 1) M3)))))))))))))))) : H_147_67 d P a1 a2 a3 a4 a5 M := by
  have hE := EE_mono d
  unfold H_147_67
  refine z_iload hE rfl rfl ?_
  refine z_aload hE rfl rfl rfl ?_
  refine z_getI hE (sl := 2) rfl shk_76 rfl rfl rfl ?_
  refine z_icmp_ge hE rfl ⟨fun q => ?_, fun q => ?_⟩
  · have h := h.1 q
    refine z_iload hE rfl rfl ?_
    refine z_iconst hE rfl ?_
    refine z_icmp_eq hE rfl ⟨fun q => ?_, fun q => ?_⟩
    · have h := h.1 q
      have hb := h.1
      have h := h.2
      refine z_iinc hE rfl rfl rfl hb ?_
      refine z_goto hE rfl ?_
      exact GoG.weak hE (ls := [vR 76, vI a1, vI a2, vI (a3 + 1), vU, vU]) ⟨Or.inl rfl, Or.inl rfl, Or.inl rfl, Or.inl rfl, Or.inr ⟨rfl, _, rfl⟩, Or.inr ⟨rfl, _, rfl⟩, trivial⟩ h
    · have h := h.2 q
      refine z_aload hE rfl rfl rfl ?_
      refine z_getR hE (q := 90) rfl shk_76 rfl rfl rfl ?_
      refine z_iload hE rfl rfl ?_
      refine z_iload hE rfl rfl ?_
      have hb := h.1
      have h := h.2
      refine z_iast hE rfl shk_90 hb ?_
      have hb := h.1
      have h := h.2
      refine z_iinc hE rfl rfl rfl hb ?_
      refine z_goto hE rfl ?_
      exact GoG.weak hE (ls := [vR 76, vI a1, vI a2, vI (a3 + 1), vU, vU]) ⟨Or.inl rfl, Or.inl rfl, Or.inl rfl, Or.inl rfl, Or.inr ⟨rfl, _, rfl⟩, Or.inr ⟨rfl, _, rfl⟩, trivial⟩ h
  · have h := h.2 q
    refine z_aload hE rfl rfl rfl ?_
    refine z_iload hE rfl rfl ?_
    refine z_callvI hE rfl rfl rfl rfl rfl (Nat.le_of_ble_eq_true rfl) (by decide) ⟨rfl, rfl⟩ (EE_mono d _ _ _ _ _ (rI_mono fun r1 M1 h => ?_) h)
    refine z_iload hE rfl rfl ?_
    refine z_icmp_ne hE rfl ⟨fun q => ?_, fun q => ?_⟩
    · have h := h.1 q
      have hb := h.1
      have h := h.2
      refine z_iinc hE rfl rfl rfl hb ?_
      refine z_goto hE rfl ?_
      exact h
    · have h := h.2 q
      refine z_aload hE rfl rfl rfl ?_
      refine z_getR hE (q := 90) rfl shk_76 rfl rfl rfl ?_
      refine z_iload hE rfl rfl ?_
      have hb := h.1
      have h := h.2
      refine z_iald hE rfl shk_90 hb ?_
      refine z_iconst hE rfl ?_
      refine z_icmp_ne hE rfl ⟨fun q => ?_, fun q => ?_⟩
      · have h := h.1 q
        have hb := h.1
        have h := h.2
        refine z_iinc hE rfl rfl rfl hb ?_
        refine z_goto hE rfl ?_
        exact h
      · have h := h.2 q
        refine z_aload hE rfl rfl rfl ?_
        refine z_iload hE rfl rfl ?_
        refine z_iload hE rfl rfl ?_
        refine z_callvI hE rfl rfl rfl rfl rfl (Nat.le_of_ble_eq_true rfl) (by decide) ⟨rfl, rfl⟩ (EE_mono d _ _ _ _ _ (rI_mono fun r2 M2 h => ?_) h)
        refine z_if_eq hE rfl ⟨fun q => ?_, fun q => ?_⟩
        · have h := h.1 q
          have hb := h.1
          have h := h.2
          refine z_iinc hE rfl rfl rfl hb ?_
          refine z_goto hE rfl ?_
          exact h
        · have h := h.2 q
          refine z_iload hE rfl rfl ?_
          refine z_iconst hE rfl ?_
          refine z_icmp_eq hE rfl ⟨fun q => ?_, fun q => ?_⟩
          · have h := h.1 q
            refine z_iload hE rfl rfl ?_
            refine z_goto hE rfl ?_
            refine z_istore hE rfl rfl rfl ?_
            have hb := h.1
            have h := h.2
            refine z_iinc hE rfl rfl rfl hb ?_
            refine z_goto hE rfl ?_
            exact h
          · have h := h.2 q
            refine z_aload hE rfl rfl rfl ?_
            refine z_iload hE rfl rfl ?_
            refine z_iload hE rfl rfl ?_
            refine z_iload hE rfl rfl ?_
            refine z_callvI hE rfl rfl rfl rfl rfl (Nat.le_of_ble_eq_true rfl) (by decide) ⟨rfl, rfl⟩ (EE_mono d _ _ _ _ _ (rI_mono fun r3 M3 h => ?_) h)
            refine z_if_eq hE rfl ⟨fun q => ?_, fun q => ?_⟩
            · have h := h.1 q
              refine z_iload hE rfl rfl ?_
              refine z_istore hE rfl rfl rfl ?_
              have hb := h.1
              have h := h.2
              refine z_iinc hE rfl rfl rfl hb ?_
              refine z_goto hE rfl ?_
              exact h
            · have h := h.2 q
              refine z_iload hE rfl rfl ?_
              refine z_goto hE rfl ?_
              refine z_istore hE rfl rfl rfl ?_
              have hb := h.1
              have h := h.2
              refine z_iinc hE rfl rfl rfl hb ?_
              refine z_goto hE rfl ?_
              exact h
/-! 148: ChildTrainsModel.isTaken(II)Z -/
theorem mN_148 : mN 148 = 3 := by decide +kernel
theorem ee_148 {d : Nat} {Q : Ql} {a1 : Int} {a2 : Int} {M : Mm} (h : GoG false (EE d) cd_148 Q 0 [vR 76, vI a1, vI a2] [] M) : EE (d + 1) 148 [vR 76, vI a1, vI a2] M Q := by
  have e : cdTab 148 = cd_148 := rfl
  unfold EE; rw [mN_148, e]; exact ⟨Nat.le_of_ble_eq_true rfl, h⟩
theorem sg_148 {d : Nat} {P : Int → Mm → Prop} {a1 : Int} {a2 : Int} {M : Mm} (h : inI (5 * a1) ∧ inI ((5 * a1) + 3) ∧ (0 ≤ ((5 * a1) + 3) ∧ ((5 * a1) + 3) < 120) ∧ EE d 149 [vR 76, vI a2] M (rI fun r1 M1 => ((¬ (zand (zshr (M 89 ((5 * a1) + 3)) r1) 1) = 1 → P 0 M1) ∧ ((zand (zshr (M 89 ((5 * a1) + 3)) r1) 1) = 1 → P 1 M1)))) : EE (d + 1) 148 [vR 76, vI a1, vI a2] M (rI P) := by
  have hE := EE_mono d
  refine ee_148 ?_
  refine z_aload hE rfl rfl rfl ?_
  refine z_getR hE (q := 89) rfl shk_76 rfl rfl rfl ?_
  refine z_iconst hE rfl ?_
  refine z_iload hE rfl rfl ?_
  have hb := h.1
  have h := h.2
  refine z_imul hE rfl hb ?_
  refine z_iconst hE rfl ?_
  have hb := h.1
  have h := h.2
  refine z_iadd hE rfl hb ?_
  have hb := h.1
  have h := h.2
  refine z_iald hE rfl shk_89 hb ?_
  refine z_aload hE rfl rfl rfl ?_
  refine z_iload hE rfl rfl ?_
  refine z_callvI hE rfl rfl rfl rfl rfl (Nat.le_of_ble_eq_true rfl) (by decide) ⟨rfl, rfl⟩ (EE_mono d _ _ _ _ _ (rI_mono fun r1 M1 h => ?_) h)
  refine z_ishr hE rfl ?_
  refine z_iconst hE rfl ?_
  refine z_iand hE rfl ?_
  refine z_iconst hE rfl ?_
  refine z_icmp_ne hE rfl ⟨fun q => ?_, fun q => ?_⟩
  · have h := h.1 q
    refine z_iconst hE rfl ?_
    exact z_zret hE rfl rfl (Or.inl rfl) h
  · have h := h.2 q
    refine z_iconst hE rfl ?_
    refine z_goto hE rfl ?_
    exact z_zret hE rfl rfl (Or.inr rfl) h
/-! 149: ChildTrainsModel.sortOf(I)I -/
theorem mN_149 : mN 149 = 2 := by decide +kernel
theorem ee_149 {d : Nat} {Q : Ql} {a1 : Int} {M : Mm} (h : GoG false (EE d) cd_149 Q 0 [vR 76, vI a1] [] M) : EE (d + 1) 149 [vR 76, vI a1] M Q := by
  have e : cdTab 149 = cd_149 := rfl
  unfold EE; rw [mN_149, e]; exact ⟨Nat.le_of_ble_eq_true rfl, h⟩
theorem sg_149 {d : Nat} {P : Int → Mm → Prop} {a1 : Int} {M : Mm} (h : (0 ≤ a1 ∧ a1 < 48) ∧ (0 ≤ a1 ∧ a1 < 48) ∧ (((M 78 a1) ≤ 8 → inI ((M 77 a1) + 0) ∧ P ((M 77 a1) + 0) M) ∧ (8 < (M 78 a1) → inI ((M 77 a1) + 2) ∧ P ((M 77 a1) + 2) M))) : EE (d + 1) 149 [vR 76, vI a1] M (rI P) := by
  have hE := EE_mono d
  refine ee_149 ?_
  refine z_aload hE rfl rfl rfl ?_
  refine z_getR hE (q := 77) rfl shk_76 rfl rfl rfl ?_
  refine z_iload hE rfl rfl ?_
  have hb := h.1
  have h := h.2
  refine z_iald hE rfl shk_77 hb ?_
  refine z_aload hE rfl rfl rfl ?_
  refine z_getR hE (q := 78) rfl shk_76 rfl rfl rfl ?_
  refine z_iload hE rfl rfl ?_
  have hb := h.1
  have h := h.2
  refine z_iald hE rfl shk_78 hb ?_
  refine z_iconst hE rfl ?_
  refine z_icmp_le hE rfl ⟨fun q => ?_, fun q => ?_⟩
  · have h := h.1 q
    refine z_iconst hE rfl ?_
    have hb := h.1
    have h := h.2
    refine z_iadd hE rfl hb ?_
    exact z_iret hE rfl rfl h
  · have h := h.2 q
    refine z_iconst hE rfl ?_
    refine z_goto hE rfl ?_
    have hb := h.1
    have h := h.2
    refine z_iadd hE rfl hb ?_
    exact z_iret hE rfl rfl h
/-! 150: ChildTrainsModel.isRather(III)Z -/
theorem mN_150 : mN 150 = 5 := by decide +kernel
theorem ee_150 {d : Nat} {Q : Ql} {a1 : Int} {a2 : Int} {a3 : Int} {M : Mm} (h : GoG false (EE d) cd_150 Q 0 [vR 76, vI a1, vI a2, vI a3, vU] [] M) : EE (d + 1) 150 [vR 76, vI a1, vI a2, vI a3] M Q := by
  have e : cdTab 150 = cd_150 := rfl
  unfold EE; rw [mN_150, e]; exact ⟨Nat.le_of_ble_eq_true rfl, h⟩
theorem sg_150 {d : Nat} {P : Int → Mm → Prop} {a1 : Int} {a2 : Int} {a3 : Int} {M : Mm} (h : inI (5 * a1) ∧ inI ((5 * a1) + 4) ∧ (0 ≤ ((5 * a1) + 4) ∧ ((5 * a1) + 4) < 120) ∧ ((¬ (M 89 ((5 * a1) + 4)) = 0 → ((¬ (M 89 ((5 * a1) + 4)) = 1 → ((¬ (M 89 ((5 * a1) + 4)) = 3 → P 0 M) ∧ ((M 89 ((5 * a1) + 4)) = 3 → EE d 151 [vR 76, vI a1, vI a2] M (rI fun r1 M1 => ((r1 = 0 → P 0 M1) ∧ (¬ r1 = 0 → EE d 151 [vR 76, vI a1, vI a3] M1 (rI fun r2 M2 => ((¬ r2 = 0 → P 0 M2) ∧ (r2 = 0 → P 1 M2))))))))) ∧ ((M 89 ((5 * a1) + 4)) = 1 → (0 ≤ a2 ∧ a2 < 48) ∧ (0 ≤ a3 ∧ a3 < 48) ∧ (((M 78 a3) ≤ (M 78 a2) → P 0 M) ∧ ((M 78 a2) < (M 78 a3) → P 1 M))))) ∧ ((M 89 ((5 * a1) + 4)) = 0 → (0 ≤ a2 ∧ a2 < 48) ∧ (0 ≤ a3 ∧ a3 < 48) ∧ (((M 78 a2) ≤ (M 78 a3) → P 0 M) ∧ ((M 78 a3) < (M 78 a2) → P 1 M))))) : EE (d + 1) 150 [vR 76, vI a1, vI a2, vI a3] M (rI P) := by
  have hE := EE_mono d
  refine ee_150 ?_
  refine z_aload hE rfl rfl rfl ?_
  refine z_getR hE (q := 89) rfl shk_76 rfl rfl rfl ?_
  refine z_iconst hE rfl ?_
  refine z_iload hE rfl rfl ?_
  have hb := h.1
  have h := h.2
  refine z_imul hE rfl hb ?_
  refine z_iconst hE rfl ?_
  have hb := h.1
  have h := h.2
  refine z_iadd hE rfl hb ?_
  have hb := h.1
  have h := h.2
  refine z_iald hE rfl shk_89 hb ?_
  refine z_istore hE rfl rfl rfl ?_
  refine z_iload hE rfl rfl ?_
  refine z_if_ne hE rfl ⟨fun q => ?_, fun q => ?_⟩
  · have h := h.1 q
    refine z_iload hE rfl rfl ?_
    refine z_iconst hE rfl ?_
    refine z_icmp_ne hE rfl ⟨fun q => ?_, fun q => ?_⟩
    · have h := h.1 q
      refine z_iload hE rfl rfl ?_
      refine z_iconst hE rfl ?_
      refine z_icmp_ne hE rfl ⟨fun q => ?_, fun q => ?_⟩
      · have h := h.1 q
        refine z_iconst hE rfl ?_
        exact z_zret hE rfl rfl (Or.inl rfl) h
      · have h := h.2 q
        refine z_aload hE rfl rfl rfl ?_
        refine z_iload hE rfl rfl ?_
        refine z_iload hE rfl rfl ?_
        refine z_callvI hE rfl rfl rfl rfl rfl (Nat.le_of_ble_eq_true rfl) (by decide) ⟨rfl, rfl⟩ (EE_mono d _ _ _ _ _ (rI_mono fun r1 M1 h => ?_) h)
        refine z_if_eq hE rfl ⟨fun q => ?_, fun q => ?_⟩
        · have h := h.1 q
          refine z_iconst hE rfl ?_
          exact z_zret hE rfl rfl (Or.inl rfl) h
        · have h := h.2 q
          refine z_aload hE rfl rfl rfl ?_
          refine z_iload hE rfl rfl ?_
          refine z_iload hE rfl rfl ?_
          refine z_callvI hE rfl rfl rfl rfl rfl (Nat.le_of_ble_eq_true rfl) (by decide) ⟨rfl, rfl⟩ (EE_mono d _ _ _ _ _ (rI_mono fun r2 M2 h => ?_) h)
          refine z_if_ne hE rfl ⟨fun q => ?_, fun q => ?_⟩
          · have h := h.1 q
            refine z_iconst hE rfl ?_
            exact z_zret hE rfl rfl (Or.inl rfl) h
          · have h := h.2 q
            refine z_iconst hE rfl ?_
            refine z_goto hE rfl ?_
            exact z_zret hE rfl rfl (Or.inr rfl) h
    · have h := h.2 q
      refine z_aload hE rfl rfl rfl ?_
      refine z_getR hE (q := 78) rfl shk_76 rfl rfl rfl ?_
      refine z_iload hE rfl rfl ?_
      have hb := h.1
      have h := h.2
      refine z_iald hE rfl shk_78 hb ?_
      refine z_aload hE rfl rfl rfl ?_
      refine z_getR hE (q := 78) rfl shk_76 rfl rfl rfl ?_
      refine z_iload hE rfl rfl ?_
      have hb := h.1
      have h := h.2
      refine z_iald hE rfl shk_78 hb ?_
      refine z_icmp_ge hE rfl ⟨fun q => ?_, fun q => ?_⟩
      · have h := h.1 q
        refine z_iconst hE rfl ?_
        exact z_zret hE rfl rfl (Or.inl rfl) h
      · have h := h.2 q
        refine z_iconst hE rfl ?_
        refine z_goto hE rfl ?_
        exact z_zret hE rfl rfl (Or.inr rfl) h
  · have h := h.2 q
    refine z_aload hE rfl rfl rfl ?_
    refine z_getR hE (q := 78) rfl shk_76 rfl rfl rfl ?_
    refine z_iload hE rfl rfl ?_
    have hb := h.1
    have h := h.2
    refine z_iald hE rfl shk_78 hb ?_
    refine z_aload hE rfl rfl rfl ?_
    refine z_getR hE (q := 78) rfl shk_76 rfl rfl rfl ?_
    refine z_iload hE rfl rfl ?_
    have hb := h.1
    have h := h.2
    refine z_iald hE rfl shk_78 hb ?_
    refine z_icmp_le hE rfl ⟨fun q => ?_, fun q => ?_⟩
    · have h := h.1 q
      refine z_iconst hE rfl ?_
      exact z_zret hE rfl rfl (Or.inl rfl) h
    · have h := h.2 q
      refine z_iconst hE rfl ?_
      refine z_goto hE rfl ?_
      exact z_zret hE rfl rfl (Or.inr rfl) h
/-! 151: ChildTrainsModel.hasKin(II)Z -/
def H_151_5 (d : Nat) (P : Int → Mm → Prop) (a1 : Int) (a2 : Int) (a3 : Int) (a4 : Int) (M : Mm) : Prop := GoG false (EE d) cd_151 (rI P) 5 [vR 76, vI a1, vI a2, vI a3, vI a4] [] M
theorem mN_151 : mN 151 = 5 := by decide +kernel
theorem ee_151 {d : Nat} {Q : Ql} {a1 : Int} {a2 : Int} {M : Mm} (h : GoG false (EE d) cd_151 Q 0 [vR 76, vI a1, vI a2, vU, vU] [] M) : EE (d + 1) 151 [vR 76, vI a1, vI a2] M Q := by
  have e : cdTab 151 = cd_151 := rfl
  unfold EE; rw [mN_151, e]; exact ⟨Nat.le_of_ble_eq_true rfl, h⟩
theorem sg_151 {d : Nat} {P : Int → Mm → Prop} {a1 : Int} {a2 : Int} {M : Mm} (h : H_151_5 d P a1 a2 0 0 M) : EE (d + 1) 151 [vR 76, vI a1, vI a2] M (rI P) := by
  have hE := EE_mono d
  refine ee_151 ?_
  refine z_iconst hE rfl ?_
  refine z_istore hE rfl rfl rfl ?_
  refine z_iconst hE rfl ?_
  refine z_istore hE rfl rfl rfl ?_
  exact h
theorem sg_151_5 {d : Nat} {P : Int → Mm → Prop} {a1 : Int} {a2 : Int} {a3 : Int} {a4 : Int} {M : Mm} (h : (((M 76 2) ≤ a4 → (a3 = 0 ∨ a3 = 1) ∧ P a3 M) ∧ (a4 < (M 76 2) → (0 ≤ a4 ∧ a4 < 48) ∧ ((¬ (M 90 a4) = a1 → inI (a4 + 1) ∧ H_151_5 d P a1 a2 (zor a3 0) (a4 + 1) M) ∧ ((M 90 a4) = a1 → EE d 152 [vR 76, vI a4, vI a2] M (rI fun r1 M1 => ((r1 = 0 → inI (a4 + 1) ∧ H_151_5 d P a1 a2 (zor a3 0) (a4 + 1) M1) ∧ (¬ r1 = 0 → inI (a4 + 1) ∧ H_151_5 d P a1 a2 (zor a3 1) (a4 + 1) M1)))))))) : H_151_5 d P a1 a2 a3 a4 M := by
  have hE := EE_mono d
  unfold H_151_5
  refine z_iload hE rfl rfl ?_
  refine z_aload hE rfl rfl rfl ?_
  refine z_getI hE (sl := 2) rfl shk_76 rfl rfl rfl ?_
  refine z_icmp_ge hE rfl ⟨fun q => ?_, fun q => ?_⟩
  · have h := h.1 q
    refine z_iload hE rfl rfl ?_
    have hb := h.1
    have h := h.2
    exact z_zret hE rfl rfl hb h
  · have h := h.2 q
    refine z_iload hE rfl rfl ?_
    refine z_aload hE rfl rfl rfl ?_
    refine z_getR hE (q := 90) rfl shk_76 rfl rfl rfl ?_
    refine z_iload hE rfl rfl ?_
    have hb := h.1
    have h := h.2
    refine z_iald hE rfl shk_90 hb ?_
    refine z_iload hE rfl rfl ?_
    refine z_icmp_ne hE rfl ⟨fun q => ?_, fun q => ?_⟩
    · have h := h.1 q
      refine z_iconst hE rfl ?_
      refine z_ior hE rfl ?_
      refine z_istore hE rfl rfl rfl ?_
      have hb := h.1
      have h := h.2
      refine z_iinc hE rfl rfl rfl hb ?_
      refine z_goto hE rfl ?_
      exact h
    · have h := h.2 q
      refine z_aload hE rfl rfl rfl ?_
      refine z_iload hE rfl rfl ?_
      refine z_iload hE rfl rfl ?_
      refine z_callvI hE rfl rfl rfl rfl rfl (Nat.le_of_ble_eq_true rfl) (by decide) ⟨rfl, rfl⟩ (EE_mono d _ _ _ _ _ (rI_mono fun r1 M1 h => ?_) h)
      refine z_if_eq hE rfl ⟨fun q => ?_, fun q => ?_⟩
      · have h := h.1 q
        refine z_iconst hE rfl ?_
        refine z_ior hE rfl ?_
        refine z_istore hE rfl rfl rfl ?_
        have hb := h.1
        have h := h.2
        refine z_iinc hE rfl rfl rfl hb ?_
        refine z_goto hE rfl ?_
        exact h
      · have h := h.2 q
        refine z_iconst hE rfl ?_
        refine z_goto hE rfl ?_
        refine z_ior hE rfl ?_
        refine z_istore hE rfl rfl rfl ?_
        have hb := h.1
        have h := h.2
        refine z_iinc hE rfl rfl rfl hb ?_
        refine z_goto hE rfl ?_
        exact h
/-! 152: ChildTrainsModel.isKin(II)Z -/
theorem mN_152 : mN 152 = 3 := by decide +kernel
theorem ee_152 {d : Nat} {Q : Ql} {a1 : Int} {a2 : Int} {M : Mm} (h : GoG false (EE d) cd_152 Q 0 [vR 76, vI a1, vI a2] [] M) : EE (d + 1) 152 [vR 76, vI a1, vI a2] M Q := by
  have e : cdTab 152 = cd_152 := rfl
  unfold EE; rw [mN_152, e]; exact ⟨Nat.le_of_ble_eq_true rfl, h⟩
theorem sg_152 {d : Nat} {P : Int → Mm → Prop} {a1 : Int} {a2 : Int} {M : Mm} (h : (0 ≤ a1 ∧ a1 < 48) ∧ (((M 79 a1) ≤ 0 → P 0 M) ∧ (0 < (M 79 a1) → (0 ≤ a1 ∧ a1 < 48) ∧ (0 ≤ a2 ∧ a2 < 48) ∧ ((¬ (M 79 a1) = (M 79 a2) → P 0 M) ∧ ((M 79 a1) = (M 79 a2) → P 1 M))))) : EE (d + 1) 152 [vR 76, vI a1, vI a2] M (rI P) := by
  have hE := EE_mono d
  refine ee_152 ?_
  refine z_aload hE rfl rfl rfl ?_
  refine z_getR hE (q := 79) rfl shk_76 rfl rfl rfl ?_
  refine z_iload hE rfl rfl ?_
  have hb := h.1
  have h := h.2
  refine z_iald hE rfl shk_79 hb ?_
  refine z_if_le hE rfl ⟨fun q => ?_, fun q => ?_⟩
  · have h := h.1 q
    refine z_iconst hE rfl ?_
    exact z_zret hE rfl rfl (Or.inl rfl) h
  · have h := h.2 q
    refine z_aload hE rfl rfl rfl ?_
    refine z_getR hE (q := 79) rfl shk_76 rfl rfl rfl ?_
    refine z_iload hE rfl rfl ?_
    have hb := h.1
    have h := h.2
    refine z_iald hE rfl shk_79 hb ?_
    refine z_aload hE rfl rfl rfl ?_
    refine z_getR hE (q := 79) rfl shk_76 rfl rfl rfl ?_
    refine z_iload hE rfl rfl ?_
    have hb := h.1
    have h := h.2
    refine z_iald hE rfl shk_79 hb ?_
    refine z_icmp_ne hE rfl ⟨fun q => ?_, fun q => ?_⟩
    · have h := h.1 q
      refine z_iconst hE rfl ?_
      exact z_zret hE rfl rfl (Or.inl rfl) h
    · have h := h.2 q
      refine z_iconst hE rfl ?_
      refine z_goto hE rfl ?_
      exact z_zret hE rfl rfl (Or.inr rfl) h
/-! 153: ChildTrainsModel.goes(III)V -/
def H_153_6 (d : Nat) (P : Mm → Prop) (a1 : Int) (a2 : Int) (a3 : Int) (a4 : Int) (a5 : Int) (M : Mm) : Prop := GoG false (EE d) cd_153 (rV P) 6 [vR 76, vI a1, vI a2, vI a3, vI a4, vI a5, vU, vU, vU, vU, vU] [] M
def H_153_24 (d : Nat) (P : Mm → Prop) (a1 : Int) (a2 : Int) (a3 : Int) (a4 : Int) (a5 : Int) (a6 : Int) (a7 : Int) (a8 : Int) (a9 : Int) (M : Mm) : Prop := GoG false (EE d) cd_153 (rV P) 24 [vR 76, vI a1, vI a2, vI a3, vI a4, vI a5, vI a6, vI a7, vI a8, vI a9, vU] [] M
def H_153_156 (d : Nat) (P : Mm → Prop) (a2 : Int) (a3 : Int) (a4 : Int) (a5 : Int) (M : Mm) : Prop := GoG false (EE d) cd_153 (rV P) 156 [vR 76, vU, vI a2, vI a3, vI a4, vI a5, vU, vU, vU, vU, vU] [] M
def H_153_180 (d : Nat) (P : Mm → Prop) (a2 : Int) (a3 : Int) (a4 : Int) (a5 : Int) (M : Mm) : Prop := GoG false (EE d) cd_153 (rV P) 180 [vR 76, vU, vI a2, vI a3, vI a4, vI a5, vU, vU, vU, vU, vU] [] M
def H_153_189 (d : Nat) (P : Mm → Prop) (a2 : Int) (a3 : Int) (a4 : Int) (a5 : Int) (a6 : Int) (M : Mm) : Prop := GoG false (EE d) cd_153 (rV P) 189 [vR 76, vU, vI a2, vI a3, vI a4, vI a5, vI a6, vU, vU, vU, vU] [] M
def H_153_214 (d : Nat) (P : Mm → Prop) (a2 : Int) (a3 : Int) (a4 : Int) (a5 : Int) (a6 : Int) (a7 : Int) (a8 : Int) (M : Mm) : Prop := GoG false (EE d) cd_153 (rV P) 214 [vR 76, vU, vI a2, vI a3, vI a4, vI a5, vI a6, vI a7, vI a8, vU, vU] [] M
def H_153_268 (d : Nat) (P : Mm → Prop) (a2 : Int) (a3 : Int) (a4 : Int) (a5 : Int) (a6 : Int) (a7 : Int) (M : Mm) : Prop := GoG false (EE d) cd_153 (rV P) 268 [vR 76, vU, vI a2, vI a3, vI a4, vI a5, vI a6, vI a7, vU, vU, vU] [] M
def H_153_347 (d : Nat) (P : Mm → Prop) (a3 : Int) (a5 : Int) (M : Mm) : Prop := GoG false (EE d) cd_153 (rV P) 347 [vR 76, vU, vU, vI a3, vU, vI a5, vU, vU, vU, vU, vU] [] M
theorem mN_153 : mN 153 = 11 := by decide +kernel
theorem ee_153 {d : Nat} {Q : Ql} {a1 : Int} {a2 : Int} {a3 : Int} {M : Mm} (h : GoG false (EE d) cd_153 Q 0 [vR 76, vI a1, vI a2, vI a3, vU, vU, vU, vU, vU, vU, vU] [] M) : EE (d + 1) 153 [vR 76, vI a1, vI a2, vI a3] M Q := by
  have e : cdTab 153 = cd_153 := rfl
  unfold EE; rw [mN_153, e]; exact ⟨Nat.le_of_ble_eq_true rfl, h⟩
theorem sg_153 {d : Nat} {P : Mm → Prop} {a1 : Int} {a2 : Int} {a3 : Int} {M : Mm} (h : H_153_6 d P a1 a2 a3 0 0 M) : EE (d + 1) 153 [vR 76, vI a1, vI a2, vI a3] M (rV P) := by
  have hE := EE_mono d
  refine ee_153 ?_
  refine z_iconst hE rfl ?_
  refine z_istore hE rfl rfl rfl ?_
  refine z_iconst hE rfl ?_
  refine z_istore hE rfl rfl rfl ?_
  exact h
theorem sg_153_6 {d : Nat} {P : Mm → Prop} {a1 : Int} {a2 : Int} {a3 : Int} {a4 : Int} {a5 : Int} {M : Mm} (h : ((a3 ≤ a5 → H_153_156 d P a2 a3 a4 0 M) ∧ (a5 < a3 → H_153_24 d P a1 a2 a3 a4 a5 0 0 1 0 M))) : H_153_6 d P a1 a2 a3 a4 a5 M := by
  have hE := EE_mono d
  unfold H_153_6
  refine z_iload hE rfl rfl ?_
  refine z_iload hE rfl rfl ?_
  refine z_icmp_ge hE rfl ⟨fun q => ?_, fun q => ?_⟩
  · have h := h.1 q
    refine z_iconst hE rfl ?_
    refine z_istore hE rfl rfl rfl ?_
    exact GoG.weak hE (ls := [vR 76, vU, vI a2, vI a3, vI a4, vI 0, vU, vU, vU, vU, vU]) ⟨Or.inl rfl, Or.inr ⟨rfl, _, rfl⟩, Or.inl rfl, Or.inl rfl, Or.inl rfl, Or.inl rfl, Or.inl rfl, Or.inl rfl, Or.inl rfl, Or.inl rfl, Or.inl rfl, trivial⟩ h
  · have h := h.2 q
    refine z_iconst hE rfl ?_
    refine z_istore hE rfl rfl rfl ?_
    refine z_iconst hE rfl ?_
    refine z_istore hE rfl rfl rfl ?_
    refine z_iconst hE rfl ?_
    refine z_istore hE rfl rfl rfl ?_
    refine z_iconst hE rfl ?_
    refine z_istore hE rfl rfl rfl ?_
    exact h
theorem sg_153_24 {d : Nat} {P : Mm → Prop} {a1 : Int} {a2 : Int} {a3 : Int} {a4 : Int} {a5 : Int} {a6 : Int} {a7 : Int} {a8 : Int} {a9 : Int} {M : Mm} (h : ((a2 ≤ a9 → ((a8 = 0 → inI (a5 + 1) ∧ H_153_6 d P a1 a2 a3 a4 (a5 + 1) M) ∧ (¬ a8 = 0 → ((a1 < a6 → inI (a5 + 1) ∧ H_153_6 d P a1 a2 a3 a4 (a5 + 1) M) ∧ (a6 ≤ a1 → EE d 155 [vR 76, vI a5, vI a2] M (rI fun r1 M1 => ((r1 = 0 → inI (a5 + 1) ∧ H_153_6 d P a1 a2 a3 a4 (a5 + 1) M1) ∧ (¬ r1 = 0 → (0 ≤ a4 ∧ a4 < 15625) ∧ inI (a1 - a6) ∧ inI (1000 * (a1 - a6)) ∧ inI (a1 - 1) ∧ inI (a1 * (a1 - 1)) ∧ (0 ≤ (a1 * (a1 - 1)) ∧ (a1 * (a1 - 1)) ≤ 2147483647 ∧ (0 : Int) < 2) ∧ inI ((1000 * (a1 - a6)) + ((a1 * (a1 - 1)) / 2)) ∧ inI (((1000 * (a1 - a6)) + ((a1 * (a1 - 1)) / 2)) - a7) ∧ (0 ≤ a4 ∧ a4 < 15625) ∧ inI (a4 + 1) ∧ inI (a5 + 1) ∧ H_153_6 d P a1 a2 a3 (a4 + 1) (a5 + 1) (mset (mset M1 104 a4 a5) 105 a4 (((1000 * (a1 - a6)) + ((a1 * (a1 - 1)) / 2)) - a7)))))))))) ∧ (a9 < a2 → EE d 154 [vI a5, vI a9] M (rI fun r2 M2 => inI (a6 + r2) ∧ inI (r2 - 1) ∧ inI (r2 * (r2 - 1)) ∧ (0 ≤ (r2 * (r2 - 1)) ∧ (r2 * (r2 - 1)) ≤ 2147483647 ∧ (0 : Int) < 2) ∧ inI (a7 + ((r2 * (r2 - 1)) / 2)) ∧ (0 ≤ a9 ∧ a9 < 6) ∧ (((M2 101 a9) < r2 → inI (a9 + 1) ∧ H_153_24 d P a1 a2 a3 a4 a5 (a6 + r2) (a7 + ((r2 * (r2 - 1)) / 2)) (zand a8 0) (a9 + 1) M2) ∧ (r2 ≤ (M2 101 a9) → inI (a9 + 1) ∧ H_153_24 d P a1 a2 a3 a4 a5 (a6 + r2) (a7 + ((r2 * (r2 - 1)) / 2)) (zand a8 1) (a9 + 1) M2)))))) : H_153_24 d P a1 a2 a3 a4 a5 a6 a7 a8 a9 M := by
  have hE := EE_mono d
  unfold H_153_24
  refine z_iload hE rfl rfl ?_
  refine z_iload hE rfl rfl ?_
  refine z_icmp_ge hE rfl ⟨fun q => ?_, fun q => ?_⟩
  · have h := h.1 q
    refine z_iload hE rfl rfl ?_
    refine z_if_eq hE rfl ⟨fun q => ?_, fun q => ?_⟩
    · have h := h.1 q
      have hb := h.1
      have h := h.2
      refine z_iinc hE rfl rfl rfl hb ?_
      refine z_goto hE rfl ?_
      exact GoG.weak hE (ls := [vR 76, vI a1, vI a2, vI a3, vI a4, vI (a5 + 1), vU, vU, vU, vU, vU]) ⟨Or.inl rfl, Or.inl rfl, Or.inl rfl, Or.inl rfl, Or.inl rfl, Or.inl rfl, Or.inr ⟨rfl, _, rfl⟩, Or.inr ⟨rfl, _, rfl⟩, Or.inr ⟨rfl, _, rfl⟩, Or.inr ⟨rfl, _, rfl⟩, Or.inl rfl, trivial⟩ h
    · have h := h.2 q
      refine z_iload hE rfl rfl ?_
      refine z_iload hE rfl rfl ?_
      refine z_icmp_gt hE rfl ⟨fun q => ?_, fun q => ?_⟩
      · have h := h.1 q
        have hb := h.1
        have h := h.2
        refine z_iinc hE rfl rfl rfl hb ?_
        refine z_goto hE rfl ?_
        exact GoG.weak hE (ls := [vR 76, vI a1, vI a2, vI a3, vI a4, vI (a5 + 1), vU, vU, vU, vU, vU]) ⟨Or.inl rfl, Or.inl rfl, Or.inl rfl, Or.inl rfl, Or.inl rfl, Or.inl rfl, Or.inr ⟨rfl, _, rfl⟩, Or.inr ⟨rfl, _, rfl⟩, Or.inr ⟨rfl, _, rfl⟩, Or.inr ⟨rfl, _, rfl⟩, Or.inl rfl, trivial⟩ h
      · have h := h.2 q
        refine z_aload hE rfl rfl rfl ?_
        refine z_iload hE rfl rfl ?_
        refine z_iload hE rfl rfl ?_
        refine z_callvI hE rfl rfl rfl rfl rfl (Nat.le_of_ble_eq_true rfl) (by decide) ⟨rfl, rfl⟩ (EE_mono d _ _ _ _ _ (rI_mono fun r1 M1 h => ?_) h)
        refine z_if_eq hE rfl ⟨fun q => ?_, fun q => ?_⟩
        · have h := h.1 q
          have hb := h.1
          have h := h.2
          refine z_iinc hE rfl rfl rfl hb ?_
          refine z_goto hE rfl ?_
          exact GoG.weak hE (ls := [vR 76, vI a1, vI a2, vI a3, vI a4, vI (a5 + 1), vU, vU, vU, vU, vU]) ⟨Or.inl rfl, Or.inl rfl, Or.inl rfl, Or.inl rfl, Or.inl rfl, Or.inl rfl, Or.inr ⟨rfl, _, rfl⟩, Or.inr ⟨rfl, _, rfl⟩, Or.inr ⟨rfl, _, rfl⟩, Or.inr ⟨rfl, _, rfl⟩, Or.inl rfl, trivial⟩ h
        · have h := h.2 q
          refine z_aload hE rfl rfl rfl ?_
          refine z_getR hE (q := 104) rfl shk_76 rfl rfl rfl ?_
          refine z_iload hE rfl rfl ?_
          refine z_iload hE rfl rfl ?_
          have hb := h.1
          have h := h.2
          refine z_iast hE rfl shk_104 hb ?_
          refine z_aload hE rfl rfl rfl ?_
          refine z_getR hE (q := 105) rfl shk_76 rfl rfl rfl ?_
          refine z_iload hE rfl rfl ?_
          refine z_iconst hE rfl ?_
          refine z_iload hE rfl rfl ?_
          refine z_iload hE rfl rfl ?_
          have hb := h.1
          have h := h.2
          refine z_isub hE rfl hb ?_
          have hb := h.1
          have h := h.2
          refine z_imul hE rfl hb ?_
          refine z_iload hE rfl rfl ?_
          refine z_iload hE rfl rfl ?_
          refine z_iconst hE rfl ?_
          have hb := h.1
          have h := h.2
          refine z_isub hE rfl hb ?_
          have hb := h.1
          have h := h.2
          refine z_imul hE rfl hb ?_
          refine z_iconst hE rfl ?_
          have hb := h.1
          have h := h.2
          refine z_idiv hE rfl hb ?_
          have hb := h.1
          have h := h.2
          refine z_iadd hE rfl hb ?_
          refine z_iload hE rfl rfl ?_
          have hb := h.1
          have h := h.2
          refine z_isub hE rfl hb ?_
          have hb := h.1
          have h := h.2
          refine z_iast hE rfl shk_105 hb ?_
          have hb := h.1
          have h := h.2
          refine z_iinc hE rfl rfl rfl hb ?_
          have hb := h.1
          have h := h.2
          refine z_iinc hE rfl rfl rfl hb ?_
          refine z_goto hE rfl ?_
          exact GoG.weak hE (ls := [vR 76, vI a1, vI a2, vI a3, vI (a4 + 1), vI (a5 + 1), vU, vU, vU, vU, vU]) ⟨Or.inl rfl, Or.inl rfl, Or.inl rfl, Or.inl rfl, Or.inl rfl, Or.inl rfl, Or.inr ⟨rfl, _, rfl⟩, Or.inr ⟨rfl, _, rfl⟩, Or.inr ⟨rfl, _, rfl⟩, Or.inr ⟨rfl, _, rfl⟩, Or.inl rfl, trivial⟩ h
  · have h := h.2 q
    refine z_iload hE rfl rfl ?_
    refine z_iload hE rfl rfl ?_
    refine z_callsI hE rfl rfl rfl rfl rfl (Nat.le_of_ble_eq_true rfl) (by decide) (EE_mono d _ _ _ _ _ (rI_mono fun r2 M2 h => ?_) h)
    refine z_istore hE rfl rfl rfl ?_
    refine z_iload hE rfl rfl ?_
    refine z_iload hE rfl rfl ?_
    have hb := h.1
    have h := h.2
    refine z_iadd hE rfl hb ?_
    refine z_istore hE rfl rfl rfl ?_
    refine z_iload hE rfl rfl ?_
    refine z_iload hE rfl rfl ?_
    refine z_iload hE rfl rfl ?_
    refine z_iconst hE rfl ?_
    have hb := h.1
    have h := h.2
    refine z_isub hE rfl hb ?_
    have hb := h.1
    have h := h.2
    refine z_imul hE rfl hb ?_
    refine z_iconst hE rfl ?_
    have hb := h.1
    have h := h.2
    refine z_idiv hE rfl hb ?_
    have hb := h.1
    have h := h.2
    refine z_iadd hE rfl hb ?_
    refine z_istore hE rfl rfl rfl ?_
    refine z_iload hE rfl rfl ?_
    refine z_iload hE rfl rfl ?_
    refine z_aload hE rfl rfl rfl ?_
    refine z_getR hE (q := 101) rfl shk_76 rfl rfl rfl ?_
    refine z_iload hE rfl rfl ?_
    have hb := h.1
    have h := h.2
    refine z_iald hE rfl shk_101 hb ?_
    refine z_icmp_gt hE rfl ⟨fun q => ?_, fun q => ?_⟩
    · have h := h.1 q
      refine z_iconst hE rfl ?_
      refine z_iand hE rfl ?_
      refine z_istore hE rfl rfl rfl ?_
      have hb := h.1
      have h := h.2
      refine z_iinc hE rfl rfl rfl hb ?_
      refine z_goto hE rfl ?_
      exact GoG.weak hE (ls := [vR 76, vI a1, vI a2, vI a3, vI a4, vI a5, vI (a6 + r2), vI (a7 + ((r2 * (r2 - 1)) / 2)), vI (zand a8 0), vI (a9 + 1), vU]) ⟨Or.inl rfl, Or.inl rfl, Or.inl rfl, Or.inl rfl, Or.inl rfl, Or.inl rfl, Or.inl rfl, Or.inl rfl, Or.inl rfl, Or.inl rfl, Or.inr ⟨rfl, _, rfl⟩, trivial⟩ h
    · have h := h.2 q
      refine z_iconst hE rfl ?_
      refine z_goto hE rfl ?_
      refine z_iand hE rfl ?_
      refine z_istore hE rfl rfl rfl ?_
      have hb := h.1
      have h := h.2
      refine z_iinc hE rfl rfl rfl hb ?_
      refine z_goto hE rfl ?_
      exact GoG.weak hE (ls := [vR 76, vI a1, vI a2, vI a3, vI a4, vI a5, vI (a6 + r2), vI (a7 + ((r2 * (r2 - 1)) / 2)), vI (zand a8 1), vI (a9 + 1), vU]) ⟨Or.inl rfl, Or.inl rfl, Or.inl rfl, Or.inl rfl, Or.inl rfl, Or.inl rfl, Or.inl rfl, Or.inl rfl, Or.inl rfl, Or.inl rfl, Or.inr ⟨rfl, _, rfl⟩, trivial⟩ h
theorem sg_153_156 {d : Nat} {P : Mm → Prop} {a2 : Int} {a3 : Int} {a4 : Int} {a5 : Int} {M : Mm} (h : ((a3 ≤ a5 → H_153_180 d P a2 a3 a4 0 M) ∧ (a5 < a3 → (0 ≤ a5 ∧ a5 < 15625) ∧ inI (a5 + 1) ∧ H_153_156 d P a2 a3 a4 (a5 + 1) (mset M 103 a5 1000000)))) : H_153_156 d P a2 a3 a4 a5 M := by
  have hE := EE_mono d
  unfold H_153_156
  refine z_iload hE rfl rfl ?_
  refine z_iload hE rfl rfl ?_
  refine z_icmp_ge hE rfl ⟨fun q => ?_, fun q => ?_⟩
  · have h := h.1 q
    refine z_iconst hE rfl ?_
    refine z_istore hE rfl rfl rfl ?_
    exact h
  · have h := h.2 q
    refine z_aload hE rfl rfl rfl ?_
    refine z_getR hE (q := 103) rfl shk_76 rfl rfl rfl ?_
    refine z_iload hE rfl rfl ?_
    refine z_iconst hE rfl ?_
    have hb := h.1
    have h := h.2
    refine z_iast hE rfl shk_103 hb ?_
    have hb := h.1
    have h := h.2
    refine z_iinc hE rfl rfl rfl hb ?_
    refine z_goto hE rfl ?_
    exact h
theorem sg_153_180 {d : Nat} {P : Mm → Prop} {a2 : Int} {a3 : Int} {a4 : Int} {a5 : Int} {M : Mm} (h : ((a3 ≤ a5 → H_153_347 d P a3 0 M) ∧ (a5 < a3 → H_153_189 d P a2 a3 a4 a5 0 M))) : H_153_180 d P a2 a3 a4 a5 M := by
  have hE := EE_mono d
  unfold H_153_180
  refine z_iload hE rfl rfl ?_
  refine z_iload hE rfl rfl ?_
  refine z_icmp_ge hE rfl ⟨fun q => ?_, fun q => ?_⟩
  · have h := h.1 q
    refine z_iconst hE rfl ?_
    refine z_istore hE rfl rfl rfl ?_
    exact GoG.weak hE (ls := [vR 76, vU, vU, vI a3, vU, vI 0, vU, vU, vU, vU, vU]) ⟨Or.inl rfl, Or.inl rfl, Or.inr ⟨rfl, _, rfl⟩, Or.inl rfl, Or.inr ⟨rfl, _, rfl⟩, Or.inl rfl, Or.inl rfl, Or.inl rfl, Or.inl rfl, Or.inl rfl, Or.inl rfl, trivial⟩ h
  · have h := h.2 q
    refine z_iconst hE rfl ?_
    refine z_istore hE rfl rfl rfl ?_
    exact h
theorem sg_153_189 {d : Nat} {P : Mm → Prop} {a2 : Int} {a3 : Int} {a4 : Int} {a5 : Int} {a6 : Int} {M : Mm} (h : ((a4 ≤ a6 → inI (a5 + 1) ∧ H_153_180 d P a2 a3 a4 (a5 + 1) M) ∧ (a6 < a4 → (0 ≤ a5 ∧ a5 < 15625) ∧ ((1000000 ≤ (M 102 a5) → inI (a5 + 1) ∧ H_153_180 d P a2 a3 a4 (a5 + 1) M) ∧ ((M 102 a5) < 1000000 → H_153_214 d P a2 a3 a4 a5 a6 1 0 M))))) : H_153_189 d P a2 a3 a4 a5 a6 M := by
  have hE := EE_mono d
  unfold H_153_189
  refine z_iload hE rfl rfl ?_
  refine z_iload hE rfl rfl ?_
  refine z_icmp_ge hE rfl ⟨fun q => ?_, fun q => ?_⟩
  · have h := h.1 q
    have hb := h.1
    have h := h.2
    refine z_iinc hE rfl rfl rfl hb ?_
    refine z_goto hE rfl ?_
    exact GoG.weak hE (ls := [vR 76, vU, vI a2, vI a3, vI a4, vI (a5 + 1), vU, vU, vU, vU, vU]) ⟨Or.inl rfl, Or.inl rfl, Or.inl rfl, Or.inl rfl, Or.inl rfl, Or.inl rfl, Or.inr ⟨rfl, _, rfl⟩, Or.inl rfl, Or.inl rfl, Or.inl rfl, Or.inl rfl, trivial⟩ h
  · have h := h.2 q
    refine z_aload hE rfl rfl rfl ?_
    refine z_getR hE (q := 102) rfl shk_76 rfl rfl rfl ?_
    refine z_iload hE rfl rfl ?_
    have hb := h.1
    have h := h.2
    refine z_iald hE rfl shk_102 hb ?_
    refine z_iconst hE rfl ?_
    refine z_icmp_ge hE rfl ⟨fun q => ?_, fun q => ?_⟩
    · have h := h.1 q
      have hb := h.1
      have h := h.2
      refine z_iinc hE rfl rfl rfl hb ?_
      refine z_goto hE rfl ?_
      exact GoG.weak hE (ls := [vR 76, vU, vI a2, vI a3, vI a4, vI (a5 + 1), vU, vU, vU, vU, vU]) ⟨Or.inl rfl, Or.inl rfl, Or.inl rfl, Or.inl rfl, Or.inl rfl, Or.inl rfl, Or.inr ⟨rfl, _, rfl⟩, Or.inl rfl, Or.inl rfl, Or.inl rfl, Or.inl rfl, trivial⟩ h
    · have h := h.2 q
      refine z_iconst hE rfl ?_
      refine z_istore hE rfl rfl rfl ?_
      refine z_iconst hE rfl ?_
      refine z_istore hE rfl rfl rfl ?_
      exact h
theorem sg_153_214 {d : Nat} {P : Mm → Prop} {a2 : Int} {a3 : Int} {a4 : Int} {a5 : Int} {a6 : Int} {a7 : Int} {a8 : Int} {M : Mm} (h : ((a2 ≤ a8 → H_153_268 d P a2 a3 a4 a5 a6 a7 M) ∧ (a8 < a2 → ((a7 = 0 → H_153_268 d P a2 a3 a4 a5 a6 a7 M) ∧ (¬ a7 = 0 → EE d 154 [vI a5, vI a8] M (rI fun r1 M1 => (0 ≤ a6 ∧ a6 < 15625) ∧ EE d 154 [vI (M1 104 a6), vI a8] M1 (rI fun r2 M2 => inI (r1 + r2) ∧ (0 ≤ a8 ∧ a8 < 6) ∧ (((M2 101 a8) < (r1 + r2) → inI (a8 + 1) ∧ H_153_214 d P a2 a3 a4 a5 a6 0 (a8 + 1) M2) ∧ ((r1 + r2) ≤ (M2 101 a8) → inI (a8 + 1) ∧ H_153_214 d P a2 a3 a4 a5 a6 1 (a8 + 1) M2))))))))) : H_153_214 d P a2 a3 a4 a5 a6 a7 a8 M := by
  have hE := EE_mono d
  unfold H_153_214
  refine z_iload hE rfl rfl ?_
  refine z_iload hE rfl rfl ?_
  refine z_icmp_ge hE rfl ⟨fun q => ?_, fun q => ?_⟩
  · have h := h.1 q
    exact GoG.weak hE (ls := [vR 76, vU, vI a2, vI a3, vI a4, vI a5, vI a6, vI a7, vU, vU, vU]) ⟨Or.inl rfl, Or.inl rfl, Or.inl rfl, Or.inl rfl, Or.inl rfl, Or.inl rfl, Or.inl rfl, Or.inl rfl, Or.inr ⟨rfl, _, rfl⟩, Or.inl rfl, Or.inl rfl, trivial⟩ h
  · have h := h.2 q
    refine z_iload hE rfl rfl ?_
    refine z_if_eq hE rfl ⟨fun q => ?_, fun q => ?_⟩
    · have h := h.1 q
      exact GoG.weak hE (ls := [vR 76, vU, vI a2, vI a3, vI a4, vI a5, vI a6, vI a7, vU, vU, vU]) ⟨Or.inl rfl, Or.inl rfl, Or.inl rfl, Or.inl rfl, Or.inl rfl, Or.inl rfl, Or.inl rfl, Or.inl rfl, Or.inr ⟨rfl, _, rfl⟩, Or.inl rfl, Or.inl rfl, trivial⟩ h
    · have h := h.2 q
      refine z_iload hE rfl rfl ?_
      refine z_iload hE rfl rfl ?_
      refine z_callsI hE rfl rfl rfl rfl rfl (Nat.le_of_ble_eq_true rfl) (by decide) (EE_mono d _ _ _ _ _ (rI_mono fun r1 M1 h => ?_) h)
      refine z_aload hE rfl rfl rfl ?_
      refine z_getR hE (q := 104) rfl shk_76 rfl rfl rfl ?_
      refine z_iload hE rfl rfl ?_
      have hb := h.1
      have h := h.2
      refine z_iald hE rfl shk_104 hb ?_
      refine z_iload hE rfl rfl ?_
      refine z_callsI hE rfl rfl rfl rfl rfl (Nat.le_of_ble_eq_true rfl) (by decide) (EE_mono d _ _ _ _ _ (rI_mono fun r2 M2 h => ?_) h)
      have hb := h.1
      have h := h.2
      refine z_iadd hE rfl hb ?_
      refine z_aload hE rfl rfl rfl ?_
      refine z_getR hE (q := 101) rfl shk_76 rfl rfl rfl ?_
      refine z_iload hE rfl rfl ?_
      have hb := h.1
      have h := h.2
      refine z_iald hE rfl shk_101 hb ?_
      refine z_icmp_gt hE rfl ⟨fun q => ?_, fun q => ?_⟩
      · have h := h.1 q
        refine z_iconst hE rfl ?_
        refine z_istore hE rfl rfl rfl ?_
        have hb := h.1
        have h := h.2
        refine z_iinc hE rfl rfl rfl hb ?_
        refine z_goto hE rfl ?_
        exact h
      · have h := h.2 q
        refine z_iconst hE rfl ?_
        refine z_goto hE rfl ?_
        refine z_istore hE rfl rfl rfl ?_
        have hb := h.1
        have h := h.2
        refine z_iinc hE rfl rfl rfl hb ?_
        refine z_goto hE rfl ?_
        exact h
theorem sg_153_268 {d : Nat} {P : Mm → Prop} {a2 : Int} {a3 : Int} {a4 : Int} {a5 : Int} {a6 : Int} {a7 : Int} {M : Mm} (h : (0 ≤ a6 ∧ a6 < 15625) ∧ inI (a5 + (M 104 a6)) ∧ ((a7 = 0 → inI (a6 + 1) ∧ H_153_189 d P a2 a3 a4 a5 (a6 + 1) M) ∧ (¬ a7 = 0 → (0 ≤ a5 ∧ a5 < 15625) ∧ (0 ≤ a6 ∧ a6 < 15625) ∧ inI ((M 102 a5) + (M 105 a6)) ∧ (0 ≤ (a5 + (M 104 a6)) ∧ (a5 + (M 104 a6)) < 15625) ∧ (((M 103 (a5 + (M 104 a6))) ≤ ((M 102 a5) + (M 105 a6)) → inI (a6 + 1) ∧ H_153_189 d P a2 a3 a4 a5 (a6 + 1) M) ∧ (((M 102 a5) + (M 105 a6)) < (M 103 (a5 + (M 104 a6))) → (0 ≤ a5 ∧ a5 < 15625) ∧ (0 ≤ a6 ∧ a6 < 15625) ∧ inI ((M 102 a5) + (M 105 a6)) ∧ (0 ≤ (a5 + (M 104 a6)) ∧ (a5 + (M 104 a6)) < 15625) ∧ inI (a6 + 1) ∧ H_153_189 d P a2 a3 a4 a5 (a6 + 1) (mset M 103 (a5 + (M 104 a6)) ((M 102 a5) + (M 105 a6)))))))) : H_153_268 d P a2 a3 a4 a5 a6 a7 M := by
  have hE := EE_mono d
  unfold H_153_268
  refine z_iload hE rfl rfl ?_
  refine z_aload hE rfl rfl rfl ?_
  refine z_getR hE (q := 104) rfl shk_76 rfl rfl rfl ?_
  refine z_iload hE rfl rfl ?_
  have hb := h.1
  have h := h.2
  refine z_iald hE rfl shk_104 hb ?_
  have hb := h.1
  have h := h.2
  refine z_iadd hE rfl hb ?_
  refine z_istore hE rfl rfl rfl ?_
  refine z_iload hE rfl rfl ?_
  refine z_if_eq hE rfl ⟨fun q => ?_, fun q => ?_⟩
  · have h := h.1 q
    have hb := h.1
    have h := h.2
    refine z_iinc hE rfl rfl rfl hb ?_
    refine z_goto hE rfl ?_
    exact GoG.weak hE (ls := [vR 76, vU, vI a2, vI a3, vI a4, vI a5, vI (a6 + 1), vU, vU, vU, vU]) ⟨Or.inl rfl, Or.inl rfl, Or.inl rfl, Or.inl rfl, Or.inl rfl, Or.inl rfl, Or.inl rfl, Or.inr ⟨rfl, _, rfl⟩, Or.inr ⟨rfl, _, rfl⟩, Or.inl rfl, Or.inl rfl, trivial⟩ h
  · have h := h.2 q
    refine z_aload hE rfl rfl rfl ?_
    refine z_getR hE (q := 102) rfl shk_76 rfl rfl rfl ?_
    refine z_iload hE rfl rfl ?_
    have hb := h.1
    have h := h.2
    refine z_iald hE rfl shk_102 hb ?_
    refine z_aload hE rfl rfl rfl ?_
    refine z_getR hE (q := 105) rfl shk_76 rfl rfl rfl ?_
    refine z_iload hE rfl rfl ?_
    have hb := h.1
    have h := h.2
    refine z_iald hE rfl shk_105 hb ?_
    have hb := h.1
    have h := h.2
    refine z_iadd hE rfl hb ?_
    refine z_aload hE rfl rfl rfl ?_
    refine z_getR hE (q := 103) rfl shk_76 rfl rfl rfl ?_
    refine z_iload hE rfl rfl ?_
    have hb := h.1
    have h := h.2
    refine z_iald hE rfl shk_103 hb ?_
    refine z_icmp_ge hE rfl ⟨fun q => ?_, fun q => ?_⟩
    · have h := h.1 q
      have hb := h.1
      have h := h.2
      refine z_iinc hE rfl rfl rfl hb ?_
      refine z_goto hE rfl ?_
      exact GoG.weak hE (ls := [vR 76, vU, vI a2, vI a3, vI a4, vI a5, vI (a6 + 1), vU, vU, vU, vU]) ⟨Or.inl rfl, Or.inl rfl, Or.inl rfl, Or.inl rfl, Or.inl rfl, Or.inl rfl, Or.inl rfl, Or.inr ⟨rfl, _, rfl⟩, Or.inr ⟨rfl, _, rfl⟩, Or.inl rfl, Or.inl rfl, trivial⟩ h
    · have h := h.2 q
      refine z_aload hE rfl rfl rfl ?_
      refine z_getR hE (q := 103) rfl shk_76 rfl rfl rfl ?_
      refine z_iload hE rfl rfl ?_
      refine z_aload hE rfl rfl rfl ?_
      refine z_getR hE (q := 102) rfl shk_76 rfl rfl rfl ?_
      refine z_iload hE rfl rfl ?_
      have hb := h.1
      have h := h.2
      refine z_iald hE rfl shk_102 hb ?_
      refine z_aload hE rfl rfl rfl ?_
      refine z_getR hE (q := 105) rfl shk_76 rfl rfl rfl ?_
      refine z_iload hE rfl rfl ?_
      have hb := h.1
      have h := h.2
      refine z_iald hE rfl shk_105 hb ?_
      have hb := h.1
      have h := h.2
      refine z_iadd hE rfl hb ?_
      have hb := h.1
      have h := h.2
      refine z_iast hE rfl shk_103 hb ?_
      have hb := h.1
      have h := h.2
      refine z_iinc hE rfl rfl rfl hb ?_
      refine z_goto hE rfl ?_
      exact GoG.weak hE (ls := [vR 76, vU, vI a2, vI a3, vI a4, vI a5, vI (a6 + 1), vU, vU, vU, vU]) ⟨Or.inl rfl, Or.inl rfl, Or.inl rfl, Or.inl rfl, Or.inl rfl, Or.inl rfl, Or.inl rfl, Or.inr ⟨rfl, _, rfl⟩, Or.inr ⟨rfl, _, rfl⟩, Or.inl rfl, Or.inl rfl, trivial⟩ h
theorem sg_153_347 {d : Nat} {P : Mm → Prop} {a3 : Int} {a5 : Int} {M : Mm} (h : ((a3 ≤ a5 → P M) ∧ (a5 < a3 → (0 ≤ a5 ∧ a5 < 15625) ∧ (0 ≤ a5 ∧ a5 < 15625) ∧ inI (a5 + 1) ∧ H_153_347 d P a3 (a5 + 1) (mset M 102 a5 (M 103 a5))))) : H_153_347 d P a3 a5 M := by
  have hE := EE_mono d
  unfold H_153_347
  refine z_iload hE rfl rfl ?_
  refine z_iload hE rfl rfl ?_
  refine z_icmp_ge hE rfl ⟨fun q => ?_, fun q => ?_⟩
  · have h := h.1 q
    exact z_vret hE rfl h
  · have h := h.2 q
    refine z_aload hE rfl rfl rfl ?_
    refine z_getR hE (q := 102) rfl shk_76 rfl rfl rfl ?_
    refine z_iload hE rfl rfl ?_
    refine z_aload hE rfl rfl rfl ?_
    refine z_getR hE (q := 103) rfl shk_76 rfl rfl rfl ?_
    refine z_iload hE rfl rfl ?_
    have hb := h.1
    have h := h.2
    refine z_iald hE rfl shk_103 hb ?_
    have hb := h.1
    have h := h.2
    refine z_iast hE rfl shk_102 hb ?_
    have hb := h.1
    have h := h.2
    refine z_iinc hE rfl rfl rfl hb ?_
    refine z_goto hE rfl ?_
    exact h
/-! 154: ChildTrainsModel.digit(II)I -/
def H_154_4 (d : Nat) (P : Int → Mm → Prop) (a1 : Int) (a2 : Int) (a3 : Int) (M : Mm) : Prop := GoG false (EE d) cd_154 (rI P) 4 [vU, vI a1, vI a2, vI a3] [] M
theorem mN_154 : mN 154 = 4 := by decide +kernel
theorem ee_154 {d : Nat} {Q : Ql} {a0 : Int} {a1 : Int} {M : Mm} (h : GoG false (EE d) cd_154 Q 0 [vI a0, vI a1, vU, vU] [] M) : EE (d + 1) 154 [vI a0, vI a1] M Q := by
  have e : cdTab 154 = cd_154 := rfl
  unfold EE; rw [mN_154, e]; exact ⟨Nat.le_of_ble_eq_true rfl, h⟩
theorem sg_154 {d : Nat} {P : Int → Mm → Prop} {a0 : Int} {a1 : Int} {M : Mm} (h : H_154_4 d P a1 a0 0 M) : EE (d + 1) 154 [vI a0, vI a1] M (rI P) := by
  have hE := EE_mono d
  refine ee_154 ?_
  refine z_iload hE rfl rfl ?_
  refine z_istore hE rfl rfl rfl ?_
  refine z_iconst hE rfl ?_
  refine z_istore hE rfl rfl rfl ?_
  exact GoG.weak hE (ls := [vU, vI a1, vI a0, vI 0]) ⟨Or.inr ⟨rfl, _, rfl⟩, Or.inl rfl, Or.inl rfl, Or.inl rfl, trivial⟩ h
theorem sg_154_4 {d : Nat} {P : Int → Mm → Prop} {a1 : Int} {a2 : Int} {a3 : Int} {M : Mm} (h : ((a1 ≤ a3 → (0 ≤ a2 ∧ a2 ≤ 2147483647 ∧ (0 : Int) < 5) ∧ P (a2 % 5) M) ∧ (a3 < a1 → (0 ≤ a2 ∧ a2 ≤ 2147483647 ∧ (0 : Int) < 5) ∧ inI (a3 + 1) ∧ H_154_4 d P a1 (a2 / 5) (a3 + 1) M))) : H_154_4 d P a1 a2 a3 M := by
  have hE := EE_mono d
  unfold H_154_4
  refine z_iload hE rfl rfl ?_
  refine z_iload hE rfl rfl ?_
  refine z_icmp_ge hE rfl ⟨fun q => ?_, fun q => ?_⟩
  · have h := h.1 q
    refine z_iload hE rfl rfl ?_
    refine z_iconst hE rfl ?_
    have hb := h.1
    have h := h.2
    refine z_irem hE rfl hb ?_
    exact z_iret hE rfl rfl h
  · have h := h.2 q
    refine z_iload hE rfl rfl ?_
    refine z_iconst hE rfl ?_
    have hb := h.1
    have h := h.2
    refine z_idiv hE rfl hb ?_
    refine z_istore hE rfl rfl rfl ?_
    have hb := h.1
    have h := h.2
    refine z_iinc hE rfl rfl rfl hb ?_
    refine z_goto hE rfl ?_
    exact h
/-! 155: ChildTrainsModel.can(II)Z -/
def H_155_2 (d : Nat) (P : Int → Mm → Prop) (a1 : Int) (a2 : Int) (a3 : Int) (M : Mm) : Prop := GoG false (EE d) cd_155 (rI P) 2 [vR 76, vI a1, vI a2, vI a3, vU, vU, vU, vU] [] M
def H_155_18 (d : Nat) (P : Int → Mm → Prop) (a1 : Int) (a2 : Int) (a3 : Int) (a4 : Int) (a5 : Int) (a6 : Int) (M : Mm) : Prop := GoG false (EE d) cd_155 (rI P) 18 [vR 76, vI a1, vI a2, vI a3, vI a4, vI a5, vI a6, vU] [] M
def H_155_91 (d : Nat) (P : Int → Mm → Prop) (a1 : Int) (a2 : Int) (a3 : Int) (a4 : Int) (a5 : Int) (a6 : Int) (a7 : Int) (M : Mm) : Prop := GoG false (EE d) cd_155 (rI P) 91 [vR 76, vI a1, vI a2, vI a3, vI a4, vI a5, vI a6, vI a7] [] M
theorem mN_155 : mN 155 = 8 := by decide +kernel
theorem ee_155 {d : Nat} {Q : Ql} {a1 : Int} {a2 : Int} {M : Mm} (h : GoG false (EE d) cd_155 Q 0 [vR 76, vI a1, vI a2, vU, vU, vU, vU, vU] [] M) : EE (d + 1) 155 [vR 76, vI a1, vI a2] M Q := by
  have e : cdTab 155 = cd_155 := rfl
  unfold EE; rw [mN_155, e]; exact ⟨Nat.le_of_ble_eq_true rfl, h⟩
theorem sg_155 {d : Nat} {P : Int → Mm → Prop} {a1 : Int} {a2 : Int} {M : Mm} (h : H_155_2 d P a1 a2 1 M) : EE (d + 1) 155 [vR 76, vI a1, vI a2] M (rI P) := by
  have hE := EE_mono d
  refine ee_155 ?_
  refine z_iconst hE rfl ?_
  refine z_istore hE rfl rfl rfl ?_
  exact h
theorem sg_155_2 {d : Nat} {P : Int → Mm → Prop} {a1 : Int} {a2 : Int} {a3 : Int} {M : Mm} (h : (((zshl 1 a2) ≤ a3 → P 1 M) ∧ (a3 < (zshl 1 a2) → H_155_18 d P a1 a2 a3 0 0 0 M))) : H_155_2 d P a1 a2 a3 M := by
  have hE := EE_mono d
  unfold H_155_2
  refine z_iload hE rfl rfl ?_
  refine z_iconst hE rfl ?_
  refine z_iload hE rfl rfl ?_
  refine z_ishl hE rfl ?_
  refine z_icmp_ge hE rfl ⟨fun q => ?_, fun q => ?_⟩
  · have h := h.1 q
    refine z_iconst hE rfl ?_
    exact z_zret hE rfl rfl (Or.inr rfl) h
  · have h := h.2 q
    refine z_iconst hE rfl ?_
    refine z_istore hE rfl rfl rfl ?_
    refine z_iconst hE rfl ?_
    refine z_istore hE rfl rfl rfl ?_
    refine z_iconst hE rfl ?_
    refine z_istore hE rfl rfl rfl ?_
    exact h
theorem sg_155_18 {d : Nat} {P : Int → Mm → Prop} {a1 : Int} {a2 : Int} {a3 : Int} {a4 : Int} {a5 : Int} {a6 : Int} {M : Mm} (h : ((a2 ≤ a6 → H_155_91 d P a1 a2 a3 a4 a5 0 0 M) ∧ (a6 < a2 → ((¬ (zand (zshr a3 a6) 1) = 1 → inI (a6 + 1) ∧ H_155_18 d P a1 a2 a3 a4 a5 (a6 + 1) M) ∧ ((zand (zshr a3 a6) 1) = 1 → EE d 154 [vI a1, vI a6] M (rI fun r1 M1 => inI (a4 + r1) ∧ ((r1 ≤ 0 → inI (a6 + 1) ∧ H_155_18 d P a1 a2 a3 (a4 + r1) (zor a5 0) (a6 + 1) M1) ∧ (0 < r1 → (0 ≤ a6 ∧ a6 < 24) ∧ inI (5 * (M1 100 a6)) ∧ inI ((5 * (M1 100 a6)) + 3) ∧ (0 ≤ ((5 * (M1 100 a6)) + 3) ∧ ((5 * (M1 100 a6)) + 3) < 120) ∧ inI (a6 + 1) ∧ H_155_18 d P a1 a2 a3 (a4 + r1) (zor a5 (M1 89 ((5 * (M1 100 a6)) + 3))) (a6 + 1) M1)))))))) : H_155_18 d P a1 a2 a3 a4 a5 a6 M := by
  have hE := EE_mono d
  unfold H_155_18
  refine z_iload hE rfl rfl ?_
  refine z_iload hE rfl rfl ?_
  refine z_icmp_ge hE rfl ⟨fun q => ?_, fun q => ?_⟩
  · have h := h.1 q
    refine z_iconst hE rfl ?_
    refine z_istore hE rfl rfl rfl ?_
    refine z_iconst hE rfl ?_
    refine z_istore hE rfl rfl rfl ?_
    exact h
  · have h := h.2 q
    refine z_iload hE rfl rfl ?_
    refine z_iload hE rfl rfl ?_
    refine z_ishr hE rfl ?_
    refine z_iconst hE rfl ?_
    refine z_iand hE rfl ?_
    refine z_iconst hE rfl ?_
    refine z_icmp_ne hE rfl ⟨fun q => ?_, fun q => ?_⟩
    · have h := h.1 q
      have hb := h.1
      have h := h.2
      refine z_iinc hE rfl rfl rfl hb ?_
      refine z_goto hE rfl ?_
      exact h
    · have h := h.2 q
      refine z_iload hE rfl rfl ?_
      refine z_iload hE rfl rfl ?_
      refine z_callsI hE rfl rfl rfl rfl rfl (Nat.le_of_ble_eq_true rfl) (by decide) (EE_mono d _ _ _ _ _ (rI_mono fun r1 M1 h => ?_) h)
      refine z_istore hE rfl rfl rfl ?_
      refine z_iload hE rfl rfl ?_
      refine z_iload hE rfl rfl ?_
      have hb := h.1
      have h := h.2
      refine z_iadd hE rfl hb ?_
      refine z_istore hE rfl rfl rfl ?_
      refine z_iload hE rfl rfl ?_
      refine z_iload hE rfl rfl ?_
      refine z_if_le hE rfl ⟨fun q => ?_, fun q => ?_⟩
      · have h := h.1 q
        refine z_iconst hE rfl ?_
        refine z_ior hE rfl ?_
        refine z_istore hE rfl rfl rfl ?_
        have hb := h.1
        have h := h.2
        refine z_iinc hE rfl rfl rfl hb ?_
        refine z_goto hE rfl ?_
        exact GoG.weak hE (ls := [vR 76, vI a1, vI a2, vI a3, vI (a4 + r1), vI (zor a5 0), vI (a6 + 1), vU]) ⟨Or.inl rfl, Or.inl rfl, Or.inl rfl, Or.inl rfl, Or.inl rfl, Or.inl rfl, Or.inl rfl, Or.inr ⟨rfl, _, rfl⟩, trivial⟩ h
      · have h := h.2 q
        refine z_aload hE rfl rfl rfl ?_
        refine z_getR hE (q := 89) rfl shk_76 rfl rfl rfl ?_
        refine z_iconst hE rfl ?_
        refine z_aload hE rfl rfl rfl ?_
        refine z_getR hE (q := 100) rfl shk_76 rfl rfl rfl ?_
        refine z_iload hE rfl rfl ?_
        have hb := h.1
        have h := h.2
        refine z_iald hE rfl shk_100 hb ?_
        have hb := h.1
        have h := h.2
        refine z_imul hE rfl hb ?_
        refine z_iconst hE rfl ?_
        have hb := h.1
        have h := h.2
        refine z_iadd hE rfl hb ?_
        have hb := h.1
        have h := h.2
        refine z_iald hE rfl shk_89 hb ?_
        refine z_goto hE rfl ?_
        refine z_ior hE rfl ?_
        refine z_istore hE rfl rfl rfl ?_
        have hb := h.1
        have h := h.2
        refine z_iinc hE rfl rfl rfl hb ?_
        refine z_goto hE rfl ?_
        exact GoG.weak hE (ls := [vR 76, vI a1, vI a2, vI a3, vI (a4 + r1), vI (zor a5 (M1 89 ((5 * (M1 100 a6)) + 3))), vI (a6 + 1), vU]) ⟨Or.inl rfl, Or.inl rfl, Or.inl rfl, Or.inl rfl, Or.inl rfl, Or.inl rfl, Or.inl rfl, Or.inr ⟨rfl, _, rfl⟩, trivial⟩ h
theorem sg_155_91 {d : Nat} {P : Int → Mm → Prop} {a1 : Int} {a2 : Int} {a3 : Int} {a4 : Int} {a5 : Int} {a6 : Int} {a7 : Int} {M : Mm} (h : ((4 ≤ a7 → ((a4 ≤ a6 → inI (a3 + 1) ∧ H_155_2 d P a1 a2 (a3 + 1) M) ∧ (a6 < a4 → P 0 M))) ∧ (a7 < 4 → ((¬ (zand (zshr a5 a7) 1) = 1 → inI (a6 + 0) ∧ inI (a7 + 1) ∧ H_155_91 d P a1 a2 a3 a4 a5 (a6 + 0) (a7 + 1) M) ∧ ((zand (zshr a5 a7) 1) = 1 → (0 ≤ a7 ∧ a7 < 4) ∧ inI (a6 + (M 106 a7)) ∧ inI (a7 + 1) ∧ H_155_91 d P a1 a2 a3 a4 a5 (a6 + (M 106 a7)) (a7 + 1) M))))) : H_155_91 d P a1 a2 a3 a4 a5 a6 a7 M := by
  have hE := EE_mono d
  unfold H_155_91
  refine z_iload hE rfl rfl ?_
  refine z_iconst hE rfl ?_
  refine z_icmp_ge hE rfl ⟨fun q => ?_, fun q => ?_⟩
  · have h := h.1 q
    refine z_iload hE rfl rfl ?_
    refine z_iload hE rfl rfl ?_
    refine z_icmp_le hE rfl ⟨fun q => ?_, fun q => ?_⟩
    · have h := h.1 q
      have hb := h.1
      have h := h.2
      refine z_iinc hE rfl rfl rfl hb ?_
      refine z_goto hE rfl ?_
      exact GoG.weak hE (ls := [vR 76, vI a1, vI a2, vI (a3 + 1), vU, vU, vU, vU]) ⟨Or.inl rfl, Or.inl rfl, Or.inl rfl, Or.inl rfl, Or.inr ⟨rfl, _, rfl⟩, Or.inr ⟨rfl, _, rfl⟩, Or.inr ⟨rfl, _, rfl⟩, Or.inr ⟨rfl, _, rfl⟩, trivial⟩ h
    · have h := h.2 q
      refine z_iconst hE rfl ?_
      exact z_zret hE rfl rfl (Or.inl rfl) h
  · have h := h.2 q
    refine z_iload hE rfl rfl ?_
    refine z_iload hE rfl rfl ?_
    refine z_iload hE rfl rfl ?_
    refine z_ishr hE rfl ?_
    refine z_iconst hE rfl ?_
    refine z_iand hE rfl ?_
    refine z_iconst hE rfl ?_
    refine z_icmp_ne hE rfl ⟨fun q => ?_, fun q => ?_⟩
    · have h := h.1 q
      refine z_iconst hE rfl ?_
      have hb := h.1
      have h := h.2
      refine z_iadd hE rfl hb ?_
      refine z_istore hE rfl rfl rfl ?_
      have hb := h.1
      have h := h.2
      refine z_iinc hE rfl rfl rfl hb ?_
      refine z_goto hE rfl ?_
      exact h
    · have h := h.2 q
      refine z_aload hE rfl rfl rfl ?_
      refine z_getR hE (q := 106) rfl shk_76 rfl rfl rfl ?_
      refine z_iload hE rfl rfl ?_
      have hb := h.1
      have h := h.2
      refine z_iald hE rfl shk_106 hb ?_
      refine z_goto hE rfl ?_
      have hb := h.1
      have h := h.2
      refine z_iadd hE rfl hb ?_
      refine z_istore hE rfl rfl rfl ?_
      have hb := h.1
      have h := h.2
      refine z_iinc hE rfl rfl rfl hb ?_
      refine z_goto hE rfl ?_
      exact h
/-! 156: ChildTrainsModel.readsOrder(I)Z -/
def H_156_28 (d : Nat) (P : Int → Mm → Prop) (a1 : Int) (a2 : Int) (M : Mm) : Prop := GoG false (EE d) cd_156 (rI P) 28 [vR 76, vI a1, vI a2, vU] [] M
def H_156_54 (d : Nat) (P : Int → Mm → Prop) (a1 : Int) (s0 : Int) (s1 : Int) (M : Mm) : Prop := GoG false (EE d) cd_156 (rI P) 54 [vR 76, vI a1, vU, vU] [vI s0, vI s1, vR 93] M
def H_156_127 (d : Nat) (P : Int → Mm → Prop) (a1 : Int) (a2 : Int) (M : Mm) : Prop := GoG false (EE d) cd_156 (rI P) 127 [vR 76, vI a1, vI a2, vU] [] M
def H_156_155 (d : Nat) (P : Int → Mm → Prop) (a1 : Int) (s0 : Int) (s1 : Int) (M : Mm) : Prop := GoG false (EE d) cd_156 (rI P) 155 [vR 76, vI a1, vU, vU] [vI s0, vI s1, vR 93] M
def H_156_194 (d : Nat) (P : Int → Mm → Prop) (a1 : Int) (a2 : Int) (M : Mm) : Prop := GoG false (EE d) cd_156 (rI P) 194 [vR 76, vI a1, vI a2, vU] [] M
def H_156_222 (d : Nat) (P : Int → Mm → Prop) (a1 : Int) (s0 : Int) (s1 : Int) (M : Mm) : Prop := GoG false (EE d) cd_156 (rI P) 222 [vR 76, vI a1, vU, vU] [vI s0, vI s1, vR 93] M
def H_156_235 (d : Nat) (P : Int → Mm → Prop) (a1 : Int) (a3 : Int) (M : Mm) : Prop := GoG false (EE d) cd_156 (rI P) 235 [vR 76, vI a1, vU, vI a3] [] M
def H_156_264 (d : Nat) (P : Int → Mm → Prop) (a3 : Int) (M : Mm) : Prop := GoG false (EE d) cd_156 (rI P) 264 [vR 76, vU, vU, vI a3] [] M
theorem mN_156 : mN 156 = 4 := by decide +kernel
theorem ee_156 {d : Nat} {Q : Ql} {a1 : Int} {M : Mm} (h : GoG false (EE d) cd_156 Q 0 [vR 76, vI a1, vU, vU] [] M) : EE (d + 1) 156 [vR 76, vI a1] M Q := by
  have e : cdTab 156 = cd_156 := rfl
  unfold EE; rw [mN_156, e]; exact ⟨Nat.le_of_ble_eq_true rfl, h⟩
theorem sg_156 {d : Nat} {P : Int → Mm → Prop} {a1 : Int} {M : Mm} (h : EE d 157 [vR 76] M (rI fun r1 M1 => ((r1 = 109 → H_156_28 d P a1 r1 M1) ∧ (¬ r1 = 109 → ((r1 = 99 → H_156_28 d P a1 r1 M1) ∧ (¬ r1 = 99 → ((r1 = 112 → H_156_28 d P a1 r1 M1) ∧ (¬ r1 = 112 → EE d 158 [vR 76] M1 (rI fun r2 M2 => (r2 = 0 ∨ r2 = 1) ∧ P r2 M2))))))))) : EE (d + 1) 156 [vR 76, vI a1] M (rI P) := by
  have hE := EE_mono d
  refine ee_156 ?_
  refine z_aload hE rfl rfl rfl ?_
  refine z_callvI hE rfl rfl rfl rfl rfl (Nat.le_of_ble_eq_true rfl) (by decide) ⟨rfl, rfl⟩ (EE_mono d _ _ _ _ _ (rI_mono fun r1 M1 h => ?_) h)
  refine z_istore hE rfl rfl rfl ?_
  refine z_iload hE rfl rfl ?_
  refine z_iconst hE rfl ?_
  refine z_icmp_eq hE rfl ⟨fun q => ?_, fun q => ?_⟩
  · have h := h.1 q
    exact h
  · have h := h.2 q
    refine z_iload hE rfl rfl ?_
    refine z_iconst hE rfl ?_
    refine z_icmp_eq hE rfl ⟨fun q => ?_, fun q => ?_⟩
    · have h := h.1 q
      exact h
    · have h := h.2 q
      refine z_iload hE rfl rfl ?_
      refine z_iconst hE rfl ?_
      refine z_icmp_eq hE rfl ⟨fun q => ?_, fun q => ?_⟩
      · have h := h.1 q
        exact h
      · have h := h.2 q
        refine z_aload hE rfl rfl rfl ?_
        refine z_callvI hE rfl rfl rfl rfl rfl (Nat.le_of_ble_eq_true rfl) (by decide) ⟨rfl, rfl⟩ (EE_mono d _ _ _ _ _ (rI_mono fun r2 M2 h => ?_) h)
        have hb := h.1
        have h := h.2
        exact z_zret hE rfl rfl hb h
theorem sg_156_28 {d : Nat} {P : Int → Mm → Prop} {a1 : Int} {a2 : Int} {M : Mm} (h : ((¬ a2 = 109 → ((¬ a2 = 99 → H_156_54 d P a1 2 a1 M) ∧ (a2 = 99 → H_156_54 d P a1 1 a1 M))) ∧ (a2 = 109 → H_156_54 d P a1 0 a1 M))) : H_156_28 d P a1 a2 M := by
  have hE := EE_mono d
  unfold H_156_28
  refine z_aload hE rfl rfl rfl ?_
  refine z_getR hE (q := 93) rfl shk_76 rfl rfl rfl ?_
  refine z_iload hE rfl rfl ?_
  refine z_iload hE rfl rfl ?_
  refine z_iconst hE rfl ?_
  refine z_icmp_ne hE rfl ⟨fun q => ?_, fun q => ?_⟩
  · have h := h.1 q
    refine z_iload hE rfl rfl ?_
    refine z_iconst hE rfl ?_
    refine z_icmp_ne hE rfl ⟨fun q => ?_, fun q => ?_⟩
    · have h := h.1 q
      refine z_iconst hE rfl ?_
      exact GoG.weak hE (ls := [vR 76, vI a1, vU, vU]) ⟨Or.inl rfl, Or.inl rfl, Or.inr ⟨rfl, _, rfl⟩, Or.inl rfl, trivial⟩ h
    · have h := h.2 q
      refine z_iconst hE rfl ?_
      refine z_goto hE rfl ?_
      exact GoG.weak hE (ls := [vR 76, vI a1, vU, vU]) ⟨Or.inl rfl, Or.inl rfl, Or.inr ⟨rfl, _, rfl⟩, Or.inl rfl, trivial⟩ h
  · have h := h.2 q
    refine z_iconst hE rfl ?_
    refine z_goto hE rfl ?_
    exact GoG.weak hE (ls := [vR 76, vI a1, vU, vU]) ⟨Or.inl rfl, Or.inl rfl, Or.inr ⟨rfl, _, rfl⟩, Or.inl rfl, trivial⟩ h
theorem sg_156_54 {d : Nat} {P : Int → Mm → Prop} {a1 : Int} {s0 : Int} {s1 : Int} {M : Mm} (h : (0 ≤ s1 ∧ s1 < 750) ∧ inI ((M 76 24) + 1) ∧ EE d 159 [vR 76, vI 99] (mset (mset M 93 s1 s0) 76 24 ((M 76 24) + 1)) (rI fun r1 M1 => ((¬ r1 = 0 → inI (a1 + 1) ∧ (0 ≤ (a1 + 1) ∧ (a1 + 1) < 750) ∧ EE d 160 [vR 76, vI 58] (mset M1 93 (a1 + 1) (M1 76 25)) (rI fun r2 M2 => ((¬ r2 = 0 → EE d 157 [vR 76] M2 (rI fun r3 M3 => ((r3 = 43 → H_156_127 d P a1 r3 M3) ∧ (¬ r3 = 43 → ((r3 = 61 → H_156_127 d P a1 r3 M3) ∧ (¬ r3 = 61 → ((r3 = 45 → H_156_127 d P a1 r3 M3) ∧ (¬ r3 = 45 → EE d 158 [vR 76] M3 (rI fun r4 M4 => (r4 = 0 ∨ r4 = 1) ∧ P r4 M4))))))))) ∧ (r2 = 0 → P 0 M2)))) ∧ (r1 = 0 → P 0 M1)))) : H_156_54 d P a1 s0 s1 M := by
  have hE := EE_mono d
  unfold H_156_54
  have hb := h.1
  have h := h.2
  refine z_iast hE rfl shk_93 hb ?_
  refine z_aload hE rfl rfl rfl ?_
  refine z_dup hE rfl rfl ?_
  refine z_getI hE (sl := 24) rfl shk_76 rfl rfl rfl ?_
  refine z_iconst hE rfl ?_
  have hb := h.1
  have h := h.2
  refine z_iadd hE rfl hb ?_
  refine z_putI hE (sl := 24) rfl shk_76 rfl rfl rfl ?_
  refine z_aload hE rfl rfl rfl ?_
  refine z_iconst hE rfl ?_
  refine z_callvI hE rfl rfl rfl rfl rfl (Nat.le_of_ble_eq_true rfl) (by decide) ⟨rfl, rfl⟩ (EE_mono d _ _ _ _ _ (rI_mono fun r1 M1 h => ?_) h)
  refine z_if_ne hE rfl ⟨fun q => ?_, fun q => ?_⟩
  · have h := h.1 q
    refine z_aload hE rfl rfl rfl ?_
    refine z_getR hE (q := 93) rfl shk_76 rfl rfl rfl ?_
    refine z_iload hE rfl rfl ?_
    refine z_iconst hE rfl ?_
    have hb := h.1
    have h := h.2
    refine z_iadd hE rfl hb ?_
    refine z_aload hE rfl rfl rfl ?_
    refine z_getI hE (sl := 25) rfl shk_76 rfl rfl rfl ?_
    have hb := h.1
    have h := h.2
    refine z_iast hE rfl shk_93 hb ?_
    refine z_aload hE rfl rfl rfl ?_
    refine z_iconst hE rfl ?_
    refine z_callvI hE rfl rfl rfl rfl rfl (Nat.le_of_ble_eq_true rfl) (by decide) ⟨rfl, rfl⟩ (EE_mono d _ _ _ _ _ (rI_mono fun r2 M2 h => ?_) h)
    refine z_if_ne hE rfl ⟨fun q => ?_, fun q => ?_⟩
    · have h := h.1 q
      refine z_aload hE rfl rfl rfl ?_
      refine z_callvI hE rfl rfl rfl rfl rfl (Nat.le_of_ble_eq_true rfl) (by decide) ⟨rfl, rfl⟩ (EE_mono d _ _ _ _ _ (rI_mono fun r3 M3 h => ?_) h)
      refine z_istore hE rfl rfl rfl ?_
      refine z_iload hE rfl rfl ?_
      refine z_iconst hE rfl ?_
      refine z_icmp_eq hE rfl ⟨fun q => ?_, fun q => ?_⟩
      · have h := h.1 q
        exact h
      · have h := h.2 q
        refine z_iload hE rfl rfl ?_
        refine z_iconst hE rfl ?_
        refine z_icmp_eq hE rfl ⟨fun q => ?_, fun q => ?_⟩
        · have h := h.1 q
          exact h
        · have h := h.2 q
          refine z_iload hE rfl rfl ?_
          refine z_iconst hE rfl ?_
          refine z_icmp_eq hE rfl ⟨fun q => ?_, fun q => ?_⟩
          · have h := h.1 q
            exact h
          · have h := h.2 q
            refine z_aload hE rfl rfl rfl ?_
            refine z_callvI hE rfl rfl rfl rfl rfl (Nat.le_of_ble_eq_true rfl) (by decide) ⟨rfl, rfl⟩ (EE_mono d _ _ _ _ _ (rI_mono fun r4 M4 h => ?_) h)
            have hb := h.1
            have h := h.2
            exact z_zret hE rfl rfl hb h
    · have h := h.2 q
      refine z_iconst hE rfl ?_
      exact z_zret hE rfl rfl (Or.inl rfl) h
  · have h := h.2 q
    refine z_iconst hE rfl ?_
    exact z_zret hE rfl rfl (Or.inl rfl) h
theorem sg_156_127 {d : Nat} {P : Int → Mm → Prop} {a1 : Int} {a2 : Int} {M : Mm} (h : inI (a1 + 2) ∧ ((¬ a2 = 43 → ((¬ a2 = 61 → H_156_155 d P a1 (-1) (a1 + 2) M) ∧ (a2 = 61 → H_156_155 d P a1 0 (a1 + 2) M))) ∧ (a2 = 43 → H_156_155 d P a1 1 (a1 + 2) M))) : H_156_127 d P a1 a2 M := by
  have hE := EE_mono d
  unfold H_156_127
  refine z_aload hE rfl rfl rfl ?_
  refine z_getR hE (q := 93) rfl shk_76 rfl rfl rfl ?_
  refine z_iload hE rfl rfl ?_
  refine z_iconst hE rfl ?_
  have hb := h.1
  have h := h.2
  refine z_iadd hE rfl hb ?_
  refine z_iload hE rfl rfl ?_
  refine z_iconst hE rfl ?_
  refine z_icmp_ne hE rfl ⟨fun q => ?_, fun q => ?_⟩
  · have h := h.1 q
    refine z_iload hE rfl rfl ?_
    refine z_iconst hE rfl ?_
    refine z_icmp_ne hE rfl ⟨fun q => ?_, fun q => ?_⟩
    · have h := h.1 q
      refine z_iconst hE rfl ?_
      exact GoG.weak hE (ls := [vR 76, vI a1, vU, vU]) ⟨Or.inl rfl, Or.inl rfl, Or.inr ⟨rfl, _, rfl⟩, Or.inl rfl, trivial⟩ h
    · have h := h.2 q
      refine z_iconst hE rfl ?_
      refine z_goto hE rfl ?_
      exact GoG.weak hE (ls := [vR 76, vI a1, vU, vU]) ⟨Or.inl rfl, Or.inl rfl, Or.inr ⟨rfl, _, rfl⟩, Or.inl rfl, trivial⟩ h
  · have h := h.2 q
    refine z_iconst hE rfl ?_
    refine z_goto hE rfl ?_
    exact GoG.weak hE (ls := [vR 76, vI a1, vU, vU]) ⟨Or.inl rfl, Or.inl rfl, Or.inr ⟨rfl, _, rfl⟩, Or.inl rfl, trivial⟩ h
theorem sg_156_155 {d : Nat} {P : Int → Mm → Prop} {a1 : Int} {s0 : Int} {s1 : Int} {M : Mm} (h : (0 ≤ s1 ∧ s1 < 750) ∧ inI ((M 76 24) + 1) ∧ EE d 157 [vR 76] (mset (mset M 93 s1 s0) 76 24 ((M 76 24) + 1)) (rI fun r1 M1 => ((r1 = 108 → H_156_194 d P a1 r1 M1) ∧ (¬ r1 = 108 → ((r1 = 118 → H_156_194 d P a1 r1 M1) ∧ (¬ r1 = 118 → ((r1 = 102 → H_156_194 d P a1 r1 M1) ∧ (¬ r1 = 102 → EE d 158 [vR 76] M1 (rI fun r2 M2 => (r2 = 0 ∨ r2 = 1) ∧ P r2 M2))))))))) : H_156_155 d P a1 s0 s1 M := by
  have hE := EE_mono d
  unfold H_156_155
  have hb := h.1
  have h := h.2
  refine z_iast hE rfl shk_93 hb ?_
  refine z_aload hE rfl rfl rfl ?_
  refine z_dup hE rfl rfl ?_
  refine z_getI hE (sl := 24) rfl shk_76 rfl rfl rfl ?_
  refine z_iconst hE rfl ?_
  have hb := h.1
  have h := h.2
  refine z_iadd hE rfl hb ?_
  refine z_putI hE (sl := 24) rfl shk_76 rfl rfl rfl ?_
  refine z_aload hE rfl rfl rfl ?_
  refine z_callvI hE rfl rfl rfl rfl rfl (Nat.le_of_ble_eq_true rfl) (by decide) ⟨rfl, rfl⟩ (EE_mono d _ _ _ _ _ (rI_mono fun r1 M1 h => ?_) h)
  refine z_istore hE rfl rfl rfl ?_
  refine z_iload hE rfl rfl ?_
  refine z_iconst hE rfl ?_
  refine z_icmp_eq hE rfl ⟨fun q => ?_, fun q => ?_⟩
  · have h := h.1 q
    exact h
  · have h := h.2 q
    refine z_iload hE rfl rfl ?_
    refine z_iconst hE rfl ?_
    refine z_icmp_eq hE rfl ⟨fun q => ?_, fun q => ?_⟩
    · have h := h.1 q
      exact h
    · have h := h.2 q
      refine z_iload hE rfl rfl ?_
      refine z_iconst hE rfl ?_
      refine z_icmp_eq hE rfl ⟨fun q => ?_, fun q => ?_⟩
      · have h := h.1 q
        exact h
      · have h := h.2 q
        refine z_aload hE rfl rfl rfl ?_
        refine z_callvI hE rfl rfl rfl rfl rfl (Nat.le_of_ble_eq_true rfl) (by decide) ⟨rfl, rfl⟩ (EE_mono d _ _ _ _ _ (rI_mono fun r2 M2 h => ?_) h)
        have hb := h.1
        have h := h.2
        exact z_zret hE rfl rfl hb h
theorem sg_156_194 {d : Nat} {P : Int → Mm → Prop} {a1 : Int} {a2 : Int} {M : Mm} (h : inI (a1 + 3) ∧ ((¬ a2 = 108 → ((¬ a2 = 118 → H_156_222 d P a1 2 (a1 + 3) M) ∧ (a2 = 118 → H_156_222 d P a1 1 (a1 + 3) M))) ∧ (a2 = 108 → H_156_222 d P a1 0 (a1 + 3) M))) : H_156_194 d P a1 a2 M := by
  have hE := EE_mono d
  unfold H_156_194
  refine z_aload hE rfl rfl rfl ?_
  refine z_getR hE (q := 93) rfl shk_76 rfl rfl rfl ?_
  refine z_iload hE rfl rfl ?_
  refine z_iconst hE rfl ?_
  have hb := h.1
  have h := h.2
  refine z_iadd hE rfl hb ?_
  refine z_iload hE rfl rfl ?_
  refine z_iconst hE rfl ?_
  refine z_icmp_ne hE rfl ⟨fun q => ?_, fun q => ?_⟩
  · have h := h.1 q
    refine z_iload hE rfl rfl ?_
    refine z_iconst hE rfl ?_
    refine z_icmp_ne hE rfl ⟨fun q => ?_, fun q => ?_⟩
    · have h := h.1 q
      refine z_iconst hE rfl ?_
      exact GoG.weak hE (ls := [vR 76, vI a1, vU, vU]) ⟨Or.inl rfl, Or.inl rfl, Or.inr ⟨rfl, _, rfl⟩, Or.inl rfl, trivial⟩ h
    · have h := h.2 q
      refine z_iconst hE rfl ?_
      refine z_goto hE rfl ?_
      exact GoG.weak hE (ls := [vR 76, vI a1, vU, vU]) ⟨Or.inl rfl, Or.inl rfl, Or.inr ⟨rfl, _, rfl⟩, Or.inl rfl, trivial⟩ h
  · have h := h.2 q
    refine z_iconst hE rfl ?_
    refine z_goto hE rfl ?_
    exact GoG.weak hE (ls := [vR 76, vI a1, vU, vU]) ⟨Or.inl rfl, Or.inl rfl, Or.inr ⟨rfl, _, rfl⟩, Or.inl rfl, trivial⟩ h
theorem sg_156_222 {d : Nat} {P : Int → Mm → Prop} {a1 : Int} {s0 : Int} {s1 : Int} {M : Mm} (h : (0 ≤ s1 ∧ s1 < 750) ∧ inI ((M 76 24) + 1) ∧ H_156_235 d P a1 0 (mset (mset M 93 s1 s0) 76 24 ((M 76 24) + 1))) : H_156_222 d P a1 s0 s1 M := by
  have hE := EE_mono d
  unfold H_156_222
  have hb := h.1
  have h := h.2
  refine z_iast hE rfl shk_93 hb ?_
  refine z_aload hE rfl rfl rfl ?_
  refine z_dup hE rfl rfl ?_
  refine z_getI hE (sl := 24) rfl shk_76 rfl rfl rfl ?_
  refine z_iconst hE rfl ?_
  have hb := h.1
  have h := h.2
  refine z_iadd hE rfl hb ?_
  refine z_putI hE (sl := 24) rfl shk_76 rfl rfl rfl ?_
  refine z_iconst hE rfl ?_
  refine z_istore hE rfl rfl rfl ?_
  exact h
theorem sg_156_235 {d : Nat} {P : Int → Mm → Prop} {a1 : Int} {a3 : Int} {M : Mm} (h : EE d 157 [vR 76] M (rI fun r1 M1 => ((r1 = 59 → inI (a1 + 4) ∧ (0 ≤ (a1 + 4) ∧ (a1 + 4) < 750) ∧ inI ((M1 76 24) + 1) ∧ P 1 (mset (mset M1 93 (a1 + 4) a3) 76 24 ((M1 76 24) + 1))) ∧ (¬ r1 = 59 → ((a3 = 6 → H_156_264 d P a3 M1) ∧ (¬ a3 = 6 → inI (a1 + 5) ∧ inI (3 * a3) ∧ inI ((a1 + 5) + (3 * a3)) ∧ EE d 161 [vR 76, vI ((a1 + 5) + (3 * a3))] M1 (rI fun r2 M2 => ((¬ r2 = 0 → inI (a3 + 1) ∧ H_156_235 d P a1 (a3 + 1) M2) ∧ (r2 = 0 → H_156_264 d P a3 M2))))))))) : H_156_235 d P a1 a3 M := by
  have hE := EE_mono d
  unfold H_156_235
  refine z_aload hE rfl rfl rfl ?_
  refine z_callvI hE rfl rfl rfl rfl rfl (Nat.le_of_ble_eq_true rfl) (by decide) ⟨rfl, rfl⟩ (EE_mono d _ _ _ _ _ (rI_mono fun r1 M1 h => ?_) h)
  refine z_iconst hE rfl ?_
  refine z_icmp_eq hE rfl ⟨fun q => ?_, fun q => ?_⟩
  · have h := h.1 q
    refine z_aload hE rfl rfl rfl ?_
    refine z_getR hE (q := 93) rfl shk_76 rfl rfl rfl ?_
    refine z_iload hE rfl rfl ?_
    refine z_iconst hE rfl ?_
    have hb := h.1
    have h := h.2
    refine z_iadd hE rfl hb ?_
    refine z_iload hE rfl rfl ?_
    have hb := h.1
    have h := h.2
    refine z_iast hE rfl shk_93 hb ?_
    refine z_aload hE rfl rfl rfl ?_
    refine z_dup hE rfl rfl ?_
    refine z_getI hE (sl := 24) rfl shk_76 rfl rfl rfl ?_
    refine z_iconst hE rfl ?_
    have hb := h.1
    have h := h.2
    refine z_iadd hE rfl hb ?_
    refine z_putI hE (sl := 24) rfl shk_76 rfl rfl rfl ?_
    refine z_iconst hE rfl ?_
    exact z_zret hE rfl rfl (Or.inr rfl) h
  · have h := h.2 q
    refine z_iload hE rfl rfl ?_
    refine z_iconst hE rfl ?_
    refine z_icmp_eq hE rfl ⟨fun q => ?_, fun q => ?_⟩
    · have h := h.1 q
      exact GoG.weak hE (ls := [vR 76, vU, vU, vI a3]) ⟨Or.inl rfl, Or.inr ⟨rfl, _, rfl⟩, Or.inl rfl, Or.inl rfl, trivial⟩ h
    · have h := h.2 q
      refine z_aload hE rfl rfl rfl ?_
      refine z_iload hE rfl rfl ?_
      refine z_iconst hE rfl ?_
      have hb := h.1
      have h := h.2
      refine z_iadd hE rfl hb ?_
      refine z_iconst hE rfl ?_
      refine z_iload hE rfl rfl ?_
      have hb := h.1
      have h := h.2
      refine z_imul hE rfl hb ?_
      have hb := h.1
      have h := h.2
      refine z_iadd hE rfl hb ?_
      refine z_callvI hE rfl rfl rfl rfl rfl (Nat.le_of_ble_eq_true rfl) (by decide) ⟨rfl, rfl⟩ (EE_mono d _ _ _ _ _ (rI_mono fun r2 M2 h => ?_) h)
      refine z_if_ne hE rfl ⟨fun q => ?_, fun q => ?_⟩
      · have h := h.1 q
        have hb := h.1
        have h := h.2
        refine z_iinc hE rfl rfl rfl hb ?_
        refine z_goto hE rfl ?_
        exact h
      · have h := h.2 q
        exact GoG.weak hE (ls := [vR 76, vU, vU, vI a3]) ⟨Or.inl rfl, Or.inr ⟨rfl, _, rfl⟩, Or.inl rfl, Or.inl rfl, trivial⟩ h
theorem sg_156_264 {d : Nat} {P : Int → Mm → Prop} {a3 : Int} {M : Mm} (h : ((¬ a3 = 6 → P 0 M) ∧ (a3 = 6 → EE d 158 [vR 76] M (rI fun r1 M1 => (r1 = 0 ∨ r1 = 1) ∧ P r1 M1)))) : H_156_264 d P a3 M := by
  have hE := EE_mono d
  unfold H_156_264
  refine z_iload hE rfl rfl ?_
  refine z_iconst hE rfl ?_
  refine z_icmp_ne hE rfl ⟨fun q => ?_, fun q => ?_⟩
  · have h := h.1 q
    refine z_iconst hE rfl ?_
    exact z_zret hE rfl rfl (Or.inl rfl) h
  · have h := h.2 q
    refine z_aload hE rfl rfl rfl ?_
    refine z_callvI hE rfl rfl rfl rfl rfl (Nat.le_of_ble_eq_true rfl) (by decide) ⟨rfl, rfl⟩ (EE_mono d _ _ _ _ _ (rI_mono fun r1 M1 h => ?_) h)
    refine z_goto hE rfl ?_
    have hb := h.1
    have h := h.2
    exact z_zret hE rfl rfl hb h
/-! 157: ChildTrainsModel.byteAt()I -/
theorem mN_157 : mN 157 = 1 := by decide +kernel
theorem ee_157 {d : Nat} {Q : Ql} {M : Mm} (h : GoG false (EE d) cd_157 Q 0 [vR 76] [] M) : EE (d + 1) 157 [vR 76] M Q := by
  have e : cdTab 157 = cd_157 := rfl
  unfold EE; rw [mN_157, e]; exact ⟨Nat.le_of_ble_eq_true rfl, h⟩
theorem sg_157 {d : Nat} {P : Int → Mm → Prop} {M : Mm} (h : (((M 76 20) ≤ (M 76 24) → P (-1) M) ∧ ((M 76 24) < (M 76 20) → (0 ≤ (M 76 24) ∧ (M 76 24) < 600) ∧ P (M 91 (M 76 24)) M))) : EE (d + 1) 157 [vR 76] M (rI P) := by
  have hE := EE_mono d
  refine ee_157 ?_
  refine z_aload hE rfl rfl rfl ?_
  refine z_getI hE (sl := 24) rfl shk_76 rfl rfl rfl ?_
  refine z_aload hE rfl rfl rfl ?_
  refine z_getI hE (sl := 20) rfl shk_76 rfl rfl rfl ?_
  refine z_icmp_ge hE rfl ⟨fun q => ?_, fun q => ?_⟩
  · have h := h.1 q
    refine z_iconst hE rfl ?_
    exact z_iret hE rfl rfl h
  · have h := h.2 q
    refine z_aload hE rfl rfl rfl ?_
    refine z_getR hE (q := 91) rfl shk_76 rfl rfl rfl ?_
    refine z_aload hE rfl rfl rfl ?_
    refine z_getI hE (sl := 24) rfl shk_76 rfl rfl rfl ?_
    have hb := h.1
    have h := h.2
    refine z_iald hE rfl shk_91 hb ?_
    refine z_goto hE rfl ?_
    exact z_iret hE rfl rfl h
/-! 158: ChildTrainsModel.fails()Z -/
theorem mN_158 : mN 158 = 1 := by decide +kernel
theorem ee_158 {d : Nat} {Q : Ql} {M : Mm} (h : GoG false (EE d) cd_158 Q 0 [vR 76] [] M) : EE (d + 1) 158 [vR 76] M Q := by
  have e : cdTab 158 = cd_158 := rfl
  unfold EE; rw [mN_158, e]; exact ⟨Nat.le_of_ble_eq_true rfl, h⟩
theorem sg_158 {d : Nat} {P : Int → Mm → Prop} {M : Mm} (h : P 0 (mset M 76 26 (M 76 24))) : EE (d + 1) 158 [vR 76] M (rI P) := by
  have hE := EE_mono d
  refine ee_158 ?_
  refine z_aload hE rfl rfl rfl ?_
  refine z_aload hE rfl rfl rfl ?_
  refine z_getI hE (sl := 24) rfl shk_76 rfl rfl rfl ?_
  refine z_putI hE (sl := 26) rfl shk_76 rfl rfl rfl ?_
  refine z_iconst hE rfl ?_
  exact z_zret hE rfl rfl (Or.inl rfl) h
/-! 159: ChildTrainsModel.reads(I)Z -/
def H_159_29 (d : Nat) (P : Int → Mm → Prop) (a1 : Int) (a2 : Int) (M : Mm) : Prop := GoG false (EE d) cd_159 (rI P) 29 [vR 76, vI a1, vI a2, vU] [] M
def H_159_74 (d : Nat) (P : Int → Mm → Prop) (a1 : Int) (a2 : Int) (a3 : Int) (M : Mm) : Prop := GoG false (EE d) cd_159 (rI P) 74 [vR 76, vI a1, vI a2, vI a3] [] M
theorem mN_159 : mN 159 = 4 := by decide +kernel
theorem ee_159 {d : Nat} {Q : Ql} {a1 : Int} {M : Mm} (h : GoG false (EE d) cd_159 Q 0 [vR 76, vI a1, vU, vU] [] M) : EE (d + 1) 159 [vR 76, vI a1] M Q := by
  have e : cdTab 159 = cd_159 := rfl
  unfold EE; rw [mN_159, e]; exact ⟨Nat.le_of_ble_eq_true rfl, h⟩
theorem sg_159 {d : Nat} {P : Int → Mm → Prop} {a1 : Int} {M : Mm} (h : EE d 157 [vR 76] M (rI fun r1 M1 => EE d 140 [vI r1, vI 48, vI 57] M1 (rI fun r2 M2 => ((¬ r2 = 0 → H_159_29 d P a1 (M2 76 24) (mset M2 76 25 0)) ∧ (r2 = 0 → EE d 158 [vR 76] M2 (rI fun r3 M3 => (r3 = 0 ∨ r3 = 1) ∧ P r3 M3)))))) : EE (d + 1) 159 [vR 76, vI a1] M (rI P) := by
  have hE := EE_mono d
  refine ee_159 ?_
  refine z_aload hE rfl rfl rfl ?_
  refine z_callvI hE rfl rfl rfl rfl rfl (Nat.le_of_ble_eq_true rfl) (by decide) ⟨rfl, rfl⟩ (EE_mono d _ _ _ _ _ (rI_mono fun r1 M1 h => ?_) h)
  refine z_iconst hE rfl ?_
  refine z_iconst hE rfl ?_
  refine z_callsI hE rfl rfl rfl rfl rfl (Nat.le_of_ble_eq_true rfl) (by decide) (EE_mono d _ _ _ _ _ (rI_mono fun r2 M2 h => ?_) h)
  refine z_if_ne hE rfl ⟨fun q => ?_, fun q => ?_⟩
  · have h := h.1 q
    refine z_aload hE rfl rfl rfl ?_
    refine z_getI hE (sl := 24) rfl shk_76 rfl rfl rfl ?_
    refine z_istore hE rfl rfl rfl ?_
    refine z_aload hE rfl rfl rfl ?_
    refine z_iconst hE rfl ?_
    refine z_putI hE (sl := 25) rfl shk_76 rfl rfl rfl ?_
    exact h
  · have h := h.2 q
    refine z_aload hE rfl rfl rfl ?_
    refine z_callvI hE rfl rfl rfl rfl rfl (Nat.le_of_ble_eq_true rfl) (by decide) ⟨rfl, rfl⟩ (EE_mono d _ _ _ _ _ (rI_mono fun r3 M3 h => ?_) h)
    have hb := h.1
    have h := h.2
    exact z_zret hE rfl rfl hb h
theorem sg_159_29 {d : Nat} {P : Int → Mm → Prop} {a1 : Int} {a2 : Int} {M : Mm} (h : EE d 157 [vR 76] M (rI fun r1 M1 => EE d 140 [vI r1, vI 48, vI 57] M1 (rI fun r2 M2 => ((r2 = 0 → P 1 M2) ∧ (¬ r2 = 0 → inI (10 * (M2 76 25)) ∧ EE d 157 [vR 76] M2 (rI fun r3 M3 => inI ((10 * (M2 76 25)) + r3) ∧ inI (((10 * (M2 76 25)) + r3) - 48) ∧ ((¬ (M3 76 25) = 0 → H_159_74 d P a1 a2 (((10 * (M2 76 25)) + r3) - 48) M3) ∧ ((M3 76 25) = 0 → ((a2 < (M3 76 24) → EE d 158 [vR 76] M3 (rI fun r4 M4 => (r4 = 0 ∨ r4 = 1) ∧ P r4 M4)) ∧ ((M3 76 24) ≤ a2 → H_159_74 d P a1 a2 (((10 * (M2 76 25)) + r3) - 48) M3)))))))))) : H_159_29 d P a1 a2 M := by
  have hE := EE_mono d
  unfold H_159_29
  refine z_aload hE rfl rfl rfl ?_
  refine z_callvI hE rfl rfl rfl rfl rfl (Nat.le_of_ble_eq_true rfl) (by decide) ⟨rfl, rfl⟩ (EE_mono d _ _ _ _ _ (rI_mono fun r1 M1 h => ?_) h)
  refine z_iconst hE rfl ?_
  refine z_iconst hE rfl ?_
  refine z_callsI hE rfl rfl rfl rfl rfl (Nat.le_of_ble_eq_true rfl) (by decide) (EE_mono d _ _ _ _ _ (rI_mono fun r2 M2 h => ?_) h)
  refine z_if_eq hE rfl ⟨fun q => ?_, fun q => ?_⟩
  · have h := h.1 q
    refine z_iconst hE rfl ?_
    exact z_zret hE rfl rfl (Or.inr rfl) h
  · have h := h.2 q
    refine z_iconst hE rfl ?_
    refine z_aload hE rfl rfl rfl ?_
    refine z_getI hE (sl := 25) rfl shk_76 rfl rfl rfl ?_
    have hb := h.1
    have h := h.2
    refine z_imul hE rfl hb ?_
    refine z_aload hE rfl rfl rfl ?_
    refine z_callvI hE rfl rfl rfl rfl rfl (Nat.le_of_ble_eq_true rfl) (by decide) ⟨rfl, rfl⟩ (EE_mono d _ _ _ _ _ (rI_mono fun r3 M3 h => ?_) h)
    have hb := h.1
    have h := h.2
    refine z_iadd hE rfl hb ?_
    refine z_iconst hE rfl ?_
    have hb := h.1
    have h := h.2
    refine z_isub hE rfl hb ?_
    refine z_istore hE rfl rfl rfl ?_
    refine z_aload hE rfl rfl rfl ?_
    refine z_getI hE (sl := 25) rfl shk_76 rfl rfl rfl ?_
    refine z_if_ne hE rfl ⟨fun q => ?_, fun q => ?_⟩
    · have h := h.1 q
      exact h
    · have h := h.2 q
      refine z_aload hE rfl rfl rfl ?_
      refine z_getI hE (sl := 24) rfl shk_76 rfl rfl rfl ?_
      refine z_iload hE rfl rfl ?_
      refine z_icmp_gt hE rfl ⟨fun q => ?_, fun q => ?_⟩
      · have h := h.1 q
        refine z_aload hE rfl rfl rfl ?_
        refine z_callvI hE rfl rfl rfl rfl rfl (Nat.le_of_ble_eq_true rfl) (by decide) ⟨rfl, rfl⟩ (EE_mono d _ _ _ _ _ (rI_mono fun r4 M4 h => ?_) h)
        have hb := h.1
        have h := h.2
        exact z_zret hE rfl rfl hb h
      · have h := h.2 q
        exact h
theorem sg_159_74 {d : Nat} {P : Int → Mm → Prop} {a1 : Int} {a2 : Int} {a3 : Int} {M : Mm} (h : ((a3 ≤ a1 → inI (((mset M 76 25 a3) 76 24) + 1) ∧ H_159_29 d P a1 a2 (mset (mset M 76 25 a3) 76 24 (((mset M 76 25 a3) 76 24) + 1))) ∧ (a1 < a3 → EE d 158 [vR 76] M (rI fun r1 M1 => (r1 = 0 ∨ r1 = 1) ∧ P r1 M1)))) : H_159_74 d P a1 a2 a3 M := by
  have hE := EE_mono d
  unfold H_159_74
  refine z_iload hE rfl rfl ?_
  refine z_iload hE rfl rfl ?_
  refine z_icmp_le hE rfl ⟨fun q => ?_, fun q => ?_⟩
  · have h := h.1 q
    refine z_aload hE rfl rfl rfl ?_
    refine z_iload hE rfl rfl ?_
    refine z_putI hE (sl := 25) rfl shk_76 rfl rfl rfl ?_
    refine z_aload hE rfl rfl rfl ?_
    refine z_dup hE rfl rfl ?_
    refine z_getI hE (sl := 24) rfl shk_76 rfl rfl rfl ?_
    refine z_iconst hE rfl ?_
    have hb := h.1
    have h := h.2
    refine z_iadd hE rfl hb ?_
    refine z_putI hE (sl := 24) rfl shk_76 rfl rfl rfl ?_
    refine z_goto hE rfl ?_
    exact GoG.weak hE (ls := [vR 76, vI a1, vI a2, vU]) ⟨Or.inl rfl, Or.inl rfl, Or.inl rfl, Or.inr ⟨rfl, _, rfl⟩, trivial⟩ h
  · have h := h.2 q
    refine z_aload hE rfl rfl rfl ?_
    refine z_callvI hE rfl rfl rfl rfl rfl (Nat.le_of_ble_eq_true rfl) (by decide) ⟨rfl, rfl⟩ (EE_mono d _ _ _ _ _ (rI_mono fun r1 M1 h => ?_) h)
    have hb := h.1
    have h := h.2
    exact z_zret hE rfl rfl hb h
/-! 160: ChildTrainsModel.sign(I)Z -/
theorem mN_160 : mN 160 = 2 := by decide +kernel
theorem ee_160 {d : Nat} {Q : Ql} {a1 : Int} {M : Mm} (h : GoG false (EE d) cd_160 Q 0 [vR 76, vI a1] [] M) : EE (d + 1) 160 [vR 76, vI a1] M Q := by
  have e : cdTab 160 = cd_160 := rfl
  unfold EE; rw [mN_160, e]; exact ⟨Nat.le_of_ble_eq_true rfl, h⟩
theorem sg_160 {d : Nat} {P : Int → Mm → Prop} {a1 : Int} {M : Mm} (h : EE d 157 [vR 76] M (rI fun r1 M1 => ((r1 = a1 → inI ((M1 76 24) + 1) ∧ P 1 (mset M1 76 24 ((M1 76 24) + 1))) ∧ (¬ r1 = a1 → EE d 158 [vR 76] M1 (rI fun r2 M2 => (r2 = 0 ∨ r2 = 1) ∧ P r2 M2))))) : EE (d + 1) 160 [vR 76, vI a1] M (rI P) := by
  have hE := EE_mono d
  refine ee_160 ?_
  refine z_aload hE rfl rfl rfl ?_
  refine z_callvI hE rfl rfl rfl rfl rfl (Nat.le_of_ble_eq_true rfl) (by decide) ⟨rfl, rfl⟩ (EE_mono d _ _ _ _ _ (rI_mono fun r1 M1 h => ?_) h)
  refine z_iload hE rfl rfl ?_
  refine z_icmp_eq hE rfl ⟨fun q => ?_, fun q => ?_⟩
  · have h := h.1 q
    refine z_aload hE rfl rfl rfl ?_
    refine z_dup hE rfl rfl ?_
    refine z_getI hE (sl := 24) rfl shk_76 rfl rfl rfl ?_
    refine z_iconst hE rfl ?_
    have hb := h.1
    have h := h.2
    refine z_iadd hE rfl hb ?_
    refine z_putI hE (sl := 24) rfl shk_76 rfl rfl rfl ?_
    refine z_iconst hE rfl ?_
    exact z_zret hE rfl rfl (Or.inr rfl) h
  · have h := h.2 q
    refine z_aload hE rfl rfl rfl ?_
    refine z_callvI hE rfl rfl rfl rfl rfl (Nat.le_of_ble_eq_true rfl) (by decide) ⟨rfl, rfl⟩ (EE_mono d _ _ _ _ _ (rI_mono fun r2 M2 h => ?_) h)
    have hb := h.1
    have h := h.2
    exact z_zret hE rfl rfl hb h
/-! 161: ChildTrainsModel.readsCond(I)Z -/
def H_161_37 (d : Nat) (P : Int → Mm → Prop) (a1 : Int) (M : Mm) : Prop := GoG false (EE d) cd_161 (rI P) 37 [vR 76, vI a1, vU, vU, vU] [] M
def H_161_77 (d : Nat) (P : Int → Mm → Prop) (a1 : Int) (a2 : Int) (M : Mm) : Prop := GoG false (EE d) cd_161 (rI P) 77 [vR 76, vI a1, vI a2, vU, vU] [] M
def H_161_119 (d : Nat) (P : Int → Mm → Prop) (a1 : Int) (s0 : Int) (s1 : Int) (M : Mm) : Prop := GoG false (EE d) cd_161 (rI P) 119 [vR 76, vI a1, vU, vU, vU] [vI s0, vI s1, vR 93] M
def H_161_145 (d : Nat) (P : Int → Mm → Prop) (a1 : Int) (M : Mm) : Prop := GoG false (EE d) cd_161 (rI P) 145 [vR 76, vI a1, vU, vU, vU] [] M
def H_161_150 (d : Nat) (P : Int → Mm → Prop) (a1 : Int) (s0 : Int) (M : Mm) : Prop := GoG false (EE d) cd_161 (rI P) 150 [vR 76, vI a1, vU, vU, vU] [vI s0] M
def H_161_165 (d : Nat) (P : Int → Mm → Prop) (a1 : Int) (a3 : Int) (s0 : Int) (s1 : Int) (M : Mm) : Prop := GoG false (EE d) cd_161 (rI P) 165 [vR 76, vI a1, vU, vI a3, vU] [vI s0, vI s1, vR 76] M
def H_161_186 (d : Nat) (P : Int → Mm → Prop) (a1 : Int) (M : Mm) : Prop := GoG false (EE d) cd_161 (rI P) 186 [vR 76, vI a1, vU, vU, vU] [] M
def H_161_187 (d : Nat) (P : Int → Mm → Prop) (a1 : Int) (s0 : Int) (M : Mm) : Prop := GoG false (EE d) cd_161 (rI P) 187 [vR 76, vI a1, vU, vU, vU] [vI s0] M
def H_161_233 (d : Nat) (P : Int → Mm → Prop) (a1 : Int) (a2 : Int) (s0 : Int) (s1 : Int) (M : Mm) : Prop := GoG false (EE d) cd_161 (rI P) 233 [vR 76, vI a1, vI a2, vU, vU] [vI s0, vI s1, vR 93] M
def H_161_255 (d : Nat) (P : Int → Mm → Prop) (a1 : Int) (s0 : Int) (M : Mm) : Prop := GoG false (EE d) cd_161 (rI P) 255 [vR 76, vI a1, vU, vU, vU] [vI s0] M
def H_161_281 (d : Nat) (P : Int → Mm → Prop) (a1 : Int) (M : Mm) : Prop := GoG false (EE d) cd_161 (rI P) 281 [vR 76, vI a1, vU, vU, vU] [] M
def H_161_286 (d : Nat) (P : Int → Mm → Prop) (a1 : Int) (s0 : Int) (M : Mm) : Prop := GoG false (EE d) cd_161 (rI P) 286 [vR 76, vI a1, vU, vU, vU] [vI s0] M
def H_161_303 (d : Nat) (P : Int → Mm → Prop) (a1 : Int) (a3 : Int) (s0 : Int) (M : Mm) : Prop := GoG false (EE d) cd_161 (rI P) 303 [vR 76, vI a1, vU, vI a3, vU] [vI s0, vR 76] M
def H_161_320 (d : Nat) (P : Int → Mm → Prop) (a1 : Int) (a3 : Int) (s0 : Int) (s1 : Int) (M : Mm) : Prop := GoG false (EE d) cd_161 (rI P) 320 [vR 76, vI a1, vU, vI a3, vU] [vI s0, vI s1, vR 76] M
def H_161_324 (d : Nat) (P : Int → Mm → Prop) (a1 : Int) (a3 : Int) (M : Mm) : Prop := GoG false (EE d) cd_161 (rI P) 324 [vR 76, vI a1, vU, vI a3, vU] [] M
theorem mN_161 : mN 161 = 5 := by decide +kernel
theorem ee_161 {d : Nat} {Q : Ql} {a1 : Int} {M : Mm} (h : GoG false (EE d) cd_161 Q 0 [vR 76, vI a1, vU, vU, vU] [] M) : EE (d + 1) 161 [vR 76, vI a1] M Q := by
  have e : cdTab 161 = cd_161 := rfl
  unfold EE; rw [mN_161, e]; exact ⟨Nat.le_of_ble_eq_true rfl, h⟩
theorem sg_161 {d : Nat} {P : Int → Mm → Prop} {a1 : Int} {M : Mm} (h : inI (a1 + 2) ∧ (0 ≤ (a1 + 2) ∧ (a1 + 2) < 750) ∧ EE d 157 [vR 76] (mset M 93 (a1 + 2) 0) (rI fun r1 M1 => ((¬ r1 = 33 → H_161_37 d P a1 M1) ∧ (r1 = 33 → inI (a1 + 2) ∧ (0 ≤ (a1 + 2) ∧ (a1 + 2) < 750) ∧ inI ((M1 76 24) + 1) ∧ H_161_37 d P a1 (mset (mset M1 93 (a1 + 2) 1) 76 24 ((M1 76 24) + 1)))))) : EE (d + 1) 161 [vR 76, vI a1] M (rI P) := by
  have hE := EE_mono d
  refine ee_161 ?_
  refine z_aload hE rfl rfl rfl ?_
  refine z_getR hE (q := 93) rfl shk_76 rfl rfl rfl ?_
  refine z_iload hE rfl rfl ?_
  refine z_iconst hE rfl ?_
  have hb := h.1
  have h := h.2
  refine z_iadd hE rfl hb ?_
  refine z_iconst hE rfl ?_
  have hb := h.1
  have h := h.2
  refine z_iast hE rfl shk_93 hb ?_
  refine z_aload hE rfl rfl rfl ?_
  refine z_callvI hE rfl rfl rfl rfl rfl (Nat.le_of_ble_eq_true rfl) (by decide) ⟨rfl, rfl⟩ (EE_mono d _ _ _ _ _ (rI_mono fun r1 M1 h => ?_) h)
  refine z_iconst hE rfl ?_
  refine z_icmp_ne hE rfl ⟨fun q => ?_, fun q => ?_⟩
  · have h := h.1 q
    exact h
  · have h := h.2 q
    refine z_aload hE rfl rfl rfl ?_
    refine z_getR hE (q := 93) rfl shk_76 rfl rfl rfl ?_
    refine z_iload hE rfl rfl ?_
    refine z_iconst hE rfl ?_
    have hb := h.1
    have h := h.2
    refine z_iadd hE rfl hb ?_
    refine z_iconst hE rfl ?_
    have hb := h.1
    have h := h.2
    refine z_iast hE rfl shk_93 hb ?_
    refine z_aload hE rfl rfl rfl ?_
    refine z_dup hE rfl rfl ?_
    refine z_getI hE (sl := 24) rfl shk_76 rfl rfl rfl ?_
    refine z_iconst hE rfl ?_
    have hb := h.1
    have h := h.2
    refine z_iadd hE rfl hb ?_
    refine z_putI hE (sl := 24) rfl shk_76 rfl rfl rfl ?_
    exact h
theorem sg_161_37 {d : Nat} {P : Int → Mm → Prop} {a1 : Int} {M : Mm} (h : EE d 157 [vR 76] M (rI fun r1 M1 => ((r1 = 115 → H_161_77 d P a1 r1 M1) ∧ (¬ r1 = 115 → ((r1 = 97 → H_161_77 d P a1 r1 M1) ∧ (¬ r1 = 97 → ((r1 = 107 → H_161_77 d P a1 r1 M1) ∧ (¬ r1 = 107 → ((r1 = 104 → H_161_77 d P a1 r1 M1) ∧ (¬ r1 = 104 → ((r1 = 119 → H_161_77 d P a1 r1 M1) ∧ (¬ r1 = 119 → EE d 158 [vR 76] M1 (rI fun r2 M2 => (r2 = 0 ∨ r2 = 1) ∧ P r2 M2))))))))))))) : H_161_37 d P a1 M := by
  have hE := EE_mono d
  unfold H_161_37
  refine z_aload hE rfl rfl rfl ?_
  refine z_callvI hE rfl rfl rfl rfl rfl (Nat.le_of_ble_eq_true rfl) (by decide) ⟨rfl, rfl⟩ (EE_mono d _ _ _ _ _ (rI_mono fun r1 M1 h => ?_) h)
  refine z_istore hE rfl rfl rfl ?_
  refine z_iload hE rfl rfl ?_
  refine z_iconst hE rfl ?_
  refine z_icmp_eq hE rfl ⟨fun q => ?_, fun q => ?_⟩
  · have h := h.1 q
    exact h
  · have h := h.2 q
    refine z_iload hE rfl rfl ?_
    refine z_iconst hE rfl ?_
    refine z_icmp_eq hE rfl ⟨fun q => ?_, fun q => ?_⟩
    · have h := h.1 q
      exact h
    · have h := h.2 q
      refine z_iload hE rfl rfl ?_
      refine z_iconst hE rfl ?_
      refine z_icmp_eq hE rfl ⟨fun q => ?_, fun q => ?_⟩
      · have h := h.1 q
        exact h
      · have h := h.2 q
        refine z_iload hE rfl rfl ?_
        refine z_iconst hE rfl ?_
        refine z_icmp_eq hE rfl ⟨fun q => ?_, fun q => ?_⟩
        · have h := h.1 q
          exact h
        · have h := h.2 q
          refine z_iload hE rfl rfl ?_
          refine z_iconst hE rfl ?_
          refine z_icmp_eq hE rfl ⟨fun q => ?_, fun q => ?_⟩
          · have h := h.1 q
            exact h
          · have h := h.2 q
            refine z_aload hE rfl rfl rfl ?_
            refine z_callvI hE rfl rfl rfl rfl rfl (Nat.le_of_ble_eq_true rfl) (by decide) ⟨rfl, rfl⟩ (EE_mono d _ _ _ _ _ (rI_mono fun r2 M2 h => ?_) h)
            have hb := h.1
            have h := h.2
            exact z_zret hE rfl rfl hb h
theorem sg_161_77 {d : Nat} {P : Int → Mm → Prop} {a1 : Int} {a2 : Int} {M : Mm} (h : inI ((M 76 24) + 1) ∧ ((¬ a2 = 97 → ((¬ a2 = 107 → ((¬ a2 = 115 → ((¬ a2 = 104 → H_161_233 d P a1 a2 5 a1 (mset (mset M 76 24 ((M 76 24) + 1)) 76 25 0)) ∧ (a2 = 104 → H_161_233 d P a1 a2 4 a1 (mset (mset M 76 24 ((M 76 24) + 1)) 76 25 0)))) ∧ (a2 = 115 → H_161_233 d P a1 a2 0 a1 (mset (mset M 76 24 ((M 76 24) + 1)) 76 25 0)))) ∧ (a2 = 107 → (0 ≤ a1 ∧ a1 < 750) ∧ H_161_324 d P a1 1 (mset (mset (mset M 76 24 ((M 76 24) + 1)) 76 25 0) 93 a1 3)))) ∧ (a2 = 97 → EE d 157 [vR 76] (mset (mset M 76 24 ((M 76 24) + 1)) 76 25 0) (rI fun r1 M1 => ((¬ r1 = 60 → H_161_119 d P a1 2 a1 M1) ∧ (r1 = 60 → H_161_119 d P a1 1 a1 M1)))))) : H_161_77 d P a1 a2 M := by
  have hE := EE_mono d
  unfold H_161_77
  refine z_aload hE rfl rfl rfl ?_
  refine z_dup hE rfl rfl ?_
  refine z_getI hE (sl := 24) rfl shk_76 rfl rfl rfl ?_
  refine z_iconst hE rfl ?_
  have hb := h.1
  have h := h.2
  refine z_iadd hE rfl hb ?_
  refine z_putI hE (sl := 24) rfl shk_76 rfl rfl rfl ?_
  refine z_aload hE rfl rfl rfl ?_
  refine z_iconst hE rfl ?_
  refine z_putI hE (sl := 25) rfl shk_76 rfl rfl rfl ?_
  refine z_iconst hE rfl ?_
  refine z_istore hE rfl rfl rfl ?_
  refine z_iload hE rfl rfl ?_
  refine z_iconst hE rfl ?_
  refine z_icmp_ne hE rfl ⟨fun q => ?_, fun q => ?_⟩
  · have h := h.1 q
    refine z_iload hE rfl rfl ?_
    refine z_iconst hE rfl ?_
    refine z_icmp_ne hE rfl ⟨fun q => ?_, fun q => ?_⟩
    · have h := h.1 q
      refine z_aload hE rfl rfl rfl ?_
      refine z_getR hE (q := 93) rfl shk_76 rfl rfl rfl ?_
      refine z_iload hE rfl rfl ?_
      refine z_iload hE rfl rfl ?_
      refine z_iconst hE rfl ?_
      refine z_icmp_ne hE rfl ⟨fun q => ?_, fun q => ?_⟩
      · have h := h.1 q
        refine z_iload hE rfl rfl ?_
        refine z_iconst hE rfl ?_
        refine z_icmp_ne hE rfl ⟨fun q => ?_, fun q => ?_⟩
        · have h := h.1 q
          refine z_iconst hE rfl ?_
          exact GoG.weak hE (ls := [vR 76, vI a1, vI a2, vU, vU]) ⟨Or.inl rfl, Or.inl rfl, Or.inl rfl, Or.inr ⟨rfl, _, rfl⟩, Or.inl rfl, trivial⟩ h
        · have h := h.2 q
          refine z_iconst hE rfl ?_
          refine z_goto hE rfl ?_
          exact GoG.weak hE (ls := [vR 76, vI a1, vI a2, vU, vU]) ⟨Or.inl rfl, Or.inl rfl, Or.inl rfl, Or.inr ⟨rfl, _, rfl⟩, Or.inl rfl, trivial⟩ h
      · have h := h.2 q
        refine z_iconst hE rfl ?_
        refine z_goto hE rfl ?_
        exact GoG.weak hE (ls := [vR 76, vI a1, vI a2, vU, vU]) ⟨Or.inl rfl, Or.inl rfl, Or.inl rfl, Or.inr ⟨rfl, _, rfl⟩, Or.inl rfl, trivial⟩ h
    · have h := h.2 q
      refine z_aload hE rfl rfl rfl ?_
      refine z_getR hE (q := 93) rfl shk_76 rfl rfl rfl ?_
      refine z_iload hE rfl rfl ?_
      refine z_iconst hE rfl ?_
      have hb := h.1
      have h := h.2
      refine z_iast hE rfl shk_93 hb ?_
      refine z_goto hE rfl ?_
      exact GoG.weak hE (ls := [vR 76, vI a1, vU, vI 1, vU]) ⟨Or.inl rfl, Or.inl rfl, Or.inr ⟨rfl, _, rfl⟩, Or.inl rfl, Or.inl rfl, trivial⟩ h
  · have h := h.2 q
    refine z_aload hE rfl rfl rfl ?_
    refine z_getR hE (q := 93) rfl shk_76 rfl rfl rfl ?_
    refine z_iload hE rfl rfl ?_
    refine z_aload hE rfl rfl rfl ?_
    refine z_callvI hE rfl rfl rfl rfl rfl (Nat.le_of_ble_eq_true rfl) (by decide) ⟨rfl, rfl⟩ (EE_mono d _ _ _ _ _ (rI_mono fun r1 M1 h => ?_) h)
    refine z_iconst hE rfl ?_
    refine z_icmp_ne hE rfl ⟨fun q => ?_, fun q => ?_⟩
    · have h := h.1 q
      refine z_iconst hE rfl ?_
      exact GoG.weak hE (ls := [vR 76, vI a1, vU, vU, vU]) ⟨Or.inl rfl, Or.inl rfl, Or.inr ⟨rfl, _, rfl⟩, Or.inr ⟨rfl, _, rfl⟩, Or.inl rfl, trivial⟩ h
    · have h := h.2 q
      refine z_iconst hE rfl ?_
      refine z_goto hE rfl ?_
      exact GoG.weak hE (ls := [vR 76, vI a1, vU, vU, vU]) ⟨Or.inl rfl, Or.inl rfl, Or.inr ⟨rfl, _, rfl⟩, Or.inr ⟨rfl, _, rfl⟩, Or.inl rfl, trivial⟩ h
theorem sg_161_119 {d : Nat} {P : Int → Mm → Prop} {a1 : Int} {s0 : Int} {s1 : Int} {M : Mm} (h : (0 ≤ s1 ∧ s1 < 750) ∧ EE d 157 [vR 76] (mset M 93 s1 s0) (rI fun r1 M1 => ((r1 = 60 → H_161_145 d P a1 M1) ∧ (¬ r1 = 60 → EE d 157 [vR 76] M1 (rI fun r2 M2 => ((r2 = 62 → H_161_145 d P a1 M2) ∧ (¬ r2 = 62 → EE d 158 [vR 76] M2 (rI fun r3 M3 => ((r3 = 0 → H_161_150 d P a1 0 M3) ∧ (¬ r3 = 0 → H_161_145 d P a1 M3)))))))))) : H_161_119 d P a1 s0 s1 M := by
  have hE := EE_mono d
  unfold H_161_119
  have hb := h.1
  have h := h.2
  refine z_iast hE rfl shk_93 hb ?_
  refine z_aload hE rfl rfl rfl ?_
  refine z_callvI hE rfl rfl rfl rfl rfl (Nat.le_of_ble_eq_true rfl) (by decide) ⟨rfl, rfl⟩ (EE_mono d _ _ _ _ _ (rI_mono fun r1 M1 h => ?_) h)
  refine z_iconst hE rfl ?_
  refine z_icmp_eq hE rfl ⟨fun q => ?_, fun q => ?_⟩
  · have h := h.1 q
    exact h
  · have h := h.2 q
    refine z_aload hE rfl rfl rfl ?_
    refine z_callvI hE rfl rfl rfl rfl rfl (Nat.le_of_ble_eq_true rfl) (by decide) ⟨rfl, rfl⟩ (EE_mono d _ _ _ _ _ (rI_mono fun r2 M2 h => ?_) h)
    refine z_iconst hE rfl ?_
    refine z_icmp_eq hE rfl ⟨fun q => ?_, fun q => ?_⟩
    · have h := h.1 q
      exact h
    · have h := h.2 q
      refine z_aload hE rfl rfl rfl ?_
      refine z_callvI hE rfl rfl rfl rfl rfl (Nat.le_of_ble_eq_true rfl) (by decide) ⟨rfl, rfl⟩ (EE_mono d _ _ _ _ _ (rI_mono fun r3 M3 h => ?_) h)
      refine z_if_eq hE rfl ⟨fun q => ?_, fun q => ?_⟩
      · have h := h.1 q
        refine z_iconst hE rfl ?_
        exact h
      · have h := h.2 q
        exact h
theorem sg_161_145 {d : Nat} {P : Int → Mm → Prop} {a1 : Int} {M : Mm} (h : H_161_150 d P a1 1 M) : H_161_145 d P a1 M := by
  have hE := EE_mono d
  unfold H_161_145
  refine z_iconst hE rfl ?_
  refine z_goto hE rfl ?_
  exact h
theorem sg_161_150 {d : Nat} {P : Int → Mm → Prop} {a1 : Int} {s0 : Int} {M : Mm} (h : ((s0 = 0 → H_161_165 d P a1 s0 0 (M 76 24) M) ∧ (¬ s0 = 0 → H_161_165 d P a1 s0 1 (M 76 24) M))) : H_161_150 d P a1 s0 M := by
  have hE := EE_mono d
  unfold H_161_150
  refine z_istore hE rfl rfl rfl ?_
  refine z_aload hE rfl rfl rfl ?_
  refine z_dup hE rfl rfl ?_
  refine z_getI hE (sl := 24) rfl shk_76 rfl rfl rfl ?_
  refine z_iload hE rfl rfl ?_
  refine z_if_eq hE rfl ⟨fun q => ?_, fun q => ?_⟩
  · have h := h.1 q
    refine z_iconst hE rfl ?_
    exact h
  · have h := h.2 q
    refine z_iconst hE rfl ?_
    refine z_goto hE rfl ?_
    exact h
theorem sg_161_165 {d : Nat} {P : Int → Mm → Prop} {a1 : Int} {a3 : Int} {s0 : Int} {s1 : Int} {M : Mm} (h : inI (s1 + s0) ∧ ((a3 = 0 → H_161_186 d P a1 (mset M 76 24 (s1 + s0))) ∧ (¬ a3 = 0 → EE d 159 [vR 76, vI 15] (mset M 76 24 (s1 + s0)) (rI fun r1 M1 => ((r1 = 0 → H_161_186 d P a1 M1) ∧ (¬ r1 = 0 → H_161_187 d P a1 1 M1)))))) : H_161_165 d P a1 a3 s0 s1 M := by
  have hE := EE_mono d
  unfold H_161_165
  have hb := h.1
  have h := h.2
  refine z_iadd hE rfl hb ?_
  refine z_putI hE (sl := 24) rfl shk_76 rfl rfl rfl ?_
  refine z_iload hE rfl rfl ?_
  refine z_if_eq hE rfl ⟨fun q => ?_, fun q => ?_⟩
  · have h := h.1 q
    exact GoG.weak hE (ls := [vR 76, vI a1, vU, vU, vU]) ⟨Or.inl rfl, Or.inl rfl, Or.inl rfl, Or.inr ⟨rfl, _, rfl⟩, Or.inl rfl, trivial⟩ h
  · have h := h.2 q
    refine z_aload hE rfl rfl rfl ?_
    refine z_iconst hE rfl ?_
    refine z_callvI hE rfl rfl rfl rfl rfl (Nat.le_of_ble_eq_true rfl) (by decide) ⟨rfl, rfl⟩ (EE_mono d _ _ _ _ _ (rI_mono fun r1 M1 h => ?_) h)
    refine z_if_eq hE rfl ⟨fun q => ?_, fun q => ?_⟩
    · have h := h.1 q
      exact GoG.weak hE (ls := [vR 76, vI a1, vU, vU, vU]) ⟨Or.inl rfl, Or.inl rfl, Or.inl rfl, Or.inr ⟨rfl, _, rfl⟩, Or.inl rfl, trivial⟩ h
    · have h := h.2 q
      refine z_iconst hE rfl ?_
      refine z_goto hE rfl ?_
      exact GoG.weak hE (ls := [vR 76, vI a1, vU, vU, vU]) ⟨Or.inl rfl, Or.inl rfl, Or.inl rfl, Or.inr ⟨rfl, _, rfl⟩, Or.inl rfl, trivial⟩ h
theorem sg_161_186 {d : Nat} {P : Int → Mm → Prop} {a1 : Int} {M : Mm} (h : H_161_187 d P a1 0 M) : H_161_186 d P a1 M := by
  have hE := EE_mono d
  unfold H_161_186
  refine z_iconst hE rfl ?_
  exact h
theorem sg_161_187 {d : Nat} {P : Int → Mm → Prop} {a1 : Int} {s0 : Int} {M : Mm} (h : H_161_324 d P a1 s0 M) : H_161_187 d P a1 s0 M := by
  have hE := EE_mono d
  unfold H_161_187
  refine z_istore hE rfl rfl rfl ?_
  refine z_goto hE rfl ?_
  exact h
theorem sg_161_233 {d : Nat} {P : Int → Mm → Prop} {a1 : Int} {a2 : Int} {s0 : Int} {s1 : Int} {M : Mm} (h : (0 ≤ s1 ∧ s1 < 750) ∧ ((¬ a2 = 115 → ((¬ a2 = 104 → H_161_255 d P a1 5 (mset M 93 s1 s0)) ∧ (a2 = 104 → H_161_255 d P a1 3 (mset M 93 s1 s0)))) ∧ (a2 = 115 → H_161_255 d P a1 1 (mset M 93 s1 s0)))) : H_161_233 d P a1 a2 s0 s1 M := by
  have hE := EE_mono d
  unfold H_161_233
  have hb := h.1
  have h := h.2
  refine z_iast hE rfl shk_93 hb ?_
  refine z_iload hE rfl rfl ?_
  refine z_iconst hE rfl ?_
  refine z_icmp_ne hE rfl ⟨fun q => ?_, fun q => ?_⟩
  · have h := h.1 q
    refine z_iload hE rfl rfl ?_
    refine z_iconst hE rfl ?_
    refine z_icmp_ne hE rfl ⟨fun q => ?_, fun q => ?_⟩
    · have h := h.1 q
      refine z_iconst hE rfl ?_
      exact GoG.weak hE (ls := [vR 76, vI a1, vU, vU, vU]) ⟨Or.inl rfl, Or.inl rfl, Or.inr ⟨rfl, _, rfl⟩, Or.inl rfl, Or.inl rfl, trivial⟩ h
    · have h := h.2 q
      refine z_iconst hE rfl ?_
      refine z_goto hE rfl ?_
      exact GoG.weak hE (ls := [vR 76, vI a1, vU, vU, vU]) ⟨Or.inl rfl, Or.inl rfl, Or.inr ⟨rfl, _, rfl⟩, Or.inl rfl, Or.inl rfl, trivial⟩ h
  · have h := h.2 q
    refine z_iconst hE rfl ?_
    refine z_goto hE rfl ?_
    exact GoG.weak hE (ls := [vR 76, vI a1, vU, vU, vU]) ⟨Or.inl rfl, Or.inl rfl, Or.inr ⟨rfl, _, rfl⟩, Or.inl rfl, Or.inl rfl, trivial⟩ h
theorem sg_161_255 {d : Nat} {P : Int → Mm → Prop} {a1 : Int} {s0 : Int} {M : Mm} (h : EE d 157 [vR 76] M (rI fun r1 M1 => inI (48 + s0) ∧ EE d 140 [vI r1, vI 48, vI (48 + s0)] M1 (rI fun r2 M2 => ((¬ r2 = 0 → H_161_281 d P a1 M2) ∧ (r2 = 0 → EE d 158 [vR 76] M2 (rI fun r3 M3 => ((r3 = 0 → H_161_286 d P a1 0 M3) ∧ (¬ r3 = 0 → H_161_281 d P a1 M3)))))))) : H_161_255 d P a1 s0 M := by
  have hE := EE_mono d
  unfold H_161_255
  refine z_istore hE rfl rfl rfl ?_
  refine z_aload hE rfl rfl rfl ?_
  refine z_callvI hE rfl rfl rfl rfl rfl (Nat.le_of_ble_eq_true rfl) (by decide) ⟨rfl, rfl⟩ (EE_mono d _ _ _ _ _ (rI_mono fun r1 M1 h => ?_) h)
  refine z_iconst hE rfl ?_
  refine z_iconst hE rfl ?_
  refine z_iload hE rfl rfl ?_
  have hb := h.1
  have h := h.2
  refine z_iadd hE rfl hb ?_
  refine z_callsI hE rfl rfl rfl rfl rfl (Nat.le_of_ble_eq_true rfl) (by decide) (EE_mono d _ _ _ _ _ (rI_mono fun r2 M2 h => ?_) h)
  refine z_if_ne hE rfl ⟨fun q => ?_, fun q => ?_⟩
  · have h := h.1 q
    exact GoG.weak hE (ls := [vR 76, vI a1, vU, vU, vU]) ⟨Or.inl rfl, Or.inl rfl, Or.inl rfl, Or.inl rfl, Or.inr ⟨rfl, _, rfl⟩, trivial⟩ h
  · have h := h.2 q
    refine z_aload hE rfl rfl rfl ?_
    refine z_callvI hE rfl rfl rfl rfl rfl (Nat.le_of_ble_eq_true rfl) (by decide) ⟨rfl, rfl⟩ (EE_mono d _ _ _ _ _ (rI_mono fun r3 M3 h => ?_) h)
    refine z_if_eq hE rfl ⟨fun q => ?_, fun q => ?_⟩
    · have h := h.1 q
      refine z_iconst hE rfl ?_
      exact GoG.weak hE (ls := [vR 76, vI a1, vU, vU, vU]) ⟨Or.inl rfl, Or.inl rfl, Or.inl rfl, Or.inl rfl, Or.inr ⟨rfl, _, rfl⟩, trivial⟩ h
    · have h := h.2 q
      exact GoG.weak hE (ls := [vR 76, vI a1, vU, vU, vU]) ⟨Or.inl rfl, Or.inl rfl, Or.inl rfl, Or.inl rfl, Or.inr ⟨rfl, _, rfl⟩, trivial⟩ h
theorem sg_161_281 {d : Nat} {P : Int → Mm → Prop} {a1 : Int} {M : Mm} (h : H_161_286 d P a1 1 M) : H_161_281 d P a1 M := by
  have hE := EE_mono d
  unfold H_161_281
  refine z_iconst hE rfl ?_
  refine z_goto hE rfl ?_
  exact h
theorem sg_161_286 {d : Nat} {P : Int → Mm → Prop} {a1 : Int} {s0 : Int} {M : Mm} (h : ((s0 = 0 → H_161_303 d P a1 s0 0 M) ∧ (¬ s0 = 0 → EE d 157 [vR 76] M (rI fun r1 M1 => inI (r1 - 48) ∧ H_161_303 d P a1 s0 (r1 - 48) M1)))) : H_161_286 d P a1 s0 M := by
  have hE := EE_mono d
  unfold H_161_286
  refine z_istore hE rfl rfl rfl ?_
  refine z_aload hE rfl rfl rfl ?_
  refine z_iload hE rfl rfl ?_
  refine z_if_eq hE rfl ⟨fun q => ?_, fun q => ?_⟩
  · have h := h.1 q
    refine z_iconst hE rfl ?_
    exact h
  · have h := h.2 q
    refine z_aload hE rfl rfl rfl ?_
    refine z_callvI hE rfl rfl rfl rfl rfl (Nat.le_of_ble_eq_true rfl) (by decide) ⟨rfl, rfl⟩ (EE_mono d _ _ _ _ _ (rI_mono fun r1 M1 h => ?_) h)
    refine z_iconst hE rfl ?_
    have hb := h.1
    have h := h.2
    refine z_isub hE rfl hb ?_
    refine z_goto hE rfl ?_
    exact h
theorem sg_161_303 {d : Nat} {P : Int → Mm → Prop} {a1 : Int} {a3 : Int} {s0 : Int} {M : Mm} (h : ((a3 = 0 → H_161_320 d P a1 a3 0 ((mset M 76 25 s0) 76 24) (mset M 76 25 s0)) ∧ (¬ a3 = 0 → H_161_320 d P a1 a3 1 ((mset M 76 25 s0) 76 24) (mset M 76 25 s0)))) : H_161_303 d P a1 a3 s0 M := by
  have hE := EE_mono d
  unfold H_161_303
  refine z_putI hE (sl := 25) rfl shk_76 rfl rfl rfl ?_
  refine z_aload hE rfl rfl rfl ?_
  refine z_dup hE rfl rfl ?_
  refine z_getI hE (sl := 24) rfl shk_76 rfl rfl rfl ?_
  refine z_iload hE rfl rfl ?_
  refine z_if_eq hE rfl ⟨fun q => ?_, fun q => ?_⟩
  · have h := h.1 q
    refine z_iconst hE rfl ?_
    exact h
  · have h := h.2 q
    refine z_iconst hE rfl ?_
    refine z_goto hE rfl ?_
    exact h
theorem sg_161_320 {d : Nat} {P : Int → Mm → Prop} {a1 : Int} {a3 : Int} {s0 : Int} {s1 : Int} {M : Mm} (h : inI (s1 + s0) ∧ H_161_324 d P a1 a3 (mset M 76 24 (s1 + s0))) : H_161_320 d P a1 a3 s0 s1 M := by
  have hE := EE_mono d
  unfold H_161_320
  have hb := h.1
  have h := h.2
  refine z_iadd hE rfl hb ?_
  refine z_putI hE (sl := 24) rfl shk_76 rfl rfl rfl ?_
  exact h
theorem sg_161_324 {d : Nat} {P : Int → Mm → Prop} {a1 : Int} {a3 : Int} {M : Mm} (h : inI (a1 + 1) ∧ (0 ≤ (a1 + 1) ∧ (a1 + 1) < 750) ∧ (a3 = 0 ∨ a3 = 1) ∧ P a3 (mset M 93 (a1 + 1) (M 76 25))) : H_161_324 d P a1 a3 M := by
  have hE := EE_mono d
  unfold H_161_324
  refine z_aload hE rfl rfl rfl ?_
  refine z_getR hE (q := 93) rfl shk_76 rfl rfl rfl ?_
  refine z_iload hE rfl rfl ?_
  refine z_iconst hE rfl ?_
  have hb := h.1
  have h := h.2
  refine z_iadd hE rfl hb ?_
  refine z_aload hE rfl rfl rfl ?_
  refine z_getI hE (sl := 25) rfl shk_76 rfl rfl rfl ?_
  have hb := h.1
  have h := h.2
  refine z_iast hE rfl shk_93 hb ?_
  refine z_iload hE rfl rfl ?_
  have hb := h.1
  have h := h.2
  exact z_zret hE rfl rfl hb h
/-! 162: ChildTrainsModel.isHouse(I)Z -/
theorem mN_162 : mN 162 = 2 := by decide +kernel
theorem ee_162 {d : Nat} {Q : Ql} {a1 : Int} {M : Mm} (h : GoG false (EE d) cd_162 Q 0 [vR 76, vI a1] [] M) : EE (d + 1) 162 [vR 76, vI a1] M Q := by
  have e : cdTab 162 = cd_162 := rfl
  unfold EE; rw [mN_162, e]; exact ⟨Nat.le_of_ble_eq_true rfl, h⟩
theorem sg_162 {d : Nat} {P : Int → Mm → Prop} {a1 : Int} {M : Mm} (h : inI ((M 76 16) - 1) ∧ EE d 140 [vI a1, vI 0, vI ((M 76 16) - 1)] M (rI fun r1 M1 => (r1 = 0 ∨ r1 = 1) ∧ P r1 M1)) : EE (d + 1) 162 [vR 76, vI a1] M (rI P) := by
  have hE := EE_mono d
  refine ee_162 ?_
  refine z_iload hE rfl rfl ?_
  refine z_iconst hE rfl ?_
  refine z_aload hE rfl rfl rfl ?_
  refine z_getI hE (sl := 16) rfl shk_76 rfl rfl rfl ?_
  refine z_iconst hE rfl ?_
  have hb := h.1
  have h := h.2
  refine z_isub hE rfl hb ?_
  refine z_callsI hE rfl rfl rfl rfl rfl (Nat.le_of_ble_eq_true rfl) (by decide) (EE_mono d _ _ _ _ _ (rI_mono fun r1 M1 h => ?_) h)
  have hb := h.1
  have h := h.2
  exact z_zret hE rfl rfl hb h
/-! 163: ChildTrainsModel.isDay(I)Z -/
theorem mN_163 : mN 163 = 1 := by decide +kernel
theorem ee_163 {d : Nat} {Q : Ql} {a0 : Int} {M : Mm} (h : GoG false (EE d) cd_163 Q 0 [vI a0] [] M) : EE (d + 1) 163 [vI a0] M Q := by
  have e : cdTab 163 = cd_163 := rfl
  unfold EE; rw [mN_163, e]; exact ⟨Nat.le_of_ble_eq_true rfl, h⟩
theorem sg_163 {d : Nat} {P : Int → Mm → Prop} {a0 : Int} {M : Mm} (h : EE d 140 [vI a0, vI 0, vI 199] M (rI fun r1 M1 => (r1 = 0 ∨ r1 = 1) ∧ P r1 M1)) : EE (d + 1) 163 [vI a0] M (rI P) := by
  have hE := EE_mono d
  refine ee_163 ?_
  refine z_iload hE rfl rfl ?_
  refine z_iconst hE rfl ?_
  refine z_iconst hE rfl ?_
  refine z_callsI hE rfl rfl rfl rfl rfl (Nat.le_of_ble_eq_true rfl) (by decide) (EE_mono d _ _ _ _ _ (rI_mono fun r1 M1 h => ?_) h)
  have hb := h.1
  have h := h.2
  exact z_zret hE rfl rfl hb h
/-! 164: ChildTrainsModel.rulingOf(IIII)I -/
theorem mN_164 : mN 164 = 6 := by decide +kernel
theorem ee_164 {d : Nat} {Q : Ql} {a1 : Int} {a2 : Int} {a3 : Int} {a4 : Int} {M : Mm} (h : GoG false (EE d) cd_164 Q 0 [vR 76, vI a1, vI a2, vI a3, vI a4, vU] [] M) : EE (d + 1) 164 [vR 76, vI a1, vI a2, vI a3, vI a4] M Q := by
  have e : cdTab 164 = cd_164 := rfl
  unfold EE; rw [mN_164, e]; exact ⟨Nat.le_of_ble_eq_true rfl, h⟩
theorem sg_164 {d : Nat} {P : Int → Mm → Prop} {a1 : Int} {a2 : Int} {a3 : Int} {a4 : Int} {M : Mm} (h : EE d 165 [vR 76, vI a1, vI a2, vI a3, vI a4] M (rI fun r1 M1 => ((¬ r1 = (-9) → inI (25 * r1) ∧ inI ((25 * r1) + 2) ∧ (0 ≤ ((25 * r1) + 2) ∧ ((25 * r1) + 2) < 750) ∧ P (M1 92 ((25 * r1) + 2)) M1) ∧ (r1 = (-9) → P 0 M1)))) : EE (d + 1) 164 [vR 76, vI a1, vI a2, vI a3, vI a4] M (rI P) := by
  have hE := EE_mono d
  refine ee_164 ?_
  refine z_aload hE rfl rfl rfl ?_
  refine z_iload hE rfl rfl ?_
  refine z_iload hE rfl rfl ?_
  refine z_iload hE rfl rfl ?_
  refine z_iload hE rfl rfl ?_
  refine z_callvI hE rfl rfl rfl rfl rfl (Nat.le_of_ble_eq_true rfl) (by decide) ⟨rfl, rfl⟩ (EE_mono d _ _ _ _ _ (rI_mono fun r1 M1 h => ?_) h)
  refine z_istore hE rfl rfl rfl ?_
  refine z_iload hE rfl rfl ?_
  refine z_iconst hE rfl ?_
  refine z_icmp_ne hE rfl ⟨fun q => ?_, fun q => ?_⟩
  · have h := h.1 q
    refine z_aload hE rfl rfl rfl ?_
    refine z_getR hE (q := 92) rfl shk_76 rfl rfl rfl ?_
    refine z_iconst hE rfl ?_
    refine z_iload hE rfl rfl ?_
    have hb := h.1
    have h := h.2
    refine z_imul hE rfl hb ?_
    refine z_iconst hE rfl ?_
    have hb := h.1
    have h := h.2
    refine z_iadd hE rfl hb ?_
    have hb := h.1
    have h := h.2
    refine z_iald hE rfl shk_92 hb ?_
    exact z_iret hE rfl rfl h
  · have h := h.2 q
    refine z_iconst hE rfl ?_
    refine z_goto hE rfl ?_
    exact z_iret hE rfl rfl h
/-! 165: ChildTrainsModel.rules(IIII)I -/
def H_165_7 (d : Nat) (P : Int → Mm → Prop) (a1 : Int) (a2 : Int) (a3 : Int) (a4 : Int) (a5 : Int) (a6 : Int) (M : Mm) : Prop := GoG false (EE d) cd_165 (rI P) 7 [vR 76, vI a1, vI a2, vI a3, vI a4, vI a5, vI a6, vU, vU, vU, vU] [] M
def H_165_84 (d : Nat) (P : Int → Mm → Prop) (a1 : Int) (a2 : Int) (a3 : Int) (a4 : Int) (a5 : Int) (a6 : Int) (a7 : Int) (a8 : Int) (a9 : Int) (M : Mm) : Prop := GoG false (EE d) cd_165 (rI P) 84 [vR 76, vI a1, vI a2, vI a3, vI a4, vI a5, vI a6, vI a7, vI a8, vI a9, vU] [] M
def H_165_126 (d : Nat) (P : Int → Mm → Prop) (a1 : Int) (a2 : Int) (a3 : Int) (a4 : Int) (a5 : Int) (a6 : Int) (a7 : Int) (a8 : Int) (M : Mm) : Prop := GoG false (EE d) cd_165 (rI P) 126 [vR 76, vI a1, vI a2, vI a3, vI a4, vI a5, vI a6, vI a7, vI a8, vU, vU] [] M
def H_165_147 (d : Nat) (P : Int → Mm → Prop) (a1 : Int) (a2 : Int) (a3 : Int) (a4 : Int) (a5 : Int) (a6 : Int) (a7 : Int) (s0 : Int) (M : Mm) : Prop := GoG false (EE d) cd_165 (rI P) 147 [vR 76, vI a1, vI a2, vI a3, vI a4, vI a5, vI a6, vI a7, vU, vU, vU] [vI s0] M
def H_165_211 (d : Nat) (P : Int → Mm → Prop) (a1 : Int) (a2 : Int) (a3 : Int) (a4 : Int) (a5 : Int) (a6 : Int) (M : Mm) : Prop := GoG false (EE d) cd_165 (rI P) 211 [vR 76, vI a1, vI a2, vI a3, vI a4, vI a5, vI a6, vU, vU, vU, vU] [] M
def H_165_215 (d : Nat) (P : Int → Mm → Prop) (a1 : Int) (a2 : Int) (a3 : Int) (a4 : Int) (a5 : Int) (a6 : Int) (M : Mm) : Prop := GoG false (EE d) cd_165 (rI P) 215 [vR 76, vI a1, vI a2, vI a3, vI a4, vI a5, vI a6, vU, vU, vU, vU] [] M
def H_165_216 (d : Nat) (P : Int → Mm → Prop) (a1 : Int) (a2 : Int) (a3 : Int) (a4 : Int) (a5 : Int) (a6 : Int) (s0 : Int) (M : Mm) : Prop := GoG false (EE d) cd_165 (rI P) 216 [vR 76, vI a1, vI a2, vI a3, vI a4, vI a5, vI a6, vU, vU, vU, vU] [vI s0] M
theorem mN_165 : mN 165 = 11 := by decide +kernel
theorem ee_165 {d : Nat} {Q : Ql} {a1 : Int} {a2 : Int} {a3 : Int} {a4 : Int} {M : Mm} (h : GoG false (EE d) cd_165 Q 0 [vR 76, vI a1, vI a2, vI a3, vI a4, vU, vU, vU, vU, vU, vU] [] M) : EE (d + 1) 165 [vR 76, vI a1, vI a2, vI a3, vI a4] M Q := by
  have e : cdTab 165 = cd_165 := rfl
  unfold EE; rw [mN_165, e]; exact ⟨Nat.le_of_ble_eq_true rfl, h⟩
theorem sg_165 {d : Nat} {P : Int → Mm → Prop} {a1 : Int} {a2 : Int} {a3 : Int} {a4 : Int} {M : Mm} (h : H_165_7 d P a1 a2 a3 a4 (-9) 0 M) : EE (d + 1) 165 [vR 76, vI a1, vI a2, vI a3, vI a4] M (rI P) := by
  have hE := EE_mono d
  refine ee_165 ?_
  refine z_iconst hE rfl ?_
  refine z_istore hE rfl rfl rfl ?_
  refine z_iconst hE rfl ?_
  refine z_istore hE rfl rfl rfl ?_
  exact h
theorem sg_165_7 {d : Nat} {P : Int → Mm → Prop} {a1 : Int} {a2 : Int} {a3 : Int} {a4 : Int} {a5 : Int} {a6 : Int} {M : Mm} (h : (((M 76 21) ≤ a6 → P a5 M) ∧ (a6 < (M 76 21) → inI (25 * a6) ∧ inI ((25 * a6) + 3) ∧ (0 ≤ ((25 * a6) + 3) ∧ ((25 * a6) + 3) < 750) ∧ ((¬ (M 92 ((25 * a6) + 3)) = a1 → H_165_84 d P a1 a2 a3 a4 a5 a6 (25 * a6) 0 0 M) ∧ ((M 92 ((25 * a6) + 3)) = a1 → inI ((25 * a6) + 1) ∧ (0 ≤ ((25 * a6) + 1) ∧ ((25 * a6) + 1) < 750) ∧ inI (5 * a3) ∧ (0 ≤ (5 * a3) ∧ (5 * a3) < 120) ∧ inI (3 * (M 89 (5 * a3))) ∧ (0 ≤ (25 * a6) ∧ (25 * a6) < 750) ∧ inI ((3 * (M 89 (5 * a3))) + (M 92 (25 * a6))) ∧ (0 ≤ ((3 * (M 89 (5 * a3))) + (M 92 (25 * a6))) ∧ ((3 * (M 89 (5 * a3))) + (M 92 (25 * a6))) < 18) ∧ inI ((M 92 ((25 * a6) + 1)) + (M 94 ((3 * (M 89 (5 * a3))) + (M 92 (25 * a6))))) ∧ ((a4 < ((M 92 ((25 * a6) + 1)) + (M 94 ((3 * (M 89 (5 * a3))) + (M 92 (25 * a6))))) → H_165_84 d P a1 a2 a3 a4 a5 a6 (25 * a6) 0 0 M) ∧ (((M 92 ((25 * a6) + 1)) + (M 94 ((3 * (M 89 (5 * a3))) + (M 92 (25 * a6))))) ≤ a4 → H_165_84 d P a1 a2 a3 a4 a5 a6 (25 * a6) 1 0 M))))))) : H_165_7 d P a1 a2 a3 a4 a5 a6 M := by
  have hE := EE_mono d
  unfold H_165_7
  refine z_iload hE rfl rfl ?_
  refine z_aload hE rfl rfl rfl ?_
  refine z_getI hE (sl := 21) rfl shk_76 rfl rfl rfl ?_
  refine z_icmp_ge hE rfl ⟨fun q => ?_, fun q => ?_⟩
  · have h := h.1 q
    refine z_iload hE rfl rfl ?_
    exact z_iret hE rfl rfl h
  · have h := h.2 q
    refine z_iconst hE rfl ?_
    refine z_iload hE rfl rfl ?_
    have hb := h.1
    have h := h.2
    refine z_imul hE rfl hb ?_
    refine z_istore hE rfl rfl rfl ?_
    refine z_aload hE rfl rfl rfl ?_
    refine z_getR hE (q := 92) rfl shk_76 rfl rfl rfl ?_
    refine z_iload hE rfl rfl ?_
    refine z_iconst hE rfl ?_
    have hb := h.1
    have h := h.2
    refine z_iadd hE rfl hb ?_
    have hb := h.1
    have h := h.2
    refine z_iald hE rfl shk_92 hb ?_
    refine z_iload hE rfl rfl ?_
    refine z_icmp_ne hE rfl ⟨fun q => ?_, fun q => ?_⟩
    · have h := h.1 q
      refine z_iconst hE rfl ?_
      refine z_istore hE rfl rfl rfl ?_
      refine z_iconst hE rfl ?_
      refine z_istore hE rfl rfl rfl ?_
      exact h
    · have h := h.2 q
      refine z_iload hE rfl rfl ?_
      refine z_aload hE rfl rfl rfl ?_
      refine z_getR hE (q := 92) rfl shk_76 rfl rfl rfl ?_
      refine z_iload hE rfl rfl ?_
      refine z_iconst hE rfl ?_
      have hb := h.1
      have h := h.2
      refine z_iadd hE rfl hb ?_
      have hb := h.1
      have h := h.2
      refine z_iald hE rfl shk_92 hb ?_
      refine z_aload hE rfl rfl rfl ?_
      refine z_getR hE (q := 94) rfl shk_76 rfl rfl rfl ?_
      refine z_iconst hE rfl ?_
      refine z_aload hE rfl rfl rfl ?_
      refine z_getR hE (q := 89) rfl shk_76 rfl rfl rfl ?_
      refine z_iconst hE rfl ?_
      refine z_iload hE rfl rfl ?_
      have hb := h.1
      have h := h.2
      refine z_imul hE rfl hb ?_
      have hb := h.1
      have h := h.2
      refine z_iald hE rfl shk_89 hb ?_
      have hb := h.1
      have h := h.2
      refine z_imul hE rfl hb ?_
      refine z_aload hE rfl rfl rfl ?_
      refine z_getR hE (q := 92) rfl shk_76 rfl rfl rfl ?_
      refine z_iload hE rfl rfl ?_
      have hb := h.1
      have h := h.2
      refine z_iald hE rfl shk_92 hb ?_
      have hb := h.1
      have h := h.2
      refine z_iadd hE rfl hb ?_
      have hb := h.1
      have h := h.2
      refine z_iald hE rfl shk_94 hb ?_
      have hb := h.1
      have h := h.2
      refine z_iadd hE rfl hb ?_
      refine z_icmp_lt hE rfl ⟨fun q => ?_, fun q => ?_⟩
      · have h := h.1 q
        refine z_iconst hE rfl ?_
        refine z_istore hE rfl rfl rfl ?_
        refine z_iconst hE rfl ?_
        refine z_istore hE rfl rfl rfl ?_
        exact h
      · have h := h.2 q
        refine z_iconst hE rfl ?_
        refine z_goto hE rfl ?_
        refine z_istore hE rfl rfl rfl ?_
        refine z_iconst hE rfl ?_
        refine z_istore hE rfl rfl rfl ?_
        exact h
theorem sg_165_84 {d : Nat} {P : Int → Mm → Prop} {a1 : Int} {a2 : Int} {a3 : Int} {a4 : Int} {a5 : Int} {a6 : Int} {a7 : Int} {a8 : Int} {a9 : Int} {M : Mm} (h : inI (a7 + 4) ∧ (0 ≤ (a7 + 4) ∧ (a7 + 4) < 750) ∧ (((M 92 (a7 + 4)) ≤ a9 → H_165_126 d P a1 a2 a3 a4 a5 a6 a7 a8 M) ∧ (a9 < (M 92 (a7 + 4)) → ((a8 = 0 → H_165_126 d P a1 a2 a3 a4 a5 a6 a7 a8 M) ∧ (¬ a8 = 0 → inI (a7 + 5) ∧ inI (3 * a9) ∧ inI ((a7 + 5) + (3 * a9)) ∧ EE d 166 [vR 76, vI ((a7 + 5) + (3 * a9)), vI a2, vI a3] M (rI fun r1 M1 => inI (a9 + 1) ∧ H_165_84 d P a1 a2 a3 a4 a5 a6 a7 r1 (a9 + 1) M1)))))) : H_165_84 d P a1 a2 a3 a4 a5 a6 a7 a8 a9 M := by
  have hE := EE_mono d
  unfold H_165_84
  refine z_iload hE rfl rfl ?_
  refine z_aload hE rfl rfl rfl ?_
  refine z_getR hE (q := 92) rfl shk_76 rfl rfl rfl ?_
  refine z_iload hE rfl rfl ?_
  refine z_iconst hE rfl ?_
  have hb := h.1
  have h := h.2
  refine z_iadd hE rfl hb ?_
  have hb := h.1
  have h := h.2
  refine z_iald hE rfl shk_92 hb ?_
  refine z_icmp_ge hE rfl ⟨fun q => ?_, fun q => ?_⟩
  · have h := h.1 q
    exact GoG.weak hE (ls := [vR 76, vI a1, vI a2, vI a3, vI a4, vI a5, vI a6, vI a7, vI a8, vU, vU]) ⟨Or.inl rfl, Or.inl rfl, Or.inl rfl, Or.inl rfl, Or.inl rfl, Or.inl rfl, Or.inl rfl, Or.inl rfl, Or.inl rfl, Or.inr ⟨rfl, _, rfl⟩, Or.inl rfl, trivial⟩ h
  · have h := h.2 q
    refine z_iload hE rfl rfl ?_
    refine z_if_eq hE rfl ⟨fun q => ?_, fun q => ?_⟩
    · have h := h.1 q
      exact GoG.weak hE (ls := [vR 76, vI a1, vI a2, vI a3, vI a4, vI a5, vI a6, vI a7, vI a8, vU, vU]) ⟨Or.inl rfl, Or.inl rfl, Or.inl rfl, Or.inl rfl, Or.inl rfl, Or.inl rfl, Or.inl rfl, Or.inl rfl, Or.inl rfl, Or.inr ⟨rfl, _, rfl⟩, Or.inl rfl, trivial⟩ h
    · have h := h.2 q
      refine z_aload hE rfl rfl rfl ?_
      refine z_iload hE rfl rfl ?_
      refine z_iconst hE rfl ?_
      have hb := h.1
      have h := h.2
      refine z_iadd hE rfl hb ?_
      refine z_iconst hE rfl ?_
      refine z_iload hE rfl rfl ?_
      have hb := h.1
      have h := h.2
      refine z_imul hE rfl hb ?_
      have hb := h.1
      have h := h.2
      refine z_iadd hE rfl hb ?_
      refine z_iload hE rfl rfl ?_
      refine z_iload hE rfl rfl ?_
      refine z_callvI hE rfl rfl rfl rfl rfl (Nat.le_of_ble_eq_true rfl) (by decide) ⟨rfl, rfl⟩ (EE_mono d _ _ _ _ _ (rI_mono fun r1 M1 h => ?_) h)
      refine z_istore hE rfl rfl rfl ?_
      have hb := h.1
      have h := h.2
      refine z_iinc hE rfl rfl rfl hb ?_
      refine z_goto hE rfl ?_
      exact h
theorem sg_165_126 {d : Nat} {P : Int → Mm → Prop} {a1 : Int} {a2 : Int} {a3 : Int} {a4 : Int} {a5 : Int} {a6 : Int} {a7 : Int} {a8 : Int} {M : Mm} (h : ((a8 = 0 → inI (a6 + 1) ∧ H_165_7 d P a1 a2 a3 a4 a5 (a6 + 1) M) ∧ (¬ a8 = 0 → ((¬ a5 = (-9) → inI (25 * a5) ∧ H_165_147 d P a1 a2 a3 a4 a5 a6 a7 (25 * a5) M) ∧ (a5 = (-9) → H_165_147 d P a1 a2 a3 a4 a5 a6 a7 0 M))))) : H_165_126 d P a1 a2 a3 a4 a5 a6 a7 a8 M := by
  have hE := EE_mono d
  unfold H_165_126
  refine z_iload hE rfl rfl ?_
  refine z_if_eq hE rfl ⟨fun q => ?_, fun q => ?_⟩
  · have h := h.1 q
    have hb := h.1
    have h := h.2
    refine z_iinc hE rfl rfl rfl hb ?_
    refine z_goto hE rfl ?_
    exact GoG.weak hE (ls := [vR 76, vI a1, vI a2, vI a3, vI a4, vI a5, vI (a6 + 1), vU, vU, vU, vU]) ⟨Or.inl rfl, Or.inl rfl, Or.inl rfl, Or.inl rfl, Or.inl rfl, Or.inl rfl, Or.inl rfl, Or.inr ⟨rfl, _, rfl⟩, Or.inr ⟨rfl, _, rfl⟩, Or.inl rfl, Or.inl rfl, trivial⟩ h
  · have h := h.2 q
    refine z_iload hE rfl rfl ?_
    refine z_iconst hE rfl ?_
    refine z_icmp_ne hE rfl ⟨fun q => ?_, fun q => ?_⟩
    · have h := h.1 q
      refine z_iconst hE rfl ?_
      refine z_iload hE rfl rfl ?_
      have hb := h.1
      have h := h.2
      refine z_imul hE rfl hb ?_
      exact GoG.weak hE (ls := [vR 76, vI a1, vI a2, vI a3, vI a4, vI a5, vI a6, vI a7, vU, vU, vU]) ⟨Or.inl rfl, Or.inl rfl, Or.inl rfl, Or.inl rfl, Or.inl rfl, Or.inl rfl, Or.inl rfl, Or.inl rfl, Or.inr ⟨rfl, _, rfl⟩, Or.inl rfl, Or.inl rfl, trivial⟩ h
    · have h := h.2 q
      refine z_iconst hE rfl ?_
      refine z_goto hE rfl ?_
      exact GoG.weak hE (ls := [vR 76, vI a1, vI a2, vI a3, vI a4, vI a5, vI a6, vI a7, vU, vU, vU]) ⟨Or.inl rfl, Or.inl rfl, Or.inl rfl, Or.inl rfl, Or.inl rfl, Or.inl rfl, Or.inl rfl, Or.inl rfl, Or.inr ⟨rfl, _, rfl⟩, Or.inl rfl, Or.inl rfl, trivial⟩ h
theorem sg_165_147 {d : Nat} {P : Int → Mm → Prop} {a1 : Int} {a2 : Int} {a3 : Int} {a4 : Int} {a5 : Int} {a6 : Int} {a7 : Int} {s0 : Int} {M : Mm} (h : ((a5 = (-9) → H_165_211 d P a1 a2 a3 a4 a5 a6 M) ∧ (¬ a5 = (-9) → (0 ≤ a7 ∧ a7 < 750) ∧ (0 ≤ s0 ∧ s0 < 750) ∧ (((M 92 a7) < (M 92 s0) → H_165_211 d P a1 a2 a3 a4 a5 a6 M) ∧ ((M 92 s0) ≤ (M 92 a7) → (0 ≤ a7 ∧ a7 < 750) ∧ (0 ≤ s0 ∧ s0 < 750) ∧ ((¬ (M 92 a7) = (M 92 s0) → H_165_215 d P a1 a2 a3 a4 a5 a6 M) ∧ ((M 92 a7) = (M 92 s0) → inI (a7 + 1) ∧ (0 ≤ (a7 + 1) ∧ (a7 + 1) < 750) ∧ inI (s0 + 1) ∧ (0 ≤ (s0 + 1) ∧ (s0 + 1) < 750) ∧ (((M 92 (a7 + 1)) < (M 92 (s0 + 1)) → H_165_215 d P a1 a2 a3 a4 a5 a6 M) ∧ ((M 92 (s0 + 1)) ≤ (M 92 (a7 + 1)) → H_165_211 d P a1 a2 a3 a4 a5 a6 M))))))))) : H_165_147 d P a1 a2 a3 a4 a5 a6 a7 s0 M := by
  have hE := EE_mono d
  unfold H_165_147
  refine z_istore hE rfl rfl rfl ?_
  refine z_iload hE rfl rfl ?_
  refine z_iconst hE rfl ?_
  refine z_icmp_eq hE rfl ⟨fun q => ?_, fun q => ?_⟩
  · have h := h.1 q
    exact GoG.weak hE (ls := [vR 76, vI a1, vI a2, vI a3, vI a4, vI a5, vI a6, vU, vU, vU, vU]) ⟨Or.inl rfl, Or.inl rfl, Or.inl rfl, Or.inl rfl, Or.inl rfl, Or.inl rfl, Or.inl rfl, Or.inr ⟨rfl, _, rfl⟩, Or.inl rfl, Or.inr ⟨rfl, _, rfl⟩, Or.inl rfl, trivial⟩ h
  · have h := h.2 q
    refine z_aload hE rfl rfl rfl ?_
    refine z_getR hE (q := 92) rfl shk_76 rfl rfl rfl ?_
    refine z_iload hE rfl rfl ?_
    have hb := h.1
    have h := h.2
    refine z_iald hE rfl shk_92 hb ?_
    refine z_aload hE rfl rfl rfl ?_
    refine z_getR hE (q := 92) rfl shk_76 rfl rfl rfl ?_
    refine z_iload hE rfl rfl ?_
    have hb := h.1
    have h := h.2
    refine z_iald hE rfl shk_92 hb ?_
    refine z_icmp_lt hE rfl ⟨fun q => ?_, fun q => ?_⟩
    · have h := h.1 q
      exact GoG.weak hE (ls := [vR 76, vI a1, vI a2, vI a3, vI a4, vI a5, vI a6, vU, vU, vU, vU]) ⟨Or.inl rfl, Or.inl rfl, Or.inl rfl, Or.inl rfl, Or.inl rfl, Or.inl rfl, Or.inl rfl, Or.inr ⟨rfl, _, rfl⟩, Or.inl rfl, Or.inr ⟨rfl, _, rfl⟩, Or.inl rfl, trivial⟩ h
    · have h := h.2 q
      refine z_aload hE rfl rfl rfl ?_
      refine z_getR hE (q := 92) rfl shk_76 rfl rfl rfl ?_
      refine z_iload hE rfl rfl ?_
      have hb := h.1
      have h := h.2
      refine z_iald hE rfl shk_92 hb ?_
      refine z_aload hE rfl rfl rfl ?_
      refine z_getR hE (q := 92) rfl shk_76 rfl rfl rfl ?_
      refine z_iload hE rfl rfl ?_
      have hb := h.1
      have h := h.2
      refine z_iald hE rfl shk_92 hb ?_
      refine z_icmp_ne hE rfl ⟨fun q => ?_, fun q => ?_⟩
      · have h := h.1 q
        exact GoG.weak hE (ls := [vR 76, vI a1, vI a2, vI a3, vI a4, vI a5, vI a6, vU, vU, vU, vU]) ⟨Or.inl rfl, Or.inl rfl, Or.inl rfl, Or.inl rfl, Or.inl rfl, Or.inl rfl, Or.inl rfl, Or.inr ⟨rfl, _, rfl⟩, Or.inl rfl, Or.inr ⟨rfl, _, rfl⟩, Or.inl rfl, trivial⟩ h
      · have h := h.2 q
        refine z_aload hE rfl rfl rfl ?_
        refine z_getR hE (q := 92) rfl shk_76 rfl rfl rfl ?_
        refine z_iload hE rfl rfl ?_
        refine z_iconst hE rfl ?_
        have hb := h.1
        have h := h.2
        refine z_iadd hE rfl hb ?_
        have hb := h.1
        have h := h.2
        refine z_iald hE rfl shk_92 hb ?_
        refine z_aload hE rfl rfl rfl ?_
        refine z_getR hE (q := 92) rfl shk_76 rfl rfl rfl ?_
        refine z_iload hE rfl rfl ?_
        refine z_iconst hE rfl ?_
        have hb := h.1
        have h := h.2
        refine z_iadd hE rfl hb ?_
        have hb := h.1
        have h := h.2
        refine z_iald hE rfl shk_92 hb ?_
        refine z_icmp_lt hE rfl ⟨fun q => ?_, fun q => ?_⟩
        · have h := h.1 q
          exact GoG.weak hE (ls := [vR 76, vI a1, vI a2, vI a3, vI a4, vI a5, vI a6, vU, vU, vU, vU]) ⟨Or.inl rfl, Or.inl rfl, Or.inl rfl, Or.inl rfl, Or.inl rfl, Or.inl rfl, Or.inl rfl, Or.inr ⟨rfl, _, rfl⟩, Or.inl rfl, Or.inr ⟨rfl, _, rfl⟩, Or.inl rfl, trivial⟩ h
        · have h := h.2 q
          exact GoG.weak hE (ls := [vR 76, vI a1, vI a2, vI a3, vI a4, vI a5, vI a6, vU, vU, vU, vU]) ⟨Or.inl rfl, Or.inl rfl, Or.inl rfl, Or.inl rfl, Or.inl rfl, Or.inl rfl, Or.inl rfl, Or.inr ⟨rfl, _, rfl⟩, Or.inl rfl, Or.inr ⟨rfl, _, rfl⟩, Or.inl rfl, trivial⟩ h
theorem sg_165_211 {d : Nat} {P : Int → Mm → Prop} {a1 : Int} {a2 : Int} {a3 : Int} {a4 : Int} {a5 : Int} {a6 : Int} {M : Mm} (h : H_165_216 d P a1 a2 a3 a4 a5 a6 1 M) : H_165_211 d P a1 a2 a3 a4 a5 a6 M := by
  have hE := EE_mono d
  unfold H_165_211
  refine z_iconst hE rfl ?_
  refine z_goto hE rfl ?_
  exact h
theorem sg_165_215 {d : Nat} {P : Int → Mm → Prop} {a1 : Int} {a2 : Int} {a3 : Int} {a4 : Int} {a5 : Int} {a6 : Int} {M : Mm} (h : H_165_216 d P a1 a2 a3 a4 a5 a6 0 M) : H_165_215 d P a1 a2 a3 a4 a5 a6 M := by
  have hE := EE_mono d
  unfold H_165_215
  refine z_iconst hE rfl ?_
  exact h
theorem sg_165_216 {d : Nat} {P : Int → Mm → Prop} {a1 : Int} {a2 : Int} {a3 : Int} {a4 : Int} {a5 : Int} {a6 : Int} {s0 : Int} {M : Mm} (h : ((s0 = 0 → inI (a6 + 1) ∧ H_165_7 d P a1 a2 a3 a4 a5 (a6 + 1) M) ∧ (¬ s0 = 0 → inI (a6 + 1) ∧ H_165_7 d P a1 a2 a3 a4 a6 (a6 + 1) M))) : H_165_216 d P a1 a2 a3 a4 a5 a6 s0 M := by
  have hE := EE_mono d
  unfold H_165_216
  refine z_istore hE rfl rfl rfl ?_
  refine z_iload hE rfl rfl ?_
  refine z_if_eq hE rfl ⟨fun q => ?_, fun q => ?_⟩
  · have h := h.1 q
    refine z_iload hE rfl rfl ?_
    refine z_istore hE rfl rfl rfl ?_
    have hb := h.1
    have h := h.2
    refine z_iinc hE rfl rfl rfl hb ?_
    refine z_goto hE rfl ?_
    exact GoG.weak hE (ls := [vR 76, vI a1, vI a2, vI a3, vI a4, vI a5, vI (a6 + 1), vU, vU, vU, vU]) ⟨Or.inl rfl, Or.inl rfl, Or.inl rfl, Or.inl rfl, Or.inl rfl, Or.inl rfl, Or.inl rfl, Or.inl rfl, Or.inl rfl, Or.inl rfl, Or.inr ⟨rfl, _, rfl⟩, trivial⟩ h
  · have h := h.2 q
    refine z_iload hE rfl rfl ?_
    refine z_goto hE rfl ?_
    refine z_istore hE rfl rfl rfl ?_
    have hb := h.1
    have h := h.2
    refine z_iinc hE rfl rfl rfl hb ?_
    refine z_goto hE rfl ?_
    exact GoG.weak hE (ls := [vR 76, vI a1, vI a2, vI a3, vI a4, vI a6, vI (a6 + 1), vU, vU, vU, vU]) ⟨Or.inl rfl, Or.inl rfl, Or.inl rfl, Or.inl rfl, Or.inl rfl, Or.inl rfl, Or.inl rfl, Or.inl rfl, Or.inl rfl, Or.inl rfl, Or.inr ⟨rfl, _, rfl⟩, trivial⟩ h
/-! 166: ChildTrainsModel.isSo(III)Z -/
def H_166_68 (d : Nat) (P : Int → Mm → Prop) (a1 : Int) (s0 : Int) (M : Mm) : Prop := GoG false (EE d) cd_166 (rI P) 68 [vR 76, vI a1, vU, vU, vU, vU] [vI s0] M
def H_166_89 (d : Nat) (P : Int → Mm → Prop) (a1 : Int) (s0 : Int) (M : Mm) : Prop := GoG false (EE d) cd_166 (rI P) 89 [vR 76, vI a1, vU, vU, vU, vU] [vI s0] M
def H_166_110 (d : Nat) (P : Int → Mm → Prop) (a1 : Int) (s0 : Int) (M : Mm) : Prop := GoG false (EE d) cd_166 (rI P) 110 [vR 76, vI a1, vU, vU, vU, vU] [vI s0] M
def H_166_129 (d : Nat) (P : Int → Mm → Prop) (a1 : Int) (s0 : Int) (M : Mm) : Prop := GoG false (EE d) cd_166 (rI P) 129 [vR 76, vI a1, vU, vU, vU, vU] [vI s0] M
def H_166_154 (d : Nat) (P : Int → Mm → Prop) (a1 : Int) (s0 : Int) (M : Mm) : Prop := GoG false (EE d) cd_166 (rI P) 154 [vR 76, vI a1, vU, vU, vU, vU] [vI s0] M
def H_166_177 (d : Nat) (P : Int → Mm → Prop) (a1 : Int) (s0 : Int) (M : Mm) : Prop := GoG false (EE d) cd_166 (rI P) 177 [vR 76, vI a1, vU, vU, vU, vU] [vI s0] M
def H_166_179 (d : Nat) (P : Int → Mm → Prop) (a1 : Int) (a5 : Int) (M : Mm) : Prop := GoG false (EE d) cd_166 (rI P) 179 [vR 76, vI a1, vU, vU, vU, vI a5] [] M
theorem mN_166 : mN 166 = 6 := by decide +kernel
theorem ee_166 {d : Nat} {Q : Ql} {a1 : Int} {a2 : Int} {a3 : Int} {M : Mm} (h : GoG false (EE d) cd_166 Q 0 [vR 76, vI a1, vI a2, vI a3, vU, vU] [] M) : EE (d + 1) 166 [vR 76, vI a1, vI a2, vI a3] M Q := by
  have e : cdTab 166 = cd_166 := rfl
  unfold EE; rw [mN_166, e]; exact ⟨Nat.le_of_ble_eq_true rfl, h⟩
theorem sg_166 {d : Nat} {P : Int → Mm → Prop} {a1 : Int} {a2 : Int} {a3 : Int} {M : Mm} (h : inI (a1 + 1) ∧ (0 ≤ (a1 + 1) ∧ (a1 + 1) < 750) ∧ (0 ≤ a1 ∧ a1 < 750) ∧ (((M 92 a1) = 0 → (0 ≤ a2 ∧ a2 < 48) ∧ ((¬ (M 77 a2) = (M 92 (a1 + 1)) → H_166_68 d P a1 0 M) ∧ ((M 77 a2) = (M 92 (a1 + 1)) → H_166_68 d P a1 1 M))) ∧ ((M 92 a1) = 1 → (0 ≤ a2 ∧ a2 < 48) ∧ (((M 92 (a1 + 1)) ≤ (M 78 a2) → H_166_89 d P a1 0 M) ∧ ((M 78 a2) < (M 92 (a1 + 1)) → H_166_89 d P a1 1 M))) ∧ ((M 92 a1) = 2 → (0 ≤ a2 ∧ a2 < 48) ∧ (((M 78 a2) ≤ (M 92 (a1 + 1)) → H_166_110 d P a1 0 M) ∧ ((M 92 (a1 + 1)) < (M 78 a2) → H_166_110 d P a1 1 M))) ∧ ((M 92 a1) = 3 → (0 ≤ a2 ∧ a2 < 48) ∧ (((M 79 a2) ≤ 0 → H_166_129 d P a1 0 M) ∧ (0 < (M 79 a2) → H_166_129 d P a1 1 M))) ∧ ((M 92 a1) = 4 → inI (5 * a3) ∧ inI ((5 * a3) + 1) ∧ (0 ≤ ((5 * a3) + 1) ∧ ((5 * a3) + 1) < 120) ∧ ((¬ (M 89 ((5 * a3) + 1)) = (M 92 (a1 + 1)) → H_166_154 d P a1 0 M) ∧ ((M 89 ((5 * a3) + 1)) = (M 92 (a1 + 1)) → H_166_154 d P a1 1 M))) ∧ (((M 92 a1) < 0 ∨ 5 ≤ (M 92 a1)) → inI (5 * a3) ∧ (0 ≤ (5 * a3) ∧ (5 * a3) < 120) ∧ ((¬ (M 89 (5 * a3)) = (M 92 (a1 + 1)) → H_166_177 d P a1 0 M) ∧ ((M 89 (5 * a3)) = (M 92 (a1 + 1)) → H_166_177 d P a1 1 M))))) : EE (d + 1) 166 [vR 76, vI a1, vI a2, vI a3] M (rI P) := by
  have hE := EE_mono d
  refine ee_166 ?_
  refine z_aload hE rfl rfl rfl ?_
  refine z_getR hE (q := 92) rfl shk_76 rfl rfl rfl ?_
  refine z_iload hE rfl rfl ?_
  refine z_iconst hE rfl ?_
  have hb := h.1
  have h := h.2
  refine z_iadd hE rfl hb ?_
  have hb := h.1
  have h := h.2
  refine z_iald hE rfl shk_92 hb ?_
  refine z_istore hE rfl rfl rfl ?_
  refine z_aload hE rfl rfl rfl ?_
  refine z_getR hE (q := 92) rfl shk_76 rfl rfl rfl ?_
  refine z_iload hE rfl rfl ?_
  have hb := h.1
  have h := h.2
  refine z_iald hE rfl shk_92 hb ?_
  refine z_tsw hE rfl ⟨fun q => ?_, fun q => ?_, fun q => ?_, fun q => ?_, fun q => ?_, trivial⟩ (fun q => ?_)
  · have h := h.1 (by have q2 := q; simp only [xI] at q2; omega)
    refine z_aload hE rfl rfl rfl ?_
    refine z_getR hE (q := 77) rfl shk_76 rfl rfl rfl ?_
    refine z_iload hE rfl rfl ?_
    have hb := h.1
    have h := h.2
    refine z_iald hE rfl shk_77 hb ?_
    refine z_iload hE rfl rfl ?_
    refine z_icmp_ne hE rfl ⟨fun q => ?_, fun q => ?_⟩
    · have h := h.1 q
      refine z_iconst hE rfl ?_
      exact GoG.weak hE (ls := [vR 76, vI a1, vU, vU, vU, vU]) ⟨Or.inl rfl, Or.inl rfl, Or.inr ⟨rfl, _, rfl⟩, Or.inr ⟨rfl, _, rfl⟩, Or.inr ⟨rfl, _, rfl⟩, Or.inl rfl, trivial⟩ h
    · have h := h.2 q
      refine z_iconst hE rfl ?_
      refine z_goto hE rfl ?_
      exact GoG.weak hE (ls := [vR 76, vI a1, vU, vU, vU, vU]) ⟨Or.inl rfl, Or.inl rfl, Or.inr ⟨rfl, _, rfl⟩, Or.inr ⟨rfl, _, rfl⟩, Or.inr ⟨rfl, _, rfl⟩, Or.inl rfl, trivial⟩ h
  · have h := h.2.1 (by have q2 := q; simp only [xI] at q2; omega)
    refine z_aload hE rfl rfl rfl ?_
    refine z_getR hE (q := 78) rfl shk_76 rfl rfl rfl ?_
    refine z_iload hE rfl rfl ?_
    have hb := h.1
    have h := h.2
    refine z_iald hE rfl shk_78 hb ?_
    refine z_iload hE rfl rfl ?_
    refine z_icmp_ge hE rfl ⟨fun q => ?_, fun q => ?_⟩
    · have h := h.1 q
      refine z_iconst hE rfl ?_
      exact GoG.weak hE (ls := [vR 76, vI a1, vU, vU, vU, vU]) ⟨Or.inl rfl, Or.inl rfl, Or.inr ⟨rfl, _, rfl⟩, Or.inr ⟨rfl, _, rfl⟩, Or.inr ⟨rfl, _, rfl⟩, Or.inl rfl, trivial⟩ h
    · have h := h.2 q
      refine z_iconst hE rfl ?_
      refine z_goto hE rfl ?_
      exact GoG.weak hE (ls := [vR 76, vI a1, vU, vU, vU, vU]) ⟨Or.inl rfl, Or.inl rfl, Or.inr ⟨rfl, _, rfl⟩, Or.inr ⟨rfl, _, rfl⟩, Or.inr ⟨rfl, _, rfl⟩, Or.inl rfl, trivial⟩ h
  · have h := h.2.2.1 (by have q2 := q; simp only [xI] at q2; omega)
    refine z_aload hE rfl rfl rfl ?_
    refine z_getR hE (q := 78) rfl shk_76 rfl rfl rfl ?_
    refine z_iload hE rfl rfl ?_
    have hb := h.1
    have h := h.2
    refine z_iald hE rfl shk_78 hb ?_
    refine z_iload hE rfl rfl ?_
    refine z_icmp_le hE rfl ⟨fun q => ?_, fun q => ?_⟩
    · have h := h.1 q
      refine z_iconst hE rfl ?_
      exact GoG.weak hE (ls := [vR 76, vI a1, vU, vU, vU, vU]) ⟨Or.inl rfl, Or.inl rfl, Or.inr ⟨rfl, _, rfl⟩, Or.inr ⟨rfl, _, rfl⟩, Or.inr ⟨rfl, _, rfl⟩, Or.inl rfl, trivial⟩ h
    · have h := h.2 q
      refine z_iconst hE rfl ?_
      refine z_goto hE rfl ?_
      exact GoG.weak hE (ls := [vR 76, vI a1, vU, vU, vU, vU]) ⟨Or.inl rfl, Or.inl rfl, Or.inr ⟨rfl, _, rfl⟩, Or.inr ⟨rfl, _, rfl⟩, Or.inr ⟨rfl, _, rfl⟩, Or.inl rfl, trivial⟩ h
  · have h := h.2.2.2.1 (by have q2 := q; simp only [xI] at q2; omega)
    refine z_aload hE rfl rfl rfl ?_
    refine z_getR hE (q := 79) rfl shk_76 rfl rfl rfl ?_
    refine z_iload hE rfl rfl ?_
    have hb := h.1
    have h := h.2
    refine z_iald hE rfl shk_79 hb ?_
    refine z_if_le hE rfl ⟨fun q => ?_, fun q => ?_⟩
    · have h := h.1 q
      refine z_iconst hE rfl ?_
      exact GoG.weak hE (ls := [vR 76, vI a1, vU, vU, vU, vU]) ⟨Or.inl rfl, Or.inl rfl, Or.inr ⟨rfl, _, rfl⟩, Or.inr ⟨rfl, _, rfl⟩, Or.inr ⟨rfl, _, rfl⟩, Or.inl rfl, trivial⟩ h
    · have h := h.2 q
      refine z_iconst hE rfl ?_
      refine z_goto hE rfl ?_
      exact GoG.weak hE (ls := [vR 76, vI a1, vU, vU, vU, vU]) ⟨Or.inl rfl, Or.inl rfl, Or.inr ⟨rfl, _, rfl⟩, Or.inr ⟨rfl, _, rfl⟩, Or.inr ⟨rfl, _, rfl⟩, Or.inl rfl, trivial⟩ h
  · have h := h.2.2.2.2.1 (by have q2 := q; simp only [xI] at q2; omega)
    refine z_aload hE rfl rfl rfl ?_
    refine z_getR hE (q := 89) rfl shk_76 rfl rfl rfl ?_
    refine z_iconst hE rfl ?_
    refine z_iload hE rfl rfl ?_
    have hb := h.1
    have h := h.2
    refine z_imul hE rfl hb ?_
    refine z_iconst hE rfl ?_
    have hb := h.1
    have h := h.2
    refine z_iadd hE rfl hb ?_
    have hb := h.1
    have h := h.2
    refine z_iald hE rfl shk_89 hb ?_
    refine z_iload hE rfl rfl ?_
    refine z_icmp_ne hE rfl ⟨fun q => ?_, fun q => ?_⟩
    · have h := h.1 q
      refine z_iconst hE rfl ?_
      exact GoG.weak hE (ls := [vR 76, vI a1, vU, vU, vU, vU]) ⟨Or.inl rfl, Or.inl rfl, Or.inr ⟨rfl, _, rfl⟩, Or.inr ⟨rfl, _, rfl⟩, Or.inr ⟨rfl, _, rfl⟩, Or.inl rfl, trivial⟩ h
    · have h := h.2 q
      refine z_iconst hE rfl ?_
      refine z_goto hE rfl ?_
      exact GoG.weak hE (ls := [vR 76, vI a1, vU, vU, vU, vU]) ⟨Or.inl rfl, Or.inl rfl, Or.inr ⟨rfl, _, rfl⟩, Or.inr ⟨rfl, _, rfl⟩, Or.inr ⟨rfl, _, rfl⟩, Or.inl rfl, trivial⟩ h
  · have h := h.2.2.2.2.2 (by have q2 := q; simp only [xI, x3, List.length_cons, List.length_nil] at q2; omega)
    refine z_aload hE rfl rfl rfl ?_
    refine z_getR hE (q := 89) rfl shk_76 rfl rfl rfl ?_
    refine z_iconst hE rfl ?_
    refine z_iload hE rfl rfl ?_
    have hb := h.1
    have h := h.2
    refine z_imul hE rfl hb ?_
    have hb := h.1
    have h := h.2
    refine z_iald hE rfl shk_89 hb ?_
    refine z_iload hE rfl rfl ?_
    refine z_icmp_ne hE rfl ⟨fun q => ?_, fun q => ?_⟩
    · have h := h.1 q
      refine z_iconst hE rfl ?_
      exact GoG.weak hE (ls := [vR 76, vI a1, vU, vU, vU, vU]) ⟨Or.inl rfl, Or.inl rfl, Or.inr ⟨rfl, _, rfl⟩, Or.inr ⟨rfl, _, rfl⟩, Or.inr ⟨rfl, _, rfl⟩, Or.inl rfl, trivial⟩ h
    · have h := h.2 q
      refine z_iconst hE rfl ?_
      refine z_goto hE rfl ?_
      exact GoG.weak hE (ls := [vR 76, vI a1, vU, vU, vU, vU]) ⟨Or.inl rfl, Or.inl rfl, Or.inr ⟨rfl, _, rfl⟩, Or.inr ⟨rfl, _, rfl⟩, Or.inr ⟨rfl, _, rfl⟩, Or.inl rfl, trivial⟩ h
theorem sg_166_68 {d : Nat} {P : Int → Mm → Prop} {a1 : Int} {s0 : Int} {M : Mm} (h : H_166_179 d P a1 s0 M) : H_166_68 d P a1 s0 M := by
  have hE := EE_mono d
  unfold H_166_68
  refine z_istore hE rfl rfl rfl ?_
  refine z_goto hE rfl ?_
  exact h
theorem sg_166_89 {d : Nat} {P : Int → Mm → Prop} {a1 : Int} {s0 : Int} {M : Mm} (h : H_166_179 d P a1 s0 M) : H_166_89 d P a1 s0 M := by
  have hE := EE_mono d
  unfold H_166_89
  refine z_istore hE rfl rfl rfl ?_
  refine z_goto hE rfl ?_
  exact h
theorem sg_166_110 {d : Nat} {P : Int → Mm → Prop} {a1 : Int} {s0 : Int} {M : Mm} (h : H_166_179 d P a1 s0 M) : H_166_110 d P a1 s0 M := by
  have hE := EE_mono d
  unfold H_166_110
  refine z_istore hE rfl rfl rfl ?_
  refine z_goto hE rfl ?_
  exact h
theorem sg_166_129 {d : Nat} {P : Int → Mm → Prop} {a1 : Int} {s0 : Int} {M : Mm} (h : H_166_179 d P a1 s0 M) : H_166_129 d P a1 s0 M := by
  have hE := EE_mono d
  unfold H_166_129
  refine z_istore hE rfl rfl rfl ?_
  refine z_goto hE rfl ?_
  exact h
theorem sg_166_154 {d : Nat} {P : Int → Mm → Prop} {a1 : Int} {s0 : Int} {M : Mm} (h : H_166_179 d P a1 s0 M) : H_166_154 d P a1 s0 M := by
  have hE := EE_mono d
  unfold H_166_154
  refine z_istore hE rfl rfl rfl ?_
  refine z_goto hE rfl ?_
  exact h
theorem sg_166_177 {d : Nat} {P : Int → Mm → Prop} {a1 : Int} {s0 : Int} {M : Mm} (h : H_166_179 d P a1 s0 M) : H_166_177 d P a1 s0 M := by
  have hE := EE_mono d
  unfold H_166_177
  refine z_istore hE rfl rfl rfl ?_
  exact h
theorem sg_166_179 {d : Nat} {P : Int → Mm → Prop} {a1 : Int} {a5 : Int} {M : Mm} (h : inI (a1 + 2) ∧ (0 ≤ (a1 + 2) ∧ (a1 + 2) < 750) ∧ ((¬ (M 92 (a1 + 2)) = 1 → ((a5 = 0 → P 0 M) ∧ (¬ a5 = 0 → P 1 M))) ∧ ((M 92 (a1 + 2)) = 1 → ((a5 = 1 → P 0 M) ∧ (¬ a5 = 1 → P 1 M))))) : H_166_179 d P a1 a5 M := by
  have hE := EE_mono d
  unfold H_166_179
  refine z_iload hE rfl rfl ?_
  refine z_aload hE rfl rfl rfl ?_
  refine z_getR hE (q := 92) rfl shk_76 rfl rfl rfl ?_
  refine z_iload hE rfl rfl ?_
  refine z_iconst hE rfl ?_
  have hb := h.1
  have h := h.2
  refine z_iadd hE rfl hb ?_
  have hb := h.1
  have h := h.2
  refine z_iald hE rfl shk_92 hb ?_
  refine z_iconst hE rfl ?_
  refine z_icmp_ne hE rfl ⟨fun q => ?_, fun q => ?_⟩
  · have h := h.1 q
    refine z_iconst hE rfl ?_
    refine z_icmp_eq hE rfl ⟨fun q => ?_, fun q => ?_⟩
    · have h := h.1 q
      refine z_iconst hE rfl ?_
      exact z_zret hE rfl rfl (Or.inl rfl) h
    · have h := h.2 q
      refine z_iconst hE rfl ?_
      refine z_goto hE rfl ?_
      exact z_zret hE rfl rfl (Or.inr rfl) h
  · have h := h.2 q
    refine z_iconst hE rfl ?_
    refine z_goto hE rfl ?_
    refine z_icmp_eq hE rfl ⟨fun q => ?_, fun q => ?_⟩
    · have h := h.1 q
      refine z_iconst hE rfl ?_
      exact z_zret hE rfl rfl (Or.inl rfl) h
    · have h := h.2 q
      refine z_iconst hE rfl ?_
      refine z_goto hE rfl ?_
      exact z_zret hE rfl rfl (Or.inr rfl) h
/-! 167: ChildTrainsModel.whereOf(II)I -/
def H_167_6 (d : Nat) (P : Int → Mm → Prop) (a1 : Int) (a2 : Int) (a3 : Int) (a4 : Int) (M : Mm) : Prop := GoG false (EE d) cd_167 (rI P) 6 [vR 76, vI a1, vI a2, vI a3, vI a4] [] M
theorem mN_167 : mN 167 = 5 := by decide +kernel
theorem ee_167 {d : Nat} {Q : Ql} {a1 : Int} {a2 : Int} {M : Mm} (h : GoG false (EE d) cd_167 Q 0 [vR 76, vI a1, vI a2, vU, vU] [] M) : EE (d + 1) 167 [vR 76, vI a1, vI a2] M Q := by
  have e : cdTab 167 = cd_167 := rfl
  unfold EE; rw [mN_167, e]; exact ⟨Nat.le_of_ble_eq_true rfl, h⟩
theorem sg_167 {d : Nat} {P : Int → Mm → Prop} {a1 : Int} {a2 : Int} {M : Mm} (h : H_167_6 d P a1 a2 (-9) 0 M) : EE (d + 1) 167 [vR 76, vI a1, vI a2] M (rI P) := by
  have hE := EE_mono d
  refine ee_167 ?_
  refine z_iconst hE rfl ?_
  refine z_istore hE rfl rfl rfl ?_
  refine z_iconst hE rfl ?_
  refine z_istore hE rfl rfl rfl ?_
  exact h
theorem sg_167_6 {d : Nat} {P : Int → Mm → Prop} {a1 : Int} {a2 : Int} {a3 : Int} {a4 : Int} {M : Mm} (h : (((M 76 28) ≤ a4 → P a3 M) ∧ (a4 < (M 76 28) → (0 ≤ a4 ∧ a4 < 80) ∧ ((¬ (M 95 a4) = a1 → inI (a4 + 1) ∧ H_167_6 d P a1 a2 a3 (a4 + 1) M) ∧ ((M 95 a4) = a1 → (0 ≤ a4 ∧ a4 < 80) ∧ ((a2 < (M 97 a4) → inI (a4 + 1) ∧ H_167_6 d P a1 a2 a3 (a4 + 1) M) ∧ ((M 97 a4) ≤ a2 → (0 ≤ a4 ∧ a4 < 80) ∧ inI (a4 + 1) ∧ H_167_6 d P a1 a2 (M 96 a4) (a4 + 1) M))))))) : H_167_6 d P a1 a2 a3 a4 M := by
  have hE := EE_mono d
  unfold H_167_6
  refine z_iload hE rfl rfl ?_
  refine z_aload hE rfl rfl rfl ?_
  refine z_getI hE (sl := 28) rfl shk_76 rfl rfl rfl ?_
  refine z_icmp_ge hE rfl ⟨fun q => ?_, fun q => ?_⟩
  · have h := h.1 q
    refine z_iload hE rfl rfl ?_
    exact z_iret hE rfl rfl h
  · have h := h.2 q
    refine z_aload hE rfl rfl rfl ?_
    refine z_getR hE (q := 95) rfl shk_76 rfl rfl rfl ?_
    refine z_iload hE rfl rfl ?_
    have hb := h.1
    have h := h.2
    refine z_iald hE rfl shk_95 hb ?_
    refine z_iload hE rfl rfl ?_
    refine z_icmp_ne hE rfl ⟨fun q => ?_, fun q => ?_⟩
    · have h := h.1 q
      refine z_iload hE rfl rfl ?_
      refine z_istore hE rfl rfl rfl ?_
      have hb := h.1
      have h := h.2
      refine z_iinc hE rfl rfl rfl hb ?_
      refine z_goto hE rfl ?_
      exact h
    · have h := h.2 q
      refine z_aload hE rfl rfl rfl ?_
      refine z_getR hE (q := 97) rfl shk_76 rfl rfl rfl ?_
      refine z_iload hE rfl rfl ?_
      have hb := h.1
      have h := h.2
      refine z_iald hE rfl shk_97 hb ?_
      refine z_iload hE rfl rfl ?_
      refine z_icmp_gt hE rfl ⟨fun q => ?_, fun q => ?_⟩
      · have h := h.1 q
        refine z_iload hE rfl rfl ?_
        refine z_istore hE rfl rfl rfl ?_
        have hb := h.1
        have h := h.2
        refine z_iinc hE rfl rfl rfl hb ?_
        refine z_goto hE rfl ?_
        exact h
      · have h := h.2 q
        refine z_aload hE rfl rfl rfl ?_
        refine z_getR hE (q := 96) rfl shk_76 rfl rfl rfl ?_
        refine z_iload hE rfl rfl ?_
        have hb := h.1
        have h := h.2
        refine z_iald hE rfl shk_96 hb ?_
        refine z_goto hE rfl ?_
        refine z_istore hE rfl rfl rfl ?_
        have hb := h.1
        have h := h.2
        refine z_iinc hE rfl rfl rfl hb ?_
        refine z_goto hE rfl ?_
        exact h
/-! 168: ChildTrainsModel.isLate(I)Z -/
theorem mN_168 : mN 168 = 2 := by decide +kernel
theorem ee_168 {d : Nat} {Q : Ql} {a1 : Int} {M : Mm} (h : GoG false (EE d) cd_168 Q 0 [vR 76, vI a1] [] M) : EE (d + 1) 168 [vR 76, vI a1] M Q := by
  have e : cdTab 168 = cd_168 := rfl
  unfold EE; rw [mN_168, e]; exact ⟨Nat.le_of_ble_eq_true rfl, h⟩
theorem sg_168 {d : Nat} {P : Int → Mm → Prop} {a1 : Int} {M : Mm} (h : (((M 76 28) ≤ 0 → P 0 M) ∧ (0 < (M 76 28) → inI ((M 76 28) - 1) ∧ (0 ≤ ((M 76 28) - 1) ∧ ((M 76 28) - 1) < 80) ∧ (((M 97 ((M 76 28) - 1)) ≤ a1 → P 0 M) ∧ (a1 < (M 97 ((M 76 28) - 1)) → P 1 M))))) : EE (d + 1) 168 [vR 76, vI a1] M (rI P) := by
  have hE := EE_mono d
  refine ee_168 ?_
  refine z_aload hE rfl rfl rfl ?_
  refine z_getI hE (sl := 28) rfl shk_76 rfl rfl rfl ?_
  refine z_if_le hE rfl ⟨fun q => ?_, fun q => ?_⟩
  · have h := h.1 q
    refine z_iconst hE rfl ?_
    exact z_zret hE rfl rfl (Or.inl rfl) h
  · have h := h.2 q
    refine z_iload hE rfl rfl ?_
    refine z_aload hE rfl rfl rfl ?_
    refine z_getR hE (q := 97) rfl shk_76 rfl rfl rfl ?_
    refine z_aload hE rfl rfl rfl ?_
    refine z_getI hE (sl := 28) rfl shk_76 rfl rfl rfl ?_
    refine z_iconst hE rfl ?_
    have hb := h.1
    have h := h.2
    refine z_isub hE rfl hb ?_
    have hb := h.1
    have h := h.2
    refine z_iald hE rfl shk_97 hb ?_
    refine z_icmp_ge hE rfl ⟨fun q => ?_, fun q => ?_⟩
    · have h := h.1 q
      refine z_iconst hE rfl ?_
      exact z_zret hE rfl rfl (Or.inl rfl) h
    · have h := h.2 q
      refine z_iconst hE rfl ?_
      refine z_goto hE rfl ?_
      exact z_zret hE rfl rfl (Or.inr rfl) h
/-! 169: ChildTrainsModel.inside(II)I -/
def H_169_5 (d : Nat) (P : Int → Mm → Prop) (a1 : Int) (a2 : Int) (a3 : Int) (a4 : Int) (M : Mm) : Prop := GoG false (EE d) cd_169 (rI P) 5 [vR 76, vI a1, vI a2, vI a3, vI a4] [] M
theorem mN_169 : mN 169 = 5 := by decide +kernel
theorem ee_169 {d : Nat} {Q : Ql} {a1 : Int} {a2 : Int} {M : Mm} (h : GoG false (EE d) cd_169 Q 0 [vR 76, vI a1, vI a2, vU, vU] [] M) : EE (d + 1) 169 [vR 76, vI a1, vI a2] M Q := by
  have e : cdTab 169 = cd_169 := rfl
  unfold EE; rw [mN_169, e]; exact ⟨Nat.le_of_ble_eq_true rfl, h⟩
theorem sg_169 {d : Nat} {P : Int → Mm → Prop} {a1 : Int} {a2 : Int} {M : Mm} (h : H_169_5 d P a1 a2 0 0 M) : EE (d + 1) 169 [vR 76, vI a1, vI a2] M (rI P) := by
  have hE := EE_mono d
  refine ee_169 ?_
  refine z_iconst hE rfl ?_
  refine z_istore hE rfl rfl rfl ?_
  refine z_iconst hE rfl ?_
  refine z_istore hE rfl rfl rfl ?_
  exact h
theorem sg_169_5 {d : Nat} {P : Int → Mm → Prop} {a1 : Int} {a2 : Int} {a3 : Int} {a4 : Int} {M : Mm} (h : (((M 76 2) ≤ a4 → P a3 M) ∧ (a4 < (M 76 2) → EE d 167 [vR 76, vI a4, vI a2] M (rI fun r1 M1 => ((¬ r1 = a1 → inI (a3 + 0) ∧ inI (a4 + 1) ∧ H_169_5 d P a1 a2 (a3 + 0) (a4 + 1) M1) ∧ (r1 = a1 → inI (a3 + 1) ∧ inI (a4 + 1) ∧ H_169_5 d P a1 a2 (a3 + 1) (a4 + 1) M1)))))) : H_169_5 d P a1 a2 a3 a4 M := by
  have hE := EE_mono d
  unfold H_169_5
  refine z_iload hE rfl rfl ?_
  refine z_aload hE rfl rfl rfl ?_
  refine z_getI hE (sl := 2) rfl shk_76 rfl rfl rfl ?_
  refine z_icmp_ge hE rfl ⟨fun q => ?_, fun q => ?_⟩
  · have h := h.1 q
    refine z_iload hE rfl rfl ?_
    exact z_iret hE rfl rfl h
  · have h := h.2 q
    refine z_iload hE rfl rfl ?_
    refine z_aload hE rfl rfl rfl ?_
    refine z_iload hE rfl rfl ?_
    refine z_iload hE rfl rfl ?_
    refine z_callvI hE rfl rfl rfl rfl rfl (Nat.le_of_ble_eq_true rfl) (by decide) ⟨rfl, rfl⟩ (EE_mono d _ _ _ _ _ (rI_mono fun r1 M1 h => ?_) h)
    refine z_iload hE rfl rfl ?_
    refine z_icmp_ne hE rfl ⟨fun q => ?_, fun q => ?_⟩
    · have h := h.1 q
      refine z_iconst hE rfl ?_
      have hb := h.1
      have h := h.2
      refine z_iadd hE rfl hb ?_
      refine z_istore hE rfl rfl rfl ?_
      have hb := h.1
      have h := h.2
      refine z_iinc hE rfl rfl rfl hb ?_
      refine z_goto hE rfl ?_
      exact h
    · have h := h.2 q
      refine z_iconst hE rfl ?_
      refine z_goto hE rfl ?_
      have hb := h.1
      have h := h.2
      refine z_iadd hE rfl hb ?_
      refine z_istore hE rfl rfl rfl ?_
      have hb := h.1
      have h := h.2
      refine z_iinc hE rfl rfl rfl hb ?_
      refine z_goto hE rfl ?_
      exact h
/-! 170: ChildTrainsModel.tells(IIII)V -/
theorem mN_170 : mN 170 = 5 := by decide +kernel
theorem ee_170 {d : Nat} {Q : Ql} {a1 : Int} {a2 : Int} {a3 : Int} {a4 : Int} {M : Mm} (h : GoG false (EE d) cd_170 Q 0 [vR 76, vI a1, vI a2, vI a3, vI a4] [] M) : EE (d + 1) 170 [vR 76, vI a1, vI a2, vI a3, vI a4] M Q := by
  have e : cdTab 170 = cd_170 := rfl
  unfold EE; rw [mN_170, e]; exact ⟨Nat.le_of_ble_eq_true rfl, h⟩
theorem sg_170 {d : Nat} {P : Mm → Prop} {a1 : Int} {a2 : Int} {a3 : Int} {a4 : Int} {M : Mm} (h : (0 ≤ (M 76 28) ∧ (M 76 28) < 80) ∧ (0 ≤ (M 76 28) ∧ (M 76 28) < 80) ∧ (0 ≤ (M 76 28) ∧ (M 76 28) < 80) ∧ (0 ≤ (M 76 28) ∧ (M 76 28) < 80) ∧ inI ((M 76 28) + 1) ∧ P (mset (mset (mset (mset (mset M 95 (M 76 28) a1) 96 (M 76 28) a2) 97 (M 76 28) a3) 98 (M 76 28) a4) 76 28 ((M 76 28) + 1))) : EE (d + 1) 170 [vR 76, vI a1, vI a2, vI a3, vI a4] M (rV P) := by
  have hE := EE_mono d
  refine ee_170 ?_
  refine z_aload hE rfl rfl rfl ?_
  refine z_getR hE (q := 95) rfl shk_76 rfl rfl rfl ?_
  refine z_aload hE rfl rfl rfl ?_
  refine z_getI hE (sl := 28) rfl shk_76 rfl rfl rfl ?_
  refine z_iload hE rfl rfl ?_
  have hb := h.1
  have h := h.2
  refine z_iast hE rfl shk_95 hb ?_
  refine z_aload hE rfl rfl rfl ?_
  refine z_getR hE (q := 96) rfl shk_76 rfl rfl rfl ?_
  refine z_aload hE rfl rfl rfl ?_
  refine z_getI hE (sl := 28) rfl shk_76 rfl rfl rfl ?_
  refine z_iload hE rfl rfl ?_
  have hb := h.1
  have h := h.2
  refine z_iast hE rfl shk_96 hb ?_
  refine z_aload hE rfl rfl rfl ?_
  refine z_getR hE (q := 97) rfl shk_76 rfl rfl rfl ?_
  refine z_aload hE rfl rfl rfl ?_
  refine z_getI hE (sl := 28) rfl shk_76 rfl rfl rfl ?_
  refine z_iload hE rfl rfl ?_
  have hb := h.1
  have h := h.2
  refine z_iast hE rfl shk_97 hb ?_
  refine z_aload hE rfl rfl rfl ?_
  refine z_getR hE (q := 98) rfl shk_76 rfl rfl rfl ?_
  refine z_aload hE rfl rfl rfl ?_
  refine z_getI hE (sl := 28) rfl shk_76 rfl rfl rfl ?_
  refine z_iload hE rfl rfl ?_
  have hb := h.1
  have h := h.2
  refine z_iast hE rfl shk_98 hb ?_
  refine z_aload hE rfl rfl rfl ?_
  refine z_dup hE rfl rfl ?_
  refine z_getI hE (sl := 28) rfl shk_76 rfl rfl rfl ?_
  refine z_iconst hE rfl ?_
  have hb := h.1
  have h := h.2
  refine z_iadd hE rfl hb ?_
  refine z_putI hE (sl := 28) rfl shk_76 rfl rfl rfl ?_
  exact z_vret hE rfl h
/-! 171: ChildTrainsModel.sizeOf(I)I -/
def H_171_4 (d : Nat) (P : Int → Mm → Prop) (a1 : Int) (a2 : Int) (a3 : Int) (M : Mm) : Prop := GoG false (EE d) cd_171 (rI P) 4 [vR 76, vI a1, vI a2, vI a3] [] M
theorem mN_171 : mN 171 = 4 := by decide +kernel
theorem ee_171 {d : Nat} {Q : Ql} {a1 : Int} {M : Mm} (h : GoG false (EE d) cd_171 Q 0 [vR 76, vI a1, vU, vU] [] M) : EE (d + 1) 171 [vR 76, vI a1] M Q := by
  have e : cdTab 171 = cd_171 := rfl
  unfold EE; rw [mN_171, e]; exact ⟨Nat.le_of_ble_eq_true rfl, h⟩
theorem sg_171 {d : Nat} {P : Int → Mm → Prop} {a1 : Int} {M : Mm} (h : H_171_4 d P a1 0 0 M) : EE (d + 1) 171 [vR 76, vI a1] M (rI P) := by
  have hE := EE_mono d
  refine ee_171 ?_
  refine z_iconst hE rfl ?_
  refine z_istore hE rfl rfl rfl ?_
  refine z_iconst hE rfl ?_
  refine z_istore hE rfl rfl rfl ?_
  exact h
theorem sg_171_4 {d : Nat} {P : Int → Mm → Prop} {a1 : Int} {a2 : Int} {a3 : Int} {M : Mm} (h : (((M 76 2) ≤ a3 → P a2 M) ∧ (a3 < (M 76 2) → (0 ≤ a3 ∧ a3 < 48) ∧ inI (a2 + (zand (zshr a1 (M 80 a3)) 1)) ∧ inI (a3 + 1) ∧ H_171_4 d P a1 (a2 + (zand (zshr a1 (M 80 a3)) 1)) (a3 + 1) M))) : H_171_4 d P a1 a2 a3 M := by
  have hE := EE_mono d
  unfold H_171_4
  refine z_iload hE rfl rfl ?_
  refine z_aload hE rfl rfl rfl ?_
  refine z_getI hE (sl := 2) rfl shk_76 rfl rfl rfl ?_
  refine z_icmp_ge hE rfl ⟨fun q => ?_, fun q => ?_⟩
  · have h := h.1 q
    refine z_iload hE rfl rfl ?_
    exact z_iret hE rfl rfl h
  · have h := h.2 q
    refine z_iload hE rfl rfl ?_
    refine z_iload hE rfl rfl ?_
    refine z_aload hE rfl rfl rfl ?_
    refine z_getR hE (q := 80) rfl shk_76 rfl rfl rfl ?_
    refine z_iload hE rfl rfl ?_
    have hb := h.1
    have h := h.2
    refine z_iald hE rfl shk_80 hb ?_
    refine z_ishr hE rfl ?_
    refine z_iconst hE rfl ?_
    refine z_iand hE rfl ?_
    have hb := h.1
    have h := h.2
    refine z_iadd hE rfl hb ?_
    refine z_istore hE rfl rfl rfl ?_
    have hb := h.1
    have h := h.2
    refine z_iinc hE rfl rfl rfl hb ?_
    refine z_goto hE rfl ?_
    exact h
/-! 172: ChildTrainsModel.isFilled(I)Z -/
def H_172_4 (d : Nat) (P : Int → Mm → Prop) (a1 : Int) (a2 : Int) (a3 : Int) (M : Mm) : Prop := GoG false (EE d) cd_172 (rI P) 4 [vR 76, vI a1, vI a2, vI a3] [] M
theorem mN_172 : mN 172 = 4 := by decide +kernel
theorem ee_172 {d : Nat} {Q : Ql} {a1 : Int} {M : Mm} (h : GoG false (EE d) cd_172 Q 0 [vR 76, vI a1, vU, vU] [] M) : EE (d + 1) 172 [vR 76, vI a1] M Q := by
  have e : cdTab 172 = cd_172 := rfl
  unfold EE; rw [mN_172, e]; exact ⟨Nat.le_of_ble_eq_true rfl, h⟩
theorem sg_172 {d : Nat} {P : Int → Mm → Prop} {a1 : Int} {M : Mm} (h : H_172_4 d P a1 1 0 M) : EE (d + 1) 172 [vR 76, vI a1] M (rI P) := by
  have hE := EE_mono d
  refine ee_172 ?_
  refine z_iconst hE rfl ?_
  refine z_istore hE rfl rfl rfl ?_
  refine z_iconst hE rfl ?_
  refine z_istore hE rfl rfl rfl ?_
  exact h
theorem sg_172_4 {d : Nat} {P : Int → Mm → Prop} {a1 : Int} {a2 : Int} {a3 : Int} {M : Mm} (h : ((8 ≤ a3 → (a2 = 0 ∨ a2 = 1) ∧ P a2 M) ∧ (a3 < 8 → ((a2 = 0 → (a2 = 0 ∨ a2 = 1) ∧ P a2 M) ∧ (¬ a2 = 0 → (((zand (zshr a1 a3) 1) = 0 → inI (a3 + 1) ∧ H_172_4 d P a1 1 (a3 + 1) M) ∧ (¬ (zand (zshr a1 a3) 1) = 0 → EE d 171 [vR 76, vI (zshl 1 a3)] M (rI fun r1 M1 => ((r1 ≤ 0 → inI (a3 + 1) ∧ H_172_4 d P a1 0 (a3 + 1) M1) ∧ (0 < r1 → inI (a3 + 1) ∧ H_172_4 d P a1 1 (a3 + 1) M1)))))))))) : H_172_4 d P a1 a2 a3 M := by
  have hE := EE_mono d
  unfold H_172_4
  refine z_iload hE rfl rfl ?_
  refine z_iconst hE rfl ?_
  refine z_icmp_ge hE rfl ⟨fun q => ?_, fun q => ?_⟩
  · have h := h.1 q
    refine z_iload hE rfl rfl ?_
    have hb := h.1
    have h := h.2
    exact z_zret hE rfl rfl hb h
  · have h := h.2 q
    refine z_iload hE rfl rfl ?_
    refine z_if_eq hE rfl ⟨fun q => ?_, fun q => ?_⟩
    · have h := h.1 q
      refine z_iload hE rfl rfl ?_
      have hb := h.1
      have h := h.2
      exact z_zret hE rfl rfl hb h
    · have h := h.2 q
      refine z_iload hE rfl rfl ?_
      refine z_iload hE rfl rfl ?_
      refine z_ishr hE rfl ?_
      refine z_iconst hE rfl ?_
      refine z_iand hE rfl ?_
      refine z_if_eq hE rfl ⟨fun q => ?_, fun q => ?_⟩
      · have h := h.1 q
        refine z_iconst hE rfl ?_
        refine z_goto hE rfl ?_
        refine z_istore hE rfl rfl rfl ?_
        have hb := h.1
        have h := h.2
        refine z_iinc hE rfl rfl rfl hb ?_
        refine z_goto hE rfl ?_
        exact h
      · have h := h.2 q
        refine z_aload hE rfl rfl rfl ?_
        refine z_iconst hE rfl ?_
        refine z_iload hE rfl rfl ?_
        refine z_ishl hE rfl ?_
        refine z_callvI hE rfl rfl rfl rfl rfl (Nat.le_of_ble_eq_true rfl) (by decide) ⟨rfl, rfl⟩ (EE_mono d _ _ _ _ _ (rI_mono fun r1 M1 h => ?_) h)
        refine z_if_le hE rfl ⟨fun q => ?_, fun q => ?_⟩
        · have h := h.1 q
          refine z_iconst hE rfl ?_
          refine z_istore hE rfl rfl rfl ?_
          have hb := h.1
          have h := h.2
          refine z_iinc hE rfl rfl rfl hb ?_
          refine z_goto hE rfl ?_
          exact h
        · have h := h.2 q
          refine z_iconst hE rfl ?_
          refine z_goto hE rfl ?_
          refine z_istore hE rfl rfl rfl ?_
          have hb := h.1
          have h := h.2
          refine z_iinc hE rfl rfl rfl hb ?_
          refine z_goto hE rfl ?_
          exact h
/-! 174: java/lang/Integer.bitCount(I)I -/
theorem mN_174 : mN 174 = 1 := by decide +kernel
theorem ee_174 {d : Nat} {Q : Ql} {a0 : Int} {M : Mm} (h : GoG false (EE d) cd_174 Q 0 [vI a0] [] M) : EE (d + 1) 174 [vI a0] M Q := by
  have e : cdTab 174 = cd_174 := rfl
  unfold EE; rw [mN_174, e]; exact ⟨Nat.le_of_ble_eq_true rfl, h⟩
theorem sg_174 {d : Nat} {P : Int → Mm → Prop} {a0 : Int} {M : Mm} (h : inI (a0 - (zand (zushr a0 1) 1431655765)) ∧ inI ((zand (a0 - (zand (zushr a0 1) 1431655765)) 858993459) + (zand (zushr (a0 - (zand (zushr a0 1) 1431655765)) 2) 858993459)) ∧ inI (((zand (a0 - (zand (zushr a0 1) 1431655765)) 858993459) + (zand (zushr (a0 - (zand (zushr a0 1) 1431655765)) 2) 858993459)) + (zushr ((zand (a0 - (zand (zushr a0 1) 1431655765)) 858993459) + (zand (zushr (a0 - (zand (zushr a0 1) 1431655765)) 2) 858993459)) 4)) ∧ inI ((zand (((zand (a0 - (zand (zushr a0 1) 1431655765)) 858993459) + (zand (zushr (a0 - (zand (zushr a0 1) 1431655765)) 2) 858993459)) + (zushr ((zand (a0 - (zand (zushr a0 1) 1431655765)) 858993459) + (zand (zushr (a0 - (zand (zushr a0 1) 1431655765)) 2) 858993459)) 4)) 252645135) + (zushr (zand (((zand (a0 - (zand (zushr a0 1) 1431655765)) 858993459) + (zand (zushr (a0 - (zand (zushr a0 1) 1431655765)) 2) 858993459)) + (zushr ((zand (a0 - (zand (zushr a0 1) 1431655765)) 858993459) + (zand (zushr (a0 - (zand (zushr a0 1) 1431655765)) 2) 858993459)) 4)) 252645135) 8)) ∧ inI (((zand (((zand (a0 - (zand (zushr a0 1) 1431655765)) 858993459) + (zand (zushr (a0 - (zand (zushr a0 1) 1431655765)) 2) 858993459)) + (zushr ((zand (a0 - (zand (zushr a0 1) 1431655765)) 858993459) + (zand (zushr (a0 - (zand (zushr a0 1) 1431655765)) 2) 858993459)) 4)) 252645135) + (zushr (zand (((zand (a0 - (zand (zushr a0 1) 1431655765)) 858993459) + (zand (zushr (a0 - (zand (zushr a0 1) 1431655765)) 2) 858993459)) + (zushr ((zand (a0 - (zand (zushr a0 1) 1431655765)) 858993459) + (zand (zushr (a0 - (zand (zushr a0 1) 1431655765)) 2) 858993459)) 4)) 252645135) 8)) + (zushr ((zand (((zand (a0 - (zand (zushr a0 1) 1431655765)) 858993459) + (zand (zushr (a0 - (zand (zushr a0 1) 1431655765)) 2) 858993459)) + (zushr ((zand (a0 - (zand (zushr a0 1) 1431655765)) 858993459) + (zand (zushr (a0 - (zand (zushr a0 1) 1431655765)) 2) 858993459)) 4)) 252645135) + (zushr (zand (((zand (a0 - (zand (zushr a0 1) 1431655765)) 858993459) + (zand (zushr (a0 - (zand (zushr a0 1) 1431655765)) 2) 858993459)) + (zushr ((zand (a0 - (zand (zushr a0 1) 1431655765)) 858993459) + (zand (zushr (a0 - (zand (zushr a0 1) 1431655765)) 2) 858993459)) 4)) 252645135) 8)) 16)) ∧ P (zand (((zand (((zand (a0 - (zand (zushr a0 1) 1431655765)) 858993459) + (zand (zushr (a0 - (zand (zushr a0 1) 1431655765)) 2) 858993459)) + (zushr ((zand (a0 - (zand (zushr a0 1) 1431655765)) 858993459) + (zand (zushr (a0 - (zand (zushr a0 1) 1431655765)) 2) 858993459)) 4)) 252645135) + (zushr (zand (((zand (a0 - (zand (zushr a0 1) 1431655765)) 858993459) + (zand (zushr (a0 - (zand (zushr a0 1) 1431655765)) 2) 858993459)) + (zushr ((zand (a0 - (zand (zushr a0 1) 1431655765)) 858993459) + (zand (zushr (a0 - (zand (zushr a0 1) 1431655765)) 2) 858993459)) 4)) 252645135) 8)) + (zushr ((zand (((zand (a0 - (zand (zushr a0 1) 1431655765)) 858993459) + (zand (zushr (a0 - (zand (zushr a0 1) 1431655765)) 2) 858993459)) + (zushr ((zand (a0 - (zand (zushr a0 1) 1431655765)) 858993459) + (zand (zushr (a0 - (zand (zushr a0 1) 1431655765)) 2) 858993459)) 4)) 252645135) + (zushr (zand (((zand (a0 - (zand (zushr a0 1) 1431655765)) 858993459) + (zand (zushr (a0 - (zand (zushr a0 1) 1431655765)) 2) 858993459)) + (zushr ((zand (a0 - (zand (zushr a0 1) 1431655765)) 858993459) + (zand (zushr (a0 - (zand (zushr a0 1) 1431655765)) 2) 858993459)) 4)) 252645135) 8)) 16)) 63) M) : EE (d + 1) 174 [vI a0] M (rI P) := by
  have hE := EE_mono d
  refine ee_174 ?_
  refine z_iload hE rfl rfl ?_
  refine z_iload hE rfl rfl ?_
  refine z_iconst hE rfl ?_
  refine z_iushr hE rfl ?_
  refine z_iconst hE rfl ?_
  refine z_iand hE rfl ?_
  have hb := h.1
  have h := h.2
  refine z_isub hE rfl hb ?_
  refine z_istore hE rfl rfl rfl ?_
  refine z_iload hE rfl rfl ?_
  refine z_iconst hE rfl ?_
  refine z_iand hE rfl ?_
  refine z_iload hE rfl rfl ?_
  refine z_iconst hE rfl ?_
  refine z_iushr hE rfl ?_
  refine z_iconst hE rfl ?_
  refine z_iand hE rfl ?_
  have hb := h.1
  have h := h.2
  refine z_iadd hE rfl hb ?_
  refine z_istore hE rfl rfl rfl ?_
  refine z_iload hE rfl rfl ?_
  refine z_iload hE rfl rfl ?_
  refine z_iconst hE rfl ?_
  refine z_iushr hE rfl ?_
  have hb := h.1
  have h := h.2
  refine z_iadd hE rfl hb ?_
  refine z_iconst hE rfl ?_
  refine z_iand hE rfl ?_
  refine z_istore hE rfl rfl rfl ?_
  refine z_iload hE rfl rfl ?_
  refine z_iload hE rfl rfl ?_
  refine z_iconst hE rfl ?_
  refine z_iushr hE rfl ?_
  have hb := h.1
  have h := h.2
  refine z_iadd hE rfl hb ?_
  refine z_istore hE rfl rfl rfl ?_
  refine z_iload hE rfl rfl ?_
  refine z_iload hE rfl rfl ?_
  refine z_iconst hE rfl ?_
  refine z_iushr hE rfl ?_
  have hb := h.1
  have h := h.2
  refine z_iadd hE rfl hb ?_
  refine z_istore hE rfl rfl rfl ?_
  refine z_iload hE rfl rfl ?_
  refine z_iconst hE rfl ?_
  refine z_iand hE rfl ?_
  exact z_iret hE rfl rfl h
/-! 175: java/lang/Integer.numberOfTrailingZeros(I)I -/
def H_175_34 (d : Nat) (P : Int → Mm → Prop) (a0 : Int) (a1 : Int) (M : Mm) : Prop := GoG false (EE d) cd_175 (rI P) 34 [vI a0, vI a1] [] M
def H_175_49 (d : Nat) (P : Int → Mm → Prop) (a0 : Int) (a1 : Int) (M : Mm) : Prop := GoG false (EE d) cd_175 (rI P) 49 [vI a0, vI a1] [] M
def H_175_62 (d : Nat) (P : Int → Mm → Prop) (a0 : Int) (a1 : Int) (M : Mm) : Prop := GoG false (EE d) cd_175 (rI P) 62 [vI a0, vI a1] [] M
theorem mN_175 : mN 175 = 2 := by decide +kernel
theorem ee_175 {d : Nat} {Q : Ql} {a0 : Int} {M : Mm} (h : GoG false (EE d) cd_175 Q 0 [vI a0, vU] [] M) : EE (d + 1) 175 [vI a0] M Q := by
  have e : cdTab 175 = cd_175 := rfl
  unfold EE; rw [mN_175, e]; exact ⟨Nat.le_of_ble_eq_true rfl, h⟩
theorem sg_175 {d : Nat} {P : Int → Mm → Prop} {a0 : Int} {M : Mm} (h : inI (a0 - 1) ∧ ((0 < (zand (zxor a0 (-1)) (a0 - 1)) → (((zand (zxor a0 (-1)) (a0 - 1)) ≤ 65536 → H_175_34 d P (zand (zxor a0 (-1)) (a0 - 1)) 1 M) ∧ (65536 < (zand (zxor a0 (-1)) (a0 - 1)) → inI (1 + 16) ∧ H_175_34 d P (zushr (zand (zxor a0 (-1)) (a0 - 1)) 16) (1 + 16) M))) ∧ ((zand (zxor a0 (-1)) (a0 - 1)) ≤ 0 → P (zand (zand (zxor a0 (-1)) (a0 - 1)) 32) M))) : EE (d + 1) 175 [vI a0] M (rI P) := by
  have hE := EE_mono d
  refine ee_175 ?_
  refine z_iload hE rfl rfl ?_
  refine z_iconst hE rfl ?_
  refine z_ixor hE rfl ?_
  refine z_iload hE rfl rfl ?_
  refine z_iconst hE rfl ?_
  have hb := h.1
  have h := h.2
  refine z_isub hE rfl hb ?_
  refine z_iand hE rfl ?_
  refine z_istore hE rfl rfl rfl ?_
  refine z_iload hE rfl rfl ?_
  refine z_if_gt hE rfl ⟨fun q => ?_, fun q => ?_⟩
  · have h := h.1 q
    refine z_iconst hE rfl ?_
    refine z_istore hE rfl rfl rfl ?_
    refine z_iload hE rfl rfl ?_
    refine z_iconst hE rfl ?_
    refine z_icmp_le hE rfl ⟨fun q => ?_, fun q => ?_⟩
    · have h := h.1 q
      exact h
    · have h := h.2 q
      have hb := h.1
      have h := h.2
      refine z_iinc hE rfl rfl rfl hb ?_
      refine z_iload hE rfl rfl ?_
      refine z_iconst hE rfl ?_
      refine z_iushr hE rfl ?_
      refine z_istore hE rfl rfl rfl ?_
      exact h
  · have h := h.2 q
    refine z_iload hE rfl rfl ?_
    refine z_iconst hE rfl ?_
    refine z_iand hE rfl ?_
    exact z_iret hE rfl rfl h
theorem sg_175_34 {d : Nat} {P : Int → Mm → Prop} {a0 : Int} {a1 : Int} {M : Mm} (h : ((a0 ≤ 256 → H_175_49 d P a0 a1 M) ∧ (256 < a0 → inI (a1 + 8) ∧ H_175_49 d P (zushr a0 8) (a1 + 8) M))) : H_175_34 d P a0 a1 M := by
  have hE := EE_mono d
  unfold H_175_34
  refine z_iload hE rfl rfl ?_
  refine z_iconst hE rfl ?_
  refine z_icmp_le hE rfl ⟨fun q => ?_, fun q => ?_⟩
  · have h := h.1 q
    exact h
  · have h := h.2 q
    have hb := h.1
    have h := h.2
    refine z_iinc hE rfl rfl rfl hb ?_
    refine z_iload hE rfl rfl ?_
    refine z_iconst hE rfl ?_
    refine z_iushr hE rfl ?_
    refine z_istore hE rfl rfl rfl ?_
    exact h
theorem sg_175_49 {d : Nat} {P : Int → Mm → Prop} {a0 : Int} {a1 : Int} {M : Mm} (h : ((a0 ≤ 16 → H_175_62 d P a0 a1 M) ∧ (16 < a0 → inI (a1 + 4) ∧ H_175_62 d P (zushr a0 4) (a1 + 4) M))) : H_175_49 d P a0 a1 M := by
  have hE := EE_mono d
  unfold H_175_49
  refine z_iload hE rfl rfl ?_
  refine z_iconst hE rfl ?_
  refine z_icmp_le hE rfl ⟨fun q => ?_, fun q => ?_⟩
  · have h := h.1 q
    exact h
  · have h := h.2 q
    have hb := h.1
    have h := h.2
    refine z_iinc hE rfl rfl rfl hb ?_
    refine z_iload hE rfl rfl ?_
    refine z_iconst hE rfl ?_
    refine z_iushr hE rfl ?_
    refine z_istore hE rfl rfl rfl ?_
    exact h
theorem sg_175_62 {d : Nat} {P : Int → Mm → Prop} {a0 : Int} {a1 : Int} {M : Mm} (h : ((a0 ≤ 4 → inI (a1 + (zushr a0 1)) ∧ P (a1 + (zushr a0 1)) M) ∧ (4 < a0 → inI (a1 + 2) ∧ inI ((a1 + 2) + (zushr (zushr a0 2) 1)) ∧ P ((a1 + 2) + (zushr (zushr a0 2) 1)) M))) : H_175_62 d P a0 a1 M := by
  have hE := EE_mono d
  unfold H_175_62
  refine z_iload hE rfl rfl ?_
  refine z_iconst hE rfl ?_
  refine z_icmp_le hE rfl ⟨fun q => ?_, fun q => ?_⟩
  · have h := h.1 q
    refine z_iload hE rfl rfl ?_
    refine z_iload hE rfl rfl ?_
    refine z_iconst hE rfl ?_
    refine z_iushr hE rfl ?_
    have hb := h.1
    have h := h.2
    refine z_iadd hE rfl hb ?_
    exact z_iret hE rfl rfl h
  · have h := h.2 q
    have hb := h.1
    have h := h.2
    refine z_iinc hE rfl rfl rfl hb ?_
    refine z_iload hE rfl rfl ?_
    refine z_iconst hE rfl ?_
    refine z_iushr hE rfl ?_
    refine z_istore hE rfl rfl rfl ?_
    refine z_iload hE rfl rfl ?_
    refine z_iload hE rfl rfl ?_
    refine z_iconst hE rfl ?_
    refine z_iushr hE rfl ?_
    have hb := h.1
    have h := h.2
    refine z_iadd hE rfl hb ?_
    exact z_iret hE rfl rfl h
