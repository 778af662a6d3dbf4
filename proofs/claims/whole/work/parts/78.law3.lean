/-! THE LAW'S CASES, printed by genlaw.py -/
theorem lw_0 {g : Gx} {d : Nat} {Q : Ql} {M : Mm} {i k : Int} {F : Int → Int} {n : Int} (hF : M 200 = F ∧ M 201 0 = n) (hg : ∀ M1 : Mm, okM g M1 → M1 200 = F ∧ M1 201 0 = n) (hi : 0 ≤ i ∧ i + 6 < n ∧ n ≤ 100000) (ho : opI k d 0 108 [vI (F (i + 1)), vI (F (i + 2)), vI (F (i + 3)), vI (F (i + 4))] M) (hK : ∀ M2 : Mm, okM g M2 → Inv (k + 1) M2 → GoG true (gE g d) cd_L Q 1325 [vT 100, vR 0, vR 76, vI i] [] M2) : GoG true (gE g d) cd_L Q 176 [vT 100, vR 0, vR 76, vI i] [] M := by
  have hE := gE_mono g d
  refine z_aload hE rfl rfl rfl ?_
  refine z_aload hE rfl rfl rfl ?_
  refine z_iload hE rfl rfl ?_
  refine z_iconst hE rfl ?_
  refine z_iadd hE rfl (by unfold inI; omega) ?_
  refine z_ialdS hE rfl (by rw [hF.2]; omega) ?_
  rw [hF.1]
  refine z_aload hE rfl rfl rfl ?_
  refine z_iload hE rfl rfl ?_
  refine z_iconst hE rfl ?_
  refine z_iadd hE rfl (by unfold inI; omega) ?_
  refine z_ialdS hE rfl (by rw [hF.2]; omega) ?_
  rw [hF.1]
  refine z_aload hE rfl rfl rfl ?_
  refine z_iload hE rfl rfl ?_
  refine z_iconst hE rfl ?_
  refine z_iadd hE rfl (by unfold inI; omega) ?_
  refine z_ialdS hE rfl (by rw [hF.2]; omega) ?_
  rw [hF.1]
  refine z_aload hE rfl rfl rfl ?_
  refine z_iload hE rfl rfl ?_
  refine z_iconst hE rfl ?_
  refine z_iadd hE rfl (by unfold inI; omega) ?_
  refine z_ialdS hE rfl (by rw [hF.2]; omega) ?_
  rw [hF.1]
  refine z_callvI hE rfl rfl rfl rfl rfl (Nat.le_of_ble_eq_true rfl) (by decide) ⟨rfl, rfl⟩ ?_
  refine EE_mono d _ _ _ _ _ (fun v M1 ho hok => ?_) ho
  obtain ⟨r, rfl, ho⟩ := ho
  have hG := hg M1 hok
  refine ⟨r, rfl, ?_⟩
  refine z_aload hE rfl rfl rfl ?_
  refine z_aload hE rfl rfl rfl ?_
  refine z_iload hE rfl rfl ?_
  refine z_iconst hE rfl ?_
  refine z_iadd hE rfl (by unfold inI; omega) ?_
  refine z_ialdS hE rfl (by rw [hG.2]; omega) ?_
  rw [hG.1]
  refine z_aload hE rfl rfl rfl ?_
  refine z_iload hE rfl rfl ?_
  refine z_iconst hE rfl ?_
  refine z_iadd hE rfl (by unfold inI; omega) ?_
  refine z_ialdS hE rfl (by rw [hG.2]; omega) ?_
  rw [hG.1]
  refine z_aload hE rfl rfl rfl ?_
  refine z_iload hE rfl rfl ?_
  refine z_iconst hE rfl ?_
  refine z_iadd hE rfl (by unfold inI; omega) ?_
  refine z_ialdS hE rfl (by rw [hG.2]; omega) ?_
  rw [hG.1]
  refine z_aload hE rfl rfl rfl ?_
  refine z_iload hE rfl rfl ?_
  refine z_iconst hE rfl ?_
  refine z_iadd hE rfl (by unfold inI; omega) ?_
  refine z_ialdS hE rfl (by rw [hG.2]; omega) ?_
  rw [hG.1]
  refine z_callvI hE rfl rfl rfl rfl rfl (Nat.le_of_ble_eq_true rfl) (by decide) ⟨rfl, rfl⟩ ?_
  refine EE_mono d _ _ _ _ _ (fun v M2 ho hok2 => ?_) ho
  obtain ⟨r2, rfl, rfl, hI⟩ := ho
  refine ⟨r2, rfl, ?_⟩
  exact z_icmp_eq hE rfl ⟨fun _ => hK M2 hok2 hI, fun q => absurd rfl q⟩
theorem lw_1 {g : Gx} {d : Nat} {Q : Ql} {M : Mm} {i k : Int} {F : Int → Int} {n : Int} (hF : M 200 = F ∧ M 201 0 = n) (hg : ∀ M1 : Mm, okM g M1 → M1 200 = F ∧ M1 201 0 = n) (hi : 0 ≤ i ∧ i + 6 < n ∧ n ≤ 100000) (ho : opI k d 1 109 [vL (jor (jshl (F (i + 1)) 32) (jand (F (i + 2)) 4294967295)), vI (F (i + 3))] M) (hK : ∀ M2 : Mm, okM g M2 → Inv (k + 1) M2 → GoG true (gE g d) cd_L Q 1325 [vT 100, vR 0, vR 76, vI i] [] M2) : GoG true (gE g d) cd_L Q 229 [vT 100, vR 0, vR 76, vI i] [] M := by
  have hE := gE_mono g d
  refine z_aload hE rfl rfl rfl ?_
  refine z_aload hE rfl rfl rfl ?_
  refine z_iload hE rfl rfl ?_
  refine z_iconst hE rfl ?_
  refine z_iadd hE rfl (by unfold inI; omega) ?_
  refine z_ialdS hE rfl (by rw [hF.2]; omega) ?_
  rw [hF.1]
  refine z_i2l hE rfl ?_
  refine z_iconst hE rfl ?_
  refine z_lshl hE rfl ?_
  refine z_aload hE rfl rfl rfl ?_
  refine z_iload hE rfl rfl ?_
  refine z_iconst hE rfl ?_
  refine z_iadd hE rfl (by unfold inI; omega) ?_
  refine z_ialdS hE rfl (by rw [hF.2]; omega) ?_
  rw [hF.1]
  refine z_i2l hE rfl ?_
  refine z_lconst hE rfl ?_
  refine z_land hE rfl ?_
  refine z_lor hE rfl ?_
  refine z_aload hE rfl rfl rfl ?_
  refine z_iload hE rfl rfl ?_
  refine z_iconst hE rfl ?_
  refine z_iadd hE rfl (by unfold inI; omega) ?_
  refine z_ialdS hE rfl (by rw [hF.2]; omega) ?_
  rw [hF.1]
  refine z_callvI hE rfl rfl rfl rfl rfl (Nat.le_of_ble_eq_true rfl) (by decide) ⟨rfl, rfl⟩ ?_
  refine EE_mono d _ _ _ _ _ (fun v M1 ho hok => ?_) ho
  obtain ⟨r, rfl, ho⟩ := ho
  have hG := hg M1 hok
  refine ⟨r, rfl, ?_⟩
  refine z_aload hE rfl rfl rfl ?_
  refine z_aload hE rfl rfl rfl ?_
  refine z_iload hE rfl rfl ?_
  refine z_iconst hE rfl ?_
  refine z_iadd hE rfl (by unfold inI; omega) ?_
  refine z_ialdS hE rfl (by rw [hG.2]; omega) ?_
  rw [hG.1]
  refine z_i2l hE rfl ?_
  refine z_iconst hE rfl ?_
  refine z_lshl hE rfl ?_
  refine z_aload hE rfl rfl rfl ?_
  refine z_iload hE rfl rfl ?_
  refine z_iconst hE rfl ?_
  refine z_iadd hE rfl (by unfold inI; omega) ?_
  refine z_ialdS hE rfl (by rw [hG.2]; omega) ?_
  rw [hG.1]
  refine z_i2l hE rfl ?_
  refine z_lconst hE rfl ?_
  refine z_land hE rfl ?_
  refine z_lor hE rfl ?_
  refine z_aload hE rfl rfl rfl ?_
  refine z_iload hE rfl rfl ?_
  refine z_iconst hE rfl ?_
  refine z_iadd hE rfl (by unfold inI; omega) ?_
  refine z_ialdS hE rfl (by rw [hG.2]; omega) ?_
  rw [hG.1]
  refine z_callvI hE rfl rfl rfl rfl rfl (Nat.le_of_ble_eq_true rfl) (by decide) ⟨rfl, rfl⟩ ?_
  refine EE_mono d _ _ _ _ _ (fun v M2 ho hok2 => ?_) ho
  obtain ⟨r2, rfl, rfl, hI⟩ := ho
  refine ⟨r2, rfl, ?_⟩
  exact z_icmp_eq hE rfl ⟨fun _ => hK M2 hok2 hI, fun q => absurd rfl q⟩
theorem lw_2 {g : Gx} {d : Nat} {Q : Ql} {M : Mm} {i k : Int} {F : Int → Int} {n : Int} (hF : M 200 = F ∧ M 201 0 = n) (hg : ∀ M1 : Mm, okM g M1 → M1 200 = F ∧ M1 201 0 = n) (hi : 0 ≤ i ∧ i + 6 < n ∧ n ≤ 100000) (ho : opI k d 2 110 [] M) (hK : ∀ M2 : Mm, okM g M2 → Inv (k + 1) M2 → GoG true (gE g d) cd_L Q 1325 [vT 100, vR 0, vR 76, vI i] [] M2) : GoG true (gE g d) cd_L Q 292 [vT 100, vR 0, vR 76, vI i] [] M := by
  have hE := gE_mono g d
  refine z_aload hE rfl rfl rfl ?_
  refine z_callvI hE rfl rfl rfl rfl rfl (Nat.le_of_ble_eq_true rfl) (by decide) ⟨rfl, rfl⟩ ?_
  refine EE_mono d _ _ _ _ _ (fun v M1 ho hok => ?_) ho
  obtain ⟨r, rfl, ho⟩ := ho
  have hG := hg M1 hok
  refine ⟨r, rfl, ?_⟩
  refine z_aload hE rfl rfl rfl ?_
  refine z_callvI hE rfl rfl rfl rfl rfl (Nat.le_of_ble_eq_true rfl) (by decide) ⟨rfl, rfl⟩ ?_
  refine EE_mono d _ _ _ _ _ (fun v M2 ho hok2 => ?_) ho
  obtain ⟨r2, rfl, rfl, hI⟩ := ho
  refine ⟨r2, rfl, ?_⟩
  exact z_icmp_eq hE rfl ⟨fun _ => hK M2 hok2 hI, fun q => absurd rfl q⟩
theorem lw_3 {g : Gx} {d : Nat} {Q : Ql} {M : Mm} {i k : Int} {F : Int → Int} {n : Int} (hF : M 200 = F ∧ M 201 0 = n) (hg : ∀ M1 : Mm, okM g M1 → M1 200 = F ∧ M1 201 0 = n) (hi : 0 ≤ i ∧ i + 6 < n ∧ n ≤ 100000) (ho : opI k d 3 111 [vI (F (i + 1))] M) (hK : ∀ M2 : Mm, okM g M2 → Inv (k + 1) M2 → GoG true (gE g d) cd_L Q 1325 [vT 100, vR 0, vR 76, vI i] [] M2) : GoG true (gE g d) cd_L Q 305 [vT 100, vR 0, vR 76, vI i] [] M := by
  have hE := gE_mono g d
  refine z_aload hE rfl rfl rfl ?_
  refine z_aload hE rfl rfl rfl ?_
  refine z_iload hE rfl rfl ?_
  refine z_iconst hE rfl ?_
  refine z_iadd hE rfl (by unfold inI; omega) ?_
  refine z_ialdS hE rfl (by rw [hF.2]; omega) ?_
  rw [hF.1]
  refine z_callvI hE rfl rfl rfl rfl rfl (Nat.le_of_ble_eq_true rfl) (by decide) ⟨rfl, rfl⟩ ?_
  refine EE_mono d _ _ _ _ _ (fun v M1 ho hok => ?_) ho
  obtain ⟨r, rfl, ho⟩ := ho
  have hG := hg M1 hok
  refine ⟨r, rfl, ?_⟩
  refine z_aload hE rfl rfl rfl ?_
  refine z_aload hE rfl rfl rfl ?_
  refine z_iload hE rfl rfl ?_
  refine z_iconst hE rfl ?_
  refine z_iadd hE rfl (by unfold inI; omega) ?_
  refine z_ialdS hE rfl (by rw [hG.2]; omega) ?_
  rw [hG.1]
  refine z_callvI hE rfl rfl rfl rfl rfl (Nat.le_of_ble_eq_true rfl) (by decide) ⟨rfl, rfl⟩ ?_
  refine EE_mono d _ _ _ _ _ (fun v M2 ho hok2 => ?_) ho
  obtain ⟨r2, rfl, rfl, hI⟩ := ho
  refine ⟨r2, rfl, ?_⟩
  exact z_icmp_eq hE rfl ⟨fun _ => hK M2 hok2 hI, fun q => absurd rfl q⟩
theorem lw_4 {g : Gx} {d : Nat} {Q : Ql} {M : Mm} {i k : Int} {F : Int → Int} {n : Int} (hF : M 200 = F ∧ M 201 0 = n) (hg : ∀ M1 : Mm, okM g M1 → M1 200 = F ∧ M1 201 0 = n) (hi : 0 ≤ i ∧ i + 6 < n ∧ n ≤ 100000) (ho : opI k d 4 112 [vI (F (i + 1)), vI (F (i + 2)), vI (F (i + 3))] M) (hK : ∀ M2 : Mm, okM g M2 → Inv (k + 1) M2 → GoG true (gE g d) cd_L Q 1325 [vT 100, vR 0, vR 76, vI i] [] M2) : GoG true (gE g d) cd_L Q 328 [vT 100, vR 0, vR 76, vI i] [] M := by
  have hE := gE_mono g d
  refine z_aload hE rfl rfl rfl ?_
  refine z_aload hE rfl rfl rfl ?_
  refine z_iload hE rfl rfl ?_
  refine z_iconst hE rfl ?_
  refine z_iadd hE rfl (by unfold inI; omega) ?_
  refine z_ialdS hE rfl (by rw [hF.2]; omega) ?_
  rw [hF.1]
  refine z_aload hE rfl rfl rfl ?_
  refine z_iload hE rfl rfl ?_
  refine z_iconst hE rfl ?_
  refine z_iadd hE rfl (by unfold inI; omega) ?_
  refine z_ialdS hE rfl (by rw [hF.2]; omega) ?_
  rw [hF.1]
  refine z_aload hE rfl rfl rfl ?_
  refine z_iload hE rfl rfl ?_
  refine z_iconst hE rfl ?_
  refine z_iadd hE rfl (by unfold inI; omega) ?_
  refine z_ialdS hE rfl (by rw [hF.2]; omega) ?_
  rw [hF.1]
  refine z_callvI hE rfl rfl rfl rfl rfl (Nat.le_of_ble_eq_true rfl) (by decide) ⟨rfl, rfl⟩ ?_
  refine EE_mono d _ _ _ _ _ (fun v M1 ho hok => ?_) ho
  obtain ⟨r, rfl, ho⟩ := ho
  have hG := hg M1 hok
  refine ⟨r, rfl, ?_⟩
  refine z_aload hE rfl rfl rfl ?_
  refine z_aload hE rfl rfl rfl ?_
  refine z_iload hE rfl rfl ?_
  refine z_iconst hE rfl ?_
  refine z_iadd hE rfl (by unfold inI; omega) ?_
  refine z_ialdS hE rfl (by rw [hG.2]; omega) ?_
  rw [hG.1]
  refine z_aload hE rfl rfl rfl ?_
  refine z_iload hE rfl rfl ?_
  refine z_iconst hE rfl ?_
  refine z_iadd hE rfl (by unfold inI; omega) ?_
  refine z_ialdS hE rfl (by rw [hG.2]; omega) ?_
  rw [hG.1]
  refine z_aload hE rfl rfl rfl ?_
  refine z_iload hE rfl rfl ?_
  refine z_iconst hE rfl ?_
  refine z_iadd hE rfl (by unfold inI; omega) ?_
  refine z_ialdS hE rfl (by rw [hG.2]; omega) ?_
  rw [hG.1]
  refine z_callvI hE rfl rfl rfl rfl rfl (Nat.le_of_ble_eq_true rfl) (by decide) ⟨rfl, rfl⟩ ?_
  refine EE_mono d _ _ _ _ _ (fun v M2 ho hok2 => ?_) ho
  obtain ⟨r2, rfl, rfl, hI⟩ := ho
  refine ⟨r2, rfl, ?_⟩
  exact z_icmp_eq hE rfl ⟨fun _ => hK M2 hok2 hI, fun q => absurd rfl q⟩
theorem lw_5 {g : Gx} {d : Nat} {Q : Ql} {M : Mm} {i k : Int} {F : Int → Int} {n : Int} (hF : M 200 = F ∧ M 201 0 = n) (hg : ∀ M1 : Mm, okM g M1 → M1 200 = F ∧ M1 201 0 = n) (hi : 0 ≤ i ∧ i + 6 < n ∧ n ≤ 100000) (ho : opI k d 5 113 [vI (F (i + 1)), vI (F (i + 2)), vI (F (i + 3))] M) (hK : ∀ M2 : Mm, okM g M2 → Inv (k + 1) M2 → GoG true (gE g d) cd_L Q 1325 [vT 100, vR 0, vR 76, vI i] [] M2) : GoG true (gE g d) cd_L Q 371 [vT 100, vR 0, vR 76, vI i] [] M := by
  have hE := gE_mono g d
  refine z_aload hE rfl rfl rfl ?_
  refine z_aload hE rfl rfl rfl ?_
  refine z_iload hE rfl rfl ?_
  refine z_iconst hE rfl ?_
  refine z_iadd hE rfl (by unfold inI; omega) ?_
  refine z_ialdS hE rfl (by rw [hF.2]; omega) ?_
  rw [hF.1]
  refine z_aload hE rfl rfl rfl ?_
  refine z_iload hE rfl rfl ?_
  refine z_iconst hE rfl ?_
  refine z_iadd hE rfl (by unfold inI; omega) ?_
  refine z_ialdS hE rfl (by rw [hF.2]; omega) ?_
  rw [hF.1]
  refine z_aload hE rfl rfl rfl ?_
  refine z_iload hE rfl rfl ?_
  refine z_iconst hE rfl ?_
  refine z_iadd hE rfl (by unfold inI; omega) ?_
  refine z_ialdS hE rfl (by rw [hF.2]; omega) ?_
  rw [hF.1]
  refine z_callvI hE rfl rfl rfl rfl rfl (Nat.le_of_ble_eq_true rfl) (by decide) ⟨rfl, rfl⟩ ?_
  refine EE_mono d _ _ _ _ _ (fun v M1 ho hok => ?_) ho
  obtain ⟨r, rfl, ho⟩ := ho
  have hG := hg M1 hok
  refine ⟨r, rfl, ?_⟩
  refine z_aload hE rfl rfl rfl ?_
  refine z_aload hE rfl rfl rfl ?_
  refine z_iload hE rfl rfl ?_
  refine z_iconst hE rfl ?_
  refine z_iadd hE rfl (by unfold inI; omega) ?_
  refine z_ialdS hE rfl (by rw [hG.2]; omega) ?_
  rw [hG.1]
  refine z_aload hE rfl rfl rfl ?_
  refine z_iload hE rfl rfl ?_
  refine z_iconst hE rfl ?_
  refine z_iadd hE rfl (by unfold inI; omega) ?_
  refine z_ialdS hE rfl (by rw [hG.2]; omega) ?_
  rw [hG.1]
  refine z_aload hE rfl rfl rfl ?_
  refine z_iload hE rfl rfl ?_
  refine z_iconst hE rfl ?_
  refine z_iadd hE rfl (by unfold inI; omega) ?_
  refine z_ialdS hE rfl (by rw [hG.2]; omega) ?_
  rw [hG.1]
  refine z_callvI hE rfl rfl rfl rfl rfl (Nat.le_of_ble_eq_true rfl) (by decide) ⟨rfl, rfl⟩ ?_
  refine EE_mono d _ _ _ _ _ (fun v M2 ho hok2 => ?_) ho
  obtain ⟨r2, rfl, rfl, hI⟩ := ho
  refine ⟨r2, rfl, ?_⟩
  exact z_icmp_eq hE rfl ⟨fun _ => hK M2 hok2 hI, fun q => absurd rfl q⟩
theorem lw_6 {g : Gx} {d : Nat} {Q : Ql} {M : Mm} {i k : Int} {F : Int → Int} {n : Int} (hF : M 200 = F ∧ M 201 0 = n) (hg : ∀ M1 : Mm, okM g M1 → M1 200 = F ∧ M1 201 0 = n) (hi : 0 ≤ i ∧ i + 6 < n ∧ n ≤ 100000) (ho : opI k d 6 114 [vI (F (i + 1))] M) (hK : ∀ M2 : Mm, okM g M2 → Inv (k + 1) M2 → GoG true (gE g d) cd_L Q 1325 [vT 100, vR 0, vR 76, vI i] [] M2) : GoG true (gE g d) cd_L Q 414 [vT 100, vR 0, vR 76, vI i] [] M := by
  have hE := gE_mono g d
  refine z_aload hE rfl rfl rfl ?_
  refine z_aload hE rfl rfl rfl ?_
  refine z_iload hE rfl rfl ?_
  refine z_iconst hE rfl ?_
  refine z_iadd hE rfl (by unfold inI; omega) ?_
  refine z_ialdS hE rfl (by rw [hF.2]; omega) ?_
  rw [hF.1]
  refine z_callvI hE rfl rfl rfl rfl rfl (Nat.le_of_ble_eq_true rfl) (by decide) ⟨rfl, rfl⟩ ?_
  refine EE_mono d _ _ _ _ _ (fun v M1 ho hok => ?_) ho
  obtain ⟨r, rfl, ho⟩ := ho
  have hG := hg M1 hok
  refine ⟨r, rfl, ?_⟩
  refine z_aload hE rfl rfl rfl ?_
  refine z_aload hE rfl rfl rfl ?_
  refine z_iload hE rfl rfl ?_
  refine z_iconst hE rfl ?_
  refine z_iadd hE rfl (by unfold inI; omega) ?_
  refine z_ialdS hE rfl (by rw [hG.2]; omega) ?_
  rw [hG.1]
  refine z_callvI hE rfl rfl rfl rfl rfl (Nat.le_of_ble_eq_true rfl) (by decide) ⟨rfl, rfl⟩ ?_
  refine EE_mono d _ _ _ _ _ (fun v M2 ho hok2 => ?_) ho
  obtain ⟨r2, rfl, rfl, hI⟩ := ho
  refine ⟨r2, rfl, ?_⟩
  exact z_icmp_eq hE rfl ⟨fun _ => hK M2 hok2 hI, fun q => absurd rfl q⟩
theorem lw_7 {g : Gx} {d : Nat} {Q : Ql} {M : Mm} {i k : Int} {F : Int → Int} {n : Int} (hF : M 200 = F ∧ M 201 0 = n) (hg : ∀ M1 : Mm, okM g M1 → M1 200 = F ∧ M1 201 0 = n) (hi : 0 ≤ i ∧ i + 6 < n ∧ n ≤ 100000) (ho : opI k d 7 115 [vI (F (i + 1)), vI (F (i + 2))] M) (hK : ∀ M2 : Mm, okM g M2 → Inv (k + 1) M2 → GoG true (gE g d) cd_L Q 1325 [vT 100, vR 0, vR 76, vI i] [] M2) : GoG true (gE g d) cd_L Q 437 [vT 100, vR 0, vR 76, vI i] [] M := by
  have hE := gE_mono g d
  refine z_aload hE rfl rfl rfl ?_
  refine z_aload hE rfl rfl rfl ?_
  refine z_iload hE rfl rfl ?_
  refine z_iconst hE rfl ?_
  refine z_iadd hE rfl (by unfold inI; omega) ?_
  refine z_ialdS hE rfl (by rw [hF.2]; omega) ?_
  rw [hF.1]
  refine z_aload hE rfl rfl rfl ?_
  refine z_iload hE rfl rfl ?_
  refine z_iconst hE rfl ?_
  refine z_iadd hE rfl (by unfold inI; omega) ?_
  refine z_ialdS hE rfl (by rw [hF.2]; omega) ?_
  rw [hF.1]
  refine z_callvI hE rfl rfl rfl rfl rfl (Nat.le_of_ble_eq_true rfl) (by decide) ⟨rfl, rfl⟩ ?_
  refine EE_mono d _ _ _ _ _ (fun v M1 ho hok => ?_) ho
  obtain ⟨r, rfl, ho⟩ := ho
  have hG := hg M1 hok
  refine ⟨r, rfl, ?_⟩
  refine z_aload hE rfl rfl rfl ?_
  refine z_aload hE rfl rfl rfl ?_
  refine z_iload hE rfl rfl ?_
  refine z_iconst hE rfl ?_
  refine z_iadd hE rfl (by unfold inI; omega) ?_
  refine z_ialdS hE rfl (by rw [hG.2]; omega) ?_
  rw [hG.1]
  refine z_aload hE rfl rfl rfl ?_
  refine z_iload hE rfl rfl ?_
  refine z_iconst hE rfl ?_
  refine z_iadd hE rfl (by unfold inI; omega) ?_
  refine z_ialdS hE rfl (by rw [hG.2]; omega) ?_
  rw [hG.1]
  refine z_callvI hE rfl rfl rfl rfl rfl (Nat.le_of_ble_eq_true rfl) (by decide) ⟨rfl, rfl⟩ ?_
  refine EE_mono d _ _ _ _ _ (fun v M2 ho hok2 => ?_) ho
  obtain ⟨r2, rfl, rfl, hI⟩ := ho
  refine ⟨r2, rfl, ?_⟩
  exact z_icmp_eq hE rfl ⟨fun _ => hK M2 hok2 hI, fun q => absurd rfl q⟩
theorem lw_8 {g : Gx} {d : Nat} {Q : Ql} {M : Mm} {i k : Int} {F : Int → Int} {n : Int} (hF : M 200 = F ∧ M 201 0 = n) (hg : ∀ M1 : Mm, okM g M1 → M1 200 = F ∧ M1 201 0 = n) (hi : 0 ≤ i ∧ i + 6 < n ∧ n ≤ 100000) (ho : opI k d 8 116 [vI (F (i + 1))] M) (hK : ∀ M2 : Mm, okM g M2 → Inv (k + 1) M2 → GoG true (gE g d) cd_L Q 1325 [vT 100, vR 0, vR 76, vI i] [] M2) : GoG true (gE g d) cd_L Q 470 [vT 100, vR 0, vR 76, vI i] [] M := by
  have hE := gE_mono g d
  refine z_aload hE rfl rfl rfl ?_
  refine z_aload hE rfl rfl rfl ?_
  refine z_iload hE rfl rfl ?_
  refine z_iconst hE rfl ?_
  refine z_iadd hE rfl (by unfold inI; omega) ?_
  refine z_ialdS hE rfl (by rw [hF.2]; omega) ?_
  rw [hF.1]
  refine z_callvI hE rfl rfl rfl rfl rfl (Nat.le_of_ble_eq_true rfl) (by decide) ⟨rfl, rfl⟩ ?_
  refine EE_mono d _ _ _ _ _ (fun v M1 ho hok => ?_) ho
  obtain ⟨r, rfl, ho⟩ := ho
  have hG := hg M1 hok
  refine ⟨r, rfl, ?_⟩
  refine z_aload hE rfl rfl rfl ?_
  refine z_aload hE rfl rfl rfl ?_
  refine z_iload hE rfl rfl ?_
  refine z_iconst hE rfl ?_
  refine z_iadd hE rfl (by unfold inI; omega) ?_
  refine z_ialdS hE rfl (by rw [hG.2]; omega) ?_
  rw [hG.1]
  refine z_callvI hE rfl rfl rfl rfl rfl (Nat.le_of_ble_eq_true rfl) (by decide) ⟨rfl, rfl⟩ ?_
  refine EE_mono d _ _ _ _ _ (fun v M2 ho hok2 => ?_) ho
  obtain ⟨r2, rfl, rfl, hI⟩ := ho
  refine ⟨r2, rfl, ?_⟩
  exact z_icmp_eq hE rfl ⟨fun _ => hK M2 hok2 hI, fun q => absurd rfl q⟩
theorem lw_9 {g : Gx} {d : Nat} {Q : Ql} {M : Mm} {i k : Int} {F : Int → Int} {n : Int} (hF : M 200 = F ∧ M 201 0 = n) (hg : ∀ M1 : Mm, okM g M1 → M1 200 = F ∧ M1 201 0 = n) (hi : 0 ≤ i ∧ i + 6 < n ∧ n ≤ 100000) (ho : opI k d 9 117 [vI (F (i + 1)), vI (F (i + 2))] M) (hK : ∀ M2 : Mm, okM g M2 → Inv (k + 1) M2 → GoG true (gE g d) cd_L Q 1325 [vT 100, vR 0, vR 76, vI i] [] M2) : GoG true (gE g d) cd_L Q 493 [vT 100, vR 0, vR 76, vI i] [] M := by
  have hE := gE_mono g d
  refine z_aload hE rfl rfl rfl ?_
  refine z_aload hE rfl rfl rfl ?_
  refine z_iload hE rfl rfl ?_
  refine z_iconst hE rfl ?_
  refine z_iadd hE rfl (by unfold inI; omega) ?_
  refine z_ialdS hE rfl (by rw [hF.2]; omega) ?_
  rw [hF.1]
  refine z_aload hE rfl rfl rfl ?_
  refine z_iload hE rfl rfl ?_
  refine z_iconst hE rfl ?_
  refine z_iadd hE rfl (by unfold inI; omega) ?_
  refine z_ialdS hE rfl (by rw [hF.2]; omega) ?_
  rw [hF.1]
  refine z_callvI hE rfl rfl rfl rfl rfl (Nat.le_of_ble_eq_true rfl) (by decide) ⟨rfl, rfl⟩ ?_
  refine EE_mono d _ _ _ _ _ (fun v M1 ho hok => ?_) ho
  obtain ⟨r, rfl, ho⟩ := ho
  have hG := hg M1 hok
  refine ⟨r, rfl, ?_⟩
  refine z_aload hE rfl rfl rfl ?_
  refine z_aload hE rfl rfl rfl ?_
  refine z_iload hE rfl rfl ?_
  refine z_iconst hE rfl ?_
  refine z_iadd hE rfl (by unfold inI; omega) ?_
  refine z_ialdS hE rfl (by rw [hG.2]; omega) ?_
  rw [hG.1]
  refine z_aload hE rfl rfl rfl ?_
  refine z_iload hE rfl rfl ?_
  refine z_iconst hE rfl ?_
  refine z_iadd hE rfl (by unfold inI; omega) ?_
  refine z_ialdS hE rfl (by rw [hG.2]; omega) ?_
  rw [hG.1]
  refine z_callvI hE rfl rfl rfl rfl rfl (Nat.le_of_ble_eq_true rfl) (by decide) ⟨rfl, rfl⟩ ?_
  refine EE_mono d _ _ _ _ _ (fun v M2 ho hok2 => ?_) ho
  obtain ⟨r2, rfl, rfl, hI⟩ := ho
  refine ⟨r2, rfl, ?_⟩
  exact z_icmp_eq hE rfl ⟨fun _ => hK M2 hok2 hI, fun q => absurd rfl q⟩
theorem lw_10 {g : Gx} {d : Nat} {Q : Ql} {M : Mm} {i k : Int} {F : Int → Int} {n : Int} (hF : M 200 = F ∧ M 201 0 = n) (hg : ∀ M1 : Mm, okM g M1 → M1 200 = F ∧ M1 201 0 = n) (hi : 0 ≤ i ∧ i + 6 < n ∧ n ≤ 100000) (ho : opI k d 10 118 [vI (F (i + 1)), vI (F (i + 2)), vI (F (i + 3)), vI (F (i + 4)), vI (F (i + 5))] M) (hK : ∀ M2 : Mm, okM g M2 → Inv (k + 1) M2 → GoG true (gE g d) cd_L Q 1325 [vT 100, vR 0, vR 76, vI i] [] M2) : GoG true (gE g d) cd_L Q 526 [vT 100, vR 0, vR 76, vI i] [] M := by
  have hE := gE_mono g d
  refine z_aload hE rfl rfl rfl ?_
  refine z_aload hE rfl rfl rfl ?_
  refine z_iload hE rfl rfl ?_
  refine z_iconst hE rfl ?_
  refine z_iadd hE rfl (by unfold inI; omega) ?_
  refine z_ialdS hE rfl (by rw [hF.2]; omega) ?_
  rw [hF.1]
  refine z_aload hE rfl rfl rfl ?_
  refine z_iload hE rfl rfl ?_
  refine z_iconst hE rfl ?_
  refine z_iadd hE rfl (by unfold inI; omega) ?_
  refine z_ialdS hE rfl (by rw [hF.2]; omega) ?_
  rw [hF.1]
  refine z_aload hE rfl rfl rfl ?_
  refine z_iload hE rfl rfl ?_
  refine z_iconst hE rfl ?_
  refine z_iadd hE rfl (by unfold inI; omega) ?_
  refine z_ialdS hE rfl (by rw [hF.2]; omega) ?_
  rw [hF.1]
  refine z_aload hE rfl rfl rfl ?_
  refine z_iload hE rfl rfl ?_
  refine z_iconst hE rfl ?_
  refine z_iadd hE rfl (by unfold inI; omega) ?_
  refine z_ialdS hE rfl (by rw [hF.2]; omega) ?_
  rw [hF.1]
  refine z_aload hE rfl rfl rfl ?_
  refine z_iload hE rfl rfl ?_
  refine z_iconst hE rfl ?_
  refine z_iadd hE rfl (by unfold inI; omega) ?_
  refine z_ialdS hE rfl (by rw [hF.2]; omega) ?_
  rw [hF.1]
  refine z_callvI hE rfl rfl rfl rfl rfl (Nat.le_of_ble_eq_true rfl) (by decide) ⟨rfl, rfl⟩ ?_
  refine EE_mono d _ _ _ _ _ (fun v M1 ho hok => ?_) ho
  obtain ⟨r, rfl, ho⟩ := ho
  have hG := hg M1 hok
  refine ⟨r, rfl, ?_⟩
  refine z_aload hE rfl rfl rfl ?_
  refine z_aload hE rfl rfl rfl ?_
  refine z_iload hE rfl rfl ?_
  refine z_iconst hE rfl ?_
  refine z_iadd hE rfl (by unfold inI; omega) ?_
  refine z_ialdS hE rfl (by rw [hG.2]; omega) ?_
  rw [hG.1]
  refine z_aload hE rfl rfl rfl ?_
  refine z_iload hE rfl rfl ?_
  refine z_iconst hE rfl ?_
  refine z_iadd hE rfl (by unfold inI; omega) ?_
  refine z_ialdS hE rfl (by rw [hG.2]; omega) ?_
  rw [hG.1]
  refine z_aload hE rfl rfl rfl ?_
  refine z_iload hE rfl rfl ?_
  refine z_iconst hE rfl ?_
  refine z_iadd hE rfl (by unfold inI; omega) ?_
  refine z_ialdS hE rfl (by rw [hG.2]; omega) ?_
  rw [hG.1]
  refine z_aload hE rfl rfl rfl ?_
  refine z_iload hE rfl rfl ?_
  refine z_iconst hE rfl ?_
  refine z_iadd hE rfl (by unfold inI; omega) ?_
  refine z_ialdS hE rfl (by rw [hG.2]; omega) ?_
  rw [hG.1]
  refine z_aload hE rfl rfl rfl ?_
  refine z_iload hE rfl rfl ?_
  refine z_iconst hE rfl ?_
  refine z_iadd hE rfl (by unfold inI; omega) ?_
  refine z_ialdS hE rfl (by rw [hG.2]; omega) ?_
  rw [hG.1]
  refine z_callvI hE rfl rfl rfl rfl rfl (Nat.le_of_ble_eq_true rfl) (by decide) ⟨rfl, rfl⟩ ?_
  refine EE_mono d _ _ _ _ _ (fun v M2 ho hok2 => ?_) ho
  obtain ⟨r2, rfl, rfl, hI⟩ := ho
  refine ⟨r2, rfl, ?_⟩
  exact z_icmp_eq hE rfl ⟨fun _ => hK M2 hok2 hI, fun q => absurd rfl q⟩
theorem lw_11 {g : Gx} {d : Nat} {Q : Ql} {M : Mm} {i k : Int} {F : Int → Int} {n : Int} (hF : M 200 = F ∧ M 201 0 = n) (hg : ∀ M1 : Mm, okM g M1 → M1 200 = F ∧ M1 201 0 = n) (hi : 0 ≤ i ∧ i + 6 < n ∧ n ≤ 100000) (ho : opI k d 11 119 [vI (F (i + 1)), vI (F (i + 2)), vI (F (i + 3))] M) (hK : ∀ M2 : Mm, okM g M2 → Inv (k + 1) M2 → GoG true (gE g d) cd_L Q 1325 [vT 100, vR 0, vR 76, vI i] [] M2) : GoG true (gE g d) cd_L Q 589 [vT 100, vR 0, vR 76, vI i] [] M := by
  have hE := gE_mono g d
  refine z_aload hE rfl rfl rfl ?_
  refine z_aload hE rfl rfl rfl ?_
  refine z_iload hE rfl rfl ?_
  refine z_iconst hE rfl ?_
  refine z_iadd hE rfl (by unfold inI; omega) ?_
  refine z_ialdS hE rfl (by rw [hF.2]; omega) ?_
  rw [hF.1]
  refine z_aload hE rfl rfl rfl ?_
  refine z_iload hE rfl rfl ?_
  refine z_iconst hE rfl ?_
  refine z_iadd hE rfl (by unfold inI; omega) ?_
  refine z_ialdS hE rfl (by rw [hF.2]; omega) ?_
  rw [hF.1]
  refine z_aload hE rfl rfl rfl ?_
  refine z_iload hE rfl rfl ?_
  refine z_iconst hE rfl ?_
  refine z_iadd hE rfl (by unfold inI; omega) ?_
  refine z_ialdS hE rfl (by rw [hF.2]; omega) ?_
  rw [hF.1]
  refine z_callvI hE rfl rfl rfl rfl rfl (Nat.le_of_ble_eq_true rfl) (by decide) ⟨rfl, rfl⟩ ?_
  refine EE_mono d _ _ _ _ _ (fun v M1 ho hok => ?_) ho
  obtain ⟨r, rfl, ho⟩ := ho
  have hG := hg M1 hok
  refine ⟨r, rfl, ?_⟩
  refine z_aload hE rfl rfl rfl ?_
  refine z_aload hE rfl rfl rfl ?_
  refine z_iload hE rfl rfl ?_
  refine z_iconst hE rfl ?_
  refine z_iadd hE rfl (by unfold inI; omega) ?_
  refine z_ialdS hE rfl (by rw [hG.2]; omega) ?_
  rw [hG.1]
  refine z_aload hE rfl rfl rfl ?_
  refine z_iload hE rfl rfl ?_
  refine z_iconst hE rfl ?_
  refine z_iadd hE rfl (by unfold inI; omega) ?_
  refine z_ialdS hE rfl (by rw [hG.2]; omega) ?_
  rw [hG.1]
  refine z_aload hE rfl rfl rfl ?_
  refine z_iload hE rfl rfl ?_
  refine z_iconst hE rfl ?_
  refine z_iadd hE rfl (by unfold inI; omega) ?_
  refine z_ialdS hE rfl (by rw [hG.2]; omega) ?_
  rw [hG.1]
  refine z_callvI hE rfl rfl rfl rfl rfl (Nat.le_of_ble_eq_true rfl) (by decide) ⟨rfl, rfl⟩ ?_
  refine EE_mono d _ _ _ _ _ (fun v M2 ho hok2 => ?_) ho
  obtain ⟨r2, rfl, rfl, hI⟩ := ho
  refine ⟨r2, rfl, ?_⟩
  exact z_icmp_eq hE rfl ⟨fun _ => hK M2 hok2 hI, fun q => absurd rfl q⟩
theorem lw_12 {g : Gx} {d : Nat} {Q : Ql} {M : Mm} {i k : Int} {F : Int → Int} {n : Int} (hF : M 200 = F ∧ M 201 0 = n) (hg : ∀ M1 : Mm, okM g M1 → M1 200 = F ∧ M1 201 0 = n) (hi : 0 ≤ i ∧ i + 6 < n ∧ n ≤ 100000) (ho : opI k d 12 120 [vI (F (i + 1)), vI (F (i + 2))] M) (hK : ∀ M2 : Mm, okM g M2 → Inv (k + 1) M2 → GoG true (gE g d) cd_L Q 1325 [vT 100, vR 0, vR 76, vI i] [] M2) : GoG true (gE g d) cd_L Q 632 [vT 100, vR 0, vR 76, vI i] [] M := by
  have hE := gE_mono g d
  refine z_aload hE rfl rfl rfl ?_
  refine z_aload hE rfl rfl rfl ?_
  refine z_iload hE rfl rfl ?_
  refine z_iconst hE rfl ?_
  refine z_iadd hE rfl (by unfold inI; omega) ?_
  refine z_ialdS hE rfl (by rw [hF.2]; omega) ?_
  rw [hF.1]
  refine z_aload hE rfl rfl rfl ?_
  refine z_iload hE rfl rfl ?_
  refine z_iconst hE rfl ?_
  refine z_iadd hE rfl (by unfold inI; omega) ?_
  refine z_ialdS hE rfl (by rw [hF.2]; omega) ?_
  rw [hF.1]
  refine z_callvI hE rfl rfl rfl rfl rfl (Nat.le_of_ble_eq_true rfl) (by decide) ⟨rfl, rfl⟩ ?_
  refine EE_mono d _ _ _ _ _ (fun v M1 ho hok => ?_) ho
  obtain ⟨r, rfl, ho⟩ := ho
  have hG := hg M1 hok
  refine ⟨r, rfl, ?_⟩
  refine z_aload hE rfl rfl rfl ?_
  refine z_aload hE rfl rfl rfl ?_
  refine z_iload hE rfl rfl ?_
  refine z_iconst hE rfl ?_
  refine z_iadd hE rfl (by unfold inI; omega) ?_
  refine z_ialdS hE rfl (by rw [hG.2]; omega) ?_
  rw [hG.1]
  refine z_aload hE rfl rfl rfl ?_
  refine z_iload hE rfl rfl ?_
  refine z_iconst hE rfl ?_
  refine z_iadd hE rfl (by unfold inI; omega) ?_
  refine z_ialdS hE rfl (by rw [hG.2]; omega) ?_
  rw [hG.1]
  refine z_callvI hE rfl rfl rfl rfl rfl (Nat.le_of_ble_eq_true rfl) (by decide) ⟨rfl, rfl⟩ ?_
  refine EE_mono d _ _ _ _ _ (fun v M2 ho hok2 => ?_) ho
  obtain ⟨r2, rfl, rfl, hI⟩ := ho
  refine ⟨r2, rfl, ?_⟩
  exact z_icmp_eq hE rfl ⟨fun _ => hK M2 hok2 hI, fun q => absurd rfl q⟩
theorem lw_13 {g : Gx} {d : Nat} {Q : Ql} {M : Mm} {i k : Int} {F : Int → Int} {n : Int} (hF : M 200 = F ∧ M 201 0 = n) (hg : ∀ M1 : Mm, okM g M1 → M1 200 = F ∧ M1 201 0 = n) (hi : 0 ≤ i ∧ i + 6 < n ∧ n ≤ 100000) (ho : opI k d 13 121 [vI (F (i + 1))] M) (hK : ∀ M2 : Mm, okM g M2 → Inv (k + 1) M2 → GoG true (gE g d) cd_L Q 1325 [vT 100, vR 0, vR 76, vI i] [] M2) : GoG true (gE g d) cd_L Q 665 [vT 100, vR 0, vR 76, vI i] [] M := by
  have hE := gE_mono g d
  refine z_aload hE rfl rfl rfl ?_
  refine z_aload hE rfl rfl rfl ?_
  refine z_iload hE rfl rfl ?_
  refine z_iconst hE rfl ?_
  refine z_iadd hE rfl (by unfold inI; omega) ?_
  refine z_ialdS hE rfl (by rw [hF.2]; omega) ?_
  rw [hF.1]
  refine z_callvI hE rfl rfl rfl rfl rfl (Nat.le_of_ble_eq_true rfl) (by decide) ⟨rfl, rfl⟩ ?_
  refine EE_mono d _ _ _ _ _ (fun v M1 ho hok => ?_) ho
  obtain ⟨r, rfl, ho⟩ := ho
  have hG := hg M1 hok
  refine ⟨r, rfl, ?_⟩
  refine z_aload hE rfl rfl rfl ?_
  refine z_aload hE rfl rfl rfl ?_
  refine z_iload hE rfl rfl ?_
  refine z_iconst hE rfl ?_
  refine z_iadd hE rfl (by unfold inI; omega) ?_
  refine z_ialdS hE rfl (by rw [hG.2]; omega) ?_
  rw [hG.1]
  refine z_callvI hE rfl rfl rfl rfl rfl (Nat.le_of_ble_eq_true rfl) (by decide) ⟨rfl, rfl⟩ ?_
  refine EE_mono d _ _ _ _ _ (fun v M2 ho hok2 => ?_) ho
  obtain ⟨r2, rfl, rfl, hI⟩ := ho
  refine ⟨r2, rfl, ?_⟩
  exact z_icmp_eq hE rfl ⟨fun _ => hK M2 hok2 hI, fun q => absurd rfl q⟩
theorem lw_14 {g : Gx} {d : Nat} {Q : Ql} {M : Mm} {i k : Int} {F : Int → Int} {n : Int} (hF : M 200 = F ∧ M 201 0 = n) (hg : ∀ M1 : Mm, okM g M1 → M1 200 = F ∧ M1 201 0 = n) (hi : 0 ≤ i ∧ i + 6 < n ∧ n ≤ 100000) (ho : opI k d 14 122 [vI (F (i + 1)), vI (F (i + 2))] M) (hK : ∀ M2 : Mm, okM g M2 → Inv (k + 1) M2 → GoG true (gE g d) cd_L Q 1325 [vT 100, vR 0, vR 76, vI i] [] M2) : GoG true (gE g d) cd_L Q 688 [vT 100, vR 0, vR 76, vI i] [] M := by
  have hE := gE_mono g d
  refine z_aload hE rfl rfl rfl ?_
  refine z_aload hE rfl rfl rfl ?_
  refine z_iload hE rfl rfl ?_
  refine z_iconst hE rfl ?_
  refine z_iadd hE rfl (by unfold inI; omega) ?_
  refine z_ialdS hE rfl (by rw [hF.2]; omega) ?_
  rw [hF.1]
  refine z_aload hE rfl rfl rfl ?_
  refine z_iload hE rfl rfl ?_
  refine z_iconst hE rfl ?_
  refine z_iadd hE rfl (by unfold inI; omega) ?_
  refine z_ialdS hE rfl (by rw [hF.2]; omega) ?_
  rw [hF.1]
  refine z_callvI hE rfl rfl rfl rfl rfl (Nat.le_of_ble_eq_true rfl) (by decide) ⟨rfl, rfl⟩ ?_
  refine EE_mono d _ _ _ _ _ (fun v M1 ho hok => ?_) ho
  obtain ⟨r, rfl, ho⟩ := ho
  have hG := hg M1 hok
  refine ⟨r, rfl, ?_⟩
  refine z_aload hE rfl rfl rfl ?_
  refine z_aload hE rfl rfl rfl ?_
  refine z_iload hE rfl rfl ?_
  refine z_iconst hE rfl ?_
  refine z_iadd hE rfl (by unfold inI; omega) ?_
  refine z_ialdS hE rfl (by rw [hG.2]; omega) ?_
  rw [hG.1]
  refine z_aload hE rfl rfl rfl ?_
  refine z_iload hE rfl rfl ?_
  refine z_iconst hE rfl ?_
  refine z_iadd hE rfl (by unfold inI; omega) ?_
  refine z_ialdS hE rfl (by rw [hG.2]; omega) ?_
  rw [hG.1]
  refine z_callvI hE rfl rfl rfl rfl rfl (Nat.le_of_ble_eq_true rfl) (by decide) ⟨rfl, rfl⟩ ?_
  refine EE_mono d _ _ _ _ _ (fun v M2 ho hok2 => ?_) ho
  obtain ⟨r2, rfl, rfl, hI⟩ := ho
  refine ⟨r2, rfl, ?_⟩
  exact z_icmp_eq hE rfl ⟨fun _ => hK M2 hok2 hI, fun q => absurd rfl q⟩
theorem lw_15 {g : Gx} {d : Nat} {Q : Ql} {M : Mm} {i k : Int} {F : Int → Int} {n : Int} (hF : M 200 = F ∧ M 201 0 = n) (hg : ∀ M1 : Mm, okM g M1 → M1 200 = F ∧ M1 201 0 = n) (hi : 0 ≤ i ∧ i + 6 < n ∧ n ≤ 100000) (ho : opI k d 15 123 [] M) (hK : ∀ M2 : Mm, okM g M2 → Inv (k + 1) M2 → GoG true (gE g d) cd_L Q 1325 [vT 100, vR 0, vR 76, vI i] [] M2) : GoG true (gE g d) cd_L Q 721 [vT 100, vR 0, vR 76, vI i] [] M := by
  have hE := gE_mono g d
  refine z_aload hE rfl rfl rfl ?_
  refine z_callv15 hE rfl rfl rfl rfl rfl (Nat.le_of_ble_eq_true rfl) rfl rfl ⟨rfl, rfl⟩ ?_
  refine EE_mono d _ _ _ _ _ (fun v M1 ho hok => ?_) ho
  obtain ⟨r, rfl, ho⟩ := ho
  have hG := hg M1 hok
  refine ⟨r, rfl, ?_⟩
  refine z_aload hE rfl rfl rfl ?_
  refine z_callvI hE rfl rfl rfl rfl rfl (Nat.le_of_ble_eq_true rfl) (by decide) ⟨rfl, rfl⟩ ?_
  refine EE_mono d _ _ _ _ _ (fun v M2 ho hok2 => ?_) ho
  obtain ⟨r2, rfl, rfl, hI⟩ := ho
  refine ⟨r2, rfl, ?_⟩
  exact z_icmp_eq hE rfl ⟨fun _ => hK M2 hok2 hI, fun q => absurd rfl q⟩
theorem lw_16 {g : Gx} {d : Nat} {Q : Ql} {M : Mm} {i k : Int} {F : Int → Int} {n : Int} (hF : M 200 = F ∧ M 201 0 = n) (hg : ∀ M1 : Mm, okM g M1 → M1 200 = F ∧ M1 201 0 = n) (hi : 0 ≤ i ∧ i + 6 < n ∧ n ≤ 100000) (ho : opI k d 16 124 [vI (F (i + 1)), vI (F (i + 2)), vI (F (i + 3))] M) (hK : ∀ M2 : Mm, okM g M2 → Inv (k + 1) M2 → GoG true (gE g d) cd_L Q 1325 [vT 100, vR 0, vR 76, vI i] [] M2) : GoG true (gE g d) cd_L Q 734 [vT 100, vR 0, vR 76, vI i] [] M := by
  have hE := gE_mono g d
  refine z_aload hE rfl rfl rfl ?_
  refine z_aload hE rfl rfl rfl ?_
  refine z_iload hE rfl rfl ?_
  refine z_iconst hE rfl ?_
  refine z_iadd hE rfl (by unfold inI; omega) ?_
  refine z_ialdS hE rfl (by rw [hF.2]; omega) ?_
  rw [hF.1]
  refine z_aload hE rfl rfl rfl ?_
  refine z_iload hE rfl rfl ?_
  refine z_iconst hE rfl ?_
  refine z_iadd hE rfl (by unfold inI; omega) ?_
  refine z_ialdS hE rfl (by rw [hF.2]; omega) ?_
  rw [hF.1]
  refine z_aload hE rfl rfl rfl ?_
  refine z_iload hE rfl rfl ?_
  refine z_iconst hE rfl ?_
  refine z_iadd hE rfl (by unfold inI; omega) ?_
  refine z_ialdS hE rfl (by rw [hF.2]; omega) ?_
  rw [hF.1]
  refine z_callvI hE rfl rfl rfl rfl rfl (Nat.le_of_ble_eq_true rfl) (by decide) ⟨rfl, rfl⟩ ?_
  refine EE_mono d _ _ _ _ _ (fun v M1 ho hok => ?_) ho
  obtain ⟨r, rfl, ho⟩ := ho
  have hG := hg M1 hok
  refine ⟨r, rfl, ?_⟩
  refine z_aload hE rfl rfl rfl ?_
  refine z_aload hE rfl rfl rfl ?_
  refine z_iload hE rfl rfl ?_
  refine z_iconst hE rfl ?_
  refine z_iadd hE rfl (by unfold inI; omega) ?_
  refine z_ialdS hE rfl (by rw [hG.2]; omega) ?_
  rw [hG.1]
  refine z_aload hE rfl rfl rfl ?_
  refine z_iload hE rfl rfl ?_
  refine z_iconst hE rfl ?_
  refine z_iadd hE rfl (by unfold inI; omega) ?_
  refine z_ialdS hE rfl (by rw [hG.2]; omega) ?_
  rw [hG.1]
  refine z_aload hE rfl rfl rfl ?_
  refine z_iload hE rfl rfl ?_
  refine z_iconst hE rfl ?_
  refine z_iadd hE rfl (by unfold inI; omega) ?_
  refine z_ialdS hE rfl (by rw [hG.2]; omega) ?_
  rw [hG.1]
  refine z_callvI hE rfl rfl rfl rfl rfl (Nat.le_of_ble_eq_true rfl) (by decide) ⟨rfl, rfl⟩ ?_
  refine EE_mono d _ _ _ _ _ (fun v M2 ho hok2 => ?_) ho
  obtain ⟨r2, rfl, rfl, hI⟩ := ho
  refine ⟨r2, rfl, ?_⟩
  exact z_icmp_eq hE rfl ⟨fun _ => hK M2 hok2 hI, fun q => absurd rfl q⟩
theorem lw_17 {g : Gx} {d : Nat} {Q : Ql} {M : Mm} {i k : Int} {F : Int → Int} {n : Int} (hF : M 200 = F ∧ M 201 0 = n) (hg : ∀ M1 : Mm, okM g M1 → M1 200 = F ∧ M1 201 0 = n) (hi : 0 ≤ i ∧ i + 6 < n ∧ n ≤ 100000) (ho : opI k d 17 125 [vI (F (i + 1)), vI (F (i + 2)), vI (F (i + 3)), vI (F (i + 4))] M) (hK : ∀ M2 : Mm, okM g M2 → Inv (k + 1) M2 → GoG true (gE g d) cd_L Q 1325 [vT 100, vR 0, vR 76, vI i] [] M2) : GoG true (gE g d) cd_L Q 777 [vT 100, vR 0, vR 76, vI i] [] M := by
  have hE := gE_mono g d
  refine z_aload hE rfl rfl rfl ?_
  refine z_aload hE rfl rfl rfl ?_
  refine z_iload hE rfl rfl ?_
  refine z_iconst hE rfl ?_
  refine z_iadd hE rfl (by unfold inI; omega) ?_
  refine z_ialdS hE rfl (by rw [hF.2]; omega) ?_
  rw [hF.1]
  refine z_aload hE rfl rfl rfl ?_
  refine z_iload hE rfl rfl ?_
  refine z_iconst hE rfl ?_
  refine z_iadd hE rfl (by unfold inI; omega) ?_
  refine z_ialdS hE rfl (by rw [hF.2]; omega) ?_
  rw [hF.1]
  refine z_aload hE rfl rfl rfl ?_
  refine z_iload hE rfl rfl ?_
  refine z_iconst hE rfl ?_
  refine z_iadd hE rfl (by unfold inI; omega) ?_
  refine z_ialdS hE rfl (by rw [hF.2]; omega) ?_
  rw [hF.1]
  refine z_aload hE rfl rfl rfl ?_
  refine z_iload hE rfl rfl ?_
  refine z_iconst hE rfl ?_
  refine z_iadd hE rfl (by unfold inI; omega) ?_
  refine z_ialdS hE rfl (by rw [hF.2]; omega) ?_
  rw [hF.1]
  refine z_callvI hE rfl rfl rfl rfl rfl (Nat.le_of_ble_eq_true rfl) (by decide) ⟨rfl, rfl⟩ ?_
  refine EE_mono d _ _ _ _ _ (fun v M1 ho hok => ?_) ho
  obtain ⟨r, rfl, ho⟩ := ho
  have hG := hg M1 hok
  refine ⟨r, rfl, ?_⟩
  refine z_aload hE rfl rfl rfl ?_
  refine z_aload hE rfl rfl rfl ?_
  refine z_iload hE rfl rfl ?_
  refine z_iconst hE rfl ?_
  refine z_iadd hE rfl (by unfold inI; omega) ?_
  refine z_ialdS hE rfl (by rw [hG.2]; omega) ?_
  rw [hG.1]
  refine z_aload hE rfl rfl rfl ?_
  refine z_iload hE rfl rfl ?_
  refine z_iconst hE rfl ?_
  refine z_iadd hE rfl (by unfold inI; omega) ?_
  refine z_ialdS hE rfl (by rw [hG.2]; omega) ?_
  rw [hG.1]
  refine z_aload hE rfl rfl rfl ?_
  refine z_iload hE rfl rfl ?_
  refine z_iconst hE rfl ?_
  refine z_iadd hE rfl (by unfold inI; omega) ?_
  refine z_ialdS hE rfl (by rw [hG.2]; omega) ?_
  rw [hG.1]
  refine z_aload hE rfl rfl rfl ?_
  refine z_iload hE rfl rfl ?_
  refine z_iconst hE rfl ?_
  refine z_iadd hE rfl (by unfold inI; omega) ?_
  refine z_ialdS hE rfl (by rw [hG.2]; omega) ?_
  rw [hG.1]
  refine z_callvI hE rfl rfl rfl rfl rfl (Nat.le_of_ble_eq_true rfl) (by decide) ⟨rfl, rfl⟩ ?_
  refine EE_mono d _ _ _ _ _ (fun v M2 ho hok2 => ?_) ho
  obtain ⟨r2, rfl, rfl, hI⟩ := ho
  refine ⟨r2, rfl, ?_⟩
  exact z_icmp_eq hE rfl ⟨fun _ => hK M2 hok2 hI, fun q => absurd rfl q⟩
theorem lw_18 {g : Gx} {d : Nat} {Q : Ql} {M : Mm} {i k : Int} {F : Int → Int} {n : Int} (hF : M 200 = F ∧ M 201 0 = n) (hg : ∀ M1 : Mm, okM g M1 → M1 200 = F ∧ M1 201 0 = n) (hi : 0 ≤ i ∧ i + 6 < n ∧ n ≤ 100000) (ho : opI k d 18 126 [vI (F (i + 1)), vI (F (i + 2)), vI (F (i + 3)), vI (F (i + 4))] M) (hK : ∀ M2 : Mm, okM g M2 → Inv (k + 1) M2 → GoG true (gE g d) cd_L Q 1325 [vT 100, vR 0, vR 76, vI i] [] M2) : GoG true (gE g d) cd_L Q 830 [vT 100, vR 0, vR 76, vI i] [] M := by
  have hE := gE_mono g d
  refine z_aload hE rfl rfl rfl ?_
  refine z_aload hE rfl rfl rfl ?_
  refine z_iload hE rfl rfl ?_
  refine z_iconst hE rfl ?_
  refine z_iadd hE rfl (by unfold inI; omega) ?_
  refine z_ialdS hE rfl (by rw [hF.2]; omega) ?_
  rw [hF.1]
  refine z_aload hE rfl rfl rfl ?_
  refine z_iload hE rfl rfl ?_
  refine z_iconst hE rfl ?_
  refine z_iadd hE rfl (by unfold inI; omega) ?_
  refine z_ialdS hE rfl (by rw [hF.2]; omega) ?_
  rw [hF.1]
  refine z_aload hE rfl rfl rfl ?_
  refine z_iload hE rfl rfl ?_
  refine z_iconst hE rfl ?_
  refine z_iadd hE rfl (by unfold inI; omega) ?_
  refine z_ialdS hE rfl (by rw [hF.2]; omega) ?_
  rw [hF.1]
  refine z_aload hE rfl rfl rfl ?_
  refine z_iload hE rfl rfl ?_
  refine z_iconst hE rfl ?_
  refine z_iadd hE rfl (by unfold inI; omega) ?_
  refine z_ialdS hE rfl (by rw [hF.2]; omega) ?_
  rw [hF.1]
  refine z_callvI hE rfl rfl rfl rfl rfl (Nat.le_of_ble_eq_true rfl) (by decide) ⟨rfl, rfl⟩ ?_
  refine EE_mono d _ _ _ _ _ (fun v M1 ho hok => ?_) ho
  obtain ⟨r, rfl, ho⟩ := ho
  have hG := hg M1 hok
  refine ⟨r, rfl, ?_⟩
  refine z_aload hE rfl rfl rfl ?_
  refine z_aload hE rfl rfl rfl ?_
  refine z_iload hE rfl rfl ?_
  refine z_iconst hE rfl ?_
  refine z_iadd hE rfl (by unfold inI; omega) ?_
  refine z_ialdS hE rfl (by rw [hG.2]; omega) ?_
  rw [hG.1]
  refine z_aload hE rfl rfl rfl ?_
  refine z_iload hE rfl rfl ?_
  refine z_iconst hE rfl ?_
  refine z_iadd hE rfl (by unfold inI; omega) ?_
  refine z_ialdS hE rfl (by rw [hG.2]; omega) ?_
  rw [hG.1]
  refine z_aload hE rfl rfl rfl ?_
  refine z_iload hE rfl rfl ?_
  refine z_iconst hE rfl ?_
  refine z_iadd hE rfl (by unfold inI; omega) ?_
  refine z_ialdS hE rfl (by rw [hG.2]; omega) ?_
  rw [hG.1]
  refine z_aload hE rfl rfl rfl ?_
  refine z_iload hE rfl rfl ?_
  refine z_iconst hE rfl ?_
  refine z_iadd hE rfl (by unfold inI; omega) ?_
  refine z_ialdS hE rfl (by rw [hG.2]; omega) ?_
  rw [hG.1]
  refine z_callvI hE rfl rfl rfl rfl rfl (Nat.le_of_ble_eq_true rfl) (by decide) ⟨rfl, rfl⟩ ?_
  refine EE_mono d _ _ _ _ _ (fun v M2 ho hok2 => ?_) ho
  obtain ⟨r2, rfl, rfl, hI⟩ := ho
  refine ⟨r2, rfl, ?_⟩
  exact z_icmp_eq hE rfl ⟨fun _ => hK M2 hok2 hI, fun q => absurd rfl q⟩
theorem lw_19 {g : Gx} {d : Nat} {Q : Ql} {M : Mm} {i k : Int} {F : Int → Int} {n : Int} (hF : M 200 = F ∧ M 201 0 = n) (hg : ∀ M1 : Mm, okM g M1 → M1 200 = F ∧ M1 201 0 = n) (hi : 0 ≤ i ∧ i + 6 < n ∧ n ≤ 100000) (ho : opI k d 19 127 [vI (F (i + 1)), vI (F (i + 2)), vI (F (i + 3))] M) (hK : ∀ M2 : Mm, okM g M2 → Inv (k + 1) M2 → GoG true (gE g d) cd_L Q 1325 [vT 100, vR 0, vR 76, vI i] [] M2) : GoG true (gE g d) cd_L Q 883 [vT 100, vR 0, vR 76, vI i] [] M := by
  have hE := gE_mono g d
  refine z_aload hE rfl rfl rfl ?_
  refine z_aload hE rfl rfl rfl ?_
  refine z_iload hE rfl rfl ?_
  refine z_iconst hE rfl ?_
  refine z_iadd hE rfl (by unfold inI; omega) ?_
  refine z_ialdS hE rfl (by rw [hF.2]; omega) ?_
  rw [hF.1]
  refine z_aload hE rfl rfl rfl ?_
  refine z_iload hE rfl rfl ?_
  refine z_iconst hE rfl ?_
  refine z_iadd hE rfl (by unfold inI; omega) ?_
  refine z_ialdS hE rfl (by rw [hF.2]; omega) ?_
  rw [hF.1]
  refine z_aload hE rfl rfl rfl ?_
  refine z_iload hE rfl rfl ?_
  refine z_iconst hE rfl ?_
  refine z_iadd hE rfl (by unfold inI; omega) ?_
  refine z_ialdS hE rfl (by rw [hF.2]; omega) ?_
  rw [hF.1]
  refine z_callvI hE rfl rfl rfl rfl rfl (Nat.le_of_ble_eq_true rfl) (by decide) ⟨rfl, rfl⟩ ?_
  refine EE_mono d _ _ _ _ _ (fun v M1 ho hok => ?_) ho
  obtain ⟨r, rfl, ho⟩ := ho
  have hG := hg M1 hok
  refine ⟨r, rfl, ?_⟩
  refine z_aload hE rfl rfl rfl ?_
  refine z_aload hE rfl rfl rfl ?_
  refine z_iload hE rfl rfl ?_
  refine z_iconst hE rfl ?_
  refine z_iadd hE rfl (by unfold inI; omega) ?_
  refine z_ialdS hE rfl (by rw [hG.2]; omega) ?_
  rw [hG.1]
  refine z_aload hE rfl rfl rfl ?_
  refine z_iload hE rfl rfl ?_
  refine z_iconst hE rfl ?_
  refine z_iadd hE rfl (by unfold inI; omega) ?_
  refine z_ialdS hE rfl (by rw [hG.2]; omega) ?_
  rw [hG.1]
  refine z_aload hE rfl rfl rfl ?_
  refine z_iload hE rfl rfl ?_
  refine z_iconst hE rfl ?_
  refine z_iadd hE rfl (by unfold inI; omega) ?_
  refine z_ialdS hE rfl (by rw [hG.2]; omega) ?_
  rw [hG.1]
  refine z_callvI hE rfl rfl rfl rfl rfl (Nat.le_of_ble_eq_true rfl) (by decide) ⟨rfl, rfl⟩ ?_
  refine EE_mono d _ _ _ _ _ (fun v M2 ho hok2 => ?_) ho
  obtain ⟨r2, rfl, rfl, hI⟩ := ho
  refine ⟨r2, rfl, ?_⟩
  exact z_icmp_eq hE rfl ⟨fun _ => hK M2 hok2 hI, fun q => absurd rfl q⟩
theorem lw_20 {g : Gx} {d : Nat} {Q : Ql} {M : Mm} {i k : Int} {F : Int → Int} {n : Int} (hF : M 200 = F ∧ M 201 0 = n) (hg : ∀ M1 : Mm, okM g M1 → M1 200 = F ∧ M1 201 0 = n) (hi : 0 ≤ i ∧ i + 6 < n ∧ n ≤ 100000) (ho : opI k d 20 128 [vI (F (i + 1)), vI (F (i + 2))] M) (hK : ∀ M2 : Mm, okM g M2 → Inv (k + 1) M2 → GoG true (gE g d) cd_L Q 1325 [vT 100, vR 0, vR 76, vI i] [] M2) : GoG true (gE g d) cd_L Q 926 [vT 100, vR 0, vR 76, vI i] [] M := by
  have hE := gE_mono g d
  refine z_aload hE rfl rfl rfl ?_
  refine z_aload hE rfl rfl rfl ?_
  refine z_iload hE rfl rfl ?_
  refine z_iconst hE rfl ?_
  refine z_iadd hE rfl (by unfold inI; omega) ?_
  refine z_ialdS hE rfl (by rw [hF.2]; omega) ?_
  rw [hF.1]
  refine z_aload hE rfl rfl rfl ?_
  refine z_iload hE rfl rfl ?_
  refine z_iconst hE rfl ?_
  refine z_iadd hE rfl (by unfold inI; omega) ?_
  refine z_ialdS hE rfl (by rw [hF.2]; omega) ?_
  rw [hF.1]
  refine z_callvI hE rfl rfl rfl rfl rfl (Nat.le_of_ble_eq_true rfl) (by decide) ⟨rfl, rfl⟩ ?_
  refine EE_mono d _ _ _ _ _ (fun v M1 ho hok => ?_) ho
  obtain ⟨r, rfl, ho⟩ := ho
  have hG := hg M1 hok
  refine ⟨r, rfl, ?_⟩
  refine z_aload hE rfl rfl rfl ?_
  refine z_aload hE rfl rfl rfl ?_
  refine z_iload hE rfl rfl ?_
  refine z_iconst hE rfl ?_
  refine z_iadd hE rfl (by unfold inI; omega) ?_
  refine z_ialdS hE rfl (by rw [hG.2]; omega) ?_
  rw [hG.1]
  refine z_aload hE rfl rfl rfl ?_
  refine z_iload hE rfl rfl ?_
  refine z_iconst hE rfl ?_
  refine z_iadd hE rfl (by unfold inI; omega) ?_
  refine z_ialdS hE rfl (by rw [hG.2]; omega) ?_
  rw [hG.1]
  refine z_callvI hE rfl rfl rfl rfl rfl (Nat.le_of_ble_eq_true rfl) (by decide) ⟨rfl, rfl⟩ ?_
  refine EE_mono d _ _ _ _ _ (fun v M2 ho hok2 => ?_) ho
  obtain ⟨r2, rfl, rfl, hI⟩ := ho
  refine ⟨r2, rfl, ?_⟩
  exact z_icmp_eq hE rfl ⟨fun _ => hK M2 hok2 hI, fun q => absurd rfl q⟩
theorem lw_21 {g : Gx} {d : Nat} {Q : Ql} {M : Mm} {i k : Int} {F : Int → Int} {n : Int} (hF : M 200 = F ∧ M 201 0 = n) (hg : ∀ M1 : Mm, okM g M1 → M1 200 = F ∧ M1 201 0 = n) (hi : 0 ≤ i ∧ i + 6 < n ∧ n ≤ 100000) (ho : opI k d 21 129 [vI (F (i + 1)), vI (F (i + 2))] M) (hK : ∀ M2 : Mm, okM g M2 → Inv (k + 1) M2 → GoG true (gE g d) cd_L Q 1325 [vT 100, vR 0, vR 76, vI i] [] M2) : GoG true (gE g d) cd_L Q 959 [vT 100, vR 0, vR 76, vI i] [] M := by
  have hE := gE_mono g d
  refine z_aload hE rfl rfl rfl ?_
  refine z_aload hE rfl rfl rfl ?_
  refine z_iload hE rfl rfl ?_
  refine z_iconst hE rfl ?_
  refine z_iadd hE rfl (by unfold inI; omega) ?_
  refine z_ialdS hE rfl (by rw [hF.2]; omega) ?_
  rw [hF.1]
  refine z_aload hE rfl rfl rfl ?_
  refine z_iload hE rfl rfl ?_
  refine z_iconst hE rfl ?_
  refine z_iadd hE rfl (by unfold inI; omega) ?_
  refine z_ialdS hE rfl (by rw [hF.2]; omega) ?_
  rw [hF.1]
  refine z_callvI hE rfl rfl rfl rfl rfl (Nat.le_of_ble_eq_true rfl) (by decide) ⟨rfl, rfl⟩ ?_
  refine EE_mono d _ _ _ _ _ (fun v M1 ho hok => ?_) ho
  obtain ⟨r, rfl, ho⟩ := ho
  have hG := hg M1 hok
  refine ⟨r, rfl, ?_⟩
  refine z_aload hE rfl rfl rfl ?_
  refine z_aload hE rfl rfl rfl ?_
  refine z_iload hE rfl rfl ?_
  refine z_iconst hE rfl ?_
  refine z_iadd hE rfl (by unfold inI; omega) ?_
  refine z_ialdS hE rfl (by rw [hG.2]; omega) ?_
  rw [hG.1]
  refine z_aload hE rfl rfl rfl ?_
  refine z_iload hE rfl rfl ?_
  refine z_iconst hE rfl ?_
  refine z_iadd hE rfl (by unfold inI; omega) ?_
  refine z_ialdS hE rfl (by rw [hG.2]; omega) ?_
  rw [hG.1]
  refine z_callvI hE rfl rfl rfl rfl rfl (Nat.le_of_ble_eq_true rfl) (by decide) ⟨rfl, rfl⟩ ?_
  refine EE_mono d _ _ _ _ _ (fun v M2 ho hok2 => ?_) ho
  obtain ⟨r2, rfl, rfl, hI⟩ := ho
  refine ⟨r2, rfl, ?_⟩
  exact z_icmp_eq hE rfl ⟨fun _ => hK M2 hok2 hI, fun q => absurd rfl q⟩
theorem lw_22 {g : Gx} {d : Nat} {Q : Ql} {M : Mm} {i k : Int} {F : Int → Int} {n : Int} (hF : M 200 = F ∧ M 201 0 = n) (hg : ∀ M1 : Mm, okM g M1 → M1 200 = F ∧ M1 201 0 = n) (hi : 0 ≤ i ∧ i + 6 < n ∧ n ≤ 100000) (ho : opI k d 22 130 [vI (F (i + 1)), vI (F (i + 2))] M) (hK : ∀ M2 : Mm, okM g M2 → Inv (k + 1) M2 → GoG true (gE g d) cd_L Q 1325 [vT 100, vR 0, vR 76, vI i] [] M2) : GoG true (gE g d) cd_L Q 992 [vT 100, vR 0, vR 76, vI i] [] M := by
  have hE := gE_mono g d
  refine z_aload hE rfl rfl rfl ?_
  refine z_aload hE rfl rfl rfl ?_
  refine z_iload hE rfl rfl ?_
  refine z_iconst hE rfl ?_
  refine z_iadd hE rfl (by unfold inI; omega) ?_
  refine z_ialdS hE rfl (by rw [hF.2]; omega) ?_
  rw [hF.1]
  refine z_aload hE rfl rfl rfl ?_
  refine z_iload hE rfl rfl ?_
  refine z_iconst hE rfl ?_
  refine z_iadd hE rfl (by unfold inI; omega) ?_
  refine z_ialdS hE rfl (by rw [hF.2]; omega) ?_
  rw [hF.1]
  refine z_callvI hE rfl rfl rfl rfl rfl (Nat.le_of_ble_eq_true rfl) (by decide) ⟨rfl, rfl⟩ ?_
  refine EE_mono d _ _ _ _ _ (fun v M1 ho hok => ?_) ho
  obtain ⟨r, rfl, ho⟩ := ho
  have hG := hg M1 hok
  refine ⟨r, rfl, ?_⟩
  refine z_aload hE rfl rfl rfl ?_
  refine z_aload hE rfl rfl rfl ?_
  refine z_iload hE rfl rfl ?_
  refine z_iconst hE rfl ?_
  refine z_iadd hE rfl (by unfold inI; omega) ?_
  refine z_ialdS hE rfl (by rw [hG.2]; omega) ?_
  rw [hG.1]
  refine z_aload hE rfl rfl rfl ?_
  refine z_iload hE rfl rfl ?_
  refine z_iconst hE rfl ?_
  refine z_iadd hE rfl (by unfold inI; omega) ?_
  refine z_ialdS hE rfl (by rw [hG.2]; omega) ?_
  rw [hG.1]
  refine z_callvI hE rfl rfl rfl rfl rfl (Nat.le_of_ble_eq_true rfl) (by decide) ⟨rfl, rfl⟩ ?_
  refine EE_mono d _ _ _ _ _ (fun v M2 ho hok2 => ?_) ho
  obtain ⟨r2, rfl, rfl, hI⟩ := ho
  refine ⟨r2, rfl, ?_⟩
  exact z_icmp_eq hE rfl ⟨fun _ => hK M2 hok2 hI, fun q => absurd rfl q⟩
theorem lw_23 {g : Gx} {d : Nat} {Q : Ql} {M : Mm} {i k : Int} {F : Int → Int} {n : Int} (hF : M 200 = F ∧ M 201 0 = n) (hg : ∀ M1 : Mm, okM g M1 → M1 200 = F ∧ M1 201 0 = n) (hi : 0 ≤ i ∧ i + 6 < n ∧ n ≤ 100000) (ho : opI k d 23 131 [vI (F (i + 1)), vI (F (i + 2))] M) (hK : ∀ M2 : Mm, okM g M2 → Inv (k + 1) M2 → GoG true (gE g d) cd_L Q 1325 [vT 100, vR 0, vR 76, vI i] [] M2) : GoG true (gE g d) cd_L Q 1025 [vT 100, vR 0, vR 76, vI i] [] M := by
  have hE := gE_mono g d
  refine z_aload hE rfl rfl rfl ?_
  refine z_aload hE rfl rfl rfl ?_
  refine z_iload hE rfl rfl ?_
  refine z_iconst hE rfl ?_
  refine z_iadd hE rfl (by unfold inI; omega) ?_
  refine z_ialdS hE rfl (by rw [hF.2]; omega) ?_
  rw [hF.1]
  refine z_aload hE rfl rfl rfl ?_
  refine z_iload hE rfl rfl ?_
  refine z_iconst hE rfl ?_
  refine z_iadd hE rfl (by unfold inI; omega) ?_
  refine z_ialdS hE rfl (by rw [hF.2]; omega) ?_
  rw [hF.1]
  refine z_callvI hE rfl rfl rfl rfl rfl (Nat.le_of_ble_eq_true rfl) (by decide) ⟨rfl, rfl⟩ ?_
  refine EE_mono d _ _ _ _ _ (fun v M1 ho hok => ?_) ho
  obtain ⟨r, rfl, ho⟩ := ho
  have hG := hg M1 hok
  refine ⟨r, rfl, ?_⟩
  refine z_aload hE rfl rfl rfl ?_
  refine z_aload hE rfl rfl rfl ?_
  refine z_iload hE rfl rfl ?_
  refine z_iconst hE rfl ?_
  refine z_iadd hE rfl (by unfold inI; omega) ?_
  refine z_ialdS hE rfl (by rw [hG.2]; omega) ?_
  rw [hG.1]
  refine z_aload hE rfl rfl rfl ?_
  refine z_iload hE rfl rfl ?_
  refine z_iconst hE rfl ?_
  refine z_iadd hE rfl (by unfold inI; omega) ?_
  refine z_ialdS hE rfl (by rw [hG.2]; omega) ?_
  rw [hG.1]
  refine z_callvI hE rfl rfl rfl rfl rfl (Nat.le_of_ble_eq_true rfl) (by decide) ⟨rfl, rfl⟩ ?_
  refine EE_mono d _ _ _ _ _ (fun v M2 ho hok2 => ?_) ho
  obtain ⟨r2, rfl, rfl, hI⟩ := ho
  refine ⟨r2, rfl, ?_⟩
  exact z_icmp_eq hE rfl ⟨fun _ => hK M2 hok2 hI, fun q => absurd rfl q⟩
theorem lw_24 {g : Gx} {d : Nat} {Q : Ql} {M : Mm} {i k : Int} {F : Int → Int} {n : Int} (hF : M 200 = F ∧ M 201 0 = n) (hg : ∀ M1 : Mm, okM g M1 → M1 200 = F ∧ M1 201 0 = n) (hi : 0 ≤ i ∧ i + 6 < n ∧ n ≤ 100000) (ho : opI k d 24 132 [vI (F (i + 1))] M) (hK : ∀ M2 : Mm, okM g M2 → Inv (k + 1) M2 → GoG true (gE g d) cd_L Q 1325 [vT 100, vR 0, vR 76, vI i] [] M2) : GoG true (gE g d) cd_L Q 1058 [vT 100, vR 0, vR 76, vI i] [] M := by
  have hE := gE_mono g d
  refine z_aload hE rfl rfl rfl ?_
  refine z_aload hE rfl rfl rfl ?_
  refine z_iload hE rfl rfl ?_
  refine z_iconst hE rfl ?_
  refine z_iadd hE rfl (by unfold inI; omega) ?_
  refine z_ialdS hE rfl (by rw [hF.2]; omega) ?_
  rw [hF.1]
  refine z_callvI hE rfl rfl rfl rfl rfl (Nat.le_of_ble_eq_true rfl) (by decide) ⟨rfl, rfl⟩ ?_
  refine EE_mono d _ _ _ _ _ (fun v M1 ho hok => ?_) ho
  obtain ⟨r, rfl, ho⟩ := ho
  have hG := hg M1 hok
  refine ⟨r, rfl, ?_⟩
  refine z_aload hE rfl rfl rfl ?_
  refine z_aload hE rfl rfl rfl ?_
  refine z_iload hE rfl rfl ?_
  refine z_iconst hE rfl ?_
  refine z_iadd hE rfl (by unfold inI; omega) ?_
  refine z_ialdS hE rfl (by rw [hG.2]; omega) ?_
  rw [hG.1]
  refine z_callvI hE rfl rfl rfl rfl rfl (Nat.le_of_ble_eq_true rfl) (by decide) ⟨rfl, rfl⟩ ?_
  refine EE_mono d _ _ _ _ _ (fun v M2 ho hok2 => ?_) ho
  obtain ⟨r2, rfl, rfl, hI⟩ := ho
  refine ⟨r2, rfl, ?_⟩
  exact z_icmp_eq hE rfl ⟨fun _ => hK M2 hok2 hI, fun q => absurd rfl q⟩
theorem lw_25 {g : Gx} {d : Nat} {Q : Ql} {M : Mm} {i k : Int} {F : Int → Int} {n : Int} (hF : M 200 = F ∧ M 201 0 = n) (hg : ∀ M1 : Mm, okM g M1 → M1 200 = F ∧ M1 201 0 = n) (hi : 0 ≤ i ∧ i + 6 < n ∧ n ≤ 100000) (ho : opI k d 25 133 [] M) (hK : ∀ M2 : Mm, okM g M2 → Inv (k + 1) M2 → GoG true (gE g d) cd_L Q 1325 [vT 100, vR 0, vR 76, vI i] [] M2) : GoG true (gE g d) cd_L Q 1081 [vT 100, vR 0, vR 76, vI i] [] M := by
  have hE := gE_mono g d
  refine z_aload hE rfl rfl rfl ?_
  refine z_callvI hE rfl rfl rfl rfl rfl (Nat.le_of_ble_eq_true rfl) (by decide) ⟨rfl, rfl⟩ ?_
  refine EE_mono d _ _ _ _ _ (fun v M1 ho hok => ?_) ho
  obtain ⟨r, rfl, ho⟩ := ho
  have hG := hg M1 hok
  refine ⟨r, rfl, ?_⟩
  refine z_aload hE rfl rfl rfl ?_
  refine z_callvI hE rfl rfl rfl rfl rfl (Nat.le_of_ble_eq_true rfl) (by decide) ⟨rfl, rfl⟩ ?_
  refine EE_mono d _ _ _ _ _ (fun v M2 ho hok2 => ?_) ho
  obtain ⟨r2, rfl, rfl, hI⟩ := ho
  refine ⟨r2, rfl, ?_⟩
  exact z_icmp_eq hE rfl ⟨fun _ => hK M2 hok2 hI, fun q => absurd rfl q⟩
theorem lw_26 {g : Gx} {d : Nat} {Q : Ql} {M : Mm} {i k : Int} {F : Int → Int} {n : Int} (hF : M 200 = F ∧ M 201 0 = n) (hg : ∀ M1 : Mm, okM g M1 → M1 200 = F ∧ M1 201 0 = n) (hi : 0 ≤ i ∧ i + 6 < n ∧ n ≤ 100000) (ho : opI k d 26 134 [vI (F (i + 1))] M) (hK : ∀ M2 : Mm, okM g M2 → Inv (k + 1) M2 → GoG true (gE g d) cd_L Q 1325 [vT 100, vR 0, vR 76, vI i] [] M2) : GoG true (gE g d) cd_L Q 1094 [vT 100, vR 0, vR 76, vI i] [] M := by
  have hE := gE_mono g d
  refine z_aload hE rfl rfl rfl ?_
  refine z_aload hE rfl rfl rfl ?_
  refine z_iload hE rfl rfl ?_
  refine z_iconst hE rfl ?_
  refine z_iadd hE rfl (by unfold inI; omega) ?_
  refine z_ialdS hE rfl (by rw [hF.2]; omega) ?_
  rw [hF.1]
  refine z_callvI hE rfl rfl rfl rfl rfl (Nat.le_of_ble_eq_true rfl) (by decide) ⟨rfl, rfl⟩ ?_
  refine EE_mono d _ _ _ _ _ (fun v M1 ho hok => ?_) ho
  obtain ⟨r, rfl, ho⟩ := ho
  have hG := hg M1 hok
  refine ⟨r, rfl, ?_⟩
  refine z_aload hE rfl rfl rfl ?_
  refine z_aload hE rfl rfl rfl ?_
  refine z_iload hE rfl rfl ?_
  refine z_iconst hE rfl ?_
  refine z_iadd hE rfl (by unfold inI; omega) ?_
  refine z_ialdS hE rfl (by rw [hG.2]; omega) ?_
  rw [hG.1]
  refine z_callvI hE rfl rfl rfl rfl rfl (Nat.le_of_ble_eq_true rfl) (by decide) ⟨rfl, rfl⟩ ?_
  refine EE_mono d _ _ _ _ _ (fun v M2 ho hok2 => ?_) ho
  obtain ⟨r2, rfl, rfl, hI⟩ := ho
  refine ⟨r2, rfl, ?_⟩
  exact z_icmp_eq hE rfl ⟨fun _ => hK M2 hok2 hI, fun q => absurd rfl q⟩
theorem lw_27 {g : Gx} {d : Nat} {Q : Ql} {M : Mm} {i k : Int} {F : Int → Int} {n : Int} (hF : M 200 = F ∧ M 201 0 = n) (hg : ∀ M1 : Mm, okM g M1 → M1 200 = F ∧ M1 201 0 = n) (hi : 0 ≤ i ∧ i + 6 < n ∧ n ≤ 100000) (ho : opI k d 27 135 [vL (jor (jshl (F (i + 1)) 32) (jand (F (i + 2)) 4294967295)), vI (F (i + 3)), vI (F (i + 4))] M) (hK : ∀ M2 : Mm, okM g M2 → Inv (k + 1) M2 → GoG true (gE g d) cd_L Q 1325 [vT 100, vR 0, vR 76, vI i] [] M2) : GoG true (gE g d) cd_L Q 1117 [vT 100, vR 0, vR 76, vI i] [] M := by
  have hE := gE_mono g d
  refine z_aload hE rfl rfl rfl ?_
  refine z_aload hE rfl rfl rfl ?_
  refine z_iload hE rfl rfl ?_
  refine z_iconst hE rfl ?_
  refine z_iadd hE rfl (by unfold inI; omega) ?_
  refine z_ialdS hE rfl (by rw [hF.2]; omega) ?_
  rw [hF.1]
  refine z_i2l hE rfl ?_
  refine z_iconst hE rfl ?_
  refine z_lshl hE rfl ?_
  refine z_aload hE rfl rfl rfl ?_
  refine z_iload hE rfl rfl ?_
  refine z_iconst hE rfl ?_
  refine z_iadd hE rfl (by unfold inI; omega) ?_
  refine z_ialdS hE rfl (by rw [hF.2]; omega) ?_
  rw [hF.1]
  refine z_i2l hE rfl ?_
  refine z_lconst hE rfl ?_
  refine z_land hE rfl ?_
  refine z_lor hE rfl ?_
  refine z_aload hE rfl rfl rfl ?_
  refine z_iload hE rfl rfl ?_
  refine z_iconst hE rfl ?_
  refine z_iadd hE rfl (by unfold inI; omega) ?_
  refine z_ialdS hE rfl (by rw [hF.2]; omega) ?_
  rw [hF.1]
  refine z_aload hE rfl rfl rfl ?_
  refine z_iload hE rfl rfl ?_
  refine z_iconst hE rfl ?_
  refine z_iadd hE rfl (by unfold inI; omega) ?_
  refine z_ialdS hE rfl (by rw [hF.2]; omega) ?_
  rw [hF.1]
  refine z_callvI hE rfl rfl rfl rfl rfl (Nat.le_of_ble_eq_true rfl) (by decide) ⟨rfl, rfl⟩ ?_
  refine EE_mono d _ _ _ _ _ (fun v M1 ho hok => ?_) ho
  obtain ⟨r, rfl, ho⟩ := ho
  have hG := hg M1 hok
  refine ⟨r, rfl, ?_⟩
  refine z_aload hE rfl rfl rfl ?_
  refine z_aload hE rfl rfl rfl ?_
  refine z_iload hE rfl rfl ?_
  refine z_iconst hE rfl ?_
  refine z_iadd hE rfl (by unfold inI; omega) ?_
  refine z_ialdS hE rfl (by rw [hG.2]; omega) ?_
  rw [hG.1]
  refine z_i2l hE rfl ?_
  refine z_iconst hE rfl ?_
  refine z_lshl hE rfl ?_
  refine z_aload hE rfl rfl rfl ?_
  refine z_iload hE rfl rfl ?_
  refine z_iconst hE rfl ?_
  refine z_iadd hE rfl (by unfold inI; omega) ?_
  refine z_ialdS hE rfl (by rw [hG.2]; omega) ?_
  rw [hG.1]
  refine z_i2l hE rfl ?_
  refine z_lconst hE rfl ?_
  refine z_land hE rfl ?_
  refine z_lor hE rfl ?_
  refine z_aload hE rfl rfl rfl ?_
  refine z_iload hE rfl rfl ?_
  refine z_iconst hE rfl ?_
  refine z_iadd hE rfl (by unfold inI; omega) ?_
  refine z_ialdS hE rfl (by rw [hG.2]; omega) ?_
  rw [hG.1]
  refine z_aload hE rfl rfl rfl ?_
  refine z_iload hE rfl rfl ?_
  refine z_iconst hE rfl ?_
  refine z_iadd hE rfl (by unfold inI; omega) ?_
  refine z_ialdS hE rfl (by rw [hG.2]; omega) ?_
  rw [hG.1]
  refine z_callvI hE rfl rfl rfl rfl rfl (Nat.le_of_ble_eq_true rfl) (by decide) ⟨rfl, rfl⟩ ?_
  refine EE_mono d _ _ _ _ _ (fun v M2 ho hok2 => ?_) ho
  obtain ⟨r2, rfl, rfl, hI⟩ := ho
  refine ⟨r2, rfl, ?_⟩
  exact z_icmp_eq hE rfl ⟨fun _ => hK M2 hok2 hI, fun q => absurd rfl q⟩
theorem lw_28 {g : Gx} {d : Nat} {Q : Ql} {M : Mm} {i k : Int} {F : Int → Int} {n : Int} (hF : M 200 = F ∧ M 201 0 = n) (hg : ∀ M1 : Mm, okM g M1 → M1 200 = F ∧ M1 201 0 = n) (hi : 0 ≤ i ∧ i + 6 < n ∧ n ≤ 100000) (ho : opI k d 28 136 [vI (F (i + 1))] M) (hK : ∀ M2 : Mm, okM g M2 → Inv (k + 1) M2 → GoG true (gE g d) cd_L Q 1325 [vT 100, vR 0, vR 76, vI i] [] M2) : GoG true (gE g d) cd_L Q 1190 [vT 100, vR 0, vR 76, vI i] [] M := by
  have hE := gE_mono g d
  refine z_aload hE rfl rfl rfl ?_
  refine z_aload hE rfl rfl rfl ?_
  refine z_iload hE rfl rfl ?_
  refine z_iconst hE rfl ?_
  refine z_iadd hE rfl (by unfold inI; omega) ?_
  refine z_ialdS hE rfl (by rw [hF.2]; omega) ?_
  rw [hF.1]
  refine z_callvI hE rfl rfl rfl rfl rfl (Nat.le_of_ble_eq_true rfl) (by decide) ⟨rfl, rfl⟩ ?_
  refine EE_mono d _ _ _ _ _ (fun v M1 ho hok => ?_) ho
  obtain ⟨r, rfl, ho⟩ := ho
  have hG := hg M1 hok
  refine ⟨r, rfl, ?_⟩
  refine z_aload hE rfl rfl rfl ?_
  refine z_aload hE rfl rfl rfl ?_
  refine z_iload hE rfl rfl ?_
  refine z_iconst hE rfl ?_
  refine z_iadd hE rfl (by unfold inI; omega) ?_
  refine z_ialdS hE rfl (by rw [hG.2]; omega) ?_
  rw [hG.1]
  refine z_callvI hE rfl rfl rfl rfl rfl (Nat.le_of_ble_eq_true rfl) (by decide) ⟨rfl, rfl⟩ ?_
  refine EE_mono d _ _ _ _ _ (fun v M2 ho hok2 => ?_) ho
  obtain ⟨r2, rfl, rfl, hI⟩ := ho
  refine ⟨r2, rfl, ?_⟩
  exact z_icmp_eq hE rfl ⟨fun _ => hK M2 hok2 hI, fun q => absurd rfl q⟩
theorem lw_29 {g : Gx} {d : Nat} {Q : Ql} {M : Mm} {i k : Int} {F : Int → Int} {n : Int} (hF : M 200 = F ∧ M 201 0 = n) (hg : ∀ M1 : Mm, okM g M1 → M1 200 = F ∧ M1 201 0 = n) (hi : 0 ≤ i ∧ i + 6 < n ∧ n ≤ 100000) (ho : opI k d 29 137 [vI (F (i + 1)), vI (F (i + 2)), vI (F (i + 3)), vI (F (i + 4)), vI (F (i + 5)), vI (F (i + 6))] M) (hK : ∀ M2 : Mm, okM g M2 → Inv (k + 1) M2 → GoG true (gE g d) cd_L Q 1325 [vT 100, vR 0, vR 76, vI i] [] M2) : GoG true (gE g d) cd_L Q 1213 [vT 100, vR 0, vR 76, vI i] [] M := by
  have hE := gE_mono g d
  refine z_aload hE rfl rfl rfl ?_
  refine z_aload hE rfl rfl rfl ?_
  refine z_iload hE rfl rfl ?_
  refine z_iconst hE rfl ?_
  refine z_iadd hE rfl (by unfold inI; omega) ?_
  refine z_ialdS hE rfl (by rw [hF.2]; omega) ?_
  rw [hF.1]
  refine z_aload hE rfl rfl rfl ?_
  refine z_iload hE rfl rfl ?_
  refine z_iconst hE rfl ?_
  refine z_iadd hE rfl (by unfold inI; omega) ?_
  refine z_ialdS hE rfl (by rw [hF.2]; omega) ?_
  rw [hF.1]
  refine z_aload hE rfl rfl rfl ?_
  refine z_iload hE rfl rfl ?_
  refine z_iconst hE rfl ?_
  refine z_iadd hE rfl (by unfold inI; omega) ?_
  refine z_ialdS hE rfl (by rw [hF.2]; omega) ?_
  rw [hF.1]
  refine z_aload hE rfl rfl rfl ?_
  refine z_iload hE rfl rfl ?_
  refine z_iconst hE rfl ?_
  refine z_iadd hE rfl (by unfold inI; omega) ?_
  refine z_ialdS hE rfl (by rw [hF.2]; omega) ?_
  rw [hF.1]
  refine z_aload hE rfl rfl rfl ?_
  refine z_iload hE rfl rfl ?_
  refine z_iconst hE rfl ?_
  refine z_iadd hE rfl (by unfold inI; omega) ?_
  refine z_ialdS hE rfl (by rw [hF.2]; omega) ?_
  rw [hF.1]
  refine z_aload hE rfl rfl rfl ?_
  refine z_iload hE rfl rfl ?_
  refine z_iconst hE rfl ?_
  refine z_iadd hE rfl (by unfold inI; omega) ?_
  refine z_ialdS hE rfl (by rw [hF.2]; omega) ?_
  rw [hF.1]
  refine z_callvI hE rfl rfl rfl rfl rfl (Nat.le_of_ble_eq_true rfl) (by decide) ⟨rfl, rfl⟩ ?_
  refine EE_mono d _ _ _ _ _ (fun v M1 ho hok => ?_) ho
  obtain ⟨r, rfl, ho⟩ := ho
  have hG := hg M1 hok
  refine ⟨r, rfl, ?_⟩
  refine z_aload hE rfl rfl rfl ?_
  refine z_aload hE rfl rfl rfl ?_
  refine z_iload hE rfl rfl ?_
  refine z_iconst hE rfl ?_
  refine z_iadd hE rfl (by unfold inI; omega) ?_
  refine z_ialdS hE rfl (by rw [hG.2]; omega) ?_
  rw [hG.1]
  refine z_aload hE rfl rfl rfl ?_
  refine z_iload hE rfl rfl ?_
  refine z_iconst hE rfl ?_
  refine z_iadd hE rfl (by unfold inI; omega) ?_
  refine z_ialdS hE rfl (by rw [hG.2]; omega) ?_
  rw [hG.1]
  refine z_aload hE rfl rfl rfl ?_
  refine z_iload hE rfl rfl ?_
  refine z_iconst hE rfl ?_
  refine z_iadd hE rfl (by unfold inI; omega) ?_
  refine z_ialdS hE rfl (by rw [hG.2]; omega) ?_
  rw [hG.1]
  refine z_aload hE rfl rfl rfl ?_
  refine z_iload hE rfl rfl ?_
  refine z_iconst hE rfl ?_
  refine z_iadd hE rfl (by unfold inI; omega) ?_
  refine z_ialdS hE rfl (by rw [hG.2]; omega) ?_
  rw [hG.1]
  refine z_aload hE rfl rfl rfl ?_
  refine z_iload hE rfl rfl ?_
  refine z_iconst hE rfl ?_
  refine z_iadd hE rfl (by unfold inI; omega) ?_
  refine z_ialdS hE rfl (by rw [hG.2]; omega) ?_
  rw [hG.1]
  refine z_aload hE rfl rfl rfl ?_
  refine z_iload hE rfl rfl ?_
  refine z_iconst hE rfl ?_
  refine z_iadd hE rfl (by unfold inI; omega) ?_
  refine z_ialdS hE rfl (by rw [hG.2]; omega) ?_
  rw [hG.1]
  refine z_callvI hE rfl rfl rfl rfl rfl (Nat.le_of_ble_eq_true rfl) (by decide) ⟨rfl, rfl⟩ ?_
  refine EE_mono d _ _ _ _ _ (fun v M2 ho hok2 => ?_) ho
  obtain ⟨r2, rfl, rfl, hI⟩ := ho
  refine ⟨r2, rfl, ?_⟩
  exact z_icmp_eq hE rfl ⟨fun _ => hK M2 hok2 hI, fun q => absurd rfl q⟩
theorem lw_30 {g : Gx} {d : Nat} {Q : Ql} {M : Mm} {i k : Int} {F : Int → Int} {n : Int} (hF : M 200 = F ∧ M 201 0 = n) (hg : ∀ M1 : Mm, okM g M1 → M1 200 = F ∧ M1 201 0 = n) (hi : 0 ≤ i ∧ i + 6 < n ∧ n ≤ 100000) (ho : opI k d 30 138 [vI (F (i + 1))] M) (hK : ∀ M2 : Mm, okM g M2 → Inv (k + 1) M2 → GoG true (gE g d) cd_L Q 1325 [vT 100, vR 0, vR 76, vI i] [] M2) : GoG true (gE g d) cd_L Q 1288 [vT 100, vR 0, vR 76, vI i] [] M := by
  have hE := gE_mono g d
  refine z_aload hE rfl rfl rfl ?_
  refine z_aload hE rfl rfl rfl ?_
  refine z_iload hE rfl rfl ?_
  refine z_iconst hE rfl ?_
  refine z_iadd hE rfl (by unfold inI; omega) ?_
  refine z_ialdS hE rfl (by rw [hF.2]; omega) ?_
  rw [hF.1]
  refine z_callvI hE rfl rfl rfl rfl rfl (Nat.le_of_ble_eq_true rfl) (by decide) ⟨rfl, rfl⟩ ?_
  refine EE_mono d _ _ _ _ _ (fun v M1 ho hok => ?_) ho
  obtain ⟨r, rfl, ho⟩ := ho
  have hG := hg M1 hok
  refine ⟨r, rfl, ?_⟩
  refine z_aload hE rfl rfl rfl ?_
  refine z_aload hE rfl rfl rfl ?_
  refine z_iload hE rfl rfl ?_
  refine z_iconst hE rfl ?_
  refine z_iadd hE rfl (by unfold inI; omega) ?_
  refine z_ialdS hE rfl (by rw [hG.2]; omega) ?_
  rw [hG.1]
  refine z_callvI hE rfl rfl rfl rfl rfl (Nat.le_of_ble_eq_true rfl) (by decide) ⟨rfl, rfl⟩ ?_
  refine EE_mono d _ _ _ _ _ (fun v M2 ho hok2 => ?_) ho
  obtain ⟨r2, rfl, rfl, hI⟩ := ho
  refine ⟨r2, rfl, ?_⟩
  exact z_icmp_eq hE rfl ⟨fun _ => hK M2 hok2 hI, fun q => absurd rfl q⟩
theorem lw_31 {g : Gx} {d : Nat} {Q : Ql} {M : Mm} {i k : Int} {F : Int → Int} {n : Int} (hF : M 200 = F ∧ M 201 0 = n) (hg : ∀ M1 : Mm, okM g M1 → M1 200 = F ∧ M1 201 0 = n) (hi : 0 ≤ i ∧ i + 6 < n ∧ n ≤ 100000) (ho : opL k d 31 139 [] M) (hK : ∀ M2 : Mm, okM g M2 → Inv (k + 1) M2 → GoG true (gE g d) cd_L Q 1325 [vT 100, vR 0, vR 76, vI i] [] M2) : GoG true (gE g d) cd_L Q 1311 [vT 100, vR 0, vR 76, vI i] [] M := by
  have hE := gE_mono g d
  refine z_aload hE rfl rfl rfl ?_
  refine z_callvL hE rfl rfl rfl rfl rfl (Nat.le_of_ble_eq_true rfl) (by decide) ⟨rfl, rfl⟩ ?_
  refine EE_mono d _ _ _ _ _ (fun v M1 ho hok => ?_) ho
  obtain ⟨r, rfl, ho⟩ := ho
  have hG := hg M1 hok
  refine ⟨r, rfl, ?_⟩
  refine z_aload hE rfl rfl rfl ?_
  refine z_callvL hE rfl rfl rfl rfl rfl (Nat.le_of_ble_eq_true rfl) (by decide) ⟨rfl, rfl⟩ ?_
  refine EE_mono d _ _ _ _ _ (fun v M2 ho hok2 => ?_) ho
  obtain ⟨r2, rfl, rfl, hI⟩ := ho
  refine ⟨r2, rfl, ?_⟩
  refine z_lcmp hE rfl ?_
  exact z_if_eq hE rfl ⟨fun _ => hK M2 hok2 hI, fun q => absurd (jcmp_rf _) q⟩
