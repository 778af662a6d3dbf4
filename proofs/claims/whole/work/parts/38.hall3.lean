/-! the houses' choice: the reference's side -/
theorem loopN_s {α : Type} {f : Nat → α → α} : ∀ (k i : Nat) (a : α), loopN f i (k + 1) a = f (i + k) (loopN f i k a)
  | 0, i, a => rfl
  | k + 1, i, a => by
    show loopN f (i + 1) (k + 1) (f i a) = f (i + (k + 1)) (loopN f (i + 1) k (f i a))
    rw [loopN_s k (i + 1) (f i a)]
    congr 1
    omega
theorem fold_hall {tn bt : Int → Int} {p : Int} {f : Int → Int → Int} {b : Int} : ∀ k : Nat, (hallN tn bt p k).foldl f b = loopN (fun c b => if vil tn bt c = p then f b c else b) 0 k b
  | 0 => rfl
  | k + 1 => by
    rw [hallN_s, List.foldl_append, fold_hall k, loopN_s, Nat.zero_add]
    by_cases h : vil tn bt k = p
    · rw [if_pos h, if_pos h]; rfl
    · rw [if_neg h, if_neg h]; rfl
theorem knn_c {kn : Int → Int} {a b : Int} : knn kn a b = knn kn b a := by
  unfold knn
  by_cases h : kn a = kn b
  · rw [h]
  · rw [decide_eq_false h, decide_eq_false (p := kn b = kn a) (fun e => h e.symm), Bool.and_false, Bool.and_false]
/-- who is chosen is in the hall -/
def WI (tn bt : Int → Int) (p n : Int) (W : Int → Int) : Prop := ∀ x, 0 ≤ x → x < n → ¬ W x = -9 → vil tn bt x = p
theorem any_ex {tn bt kn W : Int → Int} {p n h c : Int} (hW : WI tn bt p n W) (hh : ¬ h = -9) (hn : 0 ≤ n) : (hallN tn bt p n.toNat).any (fun x => decide (W x = h) && knn kn c x) = true ↔ ∃ x : Nat, (x : Int) < n ∧ (decide (W x = h) && knn kn x c) = true := by
  rw [List.any_eq_true]
  constructor
  · rintro ⟨x, hx, h2⟩
    have := (hallN_b n.toNat).2.1 x hx
    refine ⟨x.toNat, by omega, ?_⟩
    rw [show ((x.toNat : Nat) : Int) = x by omega, knn_c]
    exact h2
  · rintro ⟨x, hx, h2⟩
    refine ⟨x, hallN_in (by omega) (by omega) (hW x (by omega) hx ?_), by rw [knn_c]; exact h2⟩
    rw [Bool.and_eq_true] at h2
    have := of_decide_eq_true h2.1
    omega
theorem c_152 {d : Nat} {P : Int → Mm → Prop} {M : Mm} {a b : Int} (ha : 0 ≤ a ∧ a < 48) (hb : 0 ≤ b ∧ b < 48) (h1 : knn (M 79) a b = true → P 1 M) (h0 : knn (M 79) a b = false → P 0 M) : EE (d + 1) 152 [vR 76, vI a, vI b] M (rI P) := by
  unfold knn at h1 h0
  refine sg_152 ⟨ha, fun z => h0 ?_, fun z => ⟨ha, hb, fun z2 => h0 ?_, fun z2 => h1 ?_⟩⟩
  · rw [decide_eq_false (by omega), Bool.false_and]
  · rw [decide_eq_false z2, Bool.and_false]
  · rw [decide_eq_true z2, decide_eq_true z]; rfl
theorem lp_151 {d : Nat} {P : Int → Mm → Prop} {M : Mm} {W : Int → Int} {h c : Int} (hn : 0 ≤ M 76 2 ∧ M 76 2 ≤ 48) (hc : 0 ≤ c ∧ c < 48) (hW : ag (M 90) W) (h1 : (∃ x : Nat, (x : Int) < M 76 2 ∧ (decide (W x = h) && knn (M 79) x c) = true) → P 1 M) (h0 : (∀ x : Nat, (x : Int) < M 76 2 → (decide (W x = h) && knn (M 79) x c) = false) → P 0 M) : ∀ (k i : Nat) {a : Int}, (k : Int) = M 76 2 - i → (a = 1 ∧ (∃ x : Nat, (x : Int) < M 76 2 ∧ (decide (W x = h) && knn (M 79) x c) = true) ∨ a = 0 ∧ ∀ x : Nat, x < i → (decide (W x = h) && knn (M 79) x c) = false) → H_151_5 (d + 1) P h c a i M
  | 0, i, a, hk, ha => by
    refine sg_151_5 ⟨fun _ => ?_, fun z => by omega⟩
    rcases ha with ⟨rfl, ha⟩ | ⟨rfl, ha⟩
    · exact ⟨Or.inr rfl, h1 ha⟩
    · exact ⟨Or.inl rfl, h0 (fun x hx => ha x (by omega))⟩
  | k + 1, i, a, hk, ha => by
    have ih := fun {a : Int} => lp_151 (d := d) hn hc hW h1 h0 k (i + 1) (a := a) (by omega)
    rw [show ((i + 1 : Nat) : Int) = (i : Int) + 1 by omega] at ih
    have e00 : zor 0 0 = 0 := by decide
    have e10 : zor 1 0 = 1 := by decide
    have e01 : zor 0 1 = 1 := by decide
    have e11 : zor 1 1 = 1 := by decide
    have no : (decide (W i = h) && knn (M 79) i c) = false → H_151_5 (d + 1) P h c (zor a 0) ((i : Int) + 1) M := by
      intro z
      rcases ha with ⟨rfl, ha⟩ | ⟨rfl, ha⟩
      · rw [e10]; exact ih (Or.inl ⟨rfl, ha⟩)
      · rw [e00]
        refine ih (Or.inr ⟨rfl, fun x hx => ?_⟩)
        by_cases e : x = i
        · subst e; exact z
        · exact ha x (by omega)
    have yes : (decide (W i = h) && knn (M 79) i c) = true → H_151_5 (d + 1) P h c (zor a 1) ((i : Int) + 1) M := by
      intro z
      have e : zor a 1 = 1 := by rcases ha with ⟨rfl, ha⟩ | ⟨rfl, ha⟩ <;> assumption
      rw [e]
      exact ih (Or.inl ⟨rfl, i, by omega, z⟩)
    refine sg_151_5 ⟨fun z => by omega, fun _ => ?_⟩
    rw [hW i (by omega) (by omega)]
    refine ⟨by omega, fun z => ⟨by unfold inI; omega, no ?_⟩, fun z => c_152 (by omega) hc (fun y => t1 ⟨by unfold inI; omega, yes ?_⟩) (fun y => t0 ⟨by unfold inI; omega, no ?_⟩)⟩
    · rw [decide_eq_false z, Bool.false_and]
    · rw [decide_eq_true z, y]; rfl
    · rw [y, Bool.and_false]
theorem c_151 {d : Nat} {P : Int → Mm → Prop} {M : Mm} {W bt : Int → Int} {p h c : Int} (hC : IC M) (hc : 0 ≤ c ∧ c < 48) (hh : ¬ h = -9) (hW : ag (M 90) W) (hI : WI (M 84) bt p (M 1 6) W) (h1 : (hallN (M 84) bt p (M 1 6).toNat).any (fun x => decide (W x = h) && knn (M 4) c x) = true → P 1 M) (h0 : (hallN (M 84) bt p (M 1 6).toNat).any (fun x => decide (W x = h) && knn (M 4) c x) = false → P 0 M) : EE (d + 2) 151 [vR 76, vI h, vI c] M (rI P) := by
  have h48 := hC.1
  have h2 := hC.2.1
  have e79 := hC.2.2.1.2.2.1
  have key := any_ex (kn := M 4) (c := c) hI hh h48.1
  refine sg_151 (lp_151 (W := W) (by omega) hc hW (fun z => h1 ?_) (fun z => h0 ?_) (M 76 2).toNat 0 (by omega) (Or.inr ⟨rfl, fun x hx => by omega⟩))
  · rw [h2, e79] at z
    exact key.mpr z
  · rw [h2, e79] at z
    cases hq : (hallN (M 84) bt p (M 1 6).toNat).any (fun x => decide (W x = h) && knn (M 4) c x) with
    | false => rfl
    | true =>
      obtain ⟨x, hx, hx2⟩ := key.mp hq
      rw [z x hx] at hx2
      cases hx2
theorem c_150 {d : Nat} {P : Int → Mm → Prop} {M : Mm} {W bt : Int → Int} {p h c b : Int} (hC : IC M) (hh : 0 ≤ h ∧ h < 24) (hw : 0 ≤ M 89 (5 * h + 4) ∧ M 89 (5 * h + 4) ≤ 3) (hc : 0 ≤ c ∧ c < 48) (hb : 0 ≤ b ∧ b < 48) (hW : ag (M 90) W) (hI : WI (M 84) bt p (M 1 6) W) (h1 : rkI (M 3) (M 4) W (hallN (M 84) bt p (M 1 6).toNat) (M 89 (5 * h + 4)) h b < rkI (M 3) (M 4) W (hallN (M 84) bt p (M 1 6).toNat) (M 89 (5 * h + 4)) h c → P 1 M) (h0 : ¬ rkI (M 3) (M 4) W (hallN (M 84) bt p (M 1 6).toNat) (M 89 (5 * h + 4)) h b < rkI (M 3) (M 4) W (hallN (M 84) bt p (M 1 6).toNat) (M 89 (5 * h + 4)) h c → P 0 M) : EE (d + 3) 150 [vR 76, vI h, vI c, vI b] M (rI P) := by
  have e78 := hC.2.2.1.2.1
  unfold rkI at h1 h0
  refine sg_150 ⟨by unfold inI; omega, by unfold inI; omega, by omega, fun z0 => ⟨fun z1 => ⟨fun z3 => ?_, fun z3 => ?_⟩, fun z1 => ⟨hc, hb, fun z => ?_, fun z => ?_⟩⟩, fun z0 => ⟨hc, hb, fun z => ?_, fun z => ?_⟩⟩
  · rw [if_neg z0, if_neg z1, if_neg z3, if_neg z0, if_neg z1, if_neg z3] at h0
    exact h0 (by omega)
  · rw [if_neg z0, if_neg z1, if_pos z3, if_neg z0, if_neg z1, if_pos z3] at h0 h1
    refine c_151 hC hc (by omega) hW hI (fun y => t1 (c_151 hC hb (by omega) hW hI (fun y2 => t1' (h0 ?_)) (fun y2 => t0' (h1 ?_)))) (fun y => t0 (h0 ?_))
    · rw [if_pos y2]; split <;> omega
    · rw [if_neg (by rw [y2]; decide), if_pos y]; omega
    · rw [y, if_neg (show ¬ (false = true) by decide)]; split <;> omega
  · rw [if_neg z0, if_pos z1, if_neg z0, if_pos z1] at h0
    rw [e78] at z
    exact h0 (by omega)
  · rw [if_neg z0, if_pos z1, if_neg z0, if_pos z1] at h1
    rw [e78] at z
    exact h1 (by omega)
  · rw [if_pos z0, if_pos z0] at h0
    rw [e78] at z
    exact h0 (by omega)
  · rw [if_pos z0, if_pos z0] at h1
    rw [e78] at z
    exact h1 (by omega)
theorem WI_stp {M : Mm} {bt W : Int → Int} {p h : Int} (hI : WI (M 84) bt p (M 1 6) W) : WI (M 84) bt p (M 1 6) (stp M (hallN (M 84) bt p (M 1 6).toNat) h W) := by
  intro x x0 x1
  unfold stp
  by_cases e : fav M (hallN (M 84) bt p (M 1 6).toNat) W h = -9
  · rw [if_pos e]; exact hI x x0 x1
  · rw [if_neg e]
    by_cases e2 : x = fav M (hallN (M 84) bt p (M 1 6).toNat) W h
    · intro _
      rcases fv_in (ok := okC (M 2) (M 3) (M 89) W h) (rk := rkI (M 3) (M 4) W (hallN (M 84) bt p (M 1 6).toNat) (M 89 (5 * h + 4)) h) (hallN (M 84) bt p (M 1 6).toNat) (-9) with g | g
      · exact absurd g e
      · rw [e2]
        exact ((hallN_b _).2.1 _ g).2
    · rw [fs_ne e2]; exact hI x x0 x1
theorem WI_iter {M : Mm} {bt : Int → Int} {p h : Int} : ∀ (k : Nat) {W : Int → Int}, WI (M 84) bt p (M 1 6) W → WI (M 84) bt p (M 1 6) (iterN (stp M (hallN (M 84) bt p (M 1 6).toNat) h) k W)
  | 0, W, hI => hI
  | k + 1, W, hI => WI_iter k (WI_stp hI)
theorem WI_chH {M : Mm} {bt W : Int → Int} {p : Int} {h : Nat} (hI : WI (M 84) bt p (M 1 6) W) : WI (M 84) bt p (M 1 6) (chH M (hallN (M 84) bt p (M 1 6).toNat) p h W) := by
  unfold chH
  split
  · exact WI_iter _ hI
  · exact hI
theorem lp_147_67 {d : Nat} {P : Mm → Prop} {M : Mm} {W bt : Int → Int} {p h a3 : Int} (hC : IC M) (hH : IH M) (hh : 0 ≤ h ∧ h < M 24 5) (ha : 0 ≤ a3 ∧ a3 < 4) (hB : ag (M 85) bt) (hr : ∀ c, bt c = -9 ∨ (0 ≤ bt c ∧ bt c < 6)) (hW : ag (M 90) W) (hI : WI (M 84) bt p (M 1 6) W) : ∀ (k i : Nat) {b : Int}, (k : Int) = M 1 6 - i → (b = -9 ∨ (0 ≤ b ∧ b < M 1 6)) → (∀ B, B = loopN (fun c b => if vil (M 84) bt c = p then fvS (okC (M 2) (M 3) (M 89) W h) (rkI (M 3) (M 4) W (hallN (M 84) bt p (M 1 6).toNat) (M 89 (5 * h + 4)) h) b c else b) i k b → (B = -9 ∨ (0 ≤ B ∧ B < M 1 6)) → ((B = -9 → H_147_34 (d + 3) P p h (a3 + 1) M) ∧ (¬ B = -9 → H_147_34 (d + 3) P p h (a3 + 1) (mset M 90 B h)))) → H_147_67 (d + 3) P p h a3 b i M
  | 0, i, b, hk, hb, hK => by
    have h48 := hC.1
    have h2 := hC.2.1
    have := hK b rfl hb
    refine sg_147_67 ⟨fun _ => ⟨fun z => ⟨by unfold inI; omega, this.1 z⟩, fun z => ⟨by omega, by unfold inI; omega, this.2 z⟩⟩, fun z => by omega⟩
  | k + 1, i, b, hk, hb, hK => by
    have h48 := hC.1
    have h2 := hC.2.1
    have h24 := hH.1
    have hi2 := hC.2.2.2 i (by omega) (by omega)
    have hw := (hH.2.2.2 h hh.1 hh.2).2.2.2.2
    rw [(hH.2.2.1 h).2.2.2.2] at hw
    obtain ⟨e77, e78, -, -⟩ := hC.2.2.1
    have ih := fun {b : Int} => lp_147_67 (d := d) (P := P) hC hH hh ha hB hr hW hI k (i + 1) (b := b) (by omega)
    rw [show ((i + 1 : Nat) : Int) = (i : Int) + 1 by omega] at ih
    have go : ∀ b', (b' = -9 ∨ (0 ≤ b' ∧ b' < M 1 6)) → b' = (if vil (M 84) bt i = p then fvS (okC (M 2) (M 3) (M 89) W h) (rkI (M 3) (M 4) W (hallN (M 84) bt p (M 1 6).toNat) (M 89 (5 * h + 4)) h) b i else b) → inI ((i : Int) + 1) ∧ H_147_67 (d + 3) P p h a3 b' ((i : Int) + 1) M := by
      intro b' hb' e
      refine ⟨by unfold inI; omega, ih hb' (fun B hB => hK B ?_)⟩
      rw [hB, e]; rfl
    refine sg_147_67 ⟨fun z => by omega, fun _ => ?_⟩
    refine c_144 (bt := bt) (by omega) (hB i (by omega) (by omega)) (hr i) ?_
    refine ⟨fun z => go b hb (by rw [if_neg z]), fun z => ?_⟩
    rw [if_pos z] at go
    rw [hW i (by omega) (by omega)]
    refine ⟨by omega, fun y => go b hb ?_, fun y => c_148 (by omega) (by omega) (by rw [e77]; exact hi2.1) (fun t => t1 ?_) (fun t => t0 (go b hb ?_))⟩
    · unfold fvS okC; rw [decide_eq_false y]; rfl
    · rw [e77, e78] at t
      have ok : okC (M 2) (M 3) (M 89) W h i = true := by
        unfold okC; rw [decide_eq_true y, t]; rfl
      unfold fvS at go
      rw [if_pos ok] at go
      refine ⟨fun q => go i (Or.inr (by omega)) (by rw [if_pos (Or.inl q)]), fun q => c_150 (bt := bt) (p := p) hC (by omega) hw (by omega) (by omega) hW hI (fun r => t1 (go i (Or.inr (by omega)) (by rw [if_pos (Or.inr r)]))) (fun r => t0 (go b hb (by rw [if_neg (fun o => o.elim q r)])))⟩
    · rw [e77, e78] at t
      unfold fvS okC; rw [t, Bool.and_false]; rfl
theorem lp_147_34 {d : Nat} {P : Mm → Prop} {M : Mm} {bt : Int → Int} {p h : Int} (hC : IC M) (hH : IH M) (hh : 0 ≤ h ∧ h < M 24 5) (hB : ag (M 85) bt) (hr : ∀ c, bt c = -9 ∨ (0 ≤ bt c ∧ bt c < 6)) (hp : M 89 (5 * h) = p) : ∀ (k i : Nat) {W f : Int → Int}, (k : Int) = M 89 (5 * h + 2) - i → ag f W → WI (M 84) bt p (M 1 6) W → (∀ f', ag f' (iterN (stp M (hallN (M 84) bt p (M 1 6).toNat) h) k W) → H_147_24 (d + 3) P p (h + 1) (rset M 90 f')) → H_147_34 (d + 3) P p h i (rset M 90 f)
  | 0, i, W, f, hk, hf, hI, hK => by
    have h24 := hH.1
    refine sg_147_34 ⟨by unfold inI; omega, by unfold inI; omega, by omega, fun _ => ⟨by unfold inI; omega, hK f hf⟩, fun y => ?_⟩
    have y : (i : Int) < M 89 (5 * h + 2) := y
    omega
  | k + 1, i, W, f, hk, hf, hI, hK => by
    have h24 := hH.1
    have h48 := hC.1
    have h27 := (hH.2.2.2 h hh.1 hh.2).2.2.1
    rw [(hH.2.2.1 h).2.2.1] at h27
    have ih := fun {f : Int → Int} => lp_147_34 (d := d) (P := P) hC hH hh hB hr hp k (i + 1) (W := stp M (hallN (M 84) bt p (M 1 6).toNat) h W) (f := f) (by omega)
    rw [show ((i + 1 : Nat) : Int) = (i : Int) + 1 by omega] at ih
    have hI2 := WI_stp (h := h) hI
    refine sg_147_34 ⟨by unfold inI; omega, by unfold inI; omega, by omega, fun y => ?_, fun y => ⟨by unfold inI; omega, by omega, fun z => absurd hp z, fun z => ?_⟩⟩
    · have y : M 89 (5 * h + 2) ≤ (i : Int) := y
      omega
    · refine lp_147_67 (M := rset M 90 f) (W := W) (bt := bt) hC hH hh (by omega) hB hr hf hI (M 1 6).toNat 0 (by show _ = M 1 6 - _; omega) (Or.inl rfl) (fun B hBe hBr => ?_)
      have e : B = fav M (hallN (M 84) bt p (M 1 6).toNat) W h := by
        rw [hBe]
        exact (fold_hall (M 1 6).toNat).symm
      refine ⟨fun q => ih ?_ hI2 hK, fun q => ?_⟩
      · rw [e] at q
        unfold stp; rw [if_pos q]; exact hf
      · rw [ms_same]
        refine ih ?_ hI2 hK
        rw [e] at q
        unfold stp; rw [if_neg q, e]; exact ag_set hf
theorem lp_147_24 {d : Nat} {P : Mm → Prop} {M : Mm} {bt : Int → Int} {p : Int} (hC : IC M) (hH : IH M) (hB : ag (M 85) bt) (hr : ∀ c, bt c = -9 ∨ (0 ≤ bt c ∧ bt c < 6)) : ∀ (k i : Nat) {W f : Int → Int}, (k : Int) = M 24 5 - i → ag f W → WI (M 84) bt p (M 1 6) W → (∀ f', ag f' (loopN (chH M (hallN (M 84) bt p (M 1 6).toNat) p) i k W) → P (rset M 90 f')) → H_147_24 (d + 3) P p i (rset M 90 f)
  | 0, i, W, f, hk, hf, hI, hK => by
    refine sg_147_24 ⟨fun _ => hK f hf, fun z => ?_⟩
    have z : (i : Int) < M 76 16 := z
    have := hH.2.1
    omega
  | k + 1, i, W, f, hk, hf, hI, hK => by
    have h24 := hH.1
    have h16 := hH.2.1
    have h27 := (hH.2.2.2 i (by omega) (by omega)).2.2.1
    rw [(hH.2.2.1 i).2.2.1] at h27
    have ih := fun {W f : Int → Int} => lp_147_24 (d := d) (P := P) (p := p) hC hH hB hr k (i + 1) (W := W) (f := f) (by omega)
    rw [show ((i + 1 : Nat) : Int) = (i : Int) + 1 by omega] at ih
    have hK2 : ∀ f', ag f' (loopN (chH M (hallN (M 84) bt p (M 1 6).toNat) p) (i + 1) k (chH M (hallN (M 84) bt p (M 1 6).toNat) p i W)) → P (rset M 90 f') := hK
    have hI2 := WI_chH (h := i) hI
    refine sg_147_24 ⟨fun z => ?_, fun _ => ?_⟩
    · have z : M 76 16 ≤ (i : Int) := z
      omega
    · by_cases hp : M 89 (5 * (i : Int)) = p
      · have e : chH M (hallN (M 84) bt p (M 1 6).toNat) p i W = iterN (stp M (hallN (M 84) bt p (M 1 6).toNat) i) (M 89 (5 * i + 2)).toNat W := if_pos hp
        rw [e] at hK2 hI2
        refine lp_147_34 hC hH (by omega) hB hr hp (M 89 (5 * i + 2)).toNat 0 (W := W) (by omega) hf hI (fun f' hf' => ih hf' hI2 hK2)
      · have e : chH M (hallN (M 84) bt p (M 1 6).toNat) p i W = W := if_neg hp
        rw [e] at hK2
        refine sg_147_34 ⟨by unfold inI; omega, by unfold inI; omega, by omega, fun _ => ⟨by unfold inI; omega, ih hf hI hK2⟩, fun _ => ⟨by unfold inI; omega, by omega, fun _ => ⟨by unfold inI; omega, ih hf hI hK2⟩, fun z => absurd z hp⟩⟩
theorem lp_147_2 {d : Nat} {P : Mm → Prop} {M : Mm} {p : Int} (hK : ∀ f, ag f (fun _ => -9) → H_147_24 d P p 0 (rset M 90 f)) : ∀ (k i : Nat) {f : Int → Int}, k + i = 48 → (∀ x, 0 ≤ x → x < (i : Int) → f x = -9) → H_147_2 d P p i (rset M 90 f)
  | 0, i, f, hk, hf => sg_147_2 ⟨fun _ => hK f (fun x x0 x1 => hf x x0 (by omega)), fun z => by omega⟩
  | k + 1, i, f, hk, hf => by
    refine sg_147_2 ⟨fun z => by omega, fun z => ⟨by omega, by unfold inI; omega, ?_⟩⟩
    rw [ms_same]
    have := lp_147_2 hK k (i + 1) (f := fset f i (-9)) (by omega) (fun x x0 x1 => by
      by_cases e : x = i
      · rw [ps_eq e]
      · rw [fs_ne e]; exact hf x x0 (by omega))
    rw [show ((i + 1 : Nat) : Int) = (i : Int) + 1 by omega] at this
    exact this
theorem c_147 {d : Nat} {P : Mm → Prop} {M : Mm} {bt : Int → Int} {p : Int} (hC : IC M) (hH : IH M) (hB : ag (M 85) bt) (hr : ∀ c, bt c = -9 ∨ (0 ≤ bt c ∧ bt c < 6)) (hK : ∀ f, ag f (chs M (hallN (M 84) bt p (M 1 6).toNat) p) → P (rset M 90 f)) : EE (d + 4) 147 [vR 76, vI p] M (rV P) := by
  have := lp_147_2 (d := d + 3) (P := P) (M := M) (p := p) (fun f hf => lp_147_24 hC hH hB hr (M 24 5).toNat 0 (W := fun _ => -9) (by have := hH.1; omega) hf (fun x _ _ q => absurd rfl q) hK) 48 0 (f := M 90) rfl (fun x x0 x1 => by omega)
  rw [rs_id] at this
  exact sg_147 this
