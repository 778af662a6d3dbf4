/-! paths: both sides' best is one, and the operation -/
theorem sub8 : ∀ s, s < 256 → ∀ a, a < 256 → a &&& s = a → (s ^^^ a) &&& a = 0 ∧ (s ^^^ a) ||| a = s := by
  decide +kernel
theorem any8 : ∀ a, a < 256 → ¬ a = 0 → (List.range 8).any (fun p => a.testBit p) = true := by
  decide +kernel
theorem mk8 : ∀ b0 b1 b2 b3 b4 b5 b6 b7 : Bool, (b0.toNat + 2 * b1.toNat + 4 * b2.toNat + 8 * b3.toNat + 16 * b4.toNat + 32 * b5.toNat + 64 * b6.toNat + 128 * b7.toNat) < 256 ∧ (List.range 8).map (fun p => (b0.toNat + 2 * b1.toNat + 4 * b2.toNat + 8 * b3.toNat + 16 * b4.toNat + 32 * b5.toNat + 64 * b6.toNat + 128 * b7.toNat).testBit p) = [b0, b1, b2, b3, b4, b5, b6, b7] := by
  decide +kernel
theorem mk8b (b : Nat → Bool) : ∃ z, z < 256 ∧ ∀ p, p < 8 → z.testBit p = b p := by
  have h := mk8 (b 0) (b 1) (b 2) (b 3) (b 4) (b 5) (b 6) (b 7)
  refine ⟨_, h.1, fun p hp => ?_⟩
  have h2 := congrArg (fun l : List Bool => l[p]?) h.2
  have e : (List.range 8).map (fun p => ((b 0).toNat + 2 * (b 1).toNat + 4 * (b 2).toNat + 8 * (b 3).toNat + 16 * (b 4).toNat + 32 * (b 5).toNat + 64 * (b 6).toNat + 128 * (b 7).toNat).testBit p) = (List.range 8).map b := h.2
  have e2 := List.map_inj_left.mp e p (List.mem_range.mpr hp)
  exact e2
theorem Fe_A {cap sz : Int → Int} {A : Nat → Nat} (hA : djA A) (hs : ∀ v : Nat, v < 6 → ¬ A v = 0 → sz (A v) ≤ cap v) : ∀ n : Nat, n ≤ 6 → Fe cap sz n (unA A n) (cnA A n)
  | 0, _ => ⟨rfl, rfl⟩
  | n + 1, hn => by
    have ih := Fe_A hA hs n (by omega)
    show Fe cap sz (n + 1) (unA A n ||| A n) (cnA A n + (if A n = 0 then 0 else 1))
    by_cases e : A n = 0
    · rw [if_pos e, e, Nat.or_zero]
      exact Or.inl ih
    · rw [if_neg e]
      have hu := unA_lt n (fun v hv => hA.1 v (by omega))
      have ha := hA.1 n (by omega)
      have hd : unA A n &&& A n = 0 := (unA_dj n).mpr (fun u hu => hA.2 u n (by omega) (by omega) (by omega))
      have h8 := dj8s _ hu _ ha hd
      have hlt : unA A n ||| A n < 256 := Nat.or_lt_two_pow (n := 8) hu ha
      refine Or.inr ⟨A n, (wlk_in hlt).mpr ⟨ha, e, h8.2.2⟩, hs n (by omega) e, cnA A n, rfl, ?_⟩
      rw [h8.2.1]; exact ih
theorem unA_0 {A : Nat → Nat} (h : ∀ v, A v = 0) : ∀ n : Nat, unA A n = 0 ∧ cnA A n = 0
  | 0 => ⟨rfl, rfl⟩
  | n + 1 => by
    have ih := unA_0 h n
    show unA A n ||| A n = 0 ∧ cnA A n + (if A n = 0 then 0 else 1) = 0
    rw [h n, ih.1, ih.2]
    exact ⟨rfl, rfl⟩
theorem djA_0 : djA (fun _ => 0) := ⟨fun _ _ => by show 0 < 256; omega, fun _ _ _ _ _ => Nat.zero_and 0⟩
theorem A_Fe {cap sz : Int → Int} : ∀ (n : Nat) {S m : Nat}, n ≤ 6 → S < 256 → Fe cap sz n S m → ∃ A : Nat → Nat, djA A ∧ (∀ v, n ≤ v → A v = 0) ∧ (∀ v : Nat, v < 6 → ¬ A v = 0 → sz (A v) ≤ cap v) ∧ unA A 6 = S ∧ cnA A 6 = m
  | 0, S, m, hn, hS, h => by
    have h2 : S = 0 ∧ m = 0 := h
    have z := unA_0 (A := fun _ => 0) (fun _ => rfl) 6
    exact ⟨fun _ => 0, djA_0, fun _ _ => rfl, fun _ _ y => absurd rfl y, by rw [h2.1]; exact z.1, by rw [h2.2]; exact z.2⟩
  | n + 1, S, m, hn, hS, h => by
    rcases h with h | ⟨a, ha, hs, m', e, h⟩
    · obtain ⟨A, h1, h2, h3, h4⟩ := A_Fe n (by omega) hS h
      exact ⟨A, h1, fun v hv => h2 v (by omega), h3, h4⟩
    · obtain ⟨a1, a2, a3⟩ := (wlk_in hS).mp ha
      have hlt := (wlk_lt hS ha).1
      obtain ⟨A, h1, h2, h3, h4, h5⟩ := A_Fe n (by omega) (by omega) h
      have h8 := sub8 S hS a a1 a3
      have h0 := h2 n (by omega)
      have hd : unA A 6 &&& a = 0 := by rw [h4]; exact h8.1
      have e1 := unA_up (a := a) h0 6
      have e3 := cnA_up h0 a2 6
      rw [if_pos (by omega)] at e1 e3
      refine ⟨upA A n a, djA_up h1 a1 (fun u hu _ => (unA_dj 6).mp hd u hu), fun v hv => ?_, fun v hv hne => ?_, by rw [e1, h4]; exact h8.2, by rw [e3, h5]; exact e.symm⟩
      · rw [upA_ne (by omega)]; exact h2 v (by omega)
      · by_cases ev : v = n
        · subst ev; rw [upA_eq]; exact hs
        · rw [upA_ne ev] at hne ⊢; exact h3 v hv hne
theorem unA_z {A : Nat → Nat} {z : Nat} : ∀ n : Nat, unA (fun v => A v &&& z) n = unA A n &&& z ∧ cnA (fun v => A v &&& z) n ≤ cnA A n
  | 0 => ⟨(Nat.zero_and z).symm, Nat.le_refl 0⟩
  | n + 1 => by
    have ih := unA_z (A := A) (z := z) n
    refine ⟨?_, ?_⟩
    · show unA (fun v => A v &&& z) n ||| (A n &&& z) = (unA A n ||| A n) &&& z
      rw [ih.1, Nat.and_or_distrib_right]
    · show cnA (fun v => A v &&& z) n + (if A n &&& z = 0 then 0 else 1) ≤ cnA A n + (if A n = 0 then 0 else 1)
      by_cases e : A n = 0
      · rw [e, Nat.zero_and, if_pos rfl]; exact ih.2
      · rw [if_neg e]
        have := ih.2
        split <;> omega
theorem and_z {x y z : Nat} (h : x &&& y = 0) : (x &&& z) &&& (y &&& z) = 0 := by
  have e : (x &&& z) &&& (y &&& z) = (x &&& y) &&& (z &&& z) := by ac_rfl
  rw [e, h, Nat.zero_and]
theorem stP_ge {tn : Int → Int} {v : Int} : ∀ (n : Nat) {t : Nat}, t < n → tn (5 * t + 4) = v → tn (5 * t + 2) ≤ stP tn v n
  | 0, t, h, _ => by omega
  | n + 1, t, h, e => by
    show _ ≤ if tn (5 * n + 4) = v then (if stP tn v n < tn (5 * n + 2) then tn (5 * n + 2) else stP tn v n) else stP tn v n
    by_cases et : t = n
    · subst et
      rw [if_pos e]
      split <;> omega
    · have ih := stP_ge (tn := tn) (v := v) n (t := t) (by omega) e
      split
      · split <;> omega
      · exact ih
theorem stP_ex {tn : Int → Int} {v : Int} : ∀ n : Nat, 0 < stP tn v n → ∃ t : Nat, t < n ∧ tn (5 * t + 4) = v ∧ tn (5 * t + 2) = stP tn v n
  | 0, h => by
    have h : (0 : Int) < 0 := h
    omega
  | n + 1, h => by
    have e : stP tn v (n + 1) = if tn (5 * n + 4) = v then (if stP tn v n < tn (5 * n + 2) then tn (5 * n + 2) else stP tn v n) else stP tn v n := rfl
    have old : 0 < stP tn v n → ∃ t : Nat, t < n + 1 ∧ tn (5 * t + 4) = v ∧ tn (5 * t + 2) = stP tn v n := by
      intro h
      obtain ⟨t, h1, h2⟩ := stP_ex n h
      exact ⟨t, by omega, h2⟩
    rw [e] at h ⊢
    by_cases e1 : tn (5 * n + 4) = v
    · rw [if_pos e1] at h ⊢
      by_cases e2 : stP tn v n < tn (5 * n + 2)
      · rw [if_pos e2] at h ⊢
        exact ⟨n, by omega, e1, rfl⟩
      · rw [if_neg e2] at h ⊢
        exact old h
    · rw [if_neg e1] at h ⊢
      exact old h
theorem ct_cp {M : Mm} (hP : IP M) {t : Nat} (ht : t < 6) : ctP M t ≤ cpP M (vlM M t : Nat) := by
  have hv := (hP.2.2.2.1 t (by omega) (by omega)).2.2.2.2
  have ev : M 84 (5 * t + 4) = ((vlM M t : Nat) : Int) := by unfold vlM; omega
  have h := stP_ge (tn := M 84) (v := (vlM M t : Nat)) 6 ht ev
  unfold ctP cpP
  rw [ev]
  split <;> split <;> omega
theorem cp_ct {M : Mm} (hP : IP M) {v : Nat} {x : Int} (hv : v < 6) (hx : 0 < x) (h : x ≤ cpP M v) : ∃ t, t < 6 ∧ vlM M t = v ∧ x ≤ ctP M t := by
  have h2 : x ≤ rmP (M 89) v (M 24 5).toNat ∧ x ≤ stP (M 84) v 6 := by
    unfold cpP at h
    split at h <;> omega
  obtain ⟨t, t1, t2, t3⟩ := stP_ex (tn := M 84) (v := v) 6 (by omega)
  refine ⟨t, t1, by unfold vlM; omega, ?_⟩
  unfold ctP
  rw [t2]
  split <;> omega
theorem szP_p {g : Int → Int} {n : Int} {a : Nat} (hn : 0 ≤ n) : 0 < szP g n a ↔ ∃ c : Int, 0 ≤ c ∧ c < n ∧ a.testBit (g c).toNat = true := by
  constructor
  · intro h
    obtain ⟨e, h1, h2, _⟩ := cn_ex (p := fun c => a.testBit (g c).toNat) (r := 0) (by omega) (n := n.toNat) h
    exact ⟨e, by omega, by omega, h2⟩
  · rintro ⟨c, c0, c1, h⟩
    have h1 := cn_lt (p := fun c => a.testBit (g c).toNat) (a := c.toNat) (b := n.toNat) (by omega) (by rw [show ((c.toNat : Nat) : Int) = c by omega]; exact h)
    have h2 := (cn_b (p := fun c => a.testBit (g c).toNat) c.toNat).1
    show 0 < cn _ _
    omega
theorem bs_of {M : Mm} (hC : IC M) (hP : IP M) (hg : ∀ c, 0 ≤ c → c < M 76 2 → 0 ≤ M 80 c ∧ M 80 c ≤ 7) {f s : Int → Int} {w c : Int} (hs : ∀ j : Nat, j < 256 → s j = szP (M 80) (M 76 2) j) (hJ : JJ (fun v => cpP M (v : Nat)) (szP (M 80) (M 76 2)) (nzP (M 80) (M 76 2)) (vlM M) (ctP M) 6 f) (hb : brP (szP (M 80) (M 76 2)) f 16384 w c) : bsP (cpP M) s 256 w c := by
  have hn : 0 ≤ M 76 2 := by have := hC.1; have := hC.2.1; omega
  obtain ⟨hB, hS, hT⟩ := hJ
  obtain ⟨⟨q, q1, q2, q3, q4⟩, hb2⟩ := hb
  constructor
  · obtain ⟨A, hA, h1, h2, h3⟩ := hS q q1 q2
    have hu := unA_lt 6 hA.1
    have e := (cdA_s (A := A) (v := 0) (by omega)).1
    rw [← h2] at e
    refine ⟨unA A 6, cnA A 6, hu, Fe_A hA (fun v hv hne => ?_) 6 (by omega), ?_, by omega⟩
    · rw [hs _ (hA.1 v hv)]; exact h1 v hv hne
    · rw [hs _ hu, ← e]; exact q3
  · intro S m hS2 hF
    obtain ⟨A, hA, _, h1, h2, h3⟩ := A_Fe 6 (by omega) hS2 hF
    obtain ⟨z, z1, z2⟩ := mk8b (fun p => decide (0 < szP (M 80) (M 76 2) (2 ^ p)))
    have hz : ∀ c : Int, 0 ≤ c → c < M 76 2 → z.testBit (M 80 c).toNat = true := by
      intro c c0 c1
      have := hg c c0 c1
      rw [z2 _ (by omega)]
      refine decide_eq_true ((szP_p hn).mpr ⟨c, c0, c1, ?_⟩)
      rw [(two8 (M 80 c).toNat (by omega) (M 80 c).toNat (by omega)).1]
      exact decide_eq_true rfl
    have szz : ∀ a : Nat, szP (M 80) (M 76 2) (a &&& z) = szP (M 80) (M 76 2) a := by
      intro a
      refine cn_congr (fun c c0 c1 => ?_)
      rw [Nat.testBit_and, hz c c0 (by omega), Bool.and_true]
    have lez : ∀ a : Nat, a < 256 → a &&& z < 256 := by
      intro a ha
      have := Nat.and_le_left (n := a) (m := z)
      omega
    have gd : gdT (vlM M) (ctP M) (szP (M 80) (M 76 2)) (nzP (M 80) (M 76 2)) 6 (fun v => A v &&& z) := by
      refine ⟨⟨fun v hv => lez _ (hA.1 v hv), fun u v hu hv hne => and_z (hA.2 u v hu hv hne)⟩, fun v hv hne => ?_⟩
      have hne : ¬ A v &&& z = 0 := hne
      have hav := hA.1 v hv
      have hpos : 0 < szP (M 80) (M 76 2) (A v &&& z) := by
        obtain ⟨p, p1, p2⟩ := List.any_eq_true.mp (any8 _ (lez _ hav) hne)
        have p1 := List.mem_range.mp p1
        have p3 : z.testBit p = true := by
          rw [Nat.testBit_and] at p2
          exact (Bool.and_eq_true_iff.mp p2).2
        rw [z2 p p1] at p3
        obtain ⟨c, c0, c1, c2⟩ := (szP_p hn).mp (of_decide_eq_true p3)
        have hgc := hg c c0 c1
        rw [(two8 p p1 (M 80 c).toNat (by omega)).1] at c2
        have c2 := of_decide_eq_true c2
        refine (szP_p hn).mpr ⟨c, c0, c1, ?_⟩
        rw [← c2]; exact p2
      refine ⟨⟨hpos, ?_⟩, ?_⟩
      · refine allB_iff.mpr (fun p hp => ?_)
        have e := z2 p hp
        show (!(A v &&& z).testBit p || decide (0 < szP (M 80) (M 76 2) (2 ^ p))) = true
        rw [← e, Nat.testBit_and]
        cases (A v).testBit p <;> cases z.testBit p <;> rfl
      · have hne2 : ¬ A v = 0 := fun y => hne (by rw [y]; exact Nat.zero_and z)
        have hc := h1 v hv hne2
        rw [hs _ hav, ← szz] at hc
        exact cp_ct hP hv hpos hc
    have hle := hT _ gd
    have hcn := cnA_le (A := fun v => A v &&& z) 6
    have hz6 := unA_z (A := A) (z := z) 6
    have e := (cdA_s (A := fun v => A v &&& z) (v := 0) (by omega)).1
    have fin := hb2 (cdA (fun v => A v &&& z)) (cdA_lt gd.1) (by omega)
    rw [e, hz6.1, szz, h2, ← hs S hS2] at fin
    have := hz6.2
    omega
theorem op_paths {k : Int} {d : Nat} {M : Mm} {a1 : Int} (hI : Inv k M) : opI k (d + 4) 28 136 [vI a1] M := by
  obtain ⟨hC, hN, hD, hP, hB, hH, hL, hO, hY, hE, hT⟩ := hI
  have hn := hC.1
  refine sg_28 (c_32 (fun q => t1' (c_90 hC hP hH (fun s f w c hs hb => ?_))) (fun q => t0' ?_))
  · have hn2 : 0 ≤ M 76 2 ∧ M 76 2 ≤ 48 := by rw [hC.2.1]; exact hn
    have hg : ∀ c, 0 ≤ c → c < M 76 2 → 0 ≤ M 80 c ∧ M 80 c ≤ 7 := by
      intro c c0 c1
      rw [hC.2.2.1.2.2.2]
      exact (hC.2.2.2 c c0 (by rw [← hC.2.1]; exact c1)).2.2.2
    rw [← hC.2.2.1.2.2.2, ← hC.2.1] at hs
    have ref : ∀ r : Int, (¬ a1 = 0 → r = c) → (a1 = 0 → r = w) → EE (d + 4) 136 [vR 76, vI a1] (mset (mset (rset (rset M 48 s) 49 f) 47 2 w) 47 3 c) (rI fun r2 M2 => r2 = r ∧ Inv (k + 1) M2) := by
      intro r r1 r0
      refine sg_136 (c_140 (fun _ => t1' ?_) (fun y => absurd q y))
      have key := lp_136_18 (d := d + 3) (P := fun r2 M2 => r2 = r ∧ Inv (k + 1) M2) (M := mset (mset (mset (rset (rset M 48 s) 49 f) 47 2 w) 47 3 c) 76 0 0) (a1 := a1) ?_ 16384 0 (f := M 108) rfl (fun q hq => by omega)
      · rw [show M 108 = (mset (mset (mset (rset (rset M 48 s) 49 f) 47 2 w) 47 3 c) 76 0 0) 108 from rfl, rs_id] at key
        exact key
      · intro f2 hf2
        refine lp_136_49 (d := d + 1) (M := mset (mset (mset (rset (rset M 48 s) 49 f) 47 2 w) 47 3 c) 76 0 0) (cap := fun v => cpP M (v : Nat)) hP hH (fun t ht => ct_cp hP ht) hn2 hg (fun f3 hJ => ?_) 6 0 rfl ?_
        · have f0 : f3 0 = 0 := by
            have z := unA_0 (A := fun _ => 0) (fun _ => rfl) 6
            have h1 := hJ.2.2 (fun _ => 0) ⟨djA_0, fun _ _ y => absurd rfl y⟩
            have e : cdA (fun _ => 0) = 0 := rfl
            rw [e, z.2] at h1
            have h2 := (hJ.1 0 (by omega)).1
            exact Int.le_antisymm h1 h2
          have fin : ∀ w2 c2 : Int, brP (szP (M 80) (M 76 2)) f3 16384 w2 c2 → (¬ a1 = 0 → c2 = r ∧ Inv (k + 1) (rset (mset (mset (mset (rset (rset M 48 s) 49 f) 47 2 w) 47 3 c) 76 0 0) 108 f3)) ∧ (a1 = 0 → w2 = r ∧ Inv (k + 1) (rset (mset (mset (mset (rset (rset M 48 s) 49 f) 47 2 w) 47 3 c) 76 0 0) 108 f3)) := by
            intro w2 c2 hbr
            have hu := bsP_uniq hb (bs_of hC hP hg hs hJ hbr)
            exact ⟨fun y => ⟨by rw [r1 y]; exact hu.2.symm, hC, hN, hD, hP, hB, hH, hL, hO, hY, hE, hT.up⟩, fun y => ⟨by rw [r0 y]; exact hu.1.symm, hC, hN, hD, hP, hB, hH, hL, hO, hY, hE, hT.up⟩⟩
          have st := lp_136_325 (d := d + 2) (P := fun r2 M2 => r2 = r ∧ Inv (k + 1) M2) (M := rset (mset (mset (mset (rset (rset M 48 s) 49 f) 47 2 w) 47 3 c) 76 0 0) 108 f3) (a1 := a1) hn2 hg fin 16383 1 (w := 0) (c := 0) rfl ?_
          · refine sg_136_325 ⟨fun z => by omega, fun _ => ⟨by omega, fun z => ?_, fun _ => ⟨by omega, ?_⟩⟩⟩
            · have z : 1000000 ≤ f3 0 := z
              omega
            · refine c_171 (a := 0) (M := rset (mset (mset (mset (rset (rset M 48 s) 49 f) 47 2 w) 47 3 c) 76 0 0) 108 f3) (by omega) hn2 hg ?_
              rw [szP_0]
              refine ⟨fun y => by omega, fun _ => ⟨fun y => by omega, fun _ => ⟨by omega, fun _ => ⟨by unfold inI; omega, st⟩, fun y => ?_⟩⟩⟩
              have y : f3 0 < 0 := y
              omega
          · refine ⟨⟨0, by omega, ?_, szP_0, f0⟩, fun q hq _ => ?_⟩
            · show f3 0 < 1000000
              omega
            · have e : q = 0 := by omega
              subst e
              exact Or.inr ⟨szP_0, by show 0 ≤ f3 0; omega⟩
        · refine ⟨fun j hj => ?_, fun j hj hlt => ?_, fun A hA => ?_⟩
          · rw [hf2 j hj]
            split <;> omega
          · rw [hf2 j hj] at hlt ⊢
            by_cases e : j = 0
            · rw [if_pos e]
              have z := unA_0 (A := fun _ => 0) (fun _ => rfl) 6
              exact ⟨fun _ => 0, djA_0, fun _ _ y => absurd rfl y, e, by rw [z.2]; rfl⟩
            · rw [if_neg e] at hlt; omega
          · have hz : ∀ v, v < 6 → A v = 0 := by
              intro v hv
              by_cases y : A v = 0
              · exact y
              · obtain ⟨_, τ, t1, _⟩ := hA.2 v hv y
                omega
            have e0 : cdA A = 0 := by
              have e : cdA A = 64 * (0 ||| A 0 ||| A 1 ||| A 2 ||| A 3 ||| A 4 ||| A 5) + (0 + (if A 0 = 0 then 0 else 1) + (if A 1 = 0 then 0 else 2) + (if A 2 = 0 then 0 else 4) + (if A 3 = 0 then 0 else 8) + (if A 4 = 0 then 0 else 16) + (if A 5 = 0 then 0 else 32)) := rfl
              rw [e, hz 0 (by omega), hz 1 (by omega), hz 2 (by omega), hz 3 (by omega), hz 4 (by omega), hz 5 (by omega)]
              rfl
            rw [e0, hf2 0 (by omega), if_pos rfl]
            exact Int.natCast_nonneg _
    exact ⟨fun y => ref c (fun _ => rfl) (fun y2 => absurd y2 y), fun y => ref w (fun y2 => absurd y y2) (fun _ => rfl)⟩
  · exact sg_136 (c_140 (fun y => absurd y q) (fun _ => t0' ⟨rfl, hC, hN, hD, hP, hB, hH, hL, hO, hY, hE, hT.up⟩))
