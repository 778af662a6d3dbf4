/-! lodging: the class's notes -/
theorem mkM_congr {p q : Nat → Bool} : ∀ {n : Nat}, (∀ i, i < n → p i = q i) → mkM p n = mkM q n
  | 0, _ => rfl
  | n + 1, h => by
    have ih := mkM_congr (p := p) (q := q) (n := n) (fun i hi => h i (by omega))
    show mkM p n ||| _ = mkM q n ||| _
    rw [ih, h n (by omega)]
theorem mkM_or {p q : Nat → Bool} {n : Nat} : mkM p n ||| mkM q n = mkM (fun i => p i || q i) n := by
  refine Nat.eq_of_testBit_eq (fun i => ?_)
  rw [Nat.testBit_or, mkM_t, mkM_t, mkM_t]
  cases decide (i < n) <;> rfl
theorem mkM_12 {p : Nat → Bool} {n : Nat} (hn : n ≤ 12) : mkM p n < 4096 :=
  Nat.lt_of_lt_of_le (mkM_lt n) (Nat.pow_le_pow_right (n := 2) (j := 12) (by omega) hn)
def lW (M : Mm) (g a b c e f : Int → Int) : Mm := rset (rset (rset (rset (rset (rset M 33 g) 34 a) 35 b) 36 c) 37 e) 38 f
theorem lW_33 {M : Mm} {g a b c e f : Int → Int} {i x : Int} : mset (lW M g a b c e f) 33 i x = lW M (fset g i x) a b c e f := by
  unfold lW
  rw [ms_comm (by decide), ms_comm (by decide), ms_comm (by decide), ms_comm (by decide), ms_comm (by decide), ms_same]
theorem lW_34 {M : Mm} {g a b c e f : Int → Int} {i x : Int} : mset (lW M g a b c e f) 34 i x = lW M g (fset a i x) b c e f := by
  unfold lW
  rw [ms_comm (by decide), ms_comm (by decide), ms_comm (by decide), ms_comm (by decide), ms_same]
theorem lW_35 {M : Mm} {g a b c e f : Int → Int} {i x : Int} : mset (lW M g a b c e f) 35 i x = lW M g a (fset b i x) c e f := by
  unfold lW
  rw [ms_comm (by decide), ms_comm (by decide), ms_comm (by decide), ms_same]
theorem lW_36 {M : Mm} {g a b c e f : Int → Int} {i x : Int} : mset (lW M g a b c e f) 36 i x = lW M g a b (fset c i x) e f := by
  unfold lW
  rw [ms_comm (by decide), ms_comm (by decide), ms_same]
theorem lW_37 {M : Mm} {g a b c e f : Int → Int} {i x : Int} : mset (lW M g a b c e f) 37 i x = lW M g a b c (fset e i x) f := by
  unfold lW
  rw [ms_comm (by decide), ms_same]
theorem lW_r37 {M : Mm} {g a b c e f h : Int → Int} : rset (lW M g a b c e f) 37 h = lW M g a b c h f := by
  unfold lW
  rw [rs_comm (by decide), rs_rs]
theorem lW_r38 {M : Mm} {g a b c e f h : Int → Int} : rset (lW M g a b c e f) 38 h = lW M g a b c e h := by
  unfold lW
  rw [rs_rs]
theorem lW_id {M : Mm} : lW M (M 33) (M 34) (M 35) (M 36) (M 37) (M 38) = M := by
  funext k
  simp only [lW, rset]
  by_cases h8 : k = 38
  · rw [if_pos h8, h8]
  · rw [if_neg h8]
    by_cases h7 : k = 37
    · rw [if_pos h7, h7]
    · rw [if_neg h7]
      by_cases h6 : k = 36
      · rw [if_pos h6, h6]
      · rw [if_neg h6]
        by_cases h5 : k = 35
        · rw [if_pos h5, h5]
        · rw [if_neg h5]
          by_cases h4 : k = 34
          · rw [if_pos h4, h4]
          · rw [if_neg h4]
            by_cases h3 : k = 33
            · rw [if_pos h3, h3]
            · rw [if_neg h3]
/-- the members in the store: cm -/
def okMb (M : Mm) (cm : Nat → Int) (n : Nat) : Prop := n ≤ 12 ∧ ∀ i : Nat, i < n → M 31 i = cm i ∧ (0 ≤ cm i ∧ cm i < 48) ∧ (M 2 (cm i) = 0 ∨ M 2 (cm i) = 1) ∧ 0 ≤ M 4 (cm i)
def srI (M : Mm) (cm : Nat → Int) (i : Nat) : Nat := (srt (M 2) (M 3) (cm i)).toNat
theorem srI_b {M : Mm} {cm : Nat → Int} {n i : Nat} (h : okMb M cm n) (hi : i < n) : srt (M 2) (M 3) (cm i) = (srI M cm i : Nat) ∧ srI M cm i < 4 := by
  have hs := (h.2 i hi).2.2.1
  have hb : 0 ≤ srt (M 2) (M 3) (cm i) ∧ srt (M 2) (M 3) (cm i) < 4 := by
    unfold srt
    split <;> omega
  unfold srI
  omega
theorem lp_73_49 {d : Nat} {P : Mm → Prop} {M : Mm} {cm : Nat → Int} {n i : Nat} {g b c e f : Int → Int} (hM : okMb M cm n) (hc : injN cm n) (hg : g 5 = n) (hi : i < n) (hK : ∀ a : Int → Int, (∀ t : Nat, t < i + 1 → a t = (KL (M 4) cm n t : Nat)) → H_73_10 (d + 1) P ((i : Int) + 1) (lW M g a b c e f)) : ∀ (k j : Nat) {a : Int → Int}, k + j = n → (∀ t : Nat, t < i → a t = (KL (M 4) cm n t : Nat)) → a i = (mkM (fun t => decide (¬ t = i) && knn (M 4) (cm i) (cm t)) j : Nat) → H_73_49 (d + 1) P i j (lW M g a b c e f)
  | 0, j, a, hk, ha, hai => by
    have e1 : j = n := by omega
    subst e1
    have hn := hM.1
    refine sg_73_49 ⟨fun _ => ⟨by unfold inI; omega, hK a (fun t ht => ?_)⟩, fun z => ?_⟩
    · by_cases e2 : t = i
      · subst e2; exact hai
      · exact ha t (by omega)
    · have z : (j : Int) < g 5 := z
      omega
  | k + 1, j, a, hk, ha, hai => by
    have hn := hM.1
    have hj1 := hM.2 j (by omega)
    have hi1 := hM.2 i hi
    have ih : ∀ {a : Int → Int}, (∀ t : Nat, t < i → a t = (KL (M 4) cm n t : Nat)) → a i = (mkM (fun t => decide (¬ t = i) && knn (M 4) (cm i) (cm t)) (j + 1) : Nat) → H_73_49 (d + 1) P i ((j : Int) + 1) (lW M g a b c e f) := by
      intro a h1 h2
      have := lp_73_49 (d := d) hM hc hg hi hK k (j + 1) (a := a) (by omega) h1 h2
      rw [show ((j + 1 : Nat) : Int) = (j : Int) + 1 by omega] at this
      exact this
    have hI : inI ((j : Int) + 1) := by unfold inI; omega
    have no : (decide (¬ j = i) && knn (M 4) (cm i) (cm j)) = false → inI ((j : Int) + 1) ∧ H_73_49 (d + 1) P i ((j : Int) + 1) (lW M g a b c e f) := by
      intro y
      refine ⟨hI, ih ha ?_⟩
      show a i = ((mkM _ j ||| (if (decide (¬ j = i) && knn (M 4) (cm i) (cm j)) = true then 2 ^ j else 0) : Nat) : Int)
      rw [y, if_neg (by decide), Nat.or_zero]; exact hai
    refine sg_73_49 ⟨fun z => ?_, fun _ => ⟨by omega, by omega, ?_⟩⟩
    · have z : g 5 ≤ (j : Int) := z
      omega
    · show EE (d + 1) 52 [vR 1, vI (M 31 i), vI (M 31 j)] (lW M g a b c e f) _
      rw [hi1.1, hj1.1]
      by_cases eij : j = i
      · subst eij
        exact sg_52 ⟨fun _ => t0 (no (by rw [decide_eq_false (fun y => y rfl)]; rfl)), fun y => absurd rfl y⟩
      · refine c_52 (M := lW M g a b c e f) hi1.2.1 hj1.2.1 hi1.2.2.2 (fun y => eij (hc j i (by omega) hi y.symm)) (fun y => t1 ?_) (fun y => t0 (no ?_))
        · refine ⟨by omega, by omega, hI, ?_⟩
          have y : knn (M 4) (cm i) (cm j) = true := y
          rw [lW_34]
          refine ih (fun t ht => ?_) ?_
          · rw [fs_ne (by omega)]; exact ha t ht
          · rw [fs_eq]
            show zor (a i) (zshl 1 (j : Int)) = ((mkM _ j ||| (if (decide (¬ j = i) && knn (M 4) (cm i) (cm j)) = true then 2 ^ j else 0) : Nat) : Int)
            have hm := mkM_12 (p := fun t => decide (¬ t = i) && knn (M 4) (cm i) (cm t)) (n := j) (by omega)
            have h2 := (zshl_1 j (by omega))
            rw [hai, h2.1, zor_n (by omega) (by omega), y, decide_eq_true eij]; rfl
        · have y : knn (M 4) (cm i) (cm j) = false := y
          rw [y, Bool.and_false]
theorem lp_73_10 {d : Nat} {P : Mm → Prop} {M : Mm} {cm : Nat → Int} {n : Nat} {g b c f : Int → Int} (hM : okMb M cm n) (hc : injN cm n) (hg : g 5 = n) (hP : ∀ a e : Int → Int, (∀ t : Nat, t < n → a t = (KL (M 4) cm n t : Nat)) → (∀ s : Nat, s < 4 → e s = (mkM (fun t => decide (srI M cm t = s)) n : Nat)) → P (lW M g a b c e f)) : ∀ (k i : Nat) {a e : Int → Int}, k + i = n → (∀ t : Nat, t < i → a t = (KL (M 4) cm n t : Nat)) → (∀ s : Nat, s < 4 → e s = (mkM (fun t => decide (srI M cm t = s)) i : Nat)) → H_73_10 (d + 2) P i (lW M g a b c e f)
  | 0, i, a, e, hk, ha, he => by
    have e1 : i = n := by omega
    subst e1
    refine sg_73_10 ⟨fun _ => hP a e ha he, fun z => ?_⟩
    have z : (i : Int) < g 5 := z
    omega
  | k + 1, i, a, e, hk, ha, he => by
    have hn := hM.1
    have hi1 := hM.2 i (by omega)
    have hsr := srI_b hM (show i < n by omega)
    refine sg_73_10 ⟨fun z => ?_, fun _ => ⟨by omega, ?_⟩⟩
    · have z : g 5 ≤ (i : Int) := z
      omega
    · show EE (d + 2) 50 [vR 1, vI (M 31 i)] (lW M g a b c e f) _
      rw [hi1.1]
      refine c_50 (M := lW M g a b c e f) hi1.2.1 hi1.2.2.1 ?_
      show (0 ≤ srt (M 2) (M 3) (cm i) ∧ srt (M 2) (M 3) (cm i) < 4) ∧ (0 ≤ srt (M 2) (M 3) (cm i) ∧ srt (M 2) (M 3) (cm i) < 4) ∧ (0 ≤ (i : Int) ∧ (i : Int) < 12) ∧ H_73_49 (d + 2) P i 0 (mset (mset (lW M g a b c e f) 37 (srt (M 2) (M 3) (cm i)) (zor (e (srt (M 2) (M 3) (cm i))) (zshl 1 (i : Int)))) 34 i 0)
      rw [lW_37, lW_34, hsr.1]
      refine ⟨by omega, by omega, by omega, ?_⟩
      refine lp_73_49 (d := d + 1) hM hc hg (by omega) (fun a2 ha2 => ?_) n 0 rfl (fun t ht => ?_) fs_eq
      · have := lp_73_10 (d := d) hM hc hg hP k (i + 1) (a := a2) (e := fset e (srI M cm i : Nat) (zor (e (srI M cm i : Nat)) (zshl 1 (i : Int)))) (by omega) ha2 (fun s hs => ?_)
        · rw [show ((i + 1 : Nat) : Int) = (i : Int) + 1 by omega] at this
          exact this
        · show _ = ((mkM _ i ||| (if decide (srI M cm i = s) = true then 2 ^ i else 0) : Nat) : Int)
          by_cases e1 : srI M cm i = s
          · have hm := mkM_12 (p := fun t => decide (srI M cm t = s)) (n := i) (by omega)
            have h2 := zshl_1 i (by omega)
            rw [e1, fs_eq, he s hs, h2.1, zor_n (by omega) (by omega), decide_eq_true rfl]; rfl
          · rw [fs_ne (by omega), he s hs, decide_eq_false e1, if_neg (by decide), Nat.or_zero]
      · rw [fs_ne (by omega)]; exact ha t ht
theorem c_73 {d : Nat} {P : Mm → Prop} {M : Mm} {cm : Nat → Int} {n : Nat} {g a b c e f : Int → Int} (hM : okMb M cm n) (hc : injN cm n) (hg : g 5 = n) (hP : ∀ a e : Int → Int, (∀ t : Nat, t < n → a t = (KL (M 4) cm n t : Nat)) → (∀ s : Nat, s < 4 → e s = (mkM (fun t => decide (srI M cm t = s)) n : Nat)) → P (lW M g a b c e f)) : EE (d + 3) 73 [vR 33, vR 1, vR 30] (lW M g a b c e f) (rV P) := by
  refine sg_73 (c_173 shk_37 (by decide) ?_)
  rw [lW_r37]
  refine lp_73_10 hM hc hg hP n 0 rfl (fun t ht => by omega) (fun s hs => ?_)
  unfold ffl
  rw [if_pos (by omega)]; rfl
/-- those below k of whom q speaks -/
def flN (q : Int → Bool) (k : Nat) : List Int := ((List.range k).map (fun k : Nat => (k : Int))).filter q
theorem flN_s {q : Int → Bool} {k : Nat} : flN q (k + 1) = flN q k ++ (if q k = true then [(k : Int)] else []) := by
  unfold flN
  rw [List.range_succ, List.map_append, List.filter_append]
  congr 1
  show List.filter q [(k : Int)] = _
  by_cases h : q k = true
  · rw [if_pos h, List.filter_cons_of_pos h]; rfl
  · rw [if_neg h, List.filter_cons_of_neg h]; rfl
theorem flN_x {q : Int → Bool} {k : Nat} : ∀ j : Nat, ∃ r, flN q (k + j) = flN q k ++ r
  | 0 => ⟨[], (List.append_nil _).symm⟩
  | j + 1 => by
    obtain ⟨r, hr⟩ := flN_x (q := q) (k := k) j
    refine ⟨r ++ (if q (k + j : Nat) = true then [((k + j : Nat) : Int)] else []), ?_⟩
    rw [← Nat.add_assoc, flN_s, hr, List.append_assoc]
theorem flN_le {q : Int → Bool} {k n : Nat} (h : k ≤ n) : (flN q k).length ≤ (flN q n).length := by
  obtain ⟨r, hr⟩ := flN_x (q := q) (k := k) (n - k)
  rw [show k + (n - k) = n by omega] at hr
  rw [hr, List.length_append]; omega
theorem flN_eq {q : Int → Bool} {k n : Nat} (h : k ≤ n) (hl : (flN q n).length ≤ (flN q k).length) : flN q n = flN q k := by
  obtain ⟨r, hr⟩ := flN_x (q := q) (k := k) (n - k)
  rw [show k + (n - k) = n by omega] at hr
  rw [hr, List.length_append] at hl
  have : r = [] := List.length_eq_zero_iff.mp (by omega)
  rw [hr, this, List.append_nil]
theorem flN_in {q : Int → Bool} {k : Nat} {x : Int} : x ∈ flN q k ↔ (0 ≤ x ∧ x < (k : Int)) ∧ q x = true := by
  unfold flN
  rw [List.mem_filter, List.mem_map]
  constructor
  · rintro ⟨⟨i, i1, i2⟩, h⟩
    have := List.mem_range.mp i1
    exact ⟨by omega, h⟩
  · rintro ⟨h1, h2⟩
    exact ⟨⟨x.toNat, List.mem_range.mpr (by omega), by omega⟩, h2⟩
theorem tks_sr {M : Mm} {cm : Nat → Int} {n i : Nat} {h : Int} (hM : okMb M cm n) (hi : i < n) (hH : IH M) : tks (M 2) (M 3) (M 89) h (cm i) = decide (zand (zshr (M 28 h) (srI M cm i : Nat)) 1 = 1) := by
  unfold tks
  rw [(srI_b hM hi).1, (hH.2.2.1 h).2.2.2.1]
theorem lp_74_62 {d : Nat} {P : Mm → Prop} {M : Mm} {cm : Nat → Int} {n j : Nat} {h v : Int} {g a c e f : Int → Int} (hM : okMb M cm n) (hH : IH M) (hh : 0 ≤ h ∧ h < 24) (hj : j < 6) (hg : g 6 = j) (he : ∀ s : Nat, s < 4 → e s = (mkM (fun t => decide (srI M cm t = s)) n : Nat)) : ∀ (k s : Nat) {b : Int → Int}, k + s = 4 → b j = (mkM (fun t => decide (srI M cm t < s) && decide (zand (zshr (M 28 h) (srI M cm t : Nat)) 1 = 1)) n : Nat) → (∀ b2 : Int → Int, (∀ t : Nat, t < j → b2 t = b t) → b2 j = (mkM (fun t => tks (M 2) (M 3) (M 89) h (cm t)) n : Nat) → H_74_7 (d + 1) P v (h + 1) (lW M (fset g 6 ((j : Int) + 1)) a b2 c e f)) → H_74_62 (d + 1) P v h s (lW M g a b c e f)
  | 0, s, b, hk, hb, hG => by
    have es : s = 4 := by omega
    subst es
    refine sg_74_62 ⟨fun _ => ?_, fun z => by omega⟩
    show inI (g 6 + 1) ∧ inI (h + 1) ∧ H_74_7 (d + 1) P v (h + 1) (mset (lW M g a b c e f) 33 6 (g 6 + 1))
    rw [lW_33, hg]
    refine ⟨by unfold inI; omega, by unfold inI; omega, hG b (fun _ _ => rfl) ?_⟩
    rw [hb]
    congr 1
    refine mkM_congr (fun t ht => ?_)
    rw [tks_sr hM ht hH, decide_eq_true (srI_b hM ht).2]; rfl
  | k + 1, s, b, hk, hb, hG => by
    have hn := hM.1
    have ih : ∀ {b2 : Int → Int}, (∀ t : Nat, t < j → b2 t = b t) → b2 j = (mkM (fun t => decide (srI M cm t < s + 1) && decide (zand (zshr (M 28 h) (srI M cm t : Nat)) 1 = 1)) n : Nat) → H_74_62 (d + 1) P v h ((s : Int) + 1) (lW M g a b2 c e f) := by
      intro b2 h1 h2
      have := lp_74_62 (d := d) hM hH hh hj hg he k (s + 1) (b := b2) (by omega) h2 (fun b3 h3 h4 => hG b3 (fun t ht => (h3 t ht).trans (h1 t ht)) h4)
      rw [show ((s + 1 : Nat) : Int) = (s : Int) + 1 by omega] at this
      exact this
    have m1 := mkM_12 (p := fun t => decide (srI M cm t < s) && decide (zand (zshr (M 28 h) (srI M cm t : Nat)) 1 = 1)) hn
    have m2 := mkM_12 (p := fun t => decide (srI M cm t = s)) hn
    refine sg_74_62 ⟨fun z => by omega, fun _ => ?_⟩
    show (0 ≤ g 6 ∧ g 6 < 6) ∧ EE (d + 1) 69 [vR 24, vI h, vI s] (lW M g a b c e f) (rI fun r1 M1 => ((r1 = 0 → (0 ≤ g 6 ∧ g 6 < 6) ∧ inI ((s : Int) + 1) ∧ H_74_62 (d + 1) P v h ((s : Int) + 1) (mset M1 35 (g 6) (zor (b (g 6)) 0))) ∧ (¬ r1 = 0 → (0 ≤ (s : Int) ∧ (s : Int) < 4) ∧ (0 ≤ g 6 ∧ g 6 < 6) ∧ inI ((s : Int) + 1) ∧ H_74_62 (d + 1) P v h ((s : Int) + 1) (mset M1 35 (g 6) (zor (b (g 6)) (M1 37 s))))))
    rw [hg, hb]
    have hI : inI ((s : Int) + 1) := by unfold inI; omega
    refine ⟨by omega, c_69 (M := lW M g a b c e f) hh (fun y => t1 ⟨by omega, by omega, hI, ?_⟩) (fun y => t0 ⟨by omega, hI, ?_⟩)⟩
    · have y : zand (zshr (M 28 h) (s : Int)) 1 = 1 := y
      show H_74_62 (d + 1) P v h ((s : Int) + 1) (mset (lW M g a b c e f) 35 j (zor _ (e s)))
      rw [lW_35, he s (by omega), zor_n (by omega) (by omega), mkM_or]
      refine ih (fun t ht => fs_ne (by omega)) ?_
      rw [fs_eq]
      congr 1
      refine mkM_congr (fun t ht => ?_)
      by_cases e1 : srI M cm t = s
      · rw [e1, decide_eq_true y, decide_eq_true rfl, decide_eq_true (show s < s + 1 by omega), Bool.or_true]; rfl
      · rw [decide_eq_false e1, Bool.or_false]
        congr 1
        by_cases l : srI M cm t < s
        · rw [decide_eq_true l, decide_eq_true (by omega)]
        · rw [decide_eq_false l, decide_eq_false (by omega)]
    · have y : ¬ zand (zshr (M 28 h) (s : Int)) 1 = 1 := y
      have z0 : zor ((mkM (fun t => decide (srI M cm t < s) && decide (zand (zshr (M 28 h) (srI M cm t : Nat)) 1 = 1)) n : Nat) : Int) ((0 : Nat) : Int) = ((mkM (fun t => decide (srI M cm t < s) && decide (zand (zshr (M 28 h) (srI M cm t : Nat)) 1 = 1)) n ||| 0 : Nat) : Int) := zor_n (by omega) (by omega)
      rw [lW_35]
      refine ih (fun t ht => fs_ne (by omega)) ?_
      rw [fs_eq]
      refine z0.trans ?_
      rw [Nat.or_zero]
      congr 1
      refine mkM_congr (fun t ht => ?_)
      by_cases e1 : srI M cm t = s
      · rw [e1, decide_eq_false y, Bool.and_false, Bool.and_false]
      · congr 1
        by_cases l : srI M cm t < s
        · rw [decide_eq_true l, decide_eq_true (by omega)]
        · rw [decide_eq_false l, decide_eq_false (by omega)]
