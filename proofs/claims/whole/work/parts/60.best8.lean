/-! lodging: the class's houses, its cut, and its answer -/
theorem mkM_0 {p : Nat → Bool} {n : Nat} (h : ∀ i, i < n → p i = false) : mkM p n = 0 := by
  refine bit_eq (mkM_lt n) (Nat.two_pow_pos n) (fun i hi => ?_)
  rw [mkM_t, h i hi, Nat.zero_testBit, Bool.and_false]
def okLs (M : Mm) (cm : Nat → Int) (n : Nat) (b c : Int → Int) (l : List Int) : Prop := ∀ (j : Nat) (h : Int), l[j]? = some h → b j = (mkM (fun t => tks (M 2) (M 3) (M 89) h (cm t)) n : Nat) ∧ c j = M 89 (5 * h + 2)
theorem lp_74_7 {d : Nat} {P : Mm → Prop} {M : Mm} {cm : Nat → Int} {n : Nat} {v : Int} {g a e f : Int → Int} (hM : okMb M cm n) (hH : IH M) (he : ∀ s : Nat, s < 4 → e s = (mkM (fun t => decide (srI M cm t = s)) n : Nat)) (h6 : (flN (fun h => decide (M 89 (5 * h) = v)) (M 24 5).toNat).length ≤ 6) (hP : ∀ b c : Int → Int, okLs M cm n b c (flN (fun h => decide (M 89 (5 * h) = v)) (M 24 5).toNat) → P (lW M (fset g 6 ((flN (fun h => decide (M 89 (5 * h) = v)) (M 24 5).toNat).length : Nat)) a b c e f)) : ∀ (k i : Nat) {b c : Int → Int}, (k : Int) = M 24 5 - i → okLs M cm n b c (flN (fun h => decide (M 89 (5 * h) = v)) i) → H_74_7 (d + 1) P v i (lW M (fset g 6 ((flN (fun h => decide (M 89 (5 * h) = v)) i).length : Nat)) a b c e f)
  | 0, i, b, c, hk, hb => by
    refine sg_74_7 ⟨fun _ => ?_, fun z => ?_⟩
    · rw [show (M 24 5).toNat = i by omega] at hP
      exact hP b c hb
    · have z : (i : Int) < M 24 5 := z
      omega
  | k + 1, i, b, c, hk, hb => by
    have h24 := hH.1
    have hle := flN_le (q := fun h => decide (M 89 (5 * h) = v)) (show i ≤ (M 24 5).toNat by omega)
    have hle2 := flN_le (q := fun h => decide (M 89 (5 * h) = v)) (show i + 1 ≤ (M 24 5).toNat by omega)
    have hs := flN_s (q := fun h => decide (M 89 (5 * h) = v)) (k := i)
    have g6 : fset g 6 ((flN (fun h => decide (M 89 (5 * h) = v)) i).length : Nat) 6 = ((flN (fun h => decide (M 89 (5 * h) = v)) i).length : Nat) := fs_eq
    have e25 := (hH.2.2.1 i).1
    have e27 := (hH.2.2.1 i).2.2.1
    have hI : inI ((i : Int) + 1) := by unfold inI; omega
    refine sg_74_7 ⟨fun z => ?_, fun _ => ⟨fun z => ?_, fun z => ⟨by omega, fun z2 => ⟨hI, ?_⟩, fun z2 => ?_⟩⟩⟩
    · have z : M 24 5 ≤ (i : Int) := z
      omega
    · have z : 6 ≤ fset g 6 ((flN (fun h => decide (M 89 (5 * h) = v)) i).length : Nat) 6 := z
      rw [g6] at z
      have e := flN_eq (q := fun h => decide (M 89 (5 * h) = v)) (show i ≤ (M 24 5).toNat by omega) (by omega)
      rw [e] at hP
      exact hP b c hb
    · have z2 : ¬ M 25 i = v := z2
      rw [e25] at z2
      rw [if_neg (by rw [decide_eq_false z2]; decide), List.append_nil] at hs
      have := lp_74_7 (d := d) hM hH he h6 hP k (i + 1) (b := b) (c := c) (by omega) (by rw [hs]; exact hb)
      rw [hs, show ((i + 1 : Nat) : Int) = (i : Int) + 1 by omega] at this
      exact this
    · have z2 : M 25 i = v := z2
      rw [e25] at z2
      have z : fset g 6 ((flN (fun h => decide (M 89 (5 * h) = v)) i).length : Nat) 6 < 6 := z
      rw [g6] at z
      rw [if_pos (decide_eq_true z2)] at hs
      show (0 ≤ (i : Int) ∧ (i : Int) < 24) ∧ (0 ≤ fset g 6 ((flN (fun h => decide (M 89 (5 * h) = v)) i).length : Nat) 6 ∧ fset g 6 ((flN (fun h => decide (M 89 (5 * h) = v)) i).length : Nat) 6 < 6) ∧ (0 ≤ fset g 6 ((flN (fun h => decide (M 89 (5 * h) = v)) i).length : Nat) 6 ∧ fset g 6 ((flN (fun h => decide (M 89 (5 * h) = v)) i).length : Nat) 6 < 6) ∧ H_74_62 (d + 1) P v i 0 (mset (mset (lW M (fset g 6 ((flN (fun h => decide (M 89 (5 * h) = v)) i).length : Nat)) a b c e f) 36 (fset g 6 ((flN (fun h => decide (M 89 (5 * h) = v)) i).length : Nat) 6) (M 27 i)) 35 (fset g 6 ((flN (fun h => decide (M 89 (5 * h) = v)) i).length : Nat) 6) 0)
      rw [g6, lW_36, lW_35, e27]
      refine ⟨by omega, by omega, by omega, ?_⟩
      refine lp_74_62 (d := d) (j := (flN (fun h => decide (M 89 (5 * h) = v)) i).length) hM hH (by omega) (by omega) fs_eq he 4 0 rfl ?_ (fun b2 h1 h2 => ?_)
      · rw [fs_eq, mkM_0 (fun t _ => by rw [decide_eq_false (by omega)]; rfl)]; rfl
      · rw [fs_fs]
        have := lp_74_7 (d := d) hM hH he h6 hP k (i + 1) (b := b2) (c := fset c ((flN (fun h => decide (M 89 (5 * h) = v)) i).length : Nat) (M 89 (5 * (i : Int) + 2))) (by omega) (fun j h hj => ?_)
        · rw [hs, List.length_append, show ((i + 1 : Nat) : Int) = (i : Int) + 1 by omega] at this
          exact this
        · rw [hs] at hj
          rcases snoc_at hj with ⟨y1, y2⟩ | ⟨y1, y2⟩
          · have hbj := hb j h y2
            refine ⟨?_, ?_⟩
            · rw [h1 j y1, fs_ne (by omega)]; exact hbj.1
            · rw [fs_ne (by omega)]; exact hbj.2
          · subst y1 y2
            exact ⟨h2, fs_eq⟩
theorem c_74 {d : Nat} {P : Mm → Prop} {M : Mm} {cm : Nat → Int} {n : Nat} {v : Int} {g a b c e f : Int → Int} (hM : okMb M cm n) (hH : IH M) (he : ∀ s : Nat, s < 4 → e s = (mkM (fun t => decide (srI M cm t = s)) n : Nat)) (h6 : (flN (fun h => decide (M 89 (5 * h) = v)) (M 24 5).toNat).length ≤ 6) (hP : ∀ b c : Int → Int, okLs M cm n b c (flN (fun h => decide (M 89 (5 * h) = v)) (M 24 5).toNat) → P (lW M (fset g 6 ((flN (fun h => decide (M 89 (5 * h) = v)) (M 24 5).toNat).length : Nat)) a b c e f)) : EE (d + 2) 74 [vR 33, vR 24, vI v] (lW M g a b c e f) (rV P) := by
  have h24 := hH.1
  refine sg_74 ?_
  rw [lW_33]
  exact lp_74_7 hM hH he h6 hP (M 24 5).toNat 0 (by omega) (fun j h hj => by
    have hj : ([] : List Int)[j]? = some h := hj
    simp at hj)
theorem lp_75_68 {d : Nat} {P : Int → Mm → Prop} {M : Mm} {K tb bd : Nat → Nat} {n m S : Nat} {a1 a2 : Int} (hM : ok77 M K tb bd n m) (hS : S < 4096) (ha : inI (a2 + 1)) (h : H_75_7 d P (if ((n - pcB S + smB (fun j => if tb j &&& S = 0 then 0 else bd j) m : Nat) : Int) < a1 then ((n - pcB S + smB (fun j => if tb j &&& S = 0 then 0 else bd j) m : Nat) : Int) else a1) (a2 + 1) M) : ∀ (k j : Nat), k + j = m → H_75_68 d P a1 a2 S ((n - pcB S + smB (fun j => if tb j &&& S = 0 then 0 else bd j) j : Nat) : Int) j M
  | 0, j, hk => by
    have e : j = m := by omega
    subst e
    have hm := hM.2.1
    exact sg_75_68 ⟨fun _ => ⟨ha, h⟩, fun z => by omega⟩
  | k + 1, j, hk => by
    have hn := hM.1
    have hm := hM.2.1
    have h12 : 2 ^ n ≤ 2 ^ 12 := Nat.pow_le_pow_right (by omega) hn.2
    have ht := hM.2.2.2.1 j (by omega)
    have hbd := hM.2.2.2.2 j (by omega)
    have ih := lp_75_68 hM hS ha h k (j + 1) (by omega)
    have sb := smB_c (f := fun j => if tb j &&& S = 0 then 0 else bd j) (c := 4) (n := j) (fun i hi => by
      have := (hM.2.2.2.2 i (by omega)).2
      split <;> omega)
    have es : smB (fun j => if tb j &&& S = 0 then 0 else bd j) (j + 1) = smB (fun j => if tb j &&& S = 0 then 0 else bd j) j + (if tb j &&& S = 0 then 0 else bd j) := rfl
    rw [es, show ((j + 1 : Nat) : Int) = (j : Int) + 1 by omega] at ih
    refine sg_75_68 ⟨fun z => by omega, fun _ => ⟨by omega, ?_⟩⟩
    rw [ht.1, hbd.1, zand_n (by omega) (by omega)]
    refine ⟨fun z => ⟨by unfold inI; omega, by unfold inI; omega, ?_⟩, fun z => ⟨by omega, by unfold inI; omega, by unfold inI; omega, ?_⟩⟩
    · rw [if_pos (by omega)] at ih
      rw [Int.add_zero]; exact ih
    · rw [if_neg (by omega), ← Nat.add_assoc, Int.natCast_add] at ih
      exact ih
theorem lp_75_18 {d : Nat} {P : Int → Mm → Prop} {M : Mm} {K tb bd : Nat → Nat} {n m q : Nat} {sr : Nat → Nat} {a1 : Int} (hM : ok77 M K tb bd n m) (hq : q < 16) (hs : ∀ i, i < n → sr i < 4) (he : ∀ s : Nat, s < 4 → M 37 s = (mkM (fun t => decide (sr t = s)) n : Nat)) (h : H_75_7 (d + 1) P (if ((bndI sr tb bd n m q : Nat) : Int) < a1 then ((bndI sr tb bd n m q : Nat) : Int) else a1) ((q : Int) + 1) M) : ∀ (k s : Nat), k + s = 4 → H_75_18 (d + 1) P a1 q (mkM (fun t => decide (sr t < s) && q.testBit (sr t)) n : Nat) s M
  | 0, s, hk => by
    have e : s = 4 := by omega
    subst e
    have hn := hM.1
    have es : mkM (fun t => decide (sr t < 4) && q.testBit (sr t)) n = setP sr n q := mkM_congr (fun t ht => by rw [decide_eq_true (hs t ht)]; rfl)
    have hS : setP sr n q < 4096 := mkM_12 hn.2
    have hp : pcB (setP sr n q) ≤ n := by
      have : pcB (setP sr n q) = cnB (fun i => q.testBit (sr i)) n := pcB_mk hn.2
      rw [this]; exact cnB_le n
    refine sg_75_18 ⟨fun _ => ?_, fun z => by omega⟩
    rw [es]
    refine c_174 hS ⟨by unfold inI; omega, ?_⟩
    have := lp_75_68 (d := d + 1) (a1 := a1) hM hS (a2 := q) (by unfold inI; omega) h m 0 rfl
    rw [show M 33 5 - ((pcB (setP sr n q) : Nat) : Int) = ((n - pcB (setP sr n q) + 0 : Nat) : Int) by omega]
    exact this
  | k + 1, s, hk => by
    have hn := hM.1
    have ih := lp_75_18 (d := d) hM hq hs he h k (s + 1) (by omega)
    have hb : zand (zshr (q : Int) (s : Int)) 1 = ((q / 2 ^ s % 2 : Nat) : Int) := bitq (by omega) (by omega)
    have ht := Nat.testBit_eq_decide_div_mod_eq (x := q) (i := s)
    have m1 := mkM_12 (p := fun t => decide (sr t < s) && q.testBit (sr t)) hn.2
    have m2 := mkM_12 (p := fun t => decide (sr t = s)) hn.2
    rw [show ((s + 1 : Nat) : Int) = (s : Int) + 1 by omega] at ih
    refine sg_75_18 ⟨fun z => by omega, fun _ => ?_⟩
    rw [hb]
    refine ⟨fun z => ⟨by unfold inI; omega, ?_⟩, fun z => ⟨by omega, by unfold inI; omega, ?_⟩⟩
    · have z2 : ¬ q / 2 ^ s % 2 = 1 := fun y => z (by rw [y]; rfl)
      rw [decide_eq_false z2] at ht
      have z0 : zor ((mkM (fun t => decide (sr t < s) && q.testBit (sr t)) n : Nat) : Int) ((0 : Nat) : Int) = ((mkM (fun t => decide (sr t < s) && q.testBit (sr t)) n ||| 0 : Nat) : Int) := zor_n (by omega) (by omega)
      have e : mkM (fun t => decide (sr t < s + 1) && q.testBit (sr t)) n = mkM (fun t => decide (sr t < s) && q.testBit (sr t)) n ||| 0 := by
        rw [Nat.or_zero]
        refine mkM_congr (fun t _ => ?_)
        by_cases e1 : sr t = s
        · rw [e1, ht, Bool.and_false, Bool.and_false]
        · congr 1
          by_cases l : sr t < s
          · rw [decide_eq_true l, decide_eq_true (by omega)]
          · rw [decide_eq_false l, decide_eq_false (by omega)]
      rw [e, ← z0] at ih
      exact ih
    · have z2 : q / 2 ^ s % 2 = 1 := by
        have : ((q / 2 ^ s % 2 : Nat) : Int) = ((1 : Nat) : Int) := z
        exact Int.ofNat_inj.mp this
      rw [decide_eq_true z2] at ht
      have e : mkM (fun t => decide (sr t < s + 1) && q.testBit (sr t)) n = mkM (fun t => decide (sr t < s) && q.testBit (sr t)) n ||| mkM (fun t => decide (sr t = s)) n := by
        rw [mkM_or]
        refine mkM_congr (fun t _ => ?_)
        by_cases e1 : sr t = s
        · rw [e1, ht, decide_eq_true rfl, decide_eq_true (show s < s + 1 by omega), Bool.or_true]; rfl
        · rw [decide_eq_false e1, Bool.or_false]
          congr 1
          by_cases l : sr t < s
          · rw [decide_eq_true l, decide_eq_true (by omega)]
          · rw [decide_eq_false l, decide_eq_false (by omega)]
      rw [he s (by omega), zor_n (by omega) (by omega), ← e]
      exact ih
theorem lp_75_7 {d : Nat} {P : Int → Mm → Prop} {M : Mm} {K tb bd : Nat → Nat} {n m : Nat} {sr : Nat → Nat} (hM : ok77 M K tb bd n m) (hs : ∀ i, i < n → sr i < 4) (he : ∀ s : Nat, s < 4 → M 37 s = (mkM (fun t => decide (sr t = s)) n : Nat)) (hP : ∀ x : Nat, (∀ q, q < 16 → x ≤ bndI sr tb bd n m q) → (x = n ∨ ∃ q, q < 16 ∧ x = bndI sr tb bd n m q) → P x M) : ∀ (k i : Nat) {x : Nat}, k + i = 16 → (∀ q, q < i → x ≤ bndI sr tb bd n m q) → (x = n ∨ ∃ q, q < 16 ∧ x = bndI sr tb bd n m q) → H_75_7 (d + 1) P x i M
  | 0, i, x, hk, h1, h2 => by
    have e : i = 16 := by omega
    subst e
    exact sg_75_7 ⟨fun _ => hP x h1 h2, fun z => by omega⟩
  | k + 1, i, x, hk, h1, h2 => by
    refine sg_75_7 ⟨fun z => by omega, fun _ => ?_⟩
    have key := lp_75_18 (d := d) (P := P) (a1 := (x : Int)) hM (q := i) (by omega) hs he ?_ 4 0 rfl
    · rw [mkM_0 (fun t _ => by rw [decide_eq_false (by omega)]; rfl)] at key
      exact key
    · rw [show (i : Int) + 1 = ((i + 1 : Nat) : Int) by omega]
      by_cases l : bndI sr tb bd n m i < x
      · rw [if_pos (by omega)]
        refine lp_75_7 (d := d) hM hs he hP k (i + 1) (by omega) (fun q hq => ?_) (Or.inr ⟨i, by omega, rfl⟩)
        by_cases e : q = i
        · subst e; exact Nat.le_refl _
        · have := h1 q (by omega); omega
      · rw [if_neg (by omega)]
        refine lp_75_7 (d := d) hM hs he hP k (i + 1) (by omega) (fun q hq => ?_) h2
        by_cases e : q = i
        · subst e; omega
        · exact h1 q (by omega)
theorem c_75 {d : Nat} {P : Int → Mm → Prop} {M : Mm} {K tb bd : Nat → Nat} {n m : Nat} {sr : Nat → Nat} (hM : ok77 M K tb bd n m) (hs : ∀ i, i < n → sr i < 4) (he : ∀ s : Nat, s < 4 → M 37 s = (mkM (fun t => decide (sr t = s)) n : Nat)) (hP : ∀ x : Nat, (∀ q, q < 16 → x ≤ bndI sr tb bd n m q) → (x = n ∨ ∃ q, q < 16 ∧ x = bndI sr tb bd n m q) → P x M) : EE (d + 2) 75 [vR 33] M (rI P) := by
  refine sg_75 ?_
  rw [hM.1.1]
  exact lp_75_7 hM hs he hP 16 0 rfl (fun q hq => by omega) (Or.inl rfl)
theorem lst_getD {C : List Int} : lst (fun i => C.getD i 0) C.length = C := by
  refine List.ext_getElem? (fun i => ?_)
  unfold lst
  rw [List.getElem?_map]
  by_cases l : i < C.length
  · rw [List.getElem?_range l, List.getElem?_eq_getElem l]
    show some (C.getD i 0) = _
    rw [List.getD_eq_getElem?_getD, List.getElem?_eq_getElem l]; rfl
  · rw [List.getElem?_eq_none (by rw [List.length_range]; omega), List.getElem?_eq_none (by omega)]; rfl
theorem getD_at {C : List Int} {i : Nat} (l : i < C.length) : C[i]? = some (C.getD i 0) := by
  rw [List.getD_eq_getElem?_getD, List.getElem?_eq_getElem l]; rfl
theorem getD_in {C : List Int} {i : Nat} (l : i < C.length) : C.getD i 0 ∈ C := List.mem_of_getElem? (getD_at l)
theorem getD_nd {C : List Int} (h : C.Nodup) : injN (fun i => C.getD i 0) C.length := fun _ _ hi hj e => (List.getD_inj hi hj h).mp e
theorem okMb_of {M : Mm} {C : List Int} (hC : IC M) (hl : hasL M C) (hn : C.length ≤ 12) : okMb M (fun i => C.getD i 0) C.length := by
  refine ⟨hn, fun i hi => ?_⟩
  have hin := hl.2.2 _ (getD_in hi)
  have h48 := hC.1
  have hc := hC.2.2.2 _ hin.1 hin.2
  exact ⟨hl.2.1 i _ (getD_at hi), ⟨hin.1, by show C.getD i 0 < 48; omega⟩, hc.1, hc.2.2.1.1⟩
/-- the class's lodging -/
theorem c_72 {d : Nat} {P : Mm → Prop} {M : Mm} {C : List Int} {v : Int} (hC : IC M) (hH : IH M) (hl : hasL M C) (hn : C.length ≤ 12) (hnd : C.Nodup) (h6 : (flN (fun h => decide (M 89 (5 * h) = v)) (M 24 5).toNat).length ≤ 6) (hP : ∀ g a b c e f : Int → Int, g 7 = v → isBest (M 2) (M 3) (M 4) (M 89) C (flN (fun h => decide (M 89 (5 * h) = v)) (M 24 5).toNat) (g 8) (g 9) → P (lW M g a b c e f)) : EE (d + 8) 72 [vR 33, vR 1, vR 24, vR 30, vI v] M (rV P) := by
  have hMb := okMb_of hC hl hn
  have h24 := hH.1
  have hinj := getD_nd hnd
  have hLnd : (flN (fun h => decide (M 89 (5 * h) = v)) (M 24 5).toNat).Nodup := (idx_nd _).filter _
  have hhj := getD_nd hLnd
  generalize hL : flN (fun h => decide (M 89 (5 * h) = v)) (M 24 5).toNat = L at h6 hP hLnd hhj
  have hLin : ∀ h ∈ L, 0 ≤ h ∧ h < M 24 5 := by
    intro h hh
    rw [← hL] at hh
    have := (flN_in.mp hh).1
    omega
  have hLb : ∀ j, j < L.length → 1 ≤ M 89 (5 * L.getD j 0 + 2) ∧ M 89 (5 * L.getD j 0 + 2) ≤ 4 := by
    intro j hj
    have h1 := hLin _ (getD_in hj)
    have h2 := (hH.2.2.2 _ h1.1 h1.2).2.2.1
    rw [(hH.2.2.1 _).2.2.1] at h2
    exact h2
  have h9 : ∀ j, j < L.length → ¬ L.getD j 0 = -9 := fun j hj e => by
    have := hLin _ (getD_in hj)
    omega
  refine sg_72 ?_
  have e0 : mset (mset M 33 7 v) 33 5 (if 12 < M 30 2 then 12 else M 30 2) = lW M (fset (fset (M 33) 7 v) 5 (C.length : Nat)) (M 34) (M 35) (M 36) (M 37) (M 38) := by
    rw [← lW_33, ← lW_33, lW_id, if_neg (by rw [hl.1.1]; omega), hl.1.1]
  rw [e0]
  refine c_73 (d := d + 4) hMb hinj fs_eq (fun a e ha he => ?_)
  refine c_74 (d := d + 5) hMb hH he (by rw [hL]; exact h6) (fun b c hbc => ?_)
  rw [hL] at hbc ⊢
  have hS : ∀ i, i < C.length → srI M (fun i => C.getD i 0) i < 4 := fun i hi => (srI_b hMb hi).2
  have h77 : ∀ g f : Int → Int, g 5 = (C.length : Nat) → g 6 = (L.length : Nat) → ok77 (lW M g a b c e f) (KL (M 4) (fun i => C.getD i 0) C.length) (tkL (M 2) (M 3) (M 89) (fun i => C.getD i 0) (fun j => L.getD j 0) C.length) (bdL (M 89) (fun j => L.getD j 0)) C.length L.length := by
    intro g f g5 g6
    refine ⟨⟨g5, hn⟩, ⟨g6, h6⟩, fun i hi => ⟨ha i hi, mkM_12 hn⟩, fun j hj => ⟨(hbc j _ (getD_at hj)).1, mkM_lt _⟩, fun j hj => ⟨?_, ?_⟩⟩
    · have h1 := (hbc j _ (getD_at hj)).2
      have h2 := hLb j hj
      show c j = ((M 89 (5 * L.getD j 0 + 2)).toNat : Int)
      rw [h1]; omega
    · have h2 := hLb j hj
      show (M 89 (5 * L.getD j 0 + 2)).toNat ≤ 4
      omega
  refine c_75 (sr := srI M (fun i => C.getD i 0)) (h77 (fset (fset (fset (M 33) 7 v) 5 (C.length : Nat)) 6 (L.length : Nat)) (M 38) rfl rfl) hS he (fun x x1 x2 => ?_)
  obtain ⟨hex, hmx⟩ := lod_max hn hS (fun j i i' hj hi hi' es => by
    unfold tkL
    rw [mkM_t, mkM_t, decide_eq_true hi, decide_eq_true hi', tks_sr hMb hi hH, tks_sr hMb hi' hH, es]) x1 x2
  have hxn : x ≤ C.length := by
    obtain ⟨β, _, b2⟩ := hex
    have e1 : pcB (mkL C.length β L.length) = cnB (fun i => decide (β i < L.length)) C.length := pcB_mk hn
    have := cnB_le (p := fun i => decide (β i < L.length)) C.length
    omega
  refine c_76 (h77 (fset (fset (fset (M 33) 7 v) 5 (C.length : Nat)) 6 (L.length : Nat)) (M 38) rfl rfl) ?_
  have htw : smB (fun i => pcB (KL (M 4) (fun i => C.getD i 0) C.length i)) C.length / 2 = ttK (M 4) (fun i => C.getD i 0) C.length := by
    rw [tw_L hn]; omega
  rw [htw]
  have htt : ttK (M 4) (fun i => C.getD i 0) C.length ≤ 144 := by
    have h2 := smB_c (f := fun i => cnB (fun t => (KL (M 4) (fun i => C.getD i 0) C.length i).testBit t) i) (c := 12) (n := C.length) (fun t ht => by
      have := cnB_le (p := fun u => (KL (M 4) (fun i => C.getD i 0) C.length t).testBit u) t
      omega)
    show smB (fun i => cnB (fun t => (KL (M 4) (fun i => C.getD i 0) C.length i).testBit t) i) C.length ≤ 144
    omega
  have fin : ∀ p : Int, resK (KL (M 4) (fun i => C.getD i 0) C.length) C.length (tkL (M 2) (M 3) (M 89) (fun i => C.getD i 0) (fun j => L.getD j 0) C.length) (bdL (M 89) (fun j => L.getD j 0)) L.length x (ttK (M 4) (fun i => C.getD i 0) C.length - p) → isBest (M 2) (M 3) (M 4) (M 89) C L ((C.length : Int) - x) p := by
    intro p hr
    have key := best_of (o := (C.length : Int) - x) (p := p) hn hinj hhj h9 (fun j hj => by have := hLb j hj; omega) hmx (by omega) hr
    rw [lst_getD, lst_getD] at key
    exact key
  have g5 : (lW M (fset (fset (fset (M 33) 7 v) 5 (C.length : Nat)) 6 (L.length : Nat)) a b c e (M 38)) 33 5 = (C.length : Int) := rfl
  rw [g5, lW_33]
  refine ⟨by unfold inI; omega, fun z => ?_, fun z => ?_⟩
  · refine c_77 (d := d) (h77 (fset (fset (fset (fset (M 33) 7 v) 5 (C.length : Nat)) 6 (L.length : Nat)) 8 ((C.length : Int) - x)) (M 38) rfl rfl) hex (fun r f hr => ?_)
    have hr0 : 0 ≤ r ∧ r ≤ ttK (M 4) (fun i => C.getD i 0) C.length := by
      obtain ⟨⟨β, _, _, b3⟩, _⟩ := hr
      have := vlB_le (K := KL (M 4) (fun i => C.getD i 0) C.length) (m := L.length) (β := β) hn
      have e : ttK (M 4) (fun i => C.getD i 0) C.length = smB (fun i => cnB (fun t => (KL (M 4) (fun i => C.getD i 0) C.length i).testBit t) i) C.length := rfl
      omega
    refine ⟨by unfold inI; omega, ?_⟩
    rw [lW_r38, lW_33]
    refine hP _ _ _ _ _ _ rfl (fin (ttK (M 4) (fun i => C.getD i 0) C.length - r) ?_)
    rw [show ((ttK (M 4) (fun i => C.getD i 0) C.length : Nat) : Int) - (((ttK (M 4) (fun i => C.getD i 0) C.length : Nat) : Int) - r) = r by omega]
    exact hr
  · rw [lW_33]
    refine hP _ _ _ _ _ _ rfl (fin 0 ?_)
    have e : ttK (M 4) (fun i => C.getD i 0) C.length = smB (fun i => cnB (fun t => (KL (M 4) (fun i => C.getD i 0) C.length i).testBit t) i) C.length := rfl
    have hv0 : ∀ β : Nat → Nat, vlB (KL (M 4) (fun i => C.getD i 0) C.length) C.length β L.length = 0 := fun β => by
      have := vlB_le (K := KL (M 4) (fun i => C.getD i 0) C.length) (m := L.length) (β := β) hn
      omega
    obtain ⟨β, b1, b2⟩ := hex
    exact ⟨⟨β, b1, b2, by rw [hv0 β]; omega⟩, fun β' _ _ => by rw [hv0 β']; omega⟩
theorem lp_70 {d : Nat} {P : Int → Mm → Prop} {M : Mm} {v : Int} (hH : IH M) (h : P ((flN (fun h => decide (M 89 (5 * h) = v)) (M 24 5).toNat).length : Nat) M) : ∀ (k i : Nat), (k : Int) = M 24 5 - i → H_70_4 d P v ((flN (fun h => decide (M 89 (5 * h) = v)) i).length : Nat) i M
  | 0, i, hk => by
    refine sg_70_4 ⟨fun _ => ?_, fun z => by omega⟩
    rw [show (M 24 5).toNat = i by omega] at h; exact h
  | k + 1, i, hk => by
    have h24 := hH.1
    have ih := lp_70 (d := d) hH h k (i + 1) (by omega)
    have hle := flN_le (q := fun h => decide (M 89 (5 * h) = v)) (show i ≤ (M 24 5).toNat by omega)
    have hb : (flN (fun h => decide (M 89 (5 * h) = v)) i).length ≤ i := by
      have := List.length_filter_le (fun h => decide (M 89 (5 * h) = v)) ((List.range i).map (fun k : Nat => (k : Int)))
      rw [List.length_map, List.length_range] at this
      exact this
    rw [flN_s, show ((i + 1 : Nat) : Int) = (i : Int) + 1 by omega] at ih
    refine sg_70_4 ⟨fun z => by omega, fun _ => ⟨by omega, ?_⟩⟩
    rw [(hH.2.2.1 i).1]
    refine ⟨fun z => ⟨by unfold inI; omega, ?_⟩, fun z => ⟨by unfold inI; omega, by unfold inI; omega, ?_⟩⟩
    · rw [if_neg (by rw [decide_eq_false z]; decide), List.append_nil] at ih; exact ih
    · rw [if_pos (decide_eq_true z), List.length_append] at ih; exact ih
theorem c_70 {d : Nat} {P : Int → Mm → Prop} {M : Mm} {v : Int} (hH : IH M) (h : P ((flN (fun h => decide (M 89 (5 * h) = v)) (M 24 5).toNat).length : Nat) M) : EE (d + 1) 70 [vR 24, vI v] M (rI P) :=
  sg_70 (lp_70 hH h (M 24 5).toNat 0 (by have := hH.1; omega))
