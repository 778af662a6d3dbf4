/-! BOARDING OF THE CLASS: fill, settle -/
theorem drop_c {q : List Int} {i : Nat} {c : Int} {r : List Int} (h : q.drop i = c :: r) : q[i]? = some c ∧ i < q.length ∧ q.drop (i + 1) = r := by
  have h1 : (q.drop i)[0]? = some c := by rw [h]; rfl
  rw [List.getElem?_drop, Nat.add_zero] at h1
  refine ⟨h1, (List.getElem?_eq_some_iff.mp h1).1, ?_⟩
  rw [← List.drop_drop, h]
  rfl
theorem drop_n {q : List Int} {i : Nat} (h : q.drop i = []) (hi : i ≤ q.length) : i = q.length := by
  have := List.drop_eq_nil_iff.mp h
  omega
theorem lp_97 {d : Nat} {P : Int → Mm → Prop} {M : Mm} {q : List Int} {b a c0 e : Int → Int} {t : Int} (hP : IP M) (hC : IC M) (hr : ∀ c ∈ q, 0 ≤ c ∧ c < M 1 6) (hl : q.length ≤ 48) (hb : aq b q) (hq : P ((fI (fun c => decide (M 83 (2 * M 5 c) = t)) q : Nat) : Int) (bW M (q.length : Int) a b c0 e)) : ∀ (r : List Int) (i : Nat), q.drop i = r → i ≤ q.length → fI (fun c => decide (M 83 (2 * M 5 c) = t)) q = i + fI (fun c => decide (M 83 (2 * M 5 c) = t)) r → H_97_2 d P t i (bW M (q.length : Int) a b c0 e)
  | [], i, hd, hi, he => by
    have e1 := drop_n hd hi
    refine sg_97_2 ⟨fun _ => ?_, fun z => ?_⟩
    · have e2 : fI (fun c => decide (M 83 (2 * M 5 c) = t)) q = q.length := by rw [he, e1]; rfl
      rw [e2] at hq
      exact hq
    · have z : (i : Int) < (q.length : Int) := z
      omega
  | c :: r, i, hd, hi, he => by
    obtain ⟨g1, g2, g3⟩ := drop_c hd
    have hbi := hb i c g1
    have hc := hr c (List.mem_of_getElem? g1)
    have hn := hC.1
    have hg := (hC.2.2.2 c hc.1 hc.2).2.2.2
    have hx := (hP.1 (M 5 c)).1
    refine sg_97_2 ⟨fun z => ?_, fun z => ⟨by omega, ?_, ?_, fun z2 => ⟨by unfold inI; omega, ?_⟩, fun z2 => ?_⟩⟩
    · have z : (q.length : Int) ≤ (i : Int) := z
      omega
    · show 0 ≤ b i ∧ b i < 48
      rw [hbi]; omega
    · show 0 ≤ M 5 (b i) ∧ M 5 (b i) < 8
      rw [hbi]; omega
    · have z2 : ¬ M 11 (M 5 (b i)) = t := z2
      rw [hbi, hx] at z2
      have e1 : fI (fun c => decide (M 83 (2 * M 5 c) = t)) (c :: r) = fI (fun c => decide (M 83 (2 * M 5 c) = t)) r + 1 := by
        show (if decide (M 83 (2 * M 5 c) = t) = true then 0 else _) = _
        rw [if_neg (by rw [decide_eq_true_eq]; exact z2)]
      rw [e1] at he
      have ih := lp_97 (d := d) hP hC hr hl hb hq r (i + 1) g3 (by omega) (by omega)
      rw [show ((i + 1 : Nat) : Int) = (i : Int) + 1 by omega] at ih
      exact ih
    · have z2 : M 11 (M 5 (b i)) = t := z2
      rw [hbi, hx] at z2
      have e1 : fI (fun c => decide (M 83 (2 * M 5 c) = t)) (c :: r) = 0 := by
        show (if decide (M 83 (2 * M 5 c) = t) = true then 0 else _) = _
        rw [if_pos (by rw [decide_eq_true_eq]; exact z2)]
      rw [e1, Nat.add_zero] at he
      rw [he] at hq
      exact hq
theorem bOne_no {pk : Int → Bool} {t m : Int} {s : BS} (h : ¬ (0 < s.2.1 t ∧ fI pk s.1 < s.1.length)) : bOne pk t m s = s := if_neg h
theorem getD_c {q : List Int} {i : Nat} {c : Int} (h : q[i]? = some c) : q.getD i 0 = c := by rw [List.getD_eq_getElem?_getD, h]; rfl
theorem lp_96 {d : Nat} {PV : Mm → Prop} {M : Mm} {t m a4 : Int} {pk : Int → Bool} (hP : IP M) (hC : IC M) (ht : 0 ≤ t ∧ t < 6) (hm : 0 ≤ m ∧ m ≤ 300) (h0 : a4 = 0 → pk = fun c => decide (M 83 (2 * M 5 c) = t)) (h1 : ¬ a4 = 0 → ∀ c, pk c = true) : ∀ (k : Nat) {i : Int} {s : BS} {w : Int} {a b c e : Int → Int}, (k : Int) = M 84 (5 * t + 3) - i → 0 ≤ i → (∀ c ∈ s.1, 0 ≤ c ∧ c < M 1 6) → s.1.length ≤ 48 → BR s w a b c e → (∀ t, 0 ≤ t → t < 6 → s.2.1 t ≤ 48) → (∀ w a b c e, BR (iterN (bOne pk t m) k s) w a b c e → (∀ t2, 0 ≤ t2 → t2 < 6 → (iterN (bOne pk t m) k s).2.1 t2 ≤ 48) → PV (bW M w a b c e)) → H_96_39 (d + 1) PV t m a4 i (bW M w a b c e)
  | 0, i, s, w, a, b, c, e, hk, hi, hr, hl, hB, hS, hK => by
    have hat := hP.2.2.1.at (t := t) (j := 3) ht.1 ht.2 (by omega) (by omega)
    refine sg_96_39 ⟨ht, fun _ => hK w a b c e hB hS, fun z => ?_⟩
    have z : i < M (14 + t.toNat) 3 := by
      have e9 : bW M w a b c e (14 + t.toNat) = M (14 + t.toNat) := by
        unfold bW; simp only [mset, rset]; rw [if_neg (by omega), if_neg (by omega), if_neg (by omega), if_neg (by omega), if_neg (by omega)]
      rw [← e9]; exact z
    omega
  | k + 1, i, s, w, a, b, c, e, hk, hi, hr, hl, hB, hS, hK => by
    have hat := hP.2.2.1.at (t := t) (j := 3) ht.1 ht.2 (by omega) (by omega)
    have htn := hP.2.2.2.1 t ht.1 ht.2
    have e9 : bW M w a b c e (14 + t.toNat) = M (14 + t.toNat) := by
      unfold bW; simp only [mset, rset]; rw [if_neg (by omega), if_neg (by omega), if_neg (by omega), if_neg (by omega), if_neg (by omega)]
    obtain ⟨hw, hsl, haq, hc, he⟩ := hB
    have hst := hS t ht.1 ht.2
    have hn := hC.1
    have stop : ¬ (0 < s.2.1 t ∧ fI pk s.1 < s.1.length) → PV (bW M w a b c e) := by
      intro z
      have ef : iterN (bOne pk t m) (k + 1) s = s := iterN_fix (bOne_no z) (k + 1)
      rw [ef] at hK
      exact hK w a b c e ⟨hw, hsl, haq, hc, he⟩ hS
    refine sg_96_39 ⟨ht, fun z => ?_, fun z => ⟨ht, fun z2 => ?_, fun z2 => ?_⟩⟩
    · rw [e9] at z; omega
    · have z2 : a t ≤ 0 := z2
      rw [hsl t ht.1 ht.2] at z2
      exact stop (fun y => by omega)
    · have z2 : 0 < a t := z2
      rw [hsl t ht.1 ht.2] at z2
      have hi4 : i < 4 := by
        rw [e9, hat] at z
        have := htn.2.2.2.1
        omega
      have main : H_96_76 (d + 1) PV t m a4 i ((fI pk s.1 : Nat) : Int) (bW M w a b c e) := by
        refine sg_96_76 ⟨fun y => ?_, fun y => ?_⟩
        · have y : ((fI pk s.1 : Nat) : Int) < w := y
          rw [hw] at y
          have hlt : fI pk s.1 < s.1.length := by omega
          obtain ⟨ch, hch⟩ : ∃ ch, s.1[fI pk s.1]? = some ch := ⟨_, List.getElem?_eq_getElem hlt⟩
          have hbc := haq _ ch hch
          have hcr := hr ch (List.mem_of_getElem? hch)
          have e20 : bW M w a b c e 20 t = s.2.1 t := hsl t ht.1 ht.2
          have e107 : bW M w a b c e 10 7 = w := rfl
          have e21 : bW M w a b c e 21 ((fI pk s.1 : Nat) : Int) = ch := hbc
          rw [e20, e107, e21]
          refine ⟨by omega, by omega, by omega, ht, by unfold inI; omega, ht, by unfold inI; omega, by unfold inI; omega, by unfold inI; omega, by omega, by unfold inI; omega, ?_⟩
          rw [bW_22, bW_23, bW_20, bW_w, bW_21r]
          have e8 : bW M (w - 1) (fset a t (s.2.1 t - 1)) b (fset c ch t) (fset e ch m) 21 = b := rfl
          rw [e8]
          have hone : bOne pk t m s = (s.1.eraseIdx (fI pk s.1), fset s.2.1 t (s.2.1 t - 1), fset s.2.2.1 ch t, fset s.2.2.2 ch m) := by
            unfold bOne
            rw [if_pos ⟨z2, hlt⟩, getD_c hch]
          have hK : ∀ w a b c e, BR (iterN (bOne pk t m) k (bOne pk t m s)) w a b c e → (∀ t2, 0 ≤ t2 → t2 < 6 → (iterN (bOne pk t m) k (bOne pk t m s)).2.1 t2 ≤ 48) → PV (bW M w a b c e) := hK
          rw [hone] at hK
          refine lp_96 hP hC ht hm h0 h1 k (s := (s.1.eraseIdx (fI pk s.1), fset s.2.1 t (s.2.1 t - 1), fset s.2.2.1 ch t, fset s.2.2.2 ch m)) (by omega) (by omega) (fun x hx => hr x ((List.eraseIdx_sublist _ _).subset hx)) ?_ ⟨?_, ?_, ?_, ag_set hc, ag_set he⟩ ?_ hK
          · have := (List.eraseIdx_sublist s.1 (fI pk s.1)).length_le
            show (s.1.eraseIdx (fI pk s.1)).length ≤ 48
            omega
          · show w - 1 = ((s.1.eraseIdx (fI pk s.1)).length : Int)
            rw [List.length_eraseIdx_of_lt hlt]
            omega
          · intro x x0 x1
            show fset a t (s.2.1 t - 1) x = fset s.2.1 t (s.2.1 t - 1) x
            by_cases ex : x = t
            · rw [ps_eq ex, ps_eq ex]
            · rw [fs_ne ex, fs_ne ex]; exact hsl x x0 x1
          · refine aq_er haq hlt (fun j hj => ?_) (fun j hj hj2 => ?_)
            · unfold fcpy
              rw [if_neg (by omega)]
            · unfold fcpy
              rw [if_pos (by omega)]
              congr 1
              omega
          · intro x x0 x1
            show fset s.2.1 t (s.2.1 t - 1) x ≤ 48
            by_cases ex : x = t
            · rw [ps_eq ex]; omega
            · rw [fs_ne ex]; exact hS x x0 x1
        · have y : w ≤ ((fI pk s.1 : Nat) : Int) := y
          exact stop (fun q => by omega)
      refine ⟨fun y => ?_, fun y => ?_⟩
      · have hp := h0 y
        refine sg_97 ?_
        rw [hw]
        rw [hw, hp] at main
        exact lp_97 hP hC hr hl haq main s.1 0 rfl (Nat.zero_le _) (Nat.zero_add _).symm
      · have ef := fI_true (h1 y) s.1
        rw [ef] at main
        exact main
theorem c_96 {d : Nat} {PV : Mm → Prop} {M : Mm} {t : Nat} {m : Int} (hP : IP M) (hC : IC M) (ht : t < 6) (hm : 0 ≤ m ∧ m ≤ 300) {s : BS} {w : Int} {a b c e : Int → Int} (hr : ∀ c ∈ s.1, 0 ≤ c ∧ c < M 1 6) (hl : s.1.length ≤ 48) (hB : BR s w a b c e) (hS : ∀ t, 0 ≤ t → t < 6 → s.2.1 t ≤ 48) (hK : ∀ w a b c e, BR (iterN (bOne (bPk (M 5) (M 83) (M 84) (M 10 8) t m) t m) (M 84 (5 * t + 3)).toNat s) w a b c e → (∀ t2, 0 ≤ t2 → t2 < 6 → (iterN (bOne (bPk (M 5) (M 83) (M 84) (M 10 8) t m) t m) (M 84 (5 * t + 3)).toNat s).2.1 t2 ≤ 48) → PV (bW M w a b c e)) : EE (d + 2) 96 [vR 10, vR 1, vI t, vI m] (bW M w a b c e) (rV PV) := by
  have htn := hP.2.2.2.1 t (by omega) (by omega)
  have e9 : bW M w a b c e (14 + ((t : Int)).toNat) = M (14 + ((t : Int)).toNat) := by
    unfold bW; simp only [mset, rset]; rw [if_neg (by omega), if_neg (by omega), if_neg (by omega), if_neg (by omega), if_neg (by omega)]
  have hat := hP.2.2.1.at (t := t) (j := 1) (by omega) (by omega) (by omega) (by omega)
  have hk : (((M 84 (5 * t + 3)).toNat : Nat) : Int) = M 84 (5 * t + 3) - 0 := by
    have := htn.2.2.2.1; omega
  have any : (M 10 8 = 0 ∨ (M 10 8 = 2 ∧ M 84 (5 * t + 1) - 5 ≤ m)) → H_96_39 (d + 1) PV t m 1 0 (bW M w a b c e) := by
    intro z
    refine lp_96 (pk := bPk (M 5) (M 83) (M 84) (M 10 8) t m) hP hC (by omega) hm (fun y => absurd y (by decide)) (fun _ x => ?_) _ hk (Int.le_refl 0) hr hl hB hS hK
    unfold bPk
    rcases z with z | z
    · rw [decide_eq_true z]; rfl
    · rw [decide_eq_true z.1, decide_eq_true z.2]; simp
  have lab : ¬ (M 10 8 = 0 ∨ (M 10 8 = 2 ∧ M 84 (5 * t + 1) - 5 ≤ m)) → H_96_39 (d + 1) PV t m 0 0 (bW M w a b c e) := by
    intro z
    refine lp_96 (pk := bPk (M 5) (M 83) (M 84) (M 10 8) t m) hP hC (by omega) hm (fun _ => ?_) (fun y => absurd rfl y) _ hk (Int.le_refl 0) hr hl hB hS hK
    funext x
    unfold bPk
    rw [decide_eq_false (fun y => z (Or.inl y)), Bool.false_or]
    by_cases y : M 10 8 = 2
    · rw [decide_eq_false (p := M 84 (5 * (t : Int) + 1) - 5 ≤ m) (fun q => z (Or.inr ⟨y, q⟩)), Bool.and_false, Bool.false_or]
    · rw [decide_eq_false y, Bool.false_and, Bool.false_or]
  have e108 : bW M w a b c e 10 8 = M 10 8 := rfl
  refine sg_96 ?_
  rw [e108, e9, hat]
  refine ⟨fun z => any (Or.inl z), fun z => ⟨fun z2 => lab (by omega), fun z2 => ⟨by omega, by have := htn.2.1; unfold inI; omega, fun z3 => lab (by omega), fun z3 => any (Or.inr ⟨z2, z3⟩)⟩⟩⟩
theorem lp_94_81 {d : Nat} {PV : Mm → Prop} {M : Mm} {m : Nat} (hP : IP M) (hC : IC M) (hm : m ≤ 300) : ∀ (k t : Nat) {s : BS} {w : Int} {a b c e : Int → Int}, k + t = 6 → (∀ c ∈ s.1, 0 ≤ c ∧ c < M 1 6) → s.1.length ≤ 48 → BR s w a b c e → (∀ t, 0 ≤ t → t < 6 → s.2.1 t ≤ 48) → (∀ w a b c e, BR (loopN (bTr (M 5) (M 83) (M 84) (M 10 8) m) t k s) w a b c e → (∀ t2, 0 ≤ t2 → t2 < 6 → (loopN (bTr (M 5) (M 83) (M 84) (M 10 8) m) t k s).2.1 t2 ≤ 48) → H_94_66 (d + 2) PV ((m : Int) + 1) (bW M w a b c e)) → H_94_81 (d + 2) PV m t (bW M w a b c e)
  | 0, t, s, w, a, b, c, e, hk, hr, hl, hB, hS, hK => by
    refine sg_94_81 ⟨fun _ => ⟨by unfold inI; omega, hK w a b c e hB hS⟩, fun z => by omega⟩
  | k + 1, t, s, w, a, b, c, e, hk, hr, hl, hB, hS, hK => by
    have e9 : bW M w a b c e (14 + ((t : Int)).toNat) = M (14 + ((t : Int)).toNat) := by
      unfold bW; simp only [mset, rset]; rw [if_neg (by omega), if_neg (by omega), if_neg (by omega), if_neg (by omega), if_neg (by omega)]
    have hat0 := hP.2.2.1.at (t := t) (j := 0) (by omega) (by omega) (by omega) (by omega)
    have hat1 := hP.2.2.1.at (t := t) (j := 1) (by omega) (by omega) (by omega) (by omega)
    rw [Int.add_zero] at hat0
    have hK : ∀ w a b c e, BR (loopN (bTr (M 5) (M 83) (M 84) (M 10 8) m) (t + 1) k (bTr (M 5) (M 83) (M 84) (M 10 8) m t s)) w a b c e → (∀ t2, 0 ≤ t2 → t2 < 6 → (loopN (bTr (M 5) (M 83) (M 84) (M 10 8) m) (t + 1) k (bTr (M 5) (M 83) (M 84) (M 10 8) m t s)).2.1 t2 ≤ 48) → H_94_66 (d + 2) PV ((m : Int) + 1) (bW M w a b c e) := hK
    have hI : inI ((t : Int) + 1) := by unfold inI; omega
    have ih := fun {s2 : BS} {w2 : Int} {a2 b2 c2 e2 : Int → Int} => lp_94_81 (d := d) (PV := PV) hP hC hm k (t + 1) (s := s2) (w := w2) (a := a2) (b := b2) (c := c2) (e := e2) (by omega)
    rw [show ((t + 1 : Nat) : Int) = (t : Int) + 1 by omega] at ih
    have no : ¬ (M 84 (5 * t) ≤ (m : Int) ∧ (m : Int) < M 84 (5 * t + 1)) → H_94_81 (d + 2) PV m ((t : Int) + 1) (bW M w a b c e) := by
      intro z
      have e1 : bTr (M 5) (M 83) (M 84) (M 10 8) m t s = s := if_neg z
      rw [e1] at hK
      exact ih hr hl hB hS hK
    have e107 : bW M w a b c e 10 7 = w := rfl
    refine sg_94_81 ?_
    rw [e107, e9, hat0, hat1]
    refine ⟨fun z => by omega, fun _ => ⟨fun z => ⟨by unfold inI; omega, ?_⟩, fun z => ⟨by omega, fun z2 => ⟨hI, no (by omega)⟩, fun z2 => ⟨by omega, fun z3 => ⟨hI, no (by omega)⟩, fun z3 => ?_⟩⟩⟩⟩
    · have hw := hB.1
      have hs : s.1 = [] := List.eq_nil_of_length_eq_zero (by omega)
      have e1 : loopN (bTr (M 5) (M 83) (M 84) (M 10 8) m) (t + 1) k (bTr (M 5) (M 83) (M 84) (M 10 8) m t s) = s := by
        rw [bTr_nil hs]; exact bTrs_nil k (t + 1) hs
      rw [e1] at hK
      exact hK w a b c e hB hS
    · have e1 : bTr (M 5) (M 83) (M 84) (M 10 8) m t s = iterN (bOne (bPk (M 5) (M 83) (M 84) (M 10 8) t m) t m) (M 84 (5 * t + 3)).toNat s := if_pos ⟨z2, z3⟩
      refine c_96 hP hC (by omega) (by omega) hr hl hB hS (fun w2 a2 b2 c2 e2 hB2 hS2 => ⟨hI, ?_⟩)
      rw [← e1] at hB2 hS2
      have hsub := bTr_sub (g := M 5) (pa := M 83) (tn := M 84) (w := M 10 8) (m := m) (t := t) (s := s)
      exact ih (fun x hx => hr x (hsub.subset hx)) (Nat.le_trans hsub.length_le hl) hB2 hS2 hK
theorem lp_94_66 {d : Nat} {PV : Mm → Prop} {M : Mm} (hP : IP M) (hC : IC M) : ∀ (k m : Nat) {s : BS} {w : Int} {a b c e : Int → Int}, k + m = 301 → bQ (M 1 6) (M 5) (M 83) m 0 0 s.1 → BR s w a b c e → (∀ t, 0 ≤ t → t < 6 → s.2.1 t ≤ 48) → (∀ w a b c e, BR (loopN (bMn (M 1 6) (M 5) (M 83) (M 84) (M 10 8)) m k s) w a b c e → PV (bW M w a b c e)) → H_94_66 (d + 2) PV m (bW M w a b c e)
  | 0, m, s, w, a, b, c, e, hk, hq, hB, hS, hK => by
    exact sg_94_66 ⟨fun _ => hK w a b c e hB, fun z => by omega⟩
  | k + 1, m, s, w, a, b, c, e, hk, hq, hB, hS, hK => by
    have hn := hC.1
    have hK : ∀ w a b c e, BR (loopN (bMn (M 1 6) (M 5) (M 83) (M 84) (M 10 8)) (m + 1) k (bMn (M 1 6) (M 5) (M 83) (M 84) (M 10 8) m s)) w a b c e → PV (bW M w a b c e) := hK
    have ih := fun {s2 : BS} {w2 : Int} {a2 b2 c2 e2 : Int → Int} => lp_94_66 (d := d) (PV := PV) hP hC k (m + 1) (s := s2) (w := w2) (a := a2) (b := b2) (c := c2) (e := e2) (by omega)
    rw [show ((m + 1 : Nat) : Int) = (m : Int) + 1 by omega] at ih
    refine sg_94_66 ⟨fun z => by omega, fun _ => sg_95 ?_⟩
    obtain ⟨hw, hsl, haq, hc, he⟩ := hB
    rw [hw]
    refine lp_95_2 hn hP 8 0 rfl hq haq (fun b' hb' => ?_)
    have hq2 := bQ_ars (g := M 5) (pa := M 83) hn.1 8 0 hq
    have hr2 : ∀ c ∈ (loopN (bAr (M 1 6) (M 5) (M 83) (m : Int)) 0 8 s.1), 0 ≤ c ∧ c < M 1 6 := fun c hc => (hq2.2 c hc).1
    have hlen := bQ_len hq2
    refine lp_94_81 (s := (loopN (bAr (M 1 6) (M 5) (M 83) (m : Int)) 0 8 s.1, s.2)) hP hC (by omega) 6 0 rfl hr2 (by show (loopN (bAr (M 1 6) (M 5) (M 83) (m : Int)) 0 8 s.1).length ≤ 48; omega) ⟨rfl, hsl, hb', hc, he⟩ hS (fun w2 a2 b2 c2 e2 hB2 hS2 => ?_)
    refine ih ?_ hB2 hS2 hK
    have hsub := bTrs_sub (g := M 5) (pa := M 83) (tn := M 84) (w := M 10 8) (m := m) 6 0 (s := (loopN (bAr (M 1 6) (M 5) (M 83) (m : Int)) 0 8 s.1, s.2))
    exact bQ_min (bQ_sub hq2 hsub)
