/-! THE REFERENCE BOARDS, 2 -/
theorem lp_142_335 {d : Nat} {PV : Mm → Prop} {M : Mm} {a b c : Int → Int} {m t a4 a5 a6 : Int} {L i : Nat} (hL : L < 48) (ha6 : 0 ≤ a6 ∧ a6 < 100) {e0 : Int → Int} (hK : ∀ e, (∀ j : Nat, j < i → e j = e0 j) → (∀ j : Nat, i ≤ j → j < L → e j = e0 ((j : Int) + 1)) → H_142_212 d PV (L : Int) m t a4 a5 (a6 + 1) (mW M a b c e)) : ∀ (k x : Nat) {e : Int → Int}, k + x = L → i ≤ x → (∀ j : Nat, j < i → e j = e0 j) → (∀ j : Nat, i ≤ j → j < x → e j = e0 ((j : Int) + 1)) → (∀ j : Nat, x ≤ j → e j = e0 j) → H_142_335 d PV (L : Int) m t a4 a5 a6 x (mW M a b c e)
  | 0, x, e, hk, hx, h1, h2, h3 => by
    refine sg_142_335 ⟨fun _ => ⟨by unfold inI; omega, hK e h1 (fun j j0 j1 => h2 j j0 (by omega))⟩, fun z => by omega⟩
  | k + 1, x, e, hk, hx, h1, h2, h3 => by
    refine sg_142_335 ⟨fun z => by omega, fun _ => ⟨by unfold inI; omega, by omega, by omega, by unfold inI; omega, ?_⟩⟩
    rw [mW_88]
    have e9 : mW M a b c e 88 ((x : Int) + 1) = e0 ((x : Int) + 1) := by
      show e ((x : Int) + 1) = _
      have := h3 (x + 1) (by omega)
      rw [show ((x + 1 : Nat) : Int) = (x : Int) + 1 by omega] at this
      exact this
    rw [e9]
    have ih := lp_142_335 (d := d) (PV := PV) (M := M) (a := a) (b := b) (c := c) (m := m) (t := t) (a4 := a4) (a5 := a5) hL ha6 hK k (x + 1) (e := fset e x (e0 ((x : Int) + 1))) (by omega) (by omega) (fun j hj => by rw [fs_ne (by omega)]; exact h1 j hj) (fun j j0 j1 => by
      by_cases ej : j = x
      · subst ej; rw [fs_eq]
      · rw [fs_ne (by omega)]; exact h2 j j0 (by omega)) (fun j hj => by rw [fs_ne (by omega)]; exact h3 j (by omega))
    rw [show ((x + 1 : Nat) : Int) = (x : Int) + 1 by omega] at ih
    exact ih
theorem lp_142_254 {d : Nat} {PV : Mm → Prop} {M : Mm} {q : List Int} {a b c e : Int → Int} {m t a4 a6 : Int} (hg : ∀ c, 0 ≤ c → c < M 76 2 → 0 ≤ M 80 c ∧ M 80 c ≤ 7) (hn : 0 ≤ M 76 2 ∧ M 76 2 ≤ 48) (hr : ∀ c ∈ q, 0 ≤ c ∧ c < M 76 2) (hl : q.length ≤ 48) (hb : aq e q) (hq : H_142_286 (d + 1) PV (q.length : Int) m t a4 0 a6 ((fI (fun c => decide (M 83 (2 * M 80 c) = t)) q : Nat) : Int) (mW M a b c e)) : ∀ (r : List Int) (i : Nat), q.drop i = r → i ≤ q.length → fI (fun c => decide (M 83 (2 * M 80 c) = t)) q = i + fI (fun c => decide (M 83 (2 * M 80 c) = t)) r → H_142_254 (d + 1) PV (q.length : Int) m t a4 0 a6 i (mW M a b c e)
  | [], i, hd, hi, he => by
    have e1 := drop_n hd hi
    refine sg_142_254 ⟨fun _ => ?_, fun z => by omega⟩
    have e2 : fI (fun c => decide (M 83 (2 * M 80 c) = t)) q = i := by rw [he]; rfl
    rw [e2] at hq
    exact hq
  | x :: r, i, hd, hi, he => by
    obtain ⟨g1, g2, g3⟩ := drop_c hd
    have hbi := hb i x g1
    have hc := hr x (List.mem_of_getElem? g1)
    have hgx := hg x hc.1 hc.2
    refine sg_142_254 ⟨fun z => by omega, fun z => ⟨fun y => absurd rfl y, fun _ => ⟨by omega, ?_⟩⟩⟩
    have e88 : mW M a b c e 88 (i : Int) = x := hbi
    rw [e88]
    refine c_143 (M := mW M a b c e) (by omega) hgx ⟨fun z2 => ?_, fun z2 => ⟨by unfold inI; omega, ?_⟩⟩
    · have z2 : M 83 (2 * M 80 x) = t := z2
      have e1 : fI (fun c => decide (M 83 (2 * M 80 c) = t)) (x :: r) = 0 := by
        show (if decide (M 83 (2 * M 80 x) = t) = true then 0 else _) = _
        rw [if_pos (by rw [decide_eq_true_eq]; exact z2)]
      rw [e1, Nat.add_zero] at he
      rw [he] at hq
      exact hq
    · have z2 : ¬ M 83 (2 * M 80 x) = t := z2
      have e1 : fI (fun c => decide (M 83 (2 * M 80 c) = t)) (x :: r) = fI (fun c => decide (M 83 (2 * M 80 c) = t)) r + 1 := by
        show (if decide (M 83 (2 * M 80 x) = t) = true then 0 else _) = _
        rw [if_neg (by rw [decide_eq_true_eq]; exact z2)]
      rw [e1] at he
      have ih := lp_142_254 (d := d) hg hn hr hl hb hq r (i + 1) g3 (by omega) (by omega)
      rw [show ((i + 1 : Nat) : Int) = (i : Int) + 1 by omega] at ih
      exact ih
theorem lp_142_212 {d : Nat} {PV : Mm → Prop} {M : Mm} {t m a5 : Int} {pk : Int → Bool} (htn : tnOk (M 84) t) (hg : ∀ c, 0 ≤ c → c < M 76 2 → 0 ≤ M 80 c ∧ M 80 c ≤ 7) (hn : 0 ≤ M 76 2 ∧ M 76 2 ≤ 48) (ht : 0 ≤ t ∧ t < 6) (hm : 0 ≤ m ∧ m ≤ 300) (h0 : a5 = 0 → pk = fun c => decide (M 83 (2 * M 80 c) = t)) (h1 : ¬ a5 = 0 → ∀ c, pk c = true) : ∀ (k : Nat) {i : Int} {s : BS} {a b c e : Int → Int}, (k : Int) = M 84 (5 * t + 3) - i → 0 ≤ i → (∀ c ∈ s.1, 0 ≤ c ∧ c < M 76 2) → s.1.length ≤ 48 → MR (M 84) s a b c e → (∀ t, 0 ≤ t → t < 6 → -1 ≤ s.2.1 t ∧ s.2.1 t ≤ 48) → (∀ a b c e, MR (M 84) (iterN (bOne pk t m) k s) a b c e → (∀ t2, 0 ≤ t2 → t2 < 6 → -1 ≤ (iterN (bOne pk t m) k s).2.1 t2 ∧ (iterN (bOne pk t m) k s).2.1 t2 ≤ 48) → H_142_132 (d + 1) PV ((iterN (bOne pk t m) k s).1.length : Int) m (t + 1) (mW M a b c e)) → H_142_212 (d + 1) PV (s.1.length : Int) m t 1 a5 i (mW M a b c e)
  | 0, i, s, a, b, c, e, hk, hi, hr, hl, hB, hS, hK => by
    refine sg_142_212 ⟨by unfold inI; omega, by unfold inI; omega, by omega, fun _ => ⟨by unfold inI; omega, hK a b c e hB hS⟩, fun z => ?_⟩
    have z : i < M 84 (5 * t + 3) := z
    omega
  | k + 1, i, s, a, b, c, e, hk, hi, hr, hl, hB, hS, hK => by
    obtain ⟨ha, hbb, hsl, haq⟩ := hB
    have hst := hS t ht.1 ht.2
    have htc := hsl t ht.1 ht.2
    obtain ⟨y0, y1, y2, y3, y4⟩ := htn
    have hK2 : ∀ a b c e, MR (M 84) (iterN (bOne pk t m) k (bOne pk t m s)) a b c e → (∀ t2, 0 ≤ t2 → t2 < 6 → -1 ≤ (iterN (bOne pk t m) k (bOne pk t m s)).2.1 t2 ∧ (iterN (bOne pk t m) k (bOne pk t m s)).2.1 t2 ≤ 48) → H_142_132 (d + 1) PV ((iterN (bOne pk t m) k (bOne pk t m s)).1.length : Int) m (t + 1) (mW M a b c e) := hK
    refine sg_142_212 ⟨by unfold inI; omega, by unfold inI; omega, by omega, fun z => ?_, fun z => ⟨fun y => absurd y (by decide), fun _ => ⟨ht, by unfold inI; omega, by unfold inI; omega, by omega, fun z2 => ⟨by unfold inI; omega, ?_⟩, fun z2 => ?_⟩⟩⟩
    · have z : M 84 (5 * t + 3) ≤ i := z
      omega
    · have z2 : M 84 (5 * t + 2) ≤ c t := z2
      have ef : iterN (bOne pk t m) (k + 1) s = s := iterN_fix (bOne_no (fun q => by omega)) (k + 1)
      rw [ef] at hK
      exact hK a b c e ⟨ha, hbb, hsl, haq⟩ hS
    · have z2 : c t < M 84 (5 * t + 2) := z2
      have hi4 : i < 4 := by omega
      have main : H_142_286 (d + 1) PV (s.1.length : Int) m t 1 a5 i ((fI pk s.1 : Nat) : Int) (mW M a b c e) := by
        refine sg_142_286 ⟨fun y => ⟨by unfold inI; omega, ?_⟩, fun y => ?_⟩
        · have eo : bOne pk t m s = s := bOne_no (fun q => by omega)
          rw [eo] at hK2
          exact lp_142_212 ⟨y0, y1, y2, y3, y4⟩ hg hn ht hm h0 h1 k (by omega) (by omega) hr hl ⟨ha, hbb, hsl, haq⟩ hS hK2
        · have hlt : fI pk s.1 < s.1.length := by omega
          obtain ⟨ch, hch⟩ : ∃ ch, s.1[fI pk s.1]? = some ch := ⟨_, List.getElem?_eq_getElem hlt⟩
          have hbc := haq _ ch hch
          have hcr := hr ch (List.mem_of_getElem? hch)
          have e88 : mW M a b c e 88 ((fI pk s.1 : Nat) : Int) = ch := hbc
          have e87 : mW M a b c e 87 t = c t := rfl
          rw [e88, e87]
          refine ⟨by omega, by omega, by omega, by omega, ht, by unfold inI; omega, ht, by unfold inI; omega, ?_⟩
          rw [mW_85, mW_86, mW_87]
          have hone : bOne pk t m s = (s.1.eraseIdx (fI pk s.1), fset s.2.1 t (s.2.1 t - 1), fset s.2.2.1 ch t, fset s.2.2.2 ch m) := by
            unfold bOne
            rw [if_pos ⟨by omega, hlt⟩, getD_c hch]
          rw [hone] at hK2
          have hlen : (s.1.eraseIdx (fI pk s.1)).length = s.1.length - 1 := List.length_eraseIdx_of_lt hlt
          have el : (s.1.length : Int) + -1 = ((s.1.length - 1 : Nat) : Int) := by omega
          rw [el]
          refine lp_142_335 (e0 := e) (i := fI pk s.1) (by omega) ⟨hi, by omega⟩ (fun e' g1 g2 => ?_) (s.1.length - 1 - fI pk s.1) (fI pk s.1) (by omega) (Nat.le_refl _) (fun j hj => rfl) (fun j j0 j1 => by omega) (fun j hj => rfl)
          have := lp_142_212 (d := d) ⟨y0, y1, y2, y3, y4⟩ hg hn ht hm h0 h1 k (i := i + 1) (s := (s.1.eraseIdx (fI pk s.1), fset s.2.1 t (s.2.1 t - 1), fset s.2.2.1 ch t, fset s.2.2.2 ch m)) (a := fset a ch t) (b := fset b ch m) (c := fset c t (c t + 1)) (e := e') (by omega) (by omega) (fun x hx => hr x ((List.eraseIdx_sublist _ _).subset hx)) (by show (s.1.eraseIdx (fI pk s.1)).length ≤ 48; omega) ⟨ag_set ha, ag_set hbb, fun x x0 x1 => ?_, aq_er haq hlt g1 (fun j j0 j1 => g2 j j0 (by omega))⟩ (fun x x0 x1 => ?_) hK2
          · rw [← hlen]
            exact this
          · show fset c t (c t + 1) x = M 84 (5 * x + 2) - fset s.2.1 t (s.2.1 t - 1) x
            by_cases ex : x = t
            · rw [ps_eq ex, ps_eq ex, ex]; omega
            · rw [fs_ne ex, fs_ne ex]; exact hsl x x0 x1
          · show -1 ≤ fset s.2.1 t (s.2.1 t - 1) x ∧ fset s.2.1 t (s.2.1 t - 1) x ≤ 48
            by_cases ex : x = t
            · rw [ps_eq ex]; omega
            · rw [fs_ne ex]; exact hS x x0 x1
      by_cases y : a5 = 0
      · subst y
        have hp := h0 rfl
        rw [hp] at main
        exact lp_142_254 hg hn hr hl haq main s.1 0 rfl (Nat.zero_le _) (Nat.zero_add _).symm
      · have ef := fI_true (h1 y) s.1
        rw [ef] at main
        refine sg_142_254 ⟨fun _ => main, fun _ => ⟨fun _ => main, fun z => absurd z y⟩⟩
theorem lp_142_132 {d : Nat} {PV : Mm → Prop} {M : Mm} {m : Nat} (htn : ∀ t : Int, 0 ≤ t → t < 6 → tnOk (M 84) t) (hw : 0 ≤ M 76 11 ∧ M 76 11 ≤ 2) (hg : ∀ c, 0 ≤ c → c < M 76 2 → 0 ≤ M 80 c ∧ M 80 c ≤ 7) (hn : 0 ≤ M 76 2 ∧ M 76 2 ≤ 48) (hm : m ≤ 300) : ∀ (k t : Nat) {s : BS} {a b c e : Int → Int}, k + t = 6 → (∀ c ∈ s.1, 0 ≤ c ∧ c < M 76 2) → s.1.length ≤ 48 → MR (M 84) s a b c e → (∀ t, 0 ≤ t → t < 6 → -1 ≤ s.2.1 t ∧ s.2.1 t ≤ 48) → (∀ a b c e, MR (M 84) (loopN (bTr (M 80) (M 83) (M 84) (M 76 11) m) t k s) a b c e → (∀ t2, 0 ≤ t2 → t2 < 6 → -1 ≤ (loopN (bTr (M 80) (M 83) (M 84) (M 76 11) m) t k s).2.1 t2 ∧ (loopN (bTr (M 80) (M 83) (M 84) (M 76 11) m) t k s).2.1 t2 ≤ 48) → H_142_55 (d + 1) PV ((loopN (bTr (M 80) (M 83) (M 84) (M 76 11) m) t k s).1.length : Int) ((m : Int) + 1) (mW M a b c e)) → H_142_132 (d + 1) PV (s.1.length : Int) m t (mW M a b c e)
  | 0, t, s, a, b, c, e, hk, hr, hl, hB, hS, hK => by
    exact sg_142_132 ⟨fun _ => ⟨by unfold inI; omega, hK a b c e hB hS⟩, fun z => by omega⟩
  | k + 1, t, s, a, b, c, e, hk, hr, hl, hB, hS, hK => by
    have htt := htn t (by omega) (by omega)
    have hK : ∀ a b c e, MR (M 84) (loopN (bTr (M 80) (M 83) (M 84) (M 76 11) m) (t + 1) k (bTr (M 80) (M 83) (M 84) (M 76 11) m t s)) a b c e → (∀ t2, 0 ≤ t2 → t2 < 6 → -1 ≤ (loopN (bTr (M 80) (M 83) (M 84) (M 76 11) m) (t + 1) k (bTr (M 80) (M 83) (M 84) (M 76 11) m t s)).2.1 t2 ∧ (loopN (bTr (M 80) (M 83) (M 84) (M 76 11) m) (t + 1) k (bTr (M 80) (M 83) (M 84) (M 76 11) m t s)).2.1 t2 ≤ 48) → H_142_55 (d + 1) PV ((loopN (bTr (M 80) (M 83) (M 84) (M 76 11) m) (t + 1) k (bTr (M 80) (M 83) (M 84) (M 76 11) m t s)).1.length : Int) ((m : Int) + 1) (mW M a b c e) := hK
    have hI : inI ((t : Int) + 1) := by unfold inI; omega
    have ih := fun {s2 : BS} {a2 b2 c2 e2 : Int → Int} => lp_142_132 (d := d) (PV := PV) htn hw hg hn hm k (t + 1) (s := s2) (a := a2) (b := b2) (c := c2) (e := e2) (by omega)
    rw [show ((t + 1 : Nat) : Int) = (t : Int) + 1 by omega] at ih
    have no : ¬ (M 84 (5 * t) ≤ (m : Int) ∧ (m : Int) < M 84 (5 * t + 1)) → H_142_168 (d + 1) PV (s.1.length : Int) m t (mW M a b c e) := by
      intro z
      have e1 : bTr (M 80) (M 83) (M 84) (M 76 11) m t s = s := if_neg z
      rw [e1] at hK
      have hx := ih hr hl hB hS hK
      have fin : ∀ a5, H_142_212 (d + 1) PV (s.1.length : Int) m t 0 a5 0 (mW M a b c e) := fun a5 => sg_142_212 ⟨by unfold inI; omega, by unfold inI; omega, by omega, fun _ => ⟨hI, hx⟩, fun _ => ⟨fun _ => ⟨hI, hx⟩, fun y => absurd rfl y⟩⟩
      exact sg_142_168 (sg_142_169 ⟨fun _ => fin 1, fun _ => ⟨fun _ => fin 0, fun _ => ⟨by unfold inI; omega, by unfold inI; omega, by omega, by have := htt.2.1; show inI (M 84 (5 * (t : Int) + 1) - 5); unfold inI; omega, fun _ => fin 0, fun _ => fin 1⟩⟩⟩)
    refine sg_142_132 ⟨fun z => by omega, fun _ => ⟨by unfold inI; omega, by omega, fun z2 => no (fun q => ?_), fun z2 => ⟨by unfold inI; omega, by unfold inI; omega, by omega, fun z3 => no (fun q => ?_), fun z3 => ?_⟩⟩⟩
    · have z2 : (m : Int) < M 84 (5 * t) := z2
      omega
    · have z3 : M 84 (5 * t + 1) ≤ (m : Int) := z3
      omega
    · have z2 : M 84 (5 * t) ≤ (m : Int) := z2
      have z3 : (m : Int) < M 84 (5 * t + 1) := z3
      have e1 : bTr (M 80) (M 83) (M 84) (M 76 11) m t s = iterN (bOne (bPk (M 80) (M 83) (M 84) (M 76 11) t m) t m) (M 84 (5 * t + 3)).toNat s := if_pos ⟨z2, z3⟩
      have hsub := bTr_sub (g := M 80) (pa := M 83) (tn := M 84) (w := M 76 11) (m := m) (t := t) (s := s)
      have hk3 : (((M 84 (5 * t + 3)).toNat : Nat) : Int) = M 84 (5 * t + 3) - 0 := by
        have := htt.2.2.2.1; omega
      have cont : ∀ a b c e, MR (M 84) (iterN (bOne (bPk (M 80) (M 83) (M 84) (M 76 11) t m) t m) (M 84 (5 * t + 3)).toNat s) a b c e → (∀ t2, 0 ≤ t2 → t2 < 6 → -1 ≤ (iterN (bOne (bPk (M 80) (M 83) (M 84) (M 76 11) t m) t m) (M 84 (5 * t + 3)).toNat s).2.1 t2 ∧ (iterN (bOne (bPk (M 80) (M 83) (M 84) (M 76 11) t m) t m) (M 84 (5 * t + 3)).toNat s).2.1 t2 ≤ 48) → H_142_132 (d + 1) PV ((iterN (bOne (bPk (M 80) (M 83) (M 84) (M 76 11) t m) t m) (M 84 (5 * t + 3)).toNat s).1.length : Int) m ((t : Int) + 1) (mW M a b c e) := by
        intro a2 b2 c2 e2 hB2 hS2
        rw [← e1] at hB2 hS2 ⊢
        exact ih (fun x hx => hr x (hsub.subset hx)) (Nat.le_trans hsub.length_le hl) hB2 hS2 hK
      have any : (M 76 11 = 0 ∨ (M 76 11 = 2 ∧ M 84 (5 * t + 1) - 5 ≤ (m : Int))) → H_142_212 (d + 1) PV (s.1.length : Int) m t 1 1 0 (mW M a b c e) := by
        intro z
        refine lp_142_212 (pk := bPk (M 80) (M 83) (M 84) (M 76 11) t m) htt hg hn (by omega) (by omega) (fun y => absurd y (by decide)) (fun _ x => ?_) _ hk3 (Int.le_refl 0) hr hl hB hS cont
        unfold bPk
        rcases z with z | z
        · rw [decide_eq_true z]; rfl
        · rw [decide_eq_true z.1, decide_eq_true z.2]; simp
      have lab : ¬ (M 76 11 = 0 ∨ (M 76 11 = 2 ∧ M 84 (5 * t + 1) - 5 ≤ (m : Int))) → H_142_212 (d + 1) PV (s.1.length : Int) m t 1 0 0 (mW M a b c e) := by
        intro z
        refine lp_142_212 (pk := bPk (M 80) (M 83) (M 84) (M 76 11) t m) htt hg hn (by omega) (by omega) (fun _ => ?_) (fun y => absurd rfl y) _ hk3 (Int.le_refl 0) hr hl hB hS cont
        funext x
        unfold bPk
        rw [decide_eq_false (fun y => z (Or.inl y)), Bool.false_or]
        by_cases y : M 76 11 = 2
        · rw [decide_eq_false (p := M 84 (5 * (t : Int) + 1) - 5 ≤ (m : Int)) (fun q => z (Or.inr ⟨y, q⟩)), Bool.and_false, Bool.false_or]
        · rw [decide_eq_false y, Bool.false_and, Bool.false_or]
      have e7 : mW M a b c e 76 11 = M 76 11 := rfl
      have e8 : mW M a b c e 84 = M 84 := rfl
      refine sg_142_169 ?_
      rw [e7, e8]
      exact ⟨fun z => any (Or.inl z), fun z => ⟨fun y => lab (by omega), fun y => ⟨by unfold inI; omega, by unfold inI; omega, by omega, by have := htt.2.1; unfold inI; omega, fun x => lab (by omega), fun x => any (Or.inr ⟨y, x⟩)⟩⟩⟩
theorem lp_142_55 {d : Nat} {PV : Mm → Prop} {M : Mm} (htn : ∀ t : Int, 0 ≤ t → t < 6 → tnOk (M 84) t) (hw : 0 ≤ M 76 11 ∧ M 76 11 ≤ 2) (hg : ∀ c, 0 ≤ c → c < M 76 2 → 0 ≤ M 80 c ∧ M 80 c ≤ 7) (hn : 0 ≤ M 76 2 ∧ M 76 2 ≤ 48) : ∀ (k m : Nat) {s : BS} {a b c e : Int → Int}, k + m = 301 → bQ (M 76 2) (M 80) (M 83) m 0 0 s.1 → MR (M 84) s a b c e → (∀ t, 0 ≤ t → t < 6 → -1 ≤ s.2.1 t ∧ s.2.1 t ≤ 48) → (∀ a b c e, MR (M 84) (loopN (bMn (M 76 2) (M 80) (M 83) (M 84) (M 76 11)) m k s) a b c e → PV (mW M a b c e)) → H_142_55 (d + 1) PV (s.1.length : Int) m (mW M a b c e)
  | 0, m, s, a, b, c, e, hk, hq, hB, hS, hK => sg_142_55 ⟨fun _ => hK a b c e hB, fun z => by omega⟩
  | k + 1, m, s, a, b, c, e, hk, hq, hB, hS, hK => by
    have hK : ∀ a b c e, MR (M 84) (loopN (bMn (M 76 2) (M 80) (M 83) (M 84) (M 76 11)) (m + 1) k (bMn (M 76 2) (M 80) (M 83) (M 84) (M 76 11) m s)) a b c e → PV (mW M a b c e) := hK
    have ih := fun {s2 : BS} {a2 b2 c2 e2 : Int → Int} => lp_142_55 (d := d) (PV := PV) htn hw hg hn k (m + 1) (s := s2) (a := a2) (b := b2) (c := c2) (e := e2) (by omega)
    rw [show ((m + 1 : Nat) : Int) = (m : Int) + 1 by omega] at ih
    obtain ⟨ha, hbb, hsl, haq⟩ := hB
    refine sg_142_55 ⟨fun z => by omega, fun _ => ?_⟩
    refine lp_142_64 hn 8 0 rfl hq haq (fun e' he' => ?_)
    have hq2 := bQ_ars (g := M 80) (pa := M 83) hn.1 8 0 hq
    have hlen := bQ_len hq2
    refine lp_142_132 (s := (loopN (bAr (M 76 2) (M 80) (M 83) (m : Int)) 0 8 s.1, s.2)) htn hw hg hn (by omega) 6 0 rfl (fun c hc => (hq2.2 c hc).1) (by show (loopN (bAr (M 76 2) (M 80) (M 83) (m : Int)) 0 8 s.1).length ≤ 48; omega) ⟨ha, hbb, hsl, he'⟩ hS (fun a2 b2 c2 e2 hB2 hS2 => ?_)
    refine ih ?_ hB2 hS2 hK
    have hsub := bTrs_sub (g := M 80) (pa := M 83) (tn := M 84) (w := M 76 11) (m := m) 6 0 (s := (loopN (bAr (M 76 2) (M 80) (M 83) (m : Int)) 0 8 s.1, s.2))
    exact bQ_min (bQ_sub hq2 hsub)
theorem lp_142_32 {d : Nat} {PV : Mm → Prop} {M : Mm} {a b e : Int → Int} (hK : ∀ c, (∀ t, 0 ≤ t → t < 6 → c t = 0) → H_142_55 d PV 0 0 (mW M a b c e)) : ∀ (k t : Nat) {c : Int → Int}, k + t = 6 → (∀ x, 0 ≤ x → x < (t : Int) → c x = 0) → H_142_32 d PV t (mW M a b c e)
  | 0, t, c, hk, hc => sg_142_32 ⟨fun _ => hK c (fun x x0 x1 => hc x x0 (by omega)), fun z => by omega⟩
  | k + 1, t, c, hk, hc => by
    refine sg_142_32 ⟨fun z => by omega, fun _ => ⟨by omega, by unfold inI; omega, ?_⟩⟩
    rw [mW_87]
    have ih := lp_142_32 (d := d) hK k (t + 1) (c := fset c t 0) (by omega) (fun x x0 x1 => by
      by_cases ex : x = (t : Int)
      · rw [ps_eq ex]
      · rw [fs_ne ex]; exact hc x x0 (by omega))
    rw [show ((t + 1 : Nat) : Int) = (t : Int) + 1 by omega] at ih
    exact ih
theorem lp_142_2 {d : Nat} {PV : Mm → Prop} {M : Mm} {c e : Int → Int} (hK : ∀ a b, ag a (fun _ => -9) → ag b (fun _ => -9) → H_142_32 d PV 0 (mW M a b c e)) : ∀ (k i : Nat) {a b : Int → Int}, k + i = 48 → (∀ x, 0 ≤ x → x < (i : Int) → a x = -9 ∧ b x = -9) → H_142_2 d PV i (mW M a b c e)
  | 0, i, a, b, hk, hc => sg_142_2 ⟨fun _ => hK a b (fun x x0 x1 => (hc x x0 (by omega)).1) (fun x x0 x1 => (hc x x0 (by omega)).2), fun z => by omega⟩
  | k + 1, i, a, b, hk, hc => by
    refine sg_142_2 ⟨fun z => by omega, fun _ => ⟨by omega, by omega, by unfold inI; omega, ?_⟩⟩
    rw [mW_85, mW_86]
    have ih := lp_142_2 (d := d) hK k (i + 1) (a := fset a i (-9)) (b := fset b i (-9)) (by omega) (fun x x0 x1 => by
      by_cases ex : x = (i : Int)
      · rw [ps_eq ex, ps_eq ex]; exact ⟨rfl, rfl⟩
      · rw [fs_ne ex, fs_ne ex]; exact hc x x0 (by omega))
    rw [show ((i + 1 : Nat) : Int) = (i : Int) + 1 by omega] at ih
    exact ih
theorem c_142 {d : Nat} {PV : Mm → Prop} {M : Mm} (hP : IP M) (hC : IC M) (hK : ∀ a b c e, ag a (bT (M 1 6) (M 5) (M 83) (M 84) (M 10 8)) → ag b (bM (M 1 6) (M 5) (M 83) (M 84) (M 10 8)) → PV (mW M a b c e)) : EE (d + 2) 142 [vR 76] M (rV PV) := by
  have hn := hC.1
  have hn2 := hC.2.1
  have e80 := hC.2.2.1.2.2.2
  have hw := hP.2.2.2.2
  rw [← hn2, ← e80, ← hw.1] at hK
  refine sg_142 ?_
  have e1 : M = mW M (M 85) (M 86) (M 87) (M 88) := mW_id.symm
  have key : H_142_2 (d + 1) PV ((0 : Nat) : Int) (mW M (M 85) (M 86) (M 87) (M 88)) := by
    refine lp_142_2 (fun a b ha hb => ?_) 48 0 rfl (fun x x0 x1 => by omega)
    refine lp_142_32 (fun c hc => ?_) 6 0 rfl (fun x x0 x1 => by omega)
    refine lp_142_55 hP.2.2.2.1 (by omega) (fun c c0 c1 => by rw [e80]; exact (hC.2.2.2 c c0 (by omega)).2.2.2) (by omega) 301 0 (s := ([], (fun t => M 84 (5 * t + 2)), (fun _ => -9), (fun _ => -9))) rfl ⟨List.nodup_nil, (fun c hc => by cases hc)⟩ ⟨ha, hb, (fun t t0 t1 => by show c t = M 84 (5 * t + 2) - M 84 (5 * t + 2); rw [hc t t0 t1]; omega), (fun j c hj => by cases hj)⟩ (fun t t0 t1 => by have := (hP.2.2.2.1 t t0 t1).2.2.1; show -1 ≤ M 84 (5 * t + 2) ∧ M 84 (5 * t + 2) ≤ 48; omega) (fun a b c e hR => ?_)
    exact hK a b c e hR.1 hR.2.1
  rw [← e1] at key
  exact key
