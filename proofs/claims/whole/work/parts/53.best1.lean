/-! lodging: as many as the narrowest cut -/
theorem cp_mono {l : List Int} {p q : Int → Bool} (h : ∀ x ∈ l, p x = true → q x = true) : l.countP p ≤ l.countP q :=
  List.countP_mono_left h
theorem cp_or {p q : Int → Bool} : ∀ l : List Int, l.countP (fun x => p x && q x) + l.countP (fun x => p x || q x) = l.countP p + l.countP q
  | [] => rfl
  | x :: l => by
    have ih := cp_or (p := p) (q := q) l
    simp only [List.countP_cons]
    cases p x <;> cases q x <;> simp <;> omega
/-- the cut P: those not in P, and the beds that someone of P may have -/
def cutN (tk : Int → Int → Bool) (C0 C B : List Int) (P : Int → Bool) : Nat := C.countP (fun c => !P c) + B.countP (fun h => C0.any (fun c => P c && tk h c))
theorem cut_mod {tk : Int → Int → Bool} {C0 C B : List Int} {P Q : Int → Bool} : cutN tk C0 C B (fun c => P c && Q c) + cutN tk C0 C B (fun c => P c || Q c) ≤ cutN tk C0 C B P + cutN tk C0 C B Q := by
  unfold cutN
  have e1 := cp_or (p := fun c => !P c) (q := fun c => !Q c) C
  have e2 := cp_or (p := fun h => C0.any (fun c => P c && tk h c)) (q := fun h => C0.any (fun c => Q c && tk h c)) B
  have a1 : C.countP (fun c => !(P c && Q c)) = C.countP (fun c => !P c || !Q c) := by
    congr 1; funext c; cases P c <;> cases Q c <;> rfl
  have a2 : C.countP (fun c => !(P c || Q c)) = C.countP (fun c => !P c && !Q c) := by
    congr 1; funext c; cases P c <;> cases Q c <;> rfl
  have b1 : B.countP (fun h => C0.any (fun c => (P c && Q c) && tk h c)) ≤ B.countP (fun h => C0.any (fun c => P c && tk h c) && C0.any (fun c => Q c && tk h c)) := by
    refine cp_mono (fun h _ hh => ?_)
    obtain ⟨c, c1, c2⟩ := List.any_eq_true.mp hh
    simp only [Bool.and_eq_true] at c2 ⊢
    exact ⟨List.any_eq_true.mpr ⟨c, c1, by simp only [Bool.and_eq_true]; exact ⟨c2.1.1, c2.2⟩⟩, List.any_eq_true.mpr ⟨c, c1, by simp only [Bool.and_eq_true]; exact ⟨c2.1.2, c2.2⟩⟩⟩
  have b2 : B.countP (fun h => C0.any (fun c => (P c || Q c) && tk h c)) ≤ B.countP (fun h => C0.any (fun c => P c && tk h c) || C0.any (fun c => Q c && tk h c)) := by
    refine cp_mono (fun h _ hh => ?_)
    obtain ⟨c, c1, c2⟩ := List.any_eq_true.mp hh
    simp only [Bool.and_eq_true, Bool.or_eq_true] at c2 ⊢
    rcases c2.1 with y | y
    · exact Or.inl (List.any_eq_true.mpr ⟨c, c1, by simp only [Bool.and_eq_true]; exact ⟨y, c2.2⟩⟩)
    · exact Or.inr (List.any_eq_true.mpr ⟨c, c1, by simp only [Bool.and_eq_true]; exact ⟨y, c2.2⟩⟩)
  show C.countP (fun c => !(P c && Q c)) + B.countP (fun h => C0.any (fun c => (P c && Q c) && tk h c)) + (C.countP (fun c => !(P c || Q c)) + B.countP (fun h => C0.any (fun c => (P c || Q c) && tk h c))) ≤ _
  rw [a1, a2]
  omega
theorem cut_del {tk : Int → Int → Bool} {C0 C B : List Int} {P : Int → Bool} {x : Int} (hx : ¬ x ∈ C) : cutN tk C0 C B (fun c => P c && !decide (c = x)) ≤ cutN tk C0 C B P := by
  unfold cutN
  have a : C.countP (fun c => !(P c && !decide (c = x))) = C.countP (fun c => !P c) := by
    refine List.countP_congr (fun c hc => ?_)
    have : ¬ c = x := fun y => hx (y ▸ hc)
    rw [decide_eq_false this]
    simp
  have b : B.countP (fun h => C0.any (fun c => (P c && !decide (c = x)) && tk h c)) ≤ B.countP (fun h => C0.any (fun c => P c && tk h c)) := by
    refine cp_mono (fun h _ hh => ?_)
    obtain ⟨c, c1, c2⟩ := List.any_eq_true.mp hh
    simp only [Bool.and_eq_true] at c2
    exact List.any_eq_true.mpr ⟨c, c1, by simp only [Bool.and_eq_true]; exact ⟨c2.1.1, c2.2⟩⟩
  show C.countP (fun c => !(P c && !decide (c = x))) + B.countP (fun h => C0.any (fun c => (P c && !decide (c = x)) && tk h c)) ≤ _
  omega
/-- the bed's dead end -/
theorem cut_dead {tk : Int → Int → Bool} {C0 C B : List Int} {h : Int} {F : Nat} (hF : ∀ P : Int → Bool, F ≤ cutN tk C0 C (h :: B) P) (h0 : ∃ P : Int → Bool, cutN tk C0 C B P < F) (hx : ∀ x ∈ C, tk h x = true → ∃ P : Int → Bool, cutN tk C0 C B P < F ∧ P x = false) : ∀ X : List Int, ∃ P : Int → Bool, cutN tk C0 C B P < F ∧ ∀ x ∈ X, tk h x = true → P x = false
  | [] => by
    obtain ⟨P, hP⟩ := h0
    exact ⟨P, hP, fun x hx => absurd hx List.not_mem_nil⟩
  | x :: X => by
    obtain ⟨P, hP, hP2⟩ := cut_dead hF h0 hx X
    have ge : ∀ P : Int → Bool, F ≤ cutN tk C0 C B P + 1 := by
      intro P
      have := hF P
      unfold cutN at this ⊢
      rw [List.countP_cons] at this
      split at this <;> omega
    by_cases ht : tk h x = true
    · by_cases hc : x ∈ C
      · obtain ⟨Q, hQ, hQ2⟩ := hx x hc ht
        have m := cut_mod (tk := tk) (C0 := C0) (C := C) (B := B) (P := P) (Q := Q)
        have g := ge (fun c => P c || Q c)
        have g2 := ge P
        have g3 := ge Q
        refine ⟨fun c => P c && Q c, by omega, fun y hy hy2 => ?_⟩
        rcases List.mem_cons.mp hy with e | e
        · subst e; show (P y && Q y) = false; rw [hQ2]; cases P y <;> rfl
        · show (P y && Q y) = false; rw [hP2 y e hy2]; rfl
      · have m := cut_del (tk := tk) (C0 := C0) (B := B) (P := P) hc
        refine ⟨fun c => P c && !decide (c = x), by omega, fun y hy hy2 => ?_⟩
        rcases List.mem_cons.mp hy with e | e
        · subst e; show (P y && !decide (y = y)) = false; rw [decide_eq_true rfl]; cases P y <;> rfl
        · show (P y && !decide (y = x)) = false; rw [hP2 y e hy2]; rfl
    · refine ⟨P, hP, fun y hy hy2 => ?_⟩
      rcases List.mem_cons.mp hy with e | e
      · subst e; exact absurd hy2 ht
      · exact hP2 y e hy2
theorem cut_er {tk : Int → Int → Bool} {C0 C B : List Int} {P : Int → Bool} {x : Int} (hx : x ∈ C) : cutN tk C0 C B P = cutN tk C0 (C.erase x) B P + (if P x = true then 0 else 1) := by
  unfold cutN
  have p := List.perm_cons_erase hx
  rw [p.countP_eq, List.countP_cons]
  cases P x <;> simp <;> omega
theorem konig {tk : Int → Int → Bool} {C0 : List Int} : ∀ (B C : List Int) (F : Nat), C.Nodup → (∀ h ∈ B, ¬ h = -9) → (∀ P : Int → Bool, F ≤ cutN tk C0 C B P) → ∃ a : Int → Int, (∀ c, ¬ c ∈ C → a c = -9) ∧ (∀ c ∈ C, a c = -9 ∨ (a c ∈ B ∧ tk (a c) c = true)) ∧ (∀ h, ¬ h = -9 → C.countP (fun c => decide (a c = h)) ≤ B.countP (fun x => decide (x = h))) ∧ F ≤ C.countP (fun c => !decide (a c = -9))
  | [], C, F, hC, hB, hF => by
    refine ⟨fun _ => -9, fun _ _ => rfl, fun _ _ => Or.inl rfl, fun h hh => ?_, ?_⟩
    · rw [List.countP_eq_zero.mpr]
      · exact Nat.zero_le _
      · intro c _ y
        exact hh (of_decide_eq_true y).symm
    · have := hF (fun _ => true)
      unfold cutN at this
      rw [List.countP_eq_zero.mpr (by intro c _ y; exact Bool.noConfusion y)] at this
      have e : F = 0 := Nat.le_zero.mp this
      rw [e]; exact Nat.zero_le _
  | h :: B, C, F, hC, hB, hF => by
    have hh : ¬ h = -9 := hB h (List.mem_cons_self ..)
    have hB2 : ∀ x ∈ B, ¬ x = -9 := fun x hx => hB x (List.mem_cons_of_mem _ hx)
    by_cases hi : ∀ P : Int → Bool, F ≤ cutN tk C0 C B P
    · obtain ⟨a, a0, a1, a2, a3⟩ := konig B C F hC hB2 hi
      refine ⟨a, a0, fun c hc => ?_, fun x hx => Nat.le_trans (a2 x hx) ?_, a3⟩
      · rcases a1 c hc with y | y
        · exact Or.inl y
        · exact Or.inr ⟨List.mem_cons_of_mem _ y.1, y.2⟩
      · rw [List.countP_cons]; omega
    · by_cases hii : ∃ x ∈ C, tk h x = true ∧ ∀ P : Int → Bool, F ≤ cutN tk C0 (C.erase x) B P + 1
      · obtain ⟨x, x1, x2, x3⟩ := hii
        have hnd := hC.erase x
        have hxe : ¬ x ∈ C.erase x := fun y => (hC.not_mem_erase) y
        obtain ⟨a, a0, a1, a2, a3⟩ := konig (tk := tk) (C0 := C0) B (C.erase x) (F - 1) hnd hB2 (fun P => by have := x3 P; omega)
        have p := List.perm_cons_erase x1
        have same : ∀ c, c ∈ C.erase x → ¬ c = x := fun c hc y => hxe (y ▸ hc)
        refine ⟨fun c => if c = x then h else a c, fun c hc => ?_, fun c hc => ?_, fun y hy => ?_, ?_⟩
        · have : ¬ c = x := fun y => hc (y ▸ x1)
          show (if c = x then h else a c) = -9
          rw [if_neg this]
          exact a0 c (fun y => hc (List.mem_of_mem_erase y))
        · show (if c = x then h else a c) = -9 ∨ ((if c = x then h else a c) ∈ h :: B ∧ tk (if c = x then h else a c) c = true)
          by_cases e : c = x
          · rw [if_pos e]; subst e; exact Or.inr ⟨List.mem_cons_self .., x2⟩
          · rw [if_neg e]
            have : c ∈ C.erase x := (List.mem_erase_of_ne e).mpr hc
            rcases a1 c this with y | y
            · exact Or.inl y
            · exact Or.inr ⟨List.mem_cons_of_mem _ y.1, y.2⟩
        · rw [p.countP_eq, List.countP_cons, List.countP_cons]
          have e : (C.erase x).countP (fun c => decide ((if c = x then h else a c) = y)) = (C.erase x).countP (fun c => decide (a c = y)) := by
            refine List.countP_congr (fun c hc => ?_)
            rw [if_neg (same c hc)]
          rw [e]
          show _ + (if decide ((if x = x then h else a x) = y) = true then 1 else 0) ≤ _
          rw [if_pos rfl]
          have := a2 y hy
          omega
        · rw [p.countP_eq, List.countP_cons]
          have e : (C.erase x).countP (fun c => !decide ((if c = x then h else a c) = -9)) = (C.erase x).countP (fun c => !decide (a c = -9)) := by
            refine List.countP_congr (fun c hc => ?_)
            rw [if_neg (same c hc)]
          rw [e]
          show _ ≤ _ + (if (!decide ((if x = x then h else a x) = -9)) = true then 1 else 0)
          rw [if_pos rfl, decide_eq_false hh, show (!false) = true from rfl, if_pos rfl]
          omega
      · exfalso
        have h0 : ∃ P : Int → Bool, cutN tk C0 C B P < F := by
          apply Classical.byContradiction
          intro y
          exact hi (fun P => Nat.le_of_not_lt (fun z => y ⟨P, z⟩))
        have hx : ∀ x ∈ C, tk h x = true → ∃ P : Int → Bool, cutN tk C0 C B P < F ∧ P x = false := by
          intro x hx ht
          have : ∃ P : Int → Bool, cutN tk C0 (C.erase x) B P + 1 < F := by
            apply Classical.byContradiction
            intro y
            exact hii ⟨x, hx, ht, fun P => Nat.le_of_not_lt (fun z => y ⟨P, z⟩)⟩
          obtain ⟨P, hP⟩ := this
          have e := cut_er (tk := tk) (C0 := C0) (B := B) (P := P) hx
          have g := hF P
          have g2 : cutN tk C0 C (h :: B) P ≤ cutN tk C0 C B P + 1 := by
            unfold cutN
            rw [List.countP_cons]
            split <;> omega
          cases hpx : P x with
          | false =>
            rw [hpx, if_neg (by decide)] at e
            exact ⟨P, by omega, hpx⟩
          | true =>
            rw [hpx, if_pos rfl] at e
            omega
        obtain ⟨P, hP, hP2⟩ := cut_dead hF h0 hx C0
        have g := hF P
        unfold cutN at g hP
        rw [List.countP_cons, if_neg] at g
        · omega
        · intro y
          obtain ⟨c, c1, c2⟩ := List.any_eq_true.mp y
          simp only [Bool.and_eq_true] at c2
          have := hP2 c c1 c2.2
          rw [this] at c2
          exact absurd c2.1 (by decide)
/-! lodging: sets of members as bits -/
def mkM (p : Nat → Bool) : Nat → Nat
  | 0 => 0
  | n + 1 => mkM p n ||| (if p n = true then 2 ^ n else 0)
def cnB (p : Nat → Bool) : Nat → Nat
  | 0 => 0
  | n + 1 => cnB p n + (if p n = true then 1 else 0)
def smB (f : Nat → Nat) : Nat → Nat
  | 0 => 0
  | n + 1 => smB f n + f n
theorem mkM_lt {p : Nat → Bool} : ∀ n : Nat, mkM p n < 2 ^ n
  | 0 => by show 0 < 1; omega
  | n + 1 => by
    have ih := mkM_lt (p := p) n
    refine Nat.or_lt_two_pow (Nat.lt_of_lt_of_le ih (Nat.pow_le_pow_right (by omega) (by omega))) ?_
    split
    · exact Nat.pow_lt_pow_right (by omega) (by omega)
    · exact Nat.two_pow_pos _
theorem mkM_t {p : Nat → Bool} {i : Nat} : ∀ n : Nat, (mkM p n).testBit i = (decide (i < n) && p i)
  | 0 => by
    show (0 : Nat).testBit i = _
    rw [Nat.zero_testBit, decide_eq_false (by omega)]; rfl
  | n + 1 => by
    have ih := mkM_t (p := p) (i := i) n
    show (mkM p n ||| (if p n = true then 2 ^ n else 0)).testBit i = _
    rw [Nat.testBit_or, ih]
    by_cases e : i = n
    · subst e
      rw [decide_eq_false (by omega), decide_eq_true (by omega)]
      cases p i with
      | true => rw [if_pos rfl, Nat.testBit_two_pow_self]; rfl
      | false => rw [if_neg (by decide), Nat.zero_testBit]; rfl
    · have h2 : (if p n = true then 2 ^ n else 0).testBit i = false := by
        split
        · exact Nat.testBit_two_pow_of_ne (fun y => e y.symm)
        · exact Nat.zero_testBit i
      rw [h2, Bool.or_false]
      by_cases l : i < n
      · rw [decide_eq_true l, decide_eq_true (show i < n + 1 by omega)]
      · rw [decide_eq_false l, decide_eq_false (show ¬ i < n + 1 by omega)]
theorem bit_eq {S T n : Nat} (hS : S < 2 ^ n) (hT : T < 2 ^ n) (h : ∀ i, i < n → S.testBit i = T.testBit i) : S = T := by
  refine Nat.eq_of_testBit_eq (fun i => ?_)
  by_cases l : i < n
  · exact h i l
  · rw [Nat.testBit_lt_two_pow (Nat.lt_of_lt_of_le hS (Nat.pow_le_pow_right (by omega) (by omega))), Nat.testBit_lt_two_pow (Nat.lt_of_lt_of_le hT (Nat.pow_le_pow_right (by omega) (by omega)))]
theorem bit_lt {S n i : Nat} (hS : S < 2 ^ n) (h : S.testBit i = true) : i < n := by
  by_cases l : i < n
  · exact l
  · rw [Nat.testBit_lt_two_pow (Nat.lt_of_lt_of_le hS (Nat.pow_le_pow_right (by omega) (by omega)))] at h
    exact absurd h (by decide)
theorem lt_bit {S k : Nat} (h : ∀ i, S.testBit i = true → i < k) : S < 2 ^ k := by
  refine Nat.lt_pow_two_of_testBit _ (fun i hi => ?_)
  cases hb : S.testBit i with
  | false => rfl
  | true => have := h i hb; omega
theorem cnB_congr {p q : Nat → Bool} : ∀ {n : Nat}, (∀ i, i < n → p i = q i) → cnB p n = cnB q n
  | 0, _ => rfl
  | n + 1, h => by
    have ih := cnB_congr (p := p) (q := q) (n := n) (fun i hi => h i (by omega))
    show cnB p n + _ = cnB q n + _
    rw [ih, h n (by omega)]
theorem smB_congr {f g : Nat → Nat} : ∀ {n : Nat}, (∀ i, i < n → f i = g i) → smB f n = smB g n
  | 0, _ => rfl
  | n + 1, h => by
    have ih := smB_congr (f := f) (g := g) (n := n) (fun i hi => h i (by omega))
    show smB f n + _ = smB g n + _
    rw [ih, h n (by omega)]
theorem smB_le {f g : Nat → Nat} : ∀ {n : Nat}, (∀ i, i < n → f i ≤ g i) → smB f n ≤ smB g n
  | 0, _ => Nat.le_refl 0
  | n + 1, h => by
    have ih := smB_le (f := f) (g := g) (n := n) (fun i hi => h i (by omega))
    have := h n (by omega)
    show smB f n + _ ≤ smB g n + _
    omega
theorem smB_add {f g : Nat → Nat} : ∀ n : Nat, smB (fun i => f i + g i) n = smB f n + smB g n
  | 0 => rfl
  | n + 1 => by
    have ih := smB_add (f := f) (g := g) n
    show smB (fun i => f i + g i) n + (f n + g n) = smB f n + f n + (smB g n + g n)
    omega
theorem cnB_sm {p : Nat → Bool} : ∀ n : Nat, cnB p n = smB (fun i => if p i = true then 1 else 0) n
  | 0 => rfl
  | n + 1 => by
    have ih := cnB_sm (p := p) n
    show cnB p n + _ = smB _ n + _
    rw [ih]
theorem cnB_le {p : Nat → Bool} : ∀ n : Nat, cnB p n ≤ n
  | 0 => Nat.le_refl 0
  | n + 1 => by
    have ih := cnB_le (p := p) n
    show cnB p n + (if p n = true then 1 else 0) ≤ n + 1
    split <;> omega
theorem cnB_mono {p q : Nat → Bool} : ∀ {n : Nat}, (∀ i, i < n → p i = true → q i = true) → cnB p n ≤ cnB q n
  | 0, _ => Nat.le_refl 0
  | n + 1, h => by
    have ih := cnB_mono (p := p) (q := q) (n := n) (fun i hi => h i (by omega))
    have := h n (by omega)
    show cnB p n + (if p n = true then 1 else 0) ≤ cnB q n + (if q n = true then 1 else 0)
    cases hp : p n with
    | false => rw [if_neg (by decide)]; omega
    | true => rw [this hp, if_pos rfl]; omega
theorem cnB_0 {p : Nat → Bool} : ∀ {n : Nat}, (∀ i, i < n → p i = false) → cnB p n = 0
  | 0, _ => rfl
  | n + 1, h => by
    have ih := cnB_0 (p := p) (n := n) (fun i hi => h i (by omega))
    show cnB p n + (if p n = true then 1 else 0) = 0
    rw [ih, h n (by omega)]; rfl
theorem cnB_ext {p : Nat → Bool} {n : Nat} : ∀ k : Nat, (∀ i, n ≤ i → p i = false) → cnB p (n + k) = cnB p n
  | 0, _ => rfl
  | k + 1, h => by
    have ih := cnB_ext (p := p) (n := n) k h
    show cnB p (n + k) + (if p (n + k) = true then 1 else 0) = _
    rw [ih, h (n + k) (by omega)]; rfl
theorem cnB_or {p q r : Nat → Bool} : ∀ {n : Nat}, (∀ i, i < n → (if r i = true then 1 else 0) = (if p i = true then 1 else 0) + (if q i = true then 1 else 0)) → cnB r n = cnB p n + cnB q n
  | 0, _ => rfl
  | n + 1, h => by
    have ih := cnB_or (p := p) (q := q) (r := r) (n := n) (fun i hi => h i (by omega))
    have := h n (by omega)
    show cnB r n + (if r n = true then 1 else 0) = cnB p n + (if p n = true then 1 else 0) + (cnB q n + (if q n = true then 1 else 0))
    omega
theorem cnB_1 {i : Nat} : ∀ n : Nat, cnB (fun t => decide (t = i)) n = if i < n then 1 else 0
  | 0 => by rw [if_neg (by omega)]; rfl
  | n + 1 => by
    have ih := cnB_1 (i := i) n
    show cnB (fun t => decide (t = i)) n + (if decide (n = i) = true then 1 else 0) = _
    rw [ih]
    by_cases e : n = i
    · subst e; rw [if_neg (by omega), if_pos (by simp), if_pos (by omega)]
    · rw [if_neg (show ¬ decide (n = i) = true by simp [e])]
      by_cases l : i < n
      · rw [if_pos l, if_pos (by omega)]
      · rw [if_neg l, if_neg (by omega)]
def pcB (S : Nat) : Nat := cnB (fun i => S.testBit i) 12
theorem pcB_add {S i : Nat} (hi : i < 12) (h : S.testBit i = false) : pcB (S ||| 2 ^ i) = pcB S + 1 := by
  have e : cnB (fun t => decide (t = i)) 12 = 1 := by rw [cnB_1, if_pos hi]
  unfold pcB
  rw [← e]
  refine cnB_or (fun t ht => ?_)
  rw [Nat.testBit_or]
  by_cases y : t = i
  · subst y
    rw [h, Nat.testBit_two_pow_self, decide_eq_true rfl]; rfl
  · rw [Nat.testBit_two_pow_of_ne (fun z => y z.symm), Bool.or_false, decide_eq_false y]; rfl
/-- two kin in the set I -/
def prK (K : Nat → Nat) (I : Nat) : Nat := smB (fun i => if I.testBit i = true then cnB (fun t => (K i).testBit t && I.testBit t) i else 0) 12
theorem smB_ext {f : Nat → Nat} {n : Nat} : ∀ k : Nat, (∀ i, n ≤ i → f i = 0) → smB f (n + k) = smB f n
  | 0, _ => rfl
  | k + 1, h => by
    have ih := smB_ext (f := f) (n := n) k h
    show smB f (n + k) + f (n + k) = _
    rw [ih, h (n + k) (by omega)]; rfl
theorem smB_ext2 {f : Nat → Nat} {n m : Nat} (hn : n ≤ m) (h : ∀ i, n ≤ i → f i = 0) : smB f m = smB f n := by
  have := smB_ext (f := f) (n := n) (m - n) h
  rw [show n + (m - n) = m by omega] at this; exact this
theorem cnB_ext2 {p : Nat → Bool} {n m : Nat} (hn : n ≤ m) (h : ∀ i, n ≤ i → p i = false) : cnB p m = cnB p n := by
  have := cnB_ext (p := p) (n := n) (m - n) h
  rw [show n + (m - n) = m by omega] at this; exact this
theorem hi_bit {I i t : Nat} (h : I < 2 ^ i) (ht : i ≤ t) : I.testBit t = false :=
  Nat.testBit_lt_two_pow (Nat.lt_of_lt_of_le h (Nat.pow_le_pow_right (by omega) ht))
theorem prK_add {K : Nat → Nat} {I i : Nat} (hi : i < 12) (h : I < 2 ^ i) : prK K (I ||| 2 ^ i) = prK K I + pcB (K i &&& I) := by
  have bo : ∀ t, t < i → (I ||| 2 ^ i).testBit t = I.testBit t := fun t ht => by
    rw [Nat.testBit_or, Nat.testBit_two_pow_of_ne (by omega), Bool.or_false]
  have bi : (I ||| 2 ^ i).testBit i = true := by rw [Nat.testBit_or, Nat.testBit_two_pow_self, Bool.or_true]
  have bh : ∀ t, i + 1 ≤ t → (I ||| 2 ^ i).testBit t = false := fun t ht => by
    rw [Nat.testBit_or, Nat.testBit_two_pow_of_ne (by omega), Bool.or_false]
    exact hi_bit h (by omega)
  have e1 : prK K (I ||| 2 ^ i) = smB (fun i' => if (I ||| 2 ^ i).testBit i' = true then cnB (fun t => (K i').testBit t && (I ||| 2 ^ i).testBit t) i' else 0) (i + 1) := smB_ext2 (by omega) (fun t ht => by rw [bh t ht]; rfl)
  have e2 : prK K I = smB (fun i => if I.testBit i = true then cnB (fun t => (K i).testBit t && I.testBit t) i else 0) i := smB_ext2 (by omega) (fun t ht => by rw [hi_bit h ht]; rfl)
  have e3 : pcB (K i &&& I) = cnB (fun t => (K i &&& I).testBit t) i := cnB_ext2 (by omega) (fun t ht => by rw [Nat.testBit_and, hi_bit h ht, Bool.and_false])
  rw [e1, e2, e3]
  show smB _ i + (if (I ||| 2 ^ i).testBit i = true then cnB (fun t => (K i).testBit t && (I ||| 2 ^ i).testBit t) i else 0) = _
  rw [bi, if_pos rfl]
  congr 1
  · refine smB_congr (fun t ht => ?_)
    rw [bo t ht]
    congr 1
    exact cnB_congr (fun u hu => by rw [bo u (by omega)])
  · exact cnB_congr (fun u hu => by rw [bo u hu, Nat.testBit_and])
theorem prK_0 {K : Nat → Nat} : prK K 0 = 0 := by
  have : prK K 0 = smB (fun i => if (0 : Nat).testBit i = true then cnB (fun t => (K i).testBit t && (0 : Nat).testBit t) i else 0) 0 := smB_ext2 (by omega) (fun t ht => by rw [Nat.zero_testBit]; rfl)
  exact this
/-- the greatest, or none -/
def isX (Q : Int → Prop) (x : Int) : Prop := (x < 0 ∧ ∀ p, ¬ Q p) ∨ (0 ≤ x ∧ Q x ∧ ∀ p, Q p → p ≤ x)
theorem isX_or {Q R T : Int → Prop} {x y : Int} (h : ∀ p, T p ↔ Q p ∨ R p) (hx : isX Q x) (hy : isX R y) : isX T (if x < y then y else x) := by
  rcases hx with ⟨x1, x2⟩ | ⟨x1, x2, x3⟩
  · rcases hy with ⟨y1, y2⟩ | ⟨y1, y2, y3⟩
    · refine Or.inl ⟨by split <;> omega, fun p hp => ?_⟩
      rcases (h p).mp hp with z | z
      · exact x2 p z
      · exact y2 p z
    · rw [if_pos (by omega)]
      refine Or.inr ⟨y1, (h y).mpr (Or.inr y2), fun p hp => ?_⟩
      rcases (h p).mp hp with z | z
      · exact absurd z (x2 p)
      · exact y3 p z
  · rcases hy with ⟨y1, y2⟩ | ⟨y1, y2, y3⟩
    · rw [if_neg (by omega)]
      refine Or.inr ⟨x1, (h x).mpr (Or.inl x2), fun p hp => ?_⟩
      rcases (h p).mp hp with z | z
      · exact x3 p z
      · exact absurd z (y2 p)
    · by_cases l : x < y
      · rw [if_pos l]
        refine Or.inr ⟨y1, (h y).mpr (Or.inr y2), fun p hp => ?_⟩
        rcases (h p).mp hp with z | z
        · have := x3 p z; omega
        · exact y3 p z
      · rw [if_neg l]
        refine Or.inr ⟨x1, (h x).mpr (Or.inl x2), fun p hp => ?_⟩
        rcases (h p).mp hp with z | z
        · exact x3 p z
        · have := y3 p z; omega
/-- what one house may add to the set S: it has ins, and up to b of opn more -/
def Q78 (K : Nat → Nat) (f : Int → Int) (S opn ins b : Nat) (p : Int) : Prop := ∃ J, J &&& opn = J ∧ pcB J ≤ b ∧ 0 ≤ f ((S ^^^ (ins ||| J) : Nat) : Int) ∧ p = f ((S ^^^ (ins ||| J) : Nat) : Int) + prK K (ins ||| J)
def Q78L (K : Nat → Nat) (f : Int → Int) (S opn ins b rest : Nat) (p : Int) : Prop := ∃ J, (J &&& opn = J ∧ (J = 0 ∨ ¬ J &&& rest = J)) ∧ pcB J ≤ b ∧ 0 ≤ f ((S ^^^ (ins ||| J) : Nat) : Int) ∧ p = f ((S ^^^ (ins ||| J) : Nat) : Int) + prK K (ins ||| J)
theorem sub_t {J T i : Nat} (h : J &&& T = J) (hi : J.testBit i = true) : T.testBit i = true := by
  rw [← h, Nat.testBit_and] at hi
  exact (Bool.and_eq_true_iff.mp hi).2
theorem t_sub {J T : Nat} (h : ∀ i, J.testBit i = true → T.testBit i = true) : J &&& T = J := by
  refine Nat.eq_of_testBit_eq (fun i => ?_)
  rw [Nat.testBit_and]
  cases hj : J.testBit i with
  | false => rfl
  | true => rw [h i hj]; rfl
/-- i is the lowest of rest, and rest' the others -/
def lowB (rest rest' i : Nat) : Prop := i < 12 ∧ rest.testBit i = true ∧ ∀ t, rest'.testBit t = (rest.testBit t && decide (¬ t = i))
theorem Q78_s {K : Nat → Nat} {f : Int → Int} {S opn ins b rest rest' i : Nat} (hl : lowB rest rest' i) (hr : rest &&& opn = rest) (p : Int) : Q78L K f S opn ins (b + 1) rest' p ↔ Q78L K f S opn ins (b + 1) rest p ∨ Q78 K f S rest' (ins ||| 2 ^ i) b p := by
  obtain ⟨hi, hri, hr'⟩ := hl
  have hi' : rest'.testBit i = false := by rw [hr', hri, decide_eq_false (by simp)]; rfl
  have r'r : rest' &&& rest = rest' := t_sub (fun t ht => by rw [hr' t] at ht; exact (Bool.and_eq_true_iff.mp ht).1)
  constructor
  · rintro ⟨J, ⟨j1, j2⟩, j3, j4⟩
    by_cases y : J = 0 ∨ ¬ J &&& rest = J
    · exact Or.inl ⟨J, ⟨j1, y⟩, j3, j4⟩
    · have y0 : ¬ J = 0 := fun z => y (Or.inl z)
      have yr : J &&& rest = J := Classical.byContradiction (fun z => y (Or.inr z))
      have hJi : J.testBit i = true := by
        refine Classical.byContradiction (fun z => ?_)
        rcases j2 with w | w
        · exact y0 w
        · refine w (t_sub (fun t ht => ?_))
          rw [hr' t, sub_t yr ht, decide_eq_true (show ¬ t = i from fun q => z (q ▸ ht))]; rfl
      have hJ' : ∀ t, (J &&& rest').testBit t = (J.testBit t && decide (¬ t = i)) := by
        intro t
        rw [Nat.testBit_and, hr' t]
        cases hj : J.testBit t with
        | false => rfl
        | true => rw [sub_t yr hj]; rfl
      have e : (J &&& rest') ||| 2 ^ i = J := by
        refine Nat.eq_of_testBit_eq (fun t => ?_)
        rw [Nat.testBit_or, hJ' t]
        by_cases q : t = i
        · subst q; rw [Nat.testBit_two_pow_self, hJi, Bool.or_true]
        · rw [Nat.testBit_two_pow_of_ne (fun z => q z.symm), decide_eq_true q, Bool.and_true, Bool.or_false]
      have hn : (J &&& rest').testBit i = false := by rw [hJ' i, decide_eq_false (by simp)]; exact Bool.and_false _
      have hpc := pcB_add hi hn
      rw [e] at hpc
      have e2 : ins ||| 2 ^ i ||| (J &&& rest') = ins ||| J := by
        rw [Nat.or_assoc, Nat.or_comm (2 ^ i), e]
      refine Or.inr ⟨J &&& rest', ?_, by omega, ?_⟩
      · rw [Nat.and_assoc, Nat.and_self]
      · rw [e2]; exact j4
  · rintro (⟨J, ⟨j1, j2⟩, j3⟩ | ⟨J, j1, j2, j3⟩)
    · refine ⟨J, ⟨j1, ?_⟩, j3⟩
      rcases j2 with w | w
      · exact Or.inl w
      · refine Or.inr (fun z => w ?_)
        exact t_sub (fun t ht => sub_t r'r (sub_t z ht))
    · have hn : J.testBit i = false := by
        cases hj : J.testBit i with
        | false => rfl
        | true => rw [sub_t j1 hj] at hi'; exact absurd hi' (by decide)
      have hpc := pcB_add hi hn
      have e2 : ins ||| (J ||| 2 ^ i) = ins ||| 2 ^ i ||| J := by
        rw [Nat.or_assoc, Nat.or_comm (2 ^ i)]
      refine ⟨J ||| 2 ^ i, ⟨?_, Or.inr (fun z => ?_)⟩, by omega, by rw [e2]; exact j3⟩
      · refine t_sub (fun t ht => ?_)
        refine sub_t hr ?_
        rw [Nat.testBit_or] at ht
        rcases Bool.or_eq_true_iff.mp ht with w | w
        · exact sub_t r'r (sub_t j1 w)
        · by_cases q : t = i
          · subst q; exact hri
          · rw [Nat.testBit_two_pow_of_ne (fun z => q z.symm)] at w; exact absurd w (by decide)
      · have : rest'.testBit i = true := sub_t z (by rw [Nat.testBit_or, Nat.testBit_two_pow_self, Bool.or_true])
        rw [hi'] at this; exact absurd this (by decide)
theorem Q78_0 {K : Nat → Nat} {f : Int → Int} {S opn ins b : Nat} (p : Int) : Q78 K f S opn ins b p ↔ Q78L K f S opn ins b 0 p := by
  constructor
  · rintro ⟨J, j1, j2⟩
    refine ⟨J, ⟨j1, ?_⟩, j2⟩
    by_cases z : J = 0
    · exact Or.inl z
    · exact Or.inr (fun y => z (by rw [Nat.and_zero] at y; exact y.symm))
  · rintro ⟨J, j1, j2⟩
    exact ⟨J, j1.1, j2⟩
theorem Q78_b {K : Nat → Nat} {f : Int → Int} {S opn ins b : Nat} (p : Int) : Q78L K f S opn ins b opn p ↔ 0 ≤ f ((S ^^^ ins : Nat) : Int) ∧ p = f ((S ^^^ ins : Nat) : Int) + prK K ins := by
  constructor
  · rintro ⟨J, ⟨j1, j2⟩, j3, j4⟩
    rcases j2 with w | w
    · subst w; rw [Nat.or_zero] at j4; exact j4
    · exact absurd j1 w
  · intro h
    exact ⟨0, ⟨Nat.zero_and _, Or.inl rfl⟩, by show pcB 0 ≤ b; have : pcB 0 = 0 := by decide
                                               omega, by rw [Nat.or_zero]; exact h⟩
theorem pc0 {J : Nat} (h : pcB J ≤ 0) (hJ : J < 4096) : J = 0 := by
  refine bit_eq (n := 12) hJ (by decide) (fun i hi => ?_)
  rw [Nat.zero_testBit]
  cases hj : J.testBit i with
  | false => rfl
  | true =>
    have : cnB (fun t => decide (t = i)) 12 ≤ pcB J := cnB_mono (fun t _ ht => by
      have := of_decide_eq_true ht
      subst this; exact hj)
    rw [cnB_1, if_pos hi] at this
    omega
theorem Q78_b0 {K : Nat → Nat} {f : Int → Int} {S opn ins : Nat} (ho : opn < 4096) (p : Int) : Q78 K f S opn ins 0 p ↔ 0 ≤ f ((S ^^^ ins : Nat) : Int) ∧ p = f ((S ^^^ ins : Nat) : Int) + prK K ins := by
  constructor
  · rintro ⟨J, j1, j2, j4⟩
    have hJ : J < 4096 := by
      have := Nat.and_le_right (n := J) (m := opn)
      rw [j1] at this; omega
    have := pc0 j2 hJ
    subst this; rw [Nat.or_zero] at j4; exact j4
  · intro h
    exact ⟨0, Nat.zero_and _, by decide, by rw [Nat.or_zero]; exact h⟩
