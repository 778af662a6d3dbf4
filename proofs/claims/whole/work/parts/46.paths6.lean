/-! paths: what the class's table means -/
def Fe (cap sz : Int → Int) : Nat → Nat → Nat → Prop
  | 0, S, m => S = 0 ∧ m = 0
  | n + 1, S, m => Fe cap sz n S m ∨ ∃ a ∈ wlk S 256 S, sz a ≤ cap n ∧ ∃ m', m = m' + 1 ∧ Fe cap sz n (S ^^^ a) m'
def isM (p : Nat → Prop) (x : Int) : Prop := (x < 0 ∧ ∀ m, ¬ p m) ∨ ∃ m : Nat, x = m ∧ p m ∧ ∀ m', p m' → m ≤ m'
theorem isM_congr {p q : Nat → Prop} {x : Int} (h : ∀ m, p m ↔ q m) (hp : isM p x) : isM q x := by
  rcases hp with ⟨h1, h2⟩ | ⟨m, h1, h2, h3⟩
  · exact Or.inl ⟨h1, fun m hm => h2 m ((h m).mpr hm)⟩
  · exact Or.inr ⟨m, h1, (h m).mp h2, fun m' hm => h3 m' ((h m').mpr hm)⟩
theorem Fe_s {cap sz : Int → Int} {n S : Nat} (m : Nat) : (Fe cap sz n S m ∨ ∃ a ∈ wlk S 256 S, sz a ≤ cap n ∧ ∃ m', m = m' + 1 ∧ Fe cap sz n (S ^^^ a) m') ↔ Fe cap sz (n + 1) S m := Iff.rfl
theorem kst_m {cap : Int} {sz f : Int → Int} {p : Nat → Prop} {r : Nat → Nat → Prop} {s a : Nat} {x : Int} (hx : isM p x) (hf : isM (r (s ^^^ a)) (f ((s ^^^ a : Nat) : Int))) : isM (fun m => p m ∨ (sz a ≤ cap ∧ ∃ m', m = m' + 1 ∧ r (s ^^^ a) m')) (kst cap sz f s x a) := by
  unfold kst
  by_cases hs : sz a ≤ cap
  · rcases hf with ⟨f1, f2⟩ | ⟨mf, f1, f2, f3⟩
    · rw [if_neg (fun y => by omega)]
      refine isM_congr (fun m => ?_) hx
      exact ⟨Or.inl, fun y => y.elim id (fun ⟨_, m', _, w⟩ => absurd w (f2 m'))⟩
    · rcases hx with ⟨x1, x2⟩ | ⟨mx, x1, x2, x3⟩
      · rw [if_pos ⟨hs, by omega, Or.inl x1⟩]
        refine Or.inr ⟨mf + 1, by omega, Or.inr ⟨hs, mf, rfl, f2⟩, fun m' hm => ?_⟩
        rcases hm with hm | ⟨_, m2, hm, w⟩
        · exact absurd hm (x2 m')
        · have := f3 m2 w; omega
      · by_cases hlt : f ((s ^^^ a : Nat) : Int) + 1 < x
        · rw [if_pos ⟨hs, by omega, Or.inr hlt⟩]
          refine Or.inr ⟨mf + 1, by omega, Or.inr ⟨hs, mf, rfl, f2⟩, fun m' hm => ?_⟩
          rcases hm with hm | ⟨_, m2, hm, w⟩
          · have := x3 m' hm; omega
          · have := f3 m2 w; omega
        · rw [if_neg (fun y => by omega)]
          refine Or.inr ⟨mx, x1, Or.inl x2, fun m' hm => ?_⟩
          rcases hm with hm | ⟨_, m2, hm, w⟩
          · exact x3 m' hm
          · have := f3 m2 w; omega
  · rw [if_neg (fun y => hs y.1)]
    refine isM_congr (fun m => ?_) hx
    exact ⟨Or.inl, fun y => y.elim id (fun w => absurd w.1 hs)⟩
theorem fold_m {cap : Int} {sz f : Int → Int} {r : Nat → Nat → Prop} {s : Nat} : ∀ (l : List Nat) {p : Nat → Prop} {x : Int}, (∀ a ∈ l, isM (r (s ^^^ a)) (f ((s ^^^ a : Nat) : Int))) → isM p x → isM (fun m => p m ∨ ∃ a ∈ l, sz a ≤ cap ∧ ∃ m', m = m' + 1 ∧ r (s ^^^ a) m') (l.foldl (kst cap sz f s) x)
  | [], p, x, _, hx => isM_congr (fun m => ⟨Or.inl, fun y => y.elim id (fun ⟨a, ha, _⟩ => absurd ha List.not_mem_nil)⟩) hx
  | a :: l, p, x, hf, hx => by
    have h1 := kst_m (cap := cap) (sz := sz) hx (hf a (List.mem_cons_self ..))
    have h2 := fold_m (cap := cap) (sz := sz) l (fun b hb => hf b (List.mem_cons_of_mem _ hb)) h1
    rw [List.foldl_cons]
    refine isM_congr (fun m => ?_) h2
    constructor
    · rintro ((h | ⟨h, h3⟩) | ⟨b, hb, h⟩)
      · exact Or.inl h
      · exact Or.inr ⟨a, List.mem_cons_self .., h, h3⟩
      · exact Or.inr ⟨b, List.mem_cons_of_mem _ hb, h⟩
    · rintro (h | ⟨b, hb, h⟩)
      · exact Or.inl (Or.inl h)
      · rcases List.mem_cons.mp hb with e | e
        · subst e; exact Or.inl (Or.inr h)
        · exact Or.inr ⟨b, e, h⟩
theorem fold_c {cap : Int} {sz f g : Int → Int} {s : Nat} : ∀ (l : List Nat) {x : Int}, (∀ a ∈ l, f ((s ^^^ a : Nat) : Int) = g ((s ^^^ a : Nat) : Int)) → l.foldl (kst cap sz f s) x = l.foldl (kst cap sz g s) x
  | [], x, _ => rfl
  | a :: l, x, h => by
    rw [List.foldl_cons, List.foldl_cons]
    have e : kst cap sz f s x a = kst cap sz g s x a := by
      unfold kst; rw [h a (List.mem_cons_self ..)]
    rw [e]
    exact fold_c l (fun b hb => h b (List.mem_cons_of_mem _ hb))
theorem kT_at {cap : Int} {sz : Int → Int} : ∀ (n : Nat) {f : Int → Int} (j : Nat), n < 256 → kT cap sz n f j = if j = 0 ∨ n < j then f j else (wlk j 256 j).foldl (kst cap sz f j) (f j)
  | 0, f, j, _ => by
    show f j = _
    rw [if_pos (by omega)]
  | n + 1, f, j, hn => by
    show kT cap sz n (kS cap sz f (n + 1)) j = _
    rw [kT_at n j (by omega)]
    have ne : ∀ i : Nat, ¬ i = n + 1 → kS cap sz f (n + 1) i = f i := fun i hi => fs_ne (by omega)
    by_cases e : j = n + 1
    · rw [if_pos (Or.inr (by omega)), if_neg (by omega), e]
      exact fs_eq
    · rw [ne j e]
      by_cases h : j = 0 ∨ n < j
      · rw [if_pos h, if_pos (by omega)]
      · rw [if_neg h, if_neg (by omega)]
        refine fold_c _ (fun a ha => ne _ ?_)
        have := (wlk_lt (by omega) ha).1
        omega
theorem kT_m {cap sz : Int → Int} {n : Nat} {f : Int → Int} (hf : ∀ S : Nat, S < 256 → isM (Fe cap sz n S) (f S)) (S : Nat) (hS : S < 256) : isM (Fe cap sz (n + 1) S) (kT (cap n) sz 255 f S) := by
  rw [kT_at 255 S (by omega)]
  have key := fold_m (cap := cap n) (sz := sz) (f := f) (r := Fe cap sz n) (s := S) (wlk S 256 S) (fun a ha => hf _ (by have := (wlk_lt hS ha).1; omega)) (hf S hS)
  have key := isM_congr Fe_s key
  by_cases h : S = 0 ∨ 255 < S
  · rw [if_pos h]
    have e : S = 0 := by omega
    subst e
    exact key
  · rw [if_neg h]
    exact key
