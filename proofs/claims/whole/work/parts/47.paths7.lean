/-! paths: the class's answer -/
theorem Fe_le {cap sz : Int → Int} : ∀ (n : Nat) {S m : Nat}, Fe cap sz n S m → m ≤ n
  | 0, S, m, h => by
    have h2 : S = 0 ∧ m = 0 := h
    omega
  | n + 1, S, m, h => by
    rcases h with h | ⟨a, _, _, m', e, h⟩
    · have := Fe_le n h; omega
    · have := Fe_le n h; omega
theorem Fe_00 {cap sz : Int → Int} : ∀ n : Nat, Fe cap sz n 0 0
  | 0 => ⟨rfl, rfl⟩
  | n + 1 => Or.inl (Fe_00 n)
theorem isM_le {cap sz : Int → Int} {n S : Nat} {x : Int} (h : isM (Fe cap sz n S) x) : x ≤ n := by
  rcases h with ⟨h1, _⟩ | ⟨m, h1, h2, _⟩
  · omega
  · have := Fe_le n h2; omega
theorem fold_ge {cap : Int} {sz f : Int → Int} {s : Nat} : ∀ (l : List Nat) {x : Int}, -9 ≤ x → -9 ≤ l.foldl (kst cap sz f s) x
  | [], x, h => h
  | a :: l, x, h => by
    rw [List.foldl_cons]
    refine fold_ge l ?_
    unfold kst
    split
    · omega
    · exact h
theorem kT_ge {cap : Int} {sz f : Int → Int} (hf : ∀ S : Nat, S < 256 → -9 ≤ f S) (S : Nat) (hS : S < 256) : -9 ≤ kT cap sz 255 f S := by
  rw [kT_at 255 S (by omega)]
  split
  · exact hf S hS
  · exact fold_ge _ (hf S hS)
theorem lp_90_24 {d : Nat} {P : Mm → Prop} {M : Mm} (hP : IP M) (hH : IH M) (hK : ∀ f : Int → Int, (∀ S : Nat, S < 256 → isM (Fe (cpP M) (M 48) 6 S) (f S)) → (∀ S : Nat, S < 256 → -9 ≤ f S) → H_90_61 (d + 2) P 1 (mset (mset (rset M 49 f) 47 2 0) 47 3 0)) : ∀ (k v : Nat) {f : Int → Int}, k + v = 6 → (∀ S : Nat, S < 256 → isM (Fe (cpP M) (M 48) v S) (f S)) → (∀ S : Nat, S < 256 → -9 ≤ f S) → H_90_24 (d + 2) P v (rset M 49 f)
  | 0, v, f, hk, hf, hg => by
    have e : v = 6 := by omega
    subst e
    exact sg_90_24 ⟨fun _ => hK f hf hg, fun z => by omega⟩
  | k + 1, v, f, hk, hf, hg => by
    have ih := fun {f : Int → Int} => lp_90_24 (d := d) (P := P) hP hH hK k (v + 1) (f := f) (by omega)
    rw [show ((v + 1 : Nat) : Int) = (v : Int) + 1 by omega] at ih
    refine sg_90_24 ⟨fun z => by omega, fun _ => ?_⟩
    refine c_92 (M := rset M 49 f) hP hH ?_
    refine c_93 (M := rset M 49 f) (fun j hj => ?_) ?_
    · have h1 := hg j (by omega)
      have h2 := isM_le (hf j (by omega))
      show -9 ≤ f j ∧ f j ≤ 100
      omega
    · rw [rs_rs]
      refine ⟨by unfold inI; omega, ih (fun S hS => kT_m hf S hS) (fun S hS => kT_ge hg S hS)⟩
/-- most children by the fewest ways, among the first i sets -/
def bsP (cap sz : Int → Int) (i : Nat) (w c : Int) : Prop := (∃ S m : Nat, S < i ∧ Fe cap sz 6 S m ∧ sz S = w ∧ c = m) ∧ ∀ S m : Nat, S < i → Fe cap sz 6 S m → sz S < w ∨ (sz S = w ∧ c ≤ m)
theorem bsP_uniq {cap sz : Int → Int} {i : Nat} {w c w' c' : Int} (h : bsP cap sz i w c) (h' : bsP cap sz i w' c') : w = w' ∧ c = c' := by
  obtain ⟨⟨S, m, h1, h2, h3, h4⟩, h5⟩ := h
  obtain ⟨⟨S', m', g1, g2, g3, g4⟩, g5⟩ := h'
  have a := h5 S' m' g1 g2
  have b := g5 S m h1 h2
  omega
theorem bsP_s {cap sz : Int → Int} {i : Nat} {w c x : Int} (h : bsP cap sz i w c) (hx : isM (Fe cap sz 6 i) x) : ((x < 0 ∨ sz i < w ∨ (sz i = w ∧ c ≤ x)) → bsP cap sz (i + 1) w c) ∧ (0 ≤ x → (w < sz i ∨ (sz i = w ∧ x < c)) → bsP cap sz (i + 1) (sz i) x) := by
  obtain ⟨⟨S, m, h1, h2, h3, h4⟩, h5⟩ := h
  refine ⟨fun z => ⟨⟨S, m, by omega, h2, h3, h4⟩, fun S' m' g1 g2 => ?_⟩, fun z0 z => ?_⟩
  · by_cases e : S' = i
    · subst e
      rcases hx with ⟨x1, x2⟩ | ⟨mx, x1, x2, x3⟩
      · exact absurd g2 (x2 m')
      · have := x3 m' g2
        omega
    · exact h5 S' m' (by omega) g2
  · rcases hx with ⟨x1, x2⟩ | ⟨mx, x1, x2, x3⟩
    · omega
    · refine ⟨⟨i, mx, by omega, x2, rfl, x1⟩, fun S' m' g1 g2 => ?_⟩
      by_cases e : S' = i
      · subst e
        have := x3 m' g2
        omega
      · have := h5 S' m' (by omega) g2
        omega
