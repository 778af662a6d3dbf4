/-! the first memory keeps the invariant -/
def mZ (F : Int → Int) (n : Int) : Mm := fun k => if k = 200 then F else if k = 201 then (fun _ => n) else m0 k
theorem m84 (j : Int) : m0 84 j = if j % 5 = 3 ∧ 0 ≤ j ∧ j < 30 then 1 else 0 := rfl
theorem m14 (k : Nat) (h : 14 ≤ k ∧ k < 20) (j : Int) : m0 k j = if j = 3 then 1 else 0 := by
  unfold m0
  rw [if_neg (show ¬ k = 10 by omega), if_pos h]
theorem row0 {k : Nat} {b : Int} (h : 14 ≤ k ∧ k < 20) (hb : b % 5 = 0 ∧ 0 ≤ b ∧ b ≤ 25) : rowE (m0 k) (m0 84) b 5 := by
  intro j h0 h1
  rw [m84, m14 k h]
  by_cases e : j = 3
  · rw [if_pos e, if_pos (by omega)]
  · rw [if_neg e, if_neg (by omega)]
theorem tn0 : ∀ t : Int, 0 ≤ t → t < 6 → tnOk (m0 84) t := by
  intro t h0 h1
  unfold tnOk
  rw [m84, m84, m84, m84, m84, if_neg (by omega), if_neg (by omega), if_neg (by omega), if_pos (by omega), if_neg (by omega)]
  omega
theorem Inv0 {F : Int → Int} {n : Int} : Inv 0 (mZ F n) := by
  have e0 : (0 : Int) ≤ 0 := Int.le_refl _
  refine ⟨⟨⟨e0, show (0 : Int) ≤ 48 by omega⟩, rfl, ⟨rfl, rfl, rfl, rfl⟩, fun c h0 h1 => ?_⟩, ⟨rfl, fun c _ => rfl, fun c h0 h1 => ?_⟩, ⟨⟨e0, show (0 : Int) ≤ 600 by omega⟩, rfl, rfl, fun c h0 h1 => ?_⟩, ?_, ?_, ?_, ?_, ?_, ?_, ?_, ?_⟩
  · have h1 : c < 0 := h1
    omega
  · have h1 : c < 0 := h1
    omega
  · have h1 : c < 0 := h1
    omega
  · refine ⟨fun p => ⟨rfl, rfl⟩, fun p _ _ => ⟨⟨e0, show (0 : Int) ≤ 5 by omega⟩, e0, show (0 : Int) ≤ 300 by omega⟩, ⟨row0 (k := 14) (b := 0) (by omega) (by omega), row0 (k := 15) (b := 5) (by omega) (by omega), row0 (k := 16) (b := 10) (by omega) (by omega), row0 (k := 17) (b := 15) (by omega) (by omega), row0 (k := 18) (b := 20) (by omega) (by omega), row0 (k := 19) (b := 25) (by omega) (by omega)⟩, tn0, rfl, e0, show (0 : Int) ≤ 2 by omega⟩
  · exact ⟨Or.inr rfl, fun h => absurd (show (1 : Int) = 0 from h) (by omega)⟩
  · refine ⟨⟨e0, show (0 : Int) ≤ 24 by omega⟩, rfl, fun h => ⟨rfl, rfl, rfl, rfl, rfl⟩, fun h h0 h1 => ?_⟩
    have h1 : h < 0 := h1
    omega
  · exact Or.inl rfl
  · refine ⟨⟨e0, show (0 : Int) ≤ 30 by omega⟩, rfl, fun o h0 h1 => ?_⟩
    have h1 : o < 0 := h1
    omega
  · exact ⟨⟨fun j _ _ => rfl, fun j _ _ => rfl, fun j _ _ => rfl, fun j _ _ => rfl, fun j _ _ => rfl, fun j _ _ => rfl⟩, fun j _ _ => ⟨e0, show (0 : Int) ≤ 20 by omega⟩⟩
  · refine ⟨⟨e0, show (0 : Int) ≤ 80 by omega⟩, rfl, ⟨rfl, rfl, rfl, rfl⟩, fun o h0 h1 => ?_, fun o h0 h1 => ?_, fun c _ _ => rfl, rfl, fun h h0 h1 => ?_⟩
    · have h1 : o < 0 := h1
      omega
    · have h1 : o < 0 := h1
      omega
    · have h1 : h < 0 := h1
      omega
  · exact ⟨rfl, e0, show (0 : Int) ≤ 1111 * 0 by omega⟩
theorem m0_v (k : Nat) (j : Int) : m0 k j = 0 ∨ m0 k j = 1 ∨ (m0 k j = -9 ∧ ((k = 33 ∧ j = 7) ∨ k = 45)) := by
  unfold m0
  by_cases a : k = 10
  · rw [if_pos a]
    split
    · exact Or.inr (Or.inl rfl)
    · exact Or.inl rfl
  · rw [if_neg a]
    by_cases b : 14 ≤ k ∧ k < 20
    · rw [if_pos b]
      split
      · exact Or.inr (Or.inl rfl)
      · exact Or.inl rfl
    · rw [if_neg b]
      by_cases d : k = 33
      · rw [if_pos d]
        by_cases e : j = 7
        · rw [if_pos e]
          exact Or.inr (Or.inr ⟨rfl, Or.inl ⟨d, e⟩⟩)
        · rw [if_neg e]
          exact Or.inl rfl
      · rw [if_neg d]
        by_cases e : k = 45
        · rw [if_pos e]
          exact Or.inr (Or.inr ⟨rfl, Or.inr e⟩)
        · rw [if_neg e]
          by_cases f : k = 84
          · rw [if_pos f]
            split
            · exact Or.inr (Or.inl rfl)
            · exact Or.inl rfl
          · rw [if_neg f]
            exact Or.inl rfl
theorem okS_01 (d : Nat) {x : Int} (h : x = 0 ∨ x = 1) : okS d x := by
  unfold okS
  split
  · unfold inI; omega
  · unfold inJ; omega
  · exact h
  · trivial
theorem okZ {g : Gx} (hF : ∀ j, inI (gF g j)) (hn : inI (gL g)) : okM g (mZ (gF g) (gL g)) := by
  refine ⟨fun k j => ?_, rfl, rfl⟩
  by_cases a : k = 200
  · subst a
    exact hF j
  · by_cases b : k = 201
    · subst b
      exact hn
    · have e : mZ (gF g) (gL g) k j = m0 k j := by
        unfold mZ
        rw [if_neg a, if_neg b]
      rw [e]
      rcases m0_v k j with h | h | ⟨h, h2⟩
      · exact okS_01 _ (Or.inl h)
      · exact okS_01 _ (Or.inr h)
      · rw [h]
        rcases h2 with ⟨rfl, rfl⟩ | rfl
        · show inI (-9)
          unfold inI; omega
        · show inI (-9)
          unfold inI; omega
