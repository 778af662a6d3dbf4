/-! paths: the class's answer -/
theorem Fe_le {cap sz : Int → Int} : ∀ (n : Nat) {S m : Nat}, Fe cap sz n S m → m ≤ n
  | 0, S, m, h => by
    have h2 : S = 0 ∧ m = 0 := h
    omega
  | n + 1, S, m, h => by
    rcases h with h | ⟨a, _, _, m', e, h⟩
    · have := Fe_le n h; omega
    · have := Fe_le n h; omega
theorem Fe_00 {cap sz : Int → Int} : ∀ n : Nat, Fe cap sz n 0 0
  | 0 => ⟨rfl, rfl⟩
  | n + 1 => Or.inl (Fe_00 n)
theorem isM_le {cap sz : Int → Int} {n S : Nat} {x : Int} (h : isM (Fe cap sz n S) x) : x ≤ n := by
  rcases h with ⟨h1, _⟩ | ⟨m, h1, h2, _⟩
  · omega
  · have := Fe_le n h2; omega
theorem fold_ge {cap : Int} {sz f : Int → Int} {s : Nat} : ∀ (l : List Nat) {x : Int}, -9 ≤ x → -9 ≤ l.foldl (kst cap sz f s) x
  | [], x, h => h
  | a :: l, x, h => by
    rw [List.foldl_cons]
    refine fold_ge l ?_
    unfold kst
    split
    · omega
    · exact h
theorem kT_ge {cap : Int} {sz f : Int → Int} (hf : ∀ S : Nat, S < 256 → -9 ≤ f S) (S : Nat) (hS : S < 256) : -9 ≤ kT cap sz 255 f S := by
  rw [kT_at 255 S (by omega)]
  split
  · exact hf S hS
  · exact fold_ge _ (hf S hS)
theorem lp_90_24 {d : Nat} {P : Mm → Prop} {M : Mm} (hP : IP M) (hH : IH M) (hK : ∀ f : Int → Int, (∀ S : Nat, S < 256 → isM (Fe (cpP M) (M 48) 6 S) (f S)) → (∀ S : Nat, S < 256 → -9 ≤ f S) → H_90_61 (d + 2) P 1 (mset (mset (rset M 49 f) 47 2 0) 47 3 0)) : ∀ (k v : Nat) {f : Int → Int}, k + v = 6 → (∀ S : Nat, S < 256 → isM (Fe (cpP M) (M 48) v S) (f S)) → (∀ S : Nat, S < 256 → -9 ≤ f S) → H_90_24 (d + 2) P v (rset M 49 f)
  | 0, v, f, hk, hf, hg => by
    have e : v = 6 := by omega
    subst e
    exact sg_90_24 ⟨fun _ => hK f hf hg, fun z => by omega⟩
  | k + 1, v, f, hk, hf, hg => by
    have ih := fun {f : Int → Int} => lp_90_24 (d := d) (P := P) hP hH hK k (v + 1) (f := f) (by omega)
    rw [show ((v + 1 : Nat) : Int) = (v : Int) + 1 by omega] at ih
    refine sg_90_24 ⟨fun z => by omega, fun _ => ?_⟩
    refine c_92 (M := rset M 49 f) hP hH ?_
    refine c_93 (M := rset M 49 f) (fun j hj => ?_) ?_
    · have h1 := hg j (by omega)
      have h2 := isM_le (hf j (by omega))
      show -9 ≤ f j ∧ f j ≤ 100
      omega
    · rw [rs_rs]
      refine ⟨by unfold inI; omega, ih (fun S hS => kT_m hf S hS) (fun S hS => kT_ge hg S hS)⟩
/-- most children by the fewest ways, among the first i sets -/
def bsP (cap sz : Int → Int) (i : Nat) (w c : Int) : Prop := (∃ S m : Nat, S < i ∧ Fe cap sz 6 S m ∧ sz S = w ∧ c = m) ∧ ∀ S m : Nat, S < i → Fe cap sz 6 S m → sz S < w ∨ (sz S = w ∧ c ≤ m)
theorem bsP_uniq {cap sz : Int → Int} {i : Nat} {w c w' c' : Int} (h : bsP cap sz i w c) (h' : bsP cap sz i w' c') : w = w' ∧ c = c' := by
  obtain ⟨⟨S, m, h1, h2, h3, h4⟩, h5⟩ := h
  obtain ⟨⟨S', m', g1, g2, g3, g4⟩, g5⟩ := h'
  have a := h5 S' m' g1 g2
  have b := g5 S m h1 h2
  omega
theorem bsP_s {cap sz : Int → Int} {i : Nat} {w c x : Int} (h : bsP cap sz i w c) (hx : isM (Fe cap sz 6 i) x) : ((x < 0 ∨ sz i < w ∨ (sz i = w ∧ c ≤ x)) → bsP cap sz (i + 1) w c) ∧ (0 ≤ x → (w < sz i ∨ (sz i = w ∧ x < c)) → bsP cap sz (i + 1) (sz i) x) := by
  obtain ⟨⟨S, m, h1, h2, h3, h4⟩, h5⟩ := h
  refine ⟨fun z => ⟨⟨S, m, by omega, h2, h3, h4⟩, fun S' m' g1 g2 => ?_⟩, fun z0 z => ?_⟩
  · by_cases e : S' = i
    · subst e
      rcases hx with ⟨x1, x2⟩ | ⟨mx, x1, x2, x3⟩
      · exact absurd g2 (x2 m')
      · have := x3 m' g2
        omega
    · exact h5 S' m' (by omega) g2
  · rcases hx with ⟨x1, x2⟩ | ⟨mx, x1, x2, x3⟩
    · omega
    · refine ⟨⟨i, mx, by omega, x2, rfl, x1⟩, fun S' m' g1 g2 => ?_⟩
      by_cases e : S' = i
      · subst e
        have := x3 m' g2
        omega
      · have := h5 S' m' (by omega) g2
        omega
theorem m47 {M : Mm} {w c w' c' : Int} : mset (mset (mset (mset M 47 2 w) 47 3 c) 47 2 w') 47 3 c' = mset (mset M 47 2 w') 47 3 c' := by
  simp only [ms_rs, rs_rs, rset_eq]
  congr 1
  funext j
  by_cases e3 : j = 3
  · rw [ps_eq e3, ps_eq e3]
  · rw [fs_ne e3, fs_ne e3]
    by_cases e2 : j = 2
    · rw [ps_eq e2, ps_eq e2]
    · rw [fs_ne e2, fs_ne e2, fs_ne e3, fs_ne e2]
theorem lp_90_61 {d : Nat} {P : Mm → Prop} {M : Mm} {cap : Int → Int} (hm : ∀ S : Nat, S < 256 → isM (Fe cap (M 48) 6 S) (M 49 S)) (hK : ∀ w c, bsP cap (M 48) 256 w c → P (mset (mset M 47 2 w) 47 3 c)) : ∀ (k i : Nat) {w c : Int}, k + i = 256 → bsP cap (M 48) i w c → H_90_61 d P i (mset (mset M 47 2 w) 47 3 c)
  | 0, i, w, c, hk, hb => by
    have e : i = 256 := by omega
    subst e
    exact sg_90_61 ⟨fun _ => hK w c hb, fun z => by omega⟩
  | k + 1, i, w, c, hk, hb => by
    have ih := fun {w c : Int} => lp_90_61 (d := d) (P := P) hm hK k (i + 1) (w := w) (c := c) (by omega)
    rw [show ((i + 1 : Nat) : Int) = (i : Int) + 1 by omega] at ih
    have hs := bsP_s hb (hm i (by omega))
    have hi : inI ((i : Int) + 1) := by unfold inI; omega
    have hr : 0 ≤ (i : Int) ∧ (i : Int) < 256 := by omega
    have up : 0 ≤ M 49 i → (w < M 48 i ∨ (M 48 i = w ∧ M 49 i < c)) → H_90_121 d P i (mset (mset M 47 2 w) 47 3 c) := by
      intro z0 z
      refine sg_90_121 ⟨hr, hr, hi, ?_⟩
      rw [m47]
      exact ih (hs.2 z0 z)
    refine sg_90_61 ⟨fun z => by omega, fun _ => ?_⟩
    show (0 ≤ (i : Int) ∧ (i : Int) < 256) ∧ ((M 49 i < 0 → inI ((i : Int) + 1) ∧ H_90_61 d P ((i : Int) + 1) (mset (mset M 47 2 w) 47 3 c)) ∧ (0 ≤ M 49 i → (0 ≤ (i : Int) ∧ (i : Int) < 256) ∧ ((w < M 48 i → H_90_121 d P i (mset (mset M 47 2 w) 47 3 c)) ∧ (M 48 i ≤ w → (0 ≤ (i : Int) ∧ (i : Int) < 256) ∧ ((¬ M 48 i = w → inI ((i : Int) + 1) ∧ H_90_61 d P ((i : Int) + 1) (mset (mset M 47 2 w) 47 3 c)) ∧ (M 48 i = w → (0 ≤ (i : Int) ∧ (i : Int) < 256) ∧ ((c ≤ M 49 i → inI ((i : Int) + 1) ∧ H_90_61 d P ((i : Int) + 1) (mset (mset M 47 2 w) 47 3 c)) ∧ (M 49 i < c → H_90_121 d P i (mset (mset M 47 2 w) 47 3 c)))))))))
    exact ⟨hr, fun z => ⟨hi, ih (hs.1 (Or.inl z))⟩, fun z => ⟨hr, fun y => up z (Or.inl y), fun y => ⟨hr, fun q => ⟨hi, ih (hs.1 (by omega))⟩, fun q => ⟨hr, fun t => ⟨hi, ih (hs.1 (by omega))⟩, fun t => up z (Or.inr ⟨q, t⟩)⟩⟩⟩⟩
theorem c_90 {d : Nat} {P : Mm → Prop} {M : Mm} (hC : IC M) (hP : IP M) (hH : IH M) (hK : ∀ (s f : Int → Int) (w c : Int), (∀ j : Nat, j < 256 → s j = szP (M 5) (M 1 6) j) → bsP (cpP M) s 256 w c → P (mset (mset (rset (rset M 48 s) 49 f) 47 2 w) 47 3 c)) : EE (d + 3) 90 [vR 47, vR 1, vR 10, vR 24] M (rV P) := by
  refine sg_90 (c_91 hC (fun s hs => ?_))
  refine c_173 shk_49 (by decide) ?_
  rw [ms_same]
  have s0 : s 0 = 0 := by
    have := hs 0 (by omega)
    rw [szP_0] at this
    exact this
  refine lp_90_24 (M := rset M 48 s) hP hH (fun f hf hg => ?_) 6 0 rfl (fun S hS => ?_) (fun S hS => ?_)
  · refine lp_90_61 (M := rset (rset M 48 s) 49 f) (cap := cpP M) hf (fun w c hb => hK s f w c hs hb) 255 1 rfl ⟨⟨0, 0, by omega, Fe_00 6, s0, rfl⟩, fun S m hS hF => ?_⟩
    have e : S = 0 := by omega
    subst e
    exact Or.inr ⟨s0, by omega⟩
  · by_cases e : S = 0
    · subst e
      rw [ps_eq (by omega)]
      exact Or.inr ⟨0, rfl, ⟨rfl, rfl⟩, fun m' _ => by omega⟩
    · rw [fs_ne (by omega)]
      unfold ffl
      rw [if_pos (by omega)]
      exact Or.inl ⟨by omega, fun m hm => e hm.1⟩
  · by_cases e : S = 0
    · subst e
      rw [ps_eq (by omega)]; omega
    · rw [fs_ne (by omega)]
      unfold ffl
      rw [if_pos (by omega)]; omega
