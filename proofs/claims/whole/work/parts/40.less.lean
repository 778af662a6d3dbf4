/-! lessons -/
def mk9 (n r : Nat) : Nat → Int
  | 0 => 0
  | k + 1 => zor (mk9 n r k) (zshl 1 ((if r + k < n then r + k else r + k - n : Nat) : Int))
theorem mk9_bit : ∀ n, n < 10 → ∀ r, r < n → ∀ k, k < n + 1 → ∀ j, j < n → zand (zshr (mk9 n r k) (j : Nat)) 1 = if (r ≤ j ∧ j < r + k) ∨ j + n < r + k then 1 else 0 := by
  decide +kernel
theorem lp_137_154 {d : Nat} {P : Int → Mm → Prop} {M : Mm} {n r k T : Nat} {a4 a5 a6 s a8 q : Int} (hn : n < 10) (hr : r < n) (hk : k < n) (hT : (r + k < n ∧ T = r + k) ∨ (n ≤ r + k ∧ T + n = r + k)) (hf : ∀ j : Nat, j < n → (j < r ∧ M 110 j = q + 1) ∨ (r ≤ j ∧ M 110 j = q)) (hK : H_137_140 d P n a4 a5 a6 s a8 (mk9 n r (k + 1)) ((k : Int) + 1) M) : ∀ (u i : Nat) {b : Int}, u + i = n → ((b = T ∧ T < i) ∨ (i ≤ T ∧ (b = -9 ∨ ∃ c : Nat, b = c ∧ c < r ∧ c < i ∧ r + k < n))) → H_137_154 d P n a4 a5 a6 s a8 (mk9 n r k) k b i M
  | 0, i, b, hu, hb => by
    refine sg_137_154 ⟨fun _ => ⟨by unfold inI; omega, ?_⟩, fun z => by omega⟩
    have e : b = T := by
      rcases hb with hb | ⟨h1, h2⟩
      · exact hb.1
      · clear h2; omega
    have e2 : mk9 n r (k + 1) = zor (mk9 n r k) (zshl 1 b) := by
      show zor (mk9 n r k) (zshl 1 ((if r + k < n then r + k else r + k - n : Nat) : Int)) = _
      rw [e, show (if r + k < n then r + k else r + k - n : Nat) = T by clear hb e; split <;> omega]
    rw [← e2]; exact hK
  | u + 1, i, b, hu, hb => by
    have ih := fun {b : Int} => lp_137_154 (d := d) (P := P) hn hr hk hT hf hK u (i + 1) (b := b) (by omega)
    rw [show ((i + 1 : Nat) : Int) = (i : Int) + 1 by omega] at ih
    have hbit := mk9_bit n hn r hr k (by omega) i (by omega)
    have hi : inI ((i : Int) + 1) := by unfold inI; omega
    have ci := hf i (by omega)
    refine sg_137_154 ⟨fun z => by omega, fun _ => ?_⟩
    rw [hbit]
    by_cases t : (r ≤ i ∧ i < r + k) ∨ i + n < r + k
    · rw [if_pos t]
      refine ⟨fun _ => sg_137_175 (t0 ⟨hi, ih ?_⟩), fun z => by omega⟩
      rcases hb with hb | ⟨h1, h2⟩
      · exact Or.inl (by omega)
      · refine Or.inr ⟨by omega, ?_⟩
        rcases h2 with h2 | ⟨c, h2⟩
        · exact Or.inl h2
        · exact Or.inr ⟨c, by omega⟩
    · rw [if_neg t]
      refine ⟨fun z => by omega, fun _ => sg_137_175 (t1 ⟨fun z => ⟨hi, ih ?_⟩, fun z => ?_⟩)⟩
      · have h1 : i ≤ T := by
          rcases hb with hb | ⟨h1, h2⟩
          · omega
          · exact h1
        clear hb
        by_cases e : i = T
        · exact Or.inl (by omega)
        · exact Or.inr ⟨by omega, Or.inr ⟨i, by omega⟩⟩
      · rcases hb with hb | ⟨h1, h2⟩
        · have cT := hf T (by omega)
          rw [hb.1]
          refine ⟨by omega, by omega, fun y => ⟨hi, ih (Or.inl (by omega))⟩, fun y => by omega⟩
        · rcases h2 with h2 | ⟨c, h2, h3, h4, h5⟩
          · exact absurd h2 z
          · have cc := hf c (by omega)
            rw [h2]
            refine ⟨by omega, by omega, fun y => ⟨hi, ih (Or.inr ⟨by omega, Or.inr ⟨c, by omega⟩⟩)⟩, fun y => ⟨hi, ih (Or.inl (by omega))⟩⟩
theorem lp_137_140 {d : Nat} {P : Int → Mm → Prop} {M : Mm} {n r s : Nat} {a4 a5 a6 a8 q : Int} (hn : n < 10) (hr : r < n) (hs : s ≤ n) (hf : ∀ j : Nat, j < n → (j < r ∧ M 110 j = q + 1) ∨ (r ≤ j ∧ M 110 j = q)) (hK : H_137_239 d P n a4 a5 a6 s a8 (mk9 n r s) 0 M) : ∀ (u k : Nat), u + k = s → H_137_140 d P n a4 a5 a6 s a8 (mk9 n r k) k M
  | 0, k, hu => by
    refine sg_137_140 ⟨fun _ => ?_, fun z => by omega⟩
    rw [show k = s by omega]; exact hK
  | u + 1, k, hu => by
    have ih := lp_137_140 (d := d) (P := P) hn hr hs hf hK u (k + 1) (by omega)
    rw [show ((k + 1 : Nat) : Int) = (k : Int) + 1 by omega] at ih
    refine sg_137_140 ⟨fun z => by omega, fun _ => ?_⟩
    refine lp_137_154 (T := if r + k < n then r + k else r + k - n) hn hr (by omega) (by split <;> omega) hf ih n 0 (by omega) (Or.inr ⟨by omega, Or.inl rfl⟩)
theorem lp_137_239 {d : Nat} {P : Int → Mm → Prop} {M : Mm} {n r s : Nat} {a4 a5 a6 a8 q : Int} {f0 : Int → Int} (hn : n < 10) (hr : r < n) (hs : s ≤ n) (ha : 0 ≤ a8 ∧ a8 ≤ 300) (hq : 0 ≤ q ∧ q ≤ 300) (hf : ∀ j : Nat, j < n → (j < r ∧ f0 j = q + 1) ∨ (r ≤ j ∧ f0 j = q)) (hK : ∀ f : Int → Int, (∀ j : Nat, j < n → f j = f0 j + if (r ≤ j ∧ j < r + s) ∨ j + n < r + s then 1 else 0) → H_137_124 d P n a4 a5 a6 s (a8 + 1) (rset M 110 f)) : ∀ (u i : Nat) {f : Int → Int}, u + i = n → (∀ j : Nat, j < i → f j = f0 j + if (r ≤ j ∧ j < r + s) ∨ j + n < r + s then 1 else 0) → (∀ j : Nat, i ≤ j → j < n → f j = f0 j) → H_137_239 d P n a4 a5 a6 s a8 (mk9 n r s) i (rset M 110 f)
  | 0, i, f, hu, h1, h2 => by
    refine sg_137_239 ⟨fun _ => ⟨by unfold inI; omega, hK f (fun j hj => h1 j (by omega))⟩, fun z => by omega⟩
  | u + 1, i, f, hu, h1, h2 => by
    have ih := fun {f : Int → Int} => lp_137_239 (d := d) (P := P) hn hr hs ha hq hf hK u (i + 1) (f := f) (by omega)
    rw [show ((i + 1 : Nat) : Int) = (i : Int) + 1 by omega] at ih
    have hbit := mk9_bit n hn r hr s (by omega) i (by omega)
    have ci := hf i (by omega)
    have e1 : (rset M 110 f) 110 (i : Int) = f0 i := h2 i (Nat.le_refl i) (by omega)
    refine sg_137_239 ⟨fun z => by omega, fun _ => ?_⟩
    rw [hbit, e1, ms_same]
    refine ⟨by omega, ?_, by omega, by unfold inI; omega, ih (fun j hj => ?_) (fun j hj hj2 => ?_)⟩
    · unfold inI; split <;> omega
    · by_cases e : j = i
      · subst e; rw [fs_eq]
      · rw [fs_ne (by omega)]; exact h1 j (by omega)
    · rw [fs_ne (by omega)]; exact h2 j (by omega) hj2
theorem lp_137_124 {d : Nat} {P : Int → Mm → Prop} {M : Mm} {n s : Nat} {a4 a5 a6 : Int} (hn : n < 10) (hs : 1 ≤ s ∧ s ≤ n) (h6 : 0 ≤ a6 ∧ a6 < n) (hT : 0 ≤ a4 * a5 ∧ a4 * a5 ≤ 300) (hK : ∀ f q r, (n : Int) * q + r = s * (a4 * a5) → 0 ≤ r → r < n → 0 ≤ q → q ≤ 300 → P (q + if a6 < r then 1 else 0) (rset M 110 f)) : ∀ (u t : Nat) {r : Nat} {q : Int} {f : Int → Int}, (u : Int) = a4 * a5 - t → r < n → (n : Int) * q + r = s * t → 0 ≤ q → q ≤ t → (∀ j : Nat, j < n → (j < r ∧ f j = q + 1) ∨ (r ≤ j ∧ f j = q)) → H_137_124 d P n a4 a5 a6 s t (rset M 110 f)
  | 0, t, r, q, f, hu, hr, hx, hq, hq2, hf => by
    refine sg_137_124 ⟨by unfold inI; omega, fun _ => ⟨by omega, ?_⟩, fun z => by omega⟩
    have h := hK f q r (by rw [hx, show a4 * a5 = (t : Int) by omega]) (by omega) (by omega) hq (by omega)
    have hj := hf a6.toNat (by omega)
    rw [show ((a6.toNat : Nat) : Int) = a6 by omega] at hj
    have e : (rset M 110 f) 110 a6 = q + if a6 < (r : Int) then 1 else 0 := by
      show f a6 = _
      split <;> omega
    rw [e]; exact h
  | u + 1, t, r, q, f, hu, hr, hx, hq, hq2, hf => by
    have ih := fun {r : Nat} {q : Int} {f : Int → Int} => lp_137_124 (d := d) (P := P) hn hs h6 hT hK u (t + 1) (r := r) (q := q) (f := f) (by omega)
    rw [show ((t + 1 : Nat) : Int) = (t : Int) + 1 by omega, Int.mul_add] at ih
    refine sg_137_124 ⟨by unfold inI; omega, fun z => by omega, fun _ => ?_⟩
    refine lp_137_140 (M := rset M 110 f) (q := q) hn hr hs.2 hf ?_ s 0 (by omega)
    refine lp_137_239 (M := M) (f0 := f) hn hr hs.2 (by omega) (by omega) hf (fun f2 hf2 => ?_) n 0 (by omega) (fun j hj => by omega) (fun j _ _ => rfl)
    by_cases c : r + s < n
    · refine ih (r := r + s) (q := q) c (by omega) hq (by omega) (fun j hj => ?_)
      have h1 := hf2 j hj
      have h2 := hf j hj
      by_cases e : (r ≤ j ∧ j < r + s) ∨ j + n < r + s
      · rw [if_pos e] at h1; omega
      · rw [if_neg e] at h1; omega
    · refine ih (r := r + s - n) (q := q + 1) (by omega) ?_ (by omega) (by omega) (fun j hj => ?_)
      · rw [Int.mul_add]; omega
      · have h1 := hf2 j hj
        have h2 := hf j hj
        by_cases e : (r ≤ j ∧ j < r + s) ∨ j + n < r + s
        · rw [if_pos e] at h1; omega
        · rw [if_neg e] at h1; omega
theorem lp_137_100 {d : Nat} {P : Int → Mm → Prop} {M : Mm} {a1 a4 a5 a6 s : Int} (hK : ∀ f : Int → Int, (∀ x, 0 ≤ x → x < 9 → f x = 0) → H_137_124 d P a1 a4 a5 a6 s 0 (rset M 110 f)) : ∀ (k i : Nat) {f : Int → Int}, k + i = 9 → (∀ x, 0 ≤ x → x < (i : Int) → f x = 0) → H_137_100 d P a1 a4 a5 a6 s i (rset M 110 f)
  | 0, i, f, hk, hf => sg_137_100 ⟨fun _ => hK f (fun x x0 x1 => hf x x0 (by omega)), fun z => by omega⟩
  | k + 1, i, f, hk, hf => by
    refine sg_137_100 ⟨fun z => by omega, fun z => ⟨by omega, by unfold inI; omega, ?_⟩⟩
    rw [ms_same]
    have := lp_137_100 hK k (i + 1) (f := fset f i 0) (by omega) (fun x x0 x1 => by
      by_cases e : x = i
      · rw [ps_eq e]
      · rw [fs_ne e]; exact hf x x0 (by omega))
    rw [show ((i + 1 : Nat) : Int) = (i : Int) + 1 by omega] at this
    exact this
theorem op_lessons {d : Nat} {M : Mm} {k a1 a2 a3 a4 a5 a6 : Int} (hI : Inv k M) : opI k (d + 5) 29 137 [vI a1, vI a2, vI a3, vI a4, vI a5, vI a6] M := by
  have hI2 := hI.thr
  have bad : ∀ {A B : Prop}, B → ((0 : Int) = 0 → B) ∧ (¬ (0 : Int) = 0 → A) := fun h => t0 h
  by_cases h1 : 1 ≤ a1 ∧ a1 ≤ 9
  case neg =>
    refine sg_29 (c_32 (fun q => absurd q h1) (fun _ => t0 ?_))
    exact sg_137 (c_140 (fun q => absurd q h1) (fun _ => t0 ⟨rfl, hI2⟩))
  by_cases h2 : 1 ≤ a2 ∧ a2 ≤ 9
  case neg =>
    refine sg_29 (c_32 (fun _ => t1 (c_32 (fun q => absurd q h2) (fun _ => t0 ?_))) (fun q => absurd h1 q))
    exact sg_137 (c_140 (fun _ => t1 (c_140 (fun q => absurd q h2) (fun _ => t0 ⟨rfl, hI2⟩))) (fun q => absurd h1 q))
  by_cases h3 : 1 ≤ a3 ∧ a3 ≤ 9
  case neg =>
    refine sg_29 (c_32 (fun _ => t1 (c_32 (fun _ => t1 (c_32 (fun q => absurd q h3) (fun _ => t0 ?_))) (fun q => absurd h2 q))) (fun q => absurd h1 q))
    exact sg_137 (c_140 (fun _ => t1 (c_140 (fun _ => t1 (c_140 (fun q => absurd q h3) (fun _ => t0 ⟨rfl, hI2⟩))) (fun q => absurd h2 q))) (fun q => absurd h1 q))
  by_cases h4 : 1 ≤ a4 ∧ a4 ≤ 10
  case neg =>
    refine sg_29 (c_32 (fun _ => t1 (c_32 (fun _ => t1 (c_32 (fun _ => t1 (c_32 (fun q => absurd q h4) (fun _ => t0 ?_))) (fun q => absurd h3 q))) (fun q => absurd h2 q))) (fun q => absurd h1 q))
    exact sg_137 (c_140 (fun _ => t1 (c_140 (fun _ => t1 (c_140 (fun _ => t1 (c_140 (fun q => absurd q h4) (fun _ => t0 ⟨rfl, hI2⟩))) (fun q => absurd h3 q))) (fun q => absurd h2 q))) (fun q => absurd h1 q))
  by_cases h5 : 1 ≤ a5 ∧ a5 ≤ 30
  case neg =>
    refine sg_29 (c_32 (fun _ => t1 (c_32 (fun _ => t1 (c_32 (fun _ => t1 (c_32 (fun _ => t1 (c_32 (fun q => absurd q h5) (fun _ => t0 ?_))) (fun q => absurd h4 q))) (fun q => absurd h3 q))) (fun q => absurd h2 q))) (fun q => absurd h1 q))
    exact sg_137 (c_140 (fun _ => t1 (c_140 (fun _ => t1 (c_140 (fun _ => t1 (c_140 (fun _ => t1 (c_140 (fun q => absurd q h5) (fun _ => t0 ⟨rfl, hI2⟩))) (fun q => absurd h4 q))) (fun q => absurd h3 q))) (fun q => absurd h2 q))) (fun q => absurd h1 q))
  by_cases h6 : 0 ≤ a6 ∧ a6 ≤ a1 - 1
  case neg =>
    refine sg_29 (c_32 (fun _ => t1 (c_32 (fun _ => t1 (c_32 (fun _ => t1 (c_32 (fun _ => t1 (c_32 (fun _ => t1 ⟨by unfold inI; omega, c_32 (fun q => absurd q h6) (fun _ => t0' ?_)⟩) (fun q => absurd h5 q))) (fun q => absurd h4 q))) (fun q => absurd h3 q))) (fun q => absurd h2 q))) (fun q => absurd h1 q))
    exact sg_137 (c_140 (fun _ => t1 (c_140 (fun _ => t1 (c_140 (fun _ => t1 (c_140 (fun _ => t1 (c_140 (fun _ => t1 ⟨by unfold inI; omega, c_140 (fun q => absurd q h6) (fun _ => t0' ⟨rfl, hI2⟩)⟩) (fun q => absurd h5 q))) (fun q => absurd h4 q))) (fun q => absurd h3 q))) (fun q => absurd h2 q))) (fun q => absurd h1 q))
  refine sg_29 (c_32 (fun _ => t1 (c_32 (fun _ => t1 (c_32 (fun _ => t1 (c_32 (fun _ => t1 (c_32 (fun _ => t1 ⟨by unfold inI; omega, c_32 (fun _ => t1' ?_) (fun q => absurd h6 q)⟩) (fun q => absurd h5 q))) (fun q => absurd h4 q))) (fun q => absurd h3 q))) (fun q => absurd h2 q))) (fun q => absurd h1 q))
  have hs : 1 ≤ (if (if a3 < a2 then a3 else a2) < a1 then (if a3 < a2 then a3 else a2) else a1) ∧ (if (if a3 < a2 then a3 else a2) < a1 then (if a3 < a2 then a3 else a2) else a1) ≤ a1 := by
    split <;> split <;> omega
  have hsd : ∀ {d : Nat} {P : Int → Mm → Prop} {M : Mm}, H_137_100 d P a1 a4 a5 a6 (if (if a3 < a2 then a3 else a2) < a1 then (if a3 < a2 then a3 else a2) else a1) 0 M → ((a3 ≤ a2 → H_137_81 d P a1 a4 a5 a6 a3 M) ∧ (a2 < a3 → H_137_81 d P a1 a4 a5 a6 a2 M)) := by
    intro d P M h
    refine ⟨fun z => sg_137_81 ⟨fun y => ?_, fun y => ?_⟩, fun z => sg_137_81 ⟨fun y => ?_, fun y => ?_⟩⟩
    · have : (if (if a3 < a2 then a3 else a2) < a1 then (if a3 < a2 then a3 else a2) else a1) = a3 := by
        split <;> split <;> omega
      rw [this] at h; exact h
    · have : (if (if a3 < a2 then a3 else a2) < a1 then (if a3 < a2 then a3 else a2) else a1) = a1 := by
        split <;> split <;> omega
      rw [this] at h; exact h
    · have : (if (if a3 < a2 then a3 else a2) < a1 then (if a3 < a2 then a3 else a2) else a1) = a2 := by
        split <;> split <;> omega
      rw [this] at h; exact h
    · have : (if (if a3 < a2 then a3 else a2) < a1 then (if a3 < a2 then a3 else a2) else a1) = a1 := by
        split <;> split <;> omega
      rw [this] at h; exact h
  generalize (if (if a3 < a2 then a3 else a2) < a1 then (if a3 < a2 then a3 else a2) else a1) = s at hs hsd ⊢
  have hT : 0 ≤ a4 * a5 ∧ a4 * a5 ≤ 300 := by
    refine ⟨Int.mul_nonneg (by omega) (by omega), ?_⟩
    have := Int.mul_le_mul h4.2 h5.2 (show (0 : Int) ≤ a5 by omega) (show (0 : Int) ≤ 10 by omega)
    omega
  have hX : 0 ≤ s * (a4 * a5) ∧ s * (a4 * a5) ≤ 2700 := by
    refine ⟨Int.mul_nonneg (by omega) hT.1, ?_⟩
    have := Int.mul_le_mul (show s ≤ 9 by omega) hT.2 hT.1 (show (0 : Int) ≤ 9 by omega)
    omega
  have hY : 0 ≤ s * a4 ∧ s * a4 ≤ 90 := by
    refine ⟨Int.mul_nonneg (by omega) (by omega), ?_⟩
    have := Int.mul_le_mul (show s ≤ 9 by omega) h4.2 (show (0 : Int) ≤ a4 by omega) (show (0 : Int) ≤ 9 by omega)
    omega
  have ref : ∀ {v : Int}, v = (s * (a4 * a5)) / a1 + (if a6 < (s * (a4 * a5)) % a1 then 1 else 0) → EE (d + 5) 137 [vR 76, vI a1, vI a2, vI a3, vI a4, vI a5, vI a6] M (rI fun r2 M2 => r2 = v ∧ Inv (k + 1) M2) := by
    intro v hv
    refine sg_137 (c_140 (fun _ => t1 (c_140 (fun _ => t1 (c_140 (fun _ => t1 (c_140 (fun _ => t1 (c_140 (fun _ => t1 ⟨by unfold inI; omega, c_140 (fun _ => t1' (hsd ?_)) (fun q => absurd h6 q)⟩) (fun q => absurd h5 q))) (fun q => absurd h4 q))) (fun q => absurd h3 q))) (fun q => absurd h2 q))) (fun q => absurd h1 q))
    obtain ⟨n, rfl⟩ := Int.eq_ofNat_of_zero_le (show 0 ≤ a1 by omega)
    obtain ⟨m, rfl⟩ := Int.eq_ofNat_of_zero_le (show 0 ≤ s by omega)
    have fin : ∀ (f2 : Int → Int) (q r : Int), (n : Int) * q + r = (m : Int) * (a4 * a5) → 0 ≤ r → r < (n : Int) → 0 ≤ q → q ≤ 300 → (q + if a6 < r then 1 else 0) = v ∧ Inv (k + 1) (rset (mset M 76 0 0) 110 f2) := by
      intro f2 q r e r0 r1 q0 q1
      have hu := (Int.ediv_emod_unique (a := (m : Int) * (a4 * a5)) (b := (n : Int)) (r := r) (q := q) (by omega)).mpr ⟨by omega, r0, r1⟩
      refine ⟨by rw [hv, hu.1, hu.2], ?_⟩
      obtain ⟨hC, hN, hD, hP, hB, hH, hL, hO, hY, hE, hT⟩ := hI
      exact ⟨hC, hN, hD, hP, hB, hH, hL, hO, hY, hE, hT.up⟩
    have go : ∀ f : Int → Int, (∀ x, 0 ≤ x → x < 9 → f x = 0) → H_137_124 (d + 4) (fun r2 M2 => r2 = v ∧ Inv (k + 1) M2) n a4 a5 a6 m 0 (rset (mset M 76 0 0) 110 f) := by
      intro f hf
      exact lp_137_124 (P := fun r2 M2 => r2 = v ∧ Inv (k + 1) M2) (M := mset M 76 0 0) (n := n) (s := m) (by omega) (by omega) (by omega) hT fin (a4 * a5).toNat 0 (r := 0) (q := 0) (f := f) (by omega) (by omega) (by simp) (by omega) (by omega) (fun j hj => Or.inr ⟨by omega, hf j (by omega) (by omega)⟩)
    have key := lp_137_100 go 9 0 (f := M 110) rfl (fun x x0 x1 => by omega)
    rw [show M 110 = (mset M 76 0 0) 110 from rfl, rs_id] at key
    exact key
  have hq := Int.ediv_emod_unique (a := s * (a4 * a5)) (b := a1) (r := s * (a4 * a5) % a1) (q := s * (a4 * a5) / a1) (by omega)
  have hd0 : 0 ≤ s * (a4 * a5) / a1 := Int.ediv_nonneg hX.1 (by omega)
  have hd1 : s * (a4 * a5) / a1 ≤ s * (a4 * a5) := Int.ediv_le_self _ hX.1
  rw [Int.mul_assoc]
  refine ⟨by unfold inI; omega, by unfold inI; omega, by omega, by omega, fun z => ⟨by unfold inI; omega, ref ?_⟩, fun z => ⟨by unfold inI; omega, ref ?_⟩⟩
  · rw [if_neg (by omega)]
  · rw [if_pos z]
