/-! paths: the reference's loops over sets and trains -/
def Wt (cap : Nat → Int) (sz : Nat → Int) (ok : Nat → Bool) (v : Nat) (ct : Int) (g : Int → Int) (a : Nat) (f : Int → Int) : Prop := (∀ j : Nat, j < 16384 → 0 ≤ f j ∧ f j ≤ 1000000) ∧ Snd cap sz f ∧ (∀ j : Int, f j ≤ g j) ∧ ∀ b : Nat, 0 < b → b < a → (0 < sz b ∧ sz b ≤ ct ∧ ok b = true) → ∀ p : Nat, p < 16384 → g p < 1000000 → p / 64 &&& b = 0 → p / 2 ^ v % 2 = 0 → f ((p + 64 * b + 2 ^ v : Nat) : Int) ≤ g p + 1
theorem Wt_n {cap : Nat → Int} {sz : Nat → Int} {ok : Nat → Bool} {v : Nat} {ct : Int} {g : Int → Int} {a : Nat} {f : Int → Int} (h : Wt cap sz ok v ct g a f) (hn : ¬ (0 < sz a ∧ sz a ≤ ct ∧ ok a = true)) : Wt cap sz ok v ct g (a + 1) f := by
  refine ⟨h.1, h.2.1, h.2.2.1, fun b b0 b1 hb => ?_⟩
  by_cases e : b = a
  · subst e; exact absurd hb hn
  · exact h.2.2.2 b b0 (by omega) hb
theorem Wt_y {cap : Nat → Int} {sz : Nat → Int} {ok : Nat → Bool} {v : Nat} {ct : Int} {g : Int → Int} {a : Nat} {f : Int → Int} (h : Wt cap sz ok v ct g a f) (hv : v < 6) (ha : ¬ a = 0) (ha2 : a < 256) (hs : sz a ≤ cap v) : Wt cap sz ok v ct g (a + 1) (loopN (rlx v a) 0 16384 f) := by
  refine ⟨lpN_b 16384 0 rfl h.1, lpN_S hv ha ha2 hs 16384 0 rfl h.2.1, fun j => Int.le_trans (lpN_le 16384 0 j) (h.2.2.1 j), fun b b0 b1 hb p hp hg h1 h2 => ?_⟩
  by_cases e : b = a
  · subst e
    have hle := h.2.2.1 p
    exact Int.le_trans (lpN_t h1 h2 16384 0 (f := f) (Nat.zero_le p) (by omega) (Int.lt_of_le_of_lt hle hg)) (Int.add_le_add_right hle 1)
  · exact Int.le_trans (lpN_le 16384 0 _) (h.2.2.2 b b0 (by omega) hb p hp hg h1 h2)
theorem lp_136_155 {d : Nat} {P : Int → Mm → Prop} {M : Mm} {a1 : Int} {cap : Nat → Int} {t v : Nat} {ct : Int} {g : Int → Int} (ht : t < 6) (hv : v < 6) (hct : ct ≤ cap v) (hn : 0 ≤ M 76 2 ∧ M 76 2 ≤ 48) (hg : ∀ c, 0 ≤ c → c < M 76 2 → 0 ≤ M 80 c ∧ M 80 c ≤ 7) (hK : ∀ f : Int → Int, Wt cap (szP (M 80) (M 76 2)) (nzP (M 80) (M 76 2)) v ct g 256 f → H_136_49 (d + 2) P a1 ((t : Int) + 1) (rset M 108 f)) : ∀ (k a : Nat) {f : Int → Int}, k + a = 256 → 0 < a → Wt cap (szP (M 80) (M 76 2)) (nzP (M 80) (M 76 2)) v ct g a f → H_136_155 (d + 2) P a1 t v ct a (rset M 108 f)
  | 0, a, f, hk, ha, hW => by
    have e : a = 256 := by omega
    subst e
    exact sg_136_155 ⟨fun _ => ⟨by unfold inI; omega, hK f hW⟩, fun z => by omega⟩
  | k + 1, a, f, hk, ha, hW => by
    have ih : ∀ {f : Int → Int}, Wt cap (szP (M 80) (M 76 2)) (nzP (M 80) (M 76 2)) v ct g (a + 1) f → H_136_155 (d + 2) P a1 t v ct ((a : Int) + 1) (rset M 108 f) := by
      intro f hW
      have := lp_136_155 (d := d) (P := P) ht hv hct hn hg hK k (a + 1) (f := f) (by omega) (by omega) hW
      rw [show ((a + 1 : Nat) : Int) = (a : Int) + 1 by omega] at this
      exact this
    have hi : inI ((a : Int) + 1) := by unfold inI; omega
    refine sg_136_155 ⟨fun z => by omega, fun _ => c_171 (M := rset M 108 f) (by omega) hn hg ?_⟩
    refine ⟨fun z => ⟨hi, ih (Wt_n hW (fun y => ?_))⟩, fun z => ⟨fun z2 => ⟨hi, ih (Wt_n hW (fun y => ?_))⟩, fun z2 => c_172 (M := rset M 108 f) (by omega) hn hg (fun z3 => t1 ?_) (fun z3 => t0 ⟨hi, ih (Wt_n hW (fun y => ?_))⟩)⟩⟩
    · have z : szP (M 80) (M 76 2) a ≤ 0 := z
      omega
    · have z2 : ct < szP (M 80) (M 76 2) a := z2
      omega
    · have z2 : szP (M 80) (M 76 2) a ≤ ct := z2
      refine lp_136_195 (M := M) (by omega) hv 16384 0 rfl hW.1 ?_
      exact ih (Wt_y hW hv (by omega) (by omega) (by omega))
    · have z3 : nzP (M 80) (M 76 2) a = false := z3
      rw [z3] at y
      exact absurd y.2.2 (by decide)
theorem Cmp_s {cap : Nat → Int} {vl : Nat → Nat} {ct : Nat → Int} {sz : Nat → Int} {ok : Nat → Bool} {t : Nat} {f g : Int → Int} (hv : vl t < 6) (hW : Wt cap sz ok (vl t) (ct t) g 256 f) (hC : Cmp vl ct sz ok t g) : Cmp vl ct sz ok (t + 1) f := by
  intro A hA
  by_cases hx : A (vl t) = 0 ∨ ∃ τ, τ < t ∧ vl τ = vl t ∧ sz (A (vl t)) ≤ ct τ
  · have gd : gdT vl ct sz ok t A := by
      refine ⟨hA.1, fun v hv hne => ⟨(hA.2 v hv hne).1, ?_⟩⟩
      obtain ⟨τ, h1, h2, h3⟩ := (hA.2 v hv hne).2
      by_cases e : τ = t
      · subst e
        subst h2
        rcases hx with hx | hx
        · exact absurd hx hne
        · exact hx
      · exact ⟨τ, by omega, h2, h3⟩
    exact Int.le_trans (hW.2.2.1 _) (hC A gd)
  · have hne : ¬ A (vl t) = 0 := fun y => hx (Or.inl y)
    have hdj : djA (upA A (vl t) 0) := djA_up hA.1 (by omega) (fun u _ _ => Nat.and_zero _)
    have gd : gdT vl ct sz ok t (upA A (vl t) 0) := by
      refine ⟨hdj, fun u hu hu0 => ?_⟩
      by_cases e : u = vl t
      · subst e; exact absurd upA_eq hu0
      · rw [upA_ne e] at hu0 ⊢
        obtain ⟨h0, τ, h1, h2, h3⟩ := hA.2 u hu hu0
        refine ⟨h0, τ, ?_, h2, h3⟩
        by_cases e2 : τ = t
        · subst e2; exact absurd h2.symm e
        · omega
    have hd : unA (upA A (vl t) 0) 6 &&& A (vl t) = 0 := by
      refine (unA_dj 6).mpr (fun u hu => ?_)
      by_cases e : u = vl t
      · subst e; rw [upA_eq]; exact Nat.zero_and _
      · rw [upA_ne e]; exact hA.1.2 u (vl t) hu hv e
    have up := cdA_up hdj hv upA_eq hne (hA.1.1 _ hv) hd
    rw [upA_back] at up
    have src := cdA_s (A := upA A (vl t) 0) hv
    rw [if_pos upA_eq] at src
    have hg := hC _ gd
    have hle := cnA_le (A := upA A (vl t) 0) 6
    obtain ⟨h0, τ, h1, h2, h3⟩ := hA.2 (vl t) hv hne
    have e : τ = t := by
      by_cases e : τ = t
      · exact e
      · exact absurd (Or.inr ⟨τ, by omega, h2, h3⟩) hx
    subst e
    have key := hW.2.2.2 (A (vl τ)) (by omega) (hA.1.1 _ hv) ⟨h0.1, h3, h0.2⟩ (cdA (upA A (vl τ) 0)) (cdA_lt hdj) (by omega) (by rw [src.1]; exact hd) src.2
    rw [← up.1] at key
    rw [up.2]
    omega
/-- the village of train t -/
def vlM (M : Mm) (t : Nat) : Nat := (M 84 (5 * t + 4)).toNat
def JJ (cap : Nat → Int) (sz : Nat → Int) (ok : Nat → Bool) (vl : Nat → Nat) (ct : Nat → Int) (t : Nat) (f : Int → Int) : Prop := (∀ j : Nat, j < 16384 → 0 ≤ f j ∧ f j ≤ 1000000) ∧ Snd cap sz f ∧ Cmp vl ct sz ok t f
theorem lp_136_49 {d : Nat} {P : Int → Mm → Prop} {M : Mm} {a1 : Int} {cap : Nat → Int} (hP : IP M) (hH : IH M) (hct : ∀ t : Nat, t < 6 → ctP M t ≤ cap (vlM M t)) (hn : 0 ≤ M 76 2 ∧ M 76 2 ≤ 48) (hg : ∀ c, 0 ≤ c → c < M 76 2 → 0 ≤ M 80 c ∧ M 80 c ≤ 7) (hK : ∀ f : Int → Int, JJ cap (szP (M 80) (M 76 2)) (nzP (M 80) (M 76 2)) (vlM M) (ctP M) 6 f → H_136_325 (d + 2) P a1 0 0 0 (rset M 108 f)) : ∀ (k t : Nat) {f : Int → Int}, k + t = 6 → JJ cap (szP (M 80) (M 76 2)) (nzP (M 80) (M 76 2)) (vlM M) (ctP M) t f → H_136_49 (d + 2) P a1 t (rset M 108 f)
  | 0, t, f, hk, hJ => by
    have e : t = 6 := by omega
    subst e
    exact sg_136_49 ⟨fun _ => hK f hJ, fun z => by omega⟩
  | k + 1, t, f, hk, hJ => by
    have h24 := hH.1
    have hv := (hP.2.2.2.1 t (by omega) (by omega)).2.2.2.2
    have ev : M 84 (5 * t + 4) = ((vlM M t : Nat) : Int) := by unfold vlM; omega
    have hv6 : vlM M t < 6 := by omega
    refine sg_136_49 ⟨fun z => by omega, fun _ => ⟨by unfold inI; omega, by unfold inI; omega, by omega, ?_⟩⟩
    refine lp_136_72 (M := rset M 108 f) (by omega) hH ?_ (M 24 5).toNat 0 (by show (((M 24 5).toNat : Nat) : Int) = M 24 5 - ((0 : Nat) : Int); omega)
    show H_136_155 (d + 2) P a1 t (M 84 (5 * t + 4)) (ctP M t) 1 (rset M 108 f)
    rw [ev]
    refine lp_136_155 (cap := cap) (g := f) (by omega) hv6 (hct t (by omega)) hn hg (fun f2 hW => ?_) 255 1 rfl (by omega) ⟨hJ.1, hJ.2.1, fun j => Int.le_refl _, fun b b0 b1 => by omega⟩
    have := lp_136_49 (d := d) (P := P) (a1 := a1) hP hH hct hn hg hK k (t + 1) (f := f2) (by omega) ⟨hW.1, hW.2.1, Cmp_s hv6 hW hJ.2.2⟩
    rw [show ((t + 1 : Nat) : Int) = (t : Int) + 1 by omega] at this
    exact this
/-- the best of the first i states -/
def brP (sz : Nat → Int) (f : Int → Int) (i : Nat) (w c : Int) : Prop := (∃ q : Nat, q < i ∧ f q < 1000000 ∧ sz (q / 64) = w ∧ f q = c) ∧ ∀ q : Nat, q < i → f q < 1000000 → sz (q / 64) < w ∨ (sz (q / 64) = w ∧ c ≤ f q)
theorem brP_n {sz : Nat → Int} {f : Int → Int} {i : Nat} {w c : Int} (h : brP sz f i w c) (hn : f i < 1000000 → sz (i / 64) < w ∨ (sz (i / 64) = w ∧ c ≤ f i)) : brP sz f (i + 1) w c := by
  obtain ⟨⟨q, h1, h2⟩, h3⟩ := h
  refine ⟨⟨q, by omega, h2⟩, fun p hp hf => ?_⟩
  by_cases e : p = i
  · subst e; exact hn hf
  · exact h3 p (by omega) hf
theorem brP_y {sz : Nat → Int} {f : Int → Int} {i : Nat} {w c : Int} (h : brP sz f i w c) (hf : f i < 1000000) (hn : w < sz (i / 64) ∨ (sz (i / 64) = w ∧ f i < c)) : brP sz f (i + 1) (sz (i / 64)) (f i) := by
  obtain ⟨_, h3⟩ := h
  refine ⟨⟨i, by omega, hf, rfl, rfl⟩, fun p hp hf => ?_⟩
  by_cases e : p = i
  · subst e; exact Or.inr ⟨rfl, Int.le_refl _⟩
  · have := h3 p (by omega) hf
    omega
theorem lp_136_325 {d : Nat} {P : Int → Mm → Prop} {M : Mm} {a1 : Int} (hn : 0 ≤ M 76 2 ∧ M 76 2 ≤ 48) (hg : ∀ c, 0 ≤ c → c < M 76 2 → 0 ≤ M 80 c ∧ M 80 c ≤ 7) (hK : ∀ w c : Int, brP (szP (M 80) (M 76 2)) (M 108) 16384 w c → (¬ a1 = 0 → P c M) ∧ (a1 = 0 → P w M)) : ∀ (k i : Nat) {w c : Int}, k + i = 16384 → brP (szP (M 80) (M 76 2)) (M 108) i w c → H_136_325 (d + 1) P a1 w c i M
  | 0, i, w, c, hk, hb => by
    have e : i = 16384 := by omega
    subst e
    exact sg_136_325 ⟨fun _ => hK w c hb, fun z => by omega⟩
  | k + 1, i, w, c, hk, hb => by
    have ih : ∀ {w c : Int}, brP (szP (M 80) (M 76 2)) (M 108) (i + 1) w c → H_136_325 (d + 1) P a1 w c ((i : Int) + 1) M := by
      intro w c hb
      have := lp_136_325 (d := d) (P := P) (a1 := a1) hn hg hK k (i + 1) (w := w) (c := c) (by omega) hb
      rw [show ((i + 1 : Nat) : Int) = (i : Int) + 1 by omega] at this
      exact this
    have hi : inI ((i : Int) + 1) := by unfold inI; omega
    have hr : 0 ≤ (i : Int) ∧ (i : Int) < 16384 := by omega
    refine sg_136_325 ⟨fun z => by omega, fun _ => ⟨hr, fun z => ⟨hi, ih (brP_n hb (fun y => by omega))⟩, fun z => ⟨by omega, ?_⟩⟩⟩
    rw [show (i : Int) / 64 = ((i / 64 : Nat) : Int) by omega]
    refine c_171 (by omega) hn hg ⟨fun y => sg_136_379 ⟨hr, hi, ih (brP_y hb z (Or.inl y))⟩, fun y => ⟨fun y2 => ⟨hi, ih (brP_n hb (fun _ => by omega))⟩, fun y2 => ⟨hr, fun y3 => ⟨hi, ih (brP_n hb (fun _ => Or.inr ⟨y2, y3⟩))⟩, fun y3 => sg_136_379 ⟨hr, hi, ih (brP_y hb z (Or.inr ⟨y2, y3⟩))⟩⟩⟩⟩
