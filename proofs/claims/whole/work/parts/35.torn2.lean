/-! torn, the reference's side -/
def fitR (f : Int → Int) (v : Int) (n : Nat) (c : Int) (j : Nat) : Bool := decide (byt v (n - 1 - j) = 63) || decide (byt v (n - 1 - j) = f (8 * c + j))
theorem lp_135_139 {d : Nat} {P : Int → Mm → Prop} {M : Mm} {v w c many least : Int} {n : Nat} (hv : inJ v) (hc : 0 ≤ c ∧ c < 48) (hn : n ≤ 8) (h1 : allB (fitR (M 82) v n c) n = true → H_135_206 d P v n w many least c 1 M) (h0 : allB (fitR (M 82) v n c) n = false → H_135_206 d P v n w many least c 0 M) : ∀ (k i : Nat), k + i = n → allB (fitR (M 82) v n c) i = true → H_135_139 d P v n w many least c 1 i M
  | 0, i, hk, hp => by
    have e : n = i := by omega
    refine sg_135_139 ⟨fun _ => h1 (by subst e; exact hp), fun q => by omega⟩
  | k + 1, i, hk, hp => by
    have ih : fitR (M 82) v n c i = true → H_135_139 d P v n w many least c 1 ((i : Int) + 1) M := by
      intro z
      have := lp_135_139 (d := d) hv hc hn h1 h0 k (i + 1) (by omega) (by show (allB _ i && _) = true; rw [hp, z]; rfl)
      rw [show ((i + 1 : Nat) : Int) = (i : Int) + 1 by omega] at this
      exact this
    have bad : fitR (M 82) v n c i = false → H_135_139 d P v n w many least c 0 ((i : Int) + 1) M := by
      intro z
      have hx := h0 (by have := allB_f (p := fitR (M 82) v n c) z k; rw [show i + 1 + k = n by omega] at this; exact this)
      exact sg_135_139 ⟨fun _ => hx, fun _ => t0 hx⟩
    refine sg_135_139 ⟨fun q => by omega, fun q => t1 ⟨by unfold inI; omega, by unfold inI; omega, by unfold inI; omega, ?_⟩⟩
    rw [wjs hv (by omega), show (((n : Int) - 1) - (i : Int)).toNat = n - 1 - i by omega]
    refine ⟨fun z => ⟨by unfold inI; omega, ih ?_⟩, fun z => ⟨by unfold inI; omega, by unfold inI; omega, by omega, fun z2 => ⟨by unfold inI; omega, bad ?_⟩, fun z2 => ⟨by unfold inI; omega, ih ?_⟩⟩⟩
    · unfold fitR; rw [decide_eq_true z]; rfl
    · unfold fitR; rw [decide_eq_false z, decide_eq_false z2]; rfl
    · unfold fitR; rw [decide_eq_true z2]; simp
theorem fit_eq {M : Mm} (hN : IN M) {c : Int} (hc : 0 ≤ c ∧ c < M 1 6) {v : Int} {n : Nat} (hn : n ≤ 8) (e : M 7 c = n) : allB (fitR (M 82) v n c) n = allB (fun i => decide (byt v i = 63) || decide (byt v i = byt (M 6 c) i)) n := by
  have key : ∀ j, j < n → fitR (M 82) v n c j = (decide (byt v (n - 1 - j) = 63) || decide (byt v (n - 1 - j) = byt (M 6 c) (n - 1 - j))) := by
    intro j hj
    have := ((hN.2.2 c hc.1 hc.2).2 j (by omega) (by omega)).1
    unfold fitR
    rw [this, e]
    unfold ltr
    rw [zju (by omega), show ((n : Int) - 1 - (j : Int)).toNat = n - 1 - j by omega]
  rw [Bool.eq_iff_iff, allB_iff, allB_iff]
  constructor
  · intro h i hi
    have := h (n - 1 - i) (by omega)
    rw [key _ (by omega), show n - 1 - (n - 1 - i) = i by omega] at this
    exact this
  · intro h j hj
    rw [key j hj]
    exact h (n - 1 - j) (by omega)
theorem fsI_s {p : Int → Bool} {n : Nat} : fsI p (n + 1) = if fsI p n = -9 then (if p n = true then (n : Int) else -9) else fsI p n := rfl
theorem lp_135_109 {d : Nat} {P : Int → Mm → Prop} {M : Mm} {v w : Int} {n : Nat} (hC : IC M) (hN : IN M) (hv : inJ v) (hn : n ≤ 8) (hK : ∀ g : Int → Int, (∀ j : Nat, (j : Int) < M 1 6 → g j = if ftB (M 6) (M 7) v n j = true then 1 else 0) → ((2 ≤ w → H_135_287 d P v (cn (ftB (M 6) (M 7) v n) (M 1 6).toNat) (-9) 100 0 (rset M 107 g)) ∧ (w < 2 → ((¬ w = 0 → P (fsI (ftB (M 6) (M 7) v n) (M 1 6).toNat) (rset M 107 g)) ∧ (w = 0 → P (cn (ftB (M 6) (M 7) v n) (M 1 6).toNat) (rset M 107 g)))))) : ∀ (k i : Nat) {g : Int → Int}, (k : Int) = M 1 6 - i → (∀ j : Nat, j < i → g j = if ftB (M 6) (M 7) v n j = true then 1 else 0) → H_135_109 d P v n w (cn (ftB (M 6) (M 7) v n) i) (fsI (ftB (M 6) (M 7) v n) i) i (rset M 107 g)
  | 0, i, g, hk, hg => by
    refine sg_135_109 ⟨fun _ => ?_, fun z => ?_⟩
    · have := hK g (fun j hj => hg j (by omega))
      rw [show (M 1 6).toNat = i by omega] at this
      exact this
    · have z : (i : Int) < M 76 2 := z
      have := hC.2.1
      omega
  | k + 1, i, g, hk, hg => by
    have h48 := hC.1
    have h2 := hC.2.1
    have hcn := cn_b (p := ftB (M 6) (M 7) v n) i
    have ih := fun {g2 : Int → Int} => lp_135_109 (d := d) hC hN hv hn hK k (i + 1) (g := g2) (by omega)
    rw [show ((i + 1 : Nat) : Int) = (i : Int) + 1 by omega, cn_s, fsI_s] at ih
    have A0 : ftB (M 6) (M 7) v n i = false → H_135_206 d P v n w (cn (ftB (M 6) (M 7) v n) i) (fsI (ftB (M 6) (M 7) v n) i) i 0 (rset M 107 g) := by
      intro z
      have zf : ¬ ftB (M 6) (M 7) v n i = true := by rw [z]; decide
      rw [if_neg zf, if_neg zf] at ih
      refine sg_135_206 ⟨Or.inl rfl, by omega, t0 ?_⟩
      rw [ms_same]
      refine sg_135_227 ⟨by unfold inI; omega, t0 ⟨by unfold inI; omega, ?_⟩⟩
      have hh := ih (g2 := fset g i 0) (fun j hj => by
        by_cases e : j = i
        · subst e; rw [fs_eq, if_neg (by rw [z]; decide)]
        · rw [fs_ne (by omega)]; exact hg j (by omega))
      by_cases e : fsI (ftB (M 6) (M 7) v n) i = -9
      · rw [if_pos e] at hh; rw [e]; exact hh
      · rw [if_neg e] at hh; exact hh
    have A1 : ftB (M 6) (M 7) v n i = true → H_135_206 d P v n w (cn (ftB (M 6) (M 7) v n) i) (fsI (ftB (M 6) (M 7) v n) i) i 1 (rset M 107 g) := by
      intro z
      rw [if_pos z, if_pos z] at ih
      refine sg_135_206 ⟨Or.inr rfl, by omega, t1 ?_⟩
      rw [ms_same]
      have hh := ih (g2 := fset g i 1) (fun j hj => by
        by_cases e : j = i
        · subst e; rw [fs_eq, if_pos z]
        · rw [fs_ne (by omega)]; exact hg j (by omega))
      refine sg_135_227 ⟨by unfold inI; omega, t1 ⟨fun e => ⟨by unfold inI; omega, ?_⟩, fun e => ⟨by unfold inI; omega, ?_⟩⟩⟩
      · rw [if_neg e] at hh; exact hh
      · rw [if_pos e] at hh; exact hh
    refine sg_135_109 ⟨fun z => ?_, fun z => ⟨by omega, fun e => ?_, fun e => ?_⟩⟩
    · have z : M 76 2 ≤ (i : Int) := z
      omega
    · have e : ¬ M 81 i = (n : Int) := e
      rw [hN.1] at e
      have x := A0 (by unfold ftB; rw [decide_eq_false e]; rfl)
      exact sg_135_139 ⟨fun _ => x, fun _ => t0 x⟩
    · have e : M 81 i = (n : Int) := e
      rw [hN.1] at e
      have fe := fit_eq hN (c := i) (by omega) (v := v) hn e
      refine lp_135_139 (M := rset M 107 g) hv (by omega) hn (fun z => A1 ?_) (fun z => A0 ?_) n 0 (by omega) rfl
      · have z : allB (fitR (M 82) v n i) n = true := z
        unfold ftB; rw [decide_eq_true e, ← fe, z]; rfl
      · have z : allB (fitR (M 82) v n i) n = false := z
        unfold ftB; rw [decide_eq_true e, ← fe, z]; rfl
theorem lp_135_302 {d : Nat} {P : Int → Mm → Prop} {M : Mm} {v m b1 b2 q : Int} (hK : ∀ f : Int → Int, (∀ x, 0 ≤ x → x < 9 → f x = 0) → H_135_329 d P v m b1 b2 q 0 0 (rset M 109 f)) : ∀ (k i : Nat) {f : Int → Int}, k + i = 9 → (∀ x, 0 ≤ x → x < (i : Int) → f x = 0) → H_135_302 d P v m b1 b2 q i (rset M 109 f)
  | 0, i, f, hk, hf => sg_135_302 ⟨fun _ => hK f (fun x x0 x1 => hf x x0 (by omega)), fun z => by omega⟩
  | k + 1, i, f, hk, hf => by
    refine sg_135_302 ⟨fun z => by omega, fun z => ⟨by omega, by unfold inI; omega, ?_⟩⟩
    rw [ms_same]
    have := lp_135_302 hK k (i + 1) (f := fset f i 0) (by omega) (fun x x0 x1 => by
      by_cases e : x = i
      · rw [ps_eq e]
      · rw [fs_ne e]; exact hf x x0 (by omega))
    rw [show ((i + 1 : Nat) : Int) = (i : Int) + 1 by omega] at this
    exact this
theorem lp_135_329 {d : Nat} {P : Int → Mm → Prop} {M : Mm} {v m b1 b2 q : Int} {F : Int → Bool} (hC : IC M) (hq : 0 ≤ q ∧ q < 4) (hF : ∀ j : Nat, (j : Int) < M 1 6 → M 107 j = if F j = true then 1 else 0) (hK : ∀ f : Int → Int, ((b2 ≤ (tal F (anI (M 2) (M 3) (M 4) (M 5) q) (M 1 6).toNat).2 → H_135_287 d P v m b1 b2 (q + 1) (rset M 109 f)) ∧ ((tal F (anI (M 2) (M 3) (M 4) (M 5) q) (M 1 6).toNat).2 < b2 → H_135_287 d P v m q (tal F (anI (M 2) (M 3) (M 4) (M 5) q) (M 1 6).toNat).2 (q + 1) (rset M 109 f)))) : ∀ (k i : Nat) {f : Int → Int}, (k : Int) = M 1 6 - i → (∀ x, 0 ≤ x → x < 8 → f x = (tal F (anI (M 2) (M 3) (M 4) (M 5) q) i).1 x) → H_135_329 d P v m b1 b2 q (tal F (anI (M 2) (M 3) (M 4) (M 5) q) i).2 i (rset M 109 f)
  | 0, i, f, hk, hf => by
    refine sg_135_329 ⟨fun _ => ?_, fun z => ?_⟩
    · have := hK f
      rw [show (M 1 6).toNat = i by omega] at this
      exact ⟨fun z => ⟨by unfold inI; omega, this.1 z⟩, fun z => ⟨by unfold inI; omega, this.2 z⟩⟩
    · have z : (i : Int) < M 76 2 := z
      have := hC.2.1
      omega
  | k + 1, i, f, hk, hf => by
    have hN := hC.1
    have h2 := hC.2.1
    obtain ⟨e2, e3, e4, e5⟩ := hC.2.2.1
    have ih := fun {f2 : Int → Int} => lp_135_329 (d := d) hC hq hF hK k (i + 1) (f := f2) (by omega)
    have hb := tal_b (p := F) (an := anI (M 2) (M 3) (M 4) (M 5) q) i
    have ha := anI_b hC (c := i) (q := q) (by omega)
    have hx := hb.1 (anI (M 2) (M 3) (M 4) (M 5) q i)
    have hfx := hf _ ha.1 ha.2
    have hFi := hF i (by omega)
    unfold tal at ih
    rw [show ((i + 1 : Nat) : Int) = (i : Int) + 1 by omega] at ih
    have B : F i = true → ∀ s : Int, s = anI (M 2) (M 3) (M 4) (M 5) q i → H_135_420 d P v m b1 b2 q (tal F (anI (M 2) (M 3) (M 4) (M 5) q) i).2 i s (rset M 109 f) := by
      intro y s es
      subst es
      rw [if_pos y] at ih
      have hh := ih (f2 := fset f (anI (M 2) (M 3) (M 4) (M 5) q i) (f (anI (M 2) (M 3) (M 4) (M 5) q i) + 1)) (fun x x0 x1 => by
        show fset f _ _ x = fset _ _ _ x
        by_cases ex : x = anI (M 2) (M 3) (M 4) (M 5) q i
        · rw [ps_eq ex, ps_eq ex, hfx]
        · rw [fs_ne ex, fs_ne ex]; exact hf x x0 x1)
      refine sg_135_420 ?_
      have e9 : (rset M 109 f) 109 (anI (M 2) (M 3) (M 4) (M 5) q i) = f (anI (M 2) (M 3) (M 4) (M 5) q i) := rfl
      rw [e9, ms_same]
      have e5 : rset M 109 (fset f (anI (M 2) (M 3) (M 4) (M 5) q i) (f (anI (M 2) (M 3) (M 4) (M 5) q i) + 1)) 109 (anI (M 2) (M 3) (M 4) (M 5) q i) = f (anI (M 2) (M 3) (M 4) (M 5) q i) + 1 := by
        show fset f _ _ _ = _
        rw [fs_eq]
      rw [e5]
      refine ⟨by omega, by unfold inI; omega, by omega, by omega, fun z => ⟨by unfold inI; omega, ?_⟩, fun z => ⟨by omega, by unfold inI; omega, ?_⟩⟩
      · rw [hfx] at z
        rw [if_neg (by omega)] at hh; exact hh
      · rw [hfx] at z
        rw [if_pos z] at hh
        rw [hfx] at hh ⊢
        exact hh
    refine sg_135_329 ⟨fun z => ?_, fun z => ⟨by omega, fun y => ⟨by unfold inI; omega, ?_⟩, fun y => ?_⟩⟩
    · have z : M 76 2 ≤ (i : Int) := z
      omega
    · have y : M 107 i = 0 := y
      have hf0 : ¬ F i = true := by
        intro t; rw [if_pos t, y] at hFi; omega
      rw [if_neg hf0] at ih
      exact ih hf
    · have y : ¬ M 107 i = 0 := y
      have hf1 : F i = true := by
        by_cases t : F i = true
        · exact t
        · rw [if_neg t] at hFi; exact absurd hFi y
      have B := B hf1
      refine ⟨fun z0 => ⟨fun z1 => ⟨fun z2 => ⟨by omega, B _ ?_⟩, fun z2 => ⟨by omega, fun u => B _ ?_, fun u => B _ ?_⟩⟩, fun z1 => ⟨by omega, fun u => B _ ?_, fun u => B _ ?_⟩⟩, fun z0 => ⟨by omega, B _ ?_⟩⟩
      · show M 80 i = _
        unfold anI; rw [if_neg z0, if_neg z1, if_neg z2, e5]
      · have u : M 79 i ≤ 0 := u
        rw [e4] at u
        unfold anI; rw [if_neg z0, if_neg z1, if_pos z2, if_neg (by omega)]
      · have u : 0 < M 79 i := u
        rw [e4] at u
        unfold anI; rw [if_neg z0, if_neg z1, if_pos z2, if_pos u]
      · have u : M 78 i ≤ 8 := u
        rw [e3] at u
        unfold anI; rw [if_neg z0, if_pos z1, if_neg (by omega)]
      · have u : 8 < M 78 i := u
        rw [e3] at u
        unfold anI; rw [if_neg z0, if_pos z1, if_pos u]
      · show M 77 i = _
        unfold anI; rw [if_pos z0, e2]
theorem lp_135_287 {d : Nat} {P : Int → Mm → Prop} {M : Mm} {v m : Int} {F : Int → Bool} (hC : IC M) (hm : 1 < m) (hF : ∀ j : Nat, (j : Int) < M 1 6 → M 107 j = if F j = true then 1 else 0) (hK : ∀ f, P (nxt (fun q => (tal F (anI (M 2) (M 3) (M 4) (M 5) q) (M 1 6).toNat).2) 4).1 (rset M 109 f)) : ∀ (k i : Nat) {b1 b2 : Int} {f : Int → Int}, k + i = 4 → b1 = (nxt (fun q => (tal F (anI (M 2) (M 3) (M 4) (M 5) q) (M 1 6).toNat).2) i).1 → (b2 = (nxt (fun q => (tal F (anI (M 2) (M 3) (M 4) (M 5) q) (M 1 6).toNat).2) i).2 ∨ i = 0 ∧ b2 = 100) → H_135_287 d P v m b1 b2 i (rset M 109 f)
  | 0, i, b1, b2, f, hk, h1, h2 => by
    refine sg_135_287 ⟨fun _ => ?_, fun z => by omega⟩
    rw [h1, show i = 4 by omega]
    exact hK f
  | k + 1, i, b1, b2, f, hk, h1, h2 => by
    have ih := fun {c1 c2 : Int} {f2 : Int → Int} => lp_135_287 (d := d) (v := v) hC hm hF hK k (i + 1) (b1 := c1) (b2 := c2) (f := f2) (by omega)
    unfold nxt at ih
    rw [show ((i + 1 : Nat) : Int) = (i : Int) + 1 by omega] at ih
    have hb := tal_b (p := F) (an := anI (M 2) (M 3) (M 4) (M 5) i) (M 1 6).toNat
    have h48 := hC.1
    refine sg_135_287 ⟨fun z => by omega, fun _ => ⟨fun z => by omega, fun _ => ?_⟩⟩
    refine lp_135_302 (fun f2 hf2 => ?_) 9 0 rfl (fun x x0 x1 => by omega)
    refine lp_135_329 hC (by omega) hF (fun f3 => ⟨fun z => ih ?_ ?_, fun z => ih ?_ ?_⟩) (M 1 6).toNat 0 (by omega) (fun x x0 x1 => hf2 x x0 (by omega))
    · rcases h2 with h2 | ⟨h2, h3⟩
      · rw [if_neg (by omega)]; exact h1
      · omega
    · rcases h2 with h2 | ⟨h2, h3⟩
      · rw [if_neg (by omega)]; exact Or.inl h2
      · omega
    · rcases h2 with h2 | ⟨h2, h3⟩
      · rw [if_pos (by omega)]
      · subst h2
        rw [if_pos (by show _ < (49 : Int); omega)]
    · rcases h2 with h2 | ⟨h2, h3⟩
      · rw [if_pos (by omega)]; exact Or.inl rfl
      · subst h2
        rw [if_pos (by show _ < (49 : Int); omega)]; exact Or.inl rfl
def tornA (M : Mm) (v : Int) (n : Nat) (w : Int) : Int := if w = 0 then cn (ftB (M 6) (M 7) v n) (M 1 6).toNat else if w = 1 then fsI (ftB (M 6) (M 7) v n) (M 1 6).toNat else if cn (ftB (M 6) (M 7) v n) (M 1 6).toNat < 2 then -9 else (nxt (fun q => (tal (ftB (M 6) (M 7) v n) (anI (M 2) (M 3) (M 4) (M 5) q) (M 1 6).toNat).2) 4).1
theorem c_27 {d : Nat} {P : Int → Mm → Prop} {M : Mm} {v w : Int} {n : Nat} (hC : IC M) (hn : 1 ≤ n ∧ n ≤ 8) (hw : 0 ≤ w ∧ w ≤ 2) (hg : allB (tgB v) n = true) (hK : ∀ f, P (tornA M v n w) (rset M 50 f)) : EE (d + 5) 27 [vR 0, vL v, vI n, vI w] M (rI P) := by
  have hN := hC.1
  have hK0 : P (tornA M v n w) M := by
    have := hK (M 50)
    rw [rs_id] at this
    exact this
  refine sg_27 (c_32 (fun _ => t1 (c_32 (fun _ => t1 ?_) (fun q => absurd hw q))) (fun q => absurd (show (1 : Int) ≤ n ∧ (n : Int) ≤ 8 by omega) q))
  refine sg_46 (lp_46 hn.2 (fun _ => t1' ⟨by unfold inI; omega, ?_⟩) (fun q => by rw [hg] at q; cases q) n 0 (by omega) rfl)
  have := lp_27 (d := d + 3) (P := P) (M := M) (v := v) (w := w) (n := n) hN hn.2 ?_ (M 1 6).toNat (many := 0) (least := -9) (by omega) (by omega) (Or.inl ⟨rfl, fun j j0 j1 => by omega⟩)
  · rw [show (((M 1 6).toNat : Nat) : Int) - 1 = M 1 6 - 1 by omega] at this
    exact this
  · unfold tornA at hK hK0
    refine ⟨fun z => ⟨fun z1 => ⟨fun z2 => ?_, fun z2 => ?_⟩, fun z1 => ?_⟩, fun z => ?_⟩
    · rw [if_neg z, if_neg z1, if_neg (by omega)] at hK
      refine sg_47 ?_
      have := lp_47 (d := d) (P := P) (M := M) (v := v) (n := n) hC hn.2 hK 4 0 (f := M 50) rfl
      rw [rs_id] at this
      exact this
    · rw [if_neg z, if_neg z1, if_pos z2] at hK0; exact hK0
    · rw [if_neg z, if_pos z1] at hK0; exact hK0
    · rw [if_pos z] at hK0; exact hK0
theorem c_135 {d : Nat} {P : Int → Mm → Prop} {M : Mm} {v w : Int} {n : Nat} (hv : inJ v) (hC : IC M) (hN : IN M) (hn : 1 ≤ n ∧ n ≤ 8) (hw : 0 ≤ w ∧ w ≤ 2) (hg : allB (tgB v) n = true) (hK : ∀ g f, P (tornA M v n w) (rset (rset (mset M 76 0 0) 107 g) 109 f)) : EE (d + 5) 135 [vR 76, vL v, vI n, vI w] M (rI P) := by
  have h48 := hC.1
  have hK0 : ∀ g, P (tornA M v n w) (rset (mset M 76 0 0) 107 g) := by
    intro g
    have := hK g (M 109)
    rw [show M 109 = (rset (mset M 76 0 0) 107 g) 109 from rfl, rs_id] at this
    exact this
  refine sg_135 (c_140 (fun _ => t1 (c_140 (fun _ => t1 ?_) (fun q => absurd hw q))) (fun q => absurd (show (1 : Int) ≤ n ∧ (n : Int) ≤ 8 by omega) q))
  refine lp_135_35 hv hn.2 (fun _ => sg_135_92 (t1' ?_)) (fun q => by rw [hg] at q; cases q) n 0 (by omega) rfl
  have hC' : IC (mset M 76 0 0) := hC
  have hN' : IN (mset M 76 0 0) := hN
  have := lp_135_109 (d := d + 4) (P := P) (w := w) hC' hN' hv hn.2 ?_ (M 1 6).toNat 0 (g := M 107) (by show _ = M 1 6 - _; omega) (fun j hj => by omega)
  · rw [show M 107 = (mset M 76 0 0) 107 from rfl, rs_id] at this
    exact this
  · intro g hg2
    unfold tornA at hK hK0
    refine ⟨fun z => ?_, fun z => ⟨fun z1 => ?_, fun z1 => ?_⟩⟩
    · rw [if_neg (by omega), if_neg (by omega)] at hK hK0
      by_cases hm : cn (ftB (M 6) (M 7) v n) (M 1 6).toNat < 2
      · rw [if_pos hm] at hK0
        refine sg_135_287 ⟨fun y => by omega, fun _ => ⟨fun _ => hK0 g, fun y => ?_⟩⟩
        have y : 1 < cn (ftB (M 6) (M 7) v n) (M 1 6).toNat := y
        omega
      · rw [if_neg hm] at hK
        have hC2 : IC (rset (mset M 76 0 0) 107 g) := hC
        have := lp_135_287 (d := d + 4) (P := P) (v := v) (m := cn (ftB (M 6) (M 7) v n) (M 1 6).toNat) (F := ftB (M 6) (M 7) v n) hC2 (by omega) hg2 (fun f => hK g f) 4 0 (b1 := -9) (b2 := 100) (f := M 109) rfl rfl (Or.inr ⟨rfl, rfl⟩)
        rw [show M 109 = (rset (mset M 76 0 0) 107 g) 109 from rfl, rs_id] at this
        exact this
    · have := hK0 g
      rw [if_neg z1, if_pos (by omega)] at this
      exact this
    · have := hK0 g
      rw [if_pos z1] at this
      exact this
theorem op_torn {d : Nat} {M : Mm} {k v a3 a4 : Int} (hv : inJ v) (hI : Inv k M) : opI k (d + 5) 27 135 [vL v, vI a3, vI a4] M := by
  have hI2 := hI.thr
  have bad : ∀ {P : Int → Mm → Prop}, P (-1) (mset M 76 0 0) → H_135_35 (d + 4) P v a3 a4 0 0 (mset M 76 0 0) := by
    intro P hp
    have x : H_135_92 (d + 4) P v a3 a4 0 (mset M 76 0 0) := sg_135_92 (t0' hp)
    exact sg_135_35 ⟨fun _ => x, fun _ => t0 x⟩
  by_cases hV : 1 ≤ a3 ∧ a3 ≤ 8
  · by_cases hW : 0 ≤ a4 ∧ a4 ≤ 2
    · obtain ⟨n, rfl⟩ := Int.eq_ofNat_of_zero_le (show 0 ≤ a3 by omega)
      cases hg : allB (tgB v) n with
      | true =>
        refine c_27 hI.1 (by omega) hW hg (fun f => ?_)
        refine c_135 (M := rset M 50 f) hv hI.1 hI.2.1 (by omega) hW hg (fun g f2 => ⟨rfl, ?_⟩)
        obtain ⟨hC, hN, hD, hP, hB, hH, hL, hO, hY, hE, hT⟩ := hI
        exact ⟨hC, hN, hD, hP, hB, hH, hL, hO, hY, hE, hT.up⟩
      | false =>
        refine sg_27 (c_32 (fun _ => t1 (c_32 (fun _ => t1 ?_) (fun q => absurd hW q))) (fun q => absurd hV q))
        refine sg_46 (lp_46 (by omega) (fun q => by rw [hg] at q; cases q) (fun _ => t0' ?_) n 0 (by omega) rfl)
        refine sg_135 (c_140 (fun _ => t1 (c_140 (fun _ => t1 ?_) (fun q => absurd hW q))) (fun q => absurd hV q))
        exact lp_135_35 hv (by omega) (fun q => by rw [hg] at q; cases q) (fun _ => sg_135_92 (t0' ⟨rfl, hI2⟩)) n 0 (by omega) rfl
    · refine sg_27 (c_32 (fun _ => t1 (c_32 (fun q => absurd q hW) (fun _ => t0 ?_))) (fun q => absurd hV q))
      exact sg_135 (c_140 (fun _ => t1 (c_140 (fun q => absurd q hW) (fun _ => t0 (bad ⟨rfl, hI2⟩)))) (fun q => absurd hV q))
  · refine sg_27 (c_32 (fun q => absurd q hV) (fun _ => t0 ?_))
    exact sg_135 (c_140 (fun q => absurd q hV) (fun _ => t0 (bad ⟨rfl, hI2⟩)))
