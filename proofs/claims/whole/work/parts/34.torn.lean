/-! torn -/
theorem allB_iff {p : Nat → Bool} : ∀ {n : Nat}, allB p n = true ↔ ∀ i, i < n → p i = true
  | 0 => ⟨fun _ i hi => absurd hi (Nat.not_lt_zero i), fun _ => rfl⟩
  | n + 1 => by
    show (allB p n && p n) = true ↔ _
    rw [Bool.and_eq_true, allB_iff]
    constructor
    · rintro ⟨h1, h2⟩ i hi
      rcases Nat.lt_succ_iff_lt_or_eq.mp hi with h | h
      · exact h1 i h
      · subst h; exact h2
    · intro h
      exact ⟨fun i hi => h i (by omega), h n (by omega)⟩
def tgB (v : Int) (i : Nat) : Bool := decide (byt v i = 63) || (decide (97 ≤ byt v i) && decide (byt v i ≤ 122))
theorem lp_46 {d : Nat} {P : Int → Mm → Prop} {M : Mm} {v : Int} {n : Nat} (hn : n ≤ 8) (h1 : allB (tgB v) n = true → P 1 M) (h0 : allB (tgB v) n = false → P 0 M) : ∀ (k i : Nat), k + i = n → allB (tgB v) i = true → H_46_2 (d + 1) P v n i M
  | 0, i, hk, hp => by
    refine sg_46_2 ⟨fun _ => h1 ?_, fun q => by omega⟩
    rw [show n = i by omega]; exact hp
  | k + 1, i, hk, hp => by
    have ih : tgB v i = true → H_46_2 (d + 1) P v n ((i : Int) + 1) M := by
      intro z
      have := lp_46 (d := d) hn h1 h0 k (i + 1) (by omega) (by show (allB _ i && _) = true; rw [hp, z]; rfl)
      rw [show ((i + 1 : Nat) : Int) = (i : Int) + 1 by omega] at this
      exact this
    have bad : tgB v i = false → P 0 M := by
      intro z
      apply h0
      have := allB_f (p := tgB v) z k
      rw [show i + 1 + k = n by omega] at this
      exact this
    refine sg_46_2 ⟨fun q => by omega, fun q => ⟨by unfold inI; omega, ?_⟩⟩
    rw [zju (by omega), show ((i : Int)).toNat = i by omega]
    refine ⟨fun z => ⟨by unfold inI; omega, ih ?_⟩, fun z => c_32 (fun z2 => t1' ⟨by unfold inI; omega, ih ?_⟩) (fun z2 => t0' (bad ?_))⟩
    · unfold tgB; rw [decide_eq_true z]; rfl
    · unfold tgB; rw [decide_eq_true z2.1, decide_eq_true z2.2]; simp
    · unfold tgB
      rw [decide_eq_false z, Bool.false_or]
      by_cases y : 97 ≤ byt v i
      · rw [decide_eq_true y, Bool.true_and, decide_eq_false (fun x => z2 ⟨y, x⟩)]
      · rw [decide_eq_false y, Bool.false_and]
theorem lp_135_35 {d : Nat} {P : Int → Mm → Prop} {M : Mm} {v w : Int} {n : Nat} (hv : inJ v) (hn : n ≤ 8) (h1 : allB (tgB v) n = true → H_135_92 (d + 1) P v n w 1 M) (h0 : allB (tgB v) n = false → H_135_92 (d + 1) P v n w 0 M) : ∀ (k i : Nat), k + i = n → allB (tgB v) i = true → H_135_35 (d + 1) P v n w 1 i M
  | 0, i, hk, hp => by
    refine sg_135_35 ⟨fun _ => h1 ?_, fun q => by omega⟩
    rw [show n = i by omega]; exact hp
  | k + 1, i, hk, hp => by
    have ih : tgB v i = true → H_135_35 (d + 1) P v n w 1 ((i : Int) + 1) M := by
      intro z
      have := lp_135_35 (d := d) hv hn h1 h0 k (i + 1) (by omega) (by show (allB _ i && _) = true; rw [hp, z]; rfl)
      rw [show ((i + 1 : Nat) : Int) = (i : Int) + 1 by omega] at this
      exact this
    have bad : tgB v i = false → H_135_35 (d + 1) P v n w 0 ((i : Int) + 1) M := by
      intro z
      have hx := h0 (by have := allB_f (p := tgB v) z k; rw [show i + 1 + k = n by omega] at this; exact this)
      exact sg_135_35 ⟨fun _ => hx, fun _ => t0 hx⟩
    refine sg_135_35 ⟨fun q => by omega, fun q => t1 ⟨by unfold inI; omega, ?_⟩⟩
    rw [wjs hv (by omega), show ((i : Int)).toNat = i by omega]
    refine ⟨fun z => ⟨by unfold inI; omega, ih ?_⟩, fun z => c_140 (fun z2 => t1 ⟨by unfold inI; omega, ih ?_⟩) (fun z2 => t0 ⟨by unfold inI; omega, bad ?_⟩)⟩
    · unfold tgB; rw [decide_eq_true z]; rfl
    · unfold tgB; rw [decide_eq_true z2.1, decide_eq_true z2.2]; simp
    · unfold tgB
      rw [decide_eq_false z, Bool.false_or]
      by_cases y : 97 ≤ byt v i
      · rw [decide_eq_true y, Bool.true_and, decide_eq_false (fun x => z2 ⟨y, x⟩)]
      · rw [decide_eq_false y, Bool.false_and]
/-- a child's name fits a torn label -/
def ftB (nm ln : Int → Int) (v : Int) (n : Nat) (c : Int) : Bool := decide (ln c = n) && allB (fun i => decide (byt v i = 63) || decide (byt v i = byt (nm c) i)) n
theorem lp_54 {d : Nat} {P : Int → Mm → Prop} {M : Mm} {v c : Int} {n : Nat} (hc : 0 ≤ c ∧ c < 48) (hn : n ≤ 8) (h1 : allB (fun i => decide (byt v i = 63) || decide (byt v i = byt (M 6 c) i)) n = true → P 1 M) (h0 : allB (fun i => decide (byt v i = 63) || decide (byt v i = byt (M 6 c) i)) n = false → P 0 M) : ∀ (k i : Nat), k + i = n → allB (fun i => decide (byt v i = 63) || decide (byt v i = byt (M 6 c) i)) i = true → H_54_16 d P c v n i M
  | 0, i, hk, hp => by
    refine sg_54_16 ⟨fun _ => h1 ?_, fun q => by omega⟩
    rw [show n = i by omega]; exact hp
  | k + 1, i, hk, hp => by
    have ih : (decide (byt v i = 63) || decide (byt v i = byt (M 6 c) i)) = true → H_54_16 d P c v n ((i : Int) + 1) M := by
      intro z
      have := lp_54 (d := d) hc hn h1 h0 k (i + 1) (by omega) (by show (allB _ i && (decide (byt v i = 63) || decide (byt v i = byt (M 6 c) i))) = true; rw [hp, z]; rfl)
      rw [show ((i + 1 : Nat) : Int) = (i : Int) + 1 by omega] at this
      exact this
    refine sg_54_16 ⟨fun q => by omega, fun q => ⟨by unfold inI; omega, hc, by unfold inI; omega, ?_⟩⟩
    rw [zju (by omega), zju (by omega), show ((i : Int)).toNat = i by omega]
    refine ⟨fun z => ⟨by unfold inI; omega, ih ?_⟩, fun z => ⟨fun z2 => ⟨by unfold inI; omega, ih ?_⟩, fun z2 => h0 ?_⟩⟩
    · rw [decide_eq_true z]; rfl
    · rw [decide_eq_true z2]; simp
    · have := allB_f (p := fun i => decide (byt v i = 63) || decide (byt v i = byt (M 6 c) i)) (j := i) (by show (decide (byt v i = 63) || decide (byt v i = byt (M 6 c) i)) = false; rw [decide_eq_false z, decide_eq_false z2]; rfl) k
      rw [show i + 1 + k = n by omega] at this
      exact this
theorem c_54 {d : Nat} {P : Int → Mm → Prop} {M : Mm} {v c : Int} {n : Nat} (hc : 0 ≤ c ∧ c < 48) (hn : n ≤ 8) (h1 : ftB (M 6) (M 7) v n c = true → P 1 M) (h0 : ftB (M 6) (M 7) v n c = false → P 0 M) : EE (d + 1) 54 [vR 1, vI c, vL v, vI n] M (rI P) := by
  unfold ftB at h1 h0
  refine sg_54 ⟨hc, fun z => ?_, fun z => ?_⟩
  · rw [decide_eq_true z, Bool.true_and] at h1 h0
    exact lp_54 hc hn h1 h0 n 0 (by omega) rfl
  · rw [decide_eq_false z, Bool.false_and] at h0
    exact h0 rfl
/-- the first of whom p is true -/
def fsI (p : Int → Bool) : Nat → Int
  | 0 => -9
  | k + 1 => if fsI p k = -9 then (if p k = true then (k : Int) else -9) else fsI p k
theorem fsI_b {p : Int → Bool} : ∀ n : Nat, fsI p n = -9 ∧ (∀ j : Nat, j < n → p j = false) ∨ ∃ r : Nat, r < n ∧ fsI p n = r ∧ p r = true ∧ ∀ j : Nat, j < r → p j = false
  | 0 => Or.inl ⟨rfl, fun j hj => absurd hj (Nat.not_lt_zero j)⟩
  | n + 1 => by
    have es : fsI p (n + 1) = if fsI p n = -9 then (if p n = true then (n : Int) else -9) else fsI p n := rfl
    rcases fsI_b (p := p) n with ⟨h1, h2⟩ | ⟨r, h1, h2, h3, h4⟩
    · rw [es, if_pos h1]
      by_cases hp : p n = true
      · rw [if_pos hp]
        exact Or.inr ⟨n, by omega, rfl, hp, h2⟩
      · rw [if_neg hp]
        refine Or.inl ⟨rfl, fun j hj => ?_⟩
        rcases Nat.lt_succ_iff_lt_or_eq.mp hj with z | z
        · exact h2 j z
        · subst z; simpa using hp
    · rw [es, if_neg (by omega)]
      exact Or.inr ⟨r, by omega, h2, h3, h4⟩
theorem lp_27 {d : Nat} {P : Int → Mm → Prop} {M : Mm} {v w : Int} {n : Nat} (hN : 0 ≤ M 1 6 ∧ M 1 6 ≤ 48) (hn : n ≤ 8) (h : ((¬ w = 0 → ((¬ w = 1 → ((2 ≤ cn (ftB (M 6) (M 7) v n) (M 1 6).toNat → EE (d + 1) 47 [vR 0, vL v, vI n] M (rI fun r1 M1 => P r1 M1)) ∧ (cn (ftB (M 6) (M 7) v n) (M 1 6).toNat < 2 → P (-9) M))) ∧ (w = 1 → P (fsI (ftB (M 6) (M 7) v n) (M 1 6).toNat) M))) ∧ (w = 0 → P (cn (ftB (M 6) (M 7) v n) (M 1 6).toNat) M))) : ∀ (i : Nat) {many least : Int}, (i : Int) ≤ M 1 6 → many = cn (ftB (M 6) (M 7) v n) (M 1 6).toNat - cn (ftB (M 6) (M 7) v n) i → ((least = -9 ∧ ∀ j : Nat, i ≤ j → (j : Int) < M 1 6 → ftB (M 6) (M 7) v n j = false) ∨ ∃ r : Nat, i ≤ r ∧ (r : Int) < M 1 6 ∧ least = r ∧ ftB (M 6) (M 7) v n r = true ∧ ∀ j : Nat, i ≤ j → j < r → ftB (M 6) (M 7) v n j = false) → H_27_48 (d + 1) P v n w many least ((i : Int) - 1) M
  | 0, many, least, hi, hm, hl => by
    refine sg_27_48 ⟨fun _ => ?_, fun q => by omega⟩
    have e1 : many = cn (ftB (M 6) (M 7) v n) (M 1 6).toNat := by
      rw [hm]; show _ - 0 = _; omega
    have e2 : least = fsI (ftB (M 6) (M 7) v n) (M 1 6).toNat := by
      rcases fsI_b (p := ftB (M 6) (M 7) v n) (M 1 6).toNat with ⟨g1, g2⟩ | ⟨r, g1, g2, g3, g4⟩
      · rcases hl with ⟨l1, l2⟩ | ⟨r, l1, l2, l3, l4, l5⟩
        · rw [l1, g1]
        · rw [g2 r (by omega)] at l4; cases l4
      · rcases hl with ⟨l1, l2⟩ | ⟨r2, l1, l2, l3, l4, l5⟩
        · rw [l2 r (by omega) (by omega)] at g3; cases g3
        · have : r = r2 := by
            rcases Nat.lt_trichotomy r r2 with z | z | z
            · rw [l5 r (by omega) z] at g3; cases g3
            · exact z
            · rw [g4 r2 z] at l4; cases l4
          rw [l3, g2, this]
    rw [e1, e2]
    exact h
  | i + 1, many, least, hi, hm, hl => by
    have hb := cn_b (p := ftB (M 6) (M 7) v n) i
    have hb2 := cn_b (p := ftB (M 6) (M 7) v n) (M 1 6).toNat
    have ei : ((i + 1 : Nat) : Int) - 1 = (i : Int) := by omega
    rw [ei]
    rw [cn_s] at hm
    refine sg_27_48 ⟨fun q => by omega, fun _ => ?_⟩
    refine c_54 (by omega) hn (fun z => t1 ⟨?_, by unfold inI; omega, ?_⟩) (fun z => t0 ⟨by unfold inI; omega, ?_⟩)
    · rw [if_pos z] at hm; unfold inI; omega
    · rw [if_pos z] at hm
      refine lp_27 hN hn h i (by omega) (by omega) (Or.inr ⟨i, Nat.le_refl i, by omega, rfl, z, fun j j0 j1 => by omega⟩)
    · rw [if_neg (by rw [z]; decide)] at hm
      refine lp_27 hN hn h i (by omega) (by omega) ?_
      rcases hl with ⟨l1, l2⟩ | ⟨r, l1, l2, l3, l4, l5⟩
      · refine Or.inl ⟨l1, fun j j0 j1 => ?_⟩
        by_cases e : j = i
        · subst e; exact z
        · exact l2 j (by omega) j1
      · refine Or.inr ⟨r, by omega, l2, l3, l4, fun j j0 j1 => ?_⟩
        by_cases e : j = i
        · subst e; exact z
        · exact l5 j (by omega) j1
/-- a question's answer -/
def anI (sx ag kn gr : Int → Int) (q c : Int) : Int := if q = 0 then sx c else if q = 1 then (if 8 < ag c then 1 else 0) else if q = 2 then (if 0 < kn c then 1 else 0) else gr c
/-- counts of answers, and the greatest -/
def tal (p : Int → Bool) (an : Int → Int) : Nat → (Int → Int) × Int
  | 0 => ((fun _ => 0), 0)
  | k + 1 => if p k = true then (fset (tal p an k).1 (an k) ((tal p an k).1 (an k) + 1), if (tal p an k).2 < (tal p an k).1 (an k) + 1 then (tal p an k).1 (an k) + 1 else (tal p an k).2) else tal p an k
theorem tal_b {p : Int → Bool} {an : Int → Int} : ∀ k : Nat, (∀ x, 0 ≤ (tal p an k).1 x ∧ (tal p an k).1 x ≤ k) ∧ 0 ≤ (tal p an k).2 ∧ (tal p an k).2 ≤ k
  | 0 => by
    refine ⟨fun x => ?_, ?_⟩
    · show (0 : Int) ≤ 0 ∧ (0 : Int) ≤ ((0 : Nat) : Int); omega
    · show (0 : Int) ≤ 0 ∧ (0 : Int) ≤ ((0 : Nat) : Int); omega
  | k + 1 => by
    obtain ⟨h1, h2, h3⟩ := tal_b (p := p) (an := an) k
    have hx := h1 (an k)
    unfold tal
    by_cases hp : p k = true
    · rw [if_pos hp]
      refine ⟨fun x => ?_, ?_⟩
      · show 0 ≤ fset (tal p an k).1 (an k) ((tal p an k).1 (an k) + 1) x ∧ fset (tal p an k).1 (an k) ((tal p an k).1 (an k) + 1) x ≤ ((k + 1 : Nat) : Int)
        by_cases e : x = an k
        · rw [ps_eq e]; omega
        · rw [fs_ne e]; have := h1 x; omega
      · show 0 ≤ (if (tal p an k).2 < (tal p an k).1 (an k) + 1 then (tal p an k).1 (an k) + 1 else (tal p an k).2) ∧ (if (tal p an k).2 < (tal p an k).1 (an k) + 1 then (tal p an k).1 (an k) + 1 else (tal p an k).2) ≤ ((k + 1 : Nat) : Int)
        split <;> omega
    · rw [if_neg hp]
      refine ⟨fun x => ?_, ?_⟩
      · have := h1 x; omega
      · omega
theorem c_55 {d : Nat} {P : Int → Mm → Prop} {M : Mm} {c q : Int} (hc : 0 ≤ c ∧ c < 48) (hq : 0 ≤ q ∧ q < 4) (hk : 0 ≤ M 4 c) (h : P (anI (M 2) (M 3) (M 4) (M 5) q c) M) : EE (d + 2) 55 [vR 1, vI c, vI q] M (rI P) := by
  unfold anI at h
  refine sg_55 ⟨fun z => ⟨hc, ?_⟩, fun z => c_51 hc (fun z2 => t1 ?_) (fun z2 => t0 ?_), fun z => c_53 hc (fun z2 => t1 ?_) (fun z2 => t0 ?_), fun z => ⟨hc, ?_⟩⟩
  · rw [if_pos z] at h; exact h
  · rw [if_neg (by omega), if_pos z, if_pos (by omega)] at h; exact h
  · rw [if_neg (by omega), if_pos z, if_neg (by omega)] at h; exact h
  · rw [if_neg (by omega), if_neg (by omega), if_pos z, if_pos (by omega)] at h; exact h
  · rw [if_neg (by omega), if_neg (by omega), if_pos z, if_neg (by omega)] at h; exact h
  · rw [if_neg (by omega), if_neg (by omega), if_neg (by omega)] at h; exact h
theorem anI_b {M : Mm} (hC : IC M) {c q : Int} (hc : 0 ≤ c ∧ c < M 1 6) : 0 ≤ anI (M 2) (M 3) (M 4) (M 5) q c ∧ anI (M 2) (M 3) (M 4) (M 5) q c < 8 := by
  have h := hC.2.2.2 c hc.1 hc.2
  unfold anI
  split
  · omega
  · split
    · split <;> omega
    · split
      · split <;> omega
      · omega
theorem lp_48 {d : Nat} {P : Int → Mm → Prop} {M : Mm} {v q : Int} {n : Nat} (hC : IC M) (hn : n ≤ 8) (hq : 0 ≤ q ∧ q < 4) (hK : ∀ f, P (tal (ftB (M 6) (M 7) v n) (anI (M 2) (M 3) (M 4) (M 5) q) (M 1 6).toNat).2 (rset M 50 f)) : ∀ (k i : Nat) {f : Int → Int}, (k : Int) = M 1 6 - i → (∀ x, 0 ≤ x → x < 8 → f x = (tal (ftB (M 6) (M 7) v n) (anI (M 2) (M 3) (M 4) (M 5) q) i).1 x) → H_48_14 (d + 2) P v n q (tal (ftB (M 6) (M 7) v n) (anI (M 2) (M 3) (M 4) (M 5) q) i).2 i (rset M 50 f)
  | 0, i, f, hk, hf => by
    refine sg_48_14 ⟨fun _ => ?_, fun z => ?_⟩
    · have := hK f
      rw [show (M 1 6).toNat = i by omega] at this
      exact this
    · have z : (i : Int) < M 1 6 := z
      omega
  | k + 1, i, f, hk, hf => by
    have hN := hC.1
    have ih := fun {f2 : Int → Int} => lp_48 (d := d) hC hn hq hK k (i + 1) (f := f2) (by omega)
    have hb := tal_b (p := ftB (M 6) (M 7) v n) (an := anI (M 2) (M 3) (M 4) (M 5) q) i
    have ha := anI_b hC (c := i) (q := q) (by omega)
    have hx := hb.1 (anI (M 2) (M 3) (M 4) (M 5) q i)
    have hfx := hf _ ha.1 ha.2
    have hkc := (hC.2.2.2 i (by omega) (by omega)).2.2.1
    unfold tal at ih
    rw [show ((i + 1 : Nat) : Int) = (i : Int) + 1 by omega] at ih
    refine sg_48_14 ⟨fun z => ?_, fun z => ?_⟩
    · have z : M 1 6 ≤ (i : Int) := z
      omega
    · refine c_54 (M := rset M 50 f) (by omega) hn (fun y => t1 ?_) (fun y => t0 ⟨by unfold inI; omega, ?_⟩)
      · have y : ftB (M 6) (M 7) v n i = true := y
        rw [if_pos y] at ih
        refine c_55 (M := rset M 50 f) (by omega) hq hkc.1 ?_
        show (0 ≤ anI (M 2) (M 3) (M 4) (M 5) q i ∧ anI (M 2) (M 3) (M 4) (M 5) q i < 8) ∧ inI (f (anI (M 2) (M 3) (M 4) (M 5) q i) + 1) ∧ (0 ≤ anI (M 2) (M 3) (M 4) (M 5) q i ∧ anI (M 2) (M 3) (M 4) (M 5) q i < 8) ∧ (0 ≤ anI (M 2) (M 3) (M 4) (M 5) q i ∧ anI (M 2) (M 3) (M 4) (M 5) q i < 8) ∧ inI ((i : Int) + 1) ∧ H_48_14 (d + 2) P v n q (if (tal (ftB (M 6) (M 7) v n) (anI (M 2) (M 3) (M 4) (M 5) q) i).2 < (mset (rset M 50 f) 50 (anI (M 2) (M 3) (M 4) (M 5) q i) (f (anI (M 2) (M 3) (M 4) (M 5) q i) + 1)) 50 (anI (M 2) (M 3) (M 4) (M 5) q i) then (mset (rset M 50 f) 50 (anI (M 2) (M 3) (M 4) (M 5) q i) (f (anI (M 2) (M 3) (M 4) (M 5) q i) + 1)) 50 (anI (M 2) (M 3) (M 4) (M 5) q i) else (tal (ftB (M 6) (M 7) v n) (anI (M 2) (M 3) (M 4) (M 5) q) i).2) ((i : Int) + 1) (mset (rset M 50 f) 50 (anI (M 2) (M 3) (M 4) (M 5) q i) (f (anI (M 2) (M 3) (M 4) (M 5) q i) + 1))
        rw [ms_same]
        have e5 : rset M 50 (fset f (anI (M 2) (M 3) (M 4) (M 5) q i) (f (anI (M 2) (M 3) (M 4) (M 5) q i) + 1)) 50 (anI (M 2) (M 3) (M 4) (M 5) q i) = f (anI (M 2) (M 3) (M 4) (M 5) q i) + 1 := by
          show fset f _ _ _ = _
          rw [fs_eq]
        rw [e5, hfx]
        refine ⟨ha, by unfold inI; omega, ha, ha, by unfold inI; omega, ih ?_⟩
        intro x x0 x1
        show fset f _ _ x = fset _ _ _ x
        by_cases ex : x = anI (M 2) (M 3) (M 4) (M 5) q i
        · rw [ps_eq ex, ps_eq ex]
        · rw [fs_ne ex, fs_ne ex]; exact hf x x0 x1
      · have y : ftB (M 6) (M 7) v n i = false := y
        rw [if_neg (by rw [y]; decide)] at ih
        exact ih hf
/-- the next question -/
def nxt (mo : Int → Int) : Nat → Int × Int
  | 0 => (-9, 49)
  | k + 1 => if mo k < (nxt mo k).2 then ((k : Int), mo k) else nxt mo k
theorem lp_47 {d : Nat} {P : Int → Mm → Prop} {M : Mm} {v : Int} {n : Nat} (hC : IC M) (hn : n ≤ 8) (hK : ∀ f, P (nxt (fun q => (tal (ftB (M 6) (M 7) v n) (anI (M 2) (M 3) (M 4) (M 5) q) (M 1 6).toNat).2) 4).1 (rset M 50 f)) : ∀ (k i : Nat) {f : Int → Int}, k + i = 4 → H_47_11 (d + 3) P v n (nxt (fun q => (tal (ftB (M 6) (M 7) v n) (anI (M 2) (M 3) (M 4) (M 5) q) (M 1 6).toNat).2) i).1 (nxt (fun q => (tal (ftB (M 6) (M 7) v n) (anI (M 2) (M 3) (M 4) (M 5) q) (M 1 6).toNat).2) i).2 i (rset M 50 f)
  | 0, i, f, hk => by
    refine sg_47_11 ⟨fun _ => ?_, fun z => by omega⟩
    rw [show i = 4 by omega]
    exact hK f
  | k + 1, i, f, hk => by
    have ih := fun {f2 : Int → Int} => lp_47 (d := d) hC hn hK k (i + 1) (f := f2) (by omega)
    unfold nxt at ih
    rw [show ((i + 1 : Nat) : Int) = (i : Int) + 1 by omega] at ih
    refine sg_47_11 ⟨fun z => by omega, fun _ => sg_48 (c_173 shk_50 (by decide) ?_)⟩
    rw [rs_rs]
    refine lp_48 hC hn (by omega) (fun f2 => ⟨fun z => ⟨by unfold inI; omega, ?_⟩, fun z => ⟨by unfold inI; omega, ?_⟩⟩) (M 1 6).toNat 0 (by have := hC.1; omega) (fun x x0 x1 => by show ffl 0 ((8 : Nat) : Int) f x = 0; unfold ffl; rw [if_pos (by omega)])
    · rw [if_neg (by omega)] at ih; exact ih
    · rw [if_pos z] at ih; exact ih
