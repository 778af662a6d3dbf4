/-! trouble -/
theorem cn_mono {p : Int → Bool} {a : Nat} : ∀ j : Nat, cn p a ≤ cn p (a + j)
  | 0 => Int.le_refl _
  | j + 1 => by
    have ih := cn_mono (p := p) (a := a) j
    show cn p a ≤ cn p (a + j) + (if p ((a + j : Nat) : Int) = true then 1 else 0)
    split <;> omega
theorem cn_mono2 {p : Int → Bool} {a b : Nat} (h : a ≤ b) : cn p a ≤ cn p b := by
  have := cn_mono (p := p) (a := a) (b - a)
  rw [show a + (b - a) = b by omega] at this
  exact this
theorem cn_lt {p : Int → Bool} {a b : Nat} (h : a < b) (hp : p a = true) : cn p a < cn p b := by
  have h1 := cn_mono2 (p := p) (a := a + 1) (b := b) (by omega)
  rw [cn_s, if_pos hp] at h1
  omega
theorem cn_ex {p : Int → Bool} {r : Int} (hr : 0 ≤ r) : ∀ {n : Nat}, r < cn p n → ∃ e : Nat, e < n ∧ p e = true ∧ cn p e = r
  | 0, h => by
    have h : r < 0 := h
    omega
  | n + 1, h => by
    rw [cn_s] at h
    by_cases hp : p n = true
    · rw [if_pos hp] at h
      by_cases e : cn p n = r
      · exact ⟨n, by omega, hp, e⟩
      · obtain ⟨x, h1, h2, h3⟩ := cn_ex (p := p) hr (n := n) (by omega)
        exact ⟨x, by omega, h2, h3⟩
    · rw [if_neg hp] at h
      obtain ⟨x, h1, h2, h3⟩ := cn_ex (p := p) hr (n := n) (by omega)
      exact ⟨x, by omega, h2, h3⟩
theorem cn_from {q : Int → Bool} {k : Nat} : ∀ j : Nat, cn (fun e => decide ((k : Int) ≤ e) && q e) (k + j) = cn q (k + j) - cn q k
  | 0 => by
    rw [cn_none]
    · show (0 : Int) = cn q k - cn q k
      omega
    · intro c c0 c1
      show (decide ((k : Int) ≤ c) && q c) = false
      rw [decide_eq_false (by omega)]
      rfl
  | j + 1 => by
    have ih := cn_from (q := q) (k := k) j
    show cn (fun e => decide ((k : Int) ≤ e) && q e) (k + j) + (if (decide ((k : Int) ≤ ((k + j : Nat) : Int)) && q ((k + j : Nat) : Int)) = true then 1 else 0) = cn q (k + j) + (if q ((k + j : Nat) : Int) = true then 1 else 0) - cn q k
    rw [ih, decide_eq_true (by omega), Bool.true_and]
    omega
/-- those who left a house: their rank -/
def lvB (frm : Int → Int) (h : Int) : Int → Bool := fun e => decide (frm e = h)
def TRb (frm day : Int → Int) (h : Int) (N : Nat) : Prop := ∃ e e' : Nat, e' ≤ e ∧ e < N ∧ frm e = h ∧ frm e' = h ∧ cn (lvB frm h) e = cn (lvB frm h) e' + 3 ∧ day e - day e' ≤ 27
def c2B (frm day : Int → Int) (h : Int) (k : Nat) : Int → Bool := fun e => decide ((k : Int) ≤ e) && (lvB frm h e && decide (day e - day k < 28))
def TRm (frm day : Int → Int) (h : Int) (N : Nat) : Prop := ∃ k : Nat, k < N ∧ frm k = h ∧ 3 < cn (c2B frm day h k) N
theorem TR_iff {frm day : Int → Int} {h : Int} {N : Nat} (hs : ∀ e, 0 < e → e < (N : Int) → day (e - 1) ≤ day e) : TRb frm day h N ↔ TRm frm day h N := by
  have all : ∀ k e : Nat, k ≤ e → e < N → day e - day k < 28 → cn (c2B frm day h k) e = cn (lvB frm h) e - cn (lvB frm h) k := by
    intro k e hke he hd
    have h1 := cn_from (q := lvB frm h) (k := k) (e - k)
    rw [show k + (e - k) = e by omega] at h1
    rw [← h1]
    apply cn_congr
    intro c c0 c1
    unfold c2B
    by_cases hc : (k : Int) ≤ c
    · have := day_mono hs (i := c) (j := e) c0 (by omega) (by omega)
      have e9 : decide (day c - day (k : Int) < 28) = true := decide_eq_true (by omega)
      rw [e9, Bool.and_true]
    · rw [decide_eq_false hc, Bool.false_and, Bool.false_and]
  constructor
  · rintro ⟨e, e', h1, h2, h3, h4, h5, h6⟩
    refine ⟨e', by omega, h4, ?_⟩
    have h7 := all e' e h1 h2 (by omega)
    have h8 := cn_lt (p := c2B frm day h e') (a := e) (b := N) h2 (by
      unfold c2B lvB
      rw [decide_eq_true (by omega), decide_eq_true h3, decide_eq_true (by omega)]
      rfl)
    omega
  · rintro ⟨k, h1, h2, h3⟩
    obtain ⟨e, g1, g2, g3⟩ := cn_ex (p := c2B frm day h k) (r := 3) (by omega) h3
    unfold c2B lvB at g2
    simp only [Bool.and_eq_true, decide_eq_true_eq] at g2
    obtain ⟨g4, g5, g6⟩ := g2
    have h7 := all k e (by omega) g1 g6
    exact ⟨e, k, by omega, g1, g5, h2, by omega, by omega⟩
theorem lp_106 {d : Nat} {P : Int → Mm → Prop} {M : Mm} {h : Int} (hN : 0 ≤ M 40 6 ∧ M 40 6 ≤ 80) (hdy : ∀ e, 0 ≤ e → e < M 40 6 → 0 ≤ M 44 e ∧ M 44 e ≤ 199) (h1 : TRb (M 42) (M 44) h (M 40 6).toNat → ∀ f, P 1 (rset M 46 f)) (h0 : ¬ TRb (M 42) (M 44) h (M 40 6).toNat → ∀ f, P 0 (rset M 46 f)) : ∀ (n i : Nat) (f : Int → Int), (n : Int) = M 40 6 - i → (∀ e : Nat, e < i → M 42 e = h → f (cn (lvB (M 42) h) e) = M 44 e) → (∀ e e' : Nat, e < i → e' ≤ e → M 42 e = h → M 42 e' = h → cn (lvB (M 42) h) e = cn (lvB (M 42) h) e' + 3 → ¬ M 44 e - M 44 e' ≤ 27) → H_106_4 d P h (cn (lvB (M 42) h) i) i (rset M 46 f)
  | 0, i, f, hi, hf, hno => by
    refine sg_106_4 ⟨fun _ => h0 ?_ f, fun q => ?_⟩
    · rintro ⟨e, e', g1, g2, g3, g4, g5, g6⟩
      exact hno e e' (by omega) g1 g3 g4 g5 g6
    · have q : (i : Int) < M 40 6 := q
      omega
  | n + 1, i, f, hi, hf, hno => by
    have hb := cn_b (p := lvB (M 42) h) i
    have ih := lp_106 (d := d) (h := h) hN hdy h1 h0 n (i + 1)
    rw [show ((i + 1 : Nat) : Int) = (i : Int) + 1 by omega, cn_s] at ih
    have hI : inI ((i : Int) + 1) := by unfold inI; omega
    refine sg_106_4 ⟨fun q => ?_, fun q => ⟨by omega, fun q2 => ⟨hI, ?_⟩, fun q2 => ?_⟩⟩
    · have q : M 40 6 ≤ (i : Int) := q
      omega
    · have q2 : ¬ M 42 i = h := q2
      have ih2 := ih f (by omega) (fun e he g => hf e (by
        rcases Nat.lt_succ_iff_lt_or_eq.mp he with z | z
        · exact z
        · subst z; exact absurd g q2) g) (fun e e' he g1 g2 => hno e e' (by
        rcases Nat.lt_succ_iff_lt_or_eq.mp he with z | z
        · exact z
        · subst z; exact absurd g2 q2) g1 g2)
      have e9 : ¬ lvB (M 42) h i = true := fun z => q2 (of_decide_eq_true z)
      rw [if_neg e9, Int.add_zero] at ih2
      exact ih2
    · have q2 : M 42 i = h := q2
      have e9 : lvB (M 42) h i = true := decide_eq_true q2
      rw [if_pos e9] at ih
      have hf2 : ∀ e : Nat, e < i + 1 → M 42 e = h → fset f (cn (lvB (M 42) h) i) (M 44 i) (cn (lvB (M 42) h) e) = M 44 e := by
        intro e he g
        rcases Nat.lt_succ_iff_lt_or_eq.mp he with z | z
        · have := cn_lt (p := lvB (M 42) h) z (decide_eq_true g)
          rw [fs_ne (by omega)]
          exact hf e z g
        · subst z; rw [fs_eq]
      have go : (∀ e' : Nat, e' ≤ i → M 42 e' = h → cn (lvB (M 42) h) i = cn (lvB (M 42) h) e' + 3 → ¬ M 44 i - M 44 e' ≤ 27) → H_106_4 d P h (cn (lvB (M 42) h) i + 1) (i + 1) (mset (rset M 46 f) 46 (cn (lvB (M 42) h) i) (M 44 i)) := by
        intro hnew
        rw [ms_same]
        refine ih _ (by omega) hf2 (fun e e' he g1 g2 g3 => ?_)
        rcases Nat.lt_succ_iff_lt_or_eq.mp he with z | z
        · exact hno e e' z g1 g2 g3
        · subst z; exact hnew e' g1 g3
      refine ⟨by omega, by omega, by unfold inI; omega, fun q3 => ⟨hI, go (fun e' _ _ g => ?_)⟩, fun q3 => ?_⟩
      · have := cn_b (p := lvB (M 42) h) e'
        omega
      · obtain ⟨x, g1, g2, g3⟩ := cn_ex (p := lvB (M 42) h) (r := cn (lvB (M 42) h) i - 3) (by omega) (n := i) (by omega)
        have g4 : M 42 x = h := of_decide_eq_true g2
        have er : ∀ f0 : Int → Int, mset (rset M 46 f0) 46 (cn (lvB (M 42) h) i) (M 44 i) 46 (cn (lvB (M 42) h) i + 1 - 4) = fset f0 (cn (lvB (M 42) h) i) (M 44 i) (cn (lvB (M 42) h) i - 3) := by
          intro f0
          rw [ms_same]
          show fset f0 (cn (lvB (M 42) h) i) (M 44 i) (cn (lvB (M 42) h) i + 1 - 4) = _
          congr 1
          omega
        have ex : mset (rset M 46 f) 46 (cn (lvB (M 42) h) i) (M 44 i) 46 (cn (lvB (M 42) h) i + 1 - 4) = M 44 x := by
          rw [er f, ← g3]
          exact hf2 x (by omega) g4
        have b1 := hdy i (by omega) (by omega)
        have b2 := hdy x (by omega) (by omega)
        refine ⟨by omega, by unfold inI; omega, by omega, ?_, fun q4 => ⟨hI, go (fun e' ge gh gg => ?_)⟩, fun q4 => ?_⟩
        · show inI (M 44 i - mset (rset M 46 f) 46 (cn (lvB (M 42) h) i) (M 44 i) 46 (cn (lvB (M 42) h) i + 1 - 4))
          rw [ex]; unfold inI; omega
        · have q4 : 27 < M 44 i - mset (rset M 46 f) 46 (cn (lvB (M 42) h) i) (M 44 i) 46 (cn (lvB (M 42) h) i + 1 - 4) := q4
          rw [ex] at q4
          have e7 := hf2 e' (by omega) gh
          have e8 := hf2 x (by omega) g4
          rw [show cn (lvB (M 42) h) e' = cn (lvB (M 42) h) x by omega] at e7
          omega
        · have q4 : M 44 i - mset (rset M 46 f) 46 (cn (lvB (M 42) h) i) (M 44 i) 46 (cn (lvB (M 42) h) i + 1 - 4) ≤ 27 := q4
          rw [ex] at q4
          have := h1 ⟨i, x, by omega, by omega, q2, g4, by omega, q4⟩ (fset f (cn (lvB (M 42) h) i) (M 44 i))
          rw [← ms_same] at this
          exact this
theorem lp_132_30 {d : Nat} {P : Int → Mm → Prop} {M : Mm} {h : Int} {k : Nat} (hN : 0 ≤ M 76 28 ∧ M 76 28 ≤ 80) (hk : (k : Int) < M 76 28) (hdy : ∀ e, 0 ≤ e → e < M 76 28 → 0 ≤ M 97 e ∧ M 97 e ≤ 199) (hf : M 98 k = h) (hq : H_132_93 d P h k (cn (c2B (M 98) (M 97) h k) (M 76 28).toNat) M) : ∀ (n i : Nat), (n : Int) = M 76 28 - i → k ≤ i → H_132_30 d P h k (cn (c2B (M 98) (M 97) h k) i) i M
  | 0, i, hi, hki => by
    refine sg_132_30 ⟨fun _ => ?_, fun q => by omega⟩
    rw [show i = (M 76 28).toNat by omega]
    exact hq
  | n + 1, i, hi, hki => by
    have ih := lp_132_30 (d := d) hN hk hdy hf hq n (i + 1) (by omega) (by omega)
    have hb := cn_b (p := c2B (M 98) (M 97) h k) i
    have b1 := hdy i (by omega) (by omega)
    have b2 := hdy k (by omega) (by omega)
    rw [show ((i + 1 : Nat) : Int) = (i : Int) + 1 by omega, cn_s] at ih
    have e0 : c2B (M 98) (M 97) h k i = (decide (M 98 i = h) && decide (M 97 i - M 97 k < 28)) := by
      unfold c2B lvB
      rw [decide_eq_true (by omega), Bool.true_and]
    rw [e0] at ih
    refine sg_132_30 ⟨fun q => by omega, fun q => ⟨by omega, fun z => absurd hf z, fun _ => ⟨by omega, fun q2 => ⟨by unfold inI; omega, by unfold inI; omega, ?_⟩, fun q2 => ⟨by omega, by omega, by unfold inI; omega, fun q3 => ⟨by unfold inI; omega, by unfold inI; omega, ?_⟩, fun q3 => ⟨by unfold inI; omega, by unfold inI; omega, ?_⟩⟩⟩⟩⟩
    · rw [decide_eq_false q2, Bool.false_and, if_neg (by decide)] at ih; exact ih
    · rw [decide_eq_true q2, decide_eq_false (by omega), if_neg (by decide)] at ih; exact ih
    · rw [decide_eq_true q2, decide_eq_true q3, if_pos (by decide)] at ih; exact ih
theorem lp_132 {d : Nat} {P : Int → Mm → Prop} {M : Mm} {h : Int} (hN : 0 ≤ M 76 28 ∧ M 76 28 ≤ 80) (hdy : ∀ e, 0 ≤ e → e < M 76 28 → 0 ≤ M 97 e ∧ M 97 e ≤ 199) (h1 : TRm (M 98) (M 97) h (M 76 28).toNat → P 1 M) (h0 : ¬ TRm (M 98) (M 97) h (M 76 28).toNat → P 0 M) : ∀ (n k : Nat), (n : Int) = M 76 28 - k → (∀ j : Nat, j < k → M 98 j = h → ¬ 3 < cn (c2B (M 98) (M 97) h j) (M 76 28).toNat) → H_132_17 d P h k M
  | 0, k, hk, hno => by
    refine sg_132_17 ⟨fun _ => h0 ?_, fun q => by omega⟩
    rintro ⟨j, g1, g2, g3⟩
    exact hno j (by omega) g2 g3
  | n + 1, k, hk, hno => by
    have ih := lp_132 (d := d) (h := h) hN hdy h1 h0 n (k + 1) (by omega)
    rw [show ((k + 1 : Nat) : Int) = (k : Int) + 1 by omega] at ih
    refine sg_132_17 ⟨fun q => by omega, fun q => ?_⟩
    by_cases hf : M 98 k = h
    · have e0 : cn (c2B (M 98) (M 97) h k) k = 0 := by
        apply cn_none
        intro c c0 c1
        unfold c2B
        rw [decide_eq_false (by omega), Bool.false_and]
      have := lp_132_30 (d := d) (P := P) hN q hdy hf (sg_132_93 ⟨fun q2 => ⟨by unfold inI; omega, ih (fun j hj g => ?_)⟩, fun q2 => h1 ⟨k, by omega, hf, q2⟩⟩) (n + 1) k hk (Nat.le_refl k)
      · rw [e0] at this; exact this
      · rcases Nat.lt_succ_iff_lt_or_eq.mp hj with z | z
        · exact hno j z g
        · subst z; omega
    · have hx : H_132_93 d P h k 0 M := sg_132_93 ⟨fun _ => ⟨by unfold inI; omega, ih (fun j hj g => by
        rcases Nat.lt_succ_iff_lt_or_eq.mp hj with z | z
        · exact hno j z g
        · subst z; exact absurd g hf)⟩, fun q2 => by omega⟩
      exact sg_132_30 ⟨fun _ => hx, fun _ => ⟨by omega, fun _ => hx, fun z => absurd z hf⟩⟩
theorem op_trouble {d : Nat} {M : Mm} {k h : Int} (hI : Inv k M) : opI k (d + 9) 24 132 [vI h] M := by
  have hI2 := hI.thr
  obtain ⟨hC, hN, hD, hP, hB, hH, hL, hO, hY, hE, hT⟩ := hI
  have hhn := hH.1
  have hhn2 := hH.2.1
  have hE2 := hE
  obtain ⟨x1, x2, ⟨x3, x4, x5, x6⟩, x7, x8, x9, x10, x11⟩ := hE2
  by_cases hV : 0 ≤ h ∧ h < M 24 5
  · have hT2 : TRb (M 42) (M 44) h (M 40 6).toNat ↔ TRm (M 98) (M 97) h (M 76 28).toNat := by
      rw [x2, x4, x6]
      exact TR_iff (fun e e0 e1 => x8 e e0 (by omega))
    have hN2 : 0 ≤ M 76 28 ∧ M 76 28 ≤ 80 := by omega
    have hdm : ∀ e, 0 ≤ e → e < M 76 28 → 0 ≤ M 97 e ∧ M 97 e ≤ 199 := fun e e0 e1 => by rw [x6]; exact (x7 e e0 (by omega)).2.2.1
    have hInv : ∀ f, Inv (k + 1) (mset (rset M 46 f) 76 0 0) := fun f => ⟨hC, hN, hD, hP, hB, hH, hL, hO, hY, hE, hT.up⟩
    refine sg_24 (c_42 hhn (fun _ => t1' ?_) (fun q => absurd hV q))
    refine sg_106 ?_
    have e0 : M = rset M 46 (M 46) := rs_id.symm
    have key := lp_106 (d := d + 7) (P := fun r2 M2 => (r2 = 0 → EE (d + 9) 132 [vR 76, vI h] M2 (rI fun r M2 => r = 0 ∧ Inv (k + 1) M2)) ∧ (¬ r2 = 0 → EE (d + 9) 132 [vR 76, vI h] M2 (rI fun r M2 => r = 1 ∧ Inv (k + 1) M2))) (h := h) x1 (fun e e0 e1 => (x7 e e0 e1).2.2.1) (fun tr f => t1 ?_) (fun tr f => t0 ?_) (M 40 6).toNat 0 (M 46) (by omega) (fun e he => absurd he (Nat.not_lt_zero e)) (fun e e' he => absurd he (Nat.not_lt_zero e))
    · rw [← e0] at key
      exact key
    · refine sg_132 (c_162 (by show 0 ≤ M 76 16 ∧ M 76 16 ≤ 24; omega) (fun _ => t1' ?_) (fun q => absurd (show 0 ≤ h ∧ h < M 76 16 by omega) q))
      exact lp_132 (M := mset (rset M 46 f) 76 0 0) hN2 hdm (fun _ => ⟨rfl, hInv f⟩) (fun z => absurd (hT2.mp tr) z) (M 76 28).toNat 0 (by show ((M 76 28).toNat : Int) = M 76 28 - ((0 : Nat) : Int); omega) (fun j hj => absurd hj (Nat.not_lt_zero j))
    · refine sg_132 (c_162 (by show 0 ≤ M 76 16 ∧ M 76 16 ≤ 24; omega) (fun _ => t1' ?_) (fun q => absurd (show 0 ≤ h ∧ h < M 76 16 by omega) q))
      exact lp_132 (M := mset (rset M 46 f) 76 0 0) hN2 hdm (fun z => absurd (hT2.mpr z) tr) (fun _ => ⟨rfl, hInv f⟩) (M 76 28).toNat 0 (by show ((M 76 28).toNat : Int) = M 76 28 - ((0 : Nat) : Int); omega) (fun j hj => absurd hj (Nat.not_lt_zero j))
  · refine sg_24 (c_42 hhn (fun q => absurd q hV) (fun _ => t0' ?_))
    exact sg_132 (c_162 (by show 0 ≤ M 76 16 ∧ M 76 16 ≤ 24; omega) (fun q => absurd q (by show ¬ (0 ≤ h ∧ h < M 76 16); omega)) (fun _ => t0' ⟨rfl, hI2⟩))
