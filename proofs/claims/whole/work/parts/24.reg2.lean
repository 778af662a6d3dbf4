/-! paid, city, restless, trouble -/
theorem cn_s {p : Int → Bool} {n : Nat} : cn p (n + 1) = cn p n + (if p n = true then 1 else 0) := rfl
theorem lp_130 {d : Nat} {P : Int → Mm → Prop} {M : Mm} {hh w : Int} (hw : 0 ≤ w ∧ w ≤ 27) (hN : 0 ≤ M 76 28 ∧ M 76 28 ≤ 80) (hn : 0 ≤ M 76 2 ∧ M 76 2 ≤ 48) (hh0 : 0 ≤ hh ∧ hh < 24) (h : P (payP (M 89 (5 * hh + 1)) (cn (fun c => decide (whr (M 95) (M 96) (M 97) c (7 * w) (M 76 28).toNat = hh)) (M 76 2).toNat) (cn (fun c => decide (whr (M 95) (M 96) (M 97) c (7 * w) (M 76 28).toNat = hh) && decide (M 78 c < 5)) (M 76 2).toNat)) M) : ∀ (n i : Nat), (n : Int) = M 76 2 - i → H_130_33 (d + 1) P hh w (cn (fun c => decide (whr (M 95) (M 96) (M 97) c (7 * w) (M 76 28).toNat = hh)) i) (cn (fun c => decide (whr (M 95) (M 96) (M 97) c (7 * w) (M 76 28).toNat = hh) && decide (M 78 c < 5)) i) i M
  | 0, i, hi => by
    have hb := cn_b (p := fun c => decide (whr (M 95) (M 96) (M 97) c (7 * w) (M 76 28).toNat = hh)) i
    have hb2 := cn_b (p := fun c => decide (whr (M 95) (M 96) (M 97) c (7 * w) (M 76 28).toNat = hh) && decide (M 78 c < 5)) i
    refine sg_130_33 ⟨fun _ => ⟨by unfold inI; omega, by unfold inI; omega, by omega, c_146 (by omega) (by omega) ?_⟩, fun q => by omega⟩
    rw [show i = (M 76 2).toNat by omega]
    exact h
  | n + 1, i, hi => by
    have ih := lp_130 (d := d) hw hN hn hh0 h n (i + 1) (by omega)
    have hb := cn_b (p := fun c => decide (whr (M 95) (M 96) (M 97) c (7 * w) (M 76 28).toNat = hh)) i
    have hb2 := cn_b (p := fun c => decide (whr (M 95) (M 96) (M 97) c (7 * w) (M 76 28).toNat = hh) && decide (M 78 c < 5)) i
    rw [show ((i + 1 : Nat) : Int) = (i : Int) + 1 by omega, cn_s, cn_s] at ih
    refine sg_130_33 ⟨fun q => by omega, fun q => ⟨by unfold inI; omega, c_167 hN ⟨fun q2 => ?_, fun q2 => ?_⟩⟩⟩
    · rw [decide_eq_false q2, if_neg (by decide), if_neg (by simp)] at ih
      refine sg_130_61 (t0 (sg_130_74 ⟨by unfold inI; omega, fun _ => ⟨by unfold inI; omega, by unfold inI; omega, ih⟩, fun e => absurd rfl e⟩))
    · rw [decide_eq_true q2, if_pos rfl] at ih
      refine sg_130_61 (t1 (sg_130_74 ⟨by unfold inI; omega, fun e => absurd e (by decide), fun _ => ⟨by omega, fun q3 => ⟨by unfold inI; omega, by unfold inI; omega, ?_⟩, fun q3 => ⟨by unfold inI; omega, by unfold inI; omega, ?_⟩⟩⟩))
      · rw [decide_eq_false (by omega), if_neg (by decide)] at ih; exact ih
      · rw [decide_eq_true q3, if_pos (by decide)] at ih; exact ih
theorem lp_26 {d : Nat} {P : Int → Mm → Prop} {M : Mm} {dy : Int} (hN : 0 ≤ M 40 6 ∧ M 40 6 ≤ 80) (hs : ∀ e, 0 < e → e < M 40 6 → M 44 (e - 1) ≤ M 44 e) (hn : 0 ≤ M 1 6 ∧ M 1 6 ≤ 48) (h : P (cn (fun c => decide (whr (M 41) (M 43) (M 44) c dy (M 40 6).toNat = -9)) (M 1 6).toNat) M) : ∀ (n i : Nat), (n : Int) = M 1 6 - i → H_26_13 (d + 1) P dy (cn (fun c => decide (whr (M 41) (M 43) (M 44) c dy (M 40 6).toNat = -9)) i) i M
  | 0, i, hi => by
    refine sg_26_13 ⟨fun _ => ?_, fun q => by omega⟩
    rw [show i = (M 1 6).toNat by omega]
    exact h
  | n + 1, i, hi => by
    have ih := lp_26 (d := d) hN hs hn h n (i + 1) (by omega)
    have hb := cn_b (p := fun c => decide (whr (M 41) (M 43) (M 44) c dy (M 40 6).toNat = -9)) i
    rw [show ((i + 1 : Nat) : Int) = (i : Int) + 1 by omega, cn_s] at ih
    refine sg_26_13 ⟨fun q => by omega, fun q => c_104 hN hs ⟨fun q2 => ⟨by unfold inI; omega, ?_⟩, fun q2 => ⟨by unfold inI; omega, by unfold inI; omega, ?_⟩⟩⟩
    · rw [if_neg (by rw [decide_eq_true_eq]; exact q2), Int.add_zero] at ih; exact ih
    · rw [if_pos (by rw [decide_eq_true_eq]; exact q2)] at ih; exact ih
/-- how often a child was moved -/
def mv (who frm into : Int → Int) (c : Int) : Nat → Int
  | 0 => 0
  | k + 1 => mv who frm into c k + (if who k = c ∧ ¬ frm k = -9 ∧ ¬ into k = -9 then 1 else 0)
theorem mv_s {who frm into : Int → Int} {c : Int} {k : Nat} : mv who frm into c (k + 1) = mv who frm into c k + (if who k = c ∧ ¬ frm k = -9 ∧ ¬ into k = -9 then 1 else 0) := rfl
theorem mv_b {who frm into : Int → Int} {c : Int} : ∀ k : Nat, 0 ≤ mv who frm into c k ∧ mv who frm into c k ≤ k
  | 0 => by show (0 : Int) ≤ 0 ∧ (0 : Int) ≤ ((0 : Nat) : Int); omega
  | k + 1 => by
    have ih := mv_b (who := who) (frm := frm) (into := into) (c := c) k
    rw [mv_s]
    split <;> omega
theorem lp_107 {d : Nat} {P : Int → Mm → Prop} {M : Mm} {c : Int} (hN : 0 ≤ M 40 6 ∧ M 40 6 ≤ 80) (h : P (mv (M 41) (M 42) (M 43) c (M 40 6).toNat) M) : ∀ (n i : Nat), (n : Int) = M 40 6 - i → H_107_4 d P c (mv (M 41) (M 42) (M 43) c i) i M
  | 0, i, hi => by
    refine sg_107_4 ⟨fun _ => ?_, fun q => by omega⟩
    rw [show i = (M 40 6).toNat by omega]
    exact h
  | n + 1, i, hi => by
    have ih := lp_107 (d := d) hN h n (i + 1) (by omega)
    have hb := mv_b (who := M 41) (frm := M 42) (into := M 43) (c := c) i
    rw [show ((i + 1 : Nat) : Int) = (i : Int) + 1 by omega, mv_s] at ih
    refine sg_107_4 ⟨fun q => by omega, fun q => ⟨by omega, fun q2 => ⟨by unfold inI; omega, ?_⟩, fun q2 => ⟨by omega, fun q3 => ⟨by unfold inI; omega, ?_⟩, fun q3 => ⟨by omega, fun q4 => ⟨by unfold inI; omega, ?_⟩, fun q4 => ⟨by unfold inI; omega, by unfold inI; omega, ?_⟩⟩⟩⟩⟩
    · rw [if_neg (fun z => q2 z.1), Int.add_zero] at ih; exact ih
    · rw [if_neg (fun z => z.2.1 q3), Int.add_zero] at ih; exact ih
    · rw [if_neg (fun z => z.2.2 q4), Int.add_zero] at ih; exact ih
    · rw [if_pos ⟨q2, q3, q4⟩] at ih; exact ih
theorem lp_25 {d : Nat} {P : Int → Mm → Prop} {M : Mm} (hN : 0 ≤ M 40 6 ∧ M 40 6 ≤ 80) (hn : 0 ≤ M 1 6 ∧ M 1 6 ≤ 48) (h : P (cn (fun c => decide (3 ≤ mv (M 41) (M 42) (M 43) c (M 40 6).toNat)) (M 1 6).toNat) M) : ∀ (n i : Nat), (n : Int) = M 1 6 - i → H_25_4 (d + 1) P (cn (fun c => decide (3 ≤ mv (M 41) (M 42) (M 43) c (M 40 6).toNat)) i) i M
  | 0, i, hi => by
    refine sg_25_4 ⟨fun _ => ?_, fun q => by omega⟩
    rw [show i = (M 1 6).toNat by omega]
    exact h
  | n + 1, i, hi => by
    have ih := lp_25 (d := d) hN hn h n (i + 1) (by omega)
    have hb := cn_b (p := fun c => decide (3 ≤ mv (M 41) (M 42) (M 43) c (M 40 6).toNat)) i
    rw [show ((i + 1 : Nat) : Int) = (i : Int) + 1 by omega, cn_s] at ih
    refine sg_25_4 ⟨fun q => by omega, fun q => sg_107 (lp_107 hN ⟨fun q2 => ⟨by unfold inI; omega, ?_⟩, fun q2 => ⟨by unfold inI; omega, by unfold inI; omega, ?_⟩⟩ (M 40 6).toNat 0 (by omega))⟩
    · rw [if_neg (by rw [decide_eq_true_eq]; omega), Int.add_zero] at ih; exact ih
    · rw [if_pos (by rw [decide_eq_true_eq]; omega)] at ih; exact ih
theorem lp_133_22 {d : Nat} {P : Int → Mm → Prop} {M : Mm} {c a : Int} (hN : 0 ≤ M 76 28 ∧ M 76 28 ≤ 80) (h : (mv (M 95) (M 98) (M 96) c (M 76 28).toNat ≤ 2 → inI (a + 0) ∧ inI (c + 1) ∧ H_133_9 d P (a + 0) (c + 1) M) ∧ (2 < mv (M 95) (M 98) (M 96) c (M 76 28).toNat → inI (a + 1) ∧ inI (c + 1) ∧ H_133_9 d P (a + 1) (c + 1) M)) : ∀ (n i : Nat), (n : Int) = M 76 28 - i → H_133_22 d P a c (mv (M 95) (M 98) (M 96) c i) i M
  | 0, i, hi => by
    refine sg_133_22 ⟨fun _ => ?_, fun q => by omega⟩
    rw [show i = (M 76 28).toNat by omega]
    exact h
  | n + 1, i, hi => by
    have ih := lp_133_22 (d := d) hN h n (i + 1) (by omega)
    have hb := mv_b (who := M 95) (frm := M 98) (into := M 96) (c := c) i
    rw [show ((i + 1 : Nat) : Int) = (i : Int) + 1 by omega, mv_s] at ih
    refine sg_133_22 ⟨fun q => by omega, fun q => ⟨by omega, fun q2 => ⟨by unfold inI; omega, by unfold inI; omega, ?_⟩, fun q2 => ⟨by omega, fun q3 => ⟨by unfold inI; omega, by unfold inI; omega, ?_⟩, fun q3 => ⟨by omega, fun q4 => ⟨by unfold inI; omega, by unfold inI; omega, ?_⟩, fun q4 => ⟨by unfold inI; omega, by unfold inI; omega, ?_⟩⟩⟩⟩⟩
    · rw [if_neg (fun z => q2 z.1)] at ih; exact ih
    · rw [if_neg (fun z => z.2.2 q3)] at ih; exact ih
    · rw [if_neg (fun z => z.2.1 q4)] at ih; exact ih
    · rw [if_pos ⟨q2, q4, q3⟩] at ih; exact ih
theorem lp_133_9 {d : Nat} {P : Int → Mm → Prop} {M : Mm} (hN : 0 ≤ M 76 28 ∧ M 76 28 ≤ 80) (hn : 0 ≤ M 76 2 ∧ M 76 2 ≤ 48) (h : P (cn (fun c => decide (3 ≤ mv (M 95) (M 98) (M 96) c (M 76 28).toNat)) (M 76 2).toNat) M) : ∀ (n i : Nat), (n : Int) = M 76 2 - i → H_133_9 d P (cn (fun c => decide (3 ≤ mv (M 95) (M 98) (M 96) c (M 76 28).toNat)) i) i M
  | 0, i, hi => by
    refine sg_133_9 ⟨fun _ => ?_, fun q => by omega⟩
    rw [show i = (M 76 2).toNat by omega]
    exact h
  | n + 1, i, hi => by
    have ih := lp_133_9 (d := d) hN hn h n (i + 1) (by omega)
    have hb := cn_b (p := fun c => decide (3 ≤ mv (M 95) (M 98) (M 96) c (M 76 28).toNat)) i
    rw [show ((i + 1 : Nat) : Int) = (i : Int) + 1 by omega, cn_s] at ih
    refine sg_133_9 ⟨fun q => by omega, fun q => lp_133_22 hN ⟨fun q2 => ⟨by unfold inI; omega, by unfold inI; omega, ?_⟩, fun q2 => ⟨by unfold inI; omega, by unfold inI; omega, ?_⟩⟩ (M 76 28).toNat 0 (by omega)⟩
    · rw [if_neg (by rw [decide_eq_true_eq]; omega)] at ih; exact ih
    · rw [if_pos (by rw [decide_eq_true_eq]; omega)] at ih; exact ih
section OP5
variable {d : Nat} {M : Mm} {k : Int}
theorem op_restless (hI : Inv k M) : opI k (d + 5) 25 133 [] M := by
  have hI2 := hI.thr
  obtain ⟨hC, hN, hD, hP, hB, hH, hL, hO, hY, hE, hT⟩ := hI
  have hn := hC.1
  have hn2 := hC.2.1
  obtain ⟨x1, x2, ⟨x3, x4, x5, x6⟩, x7, x8, x9⟩ := hE
  refine sg_25 (lp_25 x1 hn ?_ (M 1 6).toNat 0 (by omega))
  refine sg_133 (lp_133_9 (by show 0 ≤ M 76 28 ∧ M 76 28 ≤ 80; omega) (by show 0 ≤ M 76 2 ∧ M 76 2 ≤ 48; omega) ⟨?_, hI2⟩ (M 76 2).toNat 0 (by show ((M 76 2).toNat : Int) = M 76 2 - 0; omega))
  show cn (fun c => decide (3 ≤ mv (M 95) (M 98) (M 96) c (M 76 28).toNat)) (M 76 2).toNat = _
  rw [x2, x3, x4, x5, hn2]
theorem op_city {dy : Int} (hI : Inv k M) : opI k (d + 5) 26 134 [vI dy] M := by
  have hI2 := hI.thr
  obtain ⟨hC, hN, hD, hP, hB, hH, hL, hO, hY, hE, hT⟩ := hI
  have hn := hC.1
  have hn2 := hC.2.1
  obtain ⟨x1, x2, ⟨x3, x4, x5, x6⟩, x7, x8, x9⟩ := hE
  refine sg_26 (c_43 (fun v => t1' ?_) (fun v => t0' ?_))
  · refine lp_26 x1 x8 hn ?_ (M 1 6).toNat 0 (by omega)
    refine sg_134 (c_163 (fun _ => t1 ?_) (fun q => absurd v q))
    refine c_169 (by show 0 ≤ M 76 28 ∧ M 76 28 ≤ 80; omega) (by show 0 ≤ M 76 2 ∧ M 76 2 ≤ 48; omega) ⟨?_, hI2⟩
    show cn (fun z => decide (whr (M 95) (M 96) (M 97) z dy (M 76 28).toNat = -9)) (M 76 2).toNat = _
    rw [x2, x3, x5, x6, hn2]
  · exact sg_134 (c_163 (fun q => absurd q v) (fun _ => t0 ⟨rfl, hI2⟩))
theorem op_paid {c w : Int} (hI : Inv k M) : opI k (d + 5) 22 130 [vI c, vI w] M := by
  have hI2 := hI.thr
  obtain ⟨hC, hN, hD, hP, hB, hH, hL, hO, hY, hE, hT⟩ := hI
  have hn := hC.1
  have hn2 := hC.2.1
  have hhn := hH.1
  have hhn2 := hH.2.1
  have ev := hE.ev hC
  obtain ⟨x1, x2, ⟨x3, x4, x5, x6⟩, x7, x8, x9⟩ := hE
  by_cases hV : (0 ≤ c ∧ c < M 24 5) ∧ (0 ≤ w ∧ w ≤ 27)
  · have h1 := ins_cn ev (q := fun _ => true) (h := c) (d := 7 * w) (by omega) (M 40 6).toNat (by omega)
    have h2 := ins_cn ev (q := fun z => decide (M 3 z < 5)) (h := c) (d := 7 * w) (by omega) (M 40 6).toNat (by omega)
    have b1 := cn_b (p := fun z => decide (whr (M 41) (M 43) (M 44) z (7 * w) (M 40 6).toNat = c) && true) (M 1 6).toNat
    have b2 := cn_b (p := fun z => decide (whr (M 41) (M 43) (M 44) z (7 * w) (M 40 6).toNat = c) && decide (M 3 z < 5)) (M 1 6).toNat
    refine sg_22 (c_42 hhn (fun _ => t1 ?_) (fun q => absurd hV.1 q))
    refine c_32 (fun _ => t1' ⟨by unfold inI; omega, by omega, ?_⟩) (fun q => absurd hV.2 q)
    refine c_102 x1 x8 ?_
    refine c_105 x1 (fun e e0 e1 => by have := (x7 e e0 e1).1; omega) x8 ?_
    refine c_39 (by rw [h1]; omega) (by rw [h2]; omega) ?_
    refine sg_130 (c_162 (by show 0 ≤ M 76 16 ∧ M 76 16 ≤ 24; omega) (fun _ => t1 ?_) (fun q => absurd (show 0 ≤ c ∧ c < M 76 16 by omega) q))
    refine c_140 (fun _ => t1' ?_) (fun q => absurd hV.2 q)
    refine lp_130 hV.2 (by show 0 ≤ M 76 28 ∧ M 76 28 ≤ 80; omega) (by show 0 ≤ M 76 2 ∧ M 76 2 ≤ 48; omega) (by omega) ⟨?_, hI2⟩ (M 76 2).toNat 0 (by show ((M 76 2).toNat : Int) = M 76 2 - 0; omega)
    show payP (M 89 (5 * c + 1)) (cn (fun z => decide (whr (M 95) (M 96) (M 97) z (7 * w) (M 76 28).toNat = c)) (M 76 2).toNat) (cn (fun z => decide (whr (M 95) (M 96) (M 97) z (7 * w) (M 76 28).toNat = c) && decide (M 78 z < 5)) (M 76 2).toNat) = _
    have e2 : M 89 (5 * c + 1) = M 26 c := ((hH.2.2.1 c).2.1).symm
    rw [h1, h2, x2, x3, x5, x6, hn2, e2, hC.2.2.1.2.1]
    congr 1
    apply cn_congr
    intro z _ _
    simp
  · have hm : EE (d + 5) 130 [vR 76, vI c, vI w] M (rI fun r2 M2 => r2 = -1 ∧ Inv (k + 1) M2) := by
      refine sg_130 (c_162 (by show 0 ≤ M 76 16 ∧ M 76 16 ≤ 24; omega) (fun v1 => t1 ?_) (fun _ => t0 ⟨rfl, hI2⟩))
      exact c_140 (fun v2 => absurd ⟨by have v1 : 0 ≤ c ∧ c < M 76 16 := v1; omega, v2⟩ hV) (fun _ => t0' ⟨rfl, hI2⟩)
    refine sg_22 (c_42 hhn (fun v1 => t1 ?_) (fun _ => t0 hm))
    exact c_32 (fun v2 => absurd ⟨v1, v2⟩ hV) (fun _ => t0' hm)
end OP5
