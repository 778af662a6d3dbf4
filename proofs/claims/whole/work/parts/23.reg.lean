/-! THE REGISTER: where, inside, moves -/
/-- the events' facts, of either side -/
def EV (who frm into day : Int → Int) (n hn N : Int) : Prop := (0 ≤ N ∧ N ≤ 80) ∧ (0 ≤ n ∧ n ≤ 48) ∧ (∀ e, 0 ≤ e → e < N → (0 ≤ who e ∧ who e < n) ∧ (into e = -9 ∨ (0 ≤ into e ∧ into e < hn)) ∧ (0 ≤ day e ∧ day e ≤ 199) ∧ frm e = whr who into day (who e) 199 e.toNat ∧ ¬ frm e = into e) ∧ (∀ e, 0 < e → e < N → day (e - 1) ≤ day e)
theorem IE.ev {M : Mm} (hC : IC M) (h : IE M) : EV (M 41) (M 42) (M 43) (M 44) (M 1 6) (M 24 5) (M 40 6) := ⟨h.1, hC.1, h.2.2.2.1, h.2.2.2.2.1⟩
theorem day_le {day : Int → Int} {N : Int} (h : ∀ e, 0 < e → e < N → day (e - 1) ≤ day e) : ∀ (j : Nat) {i : Int}, 0 ≤ i → i + j < N → day i ≤ day (i + j)
  | 0, i, h0, h1 => by rw [show i + ((0 : Nat) : Int) = i by omega]; exact Int.le_refl _
  | j + 1, i, h0, h1 => by
    have ih := day_le h j h0 (by omega)
    have h2 := h (i + ((j + 1 : Nat) : Int)) (by omega) h1
    rw [show i + ((j + 1 : Nat) : Int) - 1 = i + (j : Int) by omega] at h2
    omega
theorem day_mono {day : Int → Int} {N i j : Int} (h : ∀ e, 0 < e → e < N → day (e - 1) ≤ day e) (h0 : 0 ≤ i) (h1 : i ≤ j) (h2 : j < N) : day i ≤ day j := by
  have := day_le h (j - i).toNat h0 (by omega)
  rw [show i + ((j - i).toNat : Int) = j by omega] at this
  exact this
theorem whr_s {who into day : Int → Int} {c d : Int} {k : Nat} : whr who into day c d (k + 1) = if who k = c ∧ day k ≤ d then into k else whr who into day c d k := rfl
theorem whr_stop {who into day : Int → Int} {c d N : Int} (hs : ∀ e, 0 < e → e < N → day (e - 1) ≤ day e) {i : Nat} (hi : d < day i) : ∀ m : Nat, (i : Int) + m ≤ N → whr who into day c d (i + m) = whr who into day c d i
  | 0, _ => rfl
  | m + 1, h => by
    rw [← whr_stop hs hi m (by omega)]
    show (if who ((i + m : Nat) : Int) = c ∧ day ((i + m : Nat) : Int) ≤ d then into ((i + m : Nat) : Int) else whr who into day c d (i + m)) = _
    have := day_mono hs (i := i) (j := ((i + m : Nat) : Int)) (by omega) (by omega) (by omega)
    rw [if_neg (by omega)]
theorem whr_all {who into day : Int → Int} {c d : Int} : ∀ {k : Nat}, (∀ e, 0 ≤ e → e < (k : Int) → day e ≤ d ∧ day e ≤ 199) → whr who into day c d k = whr who into day c 199 k
  | 0, _ => rfl
  | k + 1, h => by
    have hk := h k (by omega) (by omega)
    rw [whr_s, whr_s, whr_all (fun e e0 e1 => h e e0 (by omega))]
    by_cases z : who k = c
    · rw [if_pos ⟨z, hk.1⟩, if_pos ⟨z, hk.2⟩]
    · rw [if_neg (fun q => z q.1), if_neg (fun q => z q.1)]
theorem lp_167 {d : Nat} {P : Int → Mm → Prop} {M : Mm} {c dy : Int} (hN : 0 ≤ M 76 28 ∧ M 76 28 ≤ 80) (h : P (whr (M 95) (M 96) (M 97) c dy (M 76 28).toNat) M) : ∀ (n i : Nat), (n : Int) = M 76 28 - i → H_167_6 d P c dy (whr (M 95) (M 96) (M 97) c dy i) i M
  | 0, i, hn => by
    refine sg_167_6 ⟨fun _ => ?_, fun q => by omega⟩
    rw [show i = (M 76 28).toNat by omega]
    exact h
  | n + 1, i, hn => by
    have ih := lp_167 (d := d) hN h n (i + 1) (by omega)
    rw [show ((i + 1 : Nat) : Int) = (i : Int) + 1 by omega, whr_s] at ih
    refine sg_167_6 ⟨fun q => by omega, fun q => ⟨by omega, fun q2 => ⟨by unfold inI; omega, ?_⟩, fun q2 => ⟨by omega, fun q3 => ⟨by unfold inI; omega, ?_⟩, fun q3 => ⟨by omega, by unfold inI; omega, ?_⟩⟩⟩⟩
    · rw [if_neg (fun z => q2 z.1)] at ih; exact ih
    · rw [if_neg (fun z => by omega)] at ih; exact ih
    · rw [if_pos ⟨q2, q3⟩] at ih; exact ih
theorem c_167 {d : Nat} {P : Int → Mm → Prop} {M : Mm} {c dy : Int} (hN : 0 ≤ M 76 28 ∧ M 76 28 ≤ 80) (h : P (whr (M 95) (M 96) (M 97) c dy (M 76 28).toNat) M) : EE (d + 1) 167 [vR 76, vI c, vI dy] M (rI P) :=
  sg_167 (lp_167 hN h (M 76 28).toNat 0 (by omega))
theorem lp_104 {d : Nat} {P : Int → Mm → Prop} {M : Mm} {c dy : Int} (hN : 0 ≤ M 40 6 ∧ M 40 6 ≤ 80) (hs : ∀ e, 0 < e → e < M 40 6 → M 44 (e - 1) ≤ M 44 e) (h : P (whr (M 41) (M 43) (M 44) c dy (M 40 6).toNat) M) : ∀ (n i : Nat), (n : Int) = M 40 6 - i → H_104_6 d P c dy (whr (M 41) (M 43) (M 44) c dy i) i M
  | 0, i, hn => by
    refine sg_104_6 ⟨fun _ => ?_, fun q => by omega⟩
    rw [show i = (M 40 6).toNat by omega]
    exact h
  | n + 1, i, hn => by
    have ih := lp_104 (d := d) hN hs h n (i + 1) (by omega)
    rw [show ((i + 1 : Nat) : Int) = (i : Int) + 1 by omega, whr_s] at ih
    refine sg_104_6 ⟨fun q => by omega, fun q => ⟨by omega, fun q2 => ?_, fun q2 => ⟨by omega, fun q3 => ⟨by unfold inI; omega, ?_⟩, fun q3 => ⟨by omega, by unfold inI; omega, ?_⟩⟩⟩⟩
    · have e := whr_stop (who := M 41) (into := M 43) (c := c) hs q2 (n + 1) (by omega)
      rw [← e, show i + (n + 1) = (M 40 6).toNat by omega]
      exact h
    · rw [if_neg (fun z => q3 z.1)] at ih; exact ih
    · rw [if_pos ⟨q3, q2⟩] at ih; exact ih
theorem c_104 {d : Nat} {P : Int → Mm → Prop} {M : Mm} {c dy : Int} (hN : 0 ≤ M 40 6 ∧ M 40 6 ≤ 80) (hs : ∀ e, 0 < e → e < M 40 6 → M 44 (e - 1) ≤ M 44 e) (h : P (whr (M 41) (M 43) (M 44) c dy (M 40 6).toNat) M) : EE (d + 1) 104 [vR 40, vI c, vI dy] M (rI P) :=
  sg_104 (lp_104 hN hs h (M 40 6).toNat 0 (by omega))
/-- who came less who left, of those whom q names, by the first k events of days up to d -/
def ins (who frm into day : Int → Int) (q : Int → Bool) (h d : Int) : Nat → Int
  | 0 => 0
  | k + 1 => ins who frm into day q h d k + (if day k ≤ d ∧ q (who k) = true then (if into k = h then 1 else 0) - (if frm k = h then 1 else 0) else 0)
theorem ins_s {who frm into day : Int → Int} {q : Int → Bool} {h d : Int} {k : Nat} : ins who frm into day q h d (k + 1) = ins who frm into day q h d k + (if day k ≤ d ∧ q (who k) = true then (if into k = h then 1 else 0) - (if frm k = h then 1 else 0) else 0) := rfl
theorem ins_b {who frm into day : Int → Int} {q : Int → Bool} {h d : Int} : ∀ k : Nat, -(k : Int) ≤ ins who frm into day q h d k ∧ ins who frm into day q h d k ≤ k
  | 0 => by show -((0 : Nat) : Int) ≤ 0 ∧ (0 : Int) ≤ ((0 : Nat) : Int); omega
  | k + 1 => by
    have ih := ins_b (who := who) (frm := frm) (into := into) (day := day) (q := q) (h := h) (d := d) k
    rw [ins_s]
    by_cases z : day k ≤ d ∧ q (who k) = true
    · rw [if_pos z]
      by_cases y : into k = h
      · rw [if_pos y]
        by_cases x : frm k = h
        · rw [if_pos x]; omega
        · rw [if_neg x]; omega
      · rw [if_neg y]
        by_cases x : frm k = h
        · rw [if_pos x]; omega
        · rw [if_neg x]; omega
    · rw [if_neg z]; omega
theorem ins_stop {who frm into day : Int → Int} {q : Int → Bool} {h d N : Int} (hs : ∀ e, 0 < e → e < N → day (e - 1) ≤ day e) {i : Nat} (hi : d < day i) : ∀ m : Nat, (i : Int) + m ≤ N → ins who frm into day q h d (i + m) = ins who frm into day q h d i
  | 0, _ => rfl
  | m + 1, hm => by
    rw [← ins_stop hs hi m (by omega)]
    show ins who frm into day q h d (i + m + 1) = _
    have := day_mono hs (i := i) (j := ((i + m : Nat) : Int)) (by omega) (by omega) (by omega)
    rw [ins_s, if_neg (by omega)]
    omega
theorem lp_102 {d : Nat} {P : Int → Mm → Prop} {M : Mm} {hh dy : Int} (hN : 0 ≤ M 40 6 ∧ M 40 6 ≤ 80) (hs : ∀ e, 0 < e → e < M 40 6 → M 44 (e - 1) ≤ M 44 e) (h : P (ins (M 41) (M 42) (M 43) (M 44) (fun _ => true) hh dy (M 40 6).toNat) M) : ∀ (n i : Nat), (n : Int) = M 40 6 - i → H_102_5 d P hh dy (ins (M 41) (M 42) (M 43) (M 44) (fun _ => true) hh dy i) i M
  | 0, i, hn => by
    refine sg_102_5 ⟨fun _ => ?_, fun q => by omega⟩
    rw [show i = (M 40 6).toNat by omega]
    exact h
  | n + 1, i, hn => by
    have ih := lp_102 (d := d) hN hs h n (i + 1) (by omega)
    have hb := ins_b (who := M 41) (frm := M 42) (into := M 43) (day := M 44) (q := fun _ => true) (h := hh) (d := dy) i
    rw [show ((i + 1 : Nat) : Int) = (i : Int) + 1 by omega, ins_s] at ih
    refine sg_102_5 ⟨fun q => by omega, fun q => ⟨by omega, fun q2 => ?_, fun q2 => ⟨by omega, fun q3 => ?_, fun q3 => ?_⟩⟩⟩
    · have e := ins_stop (who := M 41) (frm := M 42) (into := M 43) (q := fun _ => true) (h := hh) hs q2 (n + 1) (by omega)
      rw [← e, show i + (n + 1) = (M 40 6).toNat by omega]
      exact h
    · rw [if_pos ⟨q2, rfl⟩, if_neg q3] at ih
      refine sg_102_42 ⟨by omega, fun q4 => ⟨by unfold inI; omega, by unfold inI; omega, by unfold inI; omega, ?_⟩, fun q4 => ⟨by unfold inI; omega, by unfold inI; omega, by unfold inI; omega, ?_⟩⟩
      · rw [if_neg q4] at ih; exact ih
      · rw [if_pos q4] at ih; exact ih
    · rw [if_pos ⟨q2, rfl⟩, if_pos q3] at ih
      refine sg_102_42 ⟨by omega, fun q4 => ⟨by unfold inI; omega, by unfold inI; omega, by unfold inI; omega, ?_⟩, fun q4 => ⟨by unfold inI; omega, by unfold inI; omega, by unfold inI; omega, ?_⟩⟩
      · rw [if_neg q4] at ih; exact ih
      · rw [if_pos q4] at ih; exact ih
theorem c_102 {d : Nat} {P : Int → Mm → Prop} {M : Mm} {hh dy : Int} (hN : 0 ≤ M 40 6 ∧ M 40 6 ≤ 80) (hs : ∀ e, 0 < e → e < M 40 6 → M 44 (e - 1) ≤ M 44 e) (h : P (ins (M 41) (M 42) (M 43) (M 44) (fun _ => true) hh dy (M 40 6).toNat) M) : EE (d + 1) 102 [vR 40, vI hh, vI dy] M (rI P) :=
  sg_102 (lp_102 hN hs h (M 40 6).toNat 0 (by omega))
theorem lp_105 {d : Nat} {P : Int → Mm → Prop} {M : Mm} {hh dy : Int} (hN : 0 ≤ M 40 6 ∧ M 40 6 ≤ 80) (hw : ∀ e, 0 ≤ e → e < M 40 6 → 0 ≤ M 41 e ∧ M 41 e < 48) (hs : ∀ e, 0 < e → e < M 40 6 → M 44 (e - 1) ≤ M 44 e) (h : P (ins (M 41) (M 42) (M 43) (M 44) (fun c => decide (M 3 c < 5)) hh dy (M 40 6).toNat) M) : ∀ (n i : Nat), (n : Int) = M 40 6 - i → H_105_6 d P hh dy (ins (M 41) (M 42) (M 43) (M 44) (fun c => decide (M 3 c < 5)) hh dy i) i M
  | 0, i, hn => by
    refine sg_105_6 ⟨fun _ => ?_, fun q => by omega⟩
    rw [show i = (M 40 6).toNat by omega]
    exact h
  | n + 1, i, hn => by
    have ih := lp_105 (d := d) hN hw hs h n (i + 1) (by omega)
    have hb := ins_b (who := M 41) (frm := M 42) (into := M 43) (day := M 44) (q := fun c => decide (M 3 c < 5)) (h := hh) (d := dy) i
    rw [show ((i + 1 : Nat) : Int) = (i : Int) + 1 by omega, ins_s] at ih
    refine sg_105_6 ⟨fun q => by omega, fun q => ⟨by omega, fun q2 => ?_, fun q2 => ⟨by omega, hw i (by omega) q, fun q5 => ⟨by unfold inI; omega, ?_⟩, fun q5 => ⟨by omega, fun q3 => ?_, fun q3 => ?_⟩⟩⟩⟩
    · have e := ins_stop (who := M 41) (frm := M 42) (into := M 43) (q := fun c => decide (M 3 c < 5)) (h := hh) hs q2 (n + 1) (by omega)
      rw [← e, show i + (n + 1) = (M 40 6).toNat by omega]
      exact h
    · rw [if_neg (fun z => by have := of_decide_eq_true z.2; omega), Int.add_zero] at ih
      exact ih
    · rw [if_pos ⟨q2, decide_eq_true q5⟩, if_neg q3] at ih
      refine sg_105_60 ⟨by omega, fun q4 => ⟨by unfold inI; omega, by unfold inI; omega, by unfold inI; omega, ?_⟩, fun q4 => ⟨by unfold inI; omega, by unfold inI; omega, by unfold inI; omega, ?_⟩⟩
      · rw [if_neg q4] at ih; exact ih
      · rw [if_pos q4] at ih; exact ih
    · rw [if_pos ⟨q2, decide_eq_true q5⟩, if_pos q3] at ih
      refine sg_105_60 ⟨by omega, fun q4 => ⟨by unfold inI; omega, by unfold inI; omega, by unfold inI; omega, ?_⟩, fun q4 => ⟨by unfold inI; omega, by unfold inI; omega, by unfold inI; omega, ?_⟩⟩
      · rw [if_neg q4] at ih; exact ih
      · rw [if_pos q4] at ih; exact ih
theorem c_105 {d : Nat} {P : Int → Mm → Prop} {M : Mm} {hh dy : Int} (hN : 0 ≤ M 40 6 ∧ M 40 6 ≤ 80) (hw : ∀ e, 0 ≤ e → e < M 40 6 → 0 ≤ M 41 e ∧ M 41 e < 48) (hs : ∀ e, 0 < e → e < M 40 6 → M 44 (e - 1) ≤ M 44 e) (h : P (ins (M 41) (M 42) (M 43) (M 44) (fun c => decide (M 3 c < 5)) hh dy (M 40 6).toNat) M) : EE (d + 1) 105 [vR 40, vR 1, vI hh, vI dy] M (rI P) :=
  sg_105 (lp_105 hN hw hs h (M 40 6).toNat 0 (by omega))
/-- the two ways of counting agree -/
theorem ins_cn {who frm into day : Int → Int} {n hn N : Int} (E : EV who frm into day n hn N) {q : Int → Bool} {h d : Int} (hh : ¬ h = -9) : ∀ k : Nat, (k : Int) ≤ N → ins who frm into day q h d k = cn (fun c => decide (whr who into day c d k = h) && q c) n.toNat
  | 0, _ => by
    rw [cn_none]
    · rfl
    · intro c _ _
      have e : decide (whr who into day c d 0 = h) = false := decide_eq_false (fun z => hh z.symm)
      show (decide (whr who into day c d 0 = h) && q c) = false
      rw [e]; rfl
  | k + 1, hk => by
    obtain ⟨e1, e2, e3, e4⟩ := E
    have ih := ins_cn ⟨e1, e2, e3, e4⟩ (q := q) (h := h) (d := d) hh k (by omega)
    obtain ⟨w, i2, dd, fr, ne⟩ := e3 k (by omega) (by omega)
    rw [ins_s, ih]
    by_cases hd : day k ≤ d
    · have hfr : frm k = whr who into day (who k) d k := by
        rw [fr, show ((k : Int)).toNat = k by omega]
        symm
        apply whr_all
        intro e z0 z1
        have := day_mono e4 (i := e) (j := k) z0 (by omega) (by omega)
        have := (e3 e z0 (by omega)).2.2.1
        omega
      rw [cn_upd (p := fun c => decide (whr who into day c d k = h) && q c) (q := fun c => decide (whr who into day c d (k + 1) = h) && q c) (w := who k) w.1 (by omega) (fun c _ _ hc => by
        show (decide (whr who into day c d (k + 1) = h) && q c) = (decide (whr who into day c d k = h) && q c)
        rw [whr_s, if_neg (fun z => hc z.1.symm)])]
      have ew : whr who into day (who k) d (k + 1) = into k := by rw [whr_s, if_pos ⟨rfl, hd⟩]
      show _ = _ + (if (decide (whr who into day (who k) d (k + 1) = h) && q (who k)) = true then 1 else 0) - (if (decide (whr who into day (who k) d k = h) && q (who k)) = true then 1 else 0)
      rw [ew, ← hfr]
      by_cases hq : q (who k) = true
      · rw [if_pos ⟨hd, hq⟩, hq, Bool.and_true, Bool.and_true]
        simp only [decide_eq_true_eq]
        omega
      · have hq2 : q (who k) = false := by simpa using hq
        rw [if_neg (fun z => hq z.2), hq2, Bool.and_false, Bool.and_false]
        simp
    · rw [if_neg (fun z => hd z.1), Int.add_zero]
      apply cn_congr
      intro c _ _
      show (decide (whr who into day c d k = h) && q c) = (decide (whr who into day c d (k + 1) = h) && q c)
      rw [whr_s, if_neg (fun z => hd z.2)]
theorem lp_169 {d : Nat} {P : Int → Mm → Prop} {M : Mm} {hh dy : Int} (hN : 0 ≤ M 76 28 ∧ M 76 28 ≤ 80) (hn : 0 ≤ M 76 2 ∧ M 76 2 ≤ 48) (h : P (cn (fun c => decide (whr (M 95) (M 96) (M 97) c dy (M 76 28).toNat = hh)) (M 76 2).toNat) M) : ∀ (n i : Nat), (n : Int) = M 76 2 - i → H_169_5 (d + 1) P hh dy (cn (fun c => decide (whr (M 95) (M 96) (M 97) c dy (M 76 28).toNat = hh)) i) i M
  | 0, i, hi => by
    refine sg_169_5 ⟨fun _ => ?_, fun q => by omega⟩
    rw [show i = (M 76 2).toNat by omega]
    exact h
  | n + 1, i, hi => by
    have ih := lp_169 (d := d) hN hn h n (i + 1) (by omega)
    have hb := cn_b (p := fun c => decide (whr (M 95) (M 96) (M 97) c dy (M 76 28).toNat = hh)) i
    have es : cn (fun c => decide (whr (M 95) (M 96) (M 97) c dy (M 76 28).toNat = hh)) (i + 1) = cn (fun c => decide (whr (M 95) (M 96) (M 97) c dy (M 76 28).toNat = hh)) i + (if decide (whr (M 95) (M 96) (M 97) (i : Int) dy (M 76 28).toNat = hh) = true then 1 else 0) := rfl
    rw [show ((i + 1 : Nat) : Int) = (i : Int) + 1 by omega, es] at ih
    refine sg_169_5 ⟨fun q => by omega, fun q => c_167 hN ⟨fun q2 => ⟨by unfold inI; omega, by unfold inI; omega, ?_⟩, fun q2 => ⟨by unfold inI; omega, by unfold inI; omega, ?_⟩⟩⟩
    · rw [if_neg (by rw [decide_eq_true_eq]; exact q2)] at ih; exact ih
    · rw [if_pos (by rw [decide_eq_true_eq]; exact q2)] at ih; exact ih
theorem c_169 {d : Nat} {P : Int → Mm → Prop} {M : Mm} {hh dy : Int} (hN : 0 ≤ M 76 28 ∧ M 76 28 ≤ 80) (hn : 0 ≤ M 76 2 ∧ M 76 2 ≤ 48) (h : P (cn (fun c => decide (whr (M 95) (M 96) (M 97) c dy (M 76 28).toNat = hh)) (M 76 2).toNat) M) : EE (d + 2) 169 [vR 76, vI hh, vI dy] M (rI P) :=
  sg_169 (lp_169 hN hn h (M 76 2).toNat 0 (by omega))
section OP4
variable {d : Nat} {M : Mm} {k : Int}
theorem op_where {c dy : Int} (hI : Inv k M) : opI k (d + 5) 21 129 [vI c, vI dy] M := by
  have hI2 := hI.thr
  obtain ⟨hC, hN, hD, hP, hB, hH, hL, hO, hY, hE, hT⟩ := hI
  have hn := hC.1
  have hn2 := hC.2.1
  obtain ⟨x1, x2, ⟨x3, x4, x5, x6⟩, x7, x8, x9⟩ := hE
  by_cases hV : (0 ≤ c ∧ c < M 1 6) ∧ (0 ≤ dy ∧ dy ≤ 199)
  · refine sg_21 (c_35 hn (fun _ => t1 ?_) (fun q => absurd hV.1 q))
    refine c_43 (fun _ => t1' ?_) (fun q => absurd hV.2 q)
    refine c_104 x1 x8 ?_
    refine sg_129 (c_141 (by show 0 ≤ M 76 2 ∧ M 76 2 ≤ 48; omega) (fun _ => t1 ?_) (fun q => absurd (show 0 ≤ c ∧ c < M 76 2 by omega) q))
    refine c_163 (fun _ => t1 ?_) (fun q => absurd hV.2 q)
    refine c_167 (by show 0 ≤ M 76 28 ∧ M 76 28 ≤ 80; omega) ⟨?_, hI2⟩
    show whr (M 95) (M 96) (M 97) c dy (M 76 28).toNat = _
    rw [x2, x3, x5, x6]
  · have hm : EE (d + 5) 129 [vR 76, vI c, vI dy] M (rI fun r2 M2 => r2 = -1 ∧ Inv (k + 1) M2) := by
      refine sg_129 (c_141 (by show 0 ≤ M 76 2 ∧ M 76 2 ≤ 48; omega) (fun v1 => t1 ?_) (fun _ => t0 ⟨rfl, hI2⟩))
      exact c_163 (fun v2 => absurd ⟨by have v1 : 0 ≤ c ∧ c < M 76 2 := v1; omega, v2⟩ hV) (fun _ => t0 ⟨rfl, hI2⟩)
    refine sg_21 (c_35 hn (fun v1 => t1 ?_) (fun _ => t0 hm))
    exact c_43 (fun v2 => absurd ⟨v1, v2⟩ hV) (fun _ => t0' hm)
theorem op_free {c dy : Int} (hI : Inv k M) : opI k (d + 5) 23 131 [vI c, vI dy] M := by
  have hI2 := hI.thr
  obtain ⟨hC, hN, hD, hP, hB, hH, hL, hO, hY, hE, hT⟩ := hI
  have hn := hC.1
  have hn2 := hC.2.1
  have hhn := hH.1
  have hhn2 := hH.2.1
  have ev := hE.ev hC
  obtain ⟨x1, x2, ⟨x3, x4, x5, x6⟩, x7, x8, x9⟩ := hE
  by_cases hV : (0 ≤ c ∧ c < M 24 5) ∧ (0 ≤ dy ∧ dy ≤ 199)
  · have hbed := (hH.2.2.2 c hV.1.1 hV.1.2).2.2.1
    have hins := ins_cn ev (q := fun _ => true) (h := c) (d := dy) (by omega) (M 40 6).toNat (by omega)
    have hb := ins_b (who := M 41) (frm := M 42) (into := M 43) (day := M 44) (q := fun _ => true) (h := c) (d := dy) (M 40 6).toNat
    refine sg_23 (c_42 hhn (fun _ => t1 ?_) (fun q => absurd hV.1 q))
    refine c_43 (fun _ => t1' ⟨by omega, ?_⟩) (fun q => absurd hV.2 q)
    refine c_102 x1 x8 ⟨by unfold inI; omega, ?_⟩
    refine sg_131 (c_162 (by show 0 ≤ M 76 16 ∧ M 76 16 ≤ 24; omega) (fun _ => t1 ?_) (fun q => absurd (show 0 ≤ c ∧ c < M 76 16 by omega) q))
    refine c_163 (fun _ => t1 ⟨by unfold inI; omega, by unfold inI; omega, by omega, ?_⟩) (fun q => absurd hV.2 q)
    have e1 : cn (fun z => decide (whr (M 95) (M 96) (M 97) z dy (M 76 28).toNat = c)) (M 76 2).toNat = ins (M 41) (M 42) (M 43) (M 44) (fun _ => true) c dy (M 40 6).toNat := by
      rw [hins, x2, x3, x5, x6, hn2]
      apply cn_congr
      intro z _ _
      simp
    have e2 : M 89 (5 * c + 2) = M 27 c := ((hH.2.2.1 c).2.2.1).symm
    refine c_169 (by show 0 ≤ M 76 28 ∧ M 76 28 ≤ 80; omega) (by show 0 ≤ M 76 2 ∧ M 76 2 ≤ 48; omega) ⟨?_, ?_, hI2⟩
    · show inI (M 89 (5 * c + 2) - cn (fun z => decide (whr (M 95) (M 96) (M 97) z dy (M 76 28).toNat = c)) (M 76 2).toNat)
      rw [e1, e2]; unfold inI; omega
    · show M 89 (5 * c + 2) - cn (fun z => decide (whr (M 95) (M 96) (M 97) z dy (M 76 28).toNat = c)) (M 76 2).toNat = _
      rw [e1, e2]
  · have hm : EE (d + 5) 131 [vR 76, vI c, vI dy] M (rI fun r2 M2 => r2 = -1 ∧ Inv (k + 1) M2) := by
      refine sg_131 (c_162 (by show 0 ≤ M 76 16 ∧ M 76 16 ≤ 24; omega) (fun v1 => t1 ?_) (fun _ => t0 ⟨rfl, hI2⟩))
      exact c_163 (fun v2 => absurd ⟨by have v1 : 0 ≤ c ∧ c < M 76 16 := v1; omega, v2⟩ hV) (fun _ => t0 ⟨rfl, hI2⟩)
    refine sg_23 (c_42 hhn (fun v1 => t1 ?_) (fun _ => t0 hm))
    exact c_43 (fun v2 => absurd ⟨v1, v2⟩ hV) (fun _ => t0' hm)
end OP4
