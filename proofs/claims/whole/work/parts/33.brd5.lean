/-! boarded, mixed, load -/
def trR (s : BS) : Prop := ∀ c, s.2.2.1 c = -9 ∨ (0 ≤ s.2.2.1 c ∧ s.2.2.1 c < 6)
theorem trR_one {pk : Int → Bool} {t m : Int} {s : BS} (ht : 0 ≤ t ∧ t < 6) (h : trR s) : trR (bOne pk t m s) := by
  unfold bOne
  split
  · intro c
    show fset s.2.2.1 _ t c = -9 ∨ _
    by_cases e : c = s.1.getD (fI pk s.1) 0
    · right
      show 0 ≤ fset s.2.2.1 _ t c ∧ fset s.2.2.1 _ t c < 6
      rw [ps_eq e]; exact ht
    · show fset s.2.2.1 _ t c = -9 ∨ (0 ≤ fset s.2.2.1 _ t c ∧ fset s.2.2.1 _ t c < 6)
      rw [fs_ne e]; exact h c
  · exact h
theorem trR_it {pk : Int → Bool} {t m : Int} (ht : 0 ≤ t ∧ t < 6) : ∀ (k : Nat) {s : BS}, trR s → trR (iterN (bOne pk t m) k s)
  | 0, _, h => h
  | k + 1, _, h => trR_it ht k (trR_one ht h)
theorem trR_tr {g pa tn : Int → Int} {w m : Int} : ∀ (k t : Nat) {s : BS}, t + k ≤ 6 → trR s → trR (loopN (bTr g pa tn w m) t k s)
  | 0, _, _, _, h => h
  | k + 1, t, s, ht, h => by
    refine trR_tr k (t + 1) (by omega) ?_
    unfold bTr
    split
    · exact trR_it (by omega) _ h
    · exact h
theorem trR_mn {n : Int} {g pa tn : Int → Int} {w : Int} : ∀ (k m : Nat) {s : BS}, trR s → trR (loopN (bMn n g pa tn w) m k s)
  | 0, _, _, h => h
  | k + 1, m, s, h => trR_mn k (m + 1) (trR_tr 6 0 (by omega) (s := (loopN (bAr n g pa m) 0 8 s.1, s.2)) h)
theorem bT_r {n : Int} {g pa tn : Int → Int} {w : Int} (c : Int) : bT n g pa tn w c = -9 ∨ (0 ≤ bT n g pa tn w c ∧ bT n g pa tn w c < 6) :=
  trR_mn 301 0 (s := ([], (fun t => tn (5 * t + 2)), (fun _ => -9), (fun _ => -9))) (fun _ => Or.inl rfl) c
theorem c_98 {d : Nat} {P : Int → Mm → Prop} {M : Mm} {c : Int} {bt : Int → Int} (hP : IP M) (hc : 0 ≤ c ∧ c < 48) (hb : M 22 c = bt c) (hr : bt c = -9 ∨ (0 ≤ bt c ∧ bt c < 6)) (h : P (vil (M 84) bt c) M) : EE (d + 1) 98 [vR 10, vI c] M (rI P) := by
  unfold vil at h
  refine sg_98 ⟨hc, fun q => ⟨hc, by omega, ?_⟩, fun q => ?_⟩
  · rw [hb] at q ⊢
    rw [if_neg q] at h
    rw [hP.2.2.1.at (t := bt c) (j := 4) (by omega) (by omega) (by omega) (by omega)]
    exact h
  · rw [hb] at q
    rw [if_pos q] at h; exact h
theorem c_144 {d : Nat} {P : Int → Mm → Prop} {M : Mm} {c : Int} {bt : Int → Int} (hc : 0 ≤ c ∧ c < 48) (hb : M 85 c = bt c) (hr : bt c = -9 ∨ (0 ≤ bt c ∧ bt c < 6)) (h : P (vil (M 84) bt c) M) : EE (d + 1) 144 [vR 76, vI c] M (rI P) := by
  unfold vil at h
  refine sg_144 ?_
  rw [hb]
  refine ⟨hc, fun q => ⟨hc, by unfold inI; omega, by unfold inI; omega, by omega, ?_⟩, fun q => ?_⟩
  · rw [if_neg q] at h; exact h
  · rw [if_pos q] at h; exact h
theorem lp_100 {d : Nat} {P : Int → Mm → Prop} {M : Mm} {t p : Int} (hn : 0 ≤ M 1 6 ∧ M 1 6 ≤ 48) (h : P (cn (fun c => decide (M 22 c = t) && decide (M 5 c = p)) (M 1 6).toNat) M) : ∀ (k i : Nat), (k : Int) = M 1 6 - i → H_100_6 d P t p (cn (fun c => decide (M 22 c = t) && decide (M 5 c = p)) i) i M
  | 0, i, hk => by
    refine sg_100_6 ⟨fun _ => ?_, fun q => by omega⟩
    rw [show i = (M 1 6).toNat by omega]; exact h
  | k + 1, i, hk => by
    have ih := lp_100 (d := d) hn h k (i + 1) (by omega)
    have hb := cn_b (p := fun c => decide (M 22 c = t) && decide (M 5 c = p)) i
    rw [show ((i + 1 : Nat) : Int) = (i : Int) + 1 by omega, cn_s] at ih
    refine sg_100_6 ⟨fun q => by omega, fun q => ⟨by omega, fun q2 => ⟨by unfold inI; omega, ?_⟩, fun q2 => ⟨by omega, fun q3 => ⟨by unfold inI; omega, ?_⟩, fun q3 => ⟨by unfold inI; omega, by unfold inI; omega, ?_⟩⟩⟩⟩
    · rw [decide_eq_false q2, Bool.false_and, if_neg (by decide), Int.add_zero] at ih; exact ih
    · rw [decide_eq_true q2, decide_eq_false q3, if_neg (by decide), Int.add_zero] at ih; exact ih
    · rw [decide_eq_true q2, decide_eq_true q3, if_pos (by decide)] at ih; exact ih
theorem c_100 {d : Nat} {P : Int → Mm → Prop} {M : Mm} {t p : Int} (hn : 0 ≤ M 1 6 ∧ M 1 6 ≤ 48) (h : P (cn (fun c => decide (M 22 c = t) && decide (M 5 c = p)) (M 1 6).toNat) M) : EE (d + 1) 100 [vR 10, vR 1, vI t, vI p] M (rI P) :=
  sg_100 (lp_100 hn h (M 1 6).toNat 0 (by omega))
theorem cn_add {p q r : Int → Bool} : ∀ {n : Nat}, (∀ c, 0 ≤ c → c < (n : Int) → (if r c = true then (1 : Int) else 0) = (if p c = true then 1 else 0) + (if q c = true then 1 else 0)) → cn r n = cn p n + cn q n
  | 0, _ => rfl
  | n + 1, h => by
    rw [cn_s, cn_s, cn_s, cn_add (n := n) (fun c c0 c1 => h c c0 (by omega)), h n (by omega) (by omega)]
    omega
theorem lp_99 {d : Nat} {P : Int → Mm → Prop} {M : Mm} {t : Int} (hn : 0 ≤ M 1 6 ∧ M 1 6 ≤ 48) (hg : ∀ c, 0 ≤ c → c < M 1 6 → 0 ≤ M 5 c ∧ M 5 c ≤ 7) (h : P (cn (fun c => decide (M 22 c = t)) (M 1 6).toNat) M) : ∀ (k p : Nat), k + p = 8 → H_99_5 (d + 1) P t (cn (fun c => decide (M 22 c = t) && decide (M 5 c < (p : Int))) (M 1 6).toNat) p M
  | 0, p, hk => by
    refine sg_99_5 ⟨fun _ => ?_, fun q => by omega⟩
    have e : cn (fun c => decide (M 22 c = t) && decide (M 5 c < (p : Int))) (M 1 6).toNat = cn (fun c => decide (M 22 c = t)) (M 1 6).toNat := by
      apply cn_congr
      intro c c0 c1
      have := hg c c0 (by omega)
      rw [decide_eq_true (p := M 5 c < (p : Int)) (by omega), Bool.and_true]
    rw [e]; exact h
  | k + 1, p, hk => by
    have ih := lp_99 (d := d) hn hg h k (p + 1) (by omega)
    have hb := cn_b (p := fun c => decide (M 22 c = t) && decide (M 5 c < (p : Int))) (M 1 6).toNat
    have hb2 := cn_b (p := fun c => decide (M 22 c = t) && decide (M 5 c = (p : Int))) (M 1 6).toNat
    have e : cn (fun c => decide (M 22 c = t) && decide (M 5 c < ((p + 1 : Nat) : Int))) (M 1 6).toNat = cn (fun c => decide (M 22 c = t) && decide (M 5 c < (p : Int))) (M 1 6).toNat + cn (fun c => decide (M 22 c = t) && decide (M 5 c = (p : Int))) (M 1 6).toNat := by
      apply cn_add
      intro c c0 c1
      by_cases a : M 22 c = t
      · rw [decide_eq_true a, Bool.true_and, Bool.true_and, Bool.true_and]
        by_cases b : M 5 c < (p : Int)
        · rw [decide_eq_true b, decide_eq_true (p := M 5 c < ((p + 1 : Nat) : Int)) (by omega), decide_eq_false (p := M 5 c = (p : Int)) (by omega)]; rfl
        · by_cases b2 : M 5 c = (p : Int)
          · rw [decide_eq_false b, decide_eq_true (p := M 5 c < ((p + 1 : Nat) : Int)) (by omega), decide_eq_true b2]; rfl
          · rw [decide_eq_false b, decide_eq_false (p := M 5 c < ((p + 1 : Nat) : Int)) (by omega), decide_eq_false b2]; rfl
      · rw [decide_eq_false a, Bool.false_and, Bool.false_and, Bool.false_and]; rfl
    rw [e, show ((p + 1 : Nat) : Int) = (p : Int) + 1 by omega] at ih
    exact sg_99_5 ⟨fun q => by omega, fun _ => c_100 hn ⟨by unfold inI; omega, by unfold inI; omega, ih⟩⟩
theorem c_99 {d : Nat} {P : Int → Mm → Prop} {M : Mm} {t : Int} (hn : 0 ≤ M 1 6 ∧ M 1 6 ≤ 48) (hg : ∀ c, 0 ≤ c → c < M 1 6 → 0 ≤ M 5 c ∧ M 5 c ≤ 7) (h : P (cn (fun c => decide (M 22 c = t)) (M 1 6).toNat) M) : EE (d + 2) 99 [vR 10, vR 1, vI t] M (rI P) := by
  refine sg_99 ?_
  have key := lp_99 (d := d) hn hg h 8 0 rfl
  have e : cn (fun c => decide (M 22 c = t) && decide (M 5 c < ((0 : Nat) : Int))) (M 1 6).toNat = 0 := by
    apply cn_none
    intro c c0 c1
    have := hg c c0 (by omega)
    rw [decide_eq_false (p := M 5 c < ((0 : Nat) : Int)) (by omega), Bool.and_false]
  rw [e] at key
  exact key
theorem lp_101 {d : Nat} {P : Int → Mm → Prop} {M : Mm} (hn : 0 ≤ M 1 6 ∧ M 1 6 ≤ 48) (hg : ∀ c, 0 ≤ c → c < M 1 6 → 0 ≤ M 5 c ∧ M 5 c ≤ 7) (h : P (cn (fun c => !decide (M 22 c = -9) && !decide (M 22 c = M 11 (M 5 c))) (M 1 6).toNat) M) : ∀ (k i : Nat), (k : Int) = M 1 6 - i → H_101_4 d P (cn (fun c => !decide (M 22 c = -9) && !decide (M 22 c = M 11 (M 5 c))) i) i M
  | 0, i, hk => by
    refine sg_101_4 ⟨fun _ => ?_, fun q => by omega⟩
    rw [show i = (M 1 6).toNat by omega]; exact h
  | k + 1, i, hk => by
    have ih := lp_101 (d := d) hn hg h k (i + 1) (by omega)
    have hb := cn_b (p := fun c => !decide (M 22 c = -9) && !decide (M 22 c = M 11 (M 5 c))) i
    rw [show ((i + 1 : Nat) : Int) = (i : Int) + 1 by omega, cn_s] at ih
    refine sg_101_4 ⟨fun q => by omega, fun q => ⟨by omega, fun q2 => ⟨by unfold inI; omega, ?_⟩, fun q2 => ⟨by omega, by omega, by have := hg i (by omega) q; omega, fun q3 => ⟨by unfold inI; omega, ?_⟩, fun q3 => ⟨by unfold inI; omega, by unfold inI; omega, ?_⟩⟩⟩⟩
    · rw [decide_eq_true q2, if_neg (by simp), Int.add_zero] at ih; exact ih
    · rw [decide_eq_false q2, decide_eq_true q3, if_neg (by decide), Int.add_zero] at ih; exact ih
    · rw [decide_eq_false q2, decide_eq_false q3, if_pos (by decide)] at ih; exact ih
theorem lp_117 {d : Nat} {P : Int → Mm → Prop} {M : Mm} {t p : Int} (hn : 0 ≤ M 76 2 ∧ M 76 2 ≤ 48) (h : P (cn (fun c => decide (M 85 c = t) && decide (M 80 c = p)) (M 76 2).toNat) M) : ∀ (k i : Nat), (k : Int) = M 76 2 - i → H_117_41 d P t p (cn (fun c => decide (M 85 c = t) && decide (M 80 c = p)) i) i M
  | 0, i, hk => by
    refine sg_117_41 ⟨fun _ => ?_, fun q => by omega⟩
    rw [show i = (M 76 2).toNat by omega]; exact h
  | k + 1, i, hk => by
    have ih := lp_117 (d := d) hn h k (i + 1) (by omega)
    have hb := cn_b (p := fun c => decide (M 85 c = t) && decide (M 80 c = p)) i
    rw [show ((i + 1 : Nat) : Int) = (i : Int) + 1 by omega, cn_s] at ih
    refine sg_117_41 ⟨fun q => by omega, fun q => ⟨by omega, fun q2 => ⟨by unfold inI; omega, by unfold inI; omega, ?_⟩, fun q2 => ⟨by omega, fun q3 => ⟨by unfold inI; omega, by unfold inI; omega, ?_⟩, fun q3 => ⟨by unfold inI; omega, by unfold inI; omega, ?_⟩⟩⟩⟩
    · rw [decide_eq_false q2, Bool.false_and, if_neg (by decide)] at ih; exact ih
    · rw [decide_eq_true q2, decide_eq_false q3, if_neg (by decide)] at ih; exact ih
    · rw [decide_eq_true q2, decide_eq_true q3, if_pos (by decide)] at ih; exact ih
/-- what mixed counts -/
def mxB (bt g lab : Int → Int) (w c : Int) : Bool := if w = 0 then !decide (bt c = -9) && !decide (bt c = lab (g c)) else if w = 1 then decide (bt c = -9) else !decide (bt c = -9)
theorem lp_116 {d : Nat} {P : Int → Mm → Prop} {M : Mm} {w : Int} (hw : 0 ≤ w ∧ w ≤ 2) (hn : 0 ≤ M 76 2 ∧ M 76 2 ≤ 48) (hg : ∀ c, 0 ≤ c → c < M 76 2 → 0 ≤ M 80 c ∧ M 80 c ≤ 7) (h : P (cn (mxB (M 85) (M 80) (fun p => M 83 (2 * p)) w) (M 76 2).toNat) M) : ∀ (k i : Nat), (k : Int) = M 76 2 - i → H_116_24 (d + 1) P w (cn (mxB (M 85) (M 80) (fun p => M 83 (2 * p)) w) i) i M
  | 0, i, hk => by
    refine sg_116_24 ⟨fun _ => ?_, fun q => by omega⟩
    rw [show i = (M 76 2).toNat by omega]; exact h
  | k + 1, i, hk => by
    have ih := lp_116 (d := d) hw hn hg h k (i + 1) (by omega)
    have hb := cn_b (p := mxB (M 85) (M 80) (fun p => M 83 (2 * p)) w) i
    rw [show ((i + 1 : Nat) : Int) = (i : Int) + 1 by omega, cn_s] at ih
    have ez : mxB (M 85) (M 80) (fun p => M 83 (2 * p)) w i = if w = 0 then !decide (M 85 i = -9) && !decide (M 85 i = M 83 (2 * M 80 i)) else if w = 1 then decide (M 85 i = -9) else !decide (M 85 i = -9) := rfl
    rw [ez] at ih
    generalize cn (mxB (M 85) (M 80) (fun p => M 83 (2 * p)) w) i = v at ih hb ⊢
    have hI : inI ((i : Int) + 1) := by unfold inI; omega
    have hJ : inI (v + 0) := by unfold inI; omega
    have hJ1 : inI (v + 1) := by unfold inI; omega
    refine sg_116_24 ⟨fun q => by omega, fun q => ⟨by omega, fun q2 => sg_116_48 ⟨fun q3 => ⟨fun q4 => sg_116_94 ⟨fun y => absurd rfl y, fun _ => ⟨hJ1, hI, ?_⟩⟩, fun q4 => sg_116_94 ⟨fun _ => ⟨hJ, hI, ?_⟩, fun y => absurd y (by decide)⟩⟩, fun q3 => t0 ⟨hJ, hI, ?_⟩⟩, fun q2 => sg_116_48 ⟨fun q3 => ⟨fun q4 => sg_116_94 ⟨fun _ => ⟨hJ, hI, ?_⟩, fun y => absurd y (by decide)⟩, fun q4 => sg_116_94 ⟨fun y => absurd rfl y, fun _ => ⟨hJ1, hI, ?_⟩⟩⟩, fun q3 => t1 ⟨by omega, c_143 (by omega) (hg i (by omega) q) ⟨fun q4 => ⟨hJ, hI, ?_⟩, fun q4 => ⟨hJ1, hI, ?_⟩⟩⟩⟩⟩⟩
    · rw [if_neg q3, if_pos (show w = 1 by omega), decide_eq_true q2, if_pos rfl] at ih; exact ih
    · rw [if_neg q3, if_neg (show ¬ w = 1 by omega), decide_eq_true q2, if_neg (by decide)] at ih; exact ih
    · rw [if_pos q3, decide_eq_true q2, if_neg (by simp)] at ih; exact ih
    · rw [if_neg q3, if_pos (show w = 1 by omega), decide_eq_false q2, if_neg (by decide)] at ih; exact ih
    · rw [if_neg q3, if_neg (show ¬ w = 1 by omega), decide_eq_false q2, if_pos (by decide)] at ih; exact ih
    · rw [if_pos q3, decide_eq_true q4, if_neg (by simp)] at ih; exact ih
    · rw [if_pos q3, decide_eq_false q2, decide_eq_false q4, if_pos (by decide)] at ih; exact ih
section OP8
variable {d : Nat} {M : Mm} {k : Int}
theorem op_boarded {c w : Int} (hI : Inv k M) : opI k (d + 9) 7 115 [vI c, vI w] M := by
  have hI2 := hI.thr
  have hI0 := hI
  obtain ⟨hC, hN, hD, hP, hB, hH, hL, hO, hY, hE, hT⟩ := hI
  have hn := hC.1
  have hn2 := hC.2.1
  by_cases hV : (0 ≤ c ∧ c < M 1 6) ∧ (0 ≤ w ∧ w ≤ 2)
  · obtain ⟨v1, v2⟩ := hV
    have hc : 0 ≤ c ∧ c < 48 := by omega
    have hr := bT_r (n := M 1 6) (g := M 5) (pa := M 83) (tn := M 84) (w := M 10 8) c
    have model : ∀ r w2 a b c2 e, ag c2 (bT (M 1 6) (M 5) (M 83) (M 84) (M 10 8)) → ag e (bM (M 1 6) (M 5) (M 83) (M 84) (M 10 8)) → r = (if w = 0 then bT (M 1 6) (M 5) (M 83) (M 84) (M 10 8) c else if w = 1 then bM (M 1 6) (M 5) (M 83) (M 84) (M 10 8) c else vil (M 84) (bT (M 1 6) (M 5) (M 83) (M 84) (M 10 8)) c) → EE (d + 9) 115 [vR 76, vI c, vI w] (bW (mset M 10 9 0) w2 a b c2 e) (rI fun r2 M2 => r2 = r ∧ Inv (k + 1) M2) := by
      intro r w2 a b c2 e hc2 he hr2
      have hInv := (hI0.bw (w := w2) (a := a) (b := b) hc2 he).thr
      refine sg_115 (c_141 (by show 0 ≤ M 76 2 ∧ M 76 2 ≤ 48; omega) (fun _ => t1 ?_) (fun q => absurd (show 0 ≤ c ∧ c < M 76 2 by omega) q))
      refine c_140 (fun _ => t1' ?_) (fun q => absurd v2 q)
      refine c_142 (M := mset (bW (mset M 10 9 0) w2 a b c2 e) 76 0 0) hP hC (fun a1 b1 c1 e1 h85 h86 => ?_)
      have hInv2 : Inv (k + 1) (mW (mset (bW (mset M 10 9 0) w2 a b c2 e) 76 0 0) a1 b1 c1 e1) := hInv
      refine ⟨fun q => ⟨fun q2 => ?_, fun q2 => ⟨hc, ?_, hInv2⟩⟩, fun q => ⟨hc, ?_, hInv2⟩⟩
      · rw [if_neg q, if_neg q2] at hr2
        refine c_144 (M := mW (mset (bW (mset M 10 9 0) w2 a b c2 e) 76 0 0) a1 b1 c1 e1) (bt := bT (M 1 6) (M 5) (M 83) (M 84) (M 10 8)) hc (h85 c hc.1 hc.2) hr ⟨hr2.symm, hInv2⟩
      · rw [if_neg q, if_pos q2] at hr2
        rw [hr2]; exact h86 c hc.1 hc.2
      · rw [if_pos q] at hr2
        rw [hr2]; exact h85 c hc.1 hc.2
    refine sg_7 (c_35 hn (fun _ => t1 ?_) (fun q => absurd v1 q))
    refine c_32 (fun _ => t1' ?_) (fun q => absurd v2 q)
    refine c_94 hP hC hB (fun w2 a b c2 e hc2 he => ⟨fun q => ⟨fun q2 => ?_, fun q2 => ⟨hc, ?_⟩⟩, fun q => ⟨hc, ?_⟩⟩)
    · refine c_98 (M := bW (mset M 10 9 0) w2 a b c2 e) (bt := bT (M 1 6) (M 5) (M 83) (M 84) (M 10 8)) hP hc (hc2 c hc.1 hc.2) hr ?_
      exact model _ w2 a b c2 e hc2 he (by rw [if_neg q, if_neg q2]; rfl)
    · exact model _ w2 a b c2 e hc2 he (by rw [if_neg q, if_pos q2]; exact he c hc.1 hc.2)
    · exact model _ w2 a b c2 e hc2 he (by rw [if_pos q]; exact hc2 c hc.1 hc.2)
  · have hm : EE (d + 9) 115 [vR 76, vI c, vI w] M (rI fun r2 M2 => r2 = -1 ∧ Inv (k + 1) M2) := by
      refine sg_115 (c_141 (by show 0 ≤ M 76 2 ∧ M 76 2 ≤ 48; omega) (fun v1 => t1 ?_) (fun _ => t0 ⟨rfl, hI2⟩))
      exact c_140 (fun v2 => absurd ⟨by have v1 : 0 ≤ c ∧ c < M 76 2 := v1; omega, v2⟩ hV) (fun _ => t0' ⟨rfl, hI2⟩)
    refine sg_7 (c_35 hn (fun v1 => t1 ?_) (fun _ => t0 hm))
    exact c_32 (fun v2 => absurd ⟨v1, v2⟩ hV) (fun _ => t0' hm)
theorem op_load {t p : Int} (hI : Inv k M) : opI k (d + 9) 9 117 [vI t, vI p] M := by
  have hI2 := hI.thr
  have hI0 := hI
  obtain ⟨hC, hN, hD, hP, hB, hH, hL, hO, hY, hE, hT⟩ := hI
  have hn := hC.1
  have hn2 := hC.2.1
  by_cases hV : (t = -9 ∨ (0 ≤ t ∧ t ≤ 5)) ∧ (0 ≤ p ∧ p ≤ 7)
  · obtain ⟨v1, v2⟩ := hV
    have main : H_9_13 (d + 8) (fun r M1 => EE (d + 9) 117 [vR 76, vI t, vI p] M1 (rI fun r2 M2 => r2 = r ∧ Inv (k + 1) M2)) t p M := by
      refine sg_9_13 (c_33 (fun _ => t1' ?_) (fun q => absurd v2 q))
      refine c_94 hP hC hB (fun w2 a b c2 e hc2 he => c_100 (M := bW (mset M 10 9 0) w2 a b c2 e) hn ?_)
      have hInv := (hI0.bw (w := w2) (a := a) (b := b) hc2 he).thr
      have mm : H_117_20 (d + 8) (fun r2 M2 => r2 = cn (fun c => decide ((bW (mset M 10 9 0) w2 a b c2 e) 22 c = t) && decide ((bW (mset M 10 9 0) w2 a b c2 e) 5 c = p)) ((bW (mset M 10 9 0) w2 a b c2 e) 1 6).toNat ∧ Inv (k + 1) M2) t p (mset (bW (mset M 10 9 0) w2 a b c2 e) 76 0 0) := by
        refine sg_117_20 (c_140 (fun _ => t1' ?_) (fun q => absurd v2 q))
        refine c_142 (M := mset (bW (mset M 10 9 0) w2 a b c2 e) 76 0 0) hP hC (fun a1 b1 c1 e1 h85 h86 => ?_)
        refine lp_117 (M := mW (mset (bW (mset M 10 9 0) w2 a b c2 e) 76 0 0) a1 b1 c1 e1) (by show 0 ≤ M 76 2 ∧ M 76 2 ≤ 48; omega) ⟨?_, hInv⟩ (M 76 2).toNat 0 (by show ((M 76 2).toNat : Int) = M 76 2 - ((0 : Nat) : Int); omega)
        show cn (fun c => decide (a1 c = t) && decide (M 80 c = p)) (M 76 2).toNat = cn (fun c => decide (c2 c = t) && decide (M 5 c = p)) (M 1 6).toNat
        rw [hn2, hC.2.2.1.2.2.2]
        apply cn_congr
        intro x x0 x1
        have q1 : a1 x = bT (M 1 6) (M 5) (M 83) (M 84) (M 10 8) x := h85 x x0 (by omega)
        have q2 : c2 x = bT (M 1 6) (M 5) (M 83) (M 84) (M 10 8) x := hc2 x x0 (by omega)
        rw [q1, q2]
      exact sg_117 ⟨fun _ => mm, fun _ => c_140 (fun _ => t1 mm) (fun q => absurd q (by omega))⟩
    exact sg_9 ⟨fun _ => main, fun _ => c_36 (fun _ => t1 main) (fun q => absurd q (by omega))⟩
  · have m2 : ¬ (0 ≤ p ∧ p ≤ 7) → H_117_20 (d + 8) (fun r2 M2 => r2 = -1 ∧ Inv (k + 1) M2) t p (mset M 76 0 0) := fun z => sg_117_20 (c_140 (fun q => absurd q z) (fun _ => t0' ⟨rfl, hI2⟩))
    have hm : EE (d + 9) 117 [vR 76, vI t, vI p] M (rI fun r2 M2 => r2 = -1 ∧ Inv (k + 1) M2) := by
      refine sg_117 ⟨fun z => m2 (fun q => hV ⟨Or.inl z, q⟩), fun z => c_140 (fun z2 => t1 (m2 (fun q => hV ⟨Or.inr z2, q⟩))) (fun _ => t0 ⟨rfl, hI2⟩)⟩
    refine sg_9 ⟨fun z => sg_9_13 (c_33 (fun q => absurd ⟨Or.inl z, q⟩ hV) (fun _ => t0' hm)), fun z => c_36 (fun z2 => t1 (sg_9_13 (c_33 (fun q => absurd ⟨Or.inr z2, q⟩ hV) (fun _ => t0' hm)))) (fun _ => t0 hm)⟩
theorem op_mixed {w : Int} (hI : Inv k M) : opI k (d + 9) 8 116 [vI w] M := by
  have hI2 := hI.thr
  have hI0 := hI
  obtain ⟨hC, hN, hD, hP, hB, hH, hL, hO, hY, hE, hT⟩ := hI
  have hn := hC.1
  have hn2 := hC.2.1
  refine sg_8 (c_32 (fun v => t1' ?_) (fun v => t0' ?_))
  · refine c_94 hP hC hB (fun w2 a b c2 e hc2 he => ?_)
    have hInv := (hI0.bw (w := w2) (a := a) (b := b) hc2 he).thr
    have hg : ∀ c, 0 ≤ c → c < M 1 6 → 0 ≤ M 5 c ∧ M 5 c ≤ 7 := fun c c0 c1 => (hC.2.2.2 c c0 c1).2.2.2
    have model : ∀ r, r = cn (mxB (bT (M 1 6) (M 5) (M 83) (M 84) (M 10 8)) (M 5) (fun p => M 83 (2 * p)) w) (M 1 6).toNat → EE (d + 9) 116 [vR 76, vI w] (bW (mset M 10 9 0) w2 a b c2 e) (rI fun r2 M2 => r2 = r ∧ Inv (k + 1) M2) := by
      intro r hr
      refine sg_116 (c_140 (fun _ => t1' ?_) (fun q => absurd v q))
      refine c_142 (M := mset (bW (mset M 10 9 0) w2 a b c2 e) 76 0 0) hP hC (fun a1 b1 c1 e1 h85 h86 => ?_)
      refine lp_116 (M := mW (mset (bW (mset M 10 9 0) w2 a b c2 e) 76 0 0) a1 b1 c1 e1) v (by show 0 ≤ M 76 2 ∧ M 76 2 ≤ 48; omega) (fun c c0 c1 => by show 0 ≤ M 80 c ∧ M 80 c ≤ 7; rw [hC.2.2.1.2.2.2]; exact hg c c0 (by have c1 : c < M 76 2 := c1; omega)) ⟨?_, hInv⟩ (M 76 2).toNat 0 (by show ((M 76 2).toNat : Int) = M 76 2 - ((0 : Nat) : Int); omega)
      rw [hr]
      show cn (mxB a1 (M 80) (fun p => M 83 (2 * p)) w) (M 76 2).toNat = _
      rw [hn2, hC.2.2.1.2.2.2]
      apply cn_congr
      intro x x0 x1
      have q1 : a1 x = bT (M 1 6) (M 5) (M 83) (M 84) (M 10 8) x := h85 x x0 (by omega)
      unfold mxB
      rw [q1]
    have hbt : ∀ x, 0 ≤ x → x < ((M 1 6).toNat : Int) → c2 x = bT (M 1 6) (M 5) (M 83) (M 84) (M 10 8) x := fun x x0 x1 => hc2 x x0 (by omega)
    have e1 : cn (fun c => decide (c2 c = -9)) (M 1 6).toNat = cn (fun c => decide (bT (M 1 6) (M 5) (M 83) (M 84) (M 10 8) c = -9)) (M 1 6).toNat := by
      apply cn_congr
      intro x x0 x1
      rw [hbt x x0 x1]
    have hb := cn_b (p := fun c => decide (c2 c = -9)) (M 1 6).toNat
    refine c_99 (M := bW (mset M 10 9 0) w2 a b c2 e) hn hg ⟨fun q => ⟨fun q2 => ⟨?_, ?_⟩, fun q2 => ?_⟩, fun q => ?_⟩
    · show inI (M 1 6 - cn (fun c => decide (c2 c = -9)) (M 1 6).toNat)
      unfold inI; omega
    · apply model
      show M 1 6 - cn (fun c => decide (c2 c = -9)) (M 1 6).toNat = _
      have e2 : cn (fun _ => true) (M 1 6).toNat = cn (fun c => decide (bT (M 1 6) (M 5) (M 83) (M 84) (M 10 8) c = -9)) (M 1 6).toNat + cn (mxB (bT (M 1 6) (M 5) (M 83) (M 84) (M 10 8)) (M 5) (fun p => M 83 (2 * p)) w) (M 1 6).toNat := by
        apply cn_add
        intro x _ _
        unfold mxB
        rw [if_neg q, if_neg q2]
        by_cases z : bT (M 1 6) (M 5) (M 83) (M 84) (M 10 8) x = -9
        · rw [decide_eq_true z]; rfl
        · rw [decide_eq_false z]; rfl
      have e3 : ∀ m : Nat, cn (fun _ => true) m = (m : Int) := by
        intro m
        induction m with
        | zero => rfl
        | succ m ih => rw [cn_s, ih, if_pos rfl]; omega
      rw [e3] at e2
      rw [e1]
      omega
    · apply model
      show cn (fun c => decide (c2 c = -9)) (M 1 6).toNat = _
      rw [e1]
      apply cn_congr
      intro x _ _
      unfold mxB
      rw [if_neg q, if_pos q2]
    · refine sg_101 (lp_101 (M := bW (mset M 10 9 0) w2 a b c2 e) hn hg ?_ (M 1 6).toNat 0 (by show ((M 1 6).toNat : Int) = M 1 6 - ((0 : Nat) : Int); omega))
      apply model
      show cn (fun c => !decide (c2 c = -9) && !decide (c2 c = M 11 (M 5 c))) (M 1 6).toNat = _
      apply cn_congr
      intro x x0 x1
      unfold mxB
      rw [if_pos q, hbt x x0 x1, (hP.1 (M 5 x)).1]
  · exact sg_116 (c_140 (fun q => absurd q v) (fun _ => t0' ⟨rfl, hI2⟩))
end OP8
