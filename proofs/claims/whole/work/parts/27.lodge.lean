/-! lodge, fetch -/
theorem whr_cg {who into day who' into' day' : Int → Int} {c d : Int} : ∀ {k : Nat}, (∀ e, 0 ≤ e → e < (k : Int) → who' e = who e ∧ into' e = into e ∧ day' e = day e) → whr who' into' day' c d k = whr who into day c d k
  | 0, _ => rfl
  | k + 1, h => by
    obtain ⟨h1, h2, h3⟩ := h k (by omega) (by omega)
    rw [whr_s, whr_s, whr_cg (fun e e0 e1 => h e e0 (by omega)), h1, h2, h3]
/-- where a child is behind a new event -/
theorem whr_new {who into day : Int → Int} {N c t dy z d : Int} (hN : 0 ≤ N) (hd : dy ≤ d) : whr (fset who N c) (fset into N t) (fset day N dy) z d (N + 1).toNat = if z = c then t else whr who into day z d N.toNat := by
  rw [show (N + 1).toNat = N.toNat + 1 by omega, whr_s, show ((N.toNat : Nat) : Int) = N by omega, fs_eq, fs_eq, fs_eq]
  have e : whr (fset who N c) (fset into N t) (fset day N dy) z d N.toNat = whr who into day z d N.toNat := by
    apply whr_cg
    intro e e0 e1
    rw [fs_ne (by omega), fs_ne (by omega), fs_ne (by omega)]
    exact ⟨rfl, rfl, rfl⟩
  rw [e]
  by_cases h : z = c
  · rw [if_pos h, if_pos ⟨h.symm, hd⟩]
  · rw [if_neg h, if_neg (fun q => h q.1.symm)]
section OP7
variable {d : Nat} {M : Mm} {k : Int}
theorem c_50 {P : Int → Mm → Prop} {c : Int} (hc : 0 ≤ c ∧ c < 48) (hs : M 2 c = 0 ∨ M 2 c = 1) (h : P (srt (M 2) (M 3) c) M) : EE (d + 2) 50 [vR 1, vI c] M (rI P) := by
  unfold srt at h
  refine sg_50 ⟨hc, c_51 hc (fun q => t1 ⟨by unfold inI; omega, ?_⟩) (fun q => t0 ⟨by unfold inI; omega, ?_⟩)⟩
  · rw [if_pos (by omega)] at h; exact h
  · rw [if_neg (by omega)] at h; exact h
theorem c_149 {P : Int → Mm → Prop} {c : Int} (hc : 0 ≤ c ∧ c < 48) (hs : M 77 c = 0 ∨ M 77 c = 1) (h : P (srt (M 77) (M 78) c) M) : EE (d + 1) 149 [vR 76, vI c] M (rI P) := by
  unfold srt at h
  refine sg_149 ⟨hc, hc, fun q => ⟨by unfold inI; omega, ?_⟩, fun q => ⟨by unfold inI; omega, ?_⟩⟩
  · rw [if_neg (by omega)] at h; exact h
  · rw [if_pos (by omega)] at h; exact h
theorem c_69 {P : Int → Mm → Prop} {h s : Int} (hh : 0 ≤ h ∧ h < 24) (h1 : zand (zshr (M 28 h) s) 1 = 1 → P 1 M) (h0 : ¬ zand (zshr (M 28 h) s) 1 = 1 → P 0 M) : EE (d + 1) 69 [vR 24, vI h, vI s] M (rI P) :=
  sg_69 ⟨hh, h0, h1⟩
theorem c_148 {P : Int → Mm → Prop} {h c : Int} (hh : 0 ≤ h ∧ h < 24) (hc : 0 ≤ c ∧ c < 48) (hs : M 77 c = 0 ∨ M 77 c = 1) (h1 : tks (M 77) (M 78) (M 89) h c = true → P 1 M) (h0 : tks (M 77) (M 78) (M 89) h c = false → P 0 M) : EE (d + 2) 148 [vR 76, vI h, vI c] M (rI P) := by
  unfold tks at h1 h0
  exact sg_148 ⟨by unfold inI; omega, by unfold inI; omega, by omega, c_149 hc hs ⟨fun q => h0 (decide_eq_false q), fun q => h1 (decide_eq_true q)⟩⟩
theorem c_168 {P : Int → Mm → Prop} {dy : Int} (hN : 0 ≤ M 76 28 ∧ M 76 28 ≤ 80) (h1 : (0 < M 76 28 ∧ dy < M 97 (M 76 28 - 1)) → P 1 M) (h0 : ¬ (0 < M 76 28 ∧ dy < M 97 (M 76 28 - 1)) → P 0 M) : EE (d + 1) 168 [vR 76, vI dy] M (rI P) :=
  sg_168 ⟨fun q => h0 (by omega), fun q => ⟨by unfold inI; omega, by omega, fun q2 => h0 (by omega), fun q2 => h1 ⟨q, q2⟩⟩⟩
/-- a new event keeps the register's invariant -/
theorem IE_new {M M2 : Mm} {c t dy : Int} (hC : IC M) (hH : IH M) (hE : IE M) (hlt : M 40 6 < 80) (hc : 0 ≤ c ∧ c < M 1 6) (ht : t = -9 ∨ (0 ≤ t ∧ t < M 24 5)) (hne : ¬ M 45 c = t) (hdy : 0 ≤ dy ∧ dy ≤ 199) (hlate : M 40 7 ≤ dy)
    (hbed : 0 ≤ t → cn (fun z => decide (whr (M 41) (M 43) (M 44) z 199 (M 40 6).toNat = t)) (M 1 6).toNat < M 27 t)
    (e40 : M2 40 6 = M 40 6 + 1 ∧ M2 40 7 = dy) (e76 : M2 76 28 = M 76 28 + 1) (e41 : M2 41 = fset (M 41) (M 40 6) c) (e42 : M2 42 = fset (M 42) (M 40 6) (M 45 c)) (e43 : M2 43 = fset (M 43) (M 40 6) t) (e44 : M2 44 = fset (M 44) (M 40 6) dy) (e45 : M2 45 = fset (M 45) c t)
    (e95 : M2 95 = fset (M 95) (M 76 28) c) (e98 : M2 98 = fset (M 98) (M 76 28) (M 45 c)) (e96 : M2 96 = fset (M 96) (M 76 28) t) (e97 : M2 97 = fset (M 97) (M 76 28) dy) (e1 : M2 1 6 = M 1 6) (e24 : M2 24 5 = M 24 5) (e27 : M2 27 = M 27) : IE M2 := by
  obtain ⟨x1, x2, ⟨x3, x4, x5, x6⟩, x7, x8, x9, x10, x11⟩ := hE
  have hn := hC.1
  have hw : ∀ z d, dy ≤ d → whr (fset (M 41) (M 40 6) c) (fset (M 43) (M 40 6) t) (fset (M 44) (M 40 6) dy) z d (M 40 6 + 1).toNat = if z = c then t else whr (M 41) (M 43) (M 44) z d (M 40 6).toNat := fun z d hd => whr_new x1.1 hd
  have hnow := x9 c hc.1 (by omega)
  unfold IE
  rw [e40.1, e40.2, e76, e41, e42, e43, e44, e45, e95, e98, e96, e97, e1, e24, e27, x2, x3, x4, x5, x6]
  refine ⟨by omega, rfl, ⟨rfl, rfl, rfl, rfl⟩, fun e e0 e1 => ?_, fun e e0 e1 => ?_, fun z z0 z1 => ?_, ?_, fun h h0 h1 => ?_⟩
  · by_cases he : e = M 40 6
    · rw [ps_eq he, ps_eq he, ps_eq he, ps_eq he, he]
      refine ⟨hc, ht, hdy, ?_, hne⟩
      rw [hnow]
      symm
      apply whr_cg
      intro y y0 y1
      rw [fs_ne (by omega), fs_ne (by omega), fs_ne (by omega)]
      exact ⟨rfl, rfl, rfl⟩
    · rw [fs_ne he, fs_ne he, fs_ne he, fs_ne he]
      obtain ⟨y1, y2, y3, y4, y5⟩ := x7 e e0 (by omega)
      refine ⟨y1, y2, y3, ?_, y5⟩
      rw [y4]
      symm
      apply whr_cg
      intro y z0 z1
      rw [fs_ne (by omega), fs_ne (by omega), fs_ne (by omega)]
      exact ⟨rfl, rfl, rfl⟩
  · rw [fs_ne (by omega)]
    by_cases he : e = M 40 6
    · rw [ps_eq he, he]
      rw [if_neg (by omega)] at x10
      omega
    · rw [fs_ne he]
      exact x8 e e0 (by omega)
  · rw [hw z 199 hdy.2]
    by_cases hz : z = c
    · rw [ps_eq hz, if_pos hz]
    · rw [fs_ne hz, if_neg hz]
      exact x9 z z0 z1
  · rw [if_neg (by omega), ps_eq (by omega)]
  · have hu := cn_upd (p := fun z => decide (whr (M 41) (M 43) (M 44) z 199 (M 40 6).toNat = h)) (q := fun z => decide (whr (fset (M 41) (M 40 6) c) (fset (M 43) (M 40 6) t) (fset (M 44) (M 40 6) dy) z 199 (M 40 6 + 1).toNat = h)) (w := c) (n := (M 1 6).toNat) hc.1 (by omega) (fun z z0 z1 hz => by
      show decide (whr (fset (M 41) (M 40 6) c) (fset (M 43) (M 40 6) t) (fset (M 44) (M 40 6) dy) z 199 (M 40 6 + 1).toNat = h) = _
      rw [hw z 199 hdy.2, if_neg hz])
    rw [hu, hw c 199 hdy.2, if_pos rfl, ← hnow]
    have hx := x11 h h0 h1
    simp only [decide_eq_true_eq]
    by_cases h2 : t = h
    · rw [if_pos h2, if_neg (fun z => hne (z.trans h2.symm))]
      have := hbed (by omega)
      rw [h2] at this
      omega
    · rw [if_neg h2]
      split <;> omega
theorem m_128 {B : Mm} {Pq : Int → Mm → Prop} {c dy nw rr : Int} (hO : IO B) (hY : IY B) (hH : IH B) (hn : 0 ≤ B 76 2 ∧ B 76 2 ≤ 48) (v1 : 0 ≤ c ∧ c < B 76 2) (v2 : 0 ≤ dy ∧ dy ≤ 199) (hN2 : 0 ≤ B 76 28 ∧ B 76 28 ≤ 80) (ew : whr (B 95) (B 96) (B 97) c 199 (B 76 28).toNat = nw) (hl : ¬ (0 < B 76 28 ∧ dy < B 97 (B 76 28 - 1))) (q2 : ¬ nw = -9) (hh : 0 ≤ nw ∧ nw < B 24 5) (hrr : rlg (B 92) (rul (B 77) (B 78) (B 79) (B 89) (B 92) (B 94) 2 c nw dy (B 76 21).toNat) = rr)
    (hx : (¬ rr = -1 → ((¬ B 76 28 = 80 → EE (d + 8) 170 [vR 76, vI c, vI (-9), vI dy, vI nw] (mset B 76 0 0) (rV fun M6 => Pq (M6 76 28) M6)) ∧ (B 76 28 = 80 → Pq (-3) (mset B 76 0 0)))) ∧ (rr = -1 → Pq (-2) (mset B 76 0 0))) : EE (d + 9) 128 [vR 76, vI c, vI dy] B (rI Pq) := by
  refine sg_128 (c_141 hn (fun _ => t1 ?_) (fun q => absurd v1 q))
  refine c_163 (fun _ => t1' ?_) (fun q => absurd v2 q)
  refine c_167 hN2 (c_168 hN2 (fun z => absurd z hl) (fun _ => t0' ?_))
  have ew2 : whr ((mset B 76 0 0) 95) ((mset B 76 0 0) 96) ((mset B 76 0 0) 97) c 199 ((mset B 76 0 0) 76 28).toNat = nw := ew
  rw [ew2]
  refine ⟨fun z => absurd z q2, fun _ => ?_⟩
  refine c_164 (M := mset B 76 0 0) hO hY hH (by omega) hh v2 ?_
  have er : rlg ((mset B 76 0 0) 92) (rul ((mset B 76 0 0) 77) ((mset B 76 0 0) 78) ((mset B 76 0 0) 79) ((mset B 76 0 0) 89) ((mset B 76 0 0) 92) ((mset B 76 0 0) 94) 2 c nw dy ((mset B 76 0 0) 76 21).toNat) = rr := hrr
  rw [er]
  exact hx
theorem op_fetch {c dy : Int} (hI : Inv k M) : opI k (d + 9) 20 128 [vI c, vI dy] M := by
  have hI2 := hI.thr
  obtain ⟨hC, hN, hD, hP, hB, hH, hL, hO, hY, hE, hT⟩ := hI
  have hn := hC.1
  have hn2 := hC.2.1
  have hE2 := hE
  obtain ⟨x1, x2, ⟨x3, x4, x5, x6⟩, x7, x8, x9, x10, x11⟩ := hE2
  by_cases hV : (0 ≤ c ∧ c < M 1 6) ∧ (0 ≤ dy ∧ dy ≤ 199)
  · obtain ⟨v1, v2⟩ := hV
    have hkc := (hC.2.2.2 c v1.1 v1.2).2.2.1
    have hnow := x9 c v1.1 (by omega)
    have hN2 : 0 ≤ M 76 28 ∧ M 76 28 ≤ 80 := by omega
    have v1m : 0 ≤ c ∧ c < M 76 2 := by omega
    have hn3 : 0 ≤ M 76 2 ∧ M 76 2 ≤ 48 := by omega
    have ew : whr (M 95) (M 96) (M 97) c 199 (M 76 28).toNat = M 45 c := by rw [x2, x3, x5, x6, hnow]
    have el : (0 < M 76 28 ∧ dy < M 97 (M 76 28 - 1)) ↔ dy < M 40 7 := by
      rw [x10, x2, x6]
      by_cases z : M 40 6 = 0
      · rw [if_pos z]; omega
      · rw [if_neg z]; omega
    have hin : M 45 c = -9 ∨ (0 ≤ M 45 c ∧ M 45 c < M 24 5) := by
      rw [hnow]
      rcases whr_in (who := M 41) (into := M 43) (day := M 44) (c := c) (d := 199) (k := (M 40 6).toNat) with h2 | ⟨e2, h3, h4, h5, h6⟩
      · exact Or.inl h2
      · rw [h6]; exact (x7 e2 h3 (by omega)).2.1
    refine sg_20 (c_35 hn (fun _ => t1 ?_) (fun q => absurd v1 q))
    refine c_43 (fun _ => t1' ⟨by omega, fun q => ?_, fun q => ⟨fun q2 => ?_, fun q2 => ?_⟩⟩) (fun q => absurd v2 q)
    · refine sg_128 (c_141 hn3 (fun _ => t1 ?_) (fun q => absurd v1m q))
      refine c_163 (fun _ => t1' ?_) (fun q => absurd v2 q)
      exact c_167 hN2 (c_168 hN2 (fun _ => t1' ⟨rfl, hI2⟩) (fun z => absurd (el.mpr q) z))
    · refine sg_128 (c_141 hn3 (fun _ => t1 ?_) (fun q => absurd v1m q))
      refine c_163 (fun _ => t1' ?_) (fun q => absurd v2 q)
      refine c_167 hN2 (c_168 hN2 (fun z => absurd (el.mp z) (by omega)) (fun _ => t0' ⟨fun _ => ⟨rfl, hI2⟩, fun z => ?_⟩))
      exact absurd (show whr (M 95) (M 96) (M 97) c 199 (M 76 28).toNat = -9 by rw [ew]; exact q2) z
    · have hh : 0 ≤ M 45 c ∧ M 45 c < M 24 5 := by omega
      have nl : ¬ (0 < M 76 28 ∧ dy < M 97 (M 76 28 - 1)) := fun z => absurd (el.mp z) (by omega)
      refine c_44 hO hY hH (by omega) hh hkc.1 v2 ?_
      generalize hrr : rlg (M 92) (rul (M 2) (M 3) (M 4) (M 89) (M 92) (M 94) 2 c (M 45 c) dy (M 58 8).toNat) = rr
      have hrm : rlg (M 92) (rul (M 77) (M 78) (M 79) (M 89) (M 92) (M 94) 2 c (M 45 c) dy (M 76 21).toNat) = rr := by
        rw [← hrr, hC.2.2.1.1, hC.2.2.1.2.1, hC.2.2.1.2.2.1, hO.2.1]
      refine ⟨fun q3 => ?_, fun q3 => ?_⟩
      · refine sg_103 ⟨fun q4 => ?_, fun q4 => ?_⟩
        · have b40 : 0 ≤ M 40 6 ∧ M 40 6 < 80 := ⟨x1.1, q4⟩
          have b48 : 0 ≤ c ∧ c < 48 := by omega
          refine ⟨b40, b48, b40, b40, b40, b48, by show inI (M 40 6 + 1); unfold inI; omega, ?_⟩
          refine m_128 (nw := M 45 c) (rr := rr) hO hY hH hn3 v1m v2 hN2 ew nl q2 hh hrm ⟨fun _ => ⟨fun q5 => ?_, fun q5 => ?_⟩, fun z => absurd z q3⟩
          · have b76 : 0 ≤ M 76 28 ∧ M 76 28 < 80 := by omega
            refine sg_170 ⟨b76, b76, b76, b76, by show inI (M 76 28 + 1); unfold inI; omega, ?_⟩
            refine ⟨by show M 76 28 + 1 = M 40 6 + 1; omega, hC, hN, hD, hP, hB, hH, hL, hO, hY, ?_, hT.up⟩
            exact IE_new (M := M) hC hH hE q4 v1 (Or.inl rfl) (fun z => q2 z) v2 q (fun z => by omega) ⟨rfl, rfl⟩ rfl rfl rfl rfl rfl rfl rfl rfl rfl rfl rfl rfl rfl
          · have q5 : M 76 28 = 80 := q5
            omega
        · exact m_128 (nw := M 45 c) (rr := rr) hO hY hH hn3 v1m v2 hN2 ew nl q2 hh hrm ⟨fun _ => ⟨fun z => absurd (show M 76 28 = 80 by omega) z, fun _ => ⟨rfl, hI2⟩⟩, fun z => absurd z q3⟩
      · exact m_128 (nw := M 45 c) (rr := rr) hO hY hH hn3 v1m v2 hN2 ew nl q2 hh hrm ⟨fun z => absurd q3 z, fun _ => ⟨rfl, hI2⟩⟩
  · have hm : EE (d + 9) 128 [vR 76, vI c, vI dy] M (rI fun r2 M2 => r2 = -1 ∧ Inv (k + 1) M2) := by
      refine sg_128 (c_141 (by show 0 ≤ M 76 2 ∧ M 76 2 ≤ 48; omega) (fun v1 => t1 ?_) (fun _ => t0 ⟨rfl, hI2⟩))
      exact c_163 (fun v2 => absurd ⟨by have v1 : 0 ≤ c ∧ c < M 76 2 := v1; omega, v2⟩ hV) (fun _ => t0' ⟨rfl, hI2⟩)
    refine sg_20 (c_35 hn (fun v1 => t1 ?_) (fun _ => t0 hm))
    exact c_43 (fun v2 => absurd ⟨v1, v2⟩ hV) (fun _ => t0' hm)
theorem m_127 {B : Mm} {Pq : Int → Mm → Prop} {c h dy nw rr : Int} (hC : IC B) (hO : IO B) (hY : IY B) (hH : IH B) (hN2 : 0 ≤ B 76 28 ∧ B 76 28 ≤ 80) (v1 : 0 ≤ c ∧ c < B 76 2) (v3 : 0 ≤ h ∧ h < B 76 16) (v2 : 0 ≤ dy ∧ dy ≤ 199) (ew : whr (B 95) (B 96) (B 97) c 199 (B 76 28).toNat = nw) (q2 : ¬ nw = h) (hrr : rlg (B 92) (rul (B 77) (B 78) (B 79) (B 89) (B 92) (B 94) (if nw = -9 then 0 else 1) c h dy (B 76 21).toNat) = rr)
    (hs : (0 < B 76 28 ∧ dy < B 97 (B 76 28 - 1)) ∨ cn (fun z => decide (whr (B 95) (B 96) (B 97) z 199 (B 76 28).toNat = h)) (B 76 2).toNat = B 89 (5 * h + 2) ∨ tks (B 77) (B 78) (B 89) h c = false ∨ rr = -1 → Pq (-2) (mset B 76 0 0))
    (hg : ¬ ((0 < B 76 28 ∧ dy < B 97 (B 76 28 - 1)) ∨ cn (fun z => decide (whr (B 95) (B 96) (B 97) z 199 (B 76 28).toNat = h)) (B 76 2).toNat = B 89 (5 * h + 2) ∨ tks (B 77) (B 78) (B 89) h c = false ∨ rr = -1) → (¬ B 76 28 = 80 → EE (d + 8) 170 [vR 76, vI c, vI h, vI dy, vI nw] (mset B 76 0 0) (rV fun M6 => Pq (M6 76 28) M6)) ∧ (B 76 28 = 80 → Pq (-3) (mset B 76 0 0))) : EE (d + 9) 127 [vR 76, vI c, vI h, vI dy] B (rI Pq) := by
  have hn := hC.1
  have hn2 := hC.2.1
  have hhn := hH.1
  have hhn2 := hH.2.1
  have hs0 : B 77 c = 0 ∨ B 77 c = 1 := by rw [hC.2.2.1.1]; exact (hC.2.2.2 c v1.1 (by omega)).1
  refine sg_127 (c_141 (by show 0 ≤ B 76 2 ∧ B 76 2 ≤ 48; omega) (fun _ => t1 ?_) (fun q => absurd v1 q))
  refine c_162 (by show 0 ≤ B 76 16 ∧ B 76 16 ≤ 24; omega) (fun _ => t1 ?_) (fun q => absurd v3 q)
  refine c_163 (fun _ => t1 ?_) (fun q => absurd v2 q)
  have ew2 : whr ((mset B 76 0 0) 95) ((mset B 76 0 0) 96) ((mset B 76 0 0) 97) c 199 ((mset B 76 0 0) 76 28).toNat = nw := ew
  refine c_167 hN2 ?_
  rw [ew2]
  refine ⟨fun _ => c_167 hN2 ?_, fun z => absurd z q2⟩
  rw [ew2]
  refine c_168 hN2 (fun z => t1' (hs (Or.inl z))) (fun z1 => t0' ?_)
  refine c_169 hN2 (by show 0 ≤ B 76 2 ∧ B 76 2 ≤ 48; omega) ⟨by unfold inI; omega, by unfold inI; omega, by omega, fun z => hs (Or.inr (Or.inl z)), fun z2 => ?_⟩
  refine c_148 (M := mset B 76 0 0) (by omega) (by omega) hs0 (fun z3 => t1 ?_) (fun z => t0 (hs (Or.inr (Or.inr (Or.inl z)))))
  have key : ∀ w, w = (if nw = -9 then (0 : Int) else 1) → H_127_103 (d + 8) Pq c h dy nw w (mset B 76 0 0) := by
    intro w hw
    subst hw
    refine sg_127_103 (c_164 (M := mset B 76 0 0) hO hY hH (by omega) (by show 0 ≤ h ∧ h < B 24 5; omega) v2 ?_)
    have er : rlg ((mset B 76 0 0) 92) (rul ((mset B 76 0 0) 77) ((mset B 76 0 0) 78) ((mset B 76 0 0) 79) ((mset B 76 0 0) 89) ((mset B 76 0 0) 92) ((mset B 76 0 0) 94) (if nw = -9 then 0 else 1) c h dy ((mset B 76 0 0) 76 21).toNat) = rr := hrr
    rw [er]
    refine ⟨fun z4 => hg (fun z => ?_), fun z => hs (Or.inr (Or.inr (Or.inr z)))⟩
    rcases z with z | z | z | z
    · exact z1 z
    · exact z2 z
    · have z3 : tks (B 77) (B 78) (B 89) h c = true := z3
      rw [z3] at z; cases z
    · exact z4 z
  exact ⟨fun z => key 1 (if_neg z).symm, fun z => key 0 (if_pos z).symm⟩
theorem op_lodge {c h dy : Int} (hI : Inv k M) : opI k (d + 9) 19 127 [vI c, vI h, vI dy] M := by
  have hI2 := hI.thr
  obtain ⟨hC, hN, hD, hP, hB, hH, hL, hO, hY, hE, hT⟩ := hI
  have hn := hC.1
  have hn2 := hC.2.1
  have hhn := hH.1
  have hhn2 := hH.2.1
  have ev := hE.ev hC
  have hE2 := hE
  obtain ⟨x1, x2, ⟨x3, x4, x5, x6⟩, x7, x8, x9, x10, x11⟩ := hE2
  by_cases hV : (0 ≤ c ∧ c < M 1 6) ∧ (0 ≤ h ∧ h < M 24 5) ∧ (0 ≤ dy ∧ dy ≤ 199)
  · obtain ⟨v1, v3, v2⟩ := hV
    have hkc := hC.2.2.2 c v1.1 v1.2
    have hnow := x9 c v1.1 (by omega)
    have hN2 : 0 ≤ M 76 28 ∧ M 76 28 ≤ 80 := by omega
    have v1m : 0 ≤ c ∧ c < M 76 2 := by omega
    have v3m : 0 ≤ h ∧ h < M 76 16 := by omega
    have hn3 : 0 ≤ M 76 2 ∧ M 76 2 ≤ 48 := by omega
    have ew : whr (M 95) (M 96) (M 97) c 199 (M 76 28).toNat = M 45 c := by rw [x2, x3, x5, x6, hnow]
    have el : (0 < M 76 28 ∧ dy < M 97 (M 76 28 - 1)) ↔ dy < M 40 7 := by
      rw [x10, x2, x6]
      by_cases z : M 40 6 = 0
      · rw [if_pos z]; omega
      · rw [if_neg z]; omega
    refine sg_19 (c_35 hn (fun _ => t1 ?_) (fun q => absurd v1 q))
    refine c_42 hhn (fun _ => t1 ?_) (fun q => absurd v3 q)
    refine c_43 (fun _ => t1 ⟨by omega, fun q => ⟨by omega, ?_⟩, fun q => ?_⟩) (fun q => absurd v2 q)
    · generalize hw : (if M 45 c = -9 then (0 : Int) else 1) = w
      generalize hrr : rlg (M 92) (rul (M 2) (M 3) (M 4) (M 89) (M 92) (M 94) w c h dy (M 58 8).toNat) = rr
      have hrm : rlg (M 92) (rul (M 77) (M 78) (M 79) (M 89) (M 92) (M 94) (if M 45 c = -9 then 0 else 1) c h dy (M 76 21).toNat) = rr := by
        rw [← hrr, hw, hC.2.2.1.1, hC.2.2.1.2.1, hC.2.2.1.2.2.1, hO.2.1]
      have hins := ins_cn ev (q := fun _ => true) (h := h) (d := 199) (by omega) (M 40 6).toNat (by omega)
      have ecn : cn (fun z => decide (whr (M 95) (M 96) (M 97) z 199 (M 76 28).toNat = h)) (M 76 2).toNat = ins (M 41) (M 42) (M 43) (M 44) (fun _ => true) h 199 (M 40 6).toNat := by
        rw [hins, x2, x3, x5, x6, hn2]
        apply cn_congr
        intro z _ _
        simp
      have ecn2 : cn (fun z => decide (whr (M 41) (M 43) (M 44) z 199 (M 40 6).toNat = h)) (M 1 6).toNat = ins (M 41) (M 42) (M 43) (M 44) (fun _ => true) h 199 (M 40 6).toNat := by
        rw [hins]
        apply cn_congr
        intro z _ _
        simp
      have ebed := x11 h v3.1 v3.2
      obtain ⟨f1, f2, f3, f4, f5⟩ := hH.2.2.1 h
      have etk : tks (M 77) (M 78) (M 89) h c = decide (zand (zshr (M 28 h) (srt (M 2) (M 3) c)) 1 = 1) := by
        unfold tks
        rw [hC.2.2.1.1, hC.2.2.1.2.1, f4]
      have state : ((0 < M 76 28 ∧ dy < M 97 (M 76 28 - 1)) ∨ cn (fun z => decide (whr (M 95) (M 96) (M 97) z 199 (M 76 28).toNat = h)) (M 76 2).toNat = M 89 (5 * h + 2) ∨ tks (M 77) (M 78) (M 89) h c = false ∨ rr = -1) → EE (d + 9) 127 [vR 76, vI c, vI h, vI dy] M (rI fun r2 M2 => r2 = -2 ∧ Inv (k + 1) M2) := fun z =>
        m_127 (nw := M 45 c) (rr := rr) hC hO hY hH hN2 v1m v3m v2 ew q hrm (fun _ => ⟨rfl, hI2⟩) (fun y => absurd z y)
      have main : H_19_57 (d + 8) (fun r M1 => EE (d + 9) 127 [vR 76, vI c, vI h, vI dy] M1 (rI fun r2 M2 => r2 = r ∧ Inv (k + 1) M2)) c h dy w M := by
        refine sg_19_57 ⟨fun z => state (Or.inl (el.mpr z)), fun z1 => c_102 x1 x8 ⟨by omega, fun z => state (Or.inr (Or.inl (by rw [ecn, ← f3]; omega))), fun z2 => ?_⟩⟩
        refine c_50 (by omega) hkc.1 ?_
        refine c_69 (by omega) (fun z3 => t1 ?_) (fun z => t0 (state (Or.inr (Or.inr (Or.inl (by rw [etk]; exact decide_eq_false z))))))
        refine c_44 hO hY hH (by omega) v3 hkc.2.2.1.1 v2 ?_
        rw [hrr]
        refine ⟨fun z4 => ?_, fun z => state (Or.inr (Or.inr (Or.inr z)))⟩
        have good : ¬ ((0 < M 76 28 ∧ dy < M 97 (M 76 28 - 1)) ∨ cn (fun z => decide (whr (M 95) (M 96) (M 97) z 199 (M 76 28).toNat = h)) (M 76 2).toNat = M 89 (5 * h + 2) ∨ tks (M 77) (M 78) (M 89) h c = false ∨ rr = -1) := by
          rintro (z | z | z | z)
          · have := el.mp z; omega
          · rw [ecn, ← f3] at z; omega
          · rw [etk, decide_eq_true z3] at z; cases z
          · exact z4 z
        refine sg_103 ⟨fun q4 => ?_, fun q4 => ?_⟩
        · have b40 : 0 ≤ M 40 6 ∧ M 40 6 < 80 := ⟨x1.1, q4⟩
          have b48 : 0 ≤ c ∧ c < 48 := by omega
          refine ⟨b40, b48, b40, b40, b40, b48, by show inI (M 40 6 + 1); unfold inI; omega, ?_⟩
          refine m_127 (nw := M 45 c) (rr := rr) hC hO hY hH hN2 v1m v3m v2 ew q hrm (fun z => absurd z good) (fun _ => ⟨fun q5 => ?_, fun q5 => ?_⟩)
          · have q5 : ¬ M 76 28 = 80 := q5
            have b76 : 0 ≤ M 76 28 ∧ M 76 28 < 80 := by omega
            refine sg_170 ⟨b76, b76, b76, b76, by show inI (M 76 28 + 1); unfold inI; omega, ?_⟩
            refine ⟨by show M 76 28 + 1 = M 40 6 + 1; omega, hC, hN, hD, hP, hB, hH, hL, hO, hY, ?_, hT.up⟩
            exact IE_new (M := M) hC hH hE q4 v1 (Or.inr v3) q v2 z1 (fun _ => by rw [ecn2]; exact z2) ⟨rfl, rfl⟩ rfl rfl rfl rfl rfl rfl rfl rfl rfl rfl rfl rfl rfl
          · have q5 : M 76 28 = 80 := q5
            omega
        · exact m_127 (nw := M 45 c) (rr := rr) hC hO hY hH hN2 v1m v3m v2 ew q hrm (fun z => absurd z good) (fun _ => ⟨fun z => absurd (show M 76 28 = 80 by omega) z, fun _ => ⟨rfl, hI2⟩⟩)
      exact ⟨fun z => by rw [if_neg z] at hw; subst hw; exact main, fun z => by rw [if_pos z] at hw; subst hw; exact main⟩
    · refine sg_127 (c_141 hn3 (fun _ => t1 ?_) (fun q => absurd v1m q))
      refine c_162 (by show 0 ≤ M 76 16 ∧ M 76 16 ≤ 24; omega) (fun _ => t1 ?_) (fun q => absurd v3m q)
      refine c_163 (fun _ => t1 ?_) (fun q => absurd v2 q)
      exact c_167 hN2 ⟨fun z => absurd (show whr (M 95) (M 96) (M 97) c 199 (M 76 28).toNat = h by rw [ew]; exact q) z, fun _ => ⟨rfl, hI2⟩⟩
  · have hm : EE (d + 9) 127 [vR 76, vI c, vI h, vI dy] M (rI fun r2 M2 => r2 = -1 ∧ Inv (k + 1) M2) := by
      refine sg_127 (c_141 (by show 0 ≤ M 76 2 ∧ M 76 2 ≤ 48; omega) (fun v1 => t1 ?_) (fun _ => t0 ⟨rfl, hI2⟩))
      refine c_162 (by show 0 ≤ M 76 16 ∧ M 76 16 ≤ 24; omega) (fun v3 => t1 ?_) (fun _ => t0 ⟨rfl, hI2⟩)
      exact c_163 (fun v2 => absurd ⟨by have v1 : 0 ≤ c ∧ c < M 76 2 := v1; omega, by have v3 : 0 ≤ h ∧ h < M 76 16 := v3; omega, v2⟩ hV) (fun _ => t0 ⟨rfl, hI2⟩)
    refine sg_19 (c_35 hn (fun v1 => t1 ?_) (fun _ => t0 hm))
    refine c_42 hhn (fun v3 => t1 ?_) (fun _ => t0 hm)
    exact c_43 (fun v2 => absurd ⟨v1, v3, v2⟩ hV) (fun _ => t0 hm)
end OP7
