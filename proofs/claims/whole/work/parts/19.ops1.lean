/-! CALLS WITHOUT LOOPS: child, clear, party, train, wayOf, house, pay, delay, count, trace -/
section OP1
variable {d : Nat} {P : Int → Mm → Prop} {PV : Mm → Prop} {M : Mm} {k : Int}
theorem t1 {A B : Prop} (h : B) : ((1 : Int) = 0 → A) ∧ (¬ (1 : Int) = 0 → B) := ⟨fun e => absurd e (by decide), fun _ => h⟩
theorem t1' {A B : Prop} (h : B) : (¬ (1 : Int) = 0 → B) ∧ ((1 : Int) = 0 → A) := ⟨fun _ => h, fun e => absurd e (by decide)⟩
theorem t0 {A B : Prop} (h : A) : ((0 : Int) = 0 → A) ∧ (¬ (0 : Int) = 0 → B) := ⟨fun _ => h, fun e => absurd rfl e⟩
theorem t0' {A B : Prop} (h : A) : (¬ (0 : Int) = 0 → B) ∧ ((0 : Int) = 0 → A) := ⟨fun e => absurd rfl e, fun _ => h⟩
theorem Inv.thr (h : Inv k M) : Inv (k + 1) (mset M 76 0 0) := ⟨h.1, h.2.1, h.2.2.1, h.2.2.2.1, h.2.2.2.2.1, h.2.2.2.2.2.1, h.2.2.2.2.2.2.1, h.2.2.2.2.2.2.2.1, h.2.2.2.2.2.2.2.2.1, h.2.2.2.2.2.2.2.2.2.1, h.2.2.2.2.2.2.2.2.2.2.up⟩
theorem ps_eq {f : Int → Int} {i x : Int} {j : Int} (h : j = i) : fset f i x j = x := if_pos h
theorem op_clear (hI : Inv k M) : opI k (d + 5) 2 110 [] M := by
  obtain ⟨hC, hN, hD, hP, hB, hH, hL, hO, hY, hE, hT⟩ := hI
  refine sg_2 (c_57 ?_)
  refine sg_110 ?_
  refine ⟨hD.2.1, hC, hN, ⟨⟨by show (0 : Int) ≤ 0; omega, by show (0 : Int) ≤ 600; omega⟩, rfl, hD.2.2.1, fun i h0 h1 => ?_⟩, hP, hB, hH, hL, hO, hY, hE, hT.up⟩
  have h1 : i < 0 := h1
  omega
theorem op_count {a : Int} (hI : Inv k M) : opI k (d + 5) 30 138 [vI a] M := by
  have hI2 := hI.thr
  obtain ⟨hC, hN, hD, hP, hB, hH, hL, hO, hY, hE, hT⟩ := hI
  refine sg_30 ⟨fun q => ?_, fun q => ?_, fun q => ?_, fun q => ?_, fun q => ?_, fun q => ?_⟩ <;> refine sg_138 ⟨fun e => ?_, fun e => ?_, fun e => ?_, fun e => ?_, fun e => ?_, fun e => ?_⟩ <;> first | omega | exact ⟨hC.2.1, hI2⟩ | exact ⟨hH.2.1, hI2⟩ | exact ⟨hO.2.1, hI2⟩ | exact ⟨hE.2.1, hI2⟩ | exact ⟨hD.2.1, hI2⟩ | exact ⟨rfl, hI2⟩
theorem op_trace (hI : Inv k M) : opL k (d + 5) 31 139 [] M := by
  have hI2 := hI.thr
  refine sg_31 ?_
  refine sg_139 ?_
  exact ⟨hI.2.2.2.2.2.2.2.2.2.2.1, hI2⟩
theorem op_child {a1 a2 a3 a4 : Int} (hI : Inv k M) : opI k (d + 5) 0 108 [vI a1, vI a2, vI a3, vI a4] M := by
  have hI2 := hI.thr
  obtain ⟨hC, hN, hD, hP, hB, hH, hL, hO, hY, hE, hT⟩ := hI
  obtain ⟨hn, hn2, ⟨e77, e78, e79, e80⟩, hr⟩ := hC
  by_cases hV : (0 ≤ a1 ∧ a1 ≤ 1) ∧ (1 ≤ a2 ∧ a2 ≤ 15) ∧ (0 ≤ a3 ∧ a3 ≤ 20) ∧ (0 ≤ a4 ∧ a4 ≤ 7)
  · obtain ⟨v1, v2, v3, v4⟩ := hV
    refine sg_0 (c_32 (fun _ => t1 ?_) (fun q => absurd v1 q))
    refine c_32 (fun _ => t1 ?_) (fun q => absurd v2 q)
    refine c_32 (fun _ => t1 ?_) (fun q => absurd v3 q)
    refine c_33 (fun _ => t1' ?_) (fun q => absurd v4 q)
    refine ⟨fun q => ?_, fun q => ?_⟩
    · refine c_34 ?_
      refine sg_49 ⟨⟨hn.1, q⟩, ⟨hn.1, q⟩, ⟨hn.1, q⟩, ⟨hn.1, q⟩, by show inI (M 1 6 + 1); unfold inI; omega, by show inI (M 1 6 + 1 - 1); unfold inI; omega, ?_⟩
      refine sg_108 (c_140 (fun _ => t1 ?_) (fun q => absurd v1 q))
      refine c_140 (fun _ => t1 ?_) (fun q => absurd v2 q)
      refine c_140 (fun _ => t1 ?_) (fun q => absurd v3 q)
      refine c_140 (fun _ => t1' ?_) (fun q => absurd v4 q)
      have hn3 : 0 ≤ M 76 2 ∧ M 76 2 < 48 := by omega
      refine ⟨fun q2 => ⟨hn3, hn3, hn3, hn3, by show inI (M 76 2 + 1); unfold inI; omega, by show inI (M 76 2 + 1 - 1); unfold inI; omega, ?_⟩, fun q2 => ?_⟩
      · refine ⟨by show M 76 2 + 1 - 1 = M 1 6 + 1 - 1; omega, ?_⟩
        refine ⟨⟨by show 0 ≤ M 1 6 + 1 ∧ M 1 6 + 1 ≤ 48; omega, by show M 76 2 + 1 = M 1 6 + 1; omega, ⟨?_, ?_, ?_, ?_⟩, ?_⟩, ⟨hN.1, fun c hc => hN.2.1 c (by have : M 1 6 + 1 ≤ c := hc; omega), fun c h0 h1 => ?_⟩, hD, hP, ⟨Or.inr rfl, fun e => ?_⟩, hH, Or.inl rfl, hO, hY, ?_, hT.up⟩
        · show fset (M 77) (M 76 2) a1 = fset (M 2) (M 1 6) a1; rw [e77, hn2]
        · show fset (M 78) (M 76 2) a2 = fset (M 3) (M 1 6) a2; rw [e78, hn2]
        · show fset (M 79) (M 76 2) a3 = fset (M 4) (M 1 6) a3; rw [e79, hn2]
        · show fset (M 80) (M 76 2) a4 = fset (M 5) (M 1 6) a4; rw [e80, hn2]
        · intro c h0 h1
          have h1 : c < M 1 6 + 1 := h1
          show (fset (M 2) (M 1 6) a1 c = 0 ∨ fset (M 2) (M 1 6) a1 c = 1) ∧ (1 ≤ fset (M 3) (M 1 6) a2 c ∧ fset (M 3) (M 1 6) a2 c ≤ 15) ∧ (0 ≤ fset (M 4) (M 1 6) a3 c ∧ fset (M 4) (M 1 6) a3 c ≤ 20) ∧ (0 ≤ fset (M 5) (M 1 6) a4 c ∧ fset (M 5) (M 1 6) a4 c ≤ 7)
          by_cases hc : c = M 1 6
          · rw [ps_eq hc, ps_eq hc, ps_eq hc, ps_eq hc]
            omega
          · rw [fs_ne hc, fs_ne hc, fs_ne hc, fs_ne hc]
            exact hr c h0 (by omega)
        · have h1 : c < M 1 6 + 1 := h1
          by_cases hc : c = M 1 6
          · have e7 : M 7 c = 0 := hN.2.1 c (by omega)
            refine ⟨by show 0 ≤ M 7 c ∧ M 7 c ≤ 8; omega, fun j j0 j1 => ?_⟩
            have j1 : j < M 7 c := j1
            omega
          · exact hN.2.2 c h0 (by omega)
        · have e : (1 : Int) = 0 := e
          omega
        · obtain ⟨x1, x2, x3, x4, x5, x6, x7, x8⟩ := hE
          refine ⟨x1, x2, x3, fun e e0 e1 => ?_, x5, x6, x7, fun h h0 h1 => ?_⟩
          · obtain ⟨y1, y2⟩ := x4 e e0 e1
            exact ⟨by show 0 ≤ M 41 e ∧ M 41 e < M 1 6 + 1; omega, y2⟩
          · show cn (fun c => decide (whr (M 41) (M 43) (M 44) c 199 (M 40 6).toNat = h)) (M 1 6 + 1).toNat ≤ M 27 h
            have e1 : (M 1 6 + 1).toNat = (M 1 6).toNat + 1 := by omega
            have e2 : whr (M 41) (M 43) (M 44) ((M 1 6).toNat : Int) 199 (M 40 6).toNat = -9 := whr_no (fun e e0 e1 z => by have := (x4 e e0 (by omega)).1; omega)
            rw [e1]
            show cn (fun c => decide (whr (M 41) (M 43) (M 44) c 199 (M 40 6).toNat = h)) (M 1 6).toNat + (if decide (whr (M 41) (M 43) (M 44) ((M 1 6).toNat : Int) 199 (M 40 6).toNat = h) = true then 1 else 0) ≤ M 27 h
            rw [e2, if_neg (by rw [decide_eq_true_eq]; omega)]
            have := x8 h h0 h1
            omega
      · have q2 : M 76 2 = 48 := q2
        omega
    · refine sg_108 (c_140 (fun _ => t1 ?_) (fun q => absurd v1 q))
      refine c_140 (fun _ => t1 ?_) (fun q => absurd v2 q)
      refine c_140 (fun _ => t1 ?_) (fun q => absurd v3 q)
      refine c_140 (fun _ => t1' ?_) (fun q => absurd v4 q)
      refine ⟨fun q2 => absurd (show M 76 2 = 48 by omega) q2, fun _ => ⟨rfl, hI2⟩⟩
  · have hm : EE (d + 5) 108 [vR 76, vI a1, vI a2, vI a3, vI a4] M (rI fun r2 M2 => r2 = -1 ∧ Inv (k + 1) M2) := by
      refine sg_108 (c_140 (fun v1 => t1 ?_) (fun _ => t0 ⟨rfl, hI2⟩))
      refine c_140 (fun v2 => t1 ?_) (fun _ => t0 ⟨rfl, hI2⟩)
      refine c_140 (fun v3 => t1 ?_) (fun _ => t0 ⟨rfl, hI2⟩)
      exact c_140 (fun v4 => absurd ⟨v1, v2, v3, v4⟩ hV) (fun _ => t0' ⟨rfl, hI2⟩)
    refine sg_0 (c_32 (fun v1 => t1 ?_) (fun _ => t0 hm))
    refine c_32 (fun v2 => t1 ?_) (fun _ => t0 hm)
    refine c_32 (fun v3 => t1 ?_) (fun _ => t0 hm)
    exact c_33 (fun v4 => absurd ⟨v1, v2, v3, v4⟩ hV) (fun _ => t0' hm)
theorem op_wayOf {a : Int} (hI : Inv k M) : opI k (d + 5) 6 114 [vI a] M := by
  have hI2 := hI.thr
  obtain ⟨hC, hN, hD, hP, hB, hH, hL, hO, hY, hE, hT⟩ := hI
  refine sg_6 (c_32 (fun v1 => t1' ?_) (fun v1 => t0' ?_))
  · refine c_34 ?_
    refine sg_114 (c_140 (fun _ => t1' ?_) (fun q => absurd v1 q))
    refine ⟨hP.2.2.2.2.1, hC, hN, hD, ⟨hP.1, hP.2.1, hP.2.2.1, hP.2.2.2.1, rfl, v1.1, v1.2⟩, ⟨Or.inr rfl, fun e => ?_⟩, hH, Or.inl rfl, hO, hY, hE, hT.up⟩
    have e : (1 : Int) = 0 := e
    omega
  · exact sg_114 (c_140 (fun q => absurd q v1) (fun _ => t0' ⟨rfl, hI2⟩))
theorem rowE.set {f g : Int → Int} {b n j x : Int} (h : rowE f g b n) : rowE (fset f j x) (fset g (b + j) x) b n := by
  intro i i0 i1
  by_cases e : i = j
  · rw [ps_eq e, ps_eq (by omega)]
  · rw [fs_ne e, fs_ne (by omega)]
    exact h i i0 i1
theorem rowE.oth {f g : Int → Int} {b n i x : Int} (h : rowE f g b n) (hi : i < b ∨ b + n ≤ i) : rowE f (fset g i x) b n := by
  intro j j0 j1
  rw [fs_ne (by omega)]
  exact h j j0 j1
theorem op_delay {a1 a2 a3 : Int} (hI : Inv k M) : opI k (d + 5) 16 124 [vI a1, vI a2, vI a3] M := by
  have hI2 := hI.thr
  obtain ⟨hC, hN, hD, hP, hB, hH, hL, hO, hY, hE, hT⟩ := hI
  by_cases hV : (0 ≤ a1 ∧ a1 ≤ 5) ∧ (0 ≤ a2 ∧ a2 ≤ 2) ∧ (0 ≤ a3 ∧ a3 ≤ 20)
  · obtain ⟨v1, v2, v3⟩ := hV
    have hat := hY.at v1.1 (by omega) v2.1 (by omega)
    obtain ⟨⟨y0, y1, y2, y3, y4, y5⟩, yr⟩ := hY
    refine sg_16 (c_37 (fun _ => t1 ?_) (fun q => absurd v1 q))
    refine c_32 (fun _ => t1 ?_) (fun q => absurd v2 q)
    refine c_32 (fun _ => t1' ?_) (fun q => absurd v3 q)
    refine ⟨by omega, by omega, by omega, by omega, ?_⟩
    refine sg_124 (c_145 (fun _ => t1 ?_) (fun q => absurd v1 q))
    refine c_140 (fun _ => t1 ?_) (fun q => absurd v2 q)
    refine c_140 (fun _ => t1' ?_) (fun q => absurd v3 q)
    refine ⟨by unfold inI; omega, by unfold inI; omega, by omega, by unfold inI; omega, by unfold inI; omega, by omega, ?_⟩
    have hr : ∀ j, 0 ≤ j → j < 18 → 0 ≤ fset (M 94) (3 * a1 + a2) a3 j ∧ fset (M 94) (3 * a1 + a2) a3 j ≤ 20 := by
      intro j j0 j1
      by_cases e : j = 3 * a1 + a2
      · rw [ps_eq e]; exact v3
      · rw [fs_ne e]; exact yr j j0 j1
    have : a1 = 0 ∨ a1 = 1 ∨ a1 = 2 ∨ a1 = 3 ∨ a1 = 4 ∨ a1 = 5 := by omega
    rcases this with rfl | rfl | rfl | rfl | rfl | rfl
    · exact ⟨hat.symm, hC, hN, hD, hP, hB, hH, hL, hO, ⟨⟨y0.set, y1.oth (by omega), y2.oth (by omega), y3.oth (by omega), y4.oth (by omega), y5.oth (by omega)⟩, hr⟩, hE, hT.up⟩
    · exact ⟨hat.symm, hC, hN, hD, hP, hB, hH, hL, hO, ⟨⟨y0.oth (by omega), y1.set, y2.oth (by omega), y3.oth (by omega), y4.oth (by omega), y5.oth (by omega)⟩, hr⟩, hE, hT.up⟩
    · exact ⟨hat.symm, hC, hN, hD, hP, hB, hH, hL, hO, ⟨⟨y0.oth (by omega), y1.oth (by omega), y2.set, y3.oth (by omega), y4.oth (by omega), y5.oth (by omega)⟩, hr⟩, hE, hT.up⟩
    · exact ⟨hat.symm, hC, hN, hD, hP, hB, hH, hL, hO, ⟨⟨y0.oth (by omega), y1.oth (by omega), y2.oth (by omega), y3.set, y4.oth (by omega), y5.oth (by omega)⟩, hr⟩, hE, hT.up⟩
    · exact ⟨hat.symm, hC, hN, hD, hP, hB, hH, hL, hO, ⟨⟨y0.oth (by omega), y1.oth (by omega), y2.oth (by omega), y3.oth (by omega), y4.set, y5.oth (by omega)⟩, hr⟩, hE, hT.up⟩
    · exact ⟨hat.symm, hC, hN, hD, hP, hB, hH, hL, hO, ⟨⟨y0.oth (by omega), y1.oth (by omega), y2.oth (by omega), y3.oth (by omega), y4.oth (by omega), y5.set⟩, hr⟩, hE, hT.up⟩
  · have hm : EE (d + 5) 124 [vR 76, vI a1, vI a2, vI a3] M (rI fun r2 M2 => r2 = -1 ∧ Inv (k + 1) M2) := by
      refine sg_124 (c_145 (fun v1 => t1 ?_) (fun _ => t0 ⟨rfl, hI2⟩))
      refine c_140 (fun v2 => t1 ?_) (fun _ => t0 ⟨rfl, hI2⟩)
      exact c_140 (fun v3 => absurd ⟨v1, v2, v3⟩ hV) (fun _ => t0' ⟨rfl, hI2⟩)
    refine sg_16 (c_37 (fun v1 => t1 ?_) (fun _ => t0 hm))
    refine c_32 (fun v2 => t1 ?_) (fun _ => t0 hm)
    exact c_32 (fun v3 => absurd ⟨v1, v2, v3⟩ hV) (fun _ => t0' hm)
theorem op_party0 {a1 a3 : Int} (hI : Inv k M) : opI k (d + 5) 4 112 [vI a1, vI 0, vI a3] M := by
  have hI2 := hI.thr
  obtain ⟨hC, hN, hD, hP, hB, hH, hL, hO, hY, hE, hT⟩ := hI
  by_cases hV : (0 ≤ a1 ∧ a1 ≤ 7) ∧ (0 ≤ a3 ∧ a3 ≤ 5)
  · obtain ⟨v1, v3⟩ := hV
    refine sg_4 (c_33 (fun _ => t1 ?_) (fun q => absurd v1 q))
    refine c_32 (fun _ => t1 ?_) (fun q => absurd (by decide) q)
    refine ⟨fun q => absurd rfl q, fun _ => ?_⟩
    refine sg_4_29 (c_32 (fun _ => t1' ?_) (fun q => absurd v3 q))
    refine ⟨fun q => absurd rfl q, fun _ => ?_⟩
    refine ⟨by omega, by omega, c_34 ?_⟩
    refine sg_112 (c_140 (fun _ => t1 ?_) (fun q => absurd v1 q))
    refine c_140 (fun _ => t1 ?_) (fun q => absurd (by decide) q)
    refine ⟨fun q => absurd rfl q, fun _ => ?_⟩
    refine sg_112_37 (c_140 (fun _ => t1' ?_) (fun q => absurd v3 q))
    refine ⟨by unfold inI; omega, by unfold inI; omega, by omega, by unfold inI; omega, by unfold inI; omega, by omega, ?_⟩
    obtain ⟨p1, p2, p3⟩ := hP
    refine ⟨?_, hC, hN, hD, ⟨?_, ?_, p3⟩, ⟨Or.inr rfl, fun e => ?_⟩, hH, Or.inl rfl, hO, hY, hE, hT.up⟩
    · show M 83 (2 * a1 + 0) = M 11 a1
      rw [(p1 a1).1]; congr 1; omega
    · intro p
      show fset (M 11) a1 a3 p = fset (M 83) (2 * a1 + 0) a3 (2 * p) ∧ M 12 p = fset (M 83) (2 * a1 + 0) a3 (2 * p + 1)
      by_cases hp : p = a1
      · subst hp
        rw [ps_eq rfl, ps_eq (by omega), fs_ne (by omega)]
        exact ⟨rfl, (p1 p).2⟩
      · rw [fs_ne hp, fs_ne (by omega), fs_ne (by omega)]
        exact p1 p
    · intro p h0 h1
      show (0 ≤ fset (M 83) (2 * a1 + 0) a3 (2 * p) ∧ fset (M 83) (2 * a1 + 0) a3 (2 * p) ≤ 5) ∧ (0 ≤ fset (M 83) (2 * a1 + 0) a3 (2 * p + 1) ∧ fset (M 83) (2 * a1 + 0) a3 (2 * p + 1) ≤ 300)
      obtain ⟨z1, z2⟩ := p2 p h0 h1
      by_cases hp : p = a1
      · subst hp
        rw [ps_eq (by omega), fs_ne (by omega)]
        exact ⟨v3, z2⟩
      · rw [fs_ne (by omega), fs_ne (by omega)]
        exact ⟨z1, z2⟩
    · have e : (1 : Int) = 0 := e
      omega
  · have hm : EE (d + 5) 112 [vR 76, vI a1, vI 0, vI a3] M (rI fun r2 M2 => r2 = -1 ∧ Inv (k + 1) M2) := by
      refine sg_112 (c_140 (fun v1 => t1 ?_) (fun _ => t0 ⟨rfl, hI2⟩))
      refine c_140 (fun _ => t1 ?_) (fun q => absurd (by decide) q)
      refine ⟨fun q => absurd rfl q, fun _ => ?_⟩
      exact sg_112_37 (c_140 (fun v3 => absurd ⟨v1, v3⟩ hV) (fun _ => t0' ⟨rfl, hI2⟩))
    refine sg_4 (c_33 (fun v1 => t1 ?_) (fun _ => t0 hm))
    refine c_32 (fun _ => t1 ?_) (fun q => absurd (by decide) q)
    refine ⟨fun q => absurd rfl q, fun _ => ?_⟩
    exact sg_4_29 (c_32 (fun v3 => absurd ⟨v1, v3⟩ hV) (fun _ => t0' hm))
theorem op_party1 {a1 a3 : Int} (hI : Inv k M) : opI k (d + 5) 4 112 [vI a1, vI 1, vI a3] M := by
  have hI2 := hI.thr
  obtain ⟨hC, hN, hD, hP, hB, hH, hL, hO, hY, hE, hT⟩ := hI
  by_cases hV : (0 ≤ a1 ∧ a1 ≤ 7) ∧ (0 ≤ a3 ∧ a3 ≤ 300)
  · obtain ⟨v1, v3⟩ := hV
    refine sg_4 (c_33 (fun _ => t1 ?_) (fun q => absurd v1 q))
    refine c_32 (fun _ => t1 ?_) (fun q => absurd (by decide) q)
    refine ⟨fun _ => ?_, fun q => absurd q (by decide)⟩
    refine sg_4_29 (c_32 (fun _ => t1' ?_) (fun q => absurd v3 q))
    refine ⟨fun _ => ?_, fun q => absurd q (by decide)⟩
    refine ⟨by omega, by omega, c_34 ?_⟩
    refine sg_112 (c_140 (fun _ => t1 ?_) (fun q => absurd v1 q))
    refine c_140 (fun _ => t1 ?_) (fun q => absurd (by decide) q)
    refine ⟨fun _ => ?_, fun q => absurd q (by decide)⟩
    refine sg_112_37 (c_140 (fun _ => t1' ?_) (fun q => absurd v3 q))
    refine ⟨by unfold inI; omega, by unfold inI; omega, by omega, by unfold inI; omega, by unfold inI; omega, by omega, ?_⟩
    obtain ⟨p1, p2, p3⟩ := hP
    refine ⟨?_, hC, hN, hD, ⟨?_, ?_, p3⟩, ⟨Or.inr rfl, fun e => ?_⟩, hH, Or.inl rfl, hO, hY, hE, hT.up⟩
    · show M 83 (2 * a1 + 1) = M 12 a1
      rw [(p1 a1).2]
    · intro p
      show M 11 p = fset (M 83) (2 * a1 + 1) a3 (2 * p) ∧ fset (M 12) a1 a3 p = fset (M 83) (2 * a1 + 1) a3 (2 * p + 1)
      by_cases hp : p = a1
      · subst hp
        rw [ps_eq rfl, fs_ne (by omega), ps_eq rfl]
        exact ⟨(p1 p).1, rfl⟩
      · rw [fs_ne hp, fs_ne (by omega), fs_ne (by omega)]
        exact p1 p
    · intro p h0 h1
      show (0 ≤ fset (M 83) (2 * a1 + 1) a3 (2 * p) ∧ fset (M 83) (2 * a1 + 1) a3 (2 * p) ≤ 5) ∧ (0 ≤ fset (M 83) (2 * a1 + 1) a3 (2 * p + 1) ∧ fset (M 83) (2 * a1 + 1) a3 (2 * p + 1) ≤ 300)
      obtain ⟨z1, z2⟩ := p2 p h0 h1
      by_cases hp : p = a1
      · subst hp
        rw [fs_ne (by omega), ps_eq rfl]
        exact ⟨z1, v3⟩
      · rw [fs_ne (by omega), fs_ne (by omega)]
        exact ⟨z1, z2⟩
    · have e : (1 : Int) = 0 := e
      omega
  · have hm : EE (d + 5) 112 [vR 76, vI a1, vI 1, vI a3] M (rI fun r2 M2 => r2 = -1 ∧ Inv (k + 1) M2) := by
      refine sg_112 (c_140 (fun v1 => t1 ?_) (fun _ => t0 ⟨rfl, hI2⟩))
      refine c_140 (fun _ => t1 ?_) (fun q => absurd (by decide) q)
      refine ⟨fun _ => ?_, fun q => absurd q (by decide)⟩
      exact sg_112_37 (c_140 (fun v3 => absurd ⟨v1, v3⟩ hV) (fun _ => t0' ⟨rfl, hI2⟩))
    refine sg_4 (c_33 (fun v1 => t1 ?_) (fun _ => t0 hm))
    refine c_32 (fun _ => t1 ?_) (fun q => absurd (by decide) q)
    refine ⟨fun _ => ?_, fun q => absurd q (by decide)⟩
    exact sg_4_29 (c_32 (fun v3 => absurd ⟨v1, v3⟩ hV) (fun _ => t0' hm))
theorem op_party {a1 a2 a3 : Int} (hI : Inv k M) : opI k (d + 5) 4 112 [vI a1, vI a2, vI a3] M := by
  by_cases e0 : a2 = 0
  · subst e0; exact op_party0 hI
  · by_cases e1 : a2 = 1
    · subst e1; exact op_party1 hI
    · have hI2 := hI.thr
      have hm : EE (d + 5) 112 [vR 76, vI a1, vI a2, vI a3] M (rI fun r2 M2 => r2 = -1 ∧ Inv (k + 1) M2) := by
        refine sg_112 (c_140 (fun v1 => t1 ?_) (fun _ => t0 ⟨rfl, hI2⟩))
        exact c_140 (fun q => absurd q (by omega)) (fun _ => t0 ⟨rfl, hI2⟩)
      refine sg_4 (c_33 (fun v1 => t1 ?_) (fun _ => t0 hm))
      exact c_32 (fun q => absurd q (by omega)) (fun _ => t0 hm)
end OP1
