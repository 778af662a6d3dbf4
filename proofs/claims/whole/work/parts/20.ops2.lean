/-! CALLS WITHOUT LOOPS, 2: train, house, pay -/
section OP2
variable {d : Nat} {P : Int → Mm → Prop} {PV : Mm → Prop} {M : Mm} {k : Int}
def tLo (a : Int) : Int := if a = 3 then 1 else 0
def tHi (a : Int) : Int := if a < 2 then 300 else if a = 2 then 48 else if a = 3 then 4 else 5
theorem tb_lo {a : Int} (h : 0 ≤ a ∧ a ≤ 4) : (tbL.getD 0 []).getD a.toNat 0 = tLo a ∧ (tbL.getD 1 []).getD a.toNat 0 = tHi a := by
  have : a = 0 ∨ a = 1 ∨ a = 2 ∨ a = 3 ∨ a = 4 := by omega
  rcases this with rfl | rfl | rfl | rfl | rfl <;> exact ⟨rfl, rfl⟩
theorem c_113_34 {a1 a2 a3 s0 s1 : Int} (h : H_113_65 d P a1 a2 a3 (tHi a2) s0 s1 M) : H_113_34 d P a1 a2 a3 s0 s1 M := by
  unfold tHi at h
  refine sg_113_34 ⟨fun q => ⟨fun q2 => ⟨fun q3 => ?_, fun q3 => ?_⟩, fun q2 => ?_⟩, fun q => ?_⟩
  · rw [if_neg (by omega), if_neg q2, if_neg q3] at h; exact h
  · rw [if_neg (by omega), if_neg q2, if_pos q3] at h; exact h
  · rw [if_neg (by omega), if_pos q2] at h; exact h
  · rw [if_pos q] at h; exact h
theorem c_113 {a1 a2 a3 : Int} (h1 : EE d 140 [vI a3, vI (tLo a2), vI (tHi a2)] M (rI fun r1 M1 => ((¬ r1 = 0 → inI (5 * a1) ∧ inI ((5 * a1) + a2) ∧ (0 ≤ ((5 * a1) + a2) ∧ ((5 * a1) + a2) < 30) ∧ inI (5 * a1) ∧ inI ((5 * a1) + a2) ∧ (0 ≤ ((5 * a1) + a2) ∧ ((5 * a1) + a2) < 30) ∧ P (M1 84 ((5 * a1) + a2)) (mset M1 84 ((5 * a1) + a2) a3)) ∧ (r1 = 0 → P (-1) M1)))) :
    (¬ a2 = 3 → H_113_34 d P a1 a2 a3 0 a3 M) ∧ (a2 = 3 → H_113_34 d P a1 a2 a3 1 a3 M) := by
  refine ⟨fun q => ?_, fun q => ?_⟩
  · have e : tLo a2 = 0 := if_neg q
    rw [e] at h1
    exact c_113_34 (sg_113_65 h1)
  · have e : tLo a2 = 1 := if_pos q
    rw [e] at h1
    exact c_113_34 (sg_113_65 h1)
theorem tn_set {f : Int → Int} {t a1 a2 a3 : Int} (h : tnOk f t) (h2 : 0 ≤ a2 ∧ a2 ≤ 4) (h3 : tLo a2 ≤ a3 ∧ a3 ≤ tHi a2) : tnOk (fset f (5 * a1 + a2) a3) t := by
  have key : ∀ x, fset f (5 * a1 + a2) a3 x = f x ∨ (x = 5 * a1 + a2 ∧ fset f (5 * a1 + a2) a3 x = a3) := by
    intro x
    by_cases e : x = 5 * a1 + a2
    · exact Or.inr ⟨e, ps_eq e⟩
    · exact Or.inl (fs_ne e)
  have k0 := key (5 * t)
  have k1 := key (5 * t + 1)
  have k2 := key (5 * t + 2)
  have k3 := key (5 * t + 3)
  have k4 := key (5 * t + 4)
  unfold tnOk at h ⊢
  generalize fset f (5 * a1 + a2) a3 (5 * t) = g0 at k0 ⊢
  generalize fset f (5 * a1 + a2) a3 (5 * t + 1) = g1 at k1 ⊢
  generalize fset f (5 * a1 + a2) a3 (5 * t + 2) = g2 at k2 ⊢
  generalize fset f (5 * a1 + a2) a3 (5 * t + 3) = g3 at k3 ⊢
  generalize fset f (5 * a1 + a2) a3 (5 * t + 4) = g4 at k4 ⊢
  obtain ⟨x0, x1, x2, x3, x4⟩ := h
  have hc : a2 = 0 ∨ a2 = 1 ∨ a2 = 2 ∨ a2 = 3 ∨ a2 = 4 := by omega
  rcases hc with rfl | rfl | rfl | rfl | rfl
  · have h3 : 0 ≤ a3 ∧ a3 ≤ 300 := h3
    refine ⟨?_, ?_, ?_, ?_, ?_⟩ <;> omega
  · have h3 : 0 ≤ a3 ∧ a3 ≤ 300 := h3
    refine ⟨?_, ?_, ?_, ?_, ?_⟩ <;> omega
  · have h3 : 0 ≤ a3 ∧ a3 ≤ 48 := h3
    refine ⟨?_, ?_, ?_, ?_, ?_⟩ <;> omega
  · have h3 : 1 ≤ a3 ∧ a3 ≤ 4 := h3
    refine ⟨?_, ?_, ?_, ?_, ?_⟩ <;> omega
  · have h3 : 0 ≤ a3 ∧ a3 ≤ 5 := h3
    refine ⟨?_, ?_, ?_, ?_, ?_⟩ <;> omega
theorem op_train {a1 a2 a3 : Int} (hI : Inv k M) : opI k (d + 5) 5 113 [vI a1, vI a2, vI a3] M := by
  have hI2 := hI.thr
  obtain ⟨hC, hN, hD, hP, hB, hH, hL, hO, hY, hE, hT⟩ := hI
  by_cases hV : (0 ≤ a1 ∧ a1 ≤ 5) ∧ (0 ≤ a2 ∧ a2 ≤ 4) ∧ (tLo a2 ≤ a3 ∧ a3 ≤ tHi a2)
  · obtain ⟨v1, v2, v3⟩ := hV
    obtain ⟨p1, p2, p3, p4, p5, p6⟩ := hP
    have hat := p3.at v1.1 (by omega) v2.1 (by omega)
    have htb := tb_lo v2
    refine sg_5 (c_36 (fun _ => t1 ?_) (fun q => absurd v1 q))
    refine c_32 (fun _ => t1 ?_) (fun q => absurd v2 q)
    refine ⟨by omega, by omega, ?_⟩
    rw [htb.1, htb.2]
    refine c_32 (fun _ => t1' ?_) (fun q => absurd v3 q)
    refine ⟨by omega, by omega, by omega, by omega, c_34 ?_⟩
    refine sg_113 (c_140 (fun _ => t1 ?_) (fun q => absurd v1 q))
    refine c_140 (fun _ => t1 ?_) (fun q => absurd v2 q)
    refine c_113 (c_140 (fun _ => t1' ?_) (fun q => absurd v3 q))
    refine ⟨by unfold inI; omega, by unfold inI; omega, by omega, by unfold inI; omega, by unfold inI; omega, by omega, ?_⟩
    have hr : ∀ t : Int, 0 ≤ t → t < 6 → tnOk (fset (M 84) (5 * a1 + a2) a3) t := fun t h0 h1 => tn_set (p4 t h0 h1) v2 v3
    have e0 : ¬ (1 : Int) = 0 := by decide
    obtain ⟨y0, y1, y2, y3, y4, y5⟩ := p3
    have : a1 = 0 ∨ a1 = 1 ∨ a1 = 2 ∨ a1 = 3 ∨ a1 = 4 ∨ a1 = 5 := by omega
    rcases this with rfl | rfl | rfl | rfl | rfl | rfl
    · exact ⟨hat.symm, hC, hN, hD, ⟨p1, p2, ⟨y0.set, y1.oth (by omega), y2.oth (by omega), y3.oth (by omega), y4.oth (by omega), y5.oth (by omega)⟩, hr, p5, p6⟩, ⟨Or.inr rfl, fun e => absurd e e0⟩, hH, Or.inl rfl, hO, hY, hE, hT.up⟩
    · exact ⟨hat.symm, hC, hN, hD, ⟨p1, p2, ⟨y0.oth (by omega), y1.set, y2.oth (by omega), y3.oth (by omega), y4.oth (by omega), y5.oth (by omega)⟩, hr, p5, p6⟩, ⟨Or.inr rfl, fun e => absurd e e0⟩, hH, Or.inl rfl, hO, hY, hE, hT.up⟩
    · exact ⟨hat.symm, hC, hN, hD, ⟨p1, p2, ⟨y0.oth (by omega), y1.oth (by omega), y2.set, y3.oth (by omega), y4.oth (by omega), y5.oth (by omega)⟩, hr, p5, p6⟩, ⟨Or.inr rfl, fun e => absurd e e0⟩, hH, Or.inl rfl, hO, hY, hE, hT.up⟩
    · exact ⟨hat.symm, hC, hN, hD, ⟨p1, p2, ⟨y0.oth (by omega), y1.oth (by omega), y2.oth (by omega), y3.set, y4.oth (by omega), y5.oth (by omega)⟩, hr, p5, p6⟩, ⟨Or.inr rfl, fun e => absurd e e0⟩, hH, Or.inl rfl, hO, hY, hE, hT.up⟩
    · exact ⟨hat.symm, hC, hN, hD, ⟨p1, p2, ⟨y0.oth (by omega), y1.oth (by omega), y2.oth (by omega), y3.oth (by omega), y4.set, y5.oth (by omega)⟩, hr, p5, p6⟩, ⟨Or.inr rfl, fun e => absurd e e0⟩, hH, Or.inl rfl, hO, hY, hE, hT.up⟩
    · exact ⟨hat.symm, hC, hN, hD, ⟨p1, p2, ⟨y0.oth (by omega), y1.oth (by omega), y2.oth (by omega), y3.oth (by omega), y4.oth (by omega), y5.set⟩, hr, p5, p6⟩, ⟨Or.inr rfl, fun e => absurd e e0⟩, hH, Or.inl rfl, hO, hY, hE, hT.up⟩
  · have hm : EE (d + 5) 113 [vR 76, vI a1, vI a2, vI a3] M (rI fun r2 M2 => r2 = -1 ∧ Inv (k + 1) M2) := by
      refine sg_113 (c_140 (fun v1 => t1 ?_) (fun _ => t0 ⟨rfl, hI2⟩))
      refine c_140 (fun v2 => t1 ?_) (fun _ => t0 ⟨rfl, hI2⟩)
      exact c_113 (c_140 (fun v3 => absurd ⟨v1, v2, v3⟩ hV) (fun _ => t0' ⟨rfl, hI2⟩))
    refine sg_5 (c_36 (fun v1 => t1 ?_) (fun _ => t0 hm))
    refine c_32 (fun v2 => t1 ⟨by omega, by omega, ?_⟩) (fun _ => t0 hm)
    have htb := tb_lo v2
    rw [htb.1, htb.2]
    exact c_32 (fun v3 => absurd ⟨v1, v2, v3⟩ hV) (fun _ => t0' hm)
theorem hs5 {f : Int → Int} {n a1 a2 a3 a4 a5 h : Int} : (fset (fset (fset (fset (fset f (5 * n) a1) (5 * n + 1) a2) (5 * n + 2) a3) (5 * n + 3) a4) (5 * n + 4) a5) (5 * h) = fset (fun h => f (5 * h)) n a1 h ∧ (fset (fset (fset (fset (fset f (5 * n) a1) (5 * n + 1) a2) (5 * n + 2) a3) (5 * n + 3) a4) (5 * n + 4) a5) (5 * h + 1) = fset (fun h => f (5 * h + 1)) n a2 h ∧ (fset (fset (fset (fset (fset f (5 * n) a1) (5 * n + 1) a2) (5 * n + 2) a3) (5 * n + 3) a4) (5 * n + 4) a5) (5 * h + 2) = fset (fun h => f (5 * h + 2)) n a3 h ∧ (fset (fset (fset (fset (fset f (5 * n) a1) (5 * n + 1) a2) (5 * n + 2) a3) (5 * n + 3) a4) (5 * n + 4) a5) (5 * h + 3) = fset (fun h => f (5 * h + 3)) n a4 h ∧ (fset (fset (fset (fset (fset f (5 * n) a1) (5 * n + 1) a2) (5 * n + 2) a3) (5 * n + 3) a4) (5 * n + 4) a5) (5 * h + 4) = fset (fun h => f (5 * h + 4)) n a5 h := by
  by_cases e : h = n
  · subst e
    refine ⟨?_, ?_, ?_, ?_, ?_⟩
    · rw [fs_ne (by omega), fs_ne (by omega), fs_ne (by omega), fs_ne (by omega), fs_eq, fs_eq]
    · rw [fs_ne (by omega), fs_ne (by omega), fs_ne (by omega), fs_eq, fs_eq]
    · rw [fs_ne (by omega), fs_ne (by omega), fs_eq, fs_eq]
    · rw [fs_ne (by omega), fs_eq, fs_eq]
    · rw [fs_eq, fs_eq]
  · refine ⟨?_, ?_, ?_, ?_, ?_⟩ <;> rw [fs_ne (by omega), fs_ne (by omega), fs_ne (by omega), fs_ne (by omega), fs_ne (by omega), fs_ne e]
theorem fs_at {f g : Int → Int} {n a h : Int} (e : f h = g h) : fset f n a h = fset g n a h := by
  by_cases q : h = n
  · rw [ps_eq q, ps_eq q]
  · rw [fs_ne q, fs_ne q, e]
theorem op_house {a1 a2 a3 a4 a5 : Int} (hI : Inv k M) : opI k (d + 5) 10 118 [vI a1, vI a2, vI a3, vI a4, vI a5] M := by
  have hI2 := hI.thr
  obtain ⟨hC, hN, hD, hP, hB, hH, hL, hO, hY, hE, hT⟩ := hI
  obtain ⟨hn, hn2, hf, hr⟩ := hH
  by_cases hV : (0 ≤ a1 ∧ a1 ≤ 5) ∧ (1 ≤ a2 ∧ a2 ≤ 3) ∧ (1 ≤ a3 ∧ a3 ≤ 4) ∧ (0 ≤ a4 ∧ a4 ≤ 15) ∧ (0 ≤ a5 ∧ a5 ≤ 3)
  · obtain ⟨v1, v2, v3, v4, v5⟩ := hV
    refine sg_10 (c_37 (fun _ => t1 ?_) (fun q => absurd v1 q))
    refine c_32 (fun _ => t1 ?_) (fun q => absurd v2 q)
    refine c_32 (fun _ => t1 ?_) (fun q => absurd v3 q)
    refine c_32 (fun _ => t1 ?_) (fun q => absurd v4 q)
    refine c_32 (fun _ => t1' ?_) (fun q => absurd v5 q)
    refine ⟨fun q => ?_, fun q => ?_⟩
    · have hb : 0 ≤ M 24 5 ∧ M 24 5 < 24 := ⟨hn.1, q⟩
      refine sg_68 ⟨hb, hb, hb, hb, hb, by show inI (M 24 5 + 1); unfold inI; omega, by show inI (M 24 5 + 1 - 1); unfold inI; omega, ?_⟩
      refine sg_118 (c_145 (fun _ => t1 ?_) (fun q => absurd v1 q))
      refine c_140 (fun _ => t1 ?_) (fun q => absurd v2 q)
      refine c_140 (fun _ => t1 ?_) (fun q => absurd v3 q)
      refine c_140 (fun _ => t1 ?_) (fun q => absurd v4 q)
      refine c_140 (fun _ => t1' ?_) (fun q => absurd v5 q)
      have w0 : 0 ≤ M 76 16 ∧ M 76 16 < 24 := by omega
      refine ⟨fun q2 => ⟨by show inI (5 * M 76 16); unfold inI; omega, by show 0 ≤ 5 * M 76 16 ∧ 5 * M 76 16 < 120; omega, by show inI (5 * M 76 16 + 1); unfold inI; omega, by show 0 ≤ 5 * M 76 16 + 1 ∧ 5 * M 76 16 + 1 < 120; omega, by show inI (5 * M 76 16 + 2); unfold inI; omega, by show 0 ≤ 5 * M 76 16 + 2 ∧ 5 * M 76 16 + 2 < 120; omega, by show inI (5 * M 76 16 + 3); unfold inI; omega, by show 0 ≤ 5 * M 76 16 + 3 ∧ 5 * M 76 16 + 3 < 120; omega, by show inI (5 * M 76 16 + 4); unfold inI; omega, by show 0 ≤ 5 * M 76 16 + 4 ∧ 5 * M 76 16 + 4 < 120; omega, by show inI (M 76 16 + 1); unfold inI; omega, by show inI (M 76 16 + 1 - 1); unfold inI; omega, ?_⟩, fun q2 => ?_⟩
      · refine ⟨by show M 76 16 + 1 - 1 = M 24 5 + 1 - 1; omega, hC, hN, hD, hP, hB, ⟨by show 0 ≤ M 24 5 + 1 ∧ M 24 5 + 1 ≤ 24; omega, by show M 76 16 + 1 = M 24 5 + 1; omega, fun h => ?_, fun h h0 h1 => ?_⟩, Or.inl rfl, hO, hY, ?_, hT.up⟩
        · have e5 := hs5 (f := M 89) (n := M 76 16) (a1 := a1) (a2 := a2) (a3 := a3) (a4 := a4) (a5 := a5) (h := h)
          rw [hn2] at e5
          obtain ⟨f1, f2, f3, f4, f5⟩ := hf h
          refine ⟨?_, ?_, ?_, ?_, ?_⟩
          · show fset (M 25) (M 24 5) a1 h = (fset (fset (fset (fset (fset (M 89) (5 * M 76 16) a1) (5 * M 76 16 + 1) a2) (5 * M 76 16 + 2) a3) (5 * M 76 16 + 3) a4) (5 * M 76 16 + 4) a5) (5 * h)
            rw [hn2, e5.1]; exact fs_at f1
          · show fset (M 26) (M 24 5) a2 h = (fset (fset (fset (fset (fset (M 89) (5 * M 76 16) a1) (5 * M 76 16 + 1) a2) (5 * M 76 16 + 2) a3) (5 * M 76 16 + 3) a4) (5 * M 76 16 + 4) a5) (5 * h + 1)
            rw [hn2, e5.2.1]; exact fs_at f2
          · show fset (M 27) (M 24 5) a3 h = (fset (fset (fset (fset (fset (M 89) (5 * M 76 16) a1) (5 * M 76 16 + 1) a2) (5 * M 76 16 + 2) a3) (5 * M 76 16 + 3) a4) (5 * M 76 16 + 4) a5) (5 * h + 2)
            rw [hn2, e5.2.2.1]; exact fs_at f3
          · show fset (M 28) (M 24 5) a4 h = (fset (fset (fset (fset (fset (M 89) (5 * M 76 16) a1) (5 * M 76 16 + 1) a2) (5 * M 76 16 + 2) a3) (5 * M 76 16 + 3) a4) (5 * M 76 16 + 4) a5) (5 * h + 3)
            rw [hn2, e5.2.2.2.1]; exact fs_at f4
          · show fset (M 29) (M 24 5) a5 h = (fset (fset (fset (fset (fset (M 89) (5 * M 76 16) a1) (5 * M 76 16 + 1) a2) (5 * M 76 16 + 2) a3) (5 * M 76 16 + 3) a4) (5 * M 76 16 + 4) a5) (5 * h + 4)
            rw [hn2, e5.2.2.2.2]; exact fs_at f5
        · have h1 : h < M 24 5 + 1 := h1
          show (0 ≤ fset (M 25) (M 24 5) a1 h ∧ fset (M 25) (M 24 5) a1 h ≤ 5) ∧ (1 ≤ fset (M 26) (M 24 5) a2 h ∧ fset (M 26) (M 24 5) a2 h ≤ 3) ∧ (1 ≤ fset (M 27) (M 24 5) a3 h ∧ fset (M 27) (M 24 5) a3 h ≤ 4) ∧ (0 ≤ fset (M 28) (M 24 5) a4 h ∧ fset (M 28) (M 24 5) a4 h ≤ 15) ∧ (0 ≤ fset (M 29) (M 24 5) a5 h ∧ fset (M 29) (M 24 5) a5 h ≤ 3)
          by_cases hc : h = M 24 5
          · rw [ps_eq hc, ps_eq hc, ps_eq hc, ps_eq hc, ps_eq hc]
            exact ⟨v1, v2, v3, v4, v5⟩
          · rw [fs_ne hc, fs_ne hc, fs_ne hc, fs_ne hc, fs_ne hc]
            exact hr h h0 (by omega)
        · obtain ⟨x1, x2, x3, x4, x5, x6, x7, x8⟩ := hE
          refine ⟨x1, x2, x3, fun e e0 e1 => ?_, x5, x6, x7, fun h h0 h1 => ?_⟩
          · obtain ⟨y1, y2, y3⟩ := x4 e e0 e1
            exact ⟨y1, by show M 43 e = -9 ∨ (0 ≤ M 43 e ∧ M 43 e < M 24 5 + 1); omega, y3⟩
          · have h1 : h < M 24 5 + 1 := h1
            show cn (fun c => decide (whr (M 41) (M 43) (M 44) c 199 (M 40 6).toNat = h)) (M 1 6).toNat ≤ fset (M 27) (M 24 5) a3 h
            by_cases hc : h = M 24 5
            · rw [ps_eq hc, cn_none (fun c c0 c1 => ?_)]
              · omega
              · rw [decide_eq_false_iff_not]
                intro z
                rcases whr_in (who := M 41) (into := M 43) (day := M 44) (c := c) (d := 199) (k := (M 40 6).toNat) with h2 | ⟨e2, h3, h4, h5, h6⟩
                · omega
                · have := (x4 e2 h3 (by omega)).2.1
                  omega
            · rw [fs_ne hc]
              exact x8 h h0 (by omega)
      · have q2 : M 76 16 = 24 := q2
        omega
    · refine sg_118 (c_145 (fun _ => t1 ?_) (fun q => absurd v1 q))
      refine c_140 (fun _ => t1 ?_) (fun q => absurd v2 q)
      refine c_140 (fun _ => t1 ?_) (fun q => absurd v3 q)
      refine c_140 (fun _ => t1 ?_) (fun q => absurd v4 q)
      refine c_140 (fun _ => t1' ?_) (fun q => absurd v5 q)
      exact ⟨fun q2 => absurd (show M 76 16 = 24 by omega) q2, fun _ => ⟨rfl, hI2⟩⟩
  · have hm : EE (d + 5) 118 [vR 76, vI a1, vI a2, vI a3, vI a4, vI a5] M (rI fun r2 M2 => r2 = -1 ∧ Inv (k + 1) M2) := by
      refine sg_118 (c_145 (fun v1 => t1 ?_) (fun _ => t0 ⟨rfl, hI2⟩))
      refine c_140 (fun v2 => t1 ?_) (fun _ => t0 ⟨rfl, hI2⟩)
      refine c_140 (fun v3 => t1 ?_) (fun _ => t0 ⟨rfl, hI2⟩)
      refine c_140 (fun v4 => t1 ?_) (fun _ => t0 ⟨rfl, hI2⟩)
      exact c_140 (fun v5 => absurd ⟨v1, v2, v3, v4, v5⟩ hV) (fun _ => t0' ⟨rfl, hI2⟩)
    refine sg_10 (c_37 (fun v1 => t1 ?_) (fun _ => t0 hm))
    refine c_32 (fun v2 => t1 ?_) (fun _ => t0 hm)
    refine c_32 (fun v3 => t1 ?_) (fun _ => t0 hm)
    refine c_32 (fun v4 => t1 ?_) (fun _ => t0 hm)
    exact c_32 (fun v5 => absurd ⟨v1, v2, v3, v4, v5⟩ hV) (fun _ => t0' hm)
/-- the pay -/
def payA (a n : Int) : Int := if 1 ≤ a ∧ 0 < n then 60 * n + (24 + 12 * (n - 1)) else 60 * n
def payB (a s : Int) : Int := if 2 ≤ a then s + (s + 9) / 10 else s
def payP (a n c : Int) : Int := if 3 ≤ a then payB a (payA a n) + 30 * c else payB a (payA a n)
theorem payA_b {a n : Int} (hn : 0 ≤ n ∧ n ≤ 100) : 0 ≤ payA a n ∧ payA a n ≤ 8000 := by
  unfold payA
  split <;> omega
theorem payB_b {a s : Int} (hn : 0 ≤ s ∧ s ≤ 8000) : 0 ≤ payB a s ∧ payB a s ≤ 9000 := by
  unfold payB
  split <;> omega
theorem c_39_41 {a0 a2 a3 : Int} (h2 : 0 ≤ a2 ∧ a2 ≤ 100) (h3 : 0 ≤ a3 ∧ a3 ≤ 9000) (h : P (if 3 ≤ a0 then a3 + 30 * a2 else a3) M) : H_39_41 d P a0 a2 a3 M := by
  refine sg_39_41 ⟨fun q => ?_, fun q => ⟨by unfold inI; omega, by unfold inI; omega, ?_⟩⟩
  · rw [if_neg (by omega)] at h; exact h
  · rw [if_pos q] at h; exact h
theorem c_39_26 {a0 a2 a3 : Int} (h2 : 0 ≤ a2 ∧ a2 ≤ 100) (h3 : 0 ≤ a3 ∧ a3 ≤ 8000) (h : P (if 3 ≤ a0 then payB a0 a3 + 30 * a2 else payB a0 a3) M) : H_39_26 d P a0 a2 a3 M := by
  have hb := payB_b (a := a0) h3
  refine sg_39_26 ⟨fun q => ?_, fun q => ⟨by unfold inI; omega, by omega, by unfold inI; omega, ?_⟩⟩
  · have e : payB a0 a3 = a3 := if_neg (by omega)
    rw [e] at h hb
    exact c_39_41 h2 hb h
  · have e : payB a0 a3 = a3 + (a3 + 9) / 10 := if_pos q
    rw [e] at h hb
    exact c_39_41 h2 hb h
theorem c_39 {a0 a1 a2 : Int} (h1 : 0 ≤ a1 ∧ a1 ≤ 100) (h2 : 0 ≤ a2 ∧ a2 ≤ 100) (h : P (payP a0 a1 a2) M) : EE (d + 1) 39 [vI a0, vI a1, vI a2] M (rI P) := by
  have hb := payA_b (a := a0) h1
  unfold payP at h
  refine sg_39 ⟨by unfold inI; omega, fun q => ?_, fun q => ⟨fun q2 => ?_, fun q2 => ⟨by unfold inI; omega, by unfold inI; omega, by unfold inI; omega, by unfold inI; omega, ?_⟩⟩⟩
  · have e : payA a0 a1 = 60 * a1 := if_neg (by omega)
    rw [e] at h hb
    exact c_39_26 h2 hb h
  · have e : payA a0 a1 = 60 * a1 := if_neg (by omega)
    rw [e] at h hb
    exact c_39_26 h2 hb h
  · have e : payA a0 a1 = 60 * a1 + (24 + 12 * (a1 - 1)) := if_pos ⟨q, q2⟩
    rw [e] at h hb
    exact c_39_26 h2 hb h
theorem c_146_38 {a0 a2 a3 : Int} (h2 : 0 ≤ a2 ∧ a2 ≤ 100) (h3 : 0 ≤ a3 ∧ a3 ≤ 9000) (h : P (if 3 ≤ a0 then a3 + 30 * a2 else a3) M) : H_146_38 d P a0 a2 a3 M := by
  refine sg_146_38 ⟨fun q => ?_, fun q => ⟨by unfold inI; omega, by unfold inI; omega, ?_⟩⟩
  · rw [if_neg (by omega)] at h; exact h
  · rw [if_pos (by omega)] at h; exact h
theorem c_146_23 {a0 a2 a3 : Int} (h2 : 0 ≤ a2 ∧ a2 ≤ 100) (h3 : 0 ≤ a3 ∧ a3 ≤ 8000) (h : P (if 3 ≤ a0 then payB a0 a3 + 30 * a2 else payB a0 a3) M) : H_146_23 d P a0 a2 a3 M := by
  have hb := payB_b (a := a0) h3
  refine sg_146_23 ⟨fun q => ?_, fun q => ⟨by unfold inI; omega, by omega, by unfold inI; omega, ?_⟩⟩
  · have e : payB a0 a3 = a3 := if_neg (by omega)
    rw [e] at h hb
    exact c_146_38 h2 hb h
  · have e : payB a0 a3 = a3 + (a3 + 9) / 10 := if_pos (by omega)
    rw [e] at h hb
    exact c_146_38 h2 hb h
theorem c_146 {a0 a1 a2 : Int} (h1 : 0 ≤ a1 ∧ a1 ≤ 100) (h2 : 0 ≤ a2 ∧ a2 ≤ 100) (h : P (payP a0 a1 a2) M) : EE (d + 1) 146 [vI a0, vI a1, vI a2] M (rI P) := by
  have hb := payA_b (a := a0) h1
  unfold payP at h
  refine sg_146 ⟨by unfold inI; omega, fun q => ?_, fun q => ⟨fun q2 => ?_, fun q2 => ⟨by unfold inI; omega, by unfold inI; omega, by unfold inI; omega, ?_⟩⟩⟩
  · have e : payA a0 a1 = 60 * a1 := if_neg (by omega)
    rw [e] at h hb
    exact c_146_23 h2 hb h
  · have e : payA a0 a1 = 60 * a1 := if_neg (by omega)
    rw [e] at h hb
    exact c_146_23 h2 hb h
  · have e : payA a0 a1 = 60 * a1 + (24 + 12 * (a1 - 1)) := if_pos ⟨by omega, q2⟩
    rw [e] at h hb
    have e2 : 60 * a1 + (12 + 12 * a1) = 60 * a1 + (24 + 12 * (a1 - 1)) := by omega
    rw [e2]
    exact c_146_23 h2 hb h
def bods (a : Int) : Int := if a = 0 then 1 else if a = 1 then 11 else if a = 2 then 111 else 1111
theorem bods_b (a : Int) : 0 ≤ bods a ∧ bods a ≤ 1111 := by
  unfold bods
  split
  · omega
  · split
    · omega
    · split <;> omega
theorem c_38 {a : Int} (h : P (bods a) M) : EE (d + 1) 38 [vI a] M (rL P) := by
  unfold bods at h
  refine sg_38 ⟨fun q => ⟨fun q2 => ⟨fun q3 => ?_, fun q3 => ?_⟩, fun q2 => ?_⟩, fun q => ?_⟩
  · rw [if_neg q, if_neg q2, if_neg q3] at h; exact h
  · rw [if_neg q, if_neg q2, if_pos q3] at h; exact h
  · rw [if_neg q, if_pos q2] at h; exact h
  · rw [if_pos q] at h; exact h
theorem c_119 {a1 a2 a3 s1 : Int} (h : H_119_73 d P a1 a2 a3 (bods a1) s1 M) : ((¬ a1 = 0 → ((¬ a1 = 1 → ((¬ a1 = 2 → H_119_73 d P a1 a2 a3 1111 s1 M) ∧ (a1 = 2 → H_119_73 d P a1 a2 a3 111 s1 M))) ∧ (a1 = 1 → H_119_73 d P a1 a2 a3 11 s1 M))) ∧ (a1 = 0 → H_119_73 d P a1 a2 a3 1 s1 M)) := by
  unfold bods at h
  refine ⟨fun q => ⟨fun q2 => ⟨fun q3 => ?_, fun q3 => ?_⟩, fun q2 => ?_⟩, fun q => ?_⟩
  · rw [if_neg q, if_neg q2, if_neg q3] at h; exact h
  · rw [if_neg q, if_neg q2, if_pos q3] at h; exact h
  · rw [if_neg q, if_pos q2] at h; exact h
  · rw [if_pos q] at h; exact h
theorem op_pay {a1 a2 a3 : Int} (hk : 0 ≤ k ∧ k ≤ 100000) (hI : Inv k M) : opI k (d + 5) 11 119 [vI a1, vI a2, vI a3] M := by
  have hI2 := hI.thr
  obtain ⟨hC, hN, hD, hP, hB, hH, hL, hO, hY, hE, hT⟩ := hI
  obtain ⟨s1, s2, s3⟩ := hT
  have hb := bods_b a1
  by_cases hV : (0 ≤ a1 ∧ a1 ≤ 3) ∧ (0 ≤ a2 ∧ a2 ≤ 9) ∧ (0 ≤ a3 ∧ a3 ≤ a2)
  · obtain ⟨v1, v2, v3⟩ := hV
    refine sg_11 (c_32 (fun _ => t1 ?_) (fun q => absurd v1 q))
    refine c_32 (fun _ => t1 ?_) (fun q => absurd v2 q)
    refine c_32 (fun _ => t1' ?_) (fun q => absurd v3 q)
    refine c_38 ⟨by unfold inJ; omega, c_39 (by omega) (by omega) ?_⟩
    refine sg_119 (c_140 (fun _ => t1 ?_) (fun q => absurd v1 q))
    refine c_140 (fun _ => t1 ?_) (fun q => absurd v2 q)
    refine c_140 (fun _ => t1' ?_) (fun q => absurd v3 q)
    refine c_119 (sg_119_73 ⟨?_, c_146 (by omega) (by omega) ?_⟩)
    · show inJ (M 76 1 + bods a1)
      unfold inJ; omega
    · refine ⟨rfl, hC, hN, hD, hP, hB, hH, hL, hO, hY, hE, ?_, ?_, ?_⟩
      · show M 76 1 + bods a1 = M 0 13 + bods a1
        omega
      · show 0 ≤ M 0 13 + bods a1
        omega
      · show M 0 13 + bods a1 ≤ 1111 * (k + 1)
        omega
  · have hm : EE (d + 5) 119 [vR 76, vI a1, vI a2, vI a3] M (rI fun r2 M2 => r2 = -1 ∧ Inv (k + 1) M2) := by
      refine sg_119 (c_140 (fun v1 => t1 ?_) (fun _ => t0 ⟨rfl, hI2⟩))
      refine c_140 (fun v2 => t1 ?_) (fun _ => t0 ⟨rfl, hI2⟩)
      exact c_140 (fun v3 => absurd ⟨v1, v2, v3⟩ hV) (fun _ => t0' ⟨rfl, hI2⟩)
    refine sg_11 (c_32 (fun v1 => t1 ?_) (fun _ => t0 hm))
    refine c_32 (fun v2 => t1 ?_) (fun _ => t0 hm)
    exact c_32 (fun v3 => absurd ⟨v1, v2, v3⟩ hV) (fun _ => t0' hm)
end OP2
