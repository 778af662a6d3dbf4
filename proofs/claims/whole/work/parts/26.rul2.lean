/-! RULINGS OF THE REFERENCE; ruling, why -/
theorem lp_165_84 {d : Nat} {P : Int → Mm → Prop} {M : Mm} {w c h dy r o : Int} (ho : 0 ≤ o ∧ o < 30) (hc : 0 ≤ c ∧ c < 48) (hh : 0 ≤ h ∧ h < 24) (hcs : 0 ≤ M 92 (25 * o + 4) ∧ M 92 (25 * o + 4) ≤ 6) (h1 : allB (cdj (M 77) (M 78) (M 79) (M 89) (M 92) c h o) (M 92 (25 * o + 4)).toNat = true → H_165_126 (d + 1) P w c h dy r o (25 * o) 1 M) (h0 : allB (cdj (M 77) (M 78) (M 79) (M 89) (M 92) c h o) (M 92 (25 * o + 4)).toNat = false → H_165_126 (d + 1) P w c h dy r o (25 * o) 0 M) : ∀ (n i : Nat), (n : Int) = M 92 (25 * o + 4) - i → allB (cdj (M 77) (M 78) (M 79) (M 89) (M 92) c h o) i = true → H_165_84 (d + 1) P w c h dy r o (25 * o) 1 i M
  | 0, i, hi, hp => by
    refine sg_165_84 ⟨by unfold inI; omega, by omega, fun _ => h1 ?_, fun q => by omega⟩
    rw [show (M 92 (25 * o + 4)).toNat = i by omega]
    exact hp
  | n + 1, i, hi, hp => by
    refine sg_165_84 ⟨by unfold inI; omega, by omega, fun q => by omega, fun q => t1 ⟨by unfold inI; omega, by unfold inI; omega, by unfold inI; omega, ?_⟩⟩
    refine c_166 (by omega) hc hh (fun z => ⟨by unfold inI; omega, ?_⟩) (fun z => ⟨by unfold inI; omega, ?_⟩)
    · have ih := lp_165_84 (d := d) (P := P) (w := w) (dy := dy) (r := r) ho hc hh hcs h1 h0 n (i + 1) (by omega) (by show (allB _ i && cdB _ _ _ _ _ _ _ _) = true; rw [hp, z]; rfl)
      rw [show ((i + 1 : Nat) : Int) = (i : Int) + 1 by omega] at ih
      exact ih
    · have hx := h0 (by have := allB_f (p := cdj (M 77) (M 78) (M 79) (M 89) (M 92) c h o) (j := i) z n; rw [show i + 1 + n = (M 92 (25 * o + 4)).toNat by omega] at this; exact this)
      exact sg_165_84 ⟨by unfold inI; omega, by omega, fun _ => hx, fun _ => t0 hx⟩
theorem lp_165 {d : Nat} {P : Int → Mm → Prop} {M : Mm} {w c h dy : Int} (hO : IO M) (hY : IY M) (hH : IH M) (hc : 0 ≤ c ∧ c < 48) (hh : 0 ≤ h ∧ h < M 24 5) (hd : 0 ≤ dy ∧ dy ≤ 199) (hq : P (rul (M 77) (M 78) (M 79) (M 89) (M 92) (M 94) w c h dy (M 76 21).toNat) M) : ∀ (n i : Nat), (n : Int) = M 76 21 - i → H_165_7 (d + 1) P w c h dy (rul (M 77) (M 78) (M 79) (M 89) (M 92) (M 94) w c h dy i) i M
  | 0, i, hi => by
    refine sg_165_7 ⟨fun _ => ?_, fun q => by omega⟩
    rw [show i = (M 76 21).toNat by omega]
    exact hq
  | n + 1, i, hi => by
    have hs := hO.1
    have hs2 := hO.2.1
    have hok := hO.2.2 i (by omega) (by omega)
    obtain ⟨⟨b1, b2, b3⟩, ⟨d1, d2, d3⟩, v1, ⟨z1, z2, z3⟩, ⟨c1, c2, c3⟩, -⟩ := hok
    obtain ⟨f1, f2, f3, f4, f5⟩ := hH.2.2.1 h
    have hv := (hH.2.2.2 h hh.1 hh.2).1
    have h24 := hH.1
    have hdr := hY.2 (3 * M 89 (5 * h) + M 92 (25 * i)) (by omega) (by omega)
    have ih := lp_165 (d := d) (w := w) hO hY hH hc hh hd hq n (i + 1) (by omega)
    have rb := rul_b (sx := M 77) (ag := M 78) (kn := M 79) (ho := M 89) (od := M 92) (dl := M 94) (w := w) (c := c) (h := h) (dy := dy) i
    rw [show ((i + 1 : Nat) : Int) = (i : Int) + 1 by omega, rul_s] at ih
    generalize hr : rul (M 77) (M 78) (M 79) (M 89) (M 92) (M 94) w c h dy i = r at *
    have skip : ∀ A : Prop, ¬ A → ∀ [Decidable A], H_165_7 (d + 1) P w c h dy (if A then (i : Int) else r) (i + 1) M → H_165_7 (d + 1) P w c h dy r (i + 1) M := by
      intro A hA _ z
      rw [if_neg hA] at z
      exact z
    have take : ∀ A : Prop, A → ∀ [Decidable A], H_165_7 (d + 1) P w c h dy (if A then (i : Int) else r) (i + 1) M → H_165_7 (d + 1) P w c h dy i (i + 1) M := by
      intro A hA _ z
      rw [if_pos hA] at z
      exact z
    have hI : inI ((i : Int) + 1) := by unfold inI; omega
    have no : ∀ {A : Prop}, ¬ A → ∀ [Decidable A], H_165_7 (d + 1) P w c h dy (if A then (i : Int) else r) (i + 1) M → H_165_84 (d + 1) P w c h dy r i (25 * i) 0 0 M := by
      intro A hA _ z
      have hx : H_165_126 (d + 1) P w c h dy r i (25 * i) 0 M := sg_165_126 (t0 ⟨hI, skip A hA z⟩)
      exact sg_165_84 ⟨by unfold inI; omega, by omega, fun _ => hx, fun _ => t0 hx⟩
    refine sg_165_7 ⟨fun q => by omega, fun q => ⟨by unfold inI; omega, by unfold inI; omega, by omega, fun q2 => no (fun z => q2 z.1) ih, fun q2 => ⟨by unfold inI; omega, by omega, by unfold inI; omega, by omega, by unfold inI; omega, by omega, by unfold inI; omega, by omega, by unfold inI; omega, fun q3 => no (fun z => by have := z.2.1; omega) ih, fun q3 => ?_⟩⟩⟩
    refine lp_165_84 (by omega) hc (by omega) (by omega) (fun ha => ?_) (fun ha => sg_165_126 (t0 ⟨hI, skip _ (fun z => by rw [z.2.2.1] at ha; cases ha) ih⟩)) (M 92 (25 * i + 4)).toNat 0 (by omega) rfl
    refine sg_165_126 (t1 ⟨fun q4 => ⟨by unfold inI; omega, ?_⟩, fun q4 => ?_⟩)
    · have rr : 0 ≤ r ∧ r < i := by omega
      refine sg_165_147 ⟨fun e => absurd e q4, fun _ => ⟨by omega, by omega, fun q5 => sg_165_211 (sg_165_216 (t1 ⟨hI, take _ ⟨q2, q3, ha, Or.inr (Or.inl q5)⟩ ih⟩)), fun q5 => ⟨by omega, by omega, fun q6 => sg_165_215 (sg_165_216 (t0 ⟨hI, skip _ (fun z => ?_) ih⟩)), fun q6 => ⟨by unfold inI; omega, by omega, by unfold inI; omega, by omega, fun q7 => sg_165_215 (sg_165_216 (t0 ⟨hI, skip _ (fun z => ?_) ih⟩)), fun q7 => sg_165_211 (sg_165_216 (t1 ⟨hI, take _ ⟨q2, q3, ha, Or.inr (Or.inr ⟨q6, q7⟩)⟩ ih⟩))⟩⟩⟩⟩
      · rcases z.2.2.2 with z | z | z
        · exact q4 z
        · omega
        · omega
      · rcases z.2.2.2 with z | z | z
        · exact q4 z
        · omega
        · omega
    · exact sg_165_147 ⟨fun _ => sg_165_211 (sg_165_216 (t1 ⟨hI, take _ ⟨q2, q3, ha, Or.inl q4⟩ ih⟩)), fun e => absurd q4 e⟩
theorem c_165 {d : Nat} {P : Int → Mm → Prop} {M : Mm} {w c h dy : Int} (hO : IO M) (hY : IY M) (hH : IH M) (hc : 0 ≤ c ∧ c < 48) (hh : 0 ≤ h ∧ h < M 24 5) (hd : 0 ≤ dy ∧ dy ≤ 199) (hq : P (rul (M 77) (M 78) (M 79) (M 89) (M 92) (M 94) w c h dy (M 76 21).toNat) M) : EE (d + 2) 165 [vR 76, vI w, vI c, vI h, vI dy] M (rI P) :=
  sg_165 (lp_165 hO hY hH hc hh hd hq (M 76 21).toNat 0 (by have := hO.1; have := hO.2.1; omega))
theorem c_45 {d : Nat} {P : Int → Mm → Prop} {M : Mm} {w c h dy : Int} (hO : IO M) (hY : IY M) (hH : IH M) (hc : 0 ≤ c ∧ c < 48) (hh : 0 ≤ h ∧ h < M 24 5) (hk : 0 ≤ M 4 c) (hd : 0 ≤ dy ∧ dy ≤ 199) (hq : P (rul (M 2) (M 3) (M 4) (M 89) (M 92) (M 94) w c h dy (M 58 8).toNat) M) : EE (d + 5) 45 [vR 0, vI w, vI c, vI h, vI dy] M (rI P) := by
  have h24 := hH.1
  have hv := (hH.2.2.2 h hh.1 hh.2).1
  refine sg_45 ⟨by omega, by omega, sg_79 ?_⟩
  exact lp_79 hO hY hH hc hh hk hd hq (M 58 8).toNat 0 (by have := hO.1; omega)
/-- what the ruling says -/
def rlg (od : Int → Int) (r : Int) : Int := if r = -9 then 0 else od (25 * r + 2)
theorem c_44 {d : Nat} {P : Int → Mm → Prop} {M : Mm} {w c h dy : Int} (hO : IO M) (hY : IY M) (hH : IH M) (hc : 0 ≤ c ∧ c < 48) (hh : 0 ≤ h ∧ h < M 24 5) (hk : 0 ≤ M 4 c) (hd : 0 ≤ dy ∧ dy ≤ 199) (hq : P (rlg (M 92) (rul (M 2) (M 3) (M 4) (M 89) (M 92) (M 94) w c h dy (M 58 8).toNat)) M) : EE (d + 6) 44 [vR 0, vI w, vI c, vI h, vI dy] M (rI P) := by
  refine sg_44 (c_45 hO hY hH hc hh hk hd ?_)
  have rb := rul_b (sx := M 2) (ag := M 3) (kn := M 4) (ho := M 89) (od := M 92) (dl := M 94) (w := w) (c := c) (h := h) (dy := dy) (M 58 8).toNat
  generalize rul (M 2) (M 3) (M 4) (M 89) (M 92) (M 94) w c h dy (M 58 8).toNat = r at *
  have hs := hO.1
  unfold rlg at hq
  refine ⟨fun q => ⟨by omega, ?_⟩, fun q => ?_⟩
  · rw [if_neg q] at hq
    rw [(hO.2.2 r (by omega) (by omega)).2.2.1.1]
    exact hq
  · rw [if_pos q] at hq; exact hq
theorem c_164 {d : Nat} {P : Int → Mm → Prop} {M : Mm} {w c h dy : Int} (hO : IO M) (hY : IY M) (hH : IH M) (hc : 0 ≤ c ∧ c < 48) (hh : 0 ≤ h ∧ h < M 24 5) (hd : 0 ≤ dy ∧ dy ≤ 199) (hq : P (rlg (M 92) (rul (M 77) (M 78) (M 79) (M 89) (M 92) (M 94) w c h dy (M 76 21).toNat)) M) : EE (d + 3) 164 [vR 76, vI w, vI c, vI h, vI dy] M (rI P) := by
  refine sg_164 (c_165 hO hY hH hc hh hd ?_)
  have rb := rul_b (sx := M 77) (ag := M 78) (kn := M 79) (ho := M 89) (od := M 92) (dl := M 94) (w := w) (c := c) (h := h) (dy := dy) (M 76 21).toNat
  generalize rul (M 77) (M 78) (M 79) (M 89) (M 92) (M 94) w c h dy (M 76 21).toNat = r at *
  have hs := hO.1
  have hs2 := hO.2.1
  unfold rlg at hq
  refine ⟨fun q => ⟨by unfold inI; omega, by unfold inI; omega, by omega, ?_⟩, fun q => ?_⟩
  · rw [if_neg q] at hq; exact hq
  · rw [if_pos q] at hq; exact hq
section OP6
variable {d : Nat} {M : Mm} {k : Int}
theorem op_ruling {w c h dy : Int} (hI : Inv k M) : opI k (d + 9) 17 125 [vI w, vI c, vI h, vI dy] M := by
  have hI2 := hI.thr
  obtain ⟨hC, hN, hD, hP, hB, hH, hL, hO, hY, hE, hT⟩ := hI
  have hn := hC.1
  have hn2 := hC.2.1
  have hhn := hH.1
  have hhn2 := hH.2.1
  by_cases hV : (0 ≤ w ∧ w ≤ 2) ∧ (0 ≤ c ∧ c < M 1 6) ∧ (0 ≤ h ∧ h < M 24 5) ∧ (0 ≤ dy ∧ dy ≤ 199)
  · obtain ⟨v1, v2, v3, v4⟩ := hV
    have hkc := (hC.2.2.2 c v2.1 v2.2).2.2.1
    refine sg_17 (sg_41 (c_32 (fun _ => t1 ?_) (fun q => absurd v1 q)))
    refine c_35 hn (fun _ => t1 ?_) (fun q => absurd v2 q)
    refine c_42 hhn (fun _ => t1 ?_) (fun q => absurd v3 q)
    refine c_43 (fun _ => t1 (t1' ?_)) (fun q => absurd v4 q)
    refine c_44 hO hY hH (by omega) v3 hkc.1 v4 ?_
    refine sg_125 (c_140 (fun _ => t1 ?_) (fun q => absurd v1 q))
    refine c_141 (by show 0 ≤ M 76 2 ∧ M 76 2 ≤ 48; omega) (fun _ => t1 ?_) (fun q => absurd (show 0 ≤ c ∧ c < M 76 2 by omega) q)
    refine c_162 (by show 0 ≤ M 76 16 ∧ M 76 16 ≤ 24; omega) (fun _ => t1 ?_) (fun q => absurd (show 0 ≤ h ∧ h < M 76 16 by omega) q)
    refine c_163 (fun _ => t1 ?_) (fun q => absurd v4 q)
    refine c_164 (M := mset M 76 0 0) hO hY hH (by omega) v3 v4 ⟨?_, hI2⟩
    show rlg (M 92) (rul (M 77) (M 78) (M 79) (M 89) (M 92) (M 94) w c h dy (M 76 21).toNat) = _
    rw [hC.2.2.1.1, hC.2.2.1.2.1, hC.2.2.1.2.2.1, hO.2.1]
  · have hm : EE (d + 9) 125 [vR 76, vI w, vI c, vI h, vI dy] M (rI fun r2 M2 => r2 = -5 ∧ Inv (k + 1) M2) := by
      refine sg_125 (c_140 (fun v1 => t1 ?_) (fun _ => t0 ⟨rfl, hI2⟩))
      refine c_141 (by show 0 ≤ M 76 2 ∧ M 76 2 ≤ 48; omega) (fun v2 => t1 ?_) (fun _ => t0 ⟨rfl, hI2⟩)
      refine c_162 (by show 0 ≤ M 76 16 ∧ M 76 16 ≤ 24; omega) (fun v3 => t1 ?_) (fun _ => t0 ⟨rfl, hI2⟩)
      exact c_163 (fun v4 => absurd ⟨v1, by have v2 : 0 ≤ c ∧ c < M 76 2 := v2; omega, by have v3 : 0 ≤ h ∧ h < M 76 16 := v3; omega, v4⟩ hV) (fun _ => t0 ⟨rfl, hI2⟩)
    refine sg_17 (sg_41 (c_32 (fun v1 => t1 ?_) (fun _ => t0 (t0' hm))))
    refine c_35 hn (fun v2 => t1 ?_) (fun _ => t0 (t0' hm))
    refine c_42 hhn (fun v3 => t1 ?_) (fun _ => t0 (t0' hm))
    exact c_43 (fun v4 => absurd ⟨v1, v2, v3, v4⟩ hV) (fun _ => t0 (t0' hm))
theorem op_why {w c h dy : Int} (hI : Inv k M) : opI k (d + 9) 18 126 [vI w, vI c, vI h, vI dy] M := by
  have hI2 := hI.thr
  obtain ⟨hC, hN, hD, hP, hB, hH, hL, hO, hY, hE, hT⟩ := hI
  have hn := hC.1
  have hn2 := hC.2.1
  have hhn := hH.1
  have hhn2 := hH.2.1
  by_cases hV : (0 ≤ w ∧ w ≤ 2) ∧ (0 ≤ c ∧ c < M 1 6) ∧ (0 ≤ h ∧ h < M 24 5) ∧ (0 ≤ dy ∧ dy ≤ 199)
  · obtain ⟨v1, v2, v3, v4⟩ := hV
    have hkc := (hC.2.2.2 c v2.1 v2.2).2.2.1
    refine sg_18 (sg_41 (c_32 (fun _ => t1 ?_) (fun q => absurd v1 q)))
    refine c_35 hn (fun _ => t1 ?_) (fun q => absurd v2 q)
    refine c_42 hhn (fun _ => t1 ?_) (fun q => absurd v3 q)
    refine c_43 (fun _ => t1 (t1' ?_)) (fun q => absurd v4 q)
    refine c_45 hO hY hH (by omega) v3 hkc.1 v4 ?_
    refine sg_126 (c_140 (fun _ => t1 ?_) (fun q => absurd v1 q))
    refine c_141 (by show 0 ≤ M 76 2 ∧ M 76 2 ≤ 48; omega) (fun _ => t1 ?_) (fun q => absurd (show 0 ≤ c ∧ c < M 76 2 by omega) q)
    refine c_162 (by show 0 ≤ M 76 16 ∧ M 76 16 ≤ 24; omega) (fun _ => t1 ?_) (fun q => absurd (show 0 ≤ h ∧ h < M 76 16 by omega) q)
    refine c_163 (fun _ => t1 ?_) (fun q => absurd v4 q)
    refine c_165 (M := mset M 76 0 0) hO hY hH (by omega) v3 v4 ⟨?_, hI2⟩
    show rul (M 77) (M 78) (M 79) (M 89) (M 92) (M 94) w c h dy (M 76 21).toNat = _
    rw [hC.2.2.1.1, hC.2.2.1.2.1, hC.2.2.1.2.2.1, hO.2.1]
  · have hm : EE (d + 9) 126 [vR 76, vI w, vI c, vI h, vI dy] M (rI fun r2 M2 => r2 = -1 ∧ Inv (k + 1) M2) := by
      refine sg_126 (c_140 (fun v1 => t1 ?_) (fun _ => t0 ⟨rfl, hI2⟩))
      refine c_141 (by show 0 ≤ M 76 2 ∧ M 76 2 ≤ 48; omega) (fun v2 => t1 ?_) (fun _ => t0 ⟨rfl, hI2⟩)
      refine c_162 (by show 0 ≤ M 76 16 ∧ M 76 16 ≤ 24; omega) (fun v3 => t1 ?_) (fun _ => t0 ⟨rfl, hI2⟩)
      exact c_163 (fun v4 => absurd ⟨v1, by have v2 : 0 ≤ c ∧ c < M 76 2 := v2; omega, by have v3 : 0 ≤ h ∧ h < M 76 16 := v3; omega, v4⟩ hV) (fun _ => t0 ⟨rfl, hI2⟩)
    refine sg_18 (sg_41 (c_32 (fun v1 => t1 ?_) (fun _ => t0 (t0' hm))))
    refine c_35 hn (fun v2 => t1 ?_) (fun _ => t0 (t0' hm))
    refine c_42 hhn (fun v3 => t1 ?_) (fun _ => t0 (t0' hm))
    exact c_43 (fun v4 => absurd ⟨v1, v2, v3, v4⟩ hV) (fun _ => t0 (t0' hm))
end OP6
