/-! RULINGS -/
def soB (sx ag kn ho od : Int → Int) (k c h : Int) : Bool := if od k = 0 then decide (sx c = od (k + 1)) else if od k = 1 then decide (ag c < od (k + 1)) else if od k = 2 then decide (od (k + 1) < ag c) else if od k = 3 then decide (0 < kn c) else if od k = 4 then decide (ho (5 * h + 1) = od (k + 1)) else decide (ho (5 * h) = od (k + 1))
def cdB (sx ag kn ho od : Int → Int) (k c h : Int) : Bool := if od (k + 2) = 1 then !soB sx ag kn ho od k c h else soB sx ag kn ho od k c h
def allB (p : Nat → Bool) : Nat → Bool
  | 0 => true
  | n + 1 => allB p n && p n
theorem allB_f {p : Nat → Bool} {j : Nat} (h : p j = false) : ∀ m : Nat, allB p (j + 1 + m) = false
  | 0 => by show (allB p j && p j) = false; rw [h, Bool.and_false]
  | m + 1 => by
    show (allB p (j + 1 + m) && p (j + 1 + m)) = false
    rw [allB_f h m, Bool.false_and]
theorem c_166_179 {d : Nat} {P : Int → Mm → Prop} {M : Mm} {a : Int} {b : Bool} (ha : 0 ≤ a ∧ a + 2 < 750) (h1 : (if M 92 (a + 2) = 1 then !b else b) = true → P 1 M) (h0 : (if M 92 (a + 2) = 1 then !b else b) = false → P 0 M) : H_166_179 d P a (if b = true then 1 else 0) M := by
  refine sg_166_179 ⟨by unfold inI; omega, by omega, fun q => ?_, fun q => ?_⟩
  · rw [if_neg q] at h1 h0
    cases b with
    | true => exact t1 (h1 rfl)
    | false => exact t0 (h0 rfl)
  · rw [if_pos q] at h1 h0
    cases b with
    | true => exact ⟨fun _ => h0 rfl, fun e => absurd rfl e⟩
    | false => exact ⟨fun e => absurd e (by decide), fun _ => h1 rfl⟩
theorem c_166 {d : Nat} {P : Int → Mm → Prop} {M : Mm} {a c h : Int} (ha : 0 ≤ a ∧ a + 2 < 750) (hc : 0 ≤ c ∧ c < 48) (hh : 0 ≤ h ∧ h < 24) (h1 : cdB (M 77) (M 78) (M 79) (M 89) (M 92) a c h = true → P 1 M) (h0 : cdB (M 77) (M 78) (M 79) (M 89) (M 92) a c h = false → P 0 M) : EE (d + 1) 166 [vR 76, vI a, vI c, vI h] M (rI P) := by
  have key : ∀ b : Bool, soB (M 77) (M 78) (M 79) (M 89) (M 92) a c h = b → H_166_179 d P a (if b = true then 1 else 0) M := by
    intro b hb
    unfold cdB at h1 h0
    rw [hb] at h1 h0
    exact c_166_179 ha h1 h0
  have kt : soB (M 77) (M 78) (M 79) (M 89) (M 92) a c h = true → H_166_179 d P a 1 M := key true
  have kf : soB (M 77) (M 78) (M 79) (M 89) (M 92) a c h = false → H_166_179 d P a 0 M := key false
  unfold soB at kt kf
  refine sg_166 ⟨by unfold inI; omega, by omega, by omega, fun q => ⟨hc, fun q2 => sg_166_68 ?_, fun q2 => sg_166_68 ?_⟩, fun q => ⟨hc, fun q2 => sg_166_89 ?_, fun q2 => sg_166_89 ?_⟩, fun q => ⟨hc, fun q2 => sg_166_110 ?_, fun q2 => sg_166_110 ?_⟩, fun q => ⟨hc, fun q2 => sg_166_129 ?_, fun q2 => sg_166_129 ?_⟩, fun q => ⟨by unfold inI; omega, by unfold inI; omega, by omega, fun q2 => sg_166_154 ?_, fun q2 => sg_166_154 ?_⟩, fun q => ⟨by unfold inI; omega, by omega, fun q2 => sg_166_177 ?_, fun q2 => sg_166_177 ?_⟩⟩
  · rw [if_pos q] at kf; exact kf (decide_eq_false q2)
  · rw [if_pos q] at kt; exact kt (decide_eq_true q2)
  · rw [if_neg (by omega), if_pos q] at kf; exact kf (decide_eq_false (by omega))
  · rw [if_neg (by omega), if_pos q] at kt; exact kt (decide_eq_true q2)
  · rw [if_neg (by omega), if_neg (by omega), if_pos q] at kf; exact kf (decide_eq_false (by omega))
  · rw [if_neg (by omega), if_neg (by omega), if_pos q] at kt; exact kt (decide_eq_true q2)
  · rw [if_neg (by omega), if_neg (by omega), if_neg (by omega), if_pos q] at kf; exact kf (decide_eq_false (by omega))
  · rw [if_neg (by omega), if_neg (by omega), if_neg (by omega), if_pos q] at kt; exact kt (decide_eq_true q2)
  · rw [if_neg (by omega), if_neg (by omega), if_neg (by omega), if_neg (by omega), if_pos q] at kf; exact kf (decide_eq_false q2)
  · rw [if_neg (by omega), if_neg (by omega), if_neg (by omega), if_neg (by omega), if_pos q] at kt; exact kt (decide_eq_true q2)
  · rw [if_neg (by omega), if_neg (by omega), if_neg (by omega), if_neg (by omega), if_neg (by omega)] at kf; exact kf (decide_eq_false q2)
  · rw [if_neg (by omega), if_neg (by omega), if_neg (by omega), if_neg (by omega), if_neg (by omega)] at kt; exact kt (decide_eq_true q2)
theorem enW_i {w x : Int} (h0 : 0 ≤ w ∧ w ≤ 5) (h : x = enW w) : (x = 0 → w = 0) ∧ (x = 1 → w = 1) ∧ (x = 2 → w = 3) ∧ (x = 3 → w = 4) ∧ (x = 4 → w = 5) ∧ ((x < 0 ∨ 5 ≤ x) → w = 2) := by
  have hc : w = 0 ∨ w = 1 ∨ w = 2 ∨ w = 3 ∨ w = 4 ∨ w = 5 := by omega
  rcases hc with rfl | rfl | rfl | rfl | rfl | rfl
  · have h : x = 0 := h.trans (by decide)
    refine ⟨fun q => ?_, fun q => ?_, fun q => ?_, fun q => ?_, fun q => ?_, fun q => ?_⟩ <;> omega
  · have h : x = 1 := h.trans (by decide)
    refine ⟨fun q => ?_, fun q => ?_, fun q => ?_, fun q => ?_, fun q => ?_, fun q => ?_⟩ <;> omega
  · have h : x = 5 := h.trans (by decide)
    refine ⟨fun q => ?_, fun q => ?_, fun q => ?_, fun q => ?_, fun q => ?_, fun q => ?_⟩ <;> omega
  · have h : x = 2 := h.trans (by decide)
    refine ⟨fun q => ?_, fun q => ?_, fun q => ?_, fun q => ?_, fun q => ?_, fun q => ?_⟩ <;> omega
  · have h : x = 3 := h.trans (by decide)
    refine ⟨fun q => ?_, fun q => ?_, fun q => ?_, fun q => ?_, fun q => ?_, fun q => ?_⟩ <;> omega
  · have h : x = 4 := h.trans (by decide)
    refine ⟨fun q => ?_, fun q => ?_, fun q => ?_, fun q => ?_, fun q => ?_, fun q => ?_⟩ <;> omega
theorem c_81 {d : Nat} {P : Int → Mm → Prop} {M : Mm} {a c h k : Int} (ha : 0 ≤ a ∧ a < 180) (hc : 0 ≤ c ∧ c < 48) (hh : 0 ≤ h ∧ h < 24) (hw : M 64 a = enW (M 92 k)) (hr : 0 ≤ M 92 k ∧ M 92 k ≤ 5) (hv : ¬ M 92 k = 3 → M 65 a = M 92 (k + 1)) (e1 : M 26 h = M 89 (5 * h + 1)) (e2 : M 25 h = M 89 (5 * h)) (hk : 0 ≤ M 4 c) (h1 : soB (M 2) (M 3) (M 4) (M 89) (M 92) k c h = true → P 1 M) (h0 : soB (M 2) (M 3) (M 4) (M 89) (M 92) k c h = false → P 0 M) : EE (d + 2) 81 [vR 58, vI a, vR 1, vI c, vR 24, vI h] M (rI P) := by
  unfold soB at h1 h0
  obtain ⟨n0, n1, n2, n3, n4, n5⟩ := enW_i hr hw
  refine sg_81 ⟨ha, ha, fun q => ⟨hc, fun q2 => ?_, fun q2 => ?_⟩, fun q => ⟨hc, fun q2 => ?_, fun q2 => ?_⟩, fun q => c_53 hc (fun q2 => ⟨Or.inr rfl, ?_⟩) (fun q2 => ⟨Or.inl rfl, ?_⟩), fun q => ⟨hh, fun q2 => ?_, fun q2 => ?_⟩, fun q => ⟨hh, fun q2 => ?_, fun q2 => ?_⟩, fun q => ⟨hc, fun q2 => ?_, fun q2 => ?_⟩⟩
  · have w := n0 q
    rw [if_pos w, ← hv (by omega)] at h0; exact h0 (decide_eq_false q2)
  · have w := n0 q
    rw [if_pos w, ← hv (by omega)] at h1; exact h1 (decide_eq_true q2)
  · have w := n1 q
    rw [if_neg (by omega), if_pos w, ← hv (by omega)] at h0; exact h0 (decide_eq_false (by omega))
  · have w := n1 q
    rw [if_neg (by omega), if_pos w, ← hv (by omega)] at h1; exact h1 (decide_eq_true q2)
  · have w := n2 q
    rw [if_neg (by omega), if_neg (by omega), if_neg (by omega), if_pos w] at h1; exact h1 (decide_eq_true (by omega))
  · have w := n2 q
    rw [if_neg (by omega), if_neg (by omega), if_neg (by omega), if_pos w] at h0; exact h0 (decide_eq_false (by omega))
  · have w := n3 q
    rw [if_neg (by omega), if_neg (by omega), if_neg (by omega), if_neg (by omega), if_pos w, ← hv (by omega), ← e1] at h0; exact h0 (decide_eq_false q2)
  · have w := n3 q
    rw [if_neg (by omega), if_neg (by omega), if_neg (by omega), if_neg (by omega), if_pos w, ← hv (by omega), ← e1] at h1; exact h1 (decide_eq_true q2)
  · have w := n4 q
    rw [if_neg (by omega), if_neg (by omega), if_neg (by omega), if_neg (by omega), if_neg (by omega), ← hv (by omega), ← e2] at h0; exact h0 (decide_eq_false q2)
  · have w := n4 q
    rw [if_neg (by omega), if_neg (by omega), if_neg (by omega), if_neg (by omega), if_neg (by omega), ← hv (by omega), ← e2] at h1; exact h1 (decide_eq_true q2)
  · have w := n5 q
    rw [if_neg (by omega), if_neg (by omega), if_pos w, ← hv (by omega)] at h0; exact h0 (decide_eq_false (by omega))
  · have w := n5 q
    rw [if_neg (by omega), if_neg (by omega), if_pos w, ← hv (by omega)] at h1; exact h1 (decide_eq_true q2)
/-- condition j of order o holds -/
def cdj (sx ag kn ho od : Int → Int) (c h o : Int) (j : Nat) : Bool := cdB sx ag kn ho od (25 * o + 5 + 3 * j) c h
theorem lp_80 {d : Nat} {P : Int → Mm → Prop} {M : Mm} {c h o : Int} (ho : 0 ≤ o ∧ o < 30) (hc : 0 ≤ c ∧ c < 48) (hh : 0 ≤ h ∧ h < 24) (hok : ordOk (M 59) (M 60) (M 61) (M 62) (M 63) (M 64) (M 65) (M 66) (M 92) o) (e1 : M 26 h = M 89 (5 * h + 1)) (e2 : M 25 h = M 89 (5 * h)) (hk : 0 ≤ M 4 c) (h1 : allB (cdj (M 2) (M 3) (M 4) (M 89) (M 92) c h o) (M 63 o).toNat = true → P 1 M) (h0 : allB (cdj (M 2) (M 3) (M 4) (M 89) (M 92) c h o) (M 63 o).toNat = false → P 0 M) : ∀ (n i : Nat), (n : Int) = M 63 o - i → allB (cdj (M 2) (M 3) (M 4) (M 89) (M 92) c h o) i = true → H_80_3 (d + 2) P o c h i M
  | 0, i, hi, hp => by
    refine sg_80_3 ⟨ho, fun _ => h1 ?_, fun q => by omega⟩
    rw [show (M 63 o).toNat = i by omega]
    exact hp
  | n + 1, i, hi, hp => by
    have hok2 := hok
    obtain ⟨-, -, -, -, ⟨y5, y6, y7⟩, y8⟩ := hok2
    obtain ⟨⟨w1, w2, w3⟩, v1, n1, n2⟩ := y8 i (by omega) (by omega)
    have hcd : cdj (M 2) (M 3) (M 4) (M 89) (M 92) c h o i = if M 66 (6 * o + i) = 1 then !soB (M 2) (M 3) (M 4) (M 89) (M 92) (25 * o + 5 + 3 * i) c h else soB (M 2) (M 3) (M 4) (M 89) (M 92) (25 * o + 5 + 3 * i) c h := by
      unfold cdj cdB
      rw [n1]
    have eo : o * 6 + (i : Int) = 6 * o + i := by omega
    have good : cdj (M 2) (M 3) (M 4) (M 89) (M 92) c h o i = true → H_80_3 (d + 2) P o c h (i + 1) M := by
      intro z
      have ih := lp_80 (d := d) ho hc hh hok e1 e2 hk h1 h0 n (i + 1) (by omega) (by show (allB _ i && _) = true; rw [hp, z]; rfl)
      rw [show ((i + 1 : Nat) : Int) = (i : Int) + 1 by omega] at ih
      exact ih
    have bad : cdj (M 2) (M 3) (M 4) (M 89) (M 92) c h o i = false → P 0 M := by
      intro z
      apply h0
      have := allB_f z n
      rw [show i + 1 + n = (M 63 o).toNat by omega] at this
      exact this
    refine sg_80_3 ⟨ho, fun q => by omega, fun q => ⟨by unfold inI; omega, by unfold inI; omega, ?_⟩⟩
    rw [eo]
    refine c_81 (k := 25 * o + 5 + 3 * i) (by omega) hc hh w1 ⟨w2, w3⟩ v1 e1 e2 hk (fun z => ⟨by omega, fun q2 => ⟨by unfold inI; omega, good ?_⟩, fun q2 => bad ?_⟩) (fun z => ⟨by omega, fun q2 => ⟨by unfold inI; omega, good ?_⟩, fun q2 => bad ?_⟩)
    · rw [hcd, z, if_neg (by omega)]
    · rw [hcd, z, if_pos (by omega)]; rfl
    · rw [hcd, z, if_pos (by omega)]; rfl
    · rw [hcd, z, if_neg (by omega)]
theorem c_80 {d : Nat} {P : Int → Mm → Prop} {M : Mm} {c h o : Int} (ho : 0 ≤ o ∧ o < 30) (hc : 0 ≤ c ∧ c < 48) (hh : 0 ≤ h ∧ h < 24) (hok : ordOk (M 59) (M 60) (M 61) (M 62) (M 63) (M 64) (M 65) (M 66) (M 92) o) (e1 : M 26 h = M 89 (5 * h + 1)) (e2 : M 25 h = M 89 (5 * h)) (hk : 0 ≤ M 4 c) (h1 : allB (cdj (M 2) (M 3) (M 4) (M 89) (M 92) c h o) (M 63 o).toNat = true → P 1 M) (h0 : allB (cdj (M 2) (M 3) (M 4) (M 89) (M 92) c h o) (M 63 o).toNat = false → P 0 M) : EE (d + 3) 80 [vR 58, vI o, vR 1, vI c, vR 24, vI h] M (rI P) :=
  sg_80 (lp_80 ho hc hh hok e1 e2 hk h1 h0 (M 63 o).toNat 0 (by have := hok.2.2.2.2.1; omega) rfl)
/-- the order that rules, of the first o ones -/
def rul (sx ag kn ho od dl : Int → Int) (w c h dy : Int) : Nat → Int
  | 0 => -9
  | o + 1 => if od (25 * o + 3) = w ∧ od (25 * o + 1) + dl (3 * ho (5 * h) + od (25 * o)) ≤ dy ∧ allB (cdj sx ag kn ho od c h o) (od (25 * o + 4)).toNat = true ∧ (rul sx ag kn ho od dl w c h dy o = -9 ∨ od (25 * o) < od (25 * rul sx ag kn ho od dl w c h dy o) ∨ (od (25 * o) = od (25 * rul sx ag kn ho od dl w c h dy o) ∧ od (25 * rul sx ag kn ho od dl w c h dy o + 1) ≤ od (25 * o + 1))) then (o : Int) else rul sx ag kn ho od dl w c h dy o
theorem rul_s {sx ag kn ho od dl : Int → Int} {w c h dy : Int} {o : Nat} : rul sx ag kn ho od dl w c h dy (o + 1) = if od (25 * o + 3) = w ∧ od (25 * o + 1) + dl (3 * ho (5 * h) + od (25 * o)) ≤ dy ∧ allB (cdj sx ag kn ho od c h o) (od (25 * o + 4)).toNat = true ∧ (rul sx ag kn ho od dl w c h dy o = -9 ∨ od (25 * o) < od (25 * rul sx ag kn ho od dl w c h dy o) ∨ (od (25 * o) = od (25 * rul sx ag kn ho od dl w c h dy o) ∧ od (25 * rul sx ag kn ho od dl w c h dy o + 1) ≤ od (25 * o + 1))) then (o : Int) else rul sx ag kn ho od dl w c h dy o := rfl
theorem rul_b {sx ag kn ho od dl : Int → Int} {w c h dy : Int} : ∀ o : Nat, rul sx ag kn ho od dl w c h dy o = -9 ∨ (0 ≤ rul sx ag kn ho od dl w c h dy o ∧ rul sx ag kn ho od dl w c h dy o < o)
  | 0 => Or.inl rfl
  | o + 1 => by
    have ih := rul_b (sx := sx) (ag := ag) (kn := kn) (ho := ho) (od := od) (dl := dl) (w := w) (c := c) (h := h) (dy := dy) o
    rw [rul_s]
    split <;> omega
theorem lp_79 {d : Nat} {P : Int → Mm → Prop} {M : Mm} {w c h dy : Int} (hO : IO M) (hY : IY M) (hH : IH M) (hc : 0 ≤ c ∧ c < 48) (hh : 0 ≤ h ∧ h < M 24 5) (hk : 0 ≤ M 4 c) (hd : 0 ≤ dy ∧ dy ≤ 199) (hq : P (rul (M 2) (M 3) (M 4) (M 89) (M 92) (M 94) w c h dy (M 58 8).toNat) M) : ∀ (n i : Nat), (n : Int) = M 58 8 - i → H_79_7 (d + 3) P w c h dy (M 25 h) (rul (M 2) (M 3) (M 4) (M 89) (M 92) (M 94) w c h dy i) i M
  | 0, i, hi => by
    refine sg_79_7 ⟨fun _ => ?_, fun q => by omega⟩
    rw [show i = (M 58 8).toNat by omega]
    exact hq
  | n + 1, i, hi => by
    have hs := hO.1
    have hok := hO.2.2 i (by omega) (by omega)
    have hok2 := hok
    obtain ⟨⟨b1, b2, b3⟩, ⟨d1, d2, d3⟩, v1, ⟨z1, z2, z3⟩, ⟨c1, c2, c3⟩, -⟩ := hok2
    obtain ⟨f1, f2, f3, f4, f5⟩ := hH.2.2.1 h
    have hv := (hH.2.2.2 h hh.1 hh.2).1
    have h24 := hH.1
    have hdl := hY.at (t := M 25 h) (j := M 59 i) hv.1 (by omega) b2 (by omega)
    have hdr := hY.2 (3 * M 25 h + M 59 i) (by omega) (by omega)
    have ih := lp_79 (d := d) (w := w) hO hY hH hc hh hk hd hq n (i + 1) (by omega)
    have rb := rul_b (sx := M 2) (ag := M 3) (kn := M 4) (ho := M 89) (od := M 92) (dl := M 94) (w := w) (c := c) (h := h) (dy := dy) i
    rw [show ((i + 1 : Nat) : Int) = (i : Int) + 1 by omega, rul_s, ← z1, ← d1, ← b1, ← c1, ← f1] at ih
    generalize hr : rul (M 2) (M 3) (M 4) (M 89) (M 92) (M 94) w c h dy i = r at *
    have skip : ∀ A : Prop, ¬ A → ∀ [Decidable A], H_79_7 (d + 3) P w c h dy (M 25 h) (if A then (i : Int) else r) (i + 1) M → H_79_7 (d + 3) P w c h dy (M 25 h) r (i + 1) M := by
      intro A hA _ z
      rw [if_neg hA] at z
      exact z
    have take : ∀ A : Prop, A → ∀ [Decidable A], H_79_7 (d + 3) P w c h dy (M 25 h) (if A then (i : Int) else r) (i + 1) M → H_79_7 (d + 3) P w c h dy (M 25 h) i (i + 1) M := by
      intro A hA _ z
      rw [if_pos hA] at z
      exact z
    have hI : inI ((i : Int) + 1) := by unfold inI; omega
    refine sg_79_7 ⟨fun q => by omega, fun q => ⟨by omega, fun q2 => ⟨hI, skip _ (fun z => q2 z.1) ih⟩, fun q2 => ⟨by omega, by omega, by omega, ?_, fun q3 => ⟨hI, skip _ (fun z => ?_) ih⟩, fun q3 => ?_⟩⟩⟩
    · rw [hdl]; unfold inI; omega
    · have := z.2.1
      rw [hdl] at q3
      omega
    · rw [hdl] at q3
      refine c_80 (by omega) hc (by omega) hok f2 f1 hk (fun ha => t1 ⟨fun q4 => ⟨hI, take _ ⟨q2, q3, ha, Or.inl q4⟩ ih⟩, fun q4 => ?_⟩) (fun ha => t0 ⟨hI, skip _ (fun z => by rw [z.2.2.1] at ha; cases ha) ih⟩)
      have rr : 0 ≤ r ∧ r < i := by omega
      have hokr := hO.2.2 r (by omega) (by omega)
      obtain ⟨⟨rb1, rb2, rb3⟩, ⟨rd1, rd2, rd3⟩, -⟩ := hokr
      rw [← rb1, ← rd1] at ih
      refine ⟨by omega, by omega, fun q5 => ⟨hI, take _ ⟨q2, q3, ha, Or.inr (Or.inl q5)⟩ ih⟩, fun q5 => ⟨by omega, by omega, fun q6 => ⟨hI, skip _ (fun z => ?_) ih⟩, fun q6 => ⟨by omega, by omega, fun q7 => ⟨hI, skip _ (fun z => ?_) ih⟩, fun q7 => ⟨hI, take _ ⟨q2, q3, ha, Or.inr (Or.inr ⟨q6, q7⟩)⟩ ih⟩⟩⟩⟩
      · rcases z.2.2.2 with z | z | z
        · exact q4 z
        · omega
        · omega
      · rcases z.2.2.2 with z | z | z
        · exact q4 z
        · omega
        · omega
