/-! hall and chosen -/
def psN (tn bt : Int → Int) (g : Int → Int → Bool) (p : Int) : Nat → Int
  | 0 => 0
  | k + 1 => psN tn bt g p k + (if vil tn bt k = p then cn (fun e => decide (vil tn bt e = p) && g k e) k else 0)
theorem psN_b {tn bt : Int → Int} {g : Int → Int → Bool} {p : Int} : ∀ k : Nat, k ≤ 48 → 0 ≤ psN tn bt g p k ∧ psN tn bt g p k ≤ 48 * k
  | 0, _ => by show (0 : Int) ≤ 0 ∧ (0 : Int) ≤ 48 * ((0 : Nat) : Int); omega
  | k + 1, h => by
    have ih := psN_b (tn := tn) (bt := bt) (g := g) (p := p) k (by omega)
    have hc := cn_b (p := fun e => decide (vil tn bt e = p) && g k e) k
    unfold psN
    split <;> omega
theorem psL_N {tn bt : Int → Int} {g : Int → Int → Bool} {p : Int} : ∀ k : Nat, psL g [] (hallN tn bt p k) = psN tn bt g p k
  | 0 => rfl
  | k + 1 => by
    rw [hallN_s]
    unfold psN
    by_cases h : vil tn bt k = p
    · rw [if_pos h, if_pos h, psL_s, psL_N k, List.nil_append, fl_cn]
    · rw [if_neg h, if_neg h, List.append_nil, psL_N k]; omega
def hlS (tn bt kn W : Int → Int) (p w : Int) (i : Nat) : Int := if w = 0 then cn (fun c => decide (vil tn bt c = p)) i else if w = 1 then cn (fun c => decide (vil tn bt c = p) && decide (W c = -9)) i else psN tn bt (gP kn W) p i
theorem lp_120_88 {d : Nat} {P : Int → Mm → Prop} {M : Mm} {bt W : Int → Int} {p s : Int} {i : Nat} (hC : IC M) (hB : ag (M 85) bt) (hr : ∀ c, bt c = -9 ∨ (0 ≤ bt c ∧ bt c < 6)) (hW : ag (M 90) W) (hi : (i : Int) < M 1 6) (hs : 0 ≤ s ∧ s ≤ 48 * i) (hK : H_120_37 (d + 1) P p 2 (s + cn (fun e => decide (vil (M 84) bt e = p) && gP (M 4) W i e) i) ((i : Int) + 1) M) : ∀ (k j : Nat), k + j = i → H_120_88 (d + 1) P p 2 (s + cn (fun e => decide (vil (M 84) bt e = p) && gP (M 4) W i e) j) i j M
  | 0, j, hk => by
    have h48 := hC.1
    refine sg_120_88 ⟨fun _ => ⟨by unfold inI; omega, ?_⟩, fun z => by omega⟩
    rw [show j = i by omega]; exact hK
  | k + 1, j, hk => by
    have h48 := hC.1
    have e79 := hC.2.2.1.2.2.1
    have hcn := cn_b (p := fun e => decide (vil (M 84) bt e = p) && gP (M 4) W i e) j
    have ih := lp_120_88 (d := d) hC hB hr hW hi hs hK k (j + 1) (by omega)
    rw [show ((j + 1 : Nat) : Int) = (j : Int) + 1 by omega, cn_s] at ih
    have hI0 : inI (s + cn (fun e => decide (vil (M 84) bt e = p) && gP (M 4) W i e) j + 0) := by unfold inI; omega
    have hI1 : inI (s + cn (fun e => decide (vil (M 84) bt e = p) && gP (M 4) W i e) j + 1) := by unfold inI; omega
    have hI2 : inI ((j : Int) + 1) := by unfold inI; omega
    have no : (decide (vil (M 84) bt j = p) && gP (M 4) W i j) = false → H_120_88 (d + 1) P p 2 (s + cn (fun e => decide (vil (M 84) bt e = p) && gP (M 4) W i e) j + 0) i ((j : Int) + 1) M := by
      intro z
      rw [if_neg (by rw [z]; decide)] at ih
      rw [Int.add_assoc]; exact ih
    have yes : (decide (vil (M 84) bt j = p) && gP (M 4) W i j) = true → H_120_88 (d + 1) P p 2 (s + cn (fun e => decide (vil (M 84) bt e = p) && gP (M 4) W i e) j + 1) i ((j : Int) + 1) M := by
      intro z
      rw [if_pos z] at ih
      rw [Int.add_assoc]; exact ih
    refine sg_120_88 ⟨fun z => by omega, fun _ => ⟨fun z => absurd rfl z, fun _ => c_144 (bt := bt) (by omega) (hB j (by omega) (by omega)) (hr j) ?_⟩⟩
    refine ⟨fun z => ⟨hI0, hI2, no (by rw [decide_eq_false z]; rfl)⟩, fun z => c_152 (by omega) (by omega) (fun y => t1 ?_) (fun y => t0 ⟨hI0, hI2, no ?_⟩)⟩
    · rw [e79] at y
      rw [hW i (by omega) (by omega), hW j (by omega) (by omega)]
      refine ⟨by omega, fun q => ⟨hI1, hI2, yes ?_⟩, fun q => ⟨by omega, by omega, fun q2 => ⟨hI0, hI2, no ?_⟩, fun q2 => ⟨hI1, hI2, yes ?_⟩⟩⟩
      · unfold gP; rw [decide_eq_true z, y, decide_eq_true q]; simp
      · unfold gP; rw [decide_eq_true q2, decide_eq_false q]; simp
      · unfold gP; rw [decide_eq_true z, y, decide_eq_false q2]; rfl
    · rw [e79] at y
      unfold gP; rw [y]; simp
theorem lp_120_37 {d : Nat} {P : Int → Mm → Prop} {M : Mm} {bt W : Int → Int} {p w : Int} (hC : IC M) (hB : ag (M 85) bt) (hr : ∀ c, bt c = -9 ∨ (0 ≤ bt c ∧ bt c < 6)) (hW : ag (M 90) W) (hw : 0 ≤ w ∧ w ≤ 2) (hK : P (hlS (M 84) bt (M 4) W p w (M 1 6).toNat) M) : ∀ (k i : Nat), (k : Int) = M 1 6 - i → H_120_37 (d + 1) P p w (hlS (M 84) bt (M 4) W p w i) i M
  | 0, i, hk => by
    have h2 := hC.2.1
    refine sg_120_37 ⟨fun _ => ?_, fun z => by omega⟩
    rw [show (M 1 6).toNat = i by omega] at hK; exact hK
  | k + 1, i, hk => by
    have h48 := hC.1
    have h2 := hC.2.1
    have ih := lp_120_37 (d := d) hC hB hr hW hw hK k (i + 1) (by omega)
    rw [show ((i + 1 : Nat) : Int) = (i : Int) + 1 by omega] at ih
    have hI2 : inI ((i : Int) + 1) := by unfold inI; omega
    unfold hlS at ih ⊢
    have nx : ∀ {s : Int}, ¬ w = 2 → H_120_37 (d + 1) P p w s ((i : Int) + 1) M → H_120_88 (d + 1) P p w s i 0 M := fun q h => sg_120_88 ⟨fun _ => ⟨hI2, h⟩, fun _ => ⟨fun _ => ⟨hI2, h⟩, fun z => absurd z q⟩⟩
    refine sg_120_37 ⟨fun z => by omega, fun _ => c_144 (bt := bt) (by omega) (hB i (by omega) (by omega)) (hr i) ?_⟩
    rw [hW i (by omega) (by omega)]
    by_cases w0 : w = 0
    · rw [if_pos w0, cn_s] at ih
      rw [if_pos w0]
      have hcn := cn_b (p := fun c => decide (vil (M 84) bt c = p)) i
      refine ⟨fun z => ⟨hI2, ?_⟩, fun z => ⟨fun _ => ⟨by unfold inI; omega, nx (by omega) ?_⟩, fun q => absurd w0 q⟩⟩
      · rw [if_neg (by rw [decide_eq_false z]; decide), Int.add_zero] at ih; exact ih
      · rw [if_pos (decide_eq_true z)] at ih; exact ih
    · rw [if_neg w0] at ih ⊢
      by_cases w1 : w = 1
      · rw [if_pos w1, cn_s] at ih
        rw [if_pos w1]
        have hcn := cn_b (p := fun c => decide (vil (M 84) bt c = p) && decide (W c = -9)) i
        refine ⟨fun z => ⟨hI2, ?_⟩, fun z => ⟨fun q => absurd q w0, fun _ => ⟨fun q => absurd w1 q, fun _ => ⟨by omega, fun y => ⟨by unfold inI; omega, nx (by omega) ?_⟩, fun y => ⟨by unfold inI; omega, nx (by omega) ?_⟩⟩⟩⟩⟩
        · rw [if_neg (by rw [decide_eq_false z]; simp), Int.add_zero] at ih; exact ih
        · rw [if_neg (by rw [decide_eq_false y]; simp)] at ih; exact ih
        · rw [if_pos (by rw [decide_eq_true z, decide_eq_true y]; rfl)] at ih; exact ih
      · rw [if_neg w1] at ih ⊢
        have w2 : w = 2 := by omega
        subst w2
        have hps := psN_b (tn := M 84) (bt := bt) (g := gP (M 4) W) (p := p) i (by omega)
        unfold psN at ih
        refine ⟨fun z => ⟨hI2, ?_⟩, fun z => ⟨fun q => absurd q w0, fun _ => ⟨fun _ => ⟨by unfold inI; omega, ?_⟩, fun q => absurd q w1⟩⟩⟩
        · rw [if_neg z, Int.add_zero] at ih; exact ih
        · rw [if_pos z] at ih
          exact lp_120_88 hC hB hr hW (by omega) hps ih i 0 rfl
def btM (M : Mm) : Int → Int := bT (M 1 6) (M 5) (M 83) (M 84) (M 10 8)
def hlM (M : Mm) (p : Int) : List Int := hallN (M 84) (btM M) p (M 1 6).toNat
theorem gW_32 {M : Mm} {n : Int} {g f f2 : Int → Int} : rset (gW M n g f) 32 f2 = gW M n g f2 := by unfold gW; rw [rs_rs]
theorem c_40 {d : Nat} {P : Mm → Prop} {M : Mm} {p : Int} (hP : IP M) (hC : IC M) (hB : IB M) (hK : ∀ x a b c e n g f, ag c (btM M) → ag e (bM (M 1 6) (M 5) (M 83) (M 84) (M 10 8)) → hasL (gW (bW (mset M 10 9 0) x a b c e) n g f) (hlM M p) → ag f (fun _ => -9) → P (gW (bW (mset M 10 9 0) x a b c e) n g f)) : EE (d + 4) 40 [vR 0, vI p] M (rV P) :=
  sg_40 (c_94 hP hC hB (fun x a b c e hc he => c_61 (M := bW (mset M 10 9 0) x a b c e) (bt := btM M) hP hC hc (fun c => bT_r c) (fun n g f hl hf => hK x a b c e n g f hc he hl hf)))
theorem c_12 {d : Nat} {P : Int → Mm → Prop} {M : Mm} {p w : Int} (hP : IP M) (hC : IC M) (hB : IB M) (hH : IH M) (hp : 0 ≤ p ∧ p ≤ 5) (hw : 0 ≤ w ∧ w ≤ 2) (hK : ∀ x a b c e n g f, ag c (btM M) → ag e (bM (M 1 6) (M 5) (M 83) (M 84) (M 10 8)) → P (hlS (M 84) (btM M) (M 4) (chs M (hlM M p) p) p w (M 1 6).toNat) (gW (bW (mset M 10 9 0) x a b c e) n g f)) : EE (d + 6) 12 [vR 0, vI p, vI w] M (rI P) := by
  refine sg_12 (c_37 (fun _ => t1 (c_32 (fun _ => t1' ?_) (fun q => absurd hw q))) (fun q => absurd hp q))
  refine c_40 hP hC hB (fun x a b c e n g f hc he hl hf => ?_)
  have hK := fun f => hK x a b c e n g f hc he
  unfold hlS at hK
  refine ⟨fun w0 => ?_, fun w0 => ?_⟩
  · rw [if_neg w0] at hK
    refine c_62 (M := gW (bW (mset M 10 9 0) x a b c e) n g f) (L := hlM M p) hC hH hl hf (fun f2 hf2 => ?_)
    have hl2 : hasL (gW (bW (mset M 10 9 0) x a b c e) n g f2) (hlM M p) := hl
    have hf3 : ag ((gW (bW (mset M 10 9 0) x a b c e) n g f2) 32) (chs M (hlM M p) p) := hf2
    rw [gW_32]
    refine ⟨fun w1 => ?_, fun w1 => ?_⟩
    · rw [if_neg w1] at hK
      refine sg_67 (lp_67 (M := gW (bW (mset M 10 9 0) x a b c e) n g f2) (W := chs M (hlM M p) p) hC hl2 (hallN_b _).2.2 hf3 (hlM M p) [] rfl (by omega) (by show (0 : Int) ≤ 48 * ((0 : Nat) : Int); omega) ?_)
      have := hK f2
      rw [← psL_N] at this
      rw [Int.zero_add]
      exact this
    · rw [if_pos w1] at hK
      refine sg_66 (lp_66 (M := gW (bW (mset M 10 9 0) x a b c e) n g f2) (W := chs M (hlM M p) p) hC hl2 hf3 ?_ (hlM M p) [] rfl)
      have := hK f2
      rw [← fl_cn] at this
      exact this
  · rw [if_pos w0] at hK
    have := hK f
    rw [← ln_cn] at this
    rw [hl.1.1]
    exact this
theorem c_120 {d : Nat} {P : Int → Mm → Prop} {M : Mm} {p w : Int} (hP : IP M) (hC : IC M) (hH : IH M) (hp : 0 ≤ p ∧ p ≤ 5) (hw : 0 ≤ w ∧ w ≤ 2) (hK : ∀ a b c e f, P (hlS (M 84) (btM M) (M 4) (chs M (hlM M p) p) p w (M 1 6).toNat) (rset (mW (mset M 76 0 0) a b c e) 90 f)) : EE (d + 6) 120 [vR 76, vI p, vI w] M (rI P) := by
  refine sg_120 (c_145 (fun _ => t1 (c_140 (fun _ => t1' ?_) (fun q => absurd hw q))) (fun q => absurd hp q))
  refine c_142 (M := mset M 76 0 0) hP hC (fun a b c e ha hb => ?_)
  refine c_147 (M := mW (mset M 76 0 0) a b c e) (bt := btM M) hC hH ha (fun c => bT_r c) (fun f hf => ?_)
  have := lp_120_37 (d := d + 4) (P := P) (M := rset (mW (mset M 76 0 0) a b c e) 90 f) (bt := btM M) (W := chs M (hlM M p) p) (p := p) (w := w) hC ha (fun c => bT_r c) hf hw (hK a b c e f) (M 1 6).toNat 0 (by have := hC.1; show _ = M 1 6 - _; omega)
  have e : hlS ((rset (mW (mset M 76 0 0) a b c e) 90 f) 84) (btM M) ((rset (mW (mset M 76 0 0) a b c e) 90 f) 4) (chs M (hlM M p) p) p w 0 = 0 := by
    unfold hlS
    split
    · rfl
    · split <;> rfl
  rw [e] at this
  exact this
theorem op_hall {d : Nat} {M : Mm} {k p w : Int} (hI : Inv k M) : opI k (d + 9) 12 120 [vI p, vI w] M := by
  have hI2 := hI.thr
  by_cases hp : 0 ≤ p ∧ p ≤ 5
  · by_cases hw : 0 ≤ w ∧ w ≤ 2
    · refine c_12 hI.2.2.2.1 hI.1 hI.2.2.2.2.1 hI.2.2.2.2.2.1 hp hw (fun x a b c e n g f hc he => ?_)
      have hJ := hI.bw (w := x) (a := a) (b := b) hc he
      refine c_120 (M := gW (bW (mset M 10 9 0) x a b c e) n g f) hJ.2.2.2.1 hJ.1 hJ.2.2.2.2.2.1 hp hw (fun a2 b2 c2 e2 f2 => ⟨rfl, ?_⟩)
      obtain ⟨hC, hN, hD, hP, hB, hH, hL, hO, hY, hE, hT⟩ := hJ
      exact ⟨hC, hN, hD, hP, hB, hH, hL, hO, hY, hE, hT.up⟩
    · refine sg_12 (c_37 (fun _ => t1 (c_32 (fun q => absurd q hw) (fun _ => t0' ?_))) (fun q => absurd hp q))
      exact sg_120 (c_145 (fun _ => t1 (c_140 (fun q => absurd q hw) (fun _ => t0' ⟨rfl, hI2⟩))) (fun q => absurd hp q))
  · refine sg_12 (c_37 (fun q => absurd q hp) (fun _ => t0 ?_))
    exact sg_120 (c_145 (fun q => absurd q hp) (fun _ => t0 ⟨rfl, hI2⟩))
theorem vil_9 {M : Mm} (hP : IP M) {bt : Int → Int} {c : Int} (hr : bt c = -9 ∨ (0 ≤ bt c ∧ bt c < 6)) : vil (M 84) bt c = -9 ↔ bt c = -9 := by
  unfold vil
  by_cases h : bt c = -9
  · rw [if_pos h]; exact ⟨fun _ => h, fun _ => rfl⟩
  · rw [if_neg h]
    have := (hP.2.2.2.1 (bt c) (by omega) (by omega)).2.2.2.2
    exact ⟨fun z => by omega, fun z => absurd z h⟩
theorem op_chosen {d : Nat} {M : Mm} {k a1 : Int} (hI : Inv k M) : opI k (d + 9) 13 121 [vI a1] M := by
  have hI2 := hI.thr
  have h48 := hI.1.1
  have h2 := hI.1.2.1
  by_cases hc1 : 0 ≤ a1 ∧ a1 < M 1 6
  · refine sg_13 (c_35 h48 (fun _ => t1' ?_) (fun q => absurd hc1 q))
    refine c_94 hI.2.2.2.1 hI.1 hI.2.2.2.2.1 (fun x a b c e hc he => ?_)
    have hJ := hI.bw (w := x) (a := a) (b := b) hc he
    refine c_98 (M := bW (mset M 10 9 0) x a b c e) (bt := btM M) hJ.2.2.2.1 (by omega) (hc a1 hc1.1 (by omega)) (bT_r a1) ?_
    have hv := vil_9 hI.2.2.2.1 (bt := btM M) (c := a1) (bT_r a1)
    refine ⟨fun z => ?_, fun z => ?_⟩
    · refine c_40 (M := bW (mset M 10 9 0) x a b c e) hJ.2.2.2.1 hJ.1 hJ.2.2.2.2.1 (fun x2 a2 b2 c2 e2 n g f hc2 he2 hl hf => ?_)
      have hJ2 := hJ.bw (w := x2) (a := a2) (b := b2) hc2 he2
      refine c_62 (M := gW (bW (mset (bW (mset M 10 9 0) x a b c e) 10 9 0) x2 a2 b2 c2 e2) n g f) (L := hlM M (vil (M 84) (btM M) a1)) hJ2.1 hJ2.2.2.2.2.2.1 hl hf (fun f2 hf2 => ⟨by omega, ?_⟩)
      rw [gW_32]
      refine sg_121 (c_141 (by show 0 ≤ M 76 2 ∧ M 76 2 ≤ 48; omega) (fun _ => t1' ?_) (fun q => absurd (show 0 ≤ a1 ∧ a1 < M 76 2 by omega) q))
      refine c_142 (M := mset (gW (bW (mset (bW (mset M 10 9 0) x a b c e) 10 9 0) x2 a2 b2 c2 e2) n g f2) 76 0 0) hJ2.2.2.2.1 hJ2.1 (fun a3 b3 c3 e3 ha3 hb3 => ⟨by omega, fun y => ?_, fun y => ?_⟩)
      · refine c_144 (M := mW (mset (gW (bW (mset (bW (mset M 10 9 0) x a b c e) 10 9 0) x2 a2 b2 c2 e2) n g f2) 76 0 0) a3 b3 c3 e3) (bt := btM M) (by omega) (ha3 a1 hc1.1 (by omega)) (bT_r a1) ?_
        refine c_147 (M := mW (mset (gW (bW (mset (bW (mset M 10 9 0) x a b c e) 10 9 0) x2 a2 b2 c2 e2) n g f2) 76 0 0) a3 b3 c3 e3) (bt := btM M) hJ2.1 hJ2.2.2.2.2.2.1 ha3 (fun c => bT_r c) (fun f3 hf3 => ⟨by omega, ?_, ?_⟩)
        · exact (hf3 a1 hc1.1 (by omega)).trans (hf2 a1 hc1.1 (by omega)).symm
        · obtain ⟨hC, hN, hD, hP, hB, hH, hL, hO, hY, hE, hT⟩ := hJ2
          exact ⟨hC, hN, hD, hP, hB, hH, hL, hO, hY, hE, hT.up⟩
      · exact absurd (hv.mpr ((ha3 a1 hc1.1 (by omega)).symm.trans y)) z
    · refine sg_121 (c_141 (by show 0 ≤ M 76 2 ∧ M 76 2 ≤ 48; omega) (fun _ => t1' ?_) (fun q => absurd (show 0 ≤ a1 ∧ a1 < M 76 2 by omega) q))
      refine c_142 (M := mset (bW (mset M 10 9 0) x a b c e) 76 0 0) hJ.2.2.2.1 hJ.1 (fun a3 b3 c3 e3 ha3 hb3 => ⟨by omega, fun y => ?_, fun y => ⟨rfl, ?_⟩⟩)
      · exact absurd ((ha3 a1 hc1.1 (by omega)).trans (hv.mp z)) y
      · obtain ⟨hC, hN, hD, hP, hB, hH, hL, hO, hY, hE, hT⟩ := hJ
        exact ⟨hC, hN, hD, hP, hB, hH, hL, hO, hY, hE, hT.up⟩
  · refine sg_13 (c_35 h48 (fun q => absurd q hc1) (fun _ => t0' ?_))
    exact sg_121 (c_141 (by show 0 ≤ M 76 2 ∧ M 76 2 ≤ 48; omega) (fun q => absurd (show 0 ≤ a1 ∧ a1 < M 1 6 by have q : 0 ≤ a1 ∧ a1 < M 76 2 := q; omega) hc1) (fun _ => t0' ⟨rfl, hI2⟩))
