/-! lodging: the reference's answer, and the operation -/
theorem ldE_e {n : Nat} {D D' : Nat → Bool} {β : Nat → Nat} (h : ∀ i, i < n → D i = D' i) (j : Nat) : ldE n D β j = ldE n D' β j := cnB_congr (fun i hi => by rw [h i hi])
theorem okE_e {tkb tkb' : Nat → Nat → Bool} {bd : Nat → Nat} {n m : Nat} {D D' : Nat → Bool} {β : Nat → Nat} (h : ∀ i, i < n → D i = D' i) (ht : ∀ j i, j < m → i < n → tkb j i = tkb' j i) (ho : okE tkb bd n m D β) : okE tkb' bd n m D' β :=
  ⟨fun i hi he hl => by rw [← ht _ i hl hi]; exact ho.1 i hi (by rw [h i hi]; exact he) hl, fun j hj => by rw [← ldE_e h j]; exact ho.2 j hj⟩
theorem csE_e {kin : Nat → Nat → Bool} {n m : Nat} {D D' : Nat → Bool} {β : Nat → Nat} (h : ∀ i, i < n → D i = D' i) : csE kin n m D β = csE kin n m D' β := by
  have e1 : cnB D n = cnB D' n := cnB_congr h
  have e2 : lgE n m D β = lgE n m D' β := cnB_congr (fun i hi => by rw [h i hi])
  have e3 : ttE kin n D = ttE kin n D' := smB_congr (fun i hi => by
    rw [h i hi, cnB_congr (fun t ht => by rw [h t (by omega)])])
  have e4 : kpE kin n m D β = kpE kin n m D' β := smB_congr (fun i hi => by
    rw [h i hi, cnB_congr (fun t ht => by rw [h t (by omega)])])
  unfold csE
  rw [e1, e2, e3, e4]
theorem knn_tr {kn : Int → Int} {a b c : Int} (h1 : knn kn a b = true) (h2 : knn kn a c = true) : knn kn b c = true := by
  unfold knn at *
  have h3 := Bool.and_eq_true_iff.mp h1
  have h4 := Bool.and_eq_true_iff.mp h2
  have a1 := of_decide_eq_true h3.1
  have a2 := of_decide_eq_true h3.2
  have a3 := of_decide_eq_true h4.2
  rw [decide_eq_true (show 0 < kn b by omega), decide_eq_true (show kn b = kn c by omega)]; rfl
/-- D holds with each member all its kin -/
def clE (kn : Int → Int) (cm : Nat → Int) (n : Nat) (D : Nat → Bool) : Prop := ∀ t u, t < n → u < n → D t = true → knn kn (cm t) (cm u) = true → D u = true
theorem hp_k {kn : Int → Int} {cm : Nat → Int} {i t : Nat} (h : hpE kn cm i t = true) : i ≤ t ∧ (t = i ∨ knn kn (cm i) (cm t) = true) := by
  unfold hpE at h
  have h1 := Bool.and_eq_true_iff.mp h
  refine ⟨of_decide_eq_true h1.1, ?_⟩
  rcases Bool.or_eq_true_iff.mp h1.2 with y | y
  · exact Or.inl (of_decide_eq_true y)
  · exact Or.inr y
theorem hp_all {kn : Int → Int} {cm : Nat → Int} {n i : Nat} {D : Nat → Bool} (hi : i < n) (hcl : clE kn cm n D) (h1 : ∀ t, t < i → D t = true) (h0 : D i = false) : dsE n D (hpE kn cm i) ∧ nkE (kinL kn cm) n D (hpE kn cm i) ∧ akE (kinL kn cm) n (hpE kn cm i) ∧ clE kn cm n (orE D (hpE kn cm i)) := by
  have ds : dsE n D (hpE kn cm i) := by
    intro t ht hd
    cases hp : hpE kn cm i t with
    | false => rfl
    | true =>
      obtain ⟨_, y⟩ := hp_k hp
      rcases y with y | y
      · subst y; rw [h0] at hd; exact absurd hd (by decide)
      · have := hcl t i ht hi hd (by rw [knn_sym]; exact y)
        rw [h0] at this; exact absurd this (by decide)
  have nk : ∀ t u, t < n → u < n → D t = true → hpE kn cm i u = true → knn kn (cm t) (cm u) = false := by
    intro t u ht hu hd hp
    cases hk : knn kn (cm t) (cm u) with
    | false => rfl
    | true =>
      have h2 := ds u hu (hcl t u ht hu hd hk)
      rw [hp] at h2; exact absurd h2 (by decide)
  refine ⟨ds, fun t u ht hu hd hp => ?_, fun t u ht hu hp1 hp2 => ?_, fun t u ht hu hd hk => ?_⟩
  · have h2 := nk t u ht hu hd hp
    unfold kinL
    rw [h2, knn_sym, h2, Bool.and_false, Bool.and_false]; exact ⟨rfl, rfl⟩
  · unfold kinL
    rw [decide_eq_true (show ¬ u = t by omega), Bool.true_and]
    obtain ⟨_, y1⟩ := hp_k hp1
    obtain ⟨_, y2⟩ := hp_k hp2
    rcases y1 with y1 | y1
    · rcases y2 with y2 | y2
      · omega
      · rw [y1]; exact y2
    · rcases y2 with y2 | y2
      · rw [y2, knn_sym]; exact y1
      · exact knn_tr y1 y2
  · unfold orE at hd ⊢
    rcases Bool.or_eq_true_iff.mp hd with y | y
    · rw [hcl t u ht hu y hk]; rfl
    · by_cases l : u < i
      · rw [h1 u l]; rfl
      · have : hpE kn cm i u = true := by
          unfold hpE
          rw [decide_eq_true (show i ≤ u by omega), Bool.true_and]
          obtain ⟨_, y1⟩ := hp_k y
          rcases y1 with y1 | y1
          · rw [y1] at hk
            rw [hk, Bool.or_true]
          · rw [knn_sym] at y1
            have := knn_tr y1 hk
            rw [this, Bool.or_true]
        rw [this, Bool.or_true]
theorem lp_122_238 {d : Nat} {P : Int → Mm → Prop} {M : Mm} {w : Int} {cm hm : Nat → Int} {sr T bd : Nat → Nat} {n m : Nat} {x y z : Int → Int} (hnm : n ≤ 12 ∧ m ≤ 6) (hx : ∀ t : Nat, t < n → x t = cm t ∧ (0 ≤ cm t ∧ cm t < 48) ∧ (M 77 (cm t) = 0 ∨ M 77 (cm t) = 1) ∧ srt (M 77) (M 78) (cm t) = (sr t : Nat) ∧ sr t < 4) (hy : ∀ j : Nat, j < m → y j = hm j ∧ (0 ≤ hm j ∧ hm j < 24) ∧ M 89 (5 * hm j + 3) = (T j : Nat) ∧ T j < 16) (hz : ∀ j : Nat, j < m → z j = (bd j : Nat)) (hbd : ∀ j, j < m → bd j ≤ 4) (hK : ∀ (D : Nat → Bool) (s dn f g ww cc : Int → Int), (∀ t, t < n → D t = true) → SndR (kinL (M 79) cm) (fun j i => (T j).testBit (sr i)) bd n m D f → CmpR (kinL (M 79) cm) (fun j i => (T j).testBit (sr i)) bd n m D f → H_122_378 (d + 3) P w (5 ^ m : Nat) 1000000 0 (rW (qW M x y z s dn) f g ww cc)) : ∀ (k i : Nat) {D : Nat → Bool} {s dn f g ww cc : Int → Int}, k + i = n → (∀ t, t < i → D t = true) → clE (M 79) cm n D → isD dn n D → SndR (kinL (M 79) cm) (fun j i => (T j).testBit (sr i)) bd n m D f → CmpR (kinL (M 79) cm) (fun j i => (T j).testBit (sr i)) bd n m D f → H_122_238 (d + 3) P w n m (5 ^ m : Nat) i (rW (qW M x y z s dn) f g ww cc)
  | 0, i, D, s, dn, f, g, ww, cc, hk, h1, hcl, hd, hS, hC => by
    exact sg_122_238 ⟨fun _ => hK D s dn f g ww cc (fun t ht => h1 t (by omega)) hS hC, fun q => by omega⟩
  | k + 1, i, D, s, dn, f, g, ww, cc, hk, h1, hcl, hd, hS, hC => by
    have hdi := hd i (by omega)
    have hn := hnm.1
    refine sg_122_238 ⟨fun q => by omega, fun _ => ⟨by omega, fun q => ⟨by unfold inI; omega, ?_⟩, fun q => ?_⟩⟩
    · have q : ¬ dn i = 0 := q
      rcases hdi with y1 | y1
      · exact absurd y1.1 q
      · have := lp_122_238 (d := d) (P := P) hnm hx hy hz hbd hK k (i + 1) (D := D) (s := s) (dn := dn) (f := f) (g := g) (ww := ww) (cc := cc) (by omega) (fun t ht => by
          by_cases e : t = i
          · subst e; exact y1.2
          · exact h1 t (by omega)) hcl hd hS hC
        rw [show ((i + 1 : Nat) : Int) = (i : Int) + 1 by omega] at this
        exact this
    · have q : dn i = 0 := q
      have hD0 : D i = false := by
        rcases hdi with y1 | y1
        · exact y1.2
        · exact absurd q y1.1
      obtain ⟨ds, nk, ak, cl2⟩ := hp_all (by omega) hcl h1 hD0
      refine lp_122_260 (fun s2 hs2 => ?_) 4 0 rfl (fun t ht => by omega)
      have c0 : ∀ p : Nat → Bool, (∀ t, p t = true → i ≤ t) → cnB p i = 0 := fun p hp => cnB_0 (fun t ht => by
        cases hpt : p t with
        | false => rfl
        | true => have := hp t hpt; omega)
      have key := lp_122_284 (d := d + 2) (P := P) (w := w) (a4 := m) (a5 := (5 ^ m : Nat)) (D := D) (x := x) (y := y) (z := z) (f := f) (g := g) (ww := ww) (cc := cc) hn (show i < n by omega) hx ?_ (n - i) i (s := s2) (dn := dn) (by omega) (Nat.le_refl i) (fun u hu => ?_) (fun t ht => ?_)
      · rw [c0 (hpE (M 79) cm i) (fun t ht => (hp_k ht).1)] at key
        exact key
      · intro s3 dn3 hs3 hd3
        refine c_153 (d := d) (M := qW M x y z s3 dn3) (hm := hm) (bd := bd) ⟨hnm, hy, fun t ht => (hx t ht).2.2.2.2, hs3⟩ hbd hz (fun p hp hlt => ?_) (fun f2 g2 w2 cc2 hst => ⟨by unfold inI; omega, ?_⟩)
        · obtain ⟨β, _, _, e⟩ := hS p hp hlt
          have := (csE_b (kin := kinL (M 79) cm) (m := m) (D := D) (β := β) hn).1
          omega
        · have := lp_122_238 (d := d) (P := P) hnm hx hy hz hbd hK k (i + 1) (D := orE D (hpE (M 79) cm i)) (s := s3) (dn := dn3) (f := f2) (g := g2) (ww := w2) (cc := cc2) (by omega) (fun t ht => by
            unfold orE
            by_cases e : t = i
            · subst e
              have : hpE (M 79) cm t t = true := by
                unfold hpE
                rw [decide_eq_true (Nat.le_refl t), decide_eq_true rfl]; rfl
              rw [this, Bool.or_true]
            · rw [h1 t (by omega)]; rfl) cl2 hd3 (SndR_s hbd ds nk ak hS hst) (CmpR_s hn hbd ds nk ak hC hst)
          rw [show ((i + 1 : Nat) : Int) = (i : Int) + 1 by omega] at this
          exact this
      · rw [c0 _ (fun t ht => (hp_k (Bool.and_eq_true_iff.mp ht).1).1)]
        exact hs2 u hu
      · have := hd t ht
        have e2 : (D t || (hpE (M 79) cm i t && decide (t < i))) = D t := by
          cases hp : hpE (M 79) cm i t with
          | false => rw [Bool.false_and, Bool.or_false]
          | true => rw [decide_eq_false (by have := (hp_k hp).1; omega), Bool.and_false, Bool.or_false]
        show (_ ∧ (D t || (hpE (M 79) cm i t && decide (t < i))) = false) ∨ (_ ∧ (D t || (hpE (M 79) cm i t && decide (t < i))) = true)
        rw [e2]; exact this
theorem lp_122_378 {d : Nat} {P : Int → Mm → Prop} {M : Mm} {w : Int} {m : Nat} (hm6 : m ≤ 6) (hw : w = 0 ∨ w = 1) (hf : ∀ p : Nat, p < 5 ^ m → M 102 p < 1000000 → 0 ≤ M 102 p) (hK : ∀ v : Int, (∀ p : Nat, p < 5 ^ m → v ≤ M 102 p) → (v = 1000000 ∨ ∃ p : Nat, p < 5 ^ m ∧ M 102 p = v ∧ v < 1000000) → P (if w = 0 then v / 1000 else v % 1000) M) : ∀ (k i : Nat) {v : Int}, k + i = 5 ^ m → 0 ≤ v → v ≤ 1000000 → (∀ p : Nat, p < i → v ≤ M 102 p) → (v = 1000000 ∨ ∃ p : Nat, p < 5 ^ m ∧ M 102 p = v ∧ v < 1000000) → H_122_378 d P w (5 ^ m : Nat) v i M
  | 0, i, v, hk, h0, h1, h2, h3 => by
    have e : i = 5 ^ m := by omega
    subst e
    have := hK v h2 h3
    refine sg_122_378 ⟨fun _ => ⟨fun q => ⟨by omega, ?_⟩, fun q => ⟨by omega, ?_⟩⟩, fun q => by omega⟩
    · rw [if_neg q] at this; exact this
    · rw [if_pos q] at this; exact this
  | k + 1, i, v, hk, h0, h1, h2, h3 => by
    have h5 := p5 m hm6
    have ih : ∀ {v : Int}, 0 ≤ v → v ≤ 1000000 → (∀ p : Nat, p < i + 1 → v ≤ M 102 p) → (v = 1000000 ∨ ∃ p : Nat, p < 5 ^ m ∧ M 102 p = v ∧ v < 1000000) → H_122_378 d P w (5 ^ m : Nat) v ((i : Int) + 1) M := by
      intro v a b c e
      have := lp_122_378 (d := d) hm6 hw hf hK k (i + 1) (v := v) (by omega) a b c e
      rw [show ((i + 1 : Nat) : Int) = (i : Int) + 1 by omega] at this
      exact this
    refine sg_122_378 ⟨fun q => by omega, fun _ => ⟨by omega, fun q => ⟨by unfold inI; omega, ih h0 h1 (fun p hp => ?_) h3⟩, fun q => ⟨by omega, by unfold inI; omega, ih (hf i (by omega) (by omega)) (by omega) (fun p hp => ?_) (Or.inr ⟨i, by omega, rfl, by omega⟩)⟩⟩⟩
    · by_cases e : p = i
      · subst e; exact q
      · exact h2 p (by omega)
    · by_cases e : p = i
      · subst e; exact Int.le_refl _
      · have := h2 p (by omega); omega
theorem bit16 : ∀ t, t < 16 → ∀ s, s < 4 → decide (zand (zshr ((t : Nat) : Int) ((s : Nat) : Int)) 1 = 1) = t.testBit s := by
  decide +kernel
theorem csF_0 {kin : Nat → Nat → Bool} {n m : Nat} {β : Nat → Nat} : csE kin n m (fun _ => false) β = 0 := by
  have e1 : cnB (fun _ => false) n = 0 := cnB_0 (fun i _ => rfl)
  have e2 : lgE n m (fun _ => false) β = 0 := cnB_0 (fun i _ => rfl)
  have e3 : ttE kin n (fun _ => false) = 0 := smB_ext2 (n := 0) (by omega) (fun i _ => rfl)
  have e4 : kpE kin n m (fun _ => false) β = 0 := smB_ext2 (n := 0) (by omega) (fun i _ => rfl)
  unfold csE
  rw [e1, e2, e3, e4]; rfl
theorem c_122 {d : Nat} {P : Int → Mm → Prop} {M : Mm} {v w : Int} (hP : IP M) (hC : IC M) (hH : IH M) (hv : 0 ≤ v ∧ v ≤ 5) (hw : 0 ≤ w ∧ w ≤ 1) (hbad : (12 < (hlM M v).length ∨ 6 < (flN (fun h => decide (M 89 (5 * h) = v)) (M 24 5).toNat).length) → ∀ a b c e x y, P (-2) (rset (rset (mW (mset M 76 0 0) a b c e) 99 x) 100 y)) (hok : (hlM M v).length ≤ 12 → (flN (fun h => decide (M 89 (5 * h) = v)) (M 24 5).toNat).length ≤ 6 → ∀ o p, isBest (M 2) (M 3) (M 4) (M 89) (hlM M v) (flN (fun h => decide (M 89 (5 * h) = v)) (M 24 5).toNat) o p → ∀ a b c e x y z s dn f g ww cc, P (if w = 0 then o else p) (rW (qW (mW (mset M 76 0 0) a b c e) x y z s dn) f g ww cc)) : EE (d + 5) 122 [vR 76, vI v, vI w] M (rI P) := by
  have h48 := hC.1
  have h24 := hH.1
  refine sg_122 (c_145 (fun _ => t1 (c_140 (fun _ => t1' ?_) (fun q => absurd hw q))) (fun q => absurd hv q))
  refine c_142 (M := mset M 76 0 0) hP hC (fun a b c e ha hb => ?_)
  have key := lp_122_32 (d := d + 3) (P := P) (v := v) (w := w) (M := mW (mset M 76 0 0) a b c e) (bt := btM M) hC ha (fun c => bT_r c) ?_ (M 1 6).toNat 0 (x := (mW (mset M 76 0 0) a b c e) 99) (by show (((M 1 6).toNat : Nat) : Int) = M 1 6 - ((0 : Nat) : Int); omega) (fun j c hj => by
    have hj : ([] : List Int)[j]? = some c := hj
    simp at hj)
  · rw [rs_id] at key; exact key
  intro x hx
  have hx : ∀ (j : Nat) (c : Int), (hlM M v)[j]? = some c → x j = c := hx
  show H_122_77 (d + 4) P v w ((hlM M v).length : Nat) 0 1 0 (rset (mW (mset M 76 0 0) a b c e) 99 x)
  have key := lp_122_77 (d := d + 4) (P := P) (v := v) (w := w) (a3 := ((hlM M v).length : Nat)) (M := rset (mW (mset M 76 0 0) a b c e) 99 x) hH ?_ (M 24 5).toNat 0 (y := (rset (mW (mset M 76 0 0) a b c e) 99 x) 100) (by show (((M 24 5).toNat : Nat) : Int) = M 24 5 - ((0 : Nat) : Int); omega) (fun j c hj => by
    have hj : ([] : List Int)[j]? = some c := hj
    simp at hj)
  · rw [rs_id] at key; exact key
  intro y hy
  refine ⟨fun q => ?_, fun q => ⟨fun q2 => ?_, fun q2 => ?_⟩⟩
  · exact hbad (Or.inl (by omega)) a b c e x y
  · have hy : ∀ (j : Nat) (h : Int), (flN (fun h => decide (M 89 (5 * h) = v)) (M 24 5).toNat)[j]? = some h → y j = h := hy
    have q2 : ((flN (fun h => decide (M 89 (5 * h) = v)) (M 24 5).toNat).length : Int) ≤ 6 := q2
    show H_122_136 (d + 4) P w ((hlM M v).length : Nat) ((flN (fun h => decide (M 89 (5 * h) = v)) (M 24 5).toNat).length : Nat) 1 0 (rset (rset (mW (mset M 76 0 0) a b c e) 99 x) 100 y)
    have hLnd : (flN (fun h => decide (M 89 (5 * h) = v)) (M 24 5).toNat).Nodup := (idx_nd _).filter _
    have hCnd : (hlM M v).Nodup := (hallN_b (tn := M 84) (bt := btM M) (v := v) (M 1 6).toNat).2.2.imp (fun h => by omega)
    have hCin := (hallN_b (tn := M 84) (bt := btM M) (v := v) (M 1 6).toNat).2.1
    have hLin : ∀ h ∈ flN (fun h => decide (M 89 (5 * h) = v)) (M 24 5).toNat, 0 ≤ h ∧ h < M 24 5 := by
      intro h hh
      have := (flN_in.mp hh).1
      omega
    have hCin : ∀ c ∈ hlM M v, 0 ≤ c ∧ c < M 1 6 := by
      intro c hc
      have := (hCin c hc).1
      omega
    have hok := hok (by omega) (by omega)
    generalize flN (fun h => decide (M 89 (5 * h) = v)) (M 24 5).toNat = L at *
    generalize hlM M v = C at *
    have hhb : ∀ j, j < L.length → (0 ≤ L.getD j 0 ∧ L.getD j 0 < 24) ∧ (1 ≤ M 89 (5 * L.getD j 0 + 2) ∧ M 89 (5 * L.getD j 0 + 2) ≤ 4) ∧ (0 ≤ M 89 (5 * L.getD j 0 + 3) ∧ M 89 (5 * L.getD j 0 + 3) ≤ 15) := by
      intro j hj
      have h1 := hLin _ (getD_in hj)
      have h2 := hH.2.2.2 _ h1.1 h1.2
      rw [(hH.2.2.1 _).2.2.1, (hH.2.2.1 _).2.2.2.1] at h2
      exact ⟨by omega, h2.2.2.1, h2.2.2.2.1⟩
    have hcb : ∀ i, i < C.length → (0 ≤ C.getD i 0 ∧ C.getD i 0 < 48) ∧ (M 2 (C.getD i 0) = 0 ∨ M 2 (C.getD i 0) = 1) := by
      intro i hi
      have h1 := hCin _ (getD_in hi)
      exact ⟨by omega, (hC.2.2.2 _ h1.1 h1.2).1⟩
    have e7 : M 77 = M 2 := hC.2.2.1.1
    have e8 : M 78 = M 3 := hC.2.2.1.2.1
    have e9 : M 79 = M 4 := hC.2.2.1.2.2.1
    have hsb : ∀ i, i < C.length → srt (M 2) (M 3) (C.getD i 0) = (srI M (fun i => C.getD i 0) i : Nat) ∧ srI M (fun i => C.getD i 0) i < 4 := by
      intro i hi
      have hs := (hcb i hi).2
      have hb : 0 ≤ srt (M 2) (M 3) (C.getD i 0) ∧ srt (M 2) (M 3) (C.getD i 0) < 4 := by
        unfold srt
        split <;> omega
      unfold srI
      show srt (M 2) (M 3) (C.getD i 0) = ((srt (M 2) (M 3) (C.getD i 0)).toNat : Int) ∧ (srt (M 2) (M 3) (C.getD i 0)).toNat < 4
      omega
    rw [rq_id]
    refine lp_122_136 (hm := fun j => L.getD j 0) (by omega) (fun j hj => ⟨hy j _ (getD_at hj), (hhb j hj).1⟩) (fun z hz => ?_) L.length 0 rfl (fun i hi => by omega)
    refine lp_122_181 (by omega) (fun f hf => ?_) (5 ^ L.length) 0 rfl (fun p hp => by omega)
    refine lp_122_215 (n := C.length) (by omega) (fun dn hdn => ?_) C.length 0 rfl (fun p hp => by omega)
    refine lp_122_238 (d := d + 1) (M := mW (mset M 76 0 0) a b c e) (cm := fun i => C.getD i 0) (hm := fun j => L.getD j 0) (sr := srI M (fun i => C.getD i 0)) (T := fun j => (M 89 (5 * L.getD j 0 + 3)).toNat) (bd := bdL (M 89) (fun j => L.getD j 0)) ⟨by omega, by omega⟩ (fun t ht => ⟨hx t _ (getD_at ht), (hcb t ht).1, ?_, ?_, (hsb t ht).2⟩) (fun j hj => ⟨hy j _ (getD_at hj), (hhb j hj).1, ?_, ?_⟩) (fun j hj => ?_) (fun j hj => ?_) (fun D s dn f g ww cc hD hS hC2 => ?_) C.length 0 (D := fun _ => false) rfl (fun t ht => by omega) (fun t u _ _ hd => Bool.noConfusion hd) (fun t ht => Or.inl ⟨hdn t ht, rfl⟩) ?_ ?_
    · show M 77 (C.getD t 0) = 0 ∨ M 77 (C.getD t 0) = 1
      rw [e7]; exact (hcb t ht).2
    · show srt (M 77) (M 78) (C.getD t 0) = _
      rw [e7, e8]; exact (hsb t ht).1
    · have := (hhb j hj).2.2
      show M 89 (5 * L.getD j 0 + 3) = ((M 89 (5 * L.getD j 0 + 3)).toNat : Int)
      omega
    · have := (hhb j hj).2.2
      show (M 89 (5 * L.getD j 0 + 3)).toNat < 16
      omega
    · have h1 := hz j hj
      have h2 := (hhb j hj).2.1
      have h1 : z j = M 89 (5 * L.getD j 0 + 2) := h1
      show z j = ((M 89 (5 * L.getD j 0 + 2)).toNat : Int)
      omega
    · have h2 := (hhb j hj).2.1
      show (M 89 (5 * L.getD j 0 + 2)).toNat ≤ 4
      omega
    · have hS : SndR (kinL (M 79) (fun i => C.getD i 0)) (fun j i => ((M 89 (5 * L.getD j 0 + 3)).toNat).testBit (srI M (fun i => C.getD i 0) i)) (bdL (M 89) (fun j => L.getD j 0)) C.length L.length D f := hS
      have hC2 : CmpR (kinL (M 79) (fun i => C.getD i 0)) (fun j i => ((M 89 (5 * L.getD j 0 + 3)).toNat).testBit (srI M (fun i => C.getD i 0) i)) (bdL (M 89) (fun j => L.getD j 0)) C.length L.length D f := hC2
      rw [e9] at hS hC2
      have htk : ∀ j i, j < L.length → i < C.length → ((M 89 (5 * L.getD j 0 + 3)).toNat).testBit (srI M (fun i => C.getD i 0) i) = tks (M 2) (M 3) (M 89) (L.getD j 0) (C.getD i 0) := by
        intro j i hj hi
        have h2 := (hhb j hj).2.2
        unfold tks
        rw [(hsb i hi).1, ← bit16 _ (by omega) _ (hsb i hi).2, show (((M 89 (5 * L.getD j 0 + 3)).toNat : Nat) : Int) = M 89 (5 * L.getD j 0 + 3) by omega]
      refine lp_122_378 (by omega) (by omega) (fun p hp hlt => ?_) (fun r r1 r2 => ?_) (5 ^ L.length) 0 rfl (by omega) (by omega) (fun p hp => by omega) (Or.inl rfl)
      · obtain ⟨β, _, _, e⟩ := hS p hp hlt
        have := (csE_b (kin := kinL (M 4) (fun i => C.getD i 0)) (m := L.length) (D := D) (β := β) (show C.length ≤ 12 by omega)).1
        show 0 ≤ f p
        omega
      · have r1 : ∀ p : Nat, p < 5 ^ L.length → r ≤ f p := r1
        have r2 : r = 1000000 ∨ ∃ p : Nat, p < 5 ^ L.length ∧ f p = r ∧ r < 1000000 := r2
        have hb4 : ∀ j, j < L.length → bdL (M 89) (fun j => L.getD j 0) j ≤ 4 := fun j hj => by
          have h2 := (hhb j hj).2.1
          show (M 89 (5 * L.getD j 0 + 2)).toNat ≤ 4
          omega
        have hmin : ∀ β : Nat → Nat, okE (fun j i => ((M 89 (5 * L.getD j 0 + 3)).toNat).testBit (srI M (fun i => C.getD i 0) i)) (bdL (M 89) (fun j => L.getD j 0)) C.length L.length D β → r ≤ csE (kinL (M 4) (fun i => C.getD i 0)) C.length L.length D β := by
          intro β hβ
          exact Int.le_trans (r1 _ (cd5_lt (fun j hj => Nat.le_trans (hβ.2 j hj) (hb4 j hj)))) (hC2 β hβ)
        have hne : ∃ p : Nat, p < 5 ^ L.length ∧ f p = r ∧ r < 1000000 := by
          rcases r2 with e | e
          · exfalso
            have h1 := hmin (fun _ => L.length) ⟨fun i _ _ hl => absurd hl (Nat.lt_irrefl _), fun j hj => by
              have e0 : ldE C.length D (fun _ => L.length) j = 0 := cnB_0 (fun i _ => by rw [decide_eq_false (show ¬ L.length = j by omega), Bool.and_false])
              rw [e0]; exact Nat.zero_le _⟩
            have h2 := (csE_b (kin := kinL (M 4) (fun i => C.getD i 0)) (m := L.length) (D := D) (β := fun _ => L.length) (show C.length ≤ 12 by omega)).2.1
            omega
          · exact e
        obtain ⟨p, p1, p2, p3⟩ := hne
        obtain ⟨β, b1, _, b3⟩ := hS p p1 (by omega)
        have key := best_ofR (sx := M 2) (ag := M 3) (kn := M 4) (ho := M 89) (cm := fun i => C.getD i 0) (hm := fun j => L.getD j 0) (n := C.length) (m := L.length) (v := r) (by omega) (getD_nd hCnd) (getD_nd hLnd) (fun j hj e => by
          have := (hhb j hj).1
          have e : L.getD j 0 = -9 := e
          omega) (fun j hj => by
          have := (hhb j hj).2.1
          show 0 ≤ M 89 (5 * L.getD j 0 + 2)
          omega) ⟨β, okE_e (fun i hi => hD i hi) htk b1, by rw [← csE_e (fun i hi => hD i hi)]; omega⟩ (fun β' hβ' => by
          rw [← csE_e (fun i hi => hD i hi)]
          exact hmin β' (okE_e (fun i hi => (hD i hi).symm) (fun j i hj hi => (htk j i hj hi).symm) hβ'))
        rw [lst_getD, lst_getD] at key
        exact hok _ _ key a b c e x y z s dn f g ww cc
    · intro p hp hlt
      rw [hf p hp] at hlt ⊢
      by_cases e0 : p = 0
      · subst e0
        have e1 : ∀ m, cd5 (ldE C.length (fun _ => false) (fun _ => 0)) m = 0 := by
          intro m
          have e2 : ∀ j, ldE C.length (fun _ => false) (fun _ => 0) j = 0 := fun j => cnB_0 (fun i _ => rfl)
          induction m with
          | zero => rfl
          | succ m ih => show cd5 _ m + ldE _ _ _ m * 5 ^ m = 0; rw [ih, e2, Nat.zero_mul]
        refine ⟨fun _ => 0, ⟨fun i _ he => Bool.noConfusion he, fun j _ => ?_⟩, (e1 _).symm, ?_⟩
        · have e2 : ldE C.length (fun _ => false) (fun _ => 0) j = 0 := cnB_0 (fun i _ => rfl)
          rw [e2]; exact Nat.zero_le _
        · rw [if_pos rfl, csF_0]
      · rw [if_neg e0] at hlt; omega
    · intro β _
      have e1 : ∀ m, cd5 (ldE C.length (fun _ => false) β) m = 0 := by
        intro m
        have e2 : ∀ j, ldE C.length (fun _ => false) β j = 0 := fun j => cnB_0 (fun i _ => rfl)
        induction m with
        | zero => rfl
        | succ m ih => show cd5 _ m + ldE _ _ _ m * 5 ^ m = 0; rw [ih, e2, Nat.zero_mul]
      rw [e1, hf 0 (Nat.pow_pos (by omega)), if_pos rfl, csF_0]
      exact Int.le_refl 0
  · exact hbad (Or.inr (by have q2 : 6 < (((flN (fun h => decide (M 89 (5 * h) = v)) (M 24 5).toNat).length : Nat) : Int) := q2
                           omega)) a b c e x y
theorem op_best {d : Nat} {M : Mm} {k v w : Int} (hI : Inv k M) : opI k (d + 9) 14 122 [vI v, vI w] M := by
  have hI2 := hI.thr
  by_cases hv : 0 ≤ v ∧ v ≤ 5
  · by_cases hw : 0 ≤ w ∧ w ≤ 1
    · refine sg_14 (c_37 (fun _ => t1 (c_32 (fun _ => t1' ?_) (fun q => absurd hw q))) (fun q => absurd hv q))
      refine c_40 hI.2.2.2.1 hI.1 hI.2.2.2.2.1 (fun x a b c e n g f hc he hl hf => ?_)
      have hJ := hI.bw (w := x) (a := a) (b := b) hc he
      have hn1 : n = (hlM M v).length := hl.1.1
      have hnd : (hlM M v).Nodup := (hallN_b (tn := M 84) (bt := btM M) (v := v) (M 1 6).toNat).2.2.imp (fun h => by omega)
      show (12 < n → _) ∧ (n ≤ 12 → _)
      refine ⟨fun q => ?_, fun q => ?_⟩
      · refine c_122 (M := gW (bW (mset M 10 9 0) x a b c e) n g f) hJ.2.2.2.1 hJ.1 hJ.2.2.2.2.2.1 hv hw (fun _ a2 b2 c2 e2 x2 y2 => ⟨rfl, ?_⟩) (fun q2 => ?_)
        · obtain ⟨hC, hN, hD, hP, hB, hH, hL, hO, hY, hE, hT⟩ := hJ
          exact ⟨hC, hN, hD, hP, hB, hH, hL, hO, hY, hE, hT.up⟩
        · have q2 : (hlM M v).length ≤ 12 := q2
          omega
      · refine c_70 (M := gW (bW (mset M 10 9 0) x a b c e) n g f) hJ.2.2.2.2.2.1 ?_
        show ((((flN (fun h => decide (M 89 (5 * h) = v)) (M 24 5).toNat).length : Nat) : Int) ≤ 6 → _) ∧ (6 < (((flN (fun h => decide (M 89 (5 * h) = v)) (M 24 5).toNat).length : Nat) : Int) → _)
        refine ⟨fun q2 => ⟨fun q3 => sg_14_82 ?_, fun q3 => ?_⟩, fun q2 => ?_⟩
        · have q3 : M 33 7 = v := q3
          have hb : isBest (M 2) (M 3) (M 4) (M 89) (hlM M v) (flN (fun h => decide (M 89 (5 * h) = v)) (M 24 5).toNat) (M 33 8) (M 33 9) := by
            rcases hI.2.2.2.2.2.2.1 with y | y
            · omega
            · have y2 := y.2
              rw [q3] at y2
              exact y2
          have ref : ∀ r : Int, (¬ w = 0 → r = M 33 9) → (w = 0 → r = M 33 8) → EE (d + 9) 122 [vR 76, vI v, vI w] (gW (bW (mset M 10 9 0) x a b c e) n g f) (rI fun r2 M2 => r2 = r ∧ Inv (k + 1) M2) := by
            intro r r1 r0
            refine c_122 (d := d + 4) (M := gW (bW (mset M 10 9 0) x a b c e) n g f) hJ.2.2.2.1 hJ.1 hJ.2.2.2.2.2.1 hv hw (fun q4 => ?_) (fun _ _ o p hop a2 b2 c2 e2 x2 y2 z2 s2 dn2 f2 g2 w2 cc2 => ⟨?_, ?_⟩)
            · exfalso
              have q4 : 12 < (hlM M v).length ∨ 6 < (flN (fun h => decide (M 89 (5 * h) = v)) (M 24 5).toNat).length := q4
              omega
            · have hu := isBest_uniq hop hb
              by_cases w0 : w = 0
              · rw [if_pos w0, r0 w0]; exact hu.1
              · rw [if_neg w0, r1 w0]; exact hu.2
            · obtain ⟨hC, hN, hD, hP, hB, hH, hL, hO, hY, hE, hT⟩ := hJ
              exact ⟨hC, hN, hD, hP, hB, hH, hL, hO, hY, hE, hT.up⟩
          exact ⟨fun w0 => ref _ (fun _ => rfl) (fun y => absurd y w0), fun w0 => ref _ (fun y => absurd w0 y) (fun _ => rfl)⟩
        · refine c_72 (d := d) (M := gW (bW (mset M 10 9 0) x a b c e) n g f) (C := hlM M v) hJ.1 hJ.2.2.2.2.2.1 hl (by omega) hnd (by show (flN (fun h => decide (M 89 (5 * h) = v)) (M 24 5).toNat).length ≤ 6; omega) (fun g3 a3 b3 c3 e3 f3 g7 hb => sg_14_82 ?_)
          have ref : ∀ r : Int, (¬ w = 0 → r = g3 9) → (w = 0 → r = g3 8) → EE (d + 9) 122 [vR 76, vI v, vI w] (lW (gW (bW (mset M 10 9 0) x a b c e) n g f) g3 a3 b3 c3 e3 f3) (rI fun r2 M2 => r2 = r ∧ Inv (k + 1) M2) := by
            intro r r1 r0
            refine c_122 (d := d + 4) (M := lW (gW (bW (mset M 10 9 0) x a b c e) n g f) g3 a3 b3 c3 e3 f3) hJ.2.2.2.1 hJ.1 hJ.2.2.2.2.2.1 hv hw (fun q4 => ?_) (fun _ _ o p hop a2 b2 c2 e2 x2 y2 z2 s2 dn2 f2 g2 w2 cc2 => ⟨?_, ?_⟩)
            · exfalso
              have q4 : 12 < (hlM M v).length ∨ 6 < (flN (fun h => decide (M 89 (5 * h) = v)) (M 24 5).toNat).length := q4
              omega
            · have hu := isBest_uniq hop hb
              by_cases w0 : w = 0
              · rw [if_pos w0, r0 w0]; exact hu.1
              · rw [if_neg w0, r1 w0]; exact hu.2
            · obtain ⟨hC, hN, hD, hP, hB, hH, hL, hO, hY, hE, hT⟩ := hJ
              refine ⟨hC, hN, hD, hP, hB, hH, Or.inr ?_, hO, hY, hE, hT.up⟩
              show (0 ≤ g3 7 ∧ g3 7 ≤ 5) ∧ isBest (M 2) (M 3) (M 4) (M 89) (hallL (M 1 6) (M 84) (bT (M 1 6) (M 5) (M 83) (M 84) (M 10 8)) (g3 7)) (houL (M 24 5) (M 89) (g3 7)) (g3 8) (g3 9)
              rw [g7]
              exact ⟨hv, hb⟩
          exact ⟨fun w0 => ref _ (fun _ => rfl) (fun y => absurd y w0), fun w0 => ref _ (fun y => absurd w0 y) (fun _ => rfl)⟩
        · refine c_122 (d := d + 4) (M := gW (bW (mset M 10 9 0) x a b c e) n g f) hJ.2.2.2.1 hJ.1 hJ.2.2.2.2.2.1 hv hw (fun _ a2 b2 c2 e2 x2 y2 => ⟨rfl, ?_⟩) (fun _ q4 => ?_)
          · obtain ⟨hC, hN, hD, hP, hB, hH, hL, hO, hY, hE, hT⟩ := hJ
            exact ⟨hC, hN, hD, hP, hB, hH, hL, hO, hY, hE, hT.up⟩
          · have q4 : (flN (fun h => decide (M 89 (5 * h) = v)) (M 24 5).toNat).length ≤ 6 := q4
            omega
    · refine sg_14 (c_37 (fun _ => t1 (c_32 (fun q => absurd q hw) (fun _ => t0' ?_))) (fun q => absurd hv q))
      exact sg_122 (c_145 (fun _ => t1 (c_140 (fun q => absurd q hw) (fun _ => t0' ⟨rfl, hI2⟩))) (fun q => absurd hv q))
  · refine sg_14 (c_37 (fun q => absurd q hv) (fun _ => t0 ?_))
    exact sg_122 (c_145 (fun q => absurd q hv) (fun _ => t0 ⟨rfl, hI2⟩))
