/-! lodging: the reference's notes -/
theorem lp_122_32 {d : Nat} {P : Int → Mm → Prop} {M : Mm} {v w : Int} {bt : Int → Int} (hC : IC M) (hB : ag (M 85) bt) (hr : ∀ c, bt c = -9 ∨ (0 ≤ bt c ∧ bt c < 6)) (hK : ∀ x : Int → Int, (∀ (j : Nat) (c : Int), (hallN (M 84) bt v (M 1 6).toNat)[j]? = some c → x j = c) → H_122_77 (d + 1) P v w ((hallN (M 84) bt v (M 1 6).toNat).length : Nat) 0 1 0 (rset M 99 x)) : ∀ (k i : Nat) {x : Int → Int}, (k : Int) = M 1 6 - i → (∀ (j : Nat) (c : Int), (hallN (M 84) bt v i)[j]? = some c → x j = c) → H_122_32 (d + 1) P v w ((hallN (M 84) bt v i).length : Nat) i (rset M 99 x)
  | 0, i, x, hk, hx => by
    have h2 := hC.2.1
    refine sg_122_32 ⟨fun _ => ?_, fun z => ?_⟩
    · rw [show (M 1 6).toNat = i by omega] at hK
      exact hK x hx
    · have z : (i : Int) < M 76 2 := z
      omega
  | k + 1, i, x, hk, hx => by
    have h2 := hC.2.1
    have h48 := hC.1
    have hb := (hallN_b (tn := M 84) (bt := bt) (v := v) i).1
    have hs := hallN_s (tn := M 84) (bt := bt) (v := v) (k := i)
    have hI : inI ((i : Int) + 1) := by unfold inI; omega
    refine sg_122_32 ⟨fun z => ?_, fun _ => ?_⟩
    · have z : M 76 2 ≤ (i : Int) := z
      omega
    · refine c_144 (M := rset M 99 x) (bt := bt) (by omega) (hB i (by omega) (by omega)) (hr i) ⟨fun z => ⟨hI, ?_⟩, fun z => ⟨by omega, by unfold inI; omega, hI, ?_⟩⟩
      · have z : ¬ vil (M 84) bt i = v := z
        rw [if_neg z, List.append_nil] at hs
        have := lp_122_32 (d := d) (P := P) (w := w) hC hB hr hK k (i + 1) (x := x) (by omega) (by rw [hs]; exact hx)
        rw [hs, show ((i + 1 : Nat) : Int) = (i : Int) + 1 by omega] at this
        exact this
      · have z : vil (M 84) bt i = v := z
        rw [if_pos z] at hs
        rw [ms_same]
        have := lp_122_32 (d := d) (P := P) (w := w) hC hB hr hK k (i + 1) (x := fset x ((hallN (M 84) bt v i).length : Nat) i) (by omega) (fun j c hj => by
          rw [hs] at hj
          rcases snoc_at hj with ⟨y1, y2⟩ | ⟨y1, y2⟩
          · rw [fs_ne (by omega)]; exact hx j c y2
          · subst y1 y2; exact fs_eq)
        rw [hs, List.length_append, show ((i + 1 : Nat) : Int) = (i : Int) + 1 by omega] at this
        exact this
theorem lp_122_77 {d : Nat} {P : Int → Mm → Prop} {M : Mm} {v w a3 : Int} (hH : IH M) (hK : ∀ y : Int → Int, (∀ (j : Nat) (h : Int), (flN (fun h => decide (M 89 (5 * h) = v)) (M 24 5).toNat)[j]? = some h → y j = h) → ((12 < a3 → P (-2) (rset M 100 y)) ∧ (a3 ≤ 12 → ((((flN (fun h => decide (M 89 (5 * h) = v)) (M 24 5).toNat).length : Nat) : Int) ≤ 6 → H_122_136 d P w a3 ((flN (fun h => decide (M 89 (5 * h) = v)) (M 24 5).toNat).length : Nat) 1 0 (rset M 100 y)) ∧ (6 < (((flN (fun h => decide (M 89 (5 * h) = v)) (M 24 5).toNat).length : Nat) : Int) → P (-2) (rset M 100 y))))) : ∀ (k i : Nat) {y : Int → Int}, (k : Int) = M 24 5 - i → (∀ (j : Nat) (h : Int), (flN (fun h => decide (M 89 (5 * h) = v)) i)[j]? = some h → y j = h) → H_122_77 d P v w a3 ((flN (fun h => decide (M 89 (5 * h) = v)) i).length : Nat) 1 i (rset M 100 y)
  | 0, i, y, hk, hy => by
    have h16 := hH.2.1
    refine sg_122_77 ⟨fun _ => ?_, fun z => ?_⟩
    · rw [show (M 24 5).toNat = i by omega] at hK
      exact hK y hy
    · have z : (i : Int) < M 76 16 := z
      omega
  | k + 1, i, y, hk, hy => by
    have h16 := hH.2.1
    have h24 := hH.1
    have hb : (flN (fun h => decide (M 89 (5 * h) = v)) i).length ≤ i := by
      have := List.length_filter_le (fun h => decide (M 89 (5 * h) = v)) ((List.range i).map (fun k : Nat => (k : Int)))
      rw [List.length_map, List.length_range] at this
      exact this
    have hs := flN_s (q := fun h => decide (M 89 (5 * h) = v)) (k := i)
    have hI : inI ((i : Int) + 1) := by unfold inI; omega
    refine sg_122_77 ⟨fun z => ?_, fun _ => ⟨by unfold inI; omega, by omega, fun z => ⟨hI, ?_⟩, fun z => ⟨by omega, by unfold inI; omega, hI, ?_⟩⟩⟩
    · have z : M 76 16 ≤ (i : Int) := z
      omega
    · have z : ¬ M 89 (5 * i) = v := z
      rw [if_neg (by rw [decide_eq_false z]; decide), List.append_nil] at hs
      have := lp_122_77 (d := d) (P := P) (w := w) (a3 := a3) hH hK k (i + 1) (y := y) (by omega) (by rw [hs]; exact hy)
      rw [hs, show ((i + 1 : Nat) : Int) = (i : Int) + 1 by omega] at this
      exact this
    · have z : M 89 (5 * i) = v := z
      rw [if_pos (decide_eq_true z)] at hs
      rw [ms_same]
      have := lp_122_77 (d := d) (P := P) (w := w) (a3 := a3) hH hK k (i + 1) (y := fset y ((flN (fun h => decide (M 89 (5 * h) = v)) i).length : Nat) i) (by omega) (fun j c hj => by
        rw [hs] at hj
        rcases snoc_at hj with ⟨y1, y2⟩ | ⟨y1, y2⟩
        · rw [fs_ne (by omega)]; exact hy j c y2
        · subst y1 y2; exact fs_eq)
      rw [hs, List.length_append, show ((i + 1 : Nat) : Int) = (i : Int) + 1 by omega] at this
      exact this
def qW (M : Mm) (x y z s dn : Int → Int) : Mm := rset (rset (rset (rset (rset M 99 x) 100 y) 101 z) 106 s) 107 dn
theorem rq_101 {M : Mm} {x y z s dn f g w cc : Int → Int} {i a : Int} : mset (rW (qW M x y z s dn) f g w cc) 101 i a = rW (qW M x y (fset z i a) s dn) f g w cc := by
  unfold rW qW
  rw [ms_comm (by decide), ms_comm (by decide), ms_comm (by decide), ms_comm (by decide), ms_comm (by decide), ms_comm (by decide), ms_same]
theorem rq_106 {M : Mm} {x y z s dn f g w cc : Int → Int} {i a : Int} : mset (rW (qW M x y z s dn) f g w cc) 106 i a = rW (qW M x y z (fset s i a) dn) f g w cc := by
  unfold rW qW
  rw [ms_comm (by decide), ms_comm (by decide), ms_comm (by decide), ms_comm (by decide), ms_comm (by decide), ms_same]
theorem rq_107 {M : Mm} {x y z s dn f g w cc : Int → Int} {i a : Int} : mset (rW (qW M x y z s dn) f g w cc) 107 i a = rW (qW M x y z s (fset dn i a)) f g w cc := by
  unfold rW qW
  rw [ms_comm (by decide), ms_comm (by decide), ms_comm (by decide), ms_comm (by decide), ms_same]
theorem rq_id {M : Mm} {x y : Int → Int} : rset (rset M 99 x) 100 y = rW (qW M x y (M 101) (M 106) (M 107)) (M 102) (M 103) (M 104) (M 105) := by
  funext k
  simp only [rW, qW, rset]
  by_cases h5 : k = 105
  · subst h5; rfl
  · rw [if_neg h5]
    by_cases h4 : k = 104
    · subst h4; rfl
    · rw [if_neg h4]
      by_cases h3 : k = 103
      · subst h3; rfl
      · rw [if_neg h3]
        by_cases h2 : k = 102
        · subst h2; rfl
        · rw [if_neg h2]
          by_cases h7 : k = 107
          · subst h7; rfl
          · rw [if_neg h7]
            by_cases h6 : k = 106
            · subst h6; rfl
            · rw [if_neg h6]
              by_cases h1 : k = 101
              · subst h1; rfl
              · rw [if_neg h1]
theorem lp_122_136 {d : Nat} {P : Int → Mm → Prop} {M : Mm} {w a3 : Int} {hm : Nat → Int} {m : Nat} {x y s dn f g ww cc : Int → Int} (hm6 : m ≤ 6) (hy : ∀ j : Nat, j < m → y j = hm j ∧ (0 ≤ hm j ∧ hm j < 24)) (hK : ∀ z : Int → Int, (∀ j : Nat, j < m → z j = M 89 (5 * hm j + 2)) → H_122_181 d P w a3 m (5 ^ m : Nat) 0 (rW (qW M x y z s dn) f g ww cc)) : ∀ (k j : Nat) {z : Int → Int}, k + j = m → (∀ i : Nat, i < j → z i = M 89 (5 * hm i + 2)) → H_122_136 d P w a3 m (5 ^ j : Nat) j (rW (qW M x y z s dn) f g ww cc)
  | 0, j, z, hk, hz => by
    have e : j = m := by omega
    subst e
    exact sg_122_136 ⟨fun _ => hK z hz, fun y => by omega⟩
  | k + 1, j, z, hk, hz => by
    have hyj := hy j (by omega)
    have h5 := p5 j (by omega)
    refine sg_122_136 ⟨fun y => by omega, fun _ => ?_⟩
    show (0 ≤ (j : Int) ∧ (j : Int) < 24) ∧ inI (5 * y j) ∧ inI (5 * y j + 2) ∧ (0 ≤ (5 * y j + 2) ∧ (5 * y j + 2) < 120) ∧ (0 ≤ (j : Int) ∧ (j : Int) < 6) ∧ inI (((5 ^ j : Nat) : Int) * 5) ∧ inI ((j : Int) + 1) ∧ H_122_136 d P w a3 m (((5 ^ j : Nat) : Int) * 5) ((j : Int) + 1) (mset (rW (qW M x y z s dn) f g ww cc) 101 j (M 89 (5 * y j + 2)))
    rw [hyj.1, rq_101, show ((5 ^ j : Nat) : Int) * 5 = ((5 ^ (j + 1) : Nat) : Int) by rw [Nat.pow_succ, Int.natCast_mul]; rfl, show (j : Int) + 1 = ((j + 1 : Nat) : Int) by omega]
    have h51 := p5 (j + 1) (by omega)
    have hI5 : inI ((5 ^ (j + 1) : Nat) : Int) := by
      generalize 5 ^ (j + 1) = e at h51
      unfold inI; omega
    refine ⟨by omega, by unfold inI; omega, by unfold inI; omega, by omega, by omega, hI5, by unfold inI; omega, ?_⟩
    refine lp_122_136 hm6 hy hK k (j + 1) (by omega) (fun i hi => ?_)
    by_cases e : i = j
    · subst e; exact fs_eq
    · rw [fs_ne (by omega)]; exact hz i (by omega)
theorem lp_122_181 {d : Nat} {P : Int → Mm → Prop} {M : Mm} {w a3 : Int} {m : Nat} {g ww cc : Int → Int} (hm6 : m ≤ 6) (hK : ∀ f : Int → Int, (∀ p : Nat, p < 5 ^ m → f p = if p = 0 then 0 else 1000000) → H_122_215 d P w a3 m (5 ^ m : Nat) 0 (rW M f g ww cc)) : ∀ (k i : Nat) {f : Int → Int}, k + i = 5 ^ m → (∀ p : Nat, p < i → f p = if p = 0 then 0 else 1000000) → H_122_181 d P w a3 m (5 ^ m : Nat) i (rW M f g ww cc)
  | 0, i, f, hk, hf => sg_122_181 ⟨fun _ => hK f (fun p hp => hf p (by omega)), fun y => by omega⟩
  | k + 1, i, f, hk, hf => by
    have h5 := p5 m hm6
    have st : ∀ a : Int, (a = if i = 0 then 0 else 1000000) → H_122_181 d P w a3 m (5 ^ m : Nat) ((i : Int) + 1) (mset (rW M f g ww cc) 102 i a) := by
      intro a ha
      rw [rW_102, show (i : Int) + 1 = ((i + 1 : Nat) : Int) by omega]
      refine lp_122_181 hm6 hK k (i + 1) (by omega) (fun p hp => ?_)
      by_cases e : p = i
      · subst e; rw [fs_eq]; exact ha
      · rw [fs_ne (by omega)]; exact hf p (by omega)
    refine sg_122_181 ⟨fun y => by omega, fun _ => ⟨fun y => ⟨by omega, by unfold inI; omega, st _ ?_⟩, fun y => ⟨by omega, by unfold inI; omega, st _ ?_⟩⟩⟩
    · rw [if_neg (by omega)]
    · rw [if_pos (by omega)]
theorem lp_122_215 {d : Nat} {P : Int → Mm → Prop} {M : Mm} {w : Int} {n m : Nat} {x y z s f g ww cc : Int → Int} (hn : n ≤ 12) (hK : ∀ dn : Int → Int, (∀ t : Nat, t < n → dn t = 0) → H_122_238 d P w n m (5 ^ m : Nat) 0 (rW (qW M x y z s dn) f g ww cc)) : ∀ (k i : Nat) {dn : Int → Int}, k + i = n → (∀ t : Nat, t < i → dn t = 0) → H_122_215 d P w n m (5 ^ m : Nat) i (rW (qW M x y z s dn) f g ww cc)
  | 0, i, dn, hk, hf => sg_122_215 ⟨fun _ => hK dn (fun p hp => hf p (by omega)), fun y => by omega⟩
  | k + 1, i, dn, hk, hf => by
    refine sg_122_215 ⟨fun y => by omega, fun _ => ⟨by omega, by unfold inI; omega, ?_⟩⟩
    rw [rq_107, show (i : Int) + 1 = ((i + 1 : Nat) : Int) by omega]
    refine lp_122_215 hn hK k (i + 1) (by omega) (fun p hp => ?_)
    by_cases e : p = i
    · subst e; exact fs_eq
    · rw [fs_ne (by omega)]; exact hf p (by omega)
theorem lp_122_260 {d : Nat} {P : Int → Mm → Prop} {M : Mm} {w a3 a4 a5 a6 a7 : Int} {x y z dn f g ww cc : Int → Int} (hK : ∀ s : Int → Int, (∀ t : Nat, t < 4 → s t = 0) → H_122_284 d P w a3 a4 a5 a6 a7 a6 (rW (qW M x y z s dn) f g ww cc)) : ∀ (k i : Nat) {s : Int → Int}, k + i = 4 → (∀ t : Nat, t < i → s t = 0) → H_122_260 d P w a3 a4 a5 a6 a7 i (rW (qW M x y z s dn) f g ww cc)
  | 0, i, s, hk, hf => sg_122_260 ⟨fun _ => hK s (fun p hp => hf p (by omega)), fun y => by omega⟩
  | k + 1, i, s, hk, hf => by
    refine sg_122_260 ⟨fun y => by omega, fun _ => ⟨by omega, by unfold inI; omega, ?_⟩⟩
    rw [rq_106, show (i : Int) + 1 = ((i + 1 : Nat) : Int) by omega]
    refine lp_122_260 hK k (i + 1) (by omega) (fun p hp => ?_)
    by_cases e : p = i
    · subst e; exact fs_eq
    · rw [fs_ne (by omega)]; exact hf p (by omega)
/-- the heap of member i -/
def hpE (kn : Int → Int) (cm : Nat → Int) (i : Nat) (t : Nat) : Bool := decide (i ≤ t) && (decide (t = i) || knn kn (cm i) (cm t))
/-- isDone says D -/
def isD (dn : Int → Int) (n : Nat) (D : Nat → Bool) : Prop := ∀ t : Nat, t < n → (dn t = 0 ∧ D t = false) ∨ (¬ dn t = 0 ∧ D t = true)
theorem lp_122_284 {d : Nat} {P : Int → Mm → Prop} {M : Mm} {w a4 a5 : Int} {cm : Nat → Int} {sr : Nat → Nat} {n i : Nat} {D : Nat → Bool} {x y z f g ww cc : Int → Int} (hn : n ≤ 12) (hi : i < n) (hx : ∀ t : Nat, t < n → x t = cm t ∧ (0 ≤ cm t ∧ cm t < 48) ∧ (M 77 (cm t) = 0 ∨ M 77 (cm t) = 1) ∧ srt (M 77) (M 78) (cm t) = (sr t : Nat) ∧ sr t < 4) (hK : ∀ s dn : Int → Int, (∀ u : Nat, u < 4 → s u = (cnB (fun t => hpE (M 79) cm i t && decide (sr t = u)) n : Nat)) → isD dn n (orE D (hpE (M 79) cm i)) → EE (d + 1) 153 [vR 76, vI (cnB (hpE (M 79) cm i) n : Nat), vI a4, vI a5] (rW (qW M x y z s dn) f g ww cc) (rV fun M1 => inI ((i : Int) + 1) ∧ H_122_238 (d + 1) P w n a4 a5 ((i : Int) + 1) M1)) : ∀ (k j : Nat) {s dn : Int → Int}, k + j = n → i ≤ j → (∀ u : Nat, u < 4 → s u = (cnB (fun t => hpE (M 79) cm i t && decide (sr t = u)) j : Nat)) → isD dn n (fun t => D t || (hpE (M 79) cm i t && decide (t < j))) → H_122_284 (d + 1) P w n a4 a5 i (cnB (hpE (M 79) cm i) j : Nat) j (rW (qW M x y z s dn) f g ww cc)
  | 0, j, s, dn, hk, hij, hs, hd => by
    have e : j = n := by omega
    subst e
    refine sg_122_284 ⟨fun _ => hK s dn hs (fun t ht => ?_), fun y => by omega⟩
    have := hd t ht
    have e2 : (D t || (hpE (M 79) cm i t && decide (t < j))) = orE D (hpE (M 79) cm i) t := by
      rw [decide_eq_true ht, Bool.and_true]; rfl
    rw [← e2]
    exact this
  | k + 1, j, s, dn, hk, hij, hs, hd => by
    have hxi := hx i hi
    have hxj := hx j (by omega)
    have ih : ∀ {s dn : Int → Int}, (∀ u : Nat, u < 4 → s u = (cnB (fun t => hpE (M 79) cm i t && decide (sr t = u)) (j + 1) : Nat)) → isD dn n (fun t => D t || (hpE (M 79) cm i t && decide (t < j + 1))) → H_122_284 (d + 1) P w n a4 a5 i (cnB (hpE (M 79) cm i) (j + 1) : Nat) ((j : Int) + 1) (rW (qW M x y z s dn) f g ww cc) := by
      intro s dn h1 h2
      have := lp_122_284 (d := d) (P := P) hn hi hx hK k (j + 1) (s := s) (dn := dn) (by omega) (by omega) h1 h2
      rw [show ((j + 1 : Nat) : Int) = (j : Int) + 1 by omega] at this
      exact this
    have cs : ∀ p : Nat → Bool, cnB p (j + 1) = cnB p j + (if p j = true then 1 else 0) := fun p => rfl
    have cl := cnB_le (p := hpE (M 79) cm i) j
    have yes : hpE (M 79) cm i j = true → H_122_318 (d + 1) P w n a4 a5 i (cnB (hpE (M 79) cm i) j : Nat) j (rW (qW M x y z s dn) f g ww cc) := by
      intro hy
      refine sg_122_318 ⟨by omega, by omega, ?_⟩
      rw [rq_107]
      show EE (d + 1) 149 [vR 76, vI (x j)] (rW (qW M x y z s (fset dn j 1)) f g ww cc) _
      rw [hxj.1]
      refine c_149 (M := rW (qW M x y z s (fset dn j 1)) f g ww cc) hxj.2.1 hxj.2.2.1 ?_
      show (0 ≤ srt (M 77) (M 78) (cm j) ∧ srt (M 77) (M 78) (cm j) < 4) ∧ inI (s (srt (M 77) (M 78) (cm j)) + 1) ∧ (0 ≤ srt (M 77) (M 78) (cm j) ∧ srt (M 77) (M 78) (cm j) < 4) ∧ inI (((cnB (hpE (M 79) cm i) j : Nat) : Int) + 1) ∧ inI ((j : Int) + 1) ∧ H_122_284 (d + 1) P w n a4 a5 i (((cnB (hpE (M 79) cm i) j : Nat) : Int) + 1) ((j : Int) + 1) (mset (rW (qW M x y z s (fset dn j 1)) f g ww cc) 106 (srt (M 77) (M 78) (cm j)) (s (srt (M 77) (M 78) (cm j)) + 1))
      rw [hxj.2.2.2.1, hs (sr j) hxj.2.2.2.2, rq_106]
      have cl2 := cnB_le (p := fun t => hpE (M 79) cm i t && decide (sr t = sr j)) j
      refine ⟨by omega, by unfold inI; omega, by omega, by unfold inI; omega, by unfold inI; omega, ?_⟩
      have ec : ((cnB (hpE (M 79) cm i) j : Nat) : Int) + 1 = ((cnB (hpE (M 79) cm i) (j + 1) : Nat) : Int) := by
        rw [cs, if_pos hy]; rfl
      rw [ec]
      refine ih (fun u hu => ?_) (fun t ht => ?_)
      · rw [cs]
        by_cases e : sr j = u
        · subst e
          rw [fs_eq, hy, decide_eq_true rfl]; rfl
        · rw [fs_ne (by omega), hs u hu, decide_eq_false e, Bool.and_false, if_neg (by decide)]; rfl
      · by_cases e : t = j
        · subst e
          refine Or.inr ⟨by rw [fs_eq]; decide, ?_⟩
          show (D t || (hpE (M 79) cm i t && decide (t < t + 1))) = true
          rw [hy, decide_eq_true (show t < t + 1 by omega)]; exact Bool.or_true _
        · have := hd t ht
          rw [fs_ne (by omega)]
          show (_ ∧ (D t || (hpE (M 79) cm i t && decide (t < j + 1))) = false) ∨ (_ ∧ (D t || (hpE (M 79) cm i t && decide (t < j + 1))) = true)
          have e2 : decide (t < j + 1) = decide (t < j) := by
            by_cases l : t < j
            · rw [decide_eq_true l, decide_eq_true (by omega)]
            · rw [decide_eq_false l, decide_eq_false (by omega)]
          rw [e2]; exact this
    have no : hpE (M 79) cm i j = false → inI ((j : Int) + 1) ∧ H_122_284 (d + 1) P w n a4 a5 i (cnB (hpE (M 79) cm i) j : Nat) ((j : Int) + 1) (rW (qW M x y z s dn) f g ww cc) := by
      intro hy
      refine ⟨by unfold inI; omega, ?_⟩
      have ec : cnB (hpE (M 79) cm i) (j + 1) = cnB (hpE (M 79) cm i) j := by
        rw [cs, hy]; rfl
      rw [← ec]
      refine ih (fun u hu => ?_) (fun t ht => ?_)
      · rw [cs, hy, Bool.false_and, if_neg (by decide)]; exact hs u hu
      · have := hd t ht
        show (_ ∧ (D t || (hpE (M 79) cm i t && decide (t < j + 1))) = false) ∨ (_ ∧ (D t || (hpE (M 79) cm i t && decide (t < j + 1))) = true)
        by_cases e : t = j
        · subst e
          have this : (dn t = 0 ∧ (D t || (hpE (M 79) cm i t && decide (t < t))) = false) ∨ (¬ dn t = 0 ∧ (D t || (hpE (M 79) cm i t && decide (t < t))) = true) := this
          rw [hy, Bool.false_and] at this ⊢
          exact this
        · have e2 : decide (t < j + 1) = decide (t < j) := by
            by_cases l : t < j
            · rw [decide_eq_true l, decide_eq_true (by omega)]
            · rw [decide_eq_false l, decide_eq_false (by omega)]
          rw [e2]; exact this
    refine sg_122_284 ⟨fun q => by omega, fun _ => ⟨fun q => ?_, fun q => ⟨by omega, by omega, ?_⟩⟩⟩
    · have e : j = i := by omega
      subst e
      refine yes ?_
      unfold hpE
      rw [decide_eq_true (Nat.le_refl j), decide_eq_true rfl]; rfl
    · show EE (d + 1) 152 [vR 76, vI (x i), vI (x j)] (rW (qW M x y z s dn) f g ww cc) _
      rw [hxi.1, hxj.1]
      refine c_152 (M := rW (qW M x y z s dn) f g ww cc) hxi.2.1 hxj.2.1 (fun q => t1 (yes ?_)) (fun q => t0 (no ?_))
      · have q : knn (M 79) (cm i) (cm j) = true := q
        unfold hpE
        rw [decide_eq_true hij, q, Bool.or_true]; rfl
      · have q : knn (M 79) (cm i) (cm j) = false := q
        unfold hpE
        rw [q, decide_eq_false (show ¬ j = i by omega)]; exact Bool.and_false _
