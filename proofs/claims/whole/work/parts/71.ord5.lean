/-! orders: the class reads them all -/
theorem oS_le {f : Int → Int} {n : Int} {p : Nat} (hp : (p : Int) ≤ n) : ((oS (byM f n) p).1 : Int) ≤ n := by
  unfold oS
  split
  · have l0 := by_lt (f := f) (n := n) (p := p) (by omega)
    have l1 := nS_le (f := f) (n := n) (most := 99) (p := p + 1) (by omega)
    split
    · exact l1
    · generalize (nS (byM f n) 99 (p + 1)).1 = r at l1
      unfold oD
      split
      · have l2 := by_lt (f := f) (n := n) (p := r) (by omega)
        split
        · have l3 := by_lt (f := f) (n := n) (p := r + 1) (by omega)
          split
          · have l4 := by_lt (f := f) (n := n) (p := r + 2) (by omega)
            exact dS_le 6 (by omega)
          · show ((r + 2 : Nat) : Int) ≤ n
            omega
        · show ((r + 1 : Nat) : Int) ≤ n
          omega
      · exact l1
  · exact hp
def chw (k : Nat) (_ : Int) : Prop := k = 39 ∨ (67 ≤ k ∧ k < 76)
theorem GK_W {M M1 M2 : Mm} {o : Int} (h : FrC chw M M1) (h2 : GK M1 M2 o) : FrC chw M M2 := fun k x hn => (h2 k x (fun y => hn (by
  unfold chg at y
  unfold chw
  omega))).trans (h k x hn)
def stA (M : Mm) (l : List Od) : Prop := ∀ (o : Nat) (x : Od), l[o]? = some x → stO M o x
theorem stO_GK {M M' : Mm} {o o' : Nat} {x : Od} (ho : ¬ o' = o) (h : GK M M' o) (hs : stO M o' x) : stO M' o' x := by
  have e : ∀ k : Nat, 68 ≤ k → k ≤ 72 → M' k o' = M k o' := fun k k1 k2 => h k o' (by unfold chg; omega)
  refine ⟨⟨?_, ?_, ?_, ?_⟩, ⟨?_, hs.2.1.2⟩, fun j c hj => ?_⟩
  · rw [e 68 (by omega) (by omega)]; exact hs.1.1
  · rw [e 69 (by omega) (by omega)]; exact hs.1.2.1
  · rw [e 70 (by omega) (by omega)]; exact hs.1.2.2.1
  · rw [e 71 (by omega) (by omega)]; exact hs.1.2.2.2
  · rw [e 72 (by omega) (by omega)]; exact hs.2.1.1
  · have hl : j < x.2.2.2.2.length := by
      rcases Nat.lt_or_ge j x.2.2.2.2.length with g | g
      · exact g
      · rw [List.getElem?_eq_none g] at hj; exact absurd hj (by simp)
    have h6 := hs.2.1.2
    have hc := hs.2.2 j c hj
    have e2 : ∀ k : Nat, 73 ≤ k → k ≤ 75 → M' k (6 * (o' : Int) + j) = M k (6 * (o' : Int) + j) := fun k k1 k2 => h k _ (by unfold chg; omega)
    refine ⟨?_, fun y => ?_, ?_⟩
    · rw [e2 73 (by omega) (by omega)]; exact hc.1
    · rw [e2 74 (by omega) (by omega)]; exact hc.2.1 y
    · rw [e2 75 (by omega) (by omega)]; exact hc.2.2
theorem snocO {L : List Od} {x c : Od} {j : Nat} (h : (L ++ [x])[j]? = some c) : (j < L.length ∧ L[j]? = some c) ∨ (j = L.length ∧ c = x) := by
  rcases Nat.lt_or_ge j L.length with g | g
  · rw [List.getElem?_append_left g] at h
    exact Or.inl ⟨g, h⟩
  · rw [List.getElem?_append_right g] at h
    cases hj : j - L.length with
    | zero => rw [hj] at h; exact Or.inr ⟨by omega, by simpa using h.symm⟩
    | succ n => rw [hj] at h; simp at h
theorem FrW_d {M M' : Mm} {f : Int → Int} {n : Int} (h : FrC chw M M') (hd : drf M f n) : drf M' f n := by
  have e9 : M' 9 = M 9 := by
    funext x
    exact h 9 x (by unfold chw; omega)
  unfold drf
  rw [e9, h 8 1 (by unfold chw; omega)]
  exact hd
theorem lp_82 {d : Nat} {P : Int → Mm → Prop} {M : Mm} {f : Int → Int} {n : Nat} (hd : drf M f n) : ∀ (k i : Nat) {acc : List Od} {M1 : Mm} {p : Nat}, k + i = 30 → acc.length = i → FrC chw M M1 → M1 39 0 = p → p ≤ n → M1 67 8 = i → stA M1 acc → (∀ (r : Nat) (l : List Od) (M' : Mm), aS (byM f n) n k p = (r, some l) → FrC chw M M' → M' 67 8 = ((acc ++ l).length : Nat) → (acc ++ l).length ≤ 30 → stA M' (acc ++ l) → P (-9) M') → (∀ (r : Nat) (M' : Mm), aS (byM f n) n k p = (r, none) → r ≤ n → FrC chw M M' → P r M') → H_82_12 (d + 9) P i M1
  | 0, i, acc, M1, p, hk, hacc, hF, hat, hp, hsz, hst, h1, h0 => by
    have hd1 := FrW_d hF hd
    have e8 := hd1.2.1
    refine sg_82_12 ⟨fun z => by omega, fun _ => ?_⟩
    rw [e8, hat]
    refine ⟨fun z => ?_, fun z => ?_⟩
    · refine h1 p [] M1 (aS_e (by omega)) hF ?_ ?_ ?_
      · rw [List.append_nil, hsz, hacc]
      · rw [List.append_nil]; omega
      · rw [List.append_nil]; exact hst
    · refine sg_83 ?_
      rw [hsz]
      refine ⟨fun y => by omega, fun _ => t0' ?_⟩
      rw [hat]
      exact h0 p M1 (aS_0 (by omega)) hp hF
  | k + 1, i, acc, M1, p, hk, hacc, hF, hat, hp, hsz, hst, h1, h0 => by
    have hd1 := FrW_d hF hd
    have e8 := hd1.2.1
    refine sg_82_12 ⟨fun z => by omega, fun _ => ?_⟩
    rw [e8, hat]
    refine ⟨fun z => ?_, fun z => ?_⟩
    · refine h1 p [] M1 (aS_e (by omega)) hF ?_ ?_ ?_
      · rw [List.append_nil, hsz, hacc]
      · rw [List.append_nil]; omega
      · rw [List.append_nil]; exact hst
    · have hol := oS_le (f := f) (n := n) (p := p) (by omega)
      refine c_83 (d := d) (f := f) (n := n) (o := i) (p := p) hd1 ⟨hsz, by omega⟩ hat (by omega) (fun r x M2 e1 e2 e3 e4 e5 => t1' ⟨by unfold inI; omega, ?_⟩) (fun r M2 e1 e2 e3 => t0' ?_)
      · rw [e1] at hol
        have hol : (r : Int) ≤ n := hol
        have key := lp_82 (d := d) (P := P) hd k (i + 1) (acc := acc ++ [x]) (M1 := M2) (p := r) (by omega) (by rw [List.length_append, hacc]; rfl) (GK_W hF e2) e3 (by omega) e4 (fun o c hj => ?_) (fun r l M' a1 a2 a3 a4 a5 => ?_) (fun r M' a1 a2 a3 => ?_)
        · rw [show ((i + 1 : Nat) : Int) = (i : Int) + 1 by omega] at key
          exact key
        · rcases snocO hj with ⟨y1, y2⟩ | ⟨y1, y2⟩
          · exact stO_GK (by omega) e2 (hst o c y2)
          · subst y2
            rw [y1, hacc]; exact e5
        · rw [List.append_assoc] at a3 a4 a5
          refine h1 r (x :: l) M' ?_ a2 a3 a4 a5
          rw [aS_s (by omega) e1, a1]; rfl
        · refine h0 r M' ?_ a2 a3
          rw [aS_s (by omega) e1, a1]; rfl
      · rw [e3]
        rw [e1] at hol
        have hol : (r : Int) ≤ n := hol
        exact h0 r M2 (aS_n (by omega) e1) (by omega) (GK_W hF e2)
theorem c_82 {d : Nat} {P : Int → Mm → Prop} {M : Mm} {f : Int → Int} {n : Nat} (hd : drf M f n) (h1 : ∀ (r : Nat) (l : List Od) (M' : Mm), aS (byM f n) n 30 0 = (r, some l) → FrC chw M M' → M' 67 8 = (l.length : Nat) → l.length ≤ 30 → stA M' l → P (-9) M') (h0 : ∀ (r : Nat) (M' : Mm), aS (byM f n) n 30 0 = (r, none) → r ≤ n → FrC chw M M' → P r M') : EE (d + 10) 82 [vR 39, vR 8, vR 67] M (rI P) := by
  refine sg_82 ?_
  refine lp_82 hd 30 0 (acc := []) (p := 0) rfl rfl ?_ ?_ (by omega) ?_ (fun o x hj => by simp at hj) h1 h0
  · exact Fr_ms (Or.inr (by omega)) (Fr_ms (Or.inl rfl) (fun _ _ _ => rfl))
  · rw [ms_at (by decide)]; exact m39_a
  · rw [ms_in, if_pos rfl]; rfl
/-! orders: the reference's small readers -/
def drR (M : Mm) (f : Int → Int) (n : Int) : Prop := M 91 = f ∧ M 76 20 = n ∧ (0 ≤ n ∧ n ≤ 600) ∧ ∀ i, 0 ≤ i → i < n → 0 ≤ f i ∧ f i ≤ 255
theorem drR_b {M : Mm} {f : Int → Int} {n : Int} (h : drR M f n) (p : Nat) : -1 ≤ byM f n p ∧ byM f n p ≤ 255 := by
  unfold byM
  split
  · rename_i h2
    have := h.2.2.2 p (by omega) h2
    omega
  · omega
theorem c_157 {d : Nat} {P : Int → Mm → Prop} {M : Mm} {f : Int → Int} {n : Int} {p : Nat} (hd : drR M f n) (hp : M 76 24 = p) (h : P (byM f n p) M) : EE (d + 1) 157 [vR 76] M (rI P) := by
  obtain ⟨h1, h2, h3, _⟩ := hd
  unfold byM at h
  refine sg_157 ?_
  rw [h1, h2, hp]
  refine ⟨fun q => ?_, fun q => ⟨by omega, ?_⟩⟩
  · rw [if_neg (by omega)] at h; exact h
  · rw [if_pos q] at h; exact h
theorem c_158 {d : Nat} {P : Int → Mm → Prop} {M : Mm} {p : Nat} (hp : M 76 24 = p) (h : P 0 (mset M 76 26 p)) : EE (d + 1) 158 [vR 76] M (rI P) := by
  rw [← hp] at h
  exact sg_158 h
/-- what the reference's reading of order o may change -/
def chr (o : Int) (k : Nat) (x : Int) : Prop := (k = 76 ∧ (x = 0 ∨ x = 24 ∨ x = 25 ∨ x = 26)) ∨ (k = 93 ∧ 25 * o ≤ x ∧ x < 25 * o + 25)
def chn (k : Nat) (x : Int) : Prop := k = 76 ∧ (x = 24 ∨ x = 25 ∨ x = 26)
theorem Fr_id {C : Nat → Int → Prop} {M : Mm} : FrC C M M := fun _ _ _ => rfl
theorem Fr_tr {C : Nat → Int → Prop} {M M1 M2 : Mm} (h1 : FrC C M M1) (h2 : FrC C M1 M2) : FrC C M M2 := fun k x hn => (h2 k x hn).trans (h1 k x hn)
theorem Fr_mo {C D : Nat → Int → Prop} {M M1 : Mm} (hc : ∀ k x, C k x → D k x) (h1 : FrC C M M1) : FrC D M M1 := fun k x hn => h1 k x (fun y => hn (hc k x y))
theorem n_r {o : Int} {k : Nat} {x : Int} (h : chn k x) : chr o k x := Or.inl ⟨h.1, Or.inr h.2⟩
theorem drR_F {M M' : Mm} {o : Int} {f : Int → Int} {n : Int} (h : FrC (chr o) M M') (hd : drR M f n) : drR M' f n := by
  have e9 : M' 91 = M 91 := by
    funext x
    exact h 91 x (by unfold chr; omega)
  unfold drR
  rw [e9, h 76 20 (by unfold chr; omega)]
  exact hd
theorem m76 {M : Mm} {i x y : Int} : mset M 76 i x 76 y = if y = i then x else M 76 y := ms_in
theorem c_159 {d : Nat} {P : Int → Mm → Prop} {M : Mm} {f : Int → Int} {n most : Int} {p : Nat} (hd : drR M f n) (hp : M 76 24 = p) (hn : (p : Int) ≤ n) (hm : 9 ≤ most ∧ most ≤ 99) (h1 : ∀ M' : Mm, 0 ≤ (nS (byM f n) most p).2 → FrC chn M M' → M' 76 24 = ((nS (byM f n) most p).1 : Nat) → M' 76 25 = (nS (byM f n) most p).2 → P 1 M') (h0 : ∀ M' : Mm, (nS (byM f n) most p).2 < 0 → FrC chn M M' → M' 76 26 = ((nS (byM f n) most p).1 : Nat) → P 0 M') : EE (d + 2) 159 [vR 76, vI most] M (rI P) := by
  have bb := drR_b hd
  have b0 := bb p
  have b1 := bb (p + 1)
  have b2 := bb (p + 2)
  have hn6 := hd.2.2.1
  have e9 : (if 9 < most then 9 else most) = 9 := by split <;> omega
  have dF : ∀ M' : Mm, FrC chn M M' → drR M' f n := fun M' h => drR_F (o := 0) (Fr_mo (fun _ _ => n_r) h) hd
  have fail : ∀ (q : Nat) (M' : Mm), nS (byM f n) most p = (q, -9) → FrC chn M M' → M' 76 24 = q → EE (d + 1) 158 [vR 76] M' (rI fun r3 M3 => (r3 = 0 ∨ r3 = 1) ∧ P r3 M3) := by
    intro q M' e hF hat
    refine c_158 hat ⟨Or.inl rfl, h0 _ (by rw [e]; show (-9 : Int) < 0; decide) (Fr_ms ⟨rfl, Or.inr (Or.inr rfl)⟩ hF) ?_⟩
    rw [m76, if_pos rfl, e]
  refine sg_159 (c_157 hd hp (c_140 (fun q => t1' ?_) (fun q => t0' ?_)))
  · have eN : nS (byM f n) most p = if dgt (byM f n) (p + 1) then
      if byM f n p - 48 = 0 ∨ most < (byM f n p - 48) * 10 + (byM f n (p + 1) - 48) then (p + 1, -9)
      else if dgt (byM f n) (p + 2) then
        if (byM f n p - 48) * 10 + (byM f n (p + 1) - 48) = 0 ∨ most < ((byM f n p - 48) * 10 + (byM f n (p + 1) - 48)) * 10 + (byM f n (p + 2) - 48) then (p + 2, -9)
        else (p + 3, ((byM f n p - 48) * 10 + (byM f n (p + 1) - 48)) * 10 + (byM f n (p + 2) - 48))
      else (p + 2, (byM f n p - 48) * 10 + (byM f n (p + 1) - 48))
    else (p + 1, byM f n p - 48) := by
      unfold nS
      rw [e9, if_pos (by omega)]
    have done : ∀ (q : Nat) (v : Int) (M' : Mm), nS (byM f n) most p = (q, v) → 0 ≤ v → FrC chn M M' → M' 76 24 = q → M' 76 25 = v → P 1 M' := by
      intro q v M' e hv hF h24 h25
      refine h1 M' (by rw [e]; exact hv) hF (by rw [e]; exact h24) (by rw [e]; exact h25)
    rw [hp]
    have f1 : FrC chn M (mset M 76 25 0) := Fr_ms ⟨rfl, Or.inr (Or.inl rfl)⟩ Fr_id
    have a1 : (mset M 76 25 0) 76 24 = p := by rw [m76, if_neg (by decide)]; exact hp
    have n1 : (mset M 76 25 0) 76 25 = 0 := by rw [m76, if_pos rfl]
    generalize mset M 76 25 0 = M1 at f1 a1 n1
    have lp := by_lt (f := f) (n := n) (p := p) (by omega)
    refine sg_159_29 (c_157 (dF _ f1) a1 (c_140 (fun _ => t1 ?_) (fun y => absurd q y)))
    rw [n1]
    refine ⟨by unfold inI; omega, c_157 (dF _ f1) a1 ⟨by unfold inI; omega, by unfold inI; omega, ?_⟩⟩
    rw [n1, a1]
    refine ⟨fun y => absurd rfl y, fun _ => ⟨fun y => absurd y (Int.lt_irrefl _), fun _ => sg_159_74 ⟨fun _ => ?_, fun y => by omega⟩⟩⟩
    have a2 : (mset M1 76 25 (10 * 0 + byM f n p - 48)) 76 24 = p := by rw [m76, if_neg (by decide)]; exact a1
    rw [a2]
    refine ⟨by unfold inI; omega, ?_⟩
    have f2 : FrC chn M (mset (mset M1 76 25 (10 * 0 + byM f n p - 48)) 76 24 ((p : Int) + 1)) := Fr_ms ⟨rfl, Or.inl rfl⟩ (Fr_ms ⟨rfl, Or.inr (Or.inl rfl)⟩ f1)
    have a3 : (mset (mset M1 76 25 (10 * 0 + byM f n p - 48)) 76 24 ((p : Int) + 1)) 76 24 = ((p + 1 : Nat) : Int) := by rw [m76, if_pos rfl]; omega
    have n3 : (mset (mset M1 76 25 (10 * 0 + byM f n p - 48)) 76 24 ((p : Int) + 1)) 76 25 = byM f n p - 48 := by rw [m76, if_neg (by decide), m76, if_pos rfl]; omega
    generalize mset (mset M1 76 25 (10 * 0 + byM f n p - 48)) 76 24 ((p : Int) + 1) = M3 at f2 a3 n3
    refine sg_159_29 (c_157 (dF _ f2) a3 (c_140 (fun q1 => t1 ?_) (fun q1 => t0 ?_)))
    · rw [if_pos (show dgt (byM f n) (p + 1) from q1)] at eN
      have lp1 := by_lt (f := f) (n := n) (p := p + 1) (by omega)
      rw [n3]
      refine ⟨by unfold inI; omega, c_157 (dF _ f2) a3 ⟨by unfold inI; omega, by unfold inI; omega, ?_⟩⟩
      rw [n3, a3]
      refine ⟨fun y => sg_159_74 ⟨fun y2 => ?_, fun y2 => ?_⟩, fun y => ⟨fun _ => ?_, fun y2 => by omega⟩⟩
      · rw [if_neg (by omega)] at eN
        have a4 : (mset M3 76 25 (10 * (byM f n p - 48) + byM f n (p + 1) - 48)) 76 24 = ((p + 1 : Nat) : Int) := by rw [m76, if_neg (by decide)]; exact a3
        rw [a4]
        refine ⟨by unfold inI; omega, ?_⟩
        have f4 : FrC chn M (mset (mset M3 76 25 (10 * (byM f n p - 48) + byM f n (p + 1) - 48)) 76 24 (((p + 1 : Nat) : Int) + 1)) := Fr_ms ⟨rfl, Or.inl rfl⟩ (Fr_ms ⟨rfl, Or.inr (Or.inl rfl)⟩ f2)
        have a5 : (mset (mset M3 76 25 (10 * (byM f n p - 48) + byM f n (p + 1) - 48)) 76 24 (((p + 1 : Nat) : Int) + 1)) 76 24 = ((p + 2 : Nat) : Int) := by rw [m76, if_pos rfl]; omega
        have n5 : (mset (mset M3 76 25 (10 * (byM f n p - 48) + byM f n (p + 1) - 48)) 76 24 (((p + 1 : Nat) : Int) + 1)) 76 25 = (byM f n p - 48) * 10 + (byM f n (p + 1) - 48) := by rw [m76, if_neg (by decide), m76, if_pos rfl]; omega
        generalize mset (mset M3 76 25 (10 * (byM f n p - 48) + byM f n (p + 1) - 48)) 76 24 (((p + 1 : Nat) : Int) + 1) = M5 at f4 a5 n5
        refine sg_159_29 (c_157 (dF _ f4) a5 (c_140 (fun q2 => t1 ?_) (fun q2 => t0 ?_)))
        · rw [if_pos (show dgt (byM f n) (p + 2) from q2), if_pos (by omega)] at eN
          rw [n5]
          refine ⟨by unfold inI; omega, c_157 (dF _ f4) a5 ⟨by unfold inI; omega, by unfold inI; omega, ?_⟩⟩
          rw [n5, a5]
          exact ⟨fun _ => sg_159_74 ⟨fun y3 => by omega, fun _ => fail (p + 2) M5 eN f4 a5⟩, fun y3 => by omega⟩
        · rw [if_neg (show ¬ dgt (byM f n) (p + 2) from q2)] at eN
          exact done (p + 2) _ M5 eN (by omega) f4 a5 n5
      · rw [if_pos (by omega)] at eN
        exact fail (p + 1) M3 eN f2 a3
      · rw [if_pos (Or.inl y)] at eN
        exact fail (p + 1) M3 eN f2 a3
    · rw [if_neg (show ¬ dgt (byM f n) (p + 1) from q1)] at eN
      exact done (p + 1) _ M3 eN (by omega) f2 a3 n3
  · refine fail p M ?_ Fr_id hp
    unfold nS
    rw [e9, if_neg (by omega)]
