/-! orders: the class reads orders -/
theorem v1_le {f : Int → Int} {n : Int} {q : Nat} {what most ng : Int} (hq : (q : Int) ≤ n) : ((v1 (byM f n) q what most ng).1 : Int) ≤ n := by
  unfold v1
  split
  · rename_i h
    have := by_lt (f := f) (n := n) (p := q) (by omega)
    show ((q + 1 : Nat) : Int) ≤ n
    omega
  · exact hq
theorem cB_le {f : Int → Int} {n : Int} {q : Nat} {ng : Int} (hq : (q : Int) ≤ n) : ((cB (byM f n) q ng).1 : Int) ≤ n := by
  unfold cB
  split
  · have := by_lt (f := f) (n := n) (p := q) (by omega)
    exact v1_le (by omega)
  · split
    · have l0 := by_lt (f := f) (n := n) (p := q) (by omega)
      unfold vA
      split
      · have l1 := by_lt (f := f) (n := n) (p := q + 1) (by omega)
        split
        · exact nS_le (by omega)
        · exact nS_le (by omega)
      · show ((q + 1 : Nat) : Int) ≤ n
        omega
    · split
      · have := by_lt (f := f) (n := n) (p := q) (by omega)
        show ((q + 1 : Nat) : Int) ≤ n
        omega
      · split
        · have := by_lt (f := f) (n := n) (p := q) (by omega)
          exact v1_le (by omega)
        · split
          · have := by_lt (f := f) (n := n) (p := q) (by omega)
            exact v1_le (by omega)
          · exact hq
theorem cS_le {f : Int → Int} {n : Int} {p : Nat} (hp : (p : Int) ≤ n) : ((cS (byM f n) p).1 : Int) ≤ n := by
  unfold cS
  split
  · have := by_lt (f := f) (n := n) (p := p) (by omega)
    exact cB_le (by omega)
  · exact cB_le hp
theorem dS_le {f : Int → Int} {n : Int} : ∀ (k : Nat) {p : Nat}, (p : Int) ≤ n → ((dS (byM f n) k p).1 : Int) ≤ n
  | 0, p, hp => by
    by_cases h : byM f n p = 59
    · have := by_lt (f := f) (n := n) (p := p) (by omega)
      rw [dS_e h]
      show ((p + 1 : Nat) : Int) ≤ n
      omega
    · rw [dS_0 h]; exact hp
  | k + 1, p, hp => by
    by_cases h : byM f n p = 59
    · have := by_lt (f := f) (n := n) (p := p) (by omega)
      rw [dS_e h]
      show ((p + 1 : Nat) : Int) ≤ n
      omega
    · have hc := cS_le (f := f) hp
      cases hs : cS (byM f n) p with
      | mk r o =>
        rw [hs] at hc
        cases o with
        | none => rw [dS_n h hs]; exact hc
        | some c => rw [dS_s h hs]; exact dS_le k hc
/-- what reading order o may change -/
def chg (o : Int) (k : Nat) (x : Int) : Prop := k = 39 ∨ k = 67 ∨ ((68 ≤ k ∧ k ≤ 72) ∧ x = o) ∨ ((73 ≤ k ∧ k ≤ 75) ∧ 6 * o ≤ x ∧ x < 6 * o + 6)
def chc (o : Int) (k : Nat) (x : Int) : Prop := k = 39 ∨ (k = 72 ∧ x = o) ∨ ((73 ≤ k ∧ k ≤ 75) ∧ 6 * o ≤ x ∧ x < 6 * o + 6)
def FrC (C : Nat → Int → Prop) (M M' : Mm) : Prop := ∀ k x, ¬ C k x → M' k x = M k x
def GK (M M' : Mm) (o : Int) : Prop := FrC (chg o) M M'
def HK (M M' : Mm) (o : Int) : Prop := FrC (chc o) M M'
theorem Fr_ms {C : Nat → Int → Prop} {M M' : Mm} {k : Nat} {i x : Int} (hc : C k i) (h : FrC C M M') : FrC C M (mset M' k i x) := by
  intro k' x' hn
  by_cases e : k' = k
  · subst e
    rw [ms_in, if_neg (fun y => hn (by rw [y]; exact hc))]
    exact h k' x' hn
  · rw [ms_at e]; exact h k' x' hn
theorem GK_id {M : Mm} {o : Int} : GK M M o := fun _ _ _ => rfl
theorem HK_id {M : Mm} {o : Int} : HK M M o := fun _ _ _ => rfl
theorem GK_ms {M M' : Mm} {o : Int} {k : Nat} {i x : Int} (hc : chg o k i) (h : GK M M' o) : GK M (mset M' k i x) o := Fr_ms hc h
theorem HK_ms {M M' : Mm} {o : Int} {k : Nat} {i x : Int} (hc : chc o k i) (h : HK M M' o) : HK M (mset M' k i x) o := Fr_ms hc h
theorem HK_GK {M M' : Mm} {o : Int} (h : HK M M' o) : GK M M' o := fun k x hn => h k x (fun y => hn (by
  unfold chc at y
  unfold chg
  omega))
theorem HK_CK {M M1 M2 : Mm} {o : Int} {i : Nat} (hi : i < 6) (h : HK M M1 o) (hc : CK M1 M2 (6 * o + i)) : HK M M2 o := by
  intro k x hn
  rw [← h k x hn]
  by_cases hk : k = 39 ∨ k = 73 ∨ k = 74 ∨ k = 75
  · have hx : ¬ x = 6 * o + i := fun y => hn (by
      unfold chc
      omega)
    have := hc.2 x hx
    rcases hk with e | e | e | e
    · exact absurd (Or.inl e) hn
    · subst e; exact this.1
    · subst e; exact this.2.1
    · subst e; exact this.2.2
  · exact congrFun (hc.1 k hk) x
theorem GK_d {M M' : Mm} {o : Int} {f : Int → Int} {n : Int} (h : GK M M' o) (hd : drf M f n) : drf M' f n := by
  have e9 : M' 9 = M 9 := by
    funext x
    exact h 9 x (by unfold chg; omega)
  unfold drf
  rw [e9, h 8 1 (by unfold chg; omega)]
  exact hd
def stL (M : Mm) (o : Int) (l : List Cn) : Prop := ∀ (j : Nat) (c : Cn), l[j]? = some c → stC M (6 * o + j) c
theorem snocC {L : List Cn} {x c : Cn} {j : Nat} (h : (L ++ [x])[j]? = some c) : (j < L.length ∧ L[j]? = some c) ∨ (j = L.length ∧ c = x) := by
  rcases Nat.lt_or_ge j L.length with g | g
  · rw [List.getElem?_append_left g] at h
    exact Or.inl ⟨g, h⟩
  · rw [List.getElem?_append_right g] at h
    cases hj : j - L.length with
    | zero => rw [hj] at h; exact Or.inr ⟨by omega, by simpa using h.symm⟩
    | succ n => rw [hj] at h; simp at h
theorem lp_86 {d : Nat} {P : Int → Mm → Prop} {M : Mm} {f : Int → Int} {n : Int} {o : Nat} (hd : drf M f n) (ho : o < 30) : ∀ (k i : Nat) {acc : List Cn} {M1 : Mm} {q : Nat}, k + i = 6 → acc.length = i → HK M M1 o → M1 39 0 = q → (q : Int) ≤ n → M1 72 o = i → stL M1 o acc → (∀ (r : Nat) (l : List Cn) (M' : Mm), dS (byM f n) k q = (r, some l) → HK M M' o → M' 39 0 = r → M' 72 o = ((acc ++ l).length : Nat) → (acc ++ l).length ≤ 6 → stL M' o (acc ++ l) → P 1 M') → (∀ (r : Nat) (M' : Mm), dS (byM f n) k q = (r, none) → HK M M' o → M' 39 0 = r → P 0 M') → H_86_10 (d + 7) P o i M1
  | k, i, acc, M1, q, hk, hacc, hG, hat, hq, hct, hst, h1, h0 => by
    have hn := hd.2.2.1
    have hd1 := GK_d (HK_GK hG) hd
    have fin : (k = 0 ∨ byM f n q = 59) → H_86_67 (d + 7) P M1 := by
      intro hor
      refine sg_86_67 (c_84 (d := d + 2) (a := 7) (f := f) (n := n) (p := q) hd1 (by decide) ⟨hat, by omega⟩ (fun j hj e => ⟨fun z => by omega, fun _ => ?_⟩) (fun hno => ⟨fun _ => ?_, fun z => by omega⟩))
      · have hj1 : j < 1 := hj
        have ej : j = 0 := by omega
        subst ej
        have e : byM f n q = 59 := e
        refine h1 (q + 1) [] _ (dS_e e) (HK_ms (Or.inl rfl) hG) m39_a ?_ ?_ ?_
        · rw [List.append_nil, ms_at (by decide), hct, hacc]
        · rw [List.append_nil]; omega
        · rw [List.append_nil]; exact hst
      · have n0 : ¬ byM f n q = 59 := hno 0 (by decide)
        have k0 : k = 0 := by
          rcases hor with y | y
          · exact y
          · exact absurd y n0
        subst k0
        exact h0 q M1 (dS_0 n0) hG hat
    match k, hk, h1, h0, fin with
    | 0, hk, h1, h0, fin =>
      exact sg_86_10 ⟨fun _ => fin (Or.inl rfl), fun z => by omega⟩
    | k + 1, hk, h1, h0, fin =>
      refine sg_86_10 ⟨fun z => by omega, fun _ => ?_⟩
      rw [hat]
      refine c_60 hd1 (fun r hr => ⟨fun z => ⟨by unfold inI; omega, by unfold inI; omega, ?_⟩, fun z => fin (Or.inr ?_)⟩)
      · have z2 : ¬ byM f n q = 59 := by
          rcases hr with y | y
          · rw [← y]; exact z
          · omega
        rw [show (o : Int) * 6 + (i : Int) = 6 * (o : Int) + (i : Int) by omega]
        refine c_87 (d := d) (f := f) (n := n) (p := q) hd1 ⟨hat, hq⟩ (by omega) (fun r2 x M2 hcs hck hat2 hsc => t1' ?_) (fun r2 M2 hcs hck hat2 => t0' ?_)
        · have hG2 := HK_CK (i := i) (by omega) hG hck
          have h72 : M2 72 = M1 72 := hck.1 72 (by omega)
          rw [h72, hct]
          refine ⟨by omega, by unfold inI; omega, by omega, by unfold inI; omega, ?_⟩
          have hr2 : (r2 : Int) ≤ n := by
            have := cS_le (f := f) hq
            rw [hcs] at this; exact this
          have key := lp_86 (d := d) (P := P) hd ho k (i + 1) (acc := acc ++ [x]) (M1 := mset M2 72 o ((i : Int) + 1)) (q := r2) (by omega) (by rw [List.length_append, hacc]; rfl) (HK_ms (Or.inr (Or.inl ⟨rfl, rfl⟩)) hG2) hat2 hr2 (by rw [ms_in, if_pos rfl]; omega) (fun j c hj => ?_) (fun r l M' e5 e6 e7 e8 e9 e10 => ?_) (fun r M' e5 e6 e7 => ?_)
          · rw [show ((i + 1 : Nat) : Int) = (i : Int) + 1 by omega] at key
            exact key
          · rcases snocC hj with ⟨y1, y2⟩ | ⟨y1, y2⟩
            · have hs1 := hst j c y2
              have hx := hck.2 (6 * (o : Int) + j) (by omega)
              exact ⟨hx.1.trans hs1.1, fun y => hx.2.1.trans (hs1.2.1 y), hx.2.2.trans hs1.2.2⟩
            · subst y2
              rw [y1, hacc]
              exact hsc
          · rw [List.append_assoc] at e8 e9 e10
            refine h1 r (x :: l) M' ?_ e6 e7 e8 e9 e10
            rw [dS_s z2 hcs, e5]; rfl
          · refine h0 r M' ?_ e6 e7
            rw [dS_s z2 hcs, e5]; rfl
        · refine h0 r2 M2 ?_ (HK_CK (i := i) (by omega) hG hck) hat2
          rcases hcs with y | ⟨y1, x, y2⟩
          · exact dS_n z2 y
          · rw [dS_s z2 y2, dS_dg y1]; rfl
      · rcases hr with y | y
        · rw [← y]; exact z
        · omega
theorem c_86 {d : Nat} {P : Int → Mm → Prop} {M : Mm} {f : Int → Int} {n : Int} {o q : Nat} (hd : drf M f n) (ho : o < 30) (hat : M 39 0 = q) (hq : (q : Int) ≤ n) (h1 : ∀ (r : Nat) (l : List Cn) (M' : Mm), dS (byM f n) 6 q = (r, some l) → HK M M' o → M' 39 0 = r → M' 72 o = (l.length : Nat) → l.length ≤ 6 → stL M' o l → P 1 M') (h0 : ∀ (r : Nat) (M' : Mm), dS (byM f n) 6 q = (r, none) → HK M M' o → M' 39 0 = r → P 0 M') : EE (d + 8) 86 [vR 39, vR 8, vR 67, vI o] M (rI P) := by
  refine sg_86 ⟨by omega, ?_⟩
  exact lp_86 hd ho 6 0 (acc := []) rfl rfl (HK_ms (Or.inr (Or.inl ⟨rfl, rfl⟩)) HK_id) hat hq (by rw [ms_in, if_pos rfl]; rfl) (fun j c hj => by simp at hj) h1 h0
def stO (M : Mm) (o : Int) (x : Od) : Prop := (M 68 o = x.1 ∧ M 69 o = x.2.1 ∧ M 70 o = x.2.2.1 ∧ M 71 o = x.2.2.2.1) ∧ (M 72 o = (x.2.2.2.2.length : Nat) ∧ x.2.2.2.2.length ≤ 6) ∧ stL M o x.2.2.2.2
theorem GK_tr {M M1 M2 : Mm} {o : Int} (h1 : GK M M1 o) (h2 : GK M1 M2 o) : GK M M2 o := fun k x hn => (h2 k x hn).trans (h1 k x hn)
theorem c_83 {d : Nat} {P : Int → Mm → Prop} {M : Mm} {f : Int → Int} {n : Int} {o p : Nat} (hd : drf M f n) (ho : M 67 8 = o ∧ o < 30) (hat : M 39 0 = p) (hp : (p : Int) ≤ n) (h1 : ∀ (r : Nat) (x : Od) (M' : Mm), oS (byM f n) p = (r, some x) → GK M M' o → M' 39 0 = r → M' 67 8 = ((o + 1 : Nat) : Int) → stO M' o x → P 1 M') (h0 : ∀ (r : Nat) (M' : Mm), oS (byM f n) p = (r, none) → GK M M' o → M' 39 0 = r → P 0 M') : EE (d + 9) 83 [vR 39, vR 8, vR 67] M (rI P) := by
  have hn := hd.2.2.1
  have hr30 : 0 ≤ (o : Int) ∧ (o : Int) < 30 := by omega
  refine sg_83 ?_
  rw [ho.1]
  refine ⟨fun _ => ?_, fun z => by omega⟩
  refine c_84 (d := d + 3) (a := 0) (f := f) (n := n) (p := p) hd (by decide) ⟨hat, by omega⟩ (fun i hi e => ⟨hr30, hr30, ?_⟩) (fun hno => ⟨hr30, hr30, ?_⟩)
  · have hi3 : i < 3 := hi
    have hcase : (byM f n p = 109 ∨ byM f n p = 99 ∨ byM f n p = 112) ∧ (i : Int) = (if byM f n p = 109 then 0 else if byM f n p = 99 then 1 else 2) := by
      have hc : i = 0 ∨ i = 1 ∨ i = 2 := by omega
      rcases hc with rfl | rfl | rfl
      · have e : byM f n p = 109 := e
        exact ⟨Or.inl e, by rw [if_pos e]; rfl⟩
      · have e : byM f n p = 99 := e
        exact ⟨Or.inr (Or.inl e), by rw [if_neg (by omega), if_pos e]; rfl⟩
      · have e : byM f n p = 112 := e
        exact ⟨Or.inr (Or.inr e), by rw [if_neg (by omega), if_neg (by omega)]; rfl⟩
    have lp := by_lt (f := f) (n := n) (p := p) (by omega)
    rw [ms_in, if_pos rfl]
    refine ⟨fun _ => ?_, fun z => by omega⟩
    have g1 : GK M (mset (mset M 39 0 ((p + 1 : Nat) : Int)) 68 o i) o := GK_ms (Or.inr (Or.inr (Or.inl ⟨by omega, rfl⟩))) (GK_ms (Or.inl rfl) GK_id)
    have a1 : (mset (mset M 39 0 ((p + 1 : Nat) : Int)) 68 o i) 39 0 = ((p + 1 : Nat) : Int) := by
      rw [ms_at (by decide)]; exact m39_a
    have b1 : (mset (mset M 39 0 ((p + 1 : Nat) : Int)) 68 o i) 68 o = i := by rw [ms_in, if_pos rfl]
    have z1 : (mset (mset M 39 0 ((p + 1 : Nat) : Int)) 68 o i) 67 8 = o := ho.1
    generalize mset (mset M 39 0 ((p + 1 : Nat) : Int)) 68 o i = M1 at g1 a1 b1 z1
    have d1 := GK_d g1 hd
    refine c_85 (d := d + 5) (f := f) (n := n) (p := p + 1) d1 ⟨a1, by omega⟩ (by omega) ⟨hr30, hr30, ?_⟩
    rw [ms_in, if_pos rfl]
    have hl := nS_le (f := f) (n := n) (most := 99) (p := p + 1) (by omega)
    have eo : oS (byM f n) p = if (nS (byM f n) 99 (p + 1)).2 < 0 then ((nS (byM f n) 99 (p + 1)).1, none) else oD (byM f n) (nS (byM f n) 99 (p + 1)).1 i (nS (byM f n) 99 (p + 1)).2 := by
      unfold oS
      rw [if_pos hcase.1, hcase.2]
    have g2 : GK M (mset (mset M1 39 0 ((nS (byM f n) 99 (p + 1)).1 : Nat)) 69 o (nS (byM f n) 99 (p + 1)).2) o := GK_ms (Or.inr (Or.inr (Or.inl ⟨by omega, rfl⟩))) (GK_ms (Or.inl rfl) g1)
    have a2 : (mset (mset M1 39 0 ((nS (byM f n) 99 (p + 1)).1 : Nat)) 69 o (nS (byM f n) 99 (p + 1)).2) 39 0 = ((nS (byM f n) 99 (p + 1)).1 : Nat) := by
      rw [ms_at (by decide)]; exact m39_a
    have b2 : (mset (mset M1 39 0 ((nS (byM f n) 99 (p + 1)).1 : Nat)) 69 o (nS (byM f n) 99 (p + 1)).2) 68 o = i := b1
    have c2 : (mset (mset M1 39 0 ((nS (byM f n) 99 (p + 1)).1 : Nat)) 69 o (nS (byM f n) 99 (p + 1)).2) 69 o = (nS (byM f n) 99 (p + 1)).2 := by rw [ms_in, if_pos rfl]
    have z2 : (mset (mset M1 39 0 ((nS (byM f n) 99 (p + 1)).1 : Nat)) 69 o (nS (byM f n) 99 (p + 1)).2) 67 8 = o := z1
    generalize mset (mset M1 39 0 ((nS (byM f n) 99 (p + 1)).1 : Nat)) 69 o (nS (byM f n) 99 (p + 1)).2 = M2 at g2 a2 b2 c2 z2
    refine ⟨fun z => h0 _ M2 (by rw [eo, if_pos z]) g2 a2, fun z => ?_⟩
    rw [if_neg (by omega)] at eo
    generalize hr : (nS (byM f n) 99 (p + 1)).1 = r at *
    generalize hv : (nS (byM f n) 99 (p + 1)).2 = v at *
    have d2 := GK_d g2 hd
    refine c_84 (d := d + 3) (a := 1) (f := f) (n := n) (p := r) d2 (by decide) ⟨a2, by omega⟩ (fun i2 hi2 e2 => ⟨fun _ => ?_, fun y => by omega⟩) (fun hno => ⟨fun y => by omega, fun _ => h0 r M2 ?_ g2 a2⟩)
    · have hi21 : i2 < 1 := hi2
      have e2 : byM f n r = 58 := by
        have : i2 = 0 := by omega
        subst this; exact e2
      have lr := by_lt (f := f) (n := n) (p := r) (by omega)
      have g3 : GK M (mset M2 39 0 ((r + 1 : Nat) : Int)) o := GK_ms (Or.inl rfl) g2
      have d3 := GK_d g3 hd
      refine c_84 (d := d + 3) (a := 2) (f := f) (n := n) (p := r + 1) d3 (by decide) ⟨m39_a, by omega⟩ (fun i3 hi3 e3 => ⟨fun _ => ⟨?_, hr30, ?_⟩, fun y => by omega⟩) (fun hno => ⟨fun y => by omega, fun _ => h0 (r + 1) _ ?_ g3 m39_a⟩)
      · have hi33 : i3 < 3 := hi3
        unfold inI; omega
      · have hi33 : i3 < 3 := hi3
        have hcase3 : (byM f n (r + 1) = 43 ∨ byM f n (r + 1) = 61 ∨ byM f n (r + 1) = 45) ∧ (i3 : Int) - 1 = (if byM f n (r + 1) = 43 then 1 else if byM f n (r + 1) = 61 then 0 else -1) := by
          have hc : i3 = 0 ∨ i3 = 1 ∨ i3 = 2 := by omega
          rcases hc with rfl | rfl | rfl
          · have e3 : byM f n (r + 1) = 45 := e3
            exact ⟨Or.inr (Or.inr e3), by rw [if_neg (by omega), if_neg (by omega)]; rfl⟩
          · have e3 : byM f n (r + 1) = 61 := e3
            exact ⟨Or.inr (Or.inl e3), by rw [if_neg (by omega), if_pos e3]; rfl⟩
          · have e3 : byM f n (r + 1) = 43 := e3
            exact ⟨Or.inl e3, by rw [if_pos e3]; rfl⟩
        have lr1 := by_lt (f := f) (n := n) (p := r + 1) (by omega)
        rw [m39]
        have g4 : GK M (mset (mset M2 39 0 ((r + 2 : Nat) : Int)) 70 o ((i3 : Int) - 1)) o := GK_ms (Or.inr (Or.inr (Or.inl ⟨by omega, rfl⟩))) (GK_ms (Or.inl rfl) g2)
        have a4 : (mset (mset M2 39 0 ((r + 2 : Nat) : Int)) 70 o ((i3 : Int) - 1)) 39 0 = ((r + 2 : Nat) : Int) := by
          rw [ms_at (by decide)]; exact m39_a
        have b4 : (mset (mset M2 39 0 ((r + 2 : Nat) : Int)) 70 o ((i3 : Int) - 1)) 68 o = i := b2
        have c4 : (mset (mset M2 39 0 ((r + 2 : Nat) : Int)) 70 o ((i3 : Int) - 1)) 69 o = v := c2
        have e4 : (mset (mset M2 39 0 ((r + 2 : Nat) : Int)) 70 o ((i3 : Int) - 1)) 70 o = (i3 : Int) - 1 := by rw [ms_in, if_pos rfl]
        have z4 : (mset (mset M2 39 0 ((r + 2 : Nat) : Int)) 70 o ((i3 : Int) - 1)) 67 8 = o := z2
        show EE (d + 8) 84 [vR 39, vR 8, vK 3] (mset (mset M2 39 0 ((r + 2 : Nat) : Int)) 70 o ((i3 : Int) - 1)) _
        generalize mset (mset M2 39 0 ((r + 2 : Nat) : Int)) 70 o ((i3 : Int) - 1) = M4 at g4 a4 b4 c4 e4 z4
        have d4 := GK_d g4 hd
        refine c_84 (d := d + 3) (a := 3) (f := f) (n := n) (p := r + 2) d4 (by decide) ⟨a4, by omega⟩ (fun i5 hi5 e5 => ⟨hr30, hr30, ?_⟩) (fun hno => ⟨hr30, hr30, ?_⟩)
        · have hi53 : i5 < 3 := hi5
          have hcase5 : (byM f n (r + 2) = 108 ∨ byM f n (r + 2) = 118 ∨ byM f n (r + 2) = 102) ∧ (i5 : Int) = (if byM f n (r + 2) = 108 then 0 else if byM f n (r + 2) = 118 then 1 else 2) := by
            have hc : i5 = 0 ∨ i5 = 1 ∨ i5 = 2 := by omega
            rcases hc with rfl | rfl | rfl
            · have e5 : byM f n (r + 2) = 108 := e5
              exact ⟨Or.inl e5, by rw [if_pos e5]; rfl⟩
            · have e5 : byM f n (r + 2) = 118 := e5
              exact ⟨Or.inr (Or.inl e5), by rw [if_neg (by omega), if_pos e5]; rfl⟩
            · have e5 : byM f n (r + 2) = 102 := e5
              exact ⟨Or.inr (Or.inr e5), by rw [if_neg (by omega), if_neg (by omega)]; rfl⟩
          have lr2 := by_lt (f := f) (n := n) (p := r + 2) (by omega)
          rw [ms_in, if_pos rfl]
          refine ⟨fun y => by omega, fun _ => ?_⟩
          have g5 : GK M (mset (mset M4 39 0 ((r + 3 : Nat) : Int)) 71 o i5) o := GK_ms (Or.inr (Or.inr (Or.inl ⟨by omega, rfl⟩))) (GK_ms (Or.inl rfl) g4)
          have a5 : (mset (mset M4 39 0 ((r + 3 : Nat) : Int)) 71 o i5) 39 0 = ((r + 3 : Nat) : Int) := by
            rw [ms_at (by decide)]; exact m39_a
          have b5 : (mset (mset M4 39 0 ((r + 3 : Nat) : Int)) 71 o i5) 68 o = i := b4
          have c5 : (mset (mset M4 39 0 ((r + 3 : Nat) : Int)) 71 o i5) 69 o = v := c4
          have f5 : (mset (mset M4 39 0 ((r + 3 : Nat) : Int)) 71 o i5) 70 o = (i3 : Int) - 1 := e4
          have h5 : (mset (mset M4 39 0 ((r + 3 : Nat) : Int)) 71 o i5) 71 o = (i5 : Int) := by rw [ms_in, if_pos rfl]
          have z5 : (mset (mset M4 39 0 ((r + 3 : Nat) : Int)) 71 o i5) 67 8 = o := z4
          show EE (d + 8) 86 [vR 39, vR 8, vR 67, vI o] (mset (mset M4 39 0 ((r + 3 : Nat) : Int)) 71 o i5) _
          generalize mset (mset M4 39 0 ((r + 3 : Nat) : Int)) 71 o i5 = M5 at g5 a5 b5 c5 f5 h5 z5
          have d5 := GK_d g5 hd
          have eD : oS (byM f n) p = ((dS (byM f n) 6 (r + 3)).1, (dS (byM f n) 6 (r + 3)).2.map (fun l => ((i : Int), v, (i3 : Int) - 1, (i5 : Int), l))) := by
            rw [eo]
            unfold oD
            rw [if_pos e2, if_pos hcase3.1, if_pos hcase5.1, hcase3.2, hcase5.2]
          refine c_86 (d := d) (f := f) (n := n) (q := r + 3) d5 ho.2 a5 (by omega) (fun r6 l M6 k1 k2 k3 k4 k5 k6 => t1' ?_) (fun r6 M6 k1 k2 k3 => t0' ?_)
          · have z6 : M6 67 8 = o := (k2 67 8 (by unfold chc; omega)).trans z5
            rw [z6]
            refine ⟨by unfold inI; omega, ?_⟩
            refine h1 r6 ((i : Int), v, (i3 : Int) - 1, (i5 : Int), l) _ (by rw [eD, k1]; rfl) (GK_ms (Or.inr (Or.inl rfl)) (GK_tr g5 (HK_GK k2))) k3 (by rw [ms_in, if_pos rfl]; omega) ⟨⟨?_, ?_, ?_, ?_⟩, ⟨k4, k5⟩, k6⟩
            · exact (k2 68 o (by unfold chc; omega)).trans b5
            · exact (k2 69 o (by unfold chc; omega)).trans c5
            · exact (k2 70 o (by unfold chc; omega)).trans f5
            · exact (k2 71 o (by unfold chc; omega)).trans h5
          · refine h0 r6 M6 ?_ (GK_tr g5 (HK_GK k2)) k3
            rw [eD, k1]; rfl
        · have n0 : ¬ byM f n (r + 2) = 108 := hno 0 (by decide)
          have n1 : ¬ byM f n (r + 2) = 118 := hno 1 (by decide)
          have n2 : ¬ byM f n (r + 2) = 102 := hno 2 (by decide)
          rw [ms_in, if_pos rfl]
          refine ⟨fun _ => h0 (r + 2) _ ?_ (GK_ms (Or.inr (Or.inr (Or.inl ⟨by omega, rfl⟩))) g4) a4, fun y => by omega⟩
          rw [eo]
          unfold oD
          rw [if_pos e2, if_pos hcase3.1, if_neg (by omega)]
      · have n0 : ¬ byM f n (r + 1) = 45 := hno 0 (by decide)
        have n1 : ¬ byM f n (r + 1) = 61 := hno 1 (by decide)
        have n2 : ¬ byM f n (r + 1) = 43 := hno 2 (by decide)
        rw [eo]
        unfold oD
        rw [if_pos e2, if_neg (by omega)]
    · have n0 : ¬ byM f n r = 58 := hno 0 (by decide)
      rw [eo]
      unfold oD
      rw [if_neg n0]
  · have n0 : ¬ byM f n p = 109 := hno 0 (by decide)
    have n1 : ¬ byM f n p = 99 := hno 1 (by decide)
    have n2 : ¬ byM f n p = 112 := hno 2 (by decide)
    rw [ms_in, if_pos rfl]
    refine ⟨fun y => by omega, fun _ => h0 p _ ?_ (GK_ms (Or.inr (Or.inr (Or.inl ⟨by omega, rfl⟩))) GK_id) hat⟩
    unfold oS
    rw [if_neg (by omega)]
