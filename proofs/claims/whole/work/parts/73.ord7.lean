/-! orders: the reference reads orders, and the operation -/
def stR (M : Mm) (o : Int) (x : Od) : Prop := (M 93 (25 * o) = x.1 ∧ M 93 (25 * o + 1) = x.2.1 ∧ M 93 (25 * o + 2) = x.2.2.1 ∧ M 93 (25 * o + 3) = x.2.2.2.1 ∧ M 93 (25 * o + 4) = (x.2.2.2.2.length : Nat)) ∧ ∀ (j : Nat) (c : Cn), x.2.2.2.2[j]? = some c → M 93 (25 * o + 5 + 3 * j) = c.1 ∧ M 93 (25 * o + 5 + 3 * j + 1) = c.2.1 ∧ M 93 (25 * o + 5 + 3 * j + 2) = c.2.2
def stRC (M : Mm) (o : Int) (l : List Cn) : Prop := ∀ (j : Nat) (c : Cn), l[j]? = some c → M 93 (25 * o + 5 + 3 * j) = c.1 ∧ M 93 (25 * o + 5 + 3 * j + 1) = c.2.1 ∧ M 93 (25 * o + 5 + 3 * j + 2) = c.2.2
/-- from the deed on -/
def cht (o : Int) (k : Nat) (x : Int) : Prop := (k = 76 ∧ (x = 24 ∨ x = 25 ∨ x = 26)) ∨ (k = 93 ∧ 25 * o + 4 ≤ x ∧ x < 25 * o + 25)
theorem t_r {o : Int} {k : Nat} {x : Int} (h : cht o k x) : chr o k x := by
  unfold cht at h
  unfold chr
  omega
theorem lp_156_235 {d : Nat} {P : Int → Mm → Prop} {M : Mm} {f : Int → Int} {n : Int} {o : Nat} (hd : drR M f n) (ho : o < 30) : ∀ (k i : Nat) {acc : List Cn} {M1 : Mm} {q : Nat}, k + i = 6 → acc.length = i → FrC (cht o) M M1 → M1 76 24 = q → (q : Int) ≤ n → stRC M1 o acc → (∀ (r : Nat) (l : List Cn) (M' : Mm), dS (byM f n) k q = (r, some l) → FrC (cht o) M M' → M' 76 24 = r → M' 93 (25 * o + 4) = ((acc ++ l).length : Nat) → stRC M' o (acc ++ l) → P 1 M') → (∀ (r : Nat) (M' : Mm), dS (byM f n) k q = (r, none) → FrC (cht o) M M' → M' 76 26 = r → P 0 M') → H_156_235 (d + 3) P (25 * o) i M1
  | k, i, acc, M1, q, hk, hacc, hF, hat, hq, hst, h1, h0 => by
    have hn6 := hd.2.2.1
    have hd1 := drR_F (Fr_mo (fun _ _ => t_r) hF) hd
    have hg : ∀ (j : Nat) (c : Cn), acc[j]? = some c → j < i := by
      intro j c hj
      rcases Nat.lt_or_ge j acc.length with g | g
      · omega
      · rw [List.getElem?_eq_none g] at hj; exact absurd hj (by simp)
    refine sg_156_235 (c_157 hd1 hat ⟨fun y => ⟨by unfold inI; omega, by omega, ?_⟩, fun y => ⟨fun y2 => ?_, fun y2 => ?_⟩⟩)
    · have lq := by_lt (f := f) (n := n) (p := q) (by omega)
      rw [hat]
      refine ⟨by unfold inI; omega, ?_⟩
      refine h1 (q + 1) [] _ (dS_e y) (Fr_ms (Or.inl ⟨rfl, Or.inl rfl⟩) (Fr_ms (Or.inr ⟨rfl, by omega, by omega⟩) hF)) (by rw [m76, if_pos rfl]; omega) ?_ ?_
      · rw [List.append_nil, ms_at (by decide), ms_in, if_pos rfl, hacc]
      · rw [List.append_nil]
        intro j c hj
        have hji := hg j c hj
        have := hst j c hj
        rw [ms_at (by decide), ms_in, if_neg (by omega), ms_in, if_neg (by omega), ms_in, if_neg (by omega)]
        exact this
    · have k0 : k = 0 := by omega
      subst k0
      refine sg_156_264 ⟨fun z => absurd y2 z, fun _ => c_158 hat ⟨Or.inl rfl, h0 q _ (dS_0 y) (Fr_ms (Or.inl ⟨rfl, Or.inr (Or.inr rfl)⟩) hF) ?_⟩⟩
      rw [m76, if_pos rfl]
    · match k, hk, h1, h0 with
      | 0, hk, h1, h0 => omega
      | k + 1, hk, h1, h0 =>
        refine ⟨by unfold inI; omega, by unfold inI; omega, by unfold inI; omega, ?_⟩
        refine c_161 (d := d) (f := f) (n := n) (p := q) hd1 hat hq (by omega) (fun r x M2 e1 e2 e3 e4 e5 e6 => t1' ⟨by unfold inI; omega, ?_⟩) (fun r M2 e1 e2 e3 => t0' ?_)
        · have hr2 : (r : Int) ≤ n := by
            have := cS_le (f := f) hq
            rw [e1] at this; exact this
          have F2 : FrC (cht o) M M2 := Fr_tr hF (Fr_mo (fun k x h => by
            unfold chd at h
            unfold cht
            omega) e2)
          have key := lp_156_235 (d := d) (P := P) hd ho k (i + 1) (acc := acc ++ [x]) (M1 := M2) (q := r) (by omega) (by rw [List.length_append, hacc]; rfl) F2 e3 hr2 (fun j c hj => ?_) (fun r l M' a1 a2 a3 a4 a5 => ?_) (fun r M' a1 a2 a3 => ?_)
          · rw [show ((i + 1 : Nat) : Int) = (i : Int) + 1 by omega] at key
            exact key
          · rcases snocC hj with ⟨z1, z2⟩ | ⟨z1, z2⟩
            · have hs1 := hst j c z2
              have fx : ∀ y : Int, y < 25 * (o : Int) + 5 + 3 * i → M2 93 y = M1 93 y := fun y hy => e2 93 y (by unfold chd; omega)
              rw [fx _ (by omega), fx _ (by omega), fx _ (by omega)]
              exact hs1
            · subst z2
              rw [z1, hacc]
              exact ⟨e4, e5, e6⟩
          · rw [List.append_assoc] at a4 a5
            refine h1 r (x :: l) M' ?_ a2 a3 a4 a5
            rw [dS_s y e1, a1]; rfl
          · refine h0 r M' ?_ a2 a3
            rw [dS_s y e1, a1]; rfl
        · refine sg_156_264 ⟨fun _ => h0 r M2 (dS_n y e1) (Fr_tr hF (Fr_mo (fun k x h => by
            unfold chd at h
            unfold cht
            omega) e2)) e3, fun z => absurd z y2⟩
theorem c_156 {d : Nat} {P : Int → Mm → Prop} {M : Mm} {f : Int → Int} {n : Int} {o p : Nat} (hd : drR M f n) (ho : o < 30) (hat : M 76 24 = p) (hp : (p : Int) ≤ n) (h1 : ∀ (r : Nat) (x : Od) (M' : Mm), oS (byM f n) p = (r, some x) → FrC (chr o) M M' → M' 76 24 = r → stR M' o x → P 1 M') (h0 : ∀ (r : Nat) (M' : Mm), oS (byM f n) p = (r, none) → FrC (chr o) M M' → M' 76 26 = r → P 0 M') : EE (d + 4) 156 [vR 76, vI (25 * o)] M (rI P) := by
  have hn6 := hd.2.2.1
  have fail : ∀ (q : Nat) (M' : Mm), oS (byM f n) p = (q, none) → FrC (chr o) M M' → M' 76 24 = q → EE (d + 3) 158 [vR 76] M' (rI fun r2 M2 => (r2 = 0 ∨ r2 = 1) ∧ P r2 M2) := by
    intro q M' e hF h24
    refine c_158 h24 ⟨Or.inl rfl, h0 q _ e (Fr_ms (Or.inl ⟨rfl, Or.inr (Or.inr (Or.inr rfl))⟩) hF) ?_⟩
    rw [m76, if_pos rfl]
  have body : ∀ bo : Int, (byM f n p = 109 ∨ byM f n p = 99 ∨ byM f n p = 112) → (bo = if byM f n p = 109 then 0 else if byM f n p = 99 then 1 else 2) → H_156_54 (d + 3) P (25 * o) bo (25 * o) M := by
    intro bo hb hbo
    have lp := by_lt (f := f) (n := n) (p := p) (by omega)
    refine sg_156_54 ?_
    rw [hat]
    refine ⟨by omega, by unfold inI; omega, ?_⟩
    have F1 : FrC (chr o) M (mset (mset M 93 (25 * o) bo) 76 24 ((p : Int) + 1)) := Fr_ms (Or.inl ⟨rfl, Or.inr (Or.inl rfl)⟩) (Fr_ms (Or.inr ⟨rfl, by omega, by omega⟩) Fr_id)
    have A1 : (mset (mset M 93 (25 * o) bo) 76 24 ((p : Int) + 1)) 76 24 = ((p + 1 : Nat) : Int) := by rw [m76, if_pos rfl]; omega
    have B1 : (mset (mset M 93 (25 * o) bo) 76 24 ((p : Int) + 1)) 93 (25 * o) = bo := by rw [ms_at (by decide), ms_in, if_pos rfl]
    generalize mset (mset M 93 (25 * o) bo) 76 24 ((p : Int) + 1) = M1 at F1 A1 B1
    have hl := nS_le (f := f) (n := n) (most := 99) (p := p + 1) (by omega)
    have eo : oS (byM f n) p = if (nS (byM f n) 99 (p + 1)).2 < 0 then ((nS (byM f n) 99 (p + 1)).1, none) else oD (byM f n) (nS (byM f n) 99 (p + 1)).1 bo (nS (byM f n) 99 (p + 1)).2 := by
      unfold oS
      rw [if_pos hb, ← hbo]
    refine c_159 (d := d + 1) (f := f) (n := n) (p := p + 1) (drR_F F1 hd) A1 (by omega) (by omega) (fun M2 e1 e2 e3 e4 => t1' ?_) (fun M2 e1 e2 e3 => t0' (h0 _ M2 (by rw [eo, if_pos e1]) (Fr_tr F1 (Fr_mo (fun _ _ => n_r) e2)) e3))
    rw [if_neg (by omega)] at eo
    rw [e4]
    generalize hr : (nS (byM f n) 99 (p + 1)).1 = r at *
    generalize hv : (nS (byM f n) 99 (p + 1)).2 = v at *
    have F2 : FrC (chr o) M (mset M2 93 (25 * (o : Int) + 1) v) := Fr_ms (Or.inr ⟨rfl, by omega, by omega⟩) (Fr_tr F1 (Fr_mo (fun _ _ => n_r) e2))
    have A2 : (mset M2 93 (25 * (o : Int) + 1) v) 76 24 = r := e3
    have B2 : (mset M2 93 (25 * (o : Int) + 1) v) 93 (25 * o) = bo := by
      rw [ms_in, if_neg (by omega)]
      exact (e2 93 _ (by unfold chn; omega)).trans B1
    have C2 : (mset M2 93 (25 * (o : Int) + 1) v) 93 (25 * o + 1) = v := by rw [ms_in, if_pos rfl]
    refine ⟨by unfold inI; omega, by omega, ?_⟩
    generalize mset M2 93 (25 * (o : Int) + 1) v = M3 at F2 A2 B2 C2
    have d3 := drR_F F2 hd
    refine sg_160 (c_157 d3 A2 ⟨fun y => ?_, fun y => ?_⟩)
    · have lr := by_lt (f := f) (n := n) (p := r) (by omega)
      rw [A2]
      refine ⟨by unfold inI; omega, t1' ?_⟩
      have F4 : FrC (chr o) M (mset M3 76 24 ((r : Int) + 1)) := Fr_ms (Or.inl ⟨rfl, Or.inr (Or.inl rfl)⟩) F2
      have A4 : (mset M3 76 24 ((r : Int) + 1)) 76 24 = ((r + 1 : Nat) : Int) := by rw [m76, if_pos rfl]; omega
      have B4 : (mset M3 76 24 ((r : Int) + 1)) 93 (25 * o) = bo := B2
      have C4 : (mset M3 76 24 ((r : Int) + 1)) 93 (25 * o + 1) = v := C2
      generalize mset M3 76 24 ((r : Int) + 1) = M4 at F4 A4 B4 C4
      have d4 := drR_F F4 hd
      have ver : (byM f n (r + 1) = 43 ∨ byM f n (r + 1) = 61 ∨ byM f n (r + 1) = 45) → H_156_127 (d + 3) P (25 * o) (byM f n (r + 1)) M4 := by
        intro h3
        have lr1 := by_lt (f := f) (n := n) (p := r + 1) (by omega)
        have go : ∀ vd : Int, (vd = if byM f n (r + 1) = 43 then 1 else if byM f n (r + 1) = 61 then 0 else -1) → H_156_155 (d + 3) P (25 * o) vd (25 * o + 2) M4 := by
          intro vd hvd
          refine sg_156_155 ?_
          rw [A4]
          refine ⟨by omega, by unfold inI; omega, ?_⟩
          have F5 : FrC (chr o) M (mset (mset M4 93 (25 * o + 2) vd) 76 24 (((r + 1 : Nat) : Int) + 1)) := Fr_ms (Or.inl ⟨rfl, Or.inr (Or.inl rfl)⟩) (Fr_ms (Or.inr ⟨rfl, by omega, by omega⟩) F4)
          have A5 : (mset (mset M4 93 (25 * o + 2) vd) 76 24 (((r + 1 : Nat) : Int) + 1)) 76 24 = ((r + 2 : Nat) : Int) := by rw [m76, if_pos rfl]; omega
          have B5 : (mset (mset M4 93 (25 * o + 2) vd) 76 24 (((r + 1 : Nat) : Int) + 1)) 93 (25 * o) = bo := by rw [ms_at (by decide), ms_in, if_neg (by omega)]; exact B4
          have C5 : (mset (mset M4 93 (25 * o + 2) vd) 76 24 (((r + 1 : Nat) : Int) + 1)) 93 (25 * o + 1) = v := by rw [ms_at (by decide), ms_in, if_neg (by omega)]; exact C4
          have D5 : (mset (mset M4 93 (25 * o + 2) vd) 76 24 (((r + 1 : Nat) : Int) + 1)) 93 (25 * o + 2) = vd := by rw [ms_at (by decide), ms_in, if_pos rfl]
          generalize mset (mset M4 93 (25 * o + 2) vd) 76 24 (((r + 1 : Nat) : Int) + 1) = M5 at F5 A5 B5 C5 D5
          have d5 := drR_F F5 hd
          have deed : (byM f n (r + 2) = 108 ∨ byM f n (r + 2) = 118 ∨ byM f n (r + 2) = 102) → H_156_194 (d + 3) P (25 * o) (byM f n (r + 2)) M5 := by
            intro h4
            have lr2 := by_lt (f := f) (n := n) (p := r + 2) (by omega)
            have go2 : ∀ de : Int, (de = if byM f n (r + 2) = 108 then 0 else if byM f n (r + 2) = 118 then 1 else 2) → H_156_222 (d + 3) P (25 * o) de (25 * o + 3) M5 := by
              intro de hde
              refine sg_156_222 ?_
              rw [A5]
              refine ⟨by omega, by unfold inI; omega, ?_⟩
              have F6 : FrC (chr o) M (mset (mset M5 93 (25 * o + 3) de) 76 24 (((r + 2 : Nat) : Int) + 1)) := Fr_ms (Or.inl ⟨rfl, Or.inr (Or.inl rfl)⟩) (Fr_ms (Or.inr ⟨rfl, by omega, by omega⟩) F5)
              have A6 : (mset (mset M5 93 (25 * o + 3) de) 76 24 (((r + 2 : Nat) : Int) + 1)) 76 24 = ((r + 3 : Nat) : Int) := by rw [m76, if_pos rfl]; omega
              have B6 : (mset (mset M5 93 (25 * o + 3) de) 76 24 (((r + 2 : Nat) : Int) + 1)) 93 (25 * o) = bo := by rw [ms_at (by decide), ms_in, if_neg (by omega)]; exact B5
              have C6 : (mset (mset M5 93 (25 * o + 3) de) 76 24 (((r + 2 : Nat) : Int) + 1)) 93 (25 * o + 1) = v := by rw [ms_at (by decide), ms_in, if_neg (by omega)]; exact C5
              have D6 : (mset (mset M5 93 (25 * o + 3) de) 76 24 (((r + 2 : Nat) : Int) + 1)) 93 (25 * o + 2) = vd := by rw [ms_at (by decide), ms_in, if_neg (by omega)]; exact D5
              have E6 : (mset (mset M5 93 (25 * o + 3) de) 76 24 (((r + 2 : Nat) : Int) + 1)) 93 (25 * o + 3) = de := by rw [ms_at (by decide), ms_in, if_pos rfl]
              generalize mset (mset M5 93 (25 * o + 3) de) 76 24 (((r + 2 : Nat) : Int) + 1) = M6 at F6 A6 B6 C6 D6 E6
              have eD : oS (byM f n) p = ((dS (byM f n) 6 (r + 3)).1, (dS (byM f n) 6 (r + 3)).2.map (fun l => (bo, v, vd, de, l))) := by
                rw [eo]
                unfold oD
                rw [if_pos y, if_pos h3, if_pos h4, ← hvd, ← hde]
              refine lp_156_235 (d := d) (f := f) (n := n) (drR_F F6 hd) ho 6 0 (acc := []) (q := r + 3) rfl rfl Fr_id A6 (by omega) (fun j c hj => by simp at hj) (fun r7 l M7 a1 a2 a3 a4 a5 => ?_) (fun r7 M7 a1 a2 a3 => ?_)
              · refine h1 r7 (bo, v, vd, de, l) M7 (by rw [eD, a1]; rfl) (Fr_tr F6 (Fr_mo (fun _ _ => t_r) a2)) a3 ⟨⟨?_, ?_, ?_, ?_, a4⟩, a5⟩
                · exact (a2 93 _ (by unfold cht; omega)).trans B6
                · exact (a2 93 _ (by unfold cht; omega)).trans C6
                · exact (a2 93 _ (by unfold cht; omega)).trans D6
                · exact (a2 93 _ (by unfold cht; omega)).trans E6
              · refine h0 r7 M7 (by rw [eD, a1]; rfl) (Fr_tr F6 (Fr_mo (fun _ _ => t_r) a2)) a3
            refine sg_156_194 ⟨by unfold inI; omega, fun z => ⟨fun z2 => go2 2 (by rw [if_neg z, if_neg z2]), fun z2 => go2 1 (by rw [if_neg z, if_pos z2])⟩, fun z => go2 0 (by rw [if_pos z])⟩
          refine c_157 d5 A5 ⟨fun z => deed (Or.inl z), fun z1 => ⟨fun z => deed (Or.inr (Or.inl z)), fun z2 => ⟨fun z => deed (Or.inr (Or.inr z)), fun z3 => fail (r + 2) M5 ?_ F5 A5⟩⟩⟩
          rw [eo]
          unfold oD
          rw [if_pos y, if_pos h3, if_neg (by omega)]
        refine sg_156_127 ⟨by unfold inI; omega, fun z => ⟨fun z2 => go (-1) (by rw [if_neg z, if_neg z2]), fun z2 => go 0 (by rw [if_neg z, if_pos z2])⟩, fun z => go 1 (by rw [if_pos z])⟩
      refine c_157 d4 A4 ⟨fun z => ver (Or.inl z), fun z1 => ⟨fun z => ver (Or.inr (Or.inl z)), fun z2 => ⟨fun z => ver (Or.inr (Or.inr z)), fun z3 => fail (r + 1) M4 ?_ F4 A4⟩⟩⟩
      rw [eo]
      unfold oD
      rw [if_pos y, if_neg (by omega)]
    · refine c_158 A2 ⟨Or.inl rfl, t0' (h0 r _ ?_ (Fr_ms (Or.inl ⟨rfl, Or.inr (Or.inr (Or.inr rfl))⟩) F2) ?_)⟩
      · rw [eo]
        unfold oD
        rw [if_neg y]
      · rw [m76, if_pos rfl]
  have hb : (byM f n p = 109 ∨ byM f n p = 99 ∨ byM f n p = 112) → H_156_28 (d + 3) P (25 * o) (byM f n p) M := by
    intro h3
    exact sg_156_28 ⟨fun z => ⟨fun z2 => body 2 h3 (by rw [if_neg z, if_neg z2]), fun z2 => body 1 h3 (by rw [if_neg z, if_pos z2])⟩, fun z => body 0 h3 (by rw [if_pos z])⟩
  refine sg_156 (c_157 hd hat ⟨fun z => hb (Or.inl z), fun z1 => ⟨fun z => hb (Or.inr (Or.inl z)), fun z2 => ⟨fun z => hb (Or.inr (Or.inr z)), fun z3 => fail p M ?_ Fr_id hat⟩⟩⟩)
  unfold oS
  rw [if_neg (by omega)]
