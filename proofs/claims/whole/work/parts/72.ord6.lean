/-! orders: the reference reads conditions and orders -/
def chd (to : Int) (k : Nat) (x : Int) : Prop := (k = 76 ∧ (x = 24 ∨ x = 25 ∨ x = 26)) ∨ (k = 93 ∧ to ≤ x ∧ x < to + 3)
theorem n_d {to : Int} {k : Nat} {x : Int} (h : chn k x) : chd to k x := Or.inl h
theorem drR_D {M M' : Mm} {to : Int} {f : Int → Int} {n : Int} (h : FrC (chd to) M M') (hd : drR M f n) : drR M' f n := by
  have e9 : M' 91 = M 91 := by
    funext x
    exact h 91 x (by unfold chd; omega)
  unfold drR
  rw [e9, h 76 20 (by unfold chd; omega)]
  exact hd
theorem f_324 {d : Nat} {P : Int → Mm → Prop} {M M1 : Mm} {to a3 ng w : Int} (hto : 0 ≤ to ∧ to + 3 ≤ 750) (hF : FrC (chd to) M M1) (hw : M1 93 to = w) (hng : M1 93 (to + 2) = ng) (ha : a3 = 0 ∨ a3 = 1) (hP : ∀ M' : Mm, FrC (chd to) M M' → M' 76 24 = M1 76 24 → M' 76 26 = M1 76 26 → M' 93 to = w → M' 93 (to + 1) = M1 76 25 → M' 93 (to + 2) = ng → P a3 M') : H_161_324 d P to a3 M1 := by
  refine sg_161_324 ⟨by unfold inI; omega, by omega, ha, ?_⟩
  refine hP _ (Fr_ms (Or.inr ⟨rfl, by omega, by omega⟩) hF) rfl rfl ?_ ?_ ?_
  · rw [ms_in, if_neg (by omega)]; exact hw
  · rw [ms_in, if_pos rfl]
  · rw [ms_in, if_neg (by omega)]; exact hng
theorem c_161 {d : Nat} {P : Int → Mm → Prop} {M : Mm} {f : Int → Int} {n to : Int} {p : Nat} (hd : drR M f n) (hp : M 76 24 = p) (hn : (p : Int) ≤ n) (hto : 0 ≤ to ∧ to + 3 ≤ 750) (h1 : ∀ (r : Nat) (x : Cn) (M' : Mm), cS (byM f n) p = (r, some x) → FrC (chd to) M M' → M' 76 24 = r → M' 93 to = x.1 → M' 93 (to + 1) = x.2.1 → M' 93 (to + 2) = x.2.2 → P 1 M') (h0 : ∀ (r : Nat) (M' : Mm), cS (byM f n) p = (r, none) → FrC (chd to) M M' → M' 76 26 = r → P 0 M') : EE (d + 3) 161 [vR 76, vI to] M (rI P) := by
  have hn6 := hd.2.2.1
  have main : ∀ (q : Nat) (ng : Int) (M1 : Mm), cS (byM f n) p = cB (byM f n) q ng → (q : Int) ≤ n → FrC (chd to) M M1 → M1 76 24 = q → M1 93 (to + 2) = ng → H_161_37 (d + 2) P to M1 := by
    intro q ng M1 hcs hq hF hat hng
    have d1 := drR_D hF hd
    have one : ∀ (w most ch : Int), (most = 1 ∨ most = 3 ∨ most = 5) → (ch = 115 ∨ ch = 104 ∨ ch = 119) → (most = if ch = 115 then 1 else if ch = 104 then 3 else 5) → byM f n q = ch → cB (byM f n) q ng = v1 (byM f n) (q + 1) w most ng → H_161_233 (d + 2) P to ch w to (mset (mset M1 76 24 ((q : Int) + 1)) 76 25 0) := by
      intro w most ch hmost hch hmc hby hcb
      have lq := by_lt (f := f) (n := n) (p := q) (by omega)
      have key : H_161_255 (d + 2) P to most (mset (mset (mset M1 76 24 ((q : Int) + 1)) 76 25 0) 93 to w) := by
        have fr : FrC (chd to) M (mset (mset (mset M1 76 24 ((q : Int) + 1)) 76 25 0) 93 to w) := Fr_ms (Or.inr ⟨rfl, by omega, by omega⟩) (Fr_ms (Or.inl ⟨rfl, Or.inr (Or.inl rfl)⟩) (Fr_ms (Or.inl ⟨rfl, Or.inl rfl⟩) hF))
        have a2 : (mset (mset (mset M1 76 24 ((q : Int) + 1)) 76 25 0) 93 to w) 76 24 = ((q + 1 : Nat) : Int) := by
          rw [ms_at (by decide), m76, if_neg (by decide), m76, if_pos rfl]; omega
        have w2 : (mset (mset (mset M1 76 24 ((q : Int) + 1)) 76 25 0) 93 to w) 93 to = w := by rw [ms_in, if_pos rfl]
        have g2 : (mset (mset (mset M1 76 24 ((q : Int) + 1)) 76 25 0) 93 to w) 93 (to + 2) = ng := by
          rw [ms_in, if_neg (by omega)]; exact hng
        generalize mset (mset (mset M1 76 24 ((q : Int) + 1)) 76 25 0) 93 to w = M2 at fr a2 w2 g2
        have d2 := drR_D fr hd
        have b1 := drR_b hd (q + 1)
        refine sg_161_255 (c_157 d2 a2 ⟨by unfold inI; omega, c_140 (fun y => t1' (sg_161_281 (sg_161_286 (t1 (c_157 d2 a2 ⟨by unfold inI; omega, sg_161_303 (t1 ?_)⟩))))) (fun y => t0' (c_158 a2 (t0 (sg_161_286 (t0 (sg_161_303 (t0 ?_)))))))⟩)
        · have a3 : (mset M2 76 25 (byM f n (q + 1) - 48)) 76 24 = ((q + 1 : Nat) : Int) := by rw [m76, if_neg (by decide)]; exact a2
          rw [a3]
          refine sg_161_320 ⟨by unfold inI; omega, ?_⟩
          refine f_324 (w := w) (ng := ng) hto (Fr_ms (Or.inl ⟨rfl, Or.inl rfl⟩) (Fr_ms (Or.inl ⟨rfl, Or.inr (Or.inl rfl)⟩) fr)) w2 g2 (Or.inr rfl) (fun M' k1 k2 k3 k4 k5 k6 => ?_)
          refine h1 (q + 2) (w, byM f n (q + 1) - 48, ng) M' ?_ k1 ?_ k4 ?_ k6
          · rw [hcs, hcb]
            unfold v1
            rw [if_pos y]
          · rw [k2, m76, if_pos rfl]; omega
          · rw [k5, m76, if_neg (by decide), m76, if_pos rfl]
        · have a3 : (mset (mset M2 76 26 ((q + 1 : Nat) : Int)) 76 25 0) 76 24 = ((q + 1 : Nat) : Int) := by rw [m76, if_neg (by decide), m76, if_neg (by decide)]; exact a2
          rw [a3]
          refine sg_161_320 ⟨by unfold inI; omega, ?_⟩
          refine f_324 (w := w) (ng := ng) hto (Fr_ms (Or.inl ⟨rfl, Or.inl rfl⟩) (Fr_ms (Or.inl ⟨rfl, Or.inr (Or.inl rfl)⟩) (Fr_ms (Or.inl ⟨rfl, Or.inr (Or.inr rfl)⟩) fr))) w2 g2 (Or.inl rfl) (fun M' k1 k2 k3 k4 k5 k6 => ?_)
          refine h0 (q + 1) M' ?_ k1 ?_
          · rw [hcs, hcb]
            unfold v1
            rw [if_neg y]
          · rw [k3, m76, if_neg (by decide), m76, if_neg (by decide), m76, if_pos rfl]
      refine sg_161_233 ⟨by omega, fun y => ⟨fun y2 => ?_, fun y2 => ?_⟩, fun y => ?_⟩
      · rw [if_neg y, if_neg y2] at hmc
        rw [hmc] at key; exact key
      · rw [if_neg y, if_pos y2] at hmc
        rw [hmc] at key; exact key
      · rw [if_pos y] at hmc
        rw [hmc] at key; exact key
    have go : ∀ ch : Int, byM f n q = ch → (ch = 115 ∨ ch = 97 ∨ ch = 107 ∨ ch = 104 ∨ ch = 119) → H_161_77 (d + 2) P to ch M1 := by
      intro ch hby hch
      have lq := by_lt (f := f) (n := n) (p := q) (by omega)
      refine sg_161_77 ?_
      rw [hat]
      refine ⟨by unfold inI; omega, fun y1 => ⟨fun y2 => ⟨fun y3 => ⟨fun y4 => ?_, fun y4 => ?_⟩, fun y3 => ?_⟩, fun y2 => ⟨by omega, ?_⟩⟩, fun y1 => ?_⟩
      · refine one 5 5 ch (by omega) (by omega) (by rw [if_neg y3, if_neg y4]) hby ?_
        unfold cB
        rw [if_neg (by omega), if_neg (by omega), if_neg (by omega), if_neg (by omega), if_pos (by omega)]
      · refine one 4 3 ch (by omega) (by omega) (by rw [if_neg y3, if_pos y4]) hby ?_
        unfold cB
        rw [if_neg (by omega), if_neg (by omega), if_neg (by omega), if_pos (by omega)]
      · refine one 0 1 ch (by omega) (by omega) (by rw [if_pos y3]) hby ?_
        unfold cB
        rw [if_pos (by omega)]
      · refine f_324 (w := 3) (ng := ng) hto (Fr_ms (Or.inr ⟨rfl, by omega, by omega⟩) (Fr_ms (Or.inl ⟨rfl, Or.inr (Or.inl rfl)⟩) (Fr_ms (Or.inl ⟨rfl, Or.inl rfl⟩) hF))) (by rw [ms_in, if_pos rfl]) (by rw [ms_in, if_neg (by omega)]; exact hng) (Or.inr rfl) (fun M' k1 k2 k3 k4 k5 k6 => ?_)
        refine h1 (q + 1) (3, 0, ng) M' ?_ k1 ?_ k4 ?_ k6
        · rw [hcs]
          unfold cB
          rw [if_neg (by omega), if_neg (by omega), if_pos (by omega)]
        · rw [k2, ms_at (by decide), m76, if_neg (by decide), m76, if_pos rfl]; omega
        · rw [k5, ms_at (by decide), m76, if_pos rfl]
      · have hcb : cB (byM f n) q ng = vA (byM f n) (q + 1) ng := by
          unfold cB
          rw [if_neg (by omega), if_pos (by omega)]
        have fr : FrC (chd to) M (mset (mset M1 76 24 ((q : Int) + 1)) 76 25 0) := Fr_ms (Or.inl ⟨rfl, Or.inr (Or.inl rfl)⟩) (Fr_ms (Or.inl ⟨rfl, Or.inl rfl⟩) hF)
        have a2 : (mset (mset M1 76 24 ((q : Int) + 1)) 76 25 0) 76 24 = ((q + 1 : Nat) : Int) := by
          rw [m76, if_neg (by decide), m76, if_pos rfl]; omega
        have g2 : (mset (mset M1 76 24 ((q : Int) + 1)) 76 25 0) 93 (to + 2) = ng := hng
        generalize mset (mset M1 76 24 ((q : Int) + 1)) 76 25 0 = M2 at fr a2 g2
        have b1 := drR_b hd (q + 1)
        have age : ∀ w : Int, (w = if byM f n (q + 1) = 60 then 1 else 2) → H_161_119 (d + 2) P to w to M2 := by
          intro w hw
          have fr3 : FrC (chd to) M (mset M2 93 to w) := Fr_ms (Or.inr ⟨rfl, by omega, by omega⟩) fr
          have a3 : (mset M2 93 to w) 76 24 = ((q + 1 : Nat) : Int) := a2
          have w3 : (mset M2 93 to w) 93 to = w := by rw [ms_in, if_pos rfl]
          have g3 : (mset M2 93 to w) 93 (to + 2) = ng := by rw [ms_in, if_neg (by omega)]; exact g2
          refine sg_161_119 ⟨by omega, ?_⟩
          generalize mset M2 93 to w = M3 at fr3 a3 w3 g3
          have d3 := drR_D fr3 hd
          have good : (byM f n (q + 1) = 60 ∨ byM f n (q + 1) = 62) → H_161_145 (d + 2) P to M3 := by
            intro h6
            have lq1 := by_lt (f := f) (n := n) (p := q + 1) (by omega)
            refine sg_161_145 (sg_161_150 (t1 (sg_161_165 ?_)))
            rw [a3]
            refine ⟨by unfold inI; omega, t1 ?_⟩
            have fr4 : FrC (chd to) M (mset M3 76 24 (((q + 1 : Nat) : Int) + 1)) := Fr_ms (Or.inl ⟨rfl, Or.inl rfl⟩) fr3
            have a4 : (mset M3 76 24 (((q + 1 : Nat) : Int) + 1)) 76 24 = ((q + 2 : Nat) : Int) := by rw [m76, if_pos rfl]; omega
            have w4 : (mset M3 76 24 (((q + 1 : Nat) : Int) + 1)) 93 to = w := w3
            have g4 : (mset M3 76 24 (((q + 1 : Nat) : Int) + 1)) 93 (to + 2) = ng := g3
            generalize mset M3 76 24 (((q + 1 : Nat) : Int) + 1) = M4 at fr4 a4 w4 g4
            refine c_159 (d := d) (f := f) (n := n) (p := q + 2) (drR_D fr4 hd) a4 (by omega) (by omega) (fun M5 e1 e2 e3 e4 => t1 (sg_161_187 ?_)) (fun M5 e1 e2 e3 => t0 (sg_161_186 (sg_161_187 ?_)))
            · refine f_324 (w := w) (ng := ng) hto (Fr_tr fr4 (Fr_mo (fun _ _ => n_d) e2)) ((e2 93 to (by unfold chn; omega)).trans w4) ((e2 93 (to + 2) (by unfold chn; omega)).trans g4) (Or.inr rfl) (fun M' k1 k2 k3 k4 k5 k6 => ?_)
              refine h1 (nS (byM f n) 15 (q + 2)).1 (w, (nS (byM f n) 15 (q + 2)).2, ng) M' ?_ k1 (by rw [k2, e3]) k4 (by rw [k5, e4]) k6
              rw [hcs, hcb]
              unfold vA
              rw [if_pos h6, if_neg (show ¬ (nS (byM f n) 15 (q + 1 + 1)).2 < 0 from Int.not_lt.mpr e1), ← hw]
            · refine f_324 (w := w) (ng := ng) hto (Fr_tr fr4 (Fr_mo (fun _ _ => n_d) e2)) ((e2 93 to (by unfold chn; omega)).trans w4) ((e2 93 (to + 2) (by unfold chn; omega)).trans g4) (Or.inl rfl) (fun M' k1 k2 k3 k4 k5 k6 => ?_)
              refine h0 (nS (byM f n) 15 (q + 2)).1 M' ?_ k1 (by rw [k3, e3])
              rw [hcs, hcb]
              unfold vA
              rw [if_pos h6, if_pos e1]
          refine c_157 d3 a3 ⟨fun y => good (Or.inl y), fun y => c_157 d3 a3 ⟨fun y2 => good (Or.inr y2), fun y2 => c_158 a3 (t0 (sg_161_150 (t0 (sg_161_165 ?_))))⟩⟩
          have a5 : (mset M3 76 26 ((q + 1 : Nat) : Int)) 76 24 = ((q + 1 : Nat) : Int) := by rw [m76, if_neg (by decide)]; exact a3
          rw [a5]
          refine ⟨by unfold inI; omega, t0 (sg_161_186 (sg_161_187 ?_))⟩
          refine f_324 (w := w) (ng := ng) hto (Fr_ms (Or.inl ⟨rfl, Or.inl rfl⟩) (Fr_ms (Or.inl ⟨rfl, Or.inr (Or.inr rfl)⟩) fr3)) w3 g3 (Or.inl rfl) (fun M' k1 k2 k3 k4 k5 k6 => ?_)
          refine h0 (q + 1) M' ?_ k1 ?_
          · rw [hcs, hcb]
            unfold vA
            rw [if_neg (by omega)]
          · rw [k3, m76, if_neg (by decide), m76, if_pos rfl]
        refine c_157 (drR_D fr hd) a2 ⟨fun y => age 2 (by rw [if_neg y]), fun y => age 1 (by rw [if_pos y])⟩
    refine sg_161_37 (c_157 d1 hat ⟨fun y => go _ rfl (by omega), fun y1 => ⟨fun y => go _ rfl (by omega), fun y2 => ⟨fun y => go _ rfl (by omega), fun y3 => ⟨fun y => go _ rfl (by omega), fun y4 => ⟨fun y => go _ rfl (by omega), fun y5 => c_158 hat ⟨Or.inl rfl, h0 q _ ?_ (Fr_ms (Or.inl ⟨rfl, Or.inr (Or.inr rfl)⟩) hF) ?_⟩⟩⟩⟩⟩⟩)
    · rw [hcs]
      unfold cB
      rw [if_neg y1, if_neg y2, if_neg y3, if_neg y4, if_neg y5]
    · rw [m76, if_pos rfl]
  have F1 : FrC (chd to) M (mset M 93 (to + 2) 0) := Fr_ms (Or.inr ⟨rfl, by omega, by omega⟩) Fr_id
  refine sg_161 ⟨by unfold inI; omega, by omega, c_157 (drR_D F1 hd) (p := p) hp ⟨fun y => ?_, fun y => ⟨by unfold inI; omega, by omega, ?_⟩⟩⟩
  · refine main p 0 _ ?_ hn F1 hp (by rw [ms_in, if_pos rfl])
    unfold cS
    rw [if_neg y]
  · have lp := by_lt (f := f) (n := n) (p := p) (by omega)
    have e : (mset M 93 (to + 2) 0) 76 24 = p := hp
    rw [e]
    refine ⟨by unfold inI; omega, ?_⟩
    refine main (p + 1) 1 _ ?_ (by omega) (Fr_ms (Or.inl ⟨rfl, Or.inl rfl⟩) (Fr_ms (Or.inr ⟨rfl, by omega, by omega⟩) F1)) (by rw [m76, if_pos rfl]; omega) ?_
    · unfold cS
      rw [if_pos y]
    · rw [ms_at (by decide), ms_in, if_pos rfl]
