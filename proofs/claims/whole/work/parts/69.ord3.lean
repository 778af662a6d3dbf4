/-! orders: the class reads conditions -/
theorem by_lt {f : Int → Int} {n : Int} {p : Nat} (h : ¬ byM f n p = -1) : (p : Int) < n := by
  unfold byM at h
  by_cases l : (p : Int) < n
  · exact l
  · rw [if_neg l] at h; exact absurd rfl h
theorem nS_le {f : Int → Int} {n most : Int} {p : Nat} (hp : (p : Int) ≤ n) : ((nS (byM f n) most p).1 : Int) ≤ n := by
  unfold nS
  generalize (if 9 < most then 9 else most) = z
  split
  · rename_i h0
    have l0 := by_lt (f := f) (n := n) (p := p) (by omega)
    split
    · rename_i h1
      have h1a := h1.1
      have l1 := by_lt (f := f) (n := n) (p := p + 1) (by omega)
      split
      · show ((p + 1 : Nat) : Int) ≤ n; omega
      · split
        · rename_i h2
          have h2a := h2.1
          have l2 := by_lt (f := f) (n := n) (p := p + 2) (by omega)
          split
          · show ((p + 2 : Nat) : Int) ≤ n; omega
          · show ((p + 3 : Nat) : Int) ≤ n; omega
        · show ((p + 2 : Nat) : Int) ≤ n; omega
    · show ((p + 1 : Nat) : Int) ≤ n; omega
  · exact hp
/-- a number of a condition is read, and put down -/
theorem c_87n {d : Nat} {P : Int → Mm → Prop} {M : Mm} {f : Int → Int} {n a4 s0 most c : Int} {p : Nat} (hd : drf M f n) (hp : M 39 0 = p ∧ p ≤ 690) (h4 : ¬ a4 = 2) (h5 : 0 ≤ a4 ∧ a4 < 5) (hm : (tbL.getD 10 []).getD a4.toNat 0 = most) (hm2 : 0 ≤ most ∧ most ≤ 99) (hc : 0 ≤ c ∧ c < 180) (h1 : 0 ≤ (nS (byM f n) most p).2 → P 1 (mset (mset (mset M 73 c s0) 39 0 ((nS (byM f n) most p).1 : Nat)) 74 c (nS (byM f n) most p).2)) (h0 : (nS (byM f n) most p).2 < 0 → P 0 (mset (mset (mset M 73 c s0) 39 0 ((nS (byM f n) most p).1 : Nat)) 74 c (nS (byM f n) most p).2)) : H_87_79 (d + 3) P c a4 s0 c M := by
  refine sg_87_79 ⟨hc, fun _ => ⟨h5, ?_⟩, fun z => absurd z h4⟩
  rw [hm]
  refine c_85 (M := mset M 73 c s0) (f := f) (n := n) (p := p) hd hp hm2 (sg_87_106 ⟨hc, hc, ?_⟩)
  have e : (mset (mset (mset M 73 c s0) 39 0 ((nS (byM f n) most p).1 : Nat)) 74 c (nS (byM f n) most p).2) 74 c = (nS (byM f n) most p).2 := by
    show fset (M 74) c _ c = _
    exact fs_eq
  rw [e]
  exact ⟨h0, h1⟩
/-- nothing but condition c of the spare book has changed -/
def CK (M M' : Mm) (c : Int) : Prop := (∀ k, ¬ (k = 39 ∨ k = 73 ∨ k = 74 ∨ k = 75) → M' k = M k) ∧ ∀ x, ¬ x = c → M' 73 x = M 73 x ∧ M' 74 x = M 74 x ∧ M' 75 x = M 75 x
def stC (M : Mm) (x : Int) (c : Cn) : Prop := M 73 x = enW c.1 ∧ (¬ c.1 = 3 → M 74 x = c.2.1) ∧ M 75 x = c.2.2
theorem ms_at {M : Mm} {k j : Nat} {i x : Int} (h : ¬ j = k) : mset M k i x j = M j := if_neg h
theorem ms_in {M : Mm} {k : Nat} {i x y : Int} : mset M k i x k y = if y = i then x else M k y := by
  unfold mset rset
  rw [if_pos rfl]; rfl
theorem CK_39 {M M' : Mm} {c : Int} (h : CK M M' c) (x : Int) : CK M (mset M' 39 0 x) c :=
  ⟨fun k hk => by rw [ms_at (fun e => hk (Or.inl e))]; exact h.1 k hk, fun y hy => h.2 y hy⟩
theorem CK_73 {M M' : Mm} {c : Int} (h : CK M M' c) (x : Int) : CK M (mset M' 73 c x) c :=
  ⟨fun k hk => by rw [ms_at (fun e => hk (Or.inr (Or.inl e)))]; exact h.1 k hk, fun y hy => by
    have := h.2 y hy
    refine ⟨?_, this.2.1, this.2.2⟩
    rw [ms_in, if_neg hy]; exact this.1⟩
theorem CK_74 {M M' : Mm} {c : Int} (h : CK M M' c) (x : Int) : CK M (mset M' 74 c x) c :=
  ⟨fun k hk => by rw [ms_at (fun e => hk (Or.inr (Or.inr (Or.inl e))))]; exact h.1 k hk, fun y hy => by
    have := h.2 y hy
    refine ⟨this.1, ?_, this.2.2⟩
    rw [ms_in, if_neg hy]; exact this.2.1⟩
theorem CK_75 {M M' : Mm} {c : Int} (h : CK M M' c) (x : Int) : CK M (mset M' 75 c x) c :=
  ⟨fun k hk => by rw [ms_at (fun e => hk (Or.inr (Or.inr (Or.inr e))))]; exact h.1 k hk, fun y hy => by
    have := h.2 y hy
    refine ⟨this.1, this.2.1, ?_⟩
    rw [ms_in, if_neg hy]; exact this.2.2⟩
theorem CK_id {M : Mm} {c : Int} : CK M M c := ⟨fun _ _ => rfl, fun _ _ => ⟨rfl, rfl, rfl⟩⟩
theorem CK_d {M M' : Mm} {c : Int} {f : Int → Int} {n : Int} (h : CK M M' c) (hd : drf M f n) : drf M' f n := by
  unfold drf
  rw [h.1 9 (by omega), h.1 8 (by omega)]
  exact hd
/-- a number of one digit: what the class finds -/
theorem n1_of {by_ : Nat → Int} {most : Int} {q : Nat} (hm : most = 1 ∨ most = 3 ∨ most = 5) : (nS by_ most q = (q, -9) ∧ ¬ (48 ≤ by_ q ∧ by_ q ≤ 48 + most)) ∨ ((48 ≤ by_ q ∧ by_ q ≤ 48 + most) ∧ ((nS by_ most q = (q + 1, -9) ∧ dgt by_ (q + 1)) ∨ nS by_ most q = (q + 1, by_ q - 48))) := by
  have e9 : (if 9 < most then 9 else most) = most := if_neg (by omega)
  unfold nS
  rw [e9]
  by_cases h0 : 48 ≤ by_ q ∧ by_ q ≤ 48 + most
  · refine Or.inr ⟨h0, ?_⟩
    rw [if_pos h0]
    by_cases h1 : dgt by_ (q + 1)
    · have h1a := h1.1
      rw [if_pos h1, if_pos (by omega)]
      exact Or.inl ⟨rfl, h1⟩
    · rw [if_neg h1]
      exact Or.inr rfl
  · refine Or.inl ⟨?_, h0⟩
    rw [if_neg h0]
theorem c_87 {d : Nat} {P : Int → Mm → Prop} {M : Mm} {f : Int → Int} {n c : Int} {p : Nat} (hd : drf M f n) (hp : M 39 0 = p ∧ (p : Int) ≤ n) (hc : 0 ≤ c ∧ c < 180) (h1 : ∀ (r : Nat) (x : Cn) (M' : Mm), cS (byM f n) p = (r, some x) → CK M M' c → M' 39 0 = r → stC M' c x → P 1 M') (h0 : ∀ (r : Nat) (M' : Mm), (cS (byM f n) p = (r, none) ∨ (dgt (byM f n) r ∧ ∃ x, cS (byM f n) p = (r, some x))) → CK M M' c → M' 39 0 = r → P 0 M') : EE (d + 7) 87 [vR 39, vR 8, vR 67, vI c] M (rI P) := by
  have hn := hd.2.2.1
  have main : ∀ (q : Nat) (ng : Int) (M1 : Mm), (ng = 0 ∨ ng = 1) → cS (byM f n) p = cB (byM f n) q ng → (q : Int) ≤ n → CK M M1 c → M1 39 0 = q → H_87_20 (d + 6) P c ng c M1 := by
    intro q ng M1 hng hcs hq hk hat
    refine sg_87_20 ⟨hng, hc, ?_⟩
    have hk2 := CK_75 hk ng
    have hat2 : (mset M1 75 c ng) 39 0 = q := hat
    have hng2 : (mset M1 75 c ng) 75 c = ng := by rw [ms_in, if_pos rfl]
    generalize mset M1 75 c ng = M2 at hk2 hat2 hng2
    have hd2 := CK_d hk2 hd
    have one : ∀ (i : Nat) (w most : Int), (most = 1 ∨ most = 3 ∨ most = 5) → ¬ (i : Int) = 2 → i < 5 → (tbL.getD 10 []).getD ((i : Int)).toNat 0 = most → (i : Int) = enW w → (¬ byM f n q = -1) → cB (byM f n) q ng = v1 (byM f n) (q + 1) w most ng → H_87_79 (d + 6) P c i i c (mset M2 39 0 ((q + 1 : Nat) : Int)) := by
      intro i w most hm hi2 hi5 htb hen hlt hcb
      have lq := by_lt hlt
      have hd3 : drf (mset M2 39 0 ((q + 1 : Nat) : Int)) f n := hd2
      have fr : CK M (mset (mset (mset (mset M2 39 0 ((q + 1 : Nat) : Int)) 73 c i) 39 0 ((nS (byM f n) most (q + 1)).1 : Nat)) 74 c (nS (byM f n) most (q + 1)).2) c := CK_74 (CK_39 (CK_73 (CK_39 hk2 _) _) _) _
      have at_ : (mset (mset (mset (mset M2 39 0 ((q + 1 : Nat) : Int)) 73 c i) 39 0 ((nS (byM f n) most (q + 1)).1 : Nat)) 74 c (nS (byM f n) most (q + 1)).2) 39 0 = ((nS (byM f n) most (q + 1)).1 : Nat) := by
        rw [ms_at (by decide)]; exact m39_a
      refine c_87n (d := d + 3) (f := f) (n := n) (p := q + 1) (most := most) hd3 ⟨m39_a, by omega⟩ hi2 (by omega) htb (by omega) hc (fun hv => ?_) (fun hv => ?_)
      · rcases n1_of (by_ := byM f n) (q := q + 1) hm with ⟨e, _⟩ | ⟨g1, ⟨e, _⟩ | e⟩
        · rw [e] at hv
          have hv : (0 : Int) ≤ -9 := hv
          omega
        · rw [e] at hv
          have hv : (0 : Int) ≤ -9 := hv
          omega
        · rw [e] at fr at_ ⊢
          refine h1 (q + 2) (w, byM f n (q + 1) - 48, ng) _ ?_ fr at_ ⟨?_, fun _ => ?_, ?_⟩
          · rw [hcs, hcb]
            unfold v1
            rw [if_pos g1]
          · show (mset (mset (mset (mset M2 39 0 ((q + 1 : Nat) : Int)) 73 c i) 39 0 _) 74 c _) 73 c = enW w
            rw [ms_at (by decide), ms_at (by decide), ms_in, if_pos rfl]
            exact hen
          · rw [ms_in, if_pos rfl]
          · show (mset (mset (mset (mset M2 39 0 ((q + 1 : Nat) : Int)) 73 c i) 39 0 _) 74 c _) 75 c = ng
            rw [ms_at (by decide), ms_at (by decide), ms_at (by decide), ms_at (by decide)]
            exact hng2
      · rcases n1_of (by_ := byM f n) (q := q + 1) hm with ⟨e, g1⟩ | ⟨g1, ⟨e, g2⟩ | e⟩
        · rw [e] at fr at_ ⊢
          refine h0 (q + 1) _ (Or.inl ?_) fr at_
          rw [hcs, hcb]
          unfold v1
          rw [if_neg g1]
        · rw [e] at fr at_ ⊢
          refine h0 (q + 2) _ (Or.inr ⟨g2, (w, byM f n (q + 1) - 48, ng), ?_⟩) fr at_
          rw [hcs, hcb]
          unfold v1
          rw [if_pos g1]
        · rw [e] at hv
          have hv : byM f n (q + 1) - 48 < 0 := hv
          omega
    refine c_84 (d := d + 1) (a := 5) (f := f) (n := n) (p := q) hd2 (by decide) ⟨hat2, by omega⟩ (fun i hi e => ?_) (fun hno => ?_)
    · have hi5 : i < 5 := hi
      have hcases : i = 0 ∨ i = 1 ∨ i = 2 ∨ i = 3 ∨ i = 4 := by omega
      rcases hcases with rfl | rfl | rfl | rfl | rfl
      · have e : byM f n q = 115 := e
        refine ⟨fun _ => ⟨fun _ => sg_87_54 ⟨fun _ => ⟨fun z => (z rfl).elim, fun _ => one 0 0 1 (Or.inl rfl) (by decide) (by decide) (by decide +kernel) (by decide) (by omega) ?_⟩, fun z => absurd z (by decide)⟩, fun z => absurd z (by decide)⟩, fun z => absurd z (by decide)⟩
        unfold cB; rw [if_pos e]
      · have e : byM f n q = 97 := e
        refine ⟨fun _ => ⟨fun z => (z (by decide)).elim, fun _ => ?_⟩, fun z => absurd z (by decide)⟩
        have lq := by_lt (f := f) (n := n) (p := q) (by omega)
        have hcb : cB (byM f n) q ng = vA (byM f n) (q + 1) ng := by
          unfold cB; rw [if_neg (by omega), if_pos e]
        have hd3 : drf (mset M2 39 0 ((q + 1 : Nat) : Int)) f n := hd2
        have age : ∀ w s0 : Int, s0 = enW w → (w = if byM f n (q + 1) = 60 then 1 else 2) → (byM f n (q + 1) = 60 ∨ byM f n (q + 1) = 62) → H_87_79 (d + 6) P c ((1 : Nat) : Int) s0 c (mset (mset M2 39 0 ((q + 1 : Nat) : Int)) 39 0 ((q + 1 + 1 : Nat) : Int)) := by
          intro w s0 hen hw h6
          rw [m39]
          have lq1 := by_lt (f := f) (n := n) (p := q + 1) (by omega)
          have hd4 : drf (mset M2 39 0 ((q + 2 : Nat) : Int)) f n := hd2
          have fr : CK M (mset (mset (mset (mset M2 39 0 ((q + 2 : Nat) : Int)) 73 c s0) 39 0 ((nS (byM f n) 15 (q + 2)).1 : Nat)) 74 c (nS (byM f n) 15 (q + 2)).2) c := CK_74 (CK_39 (CK_73 (CK_39 hk2 _) _) _) _
          have at_ : (mset (mset (mset (mset M2 39 0 ((q + 2 : Nat) : Int)) 73 c s0) 39 0 ((nS (byM f n) 15 (q + 2)).1 : Nat)) 74 c (nS (byM f n) 15 (q + 2)).2) 39 0 = ((nS (byM f n) 15 (q + 2)).1 : Nat) := by
            rw [ms_at (by decide)]; exact m39_a
          refine c_87n (d := d + 3) (f := f) (n := n) (p := q + 2) (most := 15) hd4 ⟨m39_a, by omega⟩ (by decide) (by decide) (by decide +kernel) (by omega) hc (fun hv => ?_) (fun hv => ?_)
          · refine h1 (nS (byM f n) 15 (q + 2)).1 (w, (nS (byM f n) 15 (q + 2)).2, ng) _ ?_ fr at_ ⟨?_, fun _ => ?_, ?_⟩
            · rw [hcs, hcb]
              unfold vA
              rw [if_pos h6, if_neg (show ¬ (nS (byM f n) 15 (q + 1 + 1)).2 < 0 from Int.not_lt.mpr hv), ← hw]
            · show (mset (mset (mset (mset M2 39 0 ((q + 2 : Nat) : Int)) 73 c s0) 39 0 _) 74 c _) 73 c = enW w
              rw [ms_at (by decide), ms_at (by decide), ms_in, if_pos rfl]
              exact hen
            · rw [ms_in, if_pos rfl]
            · show (mset (mset (mset (mset M2 39 0 ((q + 2 : Nat) : Int)) 73 c s0) 39 0 _) 74 c _) 75 c = ng
              rw [ms_at (by decide), ms_at (by decide), ms_at (by decide), ms_at (by decide)]
              exact hng2
          · refine h0 (nS (byM f n) 15 (q + 2)).1 _ (Or.inl ?_) fr at_
            rw [hcs, hcb]
            unfold vA
            rw [if_pos h6, if_pos hv]
        refine c_84 (d := d + 1) (a := 6) (f := f) (n := n) (p := q + 1) hd3 (by decide) ⟨m39_a, by omega⟩ (fun i hi e6 => ?_) (fun hno => ?_)
        · have hi2 : i < 2 := hi
          have hcases : i = 0 ∨ i = 1 := by omega
          rcases hcases with rfl | rfl
          · have e6 : byM f n (q + 1) = 60 := e6
            exact sg_87_54 ⟨fun _ => ⟨fun z => (z rfl).elim, fun _ => age 1 1 (by decide) (by rw [if_pos e6]) (Or.inl e6)⟩, fun z => absurd z (by decide)⟩
          · have e6 : byM f n (q + 1) = 62 := e6
            exact sg_87_54 ⟨fun _ => ⟨fun _ => age 2 5 (by decide) (by rw [if_neg (by omega)]) (Or.inr e6), fun z => absurd z (by decide)⟩, fun z => absurd z (by decide)⟩
        · have n0 : ¬ byM f n (q + 1) = 60 := hno 0 (by decide)
          have n1 : ¬ byM f n (q + 1) = 62 := hno 1 (by decide)
          refine sg_87_54 ⟨fun z => absurd z (by decide), fun _ => h0 (q + 1) _ (Or.inl ?_) (CK_39 hk2 _) m39_a⟩
          rw [hcs, hcb]
          unfold vA
          rw [if_neg (by omega)]
      · have e : byM f n q = 107 := e
        refine ⟨fun _ => ⟨fun _ => sg_87_54 ⟨fun _ => ⟨fun z => (z rfl).elim, fun _ => sg_87_79 ⟨hc, fun z => (z (by decide)).elim, fun _ => sg_87_106 ⟨hc, hc, ?_⟩⟩⟩, fun z => absurd z (by decide)⟩, fun z => absurd z (by decide)⟩, fun z => absurd z (by decide)⟩
        have e0 : (mset (mset (mset M2 39 0 ((q + 1 : Nat) : Int)) 73 c ((2 : Nat) : Int)) 74 c 0) 74 c = 0 := by
          rw [ms_in, if_pos rfl]
        refine ⟨fun z => by rw [e0] at z; omega, fun _ => ?_⟩
        refine h1 (q + 1) (3, 0, ng) _ ?_ (CK_74 (CK_73 (CK_39 hk2 _) _) _) ?_ ⟨?_, fun z => absurd rfl z, ?_⟩
        · rw [hcs]; unfold cB
          rw [if_neg (by omega), if_neg (by omega), if_pos e]
        · rw [ms_at (by decide), ms_at (by decide)]; exact m39_a
        · show (mset (mset (mset M2 39 0 ((q + 1 : Nat) : Int)) 73 c ((2 : Nat) : Int)) 74 c 0) 73 c = enW 3
          rw [ms_at (by decide), ms_in, if_pos rfl]
          decide
        · show (mset (mset (mset M2 39 0 ((q + 1 : Nat) : Int)) 73 c ((2 : Nat) : Int)) 74 c 0) 75 c = ng
          rw [ms_at (by decide), ms_at (by decide), ms_at (by decide)]
          exact hng2
      · have e : byM f n q = 104 := e
        refine ⟨fun _ => ⟨fun _ => sg_87_54 ⟨fun _ => ⟨fun z => (z rfl).elim, fun _ => one 3 4 3 (Or.inr (Or.inl rfl)) (by decide) (by decide) (by decide +kernel) (by decide) (by omega) ?_⟩, fun z => absurd z (by decide)⟩, fun z => absurd z (by decide)⟩, fun z => absurd z (by decide)⟩
        unfold cB; rw [if_neg (by omega), if_neg (by omega), if_neg (by omega), if_pos e]
      · have e : byM f n q = 119 := e
        refine ⟨fun _ => ⟨fun _ => sg_87_54 ⟨fun _ => ⟨fun z => (z rfl).elim, fun _ => one 4 5 5 (Or.inr (Or.inr rfl)) (by decide) (by decide) (by decide +kernel) (by decide) (by omega) ?_⟩, fun z => absurd z (by decide)⟩, fun z => absurd z (by decide)⟩, fun z => absurd z (by decide)⟩
        unfold cB; rw [if_neg (by omega), if_neg (by omega), if_neg (by omega), if_neg (by omega), if_pos e]
    · have n0 : ¬ byM f n q = 115 := hno 0 (by decide)
      have n1 : ¬ byM f n q = 97 := hno 1 (by decide)
      have n2 : ¬ byM f n q = 107 := hno 2 (by decide)
      have n3 : ¬ byM f n q = 104 := hno 3 (by decide)
      have n4 : ¬ byM f n q = 119 := hno 4 (by decide)
      refine ⟨fun z => absurd z (by decide), fun _ => h0 q _ (Or.inl ?_) hk2 hat2⟩
      rw [hcs]; unfold cB
      rw [if_neg n0, if_neg n1, if_neg n2, if_neg n3, if_neg n4]
  refine sg_87 (c_84 (d := d + 1) (a := 4) (f := f) (n := n) (p := p) hd (by decide) ⟨hp.1, by omega⟩ (fun i hi e => ⟨fun z => by omega, fun _ => ?_⟩) (fun hno => ⟨fun _ => ?_, fun z => by omega⟩))
  · have hi1 : i < 1 := hi
    have ei : i = 0 := by omega
    subst ei
    have e : byM f n p = 33 := e
    have lp := by_lt (f := f) (n := n) (p := p) (by omega)
    refine main (p + 1) 1 _ (Or.inr rfl) ?_ (by omega) (CK_39 CK_id _) m39_a
    unfold cS; rw [if_pos e]
  · have n0 : ¬ byM f n p = 33 := hno 0 (by decide)
    refine main p 0 M (Or.inl rfl) ?_ hp.2 CK_id hp.1
    unfold cS; rw [if_neg n0]
