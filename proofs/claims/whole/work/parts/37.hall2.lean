/-! the halls: gathering and counting -/
def hallN (tn bt : Int → Int) (v : Int) (k : Nat) : List Int := ((List.range k).map (fun k : Nat => (k : Int))).filter (fun c => vil tn bt c = v)
theorem hallN_s {tn bt : Int → Int} {v : Int} {k : Nat} : hallN tn bt v (k + 1) = hallN tn bt v k ++ (if vil tn bt k = v then [(k : Int)] else []) := by
  unfold hallN
  rw [List.range_succ, List.map_append, List.filter_append]
  congr 1
  by_cases h : vil tn bt k = v
  · simp [h]
  · simp [h]
theorem hallN_b {tn bt : Int → Int} {v : Int} : ∀ k : Nat, (hallN tn bt v k).length ≤ k ∧ (∀ c ∈ hallN tn bt v k, (0 ≤ c ∧ c < (k : Int)) ∧ vil tn bt c = v) ∧ List.Pairwise (· < ·) (hallN tn bt v k)
  | 0 => ⟨Nat.le_refl 0, (fun c hc => absurd hc (List.not_mem_nil)), List.Pairwise.nil⟩
  | k + 1 => by
    obtain ⟨h1, h2, h3⟩ := hallN_b (tn := tn) (bt := bt) (v := v) k
    rw [hallN_s]
    by_cases h : vil tn bt k = v
    · rw [if_pos h]
      refine ⟨by rw [List.length_append]; show _ + 1 ≤ k + 1; omega, fun c hc => ?_, ?_⟩
      · rcases List.mem_append.mp hc with g | g
        · have := h2 c g; exact ⟨by omega, this.2⟩
        · rw [List.mem_singleton] at g; subst g; exact ⟨by omega, h⟩
      · rw [List.pairwise_append]
        refine ⟨h3, List.pairwise_singleton _ _, fun a ha b hb => ?_⟩
        rw [List.mem_singleton] at hb
        have := h2 a ha
        omega
    · rw [if_neg h, List.append_nil]
      refine ⟨by omega, fun c hc => ?_, h3⟩
      have := h2 c hc
      exact ⟨by omega, this.2⟩
theorem hallN_in {tn bt : Int → Int} {v : Int} : ∀ {k : Nat} {c : Int}, 0 ≤ c → c < (k : Int) → vil tn bt c = v → c ∈ hallN tn bt v k
  | 0, c, h0, h1, _ => by omega
  | k + 1, c, h0, h1, h2 => by
    rw [hallN_s, List.mem_append]
    by_cases e : c = (k : Int)
    · subst e; rw [if_pos h2]; exact Or.inr (List.mem_singleton.mpr rfl)
    · exact Or.inl (hallN_in h0 (by omega) h2)
theorem fl_cn {tn bt : Int → Int} {v : Int} {q : Int → Bool} : ∀ k : Nat, (((hallN tn bt v k).filter q).length : Int) = cn (fun c => decide (vil tn bt c = v) && q c) k
  | 0 => rfl
  | k + 1 => by
    rw [hallN_s, List.filter_append, List.length_append, cn_s, ← fl_cn k]
    by_cases h : vil tn bt k = v
    · rw [if_pos h, decide_eq_true h, Bool.true_and]
      cases hq : q k with
      | true => simp [hq]
      | false => simp [hq]
    · rw [if_neg h, decide_eq_false h]
      simp
theorem ln_cn {tn bt : Int → Int} {v : Int} (k : Nat) : ((hallN tn bt v k).length : Int) = cn (fun c => decide (vil tn bt c = v)) k := by
  have := fl_cn (tn := tn) (bt := bt) (v := v) (q := fun _ => true) k
  rw [List.filter_eq_self.mpr (fun _ _ => rfl)] at this
  rw [this]
  congr 1
  funext c
  rw [Bool.and_true]
theorem snoc_at {L : List Int} {x c : Int} {j : Nat} (h : (L ++ [x])[j]? = some c) : (j < L.length ∧ L[j]? = some c) ∨ (j = L.length ∧ c = x) := by
  rcases Nat.lt_or_ge j L.length with g | g
  · rw [List.getElem?_append_left g] at h
    exact Or.inl ⟨g, h⟩
  · rw [List.getElem?_append_right g] at h
    cases hj : j - L.length with
    | zero => rw [hj] at h; exact Or.inr ⟨by omega, by simpa using h.symm⟩
    | succ n => rw [hj] at h; simp at h
def gW (M : Mm) (n : Int) (g f : Int → Int) : Mm := rset (rset (mset M 30 2 n) 31 g) 32 f
theorem gW_s {M : Mm} {n i : Int} {g f : Int → Int} : mset (mset (gW M n g f) 31 n i) 30 2 (n + 1) = gW M (n + 1) (fset g n i) f := by
  unfold gW
  rw [ms_comm (by decide), ms_same, ms_comm (by decide), ms_comm (by decide), ms_ms]
theorem lp_61 {d : Nat} {P : Mm → Prop} {M : Mm} {p : Int} {bt f : Int → Int} (hP : IP M) (hC : IC M) (hb : ag (M 22) bt) (hr : ∀ c, bt c = -9 ∨ (0 ≤ bt c ∧ bt c < 6)) (hK : ∀ g : Int → Int, (∀ (j : Nat) (c : Int), (hallN (M 84) bt p (M 1 6).toNat)[j]? = some c → g j = c) → P (gW M (hallN (M 84) bt p (M 1 6).toNat).length g f)) : ∀ (k i : Nat) {g : Int → Int}, (k : Int) = M 1 6 - i → (∀ (j : Nat) (c : Int), (hallN (M 84) bt p i)[j]? = some c → g j = c) → H_61_17 (d + 1) P p i (gW M (hallN (M 84) bt p i).length g f)
  | 0, i, g, hk, hg => by
    refine sg_61_17 ⟨fun _ => ?_, fun z => ?_⟩
    · rw [show (M 1 6).toNat = i by omega] at hK
      exact hK g hg
    · have z : (i : Int) < M 1 6 := z
      omega
  | k + 1, i, g, hk, hg => by
    have h48 := hC.1
    have hlen := (hallN_b (tn := M 84) (bt := bt) (v := p) i).1
    have ih := fun {g : Int → Int} => lp_61 (d := d) hP hC hb hr hK k (i + 1) (g := g) (by omega)
    rw [show ((i + 1 : Nat) : Int) = (i : Int) + 1 by omega, hallN_s] at ih
    refine sg_61_17 ⟨fun z => ?_, fun _ => ?_⟩
    · have z : M 1 6 ≤ (i : Int) := z
      omega
    · refine c_98 (M := gW M (hallN (M 84) bt p i).length g f) (bt := bt) hP (by omega) (hb i (by omega) (by omega)) (hr i) ?_
      show (¬ vil (M 84) bt i = p → inI ((i : Int) + 1) ∧ H_61_17 (d + 1) P p ((i : Int) + 1) (gW M (hallN (M 84) bt p i).length g f)) ∧ (vil (M 84) bt i = p → (0 ≤ ((hallN (M 84) bt p i).length : Int) ∧ ((hallN (M 84) bt p i).length : Int) < 48) ∧ inI (((hallN (M 84) bt p i).length : Int) + 1) ∧ inI ((i : Int) + 1) ∧ H_61_17 (d + 1) P p ((i : Int) + 1) (mset (mset (gW M (hallN (M 84) bt p i).length g f) 31 (hallN (M 84) bt p i).length i) 30 2 (((hallN (M 84) bt p i).length : Int) + 1)))
      refine ⟨fun z => ⟨by unfold inI; omega, ?_⟩, fun z => ⟨by omega, by unfold inI; omega, by unfold inI; omega, ?_⟩⟩
      · rw [if_neg z, List.append_nil] at ih
        exact ih hg
      · rw [if_pos z, len_snoc] at ih
        rw [gW_s]
        refine ih (fun j c hj => ?_)
        rcases snoc_at hj with ⟨g1, g2⟩ | ⟨g1, g2⟩
        · rw [fs_ne (by omega)]; exact hg j c g2
        · rw [ps_eq (by omega)]; exact g2.symm
theorem c_61 {d : Nat} {P : Mm → Prop} {M : Mm} {p : Int} {bt : Int → Int} (hP : IP M) (hC : IC M) (hb : ag (M 22) bt) (hr : ∀ c, bt c = -9 ∨ (0 ≤ bt c ∧ bt c < 6)) (hK : ∀ n g f, hasL (gW M n g f) (hallN (M 84) bt p (M 1 6).toNat) → ag f (fun _ => -9) → P (gW M n g f)) : EE (d + 2) 61 [vR 30, vR 1, vR 10, vI p] M (rV P) := by
  refine sg_61 (c_173 shk_32 (by decide) ?_)
  have h48 := hC.1
  have hB := hallN_b (tn := M 84) (bt := bt) (v := p) (M 1 6).toNat
  have := lp_61 (d := d) (P := P) (M := M) (p := p) (bt := bt) (f := ffl (-9) ((48 : Nat) : Int) (M 32)) hP hC hb hr (fun g hg => hK _ g _ ⟨⟨rfl, by omega⟩, hg, fun c hc => by have := hB.2.1 c hc; show 0 ≤ c ∧ c < M 1 6; omega⟩ (fun c c0 c1 => by unfold ffl; rw [if_pos (by omega)])) (M 1 6).toNat 0 (g := M 31) (by omega) (fun j c hj => by cases hj)
  have e : gW M ((hallN (M 84) bt p 0).length : Nat) (M 31) (ffl (-9) ((48 : Nat) : Int) (M 32)) = mset (rset M 32 (ffl (-9) ((48 : Nat) : Int) (M 32))) 30 2 0 := by
    unfold gW
    rw [ms_comm (by decide), show M 31 = (mset M 30 2 ((hallN (M 84) bt p 0).length : Nat)) 31 from rfl, rs_id]
    rfl
  rw [e] at this
  exact this
theorem lp_66 {d : Nat} {P : Int → Mm → Prop} {M : Mm} {L : List Int} {W : Int → Int} (hC : IC M) (hl : hasL M L) (hW : ag (M 32) W) (hP : P ((L.filter (fun c => decide (W c = -9))).length) M) : ∀ (suf pre : List Int), L = pre ++ suf → H_66_4 d P ((pre.filter (fun c => decide (W c = -9))).length) pre.length M
  | [], pre, e => by
    have el : L = pre := by rw [e, List.append_nil]
    refine sg_66_4 ⟨fun _ => ?_, fun z => ?_⟩
    · rw [el] at hP; exact hP
    · have := hl.1.1
      rw [el] at this
      omega
  | x :: suf, pre, e => by
    have h48 := hC.1
    have hx := hl.2.2 x (mem_mid e)
    have ex := hl.2.1 _ _ (at_mid e)
    have hlen := len_mid e
    have hl1 := hl.1
    have hfl := List.length_filter_le (fun c => decide (W c = -9)) pre
    have ih := lp_66 (d := d) hC hl hW hP suf (pre ++ [x]) (cat_mid e)
    rw [len_snoc, List.filter_append, List.length_append] at ih
    refine sg_66_4 ⟨fun z => by omega, fun _ => ?_⟩
    rw [ex, hW x hx.1 (by omega)]
    refine ⟨by omega, by omega, fun z => ⟨by unfold inI; omega, ?_⟩, fun z => ⟨by unfold inI; omega, by unfold inI; omega, ?_⟩⟩
    · have : ([x].filter (fun c => decide (W c = -9))).length = 0 := by simp [z]
      rw [this] at ih; exact ih
    · have : ([x].filter (fun c => decide (W c = -9))).length = 1 := by simp [z]
      rw [this] at ih; exact ih
/-- parted pairs, each later one with those before it -/
def psL (g : Int → Int → Bool) : List Int → List Int → Int
  | _, [] => 0
  | pre, c :: suf => ((pre.filter (g c)).length : Int) + psL g (pre ++ [c]) suf
theorem psL_s {g : Int → Int → Bool} {c : Int} : ∀ (l pre : List Int), psL g pre (l ++ [c]) = psL g pre l + (((pre ++ l).filter (g c)).length : Int)
  | [], pre => by
    show ((pre.filter (g c)).length : Int) + 0 = 0 + _
    rw [List.append_nil]; omega
  | x :: l, pre => by
    show ((pre.filter (g x)).length : Int) + psL g (pre ++ [x]) (l ++ [c]) = ((pre.filter (g x)).length : Int) + psL g (pre ++ [x]) l + _
    rw [psL_s l (pre ++ [x])]
    have : pre ++ [x] ++ l = pre ++ x :: l := by simp
    rw [this]; omega
def gP (kn W : Int → Int) (c e : Int) : Bool := knn kn c e && !(decide (W c = W e) && !decide (W c = -9))
theorem lp_67_15 {d : Nat} {P : Int → Mm → Prop} {M : Mm} {L pre suf : List Int} {c : Int} {W : Int → Int} (hC : IC M) (hl : hasL M L) (hs : List.Pairwise (· < ·) L) (hW : ag (M 32) W) (e : L = pre ++ c :: suf) : ∀ (p2 p1 : List Int) {s : Int}, pre = p1 ++ p2 → 0 ≤ s → s ≤ 48 * pre.length + p1.length → H_67_4 (d + 1) P (s + (p2.filter (gP (M 4) W c)).length) ((pre.length : Int) + 1) M → H_67_15 (d + 1) P s pre.length p1.length M
  | [], p1, s, e1, hs0, hs1, hK => by
    have el : pre = p1 := by rw [e1, List.append_nil]
    have hlen := len_mid e
    have hl1 := hl.1
    refine sg_67_15 ⟨fun _ => ⟨by unfold inI; omega, ?_⟩, fun z => by rw [el] at z; omega⟩
    have : s + (([] : List Int).filter (gP (M 4) W c)).length = s := by show s + 0 = s; omega
    rw [this] at hK; exact hK
  | x :: p2, p1, s, e1, hs0, hs1, hK => by
    have h48 := hC.1
    have hlen := len_mid e
    have hlen1 := len_mid e1
    have hl1 := hl.1
    have hc := hl.2.2 c (mem_mid e)
    have ec := hl.2.1 _ _ (at_mid e)
    have eL : L = p1 ++ x :: (p2 ++ c :: suf) := by rw [e, e1]; simp
    have hx := hl.2.2 x (mem_mid eL)
    have ex := hl.2.1 _ _ (at_mid eL)
    have hlt : x < c := by
      rw [e, List.pairwise_append] at hs
      exact hs.2.2 x (mem_mid e1) c (List.mem_cons_self ..)
    have ih := fun {s : Int} => lp_67_15 (d := d) (P := P) hC hl hs hW e p2 (p1 ++ [x]) (s := s) (cat_mid e1)
    rw [len_snoc] at ih
    refine sg_67_15 ⟨fun z => by omega, fun _ => ?_⟩
    rw [ec, ex]
    have no : gP (M 4) W c x = false → inI ((p1.length : Int) + 1) ∧ H_67_15 (d + 1) P s pre.length ((p1.length : Int) + 1) M := by
      intro z
      refine ⟨by unfold inI; omega, ih hs0 (by omega) ?_⟩
      rw [List.filter_cons, if_neg (by rw [z]; decide)] at hK
      exact hK
    have yes : gP (M 4) W c x = true → inI (s + 1) ∧ inI ((p1.length : Int) + 1) ∧ H_67_15 (d + 1) P (s + 1) pre.length ((p1.length : Int) + 1) M := by
      intro z
      refine ⟨by unfold inI; omega, by unfold inI; omega, ih (by omega) (by omega) ?_⟩
      rw [List.filter_cons, if_pos z, List.length_cons] at hK
      rw [show s + 1 + ((p2.filter (gP (M 4) W c)).length : Int) = s + (((p2.filter (gP (M 4) W c)).length + 1 : Nat) : Int) by omega]
      exact hK
    refine ⟨by omega, by omega, by omega, by omega, c_52 (by omega) (by omega) (hC.2.2.2 c hc.1 hc.2).2.2.1.1 (by omega) (fun z => t1 ?_) (fun z => t0 (no ?_))⟩
    · rw [ex, hW c hc.1 (by omega), hW x hx.1 (by omega)]
      refine ⟨fun y => yes ?_, fun y => ⟨by omega, by omega, fun y2 => no ?_, fun y2 => yes ?_⟩⟩
      · unfold gP; rw [z, decide_eq_true y]; simp
      · unfold gP; rw [decide_eq_true y2, decide_eq_false y]; simp
      · unfold gP; rw [z, decide_eq_false y2]; rfl
    · unfold gP; rw [z]; rfl
theorem lp_67 {d : Nat} {P : Int → Mm → Prop} {M : Mm} {L : List Int} {W : Int → Int} (hC : IC M) (hl : hasL M L) (hs : List.Pairwise (· < ·) L) (hW : ag (M 32) W) : ∀ (suf pre : List Int) {s : Int}, L = pre ++ suf → 0 ≤ s → s ≤ 48 * pre.length → P (s + psL (gP (M 4) W) pre suf) M → H_67_4 (d + 1) P s pre.length M
  | [], pre, s, e, hs0, hs1, hK => by
    have el : L = pre := by rw [e, List.append_nil]
    refine sg_67_4 ⟨fun _ => ?_, fun z => ?_⟩
    · have : s + psL (gP (M 4) W) pre [] = s := by show s + 0 = s; omega
      rw [this] at hK; exact hK
    · have := hl.1.1
      rw [el] at this
      omega
  | x :: suf, pre, s, e, hs0, hs1, hK => by
    have hlen := len_mid e
    have hl1 := hl.1
    have hfl := List.length_filter_le (gP (M 4) W x) pre
    have ih := fun {s : Int} => lp_67 (d := d) (P := P) hC hl hs hW suf (pre ++ [x]) (s := s) (cat_mid e)
    rw [len_snoc] at ih
    refine sg_67_4 ⟨fun z => by omega, fun _ => ?_⟩
    refine lp_67_15 hC hl hs hW e pre [] rfl hs0 (by show _ ≤ _ + (0 : Int); omega) (ih (by omega) (by omega) ?_)
    have : s + ((pre.filter (gP (M 4) W x)).length : Int) + psL (gP (M 4) W) (pre ++ [x]) suf = s + psL (gP (M 4) W) pre (x :: suf) := by
      show _ = s + (((pre.filter (gP (M 4) W x)).length : Int) + psL (gP (M 4) W) (pre ++ [x]) suf)
      omega
    rw [this]; exact hK
