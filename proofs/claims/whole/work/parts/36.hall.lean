/-! the halls, and the houses' choice: the class's side -/
def rkI (ag kn W : Int → Int) (L : List Int) (wh h c : Int) : Int := if wh = 0 then ag c else if wh = 1 then -(ag c) else if wh = 3 then (if L.any (fun x => decide (W x = h) && knn kn c x) = true then 1 else 0) else 0
def okC (sx ag ho W : Int → Int) (h c : Int) : Bool := decide (W c = -9) && tks sx ag ho h c
def fvS (ok : Int → Bool) (rk : Int → Int) (b c : Int) : Int := if ok c = true then (if b = -9 ∨ rk b < rk c then c else b) else b
def fav (M : Mm) (L : List Int) (W : Int → Int) (h : Int) : Int := L.foldl (fvS (okC (M 2) (M 3) (M 89) W h) (rkI (M 3) (M 4) W L (M 89 (5 * h + 4)) h)) (-9)
def stp (M : Mm) (L : List Int) (h : Int) (W : Int → Int) : Int → Int := if fav M L W h = -9 then W else fset W (fav M L W h) h
def chH (M : Mm) (L : List Int) (p : Int) (h : Nat) (W : Int → Int) : Int → Int := if M 89 (5 * h) = p then iterN (stp M L h) (M 89 (5 * h + 2)).toNat W else W
def chs (M : Mm) (L : List Int) (p : Int) : Int → Int := loopN (chH M L p) 0 (M 24 5).toNat (fun _ => -9)
/-- the hall's list lies in cells 30, 31 -/
def hasL (M : Mm) (L : List Int) : Prop := (M 30 2 = L.length ∧ L.length ≤ 48) ∧ (∀ (j : Nat) (c : Int), L[j]? = some c → M 31 j = c) ∧ ∀ c ∈ L, 0 ≤ c ∧ c < M 1 6
theorem at_mid {L pre suf : List Int} {c : Int} (h : L = pre ++ c :: suf) : L[pre.length]? = some c := by
  subst h
  simp
theorem len_mid {L pre suf : List Int} {c : Int} (h : L = pre ++ c :: suf) : pre.length < L.length := by
  subst h
  simp
theorem mem_mid {L pre suf : List Int} {c : Int} (h : L = pre ++ c :: suf) : c ∈ L := by
  subst h
  simp
theorem cat_mid {L pre suf : List Int} {c : Int} (h : L = pre ++ c :: suf) : L = (pre ++ [c]) ++ suf := by
  subst h
  simp
theorem len_snoc {pre : List Int} {c : Int} : (((pre ++ [c]).length : Nat) : Int) = (pre.length : Int) + 1 := by
  simp
theorem c_52 {d : Nat} {P : Int → Mm → Prop} {M : Mm} {a b : Int} (ha : 0 ≤ a ∧ a < 48) (hb : 0 ≤ b ∧ b < 48) (hk : 0 ≤ M 4 a) (hn : ¬ a = b) (h1 : knn (M 4) a b = true → P 1 M) (h0 : knn (M 4) a b = false → P 0 M) : EE (d + 1) 52 [vR 1, vI a, vI b] M (rI P) := by
  unfold knn at h1 h0
  refine sg_52 ⟨fun z => absurd z hn, fun _ => ⟨ha, fun z => h0 ?_, fun z => ⟨ha, hb, fun z2 => h0 ?_, fun z2 => h1 ?_⟩⟩⟩
  · rw [decide_eq_false (by omega), Bool.false_and]
  · rw [decide_eq_false z2, Bool.and_false]
  · rw [decide_eq_true z2, decide_eq_true (by omega)]; rfl
theorem lp_65 {d : Nat} {P : Int → Mm → Prop} {M : Mm} {L : List Int} {W : Int → Int} {c h : Int} (hC : IC M) (hl : hasL M L) (hc : 0 ≤ c ∧ c < M 1 6) (hW : ag (M 32) W) (hcW : ¬ W c = h) (h1 : L.any (fun x => decide (W x = h) && knn (M 4) c x) = true → P 1 M) (h0 : L.any (fun x => decide (W x = h) && knn (M 4) c x) = false → P 0 M) : ∀ (suf pre : List Int), L = pre ++ suf → pre.any (fun x => decide (W x = h) && knn (M 4) c x) = false → H_65_3 (d + 1) P c h pre.length M
  | [], pre, e, hp => by
    have el : L = pre := by rw [e, List.append_nil]
    refine sg_65_3 ⟨fun _ => h0 (by rw [el]; exact hp), fun z => ?_⟩
    have := hl.1.1
    rw [el] at this
    omega
  | x :: suf, pre, e, hp => by
    have h48 := hC.1
    have hx := hl.2.2 x (mem_mid e)
    have ex := hl.2.1 _ _ (at_mid e)
    have hlen := len_mid e
    have hl1 := hl.1
    have ih := lp_65 (d := d) hC hl hc hW hcW h1 h0 suf (pre ++ [x]) (cat_mid e)
    rw [len_snoc, List.any_append, hp] at ih
    have ih2 : (decide (W x = h) && knn (M 4) c x) = false → H_65_3 (d + 1) P c h ((pre.length : Int) + 1) M := by
      intro z
      apply ih
      show (false || (( (decide (W x = h) && knn (M 4) c x)) || false)) = false
      rw [z]; rfl
    refine sg_65_3 ⟨fun z => by omega, fun _ => ?_⟩
    rw [ex, hW x hx.1 (by omega)]
    refine ⟨by omega, by omega, fun z => ⟨by unfold inI; omega, ih2 ?_⟩, fun z => ⟨by omega, c_52 (by omega) (by omega) (hC.2.2.2 c hc.1 hc.2).2.2.1.1 ?_ (fun z2 => t1 (h1 ?_)) (fun z2 => t0 ⟨by unfold inI; omega, ih2 ?_⟩)⟩⟩
    · rw [decide_eq_false z, Bool.false_and]
    · intro e2; subst e2; exact hcW z
    · rw [e, List.any_append, List.any_cons, z2, decide_eq_true z]; simp
    · rw [z2, Bool.and_false]
theorem c_64 {d : Nat} {P : Int → Mm → Prop} {M : Mm} {L : List Int} {W : Int → Int} {c h wh : Int} (hC : IC M) (hl : hasL M L) (hc : 0 ≤ c ∧ c < M 1 6) (hW : ag (M 32) W) (hcW : ¬ W c = h) (hP : P (rkI (M 3) (M 4) W L wh h c) M) : EE (d + 3) 64 [vR 30, vR 1, vI c, vI h, vI wh] M (rI P) := by
  have h48 := hC.1
  have hag := (hC.2.2.2 c hc.1 hc.2).2.1
  unfold rkI at hP
  refine sg_64 ⟨fun z => ⟨by omega, ?_⟩, fun z => ⟨by omega, by unfold inI; omega, ?_⟩, fun z => ?_, fun z => ?_, fun z => ?_⟩
  · rw [if_pos z] at hP; exact hP
  · rw [if_neg (by omega), if_pos z] at hP; exact hP
  · rw [if_neg (by omega), if_neg (by omega), if_neg (by omega)] at hP; exact hP
  · rw [if_neg (by omega), if_neg (by omega), if_pos z] at hP
    refine sg_65 (lp_65 hC hl hc hW hcW (fun y => t1 ?_) (fun y => t0 ?_) L [] rfl rfl)
    · rw [if_pos y] at hP; exact hP
    · rw [if_neg (by rw [y]; decide)] at hP; exact hP
  · rw [if_neg (by omega), if_neg (by omega), if_neg (by omega)] at hP; exact hP
theorem lp_63 {d : Nat} {P : Int → Mm → Prop} {M : Mm} {L : List Int} {W : Int → Int} {h : Int} (hC : IC M) (hH : IH M) (hl : hasL M L) (hh : 0 ≤ h ∧ h < M 24 5) (hW : ag (M 32) W) : ∀ (suf pre : List Int) {b r : Int}, L = pre ++ suf → (¬ b = -9 → r = rkI (M 3) (M 4) W L (M 89 (5 * h + 4)) h b) → P (suf.foldl (fvS (okC (M 2) (M 3) (M 89) W h) (rkI (M 3) (M 4) W L (M 89 (5 * h + 4)) h)) b) M → H_63_10 (d + 3) P h b r pre.length M
  | [], pre, b, r, e, hb, hP => by
    have el : L = pre := by rw [e, List.append_nil]
    refine sg_63_10 ⟨fun _ => hP, fun z => ?_⟩
    have := hl.1.1
    rw [el] at this
    omega
  | x :: suf, pre, b, r, e, hb, hP => by
    have h48 := hC.1
    have hx := hl.2.2 x (mem_mid e)
    have ex := hl.2.1 _ _ (at_mid e)
    have hlen := len_mid e
    have hl1 := hl.1
    have h24 := hH.1
    have hx2 := hC.2.2.2 x hx.1 hx.2
    have e28 := (hH.2.2.1 h).2.2.2.1
    have e29 := (hH.2.2.1 h).2.2.2.2
    have ih := fun {b r : Int} => lp_63 (d := d) (P := P) hC hH hl hh hW suf (pre ++ [x]) (b := b) (r := r) (cat_mid e)
    rw [len_snoc] at ih
    rw [List.foldl_cons] at hP
    refine sg_63_10 ⟨fun z => by omega, fun _ => ?_⟩
    rw [ex, hW x hx.1 (by omega)]
    have no : okC (M 2) (M 3) (M 89) W h x = false → H_63_10 (d + 3) P h b r ((pre.length : Int) + 1) M := by
      intro z
      refine ih hb ?_
      have : fvS (okC (M 2) (M 3) (M 89) W h) (rkI (M 3) (M 4) W L (M 89 (5 * h + 4)) h) b x = b := by
        unfold fvS; rw [if_neg (by rw [z]; decide)]
      rw [this] at hP; exact hP
    refine ⟨by omega, by omega, fun z => ⟨by unfold inI; omega, no ?_⟩, fun z => c_50 (by omega) hx2.1 (c_69 (by omega) (fun y => t1 ⟨by omega, ?_⟩) (fun y => t0 ⟨by unfold inI; omega, no ?_⟩))⟩
    · unfold okC; rw [decide_eq_false z, Bool.false_and]
    · rw [e28] at y
      have ok : okC (M 2) (M 3) (M 89) W h x = true := by
        unfold okC tks; rw [decide_eq_true z, decide_eq_true y]; rfl
      rw [e29]
      refine c_64 hC hl hx hW (by rw [z]; omega) ?_
      unfold fvS at hP
      rw [if_pos ok] at hP
      refine ⟨fun q => ⟨by unfold inI; omega, ih (fun _ => rfl) ?_⟩, fun q => ⟨fun q2 => ⟨by unfold inI; omega, ih hb ?_⟩, fun q2 => ⟨by unfold inI; omega, ih (fun _ => rfl) ?_⟩⟩⟩
      · rw [if_pos (Or.inl q)] at hP; exact hP
      · rw [hb q] at q2
        rw [if_neg (by omega)] at hP; exact hP
      · rw [hb q] at q2
        rw [if_pos (Or.inr q2)] at hP; exact hP
    · rw [e28] at y
      unfold okC tks; rw [decide_eq_false y, Bool.and_false]
theorem fv_in {ok : Int → Bool} {rk : Int → Int} : ∀ (l : List Int) (b : Int), l.foldl (fvS ok rk) b = b ∨ (l.foldl (fvS ok rk) b ∈ l)
  | [], b => Or.inl rfl
  | x :: l, b => by
    rw [List.foldl_cons]
    rcases fv_in (ok := ok) (rk := rk) l (fvS ok rk b x) with h | h
    · rw [h]
      unfold fvS
      split
      · split
        · exact Or.inr (List.mem_cons_self ..)
        · exact Or.inl rfl
      · exact Or.inl rfl
    · exact Or.inr (List.mem_cons_of_mem _ h)
theorem iter_fix {α : Type} {f : α → α} {a : α} (h : f a = a) : ∀ k : Nat, iterN f k a = a
  | 0 => rfl
  | k + 1 => by show iterN f k (f a) = a; rw [h]; exact iter_fix h k
theorem hasL.rs {M : Mm} {L : List Int} {f : Int → Int} (h : hasL M L) : hasL (rset M 32 f) L := h
theorem lp_62_15 {d : Nat} {P : Mm → Prop} {M : Mm} {L : List Int} {p h : Int} (hC : IC M) (hH : IH M) (hl : hasL M L) (hh : 0 ≤ h ∧ h < M 24 5) (hp : M 89 (5 * h) = p) : ∀ (k i : Nat) {W f : Int → Int}, (k : Int) = M 27 h - i → ag f W → (∀ f', ag f' (iterN (stp M L h) k W) → H_62_3 (d + 4) P p (h + 1) (rset M 32 f')) → H_62_15 (d + 4) P p h i (rset M 32 f)
  | 0, i, W, f, hk, hf, hK => by
    have h24 := hH.1
    refine sg_62_15 ⟨by omega, fun z => ⟨by unfold inI; omega, hK f hf⟩, fun z => ⟨by omega, fun _ => ⟨by unfold inI; omega, hK f hf⟩, fun y => ?_⟩⟩
    have y : (i : Int) < M 27 h := y
    omega
  | k + 1, i, W, f, hk, hf, hK => by
    have h24 := hH.1
    have h48 := hC.1
    have h27 := (hH.2.2.2 h hh.1 hh.2).2.2.1
    have e25 := (hH.2.2.1 h).1
    have ih := fun {W f : Int → Int} => lp_62_15 (d := d) (P := P) hC hH hl hh hp k (i + 1) (W := W) (f := f) (by omega)
    rw [show ((i + 1 : Nat) : Int) = (i : Int) + 1 by omega] at ih
    refine sg_62_15 ⟨by omega, fun z => ?_, fun z => ⟨by omega, fun y => ?_, fun y => ?_⟩⟩
    · have z : ¬ M 25 h = p := z
      exact absurd (e25.trans hp) z
    · have y : M 27 h ≤ (i : Int) := y
      omega
    · refine sg_63 (lp_63 (M := rset M 32 f) hC hH (hl.rs) hh hf L [] rfl (fun q => absurd rfl q) ?_)
      show (¬ fav M L W h = -9 → (0 ≤ fav M L W h ∧ fav M L W h < 48) ∧ inI ((i : Int) + 1) ∧ H_62_15 (d + 4) P p h ((i : Int) + 1) (mset (rset M 32 f) 32 (fav M L W h) h)) ∧ (fav M L W h = -9 → inI (h + 1) ∧ H_62_3 (d + 4) P p (h + 1) (rset M 32 f))
      refine ⟨fun q => ?_, fun q => ⟨by unfold inI; omega, hK f ?_⟩⟩
      · rcases fv_in (ok := okC (M 2) (M 3) (M 89) W h) (rk := rkI (M 3) (M 4) W L (M 89 (5 * h + 4)) h) L (-9) with g | g
        · exact absurd g q
        · have := hl.2.2 _ g
          refine ⟨?_, by unfold inI; omega, ?_⟩
          · have e : fav M L W h = L.foldl (fvS (okC (M 2) (M 3) (M 89) W h) (rkI (M 3) (M 4) W L (M 89 (5 * h + 4)) h)) (-9) := rfl
            rw [e]; omega
          · rw [ms_same]
            refine ih (ag_set hf) (fun f' hf' => hK f' ?_)
            have e : iterN (stp M L h) (k + 1) W = iterN (stp M L h) k (stp M L h W) := rfl
            rw [e]
            have e2 : stp M L h W = fset W (fav M L W h) h := if_neg q
            rw [e2]; exact hf'
      · rw [iter_fix (f := stp M L h) (a := W) (if_pos q)]
        exact hf
theorem lp_62_3 {d : Nat} {P : Mm → Prop} {M : Mm} {L : List Int} {p : Int} (hC : IC M) (hH : IH M) (hl : hasL M L) : ∀ (k i : Nat) {W f : Int → Int}, (k : Int) = M 24 5 - i → ag f W → (∀ f', ag f' (loopN (chH M L p) i k W) → P (rset M 32 f')) → H_62_3 (d + 4) P p i (rset M 32 f)
  | 0, i, W, f, hk, hf, hK => by
    refine sg_62_3 ⟨fun _ => hK f hf, fun z => ?_⟩
    have z : (i : Int) < M 24 5 := z
    omega
  | k + 1, i, W, f, hk, hf, hK => by
    have h24 := hH.1
    have h27 := (hH.2.2.2 i (by omega) (by omega)).2.2.1
    have e25 := (hH.2.2.1 i).1
    have e27 := (hH.2.2.1 i).2.2.1
    have ih := fun {W f : Int → Int} => lp_62_3 (d := d) (P := P) (p := p) hC hH hl k (i + 1) (W := W) (f := f) (by omega)
    rw [show ((i + 1 : Nat) : Int) = (i : Int) + 1 by omega] at ih
    have hK2 : ∀ f', ag f' (loopN (chH M L p) (i + 1) k (chH M L p i W)) → P (rset M 32 f') := hK
    refine sg_62_3 ⟨fun z => ?_, fun _ => ?_⟩
    · have z : M 24 5 ≤ (i : Int) := z
      omega
    · by_cases hp : M 89 (5 * (i : Int)) = p
      · have e : chH M L p i W = iterN (stp M L i) (M 89 (5 * i + 2)).toNat W := if_pos hp
        rw [e] at hK2
        refine lp_62_15 hC hH hl (by omega) hp (M 89 (5 * i + 2)).toNat 0 (W := W) (by omega) hf (fun f' hf' => ih hf' hK2)
      · have e : chH M L p i W = W := if_neg hp
        rw [e] at hK2
        refine sg_62_15 ⟨by omega, fun z => ⟨by unfold inI; omega, ih hf hK2⟩, fun z => ?_⟩
        have z : M 25 i = p := z
        exact absurd (e25.symm.trans z) hp
theorem c_62 {d : Nat} {P : Mm → Prop} {M : Mm} {L : List Int} {p : Int} (hC : IC M) (hH : IH M) (hl : hasL M L) (hf : ag (M 32) (fun _ => -9)) (hK : ∀ f, ag f (chs M L p) → P (rset M 32 f)) : EE (d + 5) 62 [vR 30, vR 1, vR 24, vI p] M (rV P) := by
  have := lp_62_3 (d := d) (P := P) (p := p) hC hH hl (M 24 5).toNat 0 (W := fun _ => -9) (f := M 32) (by have := hH.1; omega) hf hK
  rw [rs_id] at this
  exact sg_62 this
