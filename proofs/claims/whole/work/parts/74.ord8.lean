/-! orders: the two books agree -/
def okCn (c : Cn) : Prop := (0 ≤ c.1 ∧ c.1 ≤ 5) ∧ (c.2.2 = 0 ∨ c.2.2 = 1)
def okOd (x : Od) : Prop := (0 ≤ x.1 ∧ x.1 ≤ 2) ∧ (0 ≤ x.2.1 ∧ x.2.1 ≤ 99) ∧ (-1 ≤ x.2.2.1 ∧ x.2.2.1 ≤ 1) ∧ (0 ≤ x.2.2.2.1 ∧ x.2.2.2.1 ≤ 2) ∧ x.2.2.2.2.length ≤ 6 ∧ ∀ c ∈ x.2.2.2.2, okCn c
theorem nS_ok {by_ : Nat → Int} {p : Nat} : (nS by_ 99 p).2 ≤ 99 := by
  unfold nS
  rw [if_pos (show (9 : Int) < 99 by omega)]
  split
  · split
    · split
      · show (-9 : Int) ≤ 99; omega
      · rename_i h2
        split
        · split
          · show (-9 : Int) ≤ 99; omega
          · rename_i h4
            show _ * 10 + _ ≤ (99 : Int)
            omega
        · show _ * 10 + _ ≤ (99 : Int)
          omega
    · rename_i h0 h1
      show by_ p - 48 ≤ 99
      omega
  · show (-9 : Int) ≤ 99; omega
theorem v1_ok {by_ : Nat → Int} {q r : Nat} {w m ng : Int} {c : Cn} (hw : 0 ≤ w ∧ w ≤ 5) (hn : ng = 0 ∨ ng = 1) (h : v1 by_ q w m ng = (r, some c)) : okCn c := by
  unfold v1 at h
  split at h
  · injection h with _ h
    injection h with h
    rw [← h]
    exact ⟨hw, hn⟩
  · injection h with _ h
    exact absurd h (by simp)
theorem cB_ok {by_ : Nat → Int} {q r : Nat} {ng : Int} {c : Cn} (hn : ng = 0 ∨ ng = 1) (h : cB by_ q ng = (r, some c)) : okCn c := by
  unfold cB at h
  split at h
  · exact v1_ok (by omega) hn h
  · split at h
    · unfold vA at h
      split at h
      · split at h
        · injection h with _ h
          exact absurd h (by simp)
        · injection h with _ h
          injection h with h
          rw [← h]
          refine ⟨?_, hn⟩
          show 0 ≤ (if _ then (1 : Int) else 2) ∧ (if _ then (1 : Int) else 2) ≤ 5
          split <;> omega
      · injection h with _ h
        exact absurd h (by simp)
    · split at h
      · injection h with _ h
        injection h with h
        rw [← h]
        exact ⟨by show 0 ≤ (3 : Int) ∧ (3 : Int) ≤ 5; omega, hn⟩
      · split at h
        · exact v1_ok (by omega) hn h
        · split at h
          · exact v1_ok (by omega) hn h
          · injection h with _ h
            exact absurd h (by simp)
theorem cS_ok {by_ : Nat → Int} {p r : Nat} {c : Cn} (h : cS by_ p = (r, some c)) : okCn c := by
  unfold cS at h
  split at h
  · exact cB_ok (Or.inr rfl) h
  · exact cB_ok (Or.inl rfl) h
theorem dS_ok {by_ : Nat → Int} : ∀ (k : Nat) {p r : Nat} {l : List Cn}, dS by_ k p = (r, some l) → l.length ≤ k ∧ ∀ c ∈ l, okCn c
  | 0, p, r, l, h => by
    by_cases e : by_ p = 59
    · rw [dS_e e] at h
      injection h with _ h
      injection h with h
      rw [← h]
      exact ⟨Nat.le_refl 0, fun c hc => absurd hc List.not_mem_nil⟩
    · rw [dS_0 e] at h
      injection h with _ h
      exact absurd h (by simp)
  | k + 1, p, r, l, h => by
    by_cases e : by_ p = 59
    · rw [dS_e e] at h
      injection h with _ h
      injection h with h
      rw [← h]
      exact ⟨Nat.zero_le _, fun c hc => absurd hc List.not_mem_nil⟩
    · cases hs : cS by_ p with
      | mk r2 o =>
        cases o with
        | none =>
          rw [dS_n e hs] at h
          injection h with _ h
          exact absurd h (by simp)
        | some c =>
          rw [dS_s e hs] at h
          cases hd : dS by_ k r2 with
          | mk r3 o3 =>
            rw [hd] at h
            cases o3 with
            | none =>
              injection h with _ h
              exact absurd h (by simp)
            | some l3 =>
              have ih := dS_ok k hd
              injection h with _ h
              have h : some (c :: l3) = some l := h
              injection h with h
              rw [← h]
              refine ⟨by rw [List.length_cons]; omega, fun x hx => ?_⟩
              rcases List.mem_cons.mp hx with y | y
              · subst y; exact cS_ok hs
              · exact ih.2 x y
theorem oS_ok {by_ : Nat → Int} {p r : Nat} {x : Od} (h : oS by_ p = (r, some x)) : okOd x := by
  unfold oS at h
  split at h
  · split at h
    · injection h with _ h
      exact absurd h (by simp)
    · rename_i hv
      have h99 := nS_ok (by_ := by_) (p := p + 1)
      unfold oD at h
      split at h
      · split at h
        · split at h
          · cases hd : dS by_ 6 ((nS by_ 99 (p + 1)).1 + 3) with
            | mk r3 o3 =>
              rw [hd] at h
              cases o3 with
              | none =>
                injection h with _ h
                exact absurd h (by simp)
              | some l3 =>
                have ih := dS_ok 6 hd
                injection h with _ h
                have h := Option.some.inj h
                rw [← h]
                refine ⟨?_, ⟨Int.not_lt.mp hv, h99⟩, ?_, ?_, ih.1, ih.2⟩
                · show 0 ≤ (if _ then (0 : Int) else if _ then 1 else 2) ∧ (if _ then (0 : Int) else if _ then 1 else 2) ≤ 2
                  split
                  · omega
                  · split <;> omega
                · show -1 ≤ (if _ then (1 : Int) else if _ then 0 else -1) ∧ (if _ then (1 : Int) else if _ then 0 else -1) ≤ 1
                  split
                  · omega
                  · split <;> omega
                · show 0 ≤ (if _ then (0 : Int) else if _ then 1 else 2) ∧ (if _ then (0 : Int) else if _ then 1 else 2) ≤ 2
                  split
                  · omega
                  · split <;> omega
          · injection h with _ h
            exact absurd h (by simp)
        · injection h with _ h
          exact absurd h (by simp)
      · injection h with _ h
        exact absurd h (by simp)
  · injection h with _ h
    exact absurd h (by simp)
theorem aS_ok {by_ : Nat → Int} {n : Nat} : ∀ (k : Nat) {p r : Nat} {l : List Od}, aS by_ n k p = (r, some l) → ∀ x ∈ l, okOd x
  | 0, p, r, l, h => by
    by_cases e : n ≤ p
    · rw [aS_e e] at h
      injection h with _ h
      injection h with h
      rw [← h]
      exact fun c hc => absurd hc List.not_mem_nil
    · rw [aS_0 e] at h
      injection h with _ h
      exact absurd h (by simp)
  | k + 1, p, r, l, h => by
    by_cases e : n ≤ p
    · rw [aS_e e] at h
      injection h with _ h
      injection h with h
      rw [← h]
      exact fun c hc => absurd hc List.not_mem_nil
    · cases hs : oS by_ p with
      | mk r2 o =>
        cases o with
        | none =>
          rw [aS_n e hs] at h
          injection h with _ h
          exact absurd h (by simp)
        | some c =>
          rw [aS_s e hs] at h
          cases hd : aS by_ n k r2 with
          | mk r3 o3 =>
            rw [hd] at h
            cases o3 with
            | none =>
              injection h with _ h
              exact absurd h (by simp)
            | some l3 =>
              have ih := aS_ok k hd
              injection h with _ h
              have h : some (c :: l3) = some l := h
              injection h with h
              rw [← h]
              intro x hx
              rcases List.mem_cons.mp hx with y | y
              · subst y; exact oS_ok hs
              · exact ih x y
def chz (k : Nat) (x : Int) : Prop := (k = 76 ∧ (x = 0 ∨ x = 24 ∨ x = 25 ∨ x = 26)) ∨ k = 93
def stB (M : Mm) (l : List Od) : Prop := ∀ (o : Nat) (x : Od), l[o]? = some x → stR M o x
theorem r_z {o : Int} {k : Nat} {x : Int} (h : chr o k x) : chz k x := by
  unfold chr at h
  unfold chz
  omega
theorem stR_F {M M' : Mm} {o o' : Nat} {x : Od} (ho : ¬ o' = o) (hx : okOd x) (h : FrC (chr o) M M') (hs : stR M o' x) : stR M' o' x := by
  have e : ∀ y : Int, 25 * (o' : Int) ≤ y → y < 25 * (o' : Int) + 25 → M' 93 y = M 93 y := fun y y1 y2 => h 93 y (by unfold chr; omega)
  refine ⟨⟨?_, ?_, ?_, ?_, ?_⟩, fun j c hj => ?_⟩
  · rw [e _ (by omega) (by omega)]; exact hs.1.1
  · rw [e _ (by omega) (by omega)]; exact hs.1.2.1
  · rw [e _ (by omega) (by omega)]; exact hs.1.2.2.1
  · rw [e _ (by omega) (by omega)]; exact hs.1.2.2.2.1
  · rw [e _ (by omega) (by omega)]; exact hs.1.2.2.2.2
  · have hl : j < x.2.2.2.2.length := by
      rcases Nat.lt_or_ge j x.2.2.2.2.length with g | g
      · exact g
      · rw [List.getElem?_eq_none g] at hj; exact absurd hj (by simp)
    have h6 := hx.2.2.2.2.1
    rw [e _ (by omega) (by omega), e _ (by omega) (by omega), e _ (by omega) (by omega)]
    exact hs.2 j c hj
theorem lp_123_65 {d : Nat} {P : Int → Mm → Prop} {M : Mm} {a1 : Int} (hP : ∀ g : Int → Int, (∀ y : Nat, y < 750 → g y = M 93 y) → P a1 (mset (mset (rset M 92 g) 76 21 a1) 76 20 0)) : ∀ (k i : Nat) {g : Int → Int}, k + i = 750 → (∀ y : Nat, y < i → g y = M 93 y) → H_123_65 d P a1 i (rset M 92 g)
  | 0, i, g, hk, hg => sg_123_65 ⟨fun _ => hP g (fun y hy => hg y (by omega)), fun z => by omega⟩
  | k + 1, i, g, hk, hg => by
    refine sg_123_65 ⟨fun z => by omega, fun _ => ⟨by omega, by omega, by unfold inI; omega, ?_⟩⟩
    rw [ms_same, show (i : Int) + 1 = ((i + 1 : Nat) : Int) by omega]
    refine lp_123_65 hP k (i + 1) (by omega) (fun y hy => ?_)
    by_cases e : y = i
    · subst e; exact fs_eq
    · rw [fs_ne (by omega)]; exact hg y (by omega)
theorem lp_123_12 {d : Nat} {P : Int → Mm → Prop} {M : Mm} {f : Int → Int} {n : Nat} (hd : drR M f n) : ∀ (k i : Nat) {acc : List Od} {M1 : Mm} {p : Nat}, k + i = 30 → acc.length = i → FrC chz M M1 → M1 76 24 = p → p ≤ n → stB M1 acc → (∀ x ∈ acc, okOd x) → (∀ (r : Nat) (l : List Od) (M' : Mm) (g : Int → Int), aS (byM f n) n k p = (r, some l) → FrC chz M M' → stB M' (acc ++ l) → (∀ y : Nat, y < 750 → g y = M' 93 y) → P ((acc ++ l).length : Nat) (mset (mset (rset M' 92 g) 76 21 ((acc ++ l).length : Nat)) 76 20 0)) → (∀ (r : Nat) (M' : Mm), aS (byM f n) n k p = (r, none) → FrC chz M M' → P (-10 - (r : Int)) M') → H_123_12 (d + 4) P i M1
  | k, i, acc, M1, p, hk, hacc, hF, hat, hp, hst, hok, h1, h0 => by
    have hn6 := hd.2.2.1
    have hd1 : drR M1 f n := by
      have e9 : M1 91 = M 91 := by
        funext x
        exact hF 91 x (by unfold chz; omega)
      unfold drR
      rw [e9, hF 76 20 (by unfold chz; omega)]
      exact hd
    have e20 := hd1.2.1
    refine sg_123_12 ?_
    rw [e20, hat]
    refine ⟨fun z => ?_, fun z => ⟨fun z2 => ?_, fun z2 => ⟨by unfold inI; omega, ?_⟩⟩⟩
    · have key := lp_123_65 (d := d + 4) (P := P) (M := M1) (a1 := (i : Int)) (fun g hg => ?_) 750 0 (g := M1 92) rfl (fun y hy => by omega)
      · rw [rs_id] at key; exact key
      · have := h1 p [] M1 g (aS_e (by omega)) hF (by rw [List.append_nil]; exact hst) hg
        rw [List.append_nil, hacc] at this
        exact this
    · have k0 : k = 0 := by omega
      subst k0
      refine c_158 hat (sg_123_44 (t0' ?_))
      rw [m76, if_pos rfl]
      exact ⟨by unfold inI; omega, h0 p _ (aS_0 (by omega)) (Fr_ms (Or.inl ⟨rfl, Or.inr (Or.inr (Or.inr rfl))⟩) hF)⟩
    · match k, hk, h1, h0 with
      | 0, hk, h1, h0 => omega
      | k + 1, hk, h1, h0 =>
        have hol := oS_le (f := f) (n := n) (p := p) (by omega)
        refine c_156 (d := d) (f := f) (n := n) (o := i) (p := p) hd1 (by omega) hat (by omega) (fun r x M2 e1 e2 e3 e5 => sg_123_44 (t1' ⟨by unfold inI; omega, ?_⟩)) (fun r M2 e1 e2 e3 => sg_123_44 (t0' ?_))
        · rw [e1] at hol
          have hol : (r : Int) ≤ n := hol
          have key := lp_123_12 (d := d) (P := P) hd k (i + 1) (acc := acc ++ [x]) (M1 := M2) (p := r) (by omega) (by rw [List.length_append, hacc]; rfl) (Fr_tr hF (Fr_mo (fun _ _ => r_z) e2)) e3 (by omega) (fun o c hj => ?_) (fun c hc => ?_) (fun r l M' g a1 a2 a3 a4 => ?_) (fun r M' a1 a2 => ?_)
          · rw [show ((i + 1 : Nat) : Int) = (i : Int) + 1 by omega] at key
            exact key
          · rcases snocO hj with ⟨y1, y2⟩ | ⟨y1, y2⟩
            · exact stR_F (by omega) (hok c (List.mem_of_getElem? y2)) e2 (hst o c y2)
            · subst y2
              rw [y1, hacc]; exact e5
          · rcases List.mem_append.mp hc with y | y
            · exact hok c y
            · rw [List.mem_singleton.mp y]; exact oS_ok e1
          · rw [List.append_assoc] at a3 ⊢
            refine h1 r (x :: l) M' g ?_ a2 a3 a4
            rw [aS_s (by omega) e1, a1]; rfl
          · refine h0 r M' ?_ a2
            rw [aS_s (by omega) e1, a1]; rfl
        · rw [e3]
          rw [e1] at hol
          have hol : (r : Int) ≤ n := hol
          exact ⟨by unfold inI; omega, h0 r M2 (aS_n (by omega) e1) (Fr_tr hF (Fr_mo (fun _ _ => r_z) e2))⟩
theorem c_123 {d : Nat} {P : Int → Mm → Prop} {M : Mm} {f : Int → Int} {n : Nat} (hd : drR M f n) (h1 : ∀ (r : Nat) (l : List Od) (M' : Mm) (g : Int → Int), aS (byM f n) n 30 0 = (r, some l) → FrC chz M M' → stB M' l → (∀ y : Nat, y < 750 → g y = M' 93 y) → P (l.length : Nat) (mset (mset (rset M' 92 g) 76 21 (l.length : Nat)) 76 20 0)) (h0 : ∀ (r : Nat) (M' : Mm), aS (byM f n) n 30 0 = (r, none) → FrC chz M M' → P (-10 - (r : Int)) M') : EE (d + 5) 123 [vR 76] M (rI P) := by
  refine sg_123 ?_
  refine lp_123_12 (d := d) hd 30 0 (acc := []) (p := 0) rfl rfl ?_ ?_ (by omega) (fun o x hj => by simp at hj) (fun x hx => absurd hx List.not_mem_nil) h1 h0
  · exact Fr_ms (Or.inl ⟨rfl, Or.inr (Or.inl rfl)⟩) (Fr_ms (Or.inl ⟨rfl, Or.inl rfl⟩) Fr_id)
  · rw [m76, if_pos rfl]; rfl
