/-! BOARDING, pure -/
theorem bpk_dec (p : Int → Bool) : ∀ q : List Int, fI p q ≤ q.length
  | [] => Nat.le_refl _
  | c :: r => by
    unfold fI
    by_cases h : p c = true
    · rw [if_pos h]; exact Nat.zero_le _
    · rw [if_neg h]
      have := bpk_dec p r
      simp only [List.length_cons]
      omega
theorem fI_true {p : Int → Bool} (h : ∀ c, p c = true) (q : List Int) : fI p q = 0 := by
  cases q with
  | nil => rfl
  | cons c r => unfold fI; rw [if_pos (h c)]
/-- who waits: apart, children, arrived ahead of (minute, party, child) -/
def bQ (n : Int) (g pa : Int → Int) (m p c0 : Int) (q : List Int) : Prop := q.Nodup ∧ ∀ c ∈ q, (0 ≤ c ∧ c < n) ∧ (pa (2 * g c + 1) < m ∨ (pa (2 * g c + 1) = m ∧ (g c < p ∨ (g c = p ∧ c < c0))))
theorem bQ_len {n : Int} {g pa : Int → Int} {m p c0 : Int} {q : List Int} (h : bQ n g pa m p c0 q) : q.length ≤ n.toNat := by
  have hs : q ⊆ upTo n := by
    intro c hc
    have := (h.2 c hc).1
    unfold upTo
    rw [List.mem_map]
    exact ⟨c.toNat, List.mem_range.mpr (by omega), by omega⟩
  have := h.1.length_le_of_subset hs
  unfold upTo at this
  rw [List.length_map, List.length_range] at this
  exact this
theorem bQ_push {n : Int} {g pa : Int → Int} {m p : Int} {c : Nat} {q : List Int} (h : bQ n g pa m p c q) (hc : (c : Int) < n) (hg : g c = p) (hm : pa (2 * p + 1) = m) : bQ n g pa m p ((c + 1 : Nat) : Int) (q ++ [(c : Int)]) := by
  refine ⟨?_, fun x hx => ?_⟩
  · rw [List.nodup_append]
    refine ⟨h.1, by simp, fun a ha b hb => ?_⟩
    rw [List.mem_singleton] at hb
    subst hb
    intro e
    subst e
    have := (h.2 _ ha).2
    rw [hg, hm] at this
    omega
  · rcases List.mem_append.mp hx with h1 | h1
    · have := h.2 x h1
      omega
    · rw [List.mem_singleton] at h1
      subst h1
      rw [hg, hm]
      omega
theorem bQ_up {n : Int} {g pa : Int → Int} {m p p' c c' : Int} {q : List Int} (h : bQ n g pa m p c q) (hp : p < p' ∨ (p = p' ∧ c ≤ c')) : bQ n g pa m p' c' q :=
  ⟨h.1, fun x hx => by have := h.2 x hx; omega⟩
theorem bQ_min {n : Int} {g pa : Int → Int} {m p c : Int} {q : List Int} (h : bQ n g pa m p c q) : bQ n g pa (m + 1) 0 0 q :=
  ⟨h.1, fun x hx => by have := h.2 x hx; omega⟩
theorem bQ_sub {n : Int} {g pa : Int → Int} {m p c : Int} {q q' : List Int} (h : bQ n g pa m p c q) (hs : List.Sublist q' q) : bQ n g pa m p c q' :=
  ⟨h.1.sublist hs, fun x hx => h.2 x (hs.subset hx)⟩
theorem bQ_in {n : Int} {g pa : Int → Int} {m : Int} {p : Nat} (hm : pa (2 * p + 1) = m) : ∀ (k c : Nat) {q : List Int}, (c : Int) + k ≤ n → bQ n g pa m p c q → bQ n g pa m p ((c + k : Nat) : Int) (loopN (fun c q => if g c = p then q ++ [(c : Int)] else q) c k q)
  | 0, c, q, _, h => h
  | k + 1, c, q, hk, h => by
    show bQ n g pa m p ((c + (k + 1) : Nat) : Int) (loopN _ (c + 1) k (if g c = p then q ++ [(c : Int)] else q))
    rw [show c + (k + 1) = c + 1 + k by omega]
    refine bQ_in hm k (c + 1) (by omega) ?_
    by_cases hg : g c = p
    · rw [if_pos hg]
      exact bQ_push h (by omega) hg hm
    · rw [if_neg hg]
      exact bQ_up h (Or.inr ⟨rfl, by omega⟩)
theorem bQ_ar {n : Int} {g pa : Int → Int} {m : Int} {p : Nat} {q : List Int} (hn : 0 ≤ n) (h : bQ n g pa m p 0 q) : bQ n g pa m ((p + 1 : Nat) : Int) 0 (bAr n g pa m p q) := by
  unfold bAr
  by_cases hm : pa (2 * p + 1) = m
  · rw [if_pos hm]
    have := bQ_in (g := g) hm n.toNat 0 (q := q) (by omega) h
    exact bQ_up this (Or.inl (by omega))
  · rw [if_neg hm]
    exact bQ_up h (Or.inl (by omega))
theorem bQ_ars {n : Int} {g pa : Int → Int} {m : Int} (hn : 0 ≤ n) : ∀ (k p : Nat) {q : List Int}, bQ n g pa m p 0 q → bQ n g pa m ((p + k : Nat) : Int) 0 (loopN (bAr n g pa m) p k q)
  | 0, p, q, h => h
  | k + 1, p, q, h => by
    show bQ n g pa m ((p + (k + 1) : Nat) : Int) 0 (loopN _ (p + 1) k (bAr n g pa m p q))
    rw [show p + (k + 1) = p + 1 + k by omega]
    exact bQ_ars hn k (p + 1) (bQ_ar hn h)
theorem bOne_sub {pk : Int → Bool} {t m : Int} {s : BS} : List.Sublist (bOne pk t m s).1 s.1 := by
  unfold bOne
  split
  · exact List.eraseIdx_sublist _ _
  · exact List.Sublist.refl _
theorem iterN_fix {α : Type} {f : α → α} {a : α} (h : f a = a) : ∀ k : Nat, iterN f k a = a
  | 0 => rfl
  | k + 1 => by show iterN f k (f a) = a; rw [h]; exact iterN_fix h k
theorem iter_sub {pk : Int → Bool} {t m : Int} : ∀ (k : Nat) {s : BS}, List.Sublist (iterN (bOne pk t m) k s).1 s.1
  | 0, s => List.Sublist.refl _
  | k + 1, s => by
    show List.Sublist (iterN (bOne pk t m) k (bOne pk t m s)).1 s.1
    exact (iter_sub k).trans bOne_sub
theorem bTr_sub {g pa tn : Int → Int} {w m : Int} {t : Nat} {s : BS} : List.Sublist (bTr g pa tn w m t s).1 s.1 := by
  unfold bTr
  split
  · exact iter_sub _
  · exact List.Sublist.refl _
theorem bTrs_sub {g pa tn : Int → Int} {w m : Int} : ∀ (k t : Nat) {s : BS}, List.Sublist (loopN (bTr g pa tn w m) t k s).1 s.1
  | 0, t, s => List.Sublist.refl _
  | k + 1, t, s => (bTrs_sub k (t + 1)).trans bTr_sub
theorem bTr_nil {g pa tn : Int → Int} {w m : Int} {t : Nat} {s : BS} (h : s.1 = []) : bTr g pa tn w m t s = s := by
  unfold bTr
  split
  · apply iterN_fix
    unfold bOne
    rw [h, if_neg (fun z => Nat.not_lt_zero _ z.2)]
  · rfl
theorem bTrs_nil {g pa tn : Int → Int} {w m : Int} : ∀ (k t : Nat) {s : BS}, s.1 = [] → loopN (bTr g pa tn w m) t k s = s
  | 0, t, s, _ => rfl
  | k + 1, t, s, h => by
    show loopN (bTr g pa tn w m) (t + 1) k (bTr g pa tn w m t s) = s
    rw [bTr_nil h]
    exact bTrs_nil k (t + 1) h
/-- an array holds a list -/
def aq (f : Int → Int) (q : List Int) : Prop := ∀ (j : Nat) (c : Int), q[j]? = some c → f j = c
theorem aq_push {f : Int → Int} {q : List Int} {c : Int} (h : aq f q) : aq (fset f q.length c) (q ++ [c]) := by
  intro j x hj
  by_cases e : j < q.length
  · rw [List.getElem?_append_left e] at hj
    rw [fs_ne (by omega)]
    exact h j x hj
  · rw [List.getElem?_append_right (by omega)] at hj
    have : j - q.length = 0 := by
      have := (List.getElem?_eq_some_iff.mp hj).1
      simp at this
      omega
    rw [this] at hj
    have hx : c = x := by simpa using hj
    rw [ps_eq (by omega), hx]
theorem aq_er {f f' : Int → Int} {q : List Int} {i : Nat} (h : aq f q) (hi : i < q.length) (h1 : ∀ j : Nat, j < i → f' j = f j) (h2 : ∀ j : Nat, i ≤ j → j + 1 < q.length → f' j = f ((j : Int) + 1)) : aq f' (q.eraseIdx i) := by
  intro j x hj
  rw [List.getElem?_eraseIdx] at hj
  by_cases e : j < i
  · rw [if_pos e] at hj
    rw [h1 j e]
    exact h j x hj
  · rw [if_neg e] at hj
    have := (List.getElem?_eq_some_iff.mp hj).1
    rw [h2 j (by omega) this]
    exact h (j + 1) x hj
def ag (f f' : Int → Int) : Prop := ∀ c, 0 ≤ c → c < 48 → f c = f' c
theorem ag_set {f f' : Int → Int} {i x : Int} (h : ag f f') : ag (fset f i x) (fset f' i x) := by
  intro c c0 c1
  by_cases e : c = i
  · rw [ps_eq e, ps_eq e]
  · rw [fs_ne e, fs_ne e]; exact h c c0 c1
/-- the class's cells at work: seats left, who waits, trains, minutes -/
def bW (M : Mm) (w : Int) (a b c e : Int → Int) : Mm := rset (rset (rset (rset (mset M 10 7 w) 20 a) 21 b) 22 c) 23 e
theorem bW_20 {M : Mm} {w : Int} {a b c e : Int → Int} {i x : Int} : mset (bW M w a b c e) 20 i x = bW M w (fset a i x) b c e := by
  unfold bW; rw [ms_comm (by decide), ms_comm (by decide), ms_comm (by decide), ms_same]
theorem bW_21 {M : Mm} {w : Int} {a b c e : Int → Int} {i x : Int} : mset (bW M w a b c e) 21 i x = bW M w a (fset b i x) c e := by
  unfold bW; rw [ms_comm (by decide), ms_comm (by decide), ms_same]
theorem bW_22 {M : Mm} {w : Int} {a b c e : Int → Int} {i x : Int} : mset (bW M w a b c e) 22 i x = bW M w a b (fset c i x) e := by
  unfold bW; rw [ms_comm (by decide), ms_same]
theorem bW_23 {M : Mm} {w : Int} {a b c e : Int → Int} {i x : Int} : mset (bW M w a b c e) 23 i x = bW M w a b c (fset e i x) := by
  unfold bW; rw [ms_same]
theorem bW_w {M : Mm} {w : Int} {a b c e : Int → Int} {x : Int} : mset (bW M w a b c e) 10 7 x = bW M x a b c e := by
  unfold bW; rw [ms_comm (by decide), ms_comm (by decide), ms_comm (by decide), ms_comm (by decide), ms_ms]
theorem bW_21r {M : Mm} {w : Int} {a b c e f : Int → Int} : rset (bW M w a b c e) 21 f = bW M w a f c e := by
  unfold bW; rw [rs_comm (a := 23) (b := 21) (by decide), rs_comm (a := 22) (b := 21) (by decide), rs_rs]
/-- the pure state in the class's cells -/
def BR (s : BS) (w : Int) (a b c e : Int → Int) : Prop := w = s.1.length ∧ (∀ t, 0 ≤ t → t < 6 → a t = s.2.1 t) ∧ aq b s.1 ∧ ag c s.2.2.1 ∧ ag e s.2.2.2
theorem lp_95_11 {d : Nat} {PV : Mm → Prop} {M : Mm} {a c0 e : Int → Int} {m : Int} {p : Nat} (hn : 0 ≤ M 1 6 ∧ M 1 6 ≤ 48) (hp : p < 8) (hc1 : M 12 p = m) (hc2 : M 83 (2 * p + 1) = m) : ∀ (k c : Nat) {q : List Int} {b : Int → Int}, (k : Int) = M 1 6 - c → bQ (M 1 6) (M 5) (M 83) m p c q → aq b q → (∀ b', aq b' (loopN (fun c q => if M 5 c = p then q ++ [(c : Int)] else q) c k q) → H_95_2 d PV m ((p : Int) + 1) (bW M ((loopN (fun c q => if M 5 c = p then q ++ [(c : Int)] else q) c k q).length : Int) a b' c0 e)) → H_95_11 d PV m p c (bW M (q.length : Int) a b c0 e)
  | 0, c, q, b, hk, hq, hb, hK => by
    refine sg_95_11 ⟨by omega, fun z => absurd hc1 z, fun _ => ⟨fun _ => ⟨by unfold inI; omega, hK b hb⟩, fun z => ?_⟩⟩
    have z : (c : Int) < M 1 6 := z
    omega
  | k + 1, c, q, b, hk, hq, hb, hK => by
    refine sg_95_11 ⟨by omega, fun z => absurd hc1 z, fun _ => ⟨fun z => ?_, fun z => ⟨by omega, fun z2 => ⟨by unfold inI; omega, ?_⟩, fun z2 => ?_⟩⟩⟩
    · have z : M 1 6 ≤ (c : Int) := z
      omega
    · have z2 : ¬ M 5 c = p := z2
      refine lp_95_11 hn hp hc1 hc2 k (c + 1) (by omega) (bQ_up hq (Or.inr ⟨rfl, by omega⟩)) hb (fun b' hb' => ?_)
      have := hK b'
      rw [show loopN (fun c q => if M 5 c = p then q ++ [(c : Int)] else q) c (k + 1) q = loopN (fun c q => if M 5 c = p then q ++ [(c : Int)] else q) (c + 1) k (if M 5 c = p then q ++ [(c : Int)] else q) from rfl, if_neg z2] at this
      exact this hb'
    · have z2 : M 5 c = p := z2
      have hq2 := bQ_push hq (by omega) z2 hc2
      have hlen := bQ_len hq2
      rw [List.length_append, List.length_singleton] at hlen
      refine ⟨by show 0 ≤ (q.length : Int) ∧ (q.length : Int) < 48; omega, by show inI ((q.length : Int) + 1); unfold inI; omega, by unfold inI; omega, ?_⟩
      show H_95_11 d PV m p (c + 1) (mset (mset (bW M (q.length : Int) a b c0 e) 21 (q.length : Int) c) 10 7 ((q.length : Int) + 1))
      rw [bW_21, bW_w]
      have hl : ((q ++ [(c : Int)]).length : Int) = (q.length : Int) + 1 := by rw [List.length_append, List.length_singleton]; omega
      rw [← hl]
      refine lp_95_11 hn hp hc1 hc2 k (c + 1) (by omega) hq2 (aq_push hb) (fun b' hb' => ?_)
      have := hK b'
      rw [show loopN (fun c q => if M 5 c = p then q ++ [(c : Int)] else q) c (k + 1) q = loopN (fun c q => if M 5 c = p then q ++ [(c : Int)] else q) (c + 1) k (if M 5 c = p then q ++ [(c : Int)] else q) from rfl, if_pos z2] at this
      exact this hb'
theorem lp_95_2 {d : Nat} {PV : Mm → Prop} {M : Mm} {a c0 e : Int → Int} {m : Int} (hn : 0 ≤ M 1 6 ∧ M 1 6 ≤ 48) (hP : IP M) : ∀ (k p : Nat) {q : List Int} {b : Int → Int}, k + p = 8 → bQ (M 1 6) (M 5) (M 83) m p 0 q → aq b q → (∀ b', aq b' (loopN (bAr (M 1 6) (M 5) (M 83) m) p k q) → PV (bW M ((loopN (bAr (M 1 6) (M 5) (M 83) m) p k q).length : Int) a b' c0 e)) → H_95_2 d PV m p (bW M (q.length : Int) a b c0 e)
  | 0, p, q, b, hk, hq, hb, hK => by
    refine sg_95_2 ⟨fun _ => hK b hb, fun z => by omega⟩
  | k + 1, p, q, b, hk, hq, hb, hK => by
    have ih := fun {q2 : List Int} {b2 : Int → Int} => lp_95_2 (d := d) (PV := PV) (a := a) (c0 := c0) (e := e) (m := m) hn hP k (p + 1) (q := q2) (b := b2) (by omega)
    have hx := hP.1 p
    have hK : ∀ b', aq b' (loopN (bAr (M 1 6) (M 5) (M 83) m) (p + 1) k (bAr (M 1 6) (M 5) (M 83) m p q)) → PV (bW M ((loopN (bAr (M 1 6) (M 5) (M 83) m) (p + 1) k (bAr (M 1 6) (M 5) (M 83) m p q)).length : Int) a b' c0 e) := hK
    have hq2 := bQ_ar hn.1 hq
    rw [show ((p + 1 : Nat) : Int) = (p : Int) + 1 by omega] at ih hq2
    refine sg_95_2 ⟨fun z => by omega, fun _ => ?_⟩
    by_cases hm : M 12 p = m
    · have hm2 : M 83 (2 * p + 1) = m := by rw [← hx.2]; exact hm
      have e1 : bAr (M 1 6) (M 5) (M 83) m p q = loopN (fun c q => if M 5 c = p then q ++ [(c : Int)] else q) 0 (M 1 6).toNat q := by unfold bAr; rw [if_pos hm2]
      rw [e1] at hK hq2
      exact lp_95_11 hn (by omega) hm hm2 (M 1 6).toNat 0 (by omega) hq hb (fun b' hb' => ih hq2 hb' hK)
    · have hm2 : ¬ M 83 (2 * p + 1) = m := by rw [← hx.2]; exact hm
      have e1 : bAr (M 1 6) (M 5) (M 83) m p q = q := by unfold bAr; rw [if_neg hm2]
      rw [e1] at hK hq2
      exact sg_95_11 ⟨by omega, fun _ => ⟨by unfold inI; omega, ih hq2 hb hK⟩, fun z => absurd z hm⟩
