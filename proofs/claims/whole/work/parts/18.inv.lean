/-! PURE PICTURES, AND WHAT HOLDS BETWEEN CLASS AND REFERENCE FROM CALL TO CALL -/
def loopN {α : Type} (f : Nat → α → α) : Nat → Nat → α → α
  | _, 0, a => a
  | i, k + 1, a => loopN f (i + 1) k (f i a)
def iterN {α : Type} (f : α → α) : Nat → α → α
  | 0, a => a
  | k + 1, a => iterN f k (f a)
/-! the boarding: who waits, seats left, trains, minutes. g: parties; pa: labels and minutes; tn: trains; w: the way -/
abbrev BS : Type := List Int × (Int → Int) × (Int → Int) × (Int → Int)
def bPk (g pa tn : Int → Int) (w t m : Int) (c : Int) : Bool := decide (w = 0) || (decide (w = 2) && decide (tn (5 * t + 1) - 5 ≤ m)) || decide (pa (2 * g c) = t)
/-- the place of the first one of whom p is true; the length, if there is none -/
def fI (p : Int → Bool) : List Int → Nat
  | [] => 0
  | c :: r => if p c = true then 0 else fI p r + 1
def bOne (pk : Int → Bool) (t m : Int) (s : BS) : BS :=
  if 0 < s.2.1 t ∧ fI pk s.1 < s.1.length then (s.1.eraseIdx (fI pk s.1), fset s.2.1 t (s.2.1 t - 1), fset s.2.2.1 (s.1.getD (fI pk s.1) 0) t, fset s.2.2.2 (s.1.getD (fI pk s.1) 0) m) else s
def bTr (g pa tn : Int → Int) (w m : Int) (t : Nat) (s : BS) : BS :=
  if tn (5 * t) ≤ m ∧ m < tn (5 * t + 1) then iterN (bOne (bPk g pa tn w t m) t m) (tn (5 * t + 3)).toNat s else s
def bAr (n : Int) (g pa : Int → Int) (m : Int) (p : Nat) (q : List Int) : List Int :=
  if pa (2 * p + 1) = m then loopN (fun c q => if g c = p then q ++ [(c : Int)] else q) 0 n.toNat q else q
def bMn (n : Int) (g pa tn : Int → Int) (w : Int) (m : Nat) (s : BS) : BS :=
  loopN (bTr g pa tn w m) 0 6 (loopN (bAr n g pa m) 0 8 s.1, s.2)
def bAll (n : Int) (g pa tn : Int → Int) (w : Int) : BS :=
  loopN (bMn n g pa tn w) 0 301 ([], (fun t => tn (5 * t + 2)), (fun _ => -9), (fun _ => -9))
def bT (n : Int) (g pa tn : Int → Int) (w : Int) : Int → Int := (bAll n g pa tn w).2.2.1
def bM (n : Int) (g pa tn : Int → Int) (w : Int) : Int → Int := (bAll n g pa tn w).2.2.2
/-- the village that a child came to -/
def vil (tn bt : Int → Int) (c : Int) : Int := if bt c = -9 then -9 else tn (5 * bt c + 4)
def upTo (n : Int) : List Int := (List.range n.toNat).map (fun k : Nat => (k : Int))
def hallL (n : Int) (tn bt : Int → Int) (v : Int) : List Int := (upTo n).filter (fun c => vil tn bt c = v)
def houL (hn : Int) (ho : Int → Int) (v : Int) : List Int := (upTo hn).filter (fun h => ho (5 * h) = v)
def srt (sx ag : Int → Int) (c : Int) : Int := sx c + (if 8 < ag c then 2 else 0)
def tks (sx ag ho : Int → Int) (h c : Int) : Bool := decide (zand (zshr (ho (5 * h + 3)) (srt sx ag c)) 1 = 1)
def knn (kn : Int → Int) (a b : Int) : Bool := decide (0 < kn a) && decide (kn a = kn b)
/-! lodging: an assignment of children to houses, -9: over -/
def fsb (sx ag ho : Int → Int) (C L : List Int) (a : Int → Int) : Prop := (∀ c ∈ C, a c = -9 ∨ (a c ∈ L ∧ tks sx ag ho (a c) c = true)) ∧ ∀ h ∈ L, ((C.filter (fun c => a c = h)).length : Int) ≤ ho (5 * h + 2)
def ovr (C : List Int) (a : Int → Int) : Int := (C.filter (fun c => a c = -9)).length
def prt (kn : Int → Int) (a : Int → Int) : List Int → Int
  | [] => 0
  | c :: r => (r.filter (fun x => knn kn c x && !(decide (a c = a x) && !decide (a c = -9)))).length + prt kn a r
def isBest (sx ag kn ho : Int → Int) (C L : List Int) (o p : Int) : Prop := ∃ a, fsb sx ag ho C L a ∧ ovr C a = o ∧ prt kn a C = p ∧ ∀ b, fsb sx ag ho C L b → o < ovr C b ∨ (o = ovr C b ∧ p ≤ prt kn b C)
theorem isBest_uniq {sx ag kn ho : Int → Int} {C L : List Int} {o p o' p' : Int} (h : isBest sx ag kn ho C L o p) (h' : isBest sx ag kn ho C L o' p') : o = o' ∧ p = p' := by
  obtain ⟨a, f1, f2, f3, f4⟩ := h
  obtain ⟨b, g1, g2, g3, g4⟩ := h'
  have h1 := f4 b g1
  have h2 := g4 a f1
  omega
/-! events: where a child is by the first k events of days up to d -/
def whr (who into day : Int → Int) (c d : Int) : Nat → Int
  | 0 => -9
  | k + 1 => if who k = c ∧ day k ≤ d then into k else whr who into day c d k
/-- how many below n -/
def cn (p : Int → Bool) : Nat → Int
  | 0 => 0
  | n + 1 => cn p n + (if p n = true then 1 else 0)
theorem cn_b {p : Int → Bool} : ∀ n : Nat, 0 ≤ cn p n ∧ cn p n ≤ n
  | 0 => by show (0 : Int) ≤ 0 ∧ (0 : Int) ≤ ((0 : Nat) : Int); omega
  | n + 1 => by
    have ih := cn_b (p := p) n
    show 0 ≤ cn p n + (if p n = true then 1 else 0) ∧ cn p n + (if p n = true then 1 else 0) ≤ ((n + 1 : Nat) : Int)
    split <;> omega
theorem cn_congr {p q : Int → Bool} : ∀ {n : Nat}, (∀ c, 0 ≤ c → c < (n : Int) → p c = q c) → cn p n = cn q n
  | 0, _ => rfl
  | n + 1, h => by
    have ih := cn_congr (p := p) (q := q) (n := n) (fun c h0 h1 => h c h0 (by omega))
    show cn p n + (if p n = true then 1 else 0) = cn q n + (if q n = true then 1 else 0)
    rw [ih, h n (by omega) (by omega)]
theorem cn_upd {p q : Int → Bool} {w : Int} : ∀ {n : Nat}, 0 ≤ w → w < (n : Int) → (∀ c, 0 ≤ c → c < (n : Int) → ¬ c = w → q c = p c) → cn q n = cn p n + (if q w = true then 1 else 0) - (if p w = true then 1 else 0)
  | 0, _, h1, _ => by omega
  | n + 1, h0, h1, h => by
    show cn q n + (if q n = true then 1 else 0) = cn p n + (if p n = true then 1 else 0) + (if q w = true then 1 else 0) - (if p w = true then 1 else 0)
    by_cases e : w = (n : Int)
    · rw [cn_congr (p := q) (q := p) (n := n) (fun c c0 c1 => h c c0 (by omega) (by omega)), e]
      omega
    · rw [cn_upd (p := p) (q := q) (n := n) h0 (by omega) (fun c c0 c1 => h c c0 (by omega)), h n (by omega) (by omega) (by omega)]
      omega
theorem cn_none {p : Int → Bool} : ∀ {n : Nat}, (∀ c, 0 ≤ c → c < (n : Int) → p c = false) → cn p n = 0
  | 0, _ => rfl
  | n + 1, h => by
    show cn p n + (if p n = true then 1 else 0) = 0
    rw [cn_none (n := n) (fun c h0 h1 => h c h0 (by omega)), h n (by omega) (by omega)]
    rfl
theorem whr_no {who into day : Int → Int} {c d : Int} : ∀ {k : Nat}, (∀ e, 0 ≤ e → e < (k : Int) → ¬ who e = c) → whr who into day c d k = -9
  | 0, _ => rfl
  | k + 1, h => by
    show (if who k = c ∧ day k ≤ d then into k else whr who into day c d k) = -9
    rw [if_neg (fun z => h k (by omega) (by omega) z.1)]
    exact whr_no (fun e e0 e1 => h e e0 (by omega))
theorem whr_in {who into day : Int → Int} {c d : Int} : ∀ {k : Nat}, whr who into day c d k = -9 ∨ ∃ e, 0 ≤ e ∧ e < (k : Int) ∧ who e = c ∧ whr who into day c d k = into e
  | 0 => Or.inl rfl
  | k + 1 => by
    by_cases h : who k = c ∧ day k ≤ d
    · refine Or.inr ⟨k, by omega, by omega, h.1, ?_⟩
      show (if who k = c ∧ day k ≤ d then into k else whr who into day c d k) = into k
      rw [if_pos h]
    · have e : whr who into day c d (k + 1) = whr who into day c d k := if_neg h
      rw [e]
      rcases whr_in (who := who) (into := into) (day := day) (c := c) (d := d) (k := k) with h2 | ⟨e2, h3, h4, h5⟩
      · exact Or.inl h2
      · exact Or.inr ⟨e2, h3, by omega, h5⟩
/-! the invariant -/
def IC (M : Mm) : Prop := (0 ≤ M 1 6 ∧ M 1 6 ≤ 48) ∧ M 76 2 = M 1 6 ∧ (M 77 = M 2 ∧ M 78 = M 3 ∧ M 79 = M 4 ∧ M 80 = M 5) ∧ ∀ c, 0 ≤ c → c < M 1 6 → (M 2 c = 0 ∨ M 2 c = 1) ∧ (1 ≤ M 3 c ∧ M 3 c ≤ 15) ∧ (0 ≤ M 4 c ∧ M 4 c ≤ 20) ∧ (0 ≤ M 5 c ∧ M 5 c ≤ 7)
/-- a name's letter k (of m) in the long v -/
def ltr (v m k : Int) : Int := zand (wr (jushr v (8 * (m - 1 - k)))) 255
def IN (M : Mm) : Prop := M 81 = M 7 ∧ (∀ c, M 1 6 ≤ c → M 7 c = 0) ∧ ∀ c, 0 ≤ c → c < M 1 6 → (0 ≤ M 7 c ∧ M 7 c ≤ 8) ∧ ∀ k, 0 ≤ k → k < M 7 c → M 82 (8 * c + k) = ltr (M 6 c) (M 7 c) k ∧ 97 ≤ M 82 (8 * c + k) ∧ M 82 (8 * c + k) ≤ 122
def ID (M : Mm) : Prop := (0 ≤ M 8 1 ∧ M 8 1 ≤ 600) ∧ M 76 20 = M 8 1 ∧ M 91 = M 9 ∧ ∀ i, 0 ≤ i → i < M 8 1 → 0 ≤ M 9 i ∧ M 9 i ≤ 255
def tnOk (f : Int → Int) (t : Int) : Prop := (0 ≤ f (5 * t) ∧ f (5 * t) ≤ 300) ∧ (0 ≤ f (5 * t + 1) ∧ f (5 * t + 1) ≤ 300) ∧ (0 ≤ f (5 * t + 2) ∧ f (5 * t + 2) ≤ 48) ∧ (1 ≤ f (5 * t + 3) ∧ f (5 * t + 3) ≤ 4) ∧ (0 ≤ f (5 * t + 4) ∧ f (5 * t + 4) ≤ 5)
def rowE (f g : Int → Int) (b n : Int) : Prop := ∀ j, 0 ≤ j → j < n → f j = g (b + j)
def IPr (M : Mm) : Prop := rowE (M 14) (M 84) 0 5 ∧ rowE (M 15) (M 84) 5 5 ∧ rowE (M 16) (M 84) 10 5 ∧ rowE (M 17) (M 84) 15 5 ∧ rowE (M 18) (M 84) 20 5 ∧ rowE (M 19) (M 84) 25 5
def IP (M : Mm) : Prop := (∀ p, M 11 p = M 83 (2 * p) ∧ M 12 p = M 83 (2 * p + 1)) ∧ (∀ p, 0 ≤ p → p < 8 → (0 ≤ M 83 (2 * p) ∧ M 83 (2 * p) ≤ 5) ∧ (0 ≤ M 83 (2 * p + 1) ∧ M 83 (2 * p + 1) ≤ 300)) ∧ IPr M ∧ (∀ t : Int, 0 ≤ t → t < 6 → tnOk (M 84) t) ∧ M 76 11 = M 10 8 ∧ 0 ≤ M 10 8 ∧ M 10 8 ≤ 2
theorem IPr.at {M : Mm} (h : IPr M) {t j : Int} (t0 : 0 ≤ t) (t6 : t < 6) (j0 : 0 ≤ j) (j5 : j < 5) : M (14 + t.toNat) j = M 84 (5 * t + j) := by
  obtain ⟨h0, h1, h2, h3, h4, h5⟩ := h
  have : t = 0 ∨ t = 1 ∨ t = 2 ∨ t = 3 ∨ t = 4 ∨ t = 5 := by omega
  rcases this with rfl | rfl | rfl | rfl | rfl | rfl
  · exact (h0 j j0 j5).trans (by congr 1)
  · exact (h1 j j0 j5).trans (by congr 1)
  · exact (h2 j j0 j5).trans (by congr 1)
  · exact (h3 j j0 j5).trans (by congr 1)
  · exact (h4 j j0 j5).trans (by congr 1)
  · exact (h5 j j0 j5).trans (by congr 1)
def IB (M : Mm) : Prop := (M 10 9 = 0 ∨ M 10 9 = 1) ∧ (M 10 9 = 0 → ∀ c, 0 ≤ c → c < 48 → M 22 c = bT (M 1 6) (M 5) (M 83) (M 84) (M 10 8) c ∧ M 23 c = bM (M 1 6) (M 5) (M 83) (M 84) (M 10 8) c)
def IH (M : Mm) : Prop := (0 ≤ M 24 5 ∧ M 24 5 ≤ 24) ∧ M 76 16 = M 24 5 ∧ (∀ h, M 25 h = M 89 (5 * h) ∧ M 26 h = M 89 (5 * h + 1) ∧ M 27 h = M 89 (5 * h + 2) ∧ M 28 h = M 89 (5 * h + 3) ∧ M 29 h = M 89 (5 * h + 4)) ∧ ∀ h, 0 ≤ h → h < M 24 5 → (0 ≤ M 25 h ∧ M 25 h ≤ 5) ∧ (1 ≤ M 26 h ∧ M 26 h ≤ 3) ∧ (1 ≤ M 27 h ∧ M 27 h ≤ 4) ∧ (0 ≤ M 28 h ∧ M 28 h ≤ 15) ∧ (0 ≤ M 29 h ∧ M 29 h ≤ 3)
def IL (M : Mm) : Prop := M 33 7 = -9 ∨ ((0 ≤ M 33 7 ∧ M 33 7 ≤ 5) ∧ isBest (M 2) (M 3) (M 4) (M 89) (hallL (M 1 6) (M 84) (bT (M 1 6) (M 5) (M 83) (M 84) (M 10 8)) (M 33 7)) (houL (M 24 5) (M 89) (M 33 7)) (M 33 8) (M 33 9))
/-- the class's number for what a condition asks, out of the reference's -/
def enW (w : Int) : Int := if w = 2 then 5 else if w = 3 then 2 else if w = 4 then 3 else if w = 5 then 4 else w
/-- an order of a book (cells of the class) is the reference's -/
def ordOk (bd dy vd de cs cw cv cn od : Int → Int) (o : Int) : Prop := (bd o = od (25 * o) ∧ 0 ≤ bd o ∧ bd o ≤ 2) ∧ (dy o = od (25 * o + 1) ∧ 0 ≤ dy o ∧ dy o ≤ 99) ∧ (vd o = od (25 * o + 2) ∧ -1 ≤ vd o ∧ vd o ≤ 1) ∧ (de o = od (25 * o + 3) ∧ 0 ≤ de o ∧ de o ≤ 2) ∧ (cs o = od (25 * o + 4) ∧ 0 ≤ cs o ∧ cs o ≤ 6) ∧ ∀ j, 0 ≤ j → j < cs o → (cw (6 * o + j) = enW (od (25 * o + 5 + 3 * j)) ∧ 0 ≤ od (25 * o + 5 + 3 * j) ∧ od (25 * o + 5 + 3 * j) ≤ 5) ∧ (¬ od (25 * o + 5 + 3 * j) = 3 → cv (6 * o + j) = od (25 * o + 5 + 3 * j + 1)) ∧ (cn (6 * o + j) = od (25 * o + 5 + 3 * j + 2) ∧ (cn (6 * o + j) = 0 ∨ cn (6 * o + j) = 1))
def IO (M : Mm) : Prop := (0 ≤ M 58 8 ∧ M 58 8 ≤ 30) ∧ M 76 21 = M 58 8 ∧ ∀ o, 0 ≤ o → o < M 58 8 → ordOk (M 59) (M 60) (M 61) (M 62) (M 63) (M 64) (M 65) (M 66) (M 92) o
def IY (M : Mm) : Prop := (rowE (M 52) (M 94) 0 3 ∧ rowE (M 53) (M 94) 3 3 ∧ rowE (M 54) (M 94) 6 3 ∧ rowE (M 55) (M 94) 9 3 ∧ rowE (M 56) (M 94) 12 3 ∧ rowE (M 57) (M 94) 15 3) ∧ ∀ j, 0 ≤ j → j < 18 → 0 ≤ M 94 j ∧ M 94 j ≤ 20
theorem IY.at {M : Mm} (h : IY M) {t j : Int} (t0 : 0 ≤ t) (t6 : t < 6) (j0 : 0 ≤ j) (j3 : j < 3) : M (52 + t.toNat) j = M 94 (3 * t + j) := by
  obtain ⟨⟨h0, h1, h2, h3, h4, h5⟩, -⟩ := h
  have : t = 0 ∨ t = 1 ∨ t = 2 ∨ t = 3 ∨ t = 4 ∨ t = 5 := by omega
  rcases this with rfl | rfl | rfl | rfl | rfl | rfl
  · exact (h0 j j0 j3).trans (by congr 1)
  · exact (h1 j j0 j3).trans (by congr 1)
  · exact (h2 j j0 j3).trans (by congr 1)
  · exact (h3 j j0 j3).trans (by congr 1)
  · exact (h4 j j0 j3).trans (by congr 1)
  · exact (h5 j j0 j3).trans (by congr 1)
/-- the events: who, from, into, day, latest -/
def IE (M : Mm) : Prop := (0 ≤ M 40 6 ∧ M 40 6 ≤ 80) ∧ M 76 28 = M 40 6 ∧ (M 95 = M 41 ∧ M 98 = M 42 ∧ M 96 = M 43 ∧ M 97 = M 44) ∧ (∀ e, 0 ≤ e → e < M 40 6 → (0 ≤ M 41 e ∧ M 41 e < M 1 6) ∧ (M 43 e = -9 ∨ (0 ≤ M 43 e ∧ M 43 e < M 24 5)) ∧ (0 ≤ M 44 e ∧ M 44 e ≤ 199) ∧ M 42 e = whr (M 41) (M 43) (M 44) (M 41 e) 199 e.toNat ∧ ¬ M 42 e = M 43 e) ∧ (∀ e, 0 < e → e < M 40 6 → M 44 (e - 1) ≤ M 44 e) ∧ (∀ c, 0 ≤ c → c < 48 → M 45 c = whr (M 41) (M 43) (M 44) c 199 (M 40 6).toNat) ∧ M 40 7 = (if M 40 6 = 0 then 0 else M 44 (M 40 6 - 1)) ∧ ∀ h, 0 ≤ h → h < M 24 5 → cn (fun c => decide (whr (M 41) (M 43) (M 44) c 199 (M 40 6).toNat = h)) (M 1 6).toNat ≤ M 27 h
def IT (k : Int) (M : Mm) : Prop := M 76 1 = M 0 13 ∧ 0 ≤ M 0 13 ∧ M 0 13 ≤ 1111 * k
def Inv (k : Int) (M : Mm) : Prop := IC M ∧ IN M ∧ ID M ∧ IP M ∧ IB M ∧ IH M ∧ IL M ∧ IO M ∧ IY M ∧ IE M ∧ IT k M
def opI (k : Int) (d μ ν : Nat) (as : List Vl) (M : Mm) : Prop := EE d μ (vR 0 :: as) M (rI fun r M1 => EE d ν (vR 76 :: as) M1 (rI fun r2 M2 => r2 = r ∧ Inv (k + 1) M2))
def opL (k : Int) (d μ ν : Nat) (as : List Vl) (M : Mm) : Prop := EE d μ (vR 0 :: as) M (rL fun r M1 => EE d ν (vR 76 :: as) M1 (rL fun r2 M2 => r2 = r ∧ Inv (k + 1) M2))
theorem IT.up {k : Int} {M : Mm} (h : IT k M) : IT (k + 1) M := ⟨h.1, h.2.1, by have := h.2.2; omega⟩
