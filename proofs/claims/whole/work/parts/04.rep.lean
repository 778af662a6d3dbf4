/-! HOW THE CLEAN MACHINE'S STATES STAND IN THE HEAP -/
def isU (v : Vl) : Bool := match v with
  | .inr (.inr (.inr (.inr (.inr (.inr _))))) => true
  | _ => false
def okS (d : Nat) (x : Int) : Prop := match d with
  | 0 => inI x
  | 1 => inJ x
  | 2 => x = 0 ∨ x = 1
  | _ => True
def skd (k : Nat) (j : Int) : Nat := match sh k with
  | (0, _, _) => 0
  | (1, _, _) => 1
  | (2, _, _) => 2
  | (3, _, _) => 3
  | (4, ci, _) => ctk ci j.toNat
  | _ => 0
def rowN (p : Nat) : Nat := if p = 14 then 6 else if p = 52 then 6 else 0
def okV (v : Vl) : Prop := match v with
  | .inl x => inI x
  | .inr (.inl x) => inJ x
  | .inr (.inr (.inl k)) => k < 111
  | .inr (.inr (.inr (.inl (k, i)))) => 0 ≤ i ∧ i < (rowN k : Int)
  | .inr (.inr (.inr (.inr (.inl t)))) => t < 11 ∨ t = 99 ∨ t = 100
  | .inr (.inr (.inr (.inr (.inr (.inl t))))) => t < 8
  | _ => True
def oks (l : List Vl) : Prop := ∀ v ∈ l, okV v
/-- the machine's fixed things: classes' numbers and slots; int[], long[], boolean[], int[][]; addresses of tables, of Strings; a static nobody asks; the script's address, length, ints -/
abbrev Gx : Type := va_G × (ClassId × ClassId × ClassId × ClassId) × (Nat → Nat) × (Nat → Nat) × Value × Nat × Int × (Int → Int)
def Gx.D (g : Gx) : va_G := g.1
def gI (g : Gx) : ClassId := g.2.1.1
def gJ (g : Gx) : ClassId := g.2.1.2.1
def gZ (g : Gx) : ClassId := g.2.1.2.2.1
def gM (g : Gx) : ClassId := g.2.1.2.2.2
def gT (g : Gx) : Nat → Nat := g.2.2.1
def gK (g : Gx) : Nat → Nat := g.2.2.2.1
def gX (g : Gx) : Value := g.2.2.2.2.1
def gB (g : Gx) : Nat := g.2.2.2.2.2.1
def gL (g : Gx) : Int := g.2.2.2.2.2.2.1
def gF (g : Gx) : Int → Int := g.2.2.2.2.2.2.2
def tys (g : Gx) : List (ClassId × FieldType) := [(gI g, .int), (gJ g, .long), (gZ g, .boolean), (gM g, .array .int)]
def okM (g : Gx) (M : Mm) : Prop := (∀ k j, okS (skd k j) (M k j)) ∧ M 200 = gF g ∧ M 201 0 = gL g
def rv (g : Gx) (A : Nat → Nat) (v : Vl) : Value := match v with
  | .inl x => .int (Int32.ofInt x)
  | .inr (.inl x) => .long (Int64.ofInt x)
  | .inr (.inr (.inl k)) => .ref (A k)
  | .inr (.inr (.inr (.inl (k, i)))) => .ref (A (k + i.toNat))
  | .inr (.inr (.inr (.inr (.inl t)))) => if t = 99 then gX g else if t = 100 then .ref (gB g) else .ref (gT g t)
  | .inr (.inr (.inr (.inr (.inr (.inl t))))) => .ref (gK g t)
  | _ => .int 0
def fvl (A : Nat → Nat) (f : Int → Int) (rs : List Nat) (ci j : Nat) : Value := match ctk ci j with
  | 0 => .int (Int32.ofInt (f j))
  | 1 => .long (Int64.ofInt (f j))
  | 2 => .int (Int32.ofInt (f j))
  | _ => .ref (A (rs.getD j 0))
def entF (g : Gx) (A : Nat → Nat) (k : Nat) (f : Int → Int) : va_E := match sh k with
  | (0, n, _) => .inl (gI g, n, .inl (fun j => Int32.ofInt (f j)))
  | (1, n, _) => .inl (gJ g, n, .inr (.inl (fun j => Int64.ofInt (f j))))
  | (2, n, _) => .inl (gZ g, n, .inl (fun j => Int32.ofInt (f j)))
  | (3, n, rs) => .inl (gM g, n, .inr (.inr (.inr (.inr (fun j => some (A (rs.getD 0 0 + j)))))))
  | (_, ci, rs) => .inr (ci, (List.range (ctL.getD ci []).length).map (fvl A f rs ci))
def wld (g : Gx) (A : Nat → Nat) (M : Mm) : va_W := (List.range 111).map fun k => (A k, entF g A k (M k))
theorem wld_get {g : Gx} {A : Nat → Nat} {M : Mm} {k : Nat} (h : k < 111) : (wld g A M)[k]? = some (A k, entF g A k (M k)) := by
  simp [wld, h]
theorem wld_set {g : Gx} {A : Nat → Nat} {M : Mm} {k : Nat} (h : k < 111) (f : Int → Int) : (wld g A M).set k (A k, entF g A k f) = wld g A (rset M k f) := by
  apply List.ext_getElem?
  intro j
  by_cases hj : j = k
  · subst hj
    rw [List.getElem?_set_self (by simp [wld, h]), wld_get h]
    simp [rset]
  · rw [List.getElem?_set_ne (Ne.symm hj)]
    simp only [wld, List.getElem?_map]
    cases hq : (List.range 111)[j]? with
    | none => rfl
    | some a =>
      have ha : a = j := by
        obtain ⟨h1, h2⟩ := List.getElem?_eq_some_iff.mp hq
        rw [← h2]; simp
      subst ha
      simp [rset, hj]
def adr (A0 : Nat → Prop) (A : Nat → Nat) : Prop := (∀ i j, i < 111 → j < 111 → A i = A j → i = j) ∧ ∀ i, i < 111 → A0 (A i)
theorem wld_D {g : Gx} {A0 : Nat → Prop} {A : Nat → Nat} {M : Mm} (h : adr A0 A) : va_D A0 (wld g A M) := by
  have key : ∀ (i : Nat) (q : Nat × va_E), (wld g A M)[i]? = some q → i < 111 ∧ q.1 = A i := by
    intro i q hq
    have hi : i < 111 := by
      have := (List.getElem?_eq_some_iff.mp hq).1
      simpa [wld] using this
    rw [wld_get hi] at hq
    cases hq
    exact ⟨hi, rfl⟩
  refine ⟨fun i j a b hi hj hab => ?_, fun k q hq => ?_⟩
  · obtain ⟨h1, h2⟩ := key i a hi
    obtain ⟨h3, h4⟩ := key j b hj
    exact h.1 i j h1 h3 (by rw [← h2, ← h4, hab])
  · obtain ⟨h1, h2⟩ := key k q hq
    rw [h2]; exact h.2 k h1
/-- the locals that are known -/
def prsF (g : Gx) (A : Nat → Nat) : Nat → List Vl → List (Nat × Value)
  | _, [] => []
  | i, v :: r => if isU v = true then prsF g A (i + 1) r else (i, rv g A v) :: prsF g A (i + 1) r
def prs (g : Gx) (A : Nat → Nat) (ls : List Vl) : List (Nat × Value) := prsF g A 0 ls
theorem prsF_mem {g : Gx} {A : Nat → Nat} {q : Nat × Value} : ∀ (ls : List Vl) (i : Nat), q ∈ prsF g A i ls ↔ ∃ j v, ls[j]? = some v ∧ isU v = false ∧ q = (i + j, rv g A v)
  | [], i => by simp [prsF]
  | v :: r, i => by
    have ih := prsF_mem (g := g) (A := A) (q := q) r (i + 1)
    unfold prsF
    by_cases hv : isU v = true
    · rw [if_pos hv, ih]
      constructor
      · rintro ⟨j, w, h1, h2, h3⟩
        exact ⟨j + 1, w, by simpa using h1, h2, by rw [h3]; congr 1; omega⟩
      · rintro ⟨j, w, h1, h2, h3⟩
        cases j with
        | zero => simp at h1; subst h1; rw [hv] at h2; cases h2
        | succ j => exact ⟨j, w, by simpa using h1, h2, by rw [h3]; congr 1; omega⟩
    · rw [if_neg hv, List.mem_cons, ih]
      constructor
      · rintro (h | ⟨j, w, h1, h2, h3⟩)
        · exact ⟨0, v, rfl, by simpa using hv, by simpa using h⟩
        · exact ⟨j + 1, w, by simpa using h1, h2, by rw [h3]; congr 1; omega⟩
      · rintro ⟨j, w, h1, h2, h3⟩
        cases j with
        | zero => simp at h1; subst h1; exact Or.inl (by simpa using h3)
        | succ j => exact Or.inr ⟨j, w, by simpa using h1, h2, by rw [h3]; congr 1; omega⟩
theorem prs_mem {g : Gx} {A : Nat → Nat} {q : Nat × Value} {ls : List Vl} : q ∈ prs g A ls ↔ ∃ j v, ls[j]? = some v ∧ isU v = false ∧ q = (j, rv g A v) := by
  have h := prsF_mem (g := g) (A := A) (q := q) ls 0
  simpa [prs] using h
theorem getD_get {ls : List Vl} {i : Nat} {v : Vl} (h : ls.getD i vU = v) (hv : isU v = false) : ls[i]? = some v := by
  rw [List.getD_eq_getElem?_getD] at h
  cases hq : ls[i]? with
  | none => rw [hq] at h; simp at h; subst h; cases hv
  | some w => rw [hq] at h; simp at h; rw [h]
theorem lv_of {g : Gx} {A : Nat → Nat} {lsA : Array Slot} {nL : Nat} {ls : List Vl} (h : lv_has lsA nL (prs g A ls)) {i : Nat} {v : Vl} (hv : ls.getD i vU = v) (hu : isU v = false) : lsA[i]? = some (.val (rv g A v)) :=
  h.2.2 (i, rv g A v) (prs_mem.mpr ⟨i, v, getD_get hv hu, hu, rfl⟩)
theorem rv_cat {g : Gx} {A : Nat → Nat} {v : Vl} (hX : (gX g).category = 1) : (rv g A v).category = zcat v := by
  rcases v with x | x | k | ⟨k, i⟩ | t | t | u
  · rfl
  · rfl
  · rfl
  · rfl
  · show (if t = 99 then gX g else if t = 100 then Value.ref (gB g) else .ref (gT g t)).category = 1
    split
    · exact hX
    · split <;> rfl
  · rfl
  · rfl
theorem noL_spec {ls : List Vl} {i j : Nat} {v : Vl} (h : noL ls i = true) (hj : ls[j]? = some v) (he : j + 1 = i) : zcat v = 1 := by
  subst he
  unfold noL at h
  have hd : ls.getD j vU = v := by rw [List.getD_eq_getElem?_getD, hj]; rfl
  simp only [hd] at h
  rcases v with x | x | k | ⟨k, i⟩ | t | t | u
  · rfl
  · cases h
  · rfl
  · rfl
  · rfl
  · rfl
  · rfl
theorem lv_st1 {g : Gx} {A : Nat → Nat} {lsA : Array Slot} {nL : Nat} {ls : List Vl} {i : Nat} {v : Vl} {w : Value} (hX : (gX g).category = 1) (hn : noL ls i = true) (hw : w = rv g A v)
    (h : lv_has lsA nL ((i, w) :: (prs g A ls).filter (fun q => !(q.1 == i) && !(q.1 + 1 == i && q.2.category == 2)))) : lv_has lsA nL (prs g A (ls.set i v)) := by
  refine ⟨h.1, h.2.1, fun q hq => ?_⟩
  obtain ⟨j, u, h1, h2, h3⟩ := prs_mem.mp hq
  by_cases hj : j = i
  · subst hj
    have hl : j < (ls.set j v).length := (List.getElem?_eq_some_iff.mp h1).1
    rw [List.length_set] at hl
    rw [List.getElem?_set_self hl] at h1
    cases h1
    rw [h3]
    exact h.2.2 (j, rv g A v) (by rw [hw]; exact List.mem_cons_self)
  · rw [List.getElem?_set_ne (Ne.symm hj)] at h1
    refine h.2.2 q (List.mem_cons_of_mem _ (List.mem_filter.mpr ⟨prs_mem.mpr ⟨j, u, h1, h2, h3⟩, ?_⟩))
    subst h3
    by_cases hji : j + 1 = i
    · have hc := noL_spec hn h1 hji
      simp [hj, hji, rv_cat hX, hc]
    · simp [hj, hji]
theorem lv_st2 {g : Gx} {A : Nat → Nat} {lsA : Array Slot} {nL : Nat} {ls : List Vl} {i : Nat} {v : Vl} {w : Value} (hX : (gX g).category = 1) (hn : noL ls i = true) (hw : w = rv g A v)
    (h : lv_has lsA nL ((i, w) :: (prs g A ls).filter (fun q => !(q.1 == i) && (!(q.1 == i + 1) && !(q.1 + 1 == i && q.2.category == 2))))) : lv_has lsA nL (prs g A ((ls.set i v).set (i + 1) vU)) := by
  refine ⟨h.1, h.2.1, fun q hq => ?_⟩
  obtain ⟨j, u, h1, h2, h3⟩ := prs_mem.mp hq
  by_cases hj1 : j = i + 1
  · subst hj1
    have hl : i + 1 < ((ls.set i v).set (i + 1) vU).length := (List.getElem?_eq_some_iff.mp h1).1
    rw [List.length_set] at hl
    rw [List.getElem?_set_self hl] at h1
    cases h1
    cases h2
  · rw [List.getElem?_set_ne (Ne.symm hj1)] at h1
    by_cases hj : j = i
    · subst hj
      have hl : j < (ls.set j v).length := (List.getElem?_eq_some_iff.mp h1).1
      rw [List.length_set] at hl
      rw [List.getElem?_set_self hl] at h1
      cases h1
      rw [h3]
      exact h.2.2 (j, rv g A v) (by rw [hw]; exact List.mem_cons_self)
    · rw [List.getElem?_set_ne (Ne.symm hj)] at h1
      refine h.2.2 q (List.mem_cons_of_mem _ (List.mem_filter.mpr ⟨prs_mem.mpr ⟨j, u, h1, h2, h3⟩, ?_⟩))
      subst h3
      by_cases hji : j + 1 = i
      · have hc := noL_spec hn h1 hji
        simp [hj, hji, hj1, rv_cat hX, hc]
      · simp [hj, hji, hj1]
/-! numbers -/
theorem ofI_wr (x : Int) : Int32.ofInt (wr x) = Int32.ofInt x := by
  apply Int32.toInt_inj.mp
  simp [wr, Int32.toInt_ofInt]
theorem ofJ_wL (x : Int) : Int64.ofInt (wL x) = Int64.ofInt x := by
  apply Int64.toInt_inj.mp
  simp [wL, Int64.toInt_ofInt]
theorem inI_wr (x : Int) : inI (wr x) := by
  unfold inI wr
  have h1 := Int.le_bmod (x := x) (m := 4294967296) (by decide)
  have h2 := Int.bmod_lt (x := x) (m := 4294967296) (by decide)
  omega
theorem inJ_wL (x : Int) : inJ (wL x) := by
  unfold inJ wL
  have h1 := Int.le_bmod (x := x) (m := 18446744073709551616) (by decide)
  have h2 := Int.bmod_lt (x := x) (m := 18446744073709551616) (by decide)
  omega
theorem wr_id {x : Int} (h : inI x) : wr x = x := by
  unfold inI at h
  unfold wr
  exact Int.bmod_eq_of_le (by omega) (by omega)
theorem wL_id {x : Int} (h : inJ x) : wL x = x := by
  unfold inJ at h
  unfold wL
  exact Int.bmod_eq_of_le (by omega) (by omega)
theorem toI_of {x : Int} (h : inI x) : (Int32.ofInt x).toInt = x := by
  rw [Int32.toInt_ofInt]; exact wr_id h
theorem toJ_of {x : Int} (h : inJ x) : (Int64.ofInt x).toInt = x := by
  rw [Int64.toInt_ofInt]; exact wL_id h
theorem inI_t (x : Int32) : inI x.toInt := by
  have h1 := Int32.le_toInt x
  have h2 := Int32.toInt_lt x
  unfold inI
  omega
theorem inJ_t (x : Int64) : inJ x.toInt := by
  have h1 := Int64.le_toInt x
  have h2 := Int64.toInt_lt x
  unfold inJ
  omega
theorem ofI_t (x : Int32) : Int32.ofInt x.toInt = x := by simp
theorem ofJ_t (x : Int64) : Int64.ofInt x.toInt = x := by simp
theorem eqI {x y : Int} (hx : inI x) (hy : inI y) : Int32.ofInt x = Int32.ofInt y ↔ x = y := by
  rw [← Int32.toInt_inj, toI_of hx, toI_of hy]
theorem ltI {x y : Int} (hx : inI x) (hy : inI y) : Int32.ofInt x < Int32.ofInt y ↔ x < y := by
  rw [Int32.lt_iff_toInt_lt, toI_of hx, toI_of hy]
theorem leI {x y : Int} (hx : inI x) (hy : inI y) : Int32.ofInt x ≤ Int32.ofInt y ↔ x ≤ y := by
  rw [Int32.le_iff_toInt_le, toI_of hx, toI_of hy]
theorem clN {x : Int} (hx : inI x) (h0 : 0 ≤ x) : (Int32.ofInt x).toNatClampNeg = x.toNat := by
  show (Int32.ofInt x).toInt.toNat = x.toNat
  rw [toI_of hx]
theorem inN {x : Int} {n : Nat} (hx : inI x) (h0 : 0 ≤ x) (hn : x < n) : vp_in (Int32.ofInt x) n := by
  rw [vp_in_iff, toI_of hx]
  exact ⟨h0, hn⟩
theorem divI {x y : Int} (hx : inI x) (hy : inI y) (h : ¬ y = 0) : Int32.ofInt x / Int32.ofInt y = Int32.ofInt (wr (x.tdiv y)) := by
  rw [ofI_wr]
  apply Int32.toInt_inj.mp
  rw [Int32.toInt_div, toI_of hx, toI_of hy, Int32.toInt_ofInt]
theorem remI {x y : Int} (hx : inI x) (hy : inI y) (h : ¬ y = 0) : Int32.ofInt x - Int32.ofInt x / Int32.ofInt y * Int32.ofInt y = Int32.ofInt (wr (x.tmod y)) := by
  rw [divI hx hy h, ofI_wr, ofI_wr, ← Int32.ofInt_mul, ← Int32.ofInt_sub]
  congr 1
  have := Int.tdiv_mul_add_tmod x y
  omega
