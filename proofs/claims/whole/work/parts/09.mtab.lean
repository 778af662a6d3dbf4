/-! RETURNS, CALLS, THE TWO BOOKS' CHANGE -/
def rowD : Mrow := (0, "", "", (), 0, none, false, 0, [])
def mrw (μ : Nat) : Mrow := mtL.getD μ rowD
def mOwn (μ : Nat) : Nat := (mrw μ).1
def mY (μ : Nat) : MethodName := ⟨ownN (mrw μ).1, (mrw μ).2.1, (mrw μ).2.2.1⟩
def mN (μ : Nat) : Nat := (mrw μ).2.2.2.2.1
def mR (μ : Nat) : Option FieldType := (mrw μ).2.2.2.2.2.1
def mS (μ : Nat) : Bool := (mrw μ).2.2.2.2.2.2.1
def mA (μ : Nat) : Nat := (mrw μ).2.2.2.2.2.2.2.1
def mP (μ j : Nat) : Nat := (mrw μ).2.2.2.2.2.2.2.2.getD j 0
def cdOf (w : Option Jvm.Cond) : ByteArray := match w with
  | some (.code _ bs _ _) => bs
  | _ => ByteArray.empty
def cdOk (w : Option Jvm.Cond) (y : MethodName) (n : Nat) (r : Option FieldType) : Bool := match w with
  | some (.code y' _ n' r') => decide (y' = y) && decide (n' = n) && decide (r' = r)
  | _ => false
theorem cd_ok {w : Option Jvm.Cond} {y : MethodName} {n : Nat} {r : Option FieldType} (h : cdOk w y n r = true) : w = some (.code y (cdOf w) n r) := by
  unfold cdOk at h
  split at h
  · simp only [Bool.and_eq_true, decide_eq_true_eq] at h
    obtain ⟨⟨rfl, rfl⟩, rfl⟩ := h
    rfl
  · cases h
def mB (μ : Nat) : ByteArray := cdOf lw_tbl[mP μ 0]?
def mtC (μ : Nat) : Bool := cdOk lw_tbl[mP μ 0]? (mY μ) (mN μ) (mR μ) && decide (lw_tbl[mP μ 1]? = some (.initialized (ownN (mOwn μ)))) && (if mS μ = true then decide (lw_tbl[mP μ 2]? = some (.static (mY μ))) else decide (lw_tbl[mP μ 2]? = some (.instanceMethod (mY μ))) && decide (lw_tbl[mP μ 3]? = some (.selects (ownN (mOwn μ)) (mY μ) (mY μ)))) && decide (mN μ ≤ 20) && plainName (ownN (mOwn μ)) && decide ((parseMethodDescriptor (mY μ).desc).map (fun d => d.parameters.length) = some (if mS μ = true then mA μ else mA μ - 1)) && decide (mS μ = true ∨ 1 ≤ mA μ) && decide (ownN (mOwn μ) ≠ "java/lang/invoke/MethodHandle" ∧ ownN (mOwn μ) ≠ "java/lang/invoke/VarHandle") && decide (mR μ = none ∨ mR μ = some .int ∨ mR μ = some .long ∨ mR μ = some .boolean ∨ mR μ = some .char ∨ mR μ = some .byte)
theorem mt_ok0 : (List.range 100).all mtC = true := by decide +kernel
theorem mt_ok1 : (List.range 83).all (fun i => mtC (100 + i)) = true := by decide +kernel
theorem mt_ok {μ : Nat} (h : μ < 183) : mtC μ = true := by
  by_cases h1 : μ < 100
  · exact List.all_eq_true.mp mt_ok0 μ (List.mem_range.mpr h1)
  · have h2 := List.all_eq_true.mp mt_ok1 (μ - 100) (List.mem_range.mpr (by omega))
    have e : 100 + (μ - 100) = μ := by omega
    rw [e] at h2
    exact h2
def mlW (q : Nat × Nat × Nat × Nat × Nat) : Jvm.Cond := match q with
  | (ow, idx, μ, nest, _) => if nest = 0 then .methodLink (ownN ow) idx (mY μ) else .methodLinkNest (ownN ow) idx (mY μ) "ChildTrains"
def mlC (q : Nat × Nat × Nat × Nat × Nat) : Bool := decide (lw_tbl[q.2.2.2.2]? = some (mlW q)) && decide (q.2.2.1 < 183)
theorem ml_ok : mlL.all mlC = true := by decide +kernel
theorem ml_get {j : Nat} {q : Nat × Nat × Nat × Nat × Nat} (h : mlL[j]? = some q) : mlW q ∈ lw_tbl ∧ q.2.2.1 < 183 := by
  have h1 := List.all_eq_true.mp ml_ok q (List.mem_of_getElem? h)
  simp only [mlC, Bool.and_eq_true, decide_eq_true_eq] at h1
  exact ⟨lw_at h1.1, h1.2⟩
