/-! WHAT HOLDS AT EVERY METHOD'S START: words, classes, tables, Strings, statics, the script -/
def isNest (w : Jvm.Cond) : Bool := match w with
  | .fieldLinkNest .. => true
  | .methodLinkNest .. => true
  | _ => false
def wKeep (w : Jvm.Cond) : Bool := goodWord w || isNest w
def strL : List (Nat × String) := [(33, "mcp"), (46, ":"), (48, "-=+"), (56, "lvf"), (77, "!"), (79, "sakhw"), (81, "<>"), (71, ";")]
def Wd (U : State) : Prop := ∀ w ∈ lw_tbl, wKeep w = true → ∀ a : Array Value, w.before a U = true
def lnT (t : Nat) : Nat := (tbL.getD t []).length
def vlT (t j : Nat) : Value := .int (Int32.ofInt ((tbL.getD t []).getD j 0))
def tyT (t : Nat) : FieldType := if t < 2 ∨ t = 10 then .int else .byte
abbrev sPl : String := "ChildTrains$Platform"
abbrev sOr : String := "ChildTrains$OrderReader"
abbrev sSt : String := "java/lang/String"
abbrev sPr : String := "jdk/internal/util/Preconditions"
abbrev dBi : String := "Ljava/util/function/BiFunction;"
def cxX (g : Gx) (A0 : Nat → Prop) (U : State) : Prop := va_X (gB g) (gL g).toNat (fun j => Int32.ofInt (gF g j)) U U.heap ∧ gB g < U.heap.size ∧ ¬ A0 (gB g) ∧ 0 ≤ gL g ∧ gL g < 2147483648 ∧ (gX g).category = 1
def cxT (g : Gx) (A0 : Nat → Prop) (U : State) : Prop := ∀ t, t < 11 → va_T (tyT t) (gT g t) (lnT t) (vlT t) A0 U U.heap
def cxK (g : Gx) (A0 : Nat → Prop) (U : State) : Prop := ∀ i, i < 8 → vk_R "ChildTrains$OrderReader" (strL.getD i (0, "")).1 (strL.getD i (0, "")).2 (gK g i) U ∧ va_O sSt (gK g i) A0 U U.heap ∧ va_OF sSt "coder" "B" (.int 0) (gK g i) A0 U U.heap ∧ va_OF sSt "value" "[B" (.ref (gT g (2 + i))) (gK g i) A0 U U.heap
def cxZ (g : Gx) (A0 : Nat → Prop) (U : State) : Prop := va_Z sPl "LEAST" "[I" (.ref (gT g 0)) A0 U U.heap ∧ va_Z sPl "MOST" "[I" (.ref (gT g 1)) A0 U U.heap ∧ va_Z sSt "COMPACT_STRINGS" "Z" (.int 1) A0 U U.heap ∧ va_Z sPr "SIOOBE_FORMATTER" dBi (gX g) A0 U U.heap ∧ va_Z sOr "MOST_VALUE" "[I" (.ref (gT g 10)) A0 U U.heap
def Ctx (g : Gx) (A0 : Nat → Prop) (U : State) : Prop := Wd U ∧ va_K g.D cls (tys g) U ∧ cxX g A0 U ∧ cxT g A0 U ∧ cxK g A0 U ∧ cxZ g A0 U
theorem Wd.warm {s U : State} (hW : s.WarmedH U.vm) (h : Wd s) : Wd U := by
  intro w hw hk a
  by_cases hg : goodWord w = true
  · exact word_at (args := #[]) hW (good_of_word hg) (h w hw hk #[])
  · have hn : isNest w = true := by simpa [wKeep, hg] using hk
    have h0 := h w hw hk #[]
    cases w <;> first
      | (simp [isNest] at hn; done)
      | exact va_Nw.use rfl (va_Nw.warmF hW h0)
      | exact va_Nw.use rfl (va_Nw.warmM hW h0)
theorem Wd.same {s U : State} (hv : s.vm = U.vm) (h : Wd s) : Wd U := by
  intro w hw hk a
  have h0 := h w hw hk #[]
  by_cases hg : goodWord w = true
  · cases w <;> first
      | exact va_tabs rfl hv h0
      | (simp [goodWord, Cond.onTables] at hg; done)
      | (have e := Cond.before_shiftedFace (args := #[]) (s := s) (vm' := U.vm) (State.Shifted.of_warmed (by rw [← hv]; exact State.WarmedH.refl s)) _ rfl h0; exact e)
  · have hn : isNest w = true := by simpa [wKeep, hg] using hk
    cases w <;> first
      | (simp [isNest] at hn; done)
      | exact va_tabs rfl hv h0
theorem Ctx.moved {g : Gx} {A0 : Nat → Prop} {s U : State} (h : Ctx g A0 s) (hW : Wd U) (hvm : s.vm.Alike U.vm) (hR : ∀ i, i < 8 → vk_R "ChildTrains$OrderReader" (strL.getD i (0, "")).1 (strL.getD i (0, "")).2 (gK g i) U) (hz : s.heap.size ≤ U.heap.size) (hq : ∀ a : Nat, a < s.heap.size → ¬ A0 a → U.heap[a]? = s.heap[a]?) : Ctx g A0 U := by
  obtain ⟨h1, h2, ⟨h3, h4, h5, h6⟩, h7, h8, h9, h10, h11, h12, h13⟩ := h
  refine ⟨hW, va_K.moved hvm h2, ⟨(va_X.moved hvm h3).kept (hq _ h4 h5), by omega, h5, h6⟩, fun t ht => ((h7 t ht).moved hvm).kept hq, fun i hi => ⟨hR i hi, (va_O.moved hvm (h8 i hi).2.1).kept hq, (va_OF.moved hvm (h8 i hi).2.2.1).kept hq, (va_OF.moved hvm (h8 i hi).2.2.2).kept hq⟩, (va_Z.moved hvm h9).kept hq, (va_Z.moved hvm h10).kept hq, (va_Z.moved hvm h11).kept hq, (va_Z.moved hvm h12).kept hq, (va_Z.moved hvm h13).kept hq⟩
theorem Ctx.warm {g : Gx} {A0 : Nat → Prop} {s U : State} (h : Ctx g A0 s) (hW : s.WarmedH U.vm) (hz : s.heap.size ≤ U.heap.size) (hq : ∀ a : Nat, a < s.heap.size → ¬ A0 a → U.heap[a]? = s.heap[a]?) : Ctx g A0 U :=
  h.moved (h.1.warm hW) hW.alike (fun i hi => vk_R.warm hW (h.2.2.2.2.1 i hi).1) hz hq
theorem Ctx.same {g : Gx} {A0 : Nat → Prop} {s U : State} (h : Ctx g A0 s) (hv : s.vm = U.vm) (hh : U.heap = s.heap) : Ctx g A0 U :=
  h.moved (h.1.same hv) (by rw [hv]; exact Vm.Alike.refl _) (fun i hi => vk_R.same hv.symm (h.2.2.2.2.1 i hi).1) (by rw [hh]; exact Nat.le_refl _) (fun _ _ _ => by rw [hh])
/-! the machine's frame: XK is what the clean machine's states mean -/
def AOK (A0 : Nat → Prop) (sw : Bool) (A1 A : Nat → Nat) : Prop := adr A0 A1 ∧ (A = A1 ∨ (sw = true ∧ A = fun k => A1 (sgm k)))
theorem sgm_lt {k : Nat} (h : k < 111) : sgm k < 111 := by
  unfold sgm; split
  · omega
  · split <;> omega
theorem sgm_sgm (k : Nat) : sgm (sgm k) = k := by
  unfold sgm
  by_cases h1 : 58 ≤ k ∧ k < 67
  · rw [if_pos h1, if_neg (by omega), if_pos (by omega)]; omega
  · rw [if_neg h1]
    by_cases h2 : 67 ≤ k ∧ k < 76
    · rw [if_pos h2, if_pos (by omega)]; omega
    · rw [if_neg h2, if_neg h1, if_neg h2]
theorem AOK.adr {A0 : Nat → Prop} {sw : Bool} {A1 A : Nat → Nat} (h : AOK A0 sw A1 A) : adr A0 A := by
  obtain ⟨h1, rfl | ⟨-, rfl⟩⟩ := h
  · exact h1
  · refine ⟨fun i j hi hj e => ?_, fun i hi => h1.2 _ (sgm_lt hi)⟩
    have := h1.1 _ _ (sgm_lt hi) (sgm_lt hj) e
    rw [← sgm_sgm i, this, sgm_sgm]
def XK (p : Program) (l : Launch) (e : Env) (R : Room) (s : State) (m : MethodId) (args : Array Value) (below : List Frame) (meth : Method) (c : Code) (cells slots : Nat) (Qf : State → Prop) (g : Gx) (A0 : Nat → Prop) (sw : Bool) (A1 : Nat → Nat) (nL : Nat) : Kt := fun pc ls st M =>
  ∀ (A : Nat → Nat) (H : Heap) (locs : List Loc) (lsA : Array Slot), AOK A0 sw A1 A → va_P g.D cls (wld g A M) H → va_S A0 s.heap H locs → lv_has lsA nL (prs g A ls) → ls.length = nL → okM g M → oks ls → oks st → W p l e R s m args below meth c H locs cells slots Qf (F0 m pc lsA (st.map (rv g A)))
theorem oks_get {ls : List Vl} (h : oks ls) (i : Nat) : okV (ls.getD i vU) := by
  rw [List.getD_eq_getElem?_getD]
  cases hq : ls[i]? with
  | none => exact trivial
  | some v => exact h v (List.mem_of_getElem? hq)
theorem oks_set {ls : List Vl} (h : oks ls) {i : Nat} {v : Vl} (hv : okV v) : oks (ls.set i v) := by
  intro w hw
  rcases List.mem_or_eq_of_mem_set hw with h1 | h1
  · exact h w h1
  · rw [h1]; exact hv
theorem oks_cons {v : Vl} {l : List Vl} (hv : okV v) (h : oks l) : oks (v :: l) := by
  intro w hw
  rcases List.mem_cons.mp hw with h1 | h1
  · rw [h1]; exact hv
  · exact h w h1
theorem oks_tl {v : Vl} {l : List Vl} (h : oks (v :: l)) : oks l := fun w hw => h w (List.mem_cons_of_mem _ hw)
theorem oks_hd {v : Vl} {l : List Vl} (h : oks (v :: l)) : okV v := h v List.mem_cons_self
