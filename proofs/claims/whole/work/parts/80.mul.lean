/-! a row of rows is made: the instruction multianewarray (two dimensions, ints), out of its meaning in the model -/
def mlO (cA : ClassId) (N h i : Nat) : Cell := arrV cA N (fun j => if j < i then .ref (h + 1 + j) else .null)
def mlI (comp : ClassId) (K : Nat) : Cell := arrV comp K (fun _ => .int 0)
/-- the state behind the first i rows -/
def mlS (U : State) (cA comp : ClassId) (N K : Nat) : Nat → State
  | 0 => U.pushCell (mlO cA N U.heap.size 0)
  | i + 1 => ((mlS U cA comp N K i).pushCell (mlI comp K)).setCell U.heap.size (mlO cA N U.heap.size (i + 1))
theorem mlO_s {cA : ClassId} {N h i : Nat} : (mlO cA N h i).setSlot i (.ref (h + 1 + i)) = mlO cA N h (i + 1) := by
  unfold mlO
  rw [arrV_store]
  congr 1
  funext j
  show (if j = i then Value.ref (h + 1 + i) else if j < i then Value.ref (h + 1 + j) else Value.null) = if j < i + 1 then Value.ref (h + 1 + j) else Value.null
  by_cases e : j = i
  · rw [if_pos e, if_pos (by omega), e]
  · rw [if_neg e]
    by_cases e2 : j < i
    · rw [if_pos e2, if_pos (by omega)]
    · rw [if_neg e2, if_neg (by omega)]
theorem mlO_n {cA : ClassId} {N h i : Nat} : (mlO cA N h i).slots.size = N := arrV_size _ _ _
theorem mlI_n {comp : ClassId} {K : Nat} : (mlI comp K).slots.size = K := arrV_size _ _ _
theorem mlS_f (U : State) (cA comp : ClassId) (N K : Nat) : ∀ i : Nat, (mlS U cA comp N K i).heap.size = U.heap.size + 1 + i ∧ (mlS U cA comp N K i).heap[U.heap.size]? = some (mlO cA N U.heap.size i) ∧ (∀ a : Nat, a < U.heap.size → (mlS U cA comp N K i).heap[a]? = U.heap[a]?) ∧ ∀ j : Nat, j < i → (mlS U cA comp N K i).heap[U.heap.size + 1 + j]? = some (mlI comp K)
  | 0 => by
    have e : (mlS U cA comp N K 0).heap = U.heap.push (mlO cA N U.heap.size 0) := rfl
    rw [e]
    refine ⟨by rw [Array.size_push], by rw [Array.getElem?_push, if_pos rfl], fun a h => ?_, fun j h => absurd h (Nat.not_lt_zero j)⟩
    rw [Array.getElem?_push, if_neg (by omega)]
  | i + 1 => by
    obtain ⟨h1, h2, h3, h4⟩ := mlS_f U cA comp N K i
    have e : (mlS U cA comp N K (i + 1)).heap = ((mlS U cA comp N K i).heap.push (mlI comp K)).setIfInBounds U.heap.size (mlO cA N U.heap.size (i + 1)) := rfl
    rw [e]
    refine ⟨by rw [Array.size_setIfInBounds, Array.size_push, h1]; omega, ?_, fun a h => ?_, fun j h => ?_⟩
    · rw [Array.getElem?_setIfInBounds, if_pos rfl, if_pos (by rw [Array.size_push, h1]; omega)]
    · rw [Array.getElem?_setIfInBounds, if_neg (by omega), Array.getElem?_push, if_neg (by omega)]
      exact h3 a h
    · rw [Array.getElem?_setIfInBounds, if_neg (by omega), Array.getElem?_push]
      by_cases e2 : j = i
      · rw [if_pos (by omega)]
      · rw [if_neg (by omega)]
        exact h4 j (by omega)
theorem mlS_k (U : State) (cA comp : ClassId) (N K : Nat) : ∀ i : Nat, (mlS U cA comp N K i).vm = U.vm ∧ (mlS U cA comp N K i).slotsUsed = U.slotsUsed + N + i * K ∧ (mlS U cA comp N K i).topJava? = U.topJava?
  | 0 => by
    refine ⟨rfl, ?_, rfl⟩
    show U.slotsUsed + (mlO cA N U.heap.size 0).slots.size = _
    rw [mlO_n, Nat.zero_mul]; rfl
  | i + 1 => by
    obtain ⟨h1, h2, h3⟩ := mlS_k U cA comp N K i
    refine ⟨h1, ?_, h3⟩
    show (mlS U cA comp N K i).slotsUsed + (mlI comp K).slots.size = _
    rw [mlI_n, h2, Nat.succ_mul]; omega
theorem mlS_t (U : State) (f : JFrame) (cA comp : ClassId) (N K : Nat) : ∀ i : Nat, mlS (U.setTop f) cA comp N K i = (mlS U cA comp N K i).setTop f
  | 0 => rfl
  | i + 1 => by
    show ((mlS (U.setTop f) cA comp N K i).pushCell (mlI comp K)).setCell U.heap.size (mlO cA N U.heap.size (i + 1)) = _
    rw [mlS_t U f cA comp N K i]
    rfl
theorem mlS_X {p : Program} {l : Launch} {e : Env} {R : Room} {s : State} {m : MethodId} {args : Array Value} {below : List Frame} {meth : Method} {c : Code} {U : State} {locs : List Loc} {cells slots : Nat} (X : Stand p l e R s m args below meth c U locs cells slots) (cA comp : ClassId) (N K : Nat) : ∀ i : Nat, Stand p l e R s m args below meth c (mlS U cA comp N K i) (locs ++ (List.range i).map fun j => (⟨U.heap.size, j⟩ : Loc)) (cells + 1 + i) (slots + N + i * K)
  | 0 => by
    have h := X.pushed (mlO cA N U.heap.size 0)
    rw [mlO_n] at h
    have e1 : locs ++ (List.range 0).map (fun j => (⟨U.heap.size, j⟩ : Loc)) = locs := List.append_nil _
    rw [e1, Nat.zero_mul]
    exact h
  | i + 1 => by
    have Y := (mlS_X X cA comp N K i).pushed (mlI comp K)
    have f := mlS_f U cA comp N K i
    have hc : ((mlS U cA comp N K i).pushCell (mlI comp K)).heap[U.heap.size]? = some (mlO cA N U.heap.size i) := by
      show ((mlS U cA comp N K i).heap.push (mlI comp K))[U.heap.size]? = _
      rw [Array.getElem?_push, if_neg (by have := f.1; omega)]
      exact f.2.1
    have Z := Y.stored hc i (.ref (U.heap.size + 1 + i))
    rw [mlO_s, mlI_n] at Z
    have e1 : locs ++ (List.range (i + 1)).map (fun j => (⟨U.heap.size, j⟩ : Loc)) = (locs ++ (List.range i).map (fun j => (⟨U.heap.size, j⟩ : Loc))) ++ [⟨U.heap.size, i⟩] := by
      rw [List.range_succ, List.map_append, List.append_assoc]; rfl
    have e2 : slots + N + (i + 1) * K = slots + N + i * K + K := by rw [Nat.succ_mul]; omega
    rw [e1, e2]
    exact Z
section MLW
variable {E : CtlPost} {e : Env} {d : Bool} {acts : List Action} {s : State}
theorem ml_one {comp cc : ClassId} {kc : Class} {k : Int32} {K : Nat} (hkc : s.vm.classes[comp]? = some kc) (hkind : kc.kind = .array cc .int) (hk : ¬ k < 0) (hK : k.toNatClampNeg = K) (hlim : ¬ K > e.platform.arrayLengthLimit) (hheap : ¬ K * componentBytes .int > e.platform.maxHeapBytes) (hcells : s.heap.size < e.platform.maxCells) (hslots : s.slotsUsed + K ≤ e.platform.maxSlots) {Q : Addr → Pre} (hq : ∀ acts', Q s.heap.size d acts' (s.pushCell (mlI comp K))) : wp (Jvm.Op.multianewarray.make comp [k]) Q E e d acts s := by
  subst hK
  unfold Jvm.Op.multianewarray.make
  simp only [wp_bind', W.ite, hk, if_false, wp_pure', W.theClass, hkc, Option.some.injEq, exists_eq_left', hkind]
  refine W.newArray_of hkc hkind hlim hheap hcells hslots rfl (fun acts' => ?_)
  have h := hq acts'
  unfold mlI at h
  rw [← arrV_new] at h
  exact h
theorem ml_two {cA comp cc : ClassId} {kA kc : Class} {n k : Int32} {N K : Nat} (hkA : s.vm.classes[cA]? = some kA) (hkindA : kA.kind = .array comp (.array .int)) (hkc : s.vm.classes[comp]? = some kc) (hkind : kc.kind = .array cc .int) (hn : ¬ n < 0) (hn0 : (n == 0) = false) (hk : ¬ k < 0) (hN : n.toNatClampNeg = N) (hK : k.toNatClampNeg = K) (hl1 : ¬ N > e.platform.arrayLengthLimit) (hh1 : ¬ N * componentBytes (.array .int) > e.platform.maxHeapBytes) (hl2 : ¬ K > e.platform.arrayLengthLimit) (hh2 : ¬ K * componentBytes .int > e.platform.maxHeapBytes) (hcells : s.heap.size + 1 + N ≤ e.platform.maxCells) (hslots : s.slotsUsed + N + N * K ≤ e.platform.maxSlots) {Q : Addr → Pre} (hq : ∀ d' acts', Q s.heap.size d' acts' (mlS s cA comp N K N)) : wp (Jvm.Op.multianewarray.make cA [n, k]) Q E e d acts s := by
  subst hN
  unfold Jvm.Op.multianewarray.make
  simp only [wp_bind', W.ite, hn, if_false, wp_pure', W.theClass, hkA, Option.some.injEq, exists_eq_left', hkindA]
  refine W.newArray_of hkA hkindA hl1 hh1 (by omega) (by omega) rfl (fun acts1 => ?_)
  simp only [wp_bind', hn0, Bool.false_eq_true, if_false, wp_pure', Std.Legacy.Range.forIn_eq_forIn_range']
  refine wp_forIn_inv (fun l S => ∃ i : Nat, i ≤ n.toNatClampNeg ∧ l = List.range' i (n.toNatClampNeg - i) ∧ S = mlS s cA comp n.toNatClampNeg K i) _ _ ⟨0, Nat.zero_le _, ?_, ?_⟩ ?_ ?_
  · simp [Std.Legacy.Range.size]
  · show _ = s.pushCell (mlO cA n.toNatClampNeg s.heap.size 0)
    have e0 : mlO cA n.toNatClampNeg s.heap.size 0 = arrV cA n.toNatClampNeg (fun _ => .null) := by
      unfold mlO
      congr 1
    rw [e0, ← arrV_new]
  · rintro x rest S d2 acts2 Q2 ⟨i, hi, hl, rfl⟩ hq2
    have hlt : i < n.toNatClampNeg := by
      rcases Nat.lt_or_ge i n.toNatClampNeg with h | h
      · exact h
      · rw [show n.toNatClampNeg - i = 0 by omega] at hl
        cases hl
    rw [show n.toNatClampNeg - i = (n.toNatClampNeg - (i + 1)) + 1 by omega, List.range'_succ] at hl
    injection hl with hx hr
    subst hx
    obtain ⟨v1, v2, -⟩ := mlS_k s cA comp n.toNatClampNeg K x
    obtain ⟨f1, f2, -⟩ := mlS_f s cA comp n.toNatClampNeg K x
    have hmul : x * K + K ≤ n.toNatClampNeg * K := by
      rw [← Nat.succ_mul]
      exact Nat.mul_le_mul_right K hlt
    simp only [wp_bind', wp_pure']
    refine ml_one (s := mlS s cA comp n.toNatClampNeg K x) (kc := kc) (cc := cc) (K := K) (by rw [v1]; exact hkc) hkind hk hK hl2 hh2 (by omega) (by omega) (fun acts3 => ?_)
    simp only [wp_bind', wp_pure']
    refine (W.writeLoc _ _ _ _).mpr ⟨mlO cA n.toNatClampNeg s.heap.size x, ?_, (fun h => (by cases h)), (by rw [mlO_n]; exact hlt), ?_, ?_⟩
    · show ((mlS s cA comp n.toNatClampNeg K x).heap.push (mlI comp K))[s.heap.size]? = _
      rw [Array.getElem?_push, if_neg (by omega)]
      exact f2
    · have hvm : (mlS s cA comp n.toNatClampNeg K x).vm.classes[cA]? = some kA := by
        rw [v1]; exact hkA
      have hcls : (mlO cA n.toNatClampNeg s.heap.size x).cls = cA := rfl
      have hv0 : (mlO cA n.toNatClampNeg s.heap.size x).vm = .none := rfl
      rw [hcls, hv0]
      first
        | (simp [State.fitsSlot, State.slotType?, hvm, hkindA]; done)
        | (simp [State.fitsSlot, State.slotType?, hvm, hkindA]; rfl)
    · rw [f1, mlO_s]
      exact hq2 _ _ _ ⟨x + 1, hlt, hr, rfl⟩
  · rintro S d2 acts2 ⟨i, hi, hl, rfl⟩
    have e1 : i = n.toNatClampNeg := by
      have h := congrArg List.length hl
      rw [List.length_range', List.length_nil] at h
      omega
    rw [e1]
    exact hq _ _
theorem ml_sem {f : JFrame} {index : Nat} {cA comp cc : ClassId} {kA kc : Class} {n k : Int32} {N K : Nat} {rest : List Value} (hs : s.topJava?.isSome) (hr : s.vm.classReady f.method.cls index cA) (hst : f.stack = .int k :: .int n :: rest) (hkA : s.vm.classes[cA]? = some kA) (hkindA : kA.kind = .array comp (.array .int)) (hkc : s.vm.classes[comp]? = some kc) (hkind : kc.kind = .array cc .int) (hn : ¬ n < 0) (hn0 : (n == 0) = false) (hk : ¬ k < 0) (hN : n.toNatClampNeg = N) (hK : k.toNatClampNeg = K) (hl1 : ¬ N > e.platform.arrayLengthLimit) (hh1 : ¬ N * componentBytes (.array .int) > e.platform.maxHeapBytes) (hl2 : ¬ K > e.platform.arrayLengthLimit) (hh2 : ¬ K * componentBytes .int > e.platform.maxHeapBytes) (hcells : s.heap.size + 1 + N ≤ e.platform.maxCells) (hslots : s.slotsUsed + N + N * K ≤ e.platform.maxSlots) {Q : Unit → Pre} (hq : ∀ acts', Q () true acts' ((mlS s cA comp N K N).setTop { f with stack := .ref s.heap.size :: rest })) : wp (Jvm.Op.multianewarray.sem index 2) Q E e d acts (s.setTop f) := by
  unfold Jvm.Op.multianewarray.sem
  simp only [wp_bind', W.resolveClassAt_ready (State.method?_setTop f hs) hr]
  refine (popN_top (args := [.int n, .int k]) hs (rest := rest) (by rw [hst]; rfl)).mpr ?_
  simp only [List.mapM_cons, List.mapM_nil, wp_bind', wp_pure']
  refine ml_two (s := s.setTop { f with stack := rest }) (K := K) hkA hkindA hkc hkind hn hn0 hk hN hK hl1 hh1 hl2 hh2 hcells hslots (fun d' acts' => ?_)
  rw [mlS_t]
  refine (W.pushRef (d := d') (s := (mlS s cA comp N K N).setTop { f with stack := rest }) _).mpr ⟨_, State.topJava?_setTop' _ (by rw [(mlS_k s cA comp N K N).2.2]; exact hs), ?_⟩
  rw [State.setTop_setTop]
  exact hq _
end MLW
theorem W_multi {p : Program} {l : Launch} {e : Env} {R : Room} {s : State} {m : MethodId} {args : Array Value} {below : List Frame} {meth : Method} {c : Code} {H : Heap} {locs : List Loc} {cells slots : Nat} {Q : State → Prop} {cc : ByteArray} (hexec : p.tables.exec = Jvm.exec) (hb : c.code = cc) {own : String} {index : Nat} (hown : s.vm.findClass own = some m.cls) (hclink : (Cond.classLink own index ("[" ++ (FieldType.array .int).toString)).before args s = true) (hover : (Cond.arrayOver (.array .int)).before args s = true) (harr : (Cond.arrayClass .int).before args s = true) {pc : Nat} (hdg : decode cc pc = .ok (.multianewarray index 2, 4)) {n k : Int32} {N K : Nat} (hn : ¬ n < 0) (hn0 : (n == 0) = false) (hk : ¬ k < 0) (hN : n.toNatClampNeg = N) (hK : k.toNatClampNeg = K) (hb1 : N * 4 ≤ 536870912) (hb2 : K * 4 ≤ 536870912) (hcells : cells + (1 + N) ≤ R.cells) (hslots : slots + (N + N * K) ≤ R.slots) {ls : Array Slot} {rest : List Value} (kk : ∀ (H1 : Heap) (cA comp : ClassId), s.vm.findClass ("[" ++ (FieldType.array .int).toString) = some cA → s.vm.findClass (FieldType.array .int).toString = some comp → H1.size = H.size + 1 + N → (∀ a : Nat, a < H.size → H1[a]? = H[a]?) → H1[H.size]? = some (mlO cA N H.size N) → (∀ j : Nat, j < N → H1[H.size + 1 + j]? = some (mlI comp K)) → W p l e R s m args below meth c H1 (locs ++ (List.range N).map fun j => ⟨H.size, j⟩) (cells + 1 + N) (slots + N + N * K) Q (F0 m (pc + 4) ls (.ref H.size :: rest))) : W p l e R s m args below meth c H locs cells slots Q (F0 m pc ls (.int k :: .int n :: rest)) := by
  intro T hT X
  subst hT; subst hb
  have hpl : e.platform.magicAccessors = ({} : Platform).magicAccessors := by rw [X.admits.platform]
  obtain ⟨comp, cA, kA, hcomp, -, hkA, hkindA, hnameA⟩ := arrayOverA_spec hover
  obtain ⟨cI, kI, pI, hnI, hkI, hkindI⟩ := Cond.arrayClass_spec harr
  have eI : cI = comp := Option.some.inj (hnI.symm.trans hcomp)
  subst eI
  obtain ⟨cL, hfL, hcl⟩ := Cond.classLink_spec hown hclink e.platform hpl
  have eL : cL = cA := Option.some.inj (hfL.symm.trans hnameA)
  subst eL
  obtain ⟨hg1, hwarm, hready⟩ := State.classEntry (e := e) X.warmed hcl
  generalize T.vm.noted m.cls index (.cls cL) = vm1 at hg1 hwarm hready
  have hal : s.vm.Alike vm1 := hwarm.alike
  obtain ⟨kA1, hkA1, heA⟩ := hal.2.2 _ _ hkA
  obtain ⟨kI1, hkI1, heI⟩ := hal.2.2 _ _ hkI
  have hkindA1 : kA1.kind = .array cI (.array .int) := by rw [heA]; exact hkindA
  have hkindI1 : kI1.kind = .array pI .int := by rw [heI]; exact hkindI
  have X1 := mlS_X (X.noted hwarm) cL cI N K N
  obtain ⟨r1, r2⟩ := X.roomAbove hcells hslots
  obtain ⟨f1, f2, f3, f4⟩ := mlS_f (T.setVm vm1) cL cI N K N
  obtain ⟨t, a1, b1⟩ := kk _ cL cI hnameA hcomp f1 f3 f2 f4 (mlS (T.setVm vm1) cL cI N K N) rfl X1
  refine ⟨t, Steps.instr (f := F0 m pc ls (.int k :: .int n :: rest)) X.here ?_, b1⟩
  have hd2 : decode c.code (F0 m pc ls (.int k :: .int n :: rest)).pc = .ok (.multianewarray index 2, 4) := hdg
  rw [hd2, hexec]
  show wp (Jvm.Op.multianewarray.sem index 2) _ _ e false [] (T.setTop (F0 m pc ls (.int k :: .int n :: rest)))
  have cold : ∀ (Q0 : Unit → Pre) (E0 : CtlPost), wp (Jvm.Op.multianewarray.sem index 2) Q0 E0 e false [] ((T.setVm vm1).setTop (F0 m pc ls (.int k :: .int n :: rest))) → wp (Jvm.Op.multianewarray.sem index 2) Q0 E0 e false [] (T.setTop (F0 m pc ls (.int k :: .int n :: rest))) := by
    intro Q0 E0 h
    unfold Jvm.Op.multianewarray.sem at h ⊢
    simp only [wp_bind'] at h ⊢
    exact (W.resolveClassAt_transfer (s := T.setTop (F0 m pc ls (.int k :: .int n :: rest))) (State.method?_setTop _ X.here.top) hg1 hready).mpr h
  refine cold _ _ (ml_sem (s := T.setVm vm1) (f := F0 m pc ls (.int k :: .int n :: rest)) (rest := rest) (K := K) X.here.top hready rfl hkA1 hkindA1 hkI1 hkindI1 hn hn0 hk hN hK ?_ ?_ ?_ ?_ ?_ ?_ (fun acts' => ?_))
  · rw [Launch.admits_arrayLengthLimit X.admits]; omega
  · rw [Launch.admits_maxHeapBytes X.admits]
    show ¬ N * 4 > 536870912
    omega
  · rw [Launch.admits_arrayLengthLimit X.admits]; omega
  · rw [Launch.admits_maxHeapBytes X.admits]
    show ¬ K * 4 > 536870912
    omega
  · show T.heap.size + 1 + N ≤ _
    omega
  · show T.slotsUsed + N + N * K ≤ _
    omega
  · intro acts2
    rw [afterInstr_ok]
    exact a1
