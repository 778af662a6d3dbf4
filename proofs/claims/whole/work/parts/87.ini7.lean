/-! constructors: Arrays.fill of the register -/
def fl9 (i : Nat) : Nat → Int32 := fun j => if j < i then Int32.ofInt (-9) else 0
theorem fl9_s {i : Nat} : upd (fl9 i) i (Int32.ofInt (-9)) = fl9 (i + 1) := by
  funext j
  unfold upd fl9
  by_cases h : j = i
  · rw [if_pos h, if_pos (by omega)]
  · rw [if_neg h]
    by_cases h2 : j < i
    · rw [if_pos h2, if_pos (by omega)]
    · rw [if_neg h2, if_neg (by omega)]
def yFl : MethodName := ⟨"java/util/Arrays", "fill", "([II)V"⟩
def PcF (g : Gx) (a sz : Nat) : Array Value → State → Prop := va_Pc [.ref a, .int (Int32.ofInt (-9))] (fun U => U.heap.size = sz ∧ va_K g.D cls (tys g) U ∧ va_P g.D cls [(a, .inl (gI g, 48, .inl (fun _ => 0)))] U.heap ∧ va_D (fun _ => True) [(a, .inl (gI g, 48, .inl (fun _ => 0)))])
def QcF (g : Gx) (a sz : Nat) : Array Value → State → Outcome → State → Prop := va_Qv (fun _ : Unit => True) (fun _ t => va_P g.D cls [(a, .inl (gI g, 48, .inl (fun _ => Int32.ofInt (-9))))] t.heap ∧ va_D (va_A [(a, .inl (gI g, 48, .inl (fun _ => 0)))] sz) [(a, .inl (gI g, 48, .inl (fun _ => Int32.ofInt (-9))))]) (va_A [(a, .inl (gI g, 48, .inl (fun _ => 0)))] sz)
set_option maxHeartbeats 8000000 in
set_option maxRecDepth 100000 in
theorem ini_fill (l : Launch) (g : Gx) (a sz : Nat) : Met l yFl [.code yFl prog_20_method_103_code 4 none] (rmI 0 0 0) (PcF g a sz) (QcF g a sz) 0 0 (va_A [(a, .inl (gI g, 48, .inl (fun _ => 0)))] sz) := by
  refine Met.ofW (cc := prog_20_method_103_code) (maxL := 4) (ret := none) (by decide +kernel) rfl ?_
  intro p e s m args below meth c s₁ B hml hv
  obtain ⟨rfl, hsz, hK, hP, hD0⟩ := hv
  have hx := B.exec
  have hb := B.bytes
  subst hsz
  have hD := hD0.self (sz := s.heap.size)
  have hS : va_S (va_A [(a, .inl (gI g, 48, .inl (fun _ => 0)))] s.heap.size) s.heap s.heap [] := va_S.rf
  have hl := lv_entry ([.ref a, .int (Int32.ofInt (-9))]) (n := 4) (Nat.le_of_ble_eq_true rfl)
  rw [lg_entry_eq]
  generalize (lg_sl ([.ref a, .int (Int32.ofInt (-9))]) ++ List.replicate (4 - (lg_sl ([.ref a, .int (Int32.ofInt (-9))])).length) Slot.unset).toArray = ls at hl ⊢
  have hl : lv_has ls 4 [(0, .ref a), (1, .int (Int32.ofInt (-9)))] := hl
  have loop : ∀ (k i : Nat) (ls : Array Slot) (H : Heap) (locs : List Loc), k + i = 48 → lv_has ls 4 [(2, .int (Int32.ofInt i)), (3, .int 48), (0, .ref a), (1, .int (Int32.ofInt (-9)))] → va_P g.D cls [(a, .inl (gI g, 48, .inl (fl9 i)))] H → va_D (va_A [(a, .inl (gI g, 48, .inl (fun _ => 0)))] s.heap.size) [(a, .inl (gI g, 48, .inl (fl9 i)))] → va_S (va_A [(a, .inl (gI g, 48, .inl (fun _ => 0)))] s.heap.size) s.heap H locs → W p l e (rmI 0 0 0) s m ([Value.ref a, .int (Int32.ofInt (-9))]).toArray below meth c H locs 0 0 (MQ below (QcF g a s.heap.size) ([Value.ref a, .int (Int32.ofInt (-9))]).toArray s 0 0 (va_A [(a, .inl (gI g, 48, .inl (fun _ => 0)))] s.heap.size)) (F0 m 5 ls []) := by
    intro k
    induction k with
    | zero =>
      intro i ls H locs hk hl hP hD hS
      have e : i = 48 := by omega
      subst e
      refine lv_iload_n hx hb (k := 2) (by decide +kernel) rfl (lv_at hl 0 rfl) ?_
      refine lv_iload_n hx hb (k := 3) (by decide +kernel) rfl (lv_at hl 1 rfl) ?_
      refine lv_icmp_ge hx hb (off := 13) (tgt := 20) (by decide +kernel) rfl (fun _ => ?_) (fun h => absurd (by decide +kernel) h)
      exact W.vret hx hb B.returns (fun t ht hW => ⟨⟨(), rfl, trivial, by
        rw [ht]
        exact P_re (k := 0) hP rfl (show arrV (gI g) 48 (fun j => Value.int (fl9 48 j)) = arrV (gI g) 48 (fun _ => Value.int (Int32.ofInt (-9))) from arrV_ext (fun j hj => by
          show Value.int (fl9 48 j) = Value.int (Int32.ofInt (-9))
          unfold fl9
          rw [if_pos hj])), ⟨fun i j p q hi hj _ => by
          have h1 : i < 1 := (List.getElem?_eq_some_iff.mp hi).1
          have h2 : j < 1 := (List.getElem?_eq_some_iff.mp hj).1
          omega, fun k q hq => by
          have h1 : k < 1 := (List.getElem?_eq_some_iff.mp hq).1
          have e1 : k = 0 := by omega
          subst e1
          have e2 : (a, (.inl (gI g, 48, .inl (fun _ => Int32.ofInt (-9))) : va_E)) = q := Option.some.inj hq
          rw [← e2]
          exact hD.2 0 (a, .inl (gI g, 48, .inl (fl9 48))) rfl⟩⟩, hS.F ht⟩) hS.2.2 (by decide +kernel)
    | succ k ih =>
      intro i ls H locs hk hl hP hD hS
      have hi : inI (i : Int) := by unfold inI; omega
      refine lv_iload_n hx hb (k := 2) (by decide +kernel) rfl (lv_at hl 0 rfl) ?_
      refine lv_iload_n hx hb (k := 3) (by decide +kernel) rfl (lv_at hl 1 rfl) ?_
      refine lv_icmp_ge hx hb (off := 13) (tgt := 20) (by decide +kernel) rfl (fun h => ?_) (fun _ => ?_)
      · have := (leI (x := 48) (y := (i : Int)) (by unfold inI; omega) hi).mp h
        omega
      · refine lv_aload_n hx hb (k := 0) (by decide +kernel) rfl (lv_at hl 2 rfl) ?_
        refine lv_iload_n hx hb (k := 2) (by decide +kernel) rfl (lv_at hl 0 rfl) ?_
        refine lv_iload_n hx hb (k := 1) (by decide +kernel) rfl (lv_at hl 3 rfl) ?_
        refine va_iast hx hb hK hP hD hS 0 0 rfl rfl (inN hi (by omega) (by omega)) (by decide +kernel) (fun H1 locs1 hP1 hD1 hS1 => ?_)
        rw [clN hi (by omega), show ((i : Int)).toNat = i by omega, fl9_s] at hP1 hD1
        refine lv_iinc hx hb (i := 2) (n := 1) (by decide +kernel) hl (k := 0) rfl rfl (by decide) rfl (fun ls1 hl1 => ?_)
        refine lv_goto hx hb (off := -12) (tgt := 5) (by decide +kernel) rfl ?_
        refine ih (i + 1) ls1 H1 locs1 (by omega) ?_ hP1 hD1 hS1
        have e : Int32.ofInt (i : Int) + Int32.ofInt 1 = Int32.ofInt ((i + 1 : Nat) : Int) := by
          rw [← Int32.ofInt_add]; rfl
        rw [e] at hl1
        exact hl1
  refine lv_iconst hx hb (n := 0) (v := Int32.ofInt ((0 : Nat) : Int)) (by decide +kernel) rfl ?_
  refine lv_istore_n hx hb (k := 2) (by decide +kernel) rfl hl (by decide) rfl (fun ls1 hl1 => ?_)
  refine lv_aload_n hx hb (k := 0) (by decide +kernel) rfl (lv_at hl1 1 rfl) ?_
  refine va_alen hx hb hK hP 0 0 rfl (ty := .int) rfl (v := 48) rfl (by decide +kernel) ?_
  refine lv_istore_n hx hb (k := 3) (by decide +kernel) rfl hl1 (by decide) rfl (fun ls2 hl2 => ?_)
  have hl3 := lv_sub hl2 [1, 0, 2, 3] rfl
  have e0 : fl9 0 = fun _ => 0 := by
    funext j
    exact if_neg (by omega)
  exact loop 48 0 ls2 s.heap [] rfl hl3 (by rw [e0]; exact hP) (by rw [e0]; exact hD) hS
