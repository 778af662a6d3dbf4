/-! what holds at the law's entry -/
theorem Wd_of {s : State} {a0 : Array Value} (h : ∀ w ∈ lw_tbl, w.before a0 s = true) : Wd s := by
  intro w hw hk a
  have h0 := h w hw
  by_cases hg : goodWord w = true
  · exact word_at (args := a0) (State.WarmedH.refl s) (good_of_word hg) h0
  · have hn : isNest w = true := by simpa [wKeep, hg] using hk
    cases w <;> first
      | (simp [isNest] at hn; done)
      | exact va_tabs rfl rfl h0
theorem cls_inst : ∀ ci, ci < 12 → Cond.instantiable (clsR ci).1 (clsR ci).2.2 ∈ lw_tbl := by
  intro ci h
  match ci, h with
  | 0, _ => exact lw_at (pos := 79) (by decide +kernel)
  | 1, _ => exact lw_at (pos := 87) (by decide +kernel)
  | 2, _ => exact lw_at (pos := 129) (by decide +kernel)
  | 3, _ => exact lw_at (pos := 229) (by decide +kernel)
  | 4, _ => exact lw_at (pos := 191) (by decide +kernel)
  | 5, _ => exact lw_at (pos := 249) (by decide +kernel)
  | 6, _ => exact lw_at (pos := 358) (by decide +kernel)
  | 7, _ => exact lw_at (pos := 289) (by decide +kernel)
  | 8, _ => exact lw_at (pos := 336) (by decide +kernel)
  | 9, _ => exact lw_at (pos := 144) (by decide +kernel)
  | 10, _ => exact lw_at (pos := 299) (by decide +kernel)
  | 11, _ => exact lw_at (pos := 966) (by decide +kernel)
theorem kn0 {s : State} {a0 : Array Value} (hts : ∀ w ∈ lw_tbl, w.before a0 s = true) : ∃ D : va_G, ∀ (c : Nat) (q : vw_C), cls[c]? = some q → u_Kn s q.1 q.2.1 q.2.2 (D.1 c) (D.2 c) := by
  have hW := (Wd_of hts).hts a0
  have h0 : ∀ ci : Nat, ∃ q : ClassId × (Nat → Nat), ci < 12 → u_Kn s (clsR ci).1 (clsR ci).2.1 (clsR ci).2.2 q.1 q.2 := by
    intro ci
    by_cases h : ci < 12
    · obtain ⟨c, i, hk⟩ := u_known (C := (clsR ci).1) (T := (clsR ci).2.1) (N := (clsR ci).2.2) (n := (clsR ci).2.2) hW (cls_ws ci h) (hts _ (cls_inst ci h))
      exact ⟨(c, i), fun _ => hk⟩
    · obtain ⟨c, i, hk⟩ := u_known (C := (clsR 0).1) (T := (clsR 0).2.1) (N := (clsR 0).2.2) (n := (clsR 0).2.2) hW (cls_ws 0 (by decide)) (hts _ (cls_inst 0 (by decide)))
      exact ⟨(c, i), fun h2 => absurd h2 h⟩
  refine ⟨(fun c => (Classical.choose (h0 c)).1, fun c => (Classical.choose (h0 c)).2), fun c q hq => ?_⟩
  have hc : c < 12 := (List.getElem?_eq_some_iff.mp hq).1
  rw [cls_get c hc] at hq
  have e := Option.some.inj hq
  rw [← e]
  exact Classical.choose_spec (h0 c) hc
theorem va_T_f {ty : FieldType} {t N : Nat} {f f' : Nat → Value} {A : Nat → Prop} {U : State} {H : Heap} (h : va_T ty t N f A U H) (e : ∀ j, j < N → f j = f' j) : va_T ty t N f' A U H := by
  obtain ⟨cell, h1, h2, h3, h4, h5, h6, h7⟩ := h
  exact ⟨cell, h1, h2, h3, h4, h5, fun j hj => by rw [← e j hj]; exact h6 j hj, h7⟩
def gvC : Jvm.Cond := Jvm.Cond.and given_1 narrow_1
def tmS (i : Nat) : Jvm.Term := .string "ChildTrains$OrderReader" (strL.getD i (0, "")).1
def lnS : List Nat := [3, 1, 3, 3, 1, 5, 2, 1]
def byS : List (List Int32) := [[109, 99, 112], [58], [45, 61, 43], [108, 118, 102], [33], [115, 97, 107, 104, 119], [60, 62], [59]]
theorem gv_least : ∀ j, j < 5 → Jvm.Cond.eq (.elem (.static sPl "LEAST" "[I") (.int (Int32.ofNat j))) (.int (Int32.ofInt ((tbL.getD 0 []).getD j 0))) ∈ flatC gvC := by decide +kernel
theorem gv_most : ∀ j, j < 5 → Jvm.Cond.eq (.elem (.static sPl "MOST" "[I") (.int (Int32.ofNat j))) (.int (Int32.ofInt ((tbL.getD 1 []).getD j 0))) ∈ flatC gvC := by decide +kernel
theorem gv_mv : ∀ j, j < 5 → Jvm.Cond.eq (.elem (.static sOr "MOST_VALUE" "[I") (.int (Int32.ofNat j))) (.int (Int32.ofInt ((tbL.getD 10 []).getD j 0))) ∈ flatC gvC := by decide +kernel
theorem gv_ex : ∀ i, i < 8 → Jvm.Cond.exactly (tmS i) "java/lang/String" ∈ flatC gvC := by decide +kernel
theorem gv_co : ∀ i, i < 8 → Jvm.Cond.eq (.field (tmS i) "java/lang/String" "coder" "B") (.int 0) ∈ flatC gvC := by decide +kernel
theorem gv_ar : ∀ i, i < 8 → Jvm.Cond.arrayOf (.field (tmS i) "java/lang/String" "value" "[B") .byte ∈ flatC gvC := by decide +kernel
theorem gv_le : ∀ i, i < 8 → Jvm.Cond.eq (.length (.field (tmS i) "java/lang/String" "value" "[B")) (.int (Int32.ofNat (lnS.getD i 0))) ∈ flatC gvC := by decide +kernel
theorem gv_el : ∀ i, i < 8 → ∀ j, j < lnS.getD i 0 → Jvm.Cond.eq (.elem (.field (tmS i) "java/lang/String" "value" "[B") (.int (Int32.ofNat j))) (.int ((byS.getD i []).getD j 0)) ∈ flatC gvC := by decide +kernel
theorem gv_ne : ∀ i, i < 8 → ∀ j, j < 8 → i ≠ j → Jvm.Cond.not (Jvm.Cond.eq (tmS i) (tmS j)) ∈ flatC gvC ∨ Jvm.Cond.not (Jvm.Cond.eq (tmS j) (tmS i)) ∈ flatC gvC := by decide +kernel
theorem st_tb : ∀ i, i < 8 → lnS.getD i 0 = lnT (2 + i) ∧ ∀ j, j < lnS.getD i 0 → (byS.getD i []).getD j 0 = Int32.ofInt ((tbL.getD (2 + i) []).getD j 0) := by decide +kernel
theorem sr_in : ∀ i, i < 8 → Jvm.Cond.stringRef "ChildTrains$OrderReader" (strL.getD i (0, "")).1 (strL.getD i (0, "")).2 ∈ lw_tbl := by
  intro i h
  match i, h with
  | 0, _ => exact lw_at (pos := 714) (by decide +kernel)
  | 1, _ => exact lw_at (pos := 777) (by decide +kernel)
  | 2, _ => exact lw_at (pos := 778) (by decide +kernel)
  | 3, _ => exact lw_at (pos := 779) (by decide +kernel)
  | 4, _ => exact lw_at (pos := 788) (by decide +kernel)
  | 5, _ => exact lw_at (pos := 789) (by decide +kernel)
  | 6, _ => exact lw_at (pos := 790) (by decide +kernel)
  | 7, _ => exact lw_at (pos := 793) (by decide +kernel)
theorem ref_cat {v : Value} (h : v.isRef = true) : v.category = 1 := by
  cases v <;> first
    | rfl
    | (simp [Value.isRef] at h; done)
theorem ctx0 {s : State} {b L : Nat} {xs : Nat → Int32} (hL : L ≤ 3584) (hts : ∀ w ∈ lw_tbl, w.before #[Value.ref b] s = true) (hX : va_X b L xs s s.heap) (hbl : b < s.heap.size) (hgv : (Jvm.Cond.and given_1 narrow_1).before #[Value.ref b] s = true) : ∃ g : Gx, Ctx g (fun q => s.heap.size ≤ q) s ∧ Cl3 g s ∧ gB g = b ∧ gL g = (L : Int) ∧ (∀ j, inI (gF g j)) := by
  have hs := flat_of_before gvC hgv
  have hA : ∀ a : Nat, a < s.heap.size → ¬ (fun q : Nat => s.heap.size ≤ q) a := fun a h => Nat.not_le.mpr h
  obtain ⟨D, hD⟩ := kn0 hts
  obtain ⟨cI, kI, pI, i1, i2, i3⟩ := Cond.arrayClass_spec (hts (.arrayClass .int) (lw_at (pos := 126) (by decide +kernel)))
  obtain ⟨cJ, kJ, pJ, j1, j2, j3⟩ := Cond.arrayClass_spec (hts (.arrayClass .long) (lw_at (pos := 127) (by decide +kernel)))
  obtain ⟨cZ, kZ, pZ, z1, z2, z3⟩ := Cond.arrayClass_spec (hts (.arrayClass .boolean) (lw_at (pos := 402) (by decide +kernel)))
  have hov := hts (.arrayOver (.array .int)) (lw_at (pos := 150) (by decide +kernel))
  obtain ⟨pM, cM, kM, m1, m2, m3, m4, m5⟩ := arrayOverA_spec hov
  obtain ⟨t0, e0, T0⟩ := va_Tof (tm := .static sPl "LEAST" "[I") (ty := .int) (N := 5) (f := vlT 0) (A := fun q : Nat => s.heap.size ≤ q) (by decide) (hs (.arrayOf (.static sPl "LEAST" "[I") .int) (by decide +kernel)) (va_eqt (hs (.eq (.length (.static sPl "LEAST" "[I")) (.int (Int32.ofNat 5))) (by decide +kernel))) (fun j hj => va_eqt (hs _ (gv_least j hj))) hA
  obtain ⟨t1, e1, T1⟩ := va_Tof (tm := .static sPl "MOST" "[I") (ty := .int) (N := 5) (f := vlT 1) (A := fun q : Nat => s.heap.size ≤ q) (by decide) (hs (.arrayOf (.static sPl "MOST" "[I") .int) (by decide +kernel)) (va_eqt (hs (.eq (.length (.static sPl "MOST" "[I")) (.int (Int32.ofNat 5))) (by decide +kernel))) (fun j hj => va_eqt (hs _ (gv_most j hj))) hA
  obtain ⟨t2, e2, T2⟩ := va_Tof (tm := .static sOr "MOST_VALUE" "[I") (ty := .int) (N := 5) (f := vlT 10) (A := fun q : Nat => s.heap.size ≤ q) (by decide) (hs (.arrayOf (.static sOr "MOST_VALUE" "[I") .int) (by decide +kernel)) (va_eqt (hs (.eq (.length (.static sOr "MOST_VALUE" "[I")) (.int (Int32.ofNat 5))) (by decide +kernel))) (fun j hj => va_eqt (hs _ (gv_mv j hj))) hA
  have ec : (Term.static sSt "COMPACT_STRINGS" "Z").eval #[Value.ref b] s none [] s = some (.int 1) := va_eqt (hs (.eq (.static sSt "COMPACT_STRINGS" "Z") (.int 1)) (by decide +kernel))
  obtain ⟨v, ev, hv⟩ := Cond.isRef_spec (hs (.isRef (.static sPr "SIOOBE_FORMATTER" dBi)) (by decide +kernel))
  obtain ⟨adK, adV, hE, hev⟩ := vk_Sof (N := 8) (tm := tmS) (len := lnS) (byt := byS) (A := fun q : Nat => s.heap.size ≤ q) (args := #[Value.ref b]) (s := s) (by decide) (fun i hi => hs _ (gv_ex i hi)) (fun i hi => hs _ (gv_co i hi)) (fun i hi => hs _ (gv_ar i hi)) (fun i hi => hs _ (gv_le i hi)) (fun i hi j hj => hs _ (gv_el i hi j hj)) (fun i j hi hj hij => (gv_ne i hi j hj hij).imp (fun h => hs _ h) (fun h => hs _ h)) hA
  refine ⟨(D, (cI, cJ, cZ, cM), fun t => if t = 0 then t0 else if t = 1 then t1 else if t = 10 then t2 else adV (t - 2), adK, v, b, (L : Int), fun j => (xs j.toNat).toInt), ⟨Wd_of hts, ⟨hD, ?_⟩, ⟨?_, hbl, hA b hbl, ?_, ?_, ref_cat hv⟩, ?_, ?_, va_Zof (hts (.laysStatic sPl "LEAST" "[I") (lw_at (pos := 509) (by decide +kernel))) (hts (.initialized sPl) (lw_at (pos := 61) (by decide +kernel))) e0 hA, va_Zof (hts (.laysStatic sPl "MOST" "[I") (lw_at (pos := 511) (by decide +kernel))) (hts (.initialized sPl) (lw_at (pos := 61) (by decide +kernel))) e1 hA, va_Zof (hts (.laysStatic sSt "COMPACT_STRINGS" "Z") (lw_at (pos := 728) (by decide +kernel))) (hts (.initialized sSt) (lw_at (pos := 74) (by decide +kernel))) ec hA, va_Zof (hts (.laysStatic sPr "SIOOBE_FORMATTER" dBi) (lw_at (pos := 748) (by decide +kernel))) (hts (.initialized sPr) (lw_at (pos := 76) (by decide +kernel))) ev hA, va_Zof (hts (.laysStatic sOr "MOST_VALUE" "[I") (lw_at (pos := 792) (by decide +kernel))) (hts (.initialized sOr) (lw_at (pos := 65) (by decide +kernel))) e2 hA⟩, ⟨i1, j1, z1, m5, over_moved (Vm.Alike.refl s.vm) hov⟩, rfl, rfl, fun j => ?_⟩
  · intro k q hk
    match k, hk with
    | 0, hk => cases hk; exact ⟨fun n z => ⟨fun k h => (by cases h), kI, i2, pI, i3⟩, i1⟩
    | 1, hk => cases hk; exact ⟨fun n z => ⟨fun k h => (by cases h), kJ, j2, pJ, j3⟩, j1⟩
    | 2, hk => cases hk; exact ⟨fun n z => ⟨fun k h => (by cases h), kZ, z2, pZ, z3⟩, z1⟩
    | 3, hk => cases hk; exact ⟨fun n z => ⟨fun k h => (by cases h), kM, m3, pM, m4⟩, m5⟩
    | k + 4, hk => simp [tys] at hk
  · obtain ⟨scr, x1, x2, x3, x4, x5⟩ := hX
    refine ⟨scr, x1, x2, x3, x4, fun j hj => ?_⟩
    rw [x5 j hj]
    show some (Value.int (xs j)) = some (Value.int (Int32.ofInt ((xs ((j : Int)).toNat).toInt)))
    rw [Int32.ofInt_toInt]
    rfl
  · show (0 : Int) ≤ (L : Int)
    omega
  · show (L : Int) < 2147483648
    omega
  · intro t ht
    match t, ht with
    | 0, _ => exact T0
    | 1, _ => exact T1
    | t + 2, ht =>
      by_cases h10 : t = 8
      · subst h10
        exact T2
      have hi : t < 8 := by omega
      obtain ⟨s1, s2⟩ := st_tb t hi
      have h4 := (hE.1 t hi).2.2.2
      have e2 : tyT (t + 2) = .byte := if_neg (by omega)
      have e3 : 2 + t = t + 2 := Nat.add_comm _ _
      rw [e3] at s1 s2
      show va_T (tyT (t + 2)) (if t + 2 = 0 then t0 else if t + 2 = 1 then t1 else if t + 2 = 10 then t2 else adV (t + 2 - 2)) (lnT (t + 2)) (vlT (t + 2)) _ s s.heap
      rw [if_neg (by omega), if_neg (by omega), if_neg (by omega), e2, Nat.add_sub_cancel, ← s1]
      exact va_T_f h4 (fun j hj => by
        show Value.int _ = Value.int _
        rw [s2 j hj])
  · intro i hi
    have h4 := hE.1 i hi
    refine ⟨vk_R.of (hts _ (sr_in i hi)) (hev i hi), h4.1, h4.2.1, ?_⟩
    show va_OF sSt "value" "[B" (.ref (if 2 + i = 0 then t0 else if 2 + i = 1 then t1 else if 2 + i = 10 then t2 else adV (2 + i - 2))) (adK i) _ s s.heap
    rw [if_neg (by omega), if_neg (by omega), if_neg (by omega), Nat.add_sub_cancel_left]
    exact h4.2.2.1
  · show inI (xs j.toNat).toInt
    have h1 := Int32.le_toInt (xs j.toNat)
    have h2 := Int32.toInt_lt (xs j.toNat)
    unfold inI
    omega
