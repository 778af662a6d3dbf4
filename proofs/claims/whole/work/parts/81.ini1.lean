/-! constructors: rows -/
def Cl3 (g : Gx) (U : State) : Prop := U.vm.findClass ("[" ++ (FieldType.int).toString) = some (gI g) ∧ U.vm.findClass ("[" ++ (FieldType.long).toString) = some (gJ g) ∧ U.vm.findClass ("[" ++ (FieldType.boolean).toString) = some (gZ g) ∧ U.vm.findClass ("[" ++ (FieldType.array .int).toString) = some (gM g) ∧ (Cond.arrayOver (.array .int)).before #[] U = true
theorem Cl3.moved {g : Gx} {u U : State} (hvm : u.vm.Alike U.vm) (h : Cl3 g u) : Cl3 g U := by
  obtain ⟨h1, h2, h3, h4, h5⟩ := h
  refine ⟨?_, ?_, ?_, ?_, over_moved hvm h5⟩
  · rw [hvm.findClass]; exact h1
  · rw [hvm.findClass]; exact h2
  · rw [hvm.findClass]; exact h3
  · rw [hvm.findClass]; exact h4
/-- what a constructor's frame knows -/
def Fi (p : Program) (s : State) (m : MethodId) (meth : Method) (c : Code) (g : Gx) (nL : Nat) (b : ByteArray) (ci : Nat) : Prop := p.tables.exec = Jvm.exec ∧ c.code = b ∧ c.maxLocals = nL ∧ s.vm.findClass (clsR ci).1 = some m.cls ∧ Wd s ∧ va_K g.D cls (tys g) s ∧ Cl3 g s ∧ meth.name = "<init>"
section INI
variable {p : Program} {l : Launch} {e : Env} {R : Room} {s : State} {m : MethodId} {args : Array Value} {below : List Frame} {meth : Method} {c : Code} {H : Heap} {locs : List Loc} {cells slots : Nat} {Q : State → Prop} {g : Gx} {nL : Nat} {b : ByteArray} {ci : Nat}
theorem i_put (F : Fi p s m meth c g nL b ci) (hci : ci < 12) {A : Nat → Prop} {h0 : Nat} {fs : List Value} {rs : va_W} {H0 : Heap} (hP : va_P g.D cls ((h0, .inr (ci, fs)) :: rs) H) (hD : va_D A ((h0, .inr (ci, fs)) :: rs)) (hS : va_S A H0 H locs) (k : Nat) (hk : k < (clsR ci).2.2) (hl : k < fs.length) {index pos : Nat} (hw : lw_tbl[pos]? = some (.fieldLink (clsR ci).1 index (clsR ci).1 ((clsR ci).2.1 k).2.1 ((clsR ci).2.1 k).2.2.1)) (hdcl : ((clsR ci).2.1 k).1 = (clsR ci).1) {ty : FieldType} {v : Value} (hty : parseFieldDescriptor ((clsR ci).2.1 k).2.2.1 = some ty) (hn : narrow ty v = v) (hfit : fits ty v = true) {pc : Nat} {ls : Array Slot} {rest : List Value} (hdg : decode b pc = .ok (.putfield index, 3)) (kk : ∀ (H1 : Heap) (locs1 : List Loc), va_P g.D cls ((h0, .inr (ci, fs.set k v)) :: rs) H1 → va_D A ((h0, .inr (ci, fs.set k v)) :: rs) → va_S A H0 H1 locs1 → W p l e R s m args below meth c H1 locs1 cells slots Q (F0 m (pc + 3) ls rest)) : W p l e R s m args below meth c H locs cells slots Q (F0 m pc ls (v :: .ref h0 :: rest)) := by
  obtain ⟨f1, f2, f3, f4, f5, f6, f7, f8⟩ := F
  cases hfin : ((clsR ci).2.1 k).2.2.2 with
  | true => exact va_putF (T := (clsR ci).2.1) (C := (clsR ci).1) (N := (clsR ci).2.2) (ref := (clsR ci).1) f1 f2 (f5.hts args) (cls_ws ci hci) (tyR ci) (cls_ty ci hci) (cls_nm ci hci) f4 f6 hP hD hS 0 rfl (cls_get ci hci) k hk (f5 _ (lw_at hw) rfl args) (by rw [hdcl]; exact fun _ h => h) hfin f8 hdcl hty hn hfit hl hdg (fun H1 locs1 a1 a2 a3 => kk H1 locs1 a1 a2 a3)
  | false => exact va_put (T := (clsR ci).2.1) (C := (clsR ci).1) (N := (clsR ci).2.2) (ref := (clsR ci).1) f1 f2 (f5.hts args) (cls_ws ci hci) (tyR ci) (cls_ty ci hci) (cls_nm ci hci) f4 f6 hP hD hS 0 rfl (cls_get ci hci) k hk (f5 _ (lw_at hw) rfl args) (by rw [hdcl]; exact fun _ h => h) hfin hty hn hfit hl hdg (fun H1 locs1 a1 a2 a3 => kk H1 locs1 a1 a2 a3)
theorem i_newa (F : Fi p s m meth c g nL b ci) {A : Nat → Prop} {ws : va_W} {H0 : Heap} (hP : va_P g.D cls ws H) (hD : va_D A ws) (hS : va_S A H0 H locs) (hA : ∀ q, H0.size ≤ q → A q) {atype : ArrayType} {ty : FieldType} (hty : newarray.typeOf atype = ty) {cA : ClassId} (hcl : s.vm.findClass ("[" ++ ty.toString) = some cA) {pos : Nat} (hw : lw_tbl[pos]? = some (.arrayClass ty)) {n : Int32} {N : Nat} {a0 : vp_A} (ha : ∀ cA : ClassId, vp_cell cA a0 = arrV cA N (fun _ => defaultValue ty)) (hn : ¬ n < 0) (hN : n.toNatClampNeg = N) (hb : N * componentBytes ty ≤ 536870912) (hcells : cells + 1 ≤ R.cells) (hslots : slots + N ≤ R.slots) {pc : Nat} {ls : Array Slot} {rest : List Value} (hdg : decode b pc = .ok (.newarray atype, 2)) (kk : ∀ (q : Nat) (H1 : Heap), va_P g.D cls (ws ++ [(q, .inl (cA, a0))]) H1 → va_D A (ws ++ [(q, .inl (cA, a0))]) → va_S A H0 H1 locs → W p l e R s m args below meth c H1 locs (cells + 1) (slots + N) Q (F0 m (pc + 2) ls (.ref q :: rest))) : W p l e R s m args below meth c H locs cells slots Q (F0 m pc ls (.int n :: rest)) := by
  subst hty
  obtain ⟨f1, f2, f3, f4, f5, f6, f7, f8⟩ := F
  refine va_newaK f1 f2 (f5 _ (lw_at hw) rfl args) rfl hdg rfl hn hN hb hcells hslots rfl fun H1 cB e1 z1 o1 hAr hNm => ?_
  have ec : cB = cA := Option.some.inj (hNm.symm.trans hcl)
  subst ec
  have hk : ∀ (k : Nat) (x : Nat × va_E), ws[k]? = some x → H1[x.1]? = H[x.1]? := fun k x hx => o1 x.1 ((hP k x hx).lt)
  refine kk H.size H1 ((hP.kept hk).app (fun k x hx => ?_)) (hD.push hP rfl (hA _ hS.1)) ⟨Nat.le_trans hS.1 (by omega), fun x h1 h2 => (o1 x (Nat.lt_of_lt_of_le h1 hS.1)).trans (hS.2.1 x h1 h2), hS.2.2⟩
  have hz : k < 1 := (List.getElem?_eq_some_iff.mp hx).1
  rw [show k = 0 by omega] at hx
  cases hx
  show H1[H.size]? = some (vp_cell _ _)
  rw [ha]
  exact e1
/-- a number on the stack -/
def isPush (b : ByteArray) (pc len : Nat) (n : Int) : Prop := (len = 1 ∧ decode b pc = .ok (.iconst n, 1)) ∨ (len = 2 ∧ decode b pc = .ok (.bipush n, 2) ∧ (Int8.ofInt n).toInt32 = Int32.ofInt n) ∨ (len = 3 ∧ decode b pc = .ok (.sipush n, 3) ∧ (Int16.ofInt n).toInt32 = Int32.ofInt n)
theorem i_push (F : Fi p s m meth c g nL b ci) {pc len : Nat} {n : Int} (h : isPush b pc len n) {ls : Array Slot} {rest : List Value} (kk : W p l e R s m args below meth c H locs cells slots Q (F0 m (pc + len) ls (.int (Int32.ofInt n) :: rest))) : W p l e R s m args below meth c H locs cells slots Q (F0 m pc ls rest) := by
  rcases h with ⟨rfl, h⟩ | ⟨rfl, h, h2⟩ | ⟨rfl, h, h2⟩
  · exact lv_iconst F.1 F.2.1 h rfl kk
  · exact lv_bipush F.1 F.2.1 h h2 kk
  · exact lv_sipush F.1 F.2.1 h h2 kk
/-- aload_0, a number, putfield -/
theorem bkI (F : Fi p s m meth c g nL b ci) (hci : ci < 12) {A : Nat → Prop} {h0 : Nat} {fs : List Value} {rs : va_W} {H0 : Heap} (hP : va_P g.D cls ((h0, .inr (ci, fs)) :: rs) H) (hD : va_D A ((h0, .inr (ci, fs)) :: rs)) (hS : va_S A H0 H locs) {ls : Array Slot} (hl0 : ls[0]? = some (.val (.ref h0))) {pc len : Nat} {n : Int} (d0 : decode b pc = .ok (.aload_n 0, 1)) (d1 : isPush b (pc + 1) len n) (k : Nat) (hk : k < (clsR ci).2.2) (hl : k < fs.length) {index pos : Nat} (hw : lw_tbl[pos]? = some (.fieldLink (clsR ci).1 index (clsR ci).1 ((clsR ci).2.1 k).2.1 ((clsR ci).2.1 k).2.2.1)) (hdcl : ((clsR ci).2.1 k).1 = (clsR ci).1) {ty : FieldType} (hty : parseFieldDescriptor ((clsR ci).2.1 k).2.2.1 = some ty) (hn : narrow ty (.int (Int32.ofInt n)) = .int (Int32.ofInt n)) (hfit : fits ty (.int (Int32.ofInt n)) = true) (d2 : decode b (pc + 1 + len) = .ok (.putfield index, 3)) (kk : ∀ (H1 : Heap) (locs1 : List Loc), va_P g.D cls ((h0, .inr (ci, fs.set k (.int (Int32.ofInt n)))) :: rs) H1 → va_D A ((h0, .inr (ci, fs.set k (.int (Int32.ofInt n)))) :: rs) → va_S A H0 H1 locs1 → W p l e R s m args below meth c H1 locs1 cells slots Q (F0 m (pc + 1 + len + 3) ls [])) : W p l e R s m args below meth c H locs cells slots Q (F0 m pc ls []) := by
  refine lv_aload_n F.1 F.2.1 d0 rfl hl0 ?_
  refine i_push F d1 ?_
  exact i_put F hci hP hD hS k hk hl hw hdcl hty hn hfit d2 kk
/-- aload_0, a number, newarray, putfield -/
theorem bkA (F : Fi p s m meth c g nL b ci) (hci : ci < 12) {A : Nat → Prop} {h0 : Nat} {fs : List Value} {rs : va_W} {H0 : Heap} (hP : va_P g.D cls ((h0, .inr (ci, fs)) :: rs) H) (hD : va_D A ((h0, .inr (ci, fs)) :: rs)) (hS : va_S A H0 H locs) (hA : ∀ q, H0.size ≤ q → A q) {ls : Array Slot} (hl0 : ls[0]? = some (.val (.ref h0))) {pc len : Nat} {n : Int} (d0 : decode b pc = .ok (.aload_n 0, 1)) (d1 : isPush b (pc + 1) len n) {atype : ArrayType} {ty : FieldType} (hty : newarray.typeOf atype = ty) {cA : ClassId} (hcl : s.vm.findClass ("[" ++ ty.toString) = some cA) {pos1 : Nat} (hw1 : lw_tbl[pos1]? = some (.arrayClass ty)) {N : Nat} {a0 : vp_A} (ha : ∀ cA : ClassId, vp_cell cA a0 = arrV cA N (fun _ => defaultValue ty)) (hn0 : ¬ Int32.ofInt n < 0) (hN : (Int32.ofInt n).toNatClampNeg = N) (hb : N * componentBytes ty ≤ 536870912) (hcells : cells + 1 ≤ R.cells) (hslots : slots + N ≤ R.slots) (d2 : decode b (pc + 1 + len) = .ok (.newarray atype, 2)) (k : Nat) (hk : k < (clsR ci).2.2) (hl : k < fs.length) {index pos : Nat} (hw : lw_tbl[pos]? = some (.fieldLink (clsR ci).1 index (clsR ci).1 ((clsR ci).2.1 k).2.1 ((clsR ci).2.1 k).2.2.1)) (hdcl : ((clsR ci).2.1 k).1 = (clsR ci).1) (hty2 : parseFieldDescriptor ((clsR ci).2.1 k).2.2.1 = some (.array ty)) (d3 : decode b (pc + 1 + len + 2) = .ok (.putfield index, 3)) (kk : ∀ (q : Nat) (H1 : Heap) (locs1 : List Loc), va_P g.D cls ((h0, .inr (ci, fs.set k (.ref q))) :: (rs ++ [(q, .inl (cA, a0))])) H1 → va_D A ((h0, .inr (ci, fs.set k (.ref q))) :: (rs ++ [(q, .inl (cA, a0))])) → va_S A H0 H1 locs1 → W p l e R s m args below meth c H1 locs1 (cells + 1) (slots + N) Q (F0 m (pc + 1 + len + 2 + 3) ls [])) : W p l e R s m args below meth c H locs cells slots Q (F0 m pc ls []) := by
  refine lv_aload_n F.1 F.2.1 d0 rfl hl0 ?_
  refine i_push F d1 ?_
  refine i_newa F hP hD hS hA hty hcl hw1 ha hn0 hN hb hcells hslots d2 (fun q H1 hP1 hD1 hS1 => ?_)
  have hP2 : va_P g.D cls ((h0, .inr (ci, fs)) :: (rs ++ [(q, .inl (cA, a0))])) H1 := hP1
  have hD2 : va_D A ((h0, .inr (ci, fs)) :: (rs ++ [(q, .inl (cA, a0))])) := hD1
  exact i_put F hci hP2 hD2 hS1 k hk hl hw hdcl hty2 rfl rfl d3 (fun H2 locs2 a1 a2 a3 => kk q H2 locs2 a1 a2 a3)
end INI
