/-! constructors: contracts, and an object within an object -/
def m0 : Mm := fun k j => if k = 10 then (if j = 9 then 1 else 0) else if 14 ≤ k ∧ k < 20 then (if j = 3 then 1 else 0) else if k = 33 then (if j = 7 then -9 else 0) else if k = 45 then -9 else if k = 84 then (if j % 5 = 3 ∧ 0 ≤ j ∧ j < 30 then 1 else 0) else 0
def segW (g : Gx) (k0 n : Nat) (A : Nat → Nat) : va_W := (List.range n).map fun j => (A (k0 + j), entF g A (k0 + j) (m0 (k0 + j)))
def PcI (g : Gx) (h0 sz ci : Nat) (fs : List Value) : Array Value → State → Prop := va_Pc [.ref h0] (fun U => U.heap.size = sz ∧ Wd U ∧ Cl3 g U ∧ va_K g.D cls (tys g) U ∧ va_P g.D cls [(h0, .inr (ci, fs))] U.heap ∧ va_D (fun _ => True) [(h0, .inr (ci, fs))])
def QcI (g : Gx) (k0 n h0 sz ci : Nat) (fs : List Value) : Array Value → State → Outcome → State → Prop := va_Qv (fun A : Nat → Nat => A k0 = h0) (fun A t => va_P g.D cls (segW g k0 n A) t.heap ∧ va_D (va_A [(h0, .inr (ci, fs))] sz) (segW g k0 n A)) (va_A [(h0, .inr (ci, fs))] sz)
def rmI (d mc ms : Nat) : Room := { frames := d, cells := mc, slots := ms, locals := 40 * d }
def MetI (l : Launch) (g : Gx) (k0 n h0 sz ci : Nat) (fs : List Value) (y : MethodName) (bs : ByteArray) (maxL d mc ms : Nat) : Prop := Met l y [.code y bs maxL none] (rmI d mc ms) (PcI g h0 sz ci fs) (QcI g k0 n h0 sz ci fs) mc ms (va_A [(h0, .inr (ci, fs))] sz)
theorem va_nd_range (n : Nat) : va_nd (List.range n) = true := by
  have key : ∀ l : List Nat, l.Nodup → va_nd l = true := by
    intro l
    induction l with
    | nil => intro _; rfl
    | cons a l ih =>
      intro h
      have h2 := List.nodup_cons.mp h
      show (decide (a ∉ l) && va_nd l) = true
      rw [ih h2.2, decide_eq_true h2.1]; rfl
  exact key _ List.nodup_range
theorem sub_last {ws : va_W} {x : Nat × va_E} : [ws.length].map (fun i => (ws ++ [x])[i]?) = [x].map some := by
  simp
theorem sub_lastF {ws : va_W} {x : Nat × va_E} : [ws.length].filterMap (fun i => (ws ++ [x])[i]?) = [x] := by
  simp
theorem sub_init {ws : va_W} {x : Nat × va_E} : (List.range ws.length).map (fun i => (ws ++ [x])[i]?) = ws.map some := by
  refine List.ext_getElem? (fun i => ?_)
  rw [List.getElem?_map, List.getElem?_map]
  by_cases h : i < ws.length
  · rw [List.getElem?_range h, List.getElem?_eq_getElem h]
    show some ((ws ++ [x])[i]?) = _
    rw [List.getElem?_append_left h, List.getElem?_eq_getElem h]; rfl
  · rw [List.getElem?_eq_none (by rw [List.length_range]; omega), List.getElem?_eq_none (by omega)]; rfl
section NEW
variable {p : Program} {l : Launch} {e : Env} {R : Room} {s : State} {m : MethodId} {args : Array Value} {below : List Frame} {meth : Method} {c : Code} {H : Heap} {locs : List Loc} {cells slots : Nat} {Q : State → Prop} {g : Gx} {nL : Nat} {b : ByteArray} {ci : Nat}
/-- the words of a call of a constructor -/
def cwN (own : String) (index : Nat) (y : MethodName) (nest : Bool) : Jvm.Cond := if nest = true then .methodLinkNest own index y "ChildTrains" else .methodLink own index y
theorem i_new (hx : p.tables.exec = Jvm.exec) (hb : c.code = b) (hml : c.maxLocals = nL) {own : String} (hown : s.vm.findClass own = some m.cls) (hWd : Wd s) (hK : va_K g.D cls (tys g) s) (hC : Cl3 g s) {A : Nat → Prop} {ws : va_W} {H0 : Heap} (hP : va_P g.D cls ws H) (hD : va_D A ws) (hS : va_S A H0 H locs) (hA : ∀ q, H0.size ≤ q → A q) {cj k0 n maxL d mc ms : Nat} {fs : List Value} {y : MethodName} {bs : ByteArray} (hM : ∀ h0 sz, MetI l g k0 n h0 sz cj fs y bs maxL d mc ms) (hcj : cj < 12) (hfs : ∀ j, j < (clsR cj).2.2 → defaultValue (tyR cj j) = vp_V fs j) {pc i1 i2 p1 p2 p3 p4 p5 p6 : Nat} {nest : Bool} (w1 : lw_tbl[p1]? = some (.classLink own i1 (clsR cj).1)) (w2 : lw_tbl[p2]? = some (.instantiable (clsR cj).1 (clsR cj).2.2)) (w3 : lw_tbl[p3]? = some (.initialized (clsR cj).1)) (w4 : lw_tbl[p4]? = some (cwN own i2 y nest)) (w5 : lw_tbl[p5]? = some (.instanceMethod y)) (w6 : lw_tbl[p6]? = some (.code y bs maxL none)) (hyc : y.cls = (clsR cj).1) (hy : y.name = "<init>") (hyd : y.cls ≠ "java/lang/invoke/MethodHandle" ∧ y.cls ≠ "java/lang/invoke/VarHandle") (hsig : ∀ sig, parseMethodDescriptor y.desc = some sig → 0 = sig.parameters.length) (hR : d + 1 ≤ R.frames ∧ 8 + (maxL + 11) + 40 * d ≤ R.locals) (hc1 : cells + 1 + mc ≤ R.cells) (hs1 : slots + (clsR cj).2.2 + ms ≤ R.slots) (d1 : decode b pc = .ok (.new i1, 3)) (d2 : decode b (pc + 3) = .ok (.dup, 1)) (d3 : decode b (pc + 4) = .ok (.invokespecial i2, 3)) {ls : Array Slot} (hsz : ls.size = nL) {rest : List Value} (hrest : (rest.map fun v => v.category).sum ≤ 7) (kk : ∀ (Aq : Nat → Nat) (H1 : Heap) (locs1 : List Loc), va_P g.D cls (ws ++ segW g k0 n Aq) H1 → va_D A (ws ++ segW g k0 n Aq) → va_S A H0 H1 locs1 → W p l e R s m args below meth c H1 locs1 (cells + 1 + mc) (slots + (clsR cj).2.2 + ms) Q (F0 m (pc + 7) ls (.ref (Aq k0) :: rest))) : W p l e R s m args below meth c H locs cells slots Q (F0 m pc ls rest) := by
  refine va_new (T := (clsR cj).2.1) (C := (clsR cj).1) (N := (clsR cj).2.2) (ci := cj) (fs := fs) hx hb (hWd.hts args) (cls_ws cj hcj) (tyR cj) (cls_ty cj hcj) hown (hWd _ (lw_at w1) rfl args) (hWd _ (lw_at w2) rfl args) (hWd _ (lw_at w3) rfl args) hK hP hD hS hA (cls_get cj hcj) hfs (by omega) (by omega) d1 (fun q H1 hP1 hD1 hS1 => ?_)
  refine lv_dup hx hb d2 rfl ?_
  have hPc : va_P g.D cls [(q, .inr (cj, fs))] H1 := hP1.sub (ws' := [(q, .inr (cj, fs))]) [ws.length] sub_lastF
  have hDc : va_D A [(q, .inr (cj, fs))] := ⟨fun i j p q hi hj _ => by
    have h1 : i < 1 := (List.getElem?_eq_some_iff.mp hi).1
    have h2 : j < 1 := (List.getElem?_eq_some_iff.mp hj).1
    omega, fun k x hk => by
    have h1 : k < 1 := (List.getElem?_eq_some_iff.mp hk).1
    have e1 : k = 0 := by omega
    subst e1
    have e2 : (q, .inr (cj, fs)) = x := Option.some.inj hk
    rw [← e2]
    exact hD1.2 ws.length (q, .inr (cj, fs)) (by simp)⟩
  have hFc := va_free (wc := [(q, .inr (cj, fs))]) hD1 hS1 hA [ws.length] sub_last
  have hpre : PreS s H1 (PcI g q H1.size cj fs) [.ref q] := ⟨fun a U f mk h => by
      obtain ⟨q0, q1, qW, qC, qK, qP, qD⟩ := h
      exact ⟨q0, q1, Wd.same (s := U) (U := U.calling f mk a) rfl qW, Cl3.moved (u := U) (U := U.calling f mk a) (Vm.Alike.refl U.vm) qC, va_K.moved (u := U) (U := U.calling f mk a) (Vm.Alike.refl U.vm) qK, qP, qD⟩, fun U hU hW => ⟨rfl, by rw [hU], hWd.warm hW, hC.moved hW.alike, va_K.moved hW.alike hK, by rw [hU]; exact hPc, hDc.weaken (fun _ _ _ _ => trivial)⟩⟩
  have hcw : (∀ w ∈ [Cond.code y bs maxL none], ∀ (a' : Array Value) (U : State), s.WarmedH U.vm → w.before a' U = true) := by
    intro w hw9 a' U hW
    rw [List.mem_singleton.mp hw9]
    exact (hWd.warm hW) _ (lw_at w6) rfl a'
  have hini : (Cond.initialized y.cls).before args s = true := by rw [hyc]; exact hWd _ (lw_at w3) rfl args
  have hrun : va_Run p l e R s m args below meth c H1 locs (cells + 1) (slots + (clsR cj).2.2) mc ms (F0 m (pc + 4) ls (.ref q :: .ref q :: rest)) (.ref q :: rest) (QcI g k0 n q H1.size cj fs (Value.ref q :: []).toArray) (va_A [(q, .inr (cj, fs))] H1.size) := by
    have hcat : ((Value.ref q :: rest).map fun v => v.category).sum ≤ 8 := by
      show 1 + (rest.map fun v => v.category).sum ≤ 8
      omega
    cases nest with
    | false =>
      have w4 : lw_tbl[p4]? = some (.methodLink own i2 y) := w4
      exact va_runI (As := []) ⟨hx, hb, hml, hown, hWd.hts args⟩ (hM q H1.size) ⟨⟨rfl, rfl, hR.1, hR.2, hcw, List.mem_singleton.mpr rfl, hWd _ (lw_at w6) rfl args, hini, hyd, hsig, hWd _ (lw_at w4) rfl args⟩, hy, hWd _ (lw_at w5) rfl args⟩ hpre rfl rfl hsz rfl (lv_room hcat) d3 ⟨hc1, hs1⟩
    | true =>
      have w4 : lw_tbl[p4]? = some (.methodLinkNest own i2 y "ChildTrains") := w4
      exact va_runIN (As := []) ⟨hx, hb, hml, hown, hWd.hts args⟩ (hM q H1.size) ⟨⟨⟨rfl, rfl, hR.1, hR.2, hcw, List.mem_singleton.mpr rfl⟩, hWd _ (lw_at w6) rfl args, hini, hyd, hsig, hWd _ (lw_at w4) rfl args⟩, hy, hWd _ (lw_at w5) rfl args⟩ hpre rfl rfl hsz rfl (lv_room hcat) d3 ⟨hc1, hs1⟩
  refine va_callv hrun hS1 (fun q _ h => hFc q h) hFc (fun Aq t H2 locs2 ht hvm h5 hB hz1 hk1 hS2 => ?_)
  obtain ⟨hP2, hD2⟩ := hB
  rw [ht] at hP2
  obtain ⟨hP3, hD3⟩ := va_join (wc := [(q, .inr (cj, fs))]) (wr := ws) (w1 := segW g k0 n Aq) hP1 hD1 [ws.length] (List.range ws.length) sub_last sub_init (va_nd_range _) (fun i hi => by
    have := List.mem_range.mp hi
    simp
    omega) hk1 hFc hP2 hD2
  have h5 : Aq k0 = q := h5
  rw [← h5]
  exact kk Aq H2 locs2 hP3 hD3 hS2
end NEW
