/-! constructors: the class itself -/
section NEST
variable {p : Program} {l : Launch} {e : Env} {R : Room} {s : State} {m : MethodId} {args : Array Value} {below : List Frame} {meth : Method} {c : Code} {H : Heap} {locs : List Loc} {cells slots : Nat} {Q : State → Prop} {g : Gx} {nL : Nat} {b : ByteArray} {ci : Nat}
/-- aload_0, new, dup, invokespecial, putfield -/
theorem bkN (F : Fi p s m meth c g nL b ci) (hci : ci < 12) {A : Nat → Prop} {h0 : Nat} {fs : List Value} {rs : va_W} {H0 : Heap} (hP : va_P g.D cls ((h0, .inr (ci, fs)) :: rs) H) (hD : va_D A ((h0, .inr (ci, fs)) :: rs)) (hS : va_S A H0 H locs) (hA : ∀ q, H0.size ≤ q → A q) {ls : Array Slot} (hl0 : ls[0]? = some (.val (.ref h0))) (hsz : ls.size = nL) {cj k0 n maxL d mc ms : Nat} {fj : List Value} {y : MethodName} {bs : ByteArray} (hM : ∀ h0 sz, MetI l g k0 n h0 sz cj fj y bs maxL d mc ms) (hcj : cj < 12) (hfs : ∀ j, j < (clsR cj).2.2 → defaultValue (tyR cj j) = vp_V fj j) {pc i1 i2 p1 p2 p3 p4 p5 p6 : Nat} {nest : Bool} (w1 : lw_tbl[p1]? = some (.classLink (clsR ci).1 i1 (clsR cj).1)) (w2 : lw_tbl[p2]? = some (.instantiable (clsR cj).1 (clsR cj).2.2)) (w3 : lw_tbl[p3]? = some (.initialized (clsR cj).1)) (w4 : lw_tbl[p4]? = some (cwN (clsR ci).1 i2 y nest)) (w5 : lw_tbl[p5]? = some (.instanceMethod y)) (w6 : lw_tbl[p6]? = some (.code y bs maxL none)) (hyc : y.cls = (clsR cj).1) (hy : y.name = "<init>") (hyd : y.cls ≠ "java/lang/invoke/MethodHandle" ∧ y.cls ≠ "java/lang/invoke/VarHandle") (hsig : ∀ sig, parseMethodDescriptor y.desc = some sig → 0 = sig.parameters.length) (hR : d + 1 ≤ R.frames ∧ 8 + (maxL + 11) + 40 * d ≤ R.locals) (hc1 : cells + 1 + mc ≤ R.cells) (hs1 : slots + (clsR cj).2.2 + ms ≤ R.slots) (d0 : decode b pc = .ok (.aload_n 0, 1)) (d1 : decode b (pc + 1) = .ok (.new i1, 3)) (d2 : decode b (pc + 1 + 3) = .ok (.dup, 1)) (d3 : decode b (pc + 1 + 4) = .ok (.invokespecial i2, 3)) (k : Nat) (hk : k < (clsR ci).2.2) (hl : k < fs.length) {index pos : Nat} (hw : lw_tbl[pos]? = some (.fieldLink (clsR ci).1 index (clsR ci).1 ((clsR ci).2.1 k).2.1 ((clsR ci).2.1 k).2.2.1)) (hdcl : ((clsR ci).2.1 k).1 = (clsR ci).1) {C : String} (hty2 : parseFieldDescriptor ((clsR ci).2.1 k).2.2.1 = some (.object C)) (d4 : decode b (pc + 1 + 7) = .ok (.putfield index, 3)) (kk : ∀ (Aq : Nat → Nat) (H1 : Heap) (locs1 : List Loc), va_P g.D cls ((h0, .inr (ci, fs.set k (.ref (Aq k0)))) :: (rs ++ segW g k0 n Aq)) H1 → va_D A ((h0, .inr (ci, fs.set k (.ref (Aq k0)))) :: (rs ++ segW g k0 n Aq)) → va_S A H0 H1 locs1 → W p l e R s m args below meth c H1 locs1 (cells + 1 + mc) (slots + (clsR cj).2.2 + ms) Q (F0 m (pc + 1 + 7 + 3) ls [])) : W p l e R s m args below meth c H locs cells slots Q (F0 m pc ls []) := by
  have F' := F
  obtain ⟨f1, f2, f3, f4, f5, f6, f7, f8⟩ := F'
  refine lv_aload_n f1 f2 d0 rfl hl0 ?_
  refine i_new f1 f2 f3 f4 f5 f6 f7 hP hD hS hA hM hcj hfs w1 w2 w3 w4 w5 w6 hyc hy hyd hsig hR hc1 hs1 d1 d2 d3 hsz (rest := [.ref h0]) (Nat.le_of_ble_eq_true rfl) (fun Aq H1 locs1 hP1 hD1 hS1 => ?_)
  have hP2 : va_P g.D cls ((h0, .inr (ci, fs)) :: (rs ++ segW g k0 n Aq)) H1 := hP1
  have hD2 : va_D A ((h0, .inr (ci, fs)) :: (rs ++ segW g k0 n Aq)) := hD1
  exact i_put F hci hP2 hD2 hS1 k hk hl hw hdcl hty2 rfl rfl d4 (fun H2 locs2 a1 a2 a3 => kk Aq H2 locs2 a1 a2 a3)
end NEST
theorem P_app2 {g : Gx} {k0 n n' : Nat} {A : Nat → Nat} {m : Mm} {H : Heap} (h1 : va_P g.D cls (segM g k0 n A m) H) (h2 : va_P g.D cls (segM g (k0 + n) n' A m) H) : va_P g.D cls (segM g k0 (n + n') A m) H := by
  rw [segM_app]
  exact h1.app h2
def aZ (h0 : Nat) (A1 A2 A3 A4 A5 A6 A7 A8 A9 : Nat → Nat) (q1 q2 : Nat) (A10 A11 : Nat → Nat) : Nat → Nat := fun k => if k < 1 then h0 else if k < 8 then A1 k else if k < 10 then A2 k else if k < 24 then A3 k else if k < 30 then A4 k else if k < 33 then A5 k else if k < 39 then A6 k else if k < 40 then A7 k else if k < 47 then A8 k else if k < 50 then A9 k else if k < 51 then q1 else if k < 52 then q2 else if k < 58 then q2 + 1 + (k - 52) else if k < 67 then A10 k else A11 k
theorem clsd_1 : clsd 1 7 := by
  unfold clsd
  decide +kernel
theorem aZ_1 {h0 : Nat} {A1 A2 A3 A4 A5 A6 A7 A8 A9 : Nat → Nat} {q1 q2 : Nat} {A10 A11 : Nat → Nat} : ∀ k, 1 ≤ k → k < 1 + 7 → A1 k = aZ h0 A1 A2 A3 A4 A5 A6 A7 A8 A9 q1 q2 A10 A11 k := by
  intro k h1 h2
  unfold aZ
  rw [if_neg (show ¬ k < 1 by omega), if_pos (show k < 8 by omega)]
theorem clsd_8 : clsd 8 2 := by
  unfold clsd
  decide +kernel
theorem aZ_8 {h0 : Nat} {A1 A2 A3 A4 A5 A6 A7 A8 A9 : Nat → Nat} {q1 q2 : Nat} {A10 A11 : Nat → Nat} : ∀ k, 8 ≤ k → k < 8 + 2 → A2 k = aZ h0 A1 A2 A3 A4 A5 A6 A7 A8 A9 q1 q2 A10 A11 k := by
  intro k h1 h2
  unfold aZ
  rw [if_neg (show ¬ k < 1 by omega), if_neg (show ¬ k < 8 by omega), if_pos (show k < 10 by omega)]
theorem clsd_10 : clsd 10 14 := by
  unfold clsd
  decide +kernel
theorem aZ_10 {h0 : Nat} {A1 A2 A3 A4 A5 A6 A7 A8 A9 : Nat → Nat} {q1 q2 : Nat} {A10 A11 : Nat → Nat} : ∀ k, 10 ≤ k → k < 10 + 14 → A3 k = aZ h0 A1 A2 A3 A4 A5 A6 A7 A8 A9 q1 q2 A10 A11 k := by
  intro k h1 h2
  unfold aZ
  rw [if_neg (show ¬ k < 1 by omega), if_neg (show ¬ k < 8 by omega), if_neg (show ¬ k < 10 by omega), if_pos (show k < 24 by omega)]
theorem clsd_24 : clsd 24 6 := by
  unfold clsd
  decide +kernel
theorem aZ_24 {h0 : Nat} {A1 A2 A3 A4 A5 A6 A7 A8 A9 : Nat → Nat} {q1 q2 : Nat} {A10 A11 : Nat → Nat} : ∀ k, 24 ≤ k → k < 24 + 6 → A4 k = aZ h0 A1 A2 A3 A4 A5 A6 A7 A8 A9 q1 q2 A10 A11 k := by
  intro k h1 h2
  unfold aZ
  rw [if_neg (show ¬ k < 1 by omega), if_neg (show ¬ k < 8 by omega), if_neg (show ¬ k < 10 by omega), if_neg (show ¬ k < 24 by omega), if_pos (show k < 30 by omega)]
theorem clsd_30 : clsd 30 3 := by
  unfold clsd
  decide +kernel
theorem aZ_30 {h0 : Nat} {A1 A2 A3 A4 A5 A6 A7 A8 A9 : Nat → Nat} {q1 q2 : Nat} {A10 A11 : Nat → Nat} : ∀ k, 30 ≤ k → k < 30 + 3 → A5 k = aZ h0 A1 A2 A3 A4 A5 A6 A7 A8 A9 q1 q2 A10 A11 k := by
  intro k h1 h2
  unfold aZ
  rw [if_neg (show ¬ k < 1 by omega), if_neg (show ¬ k < 8 by omega), if_neg (show ¬ k < 10 by omega), if_neg (show ¬ k < 24 by omega), if_neg (show ¬ k < 30 by omega), if_pos (show k < 33 by omega)]
theorem clsd_33 : clsd 33 6 := by
  unfold clsd
  decide +kernel
theorem aZ_33 {h0 : Nat} {A1 A2 A3 A4 A5 A6 A7 A8 A9 : Nat → Nat} {q1 q2 : Nat} {A10 A11 : Nat → Nat} : ∀ k, 33 ≤ k → k < 33 + 6 → A6 k = aZ h0 A1 A2 A3 A4 A5 A6 A7 A8 A9 q1 q2 A10 A11 k := by
  intro k h1 h2
  unfold aZ
  rw [if_neg (show ¬ k < 1 by omega), if_neg (show ¬ k < 8 by omega), if_neg (show ¬ k < 10 by omega), if_neg (show ¬ k < 24 by omega), if_neg (show ¬ k < 30 by omega), if_neg (show ¬ k < 33 by omega), if_pos (show k < 39 by omega)]
theorem clsd_39 : clsd 39 1 := by
  unfold clsd
  decide +kernel
theorem aZ_39 {h0 : Nat} {A1 A2 A3 A4 A5 A6 A7 A8 A9 : Nat → Nat} {q1 q2 : Nat} {A10 A11 : Nat → Nat} : ∀ k, 39 ≤ k → k < 39 + 1 → A7 k = aZ h0 A1 A2 A3 A4 A5 A6 A7 A8 A9 q1 q2 A10 A11 k := by
  intro k h1 h2
  unfold aZ
  rw [if_neg (show ¬ k < 1 by omega), if_neg (show ¬ k < 8 by omega), if_neg (show ¬ k < 10 by omega), if_neg (show ¬ k < 24 by omega), if_neg (show ¬ k < 30 by omega), if_neg (show ¬ k < 33 by omega), if_neg (show ¬ k < 39 by omega), if_pos (show k < 40 by omega)]
theorem clsd_40 : clsd 40 7 := by
  unfold clsd
  decide +kernel
theorem aZ_40 {h0 : Nat} {A1 A2 A3 A4 A5 A6 A7 A8 A9 : Nat → Nat} {q1 q2 : Nat} {A10 A11 : Nat → Nat} : ∀ k, 40 ≤ k → k < 40 + 7 → A8 k = aZ h0 A1 A2 A3 A4 A5 A6 A7 A8 A9 q1 q2 A10 A11 k := by
  intro k h1 h2
  unfold aZ
  rw [if_neg (show ¬ k < 1 by omega), if_neg (show ¬ k < 8 by omega), if_neg (show ¬ k < 10 by omega), if_neg (show ¬ k < 24 by omega), if_neg (show ¬ k < 30 by omega), if_neg (show ¬ k < 33 by omega), if_neg (show ¬ k < 39 by omega), if_neg (show ¬ k < 40 by omega), if_pos (show k < 47 by omega)]
theorem clsd_47 : clsd 47 3 := by
  unfold clsd
  decide +kernel
theorem aZ_47 {h0 : Nat} {A1 A2 A3 A4 A5 A6 A7 A8 A9 : Nat → Nat} {q1 q2 : Nat} {A10 A11 : Nat → Nat} : ∀ k, 47 ≤ k → k < 47 + 3 → A9 k = aZ h0 A1 A2 A3 A4 A5 A6 A7 A8 A9 q1 q2 A10 A11 k := by
  intro k h1 h2
  unfold aZ
  rw [if_neg (show ¬ k < 1 by omega), if_neg (show ¬ k < 8 by omega), if_neg (show ¬ k < 10 by omega), if_neg (show ¬ k < 24 by omega), if_neg (show ¬ k < 30 by omega), if_neg (show ¬ k < 33 by omega), if_neg (show ¬ k < 39 by omega), if_neg (show ¬ k < 40 by omega), if_neg (show ¬ k < 47 by omega), if_pos (show k < 50 by omega)]
theorem clsd_58 : clsd 58 9 := by
  unfold clsd
  decide +kernel
theorem aZ_58 {h0 : Nat} {A1 A2 A3 A4 A5 A6 A7 A8 A9 : Nat → Nat} {q1 q2 : Nat} {A10 A11 : Nat → Nat} : ∀ k, 58 ≤ k → k < 58 + 9 → A10 k = aZ h0 A1 A2 A3 A4 A5 A6 A7 A8 A9 q1 q2 A10 A11 k := by
  intro k h1 h2
  unfold aZ
  rw [if_neg (show ¬ k < 1 by omega), if_neg (show ¬ k < 8 by omega), if_neg (show ¬ k < 10 by omega), if_neg (show ¬ k < 24 by omega), if_neg (show ¬ k < 30 by omega), if_neg (show ¬ k < 33 by omega), if_neg (show ¬ k < 39 by omega), if_neg (show ¬ k < 40 by omega), if_neg (show ¬ k < 47 by omega), if_neg (show ¬ k < 50 by omega), if_neg (show ¬ k < 51 by omega), if_neg (show ¬ k < 52 by omega), if_neg (show ¬ k < 58 by omega), if_pos (show k < 67 by omega)]
theorem clsd_67 : clsd 67 9 := by
  unfold clsd
  decide +kernel
theorem aZ_67 {h0 : Nat} {A1 A2 A3 A4 A5 A6 A7 A8 A9 : Nat → Nat} {q1 q2 : Nat} {A10 A11 : Nat → Nat} : ∀ k, 67 ≤ k → k < 67 + 9 → A11 k = aZ h0 A1 A2 A3 A4 A5 A6 A7 A8 A9 q1 q2 A10 A11 k := by
  intro k h1 h2
  unfold aZ
  rw [if_neg (show ¬ k < 1 by omega), if_neg (show ¬ k < 8 by omega), if_neg (show ¬ k < 10 by omega), if_neg (show ¬ k < 24 by omega), if_neg (show ¬ k < 30 by omega), if_neg (show ¬ k < 33 by omega), if_neg (show ¬ k < 39 by omega), if_neg (show ¬ k < 40 by omega), if_neg (show ¬ k < 47 by omega), if_neg (show ¬ k < 50 by omega), if_neg (show ¬ k < 51 by omega), if_neg (show ¬ k < 52 by omega), if_neg (show ¬ k < 58 by omega), if_neg (show ¬ k < 67 by omega)]
