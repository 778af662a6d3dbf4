/-! constructors: the platform, the register, the reference -/
def mPl (i : Nat) : Mm := fun k j => if k = 10 then (if j = 9 then 1 else 0) else if 14 ≤ k ∧ k < 14 + i then (if j = 3 then 1 else 0) else 0
def mT (i : Nat) : Mm := fun k j => if k = 84 then (if j % 5 = 3 ∧ 0 ≤ j ∧ j < 5 * (i : Int) then 1 else 0) else 0
theorem mPl_6 : ∀ k, 10 ≤ k → k < 10 + 14 → mPl 6 k = m0 k := by
  intro k h1 h2
  funext j
  unfold mPl m0
  by_cases a : k = 10
  · rw [if_pos a, if_pos a]
  · rw [if_neg a, if_neg a]
    by_cases b : 14 ≤ k ∧ k < 20
    · rw [if_pos (show 14 ≤ k ∧ k < 14 + 6 by omega), if_pos b]
    · rw [if_neg (show ¬ (14 ≤ k ∧ k < 14 + 6) by omega), if_neg b, if_neg (by omega), if_neg (by omega), if_neg (by omega)]
theorem mPl_s {i : Nat} (h : i < 6) : mset (mPl i) (10 + (4 + i)) 3 1 = mPl (i + 1) := by
  funext k j
  unfold mset rset
  by_cases a : k = 10 + (4 + i)
  · rw [if_pos a]
    unfold fset mPl
    rw [if_neg (show ¬ 10 + (4 + i) = 10 by omega), if_neg (show ¬ (14 ≤ 10 + (4 + i) ∧ 10 + (4 + i) < 14 + i) by omega), if_neg (show ¬ k = 10 by omega), if_pos (show 14 ≤ k ∧ k < 14 + (i + 1) by omega)]
  · rw [if_neg a]
    unfold mPl
    by_cases b : k = 10
    · rw [if_pos b, if_pos b]
    · rw [if_neg b, if_neg b]
      by_cases d : 14 ≤ k ∧ k < 14 + i
      · rw [if_pos d, if_pos (show 14 ≤ k ∧ k < 14 + (i + 1) by omega)]
      · rw [if_neg d, if_neg (show ¬ (14 ≤ k ∧ k < 14 + (i + 1)) by omega)]
theorem mT_0 : ∀ k, 76 ≤ k → k < 76 + 35 → mT 0 k = fun _ => 0 := by
  intro k _ _
  funext j
  unfold mT
  by_cases a : k = 84
  · rw [if_pos a, if_neg (by omega)]
  · rw [if_neg a]
theorem mT_6 : ∀ k, 76 ≤ k → k < 76 + 35 → mT 6 k = m0 k := by
  intro k h1 h2
  funext j
  unfold mT m0
  rw [if_neg (show ¬ k = 10 by omega), if_neg (show ¬ (14 ≤ k ∧ k < 20) by omega), if_neg (show ¬ k = 33 by omega), if_neg (show ¬ k = 45 by omega)]
  by_cases a : k = 84
  · rw [if_pos a, if_pos a]
    by_cases b : j % 5 = 3 ∧ 0 ≤ j ∧ j < 30
    · rw [if_pos b, if_pos (by omega)]
    · rw [if_neg b, if_neg (by omega)]
  · rw [if_neg a, if_neg a]
theorem mT_s {i : Nat} : mset (mT i) (76 + 8) (5 * (i : Int) + 3) 1 = mT (i + 1) := by
  funext k j
  unfold mset rset
  by_cases a : k = 76 + 8
  · rw [if_pos a]
    unfold fset mT
    rw [if_pos (show 76 + 8 = 84 from rfl), if_pos (show k = 84 from a)]
    by_cases b : j = 5 * (i : Int) + 3
    · rw [if_pos b, if_pos (by omega)]
    · rw [if_neg b]
      by_cases d : j % 5 = 3 ∧ 0 ≤ j ∧ j < 5 * (i : Int)
      · rw [if_pos d, if_pos (by omega)]
      · rw [if_neg d, if_neg (by omega)]
  · rw [if_neg a]
    unfold mT
    rw [if_neg (show ¬ k = 84 from a), if_neg (show ¬ k = 84 from a)]
theorem pl_sh : ∀ i, i < 6 → sh (10 + (4 + i)) = (0, 5, []) := by decide
def aP (h0 q1 q2 q3 q4 q5 q6 q7 : Nat) : Nat → Nat := fun k => ([h0, q1, q2, q3, q3 + 1 + 0, q3 + 1 + 1, q3 + 1 + 2, q3 + 1 + 3, q3 + 1 + 4, q3 + 1 + 5, q4, q5, q6, q7] : List Nat).getD (k - 10) 0
def aQ (qs : List Nat) (k0 : Nat) : Nat → Nat := fun k => qs.getD (k - k0) 0
theorem sig_len {d : String} {n : Nat} (h : (parseMethodDescriptor d).all (fun sig => n == sig.parameters.length) = true) : ∀ sig, parseMethodDescriptor d = some sig → n = sig.parameters.length := fun sig e => by
  rw [e] at h
  exact eq_of_beq h
theorem i_get {p : Program} {l : Launch} {e : Env} {R : Room} {s : State} {m : MethodId} {args : Array Value} {below : List Frame} {meth : Method} {c : Code} {H : Heap} {locs : List Loc} {cells slots : Nat} {Q : State → Prop} {g : Gx} {nL : Nat} {b : ByteArray} {ci : Nat} (F : Fi p s m meth c g nL b ci) (hci : ci < 12) {ws : va_W} (hP : va_P g.D cls ws H) (q0 : Nat) {a : Nat} {fs : List Value} (he : ws[q0]? = some (a, .inr (ci, fs))) (k : Nat) (hk : k < (clsR ci).2.2) {index pos : Nat} (hw : lw_tbl[pos]? = some (.fieldLink (clsR ci).1 index (clsR ci).1 ((clsR ci).2.1 k).2.1 ((clsR ci).2.1 k).2.2.1)) (hdcl : ((clsR ci).2.1 k).1 = (clsR ci).1) {v : Value} (hv : fs[k]? = some v) {pc : Nat} {ls : Array Slot} {rest : List Value} (hdg : decode b pc = .ok (.getfield index, 3)) (kk : W p l e R s m args below meth c H locs cells slots Q (F0 m (pc + 3) ls (v :: rest))) : W p l e R s m args below meth c H locs cells slots Q (F0 m pc ls (.ref a :: rest)) := by
  obtain ⟨f1, f2, f3, f4, f5, f6, f7, f8⟩ := F
  exact va_get (T := (clsR ci).2.1) (C := (clsR ci).1) (N := (clsR ci).2.2) (ref := (clsR ci).1) f1 f2 (f5.hts args) (cls_ws ci hci) f4 f6 hP q0 he (cls_get ci hci) k hk (f5 _ (lw_at hw) rfl args) (by rw [hdcl]; exact fun _ h => h) hv hdg kk
set_option maxHeartbeats 8000000 in
set_option maxRecDepth 100000 in
theorem ini_Platform (l : Launch) (g : Gx) (h0 sz : Nat) : MetI l g 10 14 h0 sz 9 [.null, .null, .null, .null, .null, .null, .null, .int 0, .int 0, .int 0] ⟨"ChildTrains$Platform", "<init>", "()V"⟩ prog_10_method_1_code 2 1 13 202 := by
  refine Met.ofW (cc := prog_10_method_1_code) (maxL := 2) (ret := none) (by decide +kernel) rfl ?_
  intro p e s m args below meth c s₁ B hml hv
  obtain ⟨rfl, hsz, hWd, hC, hK, hP, hD0⟩ := hv
  have F : Fi p s m meth c g 2 prog_10_method_1_code 9 := ⟨B.exec, B.bytes, hml, findClass_of_methodNamed B.named, hWd, hK, hC, (name_of_methodNamed B.named B.method).1⟩
  subst hsz
  have hD := hD0.self (sz := s.heap.size)
  have hA : ∀ q : Nat, s.heap.size ≤ q → va_A [(h0, .inr (9, [.null, .null, .null, .null, .null, .null, .null, .int 0, .int 0, .int 0]))] s.heap.size q := fun q h => Or.inr h
  have hS : va_S (va_A [(h0, .inr (9, [.null, .null, .null, .null, .null, .null, .null, .int 0, .int 0, .int 0]))] s.heap.size) s.heap s.heap [] := va_S.rf
  have hl := lv_entry ([.ref h0]) (n := 2) (Nat.le_of_ble_eq_true rfl)
  rw [lg_entry_eq]
  generalize (lg_sl ([.ref h0]) ++ List.replicate (2 - (lg_sl ([.ref h0])).length) Slot.unset).toArray = ls at hl ⊢
  have hl : lv_has ls 2 [(0, .ref h0)] := hl
  have hl0 := lv_at hl 0 rfl
  refine lv_aload_n F.1 F.2.1 (k := 0) (by decide +kernel) rfl hl0 ?_
  refine W.objInit F.1 F.2.1 F.2.2.2.1 (hWd (.methodLink "ChildTrains$Platform" 3 objectInit) (lw_at (pos := 148) (by decide +kernel)) rfl _) (hWd (.instanceMethod objectInit) (lw_at (pos := 84) (by decide +kernel)) rfl _) (hWd (.code objectInit ⟨#[0xb1]⟩ 1 none) (lw_at (pos := 85) rfl) rfl _) rfl (by rw [hml]; exact hl.1) rfl (show decode prog_10_method_1_code 1 = .ok (.invokespecial 3, 3) by decide +kernel) (Nat.le_of_ble_eq_true rfl) (Nat.le_of_ble_eq_true rfl) ?_
  refine W.eq (g2 := F0 m 4 ls []) rfl ?_
  refine bkA F (by decide) hP hD hS hA hl0 (pc := 4) (len := 2) (n := 8) (by decide +kernel) (Or.inr (Or.inl ⟨rfl, by decide +kernel, by decide +kernel⟩)) (atype := .int) (ty := .int) rfl hC.1 (pos1 := 126) (by decide +kernel) (N := 8) (a0 := (8, .inl (fun _ => 0))) (fun _ => rfl) (by decide +kernel) (by decide +kernel) (by decide +kernel) (Nat.le_of_ble_eq_true rfl) (Nat.le_of_ble_eq_true rfl) (by decide +kernel) 0 (by decide +kernel) (Nat.le_of_ble_eq_true rfl) (index := 9) (pos := 151) (by decide +kernel) rfl rfl (by decide +kernel) (fun q1 H locs hP hD hS => ?_)
  refine bkA F (by decide) hP hD hS hA hl0 (pc := 12) (len := 2) (n := 8) (by decide +kernel) (Or.inr (Or.inl ⟨rfl, by decide +kernel, by decide +kernel⟩)) (atype := .int) (ty := .int) rfl hC.1 (pos1 := 126) (by decide +kernel) (N := 8) (a0 := (8, .inl (fun _ => 0))) (fun _ => rfl) (by decide +kernel) (by decide +kernel) (by decide +kernel) (Nat.le_of_ble_eq_true rfl) (Nat.le_of_ble_eq_true rfl) (by decide +kernel) 1 (by decide +kernel) (Nat.le_of_ble_eq_true rfl) (index := 15) (pos := 153) (by decide +kernel) rfl rfl (by decide +kernel) (fun q2 H locs hP hD hS => ?_)
  refine bkM F (by decide) hP hD hS hA hl0 (pc := 20) (len1 := 2) (len2 := 1) (K := 5) (Or.inl rfl) (by decide +kernel) (Or.inr (Or.inl ⟨rfl, by decide +kernel, by decide +kernel⟩)) (Or.inl ⟨rfl, by decide +kernel⟩) (i1 := 18) (p1 := 149) (p3 := 126) (by decide +kernel) (by decide +kernel) (by decide +kernel) (Nat.le_of_ble_eq_true rfl) (Nat.le_of_ble_eq_true rfl) 2 (by decide +kernel) (Nat.le_of_ble_eq_true rfl) (index := 20) (pos := 155) (by decide +kernel) rfl rfl (by decide +kernel) (fun q3 H locs hP hD hS => ?_)
  refine bkA F (by decide) hP hD hS hA hl0 (pc := 31) (len := 2) (n := 6) (by decide +kernel) (Or.inr (Or.inl ⟨rfl, by decide +kernel, by decide +kernel⟩)) (atype := .int) (ty := .int) rfl hC.1 (pos1 := 126) (by decide +kernel) (N := 6) (a0 := (6, .inl (fun _ => 0))) (fun _ => rfl) (by decide +kernel) (by decide +kernel) (by decide +kernel) (Nat.le_of_ble_eq_true rfl) (Nat.le_of_ble_eq_true rfl) (by decide +kernel) 3 (by decide +kernel) (Nat.le_of_ble_eq_true rfl) (index := 23) (pos := 158) (by decide +kernel) rfl rfl (by decide +kernel) (fun q4 H locs hP hD hS => ?_)
  refine bkA F (by decide) hP hD hS hA hl0 (pc := 39) (len := 2) (n := 48) (by decide +kernel) (Or.inr (Or.inl ⟨rfl, by decide +kernel, by decide +kernel⟩)) (atype := .int) (ty := .int) rfl hC.1 (pos1 := 126) (by decide +kernel) (N := 48) (a0 := (48, .inl (fun _ => 0))) (fun _ => rfl) (by decide +kernel) (by decide +kernel) (by decide +kernel) (Nat.le_of_ble_eq_true rfl) (Nat.le_of_ble_eq_true rfl) (by decide +kernel) 4 (by decide +kernel) (Nat.le_of_ble_eq_true rfl) (index := 26) (pos := 159) (by decide +kernel) rfl rfl (by decide +kernel) (fun q5 H locs hP hD hS => ?_)
  refine bkA F (by decide) hP hD hS hA hl0 (pc := 47) (len := 2) (n := 48) (by decide +kernel) (Or.inr (Or.inl ⟨rfl, by decide +kernel, by decide +kernel⟩)) (atype := .int) (ty := .int) rfl hC.1 (pos1 := 126) (by decide +kernel) (N := 48) (a0 := (48, .inl (fun _ => 0))) (fun _ => rfl) (by decide +kernel) (by decide +kernel) (by decide +kernel) (Nat.le_of_ble_eq_true rfl) (Nat.le_of_ble_eq_true rfl) (by decide +kernel) 5 (by decide +kernel) (Nat.le_of_ble_eq_true rfl) (index := 29) (pos := 160) (by decide +kernel) rfl rfl (by decide +kernel) (fun q6 H locs hP hD hS => ?_)
  refine bkA F (by decide) hP hD hS hA hl0 (pc := 55) (len := 2) (n := 48) (by decide +kernel) (Or.inr (Or.inl ⟨rfl, by decide +kernel, by decide +kernel⟩)) (atype := .int) (ty := .int) rfl hC.1 (pos1 := 126) (by decide +kernel) (N := 48) (a0 := (48, .inl (fun _ => 0))) (fun _ => rfl) (by decide +kernel) (by decide +kernel) (by decide +kernel) (Nat.le_of_ble_eq_true rfl) (Nat.le_of_ble_eq_true rfl) (by decide +kernel) 6 (by decide +kernel) (Nat.le_of_ble_eq_true rfl) (index := 32) (pos := 162) (by decide +kernel) rfl rfl (by decide +kernel) (fun q7 H locs hP hD hS => ?_)
  refine bkI F (by decide) hP hD hS hl0 (pc := 63) (len := 1) (n := 0) (by decide +kernel) (Or.inl ⟨rfl, by decide +kernel⟩) 7 (by decide +kernel) (Nat.le_of_ble_eq_true rfl) (index := 35) (pos := 164) (by decide +kernel) rfl rfl rfl rfl (by decide +kernel) (fun H locs hP hD hS => ?_)
  refine bkI F (by decide) hP hD hS hl0 (pc := 68) (len := 1) (n := 0) (by decide +kernel) (Or.inl ⟨rfl, by decide +kernel⟩) 8 (by decide +kernel) (Nat.le_of_ble_eq_true rfl) (index := 39) (pos := 165) (by decide +kernel) rfl rfl rfl rfl (by decide +kernel) (fun H locs hP hD hS => ?_)
  refine bkI F (by decide) hP hD hS hl0 (pc := 73) (len := 1) (n := 1) (by decide +kernel) (Or.inl ⟨rfl, by decide +kernel⟩) 9 (by decide +kernel) (Nat.le_of_ble_eq_true rfl) (index := 42) (pos := 167) (by decide +kernel) rfl rfl rfl rfl (by decide +kernel) (fun H locs hP hD hS => ?_)
  refine W.widen (k := 13) (n := 202) (Nat.le_of_ble_eq_true rfl) (Nat.le_of_ble_eq_true rfl) ?_
  have hP1 := P_re (k := 3) (y := (6, .inr (.inr (.inr (.inr (fun j => some ((aP h0 q1 q2 q3 q4 q5 q6 q7) (14 + j)))))))) hP rfl (show arrV (gM g) 6 (fun j => va_rf (some (q3 + 1 + j))) = arrV (gM g) 6 (fun j => va_rf (some ((aP h0 q1 q2 q3 q4 q5 q6 q7) (14 + j)))) from arrV_ext (fun j hj => by
    match j, hj with
    | 0, _ => rfl
    | 1, _ => rfl
    | 2, _ => rfl
    | 3, _ => rfl
    | 4, _ => rfl
    | 5, _ => rfl))
  have hP0 : va_P g.D cls (segM g 10 14 (aP h0 q1 q2 q3 q4 q5 q6 q7) (mPl 0)) H := hP1
  have hD9 : va_D (va_A [(h0, .inr (9, [.null, .null, .null, .null, .null, .null, .null, .int 0, .int 0, .int 0]))] s.heap.size) (segM g 10 14 (aP h0 q1 q2 q3 q4 q5 q6 q7) (mPl 0)) := D_fst hD rfl
  have hP := hP0
  have hD := hD9
  have loop : ∀ (k i : Nat) (ls : Array Slot) (H : Heap) (locs : List Loc), k + i = 6 → lv_has ls 2 [(1, .int (Int32.ofInt i)), (0, .ref h0)] → va_P g.D cls (segM g 10 14 (aP h0 q1 q2 q3 q4 q5 q6 q7) (mPl i)) H → va_D (va_A [(h0, .inr (9, [.null, .null, .null, .null, .null, .null, .null, .int 0, .int 0, .int 0]))] s.heap.size) (segM g 10 14 (aP h0 q1 q2 q3 q4 q5 q6 q7) (mPl i)) → va_S (va_A [(h0, .inr (9, [.null, .null, .null, .null, .null, .null, .null, .int 0, .int 0, .int 0]))] s.heap.size) s.heap H locs → W p l e (rmI 1 13 202) s m ([Value.ref h0]).toArray below meth c H locs 13 202 (MQ below (QcI g 10 14 h0 s.heap.size 9 [.null, .null, .null, .null, .null, .null, .null, .int 0, .int 0, .int 0]) ([Value.ref h0]).toArray s 13 202 (va_A [(h0, .inr (9, [.null, .null, .null, .null, .null, .null, .null, .int 0, .int 0, .int 0]))] s.heap.size)) (F0 m 80 ls []) := by
    intro k
    induction k with
    | zero =>
      intro i ls H locs hk hl hP hD hS
      have e : i = 6 := by omega
      subst e
      refine lv_iload_n F.1 F.2.1 (k := 1) (pc := 80) (by decide +kernel) rfl (lv_at hl 0 rfl) ?_
      refine i_push F (pc := 81) (len := 2) (n := 6) (Or.inr (Or.inl ⟨rfl, by decide +kernel, by decide +kernel⟩)) ?_
      refine lv_icmp_ge F.1 F.2.1 (off := 18) (tgt := 101) (pc := 83) (by decide +kernel) rfl (fun _ => ?_) (fun h => absurd (by decide +kernel) h)
      have hP2 : va_P g.D cls (segW g 10 14 (aP h0 q1 q2 q3 q4 q5 q6 q7)) H := by
        have h := hP
        rw [segM_congr (m' := m0) mPl_6] at h
        exact h
      have hD2 : va_D (va_A [(h0, .inr (9, [.null, .null, .null, .null, .null, .null, .null, .int 0, .int 0, .int 0]))] s.heap.size) (segW g 10 14 (aP h0 q1 q2 q3 q4 q5 q6 q7)) := by
        have h := hD
        rw [segM_congr (m' := m0) mPl_6] at h
        exact h
      exact W.vret F.1 F.2.1 B.returns (fun t ht hW => ⟨⟨(aP h0 q1 q2 q3 q4 q5 q6 q7), rfl, rfl, by rw [ht]; exact hP2, hD2⟩, hS.F ht⟩) hS.2.2 (by decide +kernel)
    | succ k ih =>
      intro i ls H locs hk hl hP hD hS
      have hi : inI (i : Int) := by unfold inI; omega
      refine lv_iload_n F.1 F.2.1 (k := 1) (pc := 80) (by decide +kernel) rfl (lv_at hl 0 rfl) ?_
      refine i_push F (pc := 81) (len := 2) (n := 6) (Or.inr (Or.inl ⟨rfl, by decide +kernel, by decide +kernel⟩)) ?_
      refine lv_icmp_ge F.1 F.2.1 (off := 18) (tgt := 101) (pc := 83) (by decide +kernel) rfl (fun h => ?_) (fun _ => ?_)
      · have := (leI (x := 6) (y := (i : Int)) (by unfold inI; omega) hi).mp h
        omega
      · refine lv_aload_n F.1 F.2.1 (k := 0) (pc := 86) (by decide +kernel) rfl (lv_at hl 1 rfl) ?_
        refine i_get F (by decide) hP 0 (a := h0) (fs := (List.range 10).map (fvl (aP h0 q1 q2 q3 q4 q5 q6 q7) (mPl i 10) [11, 12, 13, 20, 21, 22, 23, 0, 0, 0] 9)) rfl 2 (by decide +kernel) (index := 20) (pos := 155) (by decide +kernel) rfl (v := .ref ((aP h0 q1 q2 q3 q4 q5 q6 q7) 13)) rfl (pc := 87) (by decide +kernel) ?_
        refine lv_iload_n F.1 F.2.1 (k := 1) (pc := 90) (by decide +kernel) rfl (lv_at hl 0 rfl) ?_
        refine sg_aald F (pc := 91) (by decide +kernel) (A := (aP h0 q1 q2 q3 q4 q5 q6 q7)) (k0 := 10) (n := 14) (k := 3) (N := 6) (rs := [14]) (i := (i : Int)) (by decide) rfl hi (by omega) (by omega) hP ?_
        have ei : ([14] : List Nat).getD 0 0 + ((i : Int)).toNat = 10 + (4 + i) := by
          show 14 + _ = _
          omega
        rw [ei]
        refine i_push F (pc := 92) (len := 1) (n := 3) (Or.inl ⟨rfl, by decide +kernel⟩) ?_
        refine i_push F (pc := 93) (len := 1) (n := 1) (Or.inl ⟨rfl, by decide +kernel⟩) ?_
        refine sg_ist F (pc := 94) (by decide +kernel) (A := (aP h0 q1 q2 q3 q4 q5 q6 q7)) (k0 := 10) (n := 14) (k := 4 + i) (N := 5) (rs := []) (i := 3) (x := 1) (by omega) (pl_sh i (by omega)) (by unfold inI; omega) (by omega) (by omega) hP hD hS (fun H1 locs1 hP1 hD1 hS1 => ?_)
        refine lv_iinc F.1 F.2.1 (i := 1) (n := 1) (pc := 95) (by decide +kernel) hl (k := 0) rfl rfl (by decide) rfl (fun ls1 hl1 => ?_)
        refine lv_goto F.1 F.2.1 (off := -18) (tgt := 80) (pc := 98) (by decide +kernel) rfl ?_
        rw [mPl_s (by omega)] at hP1 hD1
        refine ih (i + 1) ls1 H1 locs1 (by omega) ?_ hP1 hD1 hS1
        have e : Int32.ofInt (i : Int) + Int32.ofInt 1 = Int32.ofInt ((i + 1 : Nat) : Int) := by
          rw [← Int32.ofInt_add]; rfl
        rw [e] at hl1
        exact hl1
  refine lv_iconst F.1 F.2.1 (n := 0) (v := Int32.ofInt ((0 : Nat) : Int)) (pc := 78) (by decide +kernel) rfl ?_
  refine lv_istore_n F.1 F.2.1 (k := 1) (pc := 79) (by decide +kernel) rfl hl (by decide) rfl (fun ls1 hl1 => ?_)
  exact loop 6 0 ls1 H locs rfl hl1 hP hD hS
set_option maxHeartbeats 8000000 in
set_option maxRecDepth 100000 in
theorem ini_Register (l : Launch) (g : Gx) (h0 sz : Nat) : MetI l g 40 7 h0 sz 10 [.null, .null, .null, .null, .null, .null, .int 0, .int 0] ⟨"ChildTrains$Register", "<init>", "()V"⟩ prog_11_method_1_code 1 2 6 448 := by
  refine Met.ofW (cc := prog_11_method_1_code) (maxL := 1) (ret := none) (by decide +kernel) rfl ?_
  intro p e s m args below meth c s₁ B hml hv
  obtain ⟨rfl, hsz, hWd, hC, hK, hP, hD0⟩ := hv
  have F : Fi p s m meth c g 1 prog_11_method_1_code 10 := ⟨B.exec, B.bytes, hml, findClass_of_methodNamed B.named, hWd, hK, hC, (name_of_methodNamed B.named B.method).1⟩
  subst hsz
  have hD := hD0.self (sz := s.heap.size)
  have hA : ∀ q : Nat, s.heap.size ≤ q → va_A [(h0, .inr (10, [.null, .null, .null, .null, .null, .null, .int 0, .int 0]))] s.heap.size q := fun q h => Or.inr h
  have hS : va_S (va_A [(h0, .inr (10, [.null, .null, .null, .null, .null, .null, .int 0, .int 0]))] s.heap.size) s.heap s.heap [] := va_S.rf
  have hl := lv_entry ([.ref h0]) (n := 1) (Nat.le_of_ble_eq_true rfl)
  rw [lg_entry_eq]
  generalize (lg_sl ([.ref h0]) ++ List.replicate (1 - (lg_sl ([.ref h0])).length) Slot.unset).toArray = ls at hl ⊢
  have hl : lv_has ls 1 [(0, .ref h0)] := hl
  have hl0 := lv_at hl 0 rfl
  refine lv_aload_n F.1 F.2.1 (k := 0) (by decide +kernel) rfl hl0 ?_
  refine W.objInit F.1 F.2.1 F.2.2.2.1 (hWd (.methodLink "ChildTrains$Register" 3 objectInit) (lw_at (pos := 303) (by decide +kernel)) rfl _) (hWd (.instanceMethod objectInit) (lw_at (pos := 84) (by decide +kernel)) rfl _) (hWd (.code objectInit ⟨#[0xb1]⟩ 1 none) (lw_at (pos := 85) rfl) rfl _) rfl (by rw [hml]; exact hl.1) rfl (show decode prog_11_method_1_code 1 = .ok (.invokespecial 3, 3) by decide +kernel) (Nat.le_of_ble_eq_true rfl) (Nat.le_of_ble_eq_true rfl) ?_
  refine W.eq (g2 := F0 m 4 ls []) rfl ?_
  refine bkA F (by decide) hP hD hS hA hl0 (pc := 4) (len := 2) (n := 80) (by decide +kernel) (Or.inr (Or.inl ⟨rfl, by decide +kernel, by decide +kernel⟩)) (atype := .int) (ty := .int) rfl hC.1 (pos1 := 126) (by decide +kernel) (N := 80) (a0 := (80, .inl (fun _ => 0))) (fun _ => rfl) (by decide +kernel) (by decide +kernel) (by decide +kernel) (Nat.le_of_ble_eq_true rfl) (Nat.le_of_ble_eq_true rfl) (by decide +kernel) 0 (by decide +kernel) (Nat.le_of_ble_eq_true rfl) (index := 9) (pos := 307) (by decide +kernel) rfl rfl (by decide +kernel) (fun q1 H locs hP hD hS => ?_)
  refine bkA F (by decide) hP hD hS hA hl0 (pc := 12) (len := 2) (n := 80) (by decide +kernel) (Or.inr (Or.inl ⟨rfl, by decide +kernel, by decide +kernel⟩)) (atype := .int) (ty := .int) rfl hC.1 (pos1 := 126) (by decide +kernel) (N := 80) (a0 := (80, .inl (fun _ => 0))) (fun _ => rfl) (by decide +kernel) (by decide +kernel) (by decide +kernel) (Nat.le_of_ble_eq_true rfl) (Nat.le_of_ble_eq_true rfl) (by decide +kernel) 1 (by decide +kernel) (Nat.le_of_ble_eq_true rfl) (index := 15) (pos := 308) (by decide +kernel) rfl rfl (by decide +kernel) (fun q2 H locs hP hD hS => ?_)
  refine bkA F (by decide) hP hD hS hA hl0 (pc := 20) (len := 2) (n := 80) (by decide +kernel) (Or.inr (Or.inl ⟨rfl, by decide +kernel, by decide +kernel⟩)) (atype := .int) (ty := .int) rfl hC.1 (pos1 := 126) (by decide +kernel) (N := 80) (a0 := (80, .inl (fun _ => 0))) (fun _ => rfl) (by decide +kernel) (by decide +kernel) (by decide +kernel) (Nat.le_of_ble_eq_true rfl) (Nat.le_of_ble_eq_true rfl) (by decide +kernel) 2 (by decide +kernel) (Nat.le_of_ble_eq_true rfl) (index := 18) (pos := 309) (by decide +kernel) rfl rfl (by decide +kernel) (fun q3 H locs hP hD hS => ?_)
  refine bkA F (by decide) hP hD hS hA hl0 (pc := 28) (len := 2) (n := 80) (by decide +kernel) (Or.inr (Or.inl ⟨rfl, by decide +kernel, by decide +kernel⟩)) (atype := .int) (ty := .int) rfl hC.1 (pos1 := 126) (by decide +kernel) (N := 80) (a0 := (80, .inl (fun _ => 0))) (fun _ => rfl) (by decide +kernel) (by decide +kernel) (by decide +kernel) (Nat.le_of_ble_eq_true rfl) (Nat.le_of_ble_eq_true rfl) (by decide +kernel) 3 (by decide +kernel) (Nat.le_of_ble_eq_true rfl) (index := 21) (pos := 310) (by decide +kernel) rfl rfl (by decide +kernel) (fun q4 H locs hP hD hS => ?_)
  refine bkA F (by decide) hP hD hS hA hl0 (pc := 36) (len := 2) (n := 48) (by decide +kernel) (Or.inr (Or.inl ⟨rfl, by decide +kernel, by decide +kernel⟩)) (atype := .int) (ty := .int) rfl hC.1 (pos1 := 126) (by decide +kernel) (N := 48) (a0 := (48, .inl (fun _ => 0))) (fun _ => rfl) (by decide +kernel) (by decide +kernel) (by decide +kernel) (Nat.le_of_ble_eq_true rfl) (Nat.le_of_ble_eq_true rfl) (by decide +kernel) 4 (by decide +kernel) (Nat.le_of_ble_eq_true rfl) (index := 24) (pos := 311) (by decide +kernel) rfl rfl (by decide +kernel) (fun q5 H locs hP hD hS => ?_)
  refine bkA F (by decide) hP hD hS hA hl0 (pc := 44) (len := 2) (n := 80) (by decide +kernel) (Or.inr (Or.inl ⟨rfl, by decide +kernel, by decide +kernel⟩)) (atype := .int) (ty := .int) rfl hC.1 (pos1 := 126) (by decide +kernel) (N := 80) (a0 := (80, .inl (fun _ => 0))) (fun _ => rfl) (by decide +kernel) (by decide +kernel) (by decide +kernel) (Nat.le_of_ble_eq_true rfl) (Nat.le_of_ble_eq_true rfl) (by decide +kernel) 5 (by decide +kernel) (Nat.le_of_ble_eq_true rfl) (index := 27) (pos := 313) (by decide +kernel) rfl rfl (by decide +kernel) (fun q6 H locs hP hD hS => ?_)
  refine bkI F (by decide) hP hD hS hl0 (pc := 52) (len := 1) (n := 0) (by decide +kernel) (Or.inl ⟨rfl, by decide +kernel⟩) 6 (by decide +kernel) (Nat.le_of_ble_eq_true rfl) (index := 30) (pos := 314) (by decide +kernel) rfl rfl rfl rfl (by decide +kernel) (fun H locs hP hD hS => ?_)
  refine bkI F (by decide) hP hD hS hl0 (pc := 57) (len := 1) (n := 0) (by decide +kernel) (Or.inl ⟨rfl, by decide +kernel⟩) 7 (by decide +kernel) (Nat.le_of_ble_eq_true rfl) (index := 34) (pos := 316) (by decide +kernel) rfl rfl rfl rfl (by decide +kernel) (fun H locs hP hD hS => ?_)
  refine W.widen (k := 6) (n := 448) (Nat.le_of_ble_eq_true rfl) (Nat.le_of_ble_eq_true rfl) ?_
  refine lv_aload_n F.1 F.2.1 (k := 0) (pc := 62) (by decide +kernel) rfl hl0 ?_
  refine i_get F (by decide) hP 0 rfl 4 (by decide +kernel) (index := 24) (pos := 311) (by decide +kernel) rfl rfl (pc := 63) (by decide +kernel) ?_
  refine i_push F (pc := 66) (len := 2) (n := -9) (Or.inr (Or.inl ⟨rfl, by decide +kernel, by decide +kernel⟩)) ?_
  have hPc : va_P g.D cls [(q5, .inl (gI g, 48, .inl (fun _ => 0)))] H := hP.sub [5] rfl
  have hDc : va_D (va_A [(h0, .inr (10, [.null, .null, .null, .null, .null, .null, .int 0, .int 0]))] s.heap.size) [(q5, .inl (gI g, 48, .inl (fun _ => 0)))] := hD.sub [5] rfl rfl
  have hFc := va_free (wc := [(q5, .inl (gI g, 48, .inl (fun _ => 0)))]) hD hS hA [5] rfl
  have hpre : PreS s H (PcF g q5 H.size) [.ref q5, .int (Int32.ofInt (-9))] := ⟨fun a U f mk h => by
      obtain ⟨q0, q1, qK, qP, qD⟩ := h
      exact ⟨q0, q1, va_K.moved (u := U) (U := U.calling f mk a) (Vm.Alike.refl U.vm) qK, qP, qD⟩, fun U hU hW => ⟨rfl, by rw [hU], va_K.moved hW.alike hK, by rw [hU]; exact hPc, hDc.weaken (fun _ _ _ _ => trivial)⟩⟩
  have hcw : (∀ w ∈ [Cond.code yFl prog_20_method_103_code 4 none], ∀ (a' : Array Value) (U : State), s.WarmedH U.vm → w.before a' U = true) := by
    intro w hw9 a' U hW
    rw [List.mem_singleton.mp hw9]
    exact (hWd.warm hW) _ (lw_at (pos := 306) (by decide +kernel)) rfl a'
  have hrun : va_Run p l e (rmI 2 6 448) s m ([Value.ref h0]).toArray below meth c H locs 6 448 0 0 (F0 m 68 ls [.int (Int32.ofInt (-9)), .ref q5]) [] (QcF g q5 H.size ([Value.ref q5, .int (Int32.ofInt (-9))]).toArray) (va_A [(q5, .inl (gI g, 48, .inl (fun _ => 0)))] H.size) := by
    exact va_runS (n := 2) (As := [.ref q5, .int (Int32.ofInt (-9))]) ⟨F.1, F.2.1, F.2.2.1, F.2.2.2.1, hWd.hts _⟩ (ini_fill l g q5 H.size) ⟨⟨rfl, rfl, Nat.le_of_ble_eq_true rfl, Nat.le_of_ble_eq_true rfl, hcw, List.mem_singleton.mpr rfl, hWd _ (lw_at (pos := 306) (by decide +kernel)) rfl _, hWd (.initialized "java/util/Arrays") (lw_at (pos := 67) (by decide +kernel)) rfl _, ⟨by decide +kernel, by decide +kernel⟩, sig_len (by decide +kernel), hWd (.methodLink "ChildTrains$Register" 37 yFl) (lw_at (pos := 304) (by decide +kernel)) rfl _⟩, hWd (.static yFl) (lw_at (pos := 305) (by decide +kernel)) rfl _⟩ hpre rfl rfl hl.1 rfl (lv_room (Nat.le_of_ble_eq_true rfl)) (show decode prog_11_method_1_code 68 = .ok (.invokestatic 37, 3) by decide +kernel) ⟨Nat.le_of_ble_eq_true rfl, Nat.le_of_ble_eq_true rfl⟩
  refine va_callv hrun hS (fun q _ h => hFc q h) hFc (fun u t H2 locs2 ht hvm h5 hB hz1 hk1 hS2 => ?_)
  obtain ⟨hP2, hD2⟩ := hB
  rw [ht] at hP2
  obtain ⟨hP3, hD3⟩ := va_join (wc := [(q5, .inl (gI g, 48, .inl (fun _ => 0)))]) (wr := [(h0, .inr (10, [.ref q1, .ref q2, .ref q3, .ref q4, .ref q5, .ref q6, .int 0, .int 0])), (q1, .inl (gI g, 80, .inl (fun _ => 0))), (q2, .inl (gI g, 80, .inl (fun _ => 0))), (q3, .inl (gI g, 80, .inl (fun _ => 0))), (q4, .inl (gI g, 80, .inl (fun _ => 0))), (q6, .inl (gI g, 80, .inl (fun _ => 0)))]) (w1 := [(q5, .inl (gI g, 48, .inl (fun _ => Int32.ofInt (-9))))]) hP hD [5] [0, 1, 2, 3, 4, 6] rfl rfl rfl (by decide) hk1 hFc hP2 hD2
  have hP4 : va_P g.D cls (segW g 40 7 (aQ [h0, q1, q2, q3, q4, q5, q6] 40)) H2 := hP3.sub [0, 1, 2, 3, 4, 6, 5] rfl
  have hD4 : va_D (va_A [(h0, .inr (10, [.null, .null, .null, .null, .null, .null, .int 0, .int 0]))] s.heap.size) (segW g 40 7 (aQ [h0, q1, q2, q3, q4, q5, q6] 40)) := hD3.sub [0, 1, 2, 3, 4, 6, 5] rfl rfl
  refine W.widen (k := 6) (n := 448) (Nat.le_of_ble_eq_true rfl) (Nat.le_of_ble_eq_true rfl) ?_
  exact W.vret F.1 F.2.1 B.returns (fun t ht hW => ⟨⟨(aQ [h0, q1, q2, q3, q4, q5, q6] 40), rfl, rfl, by rw [ht]; exact hP4, hD4⟩, hS2.F ht⟩) hS2.2.2 (by decide +kernel)
