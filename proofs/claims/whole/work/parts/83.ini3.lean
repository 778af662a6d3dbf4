/-! constructors: the leaves, printed by genini.py -/
set_option maxHeartbeats 8000000 in
set_option maxRecDepth 100000 in
theorem ini_Children (l : Launch) (g : Gx) (h0 sz : Nat) : MetI l g 1 7 h0 sz 1 [.null, .null, .null, .null, .null, .null, .int 0] ⟨"ChildTrains$Children", "<init>", "()V"⟩ prog_2_method_1_code 1 1 6 288 := by
  refine Met.ofW (cc := prog_2_method_1_code) (maxL := 1) (ret := none) (by decide +kernel) rfl ?_
  intro p e s m args below meth c s₁ B hml hv
  obtain ⟨rfl, hsz, hWd, hC, hK, hP, hD0⟩ := hv
  have F : Fi p s m meth c g 1 prog_2_method_1_code 1 := ⟨B.exec, B.bytes, hml, findClass_of_methodNamed B.named, hWd, hK, hC, (name_of_methodNamed B.named B.method).1⟩
  subst hsz
  have hD := hD0.self (sz := s.heap.size)
  have hA : ∀ q : Nat, s.heap.size ≤ q → va_A [(h0, .inr (1, [.null, .null, .null, .null, .null, .null, .int 0]))] s.heap.size q := fun q h => Or.inr h
  have hS : va_S (va_A [(h0, .inr (1, [.null, .null, .null, .null, .null, .null, .int 0]))] s.heap.size) s.heap s.heap [] := va_S.rf
  have hl := lv_entry ([.ref h0]) (n := 1) (Nat.le_of_ble_eq_true rfl)
  rw [lg_entry_eq]
  generalize (lg_sl ([.ref h0]) ++ List.replicate (1 - (lg_sl ([.ref h0])).length) Slot.unset).toArray = ls at hl ⊢
  have hl : lv_has ls 1 [(0, .ref h0)] := hl
  have hl0 := lv_at hl 0 rfl
  refine lv_aload_n F.1 F.2.1 (k := 0) (by decide +kernel) rfl hl0 ?_
  refine W.objInit F.1 F.2.1 F.2.2.2.1 (hWd (.methodLink "ChildTrains$Children" 3 objectInit) (lw_at (pos := 91) (by decide +kernel)) rfl _) (hWd (.instanceMethod objectInit) (lw_at (pos := 84) (by decide +kernel)) rfl _) (hWd (.code objectInit ⟨#[0xb1]⟩ 1 none) (lw_at (pos := 85) rfl) rfl _) rfl (by rw [hml]; exact hl.1) rfl (show decode prog_2_method_1_code 1 = .ok (.invokespecial 3, 3) by decide +kernel) (Nat.le_of_ble_eq_true rfl) (Nat.le_of_ble_eq_true rfl) ?_
  refine W.eq (g2 := F0 m 4 ls []) rfl ?_
  refine bkA F (by decide) hP hD hS hA hl0 (pc := 4) (len := 2) (n := 48) (by decide +kernel) (Or.inr (Or.inl ⟨rfl, by decide +kernel, by decide +kernel⟩)) (atype := .int) (ty := .int) rfl hC.1 (pos1 := 126) (by decide +kernel) (N := 48) (a0 := (48, .inl (fun _ => 0))) (fun _ => rfl) (by decide +kernel) (by decide +kernel) (by decide +kernel) (Nat.le_of_ble_eq_true rfl) (Nat.le_of_ble_eq_true rfl) (by decide +kernel) 0 (by decide +kernel) (Nat.le_of_ble_eq_true rfl) (index := 9) (pos := 92) (by decide +kernel) rfl rfl (by decide +kernel) (fun q1 H locs hP hD hS => ?_)
  refine bkA F (by decide) hP hD hS hA hl0 (pc := 12) (len := 2) (n := 48) (by decide +kernel) (Or.inr (Or.inl ⟨rfl, by decide +kernel, by decide +kernel⟩)) (atype := .int) (ty := .int) rfl hC.1 (pos1 := 126) (by decide +kernel) (N := 48) (a0 := (48, .inl (fun _ => 0))) (fun _ => rfl) (by decide +kernel) (by decide +kernel) (by decide +kernel) (Nat.le_of_ble_eq_true rfl) (Nat.le_of_ble_eq_true rfl) (by decide +kernel) 1 (by decide +kernel) (Nat.le_of_ble_eq_true rfl) (index := 15) (pos := 94) (by decide +kernel) rfl rfl (by decide +kernel) (fun q2 H locs hP hD hS => ?_)
  refine bkA F (by decide) hP hD hS hA hl0 (pc := 20) (len := 2) (n := 48) (by decide +kernel) (Or.inr (Or.inl ⟨rfl, by decide +kernel, by decide +kernel⟩)) (atype := .int) (ty := .int) rfl hC.1 (pos1 := 126) (by decide +kernel) (N := 48) (a0 := (48, .inl (fun _ => 0))) (fun _ => rfl) (by decide +kernel) (by decide +kernel) (by decide +kernel) (Nat.le_of_ble_eq_true rfl) (Nat.le_of_ble_eq_true rfl) (by decide +kernel) 2 (by decide +kernel) (Nat.le_of_ble_eq_true rfl) (index := 18) (pos := 98) (by decide +kernel) rfl rfl (by decide +kernel) (fun q3 H locs hP hD hS => ?_)
  refine bkA F (by decide) hP hD hS hA hl0 (pc := 28) (len := 2) (n := 48) (by decide +kernel) (Or.inr (Or.inl ⟨rfl, by decide +kernel, by decide +kernel⟩)) (atype := .int) (ty := .int) rfl hC.1 (pos1 := 126) (by decide +kernel) (N := 48) (a0 := (48, .inl (fun _ => 0))) (fun _ => rfl) (by decide +kernel) (by decide +kernel) (by decide +kernel) (Nat.le_of_ble_eq_true rfl) (Nat.le_of_ble_eq_true rfl) (by decide +kernel) 3 (by decide +kernel) (Nat.le_of_ble_eq_true rfl) (index := 21) (pos := 99) (by decide +kernel) rfl rfl (by decide +kernel) (fun q4 H locs hP hD hS => ?_)
  refine bkA F (by decide) hP hD hS hA hl0 (pc := 36) (len := 2) (n := 48) (by decide +kernel) (Or.inr (Or.inl ⟨rfl, by decide +kernel, by decide +kernel⟩)) (atype := .long) (ty := .long) rfl hC.2.1 (pos1 := 127) (by decide +kernel) (N := 48) (a0 := (48, .inr (.inl (fun _ => 0)))) (fun _ => rfl) (by decide +kernel) (by decide +kernel) (by decide +kernel) (Nat.le_of_ble_eq_true rfl) (Nat.le_of_ble_eq_true rfl) (by decide +kernel) 4 (by decide +kernel) (Nat.le_of_ble_eq_true rfl) (index := 24) (pos := 102) (by decide +kernel) rfl rfl (by decide +kernel) (fun q5 H locs hP hD hS => ?_)
  refine bkA F (by decide) hP hD hS hA hl0 (pc := 44) (len := 2) (n := 48) (by decide +kernel) (Or.inr (Or.inl ⟨rfl, by decide +kernel, by decide +kernel⟩)) (atype := .int) (ty := .int) rfl hC.1 (pos1 := 126) (by decide +kernel) (N := 48) (a0 := (48, .inl (fun _ => 0))) (fun _ => rfl) (by decide +kernel) (by decide +kernel) (by decide +kernel) (Nat.le_of_ble_eq_true rfl) (Nat.le_of_ble_eq_true rfl) (by decide +kernel) 5 (by decide +kernel) (Nat.le_of_ble_eq_true rfl) (index := 28) (pos := 104) (by decide +kernel) rfl rfl (by decide +kernel) (fun q6 H locs hP hD hS => ?_)
  refine bkI F (by decide) hP hD hS hl0 (pc := 52) (len := 1) (n := 0) (by decide +kernel) (Or.inl ⟨rfl, by decide +kernel⟩) 6 (by decide +kernel) (Nat.le_of_ble_eq_true rfl) (index := 31) (pos := 106) (by decide +kernel) rfl rfl rfl rfl (by decide +kernel) (fun H locs hP hD hS => ?_)
  refine W.widen (k := 6) (n := 288) (Nat.le_of_ble_eq_true rfl) (Nat.le_of_ble_eq_true rfl) ?_
  exact W.vret F.1 F.2.1 B.returns (fun t ht hW => ⟨⟨fun k => ([h0, q1, q2, q3, q4, q5, q6] : List Nat).getD (k - 1) 0, rfl, rfl, by rw [ht]; exact hP, hD⟩, hS.F ht⟩) hS.2.2 (by decide +kernel)
set_option maxHeartbeats 8000000 in
set_option maxRecDepth 100000 in
theorem ini_Draft (l : Launch) (g : Gx) (h0 sz : Nat) : MetI l g 8 2 h0 sz 2 [.null, .int 0] ⟨"ChildTrains$Draft", "<init>", "()V"⟩ prog_3_method_1_code 1 1 1 600 := by
  refine Met.ofW (cc := prog_3_method_1_code) (maxL := 1) (ret := none) (by decide +kernel) rfl ?_
  intro p e s m args below meth c s₁ B hml hv
  obtain ⟨rfl, hsz, hWd, hC, hK, hP, hD0⟩ := hv
  have F : Fi p s m meth c g 1 prog_3_method_1_code 2 := ⟨B.exec, B.bytes, hml, findClass_of_methodNamed B.named, hWd, hK, hC, (name_of_methodNamed B.named B.method).1⟩
  subst hsz
  have hD := hD0.self (sz := s.heap.size)
  have hA : ∀ q : Nat, s.heap.size ≤ q → va_A [(h0, .inr (2, [.null, .int 0]))] s.heap.size q := fun q h => Or.inr h
  have hS : va_S (va_A [(h0, .inr (2, [.null, .int 0]))] s.heap.size) s.heap s.heap [] := va_S.rf
  have hl := lv_entry ([.ref h0]) (n := 1) (Nat.le_of_ble_eq_true rfl)
  rw [lg_entry_eq]
  generalize (lg_sl ([.ref h0]) ++ List.replicate (1 - (lg_sl ([.ref h0])).length) Slot.unset).toArray = ls at hl ⊢
  have hl : lv_has ls 1 [(0, .ref h0)] := hl
  have hl0 := lv_at hl 0 rfl
  refine lv_aload_n F.1 F.2.1 (k := 0) (by decide +kernel) rfl hl0 ?_
  refine W.objInit F.1 F.2.1 F.2.2.2.1 (hWd (.methodLink "ChildTrains$Draft" 3 objectInit) (lw_at (pos := 133) (by decide +kernel)) rfl _) (hWd (.instanceMethod objectInit) (lw_at (pos := 84) (by decide +kernel)) rfl _) (hWd (.code objectInit ⟨#[0xb1]⟩ 1 none) (lw_at (pos := 85) rfl) rfl _) rfl (by rw [hml]; exact hl.1) rfl (show decode prog_3_method_1_code 1 = .ok (.invokespecial 3, 3) by decide +kernel) (Nat.le_of_ble_eq_true rfl) (Nat.le_of_ble_eq_true rfl) ?_
  refine W.eq (g2 := F0 m 4 ls []) rfl ?_
  refine bkA F (by decide) hP hD hS hA hl0 (pc := 4) (len := 3) (n := 600) (by decide +kernel) (Or.inr (Or.inr ⟨rfl, by decide +kernel, by decide +kernel⟩)) (atype := .int) (ty := .int) rfl hC.1 (pos1 := 126) (by decide +kernel) (N := 600) (a0 := (600, .inl (fun _ => 0))) (fun _ => rfl) (by decide +kernel) (by decide +kernel) (by decide +kernel) (Nat.le_of_ble_eq_true rfl) (Nat.le_of_ble_eq_true rfl) (by decide +kernel) 0 (by decide +kernel) (Nat.le_of_ble_eq_true rfl) (index := 9) (pos := 134) (by decide +kernel) rfl rfl (by decide +kernel) (fun q1 H locs hP hD hS => ?_)
  refine bkI F (by decide) hP hD hS hl0 (pc := 13) (len := 1) (n := 0) (by decide +kernel) (Or.inl ⟨rfl, by decide +kernel⟩) 1 (by decide +kernel) (Nat.le_of_ble_eq_true rfl) (index := 15) (pos := 135) (by decide +kernel) rfl rfl rfl rfl (by decide +kernel) (fun H locs hP hD hS => ?_)
  refine W.widen (k := 1) (n := 600) (Nat.le_of_ble_eq_true rfl) (Nat.le_of_ble_eq_true rfl) ?_
  exact W.vret F.1 F.2.1 B.returns (fun t ht hW => ⟨⟨fun k => ([h0, q1] : List Nat).getD (k - 8) 0, rfl, rfl, by rw [ht]; exact hP, hD⟩, hS.F ht⟩) hS.2.2 (by decide +kernel)
set_option maxHeartbeats 8000000 in
set_option maxRecDepth 100000 in
theorem ini_Houses (l : Launch) (g : Gx) (h0 sz : Nat) : MetI l g 24 6 h0 sz 4 [.null, .null, .null, .null, .null, .int 0] ⟨"ChildTrains$Houses", "<init>", "()V"⟩ prog_5_method_1_code 1 1 5 120 := by
  refine Met.ofW (cc := prog_5_method_1_code) (maxL := 1) (ret := none) (by decide +kernel) rfl ?_
  intro p e s m args below meth c s₁ B hml hv
  obtain ⟨rfl, hsz, hWd, hC, hK, hP, hD0⟩ := hv
  have F : Fi p s m meth c g 1 prog_5_method_1_code 4 := ⟨B.exec, B.bytes, hml, findClass_of_methodNamed B.named, hWd, hK, hC, (name_of_methodNamed B.named B.method).1⟩
  subst hsz
  have hD := hD0.self (sz := s.heap.size)
  have hA : ∀ q : Nat, s.heap.size ≤ q → va_A [(h0, .inr (4, [.null, .null, .null, .null, .null, .int 0]))] s.heap.size q := fun q h => Or.inr h
  have hS : va_S (va_A [(h0, .inr (4, [.null, .null, .null, .null, .null, .int 0]))] s.heap.size) s.heap s.heap [] := va_S.rf
  have hl := lv_entry ([.ref h0]) (n := 1) (Nat.le_of_ble_eq_true rfl)
  rw [lg_entry_eq]
  generalize (lg_sl ([.ref h0]) ++ List.replicate (1 - (lg_sl ([.ref h0])).length) Slot.unset).toArray = ls at hl ⊢
  have hl : lv_has ls 1 [(0, .ref h0)] := hl
  have hl0 := lv_at hl 0 rfl
  refine lv_aload_n F.1 F.2.1 (k := 0) (by decide +kernel) rfl hl0 ?_
  refine W.objInit F.1 F.2.1 F.2.2.2.1 (hWd (.methodLink "ChildTrains$Houses" 3 objectInit) (lw_at (pos := 195) (by decide +kernel)) rfl _) (hWd (.instanceMethod objectInit) (lw_at (pos := 84) (by decide +kernel)) rfl _) (hWd (.code objectInit ⟨#[0xb1]⟩ 1 none) (lw_at (pos := 85) rfl) rfl _) rfl (by rw [hml]; exact hl.1) rfl (show decode prog_5_method_1_code 1 = .ok (.invokespecial 3, 3) by decide +kernel) (Nat.le_of_ble_eq_true rfl) (Nat.le_of_ble_eq_true rfl) ?_
  refine W.eq (g2 := F0 m 4 ls []) rfl ?_
  refine bkA F (by decide) hP hD hS hA hl0 (pc := 4) (len := 2) (n := 24) (by decide +kernel) (Or.inr (Or.inl ⟨rfl, by decide +kernel, by decide +kernel⟩)) (atype := .int) (ty := .int) rfl hC.1 (pos1 := 126) (by decide +kernel) (N := 24) (a0 := (24, .inl (fun _ => 0))) (fun _ => rfl) (by decide +kernel) (by decide +kernel) (by decide +kernel) (Nat.le_of_ble_eq_true rfl) (Nat.le_of_ble_eq_true rfl) (by decide +kernel) 0 (by decide +kernel) (Nat.le_of_ble_eq_true rfl) (index := 9) (pos := 196) (by decide +kernel) rfl rfl (by decide +kernel) (fun q1 H locs hP hD hS => ?_)
  refine bkA F (by decide) hP hD hS hA hl0 (pc := 12) (len := 2) (n := 24) (by decide +kernel) (Or.inr (Or.inl ⟨rfl, by decide +kernel, by decide +kernel⟩)) (atype := .int) (ty := .int) rfl hC.1 (pos1 := 126) (by decide +kernel) (N := 24) (a0 := (24, .inl (fun _ => 0))) (fun _ => rfl) (by decide +kernel) (by decide +kernel) (by decide +kernel) (Nat.le_of_ble_eq_true rfl) (Nat.le_of_ble_eq_true rfl) (by decide +kernel) 1 (by decide +kernel) (Nat.le_of_ble_eq_true rfl) (index := 15) (pos := 201) (by decide +kernel) rfl rfl (by decide +kernel) (fun q2 H locs hP hD hS => ?_)
  refine bkA F (by decide) hP hD hS hA hl0 (pc := 20) (len := 2) (n := 24) (by decide +kernel) (Or.inr (Or.inl ⟨rfl, by decide +kernel, by decide +kernel⟩)) (atype := .int) (ty := .int) rfl hC.1 (pos1 := 126) (by decide +kernel) (N := 24) (a0 := (24, .inl (fun _ => 0))) (fun _ => rfl) (by decide +kernel) (by decide +kernel) (by decide +kernel) (Nat.le_of_ble_eq_true rfl) (Nat.le_of_ble_eq_true rfl) (by decide +kernel) 2 (by decide +kernel) (Nat.le_of_ble_eq_true rfl) (index := 18) (pos := 204) (by decide +kernel) rfl rfl (by decide +kernel) (fun q3 H locs hP hD hS => ?_)
  refine bkA F (by decide) hP hD hS hA hl0 (pc := 28) (len := 2) (n := 24) (by decide +kernel) (Or.inr (Or.inl ⟨rfl, by decide +kernel, by decide +kernel⟩)) (atype := .int) (ty := .int) rfl hC.1 (pos1 := 126) (by decide +kernel) (N := 24) (a0 := (24, .inl (fun _ => 0))) (fun _ => rfl) (by decide +kernel) (by decide +kernel) (by decide +kernel) (Nat.le_of_ble_eq_true rfl) (Nat.le_of_ble_eq_true rfl) (by decide +kernel) 3 (by decide +kernel) (Nat.le_of_ble_eq_true rfl) (index := 21) (pos := 208) (by decide +kernel) rfl rfl (by decide +kernel) (fun q4 H locs hP hD hS => ?_)
  refine bkA F (by decide) hP hD hS hA hl0 (pc := 36) (len := 2) (n := 24) (by decide +kernel) (Or.inr (Or.inl ⟨rfl, by decide +kernel, by decide +kernel⟩)) (atype := .int) (ty := .int) rfl hC.1 (pos1 := 126) (by decide +kernel) (N := 24) (a0 := (24, .inl (fun _ => 0))) (fun _ => rfl) (by decide +kernel) (by decide +kernel) (by decide +kernel) (Nat.le_of_ble_eq_true rfl) (Nat.le_of_ble_eq_true rfl) (by decide +kernel) 4 (by decide +kernel) (Nat.le_of_ble_eq_true rfl) (index := 24) (pos := 209) (by decide +kernel) rfl rfl (by decide +kernel) (fun q5 H locs hP hD hS => ?_)
  refine bkI F (by decide) hP hD hS hl0 (pc := 44) (len := 1) (n := 0) (by decide +kernel) (Or.inl ⟨rfl, by decide +kernel⟩) 5 (by decide +kernel) (Nat.le_of_ble_eq_true rfl) (index := 27) (pos := 211) (by decide +kernel) rfl rfl rfl rfl (by decide +kernel) (fun H locs hP hD hS => ?_)
  refine W.widen (k := 5) (n := 120) (Nat.le_of_ble_eq_true rfl) (Nat.le_of_ble_eq_true rfl) ?_
  exact W.vret F.1 F.2.1 B.returns (fun t ht hW => ⟨⟨fun k => ([h0, q1, q2, q3, q4, q5] : List Nat).getD (k - 24) 0, rfl, rfl, by rw [ht]; exact hP, hD⟩, hS.F ht⟩) hS.2.2 (by decide +kernel)
set_option maxHeartbeats 8000000 in
set_option maxRecDepth 100000 in
theorem ini_Hall (l : Launch) (g : Gx) (h0 sz : Nat) : MetI l g 30 3 h0 sz 3 [.null, .null, .int 0] ⟨"ChildTrains$Hall", "<init>", "()V"⟩ prog_4_method_1_code 1 1 2 96 := by
  refine Met.ofW (cc := prog_4_method_1_code) (maxL := 1) (ret := none) (by decide +kernel) rfl ?_
  intro p e s m args below meth c s₁ B hml hv
  obtain ⟨rfl, hsz, hWd, hC, hK, hP, hD0⟩ := hv
  have F : Fi p s m meth c g 1 prog_4_method_1_code 3 := ⟨B.exec, B.bytes, hml, findClass_of_methodNamed B.named, hWd, hK, hC, (name_of_methodNamed B.named B.method).1⟩
  subst hsz
  have hD := hD0.self (sz := s.heap.size)
  have hA : ∀ q : Nat, s.heap.size ≤ q → va_A [(h0, .inr (3, [.null, .null, .int 0]))] s.heap.size q := fun q h => Or.inr h
  have hS : va_S (va_A [(h0, .inr (3, [.null, .null, .int 0]))] s.heap.size) s.heap s.heap [] := va_S.rf
  have hl := lv_entry ([.ref h0]) (n := 1) (Nat.le_of_ble_eq_true rfl)
  rw [lg_entry_eq]
  generalize (lg_sl ([.ref h0]) ++ List.replicate (1 - (lg_sl ([.ref h0])).length) Slot.unset).toArray = ls at hl ⊢
  have hl : lv_has ls 1 [(0, .ref h0)] := hl
  have hl0 := lv_at hl 0 rfl
  refine lv_aload_n F.1 F.2.1 (k := 0) (by decide +kernel) rfl hl0 ?_
  refine W.objInit F.1 F.2.1 F.2.2.2.1 (hWd (.methodLink "ChildTrains$Hall" 3 objectInit) (lw_at (pos := 233) (by decide +kernel)) rfl _) (hWd (.instanceMethod objectInit) (lw_at (pos := 84) (by decide +kernel)) rfl _) (hWd (.code objectInit ⟨#[0xb1]⟩ 1 none) (lw_at (pos := 85) rfl) rfl _) rfl (by rw [hml]; exact hl.1) rfl (show decode prog_4_method_1_code 1 = .ok (.invokespecial 3, 3) by decide +kernel) (Nat.le_of_ble_eq_true rfl) (Nat.le_of_ble_eq_true rfl) ?_
  refine W.eq (g2 := F0 m 4 ls []) rfl ?_
  refine bkA F (by decide) hP hD hS hA hl0 (pc := 4) (len := 2) (n := 48) (by decide +kernel) (Or.inr (Or.inl ⟨rfl, by decide +kernel, by decide +kernel⟩)) (atype := .int) (ty := .int) rfl hC.1 (pos1 := 126) (by decide +kernel) (N := 48) (a0 := (48, .inl (fun _ => 0))) (fun _ => rfl) (by decide +kernel) (by decide +kernel) (by decide +kernel) (Nat.le_of_ble_eq_true rfl) (Nat.le_of_ble_eq_true rfl) (by decide +kernel) 0 (by decide +kernel) (Nat.le_of_ble_eq_true rfl) (index := 9) (pos := 234) (by decide +kernel) rfl rfl (by decide +kernel) (fun q1 H locs hP hD hS => ?_)
  refine bkA F (by decide) hP hD hS hA hl0 (pc := 12) (len := 2) (n := 48) (by decide +kernel) (Or.inr (Or.inl ⟨rfl, by decide +kernel, by decide +kernel⟩)) (atype := .int) (ty := .int) rfl hC.1 (pos1 := 126) (by decide +kernel) (N := 48) (a0 := (48, .inl (fun _ => 0))) (fun _ => rfl) (by decide +kernel) (by decide +kernel) (by decide +kernel) (Nat.le_of_ble_eq_true rfl) (Nat.le_of_ble_eq_true rfl) (by decide +kernel) 1 (by decide +kernel) (Nat.le_of_ble_eq_true rfl) (index := 15) (pos := 236) (by decide +kernel) rfl rfl (by decide +kernel) (fun q2 H locs hP hD hS => ?_)
  refine bkI F (by decide) hP hD hS hl0 (pc := 20) (len := 1) (n := 0) (by decide +kernel) (Or.inl ⟨rfl, by decide +kernel⟩) 2 (by decide +kernel) (Nat.le_of_ble_eq_true rfl) (index := 18) (pos := 238) (by decide +kernel) rfl rfl rfl rfl (by decide +kernel) (fun H locs hP hD hS => ?_)
  refine W.widen (k := 2) (n := 96) (Nat.le_of_ble_eq_true rfl) (Nat.le_of_ble_eq_true rfl) ?_
  exact W.vret F.1 F.2.1 B.returns (fun t ht hW => ⟨⟨fun k => ([h0, q1, q2] : List Nat).getD (k - 30) 0, rfl, rfl, by rw [ht]; exact hP, hD⟩, hS.F ht⟩) hS.2.2 (by decide +kernel)
set_option maxHeartbeats 8000000 in
set_option maxRecDepth 100000 in
theorem ini_Lodging (l : Launch) (g : Gx) (h0 sz : Nat) : MetI l g 33 6 h0 sz 5 [.null, .null, .null, .null, .null, .int 0, .int 0, .int 0, .int 0, .int 0] ⟨"ChildTrains$Lodging", "<init>", "()V"⟩ prog_6_method_1_code 1 1 5 4124 := by
  refine Met.ofW (cc := prog_6_method_1_code) (maxL := 1) (ret := none) (by decide +kernel) rfl ?_
  intro p e s m args below meth c s₁ B hml hv
  obtain ⟨rfl, hsz, hWd, hC, hK, hP, hD0⟩ := hv
  have F : Fi p s m meth c g 1 prog_6_method_1_code 5 := ⟨B.exec, B.bytes, hml, findClass_of_methodNamed B.named, hWd, hK, hC, (name_of_methodNamed B.named B.method).1⟩
  subst hsz
  have hD := hD0.self (sz := s.heap.size)
  have hA : ∀ q : Nat, s.heap.size ≤ q → va_A [(h0, .inr (5, [.null, .null, .null, .null, .null, .int 0, .int 0, .int 0, .int 0, .int 0]))] s.heap.size q := fun q h => Or.inr h
  have hS : va_S (va_A [(h0, .inr (5, [.null, .null, .null, .null, .null, .int 0, .int 0, .int 0, .int 0, .int 0]))] s.heap.size) s.heap s.heap [] := va_S.rf
  have hl := lv_entry ([.ref h0]) (n := 1) (Nat.le_of_ble_eq_true rfl)
  rw [lg_entry_eq]
  generalize (lg_sl ([.ref h0]) ++ List.replicate (1 - (lg_sl ([.ref h0])).length) Slot.unset).toArray = ls at hl ⊢
  have hl : lv_has ls 1 [(0, .ref h0)] := hl
  have hl0 := lv_at hl 0 rfl
  refine lv_aload_n F.1 F.2.1 (k := 0) (by decide +kernel) rfl hl0 ?_
  refine W.objInit F.1 F.2.1 F.2.2.2.1 (hWd (.methodLink "ChildTrains$Lodging" 3 objectInit) (lw_at (pos := 253) (by decide +kernel)) rfl _) (hWd (.instanceMethod objectInit) (lw_at (pos := 84) (by decide +kernel)) rfl _) (hWd (.code objectInit ⟨#[0xb1]⟩ 1 none) (lw_at (pos := 85) rfl) rfl _) rfl (by rw [hml]; exact hl.1) rfl (show decode prog_6_method_1_code 1 = .ok (.invokespecial 3, 3) by decide +kernel) (Nat.le_of_ble_eq_true rfl) (Nat.le_of_ble_eq_true rfl) ?_
  refine W.eq (g2 := F0 m 4 ls []) rfl ?_
  refine bkA F (by decide) hP hD hS hA hl0 (pc := 4) (len := 2) (n := 12) (by decide +kernel) (Or.inr (Or.inl ⟨rfl, by decide +kernel, by decide +kernel⟩)) (atype := .int) (ty := .int) rfl hC.1 (pos1 := 126) (by decide +kernel) (N := 12) (a0 := (12, .inl (fun _ => 0))) (fun _ => rfl) (by decide +kernel) (by decide +kernel) (by decide +kernel) (Nat.le_of_ble_eq_true rfl) (Nat.le_of_ble_eq_true rfl) (by decide +kernel) 0 (by decide +kernel) (Nat.le_of_ble_eq_true rfl) (index := 9) (pos := 254) (by decide +kernel) rfl rfl (by decide +kernel) (fun q1 H locs hP hD hS => ?_)
  refine bkA F (by decide) hP hD hS hA hl0 (pc := 12) (len := 2) (n := 6) (by decide +kernel) (Or.inr (Or.inl ⟨rfl, by decide +kernel, by decide +kernel⟩)) (atype := .int) (ty := .int) rfl hC.1 (pos1 := 126) (by decide +kernel) (N := 6) (a0 := (6, .inl (fun _ => 0))) (fun _ => rfl) (by decide +kernel) (by decide +kernel) (by decide +kernel) (Nat.le_of_ble_eq_true rfl) (Nat.le_of_ble_eq_true rfl) (by decide +kernel) 1 (by decide +kernel) (Nat.le_of_ble_eq_true rfl) (index := 15) (pos := 255) (by decide +kernel) rfl rfl (by decide +kernel) (fun q2 H locs hP hD hS => ?_)
  refine bkA F (by decide) hP hD hS hA hl0 (pc := 20) (len := 2) (n := 6) (by decide +kernel) (Or.inr (Or.inl ⟨rfl, by decide +kernel, by decide +kernel⟩)) (atype := .int) (ty := .int) rfl hC.1 (pos1 := 126) (by decide +kernel) (N := 6) (a0 := (6, .inl (fun _ => 0))) (fun _ => rfl) (by decide +kernel) (by decide +kernel) (by decide +kernel) (Nat.le_of_ble_eq_true rfl) (Nat.le_of_ble_eq_true rfl) (by decide +kernel) 2 (by decide +kernel) (Nat.le_of_ble_eq_true rfl) (index := 18) (pos := 256) (by decide +kernel) rfl rfl (by decide +kernel) (fun q3 H locs hP hD hS => ?_)
  refine bkA F (by decide) hP hD hS hA hl0 (pc := 28) (len := 1) (n := 4) (by decide +kernel) (Or.inl ⟨rfl, by decide +kernel⟩) (atype := .int) (ty := .int) rfl hC.1 (pos1 := 126) (by decide +kernel) (N := 4) (a0 := (4, .inl (fun _ => 0))) (fun _ => rfl) (by decide +kernel) (by decide +kernel) (by decide +kernel) (Nat.le_of_ble_eq_true rfl) (Nat.le_of_ble_eq_true rfl) (by decide +kernel) 3 (by decide +kernel) (Nat.le_of_ble_eq_true rfl) (index := 21) (pos := 257) (by decide +kernel) rfl rfl (by decide +kernel) (fun q4 H locs hP hD hS => ?_)
  refine bkA F (by decide) hP hD hS hA hl0 (pc := 35) (len := 3) (n := 4096) (by decide +kernel) (Or.inr (Or.inr ⟨rfl, by decide +kernel, by decide +kernel⟩)) (atype := .int) (ty := .int) rfl hC.1 (pos1 := 126) (by decide +kernel) (N := 4096) (a0 := (4096, .inl (fun _ => 0))) (fun _ => rfl) (by decide +kernel) (by decide +kernel) (by decide +kernel) (Nat.le_of_ble_eq_true rfl) (Nat.le_of_ble_eq_true rfl) (by decide +kernel) 4 (by decide +kernel) (Nat.le_of_ble_eq_true rfl) (index := 24) (pos := 258) (by decide +kernel) rfl rfl (by decide +kernel) (fun q5 H locs hP hD hS => ?_)
  refine bkI F (by decide) hP hD hS hl0 (pc := 44) (len := 1) (n := 0) (by decide +kernel) (Or.inl ⟨rfl, by decide +kernel⟩) 5 (by decide +kernel) (Nat.le_of_ble_eq_true rfl) (index := 27) (pos := 259) (by decide +kernel) rfl rfl rfl rfl (by decide +kernel) (fun H locs hP hD hS => ?_)
  refine bkI F (by decide) hP hD hS hl0 (pc := 49) (len := 1) (n := 0) (by decide +kernel) (Or.inl ⟨rfl, by decide +kernel⟩) 6 (by decide +kernel) (Nat.le_of_ble_eq_true rfl) (index := 31) (pos := 260) (by decide +kernel) rfl rfl rfl rfl (by decide +kernel) (fun H locs hP hD hS => ?_)
  refine bkI F (by decide) hP hD hS hl0 (pc := 54) (len := 2) (n := (-9)) (by decide +kernel) (Or.inr (Or.inl ⟨rfl, by decide +kernel, by decide +kernel⟩)) 7 (by decide +kernel) (Nat.le_of_ble_eq_true rfl) (index := 34) (pos := 261) (by decide +kernel) rfl rfl rfl rfl (by decide +kernel) (fun H locs hP hD hS => ?_)
  refine bkI F (by decide) hP hD hS hl0 (pc := 60) (len := 1) (n := 0) (by decide +kernel) (Or.inl ⟨rfl, by decide +kernel⟩) 8 (by decide +kernel) (Nat.le_of_ble_eq_true rfl) (index := 37) (pos := 263) (by decide +kernel) rfl rfl rfl rfl (by decide +kernel) (fun H locs hP hD hS => ?_)
  refine bkI F (by decide) hP hD hS hl0 (pc := 65) (len := 1) (n := 0) (by decide +kernel) (Or.inl ⟨rfl, by decide +kernel⟩) 9 (by decide +kernel) (Nat.le_of_ble_eq_true rfl) (index := 40) (pos := 265) (by decide +kernel) rfl rfl rfl rfl (by decide +kernel) (fun H locs hP hD hS => ?_)
  refine W.widen (k := 5) (n := 4124) (Nat.le_of_ble_eq_true rfl) (Nat.le_of_ble_eq_true rfl) ?_
  exact W.vret F.1 F.2.1 B.returns (fun t ht hW => ⟨⟨fun k => ([h0, q1, q2, q3, q4, q5] : List Nat).getD (k - 33) 0, rfl, rfl, by rw [ht]; exact hP, hD⟩, hS.F ht⟩) hS.2.2 (by decide +kernel)
set_option maxHeartbeats 8000000 in
set_option maxRecDepth 100000 in
theorem ini_OrderReader (l : Launch) (g : Gx) (h0 sz : Nat) : MetI l g 39 1 h0 sz 7 [.int 0] ⟨"ChildTrains$OrderReader", "<init>", "()V"⟩ prog_8_method_1_code 1 1 0 0 := by
  refine Met.ofW (cc := prog_8_method_1_code) (maxL := 1) (ret := none) (by decide +kernel) rfl ?_
  intro p e s m args below meth c s₁ B hml hv
  obtain ⟨rfl, hsz, hWd, hC, hK, hP, hD0⟩ := hv
  have F : Fi p s m meth c g 1 prog_8_method_1_code 7 := ⟨B.exec, B.bytes, hml, findClass_of_methodNamed B.named, hWd, hK, hC, (name_of_methodNamed B.named B.method).1⟩
  subst hsz
  have hD := hD0.self (sz := s.heap.size)
  have hA : ∀ q : Nat, s.heap.size ≤ q → va_A [(h0, .inr (7, [.int 0]))] s.heap.size q := fun q h => Or.inr h
  have hS : va_S (va_A [(h0, .inr (7, [.int 0]))] s.heap.size) s.heap s.heap [] := va_S.rf
  have hl := lv_entry ([.ref h0]) (n := 1) (Nat.le_of_ble_eq_true rfl)
  rw [lg_entry_eq]
  generalize (lg_sl ([.ref h0]) ++ List.replicate (1 - (lg_sl ([.ref h0])).length) Slot.unset).toArray = ls at hl ⊢
  have hl : lv_has ls 1 [(0, .ref h0)] := hl
  have hl0 := lv_at hl 0 rfl
  refine lv_aload_n F.1 F.2.1 (k := 0) (by decide +kernel) rfl hl0 ?_
  refine W.objInit F.1 F.2.1 F.2.2.2.1 (hWd (.methodLink "ChildTrains$OrderReader" 3 objectInit) (lw_at (pos := 293) (by decide +kernel)) rfl _) (hWd (.instanceMethod objectInit) (lw_at (pos := 84) (by decide +kernel)) rfl _) (hWd (.code objectInit ⟨#[0xb1]⟩ 1 none) (lw_at (pos := 85) rfl) rfl _) rfl (by rw [hml]; exact hl.1) rfl (show decode prog_8_method_1_code 1 = .ok (.invokespecial 3, 3) by decide +kernel) (Nat.le_of_ble_eq_true rfl) (Nat.le_of_ble_eq_true rfl) ?_
  refine W.eq (g2 := F0 m 4 ls []) rfl ?_
  refine bkI F (by decide) hP hD hS hl0 (pc := 4) (len := 1) (n := 0) (by decide +kernel) (Or.inl ⟨rfl, by decide +kernel⟩) 0 (by decide +kernel) (Nat.le_of_ble_eq_true rfl) (index := 9) (pos := 294) (by decide +kernel) rfl rfl rfl rfl (by decide +kernel) (fun H locs hP hD hS => ?_)
  refine W.widen (k := 0) (n := 0) (Nat.le_of_ble_eq_true rfl) (Nat.le_of_ble_eq_true rfl) ?_
  exact W.vret F.1 F.2.1 B.returns (fun t ht hW => ⟨⟨fun k => ([h0] : List Nat).getD (k - 39) 0, rfl, rfl, by rw [ht]; exact hP, hD⟩, hS.F ht⟩) hS.2.2 (by decide +kernel)
set_option maxHeartbeats 8000000 in
set_option maxRecDepth 100000 in
theorem ini_Paths (l : Launch) (g : Gx) (h0 sz : Nat) : MetI l g 47 3 h0 sz 8 [.null, .null, .int 0, .int 0] ⟨"ChildTrains$Paths", "<init>", "()V"⟩ prog_9_method_1_code 1 1 2 512 := by
  refine Met.ofW (cc := prog_9_method_1_code) (maxL := 1) (ret := none) (by decide +kernel) rfl ?_
  intro p e s m args below meth c s₁ B hml hv
  obtain ⟨rfl, hsz, hWd, hC, hK, hP, hD0⟩ := hv
  have F : Fi p s m meth c g 1 prog_9_method_1_code 8 := ⟨B.exec, B.bytes, hml, findClass_of_methodNamed B.named, hWd, hK, hC, (name_of_methodNamed B.named B.method).1⟩
  subst hsz
  have hD := hD0.self (sz := s.heap.size)
  have hA : ∀ q : Nat, s.heap.size ≤ q → va_A [(h0, .inr (8, [.null, .null, .int 0, .int 0]))] s.heap.size q := fun q h => Or.inr h
  have hS : va_S (va_A [(h0, .inr (8, [.null, .null, .int 0, .int 0]))] s.heap.size) s.heap s.heap [] := va_S.rf
  have hl := lv_entry ([.ref h0]) (n := 1) (Nat.le_of_ble_eq_true rfl)
  rw [lg_entry_eq]
  generalize (lg_sl ([.ref h0]) ++ List.replicate (1 - (lg_sl ([.ref h0])).length) Slot.unset).toArray = ls at hl ⊢
  have hl : lv_has ls 1 [(0, .ref h0)] := hl
  have hl0 := lv_at hl 0 rfl
  refine lv_aload_n F.1 F.2.1 (k := 0) (by decide +kernel) rfl hl0 ?_
  refine W.objInit F.1 F.2.1 F.2.2.2.1 (hWd (.methodLink "ChildTrains$Paths" 3 objectInit) (lw_at (pos := 340) (by decide +kernel)) rfl _) (hWd (.instanceMethod objectInit) (lw_at (pos := 84) (by decide +kernel)) rfl _) (hWd (.code objectInit ⟨#[0xb1]⟩ 1 none) (lw_at (pos := 85) rfl) rfl _) rfl (by rw [hml]; exact hl.1) rfl (show decode prog_9_method_1_code 1 = .ok (.invokespecial 3, 3) by decide +kernel) (Nat.le_of_ble_eq_true rfl) (Nat.le_of_ble_eq_true rfl) ?_
  refine W.eq (g2 := F0 m 4 ls []) rfl ?_
  refine bkA F (by decide) hP hD hS hA hl0 (pc := 4) (len := 3) (n := 256) (by decide +kernel) (Or.inr (Or.inr ⟨rfl, by decide +kernel, by decide +kernel⟩)) (atype := .int) (ty := .int) rfl hC.1 (pos1 := 126) (by decide +kernel) (N := 256) (a0 := (256, .inl (fun _ => 0))) (fun _ => rfl) (by decide +kernel) (by decide +kernel) (by decide +kernel) (Nat.le_of_ble_eq_true rfl) (Nat.le_of_ble_eq_true rfl) (by decide +kernel) 0 (by decide +kernel) (Nat.le_of_ble_eq_true rfl) (index := 11) (pos := 341) (by decide +kernel) rfl rfl (by decide +kernel) (fun q1 H locs hP hD hS => ?_)
  refine bkA F (by decide) hP hD hS hA hl0 (pc := 13) (len := 3) (n := 256) (by decide +kernel) (Or.inr (Or.inr ⟨rfl, by decide +kernel, by decide +kernel⟩)) (atype := .int) (ty := .int) rfl hC.1 (pos1 := 126) (by decide +kernel) (N := 256) (a0 := (256, .inl (fun _ => 0))) (fun _ => rfl) (by decide +kernel) (by decide +kernel) (by decide +kernel) (Nat.le_of_ble_eq_true rfl) (Nat.le_of_ble_eq_true rfl) (by decide +kernel) 1 (by decide +kernel) (Nat.le_of_ble_eq_true rfl) (index := 15) (pos := 342) (by decide +kernel) rfl rfl (by decide +kernel) (fun q2 H locs hP hD hS => ?_)
  refine bkI F (by decide) hP hD hS hl0 (pc := 22) (len := 1) (n := 0) (by decide +kernel) (Or.inl ⟨rfl, by decide +kernel⟩) 2 (by decide +kernel) (Nat.le_of_ble_eq_true rfl) (index := 18) (pos := 343) (by decide +kernel) rfl rfl rfl rfl (by decide +kernel) (fun H locs hP hD hS => ?_)
  refine bkI F (by decide) hP hD hS hl0 (pc := 27) (len := 1) (n := 0) (by decide +kernel) (Or.inl ⟨rfl, by decide +kernel⟩) 3 (by decide +kernel) (Nat.le_of_ble_eq_true rfl) (index := 22) (pos := 345) (by decide +kernel) rfl rfl rfl rfl (by decide +kernel) (fun H locs hP hD hS => ?_)
  refine W.widen (k := 2) (n := 512) (Nat.le_of_ble_eq_true rfl) (Nat.le_of_ble_eq_true rfl) ?_
  exact W.vret F.1 F.2.1 B.returns (fun t ht hW => ⟨⟨fun k => ([h0, q1, q2] : List Nat).getD (k - 47) 0, rfl, rfl, by rw [ht]; exact hP, hD⟩, hS.F ht⟩) hS.2.2 (by decide +kernel)
set_option maxHeartbeats 8000000 in
set_option maxRecDepth 100000 in
theorem ini_Book (l : Launch) (g : Gx) (h0 sz : Nat) : MetI l g 58 9 h0 sz 6 [.null, .null, .null, .null, .null, .null, .null, .null, .int 0] ⟨"ChildTrains$OrderBook", "<init>", "()V"⟩ prog_7_method_1_code 1 1 8 690 := by
  refine Met.ofW (cc := prog_7_method_1_code) (maxL := 1) (ret := none) (by decide +kernel) rfl ?_
  intro p e s m args below meth c s₁ B hml hv
  obtain ⟨rfl, hsz, hWd, hC, hK, hP, hD0⟩ := hv
  have F : Fi p s m meth c g 1 prog_7_method_1_code 6 := ⟨B.exec, B.bytes, hml, findClass_of_methodNamed B.named, hWd, hK, hC, (name_of_methodNamed B.named B.method).1⟩
  subst hsz
  have hD := hD0.self (sz := s.heap.size)
  have hA : ∀ q : Nat, s.heap.size ≤ q → va_A [(h0, .inr (6, [.null, .null, .null, .null, .null, .null, .null, .null, .int 0]))] s.heap.size q := fun q h => Or.inr h
  have hS : va_S (va_A [(h0, .inr (6, [.null, .null, .null, .null, .null, .null, .null, .null, .int 0]))] s.heap.size) s.heap s.heap [] := va_S.rf
  have hl := lv_entry ([.ref h0]) (n := 1) (Nat.le_of_ble_eq_true rfl)
  rw [lg_entry_eq]
  generalize (lg_sl ([.ref h0]) ++ List.replicate (1 - (lg_sl ([.ref h0])).length) Slot.unset).toArray = ls at hl ⊢
  have hl : lv_has ls 1 [(0, .ref h0)] := hl
  have hl0 := lv_at hl 0 rfl
  refine lv_aload_n F.1 F.2.1 (k := 0) (by decide +kernel) rfl hl0 ?_
  refine W.objInit F.1 F.2.1 F.2.2.2.1 (hWd (.methodLink "ChildTrains$OrderBook" 3 objectInit) (lw_at (pos := 362) (by decide +kernel)) rfl _) (hWd (.instanceMethod objectInit) (lw_at (pos := 84) (by decide +kernel)) rfl _) (hWd (.code objectInit ⟨#[0xb1]⟩ 1 none) (lw_at (pos := 85) rfl) rfl _) rfl (by rw [hml]; exact hl.1) rfl (show decode prog_7_method_1_code 1 = .ok (.invokespecial 3, 3) by decide +kernel) (Nat.le_of_ble_eq_true rfl) (Nat.le_of_ble_eq_true rfl) ?_
  refine W.eq (g2 := F0 m 4 ls []) rfl ?_
  refine bkA F (by decide) hP hD hS hA hl0 (pc := 4) (len := 2) (n := 30) (by decide +kernel) (Or.inr (Or.inl ⟨rfl, by decide +kernel, by decide +kernel⟩)) (atype := .int) (ty := .int) rfl hC.1 (pos1 := 126) (by decide +kernel) (N := 30) (a0 := (30, .inl (fun _ => 0))) (fun _ => rfl) (by decide +kernel) (by decide +kernel) (by decide +kernel) (Nat.le_of_ble_eq_true rfl) (Nat.le_of_ble_eq_true rfl) (by decide +kernel) 0 (by decide +kernel) (Nat.le_of_ble_eq_true rfl) (index := 9) (pos := 363) (by decide +kernel) rfl rfl (by decide +kernel) (fun q1 H locs hP hD hS => ?_)
  refine bkA F (by decide) hP hD hS hA hl0 (pc := 12) (len := 2) (n := 30) (by decide +kernel) (Or.inr (Or.inl ⟨rfl, by decide +kernel, by decide +kernel⟩)) (atype := .int) (ty := .int) rfl hC.1 (pos1 := 126) (by decide +kernel) (N := 30) (a0 := (30, .inl (fun _ => 0))) (fun _ => rfl) (by decide +kernel) (by decide +kernel) (by decide +kernel) (Nat.le_of_ble_eq_true rfl) (Nat.le_of_ble_eq_true rfl) (by decide +kernel) 1 (by decide +kernel) (Nat.le_of_ble_eq_true rfl) (index := 15) (pos := 365) (by decide +kernel) rfl rfl (by decide +kernel) (fun q2 H locs hP hD hS => ?_)
  refine bkA F (by decide) hP hD hS hA hl0 (pc := 20) (len := 2) (n := 30) (by decide +kernel) (Or.inr (Or.inl ⟨rfl, by decide +kernel, by decide +kernel⟩)) (atype := .int) (ty := .int) rfl hC.1 (pos1 := 126) (by decide +kernel) (N := 30) (a0 := (30, .inl (fun _ => 0))) (fun _ => rfl) (by decide +kernel) (by decide +kernel) (by decide +kernel) (Nat.le_of_ble_eq_true rfl) (Nat.le_of_ble_eq_true rfl) (by decide +kernel) 2 (by decide +kernel) (Nat.le_of_ble_eq_true rfl) (index := 18) (pos := 367) (by decide +kernel) rfl rfl (by decide +kernel) (fun q3 H locs hP hD hS => ?_)
  refine bkA F (by decide) hP hD hS hA hl0 (pc := 28) (len := 2) (n := 30) (by decide +kernel) (Or.inr (Or.inl ⟨rfl, by decide +kernel, by decide +kernel⟩)) (atype := .int) (ty := .int) rfl hC.1 (pos1 := 126) (by decide +kernel) (N := 30) (a0 := (30, .inl (fun _ => 0))) (fun _ => rfl) (by decide +kernel) (by decide +kernel) (by decide +kernel) (Nat.le_of_ble_eq_true rfl) (Nat.le_of_ble_eq_true rfl) (by decide +kernel) 3 (by decide +kernel) (Nat.le_of_ble_eq_true rfl) (index := 21) (pos := 370) (by decide +kernel) rfl rfl (by decide +kernel) (fun q4 H locs hP hD hS => ?_)
  refine bkA F (by decide) hP hD hS hA hl0 (pc := 36) (len := 2) (n := 30) (by decide +kernel) (Or.inr (Or.inl ⟨rfl, by decide +kernel, by decide +kernel⟩)) (atype := .int) (ty := .int) rfl hC.1 (pos1 := 126) (by decide +kernel) (N := 30) (a0 := (30, .inl (fun _ => 0))) (fun _ => rfl) (by decide +kernel) (by decide +kernel) (by decide +kernel) (Nat.le_of_ble_eq_true rfl) (Nat.le_of_ble_eq_true rfl) (by decide +kernel) 4 (by decide +kernel) (Nat.le_of_ble_eq_true rfl) (index := 24) (pos := 372) (by decide +kernel) rfl rfl (by decide +kernel) (fun q5 H locs hP hD hS => ?_)
  refine bkA F (by decide) hP hD hS hA hl0 (pc := 44) (len := 3) (n := 180) (by decide +kernel) (Or.inr (Or.inr ⟨rfl, by decide +kernel, by decide +kernel⟩)) (atype := .int) (ty := .int) rfl hC.1 (pos1 := 126) (by decide +kernel) (N := 180) (a0 := (180, .inl (fun _ => 0))) (fun _ => rfl) (by decide +kernel) (by decide +kernel) (by decide +kernel) (Nat.le_of_ble_eq_true rfl) (Nat.le_of_ble_eq_true rfl) (by decide +kernel) 5 (by decide +kernel) (Nat.le_of_ble_eq_true rfl) (index := 27) (pos := 374) (by decide +kernel) rfl rfl (by decide +kernel) (fun q6 H locs hP hD hS => ?_)
  refine bkA F (by decide) hP hD hS hA hl0 (pc := 53) (len := 3) (n := 180) (by decide +kernel) (Or.inr (Or.inr ⟨rfl, by decide +kernel, by decide +kernel⟩)) (atype := .int) (ty := .int) rfl hC.1 (pos1 := 126) (by decide +kernel) (N := 180) (a0 := (180, .inl (fun _ => 0))) (fun _ => rfl) (by decide +kernel) (by decide +kernel) (by decide +kernel) (Nat.le_of_ble_eq_true rfl) (Nat.le_of_ble_eq_true rfl) (by decide +kernel) 6 (by decide +kernel) (Nat.le_of_ble_eq_true rfl) (index := 30) (pos := 376) (by decide +kernel) rfl rfl (by decide +kernel) (fun q7 H locs hP hD hS => ?_)
  refine bkA F (by decide) hP hD hS hA hl0 (pc := 62) (len := 3) (n := 180) (by decide +kernel) (Or.inr (Or.inr ⟨rfl, by decide +kernel, by decide +kernel⟩)) (atype := .boolean) (ty := .boolean) rfl hC.2.2.1 (pos1 := 402) (by decide +kernel) (N := 180) (a0 := (180, .inl (fun _ => 0))) (fun _ => rfl) (by decide +kernel) (by decide +kernel) (by decide +kernel) (Nat.le_of_ble_eq_true rfl) (Nat.le_of_ble_eq_true rfl) (by decide +kernel) 7 (by decide +kernel) (Nat.le_of_ble_eq_true rfl) (index := 33) (pos := 378) (by decide +kernel) rfl rfl (by decide +kernel) (fun q8 H locs hP hD hS => ?_)
  refine bkI F (by decide) hP hD hS hl0 (pc := 71) (len := 1) (n := 0) (by decide +kernel) (Or.inl ⟨rfl, by decide +kernel⟩) 8 (by decide +kernel) (Nat.le_of_ble_eq_true rfl) (index := 37) (pos := 380) (by decide +kernel) rfl rfl rfl rfl (by decide +kernel) (fun H locs hP hD hS => ?_)
  refine W.widen (k := 8) (n := 690) (Nat.le_of_ble_eq_true rfl) (Nat.le_of_ble_eq_true rfl) ?_
  exact W.vret F.1 F.2.1 B.returns (fun t ht hW => ⟨⟨fun k => ([h0, q1, q2, q3, q4, q5, q6, q7, q8] : List Nat).getD (k - 58) 0, rfl, rfl, by rw [ht]; exact hP, hD⟩, hS.F ht⟩) hS.2.2 (by decide +kernel)
set_option maxHeartbeats 8000000 in
set_option maxRecDepth 100000 in
theorem ini_Spare (l : Launch) (g : Gx) (h0 sz : Nat) : MetI l g 67 9 h0 sz 6 [.null, .null, .null, .null, .null, .null, .null, .null, .int 0] ⟨"ChildTrains$OrderBook", "<init>", "()V"⟩ prog_7_method_1_code 1 1 8 690 := by
  refine Met.ofW (cc := prog_7_method_1_code) (maxL := 1) (ret := none) (by decide +kernel) rfl ?_
  intro p e s m args below meth c s₁ B hml hv
  obtain ⟨rfl, hsz, hWd, hC, hK, hP, hD0⟩ := hv
  have F : Fi p s m meth c g 1 prog_7_method_1_code 6 := ⟨B.exec, B.bytes, hml, findClass_of_methodNamed B.named, hWd, hK, hC, (name_of_methodNamed B.named B.method).1⟩
  subst hsz
  have hD := hD0.self (sz := s.heap.size)
  have hA : ∀ q : Nat, s.heap.size ≤ q → va_A [(h0, .inr (6, [.null, .null, .null, .null, .null, .null, .null, .null, .int 0]))] s.heap.size q := fun q h => Or.inr h
  have hS : va_S (va_A [(h0, .inr (6, [.null, .null, .null, .null, .null, .null, .null, .null, .int 0]))] s.heap.size) s.heap s.heap [] := va_S.rf
  have hl := lv_entry ([.ref h0]) (n := 1) (Nat.le_of_ble_eq_true rfl)
  rw [lg_entry_eq]
  generalize (lg_sl ([.ref h0]) ++ List.replicate (1 - (lg_sl ([.ref h0])).length) Slot.unset).toArray = ls at hl ⊢
  have hl : lv_has ls 1 [(0, .ref h0)] := hl
  have hl0 := lv_at hl 0 rfl
  refine lv_aload_n F.1 F.2.1 (k := 0) (by decide +kernel) rfl hl0 ?_
  refine W.objInit F.1 F.2.1 F.2.2.2.1 (hWd (.methodLink "ChildTrains$OrderBook" 3 objectInit) (lw_at (pos := 362) (by decide +kernel)) rfl _) (hWd (.instanceMethod objectInit) (lw_at (pos := 84) (by decide +kernel)) rfl _) (hWd (.code objectInit ⟨#[0xb1]⟩ 1 none) (lw_at (pos := 85) rfl) rfl _) rfl (by rw [hml]; exact hl.1) rfl (show decode prog_7_method_1_code 1 = .ok (.invokespecial 3, 3) by decide +kernel) (Nat.le_of_ble_eq_true rfl) (Nat.le_of_ble_eq_true rfl) ?_
  refine W.eq (g2 := F0 m 4 ls []) rfl ?_
  refine bkA F (by decide) hP hD hS hA hl0 (pc := 4) (len := 2) (n := 30) (by decide +kernel) (Or.inr (Or.inl ⟨rfl, by decide +kernel, by decide +kernel⟩)) (atype := .int) (ty := .int) rfl hC.1 (pos1 := 126) (by decide +kernel) (N := 30) (a0 := (30, .inl (fun _ => 0))) (fun _ => rfl) (by decide +kernel) (by decide +kernel) (by decide +kernel) (Nat.le_of_ble_eq_true rfl) (Nat.le_of_ble_eq_true rfl) (by decide +kernel) 0 (by decide +kernel) (Nat.le_of_ble_eq_true rfl) (index := 9) (pos := 363) (by decide +kernel) rfl rfl (by decide +kernel) (fun q1 H locs hP hD hS => ?_)
  refine bkA F (by decide) hP hD hS hA hl0 (pc := 12) (len := 2) (n := 30) (by decide +kernel) (Or.inr (Or.inl ⟨rfl, by decide +kernel, by decide +kernel⟩)) (atype := .int) (ty := .int) rfl hC.1 (pos1 := 126) (by decide +kernel) (N := 30) (a0 := (30, .inl (fun _ => 0))) (fun _ => rfl) (by decide +kernel) (by decide +kernel) (by decide +kernel) (Nat.le_of_ble_eq_true rfl) (Nat.le_of_ble_eq_true rfl) (by decide +kernel) 1 (by decide +kernel) (Nat.le_of_ble_eq_true rfl) (index := 15) (pos := 365) (by decide +kernel) rfl rfl (by decide +kernel) (fun q2 H locs hP hD hS => ?_)
  refine bkA F (by decide) hP hD hS hA hl0 (pc := 20) (len := 2) (n := 30) (by decide +kernel) (Or.inr (Or.inl ⟨rfl, by decide +kernel, by decide +kernel⟩)) (atype := .int) (ty := .int) rfl hC.1 (pos1 := 126) (by decide +kernel) (N := 30) (a0 := (30, .inl (fun _ => 0))) (fun _ => rfl) (by decide +kernel) (by decide +kernel) (by decide +kernel) (Nat.le_of_ble_eq_true rfl) (Nat.le_of_ble_eq_true rfl) (by decide +kernel) 2 (by decide +kernel) (Nat.le_of_ble_eq_true rfl) (index := 18) (pos := 367) (by decide +kernel) rfl rfl (by decide +kernel) (fun q3 H locs hP hD hS => ?_)
  refine bkA F (by decide) hP hD hS hA hl0 (pc := 28) (len := 2) (n := 30) (by decide +kernel) (Or.inr (Or.inl ⟨rfl, by decide +kernel, by decide +kernel⟩)) (atype := .int) (ty := .int) rfl hC.1 (pos1 := 126) (by decide +kernel) (N := 30) (a0 := (30, .inl (fun _ => 0))) (fun _ => rfl) (by decide +kernel) (by decide +kernel) (by decide +kernel) (Nat.le_of_ble_eq_true rfl) (Nat.le_of_ble_eq_true rfl) (by decide +kernel) 3 (by decide +kernel) (Nat.le_of_ble_eq_true rfl) (index := 21) (pos := 370) (by decide +kernel) rfl rfl (by decide +kernel) (fun q4 H locs hP hD hS => ?_)
  refine bkA F (by decide) hP hD hS hA hl0 (pc := 36) (len := 2) (n := 30) (by decide +kernel) (Or.inr (Or.inl ⟨rfl, by decide +kernel, by decide +kernel⟩)) (atype := .int) (ty := .int) rfl hC.1 (pos1 := 126) (by decide +kernel) (N := 30) (a0 := (30, .inl (fun _ => 0))) (fun _ => rfl) (by decide +kernel) (by decide +kernel) (by decide +kernel) (Nat.le_of_ble_eq_true rfl) (Nat.le_of_ble_eq_true rfl) (by decide +kernel) 4 (by decide +kernel) (Nat.le_of_ble_eq_true rfl) (index := 24) (pos := 372) (by decide +kernel) rfl rfl (by decide +kernel) (fun q5 H locs hP hD hS => ?_)
  refine bkA F (by decide) hP hD hS hA hl0 (pc := 44) (len := 3) (n := 180) (by decide +kernel) (Or.inr (Or.inr ⟨rfl, by decide +kernel, by decide +kernel⟩)) (atype := .int) (ty := .int) rfl hC.1 (pos1 := 126) (by decide +kernel) (N := 180) (a0 := (180, .inl (fun _ => 0))) (fun _ => rfl) (by decide +kernel) (by decide +kernel) (by decide +kernel) (Nat.le_of_ble_eq_true rfl) (Nat.le_of_ble_eq_true rfl) (by decide +kernel) 5 (by decide +kernel) (Nat.le_of_ble_eq_true rfl) (index := 27) (pos := 374) (by decide +kernel) rfl rfl (by decide +kernel) (fun q6 H locs hP hD hS => ?_)
  refine bkA F (by decide) hP hD hS hA hl0 (pc := 53) (len := 3) (n := 180) (by decide +kernel) (Or.inr (Or.inr ⟨rfl, by decide +kernel, by decide +kernel⟩)) (atype := .int) (ty := .int) rfl hC.1 (pos1 := 126) (by decide +kernel) (N := 180) (a0 := (180, .inl (fun _ => 0))) (fun _ => rfl) (by decide +kernel) (by decide +kernel) (by decide +kernel) (Nat.le_of_ble_eq_true rfl) (Nat.le_of_ble_eq_true rfl) (by decide +kernel) 6 (by decide +kernel) (Nat.le_of_ble_eq_true rfl) (index := 30) (pos := 376) (by decide +kernel) rfl rfl (by decide +kernel) (fun q7 H locs hP hD hS => ?_)
  refine bkA F (by decide) hP hD hS hA hl0 (pc := 62) (len := 3) (n := 180) (by decide +kernel) (Or.inr (Or.inr ⟨rfl, by decide +kernel, by decide +kernel⟩)) (atype := .boolean) (ty := .boolean) rfl hC.2.2.1 (pos1 := 402) (by decide +kernel) (N := 180) (a0 := (180, .inl (fun _ => 0))) (fun _ => rfl) (by decide +kernel) (by decide +kernel) (by decide +kernel) (Nat.le_of_ble_eq_true rfl) (Nat.le_of_ble_eq_true rfl) (by decide +kernel) 7 (by decide +kernel) (Nat.le_of_ble_eq_true rfl) (index := 33) (pos := 378) (by decide +kernel) rfl rfl (by decide +kernel) (fun q8 H locs hP hD hS => ?_)
  refine bkI F (by decide) hP hD hS hl0 (pc := 71) (len := 1) (n := 0) (by decide +kernel) (Or.inl ⟨rfl, by decide +kernel⟩) 8 (by decide +kernel) (Nat.le_of_ble_eq_true rfl) (index := 37) (pos := 380) (by decide +kernel) rfl rfl rfl rfl (by decide +kernel) (fun H locs hP hD hS => ?_)
  refine W.widen (k := 8) (n := 690) (Nat.le_of_ble_eq_true rfl) (Nat.le_of_ble_eq_true rfl) ?_
  exact W.vret F.1 F.2.1 B.returns (fun t ht hW => ⟨⟨fun k => ([h0, q1, q2, q3, q4, q5, q6, q7, q8] : List Nat).getD (k - 67) 0, rfl, rfl, by rw [ht]; exact hP, hD⟩, hS.F ht⟩) hS.2.2 (by decide +kernel)
