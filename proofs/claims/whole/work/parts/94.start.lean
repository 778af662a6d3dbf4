/-! from the entry to the loop -/
theorem clsd_0 : clsd 0 76 := by
  unfold clsd
  decide +kernel
theorem clsd_76 : clsd 76 35 := by
  unfold clsd
  decide +kernel
def aB (A1 A2 : Nat → Nat) : Nat → Nat := fun k => if k < 76 then A1 k else A2 k
theorem seg_wld {g : Gx} {A : Nat → Nat} {M : Mm} : segM g 0 111 A M = wld g A M := by
  unfold segM wld
  simp only [Nat.zero_add]
theorem mZ_m0 {F : Int → Int} {n : Int} : ∀ k, 0 ≤ k → k < 0 + 111 → m0 k = mZ F n k := by
  intro k _ h
  unfold mZ
  rw [if_neg (by omega), if_neg (by omega)]
theorem whole_w {g : Gx} {A1 A2 : Nat → Nat} {F : Int → Int} {n : Int} {H : Heap} {A0 : Nat → Prop} (hP : va_P g.D cls (([] ++ segW g 0 76 A1) ++ segW g 76 35 A2) H) (hD : va_D A0 (([] ++ segW g 0 76 A1) ++ segW g 76 35 A2)) : va_P g.D cls (wld g (aB A1 A2) (mZ F n)) H ∧ adr A0 (aB A1 A2) := by
  have p1 : va_P g.D cls (segM g 0 76 (aB A1 A2) m0) H := seg_P (by decide) clsd_0 (fun k h1 h2 => (if_pos (show k < 76 by omega)).symm) (P_r (P_l hP))
  have p2 : va_P g.D cls (segM g 76 35 (aB A1 A2) m0) H := seg_P (by decide) clsd_76 (fun k h1 h2 => (if_neg (show ¬ k < 76 by omega)).symm) (P_r hP)
  have p3 : va_P g.D cls (segM g 0 111 (aB A1 A2) m0) H := P_app2 p1 p2
  rw [segM_congr (m' := mZ F n) mZ_m0, seg_wld] at p3
  have d1 : va_D A0 (wld g (aB A1 A2) (mZ F n)) := D_fst hD rfl
  refine ⟨p3, fun i j hi hj he => ?_, fun i hi => ?_⟩
  · exact d1.1 i j _ _ (wld_get hi) (wld_get hj) he
  · exact d1.2 i _ (wld_get hi)
set_option maxHeartbeats 8000000 in
set_option maxRecDepth 100000 in
/-- from the entry, for every script of at most 3584 ints, the law comes to its end with true -/
theorem whole_start {p : Program} {e : Env} {s : State} {m : MethodId} {below : List Frame} {meth : Method} {c : Code} (l : Launch) {b L : Nat} {xs : Nat → Int32} (hL : L ≤ 3584) (C0 : lw_At p s m meth c b L xs) : W p l e room_1 s m #[Value.ref b] below meth c s.heap [] 0 0 (lw_Z below #[Value.ref b] s) (entryFrame m ([Value.ref b] : List Value).toArray 4) := by
  obtain ⟨hx, hb, hr, hml, hown, hts, hX, hbl, hlocks, hgv⟩ := C0
  obtain ⟨g, hC, hC3, hgB, hgL, hgF⟩ := ctx0 hL hts hX hbl hgv
  have hWd := hC.1
  have hK := hC.2.1
  have hA : ∀ q : Nat, s.heap.size ≤ q → (fun q : Nat => s.heap.size ≤ q) q := fun _ h => h
  have hS : va_S (fun q : Nat => s.heap.size ≤ q) s.heap s.heap [] := va_S.rf
  have hP : va_P g.D cls [] s.heap := fun k q h => by simp at h
  have hD : va_D (fun q : Nat => s.heap.size ≤ q) [] := ⟨fun i j p q h => by simp at h, fun k q h => by simp at h⟩
  have hl := lv_entry ([.ref b]) (n := 4) (Nat.le_of_ble_eq_true rfl)
  rw [lg_entry_eq]
  generalize (lg_sl ([.ref b]) ++ List.replicate (4 - (lg_sl ([.ref b])).length) Slot.unset).toArray = ls at hl ⊢
  have hl : lv_has ls 4 [(0, .ref b)] := hl
  refine i_new hx hb hml hown hWd hK hC3 hP hD hS hA (hM := ini_Class l g) (by decide) (by decide +kernel) (pc := 0) (i1 := 7) (i2 := 9) (p1 := 78) (p2 := 79) (p3 := 58) (p4 := 80) (p5 := 81) (p6 := 82) (nest := false) (by decide +kernel) (by decide +kernel) (by decide +kernel) (by decide +kernel) (by decide +kernel) rfl rfl rfl ⟨by decide +kernel, by decide +kernel⟩ (sig_len (by decide +kernel)) ⟨Nat.le_of_ble_eq_true rfl, Nat.le_of_ble_eq_true rfl⟩ (Nat.le_of_ble_eq_true rfl) (Nat.le_of_ble_eq_true rfl) (by decide +kernel) (by decide +kernel) (by decide +kernel) hl.1 (rest := []) (Nat.le_of_ble_eq_true rfl) (fun A1 H locs hP hD hS => ?_)
  refine lv_astore_n (k := 1) (lv' := [(1, .ref (A1 0)), (0, .ref b)]) hx hb (pc := 7) (by decide +kernel) rfl hl (by decide) rfl (fun ls hl => ?_)
  refine i_new hx hb hml hown hWd hK hC3 hP hD hS hA (hM := ini_Model l g) (by decide) (by decide +kernel) (pc := 8) (i1 := 10) (i2 := 12) (p1 := 965) (p2 := 966) (p3 := 70) (p4 := 967) (p5 := 968) (p6 := 969) (nest := false) (by decide +kernel) (by decide +kernel) (by decide +kernel) (by decide +kernel) (by decide +kernel) rfl rfl rfl ⟨by decide +kernel, by decide +kernel⟩ (sig_len (by decide +kernel)) ⟨Nat.le_of_ble_eq_true rfl, Nat.le_of_ble_eq_true rfl⟩ (Nat.le_of_ble_eq_true rfl) (Nat.le_of_ble_eq_true rfl) (by decide +kernel) (by decide +kernel) (by decide +kernel) hl.1 (rest := []) (Nat.le_of_ble_eq_true rfl) (fun A2 H locs hP hD hS => ?_)
  refine lv_astore_n (k := 2) (lv' := [(2, .ref (A2 76)), (1, .ref (A1 0)), (0, .ref b)]) hx hb (pc := 15) (by decide +kernel) rfl hl (by decide) rfl (fun ls hl => ?_)
  refine lv_iconst (n := 0) (v := 0) hx hb (pc := 16) (by decide +kernel) rfl ?_
  refine lv_istore_n (k := 3) (lv' := [(3, .int 0), (2, .ref (A2 76)), (1, .ref (A1 0)), (0, .ref b)]) hx hb (pc := 17) (by decide +kernel) rfl hl (by decide) rfl (fun ls hl => ?_)
  obtain ⟨hPw, hadr⟩ := whole_w (F := gF g) (n := gL g) hP hD
  have hok : okM g (mZ (gF g) (gL g)) := okZ hgF (by rw [hgL]; unfold inI; omega)
  have F : Fr p s m c g (fun q : Nat => s.heap.size ≤ q) 4 code 18 := ⟨hx, hb, hml, hown, hC⟩
  have hG := lw_loop (g := g) (F := gF g) (n := gL g) (fun M1 h => ⟨h.2.1, h.2.2⟩) (by rw [hgL]; omega) 600 0 (M := mZ (gF g) (gL g)) (by rw [hgL]; omega) (by omega) hok Inv0
  subst hgB
  have hl4 := lv_sub hl [3, 2, 1, 0] rfl
  exact law_ok (A1 := aB A1 A2) (d := 20) F hr hlocks ⟨Nat.le_of_ble_eq_true rfl, Nat.le_of_ble_eq_true rfl⟩ ⟨Nat.le_of_ble_eq_true rfl, Nat.le_of_ble_eq_true rfl⟩ ⟨Nat.le_of_ble_eq_true rfl, Nat.le_of_ble_eq_true rfl⟩ (fun q h => h) hG (aB A1 A2) H locs ls ⟨hadr, Or.inl rfl⟩ hPw hS hl4 rfl hok (oks_cons (v := vT 100) (Or.inr (Or.inr rfl)) (oks_cons (v := vR 0) (show 0 < 111 by decide) (oks_cons (v := vR 76) (show 76 < 111 by decide) (oks_cons (v := vI _) (show inI (7 * ((0 : Nat) : Int)) by unfold inI; omega) (fun v h => by simp at h))))) (fun v h => by simp at h)
