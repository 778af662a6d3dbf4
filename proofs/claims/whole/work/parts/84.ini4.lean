/-! constructors: rows of rows, Arrays.fill -/
theorem va_D_app {A : Nat → Prop} {ws new : va_W} {h : Nat} (hD : va_D A ws) (hlt : ∀ (k : Nat) (x : Nat × va_E), ws[k]? = some x → x.1 < h) (hn1 : ∀ (i j : Nat) (p q : Nat × va_E), new[i]? = some p → new[j]? = some q → p.1 = q.1 → i = j) (hn2 : ∀ (k : Nat) (q : Nat × va_E), new[k]? = some q → h ≤ q.1 ∧ A q.1) : va_D A (ws ++ new) := by
  refine ⟨fun i j p q hi hj e => ?_, fun k q hk => ?_⟩
  · by_cases h1 : i < ws.length
    · rw [List.getElem?_append_left h1] at hi
      by_cases h2 : j < ws.length
      · rw [List.getElem?_append_left h2] at hj
        exact hD.1 i j p q hi hj e
      · rw [List.getElem?_append_right (by omega)] at hj
        have a1 := hlt i p hi
        have a2 := (hn2 _ q hj).1
        omega
    · rw [List.getElem?_append_right (by omega)] at hi
      by_cases h2 : j < ws.length
      · rw [List.getElem?_append_left h2] at hj
        have a1 := hlt j q hj
        have a2 := (hn2 _ p hi).1
        omega
      · rw [List.getElem?_append_right (by omega)] at hj
        have := hn1 _ _ p q hi hj e
        omega
  · by_cases h1 : k < ws.length
    · rw [List.getElem?_append_left h1] at hk
      exact hD.2 k q hk
    · rw [List.getElem?_append_right (by omega)] at hk
      exact (hn2 _ q hk).2
def rowsW (g : Gx) (q K : Nat) : va_W := (q, .inl (gM g, 6, .inr (.inr (.inr (.inr (fun j => some (q + 1 + j))))))) :: (List.range 6).map (fun j => (q + 1 + j, .inl (gI g, K, .inl (fun _ => 0))))
theorem rows_at {g : Gx} {q K i : Nat} {x : Nat × va_E} (h : (rowsW g q K)[i]? = some x) : i < 7 ∧ x.1 = q + i ∧ (i = 0 → x = (q, .inl (gM g, 6, .inr (.inr (.inr (.inr (fun j => some (q + 1 + j)))))))) ∧ (∀ j, i = j + 1 → j < 6 ∧ x = (q + 1 + j, .inl (gI g, K, .inl (fun _ => 0)))) := by
  cases i with
  | zero =>
    have e : (q, .inl (gM g, 6, .inr (.inr (.inr (.inr (fun j => some (q + 1 + j))))))) = x := Option.some.inj h
    exact ⟨by omega, by rw [← e]; rfl, fun _ => e.symm, fun j hj => by omega⟩
  | succ i =>
    have h : ((List.range 6).map (fun j => (q + 1 + j, (.inl (gI g, K, .inl (fun _ => 0)) : va_E))))[i]? = some x := h
    rw [List.getElem?_map] at h
    by_cases hi : i < 6
    · rw [List.getElem?_range hi] at h
      have e : (q + 1 + i, (.inl (gI g, K, .inl (fun _ => 0)) : va_E)) = x := Option.some.inj h
      refine ⟨by omega, by rw [← e]; show q + 1 + i = q + (i + 1); omega, fun z => by omega, fun j hj => ?_⟩
      have : j = i := by omega
      subst this
      exact ⟨hi, e.symm⟩
    · rw [List.getElem?_eq_none (by rw [List.length_range]; omega)] at h
      exact absurd h (by simp)
theorem outer_ok {cA : ClassId} {q : Nat} : mlO cA 6 q 6 = vp_cell cA (6, .inr (.inr (.inr (.inr (fun j => some (q + 1 + j)))))) := by
  show arrV cA 6 (fun j => if j < 6 then .ref (q + 1 + j) else .null) = arrV cA 6 (fun j => va_rf (some (q + 1 + j)))
  exact arrV_ext (fun j hj => by rw [if_pos hj]; rfl)
theorem inner_ok {cA : ClassId} {K : Nat} : mlI cA K = vp_cell cA (K, .inl (fun _ => 0)) := rfl
section MUL
variable {p : Program} {l : Launch} {e : Env} {R : Room} {s : State} {m : MethodId} {args : Array Value} {below : List Frame} {meth : Method} {c : Code} {H : Heap} {locs : List Loc} {cells slots : Nat} {Q : State → Prop} {g : Gx} {nL : Nat} {b : ByteArray} {ci : Nat}
/-- aload_0, 6, K, multianewarray, putfield -/
theorem bkM (F : Fi p s m meth c g nL b ci) (hci : ci < 12) {A : Nat → Prop} {h0 : Nat} {fs : List Value} {rs : va_W} {H0 : Heap} (hP : va_P g.D cls ((h0, .inr (ci, fs)) :: rs) H) (hD : va_D A ((h0, .inr (ci, fs)) :: rs)) (hS : va_S A H0 H locs) (hA : ∀ q, H0.size ≤ q → A q) {ls : Array Slot} (hl0 : ls[0]? = some (.val (.ref h0))) {pc len1 len2 K : Nat} (hK : K = 5 ∨ K = 3) (d0 : decode b pc = .ok (.aload_n 0, 1)) (d1 : isPush b (pc + 1) len1 6) (d2 : isPush b (pc + 1 + len1) len2 K) {i1 p1 p3 : Nat} (d3 : decode b (pc + 1 + len1 + len2) = .ok (.multianewarray i1 2, 4)) (w1 : lw_tbl[p1]? = some (.classLink (clsR ci).1 i1 ("[" ++ (FieldType.array .int).toString))) (w3 : lw_tbl[p3]? = some (.arrayClass .int)) (hcells : cells + (1 + 6) ≤ R.cells) (hslots : slots + (6 + 6 * K) ≤ R.slots) (k : Nat) (hk : k < (clsR ci).2.2) (hl : k < fs.length) {index pos : Nat} (hw : lw_tbl[pos]? = some (.fieldLink (clsR ci).1 index (clsR ci).1 ((clsR ci).2.1 k).2.1 ((clsR ci).2.1 k).2.2.1)) (hdcl : ((clsR ci).2.1 k).1 = (clsR ci).1) (hty2 : parseFieldDescriptor ((clsR ci).2.1 k).2.2.1 = some (.array (.array .int))) (d4 : decode b (pc + 1 + len1 + len2 + 4) = .ok (.putfield index, 3)) (kk : ∀ (q : Nat) (H1 : Heap) (locs1 : List Loc), va_P g.D cls ((h0, .inr (ci, fs.set k (.ref q))) :: (rs ++ rowsW g q K)) H1 → va_D A ((h0, .inr (ci, fs.set k (.ref q))) :: (rs ++ rowsW g q K)) → va_S A H0 H1 locs1 → W p l e R s m args below meth c H1 locs1 (cells + 1 + 6) (slots + 6 + 6 * K) Q (F0 m (pc + 1 + len1 + len2 + 4 + 3) ls [])) : W p l e R s m args below meth c H locs cells slots Q (F0 m pc ls []) := by
  have F' := F
  obtain ⟨f1, f2, f3, f4, f5, f6, f7, f8⟩ := F'
  refine lv_aload_n f1 f2 d0 rfl hl0 ?_
  refine i_push F d1 ?_
  refine i_push F d2 ?_
  have hKn : (Int32.ofInt (K : Int)).toNatClampNeg = K := by rcases hK with rfl | rfl <;> decide +kernel
  have hKp : ¬ Int32.ofInt (K : Int) < 0 := by rcases hK with rfl | rfl <;> decide +kernel
  refine W_multi f1 f2 f4 (f5 _ (lw_at w1) rfl args) (over_moved (Vm.Alike.refl s.vm) f7.2.2.2.2) (f5 _ (lw_at w3) rfl args) d3 (N := 6) (K := K) (by decide +kernel) (by decide +kernel) hKp (by decide +kernel) hKn (by omega) (by omega) hcells hslots (fun H1 cA comp hcA hcomp hz ho h1 h2 => ?_)
  have e1 : cA = gM g := Option.some.inj (hcA.symm.trans f7.2.2.2.1)
  have e2 : comp = gI g := Option.some.inj (hcomp.symm.trans f7.1)
  subst e1
  subst e2
  have hlt : ∀ (k : Nat) (x : Nat × va_E), ((h0, .inr (ci, fs)) :: rs)[k]? = some x → x.1 < H.size := fun k x hx => (hP k x hx).lt
  have hP1 : va_P g.D cls (((h0, .inr (ci, fs)) :: rs) ++ rowsW g H.size K) H1 := (hP.kept (fun k x hx => ho x.1 (hlt k x hx))).app (fun i x hx => by
    obtain ⟨a1, a2, a3, a4⟩ := rows_at hx
    cases i with
    | zero =>
      rw [a3 rfl]
      show H1[H.size]? = some (vp_cell _ _)
      rw [h1, outer_ok]
    | succ i =>
      obtain ⟨a5, a6⟩ := a4 i rfl
      rw [a6]
      show H1[H.size + 1 + i]? = some (vp_cell _ _)
      rw [h2 i a5, inner_ok])
  have hD1 : va_D A (((h0, .inr (ci, fs)) :: rs) ++ rowsW g H.size K) := va_D_app hD hlt (fun i j p q hi hj he => by
    have a1 := (rows_at hi).2.1
    have a2 := (rows_at hj).2.1
    omega) (fun i x hx => by
    have a1 := (rows_at hx).2.1
    have a2 := hS.1
    exact ⟨by omega, hA _ (by omega)⟩)
  have hS1 : va_S A H0 H1 (locs ++ (List.range 6).map fun j => ⟨H.size, j⟩) := ⟨by have := hS.1; omega, fun x h3 h4 => (ho x (Nat.lt_of_lt_of_le h3 hS.1)).trans (hS.2.1 x h3 h4), fun x hx => by
    rcases List.mem_append.mp hx with y | y
    · exact hS.2.2 x y
    · obtain ⟨j, _, hj⟩ := List.mem_map.mp y
      rw [← hj]
      exact hA _ hS.1⟩
  have hP2 : va_P g.D cls ((h0, .inr (ci, fs)) :: (rs ++ rowsW g H.size K)) H1 := hP1
  have hD2 : va_D A ((h0, .inr (ci, fs)) :: (rs ++ rowsW g H.size K)) := hD1
  exact i_put F hci hP2 hD2 hS1 k hk hl hw hdcl hty2 rfl rfl d4 (fun H2 locs2 a1 a2 a3 => kk H.size H2 locs2 a1 a2 a3)
end MUL
