/-! constructors: worlds cut out of the whole -/
def segM (g : Gx) (k0 n : Nat) (A : Nat → Nat) (m : Mm) : va_W := (List.range n).map fun j => (A (k0 + j), entF g A (k0 + j) (m (k0 + j)))
theorem segM_get {g : Gx} {k0 n : Nat} {A : Nat → Nat} {m : Mm} {k : Nat} (h : k < n) : (segM g k0 n A m)[k]? = some (A (k0 + k), entF g A (k0 + k) (m (k0 + k))) := by
  simp [segM, h]
theorem segM_lt {g : Gx} {k0 n : Nat} {A : Nat → Nat} {m : Mm} {k : Nat} {x : Nat × va_E} (h : (segM g k0 n A m)[k]? = some x) : k < n := by
  have := (List.getElem?_eq_some_iff.mp h).1
  simpa [segM] using this
theorem segM_set {g : Gx} {k0 n : Nat} {A : Nat → Nat} {m : Mm} {k : Nat} (h : k < n) (f : Int → Int) : (segM g k0 n A m).set k (A (k0 + k), entF g A (k0 + k) f) = segM g k0 n A (rset m (k0 + k) f) := by
  apply List.ext_getElem?
  intro j
  by_cases hj : j = k
  · subst hj
    rw [List.getElem?_set_self (by simp [segM, h]), segM_get h]
    simp [rset]
  · rw [List.getElem?_set_ne (Ne.symm hj)]
    by_cases hn : j < n
    · rw [segM_get hn, segM_get hn]
      have e : rset m (k0 + k) f (k0 + j) = m (k0 + j) := if_neg (by omega)
      rw [e]
    · rw [List.getElem?_eq_none (by simp [segM]; omega), List.getElem?_eq_none (by simp [segM]; omega)]
theorem segM_congr {g : Gx} {k0 n : Nat} {A : Nat → Nat} {m m' : Mm} (h : ∀ k, k0 ≤ k → k < k0 + n → m k = m' k) : segM g k0 n A m = segM g k0 n A m' := by
  apply List.ext_getElem?
  intro j
  by_cases hn : j < n
  · rw [segM_get hn, segM_get hn, h (k0 + j) (by omega) (by omega)]
  · rw [List.getElem?_eq_none (by simp [segM]; omega), List.getElem?_eq_none (by simp [segM]; omega)]
/-- the cells that a cell names -/
def refsC (k : Nat) : List Nat := match sh k with
  | (0, _, _) => []
  | (1, _, _) => []
  | (2, _, _) => []
  | (3, n, rs) => (List.range n).map fun j => rs.getD 0 0 + j
  | (_, ci, rs) => ((List.range (ctL.getD ci []).length).filter fun j => ctk ci j == 3).map fun j => rs.getD j 0
theorem sh_kd : ∀ k, k < 111 → (sh k).1 = 0 ∨ (sh k).1 = 1 ∨ (sh k).1 = 2 ∨ ((sh k).1 = 3 ∧ (sh k).2.1 = 6) ∨ (sh k).1 = 4 := by decide
theorem ctk_kd : ∀ ci, ci < 12 → ∀ j, j < (ctL.getD ci []).length → ctk ci j = 0 ∨ ctk ci j = 1 ∨ ctk ci j = 2 ∨ ctk ci j = 3 := by decide +kernel
theorem sh_ci : ∀ k, k < 111 → (sh k).1 = 4 → (sh k).2.1 < 12 := by decide
theorem ent_at {g : Gx} {A A' : Nat → Nat} {k : Nat} {f : Int → Int} {H : Heap} {a : Nat} (hk : k < 111) (h : ∀ r ∈ refsC k, A r = A' r) (hat : va_at g.D cls (a, entF g A k f) H) : va_at g.D cls (a, entF g A' k f) H := by
  rcases hs : sh k with ⟨d, n, rs⟩
  have hd := sh_kd k hk
  have hc := sh_ci k hk
  rw [hs] at hd hc
  dsimp only at hd hc
  unfold refsC at h
  rw [hs] at h
  unfold entF at hat ⊢
  rw [hs] at hat ⊢
  rcases hd with rfl | rfl | rfl | ⟨rfl, rfl⟩ | rfl
  · exact hat
  · exact hat
  · exact hat
  · have e : ∀ j, j < 6 → A (rs.getD 0 0 + j) = A' (rs.getD 0 0 + j) := fun j hj => h _ (List.mem_map.mpr ⟨j, List.mem_range.mpr hj, rfl⟩)
    have hat : H[a]? = some (vp_cell (gM g) (6, .inr (.inr (.inr (.inr (fun j => some (A (rs.getD 0 0 + j)))))))) := hat
    show H[a]? = some (vp_cell (gM g) (6, .inr (.inr (.inr (.inr (fun j => some (A' (rs.getD 0 0 + j))))))))
    rw [hat]
    congr 1
    show arrV (gM g) 6 (fun j => va_rf (some (A (rs.getD 0 0 + j)))) = arrV (gM g) 6 (fun j => va_rf (some (A' (rs.getD 0 0 + j))))
    exact arrV_ext (fun j hj => by rw [e j hj])
  · have hn := hc rfl
    have e : (List.range (ctL.getD n []).length).map (fvl A f rs n) = (List.range (ctL.getD n []).length).map (fvl A' f rs n) := by
      refine List.map_congr_left (fun j hj => ?_)
      have hj := List.mem_range.mp hj
      unfold fvl
      rcases ctk_kd n hn j hj with q | q | q | q
      · (rw [q]; rfl)
      · (rw [q]; rfl)
      · (rw [q]; rfl)
      · have := h (rs.getD j 0) (List.mem_map.mpr ⟨j, List.mem_filter.mpr ⟨List.mem_range.mpr hj, by rw [q]; rfl⟩, rfl⟩)
        rw [q]
        show Value.ref (A (rs.getD j 0)) = Value.ref (A' (rs.getD j 0))
        rw [this]
    have hat : va_at g.D cls (a, .inr (n, (List.range (ctL.getD n []).length).map (fvl A f rs n))) H := hat
    show va_at g.D cls (a, .inr (n, (List.range (ctL.getD n []).length).map (fvl A' f rs n))) H
    rw [← e]; exact hat
/-- a cut names only its own cells -/
def clsd (k0 n : Nat) : Prop := ∀ j, j < n → ∀ r ∈ refsC (k0 + j), k0 ≤ r ∧ r < k0 + n
theorem seg_P {g : Gx} {A A' : Nat → Nat} {k0 n : Nat} {m : Mm} {H : Heap} (hk : k0 + n ≤ 111) (hc : clsd k0 n) (h : ∀ k, k0 ≤ k → k < k0 + n → A k = A' k) (hP : va_P g.D cls (segM g k0 n A m) H) : va_P g.D cls (segM g k0 n A' m) H := by
  intro j x hx
  have hj := segM_lt hx
  rw [segM_get hj] at hx
  have e : (A' (k0 + j), entF g A' (k0 + j) (m (k0 + j))) = x := Option.some.inj hx
  rw [← e, ← h (k0 + j) (by omega) (by omega)]
  exact ent_at (by omega) (fun r hr => by
    have := hc j hj r hr
    exact h r this.1 this.2) (hP j _ (segM_get hj))
theorem D_fst {A : Nat → Prop} {ws ws' : va_W} (h : va_D A ws) (e : ws.map (·.1) = ws'.map (·.1)) : va_D A ws' := by
  have key : ∀ (i : Nat) (q : Nat × va_E), ws'[i]? = some q → ∃ q', ws[i]? = some q' ∧ q'.1 = q.1 := by
    intro i q hq
    have h1 : (ws'.map (·.1))[i]? = some q.1 := by rw [List.getElem?_map, hq]; rfl
    rw [← e, List.getElem?_map] at h1
    cases hi : ws[i]? with
    | none => rw [hi] at h1; cases h1
    | some q' => rw [hi] at h1; exact ⟨q', rfl, Option.some.inj h1⟩
  refine ⟨fun i j p q hi hj hpq => ?_, fun k q hq => ?_⟩
  · obtain ⟨p', a1, a2⟩ := key i p hi
    obtain ⟨q', b1, b2⟩ := key j q hj
    exact h.1 i j p' q' a1 b1 (by rw [a2, b2, hpq])
  · obtain ⟨q', a1, a2⟩ := key k q hq
    rw [← a2]; exact h.2 k q' a1
theorem P_l {D : va_G} {cl : List vw_C} {w1 w2 : va_W} {H : Heap} (h : va_P D cl (w1 ++ w2) H) : va_P D cl w1 H := fun k q hq => h k q (by
  rw [List.getElem?_append_left (List.getElem?_eq_some_iff.mp hq).1]; exact hq)
theorem P_r {D : va_G} {cl : List vw_C} {w1 w2 : va_W} {H : Heap} (h : va_P D cl (w1 ++ w2) H) : va_P D cl w2 H := fun k q hq => h (w1.length + k) q (by
  rw [List.getElem?_append_right (by omega), Nat.add_sub_cancel_left]; exact hq)
theorem P_re {D : va_G} {cl : List vw_C} {ws : va_W} {H : Heap} {k a : Nat} {cA : ClassId} {x y : vp_A} (h : va_P D cl ws H) (hk : ws[k]? = some (a, .inl (cA, x))) (e : vp_cell cA x = vp_cell cA y) : va_P D cl (ws.set k (a, .inl (cA, y))) H := by
  intro j q hq
  by_cases hj : k = j
  · subst hj
    rw [List.getElem?_set_self (List.getElem?_eq_some_iff.mp hk).1] at hq
    have e2 : (a, (.inl (cA, y) : va_E)) = q := Option.some.inj hq
    rw [← e2]
    show H[a]? = some (vp_cell cA y)
    rw [← e]
    exact h k _ hk
  · rw [List.getElem?_set_ne hj] at hq
    exact h j q hq
theorem segM_app {g : Gx} {k0 n n' : Nat} {A : Nat → Nat} {m : Mm} : segM g k0 (n + n') A m = segM g k0 n A m ++ segM g (k0 + n) n' A m := by
  unfold segM
  rw [List.range_add, List.map_append, List.map_map]
  congr 1
  refine List.map_congr_left (fun j _ => ?_)
  show (A (k0 + (n + j)), entF g A (k0 + (n + j)) (m (k0 + (n + j)))) = _
  rw [← Nat.add_assoc]
section SEG
variable {p : Program} {l : Launch} {e : Env} {R : Room} {s : State} {m : MethodId} {args : Array Value} {below : List Frame} {meth : Method} {c : Code} {H : Heap} {locs : List Loc} {cells slots : Nat} {Q : State → Prop} {g : Gx} {nL : Nat} {b : ByteArray} {ci : Nat}
theorem sg_ist (F : Fi p s m meth c g nL b ci) {pc : Nat} (hd : decode b pc = .ok (.iastore, 1)) {B : Nat → Prop} {H0 : Heap} {A : Nat → Nat} {ls : Array Slot} {k0 n k N : Nat} {M : Mm} {rs : List Nat} {i x : Int} {rest : List Value} (hk : k < n) (hs : sh (k0 + k) = (0, N, rs)) (hi : inI i) (h0 : 0 ≤ i) (hn : i < N) (hP : va_P g.D cls (segM g k0 n A M) H) (hD : va_D B (segM g k0 n A M)) (hS : va_S B H0 H locs) (kk : ∀ (H1 : Heap) (locs1 : List Loc), va_P g.D cls (segM g k0 n A (mset M (k0 + k) i x)) H1 → va_D B (segM g k0 n A (mset M (k0 + k) i x)) → va_S B H0 H1 locs1 → W p l e R s m args below meth c H1 locs1 cells slots Q (F0 m (pc + 1) ls rest)) : W p l e R s m args below meth c H locs cells slots Q (F0 m pc ls (.int (Int32.ofInt x) :: .int (Int32.ofInt i) :: .ref (A (k0 + k)) :: rest)) := by
  have he : (segM g k0 n A M)[k]? = some (A (k0 + k), .inl (gI g, N, .inl (fun j => Int32.ofInt (M (k0 + k) j)))) := by rw [segM_get hk, ent_0 hs]
  refine va_iast F.1 F.2.1 F.2.2.2.2.2.1 hP hD hS k 0 he rfl (inN hi h0 hn) hd (fun H1 locs1 hP1 hD1 hS1 => ?_)
  rw [clN hi h0, upd_fset _ h0, ← ent_0 (A := A) (f := fset (M (k0 + k)) i x) hs, segM_set hk] at hP1 hD1
  exact kk H1 locs1 hP1 hD1 hS1
theorem sg_aald (F : Fi p s m meth c g nL b ci) {pc : Nat} (hd : decode b pc = .ok (.aaload, 1)) {A : Nat → Nat} {ls : Array Slot} {k0 n k N : Nat} {M : Mm} {rs : List Nat} {i : Int} {rest : List Value} (hk : k < n) (hs : sh (k0 + k) = (3, N, rs)) (hi : inI i) (h0 : 0 ≤ i) (hn : i < N) (hP : va_P g.D cls (segM g k0 n A M) H) (kk : W p l e R s m args below meth c H locs cells slots Q (F0 m (pc + 1) ls (.ref (A (rs.getD 0 0 + i.toNat)) :: rest))) : W p l e R s m args below meth c H locs cells slots Q (F0 m pc ls (.int (Int32.ofInt i) :: .ref (A (k0 + k)) :: rest)) := by
  have he : (segM g k0 n A M)[k]? = some (A (k0 + k), .inl (gM g, N, .inr (.inr (.inr (.inr (fun j => some (A (rs.getD 0 0 + j)))))))) := by rw [segM_get hk, ent_3 hs]
  have hin := inN hi h0 hn
  have hlt : (Int32.ofInt i).toNatClampNeg < N := by rw [clN hi h0]; omega
  refine W.aald (v := .ref (A (rs.getD 0 0 + i.toNat))) (ty := .array .int) F.1 F.2.1 (hP k _ he) ((F.2.2.2.2.2.1.2 3 _ rfl).1 N (fun j => va_rf ((fun j => some (A (rs.getD 0 0 + j))) j))) rfl (fun q => by cases q) (by show ¬ (_ ∨ (arrV _ _ _).slots.size ≤ _); rw [arrV_size]; exact hin) ?_ rfl rfl hd kk
  show (arrV _ _ _).slots[_]? = _
  rw [arrV_read _ _ hlt, clN hi h0]
  rfl
end SEG
