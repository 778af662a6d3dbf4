/-! LOADS, STORES, FIELDS -/
theorem ent_0 {g : Gx} {A : Nat → Nat} {k n : Nat} {rs : List Nat} {f : Int → Int} (h : sh k = (0, n, rs)) : entF g A k f = .inl (gI g, n, .inl (fun j => Int32.ofInt (f j))) := by
  unfold entF; rw [h]; rfl
theorem ent_1 {g : Gx} {A : Nat → Nat} {k n : Nat} {rs : List Nat} {f : Int → Int} (h : sh k = (1, n, rs)) : entF g A k f = .inl (gJ g, n, .inr (.inl (fun j => Int64.ofInt (f j)))) := by
  unfold entF; rw [h]; rfl
theorem ent_2 {g : Gx} {A : Nat → Nat} {k n : Nat} {rs : List Nat} {f : Int → Int} (h : sh k = (2, n, rs)) : entF g A k f = .inl (gZ g, n, .inl (fun j => Int32.ofInt (f j))) := by
  unfold entF; rw [h]; rfl
theorem ent_3 {g : Gx} {A : Nat → Nat} {k n : Nat} {rs : List Nat} {f : Int → Int} (h : sh k = (3, n, rs)) : entF g A k f = .inl (gM g, n, .inr (.inr (.inr (.inr (fun j => some (A (rs.getD 0 0 + j))))))) := by
  unfold entF; rw [h]; rfl
theorem ent_4 {g : Gx} {A : Nat → Nat} {k ci : Nat} {rs : List Nat} {f : Int → Int} (h : sh k = (4, ci, rs)) : entF g A k f = .inr (ci, (List.range (ctL.getD ci []).length).map (fvl A f rs ci)) := by
  unfold entF; rw [h]; rfl
theorem skd_0 {k n : Nat} {rs : List Nat} {j : Int} (h : sh k = (0, n, rs)) : skd k j = 0 := by unfold skd; rw [h]; rfl
theorem skd_1 {k n : Nat} {rs : List Nat} {j : Int} (h : sh k = (1, n, rs)) : skd k j = 1 := by unfold skd; rw [h]; rfl
theorem skd_2 {k n : Nat} {rs : List Nat} {j : Int} (h : sh k = (2, n, rs)) : skd k j = 2 := by unfold skd; rw [h]; rfl
theorem skd_4 {k ci : Nat} {rs : List Nat} {j : Int} (h : sh k = (4, ci, rs)) : skd k j = ctk ci j.toNat := by unfold skd; rw [h]; rfl
theorem row_sh {p : Nat} {w : Int} (h0 : 0 ≤ w) (h1 : w < (rowN p : Int)) : p + w.toNat < 111 ∧ sh (p + w.toNat) = sh p := by
  have key : ∀ q : Nat, q < 6 → (14 + q < 111 ∧ sh (14 + q) = sh 14) ∧ (52 + q < 111 ∧ sh (52 + q) = sh 52) := by decide
  unfold rowN at h1
  by_cases h14 : p = 14
  · subst h14
    rw [if_pos rfl] at h1
    exact (key w.toNat (by omega)).1
  · rw [if_neg h14] at h1
    by_cases h52 : p = 52
    · subst h52
      rw [if_pos rfl] at h1
      exact (key w.toNat (by omega)).2
    · rw [if_neg h52] at h1
      exact absurd h1 (by simpa using h0)
theorem upd_fset (f : Int → Int) {i : Int} (h : 0 ≤ i) (x : Int) : upd (fun j : Nat => Int32.ofInt (f j)) i.toNat (Int32.ofInt x) = fun j : Nat => Int32.ofInt (fset f i x j) := by
  funext j
  unfold upd fset
  by_cases hj : j = i.toNat
  · rw [if_pos hj, if_pos (by omega)]
  · rw [if_neg hj, if_neg (by omega)]
theorem updL_fset (f : Int → Int) {i : Int} (h : 0 ≤ i) (x : Int) : vp_updL (fun j : Nat => Int64.ofInt (f j)) i.toNat (Int64.ofInt x) = fun j : Nat => Int64.ofInt (fset f i x j) := by
  funext j
  unfold vp_updL fset
  by_cases hj : j = i.toNat
  · rw [if_pos hj, if_pos (by omega)]
  · rw [if_neg hj, if_neg (by omega)]
theorem rset_ne {M : Mm} {k j : Nat} {f : Int → Int} (h : j ≠ k) : rset M k f j = M j := if_neg h
theorem rset_eq {M : Mm} {k : Nat} {f : Int → Int} : rset M k f k = f := if_pos rfl
theorem okM_rset {g : Gx} {M : Mm} {k : Nat} {f : Int → Int} (h : okM g M) (hk : k < 111) (hf : ∀ j, okS (skd k j) (f j)) : okM g (rset M k f) := by
  refine ⟨fun q j => ?_, ?_, ?_⟩
  · by_cases hq : q = k
    · subst hq; rw [rset_eq]; exact hf j
    · rw [rset_ne hq]; exact h.1 q j
  · rw [rset_ne (by omega)]; exact h.2.1
  · rw [rset_ne (by omega)]; exact h.2.2
theorem okM_mset {g : Gx} {M : Mm} {k : Nat} {i x : Int} (h : okM g M) (hk : k < 111) (hx : okS (skd k i) x) : okM g (mset M k i x) := by
  refine okM_rset h hk (fun j => ?_)
  unfold fset
  by_cases hj : j = i
  · rw [if_pos hj, hj]; exact hx
  · rw [if_neg hj]; exact h.1 k j
theorem nar_z {x : Int} (h : x = 0 ∨ x = 1) : vp_nar .boolean (Int32.ofInt x) = Int32.ofInt x ∧ narrow .boolean (.int (Int32.ofInt x)) = .int (Int32.ofInt x) ∧ fits .boolean (.int (Int32.ofInt x)) = true := by
  rcases h with rfl | rfl <;> decide
section OPM
variable {p : Program} {l : Launch} {e : Env} {R : Room} {s : State} {m : MethodId} {args : Array Value} {below : List Frame} {meth : Method} {c : Code} {cells slots : Nat} {Qf : State → Prop} {g : Gx} {A0 : Nat → Prop} {sw : Bool} {A1 : Nat → Nat} {nL : Nat} {b : ByteArray} {own : Nat} {E : Er} {Q : Ql} {pc nx : Nat} {xs : Ex} {ls st : List Vl} {M : Mm}
theorem ctxK (F : Fr p s m c g A0 nL b own) : va_K g.D cls (tys g) s := F.2.2.2.2.2.1
theorem inI_nat {n : Nat} {i : Int} (h0 : 0 ≤ i) (h : i < n) (hn : n < 2147483648) : inI i := by unfold inI; omega
/-- a load out of an int row -/
theorem ld_i (F : Fr p s m c g A0 nL b own) (hd : decode b pc = .ok (.iaload, 1)) {A : Nat → Nat} {H : Heap} {locs : List Loc} {lsA : Array Slot} {k n : Nat} {rs : List Nat} {i : Int} {rest : List Value} (hk : k < 111) (hs : sh k = (0, n, rs)) (hi : inI i) (h0 : 0 ≤ i) (hn : i < n)
    (hP : va_P g.D cls (wld g A M) H) (kk : W p l e R s m args below meth c H locs cells slots Qf (F0 m (pc + 1) lsA (.int (Int32.ofInt (M k i)) :: rest))) : W p l e R s m args below meth c H locs cells slots Qf (F0 m pc lsA (.int (Int32.ofInt i) :: .ref (A k) :: rest)) := by
  have he : (wld g A M)[k]? = some (A k, .inl (gI g, n, .inl (fun j => Int32.ofInt (M k j)))) := by rw [wld_get hk, ent_0 hs]
  refine va_iald F.1 F.2.1 (ctxK F) hP k 0 he rfl (inN hi h0 hn) hd ?_
  rw [clN hi h0, Int.toNat_of_nonneg h0]
  exact kk
theorem ld_z (F : Fr p s m c g A0 nL b own) (hd : decode b pc = .ok (.baload, 1)) {A : Nat → Nat} {H : Heap} {locs : List Loc} {lsA : Array Slot} {k n : Nat} {rs : List Nat} {i : Int} {rest : List Value} (hk : k < 111) (hs : sh k = (2, n, rs)) (hi : inI i) (h0 : 0 ≤ i) (hn : i < n)
    (hP : va_P g.D cls (wld g A M) H) (kk : W p l e R s m args below meth c H locs cells slots Qf (F0 m (pc + 1) lsA (.int (Int32.ofInt (M k i)) :: rest))) : W p l e R s m args below meth c H locs cells slots Qf (F0 m pc lsA (.int (Int32.ofInt i) :: .ref (A k) :: rest)) := by
  have he : (wld g A M)[k]? = some (A k, .inl (gZ g, n, .inl (fun j => Int32.ofInt (M k j)))) := by rw [wld_get hk, ent_2 hs]
  refine va_zald F.1 F.2.1 (ctxK F) hP k 2 he rfl (inN hi h0 hn) hd ?_
  rw [clN hi h0, Int.toNat_of_nonneg h0]
  exact kk
theorem ld_l (F : Fr p s m c g A0 nL b own) (hd : decode b pc = .ok (.laload, 1)) {A : Nat → Nat} {H : Heap} {locs : List Loc} {lsA : Array Slot} {k n : Nat} {rs : List Nat} {i : Int} {rest : List Value} (hk : k < 111) (hs : sh k = (1, n, rs)) (hi : inI i) (h0 : 0 ≤ i) (hn : i < n)
    (hP : va_P g.D cls (wld g A M) H) (kk : W p l e R s m args below meth c H locs cells slots Qf (F0 m (pc + 1) lsA (.long (Int64.ofInt (M k i)) :: rest))) : W p l e R s m args below meth c H locs cells slots Qf (F0 m pc lsA (.int (Int32.ofInt i) :: .ref (A k) :: rest)) := by
  have he : (wld g A M)[k]? = some (A k, .inl (gJ g, n, .inr (.inl (fun j => Int64.ofInt (M k j))))) := by rw [wld_get hk, ent_1 hs]
  refine va_lald F.1 F.2.1 (ctxK F) hP k 1 he rfl (inN hi h0 hn) hd ?_
  rw [clN hi h0, Int.toNat_of_nonneg h0]
  exact kk
theorem tbl_ok : ∀ t, t < 11 → ∀ j, j < lnT t → inI ((tbL.getD t []).getD j 0) := by
  unfold inI lnT
  decide
theorem lnT_lt : ∀ t, t < 11 → lnT t < 1000 := by decide
theorem s_iaload (F : Fr p s m c g A0 nL b own) (hd : decode b pc = .ok (.iaload, 1)) (h : zstep sw E Q (XK p l e R s m args below meth c cells slots Qf g A0 sw A1 nL) .iaload (pc + 1) xs ls st M) : XK p l e R s m args below meth c cells slots Qf g A0 sw A1 nL pc ls st M := by
  dsimp only [zstep] at h
  split at h
  · rename_i i a r
    intro A H locs lsA hA hP hS hl hn hM hls hst
    have hi : inI i := oks_hd hst
    have ha : okV a := oks_hd (oks_tl hst)
    have hr := oks_tl (oks_tl hst)
    rcases a with x | x | k | ⟨k, w⟩ | t | t | u
    · exact h.elim
    · exact h.elim
    · rcases hs : sh k with ⟨d, n, rs⟩
      simp only [ald, hs] at h
      obtain ⟨rfl, ⟨h0, h1⟩, h⟩ := h
      exact ld_i F hd ha hs hi h0 h1 hP (h A H locs lsA hA hP hS hl hn hM hls (oks_cons (v := vI _) (by have := hM.1 k i; rw [skd_0 hs] at this; exact this) hr))
    · obtain ⟨hk, he⟩ := row_sh ha.1 ha.2
      rcases hs : sh k with ⟨d, n, rs⟩
      simp only [ald, hs] at h
      obtain ⟨rfl, ⟨h0, h1⟩, h⟩ := h
      exact ld_i F hd hk (he.trans hs) hi h0 h1 hP (h A H locs lsA hA hP hS hl hn hM hls (oks_cons (v := vI _) (by have := hM.1 (k + w.toNat) i; rw [skd_0 (he.trans hs)] at this; exact this) hr))
    · by_cases ht : t = 100
      · subst ht
        simp only [ald, if_true] at h
        obtain ⟨-, ⟨h0, h1⟩, h⟩ := h
        obtain ⟨hX1, hX2, hX3, hX4, hX5, -⟩ := F.2.2.2.2.2.2.1
        have e1 : M 200 i = gF g i := by rw [hM.2.1]
        rw [hM.2.2] at h1
        have h2 := h A H locs lsA hA hP hS hl hn hM hls (oks_cons (v := vI _) (by have := hM.1 200 i; exact this) hr)
        refine va_sld F.1 F.2.1 hX1 hX2 hX3 hS (inN hi h0 (by omega)) hd ?_
        rw [clN hi h0, Int.toNat_of_nonneg h0, ← e1]
        exact h2
      · simp only [ald, if_neg ht] at h
        obtain ⟨h9, ⟨h0, h1⟩, h⟩ := h
        have ht2 : t < 2 ∨ t = 10 := by
          by_cases q : t < 2 ∨ t = 10
          · exact q
          · rw [if_neg q] at h9; exact absurd h9.1 (by decide)
        have hT := F.2.2.2.2.2.2.2.1 t (by omega)
        have hy : tyT t = .int := if_pos ht2
        rw [hy] at hT
        have e1 : rv g A (vT t) = .ref (gT g t) := by show (if t = 99 then _ else if t = 100 then _ else _) = _; rw [if_neg (by omega), if_neg ht]
        have h2 := h A H locs lsA hA hP hS hl hn hM hls (oks_cons (v := vI _) (tbl_ok t (by omega) i.toNat (by unfold lnT; omega)) hr)
        rw [List.map_cons, List.map_cons, e1]
        refine va_ti F.1 F.2.1 hT hS (inN hi h0 (by unfold lnT; exact h1)) rfl hd ?_
        rw [clN hi h0]
        exact h2
    · exact h.elim
    · exact h.elim
  · exact h.elim
theorem s_baload (F : Fr p s m c g A0 nL b own) (hd : decode b pc = .ok (.baload, 1)) (h : zstep sw E Q (XK p l e R s m args below meth c cells slots Qf g A0 sw A1 nL) .baload (pc + 1) xs ls st M) : XK p l e R s m args below meth c cells slots Qf g A0 sw A1 nL pc ls st M := by
  dsimp only [zstep] at h
  split at h
  · rename_i i a r
    intro A H locs lsA hA hP hS hl hn hM hls hst
    have hi : inI i := oks_hd hst
    have ha : okV a := oks_hd (oks_tl hst)
    have hr := oks_tl (oks_tl hst)
    rcases a with x | x | k | ⟨k, w⟩ | t | t | u
    · exact h.elim
    · exact h.elim
    · rcases hs : sh k with ⟨d, n, rs⟩
      simp only [ald, hs] at h
      obtain ⟨rfl, ⟨h0, h1⟩, h⟩ := h
      exact ld_z F hd ha hs hi h0 h1 hP (h A H locs lsA hA hP hS hl hn hM hls (oks_cons (v := vI _) (by have := hM.1 k i; rw [skd_2 hs] at this; show inI _; unfold inI; rcases this with q | q <;> omega) hr))
    · obtain ⟨hk, he⟩ := row_sh ha.1 ha.2
      rcases hs : sh k with ⟨d, n, rs⟩
      simp only [ald, hs] at h
      obtain ⟨rfl, ⟨h0, h1⟩, h⟩ := h
      exact ld_z F hd hk (he.trans hs) hi h0 h1 hP (h A H locs lsA hA hP hS hl hn hM hls (oks_cons (v := vI _) (by have := hM.1 (k + w.toNat) i; rw [skd_2 (he.trans hs)] at this; show inI _; unfold inI; rcases this with q | q <;> omega) hr))
    · by_cases ht : t = 100
      · subst ht
        simp only [ald, if_true] at h
        exact absurd h.1 (by decide)
      · simp only [ald, if_neg ht] at h
        obtain ⟨h9, ⟨h0, h1⟩, h⟩ := h
        have ht2 : ¬ (t < 2 ∨ t = 10) := by
          intro q
          rw [if_pos q] at h9; exact absurd h9 (by decide)
        rw [if_neg ht2] at h9
        have hT := F.2.2.2.2.2.2.2.1 t (by omega)
        have hy : tyT t = .byte := if_neg ht2
        rw [hy] at hT
        have e1 : rv g A (vT t) = .ref (gT g t) := by show (if t = 99 then _ else if t = 100 then _ else _) = _; rw [if_neg (by omega), if_neg ht]
        have h2 := h A H locs lsA hA hP hS hl hn hM hls (oks_cons (v := vI _) (tbl_ok t (by omega) i.toNat (by unfold lnT; omega)) hr)
        rw [List.map_cons, List.map_cons, e1]
        refine va_tb F.1 F.2.1 hT hS (inN hi h0 (by unfold lnT; exact h1)) rfl hd ?_
        rw [clN hi h0]
        exact h2
    · exact h.elim
    · exact h.elim
  · exact h.elim
theorem s_laload (F : Fr p s m c g A0 nL b own) (hd : decode b pc = .ok (.laload, 1)) (h : zstep sw E Q (XK p l e R s m args below meth c cells slots Qf g A0 sw A1 nL) .laload (pc + 1) xs ls st M) : XK p l e R s m args below meth c cells slots Qf g A0 sw A1 nL pc ls st M := by
  dsimp only [zstep] at h
  split at h
  · rename_i i k r
    intro A H locs lsA hA hP hS hl hn hM hls hst
    have hi : inI i := oks_hd hst
    have ha : k < 111 := oks_hd (oks_tl hst)
    have hr := oks_tl (oks_tl hst)
    rcases hs : sh k with ⟨d, n, rs⟩
    simp only [ald, hs] at h
    obtain ⟨rfl, ⟨h0, h1⟩, h⟩ := h
    exact ld_l F hd ha hs hi h0 h1 hP (h A H locs lsA hA hP hS hl hn hM hls (oks_cons (v := vL _) (by have := hM.1 k i; rw [skd_1 hs] at this; exact this) hr))
  · exact h.elim
theorem mat_ok : ∀ k, k < 111 → (sh k).1 = 3 → (sh k).2.1 ≤ rowN ((sh k).2.2.getD 0 0) := by decide
theorem s_aaload (F : Fr p s m c g A0 nL b own) (hd : decode b pc = .ok (.aaload, 1)) (h : zstep sw E Q (XK p l e R s m args below meth c cells slots Qf g A0 sw A1 nL) .aaload (pc + 1) xs ls st M) : XK p l e R s m args below meth c cells slots Qf g A0 sw A1 nL pc ls st M := by
  dsimp only [zstep] at h
  split at h
  · rename_i i k r
    intro A H locs lsA hA hP hS hl hn hM hls hst
    have hi : inI i := oks_hd hst
    have ha : k < 111 := oks_hd (oks_tl hst)
    have hr := oks_tl (oks_tl hst)
    rcases hs : sh k with ⟨d, n, rs⟩
    simp only [hs] at h
    obtain ⟨rfl, ⟨h0, h1⟩, h⟩ := h
    have hm := mat_ok k ha (by rw [hs])
    rw [hs] at hm
    have he : (wld g A M)[k]? = some (A k, .inl (gM g, n, .inr (.inr (.inr (.inr (fun j => some (A (rs.getD 0 0 + j)))))))) := by rw [wld_get ha, ent_3 hs]
    have h2 := h A H locs lsA hA hP hS hl hn hM hls (oks_cons (v := vW _ _) ⟨h0, by dsimp only at hm; omega⟩ hr)
    have hin := inN hi h0 h1
    have hlt : (Int32.ofInt i).toNatClampNeg < n := by rw [clN hi h0]; omega
    refine W.aald (v := .ref (A (rs.getD 0 0 + i.toNat))) (ty := .array .int) F.1 F.2.1 (hP k _ he) (((ctxK F).2 3 _ rfl).1 n (fun j => va_rf ((fun j => some (A (rs.getD 0 0 + j))) j))) rfl (fun q => by cases q) (by show ¬ (_ ∨ (arrV _ _ _).slots.size ≤ _); rw [arrV_size]; exact hin) ?_ rfl rfl hd h2
    show (arrV _ _ _).slots[_]? = _
    rw [arrV_read _ _ hlt, clN hi h0]
    rfl
  · exact h.elim
theorem st_i (F : Fr p s m c g A0 nL b own) (hd : decode b pc = .ok (.iastore, 1)) {A : Nat → Nat} {H : Heap} {locs : List Loc} {lsA : Array Slot} {k n : Nat} {rs : List Nat} {i x : Int} {rest : List Value} (hA : adr A0 A) (hk : k < 111) (hs : sh k = (0, n, rs)) (hi : inI i) (h0 : 0 ≤ i) (hn : i < n)
    (hP : va_P g.D cls (wld g A M) H) (hS : va_S A0 s.heap H locs) (kk : ∀ (H1 : Heap) (locs1 : List Loc), va_P g.D cls (wld g A (mset M k i x)) H1 → va_S A0 s.heap H1 locs1 → W p l e R s m args below meth c H1 locs1 cells slots Qf (F0 m (pc + 1) lsA rest)) : W p l e R s m args below meth c H locs cells slots Qf (F0 m pc lsA (.int (Int32.ofInt x) :: .int (Int32.ofInt i) :: .ref (A k) :: rest)) := by
  have he : (wld g A M)[k]? = some (A k, .inl (gI g, n, .inl (fun j => Int32.ofInt (M k j)))) := by rw [wld_get hk, ent_0 hs]
  refine va_iast F.1 F.2.1 (ctxK F) hP (wld_D hA) hS k 0 he rfl (inN hi h0 hn) hd (fun H1 locs1 hP1 _ hS1 => ?_)
  rw [clN hi h0, upd_fset _ h0, ← ent_0 (A := A) (f := fset (M k) i x) hs, wld_set hk] at hP1
  exact kk H1 locs1 hP1 hS1
theorem st_z (F : Fr p s m c g A0 nL b own) (hd : decode b pc = .ok (.bastore, 1)) {A : Nat → Nat} {H : Heap} {locs : List Loc} {lsA : Array Slot} {k n : Nat} {rs : List Nat} {i x : Int} {rest : List Value} (hA : adr A0 A) (hk : k < 111) (hs : sh k = (2, n, rs)) (hi : inI i) (h0 : 0 ≤ i) (hn : i < n) (hx : x = 0 ∨ x = 1)
    (hP : va_P g.D cls (wld g A M) H) (hS : va_S A0 s.heap H locs) (kk : ∀ (H1 : Heap) (locs1 : List Loc), va_P g.D cls (wld g A (mset M k i x)) H1 → va_S A0 s.heap H1 locs1 → W p l e R s m args below meth c H1 locs1 cells slots Qf (F0 m (pc + 1) lsA rest)) : W p l e R s m args below meth c H locs cells slots Qf (F0 m pc lsA (.int (Int32.ofInt x) :: .int (Int32.ofInt i) :: .ref (A k) :: rest)) := by
  have he : (wld g A M)[k]? = some (A k, .inl (gZ g, n, .inl (fun j => Int32.ofInt (M k j)))) := by rw [wld_get hk, ent_2 hs]
  refine va_zast F.1 F.2.1 (ctxK F) hP (wld_D hA) hS k 2 he rfl (inN hi h0 hn) hd (fun H1 locs1 hP1 _ hS1 => ?_)
  rw [clN hi h0, (nar_z hx).1, upd_fset _ h0, ← ent_2 (A := A) (f := fset (M k) i x) hs, wld_set hk] at hP1
  exact kk H1 locs1 hP1 hS1
theorem st_l (F : Fr p s m c g A0 nL b own) (hd : decode b pc = .ok (.lastore, 1)) {A : Nat → Nat} {H : Heap} {locs : List Loc} {lsA : Array Slot} {k n : Nat} {rs : List Nat} {i x : Int} {rest : List Value} (hA : adr A0 A) (hk : k < 111) (hs : sh k = (1, n, rs)) (hi : inI i) (h0 : 0 ≤ i) (hn : i < n)
    (hP : va_P g.D cls (wld g A M) H) (hS : va_S A0 s.heap H locs) (kk : ∀ (H1 : Heap) (locs1 : List Loc), va_P g.D cls (wld g A (mset M k i x)) H1 → va_S A0 s.heap H1 locs1 → W p l e R s m args below meth c H1 locs1 cells slots Qf (F0 m (pc + 1) lsA rest)) : W p l e R s m args below meth c H locs cells slots Qf (F0 m pc lsA (.long (Int64.ofInt x) :: .int (Int32.ofInt i) :: .ref (A k) :: rest)) := by
  have he : (wld g A M)[k]? = some (A k, .inl (gJ g, n, .inr (.inl (fun j => Int64.ofInt (M k j))))) := by rw [wld_get hk, ent_1 hs]
  refine va_last F.1 F.2.1 (ctxK F) hP (wld_D hA) hS k 1 he rfl (inN hi h0 hn) hd (fun H1 locs1 hP1 _ hS1 => ?_)
  rw [clN hi h0, updL_fset _ h0, ← ent_1 (A := A) (f := fset (M k) i x) hs, wld_set hk] at hP1
  exact kk H1 locs1 hP1 hS1
theorem s_iastore (F : Fr p s m c g A0 nL b own) (hd : decode b pc = .ok (.iastore, 1)) (h : zstep sw E Q (XK p l e R s m args below meth c cells slots Qf g A0 sw A1 nL) .iastore (pc + 1) xs ls st M) : XK p l e R s m args below meth c cells slots Qf g A0 sw A1 nL pc ls st M := by
  dsimp only [zstep] at h
  split at h
  · rename_i x i a r
    intro A H locs lsA hA hP hS hl hn hM hls hst
    have hx : inI x := oks_hd hst
    have hi : inI i := oks_hd (oks_tl hst)
    have ha : okV a := oks_hd (oks_tl (oks_tl hst))
    have hr := oks_tl (oks_tl (oks_tl hst))
    rcases a with y | y | k | ⟨k, w⟩ | t | t | u
    · exact h.elim
    · exact h.elim
    · rcases hs : sh k with ⟨d, n, rs⟩
      simp only [ast, hs] at h
      obtain ⟨rfl, ⟨h0, h1⟩, h⟩ := h
      exact st_i F hd hA.adr ha hs hi h0 h1 hP hS (fun H1 locs1 hP1 hS1 => h A H1 locs1 lsA hA hP1 hS1 hl hn (okM_mset hM ha (by rw [skd_0 hs]; exact hx)) hls hr)
    · obtain ⟨hk, he⟩ := row_sh ha.1 ha.2
      rcases hs : sh k with ⟨d, n, rs⟩
      simp only [ast, hs] at h
      obtain ⟨rfl, ⟨h0, h1⟩, h⟩ := h
      exact st_i F hd hA.adr hk (he.trans hs) hi h0 h1 hP hS (fun H1 locs1 hP1 hS1 => h A H1 locs1 lsA hA hP1 hS1 hl hn (okM_mset hM hk (by rw [skd_0 (he.trans hs)]; exact hx)) hls hr)
    · exact h.elim
    · exact h.elim
    · exact h.elim
  · exact h.elim
theorem s_bastore (F : Fr p s m c g A0 nL b own) (hd : decode b pc = .ok (.bastore, 1)) (h : zstep sw E Q (XK p l e R s m args below meth c cells slots Qf g A0 sw A1 nL) .bastore (pc + 1) xs ls st M) : XK p l e R s m args below meth c cells slots Qf g A0 sw A1 nL pc ls st M := by
  dsimp only [zstep] at h
  split at h
  · rename_i x i a r
    obtain ⟨hx, h⟩ := h
    intro A H locs lsA hA hP hS hl hn hM hls hst
    have hi : inI i := oks_hd (oks_tl hst)
    have ha : okV a := oks_hd (oks_tl (oks_tl hst))
    have hr := oks_tl (oks_tl (oks_tl hst))
    rcases a with y | y | k | ⟨k, w⟩ | t | t | u
    · exact h.elim
    · exact h.elim
    · rcases hs : sh k with ⟨d, n, rs⟩
      simp only [ast, hs] at h
      obtain ⟨rfl, ⟨h0, h1⟩, h⟩ := h
      exact st_z F hd hA.adr ha hs hi h0 h1 hx hP hS (fun H1 locs1 hP1 hS1 => h A H1 locs1 lsA hA hP1 hS1 hl hn (okM_mset hM ha (by rw [skd_2 hs]; exact hx)) hls hr)
    · obtain ⟨hk, he⟩ := row_sh ha.1 ha.2
      rcases hs : sh k with ⟨d, n, rs⟩
      simp only [ast, hs] at h
      obtain ⟨rfl, ⟨h0, h1⟩, h⟩ := h
      exact st_z F hd hA.adr hk (he.trans hs) hi h0 h1 hx hP hS (fun H1 locs1 hP1 hS1 => h A H1 locs1 lsA hA hP1 hS1 hl hn (okM_mset hM hk (by rw [skd_2 (he.trans hs)]; exact hx)) hls hr)
    · exact h.elim
    · exact h.elim
    · exact h.elim
  · exact h.elim
theorem s_lastore (F : Fr p s m c g A0 nL b own) (hd : decode b pc = .ok (.lastore, 1)) (h : zstep sw E Q (XK p l e R s m args below meth c cells slots Qf g A0 sw A1 nL) .lastore (pc + 1) xs ls st M) : XK p l e R s m args below meth c cells slots Qf g A0 sw A1 nL pc ls st M := by
  dsimp only [zstep] at h
  split at h
  · rename_i x i k r
    intro A H locs lsA hA hP hS hl hn hM hls hst
    have hx : inJ x := oks_hd hst
    have hi : inI i := oks_hd (oks_tl hst)
    have ha : k < 111 := oks_hd (oks_tl (oks_tl hst))
    have hr := oks_tl (oks_tl (oks_tl hst))
    rcases hs : sh k with ⟨d, n, rs⟩
    simp only [ast, hs] at h
    obtain ⟨rfl, ⟨h0, h1⟩, h⟩ := h
    exact st_l F hd hA.adr ha hs hi h0 h1 hP hS (fun H1 locs1 hP1 hS1 => h A H1 locs1 lsA hA hP1 hS1 hl hn (okM_mset hM ha (by rw [skd_1 hs]; exact hx)) hls hr)
  · exact h.elim
theorem shN_lt : ∀ k, k < 111 → (sh k).2.1 < 20000 := by decide
theorem s_alen (F : Fr p s m c g A0 nL b own) (hd : decode b pc = .ok (.arraylength, 1)) (h : zstep sw E Q (XK p l e R s m args below meth c cells slots Qf g A0 sw A1 nL) .arraylength (pc + 1) xs ls st M) : XK p l e R s m args below meth c cells slots Qf g A0 sw A1 nL pc ls st M := by
  dsimp only [zstep] at h
  split at h
  · rename_i k r
    intro A H locs lsA hA hP hS hl hn hM hls hst
    have ha : k < 111 := oks_hd hst
    rcases hs : sh k with ⟨d, n, rs⟩
    simp only [hs] at h
    obtain ⟨rfl, h⟩ := h
    have hb := shN_lt k ha
    rw [hs] at hb
    have he : (wld g A M)[k]? = some (A k, .inl (gI g, n, .inl (fun j => Int32.ofInt (M k j)))) := by rw [wld_get ha, ent_0 hs]
    refine va_alen (v := Int32.ofInt n) F.1 F.2.1 (ctxK F) hP k 0 he rfl rfl hd ?_
    exact h A H locs lsA hA hP hS hl hn hM hls (oks_cons (v := vI n) (by show inI _; unfold inI; dsimp only at hb; omega) (oks_tl hst))
  · rename_i t r
    intro A H locs lsA hA hP hS hl hn hM hls hst
    by_cases ht : t = 100
    · subst ht
      rw [if_pos rfl] at h
      obtain ⟨hX1, hX2, hX3, hX4, hX5, -⟩ := F.2.2.2.2.2.2.1
      rw [hM.2.2] at h
      refine va_slen F.1 F.2.1 hX1 hX2 hX3 hS hd ?_
      have h2 := h A H locs lsA hA hP hS hl hn hM hls (oks_cons (v := vI _) (by show inI _; unfold inI; omega) (oks_tl hst))
      have e1 : Int32.ofNat (gL g).toNat = Int32.ofInt (gL g) := by
        rw [← Int.toNat_of_nonneg hX4]
        rfl
      rw [e1]
      exact h2
    · rw [if_neg ht] at h
      obtain ⟨h9, h⟩ := h
      have hT := F.2.2.2.2.2.2.2.1 t (by omega)
      have hl9 := lnT_lt t (by omega)
      have e1 : rv g A (vT t) = .ref (gT g t) := by show (if t = 99 then _ else if t = 100 then _ else _) = _; rw [if_neg (by omega), if_neg ht]
      rw [List.map_cons, e1]
      refine va_tlen (v := Int32.ofInt (lnT t)) F.1 F.2.1 hT hS rfl hd ?_
      exact h A H locs lsA hA hP hS hl hn hM hls (oks_cons (v := vI (lnT t)) (by show inI _; unfold inI; omega) (oks_tl hst))
  · exact h.elim
end OPM
