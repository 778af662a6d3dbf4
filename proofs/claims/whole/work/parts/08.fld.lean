/-! FIELDS, STATICS, STRINGS, COPIES -/
def clsR (ci : Nat) : vw_C := cls.getD ci ("", Tn0, 0)
def tyR (ci : Nat) : Nat → FieldType := tyL.getD ci ty0
theorem cls_get (ci : Nat) (h : ci < 12) : cls[ci]? = some (clsR ci) := by
  have : ci < cls.length := h
  simp [clsR, List.getD_eq_getElem?_getD, List.getElem?_eq_getElem this]
theorem cls_ws0 : (List.range 12).all (fun ci => (u_ws (clsR ci).1 (clsR ci).2.1 (clsR ci).2.2).all (fun w => decide (w ∈ lw_tbl) && wKeep w)) = true := by decide +kernel
theorem cls_ws (ci : Nat) (h : ci < 12) : ∀ w ∈ u_ws (clsR ci).1 (clsR ci).2.1 (clsR ci).2.2, w ∈ lwK := by
  intro w hw
  have h1 := List.all_eq_true.mp cls_ws0 ci (List.mem_range.mpr h)
  have h2 := List.all_eq_true.mp h1 w hw
  simp only [Bool.and_eq_true, decide_eq_true_eq] at h2
  exact lwK_mem h2.1 h2.2
theorem cls_n : ∀ ci, ci < 12 → (clsR ci).2.2 = (ctL.getD ci []).length := by decide +kernel
theorem cls_ty : ∀ ci, ci < 12 → ∀ k, k < (clsR ci).2.2 → parseFieldDescriptor ((clsR ci).2.1 k).2.2.1 = some (tyR ci k) := by decide +kernel
theorem cls_nm : ∀ ci, ci < 12 → ∀ a, a < (clsR ci).2.2 → ∀ b, b < (clsR ci).2.2 → a ≠ b → ((clsR ci).2.1 a).2.1 ≠ ((clsR ci).2.1 b).2.1 := by decide +kernel
def kdC (ci k : Nat) : Bool := decide (((clsR ci).2.1 k).1 = (clsR ci).1) && (decide (¬ ctk ci k = 0) || decide (((clsR ci).2.1 k).2.2 = ("I", false))) && (decide (¬ ctk ci k = 1) || decide (((clsR ci).2.1 k).2.2 = ("J", false))) && (decide (¬ ctk ci k = 2) || decide (((clsR ci).2.1 k).2.2 = ("Z", false)))
theorem cls_kd0 : (List.range 12).all (fun ci => (List.range (clsR ci).2.2).all (kdC ci)) = true := by decide +kernel
theorem cls_kd (ci : Nat) (h : ci < 12) (k : Nat) (hk : k < (clsR ci).2.2) : ((clsR ci).2.1 k).1 = (clsR ci).1 ∧ (ctk ci k = 0 → ((clsR ci).2.1 k).2.2 = ("I", false)) ∧ (ctk ci k = 1 → ((clsR ci).2.1 k).2.2 = ("J", false)) ∧ (ctk ci k = 2 → ((clsR ci).2.1 k).2.2 = ("Z", false)) := by
  have h1 := List.all_eq_true.mp (List.all_eq_true.mp cls_kd0 ci (List.mem_range.mpr h)) k (List.mem_range.mpr hk)
  simp only [kdC, Bool.and_eq_true, Bool.or_eq_true, decide_eq_true_eq] at h1
  exact ⟨h1.1.1.1, fun q => h1.1.1.2.resolve_left (fun z => z q), fun q => h1.1.2.resolve_left (fun z => z q), fun q => h1.2.resolve_left (fun z => z q)⟩
theorem refs_lt : ∀ k, k < 111 → ∀ r ∈ (sh k).2.2, r < 111 := by decide
def flW (q : Nat × Nat × Nat × Nat × Nat × Nat) : Jvm.Cond := match q with
  | (ow, idx, ci, sl, nest, _) => if ci = 100 then .fieldLink (ownN ow) idx sSt (if sl = 0 then "value" else "coder") (if sl = 0 then "[B" else "B") else if nest = 0 then .fieldLink (ownN ow) idx (clsR ci).1 ((clsR ci).2.1 sl).2.1 ((clsR ci).2.1 sl).2.2.1 else .fieldLinkNest (ownN ow) idx (clsR ci).1 ((clsR ci).2.1 sl).2.1 ((clsR ci).2.1 sl).2.2.1 "ChildTrains"
def flC (q : Nat × Nat × Nat × Nat × Nat × Nat) : Bool := decide (lw_tbl[q.2.2.2.2.2]? = some (flW q)) && (decide (q.2.2.1 = 100) || (decide (q.2.2.1 < 12) && decide (q.2.2.2.1 < (clsR q.2.2.1).2.2)))
theorem fl_ok : flL.all flC = true := by decide +kernel
theorem fl_get {j : Nat} {q : Nat × Nat × Nat × Nat × Nat × Nat} (h : flL[j]? = some q) : flW q ∈ lw_tbl ∧ (q.2.2.1 = 100 ∨ (q.2.2.1 < 12 ∧ q.2.2.2.1 < (clsR q.2.2.1).2.2)) := by
  have h1 := List.all_eq_true.mp fl_ok q (List.mem_of_getElem? h)
  simp only [flC, Bool.and_eq_true, Bool.or_eq_true, decide_eq_true_eq] at h1
  exact ⟨lw_at h1.1, h1.2⟩
theorem fs_get {A : Nat → Nat} {f : Int → Int} {rs : List Nat} {ci j : Nat} (h : j < (ctL.getD ci []).length) : ((List.range (ctL.getD ci []).length).map (fvl A f rs ci))[j]? = some (fvl A f rs ci j) := by
  rw [List.getElem?_map, List.getElem?_range h]; rfl
theorem fs_set {A : Nat → Nat} {f : Int → Int} {rs : List Nat} {ci j : Nat} (x : Int) {v : Value} (h : j < (ctL.getD ci []).length) (hv : v = fvl A (fset f j x) rs ci j) : ((List.range (ctL.getD ci []).length).map (fvl A f rs ci)).set j v = (List.range (ctL.getD ci []).length).map (fvl A (fset f j x) rs ci) := by
  apply List.ext_getElem?
  intro i
  by_cases hi : i = j
  · subst hi
    rw [List.getElem?_set_self (by simpa using h), fs_get h, hv]
  · rw [List.getElem?_set_ne (Ne.symm hi)]
    by_cases hl : i < (ctL.getD ci []).length
    · rw [fs_get hl, fs_get hl]
      have e1 : fset f j x i = f i := if_neg (by omega)
      unfold fvl
      rw [e1]
    · rw [List.getElem?_eq_none (by simpa using hl), List.getElem?_eq_none (by simpa using hl)]
section OPF
variable {p : Program} {l : Launch} {e : Env} {R : Room} {s : State} {m : MethodId} {args : Array Value} {below : List Frame} {meth : Method} {c : Code} {cells slots : Nat} {Qf : State → Prop} {g : Gx} {A0 : Nat → Prop} {sw : Bool} {A1 : Nat → Nat} {nL : Nat} {b : ByteArray} {own : Nat} {E : Er} {Q : Ql} {pc nx : Nat} {xs : Ex} {ls st : List Vl} {M : Mm}
theorem gt_fld (F : Fr p s m c g A0 nL b own) {i : Nat} (hd : decode b pc = .ok (.getfield i, 3)) {A : Nat → Nat} {H : Heap} {locs : List Loc} {lsA : Array Slot} {k ci sl nest pos : Nat} {rs : List Nat} {rest : List Value} (hk : k < 111) (hs : sh k = (4, ci, rs)) (hci : ci < 12) (hsl : sl < (clsR ci).2.2) (hw : flW (own, i, ci, sl, nest, pos) ∈ lw_tbl) (hP : va_P g.D cls (wld g A M) H)
    (kk : W p l e R s m args below meth c H locs cells slots Qf (F0 m (pc + 3) lsA (fvl A (M k) rs ci sl :: rest))) : W p l e R s m args below meth c H locs cells slots Qf (F0 m pc lsA (.ref (A k) :: rest)) := by
  have he : (wld g A M)[k]? = some (A k, .inr (ci, (List.range (ctL.getD ci []).length).map (fvl A (M k) rs ci))) := by rw [wld_get hk, ent_4 hs]
  have hlen : sl < (ctL.getD ci []).length := by rw [← cls_n ci hci]; exact hsl
  have hkd := cls_kd ci hci sl hsl
  unfold flW at hw
  dsimp only at hw
  rw [if_neg (by omega)] at hw
  by_cases hnest : nest = 0
  · rw [if_pos hnest] at hw
    exact va_get (T := (clsR ci).2.1) (C := (clsR ci).1) (N := (clsR ci).2.2) F.1 F.2.1 (F.2.2.2.2.1.hts args) (cls_ws ci hci) F.2.2.2.1 (ctxK F) hP k he (cls_get ci hci) sl hsl (F.2.2.2.2.1 _ hw rfl args) (by rw [hkd.1]; exact fun _ h9 => h9) (fs_get hlen) hd kk
  · rw [if_neg hnest] at hw
    exact va_getN (T := (clsR ci).2.1) (C := (clsR ci).1) (N := (clsR ci).2.2) F.1 F.2.1 (F.2.2.2.2.1.hts args) (cls_ws ci hci) F.2.2.2.1 (ctxK F) hP k he (cls_get ci hci) sl hsl (F.2.2.2.2.1 _ hw rfl args) (by rw [hkd.1]; exact fun _ h9 => h9) (fs_get hlen) hd kk
theorem s_getf (F : Fr p s m c g A0 nL b own) {i j nest pos z : Nat} (hd : decode b pc = .ok (.getfield i, 3)) (hq : flL[j]? = some (own, i, x1 xs, x2 xs, nest, pos)) (hx : xI xs = (x2 xs : Int)) (h : zstep sw E Q (XK p l e R s m args below meth c cells slots Qf g A0 sw A1 nL) (.getfield z) (pc + 3) xs ls st M) : XK p l e R s m args below meth c cells slots Qf g A0 sw A1 nL pc ls st M := by
  obtain ⟨hw, hok⟩ := fl_get hq
  dsimp only at hok
  dsimp only [zstep] at h
  split at h
  · rename_i a r
    intro A H locs lsA hA hP hS hl hn hM hls hst
    have ha : okV a := oks_hd hst
    have hr := oks_tl hst
    rcases a with y | y | k | ⟨k, w⟩ | t | t | u
    · exact h.elim
    · exact h.elim
    · rcases hs : sh k with ⟨d, ci, rs⟩
      simp only [gfd, hs] at h
      obtain ⟨rfl, rfl, h⟩ := h
      have hci : x1 xs < 12 := by
        have hall : ∀ k, k < 111 → (sh k).1 = 4 → (sh k).2.1 < 12 := by decide
        have := hall k ha (by rw [hs])
        rw [hs] at this
        exact this
      have hsl : x2 xs < (clsR (x1 xs)).2.2 := by
        rcases hok with h1 | h1
        · omega
        · exact h1.2
      refine gt_fld F hd ha hs hci hsl hw hP ?_
      have hoM := hM.1 k (xI xs)
      rw [skd_4 hs, hx, Int.toNat_natCast] at hoM
      rw [hx] at h
      unfold fvl
      cases hc : ctk (x1 xs) (x2 xs) with
      | zero =>
        simp only [hc] at h hoM
        exact h A H locs lsA hA hP hS hl hn hM hls (oks_cons (v := vI _) hoM hr)
      | succ n1 =>
        cases n1 with
        | zero =>
          simp only [hc] at h hoM
          exact h A H locs lsA hA hP hS hl hn hM hls (oks_cons (v := vL _) hoM hr)
        | succ n2 =>
          cases n2 with
          | zero =>
            simp only [hc] at h hoM
            exact h A H locs lsA hA hP hS hl hn hM hls (oks_cons (v := vI _) (by show inI _; unfold inI; rcases hoM with q | q <;> omega) hr)
          | succ n3 =>
            cases n3 with
            | zero =>
              simp only [hc] at h
              refine h A H locs lsA hA hP hS hl hn hM hls (oks_cons (v := vR _) ?_ hr)
              show rs.getD (x2 xs) 0 < 111
              have hrl := refs_lt k ha
              rw [hs] at hrl
              rw [List.getD_eq_getElem?_getD]
              cases hq2 : rs[x2 xs]? with
              | none => simp
              | some r2 => exact hrl r2 (List.mem_of_getElem? hq2)
            | succ n4 => simp only [hc] at h
    · exact h.elim
    · exact h.elim
    · simp only [gfd] at h
      obtain ⟨h100, ht, h⟩ := h
      obtain ⟨hR, hO, hC, hV⟩ := F.2.2.2.2.2.2.2.2.1 t ht
      unfold flW at hw
      dsimp only at hw
      rw [if_pos h100] at hw
      by_cases hz : x2 xs = 0
      · rw [if_pos hz, if_pos hz] at hw
        rw [if_pos hz] at h
        have h2 := h A H locs lsA hA hP hS hl hn hM hls (oks_cons (v := vT _) (by show _ ∨ _; omega) hr)
        have e1 : rv g A (vT (2 + t)) = .ref (gT g (2 + t)) := by show (if 2 + t = 99 then _ else if 2 + t = 100 then _ else _) = _; rw [if_neg (by omega), if_neg (by omega)]
        rw [List.map_cons, e1] at h2
        exact vk_getf F.1 F.2.1 hV hS F.2.2.2.1 (F.2.2.2.2.1 _ hw rfl args) (fun _ h9 => h9) hd h2
      · rw [if_neg hz, if_neg hz] at hw
        rw [if_neg hz] at h
        have h2 := h A H locs lsA hA hP hS hl hn hM hls (oks_cons (v := vI 0) (by show inI _; unfold inI; omega) hr)
        exact vk_getf F.1 F.2.1 hC hS F.2.2.2.1 (F.2.2.2.2.1 _ hw rfl args) (fun _ h9 => h9) hd h2
    · exact h.elim
  · exact h.elim
theorem pt_fld (F : Fr p s m c g A0 nL b own) {i : Nat} (hd : decode b pc = .ok (.putfield i, 3)) {A : Nat → Nat} {H : Heap} {locs : List Loc} {lsA : Array Slot} {k ci sl nest pos : Nat} {rs : List Nat} {rest : List Value} {x : Int} {v : Value} {ty : FieldType} (hA : adr A0 A) (hk : k < 111) (hs : sh k = (4, ci, rs)) (hci : ci < 12) (hsl : sl < (clsR ci).2.2) (hw : flW (own, i, ci, sl, nest, pos) ∈ lw_tbl) (hP : va_P g.D cls (wld g A M) H) (hS : va_S A0 s.heap H locs)
    (hfin : ((clsR ci).2.1 sl).2.2.2 = false) (hde : parseFieldDescriptor ((clsR ci).2.1 sl).2.2.1 = some ty) (hna : narrow ty v = v) (hfit : fits ty v = true) (hv : v = fvl A (fset (M k) sl x) rs ci sl)
    (kk : ∀ (H1 : Heap) (locs1 : List Loc), va_P g.D cls (wld g A (mset M k sl x)) H1 → va_S A0 s.heap H1 locs1 → W p l e R s m args below meth c H1 locs1 cells slots Qf (F0 m (pc + 3) lsA rest)) : W p l e R s m args below meth c H locs cells slots Qf (F0 m pc lsA (v :: .ref (A k) :: rest)) := by
  have he : (wld g A M)[k]? = some (A k, .inr (ci, (List.range (ctL.getD ci []).length).map (fvl A (M k) rs ci))) := by rw [wld_get hk, ent_4 hs]
  have hlen : sl < (ctL.getD ci []).length := by rw [← cls_n ci hci]; exact hsl
  have hkd := cls_kd ci hci sl hsl
  have back : ∀ (H1 : Heap) (locs1 : List Loc), va_P g.D cls ((wld g A M).set k (A k, .inr (ci, ((List.range (ctL.getD ci []).length).map (fvl A (M k) rs ci)).set sl v))) H1 → va_S A0 s.heap H1 locs1 → W p l e R s m args below meth c H1 locs1 cells slots Qf (F0 m (pc + 3) lsA rest) := by
    intro H1 locs1 hP1 hS1
    rw [fs_set x hlen hv, ← ent_4 (g := g) (A := A) (f := fset (M k) sl x) hs, wld_set hk] at hP1
    exact kk H1 locs1 hP1 hS1
  unfold flW at hw
  dsimp only at hw
  rw [if_neg (by omega)] at hw
  by_cases hnest : nest = 0
  · rw [if_pos hnest] at hw
    exact va_put (T := (clsR ci).2.1) (C := (clsR ci).1) (N := (clsR ci).2.2) F.1 F.2.1 (F.2.2.2.2.1.hts args) (cls_ws ci hci) (tyR ci) (cls_ty ci hci) (cls_nm ci hci) F.2.2.2.1 (ctxK F) hP (wld_D hA) hS k he (cls_get ci hci) sl hsl (F.2.2.2.2.1 _ hw rfl args) (by rw [hkd.1]; exact fun _ h9 => h9) hfin hde hna hfit (by simpa using hlen) hd (fun H1 locs1 hP1 _ hS1 => back H1 locs1 hP1 hS1)
  · rw [if_neg hnest] at hw
    exact va_putN (T := (clsR ci).2.1) (C := (clsR ci).1) (N := (clsR ci).2.2) F.1 F.2.1 (F.2.2.2.2.1.hts args) (cls_ws ci hci) (tyR ci) (cls_ty ci hci) (cls_nm ci hci) F.2.2.2.1 (ctxK F) hP (wld_D hA) hS k he (cls_get ci hci) sl hsl (F.2.2.2.2.1 _ hw rfl args) (by rw [hkd.1]; exact fun _ h9 => h9) hfin hde hna hfit (by simpa using hlen) hd (fun H1 locs1 hP1 _ hS1 => back H1 locs1 hP1 hS1)
theorem s_putf (F : Fr p s m c g A0 nL b own) {i j nest pos z : Nat} (hd : decode b pc = .ok (.putfield i, 3)) (hq : flL[j]? = some (own, i, x1 xs, x2 xs, nest, pos)) (hx : xI xs = (x2 xs : Int)) (h : zstep sw E Q (XK p l e R s m args below meth c cells slots Qf g A0 sw A1 nL) (.putfield z) (pc + 3) xs ls st M) : XK p l e R s m args below meth c cells slots Qf g A0 sw A1 nL pc ls st M := by
  obtain ⟨hw, hok⟩ := fl_get hq
  dsimp only at hok
  dsimp only [zstep] at h
  split at h
  · rename_i v a r
    intro A H locs lsA hA hP hS hl hn hM hls hst
    have hv : okV v := oks_hd hst
    have ha : okV a := oks_hd (oks_tl hst)
    have hr := oks_tl (oks_tl hst)
    rcases a with y | y | k | ⟨k, w⟩ | t | t | u
    · exact h.elim
    · exact h.elim
    · rcases hs : sh k with ⟨d, ci, rs⟩
      simp only [pfd, hs] at h
      obtain ⟨rfl, rfl, h⟩ := h
      have hci : x1 xs < 12 := by
        have hall : ∀ k, k < 111 → (sh k).1 = 4 → (sh k).2.1 < 12 := by decide
        have := hall k ha (by rw [hs])
        rw [hs] at this
        exact this
      have hsl : x2 xs < (clsR (x1 xs)).2.2 := by
        rcases hok with h1 | h1
        · omega
        · exact h1.2
      have hkd := (cls_kd (x1 xs) hci (x2 xs) hsl).2
      have hsk : skd k (xI xs) = ctk (x1 xs) (x2 xs) := by rw [skd_4 hs, hx, Int.toNat_natCast]
      rw [hx] at h hsk
      split at h
      · rename_i x hc
        have e1 : fset (M k) (x2 xs : Int) x (x2 xs : Int) = x := if_pos rfl
        refine pt_fld (x := x) (ty := .int) F hd hA.adr ha hs hci hsl hw hP hS (by rw [hkd.1 hc]) (by rw [hkd.1 hc]; decide +kernel) rfl rfl (by unfold fvl; simp only [hc, e1, rv]) (fun H1 locs1 hP1 hS1 => ?_)
        exact h A H1 locs1 lsA hA hP1 hS1 hl hn (okM_mset hM ha (by rw [hsk, hc]; exact hv)) hls hr
      · rename_i x hc
        have e1 : fset (M k) (x2 xs : Int) x (x2 xs : Int) = x := if_pos rfl
        refine pt_fld (x := x) (ty := .long) F hd hA.adr ha hs hci hsl hw hP hS (by rw [hkd.2.1 hc]) (by rw [hkd.2.1 hc]; decide +kernel) rfl rfl (by unfold fvl; simp only [hc, e1, rv]) (fun H1 locs1 hP1 hS1 => ?_)
        exact h A H1 locs1 lsA hA hP1 hS1 hl hn (okM_mset hM ha (by rw [hsk, hc]; exact hv)) hls hr
      · rename_i x hc
        obtain ⟨hz, h⟩ := h
        have e1 : fset (M k) (x2 xs : Int) x (x2 xs : Int) = x := if_pos rfl
        refine pt_fld (x := x) (ty := .boolean) F hd hA.adr ha hs hci hsl hw hP hS (by rw [hkd.2.2 hc]) (by rw [hkd.2.2 hc]; decide +kernel) (nar_z hz).2.1 (nar_z hz).2.2 (by unfold fvl; simp only [hc, e1, rv]) (fun H1 locs1 hP1 hS1 => ?_)
        exact h A H1 locs1 lsA hA hP1 hS1 hl hn (okM_mset hM ha (by rw [hsk, hc]; exact hz)) hls hr
      · exact h.elim
    · exact h.elim
    · exact h.elim
    · exact h.elim
    · exact h.elim
  · exact h.elim
/-- the statics that are read: which, by its word -/
def stW (own i t : Nat) : Jvm.Cond := if t = 0 then .fieldLinkNest (ownN own) i sPl "LEAST" "[I" "ChildTrains" else if t = 1 then .fieldLinkNest (ownN own) i sPl "MOST" "[I" "ChildTrains" else if t = 99 then .fieldLink (ownN own) i sPr "SIOOBE_FORMATTER" dBi else if t = 10 then .fieldLink (ownN own) i sOr "MOST_VALUE" "[I" else .fieldLink (ownN own) i sSt "COMPACT_STRINGS" "Z"
theorem s_gets (F : Fr p s m c g A0 nL b own) {i pos z : Nat} (hd : decode b pc = .ok (.getstatic i, 3)) (hq : lw_tbl[pos]? = some (stW own i (x2 xs))) (hx : (x1 xs = 0 ∧ x2 xs = 50 ∧ xI xs = 1) ∨ (x1 xs = 1 ∧ (x2 xs = 0 ∨ x2 xs = 1 ∨ x2 xs = 99 ∨ x2 xs = 10))) (h : zstep sw E Q (XK p l e R s m args below meth c cells slots Qf g A0 sw A1 nL) (.getstatic z) (pc + 3) xs ls st M) : XK p l e R s m args below meth c cells slots Qf g A0 sw A1 nL pc ls st M := by
  obtain ⟨z1, z2, z3, z4, z5⟩ := F.2.2.2.2.2.2.2.2.2
  have hw := lw_at hq
  dsimp only [zstep] at h
  intro A H locs lsA hA hP hS hl hn hM hls hst
  rcases hx with ⟨h1, h2, h3⟩ | ⟨h1, h2 | h2 | h2 | h2⟩
  · rw [if_pos h1, h3] at h
    rw [h2] at hw
    exact va_gets F.1 F.2.1 z3 hS F.2.2.2.1 (F.2.2.2.2.1 _ hw rfl args) (fun _ h9 => h9) hd (h A H locs lsA hA hP hS hl hn hM hls (oks_cons (v := vI 1) (by show inI _; unfold inI; omega) hst))
  · rw [if_neg (by omega), h2] at h
    rw [h2] at hw
    exact va_getsN F.1 F.2.1 z1 hS F.2.2.2.1 (F.2.2.2.2.1 _ hw rfl args) (fun _ h9 => h9) hd (h A H locs lsA hA hP hS hl hn hM hls (oks_cons (v := vT 0) (by show _ ∨ _; omega) hst))
  · rw [if_neg (by omega), h2] at h
    rw [h2] at hw
    exact va_getsN F.1 F.2.1 z2 hS F.2.2.2.1 (F.2.2.2.2.1 _ hw rfl args) (fun _ h9 => h9) hd (h A H locs lsA hA hP hS hl hn hM hls (oks_cons (v := vT 1) (by show _ ∨ _; omega) hst))
  · rw [if_neg (by omega), h2] at h
    rw [h2] at hw
    exact va_gets F.1 F.2.1 z4 hS F.2.2.2.1 (F.2.2.2.2.1 _ hw rfl args) (fun _ h9 => h9) hd (h A H locs lsA hA hP hS hl hn hM hls (oks_cons (v := vT 99) (by show _ ∨ _; omega) hst))
  · rw [if_neg (by omega), h2] at h
    rw [h2] at hw
    exact va_gets F.1 F.2.1 z5 hS F.2.2.2.1 (F.2.2.2.2.1 _ hw rfl args) (fun _ h9 => h9) hd (h A H locs lsA hA hP hS hl hn hM hls (oks_cons (v := vT 10) (by show _ ∨ _; omega) hst))
theorem s_ldcS (F : Fr p s m c g A0 nL b own) {i z : Nat} (hd : decode b pc = .ok (.ldc i, 2)) (ht : x2 xs < 8) (hi : (strL.getD (x2 xs) (0, "")).1 = i) (ho : ownN own = "ChildTrains$OrderReader") (h : zstep sw E Q (XK p l e R s m args below meth c cells slots Qf g A0 sw A1 nL) (.ldc z) (pc + 2) xs ls st M) : XK p l e R s m args below meth c cells slots Qf g A0 sw A1 nL pc ls st M := by
  dsimp only [zstep] at h
  intro A H locs lsA hA hP hS hl hn hM hls hst
  obtain ⟨hR, -⟩ := F.2.2.2.2.2.2.2.2.1 (x2 xs) ht
  rw [hi] at hR
  have ho2 := F.2.2.2.1
  rw [ho] at ho2
  exact va_ldcS F.1 F.2.1 ho2 hR hd (h A H locs lsA hA hP hS hl hn hM hls (oks_cons (v := vK _) ht hst))
theorem cpy_eq {f f2 : Int → Int} {sp dp n : Int} (h1 : 0 ≤ sp) (h2 : 0 ≤ dp) (h3 : 0 ≤ n) : va_cpy (fun j : Nat => Int32.ofInt (f j)) (fun j : Nat => Int32.ofInt (f2 j)) sp.toNat dp.toNat n.toNat = fun j : Nat => Int32.ofInt (fcpy f f2 sp dp n j) := by
  funext j
  unfold va_cpy fcpy
  by_cases hj : dp.toNat ≤ j ∧ j < dp.toNat + n.toNat
  · rw [if_pos hj, if_pos (by omega)]
    have e9 : ((sp.toNat + (j - dp.toNat) : Nat) : Int) = sp + ((j : Int) - dp) := by omega
    show Int32.ofInt (f ((sp.toNat + (j - dp.toNat) : Nat) : Int)) = _
    rw [e9]
  · rw [if_neg hj, if_neg (by omega)]
theorem s_copy (F : Fr p s m c g A0 nL b own) {i z : Nat} (hd : decode b pc = .ok (.invokestatic i, 3)) (hw1 : Cond.methodLink (ownN own) i arraycopyName ∈ lw_tbl) (hw2 : Cond.native arraycopyName ∈ lw_tbl) (hw3 : Cond.static arraycopyName ∈ lw_tbl) (hw4 : Cond.initialized "java/lang/System" ∈ lw_tbl) (hR : 1 ≤ R.frames ∧ 40 ≤ R.locals) (h : zstep sw E Q (XK p l e R s m args below meth c cells slots Qf g A0 sw A1 nL) (.invokedynamic z) (pc + 3) xs ls st M) : XK p l e R s m args below meth c cells slots Qf g A0 sw A1 nL pc ls st M := by
  dsimp only [zstep] at h
  split at h
  · rename_i n dp k2 sp k1 r
    intro A H locs lsA hA hP hS hl hn hM hls hst
    have hN : inI n := oks_hd hst
    have hDp : inI dp := oks_hd (oks_tl hst)
    have hk2 : k2 < 111 := oks_hd (oks_tl (oks_tl hst))
    have hSp : inI sp := oks_hd (oks_tl (oks_tl (oks_tl hst)))
    have hk1 : k1 < 111 := oks_hd (oks_tl (oks_tl (oks_tl (oks_tl hst))))
    have hr := oks_tl (oks_tl (oks_tl (oks_tl (oks_tl hst))))
    rcases hs1 : sh k1 with ⟨d1, n1, rs1⟩
    rcases hs2 : sh k2 with ⟨d2, n2, rs2⟩
    simp only [hs1, hs2] at h
    obtain ⟨⟨rfl, rfl, hc⟩, ⟨g1, g2, g3, g4, g5⟩, h⟩ := h
    have he1 : (wld g A M)[k1]? = some (A k1, .inl (gI g, n1, .inl (fun j => Int32.ofInt (M k1 j)))) := by rw [wld_get hk1, ent_0 hs1]
    have he2 : (wld g A M)[k2]? = some (A k2, .inl (gI g, n2, .inl (fun j => Int32.ofInt (M k2 j)))) := by rw [wld_get hk2, ent_0 hs2]
    have z0 : inI 0 := by unfold inI; omega
    have hcat : ((r.map (rv g A)).map fun v => v.category).sum ≤ 8 := by
      rw [List.map_map]
      have : ((fun v : Value => v.category) ∘ rv g A) = zcat := by funext v; exact rv_cat (gxC F)
      rw [this]; exact hc
    refine va_copyi F.1 F.2.1 (by rw [F.2.2.1]; exact hl.1.symm) F.2.2.2.1 (F.2.2.2.2.1 _ hw1 rfl args) (F.2.2.2.2.1 _ hw2 rfl args) (F.2.2.2.2.1 _ hw3 rfl args) (F.2.2.2.2.1 _ hw4 rfl args) (ctxK F) hP (wld_D hA.adr) hS k1 k2 0 0 he1 he2 (ty := .int) rfl rfl rfl
      (fun q => absurd ((ltI hSp z0).mp q) (by omega)) (fun q => absurd ((ltI hDp z0).mp q) (by omega)) (fun q => absurd ((ltI hN z0).mp q) (by omega))
      (by rw [clN hSp g1, clN hN g3]; omega) (by rw [clN hDp g2, clN hN g3]; omega) (fun _ _ => rfl) hR.1 ?_ hd (fun H1 locs1 hP1 _ hS1 => ?_)
    · have : nativeFrameWords "java/lang/System" "arraycopy" 5 + 11 ≤ 32 := by decide
      omega
    · rw [clN hSp g1, clN hN g3, clN hDp g2, cpy_eq g1 g2 g3, ← ent_0 (A := A) (f := fcpy (M k1) (M k2) sp dp n) hs2, wld_set hk2] at hP1
      refine h A H1 locs1 lsA hA hP1 hS1 hl hn (okM_rset hM hk2 (fun j => ?_)) hls hr
      rw [skd_0 hs2]
      have q1 := hM.1 k1 (sp + (j - dp))
      have q2 := hM.1 k2 j
      rw [skd_0 hs1] at q1
      rw [skd_0 hs2] at q2
      unfold fcpy
      split
      · exact q1
      · exact q2
  · exact h.elim
theorem mm_min : lw_tbl[661]? = some (.code Lib.Math.min.name Lib.Math.min.code 2 (some .int)) := by decide +kernel
theorem mm_max : lw_tbl[701]? = some (.code Lib.Math.max.name Lib.Math.max.code 2 (some .int)) := by decide +kernel
theorem mm_ini : Cond.initialized "java/lang/Math" ∈ lw_tbl := by decide +kernel
theorem mm_smin : Cond.static Lib.Math.min.name ∈ lw_tbl := by decide +kernel
theorem mm_smax : Cond.static Lib.Math.max.name ∈ lw_tbl := by decide +kernel
theorem s_min (F : Fr p s m c g A0 nL b own) {i : Nat} (hd : decode b pc = .ok (.invokestatic i, 3)) (hw1 : Cond.methodLink (ownN own) i Lib.Math.min.name ∈ lw_tbl) (hR : 1 ≤ R.frames ∧ 40 ≤ R.locals) (hcs : cells ≤ R.cells ∧ slots ≤ R.slots) (h : zstep sw E Q (XK p l e R s m args below meth c cells slots Qf g A0 sw A1 nL) .dup_x1 (pc + 3) xs ls st M) : XK p l e R s m args below meth c cells slots Qf g A0 sw A1 nL pc ls st M := by
  dsimp only [zstep] at h
  split at h
  · rename_i y x r
    obtain ⟨hc, h⟩ := h
    intro A H locs lsA hA hP hS hl hn hM hls hst
    have hy : inI y := oks_hd hst
    have hx : inI x := oks_hd (oks_tl hst)
    have hcat : ((r.map (rv g A)).map fun v => v.category).sum ≤ 8 := by
      rw [List.map_map]
      have : ((fun v : Value => v.category) ∘ rv g A) = zcat := by funext v; exact rv_cat (gxC F)
      rw [this]; exact hc
    refine va_mmin F.1 F.2.1 (by rw [F.2.2.1]; exact hl.1.symm) F.2.2.2.1 (F.2.2.2.2.1 _ hw1 rfl args) (F.2.2.2.2.1 _ mm_smin rfl args) (F.2.2.2.2.1 _ mm_ini rfl args) (F.2.2.2.2.1 _ (lw_at mm_min) rfl args) hR.1 (by omega) hcs.1 hcs.2 hd ?_
    have h2 := h A H locs lsA hA hP hS hl hn hM hls (oks_cons (v := vI _) (by show inI _; split <;> assumption) (oks_tl (oks_tl hst)))
    have e9 : (if Int32.ofInt y < Int32.ofInt x then Int32.ofInt y else Int32.ofInt x) = Int32.ofInt (if y < x then y else x) := by
      by_cases q : y < x
      · rw [if_pos q, if_pos ((ltI hy hx).mpr q)]
      · rw [if_neg q, if_neg (fun z => q ((ltI hy hx).mp z))]
    rw [e9]
    exact h2
  · exact h.elim
theorem s_max (F : Fr p s m c g A0 nL b own) {i : Nat} (hd : decode b pc = .ok (.invokestatic i, 3)) (hw1 : Cond.methodLink (ownN own) i Lib.Math.max.name ∈ lw_tbl) (hR : 1 ≤ R.frames ∧ 40 ≤ R.locals) (hcs : cells ≤ R.cells ∧ slots ≤ R.slots) (h : zstep sw E Q (XK p l e R s m args below meth c cells slots Qf g A0 sw A1 nL) .dup_x2 (pc + 3) xs ls st M) : XK p l e R s m args below meth c cells slots Qf g A0 sw A1 nL pc ls st M := by
  dsimp only [zstep] at h
  split at h
  · rename_i y x r
    obtain ⟨hc, h⟩ := h
    intro A H locs lsA hA hP hS hl hn hM hls hst
    have hy : inI y := oks_hd hst
    have hx : inI x := oks_hd (oks_tl hst)
    have hcat : ((r.map (rv g A)).map fun v => v.category).sum ≤ 8 := by
      rw [List.map_map]
      have : ((fun v : Value => v.category) ∘ rv g A) = zcat := by funext v; exact rv_cat (gxC F)
      rw [this]; exact hc
    refine va_mmax F.1 F.2.1 (by rw [F.2.2.1]; exact hl.1.symm) F.2.2.2.1 (F.2.2.2.2.1 _ hw1 rfl args) (F.2.2.2.2.1 _ mm_smax rfl args) (F.2.2.2.2.1 _ mm_ini rfl args) (F.2.2.2.2.1 _ (lw_at mm_max) rfl args) hR.1 (by omega) hcs.1 hcs.2 hd ?_
    have h2 := h A H locs lsA hA hP hS hl hn hM hls (oks_cons (v := vI _) (by show inI _; split <;> assumption) (oks_tl (oks_tl hst)))
    have e9 : (if Int32.ofInt x < Int32.ofInt y then Int32.ofInt y else Int32.ofInt x) = Int32.ofInt (if x < y then y else x) := by
      by_cases q : x < y
      · rw [if_pos q, if_pos ((ltI hx hy).mpr q)]
      · rw [if_neg q, if_neg (fun z => q ((ltI hx hy).mp z))]
    rw [e9]
    exact h2
  · exact h.elim
end OPF
