/-! EACH INSTRUCTION: a step of the clean machine is a step of the machine -/
def ownN (own : Nat) : String := ownL.getD own ""
def Fr (p : Program) (s : State) (m : MethodId) (c : Code) (g : Gx) (A0 : Nat → Prop) (nL : Nat) (b : ByteArray) (own : Nat) : Prop := p.tables.exec = Jvm.exec ∧ c.code = b ∧ c.maxLocals = nL ∧ s.vm.findClass (ownN own) = some m.cls ∧ Ctx g A0 s
def lwK : List Jvm.Cond := lw_tbl.filter wKeep
theorem lwK_mem {w : Jvm.Cond} (h : w ∈ lw_tbl) (hk : wKeep w = true) : w ∈ lwK := List.mem_filter.mpr ⟨h, hk⟩
theorem Wd.hts {s : State} (h : Wd s) (args : Array Value) : ∀ w ∈ lwK, w.before args s = true := fun w hw => h w (List.mem_filter.mp hw).1 (List.mem_filter.mp hw).2 args
theorem lw_at {pos : Nat} {w : Jvm.Cond} (h : lw_tbl[pos]? = some w) : w ∈ lw_tbl := List.mem_of_getElem? h
section OPS
variable {p : Program} {l : Launch} {e : Env} {R : Room} {s : State} {m : MethodId} {args : Array Value} {below : List Frame} {meth : Method} {c : Code} {cells slots : Nat} {Qf : State → Prop} {g : Gx} {A0 : Nat → Prop} {sw : Bool} {A1 : Nat → Nat} {nL : Nat} {b : ByteArray} {own : Nat} {E : Er} {Q : Ql} {pc nx : Nat} {xs : Ex} {ls st : List Vl} {M : Mm}
theorem gxC (F : Fr p s m c g A0 nL b own) : (gX g).category = 1 := F.2.2.2.2.2.2.1.2.2.2.2.2

theorem s_iconst (F : Fr p s m c g A0 nL b own) {n v : Int} (hd : decode b pc = .ok (.iconst n, 1)) (hv : inI v) (he : Int32.ofInt n = Int32.ofInt v) (h : zstep sw E Q (XK p l e R s m args below meth c cells slots Qf g A0 sw A1 nL) (.iconst v) (pc + 1) xs ls st M) : (XK p l e R s m args below meth c cells slots Qf g A0 sw A1 nL) pc ls st M := by
  intro A H locs lsA hA hP hS hl hn hM hls hst
  refine lv_iconst F.1 F.2.1 hd he ?_
  exact h A H locs lsA hA hP hS hl hn hM hls (oks_cons hv hst)
theorem s_bipush (F : Fr p s m c g A0 nL b own) {n v : Int} (hd : decode b pc = .ok (.bipush n, 2)) (hv : inI v) (he : (Int8.ofInt n).toInt32 = Int32.ofInt v) (h : zstep sw E Q (XK p l e R s m args below meth c cells slots Qf g A0 sw A1 nL) (.iconst v) (pc + 2) xs ls st M) : (XK p l e R s m args below meth c cells slots Qf g A0 sw A1 nL) pc ls st M := by
  intro A H locs lsA hA hP hS hl hn hM hls hst
  refine lv_bipush F.1 F.2.1 hd he ?_
  exact h A H locs lsA hA hP hS hl hn hM hls (oks_cons hv hst)
theorem s_sipush (F : Fr p s m c g A0 nL b own) {n v : Int} (hd : decode b pc = .ok (.sipush n, 3)) (hv : inI v) (he : (Int16.ofInt n).toInt32 = Int32.ofInt v) (h : zstep sw E Q (XK p l e R s m args below meth c cells slots Qf g A0 sw A1 nL) (.iconst v) (pc + 3) xs ls st M) : (XK p l e R s m args below meth c cells slots Qf g A0 sw A1 nL) pc ls st M := by
  intro A H locs lsA hA hP hS hl hn hM hls hst
  refine lv_sipush F.1 F.2.1 hd he ?_
  exact h A H locs lsA hA hP hS hl hn hM hls (oks_cons hv hst)
theorem s_ldcw (F : Fr p s m c g A0 nL b own) {v : Int} {i pos : Nat} (hd : decode b pc = .ok (.ldc_w i, 3)) (hv : inI v) (hw : lw_tbl[pos]? = some (.constant (ownN own) i (Int32.ofInt v))) (h : zstep sw E Q (XK p l e R s m args below meth c cells slots Qf g A0 sw A1 nL) (.iconst v) (pc + 3) xs ls st M) : (XK p l e R s m args below meth c cells slots Qf g A0 sw A1 nL) pc ls st M := by
  intro A H locs lsA hA hP hS hl hn hM hls hst
  refine lv_ldcw F.1 F.2.1 F.2.2.2.1 (F.2.2.2.2.1 _ (lw_at hw) rfl args) hd ?_
  exact h A H locs lsA hA hP hS hl hn hM hls (oks_cons hv hst)
theorem s_ldc (F : Fr p s m c g A0 nL b own) {v : Int} {i pos : Nat} (hd : decode b pc = .ok (.ldc i, 2)) (hv : inI v) (hw : lw_tbl[pos]? = some (.constant (ownN own) i (Int32.ofInt v))) (h : zstep sw E Q (XK p l e R s m args below meth c cells slots Qf g A0 sw A1 nL) (.iconst v) (pc + 2) xs ls st M) : (XK p l e R s m args below meth c cells slots Qf g A0 sw A1 nL) pc ls st M := by
  intro A H locs lsA hA hP hS hl hn hM hls hst
  refine lv_ldc F.1 F.2.1 F.2.2.2.1 (F.2.2.2.2.1 _ (lw_at hw) rfl args) hd ?_
  exact h A H locs lsA hA hP hS hl hn hM hls (oks_cons hv hst)
theorem s_lconst (F : Fr p s m c g A0 nL b own) {j n : Fin 2} (hd : decode b pc = .ok (.lconst n, 1)) (hv : inJ (xI xs)) (he : Int64.ofNat (n : Nat) = Int64.ofInt (xI xs)) (h : zstep sw E Q (XK p l e R s m args below meth c cells slots Qf g A0 sw A1 nL) (.lconst j) (pc + 1) xs ls st M) : (XK p l e R s m args below meth c cells slots Qf g A0 sw A1 nL) pc ls st M := by
  intro A H locs lsA hA hP hS hl hn hM hls hst
  refine lv_lconst F.1 F.2.1 hd he ?_
  exact h A H locs lsA hA hP hS hl hn hM hls (oks_cons (v := vL (xI xs)) hv hst)
theorem s_ldc2 (F : Fr p s m c g A0 nL b own) {j : Fin 2} {i pos : Nat} (hd : decode b pc = .ok (.ldc2_w i, 3)) (hv : inJ (xI xs)) (hw : lw_tbl[pos]? = some (.constantLong (ownN own) i (Int64.ofInt (xI xs)))) (h : zstep sw E Q (XK p l e R s m args below meth c cells slots Qf g A0 sw A1 nL) (.lconst j) (pc + 3) xs ls st M) : (XK p l e R s m args below meth c cells slots Qf g A0 sw A1 nL) pc ls st M := by
  intro A H locs lsA hA hP hS hl hn hM hls hst
  refine lv_ldc2 F.1 F.2.1 F.2.2.2.1 (F.2.2.2.2.1 _ (lw_at hw) rfl args) hd ?_
  exact h A H locs lsA hA hP hS hl hn hM hls (oks_cons (v := vL (xI xs)) hv hst)
theorem s_iload_n (F : Fr p s m c g A0 nL b own) {k : Fin 4} {i : Nat} (hd : decode b pc = .ok (.iload_n k, 1)) (hi : (k : Nat) = i) (h : zstep sw E Q (XK p l e R s m args below meth c cells slots Qf g A0 sw A1 nL) (.iload i) (pc + 1) xs ls st M) : (XK p l e R s m args below meth c cells slots Qf g A0 sw A1 nL) pc ls st M := by
  dsimp only [zstep] at h
  split at h
  · rename_i v hv
    intro A H locs lsA hA hP hS hl hn hM hls hst
    refine lv_iload_n F.1 F.2.1 hd hi (lv_of hl hv rfl) ?_
    exact h A H locs lsA hA hP hS hl hn hM hls (oks_cons (by have := oks_get hls i; rw [hv] at this; exact this) hst)
  · exact h.elim
theorem s_iload (F : Fr p s m c g A0 nL b own) {i : Nat} (hd : decode b pc = .ok (.iload i, 2)) (h : zstep sw E Q (XK p l e R s m args below meth c cells slots Qf g A0 sw A1 nL) (.iload i) (pc + 2) xs ls st M) : (XK p l e R s m args below meth c cells slots Qf g A0 sw A1 nL) pc ls st M := by
  dsimp only [zstep] at h
  split at h
  · rename_i v hv
    intro A H locs lsA hA hP hS hl hn hM hls hst
    refine lv_iload F.1 F.2.1 hd (lv_of hl hv rfl) ?_
    exact h A H locs lsA hA hP hS hl hn hM hls (oks_cons (by have := oks_get hls i; rw [hv] at this; exact this) hst)
  · exact h.elim
theorem s_lload_n (F : Fr p s m c g A0 nL b own) {k : Fin 4} {i : Nat} (hd : decode b pc = .ok (.lload_n k, 1)) (hi : (k : Nat) = i) (h : zstep sw E Q (XK p l e R s m args below meth c cells slots Qf g A0 sw A1 nL) (.lload i) (pc + 1) xs ls st M) : (XK p l e R s m args below meth c cells slots Qf g A0 sw A1 nL) pc ls st M := by
  dsimp only [zstep] at h
  split at h
  · rename_i v hv
    intro A H locs lsA hA hP hS hl hn hM hls hst
    refine lv_lload_n F.1 F.2.1 hd hi (lv_of hl hv rfl) ?_
    exact h A H locs lsA hA hP hS hl hn hM hls (oks_cons (v := vL v) (by have := oks_get hls i; rw [hv] at this; exact this) hst)
  · exact h.elim
theorem s_lload (F : Fr p s m c g A0 nL b own) {i : Nat} (hd : decode b pc = .ok (.lload i, 2)) (h : zstep sw E Q (XK p l e R s m args below meth c cells slots Qf g A0 sw A1 nL) (.lload i) (pc + 2) xs ls st M) : (XK p l e R s m args below meth c cells slots Qf g A0 sw A1 nL) pc ls st M := by
  dsimp only [zstep] at h
  split at h
  · rename_i v hv
    intro A H locs lsA hA hP hS hl hn hM hls hst
    refine lv_lload F.1 F.2.1 hd (lv_of hl hv rfl) ?_
    exact h A H locs lsA hA hP hS hl hn hM hls (oks_cons (v := vL v) (by have := oks_get hls i; rw [hv] at this; exact this) hst)
  · exact h.elim
theorem isA_ref {v : Vl} {A : Nat → Nat} (h : isA v = true) : isU v = false ∧ ∃ q, rv g A v = .ref q := by
  rcases v with x | x | k | ⟨k, i⟩ | t | t | u
  · cases h
  · cases h
  · exact ⟨rfl, _, rfl⟩
  · exact ⟨rfl, _, rfl⟩
  · have ht : ¬ t = 99 := by
      intro e; subst e; cases h
    refine ⟨rfl, ?_⟩
    show ∃ q, (if t = 99 then gX g else if t = 100 then Value.ref (gB g) else .ref (gT g t)) = .ref q
    rw [if_neg ht]
    split <;> exact ⟨_, rfl⟩
  · exact ⟨rfl, _, rfl⟩
  · cases h
theorem s_aload_n (F : Fr p s m c g A0 nL b own) {k : Fin 4} {i : Nat} (hd : decode b pc = .ok (.aload_n k, 1)) (hi : (k : Nat) = i) (h : zstep sw E Q (XK p l e R s m args below meth c cells slots Qf g A0 sw A1 nL) (.aload i) (pc + 1) xs ls st M) : (XK p l e R s m args below meth c cells slots Qf g A0 sw A1 nL) pc ls st M := by
  obtain ⟨hr, h⟩ := h
  intro A H locs lsA hA hP hS hl hn hM hls hst
  obtain ⟨hu, q, hq⟩ := isA_ref (g := g) (A := A) hr
  have hl2 := lv_of hl rfl hu
  rw [hq] at hl2
  refine lv_aload_n F.1 F.2.1 hd hi hl2 ?_
  have h2 := h A H locs lsA hA hP hS hl hn hM hls (oks_cons (oks_get hls i) hst)
  rw [List.map_cons, hq] at h2
  exact h2
theorem s_aload (F : Fr p s m c g A0 nL b own) {i : Nat} (hd : decode b pc = .ok (.aload i, 2)) (h : zstep sw E Q (XK p l e R s m args below meth c cells slots Qf g A0 sw A1 nL) (.aload i) (pc + 2) xs ls st M) : (XK p l e R s m args below meth c cells slots Qf g A0 sw A1 nL) pc ls st M := by
  obtain ⟨hr, h⟩ := h
  intro A H locs lsA hA hP hS hl hn hM hls hst
  obtain ⟨hu, q, hq⟩ := isA_ref (g := g) (A := A) hr
  have hl2 := lv_of hl rfl hu
  rw [hq] at hl2
  refine lv_aload F.1 F.2.1 hd hl2 ?_
  have h2 := h A H locs lsA hA hP hS hl hn hM hls (oks_cons (oks_get hls i) hst)
  rw [List.map_cons, hq] at h2
  exact h2
theorem s_istore_n (F : Fr p s m c g A0 nL b own) {k : Fin 4} {i : Nat} (hd : decode b pc = .ok (.istore_n k, 1)) (hi : (k : Nat) = i) (h : zstep sw E Q (XK p l e R s m args below meth c cells slots Qf g A0 sw A1 nL) (.istore i) (pc + 1) xs ls st M) : (XK p l e R s m args below meth c cells slots Qf g A0 sw A1 nL) pc ls st M := by
  dsimp only [zstep] at h
  split at h
  · obtain ⟨⟨h1, h2⟩, h⟩ := h
    intro A H locs lsA hA hP hS hl hn hM hls hst
    refine lv_istore_n F.1 F.2.1 hd hi hl (by omega) rfl (fun ls' hl' => ?_)
    exact h A H locs ls' hA hP hS (lv_st1 (gxC F) h1 rfl hl') (by rw [List.length_set]; exact hn) hM (oks_set hls (oks_hd hst)) (oks_tl hst)
  · exact h.elim
theorem s_istore (F : Fr p s m c g A0 nL b own) {i : Nat} (hd : decode b pc = .ok (.istore i, 2)) (h : zstep sw E Q (XK p l e R s m args below meth c cells slots Qf g A0 sw A1 nL) (.istore i) (pc + 2) xs ls st M) : (XK p l e R s m args below meth c cells slots Qf g A0 sw A1 nL) pc ls st M := by
  dsimp only [zstep] at h
  split at h
  · obtain ⟨⟨h1, h2⟩, h⟩ := h
    intro A H locs lsA hA hP hS hl hn hM hls hst
    refine lv_istore F.1 F.2.1 hd hl (by omega) rfl (fun ls' hl' => ?_)
    exact h A H locs ls' hA hP hS (lv_st1 (gxC F) h1 rfl hl') (by rw [List.length_set]; exact hn) hM (oks_set hls (oks_hd hst)) (oks_tl hst)
  · exact h.elim
theorem s_lstore_n (F : Fr p s m c g A0 nL b own) {k : Fin 4} {i : Nat} (hd : decode b pc = .ok (.lstore_n k, 1)) (hi : (k : Nat) = i) (h : zstep sw E Q (XK p l e R s m args below meth c cells slots Qf g A0 sw A1 nL) (.lstore i) (pc + 1) xs ls st M) : (XK p l e R s m args below meth c cells slots Qf g A0 sw A1 nL) pc ls st M := by
  dsimp only [zstep] at h
  split at h
  · rename_i v r
    obtain ⟨⟨h1, h2⟩, h⟩ := h
    intro A H locs lsA hA hP hS hl hn hM hls hst
    refine lv_lstore_n F.1 F.2.1 hd hi hl (by omega) rfl (fun ls' hl' => ?_)
    exact h A H locs ls' hA hP hS (lv_st2 (v := vL v) (gxC F) h1 rfl hl') (by rw [List.length_set, List.length_set]; exact hn) hM (oks_set (oks_set hls (oks_hd hst)) (v := vU) trivial) (oks_tl hst)
  · exact h.elim
theorem s_lstore (F : Fr p s m c g A0 nL b own) {i : Nat} (hd : decode b pc = .ok (.lstore i, 2)) (h : zstep sw E Q (XK p l e R s m args below meth c cells slots Qf g A0 sw A1 nL) (.lstore i) (pc + 2) xs ls st M) : (XK p l e R s m args below meth c cells slots Qf g A0 sw A1 nL) pc ls st M := by
  dsimp only [zstep] at h
  split at h
  · rename_i v r
    obtain ⟨⟨h1, h2⟩, h⟩ := h
    intro A H locs lsA hA hP hS hl hn hM hls hst
    refine lv_lstore F.1 F.2.1 hd hl (by omega) rfl (fun ls' hl' => ?_)
    exact h A H locs ls' hA hP hS (lv_st2 (v := vL v) (gxC F) h1 rfl hl') (by rw [List.length_set, List.length_set]; exact hn) hM (oks_set (oks_set hls (oks_hd hst)) (v := vU) trivial) (oks_tl hst)
  · exact h.elim
theorem s_astore_n (F : Fr p s m c g A0 nL b own) {k : Fin 4} {i : Nat} (hd : decode b pc = .ok (.astore_n k, 1)) (hi : (k : Nat) = i) (h : zstep sw E Q (XK p l e R s m args below meth c cells slots Qf g A0 sw A1 nL) (.astore i) (pc + 1) xs ls st M) : (XK p l e R s m args below meth c cells slots Qf g A0 sw A1 nL) pc ls st M := by
  dsimp only [zstep] at h
  split at h
  · rename_i v r
    obtain ⟨⟨h1, h2⟩, h⟩ := h
    intro A H locs lsA hA hP hS hl hn hM hls hst
    refine lv_astore_n F.1 F.2.1 hd hi hl (by omega) rfl (fun ls' hl' => ?_)
    exact h A H locs ls' hA hP hS (lv_st1 (v := vR v) (gxC F) h1 rfl hl') (by rw [List.length_set]; exact hn) hM (oks_set hls (oks_hd hst)) (oks_tl hst)
  · exact h.elim
theorem s_astore (F : Fr p s m c g A0 nL b own) {i : Nat} (hd : decode b pc = .ok (.astore i, 2)) (h : zstep sw E Q (XK p l e R s m args below meth c cells slots Qf g A0 sw A1 nL) (.astore i) (pc + 2) xs ls st M) : (XK p l e R s m args below meth c cells slots Qf g A0 sw A1 nL) pc ls st M := by
  dsimp only [zstep] at h
  split at h
  · rename_i v r
    obtain ⟨⟨h1, h2⟩, h⟩ := h
    intro A H locs lsA hA hP hS hl hn hM hls hst
    refine lv_astore F.1 F.2.1 hd hl (by omega) rfl (fun ls' hl' => ?_)
    exact h A H locs ls' hA hP hS (lv_st1 (v := vR v) (gxC F) h1 rfl hl') (by rw [List.length_set]; exact hn) hM (oks_set hls (oks_hd hst)) (oks_tl hst)
  · exact h.elim
theorem s_iinc (F : Fr p s m c g A0 nL b own) {i : Nat} {n : Int} (hd : decode b pc = .ok (.iinc i n, 3)) (h : zstep sw E Q (XK p l e R s m args below meth c cells slots Qf g A0 sw A1 nL) (.iinc i n) (pc + 3) xs ls st M) : (XK p l e R s m args below meth c cells slots Qf g A0 sw A1 nL) pc ls st M := by
  dsimp only [zstep] at h
  split at h
  · rename_i v hv
    obtain ⟨h1, h⟩ := h
    intro A H locs lsA hA hP hS hl hn hM hls hst
    have hg := getD_get hv rfl
    have hm : (i, rv g A (vI v)) ∈ prs g A ls := prs_mem.mpr ⟨i, vI v, hg, rfl, rfl⟩
    obtain ⟨k, hk⟩ := List.getElem?_of_mem hm
    have hlt : i < nL := by rw [← hn]; exact (List.getElem?_eq_some_iff.mp hg).1
    refine lv_iinc (v := Int32.ofInt (wr (v + n))) F.1 F.2.1 hd hl hk (by rw [ofI_wr, Int32.ofInt_add]) hlt rfl (fun ls' hl' => ?_)
    exact h A H locs ls' hA hP hS (lv_st1 (v := vI (wr (v + n))) (gxC F) h1 rfl hl') (by rw [List.length_set]; exact hn) hM (oks_set hls (v := vI (wr (v + n))) (inI_wr _)) hst
  · exact h.elim
theorem s_iadd (F : Fr p s m c g A0 nL b own) (hd : decode b pc = .ok (.iadd, 1)) (h : zstep sw E Q (XK p l e R s m args below meth c cells slots Qf g A0 sw A1 nL) (.iadd) (pc + 1) xs ls st M) : (XK p l e R s m args below meth c cells slots Qf g A0 sw A1 nL) pc ls st M := by
  dsimp only [zstep] at h
  split at h
  · rename_i y x r
    intro A H locs lsA hA hP hS hl hn hM hls hst
    have hy : inI y := oks_hd hst
    have hx : inI x := oks_hd (oks_tl hst)
    refine lv_iadd F.1 F.2.1 hd ?_
    have h2 := h A H locs lsA hA hP hS hl hn hM hls (oks_cons (v := vI _) (inI_wr _) (oks_tl (oks_tl hst)))
    rw [List.map_cons] at h2
    have e9 : Int32.ofInt (wr (x + y)) = Int32.ofInt x + Int32.ofInt y := by rw [ofI_wr, Int32.ofInt_add]
    dsimp only [rv] at h2
    rw [e9] at h2
    exact h2
  · exact h.elim
theorem s_isub (F : Fr p s m c g A0 nL b own) (hd : decode b pc = .ok (.isub, 1)) (h : zstep sw E Q (XK p l e R s m args below meth c cells slots Qf g A0 sw A1 nL) (.isub) (pc + 1) xs ls st M) : (XK p l e R s m args below meth c cells slots Qf g A0 sw A1 nL) pc ls st M := by
  dsimp only [zstep] at h
  split at h
  · rename_i y x r
    intro A H locs lsA hA hP hS hl hn hM hls hst
    have hy : inI y := oks_hd hst
    have hx : inI x := oks_hd (oks_tl hst)
    refine lv_isub F.1 F.2.1 hd ?_
    have h2 := h A H locs lsA hA hP hS hl hn hM hls (oks_cons (v := vI _) (inI_wr _) (oks_tl (oks_tl hst)))
    rw [List.map_cons] at h2
    have e9 : Int32.ofInt (wr (x - y)) = Int32.ofInt x - Int32.ofInt y := by rw [ofI_wr, Int32.ofInt_sub]
    dsimp only [rv] at h2
    rw [e9] at h2
    exact h2
  · exact h.elim
theorem s_imul (F : Fr p s m c g A0 nL b own) (hd : decode b pc = .ok (.imul, 1)) (h : zstep sw E Q (XK p l e R s m args below meth c cells slots Qf g A0 sw A1 nL) (.imul) (pc + 1) xs ls st M) : (XK p l e R s m args below meth c cells slots Qf g A0 sw A1 nL) pc ls st M := by
  dsimp only [zstep] at h
  split at h
  · rename_i y x r
    intro A H locs lsA hA hP hS hl hn hM hls hst
    have hy : inI y := oks_hd hst
    have hx : inI x := oks_hd (oks_tl hst)
    refine lv_imul F.1 F.2.1 hd ?_
    have h2 := h A H locs lsA hA hP hS hl hn hM hls (oks_cons (v := vI _) (inI_wr _) (oks_tl (oks_tl hst)))
    rw [List.map_cons] at h2
    have e9 : Int32.ofInt (wr (x * y)) = Int32.ofInt x * Int32.ofInt y := by rw [ofI_wr, Int32.ofInt_mul]
    dsimp only [rv] at h2
    rw [e9] at h2
    exact h2
  · exact h.elim
theorem s_idiv (F : Fr p s m c g A0 nL b own) (hd : decode b pc = .ok (.idiv, 1)) (h : zstep sw E Q (XK p l e R s m args below meth c cells slots Qf g A0 sw A1 nL) (.idiv) (pc + 1) xs ls st M) : (XK p l e R s m args below meth c cells slots Qf g A0 sw A1 nL) pc ls st M := by
  dsimp only [zstep] at h
  split at h
  · rename_i y x r
    obtain ⟨h0, h⟩ := h
    intro A H locs lsA hA hP hS hl hn hM hls hst
    have hy : inI y := oks_hd hst
    have hx : inI x := oks_hd (oks_tl hst)
    refine lv_idiv F.1 F.2.1 hd (fun e => h0 ((eqI hy (by unfold inI; omega)).mp e)) ?_
    have h2 := h A H locs lsA hA hP hS hl hn hM hls (oks_cons (v := vI _) (inI_wr _) (oks_tl (oks_tl hst)))
    rw [List.map_cons] at h2
    have e9 : Int32.ofInt (wr (x.tdiv y)) = Int32.ofInt x / Int32.ofInt y := (divI hx hy h0).symm
    dsimp only [rv] at h2
    rw [e9] at h2
    exact h2
  · exact h.elim
theorem s_irem (F : Fr p s m c g A0 nL b own) (hd : decode b pc = .ok (.irem, 1)) (h : zstep sw E Q (XK p l e R s m args below meth c cells slots Qf g A0 sw A1 nL) (.irem) (pc + 1) xs ls st M) : (XK p l e R s m args below meth c cells slots Qf g A0 sw A1 nL) pc ls st M := by
  dsimp only [zstep] at h
  split at h
  · rename_i y x r
    obtain ⟨h0, h⟩ := h
    intro A H locs lsA hA hP hS hl hn hM hls hst
    have hy : inI y := oks_hd hst
    have hx : inI x := oks_hd (oks_tl hst)
    refine lv_irem F.1 F.2.1 hd (fun e => h0 ((eqI hy (by unfold inI; omega)).mp e)) ?_
    have h2 := h A H locs lsA hA hP hS hl hn hM hls (oks_cons (v := vI _) (inI_wr _) (oks_tl (oks_tl hst)))
    rw [List.map_cons] at h2
    have e9 : Int32.ofInt (wr (x.tmod y)) = Int32.ofInt x - Int32.ofInt x / Int32.ofInt y * Int32.ofInt y := (remI hx hy h0).symm
    dsimp only [rv] at h2
    rw [e9] at h2
    exact h2
  · exact h.elim
theorem s_iand (F : Fr p s m c g A0 nL b own) (hd : decode b pc = .ok (.iand, 1)) (h : zstep sw E Q (XK p l e R s m args below meth c cells slots Qf g A0 sw A1 nL) (.iand) (pc + 1) xs ls st M) : (XK p l e R s m args below meth c cells slots Qf g A0 sw A1 nL) pc ls st M := by
  dsimp only [zstep] at h
  split at h
  · rename_i y x r
    intro A H locs lsA hA hP hS hl hn hM hls hst
    have hy : inI y := oks_hd hst
    have hx : inI x := oks_hd (oks_tl hst)
    refine lv_iand F.1 F.2.1 hd ?_
    have h2 := h A H locs lsA hA hP hS hl hn hM hls (oks_cons (v := vI _) (inI_t _) (oks_tl (oks_tl hst)))
    rw [List.map_cons] at h2
    have e9 : Int32.ofInt (zand x y) = Int32.ofInt x &&& Int32.ofInt y := ofI_t _
    dsimp only [rv] at h2
    rw [e9] at h2
    exact h2
  · exact h.elim
theorem s_ior (F : Fr p s m c g A0 nL b own) (hd : decode b pc = .ok (.ior, 1)) (h : zstep sw E Q (XK p l e R s m args below meth c cells slots Qf g A0 sw A1 nL) (.ior) (pc + 1) xs ls st M) : (XK p l e R s m args below meth c cells slots Qf g A0 sw A1 nL) pc ls st M := by
  dsimp only [zstep] at h
  split at h
  · rename_i y x r
    intro A H locs lsA hA hP hS hl hn hM hls hst
    have hy : inI y := oks_hd hst
    have hx : inI x := oks_hd (oks_tl hst)
    refine lv_ior F.1 F.2.1 hd ?_
    have h2 := h A H locs lsA hA hP hS hl hn hM hls (oks_cons (v := vI _) (inI_t _) (oks_tl (oks_tl hst)))
    rw [List.map_cons] at h2
    have e9 : Int32.ofInt (zor x y) = Int32.ofInt x ||| Int32.ofInt y := ofI_t _
    dsimp only [rv] at h2
    rw [e9] at h2
    exact h2
  · exact h.elim
theorem s_ixor (F : Fr p s m c g A0 nL b own) (hd : decode b pc = .ok (.ixor, 1)) (h : zstep sw E Q (XK p l e R s m args below meth c cells slots Qf g A0 sw A1 nL) (.ixor) (pc + 1) xs ls st M) : (XK p l e R s m args below meth c cells slots Qf g A0 sw A1 nL) pc ls st M := by
  dsimp only [zstep] at h
  split at h
  · rename_i y x r
    intro A H locs lsA hA hP hS hl hn hM hls hst
    have hy : inI y := oks_hd hst
    have hx : inI x := oks_hd (oks_tl hst)
    refine lv_ixor F.1 F.2.1 hd ?_
    have h2 := h A H locs lsA hA hP hS hl hn hM hls (oks_cons (v := vI _) (inI_t _) (oks_tl (oks_tl hst)))
    rw [List.map_cons] at h2
    have e9 : Int32.ofInt (zxor x y) = Int32.ofInt x ^^^ Int32.ofInt y := ofI_t _
    dsimp only [rv] at h2
    rw [e9] at h2
    exact h2
  · exact h.elim
theorem s_ishl (F : Fr p s m c g A0 nL b own) (hd : decode b pc = .ok (.ishl, 1)) (h : zstep sw E Q (XK p l e R s m args below meth c cells slots Qf g A0 sw A1 nL) (.ishl) (pc + 1) xs ls st M) : (XK p l e R s m args below meth c cells slots Qf g A0 sw A1 nL) pc ls st M := by
  dsimp only [zstep] at h
  split at h
  · rename_i y x r
    intro A H locs lsA hA hP hS hl hn hM hls hst
    have hy : inI y := oks_hd hst
    have hx : inI x := oks_hd (oks_tl hst)
    refine lv_ishl F.1 F.2.1 hd ?_
    have h2 := h A H locs lsA hA hP hS hl hn hM hls (oks_cons (v := vI _) (inI_t _) (oks_tl (oks_tl hst)))
    rw [List.map_cons] at h2
    have e9 : Int32.ofInt (zshl x y) = Int32.ofInt x <<< (Int32.ofInt y &&& 31) := ofI_t _
    dsimp only [rv] at h2
    rw [e9] at h2
    exact h2
  · exact h.elim
theorem s_ishr (F : Fr p s m c g A0 nL b own) (hd : decode b pc = .ok (.ishr, 1)) (h : zstep sw E Q (XK p l e R s m args below meth c cells slots Qf g A0 sw A1 nL) (.ishr) (pc + 1) xs ls st M) : (XK p l e R s m args below meth c cells slots Qf g A0 sw A1 nL) pc ls st M := by
  dsimp only [zstep] at h
  split at h
  · rename_i y x r
    intro A H locs lsA hA hP hS hl hn hM hls hst
    have hy : inI y := oks_hd hst
    have hx : inI x := oks_hd (oks_tl hst)
    refine lv_ishr F.1 F.2.1 hd ?_
    have h2 := h A H locs lsA hA hP hS hl hn hM hls (oks_cons (v := vI _) (inI_t _) (oks_tl (oks_tl hst)))
    rw [List.map_cons] at h2
    have e9 : Int32.ofInt (zshr x y) = Int32.ofInt x >>> (Int32.ofInt y &&& 31) := ofI_t _
    dsimp only [rv] at h2
    rw [e9] at h2
    exact h2
  · exact h.elim
theorem s_iushr (F : Fr p s m c g A0 nL b own) (hd : decode b pc = .ok (.iushr, 1)) (h : zstep sw E Q (XK p l e R s m args below meth c cells slots Qf g A0 sw A1 nL) (.iushr) (pc + 1) xs ls st M) : (XK p l e R s m args below meth c cells slots Qf g A0 sw A1 nL) pc ls st M := by
  dsimp only [zstep] at h
  split at h
  · rename_i y x r
    intro A H locs lsA hA hP hS hl hn hM hls hst
    refine lv_iushr F.1 F.2.1 hd ((ofI_t _).symm) ?_
    exact h A H locs lsA hA hP hS hl hn hM hls (oks_cons (v := vI (zushr x y)) (inI_t _) (oks_tl (oks_tl hst)))
  · exact h.elim
theorem s_i2c (F : Fr p s m c g A0 nL b own) (hd : decode b pc = .ok (.i2c, 1)) (h : zstep sw E Q (XK p l e R s m args below meth c cells slots Qf g A0 sw A1 nL) (.i2c) (pc + 1) xs ls st M) : (XK p l e R s m args below meth c cells slots Qf g A0 sw A1 nL) pc ls st M := by
  dsimp only [zstep] at h
  split at h
  · rename_i x r
    intro A H locs lsA hA hP hS hl hn hM hls hst
    refine lv_i2c F.1 F.2.1 hd ((ofI_t _).symm) ?_
    exact h A H locs lsA hA hP hS hl hn hM hls (oks_cons (v := vI (zi2c x)) (inI_t _) (oks_tl hst))
  · exact h.elim
theorem s_l2i (F : Fr p s m c g A0 nL b own) (hd : decode b pc = .ok (.l2i, 1)) (h : zstep sw E Q (XK p l e R s m args below meth c cells slots Qf g A0 sw A1 nL) (.l2i) (pc + 1) xs ls st M) : (XK p l e R s m args below meth c cells slots Qf g A0 sw A1 nL) pc ls st M := by
  dsimp only [zstep] at h
  split at h
  · rename_i x r
    intro A H locs lsA hA hP hS hl hn hM hls hst
    refine lv_l2i F.1 F.2.1 hd (by show (Int64.ofInt x).toInt32 = Int32.ofInt (wr x); rw [ofI_wr]; simp) ?_
    exact h A H locs lsA hA hP hS hl hn hM hls (oks_cons (v := vI (wr x)) (inI_wr _) (oks_tl hst))
  · exact h.elim
theorem s_lshl (F : Fr p s m c g A0 nL b own) (hd : decode b pc = .ok (.lshl, 1)) (h : zstep sw E Q (XK p l e R s m args below meth c cells slots Qf g A0 sw A1 nL) (.lshl) (pc + 1) xs ls st M) : (XK p l e R s m args below meth c cells slots Qf g A0 sw A1 nL) pc ls st M := by
  dsimp only [zstep] at h
  split at h
  · rename_i y x r
    intro A H locs lsA hA hP hS hl hn hM hls hst
    refine lv_lshl F.1 F.2.1 hd ((ofJ_t _).symm) ?_
    exact h A H locs lsA hA hP hS hl hn hM hls (oks_cons (v := vL (jshl x y)) (inJ_t _) (oks_tl (oks_tl hst)))
  · exact h.elim
theorem s_lshr (F : Fr p s m c g A0 nL b own) (hd : decode b pc = .ok (.lshr, 1)) (h : zstep sw E Q (XK p l e R s m args below meth c cells slots Qf g A0 sw A1 nL) (.lshr) (pc + 1) xs ls st M) : (XK p l e R s m args below meth c cells slots Qf g A0 sw A1 nL) pc ls st M := by
  dsimp only [zstep] at h
  split at h
  · rename_i y x r
    intro A H locs lsA hA hP hS hl hn hM hls hst
    refine lv_lshr F.1 F.2.1 hd ((ofJ_t _).symm) ?_
    exact h A H locs lsA hA hP hS hl hn hM hls (oks_cons (v := vL (jshr x y)) (inJ_t _) (oks_tl (oks_tl hst)))
  · exact h.elim
theorem s_lushr (F : Fr p s m c g A0 nL b own) (hd : decode b pc = .ok (.lushr, 1)) (h : zstep sw E Q (XK p l e R s m args below meth c cells slots Qf g A0 sw A1 nL) (.lushr) (pc + 1) xs ls st M) : (XK p l e R s m args below meth c cells slots Qf g A0 sw A1 nL) pc ls st M := by
  dsimp only [zstep] at h
  split at h
  · rename_i y x r
    intro A H locs lsA hA hP hS hl hn hM hls hst
    refine lv_lushr F.1 F.2.1 hd ((ofJ_t _).symm) ?_
    exact h A H locs lsA hA hP hS hl hn hM hls (oks_cons (v := vL (jushr x y)) (inJ_t _) (oks_tl (oks_tl hst)))
  · exact h.elim
theorem s_i2l (F : Fr p s m c g A0 nL b own) (hd : decode b pc = .ok (.i2l, 1)) (h : zstep sw E Q (XK p l e R s m args below meth c cells slots Qf g A0 sw A1 nL) (.i2l) (pc + 1) xs ls st M) : (XK p l e R s m args below meth c cells slots Qf g A0 sw A1 nL) pc ls st M := by
  dsimp only [zstep] at h
  split at h
  · rename_i x r
    intro A H locs lsA hA hP hS hl hn hM hls hst
    have hx : inI x := oks_hd hst
    refine lv_i2l F.1 F.2.1 hd (v := Int64.ofInt x) (Int64.toInt_inj.mp ?_) ?_
    · rw [Int32.toInt_toInt64, toI_of hx, toJ_of (by unfold inI at hx; unfold inJ; omega)]
    · exact h A H locs lsA hA hP hS hl hn hM hls (oks_cons (v := vL x) (by unfold inI at hx; show inJ x; unfold inJ; omega) (oks_tl hst))
  · exact h.elim
theorem s_ineg (F : Fr p s m c g A0 nL b own) (hd : decode b pc = .ok (.ineg, 1)) (h : zstep sw E Q (XK p l e R s m args below meth c cells slots Qf g A0 sw A1 nL) (.ineg) (pc + 1) xs ls st M) : (XK p l e R s m args below meth c cells slots Qf g A0 sw A1 nL) pc ls st M := by
  dsimp only [zstep] at h
  split at h
  · rename_i x r
    intro A H locs lsA hA hP hS hl hn hM hls hst
    refine lv_ineg F.1 F.2.1 hd ?_
    have h2 := h A H locs lsA hA hP hS hl hn hM hls (oks_cons (v := vI _) (inI_wr _) (oks_tl hst))
    have e9 : Int32.ofInt (wr (-x)) = - Int32.ofInt x := by rw [ofI_wr, Int32.ofInt_neg]
    rw [List.map_cons] at h2
    dsimp only [rv] at h2
    rw [e9] at h2
    exact h2
  · exact h.elim
theorem s_ladd (F : Fr p s m c g A0 nL b own) (hd : decode b pc = .ok (.ladd, 1)) (h : zstep sw E Q (XK p l e R s m args below meth c cells slots Qf g A0 sw A1 nL) (.ladd) (pc + 1) xs ls st M) : (XK p l e R s m args below meth c cells slots Qf g A0 sw A1 nL) pc ls st M := by
  dsimp only [zstep] at h
  split at h
  · rename_i y x r
    intro A H locs lsA hA hP hS hl hn hM hls hst
    refine lv_ladd F.1 F.2.1 hd ?_
    have h2 := h A H locs lsA hA hP hS hl hn hM hls (oks_cons (v := vL _) (inJ_wL _) (oks_tl (oks_tl hst)))
    have e9 : Int64.ofInt (wL (x + y)) = Int64.ofInt x + Int64.ofInt y := by rw [ofJ_wL, Int64.ofInt_add]
    rw [List.map_cons] at h2
    dsimp only [rv] at h2
    rw [e9] at h2
    exact h2
  · exact h.elim
theorem s_land (F : Fr p s m c g A0 nL b own) (hd : decode b pc = .ok (.land, 1)) (h : zstep sw E Q (XK p l e R s m args below meth c cells slots Qf g A0 sw A1 nL) (.land) (pc + 1) xs ls st M) : (XK p l e R s m args below meth c cells slots Qf g A0 sw A1 nL) pc ls st M := by
  dsimp only [zstep] at h
  split at h
  · rename_i y x r
    intro A H locs lsA hA hP hS hl hn hM hls hst
    refine lv_land F.1 F.2.1 hd ?_
    have h2 := h A H locs lsA hA hP hS hl hn hM hls (oks_cons (v := vL _) (inJ_t _) (oks_tl (oks_tl hst)))
    have e9 : Int64.ofInt (jand x y) = Int64.ofInt x &&& Int64.ofInt y := ofJ_t _
    rw [List.map_cons] at h2
    dsimp only [rv] at h2
    rw [e9] at h2
    exact h2
  · exact h.elim
theorem s_lor (F : Fr p s m c g A0 nL b own) (hd : decode b pc = .ok (.lor, 1)) (h : zstep sw E Q (XK p l e R s m args below meth c cells slots Qf g A0 sw A1 nL) (.lor) (pc + 1) xs ls st M) : (XK p l e R s m args below meth c cells slots Qf g A0 sw A1 nL) pc ls st M := by
  dsimp only [zstep] at h
  split at h
  · rename_i y x r
    intro A H locs lsA hA hP hS hl hn hM hls hst
    refine lv_lor F.1 F.2.1 hd ?_
    have h2 := h A H locs lsA hA hP hS hl hn hM hls (oks_cons (v := vL _) (inJ_t _) (oks_tl (oks_tl hst)))
    have e9 : Int64.ofInt (jor x y) = Int64.ofInt x ||| Int64.ofInt y := ofJ_t _
    rw [List.map_cons] at h2
    dsimp only [rv] at h2
    rw [e9] at h2
    exact h2
  · exact h.elim
theorem s_lcmp (F : Fr p s m c g A0 nL b own) (hd : decode b pc = .ok (.lcmp, 1)) (h : zstep sw E Q (XK p l e R s m args below meth c cells slots Qf g A0 sw A1 nL) (.lcmp) (pc + 1) xs ls st M) : (XK p l e R s m args below meth c cells slots Qf g A0 sw A1 nL) pc ls st M := by
  dsimp only [zstep] at h
  split at h
  · rename_i y x r
    intro A H locs lsA hA hP hS hl hn hM hls hst
    have hy : inJ y := oks_hd hst
    have hx : inJ x := oks_hd (oks_tl hst)
    have hj : inI (jcmp x y) := by
      unfold jcmp inI
      split
      · omega
      · split <;> omega
    refine W.lcmp F.1 F.2.1 hd ?_
    have h2 := h A H locs lsA hA hP hS hl hn hM hls (oks_cons (v := vI _) hj (oks_tl (oks_tl hst)))
    have e9 : Int32.ofInt (jcmp x y) = lg_cmp (Int64.ofInt x) (Int64.ofInt y) := by
      unfold jcmp lg_cmp
      simp only [gt_iff_lt, Int64.lt_iff_toInt_lt, ← Int64.toInt_inj, toJ_of hx, toJ_of hy]
      split
      · rfl
      · split <;> rfl
    rw [List.map_cons] at h2
    dsimp only [rv] at h2
    rw [e9] at h2
    exact h2
  · exact h.elim
theorem s_dup (F : Fr p s m c g A0 nL b own) (hd : decode b pc = .ok (.dup, 1)) (h : zstep sw E Q (XK p l e R s m args below meth c cells slots Qf g A0 sw A1 nL) (.dup) (pc + 1) xs ls st M) : (XK p l e R s m args below meth c cells slots Qf g A0 sw A1 nL) pc ls st M := by
  dsimp only [zstep] at h
  split at h
  · rename_i v r
    obtain ⟨h1, h⟩ := h
    intro A H locs lsA hA hP hS hl hn hM hls hst
    refine lv_dup F.1 F.2.1 hd (by rw [rv_cat (gxC F)]; exact h1) ?_
    exact h A H locs lsA hA hP hS hl hn hM hls (oks_cons (oks_hd hst) hst)
  · exact h.elim
theorem s_pop (F : Fr p s m c g A0 nL b own) (hd : decode b pc = .ok (.pop, 1)) (h : zstep sw E Q (XK p l e R s m args below meth c cells slots Qf g A0 sw A1 nL) (.pop) (pc + 1) xs ls st M) : (XK p l e R s m args below meth c cells slots Qf g A0 sw A1 nL) pc ls st M := by
  dsimp only [zstep] at h
  split at h
  · rename_i v r
    obtain ⟨h1, h⟩ := h
    intro A H locs lsA hA hP hS hl hn hM hls hst
    refine lv_pop F.1 F.2.1 hd (by rw [rv_cat (gxC F)]; exact h1) ?_
    exact h A H locs lsA hA hP hS hl hn hM hls (oks_tl hst)
  · exact h.elim
theorem s_dup2 (F : Fr p s m c g A0 nL b own) (hd : decode b pc = .ok (.dup2, 1)) (h : zstep sw E Q (XK p l e R s m args below meth c cells slots Qf g A0 sw A1 nL) (.dup2) (pc + 1) xs ls st M) : (XK p l e R s m args below meth c cells slots Qf g A0 sw A1 nL) pc ls st M := by
  dsimp only [zstep] at h
  split at h
  · rename_i v w r
    obtain ⟨⟨h1, h0⟩, h⟩ := h
    intro A H locs lsA hA hP hS hl hn hM hls hst
    refine lv_dup2_11 F.1 F.2.1 hd (by rw [rv_cat (gxC F)]; exact h1) (by rw [rv_cat (gxC F)]; exact h0) ?_
    exact h A H locs lsA hA hP hS hl hn hM hls (oks_cons (oks_hd hst) (oks_cons (oks_hd (oks_tl hst)) hst))
  · exact h.elim
theorem s_icmp_eq (F : Fr p s m c g A0 nL b own) {z off : Int} (hd : decode b pc = .ok (.if_icmp .eq off, 3)) (ht : (pc : Int) + off = (x1 xs : Int)) (h : zstep sw E Q (XK p l e R s m args below meth c cells slots Qf g A0 sw A1 nL) (.if_icmp .eq z) (pc + 3) xs ls st M) : (XK p l e R s m args below meth c cells slots Qf g A0 sw A1 nL) pc ls st M := by
  dsimp only [zstep] at h
  split at h
  · rename_i y x r
    obtain ⟨kt0, kf0⟩ := h
    intro A H locs lsA hA hP hS hl hn hM hls hst
    have hy : inI y := oks_hd hst
    have hx : inI x := oks_hd (oks_tl hst)
    have kt := fun q => kt0 q A H locs lsA hA hP hS hl hn hM hls (oks_tl (oks_tl hst))
    have kf := fun q => kf0 q A H locs lsA hA hP hS hl hn hM hls (oks_tl (oks_tl hst))
    exact lv_icmp_eq F.1 F.2.1 hd ht (fun q => kt ((eqI hx hy).mp q)) (fun q => kf (fun z => q ((eqI hx hy).mpr z)))
  · exact h.elim
theorem s_if_eq (F : Fr p s m c g A0 nL b own) {z off : Int} (hd : decode b pc = .ok (.ifCond .eq off, 3)) (ht : (pc : Int) + off = (x1 xs : Int)) (h : zstep sw E Q (XK p l e R s m args below meth c cells slots Qf g A0 sw A1 nL) (.ifCond .eq z) (pc + 3) xs ls st M) : (XK p l e R s m args below meth c cells slots Qf g A0 sw A1 nL) pc ls st M := by
  dsimp only [zstep] at h
  split at h
  · rename_i x r
    obtain ⟨kt0, kf0⟩ := h
    intro A H locs lsA hA hP hS hl hn hM hls hst
    have hx : inI x := oks_hd hst
    have hy : inI 0 := by unfold inI; omega
    have kt := fun q => kt0 q A H locs lsA hA hP hS hl hn hM hls (oks_tl hst)
    have kf := fun q => kf0 q A H locs lsA hA hP hS hl hn hM hls (oks_tl hst)
    exact lv_if_eq F.1 F.2.1 hd ht (fun q => kt ((eqI hx hy).mp q)) (fun q => kf (fun z => q ((eqI hx hy).mpr z)))
  · exact h.elim
theorem s_icmp_ne (F : Fr p s m c g A0 nL b own) {z off : Int} (hd : decode b pc = .ok (.if_icmp .ne off, 3)) (ht : (pc : Int) + off = (x1 xs : Int)) (h : zstep sw E Q (XK p l e R s m args below meth c cells slots Qf g A0 sw A1 nL) (.if_icmp .ne z) (pc + 3) xs ls st M) : (XK p l e R s m args below meth c cells slots Qf g A0 sw A1 nL) pc ls st M := by
  dsimp only [zstep] at h
  split at h
  · rename_i y x r
    obtain ⟨kt0, kf0⟩ := h
    intro A H locs lsA hA hP hS hl hn hM hls hst
    have hy : inI y := oks_hd hst
    have hx : inI x := oks_hd (oks_tl hst)
    have kt := fun q => kt0 q A H locs lsA hA hP hS hl hn hM hls (oks_tl (oks_tl hst))
    have kf := fun q => kf0 q A H locs lsA hA hP hS hl hn hM hls (oks_tl (oks_tl hst))
    exact lv_icmp_ne F.1 F.2.1 hd ht (fun q => kt (fun z => q ((eqI hx hy).mpr z))) (fun q => kf (fun z => z ((eqI hx hy).mp q)))
  · exact h.elim
theorem s_if_ne (F : Fr p s m c g A0 nL b own) {z off : Int} (hd : decode b pc = .ok (.ifCond .ne off, 3)) (ht : (pc : Int) + off = (x1 xs : Int)) (h : zstep sw E Q (XK p l e R s m args below meth c cells slots Qf g A0 sw A1 nL) (.ifCond .ne z) (pc + 3) xs ls st M) : (XK p l e R s m args below meth c cells slots Qf g A0 sw A1 nL) pc ls st M := by
  dsimp only [zstep] at h
  split at h
  · rename_i x r
    obtain ⟨kt0, kf0⟩ := h
    intro A H locs lsA hA hP hS hl hn hM hls hst
    have hx : inI x := oks_hd hst
    have hy : inI 0 := by unfold inI; omega
    have kt := fun q => kt0 q A H locs lsA hA hP hS hl hn hM hls (oks_tl hst)
    have kf := fun q => kf0 q A H locs lsA hA hP hS hl hn hM hls (oks_tl hst)
    exact lv_if_ne F.1 F.2.1 hd ht (fun q => kt (fun z => q ((eqI hx hy).mpr z))) (fun q => kf (fun z => z ((eqI hx hy).mp q)))
  · exact h.elim
theorem s_icmp_lt (F : Fr p s m c g A0 nL b own) {z off : Int} (hd : decode b pc = .ok (.if_icmp .lt off, 3)) (ht : (pc : Int) + off = (x1 xs : Int)) (h : zstep sw E Q (XK p l e R s m args below meth c cells slots Qf g A0 sw A1 nL) (.if_icmp .lt z) (pc + 3) xs ls st M) : (XK p l e R s m args below meth c cells slots Qf g A0 sw A1 nL) pc ls st M := by
  dsimp only [zstep] at h
  split at h
  · rename_i y x r
    obtain ⟨kt0, kf0⟩ := h
    intro A H locs lsA hA hP hS hl hn hM hls hst
    have hy : inI y := oks_hd hst
    have hx : inI x := oks_hd (oks_tl hst)
    have kt := fun q => kt0 q A H locs lsA hA hP hS hl hn hM hls (oks_tl (oks_tl hst))
    have kf := fun q => kf0 q A H locs lsA hA hP hS hl hn hM hls (oks_tl (oks_tl hst))
    exact lv_icmp_lt F.1 F.2.1 hd ht (fun q => kt ((ltI hx hy).mp q)) (fun q => kf (fun z => q ((ltI hx hy).mpr z)))
  · exact h.elim
theorem s_if_lt (F : Fr p s m c g A0 nL b own) {z off : Int} (hd : decode b pc = .ok (.ifCond .lt off, 3)) (ht : (pc : Int) + off = (x1 xs : Int)) (h : zstep sw E Q (XK p l e R s m args below meth c cells slots Qf g A0 sw A1 nL) (.ifCond .lt z) (pc + 3) xs ls st M) : (XK p l e R s m args below meth c cells slots Qf g A0 sw A1 nL) pc ls st M := by
  dsimp only [zstep] at h
  split at h
  · rename_i x r
    obtain ⟨kt0, kf0⟩ := h
    intro A H locs lsA hA hP hS hl hn hM hls hst
    have hx : inI x := oks_hd hst
    have hy : inI 0 := by unfold inI; omega
    have kt := fun q => kt0 q A H locs lsA hA hP hS hl hn hM hls (oks_tl hst)
    have kf := fun q => kf0 q A H locs lsA hA hP hS hl hn hM hls (oks_tl hst)
    exact lv_if_lt F.1 F.2.1 hd ht (fun q => kt ((ltI hx hy).mp q)) (fun q => kf (fun z => q ((ltI hx hy).mpr z)))
  · exact h.elim
theorem s_icmp_ge (F : Fr p s m c g A0 nL b own) {z off : Int} (hd : decode b pc = .ok (.if_icmp .ge off, 3)) (ht : (pc : Int) + off = (x1 xs : Int)) (h : zstep sw E Q (XK p l e R s m args below meth c cells slots Qf g A0 sw A1 nL) (.if_icmp .ge z) (pc + 3) xs ls st M) : (XK p l e R s m args below meth c cells slots Qf g A0 sw A1 nL) pc ls st M := by
  dsimp only [zstep] at h
  split at h
  · rename_i y x r
    obtain ⟨kt0, kf0⟩ := h
    intro A H locs lsA hA hP hS hl hn hM hls hst
    have hy : inI y := oks_hd hst
    have hx : inI x := oks_hd (oks_tl hst)
    have kt := fun q => kt0 q A H locs lsA hA hP hS hl hn hM hls (oks_tl (oks_tl hst))
    have kf := fun q => kf0 q A H locs lsA hA hP hS hl hn hM hls (oks_tl (oks_tl hst))
    exact lv_icmp_ge F.1 F.2.1 hd ht (fun q => kt ((leI hy hx).mp q)) (fun q => kf (fun z => q ((leI hy hx).mpr z)))
  · exact h.elim
theorem s_if_ge (F : Fr p s m c g A0 nL b own) {z off : Int} (hd : decode b pc = .ok (.ifCond .ge off, 3)) (ht : (pc : Int) + off = (x1 xs : Int)) (h : zstep sw E Q (XK p l e R s m args below meth c cells slots Qf g A0 sw A1 nL) (.ifCond .ge z) (pc + 3) xs ls st M) : (XK p l e R s m args below meth c cells slots Qf g A0 sw A1 nL) pc ls st M := by
  dsimp only [zstep] at h
  split at h
  · rename_i x r
    obtain ⟨kt0, kf0⟩ := h
    intro A H locs lsA hA hP hS hl hn hM hls hst
    have hx : inI x := oks_hd hst
    have hy : inI 0 := by unfold inI; omega
    have kt := fun q => kt0 q A H locs lsA hA hP hS hl hn hM hls (oks_tl hst)
    have kf := fun q => kf0 q A H locs lsA hA hP hS hl hn hM hls (oks_tl hst)
    exact lv_if_ge F.1 F.2.1 hd ht (fun q => kt ((leI hy hx).mp q)) (fun q => kf (fun z => q ((leI hy hx).mpr z)))
  · exact h.elim
theorem s_icmp_gt (F : Fr p s m c g A0 nL b own) {z off : Int} (hd : decode b pc = .ok (.if_icmp .gt off, 3)) (ht : (pc : Int) + off = (x1 xs : Int)) (h : zstep sw E Q (XK p l e R s m args below meth c cells slots Qf g A0 sw A1 nL) (.if_icmp .gt z) (pc + 3) xs ls st M) : (XK p l e R s m args below meth c cells slots Qf g A0 sw A1 nL) pc ls st M := by
  dsimp only [zstep] at h
  split at h
  · rename_i y x r
    obtain ⟨kt0, kf0⟩ := h
    intro A H locs lsA hA hP hS hl hn hM hls hst
    have hy : inI y := oks_hd hst
    have hx : inI x := oks_hd (oks_tl hst)
    have kt := fun q => kt0 q A H locs lsA hA hP hS hl hn hM hls (oks_tl (oks_tl hst))
    have kf := fun q => kf0 q A H locs lsA hA hP hS hl hn hM hls (oks_tl (oks_tl hst))
    exact lv_icmp_gt F.1 F.2.1 hd ht (fun q => kt ((ltI hy hx).mp q)) (fun q => kf (fun z => q ((ltI hy hx).mpr z)))
  · exact h.elim
theorem s_if_gt (F : Fr p s m c g A0 nL b own) {z off : Int} (hd : decode b pc = .ok (.ifCond .gt off, 3)) (ht : (pc : Int) + off = (x1 xs : Int)) (h : zstep sw E Q (XK p l e R s m args below meth c cells slots Qf g A0 sw A1 nL) (.ifCond .gt z) (pc + 3) xs ls st M) : (XK p l e R s m args below meth c cells slots Qf g A0 sw A1 nL) pc ls st M := by
  dsimp only [zstep] at h
  split at h
  · rename_i x r
    obtain ⟨kt0, kf0⟩ := h
    intro A H locs lsA hA hP hS hl hn hM hls hst
    have hx : inI x := oks_hd hst
    have hy : inI 0 := by unfold inI; omega
    have kt := fun q => kt0 q A H locs lsA hA hP hS hl hn hM hls (oks_tl hst)
    have kf := fun q => kf0 q A H locs lsA hA hP hS hl hn hM hls (oks_tl hst)
    exact lv_if_gt F.1 F.2.1 hd ht (fun q => kt ((ltI hy hx).mp q)) (fun q => kf (fun z => q ((ltI hy hx).mpr z)))
  · exact h.elim
theorem s_icmp_le (F : Fr p s m c g A0 nL b own) {z off : Int} (hd : decode b pc = .ok (.if_icmp .le off, 3)) (ht : (pc : Int) + off = (x1 xs : Int)) (h : zstep sw E Q (XK p l e R s m args below meth c cells slots Qf g A0 sw A1 nL) (.if_icmp .le z) (pc + 3) xs ls st M) : (XK p l e R s m args below meth c cells slots Qf g A0 sw A1 nL) pc ls st M := by
  dsimp only [zstep] at h
  split at h
  · rename_i y x r
    obtain ⟨kt0, kf0⟩ := h
    intro A H locs lsA hA hP hS hl hn hM hls hst
    have hy : inI y := oks_hd hst
    have hx : inI x := oks_hd (oks_tl hst)
    have kt := fun q => kt0 q A H locs lsA hA hP hS hl hn hM hls (oks_tl (oks_tl hst))
    have kf := fun q => kf0 q A H locs lsA hA hP hS hl hn hM hls (oks_tl (oks_tl hst))
    exact lv_icmp_le F.1 F.2.1 hd ht (fun q => kt ((leI hx hy).mp q)) (fun q => kf (fun z => q ((leI hx hy).mpr z)))
  · exact h.elim
theorem s_if_le (F : Fr p s m c g A0 nL b own) {z off : Int} (hd : decode b pc = .ok (.ifCond .le off, 3)) (ht : (pc : Int) + off = (x1 xs : Int)) (h : zstep sw E Q (XK p l e R s m args below meth c cells slots Qf g A0 sw A1 nL) (.ifCond .le z) (pc + 3) xs ls st M) : (XK p l e R s m args below meth c cells slots Qf g A0 sw A1 nL) pc ls st M := by
  dsimp only [zstep] at h
  split at h
  · rename_i x r
    obtain ⟨kt0, kf0⟩ := h
    intro A H locs lsA hA hP hS hl hn hM hls hst
    have hx : inI x := oks_hd hst
    have hy : inI 0 := by unfold inI; omega
    have kt := fun q => kt0 q A H locs lsA hA hP hS hl hn hM hls (oks_tl hst)
    have kf := fun q => kf0 q A H locs lsA hA hP hS hl hn hM hls (oks_tl hst)
    exact lv_if_le F.1 F.2.1 hd ht (fun q => kt ((leI hx hy).mp q)) (fun q => kf (fun z => q ((leI hx hy).mpr z)))
  · exact h.elim
theorem s_goto (F : Fr p s m c g A0 nL b own) {z off : Int} (hd : decode b pc = .ok (.goto off, 3)) (ht : (pc : Int) + off = (x1 xs : Int)) (h : zstep sw E Q (XK p l e R s m args below meth c cells slots Qf g A0 sw A1 nL) (.goto z) (nx) xs ls st M) : (XK p l e R s m args below meth c cells slots Qf g A0 sw A1 nL) pc ls st M := by
  intro A H locs lsA hA hP hS hl hn hM hls hst
  exact lv_goto F.1 F.2.1 hd ht (h A H locs lsA hA hP hS hl hn hM hls (hst))
theorem swK_in {lo x : Int} {K : Nat → Prop} : ∀ {ts : List Nat} {i t : Nat}, swK lo ts x K → ts[i]? = some t → x = lo + i → K t
  | [], i, t, _, h, _ => by simp at h
  | a :: r, 0, t, hk, h, e => by
    simp at h
    subst h
    exact hk.1 (by omega)
  | a :: r, i + 1, t, hk, h, e => swK_in (ts := r) (i := i) hk.2 (by simpa using h) (by omega)

theorem s_tsw {d lo hi : Int} {offs : Array Int} {len : Nat} {z1 z2 z3 : Int} {z4 : Array Int} (F : Fr p s m c g A0 nL b own) (hd : decode b pc = .ok (.tableswitch d lo hi offs, len)) (hlo : lo = xI xs) (hhi : hi + 1 = xI xs + (x3 xs).length) (hof : offs.toList.map (fun o => (pc : Int) + o) = (x3 xs).map (fun t : Nat => (t : Int))) (hdf : (pc : Int) + d = (x1 xs : Int)) (h : zstep sw E Q (XK p l e R s m args below meth c cells slots Qf g A0 sw A1 nL) (.tableswitch z1 z2 z3 z4) nx xs ls st M) : (XK p l e R s m args below meth c cells slots Qf g A0 sw A1 nL) pc ls st M := by
  dsimp only [zstep] at h
  split at h
  · rename_i x r
    obtain ⟨k1, k2⟩ := h
    intro A H locs lsA hA hP hS hl hn hM hls hst
    have hx : inI x := oks_hd hst
    by_cases ho : x < xI xs ∨ xI xs + (x3 xs).length ≤ x
    · refine lv_tableOut F.1 F.2.1 hd ?_ hdf (k2 ho A H locs lsA hA hP hS hl hn hM hls (oks_tl hst))
      rw [toI_of hx]
      omega
    · have hi2 : (x - xI xs).toNat < (x3 xs).length := by omega
      obtain ⟨t, ht⟩ : ∃ t, (x3 xs)[(x - xI xs).toNat]? = some t := ⟨_, List.getElem?_eq_getElem hi2⟩
      have e1 : (offs.toList.map (fun o => (pc : Int) + o))[(x - xI xs).toNat]? = some (t : Int) := by rw [hof, List.getElem?_map, ht]; rfl
      rw [List.getElem?_map] at e1
      cases ho2 : offs.toList[(x - xI xs).toNat]? with
      | none => rw [ho2] at e1; cases e1
      | some off =>
        rw [ho2] at e1
        have e2 : (pc : Int) + off = (t : Int) := by simpa using e1
        refine lv_tableIn F.1 F.2.1 hd (by rw [toI_of hx]; omega) (by rw [toI_of hx]; omega) (off := off) ?_ e2 ?_
        · rw [toI_of hx, hlo, ← ho2]
          simp
        · exact swK_in k1 ht (by omega) A H locs lsA hA hP hS hl hn hM hls (oks_tl hst)
  · exact h.elim
end OPS
