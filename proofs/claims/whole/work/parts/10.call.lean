/-! RETURNS, CALLS, THE TWO BOOKS' CHANGE -/
def rmD (d : Nat) : Room := { frames := d, cells := 0, slots := 0, locals := 40 * d }
/-- the world behind a call: the addresses, the memory -/
abbrev Wu : Type := (Nat → Nat) × Mm
def BU (g : Gx) (u : Wu) (t : State) : Prop := va_P g.D cls (wld g u.1 u.2) t.heap
def okU (g : Gx) (μ : Nat) (A : Nat → Nat) (u : Wu) : Prop := okM g u.2 ∧ (u.1 = A ∨ (μ = 15 ∧ u.1 = fun k => A (sgm k)))
def QcU (g : Gx) (A0 : Nat → Prop) (μ : Nat) (A : Nat → Nat) (Q : Ql) : Array Value → State → Outcome → State → Prop := match mR μ with
  | none => va_Qv (fun u : Wu => Q none u.2 ∧ okU g μ A u) (BU g) A0
  | some .long => va_Ql (fun (r : Int64) (u : Wu) => (∃ x, r = Int64.ofInt x ∧ inJ x ∧ Q (some (vL x)) u.2) ∧ okU g μ A u) (BU g) A0
  | _ => va_Qi (fun (r : Int32) (u : Wu) => (∃ x, r = Int32.ofInt x ∧ inI x ∧ Q (some (vI x)) u.2) ∧ okU g μ A u) (BU g) A0
def PcU (g : Gx) (A0 : Nat → Prop) (A : Nat → Nat) (as : List Vl) (M : Mm) : Array Value → State → Prop := va_Pc (as.map (rv g A)) (fun U => Ctx g A0 U ∧ va_P g.D cls (wld g A M) U.heap)
def MetU (l : Launch) (g : Gx) (A0 : Nat → Prop) (d : Nat) (A : Nat → Nat) (μ : Nat) (as : List Vl) (M : Mm) (Q : Ql) : Prop := Met l (mY μ) [.code (mY μ) (mB μ) (mN μ) (mR μ)] (rmD d) (PcU g A0 A as M) (QcU g A0 μ A Q) 0 0 A0
theorem PcU_blind {g : Gx} {A0 : Nat → Prop} {A : Nat → Nat} {as : List Vl} {M : Mm} : FrameBlind (PcU g A0 A as M) := by
  intro a U f mk h
  obtain ⟨h1, h2, h3⟩ := h
  exact ⟨h1, h2.same rfl rfl, h3⟩
theorem nbk_rv {g : Gx} {A : Nat → Nat} {v : Vl} (h : nbk v = true) (hv : okV v) : rv g (fun k => A (sgm k)) v = rv g A v := by
  rcases v with x | x | k | ⟨k, i⟩ | t | t | u
  · rfl
  · rfl
  · have : sgm k = k := by
      have h1 : k < 58 ∨ 76 ≤ k := by simpa [nbk] using h
      unfold sgm; rw [if_neg (by omega), if_neg (by omega)]
    show Value.ref (A (sgm k)) = .ref (A k)
    rw [this]
  · have : sgm (k + i.toNat) = k + i.toNat := by
      have h1 : k + 6 ≤ 58 ∨ 76 ≤ k := by simpa [nbk] using h
      have h2 : 0 ≤ i ∧ i < (rowN k : Int) := hv
      have h3 : rowN k ≤ 6 := by
        unfold rowN
        by_cases q1 : k = 14
        · rw [if_pos q1]; omega
        · rw [if_neg q1]; split <;> omega
      unfold sgm; rw [if_neg (by omega), if_neg (by omega)]
    show Value.ref (A (sgm (k + i.toNat))) = .ref (A (k + i.toNat))
    rw [this]
  · rfl
  · rfl
  · rfl
theorem nbk_prs {g : Gx} {A : Nat → Nat} {ls : List Vl} (h : ls.all nbk = true) (hv : oks ls) : prs g (fun k => A (sgm k)) ls = prs g A ls := by
  have key : ∀ (l : List Vl) (i : Nat), l.all nbk = true → oks l → prsF g (fun k => A (sgm k)) i l = prsF g A i l := by
    intro l
    induction l with
    | nil => intro i _ _; rfl
    | cons v r ih =>
      intro i h1 h2
      simp only [List.all_cons, Bool.and_eq_true] at h1
      unfold prsF
      rw [nbk_rv h1.1 (oks_hd h2), ih (i + 1) h1.2 (oks_tl h2)]
  exact key ls 0 h hv
theorem nbk_map {g : Gx} {A : Nat → Nat} {ls : List Vl} (h : ls.all nbk = true) (hv : oks ls) : ls.map (rv g (fun k => A (sgm k))) = ls.map (rv g A) := by
  apply List.map_congr_left
  intro v hv2
  exact nbk_rv (List.all_eq_true.mp h v hv2) (hv v hv2)
section OPC
variable {p : Program} {l : Launch} {e : Env} {R : Room} {s : State} {m : MethodId} {args : Array Value} {below : List Frame} {meth : Method} {c : Code} {cells slots : Nat} {Qf : State → Prop} {g : Gx} {A0 : Nat → Prop} {sw : Bool} {A1 : Nat → Nat} {nL : Nat} {b : ByteArray} {own : Nat} {E : Er} {Q : Ql} {pc nx : Nat} {xs : Ex} {ls st : List Vl} {M : Mm}
theorem AOK.swp {A : Nat → Nat} (h : AOK A0 true A1 A) : AOK A0 true A1 (fun k => A (sgm k)) := by
  obtain ⟨h1, h2⟩ := h
  refine ⟨h1, ?_⟩
  rcases h2 with rfl | ⟨-, rfl⟩
  · exact Or.inr ⟨rfl, rfl⟩
  · exact Or.inl (by funext k; show A1 (sgm (sgm k)) = A1 k; rw [sgm_sgm])
/-- what a call's run gives the caller -/
theorem call_go {d : Nat} {A : Nat → Nat} {H : Heap} {locs : List Loc} {lsA : Array Slot} {μ : Nat} {rest : List Vl} {st0 : List Value} {a : Array Value}
    (hμ : μ < 183) (hrun : va_Run p l e R s m args below meth c H locs cells slots 0 0 (F0 m pc lsA st0) (rest.map (rv g A)) (QcU g A0 μ A (fun v M' => XK p l e R s m args below meth c cells slots Qf g A0 sw A1 nL (pc + 3) ls (v.toList ++ rest) M') a) A0)
    (h15 : μ = 15 → sw = true ∧ ls.all nbk = true ∧ rest.all nbk = true) (hA : AOK A0 sw A1 A) (hS : va_S A0 s.heap H locs) (hl : lv_has lsA nL (prs g A ls)) (hn : ls.length = nL) (hls : oks ls) (hrest : oks rest) :
    W p l e R s m args below meth c H locs cells slots Qf (F0 m pc lsA st0) := by
  have fin : ∀ (v : Option Vl) (u : Wu) (t : State) (H1 : Heap) (locs1 : List Loc), t.heap = H1 → XK p l e R s m args below meth c cells slots Qf g A0 sw A1 nL (pc + 3) ls (v.toList ++ rest) u.2 → okU g μ A u → BU g u t → va_S A0 s.heap H1 locs1 → oks v.toList →
      W p l e R s m args below meth c H1 locs1 cells slots Qf (F0 m (pc + 3) lsA (v.toList.map (rv g A) ++ rest.map (rv g A))) ∨ (∃ q, v = some q ∧ nbk q = false) := by
    intro v u t H1 locs1 ht hX hU hB hS1 hv
    obtain ⟨A', M'⟩ := u
    obtain ⟨hM, hA'⟩ := hU
    have hB2 : va_P g.D cls (wld g A' M') H1 := by rw [← ht]; exact hB
    have hok : oks (v.toList ++ rest) := fun w hw => (List.mem_append.mp hw).elim (hv w) (hrest w)
    rcases hA' with e1 | ⟨e0, e1⟩
    · dsimp only at e1 hX
      subst e1
      left
      have := hX A' H1 locs1 lsA hA hB2 hS1 hl hn hM hls hok
      rw [List.map_append] at this
      exact this
    · obtain ⟨z1, z2, z3⟩ := h15 e0
      dsimp only at e1 hX
      subst e1
      subst z1
      by_cases hq : ∃ q, v = some q ∧ nbk q = false
      · exact Or.inr hq
      · left
        have hvn : v.toList.all nbk = true := by
          cases v with
          | none => rfl
          | some q =>
            cases hb : nbk q with
            | true => simp [hb]
            | false => exact absurd ⟨q, rfl, hb⟩ hq
        have := hX (fun k => A (sgm k)) H1 locs1 lsA hA.swp hB2 hS1 (by rw [nbk_prs z2 hls]; exact hl) hn hM hls hok
        rw [List.map_append, nbk_map hvn hv, nbk_map z3 hrest] at this
        exact this
  unfold QcU at hrun
  have hmt := mt_ok hμ
  simp only [mtC, Bool.and_eq_true, decide_eq_true_eq] at hmt
  have hret := hmt.2
  have iCase : ∀ {post : Int32 → Wu → Prop}, va_Run p l e R s m args below meth c H locs cells slots 0 0 (F0 m pc lsA st0) (rest.map (rv g A)) (va_Qi (fun (r : Int32) (u : Wu) => (∃ x, r = Int32.ofInt x ∧ inI x ∧ XK p l e R s m args below meth c cells slots Qf g A0 sw A1 nL (pc + 3) ls ((some (vI x)).toList ++ rest) u.2) ∧ okU g μ A u) (BU g) A0 a) A0 → W p l e R s m args below meth c H locs cells slots Qf (F0 m pc lsA st0) := by
    intro _ hr
    refine va_calli hr hS (fun q _ h => h) (fun q h => h) (fun r u t H1 locs1 ht hvm hp hB hz hk hS1 => ?_)
    obtain ⟨⟨x, rfl, hx, hX⟩, hU⟩ := hp
    rcases fin (some (vI x)) u t H1 locs1 ht hX hU hB hS1 (oks_cons (v := vI x) hx (fun _ h => by cases h)) with h | ⟨q, hq, hb⟩
    · exact h
    · cases hq; cases hb
  rcases hret with h | h | h | h | h | h
  · simp only [h] at hrun
    refine va_callv hrun hS (fun q _ h => h) (fun q h => h) (fun u t H1 locs1 ht hvm hp hB hz hk hS1 => ?_)
    rcases fin none u t H1 locs1 ht hp.1 hp.2 hB hS1 (fun _ h => by cases h) with h | ⟨q, hq, hb⟩
    · exact h
    · cases hq
  · simp only [h] at hrun
    exact iCase (post := fun _ _ => True) hrun
  · simp only [h] at hrun
    refine va_calll hrun hS (fun q _ h => h) (fun q h => h) (fun r u t H1 locs1 ht hvm hp hB hz hk hS1 => ?_)
    obtain ⟨⟨x, rfl, hx, hX⟩, hU⟩ := hp
    rcases fin (some (vL x)) u t H1 locs1 ht hX hU hB hS1 (oks_cons (v := vL x) hx (fun _ h => by cases h)) with h | ⟨q, hq, hb⟩
    · exact h
    · cases hq; cases hb
  · simp only [h] at hrun
    exact iCase (post := fun _ _ => True) hrun
  · simp only [h] at hrun
    exact iCase (post := fun _ _ => True) hrun
  · simp only [h] at hrun
    exact iCase (post := fun _ _ => True) hrun
theorem cat_le (F : Fr p s m c g A0 nL b own) {A : Nat → Nat} {rest : List Vl} (h : (rest.map zcat).sum ≤ 8) : ((rest.map (rv g A)).map fun v => v.category).sum ≤ 8 := by
  rw [List.map_map]
  have : ((fun v : Value => v.category) ∘ rv g A) = zcat := by funext v; exact rv_cat (gxC F)
  rw [this]; exact h
theorem oks_sub {l1 l2 : List Vl} (h : oks l2) (hs : ∀ v ∈ l1, v ∈ l2) : oks l1 := fun v hv => h v (hs v hv)
theorem wk_code {y : MethodName} {bs : ByteArray} {n : Nat} {r : Option FieldType} : wKeep (.code y bs n r) = true := rfl
theorem s_calls (F : Fr p s m c g A0 nL b own) {d i j nest pos z : Nat} (hd : decode b pc = .ok (.invokestatic i, 3)) (hq : mlL[j]? = some (own, i, x1 xs, nest, pos)) (hst1 : mS (x1 xs) = true) (hna : mA (x1 xs) = x2 xs) (hR : d + 1 ≤ R.frames ∧ 40 * d + 40 ≤ R.locals) (hcs : cells ≤ R.cells ∧ slots ≤ R.slots)
    (hE : ∀ μ as M' Q' A, E μ as M' Q' → μ < 183 → okM g M' → oks as → adr A0 A → MetU l g A0 d A μ as M' Q') (h : zstep sw E Q (XK p l e R s m args below meth c cells slots Qf g A0 sw A1 nL) (.invokestatic z) (pc + 3) xs ls st M) : XK p l e R s m args below meth c cells slots Qf g A0 sw A1 nL pc ls st M := by
  obtain ⟨hw, hμ⟩ := ml_get hq
  dsimp only at hμ
  obtain ⟨⟨hlen, hcat, -, h15⟩, hEv⟩ := h
  intro A H locs lsA hA hP hS hl hn hM hls hst
  have hmt := mt_ok hμ
  simp only [mtC, Bool.and_eq_true, decide_eq_true_eq, if_pos hst1] at hmt
  obtain ⟨⟨⟨⟨⟨⟨⟨⟨wc, wi⟩, wst⟩, hN⟩, hpn⟩, hde⟩, -⟩, hmh⟩, -⟩ := hmt
  have hoa : oks (st.take (x2 xs)).reverse := oks_sub hst (fun v hv => List.mem_of_mem_take (List.mem_reverse.mp hv))
  have hor : oks (st.drop (x2 xs)) := oks_sub hst (fun v hv => List.mem_of_mem_drop hv)
  have hMet := hE _ _ _ _ A hEv hμ hM hoa hA.adr
  have hpre : PreS s H (PcU g A0 A (st.take (x2 xs)).reverse M) ((st.take (x2 xs)).reverse.map (rv g A)) := ⟨PcU_blind, fun U hU hW => ⟨rfl, F.2.2.2.2.warm hW (by rw [hU]; exact hS.1) (by rw [hU]; exact hS.2.1), by rw [hU]; exact hP⟩⟩
  have hlen2 : ((st.take (x2 xs)).reverse.map (rv g A)).length = x2 xs := by rw [List.length_map, List.length_reverse]; exact hlen
  have hstk : st.map (rv g A) = ((st.take (x2 xs)).reverse.map (rv g A)).reverse ++ (st.drop (x2 xs)).map (rv g A) := by
    rw [← List.map_reverse, List.reverse_reverse, ← List.map_append, List.take_append_drop]
  have hsz : lsA.size = nL := hl.1
  have hcw : (∀ w ∈ [Cond.code (mY (x1 xs)) (mB (x1 xs)) (mN (x1 xs)) (mR (x1 xs))], ∀ (a' : Array Value) (U : State), s.WarmedH U.vm → w.before a' U = true) := by
    intro w hw9 a' U hW
    rw [List.mem_singleton.mp hw9]
    exact (F.2.2.2.2.1.warm hW) _ (lw_at (cd_ok wc)) rfl a'
  have hsig : ∀ sig, parseMethodDescriptor (mY (x1 xs)).desc = some sig → x2 xs = sig.parameters.length := by
    intro sig hs
    rw [hs] at hde
    have := Option.some.inj hde
    rw [← hna]; exact this.symm
  have hroom : (rmD d).frames + 1 ≤ R.frames ∧ 8 + (mN (x1 xs) + 11) + (rmD d).locals ≤ R.locals := ⟨hR.1, by show 8 + (mN (x1 xs) + 11) + 40 * d ≤ _; omega⟩
  unfold mlW at hw
  dsimp only at hw
  by_cases hnest : nest = 0
  · rw [if_pos hnest] at hw
    have cw : CallB R s args (ownN own) i (mY (x1 xs)) (mB (x1 xs)) (mN (x1 xs)) (mR (x1 xs)) [Cond.code (mY (x1 xs)) (mB (x1 xs)) (mN (x1 xs)) (mR (x1 xs))] (rmD d) 0 0 (x2 xs) ∧ (Cond.static (mY (x1 xs))).before args s = true :=
      ⟨⟨rfl, rfl, hroom.1, hroom.2, hcw, List.mem_singleton.mpr rfl, F.2.2.2.2.1 _ (lw_at (cd_ok wc)) rfl args, F.2.2.2.2.1 _ (lw_at wi) rfl args, hmh, hsig, F.2.2.2.2.1 _ hw rfl args⟩, F.2.2.2.2.1 _ (lw_at wst) rfl args⟩
    exact call_go (d := d) hμ (va_runS (As := (st.take (x2 xs)).reverse.map (rv g A)) ⟨F.1, F.2.1, F.2.2.1, F.2.2.2.1, F.2.2.2.2.1.hts args⟩ hMet cw hpre rfl hlen2 hsz hstk (lv_room (cat_le F hcat)) hd ⟨hcs.1, hcs.2⟩) h15 hA hS hl hn hls hor
  · rw [if_neg hnest] at hw
    have cw : va_CN R s args (ownN own) i (mY (x1 xs)) "ChildTrains" (mB (x1 xs)) (mN (x1 xs)) (mR (x1 xs)) [Cond.code (mY (x1 xs)) (mB (x1 xs)) (mN (x1 xs)) (mR (x1 xs))] (rmD d) 0 0 (x2 xs) ∧ (Cond.static (mY (x1 xs))).before args s = true ∧ True :=
      ⟨⟨⟨rfl, rfl, hroom.1, hroom.2, hcw, List.mem_singleton.mpr rfl⟩, F.2.2.2.2.1 _ (lw_at (cd_ok wc)) rfl args, F.2.2.2.2.1 _ (lw_at wi) rfl args, hmh, hsig, F.2.2.2.2.1 _ hw rfl args⟩, F.2.2.2.2.1 _ (lw_at wst) rfl args, trivial⟩
    exact call_go (d := d) hμ (va_runSN (As := (st.take (x2 xs)).reverse.map (rv g A)) ⟨F.1, F.2.1, F.2.2.1, F.2.2.2.1, F.2.2.2.2.1.hts args⟩ hMet cw hpre rfl hlen2 hsz hstk (lv_room (cat_le F hcat)) hd ⟨hcs.1, hcs.2⟩) h15 hA hS hl hn hls hor
theorem rcv_cell (F : Fr p s m c g A0 nL b own) {A : Nat → Nat} {H : Heap} {locs : List Loc} {μ : Nat} {v : Vl} {r : List Vl} (hz : (mOwn μ : Int) = xI xs) (hr : rcvOk (xI xs) (v :: r)) (hv : okV v) (hP : va_P g.D cls (wld g A M) H) (hS : va_S A0 s.heap H locs) : ∃ q, rv g A v = .ref q ∧ ∃ cellB : Cell, H[q]? = some cellB ∧ cellB.vm.isStatics = false ∧ s.vm.findClass (ownN (mOwn μ)) = some cellB.cls := by
  rcases v with x | x | k | ⟨k, i⟩ | t | t | u
  · exact hr.elim
  · exact hr.elim
  · obtain ⟨h1, h2⟩ := hr
    refine ⟨A k, rfl, ?_⟩
    have hk : k < 111 := hv
    rcases hs : sh k with ⟨d, ci, rs⟩
    rw [hs] at h1 h2
    dsimp only at h1 h2
    subst h1
    have hci : ci < 12 := by
      have hall : ∀ k, k < 111 → (sh k).1 = 4 → (sh k).2.1 < 12 := by decide
      have := hall k hk (by rw [hs])
      rw [hs] at this
      exact this
    have he : (wld g A M)[k]? = some (A k, .inr (ci, (List.range (ctL.getD ci []).length).map (fvl A (M k) rs ci))) := by rw [wld_get hk, ent_4 hs]
    have hcls : ∀ ci, ci < 12 → (clsR ci).1 = ownN ci := by decide +kernel
    have e1 : mOwn μ = ci := by omega
    rw [e1, ← hcls ci hci]
    exact va_recv (ctxK F) hP (cls_get ci hci) he
  · exact hr.elim
  · exact hr.elim
  · obtain ⟨h1, h2⟩ := hr
    refine ⟨gK g t, rfl, ?_⟩
    obtain ⟨cell, q1, q2, q3, -⟩ := (F.2.2.2.2.2.2.2.2.1 t h2).2.1.kept hS.2.1
    have e1 : mOwn μ = 15 := by omega
    rw [e1]
    exact ⟨cell, q1, q2, q3⟩
  · exact hr.elim
theorem s_callv (F : Fr p s m c g A0 nL b own) {d i j nest pos z : Nat} (hd : decode b pc = .ok (.invokevirtual i, 3)) (hq : mlL[j]? = some (own, i, x1 xs, nest, pos)) (hst1 : mS (x1 xs) = false) (hna : mA (x1 xs) = x2 xs) (hz : (mOwn (x1 xs) : Int) = xI xs) (hR : d + 1 ≤ R.frames ∧ 40 * d + 40 ≤ R.locals) (hcs : cells ≤ R.cells ∧ slots ≤ R.slots)
    (hE : ∀ μ as M' Q' A, E μ as M' Q' → μ < 183 → okM g M' → oks as → adr A0 A → MetU l g A0 d A μ as M' Q') (h : zstep sw E Q (XK p l e R s m args below meth c cells slots Qf g A0 sw A1 nL) (.invokevirtual z) (pc + 3) xs ls st M) : XK p l e R s m args below meth c cells slots Qf g A0 sw A1 nL pc ls st M := by
  obtain ⟨hw, hμ⟩ := ml_get hq
  dsimp only at hμ
  obtain ⟨⟨hlen, hcat, hrc, h15⟩, hEv⟩ := h
  have hrc := hrc rfl
  intro A H locs lsA hA hP hS hl hn hM hls hst
  have hmt := mt_ok hμ
  rw [mtC, if_neg (by rw [hst1]; decide)] at hmt
  simp only [Bool.and_eq_true, decide_eq_true_eq] at hmt
  obtain ⟨⟨⟨⟨⟨⟨⟨⟨wc, wi⟩, wst, wse⟩, hN⟩, hpn⟩, hde⟩, hA1⟩, hmh⟩, -⟩ := hmt
  rw [if_neg (by rw [hst1]; decide)] at hde
  have hA1 : 1 ≤ mA (x1 xs) := hA1.resolve_left (by rw [hst1]; decide)
  have hoa : oks (st.take (x2 xs)).reverse := oks_sub hst (fun v hv => List.mem_of_mem_take (List.mem_reverse.mp hv))
  have hor : oks (st.drop (x2 xs)) := oks_sub hst (fun v hv => List.mem_of_mem_drop hv)
  have hMet := hE _ _ _ _ A hEv hμ hM hoa hA.adr
  have hlr : (st.take (x2 xs)).reverse.length = x2 xs := by rw [List.length_reverse]; exact hlen
  have hstk0 : st = (st.take (x2 xs)).reverse.reverse ++ st.drop (x2 xs) := by rw [List.reverse_reverse, List.take_append_drop]
  generalize (st.take (x2 xs)).reverse = as at hrc hoa hMet hlr hstk0
  generalize hrest : st.drop (x2 xs) = rest at *
  cases as with
  | nil => exact hrc.elim
  | cons rc As =>
    obtain ⟨q, hq1, hq2⟩ := rcv_cell (μ := x1 xs) F hz hrc (oks_hd hoa) hP hS
    have hpre : PreV s H (ownN (mOwn (x1 xs))) q (PcU g A0 A (rc :: As) M) (As.map (rv g A)) := ⟨PcU_blind, hq2, fun U hU hW => ⟨by rw [List.map_cons, hq1], F.2.2.2.2.warm hW (by rw [hU]; exact hS.1) (by rw [hU]; exact hS.2.1), by rw [hU]; exact hP⟩⟩
    have hlen2 : (As.map (rv g A)).length = x2 xs - 1 := by rw [List.length_map]; simp at hlr; omega
    have hstk : st.map (rv g A) = (As.map (rv g A)).reverse ++ .ref q :: rest.map (rv g A) := by
      rw [hstk0, List.map_append, List.reverse_cons, List.map_append, List.map_reverse]
      simp [hq1]
    have hsz : lsA.size = nL := hl.1
    have hcw : (∀ w ∈ [Cond.code (mY (x1 xs)) (mB (x1 xs)) (mN (x1 xs)) (mR (x1 xs))], ∀ (a' : Array Value) (U : State), s.WarmedH U.vm → w.before a' U = true) := by
      intro w hw9 a' U hW
      rw [List.mem_singleton.mp hw9]
      exact (F.2.2.2.2.1.warm hW) _ (lw_at (cd_ok wc)) rfl a'
    have hsig : ∀ sig, parseMethodDescriptor (mY (x1 xs)).desc = some sig → x2 xs - 1 = sig.parameters.length := by
      intro sig hs
      rw [hs] at hde
      have := Option.some.inj hde
      rw [← hna]; exact this.symm
    have hroom : (rmD d).frames + 1 ≤ R.frames ∧ 8 + (mN (x1 xs) + 11) + (rmD d).locals ≤ R.locals := ⟨hR.1, by show 8 + (mN (x1 xs) + 11) + 40 * d ≤ _; omega⟩
    unfold mlW at hw
    dsimp only at hw
    by_cases hnest : nest = 0
    · rw [if_pos hnest] at hw
      have cw : CallW R s args (ownN own) (ownN (mOwn (x1 xs))) i (mY (x1 xs)) (mB (x1 xs)) (mN (x1 xs)) (mR (x1 xs)) [Cond.code (mY (x1 xs)) (mB (x1 xs)) (mN (x1 xs)) (mR (x1 xs))] (rmD d) 0 0 (x2 xs - 1) :=
        ⟨⟨rfl, rfl, hroom.1, hroom.2, hcw, List.mem_singleton.mpr rfl, F.2.2.2.2.1 _ (lw_at (cd_ok wc)) rfl args, F.2.2.2.2.1 _ (lw_at wi) rfl args, hmh, hsig, F.2.2.2.2.1 _ hw rfl args⟩, F.2.2.2.2.1 _ (lw_at wst) rfl args, F.2.2.2.2.1 _ (lw_at wse) rfl args⟩
      exact call_go (d := d) hμ (va_runV (As := As.map (rv g A)) ⟨F.1, F.2.1, F.2.2.1, F.2.2.2.1, F.2.2.2.2.1.hts args⟩ hMet cw hpre rfl hlen2 hsz hstk (lv_room (cat_le F hcat)) hd ⟨hcs.1, hcs.2⟩) h15 hA hS hl hn hls hor
    · rw [if_neg hnest] at hw
      have cw : va_CN R s args (ownN own) i (mY (x1 xs)) "ChildTrains" (mB (x1 xs)) (mN (x1 xs)) (mR (x1 xs)) [Cond.code (mY (x1 xs)) (mB (x1 xs)) (mN (x1 xs)) (mR (x1 xs))] (rmD d) 0 0 (x2 xs - 1) ∧ (Cond.instanceMethod (mY (x1 xs))).before args s = true ∧ (Cond.selects (ownN (mOwn (x1 xs))) (mY (x1 xs)) (mY (x1 xs))).before args s = true :=
        ⟨⟨⟨rfl, rfl, hroom.1, hroom.2, hcw, List.mem_singleton.mpr rfl⟩, F.2.2.2.2.1 _ (lw_at (cd_ok wc)) rfl args, F.2.2.2.2.1 _ (lw_at wi) rfl args, hmh, hsig, F.2.2.2.2.1 _ hw rfl args⟩, F.2.2.2.2.1 _ (lw_at wst) rfl args, F.2.2.2.2.1 _ (lw_at wse) rfl args⟩
      exact call_go (d := d) hμ (va_runVN (As := As.map (rv g A)) ⟨F.1, F.2.1, F.2.2.1, F.2.2.2.1, F.2.2.2.2.1.hts args⟩ hMet cw hpre rfl hlen2 hsz hstk (lv_room (cat_le F hcat)) hd ⟨hcs.1, hcs.2⟩) h15 hA hS hl hn hls hor
end OPC
