/-! RETURNS, AND THE TWO BOOKS' CHANGE OF PLACES -/
def rkd (r : Option FieldType) : Int := match r with
  | some .boolean => 1
  | some .char => 2
  | some .byte => 3
  | _ => 0
theorem nar_c {x : Int} (h : 0 ≤ x ∧ x < 65536) : narrow .char (.int (Int32.ofInt x)) = .int (Int32.ofInt x) := by
  obtain ⟨n, rfl⟩ := Int.eq_ofNat_of_zero_le h.1
  have hn : n < 65536 := by omega
  show Value.int (Int32.ofInt (n : Int)).toUInt32.toUInt16.toUInt32.toInt32 = _
  congr 1
  apply Int32.toBitVec_inj.mp
  apply BitVec.eq_of_toNat_eq
  show (((BitVec.ofInt 32 (n : Int)).setWidth 16).setWidth 32).toNat = (BitVec.ofInt 32 (n : Int)).toNat
  simp only [BitVec.toNat_setWidth, BitVec.toNat_ofInt]
  omega
theorem nar_b {x : Int} (h : -128 ≤ x ∧ x < 128) : narrow .byte (.int (Int32.ofInt x)) = .int (Int32.ofInt x) := by
  show Value.int (Int32.ofInt x).toInt8.toInt32 = _
  congr 1
  apply Int32.toInt_inj.mp
  rw [Int8.toInt_toInt32, Int32.toInt_toInt8, toI_of (by unfold inI; omega)]
  exact Int.bmod_eq_of_le (by omega) (by omega)
section OPR
variable {p : Program} {l : Launch} {e : Env} {R : Room} {s : State} {m : MethodId} {args : Array Value} {below : List Frame} {meth : Method} {c : Code} {cells slots : Nat} {Qf : State → Prop} {g : Gx} {A0 : Nat → Prop} {sw : Bool} {A1 : Nat → Nat} {nL : Nat} {b : ByteArray} {own : Nat} {E : Er} {Q : Ql} {pc nx : Nat} {xs : Ex} {ls st : List Vl} {M : Mm}
theorem okU_of {μ : Nat} {A : Nat → Nat} (hsw : sw = true → μ = 15) (hA : AOK A0 sw A1 A) (hM : okM g M) : okU g μ A1 (A, M) := by
  refine ⟨hM, ?_⟩
  rcases hA.2 with h | ⟨h1, h2⟩
  · exact Or.inl h
  · exact Or.inr ⟨hsw h1, h2⟩
theorem s_iret {μ : Nat} (F : Fr p s m c g A0 nL b own) (hμ : μ < 183) (hr : meth.sig.returnType = mR μ) (hlk : meth.locks = false) (hd : decode b pc = .ok (.ireturn, 1)) (hk : xI xs = rkd (mR μ)) (hnl : ¬ mR μ = some .long) (hnn : ¬ mR μ = none) (hsw : sw = true → μ = 15) (h : zstep sw E Q (XK p l e R s m args below meth c cells slots (MQ below (QcU g A0 μ A1 Q) args s cells slots A0) g A0 sw A1 nL) .ireturn nx xs ls st M) : XK p l e R s m args below meth c cells slots (MQ below (QcU g A0 μ A1 Q) args s cells slots A0) g A0 sw A1 nL pc ls st M := by
  dsimp only [zstep] at h
  split at h
  · rename_i v
    obtain ⟨hro, hQ⟩ := h
    intro A H locs lsA hA hP hS hl hn hM hls hst
    have hv : inI v := oks_hd hst
    have hmt := mt_ok hμ
    simp only [mtC, Bool.and_eq_true, decide_eq_true_eq] at hmt
    have hret := hmt.2
    have hqI : ∀ t : State, t.heap = H → s.WarmedH t.vm → va_Qi (fun (r : Int32) (u : Wu) => (∃ x, r = Int32.ofInt x ∧ inI x ∧ Q (some (vI x)) u.2) ∧ okU g μ A1 u) (BU g) A0 args s (.returned (some (.int (Int32.ofInt v)))) t := by
      intro t ht hW
      exact ⟨⟨Int32.ofInt v, (A, M), rfl, ⟨⟨v, rfl, hv, hQ⟩, okU_of hsw hA hM⟩, by show va_P g.D cls (wld g A M) t.heap; rw [ht]; exact hP⟩, hS.F ht⟩
    rw [hk] at hro
    have hcore : ∀ ty : FieldType, mR μ = some ty → narrow ty (.int (Int32.ofInt v)) = .int (Int32.ofInt v) → QcU g A0 μ A1 Q = va_Qi (fun (r : Int32) (u : Wu) => (∃ x, r = Int32.ofInt x ∧ inI x ∧ Q (some (vI x)) u.2) ∧ okU g μ A1 u) (BU g) A0 → W p l e R s m args below meth c H locs cells slots (MQ below (QcU g A0 μ A1 Q) args s cells slots A0) (F0 m pc lsA [.int (Int32.ofInt v)]) := by
      intro ty h1 h2 h3
      rw [h3]
      exact W.zret F.1 F.2.1 (hr.trans h1) h2 hqI (fun q hq => hS.2.2 q hq) hd
    rcases hret with q | q | q | q | q | q
    · exact absurd q hnn
    · exact hcore .int q rfl (by unfold QcU; rw [q])
    · exact absurd q hnl
    · refine hcore .boolean q ?_ (by unfold QcU; rw [q])
      rw [q] at hro
      exact (nar_z (show v = 0 ∨ v = 1 from hro)).2.1
    · refine hcore .char q ?_ (by unfold QcU; rw [q])
      rw [q] at hro
      exact nar_c (show 0 ≤ v ∧ v < 65536 from hro)
    · refine hcore .byte q ?_ (by unfold QcU; rw [q])
      rw [q] at hro
      exact nar_b (show -128 ≤ v ∧ v < 128 from hro)
  · exact h.elim
theorem s_lret {μ : Nat} (F : Fr p s m c g A0 nL b own) (hr : meth.sig.returnType = mR μ) (hlk : meth.locks = false) (hd : decode b pc = .ok (.lreturn, 1)) (hk : mR μ = some .long) (hsw : sw = true → μ = 15) (h : zstep sw E Q (XK p l e R s m args below meth c cells slots (MQ below (QcU g A0 μ A1 Q) args s cells slots A0) g A0 sw A1 nL) .lreturn nx xs ls st M) : XK p l e R s m args below meth c cells slots (MQ below (QcU g A0 μ A1 Q) args s cells slots A0) g A0 sw A1 nL pc ls st M := by
  dsimp only [zstep] at h
  split at h
  · rename_i v
    intro A H locs lsA hA hP hS hl hn hM hls hst
    have hv : inJ v := oks_hd hst
    have h3 : QcU g A0 μ A1 Q = va_Ql (fun (r : Int64) (u : Wu) => (∃ x, r = Int64.ofInt x ∧ inJ x ∧ Q (some (vL x)) u.2) ∧ okU g μ A1 u) (BU g) A0 := by unfold QcU; rw [hk]
    rw [h3]
    refine W.lret F.1 F.2.1 (hr.trans hk) (fun t ht hW => ?_) (fun q hq => hS.2.2 q hq) hd
    exact ⟨⟨Int64.ofInt v, (A, M), rfl, ⟨⟨v, rfl, hv, h⟩, okU_of hsw hA hM⟩, by show va_P g.D cls (wld g A M) t.heap; rw [ht]; exact hP⟩, hS.F ht⟩
  · exact h.elim
theorem s_vret {μ : Nat} (F : Fr p s m c g A0 nL b own) (hr : meth.sig.returnType = mR μ) (hlk : meth.locks = false) (hd : decode b pc = .ok (.return_, 1)) (hk : mR μ = none) (hsw : sw = true → μ = 15) (h : zstep sw E Q (XK p l e R s m args below meth c cells slots (MQ below (QcU g A0 μ A1 Q) args s cells slots A0) g A0 sw A1 nL) .return_ nx xs ls st M) : XK p l e R s m args below meth c cells slots (MQ below (QcU g A0 μ A1 Q) args s cells slots A0) g A0 sw A1 nL pc ls st M := by
  dsimp only [zstep] at h
  split at h
  · intro A H locs lsA hA hP hS hl hn hM hls hst
    have h3 : QcU g A0 μ A1 Q = va_Qv (fun u : Wu => Q none u.2 ∧ okU g μ A1 u) (BU g) A0 := by unfold QcU; rw [hk]
    rw [h3]
    refine W.vret F.1 F.2.1 (hr.trans hk) (fun t ht hW => ?_) (fun q hq => hS.2.2 q hq) hd
    exact ⟨⟨(A, M), rfl, ⟨h, okU_of hsw hA hM⟩, by show va_P g.D cls (wld g A M) t.heap; rw [ht]; exact hP⟩, hS.F ht⟩
  · exact h.elim
end OPR
/-! the two books change places: their cells' addresses, and what stands in them -/
theorem sgm_sh : ∀ k, k < 111 → (sh (sgm k)).1 = (sh k).1 ∧ (sh (sgm k)).2.1 = (sh k).2.1 := by decide
theorem sgm_rs : ∀ k, k < 111 → k ≠ 0 → (sh k).1 = 4 → ∀ j, j < (ctL.getD (sh k).2.1 []).length → ctk (sh k).2.1 j = 3 → sgm ((sh k).2.2.getD j 0) = (sh (sgm k)).2.2.getD j 0 := by decide +kernel
theorem ctk_lt : ∀ k, k < 111 → (sh k).1 = 4 → ∀ j, j < (ctL.getD (sh k).2.1 []).length → ctk (sh k).2.1 j < 4 := by decide +kernel
theorem sh_d : ∀ k, k < 111 → (sh k).1 = 0 ∨ (sh k).1 = 1 ∨ (sh k).1 = 2 ∨ (sh k).1 = 3 ∨ (sh k).1 = 4 := by decide
theorem sh_3 : ∀ k, k < 111 → (sh k).1 = 3 → sh (sgm k) = sh k ∧ ∀ j, j < (sh k).2.1 → sgm ((sh k).2.2.getD 0 0 + j) = (sh k).2.2.getD 0 0 + j := by decide
theorem skd_sg (k : Nat) (j : Int) : skd (sgm k) j = skd k j := by
  by_cases hk : k < 111
  · obtain ⟨h1, h2⟩ := sgm_sh k hk
    unfold skd
    rcases e1 : sh k with ⟨d, n, rs⟩
    rcases e2 : sh (sgm k) with ⟨d2, n2, rs2⟩
    rw [e1, e2] at h1 h2
    dsimp only at h1 h2
    subst h1
    subst h2
    rcases d2 with _ | _ | _ | _ | _ | d <;> rfl
  · have : sgm k = k := by unfold sgm; rw [if_neg (by omega), if_neg (by omega)]
    rw [this]
theorem okM_sw {g : Gx} {M : Mm} (h : okM g M) : okM g (mswap M) := by
  refine ⟨fun k j => ?_, ?_, ?_⟩
  · show okS (skd k j) (M (sgm k) j)
    rw [← skd_sg k j]
    exact h.1 _ _
  · show M (sgm 200) = _
    exact h.2.1
  · show M (sgm 201) 0 = _
    exact h.2.2
theorem arrV_ext {cI : ClassId} {N : Nat} {f f' : Nat → Value} (h : ∀ j, j < N → f j = f' j) : arrV cI N f = arrV cI N f' := by
  unfold arrV
  congr 1
  apply congrArg
  funext j
  exact h j.val j.isLt
theorem at_sw {g : Gx} {A : Nat → Nat} {k : Nat} {f : Int → Int} {H : Heap} (hk : k < 111) (hk0 : k ≠ 0) (h : va_at g.D cls (A (sgm k), entF g A (sgm k) f) H) : va_at g.D cls (A (sgm k), entF g (fun q => A (sgm q)) k f) H := by
  obtain ⟨s1, s2⟩ := sgm_sh k hk
  have hd := sh_d k hk
  rcases e1 : sh k with ⟨d, n, rs⟩
  rcases e2 : sh (sgm k) with ⟨d2, n2, rs2⟩
  rw [e1, e2] at s1 s2
  dsimp only at s1 s2
  subst s1
  subst s2
  rw [e1] at hd
  dsimp only at hd
  rcases hd with q | q | q | q | q
  · subst q
    rw [ent_0 e2] at h
    rw [ent_0 e1]
    exact h
  · subst q
    rw [ent_1 e2] at h
    rw [ent_1 e1]
    exact h
  · subst q
    rw [ent_2 e2] at h
    rw [ent_2 e1]
    exact h
  · subst q
    obtain ⟨t1, t2⟩ := sh_3 k hk (by rw [e1])
    rw [e1, e2] at t1
    cases t1
    rw [e1] at t2
    dsimp only at t2
    rw [ent_3 e2] at h
    rw [ent_3 e1]
    have h2 : H[A (sgm k)]? = some (vp_cell (gM g) (n2, .inr (.inr (.inr (.inr (fun j => some (A (rs.getD 0 0 + j)))))))) := h
    show H[A (sgm k)]? = some (vp_cell (gM g) (n2, .inr (.inr (.inr (.inr (fun j => some (A (sgm (rs.getD 0 0 + j)))))))))
    rw [h2, vp_cell_q, vp_cell_q]
    congr 1
    apply arrV_ext
    intro j hj
    rw [t2 j hj]
  · subst q
    have t2 := sgm_rs k hk hk0 (by rw [e1])
    have t3 := ctk_lt k hk (by rw [e1])
    rw [e1, e2] at t2
    rw [e1] at t3
    dsimp only at t2 t3
    rw [ent_4 e2] at h
    rw [ent_4 e1]
    have e9 : (List.range (ctL.getD n2 []).length).map (fvl (fun q => A (sgm q)) f rs n2) = (List.range (ctL.getD n2 []).length).map (fvl A f rs2 n2) := by
      apply List.map_congr_left
      intro j hj
      have hj := List.mem_range.mp hj
      have u2 := t2 j hj
      have u3 := t3 j hj
      unfold fvl
      rcases hc : ctk n2 j with _ | _ | _ | _ | z
      · rfl
      · rfl
      · rfl
      · show Value.ref (A (sgm (rs.getD j 0))) = .ref (A (rs2.getD j 0))
        rw [u2 hc]
      · omega
    rw [e9]
    exact h
theorem sh_00 : sh 0 = (4, 0, [1, 8, 10, 24, 30, 33, 39, 40, 47, 50, 51, 58, 67, 0]) := by decide
theorem fs0_sw {A : Nat → Nat} {f : Int → Int} : (((List.range (ctL.getD 0 []).length).map (fvl A f [1, 8, 10, 24, 30, 33, 39, 40, 47, 50, 51, 58, 67, 0] 0)).set 11 (.ref (A 67))).set 12 (.ref (A 58)) = (List.range (ctL.getD 0 []).length).map (fvl (fun q => A (sgm q)) f [1, 8, 10, 24, 30, 33, 39, 40, 47, 50, 51, 58, 67, 0] 0) := rfl
theorem wld_sw {g : Gx} {A : Nat → Nat} {M : Mm} {H : Heap} (h : va_P g.D cls (((wld g A M).set 0 (A 0, .inr (0, ((List.range (ctL.getD 0 []).length).map (fvl A (M 0) [1, 8, 10, 24, 30, 33, 39, 40, 47, 50, 51, 58, 67, 0] 0)).set 11 (.ref (A 67))))).set 0 (A 0, .inr (0, (((List.range (ctL.getD 0 []).length).map (fvl A (M 0) [1, 8, 10, 24, 30, 33, 39, 40, 47, 50, 51, 58, 67, 0] 0)).set 11 (.ref (A 67))).set 12 (.ref (A 58))))) H) : va_P g.D cls (wld g (fun q => A (sgm q)) (mswap M)) H := by
  intro k q hq
  have hk : k < 111 := by
    have := (List.getElem?_eq_some_iff.mp hq).1
    simpa [wld] using this
  rw [wld_get hk] at hq
  cases hq
  by_cases hk0 : k = 0
  · subst hk0
    have h1 := h 0 _ (List.getElem?_set_self (by simp [wld]))
    rw [fs0_sw] at h1
    rw [ent_4 sh_00]
    exact h1
  · have hs0 : sgm k ≠ 0 := by
      intro e
      have := sgm_sgm k
      rw [e] at this
      exact hk0 this.symm
    have h1 : va_at g.D cls (A (sgm k), entF g A (sgm k) (M (sgm k))) H := by
      refine h (sgm k) _ ?_
      rw [List.getElem?_set_ne (Ne.symm hs0), List.getElem?_set_ne (Ne.symm hs0), wld_get (sgm_lt hk)]
    exact at_sw hk hk0 h1
section OPW
variable {p : Program} {l : Launch} {e : Env} {R : Room} {s : State} {m : MethodId} {args : Array Value} {below : List Frame} {meth : Method} {c : Code} {cells slots : Nat} {Qf : State → Prop} {g : Gx} {A0 : Nat → Prop} {sw : Bool} {A1 : Nat → Nat} {nL : Nat} {b : ByteArray} {own : Nat} {E : Er} {Q : Ql} {pc nx : Nat} {xs : Ex} {ls st : List Vl} {M : Mm}
theorem s_swap {i1 i2 pos1 pos2 : Nat} (F : Fr p s m c g A0 nL b own) (d0 : decode b pc = .ok (.aload_n 0, 1)) (d1 : decode b (pc + 1) = .ok (.getfield i1, 3)) (d2 : decode b (pc + 4) = .ok (.astore_n 2, 1)) (d3 : decode b (pc + 5) = .ok (.aload_n 0, 1)) (d4 : decode b (pc + 6) = .ok (.aload_n 0, 1)) (d5 : decode b (pc + 7) = .ok (.getfield i2, 3)) (d6 : decode b (pc + 10) = .ok (.putfield i1, 3)) (d7 : decode b (pc + 13) = .ok (.aload_n 0, 1)) (d8 : decode b (pc + 14) = .ok (.aload_n 2, 1)) (d9 : decode b (pc + 15) = .ok (.putfield i2, 3))
    (w1 : flW (own, i1, 0, 11, 0, pos1) ∈ lw_tbl) (w2 : flW (own, i2, 0, 12, 0, pos2) ∈ lw_tbl) (h : zstep sw E Q (XK p l e R s m args below meth c cells slots Qf g A0 sw A1 nL) .swap (pc + 18) xs ls st M) : XK p l e R s m args below meth c cells slots Qf g A0 sw A1 nL pc ls st M := by
  dsimp only [zstep] at h
  split at h
  · rename_i l0 l1 l2
    obtain ⟨⟨hs, rfl, h1, h1a, h1c, rfl⟩, h⟩ := h
    subst hs
    intro A H locs lsA hA hP hS hl hn hM hls hst
    have hn3 : nL = 3 := hn.symm
    have r0 : lsA[0]? = some (.val (.ref (A 0))) := lv_of hl (i := 0) (v := vR 0) rfl rfl
    have hf0 : ∀ sl, sl < (clsR 0).2.2 → ((clsR 0).2.1 sl).1 = (clsR 0).1 := fun sl hsl => (cls_kd 0 (by decide) sl hsl).1
    refine lv_aload_n F.1 F.2.1 d0 rfl r0 ?_
    refine gt_fld F d1 (k := 0) (ci := 0) (sl := 11) (by decide) sh_00 (by decide) (by decide) w1 hP ?_
    refine lv_astore_n F.1 F.2.1 d2 rfl hl (by omega) rfl (fun ls2 hl2 => ?_)
    have hl2 : lv_has ls2 nL (prs g A [vR 0, l1, vR 58]) := lv_st1 (ls := [vR 0, l1, l2]) (i := 2) (v := vR 58) (gxC F) (by rcases l1 with x | x | k | x | x | x | x <;> first | rfl | (exact absurd h1c (by show ¬ (2 = 1); decide))) rfl hl2
    have r0 : ls2[0]? = some (.val (.ref (A 0))) := lv_of hl2 (i := 0) (v := vR 0) rfl rfl
    have r2 : ls2[2]? = some (.val (.ref (A 58))) := lv_of hl2 (i := 2) (v := vR 58) rfl rfl
    refine lv_aload_n F.1 F.2.1 d3 rfl r0 ?_
    refine lv_aload_n F.1 F.2.1 d4 rfl r0 ?_
    refine gt_fld F d5 (k := 0) (ci := 0) (sl := 12) (by decide) sh_00 (by decide) (by decide) w2 hP ?_
    have w1 : Cond.fieldLink (ownN own) i1 (clsR 0).1 ((clsR 0).2.1 11).2.1 ((clsR 0).2.1 11).2.2.1 ∈ lw_tbl := w1
    have w2 : Cond.fieldLink (ownN own) i2 (clsR 0).1 ((clsR 0).2.1 12).2.1 ((clsR 0).2.1 12).2.2.1 ∈ lw_tbl := w2
    have he : (wld g A M)[0]? = some (A 0, .inr (0, (List.range (ctL.getD 0 []).length).map (fvl A (M 0) [1, 8, 10, 24, 30, 33, 39, 40, 47, 50, 51, 58, 67, 0] 0))) := by rw [wld_get (by decide), ent_4 sh_00]
    refine va_put (T := (clsR 0).2.1) (C := (clsR 0).1) (N := (clsR 0).2.2) (v := .ref (A 67)) (ty := .object "ChildTrains$OrderBook") F.1 F.2.1 (F.2.2.2.2.1.hts args) (cls_ws 0 (by decide)) (tyR 0) (cls_ty 0 (by decide)) (cls_nm 0 (by decide)) F.2.2.2.1 (ctxK F) hP (wld_D hA.adr) hS 0 he (cls_get 0 (by decide)) 11 (by decide) (F.2.2.2.2.1 _ w1 rfl args) (by rw [hf0 11 (by decide)]; exact fun _ h9 => h9) (by decide) (by decide +kernel) rfl rfl (by simp [ctL]) d6 (fun H1 locs1 hP1 hD1 hS1 => ?_)
    refine lv_aload_n F.1 F.2.1 d7 rfl r0 ?_
    refine lv_aload_n F.1 F.2.1 d8 rfl r2 ?_
    refine va_put (T := (clsR 0).2.1) (C := (clsR 0).1) (N := (clsR 0).2.2) (v := .ref (A 58)) (ty := .object "ChildTrains$OrderBook") F.1 F.2.1 (F.2.2.2.2.1.hts args) (cls_ws 0 (by decide)) (tyR 0) (cls_ty 0 (by decide)) (cls_nm 0 (by decide)) F.2.2.2.1 (ctxK F) hP1 hD1 hS1 0 (List.getElem?_set_self (by simp [wld])) (cls_get 0 (by decide)) 12 (by decide) (F.2.2.2.2.1 _ w2 rfl args) (by rw [hf0 12 (by decide)]; exact fun _ h9 => h9) (by decide) (by decide +kernel) rfl rfl (by simp [ctL]) d9 (fun H2 locs2 hP2 hD2 hS2 => ?_)
    have hl1 : okV l1 := hls l1 (by simp)
    have e1 : prs g (fun q => A (sgm q)) [vR 0, l1, vR 67] = prs g A [vR 0, l1, vR 58] := by
      have e2 := nbk_rv (g := g) (A := A) h1 hl1
      simp only [prs, prsF, e2]
      rfl
    exact h (fun q => A (sgm q)) H2 locs2 ls2 hA.swp (wld_sw hP2) hS2 (by rw [e1]; exact hl2) hn (okM_sw hM) (oks_cons (v := vR 0) (by show 0 < 111; omega) (oks_cons hl1 (oks_cons (v := vR 67) (by show 67 < 111; omega) (fun _ q => by cases q)))) (fun _ q => by cases q)
  · exact h.elim
end OPW
