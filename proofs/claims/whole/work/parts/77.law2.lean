/-! the law's own words (the skeleton's), and its frame -/
def R_law : String := "ChildTrainsLaw"
def lw_P (b : Addr) (xs : List Int32) (args : Array Value) (s : State) : Prop := args = #[.ref b] ∧ s.IntsAt b xs ∧ xs.length ≤ 3584 ∧ (Jvm.Cond.and given_1 narrow_1).before args s = true
def lw_Q (_ : Array Value) (s : State) (o : Outcome) (t : State) : Prop := o = .returned (some (.int 1)) ∧ Framed s o t [] 600000 7302250
def lw_Z (below : List Frame) (a : Array Value) (s : State) : State → Prop := fun t => ∃ o, t.status = .running ∧ Ended t below o ∧ lw_Q a s o t
/-- the law's own end, with 1 on the stack, nothing written that was there before, its room as the claim has it -/
theorem lw_ret {p : Program} {l : Launch} {e : Env} {s : State} {m : MethodId} {below : List Frame} {meth : Method} {c : Code} {b : Nat} (hx : p.tables.exec = Jvm.exec) (hb : c.code = code) (hr : meth.sig.returnType = ret) (hlocks : meth.locks = false) {pc : Nat} {H : Heap} {ls : Array Slot} (hdg : decode code pc = .ok (.ireturn, 1)) : W p l e room_1 s m #[Value.ref b] below meth c H [] 600000 7302250 (lw_Z below #[Value.ref b] s) (F0 m pc ls [.int 1]) := by
  intro T hT X
  obtain ⟨fs, hret, hrun, hended, hW, hframe⟩ := X.leave (v := some (.int 1)) (hlocks := hlocks) (fun h => by rw [hr] at h; cases h)
  have hmeth' : T.vm.method? m = some meth := X.method'
  refine ⟨T.setFrames fs, ?_, .returned (some (.int 1)), hrun, hended, rfl, ⟨_, rfl⟩, hW, hframe⟩
  jvm_step X.here [X.here.top, hx, hb, hdg, hmeth', hr, ret, narrow_b1]
  (try refine ⟨rfl, ?_⟩); (try refine ⟨rfl, ?_⟩)
  first | (intro acts; rw [hret _ acts rfl rfl rfl]) | rw [hret _ _ rfl rfl rfl]
  exact Steps.refl _
/-- what holds at the law's entry: the machine, the code, the tables' words (any of lw_tbl by 'hts w (by decide +kernel)'), the script of L ints xs at the cell b, what the Statement gives of the start (any of its parts by flat_of_before) -/
def lw_At (p : Program) (s : State) (m : MethodId) (meth : Method) (c : Code) (b L : Nat) (xs : Nat → Int32) : Prop :=
  p.tables.exec = Jvm.exec ∧ c.code = code ∧ meth.sig.returnType = ret ∧ c.maxLocals = 4 ∧ s.vm.findClass R_law = some m.cls ∧ (∀ w ∈ lw_tbl, w.before #[Value.ref b] s = true) ∧ va_X b L xs s s.heap ∧ b < s.heap.size ∧ meth.locks = false ∧ (Jvm.Cond.and given_1 narrow_1).before #[Value.ref b] s = true

/-- a call behind which the script still stands -/
def gE (g : Gx) (d : Nat) : Er := fun μ as M Q => EE d μ as M (fun v M' => okM g M' → Q v M')
theorem gE_mono (g : Gx) (d : Nat) : erM (gE g d) := fun μ as M Q Q' h hq => EE_mono d μ as M _ _ (fun v M' hv hok => h v M' (hv hok)) hq
theorem Met_imp {l : Launch} {y : MethodName} {ws : List Cond} {rm : Room} {Pc : Array Value → State → Prop} {Qc Qc' : Array Value → State → Outcome → State → Prop} {mc ms : Nat} {free : Addr → Prop} (hq : ∀ a st o t, Qc a st o t → Qc' a st o t) (h : Met l y ws rm Pc Qc mc ms free) : Met l y ws rm Pc Qc' mc ms free := by
  intro p e ha hc hk s m args below hf happ hP hK
  obtain ⟨k, o, h1, h2, h3, h4, h5⟩ := h p e ha hc hk s m args below hf happ hP hK
  exact ⟨k, o, h1, h2, h3, hq _ _ _ _ h4, h5⟩
theorem gE_ok (l : Launch) (g : Gx) (A0 : Nat → Prop) (d : Nat) : ∀ μ as M Q A, gE g d μ as M Q → μ < 183 → okM g M → oks as → adr A0 A → MetU l g A0 d A μ as M Q := by
  intro μ as M Q A h hμ hM has hA
  refine Met_imp (fun a st o t hq => ?_) (EE_ok l g A0 d μ as M _ A h hμ hM has hA)
  unfold QcU at hq ⊢
  generalize mR μ = rt at hq ⊢
  cases rt with
  | none =>
    obtain ⟨⟨u, e1, ⟨q1, q2⟩, q3⟩, q4⟩ := hq
    exact ⟨⟨u, e1, ⟨q1 q2.1, q2⟩, q3⟩, q4⟩
  | some ty =>
    cases ty <;> (obtain ⟨⟨r, u, e1, ⟨⟨x, x1, x2, q1⟩, q2⟩, q3⟩, q4⟩ := hq; exact ⟨⟨r, u, e1, ⟨⟨x, x1, x2, q1 q2.1⟩, q2⟩, q3⟩, q4⟩)
theorem jcmp_rf (x : Int) : jcmp x x = 0 := by
  unfold jcmp
  rw [if_neg (Int.lt_irrefl x), if_pos rfl]
theorem z_callv15 {E : Er} {c : Cd} {Q : Ql} {pc nx : Nat} {xs : Ex} {ls st r : List Vl} {M : Mm} (hE : erM E) {z : Nat} {as : List Vl} (hl : lk c pc = some (.invokevirtual z, nx, xs)) (hm : x1 xs = 15) (ha : (st.take (x2 xs)).reverse = as) (hd : st.drop (x2 xs) = r) (hn : (st.take (x2 xs)).length = x2 xs) (hc : (r.map zcat).sum ≤ 8) (hls : ls.all nbk = true) (hrs : r.all nbk = true) (hr : rcvOk (xI xs) as) (h : E 15 as M (rI fun x M2 => GoG true E c Q nx ls (vI x :: r) M2)) : GoG true E c Q pc ls (st) M := z_op hE hl (⟨⟨hn, by rw [hd]; exact hc, (fun _ => by rw [ha]; exact hr), fun _ => ⟨rfl, hls, by rw [hd]; exact hrs⟩⟩, by rw [ha, hd, hm]; exact hE _ _ _ _ _ (fun v M2 ⟨x, e, p⟩ => by rw [e]; exact p) h⟩)
theorem law_ok {p : Program} {l : Launch} {e : Env} {s : State} {m : MethodId} {below : List Frame} {meth : Method} {c : Code} {b : Nat} {g : Gx} {A0 : Nat → Prop} {A1 : Nat → Nat} {cells slots d : Nat} (F : Fr p s m c g A0 4 code 18) (hret : meth.sig.returnType = ret) (hlk : meth.locks = false) (hR : d + 1 ≤ room_1.frames ∧ 40 * d + 40 ≤ room_1.locals) (hcs : cells ≤ room_1.cells ∧ slots ≤ room_1.slots) (hcs2 : cells ≤ 600000 ∧ slots ≤ 7302250) (hA0 : ∀ q, A0 q → s.heap.size ≤ q) {pc : Nat} {ls st : List Vl} {M : Mm} (hG : GoG true (gE g d) cd_L (rI fun r _ => r = 1) pc ls st M) : XK p l e room_1 s m #[Value.ref b] below meth c cells slots (lw_Z below #[Value.ref b] s) g A0 true A1 4 pc ls st M := by
  refine hG _ (fun pc ls st M' hop => ?_)
  unfold opK at hop
  split at hop
  · exact hop.elim
  · rename_i op nx xs hl
    have hrow : lwE (pc, op, nx, xs) = true := by
      have h1 := fnd_mem hl
      rw [List.getD_eq_getElem?_getD] at h1
      cases hq : cd_L[pc / 16]? with
      | none => rw [hq] at h1; exact absurd h1 List.not_mem_nil
      | some r =>
        rw [hq] at h1
        exact List.all_eq_true.mp (lw_tab r (List.mem_of_getElem? hq)) _ h1
    unfold lwE at hrow
    rcases Bool.or_eq_true_iff.mp hrow with hc | hc
    · exact chkG_ok F hR hcs (gE_ok l g A0 d) hc hop
    · have hc := Bool.and_eq_true_iff.mp hc
      have hop1 : op = .ireturn := by
        have h1 := hc.1
        unfold isRt at h1
        split at h1
        · assumption
        · cases h1
      have hdec : decode code pc = .ok (.ireturn, 1) := by
        have h1 := hc.2
        unfold isRd at h1
        split at h1
        · rename_i ins len hd
          have h2 := Bool.and_eq_true_iff.mp h1
          have h3 := h2.1
          unfold isRt at h3
          split at h3
          · have h4 := of_decide_eq_true h2.2
            rw [hd]
            subst h4
            rfl
          · cases h3
        · cases h1
      subst hop1
      have hst : ∃ v, st = [vI v] ∧ v = 1 := by
        dsimp only [zstep] at hop
        split at hop
        · rename_i v
          obtain ⟨_, x, hx, h1⟩ := hop
          refine ⟨v, rfl, ?_⟩
          have hx : v = x := Sum.inl.inj (Option.some.inj hx)
          rw [hx]; exact h1
        · exact hop.elim
      obtain ⟨v, rfl, rfl⟩ := hst
      intro A H locs lsA hA hP hS hl2 hlen hM hls hst2
      refine va_forget (fun q hq => hA0 _ (hS.2.2 q hq)) (W.widen hcs2.1 hcs2.2 ?_)
      exact lw_ret F.1 F.2.1 hret hlk hdec
