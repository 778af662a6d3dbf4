/-! STEPS OF THE CLEAN MACHINE IN PLAIN INTEGERS -/
/-- fewer known ints -/
def wkL : List Vl → List Vl → Prop
  | [], [] => True
  | a :: r, b :: r' => (a = b ∨ (a = vU ∧ ∃ x, b = vI x)) ∧ wkL r r'
  | _, _ => False
theorem wkL.rf : ∀ l : List Vl, wkL l l
  | [] => trivial
  | _ :: r => ⟨Or.inl rfl, wkL.rf r⟩
theorem wk_len : ∀ {l l' : List Vl}, wkL l l' → l.length = l'.length
  | [], [], _ => rfl
  | _ :: _, _ :: _, h => by simp [wk_len h.2]
  | [], _ :: _, h => h.elim
  | _ :: _, [], h => h.elim
theorem wk_get : ∀ {l l' : List Vl} {i : Nat} {v : Vl}, wkL l l' → l.getD i vU = v → isU v = false → l'.getD i vU = v
  | [], [], _, _, _, h, _ => h
  | a :: r, b :: r', i, v, hw, h, hu => by
    cases i with
    | zero =>
      rcases hw.1 with e | ⟨e, x, e2⟩
      · subst e; exact h
      · subst e
        have h2 : vU = v := h
        subst h2
        cases hu
    | succ i => exact wk_get (l := r) (l' := r') (i := i) hw.2 h hu
  | [], _ :: _, _, _, h, _, _ => h.elim
  | _ :: _, [], _, _, h, _, _ => h.elim
theorem wk_set : ∀ {l l' : List Vl} {i : Nat} {v : Vl}, wkL l l' → wkL (l.set i v) (l'.set i v)
  | [], [], _, _, _ => trivial
  | a :: r, b :: r', i, v, hw => by
    cases i with
    | zero => exact ⟨Or.inl rfl, hw.2⟩
    | succ i => exact ⟨hw.1, wk_set hw.2⟩
  | [], _ :: _, _, _, h => h.elim
  | _ :: _, [], _, _, h => h.elim
theorem wk_noL {l l' : List Vl} {i : Nat} (hw : wkL l l') (h : noL l i = true) : noL l' i = true := by
  cases i with
  | zero => rfl
  | succ j =>
    have key : ∀ {l l' : List Vl} {j : Nat}, wkL l l' → l'.getD j vU = l.getD j vU ∨ ∃ x, l'.getD j vU = vI x := by
      intro l
      induction l with
      | nil =>
        intro l' j hw
        cases l' with
        | nil => exact Or.inl rfl
        | cons _ _ => exact hw.elim
      | cons a r ih =>
        intro l' j hw
        cases l' with
        | nil => exact hw.elim
        | cons b r' =>
          cases j with
          | zero =>
            rcases hw.1 with e | ⟨e, x, e2⟩
            · exact Or.inl e.symm
            · exact Or.inr ⟨x, e2⟩
          | succ j => exact ih hw.2
    rcases key (j := j) hw with e | ⟨x, e⟩
    · unfold noL at h ⊢
      simp only [e]
      exact h
    · unfold noL
      simp only [e]
theorem wk_nbk : ∀ {l l' : List Vl}, wkL l l' → l.all nbk = true → l'.all nbk = true
  | [], [], _, _ => rfl
  | a :: r, b :: r', hw, h => by
    simp only [List.all_cons, Bool.and_eq_true] at h ⊢
    refine ⟨?_, wk_nbk hw.2 h.2⟩
    rcases hw.1 with e | ⟨e, x, e2⟩
    · rw [← e]; exact h.1
    · rw [e2]; rfl
  | [], _ :: _, h, _ => h.elim
  | _ :: _, [], h, _ => h.elim
theorem zstep_wk {sw : Bool} {E : Er} {Q : Ql} {K K' : Kt} {op : Instr} {nx : Nat} {xs : Ex} {ls ls' st : List Vl} {M : Mm} (hE : erM E) (hw : wkL ls ls') (h : ∀ pc l l' st M, wkL l l' → K pc l st M → K' pc l' st M) :
    zstep sw E Q K op nx xs ls st M → zstep sw E Q K' op nx xs ls' st M := by
  have h0 : ∀ pc st M, K pc ls st M → K' pc ls' st M := fun pc st M => h pc ls ls' st M hw
  have hc : ∀ vr, callK vr sw E K nx xs ls st M → callK vr sw E K' nx xs ls' st M := fun vr q => ⟨⟨q.1.1, q.1.2.1, q.1.2.2.1, fun e => ⟨(q.1.2.2.2 e).1, wk_nbk hw (q.1.2.2.2 e).2.1, (q.1.2.2.2 e).2.2⟩⟩, hE _ _ _ _ _ (fun v M' => h0 _ _ _) q.2⟩
  cases op <;> first
    | exact fun q => q
    | exact h0 _ _ _
    | exact hc _
    | exact fun q => ⟨q.1, h0 _ _ _ q.2⟩
    | (dsimp only [zstep]; split <;> first
        | exact fun q => q
        | exact h0 _ _ _
        | exact fun q => ⟨q.1, h0 _ _ _ q.2⟩
        | exact fun q => ⟨q.1, q.2.1, h0 _ _ _ q.2.2⟩
        | exact fun q => ⟨fun e => h0 _ _ _ (q.1 e), fun e => h0 _ _ _ (q.2 e)⟩
        | exact fun q => ⟨swK_mono (fun t => h0 _ _ _) q.1, fun e => h0 _ _ _ (q.2 e)⟩
        | exact ald_mono (fun v => h0 _ _ _)
        | exact ast_mono (fun v => h0 _ _ _)
        | exact fun q => ⟨q.1, ast_mono (fun v => h0 _ _ _) q.2⟩
        | exact gfd_mono (fun v => h0 _ _ _)
        | exact pfd_mono (fun v => h0 _ _ _)
        | (split <;> first | exact h0 _ _ _ | exact fun q => ⟨q.1, h0 _ _ _ q.2⟩)
        | exact fun q => ⟨⟨wk_noL hw q.1.1, by rw [← wk_len hw]; exact q.1.2⟩, h _ _ _ _ _ (wk_set hw) q.2⟩
        | exact fun q => ⟨⟨wk_noL hw q.1.1, by rw [← wk_len hw]; exact q.1.2⟩, h _ _ _ _ _ (wk_set (wk_set hw)) q.2⟩
        | (rename_i hv; intro q; rw [wk_get hw hv rfl]; exact h0 _ _ _ q)
        | (rename_i hv; intro q; rw [wk_get hw hv rfl]; exact ⟨wk_noL hw q.1, h _ _ _ _ _ (wk_set hw) q.2⟩)
        | exact fun q => q.elim)
    | (rename_i i; intro q; dsimp only [zstep] at q ⊢; have hu : isU (ls.getD i vU) = false := (by have q1 := q.1; revert q1; rcases ls.getD i vU with x | x | k | x | t | t | u <;> intro q1 <;> first | rfl | cases q1); rw [wk_get hw rfl hu]; exact ⟨q.1, h0 _ _ _ q.2⟩)
    | (intro q; dsimp only [zstep] at q ⊢; split at q
       · rename_i l0 l1 l2
         match ls', hw with
         | [m0, m1, m2], hw =>
           obtain ⟨⟨q1, q2, q3, q4, q5, q6⟩, q7⟩ := q
           obtain ⟨w0, w1, -, -⟩ := hw
           subst q2
           have e0 : m0 = vR 0 := by rcases w0 with e | ⟨e, -⟩; exact e.symm; cases e
           subst e0
           rcases w1 with e | ⟨e, x, e2⟩
           · subst e
             exact ⟨⟨q1, rfl, q3, q4, q5, q6⟩, h _ _ _ _ _ (wkL.rf _) q7⟩
           · subst e e2
             exact ⟨⟨q1, rfl, rfl, rfl, rfl, q6⟩, h _ _ _ _ _ (show wkL [vR 0, vU, vR 67] [vR 0, vI x, vR 67] from ⟨Or.inl rfl, Or.inr ⟨rfl, x, rfl⟩, Or.inl rfl, trivial⟩) q7⟩
       · exact q.elim)
theorem GoG.weak {sw : Bool} {E : Er} {c : Cd} {Q : Ql} {pc : Nat} {ls ls' st : List Vl} {M : Mm} (hE : erM E) (hw : wkL ls ls') (h : GoG sw E c Q pc ls st M) : GoG sw E c Q pc ls' st M := by
  refine h (fun pc ls st M => ∀ ls', wkL ls ls' → GoG sw E c Q pc ls' st M) ?_ ls' hw
  intro pc ls st M hop ls' hw
  refine GoG.step hE ?_
  unfold opK at hop ⊢
  split
  · rename_i hl; rw [hl] at hop; exact hop
  · rename_i op nx xs hl
    rw [hl] at hop
    exact zstep_wk hE hw (fun pc l l' st M hw2 q => q l' hw2) hop
/-! answers -/
def rI (P : Int → Mm → Prop) : Ql := fun v M => ∃ x, v = some (vI x) ∧ P x M
def rL (P : Int → Mm → Prop) : Ql := fun v M => ∃ x, v = some (vL x) ∧ P x M
def rV (P : Mm → Prop) : Ql := fun v M => v = none ∧ P M
theorem rI_mono {P P' : Int → Mm → Prop} (h : ∀ x M, P x M → P' x M) : ∀ v M, rI P v M → rI P' v M := fun _ _ ⟨x, e, p⟩ => ⟨x, e, h x _ p⟩
theorem rL_mono {P P' : Int → Mm → Prop} (h : ∀ x M, P x M → P' x M) : ∀ v M, rL P v M → rL P' v M := fun _ _ ⟨x, e, p⟩ => ⟨x, e, h x _ p⟩
theorem rV_mono {P P' : Mm → Prop} (h : ∀ M, P M → P' M) : ∀ v M, rV P v M → rV P' v M := fun _ _ ⟨e, p⟩ => ⟨e, h _ p⟩
section ZL
variable {sw : Bool} {E : Er} {c : Cd} {Q : Ql} {pc nx : Nat} {xs : Ex} {ls st r : List Vl} {M : Mm}
theorem z_op (hE : erM E) {op : Instr} (hl : lk c pc = some (op, nx, xs)) (h : zstep sw E Q (GoG sw E c Q) op nx xs ls st M) : GoG sw E c Q pc ls st M :=
  GoG.step hE (by unfold opK; rw [hl]; exact h)
theorem z_iconst (hE : erM E) {n : Int} (hl : lk c pc = some (.iconst n, nx, xs)) (h : GoG sw E c Q nx ls (vI n :: st) M) : GoG sw E c Q pc ls (st) M := z_op hE hl (h)
theorem z_lconst (hE : erM E) {j : Fin 2} (hl : lk c pc = some (.lconst j, nx, xs)) (h : GoG sw E c Q nx ls (vL (xI xs) :: st) M) : GoG sw E c Q pc ls (st) M := z_op hE hl (h)
theorem z_iload (hE : erM E) {i : Nat} {v : Int} (hl : lk c pc = some (.iload i, nx, xs)) (hv : ls.getD i vU = vI v) (h : GoG sw E c Q nx ls (vI v :: st) M) : GoG sw E c Q pc ls (st) M := z_op hE hl (by dsimp only [zstep]; rw [hv]; exact h)
theorem z_lload (hE : erM E) {i : Nat} {v : Int} (hl : lk c pc = some (.lload i, nx, xs)) (hv : ls.getD i vU = vL v) (h : GoG sw E c Q nx ls (vL v :: st) M) : GoG sw E c Q pc ls (st) M := z_op hE hl (by dsimp only [zstep]; rw [hv]; exact h)
theorem z_aload (hE : erM E) {i : Nat} {v : Vl} (hl : lk c pc = some (.aload i, nx, xs)) (hv : ls.getD i vU = v) (ha : isA v = true) (h : GoG sw E c Q nx ls (v :: st) M) : GoG sw E c Q pc ls (st) M := z_op hE hl (by dsimp only [zstep]; rw [hv]; exact ⟨ha, h⟩)
theorem z_istore (hE : erM E) {i : Nat} {v : Int} (hl : lk c pc = some (.istore i, nx, xs)) (hn : noL ls i = true) (hi : Nat.blt i ls.length = true) (h : GoG sw E c Q nx (ls.set i (vI v)) (r) M) : GoG sw E c Q pc ls (vI v :: r) M := z_op hE hl (⟨⟨hn, Nat.le_of_ble_eq_true hi⟩, h⟩)
theorem z_lstore (hE : erM E) {i : Nat} {v : Int} (hl : lk c pc = some (.lstore i, nx, xs)) (hn : noL ls i = true) (hi : Nat.blt (i + 1) ls.length = true) (h : GoG sw E c Q nx ((ls.set i (vL v)).set (i + 1) vU) (r) M) : GoG sw E c Q pc ls (vL v :: r) M := z_op hE hl (⟨⟨hn, Nat.le_of_ble_eq_true hi⟩, h⟩)
theorem z_astore (hE : erM E) {i k : Nat} (hl : lk c pc = some (.astore i, nx, xs)) (hn : noL ls i = true) (hi : Nat.blt i ls.length = true) (h : GoG sw E c Q nx (ls.set i (vR k)) (r) M) : GoG sw E c Q pc ls (vR k :: r) M := z_op hE hl (⟨⟨hn, Nat.le_of_ble_eq_true hi⟩, h⟩)
theorem z_iinc (hE : erM E) {i : Nat} {n v : Int} (hl : lk c pc = some (.iinc i n, nx, xs)) (hv : ls.getD i vU = vI v) (hn : noL ls i = true) (hb : inI (v + n)) (h : GoG sw E c Q nx (ls.set i (vI (v + n))) (st) M) : GoG sw E c Q pc ls (st) M := z_op hE hl (by dsimp only [zstep]; rw [hv]; refine ⟨hn, ?_⟩; rw [wr_id hb]; exact h)
theorem z_iadd (hE : erM E) {x y : Int} (hl : lk c pc = some (.iadd, nx, xs)) (hb : inI (x + y)) (h : GoG sw E c Q nx ls (vI (x + y) :: r) M) : GoG sw E c Q pc ls (vI y :: vI x :: r) M := z_op hE hl (by dsimp only [zstep]; rw [wr_id hb]; exact h)
theorem z_isub (hE : erM E) {x y : Int} (hl : lk c pc = some (.isub, nx, xs)) (hb : inI (x - y)) (h : GoG sw E c Q nx ls (vI (x - y) :: r) M) : GoG sw E c Q pc ls (vI y :: vI x :: r) M := z_op hE hl (by dsimp only [zstep]; rw [wr_id hb]; exact h)
theorem z_imul (hE : erM E) {x y : Int} (hl : lk c pc = some (.imul, nx, xs)) (hb : inI (x * y)) (h : GoG sw E c Q nx ls (vI (x * y) :: r) M) : GoG sw E c Q pc ls (vI y :: vI x :: r) M := z_op hE hl (by dsimp only [zstep]; rw [wr_id hb]; exact h)
theorem z_ineg (hE : erM E) {x : Int} (hl : lk c pc = some (.ineg, nx, xs)) (hb : inI (-x)) (h : GoG sw E c Q nx ls (vI (-x) :: r) M) : GoG sw E c Q pc ls (vI x :: r) M := z_op hE hl (by dsimp only [zstep]; rw [wr_id hb]; exact h)
theorem tdiv_p {x y : Int} (h : 0 ≤ x ∧ x ≤ 2147483647 ∧ 0 < y) : wr (x.tdiv y) = x / y := by
  rw [Int.tdiv_eq_ediv_of_nonneg h.1]
  apply wr_id
  have h1 := Int.ediv_nonneg h.1 (Int.le_of_lt h.2.2)
  have h2 := Int.ediv_le_self y h.1
  unfold inI
  omega
theorem tmod_p {x y : Int} (h : 0 ≤ x ∧ x ≤ 2147483647 ∧ 0 < y) : wr (x.tmod y) = x % y := by
  rw [Int.tmod_eq_emod_of_nonneg h.1]
  apply wr_id
  have h1 := Int.emod_nonneg x (Int.ne_of_gt h.2.2)
  have h4 : 0 ≤ y * (x / y) := Int.mul_nonneg (Int.le_of_lt h.2.2) (Int.ediv_nonneg h.1 (Int.le_of_lt h.2.2))
  have h5 := Int.emod_def x y
  unfold inI
  omega
theorem z_idiv (hE : erM E) {x y : Int} (hl : lk c pc = some (.idiv, nx, xs)) (hb : 0 ≤ x ∧ x ≤ 2147483647 ∧ 0 < y) (h : GoG sw E c Q nx ls (vI (x / y) :: r) M) : GoG sw E c Q pc ls (vI y :: vI x :: r) M := z_op hE hl (⟨Int.ne_of_gt hb.2.2, by rw [tdiv_p hb]; exact h⟩)
theorem z_irem (hE : erM E) {x y : Int} (hl : lk c pc = some (.irem, nx, xs)) (hb : 0 ≤ x ∧ x ≤ 2147483647 ∧ 0 < y) (h : GoG sw E c Q nx ls (vI (x % y) :: r) M) : GoG sw E c Q pc ls (vI y :: vI x :: r) M := z_op hE hl (⟨Int.ne_of_gt hb.2.2, by rw [tmod_p hb]; exact h⟩)
theorem z_iand (hE : erM E) {x y : Int} (hl : lk c pc = some (.iand, nx, xs)) (h : GoG sw E c Q nx ls (vI (zand x y) :: r) M) : GoG sw E c Q pc ls (vI y :: vI x :: r) M := z_op hE hl (h)
theorem z_ior (hE : erM E) {x y : Int} (hl : lk c pc = some (.ior, nx, xs)) (h : GoG sw E c Q nx ls (vI (zor x y) :: r) M) : GoG sw E c Q pc ls (vI y :: vI x :: r) M := z_op hE hl (h)
theorem z_ixor (hE : erM E) {x y : Int} (hl : lk c pc = some (.ixor, nx, xs)) (h : GoG sw E c Q nx ls (vI (zxor x y) :: r) M) : GoG sw E c Q pc ls (vI y :: vI x :: r) M := z_op hE hl (h)
theorem z_ishl (hE : erM E) {x y : Int} (hl : lk c pc = some (.ishl, nx, xs)) (h : GoG sw E c Q nx ls (vI (zshl x y) :: r) M) : GoG sw E c Q pc ls (vI y :: vI x :: r) M := z_op hE hl (h)
theorem z_ishr (hE : erM E) {x y : Int} (hl : lk c pc = some (.ishr, nx, xs)) (h : GoG sw E c Q nx ls (vI (zshr x y) :: r) M) : GoG sw E c Q pc ls (vI y :: vI x :: r) M := z_op hE hl (h)
theorem z_iushr (hE : erM E) {x y : Int} (hl : lk c pc = some (.iushr, nx, xs)) (h : GoG sw E c Q nx ls (vI (zushr x y) :: r) M) : GoG sw E c Q pc ls (vI y :: vI x :: r) M := z_op hE hl (h)
theorem z_i2c (hE : erM E) {x : Int} (hl : lk c pc = some (.i2c, nx, xs)) (h : GoG sw E c Q nx ls (vI (zi2c x) :: r) M) : GoG sw E c Q pc ls (vI x :: r) M := z_op hE hl (h)
theorem z_i2l (hE : erM E) {x : Int} (hl : lk c pc = some (.i2l, nx, xs)) (h : GoG sw E c Q nx ls (vL x :: r) M) : GoG sw E c Q pc ls (vI x :: r) M := z_op hE hl (h)
theorem z_l2i (hE : erM E) {x : Int} (hl : lk c pc = some (.l2i, nx, xs)) (h : GoG sw E c Q nx ls (vI (wr x) :: r) M) : GoG sw E c Q pc ls (vL x :: r) M := z_op hE hl (h)
theorem z_ladd (hE : erM E) {x y : Int} (hl : lk c pc = some (.ladd, nx, xs)) (hb : inJ (x + y)) (h : GoG sw E c Q nx ls (vL (x + y) :: r) M) : GoG sw E c Q pc ls (vL y :: vL x :: r) M := z_op hE hl (by dsimp only [zstep]; rw [wL_id hb]; exact h)
theorem z_land (hE : erM E) {x y : Int} (hl : lk c pc = some (.land, nx, xs)) (h : GoG sw E c Q nx ls (vL (jand x y) :: r) M) : GoG sw E c Q pc ls (vL y :: vL x :: r) M := z_op hE hl (h)
theorem z_lor (hE : erM E) {x y : Int} (hl : lk c pc = some (.lor, nx, xs)) (h : GoG sw E c Q nx ls (vL (jor x y) :: r) M) : GoG sw E c Q pc ls (vL y :: vL x :: r) M := z_op hE hl (h)
theorem z_lshl (hE : erM E) {x y : Int} (hl : lk c pc = some (.lshl, nx, xs)) (h : GoG sw E c Q nx ls (vL (jshl x y) :: r) M) : GoG sw E c Q pc ls (vI y :: vL x :: r) M := z_op hE hl (h)
theorem z_lshr (hE : erM E) {x y : Int} (hl : lk c pc = some (.lshr, nx, xs)) (h : GoG sw E c Q nx ls (vL (jshr x y) :: r) M) : GoG sw E c Q pc ls (vI y :: vL x :: r) M := z_op hE hl (h)
theorem z_lushr (hE : erM E) {x y : Int} (hl : lk c pc = some (.lushr, nx, xs)) (h : GoG sw E c Q nx ls (vL (jushr x y) :: r) M) : GoG sw E c Q pc ls (vI y :: vL x :: r) M := z_op hE hl (h)
theorem z_lcmp (hE : erM E) {x y : Int} (hl : lk c pc = some (.lcmp, nx, xs)) (h : GoG sw E c Q nx ls (vI (jcmp x y) :: r) M) : GoG sw E c Q pc ls (vL y :: vL x :: r) M := z_op hE hl (h)
theorem z_dup (hE : erM E) {v : Vl} (hl : lk c pc = some (.dup, nx, xs)) (hv : zcat v = 1) (h : GoG sw E c Q nx ls (v :: v :: r) M) : GoG sw E c Q pc ls (v :: r) M := z_op hE hl (⟨hv, h⟩)
theorem z_dup2 (hE : erM E) {v v2 : Vl} (hl : lk c pc = some (.dup2, nx, xs)) (hv : zcat v = 1) (hw : zcat v2 = 1) (h : GoG sw E c Q nx ls (v :: v2 :: v :: v2 :: r) M) : GoG sw E c Q pc ls (v :: v2 :: r) M := z_op hE hl (⟨⟨hv, hw⟩, h⟩)
theorem z_pop (hE : erM E) {v : Vl} (hl : lk c pc = some (.pop, nx, xs)) (hv : zcat v = 1) (h : GoG sw E c Q nx ls (r) M) : GoG sw E c Q pc ls (v :: r) M := z_op hE hl (⟨hv, h⟩)
theorem z_icmp_eq (hE : erM E) {x y z : Int}  (hl : lk c pc = some (.if_icmp .eq z, nx, xs)) (h : (x = y → GoG sw E c Q (x1 xs) ls r M) ∧ (¬ x = y → GoG sw E c Q nx ls r M)) : GoG sw E c Q pc ls (vI y :: vI x :: r) M := z_op hE hl (⟨fun q => h.1 q, fun q => h.2 q⟩)
theorem z_if_eq (hE : erM E) {x z : Int}  (hl : lk c pc = some (.ifCond .eq z, nx, xs)) (h : (x = 0 → GoG sw E c Q (x1 xs) ls r M) ∧ (¬ x = 0 → GoG sw E c Q nx ls r M)) : GoG sw E c Q pc ls (vI x :: r) M := z_op hE hl (⟨fun q => h.1 q, fun q => h.2 q⟩)
theorem z_icmp_ne (hE : erM E) {x y z : Int}  (hl : lk c pc = some (.if_icmp .ne z, nx, xs)) (h : (¬ x = y → GoG sw E c Q (x1 xs) ls r M) ∧ (x = y → GoG sw E c Q nx ls r M)) : GoG sw E c Q pc ls (vI y :: vI x :: r) M := z_op hE hl (⟨fun q => h.1 q, fun q => h.2 (Classical.not_not.mp q)⟩)
theorem z_if_ne (hE : erM E) {x z : Int}  (hl : lk c pc = some (.ifCond .ne z, nx, xs)) (h : (¬ x = 0 → GoG sw E c Q (x1 xs) ls r M) ∧ (x = 0 → GoG sw E c Q nx ls r M)) : GoG sw E c Q pc ls (vI x :: r) M := z_op hE hl (⟨fun q => h.1 q, fun q => h.2 (Classical.not_not.mp q)⟩)
theorem z_icmp_lt (hE : erM E) {x y z : Int}  (hl : lk c pc = some (.if_icmp .lt z, nx, xs)) (h : (x < y → GoG sw E c Q (x1 xs) ls r M) ∧ (y ≤ x → GoG sw E c Q nx ls r M)) : GoG sw E c Q pc ls (vI y :: vI x :: r) M := z_op hE hl (⟨fun q => h.1 q, fun q => h.2 (Int.not_lt.mp q)⟩)
theorem z_if_lt (hE : erM E) {x z : Int}  (hl : lk c pc = some (.ifCond .lt z, nx, xs)) (h : (x < 0 → GoG sw E c Q (x1 xs) ls r M) ∧ (0 ≤ x → GoG sw E c Q nx ls r M)) : GoG sw E c Q pc ls (vI x :: r) M := z_op hE hl (⟨fun q => h.1 q, fun q => h.2 (Int.not_lt.mp q)⟩)
theorem z_icmp_ge (hE : erM E) {x y z : Int}  (hl : lk c pc = some (.if_icmp .ge z, nx, xs)) (h : (y ≤ x → GoG sw E c Q (x1 xs) ls r M) ∧ (x < y → GoG sw E c Q nx ls r M)) : GoG sw E c Q pc ls (vI y :: vI x :: r) M := z_op hE hl (⟨fun q => h.1 q, fun q => h.2 (Int.not_le.mp q)⟩)
theorem z_if_ge (hE : erM E) {x z : Int}  (hl : lk c pc = some (.ifCond .ge z, nx, xs)) (h : (0 ≤ x → GoG sw E c Q (x1 xs) ls r M) ∧ (x < 0 → GoG sw E c Q nx ls r M)) : GoG sw E c Q pc ls (vI x :: r) M := z_op hE hl (⟨fun q => h.1 q, fun q => h.2 (Int.not_le.mp q)⟩)
theorem z_icmp_gt (hE : erM E) {x y z : Int}  (hl : lk c pc = some (.if_icmp .gt z, nx, xs)) (h : (y < x → GoG sw E c Q (x1 xs) ls r M) ∧ (x ≤ y → GoG sw E c Q nx ls r M)) : GoG sw E c Q pc ls (vI y :: vI x :: r) M := z_op hE hl (⟨fun q => h.1 q, fun q => h.2 (Int.not_lt.mp q)⟩)
theorem z_if_gt (hE : erM E) {x z : Int}  (hl : lk c pc = some (.ifCond .gt z, nx, xs)) (h : (0 < x → GoG sw E c Q (x1 xs) ls r M) ∧ (x ≤ 0 → GoG sw E c Q nx ls r M)) : GoG sw E c Q pc ls (vI x :: r) M := z_op hE hl (⟨fun q => h.1 q, fun q => h.2 (Int.not_lt.mp q)⟩)
theorem z_icmp_le (hE : erM E) {x y z : Int}  (hl : lk c pc = some (.if_icmp .le z, nx, xs)) (h : (x ≤ y → GoG sw E c Q (x1 xs) ls r M) ∧ (y < x → GoG sw E c Q nx ls r M)) : GoG sw E c Q pc ls (vI y :: vI x :: r) M := z_op hE hl (⟨fun q => h.1 q, fun q => h.2 (Int.not_le.mp q)⟩)
theorem z_if_le (hE : erM E) {x z : Int}  (hl : lk c pc = some (.ifCond .le z, nx, xs)) (h : (x ≤ 0 → GoG sw E c Q (x1 xs) ls r M) ∧ (0 < x → GoG sw E c Q nx ls r M)) : GoG sw E c Q pc ls (vI x :: r) M := z_op hE hl (⟨fun q => h.1 q, fun q => h.2 (Int.not_le.mp q)⟩)
theorem z_goto (hE : erM E) {z : Int} (hl : lk c pc = some (.goto z, nx, xs)) (h : GoG sw E c Q (x1 xs) ls st M) : GoG sw E c Q pc ls (st) M := z_op hE hl (h)
theorem z_tsw (hE : erM E) {a1 a2 a3 x : Int} {a4 : Array Int} (hl : lk c pc = some (.tableswitch a1 a2 a3 a4, nx, xs)) (h : swK (xI xs) (x3 xs) x (fun t => GoG sw E c Q t ls r M)) (h2 : (x < xI xs ∨ xI xs + (x3 xs).length ≤ x) → GoG sw E c Q (x1 xs) ls r M) : GoG sw E c Q pc ls (vI x :: r) M := z_op hE hl (⟨h, h2⟩)
theorem z_iald (hE : erM E) {k n : Nat} {rs : List Nat} {i : Int} (hl : lk c pc = some (.iaload, nx, xs)) (hs : sh k = (0, n, rs)) (hi : 0 ≤ i ∧ i < (n : Int)) (h : GoG sw E c Q nx ls (vI (M k i) :: r) M) : GoG sw E c Q pc ls (vI i :: vR k :: r) M := z_op hE hl (by dsimp only [zstep, ald]; rw [hs]; exact ⟨rfl, hi, h⟩)
theorem z_bald (hE : erM E) {k n : Nat} {rs : List Nat} {i : Int} (hl : lk c pc = some (.baload, nx, xs)) (hs : sh k = (2, n, rs)) (hi : 0 ≤ i ∧ i < (n : Int)) (h : GoG sw E c Q nx ls (vI (M k i) :: r) M) : GoG sw E c Q pc ls (vI i :: vR k :: r) M := z_op hE hl (by dsimp only [zstep, ald]; rw [hs]; exact ⟨rfl, hi, h⟩)
theorem z_lald (hE : erM E) {k n : Nat} {rs : List Nat} {i : Int} (hl : lk c pc = some (.laload, nx, xs)) (hs : sh k = (1, n, rs)) (hi : 0 ≤ i ∧ i < (n : Int)) (h : GoG sw E c Q nx ls (vL (M k i) :: r) M) : GoG sw E c Q pc ls (vI i :: vR k :: r) M := z_op hE hl (by dsimp only [zstep, ald]; rw [hs]; exact ⟨rfl, hi, h⟩)
theorem z_ialdW (hE : erM E) {k n : Nat} {rs : List Nat} {i w : Int} (hl : lk c pc = some (.iaload, nx, xs)) (hs : sh k = (0, n, rs)) (hi : 0 ≤ i ∧ i < (n : Int)) (h : GoG sw E c Q nx ls (vI (M (k + w.toNat) i) :: r) M) : GoG sw E c Q pc ls (vI i :: vW k w :: r) M := z_op hE hl (by dsimp only [zstep, ald]; rw [hs]; exact ⟨rfl, hi, h⟩)
theorem z_ialdT (hE : erM E) {t n : Nat} {i : Int} (hl : lk c pc = some (.iaload, nx, xs)) (ht : t < 2 ∨ t = 10) (hn : (tbL.getD t []).length = n) (hi : 0 ≤ i ∧ i < (n : Int)) (h : GoG sw E c Q nx ls (vI ((tbL.getD t []).getD i.toNat 0) :: r) M) : GoG sw E c Q pc ls (vI i :: vT t :: r) M := z_op hE hl (by dsimp only [zstep, ald]; rw [if_neg (by omega), if_pos ht, hn]; exact ⟨rfl, hi, h⟩)
theorem z_baldT (hE : erM E) {t n : Nat} {i : Int} (hl : lk c pc = some (.baload, nx, xs)) (ht : 2 ≤ t ∧ t < 10) (hn : (tbL.getD t []).length = n) (hi : 0 ≤ i ∧ i < (n : Int)) (h : GoG sw E c Q nx ls (vI ((tbL.getD t []).getD i.toNat 0) :: r) M) : GoG sw E c Q pc ls (vI i :: vT t :: r) M := z_op hE hl (by dsimp only [zstep, ald]; rw [if_neg (by omega), if_neg (by omega), hn]; exact ⟨⟨rfl, ht.2⟩, hi, h⟩)
theorem z_ialdS (hE : erM E) {i : Int} (hl : lk c pc = some (.iaload, nx, xs)) (hi : 0 ≤ i ∧ i < M 201 0) (h : GoG sw E c Q nx ls (vI (M 200 i) :: r) M) : GoG sw E c Q pc ls (vI i :: vT 100 :: r) M := z_op hE hl (by dsimp only [zstep, ald]; exact ⟨rfl, hi, h⟩)
theorem z_iast (hE : erM E) {k n : Nat} {rs : List Nat} {i x : Int} (hl : lk c pc = some (.iastore, nx, xs)) (hs : sh k = (0, n, rs)) (hi : 0 ≤ i ∧ i < (n : Int)) (h : GoG sw E c Q nx ls (r) (mset M k i x)) : GoG sw E c Q pc ls (vI x :: vI i :: vR k :: r) M := z_op hE hl (by dsimp only [zstep, ast]; rw [hs]; exact ⟨rfl, hi, h⟩)
theorem z_iastW (hE : erM E) {k n : Nat} {rs : List Nat} {i x w : Int} (hl : lk c pc = some (.iastore, nx, xs)) (hs : sh k = (0, n, rs)) (hi : 0 ≤ i ∧ i < (n : Int)) (h : GoG sw E c Q nx ls (r) (mset M (k + w.toNat) i x)) : GoG sw E c Q pc ls (vI x :: vI i :: vW k w :: r) M := z_op hE hl (by dsimp only [zstep, ast]; rw [hs]; exact ⟨rfl, hi, h⟩)
theorem z_bast (hE : erM E) {k n : Nat} {rs : List Nat} {i x : Int} (hl : lk c pc = some (.bastore, nx, xs)) (hs : sh k = (2, n, rs)) (hx : x = 0 ∨ x = 1) (hi : 0 ≤ i ∧ i < (n : Int)) (h : GoG sw E c Q nx ls (r) (mset M k i x)) : GoG sw E c Q pc ls (vI x :: vI i :: vR k :: r) M := z_op hE hl (by dsimp only [zstep, ast]; rw [hs]; exact ⟨hx, rfl, hi, h⟩)
theorem z_last (hE : erM E) {k n : Nat} {rs : List Nat} {i x : Int} (hl : lk c pc = some (.lastore, nx, xs)) (hs : sh k = (1, n, rs)) (hi : 0 ≤ i ∧ i < (n : Int)) (h : GoG sw E c Q nx ls (r) (mset M k i x)) : GoG sw E c Q pc ls (vL x :: vI i :: vR k :: r) M := z_op hE hl (by dsimp only [zstep, ast]; rw [hs]; exact ⟨rfl, hi, h⟩)
theorem z_aald (hE : erM E) {k n q : Nat} {rs : List Nat} {i : Int} (hl : lk c pc = some (.aaload, nx, xs)) (hs : sh k = (3, n, rs)) (hq : rs.getD 0 0 = q) (hi : 0 ≤ i ∧ i < (n : Int)) (h : GoG sw E c Q nx ls (vW q i :: r) M) : GoG sw E c Q pc ls (vI i :: vR k :: r) M := z_op hE hl (by dsimp only [zstep]; rw [hs]; exact ⟨rfl, hi, by rw [hq]; exact h⟩)
theorem z_alen (hE : erM E) {k n : Nat} {rs : List Nat} (hl : lk c pc = some (.arraylength, nx, xs)) (hs : sh k = (0, n, rs)) (h : GoG sw E c Q nx ls (vI (n : Int) :: r) M) : GoG sw E c Q pc ls (vR k :: r) M := z_op hE hl (by dsimp only [zstep]; rw [hs]; exact ⟨rfl, h⟩)
theorem z_alenT (hE : erM E) {t n : Nat} (hl : lk c pc = some (.arraylength, nx, xs)) (ht : t < 10) (hn : (tbL.getD t []).length = n) (h : GoG sw E c Q nx ls (vI (n : Int) :: r) M) : GoG sw E c Q pc ls (vT t :: r) M := z_op hE hl (by dsimp only [zstep]; rw [if_neg (by omega), hn]; exact ⟨ht, h⟩)
theorem z_alenS (hE : erM E) (hl : lk c pc = some (.arraylength, nx, xs)) (h : GoG sw E c Q nx ls (vI (M 201 0) :: r) M) : GoG sw E c Q pc ls (vT 100 :: r) M := z_op hE hl (h)
theorem z_getI (hE : erM E) {k ci z : Nat} {rs : List Nat} {sl : Int} (hl : lk c pc = some (.getfield z, nx, xs)) (hs : sh k = (4, ci, rs)) (hc : x1 xs = ci) (hx : xI xs = sl) (hk : ctk (x1 xs) (x2 xs) = 0) (h : GoG sw E c Q nx ls (vI (M k sl) :: r) M) : GoG sw E c Q pc ls (vR k :: r) M := z_op hE hl (by dsimp only [zstep, gfd]; rw [hs]; refine ⟨rfl, hc.symm, ?_⟩; rw [hk, hx]; exact h)
theorem z_getZ (hE : erM E) {k ci z : Nat} {rs : List Nat} {sl : Int} (hl : lk c pc = some (.getfield z, nx, xs)) (hs : sh k = (4, ci, rs)) (hc : x1 xs = ci) (hx : xI xs = sl) (hk : ctk (x1 xs) (x2 xs) = 2) (h : GoG sw E c Q nx ls (vI (M k sl) :: r) M) : GoG sw E c Q pc ls (vR k :: r) M := z_op hE hl (by dsimp only [zstep, gfd]; rw [hs]; refine ⟨rfl, hc.symm, ?_⟩; rw [hk, hx]; exact h)
theorem z_getJ (hE : erM E) {k ci z : Nat} {rs : List Nat} {sl : Int} (hl : lk c pc = some (.getfield z, nx, xs)) (hs : sh k = (4, ci, rs)) (hc : x1 xs = ci) (hx : xI xs = sl) (hk : ctk (x1 xs) (x2 xs) = 1) (h : GoG sw E c Q nx ls (vL (M k sl) :: r) M) : GoG sw E c Q pc ls (vR k :: r) M := z_op hE hl (by dsimp only [zstep, gfd]; rw [hs]; refine ⟨rfl, hc.symm, ?_⟩; rw [hk, hx]; exact h)
theorem z_getR (hE : erM E) {k ci z q : Nat} {rs : List Nat} (hl : lk c pc = some (.getfield z, nx, xs)) (hs : sh k = (4, ci, rs)) (hc : x1 xs = ci) (hk : ctk (x1 xs) (x2 xs) = 3) (hq : rs.getD (x2 xs) 0 = q) (h : GoG sw E c Q nx ls (vR q :: r) M) : GoG sw E c Q pc ls (vR k :: r) M := z_op hE hl (by dsimp only [zstep, gfd]; rw [hs]; refine ⟨rfl, hc.symm, ?_⟩; rw [hk, hq]; exact h)
theorem z_getS (hE : erM E) {t z : Nat} (hl : lk c pc = some (.getfield z, nx, xs)) (h1 : x1 xs = 100) (ht : t < 8) (h2 : x2 xs = 0) (h : GoG sw E c Q nx ls (vT (2 + t) :: r) M) : GoG sw E c Q pc ls (vK t :: r) M := z_op hE hl (by dsimp only [zstep, gfd]; exact ⟨h1, ht, by rw [if_pos h2]; exact h⟩)
theorem z_getC (hE : erM E) {t z : Nat} (hl : lk c pc = some (.getfield z, nx, xs)) (h1 : x1 xs = 100) (ht : t < 8) (h2 : x2 xs = 1) (h : GoG sw E c Q nx ls (vI 0 :: r) M) : GoG sw E c Q pc ls (vK t :: r) M := z_op hE hl (by dsimp only [zstep, gfd]; exact ⟨h1, ht, by rw [if_neg (by omega)]; exact h⟩)
theorem z_putI (hE : erM E) {k ci z : Nat} {rs : List Nat} {x sl : Int} (hl : lk c pc = some (.putfield z, nx, xs)) (hs : sh k = (4, ci, rs)) (hc : x1 xs = ci) (hx : xI xs = sl) (hk : ctk (x1 xs) (x2 xs) = 0) (h : GoG sw E c Q nx ls (r) (mset M k sl x)) : GoG sw E c Q pc ls (vI x :: vR k :: r) M := z_op hE hl (by dsimp only [zstep, pfd]; rw [hs]; refine ⟨rfl, hc.symm, ?_⟩; rw [hk, hx]; exact h)
theorem z_putJ (hE : erM E) {k ci z : Nat} {rs : List Nat} {x sl : Int} (hl : lk c pc = some (.putfield z, nx, xs)) (hs : sh k = (4, ci, rs)) (hc : x1 xs = ci) (hx : xI xs = sl) (hk : ctk (x1 xs) (x2 xs) = 1) (h : GoG sw E c Q nx ls (r) (mset M k sl x)) : GoG sw E c Q pc ls (vL x :: vR k :: r) M := z_op hE hl (by dsimp only [zstep, pfd]; rw [hs]; refine ⟨rfl, hc.symm, ?_⟩; rw [hk, hx]; exact h)
theorem z_putZ (hE : erM E) {k ci z : Nat} {rs : List Nat} {x sl : Int} (hl : lk c pc = some (.putfield z, nx, xs)) (hs : sh k = (4, ci, rs)) (hc : x1 xs = ci) (hs2 : xI xs = sl) (hk : ctk (x1 xs) (x2 xs) = 2) (hx : x = 0 ∨ x = 1) (h : GoG sw E c Q nx ls (r) (mset M k sl x)) : GoG sw E c Q pc ls (vI x :: vR k :: r) M := z_op hE hl (by dsimp only [zstep, pfd]; rw [hs]; refine ⟨rfl, hc.symm, ?_⟩; rw [hk, hs2]; exact ⟨hx, h⟩)
theorem z_getsI (hE : erM E) {z : Nat} (hl : lk c pc = some (.getstatic z, nx, xs)) (h0 : x1 xs = 0) (h : GoG sw E c Q nx ls (vI (xI xs) :: st) M) : GoG sw E c Q pc ls (st) M := z_op hE hl (by dsimp only [zstep]; rw [if_pos h0]; exact h)
theorem z_getsT (hE : erM E) {z : Nat} (hl : lk c pc = some (.getstatic z, nx, xs)) (h0 : ¬ x1 xs = 0) (h : GoG sw E c Q nx ls (vT (x2 xs) :: st) M) : GoG sw E c Q pc ls (st) M := z_op hE hl (by dsimp only [zstep]; rw [if_neg h0]; exact h)
theorem z_ldcS (hE : erM E) {z : Nat} (hl : lk c pc = some (.ldc z, nx, xs)) (h : GoG sw E c Q nx ls (vK (x2 xs) :: st) M) : GoG sw E c Q pc ls (st) M := z_op hE hl (h)
theorem z_copy (hE : erM E) {z ka kb na nb : Nat} {ra rb : List Nat} {n dp sp : Int} (hl : lk c pc = some (.invokedynamic z, nx, xs)) (ha : sh ka = (0, na, ra)) (hb : sh kb = (0, nb, rb)) (hc : (r.map zcat).sum ≤ 8) (hi : 0 ≤ sp ∧ 0 ≤ dp ∧ 0 ≤ n ∧ sp + n ≤ (na : Int) ∧ dp + n ≤ (nb : Int)) (h : GoG sw E c Q nx ls (r) (rset M kb (fcpy (M ka) (M kb) sp dp n))) : GoG sw E c Q pc ls (vI n :: vI dp :: vR kb :: vI sp :: vR ka :: r) M := z_op hE hl (by dsimp only [zstep]; rw [ha, hb]; exact ⟨⟨rfl, rfl, hc⟩, hi, h⟩)
theorem z_min (hE : erM E) {x y : Int} (hl : lk c pc = some (.dup_x1, nx, xs)) (hc : (r.map zcat).sum ≤ 8) (h : GoG sw E c Q nx ls (vI (if y < x then y else x) :: r) M) : GoG sw E c Q pc ls (vI y :: vI x :: r) M := z_op hE hl (⟨hc, h⟩)
theorem z_max (hE : erM E) {x y : Int} (hl : lk c pc = some (.dup_x2, nx, xs)) (hc : (r.map zcat).sum ≤ 8) (h : GoG sw E c Q nx ls (vI (if x < y then y else x) :: r) M) : GoG sw E c Q pc ls (vI y :: vI x :: r) M := z_op hE hl (⟨hc, h⟩)
theorem z_callsI (hE : erM E) {z μ : Nat} {as : List Vl} (hl : lk c pc = some (.invokestatic z, nx, xs)) (hm : x1 xs = μ) (ha : (st.take (x2 xs)).reverse = as) (hd : st.drop (x2 xs) = r) (hn : (st.take (x2 xs)).length = x2 xs) (hc : (r.map zcat).sum ≤ 8) (h15 : ¬ μ = 15) (h : E μ as M (rI fun x M2 => GoG sw E c Q nx ls (vI x :: r) M2)) : GoG sw E c Q pc ls (st) M := z_op hE hl (⟨⟨hn, by rw [hd]; exact hc, (fun q => by cases q), fun q => absurd (hm.symm.trans q) h15⟩, by rw [ha, hd, hm]; exact hE _ _ _ _ _ (fun v M2 ⟨x, e, p⟩ => by rw [e]; exact p) h⟩)
theorem z_callsL (hE : erM E) {z μ : Nat} {as : List Vl} (hl : lk c pc = some (.invokestatic z, nx, xs)) (hm : x1 xs = μ) (ha : (st.take (x2 xs)).reverse = as) (hd : st.drop (x2 xs) = r) (hn : (st.take (x2 xs)).length = x2 xs) (hc : (r.map zcat).sum ≤ 8) (h15 : ¬ μ = 15) (h : E μ as M (rL fun x M2 => GoG sw E c Q nx ls (vL x :: r) M2)) : GoG sw E c Q pc ls (st) M := z_op hE hl (⟨⟨hn, by rw [hd]; exact hc, (fun q => by cases q), fun q => absurd (hm.symm.trans q) h15⟩, by rw [ha, hd, hm]; exact hE _ _ _ _ _ (fun v M2 ⟨x, e, p⟩ => by rw [e]; exact p) h⟩)
theorem z_callsV (hE : erM E) {z μ : Nat} {as : List Vl} (hl : lk c pc = some (.invokestatic z, nx, xs)) (hm : x1 xs = μ) (ha : (st.take (x2 xs)).reverse = as) (hd : st.drop (x2 xs) = r) (hn : (st.take (x2 xs)).length = x2 xs) (hc : (r.map zcat).sum ≤ 8) (h15 : ¬ μ = 15) (h : E μ as M (rV fun M2 => GoG sw E c Q nx ls (r) M2)) : GoG sw E c Q pc ls (st) M := z_op hE hl (⟨⟨hn, by rw [hd]; exact hc, (fun q => by cases q), fun q => absurd (hm.symm.trans q) h15⟩, by rw [ha, hd, hm]; exact hE _ _ _ _ _ (fun v M2 ⟨e, p⟩ => by rw [e]; exact p) h⟩)
theorem z_callvI (hE : erM E) {z μ : Nat} {as : List Vl} (hl : lk c pc = some (.invokevirtual z, nx, xs)) (hm : x1 xs = μ) (ha : (st.take (x2 xs)).reverse = as) (hd : st.drop (x2 xs) = r) (hn : (st.take (x2 xs)).length = x2 xs) (hc : (r.map zcat).sum ≤ 8) (h15 : ¬ μ = 15) (hr : rcvOk (xI xs) as) (h : E μ as M (rI fun x M2 => GoG sw E c Q nx ls (vI x :: r) M2)) : GoG sw E c Q pc ls (st) M := z_op hE hl (⟨⟨hn, by rw [hd]; exact hc, (fun _ => by rw [ha]; exact hr), fun q => absurd (hm.symm.trans q) h15⟩, by rw [ha, hd, hm]; exact hE _ _ _ _ _ (fun v M2 ⟨x, e, p⟩ => by rw [e]; exact p) h⟩)
theorem z_callvL (hE : erM E) {z μ : Nat} {as : List Vl} (hl : lk c pc = some (.invokevirtual z, nx, xs)) (hm : x1 xs = μ) (ha : (st.take (x2 xs)).reverse = as) (hd : st.drop (x2 xs) = r) (hn : (st.take (x2 xs)).length = x2 xs) (hc : (r.map zcat).sum ≤ 8) (h15 : ¬ μ = 15) (hr : rcvOk (xI xs) as) (h : E μ as M (rL fun x M2 => GoG sw E c Q nx ls (vL x :: r) M2)) : GoG sw E c Q pc ls (st) M := z_op hE hl (⟨⟨hn, by rw [hd]; exact hc, (fun _ => by rw [ha]; exact hr), fun q => absurd (hm.symm.trans q) h15⟩, by rw [ha, hd, hm]; exact hE _ _ _ _ _ (fun v M2 ⟨x, e, p⟩ => by rw [e]; exact p) h⟩)
theorem z_callvV (hE : erM E) {z μ : Nat} {as : List Vl} (hl : lk c pc = some (.invokevirtual z, nx, xs)) (hm : x1 xs = μ) (ha : (st.take (x2 xs)).reverse = as) (hd : st.drop (x2 xs) = r) (hn : (st.take (x2 xs)).length = x2 xs) (hc : (r.map zcat).sum ≤ 8) (h15 : ¬ μ = 15) (hr : rcvOk (xI xs) as) (h : E μ as M (rV fun M2 => GoG sw E c Q nx ls (r) M2)) : GoG sw E c Q pc ls (st) M := z_op hE hl (⟨⟨hn, by rw [hd]; exact hc, (fun _ => by rw [ha]; exact hr), fun q => absurd (hm.symm.trans q) h15⟩, by rw [ha, hd, hm]; exact hE _ _ _ _ _ (fun v M2 ⟨e, p⟩ => by rw [e]; exact p) h⟩)
theorem z_iret (hE : erM E) {P : Int → Mm → Prop} {v : Int} (hl : lk c pc = some (.ireturn, nx, xs)) (hk : xI xs = 0) (h : P v M) : GoG sw E c (rI P) pc ls [vI v] M := z_op hE hl ⟨by unfold retOk; rw [if_pos hk]; trivial, v, rfl, h⟩
theorem z_zret (hE : erM E) {P : Int → Mm → Prop} {v : Int} (hl : lk c pc = some (.ireturn, nx, xs)) (hk : xI xs = 1) (hv : v = 0 ∨ v = 1) (h : P v M) : GoG sw E c (rI P) pc ls [vI v] M := z_op hE hl ⟨by unfold retOk; rw [if_neg (by omega), if_pos hk]; exact hv, v, rfl, h⟩
theorem z_cret (hE : erM E) {P : Int → Mm → Prop} {v : Int} (hl : lk c pc = some (.ireturn, nx, xs)) (hk : xI xs = 2) (hv : 0 ≤ v ∧ v < 65536) (h : P v M) : GoG sw E c (rI P) pc ls [vI v] M := z_op hE hl ⟨by unfold retOk; rw [if_neg (by omega), if_neg (by omega), if_pos hk]; exact hv, v, rfl, h⟩
theorem z_bret (hE : erM E) {P : Int → Mm → Prop} {v : Int} (hl : lk c pc = some (.ireturn, nx, xs)) (hk : xI xs = 3) (hv : -128 ≤ v ∧ v < 128) (h : P v M) : GoG sw E c (rI P) pc ls [vI v] M := z_op hE hl ⟨by unfold retOk; rw [if_neg (by omega), if_neg (by omega), if_neg (by omega)]; exact hv, v, rfl, h⟩
theorem z_lret (hE : erM E) {P : Int → Mm → Prop} {v : Int} (hl : lk c pc = some (.lreturn, nx, xs)) (h : P v M) : GoG sw E c (rL P) pc ls [vL v] M := z_op hE hl ⟨v, rfl, h⟩
theorem z_vret (hE : erM E) {P : Mm → Prop} (hl : lk c pc = some (.return_, nx, xs)) (h : P M) : GoG sw E c (rV P) pc ls [] M := z_op hE hl ⟨rfl, h⟩
theorem z_swap {E : Er} {c : Cd} {Q : Ql} {l1 l2 : Vl} (hE : erM E) (hl : lk c pc = some (.swap, nx, xs)) (h1 : nbk l1 = true) (h2 : isA l1 = false) (h3 : zcat l1 = 1) (h : GoG true E c Q nx [vR 0, l1, vR 67] [] (mswap M)) : GoG true E c Q pc [vR 0, l1, l2] [] M := z_op hE hl ⟨⟨rfl, rfl, h1, h2, h3, rfl⟩, h⟩
end ZL
theorem shk_0 : sh 0 = (4, 0, [1, 8, 10, 24, 30, 33, 39, 40, 47, 50, 51, 58, 67, 0]) := rfl
theorem shk_1 : sh 1 = (4, 1, [2, 3, 4, 5, 6, 7, 0]) := rfl
theorem shk_2 : sh 2 = (0, 48, []) := rfl
theorem shk_3 : sh 3 = (0, 48, []) := rfl
theorem shk_4 : sh 4 = (0, 48, []) := rfl
theorem shk_5 : sh 5 = (0, 48, []) := rfl
theorem shk_6 : sh 6 = (1, 48, []) := rfl
theorem shk_7 : sh 7 = (0, 48, []) := rfl
theorem shk_8 : sh 8 = (4, 2, [9, 0]) := rfl
theorem shk_9 : sh 9 = (0, 600, []) := rfl
theorem shk_10 : sh 10 = (4, 9, [11, 12, 13, 20, 21, 22, 23, 0, 0, 0]) := rfl
theorem shk_11 : sh 11 = (0, 8, []) := rfl
theorem shk_12 : sh 12 = (0, 8, []) := rfl
theorem shk_13 : sh 13 = (3, 6, [14]) := rfl
theorem shk_14 : sh 14 = (0, 5, []) := rfl
theorem shk_15 : sh 15 = (0, 5, []) := rfl
theorem shk_16 : sh 16 = (0, 5, []) := rfl
theorem shk_17 : sh 17 = (0, 5, []) := rfl
theorem shk_18 : sh 18 = (0, 5, []) := rfl
theorem shk_19 : sh 19 = (0, 5, []) := rfl
theorem shk_20 : sh 20 = (0, 6, []) := rfl
theorem shk_21 : sh 21 = (0, 48, []) := rfl
theorem shk_22 : sh 22 = (0, 48, []) := rfl
theorem shk_23 : sh 23 = (0, 48, []) := rfl
theorem shk_24 : sh 24 = (4, 4, [25, 26, 27, 28, 29, 0]) := rfl
theorem shk_25 : sh 25 = (0, 24, []) := rfl
theorem shk_26 : sh 26 = (0, 24, []) := rfl
theorem shk_27 : sh 27 = (0, 24, []) := rfl
theorem shk_28 : sh 28 = (0, 24, []) := rfl
theorem shk_29 : sh 29 = (0, 24, []) := rfl
theorem shk_30 : sh 30 = (4, 3, [31, 32, 0]) := rfl
theorem shk_31 : sh 31 = (0, 48, []) := rfl
theorem shk_32 : sh 32 = (0, 48, []) := rfl
theorem shk_33 : sh 33 = (4, 5, [34, 35, 36, 37, 38, 0, 0, 0, 0, 0]) := rfl
theorem shk_34 : sh 34 = (0, 12, []) := rfl
theorem shk_35 : sh 35 = (0, 6, []) := rfl
theorem shk_36 : sh 36 = (0, 6, []) := rfl
theorem shk_37 : sh 37 = (0, 4, []) := rfl
theorem shk_38 : sh 38 = (0, 4096, []) := rfl
theorem shk_39 : sh 39 = (4, 7, [0]) := rfl
theorem shk_40 : sh 40 = (4, 10, [41, 42, 43, 44, 45, 46, 0, 0]) := rfl
theorem shk_41 : sh 41 = (0, 80, []) := rfl
theorem shk_42 : sh 42 = (0, 80, []) := rfl
theorem shk_43 : sh 43 = (0, 80, []) := rfl
theorem shk_44 : sh 44 = (0, 80, []) := rfl
theorem shk_45 : sh 45 = (0, 48, []) := rfl
theorem shk_46 : sh 46 = (0, 80, []) := rfl
theorem shk_47 : sh 47 = (4, 8, [48, 49, 0, 0]) := rfl
theorem shk_48 : sh 48 = (0, 256, []) := rfl
theorem shk_49 : sh 49 = (0, 256, []) := rfl
theorem shk_50 : sh 50 = (0, 8, []) := rfl
theorem shk_51 : sh 51 = (3, 6, [52]) := rfl
theorem shk_52 : sh 52 = (0, 3, []) := rfl
theorem shk_53 : sh 53 = (0, 3, []) := rfl
theorem shk_54 : sh 54 = (0, 3, []) := rfl
theorem shk_55 : sh 55 = (0, 3, []) := rfl
theorem shk_56 : sh 56 = (0, 3, []) := rfl
theorem shk_57 : sh 57 = (0, 3, []) := rfl
theorem shk_58 : sh 58 = (4, 6, [59, 60, 61, 62, 63, 64, 65, 66, 0]) := rfl
theorem shk_59 : sh 59 = (0, 30, []) := rfl
theorem shk_60 : sh 60 = (0, 30, []) := rfl
theorem shk_61 : sh 61 = (0, 30, []) := rfl
theorem shk_62 : sh 62 = (0, 30, []) := rfl
theorem shk_63 : sh 63 = (0, 30, []) := rfl
theorem shk_64 : sh 64 = (0, 180, []) := rfl
theorem shk_65 : sh 65 = (0, 180, []) := rfl
theorem shk_66 : sh 66 = (2, 180, []) := rfl
theorem shk_67 : sh 67 = (4, 6, [68, 69, 70, 71, 72, 73, 74, 75, 0]) := rfl
theorem shk_68 : sh 68 = (0, 30, []) := rfl
theorem shk_69 : sh 69 = (0, 30, []) := rfl
theorem shk_70 : sh 70 = (0, 30, []) := rfl
theorem shk_71 : sh 71 = (0, 30, []) := rfl
theorem shk_72 : sh 72 = (0, 30, []) := rfl
theorem shk_73 : sh 73 = (0, 180, []) := rfl
theorem shk_74 : sh 74 = (0, 180, []) := rfl
theorem shk_75 : sh 75 = (2, 180, []) := rfl
theorem shk_76 : sh 76 = (4, 11, [0, 0, 0, 77, 78, 79, 80, 81, 82, 83, 84, 0, 85, 86, 87, 88, 0, 89, 90, 91, 0, 0, 92, 93, 0, 0, 0, 94, 0, 95, 96, 97, 98, 99, 100, 101, 102, 103, 104, 105, 106, 107, 108, 109, 110]) := rfl
theorem shk_77 : sh 77 = (0, 48, []) := rfl
theorem shk_78 : sh 78 = (0, 48, []) := rfl
theorem shk_79 : sh 79 = (0, 48, []) := rfl
theorem shk_80 : sh 80 = (0, 48, []) := rfl
theorem shk_81 : sh 81 = (0, 48, []) := rfl
theorem shk_82 : sh 82 = (0, 384, []) := rfl
theorem shk_83 : sh 83 = (0, 16, []) := rfl
theorem shk_84 : sh 84 = (0, 30, []) := rfl
theorem shk_85 : sh 85 = (0, 48, []) := rfl
theorem shk_86 : sh 86 = (0, 48, []) := rfl
theorem shk_87 : sh 87 = (0, 6, []) := rfl
theorem shk_88 : sh 88 = (0, 48, []) := rfl
theorem shk_89 : sh 89 = (0, 120, []) := rfl
theorem shk_90 : sh 90 = (0, 48, []) := rfl
theorem shk_91 : sh 91 = (0, 600, []) := rfl
theorem shk_92 : sh 92 = (0, 750, []) := rfl
theorem shk_93 : sh 93 = (0, 750, []) := rfl
theorem shk_94 : sh 94 = (0, 18, []) := rfl
theorem shk_95 : sh 95 = (0, 80, []) := rfl
theorem shk_96 : sh 96 = (0, 80, []) := rfl
theorem shk_97 : sh 97 = (0, 80, []) := rfl
theorem shk_98 : sh 98 = (0, 80, []) := rfl
theorem shk_99 : sh 99 = (0, 48, []) := rfl
theorem shk_100 : sh 100 = (0, 24, []) := rfl
theorem shk_101 : sh 101 = (0, 6, []) := rfl
theorem shk_102 : sh 102 = (0, 15625, []) := rfl
theorem shk_103 : sh 103 = (0, 15625, []) := rfl
theorem shk_104 : sh 104 = (0, 15625, []) := rfl
theorem shk_105 : sh 105 = (0, 15625, []) := rfl
theorem shk_106 : sh 106 = (0, 4, []) := rfl
theorem shk_107 : sh 107 = (2, 48, []) := rfl
theorem shk_108 : sh 108 = (0, 16384, []) := rfl
theorem shk_109 : sh 109 = (0, 9, []) := rfl
theorem shk_110 : sh 110 = (0, 9, []) := rfl
