/-! A ROW OF A CODE TABLE IS CHECKED BY A PROGRAM, AND THE CHECK IS SOUND -/
theorem ac_1 : Cond.native arraycopyName ∈ lw_tbl := by decide +kernel
theorem ac_2 : Cond.static arraycopyName ∈ lw_tbl := by decide +kernel
theorem ac_3 : Cond.initialized "java/lang/System" ∈ lw_tbl := by decide +kernel
def chkA (own pc : Nat) (ins : Instr) (len : Nat) (op : Instr) (xs : Ex) : Bool := match ins with
  | .iconst n => (match op with | .iconst v => decide (len = 1) && decide (-2147483648 ≤ v ∧ v ≤ 2147483647) && decide (Int32.ofInt n = Int32.ofInt v) | _ => false)
  | .bipush n => (match op with | .iconst v => decide (len = 2) && decide (-2147483648 ≤ v ∧ v ≤ 2147483647) && decide ((Int8.ofInt n).toInt32 = Int32.ofInt v) | _ => false)
  | .sipush n => (match op with | .iconst v => decide (len = 3) && decide (-2147483648 ≤ v ∧ v ≤ 2147483647) && decide ((Int16.ofInt n).toInt32 = Int32.ofInt v) | _ => false)
  | .ldc_w i => (match op with | .iconst v => decide (len = 3) && decide (-2147483648 ≤ v ∧ v ≤ 2147483647) && decide (lw_tbl[x1 xs]? = some (.constant (ownN own) i (Int32.ofInt v))) | _ => false)
  | .ldc i => (match op with | .iconst v => decide (len = 2) && decide (-2147483648 ≤ v ∧ v ≤ 2147483647) && decide (lw_tbl[x1 xs]? = some (.constant (ownN own) i (Int32.ofInt v))) | .ldc _ => decide (len = 2) && decide (x2 xs < 8) && decide ((strL.getD (x2 xs) (0, "")).1 = i) && decide (ownN own = "ChildTrains$OrderReader") | _ => false)
  | .lconst n => (match op with | .lconst _ => decide (len = 1) && decide (-9223372036854775808 ≤ xI xs ∧ xI xs ≤ 9223372036854775807) && decide (Int64.ofNat (n : Nat) = Int64.ofInt (xI xs)) | _ => false)
  | .ldc2_w i => (match op with | .lconst _ => decide (len = 3) && decide (-9223372036854775808 ≤ xI xs ∧ xI xs ≤ 9223372036854775807) && decide (lw_tbl[x1 xs]? = some (.constantLong (ownN own) i (Int64.ofInt (xI xs)))) | _ => false)
  | .iload_n k => (match op with | .iload i => decide (len = 1) && decide ((k : Nat) = i) | _ => false)
  | .iload i => (match op with | .iload j => decide (len = 2) && decide (j = i) | _ => false)
  | .istore_n k => (match op with | .istore i => decide (len = 1) && decide ((k : Nat) = i) | _ => false)
  | .istore i => (match op with | .istore j => decide (len = 2) && decide (j = i) | _ => false)
  | .lload_n k => (match op with | .lload i => decide (len = 1) && decide ((k : Nat) = i) | _ => false)
  | .lload i => (match op with | .lload j => decide (len = 2) && decide (j = i) | _ => false)
  | .lstore_n k => (match op with | .lstore i => decide (len = 1) && decide ((k : Nat) = i) | _ => false)
  | .lstore i => (match op with | .lstore j => decide (len = 2) && decide (j = i) | _ => false)
  | .aload_n k => (match op with | .aload i => decide (len = 1) && decide ((k : Nat) = i) | _ => false)
  | .aload i => (match op with | .aload j => decide (len = 2) && decide (j = i) | _ => false)
  | .astore_n k => (match op with | .astore i => decide (len = 1) && decide ((k : Nat) = i) | _ => false)
  | .astore i => (match op with | .astore j => decide (len = 2) && decide (j = i) | _ => false)
  | .iinc i n => (match op with | .iinc j k => decide (len = 3) && decide (j = i) && decide (k = n) | _ => false)
  | _ => false
section CKA
variable {p : Program} {l : Launch} {e : Env} {R : Room} {s : State} {m : MethodId} {args : Array Value} {below : List Frame} {meth : Method} {c : Code} {cells slots : Nat} {Qf : State → Prop} {g : Gx} {A0 : Nat → Prop} {sw : Bool} {A1 : Nat → Nat} {nL : Nat} {b : ByteArray} {own : Nat} {E : Er} {Q : Ql} {pc nx : Nat} {xs : Ex} {ls st : List Vl} {M : Mm}
theorem chkA_ok {ins op : Instr} {len : Nat} (F : Fr p s m c g A0 nL b own) (hd : decode b pc = .ok (ins, len)) (hc : chkA own pc ins len op xs = true) (h : zstep sw E Q (XK p l e R s m args below meth c cells slots Qf g A0 sw A1 nL) op (pc + len) xs ls st M) : XK p l e R s m args below meth c cells slots Qf g A0 sw A1 nL pc ls st M := by
  unfold chkA at hc
  split at hc
  · split at hc
    · simp only [Bool.and_eq_true, decide_eq_true_eq] at hc
      obtain ⟨⟨h1, h2⟩, h3⟩ := hc
      subst h1
      exact s_iconst F hd h2 h3 h
    · cases hc
  · split at hc
    · simp only [Bool.and_eq_true, decide_eq_true_eq] at hc
      obtain ⟨⟨h1, h2⟩, h3⟩ := hc
      subst h1
      exact s_bipush F hd h2 h3 h
    · cases hc
  · split at hc
    · simp only [Bool.and_eq_true, decide_eq_true_eq] at hc
      obtain ⟨⟨h1, h2⟩, h3⟩ := hc
      subst h1
      exact s_sipush F hd h2 h3 h
    · cases hc
  · split at hc
    · simp only [Bool.and_eq_true, decide_eq_true_eq] at hc
      obtain ⟨⟨h1, h2⟩, h3⟩ := hc
      subst h1
      exact s_ldcw F hd h2 h3 h
    · cases hc
  · split at hc
    · simp only [Bool.and_eq_true, decide_eq_true_eq] at hc
      obtain ⟨⟨h1, h2⟩, h3⟩ := hc
      subst h1
      exact s_ldc F hd h2 h3 h
    · simp only [Bool.and_eq_true, decide_eq_true_eq] at hc
      obtain ⟨⟨⟨h1, h2⟩, h3⟩, h4⟩ := hc
      subst h1
      exact s_ldcS F hd h2 h3 h4 h
    · cases hc
  · split at hc
    · simp only [Bool.and_eq_true, decide_eq_true_eq] at hc
      obtain ⟨⟨h1, h2⟩, h3⟩ := hc
      subst h1
      exact s_lconst F hd h2 h3 h
    · cases hc
  · split at hc
    · simp only [Bool.and_eq_true, decide_eq_true_eq] at hc
      obtain ⟨⟨h1, h2⟩, h3⟩ := hc
      subst h1
      exact s_ldc2 F hd h2 h3 h
    · cases hc
  · split at hc
    · simp only [Bool.and_eq_true, decide_eq_true_eq] at hc
      obtain ⟨h1, h2⟩ := hc
      subst h1
      exact s_iload_n F hd h2 h
    · cases hc
  · split at hc
    · simp only [Bool.and_eq_true, decide_eq_true_eq] at hc
      obtain ⟨h1, h2⟩ := hc
      subst h1
      subst h2
      exact s_iload F hd h
    · cases hc
  · split at hc
    · simp only [Bool.and_eq_true, decide_eq_true_eq] at hc
      obtain ⟨h1, h2⟩ := hc
      subst h1
      exact s_istore_n F hd h2 h
    · cases hc
  · split at hc
    · simp only [Bool.and_eq_true, decide_eq_true_eq] at hc
      obtain ⟨h1, h2⟩ := hc
      subst h1
      subst h2
      exact s_istore F hd h
    · cases hc
  · split at hc
    · simp only [Bool.and_eq_true, decide_eq_true_eq] at hc
      obtain ⟨h1, h2⟩ := hc
      subst h1
      exact s_lload_n F hd h2 h
    · cases hc
  · split at hc
    · simp only [Bool.and_eq_true, decide_eq_true_eq] at hc
      obtain ⟨h1, h2⟩ := hc
      subst h1
      subst h2
      exact s_lload F hd h
    · cases hc
  · split at hc
    · simp only [Bool.and_eq_true, decide_eq_true_eq] at hc
      obtain ⟨h1, h2⟩ := hc
      subst h1
      exact s_lstore_n F hd h2 h
    · cases hc
  · split at hc
    · simp only [Bool.and_eq_true, decide_eq_true_eq] at hc
      obtain ⟨h1, h2⟩ := hc
      subst h1
      subst h2
      exact s_lstore F hd h
    · cases hc
  · split at hc
    · simp only [Bool.and_eq_true, decide_eq_true_eq] at hc
      obtain ⟨h1, h2⟩ := hc
      subst h1
      exact s_aload_n F hd h2 h
    · cases hc
  · split at hc
    · simp only [Bool.and_eq_true, decide_eq_true_eq] at hc
      obtain ⟨h1, h2⟩ := hc
      subst h1
      subst h2
      exact s_aload F hd h
    · cases hc
  · split at hc
    · simp only [Bool.and_eq_true, decide_eq_true_eq] at hc
      obtain ⟨h1, h2⟩ := hc
      subst h1
      exact s_astore_n F hd h2 h
    · cases hc
  · split at hc
    · simp only [Bool.and_eq_true, decide_eq_true_eq] at hc
      obtain ⟨h1, h2⟩ := hc
      subst h1
      subst h2
      exact s_astore F hd h
    · cases hc
  · split at hc
    · simp only [Bool.and_eq_true, decide_eq_true_eq] at hc
      obtain ⟨⟨h1, h2⟩, h3⟩ := hc
      subst h1
      subst h2
      subst h3
      exact s_iinc F hd h
    · cases hc
  · cases hc
end CKA
def chkB (own pc : Nat) (ins : Instr) (len : Nat) (op : Instr) (xs : Ex) : Bool := match ins with
  | .iadd => (match op with | .iadd => decide (len = 1) | _ => false)
  | .isub => (match op with | .isub => decide (len = 1) | _ => false)
  | .imul => (match op with | .imul => decide (len = 1) | _ => false)
  | .idiv => (match op with | .idiv => decide (len = 1) | _ => false)
  | .irem => (match op with | .irem => decide (len = 1) | _ => false)
  | .iand => (match op with | .iand => decide (len = 1) | _ => false)
  | .ior => (match op with | .ior => decide (len = 1) | _ => false)
  | .ixor => (match op with | .ixor => decide (len = 1) | _ => false)
  | .ishl => (match op with | .ishl => decide (len = 1) | _ => false)
  | .ishr => (match op with | .ishr => decide (len = 1) | _ => false)
  | .iushr => (match op with | .iushr => decide (len = 1) | _ => false)
  | .i2c => (match op with | .i2c => decide (len = 1) | _ => false)
  | .l2i => (match op with | .l2i => decide (len = 1) | _ => false)
  | .lshl => (match op with | .lshl => decide (len = 1) | _ => false)
  | .lshr => (match op with | .lshr => decide (len = 1) | _ => false)
  | .lushr => (match op with | .lushr => decide (len = 1) | _ => false)
  | .i2l => (match op with | .i2l => decide (len = 1) | _ => false)
  | .ineg => (match op with | .ineg => decide (len = 1) | _ => false)
  | .ladd => (match op with | .ladd => decide (len = 1) | _ => false)
  | .land => (match op with | .land => decide (len = 1) | _ => false)
  | .lor => (match op with | .lor => decide (len = 1) | _ => false)
  | .lcmp => (match op with | .lcmp => decide (len = 1) | _ => false)
  | .dup => (match op with | .dup => decide (len = 1) | _ => false)
  | .pop => (match op with | .pop => decide (len = 1) | _ => false)
  | .dup2 => (match op with | .dup2 => decide (len = 1) | _ => false)
  | .iaload => (match op with | .iaload => decide (len = 1) | _ => false)
  | .baload => (match op with | .baload => decide (len = 1) | _ => false)
  | .laload => (match op with | .laload => decide (len = 1) | _ => false)
  | .aaload => (match op with | .aaload => decide (len = 1) | _ => false)
  | .iastore => (match op with | .iastore => decide (len = 1) | _ => false)
  | .bastore => (match op with | .bastore => decide (len = 1) | _ => false)
  | .lastore => (match op with | .lastore => decide (len = 1) | _ => false)
  | .arraylength => (match op with | .arraylength => decide (len = 1) | _ => false)
  | _ => false
section CKB
variable {p : Program} {l : Launch} {e : Env} {R : Room} {s : State} {m : MethodId} {args : Array Value} {below : List Frame} {meth : Method} {c : Code} {cells slots : Nat} {Qf : State → Prop} {g : Gx} {A0 : Nat → Prop} {sw : Bool} {A1 : Nat → Nat} {nL : Nat} {b : ByteArray} {own : Nat} {E : Er} {Q : Ql} {pc nx : Nat} {xs : Ex} {ls st : List Vl} {M : Mm}
theorem chkB_ok {ins op : Instr} {len : Nat} (F : Fr p s m c g A0 nL b own) (hd : decode b pc = .ok (ins, len)) (hc : chkB own pc ins len op xs = true) (h : zstep sw E Q (XK p l e R s m args below meth c cells slots Qf g A0 sw A1 nL) op (pc + len) xs ls st M) : XK p l e R s m args below meth c cells slots Qf g A0 sw A1 nL pc ls st M := by
  unfold chkB at hc
  split at hc
  · split at hc
    · have h1 := of_decide_eq_true hc
      subst h1
      exact s_iadd F hd h
    · cases hc
  · split at hc
    · have h1 := of_decide_eq_true hc
      subst h1
      exact s_isub F hd h
    · cases hc
  · split at hc
    · have h1 := of_decide_eq_true hc
      subst h1
      exact s_imul F hd h
    · cases hc
  · split at hc
    · have h1 := of_decide_eq_true hc
      subst h1
      exact s_idiv F hd h
    · cases hc
  · split at hc
    · have h1 := of_decide_eq_true hc
      subst h1
      exact s_irem F hd h
    · cases hc
  · split at hc
    · have h1 := of_decide_eq_true hc
      subst h1
      exact s_iand F hd h
    · cases hc
  · split at hc
    · have h1 := of_decide_eq_true hc
      subst h1
      exact s_ior F hd h
    · cases hc
  · split at hc
    · have h1 := of_decide_eq_true hc
      subst h1
      exact s_ixor F hd h
    · cases hc
  · split at hc
    · have h1 := of_decide_eq_true hc
      subst h1
      exact s_ishl F hd h
    · cases hc
  · split at hc
    · have h1 := of_decide_eq_true hc
      subst h1
      exact s_ishr F hd h
    · cases hc
  · split at hc
    · have h1 := of_decide_eq_true hc
      subst h1
      exact s_iushr F hd h
    · cases hc
  · split at hc
    · have h1 := of_decide_eq_true hc
      subst h1
      exact s_i2c F hd h
    · cases hc
  · split at hc
    · have h1 := of_decide_eq_true hc
      subst h1
      exact s_l2i F hd h
    · cases hc
  · split at hc
    · have h1 := of_decide_eq_true hc
      subst h1
      exact s_lshl F hd h
    · cases hc
  · split at hc
    · have h1 := of_decide_eq_true hc
      subst h1
      exact s_lshr F hd h
    · cases hc
  · split at hc
    · have h1 := of_decide_eq_true hc
      subst h1
      exact s_lushr F hd h
    · cases hc
  · split at hc
    · have h1 := of_decide_eq_true hc
      subst h1
      exact s_i2l F hd h
    · cases hc
  · split at hc
    · have h1 := of_decide_eq_true hc
      subst h1
      exact s_ineg F hd h
    · cases hc
  · split at hc
    · have h1 := of_decide_eq_true hc
      subst h1
      exact s_ladd F hd h
    · cases hc
  · split at hc
    · have h1 := of_decide_eq_true hc
      subst h1
      exact s_land F hd h
    · cases hc
  · split at hc
    · have h1 := of_decide_eq_true hc
      subst h1
      exact s_lor F hd h
    · cases hc
  · split at hc
    · have h1 := of_decide_eq_true hc
      subst h1
      exact s_lcmp F hd h
    · cases hc
  · split at hc
    · have h1 := of_decide_eq_true hc
      subst h1
      exact s_dup F hd h
    · cases hc
  · split at hc
    · have h1 := of_decide_eq_true hc
      subst h1
      exact s_pop F hd h
    · cases hc
  · split at hc
    · have h1 := of_decide_eq_true hc
      subst h1
      exact s_dup2 F hd h
    · cases hc
  · split at hc
    · have h1 := of_decide_eq_true hc
      subst h1
      exact s_iaload F hd h
    · cases hc
  · split at hc
    · have h1 := of_decide_eq_true hc
      subst h1
      exact s_baload F hd h
    · cases hc
  · split at hc
    · have h1 := of_decide_eq_true hc
      subst h1
      exact s_laload F hd h
    · cases hc
  · split at hc
    · have h1 := of_decide_eq_true hc
      subst h1
      exact s_aaload F hd h
    · cases hc
  · split at hc
    · have h1 := of_decide_eq_true hc
      subst h1
      exact s_iastore F hd h
    · cases hc
  · split at hc
    · have h1 := of_decide_eq_true hc
      subst h1
      exact s_bastore F hd h
    · cases hc
  · split at hc
    · have h1 := of_decide_eq_true hc
      subst h1
      exact s_lastore F hd h
    · cases hc
  · split at hc
    · have h1 := of_decide_eq_true hc
      subst h1
      exact s_alen F hd h
    · cases hc
  · cases hc
end CKB
def chkC (own pc : Nat) (ins : Instr) (len : Nat) (op : Instr) (xs : Ex) : Bool := match ins with
  | .if_icmp .eq off => (match op with | .if_icmp .eq _ => decide (len = 3) && decide ((pc : Int) + off = (x1 xs : Int)) | _ => false)
  | .ifCond .eq off => (match op with | .ifCond .eq _ => decide (len = 3) && decide ((pc : Int) + off = (x1 xs : Int)) | _ => false)
  | .if_icmp .ne off => (match op with | .if_icmp .ne _ => decide (len = 3) && decide ((pc : Int) + off = (x1 xs : Int)) | _ => false)
  | .ifCond .ne off => (match op with | .ifCond .ne _ => decide (len = 3) && decide ((pc : Int) + off = (x1 xs : Int)) | _ => false)
  | .if_icmp .lt off => (match op with | .if_icmp .lt _ => decide (len = 3) && decide ((pc : Int) + off = (x1 xs : Int)) | _ => false)
  | .ifCond .lt off => (match op with | .ifCond .lt _ => decide (len = 3) && decide ((pc : Int) + off = (x1 xs : Int)) | _ => false)
  | .if_icmp .ge off => (match op with | .if_icmp .ge _ => decide (len = 3) && decide ((pc : Int) + off = (x1 xs : Int)) | _ => false)
  | .ifCond .ge off => (match op with | .ifCond .ge _ => decide (len = 3) && decide ((pc : Int) + off = (x1 xs : Int)) | _ => false)
  | .if_icmp .gt off => (match op with | .if_icmp .gt _ => decide (len = 3) && decide ((pc : Int) + off = (x1 xs : Int)) | _ => false)
  | .ifCond .gt off => (match op with | .ifCond .gt _ => decide (len = 3) && decide ((pc : Int) + off = (x1 xs : Int)) | _ => false)
  | .if_icmp .le off => (match op with | .if_icmp .le _ => decide (len = 3) && decide ((pc : Int) + off = (x1 xs : Int)) | _ => false)
  | .ifCond .le off => (match op with | .ifCond .le _ => decide (len = 3) && decide ((pc : Int) + off = (x1 xs : Int)) | _ => false)
  | .goto off => (match op with | .goto _ => decide (len = 3) && decide ((pc : Int) + off = (x1 xs : Int)) | _ => false)
  | .tableswitch d lo hi offs => (match op with | .tableswitch _ _ _ _ => decide (len = len) && decide (lo = xI xs) && decide (hi + 1 = xI xs + (x3 xs).length) && decide (offs.toList.map (fun o => (pc : Int) + o) = (x3 xs).map (fun t : Nat => (t : Int))) && decide ((pc : Int) + d = (x1 xs : Int)) | _ => false)
  | _ => false
section CKC
variable {p : Program} {l : Launch} {e : Env} {R : Room} {s : State} {m : MethodId} {args : Array Value} {below : List Frame} {meth : Method} {c : Code} {cells slots : Nat} {Qf : State → Prop} {g : Gx} {A0 : Nat → Prop} {sw : Bool} {A1 : Nat → Nat} {nL : Nat} {b : ByteArray} {own : Nat} {E : Er} {Q : Ql} {pc nx : Nat} {xs : Ex} {ls st : List Vl} {M : Mm}
theorem chkC_ok {ins op : Instr} {len : Nat} (F : Fr p s m c g A0 nL b own) (hd : decode b pc = .ok (ins, len)) (hc : chkC own pc ins len op xs = true) (h : zstep sw E Q (XK p l e R s m args below meth c cells slots Qf g A0 sw A1 nL) op (pc + len) xs ls st M) : XK p l e R s m args below meth c cells slots Qf g A0 sw A1 nL pc ls st M := by
  unfold chkC at hc
  split at hc
  · split at hc
    · simp only [Bool.and_eq_true, decide_eq_true_eq] at hc
      obtain ⟨h1, h2⟩ := hc
      subst h1
      exact s_icmp_eq F hd h2 h
    · cases hc
  · split at hc
    · simp only [Bool.and_eq_true, decide_eq_true_eq] at hc
      obtain ⟨h1, h2⟩ := hc
      subst h1
      exact s_if_eq F hd h2 h
    · cases hc
  · split at hc
    · simp only [Bool.and_eq_true, decide_eq_true_eq] at hc
      obtain ⟨h1, h2⟩ := hc
      subst h1
      exact s_icmp_ne F hd h2 h
    · cases hc
  · split at hc
    · simp only [Bool.and_eq_true, decide_eq_true_eq] at hc
      obtain ⟨h1, h2⟩ := hc
      subst h1
      exact s_if_ne F hd h2 h
    · cases hc
  · split at hc
    · simp only [Bool.and_eq_true, decide_eq_true_eq] at hc
      obtain ⟨h1, h2⟩ := hc
      subst h1
      exact s_icmp_lt F hd h2 h
    · cases hc
  · split at hc
    · simp only [Bool.and_eq_true, decide_eq_true_eq] at hc
      obtain ⟨h1, h2⟩ := hc
      subst h1
      exact s_if_lt F hd h2 h
    · cases hc
  · split at hc
    · simp only [Bool.and_eq_true, decide_eq_true_eq] at hc
      obtain ⟨h1, h2⟩ := hc
      subst h1
      exact s_icmp_ge F hd h2 h
    · cases hc
  · split at hc
    · simp only [Bool.and_eq_true, decide_eq_true_eq] at hc
      obtain ⟨h1, h2⟩ := hc
      subst h1
      exact s_if_ge F hd h2 h
    · cases hc
  · split at hc
    · simp only [Bool.and_eq_true, decide_eq_true_eq] at hc
      obtain ⟨h1, h2⟩ := hc
      subst h1
      exact s_icmp_gt F hd h2 h
    · cases hc
  · split at hc
    · simp only [Bool.and_eq_true, decide_eq_true_eq] at hc
      obtain ⟨h1, h2⟩ := hc
      subst h1
      exact s_if_gt F hd h2 h
    · cases hc
  · split at hc
    · simp only [Bool.and_eq_true, decide_eq_true_eq] at hc
      obtain ⟨h1, h2⟩ := hc
      subst h1
      exact s_icmp_le F hd h2 h
    · cases hc
  · split at hc
    · simp only [Bool.and_eq_true, decide_eq_true_eq] at hc
      obtain ⟨h1, h2⟩ := hc
      subst h1
      exact s_if_le F hd h2 h
    · cases hc
  · split at hc
    · simp only [Bool.and_eq_true, decide_eq_true_eq] at hc
      obtain ⟨h1, h2⟩ := hc
      subst h1
      exact s_goto F hd h2 h
    · cases hc
  · split at hc
    · simp only [Bool.and_eq_true, decide_eq_true_eq] at hc
      obtain ⟨⟨⟨⟨h1, h2⟩, h3⟩, h4⟩, h5⟩ := hc
      exact s_tsw F hd h2 h3 h4 h5 h
    · cases hc
  · cases hc
end CKC
def chkD (own pc : Nat) (ins : Instr) (len : Nat) (op : Instr) (xs : Ex) : Bool := match ins with
  | .getfield i => (match op with | .getfield _ => decide (len = 3) && decide (xI xs = (x2 xs : Int)) && flL.any (fun q => decide (q.1 = own) && decide (q.2.1 = i) && decide (q.2.2.1 = x1 xs) && decide (q.2.2.2.1 = x2 xs)) | _ => false)
  | .putfield i => (match op with | .putfield _ => decide (len = 3) && decide (xI xs = (x2 xs : Int)) && flL.any (fun q => decide (q.1 = own) && decide (q.2.1 = i) && decide (q.2.2.1 = x1 xs) && decide (q.2.2.2.1 = x2 xs)) | _ => false)
  | .getstatic i => (match op with | .getstatic _ => decide (len = 3) && decide (lw_tbl[(x3 xs).getD 0 0]? = some (stW own i (x2 xs))) && decide ((x1 xs = 0 ∧ x2 xs = 50 ∧ xI xs = 1) ∨ (x1 xs = 1 ∧ (x2 xs = 0 ∨ x2 xs = 1 ∨ x2 xs = 99 ∨ x2 xs = 10))) | _ => false)
  | _ => false
section CKD
variable {p : Program} {l : Launch} {e : Env} {R : Room} {s : State} {m : MethodId} {args : Array Value} {below : List Frame} {meth : Method} {c : Code} {cells slots : Nat} {Qf : State → Prop} {g : Gx} {A0 : Nat → Prop} {sw : Bool} {A1 : Nat → Nat} {nL : Nat} {b : ByteArray} {own : Nat} {E : Er} {Q : Ql} {pc nx : Nat} {xs : Ex} {ls st : List Vl} {M : Mm}
theorem chkD_ok {ins op : Instr} {len : Nat} (F : Fr p s m c g A0 nL b own) (hd : decode b pc = .ok (ins, len)) (hc : chkD own pc ins len op xs = true) (h : zstep sw E Q (XK p l e R s m args below meth c cells slots Qf g A0 sw A1 nL) op (pc + len) xs ls st M) : XK p l e R s m args below meth c cells slots Qf g A0 sw A1 nL pc ls st M := by
  unfold chkD at hc
  split at hc
  · split at hc
    · simp only [Bool.and_eq_true, decide_eq_true_eq] at hc
      obtain ⟨⟨h1, h2⟩, h3⟩ := hc
      subst h1
      obtain ⟨q, hqm, hqe⟩ := List.any_eq_true.mp h3
      simp only [Bool.and_eq_true, decide_eq_true_eq] at hqe
      obtain ⟨j, hj⟩ := List.getElem?_of_mem hqm
      obtain ⟨q1, q2, q3, q4, q5, q6⟩ := q
      obtain ⟨⟨⟨e1, e2⟩, e3⟩, e4⟩ := hqe
      dsimp only at e1 e2 e3 e4
      rw [e1, e2, e3, e4] at hj
      exact s_getf F hd hj h2 h
    · cases hc
  · split at hc
    · simp only [Bool.and_eq_true, decide_eq_true_eq] at hc
      obtain ⟨⟨h1, h2⟩, h3⟩ := hc
      subst h1
      obtain ⟨q, hqm, hqe⟩ := List.any_eq_true.mp h3
      simp only [Bool.and_eq_true, decide_eq_true_eq] at hqe
      obtain ⟨j, hj⟩ := List.getElem?_of_mem hqm
      obtain ⟨q1, q2, q3, q4, q5, q6⟩ := q
      obtain ⟨⟨⟨e1, e2⟩, e3⟩, e4⟩ := hqe
      dsimp only at e1 e2 e3 e4
      rw [e1, e2, e3, e4] at hj
      exact s_putf F hd hj h2 h
    · cases hc
  · split at hc
    · simp only [Bool.and_eq_true, decide_eq_true_eq] at hc
      obtain ⟨⟨h1, h2⟩, h3⟩ := hc
      subst h1
      exact s_gets F hd h2 h3 h
    · cases hc
  · cases hc
end CKD
def chkE (own pc : Nat) (ins : Instr) (len : Nat) (op : Instr) (xs : Ex) : Bool := match ins with
  | .invokestatic i => (match op with | .invokestatic _ => decide (len = 3) && mS (x1 xs) && decide (mA (x1 xs) = x2 xs) && mlL.any (fun q => decide (q.1 = own) && decide (q.2.1 = i) && decide (q.2.2.1 = x1 xs)) | .invokedynamic _ => decide (len = 3) && decide (lw_tbl[x1 xs]? = some (.methodLink (ownN own) i arraycopyName)) | .dup_x1 => decide (len = 3) && decide (lw_tbl[x1 xs]? = some (.methodLink (ownN own) i Lib.Math.min.name)) | .dup_x2 => decide (len = 3) && decide (lw_tbl[x1 xs]? = some (.methodLink (ownN own) i Lib.Math.max.name)) | _ => false)
  | .invokevirtual i => (match op with | .invokevirtual _ => decide (len = 3) && !mS (x1 xs) && decide (mA (x1 xs) = x2 xs) && decide ((mOwn (x1 xs) : Int) = xI xs) && mlL.any (fun q => decide (q.1 = own) && decide (q.2.1 = i) && decide (q.2.2.1 = x1 xs)) | _ => false)
  | _ => false
section CKE
variable {p : Program} {l : Launch} {e : Env} {R : Room} {s : State} {m : MethodId} {args : Array Value} {below : List Frame} {meth : Method} {c : Code} {cells slots : Nat} {Qf : State → Prop} {g : Gx} {A0 : Nat → Prop} {sw : Bool} {A1 : Nat → Nat} {nL : Nat} {b : ByteArray} {own : Nat} {E : Er} {Q : Ql} {pc nx : Nat} {xs : Ex} {ls st : List Vl} {M : Mm}
theorem chkE_ok {d : Nat} {ins op : Instr} {len : Nat} (F : Fr p s m c g A0 nL b own) (hR : d + 1 ≤ R.frames ∧ 40 * d + 40 ≤ R.locals) (hR1 : 1 ≤ R.frames ∧ 40 ≤ R.locals) (hcs : cells ≤ R.cells ∧ slots ≤ R.slots) (hE : ∀ μ as M' Q' A, E μ as M' Q' → μ < 183 → okM g M' → oks as → adr A0 A → MetU l g A0 d A μ as M' Q') (hd : decode b pc = .ok (ins, len)) (hc : chkE own pc ins len op xs = true) (h : zstep sw E Q (XK p l e R s m args below meth c cells slots Qf g A0 sw A1 nL) op (pc + len) xs ls st M) : XK p l e R s m args below meth c cells slots Qf g A0 sw A1 nL pc ls st M := by
  unfold chkE at hc
  split at hc
  · split at hc
    · simp only [Bool.and_eq_true, decide_eq_true_eq] at hc
      obtain ⟨⟨⟨h1, h2⟩, h3⟩, h4⟩ := hc
      subst h1
      obtain ⟨q, hqm, hqe⟩ := List.any_eq_true.mp h4
      simp only [Bool.and_eq_true, decide_eq_true_eq] at hqe
      obtain ⟨j, hj⟩ := List.getElem?_of_mem hqm
      obtain ⟨q1, q2, q3, q4, q5⟩ := q
      obtain ⟨⟨e1, e2⟩, e3⟩ := hqe
      dsimp only at e1 e2 e3
      rw [e1, e2, e3] at hj
      exact s_calls F hd hj h2 h3 hR hcs hE h
    · simp only [Bool.and_eq_true, decide_eq_true_eq] at hc
      obtain ⟨h1, h2⟩ := hc
      subst h1
      exact s_copy F hd (lw_at h2) ac_1 ac_2 ac_3 hR1 h
    · simp only [Bool.and_eq_true, decide_eq_true_eq] at hc
      obtain ⟨h1, h2⟩ := hc
      subst h1
      exact s_min F hd (lw_at h2) hR1 hcs h
    · simp only [Bool.and_eq_true, decide_eq_true_eq] at hc
      obtain ⟨h1, h2⟩ := hc
      subst h1
      exact s_max F hd (lw_at h2) hR1 hcs h
    · cases hc
  · split at hc
    · simp only [Bool.and_eq_true, decide_eq_true_eq, Bool.not_eq_true'] at hc
      obtain ⟨⟨⟨⟨h1, h2⟩, h3⟩, h4⟩, h5⟩ := hc
      subst h1
      obtain ⟨q, hqm, hqe⟩ := List.any_eq_true.mp h5
      simp only [Bool.and_eq_true, decide_eq_true_eq] at hqe
      obtain ⟨j, hj⟩ := List.getElem?_of_mem hqm
      obtain ⟨q1, q2, q3, q4, q5⟩ := q
      obtain ⟨⟨e1, e2⟩, e3⟩ := hqe
      dsimp only at e1 e2 e3
      rw [e1, e2, e3] at hj
      exact s_callv F hd hj h2 h3 h4 hR hcs hE h
    · cases hc
  · cases hc
end CKE
def chkR (μ : Nat) (ins : Instr) (len : Nat) (op : Instr) (xs : Ex) : Bool := match ins with
  | .ireturn => (match op with | .ireturn => decide (len = 1) && decide (xI xs = rkd (mR μ)) && decide (¬ mR μ = some .long) && decide (¬ mR μ = none) | _ => false)
  | .lreturn => (match op with | .lreturn => decide (len = 1) && decide (mR μ = some .long) | _ => false)
  | .return_ => (match op with | .return_ => decide (len = 1) && decide (mR μ = none) | _ => false)
  | _ => false
def chkS (own : Nat) (b : ByteArray) (pc : Nat) (xs : Ex) : Bool := decide (decode b pc = .ok (.aload_n 0, 1)) && decide (decode b (pc + 1) = .ok (.getfield (x1 xs), 3)) && decide (decode b (pc + 4) = .ok (.astore_n 2, 1)) && decide (decode b (pc + 5) = .ok (.aload_n 0, 1)) && decide (decode b (pc + 6) = .ok (.aload_n 0, 1)) && decide (decode b (pc + 7) = .ok (.getfield (x2 xs), 3)) && decide (decode b (pc + 10) = .ok (.putfield (x1 xs), 3)) && decide (decode b (pc + 13) = .ok (.aload_n 0, 1)) && decide (decode b (pc + 14) = .ok (.aload_n 2, 1)) && decide (decode b (pc + 15) = .ok (.putfield (x2 xs), 3)) && flL.any (fun q => decide (q.1 = own) && decide (q.2.1 = x1 xs) && decide (q.2.2.1 = 0) && decide (q.2.2.2.1 = 11) && decide (q.2.2.2.2.1 = 0)) && flL.any (fun q => decide (q.1 = own) && decide (q.2.1 = x2 xs) && decide (q.2.2.1 = 0) && decide (q.2.2.2.1 = 12) && decide (q.2.2.2.2.1 = 0))
def isSw (op : Instr) : Bool := match op with
  | .swap => true
  | _ => false
/-- a row of a table, of a method (r: with its returns) -/
def chkG (r : Bool) (own μ : Nat) (b : ByteArray) (pc : Nat) (op : Instr) (nx : Nat) (xs : Ex) : Bool := if isSw op then decide (nx = pc + 18) && chkS own b pc xs else match decode b pc with
  | .ok (ins, len) => decide (nx = pc + len) && (chkA own pc ins len op xs || chkB own pc ins len op xs || chkC own pc ins len op xs || chkD own pc ins len op xs || chkE own pc ins len op xs || (r && chkR μ ins len op xs))
  | .error _ => false
def tabOk (r : Bool) (own μ : Nat) (b : ByteArray) (c : Cd) : Bool := c.all (fun l => l.all (fun q => chkG r own μ b q.1 q.2.1 q.2.2.1 q.2.2.2))
theorem fnd_mem {pc : Nat} {en : Ent} : ∀ {l : List (Nat × Ent)}, fnd pc l = some en → (pc, en) ∈ l
  | [], h => by cases h
  | q :: r, h => by
    unfold fnd at h
    by_cases e : q.1 = pc
    · rw [if_pos e] at h
      cases h
      rw [← e]
      exact List.mem_cons_self
    · rw [if_neg e] at h
      exact List.mem_cons_of_mem _ (fnd_mem h)
theorem tab_row {r : Bool} {own μ : Nat} {b : ByteArray} {c : Cd} (h : tabOk r own μ b c = true) {pc nx : Nat} {op : Instr} {xs : Ex} (hl : lk c pc = some (op, nx, xs)) : chkG r own μ b pc op nx xs = true := by
  have h1 := fnd_mem hl
  rw [List.getD_eq_getElem?_getD] at h1
  cases hq : c[pc / 16]? with
  | none => rw [hq] at h1; cases h1
  | some l =>
    rw [hq] at h1
    have h2 := List.all_eq_true.mp h l (List.mem_of_getElem? hq)
    exact List.all_eq_true.mp h2 (pc, (op, nx, xs)) h1
section CKG
variable {p : Program} {l : Launch} {e : Env} {R : Room} {s : State} {m : MethodId} {args : Array Value} {below : List Frame} {meth : Method} {c : Code} {cells slots : Nat} {Qf : State → Prop} {g : Gx} {A0 : Nat → Prop} {sw : Bool} {A1 : Nat → Nat} {nL : Nat} {b : ByteArray} {own : Nat} {E : Er} {Q : Ql} {pc nx : Nat} {xs : Ex} {ls st : List Vl} {M : Mm}
theorem chkS_ok (F : Fr p s m c g A0 nL b own) (hc : chkS own b pc xs = true) (h : zstep sw E Q (XK p l e R s m args below meth c cells slots Qf g A0 sw A1 nL) .swap (pc + 18) xs ls st M) : XK p l e R s m args below meth c cells slots Qf g A0 sw A1 nL pc ls st M := by
  simp only [chkS, Bool.and_eq_true, decide_eq_true_eq] at hc
  obtain ⟨⟨⟨⟨⟨⟨⟨⟨⟨⟨⟨d0, d1⟩, d2⟩, d3⟩, d4⟩, d5⟩, d6⟩, d7⟩, d8⟩, d9⟩, w1⟩, w2⟩ := hc
  obtain ⟨q, hqm, hqe⟩ := List.any_eq_true.mp w1
  simp only [Bool.and_eq_true, decide_eq_true_eq] at hqe
  obtain ⟨j, hj⟩ := List.getElem?_of_mem hqm
  obtain ⟨q1, q2, q3, q4, q5, q6⟩ := q
  obtain ⟨⟨⟨⟨e1, e2⟩, e3⟩, e4⟩, e5⟩ := hqe
  dsimp only at e1 e2 e3 e4 e5
  rw [e1, e2, e3, e4, e5] at hj
  obtain ⟨k, hkm, hke⟩ := List.any_eq_true.mp w2
  simp only [Bool.and_eq_true, decide_eq_true_eq] at hke
  obtain ⟨i, hi⟩ := List.getElem?_of_mem hkm
  obtain ⟨k1, k2, k3, k4, k5, k6⟩ := k
  obtain ⟨⟨⟨⟨z1, z2⟩, z3⟩, z4⟩, z5⟩ := hke
  dsimp only at z1 z2 z3 z4 z5
  rw [z1, z2, z3, z4, z5] at hi
  exact s_swap F d0 d1 d2 d3 d4 d5 d6 d7 d8 d9 (fl_get hj).1 (fl_get hi).1 h
theorem chkG_ok {d μ : Nat} {op : Instr} (F : Fr p s m c g A0 nL b own) (hR : d + 1 ≤ R.frames ∧ 40 * d + 40 ≤ R.locals) (hcs : cells ≤ R.cells ∧ slots ≤ R.slots) (hE : ∀ μ as M' Q' A, E μ as M' Q' → μ < 183 → okM g M' → oks as → adr A0 A → MetU l g A0 d A μ as M' Q') (hc : chkG false own μ b pc op nx xs = true) (h : zstep sw E Q (XK p l e R s m args below meth c cells slots Qf g A0 sw A1 nL) op nx xs ls st M) : XK p l e R s m args below meth c cells slots Qf g A0 sw A1 nL pc ls st M := by
  unfold chkG at hc
  by_cases hs : isSw op = true
  · rw [if_pos hs] at hc
    simp only [Bool.and_eq_true, decide_eq_true_eq] at hc
    unfold isSw at hs
    split at hs
    · rw [hc.1] at h
      exact chkS_ok F hc.2 h
    · cases hs
  · rw [if_neg hs] at hc
    split at hc
    · rename_i ins len hd
      simp only [Bool.and_eq_true, Bool.or_eq_true, decide_eq_true_eq] at hc
      obtain ⟨hn, hc⟩ := hc
      rw [hn] at h
      rcases hc with ((((hc | hc) | hc) | hc) | hc) | hc
      · exact chkA_ok F hd hc h
      · exact chkB_ok F hd hc h
      · exact chkC_ok F hd hc h
      · exact chkD_ok F hd hc h
      · exact chkE_ok F hR ⟨by omega, by omega⟩ hcs hE hd hc h
      · cases hc.1
    · cases hc
theorem chkM_ok {d μ : Nat} {op : Instr} (F : Fr p s m c g A0 nL b own) (hR : d + 1 ≤ R.frames ∧ 40 * d + 40 ≤ R.locals) (hcs : cells ≤ R.cells ∧ slots ≤ R.slots) (hE : ∀ μ as M' Q' A, E μ as M' Q' → μ < 183 → okM g M' → oks as → adr A0 A → MetU l g A0 d A μ as M' Q') (hμ : μ < 183) (hr : meth.sig.returnType = mR μ) (hlk : meth.locks = false) (hsw : sw = true → μ = 15) (hc : chkG true own μ b pc op nx xs = true) (h : zstep sw E Q (XK p l e R s m args below meth c cells slots (MQ below (QcU g A0 μ A1 Q) args s cells slots A0) g A0 sw A1 nL) op nx xs ls st M) : XK p l e R s m args below meth c cells slots (MQ below (QcU g A0 μ A1 Q) args s cells slots A0) g A0 sw A1 nL pc ls st M := by
  by_cases hg : chkG false own μ b pc op nx xs = true
  · exact chkG_ok F hR hcs hE hg h
  · unfold chkG at hc hg
    by_cases hs : isSw op = true
    · rw [if_pos hs] at hc hg
      exact absurd hc hg
    · rw [if_neg hs] at hc hg
      split at hc
      · rename_i ins len hd
        rw [hd] at hg
        simp only [Bool.and_eq_true, Bool.or_eq_true, decide_eq_true_eq] at hc hg
        obtain ⟨hn, hc⟩ := hc
        have hc : chkR μ ins len op xs = true := by
          rcases hc with hc | hc
          · exact absurd ⟨hn, Or.inl hc⟩ hg
          · exact hc.2
        rw [hn] at h
        unfold chkR at hc
        split at hc
        · split at hc
          · simp only [Bool.and_eq_true, decide_eq_true_eq] at hc
            obtain ⟨⟨⟨h1, h2⟩, h3⟩, h4⟩ := hc
            subst h1
            exact s_iret F hμ hr hlk hd h2 h3 h4 hsw h
          · cases hc
        · split at hc
          · simp only [Bool.and_eq_true, decide_eq_true_eq] at hc
            obtain ⟨h1, h2⟩ := hc
            subst h1
            exact s_lret F hr hlk hd h2 hsw h
          · cases hc
        · split at hc
          · simp only [Bool.and_eq_true, decide_eq_true_eq] at hc
            obtain ⟨h1, h2⟩ := hc
            subst h1
            exact s_vret F hr hlk hd h2 hsw h
          · cases hc
        · cases hc
      · cases hc
end CKG
