/-! THE CLEAN MACHINE: values, memory, one step of each instruction as a predicate transformer -/
abbrev Vl : Type := Int ⊕ Int ⊕ Nat ⊕ (Nat × Int) ⊕ Nat ⊕ Nat ⊕ Unit
abbrev vI (x : Int) : Vl := .inl x
abbrev vL (x : Int) : Vl := .inr (.inl x)
abbrev vR (k : Nat) : Vl := .inr (.inr (.inl k))
abbrev vW (k : Nat) (i : Int) : Vl := .inr (.inr (.inr (.inl (k, i))))
abbrev vT (t : Nat) : Vl := .inr (.inr (.inr (.inr (.inl t))))
abbrev vK (t : Nat) : Vl := .inr (.inr (.inr (.inr (.inr (.inl t)))))
abbrev vU : Vl := .inr (.inr (.inr (.inr (.inr (.inr ())))))
abbrev Mm : Type := Nat → Int → Int
def fset (f : Int → Int) (i x : Int) : Int → Int := fun j => if j = i then x else f j
def rset (M : Mm) (k : Nat) (f : Int → Int) : Mm := fun j => if j = k then f else M j
def mset (M : Mm) (k : Nat) (i x : Int) : Mm := rset M k (fset (M k) i x)
def wr (x : Int) : Int := Int.bmod x 4294967296
def wL (x : Int) : Int := Int.bmod x 18446744073709551616
def inI (x : Int) : Prop := -2147483648 ≤ x ∧ x ≤ 2147483647
def inJ (x : Int) : Prop := -9223372036854775808 ≤ x ∧ x ≤ 9223372036854775807
def zand (x y : Int) : Int := (Int32.ofInt x &&& Int32.ofInt y).toInt
def zor (x y : Int) : Int := (Int32.ofInt x ||| Int32.ofInt y).toInt
def zxor (x y : Int) : Int := (Int32.ofInt x ^^^ Int32.ofInt y).toInt
def zshl (x y : Int) : Int := (Int32.ofInt x <<< (Int32.ofInt y &&& 31)).toInt
def zshr (x y : Int) : Int := (Int32.ofInt x >>> (Int32.ofInt y &&& 31)).toInt
def zushr (x y : Int) : Int := ((Int32.ofInt x).toUInt32 >>> ((Int32.ofInt y).toUInt32 &&& Int32.toUInt32 31)).toInt32.toInt
def zi2c (x : Int) : Int := ((Int32.ofInt x).toUInt32 % 65536).toInt32.toInt
def jand (x y : Int) : Int := (Int64.ofInt x &&& Int64.ofInt y).toInt
def jor (x y : Int) : Int := (Int64.ofInt x ||| Int64.ofInt y).toInt
def jshl (x y : Int) : Int := (Int64.ofInt x <<< ((Int32.ofInt y).toInt64 &&& 63)).toInt
def jshr (x y : Int) : Int := (Int64.ofInt x >>> ((Int32.ofInt y).toInt64 &&& 63)).toInt
def jushr (x y : Int) : Int := ((Int64.ofInt x).toUInt64 >>> ((Int32.ofInt y).toInt64.toUInt64 &&& Int64.toUInt64 63)).toInt64.toInt
def jcmp (x y : Int) : Int := if y < x then 1 else if x = y then 0 else -1
/-- the cells' shapes: 0 int array, 1 long array, 2 boolean array, 3 array of rows, 4 object -/
def sh (k : Nat) : Nat × Nat × List Nat := shL.getD k (9, 0, [])
/-- kinds of the fields of a kind of object: 0 int, 1 long, 2 boolean, 3 reference -/
def ctk (ci j : Nat) : Nat := (ctL.getD ci []).getD j 9
abbrev Ex : Type := Int × Nat × Nat × List Nat
abbrev Ent : Type := Instr × Nat × Ex
abbrev Kt : Type := Nat → List Vl → List Vl → Mm → Prop
abbrev Ql : Type := Option Vl → Mm → Prop
def isA (v : Vl) : Bool := match v with
  | .inl _ => false
  | .inr (.inl _) => false
  | .inr (.inr (.inr (.inr (.inl 99)))) => false
  | .inr (.inr (.inr (.inr (.inr (.inr _))))) => false
  | _ => true
/-- no long stands so that its second half is place i -/
def noL (ls : List Vl) (i : Nat) : Bool := match i with
  | 0 => true
  | j + 1 => match ls.getD j vU with
    | .inr (.inl _) => false
    | _ => true
def zcat (v : Vl) : Nat := match v with
  | .inr (.inl _) => 2
  | _ => 1
/-- not one of the two books' cells -/
def nbk (v : Vl) : Bool := match v with
  | .inr (.inr (.inl k)) => k < 58 || 76 ≤ k
  | .inr (.inr (.inr (.inl (k, _)))) => k + 6 ≤ 58 || 76 ≤ k
  | _ => true
def zcmp (c : Jvm.ClassFile.Cond) (x y : Int) : Prop := match c with
  | .eq => x = y
  | .ne => ¬ x = y
  | .lt => x < y
  | .ge => y ≤ x
  | .gt => y < x
  | .le => x ≤ y
def swK (lo : Int) (ts : List Nat) (x : Int) (K : Nat → Prop) : Prop := match ts with
  | [] => True
  | t :: r => (x = lo → K t) ∧ swK (lo + 1) r x K
/-- what a copy of n places makes of a row -/
def fcpy (f g : Int → Int) (sp dp n : Int) : Int → Int := fun j => if dp ≤ j ∧ j < dp + n then f (sp + (j - dp)) else g j
/-- the two books' cells change places -/
def sgm (k : Nat) : Nat := if 58 ≤ k ∧ k < 67 then k + 9 else if 67 ≤ k ∧ k < 76 then k - 9 else k
def mswap (M : Mm) : Mm := fun k => M (sgm k)
def retOk (kind : Int) (v : Int) : Prop := if kind = 0 then True else if kind = 1 then (v = 0 ∨ v = 1) else if kind = 2 then (0 ≤ v ∧ v < 65536) else (-128 ≤ v ∧ v < 128)
abbrev Er : Type := Nat → List Vl → Mm → Ql → Prop
def xI (xs : Ex) : Int := xs.1
def x1 (xs : Ex) : Nat := xs.2.1
def x2 (xs : Ex) : Nat := xs.2.2.1
def x3 (xs : Ex) : List Nat := xs.2.2.2
def ald (M : Mm) (kd : Nat) (a : Vl) (i : Int) (K : Int → Prop) : Prop := match a with
  | .inr (.inr (.inl k)) => match sh k with
    | (d, n, _) => d = kd ∧ (0 ≤ i ∧ i < n) ∧ K (M k i)
  | .inr (.inr (.inr (.inl (p, w)))) => match sh p with
    | (d, n, _) => d = kd ∧ (0 ≤ i ∧ i < n) ∧ K (M (p + w.toNat) i)
  | .inr (.inr (.inr (.inr (.inl t)))) => if t = 100 then kd = 0 ∧ (0 ≤ i ∧ i < M 201 0) ∧ K (M 200 i) else (if t < 2 ∨ t = 10 then kd = 0 else (kd = 2 ∧ t < 10)) ∧ (0 ≤ i ∧ i < ((tbL.getD t []).length : Int)) ∧ K ((tbL.getD t []).getD i.toNat 0)
  | _ => False
def ast (M : Mm) (kd : Nat) (a : Vl) (i x : Int) (K : Mm → Prop) : Prop := match a with
  | .inr (.inr (.inl k)) => match sh k with
    | (d, n, _) => d = kd ∧ (0 ≤ i ∧ i < n) ∧ K (mset M k i x)
  | .inr (.inr (.inr (.inl (p, w)))) => match sh p with
    | (d, n, _) => d = kd ∧ (0 ≤ i ∧ i < n) ∧ K (mset M (p + w.toNat) i x)
  | _ => False
def gfd (M : Mm) (xs : Ex) (a : Vl) (K : Vl → Prop) : Prop := match a with
  | .inr (.inr (.inl k)) => match sh k with
    | (d, ci, rs) => d = 4 ∧ ci = x1 xs ∧ match ctk (x1 xs) (x2 xs) with
      | 0 => K (vI (M k (xI xs)))
      | 1 => K (vL (M k (xI xs)))
      | 2 => K (vI (M k (xI xs)))
      | 3 => K (vR (rs.getD (x2 xs) 0))
      | _ => False
  | .inr (.inr (.inr (.inr (.inr (.inl t))))) => x1 xs = 100 ∧ t < 8 ∧ (if x2 xs = 0 then K (vT (2 + t)) else K (vI 0))
  | _ => False
def pfd (M : Mm) (xs : Ex) (a v : Vl) (K : Mm → Prop) : Prop := match a with
  | .inr (.inr (.inl k)) => match sh k with
    | (d, ci, _) => d = 4 ∧ ci = x1 xs ∧ match ctk (x1 xs) (x2 xs), v with
      | 0, .inl x => K (mset M k (xI xs) x)
      | 1, .inr (.inl x) => K (mset M k (xI xs) x)
      | 2, .inl x => (x = 0 ∨ x = 1) ∧ K (mset M k (xI xs) x)
      | _, _ => False
  | _ => False
def rcvOk (z : Int) (as : List Vl) : Prop := match as with
  | .inr (.inr (.inl k)) :: _ => (sh k).1 = 4 ∧ ((sh k).2.1 : Int) = z
  | .inr (.inr (.inr (.inr (.inr (.inl t))))) :: _ => z = 15 ∧ t < 8
  | _ => False
def callK (vr sw : Bool) (E : Er) (K : Kt) (nx : Nat) (xs : Ex) (ls st : List Vl) (M : Mm) : Prop :=
  ((st.take (x2 xs)).length = x2 xs ∧ ((st.drop (x2 xs)).map zcat).sum ≤ 8 ∧ (vr = true → rcvOk (xI xs) (st.take (x2 xs)).reverse) ∧ (x1 xs = 15 → sw = true ∧ ls.all nbk = true ∧ (st.drop (x2 xs)).all nbk = true)) ∧ E (x1 xs) (st.take (x2 xs)).reverse M (fun v M' => K nx ls (v.toList ++ st.drop (x2 xs)) M')
def zstep (sw : Bool) (E : Er) (Q : Ql) (K : Kt) (op : Instr) (nx : Nat) (xs : Ex) (ls st : List Vl) (M : Mm) : Prop := match op with
  | .iconst n => K nx ls (vI n :: st) M
  | .lconst _ => K nx ls (vL (xI xs) :: st) M
  | .iload i => match ls.getD i vU with
    | .inl v => K nx ls (vI v :: st) M
    | _ => False
  | .lload i => match ls.getD i vU with
    | .inr (.inl v) => K nx ls (vL v :: st) M
    | _ => False
  | .aload i => isA (ls.getD i vU) = true ∧ K nx ls (ls.getD i vU :: st) M
  | .istore i => match st with
    | .inl v :: r => (noL ls i = true ∧ i < ls.length) ∧ K nx (ls.set i (vI v)) r M
    | _ => False
  | .lstore i => match st with
    | .inr (.inl v) :: r => (noL ls i = true ∧ i + 1 < ls.length) ∧ K nx ((ls.set i (vL v)).set (i + 1) vU) r M
    | _ => False
  | .astore i => match st with
    | .inr (.inr (.inl k)) :: r => (noL ls i = true ∧ i < ls.length) ∧ K nx (ls.set i (vR k)) r M
    | _ => False
  | .iinc i n => match ls.getD i vU with
    | .inl v => noL ls i = true ∧ K nx (ls.set i (vI (wr (v + n)))) st M
    | _ => False
  | .iadd => match st with
    | .inl y :: .inl x :: r => K nx ls (vI (wr (x + y)) :: r) M
    | _ => False
  | .isub => match st with
    | .inl y :: .inl x :: r => K nx ls (vI (wr (x - y)) :: r) M
    | _ => False
  | .imul => match st with
    | .inl y :: .inl x :: r => K nx ls (vI (wr (x * y)) :: r) M
    | _ => False
  | .idiv => match st with
    | .inl y :: .inl x :: r => ¬ y = 0 ∧ K nx ls (vI (wr (x.tdiv y)) :: r) M
    | _ => False
  | .irem => match st with
    | .inl y :: .inl x :: r => ¬ y = 0 ∧ K nx ls (vI (wr (x.tmod y)) :: r) M
    | _ => False
  | .ineg => match st with
    | .inl x :: r => K nx ls (vI (wr (-x)) :: r) M
    | _ => False
  | .iand => match st with
    | .inl y :: .inl x :: r => K nx ls (vI (zand x y) :: r) M
    | _ => False
  | .ior => match st with
    | .inl y :: .inl x :: r => K nx ls (vI (zor x y) :: r) M
    | _ => False
  | .ixor => match st with
    | .inl y :: .inl x :: r => K nx ls (vI (zxor x y) :: r) M
    | _ => False
  | .ishl => match st with
    | .inl y :: .inl x :: r => K nx ls (vI (zshl x y) :: r) M
    | _ => False
  | .ishr => match st with
    | .inl y :: .inl x :: r => K nx ls (vI (zshr x y) :: r) M
    | _ => False
  | .iushr => match st with
    | .inl y :: .inl x :: r => K nx ls (vI (zushr x y) :: r) M
    | _ => False
  | .i2c => match st with
    | .inl x :: r => K nx ls (vI (zi2c x) :: r) M
    | _ => False
  | .i2l => match st with
    | .inl x :: r => K nx ls (vL x :: r) M
    | _ => False
  | .l2i => match st with
    | .inr (.inl x) :: r => K nx ls (vI (wr x) :: r) M
    | _ => False
  | .ladd => match st with
    | .inr (.inl y) :: .inr (.inl x) :: r => K nx ls (vL (wL (x + y)) :: r) M
    | _ => False
  | .land => match st with
    | .inr (.inl y) :: .inr (.inl x) :: r => K nx ls (vL (jand x y) :: r) M
    | _ => False
  | .lor => match st with
    | .inr (.inl y) :: .inr (.inl x) :: r => K nx ls (vL (jor x y) :: r) M
    | _ => False
  | .lshl => match st with
    | .inl y :: .inr (.inl x) :: r => K nx ls (vL (jshl x y) :: r) M
    | _ => False
  | .lshr => match st with
    | .inl y :: .inr (.inl x) :: r => K nx ls (vL (jshr x y) :: r) M
    | _ => False
  | .lushr => match st with
    | .inl y :: .inr (.inl x) :: r => K nx ls (vL (jushr x y) :: r) M
    | _ => False
  | .lcmp => match st with
    | .inr (.inl y) :: .inr (.inl x) :: r => K nx ls (vI (jcmp x y) :: r) M
    | _ => False
  | .dup => match st with
    | v :: r => zcat v = 1 ∧ K nx ls (v :: v :: r) M
    | _ => False
  | .dup2 => match st with
    | v :: w :: r => (zcat v = 1 ∧ zcat w = 1) ∧ K nx ls (v :: w :: v :: w :: r) M
    | _ => False
  | .pop => match st with
    | v :: r => zcat v = 1 ∧ K nx ls r M
    | _ => False
  | .if_icmp c _ => match st with
    | .inl y :: .inl x :: r => (zcmp c x y → K (x1 xs) ls r M) ∧ (¬ zcmp c x y → K nx ls r M)
    | _ => False
  | .ifCond c _ => match st with
    | .inl x :: r => (zcmp c x 0 → K (x1 xs) ls r M) ∧ (¬ zcmp c x 0 → K nx ls r M)
    | _ => False
  | .goto _ => K (x1 xs) ls st M
  | .tableswitch _ _ _ _ => match st with
    | .inl x :: r => swK (xI xs) (x3 xs) x (fun t => K t ls r M) ∧ ((x < xI xs ∨ xI xs + (x3 xs).length ≤ x) → K (x1 xs) ls r M)
    | _ => False
  | .iaload => match st with
    | .inl i :: a :: r => ald M 0 a i (fun v => K nx ls (vI v :: r) M)
    | _ => False
  | .baload => match st with
    | .inl i :: a :: r => ald M 2 a i (fun v => K nx ls (vI v :: r) M)
    | _ => False
  | .laload => match st with
    | .inl i :: .inr (.inr (.inl k)) :: r => ald M 1 (vR k) i (fun v => K nx ls (vL v :: r) M)
    | _ => False
  | .aaload => match st with
    | .inl i :: .inr (.inr (.inl k)) :: r => match sh k with
      | (d, n, rs) => d = 3 ∧ (0 ≤ i ∧ i < n) ∧ K nx ls (vW (rs.getD 0 0) i :: r) M
    | _ => False
  | .iastore => match st with
    | .inl x :: .inl i :: a :: r => ast M 0 a i x (fun M' => K nx ls r M')
    | _ => False
  | .bastore => match st with
    | .inl x :: .inl i :: a :: r => (x = 0 ∨ x = 1) ∧ ast M 2 a i x (fun M' => K nx ls r M')
    | _ => False
  | .lastore => match st with
    | .inr (.inl x) :: .inl i :: .inr (.inr (.inl k)) :: r => ast M 1 (vR k) i x (fun M' => K nx ls r M')
    | _ => False
  | .arraylength => match st with
    | .inr (.inr (.inl k)) :: r => match sh k with
      | (d, n, _) => d = 0 ∧ K nx ls (vI n :: r) M
    | .inr (.inr (.inr (.inr (.inl t)))) :: r => if t = 100 then K nx ls (vI (M 201 0) :: r) M else t < 10 ∧ K nx ls (vI ((tbL.getD t []).length : Int) :: r) M
    | _ => False
  | .getfield _ => match st with
    | a :: r => gfd M xs a (fun v => K nx ls (v :: r) M)
    | _ => False
  | .putfield _ => match st with
    | v :: a :: r => pfd M xs a v (fun M' => K nx ls r M')
    | _ => False
  | .getstatic _ => if x1 xs = 0 then K nx ls (vI (xI xs) :: st) M else K nx ls (vT (x2 xs) :: st) M
  | .ldc _ => K nx ls (vK (x2 xs) :: st) M
  | .invokestatic _ => callK false sw E K nx xs ls st M
  | .invokevirtual _ => callK true sw E K nx xs ls st M
  | .invokedynamic _ => match st with
    | .inl n :: .inl dp :: .inr (.inr (.inl b)) :: .inl sp :: .inr (.inr (.inl a)) :: r => match sh a, sh b with
      | (d, na, _), (e, nb, _) => (d = 0 ∧ e = 0 ∧ (r.map zcat).sum ≤ 8) ∧ (0 ≤ sp ∧ 0 ≤ dp ∧ 0 ≤ n ∧ sp + n ≤ na ∧ dp + n ≤ nb) ∧ K nx ls r (rset M b (fcpy (M a) (M b) sp dp n))
    | _ => False
  | .dup_x1 => match st with
    | .inl y :: .inl x :: r => (r.map zcat).sum ≤ 8 ∧ K nx ls (vI (if y < x then y else x) :: r) M
    | _ => False
  | .dup_x2 => match st with
    | .inl y :: .inl x :: r => (r.map zcat).sum ≤ 8 ∧ K nx ls (vI (if x < y then y else x) :: r) M
    | _ => False
  | .swap => match ls with
    | [l0, l1, _] => (sw = true ∧ l0 = vR 0 ∧ nbk l1 = true ∧ isA l1 = false ∧ zcat l1 = 1 ∧ st = []) ∧ K nx [l0, l1, vR 67] [] (mswap M)
    | _ => False
  | .ireturn => match st with
    | [.inl v] => retOk (xI xs) v ∧ Q (some (vI v)) M
    | _ => False
  | .lreturn => match st with
    | [.inr (.inl v)] => Q (some (vL v)) M
    | _ => False
  | .return_ => match st with
    | [] => Q none M
    | _ => False
  | _ => False
abbrev Cd : Type := List (List (Nat × Ent))
def fnd (pc : Nat) (l : List (Nat × Ent)) : Option Ent := match l with
  | [] => none
  | q :: r => if q.1 = pc then some q.2 else fnd pc r
def lk (c : Cd) (pc : Nat) : Option Ent := fnd pc (c.getD (pc / 16) [])
def opK (sw : Bool) (E : Er) (Q : Ql) (c : Cd) (K : Kt) : Kt := fun pc ls st M => match lk c pc with
  | none => False
  | some (op, nx, xs) => zstep sw E Q K op nx xs ls st M
/-- from here the method comes to its end with Q -/
def GoG (sw : Bool) (E : Er) (c : Cd) (Q : Ql) : Kt := fun pc ls st M => ∀ X : Kt, (∀ pc ls st M, opK sw E Q c X pc ls st M → X pc ls st M) → X pc ls st M
def erM (E : Er) : Prop := ∀ μ as M (Q Q' : Ql), (∀ v M', Q v M' → Q' v M') → E μ as M Q → E μ as M Q'
theorem swK_mono {lo x : Int} {ts : List Nat} {K K' : Nat → Prop} (h : ∀ t, K t → K' t) : swK lo ts x K → swK lo ts x K' := by
  induction ts generalizing lo with
  | nil => exact fun h => h
  | cons t r ih => exact fun q => ⟨fun e => h _ (q.1 e), ih q.2⟩
theorem ald_mono {M : Mm} {kd : Nat} {a : Vl} {i : Int} {K K' : Int → Prop} (h : ∀ t, K t → K' t) : ald M kd a i K → ald M kd a i K' := by
  unfold ald
  split
  · exact fun q => ⟨q.1, q.2.1, h _ q.2.2⟩
  · exact fun q => ⟨q.1, q.2.1, h _ q.2.2⟩
  · split
    · exact fun q => ⟨q.1, q.2.1, h _ q.2.2⟩
    · exact fun q => ⟨q.1, q.2.1, h _ q.2.2⟩
  · exact fun q => q
theorem ast_mono {M : Mm} {kd : Nat} {a : Vl} {i x : Int} {K K' : Mm → Prop} (h : ∀ t, K t → K' t) : ast M kd a i x K → ast M kd a i x K' := by
  unfold ast
  split
  · exact fun q => ⟨q.1, q.2.1, h _ q.2.2⟩
  · exact fun q => ⟨q.1, q.2.1, h _ q.2.2⟩
  · exact fun q => q
theorem gfd_mono {M : Mm} {xs : Ex} {a : Vl} {K K' : Vl → Prop} (h : ∀ t, K t → K' t) : gfd M xs a K → gfd M xs a K' := by
  unfold gfd
  split
  · refine fun q => ⟨q.1, q.2.1, ?_⟩
    have q2 := q.2.2
    split at q2
    · exact h _ q2
    · exact h _ q2
    · exact h _ q2
    · exact h _ q2
    · exact q2
  · refine fun q => ⟨q.1, q.2.1, ?_⟩
    have q2 := q.2.2
    by_cases hh : x2 xs = 0
    · rw [if_pos hh] at q2 ⊢
      exact h _ q2
    · rw [if_neg hh] at q2 ⊢
      exact h _ q2
  · exact fun q => q
theorem pfd_mono {M : Mm} {xs : Ex} {a v : Vl} {K K' : Mm → Prop} (h : ∀ t, K t → K' t) : pfd M xs a v K → pfd M xs a v K' := by
  unfold pfd
  split
  · refine fun q => ⟨q.1, q.2.1, ?_⟩
    have q2 := q.2.2
    split at q2
    · exact h _ q2
    · exact h _ q2
    · exact ⟨q2.1, h _ q2.2⟩
    · exact q2
  · exact fun q => q
theorem callK_mono {vr sw : Bool} {E : Er} {K K' : Kt} {nx : Nat} {xs : Ex} {ls st : List Vl} {M : Mm} (hE : erM E) (h : ∀ pc ls st M, K pc ls st M → K' pc ls st M) : callK vr sw E K nx xs ls st M → callK vr sw E K' nx xs ls st M :=
  fun q => ⟨q.1, hE _ _ _ _ _ (fun v M' => h _ _ _ _) q.2⟩
theorem zstep_mono {sw : Bool} {E : Er} {Q Q' : Ql} {K K' : Kt} {op : Instr} {nx : Nat} {xs : Ex} {ls st : List Vl} {M : Mm} (hE : erM E) (hQ : ∀ v M, Q v M → Q' v M) (h : ∀ pc ls st M, K pc ls st M → K' pc ls st M) :
    zstep sw E Q K op nx xs ls st M → zstep sw E Q' K' op nx xs ls st M := by
  cases op <;> first
    | exact fun q => q
    | exact h _ _ _ _
    | exact fun q => ⟨q.1, h _ _ _ _ q.2⟩
    | exact callK_mono hE h
    | (dsimp only [zstep]; split <;> first
        | exact fun q => q
        | exact h _ _ _ _
        | exact hQ _ _
        | exact fun q => ⟨q.1, h _ _ _ _ q.2⟩
        | exact fun q => ⟨q.1, hQ _ _ q.2⟩
        | exact fun q => ⟨q.1, q.2.1, h _ _ _ _ q.2.2⟩
        | exact fun q => ⟨fun e => h _ _ _ _ (q.1 e), fun e => h _ _ _ _ (q.2 e)⟩
        | exact fun q => ⟨swK_mono (fun t => h _ _ _ _) q.1, fun e => h _ _ _ _ (q.2 e)⟩
        | exact ald_mono (fun v => h _ _ _ _)
        | exact ast_mono (fun v => h _ _ _ _)
        | exact fun q => ⟨q.1, ast_mono (fun v => h _ _ _ _) q.2⟩
        | exact gfd_mono (fun v => h _ _ _ _)
        | exact pfd_mono (fun v => h _ _ _ _)
        | (split <;> first | exact h _ _ _ _ | exact fun q => ⟨q.1, h _ _ _ _ q.2⟩))
theorem opK_mono {sw : Bool} {E : Er} {Q Q' : Ql} {c : Cd} {K K' : Kt} {pc : Nat} {ls st : List Vl} {M : Mm} (hE : erM E) (hQ : ∀ v M, Q v M → Q' v M) (h : ∀ pc ls st M, K pc ls st M → K' pc ls st M) :
    opK sw E Q c K pc ls st M → opK sw E Q' c K' pc ls st M := by
  unfold opK
  split
  · exact fun q => q
  · exact zstep_mono hE hQ h
theorem GoG.step {sw : Bool} {E : Er} {c : Cd} {Q : Ql} {pc : Nat} {ls st : List Vl} {M : Mm} (hE : erM E) (h : opK sw E Q c (GoG sw E c Q) pc ls st M) : GoG sw E c Q pc ls st M :=
  fun X hX => hX _ _ _ _ (opK_mono hE (fun _ _ h => h) (fun _ _ _ _ g => g X hX) h)
theorem GoG.mono {sw : Bool} {E : Er} {c : Cd} {Q Q' : Ql} {pc : Nat} {ls st : List Vl} {M : Mm} (hE : erM E) (hQ : ∀ v M, Q v M → Q' v M) (h : GoG sw E c Q pc ls st M) : GoG sw E c Q' pc ls st M :=
  h (GoG sw E c Q') (fun _ _ _ _ g => GoG.step hE (opK_mono hE hQ (fun _ _ _ _ g => g) g))
/-- n instructions at once -/
def wpN (sw : Bool) (E : Er) (Q : Ql) (c : Cd) : Nat → Kt → Kt
  | 0, K => K
  | n + 1, K => opK sw E Q c (wpN sw E Q c n K)
theorem GoG.steps {sw : Bool} {E : Er} {c : Cd} {Q : Ql} (hE : erM E) (n : Nat) : ∀ {pc : Nat} {ls st : List Vl} {M : Mm}, wpN sw E Q c n (GoG sw E c Q) pc ls st M → GoG sw E c Q pc ls st M := by
  induction n with
  | zero => exact fun h => h
  | succ n ih => exact fun h => GoG.step hE (opK_mono hE (fun _ _ h => h) (fun _ _ _ _ g => ih g) h)
/-- a method's locals at its start -/
def exL (as : List Vl) : List Vl := match as with
  | [] => []
  | .inr (.inl x) :: r => vL x :: vU :: exL r
  | v :: r => v :: exL r
def iniL (n : Nat) (as : List Vl) : List Vl := exL as ++ List.replicate (n - (exL as).length) vU
