/-! lodging: the class's count, lowest bit, and one house -/
theorem c_174 {d : Nat} {P : Int → Mm → Prop} {M : Mm} {x : Nat} (hx : x < 4096) (h : P (pcB x : Nat) M) : EE (d + 1) 174 [vI x] M (rI P) := by
  have hb := bcT_all (x / 64) (by omega) (x % 64) (by omega)
  rw [show 64 * (x / 64) + x % 64 = x by omega] at hb
  unfold bcT at hb
  simp only [Bool.and_eq_true, decide_eq_true_eq] at hb
  obtain ⟨⟨⟨⟨⟨h1, h2⟩, h3⟩, h4⟩, h5⟩, h6⟩ := hb
  refine sg_174 ⟨okI_i h1, okI_i h2, okI_i h3, okI_i h4, okI_i h5, ?_⟩
  rw [← h6] at h
  exact h
theorem nz_62 {d : Nat} {P : Int → Mm → Prop} {M : Mm} {a0 a1 : Int} {i : Nat} (hz : nz62 a0 a1 i = true) (h : P i M) : H_175_62 d P a0 a1 M := by
  unfold nz62 at hz
  refine sg_175_62 ⟨fun y => ?_, fun y => ?_⟩
  · rw [if_neg (by omega)] at hz
    simp only [Bool.and_eq_true, decide_eq_true_eq] at hz
    rw [← hz.2] at h
    exact ⟨okI_i hz.1, h⟩
  · rw [if_pos y] at hz
    simp only [Bool.and_eq_true, decide_eq_true_eq] at hz
    rw [← hz.2] at h
    exact ⟨okI_i hz.1.1, okI_i hz.1.2, h⟩
theorem nz_49 {d : Nat} {P : Int → Mm → Prop} {M : Mm} {a0 a1 : Int} {i : Nat} (hz : nz49 a0 a1 i = true) (h : P i M) : H_175_49 d P a0 a1 M := by
  unfold nz49 at hz
  refine sg_175_49 ⟨fun y => ?_, fun y => ?_⟩
  · rw [if_neg (by omega)] at hz
    exact nz_62 hz h
  · rw [if_pos y] at hz
    have hz := Bool.and_eq_true_iff.mp hz
    exact ⟨okI_i hz.1, nz_62 hz.2 h⟩
theorem nz_34 {d : Nat} {P : Int → Mm → Prop} {M : Mm} {a0 a1 : Int} {i : Nat} (hz : nz34 a0 a1 i = true) (h : P i M) : H_175_34 d P a0 a1 M := by
  unfold nz34 at hz
  refine sg_175_34 ⟨fun y => ?_, fun y => ?_⟩
  · rw [if_neg (by omega)] at hz
    exact nz_49 hz h
  · rw [if_pos y] at hz
    have hz := Bool.and_eq_true_iff.mp hz
    exact ⟨okI_i hz.1, nz_49 hz.2 h⟩
theorem c_175 {d : Nat} {P : Int → Mm → Prop} {M : Mm} {x : Nat} (hx : x < 4096) (h0 : ¬ x = 0) (h : ∀ i : Nat, lowB x (x &&& (x - 1)) i → (∀ t, x.testBit t = true → i ≤ t) → P i M) : EE (d + 1) 175 [vI x] M (rI P) := by
  obtain ⟨i, i1, i2, i3⟩ := low_of hx h0
  have h := h i i1 i2
  unfold nz0 at i3
  have i4 := Bool.and_eq_true_iff.mp i3
  have z1 := of_decide_eq_true i4.1
  refine sg_175 ⟨by unfold inI; omega, fun y => ⟨fun _ => ?_, fun y2 => by omega⟩, fun y => ?_⟩
  · have i5 := i4.2
    rw [if_pos y] at i5
    exact nz_34 i5 h
  · have i5 := i4.2
    rw [if_neg (by omega)] at i5
    have i6 := of_decide_eq_true i5
    rw [← i6] at h
    exact h
theorem smB_c {f : Nat → Nat} {c : Nat} : ∀ {n : Nat}, (∀ i, i < n → f i ≤ c) → smB f n ≤ n * c
  | 0, _ => by show 0 ≤ _; omega
  | n + 1, h => by
    have ih := smB_c (f := f) (c := c) (n := n) (fun i hi => h i (by omega))
    have := h n (by omega)
    show smB f n + f n ≤ (n + 1) * c
    rw [Nat.succ_mul]; omega
theorem prK_le {K : Nat → Nat} {I : Nat} : prK K I ≤ 144 := by
  refine smB_c (c := 12) (fun i hi => ?_)
  split
  · have := cnB_le (p := fun t => (K i).testBit t && I.testBit t) i
    omega
  · omega
theorem pcB_le {S : Nat} : pcB S ≤ 12 := cnB_le 12
theorem pcB_low {x x' i : Nat} (h : lowB x x' i) : pcB x = pcB x' + 1 := by
  obtain ⟨h1, h2, h3⟩ := h
  have e : x = x' ||| 2 ^ i := by
    refine Nat.eq_of_testBit_eq (fun t => ?_)
    rw [Nat.testBit_or, h3 t]
    by_cases q : t = i
    · subst q; rw [Nat.testBit_two_pow_self, h2, Bool.or_true]
    · rw [Nat.testBit_two_pow_of_ne (fun z => q z.symm), decide_eq_true q, Bool.and_true, Bool.or_false]
  rw [e]
  exact pcB_add h1 (by rw [h3 i, decide_eq_false (fun y => y rfl)]; exact Bool.and_false _)
theorem isX_iff {Q R : Int → Prop} {x : Int} (h : ∀ p, Q p ↔ R p) : isX Q x ↔ isX R x := by
  constructor
  · rintro (⟨h1, h2⟩ | ⟨h1, h2, h3⟩)
    · exact Or.inl ⟨h1, fun p hp => h2 p ((h p).mpr hp)⟩
    · exact Or.inr ⟨h1, (h x).mp h2, fun p hp => h3 p ((h p).mpr hp)⟩
  · rintro (⟨h1, h2⟩ | ⟨h1, h2, h3⟩)
    · exact Or.inl ⟨h1, fun p hp => h2 p ((h p).mp hp)⟩
    · exact Or.inr ⟨h1, (h x).mpr h2, fun p hp => h3 p ((h p).mp hp)⟩
/-- what c_78 needs of the store: n members, their kin, a table of small numbers -/
def ok78 (M : Mm) (K : Nat → Nat) (n : Nat) : Prop := (M 33 5 = n ∧ n ≤ 12) ∧ (∀ i : Nat, i < n → M 34 i = (K i : Nat) ∧ K i < 4096) ∧ ∀ S : Nat, S < 4096 → M 38 S ≤ 1000
theorem lp_78 {d b : Nat} {P : Int → Mm → Prop} {M : Mm} {K : Nat → Nat} {n S opn ins : Nat} (hb : b < 5) (hM : ok78 M K n) (hS : S < 4096) (hi : ins < 4096) (ho : opn < 2 ^ n) (hP : ∀ x, isX (Q78 K (M 38) S opn ins (b + 1)) x → P x M) (rec : ∀ {P : Int → Mm → Prop} {opn ins : Nat}, ins < 4096 → opn < 2 ^ n → (∀ t, opn.testBit t = true → ins < 2 ^ t) → (∀ x, isX (Q78 K (M 38) S opn ins b) x → P x M) → EE (d + 1) 78 [vR 33, vI S, vI opn, vI ins, vI (prK K ins : Nat), vI b] M (rI P)) : ∀ (k a9 : Nat) {rest : Nat} {a7 : Int}, k + a9 = n → pcB rest + a9 ≤ n → rest &&& opn = rest → (∀ t, rest.testBit t = true → ins < 2 ^ t) → isX (Q78L K (M 38) S opn ins (b + 1) rest) a7 → H_78_42 (d + 1) P S ins (prK K ins : Nat) ((b + 1 : Nat) : Int) a7 rest a9 M
  | 0, a9, rest, a7, hk, hpc, hr, hlt, hx => by
    have hr4 : rest < 2 ^ n := sub_lt ho hr
    have h12 : 2 ^ n ≤ 2 ^ 12 := Nat.pow_le_pow_right (by omega) hM.1.2
    have e : rest = 0 := pc0 (by omega) (by omega)
    subst e
    have hm := hM.1.1
    refine sg_78_42 ⟨fun _ => hP a7 ?_, fun z => by omega⟩
    refine (isX_iff (fun p => ?_)).mp hx
    exact (Q78_0 p).symm
  | k + 1, a9, rest, a7, hk, hpc, hr, hlt, hx => by
    have hm := hM.1.1
    have hn := hM.1.2
    have hr4 : rest < 2 ^ n := sub_lt ho hr
    have h12 : 2 ^ n ≤ 2 ^ 12 := Nat.pow_le_pow_right (by omega) hM.1.2
    refine sg_78_42 ⟨fun z => by omega, fun _ => ⟨fun z => hP a7 ?_, fun z => ?_⟩⟩
    · have e : rest = 0 := by omega
      subst e
      refine (isX_iff (fun p => ?_)).mp hx
      exact (Q78_0 p).symm
    · have h0 : ¬ rest = 0 := by omega
      refine c_175 (by omega) h0 (fun i hl hlow => ?_)
      have hin : i < n := bit_lt hr4 hl.2.1
      have hii := hlt i hl.2.1
      obtain ⟨hK1, hK2⟩ := hM.2.1 i hin
      have hand : K i &&& ins < 4096 := by
        have := Nat.and_le_left (n := K i) (m := ins)
        omega
      refine ⟨by unfold inI; omega, by omega, ?_⟩
      rw [hK1, zand_n (by omega) (by omega)]
      refine c_174 hand ?_
      have hpl := prK_le (K := K) (I := ins)
      have hpb := pcB_le (S := K i &&& ins)
      have ea := prK_add (K := K) hl.1 hii
      rw [show (rest : Int) - 1 = ((rest - 1 : Nat) : Int) by omega, zand_n (by omega) (by omega), (zshl_1 i (by omega)).1]
      have h2i : 2 ^ i < 4096 := by
        have := Nat.pow_lt_pow_right (a := 2) (by omega) hl.1
        omega
      rw [zor_n (by omega) (by omega), show ((prK K ins : Nat) : Int) + ((pcB (K i &&& ins) : Nat) : Int) = ((prK K (ins ||| 2 ^ i) : Nat) : Int) by omega, show (((b + 1 : Nat) : Int) - 1) = (b : Int) by omega]
      have hor : ins ||| 2 ^ i < 4096 := Nat.or_lt_two_pow (n := 12) hi h2i
      have hs := hl.2.2
      have hsub : (rest &&& (rest - 1)) &&& rest = rest &&& (rest - 1) := t_sub (fun t ht => by rw [hs t] at ht; exact (Bool.and_eq_true_iff.mp ht).1)
      have hr' : (rest &&& (rest - 1)) < 2 ^ n := sub_lt hr4 hsub
      have hlt' : ∀ t, (rest &&& (rest - 1)).testBit t = true → ins ||| 2 ^ i < 2 ^ t := by
        intro t ht
        have h1 := hs t
        rw [ht] at h1
        have h2 := Bool.and_eq_true_iff.mp h1.symm
        have h3 := hlow t h2.1
        have h4 : ¬ t = i := of_decide_eq_true h2.2
        exact Nat.or_lt_two_pow (hlt t h2.1) (Nat.pow_lt_pow_right (by omega) (by omega))
      refine ⟨by unfold inI; omega, by unfold inI; omega, rec hor hr' hlt' (fun x hx2 => ⟨by unfold inI; omega, ?_⟩)⟩
      have hpc2 := pcB_low hl
      have key := lp_78 (d := d) (P := P) hb hM hS hi ho hP rec k (a9 + 1) (rest := rest &&& (rest - 1)) (a7 := if a7 < x then x else a7) (by omega) (by omega) (t_sub (fun t ht => sub_t hr (sub_t hsub ht))) (fun t ht => hlt t (sub_t hsub ht)) (isX_or (Q78_s hl hr) hx hx2)
      rw [show ((a9 + 1 : Nat) : Int) = (a9 : Int) + 1 by omega] at key
      exact key
theorem c_78 {K : Nat → Nat} {n S : Nat} {M : Mm} (hM : ok78 M K n) (hS : S < 4096) : ∀ (b : Nat) {d : Nat} {P : Int → Mm → Prop} {opn ins : Nat}, b ≤ 4 → ins < 4096 → opn < 2 ^ n → (∀ t, opn.testBit t = true → ins < 2 ^ t) → (∀ x, isX (Q78 K (M 38) S opn ins b) x → P x M) → EE (d + b + 2) 78 [vR 33, vI S, vI opn, vI ins, vI (prK K ins : Nat), vI b] M (rI P)
  | b, d, P, opn, ins, hb, hi, ho, hlt, hP => by
    have h12 : 2 ^ n ≤ 2 ^ 12 := Nat.pow_le_pow_right (by omega) hM.1.2
    have hx4 : S ^^^ ins < 4096 := Nat.xor_lt_two_pow (n := 12) hS hi
    have hf := hM.2.2 _ hx4
    have hpl := prK_le (K := K) (I := ins)
    have hn := hM.1.2
    have hpo : pcB opn ≤ n := by
      have e : pcB opn = cnB (fun i => opn.testBit i) n := cnB_ext2 hn (fun i hi => hi_bit ho hi)
      rw [e]; exact cnB_le n
    have nx : ∀ {x : Int} {Q : Int → Prop}, (∀ p, Q p ↔ 0 ≤ M 38 ((S ^^^ ins : Nat) : Int) ∧ p = M 38 ((S ^^^ ins : Nat) : Int) + prK K ins) → ((0 ≤ M 38 ((S ^^^ ins : Nat) : Int) ∧ x = M 38 ((S ^^^ ins : Nat) : Int) + prK K ins) ∨ (M 38 ((S ^^^ ins : Nat) : Int) < 0 ∧ x < 0)) → isX Q x := by
      intro x Q hQ hx
      rcases hx with ⟨h1, h2⟩ | ⟨h1, h2⟩
      · exact Or.inr ⟨by omega, (hQ x).mpr ⟨h1, h2⟩, fun p hp => by have := (hQ p).mp hp; omega⟩
      · exact Or.inl ⟨h2, fun p hp => by have := (hQ p).mp hp; omega⟩
    have go : ∀ x : Int, ((0 ≤ M 38 ((S ^^^ ins : Nat) : Int) ∧ x = M 38 ((S ^^^ ins : Nat) : Int) + prK K ins) ∨ (M 38 ((S ^^^ ins : Nat) : Int) < 0 ∧ x < 0)) → H_78_25 (d + b + 1) P S opn ins (prK K ins : Nat) b x M := by
      intro x hx
      match b, hb, hP with
      | 0, _, hP =>
        refine sg_78_25 ⟨fun _ => ?_, fun z => by omega⟩
        have fin : P x M := hP x (nx (fun p => Q78_b0 (by omega) p) hx)
        exact sg_78_42 ⟨fun _ => fin, fun _ => ⟨fun _ => fin, fun z => absurd rfl z⟩⟩
      | b + 1, hb, hP =>
        refine sg_78_25 ⟨fun z => by omega, fun _ => ?_⟩
        refine lp_78 (d := d + b + 1) (by omega) hM hS hi ho hP (fun hi2 ho2 hlt2 hP2 => ?_) n 0 rfl (by omega) (Nat.and_self _) hlt (nx (fun p => Q78_b p) hx)
        exact c_78 hM hS b (d := d) (by omega) hi2 ho2 hlt2 hP2
    refine sg_78 ?_
    rw [zxor_n (by omega) (by omega)]
    refine ⟨by omega, fun z => ⟨by unfold inI; omega, go _ (Or.inl ⟨z, rfl⟩)⟩, fun z => go _ (Or.inr ⟨z, by omega⟩)⟩
