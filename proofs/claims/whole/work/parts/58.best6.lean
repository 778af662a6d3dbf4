/-! lodging: the class's table over the sets of members -/
theorem xor_le {S J : Nat} (h : J &&& S = J) : S ^^^ J ≤ S := by
  have e : (S ^^^ J) &&& S = S ^^^ J := t_sub (fun t ht => by
    rw [Nat.testBit_xor] at ht
    cases hs : S.testBit t with
    | true => rfl
    | false =>
      cases hj : J.testBit t with
      | true => rw [sub_t h hj] at hs; exact absurd hs (by decide)
      | false => rw [hs, hj] at ht; exact absurd ht (by decide))
  have := Nat.and_le_right (n := S ^^^ J) (m := S)
  rw [e] at this; exact this
theorem Q78_c {K : Nat → Nat} {f g : Int → Int} {S T b : Nat} (h : ∀ R : Nat, R ≤ S → f R = g R) (p : Int) : Q78 K f S (S &&& T) 0 b p ↔ Q78 K g S (S &&& T) 0 b p := by
  have key : ∀ J, J &&& (S &&& T) = J → f ((S ^^^ (0 ||| J) : Nat) : Int) = g ((S ^^^ (0 ||| J) : Nat) : Int) := by
    intro J hJ
    refine h _ ?_
    rw [Nat.zero_or]
    exact xor_le (t_sub (fun t ht => by have := sub_t hJ ht; rw [Nat.testBit_and] at this; exact (Bool.and_eq_true_iff.mp this).1))
  constructor
  · rintro ⟨J, j1, j2, j3⟩
    rw [key J j1] at j3
    exact ⟨J, j1, j2, j3⟩
  · rintro ⟨J, j1, j2, j3⟩
    rw [← key J j1] at j3
    exact ⟨J, j1, j2, j3⟩
/-- the notes of the lodging: members, kin, houses -/
def ok77 (M : Mm) (K tb bd : Nat → Nat) (n m : Nat) : Prop := (M 33 5 = n ∧ n ≤ 12) ∧ (M 33 6 = m ∧ m ≤ 6) ∧ (∀ i : Nat, i < n → M 34 i = (K i : Nat) ∧ K i < 4096) ∧ (∀ j : Nat, j < m → M 35 j = (tb j : Nat) ∧ tb j < 2 ^ n) ∧ ∀ j : Nat, j < m → M 36 j = (bd j : Nat) ∧ bd j ≤ 4
theorem lp_76 {d : Nat} {P : Int → Mm → Prop} {M : Mm} {K tb bd : Nat → Nat} {n m : Nat} (hM : ok77 M K tb bd n m) (hP : P ((smB (fun i => pcB (K i)) n / 2 : Nat) : Int) M) : ∀ (k i : Nat), k + i = n → H_76_4 (d + 1) P (smB (fun i => pcB (K i)) i : Nat) i M
  | 0, i, hk => by
    have h5 := hM.1
    have e : i = n := by omega
    subst e
    have hc := smB_c (f := fun i => pcB (K i)) (c := 12) (n := i) (fun t _ => pcB_le)
    refine sg_76_4 ⟨fun _ => ⟨by omega, ?_⟩, fun z => by omega⟩
    exact hP
  | k + 1, i, hk => by
    have h5 := hM.1
    have hi := hM.2.2.1 i (by omega)
    have ih := lp_76 (d := d) hM hP k (i + 1) (by omega)
    have hc := smB_c (f := fun i => pcB (K i)) (c := 12) (n := i) (fun t _ => pcB_le)
    have hp := pcB_le (S := K i)
    refine sg_76_4 ⟨fun z => by omega, fun _ => ⟨by omega, ?_⟩⟩
    rw [hi.1]
    refine c_174 hi.2 ⟨by unfold inI; omega, by unfold inI; omega, ?_⟩
    rw [show ((i + 1 : Nat) : Int) = (i : Int) + 1 by omega, show ((smB (fun i => pcB (K i)) (i + 1) : Nat) : Int) = ((smB (fun i => pcB (K i)) i : Nat) : Int) + ((pcB (K i) : Nat) : Int) from Int.natCast_add _ _] at ih
    exact ih
theorem c_76 {d : Nat} {P : Int → Mm → Prop} {M : Mm} {K tb bd : Nat → Nat} {n m : Nat} (hM : ok77 M K tb bd n m) (hP : P ((smB (fun i => pcB (K i)) n / 2 : Nat) : Int) M) : EE (d + 2) 76 [vR 33] M (rI P) :=
  sg_76 (lp_76 hM hP n 0 rfl)
theorem lp_77_201 {d : Nat} {P : Int → Mm → Prop} {M : Mm} {n lod : Nat} (hn : n ≤ 12) (hP : ∀ r : Int, (r = 0 ∨ ∃ S : Nat, S < 2 ^ n ∧ pcB S = lod ∧ r = M 38 S) → 0 ≤ r → (∀ S : Nat, S < 2 ^ n → pcB S = lod → M 38 S ≤ r) → P r M) : ∀ (k i : Nat) {r : Int}, k + i = 2 ^ n → (r = 0 ∨ ∃ S : Nat, S < i ∧ pcB S = lod ∧ r = M 38 S) → 0 ≤ r → (∀ S : Nat, S < i → pcB S = lod → M 38 S ≤ r) → H_77_201 (d + 1) P lod (2 ^ n : Nat) r i M
  | 0, i, r, hk, h1, h2, h3 => by
    have e : i = 2 ^ n := by omega
    subst e
    exact sg_77_201 ⟨fun _ => hP r h1 h2 h3, fun z => by omega⟩
  | k + 1, i, r, hk, h1, h2, h3 => by
    have h12 : 2 ^ n ≤ 2 ^ 12 := Nat.pow_le_pow_right (by omega) hn
    have ih : ∀ {r : Int}, (r = 0 ∨ ∃ S : Nat, S < i + 1 ∧ pcB S = lod ∧ r = M 38 S) → 0 ≤ r → (∀ S : Nat, S < i + 1 → pcB S = lod → M 38 S ≤ r) → H_77_201 (d + 1) P lod (2 ^ n : Nat) r ((i : Int) + 1) M := by
      intro r a b c
      have := lp_77_201 (d := d) hn hP k (i + 1) (r := r) (by omega) a b c
      rw [show ((i + 1 : Nat) : Int) = (i : Int) + 1 by omega] at this
      exact this
    have h1' : r = 0 ∨ ∃ S : Nat, S < i + 1 ∧ pcB S = lod ∧ r = M 38 S := by
      rcases h1 with e | ⟨S, s1, s2⟩
      · exact Or.inl e
      · exact Or.inr ⟨S, by omega, s2⟩
    refine sg_77_201 ⟨fun z => by omega, fun _ => c_174 (by omega) ⟨fun z => ⟨by unfold inI; omega, ih h1' h2 (fun S hS hp => ?_)⟩, fun z => ⟨by omega, by unfold inI; omega, ?_⟩⟩⟩
    · by_cases e : S = i
      · subst e; omega
      · exact h3 S (by omega) hp
    · by_cases l : r < M 38 i
      · rw [if_pos l]
        refine ih (Or.inr ⟨i, by omega, by omega, rfl⟩) (by omega) (fun S hS hp => ?_)
        by_cases e : S = i
        · subst e; exact Int.le_refl _
        · have := h3 S (by omega) hp; omega
      · rw [if_neg l]
        refine ih h1' h2 (fun S hS hp => ?_)
        by_cases e : S = i
        · subst e; omega
        · exact h3 S (by omega) hp
theorem c_78a {K : Nat → Nat} {n S : Nat} {M : Mm} (hM : ok78 M K n) (hS : S < 4096) {b d : Nat} {P : Int → Mm → Prop} {opn : Nat} (hb : b ≤ 4) (ho : opn < 2 ^ n) (hP : ∀ x, isX (Q78 K (M 38) S opn 0 b) x → P x M) : EE (d + 6) 78 [vR 33, vI S, vI opn, vI 0, vI 0, vI b] M (rI P) := by
  have key := c_78 hM hS b (d := d + 4 - b) (P := P) (opn := opn) (ins := 0) hb (by omega) ho (fun t _ => Nat.two_pow_pos t) hP
  rw [prK_0, show d + 4 - b + b + 2 = d + 6 by omega] at key
  exact key
theorem lp_77_100 {d : Nat} {P : Int → Mm → Prop} {M : Mm} {K tb bd : Nat → Nat} {n m lod so tc j : Nat} {g : Int → Int} (hM : ok77 M K tb bd n m) (hj : j < m) (hso : so ≤ 24) (htc : tc ≤ 24) (hg : SndK K n tb bd j g) (hgb : ∀ S : Nat, S < 4096 → g S ≤ 1000) (hE : ∀ f : Int → Int, resK K n tb bd m lod (smB (fun i => cnB (fun t => (K i).testBit t) i) n : Nat) → P (smB (fun i => cnB (fun t => (K i).testBit t) i) n : Nat) (rset M 38 f)) (hK : ∀ f : Int → Int, (∀ S : Nat, S < 2 ^ n → stpK K n tb bd lod so tc j g f S) → (∀ S : Nat, S < 4096 → f S ≤ 1000) → H_77_62 (d + 6) P lod (smB (fun i => cnB (fun t => (K i).testBit t) i) n : Nat) (2 ^ n : Nat) so tc ((j : Int) + 1) (rset M 38 f)) : ∀ (i : Nat) {f : Int → Int}, i < 2 ^ n → (∀ S : Nat, S < 2 ^ n → (i < S → stpK K n tb bd lod so tc j g f S) ∧ (S ≤ i → f S = g S)) → (∀ S : Nat, S < 4096 → f S ≤ 1000) → H_77_100 (d + 6) P lod (smB (fun i => cnB (fun t => (K i).testBit t) i) n : Nat) (2 ^ n : Nat) so tc j i (rset M 38 f)
  | 0, f, hi, hf, hb => by
    have hm := hM.2.1
    refine sg_77_100 ⟨fun _ => ⟨by unfold inI; omega, hK f (fun S hS => ?_) hb⟩, fun z => by omega⟩
    by_cases e : S = 0
    · subst e
      exact ⟨fun _ => (hf 0 hi).2 (Nat.le_refl 0), fun z => by omega⟩
    · exact (hf S hS).1 (by omega)
  | i + 1, f, hi, hf, hb => by
    have hm := hM.2.1
    have hn := hM.1
    have h12 : 2 ^ n ≤ 2 ^ 12 := Nat.pow_le_pow_right (by omega) hn.2
    have ht := hM.2.2.2.1 j hj
    have hbd := hM.2.2.2.2 j hj
    have hpc := pcB_le (S := i + 1)
    have hfi := (hf (i + 1) hi).2 (Nat.le_refl _)
    have ih : ∀ {f2 : Int → Int}, stpK K n tb bd lod so tc j g f2 (i + 1) → (∀ S : Nat, ¬ S = i + 1 → f2 S = f S) → f2 ((i + 1 : Nat) : Int) ≤ 1000 → H_77_100 (d + 6) P lod (smB (fun i => cnB (fun t => (K i).testBit t) i) n : Nat) (2 ^ n : Nat) so tc j (((i + 1 : Nat) : Int) + -1) (rset M 38 f2) := by
      intro f2 h1 h2 h3
      have := lp_77_100 (d := d) hM hj hso htc hg hgb hE hK i (f := f2) (by omega) (fun S hS => ⟨fun l => ?_, fun l => ?_⟩) (fun S hS => ?_)
      · rw [show ((i + 1 : Nat) : Int) + -1 = (i : Int) by omega]; exact this
      · by_cases e : S = i + 1
        · subst e; exact h1
        · have h4 := (hf S hS).1 (by omega)
          unfold stpK at h4 ⊢
          rw [h2 S e]; exact h4
      · rw [h2 S (by omega)]; exact (hf S hS).2 (by omega)
      · by_cases e : S = i + 1
        · subst e; exact h3
        · rw [h2 S e]; exact hb S hS
    have skip : ¬ prc lod so tc (i + 1) → H_77_100 (d + 6) P lod (smB (fun i => cnB (fun t => (K i).testBit t) i) n : Nat) (2 ^ n : Nat) so tc j (((i + 1 : Nat) : Int) + -1) (rset M 38 f) := by
      intro hp
      refine ih ⟨fun z => by omega, fun _ => ⟨fun z => absurd z hp, fun _ => hfi⟩⟩ (fun _ _ => rfl) (hb _ (by omega))
    have hI1 : inI (((i + 1 : Nat) : Int) + -1) := by unfold inI; omega
    refine sg_77_100 ⟨fun z => by omega, fun _ => c_174 (by omega) ⟨fun z => ⟨hI1, skip (fun y => ?_)⟩, fun z => ⟨by unfold inI; omega, fun z2 => ⟨hI1, skip (fun y => ?_)⟩, fun z2 => ⟨by omega, by omega, ?_⟩⟩⟩⟩
    · have := y.1
      have := y.2.1
      split at z <;> omega
    · have := y.2.2
      omega
    · have hp : prc lod so tc (i + 1) := by
        refine ⟨?_, ?_, by omega⟩
        · split at z <;> omega
        · split at z <;> omega
      show EE (d + 6) 78 [vR 33, vI ((i + 1 : Nat) : Int), vI (zand ((i + 1 : Nat) : Int) (M 35 j)), vI 0, vI 0, vI (M 36 j)] (rset M 38 f) _
      have htl : tb j < 2 ^ 12 := Nat.lt_of_lt_of_le ht.2 h12
      rw [ht.1, hbd.1, zand_n (by omega) (by omega)]
      have h78 : ok78 (rset M 38 f) K n := ⟨hn, hM.2.2.1, hb⟩
      have hop : (i + 1) &&& tb j < 2 ^ n := Nat.lt_of_le_of_lt Nat.and_le_left hi
      refine c_78a h78 (by omega) hbd.2 hop (fun x hx => ?_)
      have hx2 : isX (Q78 K g (i + 1) ((i + 1) &&& tb j) 0 (bd j)) x := (isX_iff (fun p => Q78_c (fun R hR => (hf R (by omega)).2 hR) p)).mp hx
      have hxb : x ≤ 1000 := by
        rcases hx2 with y | y
        · omega
        · obtain ⟨β, b1, b2, b3⟩ := Snd_one hi hg y.2.1
          have h1 := vlB_le (K := K) (m := j + 1) (β := β) hn.2
          have h2 := smB_c (f := fun i => cnB (fun t => (K i).testBit t) i) (c := 12) (n := n) (fun t ht => by
            have := cnB_le (p := fun u => (K t).testBit u) t
            omega)
          omega
      have hms : mset (rset M 38 f) 38 ((i + 1 : Nat) : Int) x = rset M 38 (fset f ((i + 1 : Nat) : Int) x) := ms_same
      rw [hms]
      have goon : H_77_100 (d + 6) P lod (smB (fun i => cnB (fun t => (K i).testBit t) i) n : Nat) (2 ^ n : Nat) so tc j (((i + 1 : Nat) : Int) + -1) (rset M 38 (fset f ((i + 1 : Nat) : Int) x)) := by
        refine ih ⟨fun z => by omega, fun _ => ⟨fun _ => ?_, fun z => absurd hp z⟩⟩ (fun S hS => fs_ne (by omega)) (by rw [fs_eq]; exact hxb)
        rw [fs_eq]; exact hx2
      refine ⟨by omega, fun _ => ⟨hI1, goon⟩, fun y => ⟨by omega, fun _ => ⟨hI1, goon⟩, fun y2 => ?_⟩⟩
      refine hE _ ?_
      have y3 : fset f ((i + 1 : Nat) : Int) x ((i + 1 : Nat) : Int) = (smB (fun i => cnB (fun t => (K i).testBit t) i) n : Nat) := y2
      rw [fs_eq] at y3
      have hq : Q78 K g (i + 1) ((i + 1) &&& tb j) 0 (bd j) x := by
        rcases hx2 with w | w
        · have := w.1
          omega
        · exact w.2.1
      obtain ⟨β, b1, b2, b3⟩ := Snd_one hi hg hq
      exact resK_early hn.2 (j := j + 1) (S := i + 1) (by omega) rfl (by omega) ⟨β, b1, b2, by rw [← y3]; exact b3⟩
theorem smB_bd {bd : Nat → Nat} {m : Nat} (hm : m ≤ 6) (h : ∀ j, j < m → bd j ≤ 4) {j : Nat} (hj : j ≤ m) : smB bd j ≤ 24 := by
  have := smB_c (f := bd) (c := 4) (n := j) (fun i hi => h i (by omega))
  omega
theorem smB_mo {bd : Nat → Nat} {j m : Nat} (hj : j ≤ m) : smB bd j ≤ smB bd m := by
  have := smB_split (f := bd) (j := j) (m - j)
  rw [show j + (m - j) = m by omega] at this
  omega
theorem lp_77_62 {d : Nat} {P : Int → Mm → Prop} {M : Mm} {K tb bd : Nat → Nat} {n m lod : Nat} (hM : ok77 M K tb bd n m) (hex : ∃ β : Nat → Nat, fsB n tb bd m β ∧ pcB (mkL n β m) = lod) (hP : ∀ (r : Int) (f : Int → Int), resK K n tb bd m lod r → P r (rset M 38 f)) : ∀ (k j : Nat) {f : Int → Int}, k + j = m → SndK K n tb bd j f → CmpK K n tb bd m lod j f → (∀ S : Nat, S < 4096 → f S ≤ 1000) → H_77_62 (d + 6) P lod (smB (fun i => cnB (fun t => (K i).testBit t) i) n : Nat) (2 ^ n : Nat) (smB bd j : Nat) ((smB bd m - smB bd j : Nat) : Int) j (rset M 38 f)
  | 0, j, f, hk, hS, hC, hb => by
    have e : j = m := by omega
    subst e
    have hm := hM.2.1
    refine sg_77_62 ⟨fun _ => ?_, fun z => ?_⟩
    · exact lp_77_201 (d := d + 5) hM.1.2 (fun r h0 h1 h2 => hP r f (resK_all hS hC hex h0 h1 h2)) (2 ^ n) 0 (by omega) (Or.inl rfl) (Int.le_refl _) (fun S hS => by omega)
    · have z : (j : Int) < M 33 6 := z
      omega
  | k + 1, j, f, hk, hS, hC, hb => by
    have hm := hM.2.1
    have hn := hM.1
    have h12 : 2 ^ n ≤ 2 ^ 12 := Nat.pow_le_pow_right (by omega) hn.2
    have hp2 := Nat.two_pow_pos n
    have hbd := hM.2.2.2.2 j (by omega)
    have s1 := smB_bd (bd := bd) hm.2 (fun j hj => (hM.2.2.2.2 j hj).2) (j := m) (Nat.le_refl _)
    have s2 := smB_mo (bd := bd) (j := j + 1) (m := m) (by omega)
    have s3 : smB bd (j + 1) = smB bd j + bd j := rfl
    refine sg_77_62 ⟨fun z => ?_, fun _ => ?_⟩
    · have z : M 33 6 ≤ (j : Int) := z
      omega
    · show (0 ≤ (j : Int) ∧ (j : Int) < 6) ∧ inI (((smB bd j : Nat) : Int) + M 36 j) ∧ (0 ≤ (j : Int) ∧ (j : Int) < 6) ∧ inI (((smB bd m - smB bd j : Nat) : Int) - M 36 j) ∧ inI (((2 ^ n : Nat) : Int) - 1) ∧ H_77_100 (d + 6) P lod _ (2 ^ n : Nat) (((smB bd j : Nat) : Int) + M 36 j) (((smB bd m - smB bd j : Nat) : Int) - M 36 j) j (((2 ^ n : Nat) : Int) - 1) (rset M 38 f)
      rw [hbd.1, show ((smB bd j : Nat) : Int) + ((bd j : Nat) : Int) = ((smB bd (j + 1) : Nat) : Int) by omega, show ((smB bd m - smB bd j : Nat) : Int) - ((bd j : Nat) : Int) = ((smB bd m - smB bd (j + 1) : Nat) : Int) by omega, show ((2 ^ n : Nat) : Int) - 1 = ((2 ^ n - 1 : Nat) : Int) by omega]
      refine ⟨by omega, by unfold inI; omega, by omega, by unfold inI; omega, by unfold inI; omega, ?_⟩
      refine lp_77_100 (g := f) hM (by omega) (by omega) (by omega) hS hb (fun f2 hr => hP _ f2 hr) (fun f2 h1 h2 => ?_) (2 ^ n - 1) (by omega) (fun S hS2 => ⟨fun l => by omega, fun _ => rfl⟩) hb
      have := lp_77_62 (d := d) hM hex hP k (j + 1) (f := f2) (by omega) (SndK_s hS h1) (CmpK_s hn.2 (by omega) rfl (by omega) hC h1) h2
      rw [show ((j + 1 : Nat) : Int) = (j : Int) + 1 by omega] at this
      exact this
theorem lp_77_32 {d : Nat} {P : Int → Mm → Prop} {M : Mm} {K tb bd : Nat → Nat} {n m : Nat} {a1 a2 a3 : Int} (hM : ok77 M K tb bd n m) (h : H_77_62 d P a1 a2 a3 0 (smB bd m : Nat) 0 M) : ∀ (k j : Nat), k + j = m → H_77_32 d P a1 a2 a3 0 (smB bd j : Nat) j M
  | 0, j, hk => by
    have e : j = m := by omega
    subst e
    have hm := hM.2.1
    exact sg_77_32 ⟨fun _ => h, fun z => by omega⟩
  | k + 1, j, hk => by
    have hm := hM.2.1
    have hbd := hM.2.2.2.2 j (by omega)
    have s1 := smB_bd (bd := bd) hm.2 (fun j hj => (hM.2.2.2.2 j hj).2) (j := j) (by omega)
    have ih := lp_77_32 hM h k (j + 1) (by omega)
    rw [show ((j + 1 : Nat) : Int) = (j : Int) + 1 by omega, show ((smB bd (j + 1) : Nat) : Int) = ((smB bd j : Nat) : Int) + ((bd j : Nat) : Int) from Int.natCast_add _ _] at ih
    refine sg_77_32 ⟨fun z => by omega, fun _ => ?_⟩
    rw [hbd.1]
    exact ⟨by omega, by unfold inI; omega, by unfold inI; omega, ih⟩
theorem c_77 {d : Nat} {P : Int → Mm → Prop} {M : Mm} {K tb bd : Nat → Nat} {n m lod : Nat} (hM : ok77 M K tb bd n m) (hex : ∃ β : Nat → Nat, fsB n tb bd m β ∧ pcB (mkL n β m) = lod) (hP : ∀ (r : Int) (f : Int → Int), resK K n tb bd m lod r → P r (rset M 38 f)) : EE (d + 7) 77 [vR 33, vI lod, vI (smB (fun i => cnB (fun t => (K i).testBit t) i) n : Nat)] M (rI P) := by
  have hn := hM.1
  have h12 : 2 ^ n ≤ 2 ^ 12 := Nat.pow_le_pow_right (by omega) hn.2
  refine sg_77 (c_173 shk_38 (by decide) ?_)
  rw [ms_same, hn.1, (zshl_1 n (by omega)).1]
  refine lp_77_32 (M := rset M 38 (fset (ffl (-9) (4096 : Nat) (M 38)) 0 0)) hM ?_ m 0 rfl
  have key := lp_77_62 (d := d) hM hex hP m 0 (f := fset (ffl (-9) (4096 : Nat) (M 38)) 0 0) rfl (fun S hS h0 => ?_) (fun β hβ hl => ?_) (fun S hS => ?_)
  · exact key
  · by_cases e : S = 0
    · subst e
      refine ⟨fun _ => 0, fun j hj => by omega, ?_, ?_⟩
      · refine bit_eq (mkL_lt (n := n)) (Nat.two_pow_pos n) (fun i hi => ?_)
        unfold mkL
        rw [mkM_t, Nat.zero_testBit, decide_eq_false (show ¬ (0 : Nat) < 0 by omega), Bool.and_false]
      · exact fs_eq
    · rw [fs_ne (by omega)] at h0
      unfold ffl at h0
      rw [if_pos (by omega)] at h0
      omega
  · have e : mkL n β 0 = 0 := by
      refine bit_eq (mkL_lt (n := n)) (Nat.two_pow_pos n) (fun i hi => ?_)
      unfold mkL
      rw [mkM_t, Nat.zero_testBit, decide_eq_false (show ¬ β i < 0 by omega), Bool.and_false]
    rw [e]
    have e2 : fset (ffl (-9) (4096 : Nat) (M 38)) 0 0 ((0 : Nat) : Int) = 0 := fs_eq
    rw [e2]
    exact Int.le_refl 0
  · by_cases e : S = 0
    · subst e
      have e2 : fset (ffl (-9) (4096 : Nat) (M 38)) 0 0 ((0 : Nat) : Int) = 0 := fs_eq
      rw [e2]; omega
    · rw [fs_ne (by omega)]
      unfold ffl
      rw [if_pos (by omega)]
      omega
