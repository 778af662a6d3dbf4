/-! type, name -/
theorem ms_id {M : Mm} {a : Nat} {i : Int} : mset M a i (M a i) = M := by
  funext q j
  simp only [mset, rset]
  by_cases h : q = a
  · subst h
    rw [if_pos rfl]
    simp only [fset]
    by_cases h2 : j = i
    · rw [if_pos h2, h2]
    · rw [if_neg h2]
  · rw [if_neg h]
theorem rs_ms_comm {M : Mm} {a b : Nat} {f : Int → Int} {i x : Int} (h : b ≠ a) : rset (mset M a i x) b f = mset (rset M b f) a i x := by
  rw [ms_comm (fun e => h e.symm)]
theorem rs_ms_same {M : Mm} {a : Nat} {f : Int → Int} {i x : Int} : rset (mset M a i x) a f = rset M a f := by
  rw [ms_rs, rs_rs]
/-- the bytes k - 1 .. 0 of v, written from L on -/
def apd (v : Int) : Nat → (Int → Int) → Int → (Int → Int)
  | 0, f, _ => f
  | k + 1, f, L => apd v k (fset f L (byt v k)) (L + 1)
theorem apd_b {v : Int} : ∀ {n : Nat} {f : Int → Int} {L : Int}, (∀ i, 0 ≤ i → i < L → 0 ≤ f i ∧ f i ≤ 255) → ∀ i, 0 ≤ i → i < L + n → 0 ≤ apd v n f L i ∧ apd v n f L i ≤ 255
  | 0, f, L, h, i, h0, h1 => h i h0 (by omega)
  | n + 1, f, L, h, i, h0, h1 => by
    refine apd_b (n := n) (f := fset f L (byt v n)) (L := L + 1) (fun j j0 j1 => ?_) i h0 (by omega)
    by_cases e : j = L
    · rw [ps_eq e]; exact byt_b v n
    · rw [fs_ne e]; exact h j j0 (by omega)
theorem lp_56 {d : Nat} {PV : Mm → Prop} {v : Int} : ∀ (n : Nat) {a4 : Int} {M : Mm}, n ≤ 8 → a4 = (n : Int) - 1 → 0 ≤ M 8 1 → M 8 1 + n ≤ 600 → PV (mset (rset M 9 (apd v n (M 9) (M 8 1))) 8 1 (M 8 1 + n)) → H_56_5 d PV v a4 M
  | 0, a4, M, hn, ha, h0, h1, h => by
    refine sg_56_5 ⟨fun _ => ?_, fun q => by omega⟩
    have e : mset (rset M 9 (apd v 0 (M 9) (M 8 1))) 8 1 (M 8 1 + (0 : Nat)) = M := by
      show mset (rset M 9 (M 9)) 8 1 (M 8 1 + (0 : Nat)) = M
      rw [rs_id, show M 8 1 + ((0 : Nat) : Int) = M 8 1 by omega, ms_id]
    rw [e] at h
    exact h
  | n + 1, a4, M, hn, ha, h0, h1, h => by
    refine sg_56_5 ⟨fun q => by omega, fun _ => ⟨by unfold inI; omega, by omega, by unfold inI; omega, by unfold inI; omega, ?_⟩⟩
    rw [zju (by omega), show a4.toNat = n by omega]
    refine lp_56 n (by omega) (by omega) (by show 0 ≤ M 8 1 + 1; omega) (by show M 8 1 + 1 + (n : Int) ≤ 600; omega) ?_
    have e : mset (rset (mset (mset M 9 (M 8 1) (byt v n)) 8 1 (M 8 1 + 1)) 9 (apd v n ((mset (mset M 9 (M 8 1) (byt v n)) 8 1 (M 8 1 + 1)) 9) ((mset (mset M 9 (M 8 1) (byt v n)) 8 1 (M 8 1 + 1)) 8 1))) 8 1 ((mset (mset M 9 (M 8 1) (byt v n)) 8 1 (M 8 1 + 1)) 8 1 + n) = mset (rset M 9 (apd v (n + 1) (M 9) (M 8 1))) 8 1 (M 8 1 + ((n + 1 : Nat) : Int)) := by
      show mset (rset (mset (mset M 9 (M 8 1) (byt v n)) 8 1 (M 8 1 + 1)) 9 (apd v n (fset (M 9) (M 8 1) (byt v n)) (M 8 1 + 1))) 8 1 (M 8 1 + 1 + n) = _
      rw [rs_ms_comm (by decide), rs_ms_same, ms_ms, show M 8 1 + 1 + (n : Int) = M 8 1 + ((n + 1 : Nat) : Int) by omega]
      rfl
    rw [e]
    exact h
theorem lp_109 {d : Nat} {P : Int → Mm → Prop} {v : Int} (hv : inJ v) : ∀ (n : Nat) {a4 : Int} {M : Mm}, n ≤ 8 → a4 = (n : Int) - 1 → 0 ≤ M 76 20 → M 76 20 + n ≤ 600 → P (M 76 20 + n) (mset (rset M 91 (apd v n (M 91) (M 76 20))) 76 20 (M 76 20 + n)) → H_109_37 d P v a4 M
  | 0, a4, M, hn, ha, h0, h1, h => by
    refine sg_109_37 ⟨fun _ => ?_, fun q => by omega⟩
    have e : mset (rset M 91 (apd v 0 (M 91) (M 76 20))) 76 20 (M 76 20 + (0 : Nat)) = M := by
      show mset (rset M 91 (M 91)) 76 20 (M 76 20 + (0 : Nat)) = M
      rw [rs_id, show M 76 20 + ((0 : Nat) : Int) = M 76 20 by omega, ms_id]
    rw [e, show M 76 20 + ((0 : Nat) : Int) = M 76 20 by omega] at h
    exact h
  | n + 1, a4, M, hn, ha, h0, h1, h => by
    refine sg_109_37 ⟨fun q => by omega, fun _ => ⟨by unfold inI; omega, by omega, by unfold inI; omega, by unfold inI; omega, ?_⟩⟩
    rw [wjs hv (by omega), show a4.toNat = n by omega]
    refine lp_109 hv n (by omega) (by omega) (by show 0 ≤ M 76 20 + 1; omega) (by show M 76 20 + 1 + (n : Int) ≤ 600; omega) ?_
    have e : mset (rset (mset (mset M 91 (M 76 20) (byt v n)) 76 20 (M 76 20 + 1)) 91 (apd v n (fset (M 91) (M 76 20) (byt v n)) (M 76 20 + 1))) 76 20 (M 76 20 + 1 + n) = mset (rset M 91 (apd v (n + 1) (M 91) (M 76 20))) 76 20 (M 76 20 + ((n + 1 : Nat) : Int)) := by
      rw [rs_ms_comm (by decide), rs_ms_same, ms_ms, show M 76 20 + 1 + (n : Int) = M 76 20 + ((n + 1 : Nat) : Int) by omega]
      rfl
    show P (M 76 20 + 1 + n) (mset (rset (mset (mset M 91 (M 76 20) (byt v n)) 76 20 (M 76 20 + 1)) 91 (apd v n (fset (M 91) (M 76 20) (byt v n)) (M 76 20 + 1))) 76 20 (M 76 20 + 1 + n))
    rw [e, show M 76 20 + 1 + (n : Int) = M 76 20 + ((n + 1 : Nat) : Int) by omega]
    exact h
theorem op_type {d : Nat} {M : Mm} {k v a3 : Int} (hv : inJ v) (hI : Inv k M) : opI k (d + 5) 1 109 [vL v, vI a3] M := by
  have hI2 := hI.thr
  obtain ⟨hC, hN, hD, hP, hB, hH, hL, hO, hY, hE, hT⟩ := hI
  obtain ⟨hl, hl2, hf, hr⟩ := hD
  by_cases hV : 1 ≤ a3 ∧ a3 ≤ 8
  · obtain ⟨n, rfl⟩ := Int.eq_ofNat_of_zero_le (show 0 ≤ a3 by omega)
    refine sg_1 (c_32 (fun _ => t1' ⟨by unfold inI; omega, ?_⟩) (fun q => absurd hV q))
    refine ⟨fun q => ?_, fun q => ?_⟩
    · refine sg_56 ⟨by unfold inI; omega, ?_⟩
      refine lp_56 n (by omega) rfl hl.1 q ?_
      refine sg_109 (c_140 (fun _ => t1' ⟨by show inI (M 76 20 + n); unfold inI; omega, ?_⟩) (fun q => absurd hV q))
      refine ⟨fun q2 => ⟨by unfold inI; omega, ?_⟩, fun q2 => ?_⟩
      · refine lp_109 hv n (by omega) rfl (by show 0 ≤ M 76 20; omega) (by show M 76 20 + (n : Int) ≤ 600; omega) ?_
        refine ⟨by show M 76 20 + (n : Int) = M 8 1 + n; omega, hC, hN, ⟨by show 0 ≤ M 8 1 + (n : Int) ∧ M 8 1 + (n : Int) ≤ 600; omega, by show M 76 20 + (n : Int) = M 8 1 + n; omega, ?_, ?_⟩, hP, hB, hH, hL, hO, hY, hE, hT.up⟩
        · show apd v n (M 91) (M 76 20) = apd v n (M 9) (M 8 1)
          rw [hf, hl2]
        · intro i i0 i1
          exact apd_b (f := M 9) (L := M 8 1) hr i i0 i1
      · have q2 : 600 < M 76 20 + (n : Int) := q2
        omega
    · refine sg_109 (c_140 (fun _ => t1' ⟨by show inI (M 76 20 + n); unfold inI; omega, ?_⟩) (fun q => absurd hV q))
      exact ⟨fun q2 => absurd (show M 76 20 + (n : Int) ≤ 600 from q2) (by omega), fun _ => ⟨rfl, hI2⟩⟩
  · refine sg_1 (c_32 (fun q => absurd q hV) (fun _ => t0' ?_))
    exact sg_109 (c_140 (fun q => absurd q hV) (fun _ => t0' ⟨rfl, hI2⟩))
/-- a text is a name -/
def isNm (f : Int → Int) (L : Int) : Prop := (1 ≤ L ∧ L ≤ 8) ∧ ∀ i, 0 ≤ i → i < L → 97 ≤ f i ∧ f i ≤ 122
theorem lp_58 {d : Nat} {P : Int → Mm → Prop} {M : Mm} (hL : 1 ≤ M 8 1 ∧ M 8 1 ≤ 8) (h1 : isNm (M 9) (M 8 1) → P 1 M) (h0 : ¬ isNm (M 9) (M 8 1) → P 0 M) : ∀ (n : Nat) {i : Int}, (n : Int) = M 8 1 - i → 0 ≤ i → (∀ j, 0 ≤ j → j < i → 97 ≤ M 9 j ∧ M 9 j ≤ 122) → H_58_17 (d + 1) P i M
  | 0, i, hn, hi, hp => by
    refine sg_58_17 ⟨fun _ => h1 ⟨hL, fun j j0 j1 => hp j j0 (by omega)⟩, fun q => by omega⟩
  | n + 1, i, hn, hi, hp => by
    refine sg_58_17 ⟨fun q => by omega, fun q => ⟨by omega, ?_⟩⟩
    refine c_32 (fun v => t1' ⟨by unfold inI; omega, ?_⟩) (fun v => t0' ?_)
    · refine lp_58 hL h1 h0 n (by omega) (by omega) (fun j j0 j1 => ?_)
      by_cases e : j = i
      · subst e; exact v
      · exact hp j j0 (by omega)
    · exact h0 (fun z => v (z.2 i hi q))
theorem c_58 {d : Nat} {P : Int → Mm → Prop} {M : Mm} (h1 : isNm (M 9) (M 8 1) → P 1 M) (h0 : ¬ isNm (M 9) (M 8 1) → P 0 M) : EE (d + 2) 58 [vR 8] M (rI P) := by
  refine sg_58 (c_32 (fun v => t1' ?_) (fun v => t0' ?_))
  · exact lp_58 v h1 h0 (M 8 1).toNat (by omega) (Int.le_refl 0) (fun j j0 j1 => by omega)
  · exact h0 (fun z => v z.1)
/-- the first n bytes of a text as one number, the first one highest -/
def pkd (f : Int → Int) : Nat → Int
  | 0 => 0
  | n + 1 => pkd f n * 256 + f n
theorem pkd_k {f : Int → Int} : ∀ {n : Nat}, (∀ i, 0 ≤ i → i < (n : Int) → 97 ≤ f i ∧ f i ≤ 122) → 0 ≤ pkd f n ∧ pkd f n * 255 ≤ 122 * (((256 ^ n : Nat) : Int) - 1)
  | 0, _ => by
    show (0 : Int) ≤ 0 ∧ (0 : Int) * 255 ≤ 122 * (((256 ^ 0 : Nat) : Int) - 1)
    decide
  | n + 1, h => by
    have ih := pkd_k (n := n) (fun i i0 i1 => h i i0 (by omega))
    have hb := h n (by omega) (by omega)
    have e : (256 ^ (n + 1) : Nat) = 256 ^ n * 256 := Nat.pow_succ 256 n
    show 0 ≤ pkd f n * 256 + f n ∧ (pkd f n * 256 + f n) * 255 ≤ 122 * (((256 ^ (n + 1) : Nat) : Int) - 1)
    rw [e, Int.natCast_mul]
    generalize ((256 ^ n : Nat) : Int) = w at *
    generalize f (n : Int) = y at *
    generalize pkd f n = z at *
    omega
theorem pkd_b {f : Int → Int} {n : Nat} (hn : n ≤ 7) (h : ∀ i, 0 ≤ i → i < (n : Int) → 97 ≤ f i ∧ f i ≤ 122) : 0 ≤ pkd f n ∧ pkd f n < 36028797018963968 := by
  have h1 := pkd_k h
  have h2 : 256 ^ n ≤ 256 ^ 7 := Nat.pow_le_pow_right (by decide) hn
  have e : (256 ^ 7 : Nat) = 72057594037927936 := by decide
  rw [e] at h2
  omega
theorem pkd_dv {f : Int → Int} {n : Nat} : ∀ (j : Nat), (∀ i, 0 ≤ i → i < ((n + j : Nat) : Int) → 0 ≤ f i ∧ f i ≤ 255) → pkd f (n + j) / ((256 ^ j : Nat) : Int) = pkd f n
  | 0, _ => by
    show pkd f n / ((256 ^ 0 : Nat) : Int) = pkd f n
    rw [Nat.pow_zero]
    exact Int.ediv_one _
  | j + 1, h => by
    have ih := pkd_dv (n := n) j (fun i i0 i1 => h i i0 (by omega))
    have hb := h ((n + j : Nat) : Int) (by omega) (by omega)
    show (pkd f (n + j) * 256 + f ((n + j : Nat) : Int)) / ((256 ^ (j + 1) : Nat) : Int) = pkd f n
    have e : (256 ^ (j + 1) : Nat) = 256 * 256 ^ j := by rw [Nat.pow_succ, Nat.mul_comm]
    rw [e, Int.natCast_mul, ← Int.ediv_ediv_of_nonneg (by decide)]
    have e2 : (pkd f (n + j) * 256 + f ((n + j : Nat) : Int)) / ((256 : Nat) : Int) = pkd f (n + j) := by omega
    rw [e2, ih]
theorem pkd_byt {f : Int → Int} {k j : Nat} (h : ∀ i, 0 ≤ i → i < ((k + 1 + j : Nat) : Int) → 0 ≤ f i ∧ f i ≤ 255) : byt (pkd f (k + 1 + j)) j = f k := by
  unfold byt
  rw [pkd_dv j h]
  have hb := h k (by omega) (by omega)
  show (pkd f k * 256 + f k) % 256 = f k
  omega
theorem lp_59 {d : Nat} {P : Int → Mm → Prop} {M : Mm} (hL : isNm (M 9) (M 8 1)) (h : P (pkd (M 9) (M 8 1).toNat) M) : ∀ (n i : Nat) {a : Int}, (n : Int) = M 8 1 - i → a = pkd (M 9) i → H_59_4 d P a i M
  | 0, i, a, hn, ha => by
    refine sg_59_4 ⟨fun _ => ?_, fun q => by omega⟩
    rw [ha, show i = (M 8 1).toNat by omega]
    exact h
  | n + 1, i, a, hn, ha => by
    have hb := hL.1
    refine sg_59_4 ⟨fun q => by omega, fun q => ⟨by omega, by unfold inI; omega, ?_⟩⟩
    have hp := pkd_b (f := M 9) (n := i) (by omega) (fun j j0 j1 => hL.2 j j0 (by omega))
    have hf := hL.2 i (by omega) q
    have e : jor (jshl a 8) (M 9 i) = pkd (M 9) (i + 1) := by
      rw [ha]
      obtain ⟨x, hx⟩ := Int.eq_ofNat_of_zero_le hp.1
      obtain ⟨y, hy⟩ := Int.eq_ofNat_of_zero_le (show 0 ≤ M 9 i by omega)
      show jor (jshl (pkd (M 9) i) 8) (M 9 i) = pkd (M 9) i * 256 + M 9 i
      rw [hx, hy, jor_low (by omega) (by omega)]
      omega
    rw [e]
    have e2 : (i : Int) + 1 = ((i + 1 : Nat) : Int) := by omega
    rw [e2]
    exact lp_59 hL h n (i + 1) (by omega) rfl
theorem c_59 {d : Nat} {P : Int → Mm → Prop} {M : Mm} (hL : isNm (M 9) (M 8 1)) (h : P (pkd (M 9) (M 8 1).toNat) M) : EE (d + 1) 59 [vR 8] M (rL P) := by
  refine sg_59 ?_
  have hb := hL.1
  exact lp_59 hL h (M 8 1).toNat 0 (by omega) rfl
/-- n letters of g stand in f from 8 c on -/
def lcp (f g : Int → Int) (c n : Int) : Int → Int := fun j => if 8 * c ≤ j ∧ j < 8 * c + n then g (j - 8 * c) else f j
theorem lcp_0 {f g : Int → Int} {c : Int} : lcp f g c 0 = f := by
  funext j
  unfold lcp
  rw [if_neg (by omega)]
theorem lcp_s {f g : Int → Int} {c n : Int} (hn : 0 ≤ n) : fset (lcp f g c n) (8 * c + n) (g n) = lcp f g c (n + 1) := by
  funext j
  unfold fset lcp
  by_cases h : j = 8 * c + n
  · rw [if_pos h, if_pos (by omega), h]
    congr 1
    omega
  · rw [if_neg h]
    by_cases h2 : 8 * c ≤ j ∧ j < 8 * c + n
    · rw [if_pos h2, if_pos (by omega)]
    · rw [if_neg h2, if_neg (by omega)]
theorem lp_111_79 {d : Nat} {P : Int → Mm → Prop} {M : Mm} {c : Int} (hc : 0 ≤ c ∧ c < 48) (hL : 1 ≤ M 76 20 ∧ M 76 20 ≤ 8) (h : P (M 81 c) (mset (rset M 82 (lcp (M 82) (M 91) c (M 76 20))) 76 20 0)) : ∀ (n : Nat) {i : Int}, (n : Int) = M 76 20 - i → 0 ≤ i → H_111_79 d P c i (rset M 82 (lcp (M 82) (M 91) c i))
  | 0, i, hn, hi => by
    refine sg_111_79 ⟨fun _ => ⟨hc, ?_⟩, fun q => ?_⟩
    · rw [show i = M 76 20 by omega]
      exact h
    · have q : i < M 76 20 := q
      omega
  | n + 1, i, hn, hi => by
    refine sg_111_79 ⟨fun q => ?_, fun q => ⟨by unfold inI; omega, by unfold inI; omega, by omega, by omega, by unfold inI; omega, ?_⟩⟩
    · have q : M 76 20 ≤ i := q
      omega
    · rw [ms_same]
      show H_111_79 d P c (i + 1) (rset M 82 (fset (lcp (M 82) (M 91) c i) (8 * c + i) (M 91 i)))
      rw [lcp_s hi]
      exact lp_111_79 hc hL h n (by omega) (by omega)
theorem lp_111_28 {d : Nat} {P : Int → Mm → Prop} {M : Mm} {c : Int} (hL : 1 ≤ M 76 20 ∧ M 76 20 ≤ 8) (h1 : isNm (M 91) (M 76 20) → H_111_60 (d + 1) P c 1 M) (h0 : ¬ isNm (M 91) (M 76 20) → H_111_60 (d + 1) P c 0 M) : ∀ (n : Nat) {i : Int}, (n : Int) = M 76 20 - i → 0 ≤ i → (∀ j, 0 ≤ j → j < i → 97 ≤ M 91 j ∧ M 91 j ≤ 122) → H_111_28 (d + 1) P c 1 i M
  | 0, i, hn, hi, hp => by
    refine sg_111_28 ⟨fun _ => h1 ⟨hL, fun j j0 j1 => hp j j0 (by omega)⟩, fun q => by omega⟩
  | n + 1, i, hn, hi, hp => by
    refine sg_111_28 ⟨fun q => by omega, fun q => t1 ⟨by omega, ?_⟩⟩
    refine c_140 (fun v => ⟨by unfold inI; omega, ?_⟩) (fun v => ⟨by unfold inI; omega, ?_⟩)
    · refine lp_111_28 hL h1 h0 n (by omega) (by omega) (fun j j0 j1 => ?_)
      by_cases e : j = i
      · subst e; exact v
      · exact hp j j0 (by omega)
    · have hx := h0 (fun z => v (z.2 i hi q))
      exact sg_111_28 ⟨fun _ => hx, fun _ => t0 hx⟩
theorem op_name {d : Nat} {M : Mm} {k c : Int} (hI : Inv k M) : opI k (d + 5) 3 111 [vI c] M := by
  have hI2 := hI.thr
  obtain ⟨hC, hN, hD, hP, hB, hH, hL, hO, hY, hE, hT⟩ := hI
  obtain ⟨hl, hl2, hf, hr⟩ := hD
  have hn := hC.1
  have hn2 := hC.2.1
  by_cases hV : 0 ≤ c ∧ c < M 1 6
  · have hc : 0 ≤ c ∧ c < 48 := by omega
    by_cases hm : isNm (M 9) (M 8 1)
    · refine sg_3 (c_35 hn (fun _ => t1' ?_) (fun q => absurd hV q))
      refine c_58 (fun _ => t1' ?_) (fun q => absurd hm q)
      refine c_59 hm ⟨hc, hc, c_57 ?_⟩
      refine sg_111 (c_141 (by show 0 ≤ M 76 2 ∧ M 76 2 ≤ 48; omega) (fun _ => t1' ?_) (fun q => absurd (show 0 ≤ c ∧ c < M 76 2 by omega) q))
      have hm2 : isNm (M 91) (M 76 20) := by rw [hf, hl2]; exact hm
      refine c_140 (fun v => ?_) (fun q => absurd hm2.1 q)
      refine lp_111_28 v (fun _ => ?_) (fun q => absurd hm2 q) (M 76 20).toNat (by show ((M 76 20).toNat : Int) = M 76 20 - 0; have := hm2.1; omega) (Int.le_refl 0) (fun j j0 j1 => by omega)
      refine sg_111_60 (t1' ⟨hc, ?_⟩)
      generalize hM1 : mset (mset (mset (mset (mset M 6 c (pkd (M 9) (M 8 1).toNat)) 7 c (M 8 1)) 8 1 0) 76 0 0) 81 c (M 76 20) = M1
      have e81 : mset (mset (mset (mset (mset M 6 c (pkd (M 9) (M 8 1).toNat)) 7 c (M 8 1)) 8 1 0) 76 0 0) 81 c ((mset (mset (mset (mset M 6 c (pkd (M 9) (M 8 1).toNat)) 7 c (M 8 1)) 8 1 0) 76 0 0) 76 20) = M1 := hM1
      have e1 : H_111_79 (d + 4) (fun r2 M2 => r2 = (mset (mset M 6 c (pkd (M 9) (M 8 1).toNat)) 7 c (M 8 1)) 8 1 ∧ Inv (k + 1) M2) c 0 M1 := by
        have e2 : M1 = rset M1 82 (lcp (M1 82) (M1 91) c 0) := by rw [lcp_0, rs_id]
        rw [e2]
        have hq := hm2.1
        refine lp_111_79 (M := M1) hc (by rw [← hM1]; exact hq) ?_ (M 76 20).toNat (by rw [← hM1]; show ((M 76 20).toNat : Int) = M 76 20 - 0; omega) (Int.le_refl 0)
        subst hM1
        refine ⟨?_, hC, ⟨?_, fun z hz => ?_, fun z z0 z1 => ?_⟩, ⟨⟨by show (0 : Int) ≤ 0; omega, by show (0 : Int) ≤ 600; omega⟩, rfl, hf, fun i i0 i1 => ?_⟩, hP, hB, hH, hL, hO, hY, hE, hT.up⟩
        · show fset (M 81) c (M 76 20) c = M 8 1
          rw [fs_eq, hl2]
        · show fset (M 81) c (M 76 20) = fset (M 7) c (M 8 1)
          rw [hN.1, hl2]
        · have hz : M 1 6 ≤ z := hz
          show fset (M 7) c (M 8 1) z = 0
          rw [fs_ne (by omega)]
          exact hN.2.1 z hz
        · have z1 : z < M 1 6 := z1
          have hq := hm.1
          show (0 ≤ fset (M 7) c (M 8 1) z ∧ fset (M 7) c (M 8 1) z ≤ 8) ∧ ∀ i, 0 ≤ i → i < fset (M 7) c (M 8 1) z → lcp (M 82) (M 91) c (M 76 20) (8 * z + i) = ltr (fset (M 6) c (pkd (M 9) (M 8 1).toNat) z) (fset (M 7) c (M 8 1) z) i ∧ 97 ≤ lcp (M 82) (M 91) c (M 76 20) (8 * z + i) ∧ lcp (M 82) (M 91) c (M 76 20) (8 * z + i) ≤ 122
          by_cases hz : z = c
          · subst hz
            rw [fs_eq, fs_eq]
            refine ⟨by omega, fun i i0 i1 => ?_⟩
            have e5 : lcp (M 82) (M 91) z (M 76 20) (8 * z + i) = M 9 i := by
              unfold lcp
              rw [if_pos (by omega), hf]
              congr 1
              omega
            rw [e5]
            refine ⟨?_, hm.2 i i0 i1⟩
            unfold ltr
            rw [zju (by omega)]
            have e6 := pkd_byt (f := M 9) (k := i.toNat) (j := (M 8 1 - 1 - i).toNat) (fun x x0 x1 => by have := hm.2 x x0 (by omega); omega)
            rw [show i.toNat + 1 + (M 8 1 - 1 - i).toNat = (M 8 1).toNat by omega, show ((i.toNat : Nat) : Int) = i by omega] at e6
            exact e6.symm
          · rw [fs_ne hz, fs_ne hz]
            obtain ⟨y1, y2⟩ := hN.2.2 z z0 z1
            refine ⟨y1, fun i i0 i1 => ?_⟩
            have e5 : lcp (M 82) (M 91) c (M 76 20) (8 * z + i) = M 82 (8 * z + i) := by
              unfold lcp
              rw [if_neg (by omega)]
            rw [e5]
            exact y2 i i0 i1
        · have i1 : i < 0 := i1
          omega
      rw [e81]
      exact e1
    · refine sg_3 (c_35 hn (fun _ => t1' ?_) (fun q => absurd hV q))
      refine c_58 (fun q => absurd q hm) (fun _ => t0' ?_)
      refine sg_111 (c_141 (by show 0 ≤ M 76 2 ∧ M 76 2 ≤ 48; omega) (fun _ => t1' ?_) (fun q => absurd (show 0 ≤ c ∧ c < M 76 2 by omega) q))
      have hm2 : ¬ isNm (M 91) (M 76 20) := by rw [hf, hl2]; exact hm
      have hx : H_111_60 (d + 4) (fun r2 M2 => r2 = -2 ∧ Inv (k + 1) M2) c 0 (mset M 76 0 0) := sg_111_60 (t0' ⟨rfl, hI2⟩)
      refine c_140 (fun v => ?_) (fun v => ?_)
      · exact lp_111_28 v (fun q => absurd q hm2) (fun _ => hx) (M 76 20).toNat (by have v : 1 ≤ M 76 20 ∧ M 76 20 ≤ 8 := v; show ((M 76 20).toNat : Int) = M 76 20 - 0; omega) (Int.le_refl 0) (fun j j0 j1 => by omega)
      · exact sg_111_28 ⟨fun _ => hx, fun _ => t0 hx⟩
  · refine sg_3 (c_35 hn (fun q => absurd q hV) (fun _ => t0' ?_))
    exact sg_111 (c_141 (by show 0 ≤ M 76 2 ∧ M 76 2 ≤ 48; omega) (fun q => absurd q (by show ¬ (0 ≤ c ∧ c < M 76 2); omega)) (fun _ => t0' ⟨rfl, hI2⟩))
