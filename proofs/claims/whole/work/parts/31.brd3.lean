/-! Arrays.fill; the class settles -/
def ffl (v n : Int) (f : Int → Int) : Int → Int := fun j => if 0 ≤ j ∧ j < n then v else f j
theorem ffl_s {v : Int} {i : Nat} {f : Int → Int} : fset (ffl v i f) i v = ffl v ((i : Int) + 1) f := by
  funext j
  unfold fset ffl
  by_cases h : j = (i : Int)
  · rw [if_pos h, if_pos (by omega)]
  · rw [if_neg h]
    by_cases h2 : 0 ≤ j ∧ j < (i : Int)
    · rw [if_pos h2, if_pos (by omega)]
    · rw [if_neg h2, if_neg (by omega)]
theorem ffl_0 {v : Int} {f : Int → Int} : ffl v 0 f = f := by
  funext j
  unfold ffl
  rw [if_neg (by omega)]
theorem mN_173 : mN 173 = 4 := by decide +kernel
theorem ee_173 {d : Nat} {Q : Ql} {k : Nat} {v : Int} {M : Mm} (h : GoG false (EE d) cd_173 Q 0 [vR k, vI v, vU, vU] [] M) : EE (d + 1) 173 [vR k, vI v] M Q := by
  have e : cdTab 173 = cd_173 := rfl
  unfold EE; rw [mN_173, e]; exact ⟨Nat.le_of_ble_eq_true rfl, h⟩
theorem lp_173 {d : Nat} {PV : Mm → Prop} {M : Mm} {k n : Nat} {rs : List Nat} {v : Int} (hs : sh k = (0, n, rs)) (hn : n ≤ 20000) (hK : PV (rset M k (ffl v n (M k)))) : ∀ (j i : Nat), j + i = n → GoG false (EE d) cd_173 (rV PV) 5 [vR k, vI v, vI (i : Int), vI (n : Int)] [] (rset M k (ffl v i (M k)))
  | 0, i, hi => by
    have hE := EE_mono d
    refine z_iload hE rfl rfl ?_
    refine z_iload hE rfl rfl ?_
    refine z_icmp_ge hE rfl ⟨fun _ => ?_, fun q => by omega⟩
    rw [show i = n by omega]
    exact z_vret hE rfl hK
  | j + 1, i, hi => by
    have hE := EE_mono d
    have ih := lp_173 (d := d) hs hn hK j (i + 1) (by omega)
    rw [show ((i + 1 : Nat) : Int) = (i : Int) + 1 by omega] at ih
    refine z_iload hE rfl rfl ?_
    refine z_iload hE rfl rfl ?_
    refine z_icmp_ge hE rfl ⟨fun q => by omega, fun _ => ?_⟩
    refine z_aload hE rfl rfl rfl ?_
    refine z_iload hE rfl rfl ?_
    refine z_iload hE rfl rfl ?_
    refine z_iast hE rfl hs (by omega) ?_
    refine z_iinc hE rfl rfl rfl (by unfold inI; omega) ?_
    refine z_goto hE rfl ?_
    rw [ms_same, ffl_s]
    exact ih
theorem c_173 {d : Nat} {PV : Mm → Prop} {M : Mm} {k n : Nat} {rs : List Nat} {v : Int} (hs : sh k = (0, n, rs)) (hn : n ≤ 20000) (hK : PV (rset M k (ffl v n (M k)))) : EE (d + 1) 173 [vR k, vI v] M (rV PV) := by
  have hE := EE_mono d
  refine ee_173 ?_
  refine z_iconst hE rfl ?_
  refine z_istore hE rfl rfl rfl ?_
  refine z_aload hE rfl rfl rfl ?_
  refine z_alen hE rfl hs ?_
  refine z_istore hE rfl rfl rfl ?_
  have := lp_173 (d := d) hs hn hK n 0 (by omega)
  rw [show ((0 : Nat) : Int) = 0 from rfl, ffl_0, rs_id] at this
  exact this
theorem lp_94_38 {d : Nat} {PV : Mm → Prop} {M : Mm} {b c e : Int → Int} (hP : IP M) (hK : ∀ a, (∀ t, 0 ≤ t → t < 6 → a t = M 84 (5 * t + 2)) → H_94_66 d PV 0 (bW M 0 a b c e)) : ∀ (k t : Nat) {a : Int → Int}, k + t = 6 → (∀ x, 0 ≤ x → x < (t : Int) → a x = M 84 (5 * x + 2)) → H_94_38 d PV t (bW M 0 a b c e)
  | 0, t, a, hk, ha => sg_94_38 ⟨fun _ => hK a (fun x x0 x1 => ha x x0 (by omega)), fun z => by omega⟩
  | k + 1, t, a, hk, ha => by
    have e9 : bW M 0 a b c e (14 + ((t : Int)).toNat) = M (14 + ((t : Int)).toNat) := by
      unfold bW; simp only [mset, rset]; rw [if_neg (by omega), if_neg (by omega), if_neg (by omega), if_neg (by omega), if_neg (by omega)]
    have hat := hP.2.2.1.at (t := t) (j := 2) (by omega) (by omega) (by omega) (by omega)
    refine sg_94_38 ⟨fun z => by omega, fun _ => ⟨by omega, by omega, by unfold inI; omega, ?_⟩⟩
    rw [e9, hat, bW_20]
    have ih := lp_94_38 (d := d) hP hK k (t + 1) (a := fset a t (M 84 (5 * t + 2))) (by omega) (fun x x0 x1 => by
      by_cases ex : x = (t : Int)
      · rw [ps_eq ex, ex]
      · rw [fs_ne ex]; exact ha x x0 (by omega))
    rw [show ((t + 1 : Nat) : Int) = (t : Int) + 1 by omega] at ih
    exact ih
theorem c_94 {d : Nat} {PV : Mm → Prop} {M : Mm} (hP : IP M) (hC : IC M) (hB : IB M) (hK : ∀ w a b c e, ag c (bT (M 1 6) (M 5) (M 83) (M 84) (M 10 8)) → ag e (bM (M 1 6) (M 5) (M 83) (M 84) (M 10 8)) → PV (bW (mset M 10 9 0) w a b c e)) : EE (d + 3) 94 [vR 10, vR 1] M (rV PV) := by
  refine sg_94 ⟨fun _ => ?_, fun z => ?_⟩
  · refine c_173 shk_22 (by decide) ?_
    refine c_173 shk_23 (by decide) ?_
    have e1 : mset (rset (rset (mset M 10 9 0) 22 (ffl (-9) ((48 : Nat) : Int) ((mset M 10 9 0) 22))) 23 (ffl (-9) ((48 : Nat) : Int) ((rset (mset M 10 9 0) 22 (ffl (-9) ((48 : Nat) : Int) ((mset M 10 9 0) 22))) 23))) 10 7 0 = bW (mset M 10 9 0) 0 (M 20) (M 21) (ffl (-9) 48 (M 22)) (ffl (-9) 48 (M 23)) := by
      rw [ms_comm (by decide), ms_comm (by decide)]
      unfold bW
      have e2 : rset (mset (mset M 10 9 0) 10 7 0) 20 (M 20) = mset (mset M 10 9 0) 10 7 0 := rs_id (M := mset (mset M 10 9 0) 10 7 0) (a := 20)
      have e3 : rset (mset (mset M 10 9 0) 10 7 0) 21 (M 21) = mset (mset M 10 9 0) 10 7 0 := rs_id (M := mset (mset M 10 9 0) 10 7 0) (a := 21)
      rw [e2, e3]
      rfl
    rw [e1]
    refine lp_94_38 (M := mset M 10 9 0) hP (fun a ha => ?_) 6 0 rfl (fun x x0 x1 => by omega)
    refine lp_94_66 (M := mset M 10 9 0) hP hC 301 0 (s := ([], (fun t => M 84 (5 * t + 2)), (fun _ => -9), (fun _ => -9))) rfl ⟨List.nodup_nil, (fun c hc => by cases hc)⟩ ⟨rfl, ha, (fun j c hj => by cases hj), (fun c c0 c1 => by unfold ffl; rw [if_pos ⟨c0, c1⟩]), (fun c c0 c1 => by unfold ffl; rw [if_pos ⟨c0, c1⟩])⟩ (fun t t0 t1 => (hP.2.2.2.1 t t0 t1).2.2.1.2) (fun w a b c e hR => ?_)
    exact hK w a b c e hR.2.2.2.1 hR.2.2.2.2
  · have h1 := hB.2 z
    have e1 : bW (mset M 10 9 0) (M 10 7) (M 20) (M 21) (M 22) (M 23) = M := by
      have e0 : mset M 10 9 0 = M := by
        have := ms_id (M := M) (a := 10) (i := 9)
        rw [z] at this
        exact this
      rw [e0]
      unfold bW
      rw [ms_id, rs_id, rs_id, rs_id, rs_id]
    have := hK (M 10 7) (M 20) (M 21) (M 22) (M 23) (fun c c0 c1 => (h1 c c0 c1).1) (fun c c0 c1 => (h1 c c0 c1).2)
    rw [e1] at this
    exact this
theorem Inv.bw {k : Int} {M : Mm} (h : Inv k M) {w : Int} {a b c e : Int → Int} (hc : ag c (bT (M 1 6) (M 5) (M 83) (M 84) (M 10 8))) (he : ag e (bM (M 1 6) (M 5) (M 83) (M 84) (M 10 8))) : Inv k (bW (mset M 10 9 0) w a b c e) :=
  ⟨h.1, h.2.1, h.2.2.1, h.2.2.2.1, ⟨Or.inl rfl, fun _ x x0 x1 => ⟨hc x x0 x1, he x x0 x1⟩⟩, h.2.2.2.2.2⟩
/-! THE REFERENCE BOARDS -/
def mW (M : Mm) (a b c e : Int → Int) : Mm := rset (rset (rset (rset M 85 a) 86 b) 87 c) 88 e
theorem mW_85 {M : Mm} {a b c e : Int → Int} {i x : Int} : mset (mW M a b c e) 85 i x = mW M (fset a i x) b c e := by
  unfold mW; rw [ms_comm (by decide), ms_comm (by decide), ms_comm (by decide), ms_same]
theorem mW_86 {M : Mm} {a b c e : Int → Int} {i x : Int} : mset (mW M a b c e) 86 i x = mW M a (fset b i x) c e := by
  unfold mW; rw [ms_comm (by decide), ms_comm (by decide), ms_same]
theorem mW_87 {M : Mm} {a b c e : Int → Int} {i x : Int} : mset (mW M a b c e) 87 i x = mW M a b (fset c i x) e := by
  unfold mW; rw [ms_comm (by decide), ms_same]
theorem mW_88 {M : Mm} {a b c e : Int → Int} {i x : Int} : mset (mW M a b c e) 88 i x = mW M a b c (fset e i x) := by
  unfold mW; rw [ms_same]
theorem mW_id {M : Mm} : mW M (M 85) (M 86) (M 87) (M 88) = M := by
  unfold mW
  rw [rs_id, rs_id, rs_id, rs_id]
def MR (tn : Int → Int) (s : BS) (a b c e : Int → Int) : Prop := ag a s.2.2.1 ∧ ag b s.2.2.2 ∧ (∀ t, 0 ≤ t → t < 6 → c t = tn (5 * t + 2) - s.2.1 t) ∧ aq e s.1
theorem lp_142_73 {d : Nat} {PV : Mm → Prop} {M : Mm} {a b c : Int → Int} {m : Int} {p : Nat} (hn : 0 ≤ M 76 2 ∧ M 76 2 ≤ 48) (hp : p < 8) (hc2 : M 83 (2 * p + 1) = m) : ∀ (k x : Nat) {q : List Int} {e : Int → Int}, (k : Int) = M 76 2 - x → bQ (M 76 2) (M 80) (M 83) m p x q → aq e q → (∀ e', aq e' (loopN (fun c q => if M 80 c = p then q ++ [(c : Int)] else q) x k q) → H_142_64 d PV ((loopN (fun c q => if M 80 c = p then q ++ [(c : Int)] else q) x k q).length : Int) m ((p : Int) + 1) (mW M a b c e')) → H_142_73 d PV (q.length : Int) m p x (mW M a b c e)
  | 0, x, q, e, hk, hq, hb, hK => by
    refine sg_142_73 ⟨fun _ => ⟨by unfold inI; omega, hK e hb⟩, fun z => ?_⟩
    have z : (x : Int) < M 76 2 := z
    omega
  | k + 1, x, q, e, hk, hq, hb, hK => by
    refine sg_142_73 ⟨fun z => ?_, fun z => ⟨by unfold inI; omega, by unfold inI; omega, by omega, fun z2 => absurd hc2 z2, fun _ => ⟨by omega, fun z2 => ⟨by unfold inI; omega, ?_⟩, fun z2 => ?_⟩⟩⟩
    · have z : M 76 2 ≤ (x : Int) := z
      omega
    · have z2 : ¬ M 80 x = p := z2
      refine lp_142_73 hn hp hc2 k (x + 1) (by omega) (bQ_up hq (Or.inr ⟨rfl, by omega⟩)) hb (fun b' hb' => ?_)
      have := hK b'
      rw [show loopN (fun c q => if M 80 c = p then q ++ [(c : Int)] else q) x (k + 1) q = loopN (fun c q => if M 80 c = p then q ++ [(c : Int)] else q) (x + 1) k (if M 80 x = p then q ++ [(x : Int)] else q) from rfl, if_neg z2] at this
      exact this hb'
    · have z2 : M 80 x = p := z2
      have hq2 := bQ_push hq (by omega) z2 hc2
      have hlen := bQ_len hq2
      rw [List.length_append, List.length_singleton] at hlen
      refine ⟨by omega, by unfold inI; omega, by unfold inI; omega, ?_⟩
      rw [mW_88]
      have hl : ((q ++ [(x : Int)]).length : Int) = (q.length : Int) + 1 := by rw [List.length_append, List.length_singleton]; omega
      rw [← hl]
      refine lp_142_73 hn hp hc2 k (x + 1) (by omega) hq2 (aq_push hb) (fun b' hb' => ?_)
      have := hK b'
      rw [show loopN (fun c q => if M 80 c = p then q ++ [(c : Int)] else q) x (k + 1) q = loopN (fun c q => if M 80 c = p then q ++ [(c : Int)] else q) (x + 1) k (if M 80 x = p then q ++ [(x : Int)] else q) from rfl, if_pos z2] at this
      exact this hb'
theorem lp_142_64 {d : Nat} {PV : Mm → Prop} {M : Mm} {a b c : Int → Int} {m : Int} (hn : 0 ≤ M 76 2 ∧ M 76 2 ≤ 48) : ∀ (k p : Nat) {q : List Int} {e : Int → Int}, k + p = 8 → bQ (M 76 2) (M 80) (M 83) m p 0 q → aq e q → (∀ e', aq e' (loopN (bAr (M 76 2) (M 80) (M 83) m) p k q) → H_142_132 d PV ((loopN (bAr (M 76 2) (M 80) (M 83) m) p k q).length : Int) m 0 (mW M a b c e')) → H_142_64 d PV (q.length : Int) m p (mW M a b c e)
  | 0, p, q, e, hk, hq, hb, hK => sg_142_64 ⟨fun _ => hK e hb, fun z => by omega⟩
  | k + 1, p, q, e, hk, hq, hb, hK => by
    have ih := fun {q2 : List Int} {e2 : Int → Int} => lp_142_64 (d := d) (PV := PV) (a := a) (b := b) (c := c) (m := m) hn k (p + 1) (q := q2) (e := e2) (by omega)
    have hK : ∀ e', aq e' (loopN (bAr (M 76 2) (M 80) (M 83) m) (p + 1) k (bAr (M 76 2) (M 80) (M 83) m p q)) → H_142_132 d PV ((loopN (bAr (M 76 2) (M 80) (M 83) m) (p + 1) k (bAr (M 76 2) (M 80) (M 83) m p q)).length : Int) m 0 (mW M a b c e') := hK
    have hq2 := bQ_ar hn.1 hq
    rw [show ((p + 1 : Nat) : Int) = (p : Int) + 1 by omega] at ih hq2
    refine sg_142_64 ⟨fun z => by omega, fun _ => ?_⟩
    by_cases hm2 : M 83 (2 * p + 1) = m
    · have e1 : bAr (M 76 2) (M 80) (M 83) m p q = loopN (fun c q => if M 80 c = p then q ++ [(c : Int)] else q) 0 (M 76 2).toNat q := by unfold bAr; rw [if_pos hm2]
      rw [e1] at hK hq2
      exact lp_142_73 hn (by omega) hm2 (M 76 2).toNat 0 (by omega) hq hb (fun b' hb' => ih hq2 hb' hK)
    · have e1 : bAr (M 76 2) (M 80) (M 83) m p q = q := by unfold bAr; rw [if_neg hm2]
      rw [e1] at hK hq2
      have hx := ih hq2 hb hK
      exact sg_142_73 ⟨fun _ => ⟨by unfold inI; omega, hx⟩, fun _ => ⟨by unfold inI; omega, by unfold inI; omega, by omega, fun _ => ⟨by unfold inI; omega, hx⟩, fun z => absurd z hm2⟩⟩
theorem c_143 {d : Nat} {P : Int → Mm → Prop} {M : Mm} {c : Int} (hc : 0 ≤ c ∧ c < 48) (hg : 0 ≤ M 80 c ∧ M 80 c ≤ 7) (h : P (M 83 (2 * M 80 c)) M) : EE (d + 1) 143 [vR 76, vI c] M (rI P) :=
  sg_143 ⟨hc, by unfold inI; omega, by omega, h⟩
