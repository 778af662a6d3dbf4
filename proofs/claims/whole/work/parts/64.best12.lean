/-! lodging: the reference takes a heap in -/
def rW (M : Mm) (f g w c : Int → Int) : Mm := rset (rset (rset (rset M 102 f) 103 g) 104 w) 105 c
theorem rW_102 {M : Mm} {f g w c : Int → Int} {i x : Int} : mset (rW M f g w c) 102 i x = rW M (fset f i x) g w c := by
  unfold rW
  rw [ms_comm (by decide), ms_comm (by decide), ms_comm (by decide), ms_same]
theorem rW_103 {M : Mm} {f g w c : Int → Int} {i x : Int} : mset (rW M f g w c) 103 i x = rW M f (fset g i x) w c := by
  unfold rW
  rw [ms_comm (by decide), ms_comm (by decide), ms_same]
theorem rW_104 {M : Mm} {f g w c : Int → Int} {i x : Int} : mset (rW M f g w c) 104 i x = rW M f g (fset w i x) c := by
  unfold rW
  rw [ms_comm (by decide), ms_same]
theorem rW_105 {M : Mm} {f g w c : Int → Int} {i x : Int} : mset (rW M f g w c) 105 i x = rW M f g w (fset c i x) := by
  unfold rW
  rw [ms_same]
theorem triI : ∀ h, h < 13 → ((h : Nat) : Int) * (((h : Nat) : Int) - 1) / 2 = ((triN h : Nat) : Int) ∧ 0 ≤ ((h : Nat) : Int) * (((h : Nat) : Int) - 1) ∧ ((h : Nat) : Int) * (((h : Nat) : Int) - 1) ≤ 132 := by
  decide +kernel
theorem p5 : ∀ m, m ≤ 6 → 5 ^ m ≤ 15625 := fun m hm => Nat.pow_le_pow_right (n := 5) (j := 6) (by omega) hm
theorem fit_lt {bd : Nat → Nat} {m q c : Nat} (hb : ∀ j, j < m → bd j ≤ 4) (hq : q < 5 ^ m) (hc : c < 5 ^ m) (h : fit5 bd m q c) : q + c < 5 ^ m := by
  have e := cd5_add (x := dg5 q) (y := dg5 c) m
  rw [cd5_q hq, cd5_q hc] at e
  rw [← e]
  exact cd5_lt (fun j hj => by have := h j hj; have := hb j hj; omega)
section HEAP
theorem lp_153_24 {d : Nat} {P : Mm → Prop} {M : Mm} {hm : Nat → Int} {T sr bd : Nat → Nat} {H : Nat → Bool} {n m c kk : Nat} {f g w cc : Int → Int} (hM : ok155 M hm T sr H n m) (hr : ∀ j : Nat, j < m → M 101 j = (bd j : Nat)) (hc : c < 5 ^ m) (hkk : kk ≤ c) (hN : ¬ gdW (fun j i => (T j).testBit (sr i)) bd n m H c → H_153_6 (d + 2) P (cnB H n : Nat) m (5 ^ m : Nat) kk ((c : Int) + 1) (rW M f g w cc)) (hY : gdW (fun j i => (T j).testBit (sr i)) bd n m H c → H_153_6 (d + 2) P (cnB H n : Nat) m (5 ^ m : Nat) ((kk : Int) + 1) ((c : Int) + 1) (rW M f g (fset w kk c) (fset cc kk (csW (cnB H n) m (dg5 c))))) : ∀ (k j : Nat) {b : Int}, k + j = m → ((b = 1 ∧ ∀ i, i < j → dg5 c i ≤ bd i) ∨ (b = 0 ∧ ¬ ∀ i, i < m → dg5 c i ≤ bd i)) → H_153_24 (d + 2) P (cnB H n : Nat) m (5 ^ m : Nat) kk c (smB (dg5 c) j : Nat) (smB (fun i => triN (dg5 c i)) j : Nat) b j (rW M f g w cc)
  | 0, j, b, hk, hb => by
    have e : j = m := by omega
    subst e
    have h5 := p5 j hM.1.2
    have hI : inI ((c : Int) + 1) := by unfold inI; omega
    have hn := hM.1.1
    have hh := cnB_le (p := H) n
    have ht := triI (cnB H n) (by omega)
    have s1 := smB_c (f := dg5 c) (c := 4) (n := j) (fun i _ => dg5_b)
    have s2 := smB_c (f := fun i => triN (dg5 c i)) (c := 66) (n := j) (fun i _ => triN_le (by have := dg5_b (q := c) (j := i); omega))
    have t66 := triN_le (c := cnB H n) (by omega)
    have hj6 := hM.1.2
    refine sg_153_24 ⟨fun _ => ⟨fun z => ⟨hI, hN (fun y => ?_)⟩, fun z => ⟨fun z2 => ⟨hI, hN (fun y => ?_)⟩, fun z2 => ?_⟩⟩, fun z => by omega⟩
    · rcases hb with hb | hb
      · omega
      · exact hb.2 y.2.1
    · have := y.2.2.1
      omega
    · have hall : ∀ i, i < j → dg5 c i ≤ bd i := by
        rcases hb with hb | hb
        · exact hb.2
        · exact absurd hb.1 z
      refine c_155 (M := rW M f g w cc) hM (by omega) (fun y => t1 ?_) (fun y => t0 ⟨hI, hN (fun y2 => y y2.2.2.2)⟩)
      rw [rW_104, rW_105]
      have ec : 1000 * (((cnB H n : Nat) : Int) - ((smB (dg5 c) j : Nat) : Int)) + ((cnB H n : Nat) : Int) * (((cnB H n : Nat) : Int) - 1) / 2 - ((smB (fun i => triN (dg5 c i)) j : Nat) : Int) = csW (cnB H n) j (dg5 c) := by
        rw [ht.1]; rfl
      rw [ec]
      have key := hY ⟨hc, hall, by omega, y⟩
      refine ⟨by omega, by unfold inI; omega, by unfold inI; omega, by unfold inI; omega, by unfold inI; omega, by omega, ?_, ?_, by omega, by unfold inI; omega, hI, key⟩
      · rw [ht.1]; unfold inI; omega
      · unfold csW inI; omega
  | k + 1, j, b, hk, hb => by
    have hm6 := hM.1.2
    have h5 := p5 m hM.1.2
    have ih : ∀ {b : Int}, ((b = 1 ∧ ∀ i, i < j + 1 → dg5 c i ≤ bd i) ∨ (b = 0 ∧ ¬ ∀ i, i < m → dg5 c i ≤ bd i)) → H_153_24 (d + 2) P (cnB H n : Nat) m (5 ^ m : Nat) kk c (((smB (dg5 c) j : Nat) : Int) + ((dg5 c j : Nat) : Int)) (((smB (fun i => triN (dg5 c i)) j : Nat) : Int) + ((triN (dg5 c j) : Nat) : Int)) b ((j : Int) + 1) (rW M f g w cc) := by
      intro b hb
      have := lp_153_24 (d := d) hM hr hc hkk hN hY k (j + 1) (b := b) (by omega) hb
      rw [show ((j + 1 : Nat) : Int) = (j : Int) + 1 by omega] at this
      exact this
    have s1 := smB_c (f := dg5 c) (c := 4) (n := j) (fun i _ => dg5_b)
    have s2 := smB_c (f := fun i => triN (dg5 c i)) (c := 66) (n := j) (fun i _ => triN_le (by have := dg5_b (q := c) (j := i); omega))
    have db := dg5_b (q := c) (j := j)
    have ht := triI (dg5 c j) (by omega)
    have t66 := triN_le (c := dg5 c j) (by omega)
    refine sg_153_24 ⟨fun z => by omega, fun _ => c_154 (by omega) (by omega) ?_⟩
    rw [ht.1]
    refine ⟨by unfold inI; omega, by unfold inI; omega, by unfold inI; omega, by omega, by unfold inI; omega, by omega, ?_⟩
    show (M 101 j < ((dg5 c j : Nat) : Int) → inI ((j : Int) + 1) ∧ H_153_24 (d + 2) P (cnB H n : Nat) m (5 ^ m : Nat) kk c (((smB (dg5 c) j : Nat) : Int) + ((dg5 c j : Nat) : Int)) (((smB (fun i => triN (dg5 c i)) j : Nat) : Int) + ((triN (dg5 c j) : Nat) : Int)) (zand b 0) ((j : Int) + 1) (rW M f g w cc)) ∧ (((dg5 c j : Nat) : Int) ≤ M 101 j → inI ((j : Int) + 1) ∧ H_153_24 (d + 2) P (cnB H n : Nat) m (5 ^ m : Nat) kk c (((smB (dg5 c) j : Nat) : Int) + ((dg5 c j : Nat) : Int)) (((smB (fun i => triN (dg5 c i)) j : Nat) : Int) + ((triN (dg5 c j) : Nat) : Int)) (zand b 1) ((j : Int) + 1) (rW M f g w cc))
    rw [hr j (by omega)]
    refine ⟨fun z => ⟨by unfold inI; omega, ih (Or.inr ⟨?_, fun y => ?_⟩)⟩, fun z => ⟨by unfold inI; omega, ih ?_⟩⟩
    · rcases hb with hb | hb
      · rw [hb.1]; decide
      · rw [hb.1]; decide
    · have := y j (by omega)
      omega
    · rcases hb with hb | hb
      · refine Or.inl ⟨by rw [hb.1]; decide, fun i hi => ?_⟩
        by_cases e : i = j
        · subst e; omega
        · exact hb.2 i (by omega)
      · exact Or.inr ⟨by rw [hb.1]; decide, hb.2⟩
def wys (tkb : Nat → Nat → Bool) (bd : Nat → Nat) (n m : Nat) (H : Nat → Bool) (W Cs : Int → Int) (kk lim : Nat) : Prop := kk ≤ lim ∧ (∀ w : Nat, w < kk → ∃ c : Nat, c < lim ∧ W w = c ∧ gdW tkb bd n m H c ∧ Cs w = csW (cnB H n) m (dg5 c)) ∧ ∀ c : Nat, c < lim → gdW tkb bd n m H c → ∃ w : Nat, w < kk ∧ W w = c
theorem lp_153_6 {d : Nat} {P : Mm → Prop} {M : Mm} {hm : Nat → Int} {T sr bd : Nat → Nat} {H : Nat → Bool} {n m : Nat} {f g : Int → Int} (hM : ok155 M hm T sr H n m) (hr : ∀ j : Nat, j < m → M 101 j = (bd j : Nat)) (hK : ∀ (w cc : Int → Int) (kk : Nat), wys (fun j i => (T j).testBit (sr i)) bd n m H w cc kk (5 ^ m) → H_153_156 (d + 2) P m (5 ^ m : Nat) kk 0 (rW M f g w cc)) : ∀ (k c : Nat) {kk : Nat} {w cc : Int → Int}, k + c = 5 ^ m → wys (fun j i => (T j).testBit (sr i)) bd n m H w cc kk c → H_153_6 (d + 2) P (cnB H n : Nat) m (5 ^ m : Nat) kk c (rW M f g w cc)
  | 0, c, kk, w, cc, hk, hW => by
    have e : c = 5 ^ m := by omega
    subst e
    exact sg_153_6 ⟨fun _ => hK w cc kk hW, fun z => by omega⟩
  | k + 1, c, kk, w, cc, hk, hW => by
    have ih : ∀ {kk : Nat} {w cc : Int → Int}, wys (fun j i => (T j).testBit (sr i)) bd n m H w cc kk (c + 1) → H_153_6 (d + 2) P (cnB H n : Nat) m (5 ^ m : Nat) kk ((c : Int) + 1) (rW M f g w cc) := by
      intro kk w cc hW
      have := lp_153_6 (d := d) hM hr hK k (c + 1) (kk := kk) (w := w) (cc := cc) (by omega) hW
      rw [show ((c + 1 : Nat) : Int) = (c : Int) + 1 by omega] at this
      exact this
    refine sg_153_6 ⟨fun z => by omega, fun _ => ?_⟩
    refine lp_153_24 (d := d) hM hr (by omega) hW.1 (fun hno => ih ⟨by have := hW.1; omega, fun x hx => ?_, fun x hx hgd => ?_⟩) (fun hyes => ?_) m 0 rfl (Or.inl ⟨rfl, fun i hi => by omega⟩)
    · obtain ⟨c2, c3, c4⟩ := hW.2.1 x hx
      exact ⟨c2, by omega, c4⟩
    · by_cases e : x = c
      · subst e; exact absurd hgd hno
      · exact hW.2.2 x (by omega) hgd
    · rw [show (kk : Int) + 1 = ((kk + 1 : Nat) : Int) by omega]
      refine ih ⟨by have := hW.1; omega, fun x hx => ?_, fun x hx hgd => ?_⟩
      · by_cases e : x = kk
        · subst e
          exact ⟨c, by omega, fs_eq, hyes, fs_eq⟩
        · obtain ⟨c2, c3, c4⟩ := hW.2.1 x (by omega)
          refine ⟨c2, by omega, ?_⟩
          rw [fs_ne (by omega), fs_ne (by omega)]
          exact c4
      · by_cases e : x = c
        · subst e; exact ⟨kk, by omega, fs_eq⟩
        · obtain ⟨w2, w3, w4⟩ := hW.2.2 x (by omega) hgd
          exact ⟨w2, by omega, by rw [fs_ne (by omega)]; exact w4⟩
theorem lp_153_156 {d : Nat} {P : Mm → Prop} {M : Mm} {m kk : Nat} {f w cc : Int → Int} (hm : m ≤ 6) (hK : ∀ g : Int → Int, (∀ p : Nat, p < 5 ^ m → g p = 1000000) → H_153_180 d P m (5 ^ m : Nat) kk 0 (rW M f g w cc)) : ∀ (k i : Nat) {g : Int → Int}, k + i = 5 ^ m → (∀ p : Nat, p < i → g p = 1000000) → H_153_156 d P m (5 ^ m : Nat) kk i (rW M f g w cc)
  | 0, i, g, hk, hg => by
    exact sg_153_156 ⟨fun _ => hK g (fun p hp => hg p (by omega)), fun z => by omega⟩
  | k + 1, i, g, hk, hg => by
    have h5 := p5 m hm
    refine sg_153_156 ⟨fun z => by omega, fun _ => ⟨by omega, by unfold inI; omega, ?_⟩⟩
    rw [rW_103, show (i : Int) + 1 = ((i + 1 : Nat) : Int) by omega]
    refine lp_153_156 hm hK k (i + 1) (by omega) (fun p hp => ?_)
    by_cases e : p = i
    · subst e; exact fs_eq
    · rw [fs_ne (by omega)]; exact hg p (by omega)
/-- the next table as far as it is made -/
def SG (tkb : Nat → Nat → Bool) (bd : Nat → Nat) (n m : Nat) (H : Nat → Bool) (f g : Int → Int) : Prop := ∀ p : Nat, p < 5 ^ m → g p < 1000000 → ∃ q c : Nat, q < 5 ^ m ∧ gdW tkb bd n m H c ∧ fit5 bd m q c ∧ p = q + c ∧ f q < 1000000 ∧ g p = f q + csW (cnB H n) m (dg5 c)
def CG (tkb : Nat → Nat → Bool) (bd : Nat → Nat) (n m : Nat) (H : Nat → Bool) (f W g : Int → Int) (q w : Nat) : Prop := ∀ q' c : Nat, q' < 5 ^ m → gdW tkb bd n m H c → fit5 bd m q' c → f q' < 1000000 → (q' < q ∨ (q' = q ∧ ∃ w' : Nat, w' < w ∧ W w' = c)) → g ((q' + c : Nat) : Int) ≤ f q' + csW (cnB H n) m (dg5 c)
theorem lp_153_214 {d : Nat} {P : Mm → Prop} {M : Mm} {bd : Nat → Nat} {m kk q w c : Nat} {f g W cc : Int → Int} (hm : m ≤ 6) (hq : q < 15625) (hw : w < 15625) (hc : c < 15625) (hW : W w = c) (hr : ∀ j : Nat, j < m → M 101 j = (bd j : Nat)) (hY : fit5 bd m q c → H_153_268 (d + 1) P m (5 ^ m : Nat) kk q w 1 (rW M f g W cc)) (hN : ¬ fit5 bd m q c → H_153_268 (d + 1) P m (5 ^ m : Nat) kk q w 0 (rW M f g W cc)) : ∀ (k j : Nat), k + j = m → (∀ i, i < j → dg5 q i + dg5 c i ≤ bd i) → H_153_214 (d + 1) P m (5 ^ m : Nat) kk q w 1 j (rW M f g W cc)
  | 0, j, hk, hj => by
    exact sg_153_214 ⟨fun _ => hY (fun i hi => hj i (by omega)), fun z => by omega⟩
  | k + 1, j, hk, hj => by
    refine sg_153_214 ⟨fun z => by omega, fun _ => t1 (c_154 (by omega) (by omega) ⟨by omega, ?_⟩)⟩
    show EE (d + 1) 154 [vI (W w), vI j] (rW M f g W cc) _
    rw [hW]
    have b1 := dg5_b (q := q) (j := j)
    have b2 := dg5_b (q := c) (j := j)
    refine c_154 (by omega) (by omega) ⟨by unfold inI; omega, by omega, ?_⟩
    show (M 101 j < ((dg5 q j : Nat) : Int) + ((dg5 c j : Nat) : Int) → inI ((j : Int) + 1) ∧ H_153_214 (d + 1) P m (5 ^ m : Nat) kk q w 0 ((j : Int) + 1) (rW M f g W cc)) ∧ (((dg5 q j : Nat) : Int) + ((dg5 c j : Nat) : Int) ≤ M 101 j → inI ((j : Int) + 1) ∧ H_153_214 (d + 1) P m (5 ^ m : Nat) kk q w 1 ((j : Int) + 1) (rW M f g W cc))
    rw [hr j (by omega)]
    refine ⟨fun z => ⟨by unfold inI; omega, ?_⟩, fun z => ⟨by unfold inI; omega, ?_⟩⟩
    · have no := hN (fun y => by have := y j (by omega); omega)
      exact sg_153_214 ⟨fun _ => no, fun _ => t0 no⟩
    · have := lp_153_214 (d := d) (P := P) hm hq hw hc hW hr hY hN k (j + 1) (by omega) (fun i hi => by
        by_cases e : i = j
        · subst e; omega
        · exact hj i (by omega))
      rw [show ((j + 1 : Nat) : Int) = (j : Int) + 1 by omega] at this
      exact this
theorem lp_153_189 {d : Nat} {P : Mm → Prop} {M : Mm} {T sr bd : Nat → Nat} {H : Nat → Bool} {n m kk q : Nat} {f W cc : Int → Int} (hn : n ≤ 12) (hm : m ≤ 6) (hbd : ∀ j, j < m → bd j ≤ 4) (hr : ∀ j : Nat, j < m → M 101 j = (bd j : Nat)) (hW : wys (fun j i => (T j).testBit (sr i)) bd n m H W cc kk (5 ^ m)) (hf : ∀ q : Nat, q < 5 ^ m → f q < 1000000 → 0 ≤ f q) (hq : q < 5 ^ m) (hK : ∀ g : Int → Int, SG (fun j i => (T j).testBit (sr i)) bd n m H f g → CG (fun j i => (T j).testBit (sr i)) bd n m H f W g (q + 1) 0 → H_153_180 (d + 1) P m (5 ^ m : Nat) kk ((q : Int) + 1) (rW M f g W cc)) : ∀ (k w : Nat) {g : Int → Int}, k + w = kk → SG (fun j i => (T j).testBit (sr i)) bd n m H f g → CG (fun j i => (T j).testBit (sr i)) bd n m H f W g q w → H_153_189 (d + 1) P m (5 ^ m : Nat) kk q w (rW M f g W cc)
  | 0, w, g, hk, hS, hC => by
    have h5 := p5 m hm
    refine sg_153_189 ⟨fun _ => ⟨by unfold inI; omega, hK g hS (fun q' c h1 h2 h3 h4 h6 => hC q' c h1 h2 h3 h4 ?_)⟩, fun z => by omega⟩
    rcases h6 with h6 | h6
    · by_cases e : q' = q
      · obtain ⟨w', w1, w2⟩ := hW.2.2 c h2.1 h2
        exact Or.inr ⟨e, w', by omega, w2⟩
      · exact Or.inl (by omega)
    · obtain ⟨_, w', w1, _⟩ := h6
      omega
  | k + 1, w, g, hk, hS, hC => by
    have h5 := p5 m hm
    have hkk := hW.1
    obtain ⟨c, c1, c2, c3, c4⟩ := hW.2.1 w (by omega)
    have ih : ∀ {g : Int → Int}, SG (fun j i => (T j).testBit (sr i)) bd n m H f g → CG (fun j i => (T j).testBit (sr i)) bd n m H f W g q (w + 1) → inI ((w : Int) + 1) ∧ H_153_189 (d + 1) P m (5 ^ m : Nat) kk q ((w : Int) + 1) (rW M f g W cc) := by
      intro g h1 h2
      have := lp_153_189 (d := d) hn hm hbd hr hW hf hq hK k (w + 1) (g := g) (by omega) h1 h2
      rw [show ((w + 1 : Nat) : Int) = (w : Int) + 1 by omega] at this
      exact ⟨by unfold inI; omega, this⟩
    refine sg_153_189 ⟨fun z => by omega, fun _ => ⟨by omega, fun z => ⟨by unfold inI; omega, hK g hS (fun q' c h1 h2 h3 h4 h6 => ?_)⟩, fun z => ?_⟩⟩
    · have z : 1000000 ≤ f q := z
      rcases h6 with h6 | h6
      · by_cases e : q' = q
        · subst e; omega
        · exact hC q' c h1 h2 h3 h4 (Or.inl (by omega))
      · obtain ⟨_, w', w1, _⟩ := h6
        omega
    · have z : f q < 1000000 := z
      have fq := hf q hq z
      have hh := cnB_le (p := H) n
      have t66 := triN_le (c := cnB H n) (by omega)
      have s1 := smB_c (f := dg5 c) (c := 4) (n := m) (fun i _ => dg5_b)
      have s2 := smB_c (f := fun i => triN (dg5 c i)) (c := 66) (n := m) (fun i _ => triN_le (by have := dg5_b (q := c) (j := i); omega))
      have hcs : -400 ≤ csW (cnB H n) m (dg5 c) ∧ csW (cnB H n) m (dg5 c) ≤ 13000 := by
        have := c3.2.2.1
        unfold csW
        omega
      have old : (fit5 bd m q c → g ((q + c : Nat) : Int) ≤ f q + csW (cnB H n) m (dg5 c)) → CG (fun j i => (T j).testBit (sr i)) bd n m H f W g q (w + 1) := by
        intro hle q' c' h1 h2 h3 h4 h6
        rcases h6 with h6 | ⟨h6, w', w1, w2⟩
        · exact hC q' c' h1 h2 h3 h4 (Or.inl h6)
        · by_cases e : w' = w
          · subst e
            subst h6
            have e2 : c' = c := by omega
            subst e2
            exact hle h3
          · exact hC q' c' h1 h2 h3 h4 (Or.inr ⟨h6, w', by omega, w2⟩)
      refine lp_153_214 (d := d) hm (by omega) (by omega) (by omega) c2 hr (fun hfit => ?_) (fun hno => ?_) m 0 rfl (fun i hi => by omega)
      · have hlt := fit_lt hbd hq c1 hfit
        refine sg_153_268 ?_
        show (0 ≤ (w : Int) ∧ (w : Int) < 15625) ∧ inI ((q : Int) + W w) ∧ ((1 = 0 → inI ((w : Int) + 1) ∧ H_153_189 (d + 1) P m (5 ^ m : Nat) kk q ((w : Int) + 1) (rW M f g W cc)) ∧ (¬ (1 : Int) = 0 → (0 ≤ (q : Int) ∧ (q : Int) < 15625) ∧ (0 ≤ (w : Int) ∧ (w : Int) < 15625) ∧ inI (f q + cc w) ∧ (0 ≤ ((q : Int) + W w) ∧ ((q : Int) + W w) < 15625) ∧ ((g ((q : Int) + W w) ≤ (f q + cc w) → inI ((w : Int) + 1) ∧ H_153_189 (d + 1) P m (5 ^ m : Nat) kk q ((w : Int) + 1) (rW M f g W cc)) ∧ ((f q + cc w) < g ((q : Int) + W w) → (0 ≤ (q : Int) ∧ (q : Int) < 15625) ∧ (0 ≤ (w : Int) ∧ (w : Int) < 15625) ∧ inI (f q + cc w) ∧ (0 ≤ ((q : Int) + W w) ∧ ((q : Int) + W w) < 15625) ∧ inI ((w : Int) + 1) ∧ H_153_189 (d + 1) P m (5 ^ m : Nat) kk q ((w : Int) + 1) (mset (rW M f g W cc) 103 ((q : Int) + W w) (f q + cc w))))))
        rw [c2, c4, rW_103, show (q : Int) + (c : Int) = ((q + c : Nat) : Int) by omega]
        refine ⟨by omega, by unfold inI; omega, t1 ⟨by omega, by omega, by unfold inI; omega, by omega, fun y => ih hS (old (fun _ => y)), fun y => ⟨by omega, by omega, by unfold inI; omega, by omega, ih ?_ ?_⟩⟩⟩
        · intro p hp hlt2
          by_cases e : p = q + c
          · subst e
            rw [fs_eq]
            exact ⟨q, c, hq, c3, hfit, rfl, z, rfl⟩
          · rw [fs_ne (by omega)] at hlt2 ⊢
            exact hS p hp hlt2
        · intro q' c' h1 h2 h3 h4 h6
          by_cases e : q' + c' = q + c
          · rw [e, fs_eq]
            rcases h6 with h6 | ⟨h6, w', w1, w2⟩
            · have := hC q' c' h1 h2 h3 h4 (Or.inl h6)
              rw [e] at this
              omega
            · by_cases e2 : w' = w
              · subst e2
                subst h6
                have e3 : c' = c := by omega
                subst e3
                exact Int.le_refl _
              · have := hC q' c' h1 h2 h3 h4 (Or.inr ⟨h6, w', by omega, w2⟩)
                rw [e] at this
                omega
          · rw [fs_ne (by omega)]
            rcases h6 with h6 | ⟨h6, w', w1, w2⟩
            · exact hC q' c' h1 h2 h3 h4 (Or.inl h6)
            · by_cases e2 : w' = w
              · subst e2
                subst h6
                have e3 : c' = c := by omega
                exact absurd (by rw [e3]) e
              · exact hC q' c' h1 h2 h3 h4 (Or.inr ⟨h6, w', by omega, w2⟩)
      · refine sg_153_268 ?_
        show (0 ≤ (w : Int) ∧ (w : Int) < 15625) ∧ inI ((q : Int) + W w) ∧ _
        rw [c2]
        exact ⟨by omega, by unfold inI; omega, t0 (ih hS (old (fun y => absurd y hno)))⟩
theorem lp_153_180 {d : Nat} {P : Mm → Prop} {M : Mm} {T sr bd : Nat → Nat} {H : Nat → Bool} {n m kk : Nat} {f W cc : Int → Int} (hn : n ≤ 12) (hm : m ≤ 6) (hbd : ∀ j, j < m → bd j ≤ 4) (hr : ∀ j : Nat, j < m → M 101 j = (bd j : Nat)) (hW : wys (fun j i => (T j).testBit (sr i)) bd n m H W cc kk (5 ^ m)) (hf : ∀ q : Nat, q < 5 ^ m → f q < 1000000 → 0 ≤ f q) (hK : ∀ g : Int → Int, SG (fun j i => (T j).testBit (sr i)) bd n m H f g → CG (fun j i => (T j).testBit (sr i)) bd n m H f W g (5 ^ m) 0 → H_153_347 (d + 1) P (5 ^ m : Nat) 0 (rW M f g W cc)) : ∀ (k q : Nat) {g : Int → Int}, k + q = 5 ^ m → SG (fun j i => (T j).testBit (sr i)) bd n m H f g → CG (fun j i => (T j).testBit (sr i)) bd n m H f W g q 0 → H_153_180 (d + 1) P m (5 ^ m : Nat) kk q (rW M f g W cc)
  | 0, q, g, hk, hS, hC => by
    have e : q = 5 ^ m := by omega
    subst e
    exact sg_153_180 ⟨fun _ => hK g hS hC, fun z => by omega⟩
  | k + 1, q, g, hk, hS, hC => by
    refine sg_153_180 ⟨fun z => by omega, fun _ => ?_⟩
    refine lp_153_189 (d := d) hn hm hbd hr hW hf (by omega) (fun g2 h1 h2 => ?_) kk 0 rfl hS hC
    have := lp_153_180 (d := d) hn hm hbd hr hW hf hK k (q + 1) (g := g2) (by omega) h1 h2
    rw [show ((q + 1 : Nat) : Int) = (q : Int) + 1 by omega] at this
    exact this
theorem lp_153_347 {d : Nat} {P : Mm → Prop} {M : Mm} {m : Nat} {g w cc : Int → Int} (hm : m ≤ 6) (hP : ∀ f : Int → Int, (∀ p : Nat, p < 5 ^ m → f p = g p) → P (rW M f g w cc)) : ∀ (k i : Nat) {f : Int → Int}, k + i = 5 ^ m → (∀ p : Nat, p < i → f p = g p) → H_153_347 d P (5 ^ m : Nat) i (rW M f g w cc)
  | 0, i, f, hk, hf => sg_153_347 ⟨fun _ => hP f (fun p hp => hf p (by omega)), fun z => by omega⟩
  | k + 1, i, f, hk, hf => by
    have h5 := p5 m hm
    refine sg_153_347 ⟨fun z => by omega, fun _ => ⟨by omega, by omega, by unfold inI; omega, ?_⟩⟩
    rw [rW_102, show (i : Int) + 1 = ((i + 1 : Nat) : Int) by omega]
    refine lp_153_347 hm hP k (i + 1) (by omega) (fun p hp => ?_)
    by_cases e : p = i
    · subst e; exact fs_eq
    · rw [fs_ne (by omega)]; exact hf p (by omega)
theorem c_153 {d : Nat} {P : Mm → Prop} {M : Mm} {hm : Nat → Int} {T sr bd : Nat → Nat} {H : Nat → Bool} {n m : Nat} {f g w cc : Int → Int} (hM : ok155 M hm T sr H n m) (hbd : ∀ j, j < m → bd j ≤ 4) (hr : ∀ j : Nat, j < m → M 101 j = (bd j : Nat)) (hf : ∀ q : Nat, q < 5 ^ m → f q < 1000000 → 0 ≤ f q) (hP : ∀ f' g w cc : Int → Int, stpR (fun j i => (T j).testBit (sr i)) bd n m H f f' → P (rW M f' g w cc)) : EE (d + 3) 153 [vR 76, vI (cnB H n : Nat), vI m, vI (5 ^ m : Nat)] (rW M f g w cc) (rV P) := by
  refine sg_153 (lp_153_6 hM hr (fun w2 cc2 kk hW => ?_) (5 ^ m) 0 (kk := 0) rfl ⟨Nat.le_refl 0, fun x hx => by omega, fun x hx => by omega⟩)
  refine lp_153_156 hM.1.2 (fun g2 hg2 => ?_) (5 ^ m) 0 rfl (fun p hp => by omega)
  refine lp_153_180 (d := d + 1) hM.1.1 hM.1.2 hbd hr hW hf (fun g3 h1 h2 => ?_) (5 ^ m) 0 rfl (fun p hp hlt => ?_) (fun q c h1 h2 h3 h4 h6 => ?_)
  · refine lp_153_347 hM.1.2 (fun f2 hf2 => hP f2 g3 w2 cc2 ⟨fun p hp hlt => ?_, fun q c h3 h4 h5 h6 => ?_⟩) (5 ^ m) 0 rfl (fun p hp => by omega)
    · rw [hf2 p hp] at hlt ⊢
      exact h1 p hp hlt
    · rw [hf2 _ (fit_lt hbd h3 h4.1 h5)]
      exact h2 q c h3 h4 h5 h6 (Or.inl h3)
  · rw [hg2 p hp] at hlt
    omega
  · rcases h6 with h6 | ⟨_, w', w1, _⟩
    · omega
    · omega
end HEAP
