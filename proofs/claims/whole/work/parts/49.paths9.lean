/-! paths: the reference's relaxing -/
theorem dj8 : ∀ s, s < 256 → ∀ a, a < 256 → s &&& a = 0 → s + a < 256 := by
  decide +kernel
theorem dv6 : ∀ w, w < 64 → ∀ v, v < 6 → w / 2 ^ v % 2 = 0 → w + 2 ^ v < 64 := by
  decide +kernel
theorem lo6 {q v : Nat} (hv : v < 6) : q % 64 / 2 ^ v % 2 = q / 2 ^ v % 2 := by
  have : v = 0 ∨ v = 1 ∨ v = 2 ∨ v = 3 ∨ v = 4 ∨ v = 5 := by omega
  rcases this with rfl | rfl | rfl | rfl | rfl | rfl <;> simp only [Nat.reducePow] <;> omega
theorem tg_lt {q a v : Nat} (hq : q < 16384) (ha : a < 256) (hv : v < 6) (h1 : q / 64 &&& a = 0) (h2 : q / 2 ^ v % 2 = 0) : q + 64 * a + 2 ^ v < 16384 := by
  have e1 := dj8 (q / 64) (by omega) a ha h1
  have e2 := dv6 (q % 64) (by omega) v hv (by rw [lo6 hv]; exact h2)
  generalize 2 ^ v = w at e2 ⊢
  omega
/-- one relaxing: state q, parties a, village v -/
def rlx (v a q : Nat) (f : Int → Int) : Int → Int := if (f q < 1000000 ∧ q / 64 &&& a = 0 ∧ q / 2 ^ v % 2 = 0) ∧ f q + 1 < f ((q + 64 * a + 2 ^ v : Nat) : Int) then fset f ((q + 64 * a + 2 ^ v : Nat) : Int) (f q + 1) else f
theorem rlx_b {v a q : Nat} {f : Int → Int} (hf : ∀ j : Nat, j < 16384 → 0 ≤ f j ∧ f j ≤ 1000000) (hq : q < 16384) : ∀ j : Nat, j < 16384 → 0 ≤ rlx v a q f j ∧ rlx v a q f j ≤ 1000000 := by
  intro j hj
  unfold rlx
  split
  · rename_i h
    have hfq := hf q hq
    by_cases e : (j : Int) = ((q + 64 * a + 2 ^ v : Nat) : Int)
    · rw [ps_eq e]
      have := h.1.1
      generalize f (q : Int) = x at *
      omega
    · rw [fs_ne e]; exact hf j hj
  · exact hf j hj
theorem lp_136_195 {d : Nat} {P : Int → Mm → Prop} {M : Mm} {a1 t cap : Int} {v a : Nat} (ha : a < 256) (hv : v < 6) : ∀ (k q : Nat) {f : Int → Int}, k + q = 16384 → (∀ j : Nat, j < 16384 → 0 ≤ f j ∧ f j ≤ 1000000) → H_136_155 d P a1 t v cap ((a : Int) + 1) (rset M 108 (loopN (rlx v a) q k f)) → H_136_195 d P a1 t v cap a q (rset M 108 f)
  | 0, q, f, hk, hf, hK => sg_136_195 ⟨fun _ => ⟨by unfold inI; omega, hK⟩, fun z => by omega⟩
  | k + 1, q, f, hk, hf, hK => by
    have hq : q < 16384 := by omega
    have hfq := hf q hq
    have hK : H_136_155 d P a1 t v cap ((a : Int) + 1) (rset M 108 (loopN (rlx v a) (q + 1) k (rlx v a q f))) := hK
    have ih := lp_136_195 (d := d) (P := P) (M := M) (a1 := a1) (t := t) (cap := cap) ha hv k (q + 1) (f := rlx v a q f) (by omega) (rlx_b hf hq) hK
    rw [show ((q + 1 : Nat) : Int) = (q : Int) + 1 by omega] at ih
    obtain ⟨eb, hp⟩ := bit1 v (by omega)
    have hi : inI ((q : Int) + 1) := by unfold inI; omega
    have eT : (q : Int) + 64 * (a : Int) + zshl 1 (v : Int) = ((q + 64 * a + 2 ^ v : Nat) : Int) := by
      rw [eb]
      generalize (2 ^ v : Nat) = w
      omega
    have hI3 : inI (((q + 64 * a + 2 ^ v : Nat) : Int)) := by
      generalize (2 ^ v : Nat) = w at hp ⊢
      unfold inI; omega
    have no : rlx v a q f = f → H_136_244 d P a1 t v cap a q 0 (rset M 108 f) := by
      intro e
      refine sg_136_244 ⟨by unfold inI; omega, by unfold inI; omega, by rw [eT]; exact hI3, t0 ⟨hi, ?_⟩⟩
      rw [e] at ih; exact ih
    refine sg_136_195 ⟨fun z => by omega, fun _ => ?_⟩
    rw [show (q : Int) / 64 = ((q / 64 : Nat) : Int) by omega, zand_n (by omega) (by omega), bitq (by omega) (by omega)]
    refine ⟨by omega, by omega, fun z => sg_136_243 (no ?_), fun z => ⟨fun z1 => sg_136_243 (no ?_), fun z1 => ⟨fun z2 => sg_136_243 (no ?_), fun z2 => ?_⟩⟩⟩
    · have z : 1000000 ≤ f q := z
      exact if_neg (fun y => by have := y.1.1; omega)
    · exact if_neg (fun y => z1 (by rw [y.1.2.1]; rfl))
    · exact if_neg (fun y => z2 (by rw [y.1.2.2]; rfl))
    · have z : f q < 1000000 := z
      have y1 : q / 64 &&& a = 0 := by omega
      have y2 : q / 2 ^ v % 2 = 0 := Int.ofNat_inj.mp z2
      have hT := tg_lt hq ha hv y1 y2
      refine sg_136_244 ⟨by unfold inI; omega, by unfold inI; omega, by rw [eT]; exact hI3, t1 ?_⟩
      rw [eT]
      have hT2 : 0 ≤ ((q + 64 * a + 2 ^ v : Nat) : Int) ∧ ((q + 64 * a + 2 ^ v : Nat) : Int) < 16384 := ⟨Int.natCast_nonneg _, Int.ofNat_lt.mpr hT⟩
      have hI1 : inI (f q + 1) := by unfold inI; omega
      refine ⟨by omega, hI1, hT2, fun y => ⟨hi, ?_⟩, fun y => ⟨by omega, hI1, hT2, hi, ?_⟩⟩
      · have y : f ((q + 64 * a + 2 ^ v : Nat) : Int) ≤ f q + 1 := y
        have e : rlx v a q f = f := if_neg (fun w => by have := w.2; omega)
        rw [e] at ih; exact ih
      · have e : rlx v a q f = fset f ((q + 64 * a + 2 ^ v : Nat) : Int) (f q + 1) := if_pos ⟨⟨z, y1, y2⟩, y⟩
        rw [ms_same]
        rw [e] at ih; exact ih
