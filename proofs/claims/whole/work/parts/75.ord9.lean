/-! orders: the operation -/
def xW (M N : Mm) : Mm := fun k => if k = 8 ∨ k = 39 ∨ (58 ≤ k ∧ k < 76) ∨ k = 76 ∨ k = 92 ∨ k = 93 then N k else M k
def zW (M N : Mm) : Mm := fun k => if k = 39 ∨ (67 ≤ k ∧ k < 76) ∨ k = 76 ∨ k = 93 then N k else M k
theorem Inv_z {k : Int} {M N : Mm} (hI : Inv k M) (hc : ∀ k, ¬ (k = 39 ∨ (67 ≤ k ∧ k < 76) ∨ k = 76 ∨ k = 93) → N k = M k) (h6 : ∀ x, ¬ (x = 0 ∨ x = 24 ∨ x = 25 ∨ x = 26) → N 76 x = M 76 x) : Inv (k + 1) N := by
  have e : N = zW M N := by
    funext j
    unfold zW
    by_cases h : j = 39 ∨ (67 ≤ j ∧ j < 76) ∨ j = 76 ∨ j = 93
    · rw [if_pos h]
    · rw [if_neg h]; exact hc j h
  rw [e]
  obtain ⟨hC, hN, hD, hP, hB, hH, hL, hO, hY, hE, hT⟩ := hI
  refine ⟨⟨hC.1, (h6 2 (by omega)).trans hC.2.1, hC.2.2⟩, hN, ⟨hD.1, (h6 20 (by omega)).trans hD.2.1, hD.2.2⟩, ⟨hP.1, hP.2.1, hP.2.2.1, hP.2.2.2.1, (h6 11 (by omega)).trans hP.2.2.2.2.1, hP.2.2.2.2.2⟩, hB, ⟨hH.1, (h6 16 (by omega)).trans hH.2.1, hH.2.2⟩, hL, ⟨hO.1, (h6 21 (by omega)).trans hO.2.1, hO.2.2⟩, hY, ⟨hE.1, (h6 28 (by omega)).trans hE.2.1, hE.2.2⟩, ?_⟩
  have hT := hT.up
  exact ⟨(h6 1 (by omega)).trans hT.1, hT.2⟩
theorem Inv_x {k : Int} {M N : Mm} (hI : Inv k M) (hc : ∀ k, ¬ (k = 8 ∨ k = 39 ∨ (58 ≤ k ∧ k < 76) ∨ k = 76 ∨ k = 92 ∨ k = 93) → N k = M k) (h6 : ∀ x, ¬ (x = 0 ∨ x = 20 ∨ x = 21 ∨ x = 24 ∨ x = 25 ∨ x = 26) → N 76 x = M 76 x) (h8 : N 8 1 = 0) (h20 : N 76 20 = 0) (hO : (0 ≤ N 58 8 ∧ N 58 8 ≤ 30) ∧ N 76 21 = N 58 8 ∧ ∀ o, 0 ≤ o → o < N 58 8 → ordOk (N 59) (N 60) (N 61) (N 62) (N 63) (N 64) (N 65) (N 66) (N 92) o) : Inv (k + 1) N := by
  have e : N = xW M N := by
    funext j
    unfold xW
    by_cases h : j = 8 ∨ j = 39 ∨ (58 ≤ j ∧ j < 76) ∨ j = 76 ∨ j = 92 ∨ j = 93
    · rw [if_pos h]
    · rw [if_neg h]; exact hc j h
  rw [e]
  obtain ⟨hC, hN, hD, hP, hB, hH, hL, _, hY, hE, hT⟩ := hI
  refine ⟨⟨hC.1, (h6 2 (by omega)).trans hC.2.1, hC.2.2⟩, hN, ⟨?_, h20.trans h8.symm, hD.2.2.1, fun i i0 i1 => ?_⟩, ⟨hP.1, hP.2.1, hP.2.2.1, hP.2.2.2.1, (h6 11 (by omega)).trans hP.2.2.2.2.1, hP.2.2.2.2.2⟩, hB, ⟨hH.1, (h6 16 (by omega)).trans hH.2.1, hH.2.2⟩, hL, hO, hY, ⟨hE.1, (h6 28 (by omega)).trans hE.2.1, hE.2.2⟩, ?_⟩
  · show 0 ≤ N 8 1 ∧ N 8 1 ≤ 600
    omega
  · have i1 : i < N 8 1 := i1
    omega
  · have hT := hT.up
    exact ⟨(h6 1 (by omega)).trans hT.1, hT.2⟩
theorem ord_inv {k : Int} {M M1 M' : Mm} {g : Int → Int} {l : List Od} (hI : Inv k M) (hF : FrC chw M M1) (hF2 : FrC chz (mset (mswap M1) 8 1 0) M') (h67 : M1 67 8 = (l.length : Nat)) (h30 : l.length ≤ 30) (hA : stA M1 l) (hB : stB M' l) (hg : ∀ y : Nat, y < 750 → g y = M' 93 y) (hok : ∀ x ∈ l, okOd x) : Inv (k + 1) (mset (mset (rset M' 92 g) 76 21 (l.length : Nat)) 76 20 0) := by
  have c1 : ∀ j : Nat, ¬ (j = 76 ∨ j = 93) → M' j = (mset (mswap M1) 8 1 0) j := by
    intro j hj
    funext x
    exact hF2 j x (by unfold chz; omega)
  have c2 : ∀ j : Nat, ¬ (j = 39 ∨ (67 ≤ j ∧ j < 76)) → M1 j = M j := by
    intro j hj
    funext x
    exact hF j x hj
  have b : ∀ j : Nat, 58 ≤ j → j < 67 → (mset (mset (rset M' 92 g) 76 21 (l.length : Nat)) 76 20 0) j = M1 (j + 9) := by
    intro j j1 j2
    rw [ms_at (by omega), ms_at (by omega)]
    show (if j = 92 then g else M' j) = _
    rw [if_neg (by omega), c1 j (by omega), ms_at (by omega)]
    show M1 (sgm j) = _
    unfold sgm
    rw [if_pos ⟨j1, j2⟩]
  refine Inv_x hI (fun j hj => ?_) (fun x hx => ?_) ?_ ?_ ⟨?_, ?_, fun o o0 o1 => ?_⟩
  · rw [ms_at (by omega), ms_at (by omega)]
    show (if j = 92 then g else M' j) = _
    rw [if_neg (by omega), c1 j (by omega), ms_at (by omega)]
    show M1 (sgm j) = _
    unfold sgm
    rw [if_neg (by omega), if_neg (by omega)]
    exact c2 j (by omega)
  · rw [m76, if_neg (by omega), m76, if_neg (by omega)]
    show M' 76 x = M 76 x
    rw [hF2 76 x (by unfold chz; omega)]
    exact hF 76 x (by unfold chw; omega)
  · rw [ms_at (by omega), ms_at (by omega)]
    show M' 8 1 = 0
    rw [c1 8 (by omega), ms_in, if_pos rfl]
  · rw [m76, if_pos rfl]
  · rw [b 58 (by omega) (by omega), h67]
    omega
  · rw [b 58 (by omega) (by omega), h67, m76, if_neg (by decide), m76, if_pos rfl]
  · rw [b 58 (by omega) (by omega), h67] at o1
    obtain ⟨q, rfl⟩ := Int.eq_ofNat_of_zero_le o0
    have hq : q < l.length := by omega
    have hx : l[q]? = some l[q] := List.getElem?_eq_getElem hq
    have sA := hA q _ hx
    have sB := hB q _ hx
    have kx := hok _ (List.getElem_mem hq)
    generalize l[q] = x at sA sB kx
    have e92 : (mset (mset (rset M' 92 g) 76 21 (l.length : Nat)) 76 20 0) 92 = g := rfl
    have gy : ∀ y : Int, 0 ≤ y → y < 750 → g y = M' 93 y := by
      intro y y0 y1
      obtain ⟨z, rfl⟩ := Int.eq_ofNat_of_zero_le y0
      exact hg z (by omega)
    rw [b 59 (by omega) (by omega), b 60 (by omega) (by omega), b 61 (by omega) (by omega), b 62 (by omega) (by omega), b 63 (by omega) (by omega), b 64 (by omega) (by omega), b 65 (by omega) (by omega), b 66 (by omega) (by omega), e92]
    have h6 := kx.2.2.2.2.1
    refine ⟨⟨?_, ?_⟩, ⟨?_, ?_⟩, ⟨?_, ?_⟩, ⟨?_, ?_⟩, ⟨?_, ?_⟩, fun j j0 j1 => ?_⟩
    · rw [gy _ (by omega) (by omega), sB.1.1]; exact sA.1.1
    · have := sA.1.1
      have := kx.1
      show 0 ≤ M1 68 q ∧ M1 68 q ≤ 2
      omega
    · rw [gy _ (by omega) (by omega), sB.1.2.1]; exact sA.1.2.1
    · have := sA.1.2.1
      have := kx.2.1
      show 0 ≤ M1 69 q ∧ M1 69 q ≤ 99
      omega
    · rw [gy _ (by omega) (by omega), sB.1.2.2.1]; exact sA.1.2.2.1
    · have := sA.1.2.2.1
      have := kx.2.2.1
      show -1 ≤ M1 70 q ∧ M1 70 q ≤ 1
      omega
    · rw [gy _ (by omega) (by omega), sB.1.2.2.2.1]; exact sA.1.2.2.2
    · have := sA.1.2.2.2
      have := kx.2.2.2.1
      show 0 ≤ M1 71 q ∧ M1 71 q ≤ 2
      omega
    · rw [gy _ (by omega) (by omega), sB.1.2.2.2.2]; exact sA.2.1.1
    · have := sA.2.1.1
      show 0 ≤ M1 72 q ∧ M1 72 q ≤ 6
      omega
    · have j1 : j < M1 72 q := j1
      rw [sA.2.1.1] at j1
      obtain ⟨i, rfl⟩ := Int.eq_ofNat_of_zero_le j0
      have hi : i < x.2.2.2.2.length := by omega
      have hc : x.2.2.2.2[i]? = some x.2.2.2.2[i] := List.getElem?_eq_getElem hi
      have tA := sA.2.2 i _ hc
      have tB := sB.2 i _ hc
      have kc := kx.2.2.2.2.2 _ (List.getElem_mem hi)
      generalize x.2.2.2.2[i] = c at tA tB kc
      refine ⟨⟨?_, ?_⟩, fun h3 => ?_, ⟨?_, ?_⟩⟩
      · rw [gy _ (by omega) (by omega), tB.1]; exact tA.1
      · have := kc.1
        rw [gy _ (by omega) (by omega), tB.1]
        omega
      · rw [gy _ (by omega) (by omega), tB.1] at h3
        rw [gy _ (by omega) (by omega), tB.2.1]
        exact tA.2.1 h3
      · rw [gy _ (by omega) (by omega), tB.2.2]; exact tA.2.2
      · have h5 := tA.2.2
        show M1 75 (6 * (q : Int) + i) = 0 ∨ M1 75 (6 * (q : Int) + i) = 1
        rw [h5]; exact kc.2
theorem op_orders {d : Nat} {M : Mm} {k : Int} (hI : Inv k M) : opI k (d + 11) 15 123 [] M := by
  have hD := hI.2.2.1
  obtain ⟨n, hn⟩ := Int.eq_ofNat_of_zero_le hD.1.1
  have h600 : (n : Int) ≤ 600 := by
    have := hD.1.2
    omega
  have hd : drf M (M 9) n := ⟨rfl, hn, by omega, fun i i0 i1 => hD.2.2.2 i i0 (by omega)⟩
  refine sg_15 (c_82 (d := d) hd (fun r l M1 e1 hF h67 h30 hA => ⟨fun _ => ?_, fun z => absurd rfl z⟩) (fun r M1 e1 hr hF => ⟨fun z => by omega, fun _ => ⟨by unfold inI; omega, ?_⟩⟩))
  · refine c_57 ?_
    have c91 : M1 91 = M 91 := by
      funext x
      exact hF 91 x (by unfold chw; omega)
    have hd2 : drR (mset (mswap M1) 8 1 0) (M 9) n := by
      refine ⟨?_, ?_, by omega, hd.2.2.2⟩
      · show M1 91 = M 9
        rw [c91]; exact hD.2.2.1
      · show M1 76 20 = n
        rw [hF 76 20 (by unfold chw; omega), hD.2.1]; exact hn
    have ans : (mset (mswap M1) 8 1 0) 58 8 = (l.length : Nat) := h67
    rw [ans]
    refine c_123 (d := d + 6) hd2 (fun r2 l2 M' g e2 hF2 hB hg => ?_) (fun r2 M' e2 hF2 => ?_)
    · have el : l2 = l := by
        rw [e1] at e2
        injection e2 with _ e2
        injection e2 with e2
        exact e2.symm
      subst el
      exact ⟨rfl, ord_inv hI hF hF2 h67 h30 hA hB hg (aS_ok 30 e1)⟩
    · rw [e1] at e2
      injection e2 with _ e2
      exact absurd e2 (by simp)
  · have c91 : M1 91 = M 91 := by
      funext x
      exact hF 91 x (by unfold chw; omega)
    have hd2 : drR M1 (M 9) n := by
      refine ⟨?_, ?_, by omega, hd.2.2.2⟩
      · rw [c91]; exact hD.2.2.1
      · rw [hF 76 20 (by unfold chw; omega), hD.2.1]; exact hn
    refine c_123 (d := d + 6) hd2 (fun r2 l2 M' g e2 hF2 hB hg => ?_) (fun r2 M' e2 hF2 => ⟨?_, ?_⟩)
    · rw [e1] at e2
      injection e2 with _ e2
      exact absurd e2 (by simp)
    · rw [e1] at e2
      injection e2 with e2 _
      rw [e2]
    · refine Inv_z hI (fun j hj => ?_) (fun x hx => ?_)
      · funext x
        rw [hF2 j x (by unfold chz; omega)]
        exact hF j x (by unfold chw; omega)
      · rw [hF2 76 x (by unfold chz; omega)]
        exact hF 76 x (by unfold chw; omega)
