/-! orders: what the text says (by p: the byte at p, -1 behind the end) -/
abbrev dgt (by_ : Nat → Int) (p : Nat) : Prop := 48 ≤ by_ p ∧ by_ p ≤ 57
def nS (by_ : Nat → Int) (most : Int) (p : Nat) : Nat × Int :=
  if 48 ≤ by_ p ∧ by_ p ≤ 48 + (if 9 < most then 9 else most) then
    if dgt by_ (p + 1) then
      if by_ p - 48 = 0 ∨ most < (by_ p - 48) * 10 + (by_ (p + 1) - 48) then (p + 1, -9)
      else if dgt by_ (p + 2) then
        if (by_ p - 48) * 10 + (by_ (p + 1) - 48) = 0 ∨ most < ((by_ p - 48) * 10 + (by_ (p + 1) - 48)) * 10 + (by_ (p + 2) - 48) then (p + 2, -9)
        else (p + 3, ((by_ p - 48) * 10 + (by_ (p + 1) - 48)) * 10 + (by_ (p + 2) - 48))
      else (p + 2, (by_ p - 48) * 10 + (by_ (p + 1) - 48))
    else (p + 1, by_ p - 48)
  else (p, -9)
abbrev Cn : Type := Int × Int × Int
abbrev Od : Type := Int × Int × Int × Int × List Cn
/-- one digit up to most -/
def v1 (by_ : Nat → Int) (q : Nat) (what most ng : Int) : Nat × Option Cn := if 48 ≤ by_ q ∧ by_ q ≤ 48 + most then (q + 1, some (what, by_ q - 48, ng)) else (q, none)
def vA (by_ : Nat → Int) (q : Nat) (ng : Int) : Nat × Option Cn :=
  if by_ q = 60 ∨ by_ q = 62 then
    if (nS by_ 15 (q + 1)).2 < 0 then ((nS by_ 15 (q + 1)).1, none)
    else ((nS by_ 15 (q + 1)).1, some (if by_ q = 60 then 1 else 2, (nS by_ 15 (q + 1)).2, ng))
  else (q, none)
def cB (by_ : Nat → Int) (q : Nat) (ng : Int) : Nat × Option Cn :=
  if by_ q = 115 then v1 by_ (q + 1) 0 1 ng
  else if by_ q = 97 then vA by_ (q + 1) ng
  else if by_ q = 107 then (q + 1, some (3, 0, ng))
  else if by_ q = 104 then v1 by_ (q + 1) 4 3 ng
  else if by_ q = 119 then v1 by_ (q + 1) 5 5 ng
  else (q, none)
def cS (by_ : Nat → Int) (p : Nat) : Nat × Option Cn := if by_ p = 33 then cB by_ (p + 1) 1 else cB by_ p 0
def dS (by_ : Nat → Int) : Nat → Nat → Nat × Option (List Cn)
  | 0, p => if by_ p = 59 then (p + 1, some []) else (p, none)
  | k + 1, p => if by_ p = 59 then (p + 1, some []) else match (cS by_ p).2 with
    | none => ((cS by_ p).1, none)
    | some c => ((dS by_ k (cS by_ p).1).1, (dS by_ k (cS by_ p).1).2.map (fun l => c :: l))
theorem cS_dg {by_ : Nat → Int} {r : Nat} (h : dgt by_ r) : cS by_ r = (r, none) := by
  have h1 := h.1
  have h2 := h.2
  unfold cS cB
  rw [if_neg (by omega), if_neg (by omega), if_neg (by omega), if_neg (by omega), if_neg (by omega), if_neg (by omega)]
theorem dS_dg {by_ : Nat → Int} {r : Nat} (h : dgt by_ r) : ∀ k : Nat, dS by_ k r = (r, none)
  | 0 => by
    have h2 := h.2
    show (if by_ r = 59 then (r + 1, some []) else (r, none)) = (r, none)
    rw [if_neg (by omega)]
  | k + 1 => by
    have h2 := h.2
    show (if by_ r = 59 then (r + 1, some []) else match (cS by_ r).2 with
      | none => ((cS by_ r).1, none)
      | some c => ((dS by_ k (cS by_ r).1).1, (dS by_ k (cS by_ r).1).2.map (fun l => c :: l))) = (r, none)
    rw [if_neg (by omega), cS_dg h]
theorem dS_e {by_ : Nat → Int} {k p : Nat} (h : by_ p = 59) : dS by_ k p = (p + 1, some []) := by
  cases k with
  | zero => exact if_pos h
  | succ k => exact if_pos h
theorem dS_0 {by_ : Nat → Int} {p : Nat} (h : ¬ by_ p = 59) : dS by_ 0 p = (p, none) := if_neg h
theorem dS_n {by_ : Nat → Int} {k p r : Nat} (h : ¬ by_ p = 59) (hc : cS by_ p = (r, none)) : dS by_ (k + 1) p = (r, none) := by
  show (if by_ p = 59 then (p + 1, some []) else match (cS by_ p).2 with
      | none => ((cS by_ p).1, none)
      | some c => ((dS by_ k (cS by_ p).1).1, (dS by_ k (cS by_ p).1).2.map (fun l => c :: l))) = (r, none)
  rw [if_neg h, hc]
theorem dS_s {by_ : Nat → Int} {k p r : Nat} {c : Cn} (h : ¬ by_ p = 59) (hc : cS by_ p = (r, some c)) : dS by_ (k + 1) p = ((dS by_ k r).1, (dS by_ k r).2.map (fun l => c :: l)) := by
  show (if by_ p = 59 then (p + 1, some []) else match (cS by_ p).2 with
      | none => ((cS by_ p).1, none)
      | some c => ((dS by_ k (cS by_ p).1).1, (dS by_ k (cS by_ p).1).2.map (fun l => c :: l))) = _
  rw [if_neg h, hc]
/-- an order: from its day on -/
def oD (by_ : Nat → Int) (r : Nat) (bo v : Int) : Nat × Option Od :=
  if by_ r = 58 then
    if by_ (r + 1) = 43 ∨ by_ (r + 1) = 61 ∨ by_ (r + 1) = 45 then
      if by_ (r + 2) = 108 ∨ by_ (r + 2) = 118 ∨ by_ (r + 2) = 102 then
        ((dS by_ 6 (r + 3)).1, (dS by_ 6 (r + 3)).2.map (fun l => (bo, v, if by_ (r + 1) = 43 then 1 else if by_ (r + 1) = 61 then 0 else -1, if by_ (r + 2) = 108 then 0 else if by_ (r + 2) = 118 then 1 else 2, l)))
      else (r + 2, none)
    else (r + 1, none)
  else (r, none)
def oS (by_ : Nat → Int) (p : Nat) : Nat × Option Od :=
  if by_ p = 109 ∨ by_ p = 99 ∨ by_ p = 112 then
    if (nS by_ 99 (p + 1)).2 < 0 then ((nS by_ 99 (p + 1)).1, none)
    else oD by_ (nS by_ 99 (p + 1)).1 (if by_ p = 109 then 0 else if by_ p = 99 then 1 else 2) (nS by_ 99 (p + 1)).2
  else (p, none)
def aS (by_ : Nat → Int) (n : Nat) : Nat → Nat → Nat × Option (List Od)
  | 0, p => if n ≤ p then (p, some []) else (p, none)
  | k + 1, p => if n ≤ p then (p, some []) else match (oS by_ p).2 with
    | none => ((oS by_ p).1, none)
    | some o => ((aS by_ n k (oS by_ p).1).1, (aS by_ n k (oS by_ p).1).2.map (fun l => o :: l))
theorem aS_e {by_ : Nat → Int} {n k p : Nat} (h : n ≤ p) : aS by_ n k p = (p, some []) := by
  cases k with
  | zero => exact if_pos h
  | succ k => exact if_pos h
theorem aS_0 {by_ : Nat → Int} {n p : Nat} (h : ¬ n ≤ p) : aS by_ n 0 p = (p, none) := if_neg h
theorem aS_n {by_ : Nat → Int} {n k p r : Nat} (h : ¬ n ≤ p) (hc : oS by_ p = (r, none)) : aS by_ n (k + 1) p = (r, none) := by
  show (if n ≤ p then (p, some []) else match (oS by_ p).2 with
      | none => ((oS by_ p).1, none)
      | some o => ((aS by_ n k (oS by_ p).1).1, (aS by_ n k (oS by_ p).1).2.map (fun l => o :: l))) = (r, none)
  rw [if_neg h, hc]
theorem aS_s {by_ : Nat → Int} {n k p r : Nat} {o : Od} (h : ¬ n ≤ p) (hc : oS by_ p = (r, some o)) : aS by_ n (k + 1) p = ((aS by_ n k r).1, (aS by_ n k r).2.map (fun l => o :: l)) := by
  show (if n ≤ p then (p, some []) else match (oS by_ p).2 with
      | none => ((oS by_ p).1, none)
      | some o => ((aS by_ n k (oS by_ p).1).1, (aS by_ n k (oS by_ p).1).2.map (fun l => o :: l))) = _
  rw [if_neg h, hc]
/-- the byte at p of the class's draft -/
def byM (f : Int → Int) (n : Int) (p : Nat) : Int := if (p : Int) < n then f p else -1
theorem byM_b {M : Mm} (hD : ID M) (p : Nat) : -1 ≤ byM (M 9) (M 8 1) p ∧ byM (M 9) (M 8 1) p ≤ 255 := by
  unfold byM
  split
  · rename_i h
    have := hD.2.2.2 p (by omega) h
    omega
  · omega
/-- the draft of a store -/
def drf (M : Mm) (f : Int → Int) (n : Int) : Prop := M 9 = f ∧ M 8 1 = n ∧ (0 ≤ n ∧ n ≤ 600) ∧ ∀ i, 0 ≤ i → i < n → 0 ≤ f i ∧ f i ≤ 255
theorem drf_b {M : Mm} {f : Int → Int} {n : Int} (h : drf M f n) (p : Nat) : -1 ≤ byM f n p ∧ byM f n p ≤ 255 := by
  unfold byM
  split
  · rename_i h2
    have := h.2.2.2 p (by omega) h2
    omega
  · omega
theorem c_60 {d : Nat} {P : Int → Mm → Prop} {M : Mm} {f : Int → Int} {n : Int} {p : Nat} (hd : drf M f n) (h : ∀ r : Int, (r = byM f n p ∨ (r = -9 ∧ byM f n p = -1)) → P r M) : EE (d + 2) 60 [vR 8, vI p] M (rI P) := by
  obtain ⟨h1, h2, h3, _⟩ := hd
  refine sg_60 ⟨fun q => by omega, fun _ => ⟨fun q => h (-9) (Or.inr ⟨rfl, ?_⟩), fun q => ⟨by omega, ?_⟩⟩⟩
  · unfold byM
    rw [if_neg (by omega)]
  · rw [h1]
    refine h _ (Or.inl ?_)
    unfold byM
    rw [if_pos (by omega)]
theorem ms_idm {M : Mm} {k : Nat} {i x : Int} (h : M k i = x) : mset M k i x = M := by
  rw [ms_rs, ← h, fs_id, rs_id]
theorem lp_84 {d : Nat} {P : Int → Mm → Prop} {M : Mm} {f : Int → Int} {n : Int} {p a : Nat} (hd : drf M f n) (ha : a < 8) (hp : M 39 0 = p ∧ p ≤ 700) (hY : ∀ i : Nat, i < (sgL a).length → byM f n p = (sgL a).getD i 0 → P i (mset M 39 0 ((p + 1 : Nat) : Int))) (hN : (∀ i : Nat, i < (sgL a).length → ¬ byM f n p = (sgL a).getD i 0) → P (-9) M) : ∀ (k i : Nat), k + i = (sgL a).length → (∀ j : Nat, j < i → ¬ byM f n p = (sgL a).getD j 0) → H_84_2 (d + 4) P a i M
  | 0, i, hk, hi => by
    exact sg_84_2 ha (c_176 ha ⟨fun _ => hN (fun j hj => hi j (by omega)), fun q => by omega⟩)
  | k + 1, i, hk, hi => by
    have hlen : (sgL a).length ≤ 5 := by
      have : ∀ a, a < 8 → (sgL a).length ≤ 5 := by decide
      exact this a ha
    refine sg_84_2 ha (c_176 ha ⟨fun q => by omega, fun _ => ?_⟩)
    rw [hp.1]
    refine c_60 hd (fun r hr => c_178 ha (by omega) ?_)
    have hs := (sgL_ok a ha i (by omega)).2
    refine ⟨fun q => ⟨by unfold inI; omega, ?_⟩, fun q => ?_⟩
    · have := lp_84 (d := d) hd ha hp hY hN k (i + 1) (by omega) (fun j hj => by
        by_cases e : j = i
        · subst e
          rcases hr with y | y
          · rw [← y]; exact q
          · omega
        · exact hi j (by omega))
      rw [show ((i + 1 : Nat) : Int) = (i : Int) + 1 by omega] at this
      exact this
    · rw [hp.1]
      refine ⟨by unfold inI; omega, ?_⟩
      have e : byM f n p = (sgL a).getD i 0 := by
        rcases hr with y | y
        · rw [← y]; exact q
        · omega
      have := hY i (by omega) e
      rw [show ((p + 1 : Nat) : Int) = (p : Int) + 1 by omega] at this
      exact this
theorem c_84 {d : Nat} {P : Int → Mm → Prop} {M : Mm} {f : Int → Int} {n : Int} {p a : Nat} (hd : drf M f n) (ha : a < 8) (hp : M 39 0 = p ∧ p ≤ 700) (hY : ∀ i : Nat, i < (sgL a).length → byM f n p = (sgL a).getD i 0 → P i (mset M 39 0 ((p + 1 : Nat) : Int))) (hN : (∀ i : Nat, i < (sgL a).length → ¬ byM f n p = (sgL a).getD i 0) → P (-9) M) : EE (d + 5) 84 [vR 39, vR 8, vK a] M (rI P) :=
  sg_84 ha (lp_84 hd ha hp hY hN (sgL a).length 0 rfl (fun j hj => by omega))
theorem m39 {M : Mm} {x y : Int} : mset (mset M 39 0 x) 39 0 y = mset M 39 0 y := ms_ms
theorem m39_a {M : Mm} {x : Int} : (mset M 39 0 x) 39 0 = x := by
  show fset (M 39) 0 x 0 = x
  exact fs_eq
theorem c_85 {d : Nat} {P : Int → Mm → Prop} {M : Mm} {f : Int → Int} {n most : Int} {p : Nat} (hd : drf M f n) (hp : M 39 0 = p ∧ p ≤ 690) (hm : 0 ≤ most ∧ most ≤ 99) (h : P (nS (byM f n) most p).2 (mset M 39 0 ((nS (byM f n) most p).1 : Nat))) : EE (d + 3) 85 [vR 39, vR 8, vI most] M (rI P) := by
  have bb := drf_b hd
  have b0 := bb p
  have b1 := bb (p + 1)
  have b2 := bb (p + 2)
  unfold nS at h
  refine sg_85 ?_
  rw [hp.1]
  refine c_60 hd (fun r hr => ⟨by unfold inI; omega, c_32 (fun q => t1' ?_) (fun q => t0' ?_)⟩)
  · have er : r = byM f n p := by
      rcases hr with y | y
      · exact y
      · omega
    subst er
    rw [hp.1]
    refine ⟨by unfold inI; omega, ?_⟩
    rw [show (p : Int) + 1 = ((p + 1 : Nat) : Int) by omega]
    rw [if_pos (by split at q <;> split <;> omega)] at h
    have hd1 : drf (mset M 39 0 ((p + 1 : Nat) : Int)) f n := hd
    refine sg_85_42 ⟨fun z => by omega, fun _ => ?_⟩
    rw [m39_a]
    refine c_60 hd1 (fun r1 hr1 => ⟨by unfold inI; omega, c_32 (fun q1 => t1' ?_) (fun q1 => t0' ?_)⟩)
    · have er1 : r1 = byM f n (p + 1) := by
        rcases hr1 with y | y
        · exact y
        · omega
      subst er1
      rw [if_pos (show dgt (byM f n) (p + 1) from ⟨by omega, by omega⟩)] at h
      refine ⟨fun z => ?_, fun z => ⟨by unfold inI; omega, by unfold inI; omega, fun z2 => ⟨by unfold inI; omega, by unfold inI; omega, by rw [m39_a]; unfold inI; omega, by unfold inI; omega, ?_⟩, fun z2 => ?_⟩⟩
      · rw [if_pos (Or.inl z)] at h; exact h
      · rw [if_neg (by omega)] at h
        rw [m39_a, m39, show ((p + 1 : Nat) : Int) + 1 = ((p + 2 : Nat) : Int) by omega]
        have hd2 : drf (mset M 39 0 ((p + 2 : Nat) : Int)) f n := hd
        refine sg_85_42 ⟨fun z => by omega, fun _ => ?_⟩
        rw [m39_a]
        refine c_60 hd2 (fun r2 hr2 => ⟨by unfold inI; omega, c_32 (fun q2 => t1' ?_) (fun q2 => t0' ?_)⟩)
        · have er2 : r2 = byM f n (p + 2) := by
            rcases hr2 with y | y
            · exact y
            · omega
          subst er2
          rw [if_pos (show dgt (byM f n) (p + 2) from ⟨by omega, by omega⟩)] at h
          refine ⟨fun z3 => ?_, fun z3 => ⟨by unfold inI; omega, by unfold inI; omega, fun z4 => ⟨by unfold inI; omega, by unfold inI; omega, by rw [m39_a]; unfold inI; omega, by unfold inI; omega, ?_⟩, fun z4 => ?_⟩⟩
          · rw [if_pos (Or.inl z3)] at h; exact h
          · rw [if_neg (by omega)] at h
            rw [m39_a, m39, show ((p + 2 : Nat) : Int) + 1 = ((p + 3 : Nat) : Int) by omega]
            exact sg_85_42 ⟨fun _ => h, fun z => by omega⟩
          · rw [if_pos (Or.inr z4)] at h; exact h
        · rw [if_neg (fun y => by
            have y1 := y.1
            have y2 := y.2
            omega)] at h
          exact h
      · rw [if_pos (Or.inr z2)] at h; exact h
    · rw [if_neg (fun y => by
        have y1 := y.1
        have y2 := y.2
        omega)] at h
      exact h
  · rw [if_neg (by split at q <;> split <;> omega), ms_idm (by rw [hp.1])] at h
    exact h
