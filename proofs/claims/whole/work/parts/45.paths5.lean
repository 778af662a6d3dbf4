/-! paths: the class's table -/
theorem wlk_x : ∀ s, s < 256 → (wlk s 256 s).all (fun a => decide (s ^^^ a < s) && decide (a < 256)) = true := by
  decide +kernel
theorem wlk_lt {s a : Nat} (hs : s < 256) (ha : a ∈ wlk s 256 s) : s ^^^ a < s ∧ a < 256 := by
  have := List.all_eq_true.mp (wlk_x s hs) a ha
  rw [Bool.and_eq_true] at this
  exact ⟨of_decide_eq_true this.1, of_decide_eq_true this.2⟩
def kst (cap : Int) (sz f : Int → Int) (s : Nat) (x : Int) (a : Nat) : Int := if sz a ≤ cap ∧ 0 ≤ f ((s ^^^ a : Nat) : Int) ∧ (x < 0 ∨ f ((s ^^^ a : Nat) : Int) + 1 < x) then f ((s ^^^ a : Nat) : Int) + 1 else x
def kS (cap : Int) (sz f : Int → Int) (s : Nat) : Int → Int := fset f s ((wlk s 256 s).foldl (kst cap sz f s) (f s))
def kT (cap : Int) (sz : Int → Int) : Nat → (Int → Int) → (Int → Int)
  | 0, f => f
  | s + 1, f => kT cap sz s (kS cap sz f (s + 1))
theorem lp_93_13 {d : Nat} {P : Mm → Prop} {M : Mm} {cap : Int} {s : Nat} {f : Int → Int} (hs : s < 256) (hb : ∀ j : Nat, j < s → -9 ≤ f j ∧ f j ≤ 100) (hK : ∀ x, x = (wlk s 256 s).foldl (kst cap (M 48) f s) (f s) → H_93_4 d P cap ((s : Int) + -1) (rset M 49 (fset f s x))) : ∀ (k a : Nat) {x : Int}, k ≤ 256 → a < 256 → (∀ b ∈ wlk s k a, s ^^^ b < s ∧ b < 256) → (wlk s k a).foldl (kst cap (M 48) f s) x = (wlk s 256 s).foldl (kst cap (M 48) f s) (f s) → H_93_13 d P cap s a (256 - (k : Int)) (rset M 49 (fset f s x))
  | 0, a, x, hk, ha, hw, hx => by
    refine sg_93_13 ⟨fun _ => ⟨by unfold inI; omega, hK x hx⟩, fun z => by omega⟩
  | k + 1, a, x, hk, ha, hw, hx => by
    refine sg_93_13 ⟨fun z => by omega, fun _ => ⟨fun z => ⟨by unfold inI; omega, ?_⟩, fun z => ?_⟩⟩
    · have e : a = 0 := by omega
      subst e
      exact hK x hx
    · have za : ¬ a = 0 := by omega
      have ew : wlk s (k + 1) a = a :: wlk s k ((a - 1) &&& s) := if_neg za
      rw [ew] at hw hx
      rw [List.foldl_cons] at hx
      obtain ⟨hlt, ha2⟩ := hw a (List.mem_cons_self ..)
      have hle : (a - 1) &&& s ≤ a - 1 := Nat.and_le_left
      have ih := fun {y : Int} => lp_93_13 (d := d) (P := P) hs hb hK k ((a - 1) &&& s) (x := y) (by omega) (by omega) (fun b hb => hw b (List.mem_cons_of_mem _ hb))
      have nx : ∀ {y : Int}, y = kst cap (M 48) f s x a → H_93_82 d P cap s a (256 - ((k + 1 : Nat) : Int)) (rset M 49 (fset f s y)) := by
        intro y ey
        refine sg_93_82 ⟨by unfold inI; omega, by unfold inI; omega, ?_⟩
        rw [show (a : Int) - 1 = ((a - 1 : Nat) : Int) by omega, zand_n (by omega) (by omega), show 256 - ((k + 1 : Nat) : Int) + 1 = 256 - (k : Int) by omega]
        exact ih (by rw [ey]; exact hx)
      have hg := hb _ hlt
      have e1 : (rset M 49 (fset f s x)) 49 ((s ^^^ a : Nat) : Int) = f ((s ^^^ a : Nat) : Int) := by
        show fset f s x _ = _
        rw [fs_ne (by omega)]
      have e2 : (rset M 49 (fset f s x)) 49 (s : Int) = x := by
        show fset f s x _ = _
        rw [fs_eq]
      have up : kst cap (M 48) f s x a = f ((s ^^^ a : Nat) : Int) + 1 → H_93_72 d P cap s a (256 - ((k + 1 : Nat) : Int)) (f ((s ^^^ a : Nat) : Int)) (rset M 49 (fset f s x)) := by
        intro e
        refine sg_93_72 ⟨by unfold inI; omega, by omega, ?_⟩
        rw [ms_same, fs_fs]
        exact nx e.symm
      rw [zxor_n (by omega) (by omega), e1, e2]
      unfold kst at up nx
      refine ⟨by omega, by omega, fun q => nx ?_, fun q => ⟨fun q2 => nx ?_, fun q2 => ⟨by omega, fun q3 => up ?_, fun q3 => ⟨by unfold inI; omega, by omega, fun q4 => nx ?_, fun q4 => up ?_⟩⟩⟩⟩
      · have q : cap < M 48 a := q
        rw [if_neg (fun y => by omega)]
      · rw [if_neg (fun y => by omega)]
      · have q : M 48 a ≤ cap := q
        rw [if_pos ⟨q, q2, Or.inl q3⟩]
      · rw [if_neg (fun y => by omega)]
      · have q : M 48 a ≤ cap := q
        rw [if_pos ⟨q, q2, Or.inr q4⟩]
theorem fs_id {f : Int → Int} {i : Int} : fset f i (f i) = f := by
  funext j
  by_cases e : j = i
  · rw [ps_eq e, e]
  · rw [fs_ne e]
theorem lp_93_4 {d : Nat} {P : Mm → Prop} {M : Mm} {cap : Int} : ∀ (s : Nat) {f : Int → Int}, s < 256 → (∀ j : Nat, j ≤ s → -9 ≤ f j ∧ f j ≤ 100) → P (rset M 49 (kT cap (M 48) s f)) → H_93_4 d P cap s (rset M 49 f)
  | 0, f, hs, hb, hK => sg_93_4 ⟨fun _ => hK, fun z => by omega⟩
  | s + 1, f, hs, hb, hK => by
    refine sg_93_4 ⟨fun z => by omega, fun _ => ?_⟩
    have key := lp_93_13 (d := d) (P := P) (M := M) (cap := cap) (s := s + 1) (f := f) hs (fun j hj => hb j (by omega)) (fun x hx => by
      have ih := lp_93_4 (d := d) (P := P) (M := M) (cap := cap) s (f := fset f ((s + 1 : Nat) : Int) x) (by omega) (fun j hj => by rw [fs_ne (by omega)]; exact hb j (by omega)) (by rw [hx]; exact hK)
      rw [show ((s + 1 : Nat) : Int) + -1 = (s : Int) by omega]
      exact ih) 256 (s + 1) (x := f ((s + 1 : Nat) : Int)) (by omega) hs (fun b hb2 => wlk_lt hs hb2) rfl
    rw [fs_id] at key
    exact key
theorem c_93 {d : Nat} {P : Mm → Prop} {M : Mm} {cap : Int} (hb : ∀ j : Nat, j ≤ 255 → -9 ≤ M 49 j ∧ M 49 j ≤ 100) (hK : P (rset M 49 (kT cap (M 48) 255 (M 49)))) : EE (d + 1) 93 [vR 47, vI cap] M (rV P) := by
  have key := lp_93_4 (d := d) (P := P) (M := M) (cap := cap) 255 (f := M 49) (by omega) hb hK
  rw [rs_id] at key
  exact sg_93 key
