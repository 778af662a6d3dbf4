/-! THE LAW'S LOOP -/
theorem Inv.up {k : Int} {M : Mm} (h : Inv k M) : Inv (k + 1) M := ⟨h.1, h.2.1, h.2.2.1, h.2.2.2.1, h.2.2.2.2.1, h.2.2.2.2.2.1, h.2.2.2.2.2.2.1, h.2.2.2.2.2.2.2.1, h.2.2.2.2.2.2.2.2.1, h.2.2.2.2.2.2.2.2.2.1, h.2.2.2.2.2.2.2.2.2.2.up⟩
theorem inJ_or {x y : Int} : inJ (jor x y) := inJ_t _
theorem lw_loop {g : Gx} {F : Int → Int} {n : Int} (hg : ∀ M1 : Mm, okM g M1 → M1 200 = F ∧ M1 201 0 = n) (hn : 0 ≤ n ∧ n ≤ 3584) : ∀ (fuel t : Nat) {M : Mm}, n ≤ 7 * (t : Int) + 7 * fuel → t ≤ 600 → okM g M → Inv t M → GoG true (gE g 20) cd_L (rI fun r _ => r = 1) 18 [vT 100, vR 0, vR 76, vI (7 * (t : Int))] [] M
  | fuel, t, M, hf, ht, hok, hI => by
    have hE := gE_mono g 20
    have hF := hg M hok
    have fin : n - 7 < 7 * (t : Int) → GoG true (gE g 20) cd_L (rI fun r _ => r = 1) 1331 [vT 100, vR 0, vR 76, vI (7 * (t : Int))] [] M := by
      intro _
      refine z_iconst hE rfl ?_
      exact z_zret hE rfl rfl (Or.inr rfl) rfl
    refine z_iload hE rfl rfl ?_
    refine z_aload hE rfl rfl rfl ?_
    refine z_alenS hE rfl ?_
    refine z_iconst hE rfl ?_
    rw [hF.2]
    refine z_isub hE rfl (by unfold inI; omega) ?_
    refine z_icmp_gt hE rfl ⟨fun q => fin q, fun q => ?_⟩
    have hi : 0 ≤ 7 * (t : Int) ∧ 7 * (t : Int) + 6 < n ∧ n ≤ 100000 := by omega
    refine z_aload hE rfl rfl rfl ?_
    refine z_iload hE rfl rfl ?_
    refine z_ialdS hE rfl (by rw [hF.2]; omega) ?_
    rw [hF.1]
    refine z_iconst hE rfl ?_
    refine z_iand hE rfl ?_
    have nxt : ∀ M2 : Mm, okM g M2 → Inv ((t : Int) + 1) M2 → GoG true (gE g 20) cd_L (rI fun r _ => r = 1) 1325 [vT 100, vR 0, vR 76, vI (7 * (t : Int))] [] M2 := by
      intro M2 hok2 hI2
      refine z_iinc hE rfl rfl rfl (by unfold inI; omega) ?_
      refine z_goto hE rfl ?_
      match fuel, hf with
      | 0, hf => omega
      | fuel + 1, hf =>
        have key := lw_loop hg hn fuel (t + 1) (M := M2) (by omega) (by omega) hok2 (by rw [show ((t + 1 : Nat) : Int) = (t : Int) + 1 by omega]; exact hI2)
        rw [show 7 * ((t + 1 : Nat) : Int) = 7 * (t : Int) + 7 by omega] at key
        exact key
    refine z_tsw hE rfl ?_ (fun _ => nxt M hok hI.up)
    exact ⟨fun _ => lw_0 hF hg hi (op_child (d := 15) hI) nxt,
      fun _ => lw_1 hF hg hi (op_type (d := 15) inJ_or hI) nxt,
      fun _ => lw_2 hF hg hi (op_clear (d := 15) hI) nxt,
      fun _ => lw_3 hF hg hi (op_name (d := 15) hI) nxt,
      fun _ => lw_4 hF hg hi (op_party (d := 15) hI) nxt,
      fun _ => lw_5 hF hg hi (op_train (d := 15) hI) nxt,
      fun _ => lw_6 hF hg hi (op_wayOf (d := 15) hI) nxt,
      fun _ => lw_7 hF hg hi (op_boarded (d := 11) hI) nxt,
      fun _ => lw_8 hF hg hi (op_mixed (d := 11) hI) nxt,
      fun _ => lw_9 hF hg hi (op_load (d := 11) hI) nxt,
      fun _ => lw_10 hF hg hi (op_house (d := 15) hI) nxt,
      fun _ => lw_11 hF hg hi (op_pay (d := 15) (by omega) hI) nxt,
      fun _ => lw_12 hF hg hi (op_hall (d := 11) hI) nxt,
      fun _ => lw_13 hF hg hi (op_chosen (d := 11) hI) nxt,
      fun _ => lw_14 hF hg hi (op_best (d := 11) hI) nxt,
      fun _ => lw_15 hF hg hi (op_orders (d := 9) hI) nxt,
      fun _ => lw_16 hF hg hi (op_delay (d := 15) hI) nxt,
      fun _ => lw_17 hF hg hi (op_ruling (d := 11) hI) nxt,
      fun _ => lw_18 hF hg hi (op_why (d := 11) hI) nxt,
      fun _ => lw_19 hF hg hi (op_lodge (d := 11) hI) nxt,
      fun _ => lw_20 hF hg hi (op_fetch (d := 11) hI) nxt,
      fun _ => lw_21 hF hg hi (op_where (d := 15) hI) nxt,
      fun _ => lw_22 hF hg hi (op_paid (d := 15) hI) nxt,
      fun _ => lw_23 hF hg hi (op_free (d := 15) hI) nxt,
      fun _ => lw_24 hF hg hi (op_trouble (d := 11) hI) nxt,
      fun _ => lw_25 hF hg hi (op_restless (d := 15) hI) nxt,
      fun _ => lw_26 hF hg hi (op_city (d := 15) hI) nxt,
      fun _ => lw_27 hF hg hi (op_torn (d := 15) inJ_or hI) nxt,
      fun _ => lw_28 hF hg hi (op_paths (d := 16) hI) nxt,
      fun _ => lw_29 hF hg hi (op_lessons (d := 15) hI) nxt,
      fun _ => lw_30 hF hg hi (op_count (d := 15) hI) nxt,
      fun _ => lw_31 hF hg hi (op_trace (d := 15) hI) nxt, trivial⟩
