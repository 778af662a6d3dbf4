/-! MEMORY, AND THE LEAVES' CONTRACTS -/
theorem ms_same {M : Mm} {a : Nat} {f : Int → Int} {i x : Int} : mset (rset M a f) a i x = rset M a (fset f i x) := by
  funext k
  simp only [mset, rset]
  by_cases h : k = a
  · simp [h]
  · simp [h]
theorem ms_comm {M : Mm} {a b : Nat} {f : Int → Int} {i x : Int} (h : b ≠ a) : mset (rset M a f) b i x = rset (mset M b i x) a f := by
  funext k
  simp only [mset, rset]
  by_cases h1 : k = b
  · subst h1; simp [h]
  · by_cases h2 : k = a
    · subst h2; simp [h1]
    · simp [h1, h2]
theorem rs_rs {M : Mm} {a : Nat} {f g : Int → Int} : rset (rset M a f) a g = rset M a g := by
  funext k
  simp only [rset]
  by_cases h : k = a <;> simp [h]
theorem rs_comm {M : Mm} {a b : Nat} {f g : Int → Int} (h : b ≠ a) : rset (rset M a f) b g = rset (rset M b g) a f := by
  funext k
  simp only [rset]
  by_cases h1 : k = b
  · subst h1; simp [h]
  · simp [h1]
theorem rs_id {M : Mm} {a : Nat} : rset M a (M a) = M := by
  funext k
  simp only [rset]
  by_cases h : k = a <;> simp [h]
theorem ms_rs {M : Mm} {a : Nat} {i x : Int} : mset M a i x = rset M a (fset (M a) i x) := rfl
theorem fs_eq {f : Int → Int} {i x : Int} : fset f i x i = x := if_pos rfl
theorem fs_ne {f : Int → Int} {i x j : Int} (h : j ≠ i) : fset f i x j = f j := if_neg h
theorem fs_fs {f : Int → Int} {i x y : Int} : fset (fset f i x) i y = fset f i y := by
  funext j
  simp only [fset]
  by_cases h : j = i <;> simp [h]
theorem ms_ms {M : Mm} {a : Nat} {i x y : Int} : mset (mset M a i x) a i y = mset M a i y := by
  simp only [ms_rs, rs_rs]
  congr 1
  show fset (rset M a (fset (M a) i x) a) i y = _
  simp [rset, fs_fs]
section LEAF
variable {d : Nat} {P : Int → Mm → Prop} {PV : Mm → Prop} {M : Mm}
theorem c_32 {v lo hi : Int} (h1 : lo ≤ v ∧ v ≤ hi → P 1 M) (h0 : ¬ (lo ≤ v ∧ v ≤ hi) → P 0 M) : EE (d + 1) 32 [vI v, vI lo, vI hi] M (rI P) :=
  sg_32 ⟨fun q => h0 (by omega), fun q => ⟨fun q2 => h0 (by omega), fun q2 => h1 ⟨q, q2⟩⟩⟩
theorem c_140 {v lo hi : Int} (h1 : lo ≤ v ∧ v ≤ hi → P 1 M) (h0 : ¬ (lo ≤ v ∧ v ≤ hi) → P 0 M) : EE (d + 1) 140 [vI v, vI lo, vI hi] M (rI P) := by
  refine sg_140 ?_
  refine ⟨fun q => h0 (by omega), fun q => ⟨fun q2 => h0 (by omega), fun q2 => h1 ⟨q, q2⟩⟩⟩
theorem c_33 {v : Int} (h1 : 0 ≤ v ∧ v ≤ 7 → P 1 M) (h0 : ¬ (0 ≤ v ∧ v ≤ 7) → P 0 M) : EE (d + 2) 33 [vI v] M (rI P) :=
  sg_33 (c_32 (fun q => ⟨Or.inr rfl, h1 q⟩) (fun q => ⟨Or.inl rfl, h0 q⟩))
theorem c_36 {v : Int} (h1 : 0 ≤ v ∧ v ≤ 5 → P 1 M) (h0 : ¬ (0 ≤ v ∧ v ≤ 5) → P 0 M) : EE (d + 2) 36 [vI v] M (rI P) :=
  sg_36 (c_32 (fun q => ⟨Or.inr rfl, h1 q⟩) (fun q => ⟨Or.inl rfl, h0 q⟩))
theorem c_37 {v : Int} (h1 : 0 ≤ v ∧ v ≤ 5 → P 1 M) (h0 : ¬ (0 ≤ v ∧ v ≤ 5) → P 0 M) : EE (d + 2) 37 [vI v] M (rI P) :=
  sg_37 (c_32 (fun q => ⟨Or.inr rfl, h1 q⟩) (fun q => ⟨Or.inl rfl, h0 q⟩))
theorem c_145 {v : Int} (h1 : 0 ≤ v ∧ v ≤ 5 → P 1 M) (h0 : ¬ (0 ≤ v ∧ v ≤ 5) → P 0 M) : EE (d + 2) 145 [vI v] M (rI P) :=
  sg_145 (c_140 (fun q => ⟨Or.inr rfl, h1 q⟩) (fun q => ⟨Or.inl rfl, h0 q⟩))
theorem c_43 {v : Int} (h1 : 0 ≤ v ∧ v ≤ 199 → P 1 M) (h0 : ¬ (0 ≤ v ∧ v ≤ 199) → P 0 M) : EE (d + 2) 43 [vI v] M (rI P) :=
  sg_43 (c_32 (fun q => ⟨Or.inr rfl, h1 q⟩) (fun q => ⟨Or.inl rfl, h0 q⟩))
theorem c_163 {v : Int} (h1 : 0 ≤ v ∧ v ≤ 199 → P 1 M) (h0 : ¬ (0 ≤ v ∧ v ≤ 199) → P 0 M) : EE (d + 2) 163 [vI v] M (rI P) :=
  sg_163 (c_140 (fun q => ⟨Or.inr rfl, h1 q⟩) (fun q => ⟨Or.inl rfl, h0 q⟩))
theorem c_35 {v : Int} (hn : 0 ≤ M 1 6 ∧ M 1 6 ≤ 48) (h1 : 0 ≤ v ∧ v < M 1 6 → P 1 M) (h0 : ¬ (0 ≤ v ∧ v < M 1 6) → P 0 M) : EE (d + 2) 35 [vR 0, vI v] M (rI P) :=
  sg_35 ⟨by unfold inI; omega, c_32 (fun q => ⟨Or.inr rfl, h1 (by omega)⟩) (fun q => ⟨Or.inl rfl, h0 (by omega)⟩)⟩
theorem c_141 {v : Int} (hn : 0 ≤ M 76 2 ∧ M 76 2 ≤ 48) (h1 : 0 ≤ v ∧ v < M 76 2 → P 1 M) (h0 : ¬ (0 ≤ v ∧ v < M 76 2) → P 0 M) : EE (d + 2) 141 [vR 76, vI v] M (rI P) :=
  sg_141 ⟨by unfold inI; omega, c_140 (fun q => ⟨Or.inr rfl, h1 (by omega)⟩) (fun q => ⟨Or.inl rfl, h0 (by omega)⟩)⟩
theorem c_42 {v : Int} (hn : 0 ≤ M 24 5 ∧ M 24 5 ≤ 24) (h1 : 0 ≤ v ∧ v < M 24 5 → P 1 M) (h0 : ¬ (0 ≤ v ∧ v < M 24 5) → P 0 M) : EE (d + 2) 42 [vR 0, vI v] M (rI P) :=
  sg_42 ⟨by unfold inI; omega, c_32 (fun q => ⟨Or.inr rfl, h1 (by omega)⟩) (fun q => ⟨Or.inl rfl, h0 (by omega)⟩)⟩
theorem c_162 {v : Int} (hn : 0 ≤ M 76 16 ∧ M 76 16 ≤ 24) (h1 : 0 ≤ v ∧ v < M 76 16 → P 1 M) (h0 : ¬ (0 ≤ v ∧ v < M 76 16) → P 0 M) : EE (d + 2) 162 [vR 76, vI v] M (rI P) :=
  sg_162 ⟨by unfold inI; omega, c_140 (fun q => ⟨Or.inr rfl, h1 (by omega)⟩) (fun q => ⟨Or.inl rfl, h0 (by omega)⟩)⟩
theorem c_34 (h : PV (mset (mset M 10 9 1) 33 7 (-9))) : EE (d + 1) 34 [vR 0] M (rV PV) := sg_34 h
theorem c_57 (h : P (M 8 1) (mset M 8 1 0)) : EE (d + 1) 57 [vR 8] M (rI P) := sg_57 h
theorem c_51 {c : Int} (hc : 0 ≤ c ∧ c < 48) (h1 : 9 ≤ M 3 c → P 1 M) (h0 : M 3 c < 9 → P 0 M) : EE (d + 1) 51 [vR 1, vI c] M (rI P) := by
  refine sg_51 ?_
  refine ⟨hc, ?_⟩
  exact ⟨fun q => h0 q, fun q => h1 q⟩
theorem c_53 {c : Int} (hc : 0 ≤ c ∧ c < 48) (h1 : ¬ M 4 c = 0 → P 1 M) (h0 : M 4 c = 0 → P 0 M) : EE (d + 1) 53 [vR 1, vI c] M (rI P) := by
  refine sg_53 ?_
  refine ⟨hc, ?_⟩
  exact ⟨fun q => h0 q, fun q => h1 q⟩
end LEAF
