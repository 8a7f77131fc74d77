/-! X's readers -/
def cx_v (op xx yy zz : Int32) (o x y z : Nat) : Prop := op = nI o ∧ o ≤ 12 ∧ xx = nI x ∧ x < 4 ∧ (o ≠ 10 → o ≠ 12 → yy = nI y ∧ y < 4) ∧ (o ≤ 5 ∨ o = 11 → zz = nI z ∧ z < 4)
theorem cx_writes {post : Int32 → Prop} {o : Nat} (ho : o ≤ 12) (h1 : cu_wr o → post 1) (h0 : ¬ cu_wr o → post 0) : wpX_writesVector post (nI o) :=
  pk_le o 6 (fun h => h1 (Or.inl h)) (fun h => pk_eq o 8 (fun e => h1 (Or.inr e)) (fun e => h0 (by unfold cu_wr; omega)))
theorem cx_usesM {post : Int32 → Prop} {o : Nat} (ho : o ≤ 12) (h1 : o = 6 ∨ o = 7 ∨ o = 8 → post 1) (h0 : ¬ (o = 6 ∨ o = 7 ∨ o = 8) → post 0) : wpX_usesMemory post (nI o) :=
  pk_eq o 6 (fun h => h1 (by omega)) (fun _ => pk_eq o 7 (fun h => h1 (by omega)) (fun _ => pk_eq o 8 (fun h => h1 (by omega)) (fun _ => h0 (by omega))))
theorem cx_so {post : Int32 → Prop} {o : Nat} (ho : o ≤ 12) (h0 : o ≤ 9 → post 0) (h1 : ¬ o ≤ 9 → post 1) : wpX_isScalarOnly post (nI o) :=
  pk_lt o 10 (fun h => h0 (by omega)) (fun h => h1 (by omega))
theorem cx_clamp {post : Int32 → Prop} (s : Int32) (h : post (nI (cu_cl s))) : wpX_clamp post s 0 16 := by
  unfold cu_cl at h
  by_cases z : s < 0
  · rw [if_pos z] at h
    exact br_f (Int32.not_le.mpr z) h
  · rw [if_neg z] at h
    obtain ⟨j, hj, rfl⟩ := nI_of z
    refine br_t (nI_pos' hj) ?_
    by_cases y : nI j ≤ 16
    · rw [if_pos y, nI_clamp hj] at h
      exact br_t y h
    · rw [if_neg y] at h
      exact br_f y h
section
variable {f_lanes f_delay f_activeLength f_count f_issued : Int32} {a_vectors a_scalars a_cells a_ops a_xs a_ys a_zs a_takenLengths a_takenScalars a_begun a_finished a_results a_readyCycles : Nat → Int32}
theorem cx_r60 {post : Int32 → Prop} {j v y z : Nat} (hj : j < 16) (hv : v < 4) (hy : a_ys j = nI y ∧ y < 4) (hz : a_zs j = nI z ∧ z < 4) (h1 : y = v ∨ z = v → post 1) (h0 : ¬ (y = v ∨ z = v) → post 0) : wX_readsVector_60 post (nI j) (nI v) f_lanes f_delay f_activeLength f_count f_issued a_vectors a_scalars a_cells a_ops a_xs a_ys a_zs a_takenLengths a_takenScalars a_begun a_finished a_results a_readyCycles := by
  unfold wX_readsVector_60
  rw [nI_clamp (show j < 2 ^ 31 by omega), hy.1, hz.1]
  have := hy.2
  have := hz.2
  exact ⟨pk_in j 16 hj, pk_eq y v (fun e => h1 (Or.inl e)) (fun e => ⟨pk_in j 16 hj, pk_eq z v (fun e2 => h1 (Or.inr e2)) (fun e2 => h0 (by omega))⟩)⟩
theorem cx_r86 {post : Int32 → Prop} {j v y : Nat} (hj : j < 16) (hv : v < 4) (hy : a_ys j = nI y ∧ y < 4) (h1 : y = v → post 1) (h0 : ¬ y = v → post 0) : wX_readsVector_86 post (nI j) (nI v) f_lanes f_delay f_activeLength f_count f_issued a_vectors a_scalars a_cells a_ops a_xs a_ys a_zs a_takenLengths a_takenScalars a_begun a_finished a_results a_readyCycles := by
  unfold wX_readsVector_86
  rw [nI_clamp (show j < 2 ^ 31 by omega), hy.1]
  have := hy.2
  exact ⟨pk_in j 16 hj, pk_eq y v h1 h0⟩
theorem cx_reads {post : Int32 → Prop} {j v o x y z : Nat} (hj : j < 16) (hv : v < 4) (h : cx_v (a_ops j) (a_xs j) (a_ys j) (a_zs j) o x y z) (h1 : cu_rd o x y z v → post 1) (h0 : ¬ cu_rd o x y z v → post 0) : wpX_readsVector post (f_lanes, f_delay, f_activeLength, f_count, f_issued, a_vectors, a_scalars, a_cells, a_ops, a_xs, a_ys, a_zs, a_takenLengths, a_takenScalars, a_begun, a_finished, a_results, a_readyCycles) (nI j) (nI v) := by
  unfold wpX_readsVector
  obtain ⟨ho, ho12, hx, hx4, hy, hz⟩ := h
  dsimp only
  rw [nI_clamp (show j < 2 ^ 31 by omega), ho, hx]
  refine ⟨pk_in j 16 hj, nm_e ?_⟩
  refine pk_lt o 0 (fun h => absurd h (by omega)) fun _ => ?_
  refine pk_lt 9 o (fun h => h0 (by unfold cu_rd; omega)) fun h9 => ?_
  have r60 : o ≤ 3 → wX_readsVector_60 post (nI j) (nI v) f_lanes f_delay f_activeLength f_count f_issued a_vectors a_scalars a_cells a_ops a_xs a_ys a_zs a_takenLengths a_takenScalars a_begun a_finished a_results a_readyCycles := fun e => cx_r60 hj hv (hy (by omega) (by omega)) (hz (by omega)) (fun q => h1 (by unfold cu_rd; omega)) (fun q => h0 (by unfold cu_rd; omega))
  have r86 : o = 4 ∨ o = 5 ∨ o = 8 ∨ o = 9 → wX_readsVector_86 post (nI j) (nI v) f_lanes f_delay f_activeLength f_count f_issued a_vectors a_scalars a_cells a_ops a_xs a_ys a_zs a_takenLengths a_takenScalars a_begun a_finished a_results a_readyCycles := fun e => cx_r86 hj hv (hy (by omega) (by omega)) (fun q => h1 (by unfold cu_rd; omega)) (fun q => h0 (by unfold cu_rd; omega))
  refine pk_eq o 0 (fun e => r60 (by omega)) fun e0 => ?_
  refine pk_eq o 1 (fun e => r60 (by omega)) fun e1 => ?_
  refine pk_eq o 2 (fun e => r60 (by omega)) fun e2 => ?_
  refine pk_eq o 3 (fun e => r60 (by omega)) fun e3 => ?_
  refine pk_eq o 4 (fun e => r86 (by omega)) fun e4 => ?_
  refine pk_eq o 5 (fun e => r86 (by omega)) fun e5 => ?_
  refine pk_eq o 6 (fun e => h0 (by unfold cu_rd; omega)) fun e6 => ?_
  refine pk_eq o 7 (fun e => ⟨pk_in j 16 hj, pk_eq x v (fun q => h1 (by unfold cu_rd; omega)) (fun q => h0 (by unfold cu_rd; omega))⟩) fun e7 => ?_
  refine pk_eq o 8 (fun e => r86 (by omega)) fun e8 => ?_
  exact pk_eq o 9 (fun e => r86 (by omega)) (fun _ => trivial)
theorem cx_n56 {post : Int32 → Prop} {j v z : Nat} (hj : j < 16) (hv : v < 4) (hz : a_zs j = nI z ∧ z < 4) (h1 : z = v → post 1) (h0 : ¬ z = v → post 0) : wX_namesScalar_56 post (nI j) (nI v) f_lanes f_delay f_activeLength f_count f_issued a_vectors a_scalars a_cells a_ops a_xs a_ys a_zs a_takenLengths a_takenScalars a_begun a_finished a_results a_readyCycles := by
  unfold wX_namesScalar_56
  rw [nI_clamp (show j < 2 ^ 31 by omega), hz.1]
  have := hz.2
  exact ⟨pk_in j 16 hj, pk_eq z v h1 h0⟩
theorem cx_n72 {post : Int32 → Prop} {j v z : Nat} (hj : j < 16) (hv : v < 4) (hz : a_ys j = nI z ∧ z < 4) (h1 : z = v → post 1) (h0 : ¬ z = v → post 0) : wX_namesScalar_72 post (nI j) (nI v) f_lanes f_delay f_activeLength f_count f_issued a_vectors a_scalars a_cells a_ops a_xs a_ys a_zs a_takenLengths a_takenScalars a_begun a_finished a_results a_readyCycles := by
  unfold wX_namesScalar_72
  rw [nI_clamp (show j < 2 ^ 31 by omega), hz.1]
  have := hz.2
  exact ⟨pk_in j 16 hj, pk_eq z v h1 h0⟩
theorem cx_n124 {post : Int32 → Prop} {j v z : Nat} (hj : j < 16) (hv : v < 4) (hz : a_xs j = nI z ∧ z < 4) (h1 : z = v → post 1) (h0 : ¬ z = v → post 0) : wX_namesScalar_124 post (nI j) (nI v) f_lanes f_delay f_activeLength f_count f_issued a_vectors a_scalars a_cells a_ops a_xs a_ys a_zs a_takenLengths a_takenScalars a_begun a_finished a_results a_readyCycles := by
  unfold wX_namesScalar_124
  rw [nI_clamp (show j < 2 ^ 31 by omega), hz.1]
  have := hz.2
  exact ⟨pk_in j 16 hj, pk_eq z v h1 h0⟩
theorem cx_names {post : Int32 → Prop} {j v o x y z : Nat} (hj : j < 16) (hv : v < 4) (h : cx_v (a_ops j) (a_xs j) (a_ys j) (a_zs j) o x y z) (h1 : cu_nm o x y z v → post 1) (h0 : ¬ cu_nm o x y z v → post 0) : wpX_namesScalar post (f_lanes, f_delay, f_activeLength, f_count, f_issued, a_vectors, a_scalars, a_cells, a_ops, a_xs, a_ys, a_zs, a_takenLengths, a_takenScalars, a_begun, a_finished, a_results, a_readyCycles) (nI j) (nI v) := by
  unfold wpX_namesScalar
  obtain ⟨ho, ho12, hx, hx4, hy, hz⟩ := h
  dsimp only
  rw [nI_clamp (show j < 2 ^ 31 by omega), ho]
  refine ⟨pk_in j 16 hj, nm_e ?_⟩
  refine pk_lt o 4 (fun h => h0 (by unfold cu_nm; omega)) fun _ => ?_
  refine pk_lt 12 o (fun h => absurd h (by omega)) fun h9 => ?_
  have r56 : o = 4 ∨ o = 5 → wX_namesScalar_56 post (nI j) (nI v) f_lanes f_delay f_activeLength f_count f_issued a_vectors a_scalars a_cells a_ops a_xs a_ys a_zs a_takenLengths a_takenScalars a_begun a_finished a_results a_readyCycles := fun e => cx_n56 hj hv (hz (by omega)) (fun q => h1 (by unfold cu_nm; omega)) (fun q => h0 (by unfold cu_nm; omega))
  have r72 : o = 6 ∨ o = 7 → wX_namesScalar_72 post (nI j) (nI v) f_lanes f_delay f_activeLength f_count f_issued a_vectors a_scalars a_cells a_ops a_xs a_ys a_zs a_takenLengths a_takenScalars a_begun a_finished a_results a_readyCycles := fun e => cx_n72 hj hv (hy (by omega) (by omega)) (fun q => h1 (by unfold cu_nm; omega)) (fun q => h0 (by unfold cu_nm; omega))
  have r124 : o = 9 ∨ o = 10 ∨ o = 12 → wX_namesScalar_124 post (nI j) (nI v) f_lanes f_delay f_activeLength f_count f_issued a_vectors a_scalars a_cells a_ops a_xs a_ys a_zs a_takenLengths a_takenScalars a_begun a_finished a_results a_readyCycles := fun e => cx_n124 hj hv ⟨hx, hx4⟩ (fun q => h1 (by unfold cu_nm; omega)) (fun q => h0 (by unfold cu_nm; omega))
  refine pk_eq o 4 (fun e => r56 (by omega)) fun e4 => ?_
  refine pk_eq o 5 (fun e => r56 (by omega)) fun e5 => ?_
  refine pk_eq o 6 (fun e => r72 (by omega)) fun e6 => ?_
  refine pk_eq o 7 (fun e => r72 (by omega)) fun e7 => ?_
  refine pk_eq o 8 (fun e => h0 (by unfold cu_nm; omega)) fun e8 => ?_
  refine pk_eq o 9 (fun e => r124 (by omega)) fun e9 => ?_
  refine pk_eq o 10 (fun e => r124 (by omega)) fun e10 => ?_
  refine pk_eq o 11 (fun e => ?_) fun e11 => ?_
  · obtain ⟨hy1, hy2⟩ := hy (by omega) (by omega)
    obtain ⟨hz1, hz2⟩ := hz (by omega)
    rw [hx, hy1, hz1]
    exact ⟨pk_in j 16 hj, pk_eq x v (fun q => h1 (by unfold cu_nm; omega)) (fun q1 => ⟨pk_in j 16 hj, pk_eq y v (fun q => h1 (by unfold cu_nm; omega)) (fun q2 => ⟨pk_in j 16 hj, pk_eq z v (fun q => h1 (by unfold cu_nm; omega)) (fun q3 => h0 (by unfold cu_nm; omega))⟩)⟩)⟩
  · exact pk_eq o 12 (fun e => r124 (by omega)) (fun _ => trivial)
theorem cx_operand {post : Int32 → Prop} {j o x y z : Nat} (hj : j < 16) (h : cx_v (a_ops j) (a_xs j) (a_ys j) (a_zs j) o x y z) (hp : post (cu_sc o y z a_scalars)) : wpX_scalarOperand post (f_lanes, f_delay, f_activeLength, f_count, f_issued, a_vectors, a_scalars, a_cells, a_ops, a_xs, a_ys, a_zs, a_takenLengths, a_takenScalars, a_begun, a_finished, a_results, a_readyCycles) (nI j) := by
  unfold wpX_scalarOperand
  obtain ⟨ho, ho12, hx, hx4, hy, hz⟩ := h
  dsimp only
  rw [nI_clamp (show j < 2 ^ 31 by omega), ho]
  refine ⟨pk_in j 16 hj, nm_e ?_⟩
  unfold cu_sc at hp
  refine pk_lt o 4 (fun h => by rw [if_neg (by omega), if_neg (by omega)] at hp; exact hp) fun _ => ?_
  refine pk_lt 7 o (fun h => by rw [if_neg (by omega), if_neg (by omega)] at hp; exact hp) fun h9 => ?_
  have r36 : o = 4 ∨ o = 5 → wX_scalarOperand_36 post (nI j) f_lanes f_delay f_activeLength f_count f_issued a_vectors a_scalars a_cells a_ops a_xs a_ys a_zs a_takenLengths a_takenScalars a_begun a_finished a_results a_readyCycles := fun e => by
    rw [if_pos e] at hp
    obtain ⟨hz1, hz2⟩ := hz (by omega)
    unfold wX_scalarOperand_36
    rw [nI_clamp (show j < 2 ^ 31 by omega), hz1, nI_clamp (show z < 2 ^ 31 by omega)]
    exact ⟨pk_in j 16 hj, pk_in z 4 hz2, hp⟩
  have r48 : o = 6 ∨ o = 7 → wX_scalarOperand_48 post (nI j) f_lanes f_delay f_activeLength f_count f_issued a_vectors a_scalars a_cells a_ops a_xs a_ys a_zs a_takenLengths a_takenScalars a_begun a_finished a_results a_readyCycles := fun e => by
    rw [if_neg (by omega), if_pos e] at hp
    obtain ⟨hz1, hz2⟩ := hy (by omega) (by omega)
    unfold wX_scalarOperand_48
    rw [nI_clamp (show j < 2 ^ 31 by omega), hz1, nI_clamp (show y < 2 ^ 31 by omega)]
    exact ⟨pk_in j 16 hj, pk_in y 4 hz2, hp⟩
  refine pk_eq o 4 (fun e => r36 (by omega)) fun e4 => ?_
  refine pk_eq o 5 (fun e => r36 (by omega)) fun e5 => ?_
  refine pk_eq o 6 (fun e => r48 (by omega)) fun e6 => ?_
  exact pk_eq o 7 (fun e => r48 (by omega)) (fun _ => trivial)
end
