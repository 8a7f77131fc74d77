/-! registers, elements, cells; the program's instructions -/
theorem cr_no {x : Int32} {N : Nat} (hN : N < 2 ^ 31) (h : x < 0 ∨ nI N ≤ x) : ¬ ∃ a, a < N ∧ x = nI a := fun ⟨a, ha, e⟩ => by
  subst e
  exact h.elim (fun q => nI_pos (by omega) q) (fun q => nI_ge ha hN q)
theorem cr_regX {post : Int32 → Prop} (x : Int32) (h1 : ∀ a, a < 4 → x = nI a → post 1) (h0 : ¬ (∃ a, a < 4 ∧ x = nI a) → post 0) : wpX_isRegister post x := by
  rcases pk_ix x (n := 4) (by decide) with h | h | ⟨a, ha, e⟩
  · exact br_t h (h0 (cr_no (by decide) (Or.inl h)))
  · exact br_c (fun q => h0 (cr_no (by decide) (Or.inl q))) (fun _ => br_t h (h0 (cr_no (by decide) (Or.inr h))))
  · have k := h1 a ha e
    subst e
    exact br_f (nI_pos (by omega)) (br_f (nI_ge (b := 4) ha (by decide)) k)
theorem cr_elX {post : Int32 → Prop} (x : Int32) (h1 : ∀ a, a < 16 → x = nI a → post 1) (h0 : ¬ (∃ a, a < 16 ∧ x = nI a) → post 0) : wpX_isElement post x := by
  rcases pk_ix x (n := 16) (by decide) with h | h | ⟨a, ha, e⟩
  · exact br_t h (h0 (cr_no (by decide) (Or.inl h)))
  · exact br_c (fun q => h0 (cr_no (by decide) (Or.inl q))) (fun _ => br_t h (h0 (cr_no (by decide) (Or.inr h))))
  · have k := h1 a ha e
    subst e
    exact br_f (nI_pos (by omega)) (br_f (nI_ge (b := 16) ha (by decide)) k)
theorem cr_ceX {post : Int32 → Prop} (x : Int32) (h1 : ∀ a, a < 64 → x = nI a → post 1) (h0 : ¬ (∃ a, a < 64 ∧ x = nI a) → post 0) : wpX_isCell post x := by
  rcases pk_ix x (n := 64) (by decide) with h | h | ⟨a, ha, e⟩
  · exact br_t h (h0 (cr_no (by decide) (Or.inl h)))
  · exact br_c (fun q => h0 (cr_no (by decide) (Or.inl q))) (fun _ => br_t h (h0 (cr_no (by decide) (Or.inr h))))
  · have k := h1 a ha e
    subst e
    exact br_f (nI_pos (by omega)) (br_f (nI_ge (b := 64) ha (by decide)) k)
/-- x < 0, or m < x, or x is one of 0 .. m: by the bound m = N - 1 -/
theorem cr_iy {A B : Prop} (x : Int32) (m : Nat) (hm : m + 1 < 2 ^ 31) (h1 : ∀ a, a < m + 1 → x = nI a → A) (h0 : ¬ (∃ a, a < m + 1 ∧ x = nI a) → B) : (x < 0 → B) ∧ (¬ x < 0 → (nI m < x → B) ∧ (¬ nI m < x → A)) := by
  rcases pk_ix x (n := m + 1) hm with h | h | ⟨a, ha, e⟩
  · exact br_t h (h0 (cr_no hm (Or.inl h)))
  · have hb := h0 (cr_no hm (Or.inr h))
    have hlt : nI m < x := Int32.lt_of_lt_of_le (nI_lt (by omega) hm) h
    exact ⟨fun _ => hb, fun _ => br_t hlt hb⟩
  · have k := h1 a ha e
    subst e
    exact br_f (nI_pos (by omega)) (br_f (nI_nlt (by omega) (by omega)) k)
theorem cr_iy2 {A B : Prop} (x : Int32) (m : Nat) (hm : m + 1 < 2 ^ 31) (h1 : ∀ a, a < m + 1 → x = nI a → A) (h0 : ¬ (∃ a, a < m + 1 ∧ x = nI a) → B) : (x < 0 → B) ∧ (¬ x < 0 → (x ≤ nI m → A) ∧ (¬ x ≤ nI m → B)) := by
  obtain ⟨p, q⟩ := cr_iy x m hm h1 h0
  exact ⟨p, fun h => ⟨fun y => (q h).2 (Int32.not_lt.mpr y), fun y => (q h).1 (Int32.not_le.mp y)⟩⟩
def cr_fit (p0 p1 p2 p3 : Int32) : Prop := ∃ o x y z, cx_v p0 p1 p2 p3 o x y z
theorem cr_norm {p0 p1 p2 p3 : Int32} {o x y z : Nat} (h : cx_v p0 p1 p2 p3 o x y z) : cx_v p0 p1 p2 p3 p0.toNatClampNeg p1.toNatClampNeg p2.toNatClampNeg p3.toNatClampNeg := by
  obtain ⟨h1, h2, h3, h4, h5, h6⟩ := h
  have e0 : p0.toNatClampNeg = o := pk_cl o h1
  have e1 : p1.toNatClampNeg = x := pk_cl x h3
  rw [e0, e1]
  refine ⟨h1, h2, h3, h4, fun a b => ?_, fun a => ?_⟩
  · have e2 : p2.toNatClampNeg = y := pk_cl y (h5 a b).1 (by have := (h5 a b).2; omega)
    rw [e2]
    exact h5 a b
  · have e2 : p3.toNatClampNeg = z := pk_cl z (h6 a).1 (by have := (h6 a).2; omega)
    rw [e2]
    exact h6 a
/-- what emit asks of op, x, y, z, in the order in which both sides ask it -/
theorem cr_ask (p0 p1 p2 p3 : Int32) : (p0 < 0 → ¬ cr_fit p0 p1 p2 p3) ∧ (12 < p0 → ¬ cr_fit p0 p1 p2 p3) ∧ (¬ (∃ a, a < 4 ∧ p1 = nI a) → ¬ cr_fit p0 p1 p2 p3) ∧
    (¬ p0 = 10 → ¬ p0 = 12 → ¬ (∃ a, a < 4 ∧ p2 = nI a) → ¬ cr_fit p0 p1 p2 p3) ∧ (p0 ≤ 5 ∨ p0 = 11 → ¬ (∃ a, a < 4 ∧ p3 = nI a) → ¬ cr_fit p0 p1 p2 p3) := by
  refine ⟨fun h => ?_, fun h => ?_, fun h => ?_, fun h h' h'' => ?_, fun h h' => ?_⟩
  · rintro ⟨o, x, y, z, h1, h2, h3, h4, h5, h6⟩
    subst h1
    exact nI_pos (by omega) h
  · rintro ⟨o, x, y, z, h1, h2, h3, h4, h5, h6⟩
    subst h1
    exact nI_nlt (b := o) (a := 12) h2 (by decide) h
  · rintro ⟨o, x, y, z, h1, h2, h3, h4, h5, h6⟩
    exact h ⟨x, h4, h3⟩
  · rintro ⟨o, x, y, z, h1, h2, h3, h4, h5, h6⟩
    obtain ⟨a, b⟩ := h5 (fun e => h (by rw [h1, e]; rfl)) (fun e => h' (by rw [h1, e]; rfl))
    exact h'' ⟨y, b, a⟩
  · rintro ⟨o, x, y, z, h1, h2, h3, h4, h5, h6⟩
    obtain ⟨a, b⟩ := h6 (h.imp (fun e => by subst h1; exact (nI_leI (a := o) (b := 5) (by omega) (by decide)).mp e) (fun e => by subst h1; exact (nI_eq (a := o) (b := 11) (by omega) (by decide)).mp e))
    exact h' ⟨z, b, a⟩
theorem cr_get {p0 p1 p2 p3 : Int32} (h0 : ¬ p0 < 0) (h12 : ¬ 12 < p0) (hx : ∃ a, a < 4 ∧ p1 = nI a) (hy : p0 = 10 ∨ p0 = 12 ∨ ∃ a, a < 4 ∧ p2 = nI a) (hz : (¬ p0 ≤ 5 ∧ ¬ p0 = 11) ∨ ∃ a, a < 4 ∧ p3 = nI a) : cr_fit p0 p1 p2 p3 := by
  obtain ⟨o, ho, rfl⟩ := nI_of h0
  obtain ⟨x, hx4, rfl⟩ := hx
  have ho12 : o ≤ 12 := by
    rcases Nat.lt_or_ge 12 o with q | q
    · exact absurd (nI_lt q ho) h12
    · exact q
  have ey : ∃ y, o ≠ 10 → o ≠ 12 → p2 = nI y ∧ y < 4 := by
    rcases hy with e | e | ⟨a, ha, e⟩
    · exact ⟨0, fun q => absurd ((nI_eq (b := 10) ho (by decide)).mp e) q⟩
    · exact ⟨0, fun _ q => absurd ((nI_eq (b := 12) ho (by decide)).mp e) q⟩
    · exact ⟨a, fun _ _ => ⟨e, ha⟩⟩
  have ez : ∃ z, o ≤ 5 ∨ o = 11 → p3 = nI z ∧ z < 4 := by
    rcases hz with ⟨e1, e2⟩ | ⟨a, ha, e⟩
    · exact ⟨0, fun q => (q.elim (fun q => e1 (nI_le q (by decide))) (fun q => e2 (by rw [q]; rfl))).elim⟩
    · exact ⟨a, fun _ => ⟨e, ha⟩⟩
  obtain ⟨y, ey⟩ := ey
  obtain ⟨z, ez⟩ := ez
  exact ⟨o, x, y, z, rfl, ho12, rfl, hx4, ey, ez⟩
section
variable {f_lanes f_delay f_activeLength f_count f_issued : Int32} {a_vectors a_scalars a_cells a_ops a_xs a_ys a_zs a_takenLengths a_takenScalars a_begun a_finished a_results a_readyCycles : Nat → Int32}
theorem cr_47X {post : Int32 → SX → Prop} {p0 p1 p2 p3 : Int32} (h0 : ¬ p0 < 0) (h12 : ¬ 12 < p0) (hx : ∃ a, a < 4 ∧ p1 = nI a) (hy : p0 = 10 ∨ p0 = 12 ∨ ∃ a, a < 4 ∧ p2 = nI a)
    (hg : cr_fit p0 p1 p2 p3 → wX_emit_64 post p0 p1 p2 p3 f_lanes f_delay f_activeLength f_count f_issued a_vectors a_scalars a_cells a_ops a_xs a_ys a_zs a_takenLengths a_takenScalars a_begun a_finished a_results a_readyCycles) (hb : ¬ cr_fit p0 p1 p2 p3 → post (-1) (f_lanes, f_delay, f_activeLength, f_count, f_issued, a_vectors, a_scalars, a_cells, a_ops, a_xs, a_ys, a_zs, a_takenLengths, a_takenScalars, a_begun, a_finished, a_results, a_readyCycles)) : wX_emit_47 post p0 p1 p2 p3 f_lanes f_delay f_activeLength f_count f_issued a_vectors a_scalars a_cells a_ops a_xs a_ys a_zs a_takenLengths a_takenScalars a_begun a_finished a_results a_readyCycles := by
  unfold wX_emit_47 wpX_namesRegisterInZ
  have hask := (cr_ask p0 p1 p2 p3).2.2.2.2
  have reg : p0 ≤ 5 ∨ p0 = 11 → wpX_isRegister (fun r_19 => (r_19 = 0 → post (-1) (f_lanes, f_delay, f_activeLength, f_count, f_issued, a_vectors, a_scalars, a_cells, a_ops, a_xs, a_ys, a_zs, a_takenLengths, a_takenScalars, a_begun, a_finished, a_results, a_readyCycles)) ∧ (¬ r_19 = 0 → wX_emit_64 post p0 p1 p2 p3 f_lanes f_delay f_activeLength f_count f_issued a_vectors a_scalars a_cells a_ops a_xs a_ys a_zs a_takenLengths a_takenScalars a_begun a_finished a_results a_readyCycles)) p3 := fun q =>
    cr_regX p3 (fun a ha e => br_f (by decide) (hg (cr_get h0 h12 hx hy (Or.inr ⟨a, ha, e⟩)))) (fun e => br_t rfl (hb (hask q e)))
  exact br_c (fun q => br_f (by decide) (reg (Or.inl q))) (fun q => br_c (fun q' => br_f (by decide) (reg (Or.inr q'))) (fun q' => br_t rfl (hg (cr_get h0 h12 hx hy (Or.inl ⟨q, q'⟩)))))
theorem cr_emitX {post : Int32 → SX → Prop} {cn : Nat} {p0 p1 p2 p3 : Int32} (hcn : cn ≤ 16) (hf : cn = 16 → post (-2) (f_lanes, f_delay, f_activeLength, nI cn, f_issued, a_vectors, a_scalars, a_cells, a_ops, a_xs, a_ys, a_zs, a_takenLengths, a_takenScalars, a_begun, a_finished, a_results, a_readyCycles)) (hb : cn < 16 → ¬ cr_fit p0 p1 p2 p3 → post (-1) (f_lanes, f_delay, f_activeLength, nI cn, f_issued, a_vectors, a_scalars, a_cells, a_ops, a_xs, a_ys, a_zs, a_takenLengths, a_takenScalars, a_begun, a_finished, a_results, a_readyCycles))
    (hg : cn < 16 → cr_fit p0 p1 p2 p3 → post (nI (cn + 1)) (f_lanes, f_delay, f_activeLength, nI (cn + 1), f_issued, a_vectors, a_scalars, a_cells, upd a_ops cn p0, upd a_xs cn p1, upd a_ys cn p2, upd a_zs cn p3, a_takenLengths, a_takenScalars, a_begun, a_finished, a_results, a_readyCycles)) : wpX_emit post (f_lanes, f_delay, f_activeLength, nI cn, f_issued, a_vectors, a_scalars, a_cells, a_ops, a_xs, a_ys, a_zs, a_takenLengths, a_takenScalars, a_begun, a_finished, a_results, a_readyCycles) p0 p1 p2 p3 := by
  unfold wpX_emit
  dsimp only
  refine pk_lt cn 16 (fun h => ?_) (fun h => hf (by omega))
  have hb := hb h
  have hg := hg h
  obtain ⟨k1, k2, k3, k4, k5⟩ := cr_ask p0 p1 p2 p3
  have h64 : cr_fit p0 p1 p2 p3 → wX_emit_64 post p0 p1 p2 p3 f_lanes f_delay f_activeLength (nI cn) f_issued a_vectors a_scalars a_cells a_ops a_xs a_ys a_zs a_takenLengths a_takenScalars a_begun a_finished a_results a_readyCycles := fun q => by
    have hin : vp_in (nI cn) 16 := pk_in cn 16 h
    unfold wX_emit_64
    rw [nI_clamp (show cn < 2 ^ 31 by omega)]
    exact ⟨hin, nm_e ⟨hin, nm_e ⟨hin, nm_e ⟨hin, nm_e (nm_r (nI_1 cn) (hg q))⟩⟩⟩⟩
  refine br_c (fun q => hb (k1 q)) fun q0 => br_c (fun q => hb (k2 q)) fun q12 => ?_
  refine cr_regX p1 (fun a ha ea => br_f (by decide) ?_) (fun e => br_t rfl (hb (k3 e)))
  have h47 : (p0 = 10 ∨ p0 = 12 ∨ ∃ a, a < 4 ∧ p2 = nI a) → wX_emit_47 post p0 p1 p2 p3 f_lanes f_delay f_activeLength (nI cn) f_issued a_vectors a_scalars a_cells a_ops a_xs a_ys a_zs a_takenLengths a_takenScalars a_begun a_finished a_results a_readyCycles := fun q => cr_47X q0 q12 ⟨a, ha, ea⟩ q h64 hb
  unfold wpX_namesRegisterInY
  refine br_c (fun q => br_t rfl (h47 (Or.inl q))) fun q10 => br_c (fun q => br_t rfl (h47 (Or.inr (Or.inl q)))) fun q2 => br_f (by decide) ?_
  exact cr_regX p2 (fun a2 ha2 e => br_f (by decide) (h47 (Or.inr (Or.inr ⟨a2, ha2, e⟩)))) (fun e => br_t rfl (hb (k4 q10 q2 e)))
end
section
variable {f_length f_n : Int32} {a_vec a_sca a_mem a_op a_ax a_ay a_az : Nat → Int32}
theorem cr_regY {post : Int32 → Prop} (x : Int32) (h1 : ∀ a, a < 4 → x = nI a → post 1) (h0 : ¬ (∃ a, a < 4 ∧ x = nI a) → post 0) : wpY_isRegister post (f_length, f_n, a_vec, a_sca, a_mem, a_op, a_ax, a_ay, a_az) x := by
  unfold wpY_isRegister
  exact cr_iy x 3 (by decide) h1 h0
theorem cr_42Y {post : Int32 → Prop} {p0 p1 p2 p3 : Int32} (h0 : ¬ p0 < 0) (h12 : ¬ 12 < p0) (hx : ∃ a, a < 4 ∧ p1 = nI a) (hy : p0 = 10 ∨ p0 = 12 ∨ ∃ a, a < 4 ∧ p2 = nI a)
    (hg : cr_fit p0 p1 p2 p3 → post 1) (hb : ¬ cr_fit p0 p1 p2 p3 → post 0) : wY_fits_42 post p0 p3 f_length f_n a_vec a_sca a_mem a_op a_ax a_ay a_az := by
  have hask := (cr_ask p0 p1 p2 p3).2.2.2.2
  have reg : p0 ≤ 5 ∨ p0 = 11 → wY_fits_53 post p3 f_length f_n a_vec a_sca a_mem a_op a_ax a_ay a_az := fun q => by
    unfold wY_fits_53
    exact cr_regY p3 (fun a ha e => br_f (by decide) (hg (cr_get h0 h12 hx hy (Or.inr ⟨a, ha, e⟩)))) (fun e => br_t rfl (hb (hask q e)))
  exact br_c (fun q => reg (Or.inl q)) (fun q => br_c (fun q' => reg (Or.inr q')) (fun q' => hg (cr_get h0 h12 hx hy (Or.inl ⟨q, q'⟩))))
theorem cr_fitsY {post : Int32 → Prop} {p0 p1 p2 p3 : Int32} (hg : cr_fit p0 p1 p2 p3 → post 1) (hb : ¬ cr_fit p0 p1 p2 p3 → post 0) : wpY_fits post (f_length, f_n, a_vec, a_sca, a_mem, a_op, a_ax, a_ay, a_az) p0 p1 p2 p3 := by
  unfold wpY_fits
  dsimp only
  obtain ⟨k1, k2, k3, k4, k5⟩ := cr_ask p0 p1 p2 p3
  refine br_c (fun q => hb (k1 q)) fun q0 => br_c (fun q => hb (k2 q)) fun q12 => ?_
  refine cr_regY p1 (fun a ha ea => br_f (by decide) ?_) (fun e => br_t rfl (hb (k3 e)))
  have h42 : (p0 = 10 ∨ p0 = 12 ∨ ∃ a, a < 4 ∧ p2 = nI a) → wY_fits_42 post p0 p3 f_length f_n a_vec a_sca a_mem a_op a_ax a_ay a_az := fun q => cr_42Y q0 q12 ⟨a, ha, ea⟩ q hg hb
  refine br_c (fun q => h42 (Or.inl q)) fun q10 => br_c (fun q => h42 (Or.inr (Or.inl q))) fun q2 => ?_
  exact cr_regY p2 (fun a2 ha2 e => br_f (by decide) (h42 (Or.inr (Or.inr ⟨a2, ha2, e⟩)))) (fun e => br_t rfl (hb (k4 q10 q2 e)))
theorem cr_emitY {post : Int32 → SY → Prop} {cn : Nat} {p0 p1 p2 p3 : Int32} (hcn : cn ≤ 16) (hf : cn = 16 → post (-2) (f_length, nI cn, a_vec, a_sca, a_mem, a_op, a_ax, a_ay, a_az)) (hb : cn < 16 → ¬ cr_fit p0 p1 p2 p3 → post (-1) (f_length, nI cn, a_vec, a_sca, a_mem, a_op, a_ax, a_ay, a_az))
    (hg : cn < 16 → cr_fit p0 p1 p2 p3 → post (nI (cn + 1)) (f_length, nI (cn + 1), a_vec, a_sca, a_mem, upd a_op cn p0, upd a_ax cn p1, upd a_ay cn p2, upd a_az cn p3)) : wpY_emit post (f_length, nI cn, a_vec, a_sca, a_mem, a_op, a_ax, a_ay, a_az) p0 p1 p2 p3 := by
  unfold wpY_emit
  dsimp only
  refine pk_eq cn 16 hf fun h => ?_
  have hlt : cn < 16 := by omega
  have hin : vp_in (nI cn) 16 := pk_in cn 16 hlt
  rw [nI_clamp (show cn < 2 ^ 31 by omega)]
  exact cr_fitsY (fun q => br_f (by decide) ⟨hin, nm_e ⟨hin, nm_e ⟨hin, nm_e ⟨hin, nm_e (nm_r (nI_1 cn) (hg hlt q))⟩⟩⟩⟩) (fun q => br_t rfl (hb hlt q))
end
/-! clearing -/
def cr_z (N : Nat) (a : Nat → Int32) : Nat → Int32 := fun p => if p < N then 0 else a p
theorem cr_z_s (i : Nat) (a : Nat → Int32) : upd (cr_z i a) i 0 = cr_z (i + 1) a := by
  funext p
  by_cases q : p = i
  · subst q
    rw [pk_us]
    exact (if_pos (by omega)).symm
  · rw [pk_un q]
    unfold cr_z
    by_cases y : p < i
    · rw [if_pos y, if_pos (by omega)]
    · rw [if_neg y, if_neg (by omega)]
theorem cr_z_0 (a : Nat → Int32) : cr_z 0 a = a := funext fun p => if_neg (by omega)
theorem cr_z_z (N : Nat) : cr_z N (fun _ => 0) = fun _ => 0 := by
  funext p
  unfold cr_z
  split <;> rfl
section
variable {f_lanes f_delay f_activeLength f_count f_issued : Int32} {a_vectors a_scalars a_cells a_ops a_xs a_ys a_zs a_takenLengths a_takenScalars a_begun a_finished a_results a_readyCycles : Nat → Int32}
theorem cr_x43 {post : SX → Prop} (hp : post (f_lanes, f_delay, 16, 0, 0, a_vectors, a_scalars, cr_z 64 a_cells, a_ops, a_xs, a_ys, a_zs, a_takenLengths, a_takenScalars, a_begun, a_finished, a_results, a_readyCycles)) :
    ∀ d i w, i + d = 64 → d < w → wX_reset_43 post f_lanes f_delay f_activeLength f_count f_issued w (nI i) a_vectors a_scalars (cr_z i a_cells) a_ops a_xs a_ys a_zs a_takenLengths a_takenScalars a_begun a_finished a_results a_readyCycles := by
  intro d
  induction d with
  | zero =>
    intro i w hd hw
    obtain ⟨w, rfl⟩ : ∃ v, w = v + 1 := ⟨w - 1, by omega⟩
    have e : i = 64 := by omega
    subst e
    exact br_t (nI_le (a := 64) (by omega) (by omega)) hp
  | succ d ih =>
    intro i w hd hw
    obtain ⟨w, rfl⟩ : ∃ v, w = v + 1 := ⟨w - 1, by omega⟩
    refine br_f (nI_ge (b := 64) (by omega) (by omega)) ⟨pk_in i 64 (by omega), ?_⟩
    rw [nI_clamp (show i < 2 ^ 31 by omega), cr_z_s]
    exact nm_e (nm_r (nI_1 i) (ih (i + 1) w (by omega) (by omega)))
theorem cr_x23 {post : SX → Prop} (hp : post (f_lanes, f_delay, 16, 0, 0, a_vectors, cr_z 4 a_scalars, cr_z 64 a_cells, a_ops, a_xs, a_ys, a_zs, a_takenLengths, a_takenScalars, a_begun, a_finished, a_results, a_readyCycles)) :
    ∀ d i w, i + d = 4 → d < w → wX_reset_23 post f_lanes f_delay f_activeLength f_count f_issued w (nI i) a_vectors (cr_z i a_scalars) a_cells a_ops a_xs a_ys a_zs a_takenLengths a_takenScalars a_begun a_finished a_results a_readyCycles := by
  intro d
  induction d with
  | zero =>
    intro i w hd hw
    obtain ⟨w, rfl⟩ : ∃ v, w = v + 1 := ⟨w - 1, by omega⟩
    have e : i = 4 := by omega
    subst e
    have k := cr_x43 (f_activeLength := f_activeLength) (f_count := f_count) (f_issued := f_issued) hp 64 0 65 (by omega) (by omega)
    rw [cr_z_0] at k
    exact br_t (nI_le (a := 4) (by omega) (by omega)) ⟨65, k⟩
  | succ d ih =>
    intro i w hd hw
    obtain ⟨w, rfl⟩ : ∃ v, w = v + 1 := ⟨w - 1, by omega⟩
    refine br_f (nI_ge (b := 4) (by omega) (by omega)) ⟨pk_in i 4 (by omega), ?_⟩
    rw [nI_clamp (show i < 2 ^ 31 by omega), cr_z_s]
    exact nm_e (nm_r (nI_1 i) (ih (i + 1) w (by omega) (by omega)))
theorem cr_x2 {post : SX → Prop} (hp : post (f_lanes, f_delay, 16, 0, 0, cr_z 64 a_vectors, cr_z 4 a_scalars, cr_z 64 a_cells, a_ops, a_xs, a_ys, a_zs, a_takenLengths, a_takenScalars, a_begun, a_finished, a_results, a_readyCycles)) :
    ∀ d i w, i + d = 64 → d < w → wX_reset_2 post f_lanes f_delay f_activeLength f_count f_issued w (nI i) (cr_z i a_vectors) a_scalars a_cells a_ops a_xs a_ys a_zs a_takenLengths a_takenScalars a_begun a_finished a_results a_readyCycles := by
  intro d
  induction d with
  | zero =>
    intro i w hd hw
    obtain ⟨w, rfl⟩ : ∃ v, w = v + 1 := ⟨w - 1, by omega⟩
    have e : i = 64 := by omega
    subst e
    have k := cr_x23 (f_activeLength := f_activeLength) (f_count := f_count) (f_issued := f_issued) hp 4 0 5 (by omega) (by omega)
    rw [cr_z_0] at k
    exact br_t (nI_le (a := 64) (by omega) (by omega)) ⟨5, k⟩
  | succ d ih =>
    intro i w hd hw
    obtain ⟨w, rfl⟩ : ∃ v, w = v + 1 := ⟨w - 1, by omega⟩
    refine br_f (nI_ge (b := 64) (by omega) (by omega)) ⟨pk_in i 64 (by omega), ?_⟩
    rw [nI_clamp (show i < 2 ^ 31 by omega), cr_z_s]
    exact nm_e (nm_r (nI_1 i) (ih (i + 1) w (by omega) (by omega)))
theorem cr_reset {post : SX → Prop} (hp : post (f_lanes, f_delay, 16, 0, 0, cr_z 64 a_vectors, cr_z 4 a_scalars, cr_z 64 a_cells, a_ops, a_xs, a_ys, a_zs, a_takenLengths, a_takenScalars, a_begun, a_finished, a_results, a_readyCycles)) : wpX_reset post (f_lanes, f_delay, f_activeLength, f_count, f_issued, a_vectors, a_scalars, a_cells, a_ops, a_xs, a_ys, a_zs, a_takenLengths, a_takenScalars, a_begun, a_finished, a_results, a_readyCycles) := by
  have k := cr_x2 (f_activeLength := f_activeLength) (f_count := f_count) (f_issued := f_issued) hp 64 0 65 (by omega) (by omega)
  rw [cr_z_0] at k
  unfold wpX_reset
  exact ⟨65, k⟩
end
section
variable {f_length f_n : Int32} {a_vec a_sca a_mem a_op a_ax a_ay a_az : Nat → Int32}
theorem cr_y41 {post : SY → Prop} (hp : post (f_length, f_n, a_vec, cr_z 4 a_sca, a_mem, a_op, a_ax, a_ay, a_az)) :
    ∀ d i w, i + d = 4 → d < w → wY_clear_41 post f_length f_n w (nI i) a_vec (cr_z i a_sca) a_mem a_op a_ax a_ay a_az := by
  intro d
  induction d with
  | zero =>
    intro i w hd hw
    obtain ⟨w, rfl⟩ : ∃ v, w = v + 1 := ⟨w - 1, by omega⟩
    have e : i = 4 := by omega
    subst e
    exact br_t (nI_le (a := 4) (by omega) (by omega)) hp
  | succ d ih =>
    intro i w hd hw
    obtain ⟨w, rfl⟩ : ∃ v, w = v + 1 := ⟨w - 1, by omega⟩
    refine br_f (nI_ge (b := 4) (by omega) (by omega)) ⟨pk_in i 4 (by omega), ?_⟩
    rw [nI_clamp (show i < 2 ^ 31 by omega), cr_z_s]
    exact nm_e (nm_r (nI_1 i) (ih (i + 1) w (by omega) (by omega)))
theorem cr_y13 {post : SY → Prop} (hp : post (f_length, f_n, cr_z 64 a_vec, cr_z 4 a_sca, cr_z 64 a_mem, a_op, a_ax, a_ay, a_az)) :
    ∀ d i w, i + d = 64 → d < w → wY_clear_13 post f_length f_n w (nI i) (cr_z i a_vec) a_sca (cr_z i a_mem) a_op a_ax a_ay a_az := by
  intro d
  induction d with
  | zero =>
    intro i w hd hw
    obtain ⟨w, rfl⟩ : ∃ v, w = v + 1 := ⟨w - 1, by omega⟩
    have e : i = 64 := by omega
    subst e
    have k := cr_y41 hp 4 0 5 (by omega) (by omega)
    rw [cr_z_0] at k
    exact br_t (nI_le (a := 64) (by omega) (by omega)) ⟨5, k⟩
  | succ d ih =>
    intro i w hd hw
    obtain ⟨w, rfl⟩ : ∃ v, w = v + 1 := ⟨w - 1, by omega⟩
    refine br_f (nI_ge (b := 64) (by omega) (by omega)) ⟨pk_in i 64 (by omega), ?_⟩
    rw [nI_clamp (show i < 2 ^ 31 by omega), cr_z_s, cr_z_s]
    exact nm_e ⟨pk_in i 64 (by omega), nm_e (nm_r (nI_1 i) (ih (i + 1) w (by omega) (by omega)))⟩
theorem cr_clearY {post : SY → Prop} (hp : post (16, 0, cr_z 64 a_vec, cr_z 4 a_sca, cr_z 64 a_mem, a_op, a_ax, a_ay, a_az)) : wpY_clear post (f_length, f_n, a_vec, a_sca, a_mem, a_op, a_ax, a_ay, a_az) := by
  have k := cr_y13 hp 64 0 65 (by omega) (by omega)
  rw [cr_z_0, cr_z_0] at k
  unfold wpY_clear
  exact ⟨65, k⟩
end
theorem cr_clamp {post : Int32 → Prop} (p : Int32) (a b : Nat) (ha : a ≤ b) (hb : b < 2 ^ 31) (hp : ∀ m, a ≤ m → m ≤ b → post (nI m)) : wpX_clamp post p (nI a) (nI b) := by
  unfold wpX_clamp
  by_cases h : nI a ≤ p
  · refine br_t h ?_
    have h0 : ¬ p < 0 := Int32.not_lt.mpr (Int32.le_trans (nI_pos' (by omega)) h)
    obtain ⟨m, hm, rfl⟩ := nI_of h0
    have h1 := (nI_leI (by omega) hm).mp h
    exact pk_le m b (fun h2 => hp m h1 h2) (fun h2 => hp b ha (by omega))
  · exact br_f h (hp a (by omega) ha)
