/-! X's readers: elements, waiting -/
theorem cx_ix (a i : Nat) : nI a * 16 + nI i = nI (16 * a + i) := by
  rw [show (16 : Int32) = nI 16 from rfl, pk_mul, nI_add]
  exact congrArg nI (by omega)
theorem cx_and (x : Int32) : vp_in (x &&& 63) 64 := pk_andIn x 6 (by decide) (by decide)
def cx_ok (po px py pz : Nat → Int32) (G : cu_Pr) (n : Nat) : Prop :=
  ∀ j, j < n → cx_v (po j) (px j) (py j) (pz j) (cu_O G j) (cu_X G j) (cu_Y G j) (cu_Z G j) ∧ py j = cu_yi G j ∧ pz j = cu_zi G j
section
variable {f_lanes f_delay f_activeLength f_count f_issued : Int32} {a_vectors a_scalars a_cells a_ops a_xs a_ys a_zs a_takenLengths a_takenScalars a_begun a_finished a_results a_readyCycles : Nat → Int32}
theorem cx_cellOf {post : Int32 → Prop} {j i : Nat} (hj : j < 16) (hp : post ((a_takenScalars j + nI i * a_zs j) &&& 63)) : wpX_cellOf post (f_lanes, f_delay, f_activeLength, f_count, f_issued, a_vectors, a_scalars, a_cells, a_ops, a_xs, a_ys, a_zs, a_takenLengths, a_takenScalars, a_begun, a_finished, a_results, a_readyCycles) (nI j) (nI i) := by
  unfold wpX_cellOf
  dsimp only
  rw [nI_clamp (show j < 2 ^ 31 by omega)]
  exact ⟨pk_in j 16 hj, pk_in j 16 hj, hp⟩
theorem cx_arith {post : Int32 → Prop} {j i o x y z : Nat} {zi : Int32} (hj : j < 16) (hi : i < 16) (h : cx_v (a_ops j) (a_xs j) (a_ys j) (a_zs j) o x y z) (h5 : o ≤ 5) (hp : post (cu_res o x y z zi (a_takenScalars j) a_vectors a_cells i)) : wpX_arithmeticOf post (f_lanes, f_delay, f_activeLength, f_count, f_issued, a_vectors, a_scalars, a_cells, a_ops, a_xs, a_ys, a_zs, a_takenLengths, a_takenScalars, a_begun, a_finished, a_results, a_readyCycles) (nI j) (nI i) := by
  unfold wpX_arithmeticOf
  obtain ⟨ho, ho12, hx, hx4, hy, hz⟩ := h
  obtain ⟨hy1, hy2⟩ := hy (by omega) (by omega)
  obtain ⟨hz1, hz2⟩ := hz (by omega)
  dsimp only
  rw [nI_clamp (show j < 2 ^ 31 by omega), ho, hy1, hz1, cx_ix, cx_ix, nI_clamp (show 16 * y + i < 2 ^ 31 by omega), nI_clamp (show 16 * z + i < 2 ^ 31 by omega)]
  refine ⟨pk_in j 16 hj, pk_in (16 * y + i) 64 (by omega), nm_e ⟨pk_in j 16 hj, ?_⟩⟩
  refine pk_eq o 4 (fun e => ⟨pk_in j 16 hj, by subst e; exact hp⟩) fun e4 => ⟨pk_in j 16 hj, ?_⟩
  refine pk_eq o 5 (fun e => ⟨pk_in j 16 hj, by subst e; exact hp⟩) fun e5 => ⟨pk_in j 16 hj, pk_in (16 * z + i) 64 (by omega), nm_e ⟨pk_in j 16 hj, nm_e ?_⟩⟩
  refine pk_lt o 0 (fun h => absurd h (by omega)) fun _ => ?_
  refine pk_lt 2 o (fun h => ?_) fun h2 => ?_
  · have e : o = 3 := by omega
    subst e
    have hp' : post (cu_mx (a_vectors (16 * y + i)) (a_vectors (16 * z + i))) := hp
    unfold cu_mx at hp'
    exact br_c (fun c => by rw [if_pos c] at hp'; exact hp') (fun c => by rw [if_neg c] at hp'; exact hp')
  · refine pk_eq o 0 (fun e => by subst e; exact hp) fun e0 => ?_
    refine pk_eq o 1 (fun e => by subst e; exact hp) fun e1 => ?_
    exact pk_eq o 2 (fun e => by subst e; exact hp) (fun _ => trivial)
theorem cx_result {post : Int32 → Prop} {j i o x y z : Nat} (hj : j < 16) (hi : i < 16) (h : cx_v (a_ops j) (a_xs j) (a_ys j) (a_zs j) o x y z) (h9 : o ≤ 9) (hp : post (cu_res o x y z (a_zs j) (a_takenScalars j) a_vectors a_cells i)) : wpX_resultOf post (f_lanes, f_delay, f_activeLength, f_count, f_issued, a_vectors, a_scalars, a_cells, a_ops, a_xs, a_ys, a_zs, a_takenLengths, a_takenScalars, a_begun, a_finished, a_results, a_readyCycles) (nI j) (nI i) := by
  unfold wpX_resultOf
  have h' := h
  obtain ⟨ho, ho12, hx, hx4, hy, hz⟩ := h
  obtain ⟨hy1, hy2⟩ := hy (by omega) (by omega)
  dsimp only
  rw [nI_clamp (show j < 2 ^ 31 by omega), ho, hx, hy1, cx_ix, cx_ix, nI_clamp (show 16 * y + i < 2 ^ 31 by omega), nI_clamp (show 16 * x + i < 2 ^ 31 by omega)]
  refine ⟨pk_in j 16 hj, nm_e ?_⟩
  refine pk_lt o 6 (fun h5 => cx_arith hj hi h' (by omega) hp) fun h6 => ?_
  refine pk_lt 9 o (fun h => absurd h (by omega)) fun _ => ?_
  refine pk_eq o 6 (fun e => cx_cellOf hj ⟨cx_and _, by subst e; exact hp⟩) fun e6 => ?_
  refine pk_eq o 7 (fun e => ⟨pk_in j 16 hj, pk_in (16 * x + i) 64 (by omega), by subst e; exact hp⟩) fun e7 => ?_
  refine pk_eq o 8 (fun e => ⟨pk_in j 16 hj, pk_in (16 * y + i) 64 (by omega), cx_and _, by subst e; exact hp⟩) fun e8 => ?_
  exact pk_eq o 9 (fun e => ⟨pk_in j 16 hj, pk_in (16 * y + i) 64 (by omega), by subst e; exact hp⟩) (fun _ => trivial)
theorem cx_h65 {post : Int32 → Prop} {e j i o x y z o' x' y' z' be : Nat} (he : e < 16) (hj : j < 16) (hi : i < 16) (ve : cx_v (a_ops e) (a_xs e) (a_ys e) (a_zs e) o x y z) (vj : cx_v (a_ops j) (a_xs j) (a_ys j) (a_zs j) o' x' y' z')
    (hB : a_begun e = nI be) (hbe : be ≤ 16) (h0 : (cu_wr o' → cu_rd o x y z x' → i < be) → post 0) (h1 : ¬ (cu_wr o' → cu_rd o x y z x' → i < be) → post 1) : wX_holdsBack_65 post (nI e) (nI j) (nI i) f_lanes f_delay f_activeLength f_count f_issued a_vectors a_scalars a_cells a_ops a_xs a_ys a_zs a_takenLengths a_takenScalars a_begun a_finished a_results a_readyCycles := by
  unfold wX_holdsBack_65
  rw [nI_clamp (show j < 2 ^ 31 by omega), nI_clamp (show e < 2 ^ 31 by omega), hB, vj.1, vj.2.2.1]
  have hx4 := vj.2.2.2.1
  refine ⟨pk_in e 16 he, pk_lt i be (fun h => h0 (fun _ _ => h)) fun h => ⟨pk_in j 16 hj, ?_⟩⟩
  refine cx_writes vj.2.1 (fun w => br_f (by decide) ⟨pk_in j 16 hj, ?_⟩) (fun w => br_t rfl (h0 (fun q => absurd q w)))
  exact cx_reads he hx4 ve (fun r => br_f (by decide) (h1 (fun q => absurd (q w r) (by omega)))) (fun r => br_t rfl (h0 (fun _ q => absurd q r)))
theorem cx_holds {post : Int32 → Prop} {e j i o x y z o' x' y' z' be fe : Nat} (he : e < 16) (hj : j < 16) (hi : i < 16) (ve : cx_v (a_ops e) (a_xs e) (a_ys e) (a_zs e) o x y z) (vj : cx_v (a_ops j) (a_xs j) (a_ys j) (a_zs j) o' x' y' z')
    (hB : a_begun e = nI be) (hbe : be ≤ 16) (hF : a_finished e = nI fe) (hfe : fe ≤ 16)
    (h0 : (cu_wr o → (cu_rd o' x' y' z' x ∨ (cu_wr o' ∧ x' = x)) → i < fe) ∧ (cu_wr o' → cu_rd o x y z x' → i < be) → post 0)
    (h1 : ¬ ((cu_wr o → (cu_rd o' x' y' z' x ∨ (cu_wr o' ∧ x' = x)) → i < fe) ∧ (cu_wr o' → cu_rd o x y z x' → i < be)) → post 1) : wpX_holdsBack post (f_lanes, f_delay, f_activeLength, f_count, f_issued, a_vectors, a_scalars, a_cells, a_ops, a_xs, a_ys, a_zs, a_takenLengths, a_takenScalars, a_begun, a_finished, a_results, a_readyCycles) (nI e) (nI j) (nI i) := by
  have r65 : (cu_wr o → (cu_rd o' x' y' z' x ∨ (cu_wr o' ∧ x' = x)) → i < fe) → wX_holdsBack_65 post (nI e) (nI j) (nI i) f_lanes f_delay f_activeLength f_count f_issued a_vectors a_scalars a_cells a_ops a_xs a_ys a_zs a_takenLengths a_takenScalars a_begun a_finished a_results a_readyCycles := fun hA => cx_h65 he hj hi ve vj hB hbe (fun hb => h0 ⟨hA, hb⟩) (fun hb => h1 (fun q => hb q.2))
  unfold wpX_holdsBack
  dsimp only
  rw [nI_clamp (show j < 2 ^ 31 by omega), nI_clamp (show e < 2 ^ 31 by omega), hF, ve.1, vj.1, ve.2.2.1, vj.2.2.1]
  have hx4 := ve.2.2.2.1
  have hx4' := vj.2.2.2.1
  refine ⟨pk_in e 16 he, pk_lt i fe (fun h => r65 (fun _ _ => h)) fun h => ⟨pk_in e 16 he, ?_⟩⟩
  refine cx_writes ve.2.1 (fun w => br_f (by decide) ⟨pk_in e 16 he, nm_e ?_⟩) (fun w => br_t rfl (r65 (fun q => absurd q w)))
  refine cx_reads hj hx4 vj (fun r => br_f (by decide) (h1 (fun q => absurd (q.1 w (Or.inl r)) (by omega)))) (fun r => br_t rfl ⟨pk_in j 16 hj, ?_⟩)
  refine cx_writes vj.2.1 (fun w' => br_f (by decide) ⟨pk_in j 16 hj, ?_⟩) (fun w' => br_t rfl (r65 (fun _ q => q.elim (fun a => absurd a r) (fun a => absurd a.1 w'))))
  exact pk_eq x' x (fun q => h1 (fun a => absurd (a.1 w (Or.inr ⟨w', q⟩)) (by omega))) (fun q => r65 (fun _ a => a.elim (fun a => absurd a r) (fun a => absurd a.2 q)))
theorem cx_mwb2 {post : Int32 → Prop} {G : cu_Pr} {n j i : Nat} {b f : Nat → Nat} (hn : n ≤ 16) (hj : j < n) (hi : i < 16) (hok : cx_ok a_ops a_xs a_ys a_zs G n) (hA : cu_A G n b f a_takenLengths a_takenScalars a_begun a_finished)
    (hb : ∀ k, k < n → f k ≤ b k ∧ b k ≤ cu_T G k) (hT : ∀ k, cu_T G k ≤ 16)
    (h0 : (∀ e, e < j → i < cu_T G e → cu_go G b f e j i) → post 0) (h1 : (∃ e, e < j ∧ i < cu_T G e ∧ ¬ cu_go G b f e j i) → post 1) :
    ∀ d e w, e + d = j → d < w → (∀ k, k < e → i < cu_T G k → cu_go G b f k j i) → wX_mustWaitToBegin_2 post (nI j) (nI i) f_lanes f_delay f_activeLength f_count f_issued a_vectors a_scalars a_cells a_ops a_xs a_ys a_zs a_takenLengths a_takenScalars a_begun a_finished a_results a_readyCycles w (nI e) := by
  intro d
  induction d with
  | zero =>
    intro e w he hw hk
    obtain ⟨w, rfl⟩ : ∃ v, w = v + 1 := ⟨w - 1, by omega⟩
    exact br_t (nI_le (by omega) (by omega)) (h0 (fun k h => hk k (by omega)))
  | succ d ih =>
    intro e w he hw hk
    obtain ⟨w, rfl⟩ : ∃ v, w = v + 1 := ⟨w - 1, by omega⟩
    obtain ⟨a1, a2, a3, a4⟩ := hA e (by omega)
    have hbe := hb e (by omega)
    have hTe := hT e
    have nx : (i < cu_T G e → cu_go G b f e j i) → ∀ v, v = nI e + 1 → wX_mustWaitToBegin_2 post (nI j) (nI i) f_lanes f_delay f_activeLength f_count f_issued a_vectors a_scalars a_cells a_ops a_xs a_ys a_zs a_takenLengths a_takenScalars a_begun a_finished a_results a_readyCycles w v := fun hg v hv => by
      rw [hv, nI_1]
      exact ih (e + 1) w (by omega) (by omega) (lt_s hk hg)
    refine br_f (nI_ge (by omega) (by omega)) ⟨pk_in e 16 (by omega), ?_⟩
    rw [nI_clamp (show e < 2 ^ 31 by omega), a1]
    refine pk_le (cu_T G e) i (fun h => nx (fun q => absurd q (by omega))) fun h => ?_
    exact cx_holds (by omega) (by omega) hi (hok e (by omega)).1 (hok j hj).1 a3 (by omega) a4 (by omega)
      (fun g => br_t rfl (nx (fun _ => g))) (fun g => br_f (by decide) (h1 ⟨e, by omega, h, g⟩))
theorem cx_mwb {post : Int32 → Prop} {G : cu_Pr} {n j i : Nat} {b f : Nat → Nat} (hn : n ≤ 16) (hj : j < n) (hi : i < 16) (hok : cx_ok a_ops a_xs a_ys a_zs G n) (hA : cu_A G n b f a_takenLengths a_takenScalars a_begun a_finished)
    (hb : ∀ k, k < n → f k ≤ b k ∧ b k ≤ cu_T G k) (hT : ∀ k, cu_T G k ≤ 16)
    (h0 : (∀ e, e < j → i < cu_T G e → cu_go G b f e j i) → post 0) (h1 : (∃ e, e < j ∧ i < cu_T G e ∧ ¬ cu_go G b f e j i) → post 1) : wpX_mustWaitToBegin post (f_lanes, f_delay, f_activeLength, f_count, f_issued, a_vectors, a_scalars, a_cells, a_ops, a_xs, a_ys, a_zs, a_takenLengths, a_takenScalars, a_begun, a_finished, a_results, a_readyCycles) (nI j) (nI i) := by
  unfold wpX_mustWaitToBegin
  exact ⟨j + 1, cx_mwb2 hn hj hi hok hA hb hT h0 h1 j 0 (j + 1) (by omega) (by omega) (fun k h => absurd h (by omega))⟩
theorem cx_inf {post : Int32 → Prop} {G : cu_Pr} {n j : Nat} {b f : Nat → Nat} (hn : n ≤ 16) (hj : j < n) (hA : cu_A G n b f a_takenLengths a_takenScalars a_begun a_finished) (hb : ∀ k, k < n → f k ≤ b k ∧ b k ≤ cu_T G k) (hT : ∀ k, cu_T G k ≤ 16)
    (h0 : f j = cu_T G j → post 0) (h1 : f j < cu_T G j → post 1) : wpX_isInFlight post (f_lanes, f_delay, f_activeLength, f_count, f_issued, a_vectors, a_scalars, a_cells, a_ops, a_xs, a_ys, a_zs, a_takenLengths, a_takenScalars, a_begun, a_finished, a_results, a_readyCycles) (nI j) := by
  obtain ⟨a1, a2, a3, a4⟩ := hA j hj
  have hbe := hb j hj
  have hTe := hT j
  unfold wpX_isInFlight
  dsimp only
  rw [nI_clamp (show j < 2 ^ 31 by omega), a1, a4]
  exact ⟨pk_in j 16 (by omega), pk_in j 16 (by omega), pk_le (cu_T G j) (f j) (fun h => h0 (by omega)) h1⟩
theorem cx_done2 {post : Int32 → Prop} {G : cu_Pr} {n : Nat} {b f : Nat → Nat} (hn : n ≤ 16) (hA : cu_A G n b f a_takenLengths a_takenScalars a_begun a_finished) (hb : ∀ k, k < n → f k ≤ b k ∧ b k ≤ cu_T G k) (hT : ∀ k, cu_T G k ≤ 16)
    (h1 : (∀ k, k < n → f k = cu_T G k) → post 1) (h0 : (∃ k, k < n ∧ f k < cu_T G k) → post 0) :
    ∀ d e w, e + d = n → d < w → (∀ k, k < e → f k = cu_T G k) → wX_isProgramDone_15 post f_lanes f_delay f_activeLength f_count (nI n) a_vectors a_scalars a_cells a_ops a_xs a_ys a_zs a_takenLengths a_takenScalars a_begun a_finished a_results a_readyCycles w (nI e) := by
  intro d
  induction d with
  | zero =>
    intro e w he hw hk
    obtain ⟨w, rfl⟩ : ∃ v, w = v + 1 := ⟨w - 1, by omega⟩
    exact br_t (nI_le (by omega) (by omega)) (h1 (fun k h => hk k (by omega)))
  | succ d ih =>
    intro e w he hw hk
    obtain ⟨w, rfl⟩ : ∃ v, w = v + 1 := ⟨w - 1, by omega⟩
    refine br_f (nI_ge (by omega) (by omega)) ?_
    refine cx_inf hn (show e < n by omega) hA hb hT (fun h => br_t rfl fun v hv => ?_) (fun h => br_f (by decide) (h0 ⟨e, by omega, h⟩))
    rw [hv, nI_1]
    exact ih (e + 1) w (by omega) (by omega) (lt_s hk h)
theorem cx_done {post : Int32 → Prop} {G : cu_Pr} {n c : Nat} {b f : Nat → Nat} (hn : n ≤ c) (hc : c ≤ 16) (hA : cu_A G n b f a_takenLengths a_takenScalars a_begun a_finished) (hb : ∀ k, k < n → f k ≤ b k ∧ b k ≤ cu_T G k) (hT : ∀ k, cu_T G k ≤ 16)
    (h1 : n = c → (∀ k, k < n → f k = cu_T G k) → post 1) (h0 : ¬ (n = c ∧ ∀ k, k < n → f k = cu_T G k) → post 0) : wpX_isProgramDone post (f_lanes, f_delay, f_activeLength, nI c, nI n, a_vectors, a_scalars, a_cells, a_ops, a_xs, a_ys, a_zs, a_takenLengths, a_takenScalars, a_begun, a_finished, a_results, a_readyCycles) := by
  unfold wpX_isProgramDone
  dsimp only
  refine pk_le c n (fun h => ⟨n + 1, ?_⟩) (fun h => h0 (by omega))
  exact cx_done2 (by omega) hA hb hT (h1 (by omega)) (fun ⟨k, hk, hlt⟩ => h0 (fun q => by have := q.2 k hk; omega)) n 0 (n + 1) (by omega) (by omega) (fun k h => absurd h (by omega))
theorem cx_clS {post : Int32 → Prop} {e j o x y z o' x' y' z' : Nat} (he : e < 16) (hj : j < 16) (ve : cx_v (a_ops e) (a_xs e) (a_ys e) (a_zs e) o x y z) (vj : cx_v (a_ops j) (a_xs j) (a_ys j) (a_zs j) o' x' y' z')
    (h1 : o = 9 → cu_nm o' x' y' z' x → post 1) (h0 : ¬ (o = 9 ∧ cu_nm o' x' y' z' x) → post 0) : wpX_clashesOverScalar post (f_lanes, f_delay, f_activeLength, f_count, f_issued, a_vectors, a_scalars, a_cells, a_ops, a_xs, a_ys, a_zs, a_takenLengths, a_takenScalars, a_begun, a_finished, a_results, a_readyCycles) (nI e) (nI j) := by
  unfold wpX_clashesOverScalar
  dsimp only
  rw [nI_clamp (show e < 2 ^ 31 by omega), ve.1, ve.2.2.1]
  have h12 := ve.2.1
  refine ⟨pk_in e 16 he, pk_eq o 9 (fun h => ⟨pk_in e 16 he, ?_⟩) (fun h => h0 (fun q => h q.1))⟩
  exact cx_names hj ve.2.2.2.1 vj (fun r => br_f (by decide) (h1 h r)) (fun r => br_t rfl (h0 (fun q => r q.2)))
theorem cx_clM {post : Int32 → Prop} {e j o x y z o' x' y' z' : Nat} (he : e < 16) (hj : j < 16) (ve : cx_v (a_ops e) (a_xs e) (a_ys e) (a_zs e) o x y z) (vj : cx_v (a_ops j) (a_xs j) (a_ys j) (a_zs j) o' x' y' z')
    (h1 : cu_mc o o' → post 1) (h0 : ¬ cu_mc o o' → post 0) : wpX_clashesOverMemory post (f_lanes, f_delay, f_activeLength, f_count, f_issued, a_vectors, a_scalars, a_cells, a_ops, a_xs, a_ys, a_zs, a_takenLengths, a_takenScalars, a_begun, a_finished, a_results, a_readyCycles) (nI e) (nI j) := by
  unfold wpX_clashesOverMemory
  dsimp only
  rw [nI_clamp (show e < 2 ^ 31 by omega), nI_clamp (show j < 2 ^ 31 by omega), ve.1, vj.1]
  have h12 := ve.2.1
  have h12' := vj.2.1
  refine ⟨pk_in e 16 he, cx_usesM h12 (fun m => br_f (by decide) ⟨pk_in j 16 hj, ?_⟩) (fun m => br_t rfl (h0 (fun q => m q.1)))⟩
  refine cx_usesM h12' (fun m' => br_f (by decide) ⟨pk_in e 16 he, ?_⟩) (fun m' => br_t rfl (h0 (fun q => m' q.2.1)))
  refine pk_eq o 7 (fun h => h1 ⟨m, m', Or.inl h⟩) fun h => ⟨pk_in j 16 hj, ?_⟩
  exact pk_eq o' 7 (fun h' => h1 ⟨m, m', Or.inr h'⟩) (fun h' => h0 (fun q => q.2.2.elim h h'))
theorem cx_mwi2 {post : Int32 → Prop} {G : cu_Pr} {n : Nat} {b f : Nat → Nat} (hn : n < 16) (hok : cx_ok a_ops a_xs a_ys a_zs G (n + 1)) (hA : cu_A G n b f a_takenLengths a_takenScalars a_begun a_finished) (hb : ∀ k, k < n → f k ≤ b k ∧ b k ≤ cu_T G k) (hT : ∀ k, cu_T G k ≤ 16)
    (h0 : (∀ e, e < n → cu_O G e = 9 → cu_nM G n (cu_X G e) → f e = cu_T G e) → (∀ e, e < n → cu_mc (cu_O G e) (cu_O G n) → f e = cu_T G e) → post 0) (h1 : (∃ e, e < n ∧ f e < cu_T G e) → post 1) :
    ∀ d e w, e + d = n → d < w → (∀ k, k < e → cu_O G k = 9 → cu_nM G n (cu_X G k) → f k = cu_T G k) → (∀ k, k < e → cu_mc (cu_O G k) (cu_O G n) → f k = cu_T G k) → wX_mustWaitToIssue_2 post (nI n) f_lanes f_delay f_activeLength f_count f_issued a_vectors a_scalars a_cells a_ops a_xs a_ys a_zs a_takenLengths a_takenScalars a_begun a_finished a_results a_readyCycles w (nI e) := by
  intro d
  induction d with
  | zero =>
    intro e w he hw hk hm
    obtain ⟨w, rfl⟩ : ∃ v, w = v + 1 := ⟨w - 1, by omega⟩
    exact br_t (nI_le (by omega) (by omega)) (h0 (fun k h => hk k (by omega)) (fun k h => hm k (by omega)))
  | succ d ih =>
    intro e w he hw hk hm
    obtain ⟨w, rfl⟩ : ∃ v, w = v + 1 := ⟨w - 1, by omega⟩
    have nx : (cu_O G e = 9 → cu_nM G n (cu_X G e) → f e = cu_T G e) → (cu_mc (cu_O G e) (cu_O G n) → f e = cu_T G e) → ∀ v, v = nI e + 1 → wX_mustWaitToIssue_2 post (nI n) f_lanes f_delay f_activeLength f_count f_issued a_vectors a_scalars a_cells a_ops a_xs a_ys a_zs a_takenLengths a_takenScalars a_begun a_finished a_results a_readyCycles w v := fun g1 g2 v hv => by
      rw [hv, nI_1]
      exact ih (e + 1) w (by omega) (by omega) (lt_s hk g1) (lt_s hm g2)
    refine br_f (nI_ge (by omega) (by omega)) ?_
    refine cx_inf (by omega) (show e < n by omega) hA hb hT (fun h => br_t rfl (nx (fun _ _ => h) (fun _ => h))) (fun h => br_f (by decide) ?_)
    refine cx_clS (by omega) hn (hok e (by omega)).1 (hok n (by omega)).1 (fun _ _ => br_f (by decide) (h1 ⟨e, by omega, h⟩)) (fun g1 => br_t rfl ?_)
    exact cx_clM (by omega) hn (hok e (by omega)).1 (hok n (by omega)).1 (fun _ => br_f (by decide) (h1 ⟨e, by omega, h⟩)) (fun g2 => br_t rfl (nx (fun q1 q2 => absurd ⟨q1, q2⟩ g1) (fun q => absurd q g2)))
theorem cx_mwi {post : Int32 → Prop} {G : cu_Pr} {n : Nat} {b f : Nat → Nat} (hn : n < 16) (hok : cx_ok a_ops a_xs a_ys a_zs G (n + 1)) (hA : cu_A G n b f a_takenLengths a_takenScalars a_begun a_finished) (hb : ∀ k, k < n → f k ≤ b k ∧ b k ≤ cu_T G k) (hT : ∀ k, cu_T G k ≤ 16)
    (h0 : (∀ e, e < n → cu_O G e = 9 → cu_nM G n (cu_X G e) → f e = cu_T G e) → (∀ e, e < n → cu_mc (cu_O G e) (cu_O G n) → f e = cu_T G e) → post 0) (h1 : (∃ e, e < n ∧ f e < cu_T G e) → post 1) : wpX_mustWaitToIssue post (f_lanes, f_delay, f_activeLength, f_count, f_issued, a_vectors, a_scalars, a_cells, a_ops, a_xs, a_ys, a_zs, a_takenLengths, a_takenScalars, a_begun, a_finished, a_results, a_readyCycles) (nI n) := by
  unfold wpX_mustWaitToIssue
  exact ⟨n + 1, cx_mwi2 hn hok hA hb hT h0 h1 n 0 (n + 1) (by omega) (by omega) (fun k h => absurd h (by omega)) (fun k h => absurd h (by omega))⟩
end
