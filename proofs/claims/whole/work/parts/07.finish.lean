/-! X's finishing of elements -/
def cu_K (G : cu_Pr) (n : Nat) (b f : Nat → Nat) (V S M TL TS B F RS RD : Nat → Int32) : Prop :=
  cu_I G n b f ∧ cu_D G n b f V S M RS ∧ cu_A G n b f TL TS B F ∧ cu_H n b f RD
theorem cu_Pb {G : cu_Pr} {n : Nat} {b f : Nat → Nat} (hI : cu_I G n b f) (hT : ∀ k, cu_T G k ≤ 16) (hn : n ≤ 16) : cu_P b f n ≤ 528 := by
  have := cu_P_le (b := b) (f := f) n (fun k hk => by have := hI.1 k hk; have := hT k; omega)
  omega
theorem cu_T9 {G : cu_Pr} {j i : Nat} (h : i < cu_T G j) : cu_O G j ≤ 9 := by
  unfold cu_T at h
  by_cases z : cu_O G j ≤ 9
  · exact z
  · rw [if_neg z] at h; omega
section
variable {f_lanes f_delay f_activeLength f_count f_issued : Int32} {a_vectors a_scalars a_cells a_ops a_xs a_ys a_zs a_takenLengths a_takenScalars a_begun a_finished a_results a_readyCycles : Nat → Int32}
theorem cx_deliver {post : SX → Prop} {G : cu_Pr} {n j : Nat} {b f : Nat → Nat} (hn : n ≤ 16) (hj : j < n) (hok : cx_ok a_ops a_xs a_ys a_zs G n) (hT : ∀ k, cu_T G k ≤ 16)
    (hI : cu_I G n b f) (hD : cu_D G n b f a_vectors a_scalars a_cells a_results) (hA : cu_A G n b f a_takenLengths a_takenScalars a_begun a_finished) (hi : f j < b j)
    (hp : ∀ V S M, cu_D G n b (cu_u f j (f j + 1)) V S M a_results → post (f_lanes, f_delay, f_activeLength, f_count, f_issued, V, S, M, a_ops, a_xs, a_ys, a_zs, a_takenLengths, a_takenScalars, a_begun, a_finished, a_results, a_readyCycles)) : wpX_deliver post (f_lanes, f_delay, f_activeLength, f_count, f_issued, a_vectors, a_scalars, a_cells, a_ops, a_xs, a_ys, a_zs, a_takenLengths, a_takenScalars, a_begun, a_finished, a_results, a_readyCycles) (nI j) (nI (f j)) := by
  have hb := (hI.1 j hj).2
  have hTj := hT j
  have h9 : cu_O G j ≤ 9 := cu_T9 (show f j < cu_T G j by omega)
  obtain ⟨⟨ho, ho12, hx, hx4, _, _⟩, hyi, hzi⟩ := hok j hj
  obtain ⟨_, a2, _, _⟩ := hA j hj
  unfold wpX_deliver
  dsimp only
  rw [cx_ix, nI_clamp (show 16 * j + f j < 2 ^ 31 by omega), nI_clamp (show j < 2 ^ 31 by omega), ho, hx, nI_clamp (show cu_X G j < 2 ^ 31 by omega), cx_ix, nI_clamp (show 16 * cu_X G j + f j < 2 ^ 31 by omega)]
  refine ⟨pk_in (16 * j + f j) 256 (by omega), nm_e ⟨pk_in j 16 (by omega), ?_⟩⟩
  refine pk_eq (cu_O G j) 7 (fun h => cx_cellOf (by omega) ⟨cx_and _, nm_e ?_⟩) fun h7 => ⟨pk_in j 16 (by omega), ?_⟩
  · have d := cu_D_m hI hD hj hi h
    unfold cu_ca at d
    rw [← a2, ← hzi] at d
    exact hp _ _ _ d
  refine pk_eq (cu_O G j) 9 (fun h => ⟨pk_in j 16 (by omega), pk_in (cu_X G j) 4 hx4, pk_in (cu_X G j) 4 hx4, nm_e (hp _ _ _ (cu_D_s hI hD hj hi h))⟩) fun hn9 => ?_
  exact ⟨pk_in j 16 (by omega), pk_in (16 * cu_X G j + f j) 64 (by omega), nm_e (hp _ _ _ (cu_D_v hI hD hj hi hTj (by unfold cu_wr; omega)))⟩
theorem cx_fin17 {post : SX → Prop} {J2 : Int32 → Int32 → Int32 → Int32 → Int32 → Int32 → (Nat → Int32) → (Nat → Int32) → (Nat → Int32) → (Nat → Int32) → (Nat → Int32) → (Nat → Int32) → (Nat → Int32) → (Nat → Int32) → (Nat → Int32) → (Nat → Int32) → (Nat → Int32) → (Nat → Int32) → (Nat → Int32) → Prop}
    {G : cu_Pr} {n j c : Nat} {b : Nat → Nat} (hn : n ≤ 16) (hj : j < n) (hc : c < 10000) (hok : cx_ok a_ops a_xs a_ys a_zs G n) (hT : ∀ k, cu_T G k ≤ 16)
    (hJ : ∀ f V S M F, cu_K G n b f V S M a_takenLengths a_takenScalars a_begun F a_results a_readyCycles → c ≤ 6 * cu_P b f n + 5 → (c + 1 ≤ 6 * cu_P b f n + 5 ∨ ∀ k, k < j + 1 → f k = b k) → J2 (nI (j + 1)) f_lanes f_delay f_activeLength f_count f_issued V S M a_ops a_xs a_ys a_zs a_takenLengths a_takenScalars a_begun F a_results a_readyCycles) :
    ∀ d w f V S M F, d = b j - f j → d < w → cu_K G n b f V S M a_takenLengths a_takenScalars a_begun F a_results a_readyCycles → c ≤ 6 * cu_P b f n + 5 → (c + 1 ≤ 6 * cu_P b f n + 5 ∨ ∀ k, k < j → f k = b k) →
      wX_finishElements_17 post J2 (nI c) (nI j) w (nI (f j)) f_lanes f_delay f_activeLength f_count f_issued V S M a_ops a_xs a_ys a_zs a_takenLengths a_takenScalars a_begun F a_results a_readyCycles := by
  intro d
  induction d with
  | zero =>
    intro w f V S M F hd hw hK h5 hp
    obtain ⟨w, rfl⟩ : ∃ v, w = v + 1 := ⟨w - 1, by omega⟩
    have hI := hK.1.1 j hj
    have hTj := hT j
    refine And.intro (pk_in j 16 (by omega)) ?_
    rw [nI_clamp (show j < 2 ^ 31 by omega), (hK.2.2.1 j hj).2.2.1]
    exact br_t (nI_le (by omega) (by omega)) (nm_r (nI_1 j) (hJ f V S M F hK h5 (hp.imp id (fun q => lt_s q (by omega)))))
  | succ d ih =>
    intro w f V S M F hd hw hK h5 hp
    obtain ⟨w, rfl⟩ : ∃ v, w = v + 1 := ⟨w - 1, by omega⟩
    have hI := hK.1.1 j hj
    have hTj := hT j
    have hPb := cu_Pb hK.1 hT hn
    obtain ⟨r, er, hr⟩ := hK.2.2.2 j (f j) hj (by omega) (by omega)
    refine And.intro (pk_in j 16 (by omega)) ?_
    rw [cx_ix, nI_clamp (show j < 2 ^ 31 by omega), (hK.2.2.1 j hj).2.2.1, nI_clamp (show 16 * j + f j < 2 ^ 31 by omega), er]
    refine br_f (nI_ge (by omega) (by omega)) ⟨pk_in (16 * j + f j) 256 (by omega), ?_⟩
    refine pk_lt c r (fun h => nm_r (nI_1 j) (hJ f V S M F hK h5 (Or.inl (by omega)))) fun h => ?_
    refine cx_deliver hn hj hok hT hK.1 hK.2.1 hK.2.2.1 (by omega) fun V' S' M' hD' => ?_
    refine ⟨pk_in j 16 (by omega), nm_e (nm_r (nI_1 (f j)) ?_)⟩
    have hP := cu_P_f (b := b) (f := f) n hj
    have key := ih w (cu_u f j (f j + 1)) V' S' M' (upd F j (nI (f j + 1))) (by rw [cu_us]; omega) (by omega) ⟨cu_I_f hK.1 hj (by omega), hD', cu_A_f hK.2.2.1, cu_H_f hK.2.2.2 hj⟩ (by omega) (Or.inl (by omega))
    rw [cu_us] at key
    rw [nI_1]
    exact key
theorem cx_fin2 {post : SX → Prop} {G : cu_Pr} {n c : Nat} {b : Nat → Nat} (hn : n ≤ 16) (hc : c < 10000) (hok : cx_ok a_ops a_xs a_ys a_zs G n) (hT : ∀ k, cu_T G k ≤ 16)
    (hp : ∀ f V S M F, cu_K G n b f V S M a_takenLengths a_takenScalars a_begun F a_results a_readyCycles → c ≤ 6 * cu_P b f n + 5 → (c + 1 ≤ 6 * cu_P b f n + 5 ∨ ∀ k, k < n → f k = b k) → post (f_lanes, f_delay, f_activeLength, f_count, nI n, V, S, M, a_ops, a_xs, a_ys, a_zs, a_takenLengths, a_takenScalars, a_begun, F, a_results, a_readyCycles)) :
    ∀ d j w f V S M F, j + d = n → d < w → cu_K G n b f V S M a_takenLengths a_takenScalars a_begun F a_results a_readyCycles → c ≤ 6 * cu_P b f n + 5 → (c + 1 ≤ 6 * cu_P b f n + 5 ∨ ∀ k, k < j → f k = b k) →
      wX_finishElements_2 post (nI c) w (nI j) f_lanes f_delay f_activeLength f_count (nI n) V S M a_ops a_xs a_ys a_zs a_takenLengths a_takenScalars a_begun F a_results a_readyCycles := by
  intro d
  induction d with
  | zero =>
    intro j w f V S M F hd hw hK h5 hq
    obtain ⟨w, rfl⟩ : ∃ v, w = v + 1 := ⟨w - 1, by omega⟩
    have e : j = n := by omega
    subst e
    exact br_t (nI_le (by omega) (by omega)) (hp f V S M F hK h5 hq)
  | succ d ih =>
    intro j w f V S M F hd hw hK h5 hq
    obtain ⟨w, rfl⟩ : ∃ v, w = v + 1 := ⟨w - 1, by omega⟩
    have hj : j < n := by omega
    refine br_f (nI_ge (by omega) (by omega)) ⟨pk_in j 16 (by omega), ?_⟩
    rw [nI_clamp (show j < 2 ^ 31 by omega), (hK.2.2.1 j hj).2.2.2]
    refine nm_e ⟨b j - f j + 1, ?_⟩
    exact cx_fin17 hn hj hc hok hT (fun f' V' S' M' F' hK' h5' hq' => ih (j + 1) w f' V' S' M' F' (by omega) (by omega) hK' h5' hq') (b j - f j) (b j - f j + 1) f V S M F rfl (by omega) hK h5 hq
theorem cx_fin {post : SX → Prop} {G : cu_Pr} {n c : Nat} {b f : Nat → Nat} (hn : n ≤ 16) (hc : c < 10000) (hok : cx_ok a_ops a_xs a_ys a_zs G n) (hT : ∀ k, cu_T G k ≤ 16)
    (hK : cu_K G n b f a_vectors a_scalars a_cells a_takenLengths a_takenScalars a_begun a_finished a_results a_readyCycles) (h5 : c ≤ 6 * cu_P b f n + 5)
    (hp : ∀ f V S M F, cu_K G n b f V S M a_takenLengths a_takenScalars a_begun F a_results a_readyCycles → c ≤ 6 * cu_P b f n + 5 → (c + 1 ≤ 6 * cu_P b f n + 5 ∨ ∀ k, k < n → f k = b k) → post (f_lanes, f_delay, f_activeLength, f_count, nI n, V, S, M, a_ops, a_xs, a_ys, a_zs, a_takenLengths, a_takenScalars, a_begun, F, a_results, a_readyCycles)) :
    wpX_finishElements post (f_lanes, f_delay, f_activeLength, f_count, nI n, a_vectors, a_scalars, a_cells, a_ops, a_xs, a_ys, a_zs, a_takenLengths, a_takenScalars, a_begun, a_finished, a_results, a_readyCycles) (nI c) := by
  unfold wpX_finishElements
  exact ⟨n + 1, cx_fin2 hn hc hok hT hp n 0 (n + 1) f _ _ _ _ (by omega) (by omega) hK h5 (Or.inr (fun k h => absurd h (by omega)))⟩
end
