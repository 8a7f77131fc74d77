/-! X's beginning of elements -/
section
variable {f_lanes f_delay f_activeLength f_count f_issued : Int32} {a_vectors a_scalars a_cells a_ops a_xs a_ys a_zs a_takenLengths a_takenScalars a_begun a_finished a_results a_readyCycles : Nat → Int32}
theorem cx_beg12 {post : SX → Prop} {J2 : Int32 → (Nat → Int32) → (Nat → Int32) → (Nat → Int32) → (Nat → Int32) → (Nat → Int32) → (Nat → Int32) → (Nat → Int32) → (Nat → Int32) → (Nat → Int32) → (Nat → Int32) → (Nat → Int32) → (Nat → Int32) → (Nat → Int32) → Prop}
    {G : cu_Pr} {n j c ln dl : Nat} {f : Nat → Nat} (hn : n ≤ 16) (hj : j < n) (hc : c < 10000) (h1 : 1 ≤ ln) (h4 : ln ≤ 4) (hdl : dl ≤ 5) (hok : cx_ok a_ops a_xs a_ys a_zs G n) (hT : ∀ k, cu_T G k ≤ 16)
    (hJ : ∀ b B RS RD, cu_K G n b f a_vectors a_scalars a_cells a_takenLengths a_takenScalars B a_finished RS RD → c ≤ 6 * cu_P b f n + 5 → (c + 1 ≤ 6 * cu_P b f n + 5 ∨ ((∀ k, k < n → f k = b k) ∧ ∀ k, k < j + 1 → b k = cu_T G k)) → J2 (nI (j + 1)) a_vectors a_scalars a_cells a_ops a_xs a_ys a_zs a_takenLengths a_takenScalars B a_finished RS RD) :
    ∀ d lane w b B RS RD, lane + d = ln → d < w → cu_K G n b f a_vectors a_scalars a_cells a_takenLengths a_takenScalars B a_finished RS RD → c ≤ 6 * cu_P b f n + 5 → (c + 1 ≤ 6 * cu_P b f n + 5 ∨ (lane = 0 ∧ (∀ k, k < n → f k = b k) ∧ ∀ k, k < j → b k = cu_T G k)) →
      wX_beginElements_12 post J2 (nI c) (nI j) (nI ln) (nI dl) f_activeLength f_count f_issued w (nI lane) a_vectors a_scalars a_cells a_ops a_xs a_ys a_zs a_takenLengths a_takenScalars B a_finished RS RD := by
  intro d
  induction d with
  | zero =>
    intro lane w b B RS RD hd hw hK h5 hq
    obtain ⟨w, rfl⟩ : ∃ v, w = v + 1 := ⟨w - 1, by omega⟩
    exact br_t (nI_le (by omega) (by omega)) (nm_r (nI_1 j) (hJ b B RS RD hK h5 (hq.imp id (fun q => absurd q.1 (by omega)))))
  | succ d ih =>
    intro lane w b B RS RD hd hw hK h5 hq
    obtain ⟨w, rfl⟩ : ∃ v, w = v + 1 := ⟨w - 1, by omega⟩
    have hI := hK.1.1 j hj
    have hTj := hT j
    obtain ⟨a1, a2, a3, a4⟩ := hK.2.2.1 j hj
    obtain ⟨hv, hyi, hzi⟩ := hok j hj
    refine br_f (nI_ge (by omega) (by omega)) ⟨pk_in j 16 (by omega), ?_⟩
    rw [nI_clamp (show j < 2 ^ 31 by omega), a1, a3]
    refine nm_e ⟨pk_in j 16 (by omega), ?_⟩
    refine pk_le (cu_T G j) (b j) (fun h => nm_r (nI_1 j) (hJ b B RS RD hK h5 (hq.imp id (fun q => ⟨q.2.1, lt_s q.2.2 (by omega)⟩)))) fun h => ?_
    have h9 : cu_O G j ≤ 9 := cu_T9 h
    refine cx_mwb hn hj (by omega) hok hK.2.2.1 hK.1.1 hT (fun hg => br_t rfl ?_) (fun hw => br_f (by decide) (nm_r (nI_1 j) (hJ b B RS RD hK h5 (hq.imp id (fun q => ?_)))))
    · refine cx_result (by omega) (by omega) hv h9 ?_
      have er : cu_res (cu_O G j) (cu_X G j) (cu_Y G j) (cu_Z G j) (a_zs j) (a_takenScalars j) a_vectors a_cells (b j) = cu_R G j (b j) := by
        rw [a2, hzi]
        exact cu_rdR hK.1 hK.2.1 hj h hTj hg
      rw [er, cx_ix, nI_clamp (show 16 * j + b j < 2 ^ 31 by omega), nI_1, nI_add]
      have hP := cu_P_b (b := b) (f := f) n hj
      refine ⟨pk_in (16 * j + b j) 256 (by omega), nm_e ⟨pk_in (16 * j + b j) 256 (by omega), nm_e ⟨pk_in j 16 (by omega), nm_e (nm_r (nI_1 lane) ?_)⟩⟩⟩
      exact ih (lane + 1) w (cu_u b j (b j + 1)) _ _ _ (by omega) (by omega) ⟨cu_I_b hK.1 hj h hg, cu_D_b hK.1 hK.2.1 hT h, cu_A_b hK.2.2.1, cu_H_b hK.2.2.2 hj (fun k hk => by have := hK.1.1 k hk; have := hT k; omega) (by omega) h5 hdl⟩ (by omega) (Or.inl (by omega))
    · obtain ⟨e, he, het, hno⟩ := hw
      refine absurd ⟨fun _ _ => ?_, fun _ _ => ?_⟩ hno
      · have := q.2.1 e (by omega)
        have := q.2.2 e he
        omega
      · have := q.2.2 e he
        omega
theorem cx_beg2 {post : SX → Prop} {G : cu_Pr} {n c ln dl : Nat} {f : Nat → Nat} (hn : n ≤ 16) (hc : c < 10000) (h1 : 1 ≤ ln) (h4 : ln ≤ 4) (hdl : dl ≤ 5) (hok : cx_ok a_ops a_xs a_ys a_zs G n) (hT : ∀ k, cu_T G k ≤ 16)
    (hp : ∀ b B RS RD, cu_K G n b f a_vectors a_scalars a_cells a_takenLengths a_takenScalars B a_finished RS RD → c ≤ 6 * cu_P b f n + 5 → (c + 1 ≤ 6 * cu_P b f n + 5 ∨ ∀ k, k < n → f k = cu_T G k) → post (nI ln, nI dl, f_activeLength, f_count, nI n, a_vectors, a_scalars, a_cells, a_ops, a_xs, a_ys, a_zs, a_takenLengths, a_takenScalars, B, a_finished, RS, RD)) :
    ∀ d j w b B RS RD, j + d = n → d < w → cu_K G n b f a_vectors a_scalars a_cells a_takenLengths a_takenScalars B a_finished RS RD → c ≤ 6 * cu_P b f n + 5 → (c + 1 ≤ 6 * cu_P b f n + 5 ∨ ((∀ k, k < n → f k = b k) ∧ ∀ k, k < j → b k = cu_T G k)) →
      wX_beginElements_2 post (nI c) (nI ln) (nI dl) f_activeLength f_count (nI n) w (nI j) a_vectors a_scalars a_cells a_ops a_xs a_ys a_zs a_takenLengths a_takenScalars B a_finished RS RD := by
  intro d
  induction d with
  | zero =>
    intro j w b B RS RD hd hw hK h5 hq
    obtain ⟨w, rfl⟩ : ∃ v, w = v + 1 := ⟨w - 1, by omega⟩
    have e : j = n := by omega
    subst e
    exact br_t (nI_le (by omega) (by omega)) (hp b B RS RD hK h5 (hq.imp id (fun q k hk => (q.1 k hk).trans (q.2 k hk))))
  | succ d ih =>
    intro j w b B RS RD hd hw hK h5 hq
    obtain ⟨w, rfl⟩ : ∃ v, w = v + 1 := ⟨w - 1, by omega⟩
    have hj : j < n := by omega
    refine br_f (nI_ge (by omega) (by omega)) ⟨ln + 1, ?_⟩
    exact cx_beg12 hn hj hc h1 h4 hdl hok hT (fun b' B' RS' RD' hK' h5' hq' => ih (j + 1) w b' B' RS' RD' (by omega) (by omega) hK' h5' hq') ln 0 (ln + 1) b B RS RD (by omega) (by omega) hK h5 (hq.imp id (fun q => ⟨rfl, q⟩))
theorem cx_beg {post : SX → Prop} {G : cu_Pr} {n c ln dl : Nat} {b f : Nat → Nat} (hn : n ≤ 16) (hc : c < 10000) (h1 : 1 ≤ ln) (h4 : ln ≤ 4) (hdl : dl ≤ 5) (hok : cx_ok a_ops a_xs a_ys a_zs G n) (hT : ∀ k, cu_T G k ≤ 16)
    (hK : cu_K G n b f a_vectors a_scalars a_cells a_takenLengths a_takenScalars a_begun a_finished a_results a_readyCycles) (h5 : c ≤ 6 * cu_P b f n + 5) (hq : c + 1 ≤ 6 * cu_P b f n + 5 ∨ ∀ k, k < n → f k = b k)
    (hp : ∀ b B RS RD, cu_K G n b f a_vectors a_scalars a_cells a_takenLengths a_takenScalars B a_finished RS RD → c ≤ 6 * cu_P b f n + 5 → (c + 1 ≤ 6 * cu_P b f n + 5 ∨ ∀ k, k < n → f k = cu_T G k) → post (nI ln, nI dl, f_activeLength, f_count, nI n, a_vectors, a_scalars, a_cells, a_ops, a_xs, a_ys, a_zs, a_takenLengths, a_takenScalars, B, a_finished, RS, RD)) :
    wpX_beginElements post (nI ln, nI dl, f_activeLength, f_count, nI n, a_vectors, a_scalars, a_cells, a_ops, a_xs, a_ys, a_zs, a_takenLengths, a_takenScalars, a_begun, a_finished, a_results, a_readyCycles) (nI c) := by
  unfold wpX_beginElements
  exact ⟨n + 1, cx_beg2 hn hc h1 h4 hdl hok hT hp n 0 (n + 1) b _ _ _ (by omega) (by omega) hK h5 (hq.imp id (fun q => ⟨q, fun k h => absurd h (by omega)⟩))⟩
end
