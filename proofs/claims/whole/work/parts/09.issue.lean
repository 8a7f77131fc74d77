/-! X's issuing -/
section
variable {f_lanes f_delay f_activeLength f_count f_issued : Int32} {a_vectors a_scalars a_cells a_ops a_xs a_ys a_zs a_takenLengths a_takenScalars a_begun a_finished a_results a_readyCycles : Nat → Int32}
theorem cx_doS {post : SX → Prop} {j o x y z : Nat} (hj : j < 16) (h : cx_v (a_ops j) (a_xs j) (a_ys j) (a_zs j) o x y z) (h10 : ¬ o ≤ 9)
    (hp : post (f_lanes, f_delay, (if o = 12 then nI (cu_cl (a_scalars x)) else f_activeLength), f_count, f_issued, a_vectors, cu_S1 o x y z (a_ys j) a_scalars, a_cells, a_ops, a_xs, a_ys, a_zs, a_takenLengths, a_takenScalars, a_begun, a_finished, a_results, a_readyCycles)) : wpX_doScalarInstruction post (f_lanes, f_delay, f_activeLength, f_count, f_issued, a_vectors, a_scalars, a_cells, a_ops, a_xs, a_ys, a_zs, a_takenLengths, a_takenScalars, a_begun, a_finished, a_results, a_readyCycles) (nI j) := by
  obtain ⟨ho, ho12, hx, hx4, hy, hz⟩ := h
  unfold wpX_doScalarInstruction
  dsimp only
  rw [nI_clamp (show j < 2 ^ 31 by omega), ho, hx, nI_clamp (show x < 2 ^ 31 by omega)]
  refine ⟨pk_in j 16 hj, pk_eq o 10 (fun e => ?_) fun n10 => ⟨pk_in j 16 hj, pk_eq o 11 (fun e => ?_) fun n11 => ?_⟩⟩
  · subst e
    exact ⟨pk_in j 16 hj, pk_in j 16 hj, pk_in x 4 hx4, nm_e hp⟩
  · subst e
    obtain ⟨hy1, hy2⟩ := hy (by omega) (by omega)
    obtain ⟨hz1, hz2⟩ := hz (by omega)
    rw [hy1, hz1, nI_clamp (show y < 2 ^ 31 by omega), nI_clamp (show z < 2 ^ 31 by omega)]
    exact ⟨pk_in j 16 hj, pk_in j 16 hj, pk_in y 4 hy2, pk_in j 16 hj, pk_in z 4 hz2, pk_in x 4 hx4, nm_e hp⟩
  · have e : o = 12 := by omega
    subst e
    exact ⟨pk_in j 16 hj, pk_in x 4 hx4, cx_clamp _ hp⟩
theorem cx_i78 {post : SX → Prop} {j t o x y z : Nat} (hj : j < 16) (h : cx_v (a_ops j) (a_xs j) (a_ys j) (a_zs j) o x y z)
    (hp : post (f_lanes, f_delay, (if o = 12 then nI (cu_cl (a_scalars x)) else f_activeLength), f_count, nI (j + 1), a_vectors, cu_S1 o x y z (a_ys j) a_scalars, a_cells, a_ops, a_xs, a_ys, a_zs, upd a_takenLengths j (nI t), a_takenScalars, a_begun, a_finished, a_results, a_readyCycles)) : wX_issueNext_78 post (nI j) (nI t) (nI j) f_lanes f_delay f_activeLength f_count (nI j) a_vectors a_scalars a_cells a_ops a_xs a_ys a_zs a_takenLengths a_takenScalars a_begun a_finished a_results a_readyCycles := by
  unfold wX_issueNext_78
  have h' := h
  obtain ⟨ho, ho12, hx, hx4, hy, hz⟩ := h
  rw [nI_clamp (show j < 2 ^ 31 by omega), ho, hx, nI_clamp (show x < 2 ^ 31 by omega)]
  refine ⟨pk_in j 16 hj, nm_e (nm_r (nI_1 j) ⟨pk_in j 16 hj, ?_⟩)⟩
  refine cx_so ho12 (fun h9 => br_t rfl ⟨pk_in j 16 hj, ?_⟩) (fun h9 => br_f (by decide) ?_)
  · rw [if_neg (by omega)] at hp
    refine pk_eq o 9 (fun e => ?_) fun e => ?_
    · subst e
      exact ⟨pk_in j 16 hj, pk_in x 4 hx4, nm_e hp⟩
    · have es : cu_S1 o x y z (a_ys j) a_scalars = a_scalars := by
        unfold cu_S1
        rw [if_neg e, if_neg (by omega), if_neg (by omega)]
      rw [es] at hp
      exact hp
  · exact cx_doS hj h' h9 hp
theorem cx_issue {post : SX → Prop} {G : cu_Pr} {n c cn : Nat} {b f : Nat → Nat} (hn : n ≤ cn) (hcn : cn ≤ 16) (hok : cx_ok a_ops a_xs a_ys a_zs G cn) (hT : ∀ k, cu_T G k ≤ 16)
    (hK : cu_K G n b f a_vectors a_scalars a_cells a_takenLengths a_takenScalars a_begun a_finished a_results a_readyCycles) (h5 : c ≤ 6 * cu_P b f n + 5) (hq : c + 1 ≤ 6 * cu_P b f n + 5 ∨ ∀ k, k < n → f k = cu_T G k)
    (hp : ∀ m b f S TL TS B F, m ≤ cn → cu_K G m b f a_vectors S a_cells TL TS B F a_results a_readyCycles → (c + 1 ≤ 6 * cu_P b f m + 5 ∨ (m = cn ∧ ∀ k, k < m → f k = cu_T G k)) → post (f_lanes, f_delay, nI (cu_L G m), nI cn, nI m, a_vectors, S, a_cells, a_ops, a_xs, a_ys, a_zs, TL, TS, B, F, a_results, a_readyCycles)) :
    wpX_issueNext post (f_lanes, f_delay, nI (cu_L G n), nI cn, nI n, a_vectors, a_scalars, a_cells, a_ops, a_xs, a_ys, a_zs, a_takenLengths, a_takenScalars, a_begun, a_finished, a_results, a_readyCycles) := by
  unfold wpX_issueNext
  dsimp only
  refine pk_le cn n (fun h => hp n b f _ _ _ _ _ hn hK (hq.imp id (fun q => ⟨by omega, q⟩))) fun h => ?_
  have hn16 : n < 16 := by omega
  obtain ⟨hv, hyi, hzi⟩ := hok n h
  have hL := cu_TL (G := G) (k := n)
  refine cx_mwi hn16 (fun k hk => hok k (by omega)) hK.2.2.1 hK.1.1 hT (fun g9 g8 => br_t rfl ?_) (fun hw => br_f (by decide) (hp n b f _ _ _ _ _ hn hK (hq.imp id (fun q => ?_))))
  · have hP := cu_P_n (b := b) (f := f) n
    have hD := cu_D_n hK.2.1 g9 g8
    have hA := cu_A_n hK.2.2.1
    have hC := cu_rdC hK.2.1 g9
    rw [← hyi] at hD
    rw [← hC] at hA
    have hal : nI (cu_L G (n + 1)) = if cu_O G n = 12 then nI (cu_cl (a_scalars (cu_X G n))) else nI (cu_L G n) := by
      rw [cu_L_s]
      by_cases z : cu_O G n = 12
      · rw [if_pos z, if_pos z, cu_rdS hK.2.1 g9 (t := cu_X G n) (by unfold cu_nM cu_nm; omega)]
      · rw [if_neg z, if_neg z]
    have fin := hp (n + 1) _ _ _ _ _ _ _ (by omega) ⟨cu_I_n hK.1 g9 g8, hD, hA, cu_H_n hK.2.2.2⟩ (Or.inl (by omega))
    rw [hal] at fin
    rw [nI_clamp (show n < 2 ^ 31 by omega), hv.1]
    refine ⟨pk_in n 16 hn16, nm_e ⟨pk_in n 16 hn16, nm_e ?_⟩⟩
    refine cx_operand hn16 hv ⟨pk_in n 16 hn16, nm_e ⟨pk_in n 16 hn16, ?_⟩⟩
    refine cx_so hv.2.1 (fun h9 => br_t rfl ?_) (fun h9 => br_f (by decide) ?_)
    · have e : cu_T G n = cu_L G n := if_pos h9
      rw [e] at fin
      exact cx_i78 hn16 hv fin
    · have e : cu_T G n = 0 := if_neg h9
      rw [e] at fin
      exact cx_i78 (t := 0) hn16 hv fin
  · obtain ⟨e, he, hlt⟩ := hw
    have := q e he
    omega
end
