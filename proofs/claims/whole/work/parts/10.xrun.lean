/-! X's run -/
section
variable {f_lanes f_delay f_activeLength f_count f_issued : Int32} {a_vectors a_scalars a_cells a_ops a_xs a_ys a_zs a_takenLengths a_takenScalars a_begun a_finished a_results a_readyCycles : Nat → Int32}
theorem cx_run12 {post : Int32 → SX → Prop} {G : cu_Pr} {cn ln dl : Nat} (hcn : cn ≤ 16) (h1 : 1 ≤ ln) (h4 : ln ≤ 4) (hdl : dl ≤ 5) (hok : cx_ok a_ops a_xs a_ys a_zs G cn) (hT : ∀ k, cu_T G k ≤ 16)
    (hp : ∀ iss TL TS B F RS RD, post (nI cn) (nI ln, nI dl, nI (cu_L G cn), 0, iss, cu_V G cn, cu_S G cn, cu_M G cn, a_ops, a_xs, a_ys, a_zs, TL, TS, B, F, RS, RD)) :
    ∀ d c w n b f V S M TL TS B F RS RD, c + d = 10000 → d < w → n ≤ cn → cu_K G n b f V S M TL TS B F RS RD → (c ≤ 6 * cu_P b f n + 5 ∨ (n = cn ∧ ∀ k, k < n → f k = cu_T G k)) →
      wX_run_12 post (nI cn) w (nI c) (nI ln) (nI dl) (nI (cu_L G n)) (nI cn) (nI n) V S M a_ops a_xs a_ys a_zs TL TS B F RS RD := by
  intro d
  induction d with
  | zero =>
    intro c w n b f V S M TL TS B F RS RD hd hw hn hK hq
    obtain ⟨w, rfl⟩ : ∃ v, w = v + 1 := ⟨w - 1, by omega⟩
    have hPb := cu_Pb hK.1 hT (show n ≤ 16 by omega)
    have hq' : n = cn ∧ ∀ k, k < n → f k = cu_T G k := hq.elim (fun q => absurd q (by omega)) id
    obtain ⟨rfl, hf⟩ := hq'
    obtain ⟨rfl, rfl, rfl⟩ := cu_done hK.2.1 hf
    exact pk_le 10000 c (fun _ => hp _ _ _ _ _ _ _) (fun h => absurd h (by omega))
  | succ d ih =>
    intro c w n b f V S M TL TS B F RS RD hd hw hn hK hq
    obtain ⟨w, rfl⟩ : ∃ v, w = v + 1 := ⟨w - 1, by omega⟩
    refine pk_le 10000 c (fun h => absurd h (by omega)) fun hc => ?_
    refine cx_done hn hcn hK.2.2.1 hK.1.1 hT (fun e hf => br_f (by decide) ?_) (fun hno => br_t rfl ?_)
    · subst e
      obtain ⟨rfl, rfl, rfl⟩ := cu_done hK.2.1 hf
      exact hp _ _ _ _ _ _ _
    · have h5 : c ≤ 6 * cu_P b f n + 5 := hq.elim id (fun q => absurd q hno)
      have hokn : cx_ok a_ops a_xs a_ys a_zs G n := fun k hk => hok k (by omega)
      refine cx_fin (by omega) hc hokn hT hK h5 fun f' V' S' M' F' hK' h5' hq' => ?_
      refine cx_beg (by omega) hc h1 h4 hdl hokn hT hK' h5' hq' fun b' B' RS' RD' hK2 h52 hq2 => ?_
      refine cx_issue hn hcn hok hT hK2 h52 hq2 fun m b3 f3 S3 TL3 TS3 B3 F3 hm hK3 hq3 => ?_
      refine nm_r (nI_1 c) ?_
      exact ih (c + 1) w m b3 f3 _ _ _ _ _ _ _ _ _ (by omega) (by omega) hm hK3 hq3
theorem cx_run {post : Int32 → SX → Prop} {G : cu_Pr} {cn ln dl : Nat} (hcn : cn ≤ 16) (h1 : 1 ≤ ln) (h4 : ln ≤ 4) (hdl : dl ≤ 5) (hok : cx_ok a_ops a_xs a_ys a_zs G cn) (hT : ∀ k, cu_T G k ≤ 16)
    (hp : ∀ iss TL TS B F RS RD, post (nI cn) (nI ln, nI dl, nI (cu_L G cn), 0, iss, cu_V G cn, cu_S G cn, cu_M G cn, a_ops, a_xs, a_ys, a_zs, TL, TS, B, F, RS, RD)) :
    wpX_run post (nI ln, nI dl, nI (cu_L G 0), nI cn, f_issued, cu_V G 0, cu_S G 0, cu_M G 0, a_ops, a_xs, a_ys, a_zs, a_takenLengths, a_takenScalars, a_begun, a_finished, a_results, a_readyCycles) := by
  unfold wpX_run
  refine ⟨10001, ?_⟩
  have no : ∀ {P : Prop} {j : Nat}, j < 0 → P := fun h => absurd h (by omega)
  exact cx_run12 hcn h1 h4 hdl hok hT hp 10000 0 10001 0 (fun _ => 0) (fun _ => 0) _ _ _ _ _ _ _ _ _ (by omega) (by omega) (by omega)
    ⟨⟨fun j h => no h, fun e j i _ h => no h, fun e j i _ h => no h, fun e j _ h => no h, fun e j _ h => no h⟩, ⟨rfl, rfl, rfl, fun j i h => no h⟩, fun j h => no h, fun j i h => no h⟩ (Or.inl (by omega))
end
