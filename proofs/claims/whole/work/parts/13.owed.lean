/-! the relation: what both keep alike is the same; X's pipelines are free between runs -/
def cr_ok (po px py pz : Nat → Int32) (cn : Nat) : Prop :=
  ∀ j, j < cn → cx_v (po j) (px j) (py j) (pz j) (po j).toNatClampNeg (px j).toNatClampNeg (py j).toNatClampNeg (pz j).toNatClampNeg
def i_Rel (k : Nat) (u : SX) (v : SY) : Prop :=
  ∃ (ln dl L cn : Nat) (iss : Int32) (V S M po px py pz TL TS B F RS RD : Nat → Int32), 1 ≤ ln ∧ ln ≤ 4 ∧ dl ≤ 5 ∧ L ≤ 16 ∧ cn ≤ 16 ∧ cr_ok po px py pz cn ∧
    u = (nI ln, nI dl, nI L, nI cn, iss, V, S, M, po, px, py, pz, TL, TS, B, F, RS, RD) ∧ v = (nI L, nI cn, V, S, M, po, px, py, pz)
theorem i_up {k : Nat} {u : SX} {v : SY} (h : i_Rel k u v) : i_Rel (k + 5) u v := h
theorem i_vc0 (k0 : Int32) (k1 : Int32) : wpX_init (fun u => wpY_init (fun v => i_Rel 2 u v) k0 k1) k0 k1 := by
  unfold wpX_init
  refine cr_clamp k0 1 4 (by omega) (by omega) fun ln h1 h4 => ?_
  refine cr_clamp k1 1 5 (by omega) (by omega) fun dl _ h5 => ?_
  refine cr_reset ?_
  rw [cr_z_z, cr_z_z]
  exact ⟨ln, dl, 16, 0, 0, _, _, _, _, _, _, _, _, _, _, _, _, _, h1, h4, h5, by omega, by omega, fun j h => absurd h (by omega), rfl, rfl⟩
theorem cr_okU {po px py pz : Nat → Int32} {cn : Nat} {p0 p1 p2 p3 : Int32} (h : cr_ok po px py pz cn) (hf : cr_fit p0 p1 p2 p3) : cr_ok (upd po cn p0) (upd px cn p1) (upd py cn p2) (upd pz cn p3) (cn + 1) := by
  obtain ⟨o, x, y, z, hv⟩ := hf
  intro j hj
  by_cases e : j = cn
  · subst e
    rw [pk_us, pk_us, pk_us, pk_us]
    exact cr_norm hv
  · rw [pk_un e, pk_un e, pk_un e, pk_un e]
    exact h j (by omega)
theorem i_vc_emit {k : Nat} {u : SX} {v : SY} (I : i_Rel k u v) (hk : k + 5 ≤ 2562) (v1 : Int32) (v2 : Int32) (v3 : Int32) (v4 : Int32) : wpX_emit (fun r u' => wpY_emit (fun r' v' => r' = r ∧ i_Rel (k + 5) u' v') v v1 v2 v3 v4) u v1 v2 v3 v4 := by
  obtain ⟨ln, dl, L, cn, iss, V, S, M, po, px, py, pz, TL, TS, B, F, RS, RD, h1, h4, h5, hL, hcn, hok, rfl, rfl⟩ := I
  refine cr_emitX hcn (fun hf => cr_emitY hcn (fun _ => ⟨rfl, ?_⟩) (fun q => absurd q (by omega)) (fun q => absurd q (by omega)))
    (fun hlt hb => cr_emitY hcn (fun q => absurd q (by omega)) (fun _ _ => ⟨rfl, ?_⟩) (fun _ q => absurd q hb))
    (fun hlt hg => cr_emitY hcn (fun q => absurd q (by omega)) (fun _ q => absurd hg q) (fun _ _ => ⟨rfl, ?_⟩))
  · exact ⟨ln, dl, L, cn, iss, _, _, _, _, _, _, _, _, _, _, _, _, _, h1, h4, h5, hL, hcn, hok, rfl, rfl⟩
  · exact ⟨ln, dl, L, cn, iss, _, _, _, _, _, _, _, _, _, _, _, _, _, h1, h4, h5, hL, hcn, hok, rfl, rfl⟩
  · exact ⟨ln, dl, L, cn + 1, iss, _, _, _, _, _, _, _, _, _, _, _, _, _, h1, h4, h5, hL, by omega, cr_okU hok hg, rfl, rfl⟩
theorem i_vc_run {k : Nat} {u : SX} {v : SY} (I : i_Rel k u v) (hk : k + 5 ≤ 2562) : wpX_run (fun r u' => wpY_run (fun r' v' => r' = r ∧ i_Rel (k + 5) u' v') v) u := by
  obtain ⟨ln, dl, L, cn, iss, V, S, M, po, px, py, pz, TL, TS, B, F, RS, RD, h1, h4, h5, hL, hcn, hok, rfl, rfl⟩ := I
  let G : cu_Pr := (fun j => (po j).toNatClampNeg, fun j => (px j).toNatClampNeg, fun j => (py j).toNatClampNeg, fun j => (pz j).toNatClampNeg, py, pz, (V, S, M, L))
  have hG : cx_ok po px py pz G cn := fun j hj => ⟨hok j hj, rfl, rfl⟩
  have hL0 : cu_L G 0 ≤ 16 := hL
  refine cx_run (G := G) hcn h1 h4 h5 hG (cu_T16 hL0) fun iss' TL' TS' B' F' RS' RD' => ?_
  refine cy_run (G := G) hcn hG (cu_L16 hL0) ⟨rfl, ?_⟩
  exact ⟨ln, dl, cu_L G cn, 0, iss', _, _, _, _, _, _, _, _, _, _, _, _, _, h1, h4, h5, cu_L16 hL0 cn, by omega, fun j h => absurd h (by omega), rfl, rfl⟩
theorem i_vc_element {k : Nat} {u : SX} {v : SY} (I : i_Rel k u v) (hk : k + 5 ≤ 2562) (v1 : Int32) (v2 : Int32) : wpX_element (fun r => wpY_element (fun r' => r' = r ∧ i_Rel (k + 5) u v) v v1 v2) u v1 v2 := by
  have I' : i_Rel (k + 5) u v := I
  obtain ⟨ln, dl, L, cn, iss, V, S, M, po, px, py, pz, TL, TS, B, F, RS, RD, h1, h4, h5, hL, hcn, hok, rfl, rfl⟩ := I
  unfold wpX_element
  refine cr_regX v1 (fun a ha ea => br_f (by decide) ?_) (fun e => br_t rfl ?_)
  · refine cr_elX v2 (fun i hi ei => br_f (by decide) ?_) (fun e => br_t rfl ?_)
    · subst ea
      subst ei
      rw [cx_ix, nI_clamp (show 16 * a + i < 2 ^ 31 by omega)]
      refine ⟨pk_in (16 * a + i) 64 (by omega), ?_⟩
      unfold wpY_element
      refine cr_regY (nI a) (fun _ _ _ => br_f (by decide) (cr_iy (nI i) 15 (by omega) (fun _ _ _ => ?_) (fun q => absurd ⟨i, hi, rfl⟩ q))) (fun q => absurd ⟨a, ha, rfl⟩ q)
      rw [cy_ix, nI_clamp (show 16 * a + i < 2 ^ 31 by omega)]
      exact ⟨pk_in (16 * a + i) 64 (by omega), rfl, I'⟩
    · unfold wpY_element
      exact cr_regY v1 (fun _ _ _ => br_f (by decide) (cr_iy v2 15 (by omega) (fun j hj ej => absurd ⟨j, hj, ej⟩ e) (fun _ => ⟨rfl, I'⟩))) (fun q => absurd ⟨a, ha, ea⟩ q)
  · unfold wpY_element
    exact cr_regY v1 (fun j hj ej => absurd ⟨j, hj, ej⟩ e) (fun _ => br_t rfl ⟨rfl, I'⟩)
theorem i_vc_setElement {k : Nat} {u : SX} {v : SY} (I : i_Rel k u v) (hk : k + 5 ≤ 2562) (v1 : Int32) (v2 : Int32) (v3 : Int32) : wpX_setElement (fun r u' => wpY_setElement (fun r' v' => r' = r ∧ i_Rel (k + 5) u' v') v v1 v2 v3) u v1 v2 v3 := by
  have I' : i_Rel (k + 5) u v := I
  obtain ⟨ln, dl, L, cn, iss, V, S, M, po, px, py, pz, TL, TS, B, F, RS, RD, h1, h4, h5, hL, hcn, hok, rfl, rfl⟩ := I
  unfold wpX_setElement
  refine cr_regX v1 (fun a ha ea => br_f (by decide) ?_) (fun e => br_t rfl ?_)
  · refine cr_elX v2 (fun i hi ei => br_f (by decide) ?_) (fun e => br_t rfl ?_)
    · subst ea
      subst ei
      rw [cx_ix, nI_clamp (show 16 * a + i < 2 ^ 31 by omega)]
      refine ⟨pk_in (16 * a + i) 64 (by omega), nm_e ?_⟩
      unfold wpY_setElement
      refine cr_regY (nI a) (fun _ _ _ => br_f (by decide) (cr_iy2 (nI i) 15 (by omega) (fun _ _ _ => ?_) (fun q => absurd ⟨i, hi, rfl⟩ q))) (fun q => absurd ⟨a, ha, rfl⟩ q)
      rw [cy_ix, nI_clamp (show 16 * a + i < 2 ^ 31 by omega)]
      exact ⟨pk_in (16 * a + i) 64 (by omega), nm_e ⟨rfl, ln, dl, L, cn, iss, _, _, _, _, _, _, _, _, _, _, _, _, _, h1, h4, h5, hL, hcn, hok, rfl, rfl⟩⟩
    · unfold wpY_setElement
      exact cr_regY v1 (fun _ _ _ => br_f (by decide) (cr_iy2 v2 15 (by omega) (fun j hj ej => absurd ⟨j, hj, ej⟩ e) (fun _ => ⟨rfl, I'⟩))) (fun q => absurd ⟨a, ha, ea⟩ q)
  · unfold wpY_setElement
    exact cr_regY v1 (fun j hj ej => absurd ⟨j, hj, ej⟩ e) (fun _ => br_t rfl ⟨rfl, I'⟩)
theorem i_vc_scalar {k : Nat} {u : SX} {v : SY} (I : i_Rel k u v) (hk : k + 5 ≤ 2562) (v1 : Int32) : wpX_scalar (fun r => wpY_scalar (fun r' => r' = r ∧ i_Rel (k + 5) u v) v v1) u v1 := by
  have I' : i_Rel (k + 5) u v := I
  obtain ⟨ln, dl, L, cn, iss, V, S, M, po, px, py, pz, TL, TS, B, F, RS, RD, h1, h4, h5, hL, hcn, hok, rfl, rfl⟩ := I
  unfold wpX_scalar
  refine cr_regX v1 (fun a ha ea => br_f (by decide) ⟨by rw [ea]; exact pk_in a 4 ha, ?_⟩) (fun e => br_t rfl ?_)
  · unfold wpY_scalar
    exact cr_regY v1 (fun _ _ _ => br_f (by decide) ⟨by rw [ea]; exact pk_in a 4 ha, rfl, I'⟩) (fun q => absurd ⟨a, ha, ea⟩ q)
  · unfold wpY_scalar
    exact cr_regY v1 (fun j hj ej => absurd ⟨j, hj, ej⟩ e) (fun _ => br_t rfl ⟨rfl, I'⟩)
theorem i_vc_vectorLength {k : Nat} {u : SX} {v : SY} (I : i_Rel k u v) (hk : k + 5 ≤ 2562) : wpX_vectorLength (fun r => wpY_vectorLength (fun r' => r' = r ∧ i_Rel (k + 5) u v) v) u := by
  have I' : i_Rel (k + 5) u v := I
  obtain ⟨ln, dl, L, cn, iss, V, S, M, po, px, py, pz, TL, TS, B, F, RS, RD, h1, h4, h5, hL, hcn, hok, rfl, rfl⟩ := I
  unfold wpX_vectorLength wpY_vectorLength
  exact ⟨rfl, I'⟩
theorem i_vc_memory {k : Nat} {u : SX} {v : SY} (I : i_Rel k u v) (hk : k + 5 ≤ 2562) (v1 : Int32) : wpX_memory (fun r => wpY_memory (fun r' => r' = r ∧ i_Rel (k + 5) u v) v v1) u v1 := by
  have I' : i_Rel (k + 5) u v := I
  obtain ⟨ln, dl, L, cn, iss, V, S, M, po, px, py, pz, TL, TS, B, F, RS, RD, h1, h4, h5, hL, hcn, hok, rfl, rfl⟩ := I
  unfold wpX_memory
  refine cr_ceX v1 (fun a ha ea => br_f (by decide) ⟨by rw [ea]; exact pk_in a 64 ha, ?_⟩) (fun e => br_t rfl ?_)
  · unfold wpY_memory
    exact cr_iy v1 63 (by omega) (fun _ _ _ => ⟨by rw [ea]; exact pk_in a 64 ha, rfl, I'⟩) (fun q => absurd ⟨a, ha, ea⟩ q)
  · unfold wpY_memory
    exact cr_iy v1 63 (by omega) (fun j hj ej => absurd ⟨j, hj, ej⟩ e) (fun _ => ⟨rfl, I'⟩)
theorem i_vc_setMemory {k : Nat} {u : SX} {v : SY} (I : i_Rel k u v) (hk : k + 5 ≤ 2562) (v1 : Int32) (v2 : Int32) : wpX_setMemory (fun r u' => wpY_setMemory (fun r' v' => r' = r ∧ i_Rel (k + 5) u' v') v v1 v2) u v1 v2 := by
  have I' : i_Rel (k + 5) u v := I
  obtain ⟨ln, dl, L, cn, iss, V, S, M, po, px, py, pz, TL, TS, B, F, RS, RD, h1, h4, h5, hL, hcn, hok, rfl, rfl⟩ := I
  unfold wpX_setMemory
  refine cr_ceX v1 (fun a ha ea => br_f (by decide) ⟨by rw [ea]; exact pk_in a 64 ha, nm_e ?_⟩) (fun e => br_t rfl ?_)
  · unfold wpY_setMemory
    exact cr_iy2 v1 63 (by omega) (fun _ _ _ => ⟨by rw [ea]; exact pk_in a 64 ha, nm_e ⟨rfl, ln, dl, L, cn, iss, _, _, _, _, _, _, _, _, _, _, _, _, _, h1, h4, h5, hL, hcn, hok, rfl, rfl⟩⟩) (fun q => absurd ⟨a, ha, ea⟩ q)
  · unfold wpY_setMemory
    exact cr_iy2 v1 63 (by omega) (fun j hj ej => absurd ⟨j, hj, ej⟩ e) (fun _ => ⟨rfl, I'⟩)
theorem i_vc_clear {k : Nat} {u : SX} {v : SY} (I : i_Rel k u v) (hk : k + 5 ≤ 2562) : wpX_clear (fun u' => wpY_clear (fun v' => i_Rel (k + 5) u' v') v) u := by
  obtain ⟨ln, dl, L, cn, iss, V, S, M, po, px, py, pz, TL, TS, B, F, RS, RD, h1, h4, h5, hL, hcn, hok, rfl, rfl⟩ := I
  unfold wpX_clear
  refine cr_reset ?_
  refine cr_clearY ?_
  exact ⟨ln, dl, 16, 0, 0, _, _, _, _, _, _, _, _, _, _, _, _, _, h1, h4, h5, by omega, by omega, fun j h => absurd h (by omega), rfl, rfl⟩
