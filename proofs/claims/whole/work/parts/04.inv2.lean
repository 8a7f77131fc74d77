/-! what element i of instruction j reads when it may begin -/
theorem cu_rdV {G : cu_Pr} {n : Nat} {b f : Nat → Nat} {V S M RS : Nat → Int32} (hI : cu_I G n b f) (hD : cu_D G n b f V S M RS) {j : Nat} (hj : j < n) (hi : b j < cu_T G j) (h16 : cu_T G j ≤ 16)
    (hg : ∀ e, e < j → b j < cu_T G e → cu_go G b f e j (b j)) {r : Nat} (hr : cu_rD G j r) : V (16 * r + b j) = cu_V G j (16 * r + b j) := by
  obtain ⟨h1, h2, h3, h4, h5⟩ := hI
  obtain ⟨rfl, rfl, rfl, hR⟩ := hD
  have e1 : (16 * r + b j) / 16 = r := by omega
  have e2 : (16 * r + b j) % 16 = b j := by omega
  obtain ⟨d, rfl⟩ : ∃ d, n = j + d := ⟨n - j, by omega⟩
  rw [cu_EV_t d, cu_EV_at j]
  · exact fun k hk => by have := h1 k (by omega); omega
  · rw [e1, e2]
    exact fun k hk hw hx ht => (hg k hk ht).1 hw (Or.inl (hx ▸ hr))
  · rw [e1, e2]
    intro k hk hk2 hw hx hlt
    by_cases z : k = j
    · subst z
      have := h1 k hk2
      omega
    · have := h3 j k (b j) (by omega) hk2 (by have := h1 k hk2; omega) hi hw (by rw [hx]; exact hr)
      omega
theorem cu_rdM {G : cu_Pr} {n : Nat} {b f : Nat → Nat} {V S M RS : Nat → Int32} (hI : cu_I G n b f) (hD : cu_D G n b f V S M RS) {j : Nat} (hj : j < n) (hi : b j < cu_T G j) (ho : cu_O G j = 6 ∨ cu_O G j = 8) : M = cu_M G j := by
  obtain ⟨h1, h2, h3, h4, h5⟩ := hI
  obtain ⟨rfl, rfl, rfl, hR⟩ := hD
  obtain ⟨d, rfl⟩ : ∃ d, n = j + d := ⟨n - j, by omega⟩
  rw [cu_EM_t d, cu_EM_at j]
  · exact fun k hk ho7 => h5 k j hk hj (by unfold cu_mc; omega)
  · intro k hk hk2 ho7
    by_cases z : k = j
    · subst z; omega
    · have := h5 j k (by omega) hk2 (by unfold cu_mc; omega)
      have := h1 j hj
      omega
theorem cu_rdR {G : cu_Pr} {n : Nat} {b f : Nat → Nat} {V S M RS : Nat → Int32} (hI : cu_I G n b f) (hD : cu_D G n b f V S M RS) {j : Nat} (hj : j < n) (hi : b j < cu_T G j) (h16 : cu_T G j ≤ 16)
    (hg : ∀ e, e < j → b j < cu_T G e → cu_go G b f e j (b j)) : cu_res (cu_O G j) (cu_X G j) (cu_Y G j) (cu_Z G j) (cu_zi G j) (cu_C G j) V M (b j) = cu_R G j (b j) := by
  have hV : ∀ {r : Nat}, cu_rD G j r → V (16 * r + b j) = cu_V G j (16 * r + b j) := fun hr => cu_rdV hI hD hj hi h16 hg hr
  have hM : cu_O G j = 6 ∨ cu_O G j = 8 → M = cu_M G j := fun ho => cu_rdM hI hD hj hi ho
  have h9 : cu_O G j ≤ 9 := by
    unfold cu_T at hi
    by_cases z : cu_O G j ≤ 9
    · exact z
    · rw [if_neg z] at hi; omega
  unfold cu_R cu_res
  by_cases z0 : cu_O G j = 0
  · rw [if_pos z0, if_pos z0, hV (r := cu_Y G j) (by unfold cu_rD cu_rd; omega), hV (r := cu_Z G j) (by unfold cu_rD cu_rd; omega)]
  rw [if_neg z0, if_neg z0]
  by_cases z1 : cu_O G j = 1
  · rw [if_pos z1, if_pos z1, hV (r := cu_Y G j) (by unfold cu_rD cu_rd; omega), hV (r := cu_Z G j) (by unfold cu_rD cu_rd; omega)]
  rw [if_neg z1, if_neg z1]
  by_cases z2 : cu_O G j = 2
  · rw [if_pos z2, if_pos z2, hV (r := cu_Y G j) (by unfold cu_rD cu_rd; omega), hV (r := cu_Z G j) (by unfold cu_rD cu_rd; omega)]
  rw [if_neg z2, if_neg z2]
  by_cases z3 : cu_O G j = 3
  · rw [if_pos z3, if_pos z3, hV (r := cu_Y G j) (by unfold cu_rD cu_rd; omega), hV (r := cu_Z G j) (by unfold cu_rD cu_rd; omega)]
  rw [if_neg z3, if_neg z3]
  by_cases z4 : cu_O G j = 4
  · rw [if_pos z4, if_pos z4, hV (r := cu_Y G j) (by unfold cu_rD cu_rd; omega)]
  rw [if_neg z4, if_neg z4]
  by_cases z5 : cu_O G j = 5
  · rw [if_pos z5, if_pos z5, hV (r := cu_Y G j) (by unfold cu_rD cu_rd; omega)]
  rw [if_neg z5, if_neg z5]
  by_cases z6 : cu_O G j = 6
  · rw [if_pos z6, if_pos z6, hM (Or.inl z6)]
  rw [if_neg z6, if_neg z6]
  by_cases z7 : cu_O G j = 7
  · rw [if_pos z7, if_pos z7, hV (r := cu_X G j) (by unfold cu_rD cu_rd; omega)]
  rw [if_neg z7, if_neg z7]
  by_cases z8 : cu_O G j = 8
  · rw [if_pos z8, if_pos z8, hM (Or.inr z8), hV (r := cu_Y G j) (by unfold cu_rD cu_rd; omega)]
  rw [if_neg z8, if_neg z8]
  exact hV (r := cu_Y G j) (by unfold cu_rD cu_rd; omega)
theorem cu_D_b {G : cu_Pr} {n : Nat} {b f : Nat → Nat} {V S M RS : Nat → Int32} (hI : cu_I G n b f) (hD : cu_D G n b f V S M RS) (h16 : ∀ k, cu_T G k ≤ 16) {j : Nat} (hi : b j < cu_T G j) :
    cu_D G n (cu_u b j (b j + 1)) f V S M (upd RS (16 * j + b j) (cu_R G j (b j))) := by
  obtain ⟨h1, h2, h3, h4⟩ := hD
  refine ⟨h1, h2, h3, fun k i hk hfi hib => ?_⟩
  have hT := h16 j
  have hI1 := hI.1 k hk
  have hTk := h16 k
  by_cases z : k = j
  · subst z
    rw [cu_us] at hib
    by_cases y : i = b k
    · subst y
      exact pk_us
    · rw [pk_un (by omega)]
      exact h4 k i hk hfi (by omega)
  · rw [cu_un z] at hib
    rw [pk_un (by omega)]
    exact h4 k i hk hfi hib
/-! issuing instruction n -/
theorem cu_rdS {G : cu_Pr} {n : Nat} {b f : Nat → Nat} {V S M RS : Nat → Int32} (hD : cu_D G n b f V S M RS) (h9 : ∀ e, e < n → cu_O G e = 9 → cu_nM G n (cu_X G e) → f e = cu_T G e) {t : Nat} (ht : cu_nM G n t) : S t = cu_S G n t := by
  obtain ⟨rfl, rfl, rfl, hR⟩ := hD
  exact cu_ES_at n (fun k hk ho hx => h9 k hk ho (by rw [hx]; exact ht))
theorem cu_rdC {G : cu_Pr} {n : Nat} {b f : Nat → Nat} {V S M RS : Nat → Int32} (hD : cu_D G n b f V S M RS) (h9 : ∀ e, e < n → cu_O G e = 9 → cu_nM G n (cu_X G e) → f e = cu_T G e) : cu_sc (cu_O G n) (cu_Y G n) (cu_Z G n) S = cu_C G n := by
  unfold cu_C cu_sc
  by_cases z : cu_O G n = 4 ∨ cu_O G n = 5
  · rw [if_pos z, if_pos z]
    exact cu_rdS hD h9 (Or.inl ⟨z, rfl⟩)
  · rw [if_neg z, if_neg z]
    by_cases y : cu_O G n = 6 ∨ cu_O G n = 7
    · rw [if_pos y, if_pos y]
      exact cu_rdS hD h9 (Or.inr (Or.inl ⟨y, rfl⟩))
    · rw [if_neg y, if_neg y]
def cu_S1 (o x y z : Nat) (yi : Int32) (S : Nat → Int32) : Nat → Int32 :=
  if o = 9 then upd S x 0 else if o = 10 then upd S x yi else if o = 11 then upd S x (S y + S z) else S
theorem cu_D_n {G : cu_Pr} {n : Nat} {b f : Nat → Nat} {V S M RS : Nat → Int32} (hD : cu_D G n b f V S M RS) (h9 : ∀ e, e < n → cu_O G e = 9 → cu_nM G n (cu_X G e) → f e = cu_T G e) (h8 : ∀ e, e < n → cu_mc (cu_O G e) (cu_O G n) → f e = cu_T G e) :
    cu_D G (n + 1) (cu_u b n 0) (cu_u f n 0) V (cu_S1 (cu_O G n) (cu_X G n) (cu_Y G n) (cu_Z G n) (cu_yi G n) S) M RS := by
  have hS : ∀ {t : Nat}, cu_nM G n t → S t = cu_S G n t := fun ht => cu_rdS hD h9 ht
  obtain ⟨hV, hS0, hM, hR⟩ := hD
  refine ⟨?_, ?_, ?_, fun k i hk hfi hib => ?_⟩
  · funext p
    rw [cu_EV_s, cu_us, if_neg (fun y => absurd y.2.2 (by omega)), hV, cu_EV_c (g := f) n (fun k hk => cu_un (by omega))]
  · funext t
    have e0 : cu_ES G (cu_u f n 0) n t = S t := by
      rw [hS0]
      exact cu_ES_c n (fun k hk _ _ => cu_un (by omega))
    rw [cu_ES_s, cu_us, e0]
    unfold cu_S1
    by_cases z9 : cu_O G n = 9
    · rw [if_pos z9]
      by_cases q : cu_X G n = t
      · subst q
        rw [pk_us, if_pos ⟨z9, rfl⟩]
        rfl
      · rw [pk_un (fun e => q e.symm), if_neg (fun y => q y.2), if_neg (fun y => q y.2)]
    rw [if_neg z9, if_neg (show ¬ (cu_O G n = 9 ∧ cu_X G n = t) from fun y => z9 y.1)]
    by_cases z10 : cu_O G n = 10
    · rw [if_pos z10]
      by_cases q : cu_X G n = t
      · subst q
        rw [pk_us, if_pos ⟨Or.inl z10, rfl⟩, cu_S_s, if_neg z9, if_pos z10, pk_us]
      · rw [pk_un (fun e => q e.symm), if_neg (fun y => q y.2)]
    rw [if_neg z10]
    by_cases z11 : cu_O G n = 11
    · rw [if_pos z11]
      by_cases q : cu_X G n = t
      · subst q
        rw [pk_us, if_pos ⟨Or.inr z11, rfl⟩, cu_S_s, if_neg z9, if_neg z10, if_pos z11, pk_us, hS (t := cu_Y G n) (by unfold cu_nM cu_nm; omega), hS (t := cu_Z G n) (by unfold cu_nM cu_nm; omega)]
      · rw [pk_un (fun e => q e.symm), if_neg (fun y => q y.2)]
    rw [if_neg z11, if_neg (show ¬ ((cu_O G n = 10 ∨ cu_O G n = 11) ∧ cu_X G n = t) from fun y => y.1.elim z10 z11)]
  · rw [cu_EM_s, cu_us, cu_EM_c (g := f) n (fun k hk _ => cu_un (by omega)), ← hM]
    by_cases z : cu_O G n = 7
    · rw [if_pos z, hM]
      exact cu_EM_at n (fun k hk ho => h8 k hk (by unfold cu_mc; omega))
    · rw [if_neg z]
  · by_cases z : k = n
    · subst z
      rw [cu_us] at hib
      omega
    · rw [cu_un z] at hib hfi
      exact hR k i (by omega) hfi hib
/-! the small arrays and the cycles -/
theorem cu_A_f {G : cu_Pr} {n : Nat} {b f : Nat → Nat} {TL TS B F : Nat → Int32} (h : cu_A G n b f TL TS B F) {j : Nat} : cu_A G n b (cu_u f j (f j + 1)) TL TS B (upd F j (nI (f j + 1))) := by
  intro k hk
  obtain ⟨h1, h2, h3, h4⟩ := h k hk
  refine ⟨h1, h2, h3, ?_⟩
  by_cases z : k = j
  · subst z; rw [pk_us, cu_us]
  · rw [pk_un z, cu_un z]; exact h4
theorem cu_A_b {G : cu_Pr} {n : Nat} {b f : Nat → Nat} {TL TS B F : Nat → Int32} (h : cu_A G n b f TL TS B F) {j : Nat} : cu_A G n (cu_u b j (b j + 1)) f TL TS (upd B j (nI (b j + 1))) F := by
  intro k hk
  obtain ⟨h1, h2, h3, h4⟩ := h k hk
  refine ⟨h1, h2, ?_, h4⟩
  by_cases z : k = j
  · subst z; rw [pk_us, cu_us]
  · rw [pk_un z, cu_un z]; exact h3
theorem cu_A_n {G : cu_Pr} {n : Nat} {b f : Nat → Nat} {TL TS B F : Nat → Int32} (h : cu_A G n b f TL TS B F) : cu_A G (n + 1) (cu_u b n 0) (cu_u f n 0) (upd TL n (nI (cu_T G n))) (upd TS n (cu_C G n)) (upd B n 0) (upd F n 0) := by
  intro k hk
  by_cases z : k = n
  · subst z; rw [pk_us, pk_us, pk_us, pk_us, cu_us, cu_us]; exact ⟨rfl, rfl, rfl, rfl⟩
  · rw [pk_un z, pk_un z, pk_un z, pk_un z, cu_un z, cu_un z]; exact h k (by omega)
theorem cu_H_f {n : Nat} {b f : Nat → Nat} {RD : Nat → Int32} (h : cu_H n b f RD) {j : Nat} (hj : j < n) : cu_H n b (cu_u f j (f j + 1)) RD := by
  intro k i hk hfi hib
  obtain ⟨r, e, hr⟩ := h k i hk (Nat.le_trans (cu_ule k) hfi) hib
  rw [cu_P_f n hj]
  exact ⟨r, e, by omega⟩
theorem cu_H_b {n : Nat} {b f : Nat → Nat} {RD : Nat → Int32} (h : cu_H n b f RD) {j c d : Nat} (hj : j < n) (h16 : ∀ k, k < n → b k ≤ 16) (hb : b j < 16) (hc : c ≤ 6 * cu_P b f n + 5) (hd : d ≤ 5) : cu_H n (cu_u b j (b j + 1)) f (upd RD (16 * j + b j) (nI (c + d))) := by
  intro k i hk hfi hib
  have hbk := h16 k hk
  rw [cu_P_b n hj]
  by_cases z : k = j
  · subst z
    rw [cu_us] at hib
    by_cases y : i = b k
    · subst y
      rw [pk_us]
      exact ⟨c + d, rfl, by omega⟩
    · rw [pk_un (by omega)]
      obtain ⟨r, e, hr⟩ := h k i hk hfi (by omega)
      exact ⟨r, e, by omega⟩
  · rw [cu_un z] at hib
    rw [pk_un (by omega)]
    obtain ⟨r, e, hr⟩ := h k i hk hfi hib
    exact ⟨r, e, by omega⟩
theorem cu_H_n {n : Nat} {b f : Nat → Nat} {RD : Nat → Int32} (h : cu_H n b f RD) : cu_H (n + 1) (cu_u b n 0) (cu_u f n 0) RD := by
  intro k i hk hfi hib
  rw [cu_P_n n]
  by_cases z : k = n
  · subst z
    rw [cu_us] at hib
    omega
  · rw [cu_un z] at hib hfi
    obtain ⟨r, e, hr⟩ := h k i (by omega) hfi hib
    exact ⟨r, e, by omega⟩
/-! when all is done -/
theorem cu_done {G : cu_Pr} {n : Nat} {b f : Nat → Nat} {V S M RS : Nat → Int32} (hD : cu_D G n b f V S M RS) (hf : ∀ k, k < n → f k = cu_T G k) : V = cu_V G n ∧ S = cu_S G n ∧ M = cu_M G n := by
  obtain ⟨rfl, rfl, rfl, _⟩ := hD
  refine ⟨funext fun p => cu_EV_at n (fun k hk => Nat.le_of_eq (hf k hk)) (fun k hk _ _ h => by rw [hf k hk]; exact h), funext fun t => cu_ES_at n (fun k hk _ _ => hf k hk), cu_EM_at n (fun k hk _ => hf k hk)⟩
