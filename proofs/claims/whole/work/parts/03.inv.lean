/-! the invariant of a run: n issued, b begun, f finished -/
def cu_u (f : Nat → Nat) (j v : Nat) : Nat → Nat := fun k => if k = j then v else f k
theorem cu_us {f : Nat → Nat} {j v : Nat} : cu_u f j v j = v := if_pos rfl
theorem cu_un {f : Nat → Nat} {j v k : Nat} (h : k ≠ j) : cu_u f j v k = f k := if_neg h
theorem cu_ule {f : Nat → Nat} {j : Nat} (k : Nat) : f k ≤ cu_u f j (f j + 1) k := by
  unfold cu_u
  split
  · rename_i h; subst h; omega
  · omega
def cu_P (b f : Nat → Nat) : Nat → Nat
  | 0 => 0
  | k + 1 => cu_P b f k + (1 + b k + f k)
theorem cu_P_c {b f b' f' : Nat → Nat} : ∀ n, (∀ k, k < n → b k = b' k ∧ f k = f' k) → cu_P b f n = cu_P b' f' n
  | 0, _ => rfl
  | n + 1, h => by
    have e := cu_P_c n (fun k hk => h k (by omega))
    have h1 := h n (by omega)
    show cu_P b f n + (1 + b n + f n) = cu_P b' f' n + (1 + b' n + f' n)
    rw [e, h1.1, h1.2]
theorem cu_P_f {b f : Nat → Nat} {j : Nat} : ∀ n, j < n → cu_P b (cu_u f j (f j + 1)) n = cu_P b f n + 1
  | 0, h => absurd h (by omega)
  | n + 1, h => by
    show cu_P b (cu_u f j (f j + 1)) n + (1 + b n + cu_u f j (f j + 1) n) = cu_P b f n + (1 + b n + f n) + 1
    by_cases e : j = n
    · subst e
      rw [cu_us, cu_P_c (b' := b) (f' := f) j (fun k hk => ⟨rfl, cu_un (by omega)⟩)]
      omega
    · rw [cu_P_f n (by omega), cu_un (by omega)]
      omega
theorem cu_P_b {b f : Nat → Nat} {j : Nat} : ∀ n, j < n → cu_P (cu_u b j (b j + 1)) f n = cu_P b f n + 1
  | 0, h => absurd h (by omega)
  | n + 1, h => by
    show cu_P (cu_u b j (b j + 1)) f n + (1 + cu_u b j (b j + 1) n + f n) = cu_P b f n + (1 + b n + f n) + 1
    by_cases e : j = n
    · subst e
      rw [cu_us, cu_P_c (b' := b) (f' := f) j (fun k hk => ⟨cu_un (by omega), rfl⟩)]
      omega
    · rw [cu_P_b n (by omega), cu_un (by omega)]
      omega
theorem cu_P_n {b f : Nat → Nat} (n : Nat) : cu_P (cu_u b n 0) (cu_u f n 0) (n + 1) = cu_P b f n + 1 := by
  show cu_P (cu_u b n 0) (cu_u f n 0) n + (1 + cu_u b n 0 n + cu_u f n 0 n) = cu_P b f n + 1
  rw [cu_us, cu_us, cu_P_c (b' := b) (f' := f) n (fun k hk => ⟨cu_un (by omega), cu_un (by omega)⟩)]
theorem cu_P_le {b f : Nat → Nat} : ∀ n, (∀ k, k < n → b k ≤ 16 ∧ f k ≤ 16) → cu_P b f n ≤ 33 * n
  | 0, _ => by unfold cu_P; omega
  | n + 1, h => by
    have e := cu_P_le n (fun k hk => h k (by omega))
    have h1 := h n (by omega)
    show cu_P b f n + (1 + b n + f n) ≤ 33 * (n + 1)
    omega
def cu_I (G : cu_Pr) (n : Nat) (b f : Nat → Nat) : Prop :=
  (∀ j, j < n → f j ≤ b j ∧ b j ≤ cu_T G j) ∧
  (∀ e j i, e < j → j < n → i < b j → i < cu_T G e → cu_wr (cu_O G e) → (cu_rD G j (cu_X G e) ∨ (cu_wr (cu_O G j) ∧ cu_X G j = cu_X G e)) → i < f e) ∧
  (∀ e j i, e < j → j < n → i < b j → i < cu_T G e → cu_wr (cu_O G j) → cu_rD G e (cu_X G j) → i < b e) ∧
  (∀ e j, e < j → j < n → cu_O G e = 9 → cu_nM G j (cu_X G e) → f e = cu_T G e) ∧
  (∀ e j, e < j → j < n → cu_mc (cu_O G e) (cu_O G j) → f e = cu_T G e)
def cu_D (G : cu_Pr) (n : Nat) (b f : Nat → Nat) (V S M RS : Nat → Int32) : Prop :=
  V = cu_EV G f n ∧ S = cu_ES G f n ∧ M = cu_EM G f n ∧ ∀ j i, j < n → f j ≤ i → i < b j → RS (16 * j + i) = cu_R G j i
def cu_A (G : cu_Pr) (n : Nat) (b f : Nat → Nat) (TL TS B F : Nat → Int32) : Prop :=
  ∀ j, j < n → TL j = nI (cu_T G j) ∧ TS j = cu_C G j ∧ B j = nI (b j) ∧ F j = nI (f j)
def cu_H (n : Nat) (b f : Nat → Nat) (RD : Nat → Int32) : Prop :=
  ∀ j i, j < n → f j ≤ i → i < b j → ∃ r : Nat, RD (16 * j + i) = nI r ∧ r ≤ 6 * cu_P b f n + 4
theorem cu_I_f {G : cu_Pr} {n : Nat} {b f : Nat → Nat} (h : cu_I G n b f) {j : Nat} (hj : j < n) (hi : f j < b j) : cu_I G n b (cu_u f j (f j + 1)) := by
  obtain ⟨h1, h2, h3, h4, h5⟩ := h
  have hT := (h1 j hj).2
  have keep : ∀ e, f e = cu_T G e → cu_u f j (f j + 1) e = cu_T G e := fun e he => by
    by_cases z : e = j
    · subst z; omega
    · rw [cu_un z]; exact he
  refine ⟨fun k hk => ?_, fun e k i h6 h7 h8 h9 ha hb => ?_, h3, fun e k h6 h7 h8 h9 => keep e (h4 e k h6 h7 h8 h9), fun e k h6 h7 h8 => keep e (h5 e k h6 h7 h8)⟩
  · by_cases z : k = j
    · subst z; rw [cu_us]; exact ⟨hi, hT⟩
    · rw [cu_un z]; exact h1 k hk
  · exact Nat.lt_of_lt_of_le (h2 e k i h6 h7 h8 h9 ha hb) (cu_ule e)
def cu_go (G : cu_Pr) (b f : Nat → Nat) (e j i : Nat) : Prop :=
  (cu_wr (cu_O G e) → (cu_rD G j (cu_X G e) ∨ (cu_wr (cu_O G j) ∧ cu_X G j = cu_X G e)) → i < f e) ∧ (cu_wr (cu_O G j) → cu_rD G e (cu_X G j) → i < b e)
theorem cu_I_b {G : cu_Pr} {n : Nat} {b f : Nat → Nat} (h : cu_I G n b f) {j : Nat} (hj : j < n) (hi : b j < cu_T G j) (hg : ∀ e, e < j → b j < cu_T G e → cu_go G b f e j (b j)) : cu_I G n (cu_u b j (b j + 1)) f := by
  obtain ⟨h1, h2, h3, h4, h5⟩ := h
  refine ⟨fun k hk => ?_, fun e k i h6 h7 h8 h9 ha hb => ?_, fun e k i h6 h7 h8 h9 ha hb => ?_, h4, h5⟩
  · by_cases z : k = j
    · subst z; rw [cu_us]; have := h1 k hk; omega
    · rw [cu_un z]; exact h1 k hk
  · by_cases z : k = j
    · subst z
      rw [cu_us] at h8
      by_cases y : i = b k
      · subst y
        exact (hg e h6 h9).1 ha hb
      · exact h2 e k i h6 h7 (by omega) h9 ha hb
    · rw [cu_un z] at h8
      exact h2 e k i h6 h7 h8 h9 ha hb
  · refine Nat.lt_of_lt_of_le ?_ (cu_ule e)
    by_cases z : k = j
    · subst z
      rw [cu_us] at h8
      by_cases y : i = b k
      · subst y
        exact (hg e h6 h9).2 ha hb
      · exact h3 e k i h6 h7 (by omega) h9 ha hb
    · rw [cu_un z] at h8
      exact h3 e k i h6 h7 h8 h9 ha hb
theorem cu_I_n {G : cu_Pr} {n : Nat} {b f : Nat → Nat} (h : cu_I G n b f) (h9 : ∀ e, e < n → cu_O G e = 9 → cu_nM G n (cu_X G e) → f e = cu_T G e) (h8 : ∀ e, e < n → cu_mc (cu_O G e) (cu_O G n) → f e = cu_T G e) : cu_I G (n + 1) (cu_u b n 0) (cu_u f n 0) := by
  obtain ⟨h1, h2, h3, h4, h5⟩ := h
  refine ⟨fun k hk => ?_, fun e k i ha hb hc hd => ?_, fun e k i ha hb hc hd => ?_, fun e k ha hb hc hd => ?_, fun e k ha hb hc => ?_⟩
  · by_cases z : k = n
    · subst z; rw [cu_us, cu_us]; omega
    · rw [cu_un z, cu_un z]; exact h1 k (by omega)
  · by_cases z : k = n
    · subst z; rw [cu_us] at hc; omega
    · rw [cu_un z] at hc
      rw [cu_un (show e ≠ n by omega)]
      exact h2 e k i ha (by omega) hc hd
  · by_cases z : k = n
    · subst z; rw [cu_us] at hc; omega
    · rw [cu_un z] at hc
      rw [cu_un (show e ≠ n by omega)]
      exact h3 e k i ha (by omega) hc hd
  · rw [cu_un (show e ≠ n by omega)]
    by_cases z : k = n
    · subst z; exact h9 e ha hc hd
    · exact h4 e k ha (by omega) hc hd
  · rw [cu_un (show e ≠ n by omega)]
    by_cases z : k = n
    · subst z; exact h8 e ha hc
    · exact h5 e k ha (by omega) hc
/-! a store by element i of instruction j -/
theorem cu_EVf_o {G : cu_Pr} {f : Nat → Nat} {j : Nat} (hw : ¬ cu_wr (cu_O G j)) : ∀ n, cu_EV G (cu_u f j (f j + 1)) n = cu_EV G f n
  | 0 => rfl
  | n + 1 => by
    funext p
    rw [cu_EV_s, cu_EV_s, cu_EVf_o hw n]
    by_cases z : n = j
    · subst z
      rw [if_neg (fun y => hw y.1), if_neg (fun y => hw y.1)]
    · rw [cu_un z]
theorem cu_EVf_w {G : cu_Pr} {f : Nat → Nat} {j : Nat} (hw : cu_wr (cu_O G j)) (hf : f j < 16) : ∀ n, j < n → (∀ k, j < k → k < n → cu_wr (cu_O G k) → cu_X G k = cu_X G j → ¬ f j < f k) → cu_EV G (cu_u f j (f j + 1)) n = upd (cu_EV G f n) (16 * cu_X G j + f j) (cu_R G j (f j))
  | 0, h, _ => absurd h (by omega)
  | n + 1, h, hk => by
    funext p
    have e1 : (16 * cu_X G j + f j) / 16 = cu_X G j := by omega
    have e2 : (16 * cu_X G j + f j) % 16 = f j := by omega
    by_cases z : n = j
    · subst z
      rw [cu_EV_s, cu_us, cu_EV_c (g := f) n (fun k hk => cu_un (by omega))]
      by_cases q : p = 16 * cu_X G n + f n
      · subst q
        rw [pk_us, e1, e2, if_pos ⟨hw, rfl, by omega⟩]
      · rw [pk_un q, cu_EV_s]
        by_cases y : cu_wr (cu_O G n) ∧ cu_X G n = p / 16 ∧ p % 16 < f n
        · rw [if_pos y, if_pos ⟨y.1, y.2.1, by omega⟩]
        · rw [if_neg y, if_neg (fun x => y ⟨x.1, x.2.1, by have := x.2.1; have := x.2.2; omega⟩)]
    · have e := cu_EVf_w hw hf n (by omega) (fun k h1 h2 => hk k h1 (by omega))
      rw [cu_EV_s, e, cu_un z]
      by_cases q : p = 16 * cu_X G j + f j
      · subst q
        rw [pk_us, pk_us, e1, e2, if_neg (fun y => hk n (by omega) (by omega) y.1 y.2.1 y.2.2)]
      · rw [pk_un q, pk_un q, cu_EV_s]
theorem cu_D_v {G : cu_Pr} {n : Nat} {b f : Nat → Nat} {V S M RS : Nat → Int32} (hI : cu_I G n b f) (hD : cu_D G n b f V S M RS) {j : Nat} (hj : j < n) (hi : f j < b j) (h16 : cu_T G j ≤ 16) (hw : cu_wr (cu_O G j)) :
    cu_D G n b (cu_u f j (f j + 1)) (upd V (16 * cu_X G j + f j) (RS (16 * j + f j))) S M RS := by
  obtain ⟨h1, h2, h3, h4, h5⟩ := hI
  obtain ⟨rfl, rfl, rfl, hR⟩ := hD
  have hb := (h1 j hj).2
  have hn9 : ¬ cu_O G j = 9 := by unfold cu_wr at hw; omega
  have hn7 : ¬ cu_O G j = 7 := by unfold cu_wr at hw; omega
  refine ⟨?_, ?_, ?_, fun k i hk hfi hib => hR k i hk (Nat.le_trans (cu_ule k) hfi) hib⟩
  · rw [hR j (f j) hj (Nat.le_refl _) hi]
    refine (cu_EVf_w hw (by omega) n hj (fun k hjk hkn wk xk hlt => ?_)).symm
    have := h2 j k (f j) hjk hkn (by have := (h1 k hkn).1; omega) (by omega) hw (Or.inr ⟨wk, xk⟩)
    omega
  · funext t
    refine (cu_ES_c n (fun k hk ho _ => cu_un (fun e => by subst e; exact absurd ho hn9))).symm
  · exact (cu_EM_c n (fun k hk ho => cu_un (fun e => by subst e; exact absurd ho hn7))).symm
theorem cu_D_m {G : cu_Pr} {n : Nat} {b f : Nat → Nat} {V S M RS : Nat → Int32} (hI : cu_I G n b f) (hD : cu_D G n b f V S M RS) {j : Nat} (hj : j < n) (hi : f j < b j) (h7 : cu_O G j = 7) :
    cu_D G n b (cu_u f j (f j + 1)) V S (upd M (cu_ca (cu_C G j) (cu_zi G j) (f j)) (RS (16 * j + f j))) RS := by
  obtain ⟨h1, h2, h3, h4, h5⟩ := hI
  obtain ⟨rfl, rfl, rfl, hR⟩ := hD
  have hb := (h1 j hj).2
  refine ⟨?_, ?_, ?_, fun k i hk hfi hib => hR k i hk (Nat.le_trans (cu_ule k) hfi) hib⟩
  · exact (cu_EVf_o (by unfold cu_wr; omega) n).symm
  · funext t
    refine (cu_ES_c n (fun k hk ho _ => cu_un (fun e => by subst e; omega))).symm
  · obtain ⟨d, rfl⟩ : ∃ d, n = j + 1 + d := ⟨n - (j + 1), by omega⟩
    have ht : ∀ k, j + 1 ≤ k → k < j + 1 + d → ¬ cu_O G k = 7 := fun k hk hk2 ho => by
      have := h5 j k (by omega) hk2 ⟨by omega, by omega, by omega⟩
      omega
    rw [cu_EM_t d ht, cu_EM_t d ht, cu_EM_s, cu_EM_s, if_pos h7, if_pos h7, cu_us, hR j (f j) hj (Nat.le_refl _) hi]
    show _ = upd (cu_Q G j (f j)) _ (cu_V G j (16 * cu_X G j + f j))
    unfold cu_R cu_res
    simp only [h7]
    rfl
theorem cu_D_s {G : cu_Pr} {n : Nat} {b f : Nat → Nat} {V S M RS : Nat → Int32} (hI : cu_I G n b f) (hD : cu_D G n b f V S M RS) {j : Nat} (hj : j < n) (hi : f j < b j) (h9 : cu_O G j = 9) :
    cu_D G n b (cu_u f j (f j + 1)) V (upd S (cu_X G j) (S (cu_X G j) + RS (16 * j + f j))) M RS := by
  obtain ⟨h1, h2, h3, h4, h5⟩ := hI
  obtain ⟨rfl, rfl, rfl, hR⟩ := hD
  have hb := (h1 j hj).2
  refine ⟨?_, ?_, ?_, fun k i hk hfi hib => hR k i hk (Nat.le_trans (cu_ule k) hfi) hib⟩
  · exact (cu_EVf_o (by unfold cu_wr; omega) n).symm
  · funext t
    by_cases q : t = cu_X G j
    · subst q
      obtain ⟨d, rfl⟩ : ∃ d, n = j + 1 + d := ⟨n - (j + 1), by omega⟩
      have ht : ∀ k, j + 1 ≤ k → k < j + 1 + d → cu_X G k = cu_X G j → ¬ (cu_O G k = 9 ∨ cu_O G k = 10 ∨ cu_O G k = 11) := fun k hk hk2 hx ho => by
        have := h4 j k (by omega) hk2 h9 (by unfold cu_nM cu_nm; omega)
        omega
      rw [pk_us, cu_ES_t d ht, cu_ES_t d ht, cu_ES_s, cu_ES_s, if_pos ⟨h9, rfl⟩, if_pos ⟨h9, rfl⟩, cu_us, hR j (f j) hj (Nat.le_refl _) hi]
      show _ = cu_q G j (f j) + cu_V G j (16 * cu_Y G j + f j)
      unfold cu_R cu_res
      simp only [h9]
      rfl
    · rw [pk_un q]
      exact (cu_ES_c n (fun k hk ho hx => cu_un (fun e => by subst e; exact q hx.symm))).symm
  · exact (cu_EM_c n (fun k hk ho => cu_un (fun e => by subst e; omega))).symm
