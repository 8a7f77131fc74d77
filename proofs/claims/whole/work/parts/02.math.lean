/-! the plain reading of a program, instruction by instruction -/
abbrev cu_St : Type := (Nat → Int32) × (Nat → Int32) × (Nat → Int32) × Nat
abbrev cu_Pr : Type := (Nat → Nat) × (Nat → Nat) × (Nat → Nat) × (Nat → Nat) × (Nat → Int32) × (Nat → Int32) × cu_St
abbrev cu_wr (o : Nat) : Prop := o ≤ 6 ∨ o = 8
abbrev cu_rd (o x y z v : Nat) : Prop := (o ≤ 3 ∧ (y = v ∨ z = v)) ∨ ((o = 4 ∨ o = 5 ∨ o = 8 ∨ o = 9) ∧ y = v) ∨ (o = 7 ∧ x = v)
abbrev cu_nm (o x y z s : Nat) : Prop := ((o = 4 ∨ o = 5) ∧ z = s) ∨ ((o = 6 ∨ o = 7) ∧ y = s) ∨ (o = 11 ∧ (x = s ∨ y = s ∨ z = s)) ∨ ((o = 9 ∨ o = 10 ∨ o = 12) ∧ x = s)
abbrev cu_mc (o p : Nat) : Prop := (o = 6 ∨ o = 7 ∨ o = 8) ∧ (p = 6 ∨ p = 7 ∨ p = 8) ∧ (o = 7 ∨ p = 7)
def cu_ca (sc zi : Int32) (i : Nat) : Nat := ((sc + nI i * zi) &&& 63).toNatClampNeg
def cu_sc (o y z : Nat) (S : Nat → Int32) : Int32 := if o = 4 ∨ o = 5 then S z else if o = 6 ∨ o = 7 then S y else 0
def cu_mx (a b : Int32) : Int32 := if a ≤ b then b else a
def cu_res (o x y z : Nat) (zi sc : Int32) (V M : Nat → Int32) (i : Nat) : Int32 :=
  if o = 0 then V (16 * y + i) + V (16 * z + i) else if o = 1 then V (16 * y + i) - V (16 * z + i)
  else if o = 2 then V (16 * y + i) * V (16 * z + i) else if o = 3 then cu_mx (V (16 * y + i)) (V (16 * z + i))
  else if o = 4 then V (16 * y + i) + sc else if o = 5 then V (16 * y + i) * sc
  else if o = 6 then M (cu_ca sc zi i) else if o = 7 then V (16 * x + i)
  else if o = 8 then M (V (16 * y + i) &&& 63).toNatClampNeg else V (16 * y + i)
def cu_Mp (sc zi : Int32) (x : Nat) (V M : Nat → Int32) : Nat → Nat → Int32
  | 0 => M
  | i + 1 => upd (cu_Mp sc zi x V M i) (cu_ca sc zi i) (V (16 * x + i))
def cu_ps (y : Nat) (V : Nat → Int32) : Nat → Int32
  | 0 => 0
  | i + 1 => cu_ps y V i + V (16 * y + i)
def cu_cl (s : Int32) : Nat := if s < 0 then 0 else if s ≤ 16 then s.toNatClampNeg else 16
def cu_step (o x y z : Nat) (yi zi : Int32) (s : cu_St) : cu_St :=
  (fun p => if cu_wr o ∧ x = p / 16 ∧ p % 16 < s.2.2.2 then cu_res o x y z zi (cu_sc o y z s.2.1) s.1 s.2.2.1 (p % 16) else s.1 p,
   if o = 9 then upd s.2.1 x (cu_ps y s.1 s.2.2.2) else if o = 10 then upd s.2.1 x yi else if o = 11 then upd s.2.1 x (s.2.1 y + s.2.1 z) else s.2.1,
   if o = 7 then cu_Mp (cu_sc o y z s.2.1) zi x s.1 s.2.2.1 s.2.2.2 else s.2.2.1,
   if o = 12 then cu_cl (s.2.1 x) else s.2.2.2)
def cu_O (G : cu_Pr) : Nat → Nat := G.1
def cu_X (G : cu_Pr) : Nat → Nat := G.2.1
def cu_Y (G : cu_Pr) : Nat → Nat := G.2.2.1
def cu_Z (G : cu_Pr) : Nat → Nat := G.2.2.2.1
def cu_yi (G : cu_Pr) : Nat → Int32 := G.2.2.2.2.1
def cu_zi (G : cu_Pr) : Nat → Int32 := G.2.2.2.2.2.1
def cu_st (G : cu_Pr) : Nat → cu_St
  | 0 => G.2.2.2.2.2.2
  | k + 1 => cu_step (cu_O G k) (cu_X G k) (cu_Y G k) (cu_Z G k) (cu_yi G k) (cu_zi G k) (cu_st G k)
def cu_V (G : cu_Pr) (k : Nat) : Nat → Int32 := (cu_st G k).1
def cu_S (G : cu_Pr) (k : Nat) : Nat → Int32 := (cu_st G k).2.1
def cu_M (G : cu_Pr) (k : Nat) : Nat → Int32 := (cu_st G k).2.2.1
def cu_L (G : cu_Pr) (k : Nat) : Nat := (cu_st G k).2.2.2
def cu_C (G : cu_Pr) (k : Nat) : Int32 := cu_sc (cu_O G k) (cu_Y G k) (cu_Z G k) (cu_S G k)
def cu_R (G : cu_Pr) (k i : Nat) : Int32 := cu_res (cu_O G k) (cu_X G k) (cu_Y G k) (cu_Z G k) (cu_zi G k) (cu_C G k) (cu_V G k) (cu_M G k) i
def cu_Q (G : cu_Pr) (k i : Nat) : Nat → Int32 := cu_Mp (cu_C G k) (cu_zi G k) (cu_X G k) (cu_V G k) (cu_M G k) i
def cu_q (G : cu_Pr) (k i : Nat) : Int32 := cu_ps (cu_Y G k) (cu_V G k) i
def cu_T (G : cu_Pr) (k : Nat) : Nat := if cu_O G k ≤ 9 then cu_L G k else 0
abbrev cu_rD (G : cu_Pr) (j v : Nat) : Prop := cu_rd (cu_O G j) (cu_X G j) (cu_Y G j) (cu_Z G j) v
abbrev cu_nM (G : cu_Pr) (j v : Nat) : Prop := cu_nm (cu_O G j) (cu_X G j) (cu_Y G j) (cu_Z G j) v
theorem cu_V_s (G : cu_Pr) (k p : Nat) : cu_V G (k + 1) p = if cu_wr (cu_O G k) ∧ cu_X G k = p / 16 ∧ p % 16 < cu_L G k then cu_R G k (p % 16) else cu_V G k p := rfl
theorem cu_M_s (G : cu_Pr) (k : Nat) : cu_M G (k + 1) = if cu_O G k = 7 then cu_Q G k (cu_L G k) else cu_M G k := rfl
theorem cu_S_s (G : cu_Pr) (k : Nat) : cu_S G (k + 1) = if cu_O G k = 9 then upd (cu_S G k) (cu_X G k) (cu_q G k (cu_L G k)) else if cu_O G k = 10 then upd (cu_S G k) (cu_X G k) (cu_yi G k) else if cu_O G k = 11 then upd (cu_S G k) (cu_X G k) (cu_S G k (cu_Y G k) + cu_S G k (cu_Z G k)) else cu_S G k := rfl
theorem cu_L_s (G : cu_Pr) (k : Nat) : cu_L G (k + 1) = if cu_O G k = 12 then cu_cl (cu_S G k (cu_X G k)) else cu_L G k := rfl
theorem cu_cl16 (s : Int32) : cu_cl s ≤ 16 := by
  unfold cu_cl
  split
  · omega
  · split
    · rename_i h0 h1
      obtain ⟨j, hj, rfl⟩ := nI_of h0
      rw [nI_clamp hj]
      exact (nI_leI hj (by omega)).mp h1
    · omega
theorem cu_L16 {G : cu_Pr} (h : cu_L G 0 ≤ 16) : ∀ k, cu_L G k ≤ 16
  | 0 => h
  | k + 1 => by
    rw [cu_L_s]
    split
    · exact cu_cl16 _
    · exact cu_L16 h k
theorem cu_T16 {G : cu_Pr} (h : cu_L G 0 ≤ 16) (k : Nat) : cu_T G k ≤ 16 := by
  have := cu_L16 h k
  unfold cu_T
  split <;> omega
theorem cu_TL {G : cu_Pr} {k : Nat} (h : cu_O G k ≤ 9) : cu_T G k = cu_L G k := if_pos h
/-! what the arrays hold when instruction k < n has finished f k elements -/
def cu_EV (G : cu_Pr) (f : Nat → Nat) : Nat → Nat → Int32
  | 0 => cu_V G 0
  | k + 1 => fun p => if cu_wr (cu_O G k) ∧ cu_X G k = p / 16 ∧ p % 16 < f k then cu_R G k (p % 16) else cu_EV G f k p
def cu_EM (G : cu_Pr) (f : Nat → Nat) : Nat → Nat → Int32
  | 0 => cu_M G 0
  | k + 1 => if cu_O G k = 7 then cu_Q G k (f k) else cu_EM G f k
def cu_ES (G : cu_Pr) (f : Nat → Nat) : Nat → Nat → Int32
  | 0 => cu_S G 0
  | k + 1 => fun t => if cu_O G k = 9 ∧ cu_X G k = t then cu_q G k (f k) else if (cu_O G k = 10 ∨ cu_O G k = 11) ∧ cu_X G k = t then cu_S G (k + 1) t else cu_ES G f k t
theorem cu_EV_s (G : cu_Pr) (f : Nat → Nat) (k p : Nat) : cu_EV G f (k + 1) p = if cu_wr (cu_O G k) ∧ cu_X G k = p / 16 ∧ p % 16 < f k then cu_R G k (p % 16) else cu_EV G f k p := rfl
theorem cu_EM_s (G : cu_Pr) (f : Nat → Nat) (k : Nat) : cu_EM G f (k + 1) = if cu_O G k = 7 then cu_Q G k (f k) else cu_EM G f k := rfl
theorem cu_ES_s (G : cu_Pr) (f : Nat → Nat) (k t : Nat) : cu_ES G f (k + 1) t = if cu_O G k = 9 ∧ cu_X G k = t then cu_q G k (f k) else if (cu_O G k = 10 ∨ cu_O G k = 11) ∧ cu_X G k = t then cu_S G (k + 1) t else cu_ES G f k t := rfl
theorem cu_EV_c {G : cu_Pr} {f g : Nat → Nat} : ∀ n, (∀ k, k < n → f k = g k) → cu_EV G f n = cu_EV G g n
  | 0, _ => rfl
  | n + 1, h => by
    have e := cu_EV_c (G := G) n (fun k hk => h k (by omega))
    funext p
    rw [cu_EV_s, cu_EV_s, e, h n (by omega)]
theorem cu_EM_c {G : cu_Pr} {f g : Nat → Nat} : ∀ n, (∀ k, k < n → cu_O G k = 7 → f k = g k) → cu_EM G f n = cu_EM G g n
  | 0, _ => rfl
  | n + 1, h => by
    have e := cu_EM_c (G := G) n (fun k hk => h k (by omega))
    rw [cu_EM_s, cu_EM_s, e]
    split
    · rw [h n (by omega) (by assumption)]
    · rfl
theorem cu_ES_c {G : cu_Pr} {f g : Nat → Nat} {t : Nat} : ∀ n, (∀ k, k < n → cu_O G k = 9 → cu_X G k = t → f k = g k) → cu_ES G f n t = cu_ES G g n t
  | 0, _ => rfl
  | n + 1, h => by
    have e := cu_ES_c (G := G) (t := t) n (fun k hk => h k (by omega))
    rw [cu_ES_s, cu_ES_s, e]
    by_cases z : cu_O G n = 9 ∧ cu_X G n = t
    · rw [if_pos z, if_pos z, h n (by omega) z.1 z.2]
    · rw [if_neg z, if_neg z]
theorem cu_EV_at {G : cu_Pr} {f : Nat → Nat} {p : Nat} : ∀ m, (∀ k, k < m → f k ≤ cu_T G k) → (∀ k, k < m → cu_wr (cu_O G k) → cu_X G k = p / 16 → p % 16 < cu_T G k → p % 16 < f k) → cu_EV G f m p = cu_V G m p
  | 0, _, _ => rfl
  | m + 1, hf, h => by
    have e := cu_EV_at (G := G) (f := f) (p := p) m (fun k hk => hf k (by omega)) (fun k hk => h k (by omega))
    rw [cu_EV_s, cu_V_s, e]
    have h1 := h m (by omega)
    have h2 := hf m (by omega)
    by_cases w : cu_wr (cu_O G m) ∧ cu_X G m = p / 16
    · have ht : cu_T G m = cu_L G m := cu_TL (by have := w.1; unfold cu_wr at this; omega)
      by_cases z : p % 16 < cu_L G m
      · rw [if_pos ⟨w.1, w.2, h1 w.1 w.2 (by omega)⟩, if_pos ⟨w.1, w.2, z⟩]
      · rw [if_neg (fun y => z (by have := y.2.2; omega)), if_neg (fun y => z y.2.2)]
    · rw [if_neg (fun y => w ⟨y.1, y.2.1⟩), if_neg (fun y => w ⟨y.1, y.2.1⟩)]
theorem cu_EV_t {G : cu_Pr} {f : Nat → Nat} {m p : Nat} : ∀ d, (∀ k, m ≤ k → k < m + d → cu_wr (cu_O G k) → cu_X G k = p / 16 → ¬ p % 16 < f k) → cu_EV G f (m + d) p = cu_EV G f m p
  | 0, _ => rfl
  | d + 1, h => by
    have e := cu_EV_t (G := G) (f := f) (m := m) (p := p) d (fun k h1 h2 => h k h1 (by omega))
    rw [← Nat.add_assoc, cu_EV_s, e, if_neg (fun y => h (m + d) (by omega) (by omega) y.1 y.2.1 y.2.2)]
theorem cu_EM_at {G : cu_Pr} {f : Nat → Nat} : ∀ m, (∀ k, k < m → cu_O G k = 7 → f k = cu_T G k) → cu_EM G f m = cu_M G m
  | 0, _ => rfl
  | m + 1, h => by
    have e := cu_EM_at (G := G) (f := f) m (fun k hk => h k (by omega))
    rw [cu_EM_s, cu_M_s, e]
    by_cases z : cu_O G m = 7
    · rw [if_pos z, if_pos z, h m (by omega) z, cu_TL (by omega)]
    · rw [if_neg z, if_neg z]
theorem cu_EM_t {G : cu_Pr} {f : Nat → Nat} {m : Nat} : ∀ d, (∀ k, m ≤ k → k < m + d → ¬ cu_O G k = 7) → cu_EM G f (m + d) = cu_EM G f m
  | 0, _ => rfl
  | d + 1, h => by
    have e := cu_EM_t (G := G) (f := f) (m := m) d (fun k h1 h2 => h k h1 (by omega))
    rw [← Nat.add_assoc, cu_EM_s, e, if_neg (h (m + d) (by omega) (by omega))]
theorem cu_S_n {G : cu_Pr} {k t : Nat} (h : ¬ ((cu_O G k = 9 ∨ cu_O G k = 10 ∨ cu_O G k = 11) ∧ cu_X G k = t)) : cu_S G (k + 1) t = cu_S G k t := by
  rw [cu_S_s]
  by_cases z : cu_X G k = t
  · have : ¬ cu_O G k = 9 ∧ ¬ cu_O G k = 10 ∧ ¬ cu_O G k = 11 := by omega
    rw [if_neg this.1, if_neg this.2.1, if_neg this.2.2]
  · have z' : t ≠ cu_X G k := fun e => z e.symm
    split
    · exact pk_un z'
    · split
      · exact pk_un z'
      · split
        · exact pk_un z'
        · rfl
theorem cu_ES_at {G : cu_Pr} {f : Nat → Nat} {t : Nat} : ∀ m, (∀ k, k < m → cu_O G k = 9 → cu_X G k = t → f k = cu_T G k) → cu_ES G f m t = cu_S G m t
  | 0, _ => rfl
  | m + 1, h => by
    have e := cu_ES_at (G := G) (f := f) (t := t) m (fun k hk => h k (by omega))
    rw [cu_ES_s, e]
    by_cases z : cu_O G m = 9 ∧ cu_X G m = t
    · rw [if_pos z, h m (by omega) z.1 z.2, cu_TL (by omega), cu_S_s, if_pos z.1, z.2, pk_us]
    · rw [if_neg z]
      by_cases y : (cu_O G m = 10 ∨ cu_O G m = 11) ∧ cu_X G m = t
      · rw [if_pos y]
      · rw [if_neg y]
        exact (cu_S_n (by omega)).symm
theorem cu_ES_t {G : cu_Pr} {f : Nat → Nat} {m t : Nat} : ∀ d, (∀ k, m ≤ k → k < m + d → cu_X G k = t → ¬ (cu_O G k = 9 ∨ cu_O G k = 10 ∨ cu_O G k = 11)) → cu_ES G f (m + d) t = cu_ES G f m t
  | 0, _ => rfl
  | d + 1, h => by
    have e := cu_ES_t (G := G) (f := f) (m := m) (t := t) d (fun k h1 h2 => h k h1 (by omega))
    have h0 := h (m + d) (by omega) (by omega)
    rw [← Nat.add_assoc, cu_ES_s, e, if_neg (fun y => h0 y.2 (Or.inl y.1)), if_neg (fun y => h0 y.2 (Or.inr y.1))]
