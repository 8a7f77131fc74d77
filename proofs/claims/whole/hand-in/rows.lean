section
theorem pk_us {f : Nat → Int32} {k : Nat} {x : Int32} : upd f k x k = x := if_pos rfl
theorem pk_un {f : Nat → Int32} {k j : Nat} {x : Int32} (h : j ≠ k) : upd f k x j = f j := if_neg h
theorem pk_sub {a b : Nat} (h : b ≤ a) : nI a - nI b = nI (a - b) := by
  obtain ⟨c, rfl⟩ : ∃ c, a = c + b := ⟨a - b, by omega⟩
  rw [← nI_add, Int32.add_sub_cancel, Nat.add_sub_cancel]
theorem pk_mul (a b : Nat) : nI a * nI b = nI (a * b) := (Int32.ofNat_mul a b).symm
theorem pk_ix (x : Int32) {n : Nat} (hn : n < 2 ^ 31) : x < 0 ∨ nI n ≤ x ∨ ∃ j : Nat, j < n ∧ x = nI j := by
  by_cases h : x < 0
  · exact Or.inl h
  · obtain ⟨j, hj, rfl⟩ := nI_of h
    by_cases h2 : j < n
    · exact Or.inr (Or.inr ⟨j, h2, rfl⟩)
    · exact Or.inr (Or.inl (nI_le (by omega) hj))
theorem pk_le {x y : Int32} {A B : Prop} (a b : Nat) (f : a ≤ b → A) (g : b < a → B) (hx : x = nI a := by rfl) (hy : y = nI b := by rfl) (ha : a < 2 ^ 31 := by omega) (hb : b < 2 ^ 31 := by omega) : (x ≤ y → A) ∧ (¬ x ≤ y → B) := by
  subst hx hy
  rw [nI_leI ha hb]
  exact ⟨f, fun z => g (by omega)⟩
theorem pk_lt {x y : Int32} {A B : Prop} (a b : Nat) (f : a < b → A) (g : b ≤ a → B) (hx : x = nI a := by rfl) (hy : y = nI b := by rfl) (ha : a < 2 ^ 31 := by omega) (hb : b < 2 ^ 31 := by omega) : (x < y → A) ∧ (¬ x < y → B) := by
  subst hx hy
  rw [nI_ltI ha hb]
  exact ⟨f, fun z => g (by omega)⟩
theorem pk_eq {x y : Int32} {A B : Prop} (a b : Nat) (f : a = b → A) (g : a ≠ b → B) (hx : x = nI a := by rfl) (hy : y = nI b := by rfl) (ha : a < 2 ^ 31 := by omega) (hb : b < 2 ^ 31 := by omega) : (x = y → A) ∧ (¬ x = y → B) := by
  subst hx hy
  rw [nI_eq ha hb]
  exact ⟨f, g⟩
theorem pk_in {x : Int32} (n N : Nat) (h : n < N) (hx : x = nI n := by rfl) (hN : N < 2 ^ 31 := by omega) : vp_in x N := by
  subst hx
  exact vp_in_nI h hN
theorem pk_cl {x : Int32} (n : Nat) (hx : x = nI n := by rfl) (h : n < 2 ^ 31 := by omega) : x.toNatClampNeg = n := by
  subst hx
  exact nI_clamp h
theorem pk_tn {n : Nat} (h : n < 2 ^ 32) : (nI n).toBitVec.toNat = n := Nat.mod_eq_of_lt h
theorem pk_and (x : Int32) {m : Int32} (k : Nat) (hm : m.toBitVec.toNat = 2 ^ k - 1) : x &&& m = nI (x.toBitVec.toNat % 2 ^ k) := by
  apply Int32.toBitVec_inj.mp
  apply BitVec.eq_of_toNat_eq
  rw [Int32.toBitVec_and, BitVec.toNat_and, hm, Nat.and_two_pow_sub_one_eq_mod]
  show _ = (BitVec.ofNat 32 _).toNat
  rw [BitVec.toNat_ofNat]
  exact (Nat.mod_eq_of_lt (Nat.lt_of_le_of_lt (Nat.mod_le _ _) x.toBitVec.isLt)).symm
theorem pk_andE (x : Int32) {m : Int32} (k : Nat) (hm : m.toBitVec.toNat = 2 ^ k - 1) : ∃ j : Nat, j < 2 ^ k ∧ x &&& m = nI j := ⟨_, Nat.mod_lt _ (Nat.two_pow_pos k), pk_and x k hm⟩
theorem pk_andIn (x : Int32) {m : Int32} (k : Nat) (hm : m.toBitVec.toNat = 2 ^ k - 1) (hk : k ≤ 30) : vp_in (x &&& m) (2 ^ k) := by
  obtain ⟨j, hj, e⟩ := pk_andE x k hm
  rw [e]
  exact vp_in_nI hj (Nat.lt_of_le_of_lt (Nat.pow_le_pow_right (by decide) hk) (by decide))
end
section
/-! the plain reading of a program, instruction by instruction -/
abbrev cu_St : Type := (Nat → Int32) × (Nat → Int32) × (Nat → Int32) × Nat
abbrev cu_Pr : Type := (Nat → Nat) × (Nat → Nat) × (Nat → Nat) × (Nat → Nat) × (Nat → Int32) × (Nat → Int32) × cu_St
abbrev cu_wr (o : Nat) : Prop := o ≤ 6 ∨ o = 8
abbrev cu_rd (o x y z v : Nat) : Prop := (o ≤ 3 ∧ (y = v ∨ z = v)) ∨ ((o = 4 ∨ o = 5 ∨ o = 8 ∨ o = 9) ∧ y = v) ∨ (o = 7 ∧ x = v)
abbrev cu_nm (o x y z s : Nat) : Prop := ((o = 4 ∨ o = 5) ∧ z = s) ∨ ((o = 6 ∨ o = 7) ∧ y = s) ∨ (o = 11 ∧ (x = s ∨ y = s ∨ z = s)) ∨ ((o = 9 ∨ o = 10 ∨ o = 12) ∧ x = s)
abbrev cu_mc (o p : Nat) : Prop := (o = 6 ∨ o = 7 ∨ o = 8) ∧ (p = 6 ∨ p = 7 ∨ p = 8) ∧ (o = 7 ∨ p = 7)
def cu_ca (sc zi : Int32) (i : Nat) : Nat := ((sc + nI i * zi) &&& 63).toNatClampNeg
def cu_sc (o y z : Nat) (S : Nat → Int32) : Int32 := if o = 4 ∨ o = 5 then S z else if o = 6 ∨ o = 7 then S y else 0
def cu_mx (a b : Int32) : Int32 := if a ≤ b then b else a
def cu_res (o x y z : Nat) (zi sc : Int32) (V M : Nat → Int32) (i : Nat) : Int32 :=
  if o = 0 then V (16 * y + i) + V (16 * z + i) else if o = 1 then V (16 * y + i) - V (16 * z + i)
  else if o = 2 then V (16 * y + i) * V (16 * z + i) else if o = 3 then cu_mx (V (16 * y + i)) (V (16 * z + i))
  else if o = 4 then V (16 * y + i) + sc else if o = 5 then V (16 * y + i) * sc
  else if o = 6 then M (cu_ca sc zi i) else if o = 7 then V (16 * x + i)
  else if o = 8 then M (V (16 * y + i) &&& 63).toNatClampNeg else V (16 * y + i)
def cu_Mp (sc zi : Int32) (x : Nat) (V M : Nat → Int32) : Nat → Nat → Int32
  | 0 => M
  | i + 1 => upd (cu_Mp sc zi x V M i) (cu_ca sc zi i) (V (16 * x + i))
def cu_ps (y : Nat) (V : Nat → Int32) : Nat → Int32
  | 0 => 0
  | i + 1 => cu_ps y V i + V (16 * y + i)
def cu_cl (s : Int32) : Nat := if s < 0 then 0 else if s ≤ 16 then s.toNatClampNeg else 16
def cu_step (o x y z : Nat) (yi zi : Int32) (s : cu_St) : cu_St :=
  (fun p => if cu_wr o ∧ x = p / 16 ∧ p % 16 < s.2.2.2 then cu_res o x y z zi (cu_sc o y z s.2.1) s.1 s.2.2.1 (p % 16) else s.1 p,
   if o = 9 then upd s.2.1 x (cu_ps y s.1 s.2.2.2) else if o = 10 then upd s.2.1 x yi else if o = 11 then upd s.2.1 x (s.2.1 y + s.2.1 z) else s.2.1,
   if o = 7 then cu_Mp (cu_sc o y z s.2.1) zi x s.1 s.2.2.1 s.2.2.2 else s.2.2.1,
   if o = 12 then cu_cl (s.2.1 x) else s.2.2.2)
def cu_O (G : cu_Pr) : Nat → Nat := G.1
def cu_X (G : cu_Pr) : Nat → Nat := G.2.1
def cu_Y (G : cu_Pr) : Nat → Nat := G.2.2.1
def cu_Z (G : cu_Pr) : Nat → Nat := G.2.2.2.1
def cu_yi (G : cu_Pr) : Nat → Int32 := G.2.2.2.2.1
def cu_zi (G : cu_Pr) : Nat → Int32 := G.2.2.2.2.2.1
def cu_st (G : cu_Pr) : Nat → cu_St
  | 0 => G.2.2.2.2.2.2
  | k + 1 => cu_step (cu_O G k) (cu_X G k) (cu_Y G k) (cu_Z G k) (cu_yi G k) (cu_zi G k) (cu_st G k)
def cu_V (G : cu_Pr) (k : Nat) : Nat → Int32 := (cu_st G k).1
def cu_S (G : cu_Pr) (k : Nat) : Nat → Int32 := (cu_st G k).2.1
def cu_M (G : cu_Pr) (k : Nat) : Nat → Int32 := (cu_st G k).2.2.1
def cu_L (G : cu_Pr) (k : Nat) : Nat := (cu_st G k).2.2.2
def cu_C (G : cu_Pr) (k : Nat) : Int32 := cu_sc (cu_O G k) (cu_Y G k) (cu_Z G k) (cu_S G k)
def cu_R (G : cu_Pr) (k i : Nat) : Int32 := cu_res (cu_O G k) (cu_X G k) (cu_Y G k) (cu_Z G k) (cu_zi G k) (cu_C G k) (cu_V G k) (cu_M G k) i
def cu_Q (G : cu_Pr) (k i : Nat) : Nat → Int32 := cu_Mp (cu_C G k) (cu_zi G k) (cu_X G k) (cu_V G k) (cu_M G k) i
def cu_q (G : cu_Pr) (k i : Nat) : Int32 := cu_ps (cu_Y G k) (cu_V G k) i
def cu_T (G : cu_Pr) (k : Nat) : Nat := if cu_O G k ≤ 9 then cu_L G k else 0
abbrev cu_rD (G : cu_Pr) (j v : Nat) : Prop := cu_rd (cu_O G j) (cu_X G j) (cu_Y G j) (cu_Z G j) v
abbrev cu_nM (G : cu_Pr) (j v : Nat) : Prop := cu_nm (cu_O G j) (cu_X G j) (cu_Y G j) (cu_Z G j) v
theorem cu_V_s (G : cu_Pr) (k p : Nat) : cu_V G (k + 1) p = if cu_wr (cu_O G k) ∧ cu_X G k = p / 16 ∧ p % 16 < cu_L G k then cu_R G k (p % 16) else cu_V G k p := rfl
theorem cu_M_s (G : cu_Pr) (k : Nat) : cu_M G (k + 1) = if cu_O G k = 7 then cu_Q G k (cu_L G k) else cu_M G k := rfl
theorem cu_S_s (G : cu_Pr) (k : Nat) : cu_S G (k + 1) = if cu_O G k = 9 then upd (cu_S G k) (cu_X G k) (cu_q G k (cu_L G k)) else if cu_O G k = 10 then upd (cu_S G k) (cu_X G k) (cu_yi G k) else if cu_O G k = 11 then upd (cu_S G k) (cu_X G k) (cu_S G k (cu_Y G k) + cu_S G k (cu_Z G k)) else cu_S G k := rfl
theorem cu_L_s (G : cu_Pr) (k : Nat) : cu_L G (k + 1) = if cu_O G k = 12 then cu_cl (cu_S G k (cu_X G k)) else cu_L G k := rfl
theorem cu_cl16 (s : Int32) : cu_cl s ≤ 16 := by
  unfold cu_cl
  split
  · omega
  · split
    · rename_i h0 h1
      obtain ⟨j, hj, rfl⟩ := nI_of h0
      rw [nI_clamp hj]
      exact (nI_leI hj (by omega)).mp h1
    · omega
theorem cu_L16 {G : cu_Pr} (h : cu_L G 0 ≤ 16) : ∀ k, cu_L G k ≤ 16
  | 0 => h
  | k + 1 => by
    rw [cu_L_s]
    split
    · exact cu_cl16 _
    · exact cu_L16 h k
theorem cu_T16 {G : cu_Pr} (h : cu_L G 0 ≤ 16) (k : Nat) : cu_T G k ≤ 16 := by
  have := cu_L16 h k
  unfold cu_T
  split <;> omega
theorem cu_TL {G : cu_Pr} {k : Nat} (h : cu_O G k ≤ 9) : cu_T G k = cu_L G k := if_pos h
/-! what the arrays hold when instruction k < n has finished f k elements -/
def cu_EV (G : cu_Pr) (f : Nat → Nat) : Nat → Nat → Int32
  | 0 => cu_V G 0
  | k + 1 => fun p => if cu_wr (cu_O G k) ∧ cu_X G k = p / 16 ∧ p % 16 < f k then cu_R G k (p % 16) else cu_EV G f k p
def cu_EM (G : cu_Pr) (f : Nat → Nat) : Nat → Nat → Int32
  | 0 => cu_M G 0
  | k + 1 => if cu_O G k = 7 then cu_Q G k (f k) else cu_EM G f k
def cu_ES (G : cu_Pr) (f : Nat → Nat) : Nat → Nat → Int32
  | 0 => cu_S G 0
  | k + 1 => fun t => if cu_O G k = 9 ∧ cu_X G k = t then cu_q G k (f k) else if (cu_O G k = 10 ∨ cu_O G k = 11) ∧ cu_X G k = t then cu_S G (k + 1) t else cu_ES G f k t
theorem cu_EV_s (G : cu_Pr) (f : Nat → Nat) (k p : Nat) : cu_EV G f (k + 1) p = if cu_wr (cu_O G k) ∧ cu_X G k = p / 16 ∧ p % 16 < f k then cu_R G k (p % 16) else cu_EV G f k p := rfl
theorem cu_EM_s (G : cu_Pr) (f : Nat → Nat) (k : Nat) : cu_EM G f (k + 1) = if cu_O G k = 7 then cu_Q G k (f k) else cu_EM G f k := rfl
theorem cu_ES_s (G : cu_Pr) (f : Nat → Nat) (k t : Nat) : cu_ES G f (k + 1) t = if cu_O G k = 9 ∧ cu_X G k = t then cu_q G k (f k) else if (cu_O G k = 10 ∨ cu_O G k = 11) ∧ cu_X G k = t then cu_S G (k + 1) t else cu_ES G f k t := rfl
theorem cu_EV_c {G : cu_Pr} {f g : Nat → Nat} : ∀ n, (∀ k, k < n → f k = g k) → cu_EV G f n = cu_EV G g n
  | 0, _ => rfl
  | n + 1, h => by
    have e := cu_EV_c (G := G) n (fun k hk => h k (by omega))
    funext p
    rw [cu_EV_s, cu_EV_s, e, h n (by omega)]
theorem cu_EM_c {G : cu_Pr} {f g : Nat → Nat} : ∀ n, (∀ k, k < n → cu_O G k = 7 → f k = g k) → cu_EM G f n = cu_EM G g n
  | 0, _ => rfl
  | n + 1, h => by
    have e := cu_EM_c (G := G) n (fun k hk => h k (by omega))
    rw [cu_EM_s, cu_EM_s, e]
    split
    · rw [h n (by omega) (by assumption)]
    · rfl
theorem cu_ES_c {G : cu_Pr} {f g : Nat → Nat} {t : Nat} : ∀ n, (∀ k, k < n → cu_O G k = 9 → cu_X G k = t → f k = g k) → cu_ES G f n t = cu_ES G g n t
  | 0, _ => rfl
  | n + 1, h => by
    have e := cu_ES_c (G := G) (t := t) n (fun k hk => h k (by omega))
    rw [cu_ES_s, cu_ES_s, e]
    by_cases z : cu_O G n = 9 ∧ cu_X G n = t
    · rw [if_pos z, if_pos z, h n (by omega) z.1 z.2]
    · rw [if_neg z, if_neg z]
theorem cu_EV_at {G : cu_Pr} {f : Nat → Nat} {p : Nat} : ∀ m, (∀ k, k < m → f k ≤ cu_T G k) → (∀ k, k < m → cu_wr (cu_O G k) → cu_X G k = p / 16 → p % 16 < cu_T G k → p % 16 < f k) → cu_EV G f m p = cu_V G m p
  | 0, _, _ => rfl
  | m + 1, hf, h => by
    have e := cu_EV_at (G := G) (f := f) (p := p) m (fun k hk => hf k (by omega)) (fun k hk => h k (by omega))
    rw [cu_EV_s, cu_V_s, e]
    have h1 := h m (by omega)
    have h2 := hf m (by omega)
    by_cases w : cu_wr (cu_O G m) ∧ cu_X G m = p / 16
    · have ht : cu_T G m = cu_L G m := cu_TL (by have := w.1; unfold cu_wr at this; omega)
      by_cases z : p % 16 < cu_L G m
      · rw [if_pos ⟨w.1, w.2, h1 w.1 w.2 (by omega)⟩, if_pos ⟨w.1, w.2, z⟩]
      · rw [if_neg (fun y => z (by have := y.2.2; omega)), if_neg (fun y => z y.2.2)]
    · rw [if_neg (fun y => w ⟨y.1, y.2.1⟩), if_neg (fun y => w ⟨y.1, y.2.1⟩)]
theorem cu_EV_t {G : cu_Pr} {f : Nat → Nat} {m p : Nat} : ∀ d, (∀ k, m ≤ k → k < m + d → cu_wr (cu_O G k) → cu_X G k = p / 16 → ¬ p % 16 < f k) → cu_EV G f (m + d) p = cu_EV G f m p
  | 0, _ => rfl
  | d + 1, h => by
    have e := cu_EV_t (G := G) (f := f) (m := m) (p := p) d (fun k h1 h2 => h k h1 (by omega))
    rw [← Nat.add_assoc, cu_EV_s, e, if_neg (fun y => h (m + d) (by omega) (by omega) y.1 y.2.1 y.2.2)]
theorem cu_EM_at {G : cu_Pr} {f : Nat → Nat} : ∀ m, (∀ k, k < m → cu_O G k = 7 → f k = cu_T G k) → cu_EM G f m = cu_M G m
  | 0, _ => rfl
  | m + 1, h => by
    have e := cu_EM_at (G := G) (f := f) m (fun k hk => h k (by omega))
    rw [cu_EM_s, cu_M_s, e]
    by_cases z : cu_O G m = 7
    · rw [if_pos z, if_pos z, h m (by omega) z, cu_TL (by omega)]
    · rw [if_neg z, if_neg z]
theorem cu_EM_t {G : cu_Pr} {f : Nat → Nat} {m : Nat} : ∀ d, (∀ k, m ≤ k → k < m + d → ¬ cu_O G k = 7) → cu_EM G f (m + d) = cu_EM G f m
  | 0, _ => rfl
  | d + 1, h => by
    have e := cu_EM_t (G := G) (f := f) (m := m) d (fun k h1 h2 => h k h1 (by omega))
    rw [← Nat.add_assoc, cu_EM_s, e, if_neg (h (m + d) (by omega) (by omega))]
theorem cu_S_n {G : cu_Pr} {k t : Nat} (h : ¬ ((cu_O G k = 9 ∨ cu_O G k = 10 ∨ cu_O G k = 11) ∧ cu_X G k = t)) : cu_S G (k + 1) t = cu_S G k t := by
  rw [cu_S_s]
  by_cases z : cu_X G k = t
  · have : ¬ cu_O G k = 9 ∧ ¬ cu_O G k = 10 ∧ ¬ cu_O G k = 11 := by omega
    rw [if_neg this.1, if_neg this.2.1, if_neg this.2.2]
  · have z' : t ≠ cu_X G k := fun e => z e.symm
    split
    · exact pk_un z'
    · split
      · exact pk_un z'
      · split
        · exact pk_un z'
        · rfl
theorem cu_ES_at {G : cu_Pr} {f : Nat → Nat} {t : Nat} : ∀ m, (∀ k, k < m → cu_O G k = 9 → cu_X G k = t → f k = cu_T G k) → cu_ES G f m t = cu_S G m t
  | 0, _ => rfl
  | m + 1, h => by
    have e := cu_ES_at (G := G) (f := f) (t := t) m (fun k hk => h k (by omega))
    rw [cu_ES_s, e]
    by_cases z : cu_O G m = 9 ∧ cu_X G m = t
    · rw [if_pos z, h m (by omega) z.1 z.2, cu_TL (by omega), cu_S_s, if_pos z.1, z.2, pk_us]
    · rw [if_neg z]
      by_cases y : (cu_O G m = 10 ∨ cu_O G m = 11) ∧ cu_X G m = t
      · rw [if_pos y]
      · rw [if_neg y]
        exact (cu_S_n (by omega)).symm
theorem cu_ES_t {G : cu_Pr} {f : Nat → Nat} {m t : Nat} : ∀ d, (∀ k, m ≤ k → k < m + d → cu_X G k = t → ¬ (cu_O G k = 9 ∨ cu_O G k = 10 ∨ cu_O G k = 11)) → cu_ES G f (m + d) t = cu_ES G f m t
  | 0, _ => rfl
  | d + 1, h => by
    have e := cu_ES_t (G := G) (f := f) (m := m) (t := t) d (fun k h1 h2 => h k h1 (by omega))
    have h0 := h (m + d) (by omega) (by omega)
    rw [← Nat.add_assoc, cu_ES_s, e, if_neg (fun y => h0 y.2 (Or.inl y.1)), if_neg (fun y => h0 y.2 (Or.inr y.1))]
end
section
/-! the invariant of a run: n issued, b begun, f finished -/
def cu_u (f : Nat → Nat) (j v : Nat) : Nat → Nat := fun k => if k = j then v else f k
theorem cu_us {f : Nat → Nat} {j v : Nat} : cu_u f j v j = v := if_pos rfl
theorem cu_un {f : Nat → Nat} {j v k : Nat} (h : k ≠ j) : cu_u f j v k = f k := if_neg h
theorem cu_ule {f : Nat → Nat} {j : Nat} (k : Nat) : f k ≤ cu_u f j (f j + 1) k := by
  unfold cu_u
  split
  · rename_i h; subst h; omega
  · omega
def cu_P (b f : Nat → Nat) : Nat → Nat
  | 0 => 0
  | k + 1 => cu_P b f k + (1 + b k + f k)
theorem cu_P_c {b f b' f' : Nat → Nat} : ∀ n, (∀ k, k < n → b k = b' k ∧ f k = f' k) → cu_P b f n = cu_P b' f' n
  | 0, _ => rfl
  | n + 1, h => by
    have e := cu_P_c n (fun k hk => h k (by omega))
    have h1 := h n (by omega)
    show cu_P b f n + (1 + b n + f n) = cu_P b' f' n + (1 + b' n + f' n)
    rw [e, h1.1, h1.2]
theorem cu_P_f {b f : Nat → Nat} {j : Nat} : ∀ n, j < n → cu_P b (cu_u f j (f j + 1)) n = cu_P b f n + 1
  | 0, h => absurd h (by omega)
  | n + 1, h => by
    show cu_P b (cu_u f j (f j + 1)) n + (1 + b n + cu_u f j (f j + 1) n) = cu_P b f n + (1 + b n + f n) + 1
    by_cases e : j = n
    · subst e
      rw [cu_us, cu_P_c (b' := b) (f' := f) j (fun k hk => ⟨rfl, cu_un (by omega)⟩)]
      omega
    · rw [cu_P_f n (by omega), cu_un (by omega)]
      omega
theorem cu_P_b {b f : Nat → Nat} {j : Nat} : ∀ n, j < n → cu_P (cu_u b j (b j + 1)) f n = cu_P b f n + 1
  | 0, h => absurd h (by omega)
  | n + 1, h => by
    show cu_P (cu_u b j (b j + 1)) f n + (1 + cu_u b j (b j + 1) n + f n) = cu_P b f n + (1 + b n + f n) + 1
    by_cases e : j = n
    · subst e
      rw [cu_us, cu_P_c (b' := b) (f' := f) j (fun k hk => ⟨cu_un (by omega), rfl⟩)]
      omega
    · rw [cu_P_b n (by omega), cu_un (by omega)]
      omega
theorem cu_P_n {b f : Nat → Nat} (n : Nat) : cu_P (cu_u b n 0) (cu_u f n 0) (n + 1) = cu_P b f n + 1 := by
  show cu_P (cu_u b n 0) (cu_u f n 0) n + (1 + cu_u b n 0 n + cu_u f n 0 n) = cu_P b f n + 1
  rw [cu_us, cu_us, cu_P_c (b' := b) (f' := f) n (fun k hk => ⟨cu_un (by omega), cu_un (by omega)⟩)]
theorem cu_P_le {b f : Nat → Nat} : ∀ n, (∀ k, k < n → b k ≤ 16 ∧ f k ≤ 16) → cu_P b f n ≤ 33 * n
  | 0, _ => by unfold cu_P; omega
  | n + 1, h => by
    have e := cu_P_le n (fun k hk => h k (by omega))
    have h1 := h n (by omega)
    show cu_P b f n + (1 + b n + f n) ≤ 33 * (n + 1)
    omega
def cu_I (G : cu_Pr) (n : Nat) (b f : Nat → Nat) : Prop :=
  (∀ j, j < n → f j ≤ b j ∧ b j ≤ cu_T G j) ∧
  (∀ e j i, e < j → j < n → i < b j → i < cu_T G e → cu_wr (cu_O G e) → (cu_rD G j (cu_X G e) ∨ (cu_wr (cu_O G j) ∧ cu_X G j = cu_X G e)) → i < f e) ∧
  (∀ e j i, e < j → j < n → i < b j → i < cu_T G e → cu_wr (cu_O G j) → cu_rD G e (cu_X G j) → i < b e) ∧
  (∀ e j, e < j → j < n → cu_O G e = 9 → cu_nM G j (cu_X G e) → f e = cu_T G e) ∧
  (∀ e j, e < j → j < n → cu_mc (cu_O G e) (cu_O G j) → f e = cu_T G e)
def cu_D (G : cu_Pr) (n : Nat) (b f : Nat → Nat) (V S M RS : Nat → Int32) : Prop :=
  V = cu_EV G f n ∧ S = cu_ES G f n ∧ M = cu_EM G f n ∧ ∀ j i, j < n → f j ≤ i → i < b j → RS (16 * j + i) = cu_R G j i
def cu_A (G : cu_Pr) (n : Nat) (b f : Nat → Nat) (TL TS B F : Nat → Int32) : Prop :=
  ∀ j, j < n → TL j = nI (cu_T G j) ∧ TS j = cu_C G j ∧ B j = nI (b j) ∧ F j = nI (f j)
def cu_H (n : Nat) (b f : Nat → Nat) (RD : Nat → Int32) : Prop :=
  ∀ j i, j < n → f j ≤ i → i < b j → ∃ r : Nat, RD (16 * j + i) = nI r ∧ r ≤ 6 * cu_P b f n + 4
theorem cu_I_f {G : cu_Pr} {n : Nat} {b f : Nat → Nat} (h : cu_I G n b f) {j : Nat} (hj : j < n) (hi : f j < b j) : cu_I G n b (cu_u f j (f j + 1)) := by
  obtain ⟨h1, h2, h3, h4, h5⟩ := h
  have hT := (h1 j hj).2
  have keep : ∀ e, f e = cu_T G e → cu_u f j (f j + 1) e = cu_T G e := fun e he => by
    by_cases z : e = j
    · subst z; omega
    · rw [cu_un z]; exact he
  refine ⟨fun k hk => ?_, fun e k i h6 h7 h8 h9 ha hb => ?_, h3, fun e k h6 h7 h8 h9 => keep e (h4 e k h6 h7 h8 h9), fun e k h6 h7 h8 => keep e (h5 e k h6 h7 h8)⟩
  · by_cases z : k = j
    · subst z; rw [cu_us]; exact ⟨hi, hT⟩
    · rw [cu_un z]; exact h1 k hk
  · exact Nat.lt_of_lt_of_le (h2 e k i h6 h7 h8 h9 ha hb) (cu_ule e)
def cu_go (G : cu_Pr) (b f : Nat → Nat) (e j i : Nat) : Prop :=
  (cu_wr (cu_O G e) → (cu_rD G j (cu_X G e) ∨ (cu_wr (cu_O G j) ∧ cu_X G j = cu_X G e)) → i < f e) ∧ (cu_wr (cu_O G j) → cu_rD G e (cu_X G j) → i < b e)
theorem cu_I_b {G : cu_Pr} {n : Nat} {b f : Nat → Nat} (h : cu_I G n b f) {j : Nat} (hj : j < n) (hi : b j < cu_T G j) (hg : ∀ e, e < j → b j < cu_T G e → cu_go G b f e j (b j)) : cu_I G n (cu_u b j (b j + 1)) f := by
  obtain ⟨h1, h2, h3, h4, h5⟩ := h
  refine ⟨fun k hk => ?_, fun e k i h6 h7 h8 h9 ha hb => ?_, fun e k i h6 h7 h8 h9 ha hb => ?_, h4, h5⟩
  · by_cases z : k = j
    · subst z; rw [cu_us]; have := h1 k hk; omega
    · rw [cu_un z]; exact h1 k hk
  · by_cases z : k = j
    · subst z
      rw [cu_us] at h8
      by_cases y : i = b k
      · subst y
        exact (hg e h6 h9).1 ha hb
      · exact h2 e k i h6 h7 (by omega) h9 ha hb
    · rw [cu_un z] at h8
      exact h2 e k i h6 h7 h8 h9 ha hb
  · refine Nat.lt_of_lt_of_le ?_ (cu_ule e)
    by_cases z : k = j
    · subst z
      rw [cu_us] at h8
      by_cases y : i = b k
      · subst y
        exact (hg e h6 h9).2 ha hb
      · exact h3 e k i h6 h7 (by omega) h9 ha hb
    · rw [cu_un z] at h8
      exact h3 e k i h6 h7 h8 h9 ha hb
theorem cu_I_n {G : cu_Pr} {n : Nat} {b f : Nat → Nat} (h : cu_I G n b f) (h9 : ∀ e, e < n → cu_O G e = 9 → cu_nM G n (cu_X G e) → f e = cu_T G e) (h8 : ∀ e, e < n → cu_mc (cu_O G e) (cu_O G n) → f e = cu_T G e) : cu_I G (n + 1) (cu_u b n 0) (cu_u f n 0) := by
  obtain ⟨h1, h2, h3, h4, h5⟩ := h
  refine ⟨fun k hk => ?_, fun e k i ha hb hc hd => ?_, fun e k i ha hb hc hd => ?_, fun e k ha hb hc hd => ?_, fun e k ha hb hc => ?_⟩
  · by_cases z : k = n
    · subst z; rw [cu_us, cu_us]; omega
    · rw [cu_un z, cu_un z]; exact h1 k (by omega)
  · by_cases z : k = n
    · subst z; rw [cu_us] at hc; omega
    · rw [cu_un z] at hc
      rw [cu_un (show e ≠ n by omega)]
      exact h2 e k i ha (by omega) hc hd
  · by_cases z : k = n
    · subst z; rw [cu_us] at hc; omega
    · rw [cu_un z] at hc
      rw [cu_un (show e ≠ n by omega)]
      exact h3 e k i ha (by omega) hc hd
  · rw [cu_un (show e ≠ n by omega)]
    by_cases z : k = n
    · subst z; exact h9 e ha hc hd
    · exact h4 e k ha (by omega) hc hd
  · rw [cu_un (show e ≠ n by omega)]
    by_cases z : k = n
    · subst z; exact h8 e ha hc
    · exact h5 e k ha (by omega) hc
/-! a store by element i of instruction j -/
theorem cu_EVf_o {G : cu_Pr} {f : Nat → Nat} {j : Nat} (hw : ¬ cu_wr (cu_O G j)) : ∀ n, cu_EV G (cu_u f j (f j + 1)) n = cu_EV G f n
  | 0 => rfl
  | n + 1 => by
    funext p
    rw [cu_EV_s, cu_EV_s, cu_EVf_o hw n]
    by_cases z : n = j
    · subst z
      rw [if_neg (fun y => hw y.1), if_neg (fun y => hw y.1)]
    · rw [cu_un z]
theorem cu_EVf_w {G : cu_Pr} {f : Nat → Nat} {j : Nat} (hw : cu_wr (cu_O G j)) (hf : f j < 16) : ∀ n, j < n → (∀ k, j < k → k < n → cu_wr (cu_O G k) → cu_X G k = cu_X G j → ¬ f j < f k) → cu_EV G (cu_u f j (f j + 1)) n = upd (cu_EV G f n) (16 * cu_X G j + f j) (cu_R G j (f j))
  | 0, h, _ => absurd h (by omega)
  | n + 1, h, hk => by
    funext p
    have e1 : (16 * cu_X G j + f j) / 16 = cu_X G j := by omega
    have e2 : (16 * cu_X G j + f j) % 16 = f j := by omega
    by_cases z : n = j
    · subst z
      rw [cu_EV_s, cu_us, cu_EV_c (g := f) n (fun k hk => cu_un (by omega))]
      by_cases q : p = 16 * cu_X G n + f n
      · subst q
        rw [pk_us, e1, e2, if_pos ⟨hw, rfl, by omega⟩]
      · rw [pk_un q, cu_EV_s]
        by_cases y : cu_wr (cu_O G n) ∧ cu_X G n = p / 16 ∧ p % 16 < f n
        · rw [if_pos y, if_pos ⟨y.1, y.2.1, by omega⟩]
        · rw [if_neg y, if_neg (fun x => y ⟨x.1, x.2.1, by have := x.2.1; have := x.2.2; omega⟩)]
    · have e := cu_EVf_w hw hf n (by omega) (fun k h1 h2 => hk k h1 (by omega))
      rw [cu_EV_s, e, cu_un z]
      by_cases q : p = 16 * cu_X G j + f j
      · subst q
        rw [pk_us, pk_us, e1, e2, if_neg (fun y => hk n (by omega) (by omega) y.1 y.2.1 y.2.2)]
      · rw [pk_un q, pk_un q, cu_EV_s]
theorem cu_D_v {G : cu_Pr} {n : Nat} {b f : Nat → Nat} {V S M RS : Nat → Int32} (hI : cu_I G n b f) (hD : cu_D G n b f V S M RS) {j : Nat} (hj : j < n) (hi : f j < b j) (h16 : cu_T G j ≤ 16) (hw : cu_wr (cu_O G j)) :
    cu_D G n b (cu_u f j (f j + 1)) (upd V (16 * cu_X G j + f j) (RS (16 * j + f j))) S M RS := by
  obtain ⟨h1, h2, h3, h4, h5⟩ := hI
  obtain ⟨rfl, rfl, rfl, hR⟩ := hD
  have hb := (h1 j hj).2
  have hn9 : ¬ cu_O G j = 9 := by unfold cu_wr at hw; omega
  have hn7 : ¬ cu_O G j = 7 := by unfold cu_wr at hw; omega
  refine ⟨?_, ?_, ?_, fun k i hk hfi hib => hR k i hk (Nat.le_trans (cu_ule k) hfi) hib⟩
  · rw [hR j (f j) hj (Nat.le_refl _) hi]
    refine (cu_EVf_w hw (by omega) n hj (fun k hjk hkn wk xk hlt => ?_)).symm
    have := h2 j k (f j) hjk hkn (by have := (h1 k hkn).1; omega) (by omega) hw (Or.inr ⟨wk, xk⟩)
    omega
  · funext t
    refine (cu_ES_c n (fun k hk ho _ => cu_un (fun e => by subst e; exact absurd ho hn9))).symm
  · exact (cu_EM_c n (fun k hk ho => cu_un (fun e => by subst e; exact absurd ho hn7))).symm
theorem cu_D_m {G : cu_Pr} {n : Nat} {b f : Nat → Nat} {V S M RS : Nat → Int32} (hI : cu_I G n b f) (hD : cu_D G n b f V S M RS) {j : Nat} (hj : j < n) (hi : f j < b j) (h7 : cu_O G j = 7) :
    cu_D G n b (cu_u f j (f j + 1)) V S (upd M (cu_ca (cu_C G j) (cu_zi G j) (f j)) (RS (16 * j + f j))) RS := by
  obtain ⟨h1, h2, h3, h4, h5⟩ := hI
  obtain ⟨rfl, rfl, rfl, hR⟩ := hD
  have hb := (h1 j hj).2
  refine ⟨?_, ?_, ?_, fun k i hk hfi hib => hR k i hk (Nat.le_trans (cu_ule k) hfi) hib⟩
  · exact (cu_EVf_o (by unfold cu_wr; omega) n).symm
  · funext t
    refine (cu_ES_c n (fun k hk ho _ => cu_un (fun e => by subst e; omega))).symm
  · obtain ⟨d, rfl⟩ : ∃ d, n = j + 1 + d := ⟨n - (j + 1), by omega⟩
    have ht : ∀ k, j + 1 ≤ k → k < j + 1 + d → ¬ cu_O G k = 7 := fun k hk hk2 ho => by
      have := h5 j k (by omega) hk2 ⟨by omega, by omega, by omega⟩
      omega
    rw [cu_EM_t d ht, cu_EM_t d ht, cu_EM_s, cu_EM_s, if_pos h7, if_pos h7, cu_us, hR j (f j) hj (Nat.le_refl _) hi]
    show _ = upd (cu_Q G j (f j)) _ (cu_V G j (16 * cu_X G j + f j))
    unfold cu_R cu_res
    simp only [h7]
    rfl
theorem cu_D_s {G : cu_Pr} {n : Nat} {b f : Nat → Nat} {V S M RS : Nat → Int32} (hI : cu_I G n b f) (hD : cu_D G n b f V S M RS) {j : Nat} (hj : j < n) (hi : f j < b j) (h9 : cu_O G j = 9) :
    cu_D G n b (cu_u f j (f j + 1)) V (upd S (cu_X G j) (S (cu_X G j) + RS (16 * j + f j))) M RS := by
  obtain ⟨h1, h2, h3, h4, h5⟩ := hI
  obtain ⟨rfl, rfl, rfl, hR⟩ := hD
  have hb := (h1 j hj).2
  refine ⟨?_, ?_, ?_, fun k i hk hfi hib => hR k i hk (Nat.le_trans (cu_ule k) hfi) hib⟩
  · exact (cu_EVf_o (by unfold cu_wr; omega) n).symm
  · funext t
    by_cases q : t = cu_X G j
    · subst q
      obtain ⟨d, rfl⟩ : ∃ d, n = j + 1 + d := ⟨n - (j + 1), by omega⟩
      have ht : ∀ k, j + 1 ≤ k → k < j + 1 + d → cu_X G k = cu_X G j → ¬ (cu_O G k = 9 ∨ cu_O G k = 10 ∨ cu_O G k = 11) := fun k hk hk2 hx ho => by
        have := h4 j k (by omega) hk2 h9 (by unfold cu_nM cu_nm; omega)
        omega
      rw [pk_us, cu_ES_t d ht, cu_ES_t d ht, cu_ES_s, cu_ES_s, if_pos ⟨h9, rfl⟩, if_pos ⟨h9, rfl⟩, cu_us, hR j (f j) hj (Nat.le_refl _) hi]
      show _ = cu_q G j (f j) + cu_V G j (16 * cu_Y G j + f j)
      unfold cu_R cu_res
      simp only [h9]
      rfl
    · rw [pk_un q]
      exact (cu_ES_c n (fun k hk ho hx => cu_un (fun e => by subst e; exact q hx.symm))).symm
  · exact (cu_EM_c n (fun k hk ho => cu_un (fun e => by subst e; omega))).symm
end
section
/-! what element i of instruction j reads when it may begin -/
theorem cu_rdV {G : cu_Pr} {n : Nat} {b f : Nat → Nat} {V S M RS : Nat → Int32} (hI : cu_I G n b f) (hD : cu_D G n b f V S M RS) {j : Nat} (hj : j < n) (hi : b j < cu_T G j) (h16 : cu_T G j ≤ 16)
    (hg : ∀ e, e < j → b j < cu_T G e → cu_go G b f e j (b j)) {r : Nat} (hr : cu_rD G j r) : V (16 * r + b j) = cu_V G j (16 * r + b j) := by
  obtain ⟨h1, h2, h3, h4, h5⟩ := hI
  obtain ⟨rfl, rfl, rfl, hR⟩ := hD
  have e1 : (16 * r + b j) / 16 = r := by omega
  have e2 : (16 * r + b j) % 16 = b j := by omega
  obtain ⟨d, rfl⟩ : ∃ d, n = j + d := ⟨n - j, by omega⟩
  rw [cu_EV_t d, cu_EV_at j]
  · exact fun k hk => by have := h1 k (by omega); omega
  · rw [e1, e2]
    exact fun k hk hw hx ht => (hg k hk ht).1 hw (Or.inl (hx ▸ hr))
  · rw [e1, e2]
    intro k hk hk2 hw hx hlt
    by_cases z : k = j
    · subst z
      have := h1 k hk2
      omega
    · have := h3 j k (b j) (by omega) hk2 (by have := h1 k hk2; omega) hi hw (by rw [hx]; exact hr)
      omega
theorem cu_rdM {G : cu_Pr} {n : Nat} {b f : Nat → Nat} {V S M RS : Nat → Int32} (hI : cu_I G n b f) (hD : cu_D G n b f V S M RS) {j : Nat} (hj : j < n) (hi : b j < cu_T G j) (ho : cu_O G j = 6 ∨ cu_O G j = 8) : M = cu_M G j := by
  obtain ⟨h1, h2, h3, h4, h5⟩ := hI
  obtain ⟨rfl, rfl, rfl, hR⟩ := hD
  obtain ⟨d, rfl⟩ : ∃ d, n = j + d := ⟨n - j, by omega⟩
  rw [cu_EM_t d, cu_EM_at j]
  · exact fun k hk ho7 => h5 k j hk hj (by unfold cu_mc; omega)
  · intro k hk hk2 ho7
    by_cases z : k = j
    · subst z; omega
    · have := h5 j k (by omega) hk2 (by unfold cu_mc; omega)
      have := h1 j hj
      omega
theorem cu_rdR {G : cu_Pr} {n : Nat} {b f : Nat → Nat} {V S M RS : Nat → Int32} (hI : cu_I G n b f) (hD : cu_D G n b f V S M RS) {j : Nat} (hj : j < n) (hi : b j < cu_T G j) (h16 : cu_T G j ≤ 16)
    (hg : ∀ e, e < j → b j < cu_T G e → cu_go G b f e j (b j)) : cu_res (cu_O G j) (cu_X G j) (cu_Y G j) (cu_Z G j) (cu_zi G j) (cu_C G j) V M (b j) = cu_R G j (b j) := by
  have hV : ∀ {r : Nat}, cu_rD G j r → V (16 * r + b j) = cu_V G j (16 * r + b j) := fun hr => cu_rdV hI hD hj hi h16 hg hr
  have hM : cu_O G j = 6 ∨ cu_O G j = 8 → M = cu_M G j := fun ho => cu_rdM hI hD hj hi ho
  have h9 : cu_O G j ≤ 9 := by
    unfold cu_T at hi
    by_cases z : cu_O G j ≤ 9
    · exact z
    · rw [if_neg z] at hi; omega
  unfold cu_R cu_res
  by_cases z0 : cu_O G j = 0
  · rw [if_pos z0, if_pos z0, hV (r := cu_Y G j) (by unfold cu_rD cu_rd; omega), hV (r := cu_Z G j) (by unfold cu_rD cu_rd; omega)]
  rw [if_neg z0, if_neg z0]
  by_cases z1 : cu_O G j = 1
  · rw [if_pos z1, if_pos z1, hV (r := cu_Y G j) (by unfold cu_rD cu_rd; omega), hV (r := cu_Z G j) (by unfold cu_rD cu_rd; omega)]
  rw [if_neg z1, if_neg z1]
  by_cases z2 : cu_O G j = 2
  · rw [if_pos z2, if_pos z2, hV (r := cu_Y G j) (by unfold cu_rD cu_rd; omega), hV (r := cu_Z G j) (by unfold cu_rD cu_rd; omega)]
  rw [if_neg z2, if_neg z2]
  by_cases z3 : cu_O G j = 3
  · rw [if_pos z3, if_pos z3, hV (r := cu_Y G j) (by unfold cu_rD cu_rd; omega), hV (r := cu_Z G j) (by unfold cu_rD cu_rd; omega)]
  rw [if_neg z3, if_neg z3]
  by_cases z4 : cu_O G j = 4
  · rw [if_pos z4, if_pos z4, hV (r := cu_Y G j) (by unfold cu_rD cu_rd; omega)]
  rw [if_neg z4, if_neg z4]
  by_cases z5 : cu_O G j = 5
  · rw [if_pos z5, if_pos z5, hV (r := cu_Y G j) (by unfold cu_rD cu_rd; omega)]
  rw [if_neg z5, if_neg z5]
  by_cases z6 : cu_O G j = 6
  · rw [if_pos z6, if_pos z6, hM (Or.inl z6)]
  rw [if_neg z6, if_neg z6]
  by_cases z7 : cu_O G j = 7
  · rw [if_pos z7, if_pos z7, hV (r := cu_X G j) (by unfold cu_rD cu_rd; omega)]
  rw [if_neg z7, if_neg z7]
  by_cases z8 : cu_O G j = 8
  · rw [if_pos z8, if_pos z8, hM (Or.inr z8), hV (r := cu_Y G j) (by unfold cu_rD cu_rd; omega)]
  rw [if_neg z8, if_neg z8]
  exact hV (r := cu_Y G j) (by unfold cu_rD cu_rd; omega)
theorem cu_D_b {G : cu_Pr} {n : Nat} {b f : Nat → Nat} {V S M RS : Nat → Int32} (hI : cu_I G n b f) (hD : cu_D G n b f V S M RS) (h16 : ∀ k, cu_T G k ≤ 16) {j : Nat} (hi : b j < cu_T G j) :
    cu_D G n (cu_u b j (b j + 1)) f V S M (upd RS (16 * j + b j) (cu_R G j (b j))) := by
  obtain ⟨h1, h2, h3, h4⟩ := hD
  refine ⟨h1, h2, h3, fun k i hk hfi hib => ?_⟩
  have hT := h16 j
  have hI1 := hI.1 k hk
  have hTk := h16 k
  by_cases z : k = j
  · subst z
    rw [cu_us] at hib
    by_cases y : i = b k
    · subst y
      exact pk_us
    · rw [pk_un (by omega)]
      exact h4 k i hk hfi (by omega)
  · rw [cu_un z] at hib
    rw [pk_un (by omega)]
    exact h4 k i hk hfi hib
/-! issuing instruction n -/
theorem cu_rdS {G : cu_Pr} {n : Nat} {b f : Nat → Nat} {V S M RS : Nat → Int32} (hD : cu_D G n b f V S M RS) (h9 : ∀ e, e < n → cu_O G e = 9 → cu_nM G n (cu_X G e) → f e = cu_T G e) {t : Nat} (ht : cu_nM G n t) : S t = cu_S G n t := by
  obtain ⟨rfl, rfl, rfl, hR⟩ := hD
  exact cu_ES_at n (fun k hk ho hx => h9 k hk ho (by rw [hx]; exact ht))
theorem cu_rdC {G : cu_Pr} {n : Nat} {b f : Nat → Nat} {V S M RS : Nat → Int32} (hD : cu_D G n b f V S M RS) (h9 : ∀ e, e < n → cu_O G e = 9 → cu_nM G n (cu_X G e) → f e = cu_T G e) : cu_sc (cu_O G n) (cu_Y G n) (cu_Z G n) S = cu_C G n := by
  unfold cu_C cu_sc
  by_cases z : cu_O G n = 4 ∨ cu_O G n = 5
  · rw [if_pos z, if_pos z]
    exact cu_rdS hD h9 (Or.inl ⟨z, rfl⟩)
  · rw [if_neg z, if_neg z]
    by_cases y : cu_O G n = 6 ∨ cu_O G n = 7
    · rw [if_pos y, if_pos y]
      exact cu_rdS hD h9 (Or.inr (Or.inl ⟨y, rfl⟩))
    · rw [if_neg y, if_neg y]
def cu_S1 (o x y z : Nat) (yi : Int32) (S : Nat → Int32) : Nat → Int32 :=
  if o = 9 then upd S x 0 else if o = 10 then upd S x yi else if o = 11 then upd S x (S y + S z) else S
theorem cu_D_n {G : cu_Pr} {n : Nat} {b f : Nat → Nat} {V S M RS : Nat → Int32} (hD : cu_D G n b f V S M RS) (h9 : ∀ e, e < n → cu_O G e = 9 → cu_nM G n (cu_X G e) → f e = cu_T G e) (h8 : ∀ e, e < n → cu_mc (cu_O G e) (cu_O G n) → f e = cu_T G e) :
    cu_D G (n + 1) (cu_u b n 0) (cu_u f n 0) V (cu_S1 (cu_O G n) (cu_X G n) (cu_Y G n) (cu_Z G n) (cu_yi G n) S) M RS := by
  have hS : ∀ {t : Nat}, cu_nM G n t → S t = cu_S G n t := fun ht => cu_rdS hD h9 ht
  obtain ⟨hV, hS0, hM, hR⟩ := hD
  refine ⟨?_, ?_, ?_, fun k i hk hfi hib => ?_⟩
  · funext p
    rw [cu_EV_s, cu_us, if_neg (fun y => absurd y.2.2 (by omega)), hV, cu_EV_c (g := f) n (fun k hk => cu_un (by omega))]
  · funext t
    have e0 : cu_ES G (cu_u f n 0) n t = S t := by
      rw [hS0]
      exact cu_ES_c n (fun k hk _ _ => cu_un (by omega))
    rw [cu_ES_s, cu_us, e0]
    unfold cu_S1
    by_cases z9 : cu_O G n = 9
    · rw [if_pos z9]
      by_cases q : cu_X G n = t
      · subst q
        rw [pk_us, if_pos ⟨z9, rfl⟩]
        rfl
      · rw [pk_un (fun e => q e.symm), if_neg (fun y => q y.2), if_neg (fun y => q y.2)]
    rw [if_neg z9, if_neg (show ¬ (cu_O G n = 9 ∧ cu_X G n = t) from fun y => z9 y.1)]
    by_cases z10 : cu_O G n = 10
    · rw [if_pos z10]
      by_cases q : cu_X G n = t
      · subst q
        rw [pk_us, if_pos ⟨Or.inl z10, rfl⟩, cu_S_s, if_neg z9, if_pos z10, pk_us]
      · rw [pk_un (fun e => q e.symm), if_neg (fun y => q y.2)]
    rw [if_neg z10]
    by_cases z11 : cu_O G n = 11
    · rw [if_pos z11]
      by_cases q : cu_X G n = t
      · subst q
        rw [pk_us, if_pos ⟨Or.inr z11, rfl⟩, cu_S_s, if_neg z9, if_neg z10, if_pos z11, pk_us, hS (t := cu_Y G n) (by unfold cu_nM cu_nm; omega), hS (t := cu_Z G n) (by unfold cu_nM cu_nm; omega)]
      · rw [pk_un (fun e => q e.symm), if_neg (fun y => q y.2)]
    rw [if_neg z11, if_neg (show ¬ ((cu_O G n = 10 ∨ cu_O G n = 11) ∧ cu_X G n = t) from fun y => y.1.elim z10 z11)]
  · rw [cu_EM_s, cu_us, cu_EM_c (g := f) n (fun k hk _ => cu_un (by omega)), ← hM]
    by_cases z : cu_O G n = 7
    · rw [if_pos z, hM]
      exact cu_EM_at n (fun k hk ho => h8 k hk (by unfold cu_mc; omega))
    · rw [if_neg z]
  · by_cases z : k = n
    · subst z
      rw [cu_us] at hib
      omega
    · rw [cu_un z] at hib hfi
      exact hR k i (by omega) hfi hib
/-! the small arrays and the cycles -/
theorem cu_A_f {G : cu_Pr} {n : Nat} {b f : Nat → Nat} {TL TS B F : Nat → Int32} (h : cu_A G n b f TL TS B F) {j : Nat} : cu_A G n b (cu_u f j (f j + 1)) TL TS B (upd F j (nI (f j + 1))) := by
  intro k hk
  obtain ⟨h1, h2, h3, h4⟩ := h k hk
  refine ⟨h1, h2, h3, ?_⟩
  by_cases z : k = j
  · subst z; rw [pk_us, cu_us]
  · rw [pk_un z, cu_un z]; exact h4
theorem cu_A_b {G : cu_Pr} {n : Nat} {b f : Nat → Nat} {TL TS B F : Nat → Int32} (h : cu_A G n b f TL TS B F) {j : Nat} : cu_A G n (cu_u b j (b j + 1)) f TL TS (upd B j (nI (b j + 1))) F := by
  intro k hk
  obtain ⟨h1, h2, h3, h4⟩ := h k hk
  refine ⟨h1, h2, ?_, h4⟩
  by_cases z : k = j
  · subst z; rw [pk_us, cu_us]
  · rw [pk_un z, cu_un z]; exact h3
theorem cu_A_n {G : cu_Pr} {n : Nat} {b f : Nat → Nat} {TL TS B F : Nat → Int32} (h : cu_A G n b f TL TS B F) : cu_A G (n + 1) (cu_u b n 0) (cu_u f n 0) (upd TL n (nI (cu_T G n))) (upd TS n (cu_C G n)) (upd B n 0) (upd F n 0) := by
  intro k hk
  by_cases z : k = n
  · subst z; rw [pk_us, pk_us, pk_us, pk_us, cu_us, cu_us]; exact ⟨rfl, rfl, rfl, rfl⟩
  · rw [pk_un z, pk_un z, pk_un z, pk_un z, cu_un z, cu_un z]; exact h k (by omega)
theorem cu_H_f {n : Nat} {b f : Nat → Nat} {RD : Nat → Int32} (h : cu_H n b f RD) {j : Nat} (hj : j < n) : cu_H n b (cu_u f j (f j + 1)) RD := by
  intro k i hk hfi hib
  obtain ⟨r, e, hr⟩ := h k i hk (Nat.le_trans (cu_ule k) hfi) hib
  rw [cu_P_f n hj]
  exact ⟨r, e, by omega⟩
theorem cu_H_b {n : Nat} {b f : Nat → Nat} {RD : Nat → Int32} (h : cu_H n b f RD) {j c d : Nat} (hj : j < n) (h16 : ∀ k, k < n → b k ≤ 16) (hb : b j < 16) (hc : c ≤ 6 * cu_P b f n + 5) (hd : d ≤ 5) : cu_H n (cu_u b j (b j + 1)) f (upd RD (16 * j + b j) (nI (c + d))) := by
  intro k i hk hfi hib
  have hbk := h16 k hk
  rw [cu_P_b n hj]
  by_cases z : k = j
  · subst z
    rw [cu_us] at hib
    by_cases y : i = b k
    · subst y
      rw [pk_us]
      exact ⟨c + d, rfl, by omega⟩
    · rw [pk_un (by omega)]
      obtain ⟨r, e, hr⟩ := h k i hk hfi (by omega)
      exact ⟨r, e, by omega⟩
  · rw [cu_un z] at hib
    rw [pk_un (by omega)]
    obtain ⟨r, e, hr⟩ := h k i hk hfi hib
    exact ⟨r, e, by omega⟩
theorem cu_H_n {n : Nat} {b f : Nat → Nat} {RD : Nat → Int32} (h : cu_H n b f RD) : cu_H (n + 1) (cu_u b n 0) (cu_u f n 0) RD := by
  intro k i hk hfi hib
  rw [cu_P_n n]
  by_cases z : k = n
  · subst z
    rw [cu_us] at hib
    omega
  · rw [cu_un z] at hib hfi
    obtain ⟨r, e, hr⟩ := h k i (by omega) hfi hib
    exact ⟨r, e, by omega⟩
/-! when all is done -/
theorem cu_done {G : cu_Pr} {n : Nat} {b f : Nat → Nat} {V S M RS : Nat → Int32} (hD : cu_D G n b f V S M RS) (hf : ∀ k, k < n → f k = cu_T G k) : V = cu_V G n ∧ S = cu_S G n ∧ M = cu_M G n := by
  obtain ⟨rfl, rfl, rfl, _⟩ := hD
  refine ⟨funext fun p => cu_EV_at n (fun k hk => Nat.le_of_eq (hf k hk)) (fun k hk _ _ h => by rw [hf k hk]; exact h), funext fun t => cu_ES_at n (fun k hk _ _ => hf k hk), cu_EM_at n (fun k hk _ => hf k hk)⟩
end
section
/-! X's readers -/
def cx_v (op xx yy zz : Int32) (o x y z : Nat) : Prop := op = nI o ∧ o ≤ 12 ∧ xx = nI x ∧ x < 4 ∧ (o ≠ 10 → o ≠ 12 → yy = nI y ∧ y < 4) ∧ (o ≤ 5 ∨ o = 11 → zz = nI z ∧ z < 4)
theorem cx_writes {post : Int32 → Prop} {o : Nat} (ho : o ≤ 12) (h1 : cu_wr o → post 1) (h0 : ¬ cu_wr o → post 0) : wpX_writesVector post (nI o) :=
  pk_le o 6 (fun h => h1 (Or.inl h)) (fun h => pk_eq o 8 (fun e => h1 (Or.inr e)) (fun e => h0 (by unfold cu_wr; omega)))
theorem cx_usesM {post : Int32 → Prop} {o : Nat} (ho : o ≤ 12) (h1 : o = 6 ∨ o = 7 ∨ o = 8 → post 1) (h0 : ¬ (o = 6 ∨ o = 7 ∨ o = 8) → post 0) : wpX_usesMemory post (nI o) :=
  pk_eq o 6 (fun h => h1 (by omega)) (fun _ => pk_eq o 7 (fun h => h1 (by omega)) (fun _ => pk_eq o 8 (fun h => h1 (by omega)) (fun _ => h0 (by omega))))
theorem cx_so {post : Int32 → Prop} {o : Nat} (ho : o ≤ 12) (h0 : o ≤ 9 → post 0) (h1 : ¬ o ≤ 9 → post 1) : wpX_isScalarOnly post (nI o) :=
  pk_lt o 10 (fun h => h0 (by omega)) (fun h => h1 (by omega))
theorem cx_clamp {post : Int32 → Prop} (s : Int32) (h : post (nI (cu_cl s))) : wpX_clamp post s 0 16 := by
  unfold cu_cl at h
  by_cases z : s < 0
  · rw [if_pos z] at h
    exact br_f (Int32.not_le.mpr z) h
  · rw [if_neg z] at h
    obtain ⟨j, hj, rfl⟩ := nI_of z
    refine br_t (nI_pos' hj) ?_
    by_cases y : nI j ≤ 16
    · rw [if_pos y, nI_clamp hj] at h
      exact br_t y h
    · rw [if_neg y] at h
      exact br_f y h
section
variable {f_lanes f_delay f_activeLength f_count f_issued : Int32} {a_vectors a_scalars a_cells a_ops a_xs a_ys a_zs a_takenLengths a_takenScalars a_begun a_finished a_results a_readyCycles : Nat → Int32}
theorem cx_r60 {post : Int32 → Prop} {j v y z : Nat} (hj : j < 16) (hv : v < 4) (hy : a_ys j = nI y ∧ y < 4) (hz : a_zs j = nI z ∧ z < 4) (h1 : y = v ∨ z = v → post 1) (h0 : ¬ (y = v ∨ z = v) → post 0) : wX_readsVector_60 post (nI j) (nI v) f_lanes f_delay f_activeLength f_count f_issued a_vectors a_scalars a_cells a_ops a_xs a_ys a_zs a_takenLengths a_takenScalars a_begun a_finished a_results a_readyCycles := by
  unfold wX_readsVector_60
  rw [nI_clamp (show j < 2 ^ 31 by omega), hy.1, hz.1]
  have := hy.2
  have := hz.2
  exact ⟨pk_in j 16 hj, pk_eq y v (fun e => h1 (Or.inl e)) (fun e => ⟨pk_in j 16 hj, pk_eq z v (fun e2 => h1 (Or.inr e2)) (fun e2 => h0 (by omega))⟩)⟩
theorem cx_r86 {post : Int32 → Prop} {j v y : Nat} (hj : j < 16) (hv : v < 4) (hy : a_ys j = nI y ∧ y < 4) (h1 : y = v → post 1) (h0 : ¬ y = v → post 0) : wX_readsVector_86 post (nI j) (nI v) f_lanes f_delay f_activeLength f_count f_issued a_vectors a_scalars a_cells a_ops a_xs a_ys a_zs a_takenLengths a_takenScalars a_begun a_finished a_results a_readyCycles := by
  unfold wX_readsVector_86
  rw [nI_clamp (show j < 2 ^ 31 by omega), hy.1]
  have := hy.2
  exact ⟨pk_in j 16 hj, pk_eq y v h1 h0⟩
theorem cx_reads {post : Int32 → Prop} {j v o x y z : Nat} (hj : j < 16) (hv : v < 4) (h : cx_v (a_ops j) (a_xs j) (a_ys j) (a_zs j) o x y z) (h1 : cu_rd o x y z v → post 1) (h0 : ¬ cu_rd o x y z v → post 0) : wpX_readsVector post (f_lanes, f_delay, f_activeLength, f_count, f_issued, a_vectors, a_scalars, a_cells, a_ops, a_xs, a_ys, a_zs, a_takenLengths, a_takenScalars, a_begun, a_finished, a_results, a_readyCycles) (nI j) (nI v) := by
  unfold wpX_readsVector
  obtain ⟨ho, ho12, hx, hx4, hy, hz⟩ := h
  dsimp only
  rw [nI_clamp (show j < 2 ^ 31 by omega), ho, hx]
  refine ⟨pk_in j 16 hj, nm_e ?_⟩
  refine pk_lt o 0 (fun h => absurd h (by omega)) fun _ => ?_
  refine pk_lt 9 o (fun h => h0 (by unfold cu_rd; omega)) fun h9 => ?_
  have r60 : o ≤ 3 → wX_readsVector_60 post (nI j) (nI v) f_lanes f_delay f_activeLength f_count f_issued a_vectors a_scalars a_cells a_ops a_xs a_ys a_zs a_takenLengths a_takenScalars a_begun a_finished a_results a_readyCycles := fun e => cx_r60 hj hv (hy (by omega) (by omega)) (hz (by omega)) (fun q => h1 (by unfold cu_rd; omega)) (fun q => h0 (by unfold cu_rd; omega))
  have r86 : o = 4 ∨ o = 5 ∨ o = 8 ∨ o = 9 → wX_readsVector_86 post (nI j) (nI v) f_lanes f_delay f_activeLength f_count f_issued a_vectors a_scalars a_cells a_ops a_xs a_ys a_zs a_takenLengths a_takenScalars a_begun a_finished a_results a_readyCycles := fun e => cx_r86 hj hv (hy (by omega) (by omega)) (fun q => h1 (by unfold cu_rd; omega)) (fun q => h0 (by unfold cu_rd; omega))
  refine pk_eq o 0 (fun e => r60 (by omega)) fun e0 => ?_
  refine pk_eq o 1 (fun e => r60 (by omega)) fun e1 => ?_
  refine pk_eq o 2 (fun e => r60 (by omega)) fun e2 => ?_
  refine pk_eq o 3 (fun e => r60 (by omega)) fun e3 => ?_
  refine pk_eq o 4 (fun e => r86 (by omega)) fun e4 => ?_
  refine pk_eq o 5 (fun e => r86 (by omega)) fun e5 => ?_
  refine pk_eq o 6 (fun e => h0 (by unfold cu_rd; omega)) fun e6 => ?_
  refine pk_eq o 7 (fun e => ⟨pk_in j 16 hj, pk_eq x v (fun q => h1 (by unfold cu_rd; omega)) (fun q => h0 (by unfold cu_rd; omega))⟩) fun e7 => ?_
  refine pk_eq o 8 (fun e => r86 (by omega)) fun e8 => ?_
  exact pk_eq o 9 (fun e => r86 (by omega)) (fun _ => trivial)
theorem cx_n56 {post : Int32 → Prop} {j v z : Nat} (hj : j < 16) (hv : v < 4) (hz : a_zs j = nI z ∧ z < 4) (h1 : z = v → post 1) (h0 : ¬ z = v → post 0) : wX_namesScalar_56 post (nI j) (nI v) f_lanes f_delay f_activeLength f_count f_issued a_vectors a_scalars a_cells a_ops a_xs a_ys a_zs a_takenLengths a_takenScalars a_begun a_finished a_results a_readyCycles := by
  unfold wX_namesScalar_56
  rw [nI_clamp (show j < 2 ^ 31 by omega), hz.1]
  have := hz.2
  exact ⟨pk_in j 16 hj, pk_eq z v h1 h0⟩
theorem cx_n72 {post : Int32 → Prop} {j v z : Nat} (hj : j < 16) (hv : v < 4) (hz : a_ys j = nI z ∧ z < 4) (h1 : z = v → post 1) (h0 : ¬ z = v → post 0) : wX_namesScalar_72 post (nI j) (nI v) f_lanes f_delay f_activeLength f_count f_issued a_vectors a_scalars a_cells a_ops a_xs a_ys a_zs a_takenLengths a_takenScalars a_begun a_finished a_results a_readyCycles := by
  unfold wX_namesScalar_72
  rw [nI_clamp (show j < 2 ^ 31 by omega), hz.1]
  have := hz.2
  exact ⟨pk_in j 16 hj, pk_eq z v h1 h0⟩
theorem cx_n124 {post : Int32 → Prop} {j v z : Nat} (hj : j < 16) (hv : v < 4) (hz : a_xs j = nI z ∧ z < 4) (h1 : z = v → post 1) (h0 : ¬ z = v → post 0) : wX_namesScalar_124 post (nI j) (nI v) f_lanes f_delay f_activeLength f_count f_issued a_vectors a_scalars a_cells a_ops a_xs a_ys a_zs a_takenLengths a_takenScalars a_begun a_finished a_results a_readyCycles := by
  unfold wX_namesScalar_124
  rw [nI_clamp (show j < 2 ^ 31 by omega), hz.1]
  have := hz.2
  exact ⟨pk_in j 16 hj, pk_eq z v h1 h0⟩
theorem cx_names {post : Int32 → Prop} {j v o x y z : Nat} (hj : j < 16) (hv : v < 4) (h : cx_v (a_ops j) (a_xs j) (a_ys j) (a_zs j) o x y z) (h1 : cu_nm o x y z v → post 1) (h0 : ¬ cu_nm o x y z v → post 0) : wpX_namesScalar post (f_lanes, f_delay, f_activeLength, f_count, f_issued, a_vectors, a_scalars, a_cells, a_ops, a_xs, a_ys, a_zs, a_takenLengths, a_takenScalars, a_begun, a_finished, a_results, a_readyCycles) (nI j) (nI v) := by
  unfold wpX_namesScalar
  obtain ⟨ho, ho12, hx, hx4, hy, hz⟩ := h
  dsimp only
  rw [nI_clamp (show j < 2 ^ 31 by omega), ho]
  refine ⟨pk_in j 16 hj, nm_e ?_⟩
  refine pk_lt o 4 (fun h => h0 (by unfold cu_nm; omega)) fun _ => ?_
  refine pk_lt 12 o (fun h => absurd h (by omega)) fun h9 => ?_
  have r56 : o = 4 ∨ o = 5 → wX_namesScalar_56 post (nI j) (nI v) f_lanes f_delay f_activeLength f_count f_issued a_vectors a_scalars a_cells a_ops a_xs a_ys a_zs a_takenLengths a_takenScalars a_begun a_finished a_results a_readyCycles := fun e => cx_n56 hj hv (hz (by omega)) (fun q => h1 (by unfold cu_nm; omega)) (fun q => h0 (by unfold cu_nm; omega))
  have r72 : o = 6 ∨ o = 7 → wX_namesScalar_72 post (nI j) (nI v) f_lanes f_delay f_activeLength f_count f_issued a_vectors a_scalars a_cells a_ops a_xs a_ys a_zs a_takenLengths a_takenScalars a_begun a_finished a_results a_readyCycles := fun e => cx_n72 hj hv (hy (by omega) (by omega)) (fun q => h1 (by unfold cu_nm; omega)) (fun q => h0 (by unfold cu_nm; omega))
  have r124 : o = 9 ∨ o = 10 ∨ o = 12 → wX_namesScalar_124 post (nI j) (nI v) f_lanes f_delay f_activeLength f_count f_issued a_vectors a_scalars a_cells a_ops a_xs a_ys a_zs a_takenLengths a_takenScalars a_begun a_finished a_results a_readyCycles := fun e => cx_n124 hj hv ⟨hx, hx4⟩ (fun q => h1 (by unfold cu_nm; omega)) (fun q => h0 (by unfold cu_nm; omega))
  refine pk_eq o 4 (fun e => r56 (by omega)) fun e4 => ?_
  refine pk_eq o 5 (fun e => r56 (by omega)) fun e5 => ?_
  refine pk_eq o 6 (fun e => r72 (by omega)) fun e6 => ?_
  refine pk_eq o 7 (fun e => r72 (by omega)) fun e7 => ?_
  refine pk_eq o 8 (fun e => h0 (by unfold cu_nm; omega)) fun e8 => ?_
  refine pk_eq o 9 (fun e => r124 (by omega)) fun e9 => ?_
  refine pk_eq o 10 (fun e => r124 (by omega)) fun e10 => ?_
  refine pk_eq o 11 (fun e => ?_) fun e11 => ?_
  · obtain ⟨hy1, hy2⟩ := hy (by omega) (by omega)
    obtain ⟨hz1, hz2⟩ := hz (by omega)
    rw [hx, hy1, hz1]
    exact ⟨pk_in j 16 hj, pk_eq x v (fun q => h1 (by unfold cu_nm; omega)) (fun q1 => ⟨pk_in j 16 hj, pk_eq y v (fun q => h1 (by unfold cu_nm; omega)) (fun q2 => ⟨pk_in j 16 hj, pk_eq z v (fun q => h1 (by unfold cu_nm; omega)) (fun q3 => h0 (by unfold cu_nm; omega))⟩)⟩)⟩
  · exact pk_eq o 12 (fun e => r124 (by omega)) (fun _ => trivial)
theorem cx_operand {post : Int32 → Prop} {j o x y z : Nat} (hj : j < 16) (h : cx_v (a_ops j) (a_xs j) (a_ys j) (a_zs j) o x y z) (hp : post (cu_sc o y z a_scalars)) : wpX_scalarOperand post (f_lanes, f_delay, f_activeLength, f_count, f_issued, a_vectors, a_scalars, a_cells, a_ops, a_xs, a_ys, a_zs, a_takenLengths, a_takenScalars, a_begun, a_finished, a_results, a_readyCycles) (nI j) := by
  unfold wpX_scalarOperand
  obtain ⟨ho, ho12, hx, hx4, hy, hz⟩ := h
  dsimp only
  rw [nI_clamp (show j < 2 ^ 31 by omega), ho]
  refine ⟨pk_in j 16 hj, nm_e ?_⟩
  unfold cu_sc at hp
  refine pk_lt o 4 (fun h => by rw [if_neg (by omega), if_neg (by omega)] at hp; exact hp) fun _ => ?_
  refine pk_lt 7 o (fun h => by rw [if_neg (by omega), if_neg (by omega)] at hp; exact hp) fun h9 => ?_
  have r36 : o = 4 ∨ o = 5 → wX_scalarOperand_36 post (nI j) f_lanes f_delay f_activeLength f_count f_issued a_vectors a_scalars a_cells a_ops a_xs a_ys a_zs a_takenLengths a_takenScalars a_begun a_finished a_results a_readyCycles := fun e => by
    rw [if_pos e] at hp
    obtain ⟨hz1, hz2⟩ := hz (by omega)
    unfold wX_scalarOperand_36
    rw [nI_clamp (show j < 2 ^ 31 by omega), hz1, nI_clamp (show z < 2 ^ 31 by omega)]
    exact ⟨pk_in j 16 hj, pk_in z 4 hz2, hp⟩
  have r48 : o = 6 ∨ o = 7 → wX_scalarOperand_48 post (nI j) f_lanes f_delay f_activeLength f_count f_issued a_vectors a_scalars a_cells a_ops a_xs a_ys a_zs a_takenLengths a_takenScalars a_begun a_finished a_results a_readyCycles := fun e => by
    rw [if_neg (by omega), if_pos e] at hp
    obtain ⟨hz1, hz2⟩ := hy (by omega) (by omega)
    unfold wX_scalarOperand_48
    rw [nI_clamp (show j < 2 ^ 31 by omega), hz1, nI_clamp (show y < 2 ^ 31 by omega)]
    exact ⟨pk_in j 16 hj, pk_in y 4 hz2, hp⟩
  refine pk_eq o 4 (fun e => r36 (by omega)) fun e4 => ?_
  refine pk_eq o 5 (fun e => r36 (by omega)) fun e5 => ?_
  refine pk_eq o 6 (fun e => r48 (by omega)) fun e6 => ?_
  exact pk_eq o 7 (fun e => r48 (by omega)) (fun _ => trivial)
end
end
section
/-! X's readers: elements, waiting -/
theorem cx_ix (a i : Nat) : nI a * 16 + nI i = nI (16 * a + i) := by
  rw [show (16 : Int32) = nI 16 from rfl, pk_mul, nI_add]
  exact congrArg nI (by omega)
theorem cx_and (x : Int32) : vp_in (x &&& 63) 64 := pk_andIn x 6 (by decide) (by decide)
def cx_ok (po px py pz : Nat → Int32) (G : cu_Pr) (n : Nat) : Prop :=
  ∀ j, j < n → cx_v (po j) (px j) (py j) (pz j) (cu_O G j) (cu_X G j) (cu_Y G j) (cu_Z G j) ∧ py j = cu_yi G j ∧ pz j = cu_zi G j
section
variable {f_lanes f_delay f_activeLength f_count f_issued : Int32} {a_vectors a_scalars a_cells a_ops a_xs a_ys a_zs a_takenLengths a_takenScalars a_begun a_finished a_results a_readyCycles : Nat → Int32}
theorem cx_cellOf {post : Int32 → Prop} {j i : Nat} (hj : j < 16) (hp : post ((a_takenScalars j + nI i * a_zs j) &&& 63)) : wpX_cellOf post (f_lanes, f_delay, f_activeLength, f_count, f_issued, a_vectors, a_scalars, a_cells, a_ops, a_xs, a_ys, a_zs, a_takenLengths, a_takenScalars, a_begun, a_finished, a_results, a_readyCycles) (nI j) (nI i) := by
  unfold wpX_cellOf
  dsimp only
  rw [nI_clamp (show j < 2 ^ 31 by omega)]
  exact ⟨pk_in j 16 hj, pk_in j 16 hj, hp⟩
theorem cx_arith {post : Int32 → Prop} {j i o x y z : Nat} {zi : Int32} (hj : j < 16) (hi : i < 16) (h : cx_v (a_ops j) (a_xs j) (a_ys j) (a_zs j) o x y z) (h5 : o ≤ 5) (hp : post (cu_res o x y z zi (a_takenScalars j) a_vectors a_cells i)) : wpX_arithmeticOf post (f_lanes, f_delay, f_activeLength, f_count, f_issued, a_vectors, a_scalars, a_cells, a_ops, a_xs, a_ys, a_zs, a_takenLengths, a_takenScalars, a_begun, a_finished, a_results, a_readyCycles) (nI j) (nI i) := by
  unfold wpX_arithmeticOf
  obtain ⟨ho, ho12, hx, hx4, hy, hz⟩ := h
  obtain ⟨hy1, hy2⟩ := hy (by omega) (by omega)
  obtain ⟨hz1, hz2⟩ := hz (by omega)
  dsimp only
  rw [nI_clamp (show j < 2 ^ 31 by omega), ho, hy1, hz1, cx_ix, cx_ix, nI_clamp (show 16 * y + i < 2 ^ 31 by omega), nI_clamp (show 16 * z + i < 2 ^ 31 by omega)]
  refine ⟨pk_in j 16 hj, pk_in (16 * y + i) 64 (by omega), nm_e ⟨pk_in j 16 hj, ?_⟩⟩
  refine pk_eq o 4 (fun e => ⟨pk_in j 16 hj, by subst e; exact hp⟩) fun e4 => ⟨pk_in j 16 hj, ?_⟩
  refine pk_eq o 5 (fun e => ⟨pk_in j 16 hj, by subst e; exact hp⟩) fun e5 => ⟨pk_in j 16 hj, pk_in (16 * z + i) 64 (by omega), nm_e ⟨pk_in j 16 hj, nm_e ?_⟩⟩
  refine pk_lt o 0 (fun h => absurd h (by omega)) fun _ => ?_
  refine pk_lt 2 o (fun h => ?_) fun h2 => ?_
  · have e : o = 3 := by omega
    subst e
    have hp' : post (cu_mx (a_vectors (16 * y + i)) (a_vectors (16 * z + i))) := hp
    unfold cu_mx at hp'
    exact br_c (fun c => by rw [if_pos c] at hp'; exact hp') (fun c => by rw [if_neg c] at hp'; exact hp')
  · refine pk_eq o 0 (fun e => by subst e; exact hp) fun e0 => ?_
    refine pk_eq o 1 (fun e => by subst e; exact hp) fun e1 => ?_
    exact pk_eq o 2 (fun e => by subst e; exact hp) (fun _ => trivial)
theorem cx_result {post : Int32 → Prop} {j i o x y z : Nat} (hj : j < 16) (hi : i < 16) (h : cx_v (a_ops j) (a_xs j) (a_ys j) (a_zs j) o x y z) (h9 : o ≤ 9) (hp : post (cu_res o x y z (a_zs j) (a_takenScalars j) a_vectors a_cells i)) : wpX_resultOf post (f_lanes, f_delay, f_activeLength, f_count, f_issued, a_vectors, a_scalars, a_cells, a_ops, a_xs, a_ys, a_zs, a_takenLengths, a_takenScalars, a_begun, a_finished, a_results, a_readyCycles) (nI j) (nI i) := by
  unfold wpX_resultOf
  have h' := h
  obtain ⟨ho, ho12, hx, hx4, hy, hz⟩ := h
  obtain ⟨hy1, hy2⟩ := hy (by omega) (by omega)
  dsimp only
  rw [nI_clamp (show j < 2 ^ 31 by omega), ho, hx, hy1, cx_ix, cx_ix, nI_clamp (show 16 * y + i < 2 ^ 31 by omega), nI_clamp (show 16 * x + i < 2 ^ 31 by omega)]
  refine ⟨pk_in j 16 hj, nm_e ?_⟩
  refine pk_lt o 6 (fun h5 => cx_arith hj hi h' (by omega) hp) fun h6 => ?_
  refine pk_lt 9 o (fun h => absurd h (by omega)) fun _ => ?_
  refine pk_eq o 6 (fun e => cx_cellOf hj ⟨cx_and _, by subst e; exact hp⟩) fun e6 => ?_
  refine pk_eq o 7 (fun e => ⟨pk_in j 16 hj, pk_in (16 * x + i) 64 (by omega), by subst e; exact hp⟩) fun e7 => ?_
  refine pk_eq o 8 (fun e => ⟨pk_in j 16 hj, pk_in (16 * y + i) 64 (by omega), cx_and _, by subst e; exact hp⟩) fun e8 => ?_
  exact pk_eq o 9 (fun e => ⟨pk_in j 16 hj, pk_in (16 * y + i) 64 (by omega), by subst e; exact hp⟩) (fun _ => trivial)
theorem cx_h65 {post : Int32 → Prop} {e j i o x y z o' x' y' z' be : Nat} (he : e < 16) (hj : j < 16) (hi : i < 16) (ve : cx_v (a_ops e) (a_xs e) (a_ys e) (a_zs e) o x y z) (vj : cx_v (a_ops j) (a_xs j) (a_ys j) (a_zs j) o' x' y' z')
    (hB : a_begun e = nI be) (hbe : be ≤ 16) (h0 : (cu_wr o' → cu_rd o x y z x' → i < be) → post 0) (h1 : ¬ (cu_wr o' → cu_rd o x y z x' → i < be) → post 1) : wX_holdsBack_65 post (nI e) (nI j) (nI i) f_lanes f_delay f_activeLength f_count f_issued a_vectors a_scalars a_cells a_ops a_xs a_ys a_zs a_takenLengths a_takenScalars a_begun a_finished a_results a_readyCycles := by
  unfold wX_holdsBack_65
  rw [nI_clamp (show j < 2 ^ 31 by omega), nI_clamp (show e < 2 ^ 31 by omega), hB, vj.1, vj.2.2.1]
  have hx4 := vj.2.2.2.1
  refine ⟨pk_in e 16 he, pk_lt i be (fun h => h0 (fun _ _ => h)) fun h => ⟨pk_in j 16 hj, ?_⟩⟩
  refine cx_writes vj.2.1 (fun w => br_f (by decide) ⟨pk_in j 16 hj, ?_⟩) (fun w => br_t rfl (h0 (fun q => absurd q w)))
  exact cx_reads he hx4 ve (fun r => br_f (by decide) (h1 (fun q => absurd (q w r) (by omega)))) (fun r => br_t rfl (h0 (fun _ q => absurd q r)))
theorem cx_holds {post : Int32 → Prop} {e j i o x y z o' x' y' z' be fe : Nat} (he : e < 16) (hj : j < 16) (hi : i < 16) (ve : cx_v (a_ops e) (a_xs e) (a_ys e) (a_zs e) o x y z) (vj : cx_v (a_ops j) (a_xs j) (a_ys j) (a_zs j) o' x' y' z')
    (hB : a_begun e = nI be) (hbe : be ≤ 16) (hF : a_finished e = nI fe) (hfe : fe ≤ 16)
    (h0 : (cu_wr o → (cu_rd o' x' y' z' x ∨ (cu_wr o' ∧ x' = x)) → i < fe) ∧ (cu_wr o' → cu_rd o x y z x' → i < be) → post 0)
    (h1 : ¬ ((cu_wr o → (cu_rd o' x' y' z' x ∨ (cu_wr o' ∧ x' = x)) → i < fe) ∧ (cu_wr o' → cu_rd o x y z x' → i < be)) → post 1) : wpX_holdsBack post (f_lanes, f_delay, f_activeLength, f_count, f_issued, a_vectors, a_scalars, a_cells, a_ops, a_xs, a_ys, a_zs, a_takenLengths, a_takenScalars, a_begun, a_finished, a_results, a_readyCycles) (nI e) (nI j) (nI i) := by
  have r65 : (cu_wr o → (cu_rd o' x' y' z' x ∨ (cu_wr o' ∧ x' = x)) → i < fe) → wX_holdsBack_65 post (nI e) (nI j) (nI i) f_lanes f_delay f_activeLength f_count f_issued a_vectors a_scalars a_cells a_ops a_xs a_ys a_zs a_takenLengths a_takenScalars a_begun a_finished a_results a_readyCycles := fun hA => cx_h65 he hj hi ve vj hB hbe (fun hb => h0 ⟨hA, hb⟩) (fun hb => h1 (fun q => hb q.2))
  unfold wpX_holdsBack
  dsimp only
  rw [nI_clamp (show j < 2 ^ 31 by omega), nI_clamp (show e < 2 ^ 31 by omega), hF, ve.1, vj.1, ve.2.2.1, vj.2.2.1]
  have hx4 := ve.2.2.2.1
  have hx4' := vj.2.2.2.1
  refine ⟨pk_in e 16 he, pk_lt i fe (fun h => r65 (fun _ _ => h)) fun h => ⟨pk_in e 16 he, ?_⟩⟩
  refine cx_writes ve.2.1 (fun w => br_f (by decide) ⟨pk_in e 16 he, nm_e ?_⟩) (fun w => br_t rfl (r65 (fun q => absurd q w)))
  refine cx_reads hj hx4 vj (fun r => br_f (by decide) (h1 (fun q => absurd (q.1 w (Or.inl r)) (by omega)))) (fun r => br_t rfl ⟨pk_in j 16 hj, ?_⟩)
  refine cx_writes vj.2.1 (fun w' => br_f (by decide) ⟨pk_in j 16 hj, ?_⟩) (fun w' => br_t rfl (r65 (fun _ q => q.elim (fun a => absurd a r) (fun a => absurd a.1 w'))))
  exact pk_eq x' x (fun q => h1 (fun a => absurd (a.1 w (Or.inr ⟨w', q⟩)) (by omega))) (fun q => r65 (fun _ a => a.elim (fun a => absurd a r) (fun a => absurd a.2 q)))
theorem cx_mwb2 {post : Int32 → Prop} {G : cu_Pr} {n j i : Nat} {b f : Nat → Nat} (hn : n ≤ 16) (hj : j < n) (hi : i < 16) (hok : cx_ok a_ops a_xs a_ys a_zs G n) (hA : cu_A G n b f a_takenLengths a_takenScalars a_begun a_finished)
    (hb : ∀ k, k < n → f k ≤ b k ∧ b k ≤ cu_T G k) (hT : ∀ k, cu_T G k ≤ 16)
    (h0 : (∀ e, e < j → i < cu_T G e → cu_go G b f e j i) → post 0) (h1 : (∃ e, e < j ∧ i < cu_T G e ∧ ¬ cu_go G b f e j i) → post 1) :
    ∀ d e w, e + d = j → d < w → (∀ k, k < e → i < cu_T G k → cu_go G b f k j i) → wX_mustWaitToBegin_2 post (nI j) (nI i) f_lanes f_delay f_activeLength f_count f_issued a_vectors a_scalars a_cells a_ops a_xs a_ys a_zs a_takenLengths a_takenScalars a_begun a_finished a_results a_readyCycles w (nI e) := by
  intro d
  induction d with
  | zero =>
    intro e w he hw hk
    obtain ⟨w, rfl⟩ : ∃ v, w = v + 1 := ⟨w - 1, by omega⟩
    exact br_t (nI_le (by omega) (by omega)) (h0 (fun k h => hk k (by omega)))
  | succ d ih =>
    intro e w he hw hk
    obtain ⟨w, rfl⟩ : ∃ v, w = v + 1 := ⟨w - 1, by omega⟩
    obtain ⟨a1, a2, a3, a4⟩ := hA e (by omega)
    have hbe := hb e (by omega)
    have hTe := hT e
    have nx : (i < cu_T G e → cu_go G b f e j i) → ∀ v, v = nI e + 1 → wX_mustWaitToBegin_2 post (nI j) (nI i) f_lanes f_delay f_activeLength f_count f_issued a_vectors a_scalars a_cells a_ops a_xs a_ys a_zs a_takenLengths a_takenScalars a_begun a_finished a_results a_readyCycles w v := fun hg v hv => by
      rw [hv, nI_1]
      exact ih (e + 1) w (by omega) (by omega) (lt_s hk hg)
    refine br_f (nI_ge (by omega) (by omega)) ⟨pk_in e 16 (by omega), ?_⟩
    rw [nI_clamp (show e < 2 ^ 31 by omega), a1]
    refine pk_le (cu_T G e) i (fun h => nx (fun q => absurd q (by omega))) fun h => ?_
    exact cx_holds (by omega) (by omega) hi (hok e (by omega)).1 (hok j hj).1 a3 (by omega) a4 (by omega)
      (fun g => br_t rfl (nx (fun _ => g))) (fun g => br_f (by decide) (h1 ⟨e, by omega, h, g⟩))
theorem cx_mwb {post : Int32 → Prop} {G : cu_Pr} {n j i : Nat} {b f : Nat → Nat} (hn : n ≤ 16) (hj : j < n) (hi : i < 16) (hok : cx_ok a_ops a_xs a_ys a_zs G n) (hA : cu_A G n b f a_takenLengths a_takenScalars a_begun a_finished)
    (hb : ∀ k, k < n → f k ≤ b k ∧ b k ≤ cu_T G k) (hT : ∀ k, cu_T G k ≤ 16)
    (h0 : (∀ e, e < j → i < cu_T G e → cu_go G b f e j i) → post 0) (h1 : (∃ e, e < j ∧ i < cu_T G e ∧ ¬ cu_go G b f e j i) → post 1) : wpX_mustWaitToBegin post (f_lanes, f_delay, f_activeLength, f_count, f_issued, a_vectors, a_scalars, a_cells, a_ops, a_xs, a_ys, a_zs, a_takenLengths, a_takenScalars, a_begun, a_finished, a_results, a_readyCycles) (nI j) (nI i) := by
  unfold wpX_mustWaitToBegin
  exact ⟨j + 1, cx_mwb2 hn hj hi hok hA hb hT h0 h1 j 0 (j + 1) (by omega) (by omega) (fun k h => absurd h (by omega))⟩
theorem cx_inf {post : Int32 → Prop} {G : cu_Pr} {n j : Nat} {b f : Nat → Nat} (hn : n ≤ 16) (hj : j < n) (hA : cu_A G n b f a_takenLengths a_takenScalars a_begun a_finished) (hb : ∀ k, k < n → f k ≤ b k ∧ b k ≤ cu_T G k) (hT : ∀ k, cu_T G k ≤ 16)
    (h0 : f j = cu_T G j → post 0) (h1 : f j < cu_T G j → post 1) : wpX_isInFlight post (f_lanes, f_delay, f_activeLength, f_count, f_issued, a_vectors, a_scalars, a_cells, a_ops, a_xs, a_ys, a_zs, a_takenLengths, a_takenScalars, a_begun, a_finished, a_results, a_readyCycles) (nI j) := by
  obtain ⟨a1, a2, a3, a4⟩ := hA j hj
  have hbe := hb j hj
  have hTe := hT j
  unfold wpX_isInFlight
  dsimp only
  rw [nI_clamp (show j < 2 ^ 31 by omega), a1, a4]
  exact ⟨pk_in j 16 (by omega), pk_in j 16 (by omega), pk_le (cu_T G j) (f j) (fun h => h0 (by omega)) h1⟩
theorem cx_done2 {post : Int32 → Prop} {G : cu_Pr} {n : Nat} {b f : Nat → Nat} (hn : n ≤ 16) (hA : cu_A G n b f a_takenLengths a_takenScalars a_begun a_finished) (hb : ∀ k, k < n → f k ≤ b k ∧ b k ≤ cu_T G k) (hT : ∀ k, cu_T G k ≤ 16)
    (h1 : (∀ k, k < n → f k = cu_T G k) → post 1) (h0 : (∃ k, k < n ∧ f k < cu_T G k) → post 0) :
    ∀ d e w, e + d = n → d < w → (∀ k, k < e → f k = cu_T G k) → wX_isProgramDone_15 post f_lanes f_delay f_activeLength f_count (nI n) a_vectors a_scalars a_cells a_ops a_xs a_ys a_zs a_takenLengths a_takenScalars a_begun a_finished a_results a_readyCycles w (nI e) := by
  intro d
  induction d with
  | zero =>
    intro e w he hw hk
    obtain ⟨w, rfl⟩ : ∃ v, w = v + 1 := ⟨w - 1, by omega⟩
    exact br_t (nI_le (by omega) (by omega)) (h1 (fun k h => hk k (by omega)))
  | succ d ih =>
    intro e w he hw hk
    obtain ⟨w, rfl⟩ : ∃ v, w = v + 1 := ⟨w - 1, by omega⟩
    refine br_f (nI_ge (by omega) (by omega)) ?_
    refine cx_inf hn (show e < n by omega) hA hb hT (fun h => br_t rfl fun v hv => ?_) (fun h => br_f (by decide) (h0 ⟨e, by omega, h⟩))
    rw [hv, nI_1]
    exact ih (e + 1) w (by omega) (by omega) (lt_s hk h)
theorem cx_done {post : Int32 → Prop} {G : cu_Pr} {n c : Nat} {b f : Nat → Nat} (hn : n ≤ c) (hc : c ≤ 16) (hA : cu_A G n b f a_takenLengths a_takenScalars a_begun a_finished) (hb : ∀ k, k < n → f k ≤ b k ∧ b k ≤ cu_T G k) (hT : ∀ k, cu_T G k ≤ 16)
    (h1 : n = c → (∀ k, k < n → f k = cu_T G k) → post 1) (h0 : ¬ (n = c ∧ ∀ k, k < n → f k = cu_T G k) → post 0) : wpX_isProgramDone post (f_lanes, f_delay, f_activeLength, nI c, nI n, a_vectors, a_scalars, a_cells, a_ops, a_xs, a_ys, a_zs, a_takenLengths, a_takenScalars, a_begun, a_finished, a_results, a_readyCycles) := by
  unfold wpX_isProgramDone
  dsimp only
  refine pk_le c n (fun h => ⟨n + 1, ?_⟩) (fun h => h0 (by omega))
  exact cx_done2 (by omega) hA hb hT (h1 (by omega)) (fun ⟨k, hk, hlt⟩ => h0 (fun q => by have := q.2 k hk; omega)) n 0 (n + 1) (by omega) (by omega) (fun k h => absurd h (by omega))
theorem cx_clS {post : Int32 → Prop} {e j o x y z o' x' y' z' : Nat} (he : e < 16) (hj : j < 16) (ve : cx_v (a_ops e) (a_xs e) (a_ys e) (a_zs e) o x y z) (vj : cx_v (a_ops j) (a_xs j) (a_ys j) (a_zs j) o' x' y' z')
    (h1 : o = 9 → cu_nm o' x' y' z' x → post 1) (h0 : ¬ (o = 9 ∧ cu_nm o' x' y' z' x) → post 0) : wpX_clashesOverScalar post (f_lanes, f_delay, f_activeLength, f_count, f_issued, a_vectors, a_scalars, a_cells, a_ops, a_xs, a_ys, a_zs, a_takenLengths, a_takenScalars, a_begun, a_finished, a_results, a_readyCycles) (nI e) (nI j) := by
  unfold wpX_clashesOverScalar
  dsimp only
  rw [nI_clamp (show e < 2 ^ 31 by omega), ve.1, ve.2.2.1]
  have h12 := ve.2.1
  refine ⟨pk_in e 16 he, pk_eq o 9 (fun h => ⟨pk_in e 16 he, ?_⟩) (fun h => h0 (fun q => h q.1))⟩
  exact cx_names hj ve.2.2.2.1 vj (fun r => br_f (by decide) (h1 h r)) (fun r => br_t rfl (h0 (fun q => r q.2)))
theorem cx_clM {post : Int32 → Prop} {e j o x y z o' x' y' z' : Nat} (he : e < 16) (hj : j < 16) (ve : cx_v (a_ops e) (a_xs e) (a_ys e) (a_zs e) o x y z) (vj : cx_v (a_ops j) (a_xs j) (a_ys j) (a_zs j) o' x' y' z')
    (h1 : cu_mc o o' → post 1) (h0 : ¬ cu_mc o o' → post 0) : wpX_clashesOverMemory post (f_lanes, f_delay, f_activeLength, f_count, f_issued, a_vectors, a_scalars, a_cells, a_ops, a_xs, a_ys, a_zs, a_takenLengths, a_takenScalars, a_begun, a_finished, a_results, a_readyCycles) (nI e) (nI j) := by
  unfold wpX_clashesOverMemory
  dsimp only
  rw [nI_clamp (show e < 2 ^ 31 by omega), nI_clamp (show j < 2 ^ 31 by omega), ve.1, vj.1]
  have h12 := ve.2.1
  have h12' := vj.2.1
  refine ⟨pk_in e 16 he, cx_usesM h12 (fun m => br_f (by decide) ⟨pk_in j 16 hj, ?_⟩) (fun m => br_t rfl (h0 (fun q => m q.1)))⟩
  refine cx_usesM h12' (fun m' => br_f (by decide) ⟨pk_in e 16 he, ?_⟩) (fun m' => br_t rfl (h0 (fun q => m' q.2.1)))
  refine pk_eq o 7 (fun h => h1 ⟨m, m', Or.inl h⟩) fun h => ⟨pk_in j 16 hj, ?_⟩
  exact pk_eq o' 7 (fun h' => h1 ⟨m, m', Or.inr h'⟩) (fun h' => h0 (fun q => q.2.2.elim h h'))
theorem cx_mwi2 {post : Int32 → Prop} {G : cu_Pr} {n : Nat} {b f : Nat → Nat} (hn : n < 16) (hok : cx_ok a_ops a_xs a_ys a_zs G (n + 1)) (hA : cu_A G n b f a_takenLengths a_takenScalars a_begun a_finished) (hb : ∀ k, k < n → f k ≤ b k ∧ b k ≤ cu_T G k) (hT : ∀ k, cu_T G k ≤ 16)
    (h0 : (∀ e, e < n → cu_O G e = 9 → cu_nM G n (cu_X G e) → f e = cu_T G e) → (∀ e, e < n → cu_mc (cu_O G e) (cu_O G n) → f e = cu_T G e) → post 0) (h1 : (∃ e, e < n ∧ f e < cu_T G e) → post 1) :
    ∀ d e w, e + d = n → d < w → (∀ k, k < e → cu_O G k = 9 → cu_nM G n (cu_X G k) → f k = cu_T G k) → (∀ k, k < e → cu_mc (cu_O G k) (cu_O G n) → f k = cu_T G k) → wX_mustWaitToIssue_2 post (nI n) f_lanes f_delay f_activeLength f_count f_issued a_vectors a_scalars a_cells a_ops a_xs a_ys a_zs a_takenLengths a_takenScalars a_begun a_finished a_results a_readyCycles w (nI e) := by
  intro d
  induction d with
  | zero =>
    intro e w he hw hk hm
    obtain ⟨w, rfl⟩ : ∃ v, w = v + 1 := ⟨w - 1, by omega⟩
    exact br_t (nI_le (by omega) (by omega)) (h0 (fun k h => hk k (by omega)) (fun k h => hm k (by omega)))
  | succ d ih =>
    intro e w he hw hk hm
    obtain ⟨w, rfl⟩ : ∃ v, w = v + 1 := ⟨w - 1, by omega⟩
    have nx : (cu_O G e = 9 → cu_nM G n (cu_X G e) → f e = cu_T G e) → (cu_mc (cu_O G e) (cu_O G n) → f e = cu_T G e) → ∀ v, v = nI e + 1 → wX_mustWaitToIssue_2 post (nI n) f_lanes f_delay f_activeLength f_count f_issued a_vectors a_scalars a_cells a_ops a_xs a_ys a_zs a_takenLengths a_takenScalars a_begun a_finished a_results a_readyCycles w v := fun g1 g2 v hv => by
      rw [hv, nI_1]
      exact ih (e + 1) w (by omega) (by omega) (lt_s hk g1) (lt_s hm g2)
    refine br_f (nI_ge (by omega) (by omega)) ?_
    refine cx_inf (by omega) (show e < n by omega) hA hb hT (fun h => br_t rfl (nx (fun _ _ => h) (fun _ => h))) (fun h => br_f (by decide) ?_)
    refine cx_clS (by omega) hn (hok e (by omega)).1 (hok n (by omega)).1 (fun _ _ => br_f (by decide) (h1 ⟨e, by omega, h⟩)) (fun g1 => br_t rfl ?_)
    exact cx_clM (by omega) hn (hok e (by omega)).1 (hok n (by omega)).1 (fun _ => br_f (by decide) (h1 ⟨e, by omega, h⟩)) (fun g2 => br_t rfl (nx (fun q1 q2 => absurd ⟨q1, q2⟩ g1) (fun q => absurd q g2)))
theorem cx_mwi {post : Int32 → Prop} {G : cu_Pr} {n : Nat} {b f : Nat → Nat} (hn : n < 16) (hok : cx_ok a_ops a_xs a_ys a_zs G (n + 1)) (hA : cu_A G n b f a_takenLengths a_takenScalars a_begun a_finished) (hb : ∀ k, k < n → f k ≤ b k ∧ b k ≤ cu_T G k) (hT : ∀ k, cu_T G k ≤ 16)
    (h0 : (∀ e, e < n → cu_O G e = 9 → cu_nM G n (cu_X G e) → f e = cu_T G e) → (∀ e, e < n → cu_mc (cu_O G e) (cu_O G n) → f e = cu_T G e) → post 0) (h1 : (∃ e, e < n ∧ f e < cu_T G e) → post 1) : wpX_mustWaitToIssue post (f_lanes, f_delay, f_activeLength, f_count, f_issued, a_vectors, a_scalars, a_cells, a_ops, a_xs, a_ys, a_zs, a_takenLengths, a_takenScalars, a_begun, a_finished, a_results, a_readyCycles) (nI n) := by
  unfold wpX_mustWaitToIssue
  exact ⟨n + 1, cx_mwi2 hn hok hA hb hT h0 h1 n 0 (n + 1) (by omega) (by omega) (fun k h => absurd h (by omega)) (fun k h => absurd h (by omega))⟩
end
end
section
/-! X's finishing of elements -/
def cu_K (G : cu_Pr) (n : Nat) (b f : Nat → Nat) (V S M TL TS B F RS RD : Nat → Int32) : Prop :=
  cu_I G n b f ∧ cu_D G n b f V S M RS ∧ cu_A G n b f TL TS B F ∧ cu_H n b f RD
theorem cu_Pb {G : cu_Pr} {n : Nat} {b f : Nat → Nat} (hI : cu_I G n b f) (hT : ∀ k, cu_T G k ≤ 16) (hn : n ≤ 16) : cu_P b f n ≤ 528 := by
  have := cu_P_le (b := b) (f := f) n (fun k hk => by have := hI.1 k hk; have := hT k; omega)
  omega
theorem cu_T9 {G : cu_Pr} {j i : Nat} (h : i < cu_T G j) : cu_O G j ≤ 9 := by
  unfold cu_T at h
  by_cases z : cu_O G j ≤ 9
  · exact z
  · rw [if_neg z] at h; omega
section
variable {f_lanes f_delay f_activeLength f_count f_issued : Int32} {a_vectors a_scalars a_cells a_ops a_xs a_ys a_zs a_takenLengths a_takenScalars a_begun a_finished a_results a_readyCycles : Nat → Int32}
theorem cx_deliver {post : SX → Prop} {G : cu_Pr} {n j : Nat} {b f : Nat → Nat} (hn : n ≤ 16) (hj : j < n) (hok : cx_ok a_ops a_xs a_ys a_zs G n) (hT : ∀ k, cu_T G k ≤ 16)
    (hI : cu_I G n b f) (hD : cu_D G n b f a_vectors a_scalars a_cells a_results) (hA : cu_A G n b f a_takenLengths a_takenScalars a_begun a_finished) (hi : f j < b j)
    (hp : ∀ V S M, cu_D G n b (cu_u f j (f j + 1)) V S M a_results → post (f_lanes, f_delay, f_activeLength, f_count, f_issued, V, S, M, a_ops, a_xs, a_ys, a_zs, a_takenLengths, a_takenScalars, a_begun, a_finished, a_results, a_readyCycles)) : wpX_deliver post (f_lanes, f_delay, f_activeLength, f_count, f_issued, a_vectors, a_scalars, a_cells, a_ops, a_xs, a_ys, a_zs, a_takenLengths, a_takenScalars, a_begun, a_finished, a_results, a_readyCycles) (nI j) (nI (f j)) := by
  have hb := (hI.1 j hj).2
  have hTj := hT j
  have h9 : cu_O G j ≤ 9 := cu_T9 (show f j < cu_T G j by omega)
  obtain ⟨⟨ho, ho12, hx, hx4, _, _⟩, hyi, hzi⟩ := hok j hj
  obtain ⟨_, a2, _, _⟩ := hA j hj
  unfold wpX_deliver
  dsimp only
  rw [cx_ix, nI_clamp (show 16 * j + f j < 2 ^ 31 by omega), nI_clamp (show j < 2 ^ 31 by omega), ho, hx, nI_clamp (show cu_X G j < 2 ^ 31 by omega), cx_ix, nI_clamp (show 16 * cu_X G j + f j < 2 ^ 31 by omega)]
  refine ⟨pk_in (16 * j + f j) 256 (by omega), nm_e ⟨pk_in j 16 (by omega), ?_⟩⟩
  refine pk_eq (cu_O G j) 7 (fun h => cx_cellOf (by omega) ⟨cx_and _, nm_e ?_⟩) fun h7 => ⟨pk_in j 16 (by omega), ?_⟩
  · have d := cu_D_m hI hD hj hi h
    unfold cu_ca at d
    rw [← a2, ← hzi] at d
    exact hp _ _ _ d
  refine pk_eq (cu_O G j) 9 (fun h => ⟨pk_in j 16 (by omega), pk_in (cu_X G j) 4 hx4, pk_in (cu_X G j) 4 hx4, nm_e (hp _ _ _ (cu_D_s hI hD hj hi h))⟩) fun hn9 => ?_
  exact ⟨pk_in j 16 (by omega), pk_in (16 * cu_X G j + f j) 64 (by omega), nm_e (hp _ _ _ (cu_D_v hI hD hj hi hTj (by unfold cu_wr; omega)))⟩
theorem cx_fin17 {post : SX → Prop} {J2 : Int32 → Int32 → Int32 → Int32 → Int32 → Int32 → (Nat → Int32) → (Nat → Int32) → (Nat → Int32) → (Nat → Int32) → (Nat → Int32) → (Nat → Int32) → (Nat → Int32) → (Nat → Int32) → (Nat → Int32) → (Nat → Int32) → (Nat → Int32) → (Nat → Int32) → (Nat → Int32) → Prop}
    {G : cu_Pr} {n j c : Nat} {b : Nat → Nat} (hn : n ≤ 16) (hj : j < n) (hc : c < 10000) (hok : cx_ok a_ops a_xs a_ys a_zs G n) (hT : ∀ k, cu_T G k ≤ 16)
    (hJ : ∀ f V S M F, cu_K G n b f V S M a_takenLengths a_takenScalars a_begun F a_results a_readyCycles → c ≤ 6 * cu_P b f n + 5 → (c + 1 ≤ 6 * cu_P b f n + 5 ∨ ∀ k, k < j + 1 → f k = b k) → J2 (nI (j + 1)) f_lanes f_delay f_activeLength f_count f_issued V S M a_ops a_xs a_ys a_zs a_takenLengths a_takenScalars a_begun F a_results a_readyCycles) :
    ∀ d w f V S M F, d = b j - f j → d < w → cu_K G n b f V S M a_takenLengths a_takenScalars a_begun F a_results a_readyCycles → c ≤ 6 * cu_P b f n + 5 → (c + 1 ≤ 6 * cu_P b f n + 5 ∨ ∀ k, k < j → f k = b k) →
      wX_finishElements_17 post J2 (nI c) (nI j) w (nI (f j)) f_lanes f_delay f_activeLength f_count f_issued V S M a_ops a_xs a_ys a_zs a_takenLengths a_takenScalars a_begun F a_results a_readyCycles := by
  intro d
  induction d with
  | zero =>
    intro w f V S M F hd hw hK h5 hp
    obtain ⟨w, rfl⟩ : ∃ v, w = v + 1 := ⟨w - 1, by omega⟩
    have hI := hK.1.1 j hj
    have hTj := hT j
    refine And.intro (pk_in j 16 (by omega)) ?_
    rw [nI_clamp (show j < 2 ^ 31 by omega), (hK.2.2.1 j hj).2.2.1]
    exact br_t (nI_le (by omega) (by omega)) (nm_r (nI_1 j) (hJ f V S M F hK h5 (hp.imp id (fun q => lt_s q (by omega)))))
  | succ d ih =>
    intro w f V S M F hd hw hK h5 hp
    obtain ⟨w, rfl⟩ : ∃ v, w = v + 1 := ⟨w - 1, by omega⟩
    have hI := hK.1.1 j hj
    have hTj := hT j
    have hPb := cu_Pb hK.1 hT hn
    obtain ⟨r, er, hr⟩ := hK.2.2.2 j (f j) hj (by omega) (by omega)
    refine And.intro (pk_in j 16 (by omega)) ?_
    rw [cx_ix, nI_clamp (show j < 2 ^ 31 by omega), (hK.2.2.1 j hj).2.2.1, nI_clamp (show 16 * j + f j < 2 ^ 31 by omega), er]
    refine br_f (nI_ge (by omega) (by omega)) ⟨pk_in (16 * j + f j) 256 (by omega), ?_⟩
    refine pk_lt c r (fun h => nm_r (nI_1 j) (hJ f V S M F hK h5 (Or.inl (by omega)))) fun h => ?_
    refine cx_deliver hn hj hok hT hK.1 hK.2.1 hK.2.2.1 (by omega) fun V' S' M' hD' => ?_
    refine ⟨pk_in j 16 (by omega), nm_e (nm_r (nI_1 (f j)) ?_)⟩
    have hP := cu_P_f (b := b) (f := f) n hj
    have key := ih w (cu_u f j (f j + 1)) V' S' M' (upd F j (nI (f j + 1))) (by rw [cu_us]; omega) (by omega) ⟨cu_I_f hK.1 hj (by omega), hD', cu_A_f hK.2.2.1, cu_H_f hK.2.2.2 hj⟩ (by omega) (Or.inl (by omega))
    rw [cu_us] at key
    rw [nI_1]
    exact key
theorem cx_fin2 {post : SX → Prop} {G : cu_Pr} {n c : Nat} {b : Nat → Nat} (hn : n ≤ 16) (hc : c < 10000) (hok : cx_ok a_ops a_xs a_ys a_zs G n) (hT : ∀ k, cu_T G k ≤ 16)
    (hp : ∀ f V S M F, cu_K G n b f V S M a_takenLengths a_takenScalars a_begun F a_results a_readyCycles → c ≤ 6 * cu_P b f n + 5 → (c + 1 ≤ 6 * cu_P b f n + 5 ∨ ∀ k, k < n → f k = b k) → post (f_lanes, f_delay, f_activeLength, f_count, nI n, V, S, M, a_ops, a_xs, a_ys, a_zs, a_takenLengths, a_takenScalars, a_begun, F, a_results, a_readyCycles)) :
    ∀ d j w f V S M F, j + d = n → d < w → cu_K G n b f V S M a_takenLengths a_takenScalars a_begun F a_results a_readyCycles → c ≤ 6 * cu_P b f n + 5 → (c + 1 ≤ 6 * cu_P b f n + 5 ∨ ∀ k, k < j → f k = b k) →
      wX_finishElements_2 post (nI c) w (nI j) f_lanes f_delay f_activeLength f_count (nI n) V S M a_ops a_xs a_ys a_zs a_takenLengths a_takenScalars a_begun F a_results a_readyCycles := by
  intro d
  induction d with
  | zero =>
    intro j w f V S M F hd hw hK h5 hq
    obtain ⟨w, rfl⟩ : ∃ v, w = v + 1 := ⟨w - 1, by omega⟩
    have e : j = n := by omega
    subst e
    exact br_t (nI_le (by omega) (by omega)) (hp f V S M F hK h5 hq)
  | succ d ih =>
    intro j w f V S M F hd hw hK h5 hq
    obtain ⟨w, rfl⟩ : ∃ v, w = v + 1 := ⟨w - 1, by omega⟩
    have hj : j < n := by omega
    refine br_f (nI_ge (by omega) (by omega)) ⟨pk_in j 16 (by omega), ?_⟩
    rw [nI_clamp (show j < 2 ^ 31 by omega), (hK.2.2.1 j hj).2.2.2]
    refine nm_e ⟨b j - f j + 1, ?_⟩
    exact cx_fin17 hn hj hc hok hT (fun f' V' S' M' F' hK' h5' hq' => ih (j + 1) w f' V' S' M' F' (by omega) (by omega) hK' h5' hq') (b j - f j) (b j - f j + 1) f V S M F rfl (by omega) hK h5 hq
theorem cx_fin {post : SX → Prop} {G : cu_Pr} {n c : Nat} {b f : Nat → Nat} (hn : n ≤ 16) (hc : c < 10000) (hok : cx_ok a_ops a_xs a_ys a_zs G n) (hT : ∀ k, cu_T G k ≤ 16)
    (hK : cu_K G n b f a_vectors a_scalars a_cells a_takenLengths a_takenScalars a_begun a_finished a_results a_readyCycles) (h5 : c ≤ 6 * cu_P b f n + 5)
    (hp : ∀ f V S M F, cu_K G n b f V S M a_takenLengths a_takenScalars a_begun F a_results a_readyCycles → c ≤ 6 * cu_P b f n + 5 → (c + 1 ≤ 6 * cu_P b f n + 5 ∨ ∀ k, k < n → f k = b k) → post (f_lanes, f_delay, f_activeLength, f_count, nI n, V, S, M, a_ops, a_xs, a_ys, a_zs, a_takenLengths, a_takenScalars, a_begun, F, a_results, a_readyCycles)) :
    wpX_finishElements post (f_lanes, f_delay, f_activeLength, f_count, nI n, a_vectors, a_scalars, a_cells, a_ops, a_xs, a_ys, a_zs, a_takenLengths, a_takenScalars, a_begun, a_finished, a_results, a_readyCycles) (nI c) := by
  unfold wpX_finishElements
  exact ⟨n + 1, cx_fin2 hn hc hok hT hp n 0 (n + 1) f _ _ _ _ (by omega) (by omega) hK h5 (Or.inr (fun k h => absurd h (by omega)))⟩
end
end
section
/-! X's beginning of elements -/
section
variable {f_lanes f_delay f_activeLength f_count f_issued : Int32} {a_vectors a_scalars a_cells a_ops a_xs a_ys a_zs a_takenLengths a_takenScalars a_begun a_finished a_results a_readyCycles : Nat → Int32}
theorem cx_beg12 {post : SX → Prop} {J2 : Int32 → (Nat → Int32) → (Nat → Int32) → (Nat → Int32) → (Nat → Int32) → (Nat → Int32) → (Nat → Int32) → (Nat → Int32) → (Nat → Int32) → (Nat → Int32) → (Nat → Int32) → (Nat → Int32) → (Nat → Int32) → (Nat → Int32) → Prop}
    {G : cu_Pr} {n j c ln dl : Nat} {f : Nat → Nat} (hn : n ≤ 16) (hj : j < n) (hc : c < 10000) (h1 : 1 ≤ ln) (h4 : ln ≤ 4) (hdl : dl ≤ 5) (hok : cx_ok a_ops a_xs a_ys a_zs G n) (hT : ∀ k, cu_T G k ≤ 16)
    (hJ : ∀ b B RS RD, cu_K G n b f a_vectors a_scalars a_cells a_takenLengths a_takenScalars B a_finished RS RD → c ≤ 6 * cu_P b f n + 5 → (c + 1 ≤ 6 * cu_P b f n + 5 ∨ ((∀ k, k < n → f k = b k) ∧ ∀ k, k < j + 1 → b k = cu_T G k)) → J2 (nI (j + 1)) a_vectors a_scalars a_cells a_ops a_xs a_ys a_zs a_takenLengths a_takenScalars B a_finished RS RD) :
    ∀ d lane w b B RS RD, lane + d = ln → d < w → cu_K G n b f a_vectors a_scalars a_cells a_takenLengths a_takenScalars B a_finished RS RD → c ≤ 6 * cu_P b f n + 5 → (c + 1 ≤ 6 * cu_P b f n + 5 ∨ (lane = 0 ∧ (∀ k, k < n → f k = b k) ∧ ∀ k, k < j → b k = cu_T G k)) →
      wX_beginElements_12 post J2 (nI c) (nI j) (nI ln) (nI dl) f_activeLength f_count f_issued w (nI lane) a_vectors a_scalars a_cells a_ops a_xs a_ys a_zs a_takenLengths a_takenScalars B a_finished RS RD := by
  intro d
  induction d with
  | zero =>
    intro lane w b B RS RD hd hw hK h5 hq
    obtain ⟨w, rfl⟩ : ∃ v, w = v + 1 := ⟨w - 1, by omega⟩
    exact br_t (nI_le (by omega) (by omega)) (nm_r (nI_1 j) (hJ b B RS RD hK h5 (hq.imp id (fun q => absurd q.1 (by omega)))))
  | succ d ih =>
    intro lane w b B RS RD hd hw hK h5 hq
    obtain ⟨w, rfl⟩ : ∃ v, w = v + 1 := ⟨w - 1, by omega⟩
    have hI := hK.1.1 j hj
    have hTj := hT j
    obtain ⟨a1, a2, a3, a4⟩ := hK.2.2.1 j hj
    obtain ⟨hv, hyi, hzi⟩ := hok j hj
    refine br_f (nI_ge (by omega) (by omega)) ⟨pk_in j 16 (by omega), ?_⟩
    rw [nI_clamp (show j < 2 ^ 31 by omega), a1, a3]
    refine nm_e ⟨pk_in j 16 (by omega), ?_⟩
    refine pk_le (cu_T G j) (b j) (fun h => nm_r (nI_1 j) (hJ b B RS RD hK h5 (hq.imp id (fun q => ⟨q.2.1, lt_s q.2.2 (by omega)⟩)))) fun h => ?_
    have h9 : cu_O G j ≤ 9 := cu_T9 h
    refine cx_mwb hn hj (by omega) hok hK.2.2.1 hK.1.1 hT (fun hg => br_t rfl ?_) (fun hw => br_f (by decide) (nm_r (nI_1 j) (hJ b B RS RD hK h5 (hq.imp id (fun q => ?_)))))
    · refine cx_result (by omega) (by omega) hv h9 ?_
      have er : cu_res (cu_O G j) (cu_X G j) (cu_Y G j) (cu_Z G j) (a_zs j) (a_takenScalars j) a_vectors a_cells (b j) = cu_R G j (b j) := by
        rw [a2, hzi]
        exact cu_rdR hK.1 hK.2.1 hj h hTj hg
      rw [er, cx_ix, nI_clamp (show 16 * j + b j < 2 ^ 31 by omega), nI_1, nI_add]
      have hP := cu_P_b (b := b) (f := f) n hj
      refine ⟨pk_in (16 * j + b j) 256 (by omega), nm_e ⟨pk_in (16 * j + b j) 256 (by omega), nm_e ⟨pk_in j 16 (by omega), nm_e (nm_r (nI_1 lane) ?_)⟩⟩⟩
      exact ih (lane + 1) w (cu_u b j (b j + 1)) _ _ _ (by omega) (by omega) ⟨cu_I_b hK.1 hj h hg, cu_D_b hK.1 hK.2.1 hT h, cu_A_b hK.2.2.1, cu_H_b hK.2.2.2 hj (fun k hk => by have := hK.1.1 k hk; have := hT k; omega) (by omega) h5 hdl⟩ (by omega) (Or.inl (by omega))
    · obtain ⟨e, he, het, hno⟩ := hw
      refine absurd ⟨fun _ _ => ?_, fun _ _ => ?_⟩ hno
      · have := q.2.1 e (by omega)
        have := q.2.2 e he
        omega
      · have := q.2.2 e he
        omega
theorem cx_beg2 {post : SX → Prop} {G : cu_Pr} {n c ln dl : Nat} {f : Nat → Nat} (hn : n ≤ 16) (hc : c < 10000) (h1 : 1 ≤ ln) (h4 : ln ≤ 4) (hdl : dl ≤ 5) (hok : cx_ok a_ops a_xs a_ys a_zs G n) (hT : ∀ k, cu_T G k ≤ 16)
    (hp : ∀ b B RS RD, cu_K G n b f a_vectors a_scalars a_cells a_takenLengths a_takenScalars B a_finished RS RD → c ≤ 6 * cu_P b f n + 5 → (c + 1 ≤ 6 * cu_P b f n + 5 ∨ ∀ k, k < n → f k = cu_T G k) → post (nI ln, nI dl, f_activeLength, f_count, nI n, a_vectors, a_scalars, a_cells, a_ops, a_xs, a_ys, a_zs, a_takenLengths, a_takenScalars, B, a_finished, RS, RD)) :
    ∀ d j w b B RS RD, j + d = n → d < w → cu_K G n b f a_vectors a_scalars a_cells a_takenLengths a_takenScalars B a_finished RS RD → c ≤ 6 * cu_P b f n + 5 → (c + 1 ≤ 6 * cu_P b f n + 5 ∨ ((∀ k, k < n → f k = b k) ∧ ∀ k, k < j → b k = cu_T G k)) →
      wX_beginElements_2 post (nI c) (nI ln) (nI dl) f_activeLength f_count (nI n) w (nI j) a_vectors a_scalars a_cells a_ops a_xs a_ys a_zs a_takenLengths a_takenScalars B a_finished RS RD := by
  intro d
  induction d with
  | zero =>
    intro j w b B RS RD hd hw hK h5 hq
    obtain ⟨w, rfl⟩ : ∃ v, w = v + 1 := ⟨w - 1, by omega⟩
    have e : j = n := by omega
    subst e
    exact br_t (nI_le (by omega) (by omega)) (hp b B RS RD hK h5 (hq.imp id (fun q k hk => (q.1 k hk).trans (q.2 k hk))))
  | succ d ih =>
    intro j w b B RS RD hd hw hK h5 hq
    obtain ⟨w, rfl⟩ : ∃ v, w = v + 1 := ⟨w - 1, by omega⟩
    have hj : j < n := by omega
    refine br_f (nI_ge (by omega) (by omega)) ⟨ln + 1, ?_⟩
    exact cx_beg12 hn hj hc h1 h4 hdl hok hT (fun b' B' RS' RD' hK' h5' hq' => ih (j + 1) w b' B' RS' RD' (by omega) (by omega) hK' h5' hq') ln 0 (ln + 1) b B RS RD (by omega) (by omega) hK h5 (hq.imp id (fun q => ⟨rfl, q⟩))
theorem cx_beg {post : SX → Prop} {G : cu_Pr} {n c ln dl : Nat} {b f : Nat → Nat} (hn : n ≤ 16) (hc : c < 10000) (h1 : 1 ≤ ln) (h4 : ln ≤ 4) (hdl : dl ≤ 5) (hok : cx_ok a_ops a_xs a_ys a_zs G n) (hT : ∀ k, cu_T G k ≤ 16)
    (hK : cu_K G n b f a_vectors a_scalars a_cells a_takenLengths a_takenScalars a_begun a_finished a_results a_readyCycles) (h5 : c ≤ 6 * cu_P b f n + 5) (hq : c + 1 ≤ 6 * cu_P b f n + 5 ∨ ∀ k, k < n → f k = b k)
    (hp : ∀ b B RS RD, cu_K G n b f a_vectors a_scalars a_cells a_takenLengths a_takenScalars B a_finished RS RD → c ≤ 6 * cu_P b f n + 5 → (c + 1 ≤ 6 * cu_P b f n + 5 ∨ ∀ k, k < n → f k = cu_T G k) → post (nI ln, nI dl, f_activeLength, f_count, nI n, a_vectors, a_scalars, a_cells, a_ops, a_xs, a_ys, a_zs, a_takenLengths, a_takenScalars, B, a_finished, RS, RD)) :
    wpX_beginElements post (nI ln, nI dl, f_activeLength, f_count, nI n, a_vectors, a_scalars, a_cells, a_ops, a_xs, a_ys, a_zs, a_takenLengths, a_takenScalars, a_begun, a_finished, a_results, a_readyCycles) (nI c) := by
  unfold wpX_beginElements
  exact ⟨n + 1, cx_beg2 hn hc h1 h4 hdl hok hT hp n 0 (n + 1) b _ _ _ (by omega) (by omega) hK h5 (hq.imp id (fun q => ⟨q, fun k h => absurd h (by omega)⟩))⟩
end
end
section
/-! X's issuing -/
section
variable {f_lanes f_delay f_activeLength f_count f_issued : Int32} {a_vectors a_scalars a_cells a_ops a_xs a_ys a_zs a_takenLengths a_takenScalars a_begun a_finished a_results a_readyCycles : Nat → Int32}
theorem cx_doS {post : SX → Prop} {j o x y z : Nat} (hj : j < 16) (h : cx_v (a_ops j) (a_xs j) (a_ys j) (a_zs j) o x y z) (h10 : ¬ o ≤ 9)
    (hp : post (f_lanes, f_delay, (if o = 12 then nI (cu_cl (a_scalars x)) else f_activeLength), f_count, f_issued, a_vectors, cu_S1 o x y z (a_ys j) a_scalars, a_cells, a_ops, a_xs, a_ys, a_zs, a_takenLengths, a_takenScalars, a_begun, a_finished, a_results, a_readyCycles)) : wpX_doScalarInstruction post (f_lanes, f_delay, f_activeLength, f_count, f_issued, a_vectors, a_scalars, a_cells, a_ops, a_xs, a_ys, a_zs, a_takenLengths, a_takenScalars, a_begun, a_finished, a_results, a_readyCycles) (nI j) := by
  obtain ⟨ho, ho12, hx, hx4, hy, hz⟩ := h
  unfold wpX_doScalarInstruction
  dsimp only
  rw [nI_clamp (show j < 2 ^ 31 by omega), ho, hx, nI_clamp (show x < 2 ^ 31 by omega)]
  refine ⟨pk_in j 16 hj, pk_eq o 10 (fun e => ?_) fun n10 => ⟨pk_in j 16 hj, pk_eq o 11 (fun e => ?_) fun n11 => ?_⟩⟩
  · subst e
    exact ⟨pk_in j 16 hj, pk_in j 16 hj, pk_in x 4 hx4, nm_e hp⟩
  · subst e
    obtain ⟨hy1, hy2⟩ := hy (by omega) (by omega)
    obtain ⟨hz1, hz2⟩ := hz (by omega)
    rw [hy1, hz1, nI_clamp (show y < 2 ^ 31 by omega), nI_clamp (show z < 2 ^ 31 by omega)]
    exact ⟨pk_in j 16 hj, pk_in j 16 hj, pk_in y 4 hy2, pk_in j 16 hj, pk_in z 4 hz2, pk_in x 4 hx4, nm_e hp⟩
  · have e : o = 12 := by omega
    subst e
    exact ⟨pk_in j 16 hj, pk_in x 4 hx4, cx_clamp _ hp⟩
theorem cx_i78 {post : SX → Prop} {j t o x y z : Nat} (hj : j < 16) (h : cx_v (a_ops j) (a_xs j) (a_ys j) (a_zs j) o x y z)
    (hp : post (f_lanes, f_delay, (if o = 12 then nI (cu_cl (a_scalars x)) else f_activeLength), f_count, nI (j + 1), a_vectors, cu_S1 o x y z (a_ys j) a_scalars, a_cells, a_ops, a_xs, a_ys, a_zs, upd a_takenLengths j (nI t), a_takenScalars, a_begun, a_finished, a_results, a_readyCycles)) : wX_issueNext_78 post (nI j) (nI t) (nI j) f_lanes f_delay f_activeLength f_count (nI j) a_vectors a_scalars a_cells a_ops a_xs a_ys a_zs a_takenLengths a_takenScalars a_begun a_finished a_results a_readyCycles := by
  unfold wX_issueNext_78
  have h' := h
  obtain ⟨ho, ho12, hx, hx4, hy, hz⟩ := h
  rw [nI_clamp (show j < 2 ^ 31 by omega), ho, hx, nI_clamp (show x < 2 ^ 31 by omega)]
  refine ⟨pk_in j 16 hj, nm_e (nm_r (nI_1 j) ⟨pk_in j 16 hj, ?_⟩)⟩
  refine cx_so ho12 (fun h9 => br_t rfl ⟨pk_in j 16 hj, ?_⟩) (fun h9 => br_f (by decide) ?_)
  · rw [if_neg (by omega)] at hp
    refine pk_eq o 9 (fun e => ?_) fun e => ?_
    · subst e
      exact ⟨pk_in j 16 hj, pk_in x 4 hx4, nm_e hp⟩
    · have es : cu_S1 o x y z (a_ys j) a_scalars = a_scalars := by
        unfold cu_S1
        rw [if_neg e, if_neg (by omega), if_neg (by omega)]
      rw [es] at hp
      exact hp
  · exact cx_doS hj h' h9 hp
theorem cx_issue {post : SX → Prop} {G : cu_Pr} {n c cn : Nat} {b f : Nat → Nat} (hn : n ≤ cn) (hcn : cn ≤ 16) (hok : cx_ok a_ops a_xs a_ys a_zs G cn) (hT : ∀ k, cu_T G k ≤ 16)
    (hK : cu_K G n b f a_vectors a_scalars a_cells a_takenLengths a_takenScalars a_begun a_finished a_results a_readyCycles) (h5 : c ≤ 6 * cu_P b f n + 5) (hq : c + 1 ≤ 6 * cu_P b f n + 5 ∨ ∀ k, k < n → f k = cu_T G k)
    (hp : ∀ m b f S TL TS B F, m ≤ cn → cu_K G m b f a_vectors S a_cells TL TS B F a_results a_readyCycles → (c + 1 ≤ 6 * cu_P b f m + 5 ∨ (m = cn ∧ ∀ k, k < m → f k = cu_T G k)) → post (f_lanes, f_delay, nI (cu_L G m), nI cn, nI m, a_vectors, S, a_cells, a_ops, a_xs, a_ys, a_zs, TL, TS, B, F, a_results, a_readyCycles)) :
    wpX_issueNext post (f_lanes, f_delay, nI (cu_L G n), nI cn, nI n, a_vectors, a_scalars, a_cells, a_ops, a_xs, a_ys, a_zs, a_takenLengths, a_takenScalars, a_begun, a_finished, a_results, a_readyCycles) := by
  unfold wpX_issueNext
  dsimp only
  refine pk_le cn n (fun h => hp n b f _ _ _ _ _ hn hK (hq.imp id (fun q => ⟨by omega, q⟩))) fun h => ?_
  have hn16 : n < 16 := by omega
  obtain ⟨hv, hyi, hzi⟩ := hok n h
  have hL := cu_TL (G := G) (k := n)
  refine cx_mwi hn16 (fun k hk => hok k (by omega)) hK.2.2.1 hK.1.1 hT (fun g9 g8 => br_t rfl ?_) (fun hw => br_f (by decide) (hp n b f _ _ _ _ _ hn hK (hq.imp id (fun q => ?_))))
  · have hP := cu_P_n (b := b) (f := f) n
    have hD := cu_D_n hK.2.1 g9 g8
    have hA := cu_A_n hK.2.2.1
    have hC := cu_rdC hK.2.1 g9
    rw [← hyi] at hD
    rw [← hC] at hA
    have hal : nI (cu_L G (n + 1)) = if cu_O G n = 12 then nI (cu_cl (a_scalars (cu_X G n))) else nI (cu_L G n) := by
      rw [cu_L_s]
      by_cases z : cu_O G n = 12
      · rw [if_pos z, if_pos z, cu_rdS hK.2.1 g9 (t := cu_X G n) (by unfold cu_nM cu_nm; omega)]
      · rw [if_neg z, if_neg z]
    have fin := hp (n + 1) _ _ _ _ _ _ _ (by omega) ⟨cu_I_n hK.1 g9 g8, hD, hA, cu_H_n hK.2.2.2⟩ (Or.inl (by omega))
    rw [hal] at fin
    rw [nI_clamp (show n < 2 ^ 31 by omega), hv.1]
    refine ⟨pk_in n 16 hn16, nm_e ⟨pk_in n 16 hn16, nm_e ?_⟩⟩
    refine cx_operand hn16 hv ⟨pk_in n 16 hn16, nm_e ⟨pk_in n 16 hn16, ?_⟩⟩
    refine cx_so hv.2.1 (fun h9 => br_t rfl ?_) (fun h9 => br_f (by decide) ?_)
    · have e : cu_T G n = cu_L G n := if_pos h9
      rw [e] at fin
      exact cx_i78 hn16 hv fin
    · have e : cu_T G n = 0 := if_neg h9
      rw [e] at fin
      exact cx_i78 (t := 0) hn16 hv fin
  · obtain ⟨e, he, hlt⟩ := hw
    have := q e he
    omega
end
end
section
/-! X's run -/
section
variable {f_lanes f_delay f_activeLength f_count f_issued : Int32} {a_vectors a_scalars a_cells a_ops a_xs a_ys a_zs a_takenLengths a_takenScalars a_begun a_finished a_results a_readyCycles : Nat → Int32}
theorem cx_run12 {post : Int32 → SX → Prop} {G : cu_Pr} {cn ln dl : Nat} (hcn : cn ≤ 16) (h1 : 1 ≤ ln) (h4 : ln ≤ 4) (hdl : dl ≤ 5) (hok : cx_ok a_ops a_xs a_ys a_zs G cn) (hT : ∀ k, cu_T G k ≤ 16)
    (hp : ∀ iss TL TS B F RS RD, post (nI cn) (nI ln, nI dl, nI (cu_L G cn), 0, iss, cu_V G cn, cu_S G cn, cu_M G cn, a_ops, a_xs, a_ys, a_zs, TL, TS, B, F, RS, RD)) :
    ∀ d c w n b f V S M TL TS B F RS RD, c + d = 10000 → d < w → n ≤ cn → cu_K G n b f V S M TL TS B F RS RD → (c ≤ 6 * cu_P b f n + 5 ∨ (n = cn ∧ ∀ k, k < n → f k = cu_T G k)) →
      wX_run_12 post (nI cn) w (nI c) (nI ln) (nI dl) (nI (cu_L G n)) (nI cn) (nI n) V S M a_ops a_xs a_ys a_zs TL TS B F RS RD := by
  intro d
  induction d with
  | zero =>
    intro c w n b f V S M TL TS B F RS RD hd hw hn hK hq
    obtain ⟨w, rfl⟩ : ∃ v, w = v + 1 := ⟨w - 1, by omega⟩
    have hPb := cu_Pb hK.1 hT (show n ≤ 16 by omega)
    have hq' : n = cn ∧ ∀ k, k < n → f k = cu_T G k := hq.elim (fun q => absurd q (by omega)) id
    obtain ⟨rfl, hf⟩ := hq'
    obtain ⟨rfl, rfl, rfl⟩ := cu_done hK.2.1 hf
    exact pk_le 10000 c (fun _ => hp _ _ _ _ _ _ _) (fun h => absurd h (by omega))
  | succ d ih =>
    intro c w n b f V S M TL TS B F RS RD hd hw hn hK hq
    obtain ⟨w, rfl⟩ : ∃ v, w = v + 1 := ⟨w - 1, by omega⟩
    refine pk_le 10000 c (fun h => absurd h (by omega)) fun hc => ?_
    refine cx_done hn hcn hK.2.2.1 hK.1.1 hT (fun e hf => br_f (by decide) ?_) (fun hno => br_t rfl ?_)
    · subst e
      obtain ⟨rfl, rfl, rfl⟩ := cu_done hK.2.1 hf
      exact hp _ _ _ _ _ _ _
    · have h5 : c ≤ 6 * cu_P b f n + 5 := hq.elim id (fun q => absurd q hno)
      have hokn : cx_ok a_ops a_xs a_ys a_zs G n := fun k hk => hok k (by omega)
      refine cx_fin (by omega) hc hokn hT hK h5 fun f' V' S' M' F' hK' h5' hq' => ?_
      refine cx_beg (by omega) hc h1 h4 hdl hokn hT hK' h5' hq' fun b' B' RS' RD' hK2 h52 hq2 => ?_
      refine cx_issue hn hcn hok hT hK2 h52 hq2 fun m b3 f3 S3 TL3 TS3 B3 F3 hm hK3 hq3 => ?_
      refine nm_r (nI_1 c) ?_
      exact ih (c + 1) w m b3 f3 _ _ _ _ _ _ _ _ _ (by omega) (by omega) hm hK3 hq3
theorem cx_run {post : Int32 → SX → Prop} {G : cu_Pr} {cn ln dl : Nat} (hcn : cn ≤ 16) (h1 : 1 ≤ ln) (h4 : ln ≤ 4) (hdl : dl ≤ 5) (hok : cx_ok a_ops a_xs a_ys a_zs G cn) (hT : ∀ k, cu_T G k ≤ 16)
    (hp : ∀ iss TL TS B F RS RD, post (nI cn) (nI ln, nI dl, nI (cu_L G cn), 0, iss, cu_V G cn, cu_S G cn, cu_M G cn, a_ops, a_xs, a_ys, a_zs, TL, TS, B, F, RS, RD)) :
    wpX_run post (nI ln, nI dl, nI (cu_L G 0), nI cn, f_issued, cu_V G 0, cu_S G 0, cu_M G 0, a_ops, a_xs, a_ys, a_zs, a_takenLengths, a_takenScalars, a_begun, a_finished, a_results, a_readyCycles) := by
  unfold wpX_run
  refine ⟨10001, ?_⟩
  have no : ∀ {P : Prop} {j : Nat}, j < 0 → P := fun h => absurd h (by omega)
  exact cx_run12 hcn h1 h4 hdl hok hT hp 10000 0 10001 0 (fun _ => 0) (fun _ => 0) _ _ _ _ _ _ _ _ _ (by omega) (by omega) (by omega)
    ⟨⟨fun j h => no h, fun e j i _ h => no h, fun e j i _ h => no h, fun e j _ h => no h, fun e j _ h => no h⟩, ⟨rfl, rfl, rfl, fun j i h => no h⟩, fun j h => no h, fun j i h => no h⟩ (Or.inl (by omega))
end
end
section
/-! Y's run: the plain reading itself -/
def cy_W (o x : Nat) (R V : Nat → Int32) (i : Nat) : Nat → Int32 := fun p => if cu_wr o ∧ x = p / 16 ∧ p % 16 < i then R (p % 16) else V p
theorem cy_W_r {o x i r : Nat} {R V : Nat → Int32} (hi : i < 16) : cy_W o x R V i (16 * r + i) = V (16 * r + i) :=
  if_neg (fun q => by have := q.2.2; omega)
theorem cy_W_s {o x i : Nat} {R V : Nat → Int32} (hi : i < 16) (hw : cu_wr o) : upd (cy_W o x R V i) (16 * x + i) (R i) = cy_W o x R V (i + 1) := by
  funext p
  by_cases q : p = 16 * x + i
  · subst q
    rw [pk_us]
    unfold cy_W
    rw [if_pos ⟨hw, by omega, by omega⟩, show (16 * x + i) % 16 = i by omega]
  · rw [pk_un q]
    unfold cy_W
    by_cases y : cu_wr o ∧ x = p / 16 ∧ p % 16 < i
    · rw [if_pos y, if_pos ⟨y.1, y.2.1, by omega⟩]
    · rw [if_neg y, if_neg (fun a => y ⟨a.1, a.2.1, by have := a.2.1; have := a.2.2; omega⟩)]
theorem cy_W_0 {o x : Nat} {R V : Nat → Int32} : cy_W o x R V 0 = V := funext fun p => if_neg (fun q => absurd q.2.2 (by omega))
theorem cy_ix (a i : Nat) : 16 * nI a + nI i = nI (16 * a + i) := by
  rw [show (16 : Int32) = nI 16 from rfl, pk_mul, nI_add]
def cy_ar (o : Nat) (a b : Int32) : Int32 := if o = 0 ∨ o = 4 then a + b else if o = 1 then a - b else if o = 2 ∨ o = 5 then a * b else cu_mx a b
section
variable {f_length f_n : Int32} {a_vec a_sca a_mem a_op a_ax a_ay a_az : Nat → Int32}
theorem cy_result {post : Int32 → Prop} {o : Nat} {a b : Int32} (h5 : o ≤ 5) (hp : post (cy_ar o a b)) : wpY_result post (f_length, f_n, a_vec, a_sca, a_mem, a_op, a_ax, a_ay, a_az) (nI o) a b := by
  unfold wpY_result
  dsimp only
  unfold cy_ar at hp
  refine pk_eq o 0 (fun e => by rw [if_pos (by omega)] at hp; exact hp) fun e0 => ?_
  refine pk_eq o 4 (fun e => by rw [if_pos (by omega)] at hp; exact hp) fun e4 => ?_
  rw [if_neg (by omega)] at hp
  refine pk_eq o 1 (fun e => by rw [if_pos (by omega)] at hp; exact hp) fun e1 => ?_
  rw [if_neg (by omega)] at hp
  refine pk_eq o 2 (fun e => by rw [if_pos (by omega)] at hp; exact hp) fun e2 => ?_
  refine pk_eq o 5 (fun e => by rw [if_pos (by omega)] at hp; exact hp) fun e5 => ?_
  rw [if_neg (by omega)] at hp
  unfold cu_mx at hp
  exact br_c (fun c => by rw [if_pos c] at hp; exact hp) (fun c => by rw [if_neg c] at hp; exact hp)
theorem cy_elW {post : SY → Prop} {o x y z i : Nat} {yy zz : Int32} {V : Nat → Int32} (hi : i < 16) (h : cx_v (nI o) (nI x) yy zz o x y z) (hw : cu_wr o)
    (hp : post (f_length, f_n, cy_W o x (cu_res o x y z zz (cu_sc o y z a_sca) V a_mem) V (i + 1), a_sca, a_mem, a_op, a_ax, a_ay, a_az)) : wpY_oneElement post (f_length, f_n, cy_W o x (cu_res o x y z zz (cu_sc o y z a_sca) V a_mem) V i, a_sca, a_mem, a_op, a_ax, a_ay, a_az) (nI o) (nI x) yy zz (nI i) := by
  obtain ⟨_, ho12, _, hx4, hy, hz⟩ := h
  have h8 : o ≤ 8 := by unfold cu_wr at hw; omega
  obtain ⟨hy1, hy2⟩ := hy (by omega) (by omega)
  subst hy1
  rw [← cy_W_s hi hw] at hp
  unfold wpY_oneElement
  dsimp only
  rw [cy_ix, cy_ix, nI_clamp (show 16 * y + i < 2 ^ 31 by omega), cy_W_r hi, nI_clamp (show y < 2 ^ 31 by omega)]
  refine nm_e ?_
  rw [nI_clamp (show 16 * x + i < 2 ^ 31 by omega)]
  refine pk_lt 3 o (fun h3 => pk_lt 5 o (fun h5 => ?_) fun h5 => ?_) fun h3 => ?_
  · refine pk_eq o 6 (fun e => ?_) fun e6 => pk_eq o 7 (fun e => ?_) fun e7 => ?_
    · subst e
      exact ⟨pk_in y 4 hy2, cx_and _, pk_in (16 * x + i) 64 (by omega), nm_e hp⟩
    · subst e
      exact absurd hw (by decide)
    · have e : o = 8 := by omega
      subst e
      exact ⟨pk_in (16 * y + i) 64 (by omega), cx_and _, pk_in (16 * x + i) 64 (by omega), nm_e hp⟩
  · obtain ⟨hz1, hz2⟩ := hz (by omega)
    subst hz1
    rw [nI_clamp (show z < 2 ^ 31 by omega)]
    refine ⟨pk_in (16 * y + i) 64 (by omega), pk_in z 4 hz2, cy_result h5 ⟨pk_in (16 * x + i) 64 (by omega), nm_e ?_⟩⟩
    rcases (show o = 4 ∨ o = 5 by omega) with e | e <;> subst e <;> exact hp
  · obtain ⟨hz1, hz2⟩ := hz (by omega)
    subst hz1
    rw [cy_ix, nI_clamp (show 16 * z + i < 2 ^ 31 by omega), cy_W_r hi]
    refine ⟨pk_in (16 * y + i) 64 (by omega), pk_in (16 * z + i) 64 (by omega), cy_result (by omega) ⟨pk_in (16 * x + i) 64 (by omega), nm_e ?_⟩⟩
    rcases (show o = 0 ∨ o = 1 ∨ o = 2 ∨ o = 3 by omega) with e | e | e | e <;> subst e <;> exact hp
theorem cy_elS {post : SY → Prop} {x y z i : Nat} {yy zz : Int32} {M : Nat → Int32} (hi : i < 16) (h : cx_v (nI 7) (nI x) yy zz 7 x y z)
    (hp : post (f_length, f_n, a_vec, a_sca, cu_Mp (a_sca y) zz x a_vec M (i + 1), a_op, a_ax, a_ay, a_az)) : wpY_oneElement post (f_length, f_n, a_vec, a_sca, cu_Mp (a_sca y) zz x a_vec M i, a_op, a_ax, a_ay, a_az) (nI 7) (nI x) yy zz (nI i) := by
  obtain ⟨_, ho12, _, hx4, hy, hz⟩ := h
  obtain ⟨hy1, hy2⟩ := hy (by omega) (by omega)
  subst hy1
  unfold wpY_oneElement
  dsimp only
  rw [cy_ix, nI_clamp (show y < 2 ^ 31 by omega)]
  refine nm_e ?_
  rw [nI_clamp (show 16 * x + i < 2 ^ 31 by omega)]
  refine pk_lt 3 7 (fun h3 => pk_lt 5 7 (fun h5 => ?_) fun h5 => absurd h5 (by omega)) fun h3 => absurd h3 (by omega)
  exact pk_eq 7 6 (fun e => absurd e (by omega)) fun e6 => pk_eq 7 7 (fun e => ⟨pk_in y 4 hy2, pk_in (16 * x + i) 64 (by omega), cx_and _, nm_e hp⟩) fun e7 => absurd rfl e7
theorem cy_126 {post : SY → Prop} {o : Nat} {xx : Int32} (h : o ≤ 11) (hp : post (f_length, f_n, a_vec, a_sca, a_mem, a_op, a_ax, a_ay, a_az)) : wY_one_126 post (nI o) xx f_length f_n a_vec a_sca a_mem a_op a_ax a_ay a_az :=
  pk_eq o 12 (fun e => absurd e (by omega)) (fun _ => hp)
theorem cy_100 {post : SY → Prop} {o : Nat} {xx yy zz : Int32} (h : o ≤ 10) (hp : post (f_length, f_n, a_vec, a_sca, a_mem, a_op, a_ax, a_ay, a_az)) : wY_one_100 post (nI o) xx yy zz f_length f_n a_vec a_sca a_mem a_op a_ax a_ay a_az :=
  pk_eq o 11 (fun e => absurd e (by omega)) (fun _ => cy_126 (by omega) hp)
theorem cy_87 {post : SY → Prop} {o : Nat} {xx yy zz : Int32} (h : o ≤ 9) (hp : post (f_length, f_n, a_vec, a_sca, a_mem, a_op, a_ax, a_ay, a_az)) : wY_one_87 post (nI o) xx yy zz f_length f_n a_vec a_sca a_mem a_op a_ax a_ay a_az :=
  pk_eq o 10 (fun e => absurd e (by omega)) (fun _ => cy_100 (by omega) hp)
theorem cy_35 {post : SY → Prop} {o : Nat} {xx yy zz : Int32} (h : o ≤ 8) (hp : post (f_length, f_n, a_vec, a_sca, a_mem, a_op, a_ax, a_ay, a_az)) : wY_one_35 post (nI o) xx yy zz f_length f_n a_vec a_sca a_mem a_op a_ax a_ay a_az :=
  pk_eq o 9 (fun e => absurd e (by omega)) (fun _ => cy_87 (by omega) hp)
theorem cy_9W {post : SY → Prop} {o x y z L : Nat} {yy zz : Int32} {V : Nat → Int32} (hL : L ≤ 16) (h : cx_v (nI o) (nI x) yy zz o x y z) (hw : cu_wr o)
    (hp : post (nI L, f_n, cy_W o x (cu_res o x y z zz (cu_sc o y z a_sca) V a_mem) V L, a_sca, a_mem, a_op, a_ax, a_ay, a_az)) :
    ∀ d i w, i + d = L → d < w → wY_one_9 post (nI o) (nI x) yy zz w (nI i) (nI L) f_n (cy_W o x (cu_res o x y z zz (cu_sc o y z a_sca) V a_mem) V i) a_sca a_mem a_op a_ax a_ay a_az := by
  intro d
  induction d with
  | zero =>
    intro i w hd hw'
    obtain ⟨w, rfl⟩ : ∃ v, w = v + 1 := ⟨w - 1, by omega⟩
    have e : i = L := by omega
    subst e
    exact br_t (nI_le (by omega) (by omega)) (cy_35 (by unfold cu_wr at hw; omega) hp)
  | succ d ih =>
    intro i w hd hw'
    obtain ⟨w, rfl⟩ : ∃ v, w = v + 1 := ⟨w - 1, by omega⟩
    exact br_f (nI_ge (by omega) (by omega)) (cy_elW (by omega) h hw (nm_r (nI_1 i) (ih (i + 1) w (by omega) (by omega))))
theorem cy_9S {post : SY → Prop} {x y z L : Nat} {yy zz : Int32} {M : Nat → Int32} (hL : L ≤ 16) (h : cx_v (nI 7) (nI x) yy zz 7 x y z)
    (hp : post (nI L, f_n, a_vec, a_sca, cu_Mp (a_sca y) zz x a_vec M L, a_op, a_ax, a_ay, a_az)) :
    ∀ d i w, i + d = L → d < w → wY_one_9 post (nI 7) (nI x) yy zz w (nI i) (nI L) f_n a_vec a_sca (cu_Mp (a_sca y) zz x a_vec M i) a_op a_ax a_ay a_az := by
  intro d
  induction d with
  | zero =>
    intro i w hd hw'
    obtain ⟨w, rfl⟩ : ∃ v, w = v + 1 := ⟨w - 1, by omega⟩
    have e : i = L := by omega
    subst e
    exact br_t (nI_le (by omega) (by omega)) (cy_35 (by omega) hp)
  | succ d ih =>
    intro i w hd hw'
    obtain ⟨w, rfl⟩ : ∃ v, w = v + 1 := ⟨w - 1, by omega⟩
    exact br_f (nI_ge (by omega) (by omega)) (cy_elS (by omega) h (nm_r (nI_1 i) (ih (i + 1) w (by omega) (by omega))))
theorem cy_47 {post : SY → Prop} {x y L : Nat} {zz : Int32} (hL : L ≤ 16) (hx : x < 4) (hy : y < 4)
    (hp : post (nI L, f_n, a_vec, upd a_sca x (cu_ps y a_vec L), a_mem, a_op, a_ax, a_ay, a_az)) :
    ∀ d i w, i + d = L → d < w → wY_one_47 post (nI 9) (nI x) (nI y) zz (nI L) f_n a_vec a_sca a_mem a_op a_ax a_ay a_az w (cu_ps y a_vec i) (nI i) := by
  intro d
  induction d with
  | zero =>
    intro i w hd hw'
    obtain ⟨w, rfl⟩ : ∃ v, w = v + 1 := ⟨w - 1, by omega⟩
    have e : i = L := by omega
    subst e
    refine br_t (nI_le (by omega) (by omega)) ⟨pk_in x 4 hx, ?_⟩
    rw [nI_clamp (show x < 2 ^ 31 by omega)]
    exact nm_e (cy_87 (by omega) hp)
  | succ d ih =>
    intro i w hd hw'
    obtain ⟨w, rfl⟩ : ∃ v, w = v + 1 := ⟨w - 1, by omega⟩
    refine br_f (nI_ge (by omega) (by omega)) ?_
    rw [cy_ix, nI_clamp (show 16 * y + i < 2 ^ 31 by omega)]
    exact ⟨pk_in (16 * y + i) 64 (by omega), nm_e (nm_r (nI_1 i) (ih (i + 1) w (by omega) (by omega)))⟩
theorem cy_step_V {o x y z : Nat} {yi zi : Int32} {s : cu_St} (h : ¬ cu_wr o) : (cu_step o x y z yi zi s).1 = s.1 := funext fun p => if_neg (fun q => h q.1)
theorem cy_one {post : SY → Prop} {o x y z L : Nat} {yy zz : Int32} (hL : L ≤ 16) (h : cx_v (nI o) (nI x) yy zz o x y z)
    (hp : post (nI (cu_step o x y z yy zz (a_vec, a_sca, a_mem, L)).2.2.2, f_n, (cu_step o x y z yy zz (a_vec, a_sca, a_mem, L)).1, (cu_step o x y z yy zz (a_vec, a_sca, a_mem, L)).2.1, (cu_step o x y z yy zz (a_vec, a_sca, a_mem, L)).2.2.1, a_op, a_ax, a_ay, a_az)) :
    wpY_one post (nI L, f_n, a_vec, a_sca, a_mem, a_op, a_ax, a_ay, a_az) (nI o) (nI x) yy zz := by
  have h' := h
  obtain ⟨_, ho12, _, hx4, hy, hz⟩ := h
  unfold wpY_one
  dsimp only
  refine pk_lt 8 o (fun h8 => ?_) fun h8 => ⟨L + 1, ?_⟩
  · rw [cy_step_V (by unfold cu_wr; omega)] at hp
    refine pk_eq o 9 (fun e => ?_) fun e9 => pk_eq o 10 (fun e => ?_) fun e10 => pk_eq o 11 (fun e => ?_) fun e11 => ?_
    · subst e
      obtain ⟨hy1, hy2⟩ := hy (by omega) (by omega)
      subst hy1
      exact ⟨L + 1, cy_47 hL hx4 hy2 hp L 0 (L + 1) (by omega) (by omega)⟩
    · subst e
      refine ⟨pk_in x 4 hx4, ?_⟩
      rw [nI_clamp (show x < 2 ^ 31 by omega)]
      exact nm_e (cy_100 (by omega) hp)
    · subst e
      obtain ⟨hy1, hy2⟩ := hy (by omega) (by omega)
      obtain ⟨hz1, hz2⟩ := hz (by omega)
      subst hy1
      subst hz1
      rw [nI_clamp (show x < 2 ^ 31 by omega), nI_clamp (show y < 2 ^ 31 by omega), nI_clamp (show z < 2 ^ 31 by omega)]
      exact ⟨pk_in y 4 hy2, pk_in z 4 hz2, pk_in x 4 hx4, nm_e (cy_126 (by omega) hp)⟩
    · have e : o = 12 := by omega
      subst e
      have hp' : post (nI (cu_cl (a_sca x)), f_n, a_vec, a_sca, a_mem, a_op, a_ax, a_ay, a_az) := hp
      unfold cu_cl at hp'
      refine pk_eq 12 12 (fun _ => ⟨pk_in x 4 hx4, ?_⟩) fun e => absurd rfl e
      rw [nI_clamp (show x < 2 ^ 31 by omega)]
      by_cases z0 : a_sca x < 0
      · rw [if_pos z0] at hp'
        exact br_f (Int32.not_le.mpr z0) hp'
      · rw [if_neg z0] at hp'
        obtain ⟨s, hs, es⟩ := nI_of z0
        refine br_t (by rw [es]; exact nI_pos' hs) ⟨pk_in x 4 hx4, ?_⟩
        by_cases z1 : a_sca x ≤ 16
        · rw [if_pos z1] at hp'
          have e2 : nI (a_sca x).toNatClampNeg = a_sca x := by rw [es, nI_clamp hs]
          rw [e2] at hp'
          exact br_t z1 ⟨pk_in x 4 hx4, nm_e hp'⟩
        · rw [if_neg z1] at hp'
          exact br_f z1 hp'
  · by_cases e7 : o = 7
    · subst e7
      rw [cy_step_V (by decide)] at hp
      exact cy_9S (M := a_mem) hL h' hp L 0 (L + 1) (by omega) (by omega)
    · have hw : cu_wr o := by unfold cu_wr; omega
      have e1 : (cu_step o x y z yy zz (a_vec, a_sca, a_mem, L)).2.1 = a_sca := by
        show (if o = 9 then _ else if o = 10 then _ else if o = 11 then _ else a_sca) = a_sca
        rw [if_neg (by omega), if_neg (by omega), if_neg (by omega)]
      have e2 : (cu_step o x y z yy zz (a_vec, a_sca, a_mem, L)).2.2.1 = a_mem := if_neg e7
      have e3 : (cu_step o x y z yy zz (a_vec, a_sca, a_mem, L)).2.2.2 = L := if_neg (by omega)
      rw [e1, e2, e3] at hp
      have k := cy_9W (V := a_vec) hL h' hw hp L 0 (L + 1) (by omega) (by omega)
      rw [cy_W_0] at k
      exact k
theorem cy_run7 {post : Int32 → SY → Prop} {G : cu_Pr} {cn : Nat} (hcn : cn ≤ 16) (hok : cx_ok a_op a_ax a_ay a_az G cn) (hL : ∀ k, cu_L G k ≤ 16)
    (hp : post (nI cn) (nI (cu_L G cn), 0, cu_V G cn, cu_S G cn, cu_M G cn, a_op, a_ax, a_ay, a_az)) :
    ∀ d k w, k + d = cn → d < w → wY_run_7 post (nI cn) w (nI k) (nI (cu_L G k)) (nI cn) (cu_V G k) (cu_S G k) (cu_M G k) a_op a_ax a_ay a_az := by
  intro d
  induction d with
  | zero =>
    intro k w hd hw
    obtain ⟨w, rfl⟩ : ∃ v, w = v + 1 := ⟨w - 1, by omega⟩
    have e : k = cn := by omega
    subst e
    exact br_t (nI_le (by omega) (by omega)) hp
  | succ d ih =>
    intro k w hd hw
    obtain ⟨w, rfl⟩ : ∃ v, w = v + 1 := ⟨w - 1, by omega⟩
    obtain ⟨hv, hyi, hzi⟩ := hok k (by omega)
    have h16 : vp_in (nI k) 16 := pk_in k 16 (by omega)
    refine br_f (nI_ge (by omega) (by omega)) ⟨h16, h16, h16, h16, ?_⟩
    have hv' := hv
    rw [hv.1, hv.2.2.1, hyi, hzi] at hv'
    rw [nI_clamp (show k < 2 ^ 31 by omega), hv.1, hv.2.2.1, hyi, hzi]
    exact cy_one (hL k) hv' (nm_r (nI_1 k) (ih (k + 1) w (by omega) (by omega)))
theorem cy_run {post : Int32 → SY → Prop} {G : cu_Pr} {cn : Nat} (hcn : cn ≤ 16) (hok : cx_ok a_op a_ax a_ay a_az G cn) (hL : ∀ k, cu_L G k ≤ 16)
    (hp : post (nI cn) (nI (cu_L G cn), 0, cu_V G cn, cu_S G cn, cu_M G cn, a_op, a_ax, a_ay, a_az)) :
    wpY_run post (nI (cu_L G 0), nI cn, cu_V G 0, cu_S G 0, cu_M G 0, a_op, a_ax, a_ay, a_az) := by
  unfold wpY_run
  exact ⟨cn + 1, cy_run7 hcn hok hL hp cn 0 (cn + 1) (by omega) (by omega)⟩
end
end
section
/-! registers, elements, cells; the program's instructions -/
theorem cr_no {x : Int32} {N : Nat} (hN : N < 2 ^ 31) (h : x < 0 ∨ nI N ≤ x) : ¬ ∃ a, a < N ∧ x = nI a := fun ⟨a, ha, e⟩ => by
  subst e
  exact h.elim (fun q => nI_pos (by omega) q) (fun q => nI_ge ha hN q)
theorem cr_regX {post : Int32 → Prop} (x : Int32) (h1 : ∀ a, a < 4 → x = nI a → post 1) (h0 : ¬ (∃ a, a < 4 ∧ x = nI a) → post 0) : wpX_isRegister post x := by
  rcases pk_ix x (n := 4) (by decide) with h | h | ⟨a, ha, e⟩
  · exact br_t h (h0 (cr_no (by decide) (Or.inl h)))
  · exact br_c (fun q => h0 (cr_no (by decide) (Or.inl q))) (fun _ => br_t h (h0 (cr_no (by decide) (Or.inr h))))
  · have k := h1 a ha e
    subst e
    exact br_f (nI_pos (by omega)) (br_f (nI_ge (b := 4) ha (by decide)) k)
theorem cr_elX {post : Int32 → Prop} (x : Int32) (h1 : ∀ a, a < 16 → x = nI a → post 1) (h0 : ¬ (∃ a, a < 16 ∧ x = nI a) → post 0) : wpX_isElement post x := by
  rcases pk_ix x (n := 16) (by decide) with h | h | ⟨a, ha, e⟩
  · exact br_t h (h0 (cr_no (by decide) (Or.inl h)))
  · exact br_c (fun q => h0 (cr_no (by decide) (Or.inl q))) (fun _ => br_t h (h0 (cr_no (by decide) (Or.inr h))))
  · have k := h1 a ha e
    subst e
    exact br_f (nI_pos (by omega)) (br_f (nI_ge (b := 16) ha (by decide)) k)
theorem cr_ceX {post : Int32 → Prop} (x : Int32) (h1 : ∀ a, a < 64 → x = nI a → post 1) (h0 : ¬ (∃ a, a < 64 ∧ x = nI a) → post 0) : wpX_isCell post x := by
  rcases pk_ix x (n := 64) (by decide) with h | h | ⟨a, ha, e⟩
  · exact br_t h (h0 (cr_no (by decide) (Or.inl h)))
  · exact br_c (fun q => h0 (cr_no (by decide) (Or.inl q))) (fun _ => br_t h (h0 (cr_no (by decide) (Or.inr h))))
  · have k := h1 a ha e
    subst e
    exact br_f (nI_pos (by omega)) (br_f (nI_ge (b := 64) ha (by decide)) k)
/-- x < 0, or m < x, or x is one of 0 .. m: by the bound m = N - 1 -/
theorem cr_iy {A B : Prop} (x : Int32) (m : Nat) (hm : m + 1 < 2 ^ 31) (h1 : ∀ a, a < m + 1 → x = nI a → A) (h0 : ¬ (∃ a, a < m + 1 ∧ x = nI a) → B) : (x < 0 → B) ∧ (¬ x < 0 → (nI m < x → B) ∧ (¬ nI m < x → A)) := by
  rcases pk_ix x (n := m + 1) hm with h | h | ⟨a, ha, e⟩
  · exact br_t h (h0 (cr_no hm (Or.inl h)))
  · have hb := h0 (cr_no hm (Or.inr h))
    have hlt : nI m < x := Int32.lt_of_lt_of_le (nI_lt (by omega) hm) h
    exact ⟨fun _ => hb, fun _ => br_t hlt hb⟩
  · have k := h1 a ha e
    subst e
    exact br_f (nI_pos (by omega)) (br_f (nI_nlt (by omega) (by omega)) k)
theorem cr_iy2 {A B : Prop} (x : Int32) (m : Nat) (hm : m + 1 < 2 ^ 31) (h1 : ∀ a, a < m + 1 → x = nI a → A) (h0 : ¬ (∃ a, a < m + 1 ∧ x = nI a) → B) : (x < 0 → B) ∧ (¬ x < 0 → (x ≤ nI m → A) ∧ (¬ x ≤ nI m → B)) := by
  obtain ⟨p, q⟩ := cr_iy x m hm h1 h0
  exact ⟨p, fun h => ⟨fun y => (q h).2 (Int32.not_lt.mpr y), fun y => (q h).1 (Int32.not_le.mp y)⟩⟩
def cr_fit (p0 p1 p2 p3 : Int32) : Prop := ∃ o x y z, cx_v p0 p1 p2 p3 o x y z
theorem cr_norm {p0 p1 p2 p3 : Int32} {o x y z : Nat} (h : cx_v p0 p1 p2 p3 o x y z) : cx_v p0 p1 p2 p3 p0.toNatClampNeg p1.toNatClampNeg p2.toNatClampNeg p3.toNatClampNeg := by
  obtain ⟨h1, h2, h3, h4, h5, h6⟩ := h
  have e0 : p0.toNatClampNeg = o := pk_cl o h1
  have e1 : p1.toNatClampNeg = x := pk_cl x h3
  rw [e0, e1]
  refine ⟨h1, h2, h3, h4, fun a b => ?_, fun a => ?_⟩
  · have e2 : p2.toNatClampNeg = y := pk_cl y (h5 a b).1 (by have := (h5 a b).2; omega)
    rw [e2]
    exact h5 a b
  · have e2 : p3.toNatClampNeg = z := pk_cl z (h6 a).1 (by have := (h6 a).2; omega)
    rw [e2]
    exact h6 a
/-- what emit asks of op, x, y, z, in the order in which both sides ask it -/
theorem cr_ask (p0 p1 p2 p3 : Int32) : (p0 < 0 → ¬ cr_fit p0 p1 p2 p3) ∧ (12 < p0 → ¬ cr_fit p0 p1 p2 p3) ∧ (¬ (∃ a, a < 4 ∧ p1 = nI a) → ¬ cr_fit p0 p1 p2 p3) ∧
    (¬ p0 = 10 → ¬ p0 = 12 → ¬ (∃ a, a < 4 ∧ p2 = nI a) → ¬ cr_fit p0 p1 p2 p3) ∧ (p0 ≤ 5 ∨ p0 = 11 → ¬ (∃ a, a < 4 ∧ p3 = nI a) → ¬ cr_fit p0 p1 p2 p3) := by
  refine ⟨fun h => ?_, fun h => ?_, fun h => ?_, fun h h' h'' => ?_, fun h h' => ?_⟩
  · rintro ⟨o, x, y, z, h1, h2, h3, h4, h5, h6⟩
    subst h1
    exact nI_pos (by omega) h
  · rintro ⟨o, x, y, z, h1, h2, h3, h4, h5, h6⟩
    subst h1
    exact nI_nlt (b := o) (a := 12) h2 (by decide) h
  · rintro ⟨o, x, y, z, h1, h2, h3, h4, h5, h6⟩
    exact h ⟨x, h4, h3⟩
  · rintro ⟨o, x, y, z, h1, h2, h3, h4, h5, h6⟩
    obtain ⟨a, b⟩ := h5 (fun e => h (by rw [h1, e]; rfl)) (fun e => h' (by rw [h1, e]; rfl))
    exact h'' ⟨y, b, a⟩
  · rintro ⟨o, x, y, z, h1, h2, h3, h4, h5, h6⟩
    obtain ⟨a, b⟩ := h6 (h.imp (fun e => by subst h1; exact (nI_leI (a := o) (b := 5) (by omega) (by decide)).mp e) (fun e => by subst h1; exact (nI_eq (a := o) (b := 11) (by omega) (by decide)).mp e))
    exact h' ⟨z, b, a⟩
theorem cr_get {p0 p1 p2 p3 : Int32} (h0 : ¬ p0 < 0) (h12 : ¬ 12 < p0) (hx : ∃ a, a < 4 ∧ p1 = nI a) (hy : p0 = 10 ∨ p0 = 12 ∨ ∃ a, a < 4 ∧ p2 = nI a) (hz : (¬ p0 ≤ 5 ∧ ¬ p0 = 11) ∨ ∃ a, a < 4 ∧ p3 = nI a) : cr_fit p0 p1 p2 p3 := by
  obtain ⟨o, ho, rfl⟩ := nI_of h0
  obtain ⟨x, hx4, rfl⟩ := hx
  have ho12 : o ≤ 12 := by
    rcases Nat.lt_or_ge 12 o with q | q
    · exact absurd (nI_lt q ho) h12
    · exact q
  have ey : ∃ y, o ≠ 10 → o ≠ 12 → p2 = nI y ∧ y < 4 := by
    rcases hy with e | e | ⟨a, ha, e⟩
    · exact ⟨0, fun q => absurd ((nI_eq (b := 10) ho (by decide)).mp e) q⟩
    · exact ⟨0, fun _ q => absurd ((nI_eq (b := 12) ho (by decide)).mp e) q⟩
    · exact ⟨a, fun _ _ => ⟨e, ha⟩⟩
  have ez : ∃ z, o ≤ 5 ∨ o = 11 → p3 = nI z ∧ z < 4 := by
    rcases hz with ⟨e1, e2⟩ | ⟨a, ha, e⟩
    · exact ⟨0, fun q => (q.elim (fun q => e1 (nI_le q (by decide))) (fun q => e2 (by rw [q]; rfl))).elim⟩
    · exact ⟨a, fun _ => ⟨e, ha⟩⟩
  obtain ⟨y, ey⟩ := ey
  obtain ⟨z, ez⟩ := ez
  exact ⟨o, x, y, z, rfl, ho12, rfl, hx4, ey, ez⟩
section
variable {f_lanes f_delay f_activeLength f_count f_issued : Int32} {a_vectors a_scalars a_cells a_ops a_xs a_ys a_zs a_takenLengths a_takenScalars a_begun a_finished a_results a_readyCycles : Nat → Int32}
theorem cr_47X {post : Int32 → SX → Prop} {p0 p1 p2 p3 : Int32} (h0 : ¬ p0 < 0) (h12 : ¬ 12 < p0) (hx : ∃ a, a < 4 ∧ p1 = nI a) (hy : p0 = 10 ∨ p0 = 12 ∨ ∃ a, a < 4 ∧ p2 = nI a)
    (hg : cr_fit p0 p1 p2 p3 → wX_emit_64 post p0 p1 p2 p3 f_lanes f_delay f_activeLength f_count f_issued a_vectors a_scalars a_cells a_ops a_xs a_ys a_zs a_takenLengths a_takenScalars a_begun a_finished a_results a_readyCycles) (hb : ¬ cr_fit p0 p1 p2 p3 → post (-1) (f_lanes, f_delay, f_activeLength, f_count, f_issued, a_vectors, a_scalars, a_cells, a_ops, a_xs, a_ys, a_zs, a_takenLengths, a_takenScalars, a_begun, a_finished, a_results, a_readyCycles)) : wX_emit_47 post p0 p1 p2 p3 f_lanes f_delay f_activeLength f_count f_issued a_vectors a_scalars a_cells a_ops a_xs a_ys a_zs a_takenLengths a_takenScalars a_begun a_finished a_results a_readyCycles := by
  unfold wX_emit_47 wpX_namesRegisterInZ
  have hask := (cr_ask p0 p1 p2 p3).2.2.2.2
  have reg : p0 ≤ 5 ∨ p0 = 11 → wpX_isRegister (fun r_19 => (r_19 = 0 → post (-1) (f_lanes, f_delay, f_activeLength, f_count, f_issued, a_vectors, a_scalars, a_cells, a_ops, a_xs, a_ys, a_zs, a_takenLengths, a_takenScalars, a_begun, a_finished, a_results, a_readyCycles)) ∧ (¬ r_19 = 0 → wX_emit_64 post p0 p1 p2 p3 f_lanes f_delay f_activeLength f_count f_issued a_vectors a_scalars a_cells a_ops a_xs a_ys a_zs a_takenLengths a_takenScalars a_begun a_finished a_results a_readyCycles)) p3 := fun q =>
    cr_regX p3 (fun a ha e => br_f (by decide) (hg (cr_get h0 h12 hx hy (Or.inr ⟨a, ha, e⟩)))) (fun e => br_t rfl (hb (hask q e)))
  exact br_c (fun q => br_f (by decide) (reg (Or.inl q))) (fun q => br_c (fun q' => br_f (by decide) (reg (Or.inr q'))) (fun q' => br_t rfl (hg (cr_get h0 h12 hx hy (Or.inl ⟨q, q'⟩)))))
theorem cr_emitX {post : Int32 → SX → Prop} {cn : Nat} {p0 p1 p2 p3 : Int32} (hcn : cn ≤ 16) (hf : cn = 16 → post (-2) (f_lanes, f_delay, f_activeLength, nI cn, f_issued, a_vectors, a_scalars, a_cells, a_ops, a_xs, a_ys, a_zs, a_takenLengths, a_takenScalars, a_begun, a_finished, a_results, a_readyCycles)) (hb : cn < 16 → ¬ cr_fit p0 p1 p2 p3 → post (-1) (f_lanes, f_delay, f_activeLength, nI cn, f_issued, a_vectors, a_scalars, a_cells, a_ops, a_xs, a_ys, a_zs, a_takenLengths, a_takenScalars, a_begun, a_finished, a_results, a_readyCycles))
    (hg : cn < 16 → cr_fit p0 p1 p2 p3 → post (nI (cn + 1)) (f_lanes, f_delay, f_activeLength, nI (cn + 1), f_issued, a_vectors, a_scalars, a_cells, upd a_ops cn p0, upd a_xs cn p1, upd a_ys cn p2, upd a_zs cn p3, a_takenLengths, a_takenScalars, a_begun, a_finished, a_results, a_readyCycles)) : wpX_emit post (f_lanes, f_delay, f_activeLength, nI cn, f_issued, a_vectors, a_scalars, a_cells, a_ops, a_xs, a_ys, a_zs, a_takenLengths, a_takenScalars, a_begun, a_finished, a_results, a_readyCycles) p0 p1 p2 p3 := by
  unfold wpX_emit
  dsimp only
  refine pk_lt cn 16 (fun h => ?_) (fun h => hf (by omega))
  have hb := hb h
  have hg := hg h
  obtain ⟨k1, k2, k3, k4, k5⟩ := cr_ask p0 p1 p2 p3
  have h64 : cr_fit p0 p1 p2 p3 → wX_emit_64 post p0 p1 p2 p3 f_lanes f_delay f_activeLength (nI cn) f_issued a_vectors a_scalars a_cells a_ops a_xs a_ys a_zs a_takenLengths a_takenScalars a_begun a_finished a_results a_readyCycles := fun q => by
    have hin : vp_in (nI cn) 16 := pk_in cn 16 h
    unfold wX_emit_64
    rw [nI_clamp (show cn < 2 ^ 31 by omega)]
    exact ⟨hin, nm_e ⟨hin, nm_e ⟨hin, nm_e ⟨hin, nm_e (nm_r (nI_1 cn) (hg q))⟩⟩⟩⟩
  refine br_c (fun q => hb (k1 q)) fun q0 => br_c (fun q => hb (k2 q)) fun q12 => ?_
  refine cr_regX p1 (fun a ha ea => br_f (by decide) ?_) (fun e => br_t rfl (hb (k3 e)))
  have h47 : (p0 = 10 ∨ p0 = 12 ∨ ∃ a, a < 4 ∧ p2 = nI a) → wX_emit_47 post p0 p1 p2 p3 f_lanes f_delay f_activeLength (nI cn) f_issued a_vectors a_scalars a_cells a_ops a_xs a_ys a_zs a_takenLengths a_takenScalars a_begun a_finished a_results a_readyCycles := fun q => cr_47X q0 q12 ⟨a, ha, ea⟩ q h64 hb
  unfold wpX_namesRegisterInY
  refine br_c (fun q => br_t rfl (h47 (Or.inl q))) fun q10 => br_c (fun q => br_t rfl (h47 (Or.inr (Or.inl q)))) fun q2 => br_f (by decide) ?_
  exact cr_regX p2 (fun a2 ha2 e => br_f (by decide) (h47 (Or.inr (Or.inr ⟨a2, ha2, e⟩)))) (fun e => br_t rfl (hb (k4 q10 q2 e)))
end
section
variable {f_length f_n : Int32} {a_vec a_sca a_mem a_op a_ax a_ay a_az : Nat → Int32}
theorem cr_regY {post : Int32 → Prop} (x : Int32) (h1 : ∀ a, a < 4 → x = nI a → post 1) (h0 : ¬ (∃ a, a < 4 ∧ x = nI a) → post 0) : wpY_isRegister post (f_length, f_n, a_vec, a_sca, a_mem, a_op, a_ax, a_ay, a_az) x := by
  unfold wpY_isRegister
  exact cr_iy x 3 (by decide) h1 h0
theorem cr_42Y {post : Int32 → Prop} {p0 p1 p2 p3 : Int32} (h0 : ¬ p0 < 0) (h12 : ¬ 12 < p0) (hx : ∃ a, a < 4 ∧ p1 = nI a) (hy : p0 = 10 ∨ p0 = 12 ∨ ∃ a, a < 4 ∧ p2 = nI a)
    (hg : cr_fit p0 p1 p2 p3 → post 1) (hb : ¬ cr_fit p0 p1 p2 p3 → post 0) : wY_fits_42 post p0 p3 f_length f_n a_vec a_sca a_mem a_op a_ax a_ay a_az := by
  have hask := (cr_ask p0 p1 p2 p3).2.2.2.2
  have reg : p0 ≤ 5 ∨ p0 = 11 → wY_fits_53 post p3 f_length f_n a_vec a_sca a_mem a_op a_ax a_ay a_az := fun q => by
    unfold wY_fits_53
    exact cr_regY p3 (fun a ha e => br_f (by decide) (hg (cr_get h0 h12 hx hy (Or.inr ⟨a, ha, e⟩)))) (fun e => br_t rfl (hb (hask q e)))
  exact br_c (fun q => reg (Or.inl q)) (fun q => br_c (fun q' => reg (Or.inr q')) (fun q' => hg (cr_get h0 h12 hx hy (Or.inl ⟨q, q'⟩))))
theorem cr_fitsY {post : Int32 → Prop} {p0 p1 p2 p3 : Int32} (hg : cr_fit p0 p1 p2 p3 → post 1) (hb : ¬ cr_fit p0 p1 p2 p3 → post 0) : wpY_fits post (f_length, f_n, a_vec, a_sca, a_mem, a_op, a_ax, a_ay, a_az) p0 p1 p2 p3 := by
  unfold wpY_fits
  dsimp only
  obtain ⟨k1, k2, k3, k4, k5⟩ := cr_ask p0 p1 p2 p3
  refine br_c (fun q => hb (k1 q)) fun q0 => br_c (fun q => hb (k2 q)) fun q12 => ?_
  refine cr_regY p1 (fun a ha ea => br_f (by decide) ?_) (fun e => br_t rfl (hb (k3 e)))
  have h42 : (p0 = 10 ∨ p0 = 12 ∨ ∃ a, a < 4 ∧ p2 = nI a) → wY_fits_42 post p0 p3 f_length f_n a_vec a_sca a_mem a_op a_ax a_ay a_az := fun q => cr_42Y q0 q12 ⟨a, ha, ea⟩ q hg hb
  refine br_c (fun q => h42 (Or.inl q)) fun q10 => br_c (fun q => h42 (Or.inr (Or.inl q))) fun q2 => ?_
  exact cr_regY p2 (fun a2 ha2 e => br_f (by decide) (h42 (Or.inr (Or.inr ⟨a2, ha2, e⟩)))) (fun e => br_t rfl (hb (k4 q10 q2 e)))
theorem cr_emitY {post : Int32 → SY → Prop} {cn : Nat} {p0 p1 p2 p3 : Int32} (hcn : cn ≤ 16) (hf : cn = 16 → post (-2) (f_length, nI cn, a_vec, a_sca, a_mem, a_op, a_ax, a_ay, a_az)) (hb : cn < 16 → ¬ cr_fit p0 p1 p2 p3 → post (-1) (f_length, nI cn, a_vec, a_sca, a_mem, a_op, a_ax, a_ay, a_az))
    (hg : cn < 16 → cr_fit p0 p1 p2 p3 → post (nI (cn + 1)) (f_length, nI (cn + 1), a_vec, a_sca, a_mem, upd a_op cn p0, upd a_ax cn p1, upd a_ay cn p2, upd a_az cn p3)) : wpY_emit post (f_length, nI cn, a_vec, a_sca, a_mem, a_op, a_ax, a_ay, a_az) p0 p1 p2 p3 := by
  unfold wpY_emit
  dsimp only
  refine pk_eq cn 16 hf fun h => ?_
  have hlt : cn < 16 := by omega
  have hin : vp_in (nI cn) 16 := pk_in cn 16 hlt
  rw [nI_clamp (show cn < 2 ^ 31 by omega)]
  exact cr_fitsY (fun q => br_f (by decide) ⟨hin, nm_e ⟨hin, nm_e ⟨hin, nm_e ⟨hin, nm_e (nm_r (nI_1 cn) (hg hlt q))⟩⟩⟩⟩) (fun q => br_t rfl (hb hlt q))
end
/-! clearing -/
def cr_z (N : Nat) (a : Nat → Int32) : Nat → Int32 := fun p => if p < N then 0 else a p
theorem cr_z_s (i : Nat) (a : Nat → Int32) : upd (cr_z i a) i 0 = cr_z (i + 1) a := by
  funext p
  by_cases q : p = i
  · subst q
    rw [pk_us]
    exact (if_pos (by omega)).symm
  · rw [pk_un q]
    unfold cr_z
    by_cases y : p < i
    · rw [if_pos y, if_pos (by omega)]
    · rw [if_neg y, if_neg (by omega)]
theorem cr_z_0 (a : Nat → Int32) : cr_z 0 a = a := funext fun p => if_neg (by omega)
theorem cr_z_z (N : Nat) : cr_z N (fun _ => 0) = fun _ => 0 := by
  funext p
  unfold cr_z
  split <;> rfl
section
variable {f_lanes f_delay f_activeLength f_count f_issued : Int32} {a_vectors a_scalars a_cells a_ops a_xs a_ys a_zs a_takenLengths a_takenScalars a_begun a_finished a_results a_readyCycles : Nat → Int32}
theorem cr_x43 {post : SX → Prop} (hp : post (f_lanes, f_delay, 16, 0, 0, a_vectors, a_scalars, cr_z 64 a_cells, a_ops, a_xs, a_ys, a_zs, a_takenLengths, a_takenScalars, a_begun, a_finished, a_results, a_readyCycles)) :
    ∀ d i w, i + d = 64 → d < w → wX_reset_43 post f_lanes f_delay f_activeLength f_count f_issued w (nI i) a_vectors a_scalars (cr_z i a_cells) a_ops a_xs a_ys a_zs a_takenLengths a_takenScalars a_begun a_finished a_results a_readyCycles := by
  intro d
  induction d with
  | zero =>
    intro i w hd hw
    obtain ⟨w, rfl⟩ : ∃ v, w = v + 1 := ⟨w - 1, by omega⟩
    have e : i = 64 := by omega
    subst e
    exact br_t (nI_le (a := 64) (by omega) (by omega)) hp
  | succ d ih =>
    intro i w hd hw
    obtain ⟨w, rfl⟩ : ∃ v, w = v + 1 := ⟨w - 1, by omega⟩
    refine br_f (nI_ge (b := 64) (by omega) (by omega)) ⟨pk_in i 64 (by omega), ?_⟩
    rw [nI_clamp (show i < 2 ^ 31 by omega), cr_z_s]
    exact nm_e (nm_r (nI_1 i) (ih (i + 1) w (by omega) (by omega)))
theorem cr_x23 {post : SX → Prop} (hp : post (f_lanes, f_delay, 16, 0, 0, a_vectors, cr_z 4 a_scalars, cr_z 64 a_cells, a_ops, a_xs, a_ys, a_zs, a_takenLengths, a_takenScalars, a_begun, a_finished, a_results, a_readyCycles)) :
    ∀ d i w, i + d = 4 → d < w → wX_reset_23 post f_lanes f_delay f_activeLength f_count f_issued w (nI i) a_vectors (cr_z i a_scalars) a_cells a_ops a_xs a_ys a_zs a_takenLengths a_takenScalars a_begun a_finished a_results a_readyCycles := by
  intro d
  induction d with
  | zero =>
    intro i w hd hw
    obtain ⟨w, rfl⟩ : ∃ v, w = v + 1 := ⟨w - 1, by omega⟩
    have e : i = 4 := by omega
    subst e
    have k := cr_x43 (f_activeLength := f_activeLength) (f_count := f_count) (f_issued := f_issued) hp 64 0 65 (by omega) (by omega)
    rw [cr_z_0] at k
    exact br_t (nI_le (a := 4) (by omega) (by omega)) ⟨65, k⟩
  | succ d ih =>
    intro i w hd hw
    obtain ⟨w, rfl⟩ : ∃ v, w = v + 1 := ⟨w - 1, by omega⟩
    refine br_f (nI_ge (b := 4) (by omega) (by omega)) ⟨pk_in i 4 (by omega), ?_⟩
    rw [nI_clamp (show i < 2 ^ 31 by omega), cr_z_s]
    exact nm_e (nm_r (nI_1 i) (ih (i + 1) w (by omega) (by omega)))
theorem cr_x2 {post : SX → Prop} (hp : post (f_lanes, f_delay, 16, 0, 0, cr_z 64 a_vectors, cr_z 4 a_scalars, cr_z 64 a_cells, a_ops, a_xs, a_ys, a_zs, a_takenLengths, a_takenScalars, a_begun, a_finished, a_results, a_readyCycles)) :
    ∀ d i w, i + d = 64 → d < w → wX_reset_2 post f_lanes f_delay f_activeLength f_count f_issued w (nI i) (cr_z i a_vectors) a_scalars a_cells a_ops a_xs a_ys a_zs a_takenLengths a_takenScalars a_begun a_finished a_results a_readyCycles := by
  intro d
  induction d with
  | zero =>
    intro i w hd hw
    obtain ⟨w, rfl⟩ : ∃ v, w = v + 1 := ⟨w - 1, by omega⟩
    have e : i = 64 := by omega
    subst e
    have k := cr_x23 (f_activeLength := f_activeLength) (f_count := f_count) (f_issued := f_issued) hp 4 0 5 (by omega) (by omega)
    rw [cr_z_0] at k
    exact br_t (nI_le (a := 64) (by omega) (by omega)) ⟨5, k⟩
  | succ d ih =>
    intro i w hd hw
    obtain ⟨w, rfl⟩ : ∃ v, w = v + 1 := ⟨w - 1, by omega⟩
    refine br_f (nI_ge (b := 64) (by omega) (by omega)) ⟨pk_in i 64 (by omega), ?_⟩
    rw [nI_clamp (show i < 2 ^ 31 by omega), cr_z_s]
    exact nm_e (nm_r (nI_1 i) (ih (i + 1) w (by omega) (by omega)))
theorem cr_reset {post : SX → Prop} (hp : post (f_lanes, f_delay, 16, 0, 0, cr_z 64 a_vectors, cr_z 4 a_scalars, cr_z 64 a_cells, a_ops, a_xs, a_ys, a_zs, a_takenLengths, a_takenScalars, a_begun, a_finished, a_results, a_readyCycles)) : wpX_reset post (f_lanes, f_delay, f_activeLength, f_count, f_issued, a_vectors, a_scalars, a_cells, a_ops, a_xs, a_ys, a_zs, a_takenLengths, a_takenScalars, a_begun, a_finished, a_results, a_readyCycles) := by
  have k := cr_x2 (f_activeLength := f_activeLength) (f_count := f_count) (f_issued := f_issued) hp 64 0 65 (by omega) (by omega)
  rw [cr_z_0] at k
  unfold wpX_reset
  exact ⟨65, k⟩
end
section
variable {f_length f_n : Int32} {a_vec a_sca a_mem a_op a_ax a_ay a_az : Nat → Int32}
theorem cr_y41 {post : SY → Prop} (hp : post (f_length, f_n, a_vec, cr_z 4 a_sca, a_mem, a_op, a_ax, a_ay, a_az)) :
    ∀ d i w, i + d = 4 → d < w → wY_clear_41 post f_length f_n w (nI i) a_vec (cr_z i a_sca) a_mem a_op a_ax a_ay a_az := by
  intro d
  induction d with
  | zero =>
    intro i w hd hw
    obtain ⟨w, rfl⟩ : ∃ v, w = v + 1 := ⟨w - 1, by omega⟩
    have e : i = 4 := by omega
    subst e
    exact br_t (nI_le (a := 4) (by omega) (by omega)) hp
  | succ d ih =>
    intro i w hd hw
    obtain ⟨w, rfl⟩ : ∃ v, w = v + 1 := ⟨w - 1, by omega⟩
    refine br_f (nI_ge (b := 4) (by omega) (by omega)) ⟨pk_in i 4 (by omega), ?_⟩
    rw [nI_clamp (show i < 2 ^ 31 by omega), cr_z_s]
    exact nm_e (nm_r (nI_1 i) (ih (i + 1) w (by omega) (by omega)))
theorem cr_y13 {post : SY → Prop} (hp : post (f_length, f_n, cr_z 64 a_vec, cr_z 4 a_sca, cr_z 64 a_mem, a_op, a_ax, a_ay, a_az)) :
    ∀ d i w, i + d = 64 → d < w → wY_clear_13 post f_length f_n w (nI i) (cr_z i a_vec) a_sca (cr_z i a_mem) a_op a_ax a_ay a_az := by
  intro d
  induction d with
  | zero =>
    intro i w hd hw
    obtain ⟨w, rfl⟩ : ∃ v, w = v + 1 := ⟨w - 1, by omega⟩
    have e : i = 64 := by omega
    subst e
    have k := cr_y41 hp 4 0 5 (by omega) (by omega)
    rw [cr_z_0] at k
    exact br_t (nI_le (a := 64) (by omega) (by omega)) ⟨5, k⟩
  | succ d ih =>
    intro i w hd hw
    obtain ⟨w, rfl⟩ : ∃ v, w = v + 1 := ⟨w - 1, by omega⟩
    refine br_f (nI_ge (b := 64) (by omega) (by omega)) ⟨pk_in i 64 (by omega), ?_⟩
    rw [nI_clamp (show i < 2 ^ 31 by omega), cr_z_s, cr_z_s]
    exact nm_e ⟨pk_in i 64 (by omega), nm_e (nm_r (nI_1 i) (ih (i + 1) w (by omega) (by omega)))⟩
theorem cr_clearY {post : SY → Prop} (hp : post (16, 0, cr_z 64 a_vec, cr_z 4 a_sca, cr_z 64 a_mem, a_op, a_ax, a_ay, a_az)) : wpY_clear post (f_length, f_n, a_vec, a_sca, a_mem, a_op, a_ax, a_ay, a_az) := by
  have k := cr_y13 hp 64 0 65 (by omega) (by omega)
  rw [cr_z_0, cr_z_0] at k
  unfold wpY_clear
  exact ⟨65, k⟩
end
theorem cr_clamp {post : Int32 → Prop} (p : Int32) (a b : Nat) (ha : a ≤ b) (hb : b < 2 ^ 31) (hp : ∀ m, a ≤ m → m ≤ b → post (nI m)) : wpX_clamp post p (nI a) (nI b) := by
  unfold wpX_clamp
  by_cases h : nI a ≤ p
  · refine br_t h ?_
    have h0 : ¬ p < 0 := Int32.not_lt.mpr (Int32.le_trans (nI_pos' (by omega)) h)
    obtain ⟨m, hm, rfl⟩ := nI_of h0
    have h1 := (nI_leI (by omega) hm).mp h
    exact pk_le m b (fun h2 => hp m h1 h2) (fun h2 => hp b ha (by omega))
  · exact br_f h (hp a (by omega) ha)
end
section
/-! the relation: what both keep alike is the same; X's pipelines are free between runs -/
def cr_ok (po px py pz : Nat → Int32) (cn : Nat) : Prop :=
  ∀ j, j < cn → cx_v (po j) (px j) (py j) (pz j) (po j).toNatClampNeg (px j).toNatClampNeg (py j).toNatClampNeg (pz j).toNatClampNeg
def i_Rel (k : Nat) (u : SX) (v : SY) : Prop :=
  ∃ (ln dl L cn : Nat) (iss : Int32) (V S M po px py pz TL TS B F RS RD : Nat → Int32), 1 ≤ ln ∧ ln ≤ 4 ∧ dl ≤ 5 ∧ L ≤ 16 ∧ cn ≤ 16 ∧ cr_ok po px py pz cn ∧
    u = (nI ln, nI dl, nI L, nI cn, iss, V, S, M, po, px, py, pz, TL, TS, B, F, RS, RD) ∧ v = (nI L, nI cn, V, S, M, po, px, py, pz)
theorem i_up {k : Nat} {u : SX} {v : SY} (h : i_Rel k u v) : i_Rel (k + 5) u v := h
theorem i_vc0 (k0 : Int32) (k1 : Int32) : wpX_init (fun u => wpY_init (fun v => i_Rel 2 u v) k0 k1) k0 k1 := by
  unfold wpX_init
  refine cr_clamp k0 1 4 (by omega) (by omega) fun ln h1 h4 => ?_
  refine cr_clamp k1 1 5 (by omega) (by omega) fun dl _ h5 => ?_
  refine cr_reset ?_
  rw [cr_z_z, cr_z_z]
  exact ⟨ln, dl, 16, 0, 0, _, _, _, _, _, _, _, _, _, _, _, _, _, h1, h4, h5, by omega, by omega, fun j h => absurd h (by omega), rfl, rfl⟩
theorem cr_okU {po px py pz : Nat → Int32} {cn : Nat} {p0 p1 p2 p3 : Int32} (h : cr_ok po px py pz cn) (hf : cr_fit p0 p1 p2 p3) : cr_ok (upd po cn p0) (upd px cn p1) (upd py cn p2) (upd pz cn p3) (cn + 1) := by
  obtain ⟨o, x, y, z, hv⟩ := hf
  intro j hj
  by_cases e : j = cn
  · subst e
    rw [pk_us, pk_us, pk_us, pk_us]
    exact cr_norm hv
  · rw [pk_un e, pk_un e, pk_un e, pk_un e]
    exact h j (by omega)
theorem i_vc_emit {k : Nat} {u : SX} {v : SY} (I : i_Rel k u v) (hk : k + 5 ≤ 2562) (v1 : Int32) (v2 : Int32) (v3 : Int32) (v4 : Int32) : wpX_emit (fun r u' => wpY_emit (fun r' v' => r' = r ∧ i_Rel (k + 5) u' v') v v1 v2 v3 v4) u v1 v2 v3 v4 := by
  obtain ⟨ln, dl, L, cn, iss, V, S, M, po, px, py, pz, TL, TS, B, F, RS, RD, h1, h4, h5, hL, hcn, hok, rfl, rfl⟩ := I
  refine cr_emitX hcn (fun hf => cr_emitY hcn (fun _ => ⟨rfl, ?_⟩) (fun q => absurd q (by omega)) (fun q => absurd q (by omega)))
    (fun hlt hb => cr_emitY hcn (fun q => absurd q (by omega)) (fun _ _ => ⟨rfl, ?_⟩) (fun _ q => absurd q hb))
    (fun hlt hg => cr_emitY hcn (fun q => absurd q (by omega)) (fun _ q => absurd hg q) (fun _ _ => ⟨rfl, ?_⟩))
  · exact ⟨ln, dl, L, cn, iss, _, _, _, _, _, _, _, _, _, _, _, _, _, h1, h4, h5, hL, hcn, hok, rfl, rfl⟩
  · exact ⟨ln, dl, L, cn, iss, _, _, _, _, _, _, _, _, _, _, _, _, _, h1, h4, h5, hL, hcn, hok, rfl, rfl⟩
  · exact ⟨ln, dl, L, cn + 1, iss, _, _, _, _, _, _, _, _, _, _, _, _, _, h1, h4, h5, hL, by omega, cr_okU hok hg, rfl, rfl⟩
theorem i_vc_run {k : Nat} {u : SX} {v : SY} (I : i_Rel k u v) (hk : k + 5 ≤ 2562) : wpX_run (fun r u' => wpY_run (fun r' v' => r' = r ∧ i_Rel (k + 5) u' v') v) u := by
  obtain ⟨ln, dl, L, cn, iss, V, S, M, po, px, py, pz, TL, TS, B, F, RS, RD, h1, h4, h5, hL, hcn, hok, rfl, rfl⟩ := I
  let G : cu_Pr := (fun j => (po j).toNatClampNeg, fun j => (px j).toNatClampNeg, fun j => (py j).toNatClampNeg, fun j => (pz j).toNatClampNeg, py, pz, (V, S, M, L))
  have hG : cx_ok po px py pz G cn := fun j hj => ⟨hok j hj, rfl, rfl⟩
  have hL0 : cu_L G 0 ≤ 16 := hL
  refine cx_run (G := G) hcn h1 h4 h5 hG (cu_T16 hL0) fun iss' TL' TS' B' F' RS' RD' => ?_
  refine cy_run (G := G) hcn hG (cu_L16 hL0) ⟨rfl, ?_⟩
  exact ⟨ln, dl, cu_L G cn, 0, iss', _, _, _, _, _, _, _, _, _, _, _, _, _, h1, h4, h5, cu_L16 hL0 cn, by omega, fun j h => absurd h (by omega), rfl, rfl⟩
theorem i_vc_element {k : Nat} {u : SX} {v : SY} (I : i_Rel k u v) (hk : k + 5 ≤ 2562) (v1 : Int32) (v2 : Int32) : wpX_element (fun r => wpY_element (fun r' => r' = r ∧ i_Rel (k + 5) u v) v v1 v2) u v1 v2 := by
  have I' : i_Rel (k + 5) u v := I
  obtain ⟨ln, dl, L, cn, iss, V, S, M, po, px, py, pz, TL, TS, B, F, RS, RD, h1, h4, h5, hL, hcn, hok, rfl, rfl⟩ := I
  unfold wpX_element
  refine cr_regX v1 (fun a ha ea => br_f (by decide) ?_) (fun e => br_t rfl ?_)
  · refine cr_elX v2 (fun i hi ei => br_f (by decide) ?_) (fun e => br_t rfl ?_)
    · subst ea
      subst ei
      rw [cx_ix, nI_clamp (show 16 * a + i < 2 ^ 31 by omega)]
      refine ⟨pk_in (16 * a + i) 64 (by omega), ?_⟩
      unfold wpY_element
      refine cr_regY (nI a) (fun _ _ _ => br_f (by decide) (cr_iy (nI i) 15 (by omega) (fun _ _ _ => ?_) (fun q => absurd ⟨i, hi, rfl⟩ q))) (fun q => absurd ⟨a, ha, rfl⟩ q)
      rw [cy_ix, nI_clamp (show 16 * a + i < 2 ^ 31 by omega)]
      exact ⟨pk_in (16 * a + i) 64 (by omega), rfl, I'⟩
    · unfold wpY_element
      exact cr_regY v1 (fun _ _ _ => br_f (by decide) (cr_iy v2 15 (by omega) (fun j hj ej => absurd ⟨j, hj, ej⟩ e) (fun _ => ⟨rfl, I'⟩))) (fun q => absurd ⟨a, ha, ea⟩ q)
  · unfold wpY_element
    exact cr_regY v1 (fun j hj ej => absurd ⟨j, hj, ej⟩ e) (fun _ => br_t rfl ⟨rfl, I'⟩)
theorem i_vc_setElement {k : Nat} {u : SX} {v : SY} (I : i_Rel k u v) (hk : k + 5 ≤ 2562) (v1 : Int32) (v2 : Int32) (v3 : Int32) : wpX_setElement (fun r u' => wpY_setElement (fun r' v' => r' = r ∧ i_Rel (k + 5) u' v') v v1 v2 v3) u v1 v2 v3 := by
  have I' : i_Rel (k + 5) u v := I
  obtain ⟨ln, dl, L, cn, iss, V, S, M, po, px, py, pz, TL, TS, B, F, RS, RD, h1, h4, h5, hL, hcn, hok, rfl, rfl⟩ := I
  unfold wpX_setElement
  refine cr_regX v1 (fun a ha ea => br_f (by decide) ?_) (fun e => br_t rfl ?_)
  · refine cr_elX v2 (fun i hi ei => br_f (by decide) ?_) (fun e => br_t rfl ?_)
    · subst ea
      subst ei
      rw [cx_ix, nI_clamp (show 16 * a + i < 2 ^ 31 by omega)]
      refine ⟨pk_in (16 * a + i) 64 (by omega), nm_e ?_⟩
      unfold wpY_setElement
      refine cr_regY (nI a) (fun _ _ _ => br_f (by decide) (cr_iy2 (nI i) 15 (by omega) (fun _ _ _ => ?_) (fun q => absurd ⟨i, hi, rfl⟩ q))) (fun q => absurd ⟨a, ha, rfl⟩ q)
      rw [cy_ix, nI_clamp (show 16 * a + i < 2 ^ 31 by omega)]
      exact ⟨pk_in (16 * a + i) 64 (by omega), nm_e ⟨rfl, ln, dl, L, cn, iss, _, _, _, _, _, _, _, _, _, _, _, _, _, h1, h4, h5, hL, hcn, hok, rfl, rfl⟩⟩
    · unfold wpY_setElement
      exact cr_regY v1 (fun _ _ _ => br_f (by decide) (cr_iy2 v2 15 (by omega) (fun j hj ej => absurd ⟨j, hj, ej⟩ e) (fun _ => ⟨rfl, I'⟩))) (fun q => absurd ⟨a, ha, ea⟩ q)
  · unfold wpY_setElement
    exact cr_regY v1 (fun j hj ej => absurd ⟨j, hj, ej⟩ e) (fun _ => br_t rfl ⟨rfl, I'⟩)
theorem i_vc_scalar {k : Nat} {u : SX} {v : SY} (I : i_Rel k u v) (hk : k + 5 ≤ 2562) (v1 : Int32) : wpX_scalar (fun r => wpY_scalar (fun r' => r' = r ∧ i_Rel (k + 5) u v) v v1) u v1 := by
  have I' : i_Rel (k + 5) u v := I
  obtain ⟨ln, dl, L, cn, iss, V, S, M, po, px, py, pz, TL, TS, B, F, RS, RD, h1, h4, h5, hL, hcn, hok, rfl, rfl⟩ := I
  unfold wpX_scalar
  refine cr_regX v1 (fun a ha ea => br_f (by decide) ⟨by rw [ea]; exact pk_in a 4 ha, ?_⟩) (fun e => br_t rfl ?_)
  · unfold wpY_scalar
    exact cr_regY v1 (fun _ _ _ => br_f (by decide) ⟨by rw [ea]; exact pk_in a 4 ha, rfl, I'⟩) (fun q => absurd ⟨a, ha, ea⟩ q)
  · unfold wpY_scalar
    exact cr_regY v1 (fun j hj ej => absurd ⟨j, hj, ej⟩ e) (fun _ => br_t rfl ⟨rfl, I'⟩)
theorem i_vc_vectorLength {k : Nat} {u : SX} {v : SY} (I : i_Rel k u v) (hk : k + 5 ≤ 2562) : wpX_vectorLength (fun r => wpY_vectorLength (fun r' => r' = r ∧ i_Rel (k + 5) u v) v) u := by
  have I' : i_Rel (k + 5) u v := I
  obtain ⟨ln, dl, L, cn, iss, V, S, M, po, px, py, pz, TL, TS, B, F, RS, RD, h1, h4, h5, hL, hcn, hok, rfl, rfl⟩ := I
  unfold wpX_vectorLength wpY_vectorLength
  exact ⟨rfl, I'⟩
theorem i_vc_memory {k : Nat} {u : SX} {v : SY} (I : i_Rel k u v) (hk : k + 5 ≤ 2562) (v1 : Int32) : wpX_memory (fun r => wpY_memory (fun r' => r' = r ∧ i_Rel (k + 5) u v) v v1) u v1 := by
  have I' : i_Rel (k + 5) u v := I
  obtain ⟨ln, dl, L, cn, iss, V, S, M, po, px, py, pz, TL, TS, B, F, RS, RD, h1, h4, h5, hL, hcn, hok, rfl, rfl⟩ := I
  unfold wpX_memory
  refine cr_ceX v1 (fun a ha ea => br_f (by decide) ⟨by rw [ea]; exact pk_in a 64 ha, ?_⟩) (fun e => br_t rfl ?_)
  · unfold wpY_memory
    exact cr_iy v1 63 (by omega) (fun _ _ _ => ⟨by rw [ea]; exact pk_in a 64 ha, rfl, I'⟩) (fun q => absurd ⟨a, ha, ea⟩ q)
  · unfold wpY_memory
    exact cr_iy v1 63 (by omega) (fun j hj ej => absurd ⟨j, hj, ej⟩ e) (fun _ => ⟨rfl, I'⟩)
theorem i_vc_setMemory {k : Nat} {u : SX} {v : SY} (I : i_Rel k u v) (hk : k + 5 ≤ 2562) (v1 : Int32) (v2 : Int32) : wpX_setMemory (fun r u' => wpY_setMemory (fun r' v' => r' = r ∧ i_Rel (k + 5) u' v') v v1 v2) u v1 v2 := by
  have I' : i_Rel (k + 5) u v := I
  obtain ⟨ln, dl, L, cn, iss, V, S, M, po, px, py, pz, TL, TS, B, F, RS, RD, h1, h4, h5, hL, hcn, hok, rfl, rfl⟩ := I
  unfold wpX_setMemory
  refine cr_ceX v1 (fun a ha ea => br_f (by decide) ⟨by rw [ea]; exact pk_in a 64 ha, nm_e ?_⟩) (fun e => br_t rfl ?_)
  · unfold wpY_setMemory
    exact cr_iy2 v1 63 (by omega) (fun _ _ _ => ⟨by rw [ea]; exact pk_in a 64 ha, nm_e ⟨rfl, ln, dl, L, cn, iss, _, _, _, _, _, _, _, _, _, _, _, _, _, h1, h4, h5, hL, hcn, hok, rfl, rfl⟩⟩) (fun q => absurd ⟨a, ha, ea⟩ q)
  · unfold wpY_setMemory
    exact cr_iy2 v1 63 (by omega) (fun j hj ej => absurd ⟨j, hj, ej⟩ e) (fun _ => ⟨rfl, I'⟩)
theorem i_vc_clear {k : Nat} {u : SX} {v : SY} (I : i_Rel k u v) (hk : k + 5 ≤ 2562) : wpX_clear (fun u' => wpY_clear (fun v' => i_Rel (k + 5) u' v') v) u := by
  obtain ⟨ln, dl, L, cn, iss, V, S, M, po, px, py, pz, TL, TS, B, F, RS, RD, h1, h4, h5, hL, hcn, hok, rfl, rfl⟩ := I
  unfold wpX_clear
  refine cr_reset ?_
  refine cr_clearY ?_
  exact ⟨ln, dl, 16, 0, 0, _, _, _, _, _, _, _, _, _, _, _, _, _, h1, h4, h5, by omega, by omega, fun j h => absurd h (by omega), rfl, rfl⟩
end
