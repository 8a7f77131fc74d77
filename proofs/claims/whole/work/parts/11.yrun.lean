/-! Y's run: the plain reading itself -/
def cy_W (o x : Nat) (R V : Nat → Int32) (i : Nat) : Nat → Int32 := fun p => if cu_wr o ∧ x = p / 16 ∧ p % 16 < i then R (p % 16) else V p
theorem cy_W_r {o x i r : Nat} {R V : Nat → Int32} (hi : i < 16) : cy_W o x R V i (16 * r + i) = V (16 * r + i) :=
  if_neg (fun q => by have := q.2.2; omega)
theorem cy_W_s {o x i : Nat} {R V : Nat → Int32} (hi : i < 16) (hw : cu_wr o) : upd (cy_W o x R V i) (16 * x + i) (R i) = cy_W o x R V (i + 1) := by
  funext p
  by_cases q : p = 16 * x + i
  · subst q
    rw [pk_us]
    unfold cy_W
    rw [if_pos ⟨hw, by omega, by omega⟩, show (16 * x + i) % 16 = i by omega]
  · rw [pk_un q]
    unfold cy_W
    by_cases y : cu_wr o ∧ x = p / 16 ∧ p % 16 < i
    · rw [if_pos y, if_pos ⟨y.1, y.2.1, by omega⟩]
    · rw [if_neg y, if_neg (fun a => y ⟨a.1, a.2.1, by have := a.2.1; have := a.2.2; omega⟩)]
theorem cy_W_0 {o x : Nat} {R V : Nat → Int32} : cy_W o x R V 0 = V := funext fun p => if_neg (fun q => absurd q.2.2 (by omega))
theorem cy_ix (a i : Nat) : 16 * nI a + nI i = nI (16 * a + i) := by
  rw [show (16 : Int32) = nI 16 from rfl, pk_mul, nI_add]
def cy_ar (o : Nat) (a b : Int32) : Int32 := if o = 0 ∨ o = 4 then a + b else if o = 1 then a - b else if o = 2 ∨ o = 5 then a * b else cu_mx a b
section
variable {f_length f_n : Int32} {a_vec a_sca a_mem a_op a_ax a_ay a_az : Nat → Int32}
theorem cy_result {post : Int32 → Prop} {o : Nat} {a b : Int32} (h5 : o ≤ 5) (hp : post (cy_ar o a b)) : wpY_result post (f_length, f_n, a_vec, a_sca, a_mem, a_op, a_ax, a_ay, a_az) (nI o) a b := by
  unfold wpY_result
  dsimp only
  unfold cy_ar at hp
  refine pk_eq o 0 (fun e => by rw [if_pos (by omega)] at hp; exact hp) fun e0 => ?_
  refine pk_eq o 4 (fun e => by rw [if_pos (by omega)] at hp; exact hp) fun e4 => ?_
  rw [if_neg (by omega)] at hp
  refine pk_eq o 1 (fun e => by rw [if_pos (by omega)] at hp; exact hp) fun e1 => ?_
  rw [if_neg (by omega)] at hp
  refine pk_eq o 2 (fun e => by rw [if_pos (by omega)] at hp; exact hp) fun e2 => ?_
  refine pk_eq o 5 (fun e => by rw [if_pos (by omega)] at hp; exact hp) fun e5 => ?_
  rw [if_neg (by omega)] at hp
  unfold cu_mx at hp
  exact br_c (fun c => by rw [if_pos c] at hp; exact hp) (fun c => by rw [if_neg c] at hp; exact hp)
theorem cy_elW {post : SY → Prop} {o x y z i : Nat} {yy zz : Int32} {V : Nat → Int32} (hi : i < 16) (h : cx_v (nI o) (nI x) yy zz o x y z) (hw : cu_wr o)
    (hp : post (f_length, f_n, cy_W o x (cu_res o x y z zz (cu_sc o y z a_sca) V a_mem) V (i + 1), a_sca, a_mem, a_op, a_ax, a_ay, a_az)) : wpY_oneElement post (f_length, f_n, cy_W o x (cu_res o x y z zz (cu_sc o y z a_sca) V a_mem) V i, a_sca, a_mem, a_op, a_ax, a_ay, a_az) (nI o) (nI x) yy zz (nI i) := by
  obtain ⟨_, ho12, _, hx4, hy, hz⟩ := h
  have h8 : o ≤ 8 := by unfold cu_wr at hw; omega
  obtain ⟨hy1, hy2⟩ := hy (by omega) (by omega)
  subst hy1
  rw [← cy_W_s hi hw] at hp
  unfold wpY_oneElement
  dsimp only
  rw [cy_ix, cy_ix, nI_clamp (show 16 * y + i < 2 ^ 31 by omega), cy_W_r hi, nI_clamp (show y < 2 ^ 31 by omega)]
  refine nm_e ?_
  rw [nI_clamp (show 16 * x + i < 2 ^ 31 by omega)]
  refine pk_lt 3 o (fun h3 => pk_lt 5 o (fun h5 => ?_) fun h5 => ?_) fun h3 => ?_
  · refine pk_eq o 6 (fun e => ?_) fun e6 => pk_eq o 7 (fun e => ?_) fun e7 => ?_
    · subst e
      exact ⟨pk_in y 4 hy2, cx_and _, pk_in (16 * x + i) 64 (by omega), nm_e hp⟩
    · subst e
      exact absurd hw (by decide)
    · have e : o = 8 := by omega
      subst e
      exact ⟨pk_in (16 * y + i) 64 (by omega), cx_and _, pk_in (16 * x + i) 64 (by omega), nm_e hp⟩
  · obtain ⟨hz1, hz2⟩ := hz (by omega)
    subst hz1
    rw [nI_clamp (show z < 2 ^ 31 by omega)]
    refine ⟨pk_in (16 * y + i) 64 (by omega), pk_in z 4 hz2, cy_result h5 ⟨pk_in (16 * x + i) 64 (by omega), nm_e ?_⟩⟩
    rcases (show o = 4 ∨ o = 5 by omega) with e | e <;> subst e <;> exact hp
  · obtain ⟨hz1, hz2⟩ := hz (by omega)
    subst hz1
    rw [cy_ix, nI_clamp (show 16 * z + i < 2 ^ 31 by omega), cy_W_r hi]
    refine ⟨pk_in (16 * y + i) 64 (by omega), pk_in (16 * z + i) 64 (by omega), cy_result (by omega) ⟨pk_in (16 * x + i) 64 (by omega), nm_e ?_⟩⟩
    rcases (show o = 0 ∨ o = 1 ∨ o = 2 ∨ o = 3 by omega) with e | e | e | e <;> subst e <;> exact hp
theorem cy_elS {post : SY → Prop} {x y z i : Nat} {yy zz : Int32} {M : Nat → Int32} (hi : i < 16) (h : cx_v (nI 7) (nI x) yy zz 7 x y z)
    (hp : post (f_length, f_n, a_vec, a_sca, cu_Mp (a_sca y) zz x a_vec M (i + 1), a_op, a_ax, a_ay, a_az)) : wpY_oneElement post (f_length, f_n, a_vec, a_sca, cu_Mp (a_sca y) zz x a_vec M i, a_op, a_ax, a_ay, a_az) (nI 7) (nI x) yy zz (nI i) := by
  obtain ⟨_, ho12, _, hx4, hy, hz⟩ := h
  obtain ⟨hy1, hy2⟩ := hy (by omega) (by omega)
  subst hy1
  unfold wpY_oneElement
  dsimp only
  rw [cy_ix, nI_clamp (show y < 2 ^ 31 by omega)]
  refine nm_e ?_
  rw [nI_clamp (show 16 * x + i < 2 ^ 31 by omega)]
  refine pk_lt 3 7 (fun h3 => pk_lt 5 7 (fun h5 => ?_) fun h5 => absurd h5 (by omega)) fun h3 => absurd h3 (by omega)
  exact pk_eq 7 6 (fun e => absurd e (by omega)) fun e6 => pk_eq 7 7 (fun e => ⟨pk_in y 4 hy2, pk_in (16 * x + i) 64 (by omega), cx_and _, nm_e hp⟩) fun e7 => absurd rfl e7
theorem cy_126 {post : SY → Prop} {o : Nat} {xx : Int32} (h : o ≤ 11) (hp : post (f_length, f_n, a_vec, a_sca, a_mem, a_op, a_ax, a_ay, a_az)) : wY_one_126 post (nI o) xx f_length f_n a_vec a_sca a_mem a_op a_ax a_ay a_az :=
  pk_eq o 12 (fun e => absurd e (by omega)) (fun _ => hp)
theorem cy_100 {post : SY → Prop} {o : Nat} {xx yy zz : Int32} (h : o ≤ 10) (hp : post (f_length, f_n, a_vec, a_sca, a_mem, a_op, a_ax, a_ay, a_az)) : wY_one_100 post (nI o) xx yy zz f_length f_n a_vec a_sca a_mem a_op a_ax a_ay a_az :=
  pk_eq o 11 (fun e => absurd e (by omega)) (fun _ => cy_126 (by omega) hp)
theorem cy_87 {post : SY → Prop} {o : Nat} {xx yy zz : Int32} (h : o ≤ 9) (hp : post (f_length, f_n, a_vec, a_sca, a_mem, a_op, a_ax, a_ay, a_az)) : wY_one_87 post (nI o) xx yy zz f_length f_n a_vec a_sca a_mem a_op a_ax a_ay a_az :=
  pk_eq o 10 (fun e => absurd e (by omega)) (fun _ => cy_100 (by omega) hp)
theorem cy_35 {post : SY → Prop} {o : Nat} {xx yy zz : Int32} (h : o ≤ 8) (hp : post (f_length, f_n, a_vec, a_sca, a_mem, a_op, a_ax, a_ay, a_az)) : wY_one_35 post (nI o) xx yy zz f_length f_n a_vec a_sca a_mem a_op a_ax a_ay a_az :=
  pk_eq o 9 (fun e => absurd e (by omega)) (fun _ => cy_87 (by omega) hp)
theorem cy_9W {post : SY → Prop} {o x y z L : Nat} {yy zz : Int32} {V : Nat → Int32} (hL : L ≤ 16) (h : cx_v (nI o) (nI x) yy zz o x y z) (hw : cu_wr o)
    (hp : post (nI L, f_n, cy_W o x (cu_res o x y z zz (cu_sc o y z a_sca) V a_mem) V L, a_sca, a_mem, a_op, a_ax, a_ay, a_az)) :
    ∀ d i w, i + d = L → d < w → wY_one_9 post (nI o) (nI x) yy zz w (nI i) (nI L) f_n (cy_W o x (cu_res o x y z zz (cu_sc o y z a_sca) V a_mem) V i) a_sca a_mem a_op a_ax a_ay a_az := by
  intro d
  induction d with
  | zero =>
    intro i w hd hw'
    obtain ⟨w, rfl⟩ : ∃ v, w = v + 1 := ⟨w - 1, by omega⟩
    have e : i = L := by omega
    subst e
    exact br_t (nI_le (by omega) (by omega)) (cy_35 (by unfold cu_wr at hw; omega) hp)
  | succ d ih =>
    intro i w hd hw'
    obtain ⟨w, rfl⟩ : ∃ v, w = v + 1 := ⟨w - 1, by omega⟩
    exact br_f (nI_ge (by omega) (by omega)) (cy_elW (by omega) h hw (nm_r (nI_1 i) (ih (i + 1) w (by omega) (by omega))))
theorem cy_9S {post : SY → Prop} {x y z L : Nat} {yy zz : Int32} {M : Nat → Int32} (hL : L ≤ 16) (h : cx_v (nI 7) (nI x) yy zz 7 x y z)
    (hp : post (nI L, f_n, a_vec, a_sca, cu_Mp (a_sca y) zz x a_vec M L, a_op, a_ax, a_ay, a_az)) :
    ∀ d i w, i + d = L → d < w → wY_one_9 post (nI 7) (nI x) yy zz w (nI i) (nI L) f_n a_vec a_sca (cu_Mp (a_sca y) zz x a_vec M i) a_op a_ax a_ay a_az := by
  intro d
  induction d with
  | zero =>
    intro i w hd hw'
    obtain ⟨w, rfl⟩ : ∃ v, w = v + 1 := ⟨w - 1, by omega⟩
    have e : i = L := by omega
    subst e
    exact br_t (nI_le (by omega) (by omega)) (cy_35 (by omega) hp)
  | succ d ih =>
    intro i w hd hw'
    obtain ⟨w, rfl⟩ : ∃ v, w = v + 1 := ⟨w - 1, by omega⟩
    exact br_f (nI_ge (by omega) (by omega)) (cy_elS (by omega) h (nm_r (nI_1 i) (ih (i + 1) w (by omega) (by omega))))
theorem cy_47 {post : SY → Prop} {x y L : Nat} {zz : Int32} (hL : L ≤ 16) (hx : x < 4) (hy : y < 4)
    (hp : post (nI L, f_n, a_vec, upd a_sca x (cu_ps y a_vec L), a_mem, a_op, a_ax, a_ay, a_az)) :
    ∀ d i w, i + d = L → d < w → wY_one_47 post (nI 9) (nI x) (nI y) zz (nI L) f_n a_vec a_sca a_mem a_op a_ax a_ay a_az w (cu_ps y a_vec i) (nI i) := by
  intro d
  induction d with
  | zero =>
    intro i w hd hw'
    obtain ⟨w, rfl⟩ : ∃ v, w = v + 1 := ⟨w - 1, by omega⟩
    have e : i = L := by omega
    subst e
    refine br_t (nI_le (by omega) (by omega)) ⟨pk_in x 4 hx, ?_⟩
    rw [nI_clamp (show x < 2 ^ 31 by omega)]
    exact nm_e (cy_87 (by omega) hp)
  | succ d ih =>
    intro i w hd hw'
    obtain ⟨w, rfl⟩ : ∃ v, w = v + 1 := ⟨w - 1, by omega⟩
    refine br_f (nI_ge (by omega) (by omega)) ?_
    rw [cy_ix, nI_clamp (show 16 * y + i < 2 ^ 31 by omega)]
    exact ⟨pk_in (16 * y + i) 64 (by omega), nm_e (nm_r (nI_1 i) (ih (i + 1) w (by omega) (by omega)))⟩
theorem cy_step_V {o x y z : Nat} {yi zi : Int32} {s : cu_St} (h : ¬ cu_wr o) : (cu_step o x y z yi zi s).1 = s.1 := funext fun p => if_neg (fun q => h q.1)
theorem cy_one {post : SY → Prop} {o x y z L : Nat} {yy zz : Int32} (hL : L ≤ 16) (h : cx_v (nI o) (nI x) yy zz o x y z)
    (hp : post (nI (cu_step o x y z yy zz (a_vec, a_sca, a_mem, L)).2.2.2, f_n, (cu_step o x y z yy zz (a_vec, a_sca, a_mem, L)).1, (cu_step o x y z yy zz (a_vec, a_sca, a_mem, L)).2.1, (cu_step o x y z yy zz (a_vec, a_sca, a_mem, L)).2.2.1, a_op, a_ax, a_ay, a_az)) :
    wpY_one post (nI L, f_n, a_vec, a_sca, a_mem, a_op, a_ax, a_ay, a_az) (nI o) (nI x) yy zz := by
  have h' := h
  obtain ⟨_, ho12, _, hx4, hy, hz⟩ := h
  unfold wpY_one
  dsimp only
  refine pk_lt 8 o (fun h8 => ?_) fun h8 => ⟨L + 1, ?_⟩
  · rw [cy_step_V (by unfold cu_wr; omega)] at hp
    refine pk_eq o 9 (fun e => ?_) fun e9 => pk_eq o 10 (fun e => ?_) fun e10 => pk_eq o 11 (fun e => ?_) fun e11 => ?_
    · subst e
      obtain ⟨hy1, hy2⟩ := hy (by omega) (by omega)
      subst hy1
      exact ⟨L + 1, cy_47 hL hx4 hy2 hp L 0 (L + 1) (by omega) (by omega)⟩
    · subst e
      refine ⟨pk_in x 4 hx4, ?_⟩
      rw [nI_clamp (show x < 2 ^ 31 by omega)]
      exact nm_e (cy_100 (by omega) hp)
    · subst e
      obtain ⟨hy1, hy2⟩ := hy (by omega) (by omega)
      obtain ⟨hz1, hz2⟩ := hz (by omega)
      subst hy1
      subst hz1
      rw [nI_clamp (show x < 2 ^ 31 by omega), nI_clamp (show y < 2 ^ 31 by omega), nI_clamp (show z < 2 ^ 31 by omega)]
      exact ⟨pk_in y 4 hy2, pk_in z 4 hz2, pk_in x 4 hx4, nm_e (cy_126 (by omega) hp)⟩
    · have e : o = 12 := by omega
      subst e
      have hp' : post (nI (cu_cl (a_sca x)), f_n, a_vec, a_sca, a_mem, a_op, a_ax, a_ay, a_az) := hp
      unfold cu_cl at hp'
      refine pk_eq 12 12 (fun _ => ⟨pk_in x 4 hx4, ?_⟩) fun e => absurd rfl e
      rw [nI_clamp (show x < 2 ^ 31 by omega)]
      by_cases z0 : a_sca x < 0
      · rw [if_pos z0] at hp'
        exact br_f (Int32.not_le.mpr z0) hp'
      · rw [if_neg z0] at hp'
        obtain ⟨s, hs, es⟩ := nI_of z0
        refine br_t (by rw [es]; exact nI_pos' hs) ⟨pk_in x 4 hx4, ?_⟩
        by_cases z1 : a_sca x ≤ 16
        · rw [if_pos z1] at hp'
          have e2 : nI (a_sca x).toNatClampNeg = a_sca x := by rw [es, nI_clamp hs]
          rw [e2] at hp'
          exact br_t z1 ⟨pk_in x 4 hx4, nm_e hp'⟩
        · rw [if_neg z1] at hp'
          exact br_f z1 hp'
  · by_cases e7 : o = 7
    · subst e7
      rw [cy_step_V (by decide)] at hp
      exact cy_9S (M := a_mem) hL h' hp L 0 (L + 1) (by omega) (by omega)
    · have hw : cu_wr o := by unfold cu_wr; omega
      have e1 : (cu_step o x y z yy zz (a_vec, a_sca, a_mem, L)).2.1 = a_sca := by
        show (if o = 9 then _ else if o = 10 then _ else if o = 11 then _ else a_sca) = a_sca
        rw [if_neg (by omega), if_neg (by omega), if_neg (by omega)]
      have e2 : (cu_step o x y z yy zz (a_vec, a_sca, a_mem, L)).2.2.1 = a_mem := if_neg e7
      have e3 : (cu_step o x y z yy zz (a_vec, a_sca, a_mem, L)).2.2.2 = L := if_neg (by omega)
      rw [e1, e2, e3] at hp
      have k := cy_9W (V := a_vec) hL h' hw hp L 0 (L + 1) (by omega) (by omega)
      rw [cy_W_0] at k
      exact k
theorem cy_run7 {post : Int32 → SY → Prop} {G : cu_Pr} {cn : Nat} (hcn : cn ≤ 16) (hok : cx_ok a_op a_ax a_ay a_az G cn) (hL : ∀ k, cu_L G k ≤ 16)
    (hp : post (nI cn) (nI (cu_L G cn), 0, cu_V G cn, cu_S G cn, cu_M G cn, a_op, a_ax, a_ay, a_az)) :
    ∀ d k w, k + d = cn → d < w → wY_run_7 post (nI cn) w (nI k) (nI (cu_L G k)) (nI cn) (cu_V G k) (cu_S G k) (cu_M G k) a_op a_ax a_ay a_az := by
  intro d
  induction d with
  | zero =>
    intro k w hd hw
    obtain ⟨w, rfl⟩ : ∃ v, w = v + 1 := ⟨w - 1, by omega⟩
    have e : k = cn := by omega
    subst e
    exact br_t (nI_le (by omega) (by omega)) hp
  | succ d ih =>
    intro k w hd hw
    obtain ⟨w, rfl⟩ : ∃ v, w = v + 1 := ⟨w - 1, by omega⟩
    obtain ⟨hv, hyi, hzi⟩ := hok k (by omega)
    have h16 : vp_in (nI k) 16 := pk_in k 16 (by omega)
    refine br_f (nI_ge (by omega) (by omega)) ⟨h16, h16, h16, h16, ?_⟩
    have hv' := hv
    rw [hv.1, hv.2.2.1, hyi, hzi] at hv'
    rw [nI_clamp (show k < 2 ^ 31 by omega), hv.1, hv.2.2.1, hyi, hzi]
    exact cy_one (hL k) hv' (nm_r (nI_1 k) (ih (k + 1) w (by omega) (by omega)))
theorem cy_run {post : Int32 → SY → Prop} {G : cu_Pr} {cn : Nat} (hcn : cn ≤ 16) (hok : cx_ok a_op a_ax a_ay a_az G cn) (hL : ∀ k, cu_L G k ≤ 16)
    (hp : post (nI cn) (nI (cu_L G cn), 0, cu_V G cn, cu_S G cn, cu_M G cn, a_op, a_ax, a_ay, a_az)) :
    wpY_run post (nI (cu_L G 0), nI cn, cu_V G 0, cu_S G 0, cu_M G 0, a_op, a_ax, a_ay, a_az) := by
  unfold wpY_run
  exact ⟨cn + 1, cy_run7 hcn hok hL hp cn 0 (cn + 1) (by omega) (by omega)⟩
end
