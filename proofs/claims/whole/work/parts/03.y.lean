/-! K: the reference's small methods -/
theorem yo_t {post : Int32 → Prop} {j m : Nat} (h : j ≤ m) (hm : m < 2 ^ 31) (p : post 0) : wpY_outside post (nI j) (nI m) :=
  br_f (nI_pos (by omega)) (br_t (nI_le h hm) p)
theorem yo_f {post : Int32 → Prop} {x : Int32} {m : Nat} (h : sp_o x (m + 1)) (hm : m + 1 < 2 ^ 31) (p : post 1) : wpY_outside post x (nI m) := by
  by_cases h0 : x < 0
  · exact br_t h0 p
  · rcases h with h | h
    · exact absurd h h0
    · obtain ⟨j, hj, rfl⟩ := nI_of h0
      have h2 := (nI_leI hm hj).mp h
      exact br_f h0 (br_f (nI_ge (by omega) hj) p)
theorem yb_t {post : Int32 → Prop} {a b : Nat} (ha : a < 4) (hb : b < 8) (p : post 0) : wpY_bad post (nI a) (nI b) := by
  unfold wpY_bad
  exact yo_t (m := 3) (by omega) (by decide) (br_t rfl (yo_t (m := 7) (by omega) (by decide) (br_t rfl p)))
theorem yb_f {post : Int32 → Prop} {x y : Int32} (h : sp_o x 4 ∨ sp_o y 8) (p : post 1) : wpY_bad post x y := by
  unfold wpY_bad
  rcases sp_c x 4 (by decide) with hx | ⟨a, ha, rfl⟩
  · exact yo_f (m := 3) hx (by decide) (br_f sp_10 p)
  · rcases h with h | h
    · exact yo_f (m := 3) h (by decide) (br_f sp_10 p)
    · exact yo_t (m := 3) (by omega) (by decide) (br_t rfl (yo_f (m := 7) h (by decide) (br_f sp_10 p)))
theorem sp_sl (a p : Nat) : 32 * nI a + 4 * nI p = nI ((a * 8 + p) * 4) := by
  rw [show (32 : Int32) = nI 32 from rfl, show (4 : Int32) = nI 4 from rfl, pk_mul, pk_mul, nI_add]
  exact congrArg nI (by omega)
theorem sp_sl2 (a f p : Nat) : 32 * nI a + 4 * (nI f + nI p) = nI ((a * 8 + f + p) * 4) := by
  rw [nI_add, sp_sl]
  exact congrArg nI (by omega)
theorem sp_pl (a p : Nat) : 128 + 32 * nI a + 4 * nI p = nI ((32 + a * 8 + p) * 4) := by
  rw [show (128 : Int32) = nI 128 from rfl, show (32 : Int32) = nI 32 from rfl, show (4 : Int32) = nI 4 from rfl, pk_mul, pk_mul, nI_add, nI_add]
  exact congrArg nI (by omega)
theorem sp_slc (a p c : Nat) : 32 * nI a + 4 * nI p + nI c = nI ((a * 8 + p) * 4 + c) := by
  rw [sp_sl, nI_add]
theorem sp_plc (a p c : Nat) : 128 + 32 * nI a + 4 * nI p + nI c = nI ((32 + a * 8 + p) * 4 + c) := by
  rw [sp_pl, nI_add]

/-! L: the reference copies a page -/
theorem yc_l {post : SY → Prop} {ce sz : Nat → Int32} {t s : Nat} (ht : t ≤ 64) (hs : s ≤ 64) (hp : ∀ ce', sp_cp ce ce' t s → post (ce', sz)) : ∀ (d c : Nat) (k1 : Nat → Int32), c + d = 4 → sp_pc ce k1 t s c → wY_copyPage_2 post (nI (t * 4)) (nI (s * 4)) (d + 1) (nI c) k1 sz := by
  intro d
  induction d with
  | zero =>
    intro c k1 hc h
    have e : c = 4 := by omega
    subst e
    exact br_t (sp_le4 (by omega) (by omega)) (hp k1 (sp_pc_4 h))
  | succ d ih =>
    intro c k1 hc h
    have is : vp_in (nI (s * 4) + nI c) 260 := by rw [nI_add]; exact vp_in_nI (by omega) (by decide)
    have it : vp_in (nI (t * 4) + nI c) 260 := by rw [nI_add]; exact vp_in_nI (by omega) (by decide)
    have cs : (nI (s * 4) + nI c).toNatClampNeg = s * 4 + c := by rw [nI_add]; exact nI_clamp (by omega)
    have ct : (nI (t * 4) + nI c).toNatClampNeg = t * 4 + c := by rw [nI_add]; exact nI_clamp (by omega)
    refine br_f (sp_nle4 (by omega)) ⟨is, it, fun k2 e2 y ey => ?_⟩
    rw [cs, ct] at e2
    rw [ey, nI_1 c]
    subst e2
    exact ih (c + 1) _ (by omega) (sp_pc_s h (by omega))
theorem yc {post : SY → Prop} {ce sz : Nat → Int32} (t s : Nat) {x y : Int32} (ex : x = nI (t * 4)) (ey : y = nI (s * 4)) (ht : t ≤ 64) (hs : s ≤ 64) (hp : ∀ ce', sp_cp ce ce' t s → post (ce', sz)) : wpY_copyPage post (ce, sz) x y := by
  subst ex ey
  exact ⟨5, yc_l ht hs hp 4 0 ce rfl sp_pc_0⟩

/-! M: the reference's loops -/
theorem yf_l {post : Int32 → SY → Prop} {F : Nat → Nat} {st sz : Nat → Int32} {a b : Nat} (ha : a < 4) (hb : b < 4) (hp : ∀ ce', sp_V (sp_run F (a * 8) (b * 8) 8) st ce' → post 0 (ce', sz)) : ∀ (d p : Nat) (ce : Nat → Int32), p + d = 8 → sp_V (sp_run F (a * 8) (b * 8) p) st ce → wY_fork_20 post (nI a) (nI b) (d + 1) (nI p) ce sz := by
  intro d
  induction d with
  | zero =>
    intro p ce hd h
    have e : p = 8 := by omega
    subst e
    exact br_t (sp_le8 (by omega) (by omega)) (hp ce h)
  | succ d ih =>
    intro p ce hd h
    refine br_f (sp_nle8 (by omega)) (yc (b * 8 + p) (a * 8 + p) (sp_sl b p) (sp_sl a p) (by omega) (by omega) (fun ce' hc y ey => ?_))
    rw [ey, nI_1 p]
    exact ih (p + 1) ce' (by omega) (sp_V_cp h (by omega) hc)
theorem yp_l {post : Int32 → SY → Prop} {F : Nat → Nat} {st sz : Nat → Int32} {a b f m : Nat} (ha : a < 4) (hb : b < 4) (hm : f + m ≤ 8) (hp : ∀ ce', sp_V (sp_run F (b * 8 + f) (32 + a * 8) m) st ce' → post 0 (ce', upd sz a (nI m))) : ∀ (d p : Nat) (ce : Nat → Int32), p + d = m → sp_V (sp_run F (b * 8 + f) (32 + a * 8) p) st ce → wY_pack_43 post (nI a) (nI b) (nI f) (nI m) (d + 1) (nI p) ce sz := by
  have ca : (nI a).toNatClampNeg = a := nI_clamp (by omega)
  intro d
  induction d with
  | zero =>
    intro p ce hd h
    have e : p = m := by omega
    subst e
    refine br_t (nI_le (Nat.le_refl p) (by omega)) ⟨vp_in_nI ha (by decide), fun z ez => ?_⟩
    rw [ca] at ez
    subst ez
    exact hp ce h
  | succ d ih =>
    intro p ce hd h
    refine br_f (nI_ge (by omega) (by omega)) (yc (32 + a * 8 + p) (b * 8 + f + p) (sp_pl a p) (sp_sl2 b f p) (by omega) (by omega) (fun ce' hc y ey => ?_))
    rw [ey, nI_1 p]
    exact ih (p + 1) ce' (by omega) (sp_V_cp h (by omega) hc)
theorem yn_l {post : Int32 → SY → Prop} {F : Nat → Nat} {st sz : Nat → Int32} {a b f m : Nat} {x : Int32} (ha : a < 4) (hb : b < 4) (hm : f + m ≤ 8) (hp : ∀ ce', sp_V (sp_run F (32 + a * 8) (b * 8 + f) m) st ce' → (x = 0 → post (nI m) (ce', upd sz a 0)) ∧ (¬ x = 0 → post (nI m) (ce', sz))) : ∀ (d p : Nat) (ce : Nat → Int32), p + d = m → sp_V (sp_run F (32 + a * 8) (b * 8 + f) p) st ce → wY_unpack_51 post (nI a) (nI b) (nI f) x (nI m) (d + 1) (nI p) ce sz := by
  have ca : (nI a).toNatClampNeg = a := nI_clamp (by omega)
  intro d
  induction d with
  | zero =>
    intro p ce hd h
    have e : p = m := by omega
    subst e
    refine br_t (nI_le (Nat.le_refl p) (by omega)) (br_c (fun hx => ⟨vp_in_nI ha (by decide), fun z ez => ?_⟩) (fun hx => (hp ce h).2 hx))
    rw [ca] at ez
    subst ez
    exact (hp ce h).1 hx
  | succ d ih =>
    intro p ce hd h
    refine br_f (nI_ge (by omega) (by omega)) (yc (b * 8 + f + p) (32 + a * 8 + p) (sp_sl2 b f p) (sp_pl a p) (by omega) (by omega) (fun ce' hc y ey => ?_))
    rw [ey, nI_1 p]
    exact ih (p + 1) ce' (by omega) (sp_V_cp h (by omega) hc)
theorem yz {post : Int32 → SY → Prop} {ce sz : Nat → Int32} {a b : Nat} (ha : a < 4) (hb : b < 8) (hp : ∀ ce', sp_z ce ce' (a * 8 + b) → post 0 (ce', sz)) : ∀ (d c : Nat) (k1 : Nat → Int32), c + d = 4 → sp_pz ce k1 (a * 8 + b) c → wY_clear_12 post (nI a) (nI b) (d + 1) (nI c) k1 sz := by
  intro d
  induction d with
  | zero =>
    intro c k1 hc h
    have e : c = 4 := by omega
    subst e
    exact br_t (sp_le4 (by omega) (by omega)) (hp k1 (sp_pz_4 h))
  | succ d ih =>
    intro c k1 hc h
    have it : vp_in (32 * nI a + 4 * nI b + nI c) 260 := by rw [sp_slc]; exact vp_in_nI (by omega) (by decide)
    have ct : (32 * nI a + 4 * nI b + nI c).toNatClampNeg = (a * 8 + b) * 4 + c := by rw [sp_slc]; exact nI_clamp (by omega)
    refine br_f (sp_nle4 (by omega)) ⟨it, fun k2 e2 y ey => ?_⟩
    rw [ct] at e2
    rw [ey, nI_1 c]
    subst e2
    exact ih (c + 1) _ (by omega) (sp_pz_s h)
theorem ya_i {post : Int32 → Prop} {J : Int32 → Int32 → Prop} {ce sz : Nat → Int32} {a b q p : Nat} (ha : a < 4) (hb : b < 4) (hpp : p < 8) (h0 : sp_e ce (a * 8 + p) (b * 8 + p) 4 = 0 → J (nI q) (nI (p + 1))) (h1 : ¬ sp_e ce (a * 8 + p) (b * 8 + p) 4 = 0 → J (nI (q + 1)) (nI (p + 1))) : ∀ d c : Nat, c + d = 4 → wY_alike_36 post J (nI a) (nI b) (nI q) (nI p) ce sz (d + 1) (sp_e ce (a * 8 + p) (b * 8 + p) c) (nI c) := by
  intro d
  induction d with
  | zero =>
    intro c hc
    have e : c = 4 := by omega
    subst e
    refine br_t (sp_le4 (by omega) (by omega)) (br_c (fun z y ey => ?_) (fun z y ey w ew => ?_))
    · rw [ey, nI_1 p]
      exact h0 z
    · rw [ey, ew, nI_1 p, nI_1 q]
      exact h1 z
  | succ d ih =>
    intro c hc
    have ia : vp_in (32 * nI a + 4 * nI p + nI c) 260 := by rw [sp_slc]; exact vp_in_nI (by omega) (by decide)
    have ib : vp_in (32 * nI b + 4 * nI p + nI c) 260 := by rw [sp_slc]; exact vp_in_nI (by omega) (by decide)
    have ca : (32 * nI a + 4 * nI p + nI c).toNatClampNeg = (a * 8 + p) * 4 + c := by rw [sp_slc]; exact nI_clamp (by omega)
    have cb : (32 * nI b + 4 * nI p + nI c).toNatClampNeg = (b * 8 + p) * 4 + c := by rw [sp_slc]; exact nI_clamp (by omega)
    have k := ih (c + 1) (by omega)
    refine br_f (sp_nle4 (by omega)) ⟨ia, ib, ?_⟩
    by_cases z : ce ((a * 8 + p) * 4 + c) = ce ((b * 8 + p) * 4 + c)
    · rw [sp_es_t z] at k
      refine br_t (by rw [ca, cb]; exact z) (fun y ey => ?_)
      rw [ey, nI_1 c]
      exact k
    · rw [sp_es_f z] at k
      refine br_f (by rw [ca, cb]; exact z) (fun y ey => ?_)
      rw [ey, nI_1 c]
      exact k
theorem ya_l {post : Int32 → Prop} {ce sz : Nat → Int32} {a b : Nat} (ha : a < 4) (hb : b < 4) (hp : post (nI (sp_ct ce a b 8))) : ∀ d p : Nat, p + d = 8 → wY_alike_23 post (nI a) (nI b) ce sz (d + 1) (nI (sp_ct ce a b p)) (nI p) := by
  intro d
  induction d with
  | zero =>
    intro p hd
    have e : p = 8 := by omega
    subst e
    exact br_t (sp_le8 (by omega) (by omega)) hp
  | succ d ih =>
    intro p hd
    have k := ih (p + 1) (by omega)
    refine br_f (sp_nle8 (by omega)) ⟨5, ya_i ha hb (by omega) (fun z => ?_) (fun z => ?_) 4 0 rfl⟩
    · rw [sp_ct_0 z] at k
      exact k
    · rw [sp_ct_1 z] at k
      exact k
