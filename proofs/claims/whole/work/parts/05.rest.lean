/-! P: pack -/
theorem x_pack_f {post : Int32 → SX → Prop} {fo us st hd : Nat → Int32} {x y z w : Int32} (h : sp_o x 4 ∨ (sp_o y 4 ∨ sp_o z 8)) (p : post (-1) (fo, us, st, hd)) : wpX_pack post (fo, us, st, hd) x y z w := by
  unfold wpX_pack
  dsimp only
  rcases sp_c x 4 (by decide) with hx | ⟨a, ha, rfl⟩
  · exact xb_f (n := 4) hx (br_t rfl p)
  · rcases h with h | h
    · exact xb_f (n := 4) h (br_t rfl p)
    · exact xb_t (n := 4) ha (by decide) (br_f sp_10 (xp_f h (br_t rfl p)))
theorem y_pack_f {post : Int32 → SY → Prop} {ce sz : Nat → Int32} {x y z w : Int32} (h : sp_o x 4 ∨ (sp_o y 4 ∨ sp_o z 8)) (p : post (-1) (ce, sz)) : wpY_pack post (ce, sz) x y z w := by
  unfold wpY_pack
  dsimp only
  rcases sp_c x 4 (by decide) with hx | ⟨a, ha, rfl⟩
  · exact yo_f (m := 3) hx (by decide) (br_f sp_10 p)
  · rcases h with h | h
    · exact yo_f (m := 3) h (by decide) (br_f sp_10 p)
    · exact yo_t (m := 3) (by omega) (by decide) (br_t rfl (yb_f h (br_f sp_10 p)))
theorem sp_c448 (x y z : Int32) : (sp_o x 4 ∨ (sp_o y 4 ∨ sp_o z 8)) ∨ ∃ a b f : Nat, a < 4 ∧ b < 4 ∧ f < 8 ∧ x = nI a ∧ y = nI b ∧ z = nI f := by
  rcases sp_c x 4 (by decide) with hx | ⟨a, ha, ea⟩
  · exact Or.inl (Or.inl hx)
  · rcases sp_c2 y z with h | ⟨b, f, hb, hf, eb, ef⟩
    · exact Or.inl (Or.inr h)
    · exact Or.inr ⟨a, b, f, ha, hb, hf, ea, eb, ef⟩
theorem x_pack_g {post : Int32 → SX → Prop} {fo us st hd : Nat → Int32} {a b f : Nat} {w : Int32} (ha : a < 4) (hb : b < 4) (hf : f < 8) (h : w < 1 ∨ ∃ m : Nat, m < 2 ^ 31 ∧ w = nI m ∧ 8 < f + m) (p : post (-1) (fo, us, st, hd)) : wpX_pack post (fo, us, st, hd) (nI a) (nI b) (nI f) w := by
  unfold wpX_pack
  dsimp only
  refine xb_t (n := 4) ha (by decide) (br_f sp_10 (xp_t hb hf (br_f sp_10 ?_)))
  by_cases h1 : w < 1
  · exact br_t h1 p
  · rcases h with h | ⟨m, hm, rfl, h⟩
    · exact absurd h h1
    · exact br_f h1 (xfi_f hf hm h (br_t rfl p))
theorem y_pack_g {post : Int32 → SY → Prop} {ce sz : Nat → Int32} {a b f : Nat} {w : Int32} (ha : a < 4) (hb : b < 4) (hf : f < 8) (h : w < 1 ∨ ∃ m : Nat, m < 2 ^ 31 ∧ w = nI m ∧ 8 < f + m) (p : post (-1) (ce, sz)) : wpY_pack post (ce, sz) (nI a) (nI b) (nI f) w := by
  unfold wpY_pack
  dsimp only
  refine yo_t (m := 3) (by omega) (by decide) (br_t rfl (yb_t hb hf (br_t rfl ?_)))
  by_cases h1 : w < 1
  · exact br_t h1 p
  · rcases h with h | ⟨m, hm, rfl, h⟩
    · exact absurd h h1
    · refine br_f h1 ?_
      by_cases h8 : 8 < m
      · exact br_t (nI_lt (a := 8) h8 hm) p
      · refine br_f (nI_nlt (b := m) (a := 8) (by omega) (by decide)) ?_
        rw [nI_add]
        exact br_f (nI_ge (b := f + m) (a := 8) (by omega) (by omega)) p
theorem y_pack_t {post : Int32 → SY → Prop} {F : Nat → Nat} {st ce sz : Nat → Int32} {a b f m : Nat} (ha : a < 4) (hb : b < 4) (hf : f < 8) (h1 : ¬ nI m < 1) (hm : f + m ≤ 8) (hV : sp_V F st ce) (hp : ∀ ce', sp_V (sp_run F (b * 8 + f) (32 + a * 8) m) st ce' → post 0 (ce', upd sz a (nI m))) : wpY_pack post (ce, sz) (nI a) (nI b) (nI f) (nI m) := by
  unfold wpY_pack
  dsimp only
  refine yo_t (m := 3) (by omega) (by decide) (br_t rfl (yb_t hb hf (br_t rfl (br_f h1 (br_f (nI_nlt (b := m) (a := 8) (by omega) (by decide)) ?_)))))
  rw [nI_add]
  exact br_t (nI_le (a := f + m) (b := 8) hm (by decide)) ⟨m + 1, yp_l ha hb hm hp m 0 ce (by omega) hV⟩
theorem i_vc_pack {k : Nat} {u : SX} {v : SY} (I : i_Rel k u v) (hk : k + 5 ≤ 2560) (v1 : Int32) (v2 : Int32) (v3 : Int32) (v4 : Int32) : wpX_pack (fun r u' => wpY_pack (fun r' v' => r' = r ∧ i_Rel (k + 5) u' v') v v1 v2 v3 v4) u v1 v2 v3 v4 := by
  obtain ⟨F, fo, us, st, hd, ce, rfl, rfl, hX, hV, hH⟩ := sp_E I
  rcases sp_c448 v1 v2 v3 with h | ⟨a, b, f, ha, hb, hf, rfl, rfl, rfl⟩
  · exact x_pack_f h (y_pack_f h ⟨rfl, sp_I hX hV hH⟩)
  · by_cases h1 : v4 < 1
    · exact x_pack_g ha hb hf (Or.inl h1) (y_pack_g ha hb hf (Or.inl h1) ⟨rfl, sp_I hX hV hH⟩)
    · have h0 : ¬ v4 < 0 := fun q => h1 (Int32.lt_trans q (by decide))
      obtain ⟨m, hm, rfl⟩ := nI_of h0
      by_cases h8 : 8 < f + m
      · exact x_pack_g ha hb hf (Or.inr ⟨m, hm, rfl, h8⟩) (y_pack_g ha hb hf (Or.inr ⟨m, hm, rfl, h8⟩) ⟨rfl, sp_I hX hV hH⟩)
      · have ca : (nI a).toNatClampNeg = a := nI_clamp (by omega)
        unfold wpX_pack
        dsimp only
        refine xb_t (n := 4) ha (by decide) (br_f sp_10 (xp_t hb hf (br_f sp_10 (br_f h1 (xfi_t (by omega) (br_f sp_10 (xss (xps (b := 0) (xr (s := b * 8 + f) (t := 32 + a * 8) hX (by omega) (by omega) (fun fo' us' hX' => ⟨vp_in_nI ha (by decide), fun h2 e2 => ?_⟩))))))))))
        rw [ca] at e2
        subst e2
        exact y_pack_t ha hb hf h1 (by omega) hV (fun ce' hV' => ⟨rfl, sp_I hX' hV' (sp_H_up hH (by omega))⟩)

/-! Q: unpack -/
theorem x_unpack_f {post : Int32 → SX → Prop} {fo us st hd : Nat → Int32} {x y z w : Int32} (h : sp_o x 4 ∨ (sp_o y 4 ∨ sp_o z 8)) (p : post (-1) (fo, us, st, hd)) : wpX_unpack post (fo, us, st, hd) x y z w := by
  unfold wpX_unpack
  dsimp only
  rcases sp_c x 4 (by decide) with hx | ⟨a, ha, rfl⟩
  · exact xb_f (n := 4) hx (br_t rfl p)
  · rcases h with h | h
    · exact xb_f (n := 4) h (br_t rfl p)
    · exact xb_t (n := 4) ha (by decide) (br_f sp_10 (xp_f h (br_t rfl p)))
theorem y_unpack_f {post : Int32 → SY → Prop} {ce sz : Nat → Int32} {x y z w : Int32} (h : sp_o x 4 ∨ (sp_o y 4 ∨ sp_o z 8)) (p : post (-1) (ce, sz)) : wpY_unpack post (ce, sz) x y z w := by
  unfold wpY_unpack
  dsimp only
  rcases sp_c x 4 (by decide) with hx | ⟨a, ha, rfl⟩
  · exact yo_f (m := 3) hx (by decide) (br_f sp_10 p)
  · rcases h with h | h
    · exact yo_f (m := 3) h (by decide) (br_f sp_10 p)
    · exact yo_t (m := 3) (by omega) (by decide) (br_t rfl (yb_f h (br_f sp_10 p)))
theorem x_unpack_g {post : Int32 → SX → Prop} {fo us st hd : Nat → Int32} {a b f m : Nat} {w : Int32} (ha : a < 4) (hb : b < 4) (hf : f < 8) (hm : m ≤ 8) (em : hd a = nI m) (h : m = 0 ∨ 8 < f + m) (p : post (-1) (fo, us, st, hd)) : wpX_unpack post (fo, us, st, hd) (nI a) (nI b) (nI f) w := by
  have ca : (nI a).toNatClampNeg = a := nI_clamp (by omega)
  unfold wpX_unpack
  dsimp only
  refine xb_t (n := 4) ha (by decide) (br_f sp_10 (xp_t hb hf (br_f sp_10 ⟨vp_in_nI ha (by decide), fun x ex => ?_⟩)))
  rw [ca, em] at ex
  subst ex
  by_cases h0 : m = 0
  · subst h0
    exact br_t rfl p
  · exact br_f (nI_ne0 (by omega) (by omega)) (xfi_f hf (by omega) (by omega) (br_t rfl p))
theorem y_unpack_g {post : Int32 → SY → Prop} {ce sz : Nat → Int32} {a b f m : Nat} {w : Int32} (ha : a < 4) (hb : b < 4) (hf : f < 8) (hm : m ≤ 8) (em : sz a = nI m) (h : m = 0 ∨ 8 < f + m) (p : post (-1) (ce, sz)) : wpY_unpack post (ce, sz) (nI a) (nI b) (nI f) w := by
  have ca : (nI a).toNatClampNeg = a := nI_clamp (by omega)
  unfold wpY_unpack
  dsimp only
  rw [ca, em, nI_add]
  refine yo_t (m := 3) (by omega) (by decide) (br_t rfl (yb_t hb hf (br_t rfl ⟨vp_in_nI ha (by decide), ?_⟩)))
  by_cases h0 : m = 0
  · subst h0
    exact br_t rfl p
  · exact br_f (nI_ne0 (by omega) (by omega)) ⟨vp_in_nI ha (by decide), br_f (nI_ge (b := f + m) (a := 8) (by omega) (by omega)) p⟩
theorem y_unpack_t {post : Int32 → SY → Prop} {F : Nat → Nat} {st ce sz : Nat → Int32} {a b f m : Nat} {w : Int32} (ha : a < 4) (hb : b < 4) (hf : f < 8) (h0 : 0 < m) (hm : f + m ≤ 8) (em : sz a = nI m) (hV : sp_V F st ce) (hp : ∀ ce', sp_V (sp_run F (32 + a * 8) (b * 8 + f) m) st ce' → (w = 0 → post (nI m) (ce', upd sz a 0)) ∧ (¬ w = 0 → post (nI m) (ce', sz))) : wpY_unpack post (ce, sz) (nI a) (nI b) (nI f) w := by
  have ca : (nI a).toNatClampNeg = a := nI_clamp (by omega)
  unfold wpY_unpack
  dsimp only
  rw [ca, em, nI_add]
  refine yo_t (m := 3) (by omega) (by decide) (br_t rfl (yb_t hb hf (br_t rfl ⟨vp_in_nI ha (by decide), br_f (nI_ne0 h0 (by omega)) ⟨vp_in_nI ha (by decide), br_t (nI_le (a := f + m) (b := 8) hm (by decide)) ⟨vp_in_nI ha (by decide), fun x ex => ?_⟩⟩⟩)))
  subst ex
  exact ⟨m + 1, yn_l ha hb hm hp m 0 ce (by omega) hV⟩
theorem i_vc_unpack {k : Nat} {u : SX} {v : SY} (I : i_Rel k u v) (hk : k + 5 ≤ 2560) (v1 : Int32) (v2 : Int32) (v3 : Int32) (v4 : Int32) : wpX_unpack (fun r u' => wpY_unpack (fun r' v' => r' = r ∧ i_Rel (k + 5) u' v') v v1 v2 v3 (lw_bz v4)) u v1 v2 v3 (lw_bz v4) := by
  obtain ⟨F, fo, us, st, hd, ce, rfl, rfl, hX, hV, hH⟩ := sp_E I
  generalize lw_bz v4 = w
  rcases sp_c448 v1 v2 v3 with h | ⟨a, b, f, ha, hb, hf, rfl, rfl, rfl⟩
  · exact x_unpack_f h (y_unpack_f h ⟨rfl, sp_I hX hV hH⟩)
  · obtain ⟨m, hm, em⟩ := hH a ha
    by_cases h : m = 0 ∨ 8 < f + m
    · exact x_unpack_g ha hb hf hm em h (y_unpack_g ha hb hf hm em h ⟨rfl, sp_I hX hV hH⟩)
    · have h0 : 0 < m := by omega
      have h8 : f + m ≤ 8 := by omega
      have ca : (nI a).toNatClampNeg = a := nI_clamp (by omega)
      unfold wpX_unpack
      dsimp only
      refine xb_t (n := 4) ha (by decide) (br_f sp_10 (xp_t hb hf (br_f sp_10 ⟨vp_in_nI ha (by decide), fun x ex => ?_⟩)))
      rw [ca, em] at ex
      subst ex
      refine br_f (nI_ne0 h0 (by omega)) (xfi_t h8 (br_f sp_10 (xps (b := 0) (xss (xr (s := 32 + a * 8) (t := b * 8 + f) hX (by omega) (by omega) (fun fo' us' hX' => ?_))))))
      refine br_c (fun hw => ⟨vp_in_nI ha (by decide), fun h2 e2 => ?_⟩) (fun hw => ?_)
      · rw [ca] at e2
        subst e2
        exact y_unpack_t ha hb hf h0 h8 em hV (fun ce' hV' => br_t hw ⟨rfl, sp_I hX' hV' (sp_H_up (m := 0) hH (by omega))⟩)
      · exact y_unpack_t ha hb hf h0 h8 em hV (fun ce' hV' => br_f hw ⟨rfl, sp_I hX' hV' hH⟩)

/-! R: exchange, clear, size, peek, alike -/
theorem i_vc_exchange {k : Nat} {u : SX} {v : SY} (I : i_Rel k u v) (hk : k + 5 ≤ 2560) (v1 : Int32) (v2 : Int32) (v3 : Int32) : wpX_exchange (fun r u' => wpY_exchange (fun r' v' => r' = r ∧ i_Rel (k + 5) u' v') v v1 v2 v3) u v1 v2 v3 := by
  obtain ⟨F, fo, us, st, hd, ce, rfl, rfl, hX, hV, hH⟩ := sp_E I
  unfold wpX_exchange wpY_exchange
  dsimp only
  rcases sp_c2 v1 v2 with h | ⟨a, b, ha, hb, rfl, rfl⟩
  · exact xp_f h (br_t rfl (yb_f h (br_f sp_10 ⟨rfl, sp_I hX hV hH⟩)))
  · rcases sp_c v3 8 (by decide) with h | ⟨c, hc, rfl⟩
    · exact xp_t ha hb (br_f sp_10 (xp_f (Or.inr h) (br_t rfl (yb_t ha hb (br_t rfl (yb_f (Or.inr h) (br_f sp_10 ⟨rfl, sp_I hX hV hH⟩)))))))
    · have h1 : a * 8 + b < 64 := by omega
      have h2 : a * 8 + c < 64 := by omega
      have c1 : (nI (a * 8 + b)).toNatClampNeg = a * 8 + b := nI_clamp (by omega)
      have c2 : (nI (a * 8 + c)).toNatClampNeg = a * 8 + c := nI_clamp (by omega)
      refine xp_t ha hb (br_f sp_10 (xp_t ha hc (br_f sp_10 (xss (xss ⟨vp_in_nI h1 (by decide), fun x ex => ⟨vp_in_nI h2 (by decide), vp_in_nI h1 (by decide), fun f1 e1 => ⟨vp_in_nI h2 (by decide), fun f2 e2 => ?_⟩⟩⟩)))))
      rw [c1] at ex
      rw [c1, c2] at e1
      rw [c2] at e2
      subst e2 e1 ex
      refine yb_t ha hb (br_t rfl (yb_t ha hc (br_t rfl (yc 64 (a * 8 + b) rfl (sp_sl a b) (by omega) (by omega) (fun k1 hk1 => yc (a * 8 + b) (a * 8 + c) (sp_sl a b) (sp_sl a c) (by omega) (by omega) (fun k2 hk2 => yc (a * 8 + c) 64 (sp_sl a c) rfl (by omega) (by omega) (fun k3 hk3 => ?_)))))))
      exact ⟨rfl, sp_I (sp_X_sw hX h1 h2) (sp_V_sw hV h1 h2 hk1 hk2 hk3) hH⟩
theorem y_clear_t {post : Int32 → SY → Prop} {ce sz : Nat → Int32} {a b : Nat} (ha : a < 4) (hb : b < 8) (hp : ∀ ce', sp_z ce ce' (a * 8 + b) → post 0 (ce', sz)) : wpY_clear post (ce, sz) (nI a) (nI b) := by
  unfold wpY_clear
  dsimp only
  exact yb_t ha hb (br_t rfl ⟨5, yz ha hb hp 4 0 ce rfl sp_pz_0⟩)
theorem y_clear_f {post : Int32 → SY → Prop} {ce sz : Nat → Int32} {x y : Int32} (h : sp_o x 4 ∨ sp_o y 8) (p : post (-1) (ce, sz)) : wpY_clear post (ce, sz) x y := by
  unfold wpY_clear
  dsimp only
  exact yb_f h (br_f sp_10 p)
theorem i_vc_clear {k : Nat} {u : SX} {v : SY} (I : i_Rel k u v) (hk : k + 5 ≤ 2560) (v1 : Int32) (v2 : Int32) : wpX_clear (fun r u' => wpY_clear (fun r' v' => r' = r ∧ i_Rel (k + 5) u' v') v v1 v2) u v1 v2 := by
  obtain ⟨F, fo, us, st, hd, ce, rfl, rfl, hX, hV, hH⟩ := sp_E I
  unfold wpX_clear
  dsimp only
  rcases sp_c2 v1 v2 with h | ⟨a, b, ha, hb, rfl, rfl⟩
  · exact xp_f h (br_t rfl (y_clear_f h ⟨rfl, sp_I hX hV hH⟩))
  · have ht : a * 8 + b < 64 := by omega
    exact xp_t ha hb (br_f sp_10 (xss (xu hX hV ht (fun F' fo' us' st' hX' hV' hA hl => ⟨5, xz hl (fun st2 hz => y_clear_t ha hb (fun ce2 hz2 => ⟨rfl, sp_I hX' (sp_V_z hV' hA hz hz2) hH⟩)) 4 0 st' rfl sp_pz_0⟩))))
theorem i_vc_size {k : Nat} {u : SX} {v : SY} (I : i_Rel k u v) (hk : k + 5 ≤ 2560) (v1 : Int32) : wpX_size (fun r => wpY_size (fun r' => r' = r ∧ i_Rel (k + 5) u v) v v1) u v1 := by
  obtain ⟨F, fo, us, st, hd, ce, rfl, rfl, hX, hV, hH⟩ := sp_E I
  unfold wpX_size wpY_size
  dsimp only
  rcases sp_c v1 4 (by decide) with h | ⟨a, ha, rfl⟩
  · exact xb_f (n := 4) h (br_t rfl (yo_f (m := 3) h (by decide) (br_f sp_10 ⟨rfl, sp_I hX hV hH⟩)))
  · exact xb_t (n := 4) ha (by decide) (br_f sp_10 ⟨vp_in_nI ha (by decide), yo_t (m := 3) (by omega) (by decide) (br_t rfl ⟨vp_in_nI ha (by decide), rfl, sp_I hX hV hH⟩)⟩)
theorem y_peek_f {post : Int32 → Prop} {ce sz : Nat → Int32} {a m : Nat} {y z : Int32} (ha : a < 4) (em : sz a = nI m) (h : sp_o y m ∨ sp_o z 4) (p : post 0) : wpY_peek post (ce, sz) (nI a) y z := by
  have ca : (nI a).toNatClampNeg = a := nI_clamp (by omega)
  unfold wpY_peek
  dsimp only
  rw [ca, em]
  refine yo_t (m := 3) (by omega) (by decide) (br_t rfl ?_)
  by_cases h0 : y < 0
  · exact br_t h0 p
  · refine br_f h0 ⟨vp_in_nI ha (by decide), ?_⟩
    by_cases h1 : nI m ≤ y
    · exact br_t h1 p
    · refine br_f h1 ?_
      rcases h with (h | h) | h
      · exact absurd h h0
      · exact absurd h h1
      · exact yo_f (m := 3) h (by decide) (br_f sp_10 p)
theorem y_peek_t {post : Int32 → Prop} {ce sz : Nat → Int32} {a m b c : Nat} (ha : a < 4) (hm : m ≤ 8) (em : sz a = nI m) (hb : b < m) (hc : c < 4) (p : post (ce ((32 + a * 8 + b) * 4 + c))) : wpY_peek post (ce, sz) (nI a) (nI b) (nI c) := by
  have ca : (nI a).toNatClampNeg = a := nI_clamp (by omega)
  have it : vp_in (128 + 32 * nI a + 4 * nI b + nI c) 260 := by rw [sp_plc]; exact vp_in_nI (by omega) (by decide)
  have ct : (128 + 32 * nI a + 4 * nI b + nI c).toNatClampNeg = (32 + a * 8 + b) * 4 + c := by rw [sp_plc]; exact nI_clamp (by omega)
  unfold wpY_peek
  dsimp only
  rw [ca, em, ct]
  exact yo_t (m := 3) (by omega) (by decide) (br_t rfl (br_f (nI_pos (by omega)) ⟨vp_in_nI ha (by decide), br_f (nI_ge hb (by omega)) (yo_t (m := 3) (by omega) (by decide) (br_t rfl ⟨it, p⟩))⟩))
theorem i_vc_peek {k : Nat} {u : SX} {v : SY} (I : i_Rel k u v) (hk : k + 5 ≤ 2560) (v1 : Int32) (v2 : Int32) (v3 : Int32) : wpX_peek (fun r => wpY_peek (fun r' => r' = r ∧ i_Rel (k + 5) u v) v v1 v2 v3) u v1 v2 v3 := by
  obtain ⟨F, fo, us, st, hd, ce, rfl, rfl, hX, hV, hH⟩ := sp_E I
  rcases sp_c v1 4 (by decide) with h | ⟨a, ha, rfl⟩
  · unfold wpX_peek wpY_peek
    dsimp only
    exact xb_f (n := 4) h (br_t rfl (yo_f (m := 3) h (by decide) (br_f sp_10 ⟨rfl, sp_I hX hV hH⟩)))
  · obtain ⟨m, hm, em⟩ := hH a ha
    have ca : (nI a).toNatClampNeg = a := nI_clamp (by omega)
    unfold wpX_peek
    dsimp only
    rw [ca, em]
    rcases sp_c v3 4 (by decide) with h | ⟨c, hc, rfl⟩
    · exact xb_t (n := 4) ha (by decide) (br_f sp_10 (xb_f (n := 4) h (br_t rfl (y_peek_f ha em (Or.inr h) ⟨rfl, sp_I hX hV hH⟩))))
    · refine xb_t (n := 4) ha (by decide) (br_f sp_10 (xb_t (n := 4) hc (by decide) (br_f sp_10 ⟨vp_in_nI ha (by decide), ?_⟩)))
      rcases sp_c v2 m (by omega) with h | ⟨b, hb, rfl⟩
      · exact xb_f h (br_t rfl (y_peek_f ha em (Or.inl h) ⟨rfl, sp_I hX hV hH⟩))
      · have ht : 32 + a * 8 + b < 64 := by omega
        have hl := (hX.1 _ ht).2
        have e1 : fo (nI (32 + a * 8 + b)).toNatClampNeg = nI (F (32 + a * 8 + b)) := by rw [nI_clamp (by omega)]; exact (hX.1 _ ht).1
        have cl : (nI (F (32 + a * 8 + b)) * 4 + nI c).toNatClampNeg = F (32 + a * 8 + b) * 4 + c := sp_cl4 (by omega)
        refine xb_t hb (by omega) (br_f sp_10 (xps ⟨vp_in_nI ht (by decide), ?_⟩))
        rw [e1, cl]
        exact ⟨sp_in4 (by omega) (by decide), y_peek_t ha hm em hb hc ⟨(hV _ ht c hc).symm, sp_I hX hV hH⟩⟩
theorem i_vc_alike {k : Nat} {u : SX} {v : SY} (I : i_Rel k u v) (hk : k + 5 ≤ 2560) (v1 : Int32) (v2 : Int32) : wpX_alike (fun r => wpY_alike (fun r' => r' = r ∧ i_Rel (k + 5) u v) v v1 v2) u v1 v2 := by
  obtain ⟨F, fo, us, st, hd, ce, rfl, rfl, hX, hV, hH⟩ := sp_E I
  unfold wpX_alike wpY_alike
  dsimp only
  rcases sp_c v1 4 (by decide) with h | ⟨a, ha, rfl⟩
  · exact xb_f (n := 4) h (br_t rfl (yo_f (m := 3) h (by decide) (br_f sp_10 ⟨rfl, sp_I hX hV hH⟩)))
  · rcases sp_c v2 4 (by decide) with h | ⟨b, hb, rfl⟩
    · exact xb_t (n := 4) ha (by decide) (br_f sp_10 (xb_f (n := 4) h (br_t rfl (yo_t (m := 3) (by omega) (by decide) (br_t rfl (yo_f (m := 3) h (by decide) (br_f sp_10 ⟨rfl, sp_I hX hV hH⟩)))))))
    · refine xb_t (n := 4) ha (by decide) (br_f sp_10 (xb_t (n := 4) hb (by decide) (br_f sp_10 ⟨9, xa_l hX hV ha hb ?_ 8 0 rfl⟩)))
      exact yo_t (m := 3) (by omega) (by decide) (br_t rfl (yo_t (m := 3) (by omega) (by decide) (br_t rfl ⟨9, ya_l ha hb ⟨rfl, sp_I hX hV hH⟩ 8 0 rfl⟩)))
