/-! N: the relation -/
def sp_H (h : Nat → Int32) : Prop := ∀ p, p < 4 → ∃ m, m ≤ 8 ∧ h p = nI m
theorem sp_H_up {h : Nat → Int32} (hh : sp_H h) {a m : Nat} (hm : m ≤ 8) : sp_H (upd h a (nI m)) := by
  intro p hp
  by_cases e : p = a
  · subst e
    exact ⟨m, hm, pk_us⟩
  · rw [pk_un e]
    exact hh p hp
/-- each slot names a frame whose cells are the reference's page, the counts are right, the parcels hold the same -/
def i_Rel (_ : Nat) (u : SX) (v : SY) : Prop := ∃ F : Nat → Nat, sp_X F u.1 u.2.1 ∧ sp_V F u.2.2.1 v.1 ∧ u.2.2.2 = v.2 ∧ sp_H v.2
theorem sp_I {k : Nat} {F : Nat → Nat} {fo us st hd ce : Nat → Int32} (hX : sp_X F fo us) (hV : sp_V F st ce) (hH : sp_H hd) : i_Rel k (fo, us, st, hd) (ce, hd) := ⟨F, hX, hV, rfl, hH⟩
theorem sp_E {k : Nat} {u : SX} {v : SY} (I : i_Rel k u v) : ∃ (F : Nat → Nat) (fo us st hd ce : Nat → Int32), u = (fo, us, st, hd) ∧ v = (ce, hd) ∧ sp_X F fo us ∧ sp_V F st ce ∧ sp_H hd := by
  obtain ⟨fo, us, st, hd⟩ := u
  obtain ⟨ce, sz⟩ := v
  obtain ⟨F, hX, hV, e, hH⟩ := I
  have e' : hd = sz := e
  subst e'
  exact ⟨F, fo, us, st, hd, ce, rfl, rfl, hX, hV, hH⟩
theorem i_up {k : Nat} {u : SX} {v : SY} (h : i_Rel k u v) : i_Rel (k + 5) u v := h
theorem sp_cn_c0 : ∀ n, sp_cn (fun _ => 0) 0 n = n := by
  intro n
  induction n with
  | zero => rfl
  | succ n ih => rw [sp_cs, ih, sp_d1 rfl]
theorem sp_cn_c1 {f : Nat} (h : 0 ≠ f) : ∀ n, sp_cn (fun _ => 0) f n = 0 := by
  intro n
  induction n with
  | zero => rfl
  | succ n ih => rw [sp_cs, ih, sp_d0 h]
theorem i_vc0 : wpX_init (fun u => wpY_init (fun v => i_Rel 0 u v)) := by
  intro us e
  subst e
  refine sp_I (k := 0) (F := fun _ => 0) ⟨fun s _ => ⟨rfl, Nat.zero_lt_succ 63⟩, fun f hf => ?_⟩ (fun s _ c _ => rfl) (fun p _ => ⟨0, by omega, rfl⟩)
  by_cases q : f = 0
  · subst q
    rw [pk_us, sp_cn_c0]
    rfl
  · rw [pk_un q, sp_cn_c1 (fun z => q z.symm)]
    rfl

/-! O: one method after the other: the class's walk, the reference's walk, the two together -/
theorem x_write_f {post : Int32 → SX → Prop} {fo us st hd : Nat → Int32} {x y z w : Int32} (h : (sp_o x 4 ∨ sp_o y 8) ∨ sp_o z 4) (p : post (-1) (fo, us, st, hd)) : wpX_write post (fo, us, st, hd) x y z w := by
  unfold wpX_write
  dsimp only
  rcases sp_c x 4 (by decide) with hx | ⟨a, ha, rfl⟩
  · exact xp_f (Or.inl hx) (br_t rfl p)
  · rcases sp_c y 8 (by decide) with hy | ⟨b, hb, rfl⟩
    · exact xp_f (Or.inr hy) (br_t rfl p)
    · rcases h with h | h
      · exact xp_f h (br_t rfl p)
      · exact xp_t ha hb (br_f sp_10 (xb_f (n := 4) h (br_t rfl p)))
theorem y_write_f {post : Int32 → SY → Prop} {ce sz : Nat → Int32} {x y z w : Int32} (h : (sp_o x 4 ∨ sp_o y 8) ∨ sp_o z 4) (p : post (-1) (ce, sz)) : wpY_write post (ce, sz) x y z w := by
  unfold wpY_write
  dsimp only
  rcases sp_c x 4 (by decide) with hx | ⟨a, ha, rfl⟩
  · exact yb_f (Or.inl hx) (br_f sp_10 p)
  · rcases sp_c y 8 (by decide) with hy | ⟨b, hb, rfl⟩
    · exact yb_f (Or.inr hy) (br_f sp_10 p)
    · rcases h with h | h
      · exact yb_f h (br_f sp_10 p)
      · exact yb_t ha hb (br_t rfl (yo_f (m := 3) h (by decide) (br_f sp_10 p)))
/-- three arguments that are a space, a page and a cell, or not -/
theorem sp_c3 (x y z : Int32) : ((sp_o x 4 ∨ sp_o y 8) ∨ sp_o z 4) ∨ ∃ a b c : Nat, a < 4 ∧ b < 8 ∧ c < 4 ∧ x = nI a ∧ y = nI b ∧ z = nI c := by
  rcases sp_c x 4 (by decide) with hx | ⟨a, ha, ea⟩
  · exact Or.inl (Or.inl (Or.inl hx))
  · rcases sp_c y 8 (by decide) with hy | ⟨b, hb, eb⟩
    · exact Or.inl (Or.inl (Or.inr hy))
    · rcases sp_c z 4 (by decide) with hz | ⟨c, hc, ec⟩
      · exact Or.inl (Or.inr hz)
      · exact Or.inr ⟨a, b, c, ha, hb, hc, ea, eb, ec⟩
theorem sp_c2 (x y : Int32) : (sp_o x 4 ∨ sp_o y 8) ∨ ∃ a b : Nat, a < 4 ∧ b < 8 ∧ x = nI a ∧ y = nI b := by
  rcases sp_c x 4 (by decide) with hx | ⟨a, ha, ea⟩
  · exact Or.inl (Or.inl hx)
  · rcases sp_c y 8 (by decide) with hy | ⟨b, hb, eb⟩
    · exact Or.inl (Or.inr hy)
    · exact Or.inr ⟨a, b, ha, hb, ea, eb⟩
theorem y_write_t {post : Int32 → SY → Prop} {ce sz : Nat → Int32} {a b c : Nat} {w : Int32} (ha : a < 4) (hb : b < 8) (hc : c < 4) (p : post 0 (upd ce ((a * 8 + b) * 4 + c) w, sz)) : wpY_write post (ce, sz) (nI a) (nI b) (nI c) w := by
  have it : vp_in (32 * nI a + 4 * nI b + nI c) 260 := by rw [sp_slc]; exact vp_in_nI (by omega) (by decide)
  have ct : (32 * nI a + 4 * nI b + nI c).toNatClampNeg = (a * 8 + b) * 4 + c := by rw [sp_slc]; exact nI_clamp (by omega)
  unfold wpY_write
  dsimp only
  refine yb_t ha hb (br_t rfl (yo_t (m := 3) (by omega) (by decide) (br_t rfl ⟨it, fun k ek => ?_⟩)))
  rw [ct] at ek
  subst ek
  exact p
theorem i_vc_write {k : Nat} {u : SX} {v : SY} (I : i_Rel k u v) (hk : k + 5 ≤ 2560) (v1 : Int32) (v2 : Int32) (v3 : Int32) (v4 : Int32) : wpX_write (fun r u' => wpY_write (fun r' v' => r' = r ∧ i_Rel (k + 5) u' v') v v1 v2 v3 v4) u v1 v2 v3 v4 := by
  obtain ⟨F, fo, us, st, hd, ce, rfl, rfl, hX, hV, hH⟩ := sp_E I
  rcases sp_c3 v1 v2 v3 with h | ⟨a, b, c, ha, hb, hc, rfl, rfl, rfl⟩
  · exact x_write_f h (y_write_f h ⟨rfl, sp_I hX hV hH⟩)
  · have ht : a * 8 + b < 64 := by omega
    unfold wpX_write
    dsimp only
    refine xp_t ha hb (br_f sp_10 (xb_t (n := 4) hc (by decide) (br_f sp_10 (xss (xu hX hV ht (fun F' fo' us' st' hX' hV' hA hl => ⟨sp_in4 (by omega) (by decide), fun s2 e2 => ?_⟩))))))
    have cl : (nI (F' (a * 8 + b)) * 4 + nI c).toNatClampNeg = F' (a * 8 + b) * 4 + c := sp_cl4 (by omega)
    rw [cl] at e2
    subst e2
    exact y_write_t ha hb hc ⟨rfl, sp_I hX' (sp_V_put hV' hA hc) hH⟩
theorem i_vc_read {k : Nat} {u : SX} {v : SY} (I : i_Rel k u v) (hk : k + 5 ≤ 2560) (v1 : Int32) (v2 : Int32) (v3 : Int32) : wpX_read (fun r => wpY_read (fun r' => r' = r ∧ i_Rel (k + 5) u v) v v1 v2 v3) u v1 v2 v3 := by
  obtain ⟨F, fo, us, st, hd, ce, rfl, rfl, hX, hV, hH⟩ := sp_E I
  unfold wpX_read wpY_read
  dsimp only
  rcases sp_c2 v1 v2 with h | ⟨a, b, ha, hb, rfl, rfl⟩
  · exact xp_f h (br_t rfl (yb_f h (br_f sp_10 ⟨rfl, sp_I hX hV hH⟩)))
  · rcases sp_c v3 4 (by decide) with h | ⟨c, hc, rfl⟩
    · exact xp_t ha hb (br_f sp_10 (xb_f (n := 4) h (br_t rfl (yb_t ha hb (br_t rfl (yo_f (m := 3) h (by decide) (br_f sp_10 ⟨rfl, sp_I hX hV hH⟩)))))))
    · have ht : a * 8 + b < 64 := by omega
      have hl := (hX.1 _ ht).2
      have e1 : fo (nI (a * 8 + b)).toNatClampNeg = nI (F (a * 8 + b)) := by rw [nI_clamp (by omega)]; exact (hX.1 _ ht).1
      have cl : (nI (F (a * 8 + b)) * 4 + nI c).toNatClampNeg = F (a * 8 + b) * 4 + c := sp_cl4 (by omega)
      have it : vp_in (32 * nI a + 4 * nI b + nI c) 260 := by rw [sp_slc]; exact vp_in_nI (by omega) (by decide)
      have ct : (32 * nI a + 4 * nI b + nI c).toNatClampNeg = (a * 8 + b) * 4 + c := by rw [sp_slc]; exact nI_clamp (by omega)
      refine xp_t ha hb (br_f sp_10 (xb_t (n := 4) hc (by decide) (br_f sp_10 (xss ⟨vp_in_nI ht (by decide), ?_⟩))))
      rw [e1, cl]
      refine ⟨sp_in4 (by omega) (by decide), yb_t ha hb (br_t rfl (yo_t (m := 3) (by omega) (by decide) (br_t rfl ⟨it, ?_, sp_I hX hV hH⟩)))⟩
      rw [ct]
      exact (hV _ ht c hc).symm
theorem sp_c44 (x y : Int32) : (sp_o x 4 ∨ sp_o y 4) ∨ ∃ a b : Nat, a < 4 ∧ b < 4 ∧ x = nI a ∧ y = nI b := by
  rcases sp_c x 4 (by decide) with hx | ⟨a, ha, ea⟩
  · exact Or.inl (Or.inl hx)
  · rcases sp_c y 4 (by decide) with hy | ⟨b, hb, eb⟩
    · exact Or.inl (Or.inr hy)
    · exact Or.inr ⟨a, b, ha, hb, ea, eb⟩
theorem x_fork_f {post : Int32 → SX → Prop} {fo us st hd : Nat → Int32} {x y : Int32} (h : sp_o x 4 ∨ sp_o y 4) (p : post (-1) (fo, us, st, hd)) : wpX_fork post (fo, us, st, hd) x y := by
  unfold wpX_fork
  dsimp only
  rcases sp_c x 4 (by decide) with hx | ⟨a, ha, rfl⟩
  · exact xb_f (n := 4) hx (br_t rfl p)
  · rcases h with h | h
    · exact xb_f (n := 4) h (br_t rfl p)
    · exact xb_t (n := 4) ha (by decide) (br_f sp_10 (xb_f (n := 4) h (br_t rfl p)))
theorem y_fork_f {post : Int32 → SY → Prop} {ce sz : Nat → Int32} {x y : Int32} (h : sp_o x 4 ∨ sp_o y 4) (p : post (-1) (ce, sz)) : wpY_fork post (ce, sz) x y := by
  unfold wpY_fork
  dsimp only
  rcases sp_c x 4 (by decide) with hx | ⟨a, ha, rfl⟩
  · exact yo_f (m := 3) hx (by decide) (br_f sp_10 p)
  · rcases h with h | h
    · exact yo_f (m := 3) h (by decide) (br_f sp_10 p)
    · exact yo_t (m := 3) (by omega) (by decide) (br_t rfl (yo_f (m := 3) h (by decide) (br_f sp_10 p)))
theorem y_fork_t {post : Int32 → SY → Prop} {F : Nat → Nat} {st ce sz : Nat → Int32} {a b : Nat} (ha : a < 4) (hb : b < 4) (hV : sp_V F st ce) (hp : ∀ ce', sp_V (sp_run F (a * 8) (b * 8) 8) st ce' → post 0 (ce', sz)) : wpY_fork post (ce, sz) (nI a) (nI b) := by
  unfold wpY_fork
  dsimp only
  exact yo_t (m := 3) (by omega) (by decide) (br_t rfl (yo_t (m := 3) (by omega) (by decide) (br_t rfl ⟨9, yf_l ha hb hp 8 0 ce rfl hV⟩)))
theorem i_vc_fork {k : Nat} {u : SX} {v : SY} (I : i_Rel k u v) (hk : k + 5 ≤ 2560) (v1 : Int32) (v2 : Int32) : wpX_fork (fun r u' => wpY_fork (fun r' v' => r' = r ∧ i_Rel (k + 5) u' v') v v1 v2) u v1 v2 := by
  obtain ⟨F, fo, us, st, hd, ce, rfl, rfl, hX, hV, hH⟩ := sp_E I
  rcases sp_c44 v1 v2 with h | ⟨a, b, ha, hb, rfl, rfl⟩
  · exact x_fork_f h (y_fork_f h ⟨rfl, sp_I hX hV hH⟩)
  · unfold wpX_fork
    dsimp only
    refine xb_t (n := 4) ha (by decide) (br_f sp_10 (xb_t (n := 4) hb (by decide) (br_f sp_10 (xss (b := 0) (xss (b := 0) (xr (s := a * 8) (t := b * 8) (m := 8) hX (by omega) (by omega) (fun fo' us' hX' => ?_)))))))
    exact y_fork_t ha hb hV (fun ce' hV' => ⟨rfl, sp_I hX' hV' hH⟩)
