/-! E: small facts on numbers and indices -/
def sp_o (x : Int32) (n : Nat) : Prop := x < 0 ∨ nI n ≤ x
theorem sp_c (x : Int32) (n : Nat) (hn : n < 2 ^ 31) : sp_o x n ∨ ∃ j : Nat, j < n ∧ x = nI j := by
  rcases pk_ix x hn with h | h | h
  · exact Or.inl (Or.inl h)
  · exact Or.inl (Or.inr h)
  · exact Or.inr h
theorem sp_10 : ¬ (1 : Int32) = 0 := by decide
theorem sp_le4 {c : Nat} (h : 4 ≤ c) (hc : c < 2 ^ 31) : (4 : Int32) ≤ nI c := nI_le (a := 4) h hc
theorem sp_nle4 {c : Nat} (h : c < 4) : ¬ (4 : Int32) ≤ nI c := nI_ge (b := 4) h (by decide)
theorem sp_le8 {c : Nat} (h : 8 ≤ c) (hc : c < 2 ^ 31) : (8 : Int32) ≤ nI c := nI_le (a := 8) h hc
theorem sp_nle8 {c : Nat} (h : c < 8) : ¬ (8 : Int32) ≤ nI c := nI_ge (b := 8) h (by decide)
theorem sp_ix4 (g c : Nat) : nI g * 4 + nI c = nI (g * 4 + c) := by
  rw [show (4 : Int32) = nI 4 from rfl, pk_mul, nI_add]
theorem sp_cl4 {g c : Nat} (h : g * 4 + c < 2 ^ 31) : (nI g * 4 + nI c).toNatClampNeg = g * 4 + c := by
  rw [sp_ix4, nI_clamp h]
theorem sp_in4 {g c N : Nat} (h : g * 4 + c < N) (hN : N < 2 ^ 31) : vp_in (nI g * 4 + nI c) N := by
  rw [sp_ix4]
  exact vp_in_nI h hN
theorem sp_ix8 (g c : Nat) : nI g * 8 + nI c = nI (g * 8 + c) := by
  rw [show (8 : Int32) = nI 8 from rfl, pk_mul, nI_add]
theorem sp_ixp (g c : Nat) : 32 + nI g * 8 + nI c = nI (32 + g * 8 + c) := by
  rw [show (8 : Int32) = nI 8 from rfl, show (32 : Int32) = nI 32 from rfl, pk_mul, nI_add, nI_add]
/-- the copy of page s onto page t after c cells -/
def sp_pc (a a' : Nat → Int32) (t s c : Nat) : Prop := (∀ d, d < c → a' (t * 4 + d) = a (s * 4 + d)) ∧ (∀ j, (j < t * 4 ∨ t * 4 + c ≤ j) → a' j = a j)
theorem sp_pc_0 {a : Nat → Int32} {t s : Nat} : sp_pc a a t s 0 := ⟨fun d hd => by omega, fun _ _ => rfl⟩
theorem sp_pc_s {a a' : Nat → Int32} {t s c : Nat} (h : sp_pc a a' t s c) (hc : c < 4) : sp_pc a (upd a' (t * 4 + c) (a' (s * 4 + c))) t s (c + 1) := by
  have e : a' (s * 4 + c) = a (s * 4 + c) := h.2 _ (by omega)
  refine ⟨fun d hd => ?_, fun j hj => ?_⟩
  · by_cases q : d = c
    · subst q
      rw [pk_us, e]
    · rw [pk_un (by omega)]
      exact h.1 d (by omega)
  · rw [pk_un (by omega)]
    exact h.2 j (by omega)
theorem sp_pc_4 {a a' : Nat → Int32} {t s : Nat} (h : sp_pc a a' t s 4) : sp_cp a a' t s := h
/-- page t's first c cells are 0 now -/
def sp_pz (a a' : Nat → Int32) (t c : Nat) : Prop := (∀ d, d < c → a' (t * 4 + d) = 0) ∧ (∀ j, (j < t * 4 ∨ t * 4 + c ≤ j) → a' j = a j)
theorem sp_pz_0 {a : Nat → Int32} {t : Nat} : sp_pz a a t 0 := ⟨fun d hd => by omega, fun _ _ => rfl⟩
theorem sp_pz_s {a a' : Nat → Int32} {t c : Nat} (h : sp_pz a a' t c) : sp_pz a (upd a' (t * 4 + c) 0) t (c + 1) := by
  refine ⟨fun d hd => ?_, fun j hj => ?_⟩
  · by_cases q : d = c
    · subst q
      rw [pk_us]
    · rw [pk_un (by omega)]
      exact h.1 d (by omega)
  · rw [pk_un (by omega)]
    exact h.2 j (by omega)
theorem sp_pz_4 {a a' : Nat → Int32} {t : Nat} (h : sp_pz a a' t 4) : sp_z a a' t := h

/-! F: the class's small methods -/
theorem xb_t {post : Int32 → Prop} {j n : Nat} (h : j < n) (hn : n < 2 ^ 31) (p : post 1) : wpX_isBelow post (nI j) (nI n) :=
  br_f (nI_pos (by omega)) (br_f (nI_ge h hn) p)
theorem xb_f {post : Int32 → Prop} {x : Int32} {n : Nat} (h : sp_o x n) (p : post 0) : wpX_isBelow post x (nI n) := by
  by_cases h0 : x < 0
  · exact br_t h0 p
  · rcases h with h | h
    · exact absurd h h0
    · exact br_f h0 (br_t h p)
theorem xp_t {post : Int32 → Prop} {a b : Nat} (ha : a < 4) (hb : b < 8) (p : post 1) : wpX_isSpacePage post (nI a) (nI b) := by
  unfold wpX_isSpacePage
  exact xb_t (n := 4) ha (by decide) (br_f sp_10 (xb_t (n := 8) hb (by decide) (br_f sp_10 p)))
theorem xp_f {post : Int32 → Prop} {x y : Int32} (h : sp_o x 4 ∨ sp_o y 8) (p : post 0) : wpX_isSpacePage post x y := by
  unfold wpX_isSpacePage
  rcases sp_c x 4 (by decide) with hx | ⟨a, ha, rfl⟩
  · exact xb_f (n := 4) hx (br_t rfl p)
  · rcases h with h | h
    · exact xb_f (n := 4) h (br_t rfl p)
    · exact xb_t (n := 4) ha (by decide) (br_f sp_10 (xb_f (n := 8) h (br_t rfl p)))
theorem xss {post : Int32 → Prop} {a b : Nat} (p : post (nI (a * 8 + b))) : wpX_spaceSlot post (nI a) (nI b) := by
  unfold wpX_spaceSlot
  rw [sp_ix8]
  exact p
theorem xps {post : Int32 → Prop} {a b : Nat} (p : post (nI (32 + a * 8 + b))) : wpX_parcelSlot post (nI a) (nI b) := by
  unfold wpX_parcelSlot
  rw [sp_ixp]
  exact p
theorem xfi_t {post : Int32 → Prop} {f m : Nat} (h : f + m ≤ 8) (p : post 1) : wpX_fits post (nI f) (nI m) := by
  unfold wpX_fits
  have e : (8 : Int32) - nI f = nI (8 - f) := pk_sub (a := 8) (by omega)
  rw [e]
  exact br_f (nI_nlt (by omega) (by omega)) p
theorem xfi_f {post : Int32 → Prop} {f m : Nat} (hf : f < 8) (hm : m < 2 ^ 31) (h : 8 < f + m) (p : post 0) : wpX_fits post (nI f) (nI m) := by
  unfold wpX_fits
  have e : (8 : Int32) - nI f = nI (8 - f) := pk_sub (a := 8) (by omega)
  rw [e]
  exact br_t (nI_lt (by omega) hm) p

/-! G: a frame that no slot names -/
theorem xf {post : Int32 → Prop} {fo us st hd : Nat → Int32} (hp : ∀ g, g ≤ 63 → (∀ f, f < g → ¬ us f = 0) → (g < 63 → us g = 0) → post (nI g)) : ∀ d i : Nat, i + d = 63 → (∀ f, f < i → ¬ us f = 0) → wX_unusedFrame_2 post fo us st hd (d + 1) (nI i) := by
  intro d
  induction d with
  | zero =>
    intro i hi h
    exact br_t (nI_le (a := 63) (by omega) (by omega)) (hp i (by omega) h (fun q => by omega))
  | succ d ih =>
    intro i hi h
    have ci : (nI i).toNatClampNeg = i := nI_clamp (by omega)
    refine br_f (nI_ge (b := 63) (by omega) (by decide)) ⟨vp_in_nI (by omega) (by decide), ?_⟩
    by_cases z : us i = 0
    · exact br_t (by rw [ci]; exact z) (hp i (by omega) h (fun _ => z))
    · refine br_f (by rw [ci]; exact z) (fun y ey => ?_)
      rw [ey, nI_1 i]
      exact ih (i + 1) (by omega) (lt_s h z)
theorem xfu {post : Int32 → Prop} {F : Nat → Nat} {fo us st hd : Nat → Int32} (hX : sp_X F fo us) {x : Nat} (hx : x < 64) (h2 : 2 ≤ sp_cn F x 64) (hp : ∀ g, g < 64 → sp_cn F g 64 = 0 → post (nI g)) : wpX_unusedFrame post (fo, us, st, hd) := by
  have ez : ∀ f, f < 64 → (us f = 0 ↔ sp_cn F f 64 = 0) := by
    intro f hf
    have hl := sp_cn_le (F := F) (f := f) 64
    rw [hX.2 f hf, ← nI_0, nI_eq (by omega) (by omega)]
  refine ⟨64, xf (fun g hg hn hz => ?_) 63 0 rfl lt_0⟩
  refine hp g (by omega) ?_
  by_cases q : g < 63
  · exact (ez g (by omega)).mp (hz q)
  · have e : g = 63 := by omega
    subst e
    exact sp_pig (fun s hs => (hX.1 s hs).2) hx h2 (fun f hf z => hn f hf ((ez f (by omega)).mpr z))

/-! H: a slot's own frame -/
theorem xc {post : Int32 → SX → Prop} {fo us st hd : Nat → Int32} {t f g : Nat} (ht : t < 64) (hf : f < 64) (hg : g < 64) (hp : ∀ st', sp_cp st st' g f → post (nI g) (upd fo t (nI g), upd (upd us f (us f - 1)) g 1, st', hd)) : ∀ (d c : Nat) (s1 : Nat → Int32), c + d = 4 → sp_pc st s1 g f c → wX_unsharedFrame_27 post (nI t) (nI f) (nI g) (d + 1) (nI c) fo us s1 hd := by
  have ct : (nI t).toNatClampNeg = t := nI_clamp (by omega)
  have cf : (nI f).toNatClampNeg = f := nI_clamp (by omega)
  have cg : (nI g).toNatClampNeg = g := nI_clamp (by omega)
  intro d
  induction d with
  | zero =>
    intro c s1 hc hs
    have e : c = 4 := by omega
    subst e
    refine br_t (sp_le4 (by omega) (by omega)) ⟨vp_in_nI hf (by decide), vp_in_nI hf (by decide), fun a1 e1 => ⟨vp_in_nI hg (by decide), fun a2 e2 => ⟨vp_in_nI ht (by decide), fun a3 e3 => ?_⟩⟩⟩
    rw [cf] at e1
    rw [cg] at e2
    rw [ct] at e3
    subst e3 e2 e1
    exact hp s1 (sp_pc_4 hs)
  | succ d ih =>
    intro c s1 hc hs
    have kf : (nI f * 4 + nI c).toNatClampNeg = f * 4 + c := sp_cl4 (by omega)
    have kg : (nI g * 4 + nI c).toNatClampNeg = g * 4 + c := sp_cl4 (by omega)
    refine br_f (sp_nle4 (by omega)) ⟨sp_in4 (by omega) (by decide), sp_in4 (by omega) (by decide), fun s2 e2 y ey => ?_⟩
    rw [kf, kg] at e2
    rw [ey, nI_1 c]
    subst e2
    exact ih (c + 1) _ (by omega) (sp_pc_s hs (by omega))
theorem xu {post : Int32 → SX → Prop} {F : Nat → Nat} {fo us st hd ce : Nat → Int32} (hX : sp_X F fo us) (hV : sp_V F st ce) {t : Nat} (ht : t < 64) (hp : ∀ (F' : Nat → Nat) (fo' us' st' : Nat → Int32), sp_X F' fo' us' → sp_V F' st' ce → sp_A F' t → F' t < 64 → post (nI (F' t)) (fo', us', st', hd)) : wpX_unsharedFrame post (fo, us, st, hd) (nI t) := by
  have ct : (nI t).toNatClampNeg = t := nI_clamp (by omega)
  have hf1 := (hX.1 t ht).1
  have hf2 := (hX.1 t ht).2
  have cf : (nI (F t)).toNatClampNeg = F t := nI_clamp (by omega)
  have hu := hX.2 (F t) hf2
  have hl := sp_cn_le (F := F) (f := F t) 64
  have hpos := sp_cn_pos (F := F) (f := F t) rfl 64 ht
  refine ⟨vp_in_nI ht (by decide), fun x ex => ?_⟩
  rw [ct, hf1] at ex
  subst ex
  refine ⟨vp_in_nI hf2 (by decide), ?_⟩
  by_cases h1 : sp_cn F (F t) 64 = 1
  · have z : us (nI (F t)).toNatClampNeg = 1 := by rw [cf, hu, h1]; rfl
    exact br_t z (hp F fo us st hX hV (sp_alone ht h1) hf2)
  · have z : ¬ us (nI (F t)).toNatClampNeg = 1 := by
      rw [cf, hu]
      intro q
      exact h1 ((nI_eq (b := 1) (by omega) (by omega)).mp q)
    refine br_f z (xfu hX hf2 (by omega) (fun g hg hz => ?_))
    have hn := sp_cn_none hz
    refine ⟨5, xc ht hf2 hg (fun st' hc => ?_) 4 0 st rfl sp_pc_0⟩
    have hX' := sp_X_fresh hX ht hg hn hz
    have hV' := sp_V_fresh (t := t) hV hn hc
    have hq := hp (sp_up F t g) _ _ st' hX' hV' (sp_A_fresh hn) (by rw [sp_us]; exact hg)
    rw [sp_us] at hq
    exact hq

/-! I: sharing -/
theorem xs {post : SX → Prop} {F : Nat → Nat} {fo us st hd : Nat → Int32} (hX : sp_X F fo us) {s t : Nat} (hs : s < 64) (ht : t < 64) (hp : ∀ fo' us', sp_X (sp_up F t (F s)) fo' us' → post (fo', us', st, hd)) : wpX_share post (fo, us, st, hd) (nI s) (nI t) := by
  have ct : (nI t).toNatClampNeg = t := nI_clamp (by omega)
  have cs : (nI s).toNatClampNeg = s := nI_clamp (by omega)
  have ht2 := (hX.1 t ht).2
  have hs2 := (hX.1 s hs).2
  have cft : (nI (F t)).toNatClampNeg = F t := nI_clamp (by omega)
  have cfs : (nI (F s)).toNatClampNeg = F s := nI_clamp (by omega)
  have et : fo (nI t).toNatClampNeg = nI (F t) := by rw [ct]; exact (hX.1 t ht).1
  have it : vp_in (fo (nI t).toNatClampNeg) 64 := by rw [et]; exact vp_in_nI ht2 (by decide)
  have is : vp_in (nI (F s)) 64 := vp_in_nI hs2 (by decide)
  refine ⟨vp_in_nI hs (by decide), fun x ex => ?_⟩
  rw [cs, (hX.1 s hs).1] at ex
  subst ex
  refine ⟨vp_in_nI ht (by decide), it, it, fun a6 e6 => ⟨is, is, fun a9 e9 => ⟨vp_in_nI ht (by decide), fun f11 e11 => ?_⟩⟩⟩
  rw [et, cft] at e6
  rw [cfs] at e9
  rw [ct] at e11
  subst e11 e9 e6
  exact hp _ _ (sp_X_share hX hs ht)
theorem xr_l {post : SX → Prop} {F : Nat → Nat} {st hd : Nat → Int32} {s t m : Nat} (hs : s + m ≤ 64) (ht : t + m ≤ 64) (hp : ∀ fo' us', sp_X (sp_run F s t m) fo' us' → post (fo', us', st, hd)) : ∀ (d k : Nat) (fo us : Nat → Int32), k + d = m → sp_X (sp_run F s t k) fo us → wX_shareRun_3 post (nI s) (nI t) (nI m) (d + 1) (nI k) fo us st hd := by
  intro d
  induction d with
  | zero =>
    intro k fo us hk h
    have e : k = m := by omega
    subst e
    exact br_t (nI_le (Nat.le_refl k) (by omega)) (hp fo us h)
  | succ d ih =>
    intro k fo us hk h
    refine br_f (nI_ge (by omega) (by omega)) ?_
    rw [nI_add s k, nI_add t k]
    refine xs h (by omega) (by omega) (fun fo' us' h' y ey => ?_)
    rw [ey, nI_1 k]
    exact ih (k + 1) fo' us' (by omega) h'
theorem xr {post : SX → Prop} {F : Nat → Nat} {fo us st hd : Nat → Int32} (hX : sp_X F fo us) {s t m : Nat} (hs : s + m ≤ 64) (ht : t + m ≤ 64) (hp : ∀ fo' us', sp_X (sp_run F s t m) fo' us' → post (fo', us', st, hd)) : wpX_shareRun post (fo, us, st, hd) (nI s) (nI t) (nI m) :=
  ⟨m + 1, xr_l hs ht hp m 0 fo us (by omega) hX⟩

/-! J: clear's loop; two frames compared -/
theorem xz {post : Int32 → SX → Prop} {fo us st hd : Nat → Int32} {g : Nat} (hg : g < 64) (hp : ∀ st', sp_z st st' g → post 0 (fo, us, st', hd)) : ∀ (d c : Nat) (s1 : Nat → Int32), c + d = 4 → sp_pz st s1 g c → wX_clear_26 post (nI g) (d + 1) (nI c) fo us s1 hd := by
  intro d
  induction d with
  | zero =>
    intro c s1 hc hs
    have e : c = 4 := by omega
    subst e
    exact br_t (sp_le4 (by omega) (by omega)) (hp s1 (sp_pz_4 hs))
  | succ d ih =>
    intro c s1 hc hs
    have kg : (nI g * 4 + nI c).toNatClampNeg = g * 4 + c := sp_cl4 (by omega)
    refine br_f (sp_nle4 (by omega)) ⟨sp_in4 (by omega) (by decide), fun s2 e2 y ey => ?_⟩
    rw [kg] at e2
    rw [ey, nI_1 c]
    subst e2
    exact ih (c + 1) _ (by omega) (sp_pz_s hs)
theorem xv_l {post : Int32 → Prop} {fo us st hd : Nat → Int32} {f g : Nat} (hf : f < 64) (hg : g < 64) (hp : post (sp_e st f g 4)) : ∀ d c : Nat, c + d = 4 → (∀ e, e < c → st (f * 4 + e) = st (g * 4 + e)) → wX_sameValues_2 post (nI f) (nI g) fo us st hd (d + 1) (nI c) := by
  intro d
  induction d with
  | zero =>
    intro c hc h
    have e : c = 4 := by omega
    subst e
    rw [sp_e_1 4 h] at hp
    exact br_t (sp_le4 (by omega) (by omega)) hp
  | succ d ih =>
    intro c hc h
    have kf : (nI f * 4 + nI c).toNatClampNeg = f * 4 + c := sp_cl4 (by omega)
    have kg : (nI g * 4 + nI c).toNatClampNeg = g * 4 + c := sp_cl4 (by omega)
    refine br_f (sp_nle4 (by omega)) ⟨sp_in4 (by omega) (by decide), sp_in4 (by omega) (by decide), ?_⟩
    by_cases q : st (f * 4 + c) = st (g * 4 + c)
    · refine br_t (by rw [kf, kg]; exact q) (fun y ey => ?_)
      rw [ey, nI_1 c]
      exact ih (c + 1) (by omega) (lt_s h q)
    · rw [sp_e_0 q 4 (by omega)] at hp
      exact br_f (by rw [kf, kg]; exact q) hp
theorem xv {post : Int32 → Prop} {fo us st hd : Nat → Int32} {f g : Nat} (hf : f < 64) (hg : g < 64) (hp : post (sp_e st f g 4)) : wpX_sameValues post (fo, us, st, hd) (nI f) (nI g) :=
  ⟨5, xv_l hf hg hp 4 0 rfl lt_0⟩
theorem xa_l {post : Int32 → Prop} {F : Nat → Nat} {fo us st hd ce : Nat → Int32} (hX : sp_X F fo us) (hV : sp_V F st ce) {a b : Nat} (ha : a < 4) (hb : b < 4) (hp : post (nI (sp_ct ce a b 8))) : ∀ d p : Nat, p + d = 8 → wX_alike_23 post (nI a) (nI b) fo us st hd (d + 1) (nI (sp_ct ce a b p)) (nI p) := by
  intro d
  induction d with
  | zero =>
    intro p hd
    have e : p = 8 := by omega
    subst e
    exact br_t (sp_le8 (by omega) (by omega)) hp
  | succ d ih =>
    intro p hd
    have h1 : a * 8 + p < 64 := by omega
    have h2 : b * 8 + p < 64 := by omega
    have e1 : fo (nI (a * 8 + p)).toNatClampNeg = nI (F (a * 8 + p)) := by rw [nI_clamp (by omega)]; exact (hX.1 _ h1).1
    have e2 : fo (nI (b * 8 + p)).toNatClampNeg = nI (F (b * 8 + p)) := by rw [nI_clamp (by omega)]; exact (hX.1 _ h2).1
    have k := ih (p + 1) (by omega)
    refine br_f (sp_nle8 (by omega)) (xss (xss ⟨vp_in_nI h1 (by decide), vp_in_nI h2 (by decide), ?_⟩))
    rw [e1, e2]
    refine xv (hX.1 _ h1).2 (hX.1 _ h2).2 ?_
    rw [sp_e_V hV h1 h2 4 (by omega)]
    by_cases z : sp_e ce (a * 8 + p) (b * 8 + p) 4 = 0
    · rw [sp_ct_0 z] at k
      refine br_t z (fun y ey => ?_)
      rw [ey, nI_1 p]
      exact k
    · rw [sp_ct_1 z] at k
      refine br_f z (fun y ey w ew => ?_)
      rw [ey, ew, nI_1 p, nI_1 (sp_ct ce a b p)]
      exact k
