section
/-! pasted from kit/rows (pk_): stores, nI arithmetic, branches by naturals -/
theorem pk_us {f : Nat → Int32} {k : Nat} {x : Int32} : upd f k x k = x := if_pos rfl
theorem pk_un {f : Nat → Int32} {k j : Nat} {x : Int32} (h : j ≠ k) : upd f k x j = f j := if_neg h
theorem pk_sub {a b : Nat} (h : b ≤ a) : nI a - nI b = nI (a - b) := by
  obtain ⟨c, rfl⟩ : ∃ c, a = c + b := ⟨a - b, by omega⟩
  rw [← nI_add, Int32.add_sub_cancel, Nat.add_sub_cancel]
theorem pk_mul (a b : Nat) : nI a * nI b = nI (a * b) := (Int32.ofNat_mul a b).symm
theorem pk_ix (x : Int32) {n : Nat} (hn : n < 2 ^ 31) : x < 0 ∨ nI n ≤ x ∨ ∃ j : Nat, j < n ∧ x = nI j := by
  by_cases h : x < 0
  · exact Or.inl h
  · obtain ⟨j, hj, rfl⟩ := nI_of h
    by_cases h2 : j < n
    · exact Or.inr (Or.inr ⟨j, h2, rfl⟩)
    · exact Or.inr (Or.inl (nI_le (by omega) hj))
theorem pk_le {x y : Int32} {A B : Prop} (a b : Nat) (f : a ≤ b → A) (g : b < a → B) (hx : x = nI a := by rfl) (hy : y = nI b := by rfl) (ha : a < 2 ^ 31 := by omega) (hb : b < 2 ^ 31 := by omega) : (x ≤ y → A) ∧ (¬ x ≤ y → B) := by
  subst hx hy
  rw [nI_leI ha hb]
  exact ⟨f, fun z => g (by omega)⟩
theorem pk_lt {x y : Int32} {A B : Prop} (a b : Nat) (f : a < b → A) (g : b ≤ a → B) (hx : x = nI a := by rfl) (hy : y = nI b := by rfl) (ha : a < 2 ^ 31 := by omega) (hb : b < 2 ^ 31 := by omega) : (x < y → A) ∧ (¬ x < y → B) := by
  subst hx hy
  rw [nI_ltI ha hb]
  exact ⟨f, fun z => g (by omega)⟩
theorem pk_eq {x y : Int32} {A B : Prop} (a b : Nat) (f : a = b → A) (g : a ≠ b → B) (hx : x = nI a := by rfl) (hy : y = nI b := by rfl) (ha : a < 2 ^ 31 := by omega) (hb : b < 2 ^ 31 := by omega) : (x = y → A) ∧ (¬ x = y → B) := by
  subst hx hy
  rw [nI_eq ha hb]
  exact ⟨f, g⟩
theorem pk_in {x : Int32} (n N : Nat) (h : n < N) (hx : x = nI n := by rfl) (hN : N < 2 ^ 31 := by omega) : vp_in x N := by
  subst hx
  exact vp_in_nI h hN
theorem pk_cl {x : Int32} (n : Nat) (hx : x = nI n := by rfl) (h : n < 2 ^ 31 := by omega) : x.toNatClampNeg = n := by
  subst hx
  exact nI_clamp h

/-! A: a natural function with one value changed; how many of the first n slots name a frame -/
def sp_up (g : Nat → Nat) (k x : Nat) : Nat → Nat := fun j => if j = k then x else g j
theorem sp_us {g : Nat → Nat} {k x : Nat} : sp_up g k x k = x := if_pos rfl
theorem sp_un {g : Nat → Nat} {k x j : Nat} (h : j ≠ k) : sp_up g k x j = g j := if_neg h
def sp_d (a b : Nat) : Nat := if a = b then 1 else 0
theorem sp_d1 {a b : Nat} (h : a = b) : sp_d a b = 1 := if_pos h
theorem sp_d0 {a b : Nat} (h : a ≠ b) : sp_d a b = 0 := if_neg h
def sp_cn (F : Nat → Nat) (f : Nat) : Nat → Nat
  | 0 => 0
  | n + 1 => sp_cn F f n + sp_d (F n) f
theorem sp_cs {F : Nat → Nat} {f n : Nat} : sp_cn F f (n + 1) = sp_cn F f n + sp_d (F n) f := rfl
theorem sp_cn_far {F : Nat → Nat} {f t x : Nat} : ∀ n, n ≤ t → sp_cn (sp_up F t x) f n = sp_cn F f n := by
  intro n
  induction n with
  | zero => intro _; rfl
  | succ n ih =>
    intro h
    rw [sp_cs, sp_cs, ih (by omega), sp_un (by omega)]
theorem sp_cn_up {F : Nat → Nat} {f t x : Nat} : ∀ n, t < n → sp_cn (sp_up F t x) f n + sp_d (F t) f = sp_cn F f n + sp_d x f := by
  intro n
  induction n with
  | zero => intro h; omega
  | succ n ih =>
    intro h
    by_cases e : t = n
    · subst e
      rw [sp_cs, sp_cs, sp_cn_far t (Nat.le_refl t), sp_us]
      omega
    · have h2 := ih (by omega)
      rw [sp_cs, sp_cs, sp_un (by omega)]
      omega
theorem sp_cn_pos {F : Nat → Nat} {f t : Nat} (e : F t = f) : ∀ n, t < n → 1 ≤ sp_cn F f n := by
  intro n
  induction n with
  | zero => intro h; omega
  | succ n ih =>
    intro h
    rw [sp_cs]
    by_cases q : t = n
    · subst q
      rw [sp_d1 e]
      omega
    · have := ih (by omega)
      omega
theorem sp_cn_two {F : Nat → Nat} {f s t : Nat} (es : F s = f) (et : F t = f) (hn : s ≠ t) : ∀ n, s < n → t < n → 2 ≤ sp_cn F f n := by
  intro n
  induction n with
  | zero => intro h; omega
  | succ n ih =>
    intro h1 h2
    rw [sp_cs]
    by_cases q : s = n
    · subst q
      have := sp_cn_pos et s (by omega)
      rw [sp_d1 es]
      omega
    · by_cases q2 : t = n
      · subst q2
        have := sp_cn_pos es t (by omega)
        rw [sp_d1 et]
        omega
      · have := ih (by omega) (by omega)
        omega
theorem sp_cn_le {F : Nat → Nat} {f : Nat} : ∀ n, sp_cn F f n ≤ n := by
  intro n
  induction n with
  | zero => exact Nat.le_refl 0
  | succ n ih =>
    rw [sp_cs]
    by_cases q : F n = f
    · rw [sp_d1 q]; omega
    · rw [sp_d0 q]; omega

/-! B: the counts of all frames add up to the number of slots; the pigeonhole -/
def sp_sm (g : Nat → Nat) : Nat → Nat
  | 0 => 0
  | n + 1 => sp_sm g n + g n
theorem sp_ss {g : Nat → Nat} {n : Nat} : sp_sm g (n + 1) = sp_sm g n + g n := rfl
theorem sp_sm_0 : ∀ n, sp_sm (fun _ => 0) n = 0 := by
  intro n
  induction n with
  | zero => rfl
  | succ n ih => rw [sp_ss, ih]
theorem sp_sm_add (g h : Nat → Nat) : ∀ n, sp_sm (fun f => g f + h f) n = sp_sm g n + sp_sm h n := by
  intro n
  induction n with
  | zero => rfl
  | succ n ih => rw [sp_ss, sp_ss, sp_ss, ih]; omega
theorem sp_sm_lo {a : Nat} : ∀ n, n ≤ a → sp_sm (fun f => sp_d a f) n = 0 := by
  intro n
  induction n with
  | zero => intro _; rfl
  | succ n ih =>
    intro h
    rw [sp_ss, ih (by omega), sp_d0 (by omega)]
theorem sp_sm_d {a : Nat} : ∀ n, a < n → sp_sm (fun f => sp_d a f) n = 1 := by
  intro n
  induction n with
  | zero => intro h; omega
  | succ n ih =>
    intro h
    rw [sp_ss]
    by_cases q : a = n
    · rw [sp_sm_lo n (by omega), sp_d1 q]
    · rw [ih (by omega), sp_d0 q]
theorem sp_tot {F : Nat → Nat} {N : Nat} : ∀ n, (∀ s, s < n → F s < N) → sp_sm (fun f => sp_cn F f n) N = n := by
  intro n
  induction n with
  | zero => intro _; exact sp_sm_0 N
  | succ n ih =>
    intro h
    have e : sp_sm (fun f => sp_cn F f (n + 1)) N = sp_sm (fun f => sp_cn F f n) N + sp_sm (fun f => sp_d (F n) f) N := sp_sm_add (fun f => sp_cn F f n) (fun f => sp_d (F n) f) N
    rw [e, ih (fun s hs => h s (by omega)), sp_sm_d N (h n (by omega))]
theorem sp_ge {g : Nat → Nat} : ∀ n, (∀ f, f < n → 1 ≤ g f) → n ≤ sp_sm g n := by
  intro n
  induction n with
  | zero => intro _; exact Nat.le_refl 0
  | succ n ih =>
    intro h
    have h1 := ih (fun f hf => h f (by omega))
    have h2 := h n (by omega)
    rw [sp_ss]
    omega
theorem sp_gt {g : Nat → Nat} {x : Nat} (hx : 2 ≤ g x) : ∀ n, x < n → (∀ f, f < n → 1 ≤ g f) → n < sp_sm g n := by
  intro n
  induction n with
  | zero => intro h; omega
  | succ n ih =>
    intro h1 h
    rw [sp_ss]
    by_cases q : x = n
    · subst q
      have := sp_ge x (fun f hf => h f (by omega))
      omega
    · have h2 := ih (by omega) (fun f hf => h f (by omega))
      have h3 := h n (by omega)
      omega
theorem sp_pig {F : Nat → Nat} (hF : ∀ s, s < 64 → F s < 64) {x : Nat} (hx : x < 64) (h1 : 2 ≤ sp_cn F x 64) (h : ∀ f, f < 63 → sp_cn F f 64 ≠ 0) : sp_cn F 63 64 = 0 := by
  by_cases q : sp_cn F 63 64 = 0
  · exact q
  · have ha : ∀ f, f < 64 → 1 ≤ sp_cn F f 64 := by
      intro f hf
      by_cases e : f = 63
      · subst e; omega
      · have := h f (by omega); omega
    have h2 := sp_gt (g := fun f => sp_cn F f 64) (x := x) h1 64 hx ha
    have h3 := sp_tot (F := F) (N := 64) 64 hF
    omega

/-! C: the class's table of frames and its counts; the stored values against the reference's cells -/
def sp_X (F : Nat → Nat) (fo us : Nat → Int32) : Prop :=
  (∀ s, s < 64 → fo s = nI (F s) ∧ F s < 64) ∧ (∀ f, f < 64 → us f = nI (sp_cn F f 64))
def sp_V (F : Nat → Nat) (st ce : Nat → Int32) : Prop := ∀ s, s < 64 → ∀ c, c < 4 → st (F s * 4 + c) = ce (s * 4 + c)
def sp_A (F : Nat → Nat) (t : Nat) : Prop := ∀ s, s < 64 → s ≠ t → F s ≠ F t
/-- a' is a with its page t as a's page s -/
def sp_cp (a a' : Nat → Int32) (t s : Nat) : Prop := (∀ c, c < 4 → a' (t * 4 + c) = a (s * 4 + c)) ∧ (∀ j, (j < t * 4 ∨ t * 4 + 4 ≤ j) → a' j = a j)
/-- a' is a with its page t all 0 -/
def sp_z (a a' : Nat → Int32) (t : Nat) : Prop := (∀ c, c < 4 → a' (t * 4 + c) = 0) ∧ (∀ j, (j < t * 4 ∨ t * 4 + 4 ≤ j) → a' j = a j)
theorem sp_dec {fo us : Nat → Int32} {F : Nat → Nat} (h : sp_X F fo us) {t : Nat} (ht : t < 64) : ∀ f, f < 64 → upd us (F t) (us (F t) - 1) f = nI (sp_cn F f 64 - sp_d (F t) f) := by
  intro f hf
  by_cases e : f = F t
  · subst e
    have h1 := sp_cn_pos (F := F) (f := F t) rfl 64 ht
    rw [pk_us, h.2 _ hf, sp_d1 rfl]
    exact pk_sub h1
  · rw [pk_un e, h.2 f hf, sp_d0 (fun q => e q.symm)]
    rfl
theorem sp_X_share {F : Nat → Nat} {fo us : Nat → Int32} (h : sp_X F fo us) {s t : Nat} (hs : s < 64) (ht : t < 64) : sp_X (sp_up F t (F s)) (upd fo t (nI (F s))) (upd (upd us (F t) (us (F t) - 1)) (F s) (upd us (F t) (us (F t) - 1) (F s) + 1)) := by
  refine ⟨fun j hj => ?_, fun f hf => ?_⟩
  · by_cases e : j = t
    · subst e
      rw [pk_us, sp_us]
      exact ⟨rfl, (h.1 s hs).2⟩
    · rw [pk_un e, sp_un e]
      exact h.1 j hj
  · have hu := sp_cn_up (F := F) (f := f) (x := F s) 64 ht
    have hd : sp_d (F t) f ≤ sp_cn F f 64 := by
      by_cases q : F t = f
      · rw [sp_d1 q]; exact sp_cn_pos q 64 ht
      · rw [sp_d0 q]; exact Nat.zero_le _
    by_cases e : f = F s
    · subst e
      rw [pk_us, sp_dec h ht _ hf, nI_1]
      rw [sp_d1 (a := F s) rfl] at hu
      exact congrArg nI (by omega)
    · rw [pk_un e, sp_dec h ht f hf]
      rw [sp_d0 (a := F s) (fun q => e q.symm)] at hu
      exact congrArg nI (by omega)
theorem sp_X_fresh {F : Nat → Nat} {fo us : Nat → Int32} (h : sp_X F fo us) {t g : Nat} (ht : t < 64) (hg : g < 64) (h0 : ∀ s, s < 64 → F s ≠ g) (z : sp_cn F g 64 = 0) : sp_X (sp_up F t g) (upd fo t (nI g)) (upd (upd us (F t) (us (F t) - 1)) g 1) := by
  refine ⟨fun j hj => ?_, fun f hf => ?_⟩
  · by_cases e : j = t
    · subst e
      rw [pk_us, sp_us]
      exact ⟨rfl, hg⟩
    · rw [pk_un e, sp_un e]
      exact h.1 j hj
  · have hu := sp_cn_up (F := F) (f := f) (x := g) 64 ht
    by_cases e : f = g
    · subst e
      rw [sp_d1 (a := f) rfl, sp_d0 (h0 t ht), z] at hu
      rw [pk_us]
      exact congrArg nI (show 1 = sp_cn (sp_up F t f) f 64 by omega)
    · rw [pk_un e, sp_dec h ht f hf]
      rw [sp_d0 (a := g) (fun q => e q.symm)] at hu
      exact congrArg nI (by omega)
theorem sp_cn_none {F : Nat → Nat} {g : Nat} (z : sp_cn F g 64 = 0) : ∀ s, s < 64 → F s ≠ g := by
  intro s hs e
  have := sp_cn_pos e 64 hs
  omega
theorem sp_alone {F : Nat → Nat} {t : Nat} (ht : t < 64) (h : sp_cn F (F t) 64 = 1) : sp_A F t := by
  intro s hs hn e
  have := sp_cn_two (F := F) (f := F t) e rfl hn 64 hs ht
  omega
theorem sp_A_fresh {F : Nat → Nat} {t g : Nat} (h0 : ∀ s, s < 64 → F s ≠ g) : sp_A (sp_up F t g) t := by
  intro s hs hn
  rw [sp_us, sp_un hn]
  exact h0 s hs
theorem sp_V_cp {F : Nat → Nat} {st ce ce' : Nat → Int32} {s t : Nat} (h : sp_V F st ce) (hs : s < 64) (hc : sp_cp ce ce' t s) : sp_V (sp_up F t (F s)) st ce' := by
  intro j hj c hj4
  by_cases e : j = t
  · subst e
    rw [sp_us, h s hs c hj4, hc.1 c hj4]
  · rw [sp_un e, h j hj c hj4, hc.2 _ (by omega)]
theorem sp_V_fresh {F : Nat → Nat} {st st' ce : Nat → Int32} {t g : Nat} (h : sp_V F st ce) (h0 : ∀ s, s < 64 → F s ≠ g) (hc : sp_cp st st' g (F t)) : sp_V (sp_up F t g) st' ce := by
  intro j hj c hj4
  by_cases e : j = t
  · subst e
    rw [sp_us, hc.1 c hj4, h j hj c hj4]
  · have := h0 j hj
    rw [sp_un e, hc.2 _ (by omega), h j hj c hj4]
theorem sp_V_put {F : Nat → Nat} {st ce : Nat → Int32} {t c : Nat} {x : Int32} (h : sp_V F st ce) (ha : sp_A F t) (hc : c < 4) : sp_V F (upd st (F t * 4 + c) x) (upd ce (t * 4 + c) x) := by
  intro j hj d hd
  by_cases e : j = t
  · subst e
    by_cases e2 : d = c
    · subst e2
      rw [pk_us, pk_us]
    · rw [pk_un (by omega), pk_un (by omega), h j hj d hd]
  · have := ha j hj e
    rw [pk_un (by omega), pk_un (by omega), h j hj d hd]
theorem sp_V_z {F : Nat → Nat} {st st' ce ce' : Nat → Int32} {t : Nat} (h : sp_V F st ce) (ha : sp_A F t) (h1 : sp_z st st' (F t)) (h2 : sp_z ce ce' t) : sp_V F st' ce' := by
  intro j hj d hd
  by_cases e : j = t
  · subst e
    rw [h1.1 d hd, h2.1 d hd]
  · have := ha j hj e
    rw [h1.2 _ (by omega), h2.2 _ (by omega), h j hj d hd]
/-- the frames after n shares: slots t, t + 1 .. take what slots s, s + 1 .. name, one behind the other -/
def sp_run (F : Nat → Nat) (s t : Nat) : Nat → Nat → Nat
  | 0 => F
  | n + 1 => sp_up (sp_run F s t n) (t + n) (sp_run F s t n (s + n))
theorem sp_run_s {F : Nat → Nat} {s t n : Nat} : sp_run F s t (n + 1) = sp_up (sp_run F s t n) (t + n) (sp_run F s t n (s + n)) := rfl
def sp_sw (F : Nat → Nat) (a b : Nat) : Nat → Nat := sp_up (sp_up F a (F b)) b (F a)
theorem sp_X_sw {F : Nat → Nat} {fo us : Nat → Int32} (h : sp_X F fo us) {a b : Nat} (ha : a < 64) (hb : b < 64) : sp_X (sp_sw F a b) (upd (upd fo a (fo b)) b (fo a)) us := by
  refine ⟨fun j hj => ?_, fun f hf => ?_⟩
  · unfold sp_sw
    by_cases e : j = b
    · subst e
      rw [pk_us, sp_us]
      exact h.1 a ha
    · rw [pk_un e, sp_un e]
      by_cases e2 : j = a
      · subst e2
        rw [pk_us, sp_us]
        exact h.1 b hb
      · rw [pk_un e2, sp_un e2]
        exact h.1 j hj
  · have h1 := sp_cn_up (F := F) (f := f) (x := F b) 64 ha
    have h2 := sp_cn_up (F := sp_up F a (F b)) (f := f) (x := F a) 64 hb
    have h3 : sp_up F a (F b) b = F b := by
      by_cases e : b = a
      · subst e; exact sp_us
      · exact sp_un e
    rw [h3] at h2
    rw [h.2 f hf]
    unfold sp_sw
    exact congrArg nI (by omega)
theorem sp_V_sw {F : Nat → Nat} {st ce k1 k2 k3 : Nat → Int32} {a b : Nat} (h : sp_V F st ce) (ha : a < 64) (hb : b < 64) (h1 : sp_cp ce k1 64 a) (h2 : sp_cp k1 k2 a b) (h3 : sp_cp k2 k3 b 64) : sp_V (sp_sw F a b) st k3 := by
  intro j hj d hd
  unfold sp_sw
  by_cases e : j = b
  · subst e
    rw [sp_us, h a ha d hd, h3.1 d hd, h2.2 _ (by omega), h1.1 d hd]
  · rw [sp_un e, h3.2 _ (by omega)]
    by_cases e2 : j = a
    · subst e2
      rw [sp_us, h b hb d hd, h2.1 d hd, h1.2 _ (by omega)]
    · rw [sp_un e2, h j hj d hd, h2.2 _ (by omega), h1.2 _ (by omega)]

/-! D: are two pages alike: the flag after c cells, the count after p pages -/
def sp_e (f : Nat → Int32) (x y : Nat) : Nat → Int32
  | 0 => 1
  | c + 1 => if f (x * 4 + c) = f (y * 4 + c) then sp_e f x y c else 0
theorem sp_es_t {f : Nat → Int32} {x y c : Nat} (h : f (x * 4 + c) = f (y * 4 + c)) : sp_e f x y (c + 1) = sp_e f x y c := if_pos h
theorem sp_es_f {f : Nat → Int32} {x y c : Nat} (h : ¬ f (x * 4 + c) = f (y * 4 + c)) : sp_e f x y (c + 1) = 0 := if_neg h
theorem sp_e_01 {f : Nat → Int32} {x y : Nat} : ∀ c, sp_e f x y c = 0 ∨ sp_e f x y c = 1 := by
  intro c
  induction c with
  | zero => exact Or.inr rfl
  | succ c ih =>
    by_cases q : f (x * 4 + c) = f (y * 4 + c)
    · rw [sp_es_t q]; exact ih
    · rw [sp_es_f q]; exact Or.inl rfl
theorem sp_e_1 {f : Nat → Int32} {x y : Nat} : ∀ c, (∀ d, d < c → f (x * 4 + d) = f (y * 4 + d)) → sp_e f x y c = 1 := by
  intro c
  induction c with
  | zero => intro _; rfl
  | succ c ih =>
    intro h
    rw [sp_es_t (h c (by omega))]
    exact ih (fun d hd => h d (by omega))
theorem sp_e_0 {f : Nat → Int32} {x y d : Nat} (h : ¬ f (x * 4 + d) = f (y * 4 + d)) : ∀ c, d < c → sp_e f x y c = 0 := by
  intro c
  induction c with
  | zero => intro q; omega
  | succ c ih =>
    intro hd
    by_cases e : d = c
    · subst e; exact sp_es_f h
    · by_cases q : f (x * 4 + c) = f (y * 4 + c)
      · rw [sp_es_t q]; exact ih (by omega)
      · exact sp_es_f q
theorem sp_e_V {F : Nat → Nat} {st ce : Nat → Int32} (h : sp_V F st ce) {x y : Nat} (hx : x < 64) (hy : y < 64) : ∀ c, c ≤ 4 → sp_e st (F x) (F y) c = sp_e ce x y c := by
  intro c
  induction c with
  | zero => intro _; rfl
  | succ c ih =>
    intro hc
    unfold sp_e
    rw [h x hx c (by omega), h y hy c (by omega), ih (by omega)]
def sp_ct (f : Nat → Int32) (a b : Nat) : Nat → Nat
  | 0 => 0
  | p + 1 => if sp_e f (a * 8 + p) (b * 8 + p) 4 = 0 then sp_ct f a b p else sp_ct f a b p + 1
theorem sp_ct_0 {f : Nat → Int32} {a b p : Nat} (h : sp_e f (a * 8 + p) (b * 8 + p) 4 = 0) : sp_ct f a b (p + 1) = sp_ct f a b p := if_pos h
theorem sp_ct_1 {f : Nat → Int32} {a b p : Nat} (h : ¬ sp_e f (a * 8 + p) (b * 8 + p) 4 = 0) : sp_ct f a b (p + 1) = sp_ct f a b p + 1 := if_neg h
end
section
/-! E: small facts on numbers and indices -/
def sp_o (x : Int32) (n : Nat) : Prop := x < 0 ∨ nI n ≤ x
theorem sp_c (x : Int32) (n : Nat) (hn : n < 2 ^ 31) : sp_o x n ∨ ∃ j : Nat, j < n ∧ x = nI j := by
  rcases pk_ix x hn with h | h | h
  · exact Or.inl (Or.inl h)
  · exact Or.inl (Or.inr h)
  · exact Or.inr h
theorem sp_10 : ¬ (1 : Int32) = 0 := by decide
theorem sp_le4 {c : Nat} (h : 4 ≤ c) (hc : c < 2 ^ 31) : (4 : Int32) ≤ nI c := nI_le (a := 4) h hc
theorem sp_nle4 {c : Nat} (h : c < 4) : ¬ (4 : Int32) ≤ nI c := nI_ge (b := 4) h (by decide)
theorem sp_le8 {c : Nat} (h : 8 ≤ c) (hc : c < 2 ^ 31) : (8 : Int32) ≤ nI c := nI_le (a := 8) h hc
theorem sp_nle8 {c : Nat} (h : c < 8) : ¬ (8 : Int32) ≤ nI c := nI_ge (b := 8) h (by decide)
theorem sp_ix4 (g c : Nat) : nI g * 4 + nI c = nI (g * 4 + c) := by
  rw [show (4 : Int32) = nI 4 from rfl, pk_mul, nI_add]
theorem sp_cl4 {g c : Nat} (h : g * 4 + c < 2 ^ 31) : (nI g * 4 + nI c).toNatClampNeg = g * 4 + c := by
  rw [sp_ix4, nI_clamp h]
theorem sp_in4 {g c N : Nat} (h : g * 4 + c < N) (hN : N < 2 ^ 31) : vp_in (nI g * 4 + nI c) N := by
  rw [sp_ix4]
  exact vp_in_nI h hN
theorem sp_ix8 (g c : Nat) : nI g * 8 + nI c = nI (g * 8 + c) := by
  rw [show (8 : Int32) = nI 8 from rfl, pk_mul, nI_add]
theorem sp_ixp (g c : Nat) : 32 + nI g * 8 + nI c = nI (32 + g * 8 + c) := by
  rw [show (8 : Int32) = nI 8 from rfl, show (32 : Int32) = nI 32 from rfl, pk_mul, nI_add, nI_add]
/-- the copy of page s onto page t after c cells -/
def sp_pc (a a' : Nat → Int32) (t s c : Nat) : Prop := (∀ d, d < c → a' (t * 4 + d) = a (s * 4 + d)) ∧ (∀ j, (j < t * 4 ∨ t * 4 + c ≤ j) → a' j = a j)
theorem sp_pc_0 {a : Nat → Int32} {t s : Nat} : sp_pc a a t s 0 := ⟨fun d hd => by omega, fun _ _ => rfl⟩
theorem sp_pc_s {a a' : Nat → Int32} {t s c : Nat} (h : sp_pc a a' t s c) (hc : c < 4) : sp_pc a (upd a' (t * 4 + c) (a' (s * 4 + c))) t s (c + 1) := by
  have e : a' (s * 4 + c) = a (s * 4 + c) := h.2 _ (by omega)
  refine ⟨fun d hd => ?_, fun j hj => ?_⟩
  · by_cases q : d = c
    · subst q
      rw [pk_us, e]
    · rw [pk_un (by omega)]
      exact h.1 d (by omega)
  · rw [pk_un (by omega)]
    exact h.2 j (by omega)
theorem sp_pc_4 {a a' : Nat → Int32} {t s : Nat} (h : sp_pc a a' t s 4) : sp_cp a a' t s := h
/-- page t's first c cells are 0 now -/
def sp_pz (a a' : Nat → Int32) (t c : Nat) : Prop := (∀ d, d < c → a' (t * 4 + d) = 0) ∧ (∀ j, (j < t * 4 ∨ t * 4 + c ≤ j) → a' j = a j)
theorem sp_pz_0 {a : Nat → Int32} {t : Nat} : sp_pz a a t 0 := ⟨fun d hd => by omega, fun _ _ => rfl⟩
theorem sp_pz_s {a a' : Nat → Int32} {t c : Nat} (h : sp_pz a a' t c) : sp_pz a (upd a' (t * 4 + c) 0) t (c + 1) := by
  refine ⟨fun d hd => ?_, fun j hj => ?_⟩
  · by_cases q : d = c
    · subst q
      rw [pk_us]
    · rw [pk_un (by omega)]
      exact h.1 d (by omega)
  · rw [pk_un (by omega)]
    exact h.2 j (by omega)
theorem sp_pz_4 {a a' : Nat → Int32} {t : Nat} (h : sp_pz a a' t 4) : sp_z a a' t := h

/-! F: the class's small methods -/
theorem xb_t {post : Int32 → Prop} {j n : Nat} (h : j < n) (hn : n < 2 ^ 31) (p : post 1) : wpX_isBelow post (nI j) (nI n) :=
  br_f (nI_pos (by omega)) (br_f (nI_ge h hn) p)
theorem xb_f {post : Int32 → Prop} {x : Int32} {n : Nat} (h : sp_o x n) (p : post 0) : wpX_isBelow post x (nI n) := by
  by_cases h0 : x < 0
  · exact br_t h0 p
  · rcases h with h | h
    · exact absurd h h0
    · exact br_f h0 (br_t h p)
theorem xp_t {post : Int32 → Prop} {a b : Nat} (ha : a < 4) (hb : b < 8) (p : post 1) : wpX_isSpacePage post (nI a) (nI b) := by
  unfold wpX_isSpacePage
  exact xb_t (n := 4) ha (by decide) (br_f sp_10 (xb_t (n := 8) hb (by decide) (br_f sp_10 p)))
theorem xp_f {post : Int32 → Prop} {x y : Int32} (h : sp_o x 4 ∨ sp_o y 8) (p : post 0) : wpX_isSpacePage post x y := by
  unfold wpX_isSpacePage
  rcases sp_c x 4 (by decide) with hx | ⟨a, ha, rfl⟩
  · exact xb_f (n := 4) hx (br_t rfl p)
  · rcases h with h | h
    · exact xb_f (n := 4) h (br_t rfl p)
    · exact xb_t (n := 4) ha (by decide) (br_f sp_10 (xb_f (n := 8) h (br_t rfl p)))
theorem xss {post : Int32 → Prop} {a b : Nat} (p : post (nI (a * 8 + b))) : wpX_spaceSlot post (nI a) (nI b) := by
  unfold wpX_spaceSlot
  rw [sp_ix8]
  exact p
theorem xps {post : Int32 → Prop} {a b : Nat} (p : post (nI (32 + a * 8 + b))) : wpX_parcelSlot post (nI a) (nI b) := by
  unfold wpX_parcelSlot
  rw [sp_ixp]
  exact p
theorem xfi_t {post : Int32 → Prop} {f m : Nat} (h : f + m ≤ 8) (p : post 1) : wpX_fits post (nI f) (nI m) := by
  unfold wpX_fits
  have e : (8 : Int32) - nI f = nI (8 - f) := pk_sub (a := 8) (by omega)
  rw [e]
  exact br_f (nI_nlt (by omega) (by omega)) p
theorem xfi_f {post : Int32 → Prop} {f m : Nat} (hf : f < 8) (hm : m < 2 ^ 31) (h : 8 < f + m) (p : post 0) : wpX_fits post (nI f) (nI m) := by
  unfold wpX_fits
  have e : (8 : Int32) - nI f = nI (8 - f) := pk_sub (a := 8) (by omega)
  rw [e]
  exact br_t (nI_lt (by omega) hm) p

/-! G: a frame that no slot names -/
theorem xf {post : Int32 → Prop} {fo us st hd : Nat → Int32} (hp : ∀ g, g ≤ 63 → (∀ f, f < g → ¬ us f = 0) → (g < 63 → us g = 0) → post (nI g)) : ∀ d i : Nat, i + d = 63 → (∀ f, f < i → ¬ us f = 0) → wX_unusedFrame_2 post fo us st hd (d + 1) (nI i) := by
  intro d
  induction d with
  | zero =>
    intro i hi h
    exact br_t (nI_le (a := 63) (by omega) (by omega)) (hp i (by omega) h (fun q => by omega))
  | succ d ih =>
    intro i hi h
    have ci : (nI i).toNatClampNeg = i := nI_clamp (by omega)
    refine br_f (nI_ge (b := 63) (by omega) (by decide)) ⟨vp_in_nI (by omega) (by decide), ?_⟩
    by_cases z : us i = 0
    · exact br_t (by rw [ci]; exact z) (hp i (by omega) h (fun _ => z))
    · refine br_f (by rw [ci]; exact z) (fun y ey => ?_)
      rw [ey, nI_1 i]
      exact ih (i + 1) (by omega) (lt_s h z)
theorem xfu {post : Int32 → Prop} {F : Nat → Nat} {fo us st hd : Nat → Int32} (hX : sp_X F fo us) {x : Nat} (hx : x < 64) (h2 : 2 ≤ sp_cn F x 64) (hp : ∀ g, g < 64 → sp_cn F g 64 = 0 → post (nI g)) : wpX_unusedFrame post (fo, us, st, hd) := by
  have ez : ∀ f, f < 64 → (us f = 0 ↔ sp_cn F f 64 = 0) := by
    intro f hf
    have hl := sp_cn_le (F := F) (f := f) 64
    rw [hX.2 f hf, ← nI_0, nI_eq (by omega) (by omega)]
  refine ⟨64, xf (fun g hg hn hz => ?_) 63 0 rfl lt_0⟩
  refine hp g (by omega) ?_
  by_cases q : g < 63
  · exact (ez g (by omega)).mp (hz q)
  · have e : g = 63 := by omega
    subst e
    exact sp_pig (fun s hs => (hX.1 s hs).2) hx h2 (fun f hf z => hn f hf ((ez f (by omega)).mpr z))

/-! H: a slot's own frame -/
theorem xc {post : Int32 → SX → Prop} {fo us st hd : Nat → Int32} {t f g : Nat} (ht : t < 64) (hf : f < 64) (hg : g < 64) (hp : ∀ st', sp_cp st st' g f → post (nI g) (upd fo t (nI g), upd (upd us f (us f - 1)) g 1, st', hd)) : ∀ (d c : Nat) (s1 : Nat → Int32), c + d = 4 → sp_pc st s1 g f c → wX_unsharedFrame_27 post (nI t) (nI f) (nI g) (d + 1) (nI c) fo us s1 hd := by
  have ct : (nI t).toNatClampNeg = t := nI_clamp (by omega)
  have cf : (nI f).toNatClampNeg = f := nI_clamp (by omega)
  have cg : (nI g).toNatClampNeg = g := nI_clamp (by omega)
  intro d
  induction d with
  | zero =>
    intro c s1 hc hs
    have e : c = 4 := by omega
    subst e
    refine br_t (sp_le4 (by omega) (by omega)) ⟨vp_in_nI hf (by decide), vp_in_nI hf (by decide), fun a1 e1 => ⟨vp_in_nI hg (by decide), fun a2 e2 => ⟨vp_in_nI ht (by decide), fun a3 e3 => ?_⟩⟩⟩
    rw [cf] at e1
    rw [cg] at e2
    rw [ct] at e3
    subst e3 e2 e1
    exact hp s1 (sp_pc_4 hs)
  | succ d ih =>
    intro c s1 hc hs
    have kf : (nI f * 4 + nI c).toNatClampNeg = f * 4 + c := sp_cl4 (by omega)
    have kg : (nI g * 4 + nI c).toNatClampNeg = g * 4 + c := sp_cl4 (by omega)
    refine br_f (sp_nle4 (by omega)) ⟨sp_in4 (by omega) (by decide), sp_in4 (by omega) (by decide), fun s2 e2 y ey => ?_⟩
    rw [kf, kg] at e2
    rw [ey, nI_1 c]
    subst e2
    exact ih (c + 1) _ (by omega) (sp_pc_s hs (by omega))
theorem xu {post : Int32 → SX → Prop} {F : Nat → Nat} {fo us st hd ce : Nat → Int32} (hX : sp_X F fo us) (hV : sp_V F st ce) {t : Nat} (ht : t < 64) (hp : ∀ (F' : Nat → Nat) (fo' us' st' : Nat → Int32), sp_X F' fo' us' → sp_V F' st' ce → sp_A F' t → F' t < 64 → post (nI (F' t)) (fo', us', st', hd)) : wpX_unsharedFrame post (fo, us, st, hd) (nI t) := by
  have ct : (nI t).toNatClampNeg = t := nI_clamp (by omega)
  have hf1 := (hX.1 t ht).1
  have hf2 := (hX.1 t ht).2
  have cf : (nI (F t)).toNatClampNeg = F t := nI_clamp (by omega)
  have hu := hX.2 (F t) hf2
  have hl := sp_cn_le (F := F) (f := F t) 64
  have hpos := sp_cn_pos (F := F) (f := F t) rfl 64 ht
  refine ⟨vp_in_nI ht (by decide), fun x ex => ?_⟩
  rw [ct, hf1] at ex
  subst ex
  refine ⟨vp_in_nI hf2 (by decide), ?_⟩
  by_cases h1 : sp_cn F (F t) 64 = 1
  · have z : us (nI (F t)).toNatClampNeg = 1 := by rw [cf, hu, h1]; rfl
    exact br_t z (hp F fo us st hX hV (sp_alone ht h1) hf2)
  · have z : ¬ us (nI (F t)).toNatClampNeg = 1 := by
      rw [cf, hu]
      intro q
      exact h1 ((nI_eq (b := 1) (by omega) (by omega)).mp q)
    refine br_f z (xfu hX hf2 (by omega) (fun g hg hz => ?_))
    have hn := sp_cn_none hz
    refine ⟨5, xc ht hf2 hg (fun st' hc => ?_) 4 0 st rfl sp_pc_0⟩
    have hX' := sp_X_fresh hX ht hg hn hz
    have hV' := sp_V_fresh (t := t) hV hn hc
    have hq := hp (sp_up F t g) _ _ st' hX' hV' (sp_A_fresh hn) (by rw [sp_us]; exact hg)
    rw [sp_us] at hq
    exact hq

/-! I: sharing -/
theorem xs {post : SX → Prop} {F : Nat → Nat} {fo us st hd : Nat → Int32} (hX : sp_X F fo us) {s t : Nat} (hs : s < 64) (ht : t < 64) (hp : ∀ fo' us', sp_X (sp_up F t (F s)) fo' us' → post (fo', us', st, hd)) : wpX_share post (fo, us, st, hd) (nI s) (nI t) := by
  have ct : (nI t).toNatClampNeg = t := nI_clamp (by omega)
  have cs : (nI s).toNatClampNeg = s := nI_clamp (by omega)
  have ht2 := (hX.1 t ht).2
  have hs2 := (hX.1 s hs).2
  have cft : (nI (F t)).toNatClampNeg = F t := nI_clamp (by omega)
  have cfs : (nI (F s)).toNatClampNeg = F s := nI_clamp (by omega)
  have et : fo (nI t).toNatClampNeg = nI (F t) := by rw [ct]; exact (hX.1 t ht).1
  have it : vp_in (fo (nI t).toNatClampNeg) 64 := by rw [et]; exact vp_in_nI ht2 (by decide)
  have is : vp_in (nI (F s)) 64 := vp_in_nI hs2 (by decide)
  refine ⟨vp_in_nI hs (by decide), fun x ex => ?_⟩
  rw [cs, (hX.1 s hs).1] at ex
  subst ex
  refine ⟨vp_in_nI ht (by decide), it, it, fun a6 e6 => ⟨is, is, fun a9 e9 => ⟨vp_in_nI ht (by decide), fun f11 e11 => ?_⟩⟩⟩
  rw [et, cft] at e6
  rw [cfs] at e9
  rw [ct] at e11
  subst e11 e9 e6
  exact hp _ _ (sp_X_share hX hs ht)
theorem xr_l {post : SX → Prop} {F : Nat → Nat} {st hd : Nat → Int32} {s t m : Nat} (hs : s + m ≤ 64) (ht : t + m ≤ 64) (hp : ∀ fo' us', sp_X (sp_run F s t m) fo' us' → post (fo', us', st, hd)) : ∀ (d k : Nat) (fo us : Nat → Int32), k + d = m → sp_X (sp_run F s t k) fo us → wX_shareRun_3 post (nI s) (nI t) (nI m) (d + 1) (nI k) fo us st hd := by
  intro d
  induction d with
  | zero =>
    intro k fo us hk h
    have e : k = m := by omega
    subst e
    exact br_t (nI_le (Nat.le_refl k) (by omega)) (hp fo us h)
  | succ d ih =>
    intro k fo us hk h
    refine br_f (nI_ge (by omega) (by omega)) ?_
    rw [nI_add s k, nI_add t k]
    refine xs h (by omega) (by omega) (fun fo' us' h' y ey => ?_)
    rw [ey, nI_1 k]
    exact ih (k + 1) fo' us' (by omega) h'
theorem xr {post : SX → Prop} {F : Nat → Nat} {fo us st hd : Nat → Int32} (hX : sp_X F fo us) {s t m : Nat} (hs : s + m ≤ 64) (ht : t + m ≤ 64) (hp : ∀ fo' us', sp_X (sp_run F s t m) fo' us' → post (fo', us', st, hd)) : wpX_shareRun post (fo, us, st, hd) (nI s) (nI t) (nI m) :=
  ⟨m + 1, xr_l hs ht hp m 0 fo us (by omega) hX⟩

/-! J: clear's loop; two frames compared -/
theorem xz {post : Int32 → SX → Prop} {fo us st hd : Nat → Int32} {g : Nat} (hg : g < 64) (hp : ∀ st', sp_z st st' g → post 0 (fo, us, st', hd)) : ∀ (d c : Nat) (s1 : Nat → Int32), c + d = 4 → sp_pz st s1 g c → wX_clear_26 post (nI g) (d + 1) (nI c) fo us s1 hd := by
  intro d
  induction d with
  | zero =>
    intro c s1 hc hs
    have e : c = 4 := by omega
    subst e
    exact br_t (sp_le4 (by omega) (by omega)) (hp s1 (sp_pz_4 hs))
  | succ d ih =>
    intro c s1 hc hs
    have kg : (nI g * 4 + nI c).toNatClampNeg = g * 4 + c := sp_cl4 (by omega)
    refine br_f (sp_nle4 (by omega)) ⟨sp_in4 (by omega) (by decide), fun s2 e2 y ey => ?_⟩
    rw [kg] at e2
    rw [ey, nI_1 c]
    subst e2
    exact ih (c + 1) _ (by omega) (sp_pz_s hs)
theorem xv_l {post : Int32 → Prop} {fo us st hd : Nat → Int32} {f g : Nat} (hf : f < 64) (hg : g < 64) (hp : post (sp_e st f g 4)) : ∀ d c : Nat, c + d = 4 → (∀ e, e < c → st (f * 4 + e) = st (g * 4 + e)) → wX_sameValues_2 post (nI f) (nI g) fo us st hd (d + 1) (nI c) := by
  intro d
  induction d with
  | zero =>
    intro c hc h
    have e : c = 4 := by omega
    subst e
    rw [sp_e_1 4 h] at hp
    exact br_t (sp_le4 (by omega) (by omega)) hp
  | succ d ih =>
    intro c hc h
    have kf : (nI f * 4 + nI c).toNatClampNeg = f * 4 + c := sp_cl4 (by omega)
    have kg : (nI g * 4 + nI c).toNatClampNeg = g * 4 + c := sp_cl4 (by omega)
    refine br_f (sp_nle4 (by omega)) ⟨sp_in4 (by omega) (by decide), sp_in4 (by omega) (by decide), ?_⟩
    by_cases q : st (f * 4 + c) = st (g * 4 + c)
    · refine br_t (by rw [kf, kg]; exact q) (fun y ey => ?_)
      rw [ey, nI_1 c]
      exact ih (c + 1) (by omega) (lt_s h q)
    · rw [sp_e_0 q 4 (by omega)] at hp
      exact br_f (by rw [kf, kg]; exact q) hp
theorem xv {post : Int32 → Prop} {fo us st hd : Nat → Int32} {f g : Nat} (hf : f < 64) (hg : g < 64) (hp : post (sp_e st f g 4)) : wpX_sameValues post (fo, us, st, hd) (nI f) (nI g) :=
  ⟨5, xv_l hf hg hp 4 0 rfl lt_0⟩
theorem xa_l {post : Int32 → Prop} {F : Nat → Nat} {fo us st hd ce : Nat → Int32} (hX : sp_X F fo us) (hV : sp_V F st ce) {a b : Nat} (ha : a < 4) (hb : b < 4) (hp : post (nI (sp_ct ce a b 8))) : ∀ d p : Nat, p + d = 8 → wX_alike_23 post (nI a) (nI b) fo us st hd (d + 1) (nI (sp_ct ce a b p)) (nI p) := by
  intro d
  induction d with
  | zero =>
    intro p hd
    have e : p = 8 := by omega
    subst e
    exact br_t (sp_le8 (by omega) (by omega)) hp
  | succ d ih =>
    intro p hd
    have h1 : a * 8 + p < 64 := by omega
    have h2 : b * 8 + p < 64 := by omega
    have e1 : fo (nI (a * 8 + p)).toNatClampNeg = nI (F (a * 8 + p)) := by rw [nI_clamp (by omega)]; exact (hX.1 _ h1).1
    have e2 : fo (nI (b * 8 + p)).toNatClampNeg = nI (F (b * 8 + p)) := by rw [nI_clamp (by omega)]; exact (hX.1 _ h2).1
    have k := ih (p + 1) (by omega)
    refine br_f (sp_nle8 (by omega)) (xss (xss ⟨vp_in_nI h1 (by decide), vp_in_nI h2 (by decide), ?_⟩))
    rw [e1, e2]
    refine xv (hX.1 _ h1).2 (hX.1 _ h2).2 ?_
    rw [sp_e_V hV h1 h2 4 (by omega)]
    by_cases z : sp_e ce (a * 8 + p) (b * 8 + p) 4 = 0
    · rw [sp_ct_0 z] at k
      refine br_t z (fun y ey => ?_)
      rw [ey, nI_1 p]
      exact k
    · rw [sp_ct_1 z] at k
      refine br_f z (fun y ey w ew => ?_)
      rw [ey, ew, nI_1 p, nI_1 (sp_ct ce a b p)]
      exact k
end
section
/-! K: the reference's small methods -/
theorem yo_t {post : Int32 → Prop} {j m : Nat} (h : j ≤ m) (hm : m < 2 ^ 31) (p : post 0) : wpY_outside post (nI j) (nI m) :=
  br_f (nI_pos (by omega)) (br_t (nI_le h hm) p)
theorem yo_f {post : Int32 → Prop} {x : Int32} {m : Nat} (h : sp_o x (m + 1)) (hm : m + 1 < 2 ^ 31) (p : post 1) : wpY_outside post x (nI m) := by
  by_cases h0 : x < 0
  · exact br_t h0 p
  · rcases h with h | h
    · exact absurd h h0
    · obtain ⟨j, hj, rfl⟩ := nI_of h0
      have h2 := (nI_leI hm hj).mp h
      exact br_f h0 (br_f (nI_ge (by omega) hj) p)
theorem yb_t {post : Int32 → Prop} {a b : Nat} (ha : a < 4) (hb : b < 8) (p : post 0) : wpY_bad post (nI a) (nI b) := by
  unfold wpY_bad
  exact yo_t (m := 3) (by omega) (by decide) (br_t rfl (yo_t (m := 7) (by omega) (by decide) (br_t rfl p)))
theorem yb_f {post : Int32 → Prop} {x y : Int32} (h : sp_o x 4 ∨ sp_o y 8) (p : post 1) : wpY_bad post x y := by
  unfold wpY_bad
  rcases sp_c x 4 (by decide) with hx | ⟨a, ha, rfl⟩
  · exact yo_f (m := 3) hx (by decide) (br_f sp_10 p)
  · rcases h with h | h
    · exact yo_f (m := 3) h (by decide) (br_f sp_10 p)
    · exact yo_t (m := 3) (by omega) (by decide) (br_t rfl (yo_f (m := 7) h (by decide) (br_f sp_10 p)))
theorem sp_sl (a p : Nat) : 32 * nI a + 4 * nI p = nI ((a * 8 + p) * 4) := by
  rw [show (32 : Int32) = nI 32 from rfl, show (4 : Int32) = nI 4 from rfl, pk_mul, pk_mul, nI_add]
  exact congrArg nI (by omega)
theorem sp_sl2 (a f p : Nat) : 32 * nI a + 4 * (nI f + nI p) = nI ((a * 8 + f + p) * 4) := by
  rw [nI_add, sp_sl]
  exact congrArg nI (by omega)
theorem sp_pl (a p : Nat) : 128 + 32 * nI a + 4 * nI p = nI ((32 + a * 8 + p) * 4) := by
  rw [show (128 : Int32) = nI 128 from rfl, show (32 : Int32) = nI 32 from rfl, show (4 : Int32) = nI 4 from rfl, pk_mul, pk_mul, nI_add, nI_add]
  exact congrArg nI (by omega)
theorem sp_slc (a p c : Nat) : 32 * nI a + 4 * nI p + nI c = nI ((a * 8 + p) * 4 + c) := by
  rw [sp_sl, nI_add]
theorem sp_plc (a p c : Nat) : 128 + 32 * nI a + 4 * nI p + nI c = nI ((32 + a * 8 + p) * 4 + c) := by
  rw [sp_pl, nI_add]

/-! L: the reference copies a page -/
theorem yc_l {post : SY → Prop} {ce sz : Nat → Int32} {t s : Nat} (ht : t ≤ 64) (hs : s ≤ 64) (hp : ∀ ce', sp_cp ce ce' t s → post (ce', sz)) : ∀ (d c : Nat) (k1 : Nat → Int32), c + d = 4 → sp_pc ce k1 t s c → wY_copyPage_2 post (nI (t * 4)) (nI (s * 4)) (d + 1) (nI c) k1 sz := by
  intro d
  induction d with
  | zero =>
    intro c k1 hc h
    have e : c = 4 := by omega
    subst e
    exact br_t (sp_le4 (by omega) (by omega)) (hp k1 (sp_pc_4 h))
  | succ d ih =>
    intro c k1 hc h
    have is : vp_in (nI (s * 4) + nI c) 260 := by rw [nI_add]; exact vp_in_nI (by omega) (by decide)
    have it : vp_in (nI (t * 4) + nI c) 260 := by rw [nI_add]; exact vp_in_nI (by omega) (by decide)
    have cs : (nI (s * 4) + nI c).toNatClampNeg = s * 4 + c := by rw [nI_add]; exact nI_clamp (by omega)
    have ct : (nI (t * 4) + nI c).toNatClampNeg = t * 4 + c := by rw [nI_add]; exact nI_clamp (by omega)
    refine br_f (sp_nle4 (by omega)) ⟨is, it, fun k2 e2 y ey => ?_⟩
    rw [cs, ct] at e2
    rw [ey, nI_1 c]
    subst e2
    exact ih (c + 1) _ (by omega) (sp_pc_s h (by omega))
theorem yc {post : SY → Prop} {ce sz : Nat → Int32} (t s : Nat) {x y : Int32} (ex : x = nI (t * 4)) (ey : y = nI (s * 4)) (ht : t ≤ 64) (hs : s ≤ 64) (hp : ∀ ce', sp_cp ce ce' t s → post (ce', sz)) : wpY_copyPage post (ce, sz) x y := by
  subst ex ey
  exact ⟨5, yc_l ht hs hp 4 0 ce rfl sp_pc_0⟩

/-! M: the reference's loops -/
theorem yf_l {post : Int32 → SY → Prop} {F : Nat → Nat} {st sz : Nat → Int32} {a b : Nat} (ha : a < 4) (hb : b < 4) (hp : ∀ ce', sp_V (sp_run F (a * 8) (b * 8) 8) st ce' → post 0 (ce', sz)) : ∀ (d p : Nat) (ce : Nat → Int32), p + d = 8 → sp_V (sp_run F (a * 8) (b * 8) p) st ce → wY_fork_20 post (nI a) (nI b) (d + 1) (nI p) ce sz := by
  intro d
  induction d with
  | zero =>
    intro p ce hd h
    have e : p = 8 := by omega
    subst e
    exact br_t (sp_le8 (by omega) (by omega)) (hp ce h)
  | succ d ih =>
    intro p ce hd h
    refine br_f (sp_nle8 (by omega)) (yc (b * 8 + p) (a * 8 + p) (sp_sl b p) (sp_sl a p) (by omega) (by omega) (fun ce' hc y ey => ?_))
    rw [ey, nI_1 p]
    exact ih (p + 1) ce' (by omega) (sp_V_cp h (by omega) hc)
theorem yp_l {post : Int32 → SY → Prop} {F : Nat → Nat} {st sz : Nat → Int32} {a b f m : Nat} (ha : a < 4) (hb : b < 4) (hm : f + m ≤ 8) (hp : ∀ ce', sp_V (sp_run F (b * 8 + f) (32 + a * 8) m) st ce' → post 0 (ce', upd sz a (nI m))) : ∀ (d p : Nat) (ce : Nat → Int32), p + d = m → sp_V (sp_run F (b * 8 + f) (32 + a * 8) p) st ce → wY_pack_43 post (nI a) (nI b) (nI f) (nI m) (d + 1) (nI p) ce sz := by
  have ca : (nI a).toNatClampNeg = a := nI_clamp (by omega)
  intro d
  induction d with
  | zero =>
    intro p ce hd h
    have e : p = m := by omega
    subst e
    refine br_t (nI_le (Nat.le_refl p) (by omega)) ⟨vp_in_nI ha (by decide), fun z ez => ?_⟩
    rw [ca] at ez
    subst ez
    exact hp ce h
  | succ d ih =>
    intro p ce hd h
    refine br_f (nI_ge (by omega) (by omega)) (yc (32 + a * 8 + p) (b * 8 + f + p) (sp_pl a p) (sp_sl2 b f p) (by omega) (by omega) (fun ce' hc y ey => ?_))
    rw [ey, nI_1 p]
    exact ih (p + 1) ce' (by omega) (sp_V_cp h (by omega) hc)
theorem yn_l {post : Int32 → SY → Prop} {F : Nat → Nat} {st sz : Nat → Int32} {a b f m : Nat} {x : Int32} (ha : a < 4) (hb : b < 4) (hm : f + m ≤ 8) (hp : ∀ ce', sp_V (sp_run F (32 + a * 8) (b * 8 + f) m) st ce' → (x = 0 → post (nI m) (ce', upd sz a 0)) ∧ (¬ x = 0 → post (nI m) (ce', sz))) : ∀ (d p : Nat) (ce : Nat → Int32), p + d = m → sp_V (sp_run F (32 + a * 8) (b * 8 + f) p) st ce → wY_unpack_51 post (nI a) (nI b) (nI f) x (nI m) (d + 1) (nI p) ce sz := by
  have ca : (nI a).toNatClampNeg = a := nI_clamp (by omega)
  intro d
  induction d with
  | zero =>
    intro p ce hd h
    have e : p = m := by omega
    subst e
    refine br_t (nI_le (Nat.le_refl p) (by omega)) (br_c (fun hx => ⟨vp_in_nI ha (by decide), fun z ez => ?_⟩) (fun hx => (hp ce h).2 hx))
    rw [ca] at ez
    subst ez
    exact (hp ce h).1 hx
  | succ d ih =>
    intro p ce hd h
    refine br_f (nI_ge (by omega) (by omega)) (yc (b * 8 + f + p) (32 + a * 8 + p) (sp_sl2 b f p) (sp_pl a p) (by omega) (by omega) (fun ce' hc y ey => ?_))
    rw [ey, nI_1 p]
    exact ih (p + 1) ce' (by omega) (sp_V_cp h (by omega) hc)
theorem yz {post : Int32 → SY → Prop} {ce sz : Nat → Int32} {a b : Nat} (ha : a < 4) (hb : b < 8) (hp : ∀ ce', sp_z ce ce' (a * 8 + b) → post 0 (ce', sz)) : ∀ (d c : Nat) (k1 : Nat → Int32), c + d = 4 → sp_pz ce k1 (a * 8 + b) c → wY_clear_12 post (nI a) (nI b) (d + 1) (nI c) k1 sz := by
  intro d
  induction d with
  | zero =>
    intro c k1 hc h
    have e : c = 4 := by omega
    subst e
    exact br_t (sp_le4 (by omega) (by omega)) (hp k1 (sp_pz_4 h))
  | succ d ih =>
    intro c k1 hc h
    have it : vp_in (32 * nI a + 4 * nI b + nI c) 260 := by rw [sp_slc]; exact vp_in_nI (by omega) (by decide)
    have ct : (32 * nI a + 4 * nI b + nI c).toNatClampNeg = (a * 8 + b) * 4 + c := by rw [sp_slc]; exact nI_clamp (by omega)
    refine br_f (sp_nle4 (by omega)) ⟨it, fun k2 e2 y ey => ?_⟩
    rw [ct] at e2
    rw [ey, nI_1 c]
    subst e2
    exact ih (c + 1) _ (by omega) (sp_pz_s h)
theorem ya_i {post : Int32 → Prop} {J : Int32 → Int32 → Prop} {ce sz : Nat → Int32} {a b q p : Nat} (ha : a < 4) (hb : b < 4) (hpp : p < 8) (h0 : sp_e ce (a * 8 + p) (b * 8 + p) 4 = 0 → J (nI q) (nI (p + 1))) (h1 : ¬ sp_e ce (a * 8 + p) (b * 8 + p) 4 = 0 → J (nI (q + 1)) (nI (p + 1))) : ∀ d c : Nat, c + d = 4 → wY_alike_36 post J (nI a) (nI b) (nI q) (nI p) ce sz (d + 1) (sp_e ce (a * 8 + p) (b * 8 + p) c) (nI c) := by
  intro d
  induction d with
  | zero =>
    intro c hc
    have e : c = 4 := by omega
    subst e
    refine br_t (sp_le4 (by omega) (by omega)) (br_c (fun z y ey => ?_) (fun z y ey w ew => ?_))
    · rw [ey, nI_1 p]
      exact h0 z
    · rw [ey, ew, nI_1 p, nI_1 q]
      exact h1 z
  | succ d ih =>
    intro c hc
    have ia : vp_in (32 * nI a + 4 * nI p + nI c) 260 := by rw [sp_slc]; exact vp_in_nI (by omega) (by decide)
    have ib : vp_in (32 * nI b + 4 * nI p + nI c) 260 := by rw [sp_slc]; exact vp_in_nI (by omega) (by decide)
    have ca : (32 * nI a + 4 * nI p + nI c).toNatClampNeg = (a * 8 + p) * 4 + c := by rw [sp_slc]; exact nI_clamp (by omega)
    have cb : (32 * nI b + 4 * nI p + nI c).toNatClampNeg = (b * 8 + p) * 4 + c := by rw [sp_slc]; exact nI_clamp (by omega)
    have k := ih (c + 1) (by omega)
    refine br_f (sp_nle4 (by omega)) ⟨ia, ib, ?_⟩
    by_cases z : ce ((a * 8 + p) * 4 + c) = ce ((b * 8 + p) * 4 + c)
    · rw [sp_es_t z] at k
      refine br_t (by rw [ca, cb]; exact z) (fun y ey => ?_)
      rw [ey, nI_1 c]
      exact k
    · rw [sp_es_f z] at k
      refine br_f (by rw [ca, cb]; exact z) (fun y ey => ?_)
      rw [ey, nI_1 c]
      exact k
theorem ya_l {post : Int32 → Prop} {ce sz : Nat → Int32} {a b : Nat} (ha : a < 4) (hb : b < 4) (hp : post (nI (sp_ct ce a b 8))) : ∀ d p : Nat, p + d = 8 → wY_alike_23 post (nI a) (nI b) ce sz (d + 1) (nI (sp_ct ce a b p)) (nI p) := by
  intro d
  induction d with
  | zero =>
    intro p hd
    have e : p = 8 := by omega
    subst e
    exact br_t (sp_le8 (by omega) (by omega)) hp
  | succ d ih =>
    intro p hd
    have k := ih (p + 1) (by omega)
    refine br_f (sp_nle8 (by omega)) ⟨5, ya_i ha hb (by omega) (fun z => ?_) (fun z => ?_) 4 0 rfl⟩
    · rw [sp_ct_0 z] at k
      exact k
    · rw [sp_ct_1 z] at k
      exact k
end
section
/-! N: the relation -/
def sp_H (h : Nat → Int32) : Prop := ∀ p, p < 4 → ∃ m, m ≤ 8 ∧ h p = nI m
theorem sp_H_up {h : Nat → Int32} (hh : sp_H h) {a m : Nat} (hm : m ≤ 8) : sp_H (upd h a (nI m)) := by
  intro p hp
  by_cases e : p = a
  · subst e
    exact ⟨m, hm, pk_us⟩
  · rw [pk_un e]
    exact hh p hp
/-- each slot names a frame whose cells are the reference's page, the counts are right, the parcels hold the same -/
def i_Rel (_ : Nat) (u : SX) (v : SY) : Prop := ∃ F : Nat → Nat, sp_X F u.1 u.2.1 ∧ sp_V F u.2.2.1 v.1 ∧ u.2.2.2 = v.2 ∧ sp_H v.2
theorem sp_I {k : Nat} {F : Nat → Nat} {fo us st hd ce : Nat → Int32} (hX : sp_X F fo us) (hV : sp_V F st ce) (hH : sp_H hd) : i_Rel k (fo, us, st, hd) (ce, hd) := ⟨F, hX, hV, rfl, hH⟩
theorem sp_E {k : Nat} {u : SX} {v : SY} (I : i_Rel k u v) : ∃ (F : Nat → Nat) (fo us st hd ce : Nat → Int32), u = (fo, us, st, hd) ∧ v = (ce, hd) ∧ sp_X F fo us ∧ sp_V F st ce ∧ sp_H hd := by
  obtain ⟨fo, us, st, hd⟩ := u
  obtain ⟨ce, sz⟩ := v
  obtain ⟨F, hX, hV, e, hH⟩ := I
  have e' : hd = sz := e
  subst e'
  exact ⟨F, fo, us, st, hd, ce, rfl, rfl, hX, hV, hH⟩
theorem i_up {k : Nat} {u : SX} {v : SY} (h : i_Rel k u v) : i_Rel (k + 5) u v := h
theorem sp_cn_c0 : ∀ n, sp_cn (fun _ => 0) 0 n = n := by
  intro n
  induction n with
  | zero => rfl
  | succ n ih => rw [sp_cs, ih, sp_d1 rfl]
theorem sp_cn_c1 {f : Nat} (h : 0 ≠ f) : ∀ n, sp_cn (fun _ => 0) f n = 0 := by
  intro n
  induction n with
  | zero => rfl
  | succ n ih => rw [sp_cs, ih, sp_d0 h]
theorem i_vc0 : wpX_init (fun u => wpY_init (fun v => i_Rel 0 u v)) := by
  intro us e
  subst e
  refine sp_I (k := 0) (F := fun _ => 0) ⟨fun s _ => ⟨rfl, Nat.zero_lt_succ 63⟩, fun f hf => ?_⟩ (fun s _ c _ => rfl) (fun p _ => ⟨0, by omega, rfl⟩)
  by_cases q : f = 0
  · subst q
    rw [pk_us, sp_cn_c0]
    rfl
  · rw [pk_un q, sp_cn_c1 (fun z => q z.symm)]
    rfl

/-! O: one method after the other: the class's walk, the reference's walk, the two together -/
theorem x_write_f {post : Int32 → SX → Prop} {fo us st hd : Nat → Int32} {x y z w : Int32} (h : (sp_o x 4 ∨ sp_o y 8) ∨ sp_o z 4) (p : post (-1) (fo, us, st, hd)) : wpX_write post (fo, us, st, hd) x y z w := by
  unfold wpX_write
  dsimp only
  rcases sp_c x 4 (by decide) with hx | ⟨a, ha, rfl⟩
  · exact xp_f (Or.inl hx) (br_t rfl p)
  · rcases sp_c y 8 (by decide) with hy | ⟨b, hb, rfl⟩
    · exact xp_f (Or.inr hy) (br_t rfl p)
    · rcases h with h | h
      · exact xp_f h (br_t rfl p)
      · exact xp_t ha hb (br_f sp_10 (xb_f (n := 4) h (br_t rfl p)))
theorem y_write_f {post : Int32 → SY → Prop} {ce sz : Nat → Int32} {x y z w : Int32} (h : (sp_o x 4 ∨ sp_o y 8) ∨ sp_o z 4) (p : post (-1) (ce, sz)) : wpY_write post (ce, sz) x y z w := by
  unfold wpY_write
  dsimp only
  rcases sp_c x 4 (by decide) with hx | ⟨a, ha, rfl⟩
  · exact yb_f (Or.inl hx) (br_f sp_10 p)
  · rcases sp_c y 8 (by decide) with hy | ⟨b, hb, rfl⟩
    · exact yb_f (Or.inr hy) (br_f sp_10 p)
    · rcases h with h | h
      · exact yb_f h (br_f sp_10 p)
      · exact yb_t ha hb (br_t rfl (yo_f (m := 3) h (by decide) (br_f sp_10 p)))
/-- three arguments that are a space, a page and a cell, or not -/
theorem sp_c3 (x y z : Int32) : ((sp_o x 4 ∨ sp_o y 8) ∨ sp_o z 4) ∨ ∃ a b c : Nat, a < 4 ∧ b < 8 ∧ c < 4 ∧ x = nI a ∧ y = nI b ∧ z = nI c := by
  rcases sp_c x 4 (by decide) with hx | ⟨a, ha, ea⟩
  · exact Or.inl (Or.inl (Or.inl hx))
  · rcases sp_c y 8 (by decide) with hy | ⟨b, hb, eb⟩
    · exact Or.inl (Or.inl (Or.inr hy))
    · rcases sp_c z 4 (by decide) with hz | ⟨c, hc, ec⟩
      · exact Or.inl (Or.inr hz)
      · exact Or.inr ⟨a, b, c, ha, hb, hc, ea, eb, ec⟩
theorem sp_c2 (x y : Int32) : (sp_o x 4 ∨ sp_o y 8) ∨ ∃ a b : Nat, a < 4 ∧ b < 8 ∧ x = nI a ∧ y = nI b := by
  rcases sp_c x 4 (by decide) with hx | ⟨a, ha, ea⟩
  · exact Or.inl (Or.inl hx)
  · rcases sp_c y 8 (by decide) with hy | ⟨b, hb, eb⟩
    · exact Or.inl (Or.inr hy)
    · exact Or.inr ⟨a, b, ha, hb, ea, eb⟩
theorem y_write_t {post : Int32 → SY → Prop} {ce sz : Nat → Int32} {a b c : Nat} {w : Int32} (ha : a < 4) (hb : b < 8) (hc : c < 4) (p : post 0 (upd ce ((a * 8 + b) * 4 + c) w, sz)) : wpY_write post (ce, sz) (nI a) (nI b) (nI c) w := by
  have it : vp_in (32 * nI a + 4 * nI b + nI c) 260 := by rw [sp_slc]; exact vp_in_nI (by omega) (by decide)
  have ct : (32 * nI a + 4 * nI b + nI c).toNatClampNeg = (a * 8 + b) * 4 + c := by rw [sp_slc]; exact nI_clamp (by omega)
  unfold wpY_write
  dsimp only
  refine yb_t ha hb (br_t rfl (yo_t (m := 3) (by omega) (by decide) (br_t rfl ⟨it, fun k ek => ?_⟩)))
  rw [ct] at ek
  subst ek
  exact p
theorem i_vc_write {k : Nat} {u : SX} {v : SY} (I : i_Rel k u v) (hk : k + 5 ≤ 2560) (v1 : Int32) (v2 : Int32) (v3 : Int32) (v4 : Int32) : wpX_write (fun r u' => wpY_write (fun r' v' => r' = r ∧ i_Rel (k + 5) u' v') v v1 v2 v3 v4) u v1 v2 v3 v4 := by
  obtain ⟨F, fo, us, st, hd, ce, rfl, rfl, hX, hV, hH⟩ := sp_E I
  rcases sp_c3 v1 v2 v3 with h | ⟨a, b, c, ha, hb, hc, rfl, rfl, rfl⟩
  · exact x_write_f h (y_write_f h ⟨rfl, sp_I hX hV hH⟩)
  · have ht : a * 8 + b < 64 := by omega
    unfold wpX_write
    dsimp only
    refine xp_t ha hb (br_f sp_10 (xb_t (n := 4) hc (by decide) (br_f sp_10 (xss (xu hX hV ht (fun F' fo' us' st' hX' hV' hA hl => ⟨sp_in4 (by omega) (by decide), fun s2 e2 => ?_⟩))))))
    have cl : (nI (F' (a * 8 + b)) * 4 + nI c).toNatClampNeg = F' (a * 8 + b) * 4 + c := sp_cl4 (by omega)
    rw [cl] at e2
    subst e2
    exact y_write_t ha hb hc ⟨rfl, sp_I hX' (sp_V_put hV' hA hc) hH⟩
theorem i_vc_read {k : Nat} {u : SX} {v : SY} (I : i_Rel k u v) (hk : k + 5 ≤ 2560) (v1 : Int32) (v2 : Int32) (v3 : Int32) : wpX_read (fun r => wpY_read (fun r' => r' = r ∧ i_Rel (k + 5) u v) v v1 v2 v3) u v1 v2 v3 := by
  obtain ⟨F, fo, us, st, hd, ce, rfl, rfl, hX, hV, hH⟩ := sp_E I
  unfold wpX_read wpY_read
  dsimp only
  rcases sp_c2 v1 v2 with h | ⟨a, b, ha, hb, rfl, rfl⟩
  · exact xp_f h (br_t rfl (yb_f h (br_f sp_10 ⟨rfl, sp_I hX hV hH⟩)))
  · rcases sp_c v3 4 (by decide) with h | ⟨c, hc, rfl⟩
    · exact xp_t ha hb (br_f sp_10 (xb_f (n := 4) h (br_t rfl (yb_t ha hb (br_t rfl (yo_f (m := 3) h (by decide) (br_f sp_10 ⟨rfl, sp_I hX hV hH⟩)))))))
    · have ht : a * 8 + b < 64 := by omega
      have hl := (hX.1 _ ht).2
      have e1 : fo (nI (a * 8 + b)).toNatClampNeg = nI (F (a * 8 + b)) := by rw [nI_clamp (by omega)]; exact (hX.1 _ ht).1
      have cl : (nI (F (a * 8 + b)) * 4 + nI c).toNatClampNeg = F (a * 8 + b) * 4 + c := sp_cl4 (by omega)
      have it : vp_in (32 * nI a + 4 * nI b + nI c) 260 := by rw [sp_slc]; exact vp_in_nI (by omega) (by decide)
      have ct : (32 * nI a + 4 * nI b + nI c).toNatClampNeg = (a * 8 + b) * 4 + c := by rw [sp_slc]; exact nI_clamp (by omega)
      refine xp_t ha hb (br_f sp_10 (xb_t (n := 4) hc (by decide) (br_f sp_10 (xss ⟨vp_in_nI ht (by decide), ?_⟩))))
      rw [e1, cl]
      refine ⟨sp_in4 (by omega) (by decide), yb_t ha hb (br_t rfl (yo_t (m := 3) (by omega) (by decide) (br_t rfl ⟨it, ?_, sp_I hX hV hH⟩)))⟩
      rw [ct]
      exact (hV _ ht c hc).symm
theorem sp_c44 (x y : Int32) : (sp_o x 4 ∨ sp_o y 4) ∨ ∃ a b : Nat, a < 4 ∧ b < 4 ∧ x = nI a ∧ y = nI b := by
  rcases sp_c x 4 (by decide) with hx | ⟨a, ha, ea⟩
  · exact Or.inl (Or.inl hx)
  · rcases sp_c y 4 (by decide) with hy | ⟨b, hb, eb⟩
    · exact Or.inl (Or.inr hy)
    · exact Or.inr ⟨a, b, ha, hb, ea, eb⟩
theorem x_fork_f {post : Int32 → SX → Prop} {fo us st hd : Nat → Int32} {x y : Int32} (h : sp_o x 4 ∨ sp_o y 4) (p : post (-1) (fo, us, st, hd)) : wpX_fork post (fo, us, st, hd) x y := by
  unfold wpX_fork
  dsimp only
  rcases sp_c x 4 (by decide) with hx | ⟨a, ha, rfl⟩
  · exact xb_f (n := 4) hx (br_t rfl p)
  · rcases h with h | h
    · exact xb_f (n := 4) h (br_t rfl p)
    · exact xb_t (n := 4) ha (by decide) (br_f sp_10 (xb_f (n := 4) h (br_t rfl p)))
theorem y_fork_f {post : Int32 → SY → Prop} {ce sz : Nat → Int32} {x y : Int32} (h : sp_o x 4 ∨ sp_o y 4) (p : post (-1) (ce, sz)) : wpY_fork post (ce, sz) x y := by
  unfold wpY_fork
  dsimp only
  rcases sp_c x 4 (by decide) with hx | ⟨a, ha, rfl⟩
  · exact yo_f (m := 3) hx (by decide) (br_f sp_10 p)
  · rcases h with h | h
    · exact yo_f (m := 3) h (by decide) (br_f sp_10 p)
    · exact yo_t (m := 3) (by omega) (by decide) (br_t rfl (yo_f (m := 3) h (by decide) (br_f sp_10 p)))
theorem y_fork_t {post : Int32 → SY → Prop} {F : Nat → Nat} {st ce sz : Nat → Int32} {a b : Nat} (ha : a < 4) (hb : b < 4) (hV : sp_V F st ce) (hp : ∀ ce', sp_V (sp_run F (a * 8) (b * 8) 8) st ce' → post 0 (ce', sz)) : wpY_fork post (ce, sz) (nI a) (nI b) := by
  unfold wpY_fork
  dsimp only
  exact yo_t (m := 3) (by omega) (by decide) (br_t rfl (yo_t (m := 3) (by omega) (by decide) (br_t rfl ⟨9, yf_l ha hb hp 8 0 ce rfl hV⟩)))
theorem i_vc_fork {k : Nat} {u : SX} {v : SY} (I : i_Rel k u v) (hk : k + 5 ≤ 2560) (v1 : Int32) (v2 : Int32) : wpX_fork (fun r u' => wpY_fork (fun r' v' => r' = r ∧ i_Rel (k + 5) u' v') v v1 v2) u v1 v2 := by
  obtain ⟨F, fo, us, st, hd, ce, rfl, rfl, hX, hV, hH⟩ := sp_E I
  rcases sp_c44 v1 v2 with h | ⟨a, b, ha, hb, rfl, rfl⟩
  · exact x_fork_f h (y_fork_f h ⟨rfl, sp_I hX hV hH⟩)
  · unfold wpX_fork
    dsimp only
    refine xb_t (n := 4) ha (by decide) (br_f sp_10 (xb_t (n := 4) hb (by decide) (br_f sp_10 (xss (b := 0) (xss (b := 0) (xr (s := a * 8) (t := b * 8) (m := 8) hX (by omega) (by omega) (fun fo' us' hX' => ?_)))))))
    exact y_fork_t ha hb hV (fun ce' hV' => ⟨rfl, sp_I hX' hV' hH⟩)
end
section
/-! P: pack -/
theorem x_pack_f {post : Int32 → SX → Prop} {fo us st hd : Nat → Int32} {x y z w : Int32} (h : sp_o x 4 ∨ (sp_o y 4 ∨ sp_o z 8)) (p : post (-1) (fo, us, st, hd)) : wpX_pack post (fo, us, st, hd) x y z w := by
  unfold wpX_pack
  dsimp only
  rcases sp_c x 4 (by decide) with hx | ⟨a, ha, rfl⟩
  · exact xb_f (n := 4) hx (br_t rfl p)
  · rcases h with h | h
    · exact xb_f (n := 4) h (br_t rfl p)
    · exact xb_t (n := 4) ha (by decide) (br_f sp_10 (xp_f h (br_t rfl p)))
theorem y_pack_f {post : Int32 → SY → Prop} {ce sz : Nat → Int32} {x y z w : Int32} (h : sp_o x 4 ∨ (sp_o y 4 ∨ sp_o z 8)) (p : post (-1) (ce, sz)) : wpY_pack post (ce, sz) x y z w := by
  unfold wpY_pack
  dsimp only
  rcases sp_c x 4 (by decide) with hx | ⟨a, ha, rfl⟩
  · exact yo_f (m := 3) hx (by decide) (br_f sp_10 p)
  · rcases h with h | h
    · exact yo_f (m := 3) h (by decide) (br_f sp_10 p)
    · exact yo_t (m := 3) (by omega) (by decide) (br_t rfl (yb_f h (br_f sp_10 p)))
theorem sp_c448 (x y z : Int32) : (sp_o x 4 ∨ (sp_o y 4 ∨ sp_o z 8)) ∨ ∃ a b f : Nat, a < 4 ∧ b < 4 ∧ f < 8 ∧ x = nI a ∧ y = nI b ∧ z = nI f := by
  rcases sp_c x 4 (by decide) with hx | ⟨a, ha, ea⟩
  · exact Or.inl (Or.inl hx)
  · rcases sp_c2 y z with h | ⟨b, f, hb, hf, eb, ef⟩
    · exact Or.inl (Or.inr h)
    · exact Or.inr ⟨a, b, f, ha, hb, hf, ea, eb, ef⟩
theorem x_pack_g {post : Int32 → SX → Prop} {fo us st hd : Nat → Int32} {a b f : Nat} {w : Int32} (ha : a < 4) (hb : b < 4) (hf : f < 8) (h : w < 1 ∨ ∃ m : Nat, m < 2 ^ 31 ∧ w = nI m ∧ 8 < f + m) (p : post (-1) (fo, us, st, hd)) : wpX_pack post (fo, us, st, hd) (nI a) (nI b) (nI f) w := by
  unfold wpX_pack
  dsimp only
  refine xb_t (n := 4) ha (by decide) (br_f sp_10 (xp_t hb hf (br_f sp_10 ?_)))
  by_cases h1 : w < 1
  · exact br_t h1 p
  · rcases h with h | ⟨m, hm, rfl, h⟩
    · exact absurd h h1
    · exact br_f h1 (xfi_f hf hm h (br_t rfl p))
theorem y_pack_g {post : Int32 → SY → Prop} {ce sz : Nat → Int32} {a b f : Nat} {w : Int32} (ha : a < 4) (hb : b < 4) (hf : f < 8) (h : w < 1 ∨ ∃ m : Nat, m < 2 ^ 31 ∧ w = nI m ∧ 8 < f + m) (p : post (-1) (ce, sz)) : wpY_pack post (ce, sz) (nI a) (nI b) (nI f) w := by
  unfold wpY_pack
  dsimp only
  refine yo_t (m := 3) (by omega) (by decide) (br_t rfl (yb_t hb hf (br_t rfl ?_)))
  by_cases h1 : w < 1
  · exact br_t h1 p
  · rcases h with h | ⟨m, hm, rfl, h⟩
    · exact absurd h h1
    · refine br_f h1 ?_
      by_cases h8 : 8 < m
      · exact br_t (nI_lt (a := 8) h8 hm) p
      · refine br_f (nI_nlt (b := m) (a := 8) (by omega) (by decide)) ?_
        rw [nI_add]
        exact br_f (nI_ge (b := f + m) (a := 8) (by omega) (by omega)) p
theorem y_pack_t {post : Int32 → SY → Prop} {F : Nat → Nat} {st ce sz : Nat → Int32} {a b f m : Nat} (ha : a < 4) (hb : b < 4) (hf : f < 8) (h1 : ¬ nI m < 1) (hm : f + m ≤ 8) (hV : sp_V F st ce) (hp : ∀ ce', sp_V (sp_run F (b * 8 + f) (32 + a * 8) m) st ce' → post 0 (ce', upd sz a (nI m))) : wpY_pack post (ce, sz) (nI a) (nI b) (nI f) (nI m) := by
  unfold wpY_pack
  dsimp only
  refine yo_t (m := 3) (by omega) (by decide) (br_t rfl (yb_t hb hf (br_t rfl (br_f h1 (br_f (nI_nlt (b := m) (a := 8) (by omega) (by decide)) ?_)))))
  rw [nI_add]
  exact br_t (nI_le (a := f + m) (b := 8) hm (by decide)) ⟨m + 1, yp_l ha hb hm hp m 0 ce (by omega) hV⟩
theorem i_vc_pack {k : Nat} {u : SX} {v : SY} (I : i_Rel k u v) (hk : k + 5 ≤ 2560) (v1 : Int32) (v2 : Int32) (v3 : Int32) (v4 : Int32) : wpX_pack (fun r u' => wpY_pack (fun r' v' => r' = r ∧ i_Rel (k + 5) u' v') v v1 v2 v3 v4) u v1 v2 v3 v4 := by
  obtain ⟨F, fo, us, st, hd, ce, rfl, rfl, hX, hV, hH⟩ := sp_E I
  rcases sp_c448 v1 v2 v3 with h | ⟨a, b, f, ha, hb, hf, rfl, rfl, rfl⟩
  · exact x_pack_f h (y_pack_f h ⟨rfl, sp_I hX hV hH⟩)
  · by_cases h1 : v4 < 1
    · exact x_pack_g ha hb hf (Or.inl h1) (y_pack_g ha hb hf (Or.inl h1) ⟨rfl, sp_I hX hV hH⟩)
    · have h0 : ¬ v4 < 0 := fun q => h1 (Int32.lt_trans q (by decide))
      obtain ⟨m, hm, rfl⟩ := nI_of h0
      by_cases h8 : 8 < f + m
      · exact x_pack_g ha hb hf (Or.inr ⟨m, hm, rfl, h8⟩) (y_pack_g ha hb hf (Or.inr ⟨m, hm, rfl, h8⟩) ⟨rfl, sp_I hX hV hH⟩)
      · have ca : (nI a).toNatClampNeg = a := nI_clamp (by omega)
        unfold wpX_pack
        dsimp only
        refine xb_t (n := 4) ha (by decide) (br_f sp_10 (xp_t hb hf (br_f sp_10 (br_f h1 (xfi_t (by omega) (br_f sp_10 (xss (xps (b := 0) (xr (s := b * 8 + f) (t := 32 + a * 8) hX (by omega) (by omega) (fun fo' us' hX' => ⟨vp_in_nI ha (by decide), fun h2 e2 => ?_⟩))))))))))
        rw [ca] at e2
        subst e2
        exact y_pack_t ha hb hf h1 (by omega) hV (fun ce' hV' => ⟨rfl, sp_I hX' hV' (sp_H_up hH (by omega))⟩)

/-! Q: unpack -/
theorem x_unpack_f {post : Int32 → SX → Prop} {fo us st hd : Nat → Int32} {x y z w : Int32} (h : sp_o x 4 ∨ (sp_o y 4 ∨ sp_o z 8)) (p : post (-1) (fo, us, st, hd)) : wpX_unpack post (fo, us, st, hd) x y z w := by
  unfold wpX_unpack
  dsimp only
  rcases sp_c x 4 (by decide) with hx | ⟨a, ha, rfl⟩
  · exact xb_f (n := 4) hx (br_t rfl p)
  · rcases h with h | h
    · exact xb_f (n := 4) h (br_t rfl p)
    · exact xb_t (n := 4) ha (by decide) (br_f sp_10 (xp_f h (br_t rfl p)))
theorem y_unpack_f {post : Int32 → SY → Prop} {ce sz : Nat → Int32} {x y z w : Int32} (h : sp_o x 4 ∨ (sp_o y 4 ∨ sp_o z 8)) (p : post (-1) (ce, sz)) : wpY_unpack post (ce, sz) x y z w := by
  unfold wpY_unpack
  dsimp only
  rcases sp_c x 4 (by decide) with hx | ⟨a, ha, rfl⟩
  · exact yo_f (m := 3) hx (by decide) (br_f sp_10 p)
  · rcases h with h | h
    · exact yo_f (m := 3) h (by decide) (br_f sp_10 p)
    · exact yo_t (m := 3) (by omega) (by decide) (br_t rfl (yb_f h (br_f sp_10 p)))
theorem x_unpack_g {post : Int32 → SX → Prop} {fo us st hd : Nat → Int32} {a b f m : Nat} {w : Int32} (ha : a < 4) (hb : b < 4) (hf : f < 8) (hm : m ≤ 8) (em : hd a = nI m) (h : m = 0 ∨ 8 < f + m) (p : post (-1) (fo, us, st, hd)) : wpX_unpack post (fo, us, st, hd) (nI a) (nI b) (nI f) w := by
  have ca : (nI a).toNatClampNeg = a := nI_clamp (by omega)
  unfold wpX_unpack
  dsimp only
  refine xb_t (n := 4) ha (by decide) (br_f sp_10 (xp_t hb hf (br_f sp_10 ⟨vp_in_nI ha (by decide), fun x ex => ?_⟩)))
  rw [ca, em] at ex
  subst ex
  by_cases h0 : m = 0
  · subst h0
    exact br_t rfl p
  · exact br_f (nI_ne0 (by omega) (by omega)) (xfi_f hf (by omega) (by omega) (br_t rfl p))
theorem y_unpack_g {post : Int32 → SY → Prop} {ce sz : Nat → Int32} {a b f m : Nat} {w : Int32} (ha : a < 4) (hb : b < 4) (hf : f < 8) (hm : m ≤ 8) (em : sz a = nI m) (h : m = 0 ∨ 8 < f + m) (p : post (-1) (ce, sz)) : wpY_unpack post (ce, sz) (nI a) (nI b) (nI f) w := by
  have ca : (nI a).toNatClampNeg = a := nI_clamp (by omega)
  unfold wpY_unpack
  dsimp only
  rw [ca, em, nI_add]
  refine yo_t (m := 3) (by omega) (by decide) (br_t rfl (yb_t hb hf (br_t rfl ⟨vp_in_nI ha (by decide), ?_⟩)))
  by_cases h0 : m = 0
  · subst h0
    exact br_t rfl p
  · exact br_f (nI_ne0 (by omega) (by omega)) ⟨vp_in_nI ha (by decide), br_f (nI_ge (b := f + m) (a := 8) (by omega) (by omega)) p⟩
theorem y_unpack_t {post : Int32 → SY → Prop} {F : Nat → Nat} {st ce sz : Nat → Int32} {a b f m : Nat} {w : Int32} (ha : a < 4) (hb : b < 4) (hf : f < 8) (h0 : 0 < m) (hm : f + m ≤ 8) (em : sz a = nI m) (hV : sp_V F st ce) (hp : ∀ ce', sp_V (sp_run F (32 + a * 8) (b * 8 + f) m) st ce' → (w = 0 → post (nI m) (ce', upd sz a 0)) ∧ (¬ w = 0 → post (nI m) (ce', sz))) : wpY_unpack post (ce, sz) (nI a) (nI b) (nI f) w := by
  have ca : (nI a).toNatClampNeg = a := nI_clamp (by omega)
  unfold wpY_unpack
  dsimp only
  rw [ca, em, nI_add]
  refine yo_t (m := 3) (by omega) (by decide) (br_t rfl (yb_t hb hf (br_t rfl ⟨vp_in_nI ha (by decide), br_f (nI_ne0 h0 (by omega)) ⟨vp_in_nI ha (by decide), br_t (nI_le (a := f + m) (b := 8) hm (by decide)) ⟨vp_in_nI ha (by decide), fun x ex => ?_⟩⟩⟩)))
  subst ex
  exact ⟨m + 1, yn_l ha hb hm hp m 0 ce (by omega) hV⟩
theorem i_vc_unpack {k : Nat} {u : SX} {v : SY} (I : i_Rel k u v) (hk : k + 5 ≤ 2560) (v1 : Int32) (v2 : Int32) (v3 : Int32) (v4 : Int32) : wpX_unpack (fun r u' => wpY_unpack (fun r' v' => r' = r ∧ i_Rel (k + 5) u' v') v v1 v2 v3 (lw_bz v4)) u v1 v2 v3 (lw_bz v4) := by
  obtain ⟨F, fo, us, st, hd, ce, rfl, rfl, hX, hV, hH⟩ := sp_E I
  generalize lw_bz v4 = w
  rcases sp_c448 v1 v2 v3 with h | ⟨a, b, f, ha, hb, hf, rfl, rfl, rfl⟩
  · exact x_unpack_f h (y_unpack_f h ⟨rfl, sp_I hX hV hH⟩)
  · obtain ⟨m, hm, em⟩ := hH a ha
    by_cases h : m = 0 ∨ 8 < f + m
    · exact x_unpack_g ha hb hf hm em h (y_unpack_g ha hb hf hm em h ⟨rfl, sp_I hX hV hH⟩)
    · have h0 : 0 < m := by omega
      have h8 : f + m ≤ 8 := by omega
      have ca : (nI a).toNatClampNeg = a := nI_clamp (by omega)
      unfold wpX_unpack
      dsimp only
      refine xb_t (n := 4) ha (by decide) (br_f sp_10 (xp_t hb hf (br_f sp_10 ⟨vp_in_nI ha (by decide), fun x ex => ?_⟩)))
      rw [ca, em] at ex
      subst ex
      refine br_f (nI_ne0 h0 (by omega)) (xfi_t h8 (br_f sp_10 (xps (b := 0) (xss (xr (s := 32 + a * 8) (t := b * 8 + f) hX (by omega) (by omega) (fun fo' us' hX' => ?_))))))
      refine br_c (fun hw => ⟨vp_in_nI ha (by decide), fun h2 e2 => ?_⟩) (fun hw => ?_)
      · rw [ca] at e2
        subst e2
        exact y_unpack_t ha hb hf h0 h8 em hV (fun ce' hV' => br_t hw ⟨rfl, sp_I hX' hV' (sp_H_up (m := 0) hH (by omega))⟩)
      · exact y_unpack_t ha hb hf h0 h8 em hV (fun ce' hV' => br_f hw ⟨rfl, sp_I hX' hV' hH⟩)

/-! R: exchange, clear, size, peek, alike -/
theorem i_vc_exchange {k : Nat} {u : SX} {v : SY} (I : i_Rel k u v) (hk : k + 5 ≤ 2560) (v1 : Int32) (v2 : Int32) (v3 : Int32) : wpX_exchange (fun r u' => wpY_exchange (fun r' v' => r' = r ∧ i_Rel (k + 5) u' v') v v1 v2 v3) u v1 v2 v3 := by
  obtain ⟨F, fo, us, st, hd, ce, rfl, rfl, hX, hV, hH⟩ := sp_E I
  unfold wpX_exchange wpY_exchange
  dsimp only
  rcases sp_c2 v1 v2 with h | ⟨a, b, ha, hb, rfl, rfl⟩
  · exact xp_f h (br_t rfl (yb_f h (br_f sp_10 ⟨rfl, sp_I hX hV hH⟩)))
  · rcases sp_c v3 8 (by decide) with h | ⟨c, hc, rfl⟩
    · exact xp_t ha hb (br_f sp_10 (xp_f (Or.inr h) (br_t rfl (yb_t ha hb (br_t rfl (yb_f (Or.inr h) (br_f sp_10 ⟨rfl, sp_I hX hV hH⟩)))))))
    · have h1 : a * 8 + b < 64 := by omega
      have h2 : a * 8 + c < 64 := by omega
      have c1 : (nI (a * 8 + b)).toNatClampNeg = a * 8 + b := nI_clamp (by omega)
      have c2 : (nI (a * 8 + c)).toNatClampNeg = a * 8 + c := nI_clamp (by omega)
      refine xp_t ha hb (br_f sp_10 (xp_t ha hc (br_f sp_10 (xss (xss ⟨vp_in_nI h1 (by decide), fun x ex => ⟨vp_in_nI h2 (by decide), vp_in_nI h1 (by decide), fun f1 e1 => ⟨vp_in_nI h2 (by decide), fun f2 e2 => ?_⟩⟩⟩)))))
      rw [c1] at ex
      rw [c1, c2] at e1
      rw [c2] at e2
      subst e2 e1 ex
      refine yb_t ha hb (br_t rfl (yb_t ha hc (br_t rfl (yc 64 (a * 8 + b) rfl (sp_sl a b) (by omega) (by omega) (fun k1 hk1 => yc (a * 8 + b) (a * 8 + c) (sp_sl a b) (sp_sl a c) (by omega) (by omega) (fun k2 hk2 => yc (a * 8 + c) 64 (sp_sl a c) rfl (by omega) (by omega) (fun k3 hk3 => ?_)))))))
      exact ⟨rfl, sp_I (sp_X_sw hX h1 h2) (sp_V_sw hV h1 h2 hk1 hk2 hk3) hH⟩
theorem y_clear_t {post : Int32 → SY → Prop} {ce sz : Nat → Int32} {a b : Nat} (ha : a < 4) (hb : b < 8) (hp : ∀ ce', sp_z ce ce' (a * 8 + b) → post 0 (ce', sz)) : wpY_clear post (ce, sz) (nI a) (nI b) := by
  unfold wpY_clear
  dsimp only
  exact yb_t ha hb (br_t rfl ⟨5, yz ha hb hp 4 0 ce rfl sp_pz_0⟩)
theorem y_clear_f {post : Int32 → SY → Prop} {ce sz : Nat → Int32} {x y : Int32} (h : sp_o x 4 ∨ sp_o y 8) (p : post (-1) (ce, sz)) : wpY_clear post (ce, sz) x y := by
  unfold wpY_clear
  dsimp only
  exact yb_f h (br_f sp_10 p)
theorem i_vc_clear {k : Nat} {u : SX} {v : SY} (I : i_Rel k u v) (hk : k + 5 ≤ 2560) (v1 : Int32) (v2 : Int32) : wpX_clear (fun r u' => wpY_clear (fun r' v' => r' = r ∧ i_Rel (k + 5) u' v') v v1 v2) u v1 v2 := by
  obtain ⟨F, fo, us, st, hd, ce, rfl, rfl, hX, hV, hH⟩ := sp_E I
  unfold wpX_clear
  dsimp only
  rcases sp_c2 v1 v2 with h | ⟨a, b, ha, hb, rfl, rfl⟩
  · exact xp_f h (br_t rfl (y_clear_f h ⟨rfl, sp_I hX hV hH⟩))
  · have ht : a * 8 + b < 64 := by omega
    exact xp_t ha hb (br_f sp_10 (xss (xu hX hV ht (fun F' fo' us' st' hX' hV' hA hl => ⟨5, xz hl (fun st2 hz => y_clear_t ha hb (fun ce2 hz2 => ⟨rfl, sp_I hX' (sp_V_z hV' hA hz hz2) hH⟩)) 4 0 st' rfl sp_pz_0⟩))))
theorem i_vc_size {k : Nat} {u : SX} {v : SY} (I : i_Rel k u v) (hk : k + 5 ≤ 2560) (v1 : Int32) : wpX_size (fun r => wpY_size (fun r' => r' = r ∧ i_Rel (k + 5) u v) v v1) u v1 := by
  obtain ⟨F, fo, us, st, hd, ce, rfl, rfl, hX, hV, hH⟩ := sp_E I
  unfold wpX_size wpY_size
  dsimp only
  rcases sp_c v1 4 (by decide) with h | ⟨a, ha, rfl⟩
  · exact xb_f (n := 4) h (br_t rfl (yo_f (m := 3) h (by decide) (br_f sp_10 ⟨rfl, sp_I hX hV hH⟩)))
  · exact xb_t (n := 4) ha (by decide) (br_f sp_10 ⟨vp_in_nI ha (by decide), yo_t (m := 3) (by omega) (by decide) (br_t rfl ⟨vp_in_nI ha (by decide), rfl, sp_I hX hV hH⟩)⟩)
theorem y_peek_f {post : Int32 → Prop} {ce sz : Nat → Int32} {a m : Nat} {y z : Int32} (ha : a < 4) (em : sz a = nI m) (h : sp_o y m ∨ sp_o z 4) (p : post 0) : wpY_peek post (ce, sz) (nI a) y z := by
  have ca : (nI a).toNatClampNeg = a := nI_clamp (by omega)
  unfold wpY_peek
  dsimp only
  rw [ca, em]
  refine yo_t (m := 3) (by omega) (by decide) (br_t rfl ?_)
  by_cases h0 : y < 0
  · exact br_t h0 p
  · refine br_f h0 ⟨vp_in_nI ha (by decide), ?_⟩
    by_cases h1 : nI m ≤ y
    · exact br_t h1 p
    · refine br_f h1 ?_
      rcases h with (h | h) | h
      · exact absurd h h0
      · exact absurd h h1
      · exact yo_f (m := 3) h (by decide) (br_f sp_10 p)
theorem y_peek_t {post : Int32 → Prop} {ce sz : Nat → Int32} {a m b c : Nat} (ha : a < 4) (hm : m ≤ 8) (em : sz a = nI m) (hb : b < m) (hc : c < 4) (p : post (ce ((32 + a * 8 + b) * 4 + c))) : wpY_peek post (ce, sz) (nI a) (nI b) (nI c) := by
  have ca : (nI a).toNatClampNeg = a := nI_clamp (by omega)
  have it : vp_in (128 + 32 * nI a + 4 * nI b + nI c) 260 := by rw [sp_plc]; exact vp_in_nI (by omega) (by decide)
  have ct : (128 + 32 * nI a + 4 * nI b + nI c).toNatClampNeg = (32 + a * 8 + b) * 4 + c := by rw [sp_plc]; exact nI_clamp (by omega)
  unfold wpY_peek
  dsimp only
  rw [ca, em, ct]
  exact yo_t (m := 3) (by omega) (by decide) (br_t rfl (br_f (nI_pos (by omega)) ⟨vp_in_nI ha (by decide), br_f (nI_ge hb (by omega)) (yo_t (m := 3) (by omega) (by decide) (br_t rfl ⟨it, p⟩))⟩))
theorem i_vc_peek {k : Nat} {u : SX} {v : SY} (I : i_Rel k u v) (hk : k + 5 ≤ 2560) (v1 : Int32) (v2 : Int32) (v3 : Int32) : wpX_peek (fun r => wpY_peek (fun r' => r' = r ∧ i_Rel (k + 5) u v) v v1 v2 v3) u v1 v2 v3 := by
  obtain ⟨F, fo, us, st, hd, ce, rfl, rfl, hX, hV, hH⟩ := sp_E I
  rcases sp_c v1 4 (by decide) with h | ⟨a, ha, rfl⟩
  · unfold wpX_peek wpY_peek
    dsimp only
    exact xb_f (n := 4) h (br_t rfl (yo_f (m := 3) h (by decide) (br_f sp_10 ⟨rfl, sp_I hX hV hH⟩)))
  · obtain ⟨m, hm, em⟩ := hH a ha
    have ca : (nI a).toNatClampNeg = a := nI_clamp (by omega)
    unfold wpX_peek
    dsimp only
    rw [ca, em]
    rcases sp_c v3 4 (by decide) with h | ⟨c, hc, rfl⟩
    · exact xb_t (n := 4) ha (by decide) (br_f sp_10 (xb_f (n := 4) h (br_t rfl (y_peek_f ha em (Or.inr h) ⟨rfl, sp_I hX hV hH⟩))))
    · refine xb_t (n := 4) ha (by decide) (br_f sp_10 (xb_t (n := 4) hc (by decide) (br_f sp_10 ⟨vp_in_nI ha (by decide), ?_⟩)))
      rcases sp_c v2 m (by omega) with h | ⟨b, hb, rfl⟩
      · exact xb_f h (br_t rfl (y_peek_f ha em (Or.inl h) ⟨rfl, sp_I hX hV hH⟩))
      · have ht : 32 + a * 8 + b < 64 := by omega
        have hl := (hX.1 _ ht).2
        have e1 : fo (nI (32 + a * 8 + b)).toNatClampNeg = nI (F (32 + a * 8 + b)) := by rw [nI_clamp (by omega)]; exact (hX.1 _ ht).1
        have cl : (nI (F (32 + a * 8 + b)) * 4 + nI c).toNatClampNeg = F (32 + a * 8 + b) * 4 + c := sp_cl4 (by omega)
        refine xb_t hb (by omega) (br_f sp_10 (xps ⟨vp_in_nI ht (by decide), ?_⟩))
        rw [e1, cl]
        exact ⟨sp_in4 (by omega) (by decide), y_peek_t ha hm em hb hc ⟨(hV _ ht c hc).symm, sp_I hX hV hH⟩⟩
theorem i_vc_alike {k : Nat} {u : SX} {v : SY} (I : i_Rel k u v) (hk : k + 5 ≤ 2560) (v1 : Int32) (v2 : Int32) : wpX_alike (fun r => wpY_alike (fun r' => r' = r ∧ i_Rel (k + 5) u v) v v1 v2) u v1 v2 := by
  obtain ⟨F, fo, us, st, hd, ce, rfl, rfl, hX, hV, hH⟩ := sp_E I
  unfold wpX_alike wpY_alike
  dsimp only
  rcases sp_c v1 4 (by decide) with h | ⟨a, ha, rfl⟩
  · exact xb_f (n := 4) h (br_t rfl (yo_f (m := 3) h (by decide) (br_f sp_10 ⟨rfl, sp_I hX hV hH⟩)))
  · rcases sp_c v2 4 (by decide) with h | ⟨b, hb, rfl⟩
    · exact xb_t (n := 4) ha (by decide) (br_f sp_10 (xb_f (n := 4) h (br_t rfl (yo_t (m := 3) (by omega) (by decide) (br_t rfl (yo_f (m := 3) h (by decide) (br_f sp_10 ⟨rfl, sp_I hX hV hH⟩)))))))
    · refine xb_t (n := 4) ha (by decide) (br_f sp_10 (xb_t (n := 4) hb (by decide) (br_f sp_10 ⟨9, xa_l hX hV ha hb ?_ 8 0 rfl⟩)))
      exact yo_t (m := 3) (by omega) (by decide) (br_t rfl (yo_t (m := 3) (by omega) (by decide) (br_t rfl ⟨9, ya_l ha hb ⟨rfl, sp_I hX hV hH⟩ 8 0 rfl⟩)))
end
