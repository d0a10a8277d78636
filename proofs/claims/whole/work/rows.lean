section
/-! pasted from kit/rows (pk_): stores, nI arithmetic, branches by naturals -/
theorem pk_us {f : Nat → Int32} {k : Nat} {x : Int32} : upd f k x k = x := if_pos rfl
theorem pk_un {f : Nat → Int32} {k j : Nat} {x : Int32} (h : j ≠ k) : upd f k x j = f j := if_neg h
theorem pk_sub {a b : Nat} (h : b ≤ a) : nI a - nI b = nI (a - b) := by
  obtain ⟨c, rfl⟩ : ∃ c, a = c + b := ⟨a - b, by omega⟩
  rw [← nI_add, Int32.add_sub_cancel, Nat.add_sub_cancel]
theorem pk_mul (a b : Nat) : nI a * nI b = nI (a * b) := (Int32.ofNat_mul a b).symm
theorem pk_ix (x : Int32) {n : Nat} (hn : n < 2 ^ 31) : x < 0 ∨ nI n ≤ x ∨ ∃ j : Nat, j < n ∧ x = nI j := by
  by_cases h : x < 0
  · exact Or.inl h
  · obtain ⟨j, hj, rfl⟩ := nI_of h
    by_cases h2 : j < n
    · exact Or.inr (Or.inr ⟨j, h2, rfl⟩)
    · exact Or.inr (Or.inl (nI_le (by omega) hj))
theorem pk_le {x y : Int32} {A B : Prop} (a b : Nat) (f : a ≤ b → A) (g : b < a → B) (hx : x = nI a := by rfl) (hy : y = nI b := by rfl) (ha : a < 2 ^ 31 := by omega) (hb : b < 2 ^ 31 := by omega) : (x ≤ y → A) ∧ (¬ x ≤ y → B) := by
  subst hx hy
  rw [nI_leI ha hb]
  exact ⟨f, fun z => g (by omega)⟩
theorem pk_lt {x y : Int32} {A B : Prop} (a b : Nat) (f : a < b → A) (g : b ≤ a → B) (hx : x = nI a := by rfl) (hy : y = nI b := by rfl) (ha : a < 2 ^ 31 := by omega) (hb : b < 2 ^ 31 := by omega) : (x < y → A) ∧ (¬ x < y → B) := by
  subst hx hy
  rw [nI_ltI ha hb]
  exact ⟨f, fun z => g (by omega)⟩
theorem pk_eq {x y : Int32} {A B : Prop} (a b : Nat) (f : a = b → A) (g : a ≠ b → B) (hx : x = nI a := by rfl) (hy : y = nI b := by rfl) (ha : a < 2 ^ 31 := by omega) (hb : b < 2 ^ 31 := by omega) : (x = y → A) ∧ (¬ x = y → B) := by
  subst hx hy
  rw [nI_eq ha hb]
  exact ⟨f, g⟩
theorem pk_in {x : Int32} (n N : Nat) (h : n < N) (hx : x = nI n := by rfl) (hN : N < 2 ^ 31 := by omega) : vp_in x N := by
  subst hx
  exact vp_in_nI h hN
theorem pk_cl {x : Int32} (n : Nat) (hx : x = nI n := by rfl) (h : n < 2 ^ 31 := by omega) : x.toNatClampNeg = n := by
  subst hx
  exact nI_clamp h

/-! A: a natural function with one value changed; how many of the first n slots name a frame -/
def sp_up (g : Nat → Nat) (k x : Nat) : Nat → Nat := fun j => if j = k then x else g j
theorem sp_us {g : Nat → Nat} {k x : Nat} : sp_up g k x k = x := if_pos rfl
theorem sp_un {g : Nat → Nat} {k x j : Nat} (h : j ≠ k) : sp_up g k x j = g j := if_neg h
def sp_d (a b : Nat) : Nat := if a = b then 1 else 0
theorem sp_d1 {a b : Nat} (h : a = b) : sp_d a b = 1 := if_pos h
theorem sp_d0 {a b : Nat} (h : a ≠ b) : sp_d a b = 0 := if_neg h
def sp_cn (F : Nat → Nat) (f : Nat) : Nat → Nat
  | 0 => 0
  | n + 1 => sp_cn F f n + sp_d (F n) f
theorem sp_cs {F : Nat → Nat} {f n : Nat} : sp_cn F f (n + 1) = sp_cn F f n + sp_d (F n) f := rfl
theorem sp_cn_far {F : Nat → Nat} {f t x : Nat} : ∀ n, n ≤ t → sp_cn (sp_up F t x) f n = sp_cn F f n := by
  intro n
  induction n with
  | zero => intro _; rfl
  | succ n ih =>
    intro h
    rw [sp_cs, sp_cs, ih (by omega), sp_un (by omega)]
theorem sp_cn_up {F : Nat → Nat} {f t x : Nat} : ∀ n, t < n → sp_cn (sp_up F t x) f n + sp_d (F t) f = sp_cn F f n + sp_d x f := by
  intro n
  induction n with
  | zero => intro h; omega
  | succ n ih =>
    intro h
    by_cases e : t = n
    · subst e
      rw [sp_cs, sp_cs, sp_cn_far t (Nat.le_refl t), sp_us]
      omega
    · have h2 := ih (by omega)
      rw [sp_cs, sp_cs, sp_un (by omega)]
      omega
theorem sp_cn_pos {F : Nat → Nat} {f t : Nat} (e : F t = f) : ∀ n, t < n → 1 ≤ sp_cn F f n := by
  intro n
  induction n with
  | zero => intro h; omega
  | succ n ih =>
    intro h
    rw [sp_cs]
    by_cases q : t = n
    · subst q
      rw [sp_d1 e]
      omega
    · have := ih (by omega)
      omega
theorem sp_cn_two {F : Nat → Nat} {f s t : Nat} (es : F s = f) (et : F t = f) (hn : s ≠ t) : ∀ n, s < n → t < n → 2 ≤ sp_cn F f n := by
  intro n
  induction n with
  | zero => intro h; omega
  | succ n ih =>
    intro h1 h2
    rw [sp_cs]
    by_cases q : s = n
    · subst q
      have := sp_cn_pos et s (by omega)
      rw [sp_d1 es]
      omega
    · by_cases q2 : t = n
      · subst q2
        have := sp_cn_pos es t (by omega)
        rw [sp_d1 et]
        omega
      · have := ih (by omega) (by omega)
        omega
theorem sp_cn_le {F : Nat → Nat} {f : Nat} : ∀ n, sp_cn F f n ≤ n := by
  intro n
  induction n with
  | zero => exact Nat.le_refl 0
  | succ n ih =>
    rw [sp_cs]
    by_cases q : F n = f
    · rw [sp_d1 q]; omega
    · rw [sp_d0 q]; omega

/-! B: the counts of all frames add up to the number of slots; the pigeonhole -/
def sp_sm (g : Nat → Nat) : Nat → Nat
  | 0 => 0
  | n + 1 => sp_sm g n + g n
theorem sp_ss {g : Nat → Nat} {n : Nat} : sp_sm g (n + 1) = sp_sm g n + g n := rfl
theorem sp_sm_0 : ∀ n, sp_sm (fun _ => 0) n = 0 := by
  intro n
  induction n with
  | zero => rfl
  | succ n ih => rw [sp_ss, ih]
theorem sp_sm_add (g h : Nat → Nat) : ∀ n, sp_sm (fun f => g f + h f) n = sp_sm g n + sp_sm h n := by
  intro n
  induction n with
  | zero => rfl
  | succ n ih => rw [sp_ss, sp_ss, sp_ss, ih]; omega
theorem sp_sm_lo {a : Nat} : ∀ n, n ≤ a → sp_sm (fun f => sp_d a f) n = 0 := by
  intro n
  induction n with
  | zero => intro _; rfl
  | succ n ih =>
    intro h
    rw [sp_ss, ih (by omega), sp_d0 (by omega)]
theorem sp_sm_d {a : Nat} : ∀ n, a < n → sp_sm (fun f => sp_d a f) n = 1 := by
  intro n
  induction n with
  | zero => intro h; omega
  | succ n ih =>
    intro h
    rw [sp_ss]
    by_cases q : a = n
    · rw [sp_sm_lo n (by omega), sp_d1 q]
    · rw [ih (by omega), sp_d0 q]
theorem sp_tot {F : Nat → Nat} {N : Nat} : ∀ n, (∀ s, s < n → F s < N) → sp_sm (fun f => sp_cn F f n) N = n := by
  intro n
  induction n with
  | zero => intro _; exact sp_sm_0 N
  | succ n ih =>
    intro h
    have e : sp_sm (fun f => sp_cn F f (n + 1)) N = sp_sm (fun f => sp_cn F f n) N + sp_sm (fun f => sp_d (F n) f) N := sp_sm_add (fun f => sp_cn F f n) (fun f => sp_d (F n) f) N
    rw [e, ih (fun s hs => h s (by omega)), sp_sm_d N (h n (by omega))]
theorem sp_ge {g : Nat → Nat} : ∀ n, (∀ f, f < n → 1 ≤ g f) → n ≤ sp_sm g n := by
  intro n
  induction n with
  | zero => intro _; exact Nat.le_refl 0
  | succ n ih =>
    intro h
    have h1 := ih (fun f hf => h f (by omega))
    have h2 := h n (by omega)
    rw [sp_ss]
    omega
theorem sp_gt {g : Nat → Nat} {x : Nat} (hx : 2 ≤ g x) : ∀ n, x < n → (∀ f, f < n → 1 ≤ g f) → n < sp_sm g n := by
  intro n
  induction n with
  | zero => intro h; omega
  | succ n ih =>
    intro h1 h
    rw [sp_ss]
    by_cases q : x = n
    · subst q
      have := sp_ge x (fun f hf => h f (by omega))
      omega
    · have h2 := ih (by omega) (fun f hf => h f (by omega))
      have h3 := h n (by omega)
      omega
theorem sp_pig {F : Nat → Nat} (hF : ∀ s, s < 64 → F s < 64) {x : Nat} (hx : x < 64) (h1 : 2 ≤ sp_cn F x 64) (h : ∀ f, f < 63 → sp_cn F f 64 ≠ 0) : sp_cn F 63 64 = 0 := by
  by_cases q : sp_cn F 63 64 = 0
  · exact q
  · have ha : ∀ f, f < 64 → 1 ≤ sp_cn F f 64 := by
      intro f hf
      by_cases e : f = 63
      · subst e; omega
      · have := h f (by omega); omega
    have h2 := sp_gt (g := fun f => sp_cn F f 64) (x := x) h1 64 hx ha
    have h3 := sp_tot (F := F) (N := 64) 64 hF
    omega

/-! C: the class's table of frames and its counts; the stored values against the reference's cells -/
def sp_X (F : Nat → Nat) (fo us : Nat → Int32) : Prop :=
  (∀ s, s < 64 → fo s = nI (F s) ∧ F s < 64) ∧ (∀ f, f < 64 → us f = nI (sp_cn F f 64))
def sp_V (F : Nat → Nat) (st ce : Nat → Int32) : Prop := ∀ s, s < 64 → ∀ c, c < 4 → st (F s * 4 + c) = ce (s * 4 + c)
def sp_A (F : Nat → Nat) (t : Nat) : Prop := ∀ s, s < 64 → s ≠ t → F s ≠ F t
/-- a' is a with its page t as a's page s -/
def sp_cp (a a' : Nat → Int32) (t s : Nat) : Prop := (∀ c, c < 4 → a' (t * 4 + c) = a (s * 4 + c)) ∧ (∀ j, (j < t * 4 ∨ t * 4 + 4 ≤ j) → a' j = a j)
/-- a' is a with its page t all 0 -/
def sp_z (a a' : Nat → Int32) (t : Nat) : Prop := (∀ c, c < 4 → a' (t * 4 + c) = 0) ∧ (∀ j, (j < t * 4 ∨ t * 4 + 4 ≤ j) → a' j = a j)
theorem sp_dec {fo us : Nat → Int32} {F : Nat → Nat} (h : sp_X F fo us) {t : Nat} (ht : t < 64) : ∀ f, f < 64 → upd us (F t) (us (F t) - 1) f = nI (sp_cn F f 64 - sp_d (F t) f) := by
  intro f hf
  by_cases e : f = F t
  · subst e
    have h1 := sp_cn_pos (F := F) (f := F t) rfl 64 ht
    rw [pk_us, h.2 _ hf, sp_d1 rfl]
    exact pk_sub h1
  · rw [pk_un e, h.2 f hf, sp_d0 (fun q => e q.symm)]
    rfl
theorem sp_X_share {F : Nat → Nat} {fo us : Nat → Int32} (h : sp_X F fo us) {s t : Nat} (hs : s < 64) (ht : t < 64) : sp_X (sp_up F t (F s)) (upd fo t (nI (F s))) (upd (upd us (F t) (us (F t) - 1)) (F s) (upd us (F t) (us (F t) - 1) (F s) + 1)) := by
  refine ⟨fun j hj => ?_, fun f hf => ?_⟩
  · by_cases e : j = t
    · subst e
      rw [pk_us, sp_us]
      exact ⟨rfl, (h.1 s hs).2⟩
    · rw [pk_un e, sp_un e]
      exact h.1 j hj
  · have hu := sp_cn_up (F := F) (f := f) (x := F s) 64 ht
    have hd : sp_d (F t) f ≤ sp_cn F f 64 := by
      by_cases q : F t = f
      · rw [sp_d1 q]; exact sp_cn_pos q 64 ht
      · rw [sp_d0 q]; exact Nat.zero_le _
    by_cases e : f = F s
    · subst e
      rw [pk_us, sp_dec h ht _ hf, nI_1]
      rw [sp_d1 (a := F s) rfl] at hu
      exact congrArg nI (by omega)
    · rw [pk_un e, sp_dec h ht f hf]
      rw [sp_d0 (a := F s) (fun q => e q.symm)] at hu
      exact congrArg nI (by omega)
theorem sp_X_fresh {F : Nat → Nat} {fo us : Nat → Int32} (h : sp_X F fo us) {t g : Nat} (ht : t < 64) (hg : g < 64) (h0 : ∀ s, s < 64 → F s ≠ g) (z : sp_cn F g 64 = 0) : sp_X (sp_up F t g) (upd fo t (nI g)) (upd (upd us (F t) (us (F t) - 1)) g 1) := by
  refine ⟨fun j hj => ?_, fun f hf => ?_⟩
  · by_cases e : j = t
    · subst e
      rw [pk_us, sp_us]
      exact ⟨rfl, hg⟩
    · rw [pk_un e, sp_un e]
      exact h.1 j hj
  · have hu := sp_cn_up (F := F) (f := f) (x := g) 64 ht
    by_cases e : f = g
    · subst e
      rw [sp_d1 (a := f) rfl, sp_d0 (h0 t ht), z] at hu
      rw [pk_us]
      exact congrArg nI (show 1 = sp_cn (sp_up F t f) f 64 by omega)
    · rw [pk_un e, sp_dec h ht f hf]
      rw [sp_d0 (a := g) (fun q => e q.symm)] at hu
      exact congrArg nI (by omega)
theorem sp_cn_none {F : Nat → Nat} {g : Nat} (z : sp_cn F g 64 = 0) : ∀ s, s < 64 → F s ≠ g := by
  intro s hs e
  have := sp_cn_pos e 64 hs
  omega
theorem sp_alone {F : Nat → Nat} {t : Nat} (ht : t < 64) (h : sp_cn F (F t) 64 = 1) : sp_A F t := by
  intro s hs hn e
  have := sp_cn_two (F := F) (f := F t) e rfl hn 64 hs ht
  omega
theorem sp_A_fresh {F : Nat → Nat} {t g : Nat} (h0 : ∀ s, s < 64 → F s ≠ g) : sp_A (sp_up F t g) t := by
  intro s hs hn
  rw [sp_us, sp_un hn]
  exact h0 s hs
theorem sp_V_cp {F : Nat → Nat} {st ce ce' : Nat → Int32} {s t : Nat} (h : sp_V F st ce) (hs : s < 64) (hc : sp_cp ce ce' t s) : sp_V (sp_up F t (F s)) st ce' := by
  intro j hj c hj4
  by_cases e : j = t
  · subst e
    rw [sp_us, h s hs c hj4, hc.1 c hj4]
  · rw [sp_un e, h j hj c hj4, hc.2 _ (by omega)]
theorem sp_V_fresh {F : Nat → Nat} {st st' ce : Nat → Int32} {t g : Nat} (h : sp_V F st ce) (h0 : ∀ s, s < 64 → F s ≠ g) (hc : sp_cp st st' g (F t)) : sp_V (sp_up F t g) st' ce := by
  intro j hj c hj4
  by_cases e : j = t
  · subst e
    rw [sp_us, hc.1 c hj4, h j hj c hj4]
  · have := h0 j hj
    rw [sp_un e, hc.2 _ (by omega), h j hj c hj4]
theorem sp_V_put {F : Nat → Nat} {st ce : Nat → Int32} {t c : Nat} {x : Int32} (h : sp_V F st ce) (ha : sp_A F t) (hc : c < 4) : sp_V F (upd st (F t * 4 + c) x) (upd ce (t * 4 + c) x) := by
  intro j hj d hd
  by_cases e : j = t
  · subst e
    by_cases e2 : d = c
    · subst e2
      rw [pk_us, pk_us]
    · rw [pk_un (by omega), pk_un (by omega), h j hj d hd]
  · have := ha j hj e
    rw [pk_un (by omega), pk_un (by omega), h j hj d hd]
theorem sp_V_z {F : Nat → Nat} {st st' ce ce' : Nat → Int32} {t : Nat} (h : sp_V F st ce) (ha : sp_A F t) (h1 : sp_z st st' (F t)) (h2 : sp_z ce ce' t) : sp_V F st' ce' := by
  intro j hj d hd
  by_cases e : j = t
  · subst e
    rw [h1.1 d hd, h2.1 d hd]
  · have := ha j hj e
    rw [h1.2 _ (by omega), h2.2 _ (by omega), h j hj d hd]
/-- the frames after n shares: slots t, t + 1 .. take what slots s, s + 1 .. name, one behind the other -/
def sp_run (F : Nat → Nat) (s t : Nat) : Nat → Nat → Nat
  | 0 => F
  | n + 1 => sp_up (sp_run F s t n) (t + n) (sp_run F s t n (s + n))
theorem sp_run_s {F : Nat → Nat} {s t n : Nat} : sp_run F s t (n + 1) = sp_up (sp_run F s t n) (t + n) (sp_run F s t n (s + n)) := rfl
def sp_sw (F : Nat → Nat) (a b : Nat) : Nat → Nat := sp_up (sp_up F a (F b)) b (F a)
theorem sp_X_sw {F : Nat → Nat} {fo us : Nat → Int32} (h : sp_X F fo us) {a b : Nat} (ha : a < 64) (hb : b < 64) : sp_X (sp_sw F a b) (upd (upd fo a (fo b)) b (fo a)) us := by
  refine ⟨fun j hj => ?_, fun f hf => ?_⟩
  · unfold sp_sw
    by_cases e : j = b
    · subst e
      rw [pk_us, sp_us]
      exact h.1 a ha
    · rw [pk_un e, sp_un e]
      by_cases e2 : j = a
      · subst e2
        rw [pk_us, sp_us]
        exact h.1 b hb
      · rw [pk_un e2, sp_un e2]
        exact h.1 j hj
  · have h1 := sp_cn_up (F := F) (f := f) (x := F b) 64 ha
    have h2 := sp_cn_up (F := sp_up F a (F b)) (f := f) (x := F a) 64 hb
    have h3 : sp_up F a (F b) b = F b := by
      by_cases e : b = a
      · subst e; exact sp_us
      · exact sp_un e
    rw [h3] at h2
    rw [h.2 f hf]
    unfold sp_sw
    exact congrArg nI (by omega)
theorem sp_V_sw {F : Nat → Nat} {st ce k1 k2 k3 : Nat → Int32} {a b : Nat} (h : sp_V F st ce) (ha : a < 64) (hb : b < 64) (h1 : sp_cp ce k1 64 a) (h2 : sp_cp k1 k2 a b) (h3 : sp_cp k2 k3 b 64) : sp_V (sp_sw F a b) st k3 := by
  intro j hj d hd
  unfold sp_sw
  by_cases e : j = b
  · subst e
    rw [sp_us, h a ha d hd, h3.1 d hd, h2.2 _ (by omega), h1.1 d hd]
  · rw [sp_un e, h3.2 _ (by omega)]
    by_cases e2 : j = a
    · subst e2
      rw [sp_us, h b hb d hd, h2.1 d hd, h1.2 _ (by omega)]
    · rw [sp_un e2, h j hj d hd, h2.2 _ (by omega), h1.2 _ (by omega)]

/-! D: are two pages alike: the flag after c cells, the count after p pages -/
def sp_e (f : Nat → Int32) (x y : Nat) : Nat → Int32
  | 0 => 1
  | c + 1 => if f (x * 4 + c) = f (y * 4 + c) then sp_e f x y c else 0
theorem sp_es_t {f : Nat → Int32} {x y c : Nat} (h : f (x * 4 + c) = f (y * 4 + c)) : sp_e f x y (c + 1) = sp_e f x y c := if_pos h
theorem sp_es_f {f : Nat → Int32} {x y c : Nat} (h : ¬ f (x * 4 + c) = f (y * 4 + c)) : sp_e f x y (c + 1) = 0 := if_neg h
theorem sp_e_01 {f : Nat → Int32} {x y : Nat} : ∀ c, sp_e f x y c = 0 ∨ sp_e f x y c = 1 := by
  intro c
  induction c with
  | zero => exact Or.inr rfl
  | succ c ih =>
    by_cases q : f (x * 4 + c) = f (y * 4 + c)
    · rw [sp_es_t q]; exact ih
    · rw [sp_es_f q]; exact Or.inl rfl
theorem sp_e_1 {f : Nat → Int32} {x y : Nat} : ∀ c, (∀ d, d < c → f (x * 4 + d) = f (y * 4 + d)) → sp_e f x y c = 1 := by
  intro c
  induction c with
  | zero => intro _; rfl
  | succ c ih =>
    intro h
    rw [sp_es_t (h c (by omega))]
    exact ih (fun d hd => h d (by omega))
theorem sp_e_0 {f : Nat → Int32} {x y d : Nat} (h : ¬ f (x * 4 + d) = f (y * 4 + d)) : ∀ c, d < c → sp_e f x y c = 0 := by
  intro c
  induction c with
  | zero => intro q; omega
  | succ c ih =>
    intro hd
    by_cases e : d = c
    · subst e; exact sp_es_f h
    · by_cases q : f (x * 4 + c) = f (y * 4 + c)
      · rw [sp_es_t q]; exact ih (by omega)
      · exact sp_es_f q
theorem sp_e_V {F : Nat → Nat} {st ce : Nat → Int32} (h : sp_V F st ce) {x y : Nat} (hx : x < 64) (hy : y < 64) : ∀ c, c ≤ 4 → sp_e st (F x) (F y) c = sp_e ce x y c := by
  intro c
  induction c with
  | zero => intro _; rfl
  | succ c ih =>
    intro hc
    unfold sp_e
    rw [h x hx c (by omega), h y hy c (by omega), ih (by omega)]
def sp_ct (f : Nat → Int32) (a b : Nat) : Nat → Nat
  | 0 => 0
  | p + 1 => if sp_e f (a * 8 + p) (b * 8 + p) 4 = 0 then sp_ct f a b p else sp_ct f a b p + 1
theorem sp_ct_0 {f : Nat → Int32} {a b p : Nat} (h : sp_e f (a * 8 + p) (b * 8 + p) 4 = 0) : sp_ct f a b (p + 1) = sp_ct f a b p := if_pos h
theorem sp_ct_1 {f : Nat → Int32} {a b p : Nat} (h : ¬ sp_e f (a * 8 + p) (b * 8 + p) 4 = 0) : sp_ct f a b (p + 1) = sp_ct f a b p + 1 := if_neg h
end
section
/-! E: small facts on numbers and indices -/
def sp_o (x : Int32) (n : Nat) : Prop := x < 0 ∨ nI n ≤ x
theorem sp_c (x : Int32) (n : Nat) (hn : n < 2 ^ 31) : sp_o x n ∨ ∃ j : Nat, j < n ∧ x = nI j := by
  rcases pk_ix x hn with h | h | h
  · exact Or.inl (Or.inl h)
  · exact Or.inl (Or.inr h)
  · exact Or.inr h
theorem sp_10 : ¬ (1 : Int32) = 0 := by decide
theorem sp_le4 {c : Nat} (h : 4 ≤ c) (hc : c < 2 ^ 31) : (4 : Int32) ≤ nI c := nI_le (a := 4) h hc
theorem sp_nle4 {c : Nat} (h : c < 4) : ¬ (4 : Int32) ≤ nI c := nI_ge (b := 4) h (by decide)
theorem sp_le8 {c : Nat} (h : 8 ≤ c) (hc : c < 2 ^ 31) : (8 : Int32) ≤ nI c := nI_le (a := 8) h hc
theorem sp_nle8 {c : Nat} (h : c < 8) : ¬ (8 : Int32) ≤ nI c := nI_ge (b := 8) h (by decide)
theorem sp_ix4 (g c : Nat) : nI g * 4 + nI c = nI (g * 4 + c) := by
  rw [show (4 : Int32) = nI 4 from rfl, pk_mul, nI_add]
theorem sp_cl4 {g c : Nat} (h : g * 4 + c < 2 ^ 31) : (nI g * 4 + nI c).toNatClampNeg = g * 4 + c := by
  rw [sp_ix4, nI_clamp h]
theorem sp_in4 {g c N : Nat} (h : g * 4 + c < N) (hN : N < 2 ^ 31) : vp_in (nI g * 4 + nI c) N := by
  rw [sp_ix4]
  exact vp_in_nI h hN
theorem sp_ix8 (g c : Nat) : nI g * 8 + nI c = nI (g * 8 + c) := by
  rw [show (8 : Int32) = nI 8 from rfl, pk_mul, nI_add]
theorem sp_ixp (g c : Nat) : 32 + nI g * 8 + nI c = nI (32 + g * 8 + c) := by
  rw [show (8 : Int32) = nI 8 from rfl, show (32 : Int32) = nI 32 from rfl, pk_mul, nI_add, nI_add]
/-- the copy of page s onto page t after c cells -/
def sp_pc (a a' : Nat → Int32) (t s c : Nat) : Prop := (∀ d, d < c → a' (t * 4 + d) = a (s * 4 + d)) ∧ (∀ j, (j < t * 4 ∨ t * 4 + c ≤ j) → a' j = a j)
theorem sp_pc_0 {a : Nat → Int32} {t s : Nat} : sp_pc a a t s 0 := ⟨fun d hd => by omega, fun _ _ => rfl⟩
theorem sp_pc_s {a a' : Nat → Int32} {t s c : Nat} (h : sp_pc a a' t s c) (hc : c < 4) : sp_pc a (upd a' (t * 4 + c) (a' (s * 4 + c))) t s (c + 1) := by
  have e : a' (s * 4 + c) = a (s * 4 + c) := h.2 _ (by omega)
  refine ⟨fun d hd => ?_, fun j hj => ?_⟩
  · by_cases q : d = c
    · subst q
      rw [pk_us, e]
    · rw [pk_un (by omega)]
      exact h.1 d (by omega)
  · rw [pk_un (by omega)]
    exact h.2 j (by omega)
theorem sp_pc_4 {a a' : Nat → Int32} {t s : Nat} (h : sp_pc a a' t s 4) : sp_cp a a' t s := h
/-- page t's first c cells are 0 now -/
def sp_pz (a a' : Nat → Int32) (t c : Nat) : Prop := (∀ d, d < c → a' (t * 4 + d) = 0) ∧ (∀ j, (j < t * 4 ∨ t * 4 + c ≤ j) → a' j = a j)
theorem sp_pz_0 {a : Nat → Int32} {t : Nat} : sp_pz a a t 0 := ⟨fun d hd => by omega, fun _ _ => rfl⟩
theorem sp_pz_s {a a' : Nat → Int32} {t c : Nat} (h : sp_pz a a' t c) : sp_pz a (upd a' (t * 4 + c) 0) t (c + 1) := by
  refine ⟨fun d hd => ?_, fun j hj => ?_⟩
  · by_cases q : d = c
    · subst q
      rw [pk_us]
    · rw [pk_un (by omega)]
      exact h.1 d (by omega)
  · rw [pk_un (by omega)]
    exact h.2 j (by omega)
theorem sp_pz_4 {a a' : Nat → Int32} {t : Nat} (h : sp_pz a a' t 4) : sp_z a a' t := h

/-! F: the class's small methods -/
theorem xb_t {post : Int32 → Prop} {j n : Nat} (h : j < n) (hn : n < 2 ^ 31) (p : post 1) : wpX_isBelow post (nI j) (nI n) :=
  br_f (nI_pos (by omega)) (br_f (nI_ge h hn) p)
theorem xb_f {post : Int32 → Prop} {x : Int32} {n : Nat} (h : sp_o x n) (p : post 0) : wpX_isBelow post x (nI n) := by
  by_cases h0 : x < 0
  · exact br_t h0 p
  · rcases h with h | h
    · exact absurd h h0
    · exact br_f h0 (br_t h p)
theorem xp_t {post : Int32 → Prop} {a b : Nat} (ha : a < 4) (hb : b < 8) (p : post 1) : wpX_isSpacePage post (nI a) (nI b) := by
  unfold wpX_isSpacePage
  exact xb_t (n := 4) ha (by decide) (br_f sp_10 (xb_t (n := 8) hb (by decide) (br_f sp_10 p)))
theorem xp_f {post : Int32 → Prop} {x y : Int32} (h : sp_o x 4 ∨ sp_o y 8) (p : post 0) : wpX_isSpacePage post x y := by
  unfold wpX_isSpacePage
  rcases sp_c x 4 (by decide) with hx | ⟨a, ha, rfl⟩
  · exact xb_f (n := 4) hx (br_t rfl p)
  · rcases h with h | h
    · exact xb_f (n := 4) h (br_t rfl p)
    · exact xb_t (n := 4) ha (by decide) (br_f sp_10 (xb_f (n := 8) h (br_t rfl p)))
theorem xss {post : Int32 → Prop} {a b : Nat} (p : post (nI (a * 8 + b))) : wpX_spaceSlot post (nI a) (nI b) := by
  unfold wpX_spaceSlot
  rw [sp_ix8]
  exact p
theorem xps {post : Int32 → Prop} {a b : Nat} (p : post (nI (32 + a * 8 + b))) : wpX_parcelSlot post (nI a) (nI b) := by
  unfold wpX_parcelSlot
  rw [sp_ixp]
  exact p
theorem xfi_t {post : Int32 → Prop} {f m : Nat} (h : f + m ≤ 8) (p : post 1) : wpX_fits post (nI f) (nI m) := by
  unfold wpX_fits
  have e : (8 : Int32) - nI f = nI (8 - f) := pk_sub (a := 8) (by omega)
  rw [e]
  exact br_f (nI_nlt (by omega) (by omega)) p
theorem xfi_f {post : Int32 → Prop} {f m : Nat} (hf : f < 8) (hm : m < 2 ^ 31) (h : 8 < f + m) (p : post 0) : wpX_fits post (nI f) (nI m) := by
  unfold wpX_fits
  have e : (8 : Int32) - nI f = nI (8 - f) := pk_sub (a := 8) (by omega)
  rw [e]
  exact br_t (nI_lt (by omega) hm) p

/-! G: a frame that no slot names -/
theorem xf {post : Int32 → Prop} {fo us st hd : Nat → Int32} (hp : ∀ g, g ≤ 63 → (∀ f, f < g → ¬ us f = 0) → (g < 63 → us g = 0) → post (nI g)) : ∀ d i : Nat, i + d = 63 → (∀ f, f < i → ¬ us f = 0) → wX_unusedFrame_2 post fo us st hd (d + 1) (nI i) := by
  intro d
  induction d with
  | zero =>
    intro i hi h
    exact br_t (nI_le (a := 63) (by omega) (by omega)) (hp i (by omega) h (fun q => by omega))
  | succ d ih =>
    intro i hi h
    have ci : (nI i).toNatClampNeg = i := nI_clamp (by omega)
    refine br_f (nI_ge (b := 63) (by omega) (by decide)) ⟨vp_in_nI (by omega) (by decide), ?_⟩
    by_cases z : us i = 0
    · exact br_t (by rw [ci]; exact z) (hp i (by omega) h (fun _ => z))
    · refine br_f (by rw [ci]; exact z) (fun y ey => ?_)
      rw [ey, nI_1 i]
      exact ih (i + 1) (by omega) (lt_s h z)
theorem xfu {post : Int32 → Prop} {F : Nat → Nat} {fo us st hd : Nat → Int32} (hX : sp_X F fo us) {x : Nat} (hx : x < 64) (h2 : 2 ≤ sp_cn F x 64) (hp : ∀ g, g < 64 → sp_cn F g 64 = 0 → post (nI g)) : wpX_unusedFrame post (fo, us, st, hd) := by
  have ez : ∀ f, f < 64 → (us f = 0 ↔ sp_cn F f 64 = 0) := by
    intro f hf
    have hl := sp_cn_le (F := F) (f := f) 64
    rw [hX.2 f hf, ← nI_0, nI_eq (by omega) (by omega)]
  refine ⟨64, xf (fun g hg hn hz => ?_) 63 0 rfl lt_0⟩
  refine hp g (by omega) ?_
  by_cases q : g < 63
  · exact (ez g (by omega)).mp (hz q)
  · have e : g = 63 := by omega
    subst e
    exact sp_pig (fun s hs => (hX.1 s hs).2) hx h2 (fun f hf z => hn f hf ((ez f (by omega)).mpr z))

/-! H: a slot's own frame -/
theorem xc {post : Int32 → SX → Prop} {fo us st hd : Nat → Int32} {t f g : Nat} (ht : t < 64) (hf : f < 64) (hg : g < 64) (hp : ∀ st', sp_cp st st' g f → post (nI g) (upd fo t (nI g), upd (upd us f (us f - 1)) g 1, st', hd)) : ∀ (d c : Nat) (s1 : Nat → Int32), c + d = 4 → sp_pc st s1 g f c → wX_unsharedFrame_27 post (nI t) (nI f) (nI g) (d + 1) (nI c) fo us s1 hd := by
  have ct : (nI t).toNatClampNeg = t := nI_clamp (by omega)
  have cf : (nI f).toNatClampNeg = f := nI_clamp (by omega)
  have cg : (nI g).toNatClampNeg = g := nI_clamp (by omega)
  intro d
  induction d with
  | zero =>
    intro c s1 hc hs
    have e : c = 4 := by omega
    subst e
    refine br_t (sp_le4 (by omega) (by omega)) ⟨vp_in_nI hf (by decide), vp_in_nI hf (by decide), fun a1 e1 => ⟨vp_in_nI hg (by decide), fun a2 e2 => ⟨vp_in_nI ht (by decide), fun a3 e3 => ?_⟩⟩⟩
    rw [cf] at e1
    rw [cg] at e2
    rw [ct] at e3
    subst e3 e2 e1
    exact hp s1 (sp_pc_4 hs)
  | succ d ih =>
    intro c s1 hc hs
    have kf : (nI f * 4 + nI c).toNatClampNeg = f * 4 + c := sp_cl4 (by omega)
    have kg : (nI g * 4 + nI c).toNatClampNeg = g * 4 + c := sp_cl4 (by omega)
    refine br_f (sp_nle4 (by omega)) ⟨sp_in4 (by omega) (by decide), sp_in4 (by omega) (by decide), fun s2 e2 y ey => ?_⟩
    rw [kf, kg] at e2
    rw [ey, nI_1 c]
    subst e2
    exact ih (c + 1) _ (by omega) (sp_pc_s hs (by omega))
theorem xu {post : Int32 → SX → Prop} {F : Nat → Nat} {fo us st hd ce : Nat → Int32} (hX : sp_X F fo us) (hV : sp_V F st ce) {t : Nat} (ht : t < 64) (hp : ∀ (F' : Nat → Nat) (fo' us' st' : Nat → Int32), sp_X F' fo' us' → sp_V F' st' ce → sp_A F' t → F' t < 64 → post (nI (F' t)) (fo', us', st', hd)) : wpX_unsharedFrame post (fo, us, st, hd) (nI t) := by
  have ct : (nI t).toNatClampNeg = t := nI_clamp (by omega)
  have hf1 := (hX.1 t ht).1
  have hf2 := (hX.1 t ht).2
  have cf : (nI (F t)).toNatClampNeg = F t := nI_clamp (by omega)
  have hu := hX.2 (F t) hf2
  have hl := sp_cn_le (F := F) (f := F t) 64
  have hpos := sp_cn_pos (F := F) (f := F t) rfl 64 ht
  refine ⟨vp_in_nI ht (by decide), fun x ex => ?_⟩
  rw [ct, hf1] at ex
  subst ex
  refine ⟨vp_in_nI hf2 (by decide), ?_⟩
  by_cases h1 : sp_cn F (F t) 64 = 1
  · have z : us (nI (F t)).toNatClampNeg = 1 := by rw [cf, hu, h1]; rfl
    exact br_t z (hp F fo us st hX hV (sp_alone ht h1) hf2)
  · have z : ¬ us (nI (F t)).toNatClampNeg = 1 := by
      rw [cf, hu]
      intro q
      exact h1 ((nI_eq (b := 1) (by omega) (by omega)).mp q)
    refine br_f z (xfu hX hf2 (by omega) (fun g hg hz => ?_))
    have hn := sp_cn_none hz
    refine ⟨5, xc ht hf2 hg (fun st' hc => ?_) 4 0 st rfl sp_pc_0⟩
    have hX' := sp_X_fresh hX ht hg hn hz
    have hV' := sp_V_fresh (t := t) hV hn hc
    have hq := hp (sp_up F t g) _ _ st' hX' hV' (sp_A_fresh hn) (by rw [sp_us]; exact hg)
    rw [sp_us] at hq
    exact hq

/-! I: sharing -/
theorem xs {post : SX → Prop} {F : Nat → Nat} {fo us st hd : Nat → Int32} (hX : sp_X F fo us) {s t : Nat} (hs : s < 64) (ht : t < 64) (hp : ∀ fo' us', sp_X (sp_up F t (F s)) fo' us' → post (fo', us', st, hd)) : wpX_share post (fo, us, st, hd) (nI s) (nI t) := by
  have ct : (nI t).toNatClampNeg = t := nI_clamp (by omega)
  have cs : (nI s).toNatClampNeg = s := nI_clamp (by omega)
  have ht2 := (hX.1 t ht).2
  have hs2 := (hX.1 s hs).2
  have cft : (nI (F t)).toNatClampNeg = F t := nI_clamp (by omega)
  have cfs : (nI (F s)).toNatClampNeg = F s := nI_clamp (by omega)
  have et : fo (nI t).toNatClampNeg = nI (F t) := by rw [ct]; exact (hX.1 t ht).1
  have it : vp_in (fo (nI t).toNatClampNeg) 64 := by rw [et]; exact vp_in_nI ht2 (by decide)
  have is : vp_in (nI (F s)) 64 := vp_in_nI hs2 (by decide)
  refine ⟨vp_in_nI hs (by decide), fun x ex => ?_⟩
  rw [cs, (hX.1 s hs).1] at ex
  subst ex
  refine ⟨vp_in_nI ht (by decide), it, it, fun a6 e6 => ⟨is, is, fun a9 e9 => ⟨vp_in_nI ht (by decide), fun f11 e11 => ?_⟩⟩⟩
  rw [et, cft] at e6
  rw [cfs] at e9
  rw [ct] at e11
  subst e11 e9 e6
  exact hp _ _ (sp_X_share hX hs ht)
theorem xr_l {post : SX → Prop} {F : Nat → Nat} {st hd : Nat → Int32} {s t m : Nat} (hs : s + m ≤ 64) (ht : t + m ≤ 64) (hp : ∀ fo' us', sp_X (sp_run F s t m) fo' us' → post (fo', us', st, hd)) : ∀ (d k : Nat) (fo us : Nat → Int32), k + d = m → sp_X (sp_run F s t k) fo us → wX_shareRun_3 post (nI s) (nI t) (nI m) (d + 1) (nI k) fo us st hd := by
  intro d
  induction d with
  | zero =>
    intro k fo us hk h
    have e : k = m := by omega
    subst e
    exact br_t (nI_le (Nat.le_refl k) (by omega)) (hp fo us h)
  | succ d ih =>
    intro k fo us hk h
    refine br_f (nI_ge (by omega) (by omega)) ?_
    rw [nI_add s k, nI_add t k]
    refine xs h (by omega) (by omega) (fun fo' us' h' y ey => ?_)
    rw [ey, nI_1 k]
    exact ih (k + 1) fo' us' (by omega) h'
theorem xr {post : SX → Prop} {F : Nat → Nat} {fo us st hd : Nat → Int32} (hX : sp_X F fo us) {s t m : Nat} (hs : s + m ≤ 64) (ht : t + m ≤ 64) (hp : ∀ fo' us', sp_X (sp_run F s t m) fo' us' → post (fo', us', st, hd)) : wpX_shareRun post (fo, us, st, hd) (nI s) (nI t) (nI m) :=
  ⟨m + 1, xr_l hs ht hp m 0 fo us (by omega) hX⟩

/-! J: clear's loop; two frames compared -/
theorem xz {post : Int32 → SX → Prop} {fo us st hd : Nat → Int32} {g : Nat} (hg : g < 64) (hp : ∀ st', sp_z st st' g → post 0 (fo, us, st', hd)) : ∀ (d c : Nat) (s1 : Nat → Int32), c + d = 4 → sp_pz st s1 g c → wX_clear_26 post (nI g) (d + 1) (nI c) fo us s1 hd := by
  intro d
  induction d with
  | zero =>
    intro c s1 hc hs
    have e : c = 4 := by omega
    subst e
    exact br_t (sp_le4 (by omega) (by omega)) (hp s1 (sp_pz_4 hs))
  | succ d ih =>
    intro c s1 hc hs
    have kg : (nI g * 4 + nI c).toNatClampNeg = g * 4 + c := sp_cl4 (by omega)
    refine br_f (sp_nle4 (by omega)) ⟨sp_in4 (by omega) (by decide), fun s2 e2 y ey => ?_⟩
    rw [kg] at e2
    rw [ey, nI_1 c]
    subst e2
    exact ih (c + 1) _ (by omega) (sp_pz_s hs)
theorem xv_l {post : Int32 → Prop} {fo us st hd : Nat → Int32} {f g : Nat} (hf : f < 64) (hg : g < 64) (hp : post (sp_e st f g 4)) : ∀ d c : Nat, c + d = 4 → (∀ e, e < c → st (f * 4 + e) = st (g * 4 + e)) → wX_sameValues_2 post (nI f) (nI g) fo us st hd (d + 1) (nI c) := by
  intro d
  induction d with
  | zero =>
    intro c hc h
    have e : c = 4 := by omega
    subst e
    rw [sp_e_1 4 h] at hp
    exact br_t (sp_le4 (by omega) (by omega)) hp
  | succ d ih =>
    intro c hc h
    have kf : (nI f * 4 + nI c).toNatClampNeg = f * 4 + c := sp_cl4 (by omega)
    have kg : (nI g * 4 + nI c).toNatClampNeg = g * 4 + c := sp_cl4 (by omega)
    refine br_f (sp_nle4 (by omega)) ⟨sp_in4 (by omega) (by decide), sp_in4 (by omega) (by decide), ?_⟩
    by_cases q : st (f * 4 + c) = st (g * 4 + c)
    · refine br_t (by rw [kf, kg]; exact q) (fun y ey => ?_)
      rw [ey, nI_1 c]
      exact ih (c + 1) (by omega) (lt_s h q)
    · rw [sp_e_0 q 4 (by omega)] at hp
      exact br_f (by rw [kf, kg]; exact q) hp
theorem xv {post : Int32 → Prop} {fo us st hd : Nat → Int32} {f g : Nat} (hf : f < 64) (hg : g < 64) (hp : post (sp_e st f g 4)) : wpX_sameValues post (fo, us, st, hd) (nI f) (nI g) :=
  ⟨5, xv_l hf hg hp 4 0 rfl lt_0⟩
theorem xa_l {post : Int32 → Prop} {F : Nat → Nat} {fo us st hd ce : Nat → Int32} (hX : sp_X F fo us) (hV : sp_V F st ce) {a b : Nat} (ha : a < 4) (hb : b < 4) (hp : post (nI (sp_ct ce a b 8))) : ∀ d p : Nat, p + d = 8 → wX_alike_23 post (nI a) (nI b) fo us st hd (d + 1) (nI (sp_ct ce a b p)) (nI p) := by
  intro d
  induction d with
  | zero =>
    intro p hd
    have e : p = 8 := by omega
    subst e
    exact br_t (sp_le8 (by omega) (by omega)) hp
  | succ d ih =>
    intro p hd
    have h1 : a * 8 + p < 64 := by omega
    have h2 : b * 8 + p < 64 := by omega
    have e1 : fo (nI (a * 8 + p)).toNatClampNeg = nI (F (a * 8 + p)) := by rw [nI_clamp (by omega)]; exact (hX.1 _ h1).1
    have e2 : fo (nI (b * 8 + p)).toNatClampNeg = nI (F (b * 8 + p)) := by rw [nI_clamp (by omega)]; exact (hX.1 _ h2).1
    have k := ih (p + 1) (by omega)
    refine br_f (sp_nle8 (by omega)) (xss (xss ⟨vp_in_nI h1 (by decide), vp_in_nI h2 (by decide), ?_⟩))
    rw [e1, e2]
    refine xv (hX.1 _ h1).2 (hX.1 _ h2).2 ?_
    rw [sp_e_V hV h1 h2 4 (by omega)]
    by_cases z : sp_e ce (a * 8 + p) (b * 8 + p) 4 = 0
    · rw [sp_ct_0 z] at k
      refine br_t z (fun y ey => ?_)
      rw [ey, nI_1 p]
      exact k
    · rw [sp_ct_1 z] at k
      refine br_f z (fun y ey w ew => ?_)
      rw [ey, ew, nI_1 p, nI_1 (sp_ct ce a b p)]
      exact k
end
