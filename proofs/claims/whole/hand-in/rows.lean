section
theorem pk_us {f : Nat → Int32} {k : Nat} {x : Int32} : upd f k x k = x := if_pos rfl
theorem pk_un {f : Nat → Int32} {k j : Nat} {x : Int32} (h : j ≠ k) : upd f k x j = f j := if_neg h
theorem pk_sub {a b : Nat} (h : b ≤ a) : nI a - nI b = nI (a - b) := by
  obtain ⟨c, rfl⟩ : ∃ c, a = c + b := ⟨a - b, by omega⟩
  rw [← nI_add, Int32.add_sub_cancel, Nat.add_sub_cancel]
theorem pk_m1 (n : Nat) : nI (n + 1) + (-1) = nI n := by
  rw [← nI_1, Int32.add_assoc, show (1 : Int32) + (-1) = 0 from rfl, Int32.add_zero]
theorem pk_mul (a b : Nat) : nI a * nI b = nI (a * b) := (Int32.ofNat_mul a b).symm
theorem pk_div {a d : Nat} (ha : a < 2 ^ 31) (h0 : 0 < d) (hd : d < 2 ^ 31) : nI a / nI d = nI (a / d) := by
  apply Int32.toInt_inj.mp
  rw [lg_idiv_nonneg (by rw [nI_toInt ha]; omega) (by rw [nI_toInt hd]; omega), nI_toInt ha, nI_toInt hd, nI_toInt (Nat.lt_of_le_of_lt (Nat.div_le_self a d) ha)]
  first | rfl | exact (Int.natCast_ediv _ _).symm
theorem pk_rem {a d : Nat} (ha : a < 2 ^ 31) (h0 : 0 < d) (hd : d < 2 ^ 31) : nI a - nI a / nI d * nI d = nI (a % d) := by
  rw [pk_div ha h0 hd, pk_mul, pk_sub (Nat.div_mul_le_self a d)]
  exact congrArg nI (by have := Nat.div_add_mod' a d; omega)
theorem pk_ix (x : Int32) {n : Nat} (hn : n < 2 ^ 31) : x < 0 ∨ nI n ≤ x ∨ ∃ j : Nat, j < n ∧ x = nI j := by
  by_cases h : x < 0
  · exact Or.inl h
  · obtain ⟨j, hj, rfl⟩ := nI_of h
    by_cases h2 : j < n
    · exact Or.inr (Or.inr ⟨j, h2, rfl⟩)
    · exact Or.inr (Or.inl (nI_le (by omega) hj))
theorem pk_le {x y : Int32} {A B : Prop} (a b : Nat) (f : a ≤ b → A) (g : b < a → B) (hx : x = nI a := by rfl) (hy : y = nI b := by rfl) (ha : a < 2 ^ 31 := by omega) (hb : b < 2 ^ 31 := by omega) : (x ≤ y → A) ∧ (¬ x ≤ y → B) := by
  subst hx hy
  rw [nI_leI ha hb]
  exact ⟨f, fun z => g (by omega)⟩
theorem pk_lt {x y : Int32} {A B : Prop} (a b : Nat) (f : a < b → A) (g : b ≤ a → B) (hx : x = nI a := by rfl) (hy : y = nI b := by rfl) (ha : a < 2 ^ 31 := by omega) (hb : b < 2 ^ 31 := by omega) : (x < y → A) ∧ (¬ x < y → B) := by
  subst hx hy
  rw [nI_ltI ha hb]
  exact ⟨f, fun z => g (by omega)⟩
theorem pk_eq {x y : Int32} {A B : Prop} (a b : Nat) (f : a = b → A) (g : a ≠ b → B) (hx : x = nI a := by rfl) (hy : y = nI b := by rfl) (ha : a < 2 ^ 31 := by omega) (hb : b < 2 ^ 31 := by omega) : (x = y → A) ∧ (¬ x = y → B) := by
  subst hx hy
  rw [nI_eq ha hb]
  exact ⟨f, g⟩
theorem pk_in {x : Int32} (n N : Nat) (h : n < N) (hx : x = nI n := by rfl) (hN : N < 2 ^ 31 := by omega) : vp_in x N := by
  subst hx
  exact vp_in_nI h hN
theorem pk_cl {x : Int32} (n : Nat) (hx : x = nI n := by rfl) (h : n < 2 ^ 31 := by omega) : x.toNatClampNeg = n := by
  subst hx
  exact nI_clamp h
theorem pk_tn {n : Nat} (h : n < 2 ^ 32) : (nI n).toBitVec.toNat = n := Nat.mod_eq_of_lt h
theorem pk_shl (a s : Int32) (k : Nat) (hs : (s.toBitVec.smod 32).toNat = k) : (a <<< s).toBitVec.toNat = a.toBitVec.toNat * 2 ^ k % 2 ^ 32 := by
  show (a.toBitVec <<< (s.toBitVec.smod 32).toNat).toNat = _
  rw [hs, BitVec.toNat_shiftLeft, Nat.shiftLeft_eq]
theorem pk_shlN {n : Nat} (s : Int32) (k : Nat) (hs : (s.toBitVec.smod 32).toNat = k) (h : n * 2 ^ k < 2 ^ 32) : nI n <<< s = nI (n * 2 ^ k) := by
  apply Int32.toBitVec_inj.mp
  apply BitVec.eq_of_toNat_eq
  have hn : n < 2 ^ 32 := Nat.lt_of_le_of_lt (Nat.le_mul_of_pos_right n (Nat.two_pow_pos k)) h
  rw [pk_shl _ _ k hs, pk_tn hn, pk_tn h, Nat.mod_eq_of_lt h]
theorem s_l : ∀ n, n < 32 → ((nI n &&& 31).toBitVec.smod 32).toNat = n := by decide +kernel
/-- n blocks from s on are all free (X's marks: 0 is free) -/
def ga_fb (a : Nat → Int32) (s n : Nat) : Bool := decide (∀ j, j < n → a (s + j) = 0)
theorem ga_fb_t {a : Nat → Int32} {s n : Nat} : ga_fb a s n = true ↔ ∀ j, j < n → a (s + j) = 0 := by
  unfold ga_fb; exact decide_eq_true_iff
theorem ga_fb_0 (a : Nat → Int32) (s : Nat) : ga_fb a s 0 = true := ga_fb_t.mpr fun j hj => absurd hj (Nat.not_lt_zero j)
theorem ga_fb_n {a : Nat → Int32} {s n : Nat} (h : ¬ a s = 0) : ga_fb a s (n + 1) = false := by
  cases e : ga_fb a s (n + 1) with
  | false => rfl
  | true => exact absurd (ga_fb_t.mp e 0 (Nat.succ_pos n)) h
theorem ga_fb_s {a : Nat → Int32} {s n : Nat} (h : a s = 0) : ga_fb a s (n + 1) = ga_fb a (s + 1) n := by
  have e : (ga_fb a s (n + 1) = true) ↔ (ga_fb a (s + 1) n = true) := by
    rw [ga_fb_t, ga_fb_t]
    constructor
    · intro g j hj
      have := g (j + 1) (by omega)
      rwa [show s + (j + 1) = s + 1 + j by omega] at this
    · intro g j hj
      cases j with
      | zero => exact h
      | succ j =>
        have := g j (by omega)
        rwa [show s + 1 + j = s + (j + 1) by omega] at this
  exact Bool.eq_iff_iff.mpr e
theorem ga_fb_1 (a : Nat → Int32) (s : Nat) : ga_fb a s 1 = true ↔ a s = 0 := by
  rw [ga_fb_t]
  constructor
  · intro g; exact g 0 (by omega)
  · intro g j hj
    have : j = 0 := by omega
    subst this; exact g
/-- the first free run of size p among c of them, the first at s: X's scan, run by run -/
def ga_sc (a : Nat → Int32) (p : Nat) : Nat → Nat → Option Nat
  | 0, _ => none
  | c + 1, s => if ga_fb a s p = true then some s else ga_sc a p c (s + p)
/-- the same block by block over d blocks from b on: Y's scan -/
def ga_sy (a : Nat → Int32) (p : Nat) : Nat → Nat → Option Nat
  | 0, _ => none
  | d + 1, b => if b % p = 0 ∧ ga_fb a b p = true then some b else ga_sy a p d (b + 1)
theorem ga_sy_skip {a : Nat → Int32} {p d : Nat} : ∀ t b : Nat, (∀ j, j < t → (b + j) % p ≠ 0) → ga_sy a p (t + d) b = ga_sy a p d (b + t) := by
  intro t
  induction t with
  | zero => intro b _; rw [Nat.zero_add, Nat.add_zero]
  | succ t ih =>
    intro b h
    have h0 : b % p ≠ 0 := h 0 (by omega)
    have e : t + 1 + d = (t + d) + 1 := by omega
    rw [e]
    show (if b % p = 0 ∧ ga_fb a b p = true then some b else ga_sy a p (t + d) (b + 1)) = _
    rw [if_neg (fun z => h0 z.1), ih (b + 1) (fun j hj => by
      have := h (j + 1) (by omega)
      rwa [show b + (j + 1) = b + 1 + j by omega] at this)]
    rw [show b + 1 + t = b + (t + 1) by omega]
theorem ga_md {p q j : Nat} (h : j + 1 < p) : (q * p + 1 + j) % p ≠ 0 := by
  rw [show q * p + 1 + j = (1 + j) + p * q by rw [Nat.mul_comm q p]; omega, Nat.add_mul_mod_self_left, Nat.mod_eq_of_lt (by omega)]
  omega
theorem ga_sy_sc {a : Nat → Int32} {p : Nat} (hp : 0 < p) : ∀ c q : Nat, ga_sy a p (c * p) (q * p) = ga_sc a p c (q * p) := by
  intro c
  induction c with
  | zero => intro q; rw [Nat.zero_mul]; rfl
  | succ c ih =>
    intro q
    have e : (c + 1) * p = ((p - 1) + c * p) + 1 := by rw [Nat.succ_mul]; omega
    have e2 : q * p + 1 + (p - 1) = (q + 1) * p := by rw [Nat.succ_mul]; omega
    have e3 : q * p + p = (q + 1) * p := by rw [Nat.succ_mul]
    rw [e]
    show (if q * p % p = 0 ∧ ga_fb a (q * p) p = true then some (q * p) else ga_sy a p ((p - 1) + c * p) (q * p + 1)) = (if ga_fb a (q * p) p = true then some (q * p) else ga_sc a p c (q * p + p))
    rw [ga_sy_skip (p - 1) (q * p + 1) (fun j hj => ga_md (by omega)), e2, e3, ih (q + 1)]
    by_cases f : ga_fb a (q * p) p = true
    · rw [if_pos f, if_pos ⟨Nat.mul_mod_left q p, f⟩]
    · rw [if_neg f, if_neg (fun z => f z.2)]
theorem ga_sc_add {a : Nat → Int32} {p : Nat} : ∀ c d s : Nat, ga_sc a p (c + d) s = match ga_sc a p c s with | some r => some r | none => ga_sc a p d (s + c * p) := by
  intro c
  induction c with
  | zero => intro d s; rw [Nat.zero_add, Nat.zero_mul, Nat.add_zero]; rfl
  | succ c ih =>
    intro d s
    rw [show c + 1 + d = (c + d) + 1 by omega]
    show (if ga_fb a s p = true then some s else ga_sc a p (c + d) (s + p)) = match (if ga_fb a s p = true then some s else ga_sc a p c (s + p)) with | some r => some r | none => ga_sc a p d (s + (c + 1) * p)
    by_cases f : ga_fb a s p = true
    · rw [if_pos f, if_pos f]
    · rw [if_neg f, if_neg f, ih d (s + p), show s + p + c * p = s + (c + 1) * p by rw [Nat.succ_mul]; omega]
theorem ga_sc_in {a : Nat → Int32} {p : Nat} : ∀ c s r : Nat, ga_sc a p c s = some r → s ≤ r ∧ r + p ≤ s + c * p ∧ ga_fb a r p = true := by
  intro c
  induction c with
  | zero => intro s r h; exact nomatch h
  | succ c ih =>
    intro s r h
    have e : s + (c + 1) * p = s + p + c * p := by rw [Nat.succ_mul]; omega
    have h' : (if ga_fb a s p = true then some s else ga_sc a p c (s + p)) = some r := h
    by_cases f : ga_fb a s p = true
    · rw [if_pos f] at h'
      cases h'
      exact ⟨Nat.le_refl _, by rw [e]; exact Nat.le_add_right _ _, f⟩
    · rw [if_neg f] at h'
      obtain ⟨h1, h2, h3⟩ := ih (s + p) r h'
      exact ⟨by omega, by rw [e]; exact h2, h3⟩
/-- how many of c runs of size p, the first at s, are free -/
def ga_cn (a : Nat → Int32) (p : Nat) : Nat → Nat → Nat
  | 0, _ => 0
  | c + 1, s => (if ga_fb a s p = true then 1 else 0) + ga_cn a p c (s + p)
/-- the same block by block -/
def ga_cy (a : Nat → Int32) (p : Nat) : Nat → Nat → Nat
  | 0, _ => 0
  | d + 1, b => (if b % p = 0 ∧ ga_fb a b p = true then 1 else 0) + ga_cy a p d (b + 1)
theorem ga_cy_skip {a : Nat → Int32} {p d : Nat} : ∀ t b : Nat, (∀ j, j < t → (b + j) % p ≠ 0) → ga_cy a p (t + d) b = ga_cy a p d (b + t) := by
  intro t
  induction t with
  | zero => intro b _; rw [Nat.zero_add, Nat.add_zero]
  | succ t ih =>
    intro b h
    have h0 : b % p ≠ 0 := h 0 (by omega)
    rw [show t + 1 + d = (t + d) + 1 by omega]
    show (if b % p = 0 ∧ ga_fb a b p = true then 1 else 0) + ga_cy a p (t + d) (b + 1) = _
    rw [if_neg (fun z => h0 z.1), Nat.zero_add, ih (b + 1) (fun j hj => by
      have := h (j + 1) (by omega)
      rwa [show b + (j + 1) = b + 1 + j by omega] at this)]
    rw [show b + 1 + t = b + (t + 1) by omega]
theorem ga_cy_cn {a : Nat → Int32} {p : Nat} (hp : 0 < p) : ∀ c q : Nat, ga_cy a p (c * p) (q * p) = ga_cn a p c (q * p) := by
  intro c
  induction c with
  | zero => intro q; rw [Nat.zero_mul]; rfl
  | succ c ih =>
    intro q
    have e : (c + 1) * p = ((p - 1) + c * p) + 1 := by rw [Nat.succ_mul]; omega
    have e2 : q * p + 1 + (p - 1) = (q + 1) * p := by rw [Nat.succ_mul]; omega
    have e3 : q * p + p = (q + 1) * p := by rw [Nat.succ_mul]
    rw [e]
    show (if q * p % p = 0 ∧ ga_fb a (q * p) p = true then 1 else 0) + ga_cy a p ((p - 1) + c * p) (q * p + 1) = (if ga_fb a (q * p) p = true then 1 else 0) + ga_cn a p c (q * p + p)
    rw [ga_cy_skip (p - 1) (q * p + 1) (fun j hj => ga_md (by omega)), e2, e3, ih (q + 1)]
    by_cases f : ga_fb a (q * p) p = true
    · rw [if_pos f, if_pos ⟨Nat.mul_mod_left q p, f⟩]
    · rw [if_neg f, if_neg (fun z => f z.2)]
theorem ga_cn_add {a : Nat → Int32} {p : Nat} : ∀ c d s : Nat, ga_cn a p (c + d) s = ga_cn a p c s + ga_cn a p d (s + c * p) := by
  intro c
  induction c with
  | zero => intro d s; rw [Nat.zero_add, Nat.zero_mul, Nat.add_zero]; exact (Nat.zero_add _).symm
  | succ c ih =>
    intro d s
    rw [show c + 1 + d = (c + d) + 1 by omega]
    show (if ga_fb a s p = true then 1 else 0) + ga_cn a p (c + d) (s + p) = (if ga_fb a s p = true then 1 else 0) + ga_cn a p c (s + p) + ga_cn a p d (s + (c + 1) * p)
    rw [ih d (s + p), show s + p + c * p = s + (c + 1) * p by rw [Nat.succ_mul]; omega, Nat.add_assoc]
theorem ga_cn_le {a : Nat → Int32} {p : Nat} : ∀ c s : Nat, ga_cn a p c s ≤ c := by
  intro c
  induction c with
  | zero => intro s; exact Nat.le_refl 0
  | succ c ih =>
    intro s
    have h1 := ih (s + p)
    show (if ga_fb a s p = true then 1 else 0) + ga_cn a p c (s + p) ≤ c + 1
    by_cases f : ga_fb a s p = true
    · rw [if_pos f]; omega
    · rw [if_neg f]; omega
/-- how many of the d blocks from b on are below L and name an extent -/
def ga_ex (a : Nat → Int32) (L : Nat) : Nat → Nat → Nat
  | 0, _ => 0
  | d + 1, b => (if b < L ∧ a b = nI (b + 1) then 1 else 0) + ga_ex a L d (b + 1)
theorem ga_ex_add {a : Nat → Int32} {L : Nat} : ∀ c d s : Nat, ga_ex a L (c + d) s = ga_ex a L c s + ga_ex a L d (s + c) := by
  intro c
  induction c with
  | zero => intro d s; rw [Nat.zero_add, Nat.add_zero]; exact (Nat.zero_add _).symm
  | succ c ih =>
    intro d s
    rw [show c + 1 + d = (c + d) + 1 by omega]
    show (if s < L ∧ a s = nI (s + 1) then 1 else 0) + ga_ex a L (c + d) (s + 1) = (if s < L ∧ a s = nI (s + 1) then 1 else 0) + ga_ex a L c (s + 1) + ga_ex a L d (s + (c + 1))
    rw [ih d (s + 1), show s + 1 + c = s + (c + 1) by omega, Nat.add_assoc]
theorem ga_ex_hi {a : Nat → Int32} {L : Nat} : ∀ d b : Nat, L ≤ b → ga_ex a L d b = 0 := by
  intro d
  induction d with
  | zero => intro b _; rfl
  | succ d ih =>
    intro b h
    show (if b < L ∧ a b = nI (b + 1) then 1 else 0) + ga_ex a L d (b + 1) = 0
    rw [if_neg (fun z => by have := z.1; omega), ih (b + 1) (by omega)]
/-- the marks with v at the n places from s on -/
def ga_fi (a : Nat → Int32) (s n : Nat) (v : Int32) : Nat → Int32 := fun j => if s ≤ j ∧ j < s + n then v else a j
theorem ga_fi_0 (a : Nat → Int32) (s : Nat) (v : Int32) : ga_fi a s 0 v = a := by
  funext j
  exact if_neg (fun z => by omega)
theorem ga_fi_s (a : Nat → Int32) (s n : Nat) (v : Int32) : upd (ga_fi a s n v) (s + n) v = ga_fi a s (n + 1) v := by
  funext j
  show (if j = s + n then v else if s ≤ j ∧ j < s + n then v else a j) = if s ≤ j ∧ j < s + (n + 1) then v else a j
  by_cases h : j = s + n
  · rw [if_pos h, if_pos (by omega)]
  · rw [if_neg h]
    by_cases h2 : s ≤ j ∧ j < s + n
    · rw [if_pos h2, if_pos (by omega)]
    · rw [if_neg h2, if_neg (by omega)]
theorem ga_fi_i {a : Nat → Int32} {s n j : Nat} {v : Int32} (h : s ≤ j ∧ j < s + n) : ga_fi a s n v j = v := if_pos h
theorem ga_fi_o {a : Nat → Int32} {s n j : Nat} {v : Int32} (h : ¬ (s ≤ j ∧ j < s + n)) : ga_fi a s n v j = a j := if_neg h
/-- every extent below L has its order beside it and all its blocks -/
def ga_Inv (L : Nat) (a o : Nat → Int32) : Prop := ∀ s, s < L → a s = nI (s + 1) → ∃ k, k < 6 ∧ o s = nI k ∧ s + 2 ^ k ≤ L ∧ ∀ j, j < 2 ^ k → a (s + j) = nI (s + 1)
theorem ga_n0 {s : Nat} (h : s < 128) : ¬ (0 : Int32) = nI (s + 1) := fun z => nI_ne0 (Nat.succ_pos s) (by omega) z.symm
theorem ga_ne {s t : Nat} (hs : s < 128) (ht : t < 128) (h : nI (s + 1) = nI (t + 1)) : t = s := by
  have := (nI_eq (by omega) (by omega)).mp h
  omega
theorem ga_keep {L : Nat} {a a' o o' : Nat → Int32} (s : Nat) (hL : L ≤ 128) (hs : s < L) (I : ga_Inv L a o)
    (h1 : ∀ j, a' j = a j ∨ ((a j = 0 ∨ a j = nI (s + 1)) ∧ (a' j = 0 ∨ a' j = nI (s + 1))))
    (h2 : ∀ t, t ≠ s → o' t = o t)
    (h3 : a' s = nI (s + 1) → ∃ k, k < 6 ∧ o' s = nI k ∧ s + 2 ^ k ≤ L ∧ ∀ j, j < 2 ^ k → a' (s + j) = nI (s + 1)) : ga_Inv L a' o' := by
  intro t ht e
  by_cases z : t = s
  · subst z; exact h3 e
  · have ea : a t = nI (t + 1) := by
      rcases h1 t with h | ⟨_, h | h⟩
      · rw [← h]; exact e
      · exact absurd (h.symm.trans e) (ga_n0 (by omega))
      · exact absurd (ga_ne (by omega) (by omega) (h.symm.trans e)) z
    obtain ⟨k, hk, ho, hb, hj⟩ := I t ht ea
    refine ⟨k, hk, (h2 t z).trans ho, hb, fun j hj' => ?_⟩
    have f := hj j hj'
    rcases h1 (t + j) with h | ⟨h | h, _⟩
    · rw [h]; exact f
    · exact absurd (h.symm.trans f) (ga_n0 (by omega))
    · exact absurd (ga_ne (by omega) (by omega) (h.symm.trans f)) z
/-- Y's marks are X's less one -/
def ga_Mk (a b : Nat → Int32) : Prop := ∀ j, j < 128 → a j = b j + 1
theorem ga_mk_fi {a b : Nat → Int32} (h : ga_Mk a b) (s n : Nat) {v w : Int32} (e : v = w + 1) : ga_Mk (ga_fi a s n v) (ga_fi b s n w) := by
  intro j hj
  by_cases z : s ≤ j ∧ j < s + n
  · rw [ga_fi_i z, ga_fi_i z]; exact e
  · rw [ga_fi_o z, ga_fi_o z]; exact h j hj
theorem ga_six {P : Nat → Prop} (h0 : P 0) (h1 : P 1) (h2 : P 2) (h3 : P 3) (h4 : P 4) (h5 : P 5) : ∀ k, k < 6 → P k := by
  intro k hk
  match k, hk with
  | 0, _ => exact h0
  | 1, _ => exact h1
  | 2, _ => exact h2
  | 3, _ => exact h3
  | 4, _ => exact h4
  | 5, _ => exact h5
theorem ga_pp : ∀ k, k < 6 → 0 < 2 ^ k ∧ 2 ^ k ≤ 32 ∧ 2 ^ (5 - k) * 2 ^ k = 32 := ga_six (by decide) (by decide) (by decide) (by decide) (by decide) (by decide)
/-- a group is 2^(5-k) runs: Y's search through it is X's -/
theorem ga_grp (a : Nat → Int32) {k : Nat} (hk : k < 6) (g : Nat) : ga_sy a (2 ^ k) 32 (32 * g) = ga_sc a (2 ^ k) (2 ^ (5 - k)) (32 * g) := by
  obtain ⟨hp, _, e⟩ := ga_pp k hk
  have e2 : 32 * g = (g * 2 ^ (5 - k)) * 2 ^ k := by rw [Nat.mul_assoc, e, Nat.mul_comm]
  have := ga_sy_sc (a := a) hp (2 ^ (5 - k)) (g * 2 ^ (5 - k))
  rw [e, ← e2] at this
  exact this
/-- the number of the first run that begins at g or behind it, the runs from it to the group's end, and those of the group ahead of it -/
def ga_q (k g : Nat) : Nat := (g + 2 ^ k - 1) / 2 ^ k
def ga_c1 (k g : Nat) : Nat := (g / 32 + 1) * 2 ^ (5 - k) - ga_q k g
def ga_c2 (k g : Nat) : Nat := ga_q k g - g / 32 * 2 ^ (5 - k)
theorem ga_near : ∀ k, k < 6 → ∀ g : Nat, g ≤ ga_q k g * 2 ^ k ∧ 32 * (g / 32) + ga_c2 k g * 2 ^ k = ga_q k g * 2 ^ k ∧ ga_q k g * 2 ^ k + ga_c1 k g * 2 ^ k = 32 * (g / 32) + 32 ∧ ga_c2 k g + ga_c1 k g = 2 ^ (5 - k) ∧ (∀ j, j < ga_q k g * 2 ^ k - g → (g + j) % 2 ^ k ≠ 0) := by
  refine ga_six ?_ ?_ ?_ ?_ ?_ ?_ <;> intro g <;> unfold ga_c1 ga_c2 ga_q <;> refine ⟨by omega, by omega, by omega, by omega, fun j hj => by omega⟩
theorem ga_goal (a : Nat → Int32) {k : Nat} (hk : k < 6) (g : Nat) : ga_sy a (2 ^ k) (32 * (g / 32) + 32 - g) g = ga_sc a (2 ^ k) (ga_c1 k g) (ga_q k g * 2 ^ k) := by
  obtain ⟨h1, h2, h3, _, h5⟩ := ga_near k hk g
  have e : 32 * (g / 32) + 32 - g = (ga_q k g * 2 ^ k - g) + ga_c1 k g * 2 ^ k := by omega
  rw [e, ga_sy_skip _ g h5, show g + (ga_q k g * 2 ^ k - g) = ga_q k g * 2 ^ k by omega]
  exact ga_sy_sc (ga_pp k hk).1 _ _
theorem ga_home (a : Nat → Int32) {k : Nat} (hk : k < 6) (g : Nat) (h : ga_sc a (2 ^ k) (ga_c1 k g) (ga_q k g * 2 ^ k) = none) : ga_sy a (2 ^ k) 32 (32 * (g / 32)) = ga_sc a (2 ^ k) (ga_c2 k g) (32 * (g / 32)) := by
  obtain ⟨_, h2, _, h4, _⟩ := ga_near k hk g
  rw [ga_grp a hk, ← h4, ga_sc_add, h2, h]
  cases ga_sc a (2 ^ k) (ga_c2 k g) (32 * (g / 32)) <;> rfl
/-- freeRuns: all groups' counts together -/
def ga_fs (a : Nat → Int32) (k : Nat) : Nat → Nat
  | 0 => 0
  | g + 1 => ga_fs a k g + ga_cn a (2 ^ k) (2 ^ (5 - k)) (32 * g)
theorem ga_fs_cn (a : Nat → Int32) {k : Nat} (hk : k < 6) : ∀ g : Nat, ga_fs a k g = ga_cn a (2 ^ k) (g * 2 ^ (5 - k)) 0 := by
  intro g
  induction g with
  | zero => rw [Nat.zero_mul]; rfl
  | succ g ih =>
    rw [Nat.succ_mul, ga_cn_add, ← ih, Nat.zero_add, Nat.mul_assoc, (ga_pp k hk).2.2, Nat.mul_comm g 32]
    rfl
theorem ga_fs_cy (a : Nat → Int32) {k : Nat} (hk : k < 6) (g : Nat) : ga_cy a (2 ^ k) (32 * g) 0 = ga_fs a k g := by
  obtain ⟨hp, _, e⟩ := ga_pp k hk
  have := ga_cy_cn (a := a) hp (g * 2 ^ (5 - k)) 0
  rw [Nat.zero_mul, Nat.mul_assoc, e, Nat.mul_comm g 32] at this
  rw [this, ga_fs_cn a hk]
theorem ga_sc_t {a : Nat → Int32} {p c s : Nat} (h : ga_fb a s p = true) : ga_sc a p (c + 1) s = some s := if_pos h
theorem ga_sc_f {a : Nat → Int32} {p c s : Nat} (h : ga_fb a s p = false) : ga_sc a p (c + 1) s = ga_sc a p c (s + p) := if_neg (by rw [h]; exact fun z => nomatch z)
theorem ga_sy_t {a : Nat → Int32} {p d s : Nat} (h1 : s % p = 0) (h2 : ga_fb a s p = true) : ga_sy a p (d + 1) s = some s := if_pos ⟨h1, h2⟩
theorem ga_sy_f {a : Nat → Int32} {p d s : Nat} (h : ga_fb a s p = false) : ga_sy a p (d + 1) s = ga_sy a p d (s + 1) := if_neg (by rw [h]; exact fun z => nomatch z.2)
theorem ga_sy_n {a : Nat → Int32} {p d s : Nat} (h : ¬ s % p = 0) : ga_sy a p (d + 1) s = ga_sy a p d (s + 1) := if_neg (fun z => h z.1)
theorem ga_cn_t {a : Nat → Int32} {p c s : Nat} (h : ga_fb a s p = true) : ga_cn a p (c + 1) s = 1 + ga_cn a p c (s + p) := congrArg (· + ga_cn a p c (s + p)) (if_pos h)
theorem ga_cn_f {a : Nat → Int32} {p c s : Nat} (h : ga_fb a s p = false) : ga_cn a p (c + 1) s = ga_cn a p c (s + p) := (congrArg (· + ga_cn a p c (s + p)) (if_neg (by rw [h]; exact fun z => nomatch z))).trans (Nat.zero_add _)
theorem ga_cy_t {a : Nat → Int32} {p d s : Nat} (h1 : s % p = 0) (h2 : ga_fb a s p = true) : ga_cy a p (d + 1) s = 1 + ga_cy a p d (s + 1) := congrArg (· + ga_cy a p d (s + 1)) (if_pos ⟨h1, h2⟩)
theorem ga_cy_f {a : Nat → Int32} {p d s : Nat} (h : ga_fb a s p = false) : ga_cy a p (d + 1) s = ga_cy a p d (s + 1) := (congrArg (· + ga_cy a p d (s + 1)) (if_neg (by rw [h]; exact fun z => nomatch z.2))).trans (Nat.zero_add _)
theorem ga_cy_n {a : Nat → Int32} {p d s : Nat} (h : ¬ s % p = 0) : ga_cy a p (d + 1) s = ga_cy a p d (s + 1) := (congrArg (· + ga_cy a p d (s + 1)) (if_neg (fun z => h z.1))).trans (Nat.zero_add _)
theorem ga_ex_t {a : Nat → Int32} {L d s : Nat} (h1 : s < L) (h2 : a s = nI (s + 1)) : ga_ex a L (d + 1) s = 1 + ga_ex a L d (s + 1) := congrArg (· + ga_ex a L d (s + 1)) (if_pos ⟨h1, h2⟩)
theorem ga_ex_f {a : Nat → Int32} {L d s : Nat} (h : ¬ (s < L ∧ a s = nI (s + 1))) : ga_ex a L (d + 1) s = ga_ex a L d (s + 1) := (congrArg (· + ga_ex a L d (s + 1)) (if_neg h)).trans (Nat.zero_add _)
theorem ga_fi_u (a : Nat → Int32) (i d : Nat) (v : Int32) : ga_fi (upd a i v) (i + 1) d v = ga_fi a i (d + 1) v := by
  funext j
  show (if i + 1 ≤ j ∧ j < i + 1 + d then v else if j = i then v else a j) = if i ≤ j ∧ j < i + (d + 1) then v else a j
  by_cases h : j = i
  · rw [if_neg (by omega), if_pos h, if_pos (by omega)]
  · by_cases h2 : i + 1 ≤ j ∧ j < i + 1 + d
    · rw [if_pos h2, if_pos (by omega)]
    · rw [if_neg h2, if_neg h, if_neg (by omega)]
theorem ga_pw : ∀ k, k < 6 → (1 : Int32) <<< (nI k &&& 31) = nI (2 ^ k) := by decide +kernel
theorem ga_al : ∀ k, k < 6 → ∀ G s : Nat, s < 32 * G → s % 2 ^ k = 0 → s + 2 ^ k ≤ 32 * G := by
  refine ga_six ?_ ?_ ?_ ?_ ?_ ?_ <;> intro G s h1 h2 <;> omega
theorem ga_mk0 {a b : Nat → Int32} (M : ga_Mk a b) {i : Nat} (hi : i < 128) : b i = -1 ↔ a i = 0 := by
  rw [M i hi]
  constructor
  · intro z; rw [z]; rfl
  · intro z
    have : b i = (b i + 1) + (-1) := by rw [Int32.add_assoc]; exact (Int32.add_zero _).symm
    rw [this, z]; rfl
theorem ga_mkn {a b : Nat → Int32} (M : ga_Mk a b) {i : Nat} (hi : i < 128) (j : Nat) : b i = nI j ↔ a i = nI (j + 1) := by
  rw [M i hi, ← nI_1 j]
  constructor
  · intro z; rw [z]
  · intro z
    have e : ∀ x : Int32, x = (x + 1) + (-1) := fun x => by rw [Int32.add_assoc]; exact (Int32.add_zero _).symm
    rw [e (b i), z]; exact (e (nI j)).symm
theorem ga_mks {a b : Nat → Int32} (M : ga_Mk a b) {i : Nat} (hi : i < 128) : b i = a i - 1 := by
  rw [M i hi]; exact (Int32.add_sub_cancel _ _).symm
/-- what a scan answers: in X, in Y -/
def ga_xv : Option Nat → Int32
  | none => -2
  | some r => nI r
def ga_yv : Option Nat → Int32
  | none => -1
  | some r => nI r
/-- allocate's steps through the groups: d steps left, the next is i -/
def ga_lp (a : Nat → Int32) (k G h : Nat) : Nat → Nat → Option Nat → Option Nat
  | 0, _, r => r
  | _ + 1, _, some r => some r
  | d + 1, i, none => ga_lp a k G h d (i + 1) (ga_sc a (2 ^ k) (2 ^ (5 - k)) (32 * ((h + i) % G)))
theorem ga_lp_s (a : Nat → Int32) (k G h d i r : Nat) : ga_lp a k G h d i (some r) = some r := by
  cases d <;> rfl
/-- a free run within the groups -/
def ga_Q (a : Nat → Int32) (k G : Nat) (r : Option Nat) : Prop := ∀ q, r = some q → q + 2 ^ k ≤ 32 * G ∧ ga_fb a q (2 ^ k) = true
theorem ga_Q_sc {a : Nat → Int32} {k G c s : Nat} (h : s + c * 2 ^ k ≤ 32 * G) : ga_Q a k G (ga_sc a (2 ^ k) c s) := by
  intro q e
  obtain ⟨_, h2, h3⟩ := ga_sc_in c s q e
  exact ⟨Nat.le_trans h2 h, h3⟩
theorem ga_Q_g {a : Nat → Int32} {k G g : Nat} (hk : k < 6) (hg : g < G) : ga_Q a k G (ga_sc a (2 ^ k) (2 ^ (5 - k)) (32 * g)) :=
  ga_Q_sc (by rw [(ga_pp k hk).2.2]; omega)
theorem ga_lp_Q {a : Nat → Int32} {k G h : Nat} (hk : k < 6) (hG : 0 < G) : ∀ d i r, ga_Q a k G r → ga_Q a k G (ga_lp a k G h d i r) := by
  intro d
  induction d with
  | zero => intro i r q; exact q
  | succ d ih =>
    intro i r q
    cases r with
    | some r => exact q
    | none => exact ih (i + 1) _ (ga_Q_g hk (Nat.mod_lt _ hG))
/-- allocate's answer -/
def ga_R (a : Nat → Int32) (k G g : Nat) : Option Nat := ga_lp a k G (g / 32) G 0 (ga_sc a (2 ^ k) (ga_c1 k g) (ga_q k g * 2 ^ k))
/-- largestFree: the orders below m, from the greatest down -/
def ga_lf (a : Nat → Int32) (g : Nat) : Nat → Int32
  | 0 => -2
  | j + 1 => match ga_sc a (2 ^ j) (2 ^ (5 - j)) (32 * g) with
    | some _ => nI j
    | none => ga_lf a g j
theorem ga_lf_s {a : Nat → Int32} {g j r : Nat} (h : ga_sc a (2 ^ j) (2 ^ (5 - j)) (32 * g) = some r) : ga_lf a g (j + 1) = nI j := by
  unfold ga_lf; rw [h]
theorem ga_lf_n {a : Nat → Int32} {g j : Nat} (h : ga_sc a (2 ^ j) (2 ^ (5 - j)) (32 * g) = none) : ga_lf a g (j + 1) = ga_lf a g j := by
  rw [ga_lf, h]
theorem ga_n2 {r : Nat} (h : r < 2 ^ 31) : ¬ nI r = -2 := fun z => nI_pos h (by rw [z]; decide)
theorem ga_10 : ¬ (1 : Int32) = 0 := by decide
theorem ga_m32 (g : Nat) : nI g * 32 = nI (32 * g) := (pk_mul g 32).trans (congrArg nI (Nat.mul_comm g 32))
theorem ga_32m (g : Nat) : 32 * nI g = nI (32 * g) := pk_mul 32 g
theorem ga_a32 (g : Nat) : nI g + 32 = nI (g + 32) := nI_add g 32
/-- the range checks: out, in -/
theorem ga_rg0 {x : Int32} {L : Nat} {A B : Prop} (hL : L < 2 ^ 31) (hx : ¬ ∃ j, j < L ∧ x = nI j) (h : A) : (x < 0 → A) ∧ (¬ x < 0 → (nI L ≤ x → A) ∧ (¬ nI L ≤ x → B)) := by
  rcases pk_ix x hL with z | z | z
  · exact br_t z h
  · exact br_c (fun _ => h) (fun _ => br_t z h)
  · exact absurd z hx
theorem ga_rg1 {j L : Nat} {A B : Prop} (hL : L < 2 ^ 31) (hj : j < L) (h : B) : (nI j < 0 → A) ∧ (¬ nI j < 0 → (nI L ≤ nI j → A) ∧ (¬ nI L ≤ nI j → B)) :=
  br_f (nI_pos (Nat.lt_trans hj hL)) (br_f (nI_ge hj hL) h)
theorem ga_ro0 {x : Int32} {A B : Prop} (hx : ¬ ∃ j, j < 6 ∧ x = nI j) (h : A) : (x < 0 → A) ∧ (¬ x < 0 → (5 < x → A) ∧ (¬ 5 < x → B)) := by
  refine br_c (fun _ => h) (fun z => ?_)
  obtain ⟨j, hj, rfl⟩ := nI_of z
  refine br_t (nI_lt (a := 5) ?_ hj) h
  exact Nat.lt_of_not_le fun w => hx ⟨j, by omega, rfl⟩
theorem ga_ro1 {j : Nat} {A B : Prop} (hj : j < 6) (h : B) : (nI j < 0 → A) ∧ (¬ nI j < 0 → (5 < nI j → A) ∧ (¬ 5 < nI j → B)) :=
  br_f (nI_pos (by omega)) (br_f (nI_nlt (a := 5) (by omega) (by omega)) h)
/-- both constructors' zeros -/
theorem ga_mkz : ga_Mk (fun _ => 0) (ga_fi (fun _ => 0) 0 128 (-1)) := by
  intro j hj
  rw [ga_fi_i (by omega)]
  rfl
theorem ga_invz {L : Nat} (hL : L ≤ 128) : ga_Inv L (fun _ => 0) (fun _ => 0) := by
  intro s hs e
  exact absurd e (ga_n0 (by omega))
end
section
/-! X: one lemma a helper or loop, with a general post -/
theorem ga_afL (post : Int32 → Prop) (f : Int32) (a o : Nat → Int32) (s p : Nat) (h : s + p ≤ 128) : ∀ n i d : Nat, i + d = s + p → d < n → (ga_fb a i d = true → post 1) → (ga_fb a i d = false → post 0) → wX_areFree_2 post (nI s) (nI p) f a o n (nI i) := by
  intro n
  induction n with
  | zero => intro i d _ hn; exact absurd hn (Nat.not_lt_zero d)
  | succ n ih =>
    intro i d hd hn h1 h0
    refine pk_le (s + p) i (fun q => ?_) (fun q => ⟨pk_in i 128 (by omega), ?_⟩) (nI_add s p)
    · have e : d = 0 := by omega
      subst e
      exact h1 (ga_fb_0 a i)
    · obtain ⟨e, rfl⟩ : ∃ e, d = e + 1 := ⟨d - 1, by omega⟩
      rw [show (nI i).toNatClampNeg = i from nI_clamp (by omega)]
      refine br_c (fun z => nm_r (nI_1 i) ?_) (fun z => h0 (ga_fb_n z))
      exact ih (i + 1) e (by omega) (by omega) (fun q => h1 (by rw [ga_fb_s z]; exact q)) (fun q => h0 (by rw [ga_fb_s z]; exact q))
theorem ga_af {post : Int32 → Prop} {f : Int32} {a o : Nat → Int32} {s p : Nat} (h : s + p ≤ 128) (h1 : ga_fb a s p = true → post 1) (h0 : ga_fb a s p = false → post 0) : wpX_areFree post (f, a, o) (nI s) (nI p) :=
  ⟨p + 1, ga_afL post f a o s p h (p + 1) s p rfl (Nat.lt_succ_self p) h1 h0⟩
theorem ga_frL (post : Int32 → Prop) (f : Int32) (a o : Nat → Int32) (p e : Nat) (hp : 0 < p) (he : e ≤ 128) : ∀ n c s : Nat, s + c * p = e → c < n → post (ga_xv (ga_sc a p c s)) → wX_findRunBetween_8 post (nI e) (nI p) f a o n (nI s) := by
  intro n
  induction n with
  | zero => intro c s _ hn; exact absurd hn (Nat.not_lt_zero c)
  | succ n ih =>
    intro c s hc hn h
    cases c with
    | zero =>
      rw [Nat.zero_mul] at hc
      exact br_t (nI_le (by omega) (by omega)) h
    | succ c =>
      have e1 : (c + 1) * p = c * p + p := Nat.succ_mul c p
      refine br_f (nI_ge (by omega) (by omega)) ?_
      refine ga_af (by omega) (fun z => br_f ga_10 ?_) (fun z => br_t rfl (nm_r (nI_add s p) ?_))
      · rw [ga_sc_t z] at h; exact h
      · rw [ga_sc_f z] at h; exact ih c (s + p) (by omega) (by omega) h
theorem ga_fr {post : Int32 → Prop} {f : Int32} {a o : Nat → Int32} {k s e c : Nat} (hk : k < 6) (he : e ≤ 128) (hc : s + c * 2 ^ k = e) (h : post (ga_xv (ga_sc a (2 ^ k) c s))) : wpX_findRunBetween post (f, a, o) (nI k) (nI s) (nI e) :=
  nm_r (ga_pw k hk) ⟨c + 1, ga_frL post f a o (2 ^ k) e (ga_pp k hk).1 he (c + 1) c s hc (Nat.lt_succ_self c) h⟩
theorem ga_fg {post : Int32 → Prop} {f : Int32} {a o : Nat → Int32} {k g : Nat} (hk : k < 6) (hg : g < 4) (h : post (ga_xv (ga_sc a (2 ^ k) (2 ^ (5 - k)) (32 * g)))) : wpX_findRunInGroup post (f, a, o) (nI k) (nI g) := by
  unfold wpX_findRunInGroup
  dsimp only
  rw [nI_1 g, ga_m32 g, ga_m32 (g + 1)]
  exact ga_fr (c := 2 ^ (5 - k)) hk (by omega) (by rw [(ga_pp k hk).2.2]; omega) h
theorem ga_fnL (post : Int32 → Prop) (a o : Nat → Int32) (k G h : Nat) (hk : k < 6) (hG : 0 < G) (hG4 : G ≤ 4) (hh : h < 4) : ∀ n d i r, i + d = G → d < n → ga_Q a k G r → post (ga_xv (ga_lp a k G h d i r)) → wX_findRunNear_63 post (nI k) (nI h) (nI G) a o n (ga_xv r) (nI i) := by
  intro n
  induction n with
  | zero => intro d i r _ hn; exact absurd hn (Nat.not_lt_zero d)
  | succ n ih =>
    intro d i r hd hn q hp
    cases d with
    | zero => exact br_t (nI_le (by omega) (by omega)) hp
    | succ d =>
      refine br_f (nI_ge (by omega) (by omega)) ?_
      cases r with
      | some r =>
        have q1 := (q r rfl).1
        have p1 := (ga_pp k hk).1
        refine br_f (ga_n2 (r := r) (by omega)) ?_
        rw [ga_lp_s] at hp
        exact hp
      | none =>
        refine br_t rfl ⟨nI_ne0 (by omega) (by omega), ?_⟩
        rw [nI_add h i, pk_rem (a := h + i) (d := G) (by omega) (by omega) (by omega)]
        have hm : (h + i) % G < G := Nat.mod_lt _ hG
        refine ga_fg hk (by omega) (nm_r (nI_1 i) ?_)
        exact ih d (i + 1) _ (by omega) (by omega) (ga_Q_g hk hm) hp
theorem ga_qx {k g : Nat} (hk : k < 6) (hg : g < 128) : (nI g + nI (2 ^ k) - 1) / nI (2 ^ k) * nI (2 ^ k) = nI (ga_q k g * 2 ^ k) := by
  obtain ⟨h1, h2, _⟩ := ga_pp k hk
  have e : nI (g + 2 ^ k) - 1 = nI (g + 2 ^ k - 1) := pk_sub (b := 1) (by omega)
  rw [nI_add, e, pk_div (by omega) h1 (by omega), pk_mul]
  rfl
theorem ga_fn {post : Int32 → Prop} {a o : Nat → Int32} {k g G : Nat} (hk : k < 6) (hG : 0 < G) (hG4 : G ≤ 4) (hg : g < 32 * G) (h : post (ga_xv (ga_R a k G g))) : wpX_findRunNear post (nI G, a, o) (nI k) (nI g) := by
  obtain ⟨p1, p2, _⟩ := ga_pp k hk
  obtain ⟨n1, n2, n3, n4, _⟩ := ga_near k hk g
  have hh : g / 32 < G := by omega
  have ed : nI g / 32 = nI (g / 32) := pk_div (d := 32) (by omega) (by omega) (by omega)
  refine nm_r (ga_pw k hk) ⟨by decide, nm_r ed (nm_r (ga_m32 (g / 32)) ⟨nI_ne0 p1 (by omega), nm_r (ga_qx hk (by omega)) ?_⟩)⟩
  rw [ga_a32 (32 * (g / 32))]
  refine ga_fr (c := ga_c1 k g) hk (by omega) n3 ?_
  obtain ⟨F, rfl⟩ : ∃ F, G = F + 1 := ⟨G - 1, by omega⟩
  have hR : ga_R a k (F + 1) g = ga_lp a k (F + 1) (g / 32) (F + 1) 0 (ga_sc a (2 ^ k) (ga_c1 k g) (ga_q k g * 2 ^ k)) := rfl
  cases E : ga_sc a (2 ^ k) (ga_c1 k g) (ga_q k g * 2 ^ k) with
  | none =>
    refine br_t rfl ?_
    refine ga_fr (c := ga_c2 k g) hk (by omega) n2 ⟨F + 1, ?_⟩
    refine ga_fnL post a o k (F + 1) (g / 32) hk (by omega) hG4 (by omega) (F + 1) F 1 _ (by omega) (by omega) (ga_Q_sc (by omega)) ?_
    rw [hR, E] at h
    have e2 : ga_lp a k (F + 1) (g / 32) (F + 1) 0 none = ga_lp a k (F + 1) (g / 32) F 1 (ga_sc a (2 ^ k) (2 ^ (5 - k)) (32 * ((g / 32 + 0) % (F + 1)))) := rfl
    rw [e2, show (g / 32 + 0) % (F + 1) = g / 32 from Nat.mod_eq_of_lt hh, ← ga_grp a hk, ga_home a hk g E] at h
    exact h
  | some r =>
    have q : ga_Q a k (F + 1) (some r) := by rw [← E]; exact ga_Q_sc (by omega)
    have q1 := (q r rfl).1
    refine br_f (ga_n2 (r := r) (by omega)) ⟨F + 1, ?_⟩
    refine ga_fnL post a o k (F + 1) (g / 32) hk (by omega) hG4 (by omega) (F + 1) F 1 (some r) (by omega) (by omega) q ?_
    rw [hR, E, ga_lp_s] at h
    rw [ga_lp_s]
    exact h
theorem ga_soL (post : SX → Prop) (f : Int32) (o : Nat → Int32) (v : Int32) (s p : Nat) (h : s + p ≤ 128) : ∀ n i d : Nat, ∀ a : Nat → Int32, i + d = s + p → d < n → post (f, ga_fi a i d v, o) → wX_setOwner_3 post (nI s) (nI p) v f n (nI i) a o := by
  intro n
  induction n with
  | zero => intro i d a _ hn; exact absurd hn (Nat.not_lt_zero d)
  | succ n ih =>
    intro i d a hd hn hp
    refine pk_le (s + p) i (fun q => ?_) (fun q => ⟨pk_in i 128 (by omega), ?_⟩) (nI_add s p)
    · have e : d = 0 := by omega
      subst e
      rw [ga_fi_0] at hp
      exact hp
    · obtain ⟨e, rfl⟩ : ∃ e, d = e + 1 := ⟨d - 1, by omega⟩
      rw [show (nI i).toNatClampNeg = i from nI_clamp (by omega)]
      refine nm_e (nm_r (nI_1 i) (ih (i + 1) e _ (by omega) (by omega) ?_))
      rw [ga_fi_u]
      exact hp
theorem ga_so {post : SX → Prop} {f : Int32} {a o : Nat → Int32} {v : Int32} {s p : Nat} (h : s + p ≤ 128) (hp : post (f, ga_fi a s p v, o)) : wpX_setOwner post (f, a, o) (nI s) (nI p) v :=
  ⟨p + 1, ga_soL post f o v s p h (p + 1) s p a rfl (Nat.lt_succ_self p) hp⟩
theorem ga_me {post : SX → Prop} {f : Int32} {a o : Nat → Int32} {k s : Nat} (hk : k < 6) (h : s + 2 ^ k ≤ 128) (hp : post (f, ga_fi a s (2 ^ k) (nI (s + 1)), upd o s (nI k))) : wpX_makeExtent post (f, a, o) (nI k) (nI s) := by
  have p1 := (ga_pp k hk).1
  unfold wpX_makeExtent
  dsimp only
  rw [ga_pw k hk, nI_1 s]
  refine ga_so h ⟨pk_in s 128 (by omega), ?_⟩
  rw [show (nI s).toNatClampNeg = s from nI_clamp (by omega)]
  exact nm_e hp
theorem ga_cfL (post : Int32 → Prop) (f : Int32) (a o : Nat → Int32) (p e : Nat) (hp : 0 < p) (he : e ≤ 128) : ∀ n d s c : Nat, s + d * p = e → d < n → post (nI (c + ga_cn a p d s)) → wX_countFreeRuns_21 post (nI p) (nI e) f a o n (nI c) (nI s) := by
  intro n
  induction n with
  | zero => intro d s c _ hn; exact absurd hn (Nat.not_lt_zero d)
  | succ n ih =>
    intro d s c hc hn h
    cases d with
    | zero =>
      rw [Nat.zero_mul] at hc
      exact br_t (nI_le (by omega) (by omega)) h
    | succ d =>
      have e1 : (d + 1) * p = d * p + p := Nat.succ_mul d p
      refine br_f (nI_ge (by omega) (by omega)) ?_
      refine ga_af (by omega) (fun z => br_f ga_10 (nm_r (nI_1 c) (nm_r (nI_add s p) ?_))) (fun z => br_t rfl (nm_r (nI_add s p) ?_))
      · rw [ga_cn_t z, ← Nat.add_assoc] at h; exact ih d (s + p) (c + 1) (by omega) (by omega) h
      · rw [ga_cn_f z] at h; exact ih d (s + p) c (by omega) (by omega) h
theorem ga_cf {post : Int32 → Prop} {f : Int32} {a o : Nat → Int32} {k g : Nat} (hk : k < 6) (hg : g < 4) (h : post (nI (ga_cn a (2 ^ k) (2 ^ (5 - k)) (32 * g)))) : wpX_countFreeRuns post (f, a, o) (nI k) (nI g) := by
  have e1 : (nI g + 1) * 32 = nI (32 * (g + 1)) := by rw [nI_1 g, ga_m32 (g + 1)]
  refine nm_r (ga_pw k hk) (nm_r e1 (nm_r (ga_m32 g) ⟨2 ^ (5 - k) + 1, ?_⟩))
  refine ga_cfL post f a o (2 ^ k) (32 * (g + 1)) (ga_pp k hk).1 (by omega) _ (2 ^ (5 - k)) (32 * g) 0 ?_ (Nat.lt_succ_self _) ?_
  · rw [(ga_pp k hk).2.2]; omega
  · rw [Nat.zero_add]; exact h
theorem ga_frsL (post : Int32 → Prop) (a o : Nat → Int32) (k G : Nat) (hk : k < 6) (hG4 : G ≤ 4) : ∀ n d i : Nat, i + d = G → d < n → post (nI (ga_fs a k G)) → wX_freeRuns_14 post (nI k) (nI G) a o n (nI (ga_fs a k i)) (nI i) := by
  intro n
  induction n with
  | zero => intro d i _ hn; exact absurd hn (Nat.not_lt_zero d)
  | succ n ih =>
    intro d i hd hn h
    cases d with
    | zero =>
      have e : i = G := hd
      subst e
      exact br_t (nI_le (by omega) (by omega)) h
    | succ d =>
      refine br_f (nI_ge (by omega) (by omega)) ?_
      refine ga_cf hk (by omega) (nm_r (nI_add _ _) (nm_r (nI_1 i) ?_))
      exact ih d (i + 1) (by omega) (by omega) h
theorem ga_lfL (post : Int32 → Prop) (f : Int32) (a o : Nat → Int32) (g : Nat) (hg : g < 4) : ∀ m n : Nat, ∀ x : Int32, m ≤ 6 → m < n → x = nI m + (-1) → post (ga_lf a g m) → wX_largestFree_12 post (nI g) f a o n x := by
  intro m
  induction m with
  | zero =>
    intro n x _ hn hx h
    obtain ⟨n, rfl⟩ : ∃ d, n = d + 1 := ⟨n - 1, by omega⟩
    exact br_t (by rw [hx]; decide) h
  | succ m ih =>
    intro n x hm hn hx h
    obtain ⟨n, rfl⟩ : ∃ d, n = d + 1 := ⟨n - 1, by omega⟩
    rw [pk_m1] at hx
    subst hx
    refine br_f (nI_pos (by omega)) (ga_fg (by omega) hg ?_)
    cases E : ga_sc a (2 ^ m) (2 ^ (5 - m)) (32 * g) with
    | none => exact br_t rfl fun y ey => ih n y (by omega) (by omega) ey (by rw [ga_lf_n E] at h; exact h)
    | some r =>
      have p1 := (ga_pp m (by omega)).1
      have q1 := (ga_Q_g (a := a) (k := m) (G := 4) (by omega) hg r E).1
      exact br_f (ga_n2 (r := r) (by omega)) (by rw [ga_lf_s E] at h; exact h)
theorem ga_io0 {post : Int32 → Prop} {u : SX} {x : Int32} (hx : ¬ ∃ j, j < 6 ∧ x = nI j) (h : post 0) : wpX_isOrder post u x := ga_ro0 hx h
theorem ga_io1 {post : Int32 → Prop} {u : SX} {j : Nat} (hj : j < 6) (h : post 1) : wpX_isOrder post u (nI j) := ga_ro1 hj h
theorem ga_ib0 {post : Int32 → Prop} {a o : Nat → Int32} {G : Nat} {x : Int32} (hG : G ≤ 4) (hx : ¬ ∃ j, j < 32 * G ∧ x = nI j) (h : post 0) : wpX_isBlock post (nI G, a, o) x := by
  unfold wpX_isBlock
  dsimp only
  rw [ga_m32]
  exact ga_rg0 (by omega) hx h
theorem ga_ib1 {post : Int32 → Prop} {a o : Nat → Int32} {G j : Nat} (hG : G ≤ 4) (hj : j < 32 * G) (h : post 1) : wpX_isBlock post (nI G, a, o) (nI j) := by
  unfold wpX_isBlock
  dsimp only
  rw [ga_m32]
  exact ga_rg1 (by omega) hj h
theorem ga_ig0 {post : Int32 → Prop} {a o : Nat → Int32} {G : Nat} {x : Int32} (hG : G ≤ 4) (hx : ¬ ∃ j, j < G ∧ x = nI j) (h : post 0) : wpX_isGroup post (nI G, a, o) x := ga_rg0 (by omega) hx h
theorem ga_ig1 {post : Int32 → Prop} {a o : Nat → Int32} {G j : Nat} (hG : G ≤ 4) (hj : j < G) (h : post 1) : wpX_isGroup post (nI G, a, o) (nI j) := ga_rg1 (by omega) hj h
theorem ga_ie1 {post : Int32 → Prop} {a o : Nat → Int32} {G s : Nat} (hG : G ≤ 4) (hs : s < 32 * G) (ha : a s = nI (s + 1)) (h : post 1) : wpX_isExtent post (nI G, a, o) (nI s) := by
  unfold wpX_isExtent
  dsimp only
  refine ga_ib1 hG hs (br_f ga_10 ⟨pk_in s 128 (by omega), ?_⟩)
  rw [show (nI s).toNatClampNeg = s from nI_clamp (by omega), nI_1 s]
  exact br_t ha h
theorem ga_ie0 {post : Int32 → Prop} {a o : Nat → Int32} {G : Nat} {x : Int32} (hG : G ≤ 4) (hx : ¬ ∃ s, s < 32 * G ∧ x = nI s ∧ a s = nI (s + 1)) (h : post 0) : wpX_isExtent post (nI G, a, o) x := by
  unfold wpX_isExtent
  dsimp only
  by_cases z : ∃ j, j < 32 * G ∧ x = nI j
  · obtain ⟨s, hs, rfl⟩ := z
    refine ga_ib1 hG hs (br_f ga_10 ⟨pk_in s 128 (by omega), ?_⟩)
    rw [show (nI s).toNatClampNeg = s from nI_clamp (by omega), nI_1 s]
    exact br_f (fun w => hx ⟨s, hs, rfl, w⟩) h
  · exact ga_ib0 hG z (br_t rfl h)
theorem ga_exL (post : Int32 → Prop) (a o : Nat → Int32) (G : Nat) (hG4 : G ≤ 4) : ∀ n d s c : Nat, s + d = 128 → d < n → post (nI (c + ga_ex a (32 * G) d s)) → wX_extents_4 post (nI G) a o n (nI c) (nI s) := by
  intro n
  induction n with
  | zero => intro d s c _ hn; exact absurd hn (Nat.not_lt_zero d)
  | succ n ih =>
    intro d s c hd hn h
    cases d with
    | zero => exact br_t (nI_le (a := 128) (by omega) (by omega)) h
    | succ d =>
      refine br_f (nI_ge (b := 128) (by omega) (by omega)) ?_
      by_cases z : s < 32 * G ∧ a s = nI (s + 1)
      · refine ga_ie1 hG4 z.1 z.2 (br_f ga_10 (nm_r (nI_1 c) (nm_r (nI_1 s) ?_)))
        rw [ga_ex_t z.1 z.2, ← Nat.add_assoc] at h
        exact ih d (s + 1) (c + 1) (by omega) (by omega) h
      · refine ga_ie0 hG4 ?_ (br_t rfl (nm_r (nI_1 s) ?_))
        · intro ⟨t, ht, e, w⟩
          have := (nI_eq (by omega) (by omega)).mp e
          subst this
          exact z ⟨ht, w⟩
        · rw [ga_ex_f z] at h
          exact ih d (s + 1) c (by omega) (by omega) h
end
section
/-! Y: one lemma a helper or loop, with a general post; the marks are X's, by ga_Mk -/
theorem ga_yfL (post : Int32 → Prop) (f : Int32) (a b o : Nat → Int32) (M : ga_Mk a b) (s p : Nat) (h : s + p ≤ 128) : ∀ n i d : Nat, i + d = s + p → d < n → (ga_fb a i d = true → post 1) → (ga_fb a i d = false → post 0) → wY_free_2 post (nI s) (nI p) f b o n (nI i) := by
  intro n
  induction n with
  | zero => intro i d _ hn; exact absurd hn (Nat.not_lt_zero d)
  | succ n ih =>
    intro i d hd hn h1 h0
    refine pk_le (s + p) i (fun q => ?_) (fun q => ⟨pk_in i 128 (by omega), ?_⟩) (nI_add s p)
    · have e : d = 0 := by omega
      subst e
      exact h1 (ga_fb_0 a i)
    · obtain ⟨e, rfl⟩ : ∃ e, d = e + 1 := ⟨d - 1, by omega⟩
      rw [show (nI i).toNatClampNeg = i from nI_clamp (by omega), ga_mk0 M (i := i) (by omega)]
      refine br_c (fun z => nm_r (nI_1 i) ?_) (fun z => h0 (ga_fb_n z))
      exact ih (i + 1) e (by omega) (by omega) (fun q => h1 (by rw [ga_fb_s z]; exact q)) (fun q => h0 (by rw [ga_fb_s z]; exact q))
theorem ga_yf {post : Int32 → Prop} {f : Int32} {a b o : Nat → Int32} (M : ga_Mk a b) {s p : Nat} (h : s + p ≤ 128) (h1 : ga_fb a s p = true → post 1) (h0 : ga_fb a s p = false → post 0) : wpY_free post (f, b, o) (nI s) (nI p) :=
  ⟨p + 1, ga_yfL post f a b o M s p h (p + 1) s p rfl (Nat.lt_succ_self p) h1 h0⟩
theorem ga_yr {post : Int32 → Prop} {f : Int32} {b o : Nat → Int32} {k s : Nat} (hk : k < 6) (hs : s < 2 ^ 31) (h1 : s % 2 ^ k = 0 → post 1) (h0 : ¬ s % 2 ^ k = 0 → post 0) : wpY_isRun post (f, b, o) (nI k) (nI s) := by
  obtain ⟨p1, p2, _⟩ := ga_pp k hk
  unfold wpY_isRun
  dsimp only
  rw [ga_pw k hk, pk_rem (a := s) hs p1 (by omega)]
  exact ⟨nI_ne0 p1 (by omega), pk_eq (s % 2 ^ k) 0 h1 h0 rfl rfl (Nat.lt_of_le_of_lt (Nat.mod_le _ _) hs)⟩
theorem ga_ysL (post : Int32 → Prop) (f : Int32) (a b o : Nat → Int32) (M : ga_Mk a b) (k e : Nat) (hk : k < 6) (he : e ≤ 128) : ∀ n d s : Nat, s + d = e → d < n → post (ga_yv (ga_sy a (2 ^ k) d s)) → wY_search_3 post (nI k) (nI e) f b o n (nI s) := by
  intro n
  induction n with
  | zero => intro d s _ hn; exact absurd hn (Nat.not_lt_zero d)
  | succ n ih =>
    intro d s hd hn h
    cases d with
    | zero => exact br_t (nI_le (by omega) (by omega)) h
    | succ d =>
      refine br_f (nI_ge (by omega) (by omega)) ?_
      refine ga_yr hk (by omega) (fun z => br_f ga_10 ?_) (fun z => br_t rfl (nm_r (nI_1 s) (ih d (s + 1) (by omega) (by omega) ?_)))
      · rw [ga_pw k hk]
        refine ga_yf M (ga_al k hk 4 s (by omega) z) (fun w => br_f ga_10 ?_) (fun w => br_t rfl (nm_r (nI_1 s) (ih d (s + 1) (by omega) (by omega) ?_)))
        · rw [ga_sy_t z w] at h; exact h
        · rw [ga_sy_f w] at h; exact h
      · rw [ga_sy_n z] at h; exact h
theorem ga_ys {post : Int32 → Prop} {f : Int32} {a b o : Nat → Int32} (M : ga_Mk a b) {k s e d : Nat} (hk : k < 6) (he : e ≤ 128) (hd : s + d = e) (h : post (ga_yv (ga_sy a (2 ^ k) d s))) : wpY_search post (f, b, o) (nI k) (nI s) (nI e) :=
  ⟨d + 1, ga_ysL post f a b o M k e hk he (d + 1) d s hd (Nat.lt_succ_self d) h⟩
theorem ga_yg {post : Int32 → Prop} {f : Int32} {a b o : Nat → Int32} (M : ga_Mk a b) {k g : Nat} (hk : k < 6) (hg : g < 4) (h : post (ga_yv (ga_sc a (2 ^ k) (2 ^ (5 - k)) (32 * g)))) : wpY_search post (f, b, o) (nI k) (32 * nI g) (32 * nI g + 32) := by
  rw [ga_32m g, ga_a32 (32 * g)]
  refine ga_ys M (d := 32) hk (by omega) rfl ?_
  rw [ga_grp a hk]
  exact h
theorem ga_yaL (post : Int32 → SY → Prop) (a b o : Nat → Int32) (M : ga_Mk a b) (k G h : Nat) (hk : k < 6) (hG : 0 < G) (hG4 : G ≤ 4) (hh : h < 4) : ∀ n d i r, i + d = G → d < n → ga_Q a k G r → wY_allocate_92 post (nI k) (ga_yv (ga_lp a k G h d i r)) (nI G) b o → wY_allocate_41 post (nI k) (nI h) (nI G) b o n (ga_yv r) (nI i) := by
  intro n
  induction n with
  | zero => intro d i r _ hn; exact absurd hn (Nat.not_lt_zero d)
  | succ n ih =>
    intro d i r hd hn q hp
    cases d with
    | zero => exact br_t (nI_le (by omega) (by omega)) hp
    | succ d =>
      refine br_f (nI_ge (by omega) (by omega)) ?_
      cases r with
      | some r =>
        have q1 := (q r rfl).1
        have p1 := (ga_pp k hk).1
        refine br_t (nI_pos' (n := r) (by omega)) ?_
        rw [ga_lp_s] at hp
        exact hp
      | none =>
        refine br_f (by decide) ⟨nI_ne0 (by omega) (by omega), ?_⟩
        have hm : (h + i) % G < G := Nat.mod_lt _ hG
        have em : (nI h + nI i) - (nI h + nI i) / nI G * nI G = nI ((h + i) % G) := by
          rw [nI_add h i, pk_rem (a := h + i) (d := G) (by omega) (by omega) (by omega)]
        refine nm_r em ?_
        refine ga_yg M hk (by omega) (nm_r (nI_1 i) ?_)
        exact ih d (i + 1) _ (by omega) (by omega) (ga_Q_g hk hm) hp
theorem ga_yiL (post : SY → Prop) (f : Int32) (o : Nat → Int32) (v : Int32) (s p : Nat) (h : s + p ≤ 128) : ∀ n i d : Nat, ∀ a : Nat → Int32, i + d = s + p → d < n → post (f, ga_fi a i d v, o) → wY_fill_3 post (nI s) (nI p) v f n (nI i) a o := by
  intro n
  induction n with
  | zero => intro i d a _ hn; exact absurd hn (Nat.not_lt_zero d)
  | succ n ih =>
    intro i d a hd hn hp
    refine pk_le (s + p) i (fun q => ?_) (fun q => ⟨pk_in i 128 (by omega), ?_⟩) (nI_add s p)
    · have e : d = 0 := by omega
      subst e
      rw [ga_fi_0] at hp
      exact hp
    · obtain ⟨e, rfl⟩ : ∃ e, d = e + 1 := ⟨d - 1, by omega⟩
      rw [show (nI i).toNatClampNeg = i from nI_clamp (by omega)]
      refine nm_e (nm_r (nI_1 i) (ih (i + 1) e _ (by omega) (by omega) ?_))
      rw [ga_fi_u]
      exact hp
theorem ga_yi {post : SY → Prop} {f : Int32} {a o : Nat → Int32} {v : Int32} {s p : Nat} (h : s + p ≤ 128) (hp : post (f, ga_fi a s p v, o)) : wpY_fill post (f, a, o) (nI s) (nI p) v :=
  ⟨p + 1, ga_yiL post f o v s p h (p + 1) s p a rfl (Nat.lt_succ_self p) hp⟩
theorem ga_ym {post : Int32 → SY → Prop} {f : Int32} {a o : Nat → Int32} {k s : Nat} (hk : k < 6) (h : s + 2 ^ k ≤ 128) (hp : post (nI s) (f, ga_fi a s (2 ^ k) (nI s), upd o s (nI k))) : wpY_make post (f, a, o) (nI k) (nI s) := by
  have p1 := (ga_pp k hk).1
  unfold wpY_make
  dsimp only
  rw [ga_pw k hk]
  refine ga_yi h ⟨pk_in s 128 (by omega), ?_⟩
  rw [show (nI s).toNatClampNeg = s from nI_clamp (by omega)]
  exact nm_e hp
theorem ga_y0L (post : SY → Prop) (f : Int32) (o : Nat → Int32) : ∀ n i d : Nat, ∀ a : Nat → Int32, i + d = 128 → d < n → post (f, ga_fi a i d (-1), o) → wY_init_47 post f n (nI i) a o := by
  intro n
  induction n with
  | zero => intro i d a _ hn; exact absurd hn (Nat.not_lt_zero d)
  | succ n ih =>
    intro i d a hd hn hp
    cases d with
    | zero =>
      rw [ga_fi_0] at hp
      exact br_t (nI_le (a := 128) (by omega) (by omega)) hp
    | succ d =>
      refine br_f (nI_ge (b := 128) (by omega) (by omega)) ⟨pk_in i 128 (by omega), ?_⟩
      rw [show (nI i).toNatClampNeg = i from nI_clamp (by omega)]
      refine nm_e (nm_r (nI_1 i) (ih (i + 1) d _ (by omega) (by omega) ?_))
      rw [ga_fi_u]
      exact hp
theorem ga_ybL (post : Int32 → Prop) (f : Int32) (a b o : Nat → Int32) (M : ga_Mk a b) (g : Nat) (hg : g < 4) : ∀ n d s c : Nat, s + d = 32 * g + 32 → d < n → post (nI (c + ga_cn a 1 d s)) → wY_freeBlocks_17 post (nI g) f b o n (nI c) (nI s) := by
  have ee : 32 * nI g + 32 = nI (32 * g + 32) := by rw [ga_32m g, ga_a32 (32 * g)]
  intro n
  induction n with
  | zero => intro d s c _ hn; exact absurd hn (Nat.not_lt_zero d)
  | succ n ih =>
    intro d s c hd hn h
    cases d with
    | zero => exact br_t (by rw [ee]; exact nI_le (by omega) (by omega)) h
    | succ d =>
      refine br_f (by rw [ee]; exact nI_ge (by omega) (by omega)) ⟨pk_in s 128 (by omega), ?_⟩
      rw [show (nI s).toNatClampNeg = s from nI_clamp (by omega), ga_mk0 M (i := s) (by omega)]
      refine br_c (fun z => nm_r (nI_1 c) (nm_r (nI_1 s) (ih d (s + 1) (c + 1) (by omega) (by omega) ?_))) (fun z => nm_r (nI_1 s) (ih d (s + 1) c (by omega) (by omega) ?_))
      · rw [ga_cn_t ((ga_fb_1 a s).mpr z), ← Nat.add_assoc] at h; exact h
      · rw [ga_cn_f (ga_fb_n z)] at h; exact h
theorem ga_ylL (post : Int32 → Prop) (f : Int32) (a b o : Nat → Int32) (M : ga_Mk a b) (g : Nat) (hg : g < 4) : ∀ m n : Nat, ∀ x : Int32, m ≤ 6 → m < n → x = nI m + (-1) → post (ga_lf a g m) → wY_largestFree_12 post (nI g) f b o n x := by
  intro m
  induction m with
  | zero =>
    intro n x _ hn hx h
    obtain ⟨n, rfl⟩ : ∃ d, n = d + 1 := ⟨n - 1, by omega⟩
    exact br_t (by rw [hx]; decide) h
  | succ m ih =>
    intro n x hm hn hx h
    obtain ⟨n, rfl⟩ : ∃ d, n = d + 1 := ⟨n - 1, by omega⟩
    rw [pk_m1] at hx
    subst hx
    refine br_f (nI_pos (by omega)) (ga_yg M (by omega) hg ?_)
    cases E : ga_sc a (2 ^ m) (2 ^ (5 - m)) (32 * g) with
    | none => exact br_t (by decide) fun y ey => ih n y (by omega) (by omega) ey (by rw [ga_lf_n E] at h; exact h)
    | some r =>
      have p1 := (ga_pp m (by omega)).1
      have q1 := (ga_Q_g (a := a) (k := m) (G := 4) (by omega) hg r E).1
      exact br_f (nI_pos (n := r) (by omega)) (by rw [ga_lf_s E] at h; exact h)
theorem ga_yuL (post : Int32 → Prop) (a b o : Nat → Int32) (M : ga_Mk a b) (k G : Nat) (hk : k < 6) (hG4 : G ≤ 4) : ∀ n d s c : Nat, s + d = 32 * G → d < n → post (nI (c + ga_cy a (2 ^ k) d s)) → wY_freeRuns_14 post (nI k) (nI G) b o n (nI c) (nI s) := by
  intro n
  induction n with
  | zero => intro d s c _ hn; exact absurd hn (Nat.not_lt_zero d)
  | succ n ih =>
    intro d s c hd hn h
    cases d with
    | zero => exact br_t (by rw [ga_32m G]; exact nI_le (by omega) (by omega)) h
    | succ d =>
      refine br_f (by rw [ga_32m G]; exact nI_ge (by omega) (by omega)) ?_
      refine ga_yr hk (by omega) (fun z => br_f ga_10 ?_) (fun z => br_t rfl (nm_r (nI_1 s) (ih d (s + 1) c (by omega) (by omega) ?_)))
      · rw [ga_pw k hk]
        refine ga_yf M (ga_al k hk 4 s (by omega) z) (fun w => br_f ga_10 (nm_r (nI_1 c) (nm_r (nI_1 s) (ih d (s + 1) (c + 1) (by omega) (by omega) ?_)))) (fun w => br_t rfl (nm_r (nI_1 s) (ih d (s + 1) c (by omega) (by omega) ?_)))
        · rw [ga_cy_t z w, ← Nat.add_assoc] at h; exact h
        · rw [ga_cy_f w] at h; exact h
      · rw [ga_cy_n z] at h; exact h
theorem ga_yeL (post : Int32 → Prop) (a b o : Nat → Int32) (M : ga_Mk a b) (G : Nat) (hG4 : G ≤ 4) : ∀ n d s c : Nat, s + d = 32 * G → d < n → post (nI (c + ga_ex a (32 * G) d s)) → wY_extents_4 post (nI G) b o n (nI c) (nI s) := by
  intro n
  induction n with
  | zero => intro d s c _ hn; exact absurd hn (Nat.not_lt_zero d)
  | succ n ih =>
    intro d s c hd hn h
    cases d with
    | zero => exact br_t (by rw [ga_32m G]; exact nI_le (by omega) (by omega)) h
    | succ d =>
      refine br_f (by rw [ga_32m G]; exact nI_ge (by omega) (by omega)) ⟨pk_in s 128 (by omega), ?_⟩
      rw [show (nI s).toNatClampNeg = s from nI_clamp (by omega), ga_mkn M (i := s) (by omega)]
      refine br_c (fun z => nm_r (nI_1 c) (nm_r (nI_1 s) (ih d (s + 1) (c + 1) (by omega) (by omega) ?_))) (fun z => nm_r (nI_1 s) (ih d (s + 1) c (by omega) (by omega) ?_))
      · rw [ga_ex_t (by omega) z, ← Nat.add_assoc] at h; exact h
      · rw [ga_ex_f (fun w => z w.2)] at h; exact h
theorem ga_yo0 {post : Int32 → Prop} {u : SY} {x : Int32} (hx : ¬ ∃ j, j < 6 ∧ x = nI j) (h : post 0) : wpY_isOrder post u x := ga_ro0 hx h
theorem ga_yo1 {post : Int32 → Prop} {u : SY} {j : Nat} (hj : j < 6) (h : post 1) : wpY_isOrder post u (nI j) := ga_ro1 hj h
theorem ga_yb0 {post : Int32 → Prop} {a o : Nat → Int32} {G : Nat} {x : Int32} (hG : G ≤ 4) (hx : ¬ ∃ j, j < 32 * G ∧ x = nI j) (h : post 0) : wpY_isBlock post (nI G, a, o) x := by
  unfold wpY_isBlock
  dsimp only
  rw [ga_32m]
  exact ga_rg0 (by omega) hx h
theorem ga_yb1 {post : Int32 → Prop} {a o : Nat → Int32} {G j : Nat} (hG : G ≤ 4) (hj : j < 32 * G) (h : post 1) : wpY_isBlock post (nI G, a, o) (nI j) := by
  unfold wpY_isBlock
  dsimp only
  rw [ga_32m]
  exact ga_rg1 (by omega) hj h
theorem ga_yq0 {post : Int32 → Prop} {a o : Nat → Int32} {G : Nat} {x : Int32} (hG : G ≤ 4) (hx : ¬ ∃ j, j < G ∧ x = nI j) (h : post 0) : wpY_isGroup post (nI G, a, o) x := ga_rg0 (by omega) hx h
theorem ga_yq1 {post : Int32 → Prop} {a o : Nat → Int32} {G j : Nat} (hG : G ≤ 4) (hj : j < G) (h : post 1) : wpY_isGroup post (nI G, a, o) (nI j) := ga_rg1 (by omega) hj h
theorem ga_yx1 {post : Int32 → Prop} {a b o : Nat → Int32} (M : ga_Mk a b) {G s : Nat} (hG : G ≤ 4) (hs : s < 32 * G) (ha : a s = nI (s + 1)) (h : post 1) : wpY_isExtent post (nI G, b, o) (nI s) := by
  unfold wpY_isExtent
  dsimp only
  refine ga_yb1 hG hs (br_f ga_10 ⟨pk_in s 128 (by omega), ?_⟩)
  rw [show (nI s).toNatClampNeg = s from nI_clamp (by omega)]
  exact br_t ((ga_mkn M (by omega) s).mpr ha) h
theorem ga_yx0 {post : Int32 → Prop} {a b o : Nat → Int32} (M : ga_Mk a b) {G : Nat} {x : Int32} (hG : G ≤ 4) (hx : ¬ ∃ s, s < 32 * G ∧ x = nI s ∧ a s = nI (s + 1)) (h : post 0) : wpY_isExtent post (nI G, b, o) x := by
  unfold wpY_isExtent
  dsimp only
  by_cases z : ∃ j, j < 32 * G ∧ x = nI j
  · obtain ⟨s, hs, rfl⟩ := z
    refine ga_yb1 hG hs (br_f ga_10 ⟨pk_in s 128 (by omega), ?_⟩)
    rw [show (nI s).toNatClampNeg = s from nI_clamp (by omega)]
    exact br_f (fun w => hx ⟨s, hs, rfl, (ga_mkn M (by omega) s).mp w⟩) h
  · exact ga_yb0 hG z (br_t rfl h)
end
section
/-! the relation, and what is owed -/
/-- the same groups, the same orders; X's marks are Y's and one; each extent has its order and its blocks -/
def i_Rel (k : Nat) (u : SX) (v : SY) : Prop := ∃ G : Nat, ∃ a b o : Nat → Int32, 0 < G ∧ G ≤ 4 ∧ u = (nI G, a, o) ∧ v = (nI G, b, o) ∧ ga_Mk a b ∧ ga_Inv (32 * G) a o
theorem i_up {k : Nat} {u : SX} {v : SY} (h : i_Rel k u v) : i_Rel (k + 3) u v := h
theorem ga_rel {k G : Nat} {a b o : Nat → Int32} (h1 : 0 < G) (h2 : G ≤ 4) (M : ga_Mk a b) (J : ga_Inv (32 * G) a o) : i_Rel k (nI G, a, o) (nI G, b, o) := ⟨G, a, b, o, h1, h2, rfl, rfl, M, J⟩
/-- a run that is made an extent -/
theorem ga_mkrel {k G j s : Nat} {a b o : Nat → Int32} (h1 : 0 < G) (h2 : G ≤ 4) (M : ga_Mk a b) (J : ga_Inv (32 * G) a o) (hj : j < 6) (hs : s + 2 ^ j ≤ 32 * G) (hf : ∀ i, i < 2 ^ j → a (s + i) = 0 ∨ a (s + i) = nI (s + 1)) : i_Rel k (nI G, ga_fi a s (2 ^ j) (nI (s + 1)), upd o s (nI j)) (nI G, ga_fi b s (2 ^ j) (nI s), upd o s (nI j)) := by
  have p1 := (ga_pp j hj).1
  refine ga_rel h1 h2 (ga_mk_fi M s _ (nI_1 s).symm) (ga_keep s (by omega) (by omega) J (fun i => ?_) (fun t ht => pk_un ht) (fun _ => ⟨j, hj, pk_us, hs, fun i hi => ga_fi_i ⟨by omega, by omega⟩⟩))
  by_cases z : s ≤ i ∧ i < s + 2 ^ j
  · refine Or.inr ⟨?_, Or.inr (ga_fi_i z)⟩
    have := hf (i - s) (by omega)
    rwa [show s + (i - s) = i by omega] at this
  · exact Or.inl (ga_fi_o z)
theorem ga_z {G : Nat} (h1 : 0 < G) (h2 : G ≤ 4) : ∃ n, wY_init_47 (fun v => i_Rel 1 (nI G, fun _ => 0, fun _ => 0) v) (nI G) n 0 (fun _ => 0) (fun _ => 0) :=
  ⟨129, ga_y0L _ (nI G) _ 129 0 128 _ rfl (by omega) (ga_rel h1 h2 ga_mkz (ga_invz (by omega)))⟩
theorem i_vc0 (k0 : Int32) : wpX_init (fun u => wpY_init (fun v => i_Rel 1 u v) k0) k0 := by
  by_cases h : 1 ≤ k0
  · by_cases h4 : k0 ≤ 4
    · obtain ⟨G, hG, rfl⟩ := nI_of (x := k0) (Int32.not_lt.mpr (Int32.le_trans (by decide) h))
      have e1 := (nI_leI (a := 1) (by omega) hG).mp h
      have e4 := (nI_leI (b := 4) hG (by omega)).mp h4
      exact br_t h (br_t h4 (br_t h (br_t h4 (ga_z (by omega) e4))))
    · exact br_t h (br_f h4 (br_t h (br_f h4 (ga_z (G := 4) (by omega) (by omega)))))
  · exact br_f h (br_f h (ga_z (G := 1) (by omega) (by omega)))
theorem ga_yal {post : Int32 → SY → Prop} {a b o : Nat → Int32} (M : ga_Mk a b) {k g G : Nat} (hk : k < 6) (hG : 0 < G) (hG4 : G ≤ 4) (hg : g < 32 * G) (h : wY_allocate_92 post (nI k) (ga_yv (ga_R a k G g)) (nI G) b o) : wpY_allocate post (nI G, b, o) (nI k) (nI g) := by
  obtain ⟨n1, n2, n3, n4, _⟩ := ga_near k hk g
  have ed : nI g / 32 = nI (g / 32) := pk_div (d := 32) (by omega) (by omega) (by omega)
  unfold wpY_allocate
  dsimp only
  refine ga_yo1 hk (br_f ga_10 (ga_yb1 hG4 hg (br_f ga_10 ⟨by decide, nm_r ed ?_⟩)))
  rw [ga_32m (g / 32), ga_a32 (32 * (g / 32))]
  refine ga_ys M (d := 32 * (g / 32) + 32 - g) hk (by omega) (by omega) ⟨G + 1, ?_⟩
  rw [ga_goal a hk g]
  exact ga_yaL post a b o M k G (g / 32) hk hG hG4 (by omega) (G + 1) G 0 _ (by omega) (by omega) (ga_Q_sc (by omega)) h
theorem i_vc_allocate {k : Nat} {u : SX} {v : SY} (I : i_Rel k u v) (hk : k + 3 ≤ 1537) (v1 : Int32) (v2 : Int32) : wpX_allocate (fun r u' => wpY_allocate (fun r' v' => r' = r ∧ i_Rel (k + 3) u' v') v v1 v2) u v1 v2 := by
  obtain ⟨G, a, b, o, h1, h2, rfl, rfl, M, J⟩ := I
  unfold wpX_allocate
  dsimp only
  by_cases x1 : ∃ j, j < 6 ∧ v1 = nI j
  · obtain ⟨q, hq, rfl⟩ := x1
    refine ga_io1 hq (br_f ga_10 ?_)
    by_cases x2 : ∃ j, j < 32 * G ∧ v2 = nI j
    · obtain ⟨g, hg, rfl⟩ := x2
      refine ga_ib1 h2 hg (br_f ga_10 ?_)
      refine ga_fn hq h1 h2 hg ?_
      obtain ⟨n1, n2, n3, n4, _⟩ := ga_near q hq g
      have p1 := (ga_pp q hq).1
      have Q : ga_Q a q G (ga_R a q G g) := ga_lp_Q hq h1 G 0 _ (ga_Q_sc (by omega))
      have Y := fun post h => ga_yal (post := post) (o := o) M hq h1 h2 hg h
      cases E : ga_R a q G g with
      | none =>
        rw [E] at Y
        exact br_t rfl (Y _ (br_f (by decide) ⟨rfl, ga_rel h1 h2 M J⟩))
      | some r =>
        obtain ⟨q1, q2⟩ := Q r E
        rw [E] at Y
        refine br_f (ga_n2 (r := r) (by omega)) (ga_me hq (by omega) ?_)
        refine Y _ (br_t (nI_pos' (n := r) (by omega)) (ga_ym hq (by omega) ⟨rfl, ga_mkrel h1 h2 M J hq q1 (fun i hi => Or.inl (ga_fb_t.mp q2 i hi))⟩))
    · refine ga_ib0 h2 x2 (br_t rfl ?_)
      unfold wpY_allocate
      dsimp only
      exact ga_yo1 hq (br_f ga_10 (ga_yb0 h2 x2 (br_t rfl ⟨rfl, ga_rel h1 h2 M J⟩)))
  · refine ga_io0 x1 (br_t rfl ?_)
    unfold wpY_allocate
    dsimp only
    exact ga_yo0 x1 (br_t rfl ⟨rfl, ga_rel h1 h2 M J⟩)
theorem i_vc_claim {k : Nat} {u : SX} {v : SY} (I : i_Rel k u v) (hk : k + 3 ≤ 1537) (v1 : Int32) (v2 : Int32) : wpX_claim (fun r u' => wpY_claim (fun r' v' => r' = r ∧ i_Rel (k + 3) u' v') v v1 v2) u v1 v2 := by
  obtain ⟨G, a, b, o, h1, h2, rfl, rfl, M, J⟩ := I
  unfold wpX_claim wpY_claim
  dsimp only
  by_cases x1 : ∃ j, j < 6 ∧ v1 = nI j
  · obtain ⟨q, hq, rfl⟩ := x1
    obtain ⟨p1, p2, _⟩ := ga_pp q hq
    refine ga_io1 hq (br_f ga_10 ?_)
    by_cases x2 : ∃ j, j < 32 * G ∧ v2 = nI j
    · obtain ⟨s, hs, rfl⟩ := x2
      refine ga_ib1 h2 hs (br_f ga_10 ?_)
      rw [ga_pw q hq, pk_rem (a := s) (by omega) p1 (by omega)]
      refine ⟨nI_ne0 p1 (by omega), pk_eq (s % 2 ^ q) 0 (fun z => ?_) (fun z => ?_) rfl rfl (Nat.lt_of_le_of_lt (Nat.mod_le _ _) (by omega))⟩
      · have hb := ga_al q hq G s hs z
        refine ga_af (by omega) (fun w => br_f ga_10 (ga_me hq (by omega) ?_)) (fun w => br_t rfl ?_)
        · dsimp only
          refine ga_yo1 hq (br_f ga_10 (ga_yb1 h2 hs (br_f ga_10 (ga_yr hq (by omega) (fun _ => br_f ga_10 (ga_yf M (by omega) (fun _ => br_f ga_10 (ga_ym hq (by omega) ⟨rfl, ?_⟩)) (fun w' => nomatch w.symm.trans w'))) (fun z' => absurd z z')))))
          exact ga_mkrel h1 h2 M J hq hb (fun i hi => Or.inl (ga_fb_t.mp w i hi))
        · exact ga_yo1 hq (br_f ga_10 (ga_yb1 h2 hs (br_f ga_10 (ga_yr hq (by omega) (fun _ => br_f ga_10 (ga_yf M (by omega) (fun w' => nomatch w.symm.trans w') (fun _ => br_t rfl ⟨rfl, ga_rel h1 h2 M J⟩))) (fun z' => absurd z z')))))
      · exact ga_yo1 hq (br_f ga_10 (ga_yb1 h2 hs (br_f ga_10 (ga_yr hq (by omega) (fun z' => absurd z' z) (fun _ => br_t rfl ⟨rfl, ga_rel h1 h2 M J⟩)))))
    · exact ga_ib0 h2 x2 (br_t rfl (ga_yo1 hq (br_f ga_10 (ga_yb0 h2 x2 (br_t rfl ⟨rfl, ga_rel h1 h2 M J⟩)))))
  · exact ga_io0 x1 (br_t rfl (ga_yo0 x1 (br_t rfl ⟨rfl, ga_rel h1 h2 M J⟩)))
theorem i_vc_release {k : Nat} {u : SX} {v : SY} (I : i_Rel k u v) (hk : k + 3 ≤ 1537) (v1 : Int32) : wpX_release (fun r u' => wpY_release (fun r' v' => r' = r ∧ i_Rel (k + 3) u' v') v v1) u v1 := by
  obtain ⟨G, a, b, o, h1, h2, rfl, rfl, M, J⟩ := I
  unfold wpX_release wpY_release
  dsimp only
  by_cases x : ∃ s, s < 32 * G ∧ v1 = nI s ∧ a s = nI (s + 1)
  · obtain ⟨s, hs, rfl, ha⟩ := x
    obtain ⟨q, hq, ho, hb, hj⟩ := J s hs ha
    have p1 := (ga_pp q hq).1
    rw [show (nI s).toNatClampNeg = s from nI_clamp (by omega), ho]
    refine ga_ie1 h2 hs ha (br_f ga_10 ⟨pk_in s 128 (by omega), nm_e ?_⟩)
    rw [ga_pw q hq]
    refine ga_so (by omega) ?_
    dsimp only
    refine ga_yx1 M h2 hs ha (br_f ga_10 ⟨pk_in s 128 (by omega), ga_yi (by omega) ⟨pk_in s 128 (by omega), ho, ?_⟩⟩)
    refine ga_rel h1 h2 (ga_mk_fi M s _ rfl) (ga_keep s (by omega) (by omega) J (fun i => ?_) (fun t ht => rfl) (fun e => absurd ((ga_fi_i ⟨by omega, by omega⟩).symm.trans e) (ga_n0 (by omega))))
    by_cases z : s ≤ i ∧ i < s + 2 ^ q
    · have := hj (i - s) (by omega)
      rw [show s + (i - s) = i by omega] at this
      exact Or.inr ⟨Or.inr this, Or.inl (ga_fi_i z)⟩
    · exact Or.inl (ga_fi_o z)
  · exact ga_ie0 h2 x (br_t rfl (ga_yx0 M h2 x (br_t rfl ⟨rfl, ga_rel h1 h2 M J⟩)))
theorem i_vc_grow {k : Nat} {u : SX} {v : SY} (I : i_Rel k u v) (hk : k + 3 ≤ 1537) (v1 : Int32) : wpX_grow (fun r u' => wpY_grow (fun r' v' => r' = r ∧ i_Rel (k + 3) u' v') v v1) u v1 := by
  obtain ⟨G, a, b, o, h1, h2, rfl, rfl, M, J⟩ := I
  unfold wpX_grow wpY_grow
  dsimp only
  by_cases x : ∃ s, s < 32 * G ∧ v1 = nI s ∧ a s = nI (s + 1)
  · obtain ⟨s, hs, rfl, ha⟩ := x
    obtain ⟨q, hq, ho, hb, hj⟩ := J s hs ha
    obtain ⟨p1, p2, _⟩ := ga_pp q hq
    have hi : vp_in (nI s) 128 := pk_in s 128 (by omega)
    rw [show (nI s).toNatClampNeg = s from nI_clamp (by omega), ho]
    refine ga_ie1 h2 hs ha (br_f ga_10 ⟨hi, nm_e (nm_r (ga_pw q hq) ?_)⟩)
    refine pk_eq q 5 (fun z => ?_) (fun z => ?_)
    · refine ga_yx1 M h2 hs ha (br_f ga_10 ⟨hi, nm_e (br_t ?_ ⟨rfl, ga_rel h1 h2 M J⟩)⟩)
      rw [z]; rfl
    · have e3 : 2 ^ (q + 1) = 2 ^ q + 2 ^ q := by rw [Nat.pow_succ]; omega
      have e2 : 2 * nI (2 ^ q) = nI (2 ^ (q + 1)) := (pk_mul 2 (2 ^ q)).trans (congrArg nI (by omega))
      have n5 : ¬ nI q = 5 := fun w => z ((nI_eq (b := 5) (by omega) (by omega)).mp w)
      have hq1 : q + 1 < 6 := by omega
      rw [e2, pk_rem (a := s) (by omega) (ga_pp (q + 1) hq1).1 (by omega)]
      refine ⟨nI_ne0 (ga_pp (q + 1) hq1).1 (by omega), pk_eq (s % 2 ^ (q + 1)) 0 (fun w => ?_) (fun w => ?_) rfl rfl (Nat.lt_of_le_of_lt (Nat.mod_le _ _) (by omega))⟩
      · have hb2 := ga_al (q + 1) hq1 G s hs w
        rw [nI_add s (2 ^ q), nI_1 q]
        refine ga_af (by omega) (fun f => br_f ga_10 (ga_me hq1 (by omega) ?_)) (fun f => br_t rfl ?_)
        · dsimp only
          refine ga_yx1 M h2 hs ha (br_f ga_10 ⟨hi, nm_e (br_f n5 ?_)⟩)
          rw [nI_1 q, ga_pw q hq, nI_add s (2 ^ q)]
          refine ga_yr hq1 (by omega) (fun _ => br_f ga_10 (ga_yf M (by omega) (fun _ => br_f ga_10 (ga_ym hq1 (by omega) ⟨rfl, ?_⟩)) (fun f' => nomatch f.symm.trans f'))) (fun w' => absurd w w')
          refine ga_mkrel h1 h2 M J hq1 hb2 (fun i hi => ?_)
          by_cases l : i < 2 ^ q
          · exact Or.inr (hj i l)
          · have := ga_fb_t.mp f (i - 2 ^ q) (by omega)
            rw [show s + 2 ^ q + (i - 2 ^ q) = s + i by omega] at this
            exact Or.inl this
        · refine ga_yx1 M h2 hs ha (br_f ga_10 ⟨hi, nm_e (br_f n5 ?_)⟩)
          rw [nI_1 q, ga_pw q hq, nI_add s (2 ^ q)]
          exact ga_yr hq1 (by omega) (fun _ => br_f ga_10 (ga_yf M (by omega) (fun f' => nomatch f.symm.trans f') (fun _ => br_t rfl ⟨rfl, ga_rel h1 h2 M J⟩))) (fun w' => absurd w w')
      · refine ga_yx1 M h2 hs ha (br_f ga_10 ⟨hi, nm_e (br_f n5 ?_)⟩)
        rw [nI_1 q]
        exact ga_yr hq1 (by omega) (fun w' => absurd w' w) (fun _ => br_t rfl ⟨rfl, ga_rel h1 h2 M J⟩)
  · exact ga_ie0 h2 x (br_t rfl (ga_yx0 M h2 x (br_t rfl ⟨rfl, ga_rel h1 h2 M J⟩)))
/-- an extent that is halved: X leaves the lower half as it is, Y writes it anew -/
theorem ga_hvrel {k G t s : Nat} {a b o : Nat → Int32} (h1 : 0 < G) (h2 : G ≤ 4) (M : ga_Mk a b) (J : ga_Inv (32 * G) a o) (ht : t < 6) (hb : s + 2 ^ (t + 1) ≤ 32 * G) (hj : ∀ i, i < 2 ^ (t + 1) → a (s + i) = nI (s + 1)) : i_Rel k (nI G, ga_fi a (s + 2 ^ t) (2 ^ t) 0, upd o s (nI t)) (nI G, ga_fi (ga_fi b s (2 ^ (t + 1)) (-1)) s (2 ^ t) (nI s), upd o s (nI t)) := by
  have p1 := (ga_pp t ht).1
  have e3 : 2 ^ (t + 1) = 2 ^ t + 2 ^ t := by rw [Nat.pow_succ]; omega
  have hj' : ∀ i, s ≤ i → i < s + 2 ^ t + 2 ^ t → a i = nI (s + 1) := by
    intro i l1 l2
    have := hj (i - s) (by omega)
    rwa [show s + (i - s) = i by omega] at this
  refine ga_rel h1 h2 (fun i hi => ?_) (ga_keep s (by omega) (by omega) J (fun i => ?_) (fun t ht => pk_un ht) (fun _ => ⟨t, ht, pk_us, by omega, fun i hi => ?_⟩))
  · by_cases l : s ≤ i ∧ i < s + 2 ^ t
    · have n2 : ¬ (s + 2 ^ t ≤ i ∧ i < s + 2 ^ t + 2 ^ t) := by omega
      rw [ga_fi_o n2, ga_fi_i l, hj' i (by omega) (by omega), nI_1]
    · rw [ga_fi_o l]
      by_cases l2 : s + 2 ^ t ≤ i ∧ i < s + 2 ^ t + 2 ^ t
      · have n3 : s ≤ i ∧ i < s + 2 ^ (t + 1) := by omega
        rw [ga_fi_i l2, ga_fi_i n3]; rfl
      · have n3 : ¬ (s ≤ i ∧ i < s + 2 ^ (t + 1)) := by omega
        rw [ga_fi_o l2, ga_fi_o n3]; exact M i hi
  · by_cases l2 : s + 2 ^ t ≤ i ∧ i < s + 2 ^ t + 2 ^ t
    · exact Or.inr ⟨Or.inr (hj' i (by omega) (by omega)), Or.inl (ga_fi_i l2)⟩
    · exact Or.inl (ga_fi_o l2)
  · have n2 : ¬ (s + 2 ^ t ≤ s + i ∧ s + i < s + 2 ^ t + 2 ^ t) := by omega
    rw [ga_fi_o n2]
    exact hj i (by omega)
theorem i_vc_halve {k : Nat} {u : SX} {v : SY} (I : i_Rel k u v) (hk : k + 3 ≤ 1537) (v1 : Int32) : wpX_halve (fun r u' => wpY_halve (fun r' v' => r' = r ∧ i_Rel (k + 3) u' v') v v1) u v1 := by
  obtain ⟨G, a, b, o, h1, h2, rfl, rfl, M, J⟩ := I
  unfold wpX_halve wpY_halve
  dsimp only
  by_cases x : ∃ s, s < 32 * G ∧ v1 = nI s ∧ a s = nI (s + 1)
  · obtain ⟨s, hs, rfl, ha⟩ := x
    obtain ⟨q, hq, ho, hb, hj⟩ := J s hs ha
    have hi : vp_in (nI s) 128 := pk_in s 128 (by omega)
    rw [show (nI s).toNatClampNeg = s from nI_clamp (by omega), ho]
    refine ga_ie1 h2 hs ha (br_f ga_10 ⟨hi, nm_e ?_⟩)
    refine pk_eq q 0 (fun z => ?_) (fun z => ?_)
    · refine ga_yx1 M h2 hs ha (br_f ga_10 ⟨hi, nm_e (br_t ?_ ⟨rfl, ga_rel h1 h2 M J⟩)⟩)
      rw [z]; rfl
    · obtain ⟨t, rfl⟩ : ∃ t, q = t + 1 := ⟨q - 1, by omega⟩
      have ht : t < 6 := by omega
      obtain ⟨p1, p2, _⟩ := ga_pp t ht
      have e3 : 2 ^ (t + 1) = 2 ^ t + 2 ^ t := by rw [Nat.pow_succ]; omega
      rw [nI_pred t, ga_pw t ht]
      refine nm_e ?_
      rw [nI_add s (2 ^ t)]
      refine ga_so (by omega) ⟨hi, nm_e ?_⟩
      refine ga_yx1 M h2 hs ha (br_f ga_10 ⟨hi, nm_e (br_f (nI_ne0 (by omega) (by omega)) ?_)⟩)
      rw [nI_pred t, ga_pw (t + 1) hq]
      refine ga_yi (by omega) (ga_ym ht (by omega) ⟨rfl, ?_⟩)
      exact ga_hvrel h1 h2 M J ht hb hj
  · exact ga_ie0 h2 x (br_t rfl (ga_yx0 M h2 x (br_t rfl ⟨rfl, ga_rel h1 h2 M J⟩)))
end
section
/-! what is owed of the methods that only read -/
theorem i_vc_extentOf {k : Nat} {u : SX} {v : SY} (I : i_Rel k u v) (hk : k + 3 ≤ 1537) (v1 : Int32) : wpX_extentOf (fun r => wpY_extentOf (fun r' => r' = r ∧ i_Rel (k + 3) u v) v v1) u v1 := by
  obtain ⟨G, a, b, o, h1, h2, rfl, rfl, M, J⟩ := I
  have R : i_Rel (k + 3) (nI G, a, o) (nI G, b, o) := ga_rel h1 h2 M J
  unfold wpX_extentOf wpY_extentOf
  dsimp only
  by_cases x : ∃ j, j < 32 * G ∧ v1 = nI j
  · obtain ⟨s, hs, rfl⟩ := x
    have hi : vp_in (nI s) 128 := pk_in s 128 (by omega)
    rw [show (nI s).toNatClampNeg = s from nI_clamp (by omega)]
    refine ga_ib1 h2 hs (br_f ga_10 ⟨hi, br_c (fun z => ?_) (fun z => ⟨hi, ?_⟩)⟩)
    · exact ga_yb1 h2 hs (br_f ga_10 ⟨hi, br_t ((ga_mk0 M (by omega)).mpr z) ⟨rfl, R⟩⟩)
    · exact ga_yb1 h2 hs (br_f ga_10 ⟨hi, br_f (fun w => z ((ga_mk0 M (by omega)).mp w)) ⟨hi, ga_mks M (by omega), R⟩⟩)
  · exact ga_ib0 h2 x (br_t rfl (ga_yb0 h2 x (br_t rfl ⟨rfl, R⟩)))
theorem i_vc_freeBlocks {k : Nat} {u : SX} {v : SY} (I : i_Rel k u v) (hk : k + 3 ≤ 1537) (v1 : Int32) : wpX_freeBlocks (fun r => wpY_freeBlocks (fun r' => r' = r ∧ i_Rel (k + 3) u v) v v1) u v1 := by
  obtain ⟨G, a, b, o, h1, h2, rfl, rfl, M, J⟩ := I
  have R : i_Rel (k + 3) (nI G, a, o) (nI G, b, o) := ga_rel h1 h2 M J
  unfold wpX_freeBlocks wpY_freeBlocks
  dsimp only
  by_cases x : ∃ j, j < G ∧ v1 = nI j
  · obtain ⟨g, hg, rfl⟩ := x
    refine ga_ig1 h2 hg (br_f ga_10 (ga_cf (k := 0) (by omega) (by omega) ?_))
    refine ga_yq1 h2 hg (br_f ga_10 (nm_r (ga_32m g) ⟨33, ?_⟩))
    refine ga_ybL _ (nI G) a b o M g (by omega) 33 32 (32 * g) 0 rfl (by omega) ⟨?_, R⟩
    rw [Nat.zero_add]
  · exact ga_ig0 h2 x (br_t rfl (ga_yq0 h2 x (br_t rfl ⟨rfl, R⟩)))
theorem i_vc_largestFree {k : Nat} {u : SX} {v : SY} (I : i_Rel k u v) (hk : k + 3 ≤ 1537) (v1 : Int32) : wpX_largestFree (fun r => wpY_largestFree (fun r' => r' = r ∧ i_Rel (k + 3) u v) v v1) u v1 := by
  obtain ⟨G, a, b, o, h1, h2, rfl, rfl, M, J⟩ := I
  have R : i_Rel (k + 3) (nI G, a, o) (nI G, b, o) := ga_rel h1 h2 M J
  unfold wpX_largestFree wpY_largestFree
  dsimp only
  by_cases x : ∃ j, j < G ∧ v1 = nI j
  · obtain ⟨g, hg, rfl⟩ := x
    refine ga_ig1 h2 hg (br_f ga_10 ⟨7, ga_lfL _ (nI G) a o g (by omega) 6 7 5 (by omega) (by omega) rfl ?_⟩)
    exact ga_yq1 h2 hg (br_f ga_10 ⟨7, ga_ylL _ (nI G) a b o M g (by omega) 6 7 5 (by omega) (by omega) rfl ⟨rfl, R⟩⟩)
  · exact ga_ig0 h2 x (br_t rfl (ga_yq0 h2 x (br_t rfl ⟨rfl, R⟩)))
theorem i_vc_freeRuns {k : Nat} {u : SX} {v : SY} (I : i_Rel k u v) (hk : k + 3 ≤ 1537) (v1 : Int32) : wpX_freeRuns (fun r => wpY_freeRuns (fun r' => r' = r ∧ i_Rel (k + 3) u v) v v1) u v1 := by
  obtain ⟨G, a, b, o, h1, h2, rfl, rfl, M, J⟩ := I
  have R : i_Rel (k + 3) (nI G, a, o) (nI G, b, o) := ga_rel h1 h2 M J
  unfold wpX_freeRuns wpY_freeRuns
  dsimp only
  by_cases x : ∃ j, j < 6 ∧ v1 = nI j
  · obtain ⟨q, hq, rfl⟩ := x
    refine ga_io1 hq (br_f ga_10 ⟨G + 1, ga_frsL _ a o q G hq h2 (G + 1) G 0 (by omega) (by omega) ?_⟩)
    refine ga_yo1 hq (br_f ga_10 ⟨32 * G + 1, ga_yuL _ a b o M q G hq h2 (32 * G + 1) (32 * G) 0 0 (by omega) (by omega) ⟨?_, R⟩⟩)
    rw [Nat.zero_add, ga_fs_cy a hq]
  · exact ga_io0 x (br_t rfl (ga_yo0 x (br_t rfl ⟨rfl, R⟩)))
theorem i_vc_extents {k : Nat} {u : SX} {v : SY} (I : i_Rel k u v) (hk : k + 3 ≤ 1537) : wpX_extents (fun r => wpY_extents (fun r' => r' = r ∧ i_Rel (k + 3) u v) v) u := by
  obtain ⟨G, a, b, o, h1, h2, rfl, rfl, M, J⟩ := I
  have R : i_Rel (k + 3) (nI G, a, o) (nI G, b, o) := ga_rel h1 h2 M J
  have e : ga_ex a (32 * G) 128 0 = ga_ex a (32 * G) (32 * G) 0 := by
    have e1 := ga_ex_add (a := a) (L := 32 * G) (32 * G) (128 - 32 * G) 0
    rw [show 32 * G + (128 - 32 * G) = 128 by omega, ga_ex_hi (128 - 32 * G) (0 + 32 * G) (by omega)] at e1
    exact e1
  refine ⟨129, ga_exL _ a o G h2 129 128 0 0 rfl (by omega) ⟨32 * G + 1, ?_⟩⟩
  refine ga_yeL _ a b o M G h2 (32 * G + 1) (32 * G) 0 0 (by omega) (by omega) ⟨?_, R⟩
  rw [e]
end
