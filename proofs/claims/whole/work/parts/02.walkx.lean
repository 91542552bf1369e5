/-! X: one lemma a helper or loop, with a general post -/
theorem ga_afL (post : Int32 → Prop) (f : Int32) (a o : Nat → Int32) (s p : Nat) (h : s + p ≤ 128) : ∀ n i d : Nat, i + d = s + p → d < n → (ga_fb a i d = true → post 1) → (ga_fb a i d = false → post 0) → wX_areFree_2 post (nI s) (nI p) f a o n (nI i) := by
  intro n
  induction n with
  | zero => intro i d _ hn; exact absurd hn (Nat.not_lt_zero d)
  | succ n ih =>
    intro i d hd hn h1 h0
    refine pk_le (s + p) i (fun q => ?_) (fun q => ⟨pk_in i 128 (by omega), ?_⟩) (nI_add s p)
    · have e : d = 0 := by omega
      subst e
      exact h1 (ga_fb_0 a i)
    · obtain ⟨e, rfl⟩ : ∃ e, d = e + 1 := ⟨d - 1, by omega⟩
      rw [show (nI i).toNatClampNeg = i from nI_clamp (by omega)]
      refine br_c (fun z => nm_r (nI_1 i) ?_) (fun z => h0 (ga_fb_n z))
      exact ih (i + 1) e (by omega) (by omega) (fun q => h1 (by rw [ga_fb_s z]; exact q)) (fun q => h0 (by rw [ga_fb_s z]; exact q))
theorem ga_af {post : Int32 → Prop} {f : Int32} {a o : Nat → Int32} {s p : Nat} (h : s + p ≤ 128) (h1 : ga_fb a s p = true → post 1) (h0 : ga_fb a s p = false → post 0) : wpX_areFree post (f, a, o) (nI s) (nI p) :=
  ⟨p + 1, ga_afL post f a o s p h (p + 1) s p rfl (Nat.lt_succ_self p) h1 h0⟩
theorem ga_frL (post : Int32 → Prop) (f : Int32) (a o : Nat → Int32) (p e : Nat) (hp : 0 < p) (he : e ≤ 128) : ∀ n c s : Nat, s + c * p = e → c < n → post (ga_xv (ga_sc a p c s)) → wX_findRunBetween_8 post (nI e) (nI p) f a o n (nI s) := by
  intro n
  induction n with
  | zero => intro c s _ hn; exact absurd hn (Nat.not_lt_zero c)
  | succ n ih =>
    intro c s hc hn h
    cases c with
    | zero =>
      rw [Nat.zero_mul] at hc
      exact br_t (nI_le (by omega) (by omega)) h
    | succ c =>
      have e1 : (c + 1) * p = c * p + p := Nat.succ_mul c p
      refine br_f (nI_ge (by omega) (by omega)) ?_
      refine ga_af (by omega) (fun z => br_f ga_10 ?_) (fun z => br_t rfl (nm_r (nI_add s p) ?_))
      · rw [ga_sc_t z] at h; exact h
      · rw [ga_sc_f z] at h; exact ih c (s + p) (by omega) (by omega) h
theorem ga_fr {post : Int32 → Prop} {f : Int32} {a o : Nat → Int32} {k s e c : Nat} (hk : k < 6) (he : e ≤ 128) (hc : s + c * 2 ^ k = e) (h : post (ga_xv (ga_sc a (2 ^ k) c s))) : wpX_findRunBetween post (f, a, o) (nI k) (nI s) (nI e) :=
  nm_r (ga_pw k hk) ⟨c + 1, ga_frL post f a o (2 ^ k) e (ga_pp k hk).1 he (c + 1) c s hc (Nat.lt_succ_self c) h⟩
theorem ga_fg {post : Int32 → Prop} {f : Int32} {a o : Nat → Int32} {k g : Nat} (hk : k < 6) (hg : g < 4) (h : post (ga_xv (ga_sc a (2 ^ k) (2 ^ (5 - k)) (32 * g)))) : wpX_findRunInGroup post (f, a, o) (nI k) (nI g) := by
  unfold wpX_findRunInGroup
  dsimp only
  rw [nI_1 g, ga_m32 g, ga_m32 (g + 1)]
  exact ga_fr (c := 2 ^ (5 - k)) hk (by omega) (by rw [(ga_pp k hk).2.2]; omega) h
theorem ga_fnL (post : Int32 → Prop) (a o : Nat → Int32) (k G h : Nat) (hk : k < 6) (hG : 0 < G) (hG4 : G ≤ 4) (hh : h < 4) : ∀ n d i r, i + d = G → d < n → ga_Q a k G r → post (ga_xv (ga_lp a k G h d i r)) → wX_findRunNear_63 post (nI k) (nI h) (nI G) a o n (ga_xv r) (nI i) := by
  intro n
  induction n with
  | zero => intro d i r _ hn; exact absurd hn (Nat.not_lt_zero d)
  | succ n ih =>
    intro d i r hd hn q hp
    cases d with
    | zero => exact br_t (nI_le (by omega) (by omega)) hp
    | succ d =>
      refine br_f (nI_ge (by omega) (by omega)) ?_
      cases r with
      | some r =>
        have q1 := (q r rfl).1
        have p1 := (ga_pp k hk).1
        refine br_f (ga_n2 (r := r) (by omega)) ?_
        rw [ga_lp_s] at hp
        exact hp
      | none =>
        refine br_t rfl ⟨nI_ne0 (by omega) (by omega), ?_⟩
        rw [nI_add h i, pk_rem (a := h + i) (d := G) (by omega) (by omega) (by omega)]
        have hm : (h + i) % G < G := Nat.mod_lt _ hG
        refine ga_fg hk (by omega) (nm_r (nI_1 i) ?_)
        exact ih d (i + 1) _ (by omega) (by omega) (ga_Q_g hk hm) hp
theorem ga_qx {k g : Nat} (hk : k < 6) (hg : g < 128) : (nI g + nI (2 ^ k) - 1) / nI (2 ^ k) * nI (2 ^ k) = nI (ga_q k g * 2 ^ k) := by
  obtain ⟨h1, h2, _⟩ := ga_pp k hk
  have e : nI (g + 2 ^ k) - 1 = nI (g + 2 ^ k - 1) := pk_sub (b := 1) (by omega)
  rw [nI_add, e, pk_div (by omega) h1 (by omega), pk_mul]
  rfl
theorem ga_fn {post : Int32 → Prop} {a o : Nat → Int32} {k g G : Nat} (hk : k < 6) (hG : 0 < G) (hG4 : G ≤ 4) (hg : g < 32 * G) (h : post (ga_xv (ga_R a k G g))) : wpX_findRunNear post (nI G, a, o) (nI k) (nI g) := by
  obtain ⟨p1, p2, _⟩ := ga_pp k hk
  obtain ⟨n1, n2, n3, n4, _⟩ := ga_near k hk g
  have hh : g / 32 < G := by omega
  have ed : nI g / 32 = nI (g / 32) := pk_div (d := 32) (by omega) (by omega) (by omega)
  refine nm_r (ga_pw k hk) ⟨by decide, nm_r ed (nm_r (ga_m32 (g / 32)) ⟨nI_ne0 p1 (by omega), nm_r (ga_qx hk (by omega)) ?_⟩)⟩
  rw [ga_a32 (32 * (g / 32))]
  refine ga_fr (c := ga_c1 k g) hk (by omega) n3 ?_
  obtain ⟨F, rfl⟩ : ∃ F, G = F + 1 := ⟨G - 1, by omega⟩
  have hR : ga_R a k (F + 1) g = ga_lp a k (F + 1) (g / 32) (F + 1) 0 (ga_sc a (2 ^ k) (ga_c1 k g) (ga_q k g * 2 ^ k)) := rfl
  cases E : ga_sc a (2 ^ k) (ga_c1 k g) (ga_q k g * 2 ^ k) with
  | none =>
    refine br_t rfl ?_
    refine ga_fr (c := ga_c2 k g) hk (by omega) n2 ⟨F + 1, ?_⟩
    refine ga_fnL post a o k (F + 1) (g / 32) hk (by omega) hG4 (by omega) (F + 1) F 1 _ (by omega) (by omega) (ga_Q_sc (by omega)) ?_
    rw [hR, E] at h
    have e2 : ga_lp a k (F + 1) (g / 32) (F + 1) 0 none = ga_lp a k (F + 1) (g / 32) F 1 (ga_sc a (2 ^ k) (2 ^ (5 - k)) (32 * ((g / 32 + 0) % (F + 1)))) := rfl
    rw [e2, show (g / 32 + 0) % (F + 1) = g / 32 from Nat.mod_eq_of_lt hh, ← ga_grp a hk, ga_home a hk g E] at h
    exact h
  | some r =>
    have q : ga_Q a k (F + 1) (some r) := by rw [← E]; exact ga_Q_sc (by omega)
    have q1 := (q r rfl).1
    refine br_f (ga_n2 (r := r) (by omega)) ⟨F + 1, ?_⟩
    refine ga_fnL post a o k (F + 1) (g / 32) hk (by omega) hG4 (by omega) (F + 1) F 1 (some r) (by omega) (by omega) q ?_
    rw [hR, E, ga_lp_s] at h
    rw [ga_lp_s]
    exact h
theorem ga_soL (post : SX → Prop) (f : Int32) (o : Nat → Int32) (v : Int32) (s p : Nat) (h : s + p ≤ 128) : ∀ n i d : Nat, ∀ a : Nat → Int32, i + d = s + p → d < n → post (f, ga_fi a i d v, o) → wX_setOwner_3 post (nI s) (nI p) v f n (nI i) a o := by
  intro n
  induction n with
  | zero => intro i d a _ hn; exact absurd hn (Nat.not_lt_zero d)
  | succ n ih =>
    intro i d a hd hn hp
    refine pk_le (s + p) i (fun q => ?_) (fun q => ⟨pk_in i 128 (by omega), ?_⟩) (nI_add s p)
    · have e : d = 0 := by omega
      subst e
      rw [ga_fi_0] at hp
      exact hp
    · obtain ⟨e, rfl⟩ : ∃ e, d = e + 1 := ⟨d - 1, by omega⟩
      rw [show (nI i).toNatClampNeg = i from nI_clamp (by omega)]
      refine nm_e (nm_r (nI_1 i) (ih (i + 1) e _ (by omega) (by omega) ?_))
      rw [ga_fi_u]
      exact hp
theorem ga_so {post : SX → Prop} {f : Int32} {a o : Nat → Int32} {v : Int32} {s p : Nat} (h : s + p ≤ 128) (hp : post (f, ga_fi a s p v, o)) : wpX_setOwner post (f, a, o) (nI s) (nI p) v :=
  ⟨p + 1, ga_soL post f o v s p h (p + 1) s p a rfl (Nat.lt_succ_self p) hp⟩
theorem ga_me {post : SX → Prop} {f : Int32} {a o : Nat → Int32} {k s : Nat} (hk : k < 6) (h : s + 2 ^ k ≤ 128) (hp : post (f, ga_fi a s (2 ^ k) (nI (s + 1)), upd o s (nI k))) : wpX_makeExtent post (f, a, o) (nI k) (nI s) := by
  have p1 := (ga_pp k hk).1
  unfold wpX_makeExtent
  dsimp only
  rw [ga_pw k hk, nI_1 s]
  refine ga_so h ⟨pk_in s 128 (by omega), ?_⟩
  rw [show (nI s).toNatClampNeg = s from nI_clamp (by omega)]
  exact nm_e hp
theorem ga_cfL (post : Int32 → Prop) (f : Int32) (a o : Nat → Int32) (p e : Nat) (hp : 0 < p) (he : e ≤ 128) : ∀ n d s c : Nat, s + d * p = e → d < n → post (nI (c + ga_cn a p d s)) → wX_countFreeRuns_21 post (nI p) (nI e) f a o n (nI c) (nI s) := by
  intro n
  induction n with
  | zero => intro d s c _ hn; exact absurd hn (Nat.not_lt_zero d)
  | succ n ih =>
    intro d s c hc hn h
    cases d with
    | zero =>
      rw [Nat.zero_mul] at hc
      exact br_t (nI_le (by omega) (by omega)) h
    | succ d =>
      have e1 : (d + 1) * p = d * p + p := Nat.succ_mul d p
      refine br_f (nI_ge (by omega) (by omega)) ?_
      refine ga_af (by omega) (fun z => br_f ga_10 (nm_r (nI_1 c) (nm_r (nI_add s p) ?_))) (fun z => br_t rfl (nm_r (nI_add s p) ?_))
      · rw [ga_cn_t z, ← Nat.add_assoc] at h; exact ih d (s + p) (c + 1) (by omega) (by omega) h
      · rw [ga_cn_f z] at h; exact ih d (s + p) c (by omega) (by omega) h
theorem ga_cf {post : Int32 → Prop} {f : Int32} {a o : Nat → Int32} {k g : Nat} (hk : k < 6) (hg : g < 4) (h : post (nI (ga_cn a (2 ^ k) (2 ^ (5 - k)) (32 * g)))) : wpX_countFreeRuns post (f, a, o) (nI k) (nI g) := by
  have e1 : (nI g + 1) * 32 = nI (32 * (g + 1)) := by rw [nI_1 g, ga_m32 (g + 1)]
  refine nm_r (ga_pw k hk) (nm_r e1 (nm_r (ga_m32 g) ⟨2 ^ (5 - k) + 1, ?_⟩))
  refine ga_cfL post f a o (2 ^ k) (32 * (g + 1)) (ga_pp k hk).1 (by omega) _ (2 ^ (5 - k)) (32 * g) 0 ?_ (Nat.lt_succ_self _) ?_
  · rw [(ga_pp k hk).2.2]; omega
  · rw [Nat.zero_add]; exact h
theorem ga_frsL (post : Int32 → Prop) (a o : Nat → Int32) (k G : Nat) (hk : k < 6) (hG4 : G ≤ 4) : ∀ n d i : Nat, i + d = G → d < n → post (nI (ga_fs a k G)) → wX_freeRuns_14 post (nI k) (nI G) a o n (nI (ga_fs a k i)) (nI i) := by
  intro n
  induction n with
  | zero => intro d i _ hn; exact absurd hn (Nat.not_lt_zero d)
  | succ n ih =>
    intro d i hd hn h
    cases d with
    | zero =>
      have e : i = G := hd
      subst e
      exact br_t (nI_le (by omega) (by omega)) h
    | succ d =>
      refine br_f (nI_ge (by omega) (by omega)) ?_
      refine ga_cf hk (by omega) (nm_r (nI_add _ _) (nm_r (nI_1 i) ?_))
      exact ih d (i + 1) (by omega) (by omega) h
theorem ga_lfL (post : Int32 → Prop) (f : Int32) (a o : Nat → Int32) (g : Nat) (hg : g < 4) : ∀ m n : Nat, ∀ x : Int32, m ≤ 6 → m < n → x = nI m + (-1) → post (ga_lf a g m) → wX_largestFree_12 post (nI g) f a o n x := by
  intro m
  induction m with
  | zero =>
    intro n x _ hn hx h
    obtain ⟨n, rfl⟩ : ∃ d, n = d + 1 := ⟨n - 1, by omega⟩
    exact br_t (by rw [hx]; decide) h
  | succ m ih =>
    intro n x hm hn hx h
    obtain ⟨n, rfl⟩ : ∃ d, n = d + 1 := ⟨n - 1, by omega⟩
    rw [pk_m1] at hx
    subst hx
    refine br_f (nI_pos (by omega)) (ga_fg (by omega) hg ?_)
    cases E : ga_sc a (2 ^ m) (2 ^ (5 - m)) (32 * g) with
    | none => exact br_t rfl fun y ey => ih n y (by omega) (by omega) ey (by rw [ga_lf_n E] at h; exact h)
    | some r =>
      have p1 := (ga_pp m (by omega)).1
      have q1 := (ga_Q_g (a := a) (k := m) (G := 4) (by omega) hg r E).1
      exact br_f (ga_n2 (r := r) (by omega)) (by rw [ga_lf_s E] at h; exact h)
theorem ga_io0 {post : Int32 → Prop} {u : SX} {x : Int32} (hx : ¬ ∃ j, j < 6 ∧ x = nI j) (h : post 0) : wpX_isOrder post u x := ga_ro0 hx h
theorem ga_io1 {post : Int32 → Prop} {u : SX} {j : Nat} (hj : j < 6) (h : post 1) : wpX_isOrder post u (nI j) := ga_ro1 hj h
theorem ga_ib0 {post : Int32 → Prop} {a o : Nat → Int32} {G : Nat} {x : Int32} (hG : G ≤ 4) (hx : ¬ ∃ j, j < 32 * G ∧ x = nI j) (h : post 0) : wpX_isBlock post (nI G, a, o) x := by
  unfold wpX_isBlock
  dsimp only
  rw [ga_m32]
  exact ga_rg0 (by omega) hx h
theorem ga_ib1 {post : Int32 → Prop} {a o : Nat → Int32} {G j : Nat} (hG : G ≤ 4) (hj : j < 32 * G) (h : post 1) : wpX_isBlock post (nI G, a, o) (nI j) := by
  unfold wpX_isBlock
  dsimp only
  rw [ga_m32]
  exact ga_rg1 (by omega) hj h
theorem ga_ig0 {post : Int32 → Prop} {a o : Nat → Int32} {G : Nat} {x : Int32} (hG : G ≤ 4) (hx : ¬ ∃ j, j < G ∧ x = nI j) (h : post 0) : wpX_isGroup post (nI G, a, o) x := ga_rg0 (by omega) hx h
theorem ga_ig1 {post : Int32 → Prop} {a o : Nat → Int32} {G j : Nat} (hG : G ≤ 4) (hj : j < G) (h : post 1) : wpX_isGroup post (nI G, a, o) (nI j) := ga_rg1 (by omega) hj h
theorem ga_ie1 {post : Int32 → Prop} {a o : Nat → Int32} {G s : Nat} (hG : G ≤ 4) (hs : s < 32 * G) (ha : a s = nI (s + 1)) (h : post 1) : wpX_isExtent post (nI G, a, o) (nI s) := by
  unfold wpX_isExtent
  dsimp only
  refine ga_ib1 hG hs (br_f ga_10 ⟨pk_in s 128 (by omega), ?_⟩)
  rw [show (nI s).toNatClampNeg = s from nI_clamp (by omega), nI_1 s]
  exact br_t ha h
theorem ga_ie0 {post : Int32 → Prop} {a o : Nat → Int32} {G : Nat} {x : Int32} (hG : G ≤ 4) (hx : ¬ ∃ s, s < 32 * G ∧ x = nI s ∧ a s = nI (s + 1)) (h : post 0) : wpX_isExtent post (nI G, a, o) x := by
  unfold wpX_isExtent
  dsimp only
  by_cases z : ∃ j, j < 32 * G ∧ x = nI j
  · obtain ⟨s, hs, rfl⟩ := z
    refine ga_ib1 hG hs (br_f ga_10 ⟨pk_in s 128 (by omega), ?_⟩)
    rw [show (nI s).toNatClampNeg = s from nI_clamp (by omega), nI_1 s]
    exact br_f (fun w => hx ⟨s, hs, rfl, w⟩) h
  · exact ga_ib0 hG z (br_t rfl h)
theorem ga_exL (post : Int32 → Prop) (a o : Nat → Int32) (G : Nat) (hG4 : G ≤ 4) : ∀ n d s c : Nat, s + d = 128 → d < n → post (nI (c + ga_ex a (32 * G) d s)) → wX_extents_4 post (nI G) a o n (nI c) (nI s) := by
  intro n
  induction n with
  | zero => intro d s c _ hn; exact absurd hn (Nat.not_lt_zero d)
  | succ n ih =>
    intro d s c hd hn h
    cases d with
    | zero => exact br_t (nI_le (a := 128) (by omega) (by omega)) h
    | succ d =>
      refine br_f (nI_ge (b := 128) (by omega) (by omega)) ?_
      by_cases z : s < 32 * G ∧ a s = nI (s + 1)
      · refine ga_ie1 hG4 z.1 z.2 (br_f ga_10 (nm_r (nI_1 c) (nm_r (nI_1 s) ?_)))
        rw [ga_ex_t z.1 z.2, ← Nat.add_assoc] at h
        exact ih d (s + 1) (c + 1) (by omega) (by omega) h
      · refine ga_ie0 hG4 ?_ (br_t rfl (nm_r (nI_1 s) ?_))
        · intro ⟨t, ht, e, w⟩
          have := (nI_eq (by omega) (by omega)).mp e
          subst this
          exact z ⟨ht, w⟩
        · rw [ga_ex_f z] at h
          exact ih d (s + 1) c (by omega) (by omega) h
