/-! Y: one lemma a helper or loop, with a general post; the marks are X's, by ga_Mk -/
theorem ga_yfL (post : Int32 → Prop) (f : Int32) (a b o : Nat → Int32) (M : ga_Mk a b) (s p : Nat) (h : s + p ≤ 128) : ∀ n i d : Nat, i + d = s + p → d < n → (ga_fb a i d = true → post 1) → (ga_fb a i d = false → post 0) → wY_free_2 post (nI s) (nI p) f b o n (nI i) := by
  intro n
  induction n with
  | zero => intro i d _ hn; exact absurd hn (Nat.not_lt_zero d)
  | succ n ih =>
    intro i d hd hn h1 h0
    refine pk_le (s + p) i (fun q => ?_) (fun q => ⟨pk_in i 128 (by omega), ?_⟩) (nI_add s p)
    · have e : d = 0 := by omega
      subst e
      exact h1 (ga_fb_0 a i)
    · obtain ⟨e, rfl⟩ : ∃ e, d = e + 1 := ⟨d - 1, by omega⟩
      rw [show (nI i).toNatClampNeg = i from nI_clamp (by omega), ga_mk0 M (i := i) (by omega)]
      refine br_c (fun z => nm_r (nI_1 i) ?_) (fun z => h0 (ga_fb_n z))
      exact ih (i + 1) e (by omega) (by omega) (fun q => h1 (by rw [ga_fb_s z]; exact q)) (fun q => h0 (by rw [ga_fb_s z]; exact q))
theorem ga_yf {post : Int32 → Prop} {f : Int32} {a b o : Nat → Int32} (M : ga_Mk a b) {s p : Nat} (h : s + p ≤ 128) (h1 : ga_fb a s p = true → post 1) (h0 : ga_fb a s p = false → post 0) : wpY_free post (f, b, o) (nI s) (nI p) :=
  ⟨p + 1, ga_yfL post f a b o M s p h (p + 1) s p rfl (Nat.lt_succ_self p) h1 h0⟩
theorem ga_yr {post : Int32 → Prop} {f : Int32} {b o : Nat → Int32} {k s : Nat} (hk : k < 6) (hs : s < 2 ^ 31) (h1 : s % 2 ^ k = 0 → post 1) (h0 : ¬ s % 2 ^ k = 0 → post 0) : wpY_isRun post (f, b, o) (nI k) (nI s) := by
  obtain ⟨p1, p2, _⟩ := ga_pp k hk
  unfold wpY_isRun
  dsimp only
  rw [ga_pw k hk, pk_rem (a := s) hs p1 (by omega)]
  exact ⟨nI_ne0 p1 (by omega), pk_eq (s % 2 ^ k) 0 h1 h0 rfl rfl (Nat.lt_of_le_of_lt (Nat.mod_le _ _) hs)⟩
theorem ga_ysL (post : Int32 → Prop) (f : Int32) (a b o : Nat → Int32) (M : ga_Mk a b) (k e : Nat) (hk : k < 6) (he : e ≤ 128) : ∀ n d s : Nat, s + d = e → d < n → post (ga_yv (ga_sy a (2 ^ k) d s)) → wY_search_3 post (nI k) (nI e) f b o n (nI s) := by
  intro n
  induction n with
  | zero => intro d s _ hn; exact absurd hn (Nat.not_lt_zero d)
  | succ n ih =>
    intro d s hd hn h
    cases d with
    | zero => exact br_t (nI_le (by omega) (by omega)) h
    | succ d =>
      refine br_f (nI_ge (by omega) (by omega)) ?_
      refine ga_yr hk (by omega) (fun z => br_f ga_10 ?_) (fun z => br_t rfl (nm_r (nI_1 s) (ih d (s + 1) (by omega) (by omega) ?_)))
      · rw [ga_pw k hk]
        refine ga_yf M (ga_al k hk 4 s (by omega) z) (fun w => br_f ga_10 ?_) (fun w => br_t rfl (nm_r (nI_1 s) (ih d (s + 1) (by omega) (by omega) ?_)))
        · rw [ga_sy_t z w] at h; exact h
        · rw [ga_sy_f w] at h; exact h
      · rw [ga_sy_n z] at h; exact h
theorem ga_ys {post : Int32 → Prop} {f : Int32} {a b o : Nat → Int32} (M : ga_Mk a b) {k s e d : Nat} (hk : k < 6) (he : e ≤ 128) (hd : s + d = e) (h : post (ga_yv (ga_sy a (2 ^ k) d s))) : wpY_search post (f, b, o) (nI k) (nI s) (nI e) :=
  ⟨d + 1, ga_ysL post f a b o M k e hk he (d + 1) d s hd (Nat.lt_succ_self d) h⟩
theorem ga_yg {post : Int32 → Prop} {f : Int32} {a b o : Nat → Int32} (M : ga_Mk a b) {k g : Nat} (hk : k < 6) (hg : g < 4) (h : post (ga_yv (ga_sc a (2 ^ k) (2 ^ (5 - k)) (32 * g)))) : wpY_search post (f, b, o) (nI k) (32 * nI g) (32 * nI g + 32) := by
  rw [ga_32m g, ga_a32 (32 * g)]
  refine ga_ys M (d := 32) hk (by omega) rfl ?_
  rw [ga_grp a hk]
  exact h
theorem ga_yaL (post : Int32 → SY → Prop) (a b o : Nat → Int32) (M : ga_Mk a b) (k G h : Nat) (hk : k < 6) (hG : 0 < G) (hG4 : G ≤ 4) (hh : h < 4) : ∀ n d i r, i + d = G → d < n → ga_Q a k G r → wY_allocate_92 post (nI k) (ga_yv (ga_lp a k G h d i r)) (nI G) b o → wY_allocate_41 post (nI k) (nI h) (nI G) b o n (ga_yv r) (nI i) := by
  intro n
  induction n with
  | zero => intro d i r _ hn; exact absurd hn (Nat.not_lt_zero d)
  | succ n ih =>
    intro d i r hd hn q hp
    cases d with
    | zero => exact br_t (nI_le (by omega) (by omega)) hp
    | succ d =>
      refine br_f (nI_ge (by omega) (by omega)) ?_
      cases r with
      | some r =>
        have q1 := (q r rfl).1
        have p1 := (ga_pp k hk).1
        refine br_t (nI_pos' (n := r) (by omega)) ?_
        rw [ga_lp_s] at hp
        exact hp
      | none =>
        refine br_f (by decide) ⟨nI_ne0 (by omega) (by omega), ?_⟩
        have hm : (h + i) % G < G := Nat.mod_lt _ hG
        have em : (nI h + nI i) - (nI h + nI i) / nI G * nI G = nI ((h + i) % G) := by
          rw [nI_add h i, pk_rem (a := h + i) (d := G) (by omega) (by omega) (by omega)]
        refine nm_r em ?_
        refine ga_yg M hk (by omega) (nm_r (nI_1 i) ?_)
        exact ih d (i + 1) _ (by omega) (by omega) (ga_Q_g hk hm) hp
theorem ga_yiL (post : SY → Prop) (f : Int32) (o : Nat → Int32) (v : Int32) (s p : Nat) (h : s + p ≤ 128) : ∀ n i d : Nat, ∀ a : Nat → Int32, i + d = s + p → d < n → post (f, ga_fi a i d v, o) → wY_fill_3 post (nI s) (nI p) v f n (nI i) a o := by
  intro n
  induction n with
  | zero => intro i d a _ hn; exact absurd hn (Nat.not_lt_zero d)
  | succ n ih =>
    intro i d a hd hn hp
    refine pk_le (s + p) i (fun q => ?_) (fun q => ⟨pk_in i 128 (by omega), ?_⟩) (nI_add s p)
    · have e : d = 0 := by omega
      subst e
      rw [ga_fi_0] at hp
      exact hp
    · obtain ⟨e, rfl⟩ : ∃ e, d = e + 1 := ⟨d - 1, by omega⟩
      rw [show (nI i).toNatClampNeg = i from nI_clamp (by omega)]
      refine nm_e (nm_r (nI_1 i) (ih (i + 1) e _ (by omega) (by omega) ?_))
      rw [ga_fi_u]
      exact hp
theorem ga_yi {post : SY → Prop} {f : Int32} {a o : Nat → Int32} {v : Int32} {s p : Nat} (h : s + p ≤ 128) (hp : post (f, ga_fi a s p v, o)) : wpY_fill post (f, a, o) (nI s) (nI p) v :=
  ⟨p + 1, ga_yiL post f o v s p h (p + 1) s p a rfl (Nat.lt_succ_self p) hp⟩
theorem ga_ym {post : Int32 → SY → Prop} {f : Int32} {a o : Nat → Int32} {k s : Nat} (hk : k < 6) (h : s + 2 ^ k ≤ 128) (hp : post (nI s) (f, ga_fi a s (2 ^ k) (nI s), upd o s (nI k))) : wpY_make post (f, a, o) (nI k) (nI s) := by
  have p1 := (ga_pp k hk).1
  unfold wpY_make
  dsimp only
  rw [ga_pw k hk]
  refine ga_yi h ⟨pk_in s 128 (by omega), ?_⟩
  rw [show (nI s).toNatClampNeg = s from nI_clamp (by omega)]
  exact nm_e hp
theorem ga_y0L (post : SY → Prop) (f : Int32) (o : Nat → Int32) : ∀ n i d : Nat, ∀ a : Nat → Int32, i + d = 128 → d < n → post (f, ga_fi a i d (-1), o) → wY_init_47 post f n (nI i) a o := by
  intro n
  induction n with
  | zero => intro i d a _ hn; exact absurd hn (Nat.not_lt_zero d)
  | succ n ih =>
    intro i d a hd hn hp
    cases d with
    | zero =>
      rw [ga_fi_0] at hp
      exact br_t (nI_le (a := 128) (by omega) (by omega)) hp
    | succ d =>
      refine br_f (nI_ge (b := 128) (by omega) (by omega)) ⟨pk_in i 128 (by omega), ?_⟩
      rw [show (nI i).toNatClampNeg = i from nI_clamp (by omega)]
      refine nm_e (nm_r (nI_1 i) (ih (i + 1) d _ (by omega) (by omega) ?_))
      rw [ga_fi_u]
      exact hp
theorem ga_ybL (post : Int32 → Prop) (f : Int32) (a b o : Nat → Int32) (M : ga_Mk a b) (g : Nat) (hg : g < 4) : ∀ n d s c : Nat, s + d = 32 * g + 32 → d < n → post (nI (c + ga_cn a 1 d s)) → wY_freeBlocks_17 post (nI g) f b o n (nI c) (nI s) := by
  have ee : 32 * nI g + 32 = nI (32 * g + 32) := by rw [ga_32m g, ga_a32 (32 * g)]
  intro n
  induction n with
  | zero => intro d s c _ hn; exact absurd hn (Nat.not_lt_zero d)
  | succ n ih =>
    intro d s c hd hn h
    cases d with
    | zero => exact br_t (by rw [ee]; exact nI_le (by omega) (by omega)) h
    | succ d =>
      refine br_f (by rw [ee]; exact nI_ge (by omega) (by omega)) ⟨pk_in s 128 (by omega), ?_⟩
      rw [show (nI s).toNatClampNeg = s from nI_clamp (by omega), ga_mk0 M (i := s) (by omega)]
      refine br_c (fun z => nm_r (nI_1 c) (nm_r (nI_1 s) (ih d (s + 1) (c + 1) (by omega) (by omega) ?_))) (fun z => nm_r (nI_1 s) (ih d (s + 1) c (by omega) (by omega) ?_))
      · rw [ga_cn_t ((ga_fb_1 a s).mpr z), ← Nat.add_assoc] at h; exact h
      · rw [ga_cn_f (ga_fb_n z)] at h; exact h
theorem ga_ylL (post : Int32 → Prop) (f : Int32) (a b o : Nat → Int32) (M : ga_Mk a b) (g : Nat) (hg : g < 4) : ∀ m n : Nat, ∀ x : Int32, m ≤ 6 → m < n → x = nI m + (-1) → post (ga_lf a g m) → wY_largestFree_12 post (nI g) f b o n x := by
  intro m
  induction m with
  | zero =>
    intro n x _ hn hx h
    obtain ⟨n, rfl⟩ : ∃ d, n = d + 1 := ⟨n - 1, by omega⟩
    exact br_t (by rw [hx]; decide) h
  | succ m ih =>
    intro n x hm hn hx h
    obtain ⟨n, rfl⟩ : ∃ d, n = d + 1 := ⟨n - 1, by omega⟩
    rw [pk_m1] at hx
    subst hx
    refine br_f (nI_pos (by omega)) (ga_yg M (by omega) hg ?_)
    cases E : ga_sc a (2 ^ m) (2 ^ (5 - m)) (32 * g) with
    | none => exact br_t (by decide) fun y ey => ih n y (by omega) (by omega) ey (by rw [ga_lf_n E] at h; exact h)
    | some r =>
      have p1 := (ga_pp m (by omega)).1
      have q1 := (ga_Q_g (a := a) (k := m) (G := 4) (by omega) hg r E).1
      exact br_f (nI_pos (n := r) (by omega)) (by rw [ga_lf_s E] at h; exact h)
theorem ga_yuL (post : Int32 → Prop) (a b o : Nat → Int32) (M : ga_Mk a b) (k G : Nat) (hk : k < 6) (hG4 : G ≤ 4) : ∀ n d s c : Nat, s + d = 32 * G → d < n → post (nI (c + ga_cy a (2 ^ k) d s)) → wY_freeRuns_14 post (nI k) (nI G) b o n (nI c) (nI s) := by
  intro n
  induction n with
  | zero => intro d s c _ hn; exact absurd hn (Nat.not_lt_zero d)
  | succ n ih =>
    intro d s c hd hn h
    cases d with
    | zero => exact br_t (by rw [ga_32m G]; exact nI_le (by omega) (by omega)) h
    | succ d =>
      refine br_f (by rw [ga_32m G]; exact nI_ge (by omega) (by omega)) ?_
      refine ga_yr hk (by omega) (fun z => br_f ga_10 ?_) (fun z => br_t rfl (nm_r (nI_1 s) (ih d (s + 1) c (by omega) (by omega) ?_)))
      · rw [ga_pw k hk]
        refine ga_yf M (ga_al k hk 4 s (by omega) z) (fun w => br_f ga_10 (nm_r (nI_1 c) (nm_r (nI_1 s) (ih d (s + 1) (c + 1) (by omega) (by omega) ?_)))) (fun w => br_t rfl (nm_r (nI_1 s) (ih d (s + 1) c (by omega) (by omega) ?_)))
        · rw [ga_cy_t z w, ← Nat.add_assoc] at h; exact h
        · rw [ga_cy_f w] at h; exact h
      · rw [ga_cy_n z] at h; exact h
theorem ga_yeL (post : Int32 → Prop) (a b o : Nat → Int32) (M : ga_Mk a b) (G : Nat) (hG4 : G ≤ 4) : ∀ n d s c : Nat, s + d = 32 * G → d < n → post (nI (c + ga_ex a (32 * G) d s)) → wY_extents_4 post (nI G) b o n (nI c) (nI s) := by
  intro n
  induction n with
  | zero => intro d s c _ hn; exact absurd hn (Nat.not_lt_zero d)
  | succ n ih =>
    intro d s c hd hn h
    cases d with
    | zero => exact br_t (by rw [ga_32m G]; exact nI_le (by omega) (by omega)) h
    | succ d =>
      refine br_f (by rw [ga_32m G]; exact nI_ge (by omega) (by omega)) ⟨pk_in s 128 (by omega), ?_⟩
      rw [show (nI s).toNatClampNeg = s from nI_clamp (by omega), ga_mkn M (i := s) (by omega)]
      refine br_c (fun z => nm_r (nI_1 c) (nm_r (nI_1 s) (ih d (s + 1) (c + 1) (by omega) (by omega) ?_))) (fun z => nm_r (nI_1 s) (ih d (s + 1) c (by omega) (by omega) ?_))
      · rw [ga_ex_t (by omega) z, ← Nat.add_assoc] at h; exact h
      · rw [ga_ex_f (fun w => z w.2)] at h; exact h
theorem ga_yo0 {post : Int32 → Prop} {u : SY} {x : Int32} (hx : ¬ ∃ j, j < 6 ∧ x = nI j) (h : post 0) : wpY_isOrder post u x := ga_ro0 hx h
theorem ga_yo1 {post : Int32 → Prop} {u : SY} {j : Nat} (hj : j < 6) (h : post 1) : wpY_isOrder post u (nI j) := ga_ro1 hj h
theorem ga_yb0 {post : Int32 → Prop} {a o : Nat → Int32} {G : Nat} {x : Int32} (hG : G ≤ 4) (hx : ¬ ∃ j, j < 32 * G ∧ x = nI j) (h : post 0) : wpY_isBlock post (nI G, a, o) x := by
  unfold wpY_isBlock
  dsimp only
  rw [ga_32m]
  exact ga_rg0 (by omega) hx h
theorem ga_yb1 {post : Int32 → Prop} {a o : Nat → Int32} {G j : Nat} (hG : G ≤ 4) (hj : j < 32 * G) (h : post 1) : wpY_isBlock post (nI G, a, o) (nI j) := by
  unfold wpY_isBlock
  dsimp only
  rw [ga_32m]
  exact ga_rg1 (by omega) hj h
theorem ga_yq0 {post : Int32 → Prop} {a o : Nat → Int32} {G : Nat} {x : Int32} (hG : G ≤ 4) (hx : ¬ ∃ j, j < G ∧ x = nI j) (h : post 0) : wpY_isGroup post (nI G, a, o) x := ga_rg0 (by omega) hx h
theorem ga_yq1 {post : Int32 → Prop} {a o : Nat → Int32} {G j : Nat} (hG : G ≤ 4) (hj : j < G) (h : post 1) : wpY_isGroup post (nI G, a, o) (nI j) := ga_rg1 (by omega) hj h
theorem ga_yx1 {post : Int32 → Prop} {a b o : Nat → Int32} (M : ga_Mk a b) {G s : Nat} (hG : G ≤ 4) (hs : s < 32 * G) (ha : a s = nI (s + 1)) (h : post 1) : wpY_isExtent post (nI G, b, o) (nI s) := by
  unfold wpY_isExtent
  dsimp only
  refine ga_yb1 hG hs (br_f ga_10 ⟨pk_in s 128 (by omega), ?_⟩)
  rw [show (nI s).toNatClampNeg = s from nI_clamp (by omega)]
  exact br_t ((ga_mkn M (by omega) s).mpr ha) h
theorem ga_yx0 {post : Int32 → Prop} {a b o : Nat → Int32} (M : ga_Mk a b) {G : Nat} {x : Int32} (hG : G ≤ 4) (hx : ¬ ∃ s, s < 32 * G ∧ x = nI s ∧ a s = nI (s + 1)) (h : post 0) : wpY_isExtent post (nI G, b, o) x := by
  unfold wpY_isExtent
  dsimp only
  by_cases z : ∃ j, j < 32 * G ∧ x = nI j
  · obtain ⟨s, hs, rfl⟩ := z
    refine ga_yb1 hG hs (br_f ga_10 ⟨pk_in s 128 (by omega), ?_⟩)
    rw [show (nI s).toNatClampNeg = s from nI_clamp (by omega)]
    exact br_f (fun w => hx ⟨s, hs, rfl, (ga_mkn M (by omega) s).mp w⟩) h
  · exact ga_yb0 hG z (br_t rfl h)
