/-! the relation, and what is owed -/
/-- the same groups, the same orders; X's marks are Y's and one; each extent has its order and its blocks -/
def i_Rel (k : Nat) (u : SX) (v : SY) : Prop := ∃ G : Nat, ∃ a b o : Nat → Int32, 0 < G ∧ G ≤ 4 ∧ u = (nI G, a, o) ∧ v = (nI G, b, o) ∧ ga_Mk a b ∧ ga_Inv (32 * G) a o
theorem i_up {k : Nat} {u : SX} {v : SY} (h : i_Rel k u v) : i_Rel (k + 3) u v := h
theorem ga_rel {k G : Nat} {a b o : Nat → Int32} (h1 : 0 < G) (h2 : G ≤ 4) (M : ga_Mk a b) (J : ga_Inv (32 * G) a o) : i_Rel k (nI G, a, o) (nI G, b, o) := ⟨G, a, b, o, h1, h2, rfl, rfl, M, J⟩
/-- a run that is made an extent -/
theorem ga_mkrel {k G j s : Nat} {a b o : Nat → Int32} (h1 : 0 < G) (h2 : G ≤ 4) (M : ga_Mk a b) (J : ga_Inv (32 * G) a o) (hj : j < 6) (hs : s + 2 ^ j ≤ 32 * G) (hf : ∀ i, i < 2 ^ j → a (s + i) = 0 ∨ a (s + i) = nI (s + 1)) : i_Rel k (nI G, ga_fi a s (2 ^ j) (nI (s + 1)), upd o s (nI j)) (nI G, ga_fi b s (2 ^ j) (nI s), upd o s (nI j)) := by
  have p1 := (ga_pp j hj).1
  refine ga_rel h1 h2 (ga_mk_fi M s _ (nI_1 s).symm) (ga_keep s (by omega) (by omega) J (fun i => ?_) (fun t ht => pk_un ht) (fun _ => ⟨j, hj, pk_us, hs, fun i hi => ga_fi_i ⟨by omega, by omega⟩⟩))
  by_cases z : s ≤ i ∧ i < s + 2 ^ j
  · refine Or.inr ⟨?_, Or.inr (ga_fi_i z)⟩
    have := hf (i - s) (by omega)
    rwa [show s + (i - s) = i by omega] at this
  · exact Or.inl (ga_fi_o z)
theorem ga_z {G : Nat} (h1 : 0 < G) (h2 : G ≤ 4) : ∃ n, wY_init_47 (fun v => i_Rel 1 (nI G, fun _ => 0, fun _ => 0) v) (nI G) n 0 (fun _ => 0) (fun _ => 0) :=
  ⟨129, ga_y0L _ (nI G) _ 129 0 128 _ rfl (by omega) (ga_rel h1 h2 ga_mkz (ga_invz (by omega)))⟩
theorem i_vc0 (k0 : Int32) : wpX_init (fun u => wpY_init (fun v => i_Rel 1 u v) k0) k0 := by
  by_cases h : 1 ≤ k0
  · by_cases h4 : k0 ≤ 4
    · obtain ⟨G, hG, rfl⟩ := nI_of (x := k0) (Int32.not_lt.mpr (Int32.le_trans (by decide) h))
      have e1 := (nI_leI (a := 1) (by omega) hG).mp h
      have e4 := (nI_leI (b := 4) hG (by omega)).mp h4
      exact br_t h (br_t h4 (br_t h (br_t h4 (ga_z (by omega) e4))))
    · exact br_t h (br_f h4 (br_t h (br_f h4 (ga_z (G := 4) (by omega) (by omega)))))
  · exact br_f h (br_f h (ga_z (G := 1) (by omega) (by omega)))
theorem ga_yal {post : Int32 → SY → Prop} {a b o : Nat → Int32} (M : ga_Mk a b) {k g G : Nat} (hk : k < 6) (hG : 0 < G) (hG4 : G ≤ 4) (hg : g < 32 * G) (h : wY_allocate_92 post (nI k) (ga_yv (ga_R a k G g)) (nI G) b o) : wpY_allocate post (nI G, b, o) (nI k) (nI g) := by
  obtain ⟨n1, n2, n3, n4, _⟩ := ga_near k hk g
  have ed : nI g / 32 = nI (g / 32) := pk_div (d := 32) (by omega) (by omega) (by omega)
  unfold wpY_allocate
  dsimp only
  refine ga_yo1 hk (br_f ga_10 (ga_yb1 hG4 hg (br_f ga_10 ⟨by decide, nm_r ed ?_⟩)))
  rw [ga_32m (g / 32), ga_a32 (32 * (g / 32))]
  refine ga_ys M (d := 32 * (g / 32) + 32 - g) hk (by omega) (by omega) ⟨G + 1, ?_⟩
  rw [ga_goal a hk g]
  exact ga_yaL post a b o M k G (g / 32) hk hG hG4 (by omega) (G + 1) G 0 _ (by omega) (by omega) (ga_Q_sc (by omega)) h
theorem i_vc_allocate {k : Nat} {u : SX} {v : SY} (I : i_Rel k u v) (hk : k + 3 ≤ 1537) (v1 : Int32) (v2 : Int32) : wpX_allocate (fun r u' => wpY_allocate (fun r' v' => r' = r ∧ i_Rel (k + 3) u' v') v v1 v2) u v1 v2 := by
  obtain ⟨G, a, b, o, h1, h2, rfl, rfl, M, J⟩ := I
  unfold wpX_allocate
  dsimp only
  by_cases x1 : ∃ j, j < 6 ∧ v1 = nI j
  · obtain ⟨q, hq, rfl⟩ := x1
    refine ga_io1 hq (br_f ga_10 ?_)
    by_cases x2 : ∃ j, j < 32 * G ∧ v2 = nI j
    · obtain ⟨g, hg, rfl⟩ := x2
      refine ga_ib1 h2 hg (br_f ga_10 ?_)
      refine ga_fn hq h1 h2 hg ?_
      obtain ⟨n1, n2, n3, n4, _⟩ := ga_near q hq g
      have p1 := (ga_pp q hq).1
      have Q : ga_Q a q G (ga_R a q G g) := ga_lp_Q hq h1 G 0 _ (ga_Q_sc (by omega))
      have Y := fun post h => ga_yal (post := post) (o := o) M hq h1 h2 hg h
      cases E : ga_R a q G g with
      | none =>
        rw [E] at Y
        exact br_t rfl (Y _ (br_f (by decide) ⟨rfl, ga_rel h1 h2 M J⟩))
      | some r =>
        obtain ⟨q1, q2⟩ := Q r E
        rw [E] at Y
        refine br_f (ga_n2 (r := r) (by omega)) (ga_me hq (by omega) ?_)
        refine Y _ (br_t (nI_pos' (n := r) (by omega)) (ga_ym hq (by omega) ⟨rfl, ga_mkrel h1 h2 M J hq q1 (fun i hi => Or.inl (ga_fb_t.mp q2 i hi))⟩))
    · refine ga_ib0 h2 x2 (br_t rfl ?_)
      unfold wpY_allocate
      dsimp only
      exact ga_yo1 hq (br_f ga_10 (ga_yb0 h2 x2 (br_t rfl ⟨rfl, ga_rel h1 h2 M J⟩)))
  · refine ga_io0 x1 (br_t rfl ?_)
    unfold wpY_allocate
    dsimp only
    exact ga_yo0 x1 (br_t rfl ⟨rfl, ga_rel h1 h2 M J⟩)
theorem i_vc_claim {k : Nat} {u : SX} {v : SY} (I : i_Rel k u v) (hk : k + 3 ≤ 1537) (v1 : Int32) (v2 : Int32) : wpX_claim (fun r u' => wpY_claim (fun r' v' => r' = r ∧ i_Rel (k + 3) u' v') v v1 v2) u v1 v2 := by
  obtain ⟨G, a, b, o, h1, h2, rfl, rfl, M, J⟩ := I
  unfold wpX_claim wpY_claim
  dsimp only
  by_cases x1 : ∃ j, j < 6 ∧ v1 = nI j
  · obtain ⟨q, hq, rfl⟩ := x1
    obtain ⟨p1, p2, _⟩ := ga_pp q hq
    refine ga_io1 hq (br_f ga_10 ?_)
    by_cases x2 : ∃ j, j < 32 * G ∧ v2 = nI j
    · obtain ⟨s, hs, rfl⟩ := x2
      refine ga_ib1 h2 hs (br_f ga_10 ?_)
      rw [ga_pw q hq, pk_rem (a := s) (by omega) p1 (by omega)]
      refine ⟨nI_ne0 p1 (by omega), pk_eq (s % 2 ^ q) 0 (fun z => ?_) (fun z => ?_) rfl rfl (Nat.lt_of_le_of_lt (Nat.mod_le _ _) (by omega))⟩
      · have hb := ga_al q hq G s hs z
        refine ga_af (by omega) (fun w => br_f ga_10 (ga_me hq (by omega) ?_)) (fun w => br_t rfl ?_)
        · dsimp only
          refine ga_yo1 hq (br_f ga_10 (ga_yb1 h2 hs (br_f ga_10 (ga_yr hq (by omega) (fun _ => br_f ga_10 (ga_yf M (by omega) (fun _ => br_f ga_10 (ga_ym hq (by omega) ⟨rfl, ?_⟩)) (fun w' => nomatch w.symm.trans w'))) (fun z' => absurd z z')))))
          exact ga_mkrel h1 h2 M J hq hb (fun i hi => Or.inl (ga_fb_t.mp w i hi))
        · exact ga_yo1 hq (br_f ga_10 (ga_yb1 h2 hs (br_f ga_10 (ga_yr hq (by omega) (fun _ => br_f ga_10 (ga_yf M (by omega) (fun w' => nomatch w.symm.trans w') (fun _ => br_t rfl ⟨rfl, ga_rel h1 h2 M J⟩))) (fun z' => absurd z z')))))
      · exact ga_yo1 hq (br_f ga_10 (ga_yb1 h2 hs (br_f ga_10 (ga_yr hq (by omega) (fun z' => absurd z' z) (fun _ => br_t rfl ⟨rfl, ga_rel h1 h2 M J⟩)))))
    · exact ga_ib0 h2 x2 (br_t rfl (ga_yo1 hq (br_f ga_10 (ga_yb0 h2 x2 (br_t rfl ⟨rfl, ga_rel h1 h2 M J⟩)))))
  · exact ga_io0 x1 (br_t rfl (ga_yo0 x1 (br_t rfl ⟨rfl, ga_rel h1 h2 M J⟩)))
theorem i_vc_release {k : Nat} {u : SX} {v : SY} (I : i_Rel k u v) (hk : k + 3 ≤ 1537) (v1 : Int32) : wpX_release (fun r u' => wpY_release (fun r' v' => r' = r ∧ i_Rel (k + 3) u' v') v v1) u v1 := by
  obtain ⟨G, a, b, o, h1, h2, rfl, rfl, M, J⟩ := I
  unfold wpX_release wpY_release
  dsimp only
  by_cases x : ∃ s, s < 32 * G ∧ v1 = nI s ∧ a s = nI (s + 1)
  · obtain ⟨s, hs, rfl, ha⟩ := x
    obtain ⟨q, hq, ho, hb, hj⟩ := J s hs ha
    have p1 := (ga_pp q hq).1
    rw [show (nI s).toNatClampNeg = s from nI_clamp (by omega), ho]
    refine ga_ie1 h2 hs ha (br_f ga_10 ⟨pk_in s 128 (by omega), nm_e ?_⟩)
    rw [ga_pw q hq]
    refine ga_so (by omega) ?_
    dsimp only
    refine ga_yx1 M h2 hs ha (br_f ga_10 ⟨pk_in s 128 (by omega), ga_yi (by omega) ⟨pk_in s 128 (by omega), ho, ?_⟩⟩)
    refine ga_rel h1 h2 (ga_mk_fi M s _ rfl) (ga_keep s (by omega) (by omega) J (fun i => ?_) (fun t ht => rfl) (fun e => absurd ((ga_fi_i ⟨by omega, by omega⟩).symm.trans e) (ga_n0 (by omega))))
    by_cases z : s ≤ i ∧ i < s + 2 ^ q
    · have := hj (i - s) (by omega)
      rw [show s + (i - s) = i by omega] at this
      exact Or.inr ⟨Or.inr this, Or.inl (ga_fi_i z)⟩
    · exact Or.inl (ga_fi_o z)
  · exact ga_ie0 h2 x (br_t rfl (ga_yx0 M h2 x (br_t rfl ⟨rfl, ga_rel h1 h2 M J⟩)))
theorem i_vc_grow {k : Nat} {u : SX} {v : SY} (I : i_Rel k u v) (hk : k + 3 ≤ 1537) (v1 : Int32) : wpX_grow (fun r u' => wpY_grow (fun r' v' => r' = r ∧ i_Rel (k + 3) u' v') v v1) u v1 := by
  obtain ⟨G, a, b, o, h1, h2, rfl, rfl, M, J⟩ := I
  unfold wpX_grow wpY_grow
  dsimp only
  by_cases x : ∃ s, s < 32 * G ∧ v1 = nI s ∧ a s = nI (s + 1)
  · obtain ⟨s, hs, rfl, ha⟩ := x
    obtain ⟨q, hq, ho, hb, hj⟩ := J s hs ha
    obtain ⟨p1, p2, _⟩ := ga_pp q hq
    have hi : vp_in (nI s) 128 := pk_in s 128 (by omega)
    rw [show (nI s).toNatClampNeg = s from nI_clamp (by omega), ho]
    refine ga_ie1 h2 hs ha (br_f ga_10 ⟨hi, nm_e (nm_r (ga_pw q hq) ?_)⟩)
    refine pk_eq q 5 (fun z => ?_) (fun z => ?_)
    · refine ga_yx1 M h2 hs ha (br_f ga_10 ⟨hi, nm_e (br_t ?_ ⟨rfl, ga_rel h1 h2 M J⟩)⟩)
      rw [z]; rfl
    · have e3 : 2 ^ (q + 1) = 2 ^ q + 2 ^ q := by rw [Nat.pow_succ]; omega
      have e2 : 2 * nI (2 ^ q) = nI (2 ^ (q + 1)) := (pk_mul 2 (2 ^ q)).trans (congrArg nI (by omega))
      have n5 : ¬ nI q = 5 := fun w => z ((nI_eq (b := 5) (by omega) (by omega)).mp w)
      have hq1 : q + 1 < 6 := by omega
      rw [e2, pk_rem (a := s) (by omega) (ga_pp (q + 1) hq1).1 (by omega)]
      refine ⟨nI_ne0 (ga_pp (q + 1) hq1).1 (by omega), pk_eq (s % 2 ^ (q + 1)) 0 (fun w => ?_) (fun w => ?_) rfl rfl (Nat.lt_of_le_of_lt (Nat.mod_le _ _) (by omega))⟩
      · have hb2 := ga_al (q + 1) hq1 G s hs w
        rw [nI_add s (2 ^ q), nI_1 q]
        refine ga_af (by omega) (fun f => br_f ga_10 (ga_me hq1 (by omega) ?_)) (fun f => br_t rfl ?_)
        · dsimp only
          refine ga_yx1 M h2 hs ha (br_f ga_10 ⟨hi, nm_e (br_f n5 ?_)⟩)
          rw [nI_1 q, ga_pw q hq, nI_add s (2 ^ q)]
          refine ga_yr hq1 (by omega) (fun _ => br_f ga_10 (ga_yf M (by omega) (fun _ => br_f ga_10 (ga_ym hq1 (by omega) ⟨rfl, ?_⟩)) (fun f' => nomatch f.symm.trans f'))) (fun w' => absurd w w')
          refine ga_mkrel h1 h2 M J hq1 hb2 (fun i hi => ?_)
          by_cases l : i < 2 ^ q
          · exact Or.inr (hj i l)
          · have := ga_fb_t.mp f (i - 2 ^ q) (by omega)
            rw [show s + 2 ^ q + (i - 2 ^ q) = s + i by omega] at this
            exact Or.inl this
        · refine ga_yx1 M h2 hs ha (br_f ga_10 ⟨hi, nm_e (br_f n5 ?_)⟩)
          rw [nI_1 q, ga_pw q hq, nI_add s (2 ^ q)]
          exact ga_yr hq1 (by omega) (fun _ => br_f ga_10 (ga_yf M (by omega) (fun f' => nomatch f.symm.trans f') (fun _ => br_t rfl ⟨rfl, ga_rel h1 h2 M J⟩))) (fun w' => absurd w w')
      · refine ga_yx1 M h2 hs ha (br_f ga_10 ⟨hi, nm_e (br_f n5 ?_)⟩)
        rw [nI_1 q]
        exact ga_yr hq1 (by omega) (fun w' => absurd w' w) (fun _ => br_t rfl ⟨rfl, ga_rel h1 h2 M J⟩)
  · exact ga_ie0 h2 x (br_t rfl (ga_yx0 M h2 x (br_t rfl ⟨rfl, ga_rel h1 h2 M J⟩)))
/-- an extent that is halved: X leaves the lower half as it is, Y writes it anew -/
theorem ga_hvrel {k G t s : Nat} {a b o : Nat → Int32} (h1 : 0 < G) (h2 : G ≤ 4) (M : ga_Mk a b) (J : ga_Inv (32 * G) a o) (ht : t < 6) (hb : s + 2 ^ (t + 1) ≤ 32 * G) (hj : ∀ i, i < 2 ^ (t + 1) → a (s + i) = nI (s + 1)) : i_Rel k (nI G, ga_fi a (s + 2 ^ t) (2 ^ t) 0, upd o s (nI t)) (nI G, ga_fi (ga_fi b s (2 ^ (t + 1)) (-1)) s (2 ^ t) (nI s), upd o s (nI t)) := by
  have p1 := (ga_pp t ht).1
  have e3 : 2 ^ (t + 1) = 2 ^ t + 2 ^ t := by rw [Nat.pow_succ]; omega
  have hj' : ∀ i, s ≤ i → i < s + 2 ^ t + 2 ^ t → a i = nI (s + 1) := by
    intro i l1 l2
    have := hj (i - s) (by omega)
    rwa [show s + (i - s) = i by omega] at this
  refine ga_rel h1 h2 (fun i hi => ?_) (ga_keep s (by omega) (by omega) J (fun i => ?_) (fun t ht => pk_un ht) (fun _ => ⟨t, ht, pk_us, by omega, fun i hi => ?_⟩))
  · by_cases l : s ≤ i ∧ i < s + 2 ^ t
    · have n2 : ¬ (s + 2 ^ t ≤ i ∧ i < s + 2 ^ t + 2 ^ t) := by omega
      rw [ga_fi_o n2, ga_fi_i l, hj' i (by omega) (by omega), nI_1]
    · rw [ga_fi_o l]
      by_cases l2 : s + 2 ^ t ≤ i ∧ i < s + 2 ^ t + 2 ^ t
      · have n3 : s ≤ i ∧ i < s + 2 ^ (t + 1) := by omega
        rw [ga_fi_i l2, ga_fi_i n3]; rfl
      · have n3 : ¬ (s ≤ i ∧ i < s + 2 ^ (t + 1)) := by omega
        rw [ga_fi_o l2, ga_fi_o n3]; exact M i hi
  · by_cases l2 : s + 2 ^ t ≤ i ∧ i < s + 2 ^ t + 2 ^ t
    · exact Or.inr ⟨Or.inr (hj' i (by omega) (by omega)), Or.inl (ga_fi_i l2)⟩
    · exact Or.inl (ga_fi_o l2)
  · have n2 : ¬ (s + 2 ^ t ≤ s + i ∧ s + i < s + 2 ^ t + 2 ^ t) := by omega
    rw [ga_fi_o n2]
    exact hj i (by omega)
theorem i_vc_halve {k : Nat} {u : SX} {v : SY} (I : i_Rel k u v) (hk : k + 3 ≤ 1537) (v1 : Int32) : wpX_halve (fun r u' => wpY_halve (fun r' v' => r' = r ∧ i_Rel (k + 3) u' v') v v1) u v1 := by
  obtain ⟨G, a, b, o, h1, h2, rfl, rfl, M, J⟩ := I
  unfold wpX_halve wpY_halve
  dsimp only
  by_cases x : ∃ s, s < 32 * G ∧ v1 = nI s ∧ a s = nI (s + 1)
  · obtain ⟨s, hs, rfl, ha⟩ := x
    obtain ⟨q, hq, ho, hb, hj⟩ := J s hs ha
    have hi : vp_in (nI s) 128 := pk_in s 128 (by omega)
    rw [show (nI s).toNatClampNeg = s from nI_clamp (by omega), ho]
    refine ga_ie1 h2 hs ha (br_f ga_10 ⟨hi, nm_e ?_⟩)
    refine pk_eq q 0 (fun z => ?_) (fun z => ?_)
    · refine ga_yx1 M h2 hs ha (br_f ga_10 ⟨hi, nm_e (br_t ?_ ⟨rfl, ga_rel h1 h2 M J⟩)⟩)
      rw [z]; rfl
    · obtain ⟨t, rfl⟩ : ∃ t, q = t + 1 := ⟨q - 1, by omega⟩
      have ht : t < 6 := by omega
      obtain ⟨p1, p2, _⟩ := ga_pp t ht
      have e3 : 2 ^ (t + 1) = 2 ^ t + 2 ^ t := by rw [Nat.pow_succ]; omega
      rw [nI_pred t, ga_pw t ht]
      refine nm_e ?_
      rw [nI_add s (2 ^ t)]
      refine ga_so (by omega) ⟨hi, nm_e ?_⟩
      refine ga_yx1 M h2 hs ha (br_f ga_10 ⟨hi, nm_e (br_f (nI_ne0 (by omega) (by omega)) ?_)⟩)
      rw [nI_pred t, ga_pw (t + 1) hq]
      refine ga_yi (by omega) (ga_ym ht (by omega) ⟨rfl, ?_⟩)
      exact ga_hvrel h1 h2 M J ht hb hj
  · exact ga_ie0 h2 x (br_t rfl (ga_yx0 M h2 x (br_t rfl ⟨rfl, ga_rel h1 h2 M J⟩)))
