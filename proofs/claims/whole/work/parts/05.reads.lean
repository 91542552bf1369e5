/-! what is owed of the methods that only read -/
theorem i_vc_extentOf {k : Nat} {u : SX} {v : SY} (I : i_Rel k u v) (hk : k + 3 ≤ 1537) (v1 : Int32) : wpX_extentOf (fun r => wpY_extentOf (fun r' => r' = r ∧ i_Rel (k + 3) u v) v v1) u v1 := by
  obtain ⟨G, a, b, o, h1, h2, rfl, rfl, M, J⟩ := I
  have R : i_Rel (k + 3) (nI G, a, o) (nI G, b, o) := ga_rel h1 h2 M J
  unfold wpX_extentOf wpY_extentOf
  dsimp only
  by_cases x : ∃ j, j < 32 * G ∧ v1 = nI j
  · obtain ⟨s, hs, rfl⟩ := x
    have hi : vp_in (nI s) 128 := pk_in s 128 (by omega)
    rw [show (nI s).toNatClampNeg = s from nI_clamp (by omega)]
    refine ga_ib1 h2 hs (br_f ga_10 ⟨hi, br_c (fun z => ?_) (fun z => ⟨hi, ?_⟩)⟩)
    · exact ga_yb1 h2 hs (br_f ga_10 ⟨hi, br_t ((ga_mk0 M (by omega)).mpr z) ⟨rfl, R⟩⟩)
    · exact ga_yb1 h2 hs (br_f ga_10 ⟨hi, br_f (fun w => z ((ga_mk0 M (by omega)).mp w)) ⟨hi, ga_mks M (by omega), R⟩⟩)
  · exact ga_ib0 h2 x (br_t rfl (ga_yb0 h2 x (br_t rfl ⟨rfl, R⟩)))
theorem i_vc_freeBlocks {k : Nat} {u : SX} {v : SY} (I : i_Rel k u v) (hk : k + 3 ≤ 1537) (v1 : Int32) : wpX_freeBlocks (fun r => wpY_freeBlocks (fun r' => r' = r ∧ i_Rel (k + 3) u v) v v1) u v1 := by
  obtain ⟨G, a, b, o, h1, h2, rfl, rfl, M, J⟩ := I
  have R : i_Rel (k + 3) (nI G, a, o) (nI G, b, o) := ga_rel h1 h2 M J
  unfold wpX_freeBlocks wpY_freeBlocks
  dsimp only
  by_cases x : ∃ j, j < G ∧ v1 = nI j
  · obtain ⟨g, hg, rfl⟩ := x
    refine ga_ig1 h2 hg (br_f ga_10 (ga_cf (k := 0) (by omega) (by omega) ?_))
    refine ga_yq1 h2 hg (br_f ga_10 (nm_r (ga_32m g) ⟨33, ?_⟩))
    refine ga_ybL _ (nI G) a b o M g (by omega) 33 32 (32 * g) 0 rfl (by omega) ⟨?_, R⟩
    rw [Nat.zero_add]
  · exact ga_ig0 h2 x (br_t rfl (ga_yq0 h2 x (br_t rfl ⟨rfl, R⟩)))
theorem i_vc_largestFree {k : Nat} {u : SX} {v : SY} (I : i_Rel k u v) (hk : k + 3 ≤ 1537) (v1 : Int32) : wpX_largestFree (fun r => wpY_largestFree (fun r' => r' = r ∧ i_Rel (k + 3) u v) v v1) u v1 := by
  obtain ⟨G, a, b, o, h1, h2, rfl, rfl, M, J⟩ := I
  have R : i_Rel (k + 3) (nI G, a, o) (nI G, b, o) := ga_rel h1 h2 M J
  unfold wpX_largestFree wpY_largestFree
  dsimp only
  by_cases x : ∃ j, j < G ∧ v1 = nI j
  · obtain ⟨g, hg, rfl⟩ := x
    refine ga_ig1 h2 hg (br_f ga_10 ⟨7, ga_lfL _ (nI G) a o g (by omega) 6 7 5 (by omega) (by omega) rfl ?_⟩)
    exact ga_yq1 h2 hg (br_f ga_10 ⟨7, ga_ylL _ (nI G) a b o M g (by omega) 6 7 5 (by omega) (by omega) rfl ⟨rfl, R⟩⟩)
  · exact ga_ig0 h2 x (br_t rfl (ga_yq0 h2 x (br_t rfl ⟨rfl, R⟩)))
theorem i_vc_freeRuns {k : Nat} {u : SX} {v : SY} (I : i_Rel k u v) (hk : k + 3 ≤ 1537) (v1 : Int32) : wpX_freeRuns (fun r => wpY_freeRuns (fun r' => r' = r ∧ i_Rel (k + 3) u v) v v1) u v1 := by
  obtain ⟨G, a, b, o, h1, h2, rfl, rfl, M, J⟩ := I
  have R : i_Rel (k + 3) (nI G, a, o) (nI G, b, o) := ga_rel h1 h2 M J
  unfold wpX_freeRuns wpY_freeRuns
  dsimp only
  by_cases x : ∃ j, j < 6 ∧ v1 = nI j
  · obtain ⟨q, hq, rfl⟩ := x
    refine ga_io1 hq (br_f ga_10 ⟨G + 1, ga_frsL _ a o q G hq h2 (G + 1) G 0 (by omega) (by omega) ?_⟩)
    refine ga_yo1 hq (br_f ga_10 ⟨32 * G + 1, ga_yuL _ a b o M q G hq h2 (32 * G + 1) (32 * G) 0 0 (by omega) (by omega) ⟨?_, R⟩⟩)
    rw [Nat.zero_add, ga_fs_cy a hq]
  · exact ga_io0 x (br_t rfl (ga_yo0 x (br_t rfl ⟨rfl, R⟩)))
theorem i_vc_extents {k : Nat} {u : SX} {v : SY} (I : i_Rel k u v) (hk : k + 3 ≤ 1537) : wpX_extents (fun r => wpY_extents (fun r' => r' = r ∧ i_Rel (k + 3) u v) v) u := by
  obtain ⟨G, a, b, o, h1, h2, rfl, rfl, M, J⟩ := I
  have R : i_Rel (k + 3) (nI G, a, o) (nI G, b, o) := ga_rel h1 h2 M J
  have e : ga_ex a (32 * G) 128 0 = ga_ex a (32 * G) (32 * G) 0 := by
    have e1 := ga_ex_add (a := a) (L := 32 * G) (32 * G) (128 - 32 * G) 0
    rw [show 32 * G + (128 - 32 * G) = 128 by omega, ga_ex_hi (128 - 32 * G) (0 + 32 * G) (by omega)] at e1
    exact e1
  refine ⟨129, ga_exL _ a o G h2 129 128 0 0 rfl (by omega) ⟨32 * G + 1, ?_⟩⟩
  refine ga_yeL _ a b o M G h2 (32 * G + 1) (32 * G) 0 0 (by omega) (by omega) ⟨?_, R⟩
  rw [e]
