section PXW
variable {un : Int32} {f g cd sb ip c : Nat → Int32}
/-! hottest -/
theorem xx_hot {post : Int32 → Prop} {π : Nat → Nat} (hS : px_So π 511) (hb : ∀ i, i < 511 → sb i = nI (π i)) (hC : px_C cd) (k : ∀ m r, px_hi c (fun s => ∃ i, i < 511 ∧ s = π i) m r → post r) : wpX_hottest post (un, f, g, cd, sb, ip, c) := by
  refine ⟨512, px_lp (fun n j => ∀ m r, px_hi c (fun s => ∃ i, i < j ∧ s = π i) m r → wX_hottest_7 post un f g cd sb ip c n m r (nI j)) (fun n m r h => br_t px_511e (k m r h)) (fun n j hj H m r h => ?_) 0 (-4) (px_hi_0 (fun s z => by obtain ⟨i, hi, _⟩ := z; omega))⟩
  have e1 : (nI j).toNatClampNeg = j := nI_clamp (by omega)
  have hπ := hS.1 j hj
  have e2 : (nI (π j)).toNatClampNeg = π j := nI_clamp (by omega)
  have hin : vp_in (nI (π j)) 512 := vp_in_nI (by omega) (by omega)
  have hD : ∀ s, (∃ i, i < j + 1 ∧ s = π i) → (∃ i, i < j ∧ s = π i) ∨ s = π j := by
    rintro s ⟨i, hi, e⟩
    by_cases z : i = j
    · exact Or.inr (by rw [e, z])
    · exact Or.inl ⟨i, by omega, e⟩
  refine br_f (px_511t hj) ⟨vp_in_nI hj (by omega), nm_r (e' := nI (π j)) (by rw [e1]; exact hb j hj) ⟨hin, ?_⟩⟩
  rw [e2]
  by_cases h2 : c (π j) ≤ m
  · refine br_t h2 (nm_r (nI_1 j) (H m r (px_hi_old (t := π j) h hD ?_ (Int32.not_lt.mpr h2) ?_)))
    · rintro s ⟨i, hi, e⟩
      exact ⟨i, by omega, e⟩
    · rintro _ _ s ⟨i, hi, e⟩ _ _
      rw [e]
      exact Nat.le_of_lt (hS.2.1 i j hi hj)
  · exact br_f h2 ⟨hin, nm_e ⟨hin, nm_r (hC (π j) hπ.1 (by omega)) (nm_r (nI_1 j) (H _ _ (px_hi_new (t := π j) h hD ⟨j, by omega, rfl⟩ (Or.inl (Int32.not_le.mp h2)))))⟩⟩
theorem yy_hot {post : Int32 → Prop} (k : ∀ m r, px_hi c (fun s => 1 ≤ s ∧ s ≤ 511) m r → post r) : wpY_hottest post (un, f, g, c) := by
  refine ⟨512, px_lp (fun n j => ∀ m r, px_hi c (fun s => 1 ≤ s ∧ s ≤ j) m r → wY_hottest_7 post un f g c n r m (nI (j + 1))) (fun n m r h => br_t px_512e (k m r h)) (fun n j hj H m r h => ?_) 0 (-4) (px_hi_0 (fun s z => by omega))⟩
  have e1 : (nI (j + 1)).toNatClampNeg = j + 1 := nI_clamp (by omega)
  have hin : vp_in (nI (j + 1)) 512 := vp_in_nI (by omega) (by omega)
  have hD : ∀ s, (1 ≤ s ∧ s ≤ j + 1) → (1 ≤ s ∧ s ≤ j) ∨ s = j + 1 := by
    intro s z
    omega
  have hE : ∀ s, (1 ≤ s ∧ s ≤ j) → (1 ≤ s ∧ s ≤ j + 1) := by
    intro s z
    omega
  refine br_f (px_512t (by omega)) (yy_cd (by omega) ⟨hin, ?_⟩)
  rw [e1]
  have N : (m < c (j + 1) ∨ (c (j + 1) = m ∧ 0 < m ∧ ∀ s, (1 ≤ s ∧ s ≤ j) → r = nI (px_cd s) → m = c s → px_cd (j + 1) ≤ px_cd s)) → wY_hottest_51 post (wY_hottest_7 post un f g c n) (nI (j + 1)) (nI (px_cd (j + 1))) un f g c := by
    intro g1
    refine ⟨hin, nm_r (e' := c (j + 1)) (by rw [e1]) (nm_r (nI_1 _) (H _ _ (px_hi_new (t := j + 1) h hD (by omega) g1)))⟩
  by_cases h1 : m < c (j + 1)
  · exact br_t h1 (N (Or.inl h1))
  · refine br_f h1 ⟨hin, ?_⟩
    by_cases h2 : c (j + 1) = m
    · refine br_t h2 ?_
      by_cases h3 : m ≤ 0
      · exact br_t h3 (nm_r (nI_1 _) (H _ _ (px_hi_old (t := j + 1) h hD hE h1 (fun _ z => absurd z (Int32.not_lt.mpr h3)))))
      · refine br_f h3 ?_
        by_cases h4 : r ≤ nI (px_cd (j + 1))
        · refine br_t h4 (nm_r (nI_1 _) (H _ _ (px_hi_old (t := j + 1) h hD hE h1 ?_)))
          intro _ _ s ds er _
          rw [er] at h4
          exact (nI_leI (px_cd_lt s (by omega)) (px_cd_lt (j + 1) (by omega))).mp h4
        · refine br_f h4 (N (Or.inr ⟨h2, Int32.not_le.mp h3, ?_⟩))
          intro s ds er _
          rw [er] at h4
          have h5 : ¬ px_cd s ≤ px_cd (j + 1) := fun z => h4 ((nI_leI (px_cd_lt s (by omega)) (px_cd_lt (j + 1) (by omega))).mpr z)
          omega
    · exact br_f h2 (nm_r (nI_1 _) (H _ _ (px_hi_old (t := j + 1) h hD hE h1 (fun z => absurd z h2))))
theorem px_Di {π : Nat → Nat} (hS : px_So π 511) (s : Nat) : (∃ i, i < 511 ∧ s = π i) ↔ (1 ≤ s ∧ s ≤ 511) := by
  constructor
  · rintro ⟨i, hi, e⟩
    rw [e]
    exact hS.1 i hi
  · rintro ⟨a, b⟩
    obtain ⟨i, hi, e⟩ := hS.2.2 s a b
    exact ⟨i, hi, e.symm⟩
theorem i_vc_hottest {k : Nat} {u : SX} {v : SY} (I : i_Rel k u v) (hk : k + 4 ≤ 2048) : wpX_hottest (fun r => wpY_hottest (fun r' => r' = r ∧ i_Rel (k + 4) u v) v) u := by
  have J : i_Rel (k + 4) u v := I
  obtain ⟨un, f, g, cd, sb, ip, c, rfl, rfl, ok, hC, ⟨π, hS, hb⟩, hP⟩ := I
  exact xx_hot hS hb hC (fun m r h => yy_hot (fun m' r' h' => ⟨px_hi_u h h' (px_Di hS), J⟩))
/-! path -/
theorem xx_path {post : Int32 → Prop} {π : Nat → Nat} {x : Int32} (hS : px_So π 511) (hb : ∀ i, i < 511 → sb i = nI (π i)) (hC : px_C cd) (hp : px_P f g ip) (k : ∀ r, px_kth (px_p f g) x r → post r) : wpX_path post (un, f, g, cd, sb, ip, c) x := by
  refine ⟨512, px_lp (fun n j => (∀ i, i < j → px_p f g (π i) = true → ¬ nI (px_B (px_p f g) π i) = x) → wX_path_4 post x un f g cd sb ip c n (nI (px_B (px_p f g) π j)) (nI j)) (fun n h => br_t px_511e (k _ (Or.inr ⟨?_, rfl⟩))) (fun n j hj H h => ?_) (fun i hi => by omega)⟩
  · intro s a b ps e
    obtain ⟨i, hi, ei⟩ := hS.2.2 s a b
    rw [← ei] at ps e
    rw [px_LB hS i hi] at e
    exact h i hi ps e
  · have e1 : (nI j).toNatClampNeg = j := nI_clamp (by omega)
    have hπ := hS.1 j hj
    have e2 : (nI (π j)).toNatClampNeg = π j := nI_clamp (by omega)
    have hin : vp_in (nI (π j)) 512 := vp_in_nI (by omega) (by omega)
    refine br_f (px_511t hj) ⟨vp_in_nI hj (by omega), nm_r (e' := nI (π j)) (by rw [e1]; exact hb j hj) ⟨hin, px_rd (px_p f g (π j)) (by omega) (hp (π j) hπ.1 (by omega)) (fun h2 => ?_) (fun h2 => ?_)⟩⟩
    · have e3 : px_B (px_p f g) π (j + 1) = px_B (px_p f g) π j := by rw [px_B_s, if_neg (px_nt h2), Nat.add_zero]
      rw [e3] at H
      refine nm_r (nI_1 j) (H (fun i hi ps => ?_))
      by_cases z : i = j
      · rw [z] at ps
        exact absurd ps (px_nt h2)
      · exact h i (by omega) ps
    · by_cases h3 : nI (px_B (px_p f g) π j) = x
      · refine br_t h3 ⟨hin, ?_⟩
        rw [e2, hC (π j) hπ.1 (by omega)]
        refine k _ (Or.inl ⟨π j, hπ.1, hπ.2, h2, ?_, rfl⟩)
        rw [px_LB hS j hj]
        exact h3
      · have e3 : px_B (px_p f g) π (j + 1) = px_B (px_p f g) π j + 1 := by rw [px_B_s, if_pos h2]
        rw [e3] at H
        refine br_f h3 (nm_r (nI_1 _) (nm_r (nI_1 j) (H (fun i hi ps => ?_))))
        by_cases z : i = j
        · rw [z]; exact h3
        · exact h i (by omega) ps
theorem yy_les {post : Int32 → Prop} {s : Nat} (ok : px_ok f g) (hs : s < 512) (k : post (nI (px_L (px_p f g) s))) : wpY_lesser post (un, f, g, c) (nI (px_cd s)) := by
  refine ⟨512, px_lp (fun n j => wY_lesser_4 post (nI (px_cd s)) un f g c n (nI (px_cn (fun t => decide (px_cd t < px_cd s) && px_p f g t) j)) (nI (j + 1))) (fun n => br_t px_512e k) (fun n j hj H => ?_)⟩
  refine br_f (px_512t (by omega)) (yy_cd (by omega) (pk_le (px_cd s) (px_cd (j + 1)) (fun h => ?_) (fun h => ?_) rfl rfl (px_cd_lt s hs) (px_cd_lt (j + 1) (by omega))))
  · rw [px_cn_f (by rw [decide_eq_false (by omega), Bool.false_and])] at H
    exact nm_r (nI_1 _) H
  · refine yy_p ok (by omega) (px_ib (px_p f g (j + 1)) (fun h2 => ?_) (fun h2 => ?_))
    · rw [px_cn_f (by rw [h2, Bool.and_false])] at H
      exact nm_r (nI_1 _) H
    · rw [px_cn_t (by rw [h2, decide_eq_true h]; rfl)] at H
      exact nm_r (nI_1 _) (nm_r (nI_1 _) H)
theorem yy_path {post : Int32 → Prop} {x : Int32} (ok : px_ok f g) (k : ∀ r, px_kth (px_p f g) x r → post r) : wpY_path post (un, f, g, c) x := by
  refine ⟨512, px_lp (fun n j => (∀ s, 1 ≤ s → s ≤ j → px_p f g s = true → ¬ nI (px_L (px_p f g) s) = x) → wY_path_2 post x un f g c n (nI (j + 1))) (fun n h => br_t px_512e (k _ (Or.inr ⟨h, rfl⟩))) (fun n j hj H h => ?_) (fun s a b => by omega)⟩
  refine br_f (px_512t (by omega)) (yy_p ok (by omega) (px_ib (px_p f g (j + 1)) (fun h2 => ?_) (fun h2 => ?_)))
  · refine nm_r (nI_1 _) (H (fun s a b ps => ?_))
    by_cases z : s = j + 1
    · rw [z] at ps
      exact absurd ps (px_nt h2)
    · exact h s a (by omega) ps
  · refine yy_cd (by omega) (yy_les ok (by omega) ?_)
    by_cases h3 : nI (px_L (px_p f g) (j + 1)) = x
    · exact br_t h3 (k _ (Or.inl ⟨j + 1, by omega, by omega, h2, h3, rfl⟩))
    · refine br_f h3 (nm_r (nI_1 _) (H (fun s a b ps => ?_)))
      by_cases z : s = j + 1
      · rw [z]; exact h3
      · exact h s a (by omega) ps
theorem i_vc_path {k : Nat} {u : SX} {v : SY} (I : i_Rel k u v) (hk : k + 4 ≤ 2048) (v1 : Int32) : wpX_path (fun r => wpY_path (fun r' => r' = r ∧ i_Rel (k + 4) u v) v v1) u v1 := by
  have J : i_Rel (k + 4) u v := I
  obtain ⟨un, f, g, cd, sb, ip, c, rfl, rfl, ok, hC, ⟨π, hS, hb⟩, hP⟩ := I
  exact xx_path hS hb hC hP (fun r h => yy_path ok (fun r' h' => ⟨px_kth_u h h', J⟩))
end PXW
