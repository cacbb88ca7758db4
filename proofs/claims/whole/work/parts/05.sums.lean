section PXV
variable {un : Int32} {f g cd sb ip c : Nat → Int32}
/-! through -/
theorem xx_through {post : Int32 → Prop} {b : Nat} (hb : b < 9) (hp : px_P f g ip) (k : post (nI (px_cn (fun s => px_p f g s && px_t s b) 511))) : ∃ n, wX_through_13 post (nI b) un f g cd sb ip c n 0 1 := by
  refine ⟨512, px_lp (fun n j => wX_through_13 post (nI b) un f g cd sb ip c n (nI (px_cn (fun s => px_p f g s && px_t s b) j)) (nI (j + 1))) (fun n => br_t px_512e k) (fun n j hj H => ?_)⟩
  refine br_f (px_512t (by omega)) ⟨vp_in_nI (by omega) (by omega), px_rd (px_p f g (j + 1)) (by omega) (hp (j + 1) (by omega) (by omega)) (fun h => ?_) (fun h => ?_)⟩
  · rw [px_cn_f (by rw [h, Bool.false_and])] at H
    exact nm_r (nI_1 _) H
  · refine xx_has (by omega) hb (px_ib (px_t (j + 1) b) (fun h2 => ?_) (fun h2 => ?_))
    · rw [px_cn_f (by rw [h, h2]; rfl)] at H
      exact nm_r (nI_1 _) H
    · rw [px_cn_t (by rw [h, h2]; rfl)] at H
      exact nm_r (nI_1 _) (nm_r (nI_1 _) H)
theorem yy_through {post : Int32 → Prop} {b : Nat} (hb : b < 9) (ok : px_ok f g) (k : post (nI (px_cn (fun s => px_p f g s && px_t s b) 511))) : ∃ n, wY_through_14 post (nI b) un f g c n 0 1 := by
  refine ⟨512, px_lp (fun n j => wY_through_14 post (nI b) un f g c n (nI (px_cn (fun s => px_p f g s && px_t s b) j)) (nI (j + 1))) (fun n => br_t px_512e k) (fun n j hj H => ?_)⟩
  refine br_f (px_512t (by omega)) (px_tb (by omega) hb (fun h2 => ?_) (fun h2 => ?_))
  · refine yy_p ok (by omega) (px_ib (px_p f g (j + 1)) (fun h => ?_) (fun h => ?_))
    · rw [px_cn_f (by rw [h, h2]; rfl)] at H
      exact nm_r (nI_1 _) H
    · rw [px_cn_t (by rw [h, h2]; rfl)] at H
      exact nm_r (nI_1 _) (nm_r (nI_1 _) H)
  · rw [px_cn_f (by rw [h2, Bool.and_false])] at H
    exact nm_r (nI_1 _) H
theorem i_vc_through {k : Nat} {u : SX} {v : SY} (I : i_Rel k u v) (hk : k + 4 ≤ 2048) (v1 : Int32) : wpX_through (fun r => wpY_through (fun r' => r' = r ∧ i_Rel (k + 4) u v) v v1) u v1 := by
  have J : i_Rel (k + 4) u v := I
  obtain ⟨un, f, g, cd, sb, ip, c, rfl, rfl, ok, hC, hS, hP⟩ := I
  unfold wpX_through wpY_through
  dsimp only
  rcases px_bl v1 with ⟨b, hb, rfl⟩ | h
  · exact xx_b1 hb (br_f (by decide) (xx_through hb hP (yy_b1 hb (br_f (by decide) (yy_through hb ok ⟨rfl, J⟩)))))
  · exact xx_b0 h (br_t rfl (yy_b0 h (br_t rfl ⟨rfl, J⟩)))
/-! visits -/
theorem xx_visits {post : Int32 → Prop} {b : Nat} (hb : b < 9) (k : post (px_sm (fun s => px_t s b) c 511)) : ∃ n, wX_visits_13 post (nI b) un f g cd sb ip c n 0 1 := by
  refine ⟨512, px_lp (fun n j => wX_visits_13 post (nI b) un f g cd sb ip c n (px_sm (fun s => px_t s b) c j) (nI (j + 1))) (fun n => br_t px_512e k) (fun n j hj H => ?_)⟩
  refine br_f (px_512t (by omega)) (xx_has (by omega) hb (px_ib (px_t (j + 1) b) (fun h2 => ?_) (fun h2 => ?_)))
  · rw [px_sm_f h2] at H
    exact nm_r (nI_1 _) H
  · exact ⟨vp_in_nI (by omega) (by omega), nm_r (px_smc (p := fun s => px_t s b) hj h2) (nm_r (nI_1 _) H)⟩
theorem yy_visits {post : Int32 → Prop} {b : Nat} (hb : b < 9) (k : post (px_sm (fun s => px_t s b) c 511)) : ∃ n, wY_visits_14 post (nI b) un f g c n 0 1 := by
  refine ⟨512, px_lp (fun n j => wY_visits_14 post (nI b) un f g c n (px_sm (fun s => px_t s b) c j) (nI (j + 1))) (fun n => br_t px_512e k) (fun n j hj H => ?_)⟩
  refine br_f (px_512t (by omega)) (px_tb (by omega) hb (fun h2 => ?_) (fun h2 => ?_))
  · exact ⟨vp_in_nI (by omega) (by omega), nm_r (px_smc (p := fun s => px_t s b) hj h2) (nm_r (nI_1 _) H)⟩
  · rw [px_sm_f h2] at H
    exact nm_r (nI_1 _) H
theorem i_vc_visits {k : Nat} {u : SX} {v : SY} (I : i_Rel k u v) (hk : k + 4 ≤ 2048) (v1 : Int32) : wpX_visits (fun r => wpY_visits (fun r' => r' = r ∧ i_Rel (k + 4) u v) v v1) u v1 := by
  have J : i_Rel (k + 4) u v := I
  obtain ⟨un, f, g, cd, sb, ip, c, rfl, rfl, ok, hC, hS, hP⟩ := I
  unfold wpX_visits wpY_visits
  dsimp only
  rcases px_bl v1 with ⟨b, hb, rfl⟩ | h
  · exact xx_b1 hb (br_f (by decide) (xx_visits hb (yy_b1 hb (br_f (by decide) (yy_visits hb ⟨rfl, J⟩)))))
  · exact xx_b0 h (br_t rfl (yy_b0 h (br_t rfl ⟨rfl, J⟩)))
/-! arc -/
theorem px_ar {A B : Prop} {x3 x4 : Int32} {j : Nat} (T : decide ((nI (j + 1) &&& x4) = x3) = true → A) (F : decide ((nI (j + 1) &&& x4) = x3) = false → B) : ((nI (j + 1) &&& x4) = x3 → A) ∧ (¬ (nI (j + 1) &&& x4) = x3 → B) := ⟨fun h => T (decide_eq_true h), fun h => F (decide_eq_false h)⟩
theorem xx_arc {post : Int32 → Prop} {x3 x4 : Int32} (k : post (px_sm (fun s => decide ((nI s &&& x4) = x3)) c 511)) : ∃ n, wX_arc_53 post x3 x4 un f g cd sb ip c n 0 1 := by
  refine ⟨512, px_lp (fun n j => wX_arc_53 post x3 x4 un f g cd sb ip c n (px_sm (fun s => decide ((nI s &&& x4) = x3)) c j) (nI (j + 1))) (fun n => br_t px_512e k) (fun n j hj H => ?_)⟩
  refine br_f (px_512t (by omega)) (px_ar (fun h2 => ?_) (fun h2 => ?_))
  · exact ⟨vp_in_nI (by omega) (by omega), nm_r (px_smc (p := fun s => decide ((nI s &&& x4) = x3)) hj h2) (nm_r (nI_1 _) H)⟩
  · rw [px_sm_f h2] at H
    exact nm_r (nI_1 _) H
theorem yy_arc {post : Int32 → Prop} {x3 x4 : Int32} (k : post (px_sm (fun s => decide ((nI s &&& x4) = x3)) c 511)) : ∃ n, wY_arc_68 post x3 x4 un f g c n 0 1 := by
  refine ⟨512, px_lp (fun n j => wY_arc_68 post x3 x4 un f g c n (px_sm (fun s => decide ((nI s &&& x4) = x3)) c j) (nI (j + 1))) (fun n => br_t px_512e k) (fun n j hj H => ?_)⟩
  refine br_f (px_512t (by omega)) (px_ar (fun h2 => ?_) (fun h2 => ?_))
  · exact ⟨vp_in_nI (by omega) (by omega), nm_r (px_smc (p := fun s => decide ((nI s &&& x4) = x3)) hj h2) (nm_r (nI_1 _) H)⟩
  · rw [px_sm_f h2] at H
    exact nm_r (nI_1 _) H
theorem px_ldt {b j : Nat} (h : px_ld f g b j = true) : f b = nI j ∨ g b = nI j := by
  unfold px_ld at h
  rw [Bool.or_eq_true, decide_eq_true_iff, decide_eq_true_iff] at h
  exact h
theorem px_ldf {b j : Nat} (h : px_ld f g b j = false) : ¬ f b = nI j ∧ ¬ g b = nI j := by
  unfold px_ld at h
  rw [Bool.or_eq_false_iff, decide_eq_false_iff_not, decide_eq_false_iff_not] at h
  exact h
theorem i_vc_arc {k : Nat} {u : SX} {v : SY} (I : i_Rel k u v) (hk : k + 4 ≤ 2048) (v1 : Int32) (v2 : Int32) : wpX_arc (fun r => wpY_arc (fun r' => r' = r ∧ i_Rel (k + 4) u v) v v1 v2) u v1 v2 := by
  have J : i_Rel (k + 4) u v := I
  obtain ⟨un, f, g, cd, sb, ip, c, rfl, rfl, ok, hC, hS, hP⟩ := I
  unfold wpX_arc wpY_arc
  dsimp only
  rcases px_bl v1 with ⟨b, hb, rfl⟩ | h
  · rcases px_bl v2 with ⟨d, hd, rfl⟩ | h2
    · refine xx_b1 hb (br_f (by decide) (xx_b1 hd (br_f (by decide) ?_)))
      by_cases h3 : nI d ≤ nI b
      · exact br_t h3 (yy_b1 hb (br_f (by decide) (yy_b1 hd (br_f (by decide) (br_t h3 ⟨rfl, J⟩)))))
      · have e : (nI b).toNatClampNeg = b := nI_clamp (by omega)
        have hin : vp_in (nI b) 9 := vp_in_nI hb (by omega)
        refine br_f h3 (xx_leads hb (px_ib _ (fun h4 => ?_) (fun h4 => ?_)))
        · have h5 := px_ldf h4
          refine yy_b1 hb (br_f (by decide) (yy_b1 hd (br_f (by decide) (br_f h3 ⟨hin, ?_⟩))))
          rw [e]
          exact br_f h5.1 ⟨hin, br_f h5.2 ⟨rfl, J⟩⟩
        · refine nm_e (nm_r (congrArg (fun z => z - (1 : Int32) <<< (nI b &&& 31)) (px_shl2 d hd)) (xx_arc ?_))
          refine yy_b1 hb (br_f (by decide) (yy_b1 hd (br_f (by decide) (br_f h3 ⟨hin, ?_⟩))))
          rw [e]
          have A : ∀ post : Int32 → Prop, post (px_sm (fun s => decide ((nI s &&& ((1 : Int32) <<< (nI (d + 1) &&& 31) - (1 : Int32) <<< (nI b &&& 31))) = ((1 : Int32) <<< (nI b &&& 31) ||| (1 : Int32) <<< (nI d &&& 31)))) c 511) → wY_arc_43 post (nI b) (nI d) un f g c := by
            intro post k
            unfold wY_arc_43
            rw [nI_1 d]
            exact nm_e (nm_e (yy_arc k))
          by_cases h5 : f b = nI d
          · exact br_t h5 (A _ ⟨rfl, J⟩)
          · exact br_f h5 ⟨hin, br_t ((px_ldt h4).resolve_left h5) (A _ ⟨rfl, J⟩)⟩
    · exact xx_b1 hb (br_f (by decide) (xx_b0 h2 (br_t rfl (yy_b1 hb (br_f (by decide) (yy_b0 h2 (br_t rfl ⟨rfl, J⟩)))))))
  · exact xx_b0 h (br_t rfl (yy_b0 h (br_t rfl ⟨rfl, J⟩)))
/-! longest -/
theorem xx_cb {post : Int32 → Prop} {s : Nat} (hs : s < 512) (k : post (nI (px_sf s 9))) : ∀ d b, b + d = 9 → ∀ n, d < n → wX_countBlocks_4 post (nI s) n (nI (px_sf s b)) (nI b) := by
  intro d
  induction d with
  | zero =>
    intro b hb n hn
    obtain ⟨m, rfl⟩ : ∃ m, n = m + 1 := ⟨n - 1, by omega⟩
    have e : b = 9 := by omega
    rw [e]
    exact br_t px_9e k
  | succ d ih =>
    intro b hb n hn
    obtain ⟨m, rfl⟩ : ∃ m, n = m + 1 := ⟨n - 1, by omega⟩
    have H := ih (b + 1) (by omega) m (by omega)
    refine br_f (px_9t (by omega)) (xx_has hs (by omega) (px_ib _ (fun h => ?_) (fun h => ?_)))
    · rw [px_sf_f h] at H
      exact nm_r (nI_1 b) H
    · rw [px_sf_t h] at H
      exact nm_r (nI_1 _) (nm_r (nI_1 b) H)
theorem xx_longest {post : Int32 → Prop} (hp : px_P f g ip) (k : post (nI (px_mx (px_p f g) 511))) : wpX_longest post (un, f, g, cd, sb, ip, c) := by
  refine ⟨512, px_lp (fun n j => wX_longest_4 post un f g cd sb ip c n (nI (px_mx (px_p f g) j)) (nI (j + 1))) (fun n => br_t px_512e k) (fun n j hj H => ?_)⟩
  have l1 := px_mx_le (px_p f g) j
  have l2 := px_sf_le (j + 1) 9
  refine br_f (px_512t (by omega)) ⟨vp_in_nI (by omega) (by omega), px_rd (px_p f g (j + 1)) (by omega) (hp (j + 1) (by omega) (by omega)) (fun h => ?_) (fun h => ?_)⟩
  · rw [px_mx_f h] at H
    exact nm_r (nI_1 _) H
  · refine ⟨10, xx_cb (by omega) (pk_le (px_sf (j + 1) 9) (px_mx (px_p f g) j) (fun h2 => ?_) (fun h2 => ?_)) 9 0 rfl 10 (by omega)⟩
    · rw [px_mx_l h2] at H
      exact nm_r (nI_1 _) H
    · rw [px_mx_t h h2] at H
      exact nm_r (nI_1 _) H
theorem yy_sz {post : Int32 → Prop} {J4 : Int32 → Int32 → Prop} {x1 : Int32} {s : Nat} (hs : s < 512) (k : ∀ n, wY_longest_16 post J4 x1 (nI s) un f g c (n + 1) (nI (px_sf s 9)) (nI 9)) : ∀ d b, b + d = 9 → ∀ n, d < n → wY_longest_16 post J4 x1 (nI s) un f g c n (nI (px_sf s b)) (nI b) := by
  intro d
  induction d with
  | zero =>
    intro b hb n hn
    obtain ⟨m, rfl⟩ : ∃ m, n = m + 1 := ⟨n - 1, by omega⟩
    have e : b = 9 := by omega
    rw [e]
    exact k m
  | succ d ih =>
    intro b hb n hn
    obtain ⟨m, rfl⟩ : ∃ m, n = m + 1 := ⟨n - 1, by omega⟩
    have H := ih (b + 1) (by omega) m (by omega)
    refine br_f (px_9t (by omega)) (nm_r (e' := nI (px_sf s (b + 1))) ?_ (nm_r (nI_1 b) H))
    rw [px_bi hs (by omega), nI_add]
    rfl
theorem yy_longest {post : Int32 → Prop} (ok : px_ok f g) (k : post (nI (px_mx (px_p f g) 511))) : wpY_longest post (un, f, g, c) := by
  refine ⟨512, px_lp (fun n j => wY_longest_4 post un f g c n (nI (px_mx (px_p f g) j)) (nI (j + 1))) (fun n => br_t px_512e k) (fun n j hj H => ?_)⟩
  have l1 := px_mx_le (px_p f g) j
  have l2 := px_sf_le (j + 1) 9
  refine br_f (px_512t (by omega)) ⟨10, yy_sz (by omega) (fun m => br_t px_9e (pk_le (px_sf (j + 1) 9) (px_mx (px_p f g) j) (fun h2 => ?_) (fun h2 => ?_))) 9 0 rfl 10 (by omega)⟩
  · rw [px_mx_l h2] at H
    exact nm_r (nI_1 _) H
  · refine yy_p ok (by omega) (px_ib (px_p f g (j + 1)) (fun h => ?_) (fun h => ?_))
    · rw [px_mx_f h] at H
      exact nm_r (nI_1 _) H
    · rw [px_mx_t h h2] at H
      exact nm_r (nI_1 _) H
theorem i_vc_longest {k : Nat} {u : SX} {v : SY} (I : i_Rel k u v) (hk : k + 4 ≤ 2048) : wpX_longest (fun r => wpY_longest (fun r' => r' = r ∧ i_Rel (k + 4) u v) v) u := by
  have J : i_Rel (k + 4) u v := I
  obtain ⟨un, f, g, cd, sb, ip, c, rfl, rfl, ok, hC, hS, hP⟩ := I
  exact xx_longest hP (yy_longest ok ⟨rfl, J⟩)
end PXV
