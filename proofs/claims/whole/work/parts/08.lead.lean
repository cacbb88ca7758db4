section PXO
variable {un : Int32} {f g cd sb ip c : Nat → Int32}
/-! what lead takes and what it refuses -/
def px_o2 (x : Int32) : Prop := px_out x ∧ ¬ x = -1
def px_va (x y : Int32) : Prop := (x = -1 ∧ y = -1) ∨ ∃ j, j < 9 ∧ x = nI j ∧ (y = -1 ∨ ∃ i, i < 9 ∧ y = nI i ∧ ¬ j = i)
def px_iv (x y : Int32) : Prop := px_o2 x ∨ px_o2 y ∨ (x = -1 ∧ ∃ i, i < 9 ∧ y = nI i) ∨ ∃ j, j < 9 ∧ x = nI j ∧ y = nI j
theorem px_3 (x : Int32) : x = -1 ∨ (∃ j, j < 9 ∧ x = nI j) ∨ px_o2 x := by
  by_cases h : x = -1
  · exact Or.inl h
  · rcases px_bl x with h2 | h2
    · exact Or.inr (Or.inl h2)
    · exact Or.inr (Or.inr ⟨h2, h⟩)
theorem px_vi (x y : Int32) : px_va x y ∨ px_iv x y := by
  rcases px_3 x with hx | ⟨j, hj, hx⟩ | hx
  · rcases px_3 y with hy | hy | hy
    · exact Or.inl (Or.inl ⟨hx, hy⟩)
    · exact Or.inr (Or.inr (Or.inr (Or.inl ⟨hx, hy⟩)))
    · exact Or.inr (Or.inr (Or.inl hy))
  · rcases px_3 y with hy | ⟨i, hi, hy⟩ | hy
    · exact Or.inl (Or.inr ⟨j, hj, hx, Or.inl hy⟩)
    · by_cases e : j = i
      · exact Or.inr (Or.inr (Or.inr (Or.inr ⟨j, hj, hx, by rw [hy, e]⟩)))
      · exact Or.inl (Or.inr ⟨j, hj, hx, Or.inr ⟨i, hi, hy, e⟩⟩)
    · exact Or.inr (Or.inr (Or.inl hy))
  · exact Or.inr (Or.inl hx)
theorem px_om : px_out (-1) := Or.inl (by decide)
theorem px_o2n {x : Int32} (h : px_o2 x) (h1 : ¬ x < -1) (h2 : ¬ 8 < x) : False := by
  obtain ⟨h3, h4⟩ := h
  have e : ¬ x.toInt = (-1 : Int32).toInt := fun z => h4 (Int32.toInt_inj.mp z)
  have m1 : (-1 : Int32).toInt = -1 := by decide
  have m0 : (0 : Int32).toInt = 0 := by decide
  have m8 : (8 : Int32).toInt = 8 := by decide
  have m9 : (9 : Int32).toInt = 9 := by decide
  rw [Int32.lt_iff_toInt_lt] at h1 h2
  rcases h3 with h3 | ⟨_, h3⟩
  · rw [Int32.lt_iff_toInt_lt] at h3
    omega
  · rw [Int32.le_iff_toInt_le] at h3
    omega
theorem px_lo {j : Nat} (h : j < 9) : ¬ nI j < -1 := by
  rw [Int32.lt_iff_toInt_lt, nI_toInt (by omega)]
  have m1 : (-1 : Int32).toInt = -1 := by decide
  omega
theorem px_8 {j : Nat} (h : j < 9) : ¬ (8 : Int32) < nI j := nI_nlt (a := 8) (by omega) (by omega)
theorem xx_as1 {post : Int32 → Prop} {x y : Int32} (h : px_va x y) (k : post 1) : wpX_areSuccessors post x y := by
  rcases h with ⟨rfl, rfl⟩ | ⟨j, hj, rfl, rfl | ⟨i, hi, rfl, e⟩⟩
  · exact br_t rfl (br_t rfl k)
  · exact br_t rfl (br_f (px_nm1 hj) (xx_b1 hj (br_f (by decide) k)))
  · exact br_f (px_nm1 hi) (xx_b1 hj (br_f (by decide) (xx_b1 hi (br_f (by decide) (br_f (fun z => e ((nI_eq (by omega) (by omega)).mp z)) k)))))
theorem xx_as0 {post : Int32 → Prop} {x y : Int32} (h : px_iv x y) (k : post 0) : wpX_areSuccessors post x y := by
  rcases h with h | h | ⟨rfl, i, hi, rfl⟩ | ⟨j, hj, rfl, rfl⟩
  · exact br_c (fun _ => br_f h.2 (xx_b0 h.1 (br_t rfl k))) (fun _ => xx_b0 h.1 (br_t rfl k))
  · refine br_f h.2 ?_
    rcases px_bl x with ⟨j, hj, rfl⟩ | h2
    · exact xx_b1 hj (br_f (by decide) (xx_b0 h.1 (br_t rfl k)))
    · exact xx_b0 h2 (br_t rfl k)
  · exact br_f (px_nm1 hi) (xx_b0 px_om (br_t rfl k))
  · exact br_f (px_nm1 hj) (xx_b1 hj (br_f (by decide) (xx_b1 hj (br_f (by decide) (br_t rfl k)))))
theorem yy_as1 {post : Int32 → SY → Prop} {b : Nat} {x y : Int32} (hb : b < 9) (h : px_va x y) (k : wY_lead_52 post (nI b) x y un f g c) : wpY_lead post (un, f, g, c) (nI b) x y := by
  unfold wpY_lead
  dsimp only
  refine yy_b1 hb (br_f (by decide) ?_)
  rcases h with ⟨rfl, rfl⟩ | ⟨j, hj, rfl, rfl | ⟨i, hi, rfl, e⟩⟩
  · exact br_f (by decide) (br_f (by decide) (br_f (by decide) (br_f (by decide) (br_t rfl (br_t rfl (br_t rfl (br_t rfl k)))))))
  · exact br_f (px_lo hj) (br_f (px_8 hj) (br_f (by decide) (br_f (by decide) (br_f (px_nm1 hj) (br_f (px_nm1 hj) k)))))
  · exact br_f (px_lo hj) (br_f (px_8 hj) (br_f (px_lo hi) (br_f (px_8 hi) (br_f (px_nm1 hj) (br_f (fun z => e ((nI_eq (by omega) (by omega)).mp z)) k)))))
theorem yy_as0 {post : Int32 → SY → Prop} {b : Nat} {x y : Int32} (hb : b < 9) (h : px_iv x y) (k : post (-1) (un, f, g, c)) : wpY_lead post (un, f, g, c) (nI b) x y := by
  unfold wpY_lead
  dsimp only
  refine yy_b1 hb (br_f (by decide) (br_c (fun _ => k) (fun h1 => br_c (fun _ => k) (fun h2 => br_c (fun _ => k) (fun h3 => br_c (fun _ => k) (fun h4 => ?_))))))
  rcases h with h | h | ⟨rfl, i, hi, rfl⟩ | ⟨j, hj, rfl, rfl⟩
  · exact (px_o2n h h1 h2).elim
  · exact (px_o2n h h3 h4).elim
  · exact br_t rfl (br_f (px_nm1 hi) k)
  · exact br_f (px_nm1 hj) (br_t rfl (br_f (px_nm1 hj) k))
/-! the paths found anew -/
theorem xx_find {post : SX → Prop} (k : ∀ ip', px_P f g ip' → post (un, f, g, cd, sb, ip', c)) : wpX_findPaths post (un, f, g, cd, sb, ip, c) := by
  refine ⟨512, px_lp (fun n j => ∀ ip, (∀ s, 1 ≤ s → s ≤ j → ip s = px_i (px_p f g s)) → wX_findPaths_2 post un n (nI (j + 1)) f g cd sb ip c) (fun n ip h => br_t px_512e (k ip (fun s a b => h s a (by omega)))) (fun n j hj H ip h => ?_) ip (fun s a b => by omega)⟩
  refine br_f (px_512t (by omega)) (xx_p (by omega) ⟨vp_in_nI (by omega) (by omega), nm_r (e' := upd ip (j + 1) (px_i (px_p f g (j + 1)))) (by rw [nI_clamp (by omega), px_i_v]) (nm_r (nI_1 _) (H _ (fun s a b => ?_)))⟩)
  by_cases z : s = j + 1
  · rw [z]; exact px_us
  · rw [px_un z]
    exact h s a (by omega)
/-! the counts forgotten -/
def px_z (c : Nat → Int32) (i : Nat) : Nat → Int32 := fun j => if j < i then 0 else c j
theorem px_z_0 {c : Nat → Int32} : px_z c 0 = c := by
  funext j
  exact if_neg (Nat.not_lt_zero j)
theorem px_z_s {c : Nat → Int32} {i : Nat} : upd (px_z c i) i 0 = px_z c (i + 1) := by
  funext j
  by_cases h : j = i
  · have e : px_z c (i + 1) j = 0 := if_pos (by omega)
    rw [e, h]
    exact px_us
  · rw [px_un h]
    unfold px_z
    by_cases h2 : j < i
    · rw [if_pos h2, if_pos (by omega)]
    · rw [if_neg h2, if_neg (by omega)]
theorem xx_forget {post : SX → Prop} (k : post (0, f, g, cd, sb, ip, px_z c 512)) : ∀ d i, i + d = 512 → ∀ n, d < n → wX_forgetCounts_2 post un n (nI i) f g cd sb ip (px_z c i) := by
  intro d
  induction d with
  | zero =>
    intro i hi n hn
    obtain ⟨m, rfl⟩ : ∃ m, n = m + 1 := ⟨n - 1, by omega⟩
    have e : i = 512 := by omega
    rw [e]
    exact br_t px_512e k
  | succ d ih =>
    intro i hi n hn
    obtain ⟨m, rfl⟩ : ∃ m, n = m + 1 := ⟨n - 1, by omega⟩
    refine br_f (px_512t (by omega)) ⟨vp_in_nI (by omega) (by omega), nm_r (e' := px_z c (i + 1)) ?_ (nm_r (nI_1 i) (ih (i + 1) (by omega) m (by omega)))⟩
    rw [nI_clamp (by omega), px_z_s]
theorem yy_forget {post : Int32 → SY → Prop} {x1 x2 x3 x4 : Int32} (k : wY_lead_109 post x1 x2 x3 x4 0 f g (px_z c 512)) : ∀ d i, i + d = 512 → ∀ n, d < n → wY_lead_82 post x1 x2 x3 x4 un n (nI i) f g (px_z c i) := by
  intro d
  induction d with
  | zero =>
    intro i hi n hn
    obtain ⟨m, rfl⟩ : ∃ m, n = m + 1 := ⟨n - 1, by omega⟩
    have e : i = 512 := by omega
    rw [e]
    exact br_t px_512e k
  | succ d ih =>
    intro i hi n hn
    obtain ⟨m, rfl⟩ : ∃ m, n = m + 1 := ⟨n - 1, by omega⟩
    refine br_f (px_512t (by omega)) ⟨vp_in_nI (by omega) (by omega), nm_r (e' := px_z c (i + 1)) ?_ (nm_r (nI_1 i) (ih (i + 1) (by omega) m (by omega)))⟩
    rw [nI_clamp (by omega), px_z_s]
theorem px_ok_u {b : Nat} {x y : Int32} (ok : px_ok f g) (h : px_va x y) : px_ok (upd f b x) (upd g b y) := by
  intro a ha
  by_cases e : a = b
  · rw [e, px_us, px_us]
    rcases h with ⟨rfl, rfl⟩ | ⟨j, hj, rfl, rfl | ⟨i, hi, rfl, e⟩⟩
    · exact ⟨Or.inl rfl, Or.inl rfl⟩
    · exact ⟨Or.inr ⟨j, hj, rfl⟩, Or.inl rfl⟩
    · exact ⟨Or.inr ⟨j, hj, rfl⟩, Or.inr ⟨⟨i, hi, rfl⟩, px_nm1 hj⟩⟩
  · rw [px_un e, px_un e]
    exact ok a ha
theorem xx_new {post : Int32 → SX → Prop} {b : Nat} {x y r : Int32} (hb : b < 9) (k : ∀ ip', px_P (upd f b x) (upd g b y) ip' → post r (0, upd f b x, upd g b y, cd, sb, ip', px_z c 512)) : wX_lead_44 post (nI b) x y r un f g cd sb ip c := by
  have e : (nI b).toNatClampNeg = b := nI_clamp (by omega)
  have hin : vp_in (nI b) 9 := vp_in_nI hb (by omega)
  unfold wX_lead_44
  rw [e]
  refine ⟨hin, nm_e ⟨hin, nm_e (xx_find (fun ip' h => ?_))⟩⟩
  have H := xx_forget (un := un) (f := upd f b x) (g := upd g b y) (cd := cd) (sb := sb) (ip := ip') (c := c) (post := fun u => match u with | (f_unfinishedRuns_28, a_firstOf_29, a_secondOf_30, a_codeOf_31, a_setsByCode_32, a_isPath_33, a_timesGone_34) => post r (f_unfinishedRuns_28, a_firstOf_29, a_secondOf_30, a_codeOf_31, a_setsByCode_32, a_isPath_33, a_timesGone_34)) (k ip' h) 512 0 rfl 513 (by omega)
  rw [px_z_0] at H
  exact ⟨513, H⟩
theorem yy_109 {post : Int32 → SY → Prop} {b : Nat} {x y r : Int32} (hb : b < 9) (k : post r (un, upd f b x, upd g b y, c)) : wY_lead_109 post (nI b) x y r un f g c := by
  have e : (nI b).toNatClampNeg = b := nI_clamp (by omega)
  have hin : vp_in (nI b) 9 := vp_in_nI hb (by omega)
  unfold wY_lead_109
  rw [e]
  exact ⟨hin, nm_e ⟨hin, nm_e k⟩⟩
theorem yy_82 {post : Int32 → SY → Prop} {b : Nat} {x y r : Int32} (hb : b < 9) (k : post r (0, upd f b x, upd g b y, px_z c 512)) : ∃ n, wY_lead_82 post (nI b) x y r un n 0 f g c := by
  have H := yy_forget (un := un) (c := c) (yy_109 hb k) 512 0 rfl 513 (by omega)
  rw [px_z_0] at H
  exact ⟨513, H⟩
theorem i_vc_lead {k : Nat} {u : SX} {v : SY} (I : i_Rel k u v) (hk : k + 4 ≤ 2048) (v1 : Int32) (v2 : Int32) (v3 : Int32) : wpX_lead (fun r u' => wpY_lead (fun r' v' => r' = r ∧ i_Rel (k + 4) u' v') v v1 v2 v3) u v1 v2 v3 := by
  have J : i_Rel (k + 4) u v := I
  obtain ⟨un, f, g, cd, sb, ip, c, rfl, rfl, ok, hC, hS, hP⟩ := I
  unfold wpX_lead
  dsimp only
  rcases px_bl v1 with ⟨b, hb, rfl⟩ | h
  · rcases px_vi v2 v3 with h | h
    · have e : (nI b).toNatClampNeg = b := nI_clamp (by omega)
      have hin : vp_in (nI b) 9 := vp_in_nI hb (by omega)
      rw [e]
      have ok' := px_ok_u (b := b) ok h
      refine xx_b1 hb (br_f (by decide) (xx_as1 h (br_f (by decide) (xx_ns hb ⟨hin, ?_⟩))))
      by_cases h1 : f b = v2
      · refine br_t h1 ⟨hin, ?_⟩
        by_cases h2 : g b = v3
        · refine br_t h2 (yy_as1 hb h (yy_ns ok hb ⟨hin, ?_⟩))
          rw [e]
          refine br_t h1 ⟨hin, br_t h2 (yy_109 hb ?_)⟩
          rw [← h1, ← h2, px_uid, px_uid]
          exact ⟨rfl, J⟩
        · refine br_f h2 (xx_new hb (fun ip' hp => yy_as1 hb h (yy_ns ok hb ⟨hin, ?_⟩)))
          rw [e]
          exact br_t h1 ⟨hin, br_f h2 (yy_82 hb ⟨rfl, 0, _, _, cd, sb, ip', _, rfl, rfl, ok', hC, hS, hp⟩)⟩
      · refine br_f h1 (xx_new hb (fun ip' hp => yy_as1 hb h (yy_ns ok hb ⟨hin, ?_⟩)))
        rw [e]
        exact br_f h1 (yy_82 hb ⟨rfl, 0, _, _, cd, sb, ip', _, rfl, rfl, ok', hC, hS, hp⟩)
    · exact xx_b1 hb (br_f (by decide) (xx_as0 h (br_t rfl (yy_as0 hb h ⟨rfl, J⟩))))
  · refine xx_b0 h (br_t rfl ?_)
    unfold wpY_lead
    dsimp only
    exact yy_b0 h (br_t rfl ⟨rfl, J⟩)
end PXO
