section PXT
theorem px_lp (W : Nat → Nat → Prop) (hx : ∀ n, W (n + 1) 511) (hs : ∀ n j, j < 511 → W n (j + 1) → W (n + 1) j) : W 512 0 := by
  have H : ∀ d j, j + d = 511 → W (d + 1) j := by
    intro d
    induction d with
    | zero =>
      intro j hj
      have e : j = 511 := by omega
      rw [e]; exact hx 0
    | succ d ih => intro j hj; exact hs (d + 1) j (by omega) (ih (j + 1) (by omega))
  exact H 511 0 rfl
theorem px_cn_t {p : Nat → Bool} {j : Nat} (h : p (j + 1) = true) : px_cn p (j + 1) = px_cn p j + 1 := by rw [px_cn_s, if_pos h]
theorem px_cn_f {p : Nat → Bool} {j : Nat} (h : p (j + 1) = false) : px_cn p (j + 1) = px_cn p j := by rw [px_cn_s, if_neg (px_nt h), Nat.add_zero]
/-- sums over sets 1 to n that p takes -/
def px_sm (p : Nat → Bool) (c : Nat → Int32) : Nat → Int32
  | 0 => 0
  | n + 1 => if p (n + 1) = true then px_sm p c n + c (n + 1) else px_sm p c n
theorem px_sm_t {p : Nat → Bool} {c : Nat → Int32} {j : Nat} (h : p (j + 1) = true) : px_sm p c (j + 1) = px_sm p c j + c (j + 1) := if_pos h
theorem px_sm_f {p : Nat → Bool} {c : Nat → Int32} {j : Nat} (h : p (j + 1) = false) : px_sm p c (j + 1) = px_sm p c j := if_neg (px_nt h)
/-- what c holds at the first of the sets 512 - n to 511 that q takes -/
def px_tm (q : Nat → Bool) (c : Nat → Int32) : Nat → Int32
  | 0 => -4
  | d + 1 => if q (511 - d) = true then c (511 - d) else px_tm q c d
theorem px_tm_s {q : Nat → Bool} {c : Nat → Int32} {d s : Nat} (h : s + (d + 1) = 512) : px_tm q c (d + 1) = if q s = true then c s else px_tm q c d := by
  have e : 511 - d = s := by omega
  show (if q (511 - d) = true then c (511 - d) else px_tm q c d) = _
  rw [e]
def px_sf (s : Nat) : Nat → Nat
  | 0 => 0
  | b + 1 => px_sf s b + (if px_t s b = true then 1 else 0)
theorem px_sf_t {s b : Nat} (h : px_t s b = true) : px_sf s (b + 1) = px_sf s b + 1 := by
  show px_sf s b + (if px_t s b = true then 1 else 0) = _
  rw [if_pos h]
theorem px_sf_f {s b : Nat} (h : px_t s b = false) : px_sf s (b + 1) = px_sf s b := by
  show px_sf s b + (if px_t s b = true then 1 else 0) = _
  rw [if_neg (px_nt h), Nat.add_zero]
theorem px_sf_le (s : Nat) : ∀ b, px_sf s b ≤ b := by
  intro b
  induction b with
  | zero => exact Nat.le_refl 0
  | succ b ih =>
    cases h : px_t s b with
    | true => rw [px_sf_t h]; omega
    | false => rw [px_sf_f h]; omega
/-- the greatest size of the sets 1 to n that p takes -/
def px_mx (p : Nat → Bool) : Nat → Nat
  | 0 => 0
  | n + 1 => if p (n + 1) = true ∧ px_mx p n < px_sf (n + 1) 9 then px_sf (n + 1) 9 else px_mx p n
theorem px_mx_t {p : Nat → Bool} {j : Nat} (h : p (j + 1) = true) (h2 : px_mx p j < px_sf (j + 1) 9) : px_mx p (j + 1) = px_sf (j + 1) 9 := if_pos ⟨h, h2⟩
theorem px_mx_f {p : Nat → Bool} {j : Nat} (h : p (j + 1) = false) : px_mx p (j + 1) = px_mx p j := if_neg (fun z => px_nt h z.1)
theorem px_mx_l {p : Nat → Bool} {j : Nat} (h : px_sf (j + 1) 9 ≤ px_mx p j) : px_mx p (j + 1) = px_mx p j := if_neg (fun z => by have := z.2; omega)
theorem px_mx_le (p : Nat → Bool) : ∀ n, px_mx p n ≤ 9 := by
  intro n
  induction n with
  | zero => exact Nat.zero_le _
  | succ n ih =>
    have h9 := px_sf_le (n + 1) 9
    show (if p (n + 1) = true ∧ px_mx p n < px_sf (n + 1) 9 then px_sf (n + 1) 9 else px_mx p n) ≤ 9
    by_cases h : p (n + 1) = true ∧ px_mx p n < px_sf (n + 1) 9
    · rw [if_pos h]; exact h9
    · rw [if_neg h]; exact ih
/-! the relation -/
def px_C (cd : Nat → Int32) : Prop := ∀ s, 1 ≤ s → s < 512 → cd s = nI (px_cd s)
def px_S (sb : Nat → Int32) : Prop := ∃ π : Nat → Nat, px_So π 511 ∧ ∀ i, i < 511 → sb i = nI (π i)
def px_P (f g ip : Nat → Int32) : Prop := ∀ s, 1 ≤ s → s < 512 → ip s = px_i (px_p f g s)
def i_Rel (_ : Nat) (u : SX) (v : SY) : Prop := ∃ (un : Int32) (f g cd sb ip c : Nat → Int32), u = (un, f, g, cd, sb, ip, c) ∧ v = (un, f, g, c) ∧ px_ok f g ∧ px_C cd ∧ px_S sb ∧ px_P f g ip
end PXT
section PXU
variable {un : Int32} {f g cd sb ip c : Nat → Int32}
/-! arguments: a block or none -/
def px_out (x : Int32) : Prop := x < 0 ∨ (¬ x < 0 ∧ 9 ≤ x)
theorem px_bl (x : Int32) : (∃ b, b < 9 ∧ x = nI b) ∨ px_out x := by
  rcases pk_ix x (n := 9) (by decide) with h | h | h
  · exact Or.inr (Or.inl h)
  · by_cases z : x < 0
    · exact Or.inr (Or.inl z)
    · exact Or.inr (Or.inr ⟨z, h⟩)
  · exact Or.inl h
theorem px_98 {x : Int32} (h : 9 ≤ x) : 8 < x := by
  rw [Int32.le_iff_toInt_le] at h
  rw [Int32.lt_iff_toInt_lt]
  have h9 : (9 : Int32).toInt = 9 := by decide
  have h8 : (8 : Int32).toInt = 8 := by decide
  omega
theorem xx_b1 {post : Int32 → Prop} {b : Nat} (hb : b < 9) (k : post 1) : wpX_isBlock post (nI b) := br_f (nI_pos (by omega)) (br_f (px_9t hb) k)
theorem xx_b0 {post : Int32 → Prop} {x : Int32} (h : px_out x) (k : post 0) : wpX_isBlock post x := by
  rcases h with h | ⟨h, h2⟩
  · exact br_t h k
  · exact br_f h (br_t h2 k)
theorem yy_b1 {post : Int32 → Prop} {b : Nat} (hb : b < 9) (k : post 1) : wpY_isBlock post (un, f, g, c) (nI b) := br_f (nI_pos (by omega)) (br_f (nI_nlt (a := 8) (by omega) (by omega)) k)
theorem yy_b0 {post : Int32 → Prop} {x : Int32} (h : px_out x) (k : post 0) : wpY_isBlock post (un, f, g, c) x := by
  rcases h with h | ⟨h, h2⟩
  · exact br_t h k
  · exact br_f h (br_t (px_98 h2) k)
/-! possible -/
theorem xx_possible {post : Int32 → Prop} (hp : px_P f g ip) (k : post (nI (px_cn (px_p f g) 511))) : wpX_possible post (un, f, g, cd, sb, ip, c) := by
  refine ⟨512, px_lp (fun n j => wX_possible_4 post un f g cd sb ip c n (nI (px_cn (px_p f g) j)) (nI (j + 1))) (fun n => br_t px_512e k) (fun n j hj H => ?_)⟩
  refine br_f (px_512t (by omega)) ⟨vp_in_nI (by omega) (by omega), px_rd (px_p f g (j + 1)) (by omega) (hp (j + 1) (by omega) (by omega)) (fun h => ?_) (fun h => ?_)⟩
  · rw [px_cn_f h] at H
    exact nm_r (nI_1 _) H
  · rw [px_cn_t h] at H
    exact nm_r (nI_1 _) (nm_r (nI_1 _) H)
theorem yy_possible {post : Int32 → Prop} (ok : px_ok f g) (k : post (nI (px_cn (px_p f g) 511))) : wpY_possible post (un, f, g, c) := by
  refine ⟨512, px_lp (fun n j => wY_possible_4 post un f g c n (nI (px_cn (px_p f g) j)) (nI (j + 1))) (fun n => br_t px_512e k) (fun n j hj H => ?_)⟩
  refine br_f (px_512t (by omega)) (yy_p ok (by omega) (px_ib (px_p f g (j + 1)) (fun h => ?_) (fun h => ?_)))
  · rw [px_cn_f h] at H
    exact nm_r (nI_1 _) H
  · rw [px_cn_t h] at H
    exact nm_r (nI_1 _) (nm_r (nI_1 _) H)
theorem i_vc_possible {k : Nat} {u : SX} {v : SY} (I : i_Rel k u v) (hk : k + 4 ≤ 2048) : wpX_possible (fun r => wpY_possible (fun r' => r' = r ∧ i_Rel (k + 4) u v) v) u := by
  have J : i_Rel (k + 4) u v := I
  obtain ⟨un, f, g, cd, sb, ip, c, rfl, rfl, ok, hC, hS, hP⟩ := I
  exact xx_possible hP (yy_possible ok ⟨rfl, J⟩)
/-! times -/
theorem xx_times {post : Int32 → Prop} {x : Int32} (hp : px_P f g ip) (hC : px_C cd) : ∀ d s, s + d = 512 → 1 ≤ s → ∀ n, d < n → post (px_tm (fun s => px_p f g s && decide (nI (px_cd s) = x)) c d) → wX_times_2 post x un f g cd sb ip c n (nI s) := by
  intro d
  induction d with
  | zero =>
    intro s hs h1 n hn k
    obtain ⟨m, rfl⟩ : ∃ m, n = m + 1 := ⟨n - 1, by omega⟩
    have e : s = 512 := by omega
    rw [e]
    exact br_t px_512e k
  | succ d ih =>
    intro s hs h1 n hn k
    obtain ⟨m, rfl⟩ : ∃ m, n = m + 1 := ⟨n - 1, by omega⟩
    have e : (nI s).toNatClampNeg = s := nI_clamp (by omega)
    have hin : vp_in (nI s) 512 := vp_in_nI (by omega) (by omega)
    rw [px_tm_s hs] at k
    refine br_f (px_512t (by omega)) ⟨hin, px_rd (px_p f g s) (by omega) (hp s h1 (by omega)) (fun h => ?_) (fun h => ?_)⟩
    · rw [h, Bool.false_and, if_neg (by decide)] at k
      exact nm_r (nI_1 _) (ih (s + 1) (by omega) (by omega) m (by omega) k)
    · refine ⟨hin, ?_⟩
      rw [e, hC s h1 (by omega)]
      by_cases h2 : nI (px_cd s) = x
      · rw [h, decide_eq_true h2, Bool.true_and, if_pos rfl] at k
        exact br_t h2 ⟨hin, k⟩
      · rw [h, decide_eq_false h2, Bool.true_and, if_neg (by decide)] at k
        exact br_f h2 (nm_r (nI_1 _) (ih (s + 1) (by omega) (by omega) m (by omega) k))
theorem yy_times {post : Int32 → Prop} {x : Int32} (ok : px_ok f g) : ∀ d s, s + d = 512 → 1 ≤ s → ∀ n, d < n → post (px_tm (fun s => px_p f g s && decide (nI (px_cd s) = x)) c d) → wY_times_2 post x un f g c n (nI s) := by
  intro d
  induction d with
  | zero =>
    intro s hs h1 n hn k
    obtain ⟨m, rfl⟩ : ∃ m, n = m + 1 := ⟨n - 1, by omega⟩
    have e : s = 512 := by omega
    rw [e]
    exact br_t px_512e k
  | succ d ih =>
    intro s hs h1 n hn k
    obtain ⟨m, rfl⟩ : ∃ m, n = m + 1 := ⟨n - 1, by omega⟩
    have e : (nI s).toNatClampNeg = s := nI_clamp (by omega)
    have hin : vp_in (nI s) 512 := vp_in_nI (by omega) (by omega)
    rw [px_tm_s hs] at k
    refine br_f (px_512t (by omega)) (yy_cd (by omega) ?_)
    by_cases h2 : nI (px_cd s) = x
    · rw [decide_eq_true h2, Bool.and_true] at k
      refine br_t h2 (yy_p ok (by omega) (px_ib (px_p f g s) (fun h => ?_) (fun h => ?_)))
      · rw [h, if_neg (by decide)] at k
        exact nm_r (nI_1 _) (ih (s + 1) (by omega) (by omega) m (by omega) k)
      · rw [h, if_pos rfl] at k
        rw [e]
        exact ⟨hin, k⟩
    · rw [decide_eq_false h2, Bool.and_false, if_neg (by decide)] at k
      exact br_f h2 (nm_r (nI_1 _) (ih (s + 1) (by omega) (by omega) m (by omega) k))
theorem i_vc_times {k : Nat} {u : SX} {v : SY} (I : i_Rel k u v) (hk : k + 4 ≤ 2048) (v1 : Int32) : wpX_times (fun r => wpY_times (fun r' => r' = r ∧ i_Rel (k + 4) u v) v v1) u v1 := by
  have J : i_Rel (k + 4) u v := I
  obtain ⟨un, f, g, cd, sb, ip, c, rfl, rfl, ok, hC, hS, hP⟩ := I
  exact ⟨512, xx_times hP hC 511 1 rfl (by omega) 512 (by omega) ⟨512, yy_times ok 511 1 rfl (by omega) 512 (by omega) ⟨rfl, J⟩⟩⟩
/-! distinct, gone -/
theorem px_di {A B : Prop} {j : Nat} (hj : j < 511) (F : decide (¬ c (j + 1) ≤ 0) = false → A) (T : decide (¬ c (j + 1) ≤ 0) = true → B) : (c (nI (j + 1)).toNatClampNeg ≤ 0 → A) ∧ (¬ c (nI (j + 1)).toNatClampNeg ≤ 0 → B) := by
  rw [nI_clamp (n := j + 1) (by omega)]
  exact ⟨fun h => F (decide_eq_false (fun z => z h)), fun h => T (decide_eq_true h)⟩
theorem xx_distinct {post : Int32 → Prop} (k : post (nI (px_cn (fun s => decide (¬ c s ≤ 0)) 511))) : wpX_distinct post (un, f, g, cd, sb, ip, c) := by
  refine ⟨512, px_lp (fun n j => wX_distinct_4 post un f g cd sb ip c n (nI (px_cn (fun s => decide (¬ c s ≤ 0)) j)) (nI (j + 1))) (fun n => br_t px_512e k) (fun n j hj H => ?_)⟩
  refine br_f (px_512t (by omega)) ⟨vp_in_nI (by omega) (by omega), px_di hj (fun h => ?_) (fun h => ?_)⟩
  · rw [px_cn_f h] at H
    exact nm_r (nI_1 _) H
  · rw [px_cn_t h] at H
    exact nm_r (nI_1 _) (nm_r (nI_1 _) H)
theorem yy_distinct {post : Int32 → Prop} (k : post (nI (px_cn (fun s => decide (¬ c s ≤ 0)) 511))) : wpY_distinct post (un, f, g, c) := by
  refine ⟨512, px_lp (fun n j => wY_distinct_4 post un f g c n (nI (px_cn (fun s => decide (¬ c s ≤ 0)) j)) (nI (j + 1))) (fun n => br_t px_512e k) (fun n j hj H => ?_)⟩
  refine br_f (px_512t (by omega)) ⟨vp_in_nI (by omega) (by omega), px_di hj (fun h => ?_) (fun h => ?_)⟩
  · rw [px_cn_f h] at H
    exact nm_r (nI_1 _) H
  · rw [px_cn_t h] at H
    exact nm_r (nI_1 _) (nm_r (nI_1 _) H)
theorem i_vc_distinct {k : Nat} {u : SX} {v : SY} (I : i_Rel k u v) (hk : k + 4 ≤ 2048) : wpX_distinct (fun r => wpY_distinct (fun r' => r' = r ∧ i_Rel (k + 4) u v) v) u := by
  have J : i_Rel (k + 4) u v := I
  obtain ⟨un, f, g, cd, sb, ip, c, rfl, rfl, ok, hC, hS, hP⟩ := I
  exact xx_distinct (yy_distinct ⟨rfl, J⟩)
theorem px_smc {p : Nat → Bool} {j : Nat} (hj : j < 511) (h : p (j + 1) = true) : px_sm p c j + c (nI (j + 1)).toNatClampNeg = px_sm p c (j + 1) := by
  rw [nI_clamp (n := j + 1) (by omega), px_sm_t h]
theorem xx_gone {post : Int32 → Prop} (k : post (px_sm (fun _ => true) c 511)) : wpX_gone post (un, f, g, cd, sb, ip, c) := by
  refine ⟨512, px_lp (fun n j => wX_gone_4 post un f g cd sb ip c n (px_sm (fun _ => true) c j) (nI (j + 1))) (fun n => br_t px_512e k) (fun n j hj H => ?_)⟩
  exact br_f (px_512t (by omega)) ⟨vp_in_nI (by omega) (by omega), nm_r (px_smc hj rfl) (nm_r (nI_1 _) H)⟩
theorem yy_gone {post : Int32 → Prop} (k : post (px_sm (fun _ => true) c 511)) : wpY_gone post (un, f, g, c) := by
  refine ⟨512, px_lp (fun n j => wY_gone_4 post un f g c n (px_sm (fun _ => true) c j) (nI (j + 1))) (fun n => br_t px_512e k) (fun n j hj H => ?_)⟩
  exact br_f (px_512t (by omega)) ⟨vp_in_nI (by omega) (by omega), nm_r (px_smc hj rfl) (nm_r (nI_1 _) H)⟩
theorem i_vc_gone {k : Nat} {u : SX} {v : SY} (I : i_Rel k u v) (hk : k + 4 ≤ 2048) : wpX_gone (fun r => wpY_gone (fun r' => r' = r ∧ i_Rel (k + 4) u v) v) u := by
  have J : i_Rel (k + 4) u v := I
  obtain ⟨un, f, g, cd, sb, ip, c, rfl, rfl, ok, hC, hS, hP⟩ := I
  exact xx_gone (yy_gone ⟨rfl, J⟩)
/-! successors, unfinished -/
theorem i_vc_successors {k : Nat} {u : SX} {v : SY} (I : i_Rel k u v) (hk : k + 4 ≤ 2048) (v1 : Int32) : wpX_successors (fun r => wpY_successors (fun r' => r' = r ∧ i_Rel (k + 4) u v) v v1) u v1 := by
  have J : i_Rel (k + 4) u v := I
  obtain ⟨un, f, g, cd, sb, ip, c, rfl, rfl, ok, hC, hS, hP⟩ := I
  unfold wpX_successors wpY_successors
  dsimp only
  rcases px_bl v1 with ⟨b, hb, rfl⟩ | h
  · exact xx_b1 hb (br_f (by decide) (xx_ns hb (yy_b1 hb (br_f (by decide) (yy_ns ok hb ⟨rfl, J⟩)))))
  · exact xx_b0 h (br_t rfl (yy_b0 h (br_t rfl ⟨rfl, J⟩)))
theorem i_vc_unfinished {k : Nat} {u : SX} {v : SY} (I : i_Rel k u v) (hk : k + 4 ≤ 2048) : wpX_unfinished (fun r => wpY_unfinished (fun r' => r' = r ∧ i_Rel (k + 4) u v) v) u := by
  have J : i_Rel (k + 4) u v := I
  obtain ⟨un, f, g, cd, sb, ip, c, rfl, rfl, ok, hC, hS, hP⟩ := I
  exact ⟨rfl, J⟩
end PXU
