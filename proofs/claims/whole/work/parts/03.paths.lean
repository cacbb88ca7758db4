section PXR
/-! loops' heads -/
theorem px_9t {b : Nat} (h : b < 9) : ¬ (9 : Int32) ≤ nI b := nI_ge (b := 9) h (by decide)
theorem px_9e : (9 : Int32) ≤ nI 9 := by decide
theorem px_511t {b : Nat} (h : b < 511) : ¬ (511 : Int32) ≤ nI b := nI_ge (b := 511) h (by decide)
theorem px_511e : (511 : Int32) ≤ nI 511 := by decide
theorem px_512t {b : Nat} (h : b < 512) : ¬ (512 : Int32) ≤ nI b := nI_ge (b := 512) h (by decide)
theorem px_512e : (512 : Int32) ≤ nI 512 := by decide
theorem px_nm1 {j : Nat} (h : j < 9) : ¬ nI j = -1 := by
  intro e
  have := nI_pos (n := j) (by omega)
  rw [e] at this
  exact this (by decide)
/-! heads, ends, paths over the two successor arrays -/
def px_i (b : Bool) : Int32 := if b = true then 1 else 0
theorem px_i_t : px_i true = 1 := rfl
theorem px_i_f : px_i false = 0 := rfl
theorem px_ib {A B : Prop} (b : Bool) (F : b = false → A) (T : b = true → B) : (px_i b = 0 → A) ∧ (¬ px_i b = 0 → B) := by
  cases b with
  | false => exact ⟨fun _ => F rfl, fun h => absurd rfl h⟩
  | true => exact ⟨fun h => absurd h (by decide), fun _ => T rfl⟩
theorem px_i_v (b : Bool) : vp_nar .boolean (px_i b) = px_i b := by cases b <;> decide
/-- a boolean read from an array -/
theorem px_rd {A B : Prop} {a : Nat → Int32} {s : Nat} (b : Bool) (h : s < 512) (e : a s = px_i b) (F : b = false → A) (T : b = true → B) : (a (nI s).toNatClampNeg = 0 → A) ∧ (¬ a (nI s).toNatClampNeg = 0 → B) := by
  rw [nI_clamp (n := s) (by omega), e]
  exact px_ib b F T
def px_ld (f g : Nat → Int32) (b c : Nat) : Bool := decide (f b = nI c) || decide (g b = nI c)
/-- some block from 9 - n on leads to c -/
def px_hl (f g : Nat → Int32) (c : Nat) : Nat → Bool
  | 0 => false
  | n + 1 => px_ld f g (8 - n) c || px_hl f g c n
def px_hd (f g : Nat → Int32) (c : Nat) : Bool := decide (c = 0) || px_hl f g c (9 - c)
def px_en (f g : Nat → Int32) (b : Nat) : Bool := decide (f b = -1) || (decide (f b ≤ nI b) || (decide (¬ g b = -1) && decide (g b ≤ nI b)))
/-- digits 9 - n and on, the last block seen is l -/
def px_pf (f g : Nat → Int32) (s : Nat) : Nat → Option Nat → Bool
  | 0, none => false
  | 0, some l => px_en f g l
  | n + 1, none => if px_t s (8 - n) = true then px_hd f g (8 - n) && px_pf f g s n (some (8 - n)) else px_pf f g s n none
  | n + 1, some l => if px_t s (8 - n) = true then px_ld f g l (8 - n) && px_pf f g s n (some (8 - n)) else px_pf f g s n (some l)
def px_p (f g : Nat → Int32) (s : Nat) : Bool := px_pf f g s 9 none
def px_l : Option Nat → Int32
  | none => -1
  | some l => nI l
def px_ns (f g : Nat → Int32) (b : Nat) : Int32 := if f b = -1 then 0 else if g b = -1 then 1 else 2
/-- the successor arrays are as lead leaves them -/
def px_ok (f g : Nat → Int32) : Prop := ∀ b, b < 9 → (f b = -1 ∨ ∃ j, j < 9 ∧ f b = nI j) ∧ (g b = -1 ∨ ((∃ j, j < 9 ∧ g b = nI j) ∧ ¬ f b = -1))
theorem px_0 {x : Int32} (h : x = -1 ∨ ∃ j, j < 9 ∧ x = nI j) : 0 ≤ x ↔ ¬ x = -1 := by
  rcases h with h | ⟨j, hj, h⟩
  · rw [h]; decide
  · rw [h]
    exact ⟨fun _ => px_nm1 hj, fun _ => nI_pos' (by omega)⟩
theorem px_ok_f {f g : Nat → Int32} (h : px_ok f g) {b : Nat} (hb : b < 9) : 0 ≤ f b ↔ ¬ f b = -1 := px_0 (h b hb).1
theorem px_ok_g {f g : Nat → Int32} (h : px_ok f g) {b : Nat} (hb : b < 9) : 0 ≤ g b ↔ ¬ g b = -1 := px_0 ((h b hb).2.imp id (fun z => z.1))
theorem px_ok_g1 {f g : Nat → Int32} (h : px_ok f g) {b : Nat} (hb : b < 9) (e : f b = -1) : g b = -1 := (h b hb).2.elim id (fun z => absurd e z.2)
theorem px_hl_s {f g : Nat → Int32} {c d b : Nat} (h : b + (d + 1) = 9) : px_hl f g c (d + 1) = (px_ld f g b c || px_hl f g c d) := by
  have e : 8 - d = b := by omega
  show (px_ld f g (8 - d) c || px_hl f g c d) = _
  rw [e]
theorem px_pf_n {f g : Nat → Int32} {s d b : Nat} (h : b + (d + 1) = 9) : px_pf f g s (d + 1) none = if px_t s b = true then px_hd f g b && px_pf f g s d (some b) else px_pf f g s d none := by
  have e : 8 - d = b := by omega
  show (if px_t s (8 - d) = true then px_hd f g (8 - d) && px_pf f g s d (some (8 - d)) else px_pf f g s d none) = _
  rw [e]
theorem px_pf_s {f g : Nat → Int32} {s d b l : Nat} (h : b + (d + 1) = 9) : px_pf f g s (d + 1) (some l) = if px_t s b = true then px_ld f g l b && px_pf f g s d (some b) else px_pf f g s d (some l) := by
  have e : 8 - d = b := by omega
  show (if px_t s (8 - d) = true then px_ld f g l (8 - d) && px_pf f g s d (some (8 - d)) else px_pf f g s d (some l)) = _
  rw [e]
theorem px_nt {b : Bool} (h : b = false) : ¬ b = true := by rw [h]; decide
end PXR
section PXS
variable {un : Int32} {f g cd sb ip c : Nat → Int32}
/-! X's own methods that only read -/
theorem xx_has {post : Int32 → Prop} {s b : Nat} (hs : s < 512) (hb : b < 9) (k : post (px_i (px_t s b))) : wpX_has post (nI s) (nI b) := by
  unfold wpX_has
  refine px_tb hs hb (fun h => ?_) (fun h => ?_)
  · rw [h] at k; exact k
  · rw [h] at k; exact k
theorem xx_leads {post : Int32 → Prop} {b j : Nat} (hb : b < 9) (k : post (px_i (px_ld f g b j))) : wpX_leadsTo post (un, f, g, cd, sb, ip, c) (nI b) (nI j) := by
  have e : (nI b).toNatClampNeg = b := nI_clamp (by omega)
  unfold wpX_leadsTo
  dsimp only
  rw [e]
  refine ⟨vp_in_nI hb (by omega), ?_⟩
  by_cases h1 : f b = nI j
  · have z : px_ld f g b j = true := by unfold px_ld; rw [decide_eq_true h1]; rfl
    rw [z] at k
    exact br_t h1 k
  · refine br_f h1 ⟨vp_in_nI hb (by omega), ?_⟩
    by_cases h2 : g b = nI j
    · have z : px_ld f g b j = true := by unfold px_ld; rw [decide_eq_true h2, Bool.or_true]
      rw [z] at k
      exact br_t h2 k
    · have z : px_ld f g b j = false := by unfold px_ld; rw [decide_eq_false h1, decide_eq_false h2]; rfl
      rw [z] at k
      exact br_f h2 k
theorem xx_exit {post : Int32 → Prop} {b : Nat} (hb : b < 9) (T : f b = -1 → post 1) (F : ¬ f b = -1 → post 0) : wpX_isExit post (un, f, g, cd, sb, ip, c) (nI b) := by
  have e : (nI b).toNatClampNeg = b := nI_clamp (by omega)
  unfold wpX_isExit
  dsimp only
  rw [e]
  exact ⟨vp_in_nI hb (by omega), T, F⟩
theorem xx_two {post : Int32 → Prop} {b : Nat} (hb : b < 9) (T : g b = -1 → post 0) (F : ¬ g b = -1 → post 1) : wpX_hasTwo post (un, f, g, cd, sb, ip, c) (nI b) := by
  have e : (nI b).toNatClampNeg = b := nI_clamp (by omega)
  unfold wpX_hasTwo
  dsimp only
  rw [e]
  exact ⟨vp_in_nI hb (by omega), T, F⟩
theorem xx_ns {post : Int32 → Prop} {b : Nat} (hb : b < 9) (k : post (px_ns f g b)) : wpX_countSuccessors post (un, f, g, cd, sb, ip, c) (nI b) := by
  unfold wpX_countSuccessors
  dsimp only
  unfold px_ns at k
  refine xx_exit hb (fun h => br_f (by decide) ?_) (fun h => br_t rfl ?_)
  · rw [if_pos h] at k; exact k
  · rw [if_neg h] at k
    refine xx_two hb (fun h2 => br_t rfl ?_) (fun h2 => br_f (by decide) ?_)
    · rw [if_pos h2] at k; exact k
    · rw [if_neg h2] at k; exact k
theorem xx_hl {post : Int32 → Prop} {j : Nat} : ∀ d b, b + d = 9 → ∀ n, d < n → post (px_i (px_hl f g j d)) → wX_isHead_8 post (nI j) un f g cd sb ip c n (nI b) := by
  intro d
  induction d with
  | zero =>
    intro b hb n hn k
    obtain ⟨m, rfl⟩ : ∃ m, n = m + 1 := ⟨n - 1, by omega⟩
    have e : b = 9 := by omega
    rw [e]
    exact br_t px_9e k
  | succ d ih =>
    intro b hb n hn k
    obtain ⟨m, rfl⟩ : ∃ m, n = m + 1 := ⟨n - 1, by omega⟩
    rw [px_hl_s hb] at k
    refine br_f (px_9t (by omega)) (xx_leads (by omega) (px_ib _ (fun h => ?_) (fun h => ?_)))
    · rw [h, Bool.false_or] at k
      exact nm_r (nI_1 b) (ih (b + 1) (by omega) m (by omega) k)
    · rw [h, Bool.true_or] at k
      exact k
theorem xx_head {post : Int32 → Prop} {j : Nat} (hj : j < 9) (k : post (px_i (px_hd f g j))) : wpX_isHead post (un, f, g, cd, sb, ip, c) (nI j) := by
  unfold wpX_isHead
  dsimp only
  unfold px_hd at k
  by_cases h : j = 0
  · rw [decide_eq_true h, Bool.true_or] at k
    exact br_t (by rw [h]; rfl) k
  · rw [decide_eq_false h, Bool.false_or] at k
    exact br_f (nI_ne0 (by omega) (by omega)) ⟨10 - j, xx_hl (9 - j) j (by omega) (10 - j) (by omega) k⟩
theorem xx_end {post : Int32 → Prop} {b : Nat} (hb : b < 9) (k : post (px_i (px_en f g b))) : wpX_isEnd post (un, f, g, cd, sb, ip, c) (nI b) := by
  have e : (nI b).toNatClampNeg = b := nI_clamp (by omega)
  unfold wpX_isEnd
  dsimp only
  rw [e]
  unfold px_en at k
  refine xx_exit hb (fun h => br_f (by decide) ?_) (fun h => br_t rfl ⟨vp_in_nI hb (by omega), ?_⟩)
  · rw [decide_eq_true h, Bool.true_or] at k; exact k
  · rw [decide_eq_false h, Bool.false_or] at k
    by_cases h1 : f b ≤ nI b
    · rw [decide_eq_true h1, Bool.true_or] at k
      exact br_t h1 k
    · rw [decide_eq_false h1, Bool.false_or] at k
      refine br_f h1 (xx_two hb (fun h2 => br_t rfl ?_) (fun h2 => br_f (by decide) ⟨vp_in_nI hb (by omega), ?_⟩))
      · rw [decide_eq_false (fun z => z h2), Bool.false_and] at k; exact k
      · rw [decide_eq_true h2, Bool.true_and] at k
        by_cases h3 : g b ≤ nI b
        · rw [decide_eq_true h3] at k
          exact br_f (Int32.not_lt.mpr h3) k
        · rw [decide_eq_false h3] at k
          exact br_t (Int32.not_le.mp h3) k
theorem xx_fp {post : Int32 → Prop} {s : Nat} (hs : s < 512) : ∀ d b (o : Option Nat), b + d = 9 → (∀ l, o = some l → l < 9) → ∀ n, d < n → post (px_i (px_pf f g s d o)) → wX_formsPath_4 post (nI s) un f g cd sb ip c n (px_l o) (nI b) := by
  intro d
  induction d with
  | zero =>
    intro b o hb ho n hn k
    obtain ⟨m, rfl⟩ : ∃ m, n = m + 1 := ⟨n - 1, by omega⟩
    have e : b = 9 := by omega
    rw [e]
    refine br_t px_9e ?_
    cases o with
    | none => exact br_t rfl k
    | some l =>
      have hl := ho l rfl
      refine br_f (px_nm1 hl) (xx_end hl (px_ib _ (fun h => ?_) (fun h => ?_)))
      · change post (px_i (px_en f g l)) at k
        rw [h] at k; exact k
      · change post (px_i (px_en f g l)) at k
        rw [h] at k; exact k
  | succ d ih =>
    intro b o hb ho n hn k
    obtain ⟨m, rfl⟩ : ∃ m, n = m + 1 := ⟨n - 1, by omega⟩
    have hb9 : b < 9 := by omega
    refine br_f (px_9t hb9) (xx_has hs hb9 (px_ib _ (fun h => ?_) (fun h => ?_)))
    · refine nm_r (nI_1 b) (ih (b + 1) o (by omega) ho m (by omega) ?_)
      cases o with
      | none => rw [px_pf_n hb, if_neg (px_nt h)] at k; exact k
      | some l => rw [px_pf_s hb, if_neg (px_nt h)] at k; exact k
    · cases o with
      | none =>
        rw [px_pf_n hb, if_pos h] at k
        refine br_t rfl (xx_head hb9 (px_ib _ (fun h2 => ?_) (fun h2 => ?_)))
        · rw [h2, Bool.false_and] at k; exact k
        · rw [h2, Bool.true_and] at k
          exact nm_r (nI_1 b) (ih (b + 1) (some b) (by omega) (fun l z => by cases z; exact hb9) m (by omega) k)
      | some l =>
        rw [px_pf_s hb, if_pos h] at k
        have hl := ho l rfl
        refine br_f (px_nm1 hl) (xx_leads hl (px_ib _ (fun h2 => ?_) (fun h2 => ?_)))
        · rw [h2, Bool.false_and] at k; exact k
        · rw [h2, Bool.true_and] at k
          exact nm_r (nI_1 b) (ih (b + 1) (some b) (by omega) (fun l z => by cases z; exact hb9) m (by omega) k)
theorem xx_p {post : Int32 → Prop} {s : Nat} (hs : s < 512) (k : post (px_i (px_p f g s))) : wpX_formsPath post (un, f, g, cd, sb, ip, c) (nI s) := ⟨10, xx_fp hs 9 0 none rfl (fun _ z => nomatch z) 10 (by omega) k⟩
end PXS
section PYS
variable {un : Int32} {f g c : Nat → Int32}
/-! Y's own methods that only read -/
theorem yy_ns {post : Int32 → Prop} {b : Nat} (ok : px_ok f g) (hb : b < 9) (k : post (px_ns f g b)) : wpY_successorsOf post (un, f, g, c) (nI b) := by
  have e : (nI b).toNatClampNeg = b := nI_clamp (by omega)
  unfold wpY_successorsOf
  dsimp only
  rw [e]
  refine ⟨vp_in_nI hb (by omega), ?_⟩
  unfold px_ns at k
  by_cases h : f b = -1
  · rw [if_pos h] at k
    exact br_f (fun z => (px_ok_f ok hb).mp z h) k
  · rw [if_neg h] at k
    refine br_t ((px_ok_f ok hb).mpr h) ⟨vp_in_nI hb (by omega), ?_⟩
    by_cases h2 : g b = -1
    · rw [if_pos h2] at k
      exact br_f (fun z => (px_ok_g ok hb).mp z h2) k
    · rw [if_neg h2] at k
      exact br_t ((px_ok_g ok hb).mpr h2) k
theorem yy_back1 {post : Int32 → Prop} {b : Nat} (ok : px_ok f g) (hb : b < 9) (k : post (px_i (decide (¬ g b = -1) && decide (g b ≤ nI b)))) : wY_isBackFrom_19 post (nI b) un f g c := by
  have e : (nI b).toNatClampNeg = b := nI_clamp (by omega)
  unfold wY_isBackFrom_19
  rw [e]
  refine ⟨vp_in_nI hb (by omega), ?_⟩
  by_cases h2 : g b = -1
  · rw [decide_eq_false (fun z => z h2), Bool.false_and] at k
    exact br_t (Int32.not_le.mp (fun z => (px_ok_g ok hb).mp z h2)) k
  · rw [decide_eq_true h2, Bool.true_and] at k
    refine br_f (Int32.not_lt.mpr ((px_ok_g ok hb).mpr h2)) ⟨vp_in_nI hb (by omega), ?_⟩
    by_cases h3 : g b ≤ nI b
    · rw [decide_eq_true h3] at k
      exact br_f (Int32.not_lt.mpr h3) k
    · rw [decide_eq_false h3] at k
      exact br_t (Int32.not_le.mp h3) k
theorem yy_back {post : Int32 → Prop} {b : Nat} (ok : px_ok f g) (hb : b < 9) (hf : ¬ f b = -1) (k : post (px_i (px_en f g b))) : wpY_isBackFrom post (un, f, g, c) (nI b) := by
  have e : (nI b).toNatClampNeg = b := nI_clamp (by omega)
  unfold wpY_isBackFrom
  dsimp only
  rw [e]
  unfold px_en at k
  rw [decide_eq_false hf, Bool.false_or] at k
  refine ⟨vp_in_nI hb (by omega), br_f (Int32.not_lt.mpr ((px_ok_f ok hb).mpr hf)) ⟨vp_in_nI hb (by omega), ?_⟩⟩
  by_cases h1 : f b ≤ nI b
  · rw [decide_eq_true h1, Bool.true_or] at k
    exact br_t h1 k
  · rw [decide_eq_false h1, Bool.false_or] at k
    exact br_f h1 (yy_back1 ok hb k)
theorem yy_hl {post : Int32 → Prop} {j : Nat} (hj : j < 9) : ∀ d b, b + d = 9 → ∀ n, d < n → post (px_i (px_hl f g j d || decide (j = 0))) → wY_isHead_2 post (nI j) un f g c n (nI b) := by
  intro d
  induction d with
  | zero =>
    intro b hb n hn k
    obtain ⟨m, rfl⟩ : ∃ m, n = m + 1 := ⟨n - 1, by omega⟩
    have e : b = 9 := by omega
    rw [e]
    refine br_t px_9e ?_
    change post (px_i (false || decide (j = 0))) at k
    rw [Bool.false_or] at k
    by_cases h : j = 0
    · rw [decide_eq_true h] at k
      exact br_t (by rw [h]; rfl) k
    · rw [decide_eq_false h] at k
      exact br_f (nI_ne0 (by omega) (by omega)) k
  | succ d ih =>
    intro b hb n hn k
    obtain ⟨m, rfl⟩ : ∃ m, n = m + 1 := ⟨n - 1, by omega⟩
    have e : (nI b).toNatClampNeg = b := nI_clamp (by omega)
    have hb9 : b < 9 := by omega
    rw [px_hl_s hb] at k
    refine br_f (px_9t hb9) ⟨vp_in_nI hb9 (by omega), ?_⟩
    rw [e]
    by_cases h1 : f b = nI j
    · have z : px_ld f g b j = true := by unfold px_ld; rw [decide_eq_true h1]; rfl
      rw [z, Bool.true_or, Bool.true_or] at k
      exact br_t h1 k
    · refine br_f h1 ⟨vp_in_nI hb9 (by omega), ?_⟩
      by_cases h2 : g b = nI j
      · have z : px_ld f g b j = true := by unfold px_ld; rw [decide_eq_true h2, Bool.or_true]
        rw [z, Bool.true_or, Bool.true_or] at k
        exact br_t h2 k
      · have z : px_ld f g b j = false := by unfold px_ld; rw [decide_eq_false h1, decide_eq_false h2]; rfl
        rw [z, Bool.false_or] at k
        exact br_f h2 (nm_r (nI_1 b) (ih (b + 1) (by omega) m (by omega) k))
theorem yy_head {post : Int32 → Prop} {j : Nat} (hj : j < 9) (k : post (px_i (px_hd f g j))) : wpY_isHead post (un, f, g, c) (nI j) := by
  unfold px_hd at k
  rw [Bool.or_comm] at k
  exact ⟨10 - j, yy_hl hj (9 - j) j (by omega) (10 - j) (by omega) k⟩
theorem yy_fp {post : Int32 → Prop} {s : Nat} (ok : px_ok f g) (hs : s < 512) : ∀ d b (o : Option Nat), b + d = 9 → (∀ l, o = some l → l < 9) → ∀ n, d < n → post (px_i (px_pf f g s d o)) → wY_isPath_4 post (nI s) un f g c n (px_l o) (nI b) := by
  intro d
  induction d with
  | zero =>
    intro b o hb ho n hn k
    obtain ⟨m, rfl⟩ : ∃ m, n = m + 1 := ⟨n - 1, by omega⟩
    have e : b = 9 := by omega
    rw [e]
    refine br_t px_9e ?_
    cases o with
    | none => exact br_t (by decide) k
    | some l =>
      have hl := ho l rfl
      change post (px_i (px_en f g l)) at k
      refine br_f (nI_pos (by omega)) (yy_ns ok hl ?_)
      by_cases h : f l = -1
      · have z : px_ns f g l = 0 := if_pos h
        have z2 : px_en f g l = true := by unfold px_en; rw [decide_eq_true h]; rfl
        rw [z2] at k
        exact br_t z k
      · have z : ¬ px_ns f g l = 0 := by
          unfold px_ns
          rw [if_neg h]
          by_cases h2 : g l = -1
          · rw [if_pos h2]; decide
          · rw [if_neg h2]; decide
        refine br_f z (yy_back ok hl h (px_ib _ (fun h3 => ?_) (fun h3 => ?_)))
        · rw [h3] at k; exact k
        · rw [h3] at k; exact k
  | succ d ih =>
    intro b o hb ho n hn k
    obtain ⟨m, rfl⟩ : ∃ m, n = m + 1 := ⟨n - 1, by omega⟩
    have hb9 : b < 9 := by omega
    refine br_f (px_9t hb9) (px_tb hs hb9 (fun h => ?_) (fun h => ?_))
    · cases o with
      | none =>
        rw [px_pf_n hb, if_pos h] at k
        refine br_f (by decide) (yy_head hb9 (px_ib _ (fun h2 => ?_) (fun h2 => ?_)))
        · rw [h2, Bool.false_and] at k; exact k
        · rw [h2, Bool.true_and] at k
          exact nm_r (nI_1 b) (ih (b + 1) (some b) (by omega) (fun l z => by cases z; exact hb9) m (by omega) k)
      | some l =>
        rw [px_pf_s hb, if_pos h] at k
        have hl := ho l rfl
        have K : px_ld f g l b = true → wY_isPath_4 post (nI s) un f g c m (nI b) (nI (b + 1)) := by
          intro z
          rw [z, Bool.true_and] at k
          exact ih (b + 1) (some b) (by omega) (fun l z => by cases z; exact hb9) m (by omega) k
        have e : (px_l (some l)).toNatClampNeg = l := nI_clamp (by omega)
        refine br_t (nI_pos' (by omega)) ⟨vp_in_nI hl (by omega), ?_⟩
        rw [e]
        by_cases h1 : f l = nI b
        · exact br_t h1 (nm_r (nI_1 b) (K (by unfold px_ld; rw [decide_eq_true h1]; rfl)))
        · refine br_f h1 ⟨vp_in_nI hl (by omega), ?_⟩
          by_cases h2 : g l = nI b
          · exact br_t h2 (nm_r (nI_1 b) (K (by unfold px_ld; rw [decide_eq_true h2, Bool.or_true])))
          · have z : px_ld f g l b = false := by unfold px_ld; rw [decide_eq_false h1, decide_eq_false h2]; rfl
            rw [z, Bool.false_and] at k
            exact br_f h2 k
    · refine nm_r (nI_1 b) (ih (b + 1) o (by omega) ho m (by omega) ?_)
      cases o with
      | none => rw [px_pf_n hb, if_neg (px_nt h)] at k; exact k
      | some l => rw [px_pf_s hb, if_neg (px_nt h)] at k; exact k
theorem yy_p {post : Int32 → Prop} {s : Nat} (ok : px_ok f g) (hs : s < 512) (k : post (px_i (px_p f g s))) : wpY_isPath post (un, f, g, c) (nI s) := ⟨10, yy_fp ok hs 9 0 none rfl (fun _ z => nomatch z) 10 (by omega) k⟩
theorem yy_cd4 {post : Int32 → Prop} {s : Nat} (hs : s < 512) (k : post (nI (px_cd s))) : ∀ d b, b + d = 9 → ∀ n, d < n → wY_codeOf_4 post (nI s) un f g c n (nI (px_cf s b)) (nI b) := by
  intro d
  induction d with
  | zero =>
    intro b hb n hn
    obtain ⟨m, rfl⟩ : ∃ m, n = m + 1 := ⟨n - 1, by omega⟩
    have e : b = 9 := by omega
    rw [e]
    exact br_t px_9e k
  | succ d ih =>
    intro b hb n hn
    obtain ⟨m, rfl⟩ : ∃ m, n = m + 1 := ⟨n - 1, by omega⟩
    have hb9 : b < 9 := by omega
    have H := ih (b + 1) (by omega) m (by omega)
    refine br_f (px_9t hb9) (px_tb hs hb9 (fun h => ?_) (fun h => ?_))
    · have e : px_cf s (b + 1) = px_cf s b * 10 + b + 1 := if_pos h
      rw [e] at H
      refine nm_r (e' := nI (px_cf s b * 10 + b + 1)) ?_ (nm_r (nI_1 b) H)
      rw [show (10 : Int32) = nI 10 from rfl, pk_mul, nI_add, nI_1, Nat.mul_comm]
    · have e : px_cf s (b + 1) = px_cf s b := if_neg (px_nt h)
      rw [e] at H
      exact nm_r (nI_1 b) H
theorem yy_cd {post : Int32 → Prop} {s : Nat} (hs : s < 512) (k : post (nI (px_cd s))) : wpY_codeOf post (un, f, g, c) (nI s) := ⟨10, yy_cd4 hs k 9 0 rfl 10 (by omega)⟩
end PYS
