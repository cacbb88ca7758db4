section PXQ
/-! path: the k-th path by rising code -/
def px_L (p : Nat → Bool) (s : Nat) : Nat := px_cn (fun t => decide (px_cd t < px_cd s) && p t) 511
def px_B (p : Nat → Bool) (π : Nat → Nat) : Nat → Nat
  | 0 => 0
  | i + 1 => px_B p π i + (if p (π i) = true then 1 else 0)
theorem px_B_s (p : Nat → Bool) (π : Nat → Nat) (i : Nat) : px_B p π (i + 1) = px_B p π i + (if p (π i) = true then 1 else 0) := rfl
theorem px_B_le (p : Nat → Bool) (π : Nat → Nat) : ∀ i, px_B p π i ≤ i := by
  intro i
  induction i with
  | zero => exact Nat.le_refl 0
  | succ i ih => rw [px_B_s]; split <;> omega
theorem px_LB {p : Nat → Bool} {π : Nat → Nat} (h : px_So π 511) : ∀ i, i < 511 → px_L p (π i) = px_B p π i := by
  intro i
  induction i with
  | zero =>
    intro _
    refine (px_cn_eq (q := fun _ => false) 511 ?_).trans (px_cn_no 511)
    intro s a b
    obtain ⟨j, hj, e⟩ := h.2.2 s a b
    have n : ¬ px_cd s < px_cd (π 0) := by
      rw [← e]
      rcases Nat.eq_zero_or_pos j with z | z
      · rw [z]; exact Nat.lt_irrefl _
      · have := h.2.1 0 j z hj; omega
    show (decide (px_cd s < px_cd (π 0)) && p s) = false
    rw [decide_eq_false n]; rfl
  | succ i ih =>
    intro hi
    have e := ih (by omega)
    have r := h.1 i (by omega)
    have key : ∀ s, 1 ≤ s → s ≤ 511 → s ≠ π i → (px_cd s < px_cd (π i) ↔ px_cd s < px_cd (π (i + 1))) := by
      intro s a b d
      obtain ⟨j, hj, ej⟩ := h.2.2 s a b
      have o := h.2.1 i (i + 1) (by omega) hi
      constructor
      · intro z; omega
      · intro z
        rcases Nat.lt_trichotomy j i with c | c | c
        · rw [← ej]; exact h.2.1 j i c (by omega)
        · exact absurd (by rw [← ej, c]) d
        · rcases Nat.lt_or_ge (i + 1) j with c2 | c2
          · have := h.2.1 (i + 1) j c2 hj
            rw [ej] at this; omega
          · have : j = i + 1 := by omega
            rw [← ej, this] at z
            exact absurd z (Nat.lt_irrefl _)
    have same : ∀ s, 1 ≤ s → s ≤ 511 → s ≠ π i → (decide (px_cd s < px_cd (π i)) && p s) = (decide (px_cd s < px_cd (π (i + 1))) && p s) := by
      intro s a b d
      rw [decide_eq_decide.mpr (key s a b d)]
    rw [px_B_s, ← e]
    by_cases c : p (π i) = true
    · rw [if_pos c]
      refine px_cn_add (p := fun t => decide (px_cd t < px_cd (π i)) && p t) (q := fun t => decide (px_cd t < px_cd (π (i + 1))) && p t) (t := π i) r.1 ?_ ?_ 511 r.2 same
      · show (decide (px_cd (π i) < px_cd (π i)) && p (π i)) = false
        rw [decide_eq_false (Nat.lt_irrefl _)]; rfl
      · show (decide (px_cd (π i) < px_cd (π (i + 1))) && p (π i)) = true
        rw [decide_eq_true (h.2.1 i (i + 1) (by omega) hi), c]; rfl
    · rw [if_neg c, Nat.add_zero]
      refine px_cn_eq (p := fun t => decide (px_cd t < px_cd (π (i + 1))) && p t) (q := fun t => decide (px_cd t < px_cd (π i)) && p t) 511 ?_
      intro s a b
      by_cases d : s = π i
      · have f : p (π i) = false := by
          cases z : p (π i) with
          | true => exact absurd z c
          | false => rfl
        show (decide (px_cd s < px_cd (π (i + 1))) && p s) = (decide (px_cd s < px_cd (π i)) && p s)
        rw [d, f, Bool.and_false, Bool.and_false]
      · exact (same s a b d).symm
theorem px_L_lt {p : Nat → Bool} {s t : Nat} (a : 1 ≤ s) (b : s ≤ 511) (ps : p s = true) (h : px_cd s < px_cd t) : px_L p s < px_L p t := by
  refine px_cn_lt (t := s) a ?_ ?_ ?_ 511 b
  · show (decide (px_cd s < px_cd s) && p s) = false
    rw [decide_eq_false (Nat.lt_irrefl _)]; rfl
  · show (decide (px_cd s < px_cd t) && p s) = true
    rw [decide_eq_true h, ps]; rfl
  · intro u
    show (decide (px_cd u < px_cd s) && p u) = true → (decide (px_cd u < px_cd t) && p u) = true
    intro z
    rw [Bool.and_eq_true, decide_eq_true_iff] at z ⊢
    exact ⟨Nat.lt_trans z.1 h, z.2⟩
theorem px_L_inj {p : Nat → Bool} {s t : Nat} (a : 1 ≤ s) (b : s ≤ 511) (ps : p s = true) (a' : 1 ≤ t) (b' : t ≤ 511) (pt : p t = true) (h : px_L p s = px_L p t) : s = t := by
  rcases Nat.lt_trichotomy (px_cd s) (px_cd t) with c | c | c
  · have := px_L_lt a b ps c; omega
  · exact px_inj (by omega) (by omega) c
  · have := px_L_lt a' b' pt c; omega
/-- what path(k) must answer -/
def px_kth (p : Nat → Bool) (k r : Int32) : Prop :=
  (∃ s, 1 ≤ s ∧ s ≤ 511 ∧ p s = true ∧ nI (px_L p s) = k ∧ r = nI (px_cd s)) ∨ ((∀ s, 1 ≤ s → s ≤ 511 → p s = true → ¬ nI (px_L p s) = k) ∧ r = -4)
theorem px_kth_u {p : Nat → Bool} {k r r' : Int32} (h : px_kth p k r) (h' : px_kth p k r') : r' = r := by
  rcases h with ⟨s, a, b, ps, e, er⟩ | ⟨n, er⟩
  · rcases h' with ⟨t, a', b', pt, e', er'⟩ | ⟨n', er'⟩
    · have l1 : px_L p s ≤ 511 := px_cn_le _ 511
      have l2 : px_L p t ≤ 511 := px_cn_le _ 511
      have q : px_L p s = px_L p t := (nI_eq (by omega) (by omega)).mp (e.trans e'.symm)
      rw [er, er', px_L_inj a b ps a' b' pt q]
    · exact absurd e (n' s a b ps)
  · rcases h' with ⟨t, a', b', pt, e', er'⟩ | ⟨n', er'⟩
    · exact absurd e' (n t a' b' pt)
    · rw [er, er']

/-! hottest -/
def px_hi (c : Nat → Int32) (D : Nat → Prop) (m r : Int32) : Prop :=
  (m = 0 ∧ r = -4 ∧ ∀ s, D s → ¬ 0 < c s) ∨ ∃ s, D s ∧ m = c s ∧ r = nI (px_cd s) ∧ 0 < c s ∧ ∀ t, D t → c t < c s ∨ (c t = c s ∧ px_cd s ≤ px_cd t)
theorem px_hi_0 {c : Nat → Int32} {D : Nat → Prop} (h : ∀ s, ¬ D s) : px_hi c D 0 (-4) := Or.inl ⟨rfl, rfl, fun s d => absurd d (h s)⟩
/-- a greater count, or the same and a lesser code -/
theorem px_hi_new {c : Nat → Int32} {D D' : Nat → Prop} {m r : Int32} {t : Nat} (h : px_hi c D m r) (hD : ∀ s, D' s → D s ∨ s = t) (ht : D' t) (g : m < c t ∨ (c t = m ∧ 0 < m ∧ ∀ s, D s → r = nI (px_cd s) → m = c s → px_cd t ≤ px_cd s)) : px_hi c D' (c t) (nI (px_cd t)) := by
  right
  rcases h with ⟨em, er, n⟩ | ⟨s, ds, em, er, pos, best⟩
  · rcases g with g | ⟨g1, g2, _⟩
    · rw [em] at g
      refine ⟨t, ht, rfl, rfl, g, fun u du => ?_⟩
      rcases hD u du with d | d
      · left
        have := n u d
        simp only [Int32.lt_iff_toInt_lt] at this g ⊢
        omega
      · right; rw [d]; exact ⟨rfl, Nat.le_refl _⟩
    · rw [em] at g2; exact absurd g2 (by decide)
  · rcases g with g | ⟨g1, g2, g3⟩
    · rw [em] at g
      refine ⟨t, ht, rfl, rfl, ?_, fun u du => ?_⟩
      · simp only [Int32.lt_iff_toInt_lt] at pos g ⊢
        omega
      · rcases hD u du with d | d
        · left
          rcases best u d with b | ⟨b, _⟩
          · simp only [Int32.lt_iff_toInt_lt] at b g ⊢
            omega
          · rw [b]; exact g
        · right; rw [d]; exact ⟨rfl, Nat.le_refl _⟩
    · have l := g3 s ds er em
      rw [em] at g1 g2
      refine ⟨t, ht, rfl, rfl, by rw [g1]; exact g2, fun u du => ?_⟩
      rcases hD u du with d | d
      · rcases best u d with b | ⟨b, b2⟩
        · left; rw [g1]; exact b
        · right; exact ⟨b.trans g1.symm, Nat.le_trans l b2⟩
      · right; rw [d]; exact ⟨rfl, Nat.le_refl _⟩
/-- no greater count, and at the same one no lesser code -/
theorem px_hi_old {c : Nat → Int32} {D D' : Nat → Prop} {m r : Int32} {t : Nat} (h : px_hi c D m r) (hD : ∀ s, D' s → D s ∨ s = t) (hS : ∀ s, D s → D' s) (g : ¬ m < c t) (g2 : c t = m → 0 < m → ∀ s, D s → r = nI (px_cd s) → m = c s → px_cd s ≤ px_cd t) : px_hi c D' m r := by
  rcases h with ⟨em, er, n⟩ | ⟨s, ds, em, er, pos, best⟩
  · left
    refine ⟨em, er, fun u du => ?_⟩
    rcases hD u du with d | d
    · exact n u d
    · rw [d, ← em]; exact g
  · right
    refine ⟨s, hS s ds, em, er, pos, fun u du => ?_⟩
    rcases hD u du with d | d
    · exact best u d
    · rw [d]
      by_cases e : c t = m
      · right; exact ⟨e.trans em, g2 e (by rw [em]; exact pos) s ds er em⟩
      · left
        rw [← em]
        have e2 : ¬ (c t).toInt = m.toInt := fun z => e (Int32.toInt_inj.mp z)
        simp only [Int32.lt_iff_toInt_lt] at g ⊢
        omega
theorem px_hi_u {c : Nat → Int32} {D D' : Nat → Prop} {m r m' r' : Int32} (h : px_hi c D m r) (h' : px_hi c D' m' r') (e : ∀ s, D s ↔ D' s) : r' = r := by
  rcases h with ⟨_, er, n⟩ | ⟨s, ds, _, er, pos, best⟩
  · rcases h' with ⟨_, er', _⟩ | ⟨t, dt, _, _, pos', _⟩
    · rw [er, er']
    · exact absurd pos' (n t ((e t).mpr dt))
  · rcases h' with ⟨_, _, n'⟩ | ⟨t, dt, _, er', pos', best'⟩
    · exact absurd pos (n' s ((e s).mp ds))
    · have l : px_cd s = px_cd t := by
        rcases best t ((e t).mpr dt) with b | ⟨b, b2⟩
        · rcases best' s ((e s).mp ds) with d | ⟨d, d2⟩
          · simp only [Int32.lt_iff_toInt_lt] at b d
            omega
          · rw [d] at b
            exact (Int32.lt_irrefl b).elim
        · rcases best' s ((e s).mp ds) with d | ⟨d, d2⟩
          · rw [b] at d
            exact (Int32.lt_irrefl d).elim
          · omega
      rw [er, er', l]
end PXQ
