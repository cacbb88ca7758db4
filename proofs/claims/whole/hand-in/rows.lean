section
section PXP
theorem pk_sub {a b : Nat} (h : b ≤ a) : nI a - nI b = nI (a - b) := by
  obtain ⟨c, rfl⟩ : ∃ c, a = c + b := ⟨a - b, by omega⟩
  rw [← nI_add, Int32.add_sub_cancel, Nat.add_sub_cancel]
theorem pk_m1 (n : Nat) : nI (n + 1) + (-1) = nI n := by
  rw [← nI_1, Int32.add_assoc, show (1 : Int32) + (-1) = 0 from rfl, Int32.add_zero]
theorem pk_mul (a b : Nat) : nI a * nI b = nI (a * b) := (Int32.ofNat_mul a b).symm
theorem pk_ix (x : Int32) {n : Nat} (hn : n < 2 ^ 31) : x < 0 ∨ nI n ≤ x ∨ ∃ j : Nat, j < n ∧ x = nI j := by
  by_cases h : x < 0
  · exact Or.inl h
  · obtain ⟨j, hj, rfl⟩ := nI_of h
    by_cases h2 : j < n
    · exact Or.inr (Or.inr ⟨j, h2, rfl⟩)
    · exact Or.inr (Or.inl (nI_le (by omega) hj))
theorem pk_le {x y : Int32} {A B : Prop} (a b : Nat) (f : a ≤ b → A) (g : b < a → B) (hx : x = nI a := by rfl) (hy : y = nI b := by rfl) (ha : a < 2 ^ 31 := by omega) (hb : b < 2 ^ 31 := by omega) : (x ≤ y → A) ∧ (¬ x ≤ y → B) := by
  subst hx hy
  rw [nI_leI ha hb]
  exact ⟨f, fun z => g (by omega)⟩
theorem pk_lt {x y : Int32} {A B : Prop} (a b : Nat) (f : a < b → A) (g : b ≤ a → B) (hx : x = nI a := by rfl) (hy : y = nI b := by rfl) (ha : a < 2 ^ 31 := by omega) (hb : b < 2 ^ 31 := by omega) : (x < y → A) ∧ (¬ x < y → B) := by
  subst hx hy
  rw [nI_ltI ha hb]
  exact ⟨f, fun z => g (by omega)⟩
theorem pk_eq {x y : Int32} {A B : Prop} (a b : Nat) (f : a = b → A) (g : a ≠ b → B) (hx : x = nI a := by rfl) (hy : y = nI b := by rfl) (ha : a < 2 ^ 31 := by omega) (hb : b < 2 ^ 31 := by omega) : (x = y → A) ∧ (¬ x = y → B) := by
  subst hx hy
  rw [nI_eq ha hb]
  exact ⟨f, g⟩
theorem pk_in {x : Int32} (n N : Nat) (h : n < N) (hx : x = nI n := by rfl) (hN : N < 2 ^ 31 := by omega) : vp_in x N := by
  subst hx
  exact vp_in_nI h hN
theorem pk_cl {x : Int32} (n : Nat) (hx : x = nI n := by rfl) (h : n < 2 ^ 31 := by omega) : x.toNatClampNeg = n := by
  subst hx
  exact nI_clamp h
theorem pk_tn {n : Nat} (h : n < 2 ^ 32) : (nI n).toBitVec.toNat = n := Nat.mod_eq_of_lt h
theorem pk_and (x : Int32) {m : Int32} (k : Nat) (hm : m.toBitVec.toNat = 2 ^ k - 1) : x &&& m = nI (x.toBitVec.toNat % 2 ^ k) := by
  apply Int32.toBitVec_inj.mp
  apply BitVec.eq_of_toNat_eq
  rw [Int32.toBitVec_and, BitVec.toNat_and, hm, Nat.and_two_pow_sub_one_eq_mod]
  show _ = (BitVec.ofNat 32 _).toNat
  rw [BitVec.toNat_ofNat]
  exact (Nat.mod_eq_of_lt (Nat.lt_of_le_of_lt (Nat.mod_le _ _) x.toBitVec.isLt)).symm
theorem pk_andN {n : Nat} (h : n < 2 ^ 32) {m : Int32} (k : Nat) (hm : m.toBitVec.toNat = 2 ^ k - 1) : nI n &&& m = nI (n % 2 ^ k) := by
  rw [pk_and _ k hm, pk_tn h]
theorem pk_andE (x : Int32) {m : Int32} (k : Nat) (hm : m.toBitVec.toNat = 2 ^ k - 1) : ∃ j : Nat, j < 2 ^ k ∧ x &&& m = nI j := ⟨_, Nat.mod_lt _ (Nat.two_pow_pos k), pk_and x k hm⟩
theorem pk_shl (a s : Int32) (k : Nat) (hs : (s.toBitVec.smod 32).toNat = k) : (a <<< s).toBitVec.toNat = a.toBitVec.toNat * 2 ^ k % 2 ^ 32 := by
  show (a.toBitVec <<< (s.toBitVec.smod 32).toNat).toNat = _
  rw [hs, BitVec.toNat_shiftLeft, Nat.shiftLeft_eq]
theorem pk_shlN {n : Nat} (s : Int32) (k : Nat) (hs : (s.toBitVec.smod 32).toNat = k) (h : n * 2 ^ k < 2 ^ 32) : nI n <<< s = nI (n * 2 ^ k) := by
  apply Int32.toBitVec_inj.mp
  apply BitVec.eq_of_toNat_eq
  have hn : n < 2 ^ 32 := Nat.lt_of_le_of_lt (Nat.le_mul_of_pos_right n (Nat.two_pow_pos k)) h
  rw [pk_shl _ _ k hs, pk_tn hn, pk_tn h, Nat.mod_eq_of_lt h]
theorem pk_shr (a s : Int32) (k : Nat) (hs : (s.toBitVec.smod 32).toNat = k) : (a >>> s).toInt = a.toInt >>> k := by
  show (a.toBitVec.sshiftRight (s.toBitVec.smod 32).toNat).toInt = _
  rw [hs, BitVec.toInt_sshiftRight]
  rfl
theorem pk_shrN {n : Nat} (h : n < 2 ^ 31) (s : Int32) (k : Nat) (hs : (s.toBitVec.smod 32).toNat = k) : nI n >>> s = nI (n / 2 ^ k) := by
  apply Int32.toInt_inj.mp
  have h2 : n / 2 ^ k ≤ n := Nat.div_le_self _ _
  rw [pk_shr _ _ k hs, nI_toInt h, nI_toInt (by omega), Int.shiftRight_eq_div_pow]
  rfl
/-! numbers and bits (wants pk_shrN, pk_andN of kit/rows pasted ahead of it) -/
theorem px_us {f : Nat → Int32} {k : Nat} {x : Int32} : upd f k x k = x := if_pos rfl
theorem px_un {f : Nat → Int32} {k j : Nat} {x : Int32} (h : j ≠ k) : upd f k x j = f j := if_neg h
theorem px_or (a b : Nat) : nI a ||| nI b = nI (a ||| b) := by
  apply Int32.toBitVec_inj.1
  show BitVec.ofNat 32 a ||| BitVec.ofNat 32 b = BitVec.ofNat 32 (a ||| b)
  apply BitVec.eq_of_getLsbD_eq
  intro i hi
  simp [hi]
theorem px_sl : ∀ n, n < 32 → ((nI n &&& 31).toBitVec.smod 32).toNat = n := by decide +kernel
theorem px_bit {s b : Nat} (hs : s < 512) (hb : b < 9) : (nI s >>> (nI b &&& 31)) &&& 1 = nI (s / 2 ^ b % 2) := by
  have h : s / 2 ^ b ≤ s := Nat.div_le_self _ _
  rw [pk_shrN (by omega) _ b (px_sl b (by omega)), pk_andN (by omega) 1 (by decide), Nat.pow_one]
def px_t (s b : Nat) : Bool := decide (s / 2 ^ b % 2 = 1)
theorem px_tb {A B : Prop} {s b : Nat} (hs : s < 512) (hb : b < 9) (T : px_t s b = true → A) (F : px_t s b = false → B) : (((nI s >>> (nI b &&& 31)) &&& 1) = 1 → A) ∧ (¬ ((nI s >>> (nI b &&& 31)) &&& 1) = 1 → B) := by
  rw [px_bit hs hb]
  by_cases h : s / 2 ^ b % 2 = 1
  · rw [h]
    exact br_t rfl (T (decide_eq_true h))
  · rw [(Nat.mod_two_eq_zero_or_one _).resolve_right h]
    exact br_f (by decide) (F (decide_eq_false h))
theorem px_bi {s b : Nat} (hs : s < 512) (hb : b < 9) : (nI s >>> (nI b &&& 31)) &&& 1 = nI (if px_t s b = true then 1 else 0) := by
  rw [px_bit hs hb]
  by_cases h : s / 2 ^ b % 2 = 1
  · have z : px_t s b = true := decide_eq_true h
    rw [h, if_pos z]
  · have z : ¬ px_t s b = true := fun z => h (of_decide_eq_true z)
    rw [(Nat.mod_two_eq_zero_or_one _).resolve_right h, if_neg z]
theorem px_shl : ∀ b, b < 9 → (1 : Int32) <<< (nI b &&& 31) = nI (2 ^ b) := by decide +kernel
theorem px_shl2 : ∀ b, b < 9 → (2 : Int32) <<< (nI b &&& 31) = (1 : Int32) <<< (nI (b + 1) &&& 31) := by decide +kernel
theorem px_pw {b : Nat} (hb : b < 9) : 2 ^ b < 512 := Nat.pow_lt_pow_right (a := 2) (m := b) (n := 9) (by decide) hb
theorem px_orlt {p b : Nat} (hp : p < 512) (hb : b < 9) : p ||| 2 ^ b < 512 := Nat.or_lt_two_pow (n := 9) hp (px_pw hb)

/-! codes -/
def px_cf (s : Nat) : Nat → Nat
  | 0 => 0
  | b + 1 => if px_t s b = true then px_cf s b * 10 + b + 1 else px_cf s b
def px_cd (s : Nat) : Nat := px_cf s 9
def px_dc : Nat → Nat → Nat
  | 0, _ => 0
  | n + 1, c => if c = 0 then 0 else px_dc n (c / 10) + 2 ^ (c % 10 - 1)
theorem px_dc_cd : ∀ s, s < 512 → px_dc 9 (px_cd s) = s := by decide +kernel
theorem px_cd_lt : ∀ s, s < 512 → px_cd s < 2 ^ 31 := by decide +kernel
theorem px_inj {s t : Nat} (hs : s < 512) (ht : t < 512) (h : px_cd s = px_cd t) : s = t := by
  have a := px_dc_cd s hs
  have b := px_dc_cd t ht
  rw [h] at a
  exact a.symm.trans b

/-! counting sets 1 to n -/
def px_cn (p : Nat → Bool) : Nat → Nat
  | 0 => 0
  | n + 1 => px_cn p n + (if p (n + 1) = true then 1 else 0)
theorem px_cn_s (p : Nat → Bool) (n : Nat) : px_cn p (n + 1) = px_cn p n + (if p (n + 1) = true then 1 else 0) := rfl
theorem px_cn_le (p : Nat → Bool) : ∀ n, px_cn p n ≤ n := by
  intro n
  induction n with
  | zero => exact Nat.le_refl 0
  | succ n ih => rw [px_cn_s]; split <;> omega
theorem px_cn_no : ∀ n, px_cn (fun _ => false) n = 0 := by
  intro n
  induction n with
  | zero => rfl
  | succ n ih => rw [px_cn_s, ih]; rfl
theorem px_cn_eq {p q : Nat → Bool} : ∀ n, (∀ s, 1 ≤ s → s ≤ n → p s = q s) → px_cn p n = px_cn q n := by
  intro n
  induction n with
  | zero => intro _; rfl
  | succ n ih =>
    intro h
    rw [px_cn_s, px_cn_s, ih (fun s a b => h s a (by omega)), h (n + 1) (by omega) (by omega)]
theorem px_cn_add {p q : Nat → Bool} {t : Nat} (ht : 1 ≤ t) (hp : p t = false) (hq : q t = true) : ∀ n, t ≤ n → (∀ s, 1 ≤ s → s ≤ n → s ≠ t → p s = q s) → px_cn q n = px_cn p n + 1 := by
  intro n
  induction n with
  | zero => intro h; omega
  | succ n ih =>
    intro h e
    rw [px_cn_s, px_cn_s]
    by_cases c : t = n + 1
    · rw [← c, hp, hq, px_cn_eq n (fun s a b => (e s a (by omega) (by omega)).symm)]
      rfl
    · rw [ih (by omega) (fun s a b d => e s a (by omega) d), e (n + 1) (by omega) (by omega) (by omega)]
      omega
theorem px_cn_mono {p q : Nat → Bool} (h : ∀ s, p s = true → q s = true) : ∀ n, px_cn p n ≤ px_cn q n := by
  intro n
  induction n with
  | zero => exact Nat.le_refl 0
  | succ n ih =>
    rw [px_cn_s, px_cn_s]
    by_cases c : p (n + 1) = true
    · rw [if_pos c, if_pos (h _ c)]; omega
    · rw [if_neg c]; omega
theorem px_cn_lt {p q : Nat → Bool} {t : Nat} (ht : 1 ≤ t) (hp : p t = false) (hq : q t = true) (h : ∀ s, p s = true → q s = true) : ∀ n, t ≤ n → px_cn p n < px_cn q n := by
  intro n
  induction n with
  | zero => intro h; omega
  | succ n ih =>
    intro hn
    rw [px_cn_s, px_cn_s]
    by_cases c : t = n + 1
    · have m := px_cn_mono h n
      rw [← c, hp, hq, if_pos rfl, if_neg (by decide)]
      omega
    · have m := ih (by omega)
      by_cases d : p (n + 1) = true
      · rw [if_pos d, if_pos (h _ d)]; omega
      · rw [if_neg d]; omega

/-! the sets by rising code -/
def px_So (π : Nat → Nat) (m : Nat) : Prop := (∀ i, i < m → 1 ≤ π i ∧ π i ≤ m) ∧ (∀ i j, i < j → j < m → px_cd (π i) < px_cd (π j)) ∧ (∀ s, 1 ≤ s → s ≤ m → ∃ i, i < m ∧ π i = s)
def px_pt (π : Nat → Nat) (p v : Nat) : Nat → Nat := fun i => if i < p then π i else if i = p then v else π (i - 1)
theorem px_pt_lo {π : Nat → Nat} {p v i : Nat} (h : i < p) : px_pt π p v i = π i := if_pos h
theorem px_pt_at {π : Nat → Nat} {p v : Nat} : px_pt π p v p = v := by
  unfold px_pt; rw [if_neg (by omega), if_pos rfl]
theorem px_pt_hi {π : Nat → Nat} {p v i : Nat} (h : p < i) : px_pt π p v i = π (i - 1) := by
  unfold px_pt; rw [if_neg (by omega), if_neg (by omega)]
theorem px_So_in {π : Nat → Nat} {m p : Nat} (h : px_So π m) (hp : p ≤ m) (hi : ∀ i, p ≤ i → i < m → px_cd (m + 1) < px_cd (π i)) (lo : p = 0 ∨ px_cd (π (p - 1)) < px_cd (m + 1)) : px_So (px_pt π p (m + 1)) (m + 1) := by
  obtain ⟨h1, h2, h3⟩ := h
  refine ⟨?_, ?_, ?_⟩
  · intro i hi'
    rcases Nat.lt_trichotomy i p with c | c | c
    · rw [px_pt_lo c]; have := h1 i (by omega); omega
    · rw [c, px_pt_at]; omega
    · rw [px_pt_hi c]; have := h1 (i - 1) (by omega); omega
  · intro i j hij hj
    rcases Nat.lt_trichotomy j p with c | c | c
    · rw [px_pt_lo c, px_pt_lo (by omega)]; exact h2 i j hij (by omega)
    · rw [c, px_pt_at, px_pt_lo (by omega)]
      rcases lo with z | z
      · omega
      · rcases Nat.lt_or_ge i (p - 1) with d | d
        · exact Nat.lt_trans (h2 i (p - 1) d (by omega)) z
        · have : i = p - 1 := by omega
          rw [this]; exact z
    · rw [px_pt_hi c]
      rcases Nat.lt_trichotomy i p with d | d | d
      · rw [px_pt_lo d]; exact h2 i (j - 1) (by omega) (by omega)
      · rw [d, px_pt_at]; exact hi (j - 1) (by omega) (by omega)
      · rw [px_pt_hi d]; exact h2 (i - 1) (j - 1) (by omega) (by omega)
  · intro s a b
    by_cases c : s = m + 1
    · exact ⟨p, by omega, by rw [px_pt_at, c]⟩
    · obtain ⟨i, hi', e⟩ := h3 s a (by omega)
      rcases Nat.lt_or_ge i p with d | d
      · exact ⟨i, by omega, by rw [px_pt_lo d, e]⟩
      · exact ⟨i + 1, by omega, by rw [px_pt_hi (by omega)]; exact e⟩
end PXP
end
section
section PXQ
/-! path: the k-th path by rising code -/
def px_L (p : Nat → Bool) (s : Nat) : Nat := px_cn (fun t => decide (px_cd t < px_cd s) && p t) 511
def px_B (p : Nat → Bool) (π : Nat → Nat) : Nat → Nat
  | 0 => 0
  | i + 1 => px_B p π i + (if p (π i) = true then 1 else 0)
theorem px_B_s (p : Nat → Bool) (π : Nat → Nat) (i : Nat) : px_B p π (i + 1) = px_B p π i + (if p (π i) = true then 1 else 0) := rfl
theorem px_B_le (p : Nat → Bool) (π : Nat → Nat) : ∀ i, px_B p π i ≤ i := by
  intro i
  induction i with
  | zero => exact Nat.le_refl 0
  | succ i ih => rw [px_B_s]; split <;> omega
theorem px_LB {p : Nat → Bool} {π : Nat → Nat} (h : px_So π 511) : ∀ i, i < 511 → px_L p (π i) = px_B p π i := by
  intro i
  induction i with
  | zero =>
    intro _
    refine (px_cn_eq (q := fun _ => false) 511 ?_).trans (px_cn_no 511)
    intro s a b
    obtain ⟨j, hj, e⟩ := h.2.2 s a b
    have n : ¬ px_cd s < px_cd (π 0) := by
      rw [← e]
      rcases Nat.eq_zero_or_pos j with z | z
      · rw [z]; exact Nat.lt_irrefl _
      · have := h.2.1 0 j z hj; omega
    show (decide (px_cd s < px_cd (π 0)) && p s) = false
    rw [decide_eq_false n]; rfl
  | succ i ih =>
    intro hi
    have e := ih (by omega)
    have r := h.1 i (by omega)
    have key : ∀ s, 1 ≤ s → s ≤ 511 → s ≠ π i → (px_cd s < px_cd (π i) ↔ px_cd s < px_cd (π (i + 1))) := by
      intro s a b d
      obtain ⟨j, hj, ej⟩ := h.2.2 s a b
      have o := h.2.1 i (i + 1) (by omega) hi
      constructor
      · intro z; omega
      · intro z
        rcases Nat.lt_trichotomy j i with c | c | c
        · rw [← ej]; exact h.2.1 j i c (by omega)
        · exact absurd (by rw [← ej, c]) d
        · rcases Nat.lt_or_ge (i + 1) j with c2 | c2
          · have := h.2.1 (i + 1) j c2 hj
            rw [ej] at this; omega
          · have : j = i + 1 := by omega
            rw [← ej, this] at z
            exact absurd z (Nat.lt_irrefl _)
    have same : ∀ s, 1 ≤ s → s ≤ 511 → s ≠ π i → (decide (px_cd s < px_cd (π i)) && p s) = (decide (px_cd s < px_cd (π (i + 1))) && p s) := by
      intro s a b d
      rw [decide_eq_decide.mpr (key s a b d)]
    rw [px_B_s, ← e]
    by_cases c : p (π i) = true
    · rw [if_pos c]
      refine px_cn_add (p := fun t => decide (px_cd t < px_cd (π i)) && p t) (q := fun t => decide (px_cd t < px_cd (π (i + 1))) && p t) (t := π i) r.1 ?_ ?_ 511 r.2 same
      · show (decide (px_cd (π i) < px_cd (π i)) && p (π i)) = false
        rw [decide_eq_false (Nat.lt_irrefl _)]; rfl
      · show (decide (px_cd (π i) < px_cd (π (i + 1))) && p (π i)) = true
        rw [decide_eq_true (h.2.1 i (i + 1) (by omega) hi), c]; rfl
    · rw [if_neg c, Nat.add_zero]
      refine px_cn_eq (p := fun t => decide (px_cd t < px_cd (π (i + 1))) && p t) (q := fun t => decide (px_cd t < px_cd (π i)) && p t) 511 ?_
      intro s a b
      by_cases d : s = π i
      · have f : p (π i) = false := by
          cases z : p (π i) with
          | true => exact absurd z c
          | false => rfl
        show (decide (px_cd s < px_cd (π (i + 1))) && p s) = (decide (px_cd s < px_cd (π i)) && p s)
        rw [d, f, Bool.and_false, Bool.and_false]
      · exact (same s a b d).symm
theorem px_L_lt {p : Nat → Bool} {s t : Nat} (a : 1 ≤ s) (b : s ≤ 511) (ps : p s = true) (h : px_cd s < px_cd t) : px_L p s < px_L p t := by
  refine px_cn_lt (t := s) a ?_ ?_ ?_ 511 b
  · show (decide (px_cd s < px_cd s) && p s) = false
    rw [decide_eq_false (Nat.lt_irrefl _)]; rfl
  · show (decide (px_cd s < px_cd t) && p s) = true
    rw [decide_eq_true h, ps]; rfl
  · intro u
    show (decide (px_cd u < px_cd s) && p u) = true → (decide (px_cd u < px_cd t) && p u) = true
    intro z
    rw [Bool.and_eq_true, decide_eq_true_iff] at z ⊢
    exact ⟨Nat.lt_trans z.1 h, z.2⟩
theorem px_L_inj {p : Nat → Bool} {s t : Nat} (a : 1 ≤ s) (b : s ≤ 511) (ps : p s = true) (a' : 1 ≤ t) (b' : t ≤ 511) (pt : p t = true) (h : px_L p s = px_L p t) : s = t := by
  rcases Nat.lt_trichotomy (px_cd s) (px_cd t) with c | c | c
  · have := px_L_lt a b ps c; omega
  · exact px_inj (by omega) (by omega) c
  · have := px_L_lt a' b' pt c; omega
/-- what path(k) must answer -/
def px_kth (p : Nat → Bool) (k r : Int32) : Prop :=
  (∃ s, 1 ≤ s ∧ s ≤ 511 ∧ p s = true ∧ nI (px_L p s) = k ∧ r = nI (px_cd s)) ∨ ((∀ s, 1 ≤ s → s ≤ 511 → p s = true → ¬ nI (px_L p s) = k) ∧ r = -4)
theorem px_kth_u {p : Nat → Bool} {k r r' : Int32} (h : px_kth p k r) (h' : px_kth p k r') : r' = r := by
  rcases h with ⟨s, a, b, ps, e, er⟩ | ⟨n, er⟩
  · rcases h' with ⟨t, a', b', pt, e', er'⟩ | ⟨n', er'⟩
    · have l1 : px_L p s ≤ 511 := px_cn_le _ 511
      have l2 : px_L p t ≤ 511 := px_cn_le _ 511
      have q : px_L p s = px_L p t := (nI_eq (by omega) (by omega)).mp (e.trans e'.symm)
      rw [er, er', px_L_inj a b ps a' b' pt q]
    · exact absurd e (n' s a b ps)
  · rcases h' with ⟨t, a', b', pt, e', er'⟩ | ⟨n', er'⟩
    · exact absurd e' (n t a' b' pt)
    · rw [er, er']

/-! hottest -/
def px_hi (c : Nat → Int32) (D : Nat → Prop) (m r : Int32) : Prop :=
  (m = 0 ∧ r = -4 ∧ ∀ s, D s → ¬ 0 < c s) ∨ ∃ s, D s ∧ m = c s ∧ r = nI (px_cd s) ∧ 0 < c s ∧ ∀ t, D t → c t < c s ∨ (c t = c s ∧ px_cd s ≤ px_cd t)
theorem px_hi_0 {c : Nat → Int32} {D : Nat → Prop} (h : ∀ s, ¬ D s) : px_hi c D 0 (-4) := Or.inl ⟨rfl, rfl, fun s d => absurd d (h s)⟩
/-- a greater count, or the same and a lesser code -/
theorem px_hi_new {c : Nat → Int32} {D D' : Nat → Prop} {m r : Int32} {t : Nat} (h : px_hi c D m r) (hD : ∀ s, D' s → D s ∨ s = t) (ht : D' t) (g : m < c t ∨ (c t = m ∧ 0 < m ∧ ∀ s, D s → r = nI (px_cd s) → m = c s → px_cd t ≤ px_cd s)) : px_hi c D' (c t) (nI (px_cd t)) := by
  right
  rcases h with ⟨em, er, n⟩ | ⟨s, ds, em, er, pos, best⟩
  · rcases g with g | ⟨g1, g2, _⟩
    · rw [em] at g
      refine ⟨t, ht, rfl, rfl, g, fun u du => ?_⟩
      rcases hD u du with d | d
      · left
        have := n u d
        simp only [Int32.lt_iff_toInt_lt] at this g ⊢
        omega
      · right; rw [d]; exact ⟨rfl, Nat.le_refl _⟩
    · rw [em] at g2; exact absurd g2 (by decide)
  · rcases g with g | ⟨g1, g2, g3⟩
    · rw [em] at g
      refine ⟨t, ht, rfl, rfl, ?_, fun u du => ?_⟩
      · simp only [Int32.lt_iff_toInt_lt] at pos g ⊢
        omega
      · rcases hD u du with d | d
        · left
          rcases best u d with b | ⟨b, _⟩
          · simp only [Int32.lt_iff_toInt_lt] at b g ⊢
            omega
          · rw [b]; exact g
        · right; rw [d]; exact ⟨rfl, Nat.le_refl _⟩
    · have l := g3 s ds er em
      rw [em] at g1 g2
      refine ⟨t, ht, rfl, rfl, by rw [g1]; exact g2, fun u du => ?_⟩
      rcases hD u du with d | d
      · rcases best u d with b | ⟨b, b2⟩
        · left; rw [g1]; exact b
        · right; exact ⟨b.trans g1.symm, Nat.le_trans l b2⟩
      · right; rw [d]; exact ⟨rfl, Nat.le_refl _⟩
/-- no greater count, and at the same one no lesser code -/
theorem px_hi_old {c : Nat → Int32} {D D' : Nat → Prop} {m r : Int32} {t : Nat} (h : px_hi c D m r) (hD : ∀ s, D' s → D s ∨ s = t) (hS : ∀ s, D s → D' s) (g : ¬ m < c t) (g2 : c t = m → 0 < m → ∀ s, D s → r = nI (px_cd s) → m = c s → px_cd s ≤ px_cd t) : px_hi c D' m r := by
  rcases h with ⟨em, er, n⟩ | ⟨s, ds, em, er, pos, best⟩
  · left
    refine ⟨em, er, fun u du => ?_⟩
    rcases hD u du with d | d
    · exact n u d
    · rw [d, ← em]; exact g
  · right
    refine ⟨s, hS s ds, em, er, pos, fun u du => ?_⟩
    rcases hD u du with d | d
    · exact best u d
    · rw [d]
      by_cases e : c t = m
      · right; exact ⟨e.trans em, g2 e (by rw [em]; exact pos) s ds er em⟩
      · left
        rw [← em]
        have e2 : ¬ (c t).toInt = m.toInt := fun z => e (Int32.toInt_inj.mp z)
        simp only [Int32.lt_iff_toInt_lt] at g ⊢
        omega
theorem px_hi_u {c : Nat → Int32} {D D' : Nat → Prop} {m r m' r' : Int32} (h : px_hi c D m r) (h' : px_hi c D' m' r') (e : ∀ s, D s ↔ D' s) : r' = r := by
  rcases h with ⟨_, er, n⟩ | ⟨s, ds, _, er, pos, best⟩
  · rcases h' with ⟨_, er', _⟩ | ⟨t, dt, _, _, pos', _⟩
    · rw [er, er']
    · exact absurd pos' (n t ((e t).mpr dt))
  · rcases h' with ⟨_, _, n'⟩ | ⟨t, dt, _, er', pos', best'⟩
    · exact absurd pos (n' s ((e s).mp ds))
    · have l : px_cd s = px_cd t := by
        rcases best t ((e t).mpr dt) with b | ⟨b, b2⟩
        · rcases best' s ((e s).mp ds) with d | ⟨d, d2⟩
          · simp only [Int32.lt_iff_toInt_lt] at b d
            omega
          · rw [d] at b
            exact (Int32.lt_irrefl b).elim
        · rcases best' s ((e s).mp ds) with d | ⟨d, d2⟩
          · rw [b] at d
            exact (Int32.lt_irrefl d).elim
          · omega
      rw [er, er', l]
end PXQ
end
section
section PXR
/-! loops' heads -/
theorem px_9t {b : Nat} (h : b < 9) : ¬ (9 : Int32) ≤ nI b := nI_ge (b := 9) h (by decide)
theorem px_9e : (9 : Int32) ≤ nI 9 := by decide
theorem px_511t {b : Nat} (h : b < 511) : ¬ (511 : Int32) ≤ nI b := nI_ge (b := 511) h (by decide)
theorem px_511e : (511 : Int32) ≤ nI 511 := by decide
theorem px_512t {b : Nat} (h : b < 512) : ¬ (512 : Int32) ≤ nI b := nI_ge (b := 512) h (by decide)
theorem px_512e : (512 : Int32) ≤ nI 512 := by decide
theorem px_nm1 {j : Nat} (h : j < 9) : ¬ nI j = -1 := by
  intro e
  have := nI_pos (n := j) (by omega)
  rw [e] at this
  exact this (by decide)
/-! heads, ends, paths over the two successor arrays -/
def px_i (b : Bool) : Int32 := if b = true then 1 else 0
theorem px_i_t : px_i true = 1 := rfl
theorem px_i_f : px_i false = 0 := rfl
theorem px_ib {A B : Prop} (b : Bool) (F : b = false → A) (T : b = true → B) : (px_i b = 0 → A) ∧ (¬ px_i b = 0 → B) := by
  cases b with
  | false => exact ⟨fun _ => F rfl, fun h => absurd rfl h⟩
  | true => exact ⟨fun h => absurd h (by decide), fun _ => T rfl⟩
theorem px_i_v (b : Bool) : vp_nar .boolean (px_i b) = px_i b := by cases b <;> decide
/-- a boolean read from an array -/
theorem px_rd {A B : Prop} {a : Nat → Int32} {s : Nat} (b : Bool) (h : s < 512) (e : a s = px_i b) (F : b = false → A) (T : b = true → B) : (a (nI s).toNatClampNeg = 0 → A) ∧ (¬ a (nI s).toNatClampNeg = 0 → B) := by
  rw [nI_clamp (n := s) (by omega), e]
  exact px_ib b F T
def px_ld (f g : Nat → Int32) (b c : Nat) : Bool := decide (f b = nI c) || decide (g b = nI c)
/-- some block from 9 - n on leads to c -/
def px_hl (f g : Nat → Int32) (c : Nat) : Nat → Bool
  | 0 => false
  | n + 1 => px_ld f g (8 - n) c || px_hl f g c n
def px_hd (f g : Nat → Int32) (c : Nat) : Bool := decide (c = 0) || px_hl f g c (9 - c)
def px_en (f g : Nat → Int32) (b : Nat) : Bool := decide (f b = -1) || (decide (f b ≤ nI b) || (decide (¬ g b = -1) && decide (g b ≤ nI b)))
/-- digits 9 - n and on, the last block seen is l -/
def px_pf (f g : Nat → Int32) (s : Nat) : Nat → Option Nat → Bool
  | 0, none => false
  | 0, some l => px_en f g l
  | n + 1, none => if px_t s (8 - n) = true then px_hd f g (8 - n) && px_pf f g s n (some (8 - n)) else px_pf f g s n none
  | n + 1, some l => if px_t s (8 - n) = true then px_ld f g l (8 - n) && px_pf f g s n (some (8 - n)) else px_pf f g s n (some l)
def px_p (f g : Nat → Int32) (s : Nat) : Bool := px_pf f g s 9 none
def px_l : Option Nat → Int32
  | none => -1
  | some l => nI l
def px_ns (f g : Nat → Int32) (b : Nat) : Int32 := if f b = -1 then 0 else if g b = -1 then 1 else 2
/-- the successor arrays are as lead leaves them -/
def px_ok (f g : Nat → Int32) : Prop := ∀ b, b < 9 → (f b = -1 ∨ ∃ j, j < 9 ∧ f b = nI j) ∧ (g b = -1 ∨ ((∃ j, j < 9 ∧ g b = nI j) ∧ ¬ f b = -1))
theorem px_0 {x : Int32} (h : x = -1 ∨ ∃ j, j < 9 ∧ x = nI j) : 0 ≤ x ↔ ¬ x = -1 := by
  rcases h with h | ⟨j, hj, h⟩
  · rw [h]; decide
  · rw [h]
    exact ⟨fun _ => px_nm1 hj, fun _ => nI_pos' (by omega)⟩
theorem px_ok_f {f g : Nat → Int32} (h : px_ok f g) {b : Nat} (hb : b < 9) : 0 ≤ f b ↔ ¬ f b = -1 := px_0 (h b hb).1
theorem px_ok_g {f g : Nat → Int32} (h : px_ok f g) {b : Nat} (hb : b < 9) : 0 ≤ g b ↔ ¬ g b = -1 := px_0 ((h b hb).2.imp id (fun z => z.1))
theorem px_ok_g1 {f g : Nat → Int32} (h : px_ok f g) {b : Nat} (hb : b < 9) (e : f b = -1) : g b = -1 := (h b hb).2.elim id (fun z => absurd e z.2)
theorem px_hl_s {f g : Nat → Int32} {c d b : Nat} (h : b + (d + 1) = 9) : px_hl f g c (d + 1) = (px_ld f g b c || px_hl f g c d) := by
  have e : 8 - d = b := by omega
  show (px_ld f g (8 - d) c || px_hl f g c d) = _
  rw [e]
theorem px_pf_n {f g : Nat → Int32} {s d b : Nat} (h : b + (d + 1) = 9) : px_pf f g s (d + 1) none = if px_t s b = true then px_hd f g b && px_pf f g s d (some b) else px_pf f g s d none := by
  have e : 8 - d = b := by omega
  show (if px_t s (8 - d) = true then px_hd f g (8 - d) && px_pf f g s d (some (8 - d)) else px_pf f g s d none) = _
  rw [e]
theorem px_pf_s {f g : Nat → Int32} {s d b l : Nat} (h : b + (d + 1) = 9) : px_pf f g s (d + 1) (some l) = if px_t s b = true then px_ld f g l b && px_pf f g s d (some b) else px_pf f g s d (some l) := by
  have e : 8 - d = b := by omega
  show (if px_t s (8 - d) = true then px_ld f g l (8 - d) && px_pf f g s d (some (8 - d)) else px_pf f g s d (some l)) = _
  rw [e]
theorem px_nt {b : Bool} (h : b = false) : ¬ b = true := by rw [h]; decide
end PXR
section PXS
variable {un : Int32} {f g cd sb ip c : Nat → Int32}
/-! X's own methods that only read -/
theorem xx_has {post : Int32 → Prop} {s b : Nat} (hs : s < 512) (hb : b < 9) (k : post (px_i (px_t s b))) : wpX_has post (nI s) (nI b) := by
  unfold wpX_has
  refine px_tb hs hb (fun h => ?_) (fun h => ?_)
  · rw [h] at k; exact k
  · rw [h] at k; exact k
theorem xx_leads {post : Int32 → Prop} {b j : Nat} (hb : b < 9) (k : post (px_i (px_ld f g b j))) : wpX_leadsTo post (un, f, g, cd, sb, ip, c) (nI b) (nI j) := by
  have e : (nI b).toNatClampNeg = b := nI_clamp (by omega)
  unfold wpX_leadsTo
  dsimp only
  rw [e]
  refine ⟨vp_in_nI hb (by omega), ?_⟩
  by_cases h1 : f b = nI j
  · have z : px_ld f g b j = true := by unfold px_ld; rw [decide_eq_true h1]; rfl
    rw [z] at k
    exact br_t h1 k
  · refine br_f h1 ⟨vp_in_nI hb (by omega), ?_⟩
    by_cases h2 : g b = nI j
    · have z : px_ld f g b j = true := by unfold px_ld; rw [decide_eq_true h2, Bool.or_true]
      rw [z] at k
      exact br_t h2 k
    · have z : px_ld f g b j = false := by unfold px_ld; rw [decide_eq_false h1, decide_eq_false h2]; rfl
      rw [z] at k
      exact br_f h2 k
theorem xx_exit {post : Int32 → Prop} {b : Nat} (hb : b < 9) (T : f b = -1 → post 1) (F : ¬ f b = -1 → post 0) : wpX_isExit post (un, f, g, cd, sb, ip, c) (nI b) := by
  have e : (nI b).toNatClampNeg = b := nI_clamp (by omega)
  unfold wpX_isExit
  dsimp only
  rw [e]
  exact ⟨vp_in_nI hb (by omega), T, F⟩
theorem xx_two {post : Int32 → Prop} {b : Nat} (hb : b < 9) (T : g b = -1 → post 0) (F : ¬ g b = -1 → post 1) : wpX_hasTwo post (un, f, g, cd, sb, ip, c) (nI b) := by
  have e : (nI b).toNatClampNeg = b := nI_clamp (by omega)
  unfold wpX_hasTwo
  dsimp only
  rw [e]
  exact ⟨vp_in_nI hb (by omega), T, F⟩
theorem xx_ns {post : Int32 → Prop} {b : Nat} (hb : b < 9) (k : post (px_ns f g b)) : wpX_countSuccessors post (un, f, g, cd, sb, ip, c) (nI b) := by
  unfold wpX_countSuccessors
  dsimp only
  unfold px_ns at k
  refine xx_exit hb (fun h => br_f (by decide) ?_) (fun h => br_t rfl ?_)
  · rw [if_pos h] at k; exact k
  · rw [if_neg h] at k
    refine xx_two hb (fun h2 => br_t rfl ?_) (fun h2 => br_f (by decide) ?_)
    · rw [if_pos h2] at k; exact k
    · rw [if_neg h2] at k; exact k
theorem xx_hl {post : Int32 → Prop} {j : Nat} : ∀ d b, b + d = 9 → ∀ n, d < n → post (px_i (px_hl f g j d)) → wX_isHead_8 post (nI j) un f g cd sb ip c n (nI b) := by
  intro d
  induction d with
  | zero =>
    intro b hb n hn k
    obtain ⟨m, rfl⟩ : ∃ m, n = m + 1 := ⟨n - 1, by omega⟩
    have e : b = 9 := by omega
    rw [e]
    exact br_t px_9e k
  | succ d ih =>
    intro b hb n hn k
    obtain ⟨m, rfl⟩ : ∃ m, n = m + 1 := ⟨n - 1, by omega⟩
    rw [px_hl_s hb] at k
    refine br_f (px_9t (by omega)) (xx_leads (by omega) (px_ib _ (fun h => ?_) (fun h => ?_)))
    · rw [h, Bool.false_or] at k
      exact nm_r (nI_1 b) (ih (b + 1) (by omega) m (by omega) k)
    · rw [h, Bool.true_or] at k
      exact k
theorem xx_head {post : Int32 → Prop} {j : Nat} (hj : j < 9) (k : post (px_i (px_hd f g j))) : wpX_isHead post (un, f, g, cd, sb, ip, c) (nI j) := by
  unfold wpX_isHead
  dsimp only
  unfold px_hd at k
  by_cases h : j = 0
  · rw [decide_eq_true h, Bool.true_or] at k
    exact br_t (by rw [h]; rfl) k
  · rw [decide_eq_false h, Bool.false_or] at k
    exact br_f (nI_ne0 (by omega) (by omega)) ⟨10 - j, xx_hl (9 - j) j (by omega) (10 - j) (by omega) k⟩
theorem xx_end {post : Int32 → Prop} {b : Nat} (hb : b < 9) (k : post (px_i (px_en f g b))) : wpX_isEnd post (un, f, g, cd, sb, ip, c) (nI b) := by
  have e : (nI b).toNatClampNeg = b := nI_clamp (by omega)
  unfold wpX_isEnd
  dsimp only
  rw [e]
  unfold px_en at k
  refine xx_exit hb (fun h => br_f (by decide) ?_) (fun h => br_t rfl ⟨vp_in_nI hb (by omega), ?_⟩)
  · rw [decide_eq_true h, Bool.true_or] at k; exact k
  · rw [decide_eq_false h, Bool.false_or] at k
    by_cases h1 : f b ≤ nI b
    · rw [decide_eq_true h1, Bool.true_or] at k
      exact br_t h1 k
    · rw [decide_eq_false h1, Bool.false_or] at k
      refine br_f h1 (xx_two hb (fun h2 => br_t rfl ?_) (fun h2 => br_f (by decide) ⟨vp_in_nI hb (by omega), ?_⟩))
      · rw [decide_eq_false (fun z => z h2), Bool.false_and] at k; exact k
      · rw [decide_eq_true h2, Bool.true_and] at k
        by_cases h3 : g b ≤ nI b
        · rw [decide_eq_true h3] at k
          exact br_f (Int32.not_lt.mpr h3) k
        · rw [decide_eq_false h3] at k
          exact br_t (Int32.not_le.mp h3) k
theorem xx_fp {post : Int32 → Prop} {s : Nat} (hs : s < 512) : ∀ d b (o : Option Nat), b + d = 9 → (∀ l, o = some l → l < 9) → ∀ n, d < n → post (px_i (px_pf f g s d o)) → wX_formsPath_4 post (nI s) un f g cd sb ip c n (px_l o) (nI b) := by
  intro d
  induction d with
  | zero =>
    intro b o hb ho n hn k
    obtain ⟨m, rfl⟩ : ∃ m, n = m + 1 := ⟨n - 1, by omega⟩
    have e : b = 9 := by omega
    rw [e]
    refine br_t px_9e ?_
    cases o with
    | none => exact br_t rfl k
    | some l =>
      have hl := ho l rfl
      refine br_f (px_nm1 hl) (xx_end hl (px_ib _ (fun h => ?_) (fun h => ?_)))
      · change post (px_i (px_en f g l)) at k
        rw [h] at k; exact k
      · change post (px_i (px_en f g l)) at k
        rw [h] at k; exact k
  | succ d ih =>
    intro b o hb ho n hn k
    obtain ⟨m, rfl⟩ : ∃ m, n = m + 1 := ⟨n - 1, by omega⟩
    have hb9 : b < 9 := by omega
    refine br_f (px_9t hb9) (xx_has hs hb9 (px_ib _ (fun h => ?_) (fun h => ?_)))
    · refine nm_r (nI_1 b) (ih (b + 1) o (by omega) ho m (by omega) ?_)
      cases o with
      | none => rw [px_pf_n hb, if_neg (px_nt h)] at k; exact k
      | some l => rw [px_pf_s hb, if_neg (px_nt h)] at k; exact k
    · cases o with
      | none =>
        rw [px_pf_n hb, if_pos h] at k
        refine br_t rfl (xx_head hb9 (px_ib _ (fun h2 => ?_) (fun h2 => ?_)))
        · rw [h2, Bool.false_and] at k; exact k
        · rw [h2, Bool.true_and] at k
          exact nm_r (nI_1 b) (ih (b + 1) (some b) (by omega) (fun l z => by cases z; exact hb9) m (by omega) k)
      | some l =>
        rw [px_pf_s hb, if_pos h] at k
        have hl := ho l rfl
        refine br_f (px_nm1 hl) (xx_leads hl (px_ib _ (fun h2 => ?_) (fun h2 => ?_)))
        · rw [h2, Bool.false_and] at k; exact k
        · rw [h2, Bool.true_and] at k
          exact nm_r (nI_1 b) (ih (b + 1) (some b) (by omega) (fun l z => by cases z; exact hb9) m (by omega) k)
theorem xx_p {post : Int32 → Prop} {s : Nat} (hs : s < 512) (k : post (px_i (px_p f g s))) : wpX_formsPath post (un, f, g, cd, sb, ip, c) (nI s) := ⟨10, xx_fp hs 9 0 none rfl (fun _ z => nomatch z) 10 (by omega) k⟩
end PXS
section PYS
variable {un : Int32} {f g c : Nat → Int32}
/-! Y's own methods that only read -/
theorem yy_ns {post : Int32 → Prop} {b : Nat} (ok : px_ok f g) (hb : b < 9) (k : post (px_ns f g b)) : wpY_successorsOf post (un, f, g, c) (nI b) := by
  have e : (nI b).toNatClampNeg = b := nI_clamp (by omega)
  unfold wpY_successorsOf
  dsimp only
  rw [e]
  refine ⟨vp_in_nI hb (by omega), ?_⟩
  unfold px_ns at k
  by_cases h : f b = -1
  · rw [if_pos h] at k
    exact br_f (fun z => (px_ok_f ok hb).mp z h) k
  · rw [if_neg h] at k
    refine br_t ((px_ok_f ok hb).mpr h) ⟨vp_in_nI hb (by omega), ?_⟩
    by_cases h2 : g b = -1
    · rw [if_pos h2] at k
      exact br_f (fun z => (px_ok_g ok hb).mp z h2) k
    · rw [if_neg h2] at k
      exact br_t ((px_ok_g ok hb).mpr h2) k
theorem yy_back1 {post : Int32 → Prop} {b : Nat} (ok : px_ok f g) (hb : b < 9) (k : post (px_i (decide (¬ g b = -1) && decide (g b ≤ nI b)))) : wY_isBackFrom_19 post (nI b) un f g c := by
  have e : (nI b).toNatClampNeg = b := nI_clamp (by omega)
  unfold wY_isBackFrom_19
  rw [e]
  refine ⟨vp_in_nI hb (by omega), ?_⟩
  by_cases h2 : g b = -1
  · rw [decide_eq_false (fun z => z h2), Bool.false_and] at k
    exact br_t (Int32.not_le.mp (fun z => (px_ok_g ok hb).mp z h2)) k
  · rw [decide_eq_true h2, Bool.true_and] at k
    refine br_f (Int32.not_lt.mpr ((px_ok_g ok hb).mpr h2)) ⟨vp_in_nI hb (by omega), ?_⟩
    by_cases h3 : g b ≤ nI b
    · rw [decide_eq_true h3] at k
      exact br_f (Int32.not_lt.mpr h3) k
    · rw [decide_eq_false h3] at k
      exact br_t (Int32.not_le.mp h3) k
theorem yy_back {post : Int32 → Prop} {b : Nat} (ok : px_ok f g) (hb : b < 9) (hf : ¬ f b = -1) (k : post (px_i (px_en f g b))) : wpY_isBackFrom post (un, f, g, c) (nI b) := by
  have e : (nI b).toNatClampNeg = b := nI_clamp (by omega)
  unfold wpY_isBackFrom
  dsimp only
  rw [e]
  unfold px_en at k
  rw [decide_eq_false hf, Bool.false_or] at k
  refine ⟨vp_in_nI hb (by omega), br_f (Int32.not_lt.mpr ((px_ok_f ok hb).mpr hf)) ⟨vp_in_nI hb (by omega), ?_⟩⟩
  by_cases h1 : f b ≤ nI b
  · rw [decide_eq_true h1, Bool.true_or] at k
    exact br_t h1 k
  · rw [decide_eq_false h1, Bool.false_or] at k
    exact br_f h1 (yy_back1 ok hb k)
theorem yy_hl {post : Int32 → Prop} {j : Nat} (hj : j < 9) : ∀ d b, b + d = 9 → ∀ n, d < n → post (px_i (px_hl f g j d || decide (j = 0))) → wY_isHead_2 post (nI j) un f g c n (nI b) := by
  intro d
  induction d with
  | zero =>
    intro b hb n hn k
    obtain ⟨m, rfl⟩ : ∃ m, n = m + 1 := ⟨n - 1, by omega⟩
    have e : b = 9 := by omega
    rw [e]
    refine br_t px_9e ?_
    change post (px_i (false || decide (j = 0))) at k
    rw [Bool.false_or] at k
    by_cases h : j = 0
    · rw [decide_eq_true h] at k
      exact br_t (by rw [h]; rfl) k
    · rw [decide_eq_false h] at k
      exact br_f (nI_ne0 (by omega) (by omega)) k
  | succ d ih =>
    intro b hb n hn k
    obtain ⟨m, rfl⟩ : ∃ m, n = m + 1 := ⟨n - 1, by omega⟩
    have e : (nI b).toNatClampNeg = b := nI_clamp (by omega)
    have hb9 : b < 9 := by omega
    rw [px_hl_s hb] at k
    refine br_f (px_9t hb9) ⟨vp_in_nI hb9 (by omega), ?_⟩
    rw [e]
    by_cases h1 : f b = nI j
    · have z : px_ld f g b j = true := by unfold px_ld; rw [decide_eq_true h1]; rfl
      rw [z, Bool.true_or, Bool.true_or] at k
      exact br_t h1 k
    · refine br_f h1 ⟨vp_in_nI hb9 (by omega), ?_⟩
      by_cases h2 : g b = nI j
      · have z : px_ld f g b j = true := by unfold px_ld; rw [decide_eq_true h2, Bool.or_true]
        rw [z, Bool.true_or, Bool.true_or] at k
        exact br_t h2 k
      · have z : px_ld f g b j = false := by unfold px_ld; rw [decide_eq_false h1, decide_eq_false h2]; rfl
        rw [z, Bool.false_or] at k
        exact br_f h2 (nm_r (nI_1 b) (ih (b + 1) (by omega) m (by omega) k))
theorem yy_head {post : Int32 → Prop} {j : Nat} (hj : j < 9) (k : post (px_i (px_hd f g j))) : wpY_isHead post (un, f, g, c) (nI j) := by
  unfold px_hd at k
  rw [Bool.or_comm] at k
  exact ⟨10 - j, yy_hl hj (9 - j) j (by omega) (10 - j) (by omega) k⟩
theorem yy_fp {post : Int32 → Prop} {s : Nat} (ok : px_ok f g) (hs : s < 512) : ∀ d b (o : Option Nat), b + d = 9 → (∀ l, o = some l → l < 9) → ∀ n, d < n → post (px_i (px_pf f g s d o)) → wY_isPath_4 post (nI s) un f g c n (px_l o) (nI b) := by
  intro d
  induction d with
  | zero =>
    intro b o hb ho n hn k
    obtain ⟨m, rfl⟩ : ∃ m, n = m + 1 := ⟨n - 1, by omega⟩
    have e : b = 9 := by omega
    rw [e]
    refine br_t px_9e ?_
    cases o with
    | none => exact br_t (by decide) k
    | some l =>
      have hl := ho l rfl
      change post (px_i (px_en f g l)) at k
      refine br_f (nI_pos (by omega)) (yy_ns ok hl ?_)
      by_cases h : f l = -1
      · have z : px_ns f g l = 0 := if_pos h
        have z2 : px_en f g l = true := by unfold px_en; rw [decide_eq_true h]; rfl
        rw [z2] at k
        exact br_t z k
      · have z : ¬ px_ns f g l = 0 := by
          unfold px_ns
          rw [if_neg h]
          by_cases h2 : g l = -1
          · rw [if_pos h2]; decide
          · rw [if_neg h2]; decide
        refine br_f z (yy_back ok hl h (px_ib _ (fun h3 => ?_) (fun h3 => ?_)))
        · rw [h3] at k; exact k
        · rw [h3] at k; exact k
  | succ d ih =>
    intro b o hb ho n hn k
    obtain ⟨m, rfl⟩ : ∃ m, n = m + 1 := ⟨n - 1, by omega⟩
    have hb9 : b < 9 := by omega
    refine br_f (px_9t hb9) (px_tb hs hb9 (fun h => ?_) (fun h => ?_))
    · cases o with
      | none =>
        rw [px_pf_n hb, if_pos h] at k
        refine br_f (by decide) (yy_head hb9 (px_ib _ (fun h2 => ?_) (fun h2 => ?_)))
        · rw [h2, Bool.false_and] at k; exact k
        · rw [h2, Bool.true_and] at k
          exact nm_r (nI_1 b) (ih (b + 1) (some b) (by omega) (fun l z => by cases z; exact hb9) m (by omega) k)
      | some l =>
        rw [px_pf_s hb, if_pos h] at k
        have hl := ho l rfl
        have K : px_ld f g l b = true → wY_isPath_4 post (nI s) un f g c m (nI b) (nI (b + 1)) := by
          intro z
          rw [z, Bool.true_and] at k
          exact ih (b + 1) (some b) (by omega) (fun l z => by cases z; exact hb9) m (by omega) k
        have e : (px_l (some l)).toNatClampNeg = l := nI_clamp (by omega)
        refine br_t (nI_pos' (by omega)) ⟨vp_in_nI hl (by omega), ?_⟩
        rw [e]
        by_cases h1 : f l = nI b
        · exact br_t h1 (nm_r (nI_1 b) (K (by unfold px_ld; rw [decide_eq_true h1]; rfl)))
        · refine br_f h1 ⟨vp_in_nI hl (by omega), ?_⟩
          by_cases h2 : g l = nI b
          · exact br_t h2 (nm_r (nI_1 b) (K (by unfold px_ld; rw [decide_eq_true h2, Bool.or_true])))
          · have z : px_ld f g l b = false := by unfold px_ld; rw [decide_eq_false h1, decide_eq_false h2]; rfl
            rw [z, Bool.false_and] at k
            exact br_f h2 k
    · refine nm_r (nI_1 b) (ih (b + 1) o (by omega) ho m (by omega) ?_)
      cases o with
      | none => rw [px_pf_n hb, if_neg (px_nt h)] at k; exact k
      | some l => rw [px_pf_s hb, if_neg (px_nt h)] at k; exact k
theorem yy_p {post : Int32 → Prop} {s : Nat} (ok : px_ok f g) (hs : s < 512) (k : post (px_i (px_p f g s))) : wpY_isPath post (un, f, g, c) (nI s) := ⟨10, yy_fp ok hs 9 0 none rfl (fun _ z => nomatch z) 10 (by omega) k⟩
theorem yy_cd4 {post : Int32 → Prop} {s : Nat} (hs : s < 512) (k : post (nI (px_cd s))) : ∀ d b, b + d = 9 → ∀ n, d < n → wY_codeOf_4 post (nI s) un f g c n (nI (px_cf s b)) (nI b) := by
  intro d
  induction d with
  | zero =>
    intro b hb n hn
    obtain ⟨m, rfl⟩ : ∃ m, n = m + 1 := ⟨n - 1, by omega⟩
    have e : b = 9 := by omega
    rw [e]
    exact br_t px_9e k
  | succ d ih =>
    intro b hb n hn
    obtain ⟨m, rfl⟩ : ∃ m, n = m + 1 := ⟨n - 1, by omega⟩
    have hb9 : b < 9 := by omega
    have H := ih (b + 1) (by omega) m (by omega)
    refine br_f (px_9t hb9) (px_tb hs hb9 (fun h => ?_) (fun h => ?_))
    · have e : px_cf s (b + 1) = px_cf s b * 10 + b + 1 := if_pos h
      rw [e] at H
      refine nm_r (e' := nI (px_cf s b * 10 + b + 1)) ?_ (nm_r (nI_1 b) H)
      rw [show (10 : Int32) = nI 10 from rfl, pk_mul, nI_add, nI_1, Nat.mul_comm]
    · have e : px_cf s (b + 1) = px_cf s b := if_neg (px_nt h)
      rw [e] at H
      exact nm_r (nI_1 b) H
theorem yy_cd {post : Int32 → Prop} {s : Nat} (hs : s < 512) (k : post (nI (px_cd s))) : wpY_codeOf post (un, f, g, c) (nI s) := ⟨10, yy_cd4 hs k 9 0 rfl 10 (by omega)⟩
end PYS
end
section
section PXT
theorem px_lp (W : Nat → Nat → Prop) (hx : ∀ n, W (n + 1) 511) (hs : ∀ n j, j < 511 → W n (j + 1) → W (n + 1) j) : W 512 0 := by
  have H : ∀ d j, j + d = 511 → W (d + 1) j := by
    intro d
    induction d with
    | zero =>
      intro j hj
      have e : j = 511 := by omega
      rw [e]; exact hx 0
    | succ d ih => intro j hj; exact hs (d + 1) j (by omega) (ih (j + 1) (by omega))
  exact H 511 0 rfl
theorem px_cn_t {p : Nat → Bool} {j : Nat} (h : p (j + 1) = true) : px_cn p (j + 1) = px_cn p j + 1 := by rw [px_cn_s, if_pos h]
theorem px_cn_f {p : Nat → Bool} {j : Nat} (h : p (j + 1) = false) : px_cn p (j + 1) = px_cn p j := by rw [px_cn_s, if_neg (px_nt h), Nat.add_zero]
/-- sums over sets 1 to n that p takes -/
def px_sm (p : Nat → Bool) (c : Nat → Int32) : Nat → Int32
  | 0 => 0
  | n + 1 => if p (n + 1) = true then px_sm p c n + c (n + 1) else px_sm p c n
theorem px_sm_t {p : Nat → Bool} {c : Nat → Int32} {j : Nat} (h : p (j + 1) = true) : px_sm p c (j + 1) = px_sm p c j + c (j + 1) := if_pos h
theorem px_sm_f {p : Nat → Bool} {c : Nat → Int32} {j : Nat} (h : p (j + 1) = false) : px_sm p c (j + 1) = px_sm p c j := if_neg (px_nt h)
/-- what c holds at the first of the sets 512 - n to 511 that q takes -/
def px_tm (q : Nat → Bool) (c : Nat → Int32) : Nat → Int32
  | 0 => -4
  | d + 1 => if q (511 - d) = true then c (511 - d) else px_tm q c d
theorem px_tm_s {q : Nat → Bool} {c : Nat → Int32} {d s : Nat} (h : s + (d + 1) = 512) : px_tm q c (d + 1) = if q s = true then c s else px_tm q c d := by
  have e : 511 - d = s := by omega
  show (if q (511 - d) = true then c (511 - d) else px_tm q c d) = _
  rw [e]
def px_sf (s : Nat) : Nat → Nat
  | 0 => 0
  | b + 1 => px_sf s b + (if px_t s b = true then 1 else 0)
theorem px_sf_t {s b : Nat} (h : px_t s b = true) : px_sf s (b + 1) = px_sf s b + 1 := by
  show px_sf s b + (if px_t s b = true then 1 else 0) = _
  rw [if_pos h]
theorem px_sf_f {s b : Nat} (h : px_t s b = false) : px_sf s (b + 1) = px_sf s b := by
  show px_sf s b + (if px_t s b = true then 1 else 0) = _
  rw [if_neg (px_nt h), Nat.add_zero]
theorem px_sf_le (s : Nat) : ∀ b, px_sf s b ≤ b := by
  intro b
  induction b with
  | zero => exact Nat.le_refl 0
  | succ b ih =>
    cases h : px_t s b with
    | true => rw [px_sf_t h]; omega
    | false => rw [px_sf_f h]; omega
/-- the greatest size of the sets 1 to n that p takes -/
def px_mx (p : Nat → Bool) : Nat → Nat
  | 0 => 0
  | n + 1 => if p (n + 1) = true ∧ px_mx p n < px_sf (n + 1) 9 then px_sf (n + 1) 9 else px_mx p n
theorem px_mx_t {p : Nat → Bool} {j : Nat} (h : p (j + 1) = true) (h2 : px_mx p j < px_sf (j + 1) 9) : px_mx p (j + 1) = px_sf (j + 1) 9 := if_pos ⟨h, h2⟩
theorem px_mx_f {p : Nat → Bool} {j : Nat} (h : p (j + 1) = false) : px_mx p (j + 1) = px_mx p j := if_neg (fun z => px_nt h z.1)
theorem px_mx_l {p : Nat → Bool} {j : Nat} (h : px_sf (j + 1) 9 ≤ px_mx p j) : px_mx p (j + 1) = px_mx p j := if_neg (fun z => by have := z.2; omega)
theorem px_mx_le (p : Nat → Bool) : ∀ n, px_mx p n ≤ 9 := by
  intro n
  induction n with
  | zero => exact Nat.zero_le _
  | succ n ih =>
    have h9 := px_sf_le (n + 1) 9
    show (if p (n + 1) = true ∧ px_mx p n < px_sf (n + 1) 9 then px_sf (n + 1) 9 else px_mx p n) ≤ 9
    by_cases h : p (n + 1) = true ∧ px_mx p n < px_sf (n + 1) 9
    · rw [if_pos h]; exact h9
    · rw [if_neg h]; exact ih
/-! the relation -/
def px_C (cd : Nat → Int32) : Prop := ∀ s, 1 ≤ s → s < 512 → cd s = nI (px_cd s)
def px_S (sb : Nat → Int32) : Prop := ∃ π : Nat → Nat, px_So π 511 ∧ ∀ i, i < 511 → sb i = nI (π i)
def px_P (f g ip : Nat → Int32) : Prop := ∀ s, 1 ≤ s → s < 512 → ip s = px_i (px_p f g s)
def i_Rel (_ : Nat) (u : SX) (v : SY) : Prop := ∃ (un : Int32) (f g cd sb ip c : Nat → Int32), u = (un, f, g, cd, sb, ip, c) ∧ v = (un, f, g, c) ∧ px_ok f g ∧ px_C cd ∧ px_S sb ∧ px_P f g ip
end PXT
section PXU
variable {un : Int32} {f g cd sb ip c : Nat → Int32}
/-! arguments: a block or none -/
def px_out (x : Int32) : Prop := x < 0 ∨ (¬ x < 0 ∧ 9 ≤ x)
theorem px_bl (x : Int32) : (∃ b, b < 9 ∧ x = nI b) ∨ px_out x := by
  rcases pk_ix x (n := 9) (by decide) with h | h | h
  · exact Or.inr (Or.inl h)
  · by_cases z : x < 0
    · exact Or.inr (Or.inl z)
    · exact Or.inr (Or.inr ⟨z, h⟩)
  · exact Or.inl h
theorem px_98 {x : Int32} (h : 9 ≤ x) : 8 < x := by
  rw [Int32.le_iff_toInt_le] at h
  rw [Int32.lt_iff_toInt_lt]
  have h9 : (9 : Int32).toInt = 9 := by decide
  have h8 : (8 : Int32).toInt = 8 := by decide
  omega
theorem xx_b1 {post : Int32 → Prop} {b : Nat} (hb : b < 9) (k : post 1) : wpX_isBlock post (nI b) := br_f (nI_pos (by omega)) (br_f (px_9t hb) k)
theorem xx_b0 {post : Int32 → Prop} {x : Int32} (h : px_out x) (k : post 0) : wpX_isBlock post x := by
  rcases h with h | ⟨h, h2⟩
  · exact br_t h k
  · exact br_f h (br_t h2 k)
theorem yy_b1 {post : Int32 → Prop} {b : Nat} (hb : b < 9) (k : post 1) : wpY_isBlock post (un, f, g, c) (nI b) := br_f (nI_pos (by omega)) (br_f (nI_nlt (a := 8) (by omega) (by omega)) k)
theorem yy_b0 {post : Int32 → Prop} {x : Int32} (h : px_out x) (k : post 0) : wpY_isBlock post (un, f, g, c) x := by
  rcases h with h | ⟨h, h2⟩
  · exact br_t h k
  · exact br_f h (br_t (px_98 h2) k)
/-! possible -/
theorem xx_possible {post : Int32 → Prop} (hp : px_P f g ip) (k : post (nI (px_cn (px_p f g) 511))) : wpX_possible post (un, f, g, cd, sb, ip, c) := by
  refine ⟨512, px_lp (fun n j => wX_possible_4 post un f g cd sb ip c n (nI (px_cn (px_p f g) j)) (nI (j + 1))) (fun n => br_t px_512e k) (fun n j hj H => ?_)⟩
  refine br_f (px_512t (by omega)) ⟨vp_in_nI (by omega) (by omega), px_rd (px_p f g (j + 1)) (by omega) (hp (j + 1) (by omega) (by omega)) (fun h => ?_) (fun h => ?_)⟩
  · rw [px_cn_f h] at H
    exact nm_r (nI_1 _) H
  · rw [px_cn_t h] at H
    exact nm_r (nI_1 _) (nm_r (nI_1 _) H)
theorem yy_possible {post : Int32 → Prop} (ok : px_ok f g) (k : post (nI (px_cn (px_p f g) 511))) : wpY_possible post (un, f, g, c) := by
  refine ⟨512, px_lp (fun n j => wY_possible_4 post un f g c n (nI (px_cn (px_p f g) j)) (nI (j + 1))) (fun n => br_t px_512e k) (fun n j hj H => ?_)⟩
  refine br_f (px_512t (by omega)) (yy_p ok (by omega) (px_ib (px_p f g (j + 1)) (fun h => ?_) (fun h => ?_)))
  · rw [px_cn_f h] at H
    exact nm_r (nI_1 _) H
  · rw [px_cn_t h] at H
    exact nm_r (nI_1 _) (nm_r (nI_1 _) H)
theorem i_vc_possible {k : Nat} {u : SX} {v : SY} (I : i_Rel k u v) (hk : k + 4 ≤ 2048) : wpX_possible (fun r => wpY_possible (fun r' => r' = r ∧ i_Rel (k + 4) u v) v) u := by
  have J : i_Rel (k + 4) u v := I
  obtain ⟨un, f, g, cd, sb, ip, c, rfl, rfl, ok, hC, hS, hP⟩ := I
  exact xx_possible hP (yy_possible ok ⟨rfl, J⟩)
/-! times -/
theorem xx_times {post : Int32 → Prop} {x : Int32} (hp : px_P f g ip) (hC : px_C cd) : ∀ d s, s + d = 512 → 1 ≤ s → ∀ n, d < n → post (px_tm (fun s => px_p f g s && decide (nI (px_cd s) = x)) c d) → wX_times_2 post x un f g cd sb ip c n (nI s) := by
  intro d
  induction d with
  | zero =>
    intro s hs h1 n hn k
    obtain ⟨m, rfl⟩ : ∃ m, n = m + 1 := ⟨n - 1, by omega⟩
    have e : s = 512 := by omega
    rw [e]
    exact br_t px_512e k
  | succ d ih =>
    intro s hs h1 n hn k
    obtain ⟨m, rfl⟩ : ∃ m, n = m + 1 := ⟨n - 1, by omega⟩
    have e : (nI s).toNatClampNeg = s := nI_clamp (by omega)
    have hin : vp_in (nI s) 512 := vp_in_nI (by omega) (by omega)
    rw [px_tm_s hs] at k
    refine br_f (px_512t (by omega)) ⟨hin, px_rd (px_p f g s) (by omega) (hp s h1 (by omega)) (fun h => ?_) (fun h => ?_)⟩
    · rw [h, Bool.false_and, if_neg (by decide)] at k
      exact nm_r (nI_1 _) (ih (s + 1) (by omega) (by omega) m (by omega) k)
    · refine ⟨hin, ?_⟩
      rw [e, hC s h1 (by omega)]
      by_cases h2 : nI (px_cd s) = x
      · rw [h, decide_eq_true h2, Bool.true_and, if_pos rfl] at k
        exact br_t h2 ⟨hin, k⟩
      · rw [h, decide_eq_false h2, Bool.true_and, if_neg (by decide)] at k
        exact br_f h2 (nm_r (nI_1 _) (ih (s + 1) (by omega) (by omega) m (by omega) k))
theorem yy_times {post : Int32 → Prop} {x : Int32} (ok : px_ok f g) : ∀ d s, s + d = 512 → 1 ≤ s → ∀ n, d < n → post (px_tm (fun s => px_p f g s && decide (nI (px_cd s) = x)) c d) → wY_times_2 post x un f g c n (nI s) := by
  intro d
  induction d with
  | zero =>
    intro s hs h1 n hn k
    obtain ⟨m, rfl⟩ : ∃ m, n = m + 1 := ⟨n - 1, by omega⟩
    have e : s = 512 := by omega
    rw [e]
    exact br_t px_512e k
  | succ d ih =>
    intro s hs h1 n hn k
    obtain ⟨m, rfl⟩ : ∃ m, n = m + 1 := ⟨n - 1, by omega⟩
    have e : (nI s).toNatClampNeg = s := nI_clamp (by omega)
    have hin : vp_in (nI s) 512 := vp_in_nI (by omega) (by omega)
    rw [px_tm_s hs] at k
    refine br_f (px_512t (by omega)) (yy_cd (by omega) ?_)
    by_cases h2 : nI (px_cd s) = x
    · rw [decide_eq_true h2, Bool.and_true] at k
      refine br_t h2 (yy_p ok (by omega) (px_ib (px_p f g s) (fun h => ?_) (fun h => ?_)))
      · rw [h, if_neg (by decide)] at k
        exact nm_r (nI_1 _) (ih (s + 1) (by omega) (by omega) m (by omega) k)
      · rw [h, if_pos rfl] at k
        rw [e]
        exact ⟨hin, k⟩
    · rw [decide_eq_false h2, Bool.and_false, if_neg (by decide)] at k
      exact br_f h2 (nm_r (nI_1 _) (ih (s + 1) (by omega) (by omega) m (by omega) k))
theorem i_vc_times {k : Nat} {u : SX} {v : SY} (I : i_Rel k u v) (hk : k + 4 ≤ 2048) (v1 : Int32) : wpX_times (fun r => wpY_times (fun r' => r' = r ∧ i_Rel (k + 4) u v) v v1) u v1 := by
  have J : i_Rel (k + 4) u v := I
  obtain ⟨un, f, g, cd, sb, ip, c, rfl, rfl, ok, hC, hS, hP⟩ := I
  exact ⟨512, xx_times hP hC 511 1 rfl (by omega) 512 (by omega) ⟨512, yy_times ok 511 1 rfl (by omega) 512 (by omega) ⟨rfl, J⟩⟩⟩
/-! distinct, gone -/
theorem px_di {A B : Prop} {j : Nat} (hj : j < 511) (F : decide (¬ c (j + 1) ≤ 0) = false → A) (T : decide (¬ c (j + 1) ≤ 0) = true → B) : (c (nI (j + 1)).toNatClampNeg ≤ 0 → A) ∧ (¬ c (nI (j + 1)).toNatClampNeg ≤ 0 → B) := by
  rw [nI_clamp (n := j + 1) (by omega)]
  exact ⟨fun h => F (decide_eq_false (fun z => z h)), fun h => T (decide_eq_true h)⟩
theorem xx_distinct {post : Int32 → Prop} (k : post (nI (px_cn (fun s => decide (¬ c s ≤ 0)) 511))) : wpX_distinct post (un, f, g, cd, sb, ip, c) := by
  refine ⟨512, px_lp (fun n j => wX_distinct_4 post un f g cd sb ip c n (nI (px_cn (fun s => decide (¬ c s ≤ 0)) j)) (nI (j + 1))) (fun n => br_t px_512e k) (fun n j hj H => ?_)⟩
  refine br_f (px_512t (by omega)) ⟨vp_in_nI (by omega) (by omega), px_di hj (fun h => ?_) (fun h => ?_)⟩
  · rw [px_cn_f h] at H
    exact nm_r (nI_1 _) H
  · rw [px_cn_t h] at H
    exact nm_r (nI_1 _) (nm_r (nI_1 _) H)
theorem yy_distinct {post : Int32 → Prop} (k : post (nI (px_cn (fun s => decide (¬ c s ≤ 0)) 511))) : wpY_distinct post (un, f, g, c) := by
  refine ⟨512, px_lp (fun n j => wY_distinct_4 post un f g c n (nI (px_cn (fun s => decide (¬ c s ≤ 0)) j)) (nI (j + 1))) (fun n => br_t px_512e k) (fun n j hj H => ?_)⟩
  refine br_f (px_512t (by omega)) ⟨vp_in_nI (by omega) (by omega), px_di hj (fun h => ?_) (fun h => ?_)⟩
  · rw [px_cn_f h] at H
    exact nm_r (nI_1 _) H
  · rw [px_cn_t h] at H
    exact nm_r (nI_1 _) (nm_r (nI_1 _) H)
theorem i_vc_distinct {k : Nat} {u : SX} {v : SY} (I : i_Rel k u v) (hk : k + 4 ≤ 2048) : wpX_distinct (fun r => wpY_distinct (fun r' => r' = r ∧ i_Rel (k + 4) u v) v) u := by
  have J : i_Rel (k + 4) u v := I
  obtain ⟨un, f, g, cd, sb, ip, c, rfl, rfl, ok, hC, hS, hP⟩ := I
  exact xx_distinct (yy_distinct ⟨rfl, J⟩)
theorem px_smc {p : Nat → Bool} {j : Nat} (hj : j < 511) (h : p (j + 1) = true) : px_sm p c j + c (nI (j + 1)).toNatClampNeg = px_sm p c (j + 1) := by
  rw [nI_clamp (n := j + 1) (by omega), px_sm_t h]
theorem xx_gone {post : Int32 → Prop} (k : post (px_sm (fun _ => true) c 511)) : wpX_gone post (un, f, g, cd, sb, ip, c) := by
  refine ⟨512, px_lp (fun n j => wX_gone_4 post un f g cd sb ip c n (px_sm (fun _ => true) c j) (nI (j + 1))) (fun n => br_t px_512e k) (fun n j hj H => ?_)⟩
  exact br_f (px_512t (by omega)) ⟨vp_in_nI (by omega) (by omega), nm_r (px_smc hj rfl) (nm_r (nI_1 _) H)⟩
theorem yy_gone {post : Int32 → Prop} (k : post (px_sm (fun _ => true) c 511)) : wpY_gone post (un, f, g, c) := by
  refine ⟨512, px_lp (fun n j => wY_gone_4 post un f g c n (px_sm (fun _ => true) c j) (nI (j + 1))) (fun n => br_t px_512e k) (fun n j hj H => ?_)⟩
  exact br_f (px_512t (by omega)) ⟨vp_in_nI (by omega) (by omega), nm_r (px_smc hj rfl) (nm_r (nI_1 _) H)⟩
theorem i_vc_gone {k : Nat} {u : SX} {v : SY} (I : i_Rel k u v) (hk : k + 4 ≤ 2048) : wpX_gone (fun r => wpY_gone (fun r' => r' = r ∧ i_Rel (k + 4) u v) v) u := by
  have J : i_Rel (k + 4) u v := I
  obtain ⟨un, f, g, cd, sb, ip, c, rfl, rfl, ok, hC, hS, hP⟩ := I
  exact xx_gone (yy_gone ⟨rfl, J⟩)
/-! successors, unfinished -/
theorem i_vc_successors {k : Nat} {u : SX} {v : SY} (I : i_Rel k u v) (hk : k + 4 ≤ 2048) (v1 : Int32) : wpX_successors (fun r => wpY_successors (fun r' => r' = r ∧ i_Rel (k + 4) u v) v v1) u v1 := by
  have J : i_Rel (k + 4) u v := I
  obtain ⟨un, f, g, cd, sb, ip, c, rfl, rfl, ok, hC, hS, hP⟩ := I
  unfold wpX_successors wpY_successors
  dsimp only
  rcases px_bl v1 with ⟨b, hb, rfl⟩ | h
  · exact xx_b1 hb (br_f (by decide) (xx_ns hb (yy_b1 hb (br_f (by decide) (yy_ns ok hb ⟨rfl, J⟩)))))
  · exact xx_b0 h (br_t rfl (yy_b0 h (br_t rfl ⟨rfl, J⟩)))
theorem i_vc_unfinished {k : Nat} {u : SX} {v : SY} (I : i_Rel k u v) (hk : k + 4 ≤ 2048) : wpX_unfinished (fun r => wpY_unfinished (fun r' => r' = r ∧ i_Rel (k + 4) u v) v) u := by
  have J : i_Rel (k + 4) u v := I
  obtain ⟨un, f, g, cd, sb, ip, c, rfl, rfl, ok, hC, hS, hP⟩ := I
  exact ⟨rfl, J⟩
end PXU
end
section
section PXV
variable {un : Int32} {f g cd sb ip c : Nat → Int32}
/-! through -/
theorem xx_through {post : Int32 → Prop} {b : Nat} (hb : b < 9) (hp : px_P f g ip) (k : post (nI (px_cn (fun s => px_p f g s && px_t s b) 511))) : ∃ n, wX_through_13 post (nI b) un f g cd sb ip c n 0 1 := by
  refine ⟨512, px_lp (fun n j => wX_through_13 post (nI b) un f g cd sb ip c n (nI (px_cn (fun s => px_p f g s && px_t s b) j)) (nI (j + 1))) (fun n => br_t px_512e k) (fun n j hj H => ?_)⟩
  refine br_f (px_512t (by omega)) ⟨vp_in_nI (by omega) (by omega), px_rd (px_p f g (j + 1)) (by omega) (hp (j + 1) (by omega) (by omega)) (fun h => ?_) (fun h => ?_)⟩
  · rw [px_cn_f (by rw [h, Bool.false_and])] at H
    exact nm_r (nI_1 _) H
  · refine xx_has (by omega) hb (px_ib (px_t (j + 1) b) (fun h2 => ?_) (fun h2 => ?_))
    · rw [px_cn_f (by rw [h, h2]; rfl)] at H
      exact nm_r (nI_1 _) H
    · rw [px_cn_t (by rw [h, h2]; rfl)] at H
      exact nm_r (nI_1 _) (nm_r (nI_1 _) H)
theorem yy_through {post : Int32 → Prop} {b : Nat} (hb : b < 9) (ok : px_ok f g) (k : post (nI (px_cn (fun s => px_p f g s && px_t s b) 511))) : ∃ n, wY_through_14 post (nI b) un f g c n 0 1 := by
  refine ⟨512, px_lp (fun n j => wY_through_14 post (nI b) un f g c n (nI (px_cn (fun s => px_p f g s && px_t s b) j)) (nI (j + 1))) (fun n => br_t px_512e k) (fun n j hj H => ?_)⟩
  refine br_f (px_512t (by omega)) (px_tb (by omega) hb (fun h2 => ?_) (fun h2 => ?_))
  · refine yy_p ok (by omega) (px_ib (px_p f g (j + 1)) (fun h => ?_) (fun h => ?_))
    · rw [px_cn_f (by rw [h, h2]; rfl)] at H
      exact nm_r (nI_1 _) H
    · rw [px_cn_t (by rw [h, h2]; rfl)] at H
      exact nm_r (nI_1 _) (nm_r (nI_1 _) H)
  · rw [px_cn_f (by rw [h2, Bool.and_false])] at H
    exact nm_r (nI_1 _) H
theorem i_vc_through {k : Nat} {u : SX} {v : SY} (I : i_Rel k u v) (hk : k + 4 ≤ 2048) (v1 : Int32) : wpX_through (fun r => wpY_through (fun r' => r' = r ∧ i_Rel (k + 4) u v) v v1) u v1 := by
  have J : i_Rel (k + 4) u v := I
  obtain ⟨un, f, g, cd, sb, ip, c, rfl, rfl, ok, hC, hS, hP⟩ := I
  unfold wpX_through wpY_through
  dsimp only
  rcases px_bl v1 with ⟨b, hb, rfl⟩ | h
  · exact xx_b1 hb (br_f (by decide) (xx_through hb hP (yy_b1 hb (br_f (by decide) (yy_through hb ok ⟨rfl, J⟩)))))
  · exact xx_b0 h (br_t rfl (yy_b0 h (br_t rfl ⟨rfl, J⟩)))
/-! visits -/
theorem xx_visits {post : Int32 → Prop} {b : Nat} (hb : b < 9) (k : post (px_sm (fun s => px_t s b) c 511)) : ∃ n, wX_visits_13 post (nI b) un f g cd sb ip c n 0 1 := by
  refine ⟨512, px_lp (fun n j => wX_visits_13 post (nI b) un f g cd sb ip c n (px_sm (fun s => px_t s b) c j) (nI (j + 1))) (fun n => br_t px_512e k) (fun n j hj H => ?_)⟩
  refine br_f (px_512t (by omega)) (xx_has (by omega) hb (px_ib (px_t (j + 1) b) (fun h2 => ?_) (fun h2 => ?_)))
  · rw [px_sm_f h2] at H
    exact nm_r (nI_1 _) H
  · exact ⟨vp_in_nI (by omega) (by omega), nm_r (px_smc (p := fun s => px_t s b) hj h2) (nm_r (nI_1 _) H)⟩
theorem yy_visits {post : Int32 → Prop} {b : Nat} (hb : b < 9) (k : post (px_sm (fun s => px_t s b) c 511)) : ∃ n, wY_visits_14 post (nI b) un f g c n 0 1 := by
  refine ⟨512, px_lp (fun n j => wY_visits_14 post (nI b) un f g c n (px_sm (fun s => px_t s b) c j) (nI (j + 1))) (fun n => br_t px_512e k) (fun n j hj H => ?_)⟩
  refine br_f (px_512t (by omega)) (px_tb (by omega) hb (fun h2 => ?_) (fun h2 => ?_))
  · exact ⟨vp_in_nI (by omega) (by omega), nm_r (px_smc (p := fun s => px_t s b) hj h2) (nm_r (nI_1 _) H)⟩
  · rw [px_sm_f h2] at H
    exact nm_r (nI_1 _) H
theorem i_vc_visits {k : Nat} {u : SX} {v : SY} (I : i_Rel k u v) (hk : k + 4 ≤ 2048) (v1 : Int32) : wpX_visits (fun r => wpY_visits (fun r' => r' = r ∧ i_Rel (k + 4) u v) v v1) u v1 := by
  have J : i_Rel (k + 4) u v := I
  obtain ⟨un, f, g, cd, sb, ip, c, rfl, rfl, ok, hC, hS, hP⟩ := I
  unfold wpX_visits wpY_visits
  dsimp only
  rcases px_bl v1 with ⟨b, hb, rfl⟩ | h
  · exact xx_b1 hb (br_f (by decide) (xx_visits hb (yy_b1 hb (br_f (by decide) (yy_visits hb ⟨rfl, J⟩)))))
  · exact xx_b0 h (br_t rfl (yy_b0 h (br_t rfl ⟨rfl, J⟩)))
/-! arc -/
theorem px_ar {A B : Prop} {x3 x4 : Int32} {j : Nat} (T : decide ((nI (j + 1) &&& x4) = x3) = true → A) (F : decide ((nI (j + 1) &&& x4) = x3) = false → B) : ((nI (j + 1) &&& x4) = x3 → A) ∧ (¬ (nI (j + 1) &&& x4) = x3 → B) := ⟨fun h => T (decide_eq_true h), fun h => F (decide_eq_false h)⟩
theorem xx_arc {post : Int32 → Prop} {x3 x4 : Int32} (k : post (px_sm (fun s => decide ((nI s &&& x4) = x3)) c 511)) : ∃ n, wX_arc_53 post x3 x4 un f g cd sb ip c n 0 1 := by
  refine ⟨512, px_lp (fun n j => wX_arc_53 post x3 x4 un f g cd sb ip c n (px_sm (fun s => decide ((nI s &&& x4) = x3)) c j) (nI (j + 1))) (fun n => br_t px_512e k) (fun n j hj H => ?_)⟩
  refine br_f (px_512t (by omega)) (px_ar (fun h2 => ?_) (fun h2 => ?_))
  · exact ⟨vp_in_nI (by omega) (by omega), nm_r (px_smc (p := fun s => decide ((nI s &&& x4) = x3)) hj h2) (nm_r (nI_1 _) H)⟩
  · rw [px_sm_f h2] at H
    exact nm_r (nI_1 _) H
theorem yy_arc {post : Int32 → Prop} {x3 x4 : Int32} (k : post (px_sm (fun s => decide ((nI s &&& x4) = x3)) c 511)) : ∃ n, wY_arc_68 post x3 x4 un f g c n 0 1 := by
  refine ⟨512, px_lp (fun n j => wY_arc_68 post x3 x4 un f g c n (px_sm (fun s => decide ((nI s &&& x4) = x3)) c j) (nI (j + 1))) (fun n => br_t px_512e k) (fun n j hj H => ?_)⟩
  refine br_f (px_512t (by omega)) (px_ar (fun h2 => ?_) (fun h2 => ?_))
  · exact ⟨vp_in_nI (by omega) (by omega), nm_r (px_smc (p := fun s => decide ((nI s &&& x4) = x3)) hj h2) (nm_r (nI_1 _) H)⟩
  · rw [px_sm_f h2] at H
    exact nm_r (nI_1 _) H
theorem px_ldt {b j : Nat} (h : px_ld f g b j = true) : f b = nI j ∨ g b = nI j := by
  unfold px_ld at h
  rw [Bool.or_eq_true, decide_eq_true_iff, decide_eq_true_iff] at h
  exact h
theorem px_ldf {b j : Nat} (h : px_ld f g b j = false) : ¬ f b = nI j ∧ ¬ g b = nI j := by
  unfold px_ld at h
  rw [Bool.or_eq_false_iff, decide_eq_false_iff_not, decide_eq_false_iff_not] at h
  exact h
theorem i_vc_arc {k : Nat} {u : SX} {v : SY} (I : i_Rel k u v) (hk : k + 4 ≤ 2048) (v1 : Int32) (v2 : Int32) : wpX_arc (fun r => wpY_arc (fun r' => r' = r ∧ i_Rel (k + 4) u v) v v1 v2) u v1 v2 := by
  have J : i_Rel (k + 4) u v := I
  obtain ⟨un, f, g, cd, sb, ip, c, rfl, rfl, ok, hC, hS, hP⟩ := I
  unfold wpX_arc wpY_arc
  dsimp only
  rcases px_bl v1 with ⟨b, hb, rfl⟩ | h
  · rcases px_bl v2 with ⟨d, hd, rfl⟩ | h2
    · refine xx_b1 hb (br_f (by decide) (xx_b1 hd (br_f (by decide) ?_)))
      by_cases h3 : nI d ≤ nI b
      · exact br_t h3 (yy_b1 hb (br_f (by decide) (yy_b1 hd (br_f (by decide) (br_t h3 ⟨rfl, J⟩)))))
      · have e : (nI b).toNatClampNeg = b := nI_clamp (by omega)
        have hin : vp_in (nI b) 9 := vp_in_nI hb (by omega)
        refine br_f h3 (xx_leads hb (px_ib _ (fun h4 => ?_) (fun h4 => ?_)))
        · have h5 := px_ldf h4
          refine yy_b1 hb (br_f (by decide) (yy_b1 hd (br_f (by decide) (br_f h3 ⟨hin, ?_⟩))))
          rw [e]
          exact br_f h5.1 ⟨hin, br_f h5.2 ⟨rfl, J⟩⟩
        · refine nm_e (nm_r (congrArg (fun z => z - (1 : Int32) <<< (nI b &&& 31)) (px_shl2 d hd)) (xx_arc ?_))
          refine yy_b1 hb (br_f (by decide) (yy_b1 hd (br_f (by decide) (br_f h3 ⟨hin, ?_⟩))))
          rw [e]
          have A : ∀ post : Int32 → Prop, post (px_sm (fun s => decide ((nI s &&& ((1 : Int32) <<< (nI (d + 1) &&& 31) - (1 : Int32) <<< (nI b &&& 31))) = ((1 : Int32) <<< (nI b &&& 31) ||| (1 : Int32) <<< (nI d &&& 31)))) c 511) → wY_arc_43 post (nI b) (nI d) un f g c := by
            intro post k
            unfold wY_arc_43
            rw [nI_1 d]
            exact nm_e (nm_e (yy_arc k))
          by_cases h5 : f b = nI d
          · exact br_t h5 (A _ ⟨rfl, J⟩)
          · exact br_f h5 ⟨hin, br_t ((px_ldt h4).resolve_left h5) (A _ ⟨rfl, J⟩)⟩
    · exact xx_b1 hb (br_f (by decide) (xx_b0 h2 (br_t rfl (yy_b1 hb (br_f (by decide) (yy_b0 h2 (br_t rfl ⟨rfl, J⟩)))))))
  · exact xx_b0 h (br_t rfl (yy_b0 h (br_t rfl ⟨rfl, J⟩)))
/-! longest -/
theorem xx_cb {post : Int32 → Prop} {s : Nat} (hs : s < 512) (k : post (nI (px_sf s 9))) : ∀ d b, b + d = 9 → ∀ n, d < n → wX_countBlocks_4 post (nI s) n (nI (px_sf s b)) (nI b) := by
  intro d
  induction d with
  | zero =>
    intro b hb n hn
    obtain ⟨m, rfl⟩ : ∃ m, n = m + 1 := ⟨n - 1, by omega⟩
    have e : b = 9 := by omega
    rw [e]
    exact br_t px_9e k
  | succ d ih =>
    intro b hb n hn
    obtain ⟨m, rfl⟩ : ∃ m, n = m + 1 := ⟨n - 1, by omega⟩
    have H := ih (b + 1) (by omega) m (by omega)
    refine br_f (px_9t (by omega)) (xx_has hs (by omega) (px_ib _ (fun h => ?_) (fun h => ?_)))
    · rw [px_sf_f h] at H
      exact nm_r (nI_1 b) H
    · rw [px_sf_t h] at H
      exact nm_r (nI_1 _) (nm_r (nI_1 b) H)
theorem xx_longest {post : Int32 → Prop} (hp : px_P f g ip) (k : post (nI (px_mx (px_p f g) 511))) : wpX_longest post (un, f, g, cd, sb, ip, c) := by
  refine ⟨512, px_lp (fun n j => wX_longest_4 post un f g cd sb ip c n (nI (px_mx (px_p f g) j)) (nI (j + 1))) (fun n => br_t px_512e k) (fun n j hj H => ?_)⟩
  have l1 := px_mx_le (px_p f g) j
  have l2 := px_sf_le (j + 1) 9
  refine br_f (px_512t (by omega)) ⟨vp_in_nI (by omega) (by omega), px_rd (px_p f g (j + 1)) (by omega) (hp (j + 1) (by omega) (by omega)) (fun h => ?_) (fun h => ?_)⟩
  · rw [px_mx_f h] at H
    exact nm_r (nI_1 _) H
  · refine ⟨10, xx_cb (by omega) (pk_le (px_sf (j + 1) 9) (px_mx (px_p f g) j) (fun h2 => ?_) (fun h2 => ?_)) 9 0 rfl 10 (by omega)⟩
    · rw [px_mx_l h2] at H
      exact nm_r (nI_1 _) H
    · rw [px_mx_t h h2] at H
      exact nm_r (nI_1 _) H
theorem yy_sz {post : Int32 → Prop} {J4 : Int32 → Int32 → Prop} {x1 : Int32} {s : Nat} (hs : s < 512) (k : ∀ n, wY_longest_16 post J4 x1 (nI s) un f g c (n + 1) (nI (px_sf s 9)) (nI 9)) : ∀ d b, b + d = 9 → ∀ n, d < n → wY_longest_16 post J4 x1 (nI s) un f g c n (nI (px_sf s b)) (nI b) := by
  intro d
  induction d with
  | zero =>
    intro b hb n hn
    obtain ⟨m, rfl⟩ : ∃ m, n = m + 1 := ⟨n - 1, by omega⟩
    have e : b = 9 := by omega
    rw [e]
    exact k m
  | succ d ih =>
    intro b hb n hn
    obtain ⟨m, rfl⟩ : ∃ m, n = m + 1 := ⟨n - 1, by omega⟩
    have H := ih (b + 1) (by omega) m (by omega)
    refine br_f (px_9t (by omega)) (nm_r (e' := nI (px_sf s (b + 1))) ?_ (nm_r (nI_1 b) H))
    rw [px_bi hs (by omega), nI_add]
    rfl
theorem yy_longest {post : Int32 → Prop} (ok : px_ok f g) (k : post (nI (px_mx (px_p f g) 511))) : wpY_longest post (un, f, g, c) := by
  refine ⟨512, px_lp (fun n j => wY_longest_4 post un f g c n (nI (px_mx (px_p f g) j)) (nI (j + 1))) (fun n => br_t px_512e k) (fun n j hj H => ?_)⟩
  have l1 := px_mx_le (px_p f g) j
  have l2 := px_sf_le (j + 1) 9
  refine br_f (px_512t (by omega)) ⟨10, yy_sz (by omega) (fun m => br_t px_9e (pk_le (px_sf (j + 1) 9) (px_mx (px_p f g) j) (fun h2 => ?_) (fun h2 => ?_))) 9 0 rfl 10 (by omega)⟩
  · rw [px_mx_l h2] at H
    exact nm_r (nI_1 _) H
  · refine yy_p ok (by omega) (px_ib (px_p f g (j + 1)) (fun h => ?_) (fun h => ?_))
    · rw [px_mx_f h] at H
      exact nm_r (nI_1 _) H
    · rw [px_mx_t h h2] at H
      exact nm_r (nI_1 _) H
theorem i_vc_longest {k : Nat} {u : SX} {v : SY} (I : i_Rel k u v) (hk : k + 4 ≤ 2048) : wpX_longest (fun r => wpY_longest (fun r' => r' = r ∧ i_Rel (k + 4) u v) v) u := by
  have J : i_Rel (k + 4) u v := I
  obtain ⟨un, f, g, cd, sb, ip, c, rfl, rfl, ok, hC, hS, hP⟩ := I
  exact xx_longest hP (yy_longest ok ⟨rfl, J⟩)
end PXV
end
section
section PXW
variable {un : Int32} {f g cd sb ip c : Nat → Int32}
/-! hottest -/
theorem xx_hot {post : Int32 → Prop} {π : Nat → Nat} (hS : px_So π 511) (hb : ∀ i, i < 511 → sb i = nI (π i)) (hC : px_C cd) (k : ∀ m r, px_hi c (fun s => ∃ i, i < 511 ∧ s = π i) m r → post r) : wpX_hottest post (un, f, g, cd, sb, ip, c) := by
  refine ⟨512, px_lp (fun n j => ∀ m r, px_hi c (fun s => ∃ i, i < j ∧ s = π i) m r → wX_hottest_7 post un f g cd sb ip c n m r (nI j)) (fun n m r h => br_t px_511e (k m r h)) (fun n j hj H m r h => ?_) 0 (-4) (px_hi_0 (fun s z => by obtain ⟨i, hi, _⟩ := z; omega))⟩
  have e1 : (nI j).toNatClampNeg = j := nI_clamp (by omega)
  have hπ := hS.1 j hj
  have e2 : (nI (π j)).toNatClampNeg = π j := nI_clamp (by omega)
  have hin : vp_in (nI (π j)) 512 := vp_in_nI (by omega) (by omega)
  have hD : ∀ s, (∃ i, i < j + 1 ∧ s = π i) → (∃ i, i < j ∧ s = π i) ∨ s = π j := by
    rintro s ⟨i, hi, e⟩
    by_cases z : i = j
    · exact Or.inr (by rw [e, z])
    · exact Or.inl ⟨i, by omega, e⟩
  refine br_f (px_511t hj) ⟨vp_in_nI hj (by omega), nm_r (e' := nI (π j)) (by rw [e1]; exact hb j hj) ⟨hin, ?_⟩⟩
  rw [e2]
  by_cases h2 : c (π j) ≤ m
  · refine br_t h2 (nm_r (nI_1 j) (H m r (px_hi_old (t := π j) h hD ?_ (Int32.not_lt.mpr h2) ?_)))
    · rintro s ⟨i, hi, e⟩
      exact ⟨i, by omega, e⟩
    · rintro _ _ s ⟨i, hi, e⟩ _ _
      rw [e]
      exact Nat.le_of_lt (hS.2.1 i j hi hj)
  · exact br_f h2 ⟨hin, nm_e ⟨hin, nm_r (hC (π j) hπ.1 (by omega)) (nm_r (nI_1 j) (H _ _ (px_hi_new (t := π j) h hD ⟨j, by omega, rfl⟩ (Or.inl (Int32.not_le.mp h2)))))⟩⟩
theorem yy_hot {post : Int32 → Prop} (k : ∀ m r, px_hi c (fun s => 1 ≤ s ∧ s ≤ 511) m r → post r) : wpY_hottest post (un, f, g, c) := by
  refine ⟨512, px_lp (fun n j => ∀ m r, px_hi c (fun s => 1 ≤ s ∧ s ≤ j) m r → wY_hottest_7 post un f g c n r m (nI (j + 1))) (fun n m r h => br_t px_512e (k m r h)) (fun n j hj H m r h => ?_) 0 (-4) (px_hi_0 (fun s z => by omega))⟩
  have e1 : (nI (j + 1)).toNatClampNeg = j + 1 := nI_clamp (by omega)
  have hin : vp_in (nI (j + 1)) 512 := vp_in_nI (by omega) (by omega)
  have hD : ∀ s, (1 ≤ s ∧ s ≤ j + 1) → (1 ≤ s ∧ s ≤ j) ∨ s = j + 1 := by
    intro s z
    omega
  have hE : ∀ s, (1 ≤ s ∧ s ≤ j) → (1 ≤ s ∧ s ≤ j + 1) := by
    intro s z
    omega
  refine br_f (px_512t (by omega)) (yy_cd (by omega) ⟨hin, ?_⟩)
  rw [e1]
  have N : (m < c (j + 1) ∨ (c (j + 1) = m ∧ 0 < m ∧ ∀ s, (1 ≤ s ∧ s ≤ j) → r = nI (px_cd s) → m = c s → px_cd (j + 1) ≤ px_cd s)) → wY_hottest_51 post (wY_hottest_7 post un f g c n) (nI (j + 1)) (nI (px_cd (j + 1))) un f g c := by
    intro g1
    refine ⟨hin, nm_r (e' := c (j + 1)) (by rw [e1]) (nm_r (nI_1 _) (H _ _ (px_hi_new (t := j + 1) h hD (by omega) g1)))⟩
  by_cases h1 : m < c (j + 1)
  · exact br_t h1 (N (Or.inl h1))
  · refine br_f h1 ⟨hin, ?_⟩
    by_cases h2 : c (j + 1) = m
    · refine br_t h2 ?_
      by_cases h3 : m ≤ 0
      · exact br_t h3 (nm_r (nI_1 _) (H _ _ (px_hi_old (t := j + 1) h hD hE h1 (fun _ z => absurd z (Int32.not_lt.mpr h3)))))
      · refine br_f h3 ?_
        by_cases h4 : r ≤ nI (px_cd (j + 1))
        · refine br_t h4 (nm_r (nI_1 _) (H _ _ (px_hi_old (t := j + 1) h hD hE h1 ?_)))
          intro _ _ s ds er _
          rw [er] at h4
          exact (nI_leI (px_cd_lt s (by omega)) (px_cd_lt (j + 1) (by omega))).mp h4
        · refine br_f h4 (N (Or.inr ⟨h2, Int32.not_le.mp h3, ?_⟩))
          intro s ds er _
          rw [er] at h4
          have h5 : ¬ px_cd s ≤ px_cd (j + 1) := fun z => h4 ((nI_leI (px_cd_lt s (by omega)) (px_cd_lt (j + 1) (by omega))).mpr z)
          omega
    · exact br_f h2 (nm_r (nI_1 _) (H _ _ (px_hi_old (t := j + 1) h hD hE h1 (fun z => absurd z h2))))
theorem px_Di {π : Nat → Nat} (hS : px_So π 511) (s : Nat) : (∃ i, i < 511 ∧ s = π i) ↔ (1 ≤ s ∧ s ≤ 511) := by
  constructor
  · rintro ⟨i, hi, e⟩
    rw [e]
    exact hS.1 i hi
  · rintro ⟨a, b⟩
    obtain ⟨i, hi, e⟩ := hS.2.2 s a b
    exact ⟨i, hi, e.symm⟩
theorem i_vc_hottest {k : Nat} {u : SX} {v : SY} (I : i_Rel k u v) (hk : k + 4 ≤ 2048) : wpX_hottest (fun r => wpY_hottest (fun r' => r' = r ∧ i_Rel (k + 4) u v) v) u := by
  have J : i_Rel (k + 4) u v := I
  obtain ⟨un, f, g, cd, sb, ip, c, rfl, rfl, ok, hC, ⟨π, hS, hb⟩, hP⟩ := I
  exact xx_hot hS hb hC (fun m r h => yy_hot (fun m' r' h' => ⟨px_hi_u h h' (px_Di hS), J⟩))
/-! path -/
theorem xx_path {post : Int32 → Prop} {π : Nat → Nat} {x : Int32} (hS : px_So π 511) (hb : ∀ i, i < 511 → sb i = nI (π i)) (hC : px_C cd) (hp : px_P f g ip) (k : ∀ r, px_kth (px_p f g) x r → post r) : wpX_path post (un, f, g, cd, sb, ip, c) x := by
  refine ⟨512, px_lp (fun n j => (∀ i, i < j → px_p f g (π i) = true → ¬ nI (px_B (px_p f g) π i) = x) → wX_path_4 post x un f g cd sb ip c n (nI (px_B (px_p f g) π j)) (nI j)) (fun n h => br_t px_511e (k _ (Or.inr ⟨?_, rfl⟩))) (fun n j hj H h => ?_) (fun i hi => by omega)⟩
  · intro s a b ps e
    obtain ⟨i, hi, ei⟩ := hS.2.2 s a b
    rw [← ei] at ps e
    rw [px_LB hS i hi] at e
    exact h i hi ps e
  · have e1 : (nI j).toNatClampNeg = j := nI_clamp (by omega)
    have hπ := hS.1 j hj
    have e2 : (nI (π j)).toNatClampNeg = π j := nI_clamp (by omega)
    have hin : vp_in (nI (π j)) 512 := vp_in_nI (by omega) (by omega)
    refine br_f (px_511t hj) ⟨vp_in_nI hj (by omega), nm_r (e' := nI (π j)) (by rw [e1]; exact hb j hj) ⟨hin, px_rd (px_p f g (π j)) (by omega) (hp (π j) hπ.1 (by omega)) (fun h2 => ?_) (fun h2 => ?_)⟩⟩
    · have e3 : px_B (px_p f g) π (j + 1) = px_B (px_p f g) π j := by rw [px_B_s, if_neg (px_nt h2), Nat.add_zero]
      rw [e3] at H
      refine nm_r (nI_1 j) (H (fun i hi ps => ?_))
      by_cases z : i = j
      · rw [z] at ps
        exact absurd ps (px_nt h2)
      · exact h i (by omega) ps
    · by_cases h3 : nI (px_B (px_p f g) π j) = x
      · refine br_t h3 ⟨hin, ?_⟩
        rw [e2, hC (π j) hπ.1 (by omega)]
        refine k _ (Or.inl ⟨π j, hπ.1, hπ.2, h2, ?_, rfl⟩)
        rw [px_LB hS j hj]
        exact h3
      · have e3 : px_B (px_p f g) π (j + 1) = px_B (px_p f g) π j + 1 := by rw [px_B_s, if_pos h2]
        rw [e3] at H
        refine br_f h3 (nm_r (nI_1 _) (nm_r (nI_1 j) (H (fun i hi ps => ?_))))
        by_cases z : i = j
        · rw [z]; exact h3
        · exact h i (by omega) ps
theorem yy_les {post : Int32 → Prop} {s : Nat} (ok : px_ok f g) (hs : s < 512) (k : post (nI (px_L (px_p f g) s))) : wpY_lesser post (un, f, g, c) (nI (px_cd s)) := by
  refine ⟨512, px_lp (fun n j => wY_lesser_4 post (nI (px_cd s)) un f g c n (nI (px_cn (fun t => decide (px_cd t < px_cd s) && px_p f g t) j)) (nI (j + 1))) (fun n => br_t px_512e k) (fun n j hj H => ?_)⟩
  refine br_f (px_512t (by omega)) (yy_cd (by omega) (pk_le (px_cd s) (px_cd (j + 1)) (fun h => ?_) (fun h => ?_) rfl rfl (px_cd_lt s hs) (px_cd_lt (j + 1) (by omega))))
  · rw [px_cn_f (by rw [decide_eq_false (by omega), Bool.false_and])] at H
    exact nm_r (nI_1 _) H
  · refine yy_p ok (by omega) (px_ib (px_p f g (j + 1)) (fun h2 => ?_) (fun h2 => ?_))
    · rw [px_cn_f (by rw [h2, Bool.and_false])] at H
      exact nm_r (nI_1 _) H
    · rw [px_cn_t (by rw [h2, decide_eq_true h]; rfl)] at H
      exact nm_r (nI_1 _) (nm_r (nI_1 _) H)
theorem yy_path {post : Int32 → Prop} {x : Int32} (ok : px_ok f g) (k : ∀ r, px_kth (px_p f g) x r → post r) : wpY_path post (un, f, g, c) x := by
  refine ⟨512, px_lp (fun n j => (∀ s, 1 ≤ s → s ≤ j → px_p f g s = true → ¬ nI (px_L (px_p f g) s) = x) → wY_path_2 post x un f g c n (nI (j + 1))) (fun n h => br_t px_512e (k _ (Or.inr ⟨h, rfl⟩))) (fun n j hj H h => ?_) (fun s a b => by omega)⟩
  refine br_f (px_512t (by omega)) (yy_p ok (by omega) (px_ib (px_p f g (j + 1)) (fun h2 => ?_) (fun h2 => ?_)))
  · refine nm_r (nI_1 _) (H (fun s a b ps => ?_))
    by_cases z : s = j + 1
    · rw [z] at ps
      exact absurd ps (px_nt h2)
    · exact h s a (by omega) ps
  · refine yy_cd (by omega) (yy_les ok (by omega) ?_)
    by_cases h3 : nI (px_L (px_p f g) (j + 1)) = x
    · exact br_t h3 (k _ (Or.inl ⟨j + 1, by omega, by omega, h2, h3, rfl⟩))
    · refine br_f h3 (nm_r (nI_1 _) (H (fun s a b ps => ?_)))
      by_cases z : s = j + 1
      · rw [z]; exact h3
      · exact h s a (by omega) ps
theorem i_vc_path {k : Nat} {u : SX} {v : SY} (I : i_Rel k u v) (hk : k + 4 ≤ 2048) (v1 : Int32) : wpX_path (fun r => wpY_path (fun r' => r' = r ∧ i_Rel (k + 4) u v) v v1) u v1 := by
  have J : i_Rel (k + 4) u v := I
  obtain ⟨un, f, g, cd, sb, ip, c, rfl, rfl, ok, hC, ⟨π, hS, hb⟩, hP⟩ := I
  exact xx_path hS hb hC hP (fun r h => yy_path ok (fun r' h' => ⟨px_kth_u h h', J⟩))
end PXW
end
section
section PXN
variable {un : Int32} {f g cd sb ip : Nat → Int32}
/-! run: both sides in lockstep -/
def px_np (b nx p : Nat) : Nat := if b < nx then p ||| 2 ^ nx else 2 ^ nx
def px_nc (b nx p : Nat) (c : Nat → Int32) : Nat → Int32 := if b < nx then c else upd c p (c p + 1)
theorem px_np_lt {b nx p : Nat} (hp : p < 512) (hn : nx < 9) : px_np b nx p < 512 := by
  unfold px_np
  by_cases h : b < nx
  · rw [if_pos h]; exact px_orlt hp hn
  · rw [if_neg h]; exact px_pw hn
theorem px_uid {c : Nat → Int32} {p : Nat} : upd c p (c p) = c := by
  funext j
  by_cases h : j = p
  · rw [h]; exact px_us
  · exact px_un h
theorem px_01 (y : Int32) : y &&& 1 = 0 ∨ y &&& 1 = 1 := by
  obtain ⟨j, hj, e⟩ := pk_andE y (m := 1) 1 (by decide)
  have h : j = 0 ∨ j = 1 := by omega
  rcases h with h | h
  · rw [h] at e; exact Or.inl e
  · rw [h] at e; exact Or.inr e
theorem px_ns0 {b : Nat} (h : f b = -1) : px_ns f g b = 0 := if_pos h
theorem px_ns1 {b : Nat} (h : ¬ f b = -1) : ¬ px_ns f g b ≤ 0 ∧ ¬ px_ns f g b = 0 := by
  unfold px_ns
  rw [if_neg h]
  by_cases h2 : g b = -1
  · rw [if_pos h2]; decide
  · rw [if_neg h2]; decide
theorem xx_fin {post : Int32 → SX → Prop} {b p a : Nat} {c : Nat → Int32} (hb : b < 9) (hp : p < 512) (T : f b = -1 → post (nI a) (un, f, g, cd, sb, ip, upd c p (c p + 1))) (F : ¬ f b = -1 → post (nI a) (un + 1, f, g, cd, sb, ip, c)) : wX_run_122 post (nI b) (nI p) (nI a) un f g cd sb ip c := by
  have e : (nI p).toNatClampNeg = p := nI_clamp (by omega)
  have hin : vp_in (nI p) 512 := vp_in_nI hp (by omega)
  unfold wX_run_122
  rw [e]
  exact xx_exit hb (fun h => br_f (by decide) ⟨hin, hin, nm_e (T h)⟩) (fun h => br_t rfl (nm_e (F h)))
theorem yy_fin {post : Int32 → SY → Prop} {ch mn us : Int32} {b p a : Nat} {c : Nat → Int32} {n : Nat} (ok : px_ok f g) (hb : b < 9) (hp : p < 512) (T : f b = -1 → post (nI a) (un, f, g, upd c p (c p + 1))) (F : ¬ f b = -1 → post (nI a) (un + 1, f, g, c)) : wY_run_38 post ch mn un (n + 1) (nI b) (nI p) (nI a) us 0 f g c := by
  have e : (nI p).toNatClampNeg = p := nI_clamp (by omega)
  have hin : vp_in (nI p) 512 := vp_in_nI hp (by omega)
  refine br_t rfl (yy_ns ok hb ?_)
  by_cases h : f b = -1
  · refine br_t (px_ns0 h) ⟨hin, hin, ?_⟩
    rw [e]
    exact nm_e (T h)
  · exact br_f (px_ns1 h).2 (nm_e (F h))
theorem xx_step {post : Int32 → SX → Prop} {J : Int32 → Int32 → Int32 → Int32 → (Nat → Int32) → (Nat → Int32) → (Nat → Int32) → (Nat → Int32) → (Nat → Int32) → (Nat → Int32) → Prop} {ch mn us : Int32} {b nx p a : Nat} {c : Nat → Int32} (hb : b < 9) (hp : p < 512) (hn : nx < 9) (K : J (nI nx) (nI (px_np b nx p)) us (nI (a + 1)) f g cd sb ip (px_nc b nx p c)) : wX_run_84 post J ch mn (nI b) (nI p) us (nI a) (nI nx) un f g cd sb ip c := by
  have e : (nI p).toNatClampNeg = p := nI_clamp (by omega)
  have hin : vp_in (nI p) 512 := vp_in_nI hp (by omega)
  unfold wX_run_84 wX_run_104
  rw [e, px_shl nx hn]
  unfold px_np px_nc at K
  by_cases h : b < nx
  · rw [if_pos h, if_pos h] at K
    exact br_t (nI_lt h (by omega)) (nm_r (px_or _ _) (nm_r (nI_1 a) K))
  · rw [if_neg h, if_neg h] at K
    refine br_f (nI_nlt (by omega) (by omega)) ⟨hin, hin, nm_e (nm_r (e' := nI (2 ^ nx)) ?_ (nm_r (nI_1 a) K))⟩
    rw [← nI_0, px_or, Nat.zero_or]
theorem yy_going {post : Int32 → SY → Prop} {J : Int32 → Int32 → Int32 → Int32 → Int32 → (Nat → Int32) → (Nat → Int32) → (Nat → Int32) → Prop} {ch mn us z : Int32} {nx a : Nat} {c : Nat → Int32} (ok : px_ok f g) (hn : nx < 9) (ha : a < 40) (K : J (nI nx) z (nI (a + 1)) us (px_i (decide (a + 1 < 40) && decide (¬ f nx = -1))) f g c) : wY_run_159 post J ch mn (nI a) us (nI nx) z un f g c := by
  refine nm_r (nI_1 a) (pk_le 40 (a + 1) (fun h => ?_) (fun h => ?_))
  · rw [decide_eq_false (by omega), Bool.false_and] at K
    exact K
  · rw [decide_eq_true h, Bool.true_and] at K
    refine yy_ns ok hn ?_
    by_cases h2 : f nx = -1
    · rw [decide_eq_false (fun z => z h2)] at K
      refine br_t ?_ K
      rw [px_ns0 h2]
      decide
    · rw [decide_eq_true h2] at K
      exact br_f (px_ns1 h2).1 K
theorem yy_step {post : Int32 → SY → Prop} {J : Int32 → Int32 → Int32 → Int32 → Int32 → (Nat → Int32) → (Nat → Int32) → (Nat → Int32) → Prop} {ch mn us : Int32} {b nx p a : Nat} {c : Nat → Int32} (ok : px_ok f g) (hb : b < 9) (hp : p < 512) (hn : nx < 9) (ha : a < 40) (K : J (nI nx) (nI (px_np b nx p)) (nI (a + 1)) us (px_i (decide (a + 1 < 40) && decide (¬ f nx = -1))) f g (px_nc b nx p c)) : wY_run_102 post J ch mn (nI b) (nI p) (nI a) us 1 (nI nx) un f g c := by
  have e : (nI p).toNatClampNeg = p := nI_clamp (by omega)
  have hin : vp_in (nI p) 512 := vp_in_nI hp (by omega)
  unfold wY_run_102 wY_run_138
  rw [e, px_shl nx hn]
  unfold px_np px_nc at K
  refine br_f (by decide) ?_
  by_cases h : b < nx
  · rw [if_pos h, if_pos h] at K
    refine br_t (nI_lt h (by omega)) ⟨hin, hin, nm_r px_uid (br_t (nI_lt h (by omega)) ?_)⟩
    rw [px_or]
    exact yy_going ok hn ha K
  · rw [if_neg h, if_neg h] at K
    have h2 : ¬ nI b < nI nx := nI_nlt (by omega) (by omega)
    exact br_f h2 ⟨hin, hin, nm_e (br_f h2 (yy_going ok hn ha K))⟩
theorem px_run {ch : Int32} {mn : Nat} (ok : px_ok f g) (hm : mn ≤ 24) : ∀ (d a b p us : Nat) (c : Nat → Int32), a + d = 40 → b < 9 → p < 512 → us ≤ mn → ∃ (r un' : Int32) (c' : Nat → Int32),
    (∀ (post : Int32 → SX → Prop) (n : Nat), d < n → post r (un', f, g, cd, sb, ip, c') → wX_run_23 post ch (nI mn) un n (nI b) (nI p) (nI us) (nI a) f g cd sb ip c) ∧
    (∀ (post : Int32 → SY → Prop) (n : Nat), d + 1 < n → post r (un', f, g, c') → wY_run_38 post ch (nI mn) un n (nI b) (nI p) (nI a) (nI us) (px_i (decide (a < 40) && decide (¬ f b = -1))) f g c) := by
  intro d
  induction d with
  | zero =>
    intro a b p us c ha hb hp hu
    have e : a = 40 := by omega
    have z : (decide (a < 40) && decide (¬ f b = -1)) = false := by rw [decide_eq_false (by omega), Bool.false_and]
    by_cases h : f b = -1
    · refine ⟨nI a, un, upd c p (c p + 1), fun post n hn k => ?_, fun post n hn k => ?_⟩
      · obtain ⟨m, rfl⟩ : ∃ m, n = m + 1 := ⟨n - 1, by omega⟩
        exact br_t (by rw [e]; decide) (xx_fin hb hp (fun _ => k) (fun z => absurd h z))
      · obtain ⟨m, rfl⟩ : ∃ m, n = m + 1 := ⟨n - 1, by omega⟩
        rw [z]
        exact yy_fin ok hb hp (fun _ => k) (fun z => absurd h z)
    · refine ⟨nI a, un + 1, c, fun post n hn k => ?_, fun post n hn k => ?_⟩
      · obtain ⟨m, rfl⟩ : ∃ m, n = m + 1 := ⟨n - 1, by omega⟩
        exact br_t (by rw [e]; decide) (xx_fin hb hp (fun z => absurd z h) (fun _ => k))
      · obtain ⟨m, rfl⟩ : ∃ m, n = m + 1 := ⟨n - 1, by omega⟩
        rw [z]
        exact yy_fin ok hb hp (fun z => absurd z h) (fun _ => k)
  | succ d ih =>
    intro a b p us c ha hb hp hu
    have h40 : ¬ (40 : Int32) ≤ nI a := nI_ge (b := 40) (by omega) (by decide)
    have ea : decide (a < 40) = true := decide_eq_true (by omega)
    have eb : (nI b).toNatClampNeg = b := nI_clamp (by omega)
    have hin : vp_in (nI b) 9 := vp_in_nI hb (by omega)
    by_cases h : f b = -1
    · refine ⟨nI a, un, upd c p (c p + 1), fun post n hn k => ?_, fun post n hn k => ?_⟩
      · obtain ⟨m, rfl⟩ : ∃ m, n = m + 1 := ⟨n - 1, by omega⟩
        exact br_f h40 (xx_exit hb (fun _ => br_f (by decide) (xx_fin hb hp (fun _ => k) (fun z => absurd h z))) (fun z => absurd h z))
      · obtain ⟨m, rfl⟩ : ∃ m, n = m + 1 := ⟨n - 1, by omega⟩
        rw [decide_eq_false (p := ¬ f b = -1) (fun z => z h), Bool.and_false]
        exact yy_fin ok hb hp (fun _ => k) (fun z => absurd h z)
    · obtain ⟨nf, hnf, ef⟩ := ((ok b hb).1).resolve_left h
      have eg : decide (¬ f b = -1) = true := decide_eq_true h
      by_cases h2 : g b = -1
      · obtain ⟨r, un', c', HX, HY⟩ := ih (a + 1) nf (px_np b nf p) us (px_nc b nf p c) (by omega) hnf (px_np_lt hp hnf) hu
        refine ⟨r, un', c', fun post n hn k => ?_, fun post n hn k => ?_⟩
        · obtain ⟨m, rfl⟩ : ∃ m, n = m + 1 := ⟨n - 1, by omega⟩
          refine br_f h40 (xx_exit hb (fun z => absurd z h) (fun _ => br_t rfl ⟨hin, nm_r (e' := nI nf) (by rw [eb]; exact ef) (xx_two hb (fun _ => br_t rfl ?_) (fun z => absurd h2 z))⟩))
          exact xx_step hb hp hnf (HX post m (by omega) k)
        · obtain ⟨m, rfl⟩ : ∃ m, n = m + 1 := ⟨n - 1, by omega⟩
          rw [ea, eg]
          refine br_f (by decide) ⟨hin, nm_r (e' := nI nf) (by rw [eb]; exact ef) ⟨hin, br_t ?_ (yy_step ok hb hp hnf (by omega) (HY post m (by omega) k))⟩⟩
          rw [eb, h2]
          decide
      · have g0 : ¬ g b < 0 := Int32.not_lt.mpr ((px_ok_g ok hb).mpr h2)
        by_cases h3 : us = mn
        · refine ⟨nI a, un + 1, c, fun post n hn k => ?_, fun post n hn k => ?_⟩
          · obtain ⟨m, rfl⟩ : ∃ m, n = m + 1 := ⟨n - 1, by omega⟩
            exact br_f h40 (xx_exit hb (fun z => absurd z h) (fun _ => br_t rfl ⟨hin, nm_e (xx_two hb (fun z => absurd z h2) (fun _ => br_f (by decide) (br_t (by rw [h3]) (xx_fin hb hp (fun z => absurd z h) (fun _ => k)))))⟩))
          · obtain ⟨m, rfl⟩ : ∃ m, n = m + 2 := ⟨n - 2, by omega⟩
            rw [ea, eg]
            refine br_f (by decide) ⟨hin, nm_e ⟨hin, ?_⟩⟩
            rw [eb]
            refine br_f g0 (br_t (nI_le (by omega) (by omega)) ?_)
            have F : wY_run_38 post ch (nI mn) un (m + 1) (nI b) (nI p) (nI a) (nI us + 1) 0 f g c := yy_fin ok hb hp (fun z => absurd z h) (fun _ => k)
            exact br_c (fun _ => ⟨hin, nm_e (br_t rfl F)⟩) (fun _ => ⟨hin, nm_e (br_t rfl F)⟩)
        · obtain ⟨⟨ng, hng, eg2⟩, _⟩ := ((ok b hb).2).resolve_left h2
          have hu2 : us + 1 ≤ mn := by omega
          have hne : ¬ nI us = nI mn := fun z => h3 ((nI_eq (by omega) (by omega)).mp z)
          have hnl : ¬ nI mn ≤ nI us := nI_ge (by omega) (by omega)
          rcases px_01 (ch >>> (nI us &&& 31)) with hb0 | hb1
          · obtain ⟨r, un', c', HX, HY⟩ := ih (a + 1) nf (px_np b nf p) (us + 1) (px_nc b nf p c) (by omega) hnf (px_np_lt hp hnf) hu2
            refine ⟨r, un', c', fun post n hn k => ?_, fun post n hn k => ?_⟩
            · obtain ⟨m, rfl⟩ : ∃ m, n = m + 1 := ⟨n - 1, by omega⟩
              refine br_f h40 (xx_exit hb (fun z => absurd z h) (fun _ => br_t rfl ⟨hin, nm_r (e' := nI nf) (by rw [eb]; exact ef) (xx_two hb (fun z => absurd z h2) (fun _ => br_f (by decide) (br_f hne (br_f ?_ (nm_r (nI_1 us) ?_)))))⟩))
              · rw [hb0]; decide
              · exact xx_step hb hp hnf (HX post m (by omega) k)
            · obtain ⟨m, rfl⟩ : ∃ m, n = m + 1 := ⟨n - 1, by omega⟩
              rw [ea, eg]
              refine br_f (by decide) ⟨hin, nm_e ⟨hin, ?_⟩⟩
              rw [eb]
              refine br_f g0 (br_f hnl (br_t hb0 ⟨hin, nm_r (nI_1 us) ?_⟩))
              rw [eb, ef]
              exact yy_step ok hb hp hnf (by omega) (HY post m (by omega) k)
          · obtain ⟨r, un', c', HX, HY⟩ := ih (a + 1) ng (px_np b ng p) (us + 1) (px_nc b ng p c) (by omega) hng (px_np_lt hp hng) hu2
            refine ⟨r, un', c', fun post n hn k => ?_, fun post n hn k => ?_⟩
            · obtain ⟨m, rfl⟩ : ∃ m, n = m + 1 := ⟨n - 1, by omega⟩
              refine br_f h40 (xx_exit hb (fun z => absurd z h) (fun _ => br_t rfl ⟨hin, nm_e (xx_two hb (fun z => absurd z h2) (fun _ => br_f (by decide) (br_f hne (br_t hb1 ⟨hin, nm_r (e' := nI ng) (by rw [eb]; exact eg2) (nm_r (nI_1 us) ?_)⟩))))⟩))
              exact xx_step hb hp hng (HX post m (by omega) k)
            · obtain ⟨m, rfl⟩ : ∃ m, n = m + 1 := ⟨n - 1, by omega⟩
              rw [ea, eg]
              refine br_f (by decide) ⟨hin, nm_e ⟨hin, ?_⟩⟩
              rw [eb]
              refine br_f g0 (br_f hnl (br_f ?_ ⟨hin, nm_r (nI_1 us) ?_⟩))
              · rw [hb1]; decide
              · rw [eb, eg2]
                exact yy_step ok hb hp hng (by omega) (HY post m (by omega) k)
theorem i_vc_run {k : Nat} {u : SX} {v : SY} (I : i_Rel k u v) (hk : k + 4 ≤ 2048) (v1 : Int32) (v2 : Int32) : wpX_run (fun r u' => wpY_run (fun r' v' => r' = r ∧ i_Rel (k + 4) u' v') v v1 v2) u v1 v2 := by
  have J : i_Rel (k + 4) u v := I
  obtain ⟨un, f, g, cd, sb, ip, c, rfl, rfl, ok, hC, hS, hP⟩ := I
  unfold wpX_run wpY_run
  dsimp only
  by_cases h0 : v2 < 0
  · exact br_t h0 (br_t h0 ⟨rfl, J⟩)
  · by_cases h1 : v2 ≤ 24
    · obtain ⟨mn, hm, rfl⟩ := nI_of2 (M := 24) (n := 24) (by decide) h0 h1
      obtain ⟨r, un', c', HX, HY⟩ := px_run (un := un) (cd := cd) (sb := sb) (ip := ip) (ch := v1) ok hm 40 0 0 1 0 c rfl (by omega) (by omega) (by omega)
      refine br_f h0 (br_t h1 ⟨41, HX _ 41 (by omega) (br_f h0 (br_t h1 (yy_ns (b := 0) ok (by omega) ?_)))⟩)
      have Y := HY (fun r' v' => r' = r ∧ i_Rel (k + 4) (un', f, g, cd, sb, ip, c') v') 42 (by omega) ⟨rfl, un', f, g, cd, sb, ip, c', rfl, rfl, ok, hC, hS, hP⟩
      by_cases h2 : f 0 = -1
      · rw [decide_eq_false (p := ¬ f 0 = -1) (fun z => z h2), Bool.and_false] at Y
        refine br_t ?_ ⟨42, Y⟩
        rw [px_ns0 h2]
        decide
      · rw [decide_eq_true (p := ¬ f 0 = -1) h2] at Y
        exact br_f (px_ns1 h2).1 ⟨42, Y⟩
    · exact br_f h0 (br_f h1 (br_f h0 (br_f h1 ⟨rfl, J⟩)))
end PXN
end
section
section PXO
variable {un : Int32} {f g cd sb ip c : Nat → Int32}
/-! what lead takes and what it refuses -/
def px_o2 (x : Int32) : Prop := px_out x ∧ ¬ x = -1
def px_va (x y : Int32) : Prop := (x = -1 ∧ y = -1) ∨ ∃ j, j < 9 ∧ x = nI j ∧ (y = -1 ∨ ∃ i, i < 9 ∧ y = nI i ∧ ¬ j = i)
def px_iv (x y : Int32) : Prop := px_o2 x ∨ px_o2 y ∨ (x = -1 ∧ ∃ i, i < 9 ∧ y = nI i) ∨ ∃ j, j < 9 ∧ x = nI j ∧ y = nI j
theorem px_3 (x : Int32) : x = -1 ∨ (∃ j, j < 9 ∧ x = nI j) ∨ px_o2 x := by
  by_cases h : x = -1
  · exact Or.inl h
  · rcases px_bl x with h2 | h2
    · exact Or.inr (Or.inl h2)
    · exact Or.inr (Or.inr ⟨h2, h⟩)
theorem px_vi (x y : Int32) : px_va x y ∨ px_iv x y := by
  rcases px_3 x with hx | ⟨j, hj, hx⟩ | hx
  · rcases px_3 y with hy | hy | hy
    · exact Or.inl (Or.inl ⟨hx, hy⟩)
    · exact Or.inr (Or.inr (Or.inr (Or.inl ⟨hx, hy⟩)))
    · exact Or.inr (Or.inr (Or.inl hy))
  · rcases px_3 y with hy | ⟨i, hi, hy⟩ | hy
    · exact Or.inl (Or.inr ⟨j, hj, hx, Or.inl hy⟩)
    · by_cases e : j = i
      · exact Or.inr (Or.inr (Or.inr (Or.inr ⟨j, hj, hx, by rw [hy, e]⟩)))
      · exact Or.inl (Or.inr ⟨j, hj, hx, Or.inr ⟨i, hi, hy, e⟩⟩)
    · exact Or.inr (Or.inr (Or.inl hy))
  · exact Or.inr (Or.inl hx)
theorem px_om : px_out (-1) := Or.inl (by decide)
theorem px_o2n {x : Int32} (h : px_o2 x) (h1 : ¬ x < -1) (h2 : ¬ 8 < x) : False := by
  obtain ⟨h3, h4⟩ := h
  have e : ¬ x.toInt = (-1 : Int32).toInt := fun z => h4 (Int32.toInt_inj.mp z)
  have m1 : (-1 : Int32).toInt = -1 := by decide
  have m0 : (0 : Int32).toInt = 0 := by decide
  have m8 : (8 : Int32).toInt = 8 := by decide
  have m9 : (9 : Int32).toInt = 9 := by decide
  rw [Int32.lt_iff_toInt_lt] at h1 h2
  rcases h3 with h3 | ⟨_, h3⟩
  · rw [Int32.lt_iff_toInt_lt] at h3
    omega
  · rw [Int32.le_iff_toInt_le] at h3
    omega
theorem px_lo {j : Nat} (h : j < 9) : ¬ nI j < -1 := by
  rw [Int32.lt_iff_toInt_lt, nI_toInt (by omega)]
  have m1 : (-1 : Int32).toInt = -1 := by decide
  omega
theorem px_8 {j : Nat} (h : j < 9) : ¬ (8 : Int32) < nI j := nI_nlt (a := 8) (by omega) (by omega)
theorem xx_as1 {post : Int32 → Prop} {x y : Int32} (h : px_va x y) (k : post 1) : wpX_areSuccessors post x y := by
  rcases h with ⟨rfl, rfl⟩ | ⟨j, hj, rfl, rfl | ⟨i, hi, rfl, e⟩⟩
  · exact br_t rfl (br_t rfl k)
  · exact br_t rfl (br_f (px_nm1 hj) (xx_b1 hj (br_f (by decide) k)))
  · exact br_f (px_nm1 hi) (xx_b1 hj (br_f (by decide) (xx_b1 hi (br_f (by decide) (br_f (fun z => e ((nI_eq (by omega) (by omega)).mp z)) k)))))
theorem xx_as0 {post : Int32 → Prop} {x y : Int32} (h : px_iv x y) (k : post 0) : wpX_areSuccessors post x y := by
  rcases h with h | h | ⟨rfl, i, hi, rfl⟩ | ⟨j, hj, rfl, rfl⟩
  · exact br_c (fun _ => br_f h.2 (xx_b0 h.1 (br_t rfl k))) (fun _ => xx_b0 h.1 (br_t rfl k))
  · refine br_f h.2 ?_
    rcases px_bl x with ⟨j, hj, rfl⟩ | h2
    · exact xx_b1 hj (br_f (by decide) (xx_b0 h.1 (br_t rfl k)))
    · exact xx_b0 h2 (br_t rfl k)
  · exact br_f (px_nm1 hi) (xx_b0 px_om (br_t rfl k))
  · exact br_f (px_nm1 hj) (xx_b1 hj (br_f (by decide) (xx_b1 hj (br_f (by decide) (br_t rfl k)))))
theorem yy_as1 {post : Int32 → SY → Prop} {b : Nat} {x y : Int32} (hb : b < 9) (h : px_va x y) (k : wY_lead_52 post (nI b) x y un f g c) : wpY_lead post (un, f, g, c) (nI b) x y := by
  unfold wpY_lead
  dsimp only
  refine yy_b1 hb (br_f (by decide) ?_)
  rcases h with ⟨rfl, rfl⟩ | ⟨j, hj, rfl, rfl | ⟨i, hi, rfl, e⟩⟩
  · exact br_f (by decide) (br_f (by decide) (br_f (by decide) (br_f (by decide) (br_t rfl (br_t rfl (br_t rfl (br_t rfl k)))))))
  · exact br_f (px_lo hj) (br_f (px_8 hj) (br_f (by decide) (br_f (by decide) (br_f (px_nm1 hj) (br_f (px_nm1 hj) k)))))
  · exact br_f (px_lo hj) (br_f (px_8 hj) (br_f (px_lo hi) (br_f (px_8 hi) (br_f (px_nm1 hj) (br_f (fun z => e ((nI_eq (by omega) (by omega)).mp z)) k)))))
theorem yy_as0 {post : Int32 → SY → Prop} {b : Nat} {x y : Int32} (hb : b < 9) (h : px_iv x y) (k : post (-1) (un, f, g, c)) : wpY_lead post (un, f, g, c) (nI b) x y := by
  unfold wpY_lead
  dsimp only
  refine yy_b1 hb (br_f (by decide) (br_c (fun _ => k) (fun h1 => br_c (fun _ => k) (fun h2 => br_c (fun _ => k) (fun h3 => br_c (fun _ => k) (fun h4 => ?_))))))
  rcases h with h | h | ⟨rfl, i, hi, rfl⟩ | ⟨j, hj, rfl, rfl⟩
  · exact (px_o2n h h1 h2).elim
  · exact (px_o2n h h3 h4).elim
  · exact br_t rfl (br_f (px_nm1 hi) k)
  · exact br_f (px_nm1 hj) (br_t rfl (br_f (px_nm1 hj) k))
/-! the paths found anew -/
theorem xx_find {post : SX → Prop} (k : ∀ ip', px_P f g ip' → post (un, f, g, cd, sb, ip', c)) : wpX_findPaths post (un, f, g, cd, sb, ip, c) := by
  refine ⟨512, px_lp (fun n j => ∀ ip, (∀ s, 1 ≤ s → s ≤ j → ip s = px_i (px_p f g s)) → wX_findPaths_2 post un n (nI (j + 1)) f g cd sb ip c) (fun n ip h => br_t px_512e (k ip (fun s a b => h s a (by omega)))) (fun n j hj H ip h => ?_) ip (fun s a b => by omega)⟩
  refine br_f (px_512t (by omega)) (xx_p (by omega) ⟨vp_in_nI (by omega) (by omega), nm_r (e' := upd ip (j + 1) (px_i (px_p f g (j + 1)))) (by rw [nI_clamp (by omega), px_i_v]) (nm_r (nI_1 _) (H _ (fun s a b => ?_)))⟩)
  by_cases z : s = j + 1
  · rw [z]; exact px_us
  · rw [px_un z]
    exact h s a (by omega)
/-! the counts forgotten -/
def px_z (c : Nat → Int32) (i : Nat) : Nat → Int32 := fun j => if j < i then 0 else c j
theorem px_z_0 {c : Nat → Int32} : px_z c 0 = c := by
  funext j
  exact if_neg (Nat.not_lt_zero j)
theorem px_z_s {c : Nat → Int32} {i : Nat} : upd (px_z c i) i 0 = px_z c (i + 1) := by
  funext j
  by_cases h : j = i
  · have e : px_z c (i + 1) j = 0 := if_pos (by omega)
    rw [e, h]
    exact px_us
  · rw [px_un h]
    unfold px_z
    by_cases h2 : j < i
    · rw [if_pos h2, if_pos (by omega)]
    · rw [if_neg h2, if_neg (by omega)]
theorem xx_forget {post : SX → Prop} (k : post (0, f, g, cd, sb, ip, px_z c 512)) : ∀ d i, i + d = 512 → ∀ n, d < n → wX_forgetCounts_2 post un n (nI i) f g cd sb ip (px_z c i) := by
  intro d
  induction d with
  | zero =>
    intro i hi n hn
    obtain ⟨m, rfl⟩ : ∃ m, n = m + 1 := ⟨n - 1, by omega⟩
    have e : i = 512 := by omega
    rw [e]
    exact br_t px_512e k
  | succ d ih =>
    intro i hi n hn
    obtain ⟨m, rfl⟩ : ∃ m, n = m + 1 := ⟨n - 1, by omega⟩
    refine br_f (px_512t (by omega)) ⟨vp_in_nI (by omega) (by omega), nm_r (e' := px_z c (i + 1)) ?_ (nm_r (nI_1 i) (ih (i + 1) (by omega) m (by omega)))⟩
    rw [nI_clamp (by omega), px_z_s]
theorem yy_forget {post : Int32 → SY → Prop} {x1 x2 x3 x4 : Int32} (k : wY_lead_109 post x1 x2 x3 x4 0 f g (px_z c 512)) : ∀ d i, i + d = 512 → ∀ n, d < n → wY_lead_82 post x1 x2 x3 x4 un n (nI i) f g (px_z c i) := by
  intro d
  induction d with
  | zero =>
    intro i hi n hn
    obtain ⟨m, rfl⟩ : ∃ m, n = m + 1 := ⟨n - 1, by omega⟩
    have e : i = 512 := by omega
    rw [e]
    exact br_t px_512e k
  | succ d ih =>
    intro i hi n hn
    obtain ⟨m, rfl⟩ : ∃ m, n = m + 1 := ⟨n - 1, by omega⟩
    refine br_f (px_512t (by omega)) ⟨vp_in_nI (by omega) (by omega), nm_r (e' := px_z c (i + 1)) ?_ (nm_r (nI_1 i) (ih (i + 1) (by omega) m (by omega)))⟩
    rw [nI_clamp (by omega), px_z_s]
theorem px_ok_u {b : Nat} {x y : Int32} (ok : px_ok f g) (h : px_va x y) : px_ok (upd f b x) (upd g b y) := by
  intro a ha
  by_cases e : a = b
  · rw [e, px_us, px_us]
    rcases h with ⟨rfl, rfl⟩ | ⟨j, hj, rfl, rfl | ⟨i, hi, rfl, e⟩⟩
    · exact ⟨Or.inl rfl, Or.inl rfl⟩
    · exact ⟨Or.inr ⟨j, hj, rfl⟩, Or.inl rfl⟩
    · exact ⟨Or.inr ⟨j, hj, rfl⟩, Or.inr ⟨⟨i, hi, rfl⟩, px_nm1 hj⟩⟩
  · rw [px_un e, px_un e]
    exact ok a ha
theorem xx_new {post : Int32 → SX → Prop} {b : Nat} {x y r : Int32} (hb : b < 9) (k : ∀ ip', px_P (upd f b x) (upd g b y) ip' → post r (0, upd f b x, upd g b y, cd, sb, ip', px_z c 512)) : wX_lead_44 post (nI b) x y r un f g cd sb ip c := by
  have e : (nI b).toNatClampNeg = b := nI_clamp (by omega)
  have hin : vp_in (nI b) 9 := vp_in_nI hb (by omega)
  unfold wX_lead_44
  rw [e]
  refine ⟨hin, nm_e ⟨hin, nm_e (xx_find (fun ip' h => ?_))⟩⟩
  have H := xx_forget (un := un) (f := upd f b x) (g := upd g b y) (cd := cd) (sb := sb) (ip := ip') (c := c) (post := fun u => match u with | (f_unfinishedRuns_28, a_firstOf_29, a_secondOf_30, a_codeOf_31, a_setsByCode_32, a_isPath_33, a_timesGone_34) => post r (f_unfinishedRuns_28, a_firstOf_29, a_secondOf_30, a_codeOf_31, a_setsByCode_32, a_isPath_33, a_timesGone_34)) (k ip' h) 512 0 rfl 513 (by omega)
  rw [px_z_0] at H
  exact ⟨513, H⟩
theorem yy_109 {post : Int32 → SY → Prop} {b : Nat} {x y r : Int32} (hb : b < 9) (k : post r (un, upd f b x, upd g b y, c)) : wY_lead_109 post (nI b) x y r un f g c := by
  have e : (nI b).toNatClampNeg = b := nI_clamp (by omega)
  have hin : vp_in (nI b) 9 := vp_in_nI hb (by omega)
  unfold wY_lead_109
  rw [e]
  exact ⟨hin, nm_e ⟨hin, nm_e k⟩⟩
theorem yy_82 {post : Int32 → SY → Prop} {b : Nat} {x y r : Int32} (hb : b < 9) (k : post r (0, upd f b x, upd g b y, px_z c 512)) : ∃ n, wY_lead_82 post (nI b) x y r un n 0 f g c := by
  have H := yy_forget (un := un) (c := c) (yy_109 hb k) 512 0 rfl 513 (by omega)
  rw [px_z_0] at H
  exact ⟨513, H⟩
theorem i_vc_lead {k : Nat} {u : SX} {v : SY} (I : i_Rel k u v) (hk : k + 4 ≤ 2048) (v1 : Int32) (v2 : Int32) (v3 : Int32) : wpX_lead (fun r u' => wpY_lead (fun r' v' => r' = r ∧ i_Rel (k + 4) u' v') v v1 v2 v3) u v1 v2 v3 := by
  have J : i_Rel (k + 4) u v := I
  obtain ⟨un, f, g, cd, sb, ip, c, rfl, rfl, ok, hC, hS, hP⟩ := I
  unfold wpX_lead
  dsimp only
  rcases px_bl v1 with ⟨b, hb, rfl⟩ | h
  · rcases px_vi v2 v3 with h | h
    · have e : (nI b).toNatClampNeg = b := nI_clamp (by omega)
      have hin : vp_in (nI b) 9 := vp_in_nI hb (by omega)
      rw [e]
      have ok' := px_ok_u (b := b) ok h
      refine xx_b1 hb (br_f (by decide) (xx_as1 h (br_f (by decide) (xx_ns hb ⟨hin, ?_⟩))))
      by_cases h1 : f b = v2
      · refine br_t h1 ⟨hin, ?_⟩
        by_cases h2 : g b = v3
        · refine br_t h2 (yy_as1 hb h (yy_ns ok hb ⟨hin, ?_⟩))
          rw [e]
          refine br_t h1 ⟨hin, br_t h2 (yy_109 hb ?_)⟩
          rw [← h1, ← h2, px_uid, px_uid]
          exact ⟨rfl, J⟩
        · refine br_f h2 (xx_new hb (fun ip' hp => yy_as1 hb h (yy_ns ok hb ⟨hin, ?_⟩)))
          rw [e]
          exact br_t h1 ⟨hin, br_f h2 (yy_82 hb ⟨rfl, 0, _, _, cd, sb, ip', _, rfl, rfl, ok', hC, hS, hp⟩)⟩
      · refine br_f h1 (xx_new hb (fun ip' hp => yy_as1 hb h (yy_ns ok hb ⟨hin, ?_⟩)))
        rw [e]
        exact br_f h1 (yy_82 hb ⟨rfl, 0, _, _, cd, sb, ip', _, rfl, rfl, ok', hC, hS, hp⟩)
    · exact xx_b1 hb (br_f (by decide) (xx_as0 h (br_t rfl (yy_as0 hb h ⟨rfl, J⟩))))
  · refine xx_b0 h (br_t rfl ?_)
    unfold wpY_lead
    dsimp only
    exact yy_b0 h (br_t rfl ⟨rfl, J⟩)
end PXO
end
section
section PXI
variable {un : Int32} {f g cd sb ip c : Nat → Int32}
/-! the codes made -/
theorem xx_code {post : SX → Prop} {J : Int32 → (Nat → Int32) → (Nat → Int32) → (Nat → Int32) → (Nat → Int32) → (Nat → Int32) → (Nat → Int32) → Prop} {s : Nat} (hs : s < 512) (k : J (nI (s + 1)) f g (upd cd s (nI (px_cd s))) sb ip c) : ∀ d b, b + d = 9 → ∀ n, d < n → wX_makeCodes_13 post J (nI s) un f g cd sb ip c n (nI (px_cf s b)) (nI b) := by
  intro d
  induction d with
  | zero =>
    intro b hb n hn
    obtain ⟨m, rfl⟩ : ∃ m, n = m + 1 := ⟨n - 1, by omega⟩
    have e : b = 9 := by omega
    rw [e]
    refine br_t px_9e ⟨vp_in_nI hs (by omega), nm_r (e' := upd cd s (nI (px_cd s))) ?_ (nm_r (nI_1 s) k)⟩
    rw [nI_clamp (by omega)]
    rfl
  | succ d ih =>
    intro b hb n hn
    obtain ⟨m, rfl⟩ : ∃ m, n = m + 1 := ⟨n - 1, by omega⟩
    have hb9 : b < 9 := by omega
    have H := ih (b + 1) (by omega) m (by omega)
    refine br_f (px_9t hb9) (xx_has hs hb9 (px_ib (px_t s b) (fun h => ?_) (fun h => ?_)))
    · have e : px_cf s (b + 1) = px_cf s b := if_neg (px_nt h)
      rw [e] at H
      exact nm_r (nI_1 b) H
    · have e : px_cf s (b + 1) = px_cf s b * 10 + b + 1 := if_pos h
      rw [e] at H
      refine nm_r (e' := nI (px_cf s b * 10 + b + 1)) ?_ (nm_r (nI_1 b) H)
      rw [show (10 : Int32) = nI 10 from rfl, pk_mul, nI_add, nI_1]
theorem xx_codes {post : SX → Prop} (k : ∀ cd', px_C cd' → post (un, f, g, cd', sb, ip, c)) : wpX_makeCodes post (un, f, g, cd, sb, ip, c) := by
  refine ⟨512, px_lp (fun n j => ∀ cd, (∀ s, 1 ≤ s → s ≤ j → cd s = nI (px_cd s)) → wX_makeCodes_2 post un n (nI (j + 1)) f g cd sb ip c) (fun n cd h => br_t px_512e (k cd (fun s a b => h s a (by omega)))) (fun n j hj H cd h => ?_) cd (fun s a b => by omega)⟩
  refine br_f (px_512t (by omega)) ⟨10, xx_code (by omega) (H _ (fun s a b => ?_)) 9 0 rfl 10 (by omega)⟩
  by_cases z : s = j + 1
  · rw [z]; exact px_us
  · rw [px_un z]
    exact h s a (by omega)
/-! the sets put in order -/
theorem px_put {π : Nat → Nat} {j p : Nat} (hp : p ≤ j) (h1 : ∀ i, i < p → sb i = nI (π i)) (h2 : ∀ i, p < i → i ≤ j → sb i = nI (π (i - 1))) : ∀ i, i < j + 1 → upd sb p (nI (j + 1)) i = nI (px_pt π p (j + 1) i) := by
  intro i hi
  rcases Nat.lt_trichotomy i p with z | z | z
  · rw [px_un (by omega), px_pt_lo z]
    exact h1 i z
  · rw [z, px_us, px_pt_at]
  · rw [px_un (by omega), px_pt_hi z]
    exact h2 i z (by omega)
theorem xx_ins {post : SX → Prop} {J : Int32 → (Nat → Int32) → (Nat → Int32) → (Nat → Int32) → (Nat → Int32) → (Nat → Int32) → (Nat → Int32) → Prop} {π : Nat → Nat} {j : Nat} (hj : j < 511) (hC : px_C cd) (hS : px_So π j) (k : ∀ sb' π', px_So π' (j + 1) → (∀ i, i < j + 1 → sb' i = nI (π' i)) → J (nI (j + 1 + 1)) f g cd sb' ip c) : ∀ p sb, p ≤ j → (∀ i, i < p → sb i = nI (π i)) → (∀ i, p < i → i ≤ j → sb i = nI (π (i - 1))) → (∀ i, p ≤ i → i < j → px_cd (j + 1) < px_cd (π i)) → ∀ n, p < n → wX_orderByCode_13 post J (nI (j + 1)) un n (nI p) f g cd sb ip c := by
  intro p
  induction p with
  | zero =>
    intro sb hp h1 h2 h3 n hn
    obtain ⟨m, rfl⟩ : ∃ m, n = m + 1 := ⟨n - 1, by omega⟩
    refine br_t (by decide) ⟨vp_in_nI (by omega) (by omega), nm_r (e' := upd sb 0 (nI (j + 1))) ?_ (nm_r (nI_1 _) (k _ _ (px_So_in hS hp h3 (Or.inl rfl)) (px_put hp h1 h2)))⟩
    rw [nI_clamp (by omega)]
  | succ p ih =>
    intro sb hp h1 h2 h3 n hn
    obtain ⟨m, rfl⟩ : ∃ m, n = m + 1 := ⟨n - 1, by omega⟩
    have ep : (nI p).toNatClampNeg = p := nI_clamp (by omega)
    have ep1 : (nI (p + 1)).toNatClampNeg = p + 1 := nI_clamp (by omega)
    have ej : (nI (j + 1)).toNatClampNeg = j + 1 := nI_clamp (by omega)
    have hπ := hS.1 p (by omega)
    have eπ : (nI (π p)).toNatClampNeg = π p := nI_clamp (by omega)
    have inp : vp_in (nI p) 511 := vp_in_nI (by omega) (by omega)
    have inp1 : vp_in (nI (p + 1)) 511 := vp_in_nI (by omega) (by omega)
    refine br_f (nI_nle (by omega) (by omega)) ?_
    rw [nI_pred p, ep, h1 p (by omega), eπ, ej, ep1, hC (π p) hπ.1 (by omega), hC (j + 1) (by omega) (by omega)]
    refine ⟨inp, vp_in_nI (by omega) (by omega), vp_in_nI (by omega) (by omega), pk_le (px_cd (π p)) (px_cd (j + 1)) (fun h => ?_) (fun h => ?_) rfl rfl (px_cd_lt _ (by omega)) (px_cd_lt _ (by omega))⟩
    · have hne : ¬ px_cd (π p) = px_cd (j + 1) := fun z => by
        have := px_inj (by omega) (by omega) z
        omega
      exact ⟨inp1, nm_e (nm_r (nI_1 _) (k _ _ (px_So_in hS hp h3 (Or.inr (by show px_cd (π p) < px_cd (j + 1); omega))) (px_put hp h1 h2)))⟩
    · refine ⟨inp, inp1, nm_e (nm_r (pk_m1 p) (ih _ (by omega) (fun i hi => ?_) (fun i hi hi2 => ?_) (fun i hi hi2 => ?_) m (by omega)))⟩
      · rw [px_un (by omega)]
        exact h1 i (by omega)
      · by_cases z : i = p + 1
        · rw [z, px_us]
          rfl
        · rw [px_un z]
          exact h2 i (by omega) hi2
      · by_cases z : i = p
        · rw [z]; exact h
        · exact h3 i (by omega) hi2
theorem xx_order {post : SX → Prop} (hC : px_C cd) (k : ∀ sb', px_S sb' → post (un, f, g, cd, sb', ip, c)) : wpX_orderByCode post (un, f, g, cd, sb, ip, c) := by
  refine ⟨512, px_lp (fun n j => ∀ sb π, px_So π j → (∀ i, i < j → sb i = nI (π i)) → wX_orderByCode_2 post un n (nI (j + 1)) f g cd sb ip c) (fun n sb π hS h => br_t px_512e (k sb ⟨π, hS, h⟩)) (fun n j hj H sb π hS h => ?_) sb (fun _ => 0) ⟨fun i hi => by omega, fun i j a b => by omega, fun s a b => by omega⟩ (fun i hi => by omega)⟩
  exact br_f (px_512t (by omega)) (nm_r (nI_pred j) ⟨j + 1, xx_ins hj hC hS (fun sb' π' hS' h' => H sb' π' hS' h') j sb (Nat.le_refl j) h (fun i a b => by omega) (fun i a b => by omega) (j + 1) (by omega)⟩)
/-! the constructors -/
def px_m (i : Nat) : Nat → Int32 := fun j => if j < i then -1 else 0
theorem px_m_0 : px_m 0 = fun _ => 0 := by
  funext j
  exact if_neg (Nat.not_lt_zero j)
theorem px_m_s {i : Nat} : upd (px_m i) i (-1) = px_m (i + 1) := by
  funext j
  by_cases h : j = i
  · have e : px_m (i + 1) j = -1 := if_pos (by omega)
    rw [e, h]
    exact px_us
  · rw [px_un h]
    unfold px_m
    by_cases h2 : j < i
    · rw [if_pos h2, if_pos (by omega)]
    · rw [if_neg h2, if_neg (by omega)]
theorem px_m_ok : px_ok (px_m 9) (px_m 9) := fun b hb => ⟨Or.inl (if_pos hb), Or.inl (if_pos hb)⟩
theorem xx_init {post : SX → Prop} (k : ∀ cd' sb' ip', px_C cd' → px_S sb' → px_P (px_m 9) (px_m 9) ip' → post (un, px_m 9, px_m 9, cd', sb', ip', c)) : ∀ d b, b + d = 9 → ∀ n, d < n → wX_init_63 post un n (nI b) (px_m b) (px_m b) cd sb ip c := by
  intro d
  induction d with
  | zero =>
    intro b hb n hn
    obtain ⟨m, rfl⟩ : ∃ m, n = m + 1 := ⟨n - 1, by omega⟩
    have e : b = 9 := by omega
    rw [e]
    exact br_t px_9e (xx_codes (fun cd' h1 => xx_order h1 (fun sb' h2 => xx_find (fun ip' h3 => k cd' sb' ip' h1 h2 h3))))
  | succ d ih =>
    intro b hb n hn
    obtain ⟨m, rfl⟩ : ∃ m, n = m + 1 := ⟨n - 1, by omega⟩
    have hin : vp_in (nI b) 9 := vp_in_nI (by omega) (by omega)
    have e : upd (px_m b) (nI b).toNatClampNeg (-1) = px_m (b + 1) := by rw [nI_clamp (by omega), px_m_s]
    exact br_f (px_9t (by omega)) ⟨hin, nm_r e ⟨hin, nm_r e (nm_r (nI_1 b) (ih (b + 1) (by omega) m (by omega)))⟩⟩
theorem yy_init {post : SY → Prop} (k : post (un, px_m 9, px_m 9, c)) : ∀ d b, b + d = 9 → ∀ n, d < n → wY_init_31 post un n (nI b) (px_m b) (px_m b) c := by
  intro d
  induction d with
  | zero =>
    intro b hb n hn
    obtain ⟨m, rfl⟩ : ∃ m, n = m + 1 := ⟨n - 1, by omega⟩
    have e : b = 9 := by omega
    rw [e]
    exact br_t px_9e k
  | succ d ih =>
    intro b hb n hn
    obtain ⟨m, rfl⟩ : ∃ m, n = m + 1 := ⟨n - 1, by omega⟩
    have hin : vp_in (nI b) 9 := vp_in_nI (by omega) (by omega)
    have e : upd (px_m b) (nI b).toNatClampNeg (-1) = px_m (b + 1) := by rw [nI_clamp (by omega), px_m_s]
    exact br_f (px_9t (by omega)) ⟨hin, nm_r e ⟨hin, nm_r e (nm_r (nI_1 b) (ih (b + 1) (by omega) m (by omega)))⟩⟩
theorem i_vc0 : wpX_init (fun u => wpY_init (fun v => i_Rel 0 u v)) := by
  have Y : ∀ post : SY → Prop, post (0, px_m 9, px_m 9, fun _ => 0) → wpY_init post := by
    intro post k
    have H := yy_init k 9 0 rfl 10 (by omega)
    rw [px_m_0] at H
    exact ⟨10, H⟩
  have X : ∀ post : SX → Prop, (∀ cd' sb' ip', px_C cd' → px_S sb' → px_P (px_m 9) (px_m 9) ip' → post (0, px_m 9, px_m 9, cd', sb', ip', fun _ => 0)) → wpX_init post := by
    intro post k
    have H := xx_init (cd := fun _ => 0) (sb := fun _ => 0) (ip := fun _ => 0) k 9 0 rfl 10 (by omega)
    rw [px_m_0] at H
    exact ⟨10, H⟩
  exact X _ (fun cd' sb' ip' h1 h2 h3 => Y _ ⟨0, _, _, cd', sb', ip', _, rfl, rfl, px_m_ok, h1, h2, h3⟩)
end PXI
end
section
theorem i_up {k : Nat} {u : SX} {v : SY} (h : i_Rel k u v) : i_Rel (k + 4) u v := h
end
