section PXP
theorem pk_sub {a b : Nat} (h : b ≤ a) : nI a - nI b = nI (a - b) := by
  obtain ⟨c, rfl⟩ : ∃ c, a = c + b := ⟨a - b, by omega⟩
  rw [← nI_add, Int32.add_sub_cancel, Nat.add_sub_cancel]
theorem pk_m1 (n : Nat) : nI (n + 1) + (-1) = nI n := by
  rw [← nI_1, Int32.add_assoc, show (1 : Int32) + (-1) = 0 from rfl, Int32.add_zero]
theorem pk_mul (a b : Nat) : nI a * nI b = nI (a * b) := (Int32.ofNat_mul a b).symm
theorem pk_ix (x : Int32) {n : Nat} (hn : n < 2 ^ 31) : x < 0 ∨ nI n ≤ x ∨ ∃ j : Nat, j < n ∧ x = nI j := by
  by_cases h : x < 0
  · exact Or.inl h
  · obtain ⟨j, hj, rfl⟩ := nI_of h
    by_cases h2 : j < n
    · exact Or.inr (Or.inr ⟨j, h2, rfl⟩)
    · exact Or.inr (Or.inl (nI_le (by omega) hj))
theorem pk_le {x y : Int32} {A B : Prop} (a b : Nat) (f : a ≤ b → A) (g : b < a → B) (hx : x = nI a := by rfl) (hy : y = nI b := by rfl) (ha : a < 2 ^ 31 := by omega) (hb : b < 2 ^ 31 := by omega) : (x ≤ y → A) ∧ (¬ x ≤ y → B) := by
  subst hx hy
  rw [nI_leI ha hb]
  exact ⟨f, fun z => g (by omega)⟩
theorem pk_lt {x y : Int32} {A B : Prop} (a b : Nat) (f : a < b → A) (g : b ≤ a → B) (hx : x = nI a := by rfl) (hy : y = nI b := by rfl) (ha : a < 2 ^ 31 := by omega) (hb : b < 2 ^ 31 := by omega) : (x < y → A) ∧ (¬ x < y → B) := by
  subst hx hy
  rw [nI_ltI ha hb]
  exact ⟨f, fun z => g (by omega)⟩
theorem pk_eq {x y : Int32} {A B : Prop} (a b : Nat) (f : a = b → A) (g : a ≠ b → B) (hx : x = nI a := by rfl) (hy : y = nI b := by rfl) (ha : a < 2 ^ 31 := by omega) (hb : b < 2 ^ 31 := by omega) : (x = y → A) ∧ (¬ x = y → B) := by
  subst hx hy
  rw [nI_eq ha hb]
  exact ⟨f, g⟩
theorem pk_in {x : Int32} (n N : Nat) (h : n < N) (hx : x = nI n := by rfl) (hN : N < 2 ^ 31 := by omega) : vp_in x N := by
  subst hx
  exact vp_in_nI h hN
theorem pk_cl {x : Int32} (n : Nat) (hx : x = nI n := by rfl) (h : n < 2 ^ 31 := by omega) : x.toNatClampNeg = n := by
  subst hx
  exact nI_clamp h
theorem pk_tn {n : Nat} (h : n < 2 ^ 32) : (nI n).toBitVec.toNat = n := Nat.mod_eq_of_lt h
theorem pk_and (x : Int32) {m : Int32} (k : Nat) (hm : m.toBitVec.toNat = 2 ^ k - 1) : x &&& m = nI (x.toBitVec.toNat % 2 ^ k) := by
  apply Int32.toBitVec_inj.mp
  apply BitVec.eq_of_toNat_eq
  rw [Int32.toBitVec_and, BitVec.toNat_and, hm, Nat.and_two_pow_sub_one_eq_mod]
  show _ = (BitVec.ofNat 32 _).toNat
  rw [BitVec.toNat_ofNat]
  exact (Nat.mod_eq_of_lt (Nat.lt_of_le_of_lt (Nat.mod_le _ _) x.toBitVec.isLt)).symm
theorem pk_andN {n : Nat} (h : n < 2 ^ 32) {m : Int32} (k : Nat) (hm : m.toBitVec.toNat = 2 ^ k - 1) : nI n &&& m = nI (n % 2 ^ k) := by
  rw [pk_and _ k hm, pk_tn h]
theorem pk_andE (x : Int32) {m : Int32} (k : Nat) (hm : m.toBitVec.toNat = 2 ^ k - 1) : ∃ j : Nat, j < 2 ^ k ∧ x &&& m = nI j := ⟨_, Nat.mod_lt _ (Nat.two_pow_pos k), pk_and x k hm⟩
theorem pk_shl (a s : Int32) (k : Nat) (hs : (s.toBitVec.smod 32).toNat = k) : (a <<< s).toBitVec.toNat = a.toBitVec.toNat * 2 ^ k % 2 ^ 32 := by
  show (a.toBitVec <<< (s.toBitVec.smod 32).toNat).toNat = _
  rw [hs, BitVec.toNat_shiftLeft, Nat.shiftLeft_eq]
theorem pk_shlN {n : Nat} (s : Int32) (k : Nat) (hs : (s.toBitVec.smod 32).toNat = k) (h : n * 2 ^ k < 2 ^ 32) : nI n <<< s = nI (n * 2 ^ k) := by
  apply Int32.toBitVec_inj.mp
  apply BitVec.eq_of_toNat_eq
  have hn : n < 2 ^ 32 := Nat.lt_of_le_of_lt (Nat.le_mul_of_pos_right n (Nat.two_pow_pos k)) h
  rw [pk_shl _ _ k hs, pk_tn hn, pk_tn h, Nat.mod_eq_of_lt h]
theorem pk_shr (a s : Int32) (k : Nat) (hs : (s.toBitVec.smod 32).toNat = k) : (a >>> s).toInt = a.toInt >>> k := by
  show (a.toBitVec.sshiftRight (s.toBitVec.smod 32).toNat).toInt = _
  rw [hs, BitVec.toInt_sshiftRight]
  rfl
theorem pk_shrN {n : Nat} (h : n < 2 ^ 31) (s : Int32) (k : Nat) (hs : (s.toBitVec.smod 32).toNat = k) : nI n >>> s = nI (n / 2 ^ k) := by
  apply Int32.toInt_inj.mp
  have h2 : n / 2 ^ k ≤ n := Nat.div_le_self _ _
  rw [pk_shr _ _ k hs, nI_toInt h, nI_toInt (by omega), Int.shiftRight_eq_div_pow]
  rfl
/-! numbers and bits (wants pk_shrN, pk_andN of kit/rows pasted ahead of it) -/
theorem px_us {f : Nat → Int32} {k : Nat} {x : Int32} : upd f k x k = x := if_pos rfl
theorem px_un {f : Nat → Int32} {k j : Nat} {x : Int32} (h : j ≠ k) : upd f k x j = f j := if_neg h
theorem px_or (a b : Nat) : nI a ||| nI b = nI (a ||| b) := by
  apply Int32.toBitVec_inj.1
  show BitVec.ofNat 32 a ||| BitVec.ofNat 32 b = BitVec.ofNat 32 (a ||| b)
  apply BitVec.eq_of_getLsbD_eq
  intro i hi
  simp [hi]
theorem px_sl : ∀ n, n < 32 → ((nI n &&& 31).toBitVec.smod 32).toNat = n := by decide +kernel
theorem px_bit {s b : Nat} (hs : s < 512) (hb : b < 9) : (nI s >>> (nI b &&& 31)) &&& 1 = nI (s / 2 ^ b % 2) := by
  have h : s / 2 ^ b ≤ s := Nat.div_le_self _ _
  rw [pk_shrN (by omega) _ b (px_sl b (by omega)), pk_andN (by omega) 1 (by decide), Nat.pow_one]
def px_t (s b : Nat) : Bool := decide (s / 2 ^ b % 2 = 1)
theorem px_tb {A B : Prop} {s b : Nat} (hs : s < 512) (hb : b < 9) (T : px_t s b = true → A) (F : px_t s b = false → B) : (((nI s >>> (nI b &&& 31)) &&& 1) = 1 → A) ∧ (¬ ((nI s >>> (nI b &&& 31)) &&& 1) = 1 → B) := by
  rw [px_bit hs hb]
  by_cases h : s / 2 ^ b % 2 = 1
  · rw [h]
    exact br_t rfl (T (decide_eq_true h))
  · rw [(Nat.mod_two_eq_zero_or_one _).resolve_right h]
    exact br_f (by decide) (F (decide_eq_false h))
theorem px_bi {s b : Nat} (hs : s < 512) (hb : b < 9) : (nI s >>> (nI b &&& 31)) &&& 1 = nI (if px_t s b = true then 1 else 0) := by
  rw [px_bit hs hb]
  by_cases h : s / 2 ^ b % 2 = 1
  · have z : px_t s b = true := decide_eq_true h
    rw [h, if_pos z]
  · have z : ¬ px_t s b = true := fun z => h (of_decide_eq_true z)
    rw [(Nat.mod_two_eq_zero_or_one _).resolve_right h, if_neg z]
theorem px_shl : ∀ b, b < 9 → (1 : Int32) <<< (nI b &&& 31) = nI (2 ^ b) := by decide +kernel
theorem px_shl2 : ∀ b, b < 9 → (2 : Int32) <<< (nI b &&& 31) = (1 : Int32) <<< (nI (b + 1) &&& 31) := by decide +kernel
theorem px_pw {b : Nat} (hb : b < 9) : 2 ^ b < 512 := Nat.pow_lt_pow_right (a := 2) (m := b) (n := 9) (by decide) hb
theorem px_orlt {p b : Nat} (hp : p < 512) (hb : b < 9) : p ||| 2 ^ b < 512 := Nat.or_lt_two_pow (n := 9) hp (px_pw hb)

/-! codes -/
def px_cf (s : Nat) : Nat → Nat
  | 0 => 0
  | b + 1 => if px_t s b = true then px_cf s b * 10 + b + 1 else px_cf s b
def px_cd (s : Nat) : Nat := px_cf s 9
def px_dc : Nat → Nat → Nat
  | 0, _ => 0
  | n + 1, c => if c = 0 then 0 else px_dc n (c / 10) + 2 ^ (c % 10 - 1)
theorem px_dc_cd : ∀ s, s < 512 → px_dc 9 (px_cd s) = s := by decide +kernel
theorem px_cd_lt : ∀ s, s < 512 → px_cd s < 2 ^ 31 := by decide +kernel
theorem px_inj {s t : Nat} (hs : s < 512) (ht : t < 512) (h : px_cd s = px_cd t) : s = t := by
  have a := px_dc_cd s hs
  have b := px_dc_cd t ht
  rw [h] at a
  exact a.symm.trans b

/-! counting sets 1 to n -/
def px_cn (p : Nat → Bool) : Nat → Nat
  | 0 => 0
  | n + 1 => px_cn p n + (if p (n + 1) = true then 1 else 0)
theorem px_cn_s (p : Nat → Bool) (n : Nat) : px_cn p (n + 1) = px_cn p n + (if p (n + 1) = true then 1 else 0) := rfl
theorem px_cn_le (p : Nat → Bool) : ∀ n, px_cn p n ≤ n := by
  intro n
  induction n with
  | zero => exact Nat.le_refl 0
  | succ n ih => rw [px_cn_s]; split <;> omega
theorem px_cn_no : ∀ n, px_cn (fun _ => false) n = 0 := by
  intro n
  induction n with
  | zero => rfl
  | succ n ih => rw [px_cn_s, ih]; rfl
theorem px_cn_eq {p q : Nat → Bool} : ∀ n, (∀ s, 1 ≤ s → s ≤ n → p s = q s) → px_cn p n = px_cn q n := by
  intro n
  induction n with
  | zero => intro _; rfl
  | succ n ih =>
    intro h
    rw [px_cn_s, px_cn_s, ih (fun s a b => h s a (by omega)), h (n + 1) (by omega) (by omega)]
theorem px_cn_add {p q : Nat → Bool} {t : Nat} (ht : 1 ≤ t) (hp : p t = false) (hq : q t = true) : ∀ n, t ≤ n → (∀ s, 1 ≤ s → s ≤ n → s ≠ t → p s = q s) → px_cn q n = px_cn p n + 1 := by
  intro n
  induction n with
  | zero => intro h; omega
  | succ n ih =>
    intro h e
    rw [px_cn_s, px_cn_s]
    by_cases c : t = n + 1
    · rw [← c, hp, hq, px_cn_eq n (fun s a b => (e s a (by omega) (by omega)).symm)]
      rfl
    · rw [ih (by omega) (fun s a b d => e s a (by omega) d), e (n + 1) (by omega) (by omega) (by omega)]
      omega
theorem px_cn_mono {p q : Nat → Bool} (h : ∀ s, p s = true → q s = true) : ∀ n, px_cn p n ≤ px_cn q n := by
  intro n
  induction n with
  | zero => exact Nat.le_refl 0
  | succ n ih =>
    rw [px_cn_s, px_cn_s]
    by_cases c : p (n + 1) = true
    · rw [if_pos c, if_pos (h _ c)]; omega
    · rw [if_neg c]; omega
theorem px_cn_lt {p q : Nat → Bool} {t : Nat} (ht : 1 ≤ t) (hp : p t = false) (hq : q t = true) (h : ∀ s, p s = true → q s = true) : ∀ n, t ≤ n → px_cn p n < px_cn q n := by
  intro n
  induction n with
  | zero => intro h; omega
  | succ n ih =>
    intro hn
    rw [px_cn_s, px_cn_s]
    by_cases c : t = n + 1
    · have m := px_cn_mono h n
      rw [← c, hp, hq, if_pos rfl, if_neg (by decide)]
      omega
    · have m := ih (by omega)
      by_cases d : p (n + 1) = true
      · rw [if_pos d, if_pos (h _ d)]; omega
      · rw [if_neg d]; omega

/-! the sets by rising code -/
def px_So (π : Nat → Nat) (m : Nat) : Prop := (∀ i, i < m → 1 ≤ π i ∧ π i ≤ m) ∧ (∀ i j, i < j → j < m → px_cd (π i) < px_cd (π j)) ∧ (∀ s, 1 ≤ s → s ≤ m → ∃ i, i < m ∧ π i = s)
def px_pt (π : Nat → Nat) (p v : Nat) : Nat → Nat := fun i => if i < p then π i else if i = p then v else π (i - 1)
theorem px_pt_lo {π : Nat → Nat} {p v i : Nat} (h : i < p) : px_pt π p v i = π i := if_pos h
theorem px_pt_at {π : Nat → Nat} {p v : Nat} : px_pt π p v p = v := by
  unfold px_pt; rw [if_neg (by omega), if_pos rfl]
theorem px_pt_hi {π : Nat → Nat} {p v i : Nat} (h : p < i) : px_pt π p v i = π (i - 1) := by
  unfold px_pt; rw [if_neg (by omega), if_neg (by omega)]
theorem px_So_in {π : Nat → Nat} {m p : Nat} (h : px_So π m) (hp : p ≤ m) (hi : ∀ i, p ≤ i → i < m → px_cd (m + 1) < px_cd (π i)) (lo : p = 0 ∨ px_cd (π (p - 1)) < px_cd (m + 1)) : px_So (px_pt π p (m + 1)) (m + 1) := by
  obtain ⟨h1, h2, h3⟩ := h
  refine ⟨?_, ?_, ?_⟩
  · intro i hi'
    rcases Nat.lt_trichotomy i p with c | c | c
    · rw [px_pt_lo c]; have := h1 i (by omega); omega
    · rw [c, px_pt_at]; omega
    · rw [px_pt_hi c]; have := h1 (i - 1) (by omega); omega
  · intro i j hij hj
    rcases Nat.lt_trichotomy j p with c | c | c
    · rw [px_pt_lo c, px_pt_lo (by omega)]; exact h2 i j hij (by omega)
    · rw [c, px_pt_at, px_pt_lo (by omega)]
      rcases lo with z | z
      · omega
      · rcases Nat.lt_or_ge i (p - 1) with d | d
        · exact Nat.lt_trans (h2 i (p - 1) d (by omega)) z
        · have : i = p - 1 := by omega
          rw [this]; exact z
    · rw [px_pt_hi c]
      rcases Nat.lt_trichotomy i p with d | d | d
      · rw [px_pt_lo d]; exact h2 i (j - 1) (by omega) (by omega)
      · rw [d, px_pt_at]; exact hi (j - 1) (by omega) (by omega)
      · rw [px_pt_hi d]; exact h2 (i - 1) (j - 1) (by omega) (by omega)
  · intro s a b
    by_cases c : s = m + 1
    · exact ⟨p, by omega, by rw [px_pt_at, c]⟩
    · obtain ⟨i, hi', e⟩ := h3 s a (by omega)
      rcases Nat.lt_or_ge i p with d | d
      · exact ⟨i, by omega, by rw [px_pt_lo d, e]⟩
      · exact ⟨i + 1, by omega, by rw [px_pt_hi (by omega)]; exact e⟩
end PXP
