section PXI
variable {un : Int32} {f g cd sb ip c : Nat → Int32}
/-! the codes made -/
theorem xx_code {post : SX → Prop} {J : Int32 → (Nat → Int32) → (Nat → Int32) → (Nat → Int32) → (Nat → Int32) → (Nat → Int32) → (Nat → Int32) → Prop} {s : Nat} (hs : s < 512) (k : J (nI (s + 1)) f g (upd cd s (nI (px_cd s))) sb ip c) : ∀ d b, b + d = 9 → ∀ n, d < n → wX_makeCodes_13 post J (nI s) un f g cd sb ip c n (nI (px_cf s b)) (nI b) := by
  intro d
  induction d with
  | zero =>
    intro b hb n hn
    obtain ⟨m, rfl⟩ : ∃ m, n = m + 1 := ⟨n - 1, by omega⟩
    have e : b = 9 := by omega
    rw [e]
    refine br_t px_9e ⟨vp_in_nI hs (by omega), nm_r (e' := upd cd s (nI (px_cd s))) ?_ (nm_r (nI_1 s) k)⟩
    rw [nI_clamp (by omega)]
    rfl
  | succ d ih =>
    intro b hb n hn
    obtain ⟨m, rfl⟩ : ∃ m, n = m + 1 := ⟨n - 1, by omega⟩
    have hb9 : b < 9 := by omega
    have H := ih (b + 1) (by omega) m (by omega)
    refine br_f (px_9t hb9) (xx_has hs hb9 (px_ib (px_t s b) (fun h => ?_) (fun h => ?_)))
    · have e : px_cf s (b + 1) = px_cf s b := if_neg (px_nt h)
      rw [e] at H
      exact nm_r (nI_1 b) H
    · have e : px_cf s (b + 1) = px_cf s b * 10 + b + 1 := if_pos h
      rw [e] at H
      refine nm_r (e' := nI (px_cf s b * 10 + b + 1)) ?_ (nm_r (nI_1 b) H)
      rw [show (10 : Int32) = nI 10 from rfl, pk_mul, nI_add, nI_1]
theorem xx_codes {post : SX → Prop} (k : ∀ cd', px_C cd' → post (un, f, g, cd', sb, ip, c)) : wpX_makeCodes post (un, f, g, cd, sb, ip, c) := by
  refine ⟨512, px_lp (fun n j => ∀ cd, (∀ s, 1 ≤ s → s ≤ j → cd s = nI (px_cd s)) → wX_makeCodes_2 post un n (nI (j + 1)) f g cd sb ip c) (fun n cd h => br_t px_512e (k cd (fun s a b => h s a (by omega)))) (fun n j hj H cd h => ?_) cd (fun s a b => by omega)⟩
  refine br_f (px_512t (by omega)) ⟨10, xx_code (by omega) (H _ (fun s a b => ?_)) 9 0 rfl 10 (by omega)⟩
  by_cases z : s = j + 1
  · rw [z]; exact px_us
  · rw [px_un z]
    exact h s a (by omega)
/-! the sets put in order -/
theorem px_put {π : Nat → Nat} {j p : Nat} (hp : p ≤ j) (h1 : ∀ i, i < p → sb i = nI (π i)) (h2 : ∀ i, p < i → i ≤ j → sb i = nI (π (i - 1))) : ∀ i, i < j + 1 → upd sb p (nI (j + 1)) i = nI (px_pt π p (j + 1) i) := by
  intro i hi
  rcases Nat.lt_trichotomy i p with z | z | z
  · rw [px_un (by omega), px_pt_lo z]
    exact h1 i z
  · rw [z, px_us, px_pt_at]
  · rw [px_un (by omega), px_pt_hi z]
    exact h2 i z (by omega)
theorem xx_ins {post : SX → Prop} {J : Int32 → (Nat → Int32) → (Nat → Int32) → (Nat → Int32) → (Nat → Int32) → (Nat → Int32) → (Nat → Int32) → Prop} {π : Nat → Nat} {j : Nat} (hj : j < 511) (hC : px_C cd) (hS : px_So π j) (k : ∀ sb' π', px_So π' (j + 1) → (∀ i, i < j + 1 → sb' i = nI (π' i)) → J (nI (j + 1 + 1)) f g cd sb' ip c) : ∀ p sb, p ≤ j → (∀ i, i < p → sb i = nI (π i)) → (∀ i, p < i → i ≤ j → sb i = nI (π (i - 1))) → (∀ i, p ≤ i → i < j → px_cd (j + 1) < px_cd (π i)) → ∀ n, p < n → wX_orderByCode_13 post J (nI (j + 1)) un n (nI p) f g cd sb ip c := by
  intro p
  induction p with
  | zero =>
    intro sb hp h1 h2 h3 n hn
    obtain ⟨m, rfl⟩ : ∃ m, n = m + 1 := ⟨n - 1, by omega⟩
    refine br_t (by decide) ⟨vp_in_nI (by omega) (by omega), nm_r (e' := upd sb 0 (nI (j + 1))) ?_ (nm_r (nI_1 _) (k _ _ (px_So_in hS hp h3 (Or.inl rfl)) (px_put hp h1 h2)))⟩
    rw [nI_clamp (by omega)]
  | succ p ih =>
    intro sb hp h1 h2 h3 n hn
    obtain ⟨m, rfl⟩ : ∃ m, n = m + 1 := ⟨n - 1, by omega⟩
    have ep : (nI p).toNatClampNeg = p := nI_clamp (by omega)
    have ep1 : (nI (p + 1)).toNatClampNeg = p + 1 := nI_clamp (by omega)
    have ej : (nI (j + 1)).toNatClampNeg = j + 1 := nI_clamp (by omega)
    have hπ := hS.1 p (by omega)
    have eπ : (nI (π p)).toNatClampNeg = π p := nI_clamp (by omega)
    have inp : vp_in (nI p) 511 := vp_in_nI (by omega) (by omega)
    have inp1 : vp_in (nI (p + 1)) 511 := vp_in_nI (by omega) (by omega)
    refine br_f (nI_nle (by omega) (by omega)) ?_
    rw [nI_pred p, ep, h1 p (by omega), eπ, ej, ep1, hC (π p) hπ.1 (by omega), hC (j + 1) (by omega) (by omega)]
    refine ⟨inp, vp_in_nI (by omega) (by omega), vp_in_nI (by omega) (by omega), pk_le (px_cd (π p)) (px_cd (j + 1)) (fun h => ?_) (fun h => ?_) rfl rfl (px_cd_lt _ (by omega)) (px_cd_lt _ (by omega))⟩
    · have hne : ¬ px_cd (π p) = px_cd (j + 1) := fun z => by
        have := px_inj (by omega) (by omega) z
        omega
      exact ⟨inp1, nm_e (nm_r (nI_1 _) (k _ _ (px_So_in hS hp h3 (Or.inr (by show px_cd (π p) < px_cd (j + 1); omega))) (px_put hp h1 h2)))⟩
    · refine ⟨inp, inp1, nm_e (nm_r (pk_m1 p) (ih _ (by omega) (fun i hi => ?_) (fun i hi hi2 => ?_) (fun i hi hi2 => ?_) m (by omega)))⟩
      · rw [px_un (by omega)]
        exact h1 i (by omega)
      · by_cases z : i = p + 1
        · rw [z, px_us]
          rfl
        · rw [px_un z]
          exact h2 i (by omega) hi2
      · by_cases z : i = p
        · rw [z]; exact h
        · exact h3 i (by omega) hi2
theorem xx_order {post : SX → Prop} (hC : px_C cd) (k : ∀ sb', px_S sb' → post (un, f, g, cd, sb', ip, c)) : wpX_orderByCode post (un, f, g, cd, sb, ip, c) := by
  refine ⟨512, px_lp (fun n j => ∀ sb π, px_So π j → (∀ i, i < j → sb i = nI (π i)) → wX_orderByCode_2 post un n (nI (j + 1)) f g cd sb ip c) (fun n sb π hS h => br_t px_512e (k sb ⟨π, hS, h⟩)) (fun n j hj H sb π hS h => ?_) sb (fun _ => 0) ⟨fun i hi => by omega, fun i j a b => by omega, fun s a b => by omega⟩ (fun i hi => by omega)⟩
  exact br_f (px_512t (by omega)) (nm_r (nI_pred j) ⟨j + 1, xx_ins hj hC hS (fun sb' π' hS' h' => H sb' π' hS' h') j sb (Nat.le_refl j) h (fun i a b => by omega) (fun i a b => by omega) (j + 1) (by omega)⟩)
/-! the constructors -/
def px_m (i : Nat) : Nat → Int32 := fun j => if j < i then -1 else 0
theorem px_m_0 : px_m 0 = fun _ => 0 := by
  funext j
  exact if_neg (Nat.not_lt_zero j)
theorem px_m_s {i : Nat} : upd (px_m i) i (-1) = px_m (i + 1) := by
  funext j
  by_cases h : j = i
  · have e : px_m (i + 1) j = -1 := if_pos (by omega)
    rw [e, h]
    exact px_us
  · rw [px_un h]
    unfold px_m
    by_cases h2 : j < i
    · rw [if_pos h2, if_pos (by omega)]
    · rw [if_neg h2, if_neg (by omega)]
theorem px_m_ok : px_ok (px_m 9) (px_m 9) := fun b hb => ⟨Or.inl (if_pos hb), Or.inl (if_pos hb)⟩
theorem xx_init {post : SX → Prop} (k : ∀ cd' sb' ip', px_C cd' → px_S sb' → px_P (px_m 9) (px_m 9) ip' → post (un, px_m 9, px_m 9, cd', sb', ip', c)) : ∀ d b, b + d = 9 → ∀ n, d < n → wX_init_63 post un n (nI b) (px_m b) (px_m b) cd sb ip c := by
  intro d
  induction d with
  | zero =>
    intro b hb n hn
    obtain ⟨m, rfl⟩ : ∃ m, n = m + 1 := ⟨n - 1, by omega⟩
    have e : b = 9 := by omega
    rw [e]
    exact br_t px_9e (xx_codes (fun cd' h1 => xx_order h1 (fun sb' h2 => xx_find (fun ip' h3 => k cd' sb' ip' h1 h2 h3))))
  | succ d ih =>
    intro b hb n hn
    obtain ⟨m, rfl⟩ : ∃ m, n = m + 1 := ⟨n - 1, by omega⟩
    have hin : vp_in (nI b) 9 := vp_in_nI (by omega) (by omega)
    have e : upd (px_m b) (nI b).toNatClampNeg (-1) = px_m (b + 1) := by rw [nI_clamp (by omega), px_m_s]
    exact br_f (px_9t (by omega)) ⟨hin, nm_r e ⟨hin, nm_r e (nm_r (nI_1 b) (ih (b + 1) (by omega) m (by omega)))⟩⟩
theorem yy_init {post : SY → Prop} (k : post (un, px_m 9, px_m 9, c)) : ∀ d b, b + d = 9 → ∀ n, d < n → wY_init_31 post un n (nI b) (px_m b) (px_m b) c := by
  intro d
  induction d with
  | zero =>
    intro b hb n hn
    obtain ⟨m, rfl⟩ : ∃ m, n = m + 1 := ⟨n - 1, by omega⟩
    have e : b = 9 := by omega
    rw [e]
    exact br_t px_9e k
  | succ d ih =>
    intro b hb n hn
    obtain ⟨m, rfl⟩ : ∃ m, n = m + 1 := ⟨n - 1, by omega⟩
    have hin : vp_in (nI b) 9 := vp_in_nI (by omega) (by omega)
    have e : upd (px_m b) (nI b).toNatClampNeg (-1) = px_m (b + 1) := by rw [nI_clamp (by omega), px_m_s]
    exact br_f (px_9t (by omega)) ⟨hin, nm_r e ⟨hin, nm_r e (nm_r (nI_1 b) (ih (b + 1) (by omega) m (by omega)))⟩⟩
theorem i_vc0 : wpX_init (fun u => wpY_init (fun v => i_Rel 0 u v)) := by
  have Y : ∀ post : SY → Prop, post (0, px_m 9, px_m 9, fun _ => 0) → wpY_init post := by
    intro post k
    have H := yy_init k 9 0 rfl 10 (by omega)
    rw [px_m_0] at H
    exact ⟨10, H⟩
  have X : ∀ post : SX → Prop, (∀ cd' sb' ip', px_C cd' → px_S sb' → px_P (px_m 9) (px_m 9) ip' → post (0, px_m 9, px_m 9, cd', sb', ip', fun _ => 0)) → wpX_init post := by
    intro post k
    have H := xx_init (cd := fun _ => 0) (sb := fun _ => 0) (ip := fun _ => 0) k 9 0 rfl 10 (by omega)
    rw [px_m_0] at H
    exact ⟨10, H⟩
  exact X _ (fun cd' sb' ip' h1 h2 h3 => Y _ ⟨0, _, _, cd', sb', ip', _, rfl, rfl, px_m_ok, h1, h2, h3⟩)
end PXI
