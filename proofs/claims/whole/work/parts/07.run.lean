section PXN
variable {un : Int32} {f g cd sb ip : Nat → Int32}
/-! run: both sides in lockstep -/
def px_np (b nx p : Nat) : Nat := if b < nx then p ||| 2 ^ nx else 2 ^ nx
def px_nc (b nx p : Nat) (c : Nat → Int32) : Nat → Int32 := if b < nx then c else upd c p (c p + 1)
theorem px_np_lt {b nx p : Nat} (hp : p < 512) (hn : nx < 9) : px_np b nx p < 512 := by
  unfold px_np
  by_cases h : b < nx
  · rw [if_pos h]; exact px_orlt hp hn
  · rw [if_neg h]; exact px_pw hn
theorem px_uid {c : Nat → Int32} {p : Nat} : upd c p (c p) = c := by
  funext j
  by_cases h : j = p
  · rw [h]; exact px_us
  · exact px_un h
theorem px_01 (y : Int32) : y &&& 1 = 0 ∨ y &&& 1 = 1 := by
  obtain ⟨j, hj, e⟩ := pk_andE y (m := 1) 1 (by decide)
  have h : j = 0 ∨ j = 1 := by omega
  rcases h with h | h
  · rw [h] at e; exact Or.inl e
  · rw [h] at e; exact Or.inr e
theorem px_ns0 {b : Nat} (h : f b = -1) : px_ns f g b = 0 := if_pos h
theorem px_ns1 {b : Nat} (h : ¬ f b = -1) : ¬ px_ns f g b ≤ 0 ∧ ¬ px_ns f g b = 0 := by
  unfold px_ns
  rw [if_neg h]
  by_cases h2 : g b = -1
  · rw [if_pos h2]; decide
  · rw [if_neg h2]; decide
theorem xx_fin {post : Int32 → SX → Prop} {b p a : Nat} {c : Nat → Int32} (hb : b < 9) (hp : p < 512) (T : f b = -1 → post (nI a) (un, f, g, cd, sb, ip, upd c p (c p + 1))) (F : ¬ f b = -1 → post (nI a) (un + 1, f, g, cd, sb, ip, c)) : wX_run_122 post (nI b) (nI p) (nI a) un f g cd sb ip c := by
  have e : (nI p).toNatClampNeg = p := nI_clamp (by omega)
  have hin : vp_in (nI p) 512 := vp_in_nI hp (by omega)
  unfold wX_run_122
  rw [e]
  exact xx_exit hb (fun h => br_f (by decide) ⟨hin, hin, nm_e (T h)⟩) (fun h => br_t rfl (nm_e (F h)))
theorem yy_fin {post : Int32 → SY → Prop} {ch mn us : Int32} {b p a : Nat} {c : Nat → Int32} {n : Nat} (ok : px_ok f g) (hb : b < 9) (hp : p < 512) (T : f b = -1 → post (nI a) (un, f, g, upd c p (c p + 1))) (F : ¬ f b = -1 → post (nI a) (un + 1, f, g, c)) : wY_run_38 post ch mn un (n + 1) (nI b) (nI p) (nI a) us 0 f g c := by
  have e : (nI p).toNatClampNeg = p := nI_clamp (by omega)
  have hin : vp_in (nI p) 512 := vp_in_nI hp (by omega)
  refine br_t rfl (yy_ns ok hb ?_)
  by_cases h : f b = -1
  · refine br_t (px_ns0 h) ⟨hin, hin, ?_⟩
    rw [e]
    exact nm_e (T h)
  · exact br_f (px_ns1 h).2 (nm_e (F h))
theorem xx_step {post : Int32 → SX → Prop} {J : Int32 → Int32 → Int32 → Int32 → (Nat → Int32) → (Nat → Int32) → (Nat → Int32) → (Nat → Int32) → (Nat → Int32) → (Nat → Int32) → Prop} {ch mn us : Int32} {b nx p a : Nat} {c : Nat → Int32} (hb : b < 9) (hp : p < 512) (hn : nx < 9) (K : J (nI nx) (nI (px_np b nx p)) us (nI (a + 1)) f g cd sb ip (px_nc b nx p c)) : wX_run_84 post J ch mn (nI b) (nI p) us (nI a) (nI nx) un f g cd sb ip c := by
  have e : (nI p).toNatClampNeg = p := nI_clamp (by omega)
  have hin : vp_in (nI p) 512 := vp_in_nI hp (by omega)
  unfold wX_run_84 wX_run_104
  rw [e, px_shl nx hn]
  unfold px_np px_nc at K
  by_cases h : b < nx
  · rw [if_pos h, if_pos h] at K
    exact br_t (nI_lt h (by omega)) (nm_r (px_or _ _) (nm_r (nI_1 a) K))
  · rw [if_neg h, if_neg h] at K
    refine br_f (nI_nlt (by omega) (by omega)) ⟨hin, hin, nm_e (nm_r (e' := nI (2 ^ nx)) ?_ (nm_r (nI_1 a) K))⟩
    rw [← nI_0, px_or, Nat.zero_or]
theorem yy_going {post : Int32 → SY → Prop} {J : Int32 → Int32 → Int32 → Int32 → Int32 → (Nat → Int32) → (Nat → Int32) → (Nat → Int32) → Prop} {ch mn us z : Int32} {nx a : Nat} {c : Nat → Int32} (ok : px_ok f g) (hn : nx < 9) (ha : a < 40) (K : J (nI nx) z (nI (a + 1)) us (px_i (decide (a + 1 < 40) && decide (¬ f nx = -1))) f g c) : wY_run_159 post J ch mn (nI a) us (nI nx) z un f g c := by
  refine nm_r (nI_1 a) (pk_le 40 (a + 1) (fun h => ?_) (fun h => ?_))
  · rw [decide_eq_false (by omega), Bool.false_and] at K
    exact K
  · rw [decide_eq_true h, Bool.true_and] at K
    refine yy_ns ok hn ?_
    by_cases h2 : f nx = -1
    · rw [decide_eq_false (fun z => z h2)] at K
      refine br_t ?_ K
      rw [px_ns0 h2]
      decide
    · rw [decide_eq_true h2] at K
      exact br_f (px_ns1 h2).1 K
theorem yy_step {post : Int32 → SY → Prop} {J : Int32 → Int32 → Int32 → Int32 → Int32 → (Nat → Int32) → (Nat → Int32) → (Nat → Int32) → Prop} {ch mn us : Int32} {b nx p a : Nat} {c : Nat → Int32} (ok : px_ok f g) (hb : b < 9) (hp : p < 512) (hn : nx < 9) (ha : a < 40) (K : J (nI nx) (nI (px_np b nx p)) (nI (a + 1)) us (px_i (decide (a + 1 < 40) && decide (¬ f nx = -1))) f g (px_nc b nx p c)) : wY_run_102 post J ch mn (nI b) (nI p) (nI a) us 1 (nI nx) un f g c := by
  have e : (nI p).toNatClampNeg = p := nI_clamp (by omega)
  have hin : vp_in (nI p) 512 := vp_in_nI hp (by omega)
  unfold wY_run_102 wY_run_138
  rw [e, px_shl nx hn]
  unfold px_np px_nc at K
  refine br_f (by decide) ?_
  by_cases h : b < nx
  · rw [if_pos h, if_pos h] at K
    refine br_t (nI_lt h (by omega)) ⟨hin, hin, nm_r px_uid (br_t (nI_lt h (by omega)) ?_)⟩
    rw [px_or]
    exact yy_going ok hn ha K
  · rw [if_neg h, if_neg h] at K
    have h2 : ¬ nI b < nI nx := nI_nlt (by omega) (by omega)
    exact br_f h2 ⟨hin, hin, nm_e (br_f h2 (yy_going ok hn ha K))⟩
theorem px_run {ch : Int32} {mn : Nat} (ok : px_ok f g) (hm : mn ≤ 24) : ∀ (d a b p us : Nat) (c : Nat → Int32), a + d = 40 → b < 9 → p < 512 → us ≤ mn → ∃ (r un' : Int32) (c' : Nat → Int32),
    (∀ (post : Int32 → SX → Prop) (n : Nat), d < n → post r (un', f, g, cd, sb, ip, c') → wX_run_23 post ch (nI mn) un n (nI b) (nI p) (nI us) (nI a) f g cd sb ip c) ∧
    (∀ (post : Int32 → SY → Prop) (n : Nat), d + 1 < n → post r (un', f, g, c') → wY_run_38 post ch (nI mn) un n (nI b) (nI p) (nI a) (nI us) (px_i (decide (a < 40) && decide (¬ f b = -1))) f g c) := by
  intro d
  induction d with
  | zero =>
    intro a b p us c ha hb hp hu
    have e : a = 40 := by omega
    have z : (decide (a < 40) && decide (¬ f b = -1)) = false := by rw [decide_eq_false (by omega), Bool.false_and]
    by_cases h : f b = -1
    · refine ⟨nI a, un, upd c p (c p + 1), fun post n hn k => ?_, fun post n hn k => ?_⟩
      · obtain ⟨m, rfl⟩ : ∃ m, n = m + 1 := ⟨n - 1, by omega⟩
        exact br_t (by rw [e]; decide) (xx_fin hb hp (fun _ => k) (fun z => absurd h z))
      · obtain ⟨m, rfl⟩ : ∃ m, n = m + 1 := ⟨n - 1, by omega⟩
        rw [z]
        exact yy_fin ok hb hp (fun _ => k) (fun z => absurd h z)
    · refine ⟨nI a, un + 1, c, fun post n hn k => ?_, fun post n hn k => ?_⟩
      · obtain ⟨m, rfl⟩ : ∃ m, n = m + 1 := ⟨n - 1, by omega⟩
        exact br_t (by rw [e]; decide) (xx_fin hb hp (fun z => absurd z h) (fun _ => k))
      · obtain ⟨m, rfl⟩ : ∃ m, n = m + 1 := ⟨n - 1, by omega⟩
        rw [z]
        exact yy_fin ok hb hp (fun z => absurd z h) (fun _ => k)
  | succ d ih =>
    intro a b p us c ha hb hp hu
    have h40 : ¬ (40 : Int32) ≤ nI a := nI_ge (b := 40) (by omega) (by decide)
    have ea : decide (a < 40) = true := decide_eq_true (by omega)
    have eb : (nI b).toNatClampNeg = b := nI_clamp (by omega)
    have hin : vp_in (nI b) 9 := vp_in_nI hb (by omega)
    by_cases h : f b = -1
    · refine ⟨nI a, un, upd c p (c p + 1), fun post n hn k => ?_, fun post n hn k => ?_⟩
      · obtain ⟨m, rfl⟩ : ∃ m, n = m + 1 := ⟨n - 1, by omega⟩
        exact br_f h40 (xx_exit hb (fun _ => br_f (by decide) (xx_fin hb hp (fun _ => k) (fun z => absurd h z))) (fun z => absurd h z))
      · obtain ⟨m, rfl⟩ : ∃ m, n = m + 1 := ⟨n - 1, by omega⟩
        rw [decide_eq_false (p := ¬ f b = -1) (fun z => z h), Bool.and_false]
        exact yy_fin ok hb hp (fun _ => k) (fun z => absurd h z)
    · obtain ⟨nf, hnf, ef⟩ := ((ok b hb).1).resolve_left h
      have eg : decide (¬ f b = -1) = true := decide_eq_true h
      by_cases h2 : g b = -1
      · obtain ⟨r, un', c', HX, HY⟩ := ih (a + 1) nf (px_np b nf p) us (px_nc b nf p c) (by omega) hnf (px_np_lt hp hnf) hu
        refine ⟨r, un', c', fun post n hn k => ?_, fun post n hn k => ?_⟩
        · obtain ⟨m, rfl⟩ : ∃ m, n = m + 1 := ⟨n - 1, by omega⟩
          refine br_f h40 (xx_exit hb (fun z => absurd z h) (fun _ => br_t rfl ⟨hin, nm_r (e' := nI nf) (by rw [eb]; exact ef) (xx_two hb (fun _ => br_t rfl ?_) (fun z => absurd h2 z))⟩))
          exact xx_step hb hp hnf (HX post m (by omega) k)
        · obtain ⟨m, rfl⟩ : ∃ m, n = m + 1 := ⟨n - 1, by omega⟩
          rw [ea, eg]
          refine br_f (by decide) ⟨hin, nm_r (e' := nI nf) (by rw [eb]; exact ef) ⟨hin, br_t ?_ (yy_step ok hb hp hnf (by omega) (HY post m (by omega) k))⟩⟩
          rw [eb, h2]
          decide
      · have g0 : ¬ g b < 0 := Int32.not_lt.mpr ((px_ok_g ok hb).mpr h2)
        by_cases h3 : us = mn
        · refine ⟨nI a, un + 1, c, fun post n hn k => ?_, fun post n hn k => ?_⟩
          · obtain ⟨m, rfl⟩ : ∃ m, n = m + 1 := ⟨n - 1, by omega⟩
            exact br_f h40 (xx_exit hb (fun z => absurd z h) (fun _ => br_t rfl ⟨hin, nm_e (xx_two hb (fun z => absurd z h2) (fun _ => br_f (by decide) (br_t (by rw [h3]) (xx_fin hb hp (fun z => absurd z h) (fun _ => k)))))⟩))
          · obtain ⟨m, rfl⟩ : ∃ m, n = m + 2 := ⟨n - 2, by omega⟩
            rw [ea, eg]
            refine br_f (by decide) ⟨hin, nm_e ⟨hin, ?_⟩⟩
            rw [eb]
            refine br_f g0 (br_t (nI_le (by omega) (by omega)) ?_)
            have F : wY_run_38 post ch (nI mn) un (m + 1) (nI b) (nI p) (nI a) (nI us + 1) 0 f g c := yy_fin ok hb hp (fun z => absurd z h) (fun _ => k)
            exact br_c (fun _ => ⟨hin, nm_e (br_t rfl F)⟩) (fun _ => ⟨hin, nm_e (br_t rfl F)⟩)
        · obtain ⟨⟨ng, hng, eg2⟩, _⟩ := ((ok b hb).2).resolve_left h2
          have hu2 : us + 1 ≤ mn := by omega
          have hne : ¬ nI us = nI mn := fun z => h3 ((nI_eq (by omega) (by omega)).mp z)
          have hnl : ¬ nI mn ≤ nI us := nI_ge (by omega) (by omega)
          rcases px_01 (ch >>> (nI us &&& 31)) with hb0 | hb1
          · obtain ⟨r, un', c', HX, HY⟩ := ih (a + 1) nf (px_np b nf p) (us + 1) (px_nc b nf p c) (by omega) hnf (px_np_lt hp hnf) hu2
            refine ⟨r, un', c', fun post n hn k => ?_, fun post n hn k => ?_⟩
            · obtain ⟨m, rfl⟩ : ∃ m, n = m + 1 := ⟨n - 1, by omega⟩
              refine br_f h40 (xx_exit hb (fun z => absurd z h) (fun _ => br_t rfl ⟨hin, nm_r (e' := nI nf) (by rw [eb]; exact ef) (xx_two hb (fun z => absurd z h2) (fun _ => br_f (by decide) (br_f hne (br_f ?_ (nm_r (nI_1 us) ?_)))))⟩))
              · rw [hb0]; decide
              · exact xx_step hb hp hnf (HX post m (by omega) k)
            · obtain ⟨m, rfl⟩ : ∃ m, n = m + 1 := ⟨n - 1, by omega⟩
              rw [ea, eg]
              refine br_f (by decide) ⟨hin, nm_e ⟨hin, ?_⟩⟩
              rw [eb]
              refine br_f g0 (br_f hnl (br_t hb0 ⟨hin, nm_r (nI_1 us) ?_⟩))
              rw [eb, ef]
              exact yy_step ok hb hp hnf (by omega) (HY post m (by omega) k)
          · obtain ⟨r, un', c', HX, HY⟩ := ih (a + 1) ng (px_np b ng p) (us + 1) (px_nc b ng p c) (by omega) hng (px_np_lt hp hng) hu2
            refine ⟨r, un', c', fun post n hn k => ?_, fun post n hn k => ?_⟩
            · obtain ⟨m, rfl⟩ : ∃ m, n = m + 1 := ⟨n - 1, by omega⟩
              refine br_f h40 (xx_exit hb (fun z => absurd z h) (fun _ => br_t rfl ⟨hin, nm_e (xx_two hb (fun z => absurd z h2) (fun _ => br_f (by decide) (br_f hne (br_t hb1 ⟨hin, nm_r (e' := nI ng) (by rw [eb]; exact eg2) (nm_r (nI_1 us) ?_)⟩))))⟩))
              exact xx_step hb hp hng (HX post m (by omega) k)
            · obtain ⟨m, rfl⟩ : ∃ m, n = m + 1 := ⟨n - 1, by omega⟩
              rw [ea, eg]
              refine br_f (by decide) ⟨hin, nm_e ⟨hin, ?_⟩⟩
              rw [eb]
              refine br_f g0 (br_f hnl (br_f ?_ ⟨hin, nm_r (nI_1 us) ?_⟩))
              · rw [hb1]; decide
              · rw [eb, eg2]
                exact yy_step ok hb hp hng (by omega) (HY post m (by omega) k)
theorem i_vc_run {k : Nat} {u : SX} {v : SY} (I : i_Rel k u v) (hk : k + 4 ≤ 2048) (v1 : Int32) (v2 : Int32) : wpX_run (fun r u' => wpY_run (fun r' v' => r' = r ∧ i_Rel (k + 4) u' v') v v1 v2) u v1 v2 := by
  have J : i_Rel (k + 4) u v := I
  obtain ⟨un, f, g, cd, sb, ip, c, rfl, rfl, ok, hC, hS, hP⟩ := I
  unfold wpX_run wpY_run
  dsimp only
  by_cases h0 : v2 < 0
  · exact br_t h0 (br_t h0 ⟨rfl, J⟩)
  · by_cases h1 : v2 ≤ 24
    · obtain ⟨mn, hm, rfl⟩ := nI_of2 (M := 24) (n := 24) (by decide) h0 h1
      obtain ⟨r, un', c', HX, HY⟩ := px_run (un := un) (cd := cd) (sb := sb) (ip := ip) (ch := v1) ok hm 40 0 0 1 0 c rfl (by omega) (by omega) (by omega)
      refine br_f h0 (br_t h1 ⟨41, HX _ 41 (by omega) (br_f h0 (br_t h1 (yy_ns (b := 0) ok (by omega) ?_)))⟩)
      have Y := HY (fun r' v' => r' = r ∧ i_Rel (k + 4) (un', f, g, cd, sb, ip, c') v') 42 (by omega) ⟨rfl, un', f, g, cd, sb, ip, c', rfl, rfl, ok, hC, hS, hP⟩
      by_cases h2 : f 0 = -1
      · rw [decide_eq_false (p := ¬ f 0 = -1) (fun z => z h2), Bool.and_false] at Y
        refine br_t ?_ ⟨42, Y⟩
        rw [px_ns0 h2]
        decide
      · rw [decide_eq_true (p := ¬ f 0 = -1) h2] at Y
        exact br_f (px_ns1 h2).1 ⟨42, Y⟩
    · exact br_f h0 (br_f h1 (br_f h0 (br_f h1 ⟨rfl, J⟩)))
end PXN
