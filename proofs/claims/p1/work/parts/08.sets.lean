def iv_sz (U : Nat) : Nat → Nat
  | 0 => 0
  | r + 1 => iv_sz U r + iv_b U r
theorem iv_sz_le (U : Nat) : ∀ r, iv_sz U r ≤ r
  | 0 => Nat.le_refl _
  | r + 1 => by
    have h1 := iv_sz_le U r
    have h2 := iv_b2 U r
    rw [iv_sz]
    omega
def iv_mi (U : Nat) : Nat → Nat
  | 0 => 0
  | r + 1 => iv_mi U r ||| (iv_b U r * 2 ^ (12 - r))
theorem iv_mi_lt (U : Nat) : ∀ r, iv_mi U r < 2 ^ 13
  | 0 => (by decide : 0 < 2 ^ 13)
  | r + 1 => by
    rw [iv_mi]
    refine Nat.or_lt_two_pow (iv_mi_lt U r) ?_
    have h1 := iv_b2 U r
    have h2 : 2 ^ (12 - r) ≤ 2 ^ 12 := Nat.pow_le_pow_right (by decide) (by omega)
    have h3 : iv_b U r * 2 ^ (12 - r) ≤ 1 * 2 ^ 12 := Nat.mul_le_mul (by omega) h2
    omega
def iv_cc (a b r acc : Nat) : Nat → Nat
  | 0 => acc
  | s + 1 => if iv_b a r = 1 ∧ iv_b b s = 1 then iv_cc a b r acc s ||| iv_tb r s else iv_cc a b r acc s
def iv_co (a b : Nat) : Nat → Nat
  | 0 => 0
  | r + 1 => iv_cc a b r (iv_co a b r) 13
theorem iv_b_1 (U r : Nat) : iv_b U r = 1 ↔ U.testBit r = true := by
  rw [iv_b_t]
  by_cases h : U.testBit r = true
  · rw [if_pos h]
    exact ⟨fun _ => h, fun _ => rfl⟩
  · rw [if_neg h]
    exact ⟨fun z => absurd z (by decide), fun z => absurd z h⟩
theorem iv_tb_lt (r s : Nat) : iv_tb r s < 2 ^ 13 := Nat.mod_lt _ (by decide)
theorem iv_cc_lt (a b r acc : Nat) (h : acc < 2 ^ 13) : ∀ N, iv_cc a b r acc N < 2 ^ 13
  | 0 => h
  | s + 1 => by
    rw [iv_cc]
    split
    · exact Nat.or_lt_two_pow (iv_cc_lt a b r acc h s) (iv_tb_lt r s)
    · exact iv_cc_lt a b r acc h s
theorem iv_co_lt (a b : Nat) : ∀ N, iv_co a b N < 2 ^ 13
  | 0 => (by decide : 0 < 2 ^ 13)
  | r + 1 => iv_cc_lt a b r _ (iv_co_lt a b r) 13
theorem iv_cc_bit (a b r acc t : Nat) : ∀ N, (iv_cc a b r acc N).testBit t = true ↔ (acc.testBit t = true ∨ (a.testBit r = true ∧ ∃ s, s < N ∧ b.testBit s = true ∧ iv_T r s t = true))
  | 0 => by
    rw [iv_cc]
    exact ⟨Or.inl, fun h => h.elim id (fun ⟨_, s, hs, _⟩ => absurd hs (Nat.not_lt_zero _))⟩
  | n + 1 => by
    have ih := iv_cc_bit a b r acc t n
    rw [iv_cc]
    by_cases c : iv_b a r = 1 ∧ iv_b b n = 1
    · rw [if_pos c, Nat.testBit_or, Bool.or_eq_true, ih]
      have c1 := (iv_b_1 a r).mp c.1
      have c2 := (iv_b_1 b n).mp c.2
      constructor
      · rintro ((h | ⟨h1, s, h2, h3⟩) | h)
        · exact Or.inl h
        · exact Or.inr ⟨h1, s, by omega, h3⟩
        · exact Or.inr ⟨c1, n, by omega, c2, h⟩
      · rintro (h | ⟨h1, s, h2, h3, h4⟩)
        · exact Or.inl (Or.inl h)
        · by_cases e : s = n
          · subst e
            exact Or.inr h4
          · exact Or.inl (Or.inr ⟨h1, s, by omega, h3, h4⟩)
    · rw [if_neg c, ih]
      constructor
      · rintro (h | ⟨h1, s, h2, h3⟩)
        · exact Or.inl h
        · exact Or.inr ⟨h1, s, by omega, h3⟩
      · rintro (h | ⟨h1, s, h2, h3, h4⟩)
        · exact Or.inl h
        · by_cases e : s = n
          · subst e
            exact absurd ⟨(iv_b_1 a r).mpr h1, (iv_b_1 b s).mpr h3⟩ c
          · exact Or.inr ⟨h1, s, by omega, h3, h4⟩
theorem iv_co_bit (a b t : Nat) : ∀ N, (iv_co a b N).testBit t = true ↔ ∃ r, r < N ∧ a.testBit r = true ∧ ∃ s, s < 13 ∧ b.testBit s = true ∧ iv_T r s t = true
  | 0 => by
    rw [iv_co, Nat.zero_testBit]
    exact ⟨fun h => absurd h (by decide), fun ⟨_, h, _⟩ => absurd h (Nat.not_lt_zero _)⟩
  | n + 1 => by
    rw [iv_co, iv_cc_bit, iv_co_bit a b t n]
    constructor
    · rintro (⟨r, h1, h2⟩ | ⟨h1, h2⟩)
      · exact ⟨r, by omega, h2⟩
      · exact ⟨n, by omega, h1, h2⟩
    · rintro ⟨r, h1, h2, h3⟩
      by_cases e : r = n
      · subst e
        exact Or.inr ⟨h2, h3⟩
      · exact Or.inl ⟨r, by omega, h2, h3⟩
theorem iv_T_13 {r s t : Nat} (h : iv_T r s t = true) : t < 13 := by
  by_cases c : t < 13
  · exact c
  · have h1 : (iv_tb r s).testBit t = false := Nat.testBit_lt_two_pow (Nat.lt_of_lt_of_le (iv_tb_lt r s) (Nat.pow_le_pow_right (by decide) (by omega)))
    unfold iv_T at h
    rw [h1] at h
    exact absurd h (by decide)
theorem iv_comp {A : iv_N} {a b : Nat} (h01 : A 0 1 = a) (h12 : A 1 2 = b) (h02 : A 0 2 = 8191) :
    iv_or ((iv_leaves 3 A).map (fun x => iv_rl x.1 0 2)) = iv_co a b 13 := by
  apply Nat.eq_of_testBit_eq
  intro t
  rw [Bool.eq_iff_iff, iv_or_bit, iv_co_bit, List.mem_map]
  constructor
  · rintro ⟨x, hx, e⟩
    obtain ⟨hc, hb⟩ := iv_leaf_can (by decide) hx
    have hg := iv_rl_good hc.1
    have b01 := hb 0 1 (by decide) (by decide)
    have b12 := hb 1 2 (by decide) (by decide)
    rw [h01] at b01
    rw [h12] at b12
    refine ⟨iv_rl x.1 0 1, iv_rel_lt _ _ _ _, b01, iv_rl x.1 1 2, iv_rel_lt _ _ _ _, b12, ?_⟩
    rw [iv_T_ok (iv_rl x.1 0 1) (iv_rel_lt _ _ _ _) (iv_rl x.1 1 2) (iv_rel_lt _ _ _ _) t (by rw [← e]; exact iv_rel_lt _ _ _ _), ← e]
    exact hg.2.2 0 1 2 (by decide) (by decide) (by decide)
  · rintro ⟨r, hr, ha, s, hs, hb, hT⟩
    have ht := iv_T_13 hT
    have hN : iv_set (iv_set (iv_set iv_R0 0 1 r) 0 2 t) 1 2 s ∈ iv_nets A (iv_ps 3) iv_R0 := by
      show _ ∈ iv_nets A [(0, 1), (0, 2), (1, 2)] iv_R0
      rw [iv_nets, List.mem_flatMap]
      refine ⟨r, List.mem_range.mpr hr, ?_⟩
      rw [if_pos (iv_opn_bit.mpr ⟨by rw [h01]; exact ha, fun m hm => absurd hm (Nat.not_lt_zero _)⟩), iv_nets, List.mem_flatMap]
      refine ⟨t, List.mem_range.mpr ht, ?_⟩
      rw [if_pos (iv_opn_bit.mpr ⟨by rw [h02]; exact iv_all_bit t ht, fun m hm => absurd hm (Nat.not_lt_zero _)⟩), iv_nets, List.mem_flatMap]
      refine ⟨s, List.mem_range.mpr hs, ?_⟩
      rw [if_pos (iv_opn_bit.mpr ⟨by rw [h12]; exact hb, fun m hm => ?_⟩), iv_nets]
      · exact List.mem_singleton.mpr rfl
      · have hm : m = 0 := by
          have : m < 1 := hm
          omega
        subst hm
        have e1 : iv_set (iv_set iv_R0 0 1 r) 0 2 t 1 0 = 12 - r := by
          rw [iv_set3 (by decide) (by decide)]
          exact iv_set2 (by decide)
        have e2 : iv_set (iv_set iv_R0 0 1 r) 0 2 t 0 2 = t := iv_set1
        show iv_T (iv_set (iv_set iv_R0 0 1 r) 0 2 t 1 0) (iv_set (iv_set iv_R0 0 1 r) 0 2 t 0 2) s = true
        rw [e1, e2, iv_T_ok _ (by omega) _ ht _ hs, ← iv_sw12 r hr s hs t ht, ← iv_T_ok r hr s hs t ht]
        exact hT
    obtain ⟨x, hx, e⟩ := (iv_same (Or.inr (Or.inl rfl)) _).mp hN
    refine ⟨x, hx, ?_⟩
    rw [← iv_nt_in (n := 3) (L := x.1) (x := 0) (y := 2) (by decide) (by decide), e, iv_set3 (by decide) (by decide)]
    exact iv_set1
