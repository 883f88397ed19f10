def iv_f (p : Nat) : Nat := 1 - p % 2
def iv_sh (p q v : Nat) : Nat := v + ((if p / 2 ≤ v then iv_f p else 0) + (if q / 2 ≤ v then iv_f q else 0))
def iv_ex (k : Nat) (L : Nat → Nat) (p q : Nat) : Nat → Nat := fun c =>
  if c < 2 * k then iv_sh p q (L c) else if c = 2 * k then p / 2 else if c = 2 * k + 1 then q / 2 + iv_f p else 0
theorem iv_ex_o {k : Nat} {L : Nat → Nat} {p q c : Nat} (h : c < 2 * k) : iv_ex k L p q c = iv_sh p q (L c) := if_pos h
theorem iv_ex_b {k : Nat} {L : Nat → Nat} {p q : Nat} : iv_ex k L p q (2 * k) = p / 2 := by
  unfold iv_ex
  rw [if_neg (by omega), if_pos rfl]
theorem iv_ex_e {k : Nat} {L : Nat → Nat} {p q : Nat} : iv_ex k L p q (2 * k + 1) = q / 2 + iv_f p := by
  unfold iv_ex
  rw [if_neg (by omega), if_neg (by omega), if_pos rfl]
def iv_v (p q : Nat) : Bool := decide (p < q ∨ (p = q ∧ p % 2 = 0))
theorem iv_v_iff {p q : Nat} : iv_v p q = true ↔ (p < q ∨ (p = q ∧ p % 2 = 0)) := by
  unfold iv_v
  exact decide_eq_true_iff
theorem iv_sh_lt {p q v w : Nat} (h : v < w) : iv_sh p q v < iv_sh p q w := by
  unfold iv_sh
  repeat' split
  all_goals omega
theorem iv_sh_cmp (p q v w : Nat) : iv_cmp (iv_sh p q v) (iv_sh p q w) = iv_cmp v w := by
  rcases Nat.lt_trichotomy v w with h | h | h
  · rw [iv_c0 h, iv_c0 (iv_sh_lt h)]
  · rw [iv_c1 h, h, iv_c1 rfl]
  · rw [iv_c2 h, iv_c2 (iv_sh_lt h)]
theorem iv_sh_b {p q v : Nat} (h : p < q ∨ (p = q ∧ p % 2 = 0)) : iv_cmp (iv_sh p q v) (p / 2) = iv_cmp (2 * v + 1) p := by
  have h1 := iv_cs (iv_sh p q v) (p / 2)
  have h2 := iv_cs (2 * v + 1) p
  revert h1
  unfold iv_sh iv_f
  repeat' split
  all_goals
    intro h1
    omega
theorem iv_sh_e {p q v : Nat} (h : p < q ∨ (p = q ∧ p % 2 = 0)) : iv_cmp (iv_sh p q v) (q / 2 + iv_f p) = iv_cmp (2 * v + 1) q := by
  have h1 := iv_cs (iv_sh p q v) (q / 2 + iv_f p)
  have h2 := iv_cs (2 * v + 1) q
  revert h1
  unfold iv_sh iv_f
  repeat' split
  all_goals
    intro h1
    omega
theorem iv_be {p q : Nat} (h : p < q ∨ (p = q ∧ p % 2 = 0)) : p / 2 < q / 2 + iv_f p := by
  unfold iv_f
  omega
theorem iv_sh_m {p q v m : Nat} (h : v < m) : iv_sh p q v < m + iv_f p + iv_f q := by
  unfold iv_sh
  repeat' split
  all_goals omega
theorem iv_sh_sur {p q w m : Nat} (h : p < q ∨ (p = q ∧ p % 2 = 0)) (hp : p ≤ 2 * m) (hq : q ≤ 2 * m) (hw : w < m + iv_f p + iv_f q) :
    w = p / 2 ∨ w = q / 2 + iv_f p ∨ ∃ v, v < m ∧ iv_sh p q v = w := by
  by_cases h1 : w = p / 2
  · exact Or.inl h1
  · by_cases h2 : w = q / 2 + iv_f p
    · exact Or.inr (Or.inl h2)
    · refine Or.inr (Or.inr ?_)
      by_cases c1 : w < p / 2
      · refine ⟨w, by omega, ?_⟩
        unfold iv_sh
        rw [if_neg (by omega), if_neg (by omega)]
        omega
      · by_cases c2 : w < q / 2 + iv_f p
        · refine ⟨w - iv_f p, ?_, ?_⟩
          · unfold iv_f at *
            omega
          · unfold iv_sh
            rw [if_pos (by unfold iv_f at *; omega), if_neg (by unfold iv_f at *; omega)]
            unfold iv_f at *
            omega
        · refine ⟨w - iv_f p - iv_f q, ?_, ?_⟩
          · unfold iv_f at *
            omega
          · unfold iv_sh
            rw [if_pos (by unfold iv_f at *; omega), if_pos (by unfold iv_f at *; omega)]
            unfold iv_f at *
            omega
def iv_Can (k : Nat) (L : Nat → Nat) (m : Nat) : Prop :=
  (∀ i, i < k → L (2 * i) < L (2 * i + 1)) ∧ (∀ c, c < 2 * k → L c < m) ∧ (∀ v, v < m → ∃ c, c < 2 * k ∧ L c = v)
theorem iv_can_ex {k : Nat} {L : Nat → Nat} {m p q : Nat} (h : iv_Can k L m) (hv : p < q ∨ (p = q ∧ p % 2 = 0)) (hp : p ≤ 2 * m) (hq : q ≤ 2 * m) :
    iv_Can (k + 1) (iv_ex k L p q) (m + iv_f p + iv_f q) := by
  refine ⟨fun i hi => ?_, fun c hc => ?_, fun w hw => ?_⟩
  · by_cases e : i = k
    · subst e
      rw [iv_ex_b, iv_ex_e]
      exact iv_be hv
    · rw [iv_ex_o (by omega), iv_ex_o (by omega)]
      exact iv_sh_lt (h.1 i (by omega))
  · by_cases c1 : c < 2 * k
    · rw [iv_ex_o c1]
      exact iv_sh_m (h.2.1 c c1)
    · by_cases c2 : c = 2 * k
      · rw [c2, iv_ex_b]
        unfold iv_f
        omega
      · rw [show c = 2 * k + 1 by omega, iv_ex_e]
        unfold iv_f
        omega
  · rcases iv_sh_sur hv hp hq hw with e | e | ⟨v, hv, e⟩
    · exact ⟨2 * k, by omega, by rw [iv_ex_b, e]⟩
    · exact ⟨2 * k + 1, by omega, by rw [iv_ex_e, e]⟩
    · obtain ⟨c, hc, ec⟩ := h.2.2 v hv
      exact ⟨c, by omega, by rw [iv_ex_o hc, ec, e]⟩
theorem iv_rl_ex {k : Nat} {L : Nat → Nat} {m p q : Nat} (h : iv_Can k L m) (hv : p < q ∨ (p = q ∧ p % 2 = 0)) (hp : p ≤ 2 * m) (hq : q ≤ 2 * m)
    {i j : Nat} (hi : i < k) (hj : j < k) : iv_rl (iv_ex k L p q) i j = iv_rl L i j := by
  have hc := iv_can_ex h hv hp hq
  refine iv_rl_of hc.1 (by omega) (by omega) (iv_rel_lt _ _ _ _) ?_
  intro x y hx hy
  rw [iv_rl_cm h.1 (by omega) (by omega), iv_ex_o (by omega), iv_ex_o (by omega), iv_sh_cmp]
def iv_fit (A : iv_N) (k : Nat) (L : Nat → Nat) : Bool := decide (∀ i, i < k → (A i k).testBit (iv_rl L i k) = true)
theorem iv_fit_iff {A : iv_N} {k : Nat} {L : Nat → Nat} : iv_fit A k L = true ↔ (∀ i, i < k → (A i k).testBit (iv_rl L i k) = true) := by
  unfold iv_fit
  exact decide_eq_true_iff
def iv_go (A : iv_N) (k : Nat) (L : Nat → Nat) (m t : Nat) : Bool :=
  iv_v (t / (2 * m + 1)) (t % (2 * m + 1)) && iv_fit A k (iv_ex k L (t / (2 * m + 1)) (t % (2 * m + 1)))
def iv_lv (A : iv_N) : Nat → Nat → (Nat → Nat) → Nat → List ((Nat → Nat) × Nat)
  | 0, _, L, m => [(L, m)]
  | d + 1, k, L, m => (List.range ((2 * m + 1) * (2 * m + 1))).flatMap (fun t =>
      if iv_go A k L m t = true then
        iv_lv A d (k + 1) (iv_ex k L (t / (2 * m + 1)) (t % (2 * m + 1))) (m + iv_f (t / (2 * m + 1)) + iv_f (t % (2 * m + 1)))
      else [])
theorem iv_t_p {m t : Nat} (h : t < (2 * m + 1) * (2 * m + 1)) : t / (2 * m + 1) ≤ 2 * m := by
  have := Nat.div_lt_of_lt_mul h
  omega
theorem iv_t_q {m t : Nat} : t % (2 * m + 1) ≤ 2 * m := by
  have := Nat.mod_lt t (show 0 < 2 * m + 1 by omega)
  omega
theorem iv_go_iff {A : iv_N} {k : Nat} {L : Nat → Nat} {m t : Nat} : iv_go A k L m t = true ↔
    ((t / (2 * m + 1) < t % (2 * m + 1) ∨ (t / (2 * m + 1) = t % (2 * m + 1) ∧ t / (2 * m + 1) % 2 = 0)) ∧ ∀ i, i < k → (A i k).testBit (iv_rl (iv_ex k L (t / (2 * m + 1)) (t % (2 * m + 1))) i k) = true) := by
  unfold iv_go
  rw [Bool.and_eq_true, iv_v_iff, iv_fit_iff]
theorem iv_lv1 (A : iv_N) : ∀ (d k : Nat) (L : Nat → Nat) (m : Nat), iv_Can k L m → ∀ x, x ∈ iv_lv A d k L m →
    iv_Can (k + d) x.1 x.2 ∧ (∀ i j, i < k → j < k → iv_rl x.1 i j = iv_rl L i j) ∧ (∀ i j, i < j → j < k + d → k ≤ j → (A i j).testBit (iv_rl x.1 i j) = true)
  | 0, k, L, m, hc, x, hx => by
    rw [iv_lv, List.mem_singleton] at hx
    subst hx
    exact ⟨hc, fun _ _ _ _ => rfl, fun i j _ h1 h2 => by omega⟩
  | d + 1, k, L, m, hc, x, hx => by
    rw [iv_lv, List.mem_flatMap] at hx
    obtain ⟨t, ht, hx⟩ := hx
    have ht := List.mem_range.mp ht
    by_cases hg : iv_go A k L m t = true
    · rw [if_pos hg] at hx
      have hg := iv_go_iff.mp hg
      have hc' := iv_can_ex hc hg.1 (iv_t_p ht) iv_t_q
      obtain ⟨h1, h2, h3⟩ := iv_lv1 A d (k + 1) _ _ hc' x hx
      refine ⟨by rw [show k + (d + 1) = k + 1 + d by omega]; exact h1, fun i j hi hj => ?_, fun i j hij hj hk => ?_⟩
      · rw [h2 i j (by omega) (by omega)]
        exact iv_rl_ex hc hg.1 (iv_t_p ht) iv_t_q hi hj
      · by_cases e : j = k
        · rw [h2 i j (by omega) (by omega), e]
          exact hg.2 i (by omega)
        · exact h3 i j hij (by omega) (by omega)
    · rw [if_neg hg] at hx
      cases hx
/- a place among the old points for an end that compares as a code says -/
theorem iv_place {k : Nat} {L : Nat → Nat} {m : Nat} (h : iv_Can k L m) {c : Nat → Nat} (h3 : ∀ a, a < 2 * k → c a < 3)
    (ht : ∀ a b, a < 2 * k → b < 2 * k → iv_tr (iv_cmp (L a) (L b)) (c b) (c a) = true) :
    ∃ p, p ≤ 2 * m ∧ ∀ a, a < 2 * k → iv_cmp (2 * L a + 1) p = c a := by
  have key : ∀ d t, t + d = m → (∀ a, a < 2 * k → L a < t → c a = 0) → ∃ p, p ≤ 2 * m ∧ ∀ a, a < 2 * k → iv_cmp (2 * L a + 1) p = c a := by
    intro d
    induction d with
    | zero =>
      intro t e hz
      refine ⟨2 * m, by omega, fun a ha => ?_⟩
      have := h.2.1 a ha
      rw [hz a ha (by omega)]
      exact iv_c0 (by omega)
    | succ d ih =>
      intro t e hz
      obtain ⟨b, hb, eb⟩ := h.2.2 t (by omega)
      have hb3 := h3 b hb
      by_cases z0 : c b = 0
      · refine ih (t + 1) (by omega) (fun a ha hla => ?_)
        by_cases e1 : L a = t
        · have h1 := iv_tr_iff.mp (ht a b ha hb)
          have h2 := iv_c1 (show L a = L b by omega)
          have := h1.1 h2
          omega
        · exact hz a ha (by omega)
      · by_cases z1 : c b = 1
        · refine ⟨2 * t + 1, by omega, fun a ha => ?_⟩
          have h1 := iv_tr_iff.mp (ht a b ha hb)
          rcases Nat.lt_trichotomy (L a) t with g | g | g
          · rw [hz a ha g]
            exact iv_c0 (by omega)
          · have h2 := iv_c1 (show L a = L b by omega)
            have h4 := h1.1 h2
            rw [h4, z1]
            exact iv_c1 (by omega)
          · have h2 := iv_c2 (show L b < L a by omega)
            have h4 := h1.2.1 z1
            rw [h4, h2]
            exact iv_c2 (by omega)
        · have z2 : c b = 2 := by omega
          refine ⟨2 * t, by omega, fun a ha => ?_⟩
          have h1 := iv_tr_iff.mp (ht a b ha hb)
          rcases Nat.lt_trichotomy (L a) t with g | g | g
          · rw [hz a ha g]
            exact iv_c0 (by omega)
          · have h2 := iv_c1 (show L a = L b by omega)
            have h4 := h1.1 h2
            rw [h4, z2]
            exact iv_c2 (by omega)
          · have h2 := iv_c2 (show L b < L a by omega)
            have h4 := h1.2.2 (by rw [h2, z2])
            rw [h4, h2]
            exact iv_c2 (by omega)
  exact key m 0 (by omega) (fun a _ h => absurd h (Nat.not_lt_zero _))
theorem iv_cmp_3 (x y : Nat) : iv_cmp x y < 3 := by
  have := iv_cs x y
  omega
theorem iv_ext {k : Nat} {L : Nat → Nat} {m : Nat} (h : iv_Can k L m) {R : iv_N} (hg : iv_Good (k + 1) R)
    (he : ∀ i j, i < k → j < k → R i j = iv_rl L i j) :
    ∃ p q, (p < q ∨ (p = q ∧ p % 2 = 0)) ∧ p ≤ 2 * m ∧ q ≤ 2 * m ∧ ∀ i j, i < k + 1 → j < k + 1 → iv_rl (iv_ex k L p q) i j = R i j := by
  have hold : ∀ a b, a < 2 * k → b < 2 * k → iv_cm R a b = iv_cmp (L a) (L b) := by
    intro a b ha hb
    rw [← iv_rl_cm h.1 ha hb]
    unfold iv_cm
    rw [he _ _ (by omega) (by omega)]
  have h3 : ∀ a b, iv_cm R a b < 3 := fun a b => iv_cmp_3 _ _
  have tr : ∀ a b, a < 2 * k → b < 2 * k → ∀ w, w < 2 * (k + 1) → iv_tr (iv_cmp (L a) (L b)) (iv_cm R b w) (iv_cm R a w) = true := by
    intro a b ha hb w hw
    rw [← hold a b ha hb]
    exact iv_cm_tr hg (by omega) (by omega) hw
  obtain ⟨p, hp, cp⟩ := iv_place h (c := fun a => iv_cm R a (2 * k)) (fun a _ => h3 _ _) (fun a b ha hb => tr a b ha hb (2 * k) (by omega))
  obtain ⟨q, hq, cq⟩ := iv_place h (c := fun a => iv_cm R a (2 * k + 1)) (fun a _ => h3 _ _) (fun a b ha hb => tr a b ha hb (2 * k + 1) (by omega))
  have cp : ∀ a, a < 2 * k → iv_cmp (2 * L a + 1) p = iv_cm R a (2 * k) := cp
  have cq : ∀ a, a < 2 * k → iv_cmp (2 * L a + 1) q = iv_cm R a (2 * k + 1) := cq
  have hbe : iv_cm R (2 * k) (2 * k + 1) = 0 := by
    unfold iv_cm
    rw [show 2 * k / 2 = k by omega, show (2 * k + 1) / 2 = k by omega, show 2 * k % 2 = 0 by omega, show (2 * k + 1) % 2 = 1 by omega, hg.1 k (by omega)]
    decide
  have step : ∀ v, v < m → 2 * v + 1 ≤ p → 2 * v + 1 < q := by
    intro v hv hle
    obtain ⟨a, ha, ea⟩ := h.2.2 v hv
    have h1 := iv_tr_iff.mp (iv_cm_tr hg (p := a) (q := 2 * k) (w := 2 * k + 1) (by omega) (by omega) (by omega))
    rw [hbe, ← cp a ha, ← cq a ha, ea] at h1
    have h4 := iv_cs (2 * v + 1) p
    have h5 := iv_cs (2 * v + 1) q
    omega
  have hv : p < q ∨ (p = q ∧ p % 2 = 0) := by
    by_cases o : p % 2 = 1
    · have := step (p / 2) (by omega) (by omega)
      omega
    · by_cases z : p = 0
      · omega
      · have := step (p / 2 - 1) (by omega) (by omega)
        omega
  refine ⟨p, q, hv, hp, hq, ?_⟩
  have hc := iv_can_ex h hv hp hq
  have hk : ∀ i, i < k → iv_rl (iv_ex k L p q) i k = R i k := by
    intro i hi
    refine iv_rl_of hc.1 (by omega) (by omega) (hg.2.1 i k (by omega) (by omega)).1 ?_
    intro x y hx hy
    rw [iv_ex_o (by omega)]
    by_cases ey : y = 0
    · subst ey
      rw [show 2 * k + 0 = 2 * k by omega, iv_ex_b, iv_sh_b hv]
      exact cp _ (by omega)
    · have ey : y = 1 := by omega
      subst ey
      rw [iv_ex_e, iv_sh_e hv]
      exact cq _ (by omega)
  intro i j hi hj
  by_cases e1 : i = k
  · by_cases e2 : j = k
    · rw [e1, e2, hg.1 k (by omega)]
      exact iv_rel_self (hc.1 k (by omega))
    · rw [e1, (hg.2.1 j k (by omega) (by omega)).2, ← hk j (by omega)]
      exact iv_rel_flip (hc.1 j (by omega)) (hc.1 k (by omega))
  · by_cases e2 : j = k
    · rw [e2]
      exact hk i (by omega)
    · rw [he i j (by omega) (by omega)]
      exact iv_rl_ex h hv hp hq (by omega) (by omega)
theorem iv_pq {m p q : Nat} (hp : p ≤ 2 * m) (hq : q ≤ 2 * m) : p * (2 * m + 1) + q < (2 * m + 1) * (2 * m + 1) ∧ (p * (2 * m + 1) + q) / (2 * m + 1) = p ∧ (p * (2 * m + 1) + q) % (2 * m + 1) = q := by
  refine ⟨?_, ?_, ?_⟩
  · have h1 : (p + 1) * (2 * m + 1) ≤ (2 * m + 1) * (2 * m + 1) := Nat.mul_le_mul_right _ (by omega)
    rw [Nat.add_mul] at h1
    omega
  · rw [Nat.mul_comm p (2 * m + 1), Nat.mul_add_div (by omega), Nat.div_eq_of_lt (by omega), Nat.add_zero]
  · rw [Nat.mul_comm p (2 * m + 1), Nat.mul_add_mod, Nat.mod_eq_of_lt (by omega)]
theorem iv_good_le {n n' : Nat} {R : iv_N} (h : iv_Good n R) (hn : n' ≤ n) : iv_Good n' R :=
  ⟨fun i hi => h.1 i (by omega), fun i j hi hj => h.2.1 i j (by omega) (by omega), fun i j l hi hj hl => h.2.2 i j l (by omega) (by omega) (by omega)⟩
theorem iv_lv2 (A : iv_N) : ∀ (d k : Nat) (L : Nat → Nat) (m : Nat), iv_Can k L m → ∀ R, iv_Good (k + d) R → (∀ i j, i < k → j < k → R i j = iv_rl L i j) →
    (∀ i j, i < j → j < k + d → k ≤ j → (A i j).testBit (R i j) = true) → ∃ x, x ∈ iv_lv A d k L m ∧ ∀ i j, i < k + d → j < k + d → iv_rl x.1 i j = R i j
  | 0, k, L, m, hc, R, hg, he, hb => by
    refine ⟨(L, m), by rw [iv_lv]; exact List.mem_singleton.mpr rfl, fun i j hi hj => (he i j hi hj).symm⟩
  | d + 1, k, L, m, hc, R, hg, he, hb => by
    obtain ⟨p, q, hv, hp, hq, hR⟩ := iv_ext hc (iv_good_le hg (by omega)) he
    obtain ⟨ht, e1, e2⟩ := iv_pq hp hq
    have hgo : iv_go A k L m (p * (2 * m + 1) + q) = true := by
      rw [iv_go_iff, e1, e2]
      refine ⟨hv, fun i hi => ?_⟩
      rw [hR i k (by omega) (by omega)]
      exact hb i k hi (by omega) (by omega)
    obtain ⟨x, hx, hxR⟩ := iv_lv2 A d (k + 1) (iv_ex k L p q) (m + iv_f p + iv_f q) (iv_can_ex hc hv hp hq) R
      (by rw [show k + 1 + d = k + (d + 1) by omega]; exact hg) (fun i j hi hj => (hR i j hi hj).symm)
      (fun i j h1 h2 h3 => hb i j h1 (by omega) (by omega))
    refine ⟨x, ?_, fun i j hi hj => hxR i j (by omega) (by omega)⟩
    rw [iv_lv, List.mem_flatMap]
    refine ⟨p * (2 * m + 1) + q, List.mem_range.mpr ht, ?_⟩
    rw [if_pos hgo, e1, e2]
    exact hx
def iv_nt (n : Nat) (L : Nat → Nat) : iv_N := fun x y => if x < n ∧ y < n then iv_rl L x y else 6
theorem iv_nt_in {n : Nat} {L : Nat → Nat} {x y : Nat} (hx : x < n) (hy : y < n) : iv_nt n L x y = iv_rl L x y := if_pos ⟨hx, hy⟩
theorem iv_code {m p q : Nat} (hp : p ≤ 2 * m) (hq : q ≤ 2 * m) (h : ∀ v, v < m → iv_cmp (2 * v + 1) p = iv_cmp (2 * v + 1) q) : p = q := by
  rcases Nat.lt_trichotomy p q with g | g | g
  · have h1 := h (p / 2) (by omega)
    have h2 := iv_cs (2 * (p / 2) + 1) p
    have h3 := iv_cs (2 * (p / 2) + 1) q
    omega
  · exact g
  · have h1 := h (q / 2) (by omega)
    have h2 := iv_cs (2 * (q / 2) + 1) p
    have h3 := iv_cs (2 * (q / 2) + 1) q
    omega
theorem iv_ex_inj {k : Nat} {L : Nat → Nat} {m p q p' q' : Nat} (h : iv_Can k L m) (hv : p < q ∨ (p = q ∧ p % 2 = 0)) (hp : p ≤ 2 * m) (hq : q ≤ 2 * m)
    (hv' : p' < q' ∨ (p' = q' ∧ p' % 2 = 0)) (hp' : p' ≤ 2 * m) (hq' : q' ≤ 2 * m)
    (he : ∀ i, i < k → iv_rl (iv_ex k L p q) i k = iv_rl (iv_ex k L p' q') i k) : p = p' ∧ q = q' := by
  have hc := iv_can_ex h hv hp hq
  have hc' := iv_can_ex h hv' hp' hq'
  have key : ∀ a y, a < 2 * k → y < 2 → iv_cmp (iv_ex k L p q a) (iv_ex k L p q (2 * k + y)) = iv_cmp (iv_ex k L p' q' a) (iv_ex k L p' q' (2 * k + y)) := by
    intro a y ha hy
    rw [← iv_rl_cm hc.1 (by omega) (by omega), ← iv_rl_cm hc'.1 (by omega) (by omega)]
    unfold iv_cm
    rw [show (2 * k + y) / 2 = k by omega, he _ (by omega)]
  constructor
  · refine iv_code hp hp' (fun v hvm => ?_)
    obtain ⟨a, ha, ea⟩ := h.2.2 v hvm
    have := key a 0 ha (by omega)
    rw [iv_ex_o ha, iv_ex_o ha, Nat.add_zero, iv_ex_b, iv_ex_b, iv_sh_b hv, iv_sh_b hv', ea] at this
    exact this
  · refine iv_code hq hq' (fun v hvm => ?_)
    obtain ⟨a, ha, ea⟩ := h.2.2 v hvm
    have := key a 1 ha (by omega)
    rw [iv_ex_o ha, iv_ex_o ha, iv_ex_e, iv_ex_e, iv_sh_e hv, iv_sh_e hv', ea] at this
    exact this
theorem iv_lv3 (A : iv_N) : ∀ (d k : Nat) (L : Nat → Nat) (m : Nat), iv_Can k L m → ((iv_lv A d k L m).map (fun x => iv_nt (k + d) x.1)).Nodup
  | 0, k, L, m, hc => by
    rw [iv_lv, List.map_cons, List.map_nil]
    exact List.nodup_cons.mpr ⟨fun h => (by cases h), List.nodup_nil⟩
  | d + 1, k, L, m, hc => by
    rw [iv_lv, List.map_flatMap]
    refine List.pairwise_flatMap.mpr ⟨fun t ht => ?_, ?_⟩
    · have ht := List.mem_range.mp ht
      by_cases hg : iv_go A k L m t = true
      · rw [if_pos hg]
        have hg := iv_go_iff.mp hg
        have := iv_lv3 A d (k + 1) _ _ (iv_can_ex hc hg.1 (iv_t_p ht) iv_t_q)
        rw [show k + 1 + d = k + (d + 1) by omega] at this
        exact this
      · rw [if_neg hg]
        exact List.Pairwise.nil
    · refine List.Pairwise.imp_of_mem ?_ (List.pairwise_lt_range (n := (2 * m + 1) * (2 * m + 1)))
      intro a b hra hrb hab x hx y hy
      have hra := List.mem_range.mp hra
      have hrb := List.mem_range.mp hrb
      by_cases ha : iv_go A k L m a = true
      · by_cases hb : iv_go A k L m b = true
        · rw [if_pos ha] at hx
          rw [if_pos hb] at hy
          have ha := iv_go_iff.mp ha
          have hb := iv_go_iff.mp hb
          obtain ⟨x', hx', ex⟩ := List.mem_map.mp hx
          obtain ⟨y', hy', ey⟩ := List.mem_map.mp hy
          have h1 := (iv_lv1 A d (k + 1) _ _ (iv_can_ex hc ha.1 (iv_t_p hra) iv_t_q) x' hx').2.1
          have h2 := (iv_lv1 A d (k + 1) _ _ (iv_can_ex hc hb.1 (iv_t_p hrb) iv_t_q) y' hy').2.1
          intro e
          have e' : ∀ i, i < k → iv_rl (iv_ex k L (a / (2 * m + 1)) (a % (2 * m + 1))) i k = iv_rl (iv_ex k L (b / (2 * m + 1)) (b % (2 * m + 1))) i k := by
            intro i hi
            rw [← h1 i k (by omega) (by omega), ← h2 i k (by omega) (by omega)]
            have e3 : iv_nt (k + (d + 1)) x'.1 i k = iv_nt (k + (d + 1)) y'.1 i k := by
              rw [ex, ey, e]
            rw [iv_nt_in (by omega) (by omega), iv_nt_in (by omega) (by omega)] at e3
            exact e3
          have e4 := iv_ex_inj hc ha.1 (iv_t_p hra) iv_t_q hb.1 (iv_t_p hrb) iv_t_q e'
          have e5 := Nat.div_add_mod a (2 * m + 1)
          have e6 := Nat.div_add_mod b (2 * m + 1)
          rw [e4.1, e4.2] at e5
          omega
        · rw [if_neg hb, List.map_nil] at hy
          cases hy
      · rw [if_neg ha, List.map_nil] at hx
        cases hx
