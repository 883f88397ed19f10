def iv_up (A : iv_N) (i j v : Nat) : iv_N := fun x y => if x = i ∧ y = j then v else A x y
theorem iv_sing {B R : iv_N} {p : Nat × Nat} {tl : List (Nat × Nat)} {r : Nat} (hr : r < 13) (h : ∀ s, (B p.1 p.2).testBit s = true → s = r) :
    iv_nets B (p :: tl) R = if (iv_opn B R p.1 p.2).testBit r = true then iv_nets B tl (iv_set R p.1 p.2 r) else [] := by
  rw [iv_nets_g]
  have hf : ∀ s, s ≠ r → (iv_opn B R p.1 p.2).testBit s = false := by
    intro s hs
    cases e : (iv_opn B R p.1 p.2).testBit s
    · rfl
    · exact absurd (h s (iv_opn_bit.mp e).1) hs
  by_cases c : (iv_opn B R p.1 p.2).testBit r = true
  · rw [if_pos c, iv_g_wo _ (U' := 0) (r := r) ⟨c, fun s hs => hf s (by omega), Nat.zero_testBit r, fun s hs => by rw [hf s hs]; exact Nat.zero_testBit s⟩ 13 hr,
      iv_g_nil _ 13 (fun s _ => Nat.zero_testBit s), List.append_nil]
  · rw [if_neg c]
    refine iv_g_nil _ 13 (fun s _ => ?_)
    by_cases e : s = r
    · rw [e]
      exact Bool.eq_false_iff.mpr c
    · exact hf s e
theorem iv_g_pre {α : Type} (f : Nat → List α) (U : Nat) {a i : Nat} (hi : i < (iv_g f U a).length) : ∀ N, a ≤ N → (iv_g f U N)[i]? = (iv_g f U a)[i]?
  | 0, h => by rw [show a = 0 by omega]
  | n + 1, h => by
    by_cases e : a = n + 1
    · rw [e]
    · have ih := iv_g_pre f U hi n (by omega)
      have hl : i < (iv_g f U n).length := by
        rw [List.getElem?_eq_getElem hi] at ih
        exact (List.getElem?_eq_some_iff.mp ih).1
      rw [iv_g_s, List.getElem?_append_left hl, ih]
theorem iv_pick {α : Type} (f : Nat → List α) {U r N i : Nat} (hr : r < N) (h1 : (iv_g f U r).length ≤ i) (h2 : i < (iv_g f U (r + 1)).length) :
    (iv_g f U N)[i]? = (if U.testBit r = true then f r else [])[i - (iv_g f U r).length]? := by
  rw [iv_g_pre f U h2 N hr, iv_g_s, List.getElem?_append_right h1]
/- all pairs ahead of qs are single: what is left are the networks behind R -/
def iv_col (n : Nat) (B : iv_N) (qs : List (Nat × Nat)) (R : iv_N) : Prop :=
  ∀ B', (∀ p, p ∈ iv_ps n → p ∉ qs → B' p.1 p.2 = B p.1 p.2) → iv_nets B' (iv_ps n) iv_R0 = iv_nets B' qs R
theorem iv_col_0 (n : Nat) (B : iv_N) : iv_col n B (iv_ps n) iv_R0 := fun _ _ => rfl
theorem iv_col_s {n : Nat} {B B1 : iv_N} {p : Nat × Nat} {tl : List (Nat × Nat)} {R : iv_N} {r : Nat} (ho : iv_ord (p :: tl)) (hc : iv_col n B (p :: tl) R) (hp : p ∈ iv_ps n) (hr : r < 13)
    (h1 : ∀ s, (B1 p.1 p.2).testBit s = true ↔ ((B p.1 p.2).testBit s = true ∧ s = r)) (h2 : ∀ q, q ∈ iv_ps n → q ≠ p → B1 q.1 q.2 = B q.1 q.2)
    (hb : (iv_opn B R p.1 p.2).testBit r = true) : iv_col n B1 tl (iv_set R p.1 p.2 r) := by
  intro B' h
  have hnp : p ∉ tl := by
    intro z
    exact (iv_ord_q ho z).2.1 ⟨rfl, rfl⟩
  have e1 : B' p.1 p.2 = B1 p.1 p.2 := h p hp hnp
  rw [hc B' (fun q hq hn => ?_)]
  · rw [iv_sing hr (fun s hs => by rw [e1] at hs; exact ((h1 s).mp hs).2), if_pos]
    have hb := iv_opn_bit.mp hb
    exact iv_opn_bit.mpr ⟨by rw [e1]; exact (h1 r).mpr ⟨hb.1, rfl⟩, hb.2⟩
  · have hqp : q ≠ p := fun e => hn (by rw [e]; exact List.mem_cons_self)
    rw [h q hq (fun z => hn (List.mem_cons_of_mem _ z)), h2 q hq hqp]
/- the number of those with r at p -/
theorem iv_col_len {n : Nat} {B B1 : iv_N} {p : Nat × Nat} {tl : List (Nat × Nat)} {R : iv_N} {r : Nat} (ho : iv_ord (p :: tl)) (hs : ∀ q, q ∈ p :: tl → q ∈ iv_ps n) (hc : iv_col n B (p :: tl) R) (hr : r < 13)
    (h1 : ∀ s, (B1 p.1 p.2).testBit s = true ↔ ((B p.1 p.2).testBit s = true ∧ s = r)) (h2 : ∀ q, q ∈ iv_ps n → q ≠ p → B1 q.1 q.2 = B q.1 q.2) :
    iv_nets B1 (iv_ps n) iv_R0 = if (iv_opn B R p.1 p.2).testBit r = true then iv_nets B tl (iv_set R p.1 p.2 r) else [] := by
  have hnp : p ∉ tl := by
    intro z
    exact (iv_ord_q ho z).2.1 ⟨rfl, rfl⟩
  rw [hc B1 (fun q hq hn => h2 q hq (fun e => hn (by rw [e]; exact List.mem_cons_self))), iv_sing hr (fun s hs => ((h1 s).mp hs).2)]
  have e : (iv_opn B1 R p.1 p.2).testBit r = (iv_opn B R p.1 p.2).testBit r := by
    rw [Bool.eq_iff_iff, iv_opn_bit, iv_opn_bit, h1 r]
    exact ⟨fun h => ⟨h.1.1, h.2⟩, fun h => ⟨⟨h.1, rfl⟩, h.2⟩⟩
  rw [e, iv_nets_congr tl _ (fun q hq => h2 q (hs q (List.mem_cons_of_mem _ hq)) (fun z => hnp (by rw [← z]; exact hq)))]
/- the pairs from a cell on -/
def iv_pf (n c : Nat) : List (Nat × Nat) := (iv_ps n).filter (fun p => decide (c ≤ 4 * p.1 + p.2))
theorem iv_pf_in2 : ∀ c, c < 16 → (c / 4 < c % 4 ∧ c % 4 < 2) → iv_pf 2 c = (c / 4, c % 4) :: iv_pf 2 (c + 1) := by decide
theorem iv_pf_out2 : ∀ c, c < 16 → ¬ (c / 4 < c % 4 ∧ c % 4 < 2) → iv_pf 2 c = iv_pf 2 (c + 1) := by decide
theorem iv_pf_in3 : ∀ c, c < 16 → (c / 4 < c % 4 ∧ c % 4 < 3) → iv_pf 3 c = (c / 4, c % 4) :: iv_pf 3 (c + 1) := by decide
theorem iv_pf_out3 : ∀ c, c < 16 → ¬ (c / 4 < c % 4 ∧ c % 4 < 3) → iv_pf 3 c = iv_pf 3 (c + 1) := by decide
theorem iv_pf_in4 : ∀ c, c < 16 → (c / 4 < c % 4 ∧ c % 4 < 4) → iv_pf 4 c = (c / 4, c % 4) :: iv_pf 4 (c + 1) := by decide
theorem iv_pf_out4 : ∀ c, c < 16 → ¬ (c / 4 < c % 4 ∧ c % 4 < 4) → iv_pf 4 c = iv_pf 4 (c + 1) := by decide
theorem iv_pf_in {n c : Nat} (hn : iv_n n) (hc : c < 16) (h : c / 4 < c % 4 ∧ c % 4 < n) : iv_pf n c = (c / 4, c % 4) :: iv_pf n (c + 1) := by
  rcases hn with e | e | e <;> subst e
  · exact iv_pf_in2 c hc h
  · exact iv_pf_in3 c hc h
  · exact iv_pf_in4 c hc h
theorem iv_pf_out {n c : Nat} (hn : iv_n n) (hc : c < 16) (h : ¬ (c / 4 < c % 4 ∧ c % 4 < n)) : iv_pf n c = iv_pf n (c + 1) := by
  rcases hn with e | e | e <;> subst e
  · exact iv_pf_out2 c hc h
  · exact iv_pf_out3 c hc h
  · exact iv_pf_out4 c hc h
theorem iv_pf_0 {n : Nat} (hn : iv_n n) : iv_pf n 0 = iv_ps n ∧ iv_pf n 16 = [] := by
  rcases hn with e | e | e <;> subst e <;> decide
/- the most of a row -/
def iv_mx (g : Nat → Nat) : Nat → Nat
  | 0 => 0
  | n + 1 => if iv_mx g n < g n then g n else iv_mx g n
theorem iv_mx_le {g : Nat → Nat} {B : Nat} : ∀ N, iv_mx g N ≤ B ↔ ∀ i, i < N → g i ≤ B
  | 0 => ⟨fun _ i hi => absurd hi (Nat.not_lt_zero _), fun _ => Nat.zero_le _⟩
  | n + 1 => by
    have ih := iv_mx_le (g := g) (B := B) n
    rw [iv_mx]
    constructor
    · intro h i hi
      by_cases e : i = n
      · subst e
        split at h <;> omega
      · refine ih.mp ?_ i (by omega)
        split at h <;> omega
    · intro h
      have h1 := ih.mpr (fun i hi => h i (by omega))
      have h2 := h n (by omega)
      split <;> omega
theorem iv_mx_congr {g g' : Nat → Nat} : ∀ N, (∀ i, i < N → g i = g' i) → iv_mx g N = iv_mx g' N
  | 0, _ => rfl
  | n + 1, h => by rw [iv_mx, iv_mx, iv_mx_congr n (fun i hi => h i (by omega)), h n (by omega)]
theorem iv_top (P : Nat → Prop) (g : Nat → Nat) : ∀ n, (∃ i, i < n ∧ P i) → ∃ i, i < n ∧ P i ∧ ∀ j, j < n → P j → g j ≤ g i
  | 0, h => by
    obtain ⟨i, hi, _⟩ := h
    omega
  | n + 1, h => by
    by_cases z : ∃ i, i < n ∧ P i
    · obtain ⟨i, h1, h2, h3⟩ := iv_top P g n z
      by_cases c : P n ∧ g i < g n
      · refine ⟨n, by omega, c.1, fun j hj hP => ?_⟩
        by_cases e : j = n
        · rw [e]
          exact Nat.le_refl _
        · have := h3 j (by omega) hP
          omega
      · refine ⟨i, by omega, h2, fun j hj hP => ?_⟩
        by_cases e : j = n
        · subst e
          by_cases g' : g i < g j
          · exact absurd ⟨hP, g'⟩ c
          · omega
        · exact h3 j (by omega) hP
    · obtain ⟨i, hi, hP⟩ := h
      have e : i = n := by
        by_cases g' : i < n
        · exact absurd ⟨i, g', hP⟩ z
        · omega
      subst e
      refine ⟨i, hi, hP, fun j hj hPj => ?_⟩
      by_cases e : j = i
      · rw [e]
        exact Nat.le_refl _
      · exact absurd ⟨j, by omega, hPj⟩ z
def iv_cv (n : Nat) (L : Nat → Nat) (t : Nat) : Nat := iv_ct (fun j => decide (L (2 * j) ≤ t) && decide (t < L (2 * j + 1))) n
theorem iv_can_m {k : Nat} {L : Nat → Nat} {m : Nat} (h : iv_Can k L m) : m ≤ 2 * k := by
  rw [← iv_total h]
  exact iv_ct_ub _ _
theorem iv_crowd {n : Nat} {L : Nat → Nat} {m : Nat} (h : iv_Can n L m) (hn : n ≤ 4) : iv_mx (fun i => iv_cv n L (L (2 * i))) n = iv_mx (iv_cv n L) 8 := by
  have hm := iv_can_m h
  apply Nat.le_antisymm
  · rw [iv_mx_le]
    intro i hi
    have h1 := (iv_mx_le (g := iv_cv n L) (B := iv_mx (iv_cv n L) 8) 8).mp (Nat.le_refl _)
    have h2 := h.2.1 (2 * i) (by omega)
    exact h1 (L (2 * i)) (by omega)
  · rw [iv_mx_le]
    intro t _
    by_cases z : ∃ i, i < n ∧ (L (2 * i) ≤ t ∧ t < L (2 * i + 1))
    · obtain ⟨i, hi, hP, ht⟩ := iv_top (fun i => L (2 * i) ≤ t ∧ t < L (2 * i + 1)) (fun i => L (2 * i)) n z
      have h1 := (iv_mx_le (g := fun i => iv_cv n L (L (2 * i))) (B := iv_mx (fun i => iv_cv n L (L (2 * i))) n) n).mp (Nat.le_refl _) i hi
      refine Nat.le_trans ?_ h1
      refine iv_ct_le n (fun j hj hj' => ?_)
      rw [Bool.and_eq_true, decide_eq_true_iff, decide_eq_true_iff] at hj'
      have h2 := ht j hj hj'
      rw [Bool.and_eq_true, decide_eq_true_iff, decide_eq_true_iff]
      exact ⟨h2, by omega⟩
    · have : iv_cv n L t = 0 := iv_ct_0 n (fun j hj hj' => by
        rw [Bool.and_eq_true, decide_eq_true_iff, decide_eq_true_iff] at hj'
        exact z ⟨j, hj, hj'⟩)
      omega
