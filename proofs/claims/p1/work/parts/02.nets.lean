def iv_set (R : iv_N) (i j r : Nat) : iv_N := fun x y => if x = i ∧ y = j then r else if x = j ∧ y = i then 12 - r else R x y
theorem iv_set1 {R : iv_N} {i j r : Nat} : iv_set R i j r i j = r := if_pos ⟨rfl, rfl⟩
theorem iv_set2 {R : iv_N} {i j r : Nat} (h : i < j) : iv_set R i j r j i = 12 - r := by
  unfold iv_set
  rw [if_neg (by omega), if_pos ⟨rfl, rfl⟩]
theorem iv_set3 {R : iv_N} {i j r x y : Nat} (h1 : ¬ (x = i ∧ y = j)) (h2 : ¬ (x = j ∧ y = i)) : iv_set R i j r x y = R x y := by
  unfold iv_set
  rw [if_neg h1, if_neg h2]
def iv_om (A R : iv_N) (i j : Nat) : Nat → Nat
  | 0 => A i j
  | m + 1 => iv_om A R i j m &&& iv_tb (R i m) (R m j)
def iv_opn (A R : iv_N) (i j : Nat) : Nat := iv_om A R i j i
theorem iv_om_bit (A R : iv_N) (i j r : Nat) : ∀ k, (iv_om A R i j k).testBit r = true ↔ ((A i j).testBit r = true ∧ ∀ m, m < k → iv_T (R i m) (R m j) r = true)
  | 0 => ⟨fun h => ⟨h, fun m hm => absurd hm (Nat.not_lt_zero m)⟩, fun h => h.1⟩
  | k + 1 => by
    rw [iv_om, Nat.testBit_and, Bool.and_eq_true, iv_om_bit A R i j r k]
    constructor
    · rintro ⟨⟨h1, h2⟩, h3⟩
      refine ⟨h1, fun m hm => ?_⟩
      by_cases e : m = k
      · subst e
        exact h3
      · exact h2 m (by omega)
    · rintro ⟨h1, h2⟩
      exact ⟨⟨h1, fun m hm => h2 m (by omega)⟩, h2 k (by omega)⟩
theorem iv_opn_bit {A R : iv_N} {i j r : Nat} : (iv_opn A R i j).testBit r = true ↔ ((A i j).testBit r = true ∧ ∀ m, m < i → iv_T (R i m) (R m j) r = true) := iv_om_bit A R i j r i
theorem iv_om_lt {A R : iv_N} {i j : Nat} (h : A i j < 8192) : ∀ k, iv_om A R i j k < 8192
  | 0 => h
  | k + 1 => by
    rw [iv_om]
    exact Nat.lt_of_le_of_lt Nat.and_le_left (iv_om_lt h k)
def iv_nets (A : iv_N) : List (Nat × Nat) → iv_N → List iv_N
  | [], R => [R]
  | p :: tl, R => (List.range 13).flatMap (fun r => if (iv_opn A R p.1 p.2).testBit r = true then iv_nets A tl (iv_set R p.1 p.2 r) else [])
def iv_off (ps : List (Nat × Nat)) (x y : Nat) : Prop := ∀ p, p ∈ ps → ¬ (x = p.1 ∧ y = p.2) ∧ ¬ (x = p.2 ∧ y = p.1)
def iv_at (A N : iv_N) (p : Nat × Nat) : Prop :=
  N p.1 p.2 < 13 ∧ N p.2 p.1 = 12 - N p.1 p.2 ∧ (A p.1 p.2).testBit (N p.1 p.2) = true ∧ ∀ m, m < p.1 → iv_T (N p.1 m) (N m p.2) (N p.1 p.2) = true
def iv_ord (ps : List (Nat × Nat)) : Prop := ps.Pairwise (fun p q => p.1 ≤ q.1 ∧ ¬ (q.1 = p.1 ∧ q.2 = p.2)) ∧ ∀ p, p ∈ ps → p.1 < p.2
theorem iv_ord_tl {p : Nat × Nat} {tl : List (Nat × Nat)} (h : iv_ord (p :: tl)) : iv_ord tl :=
  ⟨(List.pairwise_cons.mp h.1).2, fun q hq => h.2 q (List.mem_cons_of_mem _ hq)⟩
theorem iv_ord_hd {p : Nat × Nat} {tl : List (Nat × Nat)} (h : iv_ord (p :: tl)) : p.1 < p.2 := h.2 p List.mem_cons_self
theorem iv_ord_q {p : Nat × Nat} {tl : List (Nat × Nat)} (h : iv_ord (p :: tl)) {q : Nat × Nat} (hq : q ∈ tl) : p.1 ≤ q.1 ∧ ¬ (q.1 = p.1 ∧ q.2 = p.2) ∧ q.1 < q.2 := by
  have h1 := (List.pairwise_cons.mp h.1).1 q hq
  exact ⟨h1.1, h1.2, h.2 q (List.mem_cons_of_mem _ hq)⟩
theorem iv_off_a {p : Nat × Nat} {tl : List (Nat × Nat)} (h : iv_ord (p :: tl)) : iv_off tl p.1 p.2 := by
  intro q hq
  have h1 := iv_ord_q h hq
  have h2 := iv_ord_hd h
  omega
theorem iv_off_b {p : Nat × Nat} {tl : List (Nat × Nat)} (h : iv_ord (p :: tl)) : iv_off tl p.2 p.1 := by
  intro q hq
  have h1 := iv_ord_q h hq
  have h2 := iv_ord_hd h
  omega
theorem iv_off_c {p : Nat × Nat} {tl : List (Nat × Nat)} (h : iv_ord (p :: tl)) {m : Nat} (hm : m < p.1) : iv_off (p :: tl) p.1 m := by
  intro q hq
  have h2 := iv_ord_hd h
  rcases List.mem_cons.mp hq with e | hq
  · rw [e]
    omega
  · have h1 := iv_ord_q h hq
    omega
theorem iv_off_d {p : Nat × Nat} {tl : List (Nat × Nat)} (h : iv_ord (p :: tl)) {m : Nat} (hm : m < p.1) : iv_off (p :: tl) m p.2 := by
  intro q hq
  have h2 := iv_ord_hd h
  rcases List.mem_cons.mp hq with e | hq
  · rw [e]
    omega
  · have h1 := iv_ord_q h hq
    omega
theorem iv_off_set {R : iv_N} {p : Nat × Nat} {tl : List (Nat × Nat)} {r x y : Nat} (h : iv_off (p :: tl) x y) : iv_set R p.1 p.2 r x y = R x y :=
  iv_set3 (h p List.mem_cons_self).1 (h p List.mem_cons_self).2
theorem iv_off_tl {p : Nat × Nat} {tl : List (Nat × Nat)} {x y : Nat} (h : iv_off (p :: tl) x y) : iv_off tl x y :=
  fun q hq => h q (List.mem_cons_of_mem _ hq)
theorem iv_mem (A : iv_N) : ∀ (ps : List (Nat × Nat)) (R N : iv_N), iv_ord ps → (N ∈ iv_nets A ps R ↔ ((∀ x y, iv_off ps x y → N x y = R x y) ∧ ∀ p, p ∈ ps → iv_at A N p))
  | [], R, N, _ => by
    rw [iv_nets, List.mem_singleton]
    constructor
    · intro e
      subst e
      exact ⟨fun _ _ _ => rfl, fun p hp => by cases hp⟩
    · intro h
      funext x y
      exact h.1 x y (fun p hp => by cases hp)
  | p :: tl, R, N, ho => by
    have hl := iv_ord_hd ho
    rw [iv_nets, List.mem_flatMap]
    constructor
    · rintro ⟨r, hr, hN⟩
      have hr := List.mem_range.mp hr
      by_cases hb : (iv_opn A R p.1 p.2).testBit r = true
      · rw [if_pos hb, iv_mem A tl _ N (iv_ord_tl ho)] at hN
        obtain ⟨h1, h2⟩ := hN
        have e1 : N p.1 p.2 = r := by rw [h1 _ _ (iv_off_a ho)]; exact iv_set1
        have e2 : N p.2 p.1 = 12 - r := by rw [h1 _ _ (iv_off_b ho)]; exact iv_set2 hl
        have e3 : ∀ x y, iv_off (p :: tl) x y → N x y = R x y := fun x y h => by rw [h1 x y (iv_off_tl h)]; exact iv_off_set h
        refine ⟨e3, fun q hq => ?_⟩
        rcases List.mem_cons.mp hq with e | hq
        · rw [e]
          have hb := iv_opn_bit.mp hb
          refine ⟨by omega, by omega, by rw [e1]; exact hb.1, fun m hm => ?_⟩
          rw [e1, e3 _ _ (iv_off_c ho hm), e3 _ _ (iv_off_d ho hm)]
          exact hb.2 m hm
        · exact h2 q hq
      · rw [if_neg hb] at hN
        cases hN
    · rintro ⟨h1, h2⟩
      have hp := h2 p List.mem_cons_self
      have hb : (iv_opn A R p.1 p.2).testBit (N p.1 p.2) = true := by
        refine iv_opn_bit.mpr ⟨hp.2.2.1, fun m hm => ?_⟩
        rw [← h1 _ _ (iv_off_c ho hm), ← h1 _ _ (iv_off_d ho hm)]
        exact hp.2.2.2 m hm
      refine ⟨N p.1 p.2, List.mem_range.mpr hp.1, ?_⟩
      rw [if_pos hb, iv_mem A tl _ N (iv_ord_tl ho)]
      refine ⟨fun x y h => ?_, fun q hq => h2 q (List.mem_cons_of_mem _ hq)⟩
      by_cases c1 : x = p.1 ∧ y = p.2
      · rw [c1.1, c1.2]
        exact iv_set1.symm
      · by_cases c2 : x = p.2 ∧ y = p.1
        · rw [c2.1, c2.2, iv_set2 hl]
          exact hp.2.1
        · rw [iv_set3 c1 c2]
          refine h1 x y (fun q hq => ?_)
          rcases List.mem_cons.mp hq with e | hq
          · rw [e]
            exact ⟨c1, c2⟩
          · exact h q hq
theorem iv_nets_hd {A R N : iv_N} {p : Nat × Nat} {tl : List (Nat × Nat)} {r : Nat} (ho : iv_ord (p :: tl)) (h : N ∈ iv_nets A tl (iv_set R p.1 p.2 r)) : N p.1 p.2 = r := by
  rw [iv_mem A tl _ N (iv_ord_tl ho)] at h
  rw [h.1 _ _ (iv_off_a ho)]
  exact iv_set1
theorem iv_nd (A : iv_N) : ∀ (ps : List (Nat × Nat)) (R : iv_N), iv_ord ps → (iv_nets A ps R).Nodup
  | [], R, _ => by
    rw [iv_nets]
    exact List.nodup_cons.mpr ⟨fun h => (by cases h), List.nodup_nil⟩
  | p :: tl, R, ho => by
    rw [iv_nets]
    refine List.pairwise_flatMap.mpr ⟨fun r _ => ?_, ?_⟩
    · by_cases hb : (iv_opn A R p.1 p.2).testBit r = true
      · rw [if_pos hb]
        exact iv_nd A tl _ (iv_ord_tl ho)
      · rw [if_neg hb]
        exact List.Pairwise.nil
    · refine List.Pairwise.imp ?_ (List.pairwise_lt_range (n := 13))
      intro a b hab x hx y hy
      by_cases ha : (iv_opn A R p.1 p.2).testBit a = true
      · by_cases hb : (iv_opn A R p.1 p.2).testBit b = true
        · rw [if_pos ha] at hx
          rw [if_pos hb] at hy
          have h1 := iv_nets_hd ho hx
          have h2 := iv_nets_hd ho hy
          intro e
          rw [e] at h1
          omega
        · rw [if_neg hb] at hy
          cases hy
      · rw [if_neg ha] at hx
        cases hx
theorem iv_nets_congr {A B : iv_N} : ∀ (ps : List (Nat × Nat)) (R : iv_N), (∀ p, p ∈ ps → A p.1 p.2 = B p.1 p.2) → iv_nets A ps R = iv_nets B ps R
  | [], R, _ => by rw [iv_nets, iv_nets]
  | p :: tl, R, h => by
    have e : iv_opn A R p.1 p.2 = iv_opn B R p.1 p.2 := by
      have : ∀ k, iv_om A R p.1 p.2 k = iv_om B R p.1 p.2 k := by
        intro k
        induction k with
        | zero => exact h p List.mem_cons_self
        | succ k ih => rw [iv_om, iv_om, ih]
      exact this p.1
    rw [iv_nets, iv_nets, e]
    congr 1
    funext r
    rw [iv_nets_congr tl _ (fun q hq => h q (List.mem_cons_of_mem _ hq))]
def iv_ps (n : Nat) : List (Nat × Nat) := if n = 2 then [(0, 1)] else if n = 3 then [(0, 1), (0, 2), (1, 2)] else [(0, 1), (0, 2), (0, 3), (1, 2), (1, 3), (2, 3)]
def iv_R0 : iv_N := fun _ _ => 6
def iv_n (n : Nat) : Prop := n = 2 ∨ n = 3 ∨ n = 4
theorem iv_ps_ord {n : Nat} (h : iv_n n) : iv_ord (iv_ps n) := by
  rcases h with h | h | h <;> subst h <;> refine ⟨by unfold iv_ps; decide, by unfold iv_ps; decide⟩
theorem iv_ps_mem {n : Nat} (h : iv_n n) (p : Nat × Nat) : p ∈ iv_ps n ↔ (p.1 < p.2 ∧ p.2 < n) := by
  obtain ⟨a, b⟩ := p
  rcases h with h | h | h <;> subst h <;> simp [iv_ps] <;> omega
