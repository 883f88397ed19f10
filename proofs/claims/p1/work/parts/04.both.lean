def iv_L1 : Nat → Nat := fun c => if c = 1 then 1 else 0
theorem iv_can1 : iv_Can 1 iv_L1 2 := by
  refine ⟨fun i hi => ?_, fun c hc => ?_, fun v hv => ⟨v, by omega, ?_⟩⟩
  · rw [show i = 0 by omega]
    decide
  · unfold iv_L1
    split <;> omega
  · unfold iv_L1
    split <;> omega
def iv_leaves (n : Nat) (A : iv_N) : List ((Nat → Nat) × Nat) := iv_lv A (n - 1) 1 iv_L1 2
theorem iv_leaf_can {n : Nat} (hn : 1 ≤ n) {A : iv_N} {x : (Nat → Nat) × Nat} (hx : x ∈ iv_leaves n A) :
    iv_Can n x.1 x.2 ∧ ∀ i j, i < j → j < n → (A i j).testBit (iv_rl x.1 i j) = true := by
  have h := iv_lv1 A (n - 1) 1 iv_L1 2 iv_can1 x hx
  rw [show 1 + (n - 1) = n by omega] at h
  exact ⟨h.1, fun i j h1 h2 => h.2.2 i j h1 h2 (by omega)⟩
theorem iv_same {n : Nat} (hn : iv_n n) {A : iv_N} (N : iv_N) : N ∈ iv_nets A (iv_ps n) iv_R0 ↔ ∃ x, x ∈ iv_leaves n A ∧ iv_nt n x.1 = N := by
  have h1 : 1 ≤ n := by unfold iv_n at hn; omega
  rw [iv_mem A _ _ _ (iv_ps_ord hn)]
  constructor
  · rintro ⟨ho, ha⟩
    have hd : ∀ i, i < n → N i i = 6 := fun i _ => ho i i (fun p hp => by
      have := (iv_ps_mem hn p).mp hp
      omega)
    have h2 : ∀ i j, i < j → j < n → iv_at A N (i, j) := fun i j h h' => ha (i, j) ((iv_ps_mem hn (i, j)).mpr ⟨h, h'⟩)
    have hG : iv_Good n N := by
      refine iv_good_of hd (fun i j h h' => ⟨(h2 i j h h').1, (h2 i j h h').2.1⟩) (fun m i j h h' hj => ?_)
      have a1 := h2 i j h' hj
      have a2 := h2 m j (by omega) hj
      have a3 := h2 m i h (by omega)
      have a4 := a1.2.2.2 m h
      have b1 : N i j < 13 := a1.1
      have b2 : N m j < 13 := a2.1
      have b3 : N i m < 13 := by
        have c1 : N i m = 12 - N m i := a3.2.1
        omega
      rw [← iv_T_ok _ b3 _ b2 _ b1]
      exact a4
    obtain ⟨x, hx, hR⟩ := iv_lv2 A (n - 1) 1 iv_L1 2 iv_can1 N (by rw [show 1 + (n - 1) = n by omega]; exact hG)
      (fun i j hi hj => by
        rw [show i = 0 by omega, show j = 0 by omega, hd 0 (by omega)]
        decide)
      (fun i j h h' _ => (h2 i j h (by omega)).2.2.1)
    refine ⟨x, hx, ?_⟩
    funext a b
    by_cases c : a < n ∧ b < n
    · rw [iv_nt_in c.1 c.2]
      exact hR a b (by omega) (by omega)
    · unfold iv_nt
      rw [if_neg c]
      refine (ho a b (fun p hp => ?_)).symm
      have := (iv_ps_mem hn p).mp hp
      omega
  · rintro ⟨x, hx, e⟩
    obtain ⟨hc, hb⟩ := iv_leaf_can h1 hx
    have hg := iv_rl_good hc.1
    subst e
    refine ⟨fun a b ho => ?_, fun p hp => ?_⟩
    · by_cases c : a < n ∧ b < n
      · rw [iv_nt_in c.1 c.2]
        have : a = b := by
          rcases Nat.lt_trichotomy a b with g | g | g
          · exact absurd ⟨rfl, rfl⟩ (ho (a, b) ((iv_ps_mem hn _).mpr ⟨g, c.2⟩)).1
          · exact g
          · exact absurd ⟨rfl, rfl⟩ (ho (b, a) ((iv_ps_mem hn _).mpr ⟨g, c.1⟩)).2
        subst this
        exact hg.1 a c.1
      · unfold iv_nt
        rw [if_neg c]
        rfl
    · have hp' := (iv_ps_mem hn p).mp hp
      have i1 : p.1 < n := by omega
      unfold iv_at
      rw [iv_nt_in i1 hp'.2, iv_nt_in hp'.2 i1]
      refine ⟨(hg.2.1 _ _ i1 hp'.2).1, (hg.2.1 _ _ i1 hp'.2).2, hb _ _ hp'.1 hp'.2, fun m hm => ?_⟩
      have hm' : m < n := by omega
      rw [iv_nt_in i1 hm', iv_nt_in hm' hp'.2, iv_T_ok _ (hg.2.1 _ _ i1 hm').1 _ (hg.2.1 _ _ hm' hp'.2).1 _ (hg.2.1 _ _ i1 hp'.2).1]
      exact hg.2.2 _ _ _ i1 hm' hp'.2
theorem iv_perm {n : Nat} (hn : iv_n n) (A : iv_N) : ((iv_leaves n A).map (fun x => iv_nt n x.1)).Perm (iv_nets A (iv_ps n) iv_R0) := by
  have h1 : 1 ≤ n := by unfold iv_n at hn; omega
  have nd := iv_lv3 A (n - 1) 1 iv_L1 2 iv_can1
  rw [show 1 + (n - 1) = n by omega] at nd
  refine (List.perm_ext_iff_of_nodup nd (iv_nd A _ _ (iv_ps_ord hn))).mpr (fun N => ?_)
  rw [iv_same hn, List.mem_map]
  rfl
theorem iv_len {n : Nat} (hn : iv_n n) (A : iv_N) : (iv_leaves n A).length = (iv_nets A (iv_ps n) iv_R0).length := by
  have := (iv_perm hn A).length_eq
  rw [List.length_map] at this
  exact this
/- the set of what a list's members show, as bits -/
def iv_or : List Nat → Nat
  | [] => 0
  | a :: l => (1 <<< a) ||| iv_or l
theorem iv_or_bit (t : Nat) : ∀ l, (iv_or l).testBit t = true ↔ t ∈ l
  | [] => by
    rw [iv_or, Nat.zero_testBit]
    exact ⟨fun h => (by cases h), fun h => (by cases h)⟩
  | a :: l => by
    rw [iv_or, Nat.testBit_or, Bool.or_eq_true, iv_or_bit t l, List.mem_cons, Nat.one_shiftLeft, Nat.testBit_two_pow, decide_eq_true_iff]
    exact ⟨fun h => h.elim (fun e => Or.inl e.symm) Or.inr, fun h => h.elim (fun e => Or.inl e.symm) Or.inr⟩
theorem iv_or_ext {l l' : List Nat} (h : ∀ t, t ∈ l ↔ t ∈ l') : iv_or l = iv_or l' := by
  apply Nat.eq_of_testBit_eq
  intro t
  rw [Bool.eq_iff_iff, iv_or_bit, iv_or_bit]
  exact h t
theorem iv_or_app (l : List Nat) (a : Nat) : iv_or (l ++ [a]) = iv_or l ||| 1 <<< a := by
  apply Nat.eq_of_testBit_eq
  intro t
  rw [Bool.eq_iff_iff, iv_or_bit, Nat.testBit_or, Bool.or_eq_true, iv_or_bit, List.mem_append, List.mem_singleton, Nat.one_shiftLeft, Nat.testBit_two_pow, decide_eq_true_iff]
  exact ⟨fun h => h.elim Or.inl (fun e => Or.inr e.symm), fun h => h.elim Or.inl (fun e => Or.inr e.symm)⟩
theorem iv_or_lt {l : List Nat} (h : ∀ a, a ∈ l → a < 13) : iv_or l < 8192 := by
  have : iv_or l < 2 ^ 13 := by
    apply Nat.lt_pow_two_of_testBit
    intro i hi
    have := iv_or_bit i l
    cases e : (iv_or l).testBit i
    · rfl
    · have := h i (this.mp e)
      omega
  exact this
/- the least of a list -/
def iv_min : List Nat → Nat
  | [] => 0
  | [a] => a
  | a :: b :: l => if a < iv_min (b :: l) then a else iv_min (b :: l)
theorem iv_min_spec : ∀ (l : List Nat), l ≠ [] → iv_min l ∈ l ∧ ∀ a, a ∈ l → iv_min l ≤ a
  | [], h => absurd rfl h
  | [a], _ => by
    rw [iv_min]
    exact ⟨List.mem_singleton.mpr rfl, fun b hb => by rw [List.mem_singleton.mp hb]; exact Nat.le_refl _⟩
  | a :: b :: l, _ => by
    have ih := iv_min_spec (b :: l) (by simp)
    rw [iv_min]
    by_cases c : a < iv_min (b :: l)
    · rw [if_pos c]
      refine ⟨List.mem_cons_self, fun x hx => ?_⟩
      rcases List.mem_cons.mp hx with e | hx
      · omega
      · have := ih.2 x hx
        omega
    · rw [if_neg c]
      refine ⟨List.mem_cons_of_mem _ ih.1, fun x hx => ?_⟩
      rcases List.mem_cons.mp hx with e | hx
      · omega
      · exact ih.2 x hx
theorem iv_min_u {l : List Nat} {m : Nat} (h1 : m ∈ l) (h2 : ∀ a, a ∈ l → m ≤ a) : iv_min l = m := by
  have h : l ≠ [] := by
    intro e
    rw [e] at h1
    cases h1
  have hs := iv_min_spec l h
  have a1 := hs.2 m h1
  have a2 := h2 _ hs.1
  omega
theorem iv_min_ext {l l' : List Nat} (h : ∀ t, t ∈ l ↔ t ∈ l') (hl : l ≠ []) : iv_min l = iv_min l' := by
  have hs := iv_min_spec l hl
  exact (iv_min_u ((h _).mp hs.1) (fun a ha => hs.2 a ((h a).mpr ha))).symm
theorem iv_min_app {l : List Nat} (hl : l ≠ []) (a : Nat) : iv_min (l ++ [a]) = if a < iv_min l then a else iv_min l := by
  have hs := iv_min_spec l hl
  by_cases c : a < iv_min l
  · rw [if_pos c]
    refine iv_min_u (List.mem_append.mpr (Or.inr (List.mem_singleton.mpr rfl))) (fun b hb => ?_)
    rcases List.mem_append.mp hb with hb | hb
    · have := hs.2 b hb
      omega
    · rw [List.mem_singleton.mp hb]
      exact Nat.le_refl _
  · rw [if_neg c]
    refine iv_min_u (List.mem_append.mpr (Or.inl hs.1)) (fun b hb => ?_)
    rcases List.mem_append.mp hb with hb | hb
    · exact hs.2 b hb
    · rw [List.mem_singleton.mp hb]
      omega
/- how many below N -/
def iv_ct (f : Nat → Bool) : Nat → Nat
  | 0 => 0
  | n + 1 => iv_ct f n + if f n = true then 1 else 0
theorem iv_ct_congr {f g : Nat → Bool} : ∀ N, (∀ q, q < N → f q = g q) → iv_ct f N = iv_ct g N
  | 0, _ => rfl
  | n + 1, h => by
    rw [iv_ct, iv_ct, iv_ct_congr n (fun q hq => h q (by omega)), h n (by omega)]
theorem iv_ct_le {f g : Nat → Bool} : ∀ N, (∀ q, q < N → f q = true → g q = true) → iv_ct f N ≤ iv_ct g N
  | 0, _ => Nat.le_refl _
  | n + 1, h => by
    rw [iv_ct, iv_ct]
    have ih := iv_ct_le n (fun q hq => h q (by omega))
    have hn := h n (by omega)
    by_cases c : f n = true
    · rw [if_pos c, if_pos (hn c)]
      omega
    · rw [if_neg c]
      omega
theorem iv_ct_ub (f : Nat → Bool) : ∀ N, iv_ct f N ≤ N
  | 0 => Nat.le_refl _
  | n + 1 => by
    rw [iv_ct]
    have ih := iv_ct_ub f n
    split <;> omega
theorem iv_ct_add {f g h : Nat → Bool} : ∀ N, (∀ q, q < N → (f q = true ↔ (g q = true ∨ h q = true)) ∧ ¬ (g q = true ∧ h q = true)) → iv_ct f N = iv_ct g N + iv_ct h N
  | 0, _ => rfl
  | n + 1, H => by
    rw [iv_ct, iv_ct, iv_ct, iv_ct_add n (fun q hq => H q (by omega))]
    have hn := H n (by omega)
    by_cases c : g n = true
    · have c' : ¬ h n = true := fun z => hn.2 ⟨c, z⟩
      rw [if_pos c, if_neg c', if_pos (hn.1.mpr (Or.inl c))]
      omega
    · by_cases c' : h n = true
      · rw [if_neg c, if_pos c', if_pos (hn.1.mpr (Or.inr c'))]
        omega
      · rw [if_neg c, if_neg c', if_neg (fun z => (hn.1.mp z).elim c c')]
        omega
theorem iv_ct_0 {f : Nat → Bool} : ∀ N, (∀ q, q < N → ¬ f q = true) → iv_ct f N = 0
  | 0, _ => rfl
  | n + 1, h => by
    rw [iv_ct, iv_ct_0 n (fun q hq => h q (by omega)), if_neg (h n (by omega))]
theorem iv_ct_1 {f : Nat → Bool} : ∀ N a, a < N → f a = true → (∀ q, q < N → f q = true → q = a) → iv_ct f N = 1
  | 0, a, ha, _, _ => by omega
  | n + 1, a, ha, hf, hu => by
    rw [iv_ct]
    by_cases c : a = n
    · rw [iv_ct_0 n (fun q hq hq' => by have := hu q (by omega) hq'; omega), if_pos (by rw [← c]; exact hf)]
    · rw [iv_ct_1 n a (by omega) hf (fun q hq hq' => hu q (by omega) hq'), if_neg (fun z => c (hu n (by omega) z).symm)]
/- the first of its number -/
def iv_fst (L : Nat → Nat) (p : Nat) : Bool := decide (∀ q, q < p → L q ≠ L p)
theorem iv_fst_iff {L : Nat → Nat} {p : Nat} : iv_fst L p = true ↔ ∀ q, q < p → L q ≠ L p := by
  unfold iv_fst
  exact decide_eq_true_iff
theorem iv_fst_ex (L : Nat → Nat) (v : Nat) : ∀ N, (∃ c, c < N ∧ L c = v) → ∃ c, c < N ∧ L c = v ∧ ∀ q, q < c → L q ≠ v
  | 0, h => by
    obtain ⟨c, hc, _⟩ := h
    omega
  | n + 1, h => by
    by_cases z : ∃ c, c < n ∧ L c = v
    · obtain ⟨c, h1, h2, h3⟩ := iv_fst_ex L v n z
      exact ⟨c, by omega, h2, h3⟩
    · obtain ⟨c, hc, e⟩ := h
      have : c = n := by
        by_cases g : c < n
        · exact absurd ⟨c, g, e⟩ z
        · omega
      subst this
      exact ⟨c, hc, e, fun q hq e' => z ⟨q, hq, e'⟩⟩
theorem iv_rank {k : Nat} {L : Nat → Nat} {m : Nat} (h : iv_Can k L m) : ∀ x, x ≤ m → iv_ct (fun q => decide (L q < x) && iv_fst L q) (2 * k) = x
  | 0, _ => iv_ct_0 _ (fun q _ => by
      rw [Bool.and_eq_true, decide_eq_true_iff]
      omega)
  | x + 1, hx => by
    have ih := iv_rank h x (by omega)
    obtain ⟨c, hc, hv, hf⟩ := iv_fst_ex L x _ (h.2.2 x (by omega))
    have one : iv_ct (fun q => decide (L q = x) && iv_fst L q) (2 * k) = 1 := by
      refine iv_ct_1 _ c hc ?_ ?_
      · rw [Bool.and_eq_true, decide_eq_true_iff, iv_fst_iff]
        exact ⟨hv, fun q hq => by rw [hv]; exact hf q hq⟩
      · intro q _ hq'
        rw [Bool.and_eq_true, decide_eq_true_iff, iv_fst_iff] at hq'
        rcases Nat.lt_trichotomy q c with g | g | g
        · exact absurd hq'.1 (hf q g)
        · exact g
        · exact absurd (by rw [hv, hq'.1]) (hq'.2 c g)
    rw [iv_ct_add (g := fun q => decide (L q < x) && iv_fst L q) (h := fun q => decide (L q = x) && iv_fst L q) (2 * k) ?_, ih, one]
    intro q _
    simp only [Bool.and_eq_true, decide_eq_true_iff]
    constructor
    · constructor
      · rintro ⟨h1, h2⟩
        by_cases e : L q = x
        · exact Or.inr ⟨e, h2⟩
        · exact Or.inl ⟨by omega, h2⟩
      · rintro (⟨h1, h2⟩ | ⟨h1, h2⟩)
        · exact ⟨by omega, h2⟩
        · exact ⟨by omega, h2⟩
    · rintro ⟨⟨h1, _⟩, ⟨h2, _⟩⟩
      omega
theorem iv_total {k : Nat} {L : Nat → Nat} {m : Nat} (h : iv_Can k L m) : iv_ct (iv_fst L) (2 * k) = m := by
  refine Eq.trans ?_ (iv_rank h m (Nat.le_refl _))
  apply iv_ct_congr
  intro q hq
  rw [decide_eq_true (h.2.1 q hq), Bool.true_and]
