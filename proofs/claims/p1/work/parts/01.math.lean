abbrev iv_N : Type := Nat → Nat → Nat
def iv_cmp (x y : Nat) : Nat := if x < y then 0 else if x = y then 1 else 2
theorem iv_cs (x y : Nat) : (x < y ∧ iv_cmp x y = 0) ∨ (x = y ∧ iv_cmp x y = 1) ∨ (y < x ∧ iv_cmp x y = 2) := by
  unfold iv_cmp
  by_cases h : x < y
  · exact Or.inl ⟨h, if_pos h⟩
  · by_cases h' : x = y
    · exact Or.inr (Or.inl ⟨h', by rw [if_neg h, if_pos h']⟩)
    · exact Or.inr (Or.inr ⟨by omega, by rw [if_neg h, if_neg h']⟩)
theorem iv_c0 {x y : Nat} (h : x < y) : iv_cmp x y = 0 := by have := iv_cs x y; omega
theorem iv_c1 {x y : Nat} (h : x = y) : iv_cmp x y = 1 := by have := iv_cs x y; omega
theorem iv_c2 {x y : Nat} (h : y < x) : iv_cmp x y = 2 := by have := iv_cs x y; omega
def iv_rel (b e c f : Nat) : Nat :=
  if e < c then 0 else if e = c then 1 else if f < b then 12 else if b = f then 11
  else if b < c then (if e < f then 2 else if e = f then 7 else 8)
  else if b = c then (if e < f then 3 else if e = f then 6 else 9)
  else (if e < f then 4 else if e = f then 5 else 10)
def iv_md (i : Nat) : Nat := (297357963844620732994632 >>> (3 * i)) % 8
def iv_sg (r x y : Nat) : Nat := iv_cmp (iv_md (2 * r + x)) (if y = 0 then 2 else 5)
theorem iv_sg_rel {b e c f : Nat} (h : b < e) (h' : c < f) : iv_sg (iv_rel b e c f) 0 0 = iv_cmp b c ∧ iv_sg (iv_rel b e c f) 0 1 = iv_cmp b f ∧ iv_sg (iv_rel b e c f) 1 0 = iv_cmp e c ∧ iv_sg (iv_rel b e c f) 1 1 = iv_cmp e f := by
  unfold iv_rel
  repeat' split
  all_goals
    refine ⟨?_, ?_, ?_, ?_⟩ <;> first
      | exact (iv_c0 (by omega)).symm
      | exact (iv_c1 (by omega)).symm
      | exact (iv_c2 (by omega)).symm
theorem iv_rel_lt (b e c f : Nat) : iv_rel b e c f < 13 := by
  unfold iv_rel
  repeat' split
  all_goals omega
theorem iv_rel_flip {b e c f : Nat} (h : b < e) (h' : c < f) : iv_rel c f b e = 12 - iv_rel b e c f := by
  unfold iv_rel
  repeat' split
  all_goals omega
theorem iv_rel_self {b e : Nat} (h : b < e) : iv_rel b e b e = 6 := by
  unfold iv_rel
  repeat' split
  all_goals omega
theorem iv_sg_inj : ∀ r, r < 13 → ∀ s, s < 13 → (∀ x, x < 2 → ∀ y, y < 2 → iv_sg r x y = iv_sg s x y) → r = s := by decide +kernel
theorem iv_sg_flip : ∀ r, r < 13 → ∀ x, x < 2 → ∀ y, y < 2 → iv_sg (12 - r) y x = 2 - iv_sg r x y := by decide +kernel
def iv_big : Nat := 11532500863595108661388537645610545565999198224314442701894555880523860162744410459226021931844887418815160608858319592843697687662021021360276084242642007018883276405889114085177290533134741121609665130619049270358408784775713534961648146554646073031952451716479155781349912614651353520058769592308218169059668756793856247183543877569728520811842172405323072743852736918201846976435705774359245949326552468443054851365429248925319115965374390638582252021137861798345743841250241029063026847369029120329055180985801802468671542335529534542507262816162038587225981581613032254467221080995861830949674618842566825166040007874987850210060833382311944241283105562625
def iv_tb (r s : Nat) : Nat := (iv_big >>> (13 * (13 * r + s))) % 8192
def iv_T (r s t : Nat) : Bool := (iv_tb r s).testBit t
def iv_tr (a b c : Nat) : Bool := decide ((a = 1 → c = b) ∧ (b = 1 → c = a) ∧ (a = b → c = a))
theorem iv_tr_iff {a b c : Nat} : iv_tr a b c = true ↔ ((a = 1 → c = b) ∧ (b = 1 → c = a) ∧ (a = b → c = a)) := by
  unfold iv_tr
  exact decide_eq_true_iff
theorem iv_tr_nat (a b c : Nat) : iv_tr (iv_cmp a b) (iv_cmp b c) (iv_cmp a c) = true := by
  rw [iv_tr_iff]
  have h1 := iv_cs a b
  have h2 := iv_cs b c
  have h3 := iv_cs a c
  omega
def iv_ok (r s t : Nat) : Bool := iv_tr (iv_sg r 0 0) (iv_sg s 0 0) (iv_sg t 0 0) && iv_tr (iv_sg r 0 0) (iv_sg s 0 1) (iv_sg t 0 1) && iv_tr (iv_sg r 0 1) (iv_sg s 1 0) (iv_sg t 0 0) && iv_tr (iv_sg r 0 1) (iv_sg s 1 1) (iv_sg t 0 1) && iv_tr (iv_sg r 1 0) (iv_sg s 0 0) (iv_sg t 1 0) && iv_tr (iv_sg r 1 0) (iv_sg s 0 1) (iv_sg t 1 1) && iv_tr (iv_sg r 1 1) (iv_sg s 1 0) (iv_sg t 1 0) && iv_tr (iv_sg r 1 1) (iv_sg s 1 1) (iv_sg t 1 1)
theorem iv_ok_iff {r s t : Nat} : iv_ok r s t = true ↔ (∀ p, p < 2 → ∀ q, q < 2 → ∀ w, w < 2 → iv_tr (iv_sg r p q) (iv_sg s q w) (iv_sg t p w) = true) := by
  unfold iv_ok
  simp only [Bool.and_eq_true]
  constructor
  · rintro ⟨⟨⟨⟨⟨⟨⟨h0, h1⟩, h2⟩, h3⟩, h4⟩, h5⟩, h6⟩, h7⟩ p hp q hq w hw
    rcases (show p = 0 ∨ p = 1 by omega) with e | e <;> rcases (show q = 0 ∨ q = 1 by omega) with e' | e' <;> rcases (show w = 0 ∨ w = 1 by omega) with e'' | e'' <;> subst e e' e'' <;> assumption
  · intro h
    refine ⟨⟨⟨⟨⟨⟨⟨?_, ?_⟩, ?_⟩, ?_⟩, ?_⟩, ?_⟩, ?_⟩, ?_⟩ <;> exact h _ (by decide) _ (by decide) _ (by decide)
theorem iv_T_ok : ∀ r, r < 13 → ∀ s, s < 13 → ∀ t, t < 13 → iv_T r s t = iv_ok r s t := by decide +kernel
theorem iv_sw12 : ∀ r, r < 13 → ∀ s, s < 13 → ∀ t, t < 13 → iv_ok r s t = iv_ok (12 - r) t s := by decide +kernel
theorem iv_sw23 : ∀ r, r < 13 → ∀ s, s < 13 → ∀ t, t < 13 → iv_ok r s t = iv_ok t (12 - s) r := by decide +kernel
theorem iv_ok6 : ∀ r, r < 13 → iv_ok 6 r r = true ∧ iv_ok r 6 r = true ∧ iv_ok r (12 - r) 6 = true := by decide +kernel
def iv_Good (n : Nat) (R : iv_N) : Prop :=
  (∀ i, i < n → R i i = 6) ∧ (∀ i j, i < n → j < n → R i j < 13 ∧ R j i = 12 - R i j) ∧
  (∀ i j l, i < n → j < n → l < n → iv_ok (R i j) (R j l) (R i l) = true)
theorem iv_good_of {n : Nat} {R : iv_N} (h1 : ∀ i, i < n → R i i = 6)
    (h2 : ∀ i j, i < j → j < n → R i j < 13 ∧ R j i = 12 - R i j)
    (h3 : ∀ m i j, m < i → i < j → j < n → iv_ok (R i m) (R m j) (R i j) = true) : iv_Good n R := by
  have h2' : ∀ i j, i < n → j < n → R i j < 13 ∧ R j i = 12 - R i j := by
    intro i j hi hj
    rcases Nat.lt_trichotomy i j with h | h | h
    · exact h2 i j h hj
    · subst h
      rw [h1 i hi]
      exact ⟨by omega, by omega⟩
    · have := h2 j i h hi
      omega
  have s12 : ∀ a b c, a < n → b < n → c < n → iv_ok (R a b) (R b c) (R a c) = true → iv_ok (R b a) (R a c) (R b c) = true := by
    intro a b c ha hb hc h
    rw [(h2' a b ha hb).2, ← iv_sw12 _ (h2' a b ha hb).1 _ (h2' b c hb hc).1 _ (h2' a c ha hc).1]
    exact h
  have s23 : ∀ a b c, a < n → b < n → c < n → iv_ok (R a b) (R b c) (R a c) = true → iv_ok (R a c) (R c b) (R a b) = true := by
    intro a b c ha hb hc h
    rw [(h2' b c hb hc).2, ← iv_sw23 _ (h2' a b ha hb).1 _ (h2' b c hb hc).1 _ (h2' a c ha hc).1]
    exact h
  have key : ∀ m i j, m < i → i < j → j < n → iv_ok (R m i) (R i j) (R m j) = true := fun m i j h h' hj =>
    s12 i m j (by omega) (by omega) hj (h3 m i j h h' hj)
  refine ⟨h1, h2', ?_⟩
  intro i j l hi hj hl
  by_cases e1 : i = j
  · subst e1
    rw [h1 i hi]
    exact (iv_ok6 _ (h2' i l hi hl).1).1
  · by_cases e2 : j = l
    · subst e2
      rw [h1 j hj]
      exact (iv_ok6 _ (h2' i j hi hj).1).2.1
    · by_cases e3 : i = l
      · subst e3
        rw [h1 i hi, (h2' i j hi hj).2]
        exact (iv_ok6 _ (h2' i j hi hj).1).2.2
      · by_cases a1 : i < j
        · by_cases a2 : j < l
          · exact key i j l a1 a2 hl
          · by_cases a3 : i < l
            · exact s23 i l j hi hl hj (key i l j a3 (by omega) hj)
            · exact s23 i l j hi hl hj (s12 l i j hl hi hj (key l i j (by omega) a1 hj))
        · by_cases a2 : i < l
          · exact s12 j i l hj hi hl (key j i l (by omega) a2 hl)
          · by_cases a3 : j < l
            · exact s12 j i l hj hi hl (s23 j l i hj hl hi (key j l i a3 (by omega) hi))
            · exact s12 j i l hj hi hl (s23 j l i hj hl hi (s12 l j i hl hj hi (key l j i (by omega) (by omega) hi)))
def iv_cm (R : iv_N) (p q : Nat) : Nat := iv_sg (R (p / 2) (q / 2)) (p % 2) (q % 2)
theorem iv_cm_tr {n : Nat} {R : iv_N} (h : iv_Good n R) {p q w : Nat} (hp : p < 2 * n) (hq : q < 2 * n) (hw : w < 2 * n) :
    iv_tr (iv_cm R p q) (iv_cm R q w) (iv_cm R p w) = true :=
  iv_ok_iff.mp (h.2.2 (p / 2) (q / 2) (w / 2) (by omega) (by omega) (by omega)) (p % 2) (by omega) (q % 2) (by omega) (w % 2) (by omega)
def iv_rl (L : Nat → Nat) : iv_N := fun i j => iv_rel (L (2 * i)) (L (2 * i + 1)) (L (2 * j)) (L (2 * j + 1))
theorem iv_rl_cm {n : Nat} {L : Nat → Nat} (h : ∀ i, i < n → L (2 * i) < L (2 * i + 1)) {p q : Nat} (hp : p < 2 * n) (hq : q < 2 * n) :
    iv_cm (iv_rl L) p q = iv_cmp (L p) (L q) := by
  have hs := iv_sg_rel (h (p / 2) (by omega)) (h (q / 2) (by omega))
  unfold iv_cm
  show iv_sg (iv_rel (L (2 * (p / 2))) (L (2 * (p / 2) + 1)) (L (2 * (q / 2))) (L (2 * (q / 2) + 1))) (p % 2) (q % 2) = _
  rcases Nat.mod_two_eq_zero_or_one p with e | e <;> rcases Nat.mod_two_eq_zero_or_one q with e' | e' <;> rw [e, e']
  · rw [hs.1, show 2 * (p / 2) = p by omega, show 2 * (q / 2) = q by omega]
  · rw [hs.2.1, show 2 * (p / 2) = p by omega, show 2 * (q / 2) + 1 = q by omega]
  · rw [hs.2.2.1, show 2 * (p / 2) + 1 = p by omega, show 2 * (q / 2) = q by omega]
  · rw [hs.2.2.2, show 2 * (p / 2) + 1 = p by omega, show 2 * (q / 2) + 1 = q by omega]
theorem iv_rl_good {n : Nat} {L : Nat → Nat} (h : ∀ i, i < n → L (2 * i) < L (2 * i + 1)) : iv_Good n (iv_rl L) := by
  refine ⟨fun i hi => iv_rel_self (h i hi), fun i j hi hj => ⟨iv_rel_lt _ _ _ _, iv_rel_flip (h i hi) (h j hj)⟩, ?_⟩
  intro i j l hi hj hl
  rw [iv_ok_iff]
  intro p hp q hq w hw
  have e : ∀ a b x y, a < n → b < n → x < 2 → y < 2 → iv_sg (iv_rl L a b) x y = iv_cmp (L (2 * a + x)) (L (2 * b + y)) := by
    intro a b x y ha hb hx hy
    have := iv_rl_cm h (p := 2 * a + x) (q := 2 * b + y) (by omega) (by omega)
    unfold iv_cm at this
    rw [show (2 * a + x) / 2 = a by omega, show (2 * b + y) / 2 = b by omega, show (2 * a + x) % 2 = x by omega, show (2 * b + y) % 2 = y by omega] at this
    exact this
  rw [e i j p q hi hj hp hq, e j l q w hj hl hq hw, e i l p w hi hl hp hw]
  exact iv_tr_nat _ _ _
/- two networks whose ends compare alike are alike -/
theorem iv_rl_of {n : Nat} {L : Nat → Nat} (h : ∀ i, i < n → L (2 * i) < L (2 * i + 1)) {R : iv_N} {i j : Nat} (hi : i < n) (hj : j < n) (hR : R i j < 13)
    (hc : ∀ x y, x < 2 → y < 2 → iv_cmp (L (2 * i + x)) (L (2 * j + y)) = iv_cm R (2 * i + x) (2 * j + y)) : iv_rl L i j = R i j := by
  refine iv_sg_inj _ (iv_rel_lt _ _ _ _) _ hR ?_
  intro x hx y hy
  have h1 := iv_rl_cm h (p := 2 * i + x) (q := 2 * j + y) (by omega) (by omega)
  have h2 := hc x y hx hy
  rw [← h1] at h2
  unfold iv_cm at h2
  rw [show (2 * i + x) / 2 = i by omega, show (2 * j + y) / 2 = j by omega, show (2 * i + x) % 2 = x by omega, show (2 * j + y) % 2 = y by omega] at h2
  exact h2
