section
theorem pk_us {f : Nat → Int32} {k : Nat} {x : Int32} : upd f k x k = x := if_pos rfl
theorem pk_un {f : Nat → Int32} {k j : Nat} {x : Int32} (h : j ≠ k) : upd f k x j = f j := if_neg h
theorem pk_sub {a b : Nat} (h : b ≤ a) : nI a - nI b = nI (a - b) := by
  obtain ⟨c, rfl⟩ : ∃ c, a = c + b := ⟨a - b, by omega⟩
  rw [← nI_add, Int32.add_sub_cancel, Nat.add_sub_cancel]
theorem pk_m1 (n : Nat) : nI (n + 1) + (-1) = nI n := by
  rw [← nI_1, Int32.add_assoc, show (1 : Int32) + (-1) = 0 from rfl, Int32.add_zero]
theorem pk_mul (a b : Nat) : nI a * nI b = nI (a * b) := (Int32.ofNat_mul a b).symm
theorem pk_div {a d : Nat} (ha : a < 2 ^ 31) (h0 : 0 < d) (hd : d < 2 ^ 31) : nI a / nI d = nI (a / d) := by
  apply Int32.toInt_inj.mp
  rw [lg_idiv_nonneg (by rw [nI_toInt ha]; omega) (by rw [nI_toInt hd]; omega), nI_toInt ha, nI_toInt hd, nI_toInt (Nat.lt_of_le_of_lt (Nat.div_le_self a d) ha)]
  first | rfl | exact (Int.natCast_ediv _ _).symm
theorem pk_rem {a d : Nat} (ha : a < 2 ^ 31) (h0 : 0 < d) (hd : d < 2 ^ 31) : nI a - nI a / nI d * nI d = nI (a % d) := by
  rw [pk_div ha h0 hd, pk_mul, pk_sub (Nat.div_mul_le_self a d)]
  exact congrArg nI (by have := Nat.div_add_mod' a d; omega)
theorem pk_sub_toInt {a b : Nat} (ha : a < 2 ^ 30) (hb : b < 2 ^ 30) : (nI a - nI b).toInt = (a : Int) - b := by
  rw [Int32.toInt_sub, nI_toInt (by omega), nI_toInt (by omega)]
  exact Int.bmod_eq_of_le (by omega) (by omega)
theorem pk_sneg {a b : Nat} (hb : b < 2 ^ 30) (h : a < b) : nI a - nI b < 0 := by
  rw [Int32.lt_iff_toInt_lt, pk_sub_toInt (by omega) hb, show (0 : Int32).toInt = 0 from by decide]
  omega
theorem pk_ix (x : Int32) {n : Nat} (hn : n < 2 ^ 31) : x < 0 ∨ nI n ≤ x ∨ ∃ j : Nat, j < n ∧ x = nI j := by
  by_cases h : x < 0
  · exact Or.inl h
  · obtain ⟨j, hj, rfl⟩ := nI_of h
    by_cases h2 : j < n
    · exact Or.inr (Or.inr ⟨j, h2, rfl⟩)
    · exact Or.inr (Or.inl (nI_le (by omega) hj))
theorem pk_le {x y : Int32} {A B : Prop} (a b : Nat) (f : a ≤ b → A) (g : b < a → B) (hx : x = nI a := by rfl) (hy : y = nI b := by rfl) (ha : a < 2 ^ 31 := by omega) (hb : b < 2 ^ 31 := by omega) : (x ≤ y → A) ∧ (¬ x ≤ y → B) := by
  subst hx hy
  rw [nI_leI ha hb]
  exact ⟨f, fun z => g (by omega)⟩
theorem pk_lt {x y : Int32} {A B : Prop} (a b : Nat) (f : a < b → A) (g : b ≤ a → B) (hx : x = nI a := by rfl) (hy : y = nI b := by rfl) (ha : a < 2 ^ 31 := by omega) (hb : b < 2 ^ 31 := by omega) : (x < y → A) ∧ (¬ x < y → B) := by
  subst hx hy
  rw [nI_ltI ha hb]
  exact ⟨f, fun z => g (by omega)⟩
theorem pk_eq {x y : Int32} {A B : Prop} (a b : Nat) (f : a = b → A) (g : a ≠ b → B) (hx : x = nI a := by rfl) (hy : y = nI b := by rfl) (ha : a < 2 ^ 31 := by omega) (hb : b < 2 ^ 31 := by omega) : (x = y → A) ∧ (¬ x = y → B) := by
  subst hx hy
  rw [nI_eq ha hb]
  exact ⟨f, g⟩
theorem pk_in {x : Int32} (n N : Nat) (h : n < N) (hx : x = nI n := by rfl) (hN : N < 2 ^ 31 := by omega) : vp_in x N := by
  subst hx
  exact vp_in_nI h hN
theorem pk_cl {x : Int32} (n : Nat) (hx : x = nI n := by rfl) (h : n < 2 ^ 31 := by omega) : x.toNatClampNeg = n := by
  subst hx
  exact nI_clamp h
theorem pk_tn {n : Nat} (h : n < 2 ^ 32) : (nI n).toBitVec.toNat = n := Nat.mod_eq_of_lt h
theorem pk_shl (a s : Int32) (k : Nat) (hs : (s.toBitVec.smod 32).toNat = k) : (a <<< s).toBitVec.toNat = a.toBitVec.toNat * 2 ^ k % 2 ^ 32 := by
  show (a.toBitVec <<< (s.toBitVec.smod 32).toNat).toNat = _
  rw [hs, BitVec.toNat_shiftLeft, Nat.shiftLeft_eq]
theorem pk_shlN {n : Nat} (s : Int32) (k : Nat) (hs : (s.toBitVec.smod 32).toNat = k) (h : n * 2 ^ k < 2 ^ 32) : nI n <<< s = nI (n * 2 ^ k) := by
  apply Int32.toBitVec_inj.mp
  apply BitVec.eq_of_toNat_eq
  have hn : n < 2 ^ 32 := Nat.lt_of_le_of_lt (Nat.le_mul_of_pos_right n (Nat.two_pow_pos k)) h
  rw [pk_shl _ _ k hs, pk_tn hn, pk_tn h, Nat.mod_eq_of_lt h]
theorem pk_shr (a s : Int32) (k : Nat) (hs : (s.toBitVec.smod 32).toNat = k) : (a >>> s).toInt = a.toInt >>> k := by
  show (a.toBitVec.sshiftRight (s.toBitVec.smod 32).toNat).toInt = _
  rw [hs, BitVec.toInt_sshiftRight]
  rfl
theorem pk_shrN {n : Nat} (h : n < 2 ^ 31) (s : Int32) (k : Nat) (hs : (s.toBitVec.smod 32).toNat = k) : nI n >>> s = nI (n / 2 ^ k) := by
  apply Int32.toInt_inj.mp
  have h2 : n / 2 ^ k ≤ n := Nat.div_le_self _ _
  rw [pk_shr _ _ k hs, nI_toInt h, nI_toInt (by omega), Int.shiftRight_eq_div_pow]
  rfl
theorem nx_and (a b : Nat) : nI a &&& nI b = nI (a &&& b) := by
  apply Int32.toBitVec_inj.1
  show BitVec.ofNat 32 a &&& BitVec.ofNat 32 b = BitVec.ofNat 32 (a &&& b)
  apply BitVec.eq_of_getLsbD_eq
  intro i hi
  simp [hi]
theorem nx_xor (a b : Nat) : nI a ^^^ nI b = nI (a ^^^ b) := by
  apply Int32.toBitVec_inj.1
  show BitVec.ofNat 32 a ^^^ BitVec.ofNat 32 b = BitVec.ofNat 32 (a ^^^ b)
  apply BitVec.eq_of_getLsbD_eq
  intro i hi
  simp [hi]
theorem s_l : ∀ n, n < 32 → ((nI n &&& 31).toBitVec.smod 32).toNat = n := by decide +kernel
theorem iv_or32 (a b : Nat) : nI a ||| nI b = nI (a ||| b) := by
  apply Int32.toBitVec_inj.1
  show BitVec.ofNat 32 a ||| BitVec.ofNat 32 b = BitVec.ofNat 32 (a ||| b)
  apply BitVec.eq_of_getLsbD_eq
  intro i hi
  simp [hi]
theorem iv_shr {n k : Nat} (h : n < 2 ^ 31) (hk : k < 32) : nI n >>> (nI k &&& 31) = nI (n / 2 ^ k) := pk_shrN h _ k (s_l k hk)
theorem iv_shl {n k : Nat} (hk : k < 32) (h : n * 2 ^ k < 2 ^ 32) : nI n <<< (nI k &&& 31) = nI (n * 2 ^ k) := pk_shlN _ k (s_l k hk) h
theorem iv_1shl : ∀ k, k < 13 → (1 : Int32) <<< (nI k &&& 31) = nI (2 ^ k) := by decide +kernel
theorem iv_and1 (n : Nat) : nI n &&& 1 = nI (n % 2) := by
  have h : nI n &&& nI 1 = nI (n &&& 1) := nx_and n 1
  rw [Nat.and_one_is_mod] at h
  exact h
def iv_b (U r : Nat) : Nat := U / 2 ^ r % 2
theorem iv_b_t (U r : Nat) : iv_b U r = if U.testBit r = true then 1 else 0 := by
  unfold iv_b
  rw [Nat.testBit_eq_decide_div_mod_eq]
  by_cases h : U / 2 ^ r % 2 = 1
  · rw [if_pos (decide_eq_true h), h]
  · rw [if_neg (by rw [decide_eq_true_iff]; exact h)]
    omega
theorem iv_bit {U r : Nat} (hU : U < 8192) (hr : r < 32) : (nI U >>> (nI r &&& 31)) &&& 1 = nI (iv_b U r) := by
  rw [iv_shr (by omega) hr, iv_and1]
  rfl
theorem iv_b2 (U r : Nat) : iv_b U r < 2 := Nat.mod_lt _ (by decide)
end
section
abbrev iv_N : Type := Nat → Nat → Nat
def iv_cmp (x y : Nat) : Nat := if x < y then 0 else if x = y then 1 else 2
theorem iv_cs (x y : Nat) : (x < y ∧ iv_cmp x y = 0) ∨ (x = y ∧ iv_cmp x y = 1) ∨ (y < x ∧ iv_cmp x y = 2) := by
  unfold iv_cmp
  by_cases h : x < y
  · exact Or.inl ⟨h, if_pos h⟩
  · by_cases h' : x = y
    · exact Or.inr (Or.inl ⟨h', by rw [if_neg h, if_pos h']⟩)
    · exact Or.inr (Or.inr ⟨by omega, by rw [if_neg h, if_neg h']⟩)
theorem iv_c0 {x y : Nat} (h : x < y) : iv_cmp x y = 0 := by have := iv_cs x y; omega
theorem iv_c1 {x y : Nat} (h : x = y) : iv_cmp x y = 1 := by have := iv_cs x y; omega
theorem iv_c2 {x y : Nat} (h : y < x) : iv_cmp x y = 2 := by have := iv_cs x y; omega
def iv_rel (b e c f : Nat) : Nat :=
  if e < c then 0 else if e = c then 1 else if f < b then 12 else if b = f then 11
  else if b < c then (if e < f then 2 else if e = f then 7 else 8)
  else if b = c then (if e < f then 3 else if e = f then 6 else 9)
  else (if e < f then 4 else if e = f then 5 else 10)
def iv_md (i : Nat) : Nat := (297357963844620732994632 >>> (3 * i)) % 8
def iv_sg (r x y : Nat) : Nat := iv_cmp (iv_md (2 * r + x)) (if y = 0 then 2 else 5)
theorem iv_sg_rel {b e c f : Nat} (h : b < e) (h' : c < f) : iv_sg (iv_rel b e c f) 0 0 = iv_cmp b c ∧ iv_sg (iv_rel b e c f) 0 1 = iv_cmp b f ∧ iv_sg (iv_rel b e c f) 1 0 = iv_cmp e c ∧ iv_sg (iv_rel b e c f) 1 1 = iv_cmp e f := by
  unfold iv_rel
  repeat' split
  all_goals
    refine ⟨?_, ?_, ?_, ?_⟩ <;> first
      | exact (iv_c0 (by omega)).symm
      | exact (iv_c1 (by omega)).symm
      | exact (iv_c2 (by omega)).symm
theorem iv_rel_lt (b e c f : Nat) : iv_rel b e c f < 13 := by
  unfold iv_rel
  repeat' split
  all_goals omega
theorem iv_rel_flip {b e c f : Nat} (h : b < e) (h' : c < f) : iv_rel c f b e = 12 - iv_rel b e c f := by
  unfold iv_rel
  repeat' split
  all_goals omega
theorem iv_rel_self {b e : Nat} (h : b < e) : iv_rel b e b e = 6 := by
  unfold iv_rel
  repeat' split
  all_goals omega
theorem iv_sg_inj : ∀ r, r < 13 → ∀ s, s < 13 → (∀ x, x < 2 → ∀ y, y < 2 → iv_sg r x y = iv_sg s x y) → r = s := by decide +kernel
theorem iv_sg_flip : ∀ r, r < 13 → ∀ x, x < 2 → ∀ y, y < 2 → iv_sg (12 - r) y x = 2 - iv_sg r x y := by decide +kernel
def iv_big : Nat := 11532500863595108661388537645610545565999198224314442701894555880523860162744410459226021931844887418815160608858319592843697687662021021360276084242642007018883276405889114085177290533134741121609665130619049270358408784775713534961648146554646073031952451716479155781349912614651353520058769592308218169059668756793856247183543877569728520811842172405323072743852736918201846976435705774359245949326552468443054851365429248925319115965374390638582252021137861798345743841250241029063026847369029120329055180985801802468671542335529534542507262816162038587225981581613032254467221080995861830949674618842566825166040007874987850210060833382311944241283105562625
def iv_tb (r s : Nat) : Nat := (iv_big >>> (13 * (13 * r + s))) % 8192
def iv_T (r s t : Nat) : Bool := (iv_tb r s).testBit t
def iv_tr (a b c : Nat) : Bool := decide ((a = 1 → c = b) ∧ (b = 1 → c = a) ∧ (a = b → c = a))
theorem iv_tr_iff {a b c : Nat} : iv_tr a b c = true ↔ ((a = 1 → c = b) ∧ (b = 1 → c = a) ∧ (a = b → c = a)) := by
  unfold iv_tr
  exact decide_eq_true_iff
theorem iv_tr_nat (a b c : Nat) : iv_tr (iv_cmp a b) (iv_cmp b c) (iv_cmp a c) = true := by
  rw [iv_tr_iff]
  have h1 := iv_cs a b
  have h2 := iv_cs b c
  have h3 := iv_cs a c
  omega
def iv_ok (r s t : Nat) : Bool := iv_tr (iv_sg r 0 0) (iv_sg s 0 0) (iv_sg t 0 0) && iv_tr (iv_sg r 0 0) (iv_sg s 0 1) (iv_sg t 0 1) && iv_tr (iv_sg r 0 1) (iv_sg s 1 0) (iv_sg t 0 0) && iv_tr (iv_sg r 0 1) (iv_sg s 1 1) (iv_sg t 0 1) && iv_tr (iv_sg r 1 0) (iv_sg s 0 0) (iv_sg t 1 0) && iv_tr (iv_sg r 1 0) (iv_sg s 0 1) (iv_sg t 1 1) && iv_tr (iv_sg r 1 1) (iv_sg s 1 0) (iv_sg t 1 0) && iv_tr (iv_sg r 1 1) (iv_sg s 1 1) (iv_sg t 1 1)
theorem iv_ok_iff {r s t : Nat} : iv_ok r s t = true ↔ (∀ p, p < 2 → ∀ q, q < 2 → ∀ w, w < 2 → iv_tr (iv_sg r p q) (iv_sg s q w) (iv_sg t p w) = true) := by
  unfold iv_ok
  simp only [Bool.and_eq_true]
  constructor
  · rintro ⟨⟨⟨⟨⟨⟨⟨h0, h1⟩, h2⟩, h3⟩, h4⟩, h5⟩, h6⟩, h7⟩ p hp q hq w hw
    rcases (show p = 0 ∨ p = 1 by omega) with e | e <;> rcases (show q = 0 ∨ q = 1 by omega) with e' | e' <;> rcases (show w = 0 ∨ w = 1 by omega) with e'' | e'' <;> subst e e' e'' <;> assumption
  · intro h
    refine ⟨⟨⟨⟨⟨⟨⟨?_, ?_⟩, ?_⟩, ?_⟩, ?_⟩, ?_⟩, ?_⟩, ?_⟩ <;> exact h _ (by decide) _ (by decide) _ (by decide)
theorem iv_T_ok : ∀ r, r < 13 → ∀ s, s < 13 → ∀ t, t < 13 → iv_T r s t = iv_ok r s t := by decide +kernel
theorem iv_sw12 : ∀ r, r < 13 → ∀ s, s < 13 → ∀ t, t < 13 → iv_ok r s t = iv_ok (12 - r) t s := by decide +kernel
theorem iv_sw23 : ∀ r, r < 13 → ∀ s, s < 13 → ∀ t, t < 13 → iv_ok r s t = iv_ok t (12 - s) r := by decide +kernel
theorem iv_ok6 : ∀ r, r < 13 → iv_ok 6 r r = true ∧ iv_ok r 6 r = true ∧ iv_ok r (12 - r) 6 = true := by decide +kernel
def iv_Good (n : Nat) (R : iv_N) : Prop :=
  (∀ i, i < n → R i i = 6) ∧ (∀ i j, i < n → j < n → R i j < 13 ∧ R j i = 12 - R i j) ∧
  (∀ i j l, i < n → j < n → l < n → iv_ok (R i j) (R j l) (R i l) = true)
theorem iv_good_of {n : Nat} {R : iv_N} (h1 : ∀ i, i < n → R i i = 6)
    (h2 : ∀ i j, i < j → j < n → R i j < 13 ∧ R j i = 12 - R i j)
    (h3 : ∀ m i j, m < i → i < j → j < n → iv_ok (R i m) (R m j) (R i j) = true) : iv_Good n R := by
  have h2' : ∀ i j, i < n → j < n → R i j < 13 ∧ R j i = 12 - R i j := by
    intro i j hi hj
    rcases Nat.lt_trichotomy i j with h | h | h
    · exact h2 i j h hj
    · subst h
      rw [h1 i hi]
      exact ⟨by omega, by omega⟩
    · have := h2 j i h hi
      omega
  have s12 : ∀ a b c, a < n → b < n → c < n → iv_ok (R a b) (R b c) (R a c) = true → iv_ok (R b a) (R a c) (R b c) = true := by
    intro a b c ha hb hc h
    rw [(h2' a b ha hb).2, ← iv_sw12 _ (h2' a b ha hb).1 _ (h2' b c hb hc).1 _ (h2' a c ha hc).1]
    exact h
  have s23 : ∀ a b c, a < n → b < n → c < n → iv_ok (R a b) (R b c) (R a c) = true → iv_ok (R a c) (R c b) (R a b) = true := by
    intro a b c ha hb hc h
    rw [(h2' b c hb hc).2, ← iv_sw23 _ (h2' a b ha hb).1 _ (h2' b c hb hc).1 _ (h2' a c ha hc).1]
    exact h
  have key : ∀ m i j, m < i → i < j → j < n → iv_ok (R m i) (R i j) (R m j) = true := fun m i j h h' hj =>
    s12 i m j (by omega) (by omega) hj (h3 m i j h h' hj)
  refine ⟨h1, h2', ?_⟩
  intro i j l hi hj hl
  by_cases e1 : i = j
  · subst e1
    rw [h1 i hi]
    exact (iv_ok6 _ (h2' i l hi hl).1).1
  · by_cases e2 : j = l
    · subst e2
      rw [h1 j hj]
      exact (iv_ok6 _ (h2' i j hi hj).1).2.1
    · by_cases e3 : i = l
      · subst e3
        rw [h1 i hi, (h2' i j hi hj).2]
        exact (iv_ok6 _ (h2' i j hi hj).1).2.2
      · by_cases a1 : i < j
        · by_cases a2 : j < l
          · exact key i j l a1 a2 hl
          · by_cases a3 : i < l
            · exact s23 i l j hi hl hj (key i l j a3 (by omega) hj)
            · exact s23 i l j hi hl hj (s12 l i j hl hi hj (key l i j (by omega) a1 hj))
        · by_cases a2 : i < l
          · exact s12 j i l hj hi hl (key j i l (by omega) a2 hl)
          · by_cases a3 : j < l
            · exact s12 j i l hj hi hl (s23 j l i hj hl hi (key j l i a3 (by omega) hi))
            · exact s12 j i l hj hi hl (s23 j l i hj hl hi (s12 l j i hl hj hi (key l j i (by omega) (by omega) hi)))
def iv_cm (R : iv_N) (p q : Nat) : Nat := iv_sg (R (p / 2) (q / 2)) (p % 2) (q % 2)
theorem iv_cm_tr {n : Nat} {R : iv_N} (h : iv_Good n R) {p q w : Nat} (hp : p < 2 * n) (hq : q < 2 * n) (hw : w < 2 * n) :
    iv_tr (iv_cm R p q) (iv_cm R q w) (iv_cm R p w) = true :=
  iv_ok_iff.mp (h.2.2 (p / 2) (q / 2) (w / 2) (by omega) (by omega) (by omega)) (p % 2) (by omega) (q % 2) (by omega) (w % 2) (by omega)
def iv_rl (L : Nat → Nat) : iv_N := fun i j => iv_rel (L (2 * i)) (L (2 * i + 1)) (L (2 * j)) (L (2 * j + 1))
theorem iv_rl_cm {n : Nat} {L : Nat → Nat} (h : ∀ i, i < n → L (2 * i) < L (2 * i + 1)) {p q : Nat} (hp : p < 2 * n) (hq : q < 2 * n) :
    iv_cm (iv_rl L) p q = iv_cmp (L p) (L q) := by
  have hs := iv_sg_rel (h (p / 2) (by omega)) (h (q / 2) (by omega))
  unfold iv_cm
  show iv_sg (iv_rel (L (2 * (p / 2))) (L (2 * (p / 2) + 1)) (L (2 * (q / 2))) (L (2 * (q / 2) + 1))) (p % 2) (q % 2) = _
  rcases Nat.mod_two_eq_zero_or_one p with e | e <;> rcases Nat.mod_two_eq_zero_or_one q with e' | e' <;> rw [e, e']
  · rw [hs.1, show 2 * (p / 2) = p by omega, show 2 * (q / 2) = q by omega]
  · rw [hs.2.1, show 2 * (p / 2) = p by omega, show 2 * (q / 2) + 1 = q by omega]
  · rw [hs.2.2.1, show 2 * (p / 2) + 1 = p by omega, show 2 * (q / 2) = q by omega]
  · rw [hs.2.2.2, show 2 * (p / 2) + 1 = p by omega, show 2 * (q / 2) + 1 = q by omega]
theorem iv_rl_good {n : Nat} {L : Nat → Nat} (h : ∀ i, i < n → L (2 * i) < L (2 * i + 1)) : iv_Good n (iv_rl L) := by
  refine ⟨fun i hi => iv_rel_self (h i hi), fun i j hi hj => ⟨iv_rel_lt _ _ _ _, iv_rel_flip (h i hi) (h j hj)⟩, ?_⟩
  intro i j l hi hj hl
  rw [iv_ok_iff]
  intro p hp q hq w hw
  have e : ∀ a b x y, a < n → b < n → x < 2 → y < 2 → iv_sg (iv_rl L a b) x y = iv_cmp (L (2 * a + x)) (L (2 * b + y)) := by
    intro a b x y ha hb hx hy
    have := iv_rl_cm h (p := 2 * a + x) (q := 2 * b + y) (by omega) (by omega)
    unfold iv_cm at this
    rw [show (2 * a + x) / 2 = a by omega, show (2 * b + y) / 2 = b by omega, show (2 * a + x) % 2 = x by omega, show (2 * b + y) % 2 = y by omega] at this
    exact this
  rw [e i j p q hi hj hp hq, e j l q w hj hl hq hw, e i l p w hi hl hp hw]
  exact iv_tr_nat _ _ _
/- two networks whose ends compare alike are alike -/
theorem iv_rl_of {n : Nat} {L : Nat → Nat} (h : ∀ i, i < n → L (2 * i) < L (2 * i + 1)) {R : iv_N} {i j : Nat} (hi : i < n) (hj : j < n) (hR : R i j < 13)
    (hc : ∀ x y, x < 2 → y < 2 → iv_cmp (L (2 * i + x)) (L (2 * j + y)) = iv_cm R (2 * i + x) (2 * j + y)) : iv_rl L i j = R i j := by
  refine iv_sg_inj _ (iv_rel_lt _ _ _ _) _ hR ?_
  intro x hx y hy
  have h1 := iv_rl_cm h (p := 2 * i + x) (q := 2 * j + y) (by omega) (by omega)
  have h2 := hc x y hx hy
  rw [← h1] at h2
  unfold iv_cm at h2
  rw [show (2 * i + x) / 2 = i by omega, show (2 * j + y) / 2 = j by omega, show (2 * i + x) % 2 = x by omega, show (2 * j + y) % 2 = y by omega] at h2
  exact h2
end
section
def iv_set (R : iv_N) (i j r : Nat) : iv_N := fun x y => if x = i ∧ y = j then r else if x = j ∧ y = i then 12 - r else R x y
theorem iv_set1 {R : iv_N} {i j r : Nat} : iv_set R i j r i j = r := if_pos ⟨rfl, rfl⟩
theorem iv_set2 {R : iv_N} {i j r : Nat} (h : i < j) : iv_set R i j r j i = 12 - r := by
  unfold iv_set
  rw [if_neg (by omega), if_pos ⟨rfl, rfl⟩]
theorem iv_set3 {R : iv_N} {i j r x y : Nat} (h1 : ¬ (x = i ∧ y = j)) (h2 : ¬ (x = j ∧ y = i)) : iv_set R i j r x y = R x y := by
  unfold iv_set
  rw [if_neg h1, if_neg h2]
def iv_om (A R : iv_N) (i j : Nat) : Nat → Nat
  | 0 => A i j
  | m + 1 => iv_om A R i j m &&& iv_tb (R i m) (R m j)
def iv_opn (A R : iv_N) (i j : Nat) : Nat := iv_om A R i j i
theorem iv_om_bit (A R : iv_N) (i j r : Nat) : ∀ k, (iv_om A R i j k).testBit r = true ↔ ((A i j).testBit r = true ∧ ∀ m, m < k → iv_T (R i m) (R m j) r = true)
  | 0 => ⟨fun h => ⟨h, fun m hm => absurd hm (Nat.not_lt_zero m)⟩, fun h => h.1⟩
  | k + 1 => by
    rw [iv_om, Nat.testBit_and, Bool.and_eq_true, iv_om_bit A R i j r k]
    constructor
    · rintro ⟨⟨h1, h2⟩, h3⟩
      refine ⟨h1, fun m hm => ?_⟩
      by_cases e : m = k
      · subst e
        exact h3
      · exact h2 m (by omega)
    · rintro ⟨h1, h2⟩
      exact ⟨⟨h1, fun m hm => h2 m (by omega)⟩, h2 k (by omega)⟩
theorem iv_opn_bit {A R : iv_N} {i j r : Nat} : (iv_opn A R i j).testBit r = true ↔ ((A i j).testBit r = true ∧ ∀ m, m < i → iv_T (R i m) (R m j) r = true) := iv_om_bit A R i j r i
theorem iv_om_lt {A R : iv_N} {i j : Nat} (h : A i j < 8192) : ∀ k, iv_om A R i j k < 8192
  | 0 => h
  | k + 1 => by
    rw [iv_om]
    exact Nat.lt_of_le_of_lt Nat.and_le_left (iv_om_lt h k)
def iv_nets (A : iv_N) : List (Nat × Nat) → iv_N → List iv_N
  | [], R => [R]
  | p :: tl, R => (List.range 13).flatMap (fun r => if (iv_opn A R p.1 p.2).testBit r = true then iv_nets A tl (iv_set R p.1 p.2 r) else [])
def iv_off (ps : List (Nat × Nat)) (x y : Nat) : Prop := ∀ p, p ∈ ps → ¬ (x = p.1 ∧ y = p.2) ∧ ¬ (x = p.2 ∧ y = p.1)
def iv_at (A N : iv_N) (p : Nat × Nat) : Prop :=
  N p.1 p.2 < 13 ∧ N p.2 p.1 = 12 - N p.1 p.2 ∧ (A p.1 p.2).testBit (N p.1 p.2) = true ∧ ∀ m, m < p.1 → iv_T (N p.1 m) (N m p.2) (N p.1 p.2) = true
def iv_ord (ps : List (Nat × Nat)) : Prop := ps.Pairwise (fun p q => p.1 ≤ q.1 ∧ ¬ (q.1 = p.1 ∧ q.2 = p.2)) ∧ ∀ p, p ∈ ps → p.1 < p.2
theorem iv_ord_tl {p : Nat × Nat} {tl : List (Nat × Nat)} (h : iv_ord (p :: tl)) : iv_ord tl :=
  ⟨(List.pairwise_cons.mp h.1).2, fun q hq => h.2 q (List.mem_cons_of_mem _ hq)⟩
theorem iv_ord_hd {p : Nat × Nat} {tl : List (Nat × Nat)} (h : iv_ord (p :: tl)) : p.1 < p.2 := h.2 p List.mem_cons_self
theorem iv_ord_q {p : Nat × Nat} {tl : List (Nat × Nat)} (h : iv_ord (p :: tl)) {q : Nat × Nat} (hq : q ∈ tl) : p.1 ≤ q.1 ∧ ¬ (q.1 = p.1 ∧ q.2 = p.2) ∧ q.1 < q.2 := by
  have h1 := (List.pairwise_cons.mp h.1).1 q hq
  exact ⟨h1.1, h1.2, h.2 q (List.mem_cons_of_mem _ hq)⟩
theorem iv_off_a {p : Nat × Nat} {tl : List (Nat × Nat)} (h : iv_ord (p :: tl)) : iv_off tl p.1 p.2 := by
  intro q hq
  have h1 := iv_ord_q h hq
  have h2 := iv_ord_hd h
  omega
theorem iv_off_b {p : Nat × Nat} {tl : List (Nat × Nat)} (h : iv_ord (p :: tl)) : iv_off tl p.2 p.1 := by
  intro q hq
  have h1 := iv_ord_q h hq
  have h2 := iv_ord_hd h
  omega
theorem iv_off_c {p : Nat × Nat} {tl : List (Nat × Nat)} (h : iv_ord (p :: tl)) {m : Nat} (hm : m < p.1) : iv_off (p :: tl) p.1 m := by
  intro q hq
  have h2 := iv_ord_hd h
  rcases List.mem_cons.mp hq with e | hq
  · rw [e]
    omega
  · have h1 := iv_ord_q h hq
    omega
theorem iv_off_d {p : Nat × Nat} {tl : List (Nat × Nat)} (h : iv_ord (p :: tl)) {m : Nat} (hm : m < p.1) : iv_off (p :: tl) m p.2 := by
  intro q hq
  have h2 := iv_ord_hd h
  rcases List.mem_cons.mp hq with e | hq
  · rw [e]
    omega
  · have h1 := iv_ord_q h hq
    omega
theorem iv_off_set {R : iv_N} {p : Nat × Nat} {tl : List (Nat × Nat)} {r x y : Nat} (h : iv_off (p :: tl) x y) : iv_set R p.1 p.2 r x y = R x y :=
  iv_set3 (h p List.mem_cons_self).1 (h p List.mem_cons_self).2
theorem iv_off_tl {p : Nat × Nat} {tl : List (Nat × Nat)} {x y : Nat} (h : iv_off (p :: tl) x y) : iv_off tl x y :=
  fun q hq => h q (List.mem_cons_of_mem _ hq)
theorem iv_mem (A : iv_N) : ∀ (ps : List (Nat × Nat)) (R N : iv_N), iv_ord ps → (N ∈ iv_nets A ps R ↔ ((∀ x y, iv_off ps x y → N x y = R x y) ∧ ∀ p, p ∈ ps → iv_at A N p))
  | [], R, N, _ => by
    rw [iv_nets, List.mem_singleton]
    constructor
    · intro e
      subst e
      exact ⟨fun _ _ _ => rfl, fun p hp => by cases hp⟩
    · intro h
      funext x y
      exact h.1 x y (fun p hp => by cases hp)
  | p :: tl, R, N, ho => by
    have hl := iv_ord_hd ho
    rw [iv_nets, List.mem_flatMap]
    constructor
    · rintro ⟨r, hr, hN⟩
      have hr := List.mem_range.mp hr
      by_cases hb : (iv_opn A R p.1 p.2).testBit r = true
      · rw [if_pos hb, iv_mem A tl _ N (iv_ord_tl ho)] at hN
        obtain ⟨h1, h2⟩ := hN
        have e1 : N p.1 p.2 = r := by rw [h1 _ _ (iv_off_a ho)]; exact iv_set1
        have e2 : N p.2 p.1 = 12 - r := by rw [h1 _ _ (iv_off_b ho)]; exact iv_set2 hl
        have e3 : ∀ x y, iv_off (p :: tl) x y → N x y = R x y := fun x y h => by rw [h1 x y (iv_off_tl h)]; exact iv_off_set h
        refine ⟨e3, fun q hq => ?_⟩
        rcases List.mem_cons.mp hq with e | hq
        · rw [e]
          have hb := iv_opn_bit.mp hb
          refine ⟨by omega, by omega, by rw [e1]; exact hb.1, fun m hm => ?_⟩
          rw [e1, e3 _ _ (iv_off_c ho hm), e3 _ _ (iv_off_d ho hm)]
          exact hb.2 m hm
        · exact h2 q hq
      · rw [if_neg hb] at hN
        cases hN
    · rintro ⟨h1, h2⟩
      have hp := h2 p List.mem_cons_self
      have hb : (iv_opn A R p.1 p.2).testBit (N p.1 p.2) = true := by
        refine iv_opn_bit.mpr ⟨hp.2.2.1, fun m hm => ?_⟩
        rw [← h1 _ _ (iv_off_c ho hm), ← h1 _ _ (iv_off_d ho hm)]
        exact hp.2.2.2 m hm
      refine ⟨N p.1 p.2, List.mem_range.mpr hp.1, ?_⟩
      rw [if_pos hb, iv_mem A tl _ N (iv_ord_tl ho)]
      refine ⟨fun x y h => ?_, fun q hq => h2 q (List.mem_cons_of_mem _ hq)⟩
      by_cases c1 : x = p.1 ∧ y = p.2
      · rw [c1.1, c1.2]
        exact iv_set1.symm
      · by_cases c2 : x = p.2 ∧ y = p.1
        · rw [c2.1, c2.2, iv_set2 hl]
          exact hp.2.1
        · rw [iv_set3 c1 c2]
          refine h1 x y (fun q hq => ?_)
          rcases List.mem_cons.mp hq with e | hq
          · rw [e]
            exact ⟨c1, c2⟩
          · exact h q hq
theorem iv_nets_hd {A R N : iv_N} {p : Nat × Nat} {tl : List (Nat × Nat)} {r : Nat} (ho : iv_ord (p :: tl)) (h : N ∈ iv_nets A tl (iv_set R p.1 p.2 r)) : N p.1 p.2 = r := by
  rw [iv_mem A tl _ N (iv_ord_tl ho)] at h
  rw [h.1 _ _ (iv_off_a ho)]
  exact iv_set1
theorem iv_nd (A : iv_N) : ∀ (ps : List (Nat × Nat)) (R : iv_N), iv_ord ps → (iv_nets A ps R).Nodup
  | [], R, _ => by
    rw [iv_nets]
    exact List.nodup_cons.mpr ⟨fun h => (by cases h), List.nodup_nil⟩
  | p :: tl, R, ho => by
    rw [iv_nets]
    refine List.pairwise_flatMap.mpr ⟨fun r _ => ?_, ?_⟩
    · by_cases hb : (iv_opn A R p.1 p.2).testBit r = true
      · rw [if_pos hb]
        exact iv_nd A tl _ (iv_ord_tl ho)
      · rw [if_neg hb]
        exact List.Pairwise.nil
    · refine List.Pairwise.imp ?_ (List.pairwise_lt_range (n := 13))
      intro a b hab x hx y hy
      by_cases ha : (iv_opn A R p.1 p.2).testBit a = true
      · by_cases hb : (iv_opn A R p.1 p.2).testBit b = true
        · rw [if_pos ha] at hx
          rw [if_pos hb] at hy
          have h1 := iv_nets_hd ho hx
          have h2 := iv_nets_hd ho hy
          intro e
          rw [e] at h1
          omega
        · rw [if_neg hb] at hy
          cases hy
      · rw [if_neg ha] at hx
        cases hx
theorem iv_nets_congr {A B : iv_N} : ∀ (ps : List (Nat × Nat)) (R : iv_N), (∀ p, p ∈ ps → A p.1 p.2 = B p.1 p.2) → iv_nets A ps R = iv_nets B ps R
  | [], R, _ => by rw [iv_nets, iv_nets]
  | p :: tl, R, h => by
    have e : iv_opn A R p.1 p.2 = iv_opn B R p.1 p.2 := by
      have : ∀ k, iv_om A R p.1 p.2 k = iv_om B R p.1 p.2 k := by
        intro k
        induction k with
        | zero => exact h p List.mem_cons_self
        | succ k ih => rw [iv_om, iv_om, ih]
      exact this p.1
    rw [iv_nets, iv_nets, e]
    congr 1
    funext r
    rw [iv_nets_congr tl _ (fun q hq => h q (List.mem_cons_of_mem _ hq))]
def iv_ps (n : Nat) : List (Nat × Nat) := if n = 2 then [(0, 1)] else if n = 3 then [(0, 1), (0, 2), (1, 2)] else [(0, 1), (0, 2), (0, 3), (1, 2), (1, 3), (2, 3)]
def iv_R0 : iv_N := fun _ _ => 6
def iv_n (n : Nat) : Prop := n = 2 ∨ n = 3 ∨ n = 4
theorem iv_ps_ord {n : Nat} (h : iv_n n) : iv_ord (iv_ps n) := by
  rcases h with h | h | h <;> subst h <;> refine ⟨by unfold iv_ps; decide, by unfold iv_ps; decide⟩
theorem iv_ps_mem {n : Nat} (h : iv_n n) (p : Nat × Nat) : p ∈ iv_ps n ↔ (p.1 < p.2 ∧ p.2 < n) := by
  obtain ⟨a, b⟩ := p
  rcases h with h | h | h <;> subst h <;> simp [iv_ps] <;> omega
end
section
def iv_f (p : Nat) : Nat := 1 - p % 2
def iv_sh (p q v : Nat) : Nat := v + ((if p / 2 ≤ v then iv_f p else 0) + (if q / 2 ≤ v then iv_f q else 0))
def iv_ex (k : Nat) (L : Nat → Nat) (p q : Nat) : Nat → Nat := fun c =>
  if c < 2 * k then iv_sh p q (L c) else if c = 2 * k then p / 2 else if c = 2 * k + 1 then q / 2 + iv_f p else 0
theorem iv_ex_o {k : Nat} {L : Nat → Nat} {p q c : Nat} (h : c < 2 * k) : iv_ex k L p q c = iv_sh p q (L c) := if_pos h
theorem iv_ex_b {k : Nat} {L : Nat → Nat} {p q : Nat} : iv_ex k L p q (2 * k) = p / 2 := by
  unfold iv_ex
  rw [if_neg (by omega), if_pos rfl]
theorem iv_ex_e {k : Nat} {L : Nat → Nat} {p q : Nat} : iv_ex k L p q (2 * k + 1) = q / 2 + iv_f p := by
  unfold iv_ex
  rw [if_neg (by omega), if_neg (by omega), if_pos rfl]
def iv_v (p q : Nat) : Bool := decide (p < q ∨ (p = q ∧ p % 2 = 0))
theorem iv_v_iff {p q : Nat} : iv_v p q = true ↔ (p < q ∨ (p = q ∧ p % 2 = 0)) := by
  unfold iv_v
  exact decide_eq_true_iff
theorem iv_sh_lt {p q v w : Nat} (h : v < w) : iv_sh p q v < iv_sh p q w := by
  unfold iv_sh
  repeat' split
  all_goals omega
theorem iv_sh_cmp (p q v w : Nat) : iv_cmp (iv_sh p q v) (iv_sh p q w) = iv_cmp v w := by
  rcases Nat.lt_trichotomy v w with h | h | h
  · rw [iv_c0 h, iv_c0 (iv_sh_lt h)]
  · rw [iv_c1 h, h, iv_c1 rfl]
  · rw [iv_c2 h, iv_c2 (iv_sh_lt h)]
theorem iv_sh_b {p q v : Nat} (h : p < q ∨ (p = q ∧ p % 2 = 0)) : iv_cmp (iv_sh p q v) (p / 2) = iv_cmp (2 * v + 1) p := by
  have h1 := iv_cs (iv_sh p q v) (p / 2)
  have h2 := iv_cs (2 * v + 1) p
  revert h1
  unfold iv_sh iv_f
  repeat' split
  all_goals
    intro h1
    omega
theorem iv_sh_e {p q v : Nat} (h : p < q ∨ (p = q ∧ p % 2 = 0)) : iv_cmp (iv_sh p q v) (q / 2 + iv_f p) = iv_cmp (2 * v + 1) q := by
  have h1 := iv_cs (iv_sh p q v) (q / 2 + iv_f p)
  have h2 := iv_cs (2 * v + 1) q
  revert h1
  unfold iv_sh iv_f
  repeat' split
  all_goals
    intro h1
    omega
theorem iv_be {p q : Nat} (h : p < q ∨ (p = q ∧ p % 2 = 0)) : p / 2 < q / 2 + iv_f p := by
  unfold iv_f
  omega
theorem iv_sh_m {p q v m : Nat} (h : v < m) : iv_sh p q v < m + iv_f p + iv_f q := by
  unfold iv_sh
  repeat' split
  all_goals omega
theorem iv_sh_sur {p q w m : Nat} (h : p < q ∨ (p = q ∧ p % 2 = 0)) (hp : p ≤ 2 * m) (hq : q ≤ 2 * m) (hw : w < m + iv_f p + iv_f q) :
    w = p / 2 ∨ w = q / 2 + iv_f p ∨ ∃ v, v < m ∧ iv_sh p q v = w := by
  by_cases h1 : w = p / 2
  · exact Or.inl h1
  · by_cases h2 : w = q / 2 + iv_f p
    · exact Or.inr (Or.inl h2)
    · refine Or.inr (Or.inr ?_)
      by_cases c1 : w < p / 2
      · refine ⟨w, by omega, ?_⟩
        unfold iv_sh
        rw [if_neg (by omega), if_neg (by omega)]
        omega
      · by_cases c2 : w < q / 2 + iv_f p
        · refine ⟨w - iv_f p, ?_, ?_⟩
          · unfold iv_f at *
            omega
          · unfold iv_sh
            rw [if_pos (by unfold iv_f at *; omega), if_neg (by unfold iv_f at *; omega)]
            unfold iv_f at *
            omega
        · refine ⟨w - iv_f p - iv_f q, ?_, ?_⟩
          · unfold iv_f at *
            omega
          · unfold iv_sh
            rw [if_pos (by unfold iv_f at *; omega), if_pos (by unfold iv_f at *; omega)]
            unfold iv_f at *
            omega
def iv_Can (k : Nat) (L : Nat → Nat) (m : Nat) : Prop :=
  (∀ i, i < k → L (2 * i) < L (2 * i + 1)) ∧ (∀ c, c < 2 * k → L c < m) ∧ (∀ v, v < m → ∃ c, c < 2 * k ∧ L c = v)
theorem iv_can_ex {k : Nat} {L : Nat → Nat} {m p q : Nat} (h : iv_Can k L m) (hv : p < q ∨ (p = q ∧ p % 2 = 0)) (hp : p ≤ 2 * m) (hq : q ≤ 2 * m) :
    iv_Can (k + 1) (iv_ex k L p q) (m + iv_f p + iv_f q) := by
  refine ⟨fun i hi => ?_, fun c hc => ?_, fun w hw => ?_⟩
  · by_cases e : i = k
    · subst e
      rw [iv_ex_b, iv_ex_e]
      exact iv_be hv
    · rw [iv_ex_o (by omega), iv_ex_o (by omega)]
      exact iv_sh_lt (h.1 i (by omega))
  · by_cases c1 : c < 2 * k
    · rw [iv_ex_o c1]
      exact iv_sh_m (h.2.1 c c1)
    · by_cases c2 : c = 2 * k
      · rw [c2, iv_ex_b]
        unfold iv_f
        omega
      · rw [show c = 2 * k + 1 by omega, iv_ex_e]
        unfold iv_f
        omega
  · rcases iv_sh_sur hv hp hq hw with e | e | ⟨v, hv, e⟩
    · exact ⟨2 * k, by omega, by rw [iv_ex_b, e]⟩
    · exact ⟨2 * k + 1, by omega, by rw [iv_ex_e, e]⟩
    · obtain ⟨c, hc, ec⟩ := h.2.2 v hv
      exact ⟨c, by omega, by rw [iv_ex_o hc, ec, e]⟩
theorem iv_rl_ex {k : Nat} {L : Nat → Nat} {m p q : Nat} (h : iv_Can k L m) (hv : p < q ∨ (p = q ∧ p % 2 = 0)) (hp : p ≤ 2 * m) (hq : q ≤ 2 * m)
    {i j : Nat} (hi : i < k) (hj : j < k) : iv_rl (iv_ex k L p q) i j = iv_rl L i j := by
  have hc := iv_can_ex h hv hp hq
  refine iv_rl_of hc.1 (by omega) (by omega) (iv_rel_lt _ _ _ _) ?_
  intro x y hx hy
  rw [iv_rl_cm h.1 (by omega) (by omega), iv_ex_o (by omega), iv_ex_o (by omega), iv_sh_cmp]
def iv_fit (A : iv_N) (k : Nat) (L : Nat → Nat) : Bool := decide (∀ i, i < k → (A i k).testBit (iv_rl L i k) = true)
theorem iv_fit_iff {A : iv_N} {k : Nat} {L : Nat → Nat} : iv_fit A k L = true ↔ (∀ i, i < k → (A i k).testBit (iv_rl L i k) = true) := by
  unfold iv_fit
  exact decide_eq_true_iff
def iv_go (A : iv_N) (k : Nat) (L : Nat → Nat) (m t : Nat) : Bool :=
  iv_v (t / (2 * m + 1)) (t % (2 * m + 1)) && iv_fit A k (iv_ex k L (t / (2 * m + 1)) (t % (2 * m + 1)))
def iv_lv (A : iv_N) : Nat → Nat → (Nat → Nat) → Nat → List ((Nat → Nat) × Nat)
  | 0, _, L, m => [(L, m)]
  | d + 1, k, L, m => (List.range ((2 * m + 1) * (2 * m + 1))).flatMap (fun t =>
      if iv_go A k L m t = true then
        iv_lv A d (k + 1) (iv_ex k L (t / (2 * m + 1)) (t % (2 * m + 1))) (m + iv_f (t / (2 * m + 1)) + iv_f (t % (2 * m + 1)))
      else [])
theorem iv_t_p {m t : Nat} (h : t < (2 * m + 1) * (2 * m + 1)) : t / (2 * m + 1) ≤ 2 * m := by
  have := Nat.div_lt_of_lt_mul h
  omega
theorem iv_t_q {m t : Nat} : t % (2 * m + 1) ≤ 2 * m := by
  have := Nat.mod_lt t (show 0 < 2 * m + 1 by omega)
  omega
theorem iv_go_iff {A : iv_N} {k : Nat} {L : Nat → Nat} {m t : Nat} : iv_go A k L m t = true ↔
    ((t / (2 * m + 1) < t % (2 * m + 1) ∨ (t / (2 * m + 1) = t % (2 * m + 1) ∧ t / (2 * m + 1) % 2 = 0)) ∧ ∀ i, i < k → (A i k).testBit (iv_rl (iv_ex k L (t / (2 * m + 1)) (t % (2 * m + 1))) i k) = true) := by
  unfold iv_go
  rw [Bool.and_eq_true, iv_v_iff, iv_fit_iff]
theorem iv_lv1 (A : iv_N) : ∀ (d k : Nat) (L : Nat → Nat) (m : Nat), iv_Can k L m → ∀ x, x ∈ iv_lv A d k L m →
    iv_Can (k + d) x.1 x.2 ∧ (∀ i j, i < k → j < k → iv_rl x.1 i j = iv_rl L i j) ∧ (∀ i j, i < j → j < k + d → k ≤ j → (A i j).testBit (iv_rl x.1 i j) = true)
  | 0, k, L, m, hc, x, hx => by
    rw [iv_lv, List.mem_singleton] at hx
    subst hx
    exact ⟨hc, fun _ _ _ _ => rfl, fun i j _ h1 h2 => by omega⟩
  | d + 1, k, L, m, hc, x, hx => by
    rw [iv_lv, List.mem_flatMap] at hx
    obtain ⟨t, ht, hx⟩ := hx
    have ht := List.mem_range.mp ht
    by_cases hg : iv_go A k L m t = true
    · rw [if_pos hg] at hx
      have hg := iv_go_iff.mp hg
      have hc' := iv_can_ex hc hg.1 (iv_t_p ht) iv_t_q
      obtain ⟨h1, h2, h3⟩ := iv_lv1 A d (k + 1) _ _ hc' x hx
      refine ⟨by rw [show k + (d + 1) = k + 1 + d by omega]; exact h1, fun i j hi hj => ?_, fun i j hij hj hk => ?_⟩
      · rw [h2 i j (by omega) (by omega)]
        exact iv_rl_ex hc hg.1 (iv_t_p ht) iv_t_q hi hj
      · by_cases e : j = k
        · rw [h2 i j (by omega) (by omega), e]
          exact hg.2 i (by omega)
        · exact h3 i j hij (by omega) (by omega)
    · rw [if_neg hg] at hx
      cases hx
/- a place among the old points for an end that compares as a code says -/
theorem iv_place {k : Nat} {L : Nat → Nat} {m : Nat} (h : iv_Can k L m) {c : Nat → Nat} (h3 : ∀ a, a < 2 * k → c a < 3)
    (ht : ∀ a b, a < 2 * k → b < 2 * k → iv_tr (iv_cmp (L a) (L b)) (c b) (c a) = true) :
    ∃ p, p ≤ 2 * m ∧ ∀ a, a < 2 * k → iv_cmp (2 * L a + 1) p = c a := by
  have key : ∀ d t, t + d = m → (∀ a, a < 2 * k → L a < t → c a = 0) → ∃ p, p ≤ 2 * m ∧ ∀ a, a < 2 * k → iv_cmp (2 * L a + 1) p = c a := by
    intro d
    induction d with
    | zero =>
      intro t e hz
      refine ⟨2 * m, by omega, fun a ha => ?_⟩
      have := h.2.1 a ha
      rw [hz a ha (by omega)]
      exact iv_c0 (by omega)
    | succ d ih =>
      intro t e hz
      obtain ⟨b, hb, eb⟩ := h.2.2 t (by omega)
      have hb3 := h3 b hb
      by_cases z0 : c b = 0
      · refine ih (t + 1) (by omega) (fun a ha hla => ?_)
        by_cases e1 : L a = t
        · have h1 := iv_tr_iff.mp (ht a b ha hb)
          have h2 := iv_c1 (show L a = L b by omega)
          have := h1.1 h2
          omega
        · exact hz a ha (by omega)
      · by_cases z1 : c b = 1
        · refine ⟨2 * t + 1, by omega, fun a ha => ?_⟩
          have h1 := iv_tr_iff.mp (ht a b ha hb)
          rcases Nat.lt_trichotomy (L a) t with g | g | g
          · rw [hz a ha g]
            exact iv_c0 (by omega)
          · have h2 := iv_c1 (show L a = L b by omega)
            have h4 := h1.1 h2
            rw [h4, z1]
            exact iv_c1 (by omega)
          · have h2 := iv_c2 (show L b < L a by omega)
            have h4 := h1.2.1 z1
            rw [h4, h2]
            exact iv_c2 (by omega)
        · have z2 : c b = 2 := by omega
          refine ⟨2 * t, by omega, fun a ha => ?_⟩
          have h1 := iv_tr_iff.mp (ht a b ha hb)
          rcases Nat.lt_trichotomy (L a) t with g | g | g
          · rw [hz a ha g]
            exact iv_c0 (by omega)
          · have h2 := iv_c1 (show L a = L b by omega)
            have h4 := h1.1 h2
            rw [h4, z2]
            exact iv_c2 (by omega)
          · have h2 := iv_c2 (show L b < L a by omega)
            have h4 := h1.2.2 (by rw [h2, z2])
            rw [h4, h2]
            exact iv_c2 (by omega)
  exact key m 0 (by omega) (fun a _ h => absurd h (Nat.not_lt_zero _))
theorem iv_cmp_3 (x y : Nat) : iv_cmp x y < 3 := by
  have := iv_cs x y
  omega
theorem iv_ext {k : Nat} {L : Nat → Nat} {m : Nat} (h : iv_Can k L m) {R : iv_N} (hg : iv_Good (k + 1) R)
    (he : ∀ i j, i < k → j < k → R i j = iv_rl L i j) :
    ∃ p q, (p < q ∨ (p = q ∧ p % 2 = 0)) ∧ p ≤ 2 * m ∧ q ≤ 2 * m ∧ ∀ i j, i < k + 1 → j < k + 1 → iv_rl (iv_ex k L p q) i j = R i j := by
  have hold : ∀ a b, a < 2 * k → b < 2 * k → iv_cm R a b = iv_cmp (L a) (L b) := by
    intro a b ha hb
    rw [← iv_rl_cm h.1 ha hb]
    unfold iv_cm
    rw [he _ _ (by omega) (by omega)]
  have h3 : ∀ a b, iv_cm R a b < 3 := fun a b => iv_cmp_3 _ _
  have tr : ∀ a b, a < 2 * k → b < 2 * k → ∀ w, w < 2 * (k + 1) → iv_tr (iv_cmp (L a) (L b)) (iv_cm R b w) (iv_cm R a w) = true := by
    intro a b ha hb w hw
    rw [← hold a b ha hb]
    exact iv_cm_tr hg (by omega) (by omega) hw
  obtain ⟨p, hp, cp⟩ := iv_place h (c := fun a => iv_cm R a (2 * k)) (fun a _ => h3 _ _) (fun a b ha hb => tr a b ha hb (2 * k) (by omega))
  obtain ⟨q, hq, cq⟩ := iv_place h (c := fun a => iv_cm R a (2 * k + 1)) (fun a _ => h3 _ _) (fun a b ha hb => tr a b ha hb (2 * k + 1) (by omega))
  have cp : ∀ a, a < 2 * k → iv_cmp (2 * L a + 1) p = iv_cm R a (2 * k) := cp
  have cq : ∀ a, a < 2 * k → iv_cmp (2 * L a + 1) q = iv_cm R a (2 * k + 1) := cq
  have hbe : iv_cm R (2 * k) (2 * k + 1) = 0 := by
    unfold iv_cm
    rw [show 2 * k / 2 = k by omega, show (2 * k + 1) / 2 = k by omega, show 2 * k % 2 = 0 by omega, show (2 * k + 1) % 2 = 1 by omega, hg.1 k (by omega)]
    decide
  have step : ∀ v, v < m → 2 * v + 1 ≤ p → 2 * v + 1 < q := by
    intro v hv hle
    obtain ⟨a, ha, ea⟩ := h.2.2 v hv
    have h1 := iv_tr_iff.mp (iv_cm_tr hg (p := a) (q := 2 * k) (w := 2 * k + 1) (by omega) (by omega) (by omega))
    rw [hbe, ← cp a ha, ← cq a ha, ea] at h1
    have h4 := iv_cs (2 * v + 1) p
    have h5 := iv_cs (2 * v + 1) q
    omega
  have hv : p < q ∨ (p = q ∧ p % 2 = 0) := by
    by_cases o : p % 2 = 1
    · have := step (p / 2) (by omega) (by omega)
      omega
    · by_cases z : p = 0
      · omega
      · have := step (p / 2 - 1) (by omega) (by omega)
        omega
  refine ⟨p, q, hv, hp, hq, ?_⟩
  have hc := iv_can_ex h hv hp hq
  have hk : ∀ i, i < k → iv_rl (iv_ex k L p q) i k = R i k := by
    intro i hi
    refine iv_rl_of hc.1 (by omega) (by omega) (hg.2.1 i k (by omega) (by omega)).1 ?_
    intro x y hx hy
    rw [iv_ex_o (by omega)]
    by_cases ey : y = 0
    · subst ey
      rw [show 2 * k + 0 = 2 * k by omega, iv_ex_b, iv_sh_b hv]
      exact cp _ (by omega)
    · have ey : y = 1 := by omega
      subst ey
      rw [iv_ex_e, iv_sh_e hv]
      exact cq _ (by omega)
  intro i j hi hj
  by_cases e1 : i = k
  · by_cases e2 : j = k
    · rw [e1, e2, hg.1 k (by omega)]
      exact iv_rel_self (hc.1 k (by omega))
    · rw [e1, (hg.2.1 j k (by omega) (by omega)).2, ← hk j (by omega)]
      exact iv_rel_flip (hc.1 j (by omega)) (hc.1 k (by omega))
  · by_cases e2 : j = k
    · rw [e2]
      exact hk i (by omega)
    · rw [he i j (by omega) (by omega)]
      exact iv_rl_ex h hv hp hq (by omega) (by omega)
theorem iv_pq {m p q : Nat} (hp : p ≤ 2 * m) (hq : q ≤ 2 * m) : p * (2 * m + 1) + q < (2 * m + 1) * (2 * m + 1) ∧ (p * (2 * m + 1) + q) / (2 * m + 1) = p ∧ (p * (2 * m + 1) + q) % (2 * m + 1) = q := by
  refine ⟨?_, ?_, ?_⟩
  · have h1 : (p + 1) * (2 * m + 1) ≤ (2 * m + 1) * (2 * m + 1) := Nat.mul_le_mul_right _ (by omega)
    rw [Nat.add_mul] at h1
    omega
  · rw [Nat.mul_comm p (2 * m + 1), Nat.mul_add_div (by omega), Nat.div_eq_of_lt (by omega), Nat.add_zero]
  · rw [Nat.mul_comm p (2 * m + 1), Nat.mul_add_mod, Nat.mod_eq_of_lt (by omega)]
theorem iv_good_le {n n' : Nat} {R : iv_N} (h : iv_Good n R) (hn : n' ≤ n) : iv_Good n' R :=
  ⟨fun i hi => h.1 i (by omega), fun i j hi hj => h.2.1 i j (by omega) (by omega), fun i j l hi hj hl => h.2.2 i j l (by omega) (by omega) (by omega)⟩
theorem iv_lv2 (A : iv_N) : ∀ (d k : Nat) (L : Nat → Nat) (m : Nat), iv_Can k L m → ∀ R, iv_Good (k + d) R → (∀ i j, i < k → j < k → R i j = iv_rl L i j) →
    (∀ i j, i < j → j < k + d → k ≤ j → (A i j).testBit (R i j) = true) → ∃ x, x ∈ iv_lv A d k L m ∧ ∀ i j, i < k + d → j < k + d → iv_rl x.1 i j = R i j
  | 0, k, L, m, hc, R, hg, he, hb => by
    refine ⟨(L, m), by rw [iv_lv]; exact List.mem_singleton.mpr rfl, fun i j hi hj => (he i j hi hj).symm⟩
  | d + 1, k, L, m, hc, R, hg, he, hb => by
    obtain ⟨p, q, hv, hp, hq, hR⟩ := iv_ext hc (iv_good_le hg (by omega)) he
    obtain ⟨ht, e1, e2⟩ := iv_pq hp hq
    have hgo : iv_go A k L m (p * (2 * m + 1) + q) = true := by
      rw [iv_go_iff, e1, e2]
      refine ⟨hv, fun i hi => ?_⟩
      rw [hR i k (by omega) (by omega)]
      exact hb i k hi (by omega) (by omega)
    obtain ⟨x, hx, hxR⟩ := iv_lv2 A d (k + 1) (iv_ex k L p q) (m + iv_f p + iv_f q) (iv_can_ex hc hv hp hq) R
      (by rw [show k + 1 + d = k + (d + 1) by omega]; exact hg) (fun i j hi hj => (hR i j hi hj).symm)
      (fun i j h1 h2 h3 => hb i j h1 (by omega) (by omega))
    refine ⟨x, ?_, fun i j hi hj => hxR i j (by omega) (by omega)⟩
    rw [iv_lv, List.mem_flatMap]
    refine ⟨p * (2 * m + 1) + q, List.mem_range.mpr ht, ?_⟩
    rw [if_pos hgo, e1, e2]
    exact hx
def iv_nt (n : Nat) (L : Nat → Nat) : iv_N := fun x y => if x < n ∧ y < n then iv_rl L x y else 6
theorem iv_nt_in {n : Nat} {L : Nat → Nat} {x y : Nat} (hx : x < n) (hy : y < n) : iv_nt n L x y = iv_rl L x y := if_pos ⟨hx, hy⟩
theorem iv_code {m p q : Nat} (hp : p ≤ 2 * m) (hq : q ≤ 2 * m) (h : ∀ v, v < m → iv_cmp (2 * v + 1) p = iv_cmp (2 * v + 1) q) : p = q := by
  rcases Nat.lt_trichotomy p q with g | g | g
  · have h1 := h (p / 2) (by omega)
    have h2 := iv_cs (2 * (p / 2) + 1) p
    have h3 := iv_cs (2 * (p / 2) + 1) q
    omega
  · exact g
  · have h1 := h (q / 2) (by omega)
    have h2 := iv_cs (2 * (q / 2) + 1) p
    have h3 := iv_cs (2 * (q / 2) + 1) q
    omega
theorem iv_ex_inj {k : Nat} {L : Nat → Nat} {m p q p' q' : Nat} (h : iv_Can k L m) (hv : p < q ∨ (p = q ∧ p % 2 = 0)) (hp : p ≤ 2 * m) (hq : q ≤ 2 * m)
    (hv' : p' < q' ∨ (p' = q' ∧ p' % 2 = 0)) (hp' : p' ≤ 2 * m) (hq' : q' ≤ 2 * m)
    (he : ∀ i, i < k → iv_rl (iv_ex k L p q) i k = iv_rl (iv_ex k L p' q') i k) : p = p' ∧ q = q' := by
  have hc := iv_can_ex h hv hp hq
  have hc' := iv_can_ex h hv' hp' hq'
  have key : ∀ a y, a < 2 * k → y < 2 → iv_cmp (iv_ex k L p q a) (iv_ex k L p q (2 * k + y)) = iv_cmp (iv_ex k L p' q' a) (iv_ex k L p' q' (2 * k + y)) := by
    intro a y ha hy
    rw [← iv_rl_cm hc.1 (by omega) (by omega), ← iv_rl_cm hc'.1 (by omega) (by omega)]
    unfold iv_cm
    rw [show (2 * k + y) / 2 = k by omega, he _ (by omega)]
  constructor
  · refine iv_code hp hp' (fun v hvm => ?_)
    obtain ⟨a, ha, ea⟩ := h.2.2 v hvm
    have := key a 0 ha (by omega)
    rw [iv_ex_o ha, iv_ex_o ha, Nat.add_zero, iv_ex_b, iv_ex_b, iv_sh_b hv, iv_sh_b hv', ea] at this
    exact this
  · refine iv_code hq hq' (fun v hvm => ?_)
    obtain ⟨a, ha, ea⟩ := h.2.2 v hvm
    have := key a 1 ha (by omega)
    rw [iv_ex_o ha, iv_ex_o ha, iv_ex_e, iv_ex_e, iv_sh_e hv, iv_sh_e hv', ea] at this
    exact this
theorem iv_lv3 (A : iv_N) : ∀ (d k : Nat) (L : Nat → Nat) (m : Nat), iv_Can k L m → ((iv_lv A d k L m).map (fun x => iv_nt (k + d) x.1)).Nodup
  | 0, k, L, m, hc => by
    rw [iv_lv, List.map_cons, List.map_nil]
    exact List.nodup_cons.mpr ⟨fun h => (by cases h), List.nodup_nil⟩
  | d + 1, k, L, m, hc => by
    rw [iv_lv, List.map_flatMap]
    refine List.pairwise_flatMap.mpr ⟨fun t ht => ?_, ?_⟩
    · have ht := List.mem_range.mp ht
      by_cases hg : iv_go A k L m t = true
      · rw [if_pos hg]
        have hg := iv_go_iff.mp hg
        have := iv_lv3 A d (k + 1) _ _ (iv_can_ex hc hg.1 (iv_t_p ht) iv_t_q)
        rw [show k + 1 + d = k + (d + 1) by omega] at this
        exact this
      · rw [if_neg hg]
        exact List.Pairwise.nil
    · refine List.Pairwise.imp_of_mem ?_ (List.pairwise_lt_range (n := (2 * m + 1) * (2 * m + 1)))
      intro a b hra hrb hab x hx y hy
      have hra := List.mem_range.mp hra
      have hrb := List.mem_range.mp hrb
      by_cases ha : iv_go A k L m a = true
      · by_cases hb : iv_go A k L m b = true
        · rw [if_pos ha] at hx
          rw [if_pos hb] at hy
          have ha := iv_go_iff.mp ha
          have hb := iv_go_iff.mp hb
          obtain ⟨x', hx', ex⟩ := List.mem_map.mp hx
          obtain ⟨y', hy', ey⟩ := List.mem_map.mp hy
          have h1 := (iv_lv1 A d (k + 1) _ _ (iv_can_ex hc ha.1 (iv_t_p hra) iv_t_q) x' hx').2.1
          have h2 := (iv_lv1 A d (k + 1) _ _ (iv_can_ex hc hb.1 (iv_t_p hrb) iv_t_q) y' hy').2.1
          intro e
          have e' : ∀ i, i < k → iv_rl (iv_ex k L (a / (2 * m + 1)) (a % (2 * m + 1))) i k = iv_rl (iv_ex k L (b / (2 * m + 1)) (b % (2 * m + 1))) i k := by
            intro i hi
            rw [← h1 i k (by omega) (by omega), ← h2 i k (by omega) (by omega)]
            have e3 : iv_nt (k + (d + 1)) x'.1 i k = iv_nt (k + (d + 1)) y'.1 i k := by
              rw [ex, ey, e]
            rw [iv_nt_in (by omega) (by omega), iv_nt_in (by omega) (by omega)] at e3
            exact e3
          have e4 := iv_ex_inj hc ha.1 (iv_t_p hra) iv_t_q hb.1 (iv_t_p hrb) iv_t_q e'
          have e5 := Nat.div_add_mod a (2 * m + 1)
          have e6 := Nat.div_add_mod b (2 * m + 1)
          rw [e4.1, e4.2] at e5
          omega
        · rw [if_neg hb, List.map_nil] at hy
          cases hy
      · rw [if_neg ha, List.map_nil] at hx
        cases hx
end
section
def iv_L1 : Nat → Nat := fun c => if c = 1 then 1 else 0
theorem iv_can1 : iv_Can 1 iv_L1 2 := by
  refine ⟨fun i hi => ?_, fun c hc => ?_, fun v hv => ⟨v, by omega, ?_⟩⟩
  · rw [show i = 0 by omega]
    decide
  · unfold iv_L1
    split <;> omega
  · unfold iv_L1
    split <;> omega
def iv_leaves (n : Nat) (A : iv_N) : List ((Nat → Nat) × Nat) := iv_lv A (n - 1) 1 iv_L1 2
theorem iv_leaf_can {n : Nat} (hn : 1 ≤ n) {A : iv_N} {x : (Nat → Nat) × Nat} (hx : x ∈ iv_leaves n A) :
    iv_Can n x.1 x.2 ∧ ∀ i j, i < j → j < n → (A i j).testBit (iv_rl x.1 i j) = true := by
  have h := iv_lv1 A (n - 1) 1 iv_L1 2 iv_can1 x hx
  rw [show 1 + (n - 1) = n by omega] at h
  exact ⟨h.1, fun i j h1 h2 => h.2.2 i j h1 h2 (by omega)⟩
theorem iv_same {n : Nat} (hn : iv_n n) {A : iv_N} (N : iv_N) : N ∈ iv_nets A (iv_ps n) iv_R0 ↔ ∃ x, x ∈ iv_leaves n A ∧ iv_nt n x.1 = N := by
  have h1 : 1 ≤ n := by unfold iv_n at hn; omega
  rw [iv_mem A _ _ _ (iv_ps_ord hn)]
  constructor
  · rintro ⟨ho, ha⟩
    have hd : ∀ i, i < n → N i i = 6 := fun i _ => ho i i (fun p hp => by
      have := (iv_ps_mem hn p).mp hp
      omega)
    have h2 : ∀ i j, i < j → j < n → iv_at A N (i, j) := fun i j h h' => ha (i, j) ((iv_ps_mem hn (i, j)).mpr ⟨h, h'⟩)
    have hG : iv_Good n N := by
      refine iv_good_of hd (fun i j h h' => ⟨(h2 i j h h').1, (h2 i j h h').2.1⟩) (fun m i j h h' hj => ?_)
      have a1 := h2 i j h' hj
      have a2 := h2 m j (by omega) hj
      have a3 := h2 m i h (by omega)
      have a4 := a1.2.2.2 m h
      have b1 : N i j < 13 := a1.1
      have b2 : N m j < 13 := a2.1
      have b3 : N i m < 13 := by
        have c1 : N i m = 12 - N m i := a3.2.1
        omega
      rw [← iv_T_ok _ b3 _ b2 _ b1]
      exact a4
    obtain ⟨x, hx, hR⟩ := iv_lv2 A (n - 1) 1 iv_L1 2 iv_can1 N (by rw [show 1 + (n - 1) = n by omega]; exact hG)
      (fun i j hi hj => by
        rw [show i = 0 by omega, show j = 0 by omega, hd 0 (by omega)]
        decide)
      (fun i j h h' _ => (h2 i j h (by omega)).2.2.1)
    refine ⟨x, hx, ?_⟩
    funext a b
    by_cases c : a < n ∧ b < n
    · rw [iv_nt_in c.1 c.2]
      exact hR a b (by omega) (by omega)
    · unfold iv_nt
      rw [if_neg c]
      refine (ho a b (fun p hp => ?_)).symm
      have := (iv_ps_mem hn p).mp hp
      omega
  · rintro ⟨x, hx, e⟩
    obtain ⟨hc, hb⟩ := iv_leaf_can h1 hx
    have hg := iv_rl_good hc.1
    subst e
    refine ⟨fun a b ho => ?_, fun p hp => ?_⟩
    · by_cases c : a < n ∧ b < n
      · rw [iv_nt_in c.1 c.2]
        have : a = b := by
          rcases Nat.lt_trichotomy a b with g | g | g
          · exact absurd ⟨rfl, rfl⟩ (ho (a, b) ((iv_ps_mem hn _).mpr ⟨g, c.2⟩)).1
          · exact g
          · exact absurd ⟨rfl, rfl⟩ (ho (b, a) ((iv_ps_mem hn _).mpr ⟨g, c.1⟩)).2
        subst this
        exact hg.1 a c.1
      · unfold iv_nt
        rw [if_neg c]
        rfl
    · have hp' := (iv_ps_mem hn p).mp hp
      have i1 : p.1 < n := by omega
      unfold iv_at
      rw [iv_nt_in i1 hp'.2, iv_nt_in hp'.2 i1]
      refine ⟨(hg.2.1 _ _ i1 hp'.2).1, (hg.2.1 _ _ i1 hp'.2).2, hb _ _ hp'.1 hp'.2, fun m hm => ?_⟩
      have hm' : m < n := by omega
      rw [iv_nt_in i1 hm', iv_nt_in hm' hp'.2, iv_T_ok _ (hg.2.1 _ _ i1 hm').1 _ (hg.2.1 _ _ hm' hp'.2).1 _ (hg.2.1 _ _ i1 hp'.2).1]
      exact hg.2.2 _ _ _ i1 hm' hp'.2
theorem iv_perm {n : Nat} (hn : iv_n n) (A : iv_N) : ((iv_leaves n A).map (fun x => iv_nt n x.1)).Perm (iv_nets A (iv_ps n) iv_R0) := by
  have h1 : 1 ≤ n := by unfold iv_n at hn; omega
  have nd := iv_lv3 A (n - 1) 1 iv_L1 2 iv_can1
  rw [show 1 + (n - 1) = n by omega] at nd
  refine (List.perm_ext_iff_of_nodup nd (iv_nd A _ _ (iv_ps_ord hn))).mpr (fun N => ?_)
  rw [iv_same hn, List.mem_map]
  rfl
theorem iv_len {n : Nat} (hn : iv_n n) (A : iv_N) : (iv_leaves n A).length = (iv_nets A (iv_ps n) iv_R0).length := by
  have := (iv_perm hn A).length_eq
  rw [List.length_map] at this
  exact this
/- the set of what a list's members show, as bits -/
def iv_or : List Nat → Nat
  | [] => 0
  | a :: l => (1 <<< a) ||| iv_or l
theorem iv_or_bit (t : Nat) : ∀ l, (iv_or l).testBit t = true ↔ t ∈ l
  | [] => by
    rw [iv_or, Nat.zero_testBit]
    exact ⟨fun h => (by cases h), fun h => (by cases h)⟩
  | a :: l => by
    rw [iv_or, Nat.testBit_or, Bool.or_eq_true, iv_or_bit t l, List.mem_cons, Nat.one_shiftLeft, Nat.testBit_two_pow, decide_eq_true_iff]
    exact ⟨fun h => h.elim (fun e => Or.inl e.symm) Or.inr, fun h => h.elim (fun e => Or.inl e.symm) Or.inr⟩
theorem iv_or_ext {l l' : List Nat} (h : ∀ t, t ∈ l ↔ t ∈ l') : iv_or l = iv_or l' := by
  apply Nat.eq_of_testBit_eq
  intro t
  rw [Bool.eq_iff_iff, iv_or_bit, iv_or_bit]
  exact h t
theorem iv_or_app (l : List Nat) (a : Nat) : iv_or (l ++ [a]) = iv_or l ||| 1 <<< a := by
  apply Nat.eq_of_testBit_eq
  intro t
  rw [Bool.eq_iff_iff, iv_or_bit, Nat.testBit_or, Bool.or_eq_true, iv_or_bit, List.mem_append, List.mem_singleton, Nat.one_shiftLeft, Nat.testBit_two_pow, decide_eq_true_iff]
  exact ⟨fun h => h.elim Or.inl (fun e => Or.inr e.symm), fun h => h.elim Or.inl (fun e => Or.inr e.symm)⟩
theorem iv_or_lt {l : List Nat} (h : ∀ a, a ∈ l → a < 13) : iv_or l < 8192 := by
  have : iv_or l < 2 ^ 13 := by
    apply Nat.lt_pow_two_of_testBit
    intro i hi
    have := iv_or_bit i l
    cases e : (iv_or l).testBit i
    · rfl
    · have := h i (this.mp e)
      omega
  exact this
/- the least of a list -/
def iv_min : List Nat → Nat
  | [] => 0
  | [a] => a
  | a :: b :: l => if a < iv_min (b :: l) then a else iv_min (b :: l)
theorem iv_min_spec : ∀ (l : List Nat), l ≠ [] → iv_min l ∈ l ∧ ∀ a, a ∈ l → iv_min l ≤ a
  | [], h => absurd rfl h
  | [a], _ => by
    rw [iv_min]
    exact ⟨List.mem_singleton.mpr rfl, fun b hb => by rw [List.mem_singleton.mp hb]; exact Nat.le_refl _⟩
  | a :: b :: l, _ => by
    have ih := iv_min_spec (b :: l) (by simp)
    rw [iv_min]
    by_cases c : a < iv_min (b :: l)
    · rw [if_pos c]
      refine ⟨List.mem_cons_self, fun x hx => ?_⟩
      rcases List.mem_cons.mp hx with e | hx
      · omega
      · have := ih.2 x hx
        omega
    · rw [if_neg c]
      refine ⟨List.mem_cons_of_mem _ ih.1, fun x hx => ?_⟩
      rcases List.mem_cons.mp hx with e | hx
      · omega
      · exact ih.2 x hx
theorem iv_min_u {l : List Nat} {m : Nat} (h1 : m ∈ l) (h2 : ∀ a, a ∈ l → m ≤ a) : iv_min l = m := by
  have h : l ≠ [] := by
    intro e
    rw [e] at h1
    cases h1
  have hs := iv_min_spec l h
  have a1 := hs.2 m h1
  have a2 := h2 _ hs.1
  omega
theorem iv_min_ext {l l' : List Nat} (h : ∀ t, t ∈ l ↔ t ∈ l') (hl : l ≠ []) : iv_min l = iv_min l' := by
  have hs := iv_min_spec l hl
  exact (iv_min_u ((h _).mp hs.1) (fun a ha => hs.2 a ((h a).mpr ha))).symm
theorem iv_min_app {l : List Nat} (hl : l ≠ []) (a : Nat) : iv_min (l ++ [a]) = if a < iv_min l then a else iv_min l := by
  have hs := iv_min_spec l hl
  by_cases c : a < iv_min l
  · rw [if_pos c]
    refine iv_min_u (List.mem_append.mpr (Or.inr (List.mem_singleton.mpr rfl))) (fun b hb => ?_)
    rcases List.mem_append.mp hb with hb | hb
    · have := hs.2 b hb
      omega
    · rw [List.mem_singleton.mp hb]
      exact Nat.le_refl _
  · rw [if_neg c]
    refine iv_min_u (List.mem_append.mpr (Or.inl hs.1)) (fun b hb => ?_)
    rcases List.mem_append.mp hb with hb | hb
    · exact hs.2 b hb
    · rw [List.mem_singleton.mp hb]
      omega
/- how many below N -/
def iv_ct (f : Nat → Bool) : Nat → Nat
  | 0 => 0
  | n + 1 => iv_ct f n + if f n = true then 1 else 0
theorem iv_ct_congr {f g : Nat → Bool} : ∀ N, (∀ q, q < N → f q = g q) → iv_ct f N = iv_ct g N
  | 0, _ => rfl
  | n + 1, h => by
    rw [iv_ct, iv_ct, iv_ct_congr n (fun q hq => h q (by omega)), h n (by omega)]
theorem iv_ct_le {f g : Nat → Bool} : ∀ N, (∀ q, q < N → f q = true → g q = true) → iv_ct f N ≤ iv_ct g N
  | 0, _ => Nat.le_refl _
  | n + 1, h => by
    rw [iv_ct, iv_ct]
    have ih := iv_ct_le n (fun q hq => h q (by omega))
    have hn := h n (by omega)
    by_cases c : f n = true
    · rw [if_pos c, if_pos (hn c)]
      omega
    · rw [if_neg c]
      omega
theorem iv_ct_ub (f : Nat → Bool) : ∀ N, iv_ct f N ≤ N
  | 0 => Nat.le_refl _
  | n + 1 => by
    rw [iv_ct]
    have ih := iv_ct_ub f n
    split <;> omega
theorem iv_ct_add {f g h : Nat → Bool} : ∀ N, (∀ q, q < N → (f q = true ↔ (g q = true ∨ h q = true)) ∧ ¬ (g q = true ∧ h q = true)) → iv_ct f N = iv_ct g N + iv_ct h N
  | 0, _ => rfl
  | n + 1, H => by
    rw [iv_ct, iv_ct, iv_ct, iv_ct_add n (fun q hq => H q (by omega))]
    have hn := H n (by omega)
    by_cases c : g n = true
    · have c' : ¬ h n = true := fun z => hn.2 ⟨c, z⟩
      rw [if_pos c, if_neg c', if_pos (hn.1.mpr (Or.inl c))]
      omega
    · by_cases c' : h n = true
      · rw [if_neg c, if_pos c', if_pos (hn.1.mpr (Or.inr c'))]
        omega
      · rw [if_neg c, if_neg c', if_neg (fun z => (hn.1.mp z).elim c c')]
        omega
theorem iv_ct_0 {f : Nat → Bool} : ∀ N, (∀ q, q < N → ¬ f q = true) → iv_ct f N = 0
  | 0, _ => rfl
  | n + 1, h => by
    rw [iv_ct, iv_ct_0 n (fun q hq => h q (by omega)), if_neg (h n (by omega))]
theorem iv_ct_1 {f : Nat → Bool} : ∀ N a, a < N → f a = true → (∀ q, q < N → f q = true → q = a) → iv_ct f N = 1
  | 0, a, ha, _, _ => by omega
  | n + 1, a, ha, hf, hu => by
    rw [iv_ct]
    by_cases c : a = n
    · rw [iv_ct_0 n (fun q hq hq' => by have := hu q (by omega) hq'; omega), if_pos (by rw [← c]; exact hf)]
    · rw [iv_ct_1 n a (by omega) hf (fun q hq hq' => hu q (by omega) hq'), if_neg (fun z => c (hu n (by omega) z).symm)]
/- the first of its number -/
def iv_fst (L : Nat → Nat) (p : Nat) : Bool := decide (∀ q, q < p → L q ≠ L p)
theorem iv_fst_iff {L : Nat → Nat} {p : Nat} : iv_fst L p = true ↔ ∀ q, q < p → L q ≠ L p := by
  unfold iv_fst
  exact decide_eq_true_iff
theorem iv_fst_ex (L : Nat → Nat) (v : Nat) : ∀ N, (∃ c, c < N ∧ L c = v) → ∃ c, c < N ∧ L c = v ∧ ∀ q, q < c → L q ≠ v
  | 0, h => by
    obtain ⟨c, hc, _⟩ := h
    omega
  | n + 1, h => by
    by_cases z : ∃ c, c < n ∧ L c = v
    · obtain ⟨c, h1, h2, h3⟩ := iv_fst_ex L v n z
      exact ⟨c, by omega, h2, h3⟩
    · obtain ⟨c, hc, e⟩ := h
      have : c = n := by
        by_cases g : c < n
        · exact absurd ⟨c, g, e⟩ z
        · omega
      subst this
      exact ⟨c, hc, e, fun q hq e' => z ⟨q, hq, e'⟩⟩
theorem iv_rank {k : Nat} {L : Nat → Nat} {m : Nat} (h : iv_Can k L m) : ∀ x, x ≤ m → iv_ct (fun q => decide (L q < x) && iv_fst L q) (2 * k) = x
  | 0, _ => iv_ct_0 _ (fun q _ => by
      rw [Bool.and_eq_true, decide_eq_true_iff]
      omega)
  | x + 1, hx => by
    have ih := iv_rank h x (by omega)
    obtain ⟨c, hc, hv, hf⟩ := iv_fst_ex L x _ (h.2.2 x (by omega))
    have one : iv_ct (fun q => decide (L q = x) && iv_fst L q) (2 * k) = 1 := by
      refine iv_ct_1 _ c hc ?_ ?_
      · rw [Bool.and_eq_true, decide_eq_true_iff, iv_fst_iff]
        exact ⟨hv, fun q hq => by rw [hv]; exact hf q hq⟩
      · intro q _ hq'
        rw [Bool.and_eq_true, decide_eq_true_iff, iv_fst_iff] at hq'
        rcases Nat.lt_trichotomy q c with g | g | g
        · exact absurd hq'.1 (hf q g)
        · exact g
        · exact absurd (by rw [hv, hq'.1]) (hq'.2 c g)
    rw [iv_ct_add (g := fun q => decide (L q < x) && iv_fst L q) (h := fun q => decide (L q = x) && iv_fst L q) (2 * k) ?_, ih, one]
    intro q _
    simp only [Bool.and_eq_true, decide_eq_true_iff]
    constructor
    · constructor
      · rintro ⟨h1, h2⟩
        by_cases e : L q = x
        · exact Or.inr ⟨e, h2⟩
        · exact Or.inl ⟨by omega, h2⟩
      · rintro (⟨h1, h2⟩ | ⟨h1, h2⟩)
        · exact ⟨by omega, h2⟩
        · exact ⟨by omega, h2⟩
    · rintro ⟨⟨h1, _⟩, ⟨h2, _⟩⟩
      omega
theorem iv_total {k : Nat} {L : Nat → Nat} {m : Nat} (h : iv_Can k L m) : iv_ct (iv_fst L) (2 * k) = m := by
  refine Eq.trans ?_ (iv_rank h m (Nat.le_refl _))
  apply iv_ct_congr
  intro q hq
  rw [decide_eq_true (h.2.1 q hq), Bool.true_and]
end
section
def iv_g {α : Type} (f : Nat → List α) (U N : Nat) : List α := (List.range N).flatMap (fun s => if U.testBit s = true then f s else [])
theorem iv_g_0 {α : Type} (f : Nat → List α) (U : Nat) : iv_g f U 0 = [] := rfl
theorem iv_g_s {α : Type} (f : Nat → List α) (U n : Nat) : iv_g f U (n + 1) = iv_g f U n ++ (if U.testBit n = true then f n else []) := by
  unfold iv_g
  rw [List.range_succ, List.flatMap_append, List.flatMap_singleton]
theorem iv_g_nil {α : Type} (f : Nat → List α) {U : Nat} : ∀ N, (∀ s, s < N → U.testBit s = false) → iv_g f U N = []
  | 0, _ => rfl
  | n + 1, h => by
    rw [iv_g_s, iv_g_nil f n (fun s hs => h s (by omega)), h n (by omega)]
    rfl
def iv_kg (w : Nat → Nat) (U : Nat) : Nat → Nat
  | 0 => 0
  | n + 1 => iv_kg w U n + (if U.testBit n = true then w n else 0)
theorem iv_kg_nil (w : Nat → Nat) {U : Nat} : ∀ N, (∀ s, s < N → U.testBit s = false) → iv_kg w U N = 0
  | 0, _ => rfl
  | n + 1, h => by
    rw [iv_kg, iv_kg_nil w n (fun s hs => h s (by omega)), h n (by omega)]
    rfl
/- U' is U without its least member r -/
def iv_wo (U r U' : Nat) : Prop := U.testBit r = true ∧ (∀ s, s < r → U.testBit s = false) ∧ U'.testBit r = false ∧ ∀ s, s ≠ r → U'.testBit s = U.testBit s
theorem iv_g_wo {α : Type} (f : Nat → List α) {U r U' : Nat} (h : iv_wo U r U') : ∀ N, r < N → iv_g f U N = f r ++ iv_g f U' N
  | 0, hr => by omega
  | n + 1, hr => by
    rw [iv_g_s, iv_g_s]
    by_cases e : n = r
    · subst e
      rw [iv_g_nil f n h.2.1, iv_g_nil f n (fun s hs => by rw [h.2.2.2 s (by omega)]; exact h.2.1 s hs), h.1, h.2.2.1]
      simp
    · rw [iv_g_wo f h n (by omega), h.2.2.2 n e, List.append_assoc]
theorem iv_kg_wo (w : Nat → Nat) {U r U' : Nat} (h : iv_wo U r U') : ∀ N, r < N → iv_kg w U N = w r + iv_kg w U' N
  | 0, hr => by omega
  | n + 1, hr => by
    rw [iv_kg, iv_kg]
    by_cases e : n = r
    · subst e
      rw [iv_kg_nil w n h.2.1, iv_kg_nil w n (fun s hs => by rw [h.2.2.2 s (by omega)]; exact h.2.1 s hs), h.1, h.2.2.1]
      simp
    · rw [iv_kg_wo w h n (by omega), h.2.2.2 n e]
      omega
theorem iv_kg_le {w w' : Nat → Nat} {U V : Nat} : ∀ N, (∀ s, s < N → U.testBit s = true → V.testBit s = true ∧ w s ≤ w' s) → iv_kg w U N ≤ iv_kg w' V N
  | 0, _ => Nat.le_refl _
  | n + 1, h => by
    rw [iv_kg, iv_kg]
    have ih := iv_kg_le n (fun s hs => h s (by omega))
    have hn := h n (by omega)
    by_cases c : U.testBit n = true
    · rw [if_pos c, if_pos (hn c).1]
      have := (hn c).2
      omega
    · rw [if_neg c]
      omega
theorem iv_kg_mul (B U : Nat) : ∀ N, iv_kg (fun _ => B) U N = iv_kg (fun _ => 1) U N * B
  | 0 => by rw [iv_kg, iv_kg, Nat.zero_mul]
  | n + 1 => by
    rw [iv_kg, iv_kg, iv_kg_mul B U n, Nat.add_mul]
    split
    · rw [Nat.one_mul]
    · rw [Nat.zero_mul]
theorem iv_kg_ub (U : Nat) : ∀ N, iv_kg (fun _ => 1) U N ≤ N
  | 0 => Nat.le_refl _
  | n + 1 => by
    rw [iv_kg]
    have := iv_kg_ub U n
    split <;> omega
def iv_pc (U : Nat) : Nat := iv_kg (fun _ => 1) U 13
theorem iv_kg_pc {w : Nat → Nat} {U V B : Nat} (h : ∀ s, s < 13 → U.testBit s = true → V.testBit s = true ∧ w s ≤ B) : iv_kg w U 13 ≤ iv_pc V * B := by
  have h1 := iv_kg_le (w := w) (w' := fun _ => B) (U := U) (V := V) 13 h
  rw [iv_kg_mul] at h1
  exact h1
def iv_ko (A : iv_N) : List (Nat × Nat) → iv_N → Nat
  | [], _ => 0
  | p :: tl, R => 1 + iv_kg (fun r => 1 + iv_ko A tl (iv_set R p.1 p.2 r)) (iv_opn A R p.1 p.2) 13
def iv_kb : Nat → Nat
  | 0 => 0
  | l + 1 => 1 + 13 * (1 + iv_kb l)
theorem iv_ko_kb (A : iv_N) : ∀ (ps : List (Nat × Nat)) (R : iv_N), iv_ko A ps R ≤ iv_kb ps.length
  | [], R => Nat.le_refl _
  | p :: tl, R => by
    rw [iv_ko, List.length_cons, iv_kb]
    have h1 := iv_kg_pc (w := fun r => 1 + iv_ko A tl (iv_set R p.1 p.2 r)) (U := iv_opn A R p.1 p.2) (V := iv_opn A R p.1 p.2) (B := 1 + iv_kb tl.length)
      (fun s _ hs => ⟨hs, Nat.add_le_add_left (iv_ko_kb A tl _) 1⟩)
    have h2 : iv_pc (iv_opn A R p.1 p.2) * (1 + iv_kb tl.length) ≤ 13 * (1 + iv_kb tl.length) := Nat.mul_le_mul_right _ (iv_kg_ub _ 13)
    omega
theorem iv_opn_tb {A R : iv_N} {i j r : Nat} (hi : 0 < i) (h : (iv_opn A R i j).testBit r = true) : (iv_tb (R i 0) (R 0 j)).testBit r = true :=
  (iv_opn_bit.mp h).2 0 hi
theorem iv_all_bit : ∀ s, s < 13 → Nat.testBit 8191 s = true := by decide +kernel
theorem iv_b4 (A R : iv_N) : iv_ko A [(1, 3), (2, 3)] R ≤ 1 + iv_pc (iv_tb (R 1 0) (R 0 3)) * 15 := by
  rw [iv_ko]
  refine Nat.add_le_add_left (iv_kg_pc (fun s _ hs => ⟨iv_opn_tb (by decide) hs, ?_⟩)) 1
  have := iv_ko_kb A [(2, 3)] (iv_set R 1 3 s)
  have e : iv_kb [((2 : Nat), (3 : Nat))].length = 14 := rfl
  rw [e] at this
  exact Nat.add_le_add_left this 1
theorem iv_b3 (A R : iv_N) : iv_ko A [(1, 2), (1, 3), (2, 3)] R ≤ 1 + iv_pc (iv_tb (R 1 0) (R 0 2)) * (2 + iv_pc (iv_tb (R 1 0) (R 0 3)) * 15) := by
  rw [iv_ko]
  refine Nat.add_le_add_left (iv_kg_pc (fun s _ hs => ⟨iv_opn_tb (by decide) hs, ?_⟩)) 1
  have := iv_b4 A (iv_set R 1 2 s)
  rw [iv_set3 (by decide) (by decide), iv_set3 (by decide) (by decide)] at this
  show 1 + iv_ko A [(1, 3), (2, 3)] (iv_set R 1 2 s) ≤ _
  omega
def iv_c2f (x y : Nat) : Nat := 1 + iv_kg (fun r => 2 + iv_pc (iv_tb x y) * (2 + iv_pc (iv_tb x r) * 15)) 8191 13
def iv_c1f (x : Nat) : Nat := 1 + iv_kg (fun r => 1 + iv_c2f x r) 8191 13
def iv_c0f : Nat := 1 + iv_kg (fun r => 1 + iv_c1f (12 - r)) 8191 13
theorem iv_bd2 (A R : iv_N) : iv_ko A [(0, 3), (1, 2), (1, 3), (2, 3)] R ≤ iv_c2f (R 1 0) (R 0 2) := by
  rw [iv_ko]
  refine Nat.add_le_add_left (iv_kg_le 13 (fun s h13 hs => ⟨iv_all_bit s h13, ?_⟩)) 1
  have := iv_b3 A (iv_set R 0 3 s)
  rw [iv_set3 (by decide) (by decide), iv_set3 (by decide) (by decide), iv_set1] at this
  show 1 + iv_ko A [(1, 2), (1, 3), (2, 3)] (iv_set R 0 3 s) ≤ _
  omega
theorem iv_b1 (A R : iv_N) : iv_ko A [(0, 2), (0, 3), (1, 2), (1, 3), (2, 3)] R ≤ iv_c1f (R 1 0) := by
  rw [iv_ko]
  refine Nat.add_le_add_left (iv_kg_le 13 (fun s h13 hs => ⟨iv_all_bit s h13, ?_⟩)) 1
  have := iv_bd2 A (iv_set R 0 2 s)
  rw [iv_set3 (by decide) (by decide), iv_set1] at this
  exact Nat.add_le_add_left this 1
theorem iv_b0 (A R : iv_N) : iv_ko A [(0, 1), (0, 2), (0, 3), (1, 2), (1, 3), (2, 3)] R ≤ iv_c0f := by
  rw [iv_ko]
  refine Nat.add_le_add_left (iv_kg_le 13 (fun s h13 hs => ⟨iv_all_bit s h13, ?_⟩)) 1
  have := iv_b1 A (iv_set R 0 1 s)
  rw [iv_set2 (by decide)] at this
  exact Nat.add_le_add_left this 1
theorem iv_c0f_v : iv_c0f = 225468 := by decide +kernel
theorem iv_ko_n {n : Nat} (hn : iv_n n) (A R : iv_N) : iv_ko A (iv_ps n) R ≤ 225468 := by
  rcases hn with h | h | h <;> subst h
  · exact Nat.le_trans (iv_ko_kb A _ _) (by decide)
  · exact Nat.le_trans (iv_ko_kb A _ _) (by decide)
  · have := iv_b0 A R
    rw [iv_c0f_v] at this
    exact this
theorem iv_g_len {α : Type} {f : Nat → List α} {w : Nat → Nat} (h : ∀ s, (f s).length ≤ w s) (U : Nat) : ∀ N, (iv_g f U N).length ≤ iv_kg w U N
  | 0 => Nat.le_refl _
  | n + 1 => by
    rw [iv_g_s, iv_kg, List.length_append]
    have ih := iv_g_len h U n
    have := h n
    by_cases c : U.testBit n = true
    · rw [if_pos c, if_pos c]
      omega
    · rw [if_neg c, if_neg c, List.length_nil]
      omega
theorem iv_nets_g (A : iv_N) (p : Nat × Nat) (tl : List (Nat × Nat)) (R : iv_N) : iv_nets A (p :: tl) R = iv_g (fun r => iv_nets A tl (iv_set R p.1 p.2 r)) (iv_opn A R p.1 p.2) 13 := by
  rw [iv_nets]
  rfl
theorem iv_nets_len (A : iv_N) : ∀ (ps : List (Nat × Nat)) (R : iv_N), (iv_nets A ps R).length ≤ 1 + iv_ko A ps R
  | [], R => by
    rw [iv_nets, iv_ko]
    exact Nat.le_refl _
  | p :: tl, R => by
    rw [iv_nets_g, iv_ko]
    have := iv_g_len (f := fun r => iv_nets A tl (iv_set R p.1 p.2 r)) (w := fun r => 1 + iv_ko A tl (iv_set R p.1 p.2 r)) (fun s => iv_nets_len A tl _) (iv_opn A R p.1 p.2) 13
    omega
/- the frames of the search: a pair, the pairs behind it, what is chosen ahead of it, what is untried -/
abbrev iv_Fr : Type := (Nat × Nat) × List (Nat × Nat) × iv_N × Nat
def iv_rem (A : iv_N) : List iv_Fr → List iv_N
  | [] => []
  | f :: fs => iv_g (fun r => iv_nets A f.2.1 (iv_set f.2.2.1 f.1.1 f.1.2 r)) f.2.2.2 13 ++ iv_rem A fs
def iv_mu (A : iv_N) : List iv_Fr → Nat
  | [] => 0
  | f :: fs => 1 + iv_kg (fun r => 1 + iv_ko A f.2.1 (iv_set f.2.2.1 f.1.1 f.1.2 r)) f.2.2.2 13 + iv_mu A fs
theorem iv_rem_0 {A : iv_N} {p : Nat × Nat} {tl : List (Nat × Nat)} {R : iv_N} {fs : List iv_Fr} : iv_rem A ((p, tl, R, 0) :: fs) = iv_rem A fs := by
  rw [iv_rem, iv_g_nil _ 13 (fun s _ => Nat.zero_testBit s)]
  rfl
theorem iv_mu_0 {A : iv_N} {p : Nat × Nat} {tl : List (Nat × Nat)} {R : iv_N} {fs : List iv_Fr} : iv_mu A ((p, tl, R, 0) :: fs) = 1 + iv_mu A fs := by
  rw [iv_mu, iv_kg_nil _ 13 (fun s _ => Nat.zero_testBit s)]
theorem iv_rem_leaf {A : iv_N} {p : Nat × Nat} {R : iv_N} {U r U' : Nat} {fs : List iv_Fr} (h : iv_wo U r U') (hr : r < 13) :
    iv_rem A ((p, [], R, U) :: fs) = iv_set R p.1 p.2 r :: iv_rem A ((p, [], R, U') :: fs) := by
  rw [iv_rem, iv_rem]
  dsimp only
  rw [iv_g_wo _ h 13 hr, iv_nets]
  rfl
theorem iv_rem_in {A : iv_N} {p q : Nat × Nat} {tl : List (Nat × Nat)} {R : iv_N} {U r U' : Nat} {fs : List iv_Fr} (h : iv_wo U r U') (hr : r < 13) :
    iv_rem A ((p, q :: tl, R, U) :: fs) = iv_rem A ((q, tl, iv_set R p.1 p.2 r, iv_opn A (iv_set R p.1 p.2 r) q.1 q.2) :: (p, q :: tl, R, U') :: fs) := by
  rw [iv_rem, iv_rem, iv_rem]
  dsimp only
  rw [iv_g_wo _ h 13 hr, iv_nets_g, List.append_assoc]
theorem iv_mu_leaf {A : iv_N} {p : Nat × Nat} {R : iv_N} {U r U' : Nat} {fs : List iv_Fr} (h : iv_wo U r U') (hr : r < 13) :
    iv_mu A ((p, [], R, U) :: fs) = 1 + iv_mu A ((p, [], R, U') :: fs) := by
  rw [iv_mu, iv_mu]
  dsimp only
  rw [iv_kg_wo _ h 13 hr, iv_ko]
  omega
theorem iv_mu_in {A : iv_N} {p q : Nat × Nat} {tl : List (Nat × Nat)} {R : iv_N} {U r U' : Nat} {fs : List iv_Fr} (h : iv_wo U r U') (hr : r < 13) :
    iv_mu A ((p, q :: tl, R, U) :: fs) = 1 + iv_mu A ((q, tl, iv_set R p.1 p.2 r, iv_opn A (iv_set R p.1 p.2 r) q.1 q.2) :: (p, q :: tl, R, U') :: fs) := by
  rw [iv_mu, iv_mu, iv_mu]
  dsimp only
  rw [iv_kg_wo _ h 13 hr, iv_ko]
  omega
end
section
def iv_up (A : iv_N) (i j v : Nat) : iv_N := fun x y => if x = i ∧ y = j then v else A x y
theorem iv_sing {B R : iv_N} {p : Nat × Nat} {tl : List (Nat × Nat)} {r : Nat} (hr : r < 13) (h : ∀ s, (B p.1 p.2).testBit s = true → s = r) :
    iv_nets B (p :: tl) R = if (iv_opn B R p.1 p.2).testBit r = true then iv_nets B tl (iv_set R p.1 p.2 r) else [] := by
  rw [iv_nets_g]
  have hf : ∀ s, s ≠ r → (iv_opn B R p.1 p.2).testBit s = false := by
    intro s hs
    cases e : (iv_opn B R p.1 p.2).testBit s
    · rfl
    · exact absurd (h s (iv_opn_bit.mp e).1) hs
  by_cases c : (iv_opn B R p.1 p.2).testBit r = true
  · rw [if_pos c, iv_g_wo _ (U' := 0) (r := r) ⟨c, fun s hs => hf s (by omega), Nat.zero_testBit r, fun s hs => by rw [hf s hs]; exact Nat.zero_testBit s⟩ 13 hr,
      iv_g_nil _ 13 (fun s _ => Nat.zero_testBit s), List.append_nil]
  · rw [if_neg c]
    refine iv_g_nil _ 13 (fun s _ => ?_)
    by_cases e : s = r
    · rw [e]
      exact Bool.eq_false_iff.mpr c
    · exact hf s e
theorem iv_g_pre {α : Type} (f : Nat → List α) (U : Nat) {a i : Nat} (hi : i < (iv_g f U a).length) : ∀ N, a ≤ N → (iv_g f U N)[i]? = (iv_g f U a)[i]?
  | 0, h => by rw [show a = 0 by omega]
  | n + 1, h => by
    by_cases e : a = n + 1
    · rw [e]
    · have ih := iv_g_pre f U hi n (by omega)
      have hl : i < (iv_g f U n).length := by
        rw [List.getElem?_eq_getElem hi] at ih
        exact (List.getElem?_eq_some_iff.mp ih).1
      rw [iv_g_s, List.getElem?_append_left hl, ih]
theorem iv_pick {α : Type} (f : Nat → List α) {U r N i : Nat} (hr : r < N) (h1 : (iv_g f U r).length ≤ i) (h2 : i < (iv_g f U (r + 1)).length) :
    (iv_g f U N)[i]? = (if U.testBit r = true then f r else [])[i - (iv_g f U r).length]? := by
  rw [iv_g_pre f U h2 N hr, iv_g_s, List.getElem?_append_right h1]
/- all pairs ahead of qs are single: what is left are the networks behind R -/
def iv_col (n : Nat) (B : iv_N) (qs : List (Nat × Nat)) (R : iv_N) : Prop :=
  ∀ B', (∀ p, p ∈ iv_ps n → p ∉ qs → B' p.1 p.2 = B p.1 p.2) → iv_nets B' (iv_ps n) iv_R0 = iv_nets B' qs R
theorem iv_col_0 (n : Nat) (B : iv_N) : iv_col n B (iv_ps n) iv_R0 := fun _ _ => rfl
theorem iv_col_s {n : Nat} {B B1 : iv_N} {p : Nat × Nat} {tl : List (Nat × Nat)} {R : iv_N} {r : Nat} (ho : iv_ord (p :: tl)) (hc : iv_col n B (p :: tl) R) (hp : p ∈ iv_ps n) (hr : r < 13)
    (h1 : ∀ s, (B1 p.1 p.2).testBit s = true ↔ ((B p.1 p.2).testBit s = true ∧ s = r)) (h2 : ∀ q, q ∈ iv_ps n → q ≠ p → B1 q.1 q.2 = B q.1 q.2)
    (hb : (iv_opn B R p.1 p.2).testBit r = true) : iv_col n B1 tl (iv_set R p.1 p.2 r) := by
  intro B' h
  have hnp : p ∉ tl := by
    intro z
    exact (iv_ord_q ho z).2.1 ⟨rfl, rfl⟩
  have e1 : B' p.1 p.2 = B1 p.1 p.2 := h p hp hnp
  rw [hc B' (fun q hq hn => ?_)]
  · rw [iv_sing hr (fun s hs => by rw [e1] at hs; exact ((h1 s).mp hs).2), if_pos]
    have hb := iv_opn_bit.mp hb
    exact iv_opn_bit.mpr ⟨by rw [e1]; exact (h1 r).mpr ⟨hb.1, rfl⟩, hb.2⟩
  · have hqp : q ≠ p := fun e => hn (by rw [e]; exact List.mem_cons_self)
    rw [h q hq (fun z => hn (List.mem_cons_of_mem _ z)), h2 q hq hqp]
/- the number of those with r at p -/
theorem iv_col_len {n : Nat} {B B1 : iv_N} {p : Nat × Nat} {tl : List (Nat × Nat)} {R : iv_N} {r : Nat} (ho : iv_ord (p :: tl)) (hs : ∀ q, q ∈ p :: tl → q ∈ iv_ps n) (hc : iv_col n B (p :: tl) R) (hr : r < 13)
    (h1 : ∀ s, (B1 p.1 p.2).testBit s = true ↔ ((B p.1 p.2).testBit s = true ∧ s = r)) (h2 : ∀ q, q ∈ iv_ps n → q ≠ p → B1 q.1 q.2 = B q.1 q.2) :
    iv_nets B1 (iv_ps n) iv_R0 = if (iv_opn B R p.1 p.2).testBit r = true then iv_nets B tl (iv_set R p.1 p.2 r) else [] := by
  have hnp : p ∉ tl := by
    intro z
    exact (iv_ord_q ho z).2.1 ⟨rfl, rfl⟩
  rw [hc B1 (fun q hq hn => h2 q hq (fun e => hn (by rw [e]; exact List.mem_cons_self))), iv_sing hr (fun s hs => ((h1 s).mp hs).2)]
  have e : (iv_opn B1 R p.1 p.2).testBit r = (iv_opn B R p.1 p.2).testBit r := by
    rw [Bool.eq_iff_iff, iv_opn_bit, iv_opn_bit, h1 r]
    exact ⟨fun h => ⟨h.1.1, h.2⟩, fun h => ⟨⟨h.1, rfl⟩, h.2⟩⟩
  rw [e, iv_nets_congr tl _ (fun q hq => h2 q (hs q (List.mem_cons_of_mem _ hq)) (fun z => hnp (by rw [← z]; exact hq)))]
/- the pairs from a cell on -/
def iv_pf (n c : Nat) : List (Nat × Nat) := (iv_ps n).filter (fun p => decide (c ≤ 4 * p.1 + p.2))
theorem iv_pf_in2 : ∀ c, c < 16 → (c / 4 < c % 4 ∧ c % 4 < 2) → iv_pf 2 c = (c / 4, c % 4) :: iv_pf 2 (c + 1) := by decide
theorem iv_pf_out2 : ∀ c, c < 16 → ¬ (c / 4 < c % 4 ∧ c % 4 < 2) → iv_pf 2 c = iv_pf 2 (c + 1) := by decide
theorem iv_pf_in3 : ∀ c, c < 16 → (c / 4 < c % 4 ∧ c % 4 < 3) → iv_pf 3 c = (c / 4, c % 4) :: iv_pf 3 (c + 1) := by decide
theorem iv_pf_out3 : ∀ c, c < 16 → ¬ (c / 4 < c % 4 ∧ c % 4 < 3) → iv_pf 3 c = iv_pf 3 (c + 1) := by decide
theorem iv_pf_in4 : ∀ c, c < 16 → (c / 4 < c % 4 ∧ c % 4 < 4) → iv_pf 4 c = (c / 4, c % 4) :: iv_pf 4 (c + 1) := by decide
theorem iv_pf_out4 : ∀ c, c < 16 → ¬ (c / 4 < c % 4 ∧ c % 4 < 4) → iv_pf 4 c = iv_pf 4 (c + 1) := by decide
theorem iv_pf_in {n c : Nat} (hn : iv_n n) (hc : c < 16) (h : c / 4 < c % 4 ∧ c % 4 < n) : iv_pf n c = (c / 4, c % 4) :: iv_pf n (c + 1) := by
  rcases hn with e | e | e <;> subst e
  · exact iv_pf_in2 c hc h
  · exact iv_pf_in3 c hc h
  · exact iv_pf_in4 c hc h
theorem iv_pf_out {n c : Nat} (hn : iv_n n) (hc : c < 16) (h : ¬ (c / 4 < c % 4 ∧ c % 4 < n)) : iv_pf n c = iv_pf n (c + 1) := by
  rcases hn with e | e | e <;> subst e
  · exact iv_pf_out2 c hc h
  · exact iv_pf_out3 c hc h
  · exact iv_pf_out4 c hc h
theorem iv_pf_0 {n : Nat} (hn : iv_n n) : iv_pf n 0 = iv_ps n ∧ iv_pf n 16 = [] := by
  rcases hn with e | e | e <;> subst e <;> decide
/- the most of a row -/
def iv_mx (g : Nat → Nat) : Nat → Nat
  | 0 => 0
  | n + 1 => if iv_mx g n < g n then g n else iv_mx g n
theorem iv_mx_le {g : Nat → Nat} {B : Nat} : ∀ N, iv_mx g N ≤ B ↔ ∀ i, i < N → g i ≤ B
  | 0 => ⟨fun _ i hi => absurd hi (Nat.not_lt_zero _), fun _ => Nat.zero_le _⟩
  | n + 1 => by
    have ih := iv_mx_le (g := g) (B := B) n
    rw [iv_mx]
    constructor
    · intro h i hi
      by_cases e : i = n
      · subst e
        split at h <;> omega
      · refine ih.mp ?_ i (by omega)
        split at h <;> omega
    · intro h
      have h1 := ih.mpr (fun i hi => h i (by omega))
      have h2 := h n (by omega)
      split <;> omega
theorem iv_mx_congr {g g' : Nat → Nat} : ∀ N, (∀ i, i < N → g i = g' i) → iv_mx g N = iv_mx g' N
  | 0, _ => rfl
  | n + 1, h => by rw [iv_mx, iv_mx, iv_mx_congr n (fun i hi => h i (by omega)), h n (by omega)]
theorem iv_top (P : Nat → Prop) (g : Nat → Nat) : ∀ n, (∃ i, i < n ∧ P i) → ∃ i, i < n ∧ P i ∧ ∀ j, j < n → P j → g j ≤ g i
  | 0, h => by
    obtain ⟨i, hi, _⟩ := h
    omega
  | n + 1, h => by
    by_cases z : ∃ i, i < n ∧ P i
    · obtain ⟨i, h1, h2, h3⟩ := iv_top P g n z
      by_cases c : P n ∧ g i < g n
      · refine ⟨n, by omega, c.1, fun j hj hP => ?_⟩
        by_cases e : j = n
        · rw [e]
          exact Nat.le_refl _
        · have := h3 j (by omega) hP
          omega
      · refine ⟨i, by omega, h2, fun j hj hP => ?_⟩
        by_cases e : j = n
        · subst e
          by_cases g' : g i < g j
          · exact absurd ⟨hP, g'⟩ c
          · omega
        · exact h3 j (by omega) hP
    · obtain ⟨i, hi, hP⟩ := h
      have e : i = n := by
        by_cases g' : i < n
        · exact absurd ⟨i, g', hP⟩ z
        · omega
      subst e
      refine ⟨i, hi, hP, fun j hj hPj => ?_⟩
      by_cases e : j = i
      · rw [e]
        exact Nat.le_refl _
      · exact absurd ⟨j, by omega, hPj⟩ z
def iv_cv (n : Nat) (L : Nat → Nat) (t : Nat) : Nat := iv_ct (fun j => decide (L (2 * j) ≤ t) && decide (t < L (2 * j + 1))) n
theorem iv_can_m {k : Nat} {L : Nat → Nat} {m : Nat} (h : iv_Can k L m) : m ≤ 2 * k := by
  rw [← iv_total h]
  exact iv_ct_ub _ _
theorem iv_crowd {n : Nat} {L : Nat → Nat} {m : Nat} (h : iv_Can n L m) (hn : n ≤ 4) : iv_mx (fun i => iv_cv n L (L (2 * i))) n = iv_mx (iv_cv n L) 8 := by
  have hm := iv_can_m h
  apply Nat.le_antisymm
  · rw [iv_mx_le]
    intro i hi
    have h1 := (iv_mx_le (g := iv_cv n L) (B := iv_mx (iv_cv n L) 8) 8).mp (Nat.le_refl _)
    have h2 := h.2.1 (2 * i) (by omega)
    exact h1 (L (2 * i)) (by omega)
  · rw [iv_mx_le]
    intro t _
    by_cases z : ∃ i, i < n ∧ (L (2 * i) ≤ t ∧ t < L (2 * i + 1))
    · obtain ⟨i, hi, hP, ht⟩ := iv_top (fun i => L (2 * i) ≤ t ∧ t < L (2 * i + 1)) (fun i => L (2 * i)) n z
      have h1 := (iv_mx_le (g := fun i => iv_cv n L (L (2 * i))) (B := iv_mx (fun i => iv_cv n L (L (2 * i))) n) n).mp (Nat.le_refl _) i hi
      refine Nat.le_trans ?_ h1
      refine iv_ct_le n (fun j hj hj' => ?_)
      rw [Bool.and_eq_true, decide_eq_true_iff, decide_eq_true_iff] at hj'
      have h2 := ht j hj hj'
      rw [Bool.and_eq_true, decide_eq_true_iff, decide_eq_true_iff]
      exact ⟨h2, by omega⟩
    · have : iv_cv n L t = 0 := iv_ct_0 n (fun j hj hj' => by
        rw [Bool.and_eq_true, decide_eq_true_iff, decide_eq_true_iff] at hj'
        exact z ⟨j, hj, hj'⟩)
      omega
end
section
def iv_h {α : Type} (f : Nat → List α) (t e : Nat) : List α := (List.range' t (e - t)).flatMap f
theorem iv_h_nil {α : Type} (f : Nat → List α) {t e : Nat} (h : e ≤ t) : iv_h f t e = [] := by
  unfold iv_h
  rw [show e - t = 0 by omega]
  rfl
theorem iv_h_cons {α : Type} (f : Nat → List α) {t e : Nat} (h : t < e) : iv_h f t e = f t ++ iv_h f (t + 1) e := by
  unfold iv_h
  rw [show e - t = (e - (t + 1)) + 1 by omega, List.range'_succ, List.flatMap_cons]
def iv_ch (A : iv_N) (d k : Nat) (L : Nat → Nat) (m t : Nat) : List ((Nat → Nat) × Nat) :=
  if iv_go A k L m t = true then
    iv_lv A d (k + 1) (iv_ex k L (t / (2 * m + 1)) (t % (2 * m + 1))) (m + iv_f (t / (2 * m + 1)) + iv_f (t % (2 * m + 1)))
  else []
theorem iv_lv_h (A : iv_N) (d k : Nat) (L : Nat → Nat) (m : Nat) : iv_lv A (d + 1) k L m = iv_h (iv_ch A d k L m) 0 ((2 * m + 1) * (2 * m + 1)) := by
  rw [iv_lv]
  unfold iv_h
  rw [Nat.sub_zero, ← List.range_eq_range']
  rfl
/- the frames of the reference's walk: d levels behind the next one, the level, its layout and points, the next to try -/
abbrev iv_Gr : Type := Nat × Nat × (Nat → Nat) × Nat × Nat
def iv_yr (A : iv_N) : List iv_Gr → List ((Nat → Nat) × Nat)
  | [] => []
  | f :: fs => iv_h (iv_ch A f.1 f.2.1 f.2.2.1 f.2.2.2.1) f.2.2.2.2 ((2 * f.2.2.2.1 + 1) * (2 * f.2.2.2.1 + 1)) ++ iv_yr A fs
theorem iv_yr_end {A : iv_N} {d k : Nat} {L : Nat → Nat} {m t : Nat} {fs : List iv_Gr} (h : (2 * m + 1) * (2 * m + 1) ≤ t) : iv_yr A ((d, k, L, m, t) :: fs) = iv_yr A fs := by
  rw [iv_yr]
  dsimp only
  rw [iv_h_nil _ h]
  rfl
theorem iv_yr_no {A : iv_N} {d k : Nat} {L : Nat → Nat} {m t : Nat} {fs : List iv_Gr} (h : t < (2 * m + 1) * (2 * m + 1)) (hg : ¬ iv_go A k L m t = true) :
    iv_yr A ((d, k, L, m, t) :: fs) = iv_yr A ((d, k, L, m, t + 1) :: fs) := by
  rw [iv_yr, iv_yr]
  dsimp only
  rw [iv_h_cons _ h]
  unfold iv_ch
  rw [if_neg hg]
  rfl
theorem iv_yr_leaf {A : iv_N} {k : Nat} {L : Nat → Nat} {m t : Nat} {fs : List iv_Gr} (h : t < (2 * m + 1) * (2 * m + 1)) (hg : iv_go A k L m t = true) :
    iv_yr A ((0, k, L, m, t) :: fs) = (iv_ex k L (t / (2 * m + 1)) (t % (2 * m + 1)), m + iv_f (t / (2 * m + 1)) + iv_f (t % (2 * m + 1))) :: iv_yr A ((0, k, L, m, t + 1) :: fs) := by
  rw [iv_yr, iv_yr]
  dsimp only
  rw [iv_h_cons _ h]
  have e : iv_ch A 0 k L m t = [(iv_ex k L (t / (2 * m + 1)) (t % (2 * m + 1)), m + iv_f (t / (2 * m + 1)) + iv_f (t % (2 * m + 1)))] := by
    unfold iv_ch
    rw [if_pos hg, iv_lv]
  rw [e]
  rfl
theorem iv_yr_in {A : iv_N} {d k : Nat} {L : Nat → Nat} {m t : Nat} {fs : List iv_Gr} (h : t < (2 * m + 1) * (2 * m + 1)) (hg : iv_go A k L m t = true) :
    iv_yr A ((d + 1, k, L, m, t) :: fs) = iv_yr A ((d, k + 1, iv_ex k L (t / (2 * m + 1)) (t % (2 * m + 1)), m + iv_f (t / (2 * m + 1)) + iv_f (t % (2 * m + 1)), 0) :: (d + 1, k, L, m, t + 1) :: fs) := by
  rw [iv_yr, iv_yr, iv_yr]
  dsimp only
  rw [iv_h_cons _ h]
  have e : iv_ch A (d + 1) k L m t = iv_h (iv_ch A d (k + 1) (iv_ex k L (t / (2 * m + 1)) (t % (2 * m + 1))) (m + iv_f (t / (2 * m + 1)) + iv_f (t % (2 * m + 1)))) 0
      ((2 * (m + iv_f (t / (2 * m + 1)) + iv_f (t % (2 * m + 1))) + 1) * (2 * (m + iv_f (t / (2 * m + 1)) + iv_f (t % (2 * m + 1))) + 1)) := by
    unfold iv_ch
    rw [if_pos hg, iv_lv_h]
    rfl
  rw [e, List.append_assoc]
/- the turns that the walk still takes, at most -/
def iv_vc (P t : Nat) : Nat := iv_ct (fun s => iv_v (s / P) (s % P)) t
theorem iv_vc_le {P t u : Nat} (h : t ≤ u) : iv_vc P t ≤ iv_vc P u := by
  obtain ⟨e, rfl⟩ : ∃ e, u = t + e := ⟨u - t, by omega⟩
  induction e with
  | zero => exact Nat.le_refl _
  | succ e ih =>
    refine Nat.le_trans (ih (by omega)) ?_
    show _ ≤ iv_ct _ (t + e + 1)
    rw [iv_ct]
    exact Nat.le_add_right _ _
def iv_be3 : Nat → Nat
  | 0 => 1
  | 1 => 255
  | 2 => 10537
  | _ => 137007
def iv_ym (f : iv_Gr) : Nat := 1 + ((2 * f.2.2.2.1 + 1) * (2 * f.2.2.2.1 + 1) - f.2.2.2.2) + (iv_vc (2 * f.2.2.2.1 + 1) ((2 * f.2.2.2.1 + 1) * (2 * f.2.2.2.1 + 1)) - iv_vc (2 * f.2.2.2.1 + 1) f.2.2.2.2) * iv_be3 f.1
def iv_yms : List iv_Gr → Nat
  | [] => 0
  | f :: fs => iv_ym f + iv_yms fs
theorem iv_ym_new1 : ∀ m, m < 7 → 1 + ((2 * m + 1) * (2 * m + 1) - 0) + (iv_vc (2 * m + 1) ((2 * m + 1) * (2 * m + 1)) - iv_vc (2 * m + 1) 0) * 1 ≤ 255 := by decide +kernel
theorem iv_ym_new2 : ∀ m, m < 5 → 1 + ((2 * m + 1) * (2 * m + 1) - 0) + (iv_vc (2 * m + 1) ((2 * m + 1) * (2 * m + 1)) - iv_vc (2 * m + 1) 0) * 255 ≤ 10537 := by decide +kernel
theorem iv_ym_new3 : ∀ m, m < 3 → 1 + ((2 * m + 1) * (2 * m + 1) - 0) + (iv_vc (2 * m + 1) ((2 * m + 1) * (2 * m + 1)) - iv_vc (2 * m + 1) 0) * 10537 ≤ 137007 := by decide +kernel
theorem iv_ym_new {d k : Nat} {L : Nat → Nat} {m : Nat} (hd : d < 3) (hm : m ≤ 2 * (3 - d)) : iv_ym (d, k, L, m, 0) ≤ iv_be3 (d + 1) := by
  unfold iv_ym
  dsimp only
  match d, hd, hm with
  | 0, _, hm => exact iv_ym_new1 m (by omega)
  | 1, _, hm => exact iv_ym_new2 m (by omega)
  | 2, _, hm => exact iv_ym_new3 m (by omega)
theorem iv_ym_no {d k : Nat} {L : Nat → Nat} {m t : Nat} (h : t < (2 * m + 1) * (2 * m + 1)) : iv_ym (d, k, L, m, t + 1) + 1 ≤ iv_ym (d, k, L, m, t) := by
  unfold iv_ym
  dsimp only
  have h1 : iv_vc (2 * m + 1) t ≤ iv_vc (2 * m + 1) (t + 1) := iv_vc_le (by omega)
  have h2 := Nat.mul_le_mul_right (iv_be3 d) (show iv_vc (2 * m + 1) ((2 * m + 1) * (2 * m + 1)) - iv_vc (2 * m + 1) (t + 1) ≤ iv_vc (2 * m + 1) ((2 * m + 1) * (2 * m + 1)) - iv_vc (2 * m + 1) t by omega)
  omega
theorem iv_ym_yes {d k : Nat} {L : Nat → Nat} {m t : Nat} (h : t < (2 * m + 1) * (2 * m + 1)) (hv : iv_v (t / (2 * m + 1)) (t % (2 * m + 1)) = true) :
    iv_ym (d, k, L, m, t + 1) + 1 + iv_be3 d ≤ iv_ym (d, k, L, m, t) := by
  unfold iv_ym
  dsimp only
  have h1 : iv_vc (2 * m + 1) (t + 1) = iv_vc (2 * m + 1) t + 1 := by
    show iv_ct _ (t + 1) = _
    rw [iv_ct, if_pos hv]
    rfl
  have h2 : iv_vc (2 * m + 1) (t + 1) ≤ iv_vc (2 * m + 1) ((2 * m + 1) * (2 * m + 1)) := iv_vc_le (by omega)
  have h3 : iv_vc (2 * m + 1) ((2 * m + 1) * (2 * m + 1)) - iv_vc (2 * m + 1) t = iv_vc (2 * m + 1) ((2 * m + 1) * (2 * m + 1)) - iv_vc (2 * m + 1) (t + 1) + 1 := by omega
  have h4 := Nat.add_mul (iv_vc (2 * m + 1) ((2 * m + 1) * (2 * m + 1)) - iv_vc (2 * m + 1) (t + 1)) 1 (iv_be3 d)
  rw [h3, h4, Nat.one_mul]
  omega
end
section
def iv_sz (U : Nat) : Nat → Nat
  | 0 => 0
  | r + 1 => iv_sz U r + iv_b U r
theorem iv_sz_le (U : Nat) : ∀ r, iv_sz U r ≤ r
  | 0 => Nat.le_refl _
  | r + 1 => by
    have h1 := iv_sz_le U r
    have h2 := iv_b2 U r
    rw [iv_sz]
    omega
def iv_mi (U : Nat) : Nat → Nat
  | 0 => 0
  | r + 1 => iv_mi U r ||| (iv_b U r * 2 ^ (12 - r))
theorem iv_mi_lt (U : Nat) : ∀ r, iv_mi U r < 2 ^ 13
  | 0 => (by decide : 0 < 2 ^ 13)
  | r + 1 => by
    rw [iv_mi]
    refine Nat.or_lt_two_pow (iv_mi_lt U r) ?_
    have h1 := iv_b2 U r
    have h2 : 2 ^ (12 - r) ≤ 2 ^ 12 := Nat.pow_le_pow_right (by decide) (by omega)
    have h3 : iv_b U r * 2 ^ (12 - r) ≤ 1 * 2 ^ 12 := Nat.mul_le_mul (by omega) h2
    omega
def iv_cc (a b r acc : Nat) : Nat → Nat
  | 0 => acc
  | s + 1 => if iv_b a r = 1 ∧ iv_b b s = 1 then iv_cc a b r acc s ||| iv_tb r s else iv_cc a b r acc s
def iv_co (a b : Nat) : Nat → Nat
  | 0 => 0
  | r + 1 => iv_cc a b r (iv_co a b r) 13
theorem iv_b_1 (U r : Nat) : iv_b U r = 1 ↔ U.testBit r = true := by
  rw [iv_b_t]
  by_cases h : U.testBit r = true
  · rw [if_pos h]
    exact ⟨fun _ => h, fun _ => rfl⟩
  · rw [if_neg h]
    exact ⟨fun z => absurd z (by decide), fun z => absurd z h⟩
theorem iv_tb_lt (r s : Nat) : iv_tb r s < 2 ^ 13 := Nat.mod_lt _ (by decide)
theorem iv_cc_lt (a b r acc : Nat) (h : acc < 2 ^ 13) : ∀ N, iv_cc a b r acc N < 2 ^ 13
  | 0 => h
  | s + 1 => by
    rw [iv_cc]
    split
    · exact Nat.or_lt_two_pow (iv_cc_lt a b r acc h s) (iv_tb_lt r s)
    · exact iv_cc_lt a b r acc h s
theorem iv_co_lt (a b : Nat) : ∀ N, iv_co a b N < 2 ^ 13
  | 0 => (by decide : 0 < 2 ^ 13)
  | r + 1 => iv_cc_lt a b r _ (iv_co_lt a b r) 13
theorem iv_cc_bit (a b r acc t : Nat) : ∀ N, (iv_cc a b r acc N).testBit t = true ↔ (acc.testBit t = true ∨ (a.testBit r = true ∧ ∃ s, s < N ∧ b.testBit s = true ∧ iv_T r s t = true))
  | 0 => by
    rw [iv_cc]
    exact ⟨Or.inl, fun h => h.elim id (fun ⟨_, s, hs, _⟩ => absurd hs (Nat.not_lt_zero _))⟩
  | n + 1 => by
    have ih := iv_cc_bit a b r acc t n
    rw [iv_cc]
    by_cases c : iv_b a r = 1 ∧ iv_b b n = 1
    · rw [if_pos c, Nat.testBit_or, Bool.or_eq_true, ih]
      have c1 := (iv_b_1 a r).mp c.1
      have c2 := (iv_b_1 b n).mp c.2
      constructor
      · rintro ((h | ⟨h1, s, h2, h3⟩) | h)
        · exact Or.inl h
        · exact Or.inr ⟨h1, s, by omega, h3⟩
        · exact Or.inr ⟨c1, n, by omega, c2, h⟩
      · rintro (h | ⟨h1, s, h2, h3, h4⟩)
        · exact Or.inl (Or.inl h)
        · by_cases e : s = n
          · subst e
            exact Or.inr h4
          · exact Or.inl (Or.inr ⟨h1, s, by omega, h3, h4⟩)
    · rw [if_neg c, ih]
      constructor
      · rintro (h | ⟨h1, s, h2, h3⟩)
        · exact Or.inl h
        · exact Or.inr ⟨h1, s, by omega, h3⟩
      · rintro (h | ⟨h1, s, h2, h3, h4⟩)
        · exact Or.inl h
        · by_cases e : s = n
          · subst e
            exact absurd ⟨(iv_b_1 a r).mpr h1, (iv_b_1 b s).mpr h3⟩ c
          · exact Or.inr ⟨h1, s, by omega, h3, h4⟩
theorem iv_co_bit (a b t : Nat) : ∀ N, (iv_co a b N).testBit t = true ↔ ∃ r, r < N ∧ a.testBit r = true ∧ ∃ s, s < 13 ∧ b.testBit s = true ∧ iv_T r s t = true
  | 0 => by
    rw [iv_co, Nat.zero_testBit]
    exact ⟨fun h => absurd h (by decide), fun ⟨_, h, _⟩ => absurd h (Nat.not_lt_zero _)⟩
  | n + 1 => by
    rw [iv_co, iv_cc_bit, iv_co_bit a b t n]
    constructor
    · rintro (⟨r, h1, h2⟩ | ⟨h1, h2⟩)
      · exact ⟨r, by omega, h2⟩
      · exact ⟨n, by omega, h1, h2⟩
    · rintro ⟨r, h1, h2, h3⟩
      by_cases e : r = n
      · subst e
        exact Or.inr ⟨h2, h3⟩
      · exact Or.inl ⟨r, by omega, h2, h3⟩
theorem iv_T_13 {r s t : Nat} (h : iv_T r s t = true) : t < 13 := by
  by_cases c : t < 13
  · exact c
  · have h1 : (iv_tb r s).testBit t = false := Nat.testBit_lt_two_pow (Nat.lt_of_lt_of_le (iv_tb_lt r s) (Nat.pow_le_pow_right (by decide) (by omega)))
    unfold iv_T at h
    rw [h1] at h
    exact absurd h (by decide)
theorem iv_comp {A : iv_N} {a b : Nat} (h01 : A 0 1 = a) (h12 : A 1 2 = b) (h02 : A 0 2 = 8191) :
    iv_or ((iv_leaves 3 A).map (fun x => iv_rl x.1 0 2)) = iv_co a b 13 := by
  apply Nat.eq_of_testBit_eq
  intro t
  rw [Bool.eq_iff_iff, iv_or_bit, iv_co_bit, List.mem_map]
  constructor
  · rintro ⟨x, hx, e⟩
    obtain ⟨hc, hb⟩ := iv_leaf_can (by decide) hx
    have hg := iv_rl_good hc.1
    have b01 := hb 0 1 (by decide) (by decide)
    have b12 := hb 1 2 (by decide) (by decide)
    rw [h01] at b01
    rw [h12] at b12
    refine ⟨iv_rl x.1 0 1, iv_rel_lt _ _ _ _, b01, iv_rl x.1 1 2, iv_rel_lt _ _ _ _, b12, ?_⟩
    rw [iv_T_ok (iv_rl x.1 0 1) (iv_rel_lt _ _ _ _) (iv_rl x.1 1 2) (iv_rel_lt _ _ _ _) t (by rw [← e]; exact iv_rel_lt _ _ _ _), ← e]
    exact hg.2.2 0 1 2 (by decide) (by decide) (by decide)
  · rintro ⟨r, hr, ha, s, hs, hb, hT⟩
    have ht := iv_T_13 hT
    have hN : iv_set (iv_set (iv_set iv_R0 0 1 r) 0 2 t) 1 2 s ∈ iv_nets A (iv_ps 3) iv_R0 := by
      show _ ∈ iv_nets A [(0, 1), (0, 2), (1, 2)] iv_R0
      rw [iv_nets, List.mem_flatMap]
      refine ⟨r, List.mem_range.mpr hr, ?_⟩
      rw [if_pos (iv_opn_bit.mpr ⟨by rw [h01]; exact ha, fun m hm => absurd hm (Nat.not_lt_zero _)⟩), iv_nets, List.mem_flatMap]
      refine ⟨t, List.mem_range.mpr ht, ?_⟩
      rw [if_pos (iv_opn_bit.mpr ⟨by rw [h02]; exact iv_all_bit t ht, fun m hm => absurd hm (Nat.not_lt_zero _)⟩), iv_nets, List.mem_flatMap]
      refine ⟨s, List.mem_range.mpr hs, ?_⟩
      rw [if_pos (iv_opn_bit.mpr ⟨by rw [h12]; exact hb, fun m hm => ?_⟩), iv_nets]
      · exact List.mem_singleton.mpr rfl
      · have hm : m = 0 := by
          have : m < 1 := hm
          omega
        subst hm
        have e1 : iv_set (iv_set iv_R0 0 1 r) 0 2 t 1 0 = 12 - r := by
          rw [iv_set3 (by decide) (by decide)]
          exact iv_set2 (by decide)
        have e2 : iv_set (iv_set iv_R0 0 1 r) 0 2 t 0 2 = t := iv_set1
        show iv_T (iv_set (iv_set iv_R0 0 1 r) 0 2 t 1 0) (iv_set (iv_set iv_R0 0 1 r) 0 2 t 0 2) s = true
        rw [e1, e2, iv_T_ok _ (by omega) _ ht _ hs, ← iv_sw12 r hr s hs t ht, ← iv_T_ok r hr s hs t ht]
        exact hT
    obtain ⟨x, hx, e⟩ := (iv_same (Or.inr (Or.inl rfl)) _).mp hN
    refine ⟨x, hx, ?_⟩
    rw [← iv_nt_in (n := 3) (L := x.1) (x := 0) (y := 2) (by decide) (by decide), e, iv_set3 (by decide) (by decide)]
    exact iv_set1
end
section
def iv_it {σ : Type} (F : Nat → σ → σ) : Nat → σ → σ
  | 0, s => s
  | i + 1, s => F i (iv_it F i s)
def iv_tz (xb xe yb ye zb ze M : Nat) : Nat := M ||| 1 <<< (13 * (13 * iv_rel xb xe yb ye + iv_rel yb ye zb ze) + iv_rel xb xe zb ze)
def iv_ta4 (xb xe yb ye zb : Nat) (M : Nat) : Nat := iv_it (fun d M => iv_tz xb xe yb ye zb (zb + 1 + d) M) (5 - zb) M
def iv_ta3 (xb xe yb ye : Nat) (M : Nat) : Nat := iv_it (fun zb M => iv_ta4 xb xe yb ye zb M) 6 M
def iv_ta2 (yb ye xb : Nat) (M : Nat) : Nat := iv_it (fun d M => iv_ta3 xb (xb + 1 + d) yb ye M) (5 - xb) M
def iv_ta1 (yb ye : Nat) (M : Nat) : Nat := iv_it (fun xb M => iv_ta2 yb ye xb M) 6 M
def iv_ft1 (b : Nat) (M : Nat) : Nat := iv_it (fun d M => iv_ta1 b (b + 1 + d) M) (5 - b) M
def iv_ft (M : Nat) : Nat := iv_it (fun b M => iv_ft1 b M) 6 M
theorem iv_ft_big : iv_ft 0 = iv_big := by decide +kernel
def iv_TB (a : Nat → Int32) (M : Nat) : Prop := ∀ c, c < 169 → a c = nI ((M >>> (13 * c)) % 8192)
theorem iv_TB_0 : iv_TB (fun _ => 0) 0 := fun c _ => by
  rw [Nat.zero_shiftRight]
  rfl
theorem iv_TB_big {a : Nat → Int32} (h : iv_TB a iv_big) {r s : Nat} (hr : r < 13) (hs : s < 13) : a (13 * r + s) = nI (iv_tb r s) := h (13 * r + s) (by omega)
theorem iv_TB_s {a : Nat → Int32} {M c t : Nat} (h : iv_TB a M) (hc : c < 169) (ht : t < 13) : iv_TB (upd a c (a c ||| nI (2 ^ t))) (M ||| 1 <<< (13 * c + t)) := by
  intro j hj
  have e : ((M ||| 1 <<< (13 * c + t)) >>> (13 * j)) % 8192 = if j = c then (M >>> (13 * j)) % 8192 ||| 2 ^ t else (M >>> (13 * j)) % 8192 := by
    apply Nat.eq_of_testBit_eq
    intro i
    rw [show 8192 = 2 ^ 13 from rfl, Nat.testBit_mod_two_pow, Nat.testBit_shiftRight, Nat.testBit_or, Nat.one_shiftLeft, Nat.testBit_two_pow]
    by_cases ej : j = c
    · rw [if_pos ej, Nat.testBit_or, Nat.testBit_mod_two_pow, Nat.testBit_shiftRight, Nat.testBit_two_pow]
      by_cases i13 : i < 13
      · rw [decide_eq_true i13, Bool.true_and, Bool.true_and, ej]
        congr 1
        exact decide_eq_decide.mpr (by omega)
      · rw [decide_eq_false i13, Bool.false_and, Bool.false_and, Bool.false_or]
        exact (decide_eq_false (by omega)).symm
    · rw [if_neg ej, Nat.testBit_mod_two_pow, Nat.testBit_shiftRight]
      by_cases i13 : i < 13
      · rw [decide_eq_false (show ¬ 13 * c + t = 13 * j + i by omega), Bool.or_false]
      · rw [decide_eq_false i13, Bool.false_and, Bool.false_and]
  rw [e]
  by_cases ej : j = c
  · rw [if_pos ej, ej, pk_us, h c hc, iv_or32]
  · rw [if_neg ej, pk_un ej]
    exact h j hj
def iv_gu (g : Nat → Nat) (k v : Nat) : Nat → Nat := fun j => if j = k then v else g j
theorem iv_gu_u (g : Nat → Nat) (k v : Nat) : upd (fun c => nI (g c)) k (nI v) = fun c => nI (iv_gu g k v c) := by
  funext j
  unfold upd iv_gu
  split <;> rfl
def iv_fm1 (b : Nat) (g : Nat → Nat) : Nat → Nat := iv_it (fun d g => iv_gu (iv_gu g (2 * iv_rel b (b + 1 + d) 2 5) b) (2 * iv_rel b (b + 1 + d) 2 5 + 1) (b + 1 + d)) (7 - b) g
def iv_fm : Nat → Nat := iv_it (fun b g => iv_fm1 b g) 8 (fun _ => 0)
theorem iv_fm_v : ∀ c, c < 26 → iv_fm c = iv_md c := by decide +kernel
def iv_lpj (i : Nat) (s : Nat × (Nat → Nat) × (Nat → Nat)) (n : Nat) : Nat × (Nat → Nat) × (Nat → Nat) :=
  iv_it (fun d s => (s.1 + 1, iv_gu s.2.1 s.1 i, iv_gu s.2.2 s.1 (i + 1 + d))) (n - 1 - i) s
def iv_lp (n : Nat) : Nat × (Nat → Nat) × (Nat → Nat) := iv_it (fun i s => iv_lpj i s n) n (0, fun _ => 0, fun _ => 0)
theorem iv_lp_v : ∀ n, n < 5 → 2 ≤ n → ∀ d, d < (iv_ps n).length → ((iv_lp n).2.1 d, (iv_lp n).2.2 d) = (iv_ps n).getD d (0, 0) := by decide +kernel
end
section
theorem iv_ek {post : Int32 → Prop} {a k : Nat} (h : post (nI a)) (e : a = k) : post (nI k) := by
  subst e
  exact h
theorem iv_xrel {post : Int32 → Prop} {b e c f : Nat} (hb : b < 2 ^ 31) (he : e < 2 ^ 31) (hc : c < 2 ^ 31) (hf : f < 2 ^ 31) (h : post (nI (iv_rel b e c f))) :
    wpX_relationOf post (nI b) (nI e) (nI c) (nI f) := by
  simp only [wpX_relationOf, wpX_byEnds, nI_leI hc he, nI_eq he hc, nI_leI hb hf, nI_eq hb hf, nI_leI hc hb, nI_eq hb hc, nI_leI hf he, nI_eq he hf]
  exact ⟨fun h12 => ⟨fun h11 => iv_ek (k := 1) h (by unfold iv_rel; rw [if_neg (by omega), if_pos (by omega)]), fun h11 => ⟨fun h10 => ⟨fun h9 => iv_ek (k := 11) h (by unfold iv_rel; rw [if_neg (by omega), if_neg (by omega), if_neg (by omega), if_pos (by omega)]), fun h9 => ⟨fun h8 => ⟨fun h5 => ⟨fun h2 => ⟨fun h1 => iv_ek (k := 6) h (by unfold iv_rel; rw [if_neg (by omega), if_neg (by omega), if_neg (by omega), if_neg (by omega), if_neg (by omega), if_pos (by omega), if_neg (by omega), if_pos (by omega)]), fun h1 => iv_ek (k := 9) h (by unfold iv_rel; rw [if_neg (by omega), if_neg (by omega), if_neg (by omega), if_neg (by omega), if_neg (by omega), if_pos (by omega), if_neg (by omega), if_neg (by omega)])⟩, fun h2 => iv_ek (k := 3) h (by unfold iv_rel; rw [if_neg (by omega), if_neg (by omega), if_neg (by omega), if_neg (by omega), if_neg (by omega), if_pos (by omega), if_pos (by omega)])⟩, fun h5 => ⟨fun h4 => ⟨fun h3 => iv_ek (k := 5) h (by unfold iv_rel; rw [if_neg (by omega), if_neg (by omega), if_neg (by omega), if_neg (by omega), if_neg (by omega), if_neg (by omega), if_neg (by omega), if_pos (by omega)]), fun h3 => iv_ek (k := 10) h (by unfold iv_rel; rw [if_neg (by omega), if_neg (by omega), if_neg (by omega), if_neg (by omega), if_neg (by omega), if_neg (by omega), if_neg (by omega), if_neg (by omega)])⟩, fun h4 => iv_ek (k := 4) h (by unfold iv_rel; rw [if_neg (by omega), if_neg (by omega), if_neg (by omega), if_neg (by omega), if_neg (by omega), if_neg (by omega), if_pos (by omega)])⟩⟩, fun h8 => ⟨fun h7 => ⟨fun h6 => iv_ek (k := 7) h (by unfold iv_rel; rw [if_neg (by omega), if_neg (by omega), if_neg (by omega), if_neg (by omega), if_pos (by omega), if_neg (by omega), if_pos (by omega)]), fun h6 => iv_ek (k := 8) h (by unfold iv_rel; rw [if_neg (by omega), if_neg (by omega), if_neg (by omega), if_neg (by omega), if_pos (by omega), if_neg (by omega), if_neg (by omega)])⟩, fun h7 => iv_ek (k := 2) h (by unfold iv_rel; rw [if_neg (by omega), if_neg (by omega), if_neg (by omega), if_neg (by omega), if_pos (by omega), if_pos (by omega)])⟩⟩⟩, fun h10 => iv_ek (k := 12) h (by unfold iv_rel; rw [if_neg (by omega), if_neg (by omega), if_pos (by omega)])⟩⟩, fun h12 => iv_ek (k := 0) h (by unfold iv_rel; rw [if_pos (by omega)])⟩
theorem iv_yrel {post : Int32 → Prop} {u : SY} {b e c f : Nat} (hb : b < 2 ^ 31) (he : e < 2 ^ 31) (hc : c < 2 ^ 31) (hf : f < 2 ^ 31) (h : post (nI (iv_rel b e c f))) :
    wpY_relationOf post u (nI b) (nI e) (nI c) (nI f) := by
  obtain ⟨gi, gk, gt, gf, gl, bS, bP, bA, bL, bT, bN, bR, bE, bZ⟩ := u
  simp only [wpY_relationOf, nI_leI hc he, nI_eq he hc, nI_leI hb hf, nI_eq hb hf, nI_leI hb hc, nI_eq hb hc, nI_leI hf he, nI_eq he hf]
  exact ⟨fun h12 => ⟨fun h11 => iv_ek (k := 1) h (by unfold iv_rel; rw [if_neg (by omega), if_pos (by omega)]), fun h11 => ⟨fun h10 => ⟨fun h9 => iv_ek (k := 11) h (by unfold iv_rel; rw [if_neg (by omega), if_neg (by omega), if_neg (by omega), if_pos (by omega)]), fun h9 => ⟨fun h8 => ⟨fun h2 => ⟨fun h1 => iv_ek (k := 6) h (by unfold iv_rel; rw [if_neg (by omega), if_neg (by omega), if_neg (by omega), if_neg (by omega), if_neg (by omega), if_pos (by omega), if_neg (by omega), if_pos (by omega)]), fun h1 => iv_ek (k := 9) h (by unfold iv_rel; rw [if_neg (by omega), if_neg (by omega), if_neg (by omega), if_neg (by omega), if_neg (by omega), if_pos (by omega), if_neg (by omega), if_neg (by omega)])⟩, fun h2 => iv_ek (k := 3) h (by unfold iv_rel; rw [if_neg (by omega), if_neg (by omega), if_neg (by omega), if_neg (by omega), if_neg (by omega), if_pos (by omega), if_pos (by omega)])⟩, fun h8 => ⟨fun h7 => ⟨fun h4 => ⟨fun h3 => iv_ek (k := 7) h (by unfold iv_rel; rw [if_neg (by omega), if_neg (by omega), if_neg (by omega), if_neg (by omega), if_pos (by omega), if_neg (by omega), if_pos (by omega)]), fun h3 => iv_ek (k := 8) h (by unfold iv_rel; rw [if_neg (by omega), if_neg (by omega), if_neg (by omega), if_neg (by omega), if_pos (by omega), if_neg (by omega), if_neg (by omega)])⟩, fun h4 => iv_ek (k := 2) h (by unfold iv_rel; rw [if_neg (by omega), if_neg (by omega), if_neg (by omega), if_neg (by omega), if_pos (by omega), if_pos (by omega)])⟩, fun h7 => ⟨fun h6 => ⟨fun h5 => iv_ek (k := 5) h (by unfold iv_rel; rw [if_neg (by omega), if_neg (by omega), if_neg (by omega), if_neg (by omega), if_neg (by omega), if_neg (by omega), if_neg (by omega), if_pos (by omega)]), fun h5 => iv_ek (k := 10) h (by unfold iv_rel; rw [if_neg (by omega), if_neg (by omega), if_neg (by omega), if_neg (by omega), if_neg (by omega), if_neg (by omega), if_neg (by omega), if_neg (by omega)])⟩, fun h6 => iv_ek (k := 4) h (by unfold iv_rel; rw [if_neg (by omega), if_neg (by omega), if_neg (by omega), if_neg (by omega), if_neg (by omega), if_neg (by omega), if_pos (by omega)])⟩⟩⟩⟩, fun h10 => iv_ek (k := 12) h (by unfold iv_rel; rw [if_neg (by omega), if_neg (by omega), if_pos (by omega)])⟩⟩, fun h12 => iv_ek (k := 0) h (by unfold iv_rel; rw [if_pos (by omega)])⟩
theorem iv_12 {r : Nat} (h : r ≤ 12) : (12 : Int32) - nI r = nI (12 - r) := pk_sub (a := 12) h
theorem iv_mi_s {U r : Nat} (hU : U < 8192) (hr : r < 13) : nI (iv_mi U r) ||| (((nI U >>> (nI r &&& 31)) &&& 1) <<< ((12 - nI r) &&& 31)) = nI (iv_mi U (r + 1)) := by
  have h1 := iv_b2 U r
  have h2 : 2 ^ (12 - r) ≤ 2 ^ 12 := Nat.pow_le_pow_right (by decide) (by omega)
  have h3 : iv_b U r * 2 ^ (12 - r) ≤ 1 * 2 ^ 12 := Nat.mul_le_mul (by omega) h2
  rw [iv_bit hU (by omega), iv_12 (by omega), iv_shl (by omega) (by omega), iv_or32, iv_mi]
theorem iv_xmir {post : Int32 → Prop} {U : Nat} (hU : U < 8192) (h : post (nI (iv_mi U 13))) : wpX_mirror post (nI U) := by
  have key : ∀ d r, r + d = 13 → wX_mirror_4 post (nI U) (d + 1) (nI (iv_mi U r)) (nI r) := by
    intro d
    induction d with
    | zero =>
      intro r hr
      have e : r = 13 := by omega
      subst e
      exact br_t (nI_le (a := 13) (b := 13) (by decide) (by decide)) h
    | succ d ih =>
      intro r hr
      exact br_f (nI_ge (b := 13) (by omega) (by decide)) (nm_r (iv_mi_s hU (by omega)) (nm_r (nI_1 r) (ih (r + 1) (by omega))))
  exact ⟨14, key 13 0 (by decide)⟩
theorem iv_ytur {post : Int32 → Prop} {u : SY} {U : Nat} (hU : U < 8192) (h : post (nI (iv_mi U 13))) : wpY_turned post u (nI U) := by
  obtain ⟨gi, gk, gt, gf, gl, bS, bP, bA, bL, bT, bN, bR, bE, bZ⟩ := u
  have key : ∀ d r, r + d = 13 → wY_turned_4 post (nI U) gi gk gt gf gl bS bP bA bL bT bN bR bE bZ (d + 1) (nI (iv_mi U r)) (nI r) := by
    intro d
    induction d with
    | zero =>
      intro r hr
      have e : r = 13 := by omega
      subst e
      exact br_t (nI_le (a := 13) (b := 13) (by decide) (by decide)) h
    | succ d ih =>
      intro r hr
      exact br_f (nI_ge (b := 13) (by omega) (by decide)) (nm_r (iv_mi_s hU (by omega)) (nm_r (nI_1 r) (ih (r + 1) (by omega))))
  exact ⟨14, key 13 0 (by decide)⟩
theorem iv_sz_s {U r : Nat} (hU : U < 8192) (hr : r < 13) : nI (iv_sz U r) + ((nI U >>> (nI r &&& 31)) &&& 1) = nI (iv_sz U (r + 1)) := by
  rw [iv_bit hU (by omega), nI_add, iv_sz]
theorem iv_xsz {post : Int32 → Prop} {U : Nat} (hU : U < 8192) (h : post (nI (iv_sz U 13))) : wpX_sizeOf post (nI U) := by
  have key : ∀ d r, r + d = 13 → wX_sizeOf_4 post (nI U) (d + 1) (nI (iv_sz U r)) (nI r) := by
    intro d
    induction d with
    | zero =>
      intro r hr
      have e : r = 13 := by omega
      subst e
      exact br_t (nI_le (a := 13) (b := 13) (by decide) (by decide)) h
    | succ d ih =>
      intro r hr
      exact br_f (nI_ge (b := 13) (by omega) (by decide)) (nm_r (iv_sz_s hU (by omega)) (nm_r (nI_1 r) (ih (r + 1) (by omega))))
  exact ⟨14, key 13 0 (by decide)⟩
theorem iv_ysz {post : Int32 → Prop} {u : SY} {U : Nat} (hU : U < 8192) (h : post (nI (iv_sz U 13))) : wpY_count post u (nI U) := by
  obtain ⟨gi, gk, gt, gf, gl, bS, bP, bA, bL, bT, bN, bR, bE, bZ⟩ := u
  have key : ∀ d r, r + d = 13 → wY_count_4 post (nI U) gi gk gt gf gl bS bP bA bL bT bN bR bE bZ (d + 1) (nI (iv_sz U r)) (nI r) := by
    intro d
    induction d with
    | zero =>
      intro r hr
      have e : r = 13 := by omega
      subst e
      exact br_t (nI_le (a := 13) (b := 13) (by decide) (by decide)) h
    | succ d ih =>
      intro r hr
      exact br_f (nI_ge (b := 13) (by omega) (by decide)) (nm_r (iv_sz_s hU (by omega)) (nm_r (nI_1 r) (ih (r + 1) (by omega))))
  exact ⟨14, key 13 0 (by decide)⟩
/- which arguments name a pair, which a set -/
def iv_I (n : Nat) (x : Int32) : Prop := ∃ i, i < n ∧ x = nI i
def iv_pr (n : Nat) (x y : Int32) : Prop := ∃ i j, i < n ∧ j < n ∧ i ≠ j ∧ x = nI i ∧ y = nI j
def iv_S (x : Int32) : Prop := ∃ U, U < 8192 ∧ x = nI U
theorem iv_I_of {n : Nat} {x : Int32} (hn : n < 2 ^ 31) (h0 : ¬ x < 0) (h : ¬ nI n ≤ x) : iv_I n x := by
  rcases pk_ix x hn with z | z | ⟨j, hj, e⟩
  · exact absurd z h0
  · exact absurd z h
  · exact ⟨j, hj, e⟩
theorem iv_I_neg {n : Nat} {x : Int32} (hn : n < 2 ^ 31) (h : x < 0) : ¬ iv_I n x := by
  rintro ⟨j, hj, e⟩
  rw [e] at h
  exact nI_pos (by omega) h
theorem iv_I_big {n : Nat} {x : Int32} (hn : n < 2 ^ 31) (h : nI n ≤ x) : ¬ iv_I n x := by
  rintro ⟨j, hj, e⟩
  rw [e] at h
  exact nI_ge hj hn h
theorem iv_pr_1 {n : Nat} {x y : Int32} (h : ¬ iv_I n x) : ¬ iv_pr n x y := fun ⟨i, _, hi, _, _, e, _⟩ => h ⟨i, hi, e⟩
theorem iv_pr_2 {n : Nat} {x y : Int32} (h : ¬ iv_I n y) : ¬ iv_pr n x y := fun ⟨_, j, _, hj, _, _, e⟩ => h ⟨j, hj, e⟩
theorem iv_pr_3 {n : Nat} {x : Int32} (hn : n < 2 ^ 31) : ¬ iv_pr n x x := by
  rintro ⟨i, j, hi, hj, hne, e1, e2⟩
  exact hne ((nI_eq (by omega) (by omega)).mp (e1.symm.trans e2))
theorem iv_pr_of {n : Nat} {x y : Int32} (hx : iv_I n x) (hy : iv_I n y) (h : ¬ x = y) : iv_pr n x y := by
  obtain ⟨i, hi, e1⟩ := hx
  obtain ⟨j, hj, e2⟩ := hy
  exact ⟨i, j, hi, hj, fun e => h (by rw [e1, e2, e]), e1, e2⟩
theorem iv_xI {post : Int32 → Prop} {n : Nat} {fp fk fd : Int32} {aA aP aL aT aM a1 a2 aU aS : Nat → Int32} {x : Int32} (hn : n < 2 ^ 31) (h1 : iv_I n x → post 1) (h0 : ¬ iv_I n x → post 0) :
    wpX_isInterval post (nI n, fp, fk, fd, aA, aP, aL, aT, aM, a1, a2, aU, aS) x :=
  br_c (fun z => h0 (iv_I_neg hn z)) (fun z => br_c (fun z' => h0 (iv_I_big hn z')) (fun z' => h1 (iv_I_of hn z z')))
theorem iv_xpr {post : Int32 → Prop} {n : Nat} {fp fk fd : Int32} {aA aP aL aT aM a1 a2 aU aS : Nat → Int32} {x y : Int32} (hn : n < 2 ^ 31) (h1 : iv_pr n x y → post 1) (h0 : ¬ iv_pr n x y → post 0) :
    wpX_areIntervals post (nI n, fp, fk, fd, aA, aP, aL, aT, aM, a1, a2, aU, aS) x y := by
  unfold wpX_areIntervals
  dsimp only
  refine iv_xI hn (fun hx => ?_) (fun hx => br_t rfl (h0 (iv_pr_1 hx)))
  refine br_f (by decide) (iv_xI hn (fun hy => ?_) (fun hy => br_t rfl (h0 (iv_pr_2 hy))))
  refine br_f (by decide) (br_c (fun e => ?_) (fun e => h1 (iv_pr_of hx hy e)))
  subst e
  exact h0 (iv_pr_3 hn)
theorem iv_ypr {post : Int32 → Prop} {n : Nat} {gk gt gf gl : Int32} {bS bP bA bL bT bN bR bE bZ : Nat → Int32} {x y : Int32} (hn : n < 2 ^ 31) (h1 : iv_pr n x y → post 1) (h0 : ¬ iv_pr n x y → post 0) :
    wpY_isPair post (nI n, gk, gt, gf, gl, bS, bP, bA, bL, bT, bN, bR, bE, bZ) x y := by
  unfold wpY_isPair
  dsimp only
  refine br_c (fun z => h0 (iv_pr_1 (iv_I_neg hn z))) (fun z => br_c (fun z' => h0 (iv_pr_1 (iv_I_big hn z'))) (fun z' => ?_))
  refine br_c (fun w => h0 (iv_pr_2 (iv_I_neg hn w))) (fun w => br_c (fun w' => h0 (iv_pr_2 (iv_I_big hn w'))) (fun w' => ?_))
  refine br_c (fun e => ?_) (fun e => h1 (iv_pr_of (iv_I_of hn z z') (iv_I_of hn w w') e))
  subst e
  exact h0 (iv_pr_3 hn)
theorem iv_S_of {x : Int32} (h0 : ¬ x < 0) (h : ¬ 8191 < x) : iv_S x := by
  rcases pk_ix x (n := 8192) (by decide) with z | z | ⟨j, hj, e⟩
  · exact absurd z h0
  · obtain ⟨j, hj, e⟩ := nI_of h0
    rw [e] at h z
    have h1 : ¬ j < 8192 := fun q => nI_ge q (by decide) z
    exact absurd (nI_lt (a := 8191) (b := j) (by omega) hj) h
  · exact ⟨j, hj, e⟩
theorem iv_S_neg {x : Int32} (h : x < 0) : ¬ iv_S x := by
  rintro ⟨j, hj, e⟩
  rw [e] at h
  exact nI_pos (by omega) h
theorem iv_S_big {x : Int32} (h : 8191 < x) : ¬ iv_S x := by
  rintro ⟨j, hj, e⟩
  rw [e] at h
  exact nI_nlt (a := 8191) (b := j) (by omega) (by decide) h
theorem iv_xS {post : Int32 → Prop} {x : Int32} (h1 : iv_S x → post 1) (h0 : ¬ iv_S x → post 0) : wpX_isSet post x :=
  br_c (fun z => h0 (iv_S_neg z)) (fun z => br_c (fun z' => h0 (iv_S_big z')) (fun z' => h1 (iv_S_of z z')))
theorem iv_yS {post : Int32 → Prop} {u : SY} {x : Int32} (h1 : iv_S x → post 1) (h0 : ¬ iv_S x → post 0) : wpY_isSet post u x := by
  obtain ⟨gi, gk, gt, gf, gl, bS, bP, bA, bL, bT, bN, bR, bE, bZ⟩ := u
  exact br_c (fun z => h0 (iv_S_neg z)) (fun z => br_c (fun z' => h0 (iv_S_big z')) (fun z' => h1 (iv_S_of z z')))
theorem iv_c4 (i j : Nat) : nI i * 4 + nI j = nI (4 * i + j) := by
  have h : nI i * nI 4 = nI (i * 4) := pk_mul i 4
  have h2 : nI i * (4 : Int32) = nI (i * 4) := h
  rw [h2, nI_add, Nat.mul_comm]
theorem iv_4c (i j : Nat) : 4 * nI i + nI j = nI (4 * i + j) := by
  have h : nI 4 * nI i = nI (4 * i) := pk_mul 4 i
  have h2 : (4 : Int32) * nI i = nI (4 * i) := h
  rw [h2, nI_add]
theorem iv_cin {i j : Nat} (hi : i < 4) (hj : j < 4) : vp_in (nI (4 * i + j)) 16 := vp_in_nI (by omega) (by decide)
theorem iv_ccl {i j : Nat} (hi : i < 4) (hj : j < 4) : (nI (4 * i + j)).toNatClampNeg = 4 * i + j := nI_clamp (by omega)
end
section
theorem iv_c13 (a b : Nat) : nI a * 13 + nI b = nI (13 * a + b) := by
  have h : nI a * nI 13 = nI (a * 13) := pk_mul a 13
  have h2 : nI a * (13 : Int32) = nI (a * 13) := h
  rw [h2, nI_add, Nat.mul_comm]
theorem iv_m1 : (-1 : Int32) = nI 4294967295 := by decide
theorem iv_wo_of {U r : Nat} (hU : U < 8192) (hr : r < 13) (hb : U.testBit r = true) (hl : ∀ s, s < r → U.testBit s = false) : iv_wo U r (U &&& (2 ^ r ^^^ 4294967295)) := by
  have e : ∀ s, (2 ^ r ^^^ 4294967295).testBit s = (decide (r = s) ^^ decide (s < 32)) := by
    intro s
    rw [Nat.testBit_xor, Nat.testBit_two_pow, show 4294967295 = 2 ^ 32 - 1 from rfl, Nat.testBit_two_pow_sub_one]
  refine ⟨hb, hl, ?_, fun s hs => ?_⟩
  · rw [Nat.testBit_and, e, decide_eq_true rfl, decide_eq_true (show r < 32 by omega)]
    simp
  · rw [Nat.testBit_and, e, decide_eq_false (fun z => hs z.symm)]
    by_cases c : s < 32
    · rw [decide_eq_true c]
      simp
    · have : U.testBit s = false := Nat.testBit_lt_two_pow (Nat.lt_of_lt_of_le hU (Nat.le_trans (show 8192 ≤ 2 ^ 13 by decide) (Nat.pow_le_pow_right (by decide) (by omega))))
      rw [this]
      simp
theorem iv_xleast {post : Int32 → Prop} {U : Nat} (hU : U < 8192) (hne : U ≠ 0) (h : ∀ r, r < 13 → U.testBit r = true → (∀ s, s < r → U.testBit s = false) → post (nI r)) : wpX_leastOf post (nI U) := by
  have key : ∀ d r, r + d = 12 → (∀ s, s < r → U.testBit s = false) → wX_leastOf_2 post (nI U) (d + 1) (nI r) := by
    intro d
    induction d with
    | zero =>
      intro r hr hl
      have e : r = 12 := by omega
      subst e
      refine br_t (nI_le (a := 12) (b := 12) (by decide) (by decide)) (h 12 (by decide) ?_ hl)
      obtain ⟨i, hi⟩ := Nat.exists_testBit_of_ne_zero hne
      have h1 : ¬ i < 12 := fun z => by
        rw [hl i z] at hi
        exact absurd hi (by decide)
      have h2 : ¬ 13 ≤ i := fun z => by
        rw [Nat.testBit_lt_two_pow (Nat.lt_of_lt_of_le hU (Nat.le_trans (show 8192 ≤ 2 ^ 13 by decide) (Nat.pow_le_pow_right (by decide) z)))] at hi
        exact absurd hi (by decide)
      rw [show 12 = i by omega]
      exact hi
    | succ d ih =>
      intro r hr hl
      refine br_f (nI_ge (b := 12) (by omega) (by decide)) ?_
      rw [iv_bit hU (by omega)]
      by_cases c : U.testBit r = true
      · refine br_f ?_ (h r (by omega) c hl)
        rw [(iv_b_1 U r).mpr c]
        decide
      · refine br_t ?_ (nm_r (nI_1 r) (ih (r + 1) (by omega) (fun s hs => ?_)))
        · rw [iv_b_t, if_neg c]
          rfl
        · by_cases e : s = r
          · rw [e]
            exact Bool.eq_false_iff.mpr c
          · exact hl s (by omega)
  exact ⟨13, key 12 0 (by decide) (fun s hs => absurd hs (Nat.not_lt_zero _))⟩
section
variable {fn fp fk : Int32} {aA aP aL aT aM a1 a2 aU aS : Nat → Int32} {d i j : Nat}
theorem iv_xtry {post : SX → Prop} {U : Nat} (hd : d < 6) (h1 : a1 d = nI i) (h2 : a2 d = nI j) (hi : i < 4) (hj : j < 4) (hu : aU d = nI U) (hU : U < 8192) (hne : U ≠ 0)
    (h : ∀ r U', r < 13 → iv_wo U r U' → U' < 8192 → post (fn, fp, fk, nI d, aA, aP, aL, aT, aM, a1, a2, upd aU d (nI U'), upd (upd aS (4 * i + j) (nI r)) (4 * j + i) (nI (12 - r)))) :
    wpX_tryLeast post (fn, fp, fk, nI d, aA, aP, aL, aT, aM, a1, a2, aU, aS) := by
  have ed : (nI d).toNatClampNeg = d := nI_clamp (by omega)
  have vd : vp_in (nI d) 6 := vp_in_nI hd (by decide)
  unfold wpX_tryLeast
  dsimp only
  rw [ed, h1, h2, hu]
  refine ⟨vd, nm_e ⟨vd, nm_e ⟨vd, iv_xleast hU hne (fun r hr hb hl => ⟨vd, vd, ?_⟩)⟩⟩⟩
  have hw := iv_wo_of hU hr hb hl
  have e1 : nI U &&& (((1 : Int32) <<< (nI r &&& 31)) ^^^ (-1)) = nI (U &&& (2 ^ r ^^^ 4294967295)) := by
    rw [iv_1shl r hr, iv_m1, nx_xor, nx_and]
  rw [e1]
  refine nm_e ?_
  simp only [wpX_cell, iv_c4]
  refine ⟨iv_cin hi hj, nm_e ⟨iv_cin hj hi, nm_e ?_⟩⟩
  rw [iv_ccl hi hj, iv_ccl hj hi, iv_12 (by omega)]
  exact h r _ hr hw (Nat.lt_of_le_of_lt Nat.and_le_left hU)
theorem iv_xopen {post : SX → Prop} {A R : iv_N} (hd : d < 6) (h1 : a1 d = nI i) (h2 : a2 d = nI j) (hij : i < j) (hj : j < 4) (hA : aA (4 * i + j) = nI (A i j)) (hT : iv_TB aT iv_big)
    (hR : ∀ m, m < i → (aS (4 * i + m) = nI (R i m) ∧ R i m < 13) ∧ (aS (4 * m + j) = nI (R m j) ∧ R m j < 13))
    (h : post (fn, fp, fk, nI d, aA, aP, aL, aT, aM, a1, a2, upd aU d (nI (iv_opn A R i j)), aS)) :
    wpX_openPair post (fn, fp, fk, nI d, aA, aP, aL, aT, aM, a1, a2, aU, aS) := by
  have ed : (nI d).toNatClampNeg = d := nI_clamp (by omega)
  have vd : vp_in (nI d) 6 := vp_in_nI hd (by decide)
  have key : ∀ e m, m + e = i → wX_openPair_34 post (nI i) (nI j) fn fp fk (nI d) aA aP aL aT aM a1 a2 aU aS (e + 1) (nI (iv_om A R i j m)) (nI m) := by
    intro e
    induction e with
    | zero =>
      intro m hm
      have e : m = i := by omega
      subst e
      refine br_t (nI_le (Nat.le_refl _) (by omega)) ⟨vd, ?_⟩
      rw [ed]
      exact nm_e h
    | succ e ih =>
      intro m hm
      obtain ⟨⟨r1, r2⟩, ⟨r3, r4⟩⟩ := hR m (by omega)
      refine br_f (nI_ge (by omega) (by omega)) ?_
      simp only [wpX_cell, iv_c4]
      refine ⟨iv_cin (by omega) (by omega), nm_r (e' := nI (R i m)) (by rw [iv_ccl (by omega) (by omega)]; exact r1) ⟨iv_cin (by omega) (by omega), nm_r (e' := nI (R m j)) (by rw [iv_ccl (by omega) (by omega)]; exact r3) ?_⟩⟩
      rw [iv_c13]
      refine ⟨vp_in_nI (by omega) (by decide), nm_r (e' := nI (iv_om A R i j (m + 1))) ?_ (nm_r (nI_1 m) (ih (m + 1) (by omega)))⟩
      rw [nI_clamp (by omega), iv_TB_big hT r2 r4, nx_and, iv_om]
  unfold wpX_openPair
  dsimp only
  rw [ed, h1, h2]
  refine ⟨vd, nm_e ⟨vd, nm_e ?_⟩⟩
  simp only [wpX_cell, iv_c4]
  refine ⟨iv_cin (by omega) hj, nm_r (e' := nI (iv_om A R i j 0)) ?_ ⟨i + 1, key i 0 (by omega)⟩⟩
  rw [iv_ccl (by omega) hj, hA]
  rfl
end
def iv_XE (n : Nat) (A : iv_N) (aA aT a1 a2 : Nat → Int32) : Prop :=
  iv_n n ∧ iv_TB aT iv_big ∧ (∀ d, d < (iv_ps n).length → a1 d = nI ((iv_ps n).getD d (0, 0)).1 ∧ a2 d = nI ((iv_ps n).getD d (0, 0)).2) ∧
  (∀ i j, i < j → j < n → aA (4 * i + j) = nI (A i j) ∧ A i j < 8192)
def iv_FO (n d : Nat) (aU aS : Nat → Int32) (f : iv_Fr) : Prop :=
  f.1 :: f.2.1 = (iv_ps n).drop d ∧ aU d = nI f.2.2.2 ∧ f.2.2.2 < 8192 ∧ ∀ x y, x < 4 → y < 4 → iv_off (f.1 :: f.2.1) x y → (aS (4 * x + y) = nI (f.2.2.1 x y) ∧ f.2.2.1 x y < 13)
def iv_FS (n : Nat) (aU aS : Nat → Int32) : List iv_Fr → Prop
  | [] => True
  | f :: fs => iv_FO n fs.length aU aS f ∧ iv_FS n aU aS fs
theorem iv_drop_p {α : Type} {l tl : List α} {p z : α} {d : Nat} (h : p :: tl = l.drop d) : d < l.length ∧ l.getD d z = p ∧ tl = l.drop (d + 1) := by
  have hd : d < l.length := by
    by_cases c : d < l.length
    · exact c
    · rw [List.drop_eq_nil_of_le (by omega)] at h
      cases h
  rw [List.drop_eq_getElem_cons hd] at h
  have h1 := (List.cons.inj h).1
  have h2 := (List.cons.inj h).2
  refine ⟨hd, ?_, h2⟩
  rw [h1]
  simp [hd]
theorem iv_ps_len {n : Nat} (hn : iv_n n) : (iv_ps n).length ≤ 6 := by
  rcases hn with h | h | h <;> subst h <;> decide
theorem iv_p_in {n d : Nat} (hn : iv_n n) {p : Nat × Nat} {tl : List (Nat × Nat)} (h : p :: tl = (iv_ps n).drop d) : p.1 < p.2 ∧ p.2 < n := by
  have hm : p ∈ iv_ps n := List.mem_of_mem_drop (i := d) (by rw [← h]; exact List.mem_cons_self)
  exact (iv_ps_mem hn p).mp hm
theorem iv_drop_ord {n d : Nat} (hn : iv_n n) : iv_ord ((iv_ps n).drop d) := by
  have h := iv_ps_ord hn
  exact ⟨List.Pairwise.sublist (List.drop_sublist _ _) h.1, fun p hp => h.2 p (List.mem_of_mem_drop hp)⟩
/- a write at a pair that lies behind a frame leaves the frame -/
theorem iv_FS_wr {n : Nat} {aU aU' aS : Nat → Int32} {i j r : Nat} (hi : i < 4) (hj : j < 4) : ∀ (fs : List iv_Fr), (∀ e, e < fs.length → aU' e = aU e ∧ (i, j) ∈ (iv_ps n).drop e) → iv_FS n aU aS fs →
    iv_FS n aU' (upd (upd aS (4 * i + j) (nI r)) (4 * j + i) (nI (12 - r))) fs
  | [], _, _ => trivial
  | f :: fs, h, hf => by
    refine ⟨⟨hf.1.1, ?_, hf.1.2.2.1, fun x y hx hy ho => ?_⟩, iv_FS_wr hi hj fs (fun e he => h e (by rw [List.length_cons]; omega)) hf.2⟩
    · rw [(h fs.length (by rw [List.length_cons]; omega)).1]
      exact hf.1.2.1
    · have hm := (h fs.length (by rw [List.length_cons]; omega)).2
      rw [← hf.1.1] at hm
      have h1 := ho _ hm
      dsimp only at h1
      rw [pk_un (by omega), pk_un (by omega)]
      exact hf.1.2.2.2 x y hx hy ho
theorem iv_mem_drop {α : Type} {l tl : List α} {p : α} {d e : Nat} (h : p :: tl = l.drop d) (he : e ≤ d) : p ∈ l.drop e := by
  have h1 : p ∈ (l.drop e).drop (d - e) := by
    rw [List.drop_drop, show e + (d - e) = d by omega, ← h]
    exact List.mem_cons_self
  exact List.mem_of_mem_drop h1
theorem iv_FS_un {n : Nat} {aU aU' aS : Nat → Int32} {k : Nat} (h : ∀ e, e < k → aU' e = aU e) : ∀ (fs : List iv_Fr), fs.length ≤ k → iv_FS n aU aS fs → iv_FS n aU' aS fs
  | [], _, _ => trivial
  | f :: fs, hk, hf => by
    rw [List.length_cons] at hk
    refine ⟨⟨hf.1.1, ?_, hf.1.2.2⟩, iv_FS_un h fs (by omega) hf.2⟩
    rw [h _ (by omega)]
    exact hf.1.2.1
end
section
section
variable {fn fk : Int32} {aA aP aL aT aM a1 a2 : Nat → Int32}
theorem iv_xnext_l {post : Int32 → SX → Prop} {n P : Nat} {A : iv_N} (hE : iv_XE n A aA aT a1 a2) (hP : P = (iv_ps n).length) :
    ∀ (M : Nat) (fs : List iv_Fr) (aU aS : Nat → Int32) (step fuel : Nat), fs ≠ [] → iv_FS n aU aS fs → iv_mu A fs ≤ M → M < fuel → step + M < 1000000 →
    (iv_rem A fs = [] → ∀ fd aU' aS', post 0 (fn, nI P, fk, fd, aA, aP, aL, aT, aM, a1, a2, aU', aS')) →
    (∀ N tl fs' aU' aS', iv_rem A fs = N :: tl → iv_rem A fs' = tl → fs' ≠ [] → iv_FS n aU' aS' fs' → iv_mu A fs' < iv_mu A fs → (∀ x y, x < 4 → y < 4 → aS' (4 * x + y) = nI (N x y) ∧ N x y < 13) →
      post 1 (fn, nI P, fk, nI (fs'.length - 1), aA, aP, aL, aT, aM, a1, a2, aU', aS')) →
    wX_nextScenario_2 post fuel (nI step) fn (nI P) fk (nI (fs.length - 1)) aA aP aL aT aM a1 a2 aU aS := by
  intro M
  induction M with
  | zero =>
    intro fs aU aS step fuel hne hF hM
    cases fs with
    | nil => exact absurd rfl hne
    | cons f fs =>
      rw [iv_mu] at hM
      omega
  | succ M ih =>
    intro fs aU aS step fuel hne hF hM hfu hst H0 H1
    cases fuel with
    | zero => omega
    | succ fuel =>
    cases fs with
    | nil => exact absurd rfl hne
    | cons f fs =>
    obtain ⟨p, tl, R, U⟩ := f
    obtain ⟨⟨hdr, hau, hU, hS⟩, hFs⟩ := hF
    have hdr : p :: tl = (iv_ps n).drop fs.length := hdr
    have hau : aU fs.length = nI U := hau
    have hU : U < 8192 := hU
    have hS : ∀ x y, x < 4 → y < 4 → iv_off (p :: tl) x y → (aS (4 * x + y) = nI (R x y) ∧ R x y < 13) := hS
    obtain ⟨hn, hT, hps, hA⟩ := hE
    have h4 : n ≤ 4 := by
      unfold iv_n at hn
      omega
    obtain ⟨hdl, hdp, hdt⟩ := iv_drop_p (z := (0, 0)) hdr
    have hl6 := iv_ps_len hn
    have hpi := iv_p_in hn hdr
    have ho : iv_ord (p :: tl) := by
      rw [hdr]
      exact iv_drop_ord hn
    have q1 := (hps _ hdl).1
    have q2 := (hps _ hdl).2
    rw [hdp] at q1 q2
    have ed : (nI fs.length).toNatClampNeg = fs.length := nI_clamp (by omega)
    rw [List.length_cons, Nat.add_sub_cancel]
    refine br_f (nI_ge (b := 1000000) (by omega) (by decide)) ⟨vp_in_nI (by omega) (by decide), ?_⟩
    rw [ed, hau]
    by_cases hz : U = 0
    · subst hz
      refine br_t rfl (pk_eq fs.length 0 (fun e => ?_) (fun e => ?_) rfl rfl (by omega) (by decide))
      · refine H0 ?_ _ _ _
        rw [iv_rem_0]
        cases fs with
        | nil => rfl
        | cons g gs => cases e
      · refine nm_r (e' := nI (fs.length - 1)) ?_ (nm_r (nI_1 step) ?_)
        · have : nI fs.length = nI (fs.length - 1 + 1) := by rw [show fs.length - 1 + 1 = fs.length by omega]
          rw [this, nI_pred]
        · refine ih fs aU aS (step + 1) fuel (fun z => e (by rw [z]; rfl)) hFs ?_ (by omega) (by omega) (fun z => H0 (by rw [iv_rem_0]; exact z)) ?_
          · rw [iv_mu_0] at hM
            omega
          · intro N tl' fs' aU' aS' z1 z2 z3 z4 z5 z6
            exact H1 N tl' fs' aU' aS' (by rw [iv_rem_0]; exact z1) z2 z3 z4 (by rw [iv_mu_0]; omega) z6
    · refine br_f (fun z => hz ((nI_eq (b := 0) (by omega) (by decide)).mp z)) ?_
      refine iv_xtry (by omega) q1 q2 (by omega) (by omega) hau hU hz ?_
      intro r U' hr hw hU'
      dsimp only
      have hFs' : iv_FS n (upd aU fs.length (nI U')) (upd (upd aS (4 * p.1 + p.2) (nI r)) (4 * p.2 + p.1) (nI (12 - r))) fs := by
        refine iv_FS_wr (by omega) (by omega) fs (fun e he => ⟨pk_un (by omega), ?_⟩) hFs
        exact iv_mem_drop hdr (by omega)
      have hSc : ∀ x y, x < 4 → y < 4 → iv_off tl x y → (upd (upd aS (4 * p.1 + p.2) (nI r)) (4 * p.2 + p.1) (nI (12 - r)) (4 * x + y) = nI (iv_set R p.1 p.2 r x y) ∧ iv_set R p.1 p.2 r x y < 13) := by
        intro x y hx hy hof
        by_cases c2 : x = p.2 ∧ y = p.1
        · rw [c2.1, c2.2, pk_us, iv_set2 hpi.1]
          exact ⟨rfl, by omega⟩
        · by_cases c1 : x = p.1 ∧ y = p.2
          · rw [c1.1, c1.2, pk_un (by omega), pk_us, iv_set1]
            exact ⟨rfl, hr⟩
          · rw [pk_un (by omega), pk_un (by omega), iv_set3 c1 c2]
            refine hS x y hx hy (fun q hq => ?_)
            rcases List.mem_cons.mp hq with e | hq
            · rw [e]
              exact ⟨c1, c2⟩
            · exact hof q hq
      have hFt : iv_FS n (upd aU fs.length (nI U')) (upd (upd aS (4 * p.1 + p.2) (nI r)) (4 * p.2 + p.1) (nI (12 - r))) ((p, tl, R, U') :: fs) := by
        refine ⟨⟨hdr, pk_us, hU', fun x y hx hy hof => ?_⟩, hFs'⟩
        have c1 := (hof p List.mem_cons_self).1
        have c2 := (hof p List.mem_cons_self).2
        dsimp only at c1 c2 ⊢
        rw [pk_un (by omega), pk_un (by omega)]
        exact hS x y hx hy hof
      have eP : nI P - 1 = nI (P - 1) := by
        have : nI P = nI (P - 1 + 1) := by rw [show P - 1 + 1 = P by omega]
        rw [this, nI_pred]
      rw [eP]
      refine pk_eq fs.length (P - 1) (fun e => ?_) (fun e => ?_) rfl rfl (by omega) (by omega)
      · have ht : tl = [] := by
          rw [hdt]
          exact List.drop_eq_nil_of_le (by omega)
        subst ht
        have hm := iv_mu_leaf (A := A) (p := p) (R := R) (fs := fs) hw hr
        exact H1 _ _ ((p, [], R, U') :: fs) _ _ (iv_rem_leaf hw hr) rfl (by simp) hFt (by omega) (fun x y hx hy => hSc x y hx hy (fun q hq => by cases hq))
      · cases tl with
        | nil =>
          have := congrArg List.length hdt
          rw [List.length_nil, List.length_drop] at this
          omega
        | cons q tl =>
        obtain ⟨hel, hep, het⟩ := iv_drop_p (z := (0, 0)) hdt
        have hqi := iv_p_in hn hdt
        have s1 := (hps _ hel).1
        have s2 := (hps _ hel).2
        rw [hep] at s1 s2
        have ho2 : iv_ord (q :: tl) := iv_ord_tl ho
        refine nm_r (nI_1 fs.length) ?_
        refine iv_xopen (A := A) (R := iv_set R p.1 p.2 r) (by omega) s1 s2 hqi.1 (by omega) (hA _ _ hqi.1 hqi.2).1 hT ?_ ?_
        · intro m hm
          exact ⟨hSc q.1 m (by omega) (by omega) (iv_off_c ho2 hm), hSc m q.2 (by omega) (by omega) (iv_off_d ho2 hm)⟩
        · dsimp only
          refine nm_r (nI_1 step) ?_
          have hm := iv_mu_in (A := A) (p := p) (q := q) (tl := tl) (R := R) (fs := fs) hw hr
          have hrm := iv_rem_in (A := A) (p := p) (q := q) (tl := tl) (R := R) (fs := fs) hw hr
          refine ih ((q, tl, iv_set R p.1 p.2 r, iv_opn A (iv_set R p.1 p.2 r) q.1 q.2) :: (p, q :: tl, R, U') :: fs) _ _ (step + 1) fuel (by simp) ?_ (by omega) (by omega) (by omega)
            (fun z => H0 (by rw [hrm]; exact z)) ?_
          · refine ⟨⟨hdt, pk_us, iv_om_lt (hA _ _ hqi.1 hqi.2).2 _, hSc⟩, ⟨hdr, ?_, hU', hFt.1.2.2.2⟩, ?_⟩
            · rw [pk_un (by omega)]
              exact pk_us
            · exact iv_FS_un (k := fs.length) (fun e he => pk_un (by omega)) fs (Nat.le_refl _) hFs'
          · intro N tl' fs' aU' aS' z1 z2 z3 z4 z5 z6
            exact H1 N tl' fs' aU' aS' (by rw [hrm]; exact z1) z2 z3 z4 (by omega) z6
end
end
section
theorem iv_sub8 : ∀ a, a < 8 → ∀ b, b < 8 → (nI a - nI b = 0 ↔ iv_cmp a b = 1) ∧ (0 ≤ nI a - nI b ↔ iv_cmp a b ≠ 0) ∧ (0 < nI a - nI b ↔ iv_cmp a b = 2) ∧ (nI a - nI b ≤ 0 ↔ iv_cmp a b ≠ 2) := by decide +kernel
theorem iv_md8 (i : Nat) : iv_md i < 8 := Nat.mod_lt _ (by decide)
def iv_sgn (x : Int32) (c : Nat) : Prop := (x = 0 ↔ c = 1) ∧ (0 ≤ x ↔ c ≠ 0) ∧ (0 < x ↔ c = 2) ∧ (x ≤ 0 ↔ c ≠ 2)
theorem iv_shr1 : ∀ p, p < 8 → nI p >>> ((1 : Int32) &&& 31) = nI (p / 2) := by decide +kernel
theorem iv_2r (r x : Nat) : 2 * nI r + nI x = nI (2 * r + x) := by
  have h : nI 2 * nI r = nI (2 * r) := pk_mul 2 r
  have h2 : (2 : Int32) * nI r = nI (2 * r) := h
  rw [h2, nI_add]
theorem iv_2n (r : Nat) : 2 * nI r = nI (2 * r) := pk_mul 2 r
section
variable {fp fk fd : Int32} {aA aP aL aT aM a1 a2 aU aS : Nat → Int32} {n : Nat} {N : iv_N}
theorem iv_xcmp {post : Int32 → Prop} {fn : Int32} (hM : ∀ c, c < 26 → aM c = nI (iv_md c)) (hN : ∀ x y, x < 4 → y < 4 → aS (4 * x + y) = nI (N x y) ∧ N x y < 13) {p q : Nat} (hp : p < 8) (hq : q < 8)
    (h : ∀ x, iv_sgn x (iv_cm N p q) → post x) : wpX_compareEnds post (fn, fp, fk, fd, aA, aP, aL, aT, aM, a1, a2, aU, aS) (nI p) (nI q) := by
  obtain ⟨e1, e2⟩ := hN (p / 2) (q / 2) (by omega) (by omega)
  have hx : p % 2 < 2 := Nat.mod_lt _ (by decide)
  simp only [wpX_compareEnds, wpX_cell, wX_compareEnds_26, iv_shr1 p hp, iv_shr1 q hq, iv_c4, iv_and1]
  refine ⟨iv_cin (by omega) (by omega), nm_r (e' := nI (N (p / 2) (q / 2))) (by rw [iv_ccl (by omega) (by omega)]; exact e1) ?_⟩
  rw [iv_2r]
  have ec : (nI (2 * N (p / 2) (q / 2) + p % 2)).toNatClampNeg = 2 * N (p / 2) (q / 2) + p % 2 := nI_clamp (by omega)
  rw [ec, hM _ (by omega)]
  have vi : vp_in (nI (2 * N (p / 2) (q / 2) + p % 2)) 26 := vp_in_nI (by omega) (by decide)
  refine pk_eq (q % 2) 0 (fun e => ⟨vi, h _ ?_⟩) (fun e => ⟨vi, h _ ?_⟩) rfl rfl (by omega) (by decide)
  · have h8 := iv_sub8 _ (iv_md8 (2 * N (p / 2) (q / 2) + p % 2)) 2 (by decide)
    unfold iv_cm iv_sg
    rw [e, if_pos rfl]
    exact h8
  · have h8 := iv_sub8 _ (iv_md8 (2 * N (p / 2) (q / 2) + p % 2)) 5 (by decide)
    unfold iv_cm iv_sg
    rw [if_neg e]
    exact h8
def iv_fN (N : iv_N) (p : Nat) : Bool := decide (∀ q, q < p → iv_cm N q p ≠ 1)
theorem iv_fN_iff {p : Nat} : iv_fN N p = true ↔ ∀ q, q < p → iv_cm N q p ≠ 1 := by
  unfold iv_fN
  exact decide_eq_true_iff
theorem iv_xfst {post : Int32 → Prop} {fn : Int32} (hM : ∀ c, c < 26 → aM c = nI (iv_md c)) (hN : ∀ x y, x < 4 → y < 4 → aS (4 * x + y) = nI (N x y) ∧ N x y < 13) {p : Nat} (hp : p < 8)
    (h1 : iv_fN N p = true → post 1) (h0 : ¬ iv_fN N p = true → post 0) : wpX_isFirstOfItsNumber post (fn, fp, fk, fd, aA, aP, aL, aT, aM, a1, a2, aU, aS) (nI p) := by
  have key : ∀ d q, q + d = p → (∀ s, s < q → iv_cm N s p ≠ 1) → wX_isFirstOfItsNumber_2 post (nI p) fn fp fk fd aA aP aL aT aM a1 a2 aU aS (d + 1) (nI q) := by
    intro d
    induction d with
    | zero =>
      intro q hq hl
      have e : q = p := by omega
      subst e
      exact br_t (nI_le (Nat.le_refl _) (by omega)) (h1 (iv_fN_iff.mpr hl))
    | succ d ih =>
      intro q hq hl
      refine br_f (nI_ge (by omega) (by omega)) (iv_xcmp hM hN (by omega) hp (fun x hx => ?_))
      refine br_c (fun e => h0 (fun z => ?_)) (fun e => nm_r (nI_1 q) (ih (q + 1) (by omega) (fun s hs => ?_)))
      · exact iv_fN_iff.mp z q (by omega) (hx.1.mp e)
      · by_cases c : s = q
        · rw [c]
          exact fun z => e (hx.1.mpr z)
        · exact hl s (by omega)
  exact ⟨p + 1, key p 0 (by omega) (fun s hs => absurd hs (Nat.not_lt_zero _))⟩
theorem iv_xcount {post : Int32 → Prop} (hn : n ≤ 4) (hM : ∀ c, c < 26 → aM c = nI (iv_md c)) (hN : ∀ x y, x < 4 → y < 4 → aS (4 * x + y) = nI (N x y) ∧ N x y < 13)
    (h : post (nI (iv_ct (iv_fN N) (2 * n)))) : wpX_countNumbers post (nI n, fp, fk, fd, aA, aP, aL, aT, aM, a1, a2, aU, aS) := by
  have key : ∀ d p, p + d = 2 * n → wX_countNumbers_4 post (nI n) fp fk fd aA aP aL aT aM a1 a2 aU aS (d + 1) (nI (iv_ct (iv_fN N) p)) (nI p) := by
    intro d
    induction d with
    | zero =>
      intro p hp
      have e : p = 2 * n := by omega
      subst e
      refine br_t ?_ h
      rw [iv_2n]
      exact nI_le (Nat.le_refl _) (by omega)
    | succ d ih =>
      intro p hp
      refine br_f ?_ (iv_xfst hM hN (by omega) (fun c => ?_) (fun c => ?_))
      · rw [iv_2n]
        exact nI_ge (by omega) (by omega)
      · have := ih (p + 1) (by omega)
        rw [iv_ct, if_pos c] at this
        exact br_f (by decide) (nm_r (nI_1 _) (nm_r (nI_1 p) this))
      · have := ih (p + 1) (by omega)
        rw [iv_ct, if_neg c, Nat.add_zero] at this
        exact br_t rfl (nm_r (nI_1 p) this)
  exact ⟨2 * n + 1, key (2 * n) 0 (by omega)⟩
theorem iv_xnum {post : Int32 → Prop} (hn : n ≤ 4) (hM : ∀ c, c < 26 → aM c = nI (iv_md c)) (hN : ∀ x y, x < 4 → y < 4 → aS (4 * x + y) = nI (N x y) ∧ N x y < 13) {p : Nat} (hp : p < 8)
    (h : post (nI (iv_ct (fun q => decide (iv_cm N q p = 0) && iv_fN N q) (2 * n)))) : wpX_numberOf post (nI n, fp, fk, fd, aA, aP, aL, aT, aM, a1, a2, aU, aS) (nI p) := by
  have key : ∀ d q, q + d = 2 * n → wX_numberOf_4 post (nI p) (nI n) fp fk fd aA aP aL aT aM a1 a2 aU aS (d + 1) (nI (iv_ct (fun q => decide (iv_cm N q p = 0) && iv_fN N q) q)) (nI q) := by
    intro d
    induction d with
    | zero =>
      intro q hq
      have e : q = 2 * n := by omega
      subst e
      refine br_t ?_ h
      rw [iv_2n]
      exact nI_le (Nat.le_refl _) (by omega)
    | succ d ih =>
      intro q hq
      have := ih (q + 1) (by omega)
      rw [iv_ct] at this
      refine br_f ?_ (iv_xcmp hM hN (by omega) hp (fun x hx => ?_))
      · rw [iv_2n]
        exact nI_ge (by omega) (by omega)
      · refine br_c (fun c => ?_) (fun c => ?_)
        · have c' := hx.2.1.mp c
          rw [if_neg (by rw [Bool.and_eq_true, decide_eq_true_iff]; exact fun z => c' z.1), Nat.add_zero] at this
          exact nm_r (nI_1 q) this
        · have c' : iv_cm N q p = 0 := by
            by_cases z : iv_cm N q p = 0
            · exact z
            · exact absurd (hx.2.1.mpr z) c
          refine iv_xfst hM hN (by omega) (fun e => ?_) (fun e => ?_)
          · rw [if_pos (by rw [Bool.and_eq_true, decide_eq_true_iff]; exact ⟨c', e⟩)] at this
            exact br_f (by decide) (nm_r (nI_1 _) (nm_r (nI_1 q) this))
          · rw [if_neg (by rw [Bool.and_eq_true, decide_eq_true_iff]; exact fun z => e z.2), Nat.add_zero] at this
            exact br_t rfl (nm_r (nI_1 q) this)
  exact ⟨2 * n + 1, key (2 * n) 0 (by omega)⟩
def iv_cb (n : Nat) (N : iv_N) (i : Nat) : Nat := iv_ct (fun j => decide (iv_cm N (2 * j) (2 * i) ≠ 2) && decide (iv_cm N (2 * j + 1) (2 * i) = 2)) n
theorem iv_xcab {post : Int32 → Prop} (hn : n ≤ 4) (hM : ∀ c, c < 26 → aM c = nI (iv_md c)) (hN : ∀ x y, x < 4 → y < 4 → aS (4 * x + y) = nI (N x y) ∧ N x y < 13) {i : Nat} (hi : i < n)
    (h : post (nI (iv_cb n N i))) : wpX_countAfterBeginning post (nI n, fp, fk, fd, aA, aP, aL, aT, aM, a1, a2, aU, aS) (nI i) := by
  have key : ∀ d j, j + d = n → wX_countAfterBeginning_4 post (nI i) (nI n) fp fk fd aA aP aL aT aM a1 a2 aU aS (d + 1) (nI (iv_ct (fun j => decide (iv_cm N (2 * j) (2 * i) ≠ 2) && decide (iv_cm N (2 * j + 1) (2 * i) = 2)) j)) (nI j) := by
    intro d
    induction d with
    | zero =>
      intro j hj
      have e : j = n := by omega
      subst e
      exact br_t (nI_le (Nat.le_refl _) (by omega)) h
    | succ d ih =>
      intro j hj
      have := ih (j + 1) (by omega)
      rw [iv_ct] at this
      have e2 : (2 : Int32) * nI j + 1 = nI (2 * j + 1) := iv_2r j 1
      refine br_f (nI_ge (by omega) (by omega)) ?_
      rw [e2, iv_2n, iv_2n]
      refine iv_xcmp hM hN (by omega) (by omega) (fun x hx => br_c (fun c => ?_) (fun c => ?_))
      · have c' := hx.2.2.1.mp c
        rw [if_neg (by rw [Bool.and_eq_true, decide_eq_true_iff]; exact fun z => z.1 c'), Nat.add_zero] at this
        exact nm_r (nI_1 j) this
      · have c' : iv_cm N (2 * j) (2 * i) ≠ 2 := fun z => c (hx.2.2.1.mpr z)
        refine iv_xcmp hM hN (by omega) (by omega) (fun y hy => br_c (fun e => ?_) (fun e => ?_))
        · have e' := hy.2.2.2.mp e
          rw [if_neg (by rw [Bool.and_eq_true, decide_eq_true_iff, decide_eq_true_iff]; exact fun z => e' z.2), Nat.add_zero] at this
          exact nm_r (nI_1 j) this
        · have e' : iv_cm N (2 * j + 1) (2 * i) = 2 := by
            by_cases z : iv_cm N (2 * j + 1) (2 * i) = 2
            · exact z
            · exact absurd (hy.2.2.2.mpr z) e
          rw [if_pos (by rw [Bool.and_eq_true, decide_eq_true_iff, decide_eq_true_iff]; exact ⟨c', e'⟩)] at this
          exact nm_r (nI_1 _) (nm_r (nI_1 j) this)
  exact ⟨n + 1, key n 0 (by omega)⟩
theorem iv_xcrowd {post : Int32 → SX → Prop} (hn : n ≤ 4) (hM : ∀ c, c < 26 → aM c = nI (iv_md c)) (hN : ∀ x y, x < 4 → y < 4 → aS (4 * x + y) = nI (N x y) ∧ N x y < 13)
    (h : post (nI (iv_mx (iv_cb n N) n)) (nI n, fp, fk, fd, aA, aP, aL, aT, aM, a1, a2, aU, aS)) : ∃ f, wX_crowd_15 post (nI n) fp fk fd aA aP aL aT aM a1 a2 aU aS f 0 0 := by
  have hb : ∀ i, iv_cb n N i < 2 ^ 31 := fun i => Nat.lt_of_le_of_lt (iv_ct_ub _ _) (by omega)
  have hm : ∀ i, iv_mx (iv_cb n N) i < 2 ^ 31 := fun i => Nat.lt_of_le_of_lt ((iv_mx_le (B := 4) i).mpr (fun j _ => Nat.le_trans (iv_ct_ub _ _) hn)) (by decide)
  have key : ∀ d i, i + d = n → wX_crowd_15 post (nI n) fp fk fd aA aP aL aT aM a1 a2 aU aS (d + 1) (nI (iv_mx (iv_cb n N) i)) (nI i) := by
    intro d
    induction d with
    | zero =>
      intro i hi
      have e : i = n := by omega
      subst e
      exact br_t (nI_le (Nat.le_refl _) (by omega)) h
    | succ d ih =>
      intro i hi
      have := ih (i + 1) (by omega)
      rw [iv_mx] at this
      refine br_f (nI_ge (by omega) (by omega)) (iv_xcab hn hM hN (by omega) ?_)
      refine pk_le (iv_cb n N i) (iv_mx (iv_cb n N) i) (fun c => ?_) (fun c => ?_) rfl rfl (hb i) (hm i)
      · rw [if_neg (by omega)] at this
        exact nm_r (nI_1 i) this
      · rw [if_pos c] at this
        exact nm_r (nI_1 i) this
  exact ⟨n + 1, key n 0 (by omega)⟩
end
end
section
section
variable {fn fk : Int32} {aA aP aL aT aM a1 a2 : Nat → Int32} {n P : Nat} {A : iv_N}
theorem iv_xnext {post : Int32 → SX → Prop} (hE : iv_XE n A aA aT a1 a2) (hP : P = (iv_ps n).length) {fs : List iv_Fr} {aU aS : Nat → Int32} (hne : fs ≠ []) (hF : iv_FS n aU aS fs) (hM : iv_mu A fs < 1000000)
    (H0 : iv_rem A fs = [] → ∀ fd aU' aS', post 0 (fn, nI P, fk, fd, aA, aP, aL, aT, aM, a1, a2, aU', aS'))
    (H1 : ∀ N tl fs' aU' aS', iv_rem A fs = N :: tl → iv_rem A fs' = tl → fs' ≠ [] → iv_FS n aU' aS' fs' → iv_mu A fs' < iv_mu A fs → (∀ x y, x < 4 → y < 4 → aS' (4 * x + y) = nI (N x y) ∧ N x y < 13) →
      post 1 (fn, nI P, fk, nI (fs'.length - 1), aA, aP, aL, aT, aM, a1, a2, aU', aS')) :
    wpX_nextScenario post (fn, nI P, fk, nI (fs.length - 1), aA, aP, aL, aT, aM, a1, a2, aU, aS) :=
  ⟨iv_mu A fs + 1, iv_xnext_l hE hP (iv_mu A fs) fs aU aS 0 (iv_mu A fs + 1) hne hF (Nat.le_refl _) (by omega) (by omega) H0 H1⟩
theorem iv_ps_hd {n : Nat} (hn : iv_n n) : ∃ tl, iv_ps n = (0, 1) :: tl := by
  rcases hn with h | h | h <;> subst h <;> exact ⟨_, rfl⟩
theorem iv_xstart {post : SX → Prop} {fd : Int32} {aU aS : Nat → Int32} (hE : iv_XE n A aA aT a1 a2) (hS : ∀ x y, x < 4 → y < 4 → iv_off (iv_ps n) x y → aS (4 * x + y) = 6)
    (h : ∀ fs aU', fs ≠ [] → iv_FS n aU' aS fs → iv_rem A fs = iv_nets A (iv_ps n) iv_R0 → iv_mu A fs ≤ 225468 → post (fn, nI P, fk, nI (fs.length - 1), aA, aP, aL, aT, aM, a1, a2, aU', aS)) :
    wpX_startSearch post (fn, nI P, fk, fd, aA, aP, aL, aT, aM, a1, a2, aU, aS) := by
  obtain ⟨hn, hT, hps, hA⟩ := hE
  obtain ⟨tl, ht⟩ := iv_ps_hd hn
  have hl : 0 < (iv_ps n).length := by
    rw [ht, List.length_cons]
    omega
  have h1n : 1 < n := by
    unfold iv_n at hn
    omega
  have q := hps 0 hl
  have hg : (iv_ps n).getD 0 (0, 0) = (0, 1) := by
    rw [ht]
    rfl
  rw [hg] at q
  have hmu := iv_ko_n hn A iv_R0
  unfold wpX_startSearch
  dsimp only
  refine iv_xopen (d := 0) (A := A) (R := iv_R0) (i := 0) (j := 1) (by decide) q.1 q.2 (by decide) (by decide) (hA 0 1 (by decide) h1n).1 hT (fun m hm => absurd hm (Nat.not_lt_zero _)) ?_
  dsimp only
  refine h [((0, 1), tl, iv_R0, iv_opn A iv_R0 0 1)] (upd aU 0 (nI (iv_opn A iv_R0 0 1))) (by simp) ⟨⟨?_, pk_us, iv_om_lt (hA 0 1 (by decide) h1n).2 _, ?_⟩, trivial⟩ ?_ ?_
  · exact ht.symm
  · intro x y hx hy ho
    refine ⟨hS x y hx hy ?_, (by decide : 6 < 13)⟩
    rw [ht]
    exact ho
  · rw [iv_rem, iv_rem, ht, iv_nets_g]
    exact List.append_nil _
  · rw [iv_mu, iv_mu]
    rw [ht, iv_ko] at hmu
    exact hmu
theorem iv_xscen {post : Int32 → SX → Prop} {fd : Int32} {aU aS : Nat → Int32} (hE : iv_XE n A aA aT a1 a2) (hP : P = (iv_ps n).length) (hS : ∀ x y, x < 4 → y < 4 → iv_off (iv_ps n) x y → aS (4 * x + y) = 6)
    (h : ∀ fd aU' aS', post (nI (iv_nets A (iv_ps n) iv_R0).length) (fn, nI P, fk, fd, aA, aP, aL, aT, aM, a1, a2, aU', aS')) :
    wpX_scenarios post (fn, nI P, fk, fd, aA, aP, aL, aT, aM, a1, a2, aU, aS) := by
  have key : ∀ (l : List iv_N) (c : Nat) (fs : List iv_Fr) (aU aS : Nat → Int32), iv_rem A fs = l → fs ≠ [] → iv_FS n aU aS fs → iv_mu A fs + c < 1000000 →
      (∀ fd aU' aS', post (nI (c + l.length)) (fn, nI P, fk, fd, aA, aP, aL, aT, aM, a1, a2, aU', aS')) →
      wX_scenarios_6 post (l.length + 1) (nI c) fn (nI P) fk (nI (fs.length - 1)) aA aP aL aT aM a1 a2 aU aS := by
    intro l
    induction l with
    | nil =>
      intro c fs aU aS hr hne hF hm hp
      refine br_f (nI_ge (b := 1000000) (by omega) (by decide)) (iv_xnext hE hP hne hF (by omega) (fun _ fd aU' aS' => ?_) (fun N tl fs' aU' aS' z1 _ _ _ _ _ => ?_))
      · exact br_t rfl (hp fd aU' aS')
      · rw [hr] at z1
        cases z1
    | cons N0 l ih =>
      intro c fs aU aS hr hne hF hm hp
      refine br_f (nI_ge (b := 1000000) (by omega) (by decide)) (iv_xnext hE hP hne hF (by omega) (fun z => ?_) (fun N tl fs' aU' aS' z1 z2 z3 z4 z5 z6 => ?_))
      · rw [hr] at z
        cases z
      · rw [hr] at z1
        cases z1
        refine br_f (by decide) (nm_r (nI_1 c) (ih (c + 1) fs' aU' aS' z2 z3 z4 (by omega) (fun fd aU' aS' => ?_)))
        have := hp fd aU' aS'
        rw [List.length_cons, show c + (l.length + 1) = c + 1 + l.length by omega] at this
        exact this
  unfold wpX_scenarios
  dsimp only
  refine iv_xstart hE hS (fun fs aU' hne hF hr hm => ⟨_, key _ 0 fs aU' aS hr hne hF (by omega) (fun fd aU' aS' => ?_)⟩)
  rw [Nat.zero_add]
  exact h fd aU' aS'
theorem iv_1or {x a : Nat} (ha : a < 13) : nI x ||| ((1 : Int32) <<< (nI a &&& 31)) = nI (x ||| 1 <<< a) := by
  rw [iv_1shl a ha, iv_or32, Nat.one_shiftLeft]
theorem iv_xfound {post : Int32 → SX → Prop} {fd : Int32} {aU aS : Nat → Int32} (hE : iv_XE n A aA aT a1 a2) (hP : P = (iv_ps n).length) (hS : ∀ x y, x < 4 → y < 4 → iv_off (iv_ps n) x y → aS (4 * x + y) = 6)
    {i j : Nat} (hi : i < 4) (hj : j < 4)
    (h : ∀ fd aU' aS', post (nI (iv_or ((iv_nets A (iv_ps n) iv_R0).map (fun N => N i j)))) (fn, nI P, fk, fd, aA, aP, aL, aT, aM, a1, a2, aU', aS')) :
    wpX_relationsFound post (fn, nI P, fk, fd, aA, aP, aL, aT, aM, a1, a2, aU, aS) (nI i) (nI j) := by
  have key : ∀ (l : List iv_N) (acc : List Nat) (c : Nat) (fs : List iv_Fr) (aU aS : Nat → Int32), iv_rem A fs = l → fs ≠ [] → iv_FS n aU aS fs → iv_mu A fs + c < 1000000 →
      (∀ fd aU' aS', post (nI (iv_or (acc ++ l.map (fun N => N i j)))) (fn, nI P, fk, fd, aA, aP, aL, aT, aM, a1, a2, aU', aS')) →
      wX_relationsFound_9 post (nI i) (nI j) (l.length + 1) (nI (iv_or acc)) (nI c) fn (nI P) fk (nI (fs.length - 1)) aA aP aL aT aM a1 a2 aU aS := by
    intro l
    induction l with
    | nil =>
      intro acc c fs aU aS hr hne hF hm hp
      refine br_f (nI_ge (b := 1000000) (by omega) (by decide)) (iv_xnext hE hP hne hF (by omega) (fun _ fd aU' aS' => ?_) (fun N tl fs' aU' aS' z1 _ _ _ _ _ => ?_))
      · have := hp fd aU' aS'
        rw [List.map_nil, List.append_nil] at this
        exact br_t rfl this
      · rw [hr] at z1
        cases z1
    | cons N0 l ih =>
      intro acc c fs aU aS hr hne hF hm hp
      refine br_f (nI_ge (b := 1000000) (by omega) (by decide)) (iv_xnext hE hP hne hF (by omega) (fun z => ?_) (fun N tl fs' aU' aS' z1 z2 z3 z4 z5 z6 => ?_))
      · rw [hr] at z
        cases z
      · rw [hr] at z1
        cases z1
        have e := z6 i j hi hj
        refine br_f (by decide) ?_
        simp only [wpX_cell, iv_c4]
        refine ⟨iv_cin hi hj, nm_r (e' := nI (iv_or (acc ++ [N0 i j]))) ?_ (nm_r (nI_1 c) (ih (acc ++ [N0 i j]) (c + 1) fs' aU' aS' z2 z3 z4 (by omega) (fun fd aU' aS' => ?_)))⟩
        · rw [iv_ccl hi hj, e.1, iv_1or e.2, iv_or_app]
        · have := hp fd aU' aS'
          rw [List.map_cons] at this
          rw [List.append_assoc]
          exact this
  unfold wpX_relationsFound
  dsimp only
  exact iv_xstart hE hS (fun fs aU' hne hF hr hm => ⟨_, key _ [] 0 fs aU' aS hr hne hF (by omega) h⟩)
theorem iv_xfind {post : Int32 → SX → Prop} {fd : Int32} {aU aS : Nat → Int32} {x : Int32} (hE : iv_XE n A aA aT a1 a2) (hP : P = (iv_ps n).length) (hS : ∀ x y, x < 4 → y < 4 → iv_off (iv_ps n) x y → aS (4 * x + y) = 6)
    (h0 : (∀ k N, x = nI k → (iv_nets A (iv_ps n) iv_R0)[k]? = some N → False) → ∀ fd aU' aS', post 0 (fn, nI P, fk, fd, aA, aP, aL, aT, aM, a1, a2, aU', aS'))
    (h1 : ∀ k N, x = nI k → k < 2 ^ 31 → (iv_nets A (iv_ps n) iv_R0)[k]? = some N → ∀ fd aU' aS', (∀ x y, x < 4 → y < 4 → aS' (4 * x + y) = nI (N x y) ∧ N x y < 13) → post 1 (fn, nI P, fk, fd, aA, aP, aL, aT, aM, a1, a2, aU', aS')) :
    wpX_findScenario post (fn, nI P, fk, fd, aA, aP, aL, aT, aM, a1, a2, aU, aS) x := by
  have hlen : (iv_nets A (iv_ps n) iv_R0).length ≤ 225469 := by
    have h1 := iv_nets_len A (iv_ps n) iv_R0
    have h2 := iv_ko_n hE.1 A iv_R0
    omega
  have some_lt : ∀ k N, (iv_nets A (iv_ps n) iv_R0)[k]? = some N → k < 225469 := by
    intro k N hk
    have := (List.getElem?_eq_some_iff.mp hk).1
    omega
  have key : ∀ (k : Nat) (l : List iv_N) (c : Nat) (fs : List iv_Fr) (aU aS : Nat → Int32), c + k < 1000000 → iv_rem A fs = l → fs ≠ [] → iv_FS n aU aS fs → iv_mu A fs < 1000000 →
      (l[k]? = none → ∀ fd aU' aS', post 0 (fn, nI P, fk, fd, aA, aP, aL, aT, aM, a1, a2, aU', aS')) →
      (∀ N, l[k]? = some N → ∀ fd aU' aS', (∀ x y, x < 4 → y < 4 → aS' (4 * x + y) = nI (N x y) ∧ N x y < 13) → post 1 (fn, nI P, fk, fd, aA, aP, aL, aT, aM, a1, a2, aU', aS')) →
      wX_findScenario_18 post (nI (c + k)) (k + 2) (nI c) fn (nI P) fk (nI (fs.length - 1)) aA aP aL aT aM a1 a2 aU aS := by
    intro k
    induction k with
    | zero =>
      intro l c fs aU aS hc hr hne hF hm g0 g1
      refine br_f (nI_nlt (by omega) (by omega)) (iv_xnext hE hP hne hF hm (fun z fd aU' aS' => ?_) (fun N tl fs' aU' aS' z1 z2 z3 z4 z5 z6 => ?_))
      · refine br_t rfl (g0 ?_ fd aU' aS')
        rw [← hr, z]
        rfl
      · refine br_f (by decide) (nm_r (nI_1 c) ?_)
        refine br_t (nI_lt (by omega) (by omega)) (g1 N ?_ _ _ _ z6)
        rw [← hr, z1]
        rfl
    | succ k ih =>
      intro l c fs aU aS hc hr hne hF hm g0 g1
      refine br_f (nI_nlt (by omega) (by omega)) (iv_xnext hE hP hne hF hm (fun z fd aU' aS' => ?_) (fun N tl fs' aU' aS' z1 z2 z3 z4 z5 z6 => ?_))
      · refine br_t rfl (g0 ?_ fd aU' aS')
        rw [← hr, z]
        rfl
      · refine br_f (by decide) (nm_r (nI_1 c) ?_)
        have := ih tl (c + 1) fs' aU' aS' (by omega) z2 z3 z4 (by omega) (fun z => g0 (by rw [← hr, z1]; exact z)) (fun N z => g1 N (by rw [← hr, z1]; exact z))
        rw [show c + 1 + k = c + (k + 1) by omega] at this
        exact this
  unfold wpX_findScenario
  dsimp only
  refine br_c (fun z => h0 (fun k N e hk => ?_) _ _ _) (fun z => ?_)
  · have := some_lt k N hk
    rw [e] at z
    exact nI_pos (by omega) z
  · obtain ⟨k, hk, e⟩ := nI_of z
    subst e
    refine br_c (fun w => ?_) (fun w => h0 (fun k' N e hk' => ?_) _ _ _)
    · have hk6 : k < 1000000 := by
        by_cases c : k < 1000000
        · exact c
        · exact absurd w (nI_nlt (a := k) (b := 1000000) (by omega) hk)
      refine iv_xstart hE hS (fun fs aU' hne hF hr hm => ⟨k + 2, ?_⟩)
      have := key k _ 0 fs aU' aS (by omega) hr hne hF (by omega) (fun z => h0 (fun k' N e hk' => ?_)) (fun N hN => h1 k N rfl hk hN)
      · rw [Nat.zero_add] at this
        exact this
      · have := some_lt k' N hk'
        rw [← (nI_eq hk (by omega)).mp e] at hk'
        rw [z] at hk'
        cases hk'
    · have h2 := some_lt k' N hk'
      have h3 := (nI_eq hk (by omega)).mp e
      exact w (nI_lt (a := k) (b := 1000000) (by omega) (by decide))
theorem iv_xfew {post : Int32 → SX → Prop} {fd : Int32} {aU aS : Nat → Int32} (hE : iv_XE n A aA aT a1 a2) (hP : P = (iv_ps n).length) (hS : ∀ x y, x < 4 → y < 4 → iv_off (iv_ps n) x y → aS (4 * x + y) = 6)
    (hM : ∀ c, c < 26 → aM c = nI (iv_md c))
    (h0 : iv_nets A (iv_ps n) iv_R0 = [] → ∀ fd aU' aS', post (-2) (nI n, nI P, fk, fd, aA, aP, aL, aT, aM, a1, a2, aU', aS'))
    (h1 : iv_nets A (iv_ps n) iv_R0 ≠ [] → ∀ fd aU' aS', post (nI (iv_min ((iv_nets A (iv_ps n) iv_R0).map (fun N => iv_ct (iv_fN N) (2 * n))))) (nI n, nI P, fk, fd, aA, aP, aL, aT, aM, a1, a2, aU', aS')) :
    wpX_fewest post (nI n, nI P, fk, fd, aA, aP, aL, aT, aM, a1, a2, aU, aS) := by
  have h4 : n ≤ 4 := by
    have := hE.1
    unfold iv_n at this
    omega
  have mlt : ∀ acc : List Nat, acc ≠ [] → (∀ a, a ∈ acc → a ≤ 8) → iv_min acc ≤ 8 := fun acc ha hb => hb _ (iv_min_spec acc ha).1
  have key : ∀ (l : List iv_N) (acc : List Nat) (c : Nat) (fs : List iv_Fr) (aU aS : Nat → Int32), acc ≠ [] → (∀ a, a ∈ acc → a ≤ 8) → iv_rem A fs = l → fs ≠ [] → iv_FS n aU aS fs → iv_mu A fs + c < 1000000 →
      (∀ fd aU' aS', post (nI (iv_min (acc ++ l.map (fun N => iv_ct (iv_fN N) (2 * n))))) (nI n, nI P, fk, fd, aA, aP, aL, aT, aM, a1, a2, aU', aS')) →
      wX_fewest_9 post (l.length + 1) (nI (iv_min acc)) (nI c) (nI n) (nI P) fk (nI (fs.length - 1)) aA aP aL aT aM a1 a2 aU aS := by
    intro l
    induction l with
    | nil =>
      intro acc c fs aU aS ha hb hr hne hF hm hp
      refine br_f (nI_ge (b := 1000000) (by omega) (by decide)) (iv_xnext hE hP hne hF (by omega) (fun _ fd aU' aS' => ?_) (fun N tl fs' aU' aS' z1 _ _ _ _ _ => ?_))
      · have := hp fd aU' aS'
        rw [List.map_nil, List.append_nil] at this
        exact br_t rfl this
      · rw [hr] at z1
        cases z1
    | cons N0 l ih =>
      intro acc c fs aU aS ha hb hr hne hF hm hp
      refine br_f (nI_ge (b := 1000000) (by omega) (by decide)) (iv_xnext hE hP hne hF (by omega) (fun z => ?_) (fun N tl fs' aU' aS' z1 z2 z3 z4 z5 z6 => ?_))
      · rw [hr] at z
        cases z
      · rw [hr] at z1
        cases z1
        refine br_f (by decide) (iv_xcount h4 hM z6 ?_)
        have hc8 : iv_ct (iv_fN N0) (2 * n) ≤ 8 := Nat.le_trans (iv_ct_ub _ _) (by omega)
        have hm8 := mlt acc ha hb
        have hne2 : ¬ nI (iv_min acc) = (-2 : Int32) := by
          intro z
          have := nI_pos (n := iv_min acc) (by omega)
          rw [z] at this
          exact this (by decide)
        have hgo := ih (acc ++ [iv_ct (iv_fN N0) (2 * n)]) (c + 1) fs' aU' aS' (by simp) (fun a h => by
            rcases List.mem_append.mp h with h | h
            · exact hb a h
            · rw [List.mem_singleton.mp h]
              exact hc8) z2 z3 z4 (by omega) (fun fd aU' aS' => by
            have := hp fd aU' aS'
            rw [List.map_cons] at this
            rw [List.append_assoc]
            exact this)
        rw [iv_min_app ha] at hgo
        refine br_f hne2 (pk_le (iv_min acc) (iv_ct (iv_fN N0) (2 * n)) (fun e => ?_) (fun e => ?_) rfl rfl (by omega) (by omega))
        · rw [if_neg (by omega)] at hgo
          exact nm_r (nI_1 c) hgo
        · rw [if_pos e] at hgo
          exact nm_r (nI_1 c) hgo
  unfold wpX_fewest
  dsimp only
  refine iv_xstart hE hS (fun fs aU' hne hF hr hm => ?_)
  cases hnl : iv_nets A (iv_ps n) iv_R0 with
  | nil =>
    refine ⟨1, br_f (by decide) (iv_xnext hE hP hne hF (by omega) (fun _ fd aU' aS' => br_t rfl (h0 hnl fd aU' aS')) (fun N tl fs' aU' aS' z1 _ _ _ _ _ => ?_))⟩
    rw [hr, hnl] at z1
    cases z1
  | cons N0 l =>
    refine ⟨l.length + 2, br_f (by decide) (iv_xnext hE hP hne hF (by omega) (fun z => ?_) (fun N tl fs' aU' aS' z1 z2 z3 z4 z5 z6 => ?_))⟩
    · rw [hr, hnl] at z
      cases z
    · rw [hr, hnl] at z1
      cases z1
      refine br_f (by decide) (iv_xcount h4 hM z6 (br_t rfl (nm_r (nI_1 0) ?_)))
      refine key l [iv_ct (iv_fN N0) (2 * n)] 1 fs' aU' aS' (by simp) (fun a h => ?_) z2 z3 z4 (by omega) (fun fd aU' aS' => ?_)
      · rw [List.mem_singleton.mp h]
        exact Nat.le_trans (iv_ct_ub _ _) (by omega)
      · have := h1 (by rw [hnl]; simp) fd aU' aS'
        rw [hnl, List.map_cons] at this
        exact this
end
end
section
theorem iv_it_0 {σ : Type} (F : Nat → σ → σ) (s : σ) : iv_it F 0 s = s := rfl
theorem iv_it_s {σ : Type} (F : Nat → σ → σ) (i : Nat) (s : σ) : iv_it F (i + 1) s = F i (iv_it F i s) := rfl
section
variable {fn fp fk fd : Int32} {aA aP aL aT aM a1 a2 aU aS : Nat → Int32}
theorem iv_xse {post : SX → Prop} (h : ∀ aA' aS', (∀ c, c < 16 → aA' c = nI 8191 ∧ aS' c = nI 6) → post (fn, fp, fk, fd, aA', aP, aL, aT, aM, a1, a2, aU, aS')) :
    wpX_stateEverything post (fn, fp, fk, fd, aA, aP, aL, aT, aM, a1, a2, aU, aS) := by
  have key : ∀ e x aA aS, x + e = 16 → (∀ c, c < x → aA c = nI 8191 ∧ aS c = nI 6) → wX_stateEverything_2 post fn fp fk fd (e + 1) (nI x) aA aP aL aT aM a1 a2 aU aS := by
    intro e
    induction e with
    | zero =>
      intro x aA aS hx hc
      have e : x = 16 := by omega
      subst e
      exact br_t (nI_le (a := 16) (b := 16) (by decide) (by decide)) (h aA aS hc)
    | succ e ih =>
      intro x aA aS hx hc
      have ec : (nI x).toNatClampNeg = x := nI_clamp (by omega)
      have vi : vp_in (nI x) 16 := vp_in_nI (by omega) (by decide)
      refine br_f (nI_ge (b := 16) (by omega) (by decide)) ⟨vi, ?_⟩
      rw [ec]
      refine nm_e ⟨vi, nm_e (nm_r (nI_1 x) (ih (x + 1) _ _ (by omega) (fun c hcx => ?_)))⟩
      by_cases e : c = x
      · rw [e, pk_us, pk_us]
        exact ⟨rfl, rfl⟩
      · rw [pk_un e, pk_un e]
        exact hc c (by omega)
  exact ⟨17, key 16 0 aA aS (by decide) (fun c hc => absurd hc (Nat.not_lt_zero _))⟩
end
section
variable {fp fk fd : Int32} {aA aP aL aT aM a1 a2 aU aS : Nat → Int32}
def iv_lpi (n i : Nat) : Nat × (Nat → Nat) × (Nat → Nat) := iv_it (fun i s => iv_lpj i s n) i (0, fun _ => 0, fun _ => 0)
theorem iv_lpi_2 : ∀ i, i < 2 → (iv_lpi 2 i).1 + (2 - 1 - i) ≤ 6 := by decide +kernel
theorem iv_lpi_3 : ∀ i, i < 3 → (iv_lpi 3 i).1 + (3 - 1 - i) ≤ 6 := by decide +kernel
theorem iv_lpi_4 : ∀ i, i < 4 → (iv_lpi 4 i).1 + (4 - 1 - i) ≤ 6 := by decide +kernel
theorem iv_lpi_b {n i : Nat} (hn : iv_n n) (hi : i < n) : (iv_lpi n i).1 + (n - 1 - i) ≤ 6 := by
  rcases hn with e | e | e <;> subst e
  · exact iv_lpi_2 i hi
  · exact iv_lpi_3 i hi
  · exact iv_lpi_4 i hi
def iv_lf (i : Nat) : Nat → (Nat × (Nat → Nat) × (Nat → Nat)) → Nat × (Nat → Nat) × (Nat → Nat) := fun d s => (s.1 + 1, iv_gu s.2.1 s.1 i, iv_gu s.2.2 s.1 (i + 1 + d))
theorem iv_lf_1 (i : Nat) (s : Nat × (Nat → Nat) × (Nat → Nat)) : ∀ d, (iv_it (iv_lf i) d s).1 = s.1 + d
  | 0 => rfl
  | d + 1 => by
    show (iv_it (iv_lf i) d s).1 + 1 = _
    rw [iv_lf_1 i s d]
    omega
theorem iv_xlp {post : SX → Prop} {n : Nat} (hn : iv_n n) (h : post (nI n, fp, fk, fd, aA, aP, aL, aT, aM, (fun c => nI ((iv_lp n).2.1 c)), (fun c => nI ((iv_lp n).2.2 c)), aU, aS)) :
    wpX_listPairs post (nI n, fp, fk, fd, aA, aP, aL, aT, aM, (fun _ => 0), (fun _ => 0), aU, aS) := by
  have h4 : n ≤ 4 := by
    unfold iv_n at hn
    omega
  have inner : ∀ (J4 : Int32 → Int32 → (Nat → Int32) → (Nat → Int32) → (Nat → Int32) → (Nat → Int32) → (Nat → Int32) → (Nat → Int32) → (Nat → Int32) → (Nat → Int32) → (Nat → Int32) → Prop)
      (i : Nat) (s : Nat × (Nat → Nat) × (Nat → Nat)), i < n → s.1 + (n - 1 - i) ≤ 6 →
      J4 (nI (iv_lpj i s n).1) (nI (i + 1)) aA aP aL aT aM (fun c => nI ((iv_lpj i s n).2.1 c)) (fun c => nI ((iv_lpj i s n).2.2 c)) aU aS →
      ∀ e d, d + e = n - 1 - i → wX_listPairs_16 post J4 (nI i) (nI n) fp fk fd (e + 1) (nI (iv_it (iv_lf i) d s).1) (nI (i + 1 + d)) aA aP aL aT aM (fun c => nI ((iv_it (iv_lf i) d s).2.1 c)) (fun c => nI ((iv_it (iv_lf i) d s).2.2 c)) aU aS := by
    intro J4 i s hi hs hJ e
    induction e with
    | zero =>
      intro d hd
      have e : d = n - 1 - i := by omega
      subst e
      exact br_t (nI_le (by omega) (by omega)) (nm_r (nI_1 i) hJ)
    | succ e ih =>
      intro d hd
      have h1 := iv_lf_1 i s d
      have ec : (nI (iv_it (iv_lf i) d s).1).toNatClampNeg = (iv_it (iv_lf i) d s).1 := nI_clamp (by omega)
      have vi : vp_in (nI (iv_it (iv_lf i) d s).1) 6 := vp_in_nI (by omega) (by decide)
      refine br_f (nI_ge (by omega) (by omega)) ⟨vi, ?_⟩
      rw [ec, iv_gu_u, iv_gu_u]
      exact nm_e ⟨vi, nm_e (nm_r (nI_1 _) (nm_r (nI_1 (i + 1 + d)) (ih (d + 1) (by omega))))⟩
  have outer : ∀ e i, i + e = n → wX_listPairs_4 post (nI n) fp fk fd (e + 1) (nI (iv_lpi n i).1) (nI i) aA aP aL aT aM (fun c => nI ((iv_lpi n i).2.1 c)) (fun c => nI ((iv_lpi n i).2.2 c)) aU aS := by
    intro e
    induction e with
    | zero =>
      intro i hi
      have e : i = n := by omega
      subst e
      exact br_t (nI_le (Nat.le_refl _) (by omega)) h
    | succ e ih =>
      intro i hi
      refine br_f (nI_ge (by omega) (by omega)) (nm_r (nI_1 i) ⟨n - 1 - i + 1, ?_⟩)
      exact inner _ i (iv_lpi n i) (by omega) (iv_lpi_b hn (by omega)) (ih (i + 1) (by omega)) (n - 1 - i) 0 (by omega)
  exact ⟨n + 1, outer n 0 (by omega)⟩
end
section
variable {fn fp fk fd : Int32} {aA aP aL aM a1 a2 aU aS : Nat → Int32}
theorem iv_f46 {post : SX → Prop} {J2 J13 J33 : Int32 → (Nat → Int32) → (Nat → Int32) → (Nat → Int32) → (Nat → Int32) → (Nat → Int32) → (Nat → Int32) → (Nat → Int32) → (Nat → Int32) → (Nat → Int32) → Prop}
    {xb xe yb ye zb M0 : Nat} (hxb : xb < 6) (hxe : xe < 6) (hyb : yb < 6) (hye : ye < 6) (hzb : zb < 6)
    (hJ : ∀ aT', iv_TB aT' (iv_ta4 xb xe yb ye zb M0) → J33 (nI (zb + 1)) aA aP aL aT' aM a1 a2 aU aS) :
    ∀ e d aT, d + e = 5 - zb → iv_TB aT (iv_it (fun d M => iv_tz xb xe yb ye zb (zb + 1 + d) M) d M0) →
    wX_fillTableAround_46 post J2 J13 J33 (nI yb) (nI ye) (nI xb) (nI xe) (nI (iv_rel xb xe yb ye)) (nI zb) fn fp fk fd (e + 1) (nI (zb + 1 + d)) aA aP aL aT aM a1 a2 aU aS := by
  intro e
  induction e with
  | zero =>
    intro d aT hd hT
    have e : d = 5 - zb := by omega
    subst e
    exact br_t (nI_le (a := 6) (by omega) (by omega)) (nm_r (nI_1 zb) (hJ aT hT))
  | succ e ih =>
    intro d aT hd hT
    refine br_f (nI_ge (b := 6) (by omega) (by decide)) (iv_xrel (by omega) (by omega) (by omega) (by omega) (iv_xrel (by omega) (by omega) (by omega) (by omega) ?_))
    have r1 := iv_rel_lt xb xe yb ye
    have r2 := iv_rel_lt yb ye zb (zb + 1 + d)
    have r3 := iv_rel_lt xb xe zb (zb + 1 + d)
    have vi : vp_in (nI (13 * iv_rel xb xe yb ye + iv_rel yb ye zb (zb + 1 + d))) 169 := vp_in_nI (by omega) (by decide)
    rw [iv_c13]
    refine ⟨vi, vi, ?_⟩
    rw [nI_clamp (by omega), iv_1shl _ r3]
    refine nm_e (nm_r (nI_1 _) (ih (d + 1) _ (by omega) ?_))
    rw [iv_it_s]
    exact iv_TB_s hT (by omega) r3
theorem iv_f33 {post : SX → Prop} {J2 J13 : Int32 → (Nat → Int32) → (Nat → Int32) → (Nat → Int32) → (Nat → Int32) → (Nat → Int32) → (Nat → Int32) → (Nat → Int32) → (Nat → Int32) → (Nat → Int32) → Prop}
    {xb xe yb ye M0 : Nat} (hxb : xb < 6) (hxe : xe < 6) (hyb : yb < 6) (hye : ye < 6)
    (hJ : ∀ aT', iv_TB aT' (iv_ta3 xb xe yb ye M0) → J13 (nI (xe + 1)) aA aP aL aT' aM a1 a2 aU aS) :
    ∀ e zb aT, zb + e = 6 → iv_TB aT (iv_it (fun zb M => iv_ta4 xb xe yb ye zb M) zb M0) →
    wX_fillTableAround_33 post J2 J13 (nI yb) (nI ye) (nI xb) (nI xe) (nI (iv_rel xb xe yb ye)) fn fp fk fd (e + 1) (nI zb) aA aP aL aT aM a1 a2 aU aS := by
  intro e
  induction e with
  | zero =>
    intro zb aT hd hT
    have e : zb = 6 := by omega
    subst e
    exact br_t (nI_le (a := 6) (b := 6) (by omega) (by omega)) (nm_r (nI_1 xe) (hJ aT hT))
  | succ e ih =>
    intro zb aT hd hT
    refine br_f (nI_ge (b := 6) (by omega) (by decide)) (nm_r (nI_1 zb) ⟨5 - zb + 1, ?_⟩)
    exact iv_f46 (M0 := iv_it (fun zb M => iv_ta4 xb xe yb ye zb M) zb M0) hxb hxe hyb hye (by omega) (fun aT' hT' => ih (zb + 1) aT' (by omega) (by rw [iv_it_s]; exact hT')) (5 - zb) 0 aT (by omega) (by rw [iv_it_0]; exact hT)
theorem iv_f13 {post : SX → Prop} {J2 : Int32 → (Nat → Int32) → (Nat → Int32) → (Nat → Int32) → (Nat → Int32) → (Nat → Int32) → (Nat → Int32) → (Nat → Int32) → (Nat → Int32) → (Nat → Int32) → Prop}
    {xb yb ye M0 : Nat} (hxb : xb < 6) (hyb : yb < 6) (hye : ye < 6)
    (hJ : ∀ aT', iv_TB aT' (iv_ta2 yb ye xb M0) → J2 (nI (xb + 1)) aA aP aL aT' aM a1 a2 aU aS) :
    ∀ e d aT, d + e = 5 - xb → iv_TB aT (iv_it (fun d M => iv_ta3 xb (xb + 1 + d) yb ye M) d M0) →
    wX_fillTableAround_13 post J2 (nI yb) (nI ye) (nI xb) fn fp fk fd (e + 1) (nI (xb + 1 + d)) aA aP aL aT aM a1 a2 aU aS := by
  intro e
  induction e with
  | zero =>
    intro d aT hd hT
    have e : d = 5 - xb := by omega
    subst e
    exact br_t (nI_le (a := 6) (by omega) (by omega)) (nm_r (nI_1 xb) (hJ aT hT))
  | succ e ih =>
    intro d aT hd hT
    refine br_f (nI_ge (b := 6) (by omega) (by decide)) (iv_xrel (by omega) (by omega) (by omega) (by omega) ⟨7, ?_⟩)
    exact iv_f33 (xe := xb + 1 + d) (M0 := iv_it (fun d M => iv_ta3 xb (xb + 1 + d) yb ye M) d M0) hxb (by omega) hyb hye (fun aT' hT' => ih (d + 1) aT' (by omega) (by rw [iv_it_s]; exact hT')) 6 0 aT (by omega) (by rw [iv_it_0]; exact hT)
theorem iv_f2 {post : SX → Prop} {yb ye M0 : Nat} (hyb : yb < 6) (hye : ye < 6)
    (hJ : ∀ aT', iv_TB aT' (iv_ta1 yb ye M0) → post (fn, fp, fk, fd, aA, aP, aL, aT', aM, a1, a2, aU, aS)) {aT : Nat → Int32} (hT : iv_TB aT M0) :
    wpX_fillTableAround post (fn, fp, fk, fd, aA, aP, aL, aT, aM, a1, a2, aU, aS) (nI yb) (nI ye) := by
  have key : ∀ e xb aT, xb + e = 6 → iv_TB aT (iv_it (fun xb M => iv_ta2 yb ye xb M) xb M0) →
      wX_fillTableAround_2 post (nI yb) (nI ye) fn fp fk fd (e + 1) (nI xb) aA aP aL aT aM a1 a2 aU aS := by
    intro e
    induction e with
    | zero =>
      intro xb aT hd hT
      have e : xb = 6 := by omega
      subst e
      exact br_t (nI_le (a := 6) (b := 6) (by omega) (by omega)) (hJ aT hT)
    | succ e ih =>
      intro xb aT hd hT
      refine br_f (nI_ge (b := 6) (by omega) (by decide)) (nm_r (nI_1 xb) ⟨5 - xb + 1, ?_⟩)
      exact iv_f13 (M0 := iv_it (fun xb M => iv_ta2 yb ye xb M) xb M0) (by omega) hyb hye (fun aT' hT' => ih (xb + 1) aT' (by omega) (by rw [iv_it_s]; exact hT')) (5 - xb) 0 aT (by omega) (by rw [iv_it_0]; exact hT)
  exact ⟨7, key 6 0 aT (by decide) (by rw [iv_it_0]; exact hT)⟩
theorem iv_xft0 {post : SX → Prop} {N0 : Nat} (hJ : ∀ aT', iv_TB aT' (iv_ft N0) → post (fn, fp, fk, fd, aA, aP, aL, aT', aM, a1, a2, aU, aS)) {aT : Nat → Int32} (hT : iv_TB aT N0) :
    wpX_fillTable post (fn, fp, fk, fd, aA, aP, aL, aT, aM, a1, a2, aU, aS) := by
  have inner : ∀ (J2 : Int32 → Int32 → Int32 → Int32 → Int32 → (Nat → Int32) → (Nat → Int32) → (Nat → Int32) → (Nat → Int32) → (Nat → Int32) → (Nat → Int32) → (Nat → Int32) → (Nat → Int32) → (Nat → Int32) → Prop) (b M0 : Nat), b < 6 →
      (∀ aT', iv_TB aT' (iv_ft1 b M0) → J2 (nI (b + 1)) fn fp fk fd aA aP aL aT' aM a1 a2 aU aS) →
      ∀ e d aT, d + e = 5 - b → iv_TB aT (iv_it (fun d M => iv_ta1 b (b + 1 + d) M) d M0) →
      wX_fillTable_12 post J2 (nI b) (e + 1) (nI (b + 1 + d)) fn fp fk fd aA aP aL aT aM a1 a2 aU aS := by
    intro J2 b M0 hb hJ2 e
    induction e with
    | zero =>
      intro d aT hd hT
      have e : d = 5 - b := by omega
      subst e
      exact br_t (nI_le (a := 6) (by omega) (by omega)) (nm_r (nI_1 b) (hJ2 aT hT))
    | succ e ih =>
      intro d aT hd hT
      refine br_f (nI_ge (b := 6) (by omega) (by decide)) ?_
      refine iv_f2 (M0 := iv_it (fun d M => iv_ta1 b (b + 1 + d) M) d M0) hb (by omega) (fun aT' hT' => ?_) hT
      exact nm_r (nI_1 (b + 1 + d)) (ih (d + 1) aT' (by omega) (by rw [iv_it_s]; exact hT'))
  have outer : ∀ e b aT, b + e = 6 → iv_TB aT (iv_it (fun b M => iv_ft1 b M) b N0) →
      wX_fillTable_2 post (e + 1) (nI b) fn fp fk fd aA aP aL aT aM a1 a2 aU aS := by
    intro e
    induction e with
    | zero =>
      intro b aT hd hT
      have e : b = 6 := by omega
      subst e
      exact br_t (nI_le (a := 6) (b := 6) (by omega) (by omega)) (hJ aT hT)
    | succ e ih =>
      intro b aT hd hT
      refine br_f (nI_ge (b := 6) (by omega) (by decide)) (nm_r (nI_1 b) ⟨5 - b + 1, ?_⟩)
      exact inner (wX_fillTable_2 post (e + 1)) b (iv_it (fun b M => iv_ft1 b M) b N0) (by omega) (fun aT' hT' => ih (b + 1) aT' (by omega) (by rw [iv_it_s]; exact hT')) (5 - b) 0 aT (by omega) (by rw [iv_it_0]; exact hT)
  exact ⟨7, outer 6 0 aT (by decide) (by rw [iv_it_0]; exact hT)⟩
theorem iv_xft {post : SX → Prop} (hJ : ∀ aT', iv_TB aT' iv_big → post (fn, fp, fk, fd, aA, aP, aL, aT', aM, a1, a2, aU, aS)) :
    wpX_fillTable post (fn, fp, fk, fd, aA, aP, aL, (fun _ => 0), aM, a1, a2, aU, aS) := by
  refine iv_xft0 (N0 := 0) (fun aT' h => hJ aT' ?_) iv_TB_0
  rw [iv_ft_big] at h
  exact h
end
section
variable {fn fp fk fd : Int32} {aA aP aL aT a1 a2 aU aS : Nat → Int32}
theorem iv_xfm {post : SX → Prop} (h : post (fn, fp, fk, fd, aA, aP, aL, aT, (fun c => nI (iv_fm c)), a1, a2, aU, aS)) :
    wpX_fillModel post (fn, fp, fk, fd, aA, aP, aL, aT, (fun _ => 0), a1, a2, aU, aS) := by
  have inner : ∀ (J2 : Int32 → (Nat → Int32) → (Nat → Int32) → (Nat → Int32) → (Nat → Int32) → (Nat → Int32) → (Nat → Int32) → (Nat → Int32) → (Nat → Int32) → (Nat → Int32) → Prop) (b : Nat) (g : Nat → Nat), b < 8 →
      J2 (nI (b + 1)) aA aP aL aT (fun c => nI (iv_fm1 b g c)) a1 a2 aU aS →
      ∀ e d, d + e = 7 - b → wX_fillModel_12 post J2 (nI b) fn fp fk fd (e + 1) (nI (b + 1 + d)) aA aP aL aT
        (fun c => nI (iv_it (fun d g => iv_gu (iv_gu g (2 * iv_rel b (b + 1 + d) 2 5) b) (2 * iv_rel b (b + 1 + d) 2 5 + 1) (b + 1 + d)) d g c)) a1 a2 aU aS := by
    intro J2 b g hb hJ2 e
    induction e with
    | zero =>
      intro d hd
      have e : d = 7 - b := by omega
      subst e
      exact br_t (nI_le (a := 8) (by omega) (by omega)) (nm_r (nI_1 b) hJ2)
    | succ e ih =>
      intro d hd
      refine br_f (nI_ge (b := 8) (by omega) (by decide)) (iv_xrel (c := 2) (f := 5) (by omega) (by omega) (by omega) (by omega) ?_)
      have r1 := iv_rel_lt b (b + 1 + d) 2 5
      have e2 : (2 : Int32) * nI (iv_rel b (b + 1 + d) 2 5) + 1 = nI (2 * iv_rel b (b + 1 + d) 2 5 + 1) := iv_2r _ 1
      rw [e2, iv_2n, nI_clamp (by omega), nI_clamp (by omega)]
      refine ⟨vp_in_nI (by omega) (by decide), ?_⟩
      rw [iv_gu_u]
      refine nm_e ⟨vp_in_nI (by omega) (by decide), ?_⟩
      rw [iv_gu_u]
      exact nm_e (nm_r (nI_1 (b + 1 + d)) (ih (d + 1) (by omega)))
  have outer : ∀ e b, b + e = 8 → wX_fillModel_2 post fn fp fk fd (e + 1) (nI b) aA aP aL aT (fun c => nI (iv_it (fun b g => iv_fm1 b g) b (fun _ => 0) c)) a1 a2 aU aS := by
    intro e
    induction e with
    | zero =>
      intro b hd
      have e : b = 8 := by omega
      subst e
      exact br_t (nI_le (a := 8) (b := 8) (by omega) (by omega)) h
    | succ e ih =>
      intro b hd
      refine br_f (nI_ge (b := 8) (by omega) (by decide)) (nm_r (nI_1 b) ⟨7 - b + 1, ?_⟩)
      exact inner _ b (iv_it (fun b g => iv_fm1 b g) b (fun _ => 0)) (by omega) (ih (b + 1) (by omega)) (7 - b) 0 (by omega)
  exact ⟨9, outer 8 0 (by decide)⟩
end
end
section
theorem iv_pairs {n : Nat} (hn : iv_n n) : (nI n * (nI n - 1)) / 2 = nI (iv_ps n).length := by
  rcases hn with e | e | e <;> subst e <;> decide
def iv_cl (x : Int32) (n : Nat) : Prop := (¬ 2 ≤ x ∧ n = 2) ∨ (2 ≤ x ∧ x ≤ 4 ∧ x = nI n) ∨ (2 ≤ x ∧ ¬ x ≤ 4 ∧ n = 4)
theorem iv_cl_ex (x : Int32) : ∃ n, iv_n n ∧ iv_cl x n := by
  by_cases h : 2 ≤ x
  · by_cases h' : x ≤ 4
    · have h0 : ¬ x < 0 := fun z => absurd (Int32.lt_of_le_of_lt h z) (by decide)
      obtain ⟨k, hk, e⟩ := nI_of h0
      subst e
      have h1 : 2 ≤ k := (nI_leI (a := 2) (b := k) (by decide) hk).mp h
      have h2 : k ≤ 4 := (nI_leI (a := k) (b := 4) hk (by decide)).mp h'
      exact ⟨k, by unfold iv_n; omega, Or.inr (Or.inl ⟨h, h', rfl⟩)⟩
    · exact ⟨4, Or.inr (Or.inr rfl), Or.inr (Or.inr ⟨h, h', rfl⟩)⟩
  · exact ⟨2, Or.inl rfl, Or.inl ⟨h, rfl⟩⟩
theorem iv_xcl {post : Int32 → Prop} {x : Int32} {n : Nat} (hc : iv_cl x n) (h : post (nI n)) : wpX_clampIntervals post x := by
  rcases hc with ⟨h1, e⟩ | ⟨h1, h2, e⟩ | ⟨h1, h2, e⟩
  · subst e
    exact br_f h1 h
  · subst e
    exact br_t h1 (br_t h2 h)
  · subst e
    exact br_t h1 (br_f h2 h)
theorem iv_xinit {post : SX → Prop} {x : Int32} {n : Nat} (hn : iv_n n) (hc : iv_cl x n)
    (h : ∀ aA aT aS, (∀ c, c < 16 → aA c = nI 8191 ∧ aS c = nI 6) → iv_TB aT iv_big → post (nI n, nI (iv_ps n).length, 0, 0, aA, (fun _ => 0), (fun _ => 0), aT, (fun c => nI (iv_fm c)), (fun c => nI ((iv_lp n).2.1 c)), (fun c => nI ((iv_lp n).2.2 c)), (fun _ => 0), aS)) :
    wpX_init post x := by
  unfold wpX_init
  refine iv_xcl hc ⟨by decide, nm_r (iv_pairs hn) (iv_xse (fun aA aS hA => ?_))⟩
  dsimp only
  refine iv_xlp hn ?_
  dsimp only
  refine iv_xft (fun aT hT => ?_)
  dsimp only
  refine iv_xfm ?_
  exact h aA aT aS hA hT
theorem iv_xe0 {n : Nat} {A : iv_N} {aA aT : Nat → Int32} (hn : iv_n n) (hT : iv_TB aT iv_big) (hA : ∀ i j, i < j → j < n → aA (4 * i + j) = nI (A i j) ∧ A i j < 8192) :
    iv_XE n A aA aT (fun c => nI ((iv_lp n).2.1 c)) (fun c => nI ((iv_lp n).2.2 c)) := by
  refine ⟨hn, hT, fun d hd => ?_, hA⟩
  have h := iv_lp_v n (by unfold iv_n at hn; omega) (by unfold iv_n at hn; omega) d hd
  rw [← h]
  exact ⟨rfl, rfl⟩
section
variable {fn fp fk fd : Int32} {aA aP aL aT aM a1 a2 aU aS : Nat → Int32}
theorem iv_xco {post : Int32 → Prop} {a b : Nat} (hT : iv_TB aT iv_big) (ha : a < 8192) (hb : b < 8192) (h : post (nI (iv_co a b 13))) :
    wpX_composeSets post (fn, fp, fk, fd, aA, aP, aL, aT, aM, a1, a2, aU, aS) (nI a) (nI b) := by
  have inner : ∀ (J5 : Int32 → Int32 → Prop) (r acc : Nat), r < 13 → J5 (nI (iv_cc a b r acc 13)) (nI (r + 1)) →
      ∀ e s, s + e = 13 → wX_composeSets_15 post J5 (nI a) (nI b) (nI r) fn fp fk fd aA aP aL aT aM a1 a2 aU aS (e + 1) (nI (iv_cc a b r acc s)) (nI s) := by
    intro J5 r acc hr hJ e
    induction e with
    | zero =>
      intro s hs
      have e : s = 13 := by omega
      subst e
      exact br_t (nI_le (a := 13) (b := 13) (by decide) (by decide)) (nm_r (nI_1 r) hJ)
    | succ e ih =>
      intro s hs
      have hgo := ih (s + 1) (by omega)
      have b1 := iv_b2 a r
      have b2 := iv_b2 b s
      rw [iv_cc] at hgo
      refine br_f (nI_ge (b := 13) (by omega) (by decide)) ?_
      rw [iv_bit ha (by omega), iv_bit hb (by omega), iv_c13]
      refine pk_eq (iv_b a r) 1 (fun c1 => ?_) (fun c1 => ?_) rfl rfl (by omega) (by decide)
      · refine pk_eq (iv_b b s) 1 (fun c2 => ?_) (fun c2 => ?_) rfl rfl (by omega) (by decide)
        · rw [if_pos ⟨c1, c2⟩] at hgo
          refine ⟨vp_in_nI (by omega) (by decide), nm_r ?_ (nm_r (nI_1 s) hgo)⟩
          rw [nI_clamp (by omega), iv_TB_big hT hr (by omega), iv_or32]
        · rw [if_neg (fun z => c2 z.2)] at hgo
          exact nm_r (nI_1 s) hgo
      · rw [if_neg (fun z => c1 z.1)] at hgo
        exact nm_r (nI_1 s) hgo
  have outer : ∀ e r, r + e = 13 → wX_composeSets_5 post (nI a) (nI b) fn fp fk fd aA aP aL aT aM a1 a2 aU aS (e + 1) (nI (iv_co a b r)) (nI r) := by
    intro e
    induction e with
    | zero =>
      intro r hr
      have e : r = 13 := by omega
      subst e
      exact br_t (nI_le (a := 13) (b := 13) (by decide) (by decide)) h
    | succ e ih =>
      intro r hr
      exact br_f (nI_ge (b := 13) (by omega) (by decide)) ⟨14, inner _ r (iv_co a b r) (by omega) (ih (r + 1) (by omega)) 13 0 (by decide)⟩
  exact ⟨14, outer 13 0 (by decide)⟩
theorem iv_all_co : iv_co 8191 8191 13 = 8191 ∧ iv_mi 8191 13 = 8191 := by decide +kernel
theorem iv_and_all : nI 8191 &&& nI 8191 = nI 8191 := by decide
theorem iv_xdt {post : Int32 → SX → Prop} {x y z : Nat} (hT : iv_TB aT iv_big) (hx : x < 4) (hy : y < 4) (hz : z < 4) (hL : ∀ c, c < 16 → aL c = nI 8191)
    (h : ∀ aL', (∀ c, c < 16 → aL' c = nI 8191) → post 0 (fn, fp, fk, fd, aA, aP, aL', aT, aM, a1, a2, aU, aS)) :
    wpX_dropThrough post (fn, fp, fk, fd, aA, aP, aL, aT, aM, a1, a2, aU, aS) (nI x) (nI y) (nI z) := by
  unfold wpX_dropThrough
  simp only [wpX_cell, iv_c4]
  refine ⟨iv_cin hx hy, nm_r (e' := nI 8191) (by rw [iv_ccl hx hy]; exact hL _ (by omega)) ⟨iv_cin hy hz, nm_r (e' := nI 8191) (by rw [iv_ccl hy hz]; exact hL _ (by omega)) ⟨iv_cin hx hz, nm_r (e' := nI 8191) (by rw [iv_ccl hx hz]; exact hL _ (by omega)) ?_⟩⟩⟩
  refine iv_xco hT (by decide) (by decide) ?_
  rw [iv_all_co.1]
  refine nm_r iv_and_all ⟨iv_cin hx hz, ?_⟩
  rw [iv_ccl hx hz, iv_ccl hz hx]
  refine nm_e (iv_xmir (by decide) ?_)
  rw [iv_all_co.2]
  refine ⟨iv_cin hz hx, nm_e (br_t rfl (h _ (fun c hc => ?_)))⟩
  by_cases e : c = 4 * z + x
  · rw [e, pk_us]
  · rw [pk_un e]
    by_cases e' : c = 4 * x + z
    · rw [e', pk_us]
    · rw [pk_un e']
      exact hL c hc
end
section
variable {fp fk fd : Int32} {aA aP aT aM a1 a2 aU aS : Nat → Int32}
theorem iv_xda {post : Int32 → SX → Prop} {n : Nat} {aL : Nat → Int32} (hn : n ≤ 4) (hT : iv_TB aT iv_big) (hL : ∀ c, c < 16 → aL c = nI 8191)
    (h : ∀ aL', (∀ c, c < 16 → aL' c = nI 8191) → post 0 (nI n, fp, fk, fd, aA, aP, aL', aT, aM, a1, a2, aU, aS)) :
    wpX_dropFromAll post (nI n, fp, fk, fd, aA, aP, aL, aT, aM, a1, a2, aU, aS) := by
  have in3 : ∀ (J4 J14 : Int32 → Int32 → Int32 → Int32 → Int32 → Int32 → (Nat → Int32) → (Nat → Int32) → (Nat → Int32) → (Nat → Int32) → (Nat → Int32) → (Nat → Int32) → (Nat → Int32) → (Nat → Int32) → (Nat → Int32) → Prop) (x y : Nat), x < n → y < n →
      (∀ aL', (∀ c, c < 16 → aL' c = nI 8191) → J14 0 (nI (y + 1)) (nI n) fp fk fd aA aP aL' aT aM a1 a2 aU aS) →
      ∀ e z aL, z + e = n → (∀ c, c < 16 → aL c = nI 8191) → wX_dropFromAll_25 post J4 J14 (nI x) (nI y) (e + 1) 0 (nI z) (nI n) fp fk fd aA aP aL aT aM a1 a2 aU aS := by
    intro J4 J14 x y hx hy hJ e
    induction e with
    | zero =>
      intro z aL hz hL
      have e : z = n := by omega
      subst e
      exact br_t (nI_le (Nat.le_refl _) (by omega)) (nm_r (nI_1 y) (hJ aL hL))
    | succ e ih =>
      intro z aL hz hL
      refine br_f (nI_ge (by omega) (by omega)) (br_c (fun _ => nm_r (nI_1 z) (ih (z + 1) aL (by omega) hL)) (fun _ => br_c (fun _ => nm_r (nI_1 z) (ih (z + 1) aL (by omega) hL)) (fun _ => br_c (fun _ => nm_r (nI_1 z) (ih (z + 1) aL (by omega) hL)) (fun _ => ?_))))
      exact iv_xdt hT (by omega) (by omega) (by omega) hL (fun aL' hL' => br_t rfl (nm_r (nI_1 z) (ih (z + 1) aL' (by omega) hL')))
  have in2 : ∀ (J4 : Int32 → Int32 → Int32 → Int32 → Int32 → Int32 → (Nat → Int32) → (Nat → Int32) → (Nat → Int32) → (Nat → Int32) → (Nat → Int32) → (Nat → Int32) → (Nat → Int32) → (Nat → Int32) → (Nat → Int32) → Prop) (x : Nat), x < n →
      (∀ aL', (∀ c, c < 16 → aL' c = nI 8191) → J4 0 (nI (x + 1)) (nI n) fp fk fd aA aP aL' aT aM a1 a2 aU aS) →
      ∀ e y aL, y + e = n → (∀ c, c < 16 → aL c = nI 8191) → wX_dropFromAll_14 post J4 (nI x) (e + 1) 0 (nI y) (nI n) fp fk fd aA aP aL aT aM a1 a2 aU aS := by
    intro J4 x hx hJ e
    induction e with
    | zero =>
      intro y aL hz hL
      have e : y = n := by omega
      subst e
      exact br_t (nI_le (Nat.le_refl _) (by omega)) (nm_r (nI_1 x) (hJ aL hL))
    | succ e ih =>
      intro y aL hz hL
      exact br_f (nI_ge (by omega) (by omega)) ⟨n + 1, in3 J4 (wX_dropFromAll_14 post J4 (nI x) (e + 1)) x y hx (by omega) (fun aL' hL' => ih (y + 1) aL' (by omega) hL') n 0 aL (by omega) hL⟩
  have in1 : ∀ e x aL, x + e = n → (∀ c, c < 16 → aL c = nI 8191) → wX_dropFromAll_4 post (e + 1) 0 (nI x) (nI n) fp fk fd aA aP aL aT aM a1 a2 aU aS := by
    intro e
    induction e with
    | zero =>
      intro x aL hz hL
      have e : x = n := by omega
      subst e
      exact br_t (nI_le (Nat.le_refl _) (by omega)) ⟨rfl, h aL hL⟩
    | succ e ih =>
      intro x aL hz hL
      exact br_f (nI_ge (by omega) (by omega)) ⟨n + 1, in2 (wX_dropFromAll_4 post (e + 1)) x (by omega) (fun aL' hL' => ih (x + 1) aL' (by omega) hL') n 0 aL (by omega) hL⟩
  exact ⟨n + 1, in1 n 0 aL (by omega) hL⟩
theorem iv_xclosed {post : Int32 → SX → Prop} {n i j : Nat} {aL : Nat → Int32} (hn : n ≤ 4) (hi : i < 4) (hj : j < 4) (hT : iv_TB aT iv_big) (hA : ∀ c, c < 16 → aA c = nI 8191)
    (h : ∀ aL', post (nI 8191) (nI n, fp, fk, fd, aA, aP, aL', aT, aM, a1, a2, aU, aS)) :
    ∃ f, wX_closed_13 post (nI i) (nI j) (nI n) fp fk fd f 0 aA aP aL aT aM a1 a2 aU aS := by
  have fin : ∀ aL, (∀ c, c < 16 → aL c = nI 8191) → wX_closed_64 post (nI i) (nI j) (nI n) fp fk fd aA aP aL aT aM a1 a2 aU aS := by
    intro aL hL
    unfold wX_closed_64
    simp only [wpX_cell, iv_c4]
    refine ⟨iv_cin hi hj, ?_⟩
    rw [iv_ccl hi hj, hL _ (by omega)]
    exact h aL
  have key : ∀ e x aL, x + e = 16 → (∀ c, c < x → aL c = nI 8191) → wX_closed_13 post (nI i) (nI j) (nI n) fp fk fd (e + 1) (nI x) aA aP aL aT aM a1 a2 aU aS := by
    intro e
    induction e with
    | zero =>
      intro x aL hx hc
      have e : x = 16 := by omega
      subst e
      refine br_t (nI_le (a := 16) (b := 16) (by decide) (by decide)) ⟨2, ?_⟩
      refine br_f (by decide) (br_f (by decide) (iv_xda hn hT hc (fun aL' hL' => ?_)))
      exact nm_r (nI_1 0) (br_f (by decide) (br_t rfl (fin aL' hL')))
    | succ e ih =>
      intro x aL hx hc
      have ec : (nI x).toNatClampNeg = x := nI_clamp (by omega)
      have vi : vp_in (nI x) 16 := vp_in_nI (by omega) (by decide)
      refine br_f (nI_ge (b := 16) (by omega) (by decide)) ⟨vi, vi, ?_⟩
      rw [ec]
      refine nm_e (nm_r (nI_1 x) (ih (x + 1) _ (by omega) (fun c hcx => ?_)))
      by_cases e : c = x
      · rw [e, pk_us]
        exact hA x (by omega)
      · rw [pk_un e]
        exact hc c (by omega)
  exact ⟨17, key 16 0 aL (by decide) (fun c hc => absurd hc (Nat.not_lt_zero _))⟩
end
end
section
theorem iv_8 (k c : Nat) : 8 * nI k + nI c = nI (8 * k + c) := by
  have h : (8 : Int32) * nI k = nI (8 * k) := pk_mul 8 k
  rw [h, nI_add]
theorem iv_88 (k c : Nat) : 8 * nI k + 8 + nI c = nI (8 * k + 8 + c) := by
  have h : (8 : Int32) * nI k + 8 = nI (8 * k + 8) := iv_8 k 8
  rw [h, nI_add]
theorem iv_d2 {p : Nat} (h : p < 2 ^ 31) : nI p / 2 = nI (p / 2) := pk_div (d := 2) h (by decide) (by decide)
theorem iv_r2 {p : Nat} (h : p < 2 ^ 31) : nI p - nI p / 2 * 2 = nI (p % 2) := pk_rem (d := 2) h (by decide) (by decide)
theorem iv_n2 : ¬ (2 : Int32) = 0 := by decide
theorem iv_f0 {p : Nat} (h : p % 2 = 0) : iv_f p = 1 := by
  unfold iv_f
  omega
theorem iv_f1 {p : Nat} (h : ¬ p % 2 = 0) : iv_f p = 0 := by
  unfold iv_f
  omega
section
variable {gi gk gt gf gl : Int32} {bS bP bA bL bN bR bE bZ : Nat → Int32}
theorem iv_yins_l {post : SY → Prop} {k p q m : Nat} {L : Nat → Nat} (hk : k ≤ 3) (hp : p < 100) (hq : q < 100) (hm : m < 100) (hL : ∀ c, c < 2 * k → L c < 100) (hN : bN k = nI m) {bT : Nat → Int32} (hT : ∀ c, c < 2 * k → bT (8 * k + c) = nI (L c))
    (h : ∀ bT', (∀ c, c < 2 * (k + 1) → bT' (8 * (k + 1) + c) = nI (iv_ex k L p q c)) → (∀ c, c < 8 * (k + 1) → bT' c = bT c) → post (gi, gk, gt, gf, gl, bS, bP, bA, bL, bT', upd bN (k + 1) (nI (m + iv_f p + iv_f q)), bR, bE, bZ)) :
    ∃ f, wY_insert_29 post (nI k) (nI p) (nI q) (nI (iv_f p)) (nI (iv_f q)) gi gk gt gf gl f 0 bS bP bA bL bT bN bR bE bZ := by
  have key : ∀ e c bT1, c + e = 2 * k → (∀ a, a < c → bT1 (8 * k + 8 + a) = nI (iv_sh p q (L a))) → (∀ a, a < 8 * (k + 1) → bT1 a = bT a) →
      wY_insert_29 post (nI k) (nI p) (nI q) (nI (iv_f p)) (nI (iv_f q)) gi gk gt gf gl (e + 1) (nI c) bS bP bA bL bT1 bN bR bE bZ := by
    intro e
    induction e with
    | zero =>
      intro c bT1 hc h1 h2
      have e : c = 2 * k := by omega
      subst e
      refine br_t (by rw [iv_2n]; exact nI_le (Nat.le_refl _) (by omega)) ?_
      rw [iv_2n, iv_88, iv_d2 (p := p) (by omega), iv_d2 (p := q) (by omega), nI_1 (8 * k + 8 + 2 * k), nI_1 k, nI_add (q / 2), nI_clamp (n := 8 * k + 8 + 2 * k) (by omega), nI_clamp (n := 8 * k + 8 + 2 * k + 1) (by omega), nI_clamp (n := k) (by omega), nI_clamp (n := k + 1) (by omega), hN, nI_add m, nI_add (m + iv_f p)]
      refine ⟨iv_n2, vp_in_nI (by omega) (by decide), nm_e ⟨iv_n2, vp_in_nI (by omega) (by decide), nm_e ⟨vp_in_nI (by omega) (by decide), vp_in_nI (by omega) (by decide), nm_e (h _ (fun a ha => ?_) (fun a ha => ?_))⟩⟩⟩
      · by_cases c1 : a = 2 * k + 1
        · rw [c1, iv_ex_e, show 8 * (k + 1) + (2 * k + 1) = 8 * k + 8 + 2 * k + 1 by omega, pk_us]
        · rw [pk_un (by omega)]
          by_cases c2 : a = 2 * k
          · rw [c2, iv_ex_b, show 8 * (k + 1) + 2 * k = 8 * k + 8 + 2 * k by omega, pk_us]
          · rw [pk_un (by omega), iv_ex_o (by omega), show 8 * (k + 1) + a = 8 * k + 8 + a by omega]
            exact h1 a (by omega)
      · rw [pk_un (by omega), pk_un (by omega)]
        exact h2 a ha
    | succ e ih =>
      intro c bT1 hc h1 h2
      have hv : bT1 (8 * k + c) = nI (L c) := by
        rw [h2 _ (by omega)]
        exact hT c (by omega)
      have hl := hL c (by omega)
      have hgo : ∀ w, w = iv_sh p q (L c) → ∀ bT2, bT2 = upd bT1 (8 * k + 8 + c) (nI w) →
          wY_insert_29 post (nI k) (nI p) (nI q) (nI (iv_f p)) (nI (iv_f q)) gi gk gt gf gl (e + 1) (nI (c + 1)) bS bP bA bL bT2 bN bR bE bZ := by
        intro w hw bT2 hb
        subst hw hb
        refine ih (c + 1) _ (by omega) (fun a ha => ?_) (fun a ha => ?_)
        · by_cases c1 : a = c
          · rw [c1, pk_us]
          · rw [pk_un (by omega)]
            exact h1 a (by omega)
        · rw [pk_un (by omega)]
          exact h2 a ha
      have st : ∀ z0 z1, nI (L c) + (nI z1 + nI z0) = nI (L c + (z1 + z0)) := fun z0 z1 => by rw [nI_add, nI_add]
      have fin : ∀ z0 z1, L c + (z1 + z0) = iv_sh p q (L c) →
          wY_insert_79 post (wY_insert_29 post (nI k) (nI p) (nI q) (nI (iv_f p)) (nI (iv_f q)) gi gk gt gf gl (e + 1)) (nI k) (nI p) (nI q) (nI (iv_f p)) (nI (iv_f q)) (nI c) (nI (L c)) (nI z0) (nI z1) gi gk gt gf gl bS bP bA bL bT1 bN bR bE bZ := by
        intro z0 z1 hz
        unfold wY_insert_79
        rw [iv_88, nI_clamp (by omega)]
        refine nm_e ⟨vp_in_nI (by omega) (by decide), ?_⟩
        rw [st]
        exact fun bT2 e2 => nm_r (nI_1 c) (hgo _ hz bT2 e2)
      have fin2 : ∀ z1, z1 = (if p / 2 ≤ L c then iv_f p else 0) →
          wY_insert_65 post (wY_insert_29 post (nI k) (nI p) (nI q) (nI (iv_f p)) (nI (iv_f q)) gi gk gt gf gl (e + 1)) (nI k) (nI p) (nI q) (nI (iv_f p)) (nI (iv_f q)) (nI c) (nI (L c)) (nI z1) gi gk gt gf gl bS bP bA bL bT1 bN bR bE bZ := by
        intro z1 hz
        unfold wY_insert_65
        rw [iv_d2 (by omega)]
        refine ⟨iv_n2, pk_lt (L c) (q / 2) (fun g => fin 0 z1 ?_) (fun g => fin (iv_f q) z1 ?_) rfl rfl (by omega) (by omega)⟩
        · unfold iv_sh
          rw [hz, if_neg (show ¬ q / 2 ≤ L c by omega)]
        · unfold iv_sh
          rw [hz, if_pos g]
      refine br_f (by rw [iv_2n]; exact nI_ge (by omega) (by omega)) ?_
      rw [iv_8, nI_clamp (by omega), hv, iv_d2 (p := p) (by omega)]
      refine ⟨vp_in_nI (by omega) (by decide), nm_e ⟨iv_n2, pk_lt (L c) (p / 2) (fun g => fin2 0 ?_) (fun g => fin2 (iv_f p) ?_) rfl rfl (by omega) (by omega)⟩⟩
      · rw [if_neg (by omega)]
      · rw [if_pos g]
  exact ⟨2 * k + 1, key (2 * k) 0 bT (by omega) (fun a ha => absurd ha (Nat.not_lt_zero _)) (fun _ _ => rfl)⟩
theorem iv_yins {post : SY → Prop} {k p q m : Nat} {L : Nat → Nat} (hk : k ≤ 3) (hp : p < 100) (hq : q < 100) (hm : m < 100) (hL : ∀ c, c < 2 * k → L c < 100) (hN : bN k = nI m) {bT : Nat → Int32} (hT : ∀ c, c < 2 * k → bT (8 * k + c) = nI (L c))
    (h : ∀ bT', (∀ c, c < 2 * (k + 1) → bT' (8 * (k + 1) + c) = nI (iv_ex k L p q c)) → (∀ c, c < 8 * (k + 1) → bT' c = bT c) → post (gi, gk, gt, gf, gl, bS, bP, bA, bL, bT', upd bN (k + 1) (nI (m + iv_f p + iv_f q)), bR, bE, bZ)) :
    wpY_insert post (gi, gk, gt, gf, gl, bS, bP, bA, bL, bT, bN, bR, bE, bZ) (nI k) (nI p) (nI q) := by
  have hh := iv_yins_l hk hp hq hm hL hN hT h
  have h11 : wY_insert_11 post (nI k) (nI p) (nI q) (nI (iv_f p)) gi gk gt gf gl bS bP bA bL bT bN bR bE bZ := by
    unfold wY_insert_11
    rw [iv_r2 (by omega)]
    refine ⟨iv_n2, pk_eq (q % 2) 0 (fun g => ?_) (fun g => ?_) rfl rfl (by omega) (by decide)⟩
    · rw [iv_f0 g] at hh
      exact hh
    · rw [iv_f1 g] at hh
      exact hh
  unfold wpY_insert
  dsimp only
  rw [iv_r2 (by omega)]
  refine ⟨iv_n2, pk_eq (p % 2) 0 (fun g => ?_) (fun g => ?_) rfl rfl (by omega) (by decide)⟩
  · rw [iv_f0 g] at h11
    exact h11
  · rw [iv_f1 g] at h11
    exact h11
theorem iv_yrin {post : Int32 → Prop} {k i j : Nat} {L : Nat → Nat} {bT : Nat → Int32} (hk : k ≤ 4) (hi : i < k) (hj : j < k) (hT : ∀ c, c < 2 * k → bT (8 * k + c) = nI (L c)) (hL : ∀ c, c < 2 * k → L c < 100) (h : post (nI (iv_rl L i j))) :
    wpY_relationIn post (gi, gk, gt, gf, gl, bS, bP, bA, bL, bT, bN, bR, bE, bZ) (nI k) (nI i) (nI j) := by
  have l1 := hL (2 * i) (by omega)
  have l2 := hL (2 * i + 1) (by omega)
  have l3 := hL (2 * j) (by omega)
  have l4 := hL (2 * j + 1) (by omega)
  have t1 := hT (2 * i) (by omega)
  have t2 : bT (8 * k + 2 * i + 1) = nI (L (2 * i + 1)) := hT (2 * i + 1) (by omega)
  have t3 := hT (2 * j) (by omega)
  have t4 : bT (8 * k + 2 * j + 1) = nI (L (2 * j + 1)) := hT (2 * j + 1) (by omega)
  simp only [wpY_relationIn, iv_2n, iv_8, nI_1]
  rw [nI_clamp (by omega), nI_clamp (by omega), nI_clamp (by omega), nI_clamp (by omega), t1, t2, t3, t4]
  exact ⟨vp_in_nI (by omega) (by decide), vp_in_nI (by omega) (by decide), vp_in_nI (by omega) (by decide), vp_in_nI (by omega) (by decide), iv_yrel (by omega) (by omega) (by omega) (by omega) h⟩
theorem iv_yfits {post : Int32 → Prop} {k : Nat} {A : iv_N} {L : Nat → Nat} {bT : Nat → Int32} (hk : k ≤ 3) (hT : ∀ c, c < 2 * (k + 1) → bT (8 * (k + 1) + c) = nI (L c)) (hL : ∀ c, c < 2 * (k + 1) → L c < 100)
    (hA : ∀ i, i < k → bA (4 * i + k) = nI (A i k) ∧ A i k < 8192) (h1 : iv_fit A k L = true → post 1) (h0 : ¬ iv_fit A k L = true → post 0) :
    wpY_fits post (gi, gk, gt, gf, gl, bS, bP, bA, bL, bT, bN, bR, bE, bZ) (nI k) := by
  have z0 : ∀ e i, i + e = k → ¬ iv_fit A k L = true → wY_fits_4 post (nI k) gi gk gt gf gl bS bP bA bL bT bN bR bE bZ (e + 1) 0 (nI i) := by
    intro e
    induction e with
    | zero =>
      intro i hi hf
      have e : i = k := by omega
      subst e
      exact br_t (nI_le (Nat.le_refl _) (by omega)) ⟨rfl, h0 hf⟩
    | succ e ih =>
      intro i hi hf
      refine br_f (nI_ge (by omega) (by omega)) ?_
      rw [nI_1 k]
      exact (iv_yrin (by omega) (by omega) (by omega) hT hL (br_t rfl (nm_r (nI_1 i) (ih (i + 1) (by omega) hf))))
  have z1 : ∀ e i, i + e = k → (∀ a, a < i → (A a k).testBit (iv_rl L a k) = true) → wY_fits_4 post (nI k) gi gk gt gf gl bS bP bA bL bT bN bR bE bZ (e + 1) 1 (nI i) := by
    intro e
    induction e with
    | zero =>
      intro i hi hf
      have e : i = k := by omega
      subst e
      exact br_t (nI_le (Nat.le_refl _) (by omega)) ⟨rfl, h1 (iv_fit_iff.mpr hf)⟩
    | succ e ih =>
      intro i hi hf
      obtain ⟨a1, a2⟩ := hA i (by omega)
      have r13 : iv_rl L i k < 13 := iv_rel_lt _ _ _ _
      have b1 := iv_b2 (A i k) (iv_rl L i k)
      refine br_f (nI_ge (by omega) (by omega)) ?_
      rw [nI_1 k, iv_4c]
      refine (iv_yrin (by omega) (by omega) (by omega) hT hL (br_f (by decide) ⟨iv_cin (by omega) (by omega), ?_⟩))
      rw [iv_ccl (by omega) (by omega), a1, iv_bit a2 (by omega)]
      refine pk_eq (iv_b (A i k) (iv_rl L i k)) 1 (fun c => nm_r (nI_1 i) (ih (i + 1) (by omega) (fun a ha => ?_))) (fun c => nm_r (nI_1 i) (z0 e (i + 1) (by omega) (fun z => c ?_))) rfl rfl (by omega) (by decide)
      · by_cases e : a = i
        · rw [e]
          exact (iv_b_1 _ _).mp c
        · exact hf a (by omega)
      · exact (iv_b_1 _ _).mpr (iv_fit_iff.mp z i (by omega))
  exact ⟨k + 1, z1 k 0 (by omega) (fun a ha => absurd ha (Nat.not_lt_zero _))⟩
end
end
section
def iv_Acc (k : Nat) (l : List ((Nat → Nat) × Nat)) (gt gf gl : Int32) (bE bZ : Nat → Int32) : Prop :=
  gt = nI l.length ∧ (∀ i j, i < k → j < k → i ≠ j → bE (4 * i + j) = nI (iv_or (l.map (fun x => iv_rl x.1 i j)))) ∧ (l = [] → gf = -2) ∧
  (l ≠ [] → gf = nI (iv_min (l.map (fun x => x.2)))) ∧ (∀ l' x, l = l' ++ [x] → gl = nI x.2 ∧ ∀ c, c < 2 * k → bZ c = nI (x.1 c))
theorem iv_uni {k i j p : Nat} (hj : j < k) : k * i + j = p ↔ (i = p / k ∧ j = p % k) := by
  constructor
  · intro e
    subst e
    rw [Nat.mul_add_div (by omega), Nat.div_eq_of_lt hj, Nat.mul_add_mod, Nat.mod_eq_of_lt hj]
    exact ⟨rfl, rfl⟩
  · rintro ⟨e1, e2⟩
    rw [e1, e2]
    exact Nat.div_add_mod p k
theorem iv_sq {k i j : Nat} (hi : i < k) (hj : j < k) : k * i + j < k * k := by
  have h1 : k * (i + 1) ≤ k * k := Nat.mul_le_mul_left _ hi
  rw [Nat.mul_add] at h1
  omega
section
variable {gi gk : Int32} {bS bP bA bL bT bN bR : Nat → Int32}
theorem iv_yvis79 {post : SY → Prop} {k m : Nat} {L : Nat → Nat} {l : List ((Nat → Nat) × Nat)} {gt gf gl : Int32} {bE bZ : Nat → Int32} (hk4 : k ≤ 4) (hT : ∀ c, c < 2 * k → bT (8 * k + c) = nI (L c)) (hN : bN k = nI m) (hm : m ≤ 8)
    (hl8 : ∀ x, x ∈ l → x.2 ≤ 8) (h1 : gt = nI (l.length + 1)) (h2 : ∀ i j, i < k → j < k → i ≠ j → bE (4 * i + j) = nI (iv_or ((l ++ [(L, m)]).map (fun x => iv_rl x.1 i j)))) (h3 : l = [] → gf = -2)
    (h4 : l ≠ [] → gf = nI (iv_min (l.map (fun x => x.2))))
    (h : ∀ gf' gl' bZ', iv_Acc k (l ++ [(L, m)]) gt gf' gl' bE bZ' → post (gi, gk, gt, gf', gl', bS, bP, bA, bL, bT, bN, bR, bE, bZ')) :
    ∃ f, wY_visit_79 post (nI k) gi gk gt gf gl f 0 bS bP bA bL bT bN bR bE bZ := by
  have acc : ∀ gf' bZ', gf' = nI (iv_min ((l ++ [(L, m)]).map (fun x => x.2))) → (∀ c, c < 2 * k → bZ' c = nI (L c)) → iv_Acc k (l ++ [(L, m)]) gt gf' (nI m) bE bZ' := by
    intro gf' bZ' e hz
    refine ⟨by rw [List.length_append]; exact h1, h2, fun z => absurd z (by simp), fun _ => e, fun l' x hx => ?_⟩
    have e2 := List.append_inj_right' hx rfl
    cases e2
    exact ⟨rfl, hz⟩
  have key : ∀ e c bZ, c + e = 8 → (∀ a, a < c → bZ a = bT (8 * k + a)) → wY_visit_79 post (nI k) gi gk gt gf gl (e + 1) (nI c) bS bP bA bL bT bN bR bE bZ := by
    intro e
    induction e with
    | zero =>
      intro c bZ hc hz
      have e : c = 8 := by omega
      subst e
      have hz' : ∀ c, c < 2 * k → bZ c = nI (L c) := fun c hc => by
        rw [hz c (by omega)]
        exact hT c hc
      refine br_t (nI_le (a := 8) (b := 8) (by decide) (by decide)) ⟨vp_in_nI (by omega) (by decide), ?_⟩
      rw [nI_clamp (by omega), hN]
      refine nm_e ?_
      by_cases hl : l = []
      · rw [h3 hl]
        refine br_t (by decide) (h _ _ _ (acc _ _ ?_ hz'))
        rw [hl]
        rfl
      · have hmn := iv_min_spec (l.map (fun x => x.2)) (by simpa using hl)
        have hb8 : iv_min (l.map (fun x => x.2)) ≤ 8 := by
          obtain ⟨x, hx, ex⟩ := List.mem_map.mp hmn.1
          have := hl8 x hx
          omega
        rw [h4 hl]
        have em : iv_min ((l ++ [(L, m)]).map (fun x => x.2)) = if m < iv_min (l.map (fun x => x.2)) then m else iv_min (l.map (fun x => x.2)) := by
          rw [List.map_append]
          exact iv_min_app (by simpa using hl) m
        refine br_f (nI_pos (by omega)) (pk_le (iv_min (l.map (fun x => x.2))) m (fun c => h _ _ _ (acc _ _ ?_ hz')) (fun c => h _ _ _ (acc _ _ ?_ hz')) rfl rfl (by omega) (by omega))
        · rw [em, if_neg (by omega)]
        · rw [em, if_pos c]
    | succ e ih =>
      intro c bZ hc hz
      refine br_f (nI_ge (b := 8) (by omega) (by decide)) ?_
      rw [iv_8, nI_clamp (n := 8 * k + c) (by omega), nI_clamp (n := c) (by omega)]
      refine ⟨vp_in_nI (by omega) (by decide), vp_in_nI (by omega) (by decide), nm_e (nm_r (nI_1 c) (ih (c + 1) _ (by omega) (fun a ha => ?_)))⟩
      by_cases e : a = c
      · rw [e, pk_us]
      · rw [pk_un e]
        exact hz a (by omega)
  exact ⟨9, key 8 0 bZ (by decide) (fun a ha => absurd ha (Nat.not_lt_zero _))⟩
theorem iv_yvis {post : SY → Prop} {k m : Nat} {L : Nat → Nat} {l : List ((Nat → Nat) × Nat)} {gt gf gl : Int32} {bE bZ : Nat → Int32} (hk : iv_n k) (hT : ∀ c, c < 2 * k → bT (8 * k + c) = nI (L c)) (hL : ∀ c, c < 2 * k → L c < 100) (hN : bN k = nI m) (hm : m ≤ 8)
    (hl8 : ∀ x, x ∈ l → x.2 ≤ 8) (hA : iv_Acc k l gt gf gl bE bZ)
    (h : ∀ gt' gf' gl' bE' bZ', iv_Acc k (l ++ [(L, m)]) gt' gf' gl' bE' bZ' → post (gi, gk, gt', gf', gl', bS, bP, bA, bL, bT, bN, bR, bE', bZ')) :
    wpY_visit post (gi, gk, gt, gf, gl, bS, bP, bA, bL, bT, bN, bR, bE, bZ) (nI k) := by
  have h14 : 2 ≤ k ∧ k ≤ 4 := by
    unfold iv_n at hk
    omega
  have hkk : k * k ≤ 4 * 4 := Nat.mul_le_mul h14.2 h14.2
  have key : ∀ e p bE, p + e = k * k → (∀ i j, i < k → j < k → i ≠ j → bE (4 * i + j) = nI (if k * i + j < p then iv_or ((l ++ [(L, m)]).map (fun x => iv_rl x.1 i j)) else iv_or (l.map (fun x => iv_rl x.1 i j)))) →
      wY_visit_12 post (nI k) gi gk (nI (l.length + 1)) gf gl (e + 1) (nI p) bS bP bA bL bT bN bR bE bZ := by
    intro e
    induction e with
    | zero =>
      intro p bE hp hE
      have e : p = k * k := by omega
      subst e
      refine br_t (by rw [pk_mul]; exact nI_le (Nat.le_refl _) (by omega)) (iv_yvis79 h14.2 hT hN hm hl8 rfl (fun i j hi hj hij => ?_) hA.2.2.1 hA.2.2.2.1 (fun gf' gl' bZ' ha => h _ _ _ _ _ ha))
      rw [hE i j hi hj hij, if_pos (iv_sq hi hj)]
    | succ e ih =>
      intro p bE hp hE
      have hpk : p < k * k := by omega
      have hi0 : p / k < k := Nat.div_lt_of_lt_mul hpk
      have hj0 : p % k < k := Nat.mod_lt _ (by omega)
      have eD : nI p / nI k = nI (p / k) := pk_div (by omega) (by omega) (by omega)
      have eR : nI p - nI p / nI k * nI k = nI (p % k) := pk_rem (by omega) (by omega) (by omega)
      have kne : ¬ nI k = 0 := nI_ne0 (by omega) (by omega)
      refine br_f (by rw [pk_mul]; exact nI_ge hpk (by omega)) ⟨kne, nm_r eD ⟨kne, nm_r eR ?_⟩⟩
      refine pk_eq (p / k) (p % k) (fun c => ?_) (fun c => ?_) rfl rfl (by omega) (by omega)
      · refine nm_r (nI_1 p) (ih (p + 1) bE (by omega) (fun i j hi hj hij => ?_))
        rw [hE i j hi hj hij]
        have : ¬ k * i + j = p := fun z => by
          have := (iv_uni hj).mp z
          omega
        by_cases q : k * i + j < p
        · rw [if_pos q, if_pos (by omega)]
        · rw [if_neg q, if_neg (by omega)]
      · refine iv_yrin h14.2 hi0 hj0 hT hL ?_
        have r13 : iv_rl L (p / k) (p % k) < 13 := iv_rel_lt _ _ _ _
        have e0 := hE (p / k) (p % k) hi0 hj0 c
        rw [if_neg (by have := (iv_uni (i := p / k) (p := p) hj0).mpr ⟨rfl, rfl⟩; omega)] at e0
        rw [iv_4c, iv_ccl (by omega) (by omega), e0, iv_1or r13, ← iv_or_app]
        refine ⟨iv_cin (by omega) (by omega), iv_cin (by omega) (by omega), nm_e (nm_r (nI_1 p) (ih (p + 1) _ (by omega) (fun i j hi hj hij => ?_)))⟩
        by_cases q : i = p / k ∧ j = p % k
        · have q' := (iv_uni hj).mpr q
          rw [q.1, q.2, pk_us, if_pos (by rw [← q.1, ← q.2]; omega), List.map_append]
          rfl
        · have q' : ¬ k * i + j = p := fun z => q ((iv_uni hj).mp z)
          have q2 : ¬ 4 * i + j = 4 * (p / k) + p % k := by omega
          rw [pk_un q2, hE i j hi hj hij]
          by_cases w : k * i + j < p
          · rw [if_pos w, if_pos (by omega)]
          · rw [if_neg w, if_neg (by omega)]
  unfold wpY_visit
  dsimp only
  rw [hA.1]
  refine nm_r (nI_1 l.length) ⟨k * k + 1, key (k * k) 0 bE (by omega) (fun i j hi hj hij => ?_)⟩
  rw [if_neg (Nat.not_lt_zero _)]
  exact hA.2.1 i j hi hj hij
end
end
section
def iv_GO (bT bN bR : Nat → Int32) (f : iv_Gr) : Prop :=
  iv_Can f.2.1 f.2.2.1 f.2.2.2.1 ∧ (∀ c, c < 2 * f.2.1 → bT (8 * f.2.1 + c) = nI (f.2.2.1 c)) ∧ bN f.2.1 = nI f.2.2.2.1 ∧ bR f.2.1 = nI f.2.2.2.2 ∧ f.2.2.2.2 ≤ (2 * f.2.2.2.1 + 1) * (2 * f.2.2.2.1 + 1)
def iv_GS (many : Nat) (bT bN bR : Nat → Int32) : List iv_Gr → Prop
  | [] => True
  | f :: fs => f.1 + f.2.1 + 1 = many ∧ f.2.1 = fs.length + 1 ∧ iv_GO bT bN bR f ∧ iv_GS many bT bN bR fs
theorem iv_GS_keep {many K : Nat} {bT bN bR bT' bN' bR' : Nat → Int32} (hK : K ≤ 3) (h1 : ∀ c, c < 8 * (K + 1) → bT' c = bT c) (h2 : ∀ e, e ≤ K → bN' e = bN e ∧ bR' e = bR e) : ∀ (fs : List iv_Gr), fs.length ≤ K → iv_GS many bT bN bR fs → iv_GS many bT' bN' bR' fs
  | [], _, _ => trivial
  | f :: fs, hl, h => by
    rw [List.length_cons] at hl
    obtain ⟨a1, a2, a3, a4⟩ := h
    refine ⟨a1, a2, ⟨a3.1, fun c hc => ?_, ?_, ?_, a3.2.2.2.2⟩, iv_GS_keep hK h1 h2 fs (by omega) a4⟩
    · rw [h1 _ (by omega)]
      exact a3.2.1 c hc
    · rw [(h2 _ (by omega)).1]
      exact a3.2.2.1
    · rw [(h2 _ (by omega)).2]
      exact a3.2.2.2.1
section
variable {gi gk : Int32} {bS bP bA bL : Nat → Int32}
def iv_WP (gi gk : Int32) (bS bP bA bL : Nat → Int32) (post : SY → Prop) (many : Nat) (l : List ((Nat → Nat) × Nat)) : Prop :=
  ∀ gt gf gl bT bN bR bE bZ, iv_Acc many l gt gf gl bE bZ → post (gi, gk, gt, gf, gl, bS, bP, bA, bL, bT, bN, bR, bE, bZ)
theorem iv_sq13 {m : Nat} (h : m ≤ 8) : (2 * m + 1) * (2 * m + 1) ≤ 289 := Nat.mul_le_mul (show 2 * m + 1 ≤ 17 by omega) (show 2 * m + 1 ≤ 17 by omega)
theorem iv_ywork_l {post : SY → Prop} {many : Nat} {A : iv_N} (hn : iv_n many) (hA : ∀ i j, i < j → j < many → bA (4 * i + j) = nI (A i j) ∧ A i j < 8192) :
    ∀ M : Nat, (∀ (fs : List iv_Gr) (l : List ((Nat → Nat) × Nat)) (gt gf gl : Int32) (bT bN bR bE bZ : Nat → Int32) (step fuel : Nat), iv_GS many bT bN bR fs → iv_Acc many l gt gf gl bE bZ → (∀ x, x ∈ l → x.2 ≤ 8) → iv_yms fs ≤ M → step + M < 400000 → M < fuel →
        iv_WP gi gk bS bP bA bL post many (l ++ iv_yr A fs) → wY_work_66 post (nI many) fuel (nI fs.length) (nI step) gi gk gt gf gl bS bP bA bL bT bN bR bE bZ) ∧
      (∀ (fs : List iv_Gr) (L : Nat → Nat) (m : Nat) (l : List ((Nat → Nat) × Nat)) (gt gf gl : Int32) (bT bN bR bE bZ : Nat → Int32) (step fuel : Nat), iv_Can many L m → (∀ c, c < 2 * many → bT (8 * many + c) = nI (L c)) → bN many = nI m → fs.length + 1 = many →
        iv_GS many bT bN bR fs → iv_Acc many l gt gf gl bE bZ → (∀ x, x ∈ l → x.2 ≤ 8) → 1 + iv_yms fs ≤ M → step + M < 400000 → M < fuel →
        iv_WP gi gk bS bP bA bL post many (l ++ (L, m) :: iv_yr A fs) → wY_work_66 post (nI many) fuel (nI many) (nI step) gi gk gt gf gl bS bP bA bL bT bN bR bE bZ) := by
  have hn4 : 2 ≤ many ∧ many ≤ 4 := by
    unfold iv_n at hn
    omega
  intro M
  induction M with
  | zero =>
    refine ⟨?_, ?_⟩
    · intro fs l gt gf gl bT bN bR bE bZ step fuel hG hAc hl8 hM hst hfu hW
      cases fuel with
      | zero => omega
      | succ fuel =>
      cases fs with
      | nil =>
        rw [iv_yr, List.append_nil] at hW
        exact br_f (nI_ge (b := 400000) (by omega) (by decide)) (br_t (by decide) (hW _ _ _ _ _ _ _ _ hAc))
      | cons f fs =>
        rw [iv_yms] at hM
        unfold iv_ym at hM
        omega
    · intro fs L m l gt gf gl bT bN bR bE bZ step fuel _ _ _ _ _ _ _ hM
      omega
  | succ M ih =>
    obtain ⟨ih1, ih2⟩ := ih
    refine ⟨?_, ?_⟩
    · intro fs l gt gf gl bT bN bR bE bZ step fuel hG hAc hl8 hM hst hfu hW
      cases fuel with
      | zero => omega
      | succ fuel =>
      cases fs with
      | nil =>
        rw [iv_yr, List.append_nil] at hW
        exact br_f (nI_ge (b := 400000) (by omega) (by decide)) (br_t (by decide) (hW _ _ _ _ _ _ _ _ hAc))
      | cons f fs =>
      obtain ⟨d, k, L, m, t⟩ := f
      obtain ⟨hd, hk, ⟨hC, hT, hN, hR, ht⟩, hGs⟩ := hG
      have hd : d + k + 1 = many := hd
      have hk : k = fs.length + 1 := hk
      have hC : iv_Can k L m := hC
      have hT : ∀ c, c < 2 * k → bT (8 * k + c) = nI (L c) := hT
      have hN : bN k = nI m := hN
      have hR : bR k = nI t := hR
      have ht : t ≤ (2 * m + 1) * (2 * m + 1) := ht
      have hm := iv_can_m hC
      have hsq := iv_sq13 (m := m) (by omega)
      have hL : ∀ c, c < 2 * k → L c < 100 := fun c hc => by
        have := hC.2.1 c hc
        omega
      have ek : (nI k).toNatClampNeg = k := nI_clamp (by omega)
      have vk : vp_in (nI k) 5 := vp_in_nI (by omega) (by decide)
      have eP : (2 : Int32) * nI m + 1 = nI (2 * m + 1) := iv_2r m 1
      rw [List.length_cons, ← hk]
      refine br_f (nI_ge (b := 400000) (by omega) (by decide)) (br_f (nI_nle (by omega) (by omega)) ⟨vk, ?_⟩)
      rw [ek, hN, eP, hR]
      refine nm_e (br_f (fun z => absurd ((nI_eq (by omega) (by omega)).mp z) (by omega)) ⟨vk, ?_⟩)
      rw [pk_mul]
      rw [iv_yms] at hM
      refine pk_lt t ((2 * m + 1) * (2 * m + 1)) (fun hlt => ⟨vk, br_t (nI_le (a := 1) (by omega) (by omega)) ?_⟩) (fun hge => ?_) rfl rfl (by omega) (by omega)
      · have hp := iv_t_p hlt
        have hq := iv_t_q (m := m) (t := t)
        have eD : nI t / nI (2 * m + 1) = nI (t / (2 * m + 1)) := pk_div (by omega) (by omega) (by omega)
        have eM : nI t - nI t / nI (2 * m + 1) * nI (2 * m + 1) = nI (t % (2 * m + 1)) := pk_rem (by omega) (by omega) (by omega)
        have zne : ¬ nI (2 * m + 1) = 0 := nI_ne0 (by omega) (by omega)
        have hno := iv_ym_no (d := d) (k := k) (L := L) hlt
        have hno' : ∀ (bT' bN' : Nat → Int32), (∀ c, c < 8 * (k + 1) → bT' c = bT c) → (∀ e, e ≤ k → bN' e = bN e) → ¬ iv_go A k L m t = true →
            wY_work_66 post (nI many) fuel (nI k) (nI (step + 1)) gi gk gt gf gl bS bP bA bL bT' bN' (upd bR k (nI (t + 1))) bE bZ := by
          intro bT' bN' hbT hbN hg
          have := ih1 ((d, k, L, m, t + 1) :: fs) l gt gf gl bT' bN' (upd bR k (nI (t + 1))) bE bZ (step + 1) fuel
            ⟨hd, hk, ⟨hC, fun c hc => by rw [hbT _ (by dsimp only at hc ⊢; omega)]; exact hT c hc, by rw [hbN _ (Nat.le_refl _)]; exact hN, pk_us, by dsimp only; omega⟩,
              iv_GS_keep (K := fs.length) (by omega) (fun c hc => hbT c (by omega)) (fun e he => ⟨hbN e (by omega), pk_un (by omega)⟩) fs (Nat.le_refl _) hGs⟩
            hAc hl8 (by rw [iv_yms]; omega) (by omega) (by omega) (by rw [← iv_yr_no hlt hg]; exact hW)
          rw [List.length_cons, ← hk] at this
          exact this
        have h197 : (t / (2 * m + 1) < t % (2 * m + 1) ∨ (t / (2 * m + 1) = t % (2 * m + 1) ∧ t / (2 * m + 1) % 2 = 0)) →
            wY_work_197 post (wY_work_66 post (nI many) fuel) (nI many) (nI k) (nI step) (nI (t / (2 * m + 1))) (nI (t % (2 * m + 1))) gi gk gt gf gl bS bP bA bL bT bN (upd bR k (nI (t + 1))) bE bZ := by
          intro hv
          have hC' := iv_can_ex hC hv hp hq
          have hm' := iv_can_m hC'
          have hyes := iv_ym_yes (d := d) (k := k) (L := L) hlt (iv_v_iff.mpr hv)
          unfold wY_work_197
          refine iv_yins (by omega) (by omega) (by omega) (by omega) hL hN hT (fun bT' hT' hbT => ?_)
          dsimp only
          refine iv_yfits (A := A) (by omega) hT' (fun c hc => by have := hC'.2.1 c hc; omega) (fun i hi => hA i k hi (by omega)) (fun hf => ?_) (fun hf => ?_)
          · have hg : iv_go A k L m t = true := by
              unfold iv_go
              rw [iv_v_iff.mpr hv, hf]
              rfl
            have hbN : ∀ e, e ≤ k → upd bN (k + 1) (nI (m + iv_f (t / (2 * m + 1)) + iv_f (t % (2 * m + 1)))) e = bN e := fun e he => pk_un (by omega)
            have hbR : ∀ e, e ≤ k → upd (upd bR k (nI (t + 1))) (k + 1) (nI 0) e = upd bR k (nI (t + 1)) e := fun e he => pk_un (by omega)
            have hlow : iv_GS many bT' (upd bN (k + 1) (nI (m + iv_f (t / (2 * m + 1)) + iv_f (t % (2 * m + 1))))) (upd (upd bR k (nI (t + 1))) (k + 1) (nI 0)) ((d, k, L, m, t + 1) :: fs) := by
              refine ⟨hd, hk, ⟨hC, fun c hc => ?_, ?_, ?_, by dsimp only; omega⟩, ?_⟩
              · rw [hbT _ (by dsimp only at hc ⊢; omega)]
                exact hT c hc
              · rw [hbN _ (Nat.le_refl _)]
                exact hN
              · rw [hbR _ (Nat.le_refl _)]
                exact pk_us
              · refine iv_GS_keep (K := fs.length) (by omega) (fun c hc => hbT c (by omega)) (fun e he => ⟨hbN e (by omega), ?_⟩) fs (Nat.le_refl _) hGs
                rw [hbR e (by omega)]
                exact pk_un (by omega)
            refine br_f (by decide) (nm_r (nI_1 k) ⟨vp_in_nI (by omega) (by decide), ?_⟩)
            rw [nI_clamp (n := k + 1) (by omega)]
            refine nm_e (nm_r (nI_1 step) ?_)
            cases d with
            | zero =>
              have e1 : many = k + 1 := by omega
              subst e1
              refine ih2 ((0, k, L, m, t + 1) :: fs) _ _ l gt gf gl _ _ _ bE bZ (step + 1) fuel hC' hT' pk_us (by rw [List.length_cons]; omega) hlow hAc hl8 ?_ (by omega) (by omega) ?_
              · rw [iv_yms]
                have : iv_be3 0 = 1 := rfl
                omega
              · rw [← iv_yr_leaf hlt hg]
                exact hW
            | succ d =>
              have hnew := iv_ym_new (d := d) (k := k + 1) (L := iv_ex k L (t / (2 * m + 1)) (t % (2 * m + 1))) (m := m + iv_f (t / (2 * m + 1)) + iv_f (t % (2 * m + 1))) (by omega) (by omega)
              have := ih1 ((d, k + 1, iv_ex k L (t / (2 * m + 1)) (t % (2 * m + 1)), m + iv_f (t / (2 * m + 1)) + iv_f (t % (2 * m + 1)), 0) :: (d + 1, k, L, m, t + 1) :: fs) l gt gf gl bT' _ _ bE bZ (step + 1) fuel
                ⟨by dsimp only; omega, by dsimp only; rw [List.length_cons]; omega, ⟨hC', hT', pk_us, pk_us, Nat.zero_le _⟩, hlow⟩ hAc hl8 (by rw [iv_yms, iv_yms]; omega) (by omega) (by omega) (by rw [← iv_yr_in hlt hg]; exact hW)
              rw [List.length_cons, List.length_cons, ← hk] at this
              exact this
          · refine br_t rfl (nm_r (nI_1 step) (hno' bT' _ hbT (fun e he => pk_un (by omega)) (fun hg => ?_)))
            unfold iv_go at hg
            rw [Bool.and_eq_true] at hg
            exact hf hg.2
        have hnv : ¬ (t / (2 * m + 1) < t % (2 * m + 1) ∨ (t / (2 * m + 1) = t % (2 * m + 1) ∧ t / (2 * m + 1) % 2 = 0)) →
            wY_work_66 post (nI many) fuel (nI k) (nI (step + 1)) gi gk gt gf gl bS bP bA bL bT bN (upd bR k (nI (t + 1))) bE bZ := by
          intro hv
          exact hno' bT bN (fun _ _ => rfl) (fun _ _ => rfl) (fun hg => hv (iv_go_iff.mp hg).1)
        have h163 : wY_work_163 post (wY_work_66 post (nI many) fuel) (nI many) (nI k) (nI step) (nI (t / (2 * m + 1))) (nI (2 * m + 1)) (nI t) gi gk gt gf gl bS bP bA bL bT bN bR bE bZ := by
          unfold wY_work_163
          rw [ek, hR, nI_1 t, iv_r2 (p := t / (2 * m + 1)) (by omega)]
          refine ⟨zne, nm_r eM ⟨vk, vk, nm_e ?_⟩⟩
          refine pk_lt (t / (2 * m + 1)) (t % (2 * m + 1)) (fun c => h197 (Or.inl c)) (fun c => ?_) rfl rfl (by omega) (by omega)
          refine pk_eq (t % (2 * m + 1)) (t / (2 * m + 1)) (fun e => ⟨iv_n2, ?_⟩) (fun e => nm_r (nI_1 step) (hnv (by omega))) rfl rfl (by omega) (by omega)
          refine pk_eq (t / (2 * m + 1) % 2) 0 (fun e2 => h197 (Or.inr ⟨e.symm, e2⟩)) (fun e2 => nm_r (nI_1 step) (hnv (by omega))) rfl rfl (by omega) (by decide)
        unfold wY_work_142
        rw [ek, hR]
        exact ⟨zne, nm_r eD ⟨vk, br_t (nI_le (a := 1) (by omega) (by omega)) h163⟩⟩
      · have em : nI k + (-1) = nI fs.length := by
          rw [hk]
          exact pk_m1 _
        have hy : 1 ≤ iv_ym (d, k, L, m, t) := by
          unfold iv_ym
          omega
        refine nm_r em (nm_r (nI_1 step) (ih1 fs l gt gf gl bT bN bR bE bZ (step + 1) fuel hGs hAc hl8 (by omega) (by omega) (by omega) ?_))
        rw [← iv_yr_end hge]
        exact hW
    · intro fs L m l gt gf gl bT bN bR bE bZ step fuel hC hT hN hl hGs hAc hl8 hM hst hfu hW
      cases fuel with
      | zero => omega
      | succ fuel =>
      have hm := iv_can_m hC
      have hL : ∀ c, c < 2 * many → L c < 100 := fun c hc => by
        have := hC.2.1 c hc
        omega
      have vk : vp_in (nI many) 5 := vp_in_nI (by omega) (by decide)
      refine br_f (nI_ge (b := 400000) (by omega) (by decide)) (br_f (nI_nle (by omega) (by omega)) ⟨vk, nm_e (br_t rfl ?_)⟩)
      refine iv_yvis hn hT hL hN (by omega) hl8 hAc (fun gt' gf' gl' bE' bZ' hAc' => ?_)
      have em : nI many + (-1) = nI fs.length := by
        rw [← hl]
        exact pk_m1 _
      refine nm_r em (nm_r (nI_1 step) (ih1 fs (l ++ [(L, m)]) gt' gf' gl' bT bN bR bE' bZ' (step + 1) fuel hGs hAc' (fun x hx => ?_) (by omega) (by omega) (by omega) ?_))
      · rcases List.mem_append.mp hx with hx | hx
        · exact hl8 x hx
        · rw [List.mem_singleton.mp hx]
          show m ≤ 8
          omega
      · rw [List.append_assoc]
        exact hW
end
end
section
section
variable {gi gk : Int32} {bS bP bL : Nat → Int32}
theorem iv_ywork {post : SY → Prop} {many : Nat} {A : iv_N} {gt gf gl : Int32} {bA bT bN bR bE bZ : Nat → Int32} (hn : iv_n many) (hA : ∀ i j, i < j → j < many → bA (4 * i + j) = nI (A i j) ∧ A i j < 8192)
    (h : ∀ gt gf gl bT bN bR bE bZ, iv_Acc many (iv_leaves many A) gt gf gl bE bZ → post (gi, gk, gt, gf, gl, bS, bP, bA, bL, bT, bN, bR, bE, bZ)) :
    wpY_work post (gi, gk, gt, gf, gl, bS, bP, bA, bL, bT, bN, bR, bE, bZ) (nI many) := by
  have hn4 : 2 ≤ many ∧ many ≤ 4 := by
    unfold iv_n at hn
    omega
  have key : ∀ e c bE, c + e = 16 → (∀ a, a < c → bE a = nI 0) → wY_work_13 post (nI many) gi gk 0 (-2) gl (e + 1) (nI c) bS bP bA bL bT bN bR bE bZ := by
    intro e
    induction e with
    | zero =>
      intro c bE hc hE
      have e : c = 16 := by omega
      subst e
      refine br_t (nI_le (a := 16) (b := 16) (by decide) (by decide)) (nm_e (nm_e (nm_e (nm_e ⟨137008, ?_⟩))))
      have hnew := iv_ym_new (d := many - 2) (k := 1) (L := iv_L1) (m := 2) (by omega) (by omega)
      have hb : iv_be3 (many - 2 + 1) ≤ 137007 := by
        rcases hn with e | e | e <;> subst e <;> decide
      have hl : iv_yr A [(many - 2, 1, iv_L1, 2, 0)] = iv_leaves many A := by
        rw [iv_yr, iv_yr, List.append_nil]
        unfold iv_leaves
        rw [show many - 1 = (many - 2) + 1 by omega, iv_lv_h]
      refine (iv_ywork_l (gi := gi) (gk := gk) (bS := bS) (bP := bP) (bA := bA) (bL := bL) (post := post) hn hA 137007).1 [(many - 2, 1, iv_L1, 2, 0)] [] 0 (-2) gl _ _ _ bE bZ 0 137008 ⟨by dsimp only; omega, rfl, ⟨iv_can1, fun c hc => ?_, pk_us, pk_us, Nat.zero_le _⟩, trivial⟩ ?_ (fun x hx => by cases hx) ?_ (by decide) (by decide) ?_
      · have hc : c < 2 := hc
        rcases (show c = 0 ∨ c = 1 by omega) with e | e
        · subst e
          show upd (upd bT 8 0) 9 1 8 = nI (iv_L1 0)
          rw [pk_un (by decide), pk_us]
          rfl
        · subst e
          show upd (upd bT 8 0) 9 1 9 = nI (iv_L1 1)
          rw [pk_us]
          rfl
      · refine ⟨rfl, fun i j hi hj hij => ?_, fun _ => rfl, fun z => absurd rfl z, fun l' x hx => ?_⟩
        · rw [hE _ (by omega)]
          rfl
        · have := congrArg List.length hx
          rw [List.length_append] at this
          simp at this
      · rw [iv_yms, iv_yms]
        omega
      · rw [hl]
        exact h
    | succ e ih =>
      intro c bE hc hE
      have ec : (nI c).toNatClampNeg = c := nI_clamp (by omega)
      refine br_f (nI_ge (b := 16) (by omega) (by decide)) ⟨vp_in_nI (by omega) (by decide), ?_⟩
      rw [ec]
      refine nm_e (nm_r (nI_1 c) (ih (c + 1) _ (by omega) (fun a ha => ?_)))
      by_cases e : a = c
      · rw [e, pk_us]
        rfl
      · rw [pk_un e]
        exact hE a (by omega)
  exact ⟨17, key 16 0 bE (by decide) (fun a ha => absurd ha (Nat.not_lt_zero _))⟩
theorem iv_yallow {post : SY → Prop} {gt gf gl : Int32} {bA bT bN bR bE bZ : Nat → Int32} (h : ∀ bA', (∀ c, c < 16 → bA' c = bS c) → post (gi, gk, gt, gf, gl, bS, bP, bA', bL, bT, bN, bR, bE, bZ)) :
    wpY_allow post (gi, gk, gt, gf, gl, bS, bP, bA, bL, bT, bN, bR, bE, bZ) := by
  have key : ∀ e c bA, c + e = 16 → (∀ a, a < c → bA a = bS a) → wY_allow_2 post gi gk gt gf gl (e + 1) (nI c) bS bP bA bL bT bN bR bE bZ := by
    intro e
    induction e with
    | zero =>
      intro c bA hc hE
      have e : c = 16 := by omega
      subst e
      exact br_t (nI_le (a := 16) (b := 16) (by decide) (by decide)) (h bA hE)
    | succ e ih =>
      intro c bA hc hE
      have ec : (nI c).toNatClampNeg = c := nI_clamp (by omega)
      have vi : vp_in (nI c) 16 := vp_in_nI (by omega) (by decide)
      refine br_f (nI_ge (b := 16) (by omega) (by decide)) ⟨vi, vi, ?_⟩
      rw [ec]
      refine nm_e (nm_r (nI_1 c) (ih (c + 1) _ (by omega) (fun a ha => ?_)))
      by_cases e : a = c
      · rw [e, pk_us]
      · rw [pk_un e]
        exact hE a (by omega)
  exact ⟨17, key 16 0 bA (by decide) (fun a ha => absurd ha (Nat.not_lt_zero _))⟩
theorem iv_yall {post : SY → Prop} {n : Nat} {A : iv_N} {gt gf gl : Int32} {bA bT bN bR bE bZ : Nat → Int32} (hn : iv_n n) (hS : ∀ i j, i < j → j < n → bS (4 * i + j) = nI (A i j) ∧ A i j < 8192)
    (h : ∀ gt gf gl bA bT bN bR bE bZ, (∀ i j, i < j → j < n → bA (4 * i + j) = nI (A i j) ∧ A i j < 8192) → iv_Acc n (iv_leaves n A) gt gf gl bE bZ → post (nI n, gk, gt, gf, gl, bS, bP, bA, bL, bT, bN, bR, bE, bZ)) :
    wpY_workAll post (nI n, gk, gt, gf, gl, bS, bP, bA, bL, bT, bN, bR, bE, bZ) := by
  have hn4 : 2 ≤ n ∧ n ≤ 4 := by
    unfold iv_n at hn
    omega
  unfold wpY_workAll
  dsimp only
  refine iv_yallow (fun bA' hb => ?_)
  have hA : ∀ i j, i < j → j < n → bA' (4 * i + j) = nI (A i j) ∧ A i j < 8192 := fun i j h1 h2 => by
    rw [hb _ (by omega)]
    exact hS i j h1 h2
  exact iv_ywork hn hA (fun gt gf gl bT bN bR bE bZ ha => h _ _ _ _ _ _ _ _ _ hA ha)
def iv_FI (n : Nat) (N : iv_N) (c q : Nat) (bA : Nat → Int32) : Prop :=
  ∃ (B R : iv_N), (∀ i j, i < j → j < n → bA (4 * i + j) = nI (B i j) ∧ B i j < 8192) ∧ iv_col n B (iv_pf n c) R ∧ (iv_nets B (iv_ps n) iv_R0)[q]? = some N ∧ q < 1000000
theorem iv_pf_ord {n c : Nat} (hn : iv_n n) : iv_ord (iv_pf n c) := by
  have h := iv_ps_ord hn
  exact ⟨List.Pairwise.sublist List.filter_sublist h.1, fun p hp => h.2 p (List.mem_filter.mp hp).1⟩
theorem iv_lv_len {n : Nat} (hn : iv_n n) (A : iv_N) : (iv_leaves n A).length < 1000000 := by
  rw [iv_len hn]
  have h1 := iv_nets_len A (iv_ps n) iv_R0
  have h2 := iv_ko_n hn A iv_R0
  omega
theorem iv_yf65 {post : Int32 → SY → Prop} {n : Nat} {N : iv_N} {J22 : Int32 → Int32 → Int32 → Int32 → Int32 → Int32 → Int32 → (Nat → Int32) → (Nat → Int32) → (Nat → Int32) → (Nat → Int32) → (Nat → Int32) → (Nat → Int32) → (Nat → Int32) → (Nat → Int32) → (Nat → Int32) → Prop}
    {c : Nat} (hn : iv_n n) (hc : c < 16) (hv : c / 4 < c % 4 ∧ c % 4 < n)
    (HJ : ∀ q gt gf gl bA bT bN bR bE bZ, iv_FI n N (c + 1) q bA → J22 (nI q) (nI (c + 1)) (nI n) gk gt gf gl bS bP bA bL bT bN bR bE bZ)
    {B R : iv_N} {q : Nat} (hB8 : B (c / 4) (c % 4) < 8192) (hcol : iv_col n B ((c / 4, c % 4) :: iv_pf n (c + 1)) R) (hq : (iv_nets B (iv_ps n) iv_R0)[q]? = some N) (hq6 : q < 1000000) :
    ∀ e r gt gf gl bA bT bN bR bE bZ, r + e = 13 → (∀ i j, i < j → j < n → ¬ (i = c / 4 ∧ j = c % 4) → bA (4 * i + j) = nI (B i j) ∧ B i j < 8192) →
      (iv_g (fun r => iv_nets B (iv_pf n (c + 1)) (iv_set R (c / 4) (c % 4) r)) (iv_opn B R (c / 4) (c % 4)) r).length ≤ q →
      wY_find_65 post J22 (nI c) (nI (B (c / 4) (c % 4))) (e + 2) (nI (q - (iv_g (fun r => iv_nets B (iv_pf n (c + 1)) (iv_set R (c / 4) (c % 4) r)) (iv_opn B R (c / 4) (c % 4)) r).length)) 1 (nI r) (nI n) gk gt gf gl bS bP bA bL bT bN bR bE bZ := by
  have hn4 : 2 ≤ n ∧ n ≤ 4 := by
    unfold iv_n at hn
    omega
  have hp : (c / 4, c % 4) ∈ iv_ps n := (iv_ps_mem hn _).mpr hv
  have hor : iv_ord ((c / 4, c % 4) :: iv_pf n (c + 1)) := by
    rw [← iv_pf_in hn hc hv]
    exact iv_pf_ord hn
  have hsub : ∀ p, p ∈ (c / 4, c % 4) :: iv_pf n (c + 1) → p ∈ iv_ps n := by
    rw [← iv_pf_in hn hc hv]
    exact fun p hp => (List.mem_filter.mp hp).1
  have hfull : iv_nets B (iv_ps n) iv_R0 = iv_g (fun r => iv_nets B (iv_pf n (c + 1)) (iv_set R (c / 4) (c % 4) r)) (iv_opn B R (c / 4) (c % 4)) 13 := by
    rw [hcol B (fun _ _ _ => rfl), iv_nets_g]
  intro e
  induction e with
  | zero =>
    intro r gt gf gl bA bT bN bR bE bZ hr hb hs
    have e : r = 13 := by omega
    subst e
    rw [← hfull] at hs
    have := (List.getElem?_eq_some_iff.mp hq).1
    omega
  | succ e ih =>
    intro r gt gf gl bA bT bN bR bE bZ hr hb hs
    have h1s : ∀ s, (B (c / 4) (c % 4) &&& 2 ^ r).testBit s = true ↔ ((B (c / 4) (c % 4)).testBit s = true ∧ s = r) := by
      intro s
      rw [Nat.testBit_and, Nat.testBit_two_pow, Bool.and_eq_true, decide_eq_true_iff]
      exact ⟨fun z => ⟨z.1, z.2.symm⟩, fun z => ⟨z.1, z.2.symm⟩⟩
    have hB1p : iv_up B (c / 4) (c % 4) (B (c / 4) (c % 4) &&& 2 ^ r) (c / 4) (c % 4) = B (c / 4) (c % 4) &&& 2 ^ r := if_pos ⟨rfl, rfl⟩
    have hB1o : ∀ q, q ∈ iv_ps n → q ≠ (c / 4, c % 4) → iv_up B (c / 4) (c % 4) (B (c / 4) (c % 4) &&& 2 ^ r) q.1 q.2 = B q.1 q.2 := by
      intro q _ hne
      exact if_neg (fun z => hne (Prod.ext z.1 z.2))
    have hlen := iv_col_len (B1 := iv_up B (c / 4) (c % 4) (B (c / 4) (c % 4) &&& 2 ^ r)) hor hsub hcol (show r < 13 by omega) (fun s => by dsimp only; rw [hB1p]; exact h1s s) hB1o
    dsimp only at hlen
    have hA1 : ∀ i j, i < j → j < n → upd bA c (nI (B (c / 4) (c % 4) &&& 2 ^ r)) (4 * i + j) = nI (iv_up B (c / 4) (c % 4) (B (c / 4) (c % 4) &&& 2 ^ r) i j) ∧ iv_up B (c / 4) (c % 4) (B (c / 4) (c % 4) &&& 2 ^ r) i j < 8192 := by
      intro i j hi hj
      by_cases z : i = c / 4 ∧ j = c % 4
      · rw [z.1, z.2, hB1p, show 4 * (c / 4) + c % 4 = c by omega, pk_us]
        exact ⟨rfl, Nat.lt_of_le_of_lt Nat.and_le_left hB8⟩
      · have : iv_up B (c / 4) (c % 4) (B (c / 4) (c % 4) &&& 2 ^ r) i j = B i j := if_neg z
        rw [this, pk_un (by omega)]
        exact hb i j hi hj z
    refine br_f (nI_ge (b := 13) (by omega) (by decide)) (br_f (by decide) ⟨vp_in_nI (by omega) (by decide), ?_⟩)
    rw [nI_clamp (n := c) (by omega), iv_1shl r (by omega), nx_and]
    refine nm_e (iv_ywork hn hA1 (fun gt gf gl bT bN bR bE bZ ha => ?_))
    dsimp only
    have htot := ha.1
    rw [iv_len hn, hlen] at htot
    have hlt := iv_lv_len hn (iv_up B (c / 4) (c % 4) (B (c / 4) (c % 4) &&& 2 ^ r))
    rw [iv_len hn, hlen] at hlt
    have hg1 := iv_g_s (fun r => iv_nets B (iv_pf n (c + 1)) (iv_set R (c / 4) (c % 4) r)) (iv_opn B R (c / 4) (c % 4)) r
    have hg2 := congrArg List.length hg1
    rw [List.length_append] at hg2
    refine pk_lt (q - (iv_g (fun r => iv_nets B (iv_pf n (c + 1)) (iv_set R (c / 4) (c % 4) r)) (iv_opn B R (c / 4) (c % 4)) r).length) _ (fun z => ?_) (fun z => ?_) rfl htot (by omega) (by omega)
    · have hpk := iv_pick (fun r => iv_nets B (iv_pf n (c + 1)) (iv_set R (c / 4) (c % 4) r)) (U := iv_opn B R (c / 4) (c % 4)) (r := r) (N := 13) (i := q) (by omega) hs (by rw [hg2]; omega)
      rw [← hfull, hq] at hpk
      have hbit : (iv_opn B R (c / 4) (c % 4)).testBit r = true := by
        by_cases w : (iv_opn B R (c / 4) (c % 4)).testBit r = true
        · exact w
        · rw [if_neg w, List.length_nil] at z
          omega
      have hFI : iv_FI n N (c + 1) (q - (iv_g (fun r => iv_nets B (iv_pf n (c + 1)) (iv_set R (c / 4) (c % 4) r)) (iv_opn B R (c / 4) (c % 4)) r).length) (upd bA c (nI (B (c / 4) (c % 4) &&& 2 ^ r))) := by
        refine ⟨_, iv_set R (c / 4) (c % 4) r, hA1, iv_col_s hor hcol hp (show r < 13 by omega) (fun s => by dsimp only; rw [hB1p]; exact h1s s) hB1o hbit, ?_, by omega⟩
        rw [hlen]
        exact hpk.symm
      refine br_t rfl (nm_r (nI_1 r) ?_)
      refine br_c (fun _ => nm_r (nI_1 c) (HJ _ _ _ _ _ _ _ _ _ _ hFI)) (fun _ => br_t rfl (nm_r (nI_1 c) (HJ _ _ _ _ _ _ _ _ _ _ hFI)))
    · have hgo := ih (r + 1) gt gf gl (upd bA c (nI (B (c / 4) (c % 4) &&& 2 ^ r))) bT bN bR bE bZ (by omega) (fun i j hi hj z => by rw [pk_un (by omega)]; exact hb i j hi hj z) (by rw [hg2]; omega)
      refine br_f (by decide) (nm_r ?_ (nm_r (nI_1 r) hgo))
      rw [htot, pk_sub z, hg2]
      congr 1
      omega
end
end
section
section
variable {gk : Int32} {bS bP bL : Nat → Int32}
theorem iv_d4 {p : Nat} (h : p < 2 ^ 31) : nI p / 4 = nI (p / 4) := pk_div (d := 4) h (by decide) (by decide)
theorem iv_r4 {p : Nat} (h : p < 2 ^ 31) : nI p - nI p / 4 * 4 = nI (p % 4) := pk_rem (d := 4) h (by decide) (by decide)
theorem iv_n4 : ¬ (4 : Int32) = 0 := by decide
theorem iv_yfind {post : Int32 → SY → Prop} {n : Nat} {A : iv_N} {gt gf gl : Int32} {bA bT bN bR bE bZ : Nat → Int32} {x : Int32} (hn : iv_n n) (hS : ∀ i j, i < j → j < n → bS (4 * i + j) = nI (A i j) ∧ A i j < 8192)
    (h0 : (∀ k N, x = nI k → (iv_nets A (iv_ps n) iv_R0)[k]? = some N → False) → ∀ gt gf gl bA bT bN bR bE bZ, post 0 (nI n, gk, gt, gf, gl, bS, bP, bA, bL, bT, bN, bR, bE, bZ))
    (h1 : ∀ k N, x = nI k → (iv_nets A (iv_ps n) iv_R0)[k]? = some N → ∀ L m gt gf bA bT bN bR bE bZ, iv_Can n L m → (∀ i j, i < n → j < n → iv_rl L i j = N i j) → (∀ c, c < 2 * n → bZ c = nI (L c)) →
      post 1 (nI n, gk, gt, gf, nI m, bS, bP, bA, bL, bT, bN, bR, bE, bZ)) :
    wpY_find post (nI n, gk, gt, gf, gl, bS, bP, bA, bL, bT, bN, bR, bE, bZ) x := by
  have hn4 : 2 ≤ n ∧ n ≤ 4 := by
    unfold iv_n at hn
    omega
  have key : ∀ (N : iv_N), (∀ L m gt gf bA bT bN bR bE bZ, iv_Can n L m → (∀ i j, i < n → j < n → iv_rl L i j = N i j) → (∀ c, c < 2 * n → bZ c = nI (L c)) → post 1 (nI n, gk, gt, gf, nI m, bS, bP, bA, bL, bT, bN, bR, bE, bZ)) →
      ∀ e c q gt gf gl bA bT bN bR bE bZ, c + e = 16 → iv_FI n N c q bA → wY_find_22 post (e + 1) (nI q) (nI c) (nI n) gk gt gf gl bS bP bA bL bT bN bR bE bZ := by
    intro N hfin e
    induction e with
    | zero =>
      intro c q gt gf gl bA bT bN bR bE bZ hc hF
      have e : c = 16 := by omega
      subst e
      obtain ⟨B, R, hA, hcol, hq, _⟩ := hF
      have hone : iv_nets B (iv_ps n) iv_R0 = [R] := by
        rw [hcol B (fun _ _ _ => rfl), (iv_pf_0 hn).2, iv_nets]
      refine br_t (nI_le (a := 16) (b := 16) (by decide) (by decide)) (iv_ywork hn hA (fun gt gf gl bT bN bR bE bZ ha => ?_))
      dsimp only
      have hl1 : (iv_leaves n B).length = 1 := by
        rw [iv_len hn, hone]
        rfl
      obtain ⟨y, hy⟩ := List.length_eq_one_iff.mp hl1
      have hmem : y ∈ iv_leaves n B := by
        rw [hy]
        exact List.mem_singleton.mpr rfl
      obtain ⟨hC, _⟩ := iv_leaf_can (by omega) hmem
      have hN : iv_nt n y.1 = N := by
        have h2 : iv_nt n y.1 ∈ iv_nets B (iv_ps n) iv_R0 := (iv_same hn _).mpr ⟨y, hmem, rfl⟩
        rw [hone] at h2 hq
        have h3 := List.mem_singleton.mp h2
        have h4 : N ∈ [R] := List.mem_of_getElem? hq
        rw [h3, List.mem_singleton.mp h4]
      have h5 := ha.2.2.2.2 [] y hy
      refine br_t ?_ ?_
      · rw [ha.1, hl1]
        rfl
      · rw [h5.1]
        refine hfin y.1 y.2 _ _ _ _ _ _ _ _ hC (fun i j hi hj => ?_) h5.2
        rw [← hN, iv_nt_in hi hj]
    | succ e ih =>
      intro c q gt gf gl bA bT bN bR bE bZ hc hF
      have ec : (nI c).toNatClampNeg = c := nI_clamp (by omega)
      refine br_f (nI_ge (b := 16) (by omega) (by decide)) ⟨vp_in_nI (by omega) (by decide), ?_⟩
      rw [ec, iv_r4 (by omega), iv_d4 (by omega)]
      have skip : ¬ (c / 4 < c % 4 ∧ c % 4 < n) → ∀ x4, ∃ f, wY_find_65 post (wY_find_22 post (e + 1)) (nI c) x4 f (nI q) 0 0 (nI n) gk gt gf gl bS bP bA bL bT bN bR bE bZ := by
        intro hv x4
        refine ⟨1, br_f (by decide) (br_t rfl (nm_r (nI_1 c) (ih (c + 1) q gt gf gl bA bT bN bR bE bZ (by omega) ?_)))⟩
        obtain ⟨B, R, hA, hcol, hq, hq6⟩ := hF
        rw [iv_pf_out hn (by omega) hv] at hcol
        exact ⟨B, R, hA, hcol, hq, hq6⟩
      refine fun x4 ex4 => ⟨iv_n4, iv_n4, ?_⟩
      refine pk_le (c % 4) (c / 4) (fun z => skip (by omega) x4) (fun z => ⟨iv_n4, ?_⟩) rfl rfl (by omega) (by omega)
      refine pk_le n (c % 4) (fun w => skip (by omega) x4) (fun w => ?_) rfl rfl (by omega) (by omega)
      have hv : c / 4 < c % 4 ∧ c % 4 < n := ⟨z, w⟩
      obtain ⟨B, R, hA, hcol, hq, hq6⟩ := hF
      rw [iv_pf_in hn (by omega) hv] at hcol
      have hb := hA (c / 4) (c % 4) hv.1 hv.2
      rw [show 4 * (c / 4) + c % 4 = c by omega] at hb
      rw [ex4, hb.1]
      refine ⟨15, ?_⟩
      have := iv_yf65 (post := post) (gk := gk) (bS := bS) (bP := bP) (bL := bL) (J22 := wY_find_22 post (e + 1)) hn (show c < 16 by omega) hv
        (fun q gt gf gl bA bT bN bR bE bZ hF => ih (c + 1) q gt gf gl bA bT bN bR bE bZ (by omega) hF) hb.2 hcol hq hq6 13 0 gt gf gl bA bT bN bR bE bZ (by decide) (fun i j hi hj _ => hA i j hi hj) (Nat.zero_le _)
      exact this
  unfold wpY_find
  dsimp only
  refine iv_yall hn hS (fun gt gf gl bA bT bN bR bE bZ hA ha => ?_)
  dsimp only
  have hlt := iv_lv_len hn A
  have htot := ha.1
  have hlen := iv_len hn A
  refine br_c (fun z => h0 (fun k N e hk => ?_) _ _ _ _ _ _ _ _ _) (fun z => ?_)
  · have := (List.getElem?_eq_some_iff.mp hk).1
    rw [e] at z
    exact nI_pos (by omega) z
  · obtain ⟨k, hk, e⟩ := nI_of z
    subst e
    refine pk_lt k (iv_leaves n A).length (fun w => ?_) (fun w => h0 (fun k' N e hk' => ?_) _ _ _ _ _ _ _ _ _) rfl htot hk (by omega)
    · have hk2 : k < (iv_nets A (iv_ps n) iv_R0).length := by omega
      refine ⟨17, key ((iv_nets A (iv_ps n) iv_R0)[k]) (h1 k _ rfl (List.getElem?_eq_getElem hk2)) 16 0 k gt gf gl bA bT bN bR bE bZ (by decide) ?_⟩
      refine ⟨A, iv_R0, hA, ?_, List.getElem?_eq_getElem hk2, by omega⟩
      rw [(iv_pf_0 hn).1]
      exact iv_col_0 n A
    · have h2 := (List.getElem?_eq_some_iff.mp hk').1
      have h3 := (nI_eq hk (by omega)).mp e
      omega
theorem iv_ycrowd {post : Int32 → SY → Prop} {n : Nat} {L : Nat → Nat} {gt gf gl : Int32} {bA bT bN bR bE bZ : Nat → Int32} (hn : n ≤ 4) (hL : ∀ c, c < 2 * n → L c < 100) (hZ : ∀ c, c < 2 * n → bZ c = nI (L c))
    (h : post (nI (iv_mx (iv_cv n L) 8)) (nI n, gk, gt, gf, gl, bS, bP, bA, bL, bT, bN, bR, bE, bZ)) :
    ∃ f, wY_crowd_15 post (nI n) gk gt gf gl bS bP bA bL bT bN bR bE bZ f 0 0 := by
  have hb : ∀ t, iv_cv n L t ≤ 4 := fun t => Nat.le_trans (iv_ct_ub _ _) hn
  have hm : ∀ i, iv_mx (iv_cv n L) i ≤ 4 := fun i => (iv_mx_le (B := 4) i).mpr (fun j _ => hb j)
  have inner : ∀ (J15 : Int32 → Int32 → Prop) (t mx : Nat), t < 8 → mx ≤ 4 → J15 (nI (if mx < iv_cv n L t then iv_cv n L t else mx)) (nI (t + 1)) →
      ∀ e i, i + e = n → wY_crowd_27 post J15 (nI mx) (nI t) (nI n) gk gt gf gl bS bP bA bL bT bN bR bE bZ (e + 1) (nI (iv_ct (fun j => decide (L (2 * j) ≤ t) && decide (t < L (2 * j + 1))) i)) (nI i) := by
    intro J15 t mx ht hmx hJ e
    induction e with
    | zero =>
      intro i hi
      have e : i = n := by omega
      subst e
      have hb' := hb t
      refine br_t (nI_le (Nat.le_refl _) (by omega)) (pk_le (iv_cv i L t) mx (fun z => ?_) (fun z => ?_) rfl rfl (by omega) (by omega))
      · rw [if_neg (by omega)] at hJ
        exact nm_r (nI_1 t) hJ
      · rw [if_pos z] at hJ
        exact nm_r (nI_1 t) hJ
    | succ e ih =>
      intro i hi
      have hgo := ih (i + 1) (by omega)
      rw [iv_ct] at hgo
      have l1 := hL (2 * i) (by omega)
      have l2 := hL (2 * i + 1) (by omega)
      have e2 : (2 : Int32) * nI i + 1 = nI (2 * i + 1) := iv_2r i 1
      refine br_f (nI_ge (by omega) (by omega)) ?_
      rw [e2, iv_2n, nI_clamp (n := 2 * i) (by omega), nI_clamp (n := 2 * i + 1) (by omega), hZ _ (by omega), hZ _ (by omega)]
      refine ⟨vp_in_nI (by omega) (by decide), pk_lt t (L (2 * i)) (fun z => ?_) (fun z => ⟨vp_in_nI (by omega) (by decide), pk_le (L (2 * i + 1)) t (fun w => ?_) (fun w => ?_) rfl rfl (by omega) (by omega)⟩) rfl rfl (by omega) (by omega)⟩
      · rw [if_neg (by rw [Bool.and_eq_true, decide_eq_true_iff, decide_eq_true_iff]; omega), Nat.add_zero] at hgo
        exact nm_r (nI_1 i) hgo
      · rw [if_neg (by rw [Bool.and_eq_true, decide_eq_true_iff, decide_eq_true_iff]; omega), Nat.add_zero] at hgo
        exact nm_r (nI_1 i) hgo
      · rw [if_pos (by rw [Bool.and_eq_true, decide_eq_true_iff, decide_eq_true_iff]; omega)] at hgo
        exact nm_r (nI_1 _) (nm_r (nI_1 i) hgo)
  have outer : ∀ e t, t + e = 8 → wY_crowd_15 post (nI n) gk gt gf gl bS bP bA bL bT bN bR bE bZ (e + 1) (nI (iv_mx (iv_cv n L) t)) (nI t) := by
    intro e
    induction e with
    | zero =>
      intro t ht
      have e : t = 8 := by omega
      subst e
      exact br_t (nI_le (a := 8) (b := 8) (by decide) (by decide)) h
    | succ e ih =>
      intro t ht
      exact br_f (nI_ge (b := 8) (by omega) (by decide)) ⟨n + 1, inner (wY_crowd_15 post (nI n) gk gt gf gl bS bP bA bL bT bN bR bE bZ (e + 1)) t (iv_mx (iv_cv n L) t) (by omega) (hm t) (ih (t + 1) (by omega)) n 0 (by omega)⟩
  exact ⟨9, outer 8 0 (by decide)⟩
end
section
variable {gi gk : Int32} {bS bP bL : Nat → Int32}
def iv_cA (a b : Nat) : iv_N := fun i j => if i = 0 ∧ j = 1 then a else if i = 1 ∧ j = 2 then b else 8191
theorem iv_ycom {post : Int32 → SY → Prop} {a b : Nat} {gt gf gl : Int32} {bA bT bN bR bE bZ : Nat → Int32} (ha : a < 8192) (hb : b < 8192)
    (h : ∀ gt gf gl bA bT bN bR bE bZ, post (nI (iv_co a b 13)) (gi, gk, gt, gf, gl, bS, bP, bA, bL, bT, bN, bR, bE, bZ)) :
    wpY_composed post (gi, gk, gt, gf, gl, bS, bP, bA, bL, bT, bN, bR, bE, bZ) (nI a) (nI b) := by
  have key : ∀ e c bA, c + e = 16 → (∀ x, x < c → bA x = if x = 1 then nI a else if x = 6 then nI b else nI 8191) → wY_composed_2 post (nI a) (nI b) gi gk gt gf gl (e + 1) (nI c) bS bP bA bL bT bN bR bE bZ := by
    intro e
    induction e with
    | zero =>
      intro c bA hc hA
      have e : c = 16 := by omega
      subst e
      refine br_t (nI_le (a := 16) (b := 16) (by decide) (by decide)) ?_
      refine iv_ywork (many := 3) (A := iv_cA a b) (Or.inr (Or.inl rfl)) (fun i j hi hj => ?_) (fun gt gf gl bT bN bR bE bZ hac => ?_)
      · rw [hA _ (by omega)]
        rcases (show (i = 0 ∧ j = 1) ∨ (i = 0 ∧ j = 2) ∨ (i = 1 ∧ j = 2) by omega) with ⟨e1, e2⟩ | ⟨e1, e2⟩ | ⟨e1, e2⟩ <;> subst e1 e2
        · exact ⟨rfl, ha⟩
        · exact ⟨rfl, (by decide : 8191 < 8192)⟩
        · exact ⟨rfl, hb⟩
      · have h2 := hac.2.1 0 2 (by decide) (by decide) (by decide)
        rw [iv_comp (a := a) (b := b) rfl rfl rfl] at h2
        have h3 : bE 2 = nI (iv_co a b 13) := h2
        dsimp only
        rw [h3]
        exact h _ _ _ _ _ _ _ _ _
    | succ e ih =>
      intro c bA hc hA
      have ec : (nI c).toNatClampNeg = c := nI_clamp (by omega)
      have vi : vp_in (nI c) 16 := vp_in_nI (by omega) (by decide)
      have hgo : ∀ v, v = (if c = 1 then nI a else if c = 6 then nI b else nI 8191) → wY_composed_2 post (nI a) (nI b) gi gk gt gf gl (e + 1) (nI (c + 1)) bS bP (upd bA c v) bL bT bN bR bE bZ := by
        intro v hv
        refine ih (c + 1) _ (by omega) (fun x hx => ?_)
        by_cases e : x = c
        · rw [e, pk_us]
          exact hv
        · rw [pk_un e]
          exact hA x (by omega)
      refine br_f (nI_ge (b := 16) (by omega) (by decide)) ?_
      rw [ec]
      refine pk_eq c 1 (fun z => ⟨vi, nm_e (nm_r (nI_1 c) (hgo _ ?_))⟩) (fun z => pk_eq c 6 (fun w => ⟨vi, nm_e (nm_r (nI_1 c) (hgo _ ?_))⟩) (fun w => ⟨vi, nm_e (nm_r (nI_1 c) (hgo _ ?_))⟩) rfl rfl (by omega) (by decide)) rfl rfl (by omega) (by decide)
      · rw [if_pos z]
      · rw [if_neg z, if_pos w]
      · rw [if_neg z, if_neg w]
        rfl
  exact ⟨17, key 16 0 bA (by decide) (fun x hx => absurd hx (Nat.not_lt_zero _))⟩
end
section
variable {gi gk : Int32} {bS bP : Nat → Int32}
theorem iv_ydr {post : Int32 → SY → Prop} {x y z : Nat} {gt gf gl : Int32} {bA bL bT bN bR bE bZ : Nat → Int32} (hx : x < 4) (hy : y < 4) (hz : z < 4) (hL : ∀ c, c < 16 → bL c = nI 8191)
    (h : ∀ gt gf gl bA bL bT bN bR bE bZ, (∀ c, c < 16 → bL c = nI 8191) → post 0 (gi, gk, gt, gf, gl, bS, bP, bA, bL, bT, bN, bR, bE, bZ)) :
    wpY_dropped post (gi, gk, gt, gf, gl, bS, bP, bA, bL, bT, bN, bR, bE, bZ) (nI x) (nI y) (nI z) := by
  unfold wpY_dropped
  dsimp only
  rw [iv_4c, iv_4c, iv_4c, iv_4c, iv_ccl hx hy, iv_ccl hx hz, iv_ccl hy hz, iv_ccl hz hx, hL _ (by omega), hL _ (by omega), hL _ (by omega)]
  refine ⟨iv_cin hx hz, nm_e ⟨iv_cin hx hy, iv_cin hy hz, iv_ycom (by decide) (by decide) (fun gt gf gl bA bT bN bR bE bZ => ?_)⟩⟩
  dsimp only
  rw [iv_all_co.1, iv_and_all]
  refine ⟨iv_cin hx hz, nm_e (iv_ytur (by decide) ?_)⟩
  rw [iv_all_co.2]
  refine ⟨iv_cin hz hx, nm_e (br_t (by decide) (h _ _ _ _ _ _ _ _ _ _ (fun c hc => ?_)))⟩
  by_cases e : c = 4 * z + x
  · rw [e, pk_us]
  · rw [pk_un e]
    by_cases e' : c = 4 * x + z
    · rw [e', pk_us]
    · rw [pk_un e']
      exact hL c hc
end
section
variable {gk : Int32} {bS bP : Nat → Int32}
theorem iv_ycl {post : Int32 → SY → Prop} {n i j : Nat} {gt gf gl : Int32} {bA bL bT bN bR bE bZ : Nat → Int32} (hn : n ≤ 4) (hi : i < 4) (hj : j < 4) (hS : ∀ c, c < 16 → bS c = nI 8191)
    (h : ∀ gt gf gl bA bL bT bN bR bE bZ, post (nI 8191) (nI n, gk, gt, gf, gl, bS, bP, bA, bL, bT, bN, bR, bE, bZ)) :
    ∃ f, wY_closed_13 post (nI i) (nI j) (nI n) gk gt gf gl f 0 bS bP bA bL bT bN bR bE bZ := by
  have fin : ∀ gt gf gl bA bL bT bN bR bE bZ, (∀ c, c < 16 → bL c = nI 8191) → wY_closed_181 post (nI i) (nI j) (nI n) gk gt gf gl bS bP bA bL bT bN bR bE bZ := by
    intro gt gf gl bA bL bT bN bR bE bZ hL
    unfold wY_closed_181
    rw [iv_4c, iv_ccl hi hj, hL _ (by omega)]
    exact ⟨iv_cin hi hj, h _ _ _ _ _ _ _ _ _ _⟩
  have inner : ∀ (J42 : Int32 → Int32 → Int32 → Int32 → Int32 → Int32 → Int32 → (Nat → Int32) → (Nat → Int32) → (Nat → Int32) → (Nat → Int32) → (Nat → Int32) → (Nat → Int32) → (Nat → Int32) → (Nat → Int32) → (Nat → Int32) → Prop),
      (∀ gt gf gl bA bL bT bN bR bE bZ, (∀ c, c < 16 → bL c = nI 8191) → J42 0 1 (nI n) gk gt gf gl bS bP bA bL bT bN bR bE bZ) →
      ∀ e t gt gf gl bA bL bT bN bR bE bZ, t + e = 64 → (∀ c, c < 16 → bL c = nI 8191) → wY_closed_58 post J42 (nI i) (nI j) 0 (e + 1) 0 (nI t) (nI n) gk gt gf gl bS bP bA bL bT bN bR bE bZ := by
    intro J42 hJ e
    induction e with
    | zero =>
      intro t gt gf gl bA bL bT bN bR bE bZ ht hL
      have e : t = 64 := by omega
      subst e
      exact br_t (nI_le (a := 64) (b := 64) (by decide) (by decide)) (nm_r (nI_1 0) (hJ _ _ _ _ _ _ _ _ _ _ hL))
    | succ e ih =>
      intro t gt gf gl bA bL bT bN bR bE bZ ht hL
      have e1 : nI t / 16 = nI (t / 16) := pk_div (d := 16) (by omega) (by decide) (by decide)
      have e2 : nI t / 4 - nI t / 4 / 4 * 4 = nI (t / 4 % 4) := by
        rw [iv_d4 (by omega)]
        exact iv_r4 (by omega)
      have e3 : nI t - nI t / 4 * 4 = nI (t % 4) := iv_r4 (by omega)
      have h159 : ∀ gt gf gl bA bL bT bN bR bE bZ, (∀ c, c < 16 → bL c = nI 8191) → wY_closed_159 post J42 (wY_closed_58 post J42 (nI i) (nI j) 0 (e + 1)) (nI i) (nI j) 0 0 (nI t) (nI n) gk gt gf gl bS bP bA bL bT bN bR bE bZ :=
        fun gt gf gl bA bL bT bN bR bE bZ hL => br_t rfl (nm_r (nI_1 t) (ih (t + 1) gt gf gl bA bL bT bN bR bE bZ (by omega) hL))
      have h138 : wY_closed_138 post J42 (wY_closed_58 post J42 (nI i) (nI j) 0 (e + 1)) (nI i) (nI j) 0 0 (nI t) (nI (t / 16)) (nI (t / 4 % 4)) (nI (t % 4)) (nI n) gk gt gf gl bS bP bA bL bT bN bR bE bZ :=
        br_t rfl (h159 gt gf gl bA bL bT bN bR bE bZ hL)
      refine br_f (nI_ge (b := 64) (by omega) (by decide)) ⟨by decide, nm_r e1 ⟨iv_n4, iv_n4, nm_r e2 ⟨iv_n4, nm_r e3 ?_⟩⟩⟩
      refine br_c (fun _ => h138) (fun _ => br_c (fun _ => h138) (fun _ => br_c (fun _ => h138) (fun _ => br_c (fun _ => h138) (fun _ => br_c (fun _ => h138) (fun _ => br_c (fun _ => h138) (fun _ => ?_))))))
      unfold wY_closed_139
      refine br_f (by decide) (iv_ydr (by omega) (by omega) (by omega) hL (fun gt gf gl bA bL bT bN bR bE bZ hL' => ?_))
      exact br_t rfl (h159 gt gf gl bA bL bT bN bR bE bZ hL')
  have key : ∀ e x bL, x + e = 16 → (∀ c, c < x → bL c = nI 8191) → wY_closed_13 post (nI i) (nI j) (nI n) gk gt gf gl (e + 1) (nI x) bS bP bA bL bT bN bR bE bZ := by
    intro e
    induction e with
    | zero =>
      intro x bL hx hc
      have e : x = 16 := by omega
      subst e
      refine br_t (nI_le (a := 16) (b := 16) (by decide) (by decide)) ⟨2, ?_⟩
      refine br_f (by decide) (br_f (by decide) ⟨65, inner (wY_closed_42 post (nI i) (nI j) 1) (fun gt gf gl bA bL bT bN bR bE bZ hL => ?_) 64 0 gt gf gl bA bL bT bN bR bE bZ (by decide) hc⟩)
      exact br_f (by decide) (br_t rfl (fin _ _ _ _ _ _ _ _ _ _ hL))
    | succ e ih =>
      intro x bL hx hc
      have ec : (nI x).toNatClampNeg = x := nI_clamp (by omega)
      have vi : vp_in (nI x) 16 := vp_in_nI (by omega) (by decide)
      refine br_f (nI_ge (b := 16) (by omega) (by decide)) ⟨vi, vi, ?_⟩
      rw [ec]
      refine nm_e (nm_r (nI_1 x) (ih (x + 1) _ (by omega) (fun c hcx => ?_)))
      by_cases e : c = x
      · rw [e, pk_us]
        exact hS x (by omega)
      · rw [pk_un e]
        exact hc c (by omega)
  exact ⟨17, key 16 0 bL (by decide) (fun c hc => absurd hc (Nat.not_lt_zero _))⟩
end
theorem iv_yinit {post : SY → Prop} {x : Int32} {n : Nat} (hc : iv_cl x n)
    (h : ∀ bS, (∀ c, c < 16 → bS c = nI 8191) → post (nI n, 0, 0, 0, 0, bS, (fun _ => 0), (fun _ => 0), (fun _ => 0), (fun _ => 0), (fun _ => 0), (fun _ => 0), (fun _ => 0), (fun _ => 0))) :
    wpY_init post x := by
  have key : ∀ e c bS, c + e = 16 → (∀ a, a < c → bS a = nI 8191) → wY_init_99 post (nI n) 0 0 0 0 (e + 1) (nI c) bS (fun _ => 0) (fun _ => 0) (fun _ => 0) (fun _ => 0) (fun _ => 0) (fun _ => 0) (fun _ => 0) (fun _ => 0) := by
    intro e
    induction e with
    | zero =>
      intro c bS hc hE
      have e : c = 16 := by omega
      subst e
      exact br_t (nI_le (a := 16) (b := 16) (by decide) (by decide)) (h bS hE)
    | succ e ih =>
      intro c bS hc hE
      have ec : (nI c).toNatClampNeg = c := nI_clamp (by omega)
      refine br_f (nI_ge (b := 16) (by omega) (by decide)) ⟨vp_in_nI (by omega) (by decide), ?_⟩
      rw [ec]
      refine nm_e (nm_r (nI_1 c) (ih (c + 1) _ (by omega) (fun a ha => ?_)))
      by_cases e : a = c
      · rw [e, pk_us]
        rfl
      · rw [pk_un e]
        exact hE a (by omega)
  have hh : ∃ f, wY_init_99 post (nI n) 0 0 0 0 f 0 (fun _ => 0) (fun _ => 0) (fun _ => 0) (fun _ => 0) (fun _ => 0) (fun _ => 0) (fun _ => 0) (fun _ => 0) (fun _ => 0) :=
    ⟨17, key 16 0 (fun _ => 0) (by decide) (fun a ha => absurd ha (Nat.not_lt_zero _))⟩
  rcases hc with ⟨h1, e⟩ | ⟨h1, h2, e⟩ | ⟨h1, h2, e⟩
  · subst e
    exact br_f h1 hh
  · subst e
    exact br_t h1 (br_t h2 hh)
  · subst e
    exact br_t h1 (br_f h2 hh)
end
section
theorem iv_cm_L {n : Nat} {L : Nat → Nat} {m : Nat} {N : iv_N} (hC : iv_Can n L m) (hN : ∀ i j, i < n → j < n → iv_rl L i j = N i j) {p q : Nat} (hp : p < 2 * n) (hq : q < 2 * n) : iv_cm N p q = iv_cmp (L p) (L q) := by
  rw [← iv_rl_cm hC.1 hp hq]
  unfold iv_cm
  rw [hN _ _ (by omega) (by omega)]
theorem iv_fN_L {n : Nat} {L : Nat → Nat} {m : Nat} {N : iv_N} (hC : iv_Can n L m) (hN : ∀ i j, i < n → j < n → iv_rl L i j = N i j) {p : Nat} (hp : p < 2 * n) : iv_fN N p = iv_fst L p := by
  rw [Bool.eq_iff_iff, iv_fN_iff, iv_fst_iff]
  constructor
  · intro h q hq e
    have := h q hq
    rw [iv_cm_L hC hN (by omega) hp] at this
    exact this (iv_c1 e)
  · intro h q hq e
    rw [iv_cm_L hC hN (by omega) hp] at e
    have h1 := iv_cs (L q) (L p)
    have h2 := h q hq
    omega
theorem iv_pts {n : Nat} {L : Nat → Nat} {m : Nat} {N : iv_N} (hC : iv_Can n L m) (hN : ∀ i j, i < n → j < n → iv_rl L i j = N i j) : iv_ct (iv_fN N) (2 * n) = m := by
  rw [← iv_total hC]
  exact iv_ct_congr _ (fun q hq => iv_fN_L hC hN hq)
theorem iv_plc {n : Nat} {L : Nat → Nat} {m : Nat} {N : iv_N} (hC : iv_Can n L m) (hN : ∀ i j, i < n → j < n → iv_rl L i j = N i j) {p : Nat} (hp : p < 2 * n) : iv_ct (fun q => decide (iv_cm N q p = 0) && iv_fN N q) (2 * n) = L p := by
  refine Eq.trans (iv_ct_congr _ (fun q hq => ?_)) (iv_rank hC (L p) (Nat.le_of_lt (hC.2.1 p hp)))
  rw [iv_fN_L hC hN hq, iv_cm_L hC hN hq hp]
  congr 1
  refine decide_eq_decide.mpr ?_
  have := iv_cs (L q) (L p)
  omega
theorem iv_crd {n : Nat} {L : Nat → Nat} {m : Nat} {N : iv_N} (hn : n ≤ 4) (hC : iv_Can n L m) (hN : ∀ i j, i < n → j < n → iv_rl L i j = N i j) : iv_mx (iv_cb n N) n = iv_mx (iv_cv n L) 8 := by
  rw [← iv_crowd hC hn]
  refine iv_mx_congr n (fun i hi => ?_)
  refine iv_ct_congr n (fun j hj => ?_)
  rw [iv_cm_L hC hN (by omega) (by omega), iv_cm_L hC hN (by omega) (by omega)]
  have h1 := iv_cs (L (2 * j)) (L (2 * i))
  have h2 := iv_cs (L (2 * j + 1)) (L (2 * i))
  congr 1
  · exact decide_eq_decide.mpr (by omega)
  · exact decide_eq_decide.mpr (by omega)
theorem iv_pos {n : Nat} (hn : iv_n n) {A : iv_N} {i j : Nat} (hi : i < n) (hj : j < n) : iv_or ((iv_nets A (iv_ps n) iv_R0).map (fun N => N i j)) = iv_or ((iv_leaves n A).map (fun x => iv_rl x.1 i j)) := by
  apply iv_or_ext
  intro t
  rw [List.mem_map, List.mem_map]
  constructor
  · rintro ⟨N, hN, e⟩
    obtain ⟨x, hx, ex⟩ := (iv_same hn N).mp hN
    refine ⟨x, hx, ?_⟩
    rw [← e, ← ex, iv_nt_in hi hj]
  · rintro ⟨x, hx, e⟩
    exact ⟨iv_nt n x.1, (iv_same hn _).mpr ⟨x, hx, rfl⟩, by rw [iv_nt_in hi hj]; exact e⟩
theorem iv_few {n : Nat} (hn : iv_n n) {A : iv_N} (h : iv_nets A (iv_ps n) iv_R0 ≠ []) : iv_leaves n A ≠ [] ∧ iv_min ((iv_nets A (iv_ps n) iv_R0).map (fun N => iv_ct (iv_fN N) (2 * n))) = iv_min ((iv_leaves n A).map (fun x => x.2)) := by
  have hn1 : 1 ≤ n := by
    unfold iv_n at hn
    omega
  refine ⟨fun z => h ?_, ?_⟩
  · have := iv_len hn A
    rw [z, List.length_nil] at this
    exact List.length_eq_zero_iff.mp this.symm
  · refine iv_min_ext (fun t => ?_) (by simpa using h)
    rw [List.mem_map, List.mem_map]
    constructor
    · rintro ⟨N, hN, e⟩
      obtain ⟨x, hx, ex⟩ := (iv_same hn N).mp hN
      refine ⟨x, hx, ?_⟩
      rw [← e]
      exact (iv_pts (iv_leaf_can hn1 hx).1 (fun i j hi hj => by rw [← ex, iv_nt_in hi hj])).symm
    · rintro ⟨x, hx, e⟩
      refine ⟨iv_nt n x.1, (iv_same hn _).mpr ⟨x, hx, rfl⟩, ?_⟩
      rw [← e]
      exact iv_pts (iv_leaf_can hn1 hx).1 (fun i j hi hj => by rw [iv_nt_in hi hj])
section
variable {fn fp fk fd : Int32} {aA aP aL aT aM a1 a2 aU aS : Nat → Int32}
theorem iv_xst {post : SX → Prop} {i j U : Nat} (hi : i < 4) (hj : j < 4) (hU : U < 8192) (h : ∀ aA', post (fn, fp, fk, fd, aA', aP, aL, aT, aM, a1, a2, aU, aS)) :
    wpX_state post (fn, fp, fk, fd, aA, aP, aL, aT, aM, a1, a2, aU, aS) (nI i) (nI j) (nI U) := by
  unfold wpX_state
  simp only [wpX_cell, iv_c4]
  exact ⟨iv_cin hi hj, nm_e (iv_xmir hU ⟨iv_cin hj hi, nm_e (h _)⟩)⟩
end
section
variable {gi gk gt gf gl : Int32} {bS bP bA bL bT bN bR bE bZ : Nat → Int32}
theorem iv_yst {post : SY → Prop} {i j U : Nat} (hi : i < 4) (hj : j < 4) (hU : U < 8192) (h : ∀ bS', post (gi, gk, gt, gf, gl, bS', bP, bA, bL, bT, bN, bR, bE, bZ)) :
    wpY_state post (gi, gk, gt, gf, gl, bS, bP, bA, bL, bT, bN, bR, bE, bZ) (nI i) (nI j) (nI U) := by
  unfold wpY_state
  simp only [iv_4c]
  exact ⟨iv_cin hi hj, nm_e (iv_ytur hU ⟨iv_cin hj hi, nm_e (h _)⟩)⟩
end
end
section
def iv_Rel (u : SX) (v : SY) : Prop :=
  ∃ (n : Nat) (aA aP aL aT aU aS : Nat → Int32) (gt gf gl : Int32) (bS bP bA bL bT bN bR bE bZ : Nat → Int32), iv_n n ∧ (∀ c, c < 16 → aA c = nI 8191 ∧ aS c = nI 6) ∧ (∀ c, c < 16 → bS c = nI 8191) ∧ iv_TB aT iv_big ∧
    u = (nI n, nI (iv_ps n).length, 0, 0, aA, aP, aL, aT, (fun c => nI (iv_fm c)), (fun c => nI ((iv_lp n).2.1 c)), (fun c => nI ((iv_lp n).2.2 c)), aU, aS) ∧
    v = (nI n, 0, gt, gf, gl, bS, bP, bA, bL, bT, bN, bR, bE, bZ)
def i_Rel (k : Nat) (u : SX) (v : SY) : Prop := k ≤ 1 → iv_Rel u v
theorem i_up {k : Nat} {u : SX} {v : SY} (h : i_Rel k u v) : i_Rel (k + 4) u v := fun z => absurd z (by omega)
theorem iv_end (k : Nat) (u : SX) (v : SY) : i_Rel (k + 4) u v := fun z => absurd z (by omega)
theorem i_vc0 (k0 : Int32) : wpX_init (fun u => wpY_init (fun v => i_Rel 1 u v) k0) k0 := by
  obtain ⟨n, hn, hc⟩ := iv_cl_ex k0
  refine iv_xinit hn hc (fun aA aT aS hA hT => iv_yinit hc (fun bS hS => ?_))
  exact fun _ => ⟨n, aA, _, _, aT, _, aS, _, _, _, bS, _, _, _, _, _, _, _, _, hn, hA, hS, hT, rfl, rfl⟩
def iv_AA : iv_N := fun _ _ => 8191
theorem iv_hA {n : Nat} {a : Nat → Int32} (hn : iv_n n) (h : ∀ c, c < 16 → a c = nI 8191) : ∀ i j, i < j → j < n → a (4 * i + j) = nI (iv_AA i j) ∧ iv_AA i j < 8192 := by
  intro i j h1 h2
  have h4 : n ≤ 4 := by
    unfold iv_n at hn
    omega
  exact ⟨h _ (by omega), (by decide : 8191 < 8192)⟩
theorem iv_hS {n : Nat} {a : Nat → Int32} (h : ∀ c, c < 16 → a c = nI 6) : ∀ x y, x < 4 → y < 4 → iv_off (iv_ps n) x y → a (4 * x + y) = 6 := fun x y hx hy _ => h _ (by omega)
theorem iv_n4' {n : Nat} (hn : iv_n n) : n ≤ 4 := by
  unfold iv_n at hn
  omega
theorem iv_n31 {n : Nat} (hn : iv_n n) : n < 2 ^ 31 := by
  unfold iv_n at hn
  omega
theorem i_vc_limit {k : Nat} {u : SX} {v : SY} (I : i_Rel k u v) (hk : k + 4 ≤ 5) (v1 : Int32) (v2 : Int32) (v3 : Int32) : wpX_limit (fun r u' => wpY_limit (fun r' v' => r' = r ∧ i_Rel (k + 4) u' v') v v1 v2 v3) u v1 v2 v3 := by
  obtain ⟨n, aA, aP, aL, aT, aU, aS, gt, gf, gl, bS, bP, bA, bL, bT, bN, bR, bE, bZ, hn, hA, hS, hT, rfl, rfl⟩ := I (by omega)
  have h4 := iv_n4' hn
  unfold wpX_limit
  dsimp only
  refine iv_xpr (iv_n31 hn) (fun hp => br_f (by decide) ?_) (fun hp => br_t rfl ?_)
  · refine iv_xS (fun hs => br_f (by decide) ?_) (fun hs => br_t rfl ?_)
    · obtain ⟨i, j, hi, hj, hne, rfl, rfl⟩ := hp
      obtain ⟨U, hU, rfl⟩ := hs
      have hU' : (8191 &&& U) < 8192 := Nat.lt_of_le_of_lt Nat.and_le_right hU
      simp only [wpX_cell, iv_c4]
      refine ⟨iv_cin (by omega) (by omega), nm_r (e' := nI (8191 &&& U)) (by rw [iv_ccl (by omega) (by omega), (hA _ (by omega)).1, nx_and]) (iv_xst (by omega) (by omega) hU' (fun aA' => iv_xsz hU' ?_))⟩
      unfold wpY_limit
      dsimp only
      refine iv_ypr (iv_n31 hn) (fun _ => br_f (by decide) ?_) (fun hp => absurd ⟨i, j, hi, hj, hne, rfl, rfl⟩ hp)
      refine iv_yS (fun _ => br_f (by decide) ?_) (fun hs => absurd ⟨U, hU, rfl⟩ hs)
      rw [iv_4c]
      exact ⟨iv_cin (by omega) (by omega), nm_r (e' := nI (8191 &&& U)) (by rw [iv_ccl (by omega) (by omega), hS _ (by omega), nx_and]) (iv_yst (by omega) (by omega) hU' (fun bS' => iv_ysz hU' ⟨rfl, iv_end _ _ _⟩))⟩
    · unfold wpY_limit
      dsimp only
      refine iv_ypr (iv_n31 hn) (fun _ => br_f (by decide) ?_) (fun hp' => absurd hp hp')
      exact iv_yS (fun hs' => absurd hs' hs) (fun _ => br_t rfl ⟨rfl, iv_end _ _ _⟩)
  · unfold wpY_limit
    dsimp only
    exact iv_ypr (iv_n31 hn) (fun hp' => absurd hp' hp) (fun _ => br_t rfl ⟨rfl, iv_end _ _ _⟩)
theorem i_vc_free {k : Nat} {u : SX} {v : SY} (I : i_Rel k u v) (hk : k + 4 ≤ 5) (v1 : Int32) (v2 : Int32) : wpX_free (fun r u' => wpY_free (fun r' v' => r' = r ∧ i_Rel (k + 4) u' v') v v1 v2) u v1 v2 := by
  obtain ⟨n, aA, aP, aL, aT, aU, aS, gt, gf, gl, bS, bP, bA, bL, bT, bN, bR, bE, bZ, hn, hA, hS, hT, rfl, rfl⟩ := I (by omega)
  have h4 := iv_n4' hn
  unfold wpX_free
  dsimp only
  refine iv_xpr (iv_n31 hn) (fun hp => br_f (by decide) ?_) (fun hp => br_t rfl ?_)
  · obtain ⟨i, j, hi, hj, hne, rfl, rfl⟩ := hp
    simp only [wpX_cell, iv_c4]
    refine ⟨iv_cin (by omega) (by omega), nm_r (e' := nI 8191) (by rw [iv_ccl (by omega) (by omega)]; exact (hA _ (by omega)).1) (iv_xst (U := 8191) (by omega) (by omega) (by decide) (fun aA' => iv_xsz (by decide) ?_))⟩
    unfold wpY_free
    dsimp only
    refine iv_ypr (iv_n31 hn) (fun _ => br_f (by decide) ?_) (fun hp => absurd ⟨i, j, hi, hj, hne, rfl, rfl⟩ hp)
    rw [iv_4c]
    exact ⟨iv_cin (by omega) (by omega), nm_r (e' := nI 8191) (by rw [iv_ccl (by omega) (by omega)]; exact hS _ (by omega)) (iv_yst (U := 8191) (by omega) (by omega) (by decide) (fun bS' => iv_ysz (by decide) ⟨rfl, iv_end _ _ _⟩))⟩
  · unfold wpY_free
    dsimp only
    exact iv_ypr (iv_n31 hn) (fun hp' => absurd hp' hp) (fun _ => br_t rfl ⟨rfl, iv_end _ _ _⟩)
theorem iv_0c (c : Nat) : (0 : Int32) * 16 + nI c = nI c := by
  rw [Int32.zero_mul, Int32.zero_add]
theorem iv_c0' (c : Nat) : (16 : Int32) * 0 + nI c = nI c := by
  rw [Int32.mul_zero, Int32.zero_add]
theorem i_vc_push {k : Nat} {u : SX} {v : SY} (I : i_Rel k u v) (hk : k + 4 ≤ 5) : wpX_push (fun r u' => wpY_push (fun r' v' => r' = r ∧ i_Rel (k + 4) u' v') v) u := by
  obtain ⟨n, aA, aP, aL, aT, aU, aS, gt, gf, gl, bS, bP, bA, bL, bT, bN, bR, bE, bZ, hn, hA, hS, hT, rfl, rfl⟩ := I (by omega)
  have yl : ∀ (post : Int32 → SY → Prop), (∀ bP', post 1 (nI n, 1, gt, gf, gl, bS, bP', bA, bL, bT, bN, bR, bE, bZ)) → ∀ e c bP, c + e = 16 → wY_push_13 post (nI n) 0 gt gf gl (e + 1) (nI c) bS bP bA bL bT bN bR bE bZ := by
    intro post hp e
    induction e with
    | zero =>
      intro c bP hc
      have e : c = 16 := by omega
      subst e
      exact br_t (nI_le (a := 16) (b := 16) (by decide) (by decide)) (nm_r (nI_1 0) (hp bP))
    | succ e ih =>
      intro c bP hc
      refine br_f (nI_ge (b := 16) (by omega) (by decide)) ?_
      rw [iv_c0']
      exact ⟨vp_in_nI (by omega) (by decide), vp_in_nI (by omega) (by decide), nm_e (nm_r (nI_1 c) (ih (c + 1) _ (by omega)))⟩
  have xl : ∀ (post : Int32 → SX → Prop) (fp fd : Int32) (aM a1 a2 : Nat → Int32), (∀ aP', post 1 (nI n, fp, 1, fd, aA, aP', aL, aT, aM, a1, a2, aU, aS)) → ∀ e c aP, c + e = 16 → wX_push_13 post (nI n) fp 0 fd (e + 1) (nI c) aA aP aL aT aM a1 a2 aU aS := by
    intro post fp fd aM a1 a2 hp e
    induction e with
    | zero =>
      intro c aP hc
      have e : c = 16 := by omega
      subst e
      exact br_t (nI_le (a := 16) (b := 16) (by decide) (by decide)) (nm_r (nI_1 0) (hp aP))
    | succ e ih =>
      intro c aP hc
      refine br_f (nI_ge (b := 16) (by omega) (by decide)) ?_
      rw [iv_0c]
      exact ⟨vp_in_nI (by omega) (by decide), vp_in_nI (by omega) (by decide), nm_e (nm_r (nI_1 c) (ih (c + 1) _ (by omega)))⟩
  refine br_t (by decide) ⟨17, xl _ _ _ _ _ _ (fun aP' => ?_) 16 0 aP (by decide)⟩
  exact br_f (by decide) ⟨17, yl _ (fun bP' => ⟨rfl, iv_end _ _ _⟩) 16 0 bP (by decide)⟩
theorem i_vc_pop {k : Nat} {u : SX} {v : SY} (I : i_Rel k u v) (hk : k + 4 ≤ 5) : wpX_pop (fun r u' => wpY_pop (fun r' v' => r' = r ∧ i_Rel (k + 4) u' v') v) u := by
  obtain ⟨n, aA, aP, aL, aT, aU, aS, gt, gf, gl, bS, bP, bA, bL, bT, bN, bR, bE, bZ, hn, hA, hS, hT, rfl, rfl⟩ := I (by omega)
  exact br_f (by decide) (br_t rfl ⟨rfl, iv_end _ _ _⟩)
theorem i_vc_stated {k : Nat} {u : SX} {v : SY} (I : i_Rel k u v) (hk : k + 4 ≤ 5) (v1 : Int32) (v2 : Int32) : wpX_stated (fun r => wpY_stated (fun r' => r' = r ∧ i_Rel (k + 4) u v) v v1 v2) u v1 v2 := by
  obtain ⟨n, aA, aP, aL, aT, aU, aS, gt, gf, gl, bS, bP, bA, bL, bT, bN, bR, bE, bZ, hn, hA, hS, hT, rfl, rfl⟩ := I (by omega)
  have h4 := iv_n4' hn
  unfold wpX_stated
  dsimp only
  refine iv_xpr (iv_n31 hn) (fun hp => br_f (by decide) ?_) (fun hp => br_t rfl ?_)
  · obtain ⟨i, j, hi, hj, hne, rfl, rfl⟩ := hp
    simp only [wpX_cell, iv_c4]
    refine ⟨iv_cin (by omega) (by omega), ?_⟩
    unfold wpY_stated
    dsimp only
    refine iv_ypr (iv_n31 hn) (fun _ => br_f (by decide) ?_) (fun hp => absurd ⟨i, j, hi, hj, hne, rfl, rfl⟩ hp)
    rw [iv_4c, iv_ccl (by omega) (by omega), hS _ (by omega), (hA _ (by omega)).1]
    exact ⟨iv_cin (by omega) (by omega), rfl, iv_end _ _ _⟩
  · unfold wpY_stated
    dsimp only
    exact iv_ypr (iv_n31 hn) (fun hp' => absurd hp' hp) (fun _ => br_t rfl ⟨rfl, iv_end _ _ _⟩)
theorem i_vc_scenarios {k : Nat} {u : SX} {v : SY} (I : i_Rel k u v) (hk : k + 4 ≤ 5) : wpX_scenarios (fun r u' => wpY_scenarios (fun r' v' => r' = r ∧ i_Rel (k + 4) u' v') v) u := by
  obtain ⟨n, aA, aP, aL, aT, aU, aS, gt, gf, gl, bS, bP, bA, bL, bT, bN, bR, bE, bZ, hn, hA, hS, hT, rfl, rfl⟩ := I (by omega)
  refine iv_xscen (iv_xe0 hn hT (iv_hA hn (fun c hc => (hA c hc).1))) rfl (iv_hS (fun c hc => (hA c hc).2)) (fun fd aU' aS' => ?_)
  unfold wpY_scenarios
  dsimp only
  refine iv_yall hn (iv_hA hn hS) (fun gt gf gl bA bT bN bR bE bZ _ ha => ⟨?_, iv_end _ _ _⟩)
  rw [ha.1, iv_len hn]
theorem i_vc_possible {k : Nat} {u : SX} {v : SY} (I : i_Rel k u v) (hk : k + 4 ≤ 5) (v1 : Int32) (v2 : Int32) : wpX_possible (fun r u' => wpY_possible (fun r' v' => r' = r ∧ i_Rel (k + 4) u' v') v v1 v2) u v1 v2 := by
  obtain ⟨n, aA, aP, aL, aT, aU, aS, gt, gf, gl, bS, bP, bA, bL, bT, bN, bR, bE, bZ, hn, hA, hS, hT, rfl, rfl⟩ := I (by omega)
  have h4 := iv_n4' hn
  unfold wpX_possible
  dsimp only
  refine iv_xpr (iv_n31 hn) (fun hp => br_f (by decide) ?_) (fun hp => br_t rfl ?_)
  · obtain ⟨i, j, hi, hj, hne, rfl, rfl⟩ := hp
    refine iv_xfound (iv_xe0 hn hT (iv_hA hn (fun c hc => (hA c hc).1))) rfl (iv_hS (fun c hc => (hA c hc).2)) (by omega) (by omega) (fun fd aU' aS' => ?_)
    unfold wpY_possible
    dsimp only
    refine iv_ypr (iv_n31 hn) (fun _ => br_f (by decide) ?_) (fun hp => absurd ⟨i, j, hi, hj, hne, rfl, rfl⟩ hp)
    refine iv_yall hn (iv_hA hn hS) (fun gt gf gl bA bT bN bR bE bZ _ ha => ?_)
    dsimp only
    rw [iv_4c, iv_ccl (by omega) (by omega), ha.2.1 i j hi hj hne]
    exact ⟨iv_cin (by omega) (by omega), by rw [iv_pos hn hi hj], iv_end _ _ _⟩
  · unfold wpY_possible
    dsimp only
    exact iv_ypr (iv_n31 hn) (fun hp' => absurd hp' hp) (fun _ => br_t rfl ⟨rfl, iv_end _ _ _⟩)
theorem i_vc_follows {k : Nat} {u : SX} {v : SY} (I : i_Rel k u v) (hk : k + 4 ≤ 5) (v1 : Int32) (v2 : Int32) (v3 : Int32) : wpX_follows (fun r u' => wpY_follows (fun r' v' => r' = r ∧ i_Rel (k + 4) u' v') v v1 v2 v3) u v1 v2 v3 := by
  obtain ⟨n, aA, aP, aL, aT, aU, aS, gt, gf, gl, bS, bP, bA, bL, bT, bN, bR, bE, bZ, hn, hA, hS, hT, rfl, rfl⟩ := I (by omega)
  have h4 := iv_n4' hn
  unfold wpX_follows
  dsimp only
  refine iv_xpr (iv_n31 hn) (fun hp => br_f (by decide) ?_) (fun hp => br_t rfl ?_)
  · refine iv_xS (fun hs => br_f (by decide) ?_) (fun hs => br_t rfl ?_)
    · obtain ⟨i, j, hi, hj, hne, rfl, rfl⟩ := hp
      refine iv_xfound (iv_xe0 hn hT (iv_hA hn (fun c hc => (hA c hc).1))) rfl (iv_hS (fun c hc => (hA c hc).2)) (by omega) (by omega) (fun fd aU' aS' => nm_e ?_)
      have yy : ∀ (post : Int32 → SY → Prop), ((nI (iv_or ((iv_nets iv_AA (iv_ps n) iv_R0).map (fun N => N i j))) &&& (v3 ^^^ (-1)) = 0 → ∀ w, post 1 w) ∧ (¬ nI (iv_or ((iv_nets iv_AA (iv_ps n) iv_R0).map (fun N => N i j))) &&& (v3 ^^^ (-1)) = 0 → ∀ w, post 0 w)) →
          wpY_follows post (nI n, 0, gt, gf, gl, bS, bP, bA, bL, bT, bN, bR, bE, bZ) (nI i) (nI j) v3 := by
        intro post hpost
        unfold wpY_follows
        dsimp only
        refine iv_ypr (iv_n31 hn) (fun _ => br_f (by decide) ?_) (fun hp => absurd ⟨i, j, hi, hj, hne, rfl, rfl⟩ hp)
        refine iv_yS (fun _ => br_f (by decide) ?_) (fun hs' => absurd hs hs')
        refine iv_yall hn (iv_hA hn hS) (fun gt gf gl bA bT bN bR bE bZ _ ha => ?_)
        dsimp only
        rw [iv_4c, iv_ccl (by omega) (by omega), ha.2.1 i j hi hj hne, ← iv_pos hn hi hj]
        exact ⟨iv_cin (by omega) (by omega), fun z => hpost.1 z _, fun z => hpost.2 z _⟩
      exact br_c (fun z => yy _ ⟨fun _ _ => ⟨rfl, iv_end _ _ _⟩, fun z' => absurd z z'⟩) (fun z => yy _ ⟨fun z' => absurd z' z, fun _ _ => ⟨rfl, iv_end _ _ _⟩⟩)
    · unfold wpY_follows
      dsimp only
      refine iv_ypr (iv_n31 hn) (fun _ => br_f (by decide) ?_) (fun hp' => absurd hp hp')
      exact iv_yS (fun hs' => absurd hs' hs) (fun _ => br_t rfl ⟨rfl, iv_end _ _ _⟩)
  · unfold wpY_follows
    dsimp only
    exact iv_ypr (iv_n31 hn) (fun hp' => absurd hp' hp) (fun _ => br_t rfl ⟨rfl, iv_end _ _ _⟩)
theorem iv_fm_h : ∀ c, c < 26 → (fun c => nI (iv_fm c)) c = nI (iv_md c) := fun c hc => by
  show nI (iv_fm c) = _
  rw [iv_fm_v c hc]
theorem iv_u {n : Nat} {x : Int32} {k k' : Nat} {N N' : iv_N} {l : List iv_N} (hl : l.length < 2 ^ 31) (e : x = nI k) (h : l[k]? = some N) (e' : x = nI k') (h' : l[k']? = some N') : N' = N := by
  have h1 := (List.getElem?_eq_some_iff.mp h).1
  have h2 := (List.getElem?_eq_some_iff.mp h').1
  have h3 := (nI_eq (by omega) (by omega)).mp (e.symm.trans e')
  rw [h3, h'] at h
  exact Option.some.inj h
theorem iv_nlen {n : Nat} (hn : iv_n n) (A : iv_N) : (iv_nets A (iv_ps n) iv_R0).length < 2 ^ 31 := by
  have h1 := iv_nets_len A (iv_ps n) iv_R0
  have h2 := iv_ko_n hn A iv_R0
  omega
theorem i_vc_relation {k : Nat} {u : SX} {v : SY} (I : i_Rel k u v) (hk : k + 4 ≤ 5) (v1 : Int32) (v2 : Int32) (v3 : Int32) : wpX_relation (fun r u' => wpY_relation (fun r' v' => r' = r ∧ i_Rel (k + 4) u' v') v v1 v2 v3) u v1 v2 v3 := by
  obtain ⟨n, aA, aP, aL, aT, aU, aS, gt, gf, gl, bS, bP, bA, bL, bT, bN, bR, bE, bZ, hn, hA, hS, hT, rfl, rfl⟩ := I (by omega)
  have h4 := iv_n4' hn
  unfold wpX_relation
  dsimp only
  refine iv_xpr (iv_n31 hn) (fun hp => br_f (by decide) ?_) (fun hp => br_t rfl ?_)
  · obtain ⟨i, j, hi, hj, hne, rfl, rfl⟩ := hp
    refine iv_xfind (iv_xe0 hn hT (iv_hA hn (fun c hc => (hA c hc).1))) rfl (iv_hS (fun c hc => (hA c hc).2)) (fun hno fd aU' aS' => br_t rfl ?_) (fun q N e _ hN fd aU' aS' hs => br_f (by decide) ?_)
    · unfold wpY_relation
      dsimp only
      refine iv_ypr (iv_n31 hn) (fun _ => br_f (by decide) ?_) (fun hp => absurd ⟨i, j, hi, hj, hne, rfl, rfl⟩ hp)
      exact iv_yfind hn (iv_hA hn hS) (fun _ gt gf gl bA bT bN bR bE bZ => br_t rfl ⟨rfl, iv_end _ _ _⟩) (fun q N e hN => absurd hN (fun z => hno q N e z))
    · simp only [wpX_cell, iv_c4]
      refine ⟨iv_cin (by omega) (by omega), ?_⟩
      rw [iv_ccl (by omega) (by omega), (hs i j (by omega) (by omega)).1]
      unfold wpY_relation
      dsimp only
      refine iv_ypr (iv_n31 hn) (fun _ => br_f (by decide) ?_) (fun hp => absurd ⟨i, j, hi, hj, hne, rfl, rfl⟩ hp)
      refine iv_yfind hn (iv_hA hn hS) (fun hno => absurd hN (fun z => hno q N e z)) (fun q' N' e' hN' L m gt gf bA bT bN bR bE bZ hC hR hZ => br_f (by decide) ?_)
      have eN := iv_u (n := n) (iv_nlen hn _) e hN e' hN'
      subst eN
      have hm := iv_can_m hC
      have l1 := hC.2.1 (2 * i) (by omega)
      have l2 := hC.2.1 (2 * i + 1) (by omega)
      have l3 := hC.2.1 (2 * j) (by omega)
      have l4 := hC.2.1 (2 * j + 1) (by omega)
      have e2 : (2 : Int32) * nI i + 1 = nI (2 * i + 1) := iv_2r i 1
      have e3 : (2 : Int32) * nI j + 1 = nI (2 * j + 1) := iv_2r j 1
      dsimp only
      rw [e2, e3, iv_2n, iv_2n, nI_clamp (n := 2 * i) (by omega), nI_clamp (n := 2 * i + 1) (by omega), nI_clamp (n := 2 * j) (by omega), nI_clamp (n := 2 * j + 1) (by omega), hZ (2 * i) (by omega), hZ (2 * i + 1) (by omega), hZ (2 * j) (by omega), hZ (2 * j + 1) (by omega)]
      refine ⟨vp_in_nI (by omega) (by decide), vp_in_nI (by omega) (by decide), vp_in_nI (by omega) (by decide), vp_in_nI (by omega) (by decide), iv_yrel (by omega) (by omega) (by omega) (by omega) ⟨?_, iv_end _ _ _⟩⟩
      rw [← hR i j hi hj]
      rfl
  · unfold wpY_relation
    dsimp only
    exact iv_ypr (iv_n31 hn) (fun hp' => absurd hp' hp) (fun _ => br_t rfl ⟨rfl, iv_end _ _ _⟩)
theorem i_vc_points {k : Nat} {u : SX} {v : SY} (I : i_Rel k u v) (hk : k + 4 ≤ 5) (v1 : Int32) : wpX_points (fun r u' => wpY_points (fun r' v' => r' = r ∧ i_Rel (k + 4) u' v') v v1) u v1 := by
  obtain ⟨n, aA, aP, aL, aT, aU, aS, gt, gf, gl, bS, bP, bA, bL, bT, bN, bR, bE, bZ, hn, hA, hS, hT, rfl, rfl⟩ := I (by omega)
  have h4 := iv_n4' hn
  unfold wpX_points
  dsimp only
  refine iv_xfind (iv_xe0 hn hT (iv_hA hn (fun c hc => (hA c hc).1))) rfl (iv_hS (fun c hc => (hA c hc).2)) (fun hno fd aU' aS' => br_t rfl ?_) (fun q N e _ hN fd aU' aS' hs => br_f (by decide) (iv_xcount h4 iv_fm_h hs ?_))
  · unfold wpY_points
    dsimp only
    exact iv_yfind hn (iv_hA hn hS) (fun _ gt gf gl bA bT bN bR bE bZ => br_t rfl ⟨rfl, iv_end _ _ _⟩) (fun q N e hN => absurd hN (fun z => hno q N e z))
  · unfold wpY_points
    dsimp only
    refine iv_yfind hn (iv_hA hn hS) (fun hno => absurd hN (fun z => hno q N e z)) (fun q' N' e' hN' L m gt gf bA bT bN bR bE bZ hC hR hZ => br_f (by decide) ⟨?_, iv_end _ _ _⟩)
    have eN := iv_u (n := n) (iv_nlen hn _) e hN e' hN'
    subst eN
    rw [iv_pts hC hR]
theorem i_vc_place {k : Nat} {u : SX} {v : SY} (I : i_Rel k u v) (hk : k + 4 ≤ 5) (v1 : Int32) (v2 : Int32) : wpX_place (fun r u' => wpY_place (fun r' v' => r' = r ∧ i_Rel (k + 4) u' v') v v1 v2) u v1 v2 := by
  obtain ⟨n, aA, aP, aL, aT, aU, aS, gt, gf, gl, bS, bP, bA, bL, bT, bN, bR, bE, bZ, hn, hA, hS, hT, rfl, rfl⟩ := I (by omega)
  have h4 := iv_n4' hn
  unfold wpX_place
  dsimp only
  refine iv_xI (iv_n31 hn) (fun hp => br_f (by decide) ?_) (fun hp => br_t rfl ?_)
  · obtain ⟨i, hi, rfl⟩ := hp
    refine iv_xfind (iv_xe0 hn hT (iv_hA hn (fun c hc => (hA c hc).1))) rfl (iv_hS (fun c hc => (hA c hc).2)) (fun hno fd aU' aS' => br_t rfl ?_) (fun q N e _ hN fd aU' aS' hs => br_f (by decide) ?_)
    · unfold wpY_place
      dsimp only
      refine br_f (nI_pos (by omega)) (br_t (nI_lt hi (by omega)) ?_)
      exact iv_yfind hn (iv_hA hn hS) (fun _ gt gf gl bA bT bN bR bE bZ => br_t rfl ⟨rfl, iv_end _ _ _⟩) (fun q N e hN => absurd hN (fun z => hno q N e z))
    · have e2 : (2 : Int32) * nI i + 1 = nI (2 * i + 1) := iv_2r i 1
      rw [e2, iv_2n]
      refine iv_xnum h4 iv_fm_h hs (by omega) (iv_xnum h4 iv_fm_h hs (by omega) ?_)
      unfold wpY_place
      dsimp only
      rw [e2, iv_2n]
      refine br_f (nI_pos (by omega)) (br_t (nI_lt hi (by omega)) ?_)
      refine iv_yfind hn (iv_hA hn hS) (fun hno => absurd hN (fun z => hno q N e z)) (fun q' N' e' hN' L m gt gf bA bT bN bR bE bZ hC hR hZ => br_f (by decide) ?_)
      have eN := iv_u (n := n) (iv_nlen hn _) e hN e' hN'
      subst eN
      dsimp only
      rw [nI_clamp (n := 2 * i) (by omega), nI_clamp (n := 2 * i + 1) (by omega), hZ (2 * i) (by omega), hZ (2 * i + 1) (by omega), iv_plc hC hR (p := 2 * i) (by omega), iv_plc hC hR (p := 2 * i + 1) (by omega)]
      exact ⟨vp_in_nI (by omega) (by decide), vp_in_nI (by omega) (by decide), rfl, iv_end _ _ _⟩
  · unfold wpY_place
    dsimp only
    refine br_c (fun _ => ⟨rfl, iv_end _ _ _⟩) (fun z => br_f (fun w => ?_) ⟨rfl, iv_end _ _ _⟩)
    refine hp (iv_I_of (iv_n31 hn) z (fun w' => ?_))
    exact Int32.lt_irrefl (Int32.lt_of_lt_of_le w w')
theorem i_vc_crowd {k : Nat} {u : SX} {v : SY} (I : i_Rel k u v) (hk : k + 4 ≤ 5) (v1 : Int32) : wpX_crowd (fun r u' => wpY_crowd (fun r' v' => r' = r ∧ i_Rel (k + 4) u' v') v v1) u v1 := by
  obtain ⟨n, aA, aP, aL, aT, aU, aS, gt, gf, gl, bS, bP, bA, bL, bT, bN, bR, bE, bZ, hn, hA, hS, hT, rfl, rfl⟩ := I (by omega)
  have h4 := iv_n4' hn
  unfold wpX_crowd
  dsimp only
  refine iv_xfind (iv_xe0 hn hT (iv_hA hn (fun c hc => (hA c hc).1))) rfl (iv_hS (fun c hc => (hA c hc).2)) (fun hno fd aU' aS' => br_t rfl ?_) (fun q N e _ hN fd aU' aS' hs => br_f (by decide) (iv_xcrowd h4 iv_fm_h hs ?_))
  · unfold wpY_crowd
    dsimp only
    exact iv_yfind hn (iv_hA hn hS) (fun _ gt gf gl bA bT bN bR bE bZ => br_t rfl ⟨rfl, iv_end _ _ _⟩) (fun q N e hN => absurd hN (fun z => hno q N e z))
  · unfold wpY_crowd
    dsimp only
    refine iv_yfind hn (iv_hA hn hS) (fun hno => absurd hN (fun z => hno q N e z)) (fun q' N' e' hN' L m gt gf bA bT bN bR bE bZ hC hR hZ => br_f (by decide) (iv_ycrowd h4 (fun c hc => ?_) hZ ⟨?_, iv_end _ _ _⟩))
    · have h1 := hC.2.1 c hc
      have h2 := iv_can_m hC
      omega
    · have eN := iv_u (n := n) (iv_nlen hn _) e hN e' hN'
      subst eN
      rw [iv_crd h4 hC hR]
theorem i_vc_fewest {k : Nat} {u : SX} {v : SY} (I : i_Rel k u v) (hk : k + 4 ≤ 5) : wpX_fewest (fun r u' => wpY_fewest (fun r' v' => r' = r ∧ i_Rel (k + 4) u' v') v) u := by
  obtain ⟨n, aA, aP, aL, aT, aU, aS, gt, gf, gl, bS, bP, bA, bL, bT, bN, bR, bE, bZ, hn, hA, hS, hT, rfl, rfl⟩ := I (by omega)
  refine iv_xfew (iv_xe0 hn hT (iv_hA hn (fun c hc => (hA c hc).1))) rfl (iv_hS (fun c hc => (hA c hc).2)) iv_fm_h (fun hz fd aU' aS' => ?_) (fun hz fd aU' aS' => ?_)
  · unfold wpY_fewest
    dsimp only
    refine iv_yall hn (iv_hA hn hS) (fun gt gf gl bA bT bN bR bE bZ _ ha => ⟨?_, iv_end _ _ _⟩)
    refine ha.2.2.1 (List.length_eq_zero_iff.mp ?_)
    rw [iv_len hn, hz]
    rfl
  · unfold wpY_fewest
    dsimp only
    refine iv_yall hn (iv_hA hn hS) (fun gt gf gl bA bT bN bR bE bZ _ ha => ⟨?_, iv_end _ _ _⟩)
    have hf := iv_few hn hz
    rw [ha.2.2.2.1 hf.1, hf.2]
theorem i_vc_compose {k : Nat} {u : SX} {v : SY} (I : i_Rel k u v) (hk : k + 4 ≤ 5) (v1 : Int32) (v2 : Int32) : wpX_compose (fun r => wpY_compose (fun r' v' => r' = r ∧ i_Rel (k + 4) u v') v v1 v2) u v1 v2 := by
  obtain ⟨n, aA, aP, aL, aT, aU, aS, gt, gf, gl, bS, bP, bA, bL, bT, bN, bR, bE, bZ, hn, hA, hS, hT, rfl, rfl⟩ := I (by omega)
  unfold wpX_compose
  dsimp only
  refine iv_xS (fun h1 => br_f (by decide) (iv_xS (fun h2 => br_f (by decide) ?_) (fun h2 => br_t rfl ?_))) (fun h1 => br_t rfl ?_)
  · obtain ⟨a, ha, rfl⟩ := h1
    obtain ⟨b, hb, rfl⟩ := h2
    refine iv_xco hT ha hb ?_
    unfold wpY_compose
    dsimp only
    refine iv_yS (fun _ => br_f (by decide) (iv_yS (fun _ => br_f (by decide) ?_) (fun h2 => absurd ⟨b, hb, rfl⟩ h2))) (fun h1 => absurd ⟨a, ha, rfl⟩ h1)
    exact iv_ycom ha hb (fun gt gf gl bA bT bN bR bE bZ => ⟨rfl, iv_end _ _ _⟩)
  · unfold wpY_compose
    dsimp only
    exact iv_yS (fun _ => br_f (by decide) (iv_yS (fun h2' => absurd h2' h2) (fun _ => br_t rfl ⟨rfl, iv_end _ _ _⟩))) (fun h1' => absurd h1 h1')
  · unfold wpY_compose
    dsimp only
    exact iv_yS (fun h1' => absurd h1' h1) (fun _ => br_t rfl ⟨rfl, iv_end _ _ _⟩)
theorem i_vc_closed {k : Nat} {u : SX} {v : SY} (I : i_Rel k u v) (hk : k + 4 ≤ 5) (v1 : Int32) (v2 : Int32) : wpX_closed (fun r u' => wpY_closed (fun r' v' => r' = r ∧ i_Rel (k + 4) u' v') v v1 v2) u v1 v2 := by
  obtain ⟨n, aA, aP, aL, aT, aU, aS, gt, gf, gl, bS, bP, bA, bL, bT, bN, bR, bE, bZ, hn, hA, hS, hT, rfl, rfl⟩ := I (by omega)
  have h4 := iv_n4' hn
  unfold wpX_closed
  dsimp only
  refine iv_xpr (iv_n31 hn) (fun hp => br_f (by decide) ?_) (fun hp => br_t rfl ?_)
  · obtain ⟨i, j, hi, hj, hne, rfl, rfl⟩ := hp
    refine iv_xclosed h4 (by omega) (by omega) hT (fun c hc => (hA c hc).1) (fun aL' => ?_)
    unfold wpY_closed
    dsimp only
    refine iv_ypr (iv_n31 hn) (fun _ => br_f (by decide) ?_) (fun hp => absurd ⟨i, j, hi, hj, hne, rfl, rfl⟩ hp)
    exact iv_ycl h4 (by omega) (by omega) hS (fun gt gf gl bA bL bT bN bR bE bZ => ⟨rfl, iv_end _ _ _⟩)
  · unfold wpY_closed
    dsimp only
    exact iv_ypr (iv_n31 hn) (fun hp' => absurd hp' hp) (fun _ => br_t rfl ⟨rfl, iv_end _ _ _⟩)
end
