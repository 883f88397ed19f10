theorem iv_sub8 : ∀ a, a < 8 → ∀ b, b < 8 → (nI a - nI b = 0 ↔ iv_cmp a b = 1) ∧ (0 ≤ nI a - nI b ↔ iv_cmp a b ≠ 0) ∧ (0 < nI a - nI b ↔ iv_cmp a b = 2) ∧ (nI a - nI b ≤ 0 ↔ iv_cmp a b ≠ 2) := by decide +kernel
theorem iv_md8 (i : Nat) : iv_md i < 8 := Nat.mod_lt _ (by decide)
def iv_sgn (x : Int32) (c : Nat) : Prop := (x = 0 ↔ c = 1) ∧ (0 ≤ x ↔ c ≠ 0) ∧ (0 < x ↔ c = 2) ∧ (x ≤ 0 ↔ c ≠ 2)
theorem iv_shr1 : ∀ p, p < 8 → nI p >>> ((1 : Int32) &&& 31) = nI (p / 2) := by decide +kernel
theorem iv_2r (r x : Nat) : 2 * nI r + nI x = nI (2 * r + x) := by
  have h : nI 2 * nI r = nI (2 * r) := pk_mul 2 r
  have h2 : (2 : Int32) * nI r = nI (2 * r) := h
  rw [h2, nI_add]
theorem iv_2n (r : Nat) : 2 * nI r = nI (2 * r) := pk_mul 2 r
section
variable {fp fk fd : Int32} {aA aP aL aT aM a1 a2 aU aS : Nat → Int32} {n : Nat} {N : iv_N}
theorem iv_xcmp {post : Int32 → Prop} {fn : Int32} (hM : ∀ c, c < 26 → aM c = nI (iv_md c)) (hN : ∀ x y, x < 4 → y < 4 → aS (4 * x + y) = nI (N x y) ∧ N x y < 13) {p q : Nat} (hp : p < 8) (hq : q < 8)
    (h : ∀ x, iv_sgn x (iv_cm N p q) → post x) : wpX_compareEnds post (fn, fp, fk, fd, aA, aP, aL, aT, aM, a1, a2, aU, aS) (nI p) (nI q) := by
  obtain ⟨e1, e2⟩ := hN (p / 2) (q / 2) (by omega) (by omega)
  have hx : p % 2 < 2 := Nat.mod_lt _ (by decide)
  simp only [wpX_compareEnds, wpX_cell, wX_compareEnds_26, iv_shr1 p hp, iv_shr1 q hq, iv_c4, iv_and1]
  refine ⟨iv_cin (by omega) (by omega), nm_r (e' := nI (N (p / 2) (q / 2))) (by rw [iv_ccl (by omega) (by omega)]; exact e1) ?_⟩
  rw [iv_2r]
  have ec : (nI (2 * N (p / 2) (q / 2) + p % 2)).toNatClampNeg = 2 * N (p / 2) (q / 2) + p % 2 := nI_clamp (by omega)
  rw [ec, hM _ (by omega)]
  have vi : vp_in (nI (2 * N (p / 2) (q / 2) + p % 2)) 26 := vp_in_nI (by omega) (by decide)
  refine pk_eq (q % 2) 0 (fun e => ⟨vi, h _ ?_⟩) (fun e => ⟨vi, h _ ?_⟩) rfl rfl (by omega) (by decide)
  · have h8 := iv_sub8 _ (iv_md8 (2 * N (p / 2) (q / 2) + p % 2)) 2 (by decide)
    unfold iv_cm iv_sg
    rw [e, if_pos rfl]
    exact h8
  · have h8 := iv_sub8 _ (iv_md8 (2 * N (p / 2) (q / 2) + p % 2)) 5 (by decide)
    unfold iv_cm iv_sg
    rw [if_neg e]
    exact h8
def iv_fN (N : iv_N) (p : Nat) : Bool := decide (∀ q, q < p → iv_cm N q p ≠ 1)
theorem iv_fN_iff {p : Nat} : iv_fN N p = true ↔ ∀ q, q < p → iv_cm N q p ≠ 1 := by
  unfold iv_fN
  exact decide_eq_true_iff
theorem iv_xfst {post : Int32 → Prop} {fn : Int32} (hM : ∀ c, c < 26 → aM c = nI (iv_md c)) (hN : ∀ x y, x < 4 → y < 4 → aS (4 * x + y) = nI (N x y) ∧ N x y < 13) {p : Nat} (hp : p < 8)
    (h1 : iv_fN N p = true → post 1) (h0 : ¬ iv_fN N p = true → post 0) : wpX_isFirstOfItsNumber post (fn, fp, fk, fd, aA, aP, aL, aT, aM, a1, a2, aU, aS) (nI p) := by
  have key : ∀ d q, q + d = p → (∀ s, s < q → iv_cm N s p ≠ 1) → wX_isFirstOfItsNumber_2 post (nI p) fn fp fk fd aA aP aL aT aM a1 a2 aU aS (d + 1) (nI q) := by
    intro d
    induction d with
    | zero =>
      intro q hq hl
      have e : q = p := by omega
      subst e
      exact br_t (nI_le (Nat.le_refl _) (by omega)) (h1 (iv_fN_iff.mpr hl))
    | succ d ih =>
      intro q hq hl
      refine br_f (nI_ge (by omega) (by omega)) (iv_xcmp hM hN (by omega) hp (fun x hx => ?_))
      refine br_c (fun e => h0 (fun z => ?_)) (fun e => nm_r (nI_1 q) (ih (q + 1) (by omega) (fun s hs => ?_)))
      · exact iv_fN_iff.mp z q (by omega) (hx.1.mp e)
      · by_cases c : s = q
        · rw [c]
          exact fun z => e (hx.1.mpr z)
        · exact hl s (by omega)
  exact ⟨p + 1, key p 0 (by omega) (fun s hs => absurd hs (Nat.not_lt_zero _))⟩
theorem iv_xcount {post : Int32 → Prop} (hn : n ≤ 4) (hM : ∀ c, c < 26 → aM c = nI (iv_md c)) (hN : ∀ x y, x < 4 → y < 4 → aS (4 * x + y) = nI (N x y) ∧ N x y < 13)
    (h : post (nI (iv_ct (iv_fN N) (2 * n)))) : wpX_countNumbers post (nI n, fp, fk, fd, aA, aP, aL, aT, aM, a1, a2, aU, aS) := by
  have key : ∀ d p, p + d = 2 * n → wX_countNumbers_4 post (nI n) fp fk fd aA aP aL aT aM a1 a2 aU aS (d + 1) (nI (iv_ct (iv_fN N) p)) (nI p) := by
    intro d
    induction d with
    | zero =>
      intro p hp
      have e : p = 2 * n := by omega
      subst e
      refine br_t ?_ h
      rw [iv_2n]
      exact nI_le (Nat.le_refl _) (by omega)
    | succ d ih =>
      intro p hp
      refine br_f ?_ (iv_xfst hM hN (by omega) (fun c => ?_) (fun c => ?_))
      · rw [iv_2n]
        exact nI_ge (by omega) (by omega)
      · have := ih (p + 1) (by omega)
        rw [iv_ct, if_pos c] at this
        exact br_f (by decide) (nm_r (nI_1 _) (nm_r (nI_1 p) this))
      · have := ih (p + 1) (by omega)
        rw [iv_ct, if_neg c, Nat.add_zero] at this
        exact br_t rfl (nm_r (nI_1 p) this)
  exact ⟨2 * n + 1, key (2 * n) 0 (by omega)⟩
theorem iv_xnum {post : Int32 → Prop} (hn : n ≤ 4) (hM : ∀ c, c < 26 → aM c = nI (iv_md c)) (hN : ∀ x y, x < 4 → y < 4 → aS (4 * x + y) = nI (N x y) ∧ N x y < 13) {p : Nat} (hp : p < 8)
    (h : post (nI (iv_ct (fun q => decide (iv_cm N q p = 0) && iv_fN N q) (2 * n)))) : wpX_numberOf post (nI n, fp, fk, fd, aA, aP, aL, aT, aM, a1, a2, aU, aS) (nI p) := by
  have key : ∀ d q, q + d = 2 * n → wX_numberOf_4 post (nI p) (nI n) fp fk fd aA aP aL aT aM a1 a2 aU aS (d + 1) (nI (iv_ct (fun q => decide (iv_cm N q p = 0) && iv_fN N q) q)) (nI q) := by
    intro d
    induction d with
    | zero =>
      intro q hq
      have e : q = 2 * n := by omega
      subst e
      refine br_t ?_ h
      rw [iv_2n]
      exact nI_le (Nat.le_refl _) (by omega)
    | succ d ih =>
      intro q hq
      have := ih (q + 1) (by omega)
      rw [iv_ct] at this
      refine br_f ?_ (iv_xcmp hM hN (by omega) hp (fun x hx => ?_))
      · rw [iv_2n]
        exact nI_ge (by omega) (by omega)
      · refine br_c (fun c => ?_) (fun c => ?_)
        · have c' := hx.2.1.mp c
          rw [if_neg (by rw [Bool.and_eq_true, decide_eq_true_iff]; exact fun z => c' z.1), Nat.add_zero] at this
          exact nm_r (nI_1 q) this
        · have c' : iv_cm N q p = 0 := by
            by_cases z : iv_cm N q p = 0
            · exact z
            · exact absurd (hx.2.1.mpr z) c
          refine iv_xfst hM hN (by omega) (fun e => ?_) (fun e => ?_)
          · rw [if_pos (by rw [Bool.and_eq_true, decide_eq_true_iff]; exact ⟨c', e⟩)] at this
            exact br_f (by decide) (nm_r (nI_1 _) (nm_r (nI_1 q) this))
          · rw [if_neg (by rw [Bool.and_eq_true, decide_eq_true_iff]; exact fun z => e z.2), Nat.add_zero] at this
            exact br_t rfl (nm_r (nI_1 q) this)
  exact ⟨2 * n + 1, key (2 * n) 0 (by omega)⟩
def iv_cb (n : Nat) (N : iv_N) (i : Nat) : Nat := iv_ct (fun j => decide (iv_cm N (2 * j) (2 * i) ≠ 2) && decide (iv_cm N (2 * j + 1) (2 * i) = 2)) n
theorem iv_xcab {post : Int32 → Prop} (hn : n ≤ 4) (hM : ∀ c, c < 26 → aM c = nI (iv_md c)) (hN : ∀ x y, x < 4 → y < 4 → aS (4 * x + y) = nI (N x y) ∧ N x y < 13) {i : Nat} (hi : i < n)
    (h : post (nI (iv_cb n N i))) : wpX_countAfterBeginning post (nI n, fp, fk, fd, aA, aP, aL, aT, aM, a1, a2, aU, aS) (nI i) := by
  have key : ∀ d j, j + d = n → wX_countAfterBeginning_4 post (nI i) (nI n) fp fk fd aA aP aL aT aM a1 a2 aU aS (d + 1) (nI (iv_ct (fun j => decide (iv_cm N (2 * j) (2 * i) ≠ 2) && decide (iv_cm N (2 * j + 1) (2 * i) = 2)) j)) (nI j) := by
    intro d
    induction d with
    | zero =>
      intro j hj
      have e : j = n := by omega
      subst e
      exact br_t (nI_le (Nat.le_refl _) (by omega)) h
    | succ d ih =>
      intro j hj
      have := ih (j + 1) (by omega)
      rw [iv_ct] at this
      have e2 : (2 : Int32) * nI j + 1 = nI (2 * j + 1) := iv_2r j 1
      refine br_f (nI_ge (by omega) (by omega)) ?_
      rw [e2, iv_2n, iv_2n]
      refine iv_xcmp hM hN (by omega) (by omega) (fun x hx => br_c (fun c => ?_) (fun c => ?_))
      · have c' := hx.2.2.1.mp c
        rw [if_neg (by rw [Bool.and_eq_true, decide_eq_true_iff]; exact fun z => z.1 c'), Nat.add_zero] at this
        exact nm_r (nI_1 j) this
      · have c' : iv_cm N (2 * j) (2 * i) ≠ 2 := fun z => c (hx.2.2.1.mpr z)
        refine iv_xcmp hM hN (by omega) (by omega) (fun y hy => br_c (fun e => ?_) (fun e => ?_))
        · have e' := hy.2.2.2.mp e
          rw [if_neg (by rw [Bool.and_eq_true, decide_eq_true_iff, decide_eq_true_iff]; exact fun z => e' z.2), Nat.add_zero] at this
          exact nm_r (nI_1 j) this
        · have e' : iv_cm N (2 * j + 1) (2 * i) = 2 := by
            by_cases z : iv_cm N (2 * j + 1) (2 * i) = 2
            · exact z
            · exact absurd (hy.2.2.2.mpr z) e
          rw [if_pos (by rw [Bool.and_eq_true, decide_eq_true_iff, decide_eq_true_iff]; exact ⟨c', e'⟩)] at this
          exact nm_r (nI_1 _) (nm_r (nI_1 j) this)
  exact ⟨n + 1, key n 0 (by omega)⟩
theorem iv_xcrowd {post : Int32 → SX → Prop} (hn : n ≤ 4) (hM : ∀ c, c < 26 → aM c = nI (iv_md c)) (hN : ∀ x y, x < 4 → y < 4 → aS (4 * x + y) = nI (N x y) ∧ N x y < 13)
    (h : post (nI (iv_mx (iv_cb n N) n)) (nI n, fp, fk, fd, aA, aP, aL, aT, aM, a1, a2, aU, aS)) : ∃ f, wX_crowd_15 post (nI n) fp fk fd aA aP aL aT aM a1 a2 aU aS f 0 0 := by
  have hb : ∀ i, iv_cb n N i < 2 ^ 31 := fun i => Nat.lt_of_le_of_lt (iv_ct_ub _ _) (by omega)
  have hm : ∀ i, iv_mx (iv_cb n N) i < 2 ^ 31 := fun i => Nat.lt_of_le_of_lt ((iv_mx_le (B := 4) i).mpr (fun j _ => Nat.le_trans (iv_ct_ub _ _) hn)) (by decide)
  have key : ∀ d i, i + d = n → wX_crowd_15 post (nI n) fp fk fd aA aP aL aT aM a1 a2 aU aS (d + 1) (nI (iv_mx (iv_cb n N) i)) (nI i) := by
    intro d
    induction d with
    | zero =>
      intro i hi
      have e : i = n := by omega
      subst e
      exact br_t (nI_le (Nat.le_refl _) (by omega)) h
    | succ d ih =>
      intro i hi
      have := ih (i + 1) (by omega)
      rw [iv_mx] at this
      refine br_f (nI_ge (by omega) (by omega)) (iv_xcab hn hM hN (by omega) ?_)
      refine pk_le (iv_cb n N i) (iv_mx (iv_cb n N) i) (fun c => ?_) (fun c => ?_) rfl rfl (hb i) (hm i)
      · rw [if_neg (by omega)] at this
        exact nm_r (nI_1 i) this
      · rw [if_pos c] at this
        exact nm_r (nI_1 i) this
  exact ⟨n + 1, key n 0 (by omega)⟩
end
