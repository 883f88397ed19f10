theorem iv_pairs {n : Nat} (hn : iv_n n) : (nI n * (nI n - 1)) / 2 = nI (iv_ps n).length := by
  rcases hn with e | e | e <;> subst e <;> decide
def iv_cl (x : Int32) (n : Nat) : Prop := (¬ 2 ≤ x ∧ n = 2) ∨ (2 ≤ x ∧ x ≤ 4 ∧ x = nI n) ∨ (2 ≤ x ∧ ¬ x ≤ 4 ∧ n = 4)
theorem iv_cl_ex (x : Int32) : ∃ n, iv_n n ∧ iv_cl x n := by
  by_cases h : 2 ≤ x
  · by_cases h' : x ≤ 4
    · have h0 : ¬ x < 0 := fun z => absurd (Int32.lt_of_le_of_lt h z) (by decide)
      obtain ⟨k, hk, e⟩ := nI_of h0
      subst e
      have h1 : 2 ≤ k := (nI_leI (a := 2) (b := k) (by decide) hk).mp h
      have h2 : k ≤ 4 := (nI_leI (a := k) (b := 4) hk (by decide)).mp h'
      exact ⟨k, by unfold iv_n; omega, Or.inr (Or.inl ⟨h, h', rfl⟩)⟩
    · exact ⟨4, Or.inr (Or.inr rfl), Or.inr (Or.inr ⟨h, h', rfl⟩)⟩
  · exact ⟨2, Or.inl rfl, Or.inl ⟨h, rfl⟩⟩
theorem iv_xcl {post : Int32 → Prop} {x : Int32} {n : Nat} (hc : iv_cl x n) (h : post (nI n)) : wpX_clampIntervals post x := by
  rcases hc with ⟨h1, e⟩ | ⟨h1, h2, e⟩ | ⟨h1, h2, e⟩
  · subst e
    exact br_f h1 h
  · subst e
    exact br_t h1 (br_t h2 h)
  · subst e
    exact br_t h1 (br_f h2 h)
theorem iv_xinit {post : SX → Prop} {x : Int32} {n : Nat} (hn : iv_n n) (hc : iv_cl x n)
    (h : ∀ aA aT aS, (∀ c, c < 16 → aA c = nI 8191 ∧ aS c = nI 6) → iv_TB aT iv_big → post (nI n, nI (iv_ps n).length, 0, 0, aA, (fun _ => 0), (fun _ => 0), aT, (fun c => nI (iv_fm c)), (fun c => nI ((iv_lp n).2.1 c)), (fun c => nI ((iv_lp n).2.2 c)), (fun _ => 0), aS)) :
    wpX_init post x := by
  unfold wpX_init
  refine iv_xcl hc ⟨by decide, nm_r (iv_pairs hn) (iv_xse (fun aA aS hA => ?_))⟩
  dsimp only
  refine iv_xlp hn ?_
  dsimp only
  refine iv_xft (fun aT hT => ?_)
  dsimp only
  refine iv_xfm ?_
  exact h aA aT aS hA hT
theorem iv_xe0 {n : Nat} {A : iv_N} {aA aT : Nat → Int32} (hn : iv_n n) (hT : iv_TB aT iv_big) (hA : ∀ i j, i < j → j < n → aA (4 * i + j) = nI (A i j) ∧ A i j < 8192) :
    iv_XE n A aA aT (fun c => nI ((iv_lp n).2.1 c)) (fun c => nI ((iv_lp n).2.2 c)) := by
  refine ⟨hn, hT, fun d hd => ?_, hA⟩
  have h := iv_lp_v n (by unfold iv_n at hn; omega) (by unfold iv_n at hn; omega) d hd
  rw [← h]
  exact ⟨rfl, rfl⟩
section
variable {fn fp fk fd : Int32} {aA aP aL aT aM a1 a2 aU aS : Nat → Int32}
theorem iv_xco {post : Int32 → Prop} {a b : Nat} (hT : iv_TB aT iv_big) (ha : a < 8192) (hb : b < 8192) (h : post (nI (iv_co a b 13))) :
    wpX_composeSets post (fn, fp, fk, fd, aA, aP, aL, aT, aM, a1, a2, aU, aS) (nI a) (nI b) := by
  have inner : ∀ (J5 : Int32 → Int32 → Prop) (r acc : Nat), r < 13 → J5 (nI (iv_cc a b r acc 13)) (nI (r + 1)) →
      ∀ e s, s + e = 13 → wX_composeSets_15 post J5 (nI a) (nI b) (nI r) fn fp fk fd aA aP aL aT aM a1 a2 aU aS (e + 1) (nI (iv_cc a b r acc s)) (nI s) := by
    intro J5 r acc hr hJ e
    induction e with
    | zero =>
      intro s hs
      have e : s = 13 := by omega
      subst e
      exact br_t (nI_le (a := 13) (b := 13) (by decide) (by decide)) (nm_r (nI_1 r) hJ)
    | succ e ih =>
      intro s hs
      have hgo := ih (s + 1) (by omega)
      have b1 := iv_b2 a r
      have b2 := iv_b2 b s
      rw [iv_cc] at hgo
      refine br_f (nI_ge (b := 13) (by omega) (by decide)) ?_
      rw [iv_bit ha (by omega), iv_bit hb (by omega), iv_c13]
      refine pk_eq (iv_b a r) 1 (fun c1 => ?_) (fun c1 => ?_) rfl rfl (by omega) (by decide)
      · refine pk_eq (iv_b b s) 1 (fun c2 => ?_) (fun c2 => ?_) rfl rfl (by omega) (by decide)
        · rw [if_pos ⟨c1, c2⟩] at hgo
          refine ⟨vp_in_nI (by omega) (by decide), nm_r ?_ (nm_r (nI_1 s) hgo)⟩
          rw [nI_clamp (by omega), iv_TB_big hT hr (by omega), iv_or32]
        · rw [if_neg (fun z => c2 z.2)] at hgo
          exact nm_r (nI_1 s) hgo
      · rw [if_neg (fun z => c1 z.1)] at hgo
        exact nm_r (nI_1 s) hgo
  have outer : ∀ e r, r + e = 13 → wX_composeSets_5 post (nI a) (nI b) fn fp fk fd aA aP aL aT aM a1 a2 aU aS (e + 1) (nI (iv_co a b r)) (nI r) := by
    intro e
    induction e with
    | zero =>
      intro r hr
      have e : r = 13 := by omega
      subst e
      exact br_t (nI_le (a := 13) (b := 13) (by decide) (by decide)) h
    | succ e ih =>
      intro r hr
      exact br_f (nI_ge (b := 13) (by omega) (by decide)) ⟨14, inner _ r (iv_co a b r) (by omega) (ih (r + 1) (by omega)) 13 0 (by decide)⟩
  exact ⟨14, outer 13 0 (by decide)⟩
theorem iv_all_co : iv_co 8191 8191 13 = 8191 ∧ iv_mi 8191 13 = 8191 := by decide +kernel
theorem iv_and_all : nI 8191 &&& nI 8191 = nI 8191 := by decide
theorem iv_xdt {post : Int32 → SX → Prop} {x y z : Nat} (hT : iv_TB aT iv_big) (hx : x < 4) (hy : y < 4) (hz : z < 4) (hL : ∀ c, c < 16 → aL c = nI 8191)
    (h : ∀ aL', (∀ c, c < 16 → aL' c = nI 8191) → post 0 (fn, fp, fk, fd, aA, aP, aL', aT, aM, a1, a2, aU, aS)) :
    wpX_dropThrough post (fn, fp, fk, fd, aA, aP, aL, aT, aM, a1, a2, aU, aS) (nI x) (nI y) (nI z) := by
  unfold wpX_dropThrough
  simp only [wpX_cell, iv_c4]
  refine ⟨iv_cin hx hy, nm_r (e' := nI 8191) (by rw [iv_ccl hx hy]; exact hL _ (by omega)) ⟨iv_cin hy hz, nm_r (e' := nI 8191) (by rw [iv_ccl hy hz]; exact hL _ (by omega)) ⟨iv_cin hx hz, nm_r (e' := nI 8191) (by rw [iv_ccl hx hz]; exact hL _ (by omega)) ?_⟩⟩⟩
  refine iv_xco hT (by decide) (by decide) ?_
  rw [iv_all_co.1]
  refine nm_r iv_and_all ⟨iv_cin hx hz, ?_⟩
  rw [iv_ccl hx hz, iv_ccl hz hx]
  refine nm_e (iv_xmir (by decide) ?_)
  rw [iv_all_co.2]
  refine ⟨iv_cin hz hx, nm_e (br_t rfl (h _ (fun c hc => ?_)))⟩
  by_cases e : c = 4 * z + x
  · rw [e, pk_us]
  · rw [pk_un e]
    by_cases e' : c = 4 * x + z
    · rw [e', pk_us]
    · rw [pk_un e']
      exact hL c hc
end
section
variable {fp fk fd : Int32} {aA aP aT aM a1 a2 aU aS : Nat → Int32}
theorem iv_xda {post : Int32 → SX → Prop} {n : Nat} {aL : Nat → Int32} (hn : n ≤ 4) (hT : iv_TB aT iv_big) (hL : ∀ c, c < 16 → aL c = nI 8191)
    (h : ∀ aL', (∀ c, c < 16 → aL' c = nI 8191) → post 0 (nI n, fp, fk, fd, aA, aP, aL', aT, aM, a1, a2, aU, aS)) :
    wpX_dropFromAll post (nI n, fp, fk, fd, aA, aP, aL, aT, aM, a1, a2, aU, aS) := by
  have in3 : ∀ (J4 J14 : Int32 → Int32 → Int32 → Int32 → Int32 → Int32 → (Nat → Int32) → (Nat → Int32) → (Nat → Int32) → (Nat → Int32) → (Nat → Int32) → (Nat → Int32) → (Nat → Int32) → (Nat → Int32) → (Nat → Int32) → Prop) (x y : Nat), x < n → y < n →
      (∀ aL', (∀ c, c < 16 → aL' c = nI 8191) → J14 0 (nI (y + 1)) (nI n) fp fk fd aA aP aL' aT aM a1 a2 aU aS) →
      ∀ e z aL, z + e = n → (∀ c, c < 16 → aL c = nI 8191) → wX_dropFromAll_25 post J4 J14 (nI x) (nI y) (e + 1) 0 (nI z) (nI n) fp fk fd aA aP aL aT aM a1 a2 aU aS := by
    intro J4 J14 x y hx hy hJ e
    induction e with
    | zero =>
      intro z aL hz hL
      have e : z = n := by omega
      subst e
      exact br_t (nI_le (Nat.le_refl _) (by omega)) (nm_r (nI_1 y) (hJ aL hL))
    | succ e ih =>
      intro z aL hz hL
      refine br_f (nI_ge (by omega) (by omega)) (br_c (fun _ => nm_r (nI_1 z) (ih (z + 1) aL (by omega) hL)) (fun _ => br_c (fun _ => nm_r (nI_1 z) (ih (z + 1) aL (by omega) hL)) (fun _ => br_c (fun _ => nm_r (nI_1 z) (ih (z + 1) aL (by omega) hL)) (fun _ => ?_))))
      exact iv_xdt hT (by omega) (by omega) (by omega) hL (fun aL' hL' => br_t rfl (nm_r (nI_1 z) (ih (z + 1) aL' (by omega) hL')))
  have in2 : ∀ (J4 : Int32 → Int32 → Int32 → Int32 → Int32 → Int32 → (Nat → Int32) → (Nat → Int32) → (Nat → Int32) → (Nat → Int32) → (Nat → Int32) → (Nat → Int32) → (Nat → Int32) → (Nat → Int32) → (Nat → Int32) → Prop) (x : Nat), x < n →
      (∀ aL', (∀ c, c < 16 → aL' c = nI 8191) → J4 0 (nI (x + 1)) (nI n) fp fk fd aA aP aL' aT aM a1 a2 aU aS) →
      ∀ e y aL, y + e = n → (∀ c, c < 16 → aL c = nI 8191) → wX_dropFromAll_14 post J4 (nI x) (e + 1) 0 (nI y) (nI n) fp fk fd aA aP aL aT aM a1 a2 aU aS := by
    intro J4 x hx hJ e
    induction e with
    | zero =>
      intro y aL hz hL
      have e : y = n := by omega
      subst e
      exact br_t (nI_le (Nat.le_refl _) (by omega)) (nm_r (nI_1 x) (hJ aL hL))
    | succ e ih =>
      intro y aL hz hL
      exact br_f (nI_ge (by omega) (by omega)) ⟨n + 1, in3 J4 (wX_dropFromAll_14 post J4 (nI x) (e + 1)) x y hx (by omega) (fun aL' hL' => ih (y + 1) aL' (by omega) hL') n 0 aL (by omega) hL⟩
  have in1 : ∀ e x aL, x + e = n → (∀ c, c < 16 → aL c = nI 8191) → wX_dropFromAll_4 post (e + 1) 0 (nI x) (nI n) fp fk fd aA aP aL aT aM a1 a2 aU aS := by
    intro e
    induction e with
    | zero =>
      intro x aL hz hL
      have e : x = n := by omega
      subst e
      exact br_t (nI_le (Nat.le_refl _) (by omega)) ⟨rfl, h aL hL⟩
    | succ e ih =>
      intro x aL hz hL
      exact br_f (nI_ge (by omega) (by omega)) ⟨n + 1, in2 (wX_dropFromAll_4 post (e + 1)) x (by omega) (fun aL' hL' => ih (x + 1) aL' (by omega) hL') n 0 aL (by omega) hL⟩
  exact ⟨n + 1, in1 n 0 aL (by omega) hL⟩
theorem iv_xclosed {post : Int32 → SX → Prop} {n i j : Nat} {aL : Nat → Int32} (hn : n ≤ 4) (hi : i < 4) (hj : j < 4) (hT : iv_TB aT iv_big) (hA : ∀ c, c < 16 → aA c = nI 8191)
    (h : ∀ aL', post (nI 8191) (nI n, fp, fk, fd, aA, aP, aL', aT, aM, a1, a2, aU, aS)) :
    ∃ f, wX_closed_13 post (nI i) (nI j) (nI n) fp fk fd f 0 aA aP aL aT aM a1 a2 aU aS := by
  have fin : ∀ aL, (∀ c, c < 16 → aL c = nI 8191) → wX_closed_64 post (nI i) (nI j) (nI n) fp fk fd aA aP aL aT aM a1 a2 aU aS := by
    intro aL hL
    unfold wX_closed_64
    simp only [wpX_cell, iv_c4]
    refine ⟨iv_cin hi hj, ?_⟩
    rw [iv_ccl hi hj, hL _ (by omega)]
    exact h aL
  have key : ∀ e x aL, x + e = 16 → (∀ c, c < x → aL c = nI 8191) → wX_closed_13 post (nI i) (nI j) (nI n) fp fk fd (e + 1) (nI x) aA aP aL aT aM a1 a2 aU aS := by
    intro e
    induction e with
    | zero =>
      intro x aL hx hc
      have e : x = 16 := by omega
      subst e
      refine br_t (nI_le (a := 16) (b := 16) (by decide) (by decide)) ⟨2, ?_⟩
      refine br_f (by decide) (br_f (by decide) (iv_xda hn hT hc (fun aL' hL' => ?_)))
      exact nm_r (nI_1 0) (br_f (by decide) (br_t rfl (fin aL' hL')))
    | succ e ih =>
      intro x aL hx hc
      have ec : (nI x).toNatClampNeg = x := nI_clamp (by omega)
      have vi : vp_in (nI x) 16 := vp_in_nI (by omega) (by decide)
      refine br_f (nI_ge (b := 16) (by omega) (by decide)) ⟨vi, vi, ?_⟩
      rw [ec]
      refine nm_e (nm_r (nI_1 x) (ih (x + 1) _ (by omega) (fun c hcx => ?_)))
      by_cases e : c = x
      · rw [e, pk_us]
        exact hA x (by omega)
      · rw [pk_un e]
        exact hc c (by omega)
  exact ⟨17, key 16 0 aL (by decide) (fun c hc => absurd hc (Nat.not_lt_zero _))⟩
end
