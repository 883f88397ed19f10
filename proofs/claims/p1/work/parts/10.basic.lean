theorem iv_ek {post : Int32 → Prop} {a k : Nat} (h : post (nI a)) (e : a = k) : post (nI k) := by
  subst e
  exact h
theorem iv_xrel {post : Int32 → Prop} {b e c f : Nat} (hb : b < 2 ^ 31) (he : e < 2 ^ 31) (hc : c < 2 ^ 31) (hf : f < 2 ^ 31) (h : post (nI (iv_rel b e c f))) :
    wpX_relationOf post (nI b) (nI e) (nI c) (nI f) := by
  simp only [wpX_relationOf, wpX_byEnds, nI_leI hc he, nI_eq he hc, nI_leI hb hf, nI_eq hb hf, nI_leI hc hb, nI_eq hb hc, nI_leI hf he, nI_eq he hf]
  exact ⟨fun h12 => ⟨fun h11 => iv_ek (k := 1) h (by unfold iv_rel; rw [if_neg (by omega), if_pos (by omega)]), fun h11 => ⟨fun h10 => ⟨fun h9 => iv_ek (k := 11) h (by unfold iv_rel; rw [if_neg (by omega), if_neg (by omega), if_neg (by omega), if_pos (by omega)]), fun h9 => ⟨fun h8 => ⟨fun h5 => ⟨fun h2 => ⟨fun h1 => iv_ek (k := 6) h (by unfold iv_rel; rw [if_neg (by omega), if_neg (by omega), if_neg (by omega), if_neg (by omega), if_neg (by omega), if_pos (by omega), if_neg (by omega), if_pos (by omega)]), fun h1 => iv_ek (k := 9) h (by unfold iv_rel; rw [if_neg (by omega), if_neg (by omega), if_neg (by omega), if_neg (by omega), if_neg (by omega), if_pos (by omega), if_neg (by omega), if_neg (by omega)])⟩, fun h2 => iv_ek (k := 3) h (by unfold iv_rel; rw [if_neg (by omega), if_neg (by omega), if_neg (by omega), if_neg (by omega), if_neg (by omega), if_pos (by omega), if_pos (by omega)])⟩, fun h5 => ⟨fun h4 => ⟨fun h3 => iv_ek (k := 5) h (by unfold iv_rel; rw [if_neg (by omega), if_neg (by omega), if_neg (by omega), if_neg (by omega), if_neg (by omega), if_neg (by omega), if_neg (by omega), if_pos (by omega)]), fun h3 => iv_ek (k := 10) h (by unfold iv_rel; rw [if_neg (by omega), if_neg (by omega), if_neg (by omega), if_neg (by omega), if_neg (by omega), if_neg (by omega), if_neg (by omega), if_neg (by omega)])⟩, fun h4 => iv_ek (k := 4) h (by unfold iv_rel; rw [if_neg (by omega), if_neg (by omega), if_neg (by omega), if_neg (by omega), if_neg (by omega), if_neg (by omega), if_pos (by omega)])⟩⟩, fun h8 => ⟨fun h7 => ⟨fun h6 => iv_ek (k := 7) h (by unfold iv_rel; rw [if_neg (by omega), if_neg (by omega), if_neg (by omega), if_neg (by omega), if_pos (by omega), if_neg (by omega), if_pos (by omega)]), fun h6 => iv_ek (k := 8) h (by unfold iv_rel; rw [if_neg (by omega), if_neg (by omega), if_neg (by omega), if_neg (by omega), if_pos (by omega), if_neg (by omega), if_neg (by omega)])⟩, fun h7 => iv_ek (k := 2) h (by unfold iv_rel; rw [if_neg (by omega), if_neg (by omega), if_neg (by omega), if_neg (by omega), if_pos (by omega), if_pos (by omega)])⟩⟩⟩, fun h10 => iv_ek (k := 12) h (by unfold iv_rel; rw [if_neg (by omega), if_neg (by omega), if_pos (by omega)])⟩⟩, fun h12 => iv_ek (k := 0) h (by unfold iv_rel; rw [if_pos (by omega)])⟩
theorem iv_yrel {post : Int32 → Prop} {u : SY} {b e c f : Nat} (hb : b < 2 ^ 31) (he : e < 2 ^ 31) (hc : c < 2 ^ 31) (hf : f < 2 ^ 31) (h : post (nI (iv_rel b e c f))) :
    wpY_relationOf post u (nI b) (nI e) (nI c) (nI f) := by
  obtain ⟨gi, gk, gt, gf, gl, bS, bP, bA, bL, bT, bN, bR, bE, bZ⟩ := u
  simp only [wpY_relationOf, nI_leI hc he, nI_eq he hc, nI_leI hb hf, nI_eq hb hf, nI_leI hb hc, nI_eq hb hc, nI_leI hf he, nI_eq he hf]
  exact ⟨fun h12 => ⟨fun h11 => iv_ek (k := 1) h (by unfold iv_rel; rw [if_neg (by omega), if_pos (by omega)]), fun h11 => ⟨fun h10 => ⟨fun h9 => iv_ek (k := 11) h (by unfold iv_rel; rw [if_neg (by omega), if_neg (by omega), if_neg (by omega), if_pos (by omega)]), fun h9 => ⟨fun h8 => ⟨fun h2 => ⟨fun h1 => iv_ek (k := 6) h (by unfold iv_rel; rw [if_neg (by omega), if_neg (by omega), if_neg (by omega), if_neg (by omega), if_neg (by omega), if_pos (by omega), if_neg (by omega), if_pos (by omega)]), fun h1 => iv_ek (k := 9) h (by unfold iv_rel; rw [if_neg (by omega), if_neg (by omega), if_neg (by omega), if_neg (by omega), if_neg (by omega), if_pos (by omega), if_neg (by omega), if_neg (by omega)])⟩, fun h2 => iv_ek (k := 3) h (by unfold iv_rel; rw [if_neg (by omega), if_neg (by omega), if_neg (by omega), if_neg (by omega), if_neg (by omega), if_pos (by omega), if_pos (by omega)])⟩, fun h8 => ⟨fun h7 => ⟨fun h4 => ⟨fun h3 => iv_ek (k := 7) h (by unfold iv_rel; rw [if_neg (by omega), if_neg (by omega), if_neg (by omega), if_neg (by omega), if_pos (by omega), if_neg (by omega), if_pos (by omega)]), fun h3 => iv_ek (k := 8) h (by unfold iv_rel; rw [if_neg (by omega), if_neg (by omega), if_neg (by omega), if_neg (by omega), if_pos (by omega), if_neg (by omega), if_neg (by omega)])⟩, fun h4 => iv_ek (k := 2) h (by unfold iv_rel; rw [if_neg (by omega), if_neg (by omega), if_neg (by omega), if_neg (by omega), if_pos (by omega), if_pos (by omega)])⟩, fun h7 => ⟨fun h6 => ⟨fun h5 => iv_ek (k := 5) h (by unfold iv_rel; rw [if_neg (by omega), if_neg (by omega), if_neg (by omega), if_neg (by omega), if_neg (by omega), if_neg (by omega), if_neg (by omega), if_pos (by omega)]), fun h5 => iv_ek (k := 10) h (by unfold iv_rel; rw [if_neg (by omega), if_neg (by omega), if_neg (by omega), if_neg (by omega), if_neg (by omega), if_neg (by omega), if_neg (by omega), if_neg (by omega)])⟩, fun h6 => iv_ek (k := 4) h (by unfold iv_rel; rw [if_neg (by omega), if_neg (by omega), if_neg (by omega), if_neg (by omega), if_neg (by omega), if_neg (by omega), if_pos (by omega)])⟩⟩⟩⟩, fun h10 => iv_ek (k := 12) h (by unfold iv_rel; rw [if_neg (by omega), if_neg (by omega), if_pos (by omega)])⟩⟩, fun h12 => iv_ek (k := 0) h (by unfold iv_rel; rw [if_pos (by omega)])⟩
theorem iv_12 {r : Nat} (h : r ≤ 12) : (12 : Int32) - nI r = nI (12 - r) := pk_sub (a := 12) h
theorem iv_mi_s {U r : Nat} (hU : U < 8192) (hr : r < 13) : nI (iv_mi U r) ||| (((nI U >>> (nI r &&& 31)) &&& 1) <<< ((12 - nI r) &&& 31)) = nI (iv_mi U (r + 1)) := by
  have h1 := iv_b2 U r
  have h2 : 2 ^ (12 - r) ≤ 2 ^ 12 := Nat.pow_le_pow_right (by decide) (by omega)
  have h3 : iv_b U r * 2 ^ (12 - r) ≤ 1 * 2 ^ 12 := Nat.mul_le_mul (by omega) h2
  rw [iv_bit hU (by omega), iv_12 (by omega), iv_shl (by omega) (by omega), iv_or32, iv_mi]
theorem iv_xmir {post : Int32 → Prop} {U : Nat} (hU : U < 8192) (h : post (nI (iv_mi U 13))) : wpX_mirror post (nI U) := by
  have key : ∀ d r, r + d = 13 → wX_mirror_4 post (nI U) (d + 1) (nI (iv_mi U r)) (nI r) := by
    intro d
    induction d with
    | zero =>
      intro r hr
      have e : r = 13 := by omega
      subst e
      exact br_t (nI_le (a := 13) (b := 13) (by decide) (by decide)) h
    | succ d ih =>
      intro r hr
      exact br_f (nI_ge (b := 13) (by omega) (by decide)) (nm_r (iv_mi_s hU (by omega)) (nm_r (nI_1 r) (ih (r + 1) (by omega))))
  exact ⟨14, key 13 0 (by decide)⟩
theorem iv_ytur {post : Int32 → Prop} {u : SY} {U : Nat} (hU : U < 8192) (h : post (nI (iv_mi U 13))) : wpY_turned post u (nI U) := by
  obtain ⟨gi, gk, gt, gf, gl, bS, bP, bA, bL, bT, bN, bR, bE, bZ⟩ := u
  have key : ∀ d r, r + d = 13 → wY_turned_4 post (nI U) gi gk gt gf gl bS bP bA bL bT bN bR bE bZ (d + 1) (nI (iv_mi U r)) (nI r) := by
    intro d
    induction d with
    | zero =>
      intro r hr
      have e : r = 13 := by omega
      subst e
      exact br_t (nI_le (a := 13) (b := 13) (by decide) (by decide)) h
    | succ d ih =>
      intro r hr
      exact br_f (nI_ge (b := 13) (by omega) (by decide)) (nm_r (iv_mi_s hU (by omega)) (nm_r (nI_1 r) (ih (r + 1) (by omega))))
  exact ⟨14, key 13 0 (by decide)⟩
theorem iv_sz_s {U r : Nat} (hU : U < 8192) (hr : r < 13) : nI (iv_sz U r) + ((nI U >>> (nI r &&& 31)) &&& 1) = nI (iv_sz U (r + 1)) := by
  rw [iv_bit hU (by omega), nI_add, iv_sz]
theorem iv_xsz {post : Int32 → Prop} {U : Nat} (hU : U < 8192) (h : post (nI (iv_sz U 13))) : wpX_sizeOf post (nI U) := by
  have key : ∀ d r, r + d = 13 → wX_sizeOf_4 post (nI U) (d + 1) (nI (iv_sz U r)) (nI r) := by
    intro d
    induction d with
    | zero =>
      intro r hr
      have e : r = 13 := by omega
      subst e
      exact br_t (nI_le (a := 13) (b := 13) (by decide) (by decide)) h
    | succ d ih =>
      intro r hr
      exact br_f (nI_ge (b := 13) (by omega) (by decide)) (nm_r (iv_sz_s hU (by omega)) (nm_r (nI_1 r) (ih (r + 1) (by omega))))
  exact ⟨14, key 13 0 (by decide)⟩
theorem iv_ysz {post : Int32 → Prop} {u : SY} {U : Nat} (hU : U < 8192) (h : post (nI (iv_sz U 13))) : wpY_count post u (nI U) := by
  obtain ⟨gi, gk, gt, gf, gl, bS, bP, bA, bL, bT, bN, bR, bE, bZ⟩ := u
  have key : ∀ d r, r + d = 13 → wY_count_4 post (nI U) gi gk gt gf gl bS bP bA bL bT bN bR bE bZ (d + 1) (nI (iv_sz U r)) (nI r) := by
    intro d
    induction d with
    | zero =>
      intro r hr
      have e : r = 13 := by omega
      subst e
      exact br_t (nI_le (a := 13) (b := 13) (by decide) (by decide)) h
    | succ d ih =>
      intro r hr
      exact br_f (nI_ge (b := 13) (by omega) (by decide)) (nm_r (iv_sz_s hU (by omega)) (nm_r (nI_1 r) (ih (r + 1) (by omega))))
  exact ⟨14, key 13 0 (by decide)⟩
/- which arguments name a pair, which a set -/
def iv_I (n : Nat) (x : Int32) : Prop := ∃ i, i < n ∧ x = nI i
def iv_pr (n : Nat) (x y : Int32) : Prop := ∃ i j, i < n ∧ j < n ∧ i ≠ j ∧ x = nI i ∧ y = nI j
def iv_S (x : Int32) : Prop := ∃ U, U < 8192 ∧ x = nI U
theorem iv_I_of {n : Nat} {x : Int32} (hn : n < 2 ^ 31) (h0 : ¬ x < 0) (h : ¬ nI n ≤ x) : iv_I n x := by
  rcases pk_ix x hn with z | z | ⟨j, hj, e⟩
  · exact absurd z h0
  · exact absurd z h
  · exact ⟨j, hj, e⟩
theorem iv_I_neg {n : Nat} {x : Int32} (hn : n < 2 ^ 31) (h : x < 0) : ¬ iv_I n x := by
  rintro ⟨j, hj, e⟩
  rw [e] at h
  exact nI_pos (by omega) h
theorem iv_I_big {n : Nat} {x : Int32} (hn : n < 2 ^ 31) (h : nI n ≤ x) : ¬ iv_I n x := by
  rintro ⟨j, hj, e⟩
  rw [e] at h
  exact nI_ge hj hn h
theorem iv_pr_1 {n : Nat} {x y : Int32} (h : ¬ iv_I n x) : ¬ iv_pr n x y := fun ⟨i, _, hi, _, _, e, _⟩ => h ⟨i, hi, e⟩
theorem iv_pr_2 {n : Nat} {x y : Int32} (h : ¬ iv_I n y) : ¬ iv_pr n x y := fun ⟨_, j, _, hj, _, _, e⟩ => h ⟨j, hj, e⟩
theorem iv_pr_3 {n : Nat} {x : Int32} (hn : n < 2 ^ 31) : ¬ iv_pr n x x := by
  rintro ⟨i, j, hi, hj, hne, e1, e2⟩
  exact hne ((nI_eq (by omega) (by omega)).mp (e1.symm.trans e2))
theorem iv_pr_of {n : Nat} {x y : Int32} (hx : iv_I n x) (hy : iv_I n y) (h : ¬ x = y) : iv_pr n x y := by
  obtain ⟨i, hi, e1⟩ := hx
  obtain ⟨j, hj, e2⟩ := hy
  exact ⟨i, j, hi, hj, fun e => h (by rw [e1, e2, e]), e1, e2⟩
theorem iv_xI {post : Int32 → Prop} {n : Nat} {fp fk fd : Int32} {aA aP aL aT aM a1 a2 aU aS : Nat → Int32} {x : Int32} (hn : n < 2 ^ 31) (h1 : iv_I n x → post 1) (h0 : ¬ iv_I n x → post 0) :
    wpX_isInterval post (nI n, fp, fk, fd, aA, aP, aL, aT, aM, a1, a2, aU, aS) x :=
  br_c (fun z => h0 (iv_I_neg hn z)) (fun z => br_c (fun z' => h0 (iv_I_big hn z')) (fun z' => h1 (iv_I_of hn z z')))
theorem iv_xpr {post : Int32 → Prop} {n : Nat} {fp fk fd : Int32} {aA aP aL aT aM a1 a2 aU aS : Nat → Int32} {x y : Int32} (hn : n < 2 ^ 31) (h1 : iv_pr n x y → post 1) (h0 : ¬ iv_pr n x y → post 0) :
    wpX_areIntervals post (nI n, fp, fk, fd, aA, aP, aL, aT, aM, a1, a2, aU, aS) x y := by
  unfold wpX_areIntervals
  dsimp only
  refine iv_xI hn (fun hx => ?_) (fun hx => br_t rfl (h0 (iv_pr_1 hx)))
  refine br_f (by decide) (iv_xI hn (fun hy => ?_) (fun hy => br_t rfl (h0 (iv_pr_2 hy))))
  refine br_f (by decide) (br_c (fun e => ?_) (fun e => h1 (iv_pr_of hx hy e)))
  subst e
  exact h0 (iv_pr_3 hn)
theorem iv_ypr {post : Int32 → Prop} {n : Nat} {gk gt gf gl : Int32} {bS bP bA bL bT bN bR bE bZ : Nat → Int32} {x y : Int32} (hn : n < 2 ^ 31) (h1 : iv_pr n x y → post 1) (h0 : ¬ iv_pr n x y → post 0) :
    wpY_isPair post (nI n, gk, gt, gf, gl, bS, bP, bA, bL, bT, bN, bR, bE, bZ) x y := by
  unfold wpY_isPair
  dsimp only
  refine br_c (fun z => h0 (iv_pr_1 (iv_I_neg hn z))) (fun z => br_c (fun z' => h0 (iv_pr_1 (iv_I_big hn z'))) (fun z' => ?_))
  refine br_c (fun w => h0 (iv_pr_2 (iv_I_neg hn w))) (fun w => br_c (fun w' => h0 (iv_pr_2 (iv_I_big hn w'))) (fun w' => ?_))
  refine br_c (fun e => ?_) (fun e => h1 (iv_pr_of (iv_I_of hn z z') (iv_I_of hn w w') e))
  subst e
  exact h0 (iv_pr_3 hn)
theorem iv_S_of {x : Int32} (h0 : ¬ x < 0) (h : ¬ 8191 < x) : iv_S x := by
  rcases pk_ix x (n := 8192) (by decide) with z | z | ⟨j, hj, e⟩
  · exact absurd z h0
  · obtain ⟨j, hj, e⟩ := nI_of h0
    rw [e] at h z
    have h1 : ¬ j < 8192 := fun q => nI_ge q (by decide) z
    exact absurd (nI_lt (a := 8191) (b := j) (by omega) hj) h
  · exact ⟨j, hj, e⟩
theorem iv_S_neg {x : Int32} (h : x < 0) : ¬ iv_S x := by
  rintro ⟨j, hj, e⟩
  rw [e] at h
  exact nI_pos (by omega) h
theorem iv_S_big {x : Int32} (h : 8191 < x) : ¬ iv_S x := by
  rintro ⟨j, hj, e⟩
  rw [e] at h
  exact nI_nlt (a := 8191) (b := j) (by omega) (by decide) h
theorem iv_xS {post : Int32 → Prop} {x : Int32} (h1 : iv_S x → post 1) (h0 : ¬ iv_S x → post 0) : wpX_isSet post x :=
  br_c (fun z => h0 (iv_S_neg z)) (fun z => br_c (fun z' => h0 (iv_S_big z')) (fun z' => h1 (iv_S_of z z')))
theorem iv_yS {post : Int32 → Prop} {u : SY} {x : Int32} (h1 : iv_S x → post 1) (h0 : ¬ iv_S x → post 0) : wpY_isSet post u x := by
  obtain ⟨gi, gk, gt, gf, gl, bS, bP, bA, bL, bT, bN, bR, bE, bZ⟩ := u
  exact br_c (fun z => h0 (iv_S_neg z)) (fun z => br_c (fun z' => h0 (iv_S_big z')) (fun z' => h1 (iv_S_of z z')))
theorem iv_c4 (i j : Nat) : nI i * 4 + nI j = nI (4 * i + j) := by
  have h : nI i * nI 4 = nI (i * 4) := pk_mul i 4
  have h2 : nI i * (4 : Int32) = nI (i * 4) := h
  rw [h2, nI_add, Nat.mul_comm]
theorem iv_4c (i j : Nat) : 4 * nI i + nI j = nI (4 * i + j) := by
  have h : nI 4 * nI i = nI (4 * i) := pk_mul 4 i
  have h2 : (4 : Int32) * nI i = nI (4 * i) := h
  rw [h2, nI_add]
theorem iv_cin {i j : Nat} (hi : i < 4) (hj : j < 4) : vp_in (nI (4 * i + j)) 16 := vp_in_nI (by omega) (by decide)
theorem iv_ccl {i j : Nat} (hi : i < 4) (hj : j < 4) : (nI (4 * i + j)).toNatClampNeg = 4 * i + j := nI_clamp (by omega)
