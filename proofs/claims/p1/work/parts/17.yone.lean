theorem iv_8 (k c : Nat) : 8 * nI k + nI c = nI (8 * k + c) := by
  have h : (8 : Int32) * nI k = nI (8 * k) := pk_mul 8 k
  rw [h, nI_add]
theorem iv_88 (k c : Nat) : 8 * nI k + 8 + nI c = nI (8 * k + 8 + c) := by
  have h : (8 : Int32) * nI k + 8 = nI (8 * k + 8) := iv_8 k 8
  rw [h, nI_add]
theorem iv_d2 {p : Nat} (h : p < 2 ^ 31) : nI p / 2 = nI (p / 2) := pk_div (d := 2) h (by decide) (by decide)
theorem iv_r2 {p : Nat} (h : p < 2 ^ 31) : nI p - nI p / 2 * 2 = nI (p % 2) := pk_rem (d := 2) h (by decide) (by decide)
theorem iv_n2 : ¬ (2 : Int32) = 0 := by decide
theorem iv_f0 {p : Nat} (h : p % 2 = 0) : iv_f p = 1 := by
  unfold iv_f
  omega
theorem iv_f1 {p : Nat} (h : ¬ p % 2 = 0) : iv_f p = 0 := by
  unfold iv_f
  omega
section
variable {gi gk gt gf gl : Int32} {bS bP bA bL bN bR bE bZ : Nat → Int32}
theorem iv_yins_l {post : SY → Prop} {k p q m : Nat} {L : Nat → Nat} (hk : k ≤ 3) (hp : p < 100) (hq : q < 100) (hm : m < 100) (hL : ∀ c, c < 2 * k → L c < 100) (hN : bN k = nI m) {bT : Nat → Int32} (hT : ∀ c, c < 2 * k → bT (8 * k + c) = nI (L c))
    (h : ∀ bT', (∀ c, c < 2 * (k + 1) → bT' (8 * (k + 1) + c) = nI (iv_ex k L p q c)) → (∀ c, c < 8 * (k + 1) → bT' c = bT c) → post (gi, gk, gt, gf, gl, bS, bP, bA, bL, bT', upd bN (k + 1) (nI (m + iv_f p + iv_f q)), bR, bE, bZ)) :
    ∃ f, wY_insert_29 post (nI k) (nI p) (nI q) (nI (iv_f p)) (nI (iv_f q)) gi gk gt gf gl f 0 bS bP bA bL bT bN bR bE bZ := by
  have key : ∀ e c bT1, c + e = 2 * k → (∀ a, a < c → bT1 (8 * k + 8 + a) = nI (iv_sh p q (L a))) → (∀ a, a < 8 * (k + 1) → bT1 a = bT a) →
      wY_insert_29 post (nI k) (nI p) (nI q) (nI (iv_f p)) (nI (iv_f q)) gi gk gt gf gl (e + 1) (nI c) bS bP bA bL bT1 bN bR bE bZ := by
    intro e
    induction e with
    | zero =>
      intro c bT1 hc h1 h2
      have e : c = 2 * k := by omega
      subst e
      refine br_t (by rw [iv_2n]; exact nI_le (Nat.le_refl _) (by omega)) ?_
      rw [iv_2n, iv_88, iv_d2 (p := p) (by omega), iv_d2 (p := q) (by omega), nI_1 (8 * k + 8 + 2 * k), nI_1 k, nI_add (q / 2), nI_clamp (n := 8 * k + 8 + 2 * k) (by omega), nI_clamp (n := 8 * k + 8 + 2 * k + 1) (by omega), nI_clamp (n := k) (by omega), nI_clamp (n := k + 1) (by omega), hN, nI_add m, nI_add (m + iv_f p)]
      refine ⟨iv_n2, vp_in_nI (by omega) (by decide), nm_e ⟨iv_n2, vp_in_nI (by omega) (by decide), nm_e ⟨vp_in_nI (by omega) (by decide), vp_in_nI (by omega) (by decide), nm_e (h _ (fun a ha => ?_) (fun a ha => ?_))⟩⟩⟩
      · by_cases c1 : a = 2 * k + 1
        · rw [c1, iv_ex_e, show 8 * (k + 1) + (2 * k + 1) = 8 * k + 8 + 2 * k + 1 by omega, pk_us]
        · rw [pk_un (by omega)]
          by_cases c2 : a = 2 * k
          · rw [c2, iv_ex_b, show 8 * (k + 1) + 2 * k = 8 * k + 8 + 2 * k by omega, pk_us]
          · rw [pk_un (by omega), iv_ex_o (by omega), show 8 * (k + 1) + a = 8 * k + 8 + a by omega]
            exact h1 a (by omega)
      · rw [pk_un (by omega), pk_un (by omega)]
        exact h2 a ha
    | succ e ih =>
      intro c bT1 hc h1 h2
      have hv : bT1 (8 * k + c) = nI (L c) := by
        rw [h2 _ (by omega)]
        exact hT c (by omega)
      have hl := hL c (by omega)
      have hgo : ∀ w, w = iv_sh p q (L c) → ∀ bT2, bT2 = upd bT1 (8 * k + 8 + c) (nI w) →
          wY_insert_29 post (nI k) (nI p) (nI q) (nI (iv_f p)) (nI (iv_f q)) gi gk gt gf gl (e + 1) (nI (c + 1)) bS bP bA bL bT2 bN bR bE bZ := by
        intro w hw bT2 hb
        subst hw hb
        refine ih (c + 1) _ (by omega) (fun a ha => ?_) (fun a ha => ?_)
        · by_cases c1 : a = c
          · rw [c1, pk_us]
          · rw [pk_un (by omega)]
            exact h1 a (by omega)
        · rw [pk_un (by omega)]
          exact h2 a ha
      have st : ∀ z0 z1, nI (L c) + (nI z1 + nI z0) = nI (L c + (z1 + z0)) := fun z0 z1 => by rw [nI_add, nI_add]
      have fin : ∀ z0 z1, L c + (z1 + z0) = iv_sh p q (L c) →
          wY_insert_79 post (wY_insert_29 post (nI k) (nI p) (nI q) (nI (iv_f p)) (nI (iv_f q)) gi gk gt gf gl (e + 1)) (nI k) (nI p) (nI q) (nI (iv_f p)) (nI (iv_f q)) (nI c) (nI (L c)) (nI z0) (nI z1) gi gk gt gf gl bS bP bA bL bT1 bN bR bE bZ := by
        intro z0 z1 hz
        unfold wY_insert_79
        rw [iv_88, nI_clamp (by omega)]
        refine nm_e ⟨vp_in_nI (by omega) (by decide), ?_⟩
        rw [st]
        exact fun bT2 e2 => nm_r (nI_1 c) (hgo _ hz bT2 e2)
      have fin2 : ∀ z1, z1 = (if p / 2 ≤ L c then iv_f p else 0) →
          wY_insert_65 post (wY_insert_29 post (nI k) (nI p) (nI q) (nI (iv_f p)) (nI (iv_f q)) gi gk gt gf gl (e + 1)) (nI k) (nI p) (nI q) (nI (iv_f p)) (nI (iv_f q)) (nI c) (nI (L c)) (nI z1) gi gk gt gf gl bS bP bA bL bT1 bN bR bE bZ := by
        intro z1 hz
        unfold wY_insert_65
        rw [iv_d2 (by omega)]
        refine ⟨iv_n2, pk_lt (L c) (q / 2) (fun g => fin 0 z1 ?_) (fun g => fin (iv_f q) z1 ?_) rfl rfl (by omega) (by omega)⟩
        · unfold iv_sh
          rw [hz, if_neg (show ¬ q / 2 ≤ L c by omega)]
        · unfold iv_sh
          rw [hz, if_pos g]
      refine br_f (by rw [iv_2n]; exact nI_ge (by omega) (by omega)) ?_
      rw [iv_8, nI_clamp (by omega), hv, iv_d2 (p := p) (by omega)]
      refine ⟨vp_in_nI (by omega) (by decide), nm_e ⟨iv_n2, pk_lt (L c) (p / 2) (fun g => fin2 0 ?_) (fun g => fin2 (iv_f p) ?_) rfl rfl (by omega) (by omega)⟩⟩
      · rw [if_neg (by omega)]
      · rw [if_pos g]
  exact ⟨2 * k + 1, key (2 * k) 0 bT (by omega) (fun a ha => absurd ha (Nat.not_lt_zero _)) (fun _ _ => rfl)⟩
theorem iv_yins {post : SY → Prop} {k p q m : Nat} {L : Nat → Nat} (hk : k ≤ 3) (hp : p < 100) (hq : q < 100) (hm : m < 100) (hL : ∀ c, c < 2 * k → L c < 100) (hN : bN k = nI m) {bT : Nat → Int32} (hT : ∀ c, c < 2 * k → bT (8 * k + c) = nI (L c))
    (h : ∀ bT', (∀ c, c < 2 * (k + 1) → bT' (8 * (k + 1) + c) = nI (iv_ex k L p q c)) → (∀ c, c < 8 * (k + 1) → bT' c = bT c) → post (gi, gk, gt, gf, gl, bS, bP, bA, bL, bT', upd bN (k + 1) (nI (m + iv_f p + iv_f q)), bR, bE, bZ)) :
    wpY_insert post (gi, gk, gt, gf, gl, bS, bP, bA, bL, bT, bN, bR, bE, bZ) (nI k) (nI p) (nI q) := by
  have hh := iv_yins_l hk hp hq hm hL hN hT h
  have h11 : wY_insert_11 post (nI k) (nI p) (nI q) (nI (iv_f p)) gi gk gt gf gl bS bP bA bL bT bN bR bE bZ := by
    unfold wY_insert_11
    rw [iv_r2 (by omega)]
    refine ⟨iv_n2, pk_eq (q % 2) 0 (fun g => ?_) (fun g => ?_) rfl rfl (by omega) (by decide)⟩
    · rw [iv_f0 g] at hh
      exact hh
    · rw [iv_f1 g] at hh
      exact hh
  unfold wpY_insert
  dsimp only
  rw [iv_r2 (by omega)]
  refine ⟨iv_n2, pk_eq (p % 2) 0 (fun g => ?_) (fun g => ?_) rfl rfl (by omega) (by decide)⟩
  · rw [iv_f0 g] at h11
    exact h11
  · rw [iv_f1 g] at h11
    exact h11
theorem iv_yrin {post : Int32 → Prop} {k i j : Nat} {L : Nat → Nat} {bT : Nat → Int32} (hk : k ≤ 4) (hi : i < k) (hj : j < k) (hT : ∀ c, c < 2 * k → bT (8 * k + c) = nI (L c)) (hL : ∀ c, c < 2 * k → L c < 100) (h : post (nI (iv_rl L i j))) :
    wpY_relationIn post (gi, gk, gt, gf, gl, bS, bP, bA, bL, bT, bN, bR, bE, bZ) (nI k) (nI i) (nI j) := by
  have l1 := hL (2 * i) (by omega)
  have l2 := hL (2 * i + 1) (by omega)
  have l3 := hL (2 * j) (by omega)
  have l4 := hL (2 * j + 1) (by omega)
  have t1 := hT (2 * i) (by omega)
  have t2 : bT (8 * k + 2 * i + 1) = nI (L (2 * i + 1)) := hT (2 * i + 1) (by omega)
  have t3 := hT (2 * j) (by omega)
  have t4 : bT (8 * k + 2 * j + 1) = nI (L (2 * j + 1)) := hT (2 * j + 1) (by omega)
  simp only [wpY_relationIn, iv_2n, iv_8, nI_1]
  rw [nI_clamp (by omega), nI_clamp (by omega), nI_clamp (by omega), nI_clamp (by omega), t1, t2, t3, t4]
  exact ⟨vp_in_nI (by omega) (by decide), vp_in_nI (by omega) (by decide), vp_in_nI (by omega) (by decide), vp_in_nI (by omega) (by decide), iv_yrel (by omega) (by omega) (by omega) (by omega) h⟩
theorem iv_yfits {post : Int32 → Prop} {k : Nat} {A : iv_N} {L : Nat → Nat} {bT : Nat → Int32} (hk : k ≤ 3) (hT : ∀ c, c < 2 * (k + 1) → bT (8 * (k + 1) + c) = nI (L c)) (hL : ∀ c, c < 2 * (k + 1) → L c < 100)
    (hA : ∀ i, i < k → bA (4 * i + k) = nI (A i k) ∧ A i k < 8192) (h1 : iv_fit A k L = true → post 1) (h0 : ¬ iv_fit A k L = true → post 0) :
    wpY_fits post (gi, gk, gt, gf, gl, bS, bP, bA, bL, bT, bN, bR, bE, bZ) (nI k) := by
  have z0 : ∀ e i, i + e = k → ¬ iv_fit A k L = true → wY_fits_4 post (nI k) gi gk gt gf gl bS bP bA bL bT bN bR bE bZ (e + 1) 0 (nI i) := by
    intro e
    induction e with
    | zero =>
      intro i hi hf
      have e : i = k := by omega
      subst e
      exact br_t (nI_le (Nat.le_refl _) (by omega)) ⟨rfl, h0 hf⟩
    | succ e ih =>
      intro i hi hf
      refine br_f (nI_ge (by omega) (by omega)) ?_
      rw [nI_1 k]
      exact (iv_yrin (by omega) (by omega) (by omega) hT hL (br_t rfl (nm_r (nI_1 i) (ih (i + 1) (by omega) hf))))
  have z1 : ∀ e i, i + e = k → (∀ a, a < i → (A a k).testBit (iv_rl L a k) = true) → wY_fits_4 post (nI k) gi gk gt gf gl bS bP bA bL bT bN bR bE bZ (e + 1) 1 (nI i) := by
    intro e
    induction e with
    | zero =>
      intro i hi hf
      have e : i = k := by omega
      subst e
      exact br_t (nI_le (Nat.le_refl _) (by omega)) ⟨rfl, h1 (iv_fit_iff.mpr hf)⟩
    | succ e ih =>
      intro i hi hf
      obtain ⟨a1, a2⟩ := hA i (by omega)
      have r13 : iv_rl L i k < 13 := iv_rel_lt _ _ _ _
      have b1 := iv_b2 (A i k) (iv_rl L i k)
      refine br_f (nI_ge (by omega) (by omega)) ?_
      rw [nI_1 k, iv_4c]
      refine (iv_yrin (by omega) (by omega) (by omega) hT hL (br_f (by decide) ⟨iv_cin (by omega) (by omega), ?_⟩))
      rw [iv_ccl (by omega) (by omega), a1, iv_bit a2 (by omega)]
      refine pk_eq (iv_b (A i k) (iv_rl L i k)) 1 (fun c => nm_r (nI_1 i) (ih (i + 1) (by omega) (fun a ha => ?_))) (fun c => nm_r (nI_1 i) (z0 e (i + 1) (by omega) (fun z => c ?_))) rfl rfl (by omega) (by decide)
      · by_cases e : a = i
        · rw [e]
          exact (iv_b_1 _ _).mp c
        · exact hf a (by omega)
      · exact (iv_b_1 _ _).mpr (iv_fit_iff.mp z i (by omega))
  exact ⟨k + 1, z1 k 0 (by omega) (fun a ha => absurd ha (Nat.not_lt_zero _))⟩
end
