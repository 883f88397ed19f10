section
variable {gk : Int32} {bS bP bL : Nat → Int32}
theorem iv_d4 {p : Nat} (h : p < 2 ^ 31) : nI p / 4 = nI (p / 4) := pk_div (d := 4) h (by decide) (by decide)
theorem iv_r4 {p : Nat} (h : p < 2 ^ 31) : nI p - nI p / 4 * 4 = nI (p % 4) := pk_rem (d := 4) h (by decide) (by decide)
theorem iv_n4 : ¬ (4 : Int32) = 0 := by decide
theorem iv_yfind {post : Int32 → SY → Prop} {n : Nat} {A : iv_N} {gt gf gl : Int32} {bA bT bN bR bE bZ : Nat → Int32} {x : Int32} (hn : iv_n n) (hS : ∀ i j, i < j → j < n → bS (4 * i + j) = nI (A i j) ∧ A i j < 8192)
    (h0 : (∀ k N, x = nI k → (iv_nets A (iv_ps n) iv_R0)[k]? = some N → False) → ∀ gt gf gl bA bT bN bR bE bZ, post 0 (nI n, gk, gt, gf, gl, bS, bP, bA, bL, bT, bN, bR, bE, bZ))
    (h1 : ∀ k N, x = nI k → (iv_nets A (iv_ps n) iv_R0)[k]? = some N → ∀ L m gt gf bA bT bN bR bE bZ, iv_Can n L m → (∀ i j, i < n → j < n → iv_rl L i j = N i j) → (∀ c, c < 2 * n → bZ c = nI (L c)) →
      post 1 (nI n, gk, gt, gf, nI m, bS, bP, bA, bL, bT, bN, bR, bE, bZ)) :
    wpY_find post (nI n, gk, gt, gf, gl, bS, bP, bA, bL, bT, bN, bR, bE, bZ) x := by
  have hn4 : 2 ≤ n ∧ n ≤ 4 := by
    unfold iv_n at hn
    omega
  have key : ∀ (N : iv_N), (∀ L m gt gf bA bT bN bR bE bZ, iv_Can n L m → (∀ i j, i < n → j < n → iv_rl L i j = N i j) → (∀ c, c < 2 * n → bZ c = nI (L c)) → post 1 (nI n, gk, gt, gf, nI m, bS, bP, bA, bL, bT, bN, bR, bE, bZ)) →
      ∀ e c q gt gf gl bA bT bN bR bE bZ, c + e = 16 → iv_FI n N c q bA → wY_find_22 post (e + 1) (nI q) (nI c) (nI n) gk gt gf gl bS bP bA bL bT bN bR bE bZ := by
    intro N hfin e
    induction e with
    | zero =>
      intro c q gt gf gl bA bT bN bR bE bZ hc hF
      have e : c = 16 := by omega
      subst e
      obtain ⟨B, R, hA, hcol, hq, _⟩ := hF
      have hone : iv_nets B (iv_ps n) iv_R0 = [R] := by
        rw [hcol B (fun _ _ _ => rfl), (iv_pf_0 hn).2, iv_nets]
      refine br_t (nI_le (a := 16) (b := 16) (by decide) (by decide)) (iv_ywork hn hA (fun gt gf gl bT bN bR bE bZ ha => ?_))
      dsimp only
      have hl1 : (iv_leaves n B).length = 1 := by
        rw [iv_len hn, hone]
        rfl
      obtain ⟨y, hy⟩ := List.length_eq_one_iff.mp hl1
      have hmem : y ∈ iv_leaves n B := by
        rw [hy]
        exact List.mem_singleton.mpr rfl
      obtain ⟨hC, _⟩ := iv_leaf_can (by omega) hmem
      have hN : iv_nt n y.1 = N := by
        have h2 : iv_nt n y.1 ∈ iv_nets B (iv_ps n) iv_R0 := (iv_same hn _).mpr ⟨y, hmem, rfl⟩
        rw [hone] at h2 hq
        have h3 := List.mem_singleton.mp h2
        have h4 : N ∈ [R] := List.mem_of_getElem? hq
        rw [h3, List.mem_singleton.mp h4]
      have h5 := ha.2.2.2.2 [] y hy
      refine br_t ?_ ?_
      · rw [ha.1, hl1]
        rfl
      · rw [h5.1]
        refine hfin y.1 y.2 _ _ _ _ _ _ _ _ hC (fun i j hi hj => ?_) h5.2
        rw [← hN, iv_nt_in hi hj]
    | succ e ih =>
      intro c q gt gf gl bA bT bN bR bE bZ hc hF
      have ec : (nI c).toNatClampNeg = c := nI_clamp (by omega)
      refine br_f (nI_ge (b := 16) (by omega) (by decide)) ⟨vp_in_nI (by omega) (by decide), ?_⟩
      rw [ec, iv_r4 (by omega), iv_d4 (by omega)]
      have skip : ¬ (c / 4 < c % 4 ∧ c % 4 < n) → ∀ x4, ∃ f, wY_find_65 post (wY_find_22 post (e + 1)) (nI c) x4 f (nI q) 0 0 (nI n) gk gt gf gl bS bP bA bL bT bN bR bE bZ := by
        intro hv x4
        refine ⟨1, br_f (by decide) (br_t rfl (nm_r (nI_1 c) (ih (c + 1) q gt gf gl bA bT bN bR bE bZ (by omega) ?_)))⟩
        obtain ⟨B, R, hA, hcol, hq, hq6⟩ := hF
        rw [iv_pf_out hn (by omega) hv] at hcol
        exact ⟨B, R, hA, hcol, hq, hq6⟩
      refine fun x4 ex4 => ⟨iv_n4, iv_n4, ?_⟩
      refine pk_le (c % 4) (c / 4) (fun z => skip (by omega) x4) (fun z => ⟨iv_n4, ?_⟩) rfl rfl (by omega) (by omega)
      refine pk_le n (c % 4) (fun w => skip (by omega) x4) (fun w => ?_) rfl rfl (by omega) (by omega)
      have hv : c / 4 < c % 4 ∧ c % 4 < n := ⟨z, w⟩
      obtain ⟨B, R, hA, hcol, hq, hq6⟩ := hF
      rw [iv_pf_in hn (by omega) hv] at hcol
      have hb := hA (c / 4) (c % 4) hv.1 hv.2
      rw [show 4 * (c / 4) + c % 4 = c by omega] at hb
      rw [ex4, hb.1]
      refine ⟨15, ?_⟩
      have := iv_yf65 (post := post) (gk := gk) (bS := bS) (bP := bP) (bL := bL) (J22 := wY_find_22 post (e + 1)) hn (show c < 16 by omega) hv
        (fun q gt gf gl bA bT bN bR bE bZ hF => ih (c + 1) q gt gf gl bA bT bN bR bE bZ (by omega) hF) hb.2 hcol hq hq6 13 0 gt gf gl bA bT bN bR bE bZ (by decide) (fun i j hi hj _ => hA i j hi hj) (Nat.zero_le _)
      exact this
  unfold wpY_find
  dsimp only
  refine iv_yall hn hS (fun gt gf gl bA bT bN bR bE bZ hA ha => ?_)
  dsimp only
  have hlt := iv_lv_len hn A
  have htot := ha.1
  have hlen := iv_len hn A
  refine br_c (fun z => h0 (fun k N e hk => ?_) _ _ _ _ _ _ _ _ _) (fun z => ?_)
  · have := (List.getElem?_eq_some_iff.mp hk).1
    rw [e] at z
    exact nI_pos (by omega) z
  · obtain ⟨k, hk, e⟩ := nI_of z
    subst e
    refine pk_lt k (iv_leaves n A).length (fun w => ?_) (fun w => h0 (fun k' N e hk' => ?_) _ _ _ _ _ _ _ _ _) rfl htot hk (by omega)
    · have hk2 : k < (iv_nets A (iv_ps n) iv_R0).length := by omega
      refine ⟨17, key ((iv_nets A (iv_ps n) iv_R0)[k]) (h1 k _ rfl (List.getElem?_eq_getElem hk2)) 16 0 k gt gf gl bA bT bN bR bE bZ (by decide) ?_⟩
      refine ⟨A, iv_R0, hA, ?_, List.getElem?_eq_getElem hk2, by omega⟩
      rw [(iv_pf_0 hn).1]
      exact iv_col_0 n A
    · have h2 := (List.getElem?_eq_some_iff.mp hk').1
      have h3 := (nI_eq hk (by omega)).mp e
      omega
theorem iv_ycrowd {post : Int32 → SY → Prop} {n : Nat} {L : Nat → Nat} {gt gf gl : Int32} {bA bT bN bR bE bZ : Nat → Int32} (hn : n ≤ 4) (hL : ∀ c, c < 2 * n → L c < 100) (hZ : ∀ c, c < 2 * n → bZ c = nI (L c))
    (h : post (nI (iv_mx (iv_cv n L) 8)) (nI n, gk, gt, gf, gl, bS, bP, bA, bL, bT, bN, bR, bE, bZ)) :
    ∃ f, wY_crowd_15 post (nI n) gk gt gf gl bS bP bA bL bT bN bR bE bZ f 0 0 := by
  have hb : ∀ t, iv_cv n L t ≤ 4 := fun t => Nat.le_trans (iv_ct_ub _ _) hn
  have hm : ∀ i, iv_mx (iv_cv n L) i ≤ 4 := fun i => (iv_mx_le (B := 4) i).mpr (fun j _ => hb j)
  have inner : ∀ (J15 : Int32 → Int32 → Prop) (t mx : Nat), t < 8 → mx ≤ 4 → J15 (nI (if mx < iv_cv n L t then iv_cv n L t else mx)) (nI (t + 1)) →
      ∀ e i, i + e = n → wY_crowd_27 post J15 (nI mx) (nI t) (nI n) gk gt gf gl bS bP bA bL bT bN bR bE bZ (e + 1) (nI (iv_ct (fun j => decide (L (2 * j) ≤ t) && decide (t < L (2 * j + 1))) i)) (nI i) := by
    intro J15 t mx ht hmx hJ e
    induction e with
    | zero =>
      intro i hi
      have e : i = n := by omega
      subst e
      have hb' := hb t
      refine br_t (nI_le (Nat.le_refl _) (by omega)) (pk_le (iv_cv i L t) mx (fun z => ?_) (fun z => ?_) rfl rfl (by omega) (by omega))
      · rw [if_neg (by omega)] at hJ
        exact nm_r (nI_1 t) hJ
      · rw [if_pos z] at hJ
        exact nm_r (nI_1 t) hJ
    | succ e ih =>
      intro i hi
      have hgo := ih (i + 1) (by omega)
      rw [iv_ct] at hgo
      have l1 := hL (2 * i) (by omega)
      have l2 := hL (2 * i + 1) (by omega)
      have e2 : (2 : Int32) * nI i + 1 = nI (2 * i + 1) := iv_2r i 1
      refine br_f (nI_ge (by omega) (by omega)) ?_
      rw [e2, iv_2n, nI_clamp (n := 2 * i) (by omega), nI_clamp (n := 2 * i + 1) (by omega), hZ _ (by omega), hZ _ (by omega)]
      refine ⟨vp_in_nI (by omega) (by decide), pk_lt t (L (2 * i)) (fun z => ?_) (fun z => ⟨vp_in_nI (by omega) (by decide), pk_le (L (2 * i + 1)) t (fun w => ?_) (fun w => ?_) rfl rfl (by omega) (by omega)⟩) rfl rfl (by omega) (by omega)⟩
      · rw [if_neg (by rw [Bool.and_eq_true, decide_eq_true_iff, decide_eq_true_iff]; omega), Nat.add_zero] at hgo
        exact nm_r (nI_1 i) hgo
      · rw [if_neg (by rw [Bool.and_eq_true, decide_eq_true_iff, decide_eq_true_iff]; omega), Nat.add_zero] at hgo
        exact nm_r (nI_1 i) hgo
      · rw [if_pos (by rw [Bool.and_eq_true, decide_eq_true_iff, decide_eq_true_iff]; omega)] at hgo
        exact nm_r (nI_1 _) (nm_r (nI_1 i) hgo)
  have outer : ∀ e t, t + e = 8 → wY_crowd_15 post (nI n) gk gt gf gl bS bP bA bL bT bN bR bE bZ (e + 1) (nI (iv_mx (iv_cv n L) t)) (nI t) := by
    intro e
    induction e with
    | zero =>
      intro t ht
      have e : t = 8 := by omega
      subst e
      exact br_t (nI_le (a := 8) (b := 8) (by decide) (by decide)) h
    | succ e ih =>
      intro t ht
      exact br_f (nI_ge (b := 8) (by omega) (by decide)) ⟨n + 1, inner (wY_crowd_15 post (nI n) gk gt gf gl bS bP bA bL bT bN bR bE bZ (e + 1)) t (iv_mx (iv_cv n L) t) (by omega) (hm t) (ih (t + 1) (by omega)) n 0 (by omega)⟩
  exact ⟨9, outer 8 0 (by decide)⟩
end
section
variable {gi gk : Int32} {bS bP bL : Nat → Int32}
def iv_cA (a b : Nat) : iv_N := fun i j => if i = 0 ∧ j = 1 then a else if i = 1 ∧ j = 2 then b else 8191
theorem iv_ycom {post : Int32 → SY → Prop} {a b : Nat} {gt gf gl : Int32} {bA bT bN bR bE bZ : Nat → Int32} (ha : a < 8192) (hb : b < 8192)
    (h : ∀ gt gf gl bA bT bN bR bE bZ, post (nI (iv_co a b 13)) (gi, gk, gt, gf, gl, bS, bP, bA, bL, bT, bN, bR, bE, bZ)) :
    wpY_composed post (gi, gk, gt, gf, gl, bS, bP, bA, bL, bT, bN, bR, bE, bZ) (nI a) (nI b) := by
  have key : ∀ e c bA, c + e = 16 → (∀ x, x < c → bA x = if x = 1 then nI a else if x = 6 then nI b else nI 8191) → wY_composed_2 post (nI a) (nI b) gi gk gt gf gl (e + 1) (nI c) bS bP bA bL bT bN bR bE bZ := by
    intro e
    induction e with
    | zero =>
      intro c bA hc hA
      have e : c = 16 := by omega
      subst e
      refine br_t (nI_le (a := 16) (b := 16) (by decide) (by decide)) ?_
      refine iv_ywork (many := 3) (A := iv_cA a b) (Or.inr (Or.inl rfl)) (fun i j hi hj => ?_) (fun gt gf gl bT bN bR bE bZ hac => ?_)
      · rw [hA _ (by omega)]
        rcases (show (i = 0 ∧ j = 1) ∨ (i = 0 ∧ j = 2) ∨ (i = 1 ∧ j = 2) by omega) with ⟨e1, e2⟩ | ⟨e1, e2⟩ | ⟨e1, e2⟩ <;> subst e1 e2
        · exact ⟨rfl, ha⟩
        · exact ⟨rfl, (by decide : 8191 < 8192)⟩
        · exact ⟨rfl, hb⟩
      · have h2 := hac.2.1 0 2 (by decide) (by decide) (by decide)
        rw [iv_comp (a := a) (b := b) rfl rfl rfl] at h2
        have h3 : bE 2 = nI (iv_co a b 13) := h2
        dsimp only
        rw [h3]
        exact h _ _ _ _ _ _ _ _ _
    | succ e ih =>
      intro c bA hc hA
      have ec : (nI c).toNatClampNeg = c := nI_clamp (by omega)
      have vi : vp_in (nI c) 16 := vp_in_nI (by omega) (by decide)
      have hgo : ∀ v, v = (if c = 1 then nI a else if c = 6 then nI b else nI 8191) → wY_composed_2 post (nI a) (nI b) gi gk gt gf gl (e + 1) (nI (c + 1)) bS bP (upd bA c v) bL bT bN bR bE bZ := by
        intro v hv
        refine ih (c + 1) _ (by omega) (fun x hx => ?_)
        by_cases e : x = c
        · rw [e, pk_us]
          exact hv
        · rw [pk_un e]
          exact hA x (by omega)
      refine br_f (nI_ge (b := 16) (by omega) (by decide)) ?_
      rw [ec]
      refine pk_eq c 1 (fun z => ⟨vi, nm_e (nm_r (nI_1 c) (hgo _ ?_))⟩) (fun z => pk_eq c 6 (fun w => ⟨vi, nm_e (nm_r (nI_1 c) (hgo _ ?_))⟩) (fun w => ⟨vi, nm_e (nm_r (nI_1 c) (hgo _ ?_))⟩) rfl rfl (by omega) (by decide)) rfl rfl (by omega) (by decide)
      · rw [if_pos z]
      · rw [if_neg z, if_pos w]
      · rw [if_neg z, if_neg w]
        rfl
  exact ⟨17, key 16 0 bA (by decide) (fun x hx => absurd hx (Nat.not_lt_zero _))⟩
end
section
variable {gi gk : Int32} {bS bP : Nat → Int32}
theorem iv_ydr {post : Int32 → SY → Prop} {x y z : Nat} {gt gf gl : Int32} {bA bL bT bN bR bE bZ : Nat → Int32} (hx : x < 4) (hy : y < 4) (hz : z < 4) (hL : ∀ c, c < 16 → bL c = nI 8191)
    (h : ∀ gt gf gl bA bL bT bN bR bE bZ, (∀ c, c < 16 → bL c = nI 8191) → post 0 (gi, gk, gt, gf, gl, bS, bP, bA, bL, bT, bN, bR, bE, bZ)) :
    wpY_dropped post (gi, gk, gt, gf, gl, bS, bP, bA, bL, bT, bN, bR, bE, bZ) (nI x) (nI y) (nI z) := by
  unfold wpY_dropped
  dsimp only
  rw [iv_4c, iv_4c, iv_4c, iv_4c, iv_ccl hx hy, iv_ccl hx hz, iv_ccl hy hz, iv_ccl hz hx, hL _ (by omega), hL _ (by omega), hL _ (by omega)]
  refine ⟨iv_cin hx hz, nm_e ⟨iv_cin hx hy, iv_cin hy hz, iv_ycom (by decide) (by decide) (fun gt gf gl bA bT bN bR bE bZ => ?_)⟩⟩
  dsimp only
  rw [iv_all_co.1, iv_and_all]
  refine ⟨iv_cin hx hz, nm_e (iv_ytur (by decide) ?_)⟩
  rw [iv_all_co.2]
  refine ⟨iv_cin hz hx, nm_e (br_t (by decide) (h _ _ _ _ _ _ _ _ _ _ (fun c hc => ?_)))⟩
  by_cases e : c = 4 * z + x
  · rw [e, pk_us]
  · rw [pk_un e]
    by_cases e' : c = 4 * x + z
    · rw [e', pk_us]
    · rw [pk_un e']
      exact hL c hc
end
section
variable {gk : Int32} {bS bP : Nat → Int32}
theorem iv_ycl {post : Int32 → SY → Prop} {n i j : Nat} {gt gf gl : Int32} {bA bL bT bN bR bE bZ : Nat → Int32} (hn : n ≤ 4) (hi : i < 4) (hj : j < 4) (hS : ∀ c, c < 16 → bS c = nI 8191)
    (h : ∀ gt gf gl bA bL bT bN bR bE bZ, post (nI 8191) (nI n, gk, gt, gf, gl, bS, bP, bA, bL, bT, bN, bR, bE, bZ)) :
    ∃ f, wY_closed_13 post (nI i) (nI j) (nI n) gk gt gf gl f 0 bS bP bA bL bT bN bR bE bZ := by
  have fin : ∀ gt gf gl bA bL bT bN bR bE bZ, (∀ c, c < 16 → bL c = nI 8191) → wY_closed_181 post (nI i) (nI j) (nI n) gk gt gf gl bS bP bA bL bT bN bR bE bZ := by
    intro gt gf gl bA bL bT bN bR bE bZ hL
    unfold wY_closed_181
    rw [iv_4c, iv_ccl hi hj, hL _ (by omega)]
    exact ⟨iv_cin hi hj, h _ _ _ _ _ _ _ _ _ _⟩
  have inner : ∀ (J42 : Int32 → Int32 → Int32 → Int32 → Int32 → Int32 → Int32 → (Nat → Int32) → (Nat → Int32) → (Nat → Int32) → (Nat → Int32) → (Nat → Int32) → (Nat → Int32) → (Nat → Int32) → (Nat → Int32) → (Nat → Int32) → Prop),
      (∀ gt gf gl bA bL bT bN bR bE bZ, (∀ c, c < 16 → bL c = nI 8191) → J42 0 1 (nI n) gk gt gf gl bS bP bA bL bT bN bR bE bZ) →
      ∀ e t gt gf gl bA bL bT bN bR bE bZ, t + e = 64 → (∀ c, c < 16 → bL c = nI 8191) → wY_closed_58 post J42 (nI i) (nI j) 0 (e + 1) 0 (nI t) (nI n) gk gt gf gl bS bP bA bL bT bN bR bE bZ := by
    intro J42 hJ e
    induction e with
    | zero =>
      intro t gt gf gl bA bL bT bN bR bE bZ ht hL
      have e : t = 64 := by omega
      subst e
      exact br_t (nI_le (a := 64) (b := 64) (by decide) (by decide)) (nm_r (nI_1 0) (hJ _ _ _ _ _ _ _ _ _ _ hL))
    | succ e ih =>
      intro t gt gf gl bA bL bT bN bR bE bZ ht hL
      have e1 : nI t / 16 = nI (t / 16) := pk_div (d := 16) (by omega) (by decide) (by decide)
      have e2 : nI t / 4 - nI t / 4 / 4 * 4 = nI (t / 4 % 4) := by
        rw [iv_d4 (by omega)]
        exact iv_r4 (by omega)
      have e3 : nI t - nI t / 4 * 4 = nI (t % 4) := iv_r4 (by omega)
      have h159 : ∀ gt gf gl bA bL bT bN bR bE bZ, (∀ c, c < 16 → bL c = nI 8191) → wY_closed_159 post J42 (wY_closed_58 post J42 (nI i) (nI j) 0 (e + 1)) (nI i) (nI j) 0 0 (nI t) (nI n) gk gt gf gl bS bP bA bL bT bN bR bE bZ :=
        fun gt gf gl bA bL bT bN bR bE bZ hL => br_t rfl (nm_r (nI_1 t) (ih (t + 1) gt gf gl bA bL bT bN bR bE bZ (by omega) hL))
      have h138 : wY_closed_138 post J42 (wY_closed_58 post J42 (nI i) (nI j) 0 (e + 1)) (nI i) (nI j) 0 0 (nI t) (nI (t / 16)) (nI (t / 4 % 4)) (nI (t % 4)) (nI n) gk gt gf gl bS bP bA bL bT bN bR bE bZ :=
        br_t rfl (h159 gt gf gl bA bL bT bN bR bE bZ hL)
      refine br_f (nI_ge (b := 64) (by omega) (by decide)) ⟨by decide, nm_r e1 ⟨iv_n4, iv_n4, nm_r e2 ⟨iv_n4, nm_r e3 ?_⟩⟩⟩
      refine br_c (fun _ => h138) (fun _ => br_c (fun _ => h138) (fun _ => br_c (fun _ => h138) (fun _ => br_c (fun _ => h138) (fun _ => br_c (fun _ => h138) (fun _ => br_c (fun _ => h138) (fun _ => ?_))))))
      unfold wY_closed_139
      refine br_f (by decide) (iv_ydr (by omega) (by omega) (by omega) hL (fun gt gf gl bA bL bT bN bR bE bZ hL' => ?_))
      exact br_t rfl (h159 gt gf gl bA bL bT bN bR bE bZ hL')
  have key : ∀ e x bL, x + e = 16 → (∀ c, c < x → bL c = nI 8191) → wY_closed_13 post (nI i) (nI j) (nI n) gk gt gf gl (e + 1) (nI x) bS bP bA bL bT bN bR bE bZ := by
    intro e
    induction e with
    | zero =>
      intro x bL hx hc
      have e : x = 16 := by omega
      subst e
      refine br_t (nI_le (a := 16) (b := 16) (by decide) (by decide)) ⟨2, ?_⟩
      refine br_f (by decide) (br_f (by decide) ⟨65, inner (wY_closed_42 post (nI i) (nI j) 1) (fun gt gf gl bA bL bT bN bR bE bZ hL => ?_) 64 0 gt gf gl bA bL bT bN bR bE bZ (by decide) hc⟩)
      exact br_f (by decide) (br_t rfl (fin _ _ _ _ _ _ _ _ _ _ hL))
    | succ e ih =>
      intro x bL hx hc
      have ec : (nI x).toNatClampNeg = x := nI_clamp (by omega)
      have vi : vp_in (nI x) 16 := vp_in_nI (by omega) (by decide)
      refine br_f (nI_ge (b := 16) (by omega) (by decide)) ⟨vi, vi, ?_⟩
      rw [ec]
      refine nm_e (nm_r (nI_1 x) (ih (x + 1) _ (by omega) (fun c hcx => ?_)))
      by_cases e : c = x
      · rw [e, pk_us]
        exact hS x (by omega)
      · rw [pk_un e]
        exact hc c (by omega)
  exact ⟨17, key 16 0 bL (by decide) (fun c hc => absurd hc (Nat.not_lt_zero _))⟩
end
theorem iv_yinit {post : SY → Prop} {x : Int32} {n : Nat} (hc : iv_cl x n)
    (h : ∀ bS, (∀ c, c < 16 → bS c = nI 8191) → post (nI n, 0, 0, 0, 0, bS, (fun _ => 0), (fun _ => 0), (fun _ => 0), (fun _ => 0), (fun _ => 0), (fun _ => 0), (fun _ => 0), (fun _ => 0))) :
    wpY_init post x := by
  have key : ∀ e c bS, c + e = 16 → (∀ a, a < c → bS a = nI 8191) → wY_init_99 post (nI n) 0 0 0 0 (e + 1) (nI c) bS (fun _ => 0) (fun _ => 0) (fun _ => 0) (fun _ => 0) (fun _ => 0) (fun _ => 0) (fun _ => 0) (fun _ => 0) := by
    intro e
    induction e with
    | zero =>
      intro c bS hc hE
      have e : c = 16 := by omega
      subst e
      exact br_t (nI_le (a := 16) (b := 16) (by decide) (by decide)) (h bS hE)
    | succ e ih =>
      intro c bS hc hE
      have ec : (nI c).toNatClampNeg = c := nI_clamp (by omega)
      refine br_f (nI_ge (b := 16) (by omega) (by decide)) ⟨vp_in_nI (by omega) (by decide), ?_⟩
      rw [ec]
      refine nm_e (nm_r (nI_1 c) (ih (c + 1) _ (by omega) (fun a ha => ?_)))
      by_cases e : a = c
      · rw [e, pk_us]
        rfl
      · rw [pk_un e]
        exact hE a (by omega)
  have hh : ∃ f, wY_init_99 post (nI n) 0 0 0 0 f 0 (fun _ => 0) (fun _ => 0) (fun _ => 0) (fun _ => 0) (fun _ => 0) (fun _ => 0) (fun _ => 0) (fun _ => 0) (fun _ => 0) :=
    ⟨17, key 16 0 (fun _ => 0) (by decide) (fun a ha => absurd ha (Nat.not_lt_zero _))⟩
  rcases hc with ⟨h1, e⟩ | ⟨h1, h2, e⟩ | ⟨h1, h2, e⟩
  · subst e
    exact br_f h1 hh
  · subst e
    exact br_t h1 (br_t h2 hh)
  · subst e
    exact br_t h1 (br_f h2 hh)
