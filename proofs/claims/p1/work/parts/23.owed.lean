def iv_Rel (u : SX) (v : SY) : Prop :=
  ∃ (n : Nat) (aA aP aL aT aU aS : Nat → Int32) (gt gf gl : Int32) (bS bP bA bL bT bN bR bE bZ : Nat → Int32), iv_n n ∧ (∀ c, c < 16 → aA c = nI 8191 ∧ aS c = nI 6) ∧ (∀ c, c < 16 → bS c = nI 8191) ∧ iv_TB aT iv_big ∧
    u = (nI n, nI (iv_ps n).length, 0, 0, aA, aP, aL, aT, (fun c => nI (iv_fm c)), (fun c => nI ((iv_lp n).2.1 c)), (fun c => nI ((iv_lp n).2.2 c)), aU, aS) ∧
    v = (nI n, 0, gt, gf, gl, bS, bP, bA, bL, bT, bN, bR, bE, bZ)
def i_Rel (k : Nat) (u : SX) (v : SY) : Prop := k ≤ 1 → iv_Rel u v
theorem i_up {k : Nat} {u : SX} {v : SY} (h : i_Rel k u v) : i_Rel (k + 4) u v := fun z => absurd z (by omega)
theorem iv_end (k : Nat) (u : SX) (v : SY) : i_Rel (k + 4) u v := fun z => absurd z (by omega)
theorem i_vc0 (k0 : Int32) : wpX_init (fun u => wpY_init (fun v => i_Rel 1 u v) k0) k0 := by
  obtain ⟨n, hn, hc⟩ := iv_cl_ex k0
  refine iv_xinit hn hc (fun aA aT aS hA hT => iv_yinit hc (fun bS hS => ?_))
  exact fun _ => ⟨n, aA, _, _, aT, _, aS, _, _, _, bS, _, _, _, _, _, _, _, _, hn, hA, hS, hT, rfl, rfl⟩
def iv_AA : iv_N := fun _ _ => 8191
theorem iv_hA {n : Nat} {a : Nat → Int32} (hn : iv_n n) (h : ∀ c, c < 16 → a c = nI 8191) : ∀ i j, i < j → j < n → a (4 * i + j) = nI (iv_AA i j) ∧ iv_AA i j < 8192 := by
  intro i j h1 h2
  have h4 : n ≤ 4 := by
    unfold iv_n at hn
    omega
  exact ⟨h _ (by omega), (by decide : 8191 < 8192)⟩
theorem iv_hS {n : Nat} {a : Nat → Int32} (h : ∀ c, c < 16 → a c = nI 6) : ∀ x y, x < 4 → y < 4 → iv_off (iv_ps n) x y → a (4 * x + y) = 6 := fun x y hx hy _ => h _ (by omega)
theorem iv_n4' {n : Nat} (hn : iv_n n) : n ≤ 4 := by
  unfold iv_n at hn
  omega
theorem iv_n31 {n : Nat} (hn : iv_n n) : n < 2 ^ 31 := by
  unfold iv_n at hn
  omega
theorem i_vc_limit {k : Nat} {u : SX} {v : SY} (I : i_Rel k u v) (hk : k + 4 ≤ 5) (v1 : Int32) (v2 : Int32) (v3 : Int32) : wpX_limit (fun r u' => wpY_limit (fun r' v' => r' = r ∧ i_Rel (k + 4) u' v') v v1 v2 v3) u v1 v2 v3 := by
  obtain ⟨n, aA, aP, aL, aT, aU, aS, gt, gf, gl, bS, bP, bA, bL, bT, bN, bR, bE, bZ, hn, hA, hS, hT, rfl, rfl⟩ := I (by omega)
  have h4 := iv_n4' hn
  unfold wpX_limit
  dsimp only
  refine iv_xpr (iv_n31 hn) (fun hp => br_f (by decide) ?_) (fun hp => br_t rfl ?_)
  · refine iv_xS (fun hs => br_f (by decide) ?_) (fun hs => br_t rfl ?_)
    · obtain ⟨i, j, hi, hj, hne, rfl, rfl⟩ := hp
      obtain ⟨U, hU, rfl⟩ := hs
      have hU' : (8191 &&& U) < 8192 := Nat.lt_of_le_of_lt Nat.and_le_right hU
      simp only [wpX_cell, iv_c4]
      refine ⟨iv_cin (by omega) (by omega), nm_r (e' := nI (8191 &&& U)) (by rw [iv_ccl (by omega) (by omega), (hA _ (by omega)).1, nx_and]) (iv_xst (by omega) (by omega) hU' (fun aA' => iv_xsz hU' ?_))⟩
      unfold wpY_limit
      dsimp only
      refine iv_ypr (iv_n31 hn) (fun _ => br_f (by decide) ?_) (fun hp => absurd ⟨i, j, hi, hj, hne, rfl, rfl⟩ hp)
      refine iv_yS (fun _ => br_f (by decide) ?_) (fun hs => absurd ⟨U, hU, rfl⟩ hs)
      rw [iv_4c]
      exact ⟨iv_cin (by omega) (by omega), nm_r (e' := nI (8191 &&& U)) (by rw [iv_ccl (by omega) (by omega), hS _ (by omega), nx_and]) (iv_yst (by omega) (by omega) hU' (fun bS' => iv_ysz hU' ⟨rfl, iv_end _ _ _⟩))⟩
    · unfold wpY_limit
      dsimp only
      refine iv_ypr (iv_n31 hn) (fun _ => br_f (by decide) ?_) (fun hp' => absurd hp hp')
      exact iv_yS (fun hs' => absurd hs' hs) (fun _ => br_t rfl ⟨rfl, iv_end _ _ _⟩)
  · unfold wpY_limit
    dsimp only
    exact iv_ypr (iv_n31 hn) (fun hp' => absurd hp' hp) (fun _ => br_t rfl ⟨rfl, iv_end _ _ _⟩)
theorem i_vc_free {k : Nat} {u : SX} {v : SY} (I : i_Rel k u v) (hk : k + 4 ≤ 5) (v1 : Int32) (v2 : Int32) : wpX_free (fun r u' => wpY_free (fun r' v' => r' = r ∧ i_Rel (k + 4) u' v') v v1 v2) u v1 v2 := by
  obtain ⟨n, aA, aP, aL, aT, aU, aS, gt, gf, gl, bS, bP, bA, bL, bT, bN, bR, bE, bZ, hn, hA, hS, hT, rfl, rfl⟩ := I (by omega)
  have h4 := iv_n4' hn
  unfold wpX_free
  dsimp only
  refine iv_xpr (iv_n31 hn) (fun hp => br_f (by decide) ?_) (fun hp => br_t rfl ?_)
  · obtain ⟨i, j, hi, hj, hne, rfl, rfl⟩ := hp
    simp only [wpX_cell, iv_c4]
    refine ⟨iv_cin (by omega) (by omega), nm_r (e' := nI 8191) (by rw [iv_ccl (by omega) (by omega)]; exact (hA _ (by omega)).1) (iv_xst (U := 8191) (by omega) (by omega) (by decide) (fun aA' => iv_xsz (by decide) ?_))⟩
    unfold wpY_free
    dsimp only
    refine iv_ypr (iv_n31 hn) (fun _ => br_f (by decide) ?_) (fun hp => absurd ⟨i, j, hi, hj, hne, rfl, rfl⟩ hp)
    rw [iv_4c]
    exact ⟨iv_cin (by omega) (by omega), nm_r (e' := nI 8191) (by rw [iv_ccl (by omega) (by omega)]; exact hS _ (by omega)) (iv_yst (U := 8191) (by omega) (by omega) (by decide) (fun bS' => iv_ysz (by decide) ⟨rfl, iv_end _ _ _⟩))⟩
  · unfold wpY_free
    dsimp only
    exact iv_ypr (iv_n31 hn) (fun hp' => absurd hp' hp) (fun _ => br_t rfl ⟨rfl, iv_end _ _ _⟩)
theorem iv_0c (c : Nat) : (0 : Int32) * 16 + nI c = nI c := by
  rw [Int32.zero_mul, Int32.zero_add]
theorem iv_c0' (c : Nat) : (16 : Int32) * 0 + nI c = nI c := by
  rw [Int32.mul_zero, Int32.zero_add]
theorem i_vc_push {k : Nat} {u : SX} {v : SY} (I : i_Rel k u v) (hk : k + 4 ≤ 5) : wpX_push (fun r u' => wpY_push (fun r' v' => r' = r ∧ i_Rel (k + 4) u' v') v) u := by
  obtain ⟨n, aA, aP, aL, aT, aU, aS, gt, gf, gl, bS, bP, bA, bL, bT, bN, bR, bE, bZ, hn, hA, hS, hT, rfl, rfl⟩ := I (by omega)
  have yl : ∀ (post : Int32 → SY → Prop), (∀ bP', post 1 (nI n, 1, gt, gf, gl, bS, bP', bA, bL, bT, bN, bR, bE, bZ)) → ∀ e c bP, c + e = 16 → wY_push_13 post (nI n) 0 gt gf gl (e + 1) (nI c) bS bP bA bL bT bN bR bE bZ := by
    intro post hp e
    induction e with
    | zero =>
      intro c bP hc
      have e : c = 16 := by omega
      subst e
      exact br_t (nI_le (a := 16) (b := 16) (by decide) (by decide)) (nm_r (nI_1 0) (hp bP))
    | succ e ih =>
      intro c bP hc
      refine br_f (nI_ge (b := 16) (by omega) (by decide)) ?_
      rw [iv_c0']
      exact ⟨vp_in_nI (by omega) (by decide), vp_in_nI (by omega) (by decide), nm_e (nm_r (nI_1 c) (ih (c + 1) _ (by omega)))⟩
  have xl : ∀ (post : Int32 → SX → Prop) (fp fd : Int32) (aM a1 a2 : Nat → Int32), (∀ aP', post 1 (nI n, fp, 1, fd, aA, aP', aL, aT, aM, a1, a2, aU, aS)) → ∀ e c aP, c + e = 16 → wX_push_13 post (nI n) fp 0 fd (e + 1) (nI c) aA aP aL aT aM a1 a2 aU aS := by
    intro post fp fd aM a1 a2 hp e
    induction e with
    | zero =>
      intro c aP hc
      have e : c = 16 := by omega
      subst e
      exact br_t (nI_le (a := 16) (b := 16) (by decide) (by decide)) (nm_r (nI_1 0) (hp aP))
    | succ e ih =>
      intro c aP hc
      refine br_f (nI_ge (b := 16) (by omega) (by decide)) ?_
      rw [iv_0c]
      exact ⟨vp_in_nI (by omega) (by decide), vp_in_nI (by omega) (by decide), nm_e (nm_r (nI_1 c) (ih (c + 1) _ (by omega)))⟩
  refine br_t (by decide) ⟨17, xl _ _ _ _ _ _ (fun aP' => ?_) 16 0 aP (by decide)⟩
  exact br_f (by decide) ⟨17, yl _ (fun bP' => ⟨rfl, iv_end _ _ _⟩) 16 0 bP (by decide)⟩
theorem i_vc_pop {k : Nat} {u : SX} {v : SY} (I : i_Rel k u v) (hk : k + 4 ≤ 5) : wpX_pop (fun r u' => wpY_pop (fun r' v' => r' = r ∧ i_Rel (k + 4) u' v') v) u := by
  obtain ⟨n, aA, aP, aL, aT, aU, aS, gt, gf, gl, bS, bP, bA, bL, bT, bN, bR, bE, bZ, hn, hA, hS, hT, rfl, rfl⟩ := I (by omega)
  exact br_f (by decide) (br_t rfl ⟨rfl, iv_end _ _ _⟩)
theorem i_vc_stated {k : Nat} {u : SX} {v : SY} (I : i_Rel k u v) (hk : k + 4 ≤ 5) (v1 : Int32) (v2 : Int32) : wpX_stated (fun r => wpY_stated (fun r' => r' = r ∧ i_Rel (k + 4) u v) v v1 v2) u v1 v2 := by
  obtain ⟨n, aA, aP, aL, aT, aU, aS, gt, gf, gl, bS, bP, bA, bL, bT, bN, bR, bE, bZ, hn, hA, hS, hT, rfl, rfl⟩ := I (by omega)
  have h4 := iv_n4' hn
  unfold wpX_stated
  dsimp only
  refine iv_xpr (iv_n31 hn) (fun hp => br_f (by decide) ?_) (fun hp => br_t rfl ?_)
  · obtain ⟨i, j, hi, hj, hne, rfl, rfl⟩ := hp
    simp only [wpX_cell, iv_c4]
    refine ⟨iv_cin (by omega) (by omega), ?_⟩
    unfold wpY_stated
    dsimp only
    refine iv_ypr (iv_n31 hn) (fun _ => br_f (by decide) ?_) (fun hp => absurd ⟨i, j, hi, hj, hne, rfl, rfl⟩ hp)
    rw [iv_4c, iv_ccl (by omega) (by omega), hS _ (by omega), (hA _ (by omega)).1]
    exact ⟨iv_cin (by omega) (by omega), rfl, iv_end _ _ _⟩
  · unfold wpY_stated
    dsimp only
    exact iv_ypr (iv_n31 hn) (fun hp' => absurd hp' hp) (fun _ => br_t rfl ⟨rfl, iv_end _ _ _⟩)
theorem i_vc_scenarios {k : Nat} {u : SX} {v : SY} (I : i_Rel k u v) (hk : k + 4 ≤ 5) : wpX_scenarios (fun r u' => wpY_scenarios (fun r' v' => r' = r ∧ i_Rel (k + 4) u' v') v) u := by
  obtain ⟨n, aA, aP, aL, aT, aU, aS, gt, gf, gl, bS, bP, bA, bL, bT, bN, bR, bE, bZ, hn, hA, hS, hT, rfl, rfl⟩ := I (by omega)
  refine iv_xscen (iv_xe0 hn hT (iv_hA hn (fun c hc => (hA c hc).1))) rfl (iv_hS (fun c hc => (hA c hc).2)) (fun fd aU' aS' => ?_)
  unfold wpY_scenarios
  dsimp only
  refine iv_yall hn (iv_hA hn hS) (fun gt gf gl bA bT bN bR bE bZ _ ha => ⟨?_, iv_end _ _ _⟩)
  rw [ha.1, iv_len hn]
theorem i_vc_possible {k : Nat} {u : SX} {v : SY} (I : i_Rel k u v) (hk : k + 4 ≤ 5) (v1 : Int32) (v2 : Int32) : wpX_possible (fun r u' => wpY_possible (fun r' v' => r' = r ∧ i_Rel (k + 4) u' v') v v1 v2) u v1 v2 := by
  obtain ⟨n, aA, aP, aL, aT, aU, aS, gt, gf, gl, bS, bP, bA, bL, bT, bN, bR, bE, bZ, hn, hA, hS, hT, rfl, rfl⟩ := I (by omega)
  have h4 := iv_n4' hn
  unfold wpX_possible
  dsimp only
  refine iv_xpr (iv_n31 hn) (fun hp => br_f (by decide) ?_) (fun hp => br_t rfl ?_)
  · obtain ⟨i, j, hi, hj, hne, rfl, rfl⟩ := hp
    refine iv_xfound (iv_xe0 hn hT (iv_hA hn (fun c hc => (hA c hc).1))) rfl (iv_hS (fun c hc => (hA c hc).2)) (by omega) (by omega) (fun fd aU' aS' => ?_)
    unfold wpY_possible
    dsimp only
    refine iv_ypr (iv_n31 hn) (fun _ => br_f (by decide) ?_) (fun hp => absurd ⟨i, j, hi, hj, hne, rfl, rfl⟩ hp)
    refine iv_yall hn (iv_hA hn hS) (fun gt gf gl bA bT bN bR bE bZ _ ha => ?_)
    dsimp only
    rw [iv_4c, iv_ccl (by omega) (by omega), ha.2.1 i j hi hj hne]
    exact ⟨iv_cin (by omega) (by omega), by rw [iv_pos hn hi hj], iv_end _ _ _⟩
  · unfold wpY_possible
    dsimp only
    exact iv_ypr (iv_n31 hn) (fun hp' => absurd hp' hp) (fun _ => br_t rfl ⟨rfl, iv_end _ _ _⟩)
theorem i_vc_follows {k : Nat} {u : SX} {v : SY} (I : i_Rel k u v) (hk : k + 4 ≤ 5) (v1 : Int32) (v2 : Int32) (v3 : Int32) : wpX_follows (fun r u' => wpY_follows (fun r' v' => r' = r ∧ i_Rel (k + 4) u' v') v v1 v2 v3) u v1 v2 v3 := by
  obtain ⟨n, aA, aP, aL, aT, aU, aS, gt, gf, gl, bS, bP, bA, bL, bT, bN, bR, bE, bZ, hn, hA, hS, hT, rfl, rfl⟩ := I (by omega)
  have h4 := iv_n4' hn
  unfold wpX_follows
  dsimp only
  refine iv_xpr (iv_n31 hn) (fun hp => br_f (by decide) ?_) (fun hp => br_t rfl ?_)
  · refine iv_xS (fun hs => br_f (by decide) ?_) (fun hs => br_t rfl ?_)
    · obtain ⟨i, j, hi, hj, hne, rfl, rfl⟩ := hp
      refine iv_xfound (iv_xe0 hn hT (iv_hA hn (fun c hc => (hA c hc).1))) rfl (iv_hS (fun c hc => (hA c hc).2)) (by omega) (by omega) (fun fd aU' aS' => nm_e ?_)
      have yy : ∀ (post : Int32 → SY → Prop), ((nI (iv_or ((iv_nets iv_AA (iv_ps n) iv_R0).map (fun N => N i j))) &&& (v3 ^^^ (-1)) = 0 → ∀ w, post 1 w) ∧ (¬ nI (iv_or ((iv_nets iv_AA (iv_ps n) iv_R0).map (fun N => N i j))) &&& (v3 ^^^ (-1)) = 0 → ∀ w, post 0 w)) →
          wpY_follows post (nI n, 0, gt, gf, gl, bS, bP, bA, bL, bT, bN, bR, bE, bZ) (nI i) (nI j) v3 := by
        intro post hpost
        unfold wpY_follows
        dsimp only
        refine iv_ypr (iv_n31 hn) (fun _ => br_f (by decide) ?_) (fun hp => absurd ⟨i, j, hi, hj, hne, rfl, rfl⟩ hp)
        refine iv_yS (fun _ => br_f (by decide) ?_) (fun hs' => absurd hs hs')
        refine iv_yall hn (iv_hA hn hS) (fun gt gf gl bA bT bN bR bE bZ _ ha => ?_)
        dsimp only
        rw [iv_4c, iv_ccl (by omega) (by omega), ha.2.1 i j hi hj hne, ← iv_pos hn hi hj]
        exact ⟨iv_cin (by omega) (by omega), fun z => hpost.1 z _, fun z => hpost.2 z _⟩
      exact br_c (fun z => yy _ ⟨fun _ _ => ⟨rfl, iv_end _ _ _⟩, fun z' => absurd z z'⟩) (fun z => yy _ ⟨fun z' => absurd z' z, fun _ _ => ⟨rfl, iv_end _ _ _⟩⟩)
    · unfold wpY_follows
      dsimp only
      refine iv_ypr (iv_n31 hn) (fun _ => br_f (by decide) ?_) (fun hp' => absurd hp hp')
      exact iv_yS (fun hs' => absurd hs' hs) (fun _ => br_t rfl ⟨rfl, iv_end _ _ _⟩)
  · unfold wpY_follows
    dsimp only
    exact iv_ypr (iv_n31 hn) (fun hp' => absurd hp' hp) (fun _ => br_t rfl ⟨rfl, iv_end _ _ _⟩)
theorem iv_fm_h : ∀ c, c < 26 → (fun c => nI (iv_fm c)) c = nI (iv_md c) := fun c hc => by
  show nI (iv_fm c) = _
  rw [iv_fm_v c hc]
theorem iv_u {n : Nat} {x : Int32} {k k' : Nat} {N N' : iv_N} {l : List iv_N} (hl : l.length < 2 ^ 31) (e : x = nI k) (h : l[k]? = some N) (e' : x = nI k') (h' : l[k']? = some N') : N' = N := by
  have h1 := (List.getElem?_eq_some_iff.mp h).1
  have h2 := (List.getElem?_eq_some_iff.mp h').1
  have h3 := (nI_eq (by omega) (by omega)).mp (e.symm.trans e')
  rw [h3, h'] at h
  exact Option.some.inj h
theorem iv_nlen {n : Nat} (hn : iv_n n) (A : iv_N) : (iv_nets A (iv_ps n) iv_R0).length < 2 ^ 31 := by
  have h1 := iv_nets_len A (iv_ps n) iv_R0
  have h2 := iv_ko_n hn A iv_R0
  omega
theorem i_vc_relation {k : Nat} {u : SX} {v : SY} (I : i_Rel k u v) (hk : k + 4 ≤ 5) (v1 : Int32) (v2 : Int32) (v3 : Int32) : wpX_relation (fun r u' => wpY_relation (fun r' v' => r' = r ∧ i_Rel (k + 4) u' v') v v1 v2 v3) u v1 v2 v3 := by
  obtain ⟨n, aA, aP, aL, aT, aU, aS, gt, gf, gl, bS, bP, bA, bL, bT, bN, bR, bE, bZ, hn, hA, hS, hT, rfl, rfl⟩ := I (by omega)
  have h4 := iv_n4' hn
  unfold wpX_relation
  dsimp only
  refine iv_xpr (iv_n31 hn) (fun hp => br_f (by decide) ?_) (fun hp => br_t rfl ?_)
  · obtain ⟨i, j, hi, hj, hne, rfl, rfl⟩ := hp
    refine iv_xfind (iv_xe0 hn hT (iv_hA hn (fun c hc => (hA c hc).1))) rfl (iv_hS (fun c hc => (hA c hc).2)) (fun hno fd aU' aS' => br_t rfl ?_) (fun q N e _ hN fd aU' aS' hs => br_f (by decide) ?_)
    · unfold wpY_relation
      dsimp only
      refine iv_ypr (iv_n31 hn) (fun _ => br_f (by decide) ?_) (fun hp => absurd ⟨i, j, hi, hj, hne, rfl, rfl⟩ hp)
      exact iv_yfind hn (iv_hA hn hS) (fun _ gt gf gl bA bT bN bR bE bZ => br_t rfl ⟨rfl, iv_end _ _ _⟩) (fun q N e hN => absurd hN (fun z => hno q N e z))
    · simp only [wpX_cell, iv_c4]
      refine ⟨iv_cin (by omega) (by omega), ?_⟩
      rw [iv_ccl (by omega) (by omega), (hs i j (by omega) (by omega)).1]
      unfold wpY_relation
      dsimp only
      refine iv_ypr (iv_n31 hn) (fun _ => br_f (by decide) ?_) (fun hp => absurd ⟨i, j, hi, hj, hne, rfl, rfl⟩ hp)
      refine iv_yfind hn (iv_hA hn hS) (fun hno => absurd hN (fun z => hno q N e z)) (fun q' N' e' hN' L m gt gf bA bT bN bR bE bZ hC hR hZ => br_f (by decide) ?_)
      have eN := iv_u (n := n) (iv_nlen hn _) e hN e' hN'
      subst eN
      have hm := iv_can_m hC
      have l1 := hC.2.1 (2 * i) (by omega)
      have l2 := hC.2.1 (2 * i + 1) (by omega)
      have l3 := hC.2.1 (2 * j) (by omega)
      have l4 := hC.2.1 (2 * j + 1) (by omega)
      have e2 : (2 : Int32) * nI i + 1 = nI (2 * i + 1) := iv_2r i 1
      have e3 : (2 : Int32) * nI j + 1 = nI (2 * j + 1) := iv_2r j 1
      dsimp only
      rw [e2, e3, iv_2n, iv_2n, nI_clamp (n := 2 * i) (by omega), nI_clamp (n := 2 * i + 1) (by omega), nI_clamp (n := 2 * j) (by omega), nI_clamp (n := 2 * j + 1) (by omega), hZ (2 * i) (by omega), hZ (2 * i + 1) (by omega), hZ (2 * j) (by omega), hZ (2 * j + 1) (by omega)]
      refine ⟨vp_in_nI (by omega) (by decide), vp_in_nI (by omega) (by decide), vp_in_nI (by omega) (by decide), vp_in_nI (by omega) (by decide), iv_yrel (by omega) (by omega) (by omega) (by omega) ⟨?_, iv_end _ _ _⟩⟩
      rw [← hR i j hi hj]
      rfl
  · unfold wpY_relation
    dsimp only
    exact iv_ypr (iv_n31 hn) (fun hp' => absurd hp' hp) (fun _ => br_t rfl ⟨rfl, iv_end _ _ _⟩)
theorem i_vc_points {k : Nat} {u : SX} {v : SY} (I : i_Rel k u v) (hk : k + 4 ≤ 5) (v1 : Int32) : wpX_points (fun r u' => wpY_points (fun r' v' => r' = r ∧ i_Rel (k + 4) u' v') v v1) u v1 := by
  obtain ⟨n, aA, aP, aL, aT, aU, aS, gt, gf, gl, bS, bP, bA, bL, bT, bN, bR, bE, bZ, hn, hA, hS, hT, rfl, rfl⟩ := I (by omega)
  have h4 := iv_n4' hn
  unfold wpX_points
  dsimp only
  refine iv_xfind (iv_xe0 hn hT (iv_hA hn (fun c hc => (hA c hc).1))) rfl (iv_hS (fun c hc => (hA c hc).2)) (fun hno fd aU' aS' => br_t rfl ?_) (fun q N e _ hN fd aU' aS' hs => br_f (by decide) (iv_xcount h4 iv_fm_h hs ?_))
  · unfold wpY_points
    dsimp only
    exact iv_yfind hn (iv_hA hn hS) (fun _ gt gf gl bA bT bN bR bE bZ => br_t rfl ⟨rfl, iv_end _ _ _⟩) (fun q N e hN => absurd hN (fun z => hno q N e z))
  · unfold wpY_points
    dsimp only
    refine iv_yfind hn (iv_hA hn hS) (fun hno => absurd hN (fun z => hno q N e z)) (fun q' N' e' hN' L m gt gf bA bT bN bR bE bZ hC hR hZ => br_f (by decide) ⟨?_, iv_end _ _ _⟩)
    have eN := iv_u (n := n) (iv_nlen hn _) e hN e' hN'
    subst eN
    rw [iv_pts hC hR]
theorem i_vc_place {k : Nat} {u : SX} {v : SY} (I : i_Rel k u v) (hk : k + 4 ≤ 5) (v1 : Int32) (v2 : Int32) : wpX_place (fun r u' => wpY_place (fun r' v' => r' = r ∧ i_Rel (k + 4) u' v') v v1 v2) u v1 v2 := by
  obtain ⟨n, aA, aP, aL, aT, aU, aS, gt, gf, gl, bS, bP, bA, bL, bT, bN, bR, bE, bZ, hn, hA, hS, hT, rfl, rfl⟩ := I (by omega)
  have h4 := iv_n4' hn
  unfold wpX_place
  dsimp only
  refine iv_xI (iv_n31 hn) (fun hp => br_f (by decide) ?_) (fun hp => br_t rfl ?_)
  · obtain ⟨i, hi, rfl⟩ := hp
    refine iv_xfind (iv_xe0 hn hT (iv_hA hn (fun c hc => (hA c hc).1))) rfl (iv_hS (fun c hc => (hA c hc).2)) (fun hno fd aU' aS' => br_t rfl ?_) (fun q N e _ hN fd aU' aS' hs => br_f (by decide) ?_)
    · unfold wpY_place
      dsimp only
      refine br_f (nI_pos (by omega)) (br_t (nI_lt hi (by omega)) ?_)
      exact iv_yfind hn (iv_hA hn hS) (fun _ gt gf gl bA bT bN bR bE bZ => br_t rfl ⟨rfl, iv_end _ _ _⟩) (fun q N e hN => absurd hN (fun z => hno q N e z))
    · have e2 : (2 : Int32) * nI i + 1 = nI (2 * i + 1) := iv_2r i 1
      rw [e2, iv_2n]
      refine iv_xnum h4 iv_fm_h hs (by omega) (iv_xnum h4 iv_fm_h hs (by omega) ?_)
      unfold wpY_place
      dsimp only
      rw [e2, iv_2n]
      refine br_f (nI_pos (by omega)) (br_t (nI_lt hi (by omega)) ?_)
      refine iv_yfind hn (iv_hA hn hS) (fun hno => absurd hN (fun z => hno q N e z)) (fun q' N' e' hN' L m gt gf bA bT bN bR bE bZ hC hR hZ => br_f (by decide) ?_)
      have eN := iv_u (n := n) (iv_nlen hn _) e hN e' hN'
      subst eN
      dsimp only
      rw [nI_clamp (n := 2 * i) (by omega), nI_clamp (n := 2 * i + 1) (by omega), hZ (2 * i) (by omega), hZ (2 * i + 1) (by omega), iv_plc hC hR (p := 2 * i) (by omega), iv_plc hC hR (p := 2 * i + 1) (by omega)]
      exact ⟨vp_in_nI (by omega) (by decide), vp_in_nI (by omega) (by decide), rfl, iv_end _ _ _⟩
  · unfold wpY_place
    dsimp only
    refine br_c (fun _ => ⟨rfl, iv_end _ _ _⟩) (fun z => br_f (fun w => ?_) ⟨rfl, iv_end _ _ _⟩)
    refine hp (iv_I_of (iv_n31 hn) z (fun w' => ?_))
    exact Int32.lt_irrefl (Int32.lt_of_lt_of_le w w')
theorem i_vc_crowd {k : Nat} {u : SX} {v : SY} (I : i_Rel k u v) (hk : k + 4 ≤ 5) (v1 : Int32) : wpX_crowd (fun r u' => wpY_crowd (fun r' v' => r' = r ∧ i_Rel (k + 4) u' v') v v1) u v1 := by
  obtain ⟨n, aA, aP, aL, aT, aU, aS, gt, gf, gl, bS, bP, bA, bL, bT, bN, bR, bE, bZ, hn, hA, hS, hT, rfl, rfl⟩ := I (by omega)
  have h4 := iv_n4' hn
  unfold wpX_crowd
  dsimp only
  refine iv_xfind (iv_xe0 hn hT (iv_hA hn (fun c hc => (hA c hc).1))) rfl (iv_hS (fun c hc => (hA c hc).2)) (fun hno fd aU' aS' => br_t rfl ?_) (fun q N e _ hN fd aU' aS' hs => br_f (by decide) (iv_xcrowd h4 iv_fm_h hs ?_))
  · unfold wpY_crowd
    dsimp only
    exact iv_yfind hn (iv_hA hn hS) (fun _ gt gf gl bA bT bN bR bE bZ => br_t rfl ⟨rfl, iv_end _ _ _⟩) (fun q N e hN => absurd hN (fun z => hno q N e z))
  · unfold wpY_crowd
    dsimp only
    refine iv_yfind hn (iv_hA hn hS) (fun hno => absurd hN (fun z => hno q N e z)) (fun q' N' e' hN' L m gt gf bA bT bN bR bE bZ hC hR hZ => br_f (by decide) (iv_ycrowd h4 (fun c hc => ?_) hZ ⟨?_, iv_end _ _ _⟩))
    · have h1 := hC.2.1 c hc
      have h2 := iv_can_m hC
      omega
    · have eN := iv_u (n := n) (iv_nlen hn _) e hN e' hN'
      subst eN
      rw [iv_crd h4 hC hR]
theorem i_vc_fewest {k : Nat} {u : SX} {v : SY} (I : i_Rel k u v) (hk : k + 4 ≤ 5) : wpX_fewest (fun r u' => wpY_fewest (fun r' v' => r' = r ∧ i_Rel (k + 4) u' v') v) u := by
  obtain ⟨n, aA, aP, aL, aT, aU, aS, gt, gf, gl, bS, bP, bA, bL, bT, bN, bR, bE, bZ, hn, hA, hS, hT, rfl, rfl⟩ := I (by omega)
  refine iv_xfew (iv_xe0 hn hT (iv_hA hn (fun c hc => (hA c hc).1))) rfl (iv_hS (fun c hc => (hA c hc).2)) iv_fm_h (fun hz fd aU' aS' => ?_) (fun hz fd aU' aS' => ?_)
  · unfold wpY_fewest
    dsimp only
    refine iv_yall hn (iv_hA hn hS) (fun gt gf gl bA bT bN bR bE bZ _ ha => ⟨?_, iv_end _ _ _⟩)
    refine ha.2.2.1 (List.length_eq_zero_iff.mp ?_)
    rw [iv_len hn, hz]
    rfl
  · unfold wpY_fewest
    dsimp only
    refine iv_yall hn (iv_hA hn hS) (fun gt gf gl bA bT bN bR bE bZ _ ha => ⟨?_, iv_end _ _ _⟩)
    have hf := iv_few hn hz
    rw [ha.2.2.2.1 hf.1, hf.2]
theorem i_vc_compose {k : Nat} {u : SX} {v : SY} (I : i_Rel k u v) (hk : k + 4 ≤ 5) (v1 : Int32) (v2 : Int32) : wpX_compose (fun r => wpY_compose (fun r' v' => r' = r ∧ i_Rel (k + 4) u v') v v1 v2) u v1 v2 := by
  obtain ⟨n, aA, aP, aL, aT, aU, aS, gt, gf, gl, bS, bP, bA, bL, bT, bN, bR, bE, bZ, hn, hA, hS, hT, rfl, rfl⟩ := I (by omega)
  unfold wpX_compose
  dsimp only
  refine iv_xS (fun h1 => br_f (by decide) (iv_xS (fun h2 => br_f (by decide) ?_) (fun h2 => br_t rfl ?_))) (fun h1 => br_t rfl ?_)
  · obtain ⟨a, ha, rfl⟩ := h1
    obtain ⟨b, hb, rfl⟩ := h2
    refine iv_xco hT ha hb ?_
    unfold wpY_compose
    dsimp only
    refine iv_yS (fun _ => br_f (by decide) (iv_yS (fun _ => br_f (by decide) ?_) (fun h2 => absurd ⟨b, hb, rfl⟩ h2))) (fun h1 => absurd ⟨a, ha, rfl⟩ h1)
    exact iv_ycom ha hb (fun gt gf gl bA bT bN bR bE bZ => ⟨rfl, iv_end _ _ _⟩)
  · unfold wpY_compose
    dsimp only
    exact iv_yS (fun _ => br_f (by decide) (iv_yS (fun h2' => absurd h2' h2) (fun _ => br_t rfl ⟨rfl, iv_end _ _ _⟩))) (fun h1' => absurd h1 h1')
  · unfold wpY_compose
    dsimp only
    exact iv_yS (fun h1' => absurd h1' h1) (fun _ => br_t rfl ⟨rfl, iv_end _ _ _⟩)
theorem i_vc_closed {k : Nat} {u : SX} {v : SY} (I : i_Rel k u v) (hk : k + 4 ≤ 5) (v1 : Int32) (v2 : Int32) : wpX_closed (fun r u' => wpY_closed (fun r' v' => r' = r ∧ i_Rel (k + 4) u' v') v v1 v2) u v1 v2 := by
  obtain ⟨n, aA, aP, aL, aT, aU, aS, gt, gf, gl, bS, bP, bA, bL, bT, bN, bR, bE, bZ, hn, hA, hS, hT, rfl, rfl⟩ := I (by omega)
  have h4 := iv_n4' hn
  unfold wpX_closed
  dsimp only
  refine iv_xpr (iv_n31 hn) (fun hp => br_f (by decide) ?_) (fun hp => br_t rfl ?_)
  · obtain ⟨i, j, hi, hj, hne, rfl, rfl⟩ := hp
    refine iv_xclosed h4 (by omega) (by omega) hT (fun c hc => (hA c hc).1) (fun aL' => ?_)
    unfold wpY_closed
    dsimp only
    refine iv_ypr (iv_n31 hn) (fun _ => br_f (by decide) ?_) (fun hp => absurd ⟨i, j, hi, hj, hne, rfl, rfl⟩ hp)
    exact iv_ycl h4 (by omega) (by omega) hS (fun gt gf gl bA bL bT bN bR bE bZ => ⟨rfl, iv_end _ _ _⟩)
  · unfold wpY_closed
    dsimp only
    exact iv_ypr (iv_n31 hn) (fun hp' => absurd hp' hp) (fun _ => br_t rfl ⟨rfl, iv_end _ _ _⟩)
