section
variable {fn fk : Int32} {aA aP aL aT aM a1 a2 : Nat → Int32} {n P : Nat} {A : iv_N}
theorem iv_xnext {post : Int32 → SX → Prop} (hE : iv_XE n A aA aT a1 a2) (hP : P = (iv_ps n).length) {fs : List iv_Fr} {aU aS : Nat → Int32} (hne : fs ≠ []) (hF : iv_FS n aU aS fs) (hM : iv_mu A fs < 1000000)
    (H0 : iv_rem A fs = [] → ∀ fd aU' aS', post 0 (fn, nI P, fk, fd, aA, aP, aL, aT, aM, a1, a2, aU', aS'))
    (H1 : ∀ N tl fs' aU' aS', iv_rem A fs = N :: tl → iv_rem A fs' = tl → fs' ≠ [] → iv_FS n aU' aS' fs' → iv_mu A fs' < iv_mu A fs → (∀ x y, x < 4 → y < 4 → aS' (4 * x + y) = nI (N x y) ∧ N x y < 13) →
      post 1 (fn, nI P, fk, nI (fs'.length - 1), aA, aP, aL, aT, aM, a1, a2, aU', aS')) :
    wpX_nextScenario post (fn, nI P, fk, nI (fs.length - 1), aA, aP, aL, aT, aM, a1, a2, aU, aS) :=
  ⟨iv_mu A fs + 1, iv_xnext_l hE hP (iv_mu A fs) fs aU aS 0 (iv_mu A fs + 1) hne hF (Nat.le_refl _) (by omega) (by omega) H0 H1⟩
theorem iv_ps_hd {n : Nat} (hn : iv_n n) : ∃ tl, iv_ps n = (0, 1) :: tl := by
  rcases hn with h | h | h <;> subst h <;> exact ⟨_, rfl⟩
theorem iv_xstart {post : SX → Prop} {fd : Int32} {aU aS : Nat → Int32} (hE : iv_XE n A aA aT a1 a2) (hS : ∀ x y, x < 4 → y < 4 → iv_off (iv_ps n) x y → aS (4 * x + y) = 6)
    (h : ∀ fs aU', fs ≠ [] → iv_FS n aU' aS fs → iv_rem A fs = iv_nets A (iv_ps n) iv_R0 → iv_mu A fs ≤ 225468 → post (fn, nI P, fk, nI (fs.length - 1), aA, aP, aL, aT, aM, a1, a2, aU', aS)) :
    wpX_startSearch post (fn, nI P, fk, fd, aA, aP, aL, aT, aM, a1, a2, aU, aS) := by
  obtain ⟨hn, hT, hps, hA⟩ := hE
  obtain ⟨tl, ht⟩ := iv_ps_hd hn
  have hl : 0 < (iv_ps n).length := by
    rw [ht, List.length_cons]
    omega
  have h1n : 1 < n := by
    unfold iv_n at hn
    omega
  have q := hps 0 hl
  have hg : (iv_ps n).getD 0 (0, 0) = (0, 1) := by
    rw [ht]
    rfl
  rw [hg] at q
  have hmu := iv_ko_n hn A iv_R0
  unfold wpX_startSearch
  dsimp only
  refine iv_xopen (d := 0) (A := A) (R := iv_R0) (i := 0) (j := 1) (by decide) q.1 q.2 (by decide) (by decide) (hA 0 1 (by decide) h1n).1 hT (fun m hm => absurd hm (Nat.not_lt_zero _)) ?_
  dsimp only
  refine h [((0, 1), tl, iv_R0, iv_opn A iv_R0 0 1)] (upd aU 0 (nI (iv_opn A iv_R0 0 1))) (by simp) ⟨⟨?_, pk_us, iv_om_lt (hA 0 1 (by decide) h1n).2 _, ?_⟩, trivial⟩ ?_ ?_
  · exact ht.symm
  · intro x y hx hy ho
    refine ⟨hS x y hx hy ?_, (by decide : 6 < 13)⟩
    rw [ht]
    exact ho
  · rw [iv_rem, iv_rem, ht, iv_nets_g]
    exact List.append_nil _
  · rw [iv_mu, iv_mu]
    rw [ht, iv_ko] at hmu
    exact hmu
theorem iv_xscen {post : Int32 → SX → Prop} {fd : Int32} {aU aS : Nat → Int32} (hE : iv_XE n A aA aT a1 a2) (hP : P = (iv_ps n).length) (hS : ∀ x y, x < 4 → y < 4 → iv_off (iv_ps n) x y → aS (4 * x + y) = 6)
    (h : ∀ fd aU' aS', post (nI (iv_nets A (iv_ps n) iv_R0).length) (fn, nI P, fk, fd, aA, aP, aL, aT, aM, a1, a2, aU', aS')) :
    wpX_scenarios post (fn, nI P, fk, fd, aA, aP, aL, aT, aM, a1, a2, aU, aS) := by
  have key : ∀ (l : List iv_N) (c : Nat) (fs : List iv_Fr) (aU aS : Nat → Int32), iv_rem A fs = l → fs ≠ [] → iv_FS n aU aS fs → iv_mu A fs + c < 1000000 →
      (∀ fd aU' aS', post (nI (c + l.length)) (fn, nI P, fk, fd, aA, aP, aL, aT, aM, a1, a2, aU', aS')) →
      wX_scenarios_6 post (l.length + 1) (nI c) fn (nI P) fk (nI (fs.length - 1)) aA aP aL aT aM a1 a2 aU aS := by
    intro l
    induction l with
    | nil =>
      intro c fs aU aS hr hne hF hm hp
      refine br_f (nI_ge (b := 1000000) (by omega) (by decide)) (iv_xnext hE hP hne hF (by omega) (fun _ fd aU' aS' => ?_) (fun N tl fs' aU' aS' z1 _ _ _ _ _ => ?_))
      · exact br_t rfl (hp fd aU' aS')
      · rw [hr] at z1
        cases z1
    | cons N0 l ih =>
      intro c fs aU aS hr hne hF hm hp
      refine br_f (nI_ge (b := 1000000) (by omega) (by decide)) (iv_xnext hE hP hne hF (by omega) (fun z => ?_) (fun N tl fs' aU' aS' z1 z2 z3 z4 z5 z6 => ?_))
      · rw [hr] at z
        cases z
      · rw [hr] at z1
        cases z1
        refine br_f (by decide) (nm_r (nI_1 c) (ih (c + 1) fs' aU' aS' z2 z3 z4 (by omega) (fun fd aU' aS' => ?_)))
        have := hp fd aU' aS'
        rw [List.length_cons, show c + (l.length + 1) = c + 1 + l.length by omega] at this
        exact this
  unfold wpX_scenarios
  dsimp only
  refine iv_xstart hE hS (fun fs aU' hne hF hr hm => ⟨_, key _ 0 fs aU' aS hr hne hF (by omega) (fun fd aU' aS' => ?_)⟩)
  rw [Nat.zero_add]
  exact h fd aU' aS'
theorem iv_1or {x a : Nat} (ha : a < 13) : nI x ||| ((1 : Int32) <<< (nI a &&& 31)) = nI (x ||| 1 <<< a) := by
  rw [iv_1shl a ha, iv_or32, Nat.one_shiftLeft]
theorem iv_xfound {post : Int32 → SX → Prop} {fd : Int32} {aU aS : Nat → Int32} (hE : iv_XE n A aA aT a1 a2) (hP : P = (iv_ps n).length) (hS : ∀ x y, x < 4 → y < 4 → iv_off (iv_ps n) x y → aS (4 * x + y) = 6)
    {i j : Nat} (hi : i < 4) (hj : j < 4)
    (h : ∀ fd aU' aS', post (nI (iv_or ((iv_nets A (iv_ps n) iv_R0).map (fun N => N i j)))) (fn, nI P, fk, fd, aA, aP, aL, aT, aM, a1, a2, aU', aS')) :
    wpX_relationsFound post (fn, nI P, fk, fd, aA, aP, aL, aT, aM, a1, a2, aU, aS) (nI i) (nI j) := by
  have key : ∀ (l : List iv_N) (acc : List Nat) (c : Nat) (fs : List iv_Fr) (aU aS : Nat → Int32), iv_rem A fs = l → fs ≠ [] → iv_FS n aU aS fs → iv_mu A fs + c < 1000000 →
      (∀ fd aU' aS', post (nI (iv_or (acc ++ l.map (fun N => N i j)))) (fn, nI P, fk, fd, aA, aP, aL, aT, aM, a1, a2, aU', aS')) →
      wX_relationsFound_9 post (nI i) (nI j) (l.length + 1) (nI (iv_or acc)) (nI c) fn (nI P) fk (nI (fs.length - 1)) aA aP aL aT aM a1 a2 aU aS := by
    intro l
    induction l with
    | nil =>
      intro acc c fs aU aS hr hne hF hm hp
      refine br_f (nI_ge (b := 1000000) (by omega) (by decide)) (iv_xnext hE hP hne hF (by omega) (fun _ fd aU' aS' => ?_) (fun N tl fs' aU' aS' z1 _ _ _ _ _ => ?_))
      · have := hp fd aU' aS'
        rw [List.map_nil, List.append_nil] at this
        exact br_t rfl this
      · rw [hr] at z1
        cases z1
    | cons N0 l ih =>
      intro acc c fs aU aS hr hne hF hm hp
      refine br_f (nI_ge (b := 1000000) (by omega) (by decide)) (iv_xnext hE hP hne hF (by omega) (fun z => ?_) (fun N tl fs' aU' aS' z1 z2 z3 z4 z5 z6 => ?_))
      · rw [hr] at z
        cases z
      · rw [hr] at z1
        cases z1
        have e := z6 i j hi hj
        refine br_f (by decide) ?_
        simp only [wpX_cell, iv_c4]
        refine ⟨iv_cin hi hj, nm_r (e' := nI (iv_or (acc ++ [N0 i j]))) ?_ (nm_r (nI_1 c) (ih (acc ++ [N0 i j]) (c + 1) fs' aU' aS' z2 z3 z4 (by omega) (fun fd aU' aS' => ?_)))⟩
        · rw [iv_ccl hi hj, e.1, iv_1or e.2, iv_or_app]
        · have := hp fd aU' aS'
          rw [List.map_cons] at this
          rw [List.append_assoc]
          exact this
  unfold wpX_relationsFound
  dsimp only
  exact iv_xstart hE hS (fun fs aU' hne hF hr hm => ⟨_, key _ [] 0 fs aU' aS hr hne hF (by omega) h⟩)
theorem iv_xfind {post : Int32 → SX → Prop} {fd : Int32} {aU aS : Nat → Int32} {x : Int32} (hE : iv_XE n A aA aT a1 a2) (hP : P = (iv_ps n).length) (hS : ∀ x y, x < 4 → y < 4 → iv_off (iv_ps n) x y → aS (4 * x + y) = 6)
    (h0 : (∀ k N, x = nI k → (iv_nets A (iv_ps n) iv_R0)[k]? = some N → False) → ∀ fd aU' aS', post 0 (fn, nI P, fk, fd, aA, aP, aL, aT, aM, a1, a2, aU', aS'))
    (h1 : ∀ k N, x = nI k → k < 2 ^ 31 → (iv_nets A (iv_ps n) iv_R0)[k]? = some N → ∀ fd aU' aS', (∀ x y, x < 4 → y < 4 → aS' (4 * x + y) = nI (N x y) ∧ N x y < 13) → post 1 (fn, nI P, fk, fd, aA, aP, aL, aT, aM, a1, a2, aU', aS')) :
    wpX_findScenario post (fn, nI P, fk, fd, aA, aP, aL, aT, aM, a1, a2, aU, aS) x := by
  have hlen : (iv_nets A (iv_ps n) iv_R0).length ≤ 225469 := by
    have h1 := iv_nets_len A (iv_ps n) iv_R0
    have h2 := iv_ko_n hE.1 A iv_R0
    omega
  have some_lt : ∀ k N, (iv_nets A (iv_ps n) iv_R0)[k]? = some N → k < 225469 := by
    intro k N hk
    have := (List.getElem?_eq_some_iff.mp hk).1
    omega
  have key : ∀ (k : Nat) (l : List iv_N) (c : Nat) (fs : List iv_Fr) (aU aS : Nat → Int32), c + k < 1000000 → iv_rem A fs = l → fs ≠ [] → iv_FS n aU aS fs → iv_mu A fs < 1000000 →
      (l[k]? = none → ∀ fd aU' aS', post 0 (fn, nI P, fk, fd, aA, aP, aL, aT, aM, a1, a2, aU', aS')) →
      (∀ N, l[k]? = some N → ∀ fd aU' aS', (∀ x y, x < 4 → y < 4 → aS' (4 * x + y) = nI (N x y) ∧ N x y < 13) → post 1 (fn, nI P, fk, fd, aA, aP, aL, aT, aM, a1, a2, aU', aS')) →
      wX_findScenario_18 post (nI (c + k)) (k + 2) (nI c) fn (nI P) fk (nI (fs.length - 1)) aA aP aL aT aM a1 a2 aU aS := by
    intro k
    induction k with
    | zero =>
      intro l c fs aU aS hc hr hne hF hm g0 g1
      refine br_f (nI_nlt (by omega) (by omega)) (iv_xnext hE hP hne hF hm (fun z fd aU' aS' => ?_) (fun N tl fs' aU' aS' z1 z2 z3 z4 z5 z6 => ?_))
      · refine br_t rfl (g0 ?_ fd aU' aS')
        rw [← hr, z]
        rfl
      · refine br_f (by decide) (nm_r (nI_1 c) ?_)
        refine br_t (nI_lt (by omega) (by omega)) (g1 N ?_ _ _ _ z6)
        rw [← hr, z1]
        rfl
    | succ k ih =>
      intro l c fs aU aS hc hr hne hF hm g0 g1
      refine br_f (nI_nlt (by omega) (by omega)) (iv_xnext hE hP hne hF hm (fun z fd aU' aS' => ?_) (fun N tl fs' aU' aS' z1 z2 z3 z4 z5 z6 => ?_))
      · refine br_t rfl (g0 ?_ fd aU' aS')
        rw [← hr, z]
        rfl
      · refine br_f (by decide) (nm_r (nI_1 c) ?_)
        have := ih tl (c + 1) fs' aU' aS' (by omega) z2 z3 z4 (by omega) (fun z => g0 (by rw [← hr, z1]; exact z)) (fun N z => g1 N (by rw [← hr, z1]; exact z))
        rw [show c + 1 + k = c + (k + 1) by omega] at this
        exact this
  unfold wpX_findScenario
  dsimp only
  refine br_c (fun z => h0 (fun k N e hk => ?_) _ _ _) (fun z => ?_)
  · have := some_lt k N hk
    rw [e] at z
    exact nI_pos (by omega) z
  · obtain ⟨k, hk, e⟩ := nI_of z
    subst e
    refine br_c (fun w => ?_) (fun w => h0 (fun k' N e hk' => ?_) _ _ _)
    · have hk6 : k < 1000000 := by
        by_cases c : k < 1000000
        · exact c
        · exact absurd w (nI_nlt (a := k) (b := 1000000) (by omega) hk)
      refine iv_xstart hE hS (fun fs aU' hne hF hr hm => ⟨k + 2, ?_⟩)
      have := key k _ 0 fs aU' aS (by omega) hr hne hF (by omega) (fun z => h0 (fun k' N e hk' => ?_)) (fun N hN => h1 k N rfl hk hN)
      · rw [Nat.zero_add] at this
        exact this
      · have := some_lt k' N hk'
        rw [← (nI_eq hk (by omega)).mp e] at hk'
        rw [z] at hk'
        cases hk'
    · have h2 := some_lt k' N hk'
      have h3 := (nI_eq hk (by omega)).mp e
      exact w (nI_lt (a := k) (b := 1000000) (by omega) (by decide))
theorem iv_xfew {post : Int32 → SX → Prop} {fd : Int32} {aU aS : Nat → Int32} (hE : iv_XE n A aA aT a1 a2) (hP : P = (iv_ps n).length) (hS : ∀ x y, x < 4 → y < 4 → iv_off (iv_ps n) x y → aS (4 * x + y) = 6)
    (hM : ∀ c, c < 26 → aM c = nI (iv_md c))
    (h0 : iv_nets A (iv_ps n) iv_R0 = [] → ∀ fd aU' aS', post (-2) (nI n, nI P, fk, fd, aA, aP, aL, aT, aM, a1, a2, aU', aS'))
    (h1 : iv_nets A (iv_ps n) iv_R0 ≠ [] → ∀ fd aU' aS', post (nI (iv_min ((iv_nets A (iv_ps n) iv_R0).map (fun N => iv_ct (iv_fN N) (2 * n))))) (nI n, nI P, fk, fd, aA, aP, aL, aT, aM, a1, a2, aU', aS')) :
    wpX_fewest post (nI n, nI P, fk, fd, aA, aP, aL, aT, aM, a1, a2, aU, aS) := by
  have h4 : n ≤ 4 := by
    have := hE.1
    unfold iv_n at this
    omega
  have mlt : ∀ acc : List Nat, acc ≠ [] → (∀ a, a ∈ acc → a ≤ 8) → iv_min acc ≤ 8 := fun acc ha hb => hb _ (iv_min_spec acc ha).1
  have key : ∀ (l : List iv_N) (acc : List Nat) (c : Nat) (fs : List iv_Fr) (aU aS : Nat → Int32), acc ≠ [] → (∀ a, a ∈ acc → a ≤ 8) → iv_rem A fs = l → fs ≠ [] → iv_FS n aU aS fs → iv_mu A fs + c < 1000000 →
      (∀ fd aU' aS', post (nI (iv_min (acc ++ l.map (fun N => iv_ct (iv_fN N) (2 * n))))) (nI n, nI P, fk, fd, aA, aP, aL, aT, aM, a1, a2, aU', aS')) →
      wX_fewest_9 post (l.length + 1) (nI (iv_min acc)) (nI c) (nI n) (nI P) fk (nI (fs.length - 1)) aA aP aL aT aM a1 a2 aU aS := by
    intro l
    induction l with
    | nil =>
      intro acc c fs aU aS ha hb hr hne hF hm hp
      refine br_f (nI_ge (b := 1000000) (by omega) (by decide)) (iv_xnext hE hP hne hF (by omega) (fun _ fd aU' aS' => ?_) (fun N tl fs' aU' aS' z1 _ _ _ _ _ => ?_))
      · have := hp fd aU' aS'
        rw [List.map_nil, List.append_nil] at this
        exact br_t rfl this
      · rw [hr] at z1
        cases z1
    | cons N0 l ih =>
      intro acc c fs aU aS ha hb hr hne hF hm hp
      refine br_f (nI_ge (b := 1000000) (by omega) (by decide)) (iv_xnext hE hP hne hF (by omega) (fun z => ?_) (fun N tl fs' aU' aS' z1 z2 z3 z4 z5 z6 => ?_))
      · rw [hr] at z
        cases z
      · rw [hr] at z1
        cases z1
        refine br_f (by decide) (iv_xcount h4 hM z6 ?_)
        have hc8 : iv_ct (iv_fN N0) (2 * n) ≤ 8 := Nat.le_trans (iv_ct_ub _ _) (by omega)
        have hm8 := mlt acc ha hb
        have hne2 : ¬ nI (iv_min acc) = (-2 : Int32) := by
          intro z
          have := nI_pos (n := iv_min acc) (by omega)
          rw [z] at this
          exact this (by decide)
        have hgo := ih (acc ++ [iv_ct (iv_fN N0) (2 * n)]) (c + 1) fs' aU' aS' (by simp) (fun a h => by
            rcases List.mem_append.mp h with h | h
            · exact hb a h
            · rw [List.mem_singleton.mp h]
              exact hc8) z2 z3 z4 (by omega) (fun fd aU' aS' => by
            have := hp fd aU' aS'
            rw [List.map_cons] at this
            rw [List.append_assoc]
            exact this)
        rw [iv_min_app ha] at hgo
        refine br_f hne2 (pk_le (iv_min acc) (iv_ct (iv_fN N0) (2 * n)) (fun e => ?_) (fun e => ?_) rfl rfl (by omega) (by omega))
        · rw [if_neg (by omega)] at hgo
          exact nm_r (nI_1 c) hgo
        · rw [if_pos e] at hgo
          exact nm_r (nI_1 c) hgo
  unfold wpX_fewest
  dsimp only
  refine iv_xstart hE hS (fun fs aU' hne hF hr hm => ?_)
  cases hnl : iv_nets A (iv_ps n) iv_R0 with
  | nil =>
    refine ⟨1, br_f (by decide) (iv_xnext hE hP hne hF (by omega) (fun _ fd aU' aS' => br_t rfl (h0 hnl fd aU' aS')) (fun N tl fs' aU' aS' z1 _ _ _ _ _ => ?_))⟩
    rw [hr, hnl] at z1
    cases z1
  | cons N0 l =>
    refine ⟨l.length + 2, br_f (by decide) (iv_xnext hE hP hne hF (by omega) (fun z => ?_) (fun N tl fs' aU' aS' z1 z2 z3 z4 z5 z6 => ?_))⟩
    · rw [hr, hnl] at z
      cases z
    · rw [hr, hnl] at z1
      cases z1
      refine br_f (by decide) (iv_xcount h4 hM z6 (br_t rfl (nm_r (nI_1 0) ?_)))
      refine key l [iv_ct (iv_fN N0) (2 * n)] 1 fs' aU' aS' (by simp) (fun a h => ?_) z2 z3 z4 (by omega) (fun fd aU' aS' => ?_)
      · rw [List.mem_singleton.mp h]
        exact Nat.le_trans (iv_ct_ub _ _) (by omega)
      · have := h1 (by rw [hnl]; simp) fd aU' aS'
        rw [hnl, List.map_cons] at this
        exact this
end
