section
variable {fn fk : Int32} {aA aP aL aT aM a1 a2 : Nat → Int32}
theorem iv_xnext_l {post : Int32 → SX → Prop} {n P : Nat} {A : iv_N} (hE : iv_XE n A aA aT a1 a2) (hP : P = (iv_ps n).length) :
    ∀ (M : Nat) (fs : List iv_Fr) (aU aS : Nat → Int32) (step fuel : Nat), fs ≠ [] → iv_FS n aU aS fs → iv_mu A fs ≤ M → M < fuel → step + M < 1000000 →
    (iv_rem A fs = [] → ∀ fd aU' aS', post 0 (fn, nI P, fk, fd, aA, aP, aL, aT, aM, a1, a2, aU', aS')) →
    (∀ N tl fs' aU' aS', iv_rem A fs = N :: tl → iv_rem A fs' = tl → fs' ≠ [] → iv_FS n aU' aS' fs' → iv_mu A fs' < iv_mu A fs → (∀ x y, x < 4 → y < 4 → aS' (4 * x + y) = nI (N x y) ∧ N x y < 13) →
      post 1 (fn, nI P, fk, nI (fs'.length - 1), aA, aP, aL, aT, aM, a1, a2, aU', aS')) →
    wX_nextScenario_2 post fuel (nI step) fn (nI P) fk (nI (fs.length - 1)) aA aP aL aT aM a1 a2 aU aS := by
  intro M
  induction M with
  | zero =>
    intro fs aU aS step fuel hne hF hM
    cases fs with
    | nil => exact absurd rfl hne
    | cons f fs =>
      rw [iv_mu] at hM
      omega
  | succ M ih =>
    intro fs aU aS step fuel hne hF hM hfu hst H0 H1
    cases fuel with
    | zero => omega
    | succ fuel =>
    cases fs with
    | nil => exact absurd rfl hne
    | cons f fs =>
    obtain ⟨p, tl, R, U⟩ := f
    obtain ⟨⟨hdr, hau, hU, hS⟩, hFs⟩ := hF
    have hdr : p :: tl = (iv_ps n).drop fs.length := hdr
    have hau : aU fs.length = nI U := hau
    have hU : U < 8192 := hU
    have hS : ∀ x y, x < 4 → y < 4 → iv_off (p :: tl) x y → (aS (4 * x + y) = nI (R x y) ∧ R x y < 13) := hS
    obtain ⟨hn, hT, hps, hA⟩ := hE
    have h4 : n ≤ 4 := by
      unfold iv_n at hn
      omega
    obtain ⟨hdl, hdp, hdt⟩ := iv_drop_p (z := (0, 0)) hdr
    have hl6 := iv_ps_len hn
    have hpi := iv_p_in hn hdr
    have ho : iv_ord (p :: tl) := by
      rw [hdr]
      exact iv_drop_ord hn
    have q1 := (hps _ hdl).1
    have q2 := (hps _ hdl).2
    rw [hdp] at q1 q2
    have ed : (nI fs.length).toNatClampNeg = fs.length := nI_clamp (by omega)
    rw [List.length_cons, Nat.add_sub_cancel]
    refine br_f (nI_ge (b := 1000000) (by omega) (by decide)) ⟨vp_in_nI (by omega) (by decide), ?_⟩
    rw [ed, hau]
    by_cases hz : U = 0
    · subst hz
      refine br_t rfl (pk_eq fs.length 0 (fun e => ?_) (fun e => ?_) rfl rfl (by omega) (by decide))
      · refine H0 ?_ _ _ _
        rw [iv_rem_0]
        cases fs with
        | nil => rfl
        | cons g gs => cases e
      · refine nm_r (e' := nI (fs.length - 1)) ?_ (nm_r (nI_1 step) ?_)
        · have : nI fs.length = nI (fs.length - 1 + 1) := by rw [show fs.length - 1 + 1 = fs.length by omega]
          rw [this, nI_pred]
        · refine ih fs aU aS (step + 1) fuel (fun z => e (by rw [z]; rfl)) hFs ?_ (by omega) (by omega) (fun z => H0 (by rw [iv_rem_0]; exact z)) ?_
          · rw [iv_mu_0] at hM
            omega
          · intro N tl' fs' aU' aS' z1 z2 z3 z4 z5 z6
            exact H1 N tl' fs' aU' aS' (by rw [iv_rem_0]; exact z1) z2 z3 z4 (by rw [iv_mu_0]; omega) z6
    · refine br_f (fun z => hz ((nI_eq (b := 0) (by omega) (by decide)).mp z)) ?_
      refine iv_xtry (by omega) q1 q2 (by omega) (by omega) hau hU hz ?_
      intro r U' hr hw hU'
      dsimp only
      have hFs' : iv_FS n (upd aU fs.length (nI U')) (upd (upd aS (4 * p.1 + p.2) (nI r)) (4 * p.2 + p.1) (nI (12 - r))) fs := by
        refine iv_FS_wr (by omega) (by omega) fs (fun e he => ⟨pk_un (by omega), ?_⟩) hFs
        exact iv_mem_drop hdr (by omega)
      have hSc : ∀ x y, x < 4 → y < 4 → iv_off tl x y → (upd (upd aS (4 * p.1 + p.2) (nI r)) (4 * p.2 + p.1) (nI (12 - r)) (4 * x + y) = nI (iv_set R p.1 p.2 r x y) ∧ iv_set R p.1 p.2 r x y < 13) := by
        intro x y hx hy hof
        by_cases c2 : x = p.2 ∧ y = p.1
        · rw [c2.1, c2.2, pk_us, iv_set2 hpi.1]
          exact ⟨rfl, by omega⟩
        · by_cases c1 : x = p.1 ∧ y = p.2
          · rw [c1.1, c1.2, pk_un (by omega), pk_us, iv_set1]
            exact ⟨rfl, hr⟩
          · rw [pk_un (by omega), pk_un (by omega), iv_set3 c1 c2]
            refine hS x y hx hy (fun q hq => ?_)
            rcases List.mem_cons.mp hq with e | hq
            · rw [e]
              exact ⟨c1, c2⟩
            · exact hof q hq
      have hFt : iv_FS n (upd aU fs.length (nI U')) (upd (upd aS (4 * p.1 + p.2) (nI r)) (4 * p.2 + p.1) (nI (12 - r))) ((p, tl, R, U') :: fs) := by
        refine ⟨⟨hdr, pk_us, hU', fun x y hx hy hof => ?_⟩, hFs'⟩
        have c1 := (hof p List.mem_cons_self).1
        have c2 := (hof p List.mem_cons_self).2
        dsimp only at c1 c2 ⊢
        rw [pk_un (by omega), pk_un (by omega)]
        exact hS x y hx hy hof
      have eP : nI P - 1 = nI (P - 1) := by
        have : nI P = nI (P - 1 + 1) := by rw [show P - 1 + 1 = P by omega]
        rw [this, nI_pred]
      rw [eP]
      refine pk_eq fs.length (P - 1) (fun e => ?_) (fun e => ?_) rfl rfl (by omega) (by omega)
      · have ht : tl = [] := by
          rw [hdt]
          exact List.drop_eq_nil_of_le (by omega)
        subst ht
        have hm := iv_mu_leaf (A := A) (p := p) (R := R) (fs := fs) hw hr
        exact H1 _ _ ((p, [], R, U') :: fs) _ _ (iv_rem_leaf hw hr) rfl (by simp) hFt (by omega) (fun x y hx hy => hSc x y hx hy (fun q hq => by cases hq))
      · cases tl with
        | nil =>
          have := congrArg List.length hdt
          rw [List.length_nil, List.length_drop] at this
          omega
        | cons q tl =>
        obtain ⟨hel, hep, het⟩ := iv_drop_p (z := (0, 0)) hdt
        have hqi := iv_p_in hn hdt
        have s1 := (hps _ hel).1
        have s2 := (hps _ hel).2
        rw [hep] at s1 s2
        have ho2 : iv_ord (q :: tl) := iv_ord_tl ho
        refine nm_r (nI_1 fs.length) ?_
        refine iv_xopen (A := A) (R := iv_set R p.1 p.2 r) (by omega) s1 s2 hqi.1 (by omega) (hA _ _ hqi.1 hqi.2).1 hT ?_ ?_
        · intro m hm
          exact ⟨hSc q.1 m (by omega) (by omega) (iv_off_c ho2 hm), hSc m q.2 (by omega) (by omega) (iv_off_d ho2 hm)⟩
        · dsimp only
          refine nm_r (nI_1 step) ?_
          have hm := iv_mu_in (A := A) (p := p) (q := q) (tl := tl) (R := R) (fs := fs) hw hr
          have hrm := iv_rem_in (A := A) (p := p) (q := q) (tl := tl) (R := R) (fs := fs) hw hr
          refine ih ((q, tl, iv_set R p.1 p.2 r, iv_opn A (iv_set R p.1 p.2 r) q.1 q.2) :: (p, q :: tl, R, U') :: fs) _ _ (step + 1) fuel (by simp) ?_ (by omega) (by omega) (by omega)
            (fun z => H0 (by rw [hrm]; exact z)) ?_
          · refine ⟨⟨hdt, pk_us, iv_om_lt (hA _ _ hqi.1 hqi.2).2 _, hSc⟩, ⟨hdr, ?_, hU', hFt.1.2.2.2⟩, ?_⟩
            · rw [pk_un (by omega)]
              exact pk_us
            · exact iv_FS_un (k := fs.length) (fun e he => pk_un (by omega)) fs (Nat.le_refl _) hFs'
          · intro N tl' fs' aU' aS' z1 z2 z3 z4 z5 z6
            exact H1 N tl' fs' aU' aS' (by rw [hrm]; exact z1) z2 z3 z4 (by omega) z6
end
