theorem iv_it_0 {σ : Type} (F : Nat → σ → σ) (s : σ) : iv_it F 0 s = s := rfl
theorem iv_it_s {σ : Type} (F : Nat → σ → σ) (i : Nat) (s : σ) : iv_it F (i + 1) s = F i (iv_it F i s) := rfl
section
variable {fn fp fk fd : Int32} {aA aP aL aT aM a1 a2 aU aS : Nat → Int32}
theorem iv_xse {post : SX → Prop} (h : ∀ aA' aS', (∀ c, c < 16 → aA' c = nI 8191 ∧ aS' c = nI 6) → post (fn, fp, fk, fd, aA', aP, aL, aT, aM, a1, a2, aU, aS')) :
    wpX_stateEverything post (fn, fp, fk, fd, aA, aP, aL, aT, aM, a1, a2, aU, aS) := by
  have key : ∀ e x aA aS, x + e = 16 → (∀ c, c < x → aA c = nI 8191 ∧ aS c = nI 6) → wX_stateEverything_2 post fn fp fk fd (e + 1) (nI x) aA aP aL aT aM a1 a2 aU aS := by
    intro e
    induction e with
    | zero =>
      intro x aA aS hx hc
      have e : x = 16 := by omega
      subst e
      exact br_t (nI_le (a := 16) (b := 16) (by decide) (by decide)) (h aA aS hc)
    | succ e ih =>
      intro x aA aS hx hc
      have ec : (nI x).toNatClampNeg = x := nI_clamp (by omega)
      have vi : vp_in (nI x) 16 := vp_in_nI (by omega) (by decide)
      refine br_f (nI_ge (b := 16) (by omega) (by decide)) ⟨vi, ?_⟩
      rw [ec]
      refine nm_e ⟨vi, nm_e (nm_r (nI_1 x) (ih (x + 1) _ _ (by omega) (fun c hcx => ?_)))⟩
      by_cases e : c = x
      · rw [e, pk_us, pk_us]
        exact ⟨rfl, rfl⟩
      · rw [pk_un e, pk_un e]
        exact hc c (by omega)
  exact ⟨17, key 16 0 aA aS (by decide) (fun c hc => absurd hc (Nat.not_lt_zero _))⟩
end
section
variable {fp fk fd : Int32} {aA aP aL aT aM a1 a2 aU aS : Nat → Int32}
def iv_lpi (n i : Nat) : Nat × (Nat → Nat) × (Nat → Nat) := iv_it (fun i s => iv_lpj i s n) i (0, fun _ => 0, fun _ => 0)
theorem iv_lpi_2 : ∀ i, i < 2 → (iv_lpi 2 i).1 + (2 - 1 - i) ≤ 6 := by decide +kernel
theorem iv_lpi_3 : ∀ i, i < 3 → (iv_lpi 3 i).1 + (3 - 1 - i) ≤ 6 := by decide +kernel
theorem iv_lpi_4 : ∀ i, i < 4 → (iv_lpi 4 i).1 + (4 - 1 - i) ≤ 6 := by decide +kernel
theorem iv_lpi_b {n i : Nat} (hn : iv_n n) (hi : i < n) : (iv_lpi n i).1 + (n - 1 - i) ≤ 6 := by
  rcases hn with e | e | e <;> subst e
  · exact iv_lpi_2 i hi
  · exact iv_lpi_3 i hi
  · exact iv_lpi_4 i hi
def iv_lf (i : Nat) : Nat → (Nat × (Nat → Nat) × (Nat → Nat)) → Nat × (Nat → Nat) × (Nat → Nat) := fun d s => (s.1 + 1, iv_gu s.2.1 s.1 i, iv_gu s.2.2 s.1 (i + 1 + d))
theorem iv_lf_1 (i : Nat) (s : Nat × (Nat → Nat) × (Nat → Nat)) : ∀ d, (iv_it (iv_lf i) d s).1 = s.1 + d
  | 0 => rfl
  | d + 1 => by
    show (iv_it (iv_lf i) d s).1 + 1 = _
    rw [iv_lf_1 i s d]
    omega
theorem iv_xlp {post : SX → Prop} {n : Nat} (hn : iv_n n) (h : post (nI n, fp, fk, fd, aA, aP, aL, aT, aM, (fun c => nI ((iv_lp n).2.1 c)), (fun c => nI ((iv_lp n).2.2 c)), aU, aS)) :
    wpX_listPairs post (nI n, fp, fk, fd, aA, aP, aL, aT, aM, (fun _ => 0), (fun _ => 0), aU, aS) := by
  have h4 : n ≤ 4 := by
    unfold iv_n at hn
    omega
  have inner : ∀ (J4 : Int32 → Int32 → (Nat → Int32) → (Nat → Int32) → (Nat → Int32) → (Nat → Int32) → (Nat → Int32) → (Nat → Int32) → (Nat → Int32) → (Nat → Int32) → (Nat → Int32) → Prop)
      (i : Nat) (s : Nat × (Nat → Nat) × (Nat → Nat)), i < n → s.1 + (n - 1 - i) ≤ 6 →
      J4 (nI (iv_lpj i s n).1) (nI (i + 1)) aA aP aL aT aM (fun c => nI ((iv_lpj i s n).2.1 c)) (fun c => nI ((iv_lpj i s n).2.2 c)) aU aS →
      ∀ e d, d + e = n - 1 - i → wX_listPairs_16 post J4 (nI i) (nI n) fp fk fd (e + 1) (nI (iv_it (iv_lf i) d s).1) (nI (i + 1 + d)) aA aP aL aT aM (fun c => nI ((iv_it (iv_lf i) d s).2.1 c)) (fun c => nI ((iv_it (iv_lf i) d s).2.2 c)) aU aS := by
    intro J4 i s hi hs hJ e
    induction e with
    | zero =>
      intro d hd
      have e : d = n - 1 - i := by omega
      subst e
      exact br_t (nI_le (by omega) (by omega)) (nm_r (nI_1 i) hJ)
    | succ e ih =>
      intro d hd
      have h1 := iv_lf_1 i s d
      have ec : (nI (iv_it (iv_lf i) d s).1).toNatClampNeg = (iv_it (iv_lf i) d s).1 := nI_clamp (by omega)
      have vi : vp_in (nI (iv_it (iv_lf i) d s).1) 6 := vp_in_nI (by omega) (by decide)
      refine br_f (nI_ge (by omega) (by omega)) ⟨vi, ?_⟩
      rw [ec, iv_gu_u, iv_gu_u]
      exact nm_e ⟨vi, nm_e (nm_r (nI_1 _) (nm_r (nI_1 (i + 1 + d)) (ih (d + 1) (by omega))))⟩
  have outer : ∀ e i, i + e = n → wX_listPairs_4 post (nI n) fp fk fd (e + 1) (nI (iv_lpi n i).1) (nI i) aA aP aL aT aM (fun c => nI ((iv_lpi n i).2.1 c)) (fun c => nI ((iv_lpi n i).2.2 c)) aU aS := by
    intro e
    induction e with
    | zero =>
      intro i hi
      have e : i = n := by omega
      subst e
      exact br_t (nI_le (Nat.le_refl _) (by omega)) h
    | succ e ih =>
      intro i hi
      refine br_f (nI_ge (by omega) (by omega)) (nm_r (nI_1 i) ⟨n - 1 - i + 1, ?_⟩)
      exact inner _ i (iv_lpi n i) (by omega) (iv_lpi_b hn (by omega)) (ih (i + 1) (by omega)) (n - 1 - i) 0 (by omega)
  exact ⟨n + 1, outer n 0 (by omega)⟩
end
section
variable {fn fp fk fd : Int32} {aA aP aL aM a1 a2 aU aS : Nat → Int32}
theorem iv_f46 {post : SX → Prop} {J2 J13 J33 : Int32 → (Nat → Int32) → (Nat → Int32) → (Nat → Int32) → (Nat → Int32) → (Nat → Int32) → (Nat → Int32) → (Nat → Int32) → (Nat → Int32) → (Nat → Int32) → Prop}
    {xb xe yb ye zb M0 : Nat} (hxb : xb < 6) (hxe : xe < 6) (hyb : yb < 6) (hye : ye < 6) (hzb : zb < 6)
    (hJ : ∀ aT', iv_TB aT' (iv_ta4 xb xe yb ye zb M0) → J33 (nI (zb + 1)) aA aP aL aT' aM a1 a2 aU aS) :
    ∀ e d aT, d + e = 5 - zb → iv_TB aT (iv_it (fun d M => iv_tz xb xe yb ye zb (zb + 1 + d) M) d M0) →
    wX_fillTableAround_46 post J2 J13 J33 (nI yb) (nI ye) (nI xb) (nI xe) (nI (iv_rel xb xe yb ye)) (nI zb) fn fp fk fd (e + 1) (nI (zb + 1 + d)) aA aP aL aT aM a1 a2 aU aS := by
  intro e
  induction e with
  | zero =>
    intro d aT hd hT
    have e : d = 5 - zb := by omega
    subst e
    exact br_t (nI_le (a := 6) (by omega) (by omega)) (nm_r (nI_1 zb) (hJ aT hT))
  | succ e ih =>
    intro d aT hd hT
    refine br_f (nI_ge (b := 6) (by omega) (by decide)) (iv_xrel (by omega) (by omega) (by omega) (by omega) (iv_xrel (by omega) (by omega) (by omega) (by omega) ?_))
    have r1 := iv_rel_lt xb xe yb ye
    have r2 := iv_rel_lt yb ye zb (zb + 1 + d)
    have r3 := iv_rel_lt xb xe zb (zb + 1 + d)
    have vi : vp_in (nI (13 * iv_rel xb xe yb ye + iv_rel yb ye zb (zb + 1 + d))) 169 := vp_in_nI (by omega) (by decide)
    rw [iv_c13]
    refine ⟨vi, vi, ?_⟩
    rw [nI_clamp (by omega), iv_1shl _ r3]
    refine nm_e (nm_r (nI_1 _) (ih (d + 1) _ (by omega) ?_))
    rw [iv_it_s]
    exact iv_TB_s hT (by omega) r3
theorem iv_f33 {post : SX → Prop} {J2 J13 : Int32 → (Nat → Int32) → (Nat → Int32) → (Nat → Int32) → (Nat → Int32) → (Nat → Int32) → (Nat → Int32) → (Nat → Int32) → (Nat → Int32) → (Nat → Int32) → Prop}
    {xb xe yb ye M0 : Nat} (hxb : xb < 6) (hxe : xe < 6) (hyb : yb < 6) (hye : ye < 6)
    (hJ : ∀ aT', iv_TB aT' (iv_ta3 xb xe yb ye M0) → J13 (nI (xe + 1)) aA aP aL aT' aM a1 a2 aU aS) :
    ∀ e zb aT, zb + e = 6 → iv_TB aT (iv_it (fun zb M => iv_ta4 xb xe yb ye zb M) zb M0) →
    wX_fillTableAround_33 post J2 J13 (nI yb) (nI ye) (nI xb) (nI xe) (nI (iv_rel xb xe yb ye)) fn fp fk fd (e + 1) (nI zb) aA aP aL aT aM a1 a2 aU aS := by
  intro e
  induction e with
  | zero =>
    intro zb aT hd hT
    have e : zb = 6 := by omega
    subst e
    exact br_t (nI_le (a := 6) (b := 6) (by omega) (by omega)) (nm_r (nI_1 xe) (hJ aT hT))
  | succ e ih =>
    intro zb aT hd hT
    refine br_f (nI_ge (b := 6) (by omega) (by decide)) (nm_r (nI_1 zb) ⟨5 - zb + 1, ?_⟩)
    exact iv_f46 (M0 := iv_it (fun zb M => iv_ta4 xb xe yb ye zb M) zb M0) hxb hxe hyb hye (by omega) (fun aT' hT' => ih (zb + 1) aT' (by omega) (by rw [iv_it_s]; exact hT')) (5 - zb) 0 aT (by omega) (by rw [iv_it_0]; exact hT)
theorem iv_f13 {post : SX → Prop} {J2 : Int32 → (Nat → Int32) → (Nat → Int32) → (Nat → Int32) → (Nat → Int32) → (Nat → Int32) → (Nat → Int32) → (Nat → Int32) → (Nat → Int32) → (Nat → Int32) → Prop}
    {xb yb ye M0 : Nat} (hxb : xb < 6) (hyb : yb < 6) (hye : ye < 6)
    (hJ : ∀ aT', iv_TB aT' (iv_ta2 yb ye xb M0) → J2 (nI (xb + 1)) aA aP aL aT' aM a1 a2 aU aS) :
    ∀ e d aT, d + e = 5 - xb → iv_TB aT (iv_it (fun d M => iv_ta3 xb (xb + 1 + d) yb ye M) d M0) →
    wX_fillTableAround_13 post J2 (nI yb) (nI ye) (nI xb) fn fp fk fd (e + 1) (nI (xb + 1 + d)) aA aP aL aT aM a1 a2 aU aS := by
  intro e
  induction e with
  | zero =>
    intro d aT hd hT
    have e : d = 5 - xb := by omega
    subst e
    exact br_t (nI_le (a := 6) (by omega) (by omega)) (nm_r (nI_1 xb) (hJ aT hT))
  | succ e ih =>
    intro d aT hd hT
    refine br_f (nI_ge (b := 6) (by omega) (by decide)) (iv_xrel (by omega) (by omega) (by omega) (by omega) ⟨7, ?_⟩)
    exact iv_f33 (xe := xb + 1 + d) (M0 := iv_it (fun d M => iv_ta3 xb (xb + 1 + d) yb ye M) d M0) hxb (by omega) hyb hye (fun aT' hT' => ih (d + 1) aT' (by omega) (by rw [iv_it_s]; exact hT')) 6 0 aT (by omega) (by rw [iv_it_0]; exact hT)
theorem iv_f2 {post : SX → Prop} {yb ye M0 : Nat} (hyb : yb < 6) (hye : ye < 6)
    (hJ : ∀ aT', iv_TB aT' (iv_ta1 yb ye M0) → post (fn, fp, fk, fd, aA, aP, aL, aT', aM, a1, a2, aU, aS)) {aT : Nat → Int32} (hT : iv_TB aT M0) :
    wpX_fillTableAround post (fn, fp, fk, fd, aA, aP, aL, aT, aM, a1, a2, aU, aS) (nI yb) (nI ye) := by
  have key : ∀ e xb aT, xb + e = 6 → iv_TB aT (iv_it (fun xb M => iv_ta2 yb ye xb M) xb M0) →
      wX_fillTableAround_2 post (nI yb) (nI ye) fn fp fk fd (e + 1) (nI xb) aA aP aL aT aM a1 a2 aU aS := by
    intro e
    induction e with
    | zero =>
      intro xb aT hd hT
      have e : xb = 6 := by omega
      subst e
      exact br_t (nI_le (a := 6) (b := 6) (by omega) (by omega)) (hJ aT hT)
    | succ e ih =>
      intro xb aT hd hT
      refine br_f (nI_ge (b := 6) (by omega) (by decide)) (nm_r (nI_1 xb) ⟨5 - xb + 1, ?_⟩)
      exact iv_f13 (M0 := iv_it (fun xb M => iv_ta2 yb ye xb M) xb M0) (by omega) hyb hye (fun aT' hT' => ih (xb + 1) aT' (by omega) (by rw [iv_it_s]; exact hT')) (5 - xb) 0 aT (by omega) (by rw [iv_it_0]; exact hT)
  exact ⟨7, key 6 0 aT (by decide) (by rw [iv_it_0]; exact hT)⟩
theorem iv_xft0 {post : SX → Prop} {N0 : Nat} (hJ : ∀ aT', iv_TB aT' (iv_ft N0) → post (fn, fp, fk, fd, aA, aP, aL, aT', aM, a1, a2, aU, aS)) {aT : Nat → Int32} (hT : iv_TB aT N0) :
    wpX_fillTable post (fn, fp, fk, fd, aA, aP, aL, aT, aM, a1, a2, aU, aS) := by
  have inner : ∀ (J2 : Int32 → Int32 → Int32 → Int32 → Int32 → (Nat → Int32) → (Nat → Int32) → (Nat → Int32) → (Nat → Int32) → (Nat → Int32) → (Nat → Int32) → (Nat → Int32) → (Nat → Int32) → (Nat → Int32) → Prop) (b M0 : Nat), b < 6 →
      (∀ aT', iv_TB aT' (iv_ft1 b M0) → J2 (nI (b + 1)) fn fp fk fd aA aP aL aT' aM a1 a2 aU aS) →
      ∀ e d aT, d + e = 5 - b → iv_TB aT (iv_it (fun d M => iv_ta1 b (b + 1 + d) M) d M0) →
      wX_fillTable_12 post J2 (nI b) (e + 1) (nI (b + 1 + d)) fn fp fk fd aA aP aL aT aM a1 a2 aU aS := by
    intro J2 b M0 hb hJ2 e
    induction e with
    | zero =>
      intro d aT hd hT
      have e : d = 5 - b := by omega
      subst e
      exact br_t (nI_le (a := 6) (by omega) (by omega)) (nm_r (nI_1 b) (hJ2 aT hT))
    | succ e ih =>
      intro d aT hd hT
      refine br_f (nI_ge (b := 6) (by omega) (by decide)) ?_
      refine iv_f2 (M0 := iv_it (fun d M => iv_ta1 b (b + 1 + d) M) d M0) hb (by omega) (fun aT' hT' => ?_) hT
      exact nm_r (nI_1 (b + 1 + d)) (ih (d + 1) aT' (by omega) (by rw [iv_it_s]; exact hT'))
  have outer : ∀ e b aT, b + e = 6 → iv_TB aT (iv_it (fun b M => iv_ft1 b M) b N0) →
      wX_fillTable_2 post (e + 1) (nI b) fn fp fk fd aA aP aL aT aM a1 a2 aU aS := by
    intro e
    induction e with
    | zero =>
      intro b aT hd hT
      have e : b = 6 := by omega
      subst e
      exact br_t (nI_le (a := 6) (b := 6) (by omega) (by omega)) (hJ aT hT)
    | succ e ih =>
      intro b aT hd hT
      refine br_f (nI_ge (b := 6) (by omega) (by decide)) (nm_r (nI_1 b) ⟨5 - b + 1, ?_⟩)
      exact inner (wX_fillTable_2 post (e + 1)) b (iv_it (fun b M => iv_ft1 b M) b N0) (by omega) (fun aT' hT' => ih (b + 1) aT' (by omega) (by rw [iv_it_s]; exact hT')) (5 - b) 0 aT (by omega) (by rw [iv_it_0]; exact hT)
  exact ⟨7, outer 6 0 aT (by decide) (by rw [iv_it_0]; exact hT)⟩
theorem iv_xft {post : SX → Prop} (hJ : ∀ aT', iv_TB aT' iv_big → post (fn, fp, fk, fd, aA, aP, aL, aT', aM, a1, a2, aU, aS)) :
    wpX_fillTable post (fn, fp, fk, fd, aA, aP, aL, (fun _ => 0), aM, a1, a2, aU, aS) := by
  refine iv_xft0 (N0 := 0) (fun aT' h => hJ aT' ?_) iv_TB_0
  rw [iv_ft_big] at h
  exact h
end
section
variable {fn fp fk fd : Int32} {aA aP aL aT a1 a2 aU aS : Nat → Int32}
theorem iv_xfm {post : SX → Prop} (h : post (fn, fp, fk, fd, aA, aP, aL, aT, (fun c => nI (iv_fm c)), a1, a2, aU, aS)) :
    wpX_fillModel post (fn, fp, fk, fd, aA, aP, aL, aT, (fun _ => 0), a1, a2, aU, aS) := by
  have inner : ∀ (J2 : Int32 → (Nat → Int32) → (Nat → Int32) → (Nat → Int32) → (Nat → Int32) → (Nat → Int32) → (Nat → Int32) → (Nat → Int32) → (Nat → Int32) → (Nat → Int32) → Prop) (b : Nat) (g : Nat → Nat), b < 8 →
      J2 (nI (b + 1)) aA aP aL aT (fun c => nI (iv_fm1 b g c)) a1 a2 aU aS →
      ∀ e d, d + e = 7 - b → wX_fillModel_12 post J2 (nI b) fn fp fk fd (e + 1) (nI (b + 1 + d)) aA aP aL aT
        (fun c => nI (iv_it (fun d g => iv_gu (iv_gu g (2 * iv_rel b (b + 1 + d) 2 5) b) (2 * iv_rel b (b + 1 + d) 2 5 + 1) (b + 1 + d)) d g c)) a1 a2 aU aS := by
    intro J2 b g hb hJ2 e
    induction e with
    | zero =>
      intro d hd
      have e : d = 7 - b := by omega
      subst e
      exact br_t (nI_le (a := 8) (by omega) (by omega)) (nm_r (nI_1 b) hJ2)
    | succ e ih =>
      intro d hd
      refine br_f (nI_ge (b := 8) (by omega) (by decide)) (iv_xrel (c := 2) (f := 5) (by omega) (by omega) (by omega) (by omega) ?_)
      have r1 := iv_rel_lt b (b + 1 + d) 2 5
      have e2 : (2 : Int32) * nI (iv_rel b (b + 1 + d) 2 5) + 1 = nI (2 * iv_rel b (b + 1 + d) 2 5 + 1) := iv_2r _ 1
      rw [e2, iv_2n, nI_clamp (by omega), nI_clamp (by omega)]
      refine ⟨vp_in_nI (by omega) (by decide), ?_⟩
      rw [iv_gu_u]
      refine nm_e ⟨vp_in_nI (by omega) (by decide), ?_⟩
      rw [iv_gu_u]
      exact nm_e (nm_r (nI_1 (b + 1 + d)) (ih (d + 1) (by omega)))
  have outer : ∀ e b, b + e = 8 → wX_fillModel_2 post fn fp fk fd (e + 1) (nI b) aA aP aL aT (fun c => nI (iv_it (fun b g => iv_fm1 b g) b (fun _ => 0) c)) a1 a2 aU aS := by
    intro e
    induction e with
    | zero =>
      intro b hd
      have e : b = 8 := by omega
      subst e
      exact br_t (nI_le (a := 8) (b := 8) (by omega) (by omega)) h
    | succ e ih =>
      intro b hd
      refine br_f (nI_ge (b := 8) (by omega) (by decide)) (nm_r (nI_1 b) ⟨7 - b + 1, ?_⟩)
      exact inner _ b (iv_it (fun b g => iv_fm1 b g) b (fun _ => 0)) (by omega) (ih (b + 1) (by omega)) (7 - b) 0 (by omega)
  exact ⟨9, outer 8 0 (by decide)⟩
end
