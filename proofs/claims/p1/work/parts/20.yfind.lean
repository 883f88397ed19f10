section
variable {gi gk : Int32} {bS bP bL : Nat → Int32}
theorem iv_ywork {post : SY → Prop} {many : Nat} {A : iv_N} {gt gf gl : Int32} {bA bT bN bR bE bZ : Nat → Int32} (hn : iv_n many) (hA : ∀ i j, i < j → j < many → bA (4 * i + j) = nI (A i j) ∧ A i j < 8192)
    (h : ∀ gt gf gl bT bN bR bE bZ, iv_Acc many (iv_leaves many A) gt gf gl bE bZ → post (gi, gk, gt, gf, gl, bS, bP, bA, bL, bT, bN, bR, bE, bZ)) :
    wpY_work post (gi, gk, gt, gf, gl, bS, bP, bA, bL, bT, bN, bR, bE, bZ) (nI many) := by
  have hn4 : 2 ≤ many ∧ many ≤ 4 := by
    unfold iv_n at hn
    omega
  have key : ∀ e c bE, c + e = 16 → (∀ a, a < c → bE a = nI 0) → wY_work_13 post (nI many) gi gk 0 (-2) gl (e + 1) (nI c) bS bP bA bL bT bN bR bE bZ := by
    intro e
    induction e with
    | zero =>
      intro c bE hc hE
      have e : c = 16 := by omega
      subst e
      refine br_t (nI_le (a := 16) (b := 16) (by decide) (by decide)) (nm_e (nm_e (nm_e (nm_e ⟨137008, ?_⟩))))
      have hnew := iv_ym_new (d := many - 2) (k := 1) (L := iv_L1) (m := 2) (by omega) (by omega)
      have hb : iv_be3 (many - 2 + 1) ≤ 137007 := by
        rcases hn with e | e | e <;> subst e <;> decide
      have hl : iv_yr A [(many - 2, 1, iv_L1, 2, 0)] = iv_leaves many A := by
        rw [iv_yr, iv_yr, List.append_nil]
        unfold iv_leaves
        rw [show many - 1 = (many - 2) + 1 by omega, iv_lv_h]
      refine (iv_ywork_l (gi := gi) (gk := gk) (bS := bS) (bP := bP) (bA := bA) (bL := bL) (post := post) hn hA 137007).1 [(many - 2, 1, iv_L1, 2, 0)] [] 0 (-2) gl _ _ _ bE bZ 0 137008 ⟨by dsimp only; omega, rfl, ⟨iv_can1, fun c hc => ?_, pk_us, pk_us, Nat.zero_le _⟩, trivial⟩ ?_ (fun x hx => by cases hx) ?_ (by decide) (by decide) ?_
      · have hc : c < 2 := hc
        rcases (show c = 0 ∨ c = 1 by omega) with e | e
        · subst e
          show upd (upd bT 8 0) 9 1 8 = nI (iv_L1 0)
          rw [pk_un (by decide), pk_us]
          rfl
        · subst e
          show upd (upd bT 8 0) 9 1 9 = nI (iv_L1 1)
          rw [pk_us]
          rfl
      · refine ⟨rfl, fun i j hi hj hij => ?_, fun _ => rfl, fun z => absurd rfl z, fun l' x hx => ?_⟩
        · rw [hE _ (by omega)]
          rfl
        · have := congrArg List.length hx
          rw [List.length_append] at this
          simp at this
      · rw [iv_yms, iv_yms]
        omega
      · rw [hl]
        exact h
    | succ e ih =>
      intro c bE hc hE
      have ec : (nI c).toNatClampNeg = c := nI_clamp (by omega)
      refine br_f (nI_ge (b := 16) (by omega) (by decide)) ⟨vp_in_nI (by omega) (by decide), ?_⟩
      rw [ec]
      refine nm_e (nm_r (nI_1 c) (ih (c + 1) _ (by omega) (fun a ha => ?_)))
      by_cases e : a = c
      · rw [e, pk_us]
        rfl
      · rw [pk_un e]
        exact hE a (by omega)
  exact ⟨17, key 16 0 bE (by decide) (fun a ha => absurd ha (Nat.not_lt_zero _))⟩
theorem iv_yallow {post : SY → Prop} {gt gf gl : Int32} {bA bT bN bR bE bZ : Nat → Int32} (h : ∀ bA', (∀ c, c < 16 → bA' c = bS c) → post (gi, gk, gt, gf, gl, bS, bP, bA', bL, bT, bN, bR, bE, bZ)) :
    wpY_allow post (gi, gk, gt, gf, gl, bS, bP, bA, bL, bT, bN, bR, bE, bZ) := by
  have key : ∀ e c bA, c + e = 16 → (∀ a, a < c → bA a = bS a) → wY_allow_2 post gi gk gt gf gl (e + 1) (nI c) bS bP bA bL bT bN bR bE bZ := by
    intro e
    induction e with
    | zero =>
      intro c bA hc hE
      have e : c = 16 := by omega
      subst e
      exact br_t (nI_le (a := 16) (b := 16) (by decide) (by decide)) (h bA hE)
    | succ e ih =>
      intro c bA hc hE
      have ec : (nI c).toNatClampNeg = c := nI_clamp (by omega)
      have vi : vp_in (nI c) 16 := vp_in_nI (by omega) (by decide)
      refine br_f (nI_ge (b := 16) (by omega) (by decide)) ⟨vi, vi, ?_⟩
      rw [ec]
      refine nm_e (nm_r (nI_1 c) (ih (c + 1) _ (by omega) (fun a ha => ?_)))
      by_cases e : a = c
      · rw [e, pk_us]
      · rw [pk_un e]
        exact hE a (by omega)
  exact ⟨17, key 16 0 bA (by decide) (fun a ha => absurd ha (Nat.not_lt_zero _))⟩
theorem iv_yall {post : SY → Prop} {n : Nat} {A : iv_N} {gt gf gl : Int32} {bA bT bN bR bE bZ : Nat → Int32} (hn : iv_n n) (hS : ∀ i j, i < j → j < n → bS (4 * i + j) = nI (A i j) ∧ A i j < 8192)
    (h : ∀ gt gf gl bA bT bN bR bE bZ, (∀ i j, i < j → j < n → bA (4 * i + j) = nI (A i j) ∧ A i j < 8192) → iv_Acc n (iv_leaves n A) gt gf gl bE bZ → post (nI n, gk, gt, gf, gl, bS, bP, bA, bL, bT, bN, bR, bE, bZ)) :
    wpY_workAll post (nI n, gk, gt, gf, gl, bS, bP, bA, bL, bT, bN, bR, bE, bZ) := by
  have hn4 : 2 ≤ n ∧ n ≤ 4 := by
    unfold iv_n at hn
    omega
  unfold wpY_workAll
  dsimp only
  refine iv_yallow (fun bA' hb => ?_)
  have hA : ∀ i j, i < j → j < n → bA' (4 * i + j) = nI (A i j) ∧ A i j < 8192 := fun i j h1 h2 => by
    rw [hb _ (by omega)]
    exact hS i j h1 h2
  exact iv_ywork hn hA (fun gt gf gl bT bN bR bE bZ ha => h _ _ _ _ _ _ _ _ _ hA ha)
def iv_FI (n : Nat) (N : iv_N) (c q : Nat) (bA : Nat → Int32) : Prop :=
  ∃ (B R : iv_N), (∀ i j, i < j → j < n → bA (4 * i + j) = nI (B i j) ∧ B i j < 8192) ∧ iv_col n B (iv_pf n c) R ∧ (iv_nets B (iv_ps n) iv_R0)[q]? = some N ∧ q < 1000000
theorem iv_pf_ord {n c : Nat} (hn : iv_n n) : iv_ord (iv_pf n c) := by
  have h := iv_ps_ord hn
  exact ⟨List.Pairwise.sublist List.filter_sublist h.1, fun p hp => h.2 p (List.mem_filter.mp hp).1⟩
theorem iv_lv_len {n : Nat} (hn : iv_n n) (A : iv_N) : (iv_leaves n A).length < 1000000 := by
  rw [iv_len hn]
  have h1 := iv_nets_len A (iv_ps n) iv_R0
  have h2 := iv_ko_n hn A iv_R0
  omega
theorem iv_yf65 {post : Int32 → SY → Prop} {n : Nat} {N : iv_N} {J22 : Int32 → Int32 → Int32 → Int32 → Int32 → Int32 → Int32 → (Nat → Int32) → (Nat → Int32) → (Nat → Int32) → (Nat → Int32) → (Nat → Int32) → (Nat → Int32) → (Nat → Int32) → (Nat → Int32) → (Nat → Int32) → Prop}
    {c : Nat} (hn : iv_n n) (hc : c < 16) (hv : c / 4 < c % 4 ∧ c % 4 < n)
    (HJ : ∀ q gt gf gl bA bT bN bR bE bZ, iv_FI n N (c + 1) q bA → J22 (nI q) (nI (c + 1)) (nI n) gk gt gf gl bS bP bA bL bT bN bR bE bZ)
    {B R : iv_N} {q : Nat} (hB8 : B (c / 4) (c % 4) < 8192) (hcol : iv_col n B ((c / 4, c % 4) :: iv_pf n (c + 1)) R) (hq : (iv_nets B (iv_ps n) iv_R0)[q]? = some N) (hq6 : q < 1000000) :
    ∀ e r gt gf gl bA bT bN bR bE bZ, r + e = 13 → (∀ i j, i < j → j < n → ¬ (i = c / 4 ∧ j = c % 4) → bA (4 * i + j) = nI (B i j) ∧ B i j < 8192) →
      (iv_g (fun r => iv_nets B (iv_pf n (c + 1)) (iv_set R (c / 4) (c % 4) r)) (iv_opn B R (c / 4) (c % 4)) r).length ≤ q →
      wY_find_65 post J22 (nI c) (nI (B (c / 4) (c % 4))) (e + 2) (nI (q - (iv_g (fun r => iv_nets B (iv_pf n (c + 1)) (iv_set R (c / 4) (c % 4) r)) (iv_opn B R (c / 4) (c % 4)) r).length)) 1 (nI r) (nI n) gk gt gf gl bS bP bA bL bT bN bR bE bZ := by
  have hn4 : 2 ≤ n ∧ n ≤ 4 := by
    unfold iv_n at hn
    omega
  have hp : (c / 4, c % 4) ∈ iv_ps n := (iv_ps_mem hn _).mpr hv
  have hor : iv_ord ((c / 4, c % 4) :: iv_pf n (c + 1)) := by
    rw [← iv_pf_in hn hc hv]
    exact iv_pf_ord hn
  have hsub : ∀ p, p ∈ (c / 4, c % 4) :: iv_pf n (c + 1) → p ∈ iv_ps n := by
    rw [← iv_pf_in hn hc hv]
    exact fun p hp => (List.mem_filter.mp hp).1
  have hfull : iv_nets B (iv_ps n) iv_R0 = iv_g (fun r => iv_nets B (iv_pf n (c + 1)) (iv_set R (c / 4) (c % 4) r)) (iv_opn B R (c / 4) (c % 4)) 13 := by
    rw [hcol B (fun _ _ _ => rfl), iv_nets_g]
  intro e
  induction e with
  | zero =>
    intro r gt gf gl bA bT bN bR bE bZ hr hb hs
    have e : r = 13 := by omega
    subst e
    rw [← hfull] at hs
    have := (List.getElem?_eq_some_iff.mp hq).1
    omega
  | succ e ih =>
    intro r gt gf gl bA bT bN bR bE bZ hr hb hs
    have h1s : ∀ s, (B (c / 4) (c % 4) &&& 2 ^ r).testBit s = true ↔ ((B (c / 4) (c % 4)).testBit s = true ∧ s = r) := by
      intro s
      rw [Nat.testBit_and, Nat.testBit_two_pow, Bool.and_eq_true, decide_eq_true_iff]
      exact ⟨fun z => ⟨z.1, z.2.symm⟩, fun z => ⟨z.1, z.2.symm⟩⟩
    have hB1p : iv_up B (c / 4) (c % 4) (B (c / 4) (c % 4) &&& 2 ^ r) (c / 4) (c % 4) = B (c / 4) (c % 4) &&& 2 ^ r := if_pos ⟨rfl, rfl⟩
    have hB1o : ∀ q, q ∈ iv_ps n → q ≠ (c / 4, c % 4) → iv_up B (c / 4) (c % 4) (B (c / 4) (c % 4) &&& 2 ^ r) q.1 q.2 = B q.1 q.2 := by
      intro q _ hne
      exact if_neg (fun z => hne (Prod.ext z.1 z.2))
    have hlen := iv_col_len (B1 := iv_up B (c / 4) (c % 4) (B (c / 4) (c % 4) &&& 2 ^ r)) hor hsub hcol (show r < 13 by omega) (fun s => by dsimp only; rw [hB1p]; exact h1s s) hB1o
    dsimp only at hlen
    have hA1 : ∀ i j, i < j → j < n → upd bA c (nI (B (c / 4) (c % 4) &&& 2 ^ r)) (4 * i + j) = nI (iv_up B (c / 4) (c % 4) (B (c / 4) (c % 4) &&& 2 ^ r) i j) ∧ iv_up B (c / 4) (c % 4) (B (c / 4) (c % 4) &&& 2 ^ r) i j < 8192 := by
      intro i j hi hj
      by_cases z : i = c / 4 ∧ j = c % 4
      · rw [z.1, z.2, hB1p, show 4 * (c / 4) + c % 4 = c by omega, pk_us]
        exact ⟨rfl, Nat.lt_of_le_of_lt Nat.and_le_left hB8⟩
      · have : iv_up B (c / 4) (c % 4) (B (c / 4) (c % 4) &&& 2 ^ r) i j = B i j := if_neg z
        rw [this, pk_un (by omega)]
        exact hb i j hi hj z
    refine br_f (nI_ge (b := 13) (by omega) (by decide)) (br_f (by decide) ⟨vp_in_nI (by omega) (by decide), ?_⟩)
    rw [nI_clamp (n := c) (by omega), iv_1shl r (by omega), nx_and]
    refine nm_e (iv_ywork hn hA1 (fun gt gf gl bT bN bR bE bZ ha => ?_))
    dsimp only
    have htot := ha.1
    rw [iv_len hn, hlen] at htot
    have hlt := iv_lv_len hn (iv_up B (c / 4) (c % 4) (B (c / 4) (c % 4) &&& 2 ^ r))
    rw [iv_len hn, hlen] at hlt
    have hg1 := iv_g_s (fun r => iv_nets B (iv_pf n (c + 1)) (iv_set R (c / 4) (c % 4) r)) (iv_opn B R (c / 4) (c % 4)) r
    have hg2 := congrArg List.length hg1
    rw [List.length_append] at hg2
    refine pk_lt (q - (iv_g (fun r => iv_nets B (iv_pf n (c + 1)) (iv_set R (c / 4) (c % 4) r)) (iv_opn B R (c / 4) (c % 4)) r).length) _ (fun z => ?_) (fun z => ?_) rfl htot (by omega) (by omega)
    · have hpk := iv_pick (fun r => iv_nets B (iv_pf n (c + 1)) (iv_set R (c / 4) (c % 4) r)) (U := iv_opn B R (c / 4) (c % 4)) (r := r) (N := 13) (i := q) (by omega) hs (by rw [hg2]; omega)
      rw [← hfull, hq] at hpk
      have hbit : (iv_opn B R (c / 4) (c % 4)).testBit r = true := by
        by_cases w : (iv_opn B R (c / 4) (c % 4)).testBit r = true
        · exact w
        · rw [if_neg w, List.length_nil] at z
          omega
      have hFI : iv_FI n N (c + 1) (q - (iv_g (fun r => iv_nets B (iv_pf n (c + 1)) (iv_set R (c / 4) (c % 4) r)) (iv_opn B R (c / 4) (c % 4)) r).length) (upd bA c (nI (B (c / 4) (c % 4) &&& 2 ^ r))) := by
        refine ⟨_, iv_set R (c / 4) (c % 4) r, hA1, iv_col_s hor hcol hp (show r < 13 by omega) (fun s => by dsimp only; rw [hB1p]; exact h1s s) hB1o hbit, ?_, by omega⟩
        rw [hlen]
        exact hpk.symm
      refine br_t rfl (nm_r (nI_1 r) ?_)
      refine br_c (fun _ => nm_r (nI_1 c) (HJ _ _ _ _ _ _ _ _ _ _ hFI)) (fun _ => br_t rfl (nm_r (nI_1 c) (HJ _ _ _ _ _ _ _ _ _ _ hFI)))
    · have hgo := ih (r + 1) gt gf gl (upd bA c (nI (B (c / 4) (c % 4) &&& 2 ^ r))) bT bN bR bE bZ (by omega) (fun i j hi hj z => by rw [pk_un (by omega)]; exact hb i j hi hj z) (by rw [hg2]; omega)
      refine br_f (by decide) (nm_r ?_ (nm_r (nI_1 r) hgo))
      rw [htot, pk_sub z, hg2]
      congr 1
      omega
end
