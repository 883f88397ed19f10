def iv_GO (bT bN bR : Nat → Int32) (f : iv_Gr) : Prop :=
  iv_Can f.2.1 f.2.2.1 f.2.2.2.1 ∧ (∀ c, c < 2 * f.2.1 → bT (8 * f.2.1 + c) = nI (f.2.2.1 c)) ∧ bN f.2.1 = nI f.2.2.2.1 ∧ bR f.2.1 = nI f.2.2.2.2 ∧ f.2.2.2.2 ≤ (2 * f.2.2.2.1 + 1) * (2 * f.2.2.2.1 + 1)
def iv_GS (many : Nat) (bT bN bR : Nat → Int32) : List iv_Gr → Prop
  | [] => True
  | f :: fs => f.1 + f.2.1 + 1 = many ∧ f.2.1 = fs.length + 1 ∧ iv_GO bT bN bR f ∧ iv_GS many bT bN bR fs
theorem iv_GS_keep {many K : Nat} {bT bN bR bT' bN' bR' : Nat → Int32} (hK : K ≤ 3) (h1 : ∀ c, c < 8 * (K + 1) → bT' c = bT c) (h2 : ∀ e, e ≤ K → bN' e = bN e ∧ bR' e = bR e) : ∀ (fs : List iv_Gr), fs.length ≤ K → iv_GS many bT bN bR fs → iv_GS many bT' bN' bR' fs
  | [], _, _ => trivial
  | f :: fs, hl, h => by
    rw [List.length_cons] at hl
    obtain ⟨a1, a2, a3, a4⟩ := h
    refine ⟨a1, a2, ⟨a3.1, fun c hc => ?_, ?_, ?_, a3.2.2.2.2⟩, iv_GS_keep hK h1 h2 fs (by omega) a4⟩
    · rw [h1 _ (by omega)]
      exact a3.2.1 c hc
    · rw [(h2 _ (by omega)).1]
      exact a3.2.2.1
    · rw [(h2 _ (by omega)).2]
      exact a3.2.2.2.1
section
variable {gi gk : Int32} {bS bP bA bL : Nat → Int32}
def iv_WP (gi gk : Int32) (bS bP bA bL : Nat → Int32) (post : SY → Prop) (many : Nat) (l : List ((Nat → Nat) × Nat)) : Prop :=
  ∀ gt gf gl bT bN bR bE bZ, iv_Acc many l gt gf gl bE bZ → post (gi, gk, gt, gf, gl, bS, bP, bA, bL, bT, bN, bR, bE, bZ)
theorem iv_sq13 {m : Nat} (h : m ≤ 8) : (2 * m + 1) * (2 * m + 1) ≤ 289 := Nat.mul_le_mul (show 2 * m + 1 ≤ 17 by omega) (show 2 * m + 1 ≤ 17 by omega)
theorem iv_ywork_l {post : SY → Prop} {many : Nat} {A : iv_N} (hn : iv_n many) (hA : ∀ i j, i < j → j < many → bA (4 * i + j) = nI (A i j) ∧ A i j < 8192) :
    ∀ M : Nat, (∀ (fs : List iv_Gr) (l : List ((Nat → Nat) × Nat)) (gt gf gl : Int32) (bT bN bR bE bZ : Nat → Int32) (step fuel : Nat), iv_GS many bT bN bR fs → iv_Acc many l gt gf gl bE bZ → (∀ x, x ∈ l → x.2 ≤ 8) → iv_yms fs ≤ M → step + M < 400000 → M < fuel →
        iv_WP gi gk bS bP bA bL post many (l ++ iv_yr A fs) → wY_work_66 post (nI many) fuel (nI fs.length) (nI step) gi gk gt gf gl bS bP bA bL bT bN bR bE bZ) ∧
      (∀ (fs : List iv_Gr) (L : Nat → Nat) (m : Nat) (l : List ((Nat → Nat) × Nat)) (gt gf gl : Int32) (bT bN bR bE bZ : Nat → Int32) (step fuel : Nat), iv_Can many L m → (∀ c, c < 2 * many → bT (8 * many + c) = nI (L c)) → bN many = nI m → fs.length + 1 = many →
        iv_GS many bT bN bR fs → iv_Acc many l gt gf gl bE bZ → (∀ x, x ∈ l → x.2 ≤ 8) → 1 + iv_yms fs ≤ M → step + M < 400000 → M < fuel →
        iv_WP gi gk bS bP bA bL post many (l ++ (L, m) :: iv_yr A fs) → wY_work_66 post (nI many) fuel (nI many) (nI step) gi gk gt gf gl bS bP bA bL bT bN bR bE bZ) := by
  have hn4 : 2 ≤ many ∧ many ≤ 4 := by
    unfold iv_n at hn
    omega
  intro M
  induction M with
  | zero =>
    refine ⟨?_, ?_⟩
    · intro fs l gt gf gl bT bN bR bE bZ step fuel hG hAc hl8 hM hst hfu hW
      cases fuel with
      | zero => omega
      | succ fuel =>
      cases fs with
      | nil =>
        rw [iv_yr, List.append_nil] at hW
        exact br_f (nI_ge (b := 400000) (by omega) (by decide)) (br_t (by decide) (hW _ _ _ _ _ _ _ _ hAc))
      | cons f fs =>
        rw [iv_yms] at hM
        unfold iv_ym at hM
        omega
    · intro fs L m l gt gf gl bT bN bR bE bZ step fuel _ _ _ _ _ _ _ hM
      omega
  | succ M ih =>
    obtain ⟨ih1, ih2⟩ := ih
    refine ⟨?_, ?_⟩
    · intro fs l gt gf gl bT bN bR bE bZ step fuel hG hAc hl8 hM hst hfu hW
      cases fuel with
      | zero => omega
      | succ fuel =>
      cases fs with
      | nil =>
        rw [iv_yr, List.append_nil] at hW
        exact br_f (nI_ge (b := 400000) (by omega) (by decide)) (br_t (by decide) (hW _ _ _ _ _ _ _ _ hAc))
      | cons f fs =>
      obtain ⟨d, k, L, m, t⟩ := f
      obtain ⟨hd, hk, ⟨hC, hT, hN, hR, ht⟩, hGs⟩ := hG
      have hd : d + k + 1 = many := hd
      have hk : k = fs.length + 1 := hk
      have hC : iv_Can k L m := hC
      have hT : ∀ c, c < 2 * k → bT (8 * k + c) = nI (L c) := hT
      have hN : bN k = nI m := hN
      have hR : bR k = nI t := hR
      have ht : t ≤ (2 * m + 1) * (2 * m + 1) := ht
      have hm := iv_can_m hC
      have hsq := iv_sq13 (m := m) (by omega)
      have hL : ∀ c, c < 2 * k → L c < 100 := fun c hc => by
        have := hC.2.1 c hc
        omega
      have ek : (nI k).toNatClampNeg = k := nI_clamp (by omega)
      have vk : vp_in (nI k) 5 := vp_in_nI (by omega) (by decide)
      have eP : (2 : Int32) * nI m + 1 = nI (2 * m + 1) := iv_2r m 1
      rw [List.length_cons, ← hk]
      refine br_f (nI_ge (b := 400000) (by omega) (by decide)) (br_f (nI_nle (by omega) (by omega)) ⟨vk, ?_⟩)
      rw [ek, hN, eP, hR]
      refine nm_e (br_f (fun z => absurd ((nI_eq (by omega) (by omega)).mp z) (by omega)) ⟨vk, ?_⟩)
      rw [pk_mul]
      rw [iv_yms] at hM
      refine pk_lt t ((2 * m + 1) * (2 * m + 1)) (fun hlt => ⟨vk, br_t (nI_le (a := 1) (by omega) (by omega)) ?_⟩) (fun hge => ?_) rfl rfl (by omega) (by omega)
      · have hp := iv_t_p hlt
        have hq := iv_t_q (m := m) (t := t)
        have eD : nI t / nI (2 * m + 1) = nI (t / (2 * m + 1)) := pk_div (by omega) (by omega) (by omega)
        have eM : nI t - nI t / nI (2 * m + 1) * nI (2 * m + 1) = nI (t % (2 * m + 1)) := pk_rem (by omega) (by omega) (by omega)
        have zne : ¬ nI (2 * m + 1) = 0 := nI_ne0 (by omega) (by omega)
        have hno := iv_ym_no (d := d) (k := k) (L := L) hlt
        have hno' : ∀ (bT' bN' : Nat → Int32), (∀ c, c < 8 * (k + 1) → bT' c = bT c) → (∀ e, e ≤ k → bN' e = bN e) → ¬ iv_go A k L m t = true →
            wY_work_66 post (nI many) fuel (nI k) (nI (step + 1)) gi gk gt gf gl bS bP bA bL bT' bN' (upd bR k (nI (t + 1))) bE bZ := by
          intro bT' bN' hbT hbN hg
          have := ih1 ((d, k, L, m, t + 1) :: fs) l gt gf gl bT' bN' (upd bR k (nI (t + 1))) bE bZ (step + 1) fuel
            ⟨hd, hk, ⟨hC, fun c hc => by rw [hbT _ (by dsimp only at hc ⊢; omega)]; exact hT c hc, by rw [hbN _ (Nat.le_refl _)]; exact hN, pk_us, by dsimp only; omega⟩,
              iv_GS_keep (K := fs.length) (by omega) (fun c hc => hbT c (by omega)) (fun e he => ⟨hbN e (by omega), pk_un (by omega)⟩) fs (Nat.le_refl _) hGs⟩
            hAc hl8 (by rw [iv_yms]; omega) (by omega) (by omega) (by rw [← iv_yr_no hlt hg]; exact hW)
          rw [List.length_cons, ← hk] at this
          exact this
        have h197 : (t / (2 * m + 1) < t % (2 * m + 1) ∨ (t / (2 * m + 1) = t % (2 * m + 1) ∧ t / (2 * m + 1) % 2 = 0)) →
            wY_work_197 post (wY_work_66 post (nI many) fuel) (nI many) (nI k) (nI step) (nI (t / (2 * m + 1))) (nI (t % (2 * m + 1))) gi gk gt gf gl bS bP bA bL bT bN (upd bR k (nI (t + 1))) bE bZ := by
          intro hv
          have hC' := iv_can_ex hC hv hp hq
          have hm' := iv_can_m hC'
          have hyes := iv_ym_yes (d := d) (k := k) (L := L) hlt (iv_v_iff.mpr hv)
          unfold wY_work_197
          refine iv_yins (by omega) (by omega) (by omega) (by omega) hL hN hT (fun bT' hT' hbT => ?_)
          dsimp only
          refine iv_yfits (A := A) (by omega) hT' (fun c hc => by have := hC'.2.1 c hc; omega) (fun i hi => hA i k hi (by omega)) (fun hf => ?_) (fun hf => ?_)
          · have hg : iv_go A k L m t = true := by
              unfold iv_go
              rw [iv_v_iff.mpr hv, hf]
              rfl
            have hbN : ∀ e, e ≤ k → upd bN (k + 1) (nI (m + iv_f (t / (2 * m + 1)) + iv_f (t % (2 * m + 1)))) e = bN e := fun e he => pk_un (by omega)
            have hbR : ∀ e, e ≤ k → upd (upd bR k (nI (t + 1))) (k + 1) (nI 0) e = upd bR k (nI (t + 1)) e := fun e he => pk_un (by omega)
            have hlow : iv_GS many bT' (upd bN (k + 1) (nI (m + iv_f (t / (2 * m + 1)) + iv_f (t % (2 * m + 1))))) (upd (upd bR k (nI (t + 1))) (k + 1) (nI 0)) ((d, k, L, m, t + 1) :: fs) := by
              refine ⟨hd, hk, ⟨hC, fun c hc => ?_, ?_, ?_, by dsimp only; omega⟩, ?_⟩
              · rw [hbT _ (by dsimp only at hc ⊢; omega)]
                exact hT c hc
              · rw [hbN _ (Nat.le_refl _)]
                exact hN
              · rw [hbR _ (Nat.le_refl _)]
                exact pk_us
              · refine iv_GS_keep (K := fs.length) (by omega) (fun c hc => hbT c (by omega)) (fun e he => ⟨hbN e (by omega), ?_⟩) fs (Nat.le_refl _) hGs
                rw [hbR e (by omega)]
                exact pk_un (by omega)
            refine br_f (by decide) (nm_r (nI_1 k) ⟨vp_in_nI (by omega) (by decide), ?_⟩)
            rw [nI_clamp (n := k + 1) (by omega)]
            refine nm_e (nm_r (nI_1 step) ?_)
            cases d with
            | zero =>
              have e1 : many = k + 1 := by omega
              subst e1
              refine ih2 ((0, k, L, m, t + 1) :: fs) _ _ l gt gf gl _ _ _ bE bZ (step + 1) fuel hC' hT' pk_us (by rw [List.length_cons]; omega) hlow hAc hl8 ?_ (by omega) (by omega) ?_
              · rw [iv_yms]
                have : iv_be3 0 = 1 := rfl
                omega
              · rw [← iv_yr_leaf hlt hg]
                exact hW
            | succ d =>
              have hnew := iv_ym_new (d := d) (k := k + 1) (L := iv_ex k L (t / (2 * m + 1)) (t % (2 * m + 1))) (m := m + iv_f (t / (2 * m + 1)) + iv_f (t % (2 * m + 1))) (by omega) (by omega)
              have := ih1 ((d, k + 1, iv_ex k L (t / (2 * m + 1)) (t % (2 * m + 1)), m + iv_f (t / (2 * m + 1)) + iv_f (t % (2 * m + 1)), 0) :: (d + 1, k, L, m, t + 1) :: fs) l gt gf gl bT' _ _ bE bZ (step + 1) fuel
                ⟨by dsimp only; omega, by dsimp only; rw [List.length_cons]; omega, ⟨hC', hT', pk_us, pk_us, Nat.zero_le _⟩, hlow⟩ hAc hl8 (by rw [iv_yms, iv_yms]; omega) (by omega) (by omega) (by rw [← iv_yr_in hlt hg]; exact hW)
              rw [List.length_cons, List.length_cons, ← hk] at this
              exact this
          · refine br_t rfl (nm_r (nI_1 step) (hno' bT' _ hbT (fun e he => pk_un (by omega)) (fun hg => ?_)))
            unfold iv_go at hg
            rw [Bool.and_eq_true] at hg
            exact hf hg.2
        have hnv : ¬ (t / (2 * m + 1) < t % (2 * m + 1) ∨ (t / (2 * m + 1) = t % (2 * m + 1) ∧ t / (2 * m + 1) % 2 = 0)) →
            wY_work_66 post (nI many) fuel (nI k) (nI (step + 1)) gi gk gt gf gl bS bP bA bL bT bN (upd bR k (nI (t + 1))) bE bZ := by
          intro hv
          exact hno' bT bN (fun _ _ => rfl) (fun _ _ => rfl) (fun hg => hv (iv_go_iff.mp hg).1)
        have h163 : wY_work_163 post (wY_work_66 post (nI many) fuel) (nI many) (nI k) (nI step) (nI (t / (2 * m + 1))) (nI (2 * m + 1)) (nI t) gi gk gt gf gl bS bP bA bL bT bN bR bE bZ := by
          unfold wY_work_163
          rw [ek, hR, nI_1 t, iv_r2 (p := t / (2 * m + 1)) (by omega)]
          refine ⟨zne, nm_r eM ⟨vk, vk, nm_e ?_⟩⟩
          refine pk_lt (t / (2 * m + 1)) (t % (2 * m + 1)) (fun c => h197 (Or.inl c)) (fun c => ?_) rfl rfl (by omega) (by omega)
          refine pk_eq (t % (2 * m + 1)) (t / (2 * m + 1)) (fun e => ⟨iv_n2, ?_⟩) (fun e => nm_r (nI_1 step) (hnv (by omega))) rfl rfl (by omega) (by omega)
          refine pk_eq (t / (2 * m + 1) % 2) 0 (fun e2 => h197 (Or.inr ⟨e.symm, e2⟩)) (fun e2 => nm_r (nI_1 step) (hnv (by omega))) rfl rfl (by omega) (by decide)
        unfold wY_work_142
        rw [ek, hR]
        exact ⟨zne, nm_r eD ⟨vk, br_t (nI_le (a := 1) (by omega) (by omega)) h163⟩⟩
      · have em : nI k + (-1) = nI fs.length := by
          rw [hk]
          exact pk_m1 _
        have hy : 1 ≤ iv_ym (d, k, L, m, t) := by
          unfold iv_ym
          omega
        refine nm_r em (nm_r (nI_1 step) (ih1 fs l gt gf gl bT bN bR bE bZ (step + 1) fuel hGs hAc hl8 (by omega) (by omega) (by omega) ?_))
        rw [← iv_yr_end hge]
        exact hW
    · intro fs L m l gt gf gl bT bN bR bE bZ step fuel hC hT hN hl hGs hAc hl8 hM hst hfu hW
      cases fuel with
      | zero => omega
      | succ fuel =>
      have hm := iv_can_m hC
      have hL : ∀ c, c < 2 * many → L c < 100 := fun c hc => by
        have := hC.2.1 c hc
        omega
      have vk : vp_in (nI many) 5 := vp_in_nI (by omega) (by decide)
      refine br_f (nI_ge (b := 400000) (by omega) (by decide)) (br_f (nI_nle (by omega) (by omega)) ⟨vk, nm_e (br_t rfl ?_)⟩)
      refine iv_yvis hn hT hL hN (by omega) hl8 hAc (fun gt' gf' gl' bE' bZ' hAc' => ?_)
      have em : nI many + (-1) = nI fs.length := by
        rw [← hl]
        exact pk_m1 _
      refine nm_r em (nm_r (nI_1 step) (ih1 fs (l ++ [(L, m)]) gt' gf' gl' bT bN bR bE' bZ' (step + 1) fuel hGs hAc' (fun x hx => ?_) (by omega) (by omega) (by omega) ?_))
      · rcases List.mem_append.mp hx with hx | hx
        · exact hl8 x hx
        · rw [List.mem_singleton.mp hx]
          show m ≤ 8
          omega
      · rw [List.append_assoc]
        exact hW
end
