def iv_Acc (k : Nat) (l : List ((Nat → Nat) × Nat)) (gt gf gl : Int32) (bE bZ : Nat → Int32) : Prop :=
  gt = nI l.length ∧ (∀ i j, i < k → j < k → i ≠ j → bE (4 * i + j) = nI (iv_or (l.map (fun x => iv_rl x.1 i j)))) ∧ (l = [] → gf = -2) ∧
  (l ≠ [] → gf = nI (iv_min (l.map (fun x => x.2)))) ∧ (∀ l' x, l = l' ++ [x] → gl = nI x.2 ∧ ∀ c, c < 2 * k → bZ c = nI (x.1 c))
theorem iv_uni {k i j p : Nat} (hj : j < k) : k * i + j = p ↔ (i = p / k ∧ j = p % k) := by
  constructor
  · intro e
    subst e
    rw [Nat.mul_add_div (by omega), Nat.div_eq_of_lt hj, Nat.mul_add_mod, Nat.mod_eq_of_lt hj]
    exact ⟨rfl, rfl⟩
  · rintro ⟨e1, e2⟩
    rw [e1, e2]
    exact Nat.div_add_mod p k
theorem iv_sq {k i j : Nat} (hi : i < k) (hj : j < k) : k * i + j < k * k := by
  have h1 : k * (i + 1) ≤ k * k := Nat.mul_le_mul_left _ hi
  rw [Nat.mul_add] at h1
  omega
section
variable {gi gk : Int32} {bS bP bA bL bT bN bR : Nat → Int32}
theorem iv_yvis79 {post : SY → Prop} {k m : Nat} {L : Nat → Nat} {l : List ((Nat → Nat) × Nat)} {gt gf gl : Int32} {bE bZ : Nat → Int32} (hk4 : k ≤ 4) (hT : ∀ c, c < 2 * k → bT (8 * k + c) = nI (L c)) (hN : bN k = nI m) (hm : m ≤ 8)
    (hl8 : ∀ x, x ∈ l → x.2 ≤ 8) (h1 : gt = nI (l.length + 1)) (h2 : ∀ i j, i < k → j < k → i ≠ j → bE (4 * i + j) = nI (iv_or ((l ++ [(L, m)]).map (fun x => iv_rl x.1 i j)))) (h3 : l = [] → gf = -2)
    (h4 : l ≠ [] → gf = nI (iv_min (l.map (fun x => x.2))))
    (h : ∀ gf' gl' bZ', iv_Acc k (l ++ [(L, m)]) gt gf' gl' bE bZ' → post (gi, gk, gt, gf', gl', bS, bP, bA, bL, bT, bN, bR, bE, bZ')) :
    ∃ f, wY_visit_79 post (nI k) gi gk gt gf gl f 0 bS bP bA bL bT bN bR bE bZ := by
  have acc : ∀ gf' bZ', gf' = nI (iv_min ((l ++ [(L, m)]).map (fun x => x.2))) → (∀ c, c < 2 * k → bZ' c = nI (L c)) → iv_Acc k (l ++ [(L, m)]) gt gf' (nI m) bE bZ' := by
    intro gf' bZ' e hz
    refine ⟨by rw [List.length_append]; exact h1, h2, fun z => absurd z (by simp), fun _ => e, fun l' x hx => ?_⟩
    have e2 := List.append_inj_right' hx rfl
    cases e2
    exact ⟨rfl, hz⟩
  have key : ∀ e c bZ, c + e = 8 → (∀ a, a < c → bZ a = bT (8 * k + a)) → wY_visit_79 post (nI k) gi gk gt gf gl (e + 1) (nI c) bS bP bA bL bT bN bR bE bZ := by
    intro e
    induction e with
    | zero =>
      intro c bZ hc hz
      have e : c = 8 := by omega
      subst e
      have hz' : ∀ c, c < 2 * k → bZ c = nI (L c) := fun c hc => by
        rw [hz c (by omega)]
        exact hT c hc
      refine br_t (nI_le (a := 8) (b := 8) (by decide) (by decide)) ⟨vp_in_nI (by omega) (by decide), ?_⟩
      rw [nI_clamp (by omega), hN]
      refine nm_e ?_
      by_cases hl : l = []
      · rw [h3 hl]
        refine br_t (by decide) (h _ _ _ (acc _ _ ?_ hz'))
        rw [hl]
        rfl
      · have hmn := iv_min_spec (l.map (fun x => x.2)) (by simpa using hl)
        have hb8 : iv_min (l.map (fun x => x.2)) ≤ 8 := by
          obtain ⟨x, hx, ex⟩ := List.mem_map.mp hmn.1
          have := hl8 x hx
          omega
        rw [h4 hl]
        have em : iv_min ((l ++ [(L, m)]).map (fun x => x.2)) = if m < iv_min (l.map (fun x => x.2)) then m else iv_min (l.map (fun x => x.2)) := by
          rw [List.map_append]
          exact iv_min_app (by simpa using hl) m
        refine br_f (nI_pos (by omega)) (pk_le (iv_min (l.map (fun x => x.2))) m (fun c => h _ _ _ (acc _ _ ?_ hz')) (fun c => h _ _ _ (acc _ _ ?_ hz')) rfl rfl (by omega) (by omega))
        · rw [em, if_neg (by omega)]
        · rw [em, if_pos c]
    | succ e ih =>
      intro c bZ hc hz
      refine br_f (nI_ge (b := 8) (by omega) (by decide)) ?_
      rw [iv_8, nI_clamp (n := 8 * k + c) (by omega), nI_clamp (n := c) (by omega)]
      refine ⟨vp_in_nI (by omega) (by decide), vp_in_nI (by omega) (by decide), nm_e (nm_r (nI_1 c) (ih (c + 1) _ (by omega) (fun a ha => ?_)))⟩
      by_cases e : a = c
      · rw [e, pk_us]
      · rw [pk_un e]
        exact hz a (by omega)
  exact ⟨9, key 8 0 bZ (by decide) (fun a ha => absurd ha (Nat.not_lt_zero _))⟩
theorem iv_yvis {post : SY → Prop} {k m : Nat} {L : Nat → Nat} {l : List ((Nat → Nat) × Nat)} {gt gf gl : Int32} {bE bZ : Nat → Int32} (hk : iv_n k) (hT : ∀ c, c < 2 * k → bT (8 * k + c) = nI (L c)) (hL : ∀ c, c < 2 * k → L c < 100) (hN : bN k = nI m) (hm : m ≤ 8)
    (hl8 : ∀ x, x ∈ l → x.2 ≤ 8) (hA : iv_Acc k l gt gf gl bE bZ)
    (h : ∀ gt' gf' gl' bE' bZ', iv_Acc k (l ++ [(L, m)]) gt' gf' gl' bE' bZ' → post (gi, gk, gt', gf', gl', bS, bP, bA, bL, bT, bN, bR, bE', bZ')) :
    wpY_visit post (gi, gk, gt, gf, gl, bS, bP, bA, bL, bT, bN, bR, bE, bZ) (nI k) := by
  have h14 : 2 ≤ k ∧ k ≤ 4 := by
    unfold iv_n at hk
    omega
  have hkk : k * k ≤ 4 * 4 := Nat.mul_le_mul h14.2 h14.2
  have key : ∀ e p bE, p + e = k * k → (∀ i j, i < k → j < k → i ≠ j → bE (4 * i + j) = nI (if k * i + j < p then iv_or ((l ++ [(L, m)]).map (fun x => iv_rl x.1 i j)) else iv_or (l.map (fun x => iv_rl x.1 i j)))) →
      wY_visit_12 post (nI k) gi gk (nI (l.length + 1)) gf gl (e + 1) (nI p) bS bP bA bL bT bN bR bE bZ := by
    intro e
    induction e with
    | zero =>
      intro p bE hp hE
      have e : p = k * k := by omega
      subst e
      refine br_t (by rw [pk_mul]; exact nI_le (Nat.le_refl _) (by omega)) (iv_yvis79 h14.2 hT hN hm hl8 rfl (fun i j hi hj hij => ?_) hA.2.2.1 hA.2.2.2.1 (fun gf' gl' bZ' ha => h _ _ _ _ _ ha))
      rw [hE i j hi hj hij, if_pos (iv_sq hi hj)]
    | succ e ih =>
      intro p bE hp hE
      have hpk : p < k * k := by omega
      have hi0 : p / k < k := Nat.div_lt_of_lt_mul hpk
      have hj0 : p % k < k := Nat.mod_lt _ (by omega)
      have eD : nI p / nI k = nI (p / k) := pk_div (by omega) (by omega) (by omega)
      have eR : nI p - nI p / nI k * nI k = nI (p % k) := pk_rem (by omega) (by omega) (by omega)
      have kne : ¬ nI k = 0 := nI_ne0 (by omega) (by omega)
      refine br_f (by rw [pk_mul]; exact nI_ge hpk (by omega)) ⟨kne, nm_r eD ⟨kne, nm_r eR ?_⟩⟩
      refine pk_eq (p / k) (p % k) (fun c => ?_) (fun c => ?_) rfl rfl (by omega) (by omega)
      · refine nm_r (nI_1 p) (ih (p + 1) bE (by omega) (fun i j hi hj hij => ?_))
        rw [hE i j hi hj hij]
        have : ¬ k * i + j = p := fun z => by
          have := (iv_uni hj).mp z
          omega
        by_cases q : k * i + j < p
        · rw [if_pos q, if_pos (by omega)]
        · rw [if_neg q, if_neg (by omega)]
      · refine iv_yrin h14.2 hi0 hj0 hT hL ?_
        have r13 : iv_rl L (p / k) (p % k) < 13 := iv_rel_lt _ _ _ _
        have e0 := hE (p / k) (p % k) hi0 hj0 c
        rw [if_neg (by have := (iv_uni (i := p / k) (p := p) hj0).mpr ⟨rfl, rfl⟩; omega)] at e0
        rw [iv_4c, iv_ccl (by omega) (by omega), e0, iv_1or r13, ← iv_or_app]
        refine ⟨iv_cin (by omega) (by omega), iv_cin (by omega) (by omega), nm_e (nm_r (nI_1 p) (ih (p + 1) _ (by omega) (fun i j hi hj hij => ?_)))⟩
        by_cases q : i = p / k ∧ j = p % k
        · have q' := (iv_uni hj).mpr q
          rw [q.1, q.2, pk_us, if_pos (by rw [← q.1, ← q.2]; omega), List.map_append]
          rfl
        · have q' : ¬ k * i + j = p := fun z => q ((iv_uni hj).mp z)
          have q2 : ¬ 4 * i + j = 4 * (p / k) + p % k := by omega
          rw [pk_un q2, hE i j hi hj hij]
          by_cases w : k * i + j < p
          · rw [if_pos w, if_pos (by omega)]
          · rw [if_neg w, if_neg (by omega)]
  unfold wpY_visit
  dsimp only
  rw [hA.1]
  refine nm_r (nI_1 l.length) ⟨k * k + 1, key (k * k) 0 bE (by omega) (fun i j hi hj hij => ?_)⟩
  rw [if_neg (Nat.not_lt_zero _)]
  exact hA.2.1 i j hi hj hij
end
