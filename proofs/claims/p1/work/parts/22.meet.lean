theorem iv_cm_L {n : Nat} {L : Nat → Nat} {m : Nat} {N : iv_N} (hC : iv_Can n L m) (hN : ∀ i j, i < n → j < n → iv_rl L i j = N i j) {p q : Nat} (hp : p < 2 * n) (hq : q < 2 * n) : iv_cm N p q = iv_cmp (L p) (L q) := by
  rw [← iv_rl_cm hC.1 hp hq]
  unfold iv_cm
  rw [hN _ _ (by omega) (by omega)]
theorem iv_fN_L {n : Nat} {L : Nat → Nat} {m : Nat} {N : iv_N} (hC : iv_Can n L m) (hN : ∀ i j, i < n → j < n → iv_rl L i j = N i j) {p : Nat} (hp : p < 2 * n) : iv_fN N p = iv_fst L p := by
  rw [Bool.eq_iff_iff, iv_fN_iff, iv_fst_iff]
  constructor
  · intro h q hq e
    have := h q hq
    rw [iv_cm_L hC hN (by omega) hp] at this
    exact this (iv_c1 e)
  · intro h q hq e
    rw [iv_cm_L hC hN (by omega) hp] at e
    have h1 := iv_cs (L q) (L p)
    have h2 := h q hq
    omega
theorem iv_pts {n : Nat} {L : Nat → Nat} {m : Nat} {N : iv_N} (hC : iv_Can n L m) (hN : ∀ i j, i < n → j < n → iv_rl L i j = N i j) : iv_ct (iv_fN N) (2 * n) = m := by
  rw [← iv_total hC]
  exact iv_ct_congr _ (fun q hq => iv_fN_L hC hN hq)
theorem iv_plc {n : Nat} {L : Nat → Nat} {m : Nat} {N : iv_N} (hC : iv_Can n L m) (hN : ∀ i j, i < n → j < n → iv_rl L i j = N i j) {p : Nat} (hp : p < 2 * n) : iv_ct (fun q => decide (iv_cm N q p = 0) && iv_fN N q) (2 * n) = L p := by
  refine Eq.trans (iv_ct_congr _ (fun q hq => ?_)) (iv_rank hC (L p) (Nat.le_of_lt (hC.2.1 p hp)))
  rw [iv_fN_L hC hN hq, iv_cm_L hC hN hq hp]
  congr 1
  refine decide_eq_decide.mpr ?_
  have := iv_cs (L q) (L p)
  omega
theorem iv_crd {n : Nat} {L : Nat → Nat} {m : Nat} {N : iv_N} (hn : n ≤ 4) (hC : iv_Can n L m) (hN : ∀ i j, i < n → j < n → iv_rl L i j = N i j) : iv_mx (iv_cb n N) n = iv_mx (iv_cv n L) 8 := by
  rw [← iv_crowd hC hn]
  refine iv_mx_congr n (fun i hi => ?_)
  refine iv_ct_congr n (fun j hj => ?_)
  rw [iv_cm_L hC hN (by omega) (by omega), iv_cm_L hC hN (by omega) (by omega)]
  have h1 := iv_cs (L (2 * j)) (L (2 * i))
  have h2 := iv_cs (L (2 * j + 1)) (L (2 * i))
  congr 1
  · exact decide_eq_decide.mpr (by omega)
  · exact decide_eq_decide.mpr (by omega)
theorem iv_pos {n : Nat} (hn : iv_n n) {A : iv_N} {i j : Nat} (hi : i < n) (hj : j < n) : iv_or ((iv_nets A (iv_ps n) iv_R0).map (fun N => N i j)) = iv_or ((iv_leaves n A).map (fun x => iv_rl x.1 i j)) := by
  apply iv_or_ext
  intro t
  rw [List.mem_map, List.mem_map]
  constructor
  · rintro ⟨N, hN, e⟩
    obtain ⟨x, hx, ex⟩ := (iv_same hn N).mp hN
    refine ⟨x, hx, ?_⟩
    rw [← e, ← ex, iv_nt_in hi hj]
  · rintro ⟨x, hx, e⟩
    exact ⟨iv_nt n x.1, (iv_same hn _).mpr ⟨x, hx, rfl⟩, by rw [iv_nt_in hi hj]; exact e⟩
theorem iv_few {n : Nat} (hn : iv_n n) {A : iv_N} (h : iv_nets A (iv_ps n) iv_R0 ≠ []) : iv_leaves n A ≠ [] ∧ iv_min ((iv_nets A (iv_ps n) iv_R0).map (fun N => iv_ct (iv_fN N) (2 * n))) = iv_min ((iv_leaves n A).map (fun x => x.2)) := by
  have hn1 : 1 ≤ n := by
    unfold iv_n at hn
    omega
  refine ⟨fun z => h ?_, ?_⟩
  · have := iv_len hn A
    rw [z, List.length_nil] at this
    exact List.length_eq_zero_iff.mp this.symm
  · refine iv_min_ext (fun t => ?_) (by simpa using h)
    rw [List.mem_map, List.mem_map]
    constructor
    · rintro ⟨N, hN, e⟩
      obtain ⟨x, hx, ex⟩ := (iv_same hn N).mp hN
      refine ⟨x, hx, ?_⟩
      rw [← e]
      exact (iv_pts (iv_leaf_can hn1 hx).1 (fun i j hi hj => by rw [← ex, iv_nt_in hi hj])).symm
    · rintro ⟨x, hx, e⟩
      refine ⟨iv_nt n x.1, (iv_same hn _).mpr ⟨x, hx, rfl⟩, ?_⟩
      rw [← e]
      exact iv_pts (iv_leaf_can hn1 hx).1 (fun i j hi hj => by rw [iv_nt_in hi hj])
section
variable {fn fp fk fd : Int32} {aA aP aL aT aM a1 a2 aU aS : Nat → Int32}
theorem iv_xst {post : SX → Prop} {i j U : Nat} (hi : i < 4) (hj : j < 4) (hU : U < 8192) (h : ∀ aA', post (fn, fp, fk, fd, aA', aP, aL, aT, aM, a1, a2, aU, aS)) :
    wpX_state post (fn, fp, fk, fd, aA, aP, aL, aT, aM, a1, a2, aU, aS) (nI i) (nI j) (nI U) := by
  unfold wpX_state
  simp only [wpX_cell, iv_c4]
  exact ⟨iv_cin hi hj, nm_e (iv_xmir hU ⟨iv_cin hj hi, nm_e (h _)⟩)⟩
end
section
variable {gi gk gt gf gl : Int32} {bS bP bA bL bT bN bR bE bZ : Nat → Int32}
theorem iv_yst {post : SY → Prop} {i j U : Nat} (hi : i < 4) (hj : j < 4) (hU : U < 8192) (h : ∀ bS', post (gi, gk, gt, gf, gl, bS', bP, bA, bL, bT, bN, bR, bE, bZ)) :
    wpY_state post (gi, gk, gt, gf, gl, bS, bP, bA, bL, bT, bN, bR, bE, bZ) (nI i) (nI j) (nI U) := by
  unfold wpY_state
  simp only [iv_4c]
  exact ⟨iv_cin hi hj, nm_e (iv_ytur hU ⟨iv_cin hj hi, nm_e (h _)⟩)⟩
end
