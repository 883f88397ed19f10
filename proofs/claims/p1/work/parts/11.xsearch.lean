theorem iv_c13 (a b : Nat) : nI a * 13 + nI b = nI (13 * a + b) := by
  have h : nI a * nI 13 = nI (a * 13) := pk_mul a 13
  have h2 : nI a * (13 : Int32) = nI (a * 13) := h
  rw [h2, nI_add, Nat.mul_comm]
theorem iv_m1 : (-1 : Int32) = nI 4294967295 := by decide
theorem iv_wo_of {U r : Nat} (hU : U < 8192) (hr : r < 13) (hb : U.testBit r = true) (hl : ∀ s, s < r → U.testBit s = false) : iv_wo U r (U &&& (2 ^ r ^^^ 4294967295)) := by
  have e : ∀ s, (2 ^ r ^^^ 4294967295).testBit s = (decide (r = s) ^^ decide (s < 32)) := by
    intro s
    rw [Nat.testBit_xor, Nat.testBit_two_pow, show 4294967295 = 2 ^ 32 - 1 from rfl, Nat.testBit_two_pow_sub_one]
  refine ⟨hb, hl, ?_, fun s hs => ?_⟩
  · rw [Nat.testBit_and, e, decide_eq_true rfl, decide_eq_true (show r < 32 by omega)]
    simp
  · rw [Nat.testBit_and, e, decide_eq_false (fun z => hs z.symm)]
    by_cases c : s < 32
    · rw [decide_eq_true c]
      simp
    · have : U.testBit s = false := Nat.testBit_lt_two_pow (Nat.lt_of_lt_of_le hU (Nat.le_trans (show 8192 ≤ 2 ^ 13 by decide) (Nat.pow_le_pow_right (by decide) (by omega))))
      rw [this]
      simp
theorem iv_xleast {post : Int32 → Prop} {U : Nat} (hU : U < 8192) (hne : U ≠ 0) (h : ∀ r, r < 13 → U.testBit r = true → (∀ s, s < r → U.testBit s = false) → post (nI r)) : wpX_leastOf post (nI U) := by
  have key : ∀ d r, r + d = 12 → (∀ s, s < r → U.testBit s = false) → wX_leastOf_2 post (nI U) (d + 1) (nI r) := by
    intro d
    induction d with
    | zero =>
      intro r hr hl
      have e : r = 12 := by omega
      subst e
      refine br_t (nI_le (a := 12) (b := 12) (by decide) (by decide)) (h 12 (by decide) ?_ hl)
      obtain ⟨i, hi⟩ := Nat.exists_testBit_of_ne_zero hne
      have h1 : ¬ i < 12 := fun z => by
        rw [hl i z] at hi
        exact absurd hi (by decide)
      have h2 : ¬ 13 ≤ i := fun z => by
        rw [Nat.testBit_lt_two_pow (Nat.lt_of_lt_of_le hU (Nat.le_trans (show 8192 ≤ 2 ^ 13 by decide) (Nat.pow_le_pow_right (by decide) z)))] at hi
        exact absurd hi (by decide)
      rw [show 12 = i by omega]
      exact hi
    | succ d ih =>
      intro r hr hl
      refine br_f (nI_ge (b := 12) (by omega) (by decide)) ?_
      rw [iv_bit hU (by omega)]
      by_cases c : U.testBit r = true
      · refine br_f ?_ (h r (by omega) c hl)
        rw [(iv_b_1 U r).mpr c]
        decide
      · refine br_t ?_ (nm_r (nI_1 r) (ih (r + 1) (by omega) (fun s hs => ?_)))
        · rw [iv_b_t, if_neg c]
          rfl
        · by_cases e : s = r
          · rw [e]
            exact Bool.eq_false_iff.mpr c
          · exact hl s (by omega)
  exact ⟨13, key 12 0 (by decide) (fun s hs => absurd hs (Nat.not_lt_zero _))⟩
section
variable {fn fp fk : Int32} {aA aP aL aT aM a1 a2 aU aS : Nat → Int32} {d i j : Nat}
theorem iv_xtry {post : SX → Prop} {U : Nat} (hd : d < 6) (h1 : a1 d = nI i) (h2 : a2 d = nI j) (hi : i < 4) (hj : j < 4) (hu : aU d = nI U) (hU : U < 8192) (hne : U ≠ 0)
    (h : ∀ r U', r < 13 → iv_wo U r U' → U' < 8192 → post (fn, fp, fk, nI d, aA, aP, aL, aT, aM, a1, a2, upd aU d (nI U'), upd (upd aS (4 * i + j) (nI r)) (4 * j + i) (nI (12 - r)))) :
    wpX_tryLeast post (fn, fp, fk, nI d, aA, aP, aL, aT, aM, a1, a2, aU, aS) := by
  have ed : (nI d).toNatClampNeg = d := nI_clamp (by omega)
  have vd : vp_in (nI d) 6 := vp_in_nI hd (by decide)
  unfold wpX_tryLeast
  dsimp only
  rw [ed, h1, h2, hu]
  refine ⟨vd, nm_e ⟨vd, nm_e ⟨vd, iv_xleast hU hne (fun r hr hb hl => ⟨vd, vd, ?_⟩)⟩⟩⟩
  have hw := iv_wo_of hU hr hb hl
  have e1 : nI U &&& (((1 : Int32) <<< (nI r &&& 31)) ^^^ (-1)) = nI (U &&& (2 ^ r ^^^ 4294967295)) := by
    rw [iv_1shl r hr, iv_m1, nx_xor, nx_and]
  rw [e1]
  refine nm_e ?_
  simp only [wpX_cell, iv_c4]
  refine ⟨iv_cin hi hj, nm_e ⟨iv_cin hj hi, nm_e ?_⟩⟩
  rw [iv_ccl hi hj, iv_ccl hj hi, iv_12 (by omega)]
  exact h r _ hr hw (Nat.lt_of_le_of_lt Nat.and_le_left hU)
theorem iv_xopen {post : SX → Prop} {A R : iv_N} (hd : d < 6) (h1 : a1 d = nI i) (h2 : a2 d = nI j) (hij : i < j) (hj : j < 4) (hA : aA (4 * i + j) = nI (A i j)) (hT : iv_TB aT iv_big)
    (hR : ∀ m, m < i → (aS (4 * i + m) = nI (R i m) ∧ R i m < 13) ∧ (aS (4 * m + j) = nI (R m j) ∧ R m j < 13))
    (h : post (fn, fp, fk, nI d, aA, aP, aL, aT, aM, a1, a2, upd aU d (nI (iv_opn A R i j)), aS)) :
    wpX_openPair post (fn, fp, fk, nI d, aA, aP, aL, aT, aM, a1, a2, aU, aS) := by
  have ed : (nI d).toNatClampNeg = d := nI_clamp (by omega)
  have vd : vp_in (nI d) 6 := vp_in_nI hd (by decide)
  have key : ∀ e m, m + e = i → wX_openPair_34 post (nI i) (nI j) fn fp fk (nI d) aA aP aL aT aM a1 a2 aU aS (e + 1) (nI (iv_om A R i j m)) (nI m) := by
    intro e
    induction e with
    | zero =>
      intro m hm
      have e : m = i := by omega
      subst e
      refine br_t (nI_le (Nat.le_refl _) (by omega)) ⟨vd, ?_⟩
      rw [ed]
      exact nm_e h
    | succ e ih =>
      intro m hm
      obtain ⟨⟨r1, r2⟩, ⟨r3, r4⟩⟩ := hR m (by omega)
      refine br_f (nI_ge (by omega) (by omega)) ?_
      simp only [wpX_cell, iv_c4]
      refine ⟨iv_cin (by omega) (by omega), nm_r (e' := nI (R i m)) (by rw [iv_ccl (by omega) (by omega)]; exact r1) ⟨iv_cin (by omega) (by omega), nm_r (e' := nI (R m j)) (by rw [iv_ccl (by omega) (by omega)]; exact r3) ?_⟩⟩
      rw [iv_c13]
      refine ⟨vp_in_nI (by omega) (by decide), nm_r (e' := nI (iv_om A R i j (m + 1))) ?_ (nm_r (nI_1 m) (ih (m + 1) (by omega)))⟩
      rw [nI_clamp (by omega), iv_TB_big hT r2 r4, nx_and, iv_om]
  unfold wpX_openPair
  dsimp only
  rw [ed, h1, h2]
  refine ⟨vd, nm_e ⟨vd, nm_e ?_⟩⟩
  simp only [wpX_cell, iv_c4]
  refine ⟨iv_cin (by omega) hj, nm_r (e' := nI (iv_om A R i j 0)) ?_ ⟨i + 1, key i 0 (by omega)⟩⟩
  rw [iv_ccl (by omega) hj, hA]
  rfl
end
def iv_XE (n : Nat) (A : iv_N) (aA aT a1 a2 : Nat → Int32) : Prop :=
  iv_n n ∧ iv_TB aT iv_big ∧ (∀ d, d < (iv_ps n).length → a1 d = nI ((iv_ps n).getD d (0, 0)).1 ∧ a2 d = nI ((iv_ps n).getD d (0, 0)).2) ∧
  (∀ i j, i < j → j < n → aA (4 * i + j) = nI (A i j) ∧ A i j < 8192)
def iv_FO (n d : Nat) (aU aS : Nat → Int32) (f : iv_Fr) : Prop :=
  f.1 :: f.2.1 = (iv_ps n).drop d ∧ aU d = nI f.2.2.2 ∧ f.2.2.2 < 8192 ∧ ∀ x y, x < 4 → y < 4 → iv_off (f.1 :: f.2.1) x y → (aS (4 * x + y) = nI (f.2.2.1 x y) ∧ f.2.2.1 x y < 13)
def iv_FS (n : Nat) (aU aS : Nat → Int32) : List iv_Fr → Prop
  | [] => True
  | f :: fs => iv_FO n fs.length aU aS f ∧ iv_FS n aU aS fs
theorem iv_drop_p {α : Type} {l tl : List α} {p z : α} {d : Nat} (h : p :: tl = l.drop d) : d < l.length ∧ l.getD d z = p ∧ tl = l.drop (d + 1) := by
  have hd : d < l.length := by
    by_cases c : d < l.length
    · exact c
    · rw [List.drop_eq_nil_of_le (by omega)] at h
      cases h
  rw [List.drop_eq_getElem_cons hd] at h
  have h1 := (List.cons.inj h).1
  have h2 := (List.cons.inj h).2
  refine ⟨hd, ?_, h2⟩
  rw [h1]
  simp [hd]
theorem iv_ps_len {n : Nat} (hn : iv_n n) : (iv_ps n).length ≤ 6 := by
  rcases hn with h | h | h <;> subst h <;> decide
theorem iv_p_in {n d : Nat} (hn : iv_n n) {p : Nat × Nat} {tl : List (Nat × Nat)} (h : p :: tl = (iv_ps n).drop d) : p.1 < p.2 ∧ p.2 < n := by
  have hm : p ∈ iv_ps n := List.mem_of_mem_drop (i := d) (by rw [← h]; exact List.mem_cons_self)
  exact (iv_ps_mem hn p).mp hm
theorem iv_drop_ord {n d : Nat} (hn : iv_n n) : iv_ord ((iv_ps n).drop d) := by
  have h := iv_ps_ord hn
  exact ⟨List.Pairwise.sublist (List.drop_sublist _ _) h.1, fun p hp => h.2 p (List.mem_of_mem_drop hp)⟩
/- a write at a pair that lies behind a frame leaves the frame -/
theorem iv_FS_wr {n : Nat} {aU aU' aS : Nat → Int32} {i j r : Nat} (hi : i < 4) (hj : j < 4) : ∀ (fs : List iv_Fr), (∀ e, e < fs.length → aU' e = aU e ∧ (i, j) ∈ (iv_ps n).drop e) → iv_FS n aU aS fs →
    iv_FS n aU' (upd (upd aS (4 * i + j) (nI r)) (4 * j + i) (nI (12 - r))) fs
  | [], _, _ => trivial
  | f :: fs, h, hf => by
    refine ⟨⟨hf.1.1, ?_, hf.1.2.2.1, fun x y hx hy ho => ?_⟩, iv_FS_wr hi hj fs (fun e he => h e (by rw [List.length_cons]; omega)) hf.2⟩
    · rw [(h fs.length (by rw [List.length_cons]; omega)).1]
      exact hf.1.2.1
    · have hm := (h fs.length (by rw [List.length_cons]; omega)).2
      rw [← hf.1.1] at hm
      have h1 := ho _ hm
      dsimp only at h1
      rw [pk_un (by omega), pk_un (by omega)]
      exact hf.1.2.2.2 x y hx hy ho
theorem iv_mem_drop {α : Type} {l tl : List α} {p : α} {d e : Nat} (h : p :: tl = l.drop d) (he : e ≤ d) : p ∈ l.drop e := by
  have h1 : p ∈ (l.drop e).drop (d - e) := by
    rw [List.drop_drop, show e + (d - e) = d by omega, ← h]
    exact List.mem_cons_self
  exact List.mem_of_mem_drop h1
theorem iv_FS_un {n : Nat} {aU aU' aS : Nat → Int32} {k : Nat} (h : ∀ e, e < k → aU' e = aU e) : ∀ (fs : List iv_Fr), fs.length ≤ k → iv_FS n aU aS fs → iv_FS n aU' aS fs
  | [], _, _ => trivial
  | f :: fs, hk, hf => by
    rw [List.length_cons] at hk
    refine ⟨⟨hf.1.1, ?_, hf.1.2.2⟩, iv_FS_un h fs (by omega) hf.2⟩
    rw [h _ (by omega)]
    exact hf.1.2.1
