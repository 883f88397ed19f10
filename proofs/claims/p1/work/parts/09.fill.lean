def iv_it {σ : Type} (F : Nat → σ → σ) : Nat → σ → σ
  | 0, s => s
  | i + 1, s => F i (iv_it F i s)
def iv_tz (xb xe yb ye zb ze M : Nat) : Nat := M ||| 1 <<< (13 * (13 * iv_rel xb xe yb ye + iv_rel yb ye zb ze) + iv_rel xb xe zb ze)
def iv_ta4 (xb xe yb ye zb : Nat) (M : Nat) : Nat := iv_it (fun d M => iv_tz xb xe yb ye zb (zb + 1 + d) M) (5 - zb) M
def iv_ta3 (xb xe yb ye : Nat) (M : Nat) : Nat := iv_it (fun zb M => iv_ta4 xb xe yb ye zb M) 6 M
def iv_ta2 (yb ye xb : Nat) (M : Nat) : Nat := iv_it (fun d M => iv_ta3 xb (xb + 1 + d) yb ye M) (5 - xb) M
def iv_ta1 (yb ye : Nat) (M : Nat) : Nat := iv_it (fun xb M => iv_ta2 yb ye xb M) 6 M
def iv_ft1 (b : Nat) (M : Nat) : Nat := iv_it (fun d M => iv_ta1 b (b + 1 + d) M) (5 - b) M
def iv_ft (M : Nat) : Nat := iv_it (fun b M => iv_ft1 b M) 6 M
theorem iv_ft_big : iv_ft 0 = iv_big := by decide +kernel
def iv_TB (a : Nat → Int32) (M : Nat) : Prop := ∀ c, c < 169 → a c = nI ((M >>> (13 * c)) % 8192)
theorem iv_TB_0 : iv_TB (fun _ => 0) 0 := fun c _ => by
  rw [Nat.zero_shiftRight]
  rfl
theorem iv_TB_big {a : Nat → Int32} (h : iv_TB a iv_big) {r s : Nat} (hr : r < 13) (hs : s < 13) : a (13 * r + s) = nI (iv_tb r s) := h (13 * r + s) (by omega)
theorem iv_TB_s {a : Nat → Int32} {M c t : Nat} (h : iv_TB a M) (hc : c < 169) (ht : t < 13) : iv_TB (upd a c (a c ||| nI (2 ^ t))) (M ||| 1 <<< (13 * c + t)) := by
  intro j hj
  have e : ((M ||| 1 <<< (13 * c + t)) >>> (13 * j)) % 8192 = if j = c then (M >>> (13 * j)) % 8192 ||| 2 ^ t else (M >>> (13 * j)) % 8192 := by
    apply Nat.eq_of_testBit_eq
    intro i
    rw [show 8192 = 2 ^ 13 from rfl, Nat.testBit_mod_two_pow, Nat.testBit_shiftRight, Nat.testBit_or, Nat.one_shiftLeft, Nat.testBit_two_pow]
    by_cases ej : j = c
    · rw [if_pos ej, Nat.testBit_or, Nat.testBit_mod_two_pow, Nat.testBit_shiftRight, Nat.testBit_two_pow]
      by_cases i13 : i < 13
      · rw [decide_eq_true i13, Bool.true_and, Bool.true_and, ej]
        congr 1
        exact decide_eq_decide.mpr (by omega)
      · rw [decide_eq_false i13, Bool.false_and, Bool.false_and, Bool.false_or]
        exact (decide_eq_false (by omega)).symm
    · rw [if_neg ej, Nat.testBit_mod_two_pow, Nat.testBit_shiftRight]
      by_cases i13 : i < 13
      · rw [decide_eq_false (show ¬ 13 * c + t = 13 * j + i by omega), Bool.or_false]
      · rw [decide_eq_false i13, Bool.false_and, Bool.false_and]
  rw [e]
  by_cases ej : j = c
  · rw [if_pos ej, ej, pk_us, h c hc, iv_or32]
  · rw [if_neg ej, pk_un ej]
    exact h j hj
def iv_gu (g : Nat → Nat) (k v : Nat) : Nat → Nat := fun j => if j = k then v else g j
theorem iv_gu_u (g : Nat → Nat) (k v : Nat) : upd (fun c => nI (g c)) k (nI v) = fun c => nI (iv_gu g k v c) := by
  funext j
  unfold upd iv_gu
  split <;> rfl
def iv_fm1 (b : Nat) (g : Nat → Nat) : Nat → Nat := iv_it (fun d g => iv_gu (iv_gu g (2 * iv_rel b (b + 1 + d) 2 5) b) (2 * iv_rel b (b + 1 + d) 2 5 + 1) (b + 1 + d)) (7 - b) g
def iv_fm : Nat → Nat := iv_it (fun b g => iv_fm1 b g) 8 (fun _ => 0)
theorem iv_fm_v : ∀ c, c < 26 → iv_fm c = iv_md c := by decide +kernel
def iv_lpj (i : Nat) (s : Nat × (Nat → Nat) × (Nat → Nat)) (n : Nat) : Nat × (Nat → Nat) × (Nat → Nat) :=
  iv_it (fun d s => (s.1 + 1, iv_gu s.2.1 s.1 i, iv_gu s.2.2 s.1 (i + 1 + d))) (n - 1 - i) s
def iv_lp (n : Nat) : Nat × (Nat → Nat) × (Nat → Nat) := iv_it (fun i s => iv_lpj i s n) n (0, fun _ => 0, fun _ => 0)
theorem iv_lp_v : ∀ n, n < 5 → 2 ≤ n → ∀ d, d < (iv_ps n).length → ((iv_lp n).2.1 d, (iv_lp n).2.2 d) = (iv_ps n).getD d (0, 0) := by decide +kernel
