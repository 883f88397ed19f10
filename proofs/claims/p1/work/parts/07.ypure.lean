def iv_h {α : Type} (f : Nat → List α) (t e : Nat) : List α := (List.range' t (e - t)).flatMap f
theorem iv_h_nil {α : Type} (f : Nat → List α) {t e : Nat} (h : e ≤ t) : iv_h f t e = [] := by
  unfold iv_h
  rw [show e - t = 0 by omega]
  rfl
theorem iv_h_cons {α : Type} (f : Nat → List α) {t e : Nat} (h : t < e) : iv_h f t e = f t ++ iv_h f (t + 1) e := by
  unfold iv_h
  rw [show e - t = (e - (t + 1)) + 1 by omega, List.range'_succ, List.flatMap_cons]
def iv_ch (A : iv_N) (d k : Nat) (L : Nat → Nat) (m t : Nat) : List ((Nat → Nat) × Nat) :=
  if iv_go A k L m t = true then
    iv_lv A d (k + 1) (iv_ex k L (t / (2 * m + 1)) (t % (2 * m + 1))) (m + iv_f (t / (2 * m + 1)) + iv_f (t % (2 * m + 1)))
  else []
theorem iv_lv_h (A : iv_N) (d k : Nat) (L : Nat → Nat) (m : Nat) : iv_lv A (d + 1) k L m = iv_h (iv_ch A d k L m) 0 ((2 * m + 1) * (2 * m + 1)) := by
  rw [iv_lv]
  unfold iv_h
  rw [Nat.sub_zero, ← List.range_eq_range']
  rfl
/- the frames of the reference's walk: d levels behind the next one, the level, its layout and points, the next to try -/
abbrev iv_Gr : Type := Nat × Nat × (Nat → Nat) × Nat × Nat
def iv_yr (A : iv_N) : List iv_Gr → List ((Nat → Nat) × Nat)
  | [] => []
  | f :: fs => iv_h (iv_ch A f.1 f.2.1 f.2.2.1 f.2.2.2.1) f.2.2.2.2 ((2 * f.2.2.2.1 + 1) * (2 * f.2.2.2.1 + 1)) ++ iv_yr A fs
theorem iv_yr_end {A : iv_N} {d k : Nat} {L : Nat → Nat} {m t : Nat} {fs : List iv_Gr} (h : (2 * m + 1) * (2 * m + 1) ≤ t) : iv_yr A ((d, k, L, m, t) :: fs) = iv_yr A fs := by
  rw [iv_yr]
  dsimp only
  rw [iv_h_nil _ h]
  rfl
theorem iv_yr_no {A : iv_N} {d k : Nat} {L : Nat → Nat} {m t : Nat} {fs : List iv_Gr} (h : t < (2 * m + 1) * (2 * m + 1)) (hg : ¬ iv_go A k L m t = true) :
    iv_yr A ((d, k, L, m, t) :: fs) = iv_yr A ((d, k, L, m, t + 1) :: fs) := by
  rw [iv_yr, iv_yr]
  dsimp only
  rw [iv_h_cons _ h]
  unfold iv_ch
  rw [if_neg hg]
  rfl
theorem iv_yr_leaf {A : iv_N} {k : Nat} {L : Nat → Nat} {m t : Nat} {fs : List iv_Gr} (h : t < (2 * m + 1) * (2 * m + 1)) (hg : iv_go A k L m t = true) :
    iv_yr A ((0, k, L, m, t) :: fs) = (iv_ex k L (t / (2 * m + 1)) (t % (2 * m + 1)), m + iv_f (t / (2 * m + 1)) + iv_f (t % (2 * m + 1))) :: iv_yr A ((0, k, L, m, t + 1) :: fs) := by
  rw [iv_yr, iv_yr]
  dsimp only
  rw [iv_h_cons _ h]
  have e : iv_ch A 0 k L m t = [(iv_ex k L (t / (2 * m + 1)) (t % (2 * m + 1)), m + iv_f (t / (2 * m + 1)) + iv_f (t % (2 * m + 1)))] := by
    unfold iv_ch
    rw [if_pos hg, iv_lv]
  rw [e]
  rfl
theorem iv_yr_in {A : iv_N} {d k : Nat} {L : Nat → Nat} {m t : Nat} {fs : List iv_Gr} (h : t < (2 * m + 1) * (2 * m + 1)) (hg : iv_go A k L m t = true) :
    iv_yr A ((d + 1, k, L, m, t) :: fs) = iv_yr A ((d, k + 1, iv_ex k L (t / (2 * m + 1)) (t % (2 * m + 1)), m + iv_f (t / (2 * m + 1)) + iv_f (t % (2 * m + 1)), 0) :: (d + 1, k, L, m, t + 1) :: fs) := by
  rw [iv_yr, iv_yr, iv_yr]
  dsimp only
  rw [iv_h_cons _ h]
  have e : iv_ch A (d + 1) k L m t = iv_h (iv_ch A d (k + 1) (iv_ex k L (t / (2 * m + 1)) (t % (2 * m + 1))) (m + iv_f (t / (2 * m + 1)) + iv_f (t % (2 * m + 1)))) 0
      ((2 * (m + iv_f (t / (2 * m + 1)) + iv_f (t % (2 * m + 1))) + 1) * (2 * (m + iv_f (t / (2 * m + 1)) + iv_f (t % (2 * m + 1))) + 1)) := by
    unfold iv_ch
    rw [if_pos hg, iv_lv_h]
    rfl
  rw [e, List.append_assoc]
/- the turns that the walk still takes, at most -/
def iv_vc (P t : Nat) : Nat := iv_ct (fun s => iv_v (s / P) (s % P)) t
theorem iv_vc_le {P t u : Nat} (h : t ≤ u) : iv_vc P t ≤ iv_vc P u := by
  obtain ⟨e, rfl⟩ : ∃ e, u = t + e := ⟨u - t, by omega⟩
  induction e with
  | zero => exact Nat.le_refl _
  | succ e ih =>
    refine Nat.le_trans (ih (by omega)) ?_
    show _ ≤ iv_ct _ (t + e + 1)
    rw [iv_ct]
    exact Nat.le_add_right _ _
def iv_be3 : Nat → Nat
  | 0 => 1
  | 1 => 255
  | 2 => 10537
  | _ => 137007
def iv_ym (f : iv_Gr) : Nat := 1 + ((2 * f.2.2.2.1 + 1) * (2 * f.2.2.2.1 + 1) - f.2.2.2.2) + (iv_vc (2 * f.2.2.2.1 + 1) ((2 * f.2.2.2.1 + 1) * (2 * f.2.2.2.1 + 1)) - iv_vc (2 * f.2.2.2.1 + 1) f.2.2.2.2) * iv_be3 f.1
def iv_yms : List iv_Gr → Nat
  | [] => 0
  | f :: fs => iv_ym f + iv_yms fs
theorem iv_ym_new1 : ∀ m, m < 7 → 1 + ((2 * m + 1) * (2 * m + 1) - 0) + (iv_vc (2 * m + 1) ((2 * m + 1) * (2 * m + 1)) - iv_vc (2 * m + 1) 0) * 1 ≤ 255 := by decide +kernel
theorem iv_ym_new2 : ∀ m, m < 5 → 1 + ((2 * m + 1) * (2 * m + 1) - 0) + (iv_vc (2 * m + 1) ((2 * m + 1) * (2 * m + 1)) - iv_vc (2 * m + 1) 0) * 255 ≤ 10537 := by decide +kernel
theorem iv_ym_new3 : ∀ m, m < 3 → 1 + ((2 * m + 1) * (2 * m + 1) - 0) + (iv_vc (2 * m + 1) ((2 * m + 1) * (2 * m + 1)) - iv_vc (2 * m + 1) 0) * 10537 ≤ 137007 := by decide +kernel
theorem iv_ym_new {d k : Nat} {L : Nat → Nat} {m : Nat} (hd : d < 3) (hm : m ≤ 2 * (3 - d)) : iv_ym (d, k, L, m, 0) ≤ iv_be3 (d + 1) := by
  unfold iv_ym
  dsimp only
  match d, hd, hm with
  | 0, _, hm => exact iv_ym_new1 m (by omega)
  | 1, _, hm => exact iv_ym_new2 m (by omega)
  | 2, _, hm => exact iv_ym_new3 m (by omega)
theorem iv_ym_no {d k : Nat} {L : Nat → Nat} {m t : Nat} (h : t < (2 * m + 1) * (2 * m + 1)) : iv_ym (d, k, L, m, t + 1) + 1 ≤ iv_ym (d, k, L, m, t) := by
  unfold iv_ym
  dsimp only
  have h1 : iv_vc (2 * m + 1) t ≤ iv_vc (2 * m + 1) (t + 1) := iv_vc_le (by omega)
  have h2 := Nat.mul_le_mul_right (iv_be3 d) (show iv_vc (2 * m + 1) ((2 * m + 1) * (2 * m + 1)) - iv_vc (2 * m + 1) (t + 1) ≤ iv_vc (2 * m + 1) ((2 * m + 1) * (2 * m + 1)) - iv_vc (2 * m + 1) t by omega)
  omega
theorem iv_ym_yes {d k : Nat} {L : Nat → Nat} {m t : Nat} (h : t < (2 * m + 1) * (2 * m + 1)) (hv : iv_v (t / (2 * m + 1)) (t % (2 * m + 1)) = true) :
    iv_ym (d, k, L, m, t + 1) + 1 + iv_be3 d ≤ iv_ym (d, k, L, m, t) := by
  unfold iv_ym
  dsimp only
  have h1 : iv_vc (2 * m + 1) (t + 1) = iv_vc (2 * m + 1) t + 1 := by
    show iv_ct _ (t + 1) = _
    rw [iv_ct, if_pos hv]
    rfl
  have h2 : iv_vc (2 * m + 1) (t + 1) ≤ iv_vc (2 * m + 1) ((2 * m + 1) * (2 * m + 1)) := iv_vc_le (by omega)
  have h3 : iv_vc (2 * m + 1) ((2 * m + 1) * (2 * m + 1)) - iv_vc (2 * m + 1) t = iv_vc (2 * m + 1) ((2 * m + 1) * (2 * m + 1)) - iv_vc (2 * m + 1) (t + 1) + 1 := by omega
  have h4 := Nat.add_mul (iv_vc (2 * m + 1) ((2 * m + 1) * (2 * m + 1)) - iv_vc (2 * m + 1) (t + 1)) 1 (iv_be3 d)
  rw [h3, h4, Nat.one_mul]
  omega
