def iv_g {α : Type} (f : Nat → List α) (U N : Nat) : List α := (List.range N).flatMap (fun s => if U.testBit s = true then f s else [])
theorem iv_g_0 {α : Type} (f : Nat → List α) (U : Nat) : iv_g f U 0 = [] := rfl
theorem iv_g_s {α : Type} (f : Nat → List α) (U n : Nat) : iv_g f U (n + 1) = iv_g f U n ++ (if U.testBit n = true then f n else []) := by
  unfold iv_g
  rw [List.range_succ, List.flatMap_append, List.flatMap_singleton]
theorem iv_g_nil {α : Type} (f : Nat → List α) {U : Nat} : ∀ N, (∀ s, s < N → U.testBit s = false) → iv_g f U N = []
  | 0, _ => rfl
  | n + 1, h => by
    rw [iv_g_s, iv_g_nil f n (fun s hs => h s (by omega)), h n (by omega)]
    rfl
def iv_kg (w : Nat → Nat) (U : Nat) : Nat → Nat
  | 0 => 0
  | n + 1 => iv_kg w U n + (if U.testBit n = true then w n else 0)
theorem iv_kg_nil (w : Nat → Nat) {U : Nat} : ∀ N, (∀ s, s < N → U.testBit s = false) → iv_kg w U N = 0
  | 0, _ => rfl
  | n + 1, h => by
    rw [iv_kg, iv_kg_nil w n (fun s hs => h s (by omega)), h n (by omega)]
    rfl
/- U' is U without its least member r -/
def iv_wo (U r U' : Nat) : Prop := U.testBit r = true ∧ (∀ s, s < r → U.testBit s = false) ∧ U'.testBit r = false ∧ ∀ s, s ≠ r → U'.testBit s = U.testBit s
theorem iv_g_wo {α : Type} (f : Nat → List α) {U r U' : Nat} (h : iv_wo U r U') : ∀ N, r < N → iv_g f U N = f r ++ iv_g f U' N
  | 0, hr => by omega
  | n + 1, hr => by
    rw [iv_g_s, iv_g_s]
    by_cases e : n = r
    · subst e
      rw [iv_g_nil f n h.2.1, iv_g_nil f n (fun s hs => by rw [h.2.2.2 s (by omega)]; exact h.2.1 s hs), h.1, h.2.2.1]
      simp
    · rw [iv_g_wo f h n (by omega), h.2.2.2 n e, List.append_assoc]
theorem iv_kg_wo (w : Nat → Nat) {U r U' : Nat} (h : iv_wo U r U') : ∀ N, r < N → iv_kg w U N = w r + iv_kg w U' N
  | 0, hr => by omega
  | n + 1, hr => by
    rw [iv_kg, iv_kg]
    by_cases e : n = r
    · subst e
      rw [iv_kg_nil w n h.2.1, iv_kg_nil w n (fun s hs => by rw [h.2.2.2 s (by omega)]; exact h.2.1 s hs), h.1, h.2.2.1]
      simp
    · rw [iv_kg_wo w h n (by omega), h.2.2.2 n e]
      omega
theorem iv_kg_le {w w' : Nat → Nat} {U V : Nat} : ∀ N, (∀ s, s < N → U.testBit s = true → V.testBit s = true ∧ w s ≤ w' s) → iv_kg w U N ≤ iv_kg w' V N
  | 0, _ => Nat.le_refl _
  | n + 1, h => by
    rw [iv_kg, iv_kg]
    have ih := iv_kg_le n (fun s hs => h s (by omega))
    have hn := h n (by omega)
    by_cases c : U.testBit n = true
    · rw [if_pos c, if_pos (hn c).1]
      have := (hn c).2
      omega
    · rw [if_neg c]
      omega
theorem iv_kg_mul (B U : Nat) : ∀ N, iv_kg (fun _ => B) U N = iv_kg (fun _ => 1) U N * B
  | 0 => by rw [iv_kg, iv_kg, Nat.zero_mul]
  | n + 1 => by
    rw [iv_kg, iv_kg, iv_kg_mul B U n, Nat.add_mul]
    split
    · rw [Nat.one_mul]
    · rw [Nat.zero_mul]
theorem iv_kg_ub (U : Nat) : ∀ N, iv_kg (fun _ => 1) U N ≤ N
  | 0 => Nat.le_refl _
  | n + 1 => by
    rw [iv_kg]
    have := iv_kg_ub U n
    split <;> omega
def iv_pc (U : Nat) : Nat := iv_kg (fun _ => 1) U 13
theorem iv_kg_pc {w : Nat → Nat} {U V B : Nat} (h : ∀ s, s < 13 → U.testBit s = true → V.testBit s = true ∧ w s ≤ B) : iv_kg w U 13 ≤ iv_pc V * B := by
  have h1 := iv_kg_le (w := w) (w' := fun _ => B) (U := U) (V := V) 13 h
  rw [iv_kg_mul] at h1
  exact h1
def iv_ko (A : iv_N) : List (Nat × Nat) → iv_N → Nat
  | [], _ => 0
  | p :: tl, R => 1 + iv_kg (fun r => 1 + iv_ko A tl (iv_set R p.1 p.2 r)) (iv_opn A R p.1 p.2) 13
def iv_kb : Nat → Nat
  | 0 => 0
  | l + 1 => 1 + 13 * (1 + iv_kb l)
theorem iv_ko_kb (A : iv_N) : ∀ (ps : List (Nat × Nat)) (R : iv_N), iv_ko A ps R ≤ iv_kb ps.length
  | [], R => Nat.le_refl _
  | p :: tl, R => by
    rw [iv_ko, List.length_cons, iv_kb]
    have h1 := iv_kg_pc (w := fun r => 1 + iv_ko A tl (iv_set R p.1 p.2 r)) (U := iv_opn A R p.1 p.2) (V := iv_opn A R p.1 p.2) (B := 1 + iv_kb tl.length)
      (fun s _ hs => ⟨hs, Nat.add_le_add_left (iv_ko_kb A tl _) 1⟩)
    have h2 : iv_pc (iv_opn A R p.1 p.2) * (1 + iv_kb tl.length) ≤ 13 * (1 + iv_kb tl.length) := Nat.mul_le_mul_right _ (iv_kg_ub _ 13)
    omega
theorem iv_opn_tb {A R : iv_N} {i j r : Nat} (hi : 0 < i) (h : (iv_opn A R i j).testBit r = true) : (iv_tb (R i 0) (R 0 j)).testBit r = true :=
  (iv_opn_bit.mp h).2 0 hi
theorem iv_all_bit : ∀ s, s < 13 → Nat.testBit 8191 s = true := by decide +kernel
theorem iv_b4 (A R : iv_N) : iv_ko A [(1, 3), (2, 3)] R ≤ 1 + iv_pc (iv_tb (R 1 0) (R 0 3)) * 15 := by
  rw [iv_ko]
  refine Nat.add_le_add_left (iv_kg_pc (fun s _ hs => ⟨iv_opn_tb (by decide) hs, ?_⟩)) 1
  have := iv_ko_kb A [(2, 3)] (iv_set R 1 3 s)
  have e : iv_kb [((2 : Nat), (3 : Nat))].length = 14 := rfl
  rw [e] at this
  exact Nat.add_le_add_left this 1
theorem iv_b3 (A R : iv_N) : iv_ko A [(1, 2), (1, 3), (2, 3)] R ≤ 1 + iv_pc (iv_tb (R 1 0) (R 0 2)) * (2 + iv_pc (iv_tb (R 1 0) (R 0 3)) * 15) := by
  rw [iv_ko]
  refine Nat.add_le_add_left (iv_kg_pc (fun s _ hs => ⟨iv_opn_tb (by decide) hs, ?_⟩)) 1
  have := iv_b4 A (iv_set R 1 2 s)
  rw [iv_set3 (by decide) (by decide), iv_set3 (by decide) (by decide)] at this
  show 1 + iv_ko A [(1, 3), (2, 3)] (iv_set R 1 2 s) ≤ _
  omega
def iv_c2f (x y : Nat) : Nat := 1 + iv_kg (fun r => 2 + iv_pc (iv_tb x y) * (2 + iv_pc (iv_tb x r) * 15)) 8191 13
def iv_c1f (x : Nat) : Nat := 1 + iv_kg (fun r => 1 + iv_c2f x r) 8191 13
def iv_c0f : Nat := 1 + iv_kg (fun r => 1 + iv_c1f (12 - r)) 8191 13
theorem iv_bd2 (A R : iv_N) : iv_ko A [(0, 3), (1, 2), (1, 3), (2, 3)] R ≤ iv_c2f (R 1 0) (R 0 2) := by
  rw [iv_ko]
  refine Nat.add_le_add_left (iv_kg_le 13 (fun s h13 hs => ⟨iv_all_bit s h13, ?_⟩)) 1
  have := iv_b3 A (iv_set R 0 3 s)
  rw [iv_set3 (by decide) (by decide), iv_set3 (by decide) (by decide), iv_set1] at this
  show 1 + iv_ko A [(1, 2), (1, 3), (2, 3)] (iv_set R 0 3 s) ≤ _
  omega
theorem iv_b1 (A R : iv_N) : iv_ko A [(0, 2), (0, 3), (1, 2), (1, 3), (2, 3)] R ≤ iv_c1f (R 1 0) := by
  rw [iv_ko]
  refine Nat.add_le_add_left (iv_kg_le 13 (fun s h13 hs => ⟨iv_all_bit s h13, ?_⟩)) 1
  have := iv_bd2 A (iv_set R 0 2 s)
  rw [iv_set3 (by decide) (by decide), iv_set1] at this
  exact Nat.add_le_add_left this 1
theorem iv_b0 (A R : iv_N) : iv_ko A [(0, 1), (0, 2), (0, 3), (1, 2), (1, 3), (2, 3)] R ≤ iv_c0f := by
  rw [iv_ko]
  refine Nat.add_le_add_left (iv_kg_le 13 (fun s h13 hs => ⟨iv_all_bit s h13, ?_⟩)) 1
  have := iv_b1 A (iv_set R 0 1 s)
  rw [iv_set2 (by decide)] at this
  exact Nat.add_le_add_left this 1
theorem iv_c0f_v : iv_c0f = 225468 := by decide +kernel
theorem iv_ko_n {n : Nat} (hn : iv_n n) (A R : iv_N) : iv_ko A (iv_ps n) R ≤ 225468 := by
  rcases hn with h | h | h <;> subst h
  · exact Nat.le_trans (iv_ko_kb A _ _) (by decide)
  · exact Nat.le_trans (iv_ko_kb A _ _) (by decide)
  · have := iv_b0 A R
    rw [iv_c0f_v] at this
    exact this
theorem iv_g_len {α : Type} {f : Nat → List α} {w : Nat → Nat} (h : ∀ s, (f s).length ≤ w s) (U : Nat) : ∀ N, (iv_g f U N).length ≤ iv_kg w U N
  | 0 => Nat.le_refl _
  | n + 1 => by
    rw [iv_g_s, iv_kg, List.length_append]
    have ih := iv_g_len h U n
    have := h n
    by_cases c : U.testBit n = true
    · rw [if_pos c, if_pos c]
      omega
    · rw [if_neg c, if_neg c, List.length_nil]
      omega
theorem iv_nets_g (A : iv_N) (p : Nat × Nat) (tl : List (Nat × Nat)) (R : iv_N) : iv_nets A (p :: tl) R = iv_g (fun r => iv_nets A tl (iv_set R p.1 p.2 r)) (iv_opn A R p.1 p.2) 13 := by
  rw [iv_nets]
  rfl
theorem iv_nets_len (A : iv_N) : ∀ (ps : List (Nat × Nat)) (R : iv_N), (iv_nets A ps R).length ≤ 1 + iv_ko A ps R
  | [], R => by
    rw [iv_nets, iv_ko]
    exact Nat.le_refl _
  | p :: tl, R => by
    rw [iv_nets_g, iv_ko]
    have := iv_g_len (f := fun r => iv_nets A tl (iv_set R p.1 p.2 r)) (w := fun r => 1 + iv_ko A tl (iv_set R p.1 p.2 r)) (fun s => iv_nets_len A tl _) (iv_opn A R p.1 p.2) 13
    omega
/- the frames of the search: a pair, the pairs behind it, what is chosen ahead of it, what is untried -/
abbrev iv_Fr : Type := (Nat × Nat) × List (Nat × Nat) × iv_N × Nat
def iv_rem (A : iv_N) : List iv_Fr → List iv_N
  | [] => []
  | f :: fs => iv_g (fun r => iv_nets A f.2.1 (iv_set f.2.2.1 f.1.1 f.1.2 r)) f.2.2.2 13 ++ iv_rem A fs
def iv_mu (A : iv_N) : List iv_Fr → Nat
  | [] => 0
  | f :: fs => 1 + iv_kg (fun r => 1 + iv_ko A f.2.1 (iv_set f.2.2.1 f.1.1 f.1.2 r)) f.2.2.2 13 + iv_mu A fs
theorem iv_rem_0 {A : iv_N} {p : Nat × Nat} {tl : List (Nat × Nat)} {R : iv_N} {fs : List iv_Fr} : iv_rem A ((p, tl, R, 0) :: fs) = iv_rem A fs := by
  rw [iv_rem, iv_g_nil _ 13 (fun s _ => Nat.zero_testBit s)]
  rfl
theorem iv_mu_0 {A : iv_N} {p : Nat × Nat} {tl : List (Nat × Nat)} {R : iv_N} {fs : List iv_Fr} : iv_mu A ((p, tl, R, 0) :: fs) = 1 + iv_mu A fs := by
  rw [iv_mu, iv_kg_nil _ 13 (fun s _ => Nat.zero_testBit s)]
theorem iv_rem_leaf {A : iv_N} {p : Nat × Nat} {R : iv_N} {U r U' : Nat} {fs : List iv_Fr} (h : iv_wo U r U') (hr : r < 13) :
    iv_rem A ((p, [], R, U) :: fs) = iv_set R p.1 p.2 r :: iv_rem A ((p, [], R, U') :: fs) := by
  rw [iv_rem, iv_rem]
  dsimp only
  rw [iv_g_wo _ h 13 hr, iv_nets]
  rfl
theorem iv_rem_in {A : iv_N} {p q : Nat × Nat} {tl : List (Nat × Nat)} {R : iv_N} {U r U' : Nat} {fs : List iv_Fr} (h : iv_wo U r U') (hr : r < 13) :
    iv_rem A ((p, q :: tl, R, U) :: fs) = iv_rem A ((q, tl, iv_set R p.1 p.2 r, iv_opn A (iv_set R p.1 p.2 r) q.1 q.2) :: (p, q :: tl, R, U') :: fs) := by
  rw [iv_rem, iv_rem, iv_rem]
  dsimp only
  rw [iv_g_wo _ h 13 hr, iv_nets_g, List.append_assoc]
theorem iv_mu_leaf {A : iv_N} {p : Nat × Nat} {R : iv_N} {U r U' : Nat} {fs : List iv_Fr} (h : iv_wo U r U') (hr : r < 13) :
    iv_mu A ((p, [], R, U) :: fs) = 1 + iv_mu A ((p, [], R, U') :: fs) := by
  rw [iv_mu, iv_mu]
  dsimp only
  rw [iv_kg_wo _ h 13 hr, iv_ko]
  omega
theorem iv_mu_in {A : iv_N} {p q : Nat × Nat} {tl : List (Nat × Nat)} {R : iv_N} {U r U' : Nat} {fs : List iv_Fr} (h : iv_wo U r U') (hr : r < 13) :
    iv_mu A ((p, q :: tl, R, U) :: fs) = 1 + iv_mu A ((q, tl, iv_set R p.1 p.2 r, iv_opn A (iv_set R p.1 p.2 r) q.1 q.2) :: (p, q :: tl, R, U') :: fs) := by
  rw [iv_mu, iv_mu, iv_mu]
  dsimp only
  rw [iv_kg_wo _ h 13 hr, iv_ko]
  omega
