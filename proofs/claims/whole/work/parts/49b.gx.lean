/-! GOALS COUNTED ALONG THE WALK: what comes of a goal, the rows and goals that it takes in all. -/
abbrev Gz : Type := Nat × List Ty × Ty × Ty
/-- the goal of a label -/
def gzl (W : Nat) (Γ : List Ty) (ls m m' i : Nat) (X Y : Ty) : List Gz :=
  if bit ls i then (if bit m i then (if bit m' i then [(W, Γ, X, Y)] else [(2, Γ, X, X)]) else [(2, Γ, Y, Y)]) else []
/-- what comes of a goal -/
def gcs (z : Gz) : List Gz :=
  if z.1 = 2 then []
  else if bel z.2.1 z.2.2.1 z.2.2.2 = true then []
  else if bel z.2.1 z.2.2.2 z.2.2.1 = true then []
  else if 16 ≤ hd z.2.2.1 then (if z.1 = 1 then [] else [(z.1, z.2.1, exps z.2.1 z.2.2.1, z.2.2.2)])
  else if 16 ≤ hd z.2.2.2 then (if z.1 = 1 then [] else [(z.1, z.2.1, z.2.2.1, exps z.2.1 z.2.2.2)])
  else if 8 ≤ hd z.2.2.1 ∧ 8 ≤ hd z.2.2.2 then gzl z.1 z.2.1 (lset z.1 (hd z.2.2.1 - 8) (hd z.2.2.2 - 8)) (hd z.2.2.1 - 8) (hd z.2.2.2 - 8) 0 (k1 z.2.2.1) (k1 z.2.2.2) ++ (gzl z.1 z.2.1 (lset z.1 (hd z.2.2.1 - 8) (hd z.2.2.2 - 8)) (hd z.2.2.1 - 8) (hd z.2.2.2 - 8) 1 (r2 z.2.2.1) (r2 z.2.2.2) ++ gzl z.1 z.2.1 (lset z.1 (hd z.2.2.1 - 8) (hd z.2.2.2 - 8)) (hd z.2.2.1 - 8) (hd z.2.2.2 - 8) 2 (r3 z.2.2.1) (r3 z.2.2.2))
  else if hd z.2.2.1 = 1 ∧ hd z.2.2.2 = 1 then [(1 - z.1, z.2.1, k1 z.2.2.1, k1 z.2.2.2), (z.1, z.2.1, k2 z.2.2.1, k2 z.2.2.2)]
  else if hd z.2.2.1 = 2 ∧ hd z.2.2.2 = 2 ∧ flat (k1 z.2.2.1) = flat (k1 z.2.2.2) then [(z.1, k1 z.2.2.1 :: z.2.1, k2 z.2.2.1, k2 z.2.2.2)]
  else []
/-- rows that it takes itself -/
def gro (z : Gz) : Nat := if bel z.2.1 z.2.2.1 z.2.2.2 = true then 0 else if bel z.2.1 z.2.2.2 z.2.2.1 = true then 0 else if hd z.2.2.1 = 2 ∧ hd z.2.2.2 = 2 ∧ flat (k1 z.2.2.1) = flat (k1 z.2.2.2) then 2 else 1
/-- whether it goes on as the same goal (0), or not -/
def gno (z : Gz) : Nat := if z.1 = 1 then 1 else if bel z.2.1 z.2.2.1 z.2.2.2 = true then 1 else if bel z.2.1 z.2.2.2 z.2.2.1 = true then 1 else if 16 ≤ hd z.2.2.1 ∨ 16 ≤ hd z.2.2.2 then 0 else 1
def sgl (μ : Gz → Nat) : List Gz → Nat
  | [] => 0
  | z :: l => μ z + sgl μ l
theorem sgl_app (μ : Gz → Nat) : ∀ a b : List Gz, sgl μ (a ++ b) = sgl μ a + sgl μ b
  | [], b => by simp [sgl]
  | z :: a, b => by
    show μ z + sgl μ (a ++ b) = μ z + sgl μ a + sgl μ b
    rw [sgl_app μ a b]; omega
theorem sgl_congr {μ ν : Gz → Nat} : ∀ {l : List Gz}, (∀ z ∈ l, μ z = ν z) → sgl μ l = sgl ν l
  | [], _ => rfl
  | z :: l, h => by
    show μ z + sgl μ l = ν z + sgl ν l
    rw [h z (List.mem_cons_self ..), sgl_congr (fun y hy => h y (List.mem_cons_of_mem _ hy))]
theorem sgl_mono {μ ν : Gz → Nat} : ∀ {l : List Gz}, (∀ z ∈ l, μ z ≤ ν z) → sgl μ l ≤ sgl ν l
  | [], _ => Nat.le_refl _
  | z :: l, h => by
    show μ z + sgl μ l ≤ ν z + sgl ν l
    have h1 := h z (List.mem_cons_self ..)
    have h2 := sgl_mono (fun y hy => h y (List.mem_cons_of_mem _ hy))
    omega
theorem sgl_mem {μ : Gz → Nat} : ∀ {l : List Gz} {z : Gz}, z ∈ l → μ z ≤ sgl μ l
  | y :: l, z, h => by
    show μ z ≤ μ y + sgl μ l
    rcases List.mem_cons.mp h with rfl | h
    · omega
    · have := sgl_mem (μ := μ) h; omega
def gmf : Nat → Gz → Nat
  | 0, _ => 0
  | f + 1, z => if z.1 = 2 then 0 else max (tru z.2) (gro z + sgl (gmf f) (gcs z))
def gnf : Nat → Gz → Nat
  | 0, _ => 1
  | f + 1, z => if z.1 = 2 then 1 else max 1 (gno z + sgl (gnf f) (gcs z))
theorem gmf_two (f : Nat) {z : Gz} (h : z.1 = 2) : gmf f z = 0 := by
  cases f with
  | zero => rfl
  | succ f => unfold gmf; rw [if_pos h]
theorem gnf_two (f : Nat) {z : Gz} (h : z.1 = 2) : gnf f z = 1 := by
  cases f with
  | zero => rfl
  | succ f => unfold gnf; rw [if_pos h]
theorem gnf_pos (f : Nat) (z : Gz) : 1 ≤ gnf f z := by
  cases f with
  | zero => exact Nat.le_refl _
  | succ f =>
    unfold gnf
    split
    · exact Nat.le_refl _
    · exact Nat.le_max_left _ _
/-- rows that a goal takes (those of comparisons are given back), and goals that come of it -/
def gm (z : Gz) : Nat := gmf (twt z.2) z
def gn (z : Gz) : Nat := gnf (twt z.2) z
section PmGx
variable {w : Nat} {Γ : List Ty} {S T : Ty}
theorem gcs_bel1 (w2 : w ≠ 2) (b : bel Γ S T = true) : gcs (w, Γ, S, T) = [] ∧ gro (w, Γ, S, T) ≤ 1 ∧ gno (w, Γ, S, T) = 1 := by
  refine ⟨?_, ?_, ?_⟩
  · unfold gcs; rw [if_neg w2, if_pos b]
  · unfold gro; rw [if_pos b]; omega
  · unfold gno
    by_cases h1 : w = 1
    · rw [if_pos h1]
    · rw [if_neg h1, if_pos b]
theorem gcs_bel2 (w2 : w ≠ 2) (b : ¬ bel Γ S T = true) (b' : bel Γ T S = true) : gcs (w, Γ, S, T) = [] ∧ gro (w, Γ, S, T) ≤ 1 ∧ gno (w, Γ, S, T) = 1 := by
  refine ⟨?_, ?_, ?_⟩
  · unfold gcs; rw [if_neg w2, if_neg b, if_pos b']
  · unfold gro; rw [if_neg b, if_pos b']; omega
  · unfold gno
    by_cases h1 : w = 1
    · rw [if_pos h1]
    · rw [if_neg h1, if_neg b, if_pos b']
theorem gcs_v1 {k : Nat} (w2 : w ≠ 2) (w1 : w ≠ 1) (b : ¬ bel Γ (tVar k) T = true) (b' : ¬ bel Γ T (tVar k) = true) : gcs (w, Γ, tVar k, T) = [(w, Γ, lft k (Γ.length - k) (bnd Γ k), T)] ∧ gro (w, Γ, tVar k, T) = 1 ∧ gno (w, Γ, tVar k, T) = 0 := by
  have ex : exps Γ (tVar k) = lft k (Γ.length - k) (bnd Γ k) := by unfold exps; rw [hd_var, show 16 + k - 16 = k by omega]
  refine ⟨?_, ?_, ?_⟩
  · unfold gcs; rw [if_neg w2, if_neg b, if_neg b', if_pos (by simp only [hd_var]; omega), if_neg w1]
    simp only [ex]
  · unfold gro; rw [if_neg b, if_neg b', if_neg (by simp only [hd_var]; omega)]
  · unfold gno; rw [if_neg w1, if_neg b, if_neg b', if_pos (by simp only [hd_var]; omega)]
theorem gcs_v2 {k : Nat} (w2 : w ≠ 2) (w1 : w ≠ 1) (n1 : ¬ 16 ≤ hd S) (b : ¬ bel Γ S (tVar k) = true) (b' : ¬ bel Γ (tVar k) S = true) : gcs (w, Γ, S, tVar k) = [(w, Γ, S, lft k (Γ.length - k) (bnd Γ k))] ∧ gro (w, Γ, S, tVar k) = 1 ∧ gno (w, Γ, S, tVar k) = 0 := by
  have ex : exps Γ (tVar k) = lft k (Γ.length - k) (bnd Γ k) := by unfold exps; rw [hd_var, show 16 + k - 16 = k by omega]
  refine ⟨?_, ?_, ?_⟩
  · unfold gcs; rw [if_neg w2, if_neg b, if_neg b', if_neg n1, if_pos (by simp only [hd_var]; omega), if_neg w1]
    simp only [ex]
  · unfold gro; rw [if_neg b, if_neg b', if_neg (by simp only [hd_var]; omega)]
  · unfold gno; rw [if_neg w1, if_neg b, if_neg b', if_pos (by simp only [hd_var]; omega)]
theorem gcs_w1 (b : ¬ bel Γ S T = true) (b' : ¬ bel Γ T S = true) (hv : 16 ≤ hd S ∨ 16 ≤ hd T) : gcs (1, Γ, S, T) = [] ∧ gro (1, Γ, S, T) ≤ 1 ∧ gno (1, Γ, S, T) = 1 := by
  refine ⟨?_, ?_, ?_⟩
  · unfold gcs; rw [if_neg (show ¬ (1 : Nat) = 2 by decide), if_neg b, if_neg b']
    by_cases h : 16 ≤ hd S
    · rw [if_pos h, if_pos rfl]
    · rw [if_neg h, if_pos (by simp only; omega), if_pos rfl]
  · unfold gro; rw [if_neg b, if_neg b', if_neg (by simp only; omega)]; omega
  · unfold gno; rw [if_pos rfl]
theorem gcs_rec {m m' : Nat} {X0 X1 X2 Y0 Y1 Y2 : Ty} (hm : m < 8) (hm' : m' < 8) (w2 : w ≠ 2) (b : ¬ bel Γ (tRec m X0 X1 X2) (tRec m' Y0 Y1 Y2) = true) (b' : ¬ bel Γ (tRec m' Y0 Y1 Y2) (tRec m X0 X1 X2) = true) : gcs (w, Γ, tRec m X0 X1 X2, tRec m' Y0 Y1 Y2) = gzl w Γ (lset w m m') m m' 0 X0 Y0 ++ (gzl w Γ (lset w m m') m m' 1 X1 Y1 ++ gzl w Γ (lset w m m') m m' 2 X2 Y2) ∧ gro (w, Γ, tRec m X0 X1 X2, tRec m' Y0 Y1 Y2) = 1 ∧ gno (w, Γ, tRec m X0 X1 X2, tRec m' Y0 Y1 Y2) = 1 := by
  refine ⟨?_, ?_, ?_⟩
  · unfold gcs
    rw [if_neg w2, if_neg b, if_neg b', if_neg (by simp only [hd_rec]; omega), if_neg (by simp only [hd_rec]; omega), if_pos (by simp only [hd_rec]; omega)]
    simp only [hd_rec, show 8 + m - 8 = m by omega, show 8 + m' - 8 = m' by omega]
    rfl
  · unfold gro; rw [if_neg b, if_neg b', if_neg (by simp only [hd_rec]; omega)]
  · unfold gno
    by_cases h1 : w = 1
    · rw [if_pos h1]
    · rw [if_neg h1, if_neg b, if_neg b', if_neg (by simp only [hd_rec]; omega)]
theorem gcs_fun {A C A' C' : Ty} (w2 : w ≠ 2) (b : ¬ bel Γ (tFun A C) (tFun A' C') = true) (b' : ¬ bel Γ (tFun A' C') (tFun A C) = true) : gcs (w, Γ, tFun A C, tFun A' C') = [(1 - w, Γ, A, A'), (w, Γ, C, C')] ∧ gro (w, Γ, tFun A C, tFun A' C') = 1 ∧ gno (w, Γ, tFun A C, tFun A' C') = 1 := by
  refine ⟨?_, ?_, ?_⟩
  · unfold gcs
    rw [if_neg w2, if_neg b, if_neg b', if_neg (by simp only [hd_fun]; omega), if_neg (by simp only [hd_fun]; omega), if_neg (by simp only [hd_fun]; omega), if_pos ⟨hd_fun _ _, hd_fun _ _⟩]
    rfl
  · unfold gro; rw [if_neg b, if_neg b', if_neg (by simp only [hd_fun]; omega)]
  · unfold gno
    by_cases h1 : w = 1
    · rw [if_pos h1]
    · rw [if_neg h1, if_neg b, if_neg b', if_neg (by simp only [hd_fun]; omega)]
theorem gcs_all {A C C' : Ty} (w2 : w ≠ 2) (b : ¬ bel Γ (tAll A C) (tAll A C') = true) (b' : ¬ bel Γ (tAll A C') (tAll A C) = true) : gcs (w, Γ, tAll A C, tAll A C') = [(w, A :: Γ, C, C')] ∧ gro (w, Γ, tAll A C, tAll A C') = 2 ∧ gno (w, Γ, tAll A C, tAll A C') = 1 := by
  refine ⟨?_, ?_, ?_⟩
  · unfold gcs
    rw [if_neg w2, if_neg b, if_neg b', if_neg (by simp only [hd_all]; omega), if_neg (by simp only [hd_all]; omega), if_neg (by simp only [hd_all]; omega), if_neg (by simp only [hd_all]; omega), if_pos ⟨hd_all _ _, hd_all _ _, rfl⟩]
    rfl
  · unfold gro; rw [if_neg b, if_neg b', if_pos ⟨hd_all _ _, hd_all _ _, rfl⟩]
  · unfold gno
    by_cases h1 : w = 1
    · rw [if_pos h1]
    · rw [if_neg h1, if_neg b, if_neg b', if_neg (by simp only [hd_all]; omega)]
theorem gcs_no (w2 : w ≠ 2) (b : ¬ bel Γ S T = true) (b' : ¬ bel Γ T S = true) (n1 : ¬ 16 ≤ hd S) (n2 : ¬ 16 ≤ hd T) (n3 : ¬ (8 ≤ hd S ∧ 8 ≤ hd T)) (n4 : ¬ (hd S = 1 ∧ hd T = 1)) (n5 : ¬ (hd S = 2 ∧ hd T = 2 ∧ flat (k1 S) = flat (k1 T))) : gcs (w, Γ, S, T) = [] ∧ gro (w, Γ, S, T) ≤ 1 ∧ gno (w, Γ, S, T) = 1 := by
  refine ⟨?_, ?_, ?_⟩
  · unfold gcs
    rw [if_neg w2, if_neg b, if_neg b', if_neg n1, if_neg n2, if_neg n3, if_neg n4, if_neg n5]
  · unfold gro; rw [if_neg b, if_neg b', if_neg n5]; omega
  · unfold gno
    by_cases h1 : w = 1
    · rw [if_pos h1]
    · rw [if_neg h1, if_neg b, if_neg b', if_neg (by simp only; omega)]
/-- a goal is one of six -/
theorem gcs_cases (h : tok (Γ, S, T)) (w2 : w ≠ 2) : (gcs (w, Γ, S, T) = [] ∧ gro (w, Γ, S, T) ≤ 1 ∧ gno (w, Γ, S, T) = 1) ∨ (w ≠ 1 ∧ ∃ k, k < Γ.length ∧ S = tVar k ∧ gcs (w, Γ, S, T) = [(w, Γ, lft k (Γ.length - k) (bnd Γ k), T)] ∧ gro (w, Γ, S, T) = 1 ∧ gno (w, Γ, S, T) = 0) ∨ (w ≠ 1 ∧ ¬ 16 ≤ hd S ∧ ∃ k, k < Γ.length ∧ T = tVar k ∧ gcs (w, Γ, S, T) = [(w, Γ, S, lft k (Γ.length - k) (bnd Γ k))] ∧ gro (w, Γ, S, T) = 1 ∧ gno (w, Γ, S, T) = 0) ∨ (∃ m X0 X1 X2 m' Y0 Y1 Y2, m < 8 ∧ m' < 8 ∧ S = tRec m X0 X1 X2 ∧ T = tRec m' Y0 Y1 Y2 ∧ gcs (w, Γ, S, T) = gzl w Γ (lset w m m') m m' 0 X0 Y0 ++ (gzl w Γ (lset w m m') m m' 1 X1 Y1 ++ gzl w Γ (lset w m m') m m' 2 X2 Y2) ∧ gro (w, Γ, S, T) = 1 ∧ gno (w, Γ, S, T) = 1) ∨ (∃ A C A' C', S = tFun A C ∧ T = tFun A' C' ∧ gcs (w, Γ, S, T) = [(1 - w, Γ, A, A'), (w, Γ, C, C')] ∧ gro (w, Γ, S, T) = 1 ∧ gno (w, Γ, S, T) = 1) ∨ (∃ A C C', S = tAll A C ∧ T = tAll A C' ∧ gcs (w, Γ, S, T) = [(w, A :: Γ, C, C')] ∧ gro (w, Γ, S, T) = 2 ∧ gno (w, Γ, S, T) = 1) := by
  have hS : ok Γ.length S = true := h.2.1
  have hT : ok Γ.length T = true := h.2.2
  by_cases b : bel Γ S T = true
  · exact Or.inl (gcs_bel1 w2 b)
  by_cases b' : bel Γ T S = true
  · exact Or.inl (gcs_bel2 w2 b b')
  by_cases v1 : 16 ≤ hd S
  · by_cases w1 : w = 1
    · subst w1; exact Or.inl (gcs_w1 b b' (Or.inl v1))
    · obtain ⟨k, hk, rfl⟩ := hd_is_var hS v1
      exact Or.inr (Or.inl ⟨w1, k, hk, rfl, gcs_v1 w2 w1 b b'⟩)
  by_cases v2 : 16 ≤ hd T
  · by_cases w1 : w = 1
    · subst w1; exact Or.inl (gcs_w1 b b' (Or.inr v2))
    · obtain ⟨k, hk, rfl⟩ := hd_is_var hT v2
      exact Or.inr (Or.inr (Or.inl ⟨w1, v1, k, hk, rfl, gcs_v2 w2 w1 v1 b b'⟩))
  by_cases v3 : 8 ≤ hd S ∧ 8 ≤ hd T
  · obtain ⟨m, X0, X1, X2, hm, rfl⟩ := hd_is_rec hS v3.1 (by omega)
    obtain ⟨m', Y0, Y1, Y2, hm', rfl⟩ := hd_is_rec hT v3.2 (by omega)
    exact Or.inr (Or.inr (Or.inr (Or.inl ⟨m, X0, X1, X2, m', Y0, Y1, Y2, hm, hm', rfl, rfl, gcs_rec hm hm' w2 b b'⟩)))
  by_cases v4 : hd S = 1 ∧ hd T = 1
  · obtain ⟨A, C, rfl, -, -⟩ := hd_is_fun hS v4.1
    obtain ⟨A', C', rfl, -, -⟩ := hd_is_fun hT v4.2
    exact Or.inr (Or.inr (Or.inr (Or.inr (Or.inl ⟨A, C, A', C', rfl, rfl, gcs_fun w2 b b'⟩))))
  by_cases v5 : hd S = 2 ∧ hd T = 2 ∧ flat (k1 S) = flat (k1 T)
  · obtain ⟨A, C, rfl, oA, oC⟩ := hd_is_all hS v5.1
    obtain ⟨A', C', rfl, oA', oC'⟩ := hd_is_all hT v5.2.1
    have ea : A = A' := flat_eq oA oA' v5.2.2
    subst ea
    exact Or.inr (Or.inr (Or.inr (Or.inr (Or.inr ⟨A, C, C', rfl, rfl, gcs_all w2 b b'⟩))))
  exact Or.inl (gcs_no w2 b b' v1 v2 v3 v4 v5)
theorem gzl_mem {ls m m' i : Nat} {X Y : Ty} (hX : okl Γ.length m i X) (hY : okl Γ.length m' i Y) {y : Gz} (hin : bit ls i = true → bit m i = true ∨ bit m' i = true) (hy : y ∈ gzl w Γ ls m m' i X Y) : (y.1 = 2 ∧ y.2.1 = Γ ∧ ok Γ.length y.2.2.1 = true ∧ ok Γ.length y.2.2.2 = true) ∨ (y = (w, Γ, X, Y) ∧ ok Γ.length X = true ∧ ok Γ.length Y = true) := by
  unfold gzl at hy
  by_cases h1 : bit ls i = true
  · rw [if_pos h1] at hy
    by_cases h2 : bit m i = true
    · rw [if_pos h2] at hy
      have o := okl_on hX (bit_iff.mp h2)
      by_cases h3 : bit m' i = true
      · rw [if_pos h3] at hy
        rw [List.mem_singleton.mp hy]
        exact Or.inr ⟨rfl, o, okl_on hY (bit_iff.mp h3)⟩
      · rw [if_neg h3] at hy
        rw [List.mem_singleton.mp hy]
        exact Or.inl ⟨rfl, rfl, o, o⟩
    · rw [if_neg h2] at hy
      have h3 : bit m' i = true := by
        rcases hin h1 with e | e
        · exact absurd e h2
        · exact e
      have o := okl_on hY (bit_iff.mp h3)
      rw [List.mem_singleton.mp hy]
      exact Or.inl ⟨rfl, rfl, o, o⟩
  · rw [if_neg h1] at hy; cases hy
theorem lset_in0 : ∀ m, m < 8 → ∀ m', m' < 8 → ∀ i, i < 3 → bit (lset 0 m m') i = true → bit m i = true ∨ bit m' i = true := by decide
theorem lset_in1 : ∀ m, m < 8 → ∀ m', m' < 8 → ∀ i, i < 3 → bit (lset 1 m m') i = true → bit m i = true ∨ bit m' i = true := by decide
theorem lset_in (w m : Nat) (hm : m < 8) (m' : Nat) (hm' : m' < 8) (i : Nat) (hi : i < 3) : bit (lset w m m') i = true → bit m i = true ∨ bit m' i = true := by
  by_cases h : w = 0
  · subst h; exact lset_in0 m hm m' hm' i hi
  · have e : lset w m m' = lset 1 m m' := by unfold lset; rw [if_neg h, if_neg (by decide)]
    rw [e]; exact lset_in1 m hm m' hm' i hi
/-- what comes of it is in order, and lighter -/
theorem gcs_w (h : tok (Γ, S, T)) (w2 : w ≠ 2) : ∀ y ∈ gcs (w, Γ, S, T), tok y.2 ∧ (y.1 = 2 ∨ twt y.2 + 1 ≤ twt (Γ, S, T)) := by
  have hc : okc Γ := h.1
  have hS : ok Γ.length S = true := h.2.1
  have hT : ok Γ.length T = true := h.2.2
  rcases gcs_cases (w := w) h w2 with ⟨e, -⟩ | ⟨-, k, hk, rfl, e, -⟩ | ⟨-, -, k, hk, rfl, e, -⟩ | ⟨m, X0, X1, X2, m', Y0, Y1, Y2, hm, hm', rfl, rfl, e, -⟩ | ⟨A, C, A', C', rfl, rfl, e, -⟩ | ⟨A, C, C', rfl, rfl, e, -⟩
  · rw [e]; intro y hy; cases hy
  · rw [e]; intro y hy
    rw [List.mem_singleton.mp hy]
    refine ⟨⟨hc, ok_expose hc hk, hT⟩, Or.inr ?_⟩
    show wt (om Γ) (lft k (Γ.length - k) (bnd Γ k)) + wt (om Γ) T + 1 ≤ wt (om Γ) (tVar k) + wt (om Γ) T
    rw [wt_expose hc hk, wt_var]
    omega
  · rw [e]; intro y hy
    rw [List.mem_singleton.mp hy]
    refine ⟨⟨hc, hS, ok_expose hc hk⟩, Or.inr ?_⟩
    show wt (om Γ) S + wt (om Γ) (lft k (Γ.length - k) (bnd Γ k)) + 1 ≤ wt (om Γ) S + wt (om Γ) (tVar k)
    rw [wt_expose hc hk, wt_var]
    omega
  · obtain ⟨h0, h1, h2⟩ := (ok_rec hm).mp hS
    obtain ⟨h0', h1', h2'⟩ := (ok_rec hm').mp hT
    have key : ∀ i (p q : Ty), i < 3 → okl Γ.length m i p → okl Γ.length m' i q → wt (om Γ) p + wt (om Γ) q + 1 ≤ wt (om Γ) (tRec m X0 X1 X2) + wt (om Γ) (tRec m' Y0 Y1 Y2) → ∀ y ∈ gzl w Γ (lset w m m') m m' i p q, tok y.2 ∧ (y.1 = 2 ∨ twt y.2 + 1 ≤ twt (Γ, tRec m X0 X1 X2, tRec m' Y0 Y1 Y2)) := by
      intro i p q hi hp hq hw y hy
      rcases gzl_mem hp hq (lset_in w m hm m' hm' i hi) hy with ⟨a1, a2, a3, a4⟩ | ⟨rfl, a3, a4⟩
      · refine ⟨⟨?_, ?_, ?_⟩, Or.inl a1⟩
        · rw [a2]; exact hc
        · rw [a2]; exact a3
        · rw [a2]; exact a4
      · exact ⟨⟨hc, a3, a4⟩, Or.inr hw⟩
    rw [e]
    intro y hy
    rcases List.mem_append.mp hy with hy | hy
    · exact key 0 X0 Y0 (by decide) h0 h0' (by rw [wt_rec, wt_rec]; omega) y hy
    · rcases List.mem_append.mp hy with hy | hy
      · exact key 1 X1 Y1 (by decide) h1 h1' (by rw [wt_rec, wt_rec]; omega) y hy
      · exact key 2 X2 Y2 (by decide) h2 h2' (by rw [wt_rec, wt_rec]; omega) y hy
  · have oS := ok_fun.mp hS
    have oT := ok_fun.mp hT
    rw [e]
    intro y hy
    rcases List.mem_cons.mp hy with rfl | hy
    · refine ⟨⟨hc, oS.1, oT.1⟩, Or.inr ?_⟩
      show wt (om Γ) A + wt (om Γ) A' + 1 ≤ wt (om Γ) (tFun A C) + wt (om Γ) (tFun A' C')
      rw [wt_fun, wt_fun]; omega
    · rw [List.mem_singleton.mp hy]
      refine ⟨⟨hc, oS.2, oT.2⟩, Or.inr ?_⟩
      show wt (om Γ) C + wt (om Γ) C' + 1 ≤ wt (om Γ) (tFun A C) + wt (om Γ) (tFun A' C')
      rw [wt_fun, wt_fun]; omega
  · have oS := ok_all.mp hS
    have oT := ok_all.mp hT
    rw [e]
    intro y hy
    rw [List.mem_singleton.mp hy]
    refine ⟨⟨⟨oS.1, hc⟩, oS.2, oT.2⟩, Or.inr ?_⟩
    show wt (wt (om Γ) A :: om Γ) C + wt (wt (om Γ) A :: om Γ) C' + 1 ≤ wt (om Γ) (tAll A C) + wt (om Γ) (tAll A C')
    rw [wt_all, wt_all]; omega
end PmGx
theorem gmf_more : ∀ (f g : Nat) (z : Gz), tok z.2 → twt z.2 ≤ f → twt z.2 ≤ g → gmf f z = gmf g z
  | 0, _, z, h, hf, _ => by have := twt_two h; omega
  | _ + 1, 0, z, h, _, hg => by have := twt_two h; omega
  | f + 1, g + 1, z, h, hf, hg => by
    by_cases w2 : z.1 = 2
    · rw [gmf_two _ w2, gmf_two _ w2]
    unfold gmf
    rw [if_neg w2, if_neg w2, sgl_congr (fun y hy => ?_)]
    rcases gcs_w (w := z.1) (Γ := z.2.1) (S := z.2.2.1) (T := z.2.2.2) h w2 y hy with ⟨t, e | e⟩
    · rw [gmf_two _ e, gmf_two _ e]
    · have e : twt y.2 + 1 ≤ twt z.2 := e
      exact gmf_more f g y t (by omega) (by omega)
theorem gnf_more : ∀ (f g : Nat) (z : Gz), tok z.2 → twt z.2 ≤ f → twt z.2 ≤ g → gnf f z = gnf g z
  | 0, _, z, h, hf, _ => by have := twt_two h; omega
  | _ + 1, 0, z, h, _, hg => by have := twt_two h; omega
  | f + 1, g + 1, z, h, hf, hg => by
    by_cases w2 : z.1 = 2
    · rw [gnf_two _ w2, gnf_two _ w2]
    unfold gnf
    rw [if_neg w2, if_neg w2, sgl_congr (fun y hy => ?_)]
    rcases gcs_w (w := z.1) (Γ := z.2.1) (S := z.2.2.1) (T := z.2.2.2) h w2 y hy with ⟨t, e | e⟩
    · rw [gnf_two _ e, gnf_two _ e]
    · have e : twt y.2 + 1 ≤ twt z.2 := e
      exact gnf_more f g y t (by omega) (by omega)
theorem gm_two {z : Gz} (h : z.1 = 2) : gm z = 0 := gmf_two _ h
theorem gn_two {z : Gz} (h : z.1 = 2) : gn z = 1 := gnf_two _ h
theorem gn_pos (z : Gz) : 1 ≤ gn z := gnf_pos _ z
theorem gm_unf {z : Gz} (h : tok z.2) (w2 : z.1 ≠ 2) : gm z = max (tru z.2) (gro z + sgl gm (gcs z)) := by
  have := twt_two h
  obtain ⟨n, hn⟩ : ∃ n, twt z.2 = n + 1 := ⟨twt z.2 - 1, by omega⟩
  show gmf (twt z.2) z = _
  rw [hn]
  show (if z.1 = 2 then _ else _) = _
  rw [if_neg w2]
  congr 2
  refine sgl_congr (fun y hy => ?_)
  show gmf n y = gmf (twt y.2) y
  rcases gcs_w (w := z.1) (Γ := z.2.1) (S := z.2.2.1) (T := z.2.2.2) h w2 y hy with ⟨t, e | e⟩
  · rw [gmf_two _ e, gmf_two _ e]
  · have e : twt y.2 + 1 ≤ twt z.2 := e
    exact gmf_more _ _ y t (by omega) (Nat.le_refl _)
theorem gn_unf {z : Gz} (h : tok z.2) (w2 : z.1 ≠ 2) : gn z = max 1 (gno z + sgl gn (gcs z)) := by
  have := twt_two h
  obtain ⟨n, hn⟩ : ∃ n, twt z.2 = n + 1 := ⟨twt z.2 - 1, by omega⟩
  show gnf (twt z.2) z = _
  rw [hn]
  show (if z.1 = 2 then _ else _) = _
  rw [if_neg w2]
  congr 2
  refine sgl_congr (fun y hy => ?_)
  show gnf n y = gnf (twt y.2) y
  rcases gcs_w (w := z.1) (Γ := z.2.1) (S := z.2.2.1) (T := z.2.2.2) h w2 y hy with ⟨t, e | e⟩
  · rw [gnf_two _ e, gnf_two _ e]
  · have e : twt y.2 + 1 ≤ twt z.2 := e
    exact gnf_more _ _ y t (by omega) (Nat.le_refl _)
theorem gm_pos {z : Gz} (h : tok z.2) (w2 : z.1 ≠ 2) : tru z.2 ≤ gm z := by
  rw [gm_unf h w2]; exact Nat.le_max_left _ _
theorem gm_step {z : Gz} (h : tok z.2) (w2 : z.1 ≠ 2) : gro z + sgl gm (gcs z) ≤ gm z := by
  rw [gm_unf h w2]; exact Nat.le_max_right _ _
theorem gn_step {z : Gz} (h : tok z.2) (w2 : z.1 ≠ 2) : gno z + sgl gn (gcs z) ≤ gn z := by
  rw [gn_unf h w2]; exact Nat.le_max_right _ _
section PmGy
variable {w : Nat} {Γ : List Ty} {S T : Ty}
theorem gm_one (h : tok (Γ, S, T)) (w2 : w ≠ 2) (b : ¬ bel Γ S T = true) (b' : ¬ bel Γ T S = true) : 1 ≤ gm (w, Γ, S, T) := by
  have a := gm_step (z := (w, Γ, S, T)) h w2
  have c : 1 ≤ gro (w, Γ, S, T) := by
    unfold gro
    rw [if_neg b, if_neg b']
    split <;> omega
  omega
theorem gm_v1 {k : Nat} (h : tok (Γ, tVar k, T)) (w2 : w ≠ 2) (w1 : w ≠ 1) (b : ¬ bel Γ (tVar k) T = true) (b' : ¬ bel Γ T (tVar k) = true) : gm (w, Γ, lft k (Γ.length - k) (bnd Γ k), T) + 1 ≤ gm (w, Γ, tVar k, T) ∧ gn (w, Γ, lft k (Γ.length - k) (bnd Γ k), T) ≤ gn (w, Γ, tVar k, T) := by
  obtain ⟨e1, e2, e3⟩ := gcs_v1 w2 w1 b b'
  have a1 := gm_step (z := (w, Γ, tVar k, T)) h w2
  have a2 := gn_step (z := (w, Γ, tVar k, T)) h w2
  rw [e1, e2] at a1
  rw [e1, e3] at a2
  have a1 : 1 + (gm (w, Γ, lft k (Γ.length - k) (bnd Γ k), T) + 0) ≤ _ := a1
  have a2 : 0 + (gn (w, Γ, lft k (Γ.length - k) (bnd Γ k), T) + 0) ≤ _ := a2
  omega
theorem gm_v2 {k : Nat} (h : tok (Γ, S, tVar k)) (w2 : w ≠ 2) (w1 : w ≠ 1) (n1 : ¬ 16 ≤ hd S) (b : ¬ bel Γ S (tVar k) = true) (b' : ¬ bel Γ (tVar k) S = true) : gm (w, Γ, S, lft k (Γ.length - k) (bnd Γ k)) + 1 ≤ gm (w, Γ, S, tVar k) ∧ gn (w, Γ, S, lft k (Γ.length - k) (bnd Γ k)) ≤ gn (w, Γ, S, tVar k) := by
  obtain ⟨e1, e2, e3⟩ := gcs_v2 w2 w1 n1 b b'
  have a1 := gm_step (z := (w, Γ, S, tVar k)) h w2
  have a2 := gn_step (z := (w, Γ, S, tVar k)) h w2
  rw [e1, e2] at a1
  rw [e1, e3] at a2
  have a1 : 1 + (gm (w, Γ, S, lft k (Γ.length - k) (bnd Γ k)) + 0) ≤ _ := a1
  have a2 : 0 + (gn (w, Γ, S, lft k (Γ.length - k) (bnd Γ k)) + 0) ≤ _ := a2
  omega
theorem gm_rec {m m' : Nat} {X0 X1 X2 Y0 Y1 Y2 : Ty} (h : tok (Γ, tRec m X0 X1 X2, tRec m' Y0 Y1 Y2)) (hm : m < 8) (hm' : m' < 8) (w2 : w ≠ 2) (b : ¬ bel Γ (tRec m X0 X1 X2) (tRec m' Y0 Y1 Y2) = true) (b' : ¬ bel Γ (tRec m' Y0 Y1 Y2) (tRec m X0 X1 X2) = true) : (sgl gm (gzl w Γ (lset w m m') m m' 0 X0 Y0) + (sgl gm (gzl w Γ (lset w m m') m m' 1 X1 Y1) + sgl gm (gzl w Γ (lset w m m') m m' 2 X2 Y2))) + 1 ≤ gm (w, Γ, tRec m X0 X1 X2, tRec m' Y0 Y1 Y2) ∧ (sgl gn (gzl w Γ (lset w m m') m m' 0 X0 Y0) + (sgl gn (gzl w Γ (lset w m m') m m' 1 X1 Y1) + sgl gn (gzl w Γ (lset w m m') m m' 2 X2 Y2))) + 1 ≤ gn (w, Γ, tRec m X0 X1 X2, tRec m' Y0 Y1 Y2) := by
  obtain ⟨e1, e2, e3⟩ := gcs_rec hm hm' w2 b b'
  have a1 := gm_step (z := (w, Γ, tRec m X0 X1 X2, tRec m' Y0 Y1 Y2)) h w2
  have a2 := gn_step (z := (w, Γ, tRec m X0 X1 X2, tRec m' Y0 Y1 Y2)) h w2
  rw [e1, e2, sgl_app, sgl_app] at a1
  rw [e1, e3, sgl_app, sgl_app] at a2
  omega
theorem gm_fun {A C A' C' : Ty} (h : tok (Γ, tFun A C, tFun A' C')) (w2 : w ≠ 2) (b : ¬ bel Γ (tFun A C) (tFun A' C') = true) (b' : ¬ bel Γ (tFun A' C') (tFun A C) = true) : gm (1 - w, Γ, A, A') + gm (w, Γ, C, C') + 1 ≤ gm (w, Γ, tFun A C, tFun A' C') ∧ gn (1 - w, Γ, A, A') + gn (w, Γ, C, C') + 1 ≤ gn (w, Γ, tFun A C, tFun A' C') := by
  obtain ⟨e1, e2, e3⟩ := gcs_fun w2 b b'
  have a1 := gm_step (z := (w, Γ, tFun A C, tFun A' C')) h w2
  have a2 := gn_step (z := (w, Γ, tFun A C, tFun A' C')) h w2
  rw [e1, e2] at a1
  rw [e1, e3] at a2
  have a1 : 1 + (gm (1 - w, Γ, A, A') + (gm (w, Γ, C, C') + 0)) ≤ _ := a1
  have a2 : 1 + (gn (1 - w, Γ, A, A') + (gn (w, Γ, C, C') + 0)) ≤ _ := a2
  omega
theorem gm_all {A C C' : Ty} (h : tok (Γ, tAll A C, tAll A C')) (w2 : w ≠ 2) (b : ¬ bel Γ (tAll A C) (tAll A C') = true) (b' : ¬ bel Γ (tAll A C') (tAll A C) = true) : gm (w, A :: Γ, C, C') + 2 ≤ gm (w, Γ, tAll A C, tAll A C') ∧ gn (w, A :: Γ, C, C') + 1 ≤ gn (w, Γ, tAll A C, tAll A C') := by
  obtain ⟨e1, e2, e3⟩ := gcs_all w2 b b'
  have a1 := gm_step (z := (w, Γ, tAll A C, tAll A C')) h w2
  have a2 := gn_step (z := (w, Γ, tAll A C, tAll A C')) h w2
  rw [e1, e2] at a1
  rw [e1, e3] at a2
  have a1 : 2 + (gm (w, A :: Γ, C, C') + 0) ≤ _ := a1
  have a2 : 1 + (gn (w, A :: Γ, C, C') + 0) ≤ _ := a2
  omega
end PmGy
