/-! GOALS ARE AT MOST WHAT EITHER SIDE HAS. -/
def qg : Bool → Nat → Nat := fun _ i => if i = 3 then 0 else 1
theorem qg_pos {Γ : List Ty} {t : Ty} {d : Bool} (hc : okc Γ) (h : ok Γ.length t = true) : 1 ≤ pmz qg d (oq qg Γ) t := by
  have a0 : ∀ d, 1 ≤ qg d 0 := fun _ => Nat.le_refl _
  have a1 : ∀ d, 1 ≤ qg d 1 := fun _ => Nat.le_refl _
  have a2 : ∀ d, 1 ≤ qg d 2 := fun _ => Nat.le_refl _
  have a4 : 1 ≤ qg false 4 := Nat.le_refl _
  exact pmz_pos a0 a1 a2 a4 (by rw [oq_len]; exact h) (fun k hk => oq_pos a0 a1 a2 a4 hc k (by rw [oq_len] at hk; exact hk))
theorem qg_expose {Γ : List Ty} {k : Nat} (hc : okc Γ) (hk : k < Γ.length) : pmz qg true (oq qg Γ) (lft k (Γ.length - k) (bnd Γ k)) = vw (oq qg Γ) k := by
  have := pmz_expose qg hc hk
  have e : qg true 3 = 0 := rfl
  omega
theorem mis_sum : ∀ m, m < 8 → m ≠ 0 → (if bit m 0 = true then 0 else 1) + ((if bit m 1 = true then 0 else 1) + (if bit m 2 = true then 0 else 1)) = mis m := by decide
theorem lset_and : ∀ m, m < 8 → ∀ m', m' < 8 → ∀ i, i < 3 → bit (lset 0 m m') i = true → bit m i = true ∧ bit m' i = true := by decide
theorem bel_rec0 {Γ : List Ty} {m : Nat} {x y z x' y' z' : Ty} (hm : m < 8) (h : tok (Γ, tRec m x y z, tRec 0 x' y' z')) : bel Γ (tRec m x y z) (tRec 0 x' y' z') = true := by
  refine (bel_rec hm (by decide) h).mpr (fun g hg hb => ?_)
  rw [hp_rec (by decide) x' y' z' g hg] at hb
  rcases (show g = 0 ∨ g = 1 ∨ g = 2 by omega) with rfl | rfl | rfl <;> exact absurd hb (by decide)
theorem gcs_of_bel {w : Nat} {Γ : List Ty} {S T : Ty} (h : bel Γ S T = true ∨ bel Γ T S = true) : gcs (w, Γ, S, T) = [] := by
  by_cases w2 : w = 2
  · subst w2; unfold gcs; rw [if_pos rfl]
  by_cases b : bel Γ S T = true
  · exact (gcs_bel1 w2 b).1
  · exact (gcs_bel2 w2 b (h.resolve_left b)).1

def ugS (z : Gz) : Nat := pmz qg (decide (z.1 = 0)) (oq qg z.2.1) z.2.2.1
/-- the goals of one label -/
theorem gzl_gS {w : Nat} (w1 : w ≤ 1) {Γ : List Ty} {m m' i : Nat} {X Y : Ty} (hm : m < 8) (hm' : m' < 8) (hi : i < 3) (hc : okc Γ) (hX : okl Γ.length m i X) (hY : okl Γ.length m' i Y) : sgl (fun y => if y.1 = 2 then 1 else ugS y) (gzl w Γ (lset w m m') m m' i X Y) ≤ pmz qg (decide (w = 0)) (oq qg Γ) X + (if w = 0 then 0 else if bit m i = true then 0 else 1) := by
  have hin := lset_in w m hm m' hm' i hi
  have l0 : w = 0 → bit (lset w m m') i = true → bit m i = true ∧ bit m' i = true := by
    intro e h
    subst e
    exact lset_and m hm m' hm' i hi h
  rcases gzl_cases (W := w) (Γ := Γ) (X := X) (Y := Y) hin with ⟨h1, h2, h3, e⟩ | ⟨h1, h2, h3, e⟩ | ⟨h1, h2, h3, e⟩ | ⟨h1, e⟩
  · rw [e]
    show (if w = 2 then 1 else ugS (w, Γ, X, Y)) + 0 ≤ _
    rw [if_neg (by omega)]
    exact Nat.le_add_right _ _
  · have w0 : w ≠ 0 := fun e0 => h3 (l0 e0 h1).2
    rw [e]
    show 1 + 0 ≤ _
    rw [if_neg w0]
    have o := qg_pos (d := decide (w = 0)) hc (okl_on hX (bit_iff.mp h2))
    omega
  · have w0 : w ≠ 0 := fun e0 => h2 (l0 e0 h1).1
    rw [e]
    show 1 + 0 ≤ _
    rw [if_neg w0, if_neg h2]
    omega
  · rw [e]; exact Nat.zero_le _
theorem gn_S {z : Gz} (h : tok z.2) (w1 : z.1 ≤ 1) : gn z ≤ ugS z := by
  refine gn_least (μ := ugS) (fun z => tok z.2 ∧ z.1 ≤ 2) (fun z hz w2 => ?_) (twt z.2) z ⟨h, by omega⟩ (by omega)
  clear h w1
  obtain ⟨w, Γ, S, T⟩ := z
  obtain ⟨h, w3⟩ := hz
  have h : tok (Γ, S, T) := h
  have w2 : w ≠ 2 := w2
  have w3 : w ≤ 2 := w3
  have hc : okc Γ := h.1
  have hS : ok Γ.length S = true := h.2.1
  have hT : ok Γ.length T = true := h.2.2
  have cw := gcs_w (w := w) h w2
  refine ⟨h, fun y hy => ⟨(cw y hy).1, ?_⟩, ?_, ?_⟩
  · rcases gcs_cases (w := w) h w2 with ⟨e, -⟩ | ⟨-, k, hk, rfl, e, -⟩ | ⟨-, -, k, hk, rfl, e, -⟩ | ⟨m, X0, X1, X2, m', Y0, Y1, Y2, hm, hm', rfl, rfl, e, -⟩ | ⟨A, C, A', C', rfl, rfl, e, -⟩ | ⟨A, C, C', rfl, rfl, e, -⟩
    · rw [e] at hy; cases hy
    · rw [e] at hy; rw [List.mem_singleton.mp hy]; exact w3
    · rw [e] at hy; rw [List.mem_singleton.mp hy]; exact w3
    · have oS := (ok_rec hm).mp hS
      have oT := (ok_rec hm').mp hT
      have key : ∀ i (p q : Ty), i < 3 → okl Γ.length m i p → okl Γ.length m' i q → y ∈ gzl w Γ (lset w m m') m m' i p q → y.1 ≤ 2 := by
        intro i p q hi hp hq hy
        rcases gzl_mem hp hq (lset_in w m hm m' hm' i hi) hy with ⟨a1, -⟩ | ⟨rfl, -⟩
        · omega
        · exact w3
      rw [e] at hy
      rcases List.mem_append.mp hy with hy | hy
      · exact key 0 _ _ (by decide) oS.1 oT.1 hy
      · rcases List.mem_append.mp hy with hy | hy
        · exact key 1 _ _ (by decide) oS.2.1 oT.2.1 hy
        · exact key 2 _ _ (by decide) oS.2.2 oT.2.2 hy
    · rw [e] at hy
      rcases List.mem_cons.mp hy with rfl | hy
      · show 1 - w ≤ 2; omega
      · rw [List.mem_singleton.mp hy]; exact w3
    · rw [e] at hy; rw [List.mem_singleton.mp hy]; exact w3
  · exact qg_pos hc hS
  · rcases gcs_cases (w := w) h w2 with ⟨e, -, e2⟩ | ⟨w1, k, hk, rfl, e, -, e2⟩ | ⟨w1, -, k, hk, rfl, e, -, e2⟩ | ⟨m, X0, X1, X2, m', Y0, Y1, Y2, hm, hm', rfl, rfl, e, -, e2⟩ | ⟨A, C, A', C', rfl, rfl, e, -, e2⟩ | ⟨A, C, C', rfl, rfl, e, -, e2⟩
    · rw [e, e2]
      exact qg_pos hc hS
    · have w0 : w = 0 := by omega
      subst w0
      rw [e, e2]
      show 0 + ((if (0 : Nat) = 2 then 1 else pmz qg true (oq qg Γ) (lft k (Γ.length - k) (bnd Γ k))) + 0) ≤ pmz qg true (oq qg Γ) (tVar k)
      rw [if_neg (by decide), qg_expose hc hk, pmz_vt]
      omega
    · have w0 : w = 0 := by omega
      subst w0
      rw [e, e2]
      show 0 + ((if (0 : Nat) = 2 then 1 else pmz qg true (oq qg Γ) S) + 0) ≤ pmz qg true (oq qg Γ) S
      rw [if_neg (by decide)]
      omega
    · by_cases m0 : m = 0
      · subst m0
        rw [gcs_of_bel (Or.inr (bel_rec0 hm' ⟨hc, hT, hS⟩)), e2]
        exact qg_pos hc hS
      have oS := (ok_rec hm).mp hS
      have oT := (ok_rec hm').mp hT
      have g0 := gzl_gS (w := w) (by omega) hm hm' (by decide) hc oS.1 oT.1
      have g1 := gzl_gS (w := w) (by omega) hm hm' (by decide) hc oS.2.1 oT.2.1
      have g2 := gzl_gS (w := w) (by omega) hm hm' (by decide) hc oS.2.2 oT.2.2
      rw [e, e2, sgl_app, sgl_app]
      show _ ≤ pmz qg (decide (w = 0)) (oq qg Γ) (tRec m X0 X1 X2)
      rw [pmz_rec]
      have q1 : qg (decide (w = 0)) 1 = 1 := rfl
      have q5 : qg (decide (w = 0)) 5 = 1 := rfl
      have ms := mis_sum m hm m0
      rw [q1, q5]
      by_cases w0 : w = 0
      · rw [if_pos w0] at g0 g1 g2
        omega
      · rw [if_neg w0] at g0 g1 g2
        omega
    · rw [e, e2]
      show 1 + ((if 1 - w = 2 then 1 else pmz qg (decide (1 - w = 0)) (oq qg Γ) A) + ((if w = 2 then 1 else pmz qg (decide (w = 0)) (oq qg Γ) C) + 0)) ≤ pmz qg (decide (w = 0)) (oq qg Γ) (tFun A C)
      have ed : (decide (1 - w = 0)) = !(decide (w = 0)) := by
        rcases (show w = 0 ∨ w = 1 by omega) with rfl | rfl <;> rfl
      rw [if_neg (by omega), if_neg w2, pmz_fun, ed]
      have q1 : qg (decide (w = 0)) 1 = 1 := rfl
      rw [q1]
      omega
    · rw [e, e2]
      show 1 + ((if w = 2 then 1 else pmz qg (decide (w = 0)) ((qg true 3 + pmz qg true (oq qg Γ) A) :: oq qg Γ) C) + 0) ≤ pmz qg (decide (w = 0)) (oq qg Γ) (tAll A C)
      rw [if_neg w2, pmz_all]
      have q2 : qg (decide (w = 0)) 2 = 1 := rfl
      rw [q2]
      omega
def ugT (z : Gz) : Nat := pmz qg (decide (z.1 = 0)) (oq qg z.2.1) z.2.2.2
/-- the goals of one label -/
theorem gzl_gT {w : Nat} (w1 : w ≤ 1) {Γ : List Ty} {m m' i : Nat} {X Y : Ty} (hm : m < 8) (hm' : m' < 8) (hi : i < 3) (hc : okc Γ) (hX : okl Γ.length m i X) (hY : okl Γ.length m' i Y) : sgl (fun y => if y.1 = 2 then 1 else ugT y) (gzl w Γ (lset w m m') m m' i X Y) ≤ pmz qg (decide (w = 0)) (oq qg Γ) Y + (if w = 0 then 0 else if bit m' i = true then 0 else 1) := by
  have hin := lset_in w m hm m' hm' i hi
  have l0 : w = 0 → bit (lset w m m') i = true → bit m i = true ∧ bit m' i = true := by
    intro e h
    subst e
    exact lset_and m hm m' hm' i hi h
  rcases gzl_cases (W := w) (Γ := Γ) (X := X) (Y := Y) hin with ⟨h1, h2, h3, e⟩ | ⟨h1, h2, h3, e⟩ | ⟨h1, h2, h3, e⟩ | ⟨h1, e⟩
  · rw [e]
    show (if w = 2 then 1 else ugT (w, Γ, X, Y)) + 0 ≤ _
    rw [if_neg (by omega)]
    exact Nat.le_add_right _ _
  · have w0 : w ≠ 0 := fun e0 => h3 (l0 e0 h1).2
    rw [e]
    show 1 + 0 ≤ _
    rw [if_neg w0]
    rw [if_neg h3]
    omega
  · have w0 : w ≠ 0 := fun e0 => h2 (l0 e0 h1).1
    rw [e]
    show 1 + 0 ≤ _
    have o := qg_pos (d := decide (w = 0)) hc (okl_on hY (bit_iff.mp h3))
    omega
  · rw [e]; exact Nat.zero_le _
theorem gn_T {z : Gz} (h : tok z.2) (w1 : z.1 ≤ 1) : gn z ≤ ugT z := by
  refine gn_least (μ := ugT) (fun z => tok z.2 ∧ z.1 ≤ 2) (fun z hz w2 => ?_) (twt z.2) z ⟨h, by omega⟩ (by omega)
  clear h w1
  obtain ⟨w, Γ, S, T⟩ := z
  obtain ⟨h, w3⟩ := hz
  have h : tok (Γ, S, T) := h
  have w2 : w ≠ 2 := w2
  have w3 : w ≤ 2 := w3
  have hc : okc Γ := h.1
  have hS : ok Γ.length S = true := h.2.1
  have hT : ok Γ.length T = true := h.2.2
  have cw := gcs_w (w := w) h w2
  refine ⟨h, fun y hy => ⟨(cw y hy).1, ?_⟩, ?_, ?_⟩
  · rcases gcs_cases (w := w) h w2 with ⟨e, -⟩ | ⟨-, k, hk, rfl, e, -⟩ | ⟨-, -, k, hk, rfl, e, -⟩ | ⟨m, X0, X1, X2, m', Y0, Y1, Y2, hm, hm', rfl, rfl, e, -⟩ | ⟨A, C, A', C', rfl, rfl, e, -⟩ | ⟨A, C, C', rfl, rfl, e, -⟩
    · rw [e] at hy; cases hy
    · rw [e] at hy; rw [List.mem_singleton.mp hy]; exact w3
    · rw [e] at hy; rw [List.mem_singleton.mp hy]; exact w3
    · have oS := (ok_rec hm).mp hS
      have oT := (ok_rec hm').mp hT
      have key : ∀ i (p q : Ty), i < 3 → okl Γ.length m i p → okl Γ.length m' i q → y ∈ gzl w Γ (lset w m m') m m' i p q → y.1 ≤ 2 := by
        intro i p q hi hp hq hy
        rcases gzl_mem hp hq (lset_in w m hm m' hm' i hi) hy with ⟨a1, -⟩ | ⟨rfl, -⟩
        · omega
        · exact w3
      rw [e] at hy
      rcases List.mem_append.mp hy with hy | hy
      · exact key 0 _ _ (by decide) oS.1 oT.1 hy
      · rcases List.mem_append.mp hy with hy | hy
        · exact key 1 _ _ (by decide) oS.2.1 oT.2.1 hy
        · exact key 2 _ _ (by decide) oS.2.2 oT.2.2 hy
    · rw [e] at hy
      rcases List.mem_cons.mp hy with rfl | hy
      · show 1 - w ≤ 2; omega
      · rw [List.mem_singleton.mp hy]; exact w3
    · rw [e] at hy; rw [List.mem_singleton.mp hy]; exact w3
  · exact qg_pos hc hT
  · rcases gcs_cases (w := w) h w2 with ⟨e, -, e2⟩ | ⟨w1, k, hk, rfl, e, -, e2⟩ | ⟨w1, -, k, hk, rfl, e, -, e2⟩ | ⟨m, X0, X1, X2, m', Y0, Y1, Y2, hm, hm', rfl, rfl, e, -, e2⟩ | ⟨A, C, A', C', rfl, rfl, e, -, e2⟩ | ⟨A, C, C', rfl, rfl, e, -, e2⟩
    · rw [e, e2]
      exact qg_pos hc hT
    · have w0 : w = 0 := by omega
      subst w0
      rw [e, e2]
      show 0 + ((if (0 : Nat) = 2 then 1 else pmz qg true (oq qg Γ) T) + 0) ≤ pmz qg true (oq qg Γ) T
      rw [if_neg (by decide)]
      omega
    · have w0 : w = 0 := by omega
      subst w0
      rw [e, e2]
      show 0 + ((if (0 : Nat) = 2 then 1 else pmz qg true (oq qg Γ) (lft k (Γ.length - k) (bnd Γ k))) + 0) ≤ pmz qg true (oq qg Γ) (tVar k)
      rw [if_neg (by decide), qg_expose hc hk, pmz_vt]
      omega
    · by_cases m0 : m' = 0
      · subst m0
        rw [gcs_of_bel (Or.inl (bel_rec0 hm ⟨hc, hS, hT⟩)), e2]
        exact qg_pos hc hT
      have oS := (ok_rec hm).mp hS
      have oT := (ok_rec hm').mp hT
      have g0 := gzl_gT (w := w) (by omega) hm hm' (by decide) hc oS.1 oT.1
      have g1 := gzl_gT (w := w) (by omega) hm hm' (by decide) hc oS.2.1 oT.2.1
      have g2 := gzl_gT (w := w) (by omega) hm hm' (by decide) hc oS.2.2 oT.2.2
      rw [e, e2, sgl_app, sgl_app]
      show _ ≤ pmz qg (decide (w = 0)) (oq qg Γ) (tRec m' Y0 Y1 Y2)
      rw [pmz_rec]
      have q1 : qg (decide (w = 0)) 1 = 1 := rfl
      have q5 : qg (decide (w = 0)) 5 = 1 := rfl
      have ms := mis_sum m' hm' m0
      rw [q1, q5]
      by_cases w0 : w = 0
      · rw [if_pos w0] at g0 g1 g2
        omega
      · rw [if_neg w0] at g0 g1 g2
        omega
    · rw [e, e2]
      show 1 + ((if 1 - w = 2 then 1 else pmz qg (decide (1 - w = 0)) (oq qg Γ) A') + ((if w = 2 then 1 else pmz qg (decide (w = 0)) (oq qg Γ) C') + 0)) ≤ pmz qg (decide (w = 0)) (oq qg Γ) (tFun A' C')
      have ed : (decide (1 - w = 0)) = !(decide (w = 0)) := by
        rcases (show w = 0 ∨ w = 1 by omega) with rfl | rfl <;> rfl
      rw [if_neg (by omega), if_neg w2, pmz_fun, ed]
      have q1 : qg (decide (w = 0)) 1 = 1 := rfl
      rw [q1]
      omega
    · rw [e, e2]
      show 1 + ((if w = 2 then 1 else pmz qg (decide (w = 0)) ((qg true 3 + pmz qg true (oq qg Γ) A) :: oq qg Γ) C') + 0) ≤ pmz qg (decide (w = 0)) (oq qg Γ) (tAll A C')
      rw [if_neg w2, pmz_all]
      have q2 : qg (decide (w = 0)) 2 = 1 := rfl
      rw [q2]
      omega
