/-! WHAT A GOAL COMES TO, one rule for each case. -/
section PmGv
variable {w : Nat} {Γ : List Ty} {S T : Ty}
theorem gv_eq (h : tok (Γ, S, T)) : gv (w, Γ, S, T) = cms cmv w Γ S T := cmv_eq h
theorem gv_two (h : tok (Γ, S, T)) : gv (2, Γ, S, T) = some (some S) := by
  rw [gv_eq h]; unfold cms; rw [if_pos rfl]
theorem gv_lo (h : tok (Γ, S, T)) (w2 : w ≠ 2) (b : bel Γ S T = true) : gv (w, Γ, S, T) = some (some (if w = 0 then T else S)) := by
  rw [gv_eq h]; unfold cms; rw [if_neg w2, if_pos b]
theorem gv_hi (h : tok (Γ, S, T)) (w2 : w ≠ 2) (b : ¬ bel Γ S T = true) (b' : bel Γ T S = true) : gv (w, Γ, S, T) = some (some (if w = 0 then S else T)) := by
  rw [gv_eq h]; unfold cms; rw [if_neg w2, if_neg b, if_pos b']
theorem gv_v1 (h : tok (Γ, S, T)) (w2 : w ≠ 2) (b : ¬ bel Γ S T = true) (b' : ¬ bel Γ T S = true) (hv : 16 ≤ hd S) : gv (w, Γ, S, T) = if w = 1 then none else gv (w, Γ, exps Γ S, T) := by
  rw [gv_eq h]; unfold cms; rw [if_neg w2, if_neg b, if_neg b', if_pos hv]; rfl
theorem gv_v2 (h : tok (Γ, S, T)) (w2 : w ≠ 2) (b : ¬ bel Γ S T = true) (b' : ¬ bel Γ T S = true) (n1 : ¬ 16 ≤ hd S) (hv : 16 ≤ hd T) : gv (w, Γ, S, T) = if w = 1 then none else gv (w, Γ, S, exps Γ T) := by
  rw [gv_eq h]; unfold cms; rw [if_neg w2, if_neg b, if_neg b', if_neg n1, if_pos hv]; rfl
theorem gv_no (h : tok (Γ, S, T)) (w2 : w ≠ 2) (b : ¬ bel Γ S T = true) (b' : ¬ bel Γ T S = true) (n1 : ¬ 16 ≤ hd S) (n2 : ¬ 16 ≤ hd T) (n3 : ¬ (8 ≤ hd S ∧ 8 ≤ hd T)) (n4 : ¬ (hd S = 1 ∧ hd T = 1)) (n5 : ¬ (hd S = 2 ∧ hd T = 2)) : gv (w, Γ, S, T) = tn w := by
  rw [gv_eq h]; unfold cms; rw [if_neg w2, if_neg b, if_neg b', if_neg n1, if_neg n2, if_neg n3, if_neg n4, if_neg (fun e => n5 ⟨e.1, e.2.1⟩)]
theorem gv_fun {A C A' C' : Ty} (h : tok (Γ, tFun A C, tFun A' C')) (w2 : w ≠ 2) (b : ¬ bel Γ (tFun A C) (tFun A' C') = true) (b' : ¬ bel Γ (tFun A' C') (tFun A C) = true) : gv (w, Γ, tFun A C, tFun A' C') = bFun w (gv (1 - w, Γ, A, A')) (gv (w, Γ, C, C')) := by
  rw [gv_eq h]; unfold cms
  rw [if_neg w2, if_neg b, if_neg b', if_neg (by rw [hd_fun]; omega), if_neg (by rw [hd_fun]; omega), if_neg (by rw [hd_fun]; omega), if_pos ⟨hd_fun _ _, hd_fun _ _⟩]; rfl
theorem gv_all {A C C' : Ty} (h : tok (Γ, tAll A C, tAll A C')) (w2 : w ≠ 2) (b : ¬ bel Γ (tAll A C) (tAll A C') = true) (b' : ¬ bel Γ (tAll A C') (tAll A C) = true) : gv (w, Γ, tAll A C, tAll A C') = bAll w A (gv (w, A :: Γ, C, C')) := by
  rw [gv_eq h]; unfold cms
  rw [if_neg w2, if_neg b, if_neg b', if_neg (by rw [hd_all]; omega), if_neg (by rw [hd_all]; omega), if_neg (by rw [hd_all]; omega), if_neg (by rw [hd_all]; omega), if_pos ⟨hd_all _ _, hd_all _ _, rfl⟩]; rfl
theorem gv_alln {A A' C C' : Ty} (h : tok (Γ, tAll A C, tAll A' C')) (w2 : w ≠ 2) (b : ¬ bel Γ (tAll A C) (tAll A' C') = true) (b' : ¬ bel Γ (tAll A' C') (tAll A C) = true) (hne : ¬ flat A = flat A') : gv (w, Γ, tAll A C, tAll A' C') = tn w := by
  rw [gv_eq h]; unfold cms
  rw [if_neg w2, if_neg b, if_neg b', if_neg (by rw [hd_all]; omega), if_neg (by rw [hd_all]; omega), if_neg (by rw [hd_all]; omega), if_neg (by rw [hd_all]; omega), if_neg (fun e => hne e.2.2)]
theorem gv_rec {m m' : Nat} {X0 X1 X2 Y0 Y1 Y2 : Ty} (hm : m < 8) (hm' : m' < 8) (h : tok (Γ, tRec m X0 X1 X2, tRec m' Y0 Y1 Y2)) (w2 : w ≠ 2) (b : ¬ bel Γ (tRec m X0 X1 X2) (tRec m' Y0 Y1 Y2) = true) (b' : ¬ bel Γ (tRec m' Y0 Y1 Y2) (tRec m X0 X1 X2) = true) : gv (w, Γ, tRec m X0 X1 X2, tRec m' Y0 Y1 Y2) = bRec w (lset w m m') (lpart (cmv w Γ) (lset w m m') m m' 0 X0 Y0) (lpart (cmv w Γ) (lset w m m') m m' 1 X1 Y1) (lpart (cmv w Γ) (lset w m m') m m' 2 X2 Y2) := by
  rw [gv_eq h]; unfold cms
  rw [if_neg w2, if_neg b, if_neg b', if_neg (by rw [hd_rec]; omega), if_neg (by rw [hd_rec]; omega), if_pos (by rw [hd_rec, hd_rec]; omega), hd_rec, hd_rec, show 8 + m - 8 = m by omega, show 8 + m' - 8 = m' by omega]
  rfl
end PmGv
section PmGz
variable {W : Nat} {Γ : List Ty} {ls m m' i : Nat} {X Y : Ty}
theorem gzl_cases (hin : bit ls i = true → bit m i = true ∨ bit m' i = true) : (bit ls i = true ∧ bit m i = true ∧ bit m' i = true ∧ gzl W Γ ls m m' i X Y = [(W, Γ, X, Y)]) ∨ (bit ls i = true ∧ bit m i = true ∧ ¬ bit m' i = true ∧ gzl W Γ ls m m' i X Y = [(2, Γ, X, X)]) ∨ (bit ls i = true ∧ ¬ bit m i = true ∧ bit m' i = true ∧ gzl W Γ ls m m' i X Y = [(2, Γ, Y, Y)]) ∨ (¬ bit ls i = true ∧ gzl W Γ ls m m' i X Y = []) := by
  unfold gzl
  by_cases h1 : bit ls i = true
  · by_cases h2 : bit m i = true
    · by_cases h3 : bit m' i = true
      · exact Or.inl ⟨h1, h2, h3, by rw [if_pos h1, if_pos h2, if_pos h3]⟩
      · exact Or.inr (Or.inl ⟨h1, h2, h3, by rw [if_pos h1, if_pos h2, if_neg h3]⟩)
    · have h3 : bit m' i = true := by
        rcases hin h1 with e | e
        · exact absurd e h2
        · exact e
      exact Or.inr (Or.inr (Or.inl ⟨h1, h2, h3, by rw [if_pos h1, if_neg h2]⟩))
  · exact Or.inr (Or.inr (Or.inr ⟨h1, by rw [if_neg h1]⟩))
theorem gzl_gv (hc : okc Γ) (hX : okl Γ.length m i X) (hY : okl Γ.length m' i Y) (hin : bit ls i = true → bit m i = true ∨ bit m' i = true) : (gzl W Γ ls m m' i X Y).map gv = if bit ls i = true then [lpart (cmv W Γ) ls m m' i X Y] else [] := by
  unfold lpart
  rcases gzl_cases (W := W) (Γ := Γ) (X := X) (Y := Y) hin with ⟨h1, h2, h3, e⟩ | ⟨h1, h2, h3, e⟩ | ⟨h1, h2, h3, e⟩ | ⟨h1, e⟩
  · rw [e, if_pos h1, if_pos h1, if_pos h2, if_pos h3]; rfl
  · have o := okl_on hX (bit_iff.mp h2)
    rw [e, if_pos h1, if_pos h1, if_pos h2, if_neg h3, List.map_cons, gv_two ⟨hc, o, o⟩]; rfl
  · have o := okl_on hY (bit_iff.mp h3)
    rw [e, if_pos h1, if_pos h1, if_neg h2, List.map_cons, gv_two ⟨hc, o, o⟩]; rfl
  · rw [e, if_neg h1]; rfl
theorem gzl_LZ (hin : bit ls i = true → bit m i = true ∨ bit m' i = true) (h1 : Γ.length + sgl gm (gzl W Γ ls m m' i X Y) ≤ 1990) (h2 : 2 * (hgt (oh Γ) X + hgt (oh Γ) Y) + 3 ≤ 300) : ∀ y ∈ gzl W Γ ls m m' i X Y, LZ y := by
  intro y hy
  rcases gzl_cases (W := W) (Γ := Γ) (X := X) (Y := Y) hin with ⟨-, -, -, e⟩ | ⟨-, -, -, e⟩ | ⟨-, -, -, e⟩ | ⟨-, e⟩
  · rw [e] at hy h1
    rw [List.mem_singleton.mp hy]
    have h1 : Γ.length + (gm (W, Γ, X, Y) + 0) ≤ 1990 := h1
    exact Or.inr ⟨h1, h2⟩
  · rw [e] at hy
    rw [List.mem_singleton.mp hy]
    exact Or.inl rfl
  · rw [e] at hy
    rw [List.mem_singleton.mp hy]
    exact Or.inl rfl
  · rw [e] at hy; cases hy
theorem gzl_ctx (hin : bit ls i = true → bit m i = true ∨ bit m' i = true) : ∀ y ∈ gzl W Γ ls m m' i X Y, y.2.1 = Γ := by
  intro y hy
  rcases gzl_cases (W := W) (Γ := Γ) (X := X) (Y := Y) hin with ⟨-, -, -, e⟩ | ⟨-, -, -, e⟩ | ⟨-, -, -, e⟩ | ⟨-, e⟩
  · rw [e] at hy
    rw [List.mem_singleton.mp hy]
  · rw [e] at hy
    rw [List.mem_singleton.mp hy]
  · rw [e] at hy
    rw [List.mem_singleton.mp hy]
  · rw [e] at hy; cases hy
theorem gzl_GR {N : pm_M} {u x a b c l r : Int} (w2 : W ≤ 2) (hin : bit ls i = true → bit m i = true ∨ bit m' i = true) (t1 : bit m i = true → bit m' i = true → TH N u x a l b r c (Γ.length : Int) (Γ, X, Y)) (t2 : bit m i = true → TH N u x a l a l c (Γ.length : Int) (Γ, X, X)) (t3 : bit m' i = true → TH N u x b r b r c (Γ.length : Int) (Γ, Y, Y)) : GR N u x (fgl (W : Int) a b c (Γ.length : Int) ls m m' i l r) (gzl W Γ ls m m' i X Y) := by
  unfold fgl
  rcases gzl_cases (W := W) (Γ := Γ) (X := X) (Y := Y) hin with ⟨h1, h2, h3, e⟩ | ⟨h1, h2, h3, e⟩ | ⟨h1, h2, h3, e⟩ | ⟨h1, e⟩
  · rw [e, if_pos h1, if_pos h2, if_pos h3]
    exact ⟨⟨rfl, w2, rfl, t1 h2 h3⟩, trivial⟩
  · rw [e, if_pos h1, if_pos h2, if_neg h3]
    exact ⟨⟨rfl, Nat.le_refl _, rfl, t2 h2⟩, trivial⟩
  · rw [e, if_pos h1, if_neg h2]
    exact ⟨⟨rfl, Nat.le_refl _, rfl, t3 h3⟩, trivial⟩
  · rw [e, if_neg h1]
    trivial
theorem gzl_len (hin : bit ls i = true → bit m i = true ∨ bit m' i = true) : (gzl W Γ ls m m' i X Y).length = if bit ls i = true then 1 else 0 := by
  rcases gzl_cases (W := W) (Γ := Γ) (X := X) (Y := Y) hin with ⟨h1, -, -, e⟩ | ⟨h1, -, -, e⟩ | ⟨h1, -, -, e⟩ | ⟨h1, e⟩
  · rw [e, if_pos h1]; rfl
  · rw [e, if_pos h1]; rfl
  · rw [e, if_pos h1]; rfl
  · rw [e, if_neg h1]; rfl
end PmGz
theorem lab_b : ∀ m : Nat, m < 8 → lab (m : Int) = (if bit m 0 then 1 else 0) + ((if bit m 1 then 1 else 0) + (if bit m 2 then 1 else 0)) := by decide
theorem TH.left {N : pm_M} {u x a p b q c D : Int} {Γ : List Ty} {S T : Ty} (t : TH N u x a p b q c D (Γ, S, T)) : TH N u x a p a p c D (Γ, S, S) := ⟨t.a0, t.a1, t.p0, t.p1, t.ra, t.a0, t.a1, t.p0, t.p1, t.ra, t.hc, t.hD, t.ok.1, t.ok.2.1, t.ok.2.1⟩
theorem TH.fun1 {N : pm_M} {u x a p b q c D : Int} {Γ : List Ty} {A C A' C' : Ty} (t : TH N u x a p b q c D (Γ, tFun A C, tFun A' C')) : TH N u x a (p + 1) b (q + 1) c D (Γ, A, A') ∧ TH N u x a (p + 1 + (flat A).length) b (q + 1 + (flat A').length) c D (Γ, C, C') := by
  have t1 := t.a0; have t2 := t.a1; have t3 := t.p0; have t4 := t.p1; have t5 := t.b0; have t6 := t.b1; have t7 := t.q0; have t8 := t.q1
  simp only at t4 t8
  have r1 := t.ra
  have r2 := t.rb
  simp only at r1 r2
  rw [flat_fun] at r1 r2 t4 t8
  rw [List.length_cons, List.length_append] at t4 t8
  obtain ⟨-, r1⟩ := r1
  obtain ⟨-, r2⟩ := r2
  have r1a := (Row.app.mp r1).1
  have r1c := (Row.app.mp r1).2
  have r2a := (Row.app.mp r2).1
  have r2c := (Row.app.mp r2).2
  obtain ⟨hc, hS, hT⟩ := t.ok
  have hS := ok_fun.mp hS
  have hT := ok_fun.mp hT
  exact ⟨⟨t1, t2, by omega, by simp only; omega, r1a, t5, t6, by omega, by simp only; omega, r2a, t.hc, t.hD, hc, hS.1, hT.1⟩, ⟨t1, t2, by omega, by simp only; omega, r1c, t5, t6, by omega, by simp only; omega, r2c, t.hc, t.hD, hc, hS.2, hT.2⟩⟩
