/-! THE CLASS RUNS: entering and going on, all kinds; moves come to an end. -/
theorem rGo_lt {t ρ w : Ty} {k : List Fr} {g : Nat} (sp : t = mN (nPl t) (nKd t) (nMk t) (nX t) (nY t) (nZ t)) (m8 : nMk t < 8) (hk : nKd t = 10) (hg : g ≤ 3) : mvC (rGo t ρ w k g) + (if g = 0 then 1 else 0) ≤ (if g = 0 then 4 * pnd t else 4 * pdR t (g - 1) + (3 - (g - 1)) - 1) + mvK k := by
  have pt1 := pnd_is sp
  unfold rGo
  by_cases c : nxl (nMk t) g < 3
  · rw [if_pos c]
    obtain ⟨n1, n2, n3⟩ := nxl_in m8 (g := g) (by omega) c
    show 4 * pnd (nP t (nxl (nMk t) g)) + (mvF (t, ρ, w, nxl (nMk t) g) + mvK k) + _ ≤ _
    have e : mvF (t, ρ, w, nxl (nMk t) g) = 4 * pdR t (nxl (nMk t) g) + (3 - nxl (nMk t) g) := by
      unfold mvF
      show (if nKd t = 7 then _ else if nKd t = 10 then 4 * pdR t (nxl (nMk t) g) + (3 - nxl (nMk t) g) else 0) = _
      rw [if_neg (by omega), if_pos hk]
    rw [e]
    generalize nxl (nMk t) g = x at *
    have q : (x = 0 ∧ g = 0) ∨ (x = 1 ∧ g = 0) ∨ (x = 1 ∧ g = 1) ∨ (x = 2 ∧ g = 0) ∨ (x = 2 ∧ g = 1) ∨ (x = 2 ∧ g = 2) := by omega
    have y0 : nP t 0 = nX t := rfl
    have y1 : nP t 1 = nY t := rfl
    have y2 : nP t 2 = nZ t := rfl
    have z0 : pdR t 0 = pnd (nY t) + pnd (nZ t) := rfl
    have z1 : pdR t 1 = 0 + pnd (nZ t) := rfl
    have z2 : pdR t 2 = 0 + 0 := rfl
    rcases q with ⟨rfl, rfl⟩ | ⟨rfl, rfl⟩ | ⟨rfl, rfl⟩ | ⟨rfl, rfl⟩ | ⟨rfl, rfl⟩ | ⟨rfl, rfl⟩
    · rw [y0, z0, if_pos rfl, if_pos rfl]; omega
    · rw [y1, z1, if_pos rfl, if_pos rfl]; omega
    · rw [y1, z1, if_neg (by omega), if_neg (by omega), show 1 - 1 = 0 from rfl, z0]; omega
    · rw [y2, z2, if_pos rfl, if_pos rfl]; omega
    · rw [y2, z2, if_neg (by omega), if_neg (by omega), show 1 - 1 = 0 from rfl, z0]; omega
    · rw [y2, z2, if_neg (by omega), if_neg (by omega), show 2 - 1 = 1 from rfl, z1]; omega
  · rw [if_neg c]
    show mvK k + _ ≤ _
    by_cases g0 : g = 0
    · rw [if_pos g0, if_pos g0]; omega
    · rw [if_neg g0, if_neg g0]; omega
section PmH13
variable {V : pm_M} {X cnt st zf zv : Nat}
theorem CK.small {c : Cf} (h : CK V X cnt st zf zv c) : ∀ t ρ k, c = .inl (t, ρ, k) → pnd t ≤ 60 := by
  intro t ρ k e
  subst e
  obtain ⟨vs, sc, fr, H, bk, c13, ⟨F, nv, hF⟩, ec⟩ := h
  exact nv.2.2.1.2
theorem mvC_lt2 {c c' : Cf} (h : CK V X cnt st zf zv c) (e : mv c = some (false, c')) : mvC c' < mvC c := by
  obtain ⟨vs, sc, fr, H, bk, hc⟩ := h
  cases c with
  | inl x =>
    obtain ⟨t, ρ, k⟩ := x
    obtain ⟨c13, ⟨F, nv, hF⟩, ec⟩ := hc
    have sp := nv.sp
    have pt1 := pnd_is sp
    have kd := nv.kd
    show mvC c' < 4 * pnd t + mvK k
    have e0 : mvE t ρ k = some (false, c') := e
    by_cases c5 : nKd t = 5
    · unfold mvE at e0
      rw [if_pos c5] at e0
      cases q : elk ρ (nMk t) with
      | none => rw [q] at e0; cases e0
      | some v => rw [q] at e0; cases e0; show mvK k < _; omega
    by_cases c6 : nKd t = 6 ∨ nKd t = 8
    · rw [mv_6 c6] at e; cases e; show mvK k < _; omega
    by_cases c10 : nKd t = 10
    · rw [mv_10 c10] at e
      cases e
      have := rGo_lt (ρ := ρ) (w := vR (nMk t) .nil .nil .nil) (k := k) (g := 0) sp (kd.2.2.2.2.2.2.1 c10) c10 (by omega)
      rw [if_pos rfl, if_pos rfl] at this
      omega
    by_cases c12 : nKd t = 12
    · rw [mv_12 c12] at e; cases e
    · have c7 : nKd t = 7 ∨ nKd t = 9 ∨ nKd t = 11 := by have := kd.2.1; omega
      rw [mv_x c7] at e
      cases e
      show 4 * pnd (nX t) + (mvF (t, ρ, .nil, 0) + mvK k) < _
      have : mvF (t, ρ, .nil, 0) ≤ 4 * pnd (nY t) + 1 := by
        unfold mvF
        show (if nKd t = 7 then (if (0 : Nat) = 0 then 4 * pnd (nY t) + 1 else 0) else if nKd t = 10 then _ else 0) ≤ _
        by_cases q : nKd t = 7
        · rw [if_pos q, if_pos rfl]; exact Nat.le_refl _
        · rw [if_neg q, if_neg c10]; omega
      omega
  | inr x =>
    obtain ⟨v, k⟩ := x
    cases k with
    | nil => cases e
    | cons f k =>
      obtain ⟨t, ρ, w, g⟩ := f
      obtain ⟨q, eq, fm, -⟩ := bk.2.2.2
      obtain ⟨f2, ⟨F, nv, hF⟩, -, -, f7⟩ := fm
      have nv : NVc V X cnt F t _ := nv
      have sp := nv.sp
      have kd := nv.kd
      have pt1 := pnd_is sp
      have f2 : nKd t = 7 ∨ nKd t = 9 ∨ nKd t = 10 ∨ nKd t = 11 := f2
      show mvC c' < mvF (t, ρ, w, g) + mvK k
      rcases f2 with c7 | c9 | c10 | c11
      · by_cases g0 : g = 0
        · rw [mvR_7d c7 g0] at e
          cases e
          have m1 : mvF (t, ρ, w, g) = 4 * pnd (nY t) + 1 := by
            unfold mvF
            show (if nKd t = 7 then (if g = 0 then 4 * pnd (nY t) + 1 else 0) else _) = _
            rw [if_pos c7, if_pos g0]
          have m2 : mvF (t, ρ, v, 1) = 0 := by
            unfold mvF
            show (if nKd t = 7 then (if 1 = 0 then 4 * pnd (nY t) + 1 else 0) else _) = _
            rw [if_pos c7, if_neg (by omega)]
          show 4 * pnd (nY t) + (mvF (t, ρ, v, 1) + mvK k) < _
          omega
        · rw [mvR_7c c7 g0] at e
          by_cases q : isC w 6 = true
          · rw [if_pos q] at e; cases e
          · rw [if_neg q] at e; cases e
      · rw [mvR_9c c9] at e
        by_cases q : isC v 8 = true
        · rw [if_pos q] at e; cases e
        · rw [if_neg q] at e; cases e
      · rw [mvR_10 c10] at e
        cases e
        have hg : g < 3 := (f7 c10).1.1
        have := rGo_lt (ρ := ρ) (w := sP w g v) (k := k) (g := g + 1) sp (kd.2.2.2.2.2.2.1 c10) c10 (by omega)
        rw [if_neg (by omega), if_neg (by omega), show g + 1 - 1 = g by omega] at this
        have m1 : mvF (t, ρ, w, g) = 4 * pdR t g + (3 - g) := by
          unfold mvF
          show (if nKd t = 7 then _ else if nKd t = 10 then 4 * pdR t g + (3 - g) else 0) = _
          rw [if_neg (by omega), if_pos c10]
        omega
      · rw [mvR_11c c11] at e
        by_cases q : isR v (nMk t) = true
        · rw [if_pos q] at e; cases e
        · rw [if_neg q] at e; cases e
end PmH13
section PmH13b
variable {d : Nat} {Q : Option Value → pm_S → Prop} {X cnt : Nat} {M : pm_M} {Rf : Nat → Nat → Nat} {K L : Nat → Nat} {n s zf zv zr st : Nat}
theorem c_enter {t ρ : Ty} {k : List Fr} (h : MR X Rf K L n zf zv zr) (hM : ∀ p i, R32 (M p i)) (pi : PI M X cnt 60) (c6 : cnt ≤ 60) (ck : CK (cvw M Rf) X cnt st zf zv (.inl (t, ρ, k))) (hs : Sf 1 (.inl (t, ρ, k))) (hq : EnP Q X cnt M Rf K L n s zf zv zr st (.inl (t, ρ, k))) : pm_Wc (d + 5) 117 [.ref 43] (zM M, Rf, K, L, n, s) Q := by
  have ck' := ck
  obtain ⟨vs, sc, fr, H, bk, c13, ⟨F, nv, hF⟩, ec⟩ := ck'
  have kd := nv.kd.2.1
  have : nKd t = 5 ∨ nKd t = 6 ∨ nKd t = 7 ∨ nKd t = 8 ∨ nKd t = 9 ∨ nKd t = 10 ∨ nKd t = 11 ∨ nKd t = 12 := by omega
  rcases this with e | e | e | e | e | e | e | e
  · refine c_enter5 h hM pi c6 ck e ?_ hq
    rcases hs with ⟨v, e'⟩ | ⟨b, c', e', -⟩
    · cases e'
    · have e' : mvE t ρ k = some (b, c') := e'
      unfold mvE at e'
      rw [if_pos e] at e'
      cases q : elk ρ (nMk t) with
      | none => rw [q] at e'; cases e'
      | some v => exact ⟨v, rfl⟩
  · exact c_enter6 h hM pi c6 ck e hq
  · exact c_enter7 h hM pi c6 ck e hq
  · exact c_enter8 h hM pi c6 ck e hq
  · exact c_enter9 h hM pi c6 ck e hq
  · exact c_enter10 h hM pi c6 ck e hq
  · exact c_enter11 h hM pi c6 ck e hq
  · exact c_enter12 h hM pi c6 ck e hq
theorem c_goOn {v : Ty} {f : Fr} {k : List Fr} {fr : Nat} (h : MR X Rf K L n zf zv zr) (hM : ∀ p i, R32 (M p i)) (c6 : cnt ≤ 60) (ck : CK (cvw M Rf) X cnt st zf zv (.inr (v, f :: k))) (efr : M 43 9 = (fr : Int)) (hs : Sf 1 (.inr (v, f :: k))) (hq : EnP Q X cnt M Rf K L n s zf zv zr st (.inr (v, f :: k))) : pm_Wc (d + 5) 122 [.ref 43, .int (zI ((fr : Int) - 1))] (zM M, Rf, K, L, n, s) Q := by
  obtain ⟨t, ρ, w, g⟩ := f
  obtain ⟨vs, sc, fr', H, bk, hv⟩ := ck
  have hv : H (cvw M Rf 43 13) = some v := hv
  have e9 := bk.1.2.2.1
  rw [cvw_o (by omega), efr] at e9
  obtain ⟨q, eq, fm, -⟩ := bk.2.2.2
  subst eq
  rw [show (fr : Int) - 1 = (q : Int) by omega]
  have f2 : nKd t = 7 ∨ nKd t = 9 ∨ nKd t = 10 ∨ nKd t = 11 := fm.1
  have hne : mv (.inr (v, (t, ρ, w, g) :: k)) ≠ none := by
    intro e
    rcases hs with ⟨v', e'⟩ | ⟨b', c', e', -⟩
    · cases e'
    · rw [e] at e'; cases e'
  rcases f2 with c7 | c9 | c10 | c11
  · by_cases g0 : g = 0
    · exact c_goOn7a h hM c6 bk hv c7 g0 hq
    · have hi : isC w 6 = true := by
        by_cases q : isC w 6 = true
        · exact q
        · rw [mvR_7c c7 g0, if_neg q] at hne; exact absurd rfl hne
      exact c_goOn7b h hM c6 bk hv c7 g0 hi hq
  · have hi : isC v 8 = true := by
      by_cases q : isC v 8 = true
      · exact q
      · rw [mvR_9c c9, if_neg q] at hne; exact absurd rfl hne
    exact c_goOn9 h hM c6 bk hv c9 hi hq
  · exact c_goOn10 h hM c6 bk hv c10 hq
  · have hi : isR v (nMk t) = true := by
      by_cases q : isR v (nMk t) = true
      · exact q
      · rw [mvR_11c c11, if_neg q] at hne; exact absurd rfl hne
    exact c_goOn11 h hM c6 bk hv c11 hi hq
end PmH13b
