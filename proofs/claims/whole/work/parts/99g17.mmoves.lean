/-! THE MODEL RUNS: moves come to an end; a value comes back, all kinds. -/
theorem mv_step_k {c c' : Cf} (h : mv c = some (true, c')) : mvK (cfK c') ≤ mvC c := by
  cases c with
  | inl x =>
    obtain ⟨t, ρ, k⟩ := x
    have h : mvE t ρ k = some (true, c') := h
    unfold mvE at h
    show mvK (cfK c') ≤ 4 * pnd t + mvK k
    by_cases c5 : nKd t = 5
    · rw [if_pos c5] at h
      cases e : elk ρ (nMk t) with
      | none => rw [e] at h; cases h
      | some v => rw [e] at h; cases h
    rw [if_neg c5] at h
    by_cases c6 : nKd t = 6 ∨ nKd t = 8
    · rw [if_pos c6] at h; cases h
    rw [if_neg c6] at h
    by_cases c10 : nKd t = 10
    · rw [if_pos c10] at h
      by_cases q : nxl (nMk t) 0 < 3
      · rw [if_pos q] at h; cases h
      · rw [if_neg q] at h; cases h
    rw [if_neg c10] at h
    by_cases c12 : nKd t = 12
    · rw [if_pos c12] at h
      cases h
      show mvK k ≤ _
      omega
    · rw [if_neg c12] at h; cases h
  | inr x =>
    obtain ⟨v, k⟩ := x
    cases k with
    | nil => cases h
    | cons f k =>
      obtain ⟨t, ρ, w, g⟩ := f
      have h : mvR v ((t, ρ, w, g) :: k) = some (true, c') := h
      rw [mvR] at h
      show mvK (cfK c') ≤ mvF (t, ρ, w, g) + mvK k
      by_cases c7 : nKd t = 7
      · rw [if_pos c7] at h
        by_cases g0 : g = 0
        · rw [if_pos g0] at h; cases h
        rw [if_neg g0] at h
        by_cases q : isC w 6 = true
        · rw [if_pos q] at h; cases h; show mvK k ≤ _; omega
        · rw [if_neg q] at h; cases h
      rw [if_neg c7] at h
      by_cases c9 : nKd t = 9
      · rw [if_pos c9] at h
        by_cases q : isC v 8 = true
        · rw [if_pos q] at h; cases h; show mvK k ≤ _; omega
        · rw [if_neg q] at h; cases h
      rw [if_neg c9] at h
      by_cases c11 : nKd t = 11
      · rw [if_pos c11] at h
        by_cases q : isR v (nMk t) = true
        · rw [if_pos q] at h; cases h; show mvK k ≤ _; omega
        · rw [if_neg q] at h; cases h
      rw [if_neg c11] at h
      by_cases q : nxl (nMk t) (g + 1) < 3
      · rw [if_pos q] at h; cases h
      · rw [if_neg q] at h; cases h
theorem mvC_le (c : Cf) (h : ∀ t ρ k, c = .inl (t, ρ, k) → pnd t ≤ 60) : mvC c ≤ 240 + mvK (cfK c) := by
  cases c with
  | inl x =>
    obtain ⟨t, ρ, k⟩ := x
    have := h t ρ k rfl
    show 4 * pnd t + mvK k ≤ 240 + mvK k
    omega
  | inr x =>
    obtain ⟨v, k⟩ := x
    show mvK k ≤ 240 + mvK k
    omega
section PmG17
variable {N : pm_M} {a b st : Nat}
theorem CR.small {c : Cf} (h : CR N a b st c) (a6 : a ≤ 60) : ∀ t ρ k, c = .inl (t, ρ, k) → pnd t ≤ 60 := by
  intro t ρ k e
  subst e
  obtain ⟨vs, es, fr, H, c0, hh, cb, fs, e49, j, s, ch, e46, nv, ea⟩ := h
  have := nv.len
  omega
/-- from label g on -/
theorem mvC_rGo {t ρ w : Ty} {k : List Fr} {j g : Nat} {s : Int} {ch : List (Nat × Int × Nat)} (nv : NV N a b t j s ch) (hk : nKd t = 10) (hg : g ≤ 3) : mvC (rGo t ρ w k g) + (if g = 0 then 1 else 0) ≤ (if g = 0 then 4 * pnd t else 4 * pdR t (g - 1) + (3 - (g - 1)) - 1) + mvK k ∨ 3 < g := by
  have m8 := nv.mk.2.2.1 hk
  have pt1 := pnd_is nv.sp
  left
  unfold rGo
  by_cases c : nxl (nMk t) g < 3
  · rw [if_pos c]
    obtain ⟨n1, n2, n3⟩ := nxl_in m8 (g := g) (by omega) c
    show 4 * pnd (nP t (nxl (nMk t) g)) + (mvF (t, ρ, w, nxl (nMk t) g) + mvK k) + _ ≤ _
    have e : mvF (t, ρ, w, nxl (nMk t) g) = 4 * pdR t (nxl (nMk t) g) + (3 - nxl (nMk t) g) := by
      unfold mvF
      show (if nKd t = 7 then _ else if nKd t = 10 then 4 * pdR t (nxl (nMk t) g) + (3 - nxl (nMk t) g) else 0) = _
      rw [if_neg (by omega), if_pos hk]
    rw [e]
    generalize nxl (nMk t) g = x at *
    have q : (x = 0 ∧ g = 0) ∨ (x = 1 ∧ g = 0) ∨ (x = 1 ∧ g = 1) ∨ (x = 2 ∧ g = 0) ∨ (x = 2 ∧ g = 1) ∨ (x = 2 ∧ g = 2) := by omega
    have y0 : nP t 0 = nX t := rfl
    have y1 : nP t 1 = nY t := rfl
    have y2 : nP t 2 = nZ t := rfl
    have z0 : pdR t 0 = pnd (nY t) + pnd (nZ t) := rfl
    have z1 : pdR t 1 = 0 + pnd (nZ t) := rfl
    have z2 : pdR t 2 = 0 + 0 := rfl
    rcases q with ⟨rfl, rfl⟩ | ⟨rfl, rfl⟩ | ⟨rfl, rfl⟩ | ⟨rfl, rfl⟩ | ⟨rfl, rfl⟩ | ⟨rfl, rfl⟩
    · rw [y0, z0, if_pos rfl, if_pos rfl]; omega
    · rw [y1, z1, if_pos rfl, if_pos rfl]; omega
    · rw [y1, z1, if_neg (by omega), if_neg (by omega), show 1 - 1 = 0 from rfl, z0]; omega
    · rw [y2, z2, if_pos rfl, if_pos rfl]; omega
    · rw [y2, z2, if_neg (by omega), if_neg (by omega), show 1 - 1 = 0 from rfl, z0]; omega
    · rw [y2, z2, if_neg (by omega), if_neg (by omega), show 2 - 1 = 1 from rfl, z1]; omega
  · rw [if_neg c]
    show mvK k + _ ≤ _
    by_cases g0 : g = 0
    · rw [if_pos g0, if_pos g0]; omega
    · rw [if_neg g0, if_neg g0]; omega
theorem mvC_lt {c c' : Cf} (h : CR N a b st c) (e : mv c = some (false, c')) : mvC c' < mvC c := by
  obtain ⟨vs, es, fr, H, c0, hh, cb, fs, hc⟩ := h
  cases c with
  | inl x =>
    obtain ⟨t, ρ, k⟩ := x
    obtain ⟨e49, j, s, ch, e46, nv, ea⟩ := hc
    have pt1 := pnd_is nv.sp
    have kd := nv.kd.1
    show mvC c' < 4 * pnd t + mvK k
    have e0 : mvE t ρ k = some (false, c') := e
    by_cases c5 : nKd t = 5
    · unfold mvE at e0
      rw [if_pos c5] at e0
      cases q : elk ρ (nMk t) with
      | none => rw [q] at e0; cases e0
      | some v => rw [q] at e0; cases e0; show mvK k < _; omega
    by_cases c6 : nKd t = 6 ∨ nKd t = 8
    · rw [mv_6 c6] at e; cases e; show mvK k < _; omega
    by_cases c10 : nKd t = 10
    · rw [mv_10 c10] at e
      cases e
      have := mvC_rGo (ρ := ρ) (w := vR (nMk t) .nil .nil .nil) (k := k) (g := 0) nv c10 (by omega)
      rw [if_pos rfl, if_pos rfl] at this
      omega
    by_cases c12 : nKd t = 12
    · rw [mv_12 c12] at e; cases e
    · have c7 : nKd t = 7 ∨ nKd t = 9 ∨ nKd t = 11 := by omega
      rw [mv_x c7] at e
      cases e
      show 4 * pnd (nX t) + (mvF (t, ρ, .nil, 0) + mvK k) < _
      have : mvF (t, ρ, .nil, 0) ≤ 4 * pnd (nY t) + 1 := by
        unfold mvF
        show (if nKd t = 7 then (if (0 : Nat) = 0 then 4 * pnd (nY t) + 1 else 0) else if nKd t = 10 then _ else 0) ≤ _
        by_cases q : nKd t = 7
        · rw [if_pos q, if_pos rfl]; exact Nat.le_refl _
        · rw [if_neg q, if_neg c10]; omega
      omega
  | inr x =>
    obtain ⟨v, k⟩ := x
    cases k with
    | nil => cases e
    | cons f k =>
      obtain ⟨t, ρ, w, g⟩ := f
      obtain ⟨q, eq, fm, -⟩ := fs
      obtain ⟨f1, f2, j, s, ch, nv, ea, f5, f6, f7⟩ := fm
      have nv : NV N a b t j s ch := nv
      have pt1 := pnd_is nv.sp
      have f2 : nKd t = 7 ∨ nKd t = 9 ∨ nKd t = 10 ∨ nKd t = 11 := f2
      show mvC c' < mvF (t, ρ, w, g) + mvK k
      rcases f2 with c7 | c9 | c10 | c11
      · by_cases g0 : g = 0
        · rw [mvR_7d c7 g0] at e
          cases e
          have m1 : mvF (t, ρ, w, g) = 4 * pnd (nY t) + 1 := by
            unfold mvF
            show (if nKd t = 7 then (if g = 0 then 4 * pnd (nY t) + 1 else 0) else _) = _
            rw [if_pos c7, if_pos g0]
          have m2 : mvF (t, ρ, v, 1) = 0 := by
            unfold mvF
            show (if nKd t = 7 then (if 1 = 0 then 4 * pnd (nY t) + 1 else 0) else _) = _
            rw [if_pos c7, if_neg (by omega)]
          show 4 * pnd (nY t) + (mvF (t, ρ, v, 1) + mvK k) < _
          omega
        · rw [mvR_7c c7 g0] at e
          by_cases q : isC w 6 = true
          · rw [if_pos q] at e; cases e
          · rw [if_neg q] at e; cases e
      · rw [mvR_9c c9] at e
        by_cases q : isC v 8 = true
        · rw [if_pos q] at e; cases e
        · rw [if_neg q] at e; cases e
      · rw [mvR_10 c10] at e
        cases e
        have hg : g < 3 := (f7 c10).1.1
        have := mvC_rGo (ρ := ρ) (w := sP w g v) (k := k) (g := g + 1) nv c10 (by omega)
        rw [if_neg (by omega), if_neg (by omega), show g + 1 - 1 = g by omega] at this
        have m1 : mvF (t, ρ, w, g) = 4 * pdR t g + (3 - g) := by
          unfold mvF
          show (if nKd t = 7 then _ else if nKd t = 10 then 4 * pdR t g + (3 - g) else 0) = _
          rw [if_neg (by omega), if_pos c10]
        omega
      · rw [mvR_11c c11] at e
        by_cases q : isR v (nMk t) = true
        · rw [if_pos q] at e; cases e
        · rw [if_neg q] at e; cases e
end PmG17
theorem itr_none {q : Nat} {c : Cf} (h : mv c = none) : itr (q + 1) c = none := by
  rw [itr, h]
theorem itr_some {q : Nat} {c c' : Cf} {b : Bool} (h : mv c = some (b, c')) : itr (q + 1) c = (itr q c').map (fun x : Nat × Cf => (x.1 + (if b = true then 1 else 0), x.2)) := by
  rw [itr, h]
theorem itr_split {q nn : Nat} {c c1 : Cf} (h : itr (q + 1) c = some (nn, c1)) : ∃ b c0 n0, mv c = some (b, c0) ∧ itr q c0 = some (n0, c1) ∧ nn = n0 + (if b = true then 1 else 0) := by
  cases hm : mv c with
  | none => rw [itr_none hm] at h; cases h
  | some y =>
    obtain ⟨b0, c0⟩ := y
    rw [itr_some hm] at h
    cases hi : itr q c0 with
    | none => rw [hi] at h; cases h
    | some z =>
      obtain ⟨n0, c3⟩ := z
      rw [hi] at h
      cases h
      exact ⟨b0, c0, n0, rfl, hi, rfl⟩
theorem itr_snoc : ∀ {q nn : Nat} {c c1 c2 : Cf} {b : Bool}, itr q c = some (nn, c1) → mv c1 = some (b, c2) → itr (q + 1) c = some (nn + (if b = true then 1 else 0), c2)
  | 0, nn, c, c1, c2, b, h, e => by
    cases h
    rw [itr_some e]
    show some (0 + (if b = true then 1 else 0), c2) = _
    rfl
  | q + 1, nn, c, c1, c2, b, h, e => by
    obtain ⟨b0, c0, n0, h1, h2, h3⟩ := itr_split h
    rw [itr_some h1, itr_snoc h2 e, h3]
    show some (n0 + (if b = true then 1 else 0) + (if b0 = true then 1 else 0), c2) = some (n0 + (if b0 = true then 1 else 0) + (if b = true then 1 else 0), c2)
    rw [show n0 + (if b = true then 1 else 0) + (if b0 = true then 1 else 0) = n0 + (if b0 = true then 1 else 0) + (if b = true then 1 else 0) by omega]
theorem Sf_itr : ∀ {q nn : Nat} {c c1 : Cf}, itr q c = some (nn, c1) → (∀ m, Sf m c) → ∀ m, Sf m c1
  | 0, nn, c, c1, h, hs => by cases h; exact hs
  | q + 1, nn, c, c1, h, hs => by
    obtain ⟨b0, c0, n0, h1, h2, h3⟩ := itr_split h
    refine Sf_itr h2 (fun m => ?_)
    rcases hs (m + 1) with ⟨v, e⟩ | ⟨b, c', e, hc⟩
    · rw [e] at h1; cases h1
    · rw [h1] at e; cases e; exact hc
