/-! BODIES WITH TWO HEADERS: what is left. -/
theorem nsch_six : ∀ (n : Nat) (t : Ty) (d : Nat), (flat t).length ≤ n → ok d t = true → tch t < 6 → nsch t = true
  | 0, t, d, hf, o, _ => by have := flat_pos o; omega
  | n + 1, t, d, hf, o, h => by
    rcases ok_cases o with rfl | ⟨j, hj, rfl⟩ | ⟨x, y, rfl, hx, hy⟩ | ⟨x, y, rfl, hx, hy⟩ | ⟨m, x, y, z, hm, rfl, h0, h1, h2⟩
    · rfl
    · rfl
    · rw [flat_fun, List.length_cons, List.length_append] at hf
      rw [tch_fun] at h
      rw [nsch_fun, nsch_six n x d (by omega) hx (by omega), nsch_six n y d (by omega) hy (by omega)]
      rfl
    · have := tch_pos hx
      have := tch_pos hy
      rw [tch_all] at h
      omega
    · rw [flat_rec, List.length_cons, List.length_append, List.length_append] at hf
      rw [tch_rec] at h
      have key : ∀ (i : Nat) (p : Ty), (flat p).length ≤ n → tch p < 6 → okl d m i p → nsch p = true := by
        intro i p hp hp2 ho
        unfold okl at ho
        by_cases hb : bit m i = true
        · rw [if_pos hb] at ho
          exact nsch_six n p d hp ho hp2
        · rw [if_neg hb] at ho
          rw [ho]; rfl
      rw [nsch_rec, key 0 x (by omega) (by omega) h0, key 1 y (by omega) (by omega) h1, key 2 z (by omega) (by omega) h2]
      rfl
def RsK (f : Nat) (x y C : Ty) (Γ0 Δ1 : List Ty) (Δ : List (Nat × Ty × Nat)) : Prop := (LFn f x y C Γ0 Δ1 Δ ∧ phf (fun _ => true) C = true ∧ Δ ≠ [] ∧ (((kdt C = 1 ∨ kdt C = 4) ∧ tch C = 30 ∧ Γ0 = [] ∧ Δ1 = [] ∧ mch x = 7 ∧ mch y = 7) ∨ (memt exS (tch C) (cch Γ0) (cch Δ1) = true ∧ (kdt C = 2 ∨ kdt C = 3) ∧ OVq 1 tTop C Dsm Γ0))) ∨ (LFn f x y C Γ0 Δ1 Δ ∧ Γ0 = [] ∧ Δ1 = [] ∧ 36 ≤ tch C ∧ tch C ≤ 38 ∧ ∃ b e, C = tAll b e ∧ hd b ≠ 0 ∧ hd b < 16 ∧ bdC b e = true)
def LeftK (f : Nat) (x y : Ty) (Γ : List Ty) (Δ : List (Nat × Ty × Nat)) : Prop := ∃ (Δ1 Γ0 : List Ty) (b : Ty), Γ = cxs Δ1 Γ0 b ∧ nsch b = false ∧ ((∀ a ∈ Γ0, nsch a = true ∨ tch a ≤ tch b) ∧ ∀ a ∈ Δ1, nsch a = true ∨ tch a ≤ tch b) ∧ ((∀ B C, b ≠ tAll B C) ∨ (∃ B C, b = tAll B C ∧ B ≠ tTop) ∨ ∃ (C : Ty), b = tAll tTop C ∧ RsK f x y C Γ0 Δ1 Δ)
theorem t27_29 : t27.all (fun t => memt t29 t.1 t.2.1 t.2.2 || (Nat.ble 36 t.1 && (Nat.beq t.2.1 0 && Nat.beq t.2.2 0))) = true := by decide +kernel
theorem exL_29 : exL.all (fun t => memt t29 t.1 t.2.1 t.2.2) = true := by decide +kernel
theorem exS_29 : exS.all (fun t => memt t29 t.1 t.2.1 t.2.2) = true := by decide +kernel
theorem cch_zero {Γ : List Ty} (h : cch Γ = 0) : Γ = [] := by
  cases Γ with
  | nil => rfl
  | cons a Γ =>
    have e : cch (a :: Γ) = (tch a + 4) + cch Γ := rfl
    omega
/-- a body of that sort, or it may be replaced -/
theorem two_or {C : Ty} {Γ0 Δ1 : List Ty} (hc : okc (cxs Δ1 Γ0 (tAll tTop C))) (hv : noac (cxs Δ1 Γ0 (tAll tTop C))) (k : kdt C = 2) (h7 : cch Γ0 ≤ 7) (nov : ¬ OVq 1 tTop C Dsm Γ0) : ∃ b e, C = tAll b e ∧ hd b ≠ 0 ∧ hd b < 16 ∧ bdC b e = true := by
  obtain ⟨oc0, oA⟩ := okc_low Δ1 hc
  have oC := (ok_all.mp oA).2
  have na : noal C = true := by
    have q := (hv Γ0.length (by rw [cxs_len]; omega)).1
    rw [cxs_bnd, noal_all, Bool.and_eq_true, Bool.and_eq_true] at q
    exact q.2.2
  rcases kdt_cases oC with q | q | q | q | q
  · omega
  · omega
  · omega
  · obtain ⟨-, b, e, rfl, hb, ob, oe⟩ := q
    have na' := na
    rw [noal_all, Bool.and_eq_true, decide_eq_true_iff] at na'
    refine ⟨b, e, rfl, hb, na'.1, two_flag oc0 (fun j hj => ?_) oC na hb (fun a ha => ?_) nov⟩
    · have q := hv j (by rw [cxs_len]; omega)
      rw [cxs_lowb Δ1 j hj] at q
      exact q
    · obtain ⟨d, o1, -⟩ := okc_mch oc0 ha
      have := mem_cch ha
      exact nsch_six _ a d (Nat.le_refl _) o1 (by omega)
  · omega
def RESTG9 : Prop := ∀ (f : Nat) (x y : Ty) (Γ : List Ty) (Δ : List (Nat × Ty × Nat)), TWf f Γ.length (Δ.map (fun a => a.1)) x → TWf f Γ.length (Δ.map (fun a => a.1)) y → TE Γ Δ → NAt f x → NAt f y → noac Γ → (∀ a ∈ Δ, noal a.2.1 = true) → TNo f x → TNo f y → 3 ≤ mch x → 3 ≤ mch y → (mch x ≤ mch y → ¬ NOp f x) → (¬ mch x ≤ mch y → ¬ NOp f y) → 20 ≤ cch Γ → cch Γ ≤ 47 → cch Γ + dch Δ + (2 + (mch x + mch y)) ≤ 60 → NoO f x y Γ Δ → ¬ AzT f x Γ Δ → ¬ AzT f y Γ Δ → ¬ AzB f x Γ Δ → ¬ AzB f y Γ Δ → ¬ AzC f x Γ Δ → ¬ AzC f y Γ Δ → ¬ AzI f x Γ Δ → ¬ AzI f y Γ Δ → ¬ AzF f x Γ Δ → ¬ AzF f y Γ Δ → ¬ AzG f x Γ Δ → ¬ AzG f y Γ Δ → ¬ AzH f x Γ Δ → ¬ AzH f y Γ Δ → ¬ PrS f x y Γ Δ → ¬ AzK f x Γ Δ → ¬ AzK f y Γ Δ → ¬ AzL f x Γ Δ → ¬ AzL f y Γ Δ → ¬ AzM f x Γ Δ → ¬ AzM f y Γ Δ → ¬ PrG f x y Γ Δ → ¬ AzN f x Γ Δ → ¬ AzN f y Γ Δ → ¬ One9 Γ → ¬ AzO f x Γ Δ → ¬ AzO f y Γ Δ → ¬ AzP f x Γ Δ → ¬ AzP f y Γ Δ → ¬ AzQ f x Γ Δ → ¬ AzQ f y Γ Δ → ¬ AzR f x Γ Δ → ¬ AzR f y Γ Δ → ¬ AzS f x Γ Δ → ¬ AzS f y Γ Δ → Cv2 f x y Γ Δ → Cv4 f x y Γ Δ → Cv5 f x y Γ Δ → Cv6 f x y Γ Δ → (¬ ((mch x ≤ mch y → CHo f x []) ∧ (¬ mch x ≤ mch y → CHo f y [])) ∨ LeftK f x y Γ Δ) → PRn f x y Γ Δ
theorem restf9_of (R : RESTG9) : RESTF9 := by
  intro f x y Γ Δ x1 x2 he y1 y2 hv hd' tx ty m3 n3 no1 no2 h20 h47 hb ng ax ay bx bz cx cy dx dy ex ey gx gy ix iy jx kx ky lx ly mx my px qx qy ox ux uy vx vy wx wy zx zy sx sy c2 c4 c5 c6 hL
  have go := R f x y Γ Δ x1 x2 he y1 y2 hv hd' tx ty m3 n3 no1 no2 h20 h47 hb ng ax ay bx bz cx cy dx dy ex ey gx gy ix iy jx kx ky lx ly mx my px qx qy ox ux uy vx vy wx wy zx zy sx sy c2 c4 c5 c6
  by_cases hch : (mch x ≤ mch y → CHo f x []) ∧ (¬ mch x ≤ mch y → CHo f y [])
  rotate_left
  · exact go (Or.inl hch)
  rcases hL with hL | ⟨Δ1, Γ0, b, e, ns, ho, rest⟩
  · exact absurd hch hL
  rcases rest with r | r | ⟨C, eb, rs⟩
  · exact go (Or.inr ⟨Δ1, Γ0, b, e, ns, ho, Or.inl r⟩)
  · exact go (Or.inr ⟨Δ1, Γ0, b, e, ns, ho, Or.inr (Or.inl r)⟩)
  have keep : RsK f x y C Γ0 Δ1 Δ → PRn f x y Γ Δ := fun k => go (Or.inr ⟨Δ1, Γ0, b, e, ns, ho, Or.inr (Or.inr ⟨C, eb, k⟩)⟩)
  subst eb
  subst e
  have et : tch (tAll tTop C) = tch C + 5 := by rw [tch_all, tch_top]; omega
  have ho' : (∀ b' ∈ Γ0, nsch b' = true ∨ (true = true ∧ tch b' ≤ tch C + 5)) ∧ ∀ b' ∈ Δ1, nsch b' = true ∨ (true = true ∧ tch b' ≤ tch C + 5) := ⟨fun a ha => (ho.1 a ha).imp id (fun q => ⟨rfl, by omega⟩), fun a ha => (ho.2 a ha).imp id (fun q => ⟨rfl, by omega⟩)⟩
  have nat : ∀ b' e', C = tAll b' e' → hd b' ≠ 0 → hd b' < 16 → bdC b' e' = true → memt t29 (tch C) (cch Γ0) (cch Δ1) = true → PRn f x y (cxs Δ1 Γ0 (tAll tTop C)) Δ := by
    intro b' e' eC hb1 hb2 hbd h29
    subst eC
    by_cases le : mch x ≤ mch y
    · exact pair_ntv x1 x2 he y1 y2 hv hd' (by omega) (Or.inl (nat_9 x1 he tx (hch.1 le) ⟨hb1, hb2⟩ hbd ho' h29 m3 (by omega) h47))
    · exact pair_ntv x1 x2 he y1 y2 hv hd' (by omega) (Or.inr (nat_9 x2 he ty (hch.2 le) ⟨hb1, hb2⟩ hbd ho' h29 n3 (by omega) h47))
  rcases rs with ⟨lf, hp, nΔ, r⟩ | ⟨lf, hp, k2', nd, nov, h27⟩
  · rcases r with r | ⟨k2', hl, nov⟩ | ⟨hs, r⟩
    · exact keep (Or.inl ⟨lf, hp, nΔ, Or.inl r⟩)
    · have h29 : memt t29 (tch C) (cch Γ0) (cch Δ1) = true := List.all_eq_true.mp exL_29 _ (memt_mem hl)
      have kk := t29_min _ (memt_mem h29)
      have kk : 12 ≤ tch C ∧ tch C ≤ 38 ∧ cch Γ0 ≤ 7 ∧ cch Δ1 ≤ 26 ∧ 31 ≤ 9 + tch C + cch Γ0 + cch Δ1 := kk
      obtain ⟨b', e', eC, q1, q2, q3⟩ := two_or he.1 hv k2' kk.2.2.1 nov
      exact nat b' e' eC q1 q2 q3 h29
    · by_cases nov : OVq 1 tTop C Dsm Γ0
      · refine keep (Or.inl ⟨lf, hp, nΔ, Or.inr ⟨hs, ?_, nov⟩⟩)
        rcases r with r | r
        · exact Or.inl r
        · exact Or.inr r.1
      · rcases r with r | r
        · have h29 : memt t29 (tch C) (cch Γ0) (cch Δ1) = true := List.all_eq_true.mp exS_29 _ (memt_mem hs)
          have kk := t29_min _ (memt_mem h29)
          have kk : 12 ≤ tch C ∧ tch C ≤ 38 ∧ cch Γ0 ≤ 7 ∧ cch Δ1 ≤ 26 ∧ 31 ≤ 9 + tch C + cch Γ0 + cch Δ1 := kk
          obtain ⟨b', e', eC, q1, q2, q3⟩ := two_or he.1 hv r kk.2.2.1 nov
          exact nat b' e' eC q1 q2 q3 h29
        · exact absurd r.2 nov
  · have kk := t27_min _ (memt_mem h27)
    have kk : 12 ≤ tch C ∧ tch C ≤ 38 ∧ cch Γ0 ≤ 7 ∧ cch Δ1 ≤ 26 ∧ 31 ≤ 9 + tch C + cch Γ0 + cch Δ1 := kk
    obtain ⟨b', e', eC, q1, q2, q3⟩ := two_or he.1 hv k2' kk.2.2.1 nov
    have q := List.all_eq_true.mp t27_29 _ (memt_mem h27)
    rw [Bool.or_eq_true, Bool.and_eq_true, Bool.and_eq_true] at q
    rcases q with q | q
    · exact nat b' e' eC q1 q2 q3 q
    · exact keep (Or.inr ⟨lf, cch_zero (Nat.eq_of_beq_eq_true q.2.1), cch_zero (Nat.eq_of_beq_eq_true q.2.2), Nat.le_of_ble_eq_true q.1, kk.2.1, b', e', eC, q1, q2, q3⟩)
theorem pairn_pg (R : RESTG9) : PAIRn := pairn_pf (restf9_of R)
