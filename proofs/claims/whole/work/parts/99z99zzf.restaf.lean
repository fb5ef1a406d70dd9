/-! THE PAIRS OF exG, exH FOR THE BOUND []: RESTAF9. -/
section PmZf1
variable {f : Nat} {t s C : Ty} {Δ1 : List Ty} {Γ : List Ty} {Δ : List (Nat × Ty × Nat)} {a0 : Nat × Ty × Nat}
theorem is9_bel {S : Ty} (w : TWf (f + 1) Γ.length (Δ.map (fun a => a.1)) s) (c9 : nKd s = 9) (e0 : tyF (f + 1) s Γ Δ = .inr S) : ∃ S0, tyF f (nX s) Γ Δ = .inr S0 ∧ hd (expo Γ Γ.length S0) = 2 ∧ bel Γ (nY s) (k1 (expo Γ Γ.length S0)) = true := by
  unfold tyF at e0
  rw [if_neg (by omega), if_neg (by omega), if_neg (by omega), if_neg (by omega), if_pos c9] at e0
  obtain ⟨S0, hS, h1⟩ := tbd_in e0
  obtain ⟨e, l⟩ := tyO_in h1
  unfold tyI at e
  by_cases c : hd (expo Γ Γ.length S0) = 2 ∧ bel Γ (nY s) (k1 (expo Γ Γ.length S0)) = true
  · exact ⟨S0, hS, c.1, c.2⟩
  · rw [if_neg c] at e; cases e
/-- all binders are schemes with the bound []: a type of one character is no argument -/
theorem vac_three (he : TE Γ Δ) (hv : noac Γ) (d6 : dch Δ ≤ 6) (hall : ∀ j, j < Γ.length → ∃ b, bnd Γ j = tAll tR0 b) (w : TWf f Γ.length (Δ.map (fun a => a.1)) s) (k9 : nKd s = 9) (m3 : mch s = 3) : NtV Γ Δ f s 887 597 := by
  intro S hS
  exfalso
  cases f with
  | zero => exact w.elim
  | succ f =>
    obtain ⟨S0, h1, h2, hb⟩ := is9_bel w k9 hS
    have em := mch_is w.1.2.1
    rw [if_neg (by omega), if_neg (by omega), if_pos k9] at em
    obtain ⟨x1, oQ, -⟩ := w.2.2.2.2.2.1 k9
    have pQ := tch_pos oQ
    have p1 := mch_pos' x1
    have k5 : nKd (nX s) = 5 := Classical.byContradiction (fun n5 => by
      have := mch_two (tw_up _ _ _ _ x1) n5
      omega)
    have o := (tyF_ok _ _ _ _ _ x1 he h1).1
    have q3 : tch S0 ≤ 2 := by
      cases f with
      | zero => exact x1.elim
      | succ f =>
        obtain ⟨w0, w5, -⟩ := x1
        unfold tyF at h1
        rw [if_pos k5] at h1
        obtain ⟨e, l⟩ := tyO_in h1
        obtain ⟨a, ha⟩ := dlk_some (w5 k5)
        rw [ha] at e
        injection e with e
        have hm := dlk_mem ha
        obtain ⟨a1, a2, a3⟩ := he.2.2 _ hm
        have ad : tch a.1 + 4 ≤ dch Δ := dch_mem hm
        rw [← e, tch_lft a.2 _ a.1 a.2 a2]
        omega
    have low : ∀ F, ok Γ.length F = true → ¬ 16 ≤ hd F → hd F < 8 → bel Γ F tR0 = false := fun F oF h16 h8 => bel_no (show tok (Γ, F, tR0) from ⟨he.1, oF, rfl⟩) (by decide) h16 (fun q => by omega) (by have : hd tR0 = 8 := rfl; omega)
    rcases two_txt o (by omega) with e | ⟨j, hj, e⟩ | e
    · rw [e, ex_n (by decide)] at h2
      exact absurd h2 (by decide)
    · obtain ⟨b, eb⟩ := hall j hj
      have q := (ex_v he.1 hv hj).1
      rw [eb, lft_all] at q
      have r0 : lft j (Γ.length - j) tR0 = tR0 := by
        unfold tR0
        rw [lft_rec (by decide)]
        rfl
      rw [r0] at q
      rw [e, q] at hb
      have hb : bel Γ (nY s) tR0 = true := hb
      rcases one_txt oQ (by omega) with e | ⟨i, hi, e⟩
      · rw [e, low tTop (ok_top _) (by decide) (by decide)] at hb
        cases hb
      · obtain ⟨b', eb'⟩ := hall i hi
        rw [e] at hb
        rw [bel_var (show tok (Γ, tVar i, tR0) from ⟨he.1, by rw [← e]; exact oQ, rfl⟩) (by decide) (by have : hd tR0 = 8 := rfl; omega), eb', lft_all] at hb
        have oi := ok_expose (k := i) he.1 hi
        rw [eb', lft_all] at oi
        rw [low _ oi (by rw [hd_all]; omega) (by rw [hd_all]; omega)] at hb
        cases hb
    · rw [e, ex_r0] at h2
      exact absurd h2 (by decide)
end PmZf1
theorem mem_bnd9 : ∀ (Γ : List Ty) (a : Ty), a ∈ Γ → ∃ j, j < Γ.length ∧ bnd Γ j = a
  | [], a, h => by cases h
  | b :: Γ, a, h => by
    rcases List.mem_cons.mp h with e | e
    · refine ⟨Γ.length, Nat.lt_succ_self _, ?_⟩
      show (if Γ.length = Γ.length then b else _) = a
      rw [if_pos rfl, e]
    · obtain ⟨j, hj, ej⟩ := mem_bnd9 Γ a e
      refine ⟨j, Nat.lt_succ_of_lt hj, ?_⟩
      show (if j = Γ.length then b else bnd Γ j) = a
      rw [if_neg (by omega), ej]
theorem b7_five : B7z 2 18 0 9 = true ∧ B7z 2 18 0 10 = true ∧ B7z 2 19 0 9 = true ∧ B7z 2 22 0 9 = true ∧ B7z 2 22 0 12 = true := by decide +kernel
theorem wP9_has : ∀ m, 5 ≤ m → m ≤ 7 → has9 wP9 2 18 0 9 m = true ∧ has9 wP9 2 18 0 10 m = true ∧ has9 wP9 2 19 0 9 m = true := by
  intro m h5 h7
  rcases (show m = 5 ∨ m = 6 ∨ m = 7 by omega) with rfl | rfl | rfl <;> decide +kernel
/-- the numbers -/
theorem exGH_n {k q2 mp mt mx my c d : Nat} (h : exG 2 k 0 q2 mp = true ∨ exH 2 k 0 q2 mt (mx + my - mt) = true) (ec : c = 10 + k + q2) (hb : c + d + (2 + (mx + my)) ≤ 60) (d5 : 5 ≤ d) (pm : mp ≤ mt) (sh : (mt = mx ∧ mx ≤ my) ∨ (mt = my ∧ ¬ mx ≤ my)) (m3 : 3 ≤ mx ∧ 3 ≤ my) : d ≤ 6 ∧ mx ≤ 9 ∧ my ≤ 9 ∧ ((k = 18 ∧ q2 = 9 ∧ (mx = 9 ∨ my = 9 → mt = 7)) ∨ (k = 18 ∧ q2 = 10 ∧ mx ≤ 8 ∧ my ≤ 8) ∨ (k = 19 ∧ q2 = 9 ∧ mx ≤ 8 ∧ my ≤ 8) ∨ (k = 22 ∧ q2 = 9 ∧ mx ≤ 6 ∧ my ≤ 6) ∨ (k = 22 ∧ q2 = 12 ∧ mt = 3 ∧ mx ≤ 6 ∧ my ≤ 6)) := by
  rcases h with h | h
  · unfold exG at h
    simp only [Bool.and_eq_true, Bool.or_eq_true] at h
    obtain ⟨-, -, q, ⟨a, b⟩ | ⟨a, b⟩⟩ := h <;> (have q := Nat.eq_of_beq_eq_true q; have a := Nat.eq_of_beq_eq_true a; have b := Nat.eq_of_beq_eq_true b; omega)
  · unfold exH at h
    simp only [Bool.and_eq_true, Bool.or_eq_true] at h
    obtain ⟨-, ⟨-, ⟨⟨a, b⟩, ⟨c', d'⟩ | ⟨c', d'⟩ | ⟨c', d'⟩⟩ | ⟨c', d', ⟨a, b⟩ | ⟨a, b⟩⟩ | ⟨a, b, c', d'⟩⟩ | ⟨e, -⟩⟩ := h
    all_goals first
      | (have a := Nat.eq_of_beq_eq_true a; have b := Nat.eq_of_beq_eq_true b; have c' := Nat.eq_of_beq_eq_true c'; have d' := Nat.eq_of_beq_eq_true d'; omega)
      | (have e := Nat.eq_of_beq_eq_true e; omega)
/-- what is left of exG, exH: the bound has five characters -/
def V9e (f : Nat) (x y t : Ty) (Γ : List Ty) (Δ : List (Nat × Ty × Nat)) : Prop := ∃ (Δ1 : List Ty) (B C : Ty), Γ = cxs Δ1 [] (tAll B C) ∧ LBd [] Δ1 (tAll B C) tTop B C ∧ Δ ≠ [] ∧ sN B 0 1 C = false ∧ tch B = 5 ∧ tch C = 18 ∧ cch Δ1 = 13 ∧ mch t = 3 ∧ mch x + mch y = 9
def RESTAF9 : Prop := ∀ (f : Nat) (x y : Ty) (Γ : List Ty) (Δ : List (Nat × Ty × Nat)) (t : Ty), H9 f x y Γ Δ → Sh9 x y t → (¬ CHo f t [] ∨ (CHo f t [] ∧ V9e f x y t Γ Δ)) → PRn f x y Γ Δ
theorem restAE9_of (R : RESTAF9) : RESTAE9 := by
  intro f x y Γ Δ t H sh h
  rcases h with h | ⟨ch, h⟩
  · exact R f x y Γ Δ t H sh (Or.inl h)
  have H' := H
  obtain ⟨hx9, hy9, ⟨he, hv, hd', h20, h47, -⟩, hb, nO, nPS, nPG, -⟩ := H'
  obtain ⟨⟨wt, nt, tt, m3', m3, n9⟩, pm, hbt⟩ := h9_t H sh
  obtain ⟨Δ1, B, C, eΓ, lb, nD, fl, ov, h⟩ := h
  have d5 := dch_five he nD
  have ec : cch Γ = 8 + tch B + tch C + cch Δ1 := by
    have q := cch_cx (Γ0 := []) (β := tAll B C) Δ1
    have q2 := tch_all B C
    have q3 : cch ([] : List Ty) = 0 := rfl
    rw [eΓ]
    omega
  by_cases b2 : tch B = 2
  rotate_left
  · rcases h with ⟨-, hG⟩ | ⟨-, -, hH⟩
    · exact absurd (exGb9 hG).2.1 b2
    · refine R f x y Γ Δ t H sh (Or.inr ⟨ch, Δ1, B, C, eΓ, lb, nD, fl, ?_⟩)
      have hm : mch t ≤ mch x + mch y := by
        rcases sh with ⟨rfl, -⟩ | ⟨rfl, -⟩ <;> omega
      unfold exH at hH
      simp only [Bool.and_eq_true, Bool.or_eq_true] at hH
      obtain ⟨-, ⟨e, -⟩ | ⟨e, a, b, c, d⟩⟩ := hH
      · exact absurd (Nat.eq_of_beq_eq_true e) b2
      · have e := Nat.eq_of_beq_eq_true e
        have a := Nat.eq_of_beq_eq_true a
        have b := Nat.eq_of_beq_eq_true b
        have c := Nat.eq_of_beq_eq_true c
        have d := Nat.eq_of_beq_eq_true d
        exact ⟨e, a, b, c, by omega⟩
  have hc := he.1
  rw [eΓ] at hc
  obtain ⟨-, oA⟩ := okc_low Δ1 hc
  have eB := two_rec (ok_all.mp oA).1 b2
  subst eB
  have sh' : (mch t = mch x ∧ mch x ≤ mch y) ∨ (mch t = mch y ∧ ¬ mch x ≤ mch y) := by
    rcases sh with ⟨rfl, le⟩ | ⟨rfl, le⟩
    · exact Or.inl ⟨rfl, le⟩
    · exact Or.inr ⟨rfl, le⟩
  have hor : exG 2 (tch C) 0 (cch Δ1) (mch (pee f t).2) = true ∨ exH 2 (tch C) 0 (cch Δ1) (mch t) (mch x + mch y - mch t) = true := by
    rcases h with ⟨-, hG⟩ | ⟨-, -, hH⟩
    · exact Or.inl hG
    · exact Or.inr hH
  obtain ⟨d6, mx9, my9, nums⟩ := exGH_n hor (by have : tch tR0 = 2 := rfl; omega) hb d5 pm sh' ⟨hx9.2.2.2.1, hy9.2.2.2.1⟩
  have one : Δ.length ≤ 1 := by
    obtain ⟨a, ea⟩ := dch_one he nD (by omega)
    rw [ea]; exact Nat.le_refl _
  have k40 := lb.2.2.2.1
  have c2 : 2 ≤ tch C := by omega
  -- what stands behind
  have sm : ∀ a ∈ Δ1, ∃ d, ok d a = true ∧ tch a + 4 ≤ cch Δ1 := fun a ha => okc_top Δ1 hc a ha
  by_cases nh1 : ∀ a ∈ Δ1, noh 8 a = true
  rotate_left
  · -- a scheme with the bound [] behind: nothing of one character is an argument
    obtain ⟨a, ha, na⟩ : ∃ a ∈ Δ1, noh 8 a = false := Classical.byContradiction (fun q => nh1 (fun a ha => Classical.byContradiction (fun n => q ⟨a, ha, Bool.eq_false_iff.mpr n⟩)))
    obtain ⟨d, o1, o2⟩ := sm a ha
    have s7 := noh8_seven _ a d (Nat.le_refl _) o1 na
    have q12 : cch Δ1 = 12 ∧ mch t = 3 := by omega
    have e1 : Δ1 = [a] := by
      have pos : ∀ b ∈ Δ1, 1 ≤ tch b := fun b hb => tch_pos (sm b hb).choose_spec.1
      have mem : ∀ (l : List Ty) (b : Ty), b ∈ l → tch b + 4 ≤ cch l := by
        intro l
        induction l with
        | nil => intro b hb; cases hb
        | cons c l ih =>
          intro b hb
          show tch b + 4 ≤ (tch c + 4) + cch l
          rcases List.mem_cons.mp hb with e | e
          · rw [e]; omega
          · have := ih b e; omega
      match Δ1, ha, q12, pos with
      | [b], ha, _, _ => rw [List.mem_singleton] at ha; rw [ha]
      | b :: c :: l, ha, q, pos =>
        exfalso
        have q1 : (tch b + 4) + ((tch c + 4) + cch l) = 12 := q.1
        have pb := pos b (by simp)
        have pc := pos c (by simp)
        rcases List.mem_cons.mp ha with e | e
        · rw [e] at s7; omega
        · have := mem (c :: l) a e
          have this : tch a + 4 ≤ (tch c + 4) + cch l := this
          omega
    have e2 : ∃ r, a = tAll tR0 r := by
      rcases ok_cases o1 with rfl | ⟨j, hj, rfl⟩ | ⟨p, r, rfl, op, oR⟩ | ⟨p, r, rfl, op, oR⟩ | ⟨m, u, v, z, hm, rfl, u0, u1, u2⟩
      · cases na
      · cases na
      · exfalso
        rw [tch_fun] at o2
        have := tch_pos op
        have := tch_pos oR
        exact absurd (noh_fun.mpr ⟨noh8_small op (by omega), noh8_small oR (by omega)⟩) (by rw [na]; decide)
      · rw [tch_all] at o2
        have := tch_pos op
        have := tch_pos oR
        by_cases h8 : hd p = 8
        · exact ⟨r, by rw [hd8_r0 op h8]⟩
        · exact absurd (noh_all.mpr ⟨h8, noh8_small op (by omega), noh8_small oR (by omega)⟩) (by rw [na]; decide)
      · exfalso
        rw [tch_rec] at o2
        have r1 : 1 ≤ rch m := by unfold rch; split <;> omega
        have h3 : ∀ m, m < 8 → m ≠ 0 → 3 ≤ rch m := by decide
        have key : ∀ (i : Nat) (p : Ty), okl d m i p → tch p ≤ tch u + (tch v + tch z) → noh 8 p = true := by
          intro i p ho hp
          unfold okl at ho
          by_cases hb : bit m i = true
          · rw [if_pos hb] at ho
            have m0 : m ≠ 0 := by
              intro e
              rw [e] at hb
              unfold bit at hb
              simp at hb
            have := h3 m hm m0
            exact noh8_small ho (by omega)
          · rw [if_neg hb] at ho
            rw [ho]; rfl
        exact absurd (noh_rec.mpr ⟨key 0 u u0 (by omega), key 1 v u1 (by omega), key 2 z u2 (by omega)⟩) (by rw [na]; decide)
    obtain ⟨r, er⟩ := e2
    subst e1
    subst er
    subst eΓ
    refine h9_ntv H sh ?_
    obtain ⟨-, q2, -, n7, n11⟩ := pee_ok f _ _ t wt
    have e := q2.resolve_right (by omega)
    rw [e] at n7 n11
    by_cases k9 : nKd t = 9
    · refine vac_three he hv d6 (fun j hj => ?_) wt k9 q12.2
      have hj : j < 2 := hj
      rcases (show j = 0 ∨ j = 1 by omega) with rfl | rfl
      · exact ⟨C, rfl⟩
      · exact ⟨r, rfl⟩
    · exact ntv_nop wt he (nop_five wt (by omega) n7 k9 n11) (by omega)
  have noD : ∀ a ∈ Δ1, noal a = true := fun a ha => by
    have mem : a ∈ Γ := by rw [eΓ]; unfold cxs; simp [ha]
    obtain ⟨j, hj, ej⟩ : ∃ j, j < Γ.length ∧ bnd Γ j = a := mem_bnd9 Γ a mem
    rw [← ej]
    exact (hv j hj).1
  have hX : cch Δ1 ≤ 10 → ∀ a ∈ Δ1, ∀ p r, a = tAll p r → p = tTop ∧ tch r = 1 := by
    intro q10 a ha p r e
    obtain ⟨d, o1, o2⟩ := sm a ha
    have na := noD a ha
    subst e
    obtain ⟨op, oR⟩ := ok_all.mp o1
    rw [tch_all] at o2
    have pp := tch_pos op
    have pr := tch_pos oR
    rw [noal_all, Bool.and_eq_true, decide_eq_true_iff] at na
    rcases one_txt op (by omega) with e | ⟨j, -, e⟩
    · exact ⟨e, by omega⟩
    · rw [e, hd_var] at na; omega
  have hX' : cch Δ1 ≤ 10 → ∀ i j, 1 ≤ i → 1 ≤ j → i < (cxs Δ1 [] (tAll tR0 C)).length → j < (cxs Δ1 [] (tAll tR0 C)).length → hd (bnd (cxs Δ1 [] (tAll tR0 C)) i) = 2 → hd (bnd (cxs Δ1 [] (tAll tR0 C)) j) = 2 → i = j := by
    intro q10 i j i1 j1 hi hj hdi hdj
    have mi := bnd_d1 Δ1 i i1 hi
    obtain ⟨d, o1, o2⟩ := sm _ mi
    obtain ⟨p, r, e, op, oR⟩ := hd_is_all o1 hdi
    rw [e, tch_all] at o2
    have := tch_pos op
    have := tch_pos oR
    have pos : ∀ b ∈ Δ1, 1 ≤ tch b := fun b hb => tch_pos (sm b hb).choose_spec.1
    have l1 : Δ1.length ≤ 1 := by
      match Δ1, q10, pos, mi, e with
      | [], _, _, _, _ => exact Nat.zero_le _
      | [b], _, _, _, _ => exact Nat.le_refl _
      | b :: c :: l, q, pos, mi, e =>
        exfalso
        have mem : ∀ (l : List Ty) (b : Ty), b ∈ l → tch b + 4 ≤ cch l := by
          intro l
          induction l with
          | nil => intro b hb; cases hb
          | cons c l ih =>
            intro b hb
            show tch b + 4 ≤ (tch c + 4) + cch l
            rcases List.mem_cons.mp hb with e | e
            · rw [e]; omega
            · have := ih b e; omega
        have q1 : (tch b + 4) + ((tch c + 4) + cch l) ≤ 10 := q
        have pb := pos b (by simp)
        have pc := pos c (by simp)
        rw [e] at mi
        rcases List.mem_cons.mp mi with g | g
        · rw [← g, tch_all] at q1; omega
        · have := mem (c :: l) _ g
          rw [tch_all] at this
          have this : 4 + (tch p + tch r) + 4 ≤ (tch c + 4) + cch l := this
          omega
    rw [cxs_len] at hi hj
    have e0 : ([] : List Ty).length = 0 := rfl
    omega
  have hz : ∀ s, mch s ≤ 9 → (mch s = mch x ∨ mch s = mch y) → 7 ≤ mch s → cch Δ1 ≤ 10 ∧ ∀ m, 5 ≤ m → m ≤ 7 → has9 wP9 2 (tch C) 0 (cch Δ1) m = true := by
    intro s m9 hs s7
    refine ⟨by omega, fun m h5 h7 => ?_⟩
    obtain ⟨w1, w2, w3⟩ := wP9_has m h5 h7
    rcases nums with ⟨a, b, -⟩ | ⟨a, b, -⟩ | ⟨a, b, -⟩ | ⟨a, b, c⟩ | ⟨a, b, c⟩
    · rw [a, b]; exact w1
    · rw [a, b]; exact w2
    · rw [a, b]; exact w3
    · exfalso; omega
    · exfalso; omega
  subst eΓ
  have cls : ∀ s, mch s ≤ 9 → (mch s = mch x ∨ mch s = mch y) → TWf f (cxs Δ1 [] (tAll tR0 C)).length (Δ.map (fun a => a.1)) s → TNo f s → NtV (cxs Δ1 [] (tAll tR0 C)) Δ f s 887 597 ∨ SMg tR0 C [] Δ1 Δ f s ∨ (mch s = 9 ∧ ∃ e, C = tAll (tVar 0) e) := fun s m9 hs ws ns => cls_e lb fl c2 hv he nD d6 nh1 (fun s7 => hX (hz s m9 hs s7).1) (fun s7 => hX' (hz s m9 hs s7).1) h47 (by omega) ws ns m9 (fun s7 => (hz s m9 hs s7).2)
  have special : (mch x = 9 ∨ mch y = 9) → (∃ e, C = tAll (tVar 0) e) → PRn f x y (cxs Δ1 [] (tAll tR0 C)) Δ := by
    intro h9 he'
    obtain ⟨e, eC⟩ := he'
    rcases nums with ⟨a, b, c⟩ | ⟨a, b, c⟩ | ⟨a, b, c⟩ | ⟨a, b, c⟩ | ⟨a, b, c⟩
    · exact h9_ntv H sh (nat_S9x lb eC a b wt he nD one tt ch (c h9) h47 d6)
    all_goals (exfalso; omega)
  rcases cls x mx9 (Or.inl rfl) hx9.1 hx9.2.2.1 with z | z | ⟨z, ze⟩
  · exact pair_ntv hx9.1 hy9.1 he hx9.2.1 hy9.2.1 hv hd' (by omega) (Or.inl z)
  rotate_left
  · exact special (Or.inl z) ze
  rcases cls y my9 (Or.inr rfl) hy9.1 hy9.2.2.1 with z' | z' | ⟨z', ze⟩
  · exact pair_ntv hx9.1 hy9.1 he hx9.2.1 hy9.2.1 hv hd' (by omega) (Or.inr z')
  rotate_left
  · exact special (Or.inr z') ze
  refine absurd ⟨Δ1, [], tR0, C, rfl, ov, z, z', by decide, k40, by omega, ?_, by omega, by omega, fun e => absurd e nD⟩ nPG
  have e2 : tch tR0 = 2 := rfl
  have e0 : cch ([] : List Ty) = 0 := rfl
  rw [e2, e0]
  obtain ⟨u1, u2, u3, u4, u5⟩ := b7_five
  rcases nums with ⟨a, b, -⟩ | ⟨a, b, -⟩ | ⟨a, b, -⟩ | ⟨a, b, -⟩ | ⟨a, b, -⟩
  · rw [a, b]; exact u1
  · rw [a, b]; exact u2
  · rw [a, b]; exact u3
  · rw [a, b]; exact u4
  · rw [a, b]; exact u5
theorem pairn_qf (R : RESTAF9) : PAIRn := pairn_qe (restAE9_of R)
