/-! THE CLASS: readWholeTerm. -/
def rset (Rf : Nat → Nat → Nat) (p f x : Nat) : Nat → Nat → Nat := pm_u Rf p (pm_u (Rf p) f x)
theorem rset_s (Rf : Nat → Nat → Nat) (p f x : Nat) : rset Rf p f x p f = x := by simp [rset, pm_u]
theorem rset_o {Rf : Nat → Nat → Nat} {p f x q g : Nat} (h : ¬ (q = p ∧ g = f)) : rset Rf p f x q g = Rf q g := by
  unfold rset pm_u
  by_cases a : q = p
  · rw [if_pos a]
    by_cases b : g = f
    · exact absurd ⟨a, b⟩ h
    · subst a; exact if_neg b
  · rw [if_neg a]
theorem pm_G.rs {Rf : Nat → Nat → Nat} {K L : Nat → Nat} {n p f x : Nat} (h : pm_G Rf K L n) (hne : pm_RT.all (fun y => !(decide (y.1 = p) && decide (y.2.1 = f))) = true) : pm_G (rset Rf p f x) K L n := by
  refine ⟨h.1, h.2.1, h.2.2.1, fun y hy => ?_⟩
  rw [rset_o (fun e => ?_)]
  · exact h.2.2.2 y hy
  · have := List.all_eq_true.mp hne y hy
    rw [decide_eq_true e.1, decide_eq_true e.2] at this
    cases this
theorem RmI.rs {Rf : Nat → Nat → Nat} {K L : Nat → Nat} {n z p f x : Nat} (h : RmI Rf K L n z) (hp : p ≠ 6) : RmI (rset Rf p f x) K L n z := by
  have e : ∀ g, rset Rf p f x 6 g = Rf 6 g := fun g => rset_o (fun e => hp e.1.symm)
  obtain ⟨h1, h2, h3, h4⟩ := h
  exact ⟨fun g hg => by rw [e]; exact h1 g hg, fun g hg => by rw [e]; exact h2 g hg, fun a b ha hb hab => by rw [e, e] at hab; exact h3 a b ha hb hab, h4⟩
/-- what reading a term may write besides the rows -/
def WRt (X : Nat) (p : Nat) (i : Int) : Prop := (p = 6 ∧ i = 6) ∨ (p = 38 ∧ 6 ≤ i ∧ i ≤ 12) ∨ p = 39 ∨ p = 40 ∨ p = 41 ∨ (p = X ∧ i = 6) ∨ (X + 1 ≤ p ∧ p ≤ X + 6)
section PmC39
variable {d : Nat} {Q : Option Value → pm_S → Prop} {M : pm_M} {Rf : Nat → Nat → Nat} {K L : Nat → Nat} {n s : Nat} {tx : Nat → Int} {ln : Nat}
theorem c_readWholeTerm {X z : Nat} (hX : X = 16 ∨ X = 23) (hG : pm_G Rf K L n) (hR : RmI Rf K L n z) (hM : ∀ p i, R32 (M p i)) (m6 : M 6 6 = 1) (nt : ndf M Rf 1 1 tTop 0) (hl : ln ≤ 60) (ht : ∀ i : Nat, i < ln → M 2 i = tx i ∧ 32 ≤ tx i ∧ tx i ≤ 126) (h : ∀ (M' : pm_M) (Rf' : Nat → Nat → Nat) (K' L' : Nat → Nat) (n' s' z' : Nat) (cn' : Int) (c' : Nat) (i : Int), CX (WRt X) M (rset Rf 38 5 X) K L n s z 1 M' Rf' K' L' n' s' z' → M' 6 6 = cn' → 1 ≤ cn' → cn' ≤ 61 → cn' ≤ z' → c' ≤ 60 → PI M' X c' 60 → TmR M' Rf' X 0 (c' : Int) cn' 24 True (pM tx ln 23 [] 0).2 i → M' 38 10 = (if (pM tx ln 23 [] 0).2 = none ∨ (pM tx ln 23 [] 0).1 < ln then ((pM tx ln 23 [] 0).1 : Int) else -1) → Q none (zM M', Rf', K', L', n', s')) : pm_Wc (d + 356) 75 [.ref 38, .int (zI (ln : Int)), .ref X] (zM M, Rf, K, L, n, s) Q := by
  have gX : pm_G (rset Rf 38 5 X) K L n := hG.rs (by decide +kernel)
  have rX : RmI (rset Rf 38 5 X) K L n z := hR.rs (by decide)
  refine wc_in (ls0 := [some (.ref 38), some (.int (zI (ln : Int))), some (.ref X)]) (by decide) (Nat.le_of_ble_eq_true rfl) rfl rfl ?_
  refine wp_aload_n d75_0 rfl ?_
  refine wp_iload_n d75_1 rfl ?_
  refine wp_virt (as := [.int (zI (ln : Int))]) (rest := []) d75_2 rfl rfl rfl (hG.o (by decide) rfl) rfl rfl (Nat.le_of_ble_eq_true rfl) ?_
  refine wc_deep (show 0 + 1 ≤ d + 355 by omega) ?_
  refine c_rbegin hG hl ?_
  refine wp_aload_n d75_5 rfl ?_
  refine wp_aload_n d75_6 rfl ?_
  refine wp_putR (c := 5) (f := 5) (p := 38) (x := X) d75_7 rfl (hG.o (by decide) rfl) (by omega) rfl (by decide) ?_
  show pm_Wp none (d + 355) 75 10 [some (.ref 38), some (.int (zI (ln : Int))), some (.ref X)] [] (zM (rbg M (ln : Int)), rset Rf 38 5 X, K, L, n, s) Q
  have nt2 : ndf M (rset Rf 38 5 X) 1 1 tTop 0 := ndf_mono (fun g hg i _ _ => by rw [show rset Rf 38 5 X 6 g = Rf 6 g from rset_o (by omega)]) (Int.le_refl _) (Nat.le_refl _) nt
  have S0 := rbg_S gX rX hM m6 nt2 hl ht
  have cx0 : CX WRd M (rset Rf 38 5 X) K L n s z 1 (rbg M (ln : Int)) (rset Rf 38 5 X) K L n s z := rbg_cx gX rX hM hl
  refine wp_aload_n d75_10 rfl ?_
  refine wp_getR (q := X) d75_11 rfl (gX.o (by decide) rfl) (by decide) (rset_s _ _ _ _) (by omega) ?_
  refine wz_iconst d75_14 ?_
  refine wz_putI (i := 6) d75_15 rfl (by rcases hX with e | e <;> (rw [e]; exact gX.o (by decide) rfl)) rfl (by decide) rfl ?_
  have f2 : ∀ (q : Nat) (i : Int), ¬ (q = X ∧ i = 6) → (mset (rbg M (ln : Int)) X 6 0) q i = rbg M (ln : Int) q i := fun q i hq => by unfold mset; rw [if_neg hq]
  have hM2 : ∀ p i, R32 ((mset (rbg M (ln : Int)) X 6 0) p i) := mset_R32 cx0.r32 ⟨by omega, by omega⟩
  obtain ⟨g1, g2, g3, g4, g5, g6, g7, g8, g9, g10, g11, g12, g13⟩ := S0
  have R0 : RdS tx ln [] 0 (mset (rbg M (ln : Int)) X 6 0) (rset Rf 38 5 X) K L n z 1 := ⟨g1, g2, hM2, (f2 6 6 (by omega)).trans g4, g5, g6, g7, ndf_mono (fun g hg i _ _ => f2 _ i (by have := rX.2.1 g hg; omega)) (Int.le_refl _) (Nat.le_refl _) g8, ⟨(f2 38 6 (by omega)).trans g9.1, g9.2.1, fun i hi => by rw [f2 2 i (by omega)]; exact g9.2.2 i hi⟩, (f2 38 7 (by omega)).trans g10, g11, (f2 38 8 (by omega)).trans g12, trivial⟩
  have e9 : rbg M (ln : Int) 38 9 = 0 := by unfold rbg; simp [mset]
  have e11 : rbg M (ln : Int) 38 11 = 1 := by unfold rbg; simp [mset]
  have e12 : rbg M (ln : Int) 38 12 = 0 := by unfold rbg; simp [mset]
  have gf0 : GF (mset (rbg M (ln : Int)) X 6 0) := by
    unfold GF
    rw [f2 38 11 (by omega), f2 38 12 (by omega), e11, e12]
    exact ⟨by decide, rfl⟩
  have S1 : RmS tx ln X [] 0 0 (mset (rbg M (ln : Int)) X 6 0) (rset Rf 38 5 X) K L n z 1 := ⟨R0, hX, rset_s _ _ _ _, mset_s _ _ _ _, Nat.le_refl _, (f2 38 9 (by omega)).trans e9, trivial, fun i i0 i1 => absurd i1 (by omega), fun i j i0 ij j1 => absurd j1 (by omega)⟩
  have cx1 : CX (WRt X) M (rset Rf 38 5 X) K L n s z 1 (mset (rbg M (ln : Int)) X 6 0) (rset Rf 38 5 X) K L n s z := (cx0.weak (W' := WRt X) (fun p i hw => by unfold WRd at hw; unfold WRt; omega)).set (fun g hg => by have := rX.2.1 g hg; omega) (by unfold WRt; omega) ⟨by omega, by omega⟩
  refine wp_aload_n d75_18 rfl ?_
  refine wp_aload_n d75_19 rfl ?_
  refine wz_iconst d75_20 ?_
  refine wp_virt (as := [.int (zI 1)]) (rest := [.ref 38]) d75_21 rfl rfl rfl (gX.o (by decide) rfl) rfl rfl (Nat.le_of_ble_eq_true rfl) ?_
  refine wc_deep (show d + 8 * 23 + 170 ≤ d + 355 by omega) ?_
  rw [show (1 : Int) = ((1 : Nat) : Int) by rfl]
  refine c_terms tx ln d 23 1 X [] 0 0 _ (rset Rf 38 5 X) K L n s z 1 _ (by decide) S1 (by decide) (fun M3 R3 K3 L3 n3 s3 z3 cn3 c3 i3 xx3 u1 u2 u3 u4 u5 u6 u7 u8 u9 ua ub t3 => ?_)
  have fw := pM_fw (tx := tx) (ln := ln) 23 [] 0 (Nat.zero_le _)
  have q60 := fw.2.1
  have cx3 := cx1.trans (xx3.weak (W' := WRt X) (fun p i hw => by unfold WTm WT2 WT at hw; unfold WRt; omega)) (Int.le_refl _)
  have e6 : M3 38 6 = (ln : Int) := by
    rw [xx3.mem 38 (by have := gX.1; omega) (fun g hg => by have := rX.2.1 g hg; omega) 6 (by unfold WTm WT2 WT; omega), f2 38 6 (by omega)]
    exact g9.1
  have ri : R32 i3 := by
    cases o : (pM tx ln 23 [] 0).2 with
    | none =>
      rw [o] at t3
      have t3 : i3 = -1 := t3
      exact ⟨by omega, by omega⟩
    | some a =>
      rw [o] at t3
      have := t3.1
      exact ⟨by omega, by omega⟩
  refine wp_virt (as := [.int (zI i3)]) (rest := []) d75_24 rfl rfl rfl (xx3.g.o (by decide) rfl) rfl rfl (Nat.le_of_ble_eq_true rfl) ?_
  refine wc_deep (show 0 + 1 ≤ d + 355 by omega) ?_
  refine c_rend xx3.g ri u5 e6 ⟨by omega, by omega⟩ hl ?_
  have hN : (∀ p i, R32 (mset M3 38 10 (if i3 = -1 ∨ ((pM tx ln 23 [] 0).1 : Int) < (ln : Int) then ((pM tx ln 23 [] 0).1 : Int) else -1) p i)) := by
    refine mset_R32 xx3.r32 ?_
    by_cases c : i3 = -1 ∨ ((pM tx ln 23 [] 0).1 : Int) < (ln : Int)
    · rw [if_pos c]; exact ⟨by omega, by omega⟩
    · rw [if_neg c]; exact ⟨by omega, by omega⟩
  have hv := hN 38 10
  rw [mset_s] at hv
  refine wp_ret d75_27 rfl (h _ R3 K3 L3 n3 s3 z3 cn3 c3 i3 (cx3.set (fun g hg => by have := xx3.r.2.1 g hg; omega) (by unfold WRt; omega) hv) (by rw [mset_p _ _ _ _ (by decide)]; exact u1) u2 (by omega) u4 (by omega) (ub.same (by omega) (fun i _ _ => mset_p _ _ _ _ (by omega))) ?_ ?_)
  · cases o : (pM tx ln 23 [] 0).2 with
    | none => rw [o] at t3; exact t3
    | some a =>
      rw [o] at t3
      refine ⟨t3.1, fun ha => CNd.mono (fun q q1 q2 i _ _ => mset_p _ _ _ _ (by omega)) (fun i _ _ => mset_p _ _ _ _ (by omega)) (Int.le_refl _) (Int.le_refl _) (fun A i hh => ndf_mono (fun g hg i _ _ => mset_p _ _ _ _ (by have := xx3.r.2.1 g hg; omega)) (Int.le_refl _) (Nat.le_refl _) hh) (Nat.le_refl _) (t3.2.1 ha), ?_⟩
      have g3 := t3.2.2
      have eg : ∀ v, GF (mset M3 38 10 v) = GF M3 := fun v => by unfold GF; rw [mset_i _ _ _ _ (by decide), mset_i _ _ _ _ (by decide)]
      rw [eg, g3]
      exact ⟨fun x => ⟨trivial, x.2⟩, fun x => ⟨gf0, x.2⟩⟩
  · rw [mset_s]
    have hiff : (i3 = -1 ∨ ((pM tx ln 23 [] 0).1 : Int) < (ln : Int)) ↔ ((pM tx ln 23 [] 0).2 = none ∨ (pM tx ln 23 [] 0).1 < ln) := by
      cases o : (pM tx ln 23 [] 0).2 with
      | none =>
        rw [o] at t3
        exact ⟨fun _ => Or.inl rfl, fun _ => Or.inl t3⟩
      | some a =>
        rw [o] at t3
        have rr := t3.1
        refine ⟨fun x => Or.inr ?_, fun x => Or.inr ?_⟩
        · rcases x with x | x
          · omega
          · omega
        · rcases x with x | x
          · cases x
          · omega
    by_cases c : i3 = -1 ∨ ((pM tx ln 23 [] 0).1 : Int) < (ln : Int)
    · rw [if_pos c, if_pos (hiff.mp c)]
    · rw [if_neg c, if_neg (fun x => c (hiff.mpr x))]
end PmC39
