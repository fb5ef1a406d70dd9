/-! A LOWER BOUND OF SIX CHARACTERS THAT HOLDS A SCHEME WITH BOUND TOP, a long scheme behind. -/
theorem six_kq {e : Nat} {C b : Ty} {τ : Nat → Bool} (oC : ok e C = true) (hC : hd C < 16) (k1 : 1 ≤ kdt C) (o : ok 0 b = true) (h6 : tch b ≤ 6) (hn : noh 0 b = false) : kq 0 (kms C) τ 0 b = true := by
  have sm : ∀ (d : Nat) (t : Ty), ok d t = true → tch t ≤ 5 → noh 0 t = true := by
    intro d t ot ht
    cases h : noh 0 t with
    | true => rfl
    | false =>
      have := noh_six ot h
      omega
  have abs : ∀ {P : Prop}, noh 0 b = true → P := by
    intro P h
    rw [h] at hn
    cases hn
  rcases ok_cases o with rfl | ⟨j, hj, rfl⟩ | ⟨a, c, rfl, ha, hb⟩ | ⟨a, c, rfl, ha, hb⟩ | ⟨m, x, y, z, hm, rfl, g0, g1, g2⟩
  · exact kq_top _ _
  · omega
  · rw [tch_fun] at h6
    exact abs (noh_fun.mpr ⟨sm _ _ ha (by omega), sm _ _ hb (by omega)⟩)
  · rw [tch_all] at h6
    have p1 := tch_pos ha
    have p2 := tch_pos hb
    have na := sm _ _ ha (by omega)
    have nc := sm _ _ hb (by omega)
    refine kq_all.mpr ⟨fun ea => ?_, noh_kq _ a _ _ (Nat.le_refl _) ha na, noh_kq _ c _ _ (Nat.le_refl _) hb nc⟩
    have key : kq 0 (kms C) τ 0 (tAll a c) = true := by
      refine kq_kind oC hC _ _ 0 τ (Nat.le_refl _) o ?_ ?_
      · rw [phf_all]
        have f1 : ∀ (d : Nat) (t : Ty), ok d t = true → tch t ≤ 5 → phf (Kis (kdt C)) t = false := by
          intro d t ot ht
          cases h : phf (Kis (kdt C)) t with
          | false => rfl
          | true =>
            obtain ⟨p, hp, -⟩ := fk_any1 ot (by omega) (phf_any _ t _ (Nat.le_refl _) ot h)
            have key : ∀ k, k < 6 → frg xfa1 k = [] := by decide +kernel
            rw [key _ (by omega)] at hp
            cases hp
        have kc : kdt c = 0 := by
          rcases kdt_cases hb with ⟨k, -⟩ | ⟨-, u, v, rfl, -⟩ | ⟨-, v, rfl, -⟩ | ⟨-, u, v, rfl, -⟩ | ⟨-, m, x, y, z, hh⟩
          · exact k
          · rw [tch_fun] at h6; omega
          · rw [tch_all] at h6; omega
          · rw [tch_all] at h6; omega
          · rcases ok_cases hb with rfl | ⟨j, hj, rfl⟩ | ⟨a', c', rfl, -, -⟩ | ⟨a', c', rfl, -, -⟩ | ⟨m', x', y', z', hm', rfl, -, -, -⟩
            · rfl
            · unfold kdt
              rw [hd_var, if_neg (by omega), if_neg (by omega), if_neg (by omega)]
            · rw [tch_fun] at h6; omega
            · rw [tch_all] at h6; omega
            · rw [tch_rec] at h6
              have r : ∀ m, m < 8 → 2 ≤ rch m := by decide
              have := r m' hm'
              omega
        rw [f1 _ _ ha (by omega), f1 _ _ hb (by omega), kc]
        unfold Kis
        rw [decide_eq_false (show ¬ 0 = kdt C by omega), Bool.and_false]
        rfl
      · rw [phl_all]
        have f1 : ∀ (d : Nat) (σ : Nat → Bool) (t : Ty), ok d t = true → tch t ≤ 5 → phl σ d t = false := by
          intro d σ t ot ht
          cases h : phl σ d t with
          | false => rfl
          | true =>
            obtain ⟨p, hp, -⟩ := fk_any1 ot (by omega) (phl_any _ t _ σ (Nat.le_refl _) ot h)
            have key : ∀ k, k < 6 → frg xfa1 k = [] := by decide +kernel
            rw [key _ (by omega)] at hp
            cases hp
        rw [f1 _ _ _ ha (by omega), f1 _ _ _ hb (by omega)]
        by_cases c16 : 16 ≤ hd c
        · have e0 : hd c - 16 = 0 := by
            rcases ok_cases hb with rfl | ⟨j, hj, rfl⟩ | ⟨a', c', rfl, -, -⟩ | ⟨a', c', rfl, -, -⟩ | ⟨m', x', y', z', hm', rfl, -, -, -⟩
            · rfl
            · rw [hd_var]; omega
            · rw [tch_fun] at h6; omega
            · rw [tch_all] at h6; omega
            · rw [hd_rec] at c16; omega
          rw [e0]
          unfold updt
          rw [if_pos rfl, ea]
          simp
        · rw [decide_eq_false c16]
          simp
    exact (kq_all.mp key).1 ea
  · rw [tch_rec] at h6
    have nf : ∀ (i : Nat) (p : Ty), tch p ≤ 5 → okl 0 m i p → noh 0 p = true := by
      intro i p hp ho
      unfold okl at ho
      by_cases hb : bit m i = true
      · rw [if_pos hb] at ho
        exact sm _ _ ho hp
      · rw [if_neg hb] at ho
        rw [ho]
        rfl
    have r : ∀ m, m < 8 → 2 ≤ rch m := by decide
    have := r m hm
    exact abs (noh_rec.mpr ⟨nf 0 x (by omega) g0, nf 1 y (by omega) g1, nf 2 z (by omega) g2⟩)
section PmWE
variable {f : Nat} {x y C : Ty} {Γ0 Δ1 : List Ty} {Δ : List (Nat × Ty × Nat)}
theorem HKd_low (hc : okc (cxs Δ1 Γ0 (tAll tTop C))) (k2 : 2 ≤ tch C) (nC : noh 0 C = true) (hf : ∃ b ∈ Γ0, noh 0 b = false) (h10 : cch Γ0 ≤ 10) : HKd 0 tTop C Γ0 := by
  obtain ⟨oc0, oA⟩ := okc_low Δ1 hc
  have oC := (ok_all.mp oA).2
  obtain ⟨c0, c16⟩ := hd_long oC k2
  have kc : 1 ≤ kdt C := by
    rcases kdt_cases oC with ⟨-, h⟩ | ⟨k, -⟩ | ⟨k, -⟩ | ⟨k, -⟩ | ⟨k, -⟩
    · rcases h with rfl | ⟨j, -, rfl⟩
      · rw [tch_top] at k2; omega
      · rw [tch_var] at k2; omega
    all_goals omega
  refine ⟨⟨by decide, hd_top⟩, ⟨c0, c16⟩, fun j hj => ?_, kq_top _ _, noh_kq _ C _ _ (Nat.le_refl _) oC nC⟩
  match Γ0, oc0, h10, hf, j, hj with
  | [a], oc, h10, hf, 0, _ =>
    obtain ⟨b, hb, e⟩ := hf
    rcases List.mem_cons.mp hb with rfl | hb
    · have h10 : (tch b + 4) + 0 ≤ 10 := h10
      have q := six_kq (b := b) (τ := tauc [b]) oC c16 kc (show ok 0 b = true from oc.1) (by omega) e
      exact q
    · cases hb
  | a :: c :: r, oc, h10, hf, _, _ =>
    exfalso
    have h10 : (tch a + 4) + ((tch c + 4) + cch r) ≤ 10 := h10
    have a1 := tch_pos oc.1
    have a2 := tch_pos oc.2.1
    obtain ⟨b, hb, e⟩ := hf
    obtain ⟨d, o, q⟩ := okc_mch oc hb
    have a3 := noh_six o e
    rcases List.mem_cons.mp hb with rfl | hb
    · omega
    · rcases List.mem_cons.mp hb with rfl | hb
      · omega
      · obtain ⟨d, o, q⟩ := okc_mch oc.2.2 hb
        omega
/-- any two terms -/
theorem pair_k2y (x1 : TWf f (cxs Δ1 Γ0 (tAll tTop C)).length (Δ.map (fun a => a.1)) x) (x2 : TWf f (cxs Δ1 Γ0 (tAll tTop C)).length (Δ.map (fun a => a.1)) y) (he : TE (cxs Δ1 Γ0 (tAll tTop C)) Δ) (y1 : NAt f x) (y2 : NAt f y) (hv : noac (cxs Δ1 Γ0 (tAll tTop C))) (nC : noh 0 C = true) (hd1 : ∀ a ∈ Δ, noal a.2.1 = true) (k2 : 2 ≤ tch C) (h10 : cch Γ0 ≤ 10) (h7 : cch Δ1 ≤ 7) (hb : cch (cxs Δ1 Γ0 (tAll tTop C)) ≤ 56) : PRn f x y (cxs Δ1 Γ0 (tAll tTop C)) Δ := by
  by_cases hf : ∃ b ∈ Γ0, noh 0 b = false
  · refine pair_hk x1 x2 he y1 y2 hv hd1 hb ⟨0, tTop, C, Γ0, Δ1, rfl, HKd_low he.1 k2 nC hf h10, h10, ?_⟩
    match Δ1, he.1, h7 with
    | [], _, _ => exact Or.inl rfl
    | [W], _, h7 =>
      have h7 : (tch W + 4) + 0 ≤ 7 := h7
      exact Or.inr ⟨W, rfl, by omega⟩
    | W :: V :: r, hc, h7 =>
      have h7 : (tch W + 4) + ((tch V + 4) + cch r) ≤ 7 := h7
      omega
  · refine pair_k2z x1 x2 he y1 y2 hv nC (fun b hb => ?_) hd1 k2 h10 h7 hb
    cases e : noh 0 b with
    | true => rfl
    | false => exact (hf ⟨b, hb, e⟩).elim
end PmWE
