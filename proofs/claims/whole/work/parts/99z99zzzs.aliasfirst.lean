/-! PAIRS IN CONTEXTS WITH AN ALIAS: values are no greater than the old ones (so first uses are done); small contexts; one alias that no bound names. -/
theorem onq_old {t0 s2 : Nat} {n1 h : Nat → Nat} (hy : ∀ y, y ≤ h y) (hm : ∀ y y', y ≤ y' → h y ≤ h y') : ∀ (Γ : List Ty), okc Γ → ∀ k, k < Γ.length → vw (onq t0 n1 s2 h Γ) k ≤ vw (onz t0 n1 s2 h Γ) k
  | [], _, k, hk => absurd hk (Nat.not_lt_zero _)
  | b :: Γ, hc, k, hk => by
    have l1 : (onq t0 n1 s2 h Γ).length = Γ.length := lsf_len _ Γ
    have l2 := onz_len t0 n1 s2 h Γ
    have ih := onq_old (t0 := t0) (s2 := s2) (n1 := n1) hy hm Γ hc.2
    show vw (fq t0 n1 s2 h (onq t0 n1 s2 h Γ) b :: onq t0 n1 s2 h Γ) k ≤ vw (h (nz t0 n1 s2 h (onz t0 n1 s2 h Γ) b) :: onz t0 n1 s2 h Γ) k
    rw [vw_cons, vw_cons, l1, l2]
    by_cases ek : k = Γ.length
    · rw [if_pos ek, if_pos ek]
      exact Nat.le_trans (fq_le hy _ b) (hm _ _ (nz_mono hm _ b _ _ (Nat.le_refl _) (by rw [l1, l2]) (by rw [l1]; exact hc.1) (fun j hj => ih j (by rw [l1] at hj; exact hj))))
    · rw [if_neg ek, if_neg ek]
      rw [List.length_cons] at hk
      exact ih k (by omega)
theorem fnv_u1a : fnv fn1 20 788 = true := by decide +kernel
theorem fnv_uqa : fnv fnq 13 503 = true := by decide +kernel
section PmZs1a
variable {f : Nat} {x y t : Ty} {Γ : List Ty} {Δ : List (Nat × Ty × Nat)}
theorem ntq_old {r g : Nat} (w : TWf f Γ.length (Δ.map (fun a => a.1)) t) (he : TE Γ Δ) (H : ∀ S, tyF f t Γ Δ = .inr S → nz 0 (fun _ => 1 + 1) (2 + 1) (vlr false 1) (onz 0 (fun _ => 1 + 1) (2 + 1) (vlr false 1) Γ) S ≤ r ∧ nz 1 ngc 1 (fun x => x) (onz 1 ngc 1 (fun x => x) Γ) S ≤ g) : NtQ Γ Δ f t r g := by
  intro S hS
  obtain ⟨q1, q2⟩ := H S hS
  have oS := (tyF_ok f t Γ Δ S w he hS).1
  have l1 : (onq 0 (fun _ => 1 + 1) (2 + 1) (vlr false 1) Γ).length = Γ.length := lsf_len _ Γ
  have l2 := onz_len 0 (fun _ => 1 + 1) (2 + 1) (vlr false 1) Γ
  refine ⟨Nat.le_trans (nz_mono (fun y y' => vlr_mono false 1 y y') _ S _ _ (Nat.le_refl _) (by rw [l1, l2]) (by rw [l1]; exact oS) (fun j hj => onq_old (fun y => by have e : vlr false 1 y = 1 + max 1 y := rfl; omega) (fun y y' => vlr_mono false 1 y y') Γ he.1 j (by rw [l1] at hj; exact hj))) q1, q2⟩
/-- first uses -/
theorem ntq_first (w : TWf f Γ.length (Δ.map (fun a => a.1)) t) (he : TE Γ Δ) (hx : EX0 f t Γ Δ) (hc : cch Γ + dch Δ + 2 * mch t ≤ 58) : NtQ Γ Δ f t 570 430 :=
  ntq_old w he (fun _ hS => ⟨first_rows false w he hx hS hc, first_goals w he hx hS hc⟩)
theorem NtQ.le {r r' g g' : Nat} (z : NtQ Γ Δ f t r g) (h1 : r ≤ r') (h2 : g ≤ g') : NtQ Γ Δ f t r' g' := fun S hS => ⟨Nat.le_trans (z S hS).1 h1, Nat.le_trans (z S hS).2 h2⟩
/-- small contexts -/
theorem ntq_small (w : TWf f Γ.length (Δ.map (fun a => a.1)) t) (he : TE Γ Δ) (h19 : ccq Γ ≤ 19) : NtQ Γ Δ f t 788 503 := by
  intro S hS
  obtain ⟨oS, lS⟩ := tyF_ok f t Γ Δ S w he hS
  have l1 : (onq 0 (fun _ => 1 + 1) (2 + 1) (vlr false 1) Γ).length = Γ.length := lsf_len _ Γ
  have v1 : ∀ j, j < Γ.length → vw (onq 0 (fun _ => 1 + 1) (2 + 1) (vlr false 1) Γ) j ≤ 20 := fun j hj => Nat.le_trans (onq_chars (n1 := fun _ => 1 + 1) (tbs1 false).1 (tbs1 false).2.1 (tbs1 false).2.2.1 (tbs1 false).2.2.2.1 (tbs1 false).2.2.2.2.1 Γ he.1 (by omega) j hj) (Nat.le_trans (fxc_le (tbs1 false).2.1 (c := ccq Γ) (d := 19) h19 (by decide)) (by decide))
  have vq : ∀ j, j < Γ.length → vw (onz 1 ngc 1 (fun y => y) Γ) j ≤ 13 := fun j hj => by
    rw [← onq_id Γ]
    exact Nat.le_trans (onq_chars (n1 := ngc) tbsq.1 tbsq.2.1 tbsq.2.2.1 tbsq.2.2.2.1 tbsq.2.2.2.2.1 Γ he.1 (by omega) j hj) (Nat.le_trans (fxc_le tbsq.2.1 (c := ccq Γ) (d := 19) h19 (by decide)) (by decide))
  have o' : ok (onq 0 (fun _ => 1 + 1) (2 + 1) (vlr false 1) Γ).length S = true := by rw [l1]; exact oS
  obtain ⟨p, hp, f⟩ := fn_form (F := fn1) (G := gn1t) (t0 := 0) (fn := 2) (s2 := 2 + 1) (hv := 1) (r0 := 2) (r1 := 2) (r2 := 2) (r3 := 2) (x0 := 1) (n1 := fun _ => 1 + 1) (h := vlr false 1) fn1_ok (vlr_H false 1) (Nat.le_refl _) (fun m _ => by
    show 1 + 1 ≤ _
    split
    · exact Nat.le_refl _
    · split
      · exact Nat.le_refl _
      · split <;> exact Nat.le_refl _) _ S _ (Nat.le_refl _) o' lS
  exact ⟨Nat.le_trans (f 20 _ (by decide) (fun j hj => v1 j (by rw [l1] at hj; exact hj)) o') (fnv_le fnv_u1a lS hp), gz_nodes fnv_uqa (by decide) oS lS vq⟩
/-- no bound names an alias -/
theorem pair_M1 (x1 : TWf f Γ.length (Δ.map (fun a => a.1)) x) (x2 : TWf f Γ.length (Δ.map (fun a => a.1)) y) (he : TE Γ Δ) (y1 : NAt f x) (y2 : NAt f y) (hv : noaw Γ) (hd' : ∀ a ∈ Δ, noal a.2.1 = true) (hb : cch Γ ≤ 56) (hM : ∀ j, j < Γ.length → vw (lsf fa Γ) j ≤ 1) (z : NtQ Γ Δ f x 788 597 ∨ NtQ Γ Δ f y 788 597) : PRn f x y Γ Δ :=
  pair_B (r := 788) (m := 36) x1 x2 he y1 y2 hv hd' hb (fun U oU nU lU => Nat.le_trans (Aq_nodes hM oU nU lU) (by decide)) (by decide) z
theorem pair_M1s (x1 : TWf f Γ.length (Δ.map (fun a => a.1)) x) (x2 : TWf f Γ.length (Δ.map (fun a => a.1)) y) (he : TE Γ Δ) (y1 : NAt f x) (y2 : NAt f y) (hv : noaw Γ) (hd' : ∀ a ∈ Δ, noal a.2.1 = true) (hb : cch Γ ≤ 56) (hM : ∀ j, j < Γ.length → vw (lsf fa Γ) j ≤ 1) (h19 : ccq Γ ≤ 19) : PRn f x y Γ Δ :=
  pair_M1 x1 x2 he y1 y2 hv hd' hb hM (Or.inl ((ntq_small x1 he h19).le (by decide) (by decide)))
end PmZs1a
