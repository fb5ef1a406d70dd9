/-! C HOLDS A SCHEME WITH BOUND TOP, but none of its own kind: long ones by sums. -/
def exL : List (Nat × Nat × Nat) := [(27, 0, 9), (27, 0, 10), (27, 0, 11), (28, 0, 9), (28, 0, 10), (29, 0, 9)]
section PmZi
variable {f : Nat} {x y C : Ty} {Γ0 Δ1 : List Ty} {Δ : List (Nat × Ty × Nat)}
theorem pair_L (H : HKd 0 tTop C Γ0) (x1 : TWf f (cxs Δ1 Γ0 (tAll tTop C)).length (Δ.map (fun a => a.1)) x) (x2 : TWf f (cxs Δ1 Γ0 (tAll tTop C)).length (Δ.map (fun a => a.1)) y) (he : TE (cxs Δ1 Γ0 (tAll tTop C)) Δ) (y1 : NAt f x) (y2 : NAt f y) (hv : noac (cxs Δ1 Γ0 (tAll tTop C))) (hd' : ∀ a ∈ Δ, noal a.2.1 = true) (t1 : TNo f x) (t2 : TNo f y) (nΔ : Δ ≠ []) (hz : memt exL (tch C) (cch Γ0) (cch Δ1) = true) (m3 : 3 ≤ mch x) (n3 : 3 ≤ mch y) (hb : cch (cxs Δ1 Γ0 (tAll tTop C)) + dch Δ + (2 + (mch x + mch y)) ≤ 60) (h49 : cch (cxs Δ1 Γ0 (tAll tTop C)) ≤ 47) : PRn f x y (cxs Δ1 Γ0 (tAll tTop C)) Δ ∨ (memt [(27, 0, 9)] (tch C) (cch Γ0) (cch Δ1) = true ∧ mch x + mch y = 8 ∧ ¬ (CFt f x ∧ CFt f y)) := by
  have ec := ec_top C Γ0 Δ1
  have d5 := dch_five he nΔ
  have key : exL.all (fun s => Nat.ble 27 s.1 && (memt [(27, 0, 9)] s.1 s.2.1 s.2.2 || Nat.ble 46 (9 + s.1 + s.2.1 + s.2.2)) && Nat.ble 45 (9 + s.1 + s.2.1 + s.2.2)) = true := by decide +kernel
  have q := List.all_eq_true.mp key _ (memt_mem hz)
  rw [Bool.and_eq_true, Bool.and_eq_true, Bool.or_eq_true] at q
  obtain ⟨⟨k27, q⟩, c45⟩ := q
  have k27 : 27 ≤ tch C := Nat.le_of_ble_eq_true k27
  have c45 : 45 ≤ 9 + tch C + cch Γ0 + cch Δ1 := Nat.le_of_ble_eq_true c45
  by_cases cf : CFt f x ∧ CFt f y
  · exact Or.inl (pair_mixx H x1 x2 he y1 y2 hv hd' (Or.inl cf.1) (Or.inl cf.2) (by omega) m3 n3 (by omega) (by omega) hb h49)
  · right
    obtain ⟨a, e⟩ := dch_one he nΔ (by omega)
    have big : 5 ≤ mch x ∨ 5 ≤ mch y := by
      rw [e] at x1 x2
      have g1 := (chr_one f _ _ x x1 t1).1
      have g2 := (chr_one f _ _ y x2 t2).1
      rcases g1 with g1 | g1
      · rcases g2 with g2 | g2
        · exact absurd ⟨g1, g2⟩ cf
        · exact Or.inr g2
      · exact Or.inl g1
    rcases q with q | q
    · exact ⟨q, by omega, cf⟩
    · have q : 46 ≤ 9 + tch C + cch Γ0 + cch Δ1 := Nat.le_of_ble_eq_true q
      omega
end PmZi
