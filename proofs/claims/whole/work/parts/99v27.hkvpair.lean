/-! PAIRS WITHOUT A CHOICE: inner schemes of another kind, or with bodies that are worth little. -/
section PmWl
variable {f : Nat} {x y C : Ty} {Γ0 Δ1 : List Ty} {Δ : List (Nat × Ty × Nat)}
theorem pair_hkv (H : HKv 0 4 5 tTop C Γ0) (x1 : TWf f (cxs Δ1 Γ0 (tAll tTop C)).length (Δ.map (fun a => a.1)) x) (x2 : TWf f (cxs Δ1 Γ0 (tAll tTop C)).length (Δ.map (fun a => a.1)) y) (he : TE (cxs Δ1 Γ0 (tAll tTop C)) Δ) (y1 : NAt f x) (y2 : NAt f y) (hv : noac (cxs Δ1 Γ0 (tAll tTop C))) (hd' : ∀ a ∈ Δ, noal a.2.1 = true) (c1 : CFt f x) (c2 : CFt f y) (s1 : smp f x) (s2 : smp f y) (hp : phf (fun _ => true) C = true) (k27 : 27 ≤ tch C) (h6 : cch Γ0 + cch Δ1 ≤ 6) (h5 : 5 ≤ dch Δ) (hb : cch (cxs Δ1 Γ0 (tAll tTop C)) + dch Δ + (2 + (mch x + mch y)) ≤ 60) (h47 : cch (cxs Δ1 Γ0 (tAll tTop C)) ≤ 47) : PRn f x y (cxs Δ1 Γ0 (tAll tTop C)) Δ :=
  pair_wide (Dm := Dch 2) (H.ov (Dch_num (n := 2) (by decide) (by decide) (by decide) (by decide))) (fun b => Dch_va (n := 2) b) (Dch_vg (n := 2)) x1 x2 he y1 y2 hv hd' c1 c2 s1 s2 hp k27 h6 h5 hb h47
theorem beq_no {a b : Nat} (h : a ≠ b) : Nat.beq a b = false := by
  cases e : Nat.beq a b with
  | false => rfl
  | true => exact absurd (Nat.eq_of_beq_eq_true e) h
theorem zfk_no {k q1 q2 : Nat} (h : zfk 0 k q1 q2 = false) (h6 : q1 + q2 ≤ 6) : 27 ≤ k := by
  unfold zfk at h
  rw [if_pos rfl] at h
  by_cases c : k ≤ 26
  · exfalso
    have e1 : Nat.ble k 26 = true := Nat.ble_eq.mpr c
    have e2 : (Nat.beq q1 0 && ((Nat.beq k 27 && (Nat.ble 9 q2 && Nat.ble q2 11)) || ((Nat.beq k 28 && (Nat.ble 9 q2 && Nat.ble q2 10)) || ((Nat.beq k 29 && Nat.beq q2 9) || (Nat.beq k 31 && Nat.beq q2 7))))) = false := by
      have n27 : Nat.beq k 27 = false := beq_no (by omega)
      have n28 : Nat.beq k 28 = false := beq_no (by omega)
      have n29 : Nat.beq k 29 = false := beq_no (by omega)
      have n31 : Nat.beq k 31 = false := beq_no (by omega)
      rw [n27, n28, n29, n31]
      simp
    have e3 : (Nat.beq k 31 && (Nat.beq q1 7 && Nat.beq q2 0)) = false := by
      have n31 : Nat.beq k 31 = false := beq_no (by omega)
      rw [n31]
      rfl
    rw [e1, e2, e3, Bool.or_true] at h
    cases h
  · omega
end PmWl
