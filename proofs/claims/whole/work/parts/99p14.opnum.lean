/-! A JOIN, A COMPARISON OF ANY TWO TYPES OF SIXTEEN NODES, the scheme being without its body and the other variables light. -/
def fnv (F : FrT) (x v : Nat) : Bool := (List.range 17).all (fun n => (frg F n).all (fun p => Nat.ble (p.2 + p.1 * x) v))
theorem fnv_le {F : FrT} {x v n : Nat} (h : fnv F x v = true) (hn : n ≤ 16) {p : Nat × Nat} (hp : p ∈ frg F n) : p.2 + p.1 * x ≤ v := by
  unfold fnv at h
  have q := rng_all h (i := n) (by omega)
  exact Nat.le_of_ble_eq_true (List.all_eq_true.mp q p hp)
theorem fnv_1 : fnv fn1 8 374 = true := by decide +kernel
theorem fnv_1b : fnv fn1 6 320 = true := by decide +kernel
theorem fnv_q : fnv fnq 7 287 = true := by decide +kernel
section PmPg
variable {h x v : Nat} {Γ Γ0 : List Ty} {B C S T : Ty}
/-- rows -/
theorem mz_nodes (b : Bool) (hv : fnv fn1 x v = true) (x1 : 1 ≤ x) (o : ok Γ.length S = true) (lS : (flat S).length ≤ 16) (hw : ∀ j, j < Γ.length → vw (onz 0 (fun _ => 1 + 1) (2 + 1) (vlr b 1) Γ) j ≤ x) : mz b 1 Γ S ≤ v := by
  have o' : ok (onz 0 (fun _ => 1 + 1) (2 + 1) (vlr b 1) Γ).length S = true := by rw [onz_len]; exact o
  obtain ⟨p, hp, f⟩ := fn_form (F := fn1) (G := gn1t) (t0 := 0) (fn := 2) (s2 := 2 + 1) (hv := 1) (r0 := 2) (r1 := 2) (r2 := 2) (r3 := 2) (x0 := 1) (n1 := fun _ => 1 + 1) (h := vlr b 1) fn1_ok (vlr_H b 1) (Nat.le_refl _) (fun m _ => by
    show 1 + 1 ≤ _
    split
    · exact Nat.le_refl _
    · split
      · exact Nat.le_refl _
      · split <;> exact Nat.le_refl _) _ S _ (Nat.le_refl _) o' lS
  have q := f x _ x1 (fun j hj => hw j (by rw [onz_len] at hj; exact hj)) o'
  exact Nat.le_trans q (fnv_le hv lS hp)
/-- goals -/
theorem gz_nodes (hv : fnv fnq x v = true) (x1 : 1 ≤ x) (o : ok Γ.length S = true) (lS : (flat S).length ≤ 16) (hw : ∀ j, j < Γ.length → vw (onz 1 ngc 1 (fun y => y) Γ) j ≤ x) : gz Γ S ≤ v := by
  have o' : ok (onz 1 ngc 1 (fun y => y) Γ).length S = true := by rw [onz_len]; exact o
  obtain ⟨p, hp, f⟩ := fn_form (F := fnq) (G := gnqt) (t0 := 1) (fn := 1) (s2 := 1) (hv := 0) (r0 := 1) (r1 := 3) (r2 := 2) (r3 := 1) (x0 := 1) (n1 := ngc) (h := fun y => y) fnq_ok (fun y z _ => by show y ≤ 0 + max y z; omega) (by decide) (by decide) _ S _ (Nat.le_refl _) o' lS
  have q := f x _ x1 (fun j hj => hw j (by rw [onz_len] at hj; exact hj)) o'
  exact Nat.le_trans q (fnv_le hv lS hp)
/-- a join -/
theorem LJ_nodes (z : ZH h B C Γ0) {Δ : List Ty} (tb : TB 1 (cxs Δ Γ0 (tAll B C), S, T)) (hx : cch (cxs Δ Γ0 (tAll B C)) ≤ 56) (lS : (flat S).length ≤ 16) (lT : (flat T).length ≤ 16) (hw : ∀ b j, j < (cxs Δ Γ0 (tAll B tTop)).length → vw (onz 0 (fun _ => 1 + 1) (2 + 1) (vlr b 1) (cxs Δ Γ0 (tAll B tTop))) j ≤ 8) (hq : ∀ j, j < (cxs Δ Γ0 (tAll B tTop)).length → vw (onz 1 ngc 1 (fun y => y) (cxs Δ Γ0 (tAll B tTop))) j ≤ 7) : LJ (cxs Δ Γ0 (tAll B C)) S T := by
  have t2 := cxz_TB tb
  have a1 := mz_nodes true fnv_1 (by decide) t2.1.2.1 lS (hw true)
  have a2 := mz_nodes false fnv_1 (by decide) t2.1.2.2 lT (hw false)
  have a3 := gz_nodes fnv_q (by decide) t2.1.2.1 lS hq
  have a4 := gz_nodes fnv_q (by decide) t2.1.2.2 lT hq
  exact LJ_op z (Nat.le_refl 1) tb hx lS lT (Nat.le_trans (Nat.add_le_add a1 a2) (by decide)) (Nat.le_trans (Nat.add_le_add a3 a4) (by decide))
/-- a comparison -/
theorem LB_nodes (z : ZH h B C Γ0) {Δ : List Ty} (tb : TB 1 (cxs Δ Γ0 (tAll B C), S, T)) (hx : cch (cxs Δ Γ0 (tAll B C)) ≤ 56) (lS : (flat S).length ≤ 16) (lT : (flat T).length ≤ 16) (hw : ∀ j, j < (cxs Δ Γ0 (tAll B tTop)).length → vw (onz 0 (fun _ => 1 + 1) (2 + 1) (vlr true 1) (cxs Δ Γ0 (tAll B tTop))) j ≤ 8) : LB (cxs Δ Γ0 (tAll B C)) S T := by
  have t2 := cxz_TB tb
  have a1 := mz_nodes true fnv_1 (by decide) t2.1.2.1 lS hw
  have a2 := mz_nodes true fnv_1 (by decide) t2.1.2.2 lT hw
  exact LB_op z true true tb hx lS lT (Nat.le_trans (Nat.add_le_add a1 a2) (by decide))
end PmPg
