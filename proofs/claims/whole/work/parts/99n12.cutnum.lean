/-! WHAT THE CUT BOUND IS WORTH, and what an instance of it is. -/
section PmNf
variable {t0 s2 hv x0 w x : Nat} {n1 h : Nat → Nat} {B C : Ty} {ω0 : List Nat} {p l a : Nat}
/-- the bound, cut -/
theorem cut_bound (f : FM3 t0 n1 s2 h x0 w ω0.length C p l a) (hx : x0 ≤ x) (hw : w ≤ x) (hB : h (nz t0 n1 s2 h ω0 B) ≤ w) (hω : ∀ j, j < ω0.length → vw ω0 j ≤ x) (oC : ok (ω0.length + 1) C = true) : nz t0 n1 s2 h ω0 (tAll B (ct kp2 ω0.length C)) ≤ s2 + (a + l * x) := by
  have q := f.1 x (h (nz t0 n1 s2 h ω0 B) :: ω0) hx hw (by rw [List.length_cons]; omega) (by rw [vw_cons, if_pos rfl]; exact hB) (fun j hj => by
    rw [vw_cons]
    by_cases e : j = ω0.length
    · rw [if_pos e]; omega
    · rw [if_neg e]; exact hω j (by rw [List.length_cons] at hj; omega)) (by rw [List.length_cons]; exact oC)
  rw [nz_all]
  omega
/-- an instance of the bound by what is worth z: the variable counts p times -/
theorem cut_inst (hm : ∀ y y', y ≤ y' → h y ≤ h y') (hh : ∀ y δ, h (y + δ) ≤ h y + δ) (f : FM3 t0 n1 s2 h x0 w ω0.length C p l a) (oC : ok (ω0.length + 1) C = true) (z : Nat) : nz1 t0 n1 s2 h z ω0 (tAll B C) ≤ s2 + (nz t0 n1 s2 h (h (nz t0 n1 s2 h ω0 B) :: ω0) C + z * p) := by
  have q := nz_lip (t0 := t0) (n1 := n1) (s2 := s2) hm hh z _ C (h (nz t0 n1 s2 h ω0 B) :: ω0) (hzx h z (nz t0 n1 s2 h ω0 B) :: ω0) (1 :: zl ω0.length) (Nat.le_refl _) rfl (by rw [List.length_cons, List.length_cons, zl_len]) (by rw [List.length_cons]; exact oC) (fun j hj => by
    rw [vw_cons, vw_cons, vw_cons, zl_len]
    by_cases e : j = ω0.length
    · rw [if_pos e, if_pos e, if_pos e]
      unfold hzx; omega
    · rw [if_neg e, if_neg e, if_neg e]; omega)
  have q2 := f.2 (1 :: zl ω0.length) (by rw [List.length_cons, zl_len]; omega) (by rw [vw_cons, zl_len, if_pos rfl]; exact Nat.le_refl _) (fun j hj ne => by
    rw [vw_cons, zl_len, if_neg ne, vw_zl]) (by rw [List.length_cons, zl_len]; exact oC)
  have q3 := Nat.mul_le_mul_left z q2
  rw [nz1_all]
  omega
/-- both, by characters: rows -/
theorem cut_rows (b : Bool) (hx : 2 ≤ x) (hB : nz 0 (fun _ => 1 + 1) (2 + 1) (vlr b 1) ω0 B = 0) (hω : ∀ j, j < ω0.length → vw ω0 j ≤ x) (oC : ok (ω0.length + 1) C = true) (hk : tch C ≤ 38) : ∃ q ∈ fug fu1 (tch C), nz 0 (fun _ => 1 + 1) (2 + 1) (vlr b 1) ω0 (tAll B (ct kp2 ω0.length C)) ≤ 3 + (q.2.2 + q.2.1 * x) ∧ ∃ v ∈ frg fr1 (tch C), ∀ z, nz1 0 (fun _ => 1 + 1) (2 + 1) (vlr b 1) z ω0 (tAll B C) ≤ 3 + ((v.2 + v.1 * x) + z * q.1) := by
  have hr : ∀ m, m < 8 → (fun _ : Nat => 1 + 1) (8 + m) ≤ (if nlb m = 0 then 2 else if nlb m = 1 then 2 else if nlb m = 2 then 2 else 2) := fun m _ => by
    by_cases h0 : nlb m = 0 <;> by_cases h1 : nlb m = 1 <;> by_cases h2 : nlb m = 2 <;> simp [h0, h1, h2]
  obtain ⟨q, hq, f⟩ := fu_form (x0 := 1) (w := 2) (lv := ω0.length) (n1 := fun _ => 1 + 1) (h := vlr b 1) fr1_ok fu1_ok (vlr_H b 1) (Nat.le_refl _) hr _ C _ (Nat.le_refl _) oC hk
  obtain ⟨v, hv', g⟩ := fr_form (x0 := 1) (n1 := fun _ => 1 + 1) (h := vlr b 1) fr1_ok (vlr_H b 1) (Nat.le_refl _) hr _ C _ (Nat.le_refl _) oC (by omega)
  have wB : vlr b 1 (nz 0 (fun _ => 1 + 1) (2 + 1) (vlr b 1) ω0 B) ≤ 2 := by
    rw [hB]
    cases b <;> decide
  refine ⟨q, hq, cut_bound f (by omega) hx wB hω oC, v, hv', fun z => ?_⟩
  have q1 := cut_inst (B := B) (vlr_mono b 1) (vlr_lip b 1) f oC z
  have q2 := g x (vlr b 1 (nz 0 (fun _ => 1 + 1) (2 + 1) (vlr b 1) ω0 B) :: ω0) (by omega) (fun j hj => by
    rw [vw_cons]
    by_cases e : j = ω0.length
    · rw [if_pos e]; omega
    · rw [if_neg e]; exact hω j (by rw [List.length_cons] at hj; omega)) (by rw [List.length_cons]; exact oC)
  exact Nat.le_trans q1 (Nat.add_le_add_left (Nat.add_le_add_right q2 _) 3)
/-- and goals -/
theorem cut_goals (hx : 1 ≤ x) (hB : nz 1 ngc 1 (fun x => x) ω0 B = 1) (hω : ∀ j, j < ω0.length → vw ω0 j ≤ x) (oC : ok (ω0.length + 1) C = true) (hk : tch C ≤ 38) : ∃ q ∈ fug fuq (tch C), nz 1 ngc 1 (fun x => x) ω0 (tAll B (ct kp2 ω0.length C)) ≤ 1 + (q.2.2 + q.2.1 * x) ∧ ∃ v ∈ frg frq (tch C), ∀ z, nz1 1 ngc 1 (fun x => x) z ω0 (tAll B C) ≤ 1 + ((v.2 + v.1 * x) + z * q.1) := by
  obtain ⟨q, hq, f⟩ := fu_form (x0 := 1) (w := 1) (lv := ω0.length) (n1 := ngc) (h := fun x => x) frq_ok fuq_ok (fun y x _ => by show y ≤ 0 + max y x; omega) (Nat.le_refl _) ngc_r _ C _ (Nat.le_refl _) oC hk
  obtain ⟨v, hv', g⟩ := fr_form (x0 := 1) (n1 := ngc) (h := fun x => x) frq_ok (fun y x _ => by show y ≤ 0 + max y x; omega) (Nat.le_refl _) ngc_r _ C _ (Nat.le_refl _) oC (by omega)
  have wB : (fun x : Nat => x) (nz 1 ngc 1 (fun x => x) ω0 B) ≤ 1 := by rw [hB]; exact Nat.le_refl _
  refine ⟨q, hq, cut_bound f hx hx wB hω oC, v, hv', fun z => ?_⟩
  have q1 := cut_inst (B := B) (h := fun x => x) (fun _ _ h => h) (fun _ _ => Nat.le_refl _) f oC z
  have q2 := g x ((fun x : Nat => x) (nz 1 ngc 1 (fun x => x) ω0 B) :: ω0) hx (fun j hj => by
    rw [vw_cons]
    by_cases e : j = ω0.length
    · rw [if_pos e]; omega
    · rw [if_neg e]; exact hω j (by rw [List.length_cons] at hj; omega)) (by rw [List.length_cons]; exact oC)
  exact Nat.le_trans q1 (Nat.add_le_add_left (Nat.add_le_add_right q2 _) 1)
end PmNf
