/-! PAIRS OF TERMS IN A CONTEXT WHOSE SCHEME HOLDS SCHEMES WITH THE SAME BOUND, their bodies being of another kind. -/
section PmUj
variable {h e : Nat} {B C S T : Ty} {Γ0 Δ : List Ty}
theorem cxd_cl {D : Ty} : ∀ Δ : List Ty, cl (cxs Δ Γ0 (tAll B C)) = cl (cxs Δ Γ0 (tAll B D))
  | [] => rfl
  | a :: Δ => by
    show (1 + chn (cl (cxs Δ Γ0 (tAll B C))) a) :: cl (cxs Δ Γ0 (tAll B C)) = (1 + chn (cl (cxs Δ Γ0 (tAll B D))) a) :: cl (cxs Δ Γ0 (tAll B D))
    rw [cxd_cl Δ]
/-- a join of any two types of sixteen nodes -/
theorem LJ_hk (H : HKd h B C Γ0) (tb : TB 1 (cxs Δ Γ0 (tAll B C), S, T)) (hx : cch (cxs Δ Γ0 (tAll B C)) ≤ 56) (lS : (flat S).length ≤ 16) (lT : (flat T).length ≤ 16) (hw : ∀ b j, j < (cxs Δ Γ0 (tAll B Dsm)).length → vw (onz 0 (fun _ => 1 + 1) (2 + 1) (vlr b 1) (cxs Δ Γ0 (tAll B Dsm))) j ≤ 8) (hq : ∀ j, j < (cxs Δ Γ0 (tAll B Dsm)).length → vw (onz 1 ngc 1 (fun y => y) (cxs Δ Γ0 (tAll B Dsm))) j ≤ 7) : LJ (cxs Δ Γ0 (tAll B C)) S T := by
  have oS : ok (cxs Δ Γ0 (tAll B Dsm)).length S = true := by rw [cxs_ll (tAll B Dsm) (tAll B C)]; exact tb.1.2.1
  have oT : ok (cxs Δ Γ0 (tAll B Dsm)).length T = true := by rw [cxs_ll (tAll B Dsm) (tAll B C)]; exact tb.1.2.2
  have a1 := mz_nodes true fnv_1 (by decide) oS lS (hw true)
  have a2 := mz_nodes false fnv_1 (by decide) oT lT (hw false)
  have a3 := gz_nodes fnv_q (by decide) oS lS hq
  have a4 := gz_nodes fnv_q (by decide) oT lT hq
  exact LJ_opD (H.ov (Nat.le_refl 1)) (Nat.le_refl 1) tb hx lS lT (Nat.le_trans (Nat.add_le_add a1 a2) (by decide)) (Nat.le_trans (Nat.add_le_add a3 a4) (by decide))
/-- a comparison -/
theorem LB_hk (H : HKd h B C Γ0) (tb : TB 1 (cxs Δ Γ0 (tAll B C), S, T)) (hx : cch (cxs Δ Γ0 (tAll B C)) ≤ 56) (lS : (flat S).length ≤ 16) (lT : (flat T).length ≤ 16) (hw : ∀ b j, j < (cxs Δ Γ0 (tAll B Dsm)).length → vw (onz 0 (fun _ => 1 + 1) (2 + 1) (vlr b 1) (cxs Δ Γ0 (tAll B Dsm))) j ≤ 8) : LB (cxs Δ Γ0 (tAll B C)) S T := by
  have oS : ok (cxs Δ Γ0 (tAll B Dsm)).length S = true := by rw [cxs_ll (tAll B Dsm) (tAll B C)]; exact tb.1.2.1
  have oT : ok (cxs Δ Γ0 (tAll B Dsm)).length T = true := by rw [cxs_ll (tAll B Dsm) (tAll B C)]; exact tb.1.2.2
  have a1 := mz_nodes true fnv_1 (by decide) oS lS (hw true)
  have a2 := mz_nodes true fnv_1 (by decide) oT lT (hw true)
  exact LB_opD (H.ov (Nat.le_refl 1)) true true tb hx lS lT (Nat.le_trans (Nat.add_le_add a1 a2) (by decide))
/-- what the variables are worth where the other binders are short -/
theorem hk_base (b : Bool) (hc : okc (tAll B Dsm :: Γ0)) (k0 : cch Γ0 ≤ 11) : ∀ j, j < (tAll B Dsm :: Γ0).length → vw (onz 0 (fun _ => 1 + 1) (2 + 1) (vlr b 1) (tAll B Dsm :: Γ0)) j ≤ 8 ∧ (vw (onz 1 ngc 1 (fun y => y) (tAll B Dsm :: Γ0)) j ≤ 7) := by
  intro j hj
  rw [List.length_cons] at hj
  have l1 := onz_len 0 (fun _ => 1 + 1) (2 + 1) (vlr b 1) Γ0
  have l2 := onz_len 1 ngc 1 (fun y => y) Γ0
  refine ⟨?_, ?_⟩
  · show vw ((vlr b 1) (nz 0 (fun _ => 1 + 1) (2 + 1) (vlr b 1) (onz 0 (fun _ => 1 + 1) (2 + 1) (vlr b 1) Γ0) (tAll B Dsm)) :: onz 0 (fun _ => 1 + 1) (2 + 1) (vlr b 1) Γ0) j ≤ 8
    rw [vw_cons, l1]
    by_cases e : j = Γ0.length
    · rw [if_pos e]
      unfold Dsm
      rw [nz_all, nz_all, nz_top]
      cases b <;> decide
    · rw [if_neg e]
      have u := onz_chars (n1 := fun _ => 1 + 1) (tbs1 b).1 (tbs1 b).2.1 (tbs1 b).2.2.1 (tbs1 b).2.2.2.1 (tbs1 b).2.2.2.2.1 Γ0 hc.2 (by omega) j (by omega)
      refine Nat.le_trans u (Nat.le_trans (fxc_le (tbs1 b).2.1 (c := cch Γ0) (d := 11) k0 (by decide)) (by decide))
  · show vw ((nz 1 ngc 1 (fun y => y) (onz 1 ngc 1 (fun y => y) Γ0) (tAll B Dsm)) :: onz 1 ngc 1 (fun y => y) Γ0) j ≤ 7
    rw [vw_cons, l2]
    by_cases e : j = Γ0.length
    · rw [if_pos e]
      unfold Dsm
      rw [nz_all, nz_all, nz_top]
      decide
    · rw [if_neg e]
      have u := onz_chars (n1 := ngc) tbsq.1 tbsq.2.1 tbsq.2.2.1 tbsq.2.2.2.1 tbsq.2.2.2.2.1 Γ0 hc.2 (by omega) j (by omega)
      refine Nat.le_trans u (Nat.le_trans (fxc_le tbsq.2.1 (c := cch Γ0) (d := 11) k0 (by decide)) (by decide))
theorem hk_one {W : Ty} (b : Bool) (hc : okc (W :: tAll B Dsm :: Γ0)) (k0 : cch Γ0 ≤ 11) (kW : tch W ≤ 3) (h7 : ∀ j, j < (tAll B Dsm :: Γ0).length → vw (onz 0 (fun _ => 1 + 1) (2 + 1) (vlr b 1) (tAll B Dsm :: Γ0)) j ≤ 7) : ∀ j, j < (W :: tAll B Dsm :: Γ0).length → vw (onz 0 (fun _ => 1 + 1) (2 + 1) (vlr b 1) (W :: tAll B Dsm :: Γ0)) j ≤ 8 ∧ (vw (onz 1 ngc 1 (fun y => y) (W :: tAll B Dsm :: Γ0)) j ≤ 7) := by
  intro j hj
  rw [List.length_cons] at hj
  have base := hk_base b hc.2 k0
  have l1 := onz_len 0 (fun _ => 1 + 1) (2 + 1) (vlr b 1) (tAll B Dsm :: Γ0)
  have l2 := onz_len 1 ngc 1 (fun y => y) (tAll B Dsm :: Γ0)
  refine ⟨?_, ?_⟩
  · show vw ((vlr b 1) (nz 0 (fun _ => 1 + 1) (2 + 1) (vlr b 1) (onz 0 (fun _ => 1 + 1) (2 + 1) (vlr b 1) (tAll B Dsm :: Γ0)) W) :: onz 0 (fun _ => 1 + 1) (2 + 1) (vlr b 1) (tAll B Dsm :: Γ0)) j ≤ 8
    rw [vw_cons, l1]
    by_cases e : j = (tAll B Dsm :: Γ0).length
    · rw [if_pos e]
      obtain ⟨p, hp, q⟩ := val_any (tbs1 b) (A := W) (ω := onz 0 (fun _ => 1 + 1) (2 + 1) (vlr b 1) (tAll B Dsm :: Γ0)) (y := 7) (by rw [l1]; exact hc.1) (by omega) (by decide) (fun i hi => h7 i (by rw [l1] at hi; exact hi))
      have v : ∀ k, k ≤ 3 → ∀ p ∈ frg fr1 k, p.2 + p.1 * 7 ≤ 7 := by decide
      have q2 := Nat.le_trans q (v _ kW p hp)
      have := vlr_mono b 1 _ _ q2
      refine Nat.le_trans this ?_
      cases b <;> decide
    · rw [if_neg e]
      exact (base j (by omega)).1
  · show vw ((nz 1 ngc 1 (fun y => y) (onz 1 ngc 1 (fun y => y) (tAll B Dsm :: Γ0)) W) :: onz 1 ngc 1 (fun y => y) (tAll B Dsm :: Γ0)) j ≤ 7
    rw [vw_cons, l2]
    by_cases e : j = (tAll B Dsm :: Γ0).length
    · rw [if_pos e]
      obtain ⟨p, hp, q⟩ := val_any tbsq (A := W) (ω := onz 1 ngc 1 (fun y => y) (tAll B Dsm :: Γ0)) (y := 7) (by rw [l2]; exact hc.1) (by omega) (by decide) (fun i hi => (base i (by rw [l2] at hi; exact hi)).2)
      have v : ∀ k, k ≤ 3 → ∀ p ∈ frg frq k, p.2 + p.1 * 7 ≤ 7 := by decide
      exact Nat.le_trans q (v _ kW p hp)
    · rw [if_neg e]
      exact (base j (by omega)).2
end PmUj
