/-! ROOT SCHEMES IN SMALL SURROUNDINGS: their bodies, or what stands before, hold a scheme with the very bound. -/
theorem l3_sB {f : Nat} {x y B C : Ty} {Γ0 Δ1 : List Ty} {Δ : List (Nat × Ty × Nat)} (no : NoO f x y (cxs Δ1 Γ0 (tAll B C)) Δ) (hc : okc (cxs Δ1 Γ0 (tAll B C))) (hk : ndk (cch Γ0) (cch Δ1) = true) (nB : nsch B = true) (hB : hd B < 16) (hC : hd C ≠ 0 ∧ hd C < 16) : sB B C = true ∨ ∃ j, j < Γ0.length ∧ sB B (bnd Γ0 j) = true := by
  obtain ⟨oc0, oA⟩ := okc_low Δ1 hc
  by_cases a : sB B C = true
  · exact Or.inl a
  by_cases b : ∃ j, j < Γ0.length ∧ sB B (bnd Γ0 j) = true
  · exact Or.inr b
  exact absurd (HKt_no oc0 oA nB hB hC (fun j hj => by
    cases e : sB B (bnd Γ0 j) with
    | false => rfl
    | true => exact absurd ⟨j, hj, e⟩ b) (by
    cases e : sB B C with
    | false => rfl
    | true => exact absurd e a)) (no.2 Δ1 Γ0 B C rfl hk)
/-- a scheme with that very bound is longer by five characters than the bound -/
theorem sB_ch {B : Ty} : ∀ (f : Nat) (t : Ty) (d : Nat), (flat t).length ≤ f → ok d t = true → ok 0 B = true → sB B t = true → tch B + 5 ≤ tch t
  | 0, t, d, hf, o, _, _ => by have := flat_pos o; omega
  | f + 1, t, d, hf, o, oB, h => by
    rcases ok_cases o with rfl | ⟨j, hj, rfl⟩ | ⟨a, c, rfl, ha, hb⟩ | ⟨a, c, rfl, ha, hb⟩ | ⟨m, x, y, z, hm, rfl, h0, h1, h2⟩
    · rw [sB_top] at h; cases h
    · rw [sB_var] at h; cases h
    · rw [flat_fun, List.length_cons, List.length_append] at hf
      rw [tch_fun]
      rw [sB_fun, Bool.or_eq_true] at h
      rcases h with h | h
      · have := sB_ch f a d (by omega) ha oB h; omega
      · have := sB_ch f c d (by omega) hb oB h; omega
    · rw [flat_all, List.length_cons, List.length_append] at hf
      rw [tch_all]
      rw [sB_all, Bool.or_eq_true, Bool.or_eq_true] at h
      rcases h with h | h | h
      · unfold tqB at h
        rw [decide_eq_true_iff] at h
        have e := flat_eq ha oB h
        have p := tch_pos hb
        rw [e]; omega
      · have := sB_ch f a d (by omega) ha oB h; omega
      · have := sB_ch f c (d + 1) (by omega) hb oB h; omega
    · rw [flat_rec, List.length_cons, List.length_append, List.length_append] at hf
      rw [tch_rec]
      rw [sB_rec, Bool.or_eq_true, Bool.or_eq_true] at h
      have key : ∀ (i : Nat) (p : Ty), (flat p).length ≤ f → okl d m i p → sB B p = true → tch B + 5 ≤ tch p := by
        intro i p hp ho hs
        unfold okl at ho
        by_cases hb : bit m i = true
        · rw [if_pos hb] at ho
          exact sB_ch f p d hp ho oB hs
        · rw [if_neg hb] at ho
          rw [ho, sB_nil] at hs; cases hs
      rcases h with h | h | h
      · have := key 0 x (by omega) h0 h; omega
      · have := key 1 y (by omega) h1 h; omega
      · have := key 2 z (by omega) h2 h; omega
