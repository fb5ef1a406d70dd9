/-! WITHOUT ALIASES, CUT: still none. -/
theorem noal_ct (κ : Ty → Bool) (r : Nat) : ∀ (f : Nat) (t : Ty) (d : Nat), (flat t).length ≤ f → ok d t = true → noal t = true → noal (ct κ r t) = true
  | 0, t, d, hf, o, _ => by have := flat_pos o; omega
  | f + 1, t, d, hf, o, h => by
    rcases ok_cases o with rfl | ⟨k, hk, rfl⟩ | ⟨a, c, rfl, ha, hb⟩ | ⟨a, c, rfl, ha, hb⟩ | ⟨l, x, y, z, hm, rfl, h0, h1, h2⟩
    · rw [ct_top]; rfl
    · rw [ct_var]; rfl
    · rw [flat_fun, List.length_cons, List.length_append] at hf
      rw [noal_fun, Bool.and_eq_true] at h
      rw [ct_fun, noal_fun, noal_ct κ r f a d (by omega) ha h.1, noal_ct κ r f c d (by omega) hb h.2]; rfl
    · rw [flat_all, List.length_cons, List.length_append] at hf
      rw [noal_all, Bool.and_eq_true, Bool.and_eq_true, decide_eq_true_iff] at h
      have q : noal (if men r a && κ a then tTop else ct κ r c) = true := by
        split
        · rfl
        · exact noal_ct κ r f c (d + 1) (by omega) hb h.2.2
      rw [ct_all, noal_all, h.2.1, q]
      simp [h.1]
    · rw [flat_rec, List.length_cons, List.length_append, List.length_append] at hf
      rw [noal_rec, Bool.and_eq_true, Bool.and_eq_true] at h
      have key : ∀ (i : Nat) (p : Ty), (flat p).length ≤ f → okl d l i p → noal p = true → noal (ct κ r p) = true := by
        intro i p hp ho hn
        unfold okl at ho
        by_cases hb : bit l i = true
        · rw [if_pos hb] at ho
          exact noal_ct κ r f p d hp ho hn
        · rw [if_neg hb] at ho
          rw [ho, ct_nil]; rfl
      rw [ct_rec, noal_rec, key 0 x (by omega) h0 h.1, key 1 y (by omega) h1 h.2.1, key 2 z (by omega) h2 h.2.2]; rfl
section PmLl
variable {κ : Ty → Bool} {hb : Nat} {B C : Ty} {Γ0 Δ0 : List Ty} {S T : Ty}
theorem noac_cB (ho : okc (cA B C Γ0 Δ0)) (h : noac (cA B C Γ0 Δ0)) : noac (cB κ B C Γ0 Δ0) := by
  intro k hk
  rw [← cAB_len (κ := κ)] at hk
  have q := h k hk
  have o := okc_bnd' ho hk
  by_cases e : k = Γ0.length
  · subst e
    unfold cA at q o
    rw [cxs_bnd] at q o
    unfold cB
    rw [cxs_bnd]
    have o2 := ok_all.mp o
    rw [noal_all, Bool.and_eq_true, Bool.and_eq_true, decide_eq_true_iff] at q
    rw [noal_all, q.1.2.1, noal_ct κ _ _ C _ (Nat.le_refl _) o2.2 q.1.2.2]
    exact ⟨by simp [q.1.1], by rw [hd_all]; decide⟩
  · unfold cA at q
    unfold cB
    rw [cxs_other Γ0 _ (tAll B C) e]
    exact q
/-- the chains of the cut context -/
theorem noal_TBcut (cg : CG κ hb B C Γ0 Δ0) (tk : tok (cA B C Γ0 Δ0, S, T)) (h : noac (cA B C Γ0 Δ0)) (hS : noal S = true) (hT : noal T = true) : TB 1 (cB κ B C Γ0 Δ0, S, T) := by
  have oS : ok (cB κ B C Γ0 Δ0).length S = true := by rw [← cAB_len]; exact tk.2.1
  have oT : ok (cB κ B C Γ0 Δ0).length T = true := by rw [← cAB_len]; exact tk.2.2
  exact noal_TB ⟨cg.2.1, oS, oT⟩ (noac_cB tk.1 h) hS hT
end PmLl
