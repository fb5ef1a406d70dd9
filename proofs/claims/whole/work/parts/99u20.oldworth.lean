/-! A SCHEME WHOSE INNER SCHEMES ARE OF ANOTHER KIND OR WORTH LITTLE: its body may be replaced. -/
section PmUu
variable {h V t0 s2 : Nat} {n1 hf : Nat → Nat} {κ : Ty → Bool} {B C : Ty} {Γ0 : List Ty}
def Kv (h V t0 : Nat) (n1 : Nat → Nat) (s2 : Nat) (hf : Nat → Nat) (κ : Ty → Bool) (B C : Ty) (Γ0 : List Ty) (l : Nat) (Δ : List Ty) (t : Ty) : Prop := (Γ0.length < l ∧ l ≤ (cxs Δ Γ0 (tAll B C)).length) ∧ okc (cxs Δ Γ0 (tAll B C)) ∧ gqc 5 Γ0.length l (cxs Δ Γ0 (tAll B C)) ∧ (∀ j, j < (cxs Δ Γ0 (tAll B C)).length → (j < Γ0.length ∨ l ≤ j) → kw h V t0 n1 s2 hf κ (onz t0 n1 s2 hf (sfx (cxs Δ Γ0 (tAll B C)) j)) (bnd (cxs Δ Γ0 (tAll B C)) j) = true) ∧ ok (cxs Δ Γ0 (tAll B C)).length t = true ∧ gq 5 Γ0.length l t = true ∧ kw h V t0 n1 s2 hf κ (onz t0 n1 s2 hf (cxs Δ Γ0 (tAll B C))) t = true
theorem Kv.ext {l : Nat} {Δ : List Ty} {a b t : Ty} (k : Kv h V t0 n1 s2 hf κ B C Γ0 l Δ t) (oa : ok (cxs Δ Γ0 (tAll B C)).length a = true) (ob : ok ((cxs Δ Γ0 (tAll B C)).length + 1) b = true) (ga : gq 5 Γ0.length l a = true) (gb : gq 5 Γ0.length l b = true) (ka : kw h V t0 n1 s2 hf κ (onz t0 n1 s2 hf (cxs Δ Γ0 (tAll B C))) a = true) (kb : kw h V t0 n1 s2 hf κ (onz t0 n1 s2 hf (a :: cxs Δ Γ0 (tAll B C))) b = true) : Kv h V t0 n1 s2 hf κ B C Γ0 l (a :: Δ) b := by
  obtain ⟨⟨l1, l2⟩, hc, hg, hk, -, -, -⟩ := k
  have le : (cxs (a :: Δ) Γ0 (tAll B C)).length = (cxs Δ Γ0 (tAll B C)).length + 1 := rfl
  refine ⟨⟨l1, by rw [le]; omega⟩, ⟨oa, hc⟩, ?_, ?_, ob, gb, kb⟩
  · intro j hj hp
    show gq 5 Γ0.length (min l j) (if j = (cxs Δ Γ0 (tAll B C)).length then a else bnd (cxs Δ Γ0 (tAll B C)) j) = true
    by_cases ej : j = (cxs Δ Γ0 (tAll B C)).length
    · rw [if_pos ej, ej, Nat.min_eq_left l2]; exact ga
    · rw [if_neg ej]
      exact hg j (by rw [le] at hj; omega) hp
  · intro j hj hp
    show kw h V t0 n1 s2 hf κ (onz t0 n1 s2 hf (sfx (a :: cxs Δ Γ0 (tAll B C)) j)) (if j = (cxs Δ Γ0 (tAll B C)).length then a else bnd (cxs Δ Γ0 (tAll B C)) j) = true
    rw [sfx_cons (by rw [le] at hj; omega)]
    by_cases ej : j = (cxs Δ Γ0 (tAll B C)).length
    · rw [if_pos ej, ej, sfx_all]; exact ka
    · rw [if_neg ej]
      exact hk j (by rw [le] at hj; omega) hp
theorem Kv.part {l : Nat} {Δ : List Ty} {t b : Ty} (k : Kv h V t0 n1 s2 hf κ B C Γ0 l Δ t) (ob : ok (cxs Δ Γ0 (tAll B C)).length b = true) (gb : gq 5 Γ0.length l b = true) (kb : kw h V t0 n1 s2 hf κ (onz t0 n1 s2 hf (cxs Δ Γ0 (tAll B C))) b = true) : Kv h V t0 n1 s2 hf κ B C Γ0 l Δ b := ⟨k.1, k.2.1, k.2.2.1, k.2.2.2.1, ob, gb, kb⟩
/-- what is old stays old -/
theorem Kv.cl (hm : ∀ y y', y ≤ y' → hf y ≤ hf y') (hκ : ∀ (k n : Nat) (t : Ty) (d : Nat), ok d t = true → κ t = true → κ (lft k n t) = true) (h16 : h < 16) (hB : hd B = h) {l : Nat} {Δ : List Ty} {t : Ty} (k : Kv h V t0 n1 s2 hf κ B C Γ0 l Δ t) : (∀ a b, t = tFun a b → Kv h V t0 n1 s2 hf κ B C Γ0 l Δ a ∧ Kv h V t0 n1 s2 hf κ B C Γ0 l Δ b) ∧ (∀ m x y z, m < 8 → t = tRec m x y z → (bit m 0 = true → Kv h V t0 n1 s2 hf κ B C Γ0 l Δ x) ∧ (bit m 1 = true → Kv h V t0 n1 s2 hf κ B C Γ0 l Δ y) ∧ (bit m 2 = true → Kv h V t0 n1 s2 hf κ B C Γ0 l Δ z)) ∧ (∀ a b, t = tAll a b → Kv h V t0 n1 s2 hf κ B C Γ0 l (a :: Δ) b) ∧ (∀ j, t = tVar j → j < (cxs Δ Γ0 (tAll B C)).length → j ≠ Γ0.length ∧ Kv h V t0 n1 s2 hf κ B C Γ0 l Δ (lft j ((cxs Δ Γ0 (tAll B C)).length - j) (bnd (cxs Δ Γ0 (tAll B C)) j))) ∧ ∀ f, t = tAll (upb Γ0 Δ B) f → κ f = true ∨ nz t0 n1 s2 hf (onz t0 n1 s2 hf (upb Γ0 Δ B :: cxs Δ Γ0 (tAll B C))) f ≤ V := by
  have k' := k
  obtain ⟨⟨l1, l2⟩, hc, hg, hk, ot, gt, kt⟩ := k'
  refine ⟨?_, ?_, ?_, ?_, ?_⟩
  · intro a b et
    subst et
    have o := ok_fun.mp ot
    rw [gq_fun] at gt
    rw [kw_fun] at kt
    exact ⟨k.part o.1 gt.1 kt.1, k.part o.2 gt.2 kt.2⟩
  · intro m x y z hm' et
    subst et
    have o := (ok_rec hm').mp ot
    rw [gq_rec] at gt
    rw [kw_rec] at kt
    exact ⟨fun b => k.part (okl_on o.1 (bit_iff.mp b)) gt.1 kt.1, fun b => k.part (okl_on o.2.1 (bit_iff.mp b)) gt.2.1 kt.2.1, fun b => k.part (okl_on o.2.2 (bit_iff.mp b)) gt.2.2 kt.2.2⟩
  · intro a b et
    subst et
    have o := ok_all.mp ot
    rw [gq_all] at gt
    rw [kw_all] at kt
    exact k.ext o.1 o.2 gt.2.1 gt.2.2 kt.2.1 kt.2.2
  · intro j et hj
    subst et
    rw [gq_var] at gt
    refine ⟨by omega, k.part (ok_expose hc hj) ?_ ?_⟩
    · exact gq_lft (by decide) (by omega) _ (bnd (cxs Δ Γ0 (tAll B C)) j) j (Nat.le_refl _) (okc_bnd' hc hj) (hg j hj gt)
    · have ls : (onz t0 n1 s2 hf (sfx (cxs Δ Γ0 (tAll B C)) j)).length = j := by rw [onz_len, sfx_len (by omega)]
      have lc := onz_len t0 n1 s2 hf (cxs Δ Γ0 (tAll B C))
      exact kw_lft hm (hκ _ _) h16 _ (bnd (cxs Δ Γ0 (tAll B C)) j) (onz t0 n1 s2 hf (sfx (cxs Δ Γ0 (tAll B C)) j)) (onz t0 n1 s2 hf (cxs Δ Γ0 (tAll B C))) (Nat.le_refl _) (by rw [ls]; exact Nat.le_refl _) (by rw [ls, lc]; omega) (by rw [ls]; exact okc_bnd' hc hj) (fun i hi => by
        rw [ls] at hi
        rw [if_neg (by omega), onz_sub (cxs Δ Γ0 (tAll B C)) j i (by omega) hi]
        exact Nat.le_refl _) (hk j hj gt)
  · intro f et
    subst et
    rw [kw_all] at kt
    refine kt.1 ?_
    unfold upb
    rw [(hd_lft0 (ok_all.mp (okc_mid hc)).1).2 (by omega)]
    exact hB
/-- where the scheme's body begins -/
theorem Kv.base (hm : ∀ y y', y ≤ y' → hf y ≤ hf y') (hκ : ∀ (k n : Nat) (t : Ty) (d : Nat), ok d t = true → κ t = true → κ (lft k n t) = true) (h16 : h < 16) {Δ : List Ty} (hc : okc (cxs Δ Γ0 (tAll B C))) (h0 : ∀ j, j < Γ0.length → kw h V t0 n1 s2 hf κ (onz t0 n1 s2 hf (sfx Γ0 j)) (bnd Γ0 j) = true) (hkB : kw h V t0 n1 s2 hf κ (onz t0 n1 s2 hf Γ0) B = true) (hkC : kw h V t0 n1 s2 hf κ (onz t0 n1 s2 hf (B :: Γ0)) C = true) : Kv h V t0 n1 s2 hf κ B C Γ0 (cxs Δ Γ0 (tAll B C)).length (upb Γ0 Δ B :: Δ) (upb Γ0 Δ C) := by
  have oA := okc_mid hc
  have oB := (ok_all.mp oA).1
  have oC := (ok_all.mp oA).2
  have le : (cxs Δ Γ0 (tAll B C)).length = Γ0.length + (Δ.length + 1) := by rw [cxs_len]; omega
  have lc := onz_len t0 n1 s2 hf (cxs Δ Γ0 (tAll B C))
  have l0 := onz_len t0 n1 s2 hf Γ0
  have base : Kv h V t0 n1 s2 hf κ B C Γ0 (cxs Δ Γ0 (tAll B C)).length Δ tTop := by
    refine ⟨⟨by omega, Nat.le_refl _⟩, hc, ?_, ?_, rfl, gq_top, kw_top _⟩
    · intro j hj hp
      have hj0 : j < Γ0.length := by omega
      rw [Nat.min_eq_right (by omega)]
      exact gq5 _ _ j (Nat.le_refl _) (okc_bnd' hc hj) (Nat.le_refl _) (fun i hi => Or.inl (by omega))
    · intro j hj hp
      have hj0 : j < Γ0.length := by omega
      rw [cxs_lowb Δ j hj0, sfx_cxs (by omega) Δ]
      exact h0 j hj0
  have oUB : ok (cxs Δ Γ0 (tAll B C)).length (upb Γ0 Δ B) = true ∧ ok ((cxs Δ Γ0 (tAll B C)).length + 1) (upb Γ0 Δ C) = true := by
    have a := up_ok (B := B) (C := C) hc
    rw [upb_all] at a
    exact ok_all.mp a
  have gB : gq 5 Γ0.length (cxs Δ Γ0 (tAll B C)).length (upb Γ0 Δ B) = true := by
    refine gq_lft (by decide) (Nat.le_of_eq le) _ B _ (Nat.le_refl _) oB ?_
    rw [Nat.min_eq_right (by omega)]
    exact gq5 _ B _ (Nat.le_refl _) oB (Nat.le_refl _) (fun i hi => Or.inl hi)
  have gC : gq 5 Γ0.length (cxs Δ Γ0 (tAll B C)).length (upb Γ0 Δ C) = true := by
    refine gq_lft (by decide) (Nat.le_of_eq le) _ C _ (Nat.le_refl _) oC ?_
    rw [Nat.min_eq_right (by omega)]
    exact gq5 _ C _ (Nat.le_refl _) oC (by omega) (fun i hi => by omega)
  have hw : ∀ i, i < (onz t0 n1 s2 hf Γ0).length → vw (onz t0 n1 s2 hf (cxs Δ Γ0 (tAll B C))) (if Γ0.length ≤ i then i + (Δ.length + 1) else i) ≤ vw (onz t0 n1 s2 hf Γ0) i := fun i hi => by
    rw [l0] at hi
    rw [if_neg (by omega), onz_sub (cxs Δ Γ0 (tAll B C)) Γ0.length i (by omega) hi, sfx_cxs (Nat.le_refl _) Δ, sfx_all]
    exact Nat.le_refl _
  have kB := kw_lft hm (hκ Γ0.length (Δ.length + 1)) h16 _ B (onz t0 n1 s2 hf Γ0) (onz t0 n1 s2 hf (cxs Δ Γ0 (tAll B C))) (Nat.le_refl _) (by rw [l0]; exact Nat.le_refl _) (by rw [l0, lc]; omega) (by rw [l0]; exact oB) hw hkB
  have nB := nz_lfm (t0 := t0) (n1 := n1) (s2 := s2) hm (k := Γ0.length) (n := Δ.length + 1) _ B (onz t0 n1 s2 hf Γ0) (onz t0 n1 s2 hf (cxs Δ Γ0 (tAll B C))) (Nat.le_refl _) (by rw [l0]; exact Nat.le_refl _) (by rw [l0, lc]; omega) (by rw [l0]; exact oB) hw
  have hw2 := vw_ext (by rw [l0]; exact Nat.le_refl _) (by rw [l0, lc]; omega) hw (hm _ _ nB)
  have kC := kw_lft hm (hκ Γ0.length (Δ.length + 1)) h16 _ C (hf (nz t0 n1 s2 hf (onz t0 n1 s2 hf Γ0) B) :: onz t0 n1 s2 hf Γ0) (hf (nz t0 n1 s2 hf (onz t0 n1 s2 hf (cxs Δ Γ0 (tAll B C))) (lft Γ0.length (Δ.length + 1) B)) :: onz t0 n1 s2 hf (cxs Δ Γ0 (tAll B C))) (Nat.le_refl _) (by rw [List.length_cons, l0]; omega) (by rw [List.length_cons, List.length_cons, l0, lc]; omega) (by rw [List.length_cons, l0]; exact oC) hw2 hkC
  exact base.ext oUB.1 oUB.2 gB gC kB kC
end PmUu
