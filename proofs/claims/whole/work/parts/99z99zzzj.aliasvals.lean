/-! VALUES ALONG A CONTEXT WITH ALIASES: an alias counts no characters. -/
def onq (t0 : Nat) (n1 : Nat → Nat) (s2 : Nat) (h : Nat → Nat) (Γ : List Ty) : List Nat := lsf (fq t0 n1 s2 h) Γ
def ccq : List Ty → Nat
  | [] => 0
  | b :: Γ => (if 16 ≤ hd b then 0 else tch b + 4) + ccq Γ
theorem ccq_le : ∀ Γ : List Ty, ccq Γ ≤ cch Γ
  | [] => Nat.le_refl _
  | b :: Γ => by
    have := ccq_le Γ
    show (if 16 ≤ hd b then 0 else tch b + 4) + ccq Γ ≤ (tch b + 4) + cch Γ
    split <;> omega
theorem ccq_cx {Γ0 : List Ty} {β : Ty} (hβ : ¬ 16 ≤ hd β) : ∀ Δ1 : List Ty, ccq (cxs Δ1 Γ0 β) = ccq Δ1 + (tch β + 4) + ccq Γ0
  | [] => by
    show (if 16 ≤ hd β then 0 else tch β + 4) + ccq Γ0 = 0 + (tch β + 4) + ccq Γ0
    rw [if_neg hβ]; omega
  | a :: Δ1 => by
    show (if 16 ≤ hd a then 0 else tch a + 4) + ccq (cxs Δ1 Γ0 β) = ((if 16 ≤ hd a then 0 else tch a + 4) + ccq Δ1) + (tch β + 4) + ccq Γ0
    rw [ccq_cx hβ Δ1]; omega
theorem okc_mcq : ∀ {Γ : List Ty} {b : Ty}, okc Γ → b ∈ Γ → ∃ d, ok d b = true ∧ ((16 ≤ hd b ∧ tch b = 1) ∨ tch b + 4 ≤ ccq Γ)
  | a :: Γ, b, hc, hb => by
    rcases List.mem_cons.mp hb with e | e
    · refine ⟨Γ.length, by rw [e]; exact hc.1, ?_⟩
      show _ ∨ tch b + 4 ≤ (if 16 ≤ hd a then 0 else tch a + 4) + ccq Γ
      rw [e]
      by_cases c : 16 ≤ hd a
      · obtain ⟨j, hj, rfl⟩ := hd_is_var hc.1 c
        exact Or.inl ⟨c, rfl⟩
      · rw [if_neg c]; exact Or.inr (by omega)
    · obtain ⟨d, h1, h2⟩ := okc_mcq hc.2 e
      refine ⟨d, h1, h2.imp id (fun h2 => ?_)⟩
      show tch b + 4 ≤ (if 16 ≤ hd a then 0 else tch a + 4) + ccq Γ
      omega
theorem okc_toq {Γ0 : List Ty} {β : Ty} : ∀ (Δ1 : List Ty), okc (cxs Δ1 Γ0 β) → ∀ b ∈ Δ1, ∃ d, ok d b = true ∧ ((16 ≤ hd b ∧ tch b = 1) ∨ tch b + 4 ≤ ccq Δ1)
  | a :: Δ1, hc, b, hb => by
    rcases List.mem_cons.mp hb with e | e
    · refine ⟨(cxs Δ1 Γ0 β).length, by rw [e]; exact hc.1, ?_⟩
      show _ ∨ tch b + 4 ≤ (if 16 ≤ hd a then 0 else tch a + 4) + ccq Δ1
      rw [e]
      by_cases c : 16 ≤ hd a
      · obtain ⟨j, hj, rfl⟩ := hd_is_var hc.1 c
        exact Or.inl ⟨c, rfl⟩
      · rw [if_neg c]; exact Or.inr (by omega)
    · obtain ⟨d, h1, h2⟩ := okc_toq Δ1 hc.2 b e
      refine ⟨d, h1, h2.imp id (fun h2 => ?_)⟩
      show tch b + 4 ≤ (if 16 ≤ hd a then 0 else tch a + 4) + ccq Δ1
      omega
section PmZj1a
variable {t0 s2 fn hv r0 r1 r2 r3 x0 N y : Nat} {n1 h : Nat → Nat} {P Q : List (List Nat)} {F G W : FrT} {X : List Nat} {Γ0 : List Ty} {β : Ty} {E : Stk → Nat} {Y : Nat}
theorem onq_len (t0 : Nat) (n1 : Nat → Nat) (s2 : Nat) (h : Nat → Nat) (Γ : List Ty) : (onq t0 n1 s2 h Γ).length = Γ.length := lsf_len _ Γ
theorem fq_le (hy : ∀ y, y ≤ h y) (ω : List Nat) (b : Ty) : fq t0 n1 s2 h ω b ≤ h (nz t0 n1 s2 h ω b) := by
  unfold fq
  split
  · exact hy _
  · exact Nat.le_refl _
theorem fq_ge (hy : ∀ y, y ≤ h y) (ω : List Nat) (b : Ty) : nz t0 n1 s2 h ω b ≤ fq t0 n1 s2 h ω b := by
  unfold fq
  split
  · exact Nat.le_refl _
  · exact hy _
theorem onq_cv (hn : NC t0 n1 s2 h) : ∀ {Γ : List Ty}, okc Γ → CV t0 n1 s2 h (onq t0 n1 s2 h Γ) Γ
  | [], _ => trivial
  | b :: Γ, hc => by
    have ih := onq_cv hn hc.2
    have l := onq_len t0 n1 s2 h Γ
    have q := nz_t0 hn (ω := onq t0 n1 s2 h Γ) (t := b) (fun j hj => CV.low hc.2 ih j hj) (by rw [l]; exact hc.1)
    have q2 := fq_ge (t0 := t0) (n1 := n1) (s2 := s2) hn.2.2.1 (onq t0 n1 s2 h Γ) b
    exact ⟨⟨q2, Nat.le_trans q q2⟩, ih⟩
theorem onq_id : ∀ Γ : List Ty, onq t0 n1 s2 (fun x => x) Γ = onz t0 n1 s2 (fun x => x) Γ
  | [] => rfl
  | b :: Γ => by
    show fq t0 n1 s2 (fun x => x) (onq t0 n1 s2 (fun x => x) Γ) b :: onq t0 n1 s2 (fun x => x) Γ = nz t0 n1 s2 (fun x => x) (onz t0 n1 s2 (fun x => x) Γ) b :: onz t0 n1 s2 (fun x => x) Γ
    rw [onq_id Γ]
    unfold fq
    split <;> rfl
theorem onq_chars (hc : frc F G t0 fn s2 hv r0 r1 r2 r3 = true) (hx : fxc F X hv x0 = true) (H : ∀ y x, x0 ≤ x → h y ≤ hv + max y x) (hf1 : n1 1 ≤ fn) (hr : ∀ m, m < 8 → n1 (8 + m) ≤ (if nlb m = 0 then r0 else if nlb m = 1 then r1 else if nlb m = 2 then r2 else r3)) : ∀ (Γ : List Ty), okc Γ → ccq Γ ≤ 56 → ∀ j, j < Γ.length → vw (onq t0 n1 s2 h Γ) j ≤ X.getD (ccq Γ) 0
  | [], _, _, j, hj => absurd hj (Nat.not_lt_zero _)
  | a :: Γ, ho, hk, j, hj => by
    by_cases al : 16 ≤ hd a
    · obtain ⟨i, hi, ea⟩ := hd_is_var ho.1 al
      have ec : ccq (a :: Γ) = ccq Γ := by
        show (if 16 ≤ hd a then 0 else tch a + 4) + ccq Γ = _
        rw [if_pos al]; omega
      have ih := onq_chars hc hx H hf1 hr Γ ho.2 (by omega)
      have l1 := onq_len t0 n1 s2 h Γ
      show vw (fq t0 n1 s2 h (onq t0 n1 s2 h Γ) a :: onq t0 n1 s2 h Γ) j ≤ _
      rw [vw_cons, l1, ec]
      by_cases ej : j = Γ.length
      · rw [if_pos ej]
        unfold fq
        rw [if_pos al, ea, nz_var]
        exact ih i hi
      · rw [if_neg ej]
        exact ih j (by simp only [List.length_cons] at hj; omega)
    have ec : ccq (a :: Γ) = (tch a + 4) + ccq Γ := by
      show (if 16 ≤ hd a then 0 else tch a + 4) + ccq Γ = _
      rw [if_neg al]
    have pa := tch_pos ho.1
    have ih := onq_chars hc hx H hf1 hr Γ ho.2 (by omega)
    have l1 := onq_len t0 n1 s2 h Γ
    show vw (fq t0 n1 s2 h (onq t0 n1 s2 h Γ) a :: onq t0 n1 s2 h Γ) j ≤ _
    have ef : fq t0 n1 s2 h (onq t0 n1 s2 h Γ) a = h (nz t0 n1 s2 h (onq t0 n1 s2 h Γ) a) := if_neg al
    rw [ef]
    rw [vw_cons, l1]
    by_cases ej : j = Γ.length
    · rw [if_pos ej]
      obtain ⟨p, hp, fp⟩ := fr_form hc H hf1 hr _ a Γ.length (Nat.le_refl _) ho.1 (by omega)
      have x1 := fxc_x0 hx (c := ccq Γ) (by omega)
      have q := fp (X.getD (ccq Γ) 0) (onq t0 n1 s2 h Γ) x1 (fun i hi => ih i (by rw [l1] at hi; exact hi)) (by rw [l1]; exact ho.1)
      have q2 := H (nz t0 n1 s2 h (onq t0 n1 s2 h Γ) a) (X.getD (ccq Γ) 0) x1
      have q3 := fxc_step hx pa (c := ccq (a :: Γ)) (by omega) hk hp
      rw [show ccq (a :: Γ) - 4 - tch a = ccq Γ by omega] at q3
      have q4 := fxc_step hx (k := 1) (c := ccq (a :: Γ)) (by decide) (by omega) hk (p := p)
      have q5 := fxc_le hx (c := ccq Γ) (d := ccq (a :: Γ)) (by omega) hk
      by_cases e0 : X.getD (ccq Γ) 0 ≤ p.2 + p.1 * X.getD (ccq Γ) 0
      · omega
      · -- a is worth less than the heaviest around: a variable of one character is no less
        obtain ⟨v, hv', v1, v2⟩ := dom_ex (frc_0 hc (k := tch a) pa (by omega)).2.1
        have q6 := fxc_step hx pa (c := ccq (a :: Γ)) (by omega) hk hv'
        rw [show ccq (a :: Γ) - 4 - tch a = ccq Γ by omega] at q6
        have := Nat.mul_le_mul_right (X.getD (ccq Γ) 0) v1
        omega
    · rw [if_neg ej]
      have := ih j (by simp only [List.length_cons] at hj; omega)
      have := fxc_le hx (c := ccq Γ) (d := ccq (a :: Γ)) (by omega) hk
      omega
theorem onq_gr (T : TBs N t0 fn s2 hv r0 r1 r2 r3 x0 n1 h P Q F G X) (hg : fgc F W hv = true) (hW : (1, 0) ∈ frg W 0) (hy : x0 ≤ y) (h0 : ∀ j, j < (β :: Γ0).length → vw (onq t0 n1 s2 h (β :: Γ0)) j ≤ y) : ∀ (Δ : List Ty), okc (cxs Δ Γ0 β) → ccq Δ ≤ 38 → ∃ e ∈ frg W (ccq Δ), 1 ≤ e.1 ∧ ∀ j, j < (cxs Δ Γ0 β).length → vw (onq t0 n1 s2 h (cxs Δ Γ0 β)) j ≤ e.2 + e.1 * y
  | [], _, _ => ⟨(1, 0), hW, Nat.le_refl _, fun j hj => by
      have := h0 j hj
      show vw (onq t0 n1 s2 h (β :: Γ0)) j ≤ 0 + 1 * y
      omega⟩
  | a :: Δ, hc, hk => by
    by_cases al : 16 ≤ hd a
    · have ec : ccq (a :: Δ) = ccq Δ := by
        show (if 16 ≤ hd a then 0 else tch a + 4) + ccq Δ = _
        rw [if_pos al]; omega
      obtain ⟨e, he, e1, ih⟩ := onq_gr T hg hW hy h0 Δ hc.2 (by omega)
      have l1 := onq_len t0 n1 s2 h (cxs Δ Γ0 β)
      obtain ⟨i, hi, ea⟩ := hd_is_var hc.1 al
      refine ⟨e, by rw [ec]; exact he, e1, fun j hj => ?_⟩
      show vw (fq t0 n1 s2 h (onq t0 n1 s2 h (cxs Δ Γ0 β)) a :: onq t0 n1 s2 h (cxs Δ Γ0 β)) j ≤ _
      rw [vw_cons, l1]
      split
      · unfold fq
        rw [if_pos al, ea, nz_var]
        exact ih i hi
      · rename_i ne
        have hj : j < (a :: cxs Δ Γ0 β).length := hj
        rw [List.length_cons] at hj
        exact ih j (by omega)
    have ec : ccq (a :: Δ) = (tch a + 4) + ccq Δ := by
      show (if 16 ≤ hd a then 0 else tch a + 4) + ccq Δ = _
      rw [if_neg al]
    have hk : (tch a + 4) + ccq Δ ≤ 38 := by rw [← ec]; exact hk
    obtain ⟨e, he, e1, ih⟩ := onq_gr T hg hW hy h0 Δ hc.2 (by omega)
    have l1 := onq_len t0 n1 s2 h (cxs Δ Γ0 β)
    have oa : ok (onq t0 n1 s2 h (cxs Δ Γ0 β)).length a = true := by rw [l1]; exact hc.1
    have ta := tch_pos oa
    have yy : y ≤ e.2 + e.1 * y := by
      have := Nat.mul_le_mul_right y e1
      omega
    obtain ⟨p, hp, q⟩ := val_any T oa (by omega) (Nat.le_trans hy yy) (fun i hi => ih i (by rw [l1] at hi; exact hi))
    have H := T.2.2.1 (nz t0 n1 s2 h (onq t0 n1 s2 h (cxs Δ Γ0 β)) a) (e.2 + e.1 * y) (Nat.le_trans hy yy)
    have key : ∃ u ∈ frg F (tch a), h (nz t0 n1 s2 h (onq t0 n1 s2 h (cxs Δ Γ0 β)) a) ≤ hv + (u.2 + u.1 * (e.2 + e.1 * y)) := by
      by_cases c : nz t0 n1 s2 h (onq t0 n1 s2 h (cxs Δ Γ0 β)) a ≤ e.2 + e.1 * y
      · obtain ⟨v, hv', v1, v2⟩ := dom_ex (frc_0 T.1 (k := tch a) ta (by omega)).2.1
        refine ⟨v, hv', ?_⟩
        have := Nat.mul_le_mul_right (e.2 + e.1 * y) v1
        omega
      · exact ⟨p, hp, by omega⟩
    obtain ⟨u, hu, q2⟩ := key
    obtain ⟨w, hw, w1, w2⟩ := fgc_s hg ta (r := ccq Δ) (by omega) he hu
    have g1 : e.1 ≤ w.1 := Nat.le_trans (Nat.le_max_left _ _) w1
    have g2 : u.1 * e.1 ≤ w.1 := Nat.le_trans (Nat.le_max_right _ _) w1
    have m1 := Nat.mul_le_mul_right y g1
    have m2 := Nat.mul_le_mul_right y g2
    rw [Nat.mul_add, ← Nat.mul_assoc] at q2
    refine ⟨w, ?_, by omega, fun j hj => ?_⟩
    · rw [ec, show (tch a + 4) + ccq Δ = ccq Δ + tch a + 4 by omega]
      exact hw
    · show vw (fq t0 n1 s2 h (onq t0 n1 s2 h (cxs Δ Γ0 β)) a :: onq t0 n1 s2 h (cxs Δ Γ0 β)) j ≤ _
      have ef : fq t0 n1 s2 h (onq t0 n1 s2 h (cxs Δ Γ0 β)) a = h (nz t0 n1 s2 h (onq t0 n1 s2 h (cxs Δ Γ0 β)) a) := if_neg al
      rw [ef]
      rw [vw_cons]
      by_cases c : j = (onq t0 n1 s2 h (cxs Δ Γ0 β)).length
      · rw [if_pos c]; omega
      · rw [if_neg c]
        have hj : j < (a :: cxs Δ Γ0 β).length := hj
        rw [List.length_cons] at hj
        have q3 := ih j (by rw [l1] at c; omega)
        omega
theorem onq_low {t0 s2 : Nat} {n1 h : Nat → Nat} {Γ0 : List Ty} {β : Ty} : ∀ (Δ1 : List Ty) {j : Nat}, j < Γ0.length → vw (onq t0 n1 s2 h (cxs Δ1 Γ0 β)) j = vw (onq t0 n1 s2 h Γ0) j
  | [], j, hj => by
    have l1 := onq_len t0 n1 s2 h Γ0
    show vw (fq t0 n1 s2 h (onq t0 n1 s2 h Γ0) β :: onq t0 n1 s2 h Γ0) j = _
    rw [vw_cons, l1, if_neg (by omega)]
  | a :: Δ1, j, hj => by
    have l1 := onq_len t0 n1 s2 h (cxs Δ1 Γ0 β)
    have q := onq_low (t0 := t0) (n1 := n1) (s2 := s2) (h := h) (Γ0 := Γ0) (β := β) Δ1 hj
    show vw (fq t0 n1 s2 h (onq t0 n1 s2 h (cxs Δ1 Γ0 β)) a :: onq t0 n1 s2 h (cxs Δ1 Γ0 β)) j = _
    rw [vw_cons, l1, if_neg (by rw [cxs_len]; omega)]
    exact q
theorem HE_sfq {X7 y : Nat} {eb e2 : Nat → Nat} (he : ∀ z z', z ≤ z' → eb z ≤ eb z') (he2 : ∀ z z', z ≤ z' → e2 z ≤ e2 z') (hm : ∀ y y', y ≤ y' → h y ≤ h y') (hh : ∀ y δ, h (y + δ) ≤ h y + δ) (hn : NC t0 n1 s2 h) (h7 : y ≤ X7) : ∀ {Γ : List Ty}, okc Γ → (∀ j, j < Γ.length → vw (onq t0 n1 s2 h Γ) j ≤ y) → (∀ (Δ' : List Ty) (b' : Ty) (Γ' : List Ty), Γ = Δ' ++ b' :: Γ' → ok Γ'.length b' = true → (∀ j, j < Γ'.length → vw (onq t0 n1 s2 h Γ') j ≤ y) → nz t0 n1 s2 h (onq t0 n1 s2 h Γ') b' ≤ y → nsch b' = true ∨ (∀ z, nz t0 n1 s2 h (onq t0 n1 s2 h Γ') b' + flv b' * z ≤ eb z) ∨ IS2 (fun s => HS2 t0 n1 s2 h eb e2 (onq t0 n1 s2 h Γ') s ∨ ∀ z, nz t0 n1 s2 h (onq t0 n1 s2 h Γ') s + flv s * z ≤ eb z) b') → HEk t0 n1 s2 h (E2 X7 eb e2) Γ (onq t0 n1 s2 h Γ)
  | [], _, _, _ => trivial
  | b :: Γ, hc, hv, hp => by
    have l1 := onq_len t0 n1 s2 h Γ
    have q := hv Γ.length (by rw [List.length_cons]; omega)
    have e : vw (onq t0 n1 s2 h (b :: Γ)) Γ.length = fq t0 n1 s2 h (onq t0 n1 s2 h Γ) b := by
      show vw (fq t0 n1 s2 h (onq t0 n1 s2 h Γ) b :: onq t0 n1 s2 h Γ) Γ.length = _
      rw [vw_cons, l1, if_pos rfl]
    rw [e] at q
    have q := Nat.le_trans (fq_ge (t0 := t0) (n1 := n1) (s2 := s2) hn.2.2.1 _ _) q
    have ob : ok (onq t0 n1 s2 h Γ).length b = true := by rw [l1]; exact hc.1
    have hv2 : ∀ j, j < Γ.length → vw (onq t0 n1 s2 h Γ) j ≤ y := by
      intro j hj
      have q2 := hv j (by rw [List.length_cons]; omega)
      have e2' : vw (onq t0 n1 s2 h (b :: Γ)) j = vw (onq t0 n1 s2 h Γ) j := by
        show vw (fq t0 n1 s2 h (onq t0 n1 s2 h Γ) b :: onq t0 n1 s2 h Γ) j = _
        rw [vw_cons, l1, if_neg (by omega)]
      rw [← e2']
      exact q2
    refine ⟨fun ρ hρ => ?_, HE_sfq he he2 hm hh hn h7 hc.2 hv2 (fun Δ' b' Γ' e' => hp (b :: Δ') b' Γ' (by rw [e']; rfl))⟩
    · rcases hp [] b Γ rfl hc.1 hv2 q with h2 | h2 | h2
      · exact vz_l2 he he2 hm hh ob (Nat.le_trans q h7) (Or.inl h2) ρ
      · exact vz_l2 he he2 hm hh ob (Nat.le_trans q h7) (Or.inr h2) ρ
      · exact vz_i2 he he2 hm hh _ b _ ρ (Nat.le_refl _) ob (Nat.le_trans q h7) h2 hρ
theorem HUB_ofq {E : Stk → Nat} : ∀ {Γ : List Ty}, okc Γ → (∀ (Δ' : List Ty) (b' : Ty) (Γ' : List Ty), Γ = Δ' ++ b' :: Γ' → ok Γ'.length b' = true → UB t0 n1 s2 h E Y b' (onq t0 n1 s2 h Γ')) → HUB t0 n1 s2 h E Y Γ (onq t0 n1 s2 h Γ)
  | [], _, _ => trivial
  | b :: Γ, hc, hp => ⟨hp [] b Γ rfl hc.1, HUB_ofq hc.2 (fun Δ' b' Γ' e o => hp (b :: Δ') b' Γ' (by rw [e]; rfl) o)⟩
end PmZj1a
