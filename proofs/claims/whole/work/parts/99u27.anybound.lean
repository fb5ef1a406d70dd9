/-! ANY BOUND: the body of any scheme may be replaced. -/
section PmVc
variable {N t0 fn s2 hv r0 r1 r2 r3 x0 V h : Nat} {n1 hf : Nat → Nat} {P Q : List (List Nat)} {F G : FrT} {X : List Nat} {κ : Ty → Bool}
/-- every inner scheme has a body that is worth no more than what the whole may be -/
theorem kw_any (T : TBs N t0 fn s2 hv r0 r1 r2 r3 x0 n1 hf P Q F G X) : ∀ (f : Nat) (t : Ty) (ω : List Nat) (y : Nat), (flat t).length ≤ f → ok ω.length t = true → tch t ≤ 56 → x0 ≤ y → (∀ j, j < ω.length → vw ω j ≤ y) → (∀ p ∈ frg F (tch t), p.2 + p.1 * y ≤ V) → kw h V t0 n1 s2 hf κ ω t = true
  | 0, t, ω, y, hf', o, _, _, _, _ => by have := flat_pos o; omega
  | f + 1, t, ω, y, hf', o, h56, hy, hw, hV => by
    have up : ∀ b : Ty, (flat b).length ≤ f → ok ω.length b = true → tch b + 3 ≤ tch t → kw h V t0 n1 s2 hf κ ω b = true := by
      intro b hb ob ht
      refine kw_any T f b ω y hb ob (by omega) hy hw (fun p hp => ?_)
      obtain ⟨q, hq, q1, q2⟩ := frg_up T (i := tch b) (k := tch t) (tch_pos ob) (by omega) (by omega) hp
      have := hV q hq
      have := Nat.mul_le_mul_right y q1
      omega
    rcases ok_cases o with rfl | ⟨j, hj, rfl⟩ | ⟨a, c, rfl, ha, hb⟩ | ⟨a, c, rfl, ha, hb⟩ | ⟨m, x, z, w, hm', rfl, h0, h1, h2⟩
    · exact kw_top _
    · exact kw_var _ _
    · rw [flat_fun, List.length_cons, List.length_append] at hf'
      have e := tch_fun a c
      rw [kw_fun]
      exact ⟨up a (by omega) ha (by omega), up c (by omega) hb (by omega)⟩
    · rw [flat_all, List.length_cons, List.length_append] at hf'
      have e := tch_all a c
      have pa := tch_pos ha
      have pc := tch_pos hb
      rw [kw_all]
      refine ⟨fun e0 => Or.inr ?_, up a (by omega) ha (by omega), ?_⟩
      · obtain ⟨p, hp, q⟩ := val_any T (A := tAll a c) (ω := ω) (y := y) o h56 hy hw
        rw [nz_all] at q
        have := hV p hp
        omega
      · obtain ⟨p, hp, q⟩ := val_any T (A := a) (ω := ω) (y := y) ha (by omega) hy hw
        have m1 : y ≤ max 1 p.1 * y := Nat.le_mul_of_pos_left _ (by omega)
        have m2 : p.1 * y ≤ max 1 p.1 * y := Nat.mul_le_mul_right y (Nat.le_max_right _ _)
        have H := T.2.2.1 (nz t0 n1 s2 hf ω a) y hy
        refine kw_any T f c _ (hv + p.2 + max 1 p.1 * y) (by omega) (by rw [List.length_cons]; exact hb) (by omega) (by omega) (fun j hj => ?_) (fun q' hq' => ?_)
        · rw [vw_cons]
          by_cases e2 : j = ω.length
          · rw [if_pos e2]; omega
          · rw [if_neg e2]
            rw [List.length_cons] at hj
            have := hw j (by omega)
            omega
        · obtain ⟨r, hr, a1, a2⟩ := dom_ex ((frc_p T.1 (i := tch a) (j := tch c) pa pc (by omega)).2.2.1 (by omega) p hp q' hq')
          rw [show tch a + tch c + 4 = tch (tAll a c) by omega] at hr
          have := hV r hr
          have b1 := Nat.mul_le_mul_right y a1
          rw [Nat.mul_assoc] at b1
          rw [Nat.mul_add]
          omega
    · rw [flat_rec, List.length_cons, List.length_append, List.length_append] at hf'
      have e := tch_rec m x z w
      have key : ∀ (i : Nat) (p : Ty), (flat p).length ≤ f → okl ω.length m i p → tch p + rch m ≤ tch (tRec m x z w) → kw h V t0 n1 s2 hf κ ω p = true := by
        intro i p hp ho hc
        unfold okl at ho
        by_cases hb : bit m i = true
        · rw [if_pos hb] at ho
          have c0 : m ≠ 0 := by
            intro e
            rw [e, bit_iff, Nat.zero_div] at hb
            omega
          have r3 := rch_two c0 hm'
          exact up p hp ho (by omega)
        · rw [if_neg hb] at ho
          rw [ho]; exact kw_nil _
      rw [kw_rec]
      exact ⟨key 0 x (by omega) h0 (by omega), key 1 z (by omega) h1 (by omega), key 2 w (by omega) h2 (by omega)⟩
end PmVc
section PmVd
variable {Γ0 : List Ty} {B C : Ty} {V Vg n y yg : Nat}
/-- bounds, bound and body by characters; y is what the variables before and the bound itself are worth -/
theorem hkv_any (hB : hd B < 16) (hC : hd C ≠ 0 ∧ hd C < 16) (hc : okc (tAll B C :: Γ0)) (y1 : 1 ≤ y) (g1 : 1 ≤ yg) (hB56 : tch B ≤ 56) (h56 : tch C ≤ 56) (h0 : ∀ j, j < Γ0.length → tch (bnd Γ0 j) ≤ 56) (hw : ∀ b j, j < (B :: Γ0).length → vw (onz 0 (fun _ => 1 + 1) (2 + 1) (vlr b 1) (B :: Γ0)) j ≤ y) (hg : ∀ j, j < (B :: Γ0).length → vw (onz 1 ngc 1 (fun x => x) (B :: Γ0)) j ≤ yg) (hV : ∀ k, (k = tch C ∨ k = tch B ∨ ∃ j, j < Γ0.length ∧ k = tch (bnd Γ0 j)) → (∀ p ∈ frg fr1 k, p.2 + p.1 * y ≤ V) ∧ ∀ p ∈ frg frq k, p.2 + p.1 * yg ≤ Vg) : HKv (hd B) V Vg B C Γ0 := by
  have oB := (ok_all.mp hc.1).1
  have oC := (ok_all.mp hc.1).2
  have oc0 := hc.2
  have lowr : ∀ b i, i < Γ0.length → vw (onz 0 (fun _ => 1 + 1) (2 + 1) (vlr b 1) Γ0) i ≤ y := fun b i hi => by
    have q := hw b i (by rw [List.length_cons]; omega)
    have e : vw (onz 0 (fun _ => 1 + 1) (2 + 1) (vlr b 1) (B :: Γ0)) i = vw (onz 0 (fun _ => 1 + 1) (2 + 1) (vlr b 1) Γ0) i := by
      show vw (vlr b 1 _ :: onz 0 (fun _ => 1 + 1) (2 + 1) (vlr b 1) Γ0) i = _
      rw [vw_cons, onz_len, if_neg (by omega)]
    omega
  have lowg : ∀ i, i < Γ0.length → vw (onz 1 ngc 1 (fun x => x) Γ0) i ≤ yg := fun i hi => by
    have q := hg i (by rw [List.length_cons]; omega)
    have e : vw (onz 1 ngc 1 (fun x => x) (B :: Γ0)) i = vw (onz 1 ngc 1 (fun x => x) Γ0) i := by
      show vw (_ :: onz 1 ngc 1 (fun x => x) Γ0) i = _
      rw [vw_cons, onz_len, if_neg (by omega)]
    omega
  refine ⟨⟨hB, rfl⟩, hC, fun b => ⟨fun j hj => ?_, ?_, ?_⟩, fun j hj => ?_, ?_, ?_⟩
  · have ls : (onz 0 (fun _ => 1 + 1) (2 + 1) (vlr b 1) (sfx Γ0 j)).length = j := by rw [onz_len, sfx_len (by omega)]
    exact kw_any (tbs1 b) _ (bnd Γ0 j) _ y (Nat.le_refl _) (by rw [ls]; exact okc_bnd' oc0 hj) (h0 j hj) y1 (fun i hi => by
      rw [ls] at hi
      rw [← onz_sub Γ0 j i (by omega) hi]
      exact lowr b i (by omega)) (hV _ (Or.inr (Or.inr ⟨j, hj, rfl⟩))).1
  · exact kw_any (tbs1 b) _ B _ y (Nat.le_refl _) (by rw [onz_len]; exact oB) hB56 y1 (fun i hi => lowr b i (by rw [onz_len] at hi; exact hi)) (hV _ (Or.inr (Or.inl rfl))).1
  · exact kw_any (tbs1 b) _ C _ y (Nat.le_refl _) (by rw [onz_len, List.length_cons]; exact oC) h56 y1 (fun i hi => hw b i (by rw [onz_len] at hi; exact hi)) (hV _ (Or.inl rfl)).1
  · have ls : (onz 1 ngc 1 (fun x => x) (sfx Γ0 j)).length = j := by rw [onz_len, sfx_len (by omega)]
    exact kw_any tbsq _ (bnd Γ0 j) _ yg (Nat.le_refl _) (by rw [ls]; exact okc_bnd' oc0 hj) (h0 j hj) g1 (fun i hi => by
      rw [ls] at hi
      rw [← onz_sub Γ0 j i (by omega) hi]
      exact lowg i (by omega)) (hV _ (Or.inr (Or.inr ⟨j, hj, rfl⟩))).2
  · exact kw_any tbsq _ B _ yg (Nat.le_refl _) (by rw [onz_len]; exact oB) hB56 g1 (fun i hi => lowg i (by rw [onz_len] at hi; exact hi)) (hV _ (Or.inr (Or.inl rfl))).2
  · exact kw_any tbsq _ C _ yg (Nat.le_refl _) (by rw [onz_len, List.length_cons]; exact oC) h56 g1 (fun i hi => hg i (by rw [onz_len] at hi; exact hi)) (hV _ (Or.inl rfl)).2
/-- so it may be replaced -/
theorem ov_any (hB : hd B < 16) (hC : hd C ≠ 0 ∧ hd C < 16) (hc : okc (tAll B C :: Γ0)) (y1 : 1 ≤ y) (g1 : 1 ≤ yg) (hB56 : tch B ≤ 56) (h56 : tch C ≤ 56) (h0 : ∀ j, j < Γ0.length → tch (bnd Γ0 j) ≤ 56) (hw : ∀ b j, j < (B :: Γ0).length → vw (onz 0 (fun _ => 1 + 1) (2 + 1) (vlr b 1) (B :: Γ0)) j ≤ y) (hg : ∀ j, j < (B :: Γ0).length → vw (onz 1 ngc 1 (fun x => x) (B :: Γ0)) j ≤ yg) (hV : ∀ k, (k = tch C ∨ k = tch B ∨ ∃ j, j < Γ0.length ∧ k = tch (bnd Γ0 j)) → (∀ p ∈ frg fr1 k, p.2 + p.1 * y ≤ 2 * n) ∧ ∀ p ∈ frg frq k, p.2 + p.1 * yg ≤ n + 3) (n1 : 1 ≤ n) : OVq 1 B C (Dch n) Γ0 := (hkv_any hB hC hc y1 g1 hB56 h56 h0 hw hg hV).ov (Dch_num (Nat.le_refl _) (Nat.le_refl _) (by omega) (by omega))
end PmVd
