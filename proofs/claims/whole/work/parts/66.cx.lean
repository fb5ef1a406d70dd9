/-! THE CLASS: what a call keeps while nodes are made. -/
def CX (W : Nat → Int → Prop) (M : pm_M) (Rf : Nat → Nat → Nat) (K L : Nat → Nat) (n s z : Nat) (cn : Int) (M' : pm_M) (Rf' : Nat → Nat → Nat) (K' L' : Nat → Nat) (n' s' z' : Nat) : Prop := pm_G Rf' K' L' n' ∧ RmI Rf' K' L' n' z' ∧ n ≤ n' ∧ z ≤ z' ∧ n' + z ≤ n + z' ∧ s' = s + 10 * (z' - z) ∧ (∀ p, p ≤ n → K' p = K p ∧ L' p = L p) ∧ (∀ p, p ≤ n → ∀ g, ¬ (p = 6 ∧ g < 5) → Rf' p g = Rf p g) ∧ (∀ g, g < 5 → Rf' 6 g = Rf 6 g ∨ n < Rf' 6 g) ∧ (∀ p, p ≤ n → (∀ g, g < 5 → p ≠ Rf 6 g) → ∀ i, ¬ W p i → M' p i = M p i) ∧ (∀ g, g < 5 → ∀ i : Int, 0 ≤ i → i < cn → M' (Rf' 6 g) i = M (Rf 6 g) i) ∧ ∀ p i, R32 (M' p i)
section PmCX
variable {W W' : Nat → Int → Prop} {M : pm_M} {Rf : Nat → Nat → Nat} {K L : Nat → Nat} {n s z : Nat} {cn : Int} {M' : pm_M} {Rf' : Nat → Nat → Nat} {K' L' : Nat → Nat} {n' s' z' : Nat} {M2 : pm_M} {R2 : Nat → Nat → Nat} {K2 L2 : Nat → Nat} {n2 s2 z2 : Nat} {cn2 : Int}
theorem CX.g (h : CX W M Rf K L n s z cn M' Rf' K' L' n' s' z') : pm_G Rf' K' L' n' := h.1
theorem CX.r (h : CX W M Rf K L n s z cn M' Rf' K' L' n' s' z') : RmI Rf' K' L' n' z' := h.2.1
theorem CX.zz (h : CX W M Rf K L n s z cn M' Rf' K' L' n' s' z') : z ≤ z' := h.2.2.2.1
theorem CX.mem (h : CX W M Rf K L n s z cn M' Rf' K' L' n' s' z') : ∀ p, p ≤ n → (∀ g, g < 5 → p ≠ Rf 6 g) → ∀ i, ¬ W p i → M' p i = M p i := h.2.2.2.2.2.2.2.2.2.1
theorem CX.nodes (h : CX W M Rf K L n s z cn M' Rf' K' L' n' s' z') : ∀ g, g < 5 → ∀ i : Int, 0 ≤ i → i < cn → M' (Rf' 6 g) i = M (Rf 6 g) i := h.2.2.2.2.2.2.2.2.2.2.1
theorem CX.r32 (h : CX W M Rf K L n s z cn M' Rf' K' L' n' s' z') : ∀ p i, R32 (M' p i) := h.2.2.2.2.2.2.2.2.2.2.2
theorem CX.refl (hG : pm_G Rf K L n) (hR : RmI Rf K L n z) (hM : ∀ p i, R32 (M p i)) : CX W M Rf K L n s z cn M Rf K L n s z :=
  ⟨hG, hR, Nat.le_refl _, Nat.le_refl _, Nat.le_refl _, by omega, fun _ _ => ⟨rfl, rfl⟩, fun _ _ _ _ => rfl, fun _ _ => Or.inl rfl, fun _ _ _ _ _ => rfl, fun _ _ _ _ _ => rfl, hM⟩
theorem CX.weak (h : CX W M Rf K L n s z cn M' Rf' K' L' n' s' z') (hW : ∀ p i, W p i → W' p i) : CX W' M Rf K L n s z cn M' Rf' K' L' n' s' z' := by
  obtain ⟨h1, h2, h3, h4, h5, h6, h7, h8, h9, h10, h11, h12⟩ := h
  exact ⟨h1, h2, h3, h4, h5, h6, h7, h8, h9, fun p hp hg i hw => h10 p hp hg i (fun e => hw (hW p i e)), h11, h12⟩
theorem CX.trans (h : CX W M Rf K L n s z cn M' Rf' K' L' n' s' z') (h' : CX W M' Rf' K' L' n' s' z' cn2 M2 R2 K2 L2 n2 s2 z2) (hc : cn ≤ cn2) : CX W M Rf K L n s z cn M2 R2 K2 L2 n2 s2 z2 := by
  obtain ⟨h1, h2, h3, h4, h5, h6, h7, h8, h9, h10, h11, h12⟩ := h
  obtain ⟨q1, q2, q3, q4, q5, q6, q7, q8, q9, q10, q11, q12⟩ := h'
  refine ⟨q1, q2, by omega, by omega, by omega, by omega, fun p hp => ?_, fun p hp g hg => ?_, fun g hg => ?_, fun p hp hg i hw => ?_, fun g hg i i0 i1 => ?_, q12⟩
  · have a := q7 p (by omega)
    have b := h7 p hp
    exact ⟨a.1.trans b.1, a.2.trans b.2⟩
  · rw [q8 p (by omega) g hg, h8 p hp g hg]
  · rcases q9 g hg with e | e
    · rcases h9 g hg with e' | e'
      · exact Or.inl (e.trans e')
      · exact Or.inr (by rw [e]; exact e')
    · exact Or.inr (by omega)
  · rw [q10 p (by omega) (fun g hg2 => ?_) i hw, h10 p hp hg i hw]
    rcases h9 g hg2 with e | e
    · rw [e]; exact hg g hg2
    · omega
  · rw [q11 g hg i i0 (by omega), h11 g hg i i0 i1]
theorem CX.set (h : CX W M Rf K L n s z cn M' Rf' K' L' n' s' z') {p : Nat} {i v : Int} (hp : ∀ g, g < 5 → p ≠ Rf' 6 g) (hw : W p i) (hv : R32 v) : CX W M Rf K L n s z cn (mset M' p i v) Rf' K' L' n' s' z' := by
  obtain ⟨h1, h2, h3, h4, h5, h6, h7, h8, h9, h10, h11, h12⟩ := h
  refine ⟨h1, h2, h3, h4, h5, h6, h7, h8, h9, fun q hq hg j hj => ?_, fun g hg j j0 j1 => ?_, mset_R32 h12 hv⟩
  · unfold mset
    rw [if_neg (fun e => hj (by rw [e.1, e.2]; exact hw))]
    exact h10 q hq hg j hj
  · rw [mset_p _ _ _ _ (Ne.symm (hp g hg))]
    exact h11 g hg j j0 j1
theorem MK.cx {c : Nat} {x y w : Int} (h : MK M Rf K L n s z c cn x y w M' Rf' K' L' n' s' z') : CX (fun p i => p = 6 ∧ i = 6) M Rf K L n s z cn M' Rf' K' L' n' s' z' := by
  obtain ⟨⟨h1, h2, h3, h4, h5, h6, h7, h8, h9, h10, h11, h12⟩, -, -, -, -, -, -, -, e12⟩ := h
  refine ⟨h1, h2, h3, h4, h5, h6, h7, h8, h9, fun p hp hg i hw => ?_, h11, h12⟩
  by_cases e : p = 12
  · subst e; exact e12 i
  · exact h10 p hp hg i hw e
end PmCX
/-- codes that lie one after another from there on -/
def ccI (c : Int) : Int := (cc c.toNat : Int)
def KC (M : pm_M) (kc : Nat) : Int → List Int → Prop
  | _, [] => True
  | j, c :: l => M kc j = ccI c ∧ KC M kc (j + 1) l
theorem KC.app {M : pm_M} {kc : Nat} : ∀ {a b : List Int} {j : Int}, KC M kc j (a ++ b) ↔ KC M kc j a ∧ KC M kc (j + a.length) b
  | [], b, j => by simp [KC]
  | c :: a, b, j => by
    show M kc j = ccI c ∧ KC M kc (j + 1) (a ++ b) ↔ (M kc j = ccI c ∧ KC M kc (j + 1) a) ∧ KC M kc (j + ((a.length + 1 : Nat) : Int)) b
    rw [KC.app, show j + 1 + (a.length : Int) = j + ((a.length + 1 : Nat) : Int) by omega, and_assoc]
theorem KC.same {M M' : pm_M} {kc : Nat} (e : ∀ i, M' kc i = M kc i) : ∀ {l : List Int} {j : Int}, KC M kc j l → KC M' kc j l
  | [], _, _ => trivial
  | c :: l, j, h => ⟨by rw [e]; exact h.1, KC.same e h.2⟩
theorem flat_pts {d : Nat} {t : Ty} (h : ok d t = true) : flat t = (hd t : Int) :: (flat (pt t 0) ++ (flat (pt t 1) ++ flat (pt t 2))) := by
  rcases ok_cases h with rfl | ⟨k, -, rfl⟩ | ⟨a, b, rfl, ha, hb⟩ | ⟨a, b, rfl, ha, hb⟩ | ⟨m, x, y, z, hm, rfl, h0, h1, h2⟩
  · rfl
  · have e : ∀ g, pt (tVar k) g = .nil := fun g => by
      unfold pt
      rw [hd_var, if_neg (by omega), if_neg (by omega)]
    rw [e 0, e 1, e 2]; rfl
  · rw [(pt_fun a b).1, (pt_fun a b).2.1, (pt_fun a b).2.2, flat_fun, hd_fun]
    simp [flat]
  · rw [(pt_all a b).1, (pt_all a b).2.1, (pt_all a b).2.2, flat_all, hd_all]
    simp [flat]
  · rw [(pt_rec hm x y z).1, (pt_rec hm x y z).2.1, (pt_rec hm x y z).2.2, flat_rec, hd_rec]
theorem pt_none {d : Nat} {t : Ty} (h : ok d t = true) {g : Nat} (hg : g < 3) (hb : ¬ hp t g = true) : flat (pt t g) = [] := by
  rcases ok_cases h with rfl | ⟨k, -, rfl⟩ | ⟨a, b, rfl, ha, hb'⟩ | ⟨a, b, rfl, ha, hb'⟩ | ⟨m, x, y, z, hm, rfl, h0, h1, h2⟩
  · rcases (show g = 0 ∨ g = 1 ∨ g = 2 by omega) with rfl | rfl | rfl <;> rfl
  · have e : pt (tVar k) g = .nil := by
      unfold pt
      rw [hd_var, if_neg (by omega), if_neg (by omega)]
    rw [e]; rfl
  · rcases (show g = 0 ∨ g = 1 ∨ g = 2 by omega) with rfl | rfl | rfl
    · exact absurd (hp_fun a b).1 hb
    · exact absurd (hp_fun a b).2.1 hb
    · rfl
  · rcases (show g = 0 ∨ g = 1 ∨ g = 2 by omega) with rfl | rfl | rfl
    · exact absurd (hp_all a b).1 hb
    · exact absurd (hp_all a b).2.1 hb
    · rfl
  · rw [hp_rec hm x y z g hg] at hb
    rcases (show g = 0 ∨ g = 1 ∨ g = 2 by omega) with rfl | rfl | rfl
    · rw [(pt_rec hm x y z).1]; exact okl_off h0 (fun e => hb (bit_iff.mpr e))
    · rw [(pt_rec hm x y z).2.1]; exact okl_off h1 (fun e => hb (bit_iff.mpr e))
    · rw [(pt_rec hm x y z).2.2]; exact okl_off h2 (fun e => hb (bit_iff.mpr e))
/-- a kept type's object and its row of codes -/
def KO (kp kc : Nat) : Prop := (1 ≤ kp ∧ kp < 100) ∧ (1 ≤ kc ∧ kc < 100) ∧ pm_KT.getD kp 0 = 11 ∧ pm_KT.getD kc 0 = 0 ∧ pm_LT.getD kc 0 = 16 ∧ (kp, 0, kc) ∈ pm_RT ∧ (kp < 6 ∨ 12 < kp) ∧ (kc < 6 ∨ 12 < kc) ∧ kp ≠ kc
theorem KO_4 : KO 4 5 := by unfold KO; decide +kernel
theorem KO_30 : KO 30 31 := by unfold KO; decide +kernel
theorem KO_32 : KO 32 33 := by unfold KO; decide +kernel
theorem KO_34 : KO 34 35 := by unfold KO; decide +kernel
theorem KO_36 : KO 36 37 := by unfold KO; decide +kernel
theorem KO.far {kp kc z : Nat} {Rf : Nat → Nat → Nat} {K L : Nat → Nat} {n : Nat} (h : KO kp kc) (hR : RmI Rf K L n z) : (∀ g, g < 5 → kp ≠ Rf 6 g) ∧ (∀ g, g < 5 → kc ≠ Rf 6 g) := by
  obtain ⟨⟨a1, a2⟩, ⟨b1, b2⟩, -, -, -, -, h1, h2, -⟩ := h
  refine ⟨fun g hg e => ?_, fun g hg e => ?_⟩
  · have := hR.2.1 g hg
    omega
  · have := hR.2.1 g hg
    omega
