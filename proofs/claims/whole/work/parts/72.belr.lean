/-! BELOW, by the forms of the two types. -/
section PmBel
variable {Γ : List Ty} {S T : Ty}
theorem bel_top (h : tok (Γ, S, T)) (e : hd T = 0) : bel Γ S T = true := by
  rw [bel_eq h]
  unfold stp
  rw [if_pos (Or.inl e)]; rfl
theorem bel_veq (h : tok (Γ, S, T)) (e1 : 16 ≤ hd S) (e2 : hd S = hd T) : bel Γ S T = true := by
  rw [bel_eq h]
  unfold stp
  rw [if_pos (Or.inr ⟨e1, e2⟩)]; rfl
theorem bel_var {k : Nat} (h : tok (Γ, tVar k, T)) (e0 : hd T ≠ 0) (e1 : 16 + k ≠ hd T) : bel Γ (tVar k) T = bel Γ (lft k (Γ.length - k) (bnd Γ k)) T := by
  rw [bel_eq h]
  unfold stp
  rw [if_neg (by rw [hd_var]; omega), if_pos (by rw [hd_var]; omega), hd_var, show 16 + k - 16 = k by omega]
  show ((bel Γ (lft k (Γ.length - k) (bnd Γ k)) T) && true) = _
  rw [Bool.and_true]
theorem bel_no (h : tok (Γ, S, T)) (e0 : hd T ≠ 0) (e1 : ¬ 16 ≤ hd S) (e2 : ¬ ((8 ≤ hd S ∧ hd S < 16) ∧ (8 ≤ hd T ∧ hd T < 16))) (e3 : hd S ≠ hd T) : bel Γ S T = false := by
  rw [bel_eq h]
  unfold stp
  rw [if_neg (by omega), if_neg e1, if_neg (by omega), if_pos (Or.inl e3)]
theorem bel_fun {a b a' b' : Ty} (h : tok (Γ, tFun a b, tFun a' b')) : bel Γ (tFun a b) (tFun a' b') = (bel Γ a' a && bel Γ b b') := by
  rw [bel_eq h]
  unfold stp
  rw [if_neg (by rw [hd_fun, hd_fun]; omega), if_neg (by rw [hd_fun]; omega), if_neg (by rw [hd_fun, hd_fun]; omega), if_neg (by rw [hd_fun, hd_fun]; omega), if_pos (hd_fun _ _)]
  show (bel Γ b b' && (bel Γ a' a && true)) = _
  rw [Bool.and_true, Bool.and_comm]
theorem bel_all {a b b' : Ty} (h : tok (Γ, tAll a b, tAll a b')) : bel Γ (tAll a b) (tAll a b') = bel (a :: Γ) b b' := by
  rw [bel_eq h]
  unfold stp
  rw [if_neg (by rw [hd_all, hd_all]; omega), if_neg (by rw [hd_all]; omega), if_neg (by rw [hd_all, hd_all]; omega), if_neg (by rw [hd_all, hd_all]; omega), if_neg (by rw [hd_all]; omega), if_pos (show flat (k1 (tAll a b)) = flat (k1 (tAll a b')) from rfl)]
  show (bel (a :: Γ) b b' && true) = _
  rw [Bool.and_true]
theorem bel_alln {a b a' b' : Ty} (h : tok (Γ, tAll a b, tAll a' b')) (hn : ¬ flat a = flat a') : bel Γ (tAll a b) (tAll a' b') = false := by
  rw [bel_eq h]
  unfold stp
  rw [if_neg (by rw [hd_all, hd_all]; omega), if_neg (by rw [hd_all]; omega), if_neg (by rw [hd_all, hd_all]; omega), if_neg (by rw [hd_all, hd_all]; omega), if_neg (by rw [hd_all]; omega)]
  have : ¬ flat (k1 (tAll a b)) = flat (k1 (tAll a' b')) := hn
  rw [if_neg this]
theorem sub_bits : ∀ m, m < 8 → ∀ m', m' < 8 → ((m &&& m' = m') ↔ ((bit m' 0 = true → bit m 0 = true) ∧ (bit m' 1 = true → bit m 1 = true) ∧ (bit m' 2 = true → bit m 2 = true))) := by decide
theorem stl_all {m g : Nat} {x y : Ty} : (stl Γ m g x y).all belz = (!bit m g || bel Γ x y) := by
  unfold stl
  by_cases h : bit m g = true
  · rw [if_pos h, h]
    show (bel Γ x y && true) = _
    simp
  · rw [if_neg h]
    have : bit m g = false := by simpa using h
    rw [this]; rfl
theorem bel_rec {m m' : Nat} {x y z x' y' z' : Ty} (hm : m < 8) (hm' : m' < 8) (h : tok (Γ, tRec m x y z, tRec m' x' y' z')) : bel Γ (tRec m x y z) (tRec m' x' y' z') = true ↔ ∀ g, g < 3 → hp (tRec m' x' y' z') g = true → hp (tRec m x y z) g = true ∧ bel Γ (pt (tRec m x y z) g) (pt (tRec m' x' y' z') g) = true := by
  obtain ⟨p0, p1, p2⟩ := pt_rec hm x y z
  obtain ⟨q0, q1, q2⟩ := pt_rec hm' x' y' z'
  have hps := hp_rec hm x y z
  have hpt := hp_rec hm' x' y' z'
  rw [bel_eq h]
  unfold stp
  rw [if_neg (by rw [hd_rec, hd_rec]; omega), if_neg (by rw [hd_rec]; omega), if_pos (by rw [hd_rec, hd_rec]; omega), hd_rec, hd_rec, show 8 + m - 8 = m by omega, show 8 + m' - 8 = m' by omega]
  have sbits := sub_bits m hm m' hm'
  by_cases hs : m &&& m' = m'
  · rw [if_pos hs]
    obtain ⟨b0, b1, b2⟩ := sbits.mp hs
    show ((stl Γ m' 2 z z' ++ (stl Γ m' 1 y y' ++ stl Γ m' 0 x x')).all belz = true) ↔ _
    rw [List.all_append, List.all_append, stl_all, stl_all, stl_all]
    simp only [Bool.and_eq_true, Bool.or_eq_true, Bool.not_eq_true']
    constructor
    · rintro ⟨a2, a1, a0⟩ g hg hb
      rcases (show g = 0 ∨ g = 1 ∨ g = 2 by omega) with rfl | rfl | rfl
      · rw [hpt 0 hg] at hb
        rw [hps 0 hg, p0, q0]
        refine ⟨b0 hb, ?_⟩
        rcases a0 with e | e
        · rw [hb] at e; cases e
        · exact e
      · rw [hpt 1 hg] at hb
        rw [hps 1 hg, p1, q1]
        refine ⟨b1 hb, ?_⟩
        rcases a1 with e | e
        · rw [hb] at e; cases e
        · exact e
      · rw [hpt 2 hg] at hb
        rw [hps 2 hg, p2, q2]
        refine ⟨b2 hb, ?_⟩
        rcases a2 with e | e
        · rw [hb] at e; cases e
        · exact e
    · intro H
      refine ⟨?_, ?_, ?_⟩
      · by_cases hb : bit m' 2 = true
        · have := (H 2 (by decide) (by rw [hpt 2 (by decide)]; exact hb)).2
          rw [p2, q2] at this
          exact Or.inr this
        · exact Or.inl (by simpa using hb)
      · by_cases hb : bit m' 1 = true
        · have := (H 1 (by decide) (by rw [hpt 1 (by decide)]; exact hb)).2
          rw [p1, q1] at this
          exact Or.inr this
        · exact Or.inl (by simpa using hb)
      · by_cases hb : bit m' 0 = true
        · have := (H 0 (by decide) (by rw [hpt 0 (by decide)]; exact hb)).2
          rw [p0, q0] at this
          exact Or.inr this
        · exact Or.inl (by simpa using hb)
  · rw [if_neg hs]
    constructor
    · intro e; cases e
    · intro H
      exfalso
      refine hs (sbits.mpr ⟨fun hb => ?_, fun hb => ?_, fun hb => ?_⟩)
      · have := (H 0 (by decide) (by rw [hpt 0 (by decide)]; exact hb)).1
        rwa [hps 0 (by decide)] at this
      · have := (H 1 (by decide) (by rw [hpt 1 (by decide)]; exact hb)).1
        rwa [hps 1 (by decide)] at this
      · have := (H 2 (by decide) (by rw [hpt 2 (by decide)]; exact hb)).1
        rwa [hps 2 (by decide)] at this
end PmBel
/-- heights of parts -/
theorem hgt_pt {d : Nat} {t : Ty} (h : ok d t = true) (ω : List Nat) (hv : hd t < 16) (h2 : hd t ≠ 2) {g : Nat} (hg : g < 3) (hb : hp t g = true) : hgt ω (pt t g) + 1 ≤ hgt ω t := by
  rcases ok_cases h with rfl | ⟨v, -, rfl⟩ | ⟨x, y, rfl, -, -⟩ | ⟨x, y, rfl, -, -⟩ | ⟨m, x, y, z, hm, rfl, -, -, -⟩
  · rw [hp_top g hg] at hb; cases hb
  · rw [hd_var] at hv; omega
  · rw [hgt_fun]
    rcases (show g = 0 ∨ g = 1 ∨ g = 2 by omega) with rfl | rfl | rfl
    · rw [(pt_fun x y).1]; omega
    · rw [(pt_fun x y).2.1]; omega
    · rw [(hp_fun x y).2.2] at hb; cases hb
  · rw [hd_all] at h2; omega
  · rw [hgt_rec]
    obtain ⟨p0, p1, p2⟩ := pt_rec hm x y z
    rcases (show g = 0 ∨ g = 1 ∨ g = 2 by omega) with rfl | rfl | rfl
    · rw [p0]; omega
    · rw [p1]; omega
    · rw [p2]; omega
