/-! WHAT A HEAD IS WORTH, EXACTLY: the scheme that is cut, and the others. -/
def Eh (X7 EA p pb EB p2 : Nat) (π : Stk) : Nat := if hs π = true then max X7 (max (EA + (if cnS π ≤ 1 then p else pb) * zm π) (EB + p2 * zm π)) else X7
def hdh (X7 EA p EB p2 : Nat) (Z : Nat → Nat) (s : Nat) : Nat := max X7 (max (EA + p * Z s) (EB + p2 * Z s))
section PmS6
variable {t0 s2 X7 EA p pb EB p2 : Nat} {n1 h : Nat → Nat} {Z : Nat → Nat}
theorem hs_tail (q : Option Nat) (ρ : Stk) (e : hs ρ = true) : hs (q :: ρ) = true := by
  cases q with
  | none => exact e
  | some z => rfl
theorem Eh_0 (ρ : Stk) : X7 ≤ Eh X7 EA p pb EB p2 ρ := by
  unfold Eh
  split
  · exact Nat.le_max_left _ _
  · exact Nat.le_refl _
theorem Eh_n (ρ : Stk) (e : hs ρ = false) : Eh X7 EA p pb EB p2 ρ ≤ X7 := by
  unfold Eh
  rw [if_neg (by rw [e]; decide)]
  exact Nat.le_refl _
theorem Eh_B (ρ : Stk) (e : hs ρ = true) : EB + p2 * zm ρ ≤ Eh X7 EA p pb EB p2 ρ := by
  unfold Eh
  rw [if_pos e]
  exact Nat.le_trans (Nat.le_max_right _ _) (Nat.le_max_right _ _)
theorem Eh_A (hp : p ≤ pb) (ρ : Stk) (e : hs ρ = true) : EA + p * zm ρ ≤ Eh X7 EA p pb EB p2 ρ := by
  unfold Eh
  rw [if_pos e]
  refine Nat.le_trans (Nat.add_le_add_left (Nat.mul_le_mul_right _ ?_) _) (Nat.le_trans (Nat.le_max_left _ _) (Nat.le_max_right _ _))
  split <;> omega
theorem Eh_1 (ρ : Stk) (s : Nat) (c : cnS ρ ≤ 1) (e : hs ρ = true) (hz : zm ρ ≤ Z s) : Eh X7 EA p pb EB p2 ρ ≤ hdh X7 EA p EB p2 Z s := by
  unfold Eh hdh
  rw [if_pos e, if_pos c]
  have q1 := Nat.mul_le_mul_left p hz
  have q2 := Nat.mul_le_mul_left p2 hz
  omega
theorem Eh_m (hp : p ≤ pb) (q : Option Nat) (ρ : Stk) : Eh X7 EA p pb EB p2 ρ ≤ Eh X7 EA p pb EB p2 (q :: ρ) := by
  by_cases e : hs ρ = true
  · have e2 := hs_tail q ρ e
    unfold Eh
    rw [if_pos e, if_pos e2]
    have h1 := cnS_tail q ρ
    have h2 := zm_tail q ρ
    have q2 := Nat.mul_le_mul_left p2 h2
    have q1 : (if cnS ρ ≤ 1 then p else pb) * zm ρ ≤ (if cnS (q :: ρ) ≤ 1 then p else pb) * zm (q :: ρ) := by
      refine Nat.mul_le_mul ?_ h2
      by_cases c : cnS (q :: ρ) ≤ 1
      · rw [if_pos c, if_pos (by omega)]; exact Nat.le_refl _
      · rw [if_neg c]
        split <;> omega
    omega
  · exact Nat.le_trans (Eh_n ρ (by simpa using e)) (Eh_0 _)
/-- a text of which nothing is bound, or that has few leaves -/
theorem vz_lh (hp : p ≤ pb) (hm : ∀ y y', y ≤ y' → h y ≤ h y') (hh : ∀ y δ, h (y + δ) ≤ h y + δ) {t : Ty} {ω : List Nat} (o : ok ω.length t = true) (hv : nz t0 n1 s2 h ω t ≤ X7) (hl : nsch t = true ∨ (nz t0 n1 s2 h ω t ≤ EB ∧ flv t ≤ p2)) (ρ : Stk) : vz t0 n1 s2 h (Eh X7 EA p pb EB p2) t ρ ω ≤ Eh X7 EA p pb EB p2 ρ := by
  have q1 := vz_upE (t0 := t0) (n1 := n1) (s2 := s2) (h := h) (E := Eh X7 EA p pb EB p2) (Eh_m hp) hm _ t ρ ω (Nat.le_refl _) o
  have q0 := Eh_0 (X7 := X7) (EA := EA) (p := p) (pb := pb) (EB := EB) (p2 := p2) ρ
  rcases hl with e | ⟨e1, e2⟩
  · rw [nz_nsch _ t ω (Nat.le_refl _) o e] at q1
    omega
  · by_cases c : hs ρ = true
    · have q2 := nz_flv (t0 := t0) (n1 := n1) (s2 := s2) hm hh (z := zm ρ) _ t ω ω (zm ρ) (Nat.le_refl _) rfl o (Nat.le_refl _) (fun j _ => by omega)
      have q3 := Nat.mul_le_mul_right (zm ρ) e2
      have q4 := Eh_B (X7 := X7) (EA := EA) (p := p) (pb := pb) (EB := EB) (p2 := p2) ρ c
      omega
    · rw [zm_hs ρ (by simpa using c), show hzx h 0 = h from hzx_0] at q1
      omega
/-- the scheme that is cut -/
theorem vz_sh (hp : p ≤ pb) (hm : ∀ y y', y ≤ y' → h y ≤ h y') (hh : ∀ y δ, h (y + δ) ≤ h y + δ) {B C : Ty} {ω : List Nat} (o : ok ω.length (tAll B C) = true) (hv : nz t0 n1 s2 h ω (tAll B C) ≤ EA) (hpb : flv (tAll B C) ≤ pb) (hz : ∀ z, nz t0 n1 s2 h (hzx h z (nz t0 n1 s2 h ω B) :: ω) C ≤ EA + p * z) (ρ : Stk) (hρ : ρ ≠ []) : vz t0 n1 s2 h (Eh X7 EA p pb EB p2) (tAll B C) ρ ω ≤ Eh X7 EA p pb EB p2 ρ := by
  cases ρ with
  | nil => exact absurd rfl hρ
  | cons q ρ =>
    cases q with
    | none => rw [vz_allN]; exact Nat.zero_le _
    | some z =>
      by_cases c : cnS ρ = 0
      · rw [vz_allS]
        have oC := (ok_all.mp o).2
        have q1 := vz_upE (t0 := t0) (n1 := n1) (s2 := s2) (h := h) (E := Eh X7 EA p pb EB p2) (Eh_m hp) hm _ C ρ (hzx h z (nz t0 n1 s2 h ω B) :: ω) (Nat.le_refl _) (by rw [List.length_cons]; exact oC)
        rw [cnS_zm ρ c, show hzx h 0 = h from hzx_0] at q1
        have q2 := hz z
        have q3 := Eh_m (X7 := X7) (EA := EA) (EB := EB) (p2 := p2) hp (some z) ρ
        have e1 : zm (some z :: ρ) = z := by
          show max z (zm ρ) = z
          rw [cnS_zm ρ c]; exact Nat.max_eq_left (Nat.zero_le _)
        have q4 := Eh_A (X7 := X7) (EA := EA) (EB := EB) (p2 := p2) hp (some z :: ρ) rfl
        rw [e1] at q4
        omega
      · have q1 := vz_upE (t0 := t0) (n1 := n1) (s2 := s2) (h := h) (E := Eh X7 EA p pb EB p2) (Eh_m hp) hm _ (tAll B C) (some z :: ρ) ω (Nat.le_refl _) o
        have q2 := nz_flv (t0 := t0) (n1 := n1) (s2 := s2) hm hh (z := zm (some z :: ρ)) _ (tAll B C) ω ω (zm (some z :: ρ)) (Nat.le_refl _) rfl o (Nat.le_refl _) (fun j _ => by omega)
        have q3 := Nat.mul_le_mul_right (zm (some z :: ρ)) hpb
        have q4 : EA + pb * zm (some z :: ρ) ≤ Eh X7 EA p pb EB p2 (some z :: ρ) := by
          unfold Eh
          rw [if_pos (show hs (some z :: ρ) = true from rfl), if_neg (by show ¬ cnS ρ + 1 ≤ 1; omega)]
          exact Nat.le_trans (Nat.le_max_left _ _) (Nat.le_max_right _ _)
        omega
/-- the bounds of the context -/
def BEh (t0 : Nat) (n1 : Nat → Nat) (s2 : Nat) (h : Nat → Nat) (X7 EA p pb EB p2 : Nat) : List Ty → List Nat → Prop
  | [], [] => True
  | b :: Γ, _ :: ω => ((nz t0 n1 s2 h ω b ≤ X7 ∧ (nsch b = true ∨ (nz t0 n1 s2 h ω b ≤ EB ∧ flv b ≤ p2))) ∨ ∃ B C, b = tAll B C ∧ nz t0 n1 s2 h ω b ≤ EA ∧ flv b ≤ pb ∧ ∀ z, nz t0 n1 s2 h (hzx h z (nz t0 n1 s2 h ω B) :: ω) C ≤ EA + p * z) ∧ BEh t0 n1 s2 h X7 EA p pb EB p2 Γ ω
  | _, _ => False
theorem BEh.he (hp : p ≤ pb) (hm : ∀ y y', y ≤ y' → h y ≤ h y') (hh : ∀ y δ, h (y + δ) ≤ h y + δ) : ∀ {Γ : List Ty} {ω : List Nat}, okc Γ → ω.length = Γ.length → BEh t0 n1 s2 h X7 EA p pb EB p2 Γ ω → HEk t0 n1 s2 h (Eh X7 EA p pb EB p2) Γ ω
  | [], [], _, _, _ => trivial
  | b :: Γ, w :: ω, hc, hl, hb => by
    have hl' : ω.length = Γ.length := by simpa using hl
    have ob : ok ω.length b = true := by rw [hl']; exact hc.1
    refine ⟨fun ρ hρ => ?_, BEh.he hp hm hh hc.2 hl' hb.2⟩
    rcases hb.1 with ⟨h1, h2⟩ | ⟨B, C, e, h1, h2, h3⟩
    · exact vz_lh hp hm hh ob h1 h2 ρ
    · subst e
      exact vz_sh hp hm hh ob h1 h2 h3 ρ hρ
  | [], _ :: _, _, _, hb => hb.elim
  | _ :: _, [], _, _, hb => hb.elim
end PmS6
