/-! TERMS IN A CONTEXT THAT IS CUT, OPERATIONS WAITING. -/
section PmR2
variable {t0 s2 E0 p : Nat} {n1 h : Nat → Nat} {E : Stk → Nat} {Z : Nat → Nat}
theorem vz_bdE (hEm : ∀ q ρ, E ρ ≤ E (q :: ρ)) (hEl : ∀ ρ, E0 + p * zm ρ ≤ E ρ) (hm : ∀ y y', y ≤ y' → h y ≤ h y') (hh : ∀ y δ, h (y + δ) ≤ h y + δ) {t : Ty} {ω : List Nat} (o : ok ω.length t = true) (hv : nz t0 n1 s2 h ω t ≤ E0) (hp : flv t ≤ p) (ρ : Stk) : vz t0 n1 s2 h E t ρ ω ≤ E ρ := by
  have q1 := vz_upE (t0 := t0) (n1 := n1) (s2 := s2) hEm hm _ t ρ ω (Nat.le_refl _) o
  have q2 := nz_flv (t0 := t0) (n1 := n1) (s2 := s2) hm hh (z := zm ρ) _ t ω ω (zm ρ) (Nat.le_refl _) rfl o (Nat.le_refl _) (fun j _ => by omega)
  have q3 := Nat.mul_le_mul_right (zm ρ) hp
  have q4 := hEl ρ
  omega
theorem vz_bnE (hEm : ∀ q ρ, E ρ ≤ E (q :: ρ)) (hEl : ∀ ρ, E0 + p * zm ρ ≤ E ρ) (hm : ∀ y y', y ≤ y' → h y ≤ h y') {t : Ty} {ω : List Nat} (o : ok ω.length t = true) (hv : nz t0 n1 s2 h ω t ≤ E0) (hp : nsch t = true) (ρ : Stk) : vz t0 n1 s2 h E t ρ ω ≤ E ρ := by
  have q1 := vz_upE (t0 := t0) (n1 := n1) (s2 := s2) hEm hm _ t ρ ω (Nat.le_refl _) o
  rw [nz_nsch _ t ω (Nat.le_refl _) o hp] at q1
  have q4 := hEl ρ
  omega
variable {hb : Nat} {B C : Ty} {Γ0 : List Ty}
end PmR2
/-- what is exposed: one argument counts p times, several pb times -/
def Ec (E0 p pb : Nat) (π : Stk) : Nat := E0 + (if cnS π ≤ 1 then p else pb) * zm π
section PmR3
variable {t0 s2 E0 p pb : Nat} {n1 h : Nat → Nat}
theorem cnS_tail (q : Option Nat) (ρ : Stk) : cnS ρ ≤ cnS (q :: ρ) := by
  cases q with
  | none => exact Nat.le_refl _
  | some z => exact Nat.le_succ _
theorem Ec_m (hp : p ≤ pb) (q : Option Nat) (ρ : Stk) : Ec E0 p pb ρ ≤ Ec E0 p pb (q :: ρ) := by
  unfold Ec
  have h1 := cnS_tail q ρ
  have h2 := zm_tail q ρ
  refine Nat.add_le_add_left (Nat.mul_le_mul ?_ h2) _
  by_cases c : cnS (q :: ρ) ≤ 1
  · rw [if_pos c, if_pos (by omega)]; exact Nat.le_refl _
  · rw [if_neg c]
    split <;> omega
theorem Ec_l (hp : p ≤ pb) (ρ : Stk) : E0 + p * zm ρ ≤ Ec E0 p pb ρ := by
  unfold Ec
  refine Nat.add_le_add_left (Nat.mul_le_mul_right _ ?_) _
  split <;> omega
theorem cnS_zm : ∀ ρ : Stk, cnS ρ = 0 → zm ρ = 0
  | [], _ => rfl
  | none :: ρ, e => cnS_zm ρ e
  | some z :: ρ, e => by
    have : cnS ρ + 1 = 0 := e
    omega
/-- a scheme whose variable counts p times -/
theorem vz_sch (hp : p ≤ pb) (hm : ∀ y y', y ≤ y' → h y ≤ h y') (hh : ∀ y δ, h (y + δ) ≤ h y + δ) {B C : Ty} {ω : List Nat} (o : ok ω.length (tAll B C) = true) (hv : nz t0 n1 s2 h ω (tAll B C) ≤ E0) (hpb : flv (tAll B C) ≤ pb) (hz : ∀ z, nz t0 n1 s2 h (hzx h z (nz t0 n1 s2 h ω B) :: ω) C ≤ E0 + p * z) (ρ : Stk) (hρ : ρ ≠ []) : vz t0 n1 s2 h (Ec E0 p pb) (tAll B C) ρ ω ≤ Ec E0 p pb ρ := by
  cases ρ with
  | nil => exact absurd rfl hρ
  | cons q ρ =>
    cases q with
    | none => rw [vz_allN]; exact Nat.zero_le _
    | some z =>
      by_cases c : cnS ρ = 0
      · rw [vz_allS]
        have oC := (ok_all.mp o).2
        have q1 := vz_upE (t0 := t0) (n1 := n1) (s2 := s2) (h := h) (E := Ec E0 p pb) (Ec_m hp) hm _ C ρ (hzx h z (nz t0 n1 s2 h ω B) :: ω) (Nat.le_refl _) (by rw [List.length_cons]; exact oC)
        rw [cnS_zm ρ c, show hzx h 0 = h from hzx_0] at q1
        have q2 := hz z
        have q3 := Ec_m (E0 := E0) (p := p) (pb := pb) hp (some z) ρ
        have e1 : zm (some z :: ρ) = z := by
          show max z (zm ρ) = z
          rw [cnS_zm ρ c]; exact Nat.max_eq_left (Nat.zero_le _)
        have q4 := Ec_l (E0 := E0) hp (some z :: ρ)
        rw [e1] at q4
        omega
      · have q1 := vz_upE (t0 := t0) (n1 := n1) (s2 := s2) (h := h) (E := Ec E0 p pb) (Ec_m hp) hm _ (tAll B C) (some z :: ρ) ω (Nat.le_refl _) o
        have q2 := nz_flv (t0 := t0) (n1 := n1) (s2 := s2) hm hh (z := zm (some z :: ρ)) _ (tAll B C) ω ω (zm (some z :: ρ)) (Nat.le_refl _) rfl o (Nat.le_refl _) (fun j _ => by omega)
        have q3 := Nat.mul_le_mul_right (zm (some z :: ρ)) hpb
        have q4 : Ec E0 p pb (some z :: ρ) = E0 + pb * zm (some z :: ρ) := by
          unfold Ec
          rw [if_neg (by show ¬ cnS ρ + 1 ≤ 1; omega)]
        omega
/-- the bounds of the context: light, or such a scheme -/
def BEc (t0 : Nat) (n1 : Nat → Nat) (s2 : Nat) (h : Nat → Nat) (E0 p pb : Nat) : List Ty → List Nat → Prop
  | [], [] => True
  | b :: Γ, _ :: ω => ((nz t0 n1 s2 h ω b ≤ E0 ∧ (nsch b = true ∨ flv b ≤ p)) ∨ ∃ B C, b = tAll B C ∧ nz t0 n1 s2 h ω b ≤ E0 ∧ flv b ≤ pb ∧ ∀ z, nz t0 n1 s2 h (hzx h z (nz t0 n1 s2 h ω B) :: ω) C ≤ E0 + p * z) ∧ BEc t0 n1 s2 h E0 p pb Γ ω
  | _, _ => False
theorem BEc.he (hp : p ≤ pb) (hm : ∀ y y', y ≤ y' → h y ≤ h y') (hh : ∀ y δ, h (y + δ) ≤ h y + δ) : ∀ {Γ : List Ty} {ω : List Nat}, okc Γ → ω.length = Γ.length → BEc t0 n1 s2 h E0 p pb Γ ω → HEk t0 n1 s2 h (Ec E0 p pb) Γ ω
  | [], [], _, _, _ => trivial
  | b :: Γ, w :: ω, hc, hl, hb => by
    have hl' : ω.length = Γ.length := by simpa using hl
    have ob : ok ω.length b = true := by rw [hl']; exact hc.1
    refine ⟨fun ρ hρ => ?_, BEc.he hp hm hh hc.2 hl' hb.2⟩
    rcases hb.1 with ⟨h1, h2⟩ | ⟨B, C, e, h1, h2, h3⟩
    · rcases h2 with h2 | h2
      · exact vz_bnE (Ec_m hp) (Ec_l hp) hm ob h1 h2 ρ
      · exact vz_bdE (Ec_m hp) (Ec_l hp) hm hh ob h1 h2 ρ
    · subst e
      exact vz_sch hp hm hh ob h1 h2 h3 ρ hρ
  | [], _ :: _, _, _, hb => hb.elim
  | _ :: _, [], _, _, hb => hb.elim
end PmR3
