/-! TERMS IN A CONTEXT THAT IS CUT, OPERATIONS WAITING. -/
section PmR2
variable {t0 s2 E0 p : Nat} {n1 h : Nat → Nat} {E : Stk → Nat} {Z : Nat → Nat}
theorem vz_bdE (hEm : ∀ q ρ, E ρ ≤ E (q :: ρ)) (hEl : ∀ ρ, E0 + p * zm ρ ≤ E ρ) (hm : ∀ y y', y ≤ y' → h y ≤ h y') (hh : ∀ y δ, h (y + δ) ≤ h y + δ) {t : Ty} {ω : List Nat} (o : ok ω.length t = true) (hv : nz t0 n1 s2 h ω t ≤ E0) (hp : flv t ≤ p) (ρ : Stk) : vz t0 n1 s2 h E t ρ ω ≤ E ρ := by
  have q1 := vz_upE (t0 := t0) (n1 := n1) (s2 := s2) hEm hm _ t ρ ω (Nat.le_refl _) o
  have q2 := nz_flv (t0 := t0) (n1 := n1) (s2 := s2) hm hh (z := zm ρ) _ t ω ω (zm ρ) (Nat.le_refl _) rfl o (Nat.le_refl _) (fun j _ => by omega)
  have q3 := Nat.mul_le_mul_right (zm ρ) hp
  have q4 := hEl ρ
  omega
theorem vz_bnE (hEm : ∀ q ρ, E ρ ≤ E (q :: ρ)) (hEl : ∀ ρ, E0 + p * zm ρ ≤ E ρ) (hm : ∀ y y', y ≤ y' → h y ≤ h y') {t : Ty} {ω : List Nat} (o : ok ω.length t = true) (hv : nz t0 n1 s2 h ω t ≤ E0) (hp : nsch t = true) (ρ : Stk) : vz t0 n1 s2 h E t ρ ω ≤ E ρ := by
  have q1 := vz_upE (t0 := t0) (n1 := n1) (s2 := s2) hEm hm _ t ρ ω (Nat.le_refl _) o
  rw [nz_nsch _ t ω (Nat.le_refl _) o hp] at q1
  have q4 := hEl ρ
  omega
variable {hb : Nat} {B C : Ty} {Γ0 : List Ty}
/-- all that is asked on the way -/
theorem GO_cut (hn : NC t0 n1 s2 h) (hm : ∀ y y', y ≤ y' → h y ≤ h y') (hh : ∀ y δ, h (y + δ) ≤ h y + δ) (hEm : ∀ q ρ, E ρ ≤ E (q :: ρ)) (hEl : ∀ ρ, E0 + p * zm ρ ≤ E ρ) (h0 : CN0 kp2 hb B C Γ0) : ∀ (f : Nat) (t : Ty) (π : Stk) (ω : List Nat) (Δ1 : List Ty) (Δ : List (Nat × Ty × Nat)), TWf f (cA B C Γ0 Δ1).length (Δ.map (fun a => a.1)) t → TE (cA B C Γ0 Δ1) Δ → COk f t π.length → AQk t0 n1 s2 h E0 p Z f t π ω → CV t0 n1 s2 h ω (cB kp2 B C Γ0 Δ1) → CNx kp2 hb B C Γ0 Δ1 → PNt hb f t (cA B C Γ0 Δ1).length → (∀ a ∈ Δ, PNw kp2 hb a.2.2 a.2.1 = true) → GOk t0 n1 s2 h E f t π ω (cA B C Γ0 Δ1) Δ
  | 0, _, _, _, _, _, w, _, _, _, _, _, _, _ => w.elim
  | f + 1, t, π, ω, Δ1, Δ, w, he, co, aq, hv, hx, pn, hd' => by
    obtain ⟨w0, w5, w6, w7, w8, w9, w10, w11, w12⟩ := w
    obtain ⟨o6, o7, o10, o12⟩ := co
    obtain ⟨a6, a7, a8, a9, a10, a12⟩ := aq
    obtain ⟨v6, v7, v8, v9, v10, v11⟩ := pn
    have ih := fun t' π' ω' Δ1' Δ' => GO_cut hn hm hh hEm hEl h0 f t' π' ω' Δ1' Δ'
    have hl : ω.length = (cA B C Γ0 Δ1).length := by rw [cAB_len (κ := kp2)]; exact hv.len
    have okB : okc (cB kp2 B C Γ0 Δ1) := hx.2.1
    refine ⟨fun c6 => ?_, fun c7 => ?_, fun c8 => ?_, fun c9 => ?_, fun c10 g hg hb' => ?_, fun c12 => ?_⟩
    · obtain ⟨-, x1, x2, x3⟩ := w6 c6
      have hd2 : ∀ a ∈ ((nPl t, nX t, (cA B C Γ0 Δ1).length) :: Δ), PNw kp2 hb a.2.2 a.2.1 = true := by
        intro a ha
        rcases List.mem_cons.mp ha with e | e
        · rw [e]; exact (v6 c6).1
        · exact hd' a e
      refine ⟨fun e => ?_, fun ρ e => ?_⟩
      · subst e
        exact ih _ _ _ _ _ x3 (he.lam x1 x2) (o6 (Or.inl c6)) ((a6 c6).1 rfl) hv hx (v6 c6).2 hd2
      · subst e
        exact ih _ _ _ _ _ x3 (he.lam x1 x2) (by simpa using o6 (Or.inl c6)) ((a6 c6).2 ρ rfl) hv hx (v6 c6).2 hd2
    · have x1 : TWf f (cA B C Γ0 Δ1).length (Δ.map (fun a => a.1)) (nX t) ∧ PNt hb f (nX t) (cA B C Γ0 Δ1).length := by
        rcases c7 with c | c
        · exact ⟨(w7 (Or.inl c)).1, (v7 (Or.inl c)).1⟩
        · exact ⟨(w11 c).2, v11 c⟩
      exact ih _ _ _ _ _ x1.1 he (o7 (by omega)) (a7 c7) hv hx x1.2 hd'
    · obtain ⟨x1, x2, x3⟩ := w8 c8
      obtain ⟨k1, k2, k3⟩ := a8 c8
      obtain ⟨⟨p1, p2⟩, p3⟩ := v8 c8
      have oB : ok (cB kp2 B C Γ0 Δ1).length (nX t) = true := by rw [← cAB_len (κ := kp2)]; exact x1
      refine ⟨fun ρ _ => vz_bdE hEm hEl hm hh (by rw [hl]; exact x1) k1.1 k1.2 ρ, fun e => ?_, fun z ρ e => ?_⟩
      · subst e
        exact ih (nY t) [] _ (nX t :: Δ1) Δ x3 (he.all x1 x2) (o6 (Or.inr c8)) (k2 rfl) (hv.ext hn okB oB) (hx.ext h0 x1 p1) p3 hd'
      · subst e
        exact ih (nY t) ρ _ (nX t :: Δ1) Δ x3 (he.all x1 x2) (by simpa using o6 (Or.inr c8)) (k3 z ρ rfl) (hv.extz hn okB oB z) (hx.ext h0 x1 p1) p3 hd'
    · obtain ⟨x1, x2, x3⟩ := w9 c9
      obtain ⟨k1, k2⟩ := a9 c9
      exact ⟨fun ρ _ => vz_bdE hEm hEl hm hh (by rw [hl]; exact x2) k1.1 k1.2.1 ρ, ih _ _ _ _ _ x1 he (o7 (by omega)) k2 hv hx (v9 c9).1 hd'⟩
    · obtain ⟨m8, x1⟩ := w10 c10
      refine ⟨fun e => ?_, fun ρ e => ?_⟩
      · subst e
        exact ih _ _ _ _ _ (x1 g hg hb') he (o10 c10 g hg hb') ((a10 c10 g hg hb').1 rfl) hv hx (v10 c10 g hg hb') hd'
      · subst e
        exact ih _ _ _ _ _ (x1 g hg hb') he (by simpa using o10 c10 g hg hb') ((a10 c10 g hg hb').2 ρ rfl) hv hx (v10 c10 g hg hb') hd'
    · obtain ⟨x1, x2⟩ := w7 (Or.inr c12)
      obtain ⟨k0, k1, k2⟩ := o12 c12
      obtain ⟨p1, p2⟩ := v7 (Or.inr c12)
      have e : π = [] := List.eq_nil_of_length_eq_zero k0
      subst e
      refine ⟨ih _ _ _ _ _ x1 he k1 (a12 c12).1 hv hx p1 hd', ih _ _ _ _ _ x2 he k2 (a12 c12).2 hv hx p2 hd', fun S T R hS hT e => ?_⟩
      obtain ⟨s1, s2'⟩ := tyF_ok f _ _ Δ S x1 he hS
      obtain ⟨t1, t2⟩ := tyF_ok f _ _ Δ T x2 he hT
      have oR := (cmu_ok (⟨⟨he.1, s1, t1⟩, he.2.1, s2', t2⟩) e).1
      rw [vz_no oR, vz_no s1, vz_no t1]
      exact (cmu_cut h0 hn (Nat.zero_le 1) hx hv ⟨he.1, s1, t1⟩ (tyF_PNw h0 f _ Δ1 Δ S x1 he p1 hx hd' hS) (tyF_PNw h0 f _ Δ1 Δ T x2 he p2 hx hd' hT) e).2
end PmR2
/-- what is exposed: one argument counts p times, several pb times -/
def Ec (E0 p pb : Nat) (π : Stk) : Nat := E0 + (if cnS π ≤ 1 then p else pb) * zm π
section PmR3
variable {t0 s2 E0 p pb : Nat} {n1 h : Nat → Nat}
theorem cnS_tail (q : Option Nat) (ρ : Stk) : cnS ρ ≤ cnS (q :: ρ) := by
  cases q with
  | none => exact Nat.le_refl _
  | some z => exact Nat.le_succ _
theorem Ec_m (hp : p ≤ pb) (q : Option Nat) (ρ : Stk) : Ec E0 p pb ρ ≤ Ec E0 p pb (q :: ρ) := by
  unfold Ec
  have h1 := cnS_tail q ρ
  have h2 := zm_tail q ρ
  refine Nat.add_le_add_left (Nat.mul_le_mul ?_ h2) _
  by_cases c : cnS (q :: ρ) ≤ 1
  · rw [if_pos c, if_pos (by omega)]; exact Nat.le_refl _
  · rw [if_neg c]
    split <;> omega
theorem Ec_l (hp : p ≤ pb) (ρ : Stk) : E0 + p * zm ρ ≤ Ec E0 p pb ρ := by
  unfold Ec
  refine Nat.add_le_add_left (Nat.mul_le_mul_right _ ?_) _
  split <;> omega
theorem Ec_1 (ρ : Stk) (h : cnS ρ ≤ 1) : Ec E0 p pb ρ ≤ E0 + p * zm ρ := by
  unfold Ec
  rw [if_pos h]; exact Nat.le_refl _
theorem cnS_zm : ∀ ρ : Stk, cnS ρ = 0 → zm ρ = 0
  | [], _ => rfl
  | none :: ρ, e => cnS_zm ρ e
  | some z :: ρ, e => by
    have : cnS ρ + 1 = 0 := e
    omega
/-- a scheme whose variable counts p times -/
theorem vz_sch (hp : p ≤ pb) (hm : ∀ y y', y ≤ y' → h y ≤ h y') (hh : ∀ y δ, h (y + δ) ≤ h y + δ) {B C : Ty} {ω : List Nat} (o : ok ω.length (tAll B C) = true) (hv : nz t0 n1 s2 h ω (tAll B C) ≤ E0) (hpb : flv (tAll B C) ≤ pb) (hz : ∀ z, nz t0 n1 s2 h (hzx h z (nz t0 n1 s2 h ω B) :: ω) C ≤ E0 + p * z) (ρ : Stk) (hρ : ρ ≠ []) : vz t0 n1 s2 h (Ec E0 p pb) (tAll B C) ρ ω ≤ Ec E0 p pb ρ := by
  cases ρ with
  | nil => exact absurd rfl hρ
  | cons q ρ =>
    cases q with
    | none => rw [vz_allN]; exact Nat.zero_le _
    | some z =>
      by_cases c : cnS ρ = 0
      · rw [vz_allS]
        have oC := (ok_all.mp o).2
        have q1 := vz_upE (t0 := t0) (n1 := n1) (s2 := s2) (h := h) (E := Ec E0 p pb) (Ec_m hp) hm _ C ρ (hzx h z (nz t0 n1 s2 h ω B) :: ω) (Nat.le_refl _) (by rw [List.length_cons]; exact oC)
        rw [cnS_zm ρ c, show hzx h 0 = h from hzx_0] at q1
        have q2 := hz z
        have q3 := Ec_m (E0 := E0) (p := p) (pb := pb) hp (some z) ρ
        have e1 : zm (some z :: ρ) = z := by
          show max z (zm ρ) = z
          rw [cnS_zm ρ c]; exact Nat.max_eq_left (Nat.zero_le _)
        have q4 := Ec_l (E0 := E0) hp (some z :: ρ)
        rw [e1] at q4
        omega
      · have q1 := vz_upE (t0 := t0) (n1 := n1) (s2 := s2) (h := h) (E := Ec E0 p pb) (Ec_m hp) hm _ (tAll B C) (some z :: ρ) ω (Nat.le_refl _) o
        have q2 := nz_flv (t0 := t0) (n1 := n1) (s2 := s2) hm hh (z := zm (some z :: ρ)) _ (tAll B C) ω ω (zm (some z :: ρ)) (Nat.le_refl _) rfl o (Nat.le_refl _) (fun j _ => by omega)
        have q3 := Nat.mul_le_mul_right (zm (some z :: ρ)) hpb
        have q4 : Ec E0 p pb (some z :: ρ) = E0 + pb * zm (some z :: ρ) := by
          unfold Ec
          rw [if_neg (by show ¬ cnS ρ + 1 ≤ 1; omega)]
        omega
/-- the bounds of the context: light, or such a scheme -/
def BEc (t0 : Nat) (n1 : Nat → Nat) (s2 : Nat) (h : Nat → Nat) (E0 p pb : Nat) : List Ty → List Nat → Prop
  | [], [] => True
  | b :: Γ, _ :: ω => ((nz t0 n1 s2 h ω b ≤ E0 ∧ (nsch b = true ∨ flv b ≤ p)) ∨ ∃ B C, b = tAll B C ∧ nz t0 n1 s2 h ω b ≤ E0 ∧ flv b ≤ pb ∧ ∀ z, nz t0 n1 s2 h (hzx h z (nz t0 n1 s2 h ω B) :: ω) C ≤ E0 + p * z) ∧ BEc t0 n1 s2 h E0 p pb Γ ω
  | _, _ => False
theorem BEc.he (hp : p ≤ pb) (hm : ∀ y y', y ≤ y' → h y ≤ h y') (hh : ∀ y δ, h (y + δ) ≤ h y + δ) : ∀ {Γ : List Ty} {ω : List Nat}, okc Γ → ω.length = Γ.length → BEc t0 n1 s2 h E0 p pb Γ ω → HEk t0 n1 s2 h (Ec E0 p pb) Γ ω
  | [], [], _, _, _ => trivial
  | b :: Γ, w :: ω, hc, hl, hb => by
    have hl' : ω.length = Γ.length := by simpa using hl
    have ob : ok ω.length b = true := by rw [hl']; exact hc.1
    refine ⟨fun ρ hρ => ?_, BEc.he hp hm hh hc.2 hl' hb.2⟩
    rcases hb.1 with ⟨h1, h2⟩ | ⟨B, C, e, h1, h2, h3⟩
    · rcases h2 with h2 | h2
      · exact vz_bnE (Ec_m hp) (Ec_l hp) hm ob h1 h2 ρ
      · exact vz_bdE (Ec_m hp) (Ec_l hp) hm hh ob h1 h2 ρ
    · subst e
      exact vz_sch hp hm hh ob h1 h2 h3 ρ hρ
  | [], _ :: _, _, _, hb => hb.elim
  | _ :: _, [], _, _, hb => hb.elim
end PmR3
