/-! WHAT A HEAD IS WORTH, as any function of what its argument is worth. -/
def Eg (X7 : Nat) (eb : Nat → Nat) (EP pb : Nat) (π : Stk) : Nat := if hs π = true then max X7 (if cnS π ≤ 1 then eb (zm π) else max (eb (zm π)) (EP + pb * zm π)) else X7
def hdg (X7 : Nat) (eb : Nat → Nat) (Z : Nat → Nat) (s : Nat) : Nat := max X7 (eb (Z s))
section PmVe
variable {t0 s2 X7 EP pb : Nat} {n1 h eb : Nat → Nat} {Z : Nat → Nat}
theorem Eg_0 (ρ : Stk) : X7 ≤ Eg X7 eb EP pb ρ := by
  unfold Eg
  split
  · exact Nat.le_max_left _ _
  · exact Nat.le_refl _
theorem Eg_n (ρ : Stk) (e : hs ρ = false) : Eg X7 eb EP pb ρ ≤ X7 := by
  unfold Eg
  rw [if_neg (by rw [e]; decide)]
  exact Nat.le_refl _
theorem Eg_e (ρ : Stk) (e : hs ρ = true) : eb (zm ρ) ≤ Eg X7 eb EP pb ρ := by
  unfold Eg
  rw [if_pos e]
  refine Nat.le_trans ?_ (Nat.le_max_right _ _)
  split
  · exact Nat.le_refl _
  · exact Nat.le_max_left _ _
theorem Eg_p (ρ : Stk) (e : hs ρ = true) (c : ¬ cnS ρ ≤ 1) : EP + pb * zm ρ ≤ Eg X7 eb EP pb ρ := by
  unfold Eg
  rw [if_pos e, if_neg c]
  exact Nat.le_trans (Nat.le_max_right _ _) (Nat.le_max_right _ _)
theorem Eg_1 (he : ∀ z z', z ≤ z' → eb z ≤ eb z') (ρ : Stk) (s : Nat) (c : cnS ρ ≤ 1) (e : hs ρ = true) (hz : zm ρ ≤ Z s) : Eg X7 eb EP pb ρ ≤ hdg X7 eb Z s := by
  unfold Eg hdg
  rw [if_pos e, if_pos c]
  have := he _ _ hz
  omega
theorem Eg_m (he : ∀ z z', z ≤ z' → eb z ≤ eb z') (q : Option Nat) (ρ : Stk) : Eg X7 eb EP pb ρ ≤ Eg X7 eb EP pb (q :: ρ) := by
  by_cases e : hs ρ = true
  · have e2 := hs_tail q ρ e
    unfold Eg
    rw [if_pos e, if_pos e2]
    have h1 := cnS_tail q ρ
    have h2 := zm_tail q ρ
    have q2 := Nat.mul_le_mul_left pb h2
    have q3 := he _ _ h2
    by_cases c : cnS (q :: ρ) ≤ 1
    · rw [if_pos c, if_pos (by omega)]; omega
    · rw [if_neg c]
      split <;> omega
  · exact Nat.le_trans (Eg_n ρ (by simpa using e)) (Eg_0 _)
/-- a text of which nothing is bound, or by its leaves -/
theorem vz_lg (he : ∀ z z', z ≤ z' → eb z ≤ eb z') (hm : ∀ y y', y ≤ y' → h y ≤ h y') (hh : ∀ y δ, h (y + δ) ≤ h y + δ) {t : Ty} {ω : List Nat} (o : ok ω.length t = true) (hv : nz t0 n1 s2 h ω t ≤ X7) (hl : nsch t = true ∨ ∀ z, nz t0 n1 s2 h ω t + flv t * z ≤ eb z) (ρ : Stk) : vz t0 n1 s2 h (Eg X7 eb EP pb) t ρ ω ≤ Eg X7 eb EP pb ρ := by
  have q1 := vz_upE (t0 := t0) (n1 := n1) (s2 := s2) (h := h) (E := Eg X7 eb EP pb) (Eg_m he) hm _ t ρ ω (Nat.le_refl _) o
  have q0 := Eg_0 (X7 := X7) (eb := eb) (EP := EP) (pb := pb) ρ
  rcases hl with e | e2
  · rw [nz_nsch _ t ω (Nat.le_refl _) o e] at q1
    omega
  · by_cases c : hs ρ = true
    · have q2 := nz_flv (t0 := t0) (n1 := n1) (s2 := s2) hm hh (z := zm ρ) _ t ω ω (zm ρ) (Nat.le_refl _) rfl o (Nat.le_refl _) (fun j _ => by omega)
      have q3 := e2 (zm ρ)
      have q4 := Eg_e (X7 := X7) (eb := eb) (EP := EP) (pb := pb) ρ c
      omega
    · rw [zm_hs ρ (by simpa using c), show hzx h 0 = h from hzx_0] at q1
      omega
/-- a scheme, by what its body is worth -/
def HSg (t0 : Nat) (n1 : Nat → Nat) (s2 : Nat) (h : Nat → Nat) (eb : Nat → Nat) (EP pb : Nat) (ω : List Nat) (b : Ty) : Prop := ∃ B C, b = tAll B C ∧ nz t0 n1 s2 h ω b ≤ EP ∧ flv b ≤ pb ∧ ∀ z, nz t0 n1 s2 h (hzx h z (nz t0 n1 s2 h ω B) :: ω) C ≤ eb z
theorem vz_sg (he : ∀ z z', z ≤ z' → eb z ≤ eb z') (hm : ∀ y y', y ≤ y' → h y ≤ h y') (hh : ∀ y δ, h (y + δ) ≤ h y + δ) {b : Ty} {ω : List Nat} (o : ok ω.length b = true) (hb : HSg t0 n1 s2 h eb EP pb ω b) (ρ : Stk) (hρ : ρ ≠ []) : vz t0 n1 s2 h (Eg X7 eb EP pb) b ρ ω ≤ Eg X7 eb EP pb ρ := by
  obtain ⟨B, C, rfl, hv, hpb, hz⟩ := hb
  cases ρ with
  | nil => exact absurd rfl hρ
  | cons q ρ =>
    cases q with
    | none => rw [vz_allN]; exact Nat.zero_le _
    | some z =>
      by_cases c : cnS ρ = 0
      · rw [vz_allS]
        have oC := (ok_all.mp o).2
        have q1 := vz_upE (t0 := t0) (n1 := n1) (s2 := s2) (h := h) (E := Eg X7 eb EP pb) (Eg_m he) hm _ C ρ (hzx h z (nz t0 n1 s2 h ω B) :: ω) (Nat.le_refl _) (by rw [List.length_cons]; exact oC)
        rw [cnS_zm ρ c, show hzx h 0 = h from hzx_0] at q1
        have q2 := hz z
        have q3 := Eg_m (X7 := X7) (EP := EP) (pb := pb) he (some z) ρ
        have e1 : zm (some z :: ρ) = z := by
          show max z (zm ρ) = z
          rw [cnS_zm ρ c]; exact Nat.max_eq_left (Nat.zero_le _)
        have q4 := Eg_e (X7 := X7) (eb := eb) (EP := EP) (pb := pb) (some z :: ρ) rfl
        rw [e1] at q4
        omega
      · have q1 := vz_upE (t0 := t0) (n1 := n1) (s2 := s2) (h := h) (E := Eg X7 eb EP pb) (Eg_m he) hm _ (tAll B C) (some z :: ρ) ω (Nat.le_refl _) o
        have q2 := nz_flv (t0 := t0) (n1 := n1) (s2 := s2) hm hh (z := zm (some z :: ρ)) _ (tAll B C) ω ω (zm (some z :: ρ)) (Nat.le_refl _) rfl o (Nat.le_refl _) (fun j _ => by omega)
        have q3 := Nat.mul_le_mul_right (zm (some z :: ρ)) hpb
        have q4 := Eg_p (X7 := X7) (eb := eb) (EP := EP) (pb := pb) (some z :: ρ) rfl (by show ¬ cnS ρ + 1 ≤ 1; omega)
        omega
/-- the bounds of the context -/
def BEg (t0 : Nat) (n1 : Nat → Nat) (s2 : Nat) (h : Nat → Nat) (X7 : Nat) (eb : Nat → Nat) (EP pb : Nat) : List Ty → List Nat → Prop
  | [], [] => True
  | b :: Γ, _ :: ω => ((nz t0 n1 s2 h ω b ≤ X7 ∧ (nsch b = true ∨ ∀ z, nz t0 n1 s2 h ω b + flv b * z ≤ eb z)) ∨ HSg t0 n1 s2 h eb EP pb ω b) ∧ BEg t0 n1 s2 h X7 eb EP pb Γ ω
  | _, _ => False
theorem BEg.he (he : ∀ z z', z ≤ z' → eb z ≤ eb z') (hm : ∀ y y', y ≤ y' → h y ≤ h y') (hh : ∀ y δ, h (y + δ) ≤ h y + δ) : ∀ {Γ : List Ty} {ω : List Nat}, okc Γ → ω.length = Γ.length → BEg t0 n1 s2 h X7 eb EP pb Γ ω → HEk t0 n1 s2 h (Eg X7 eb EP pb) Γ ω
  | [], [], _, _, _ => trivial
  | b :: Γ, w :: ω, hc, hl, hb => by
    have hl' : ω.length = Γ.length := by simpa using hl
    have ob : ok ω.length b = true := by rw [hl']; exact hc.1
    refine ⟨fun ρ hρ => ?_, BEg.he he hm hh hc.2 hl' hb.2⟩
    rcases hb.1 with ⟨h1, h2⟩ | h1
    · exact vz_lg he hm hh ob h1 h2 ρ
    · exact vz_sg he hm hh ob h1 ρ hρ
  | [], _ :: _, _, _, hb => hb.elim
  | _ :: _, [], _, _, hb => hb.elim
end PmVe
section PmVf
variable {N t0 fn s2 hv r0 r1 r2 r3 x0 X7 EP pb x m : Nat} {n1 h eb : Nat → Nat} {P Q : List (List Nat)} {F G : FrT} {X : List Nat}
/-- arguments under operations -/
theorem arg_g (he : ∀ z z', z ≤ z' → eb z ≤ eb z') (hm : ∀ y y', y ≤ y' → h y ≤ h y') (hh : ∀ y δ, h (y + δ) ≤ h y + δ) (T : TBs N t0 fn s2 hv r0 r1 r2 r3 x0 n1 h P Q F G X) (hx0 : x0 ≤ x) (m56 : m ≤ 56) (h7 : ∀ s, s + 3 ≤ m → Zx F x s ≤ X7) (hS : ∀ (A : Ty) (ω : List Nat), hd A = 2 → ok ω.length A = true → tch A + 2 ≤ m → (∀ j, j < ω.length → vw ω j ≤ x) → HSg t0 n1 s2 h eb EP pb ω A) : ∀ (f : Nat) (A : Ty) (ω : List Nat), (flat A).length ≤ f → ok ω.length A = true → tch A + 2 ≤ m → (∀ j, j < ω.length → vw ω j ≤ x) → ∀ ρ, ρ ≠ [] → vz t0 n1 s2 h (Eg X7 eb EP pb) A ρ ω ≤ Eg X7 eb EP pb ρ
  | 0, A, ω, hf, o, _, _, _, _ => by have := flat_pos o; omega
  | f + 1, A, ω, hf, o, ht, hw, ρ, hρ => by
    have part : ∀ (b : Ty) (ρ : Stk), (flat b).length ≤ f → ok ω.length b = true → tch b + 3 ≤ tch A → vz t0 n1 s2 h (Eg X7 eb EP pb) b ρ ω ≤ Eg X7 eb EP pb (none :: ρ) := by
      intro b ρ hb ob hc
      cases ρ with
      | nil =>
        rw [vz_no ob]
        exact Nat.le_trans (Zx_le T ob (by omega) hx0 hw) (Nat.le_trans (h7 _ (by omega)) (Eg_0 _))
      | cons q ρ => exact Nat.le_trans (arg_g he hm hh T hx0 m56 h7 hS f b ω hb ob (by omega) hw (q :: ρ) (by simp)) (Eg_m he none _)
    cases ρ with
    | nil => exact absurd rfl hρ
    | cons q ρ =>
      rcases ok_cases o with rfl | ⟨j, hj, rfl⟩ | ⟨a, b, rfl, ha, hb⟩ | ⟨a, b, rfl, ha, hb⟩ | ⟨c, u, v, w, hc, rfl, h0, h1, h2⟩
      · rw [vz_top]; exact Nat.zero_le _
      · rw [vz_var]; exact Nat.le_refl _
      · rw [flat_fun, List.length_cons, List.length_append] at hf
        have pa := tch_pos ha
        cases q with
        | none =>
          rw [vz_funN]
          exact part b ρ (by omega) hb (by rw [tch_fun]; omega)
        | some z => rw [vz_funS]; exact Nat.zero_le _
      · exact vz_sg he hm hh o (hS _ ω (hd_all _ _) o ht hw) _ hρ
      · rw [flat_rec, List.length_cons, List.length_append, List.length_append] at hf
        cases q with
        | none =>
          have key : ∀ (i : Nat) (y : Ty), i < 3 → (flat y).length ≤ f → okl ω.length c i y → tch y + rch c ≤ tch (tRec c u v w) → vz t0 n1 s2 h (Eg X7 eb EP pb) y ρ ω ≤ Eg X7 eb EP pb (none :: ρ) := by
            intro i y hi hy oy hc2
            unfold okl at oy
            by_cases hb : bit c i = true
            · rw [if_pos hb] at oy
              have c0 : c ≠ 0 := by
                intro e
                rw [e, bit_iff, Nat.zero_div] at hb
                omega
              have r3 := rch_two c0 hc
              exact part y ρ hy oy (by omega)
            · rw [if_neg hb] at oy
              rw [oy, vz_nil]; exact Nat.zero_le _
          rw [vz_recN]
          have tr := tch_rec c u v w
          exact Nat.max_le.mpr ⟨key 0 u (by decide) (by omega) h0 (by omega), Nat.max_le.mpr ⟨key 1 v (by decide) (by omega) h1 (by omega), key 2 w (by decide) (by omega) h2 (by omega)⟩⟩
        | some z => rw [vz_recS]; exact Nat.zero_le _
/-- the type of a term by nature, its heads counted exactly -/
theorem nat_BGa {Z : Nat → Nat} (hn : NC t0 n1 s2 h) (he' : ∀ z z', z ≤ z' → eb z ≤ eb z') (hm : ∀ y y', y ≤ y' → h y ≤ h y') (hh : ∀ y δ, h (y + δ) ≤ h y + δ) (T : TBs N t0 fn s2 hv r0 r1 r2 r3 x0 n1 h P Q F G X) (hx : PXk N P F X fn s2 r1 = true) (h21 : r2 ≤ r1) (h32 : r3 ≤ r2) {f : Nat} {t S : Ty} {Γ : List Ty} {Δ : List (Nat × Ty × Nat)} {cv cd : Nat} (w : TWf f Γ.length (Δ.map (fun a => a.1)) t) (he : TE Γ Δ) (co : COk f t 0) (nq : NQk f t 0) (hS : tyF f t Γ Δ = .inr S) (hdc : dch Δ ≤ cd) (hcd : 2 ≤ cd) (hbb : cv + cd + 2 * mch t ≤ N) (aq : AQh t0 n1 s2 h (Eg X7 eb EP pb) Z f t [] (onz t0 n1 s2 h Γ)) (hw : ∀ j, j < Γ.length → vw (onz t0 n1 s2 h Γ) j ≤ X.getD cv 0) (hB : BEg t0 n1 s2 h X7 eb EP pb Γ (onz t0 n1 s2 h Γ)) : BGh P (hdg X7 eb Z) (bqk f t 0) (cv + cd) (mch t) (nz t0 n1 s2 h (onz t0 n1 s2 h Γ) S) := by
  have l1 := onz_len t0 n1 s2 h Γ
  have hw' : ∀ j, j < (onz t0 n1 s2 h Γ).length → vw (onz t0 n1 s2 h Γ) j ≤ X.getD cv 0 := fun j hj => hw j (by rw [l1] at hj; exact hj)
  have go := GH_nat (E := Eg X7 eb EP pb) (Z := Z) hn hm f t [] (onz t0 n1 s2 h Γ) Γ Δ w he co aq (onz_cv hn he.1)
  have he2 : HEk t0 n1 s2 h (Eg X7 eb EP pb) Γ (onz t0 n1 s2 h Γ) := BEg.he he' hm hh he.1 l1 hB
  have q1 := tyF_vz hm f t Γ Δ S [] (onz t0 n1 s2 h Γ) w he he2 go hS
  rw [vz_no (tyF_ok f t Γ Δ S w he hS).1] at q1
  have q2 := (SH_le (E := Eg X7 eb EP pb) (Z := Z) (hd := hdg X7 eb Z) (Eg_m he') Eg_n (Eg_1 he') hm T hx h21 h32 (fun s => Nat.le_max_left _ _) f t [] (onz t0 n1 s2 h Γ) Γ Δ cv cd 0 w he co nq (Nat.zero_le _) aq l1 hw' (Nat.zero_le _) (fun e => by cases e) (fun _ => rfl) hdc hcd hbb).1 rfl
  exact q2.mono q1
end PmVf
