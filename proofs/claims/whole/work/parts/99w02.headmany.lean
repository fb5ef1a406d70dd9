/-! HEADS UNDER ANY NUMBER OF INSTANCES: what they are worth. -/
def E2 (X7 : Nat) (eb e2 : Nat → Nat) (π : Stk) : Nat := if hs π = true then max X7 (if cnS π ≤ 1 then eb (zm π) else max (eb (zm π)) (e2 (zm π))) else X7
def hd2 (X7 : Nat) (eb e2 : Nat → Nat) (Z : Nat → Nat) (s : Nat) : Nat := if s < 5 then max X7 (eb (Z s)) else max (max X7 (eb (Z s))) (e2 (Z (s - 2)))
section PmWb
variable {t0 s2 X7 : Nat} {n1 h eb e2 : Nat → Nat} {Z : Nat → Nat}
theorem E2_0 (ρ : Stk) : X7 ≤ E2 X7 eb e2 ρ := by
  unfold E2
  split
  · exact Nat.le_max_left _ _
  · exact Nat.le_refl _
theorem E2_n (ρ : Stk) (e : hs ρ = false) : E2 X7 eb e2 ρ ≤ X7 := by
  unfold E2
  rw [if_neg (by rw [e]; decide)]
  exact Nat.le_refl _
theorem E2_e (ρ : Stk) (e : hs ρ = true) : eb (zm ρ) ≤ E2 X7 eb e2 ρ := by
  unfold E2
  rw [if_pos e]
  refine Nat.le_trans ?_ (Nat.le_max_right _ _)
  split
  · exact Nat.le_refl _
  · exact Nat.le_max_left _ _
theorem E2_p (ρ : Stk) (e : hs ρ = true) (c : ¬ cnS ρ ≤ 1) : e2 (zm ρ) ≤ E2 X7 eb e2 ρ := by
  unfold E2
  rw [if_pos e, if_neg c]
  exact Nat.le_trans (Nat.le_max_right _ _) (Nat.le_max_right _ _)
theorem E2_m (he : ∀ z z', z ≤ z' → eb z ≤ eb z') (he2 : ∀ z z', z ≤ z' → e2 z ≤ e2 z') (q : Option Nat) (ρ : Stk) : E2 X7 eb e2 ρ ≤ E2 X7 eb e2 (q :: ρ) := by
  by_cases e : hs ρ = true
  · have e' := hs_tail q ρ e
    unfold E2
    rw [if_pos e, if_pos e']
    have h1 := cnS_tail q ρ
    have h2 := zm_tail q ρ
    have q2 := he2 _ _ h2
    have q3 := he _ _ h2
    by_cases c : cnS (q :: ρ) ≤ 1
    · rw [if_pos c, if_pos (by omega)]; omega
    · rw [if_neg c]
      split <;> omega
  · exact Nat.le_trans (E2_n ρ (by simpa using e)) (E2_0 _)
theorem E2_1 (he : ∀ z z', z ≤ z' → eb z ≤ eb z') (he2 : ∀ z z', z ≤ z' → e2 z ≤ e2 z') (hZ : ∀ s s', s ≤ s' → Z s ≤ Z s') (ρ : Stk) (s : Nat) (e : hs ρ = true) (c : 2 * cnS ρ ≤ s) (hz : zm ρ ≤ Z (s + 3 - 2 * cnS ρ)) : E2 X7 eb e2 ρ ≤ hd2 X7 eb e2 Z (s + 1) := by
  have p := cn_pos ρ e
  unfold E2
  rw [if_pos e]
  by_cases c1 : cnS ρ ≤ 1
  · rw [if_pos c1]
    have e1 : cnS ρ = 1 := by omega
    rw [e1, show s + 3 - 2 * 1 = s + 1 by omega] at hz
    have a := he _ _ hz
    unfold hd2
    split <;> omega
  · rw [if_neg c1]
    have a1 := hZ (s + 3 - 2 * cnS ρ) (s + 1 - 2) (by omega)
    have a2 := hZ (s + 3 - 2 * cnS ρ) (s + 1) (by omega)
    have b1 := he2 _ _ (Nat.le_trans hz a1)
    have b2 := he _ _ (Nat.le_trans hz a2)
    unfold hd2
    rw [if_neg (by omega)]
    omega
theorem hd2_0 (s : Nat) : X7 ≤ hd2 X7 eb e2 Z s := by
  unfold hd2
  split <;> omega
/-- a text of which nothing is bound, or by its leaves -/
theorem vz_l2 (he : ∀ z z', z ≤ z' → eb z ≤ eb z') (he2 : ∀ z z', z ≤ z' → e2 z ≤ e2 z') (hm : ∀ y y', y ≤ y' → h y ≤ h y') (hh : ∀ y δ, h (y + δ) ≤ h y + δ) {t : Ty} {ω : List Nat} (o : ok ω.length t = true) (hv : nz t0 n1 s2 h ω t ≤ X7) (hl : nsch t = true ∨ ∀ z, nz t0 n1 s2 h ω t + flv t * z ≤ eb z) (ρ : Stk) : vz t0 n1 s2 h (E2 X7 eb e2) t ρ ω ≤ E2 X7 eb e2 ρ := by
  have q1 := vz_upE (t0 := t0) (n1 := n1) (s2 := s2) (h := h) (E := E2 X7 eb e2) (E2_m he he2) hm _ t ρ ω (Nat.le_refl _) o
  have q0 := E2_0 (X7 := X7) (eb := eb) (e2 := e2) ρ
  rcases hl with e | e3
  · rw [nz_nsch _ t ω (Nat.le_refl _) o e] at q1
    omega
  · by_cases c : hs ρ = true
    · have q2 := nz_flv (t0 := t0) (n1 := n1) (s2 := s2) hm hh (z := zm ρ) _ t ω ω (zm ρ) (Nat.le_refl _) rfl o (Nat.le_refl _) (fun j _ => by omega)
      have q3 := e3 (zm ρ)
      have q4 := E2_e (X7 := X7) (eb := eb) (e2 := e2) ρ c
      omega
    · rw [zm_hs ρ (by simpa using c), show hzx h 0 = h from hzx_0] at q1
      omega
/-- a scheme, by what its body is worth -/
def HS2 (t0 : Nat) (n1 : Nat → Nat) (s2 : Nat) (h : Nat → Nat) (eb e2 : Nat → Nat) (ω : List Nat) (b : Ty) : Prop := ∃ B C, b = tAll B C ∧ (∀ z, nz t0 n1 s2 h (hzx h z (nz t0 n1 s2 h ω B) :: ω) C ≤ eb z) ∧ ∀ z, nz t0 n1 s2 (hzx h z) (hzx h z (nz t0 n1 s2 h ω B) :: ω) C ≤ e2 z
theorem vz_s2 (he : ∀ z z', z ≤ z' → eb z ≤ eb z') (he2 : ∀ z z', z ≤ z' → e2 z ≤ e2 z') (hm : ∀ y y', y ≤ y' → h y ≤ h y') {b : Ty} {ω : List Nat} (o : ok ω.length b = true) (hb : HS2 t0 n1 s2 h eb e2 ω b) (ρ : Stk) (hρ : ρ ≠ []) : vz t0 n1 s2 h (E2 X7 eb e2) b ρ ω ≤ E2 X7 eb e2 ρ := by
  obtain ⟨B, C, rfl, hz, hz2⟩ := hb
  cases ρ with
  | nil => exact absurd rfl hρ
  | cons q ρ =>
    cases q with
    | none => rw [vz_allN]; exact Nat.zero_le _
    | some z =>
      rw [vz_allS]
      have oC := (ok_all.mp o).2
      have q1 := vz_upE (t0 := t0) (n1 := n1) (s2 := s2) (h := h) (E := E2 X7 eb e2) (E2_m he he2) hm _ C ρ (hzx h z (nz t0 n1 s2 h ω B) :: ω) (Nat.le_refl _) (by rw [List.length_cons]; exact oC)
      have q3 := E2_m (X7 := X7) he he2 (some z) ρ
      by_cases c : cnS ρ = 0
      · rw [cnS_zm ρ c, show hzx h 0 = h from hzx_0] at q1
        have q2 := hz z
        have e1 : zm (some z :: ρ) = z := by
          show max z (zm ρ) = z
          rw [cnS_zm ρ c]; exact Nat.max_eq_left (Nat.zero_le _)
        have q4 := E2_e (X7 := X7) (eb := eb) (e2 := e2) (some z :: ρ) rfl
        rw [e1] at q4
        omega
      · have e1 : zm (some z :: ρ) = max z (zm ρ) := rfl
        have q4 := E2_p (X7 := X7) (eb := eb) (e2 := e2) (some z :: ρ) rfl (by show ¬ cnS ρ + 1 ≤ 1; omega)
        rw [e1] at q4
        have q5 := hz2 (max z (zm ρ))
        have q6 := nz_mono (t0 := t0) (n1 := n1) (s2 := s2) (hzx_le hm (show zm ρ ≤ max z (zm ρ) from Nat.le_max_right _ _)) _ C (hzx h z (nz t0 n1 s2 h ω B) :: ω) (hzx h (max z (zm ρ)) (nz t0 n1 s2 h ω B) :: ω) (Nat.le_refl _) rfl (by rw [List.length_cons]; exact oC) (fun j hj => by
          rw [vw_cons, vw_cons]
          by_cases e : j = ω.length
          · rw [if_pos e, if_pos e]
            exact hzx_le hm (Nat.le_max_left _ _) _ _ (Nat.le_refl _)
          · rw [if_neg e, if_neg e]; exact Nat.le_refl _)
        omega
/-- the bounds of the context -/
def BE2 (t0 : Nat) (n1 : Nat → Nat) (s2 : Nat) (h : Nat → Nat) (X7 : Nat) (eb e2 : Nat → Nat) : List Ty → List Nat → Prop
  | [], [] => True
  | b :: Γ, _ :: ω => ((nz t0 n1 s2 h ω b ≤ X7 ∧ (nsch b = true ∨ ∀ z, nz t0 n1 s2 h ω b + flv b * z ≤ eb z)) ∨ HS2 t0 n1 s2 h eb e2 ω b) ∧ BE2 t0 n1 s2 h X7 eb e2 Γ ω
  | _, _ => False
theorem BE2.he (he : ∀ z z', z ≤ z' → eb z ≤ eb z') (he2 : ∀ z z', z ≤ z' → e2 z ≤ e2 z') (hm : ∀ y y', y ≤ y' → h y ≤ h y') (hh : ∀ y δ, h (y + δ) ≤ h y + δ) : ∀ {Γ : List Ty} {ω : List Nat}, okc Γ → ω.length = Γ.length → BE2 t0 n1 s2 h X7 eb e2 Γ ω → HEk t0 n1 s2 h (E2 X7 eb e2) Γ ω
  | [], [], _, _, _ => trivial
  | b :: Γ, w :: ω, hc, hl, hb => by
    have hl' : ω.length = Γ.length := by simpa using hl
    have ob : ok ω.length b = true := by rw [hl']; exact hc.1
    refine ⟨fun ρ hρ => ?_, BE2.he he he2 hm hh hc.2 hl' hb.2⟩
    rcases hb.1 with ⟨h1, h2⟩ | h1
    · exact vz_l2 he he2 hm hh ob h1 h2 ρ
    · exact vz_s2 he he2 hm ob h1 ρ hρ
  | [], _ :: _, _, _, hb => hb.elim
  | _ :: _, [], _, _, hb => hb.elim
end PmWb
section PmWc
variable {N t0 fn s2 hv r0 r1 r2 r3 x0 X7 x m : Nat} {n1 h eb e2 : Nat → Nat} {P Q : List (List Nat)} {F G : FrT} {X : List Nat}
theorem Zx_leh (T : TBs N t0 fn s2 hv r0 r1 r2 r3 x0 n1 h P Q F G X) {ω : List Nat} {A : Ty} {z : Nat} (o : ok ω.length A = true) (hk : tch A ≤ 56) (hy : x0 ≤ x) (hz : z ≤ x) (hw : ∀ j, j < ω.length → vw ω j ≤ x) : nz t0 n1 s2 (hzx h z) ω A ≤ Zx F x (tch A + 2) := by
  obtain ⟨hc, hx, H, hf1, hr, -, -, -⟩ := T
  obtain ⟨p, hp, fp⟩ := fr_form (x0 := max x0 z) (h := hzx h z) hc (fun y x hyx => by
    have := H y x (by omega)
    unfold hzx; omega) hf1 hr _ A ω.length (Nat.le_refl _) o hk
  exact Nat.le_trans (fp _ ω (by omega) hw o) (Zx_mem (frg F (tch A)) p hp)
/-- arguments under operations -/
theorem arg_2 (he : ∀ z z', z ≤ z' → eb z ≤ eb z') (he2 : ∀ z z', z ≤ z' → e2 z ≤ e2 z') (hm : ∀ y y', y ≤ y' → h y ≤ h y') (T : TBs N t0 fn s2 hv r0 r1 r2 r3 x0 n1 h P Q F G X) (hx0 : x0 ≤ x) (m56 : m ≤ 56) (h7 : ∀ s, s + 3 ≤ m → Zx F x s ≤ X7) (hS : ∀ (A : Ty) (ω : List Nat), hd A = 2 → ok ω.length A = true → tch A + 2 ≤ m → (∀ j, j < ω.length → vw ω j ≤ x) → HS2 t0 n1 s2 h eb e2 ω A) : ∀ (f : Nat) (A : Ty) (ω : List Nat), (flat A).length ≤ f → ok ω.length A = true → tch A + 2 ≤ m → (∀ j, j < ω.length → vw ω j ≤ x) → ∀ ρ, ρ ≠ [] → vz t0 n1 s2 h (E2 X7 eb e2) A ρ ω ≤ E2 X7 eb e2 ρ
  | 0, A, ω, hf, o, _, _, _, _ => by have := flat_pos o; omega
  | f + 1, A, ω, hf, o, ht, hw, ρ, hρ => by
    have part : ∀ (b : Ty) (ρ : Stk), (flat b).length ≤ f → ok ω.length b = true → tch b + 3 ≤ tch A → vz t0 n1 s2 h (E2 X7 eb e2) b ρ ω ≤ E2 X7 eb e2 (none :: ρ) := by
      intro b ρ hb ob hc
      cases ρ with
      | nil =>
        rw [vz_no ob]
        exact Nat.le_trans (Zx_le T ob (by omega) hx0 hw) (Nat.le_trans (h7 _ (by omega)) (E2_0 _))
      | cons q ρ => exact Nat.le_trans (arg_2 he he2 hm T hx0 m56 h7 hS f b ω hb ob (by omega) hw (q :: ρ) (by simp)) (E2_m he he2 none _)
    cases ρ with
    | nil => exact absurd rfl hρ
    | cons q ρ =>
      rcases ok_cases o with rfl | ⟨j, hj, rfl⟩ | ⟨a, b, rfl, ha, hb⟩ | ⟨a, b, rfl, ha, hb⟩ | ⟨c, u, v, w, hc, rfl, h0, h1, h2⟩
      · rw [vz_top]; exact Nat.zero_le _
      · rw [vz_var]; exact Nat.le_refl _
      · rw [flat_fun, List.length_cons, List.length_append] at hf
        have pa := tch_pos ha
        cases q with
        | none =>
          rw [vz_funN]
          exact part b ρ (by omega) hb (by rw [tch_fun]; omega)
        | some z => rw [vz_funS]; exact Nat.zero_le _
      · exact vz_s2 he he2 hm o (hS _ ω (hd_all _ _) o ht hw) _ hρ
      · rw [flat_rec, List.length_cons, List.length_append, List.length_append] at hf
        cases q with
        | none =>
          have key : ∀ (i : Nat) (y : Ty), i < 3 → (flat y).length ≤ f → okl ω.length c i y → tch y + rch c ≤ tch (tRec c u v w) → vz t0 n1 s2 h (E2 X7 eb e2) y ρ ω ≤ E2 X7 eb e2 (none :: ρ) := by
            intro i y hi hy oy hc2
            unfold okl at oy
            by_cases hb : bit c i = true
            · rw [if_pos hb] at oy
              have c0 : c ≠ 0 := by
                intro e
                rw [e, bit_iff, Nat.zero_div] at hb
                omega
              have r3 := rch_two c0 hc
              exact part y ρ hy oy (by omega)
            · rw [if_neg hb] at oy
              rw [oy, vz_nil]; exact Nat.zero_le _
          rw [vz_recN]
          have tr := tch_rec c u v w
          exact Nat.max_le.mpr ⟨key 0 u (by decide) (by omega) h0 (by omega), Nat.max_le.mpr ⟨key 1 v (by decide) (by omega) h1 (by omega), key 2 w (by decide) (by omega) h2 (by omega)⟩⟩
        | some z => rw [vz_recS]; exact Nat.zero_le _
/-- the type of a term in any values, its heads counted exactly -/
theorem gen_BG2 {Z : Nat → Nat} (he' : ∀ z z', z ≤ z' → eb z ≤ eb z') (he2 : ∀ z z', z ≤ z' → e2 z ≤ e2 z') (hZ : ∀ s s', s ≤ s' → Z s ≤ Z s') (hm : ∀ y y', y ≤ y' → h y ≤ h y') (hh : ∀ y δ, h (y + δ) ≤ h y + δ) (T : TBs N t0 fn s2 hv r0 r1 r2 r3 x0 n1 h P Q F G X) (hx : PXk N P F X fn s2 r1 = true) (h21 : r2 ≤ r1) (h32 : r3 ≤ r2) {f : Nat} {t S : Ty} {Γ : List Ty} {ω : List Nat} {Δ : List (Nat × Ty × Nat)} {cv cd : Nat} (w : TWf f Γ.length (Δ.map (fun a => a.1)) t) (he : TE Γ Δ) (co : COk f t 0) (hS : tyF f t Γ Δ = .inr S) (hdc : dch Δ ≤ cd) (hcd : 2 ≤ cd) (hbb : cv + cd + 2 * mch t ≤ N) (l1 : ω.length = Γ.length) (aq : AQh t0 n1 s2 h (E2 X7 eb e2) Z f t [] ω) (go : GOk t0 n1 s2 h (E2 X7 eb e2) f t [] ω Γ Δ) (hw : ∀ j, j < ω.length → vw ω j ≤ X.getD cv 0) (hB : BE2 t0 n1 s2 h X7 eb e2 Γ ω) : BGh P (hd2 X7 eb e2 Z) (bqk f t 0) (cv + cd) (mch t) (nz t0 n1 s2 h ω S) := by
  have he3 : HEk t0 n1 s2 h (E2 X7 eb e2) Γ ω := BE2.he he' he2 hm hh he.1 l1 hB
  have q1 := tyF_vz hm f t Γ Δ S [] ω w he he3 go hS
  rw [vz_no (tyF_ok f t Γ Δ S w he hS).1] at q1
  have q2 := (SW_le (E := E2 X7 eb e2) (Z := Z) (hd := hd2 X7 eb e2 Z) (E2_m he' he2) E2_n (E2_1 he' he2 hZ) hZ hm T hx h21 h32 (fun s => hd2_0 s) f t [] ω Γ Δ cv cd 0 w he co aq l1 hw (Nat.zero_le _) (fun e => by cases e) (fun _ => rfl) hdc hcd hbb).1 rfl
  exact q2.mono q1
end PmWc
