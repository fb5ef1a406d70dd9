/-! A BODY THAT IS NO SCHEME, SHORT TERMS: two arguments in a row are never taken. -/
section PmZj
variable {t0 s2 : Nat} {n1 h : Nat → Nat}
/-- what waits is worth no more -/
theorem vz_Es {E E' : Stk → Nat} : ∀ (f : Nat) (t : Ty) (ρ : Stk) (ω : List Nat), (flat t).length ≤ f → ok ω.length t = true → (∀ σ : Stk, σ ≠ [] → σ.length ≤ ρ.length → E σ ≤ E' σ) → vz t0 n1 s2 h E t ρ ω ≤ vz t0 n1 s2 h E' t ρ ω
  | 0, t, _, _, hf, o, _ => by have := flat_pos o; omega
  | f + 1, t, ρ, ω, hf, o, hE => by
    cases ρ with
    | nil => rw [vz_no (E := E) o, vz_no (E := E') o]; exact Nat.le_refl _
    | cons p ρ =>
      have hE' : ∀ σ : Stk, σ ≠ [] → σ.length ≤ ρ.length → E σ ≤ E' σ := fun σ h1 h2 => hE σ h1 (by rw [List.length_cons]; omega)
      rcases ok_cases o with rfl | ⟨j, hj, rfl⟩ | ⟨a, c, rfl, ha, hb⟩ | ⟨a, c, rfl, ha, hb⟩ | ⟨m, x, y, z, hm, rfl, h0, h1, h2⟩
      · rw [vz_top (E := E), vz_top (E := E')]; exact Nat.le_refl _
      · rw [vz_var (E := E), vz_var (E := E')]; exact hE _ (by simp) (Nat.le_refl _)
      · rw [flat_fun, List.length_cons, List.length_append] at hf
        cases p with
        | none => rw [vz_funN (E := E), vz_funN (E := E')]; exact vz_Es f c ρ ω (by omega) hb hE'
        | some w => rw [vz_funS (E := E), vz_funS (E := E')]; exact Nat.le_refl _
      · rw [flat_all, List.length_cons, List.length_append] at hf
        cases p with
        | none => rw [vz_allN (E := E), vz_allN (E := E')]; exact Nat.le_refl _
        | some w => rw [vz_allS (E := E), vz_allS (E := E')]; exact vz_Es f c ρ _ (by omega) (by rw [List.length_cons]; exact hb) hE'
      · rw [flat_rec, List.length_cons, List.length_append, List.length_append] at hf
        cases p with
        | some w => rw [vz_recS (E := E), vz_recS (E := E')]; exact Nat.le_refl _
        | none =>
          have key : ∀ (i : Nat) (u : Ty), (flat u).length ≤ f → okl ω.length m i u → vz t0 n1 s2 h E u ρ ω ≤ vz t0 n1 s2 h E' u ρ ω := by
            intro i u hu ho
            unfold okl at ho
            by_cases hb : bit m i = true
            · rw [if_pos hb] at ho
              exact vz_Es f u ρ ω hu ho hE'
            · rw [if_neg hb] at ho
              rw [ho, vz_nil (E := E), vz_nil (E := E')]; exact Nat.le_refl _
          rw [vz_recN (E := E), vz_recN (E := E')]
          have q0 := key 0 x (by omega) h0
          have q1 := key 1 y (by omega) h1
          have q2 := key 2 z (by omega) h2
          omega
/-- at most two operations: es, more: e2 -/
def E5 (X7 : Nat) (eb es e2 : Nat → Nat) (π : Stk) : Nat := if π.length ≤ 2 then E2 X7 eb es π else E2 X7 eb e2 π
variable {X7 : Nat} {eb es e2 : Nat → Nat}
theorem E2_le (les : ∀ z, es z ≤ e2 z) (π : Stk) : E2 X7 eb es π ≤ E2 X7 eb e2 π := by
  have := les (zm π)
  unfold E2
  split
  · split <;> omega
  · exact Nat.le_refl _
theorem E5_b (les : ∀ z, es z ≤ e2 z) (π : Stk) : E5 X7 eb es e2 π ≤ E2 X7 eb e2 π := by
  unfold E5
  split
  · exact E2_le les π
  · exact Nat.le_refl _
theorem E5_s {π : Stk} (h : π.length ≤ 2) : E5 X7 eb es e2 π = E2 X7 eb es π := by unfold E5; rw [if_pos h]
theorem E5_l {π : Stk} (h : ¬ π.length ≤ 2) : E5 X7 eb es e2 π = E2 X7 eb e2 π := by unfold E5; rw [if_neg h]
/-- both lengths of stacks -/
theorem vz_E5 (les : ∀ z, es z ≤ e2 z) {t : Ty} {ρ : Stk} {ω : List Nat} (o : ok ω.length t = true) (hs : ρ.length ≤ 2 → vz t0 n1 s2 h (E2 X7 eb es) t ρ ω ≤ E2 X7 eb es ρ) (hb : vz t0 n1 s2 h (E2 X7 eb e2) t ρ ω ≤ E2 X7 eb e2 ρ) : vz t0 n1 s2 h (E5 X7 eb es e2) t ρ ω ≤ E5 X7 eb es e2 ρ := by
  by_cases c : ρ.length ≤ 2
  · rw [E5_s c]
    refine Nat.le_trans (vz_Es _ t ρ ω (Nat.le_refl _) o (fun σ _ hσ => ?_)) (hs c)
    rw [E5_s (by omega)]
    exact Nat.le_refl _
  · rw [E5_l c]
    exact Nat.le_trans (vz_Es _ t ρ ω (Nat.le_refl _) o (fun σ _ _ => E5_b les σ)) hb
theorem SKb_len {Z : Nat → Nat → Nat} {gy : Nat → Nat} {b : Nat} : ∀ (π : Stk) (w : Nat), SKb Z gy b π w → 2 * π.length ≤ w
  | [], _, _ => Nat.zero_le _
  | none :: ρ, w, h => by
    have := SKb_len ρ _ h.2
    have := h.1
    rw [List.length_cons]; omega
  | some z :: ρ, w, h => by
    obtain ⟨s, s1, s2, s3, s4⟩ := h
    have := SKb_len ρ _ s4
    rw [List.length_cons]; omega
theorem SKb_zl {Z : Nat → Nat → Nat} {gy : Nat → Nat} {b : Nat} (hZ : ∀ s s', s ≤ s' → Z b s ≤ Z b s') : ∀ (π : Stk) (w : Nat), SKb Z gy b π w → zm π ≤ Z b (w + 1 - 2 * π.length)
  | [], _, _ => Nat.zero_le _
  | none :: ρ, w, h => by
    have q := SKb_zl hZ ρ _ h.2
    have h1 := h.1
    have e : zm (none :: ρ) = zm ρ := rfl
    rw [e, List.length_cons]
    exact Nat.le_trans q (hZ _ _ (by omega))
  | some z :: ρ, w, h => by
    obtain ⟨s, s1, s2, s3, s4⟩ := h
    have q := SKb_zl hZ ρ _ s4
    have l := SKb_len ρ _ s4
    have e : zm (some z :: ρ) = max z (zm ρ) := rfl
    rw [e, List.length_cons]
    exact Nat.max_le.mpr ⟨Nat.le_trans s3.1 (hZ _ _ (by omega)), Nat.le_trans q (hZ _ _ (by omega))⟩
/-- a head: at most two operations, or more -/
def H5 (X7 : Nat) (eb es e2 : Nat → Nat) (Z : Nat → Nat) (w : Nat) : Nat := max (Hdw X7 eb es Z w) (if Nat.ble 6 w then e2 (Z (w - 5)) else 0)
theorem E5_w {gy : Nat → Nat} {Z : Nat → Nat → Nat} {b : Nat} (he : ∀ z z', z ≤ z' → eb z ≤ eb z') (hes : ∀ z z', z ≤ z' → es z ≤ es z') (he2 : ∀ z z', z ≤ z' → e2 z ≤ e2 z') (hZ : ∀ s s', s ≤ s' → Z b s ≤ Z b s') (π : Stk) (w : Nat) (sk : SKb Z gy b π w) : E5 X7 eb es e2 π ≤ H5 X7 eb es e2 (Z b) w := by
  have a := E2_w (X7 := X7) he hes hZ π w sk
  by_cases c : π.length ≤ 2
  · rw [E5_s c]
    exact Nat.le_trans a (Nat.le_max_left _ _)
  · rw [E5_l c]
    have l := SKb_len π w sk
    have q := he2 _ _ (Nat.le_trans (SKb_zl hZ π w sk) (hZ _ (w - 5) (by omega)))
    unfold H5
    rw [if_pos (Nat.ble_eq_true_of_le (show 6 ≤ w by omega))]
    unfold E2 at a ⊢
    by_cases c1 : hs π = true
    · rw [if_pos c1] at a ⊢
      by_cases c2 : cnS π ≤ 1
      · rw [if_pos c2] at a ⊢; omega
      · rw [if_neg c2] at a ⊢; omega
    · rw [if_neg c1] at a ⊢; omega
theorem DHy5 {un : Bool} {a5 fn r0 r1 r2 r3 mt : Nat} {V gy : Nat → Nat} {Z Ha Hb : Nat → Nat → Nat} {D D' : Nat → Nat → Nat → Nat} (he : ∀ z z', z ≤ z' → eb z ≤ eb z') (hes : ∀ z z', z ≤ z' → es z ≤ es z') (he2 : ∀ z z', z ≤ z' → e2 z ≤ e2 z') (les : ∀ z, es z ≤ e2 z) (ds : DHy un a5 t0 fn s2 r0 r1 r2 r3 mt n1 h V gy Z Ha (E2 X7 eb es) D) (db : DHy un a5 t0 fn s2 r0 r1 r2 r3 mt n1 h V gy Z Hb (E2 X7 eb e2) D') : DHy un a5 t0 fn s2 r0 r1 r2 r3 mt n1 h V gy Z (fun b => H5 X7 eb es e2 (Z b)) (E5 X7 eb es e2) (DT un a5 fn s2 r0 r1 r2 r3 V Z (fun b => H5 X7 eb es e2 (Z b)) mt) := by
  have zm' := ds.zm
  obtain ⟨d1, d2, d3, d4, d5, d6, d7⟩ := ds
  exact ⟨d1, d2, d3, DT_ok, fun b π w hπ sk hw => E5_w he hes he2 (fun s s' hs => zm' b b s s' (Nat.le_refl _) hs) π w sk, fun A ω b o ht hw => ⟨fun ρ hρ => vz_E5 les o (fun _ => (d6 A ω b o ht hw).1 ρ hρ) ((db.tx A ω b o ht hw).1 ρ hρ), (d6 A ω b o ht hw).2⟩, d7⟩
theorem DVn5 {V0 : Nat} {ω : List Nat} {Δ : List (Nat × Ty × Nat)} (les : ∀ z, es z ≤ e2 z) (ds : DVn t0 n1 s2 h (E2 X7 eb es) V0 ω Δ) (db : DVn t0 n1 s2 h (E2 X7 eb e2) V0 ω Δ) : DVn t0 n1 s2 h (E5 X7 eb es e2) V0 ω Δ := by
  intro a ha
  obtain ⟨ν, ω1, e1, e2', e3, e4, e5⟩ := ds a ha
  obtain ⟨ν', ω1', f1, f2, f3, f4, f5⟩ := db a ha
  have eω : ω1' = ω1 := by
    have q : (ν' ++ ω1').drop ν'.length = (ν ++ ω1).drop ν'.length := by rw [← f1, ← e1]
    have ll : ν'.length = ν.length := by
      have a1 := congrArg List.length e1
      have a2 := congrArg List.length f1
      rw [List.length_append] at a1 a2
      omega
    rw [List.drop_left, ll, List.drop_left] at q
    exact q
  subst eω
  exact ⟨ν, ω1', e1, e2', e3, e4, fun ρ hρ => vz_E5 les e3 (fun _ => e5 ρ hρ) (f5 ρ hρ)⟩
/-- short stacks -/
def HEs (t0 : Nat) (n1 : Nat → Nat) (s2 : Nat) (h : Nat → Nat) (X7 : Nat) (eb es : Nat → Nat) : List Ty → List Nat → Prop
  | [], [] => True
  | b :: Γ, _ :: ω => (∀ ρ, ρ ≠ [] → ρ.length ≤ 2 → vz t0 n1 s2 h (E2 X7 eb es) b ρ ω ≤ E2 X7 eb es ρ) ∧ HEs t0 n1 s2 h X7 eb es Γ ω
  | _, _ => False
theorem HEs_of : ∀ {Γ : List Ty} {ω : List Nat}, HEk t0 n1 s2 h (E2 X7 eb es) Γ ω → HEs t0 n1 s2 h X7 eb es Γ ω
  | [], [], _ => trivial
  | _ :: _, _ :: _, hE => ⟨fun ρ hρ _ => hE.1 ρ hρ, HEs_of hE.2⟩
  | [], _ :: _, hE => hE.elim
  | _ :: _, [], hE => hE.elim
theorem HEk5 (les : ∀ z, es z ≤ e2 z) : ∀ {Γ : List Ty} {ω : List Nat}, okc Γ → ω.length = Γ.length → HEk t0 n1 s2 h (E2 X7 eb e2) Γ ω → HEs t0 n1 s2 h X7 eb es Γ ω → HEk t0 n1 s2 h (E5 X7 eb es e2) Γ ω
  | [], [], _, _, _, _ => trivial
  | b :: Γ, _ :: ω, hc, hl, hE, hS => by
    have hl' : ω.length = Γ.length := by simpa using hl
    have ob : ok ω.length b = true := by rw [hl']; exact hc.1
    exact ⟨fun ρ hρ => vz_E5 les ob (hS.1 ρ hρ) (hE.1 ρ hρ), HEk5 les hc.2 hl' hE.2 hS.2⟩
  | [], _ :: _, _, _, hE, _ => hE.elim
  | _ :: _, [], _, _, hE, _ => hE.elim
theorem vz_s5 (he : ∀ z z', z ≤ z' → eb z ≤ eb z') (he2 : ∀ z z', z ≤ z' → es z ≤ es z') (hm : ∀ y y', y ≤ y' → h y ≤ h y') {B C : Ty} {ω : List Nat} (o : ok ω.length (tAll B C) = true) (hC : hd C ≠ 2 ∧ hd C < 16) (hz : ∀ z, nz t0 n1 s2 h (hzx h z (nz t0 n1 s2 h ω B) :: ω) C ≤ eb z) : ∀ ρ : Stk, ρ ≠ [] → ρ.length ≤ 2 → vz t0 n1 s2 h (E2 X7 eb es) (tAll B C) ρ ω ≤ E2 X7 eb es ρ
  | [], hρ, _ => absurd rfl hρ
  | none :: ρ, _, _ => by rw [vz_allN]; exact Nat.zero_le _
  | [some z], _, _ => by
    have oC : ok (hzx h z (nz t0 n1 s2 h ω B) :: ω).length C = true := by rw [List.length_cons]; exact (ok_all.mp o).2
    rw [vz_allS, vz_no oC]
    refine Nat.le_trans (hz z) ?_
    have q := E2_e (X7 := X7) (eb := eb) (e2 := es) [some z] rfl
    have e1 : zm [some z] = z := by
      show max z 0 = z
      omega
    rw [e1] at q
    exact q
  | [some z, none], _, _ => by
    have oC : ok (hzx h z (nz t0 n1 s2 h ω B) :: ω).length C = true := by rw [List.length_cons]; exact (ok_all.mp o).2
    rw [vz_allS]
    have q1 := vz_upE (t0 := t0) (n1 := n1) (s2 := s2) (h := h) (E := E2 X7 eb es) (E2_m he he2) hm _ C [none] _ (Nat.le_refl _) oC
    have e0 : zm [none] = 0 := rfl
    rw [e0, show hzx h 0 = h from hzx_0] at q1
    have q2 := E2_m (X7 := X7) he he2 (some z) [none]
    have q3 := E2_e (X7 := X7) (eb := eb) (e2 := es) [some z, none] rfl
    have e1 : zm [some z, none] = z := by
      show max z 0 = z
      omega
    rw [e1] at q3
    have q4 := hz z
    omega
  | [some z, some w], _, _ => by
    rw [vz_allS]
    rcases ok_cases (ok_all.mp o).2 with rfl | ⟨j, hj, rfl⟩ | ⟨a, c, rfl, ha, hb⟩ | ⟨a, c, rfl, ha, hb⟩ | ⟨m, x, y, v, hm', rfl, h0, h1, h2⟩
    · rw [vz_top]; exact Nat.zero_le _
    · have := hC.2
      rw [hd_var] at this
      omega
    · rw [vz_funS]; exact Nat.zero_le _
    · exact absurd (hd_all _ _) hC.1
    · rw [vz_recS]; exact Nat.zero_le _
  | some _ :: _ :: _ :: _, _, hl => by
    rw [List.length_cons, List.length_cons, List.length_cons] at hl
    omega
theorem HEs_cx {y : Nat} {B C β' : Ty} {Γ0 : List Ty} (hn : NC t0 n1 s2 h) (hm : ∀ y y', y ≤ y' → h y ≤ h y') (hh : ∀ y δ, h (y + δ) ≤ h y + δ) (he : ∀ z z', z ≤ z' → eb z ≤ eb z') (he2 : ∀ z z', z ≤ z' → es z ≤ es z') (h7 : y ≤ X7) (hC : hd C ≠ 2 ∧ hd C < 16) (hz : ∀ z, nz t0 n1 s2 h (hzx h z (nz t0 n1 s2 h (onz t0 n1 s2 h Γ0) B) :: onz t0 n1 s2 h Γ0) C ≤ eb z) (hp0 : ∀ b ∈ Γ0, nsch b = true ∨ ∀ z, y + flv b * z ≤ eb z) : ∀ (Δ1 : List Ty), okc (cxs Δ1 Γ0 (tAll B C)) → (∀ j, j < (cxs Δ1 Γ0 β').length → vw (onz t0 n1 s2 h (cxs Δ1 Γ0 β')) j ≤ y) → (∀ b ∈ Δ1, nsch b = true ∨ ∀ z, y + flv b * z ≤ eb z) → HEs t0 n1 s2 h X7 eb es (cxs Δ1 Γ0 (tAll B C)) (onz t0 n1 s2 h (cxs Δ1 Γ0 β'))
  | [], oc, hv, _ => by
    have l1 := onz_len t0 n1 s2 h Γ0
    refine ⟨vz_s5 he he2 hm (by rw [l1]; exact oc.1) hC hz, HEs_of (BE2.he he he2 hm hh oc.2 l1 (BE2_onz hn h7 (fun j hj => ?_) hp0))⟩
    have q2 := hv j (by rw [cxs_len]; omega)
    have e2' : vw (onz t0 n1 s2 h (cxs [] Γ0 β')) j = vw (onz t0 n1 s2 h Γ0) j := by
      show vw (h (nz t0 n1 s2 h (onz t0 n1 s2 h Γ0) β') :: onz t0 n1 s2 h Γ0) j = _
      rw [vw_cons, l1, if_neg (by omega)]
    rw [e2'] at q2
    exact q2
  | a :: Δ1, oc, hv, hp => by
    have l1 := onz_len t0 n1 s2 h (cxs Δ1 Γ0 β')
    have l2 := cxs_ll (Δ := Δ1) (Γ0 := Γ0) β' (tAll B C)
    have q := hv (cxs Δ1 Γ0 β').length (by show _ < (a :: cxs Δ1 Γ0 β').length; rw [List.length_cons]; omega)
    have e : vw (onz t0 n1 s2 h (cxs (a :: Δ1) Γ0 β')) (cxs Δ1 Γ0 β').length = h (nz t0 n1 s2 h (onz t0 n1 s2 h (cxs Δ1 Γ0 β')) a) := by
      show vw (h (nz t0 n1 s2 h (onz t0 n1 s2 h (cxs Δ1 Γ0 β')) a) :: onz t0 n1 s2 h (cxs Δ1 Γ0 β')) (cxs Δ1 Γ0 β').length = _
      rw [vw_cons, l1, if_pos rfl]
    rw [e] at q
    have q := Nat.le_trans (hn.2.2.1 _) q
    have oa : ok (onz t0 n1 s2 h (cxs Δ1 Γ0 β')).length a = true := by rw [l1, l2]; exact oc.1
    refine ⟨fun ρ _ _ => vz_l2 he he2 hm hh oa (Nat.le_trans q h7) ((hp a (List.mem_cons_self ..)).imp id (fun c z => Nat.le_trans (Nat.add_le_add_right q _) (c z))) ρ, HEs_cx hn hm hh he he2 h7 hC hz hp0 Δ1 oc.2 (fun j hj => ?_) (fun c hc => hp c (List.mem_cons_of_mem _ hc))⟩
    have q2 := hv j (by show j < (a :: cxs Δ1 Γ0 β').length; rw [List.length_cons]; omega)
    have e2' : vw (onz t0 n1 s2 h (cxs (a :: Δ1) Γ0 β')) j = vw (onz t0 n1 s2 h (cxs Δ1 Γ0 β')) j := by
      show vw (h (nz t0 n1 s2 h (onz t0 n1 s2 h (cxs Δ1 Γ0 β')) a) :: onz t0 n1 s2 h (cxs Δ1 Γ0 β')) j = _
      rw [vw_cons, l1, if_neg (by omega)]
    rw [e2'] at q2
    exact q2
end PmZj
section PmZk
variable {t0 fn s2 hv r0 r1 r2 r3 x0 : Nat} {n1 h : Nat → Nat} {P Q : List (List Nat)} {F G W : FrT} {X : List Nat} {B C β' : Ty} {Γ0 : List Ty}
def dp5 (un : Bool) (F W : FrT) (a5 hv fn s2 r0 r1 r2 r3 E0 p wB ob k y cd m : Nat) : Nat := DT un a5 fn s2 r0 r1 r2 r3 (Vbw F W y cd) (Zbw F W y) (fun b => H5 (X7w F W y cd m) (ebw F W hv y cd m E0 p wB ob) (e2w F W hv y cd m 0) (e2w F W hv y cd m k) (Zbw F W y b)) m m 0 0
/-- as gen_fin5, the body no scheme -/
theorem gen_fin7 (hn : NC t0 n1 s2 h) (hm : ∀ y y', y ≤ y' → h y ≤ h y') (hh : ∀ y δ, h (y + δ) ≤ h y + δ) (T : TBs 58 t0 fn s2 hv r0 r1 r2 r3 x0 n1 h P Q F G X) (hFm : frm F = true) (hgr : fgc F W hv = true) (hWm : fgm W = true) (hW1 : fg1s W = true) (hW : (1, 0) ∈ frg W 0) (H1 : ∀ y, h y ≤ hv + max 1 y) {f : Nat} {t S : Ty} {Δ1 : List Ty} {Δ : List (Nat × Ty × Nat)} {un : Bool} {a5 ob cd wB Bd y E0 p k : Nat} (w : TWf f (cxs Δ1 Γ0 (tAll B C)).length (Δ.map (fun a => a.1)) t) (he : TE (cxs Δ1 Γ0 (tAll B C)) Δ) (cu : un = true ∨ COk f t 0) (hm30 : mch t ≤ 30) (hb0 : ∀ b ∈ Γ0, nsch b = true ∨ flv b ≤ ob) (hb1 : ∀ b ∈ Δ1, nsch b = true ∨ flv b ≤ ob) (hdc : dch Δ ≤ cd) (hcd : cd ≤ 56) (a55 : a5 ≤ 5) (ha5 : Δ ≠ [] → a5 = 0) (y01 : x0 ≤ y) (hw : ∀ j, j < (cxs Δ1 Γ0 β').length → vw (onz t0 n1 s2 h (cxs Δ1 Γ0 β')) j ≤ y) (go : ∀ E Z, AQh t0 n1 s2 h E Z f t [] (onz t0 n1 s2 h (cxs Δ1 Γ0 β')) → HEk t0 n1 s2 h E (cxs Δ1 Γ0 (tAll B C)) (onz t0 n1 s2 h (cxs Δ1 Γ0 β')) → GOk t0 n1 s2 h E f t [] (onz t0 n1 s2 h (cxs Δ1 Γ0 β')) (cxs Δ1 Γ0 (tAll B C)) Δ) (vZ : ∀ z, nz t0 n1 s2 h (hzx h z (nz t0 n1 s2 h (onz t0 n1 s2 h Γ0) B) :: onz t0 n1 s2 h Γ0) C ≤ E0 + p * max z wB) (hwB : h (nz t0 n1 s2 h (onz t0 n1 s2 h Γ0) B) ≤ wB) (wBy : wB ≤ y) (hC : hd C ≠ 2 ∧ hd C < 16) (hk : tch C ≤ k) (hk2 : k ≤ 50) (R1 : dp5 un F W a5 hv fn s2 r0 r1 r2 r3 E0 p wB ob k y cd (mch t) ≤ Bd) (hS : tyF f t (cxs Δ1 Γ0 (tAll B C)) Δ = .inr S) : nz t0 n1 s2 h (onz t0 n1 s2 h (cxs Δ1 Γ0 β')) S ≤ Bd := by
  obtain ⟨oc0, oA⟩ := okc_low Δ1 he.1
  have oC := (ok_all.mp oA).2
  have l0 := onz_len t0 n1 s2 h Γ0
  have dhk := fun k => dh_ok (un := un) (a5 := a5) (ob := ob) (cd := cd) (wB := wB) (y := y) (E0 := E0) (p := p) (k := k) (mt := mch t) hn hm T hFm hgr hWm hW1 hW H1 hm30 a55 y01
  have les : ∀ z, e2w F W hv y cd (mch t) 0 z ≤ e2w F W hv y cd (mch t) k z := by
    intro z
    have q5 := Zx_ms hFm (x := max z y) (s := 0 + 2) (s' := k + 2) (by omega) (by omega)
    unfold e2w
    omega
  have dh := DHy5 ebw_mono e2w_mono e2w_mono les (dhk 0) (dhk k)
  have y7 : y ≤ X7w F W y cd (mch t) := Nat.le_max_left _ _
  have gy0 : y ≤ gyw W y 0 := by
    have a0 := Zx_mem (x := y) (frg W 0) (1, 0) hW
    simp only at a0
    show y ≤ (frg W 0).foldr (fun u a => max (u.2 + u.1 * y) a) 0
    omega
  have hω2 : ∀ j, j < (onz t0 n1 s2 h (cxs Δ1 Γ0 β')).length → vw (onz t0 n1 s2 h (cxs Δ1 Γ0 β')) j ≤ y := fun j hj => hw j (by rw [onz_len] at hj; exact hj)
  have l1 : (onz t0 n1 s2 h (cxs Δ1 Γ0 β')).length = (cxs Δ1 Γ0 (tAll B C)).length := by rw [onz_len, cxs_ll β' (tAll B C)]
  have hA2 : HS2 t0 n1 s2 h (ebw F W hv y cd (mch t) E0 p wB ob) (e2w F W hv y cd (mch t) k) (onz t0 n1 s2 h Γ0) (tAll B C) := by
    refine ⟨B, C, rfl, fun z => ?_, fun z => ?_⟩
    · refine Nat.le_trans (vZ z) ?_
      unfold ebw
      exact le_mx (Or.inl (Nat.le_max_left _ _))
    · have q4 := Zx_leh T (x := max z y) (z := z) (ω := hzx h z (nz t0 n1 s2 h (onz t0 n1 s2 h Γ0) B) :: onz t0 n1 s2 h Γ0) (A := C) (by rw [List.length_cons, l0]; exact oC) (by omega) (by omega) (by omega) (fun j hj => by
        rw [vw_cons]
        by_cases e : j = (onz t0 n1 s2 h Γ0).length
        · rw [if_pos e]
          unfold hzx
          omega
        · rw [if_neg e]
          rw [List.length_cons] at hj
          have q := onz_low (t0 := t0) (n1 := n1) (s2 := s2) (h := h) (Γ0 := Γ0) (β := β') Δ1 (j := j) (by rw [l0] at hj e; omega)
          have q2 := hw j (by rw [cxs_len]; rw [l0] at hj e; omega)
          rw [q] at q2
          omega)
      have q5 := Zx_ms hFm (x := max z y) (s := tch C + 2) (s' := k + 2) (by omega) (by omega)
      unfold e2w
      exact le_mx (Or.inl (Nat.le_trans q4 q5))
  have aq := DQa dh f t [] (onz t0 n1 s2 h (cxs Δ1 Γ0 β')) (cxs Δ1 Γ0 (tAll B C)) _ 0 0 w l1 (fun j hj => Nat.le_trans (hω2 j hj) gy0) (by omega) (fun e => absurd rfl e)
  have hkb : HEk t0 n1 s2 h (E2 (X7w F W y cd (mch t)) (ebw F W hv y cd (mch t) E0 p wB ob) (e2w F W hv y cd (mch t) k)) (cxs Δ1 Γ0 (tAll B C)) (onz t0 n1 s2 h (cxs Δ1 Γ0 β')) := BE2.he ebw_mono e2w_mono hm hh he.1 l1 (BE2_cx (β' := β') (y := y) hn y7 hA2 (fun b hb => (hb0 b hb).imp id (fun c z => by have := Nat.mul_le_mul_right z c; unfold ebw; omega)) Δ1 hw (fun b hb => (hb1 b hb).imp id (fun c z => by have := Nat.mul_le_mul_right z c; unfold ebw; omega)))
  have hk1 : HEk t0 n1 s2 h (E5 (X7w F W y cd (mch t)) (ebw F W hv y cd (mch t) E0 p wB ob) (e2w F W hv y cd (mch t) 0) (e2w F W hv y cd (mch t) k)) (cxs Δ1 Γ0 (tAll B C)) (onz t0 n1 s2 h (cxs Δ1 Γ0 β')) := HEk5 les he.1 l1 hkb (HEs_cx hn hm hh ebw_mono e2w_mono y7 hC (fun z => by
    refine Nat.le_trans (vZ z) ?_
    unfold ebw
    exact le_mx (Or.inl (Nat.le_max_left _ _))) (fun b hb => (hb0 b hb).imp id (fun c z => by have := Nat.mul_le_mul_right z c; unfold ebw; omega)) Δ1 he.1 hw (fun b hb => (hb1 b hb).imp id (fun c z => by have := Nat.mul_le_mul_right z c; unfold ebw; omega)))
  have dvk : ∀ k, DVn t0 n1 s2 h (E2 (X7w F W y cd (mch t)) (ebw F W hv y cd (mch t) E0 p wB ob) (e2w F W hv y cd (mch t) k)) (Vbw F W y cd 0) (onz t0 n1 s2 h (cxs Δ1 Γ0 β')) Δ := by
    intro k a ha
    obtain ⟨a1, a2, a3⟩ := he.2.2 a ha
    have ad := dch_mem ha
    have al : a.2.2 ≤ (onz t0 n1 s2 h (cxs Δ1 Γ0 β')).length := by rw [l1]; exact a1
    have ll : ((onz t0 n1 s2 h (cxs Δ1 Γ0 β')).drop ((onz t0 n1 s2 h (cxs Δ1 Γ0 β')).length - a.2.2)).length = a.2.2 := by rw [List.length_drop]; omega
    have vv : ∀ j, j < ((onz t0 n1 s2 h (cxs Δ1 Γ0 β')).drop ((onz t0 n1 s2 h (cxs Δ1 Γ0 β')).length - a.2.2)).length → vw ((onz t0 n1 s2 h (cxs Δ1 Γ0 β')).drop ((onz t0 n1 s2 h (cxs Δ1 Γ0 β')).length - a.2.2)) j ≤ y := by
      intro j hj
      have q := vw_app_lo ((onz t0 n1 s2 h (cxs Δ1 Γ0 β')).take ((onz t0 n1 s2 h (cxs Δ1 Γ0 β')).length - a.2.2)) _ j hj
      rw [List.take_append_drop] at q
      rw [← q]
      exact hω2 j (by rw [ll] at hj; omega)
    refine ⟨(onz t0 n1 s2 h (cxs Δ1 Γ0 β')).take ((onz t0 n1 s2 h (cxs Δ1 Γ0 β')).length - a.2.2), (onz t0 n1 s2 h (cxs Δ1 Γ0 β')).drop ((onz t0 n1 s2 h (cxs Δ1 Γ0 β')).length - a.2.2), (List.take_append_drop _ _).symm, ll, by rw [ll]; exact a2, ?_, ?_⟩
    · have q1 := Zx_le T (x := y) (A := a.2.1) (by rw [ll]; exact a2) (by omega) y01 vv
      have q2 := Zx_ms hFm (x := y) (s := tch a.2.1 + 2) (s' := cd - 2) (by omega) (by omega)
      exact Nat.le_trans q1 (Nat.le_trans q2 (Nat.le_max_left _ _))
    · have c1 : Zx F y (cd - 2 - 3) ≤ X7w F W y cd (mch t) := by
        unfold X7w
        exact le_mx (Or.inr (Nat.le_max_left _ _))
      have c2 : ∀ z, cpw F hv y (cd - 2) z ≤ cpo F W hv y cd (mch t) z := fun z => Nat.le_max_left _ _
      exact txt_cp hm T hFm H1 ebw_mono e2w_mono y01 (show cd - 2 ≤ 56 by omega) c1 (fun z => ⟨by unfold ebw; exact le_mx (Or.inr (c2 z)), by unfold e2w; exact le_mx (Or.inr (c2 z))⟩) (by rw [ll]; exact a2) (by omega) vv
  have dv := DVn5 les (dvk 0) (dvk k)
  have q1 := tyF_vz hm f t (cxs Δ1 Γ0 (tAll B C)) Δ S [] (onz t0 n1 s2 h (cxs Δ1 Γ0 β')) w he hk1 (go _ _ aq hk1) hS
  rw [vz_no (tyF_ok f t _ Δ S w he hS).1] at q1
  have q2 := (DQ_all dh f t [] (onz t0 n1 s2 h (cxs Δ1 Γ0 β')) (cxs Δ1 Γ0 (tAll B C)) Δ 0 0 w l1 dv (fun j hj => Nat.le_trans (hω2 j hj) gy0) (by omega) (fun e => by have := ha5 e; omega) (fun e => absurd rfl e) cu).1 rfl
  exact Nat.le_trans q1 (Nat.le_trans q2 R1)
end PmZk
