/-! WHAT A TEXT IS WORTH, OPERATIONS WAITING ON IT: by its value and its leaves. -/
def zm : Stk → Nat
  | [] => 0
  | none :: ρ => zm ρ
  | some z :: ρ => max z (zm ρ)
def hs : Stk → Bool
  | [] => false
  | none :: ρ => hs ρ
  | some _ :: _ => true
def Ek (E0 p : Nat) (π : Stk) : Nat := if hs π = true then E0 + p * zm π else E0
section PmQ4
variable {t0 s2 E0 p : Nat} {n1 h : Nat → Nat}
theorem zm_hs : ∀ π : Stk, hs π = false → zm π = 0
  | [], _ => rfl
  | none :: ρ, e => zm_hs ρ e
  | some z :: ρ, e => by cases e
theorem Ek_is (π : Stk) : Ek E0 p π = E0 + p * zm π := by
  unfold Ek
  by_cases c : hs π = true
  · rw [if_pos c]
  · rw [if_neg c, zm_hs π (by simpa using c), Nat.mul_zero, Nat.add_zero]
theorem Ek_tail (q : Option Nat) (ρ : Stk) : Ek E0 p ρ ≤ Ek E0 p (q :: ρ) := by
  rw [Ek_is, Ek_is]
  have : zm ρ ≤ zm (q :: ρ) := by
    cases q with
    | none => exact Nat.le_refl _
    | some z => exact Nat.le_max_right _ _
  have := Nat.mul_le_mul_left p this
  omega
theorem zm_tail (q : Option Nat) (ρ : Stk) : zm ρ ≤ zm (q :: ρ) := by
  cases q with
  | none => exact Nat.le_refl _
  | some z => exact Nat.le_max_right _ _
theorem hzx_le (hm : ∀ y y', y ≤ y' → h y ≤ h y') {z z' : Nat} (hz : z ≤ z') : ∀ y y', y ≤ y' → hzx h z y ≤ hzx h z' y' := by
  intro y y' hy
  have := hm y y' hy
  unfold hzx; omega
theorem h_hzx (hm : ∀ y y', y ≤ y' → h y ≤ h y') (z : Nat) : ∀ y y', y ≤ y' → h y ≤ hzx h z y' := by
  intro y y' hy
  have := hm y y' hy
  unfold hzx; omega
/-- no more than a variable, or the text with all that it binds raised -/
theorem vz_up (hm : ∀ y y', y ≤ y' → h y ≤ h y') : ∀ (f : Nat) (t : Ty) (π : Stk) (ω : List Nat), (flat t).length ≤ f → ok ω.length t = true → vz t0 n1 s2 h (Ek E0 p) t π ω ≤ max (Ek E0 p π) (nz t0 n1 s2 (hzx h (zm π)) ω t)
  | 0, t, π, ω, hf, o => by have := flat_pos o; omega
  | f + 1, t, π, ω, hf, o => by
    cases π with
    | nil =>
      rw [vz_no o]
      have := nz_mono (t0 := t0) (n1 := n1) (s2 := s2) (h_hzx hm (zm [])) _ t ω ω (Nat.le_refl _) rfl o (fun j _ => Nat.le_refl _)
      omega
    | cons q ρ =>
      have et := Ek_tail (E0 := E0) (p := p) q ρ
      rcases ok_cases o with rfl | ⟨j, hj, rfl⟩ | ⟨a, c, rfl, ha, hb⟩ | ⟨a, c, rfl, ha, hb⟩ | ⟨m, x, y, z, hm', rfl, h0, h1, h2⟩
      · rw [vz_top]; exact Nat.zero_le _
      · rw [vz_var]; exact Nat.le_max_left _ _
      · rw [flat_fun, List.length_cons, List.length_append] at hf
        cases q with
        | none =>
          rw [vz_funN, nz_fun]
          have q1 := vz_up hm f c ρ ω (by omega) hb
          have ez : zm (none :: ρ) = zm ρ := rfl
          rw [ez]; omega
        | some w => rw [vz_funS]; exact Nat.zero_le _
      · rw [flat_all, List.length_cons, List.length_append] at hf
        cases q with
        | none => rw [vz_allN]; exact Nat.zero_le _
        | some w =>
          rw [vz_allS, nz_all]
          have q1 := vz_up hm f c ρ (hzx h w (nz t0 n1 s2 h ω a) :: ω) (by omega) (by rw [List.length_cons]; exact hb)
          have ez : zm (some w :: ρ) = max w (zm ρ) := rfl
          have qa := nz_mono (t0 := t0) (n1 := n1) (s2 := s2) (h_hzx hm (max w (zm ρ))) _ a ω ω (Nat.le_refl _) rfl ha (fun j _ => Nat.le_refl _)
          have q2 := nz_mono (t0 := t0) (n1 := n1) (s2 := s2) (hzx_le hm (Nat.le_max_right w (zm ρ))) _ c (hzx h w (nz t0 n1 s2 h ω a) :: ω) (hzx h (max w (zm ρ)) (nz t0 n1 s2 (hzx h (max w (zm ρ))) ω a) :: ω) (Nat.le_refl _) rfl (by rw [List.length_cons]; exact hb) (fun j hj => by
            rw [vw_cons, vw_cons]
            by_cases e : j = ω.length
            · rw [if_pos e, if_pos e]
              exact hzx_le hm (Nat.le_max_left _ _) _ _ qa
            · rw [if_neg e, if_neg e]; exact Nat.le_refl _)
          rw [ez]; omega
      · rw [flat_rec, List.length_cons, List.length_append, List.length_append] at hf
        cases q with
        | some w => rw [vz_recS]; exact Nat.zero_le _
        | none =>
          have ez : zm (none :: ρ) = zm ρ := rfl
          have key : ∀ (i : Nat) (r : Ty), (flat r).length ≤ f → okl ω.length m i r → vz t0 n1 s2 h (Ek E0 p) r ρ ω ≤ max (Ek E0 p ρ) (nz t0 n1 s2 (hzx h (zm ρ)) ω r) := by
            intro i r hp ho
            unfold okl at ho
            by_cases hb : bit m i = true
            · rw [if_pos hb] at ho
              exact vz_up hm f r ρ ω hp ho
            · rw [if_neg hb] at ho
              rw [ho, vz_nil]; exact Nat.zero_le _
          rw [vz_recN, nz_rec, ez]
          have q0 := key 0 x (by omega) h0
          have q1 := key 1 y (by omega) h1
          have q2 := key 2 z (by omega) h2
          omega
/-- raised values: a unit more for each leaf -/
theorem nz_flv (hm : ∀ y y', y ≤ y' → h y ≤ h y') (hh : ∀ y δ, h (y + δ) ≤ h y + δ) {z : Nat} : ∀ (f : Nat) (t : Ty) (ω ω' : List Nat) (δ : Nat), (flat t).length ≤ f → ω'.length = ω.length → ok ω.length t = true → z ≤ δ → (∀ j, j < ω.length → vw ω' j ≤ vw ω j + δ) → nz t0 n1 s2 (hzx h z) ω' t ≤ nz t0 n1 s2 h ω t + flv t * δ
  | 0, t, ω, ω', δ, hf, l1, o, hz, hw => by have := flat_pos o; omega
  | f + 1, t, ω, ω', δ, hf, l1, o, hz, hw => by
    rcases ok_cases o with rfl | ⟨j, hj, rfl⟩ | ⟨a, c, rfl, ha, hb⟩ | ⟨a, c, rfl, ha, hb⟩ | ⟨m, x, y, w, hm', rfl, h0, h1, h2⟩
    · rw [nz_top, nz_top]; omega
    · rw [nz_var, nz_var, flv_var, Nat.one_mul]; exact hw j hj
    · rw [flat_fun, List.length_cons, List.length_append] at hf
      rw [nz_fun, nz_fun, flv_fun, Nat.add_mul]
      have q1 := nz_flv hm hh (z := z) f a ω ω' δ (by omega) l1 ha hz hw
      have q2 := nz_flv hm hh f c ω ω' δ (by omega) l1 hb hz hw
      omega
    · rw [flat_all, List.length_cons, List.length_append] at hf
      rw [nz_all, nz_all, flv_all]
      have q1 := nz_flv hm hh (z := z) f a ω ω' δ (by omega) l1 ha hz hw
      have m1 : δ ≤ max 1 (flv a) * δ := by
        have := Nat.mul_le_mul_right δ (Nat.le_max_left 1 (flv a))
        omega
      have m2 : flv a * δ ≤ max 1 (flv a) * δ := Nat.mul_le_mul_right δ (Nat.le_max_right 1 (flv a))
      have q2 := nz_flv hm hh (z := z) f c (h (nz t0 n1 s2 h ω a) :: ω) (hzx h z (nz t0 n1 s2 (hzx h z) ω' a) :: ω') (max 1 (flv a) * δ) (by omega) (by rw [List.length_cons, List.length_cons, l1]) (by rw [List.length_cons]; exact hb) (by omega) (fun j hj => by
        rw [vw_cons, vw_cons, l1]
        by_cases e : j = ω.length
        · rw [if_pos e, if_pos e]
          have r1 := hm _ _ q1
          have r2 := hh (nz t0 n1 s2 h ω a) (flv a * δ)
          have r3 : z ≤ h (nz t0 n1 s2 h ω a) + max 1 (flv a) * δ := by omega
          show max z (h (nz t0 n1 s2 (hzx h z) ω' a)) ≤ _
          omega
        · rw [if_neg e, if_neg e]
          have := hw j (by rw [List.length_cons] at hj; omega)
          omega)
      rw [← Nat.mul_assoc] at q2
      generalize flv c * max 1 (flv a) * δ = w at q2 ⊢
      omega
    · rw [flat_rec, List.length_cons, List.length_append, List.length_append] at hf
      have key : ∀ (i : Nat) (q : Ty), (flat q).length ≤ f → okl ω.length m i q → nz t0 n1 s2 (hzx h z) ω' q ≤ nz t0 n1 s2 h ω q + flv q * δ := by
        intro i q hp ho
        unfold okl at ho
        by_cases hb : bit m i = true
        · rw [if_pos hb] at ho
          exact nz_flv hm hh f q ω ω' δ hp l1 ho hz hw
        · rw [if_neg hb] at ho
          rw [ho, nz_nil, nz_nil]; omega
      rw [nz_rec, nz_rec, flv_rec, Nat.add_mul, Nat.add_mul]
      have q0 := key 0 x (by omega) h0
      have q1 := key 1 y (by omega) h1
      have q2 := key 2 w (by omega) h2
      omega
/-- a text of value at most E0 with at most p leaves -/
theorem vz_bd (hm : ∀ y y', y ≤ y' → h y ≤ h y') (hh : ∀ y δ, h (y + δ) ≤ h y + δ) {t : Ty} {ω : List Nat} (o : ok ω.length t = true) (hv : nz t0 n1 s2 h ω t ≤ E0) (hp : flv t ≤ p) (ρ : Stk) : vz t0 n1 s2 h (Ek E0 p) t ρ ω ≤ Ek E0 p ρ := by
  have q1 := vz_up (t0 := t0) (n1 := n1) (s2 := s2) (E0 := E0) (p := p) hm _ t ρ ω (Nat.le_refl _) o
  have q2 := nz_flv (t0 := t0) (n1 := n1) (s2 := s2) hm hh (z := zm ρ) _ t ω ω (zm ρ) (Nat.le_refl _) rfl o (Nat.le_refl _) (fun j _ => by omega)
  have q3 := Nat.mul_le_mul_right (zm ρ) hp
  have q4 := Ek_is (E0 := E0) (p := p) ρ
  omega
theorem nsch_fun (a b : Ty) : nsch (tFun a b) = (nsch a && nsch b) := by simp [tFun, nsch]
theorem nsch_all (a b : Ty) : nsch (tAll a b) = false := by simp [tAll, nsch]
theorem nsch_rec {m : Nat} (x y z : Ty) : nsch (tRec m x y z) = (nsch x && (nsch y && nsch z)) := by
  unfold tRec
  rw [nsch, nsch, show (8 + m == 2) = false from by simp; omega]
  rfl
/-- without schemes nothing is raised -/
theorem nz_nsch {z : Nat} : ∀ (f : Nat) (t : Ty) (ω : List Nat), (flat t).length ≤ f → ok ω.length t = true → nsch t = true → nz t0 n1 s2 (hzx h z) ω t = nz t0 n1 s2 h ω t
  | 0, t, ω, hf, o, _ => by have := flat_pos o; omega
  | f + 1, t, ω, hf, o, hn => by
    rcases ok_cases o with rfl | ⟨j, hj, rfl⟩ | ⟨a, c, rfl, ha, hb⟩ | ⟨a, c, rfl, ha, hb⟩ | ⟨m, x, y, w, hm', rfl, h0, h1, h2⟩
    · rw [nz_top, nz_top]
    · rw [nz_var, nz_var]
    · rw [flat_fun, List.length_cons, List.length_append] at hf
      rw [nsch_fun, Bool.and_eq_true] at hn
      rw [nz_fun, nz_fun, nz_nsch f a ω (by omega) ha hn.1, nz_nsch f c ω (by omega) hb hn.2]
    · rw [nsch_all] at hn; cases hn
    · rw [flat_rec, List.length_cons, List.length_append, List.length_append] at hf
      rw [nsch_rec, Bool.and_eq_true, Bool.and_eq_true] at hn
      have key : ∀ (i : Nat) (q : Ty), (flat q).length ≤ f → okl ω.length m i q → nsch q = true → nz t0 n1 s2 (hzx h z) ω q = nz t0 n1 s2 h ω q := by
        intro i q hp ho hq
        unfold okl at ho
        by_cases hb : bit m i = true
        · rw [if_pos hb] at ho
          exact nz_nsch f q ω hp ho hq
        · rw [if_neg hb] at ho
          rw [ho, nz_nil, nz_nil]
      rw [nz_rec, nz_rec, key 0 x (by omega) h0 hn.1, key 1 y (by omega) h1 hn.2.1, key 2 w (by omega) h2 hn.2.2]
theorem vz_bn (hm : ∀ y y', y ≤ y' → h y ≤ h y') {t : Ty} {ω : List Nat} (o : ok ω.length t = true) (hv : nz t0 n1 s2 h ω t ≤ E0) (hp : nsch t = true) (ρ : Stk) : vz t0 n1 s2 h (Ek E0 p) t ρ ω ≤ Ek E0 p ρ := by
  have q1 := vz_up (t0 := t0) (n1 := n1) (s2 := s2) (E0 := E0) (p := p) hm _ t ρ ω (Nat.le_refl _) o
  rw [nz_nsch _ t ω (Nat.le_refl _) o hp] at q1
  have q4 := Ek_is (E0 := E0) (p := p) ρ
  omega
/-- all bounds of the context -/
def BEk (t0 : Nat) (n1 : Nat → Nat) (s2 : Nat) (h : Nat → Nat) (E0 p : Nat) : List Ty → List Nat → Prop
  | [], [] => True
  | b :: Γ, _ :: ω => (nz t0 n1 s2 h ω b ≤ E0 ∧ (nsch b = true ∨ flv b ≤ p)) ∧ BEk t0 n1 s2 h E0 p Γ ω
  | _, _ => False
theorem BEk.he (hm : ∀ y y', y ≤ y' → h y ≤ h y') (hh : ∀ y δ, h (y + δ) ≤ h y + δ) : ∀ {Γ : List Ty} {ω : List Nat}, okc Γ → ω.length = Γ.length → BEk t0 n1 s2 h E0 p Γ ω → HEk t0 n1 s2 h (Ek E0 p) Γ ω
  | [], [], _, _, _ => trivial
  | b :: Γ, w :: ω, hc, hl, hb => by
    have hl' : ω.length = Γ.length := by simpa using hl
    refine ⟨fun ρ _ => ?_, BEk.he hm hh hc.2 hl' hb.2⟩
    have ob : ok ω.length b = true := by rw [hl']; exact hc.1
    rcases hb.1.2 with c | c
    · exact vz_bn hm ob hb.1.1 c ρ
    · exact vz_bd hm hh ob hb.1.1 c ρ
  | [], _ :: _, _, _, hb => hb.elim
  | _ :: _, [], _, _, hb => hb.elim
end PmQ4
