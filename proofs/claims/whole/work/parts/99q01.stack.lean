/-! WHAT IS DONE TO A TYPE: a stack of operations; none: a part is taken, some z: an instance by what is worth z. -/
abbrev Stk : Type := List (Option Nat)
def vz (t0 : Nat) (n1 : Nat → Nat) (s2 : Nat) (h : Nat → Nat) (E : Stk → Nat) : Ty → Stk → List Nat → Nat
  | .tag c (.append s t), [], ω => nz t0 n1 s2 h ω (.tag c (.append s t))
  | .tag c (.append s t), none :: ρ, ω => if c = 2 then 0 else if c = 1 then vz t0 n1 s2 h E t ρ ω else max (vz t0 n1 s2 h E s ρ ω) (vz t0 n1 s2 h E t ρ ω)
  | .tag c (.append s t), some z :: ρ, ω => if c = 2 then vz t0 n1 s2 h E t ρ (hzx h z (nz t0 n1 s2 h ω s) :: ω) else 0
  | .tag c .nil, [], ω => nz t0 n1 s2 h ω (.tag c .nil)
  | .tag c .nil, p :: ρ, _ => if 16 ≤ c then E (p :: ρ) else 0
  | .append s t, ρ, ω => max (vz t0 n1 s2 h E s ρ ω) (vz t0 n1 s2 h E t ρ ω)
  | _, _, _ => 0
section PmQ1
variable {t0 s2 : Nat} {n1 h : Nat → Nat} {E : Stk → Nat}
theorem vz_no {D : Nat} {t : Ty} (o : ok D t = true) (ω : List Nat) : vz t0 n1 s2 h E t [] ω = nz t0 n1 s2 h ω t := by
  rcases ok_cases o with rfl | ⟨j, hj, rfl⟩ | ⟨a, c, rfl, ha, hb⟩ | ⟨a, c, rfl, ha, hb⟩ | ⟨m, x, y, z, hm, rfl, h0, h1, h2⟩
  · rfl
  · rfl
  · unfold tFun; rw [vz]
  · unfold tAll; rw [vz]
  · unfold tRec; rw [vz]
theorem vz_top (p : Option Nat) (ρ : Stk) (ω : List Nat) : vz t0 n1 s2 h E tTop (p :: ρ) ω = 0 := by
  unfold tTop; rw [vz, if_neg (by omega)]
theorem vz_var (p : Option Nat) (ρ : Stk) (ω : List Nat) (k : Nat) : vz t0 n1 s2 h E (tVar k) (p :: ρ) ω = E (p :: ρ) := by
  unfold tVar; rw [vz, if_pos (by omega)]
theorem vz_nil (ρ : Stk) (ω : List Nat) : vz t0 n1 s2 h E .nil ρ ω = 0 := by
  cases ρ <;> rfl
theorem vz_funN (ρ : Stk) (ω : List Nat) (a b : Ty) : vz t0 n1 s2 h E (tFun a b) (none :: ρ) ω = vz t0 n1 s2 h E b ρ ω := by
  unfold tFun; rw [vz, if_neg (by decide), if_pos rfl]
theorem vz_funS (z : Nat) (ρ : Stk) (ω : List Nat) (a b : Ty) : vz t0 n1 s2 h E (tFun a b) (some z :: ρ) ω = 0 := by
  unfold tFun; rw [vz, if_neg (by decide)]
theorem vz_allN (ρ : Stk) (ω : List Nat) (a b : Ty) : vz t0 n1 s2 h E (tAll a b) (none :: ρ) ω = 0 := by
  unfold tAll; rw [vz, if_pos rfl]
theorem vz_allS (z : Nat) (ρ : Stk) (ω : List Nat) (a b : Ty) : vz t0 n1 s2 h E (tAll a b) (some z :: ρ) ω = vz t0 n1 s2 h E b ρ (hzx h z (nz t0 n1 s2 h ω a) :: ω) := by
  unfold tAll; rw [vz, if_pos rfl]
theorem vz_recN (ρ : Stk) (ω : List Nat) {m : Nat} (x y z : Ty) : vz t0 n1 s2 h E (tRec m x y z) (none :: ρ) ω = max (vz t0 n1 s2 h E x ρ ω) (max (vz t0 n1 s2 h E y ρ ω) (vz t0 n1 s2 h E z ρ ω)) := by
  unfold tRec; rw [vz, if_neg (by omega), if_neg (by omega), vz]
theorem vz_recS (w : Nat) (ρ : Stk) (ω : List Nat) {m : Nat} (x y z : Ty) : vz t0 n1 s2 h E (tRec m x y z) (some w :: ρ) ω = 0 := by
  unfold tRec; rw [vz, if_neg (by omega)]
/-- it grows with the values -/
theorem vz_mono (hh : ∀ y y', y ≤ y' → h y ≤ h y') : ∀ (f : Nat) (t : Ty) (π : Stk) (ω ω' : List Nat), (flat t).length ≤ f → ω'.length = ω.length → ok ω.length t = true → (∀ j, j < ω.length → vw ω j ≤ vw ω' j) → vz t0 n1 s2 h E t π ω ≤ vz t0 n1 s2 h E t π ω'
  | 0, t, π, ω, ω', hf, hl, o, hw => by have := flat_pos o; omega
  | f + 1, t, π, ω, ω', hf, hl, o, hw => by
    have o' : ok ω'.length t = true := by rw [hl]; exact o
    cases π with
    | nil => rw [vz_no o, vz_no o']; exact nz_mono hh _ t ω ω' (Nat.le_refl _) hl o hw
    | cons p ρ =>
      rcases ok_cases o with rfl | ⟨j, hj, rfl⟩ | ⟨a, c, rfl, ha, hb⟩ | ⟨a, c, rfl, ha, hb⟩ | ⟨m, x, y, z, hm, rfl, h0, h1, h2⟩
      · rw [vz_top, vz_top]; exact Nat.le_refl _
      · rw [vz_var, vz_var]; exact Nat.le_refl _
      · rw [flat_fun, List.length_cons, List.length_append] at hf
        cases p with
        | none => rw [vz_funN, vz_funN]; exact vz_mono hh f c ρ ω ω' (by omega) hl hb hw
        | some w => rw [vz_funS, vz_funS]; exact Nat.le_refl _
      · rw [flat_all, List.length_cons, List.length_append] at hf
        cases p with
        | none => rw [vz_allN, vz_allN]; exact Nat.le_refl _
        | some w =>
          rw [vz_allS, vz_allS]
          have q1 := nz_mono (t0 := t0) (n1 := n1) (s2 := s2) hh _ a ω ω' (Nat.le_refl _) hl ha hw
          refine vz_mono hh f c ρ _ _ (by omega) (by rw [List.length_cons, List.length_cons, hl]) (by rw [List.length_cons]; exact hb) (fun j hj => ?_)
          rw [vw_cons, vw_cons, hl]
          by_cases e : j = ω.length
          · rw [if_pos e, if_pos e]
            have := hh _ _ q1
            unfold hzx; omega
          · rw [if_neg e, if_neg e]; exact hw j (by rw [List.length_cons] at hj; omega)
      · rw [flat_rec, List.length_cons, List.length_append, List.length_append] at hf
        cases p with
        | some w => rw [vz_recS, vz_recS]; exact Nat.le_refl _
        | none =>
          have key : ∀ (i : Nat) (p : Ty), (flat p).length ≤ f → okl ω.length m i p → vz t0 n1 s2 h E p ρ ω ≤ vz t0 n1 s2 h E p ρ ω' := by
            intro i p hp ho
            unfold okl at ho
            by_cases hb : bit m i = true
            · rw [if_pos hb] at ho
              exact vz_mono hh f p ρ ω ω' hp hl ho hw
            · rw [if_neg hb] at ho
              rw [ho, vz_nil, vz_nil]; exact Nat.le_refl _
          rw [vz_recN, vz_recN]
          have q0 := key 0 x (by omega) h0
          have q1 := key 1 y (by omega) h1
          have q2 := key 2 z (by omega) h2
          omega
/-- lifted -/
theorem vz_lft (ν ω : List Nat) : ∀ (f : Nat) (t : Ty) (π : Stk) (μ : List Nat), (flat t).length ≤ f → ok (ω.length + μ.length) t = true → vz t0 n1 s2 h E (lft ω.length ν.length t) π (μ ++ (ν ++ ω)) = vz t0 n1 s2 h E t π (μ ++ ω)
  | 0, t, π, μ, hf, o => by have := flat_pos o; omega
  | f + 1, t, π, μ, hf, o => by
    cases π with
    | nil =>
      rw [vz_no o, vz_no (ok_lft ω.length ν.length t μ.length o)]
      exact nz_lft ν ω _ t μ (Nat.le_refl _) o
    | cons p ρ =>
      rcases ok_cases o with rfl | ⟨j, hj, rfl⟩ | ⟨a, c, rfl, ha, hb⟩ | ⟨a, c, rfl, ha, hb⟩ | ⟨m, x, y, z, hm, rfl, h0, h1, h2⟩
      · rw [lft_top, vz_top, vz_top]
      · rw [lft_var]
        by_cases e : ω.length ≤ j
        · rw [if_pos e, vz_var, vz_var]
        · rw [if_neg e, vz_var, vz_var]
      · rw [flat_fun, List.length_cons, List.length_append] at hf
        rw [lft_fun]
        cases p with
        | none => rw [vz_funN, vz_funN]; exact vz_lft ν ω f c ρ μ (by omega) hb
        | some w => rw [vz_funS, vz_funS]
      · rw [flat_all, List.length_cons, List.length_append] at hf
        rw [lft_all]
        cases p with
        | none => rw [vz_allN, vz_allN]
        | some w =>
          rw [vz_allS, vz_allS, nz_lft ν ω _ a μ (Nat.le_refl _) ha]
          have := vz_lft ν ω f c ρ (hzx h w (nz t0 n1 s2 h (μ ++ ω) a) :: μ) (by omega) (by rw [List.length_cons]; exact hb)
          rw [List.cons_append, List.cons_append] at this
          exact this
      · rw [flat_rec, List.length_cons, List.length_append, List.length_append] at hf
        rw [lft_rec hm]
        cases p with
        | some w => rw [vz_recS, vz_recS]
        | none =>
          have key : ∀ (i : Nat) (p : Ty), (flat p).length ≤ f → okl (ω.length + μ.length) m i p → vz t0 n1 s2 h E (lft ω.length ν.length p) ρ (μ ++ (ν ++ ω)) = vz t0 n1 s2 h E p ρ (μ ++ ω) := by
            intro i p hp ho
            unfold okl at ho
            by_cases hb : bit m i = true
            · rw [if_pos hb] at ho
              exact vz_lft ν ω f p ρ μ hp ho
            · rw [if_neg hb] at ho
              rw [ho]
              have : lft ω.length ν.length .nil = .nil := rfl
              rw [this, vz_nil, vz_nil]
          rw [vz_recN, vz_recN, key 0 x (by omega) h0, key 1 y (by omega) h1, key 2 z (by omega) h2]
/-- an instance -/
theorem vz_sbt (hh : ∀ y y', y ≤ y' → h y ≤ h y') (A : Ty) (ω : List Nat) (hA : ok ω.length A = true) (hE : ∀ ρ, ρ ≠ [] → vz t0 n1 s2 h E A ρ ω ≤ E ρ) : ∀ (f : Nat) (t : Ty) (π : Stk) (μ : List Nat), (flat t).length ≤ f → ok (ω.length + 1 + μ.length) t = true → vz t0 n1 s2 h E (sbt ω.length A μ.length t) π (μ ++ ω) ≤ vz t0 n1 s2 h E t π (μ ++ (nz t0 n1 s2 h ω A :: ω))
  | 0, t, π, μ, hf, o => by have := flat_pos o; omega
  | f + 1, t, π, μ, hf, o => by
    cases π with
    | nil =>
      rw [vz_no o, vz_no (ok_sbt hA _ t μ.length (Nat.le_refl _) o)]
      exact Nat.le_of_eq (nz_sbt A ω hA _ t μ (Nat.le_refl _) o)
    | cons p ρ =>
      rcases ok_cases o with rfl | ⟨j, hj, rfl⟩ | ⟨a, c, rfl, ha, hb⟩ | ⟨a, c, rfl, ha, hb⟩ | ⟨m, x, y, z, hm, rfl, h0, h1, h2⟩
      · rw [sbt_top, vz_top, vz_top]; exact Nat.le_refl _
      · rw [sbt_var, vz_var]
        by_cases e : j = ω.length
        · rw [if_pos e]
          have := vz_lft (t0 := t0) (n1 := n1) (s2 := s2) (h := h) (E := E) μ ω _ A (p :: ρ) [] (Nat.le_refl _) (by simpa using hA)
          rw [List.nil_append, List.nil_append] at this
          rw [this]
          exact hE _ (by simp)
        · rw [if_neg e]
          by_cases e2 : ω.length < j
          · rw [if_pos e2, vz_var]; exact Nat.le_refl _
          · rw [if_neg e2, vz_var]; exact Nat.le_refl _
      · rw [flat_fun, List.length_cons, List.length_append] at hf
        rw [sbt_fun]
        cases p with
        | none => rw [vz_funN, vz_funN]; exact vz_sbt hh A ω hA hE f c ρ μ (by omega) hb
        | some w => rw [vz_funS, vz_funS]; exact Nat.le_refl _
      · rw [flat_all, List.length_cons, List.length_append] at hf
        rw [sbt_all]
        cases p with
        | none => rw [vz_allN, vz_allN]; exact Nat.le_refl _
        | some w =>
          rw [vz_allS, vz_allS, nz_sbt A ω hA _ a μ (Nat.le_refl _) ha]
          have := vz_sbt hh A ω hA hE f c ρ (hzx h w (nz t0 n1 s2 h (μ ++ (nz t0 n1 s2 h ω A :: ω)) a) :: μ) (by omega) (by rw [List.length_cons]; exact hb)
          rw [List.cons_append, List.cons_append, List.length_cons] at this
          exact this
      · rw [flat_rec, List.length_cons, List.length_append, List.length_append] at hf
        rw [sbt_rec]
        cases p with
        | some w => rw [vz_recS, vz_recS]; exact Nat.le_refl _
        | none =>
          have key : ∀ (i : Nat) (p : Ty), (flat p).length ≤ f → okl (ω.length + 1 + μ.length) m i p → vz t0 n1 s2 h E (sbt ω.length A μ.length p) ρ (μ ++ ω) ≤ vz t0 n1 s2 h E p ρ (μ ++ (nz t0 n1 s2 h ω A :: ω)) := by
            intro i p hp ho
            unfold okl at ho
            by_cases hb : bit m i = true
            · rw [if_pos hb] at ho
              exact vz_sbt hh A ω hA hE f p ρ μ hp ho
            · rw [if_neg hb] at ho
              rw [ho, sbt_nil, vz_nil, vz_nil]; exact Nat.le_refl _
          rw [vz_recN, vz_recN]
          have q0 := key 0 x (by omega) h0
          have q1 := key 1 y (by omega) h1
          have q2 := key 2 z (by omega) h2
          omega
end PmQ1
