/-! SCHEMES INSIDE A BOUND: what it is worth under operations, by its outermost schemes. -/
/-- the outermost schemes that operations can reach -/
def IS2 (P : Ty → Prop) : Ty → Prop
  | .tag c (.append a b) => if c = 2 then P (.tag c (.append a b)) else if c = 1 then IS2 P b else IS2 P a ∧ IS2 P b
  | .append a b => IS2 P a ∧ IS2 P b
  | _ => True
section PmZ8
variable {P : Ty → Prop}
theorem IS2_fun {a b : Ty} (h : IS2 P (tFun a b)) : IS2 P b := by
  unfold tFun at h
  rw [IS2, if_neg (by decide), if_pos rfl] at h
  exact h
theorem IS2_all {a b : Ty} (h : IS2 P (tAll a b)) : P (tAll a b) := by
  unfold tAll at h
  rw [IS2, if_pos rfl] at h
  exact h
theorem IS2_rec {m : Nat} {x y z : Ty} (h : IS2 P (tRec m x y z)) : IS2 P x ∧ IS2 P y ∧ IS2 P z := by
  unfold tRec at h
  rw [IS2, if_neg (by omega), if_neg (by omega), IS2] at h
  exact h
variable {t0 s2 X7 : Nat} {n1 h eb e2 : Nat → Nat}
theorem vz_i2 (he : ∀ z z', z ≤ z' → eb z ≤ eb z') (he2 : ∀ z z', z ≤ z' → e2 z ≤ e2 z') (hm : ∀ y y', y ≤ y' → h y ≤ h y') (hh : ∀ y δ, h (y + δ) ≤ h y + δ) : ∀ (f : Nat) (b : Ty) (ω : List Nat) (ρ : Stk), (flat b).length ≤ f → ok ω.length b = true → nz t0 n1 s2 h ω b ≤ X7 → IS2 (fun s => HS2 t0 n1 s2 h eb e2 ω s ∨ ∀ z, nz t0 n1 s2 h ω s + flv s * z ≤ eb z) b → ρ ≠ [] → vz t0 n1 s2 h (E2 X7 eb e2) b ρ ω ≤ E2 X7 eb e2 ρ
  | 0, b, _, _, hf, o, _, _, _ => by have := flat_pos o; omega
  | f + 1, b, ω, ρ, hf, o, hx, hi, hρ => by
    have ih := fun b ρ => vz_i2 he he2 hm hh f b ω ρ
    cases ρ with
    | nil => exact absurd rfl hρ
    | cons p ρ =>
      have part : ∀ u, (flat u).length ≤ f → ok ω.length u = true → nz t0 n1 s2 h ω u ≤ X7 → IS2 (fun s => HS2 t0 n1 s2 h eb e2 ω s ∨ ∀ z, nz t0 n1 s2 h ω s + flv s * z ≤ eb z) u → vz t0 n1 s2 h (E2 X7 eb e2) u ρ ω ≤ E2 X7 eb e2 (none :: ρ) := by
        intro u lu ou xu iu
        refine Nat.le_trans ?_ (E2_m (X7 := X7) he he2 none ρ)
        cases ρ with
        | nil =>
          rw [vz_no ou]
          exact Nat.le_trans xu (E2_0 [])
        | cons q ρ => exact ih u (q :: ρ) lu ou xu iu (by simp)
      rcases ok_cases o with rfl | ⟨j, hj, rfl⟩ | ⟨a, c, rfl, ha, hb⟩ | ⟨a, c, rfl, ha, hb⟩ | ⟨m, x, y, z, hm', rfl, g0, g1, g2⟩
      · rw [vz_top]; exact Nat.zero_le _
      · rw [vz_var]; exact Nat.le_refl _
      · rw [flat_fun, List.length_cons, List.length_append] at hf
        rw [nz_fun] at hx
        cases p with
        | some z => rw [vz_funS]; exact Nat.zero_le _
        | none =>
          rw [vz_funN]
          exact part c (by omega) hb (by omega) (IS2_fun hi)
      · rcases IS2_all hi with q | q
        · exact vz_s2 he he2 hm o q (p :: ρ) hρ
        · exact vz_l2 he he2 hm hh o hx (Or.inr q) (p :: ρ)
      · rw [flat_rec, List.length_cons, List.length_append, List.length_append] at hf
        rw [nz_rec] at hx
        obtain ⟨i0, i1, i2⟩ := IS2_rec hi
        cases p with
        | some z => rw [vz_recS]; exact Nat.zero_le _
        | none =>
          rw [vz_recN]
          have key : ∀ (i : Nat) (u : Ty), okl ω.length m i u → (flat u).length ≤ f → nz t0 n1 s2 h ω u ≤ X7 → IS2 (fun s => HS2 t0 n1 s2 h eb e2 ω s ∨ ∀ z, nz t0 n1 s2 h ω s + flv s * z ≤ eb z) u → vz t0 n1 s2 h (E2 X7 eb e2) u ρ ω ≤ E2 X7 eb e2 (none :: ρ) := by
            intro i u ou lu xu iu
            unfold okl at ou
            by_cases hb : bit m i = true
            · rw [if_pos hb] at ou
              exact part u lu ou xu iu
            · rw [if_neg hb] at ou
              rw [ou, vz_nil]; exact Nat.zero_le _
          have k0 := key 0 x g0 (by omega) (by omega) i0
          have k1 := key 1 y g1 (by omega) (by omega) i1
          have k2 := key 2 z g2 (by omega) (by omega) i2
          omega
/-- every bound of a context -/
def BE3 (t0 : Nat) (n1 : Nat → Nat) (s2 : Nat) (h : Nat → Nat) (X7 : Nat) (eb e2 : Nat → Nat) : List Ty → List Nat → Prop
  | [], [] => True
  | b :: Γ, _ :: ω => ((nz t0 n1 s2 h ω b ≤ X7 ∧ (nsch b = true ∨ IS2 (fun s => HS2 t0 n1 s2 h eb e2 ω s ∨ ∀ z, nz t0 n1 s2 h ω s + flv s * z ≤ eb z) b)) ∨ HS2 t0 n1 s2 h eb e2 ω b) ∧ BE3 t0 n1 s2 h X7 eb e2 Γ ω
  | _, _ => False
theorem BE3.he (he : ∀ z z', z ≤ z' → eb z ≤ eb z') (he2 : ∀ z z', z ≤ z' → e2 z ≤ e2 z') (hm : ∀ y y', y ≤ y' → h y ≤ h y') (hh : ∀ y δ, h (y + δ) ≤ h y + δ) : ∀ {Γ : List Ty} {ω : List Nat}, okc Γ → ω.length = Γ.length → BE3 t0 n1 s2 h X7 eb e2 Γ ω → HEk t0 n1 s2 h (E2 X7 eb e2) Γ ω
  | [], [], _, _, _ => trivial
  | b :: Γ, w :: ω, hc, hl, hb => by
    have hl' : ω.length = Γ.length := by simpa using hl
    have ob : ok ω.length b = true := by rw [hl']; exact hc.1
    refine ⟨fun ρ hρ => ?_, BE3.he he he2 hm hh hc.2 hl' hb.2⟩
    rcases hb.1 with ⟨h1, h2 | h2⟩ | h1
    · exact vz_l2 he he2 hm hh ob h1 (Or.inl h2) ρ
    · exact vz_i2 he he2 hm hh _ b ω ρ (Nat.le_refl _) ob h1 h2 hρ
    · exact vz_s2 he he2 hm ob h1 ρ hρ
  | [], _ :: _, _, _, hb => hb.elim
  | _ :: _, [], _, _, hb => hb.elim
end PmZ8
