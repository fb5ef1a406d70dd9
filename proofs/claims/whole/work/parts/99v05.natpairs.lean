/-! ARGUMENTS THAT STAND UNDER NO BINDER; a pair by what one of its terms is worth by nature. -/
section PmVg
variable {t0 s2 : Nat} {n1 h : Nat → Nat} {E : Stk → Nat} {Z : Nat → Nat}
theorem AH_0 {m0 : Nat} {ω : List Nat} (hA : ∀ (A : Ty), ok ω.length A = true → tch A + 2 ≤ m0 → (∀ ρ, ρ ≠ [] → vz t0 n1 s2 h E A ρ ω ≤ E ρ) ∧ nz t0 n1 s2 h ω A ≤ Z (tch A + 2)) : ∀ (f : Nat) (t : Ty) (π : Stk) (Γ : List Ty) (sc : List Nat), TWf f Γ.length sc t → ω.length = Γ.length → (hasq f t = true → gqk f t = 0) → mch t ≤ m0 → AQh t0 n1 s2 h E Z f t π ω
  | 0, _, _, _, _, w, _, _, _ => w.elim
  | f + 1, t, π, Γ, sc, w, hl, hg, hmm => by
    obtain ⟨w0, w5, w6, w7, w8, w9, w10, w11, w12⟩ := w
    have em := mch_is w0.2.1
    have ih := fun u π' Γ' sc' => AH_0 hA f u π' Γ' sc'
    have kd : ∀ D sc (u : Ty), TWf f D sc u → 5 ≤ nKd u ∧ nKd u ≤ 12 := by
      intro D sc u wu
      cases f with
      | zero => exact wu.elim
      | succ f => exact wu.1.1
    have mpos : ∀ D sc (u : Ty), TWf f D sc u → 1 ≤ mch u := by
      intro D sc u wu
      cases f with
      | zero => exact wu.elim
      | succ f => exact mch_pos wu
    unfold hasq gqk at hg
    have text : ∀ A, ok Γ.length A = true → tch A + 2 ≤ m0 → (∀ ρ, ρ ≠ [] → vz t0 n1 s2 h E A ρ ω ≤ E ρ) ∧ nz t0 n1 s2 h ω A ≤ Z (tch A + 2) := fun A oA ht => hA A (by rw [hl]; exact oA) ht
    refine ⟨fun c6 => ?_, fun c7 => ?_, fun c8 => ?_, fun c9 => ?_, fun c10 g hg' hb => ?_, fun c12 => ?_⟩
    · obtain ⟨-, x1, x2, x3⟩ := w6 c6
      rw [if_neg (by omega), if_pos (Or.inl c6)] at em
      rw [if_neg (by omega), if_pos c6, if_neg (by omega), if_pos c6] at hg
      refine ⟨fun e => ?_, fun ρ e => ?_⟩
      · exact ih _ _ _ _ x3 hl hg (by omega)
      · exact ih _ _ _ _ x3 hl hg (by omega)
    · rw [if_neg (by omega), if_neg (by omega), if_pos c7, if_neg (by omega), if_neg (by omega), if_pos c7] at hg
      have x1 : TWf f Γ.length sc (nX t) := by
        rcases c7 with c | c
        · exact (w7 (Or.inl c)).1
        · exact (w11 c).2
      have em2 : mch (nX t) ≤ mch t := by
        rcases c7 with c | c
        · rw [if_neg (by rw [c]; decide), if_neg (by rw [c]; decide), if_neg (by rw [c]; decide), if_neg (by rw [c]; decide)] at em
          omega
        · rw [if_neg (by rw [c]; decide), if_neg (by rw [c]; decide), if_neg (by rw [c]; decide), if_neg (by rw [c]; decide)] at em
          omega
      exact ih _ _ _ _ x1 hl hg (by omega)
    · obtain ⟨x1, x2, x3⟩ := w8 c8
      rw [if_neg (by omega), if_pos (Or.inr c8)] at em
      rw [if_neg (by omega), if_neg (by omega), if_neg (by omega), if_pos (Or.inl c8), if_neg (by omega), if_neg (by omega), if_neg (by omega), if_pos c8] at hg
      have g1 := hg rfl
      have tx := text (nX t) x1 (by have := mpos _ _ _ x3; omega)
      have nc : hasq f (nY t) = false := by
        cases c : hasq f (nY t) with
        | false => rfl
        | true =>
          rw [if_pos c] at g1
          omega
      exact ⟨tx.1, fun e => AH_triv f (nY t) _ _ (kd _ _ _ x3) _ _ x3 nc, fun z ρ e => AH_triv f (nY t) ρ _ (kd _ _ _ x3) _ _ x3 nc⟩
    · obtain ⟨x1, x2, x3⟩ := w9 c9
      rw [if_neg (by omega), if_neg (by omega), if_pos c9] at em
      rw [if_neg (by omega), if_neg (by omega), if_neg (by omega), if_pos (Or.inr c9), if_neg (by omega), if_neg (by omega), if_neg (by omega), if_neg (by omega), if_pos c9] at hg
      have g1 := hg rfl
      have tx := text (nY t) x2 (by have := mpos _ _ _ x1; omega)
      refine ⟨tx, ?_⟩
      by_cases c : hasq f (nX t) = true
      · rw [if_pos c] at g1
        exact ih _ _ _ _ x1 hl (fun _ => by omega) (by omega)
      · exact AH_triv f (nX t) _ _ (kd _ _ _ x1) _ _ x1 (by simpa using c)
    · obtain ⟨m8, x1⟩ := w10 c10
      rw [if_neg (by omega), if_neg (by omega), if_neg (by omega), if_pos c10] at em
      rw [if_neg (by omega), if_neg (by omega), if_neg (by omega), if_neg (by omega), if_pos c10, if_neg (by omega), if_neg (by omega), if_neg (by omega), if_neg (by omega), if_neg (by omega), if_pos c10] at hg
      have sub : mch (nP t g) ≤ mch t ∧ (hasq f (nP t g) = true → gqk f (nP t g) = 0) := by
        have s0 := Nat.le_max_left (gqk f (nX t)) (max (gqk f (nY t)) (gqk f (nZ t)))
        have s1 := Nat.le_max_right (gqk f (nX t)) (max (gqk f (nY t)) (gqk f (nZ t)))
        have s2' := Nat.le_max_left (gqk f (nY t)) (gqk f (nZ t))
        have s3 := Nat.le_max_right (gqk f (nY t)) (gqk f (nZ t))
        rcases (show g = 0 ∨ g = 1 ∨ g = 2 by omega) with rfl | rfl | rfl
        · refine ⟨by show mch (nX t) ≤ _; omega, fun c => ?_⟩
          have c : hasq f (nX t) = true := c
          have := hg (by rw [c]; rfl)
          show gqk f (nX t) = 0
          omega
        · refine ⟨by show mch (nY t) ≤ _; omega, fun c => ?_⟩
          have c : hasq f (nY t) = true := c
          have := hg (by rw [c]; simp)
          show gqk f (nY t) = 0
          omega
        · refine ⟨by show mch (nZ t) ≤ _; omega, fun c => ?_⟩
          have c : hasq f (nZ t) = true := c
          have := hg (by rw [c]; simp)
          show gqk f (nZ t) = 0
          omega
      refine ⟨fun e => ?_, fun ρ e => ?_⟩
      · exact ih _ _ _ _ (x1 g hg' hb) hl sub.2 (by omega)
      · exact ih _ _ _ _ (x1 g hg' hb) hl sub.2 (by omega)
    · obtain ⟨x1, x2⟩ := w7 (Or.inr c12)
      rw [if_neg (by omega), if_neg (by omega), if_neg (by omega), if_neg (by omega)] at em
      rw [if_neg (by omega), if_neg (by omega), if_neg (by omega), if_neg (by omega), if_neg (by omega), if_neg (by omega), if_neg (by omega), if_neg (by omega), if_neg (by omega), if_neg (by omega), if_neg (by omega)] at hg
      have s0 := Nat.le_max_left (gqk f (nX t)) (gqk f (nY t))
      have s1 := Nat.le_max_right (gqk f (nX t)) (gqk f (nY t))
      refine ⟨ih _ _ _ _ x1 hl (fun c => ?_) (by omega), ih _ _ _ _ x2 hl (fun c => ?_) (by omega)⟩
      · have := hg (by rw [c]; rfl)
        omega
      · have := hg (by rw [c]; simp)
        omega
end PmVg
/-- a term whose type is worth at most b rows and c goals by nature -/
def NtV (Γ : List Ty) (Δ : List (Nat × Ty × Nat)) (f : Nat) (t : Ty) (b c : Nat) : Prop := ∀ S, tyF f t Γ Δ = .inr S → (∀ d, nz 0 (fun _ => 1 + 1) (2 + 1) (vlr d 1) (onz 0 (fun _ => 1 + 1) (2 + 1) (vlr d 1) Γ) S ≤ b) ∧ nz 1 ngc 1 (fun x => x) (onz 1 ngc 1 (fun x => x) Γ) S ≤ c
section PmVh
variable {f : Nat} {x y : Ty} {Γ : List Ty} {Δ : List (Nat × Ty × Nat)}
theorem pair_ntv (x1 : TWf f Γ.length (Δ.map (fun a => a.1)) x) (x2 : TWf f Γ.length (Δ.map (fun a => a.1)) y) (he : TE Γ Δ) (y1 : NAt f x) (y2 : NAt f y) (hv : noac Γ) (hd' : ∀ a ∈ Δ, noal a.2.1 = true) (hb : cch Γ ≤ 56) (z : NtV Γ Δ f x 887 597 ∨ NtV Γ Δ f y 887 597) : PRn f x y Γ Δ := by
  intro S T hS hT
  obtain ⟨⟨tb, lS, lT⟩, q⟩ := pair_two x1 x2 he y1 y2 hv hd' hS hT
  have oS := (tyF_ok f x Γ Δ S x1 he hS).1
  refine ⟨?_, fun hf => ?_⟩
  · rcases z with z | z
    · exact LJ_S (Nat.le_refl _) tb hb lS lT ((z S hS).1 true) (z S hS).2
    · exact LJ_T (Nat.le_refl _) tb hb lS lT ((z T hT).1 false) (z T hT).2
  · obtain ⟨tb2, l2⟩ := q hf
    rcases z with z | z
    · refine LB_ST tb2 hb lT l2 (Or.inr ⟨true, ?_⟩)
      have q1 := (z S hS).1 true
      have q2 := expo_nz he.1 (onz_cv (NC_rows true 1) he.1) Γ.length S oS
      obtain ⟨oF, lF⟩ := expo_ok he.1 he.2.1 Γ.length S oS lS
      obtain ⟨a, b, e2, oa, ob⟩ := hd_is_fun oF hf
      rw [e2, nz_fun] at q2
      rw [e2]
      show nz 0 (fun _ => 1 + 1) (2 + 1) (vlr true 1) _ a ≤ 887
      omega
    · exact LB_ST tb2 hb lT l2 (Or.inl ⟨true, (z T hT).1 true⟩)
theorem NatT.v {t : Ty} (w : TWf f Γ.length (Δ.map (fun a => a.1)) t) (he : TE Γ Δ) (z : NatT f t Γ Δ) : NtV Γ Δ f t 887 597 := fun _ hS => ⟨fun d => nat_rows d w he z hS, nat_goals w he z hS⟩
end PmVh
