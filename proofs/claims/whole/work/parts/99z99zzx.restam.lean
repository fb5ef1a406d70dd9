/-! NO NAMES AROUND, thirteen characters: a typed term has its choices where they do no harm (RESTAM9). -/
section PmZx1
variable {f : Nat} {t : Ty} {Γ : List Ty} {S : Ty}
/-- an operation on what has a choice on the way, nine characters -/
theorem op_nine (hc : okc Γ) {g : Nat} {u R : Ty} (w : TWf (g + 1) Γ.length [] u) (tn : TNo (g + 1) u) (k : nKd u = 7 ∨ nKd u = 9 ∨ nKd u = 11) (nc : ¬ CFt g (nX u)) (m9 : mch (nX u) ≤ 9) (hR : tyF (g + 1) u Γ [] = .inr R) : False := by
  unfold tyF at hR
  rcases k with c | c | c
  · rw [if_neg (by omega), if_neg (by omega), if_pos c] at hR
    obtain ⟨A, hA, h2⟩ := tbd_in hR
    obtain ⟨A2, hA2, h2⟩ := tbd_in h2
    have q := (cl_ty g (nX u) Γ A (w.2.2.2.1 (Or.inl c)).1 hc (tn.2.1 (Or.inl c)).1 hA).2.1 m9 nc
    rw [q, no_A] at h2
    cases h2
  · rw [if_neg (by omega), if_neg (by omega), if_neg (by omega), if_neg (by omega), if_pos c] at hR
    obtain ⟨A, hA, h2⟩ := tbd_in hR
    have q := (cl_ty g (nX u) Γ A (w.2.2.2.2.2.1 c).1 hc (tn.2.2.1 (Or.inl c)) hA).2.1 m9 nc
    rw [q, no_I] at h2
    cases h2
  · rw [if_neg (by omega), if_neg (by omega), if_neg (by omega), if_neg (by omega), if_neg (by omega), if_neg (by omega), if_pos c] at hR
    obtain ⟨A, hA, h2⟩ := tbd_in hR
    have q := (cl_ty g (nX u) Γ A (w.2.2.2.2.2.2.2.1 c).2 hc (tn.2.2.1 (Or.inr c)) hA).2.1 m9 nc
    rw [q, no_D _ _ _ (w.2.2.2.2.2.2.2.1 c).1] at h2
    cases h2
theorem cl_thirteen (hc : okc Γ) (w : TWf f Γ.length [] t) (tn : TNo f t) (hS : tyF f t Γ [] = .inr S) (m13 : mch t ≤ 13) : CHo f t [] := by
  refine Classical.byContradiction (fun nc => ?_)
  have h3 : ∀ m, m < 8 → m ≠ 0 → 1 ≤ nlb m := by decide
  have fld : ∀ (g : Nat) (u : Ty) (σ : List Bool), TWf (g + 1) Γ.length [] u → TNo (g + 1) u → nKd u = 10 → ∀ i, i < 3 → bit (nMk u) i = true → ¬ CHo g (nP u i) σ → 14 ≤ mch u + 2 * σ.length := by
    intro g u σ wu nu c i hi hb n
    have em := mch_is wu.1.2.1
    rw [if_neg (by omega), if_neg (by omega), if_neg (by omega), if_pos c] at em
    have w10 := wu.2.2.2.2.2.2.1 c
    have q := cho_min0 _ _ _ _ (w10.2 i hi hb) (nu.2.2.2.1 c i hi hb) n
    have hm : ¬ nMk u = 0 := by
      intro e
      rw [e] at hb
      rcases (show i = 0 ∨ i = 1 ∨ i = 2 by omega) with rfl | rfl | rfl <;> exact absurd hb (by decide)
    rw [if_neg hm] at em
    have := h3 _ w10.1 hm
    rcases (show i = 0 ∨ i = 1 ∨ i = 2 by omega) with rfl | rfl | rfl
    · have q : 10 ≤ mch (nX u) + 2 * σ.length := q
      omega
    · have q : 10 ≤ mch (nY u) + 2 * σ.length := q
      omega
    · have q : 10 ≤ mch (nZ u) + 2 * σ.length := q
      omega
  have bnd6 : ∀ (g : Nat) (u : Ty) (σ : List Bool), TWf (g + 1) Γ.length [] u → TNo (g + 1) u → (nKd u = 6 ∨ nKd u = 8) → ¬ CHo g (nY u) σ → 14 ≤ mch u + 2 * σ.length := by
    intro g u σ wu nu c n
    have em := mch_is wu.1.2.1
    rw [if_neg (by omega), if_pos c] at em
    rcases c with c | c
    · have := cho_min9 _ _ _ _ _ (wu.2.2.1 c).2.2.2 (nu.1 (Or.inl c)) n
      have := tch_pos (wu.2.2.1 c).2.1
      omega
    · have := cho_min0 _ _ _ _ (wu.2.2.2.2.1 c).2.2 (nu.1 (Or.inr c)) n
      have := tch_pos (wu.2.2.2.2.1 c).1
      omega
  have e7 : ∀ (g : Nat) (u : Ty), TWf (g + 1) Γ.length [] u → nKd u = 7 ∨ nKd u = 12 → mch (nX u) + 4 ≤ mch u ∧ mch (nY u) + 4 ≤ mch u := by
    intro g u wu c
    have em := mch_is wu.1.2.1
    rw [if_neg (by omega), if_neg (by omega), if_neg (by omega), if_neg (by omega)] at em
    have := cl_two (wu.2.2.2.1 c).2
    have := cl_two (wu.2.2.2.1 c).1
    omega
  have e11 : ∀ (g : Nat) (u : Ty), TWf (g + 1) Γ.length [] u → nKd u = 11 ∨ nKd u = 9 → mch (nX u) + 2 ≤ mch u := by
    intro g u wu c
    have em := mch_is wu.1.2.1
    rcases c with c | c
    · rw [if_neg (by omega), if_neg (by omega), if_neg (by omega), if_neg (by omega)] at em
      omega
    · rw [if_neg (by omega), if_neg (by omega), if_pos c] at em
      have := tch_pos (wu.2.2.2.2.2.1 c).2.1
      omega
  -- one operation outside, eleven characters
  have lev1 : ∀ (g : Nat) (u R : Ty) (b : Bool), TWf g Γ.length [] u → TNo g u → ¬ CHo g u [b] → mch u ≤ 11 → tyF g u Γ [] = .inr R → False := by
    intro g u R b wu nu nu2 m11 hR
    cases g with
    | zero => exact wu.elim
    | succ g =>
      refine nu2 ⟨fun c => Classical.byContradiction (fun n => ?_), fun c => Classical.byContradiction (fun n => ?_), fun c => Classical.byContradiction (fun n => ?_), fun c i hi hb => Classical.byContradiction (fun n => ?_), fun c => ⟨by cases b <;> rfl, Classical.byContradiction (fun n => ?_), Classical.byContradiction (fun n => ?_)⟩⟩
      · have := bnd6 g u _ wu nu c n
        simp only [List.tail_cons, List.length_nil] at this
        omega
      · rcases c with c | c
        · have e := e7 g u wu (Or.inl c)
          exact op_nine hc wu nu (Or.inl c) (fun q => n (cft_cho _ _ _ q)) (by omega) hR
        · have e := e11 g u wu (Or.inl c)
          exact op_nine hc wu nu (Or.inr (Or.inr c)) (fun q => n (cft_cho _ _ _ q)) (by omega) hR
      · have e := e11 g u wu (Or.inr c)
        exact op_nine hc wu nu (Or.inr (Or.inl c)) (fun q => n (cft_cho _ _ _ q)) (by omega) hR
      · have := fld g u _ wu nu c i hi hb n
        simp only [List.tail_cons, List.length_nil] at this
        omega
      · have e := e7 g u wu (Or.inr c)
        have := cho_min0 _ _ _ _ (wu.2.2.2.1 (Or.inr c)).1 (nu.2.1 (Or.inr c)).1 n
        simp only [List.length_cons, List.length_nil] at this
        omega
      · have e := e7 g u wu (Or.inr c)
        have := cho_min0 _ _ _ _ (wu.2.2.2.1 (Or.inr c)).2 (nu.2.1 (Or.inr c)).2 n
        simp only [List.length_cons, List.length_nil] at this
        omega
  cases f with
  | zero => exact w.elim
  | succ f =>
    refine nc ⟨fun c => Classical.byContradiction (fun n => ?_), fun c => Classical.byContradiction (fun n => ?_), fun c => Classical.byContradiction (fun n => ?_), fun c i hi hb => Classical.byContradiction (fun n => ?_), fun c => ⟨rfl, Classical.byContradiction (fun n => ?_), Classical.byContradiction (fun n => ?_)⟩⟩
    · have := bnd6 f t _ w tn c n
      simp only [List.tail_nil, List.length_nil] at this
      omega
    · unfold tyF at hS
      rcases c with c | c
      · have e := e7 f t w (Or.inl c)
        rw [if_neg (by omega), if_neg (by omega), if_pos c] at hS
        obtain ⟨R1, h1, -⟩ := tbd_in hS
        exact lev1 f _ R1 false (w.2.2.2.1 (Or.inl c)).1 (tn.2.1 (Or.inl c)).1 n (by omega) h1
      · have e := e11 f t w (Or.inl c)
        rw [if_neg (by omega), if_neg (by omega), if_neg (by omega), if_neg (by omega), if_neg (by omega), if_neg (by omega), if_pos c] at hS
        obtain ⟨R1, h1, -⟩ := tbd_in hS
        exact lev1 f _ R1 false (w.2.2.2.2.2.2.2.1 c).2 (tn.2.2.1 (Or.inr c)) n (by omega) h1
    · have e := e11 f t w (Or.inr c)
      unfold tyF at hS
      rw [if_neg (by omega), if_neg (by omega), if_neg (by omega), if_neg (by omega), if_pos c] at hS
      obtain ⟨R1, h1, -⟩ := tbd_in hS
      exact lev1 f _ R1 true (w.2.2.2.2.2.1 c).1 (tn.2.2.1 (Or.inl c)) n (by omega) h1
    · have := fld f t _ w tn c i hi hb n
      simp only [List.tail_nil, List.length_nil] at this
      omega
    · have e := e7 f t w (Or.inr c)
      have := cho_min0 _ _ _ _ (w.2.2.2.1 (Or.inr c)).1 (tn.2.1 (Or.inr c)).1 n
      simp only [List.length_nil] at this
      omega
    · have e := e7 f t w (Or.inr c)
      have := cho_min0 _ _ _ _ (w.2.2.2.1 (Or.inr c)).2 (tn.2.1 (Or.inr c)).2 n
      simp only [List.length_nil] at this
      omega
end PmZx1
def RESTAM9 : Prop := ∀ (f : Nat) (x y : Ty) (Γ : List Ty) (Δ : List (Nat × Ty × Nat)) (t : Ty), H9 f x y Γ Δ → Sh9 x y t → ¬ CHo f t [] → ((Δ = [] ∧ (mch t = 14 ∨ 18 ≤ mch t ∨ ∃ (b b' B C : Ty), Γ = [b] ∧ LBd [] [] b b' B C ∧ ¬ IS2 (fun _ => False) b ∧ sN B 0 1 C = true ∧ inB (gB bQn (cch Γ) (mch t)) (tch B) (tch C) (tch b - tch (tAll B C)) 0 0 = true)) ∨ ∃ (b b' B C : Ty), Γ = [b] ∧ LBd [] [] b b' B C ∧ ¬ IS2 (fun _ => False) b ∧ sN B 0 1 C = true ∧ ((Δ.length = 1 ∧ (tch B = 1 ∨ 12 ≤ mch t ∨ (tch B = 2 ∧ mch t = 11)) ∧ inB (gB bQo (cch Γ) (mch t)) (tch B) (tch C) (tch b - tch (tAll B C)) 0 0 = true) ∨ (2 ≤ Δ.length ∧ (tch B = 1 ∨ (tch B = 2 ∧ 9 ≤ mch t) ∨ 10 ≤ mch t) ∧ inB (gB bQm (cch Γ) (mch t)) (tch B) (tch C) (tch b - tch (tAll B C)) 0 0 = true))) → PRn f x y Γ Δ
theorem restAL9_of (R : RESTAM9) : RESTAL9 := by
  intro f x y Γ Δ t H sh nc q
  have H' := H
  obtain ⟨hx9, hy9, ⟨he, hv, hd', h20, h47, nOne⟩, hb, nO, nPS, nPG, -⟩ := H'
  obtain ⟨⟨wt, nt, tt, m3', m3, n9⟩, pm, hbt⟩ := h9_t H sh
  rcases q with ⟨eD, q⟩ | q
  rotate_left
  · exact R f x y Γ Δ t H sh nc (Or.inr q)
  rcases q with q | q
  rotate_left
  · exact R f x y Γ Δ t H sh nc (Or.inl ⟨eD, Or.inr q⟩)
  by_cases m14 : mch t = 14
  · exact R f x y Γ Δ t H sh nc (Or.inl ⟨eD, Or.inl m14⟩)
  refine h9_ntv H sh (fun S hS => ?_)
  rw [eD] at wt hS
  exact absurd (cl_thirteen he.1 wt tt hS (by omega)) nc
theorem pairn_qm (R : RESTAM9) : PAIRn := pairn_ql (restAL9_of R)
