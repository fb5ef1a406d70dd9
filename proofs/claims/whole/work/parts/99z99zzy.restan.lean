/-! NO NAMES AROUND, fourteen characters (RESTAN9). -/
section PmZy1
variable {f : Nat} {t : Ty} {Γ : List Ty} {S : Ty}
/-- an instance or a field of a choice of closed terms, ten characters -/
theorem op_ten (he : TE Γ []) (hv : noac Γ) {g : Nat} {u R : Ty} (w : TWf (g + 2) Γ.length [] u) (tn : TNo (g + 2) u) (k : nKd u = 9 ∨ nKd u = 11) (k12 : nKd (nX u) = 12) (m10 : mch (nX u) ≤ 10) (hR : tyF (g + 2) u Γ [] = .inr R) : False := by
  have hc := he.1
  have x1 : TWf (g + 1) Γ.length [] (nX u) := by
    rcases k with c | c
    · exact (w.2.2.2.2.2.1 c).1
    · exact (w.2.2.2.2.2.2.2.1 c).2
  have xn : TNo (g + 1) (nX u) := tn.2.2.1 k
  have main : ∀ V, tyF (g + 1) (nX u) Γ [] = .inr V → hd (expo Γ Γ.length V) ≠ 2 ∧ ∀ m x y z, m < 8 → expo Γ Γ.length V = tRec m x y z → m = 0 := by
    intro V hV
    have em := mch_is x1.1.2.1
    rw [if_neg (by omega), if_neg (by omega), if_neg (by omega), if_neg (by omega)] at em
    obtain ⟨y1, y2⟩ := x1.2.2.2.1 (Or.inr k12)
    obtain ⟨z1, z2⟩ := xn.2.1 (Or.inr k12)
    obtain ⟨S1, S2, h1, h2, e⟩ := ty_or k12 hV
    have o1 := (tyF_ok _ _ _ _ _ y1 he h1).1
    have o2 := (tyF_ok _ _ _ _ _ y2 he h2).1
    have q := ju_upx hv _ S1 S2 V ⟨hc, o1, o2⟩ e
    have erz : expo Γ Γ.length rz = rz := ex_n (by rw [hd_rz]; decide)
    have up : UPx rz (expo Γ Γ.length V) := by
      by_cases m5 : mch (nX (nX u)) ≤ 5
      · have e1 := (cl_ty g _ Γ S1 y1 hc z1 h1).1 m5
        rw [e1, erz] at q
        exact q.1
      · have e2 := (cl_ty g _ Γ S2 y2 hc z2 h2).1 (by omega)
        rw [e2, erz] at q
        exact q.2
    have ow := tyF_ok _ _ _ _ _ x1 he hV
    refine ⟨fun h2 => ?_, fun m x y z m8 e => Classical.byContradiction (fun m0 => up.2 m x y z m8 e m0 hd_rz)⟩
    obtain ⟨oE, -⟩ := expo_ok he.1 he.2.1 Γ.length V ow.1 ow.2
    obtain ⟨a, b, e, -, -⟩ := hd_is_all oE h2
    obtain ⟨b', q⟩ := up.1 a b e
    have := congrArg hd q
    rw [hd_all, hd_rz] at this
    omega
  rcases k with c | c
  · obtain ⟨V, a, b, h1, h2, -⟩ := tyF_is9 (Δ := []) w he c hR
    have q := (main V h1).1
    rw [h2, hd_all] at q
    exact q rfl
  · have m3 := (w.2.2.2.2.2.2.2.1 c).1
    unfold tyF at hR
    rw [if_neg (by omega), if_neg (by omega), if_neg (by omega), if_neg (by omega), if_neg (by omega), if_neg (by omega), if_pos c] at hR
    obtain ⟨V, hV, q1⟩ := tbd_in hR
    obtain ⟨e, -⟩ := tyO_in q1
    unfold tyD at e
    by_cases cc : (8 ≤ hd (expo Γ Γ.length V) ∧ hd (expo Γ Γ.length V) < 16) ∧ bit (hd (expo Γ Γ.length V) - 8) (nMk u) = true
    rotate_left
    · rw [if_neg cc] at e; cases e
    have oR := tyF_ok _ _ _ _ _ x1 he hV
    obtain ⟨oE, -⟩ := expo_ok he.1 he.2.1 Γ.length V oR.1 oR.2
    obtain ⟨m, x, y, z, m8, e2⟩ := hd_is_rec oE cc.1.1 cc.1.2
    have m0 := (main V hV).2 m x y z m8 e2
    have c3 := cc.2
    rw [e2, hd_rec, m0] at c3
    rcases (show nMk u = 0 ∨ nMk u = 1 ∨ nMk u = 2 by omega) with g | g | g <;> rw [g] at c3 <;> exact absurd c3 (by decide)
theorem cl_fourteen (he : TE Γ []) (hv : noac Γ) (w : TWf f Γ.length [] t) (tn : TNo f t) (hS : tyF f t Γ [] = .inr S) (m14 : mch t ≤ 14) : CHo f t [] := by
  refine Classical.byContradiction (fun nc => ?_)
  have hc := he.1
  have h3 : ∀ m, m < 8 → m ≠ 0 → 1 ≤ nlb m := by decide
  have fld : ∀ (g : Nat) (u : Ty) (σ : List Bool), TWf (g + 1) Γ.length [] u → TNo (g + 1) u → nKd u = 10 → ∀ i, i < 3 → bit (nMk u) i = true → ¬ CHo g (nP u i) σ → 14 ≤ mch u + 2 * σ.length := by
    intro g u σ wu nu c i hi hb n
    have em := mch_is wu.1.2.1
    rw [if_neg (by omega), if_neg (by omega), if_neg (by omega), if_pos c] at em
    have w10 := wu.2.2.2.2.2.2.1 c
    have q := cho_min0 _ _ _ _ (w10.2 i hi hb) (nu.2.2.2.1 c i hi hb) n
    have hm : ¬ nMk u = 0 := by
      intro e
      rw [e] at hb
      rcases (show i = 0 ∨ i = 1 ∨ i = 2 by omega) with rfl | rfl | rfl <;> exact absurd hb (by decide)
    rw [if_neg hm] at em
    have := h3 _ w10.1 hm
    rcases (show i = 0 ∨ i = 1 ∨ i = 2 by omega) with rfl | rfl | rfl
    · have q : 10 ≤ mch (nX u) + 2 * σ.length := q
      omega
    · have q : 10 ≤ mch (nY u) + 2 * σ.length := q
      omega
    · have q : 10 ≤ mch (nZ u) + 2 * σ.length := q
      omega
  have bnd6 : ∀ (g : Nat) (u : Ty) (σ : List Bool), TWf (g + 1) Γ.length [] u → TNo (g + 1) u → (nKd u = 6 ∨ nKd u = 8) → ¬ CHo g (nY u) σ → 14 ≤ mch u + 2 * σ.length := by
    intro g u σ wu nu c n
    have em := mch_is wu.1.2.1
    rw [if_neg (by omega), if_pos c] at em
    rcases c with c | c
    · have := cho_min9 _ _ _ _ _ (wu.2.2.1 c).2.2.2 (nu.1 (Or.inl c)) n
      have := tch_pos (wu.2.2.1 c).2.1
      omega
    · have := cho_min0 _ _ _ _ (wu.2.2.2.2.1 c).2.2 (nu.1 (Or.inr c)) n
      have := tch_pos (wu.2.2.2.2.1 c).1
      omega
  have e7 : ∀ (g : Nat) (u : Ty), TWf (g + 1) Γ.length [] u → nKd u = 7 ∨ nKd u = 12 → mch (nX u) + 4 ≤ mch u ∧ mch (nY u) + 4 ≤ mch u := by
    intro g u wu c
    have em := mch_is wu.1.2.1
    rw [if_neg (by omega), if_neg (by omega), if_neg (by omega), if_neg (by omega)] at em
    have := cl_two (wu.2.2.2.1 c).2
    have := cl_two (wu.2.2.2.1 c).1
    omega
  have e11 : ∀ (g : Nat) (u : Ty), TWf (g + 1) Γ.length [] u → nKd u = 11 ∨ nKd u = 9 → mch (nX u) + 2 ≤ mch u := by
    intro g u wu c
    have em := mch_is wu.1.2.1
    rcases c with c | c
    · rw [if_neg (by omega), if_neg (by omega), if_neg (by omega), if_neg (by omega)] at em
      omega
    · rw [if_neg (by omega), if_neg (by omega), if_pos c] at em
      have := tch_pos (wu.2.2.2.2.2.1 c).2.1
      omega
  -- one operation outside, eleven characters
  have lev1 : ∀ (g : Nat) (u R : Ty) (b : Bool), TWf g Γ.length [] u → TNo g u → ¬ CHo g u [b] → mch u ≤ 11 → tyF g u Γ [] = .inr R → False := by
    intro g u R b wu nu nu2 m11 hR
    cases g with
    | zero => exact wu.elim
    | succ g =>
      refine nu2 ⟨fun c => Classical.byContradiction (fun n => ?_), fun c => Classical.byContradiction (fun n => ?_), fun c => Classical.byContradiction (fun n => ?_), fun c i hi hb => Classical.byContradiction (fun n => ?_), fun c => ⟨by cases b <;> rfl, Classical.byContradiction (fun n => ?_), Classical.byContradiction (fun n => ?_)⟩⟩
      · have := bnd6 g u _ wu nu c n
        simp only [List.tail_cons, List.length_nil] at this
        omega
      · rcases c with c | c
        · have e := e7 g u wu (Or.inl c)
          exact op_nine hc wu nu (Or.inl c) (fun q => n (cft_cho _ _ _ q)) (by omega) hR
        · have e := e11 g u wu (Or.inl c)
          exact op_nine hc wu nu (Or.inr (Or.inr c)) (fun q => n (cft_cho _ _ _ q)) (by omega) hR
      · have e := e11 g u wu (Or.inr c)
        exact op_nine hc wu nu (Or.inr (Or.inl c)) (fun q => n (cft_cho _ _ _ q)) (by omega) hR
      · have := fld g u _ wu nu c i hi hb n
        simp only [List.tail_cons, List.length_nil] at this
        omega
      · have e := e7 g u wu (Or.inr c)
        have := cho_min0 _ _ _ _ (wu.2.2.2.1 (Or.inr c)).1 (nu.2.1 (Or.inr c)).1 n
        simp only [List.length_cons, List.length_nil] at this
        omega
      · have e := e7 g u wu (Or.inr c)
        have := cho_min0 _ _ _ _ (wu.2.2.2.1 (Or.inr c)).2 (nu.2.1 (Or.inr c)).2 n
        simp only [List.length_cons, List.length_nil] at this
        omega
  -- one operation outside, twelve characters
  have lev1' : ∀ (g : Nat) (u R : Ty) (b : Bool), TWf g Γ.length [] u → TNo g u → ¬ CHo g u [b] → mch u ≤ 12 → tyF g u Γ [] = .inr R → False := by
    intro g u R b wu nu nu2 m12 hR
    by_cases m11 : mch u ≤ 11
    · exact lev1 g u R b wu nu nu2 m11 hR
    cases g with
    | zero => exact wu.elim
    | succ g =>
      -- under an instance or a field
      have two : (nKd u = 9 ∨ nKd u = 11) → ∀ b1, ¬ CHo g (nX u) [b1, b] → False := by
        intro k b1 n
        have e := e11 g u wu (by omega)
        by_cases m9 : mch (nX u) ≤ 9
        · exact op_nine hc wu nu (by omega) (fun q => n (cft_cho _ _ _ q)) m9 hR
        have x1 : TWf g Γ.length [] (nX u) := by
          rcases k with c | c
          · exact (wu.2.2.2.2.2.1 c).1
          · exact (wu.2.2.2.2.2.2.2.1 c).2
        have xn : TNo g (nX u) := nu.2.2.1 k
        have hX : ∃ V, tyF g (nX u) Γ [] = .inr V := by
          have hR' := hR
          unfold tyF at hR'
          rcases k with c | c
          · rw [if_neg (by omega), if_neg (by omega), if_neg (by omega), if_neg (by omega), if_pos c] at hR'
            obtain ⟨V, hV, -⟩ := tbd_in hR'
            exact ⟨V, hV⟩
          · rw [if_neg (by omega), if_neg (by omega), if_neg (by omega), if_neg (by omega), if_neg (by omega), if_neg (by omega), if_pos c] at hR'
            obtain ⟨V, hV, -⟩ := tbd_in hR'
            exact ⟨V, hV⟩
        obtain ⟨V, hV⟩ := hX
        cases g with
        | zero => exact x1.elim
        | succ g =>
        by_cases k12 : nKd (nX u) = 12
        · exact op_ten he hv wu nu k k12 (by omega) hR
        refine n ⟨fun c => Classical.byContradiction (fun n => ?_), fun c => Classical.byContradiction (fun n => ?_), fun c => Classical.byContradiction (fun n => ?_), fun c i hi hb => Classical.byContradiction (fun n => ?_), fun c => absurd c k12⟩
        · have := bnd6 g _ _ x1 xn c n
          simp only [List.tail_cons, List.length_cons, List.length_nil] at this
          omega
        · rcases c with c | c
          · have e2 := e7 g _ x1 (Or.inl c)
            exact op_nine hc x1 xn (Or.inl c) (fun q => n (cft_cho _ _ _ q)) (by omega) hV
          · have e2 := e11 g _ x1 (Or.inl c)
            exact op_nine hc x1 xn (Or.inr (Or.inr c)) (fun q => n (cft_cho _ _ _ q)) (by omega) hV
        · have e2 := e11 g _ x1 (Or.inr c)
          exact op_nine hc x1 xn (Or.inr (Or.inl c)) (fun q => n (cft_cho _ _ _ q)) (by omega) hV
        · have := fld g _ _ x1 xn c i hi hb n
          simp only [List.tail_cons, List.length_cons, List.length_nil] at this
          omega
      refine nu2 ⟨fun c => Classical.byContradiction (fun n => ?_), fun c => Classical.byContradiction (fun n => ?_), fun c => Classical.byContradiction (fun n => ?_), fun c i hi hb => Classical.byContradiction (fun n => ?_), fun c => ⟨by cases b <;> rfl, Classical.byContradiction (fun n => ?_), Classical.byContradiction (fun n => ?_)⟩⟩
      · have := bnd6 g u _ wu nu c n
        simp only [List.tail_cons, List.length_nil] at this
        omega
      · rcases c with c | c
        · have e := e7 g u wu (Or.inl c)
          exact op_nine hc wu nu (Or.inl c) (fun q => n (cft_cho _ _ _ q)) (by omega) hR
        · exact two (Or.inr c) false n
      · exact two (Or.inl c) true n
      · have := fld g u _ wu nu c i hi hb n
        simp only [List.tail_cons, List.length_nil] at this
        omega
      · have e := e7 g u wu (Or.inr c)
        obtain ⟨S1, S2, h1, h2, -⟩ := ty_or c hR
        exact lev1 g _ S1 b (wu.2.2.2.1 (Or.inr c)).1 (nu.2.1 (Or.inr c)).1 n (by omega) h1
      · have e := e7 g u wu (Or.inr c)
        obtain ⟨S1, S2, h1, h2, -⟩ := ty_or c hR
        exact lev1 g _ S2 b (wu.2.2.2.1 (Or.inr c)).2 (nu.2.1 (Or.inr c)).2 n (by omega) h2
  cases f with
  | zero => exact w.elim
  | succ f =>
    refine nc ⟨fun c => Classical.byContradiction (fun n => ?_), fun c => Classical.byContradiction (fun n => ?_), fun c => Classical.byContradiction (fun n => ?_), fun c i hi hb => Classical.byContradiction (fun n => ?_), fun c => ⟨rfl, Classical.byContradiction (fun n => ?_), Classical.byContradiction (fun n => ?_)⟩⟩
    · have em := mch_is w.1.2.1
      rw [if_neg (by omega), if_pos c] at em
      rcases c with c | c
      · obtain ⟨-, oT, fT, wy⟩ := w.2.2.1 c
        have pT := tch_pos oT
        unfold tyF at hS
        rw [if_neg (by omega), if_pos c] at hS
        obtain ⟨R1, h1, -⟩ := tbd_in hS
        have he' : TE Γ [(nPl t, nX t, Γ.length)] := ⟨he.1, he.2.1, fun a ha => by
          rw [List.mem_singleton.mp ha]
          exact ⟨Nat.le_refl _, oT, fT⟩⟩
        exact vac_nine (a0 := (nPl t, nX t, Γ.length)) he' hv wy (tn.1 (Or.inl c)) n (by omega) h1
      · have := cho_min0 _ _ _ _ (w.2.2.2.2.1 c).2.2 (tn.1 (Or.inr c)) n
        have := tch_pos (w.2.2.2.2.1 c).1
        simp only [List.tail_nil, List.length_nil] at *
        omega
    · unfold tyF at hS
      rcases c with c | c
      · have e := e7 f t w (Or.inl c)
        rw [if_neg (by omega), if_neg (by omega), if_pos c] at hS
        obtain ⟨R1, h1, -⟩ := tbd_in hS
        exact lev1' f _ R1 false (w.2.2.2.1 (Or.inl c)).1 (tn.2.1 (Or.inl c)).1 n (by omega) h1
      · have e := e11 f t w (Or.inl c)
        rw [if_neg (by omega), if_neg (by omega), if_neg (by omega), if_neg (by omega), if_neg (by omega), if_neg (by omega), if_pos c] at hS
        obtain ⟨R1, h1, -⟩ := tbd_in hS
        exact lev1' f _ R1 false (w.2.2.2.2.2.2.2.1 c).2 (tn.2.2.1 (Or.inr c)) n (by omega) h1
    · have e := e11 f t w (Or.inr c)
      unfold tyF at hS
      rw [if_neg (by omega), if_neg (by omega), if_neg (by omega), if_neg (by omega), if_pos c] at hS
      obtain ⟨R1, h1, -⟩ := tbd_in hS
      exact lev1' f _ R1 true (w.2.2.2.2.2.1 c).1 (tn.2.2.1 (Or.inl c)) n (by omega) h1
    · -- a field: it is typed, and it is shorter
      have em := mch_is w.1.2.1
      rw [if_neg (by omega), if_neg (by omega), if_neg (by omega), if_pos c] at em
      have w10 := w.2.2.2.2.2.2.1 c
      have hm : ¬ nMk t = 0 := by
        intro e
        rw [e] at hb
        rcases (show i = 0 ∨ i = 1 ∨ i = 2 by omega) with rfl | rfl | rfl <;> exact absurd hb (by decide)
      rw [if_neg hm] at em
      have := h3 _ w10.1 hm
      have wi := w10.2 i hi hb
      have ti := tn.2.2.2.1 c i hi hb
      unfold tyF at hS
      rw [if_neg (by omega), if_neg (by omega), if_neg (by omega), if_neg (by omega), if_neg (by omega), if_pos c] at hS
      obtain ⟨A, hA, hS⟩ := tbd_in hS
      obtain ⟨B, hB, hS⟩ := tbd_in hS
      obtain ⟨C, hC, hS⟩ := tbd_in hS
      rcases (show i = 0 ∨ i = 1 ∨ i = 2 by omega) with rfl | rfl | rfl
      · rw [if_pos hb] at hA
        exact n (cl_thirteen hc wi ti hA (by show mch (nX t) ≤ 13; omega))
      · rw [if_pos hb] at hB
        exact n (cl_thirteen hc wi ti hB (by show mch (nY t) ≤ 13; omega))
      · rw [if_pos hb] at hC
        exact n (cl_thirteen hc wi ti hC (by show mch (nZ t) ≤ 13; omega))
    · have e := e7 f t w (Or.inr c)
      obtain ⟨S1, S2, h1, h2, -⟩ := ty_or c hS
      exact n (cl_thirteen hc (w.2.2.2.1 (Or.inr c)).1 (tn.2.1 (Or.inr c)).1 h1 (by omega))
    · have e := e7 f t w (Or.inr c)
      obtain ⟨S1, S2, h1, h2, -⟩ := ty_or c hS
      exact n (cl_thirteen hc (w.2.2.2.1 (Or.inr c)).2 (tn.2.1 (Or.inr c)).2 h2 (by omega))
end PmZy1
def RESTAN9 : Prop := ∀ (f : Nat) (x y : Ty) (Γ : List Ty) (Δ : List (Nat × Ty × Nat)) (t : Ty), H9 f x y Γ Δ → Sh9 x y t → ¬ CHo f t [] → ((Δ = [] ∧ (18 ≤ mch t ∨ ∃ (b b' B C : Ty), Γ = [b] ∧ LBd [] [] b b' B C ∧ ¬ IS2 (fun _ => False) b ∧ sN B 0 1 C = true ∧ inB (gB bQn (cch Γ) (mch t)) (tch B) (tch C) (tch b - tch (tAll B C)) 0 0 = true)) ∨ ∃ (b b' B C : Ty), Γ = [b] ∧ LBd [] [] b b' B C ∧ ¬ IS2 (fun _ => False) b ∧ sN B 0 1 C = true ∧ ((Δ.length = 1 ∧ (tch B = 1 ∨ 12 ≤ mch t ∨ (tch B = 2 ∧ mch t = 11)) ∧ inB (gB bQo (cch Γ) (mch t)) (tch B) (tch C) (tch b - tch (tAll B C)) 0 0 = true) ∨ (2 ≤ Δ.length ∧ (tch B = 1 ∨ (tch B = 2 ∧ 9 ≤ mch t) ∨ 10 ≤ mch t) ∧ inB (gB bQm (cch Γ) (mch t)) (tch B) (tch C) (tch b - tch (tAll B C)) 0 0 = true))) → PRn f x y Γ Δ
theorem restAM9_of (R : RESTAN9) : RESTAM9 := by
  intro f x y Γ Δ t H sh nc q
  have H' := H
  obtain ⟨hx9, hy9, ⟨he, hv, hd', h20, h47, nOne⟩, hb, nO, nPS, nPG, -⟩ := H'
  obtain ⟨⟨wt, nt, tt, m3', m3, n9⟩, pm, hbt⟩ := h9_t H sh
  rcases q with ⟨eD, q⟩ | q
  rotate_left
  · exact R f x y Γ Δ t H sh nc (Or.inr q)
  rcases q with q | q
  rotate_left
  · exact R f x y Γ Δ t H sh nc (Or.inl ⟨eD, q⟩)
  refine h9_ntv H sh (fun S hS => ?_)
  rw [eD] at wt hS he
  exact absurd (cl_fourteen he hv wt tt hS (by omega)) nc
theorem pairn_qn (R : RESTAN9) : PAIRn := pairn_qm (restAM9_of R)
