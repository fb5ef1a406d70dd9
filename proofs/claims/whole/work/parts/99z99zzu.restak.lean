/-! CHOICES ANYWHERE, one binder: the bound [] and ten characters, one name; several names, nine characters: untypable (RESTAK9). -/
section PmZu1
variable {f : Nat} {t : Ty} {Γ : List Ty} {Δ : List (Nat × Ty × Nat)} {a0 : Nat × Ty × Nat} {S : Ty}
/-- an instance of a choice -/
theorem ins_cho2 (he : TE Γ [a0]) (hv : noac Γ) (hQ : ∀ p q Q : Ty, expo Γ Γ.length (lft a0.2.2 (Γ.length - a0.2.2) a0.2.1) = tAll p q → ok Γ.length Q = true → bel Γ Q p = true → 2 ≤ tch Q) {g : Nat} {u R : Ty} (w : TWf (g + 1) Γ.length [a0.1] u) (tn : TNo (g + 1) u) (k9 : nKd u = 9) (k12 : nKd (nX u) = 12) (m9 : mch u ≤ 8) (h : tyF (g + 1) u Γ [a0] = .inr R) : False := by
  obtain ⟨S0, a, b, h1, h2, -⟩ := tyF_is9 w he k9 h
  obtain ⟨S0', h1', -, hb⟩ := is9_bel w k9 h
  rw [h1] at h1'
  injection h1' with h1'
  subst h1'
  rw [h2] at hb
  have hb : bel Γ (nY u) a = true := hb
  obtain ⟨x1, oQ, -⟩ := w.2.2.2.2.2.1 k9
  have em := mch_is w.1.2.1
  rw [if_neg (by omega), if_neg (by omega), if_pos k9] at em
  have tQ := tch_pos oQ
  have tnv := tn.2.2.1 (Or.inl k9)
  cases g with
  | zero => exact x1.elim
  | succ g =>
  rcases sh_ncf x1 tnv (fun q => q.2.2.2 k12) (by omega) with ⟨-, y1, y2, ev, nn⟩ | ⟨k, -⟩
  rotate_left
  · omega
  obtain ⟨S1, S2, g1, g2, ej⟩ := ty_or k12 h1
  have o1 := (tyF_ok _ _ _ _ _ y1.1 he g1).1
  have o2 := (tyF_ok _ _ _ _ _ y2.1 he g2).1
  have up := ju_upx hv _ S1 S2 S0 ⟨he.1, o1, o2⟩ ej
  rw [h2] at up
  obtain ⟨b1, E1⟩ := up.1.1 a b rfl
  obtain ⟨b2, E2⟩ := up.2.1 a b rfl
  have p1 := mch_pos' y1.1
  have p2 := mch_pos' y2.1
  have one : ∀ (v T b3 : Ty), TWf g Γ.length [a0.1] v → mch v ≤ 2 → tyF g v Γ [a0] = .inr T → expo Γ Γ.length T = tAll a b3 → 2 ≤ tch (nY u) := by
    intro v T b3 wv m2 hT e
    have pv := mch_pos' wv
    by_cases m1 : mch v = 1
    · have k5 := one_nm wv m1
      rw [ty_nm wv k5 hT] at e
      exact hQ a b3 (nY u) e oQ hb
    · exfalso
      obtain ⟨c1, c2⟩ := two_nil wv (by omega)
      rw [ty_nil c1 c2 hT, ex_r0] at e
      have := congrArg hd e
      rw [hd_all] at this
      exact absurd this (by decide)
  have q4 : 2 ≤ tch (nY u) := by
    by_cases m2 : mch (nX (nX u)) ≤ 2
    · exact one _ S1 b1 y1.1 m2 g1 E1
    · exact one _ S2 b2 y2.1 (by omega) g2 E2
  have nil2 : ∀ (v T b3 : Ty), TWf g Γ.length [a0.1] v → mch v = 2 → tyF g v Γ [a0] = .inr T → expo Γ Γ.length T = tAll a b3 → False := by
    intro v T b3 wv m2 hT e
    obtain ⟨c1, c2⟩ := two_nil wv m2
    rw [ty_nil c1 c2 hT, ex_r0] at e
    have := congrArg hd e
    rw [hd_all] at this
    exact absurd this (by decide)
  by_cases x2 : mch (nX (nX u)) = 2
  · exact nil2 _ S1 b1 y1.1 x2 g1 E1
  by_cases y2' : mch (nY (nX u)) = 2
  · exact nil2 _ S2 b2 y2.1 y2' g2 E2
  exact nn ⟨one_nm y1.1 (by omega), one_nm y2.1 (by omega)⟩
/-- ten characters, the bound of two, one name: such a choice cannot be typed -/
theorem vac_ten (he : TE Γ [a0]) (hv : noac Γ) (hQ : ∀ p q Q : Ty, expo Γ Γ.length (lft a0.2.2 (Γ.length - a0.2.2) a0.2.1) = tAll p q → ok Γ.length Q = true → bel Γ Q p = true → 2 ≤ tch Q) (w : TWf f Γ.length [a0.1] t) (tn : TNo f t) (nc : ¬ CHo f t []) (m11 : mch t ≤ 10) : tyF f t Γ [a0] ≠ .inr S := by
  intro hS
  -- an operation on a choice of five characters
  have step : ∀ (g : Nat) (u R : Ty), TWf (g + 1) Γ.length [a0.1] u → TNo (g + 1) u → (nKd u = 9 ∨ nKd u = 11) → ¬ CFt g (nX u) → mch (nX u) ≤ 5 → tyF (g + 1) u Γ [a0] = .inr R → False := by
    intro g u R wu nu k nc5 m5 hR
    rcases k with k | k
    · obtain ⟨R1, a, b, h1, h2, -⟩ := tyF_is9 wu he k hR
      have q := (ty_five he hv (wu.2.2.2.2.2.1 k).1 (nu.2.2.1 (Or.inl k)) nc5 m5 h1).1
      rw [h2, hd_all] at q
      exact q rfl
    · have y1 := (wu.2.2.2.2.2.2.2.1 k).2
      have m3 := (wu.2.2.2.2.2.2.2.1 k).1
      unfold tyF at hR
      rw [if_neg (by omega), if_neg (by omega), if_neg (by omega), if_neg (by omega), if_neg (by omega), if_neg (by omega), if_pos k] at hR
      obtain ⟨R1, hR1, q1⟩ := tbd_in hR
      obtain ⟨e, -⟩ := tyO_in q1
      unfold tyD at e
      by_cases cc : (8 ≤ hd (expo Γ Γ.length R1) ∧ hd (expo Γ Γ.length R1) < 16) ∧ bit (hd (expo Γ Γ.length R1) - 8) (nMk u) = true
      rotate_left
      · rw [if_neg cc] at e; cases e
      have oR := tyF_ok _ _ _ _ _ y1 he hR1
      obtain ⟨oE, -⟩ := expo_ok he.1 he.2.1 Γ.length R1 oR.1 oR.2
      obtain ⟨m, x, y, z, m8, e2⟩ := hd_is_rec oE cc.1.1 cc.1.2
      have m0 := (ty_five he hv y1 (nu.2.2.1 (Or.inr k)) nc5 m5 hR1).2 m x y z m8 e2
      have c3 := cc.2
      rw [e2, hd_rec, m0] at c3
      rcases (show nMk u = 0 ∨ nMk u = 1 ∨ nMk u = 2 by omega) with g | g | g <;> rw [g] at c3 <;> exact absurd c3 (by decide)
  have h3 : ∀ m, m < 8 → m ≠ 0 → 1 ≤ nlb m := by decide
  have cf4 : ∀ (g : Nat) (u : Ty) (σ : List Bool), TWf g Γ.length [a0.1] u → TNo g u → ¬ CHo g u σ → 5 ≤ mch u := fun g u σ wu nu nu2 => ((chr_one g _ _ u wu nu).1).resolve_left (fun c => nu2 (cft_cho _ _ _ c))
  -- a field
  have fld : ∀ (g : Nat) (u : Ty) (σ : List Bool), TWf (g + 1) Γ.length [a0.1] u → nKd u = 10 → ∀ i, i < 3 → bit (nMk u) i = true → ¬ CHo g (nP u i) σ → 12 ≤ mch u + 2 * σ.length := by
    intro g u σ wu c i hi hb n
    have em := mch_is wu.1.2.1
    rw [if_neg (by omega), if_neg (by omega), if_neg (by omega), if_pos c] at em
    have w10 := wu.2.2.2.2.2.2.1 c
    have q := cho_min _ _ _ _ _ (w10.2 i hi hb) n
    have hm : ¬ nMk u = 0 := by
      intro e
      rw [e] at hb
      rcases (show i = 0 ∨ i = 1 ∨ i = 2 by omega) with rfl | rfl | rfl <;> exact absurd hb (by decide)
    rw [if_neg hm] at em
    have := h3 _ w10.1 hm
    rcases (show i = 0 ∨ i = 1 ∨ i = 2 by omega) with rfl | rfl | rfl
    · have q : 8 ≤ mch (nX u) + 2 * σ.length := q
      omega
    · have q : 8 ≤ mch (nY u) + 2 * σ.length := q
      omega
    · have q : 8 ≤ mch (nZ u) + 2 * σ.length := q
      omega
  -- a binder
  have bnd6 : ∀ (g : Nat) (u : Ty) (σ : List Bool), TWf (g + 1) Γ.length [a0.1] u → (nKd u = 6 ∨ nKd u = 8) → ¬ CHo g (nY u) σ → 13 ≤ mch u + 2 * σ.length := by
    intro g u σ wu c n
    have em := mch_is wu.1.2.1
    rw [if_neg (by omega), if_pos c] at em
    rcases c with c | c
    · have := cho_min _ _ _ _ _ (wu.2.2.1 c).2.2.2 n
      have := tch_pos (wu.2.2.1 c).2.1
      omega
    · have := cho_min _ _ _ _ _ (wu.2.2.2.2.1 c).2.2 n
      have := tch_pos (wu.2.2.2.2.1 c).1
      omega
  -- what an operation stands on
  have sub7 : ∀ (g : Nat) (u R : Ty), nKd u = 7 → tyF (g + 1) u Γ [a0] = .inr R → ∃ R1, tyF g (nX u) Γ [a0] = .inr R1 := by
    intro g u R c hR
    unfold tyF at hR
    rw [if_neg (by omega), if_neg (by omega), if_pos c] at hR
    obtain ⟨R1, hR1, -⟩ := tbd_in hR
    exact ⟨R1, hR1⟩
  have sub11 : ∀ (g : Nat) (u R : Ty), nKd u = 11 → tyF (g + 1) u Γ [a0] = .inr R → ∃ R1, tyF g (nX u) Γ [a0] = .inr R1 := by
    intro g u R c hR
    unfold tyF at hR
    rw [if_neg (by omega), if_neg (by omega), if_neg (by omega), if_neg (by omega), if_neg (by omega), if_neg (by omega), if_pos c] at hR
    obtain ⟨R1, hR1, -⟩ := tbd_in hR
    exact ⟨R1, hR1⟩
  have sub9 : ∀ (g : Nat) (u R : Ty), TWf (g + 1) Γ.length [a0.1] u → nKd u = 9 → tyF (g + 1) u Γ [a0] = .inr R → ∃ R1, tyF g (nX u) Γ [a0] = .inr R1 := by
    intro g u R wu c hR
    obtain ⟨R1, a, b, h1, -⟩ := tyF_is9 wu he c hR
    exact ⟨R1, h1⟩
  have e7 : ∀ (g : Nat) (u : Ty), TWf (g + 1) Γ.length [a0.1] u → nKd u = 7 → mch (nX u) + 3 ≤ mch u := by
    intro g u wu c
    have em := mch_is wu.1.2.1
    rw [if_neg (by omega), if_neg (by omega), if_neg (by omega), if_neg (by omega)] at em
    have := mch_pos' (wu.2.2.2.1 (Or.inl c)).2
    omega
  have e11 : ∀ (g : Nat) (u : Ty), TWf (g + 1) Γ.length [a0.1] u → nKd u = 11 → mch (nX u) + 2 ≤ mch u := by
    intro g u wu c
    have em := mch_is wu.1.2.1
    rw [if_neg (by omega), if_neg (by omega), if_neg (by omega), if_neg (by omega)] at em
    omega
  have e9 : ∀ (g : Nat) (u : Ty), TWf (g + 1) Γ.length [a0.1] u → nKd u = 9 → mch (nX u) + 2 ≤ mch u := by
    intro g u wu c
    have em := mch_is wu.1.2.1
    rw [if_neg (by omega), if_neg (by omega), if_pos c] at em
    have := tch_pos (wu.2.2.2.2.2.1 c).2.1
    omega
  have e12 : ∀ (g : Nat) (u : Ty), TWf (g + 1) Γ.length [a0.1] u → nKd u = 12 → mch (nX u) + 3 ≤ mch u ∧ mch (nY u) + 3 ≤ mch u := by
    intro g u wu c
    have em := mch_is wu.1.2.1
    rw [if_neg (by omega), if_neg (by omega), if_neg (by omega), if_neg (by omega)] at em
    have y := wu.2.2.2.1 (Or.inr c)
    have := mch_pos' y.1
    have := mch_pos' y.2
    omega
  -- two operations outside, seven characters below, no choice
  have lev2 : ∀ (g : Nat) (v R : Ty) (b1 b : Bool), TWf g Γ.length [a0.1] v → TNo g v → ¬ CHo g v [b1, b] → mch v ≤ 7 → nKd v ≠ 12 → tyF g v Γ [a0] = .inr R → False := by
    intro g v R b1 b wv nv nv2 m7 k12 hR
    cases g with
    | zero => exact wv.elim
    | succ g =>
      refine nv2 ⟨fun c => Classical.byContradiction (fun n => ?_), fun c => Classical.byContradiction (fun n => ?_), fun c => Classical.byContradiction (fun n => ?_), fun c i hi hb => Classical.byContradiction (fun n => ?_), fun c => absurd c k12⟩
      · have := bnd6 g v _ wv c n
        simp only [List.tail_cons, List.length_cons, List.length_nil] at this
        omega
      · rcases c with c | c
        · have := cf4 _ _ _ (wv.2.2.2.1 (Or.inl c)).1 (nv.2.1 (Or.inl c)).1 n
          have := e7 g v wv c
          omega
        · have := e11 g v wv c
          exact step g v R wv nv (Or.inr c) (fun q => n (cft_cho _ _ _ q)) (by omega) hR
      · have := e9 g v wv c
        exact step g v R wv nv (Or.inl c) (fun q => n (cft_cho _ _ _ q)) (by omega) hR
      · have := fld g v _ wv c i hi hb n
        simp only [List.tail_cons, List.length_cons, List.length_nil] at this
        omega
  -- one operation outside, nine characters below
  have lev1 : ∀ (g : Nat) (u R : Ty) (b : Bool), TWf g Γ.length [a0.1] u → TNo g u → ¬ CHo g u [b] → mch u ≤ 8 → tyF g u Γ [a0] = .inr R → False := by
    intro g u R b wu nu nu2 m9 hR
    cases g with
    | zero => exact wu.elim
    | succ g =>
      -- a choice under an operation that is no instance
      have cho : ∀ (v : Ty), TWf g Γ.length [a0.1] v → TNo g v → nKd v = 12 → mch v ≤ 7 → ¬ CHo g v [false, b] → False := by
        intro v wv nv k m7 n
        cases g with
        | zero => exact wv.elim
        | succ g =>
          have e := e12 g v wv k
          refine n ⟨fun c => by omega, fun c => by omega, fun c => by omega, fun c => by omega, fun _ => ⟨by cases b <;> rfl, Classical.byContradiction (fun n => ?_), Classical.byContradiction (fun n => ?_)⟩⟩
          · have := cf4 _ _ _ (wv.2.2.2.1 (Or.inr k)).1 (nv.2.1 (Or.inr k)).1 n
            omega
          · have := cf4 _ _ _ (wv.2.2.2.1 (Or.inr k)).2 (nv.2.1 (Or.inr k)).2 n
            omega
      refine nu2 ⟨fun c => Classical.byContradiction (fun n => ?_), fun c => Classical.byContradiction (fun n => ?_), fun c => Classical.byContradiction (fun n => ?_), fun c i hi hb => Classical.byContradiction (fun n => ?_), fun c => ⟨by cases b <;> rfl, Classical.byContradiction (fun n => ?_), Classical.byContradiction (fun n => ?_)⟩⟩
      · have := bnd6 g u _ wu c n
        simp only [List.tail_cons, List.length_nil] at this
        omega
      · rcases c with c | c
        · have e := e7 g u wu c
          obtain ⟨R1, h1⟩ := sub7 g u R c hR
          by_cases k : nKd (nX u) = 12
          · exact cho _ (wu.2.2.2.1 (Or.inl c)).1 (nu.2.1 (Or.inl c)).1 k (by omega) n
          · exact lev2 g _ R1 false b (wu.2.2.2.1 (Or.inl c)).1 (nu.2.1 (Or.inl c)).1 n (by omega) k h1
        · have e := e11 g u wu c
          obtain ⟨R1, h1⟩ := sub11 g u R c hR
          by_cases k : nKd (nX u) = 12
          · exact cho _ (wu.2.2.2.2.2.2.2.1 c).2 (nu.2.2.1 (Or.inr c)) k (by omega) n
          · exact lev2 g _ R1 false b (wu.2.2.2.2.2.2.2.1 c).2 (nu.2.2.1 (Or.inr c)) n (by omega) k h1
      · have e := e9 g u wu c
        obtain ⟨R1, h1⟩ := sub9 g u R wu c hR
        by_cases k : nKd (nX u) = 12
        · exact ins_cho2 he hv hQ wu nu c k m9 hR
        · exact lev2 g _ R1 true b (wu.2.2.2.2.2.1 c).1 (nu.2.2.1 (Or.inl c)) n (by omega) k h1
      · have := fld g u _ wu c i hi hb n
        simp only [List.tail_cons, List.length_nil] at this
        omega
      · have e := e12 g u wu c
        have := cho_min9 _ _ _ _ _ (wu.2.2.2.1 (Or.inr c)).1 (nu.2.1 (Or.inr c)).1 n
        simp only [List.length_cons, List.length_nil] at this
        omega
      · have e := e12 g u wu c
        have := cho_min9 _ _ _ _ _ (wu.2.2.2.1 (Or.inr c)).2 (nu.2.1 (Or.inr c)).2 n
        simp only [List.length_cons, List.length_nil] at this
        omega
  cases f with
  | zero => exact w.elim
  | succ f =>
    refine nc ⟨fun c => Classical.byContradiction (fun n => ?_), fun c => Classical.byContradiction (fun n => ?_), fun c => Classical.byContradiction (fun n => ?_), fun c i hi hb => Classical.byContradiction (fun n => ?_), fun c => ⟨rfl, Classical.byContradiction (fun n => ?_), Classical.byContradiction (fun n => ?_)⟩⟩
    · have := bnd6 f t _ w c n
      simp only [List.tail_nil, List.length_nil] at this
      omega
    · rcases c with c | c
      · have e := e7 f t w c
        obtain ⟨R1, h1⟩ := sub7 f t S c hS
        exact lev1 f _ R1 false (w.2.2.2.1 (Or.inl c)).1 (tn.2.1 (Or.inl c)).1 n (by omega) h1
      · have e := e11 f t w c
        obtain ⟨R1, h1⟩ := sub11 f t S c hS
        exact lev1 f _ R1 false (w.2.2.2.2.2.2.2.1 c).2 (tn.2.2.1 (Or.inr c)) n (by omega) h1
    · have e := e9 f t w c
      obtain ⟨R1, h1⟩ := sub9 f t S w c hS
      exact lev1 f _ R1 true (w.2.2.2.2.2.1 c).1 (tn.2.2.1 (Or.inl c)) n (by omega) h1
    · have := fld f t _ w c i hi hb n
      simp only [List.tail_nil, List.length_nil] at this
      omega
    · have e := e12 f t w c
      have := cho_min9 _ _ _ _ _ (w.2.2.2.1 (Or.inr c)).1 (tn.2.1 (Or.inr c)).1 n
      simp only [List.length_nil] at this
      omega
    · have e := e12 f t w c
      have := cho_min9 _ _ _ _ _ (w.2.2.2.1 (Or.inr c)).2 (tn.2.1 (Or.inr c)).2 n
      simp only [List.length_nil] at this
      omega
end PmZu1
section PmZu2
variable {f D : Nat} {t : Ty} {Γ : List Ty} {Δ : List (Nat × Ty × Nat)} {S : Ty}
theorem cf_four {sc : List Nat} (w : TWf f D sc t) {σ : List Bool} (n : ¬ CHo f t σ) : 4 ≤ mch t := by
  obtain ⟨a, b, c, h1, -, h2, -⟩ := chr_min8 f D sc t w
  rcases h2 with h2 | h2
  · exact absurd (cft_cho _ _ _ h2) n
  · omega
theorem ty_nmD (w : TWf (f + 1) Γ.length (Δ.map (fun a => a.1)) t) (k5 : nKd t = 5) (h : tyF (f + 1) t Γ Δ = .inr S) : ∃ a ∈ Δ, S = lft a.2.2 (Γ.length - a.2.2) a.2.1 := by
  obtain ⟨w0, w5, -⟩ := w
  unfold tyF at h
  rw [if_pos k5] at h
  obtain ⟨e, l⟩ := tyO_in h
  obtain ⟨a, ha⟩ := dlk_some (w5 k5)
  rw [ha] at e
  injection e with e
  have hm := dlk_mem ha
  exact ⟨_, hm, e.symm⟩
theorem vac_names {N : Nat} (he : TE Γ Δ) (hv : noac Γ) (hQ : ∀ a ∈ Δ, ∀ p q Q : Ty, expo Γ Γ.length (lft a.2.2 (Γ.length - a.2.2) a.2.1) = tAll p q → ok Γ.length Q = true → bel Γ Q p = true → N ≤ tch Q) (w : TWf f Γ.length (Δ.map (fun a => a.1)) t) (nc : ¬ CHo f t []) (m9 : mch t ≤ 9) (mN : mch t ≤ 6 + N) : tyF f t Γ Δ ≠ .inr S := by
  intro hS
  have h3 : ∀ m, m < 8 → m ≠ 0 → 1 ≤ nlb m := by decide
  -- a field
  have fld : ∀ (g : Nat) (u : Ty) (σ : List Bool), TWf (g + 1) Γ.length (Δ.map (fun a => a.1)) u → nKd u = 10 → ∀ i, i < 3 → bit (nMk u) i = true → ¬ CHo g (nP u i) σ → 12 ≤ mch u + 2 * σ.length := by
    intro g u σ wu c i hi hb n
    have em := mch_is wu.1.2.1
    rw [if_neg (by omega), if_neg (by omega), if_neg (by omega), if_pos c] at em
    have w10 := wu.2.2.2.2.2.2.1 c
    have q := cho_min _ _ _ _ _ (w10.2 i hi hb) n
    have hm : ¬ nMk u = 0 := by
      intro e
      rw [e] at hb
      rcases (show i = 0 ∨ i = 1 ∨ i = 2 by omega) with rfl | rfl | rfl <;> exact absurd hb (by decide)
    rw [if_neg hm] at em
    have := h3 _ w10.1 hm
    rcases (show i = 0 ∨ i = 1 ∨ i = 2 by omega) with rfl | rfl | rfl
    · have q : 8 ≤ mch (nX u) + 2 * σ.length := q
      omega
    · have q : 8 ≤ mch (nY u) + 2 * σ.length := q
      omega
    · have q : 8 ≤ mch (nZ u) + 2 * σ.length := q
      omega
  have bnd6 : ∀ (g : Nat) (u : Ty) (σ : List Bool), TWf (g + 1) Γ.length (Δ.map (fun a => a.1)) u → (nKd u = 6 ∨ nKd u = 8) → ¬ CHo g (nY u) σ → 13 ≤ mch u + 2 * σ.length := by
    intro g u σ wu c n
    have em := mch_is wu.1.2.1
    rw [if_neg (by omega), if_pos c] at em
    rcases c with c | c
    · have := cho_min _ _ _ _ _ (wu.2.2.1 c).2.2.2 n
      have := tch_pos (wu.2.2.1 c).2.1
      omega
    · have := cho_min _ _ _ _ _ (wu.2.2.2.2.1 c).2.2 n
      have := tch_pos (wu.2.2.2.2.1 c).1
      omega
  have e7 : ∀ (g : Nat) (u : Ty), TWf (g + 1) Γ.length (Δ.map (fun a => a.1)) u → nKd u = 7 → mch (nX u) + 3 ≤ mch u := by
    intro g u wu c
    have em := mch_is wu.1.2.1
    rw [if_neg (by omega), if_neg (by omega), if_neg (by omega), if_neg (by omega)] at em
    have := mch_pos' (wu.2.2.2.1 (Or.inl c)).2
    omega
  have e11 : ∀ (g : Nat) (u : Ty), TWf (g + 1) Γ.length (Δ.map (fun a => a.1)) u → nKd u = 11 → mch (nX u) + 2 ≤ mch u := by
    intro g u wu c
    have em := mch_is wu.1.2.1
    rw [if_neg (by omega), if_neg (by omega), if_neg (by omega), if_neg (by omega)] at em
    omega
  have e9 : ∀ (g : Nat) (u : Ty), TWf (g + 1) Γ.length (Δ.map (fun a => a.1)) u → nKd u = 9 → mch (nX u) + 1 + tch (nY u) ≤ mch u ∧ 1 ≤ tch (nY u) := by
    intro g u wu c
    have em := mch_is wu.1.2.1
    rw [if_neg (by omega), if_neg (by omega), if_pos c] at em
    have := tch_pos (wu.2.2.2.2.2.1 c).2.1
    omega
  have e12 : ∀ (g : Nat) (u : Ty), TWf (g + 1) Γ.length (Δ.map (fun a => a.1)) u → nKd u = 12 → mch (nX u) + mch (nY u) + 2 ≤ mch u ∧ 1 ≤ mch (nX u) ∧ 1 ≤ mch (nY u) := by
    intro g u wu c
    have em := mch_is wu.1.2.1
    rw [if_neg (by omega), if_neg (by omega), if_neg (by omega), if_neg (by omega)] at em
    have y := wu.2.2.2.1 (Or.inr c)
    have := mch_pos' y.1
    have := mch_pos' y.2
    omega
  -- two operations outside, five characters, no choice under an instance
  have lev2 : ∀ (g : Nat) (v : Ty) (b1 b : Bool), TWf g Γ.length (Δ.map (fun a => a.1)) v → ¬ CHo g v [b1, b] → mch v ≤ 5 → (nKd v = 12 → b1 = false) → False := by
    intro g v b1 b wv nv2 m5 k12
    cases g with
    | zero => exact wv.elim
    | succ g =>
      refine nv2 ⟨fun c => Classical.byContradiction (fun n => ?_), fun c => Classical.byContradiction (fun n => ?_), fun c => Classical.byContradiction (fun n => ?_), fun c i hi hb => Classical.byContradiction (fun n => ?_), fun c => ⟨?_, Classical.byContradiction (fun n => ?_), Classical.byContradiction (fun n => ?_)⟩⟩
      · have := bnd6 g v _ wv c n
        simp only [List.tail_cons, List.length_cons, List.length_nil] at this
        omega
      · rcases c with c | c
        · have := cf_four (wv.2.2.2.1 (Or.inl c)).1 n
          have := e7 g v wv c
          omega
        · have := cf_four (wv.2.2.2.2.2.2.2.1 c).2 n
          have := e11 g v wv c
          omega
      · have := cf_four (wv.2.2.2.2.2.1 c).1 n
        have := e9 g v wv c
        omega
      · have := fld g v _ wv c i hi hb n
        simp only [List.tail_cons, List.length_cons, List.length_nil] at this
        omega
      · rw [k12 c]; cases b <;> rfl
      · have := cf_four (wv.2.2.2.1 (Or.inr c)).1 n
        have := e12 g v wv c
        omega
      · have := cf_four (wv.2.2.2.1 (Or.inr c)).2 n
        have := e12 g v wv c
        omega
  -- one operation outside, seven characters
  have lev1 : ∀ (g : Nat) (u R : Ty) (b : Bool), TWf g Γ.length (Δ.map (fun a => a.1)) u → ¬ CHo g u [b] → mch u ≤ 7 → mch u ≤ 4 + N → tyF g u Γ Δ = .inr R → False := by
    intro g u R b wu nu2 m7 mN hR
    cases g with
    | zero => exact wu.elim
    | succ g =>
      refine nu2 ⟨fun c => Classical.byContradiction (fun n => ?_), fun c => Classical.byContradiction (fun n => ?_), fun c => Classical.byContradiction (fun n => ?_), fun c i hi hb => Classical.byContradiction (fun n => ?_), fun c => ⟨by cases b <;> rfl, Classical.byContradiction (fun n => ?_), Classical.byContradiction (fun n => ?_)⟩⟩
      · have := bnd6 g u _ wu c n
        simp only [List.tail_cons, List.length_nil] at this
        omega
      · rcases c with c | c
        · have e := e7 g u wu c
          exact lev2 g _ false b (wu.2.2.2.1 (Or.inl c)).1 n (by omega) (fun _ => rfl)
        · have e := e11 g u wu c
          exact lev2 g _ false b (wu.2.2.2.2.2.2.2.1 c).2 n (by omega) (fun _ => rfl)
      · have e := e9 g u wu c
        by_cases k : nKd (nX u) = 12
        rotate_left
        · exact lev2 g _ true b (wu.2.2.2.2.2.1 c).1 n (by omega) (fun q => absurd q k)
        obtain ⟨S0, a, b', h1, h2, -⟩ := tyF_is9 wu he c hR
        obtain ⟨S0', h1', -, hb⟩ := is9_bel wu c hR
        rw [h1] at h1'
        injection h1' with h1'
        subst h1'
        rw [h2] at hb
        have hb : bel Γ (nY u) a = true := hb
        obtain ⟨x1, oQ, -⟩ := wu.2.2.2.2.2.1 c
        have c4 := cf_four x1 n
        cases g with
        | zero => exact x1.elim
        | succ g =>
        have e2 := e12 g _ x1 k
        obtain ⟨y1, y2⟩ := x1.2.2.2.1 (Or.inr k)
        obtain ⟨S1, S2, g1, g2, ej⟩ := ty_or k h1
        have o1 := (tyF_ok _ _ _ _ _ y1 he g1).1
        have o2 := (tyF_ok _ _ _ _ _ y2 he g2).1
        have up := ju_upx hv _ S1 S2 S0 ⟨he.1, o1, o2⟩ ej
        rw [h2] at up
        obtain ⟨b1, E1⟩ := up.1.1 a b' rfl
        obtain ⟨b2, E2⟩ := up.2.1 a b' rfl
        have one : ∀ (v T b3 : Ty), TWf g Γ.length (Δ.map (fun a => a.1)) v → mch v = 1 → tyF g v Γ Δ = .inr T → expo Γ Γ.length T = tAll a b3 → False := by
          intro v T b3 wv m1 hT e
          have k5 : nKd v = 5 := Classical.byContradiction (fun n5 => by
            have := mch_two (tw_up _ _ _ _ wv) n5
            omega)
          cases g with
          | zero => exact wv.elim
          | succ g =>
          obtain ⟨z, hz, ez⟩ := ty_nmD wv k5 hT
          rw [ez] at e
          have := hQ z hz a b3 (nY u) e oQ hb
          omega
        by_cases m1 : mch (nX (nX u)) = 1
        · exact one _ S1 b1 y1 m1 g1 E1
        · exact one _ S2 b2 y2 (by omega) g2 E2
      · have := fld g u _ wu c i hi hb n
        simp only [List.tail_cons, List.length_nil] at this
        omega
      · have e := e12 g u wu c
        have := cho_min _ _ _ _ _ (wu.2.2.2.1 (Or.inr c)).1 n
        simp only [List.length_cons, List.length_nil] at this
        omega
      · have e := e12 g u wu c
        have := cho_min _ _ _ _ _ (wu.2.2.2.1 (Or.inr c)).2 n
        simp only [List.length_cons, List.length_nil] at this
        omega
  cases f with
  | zero => exact w.elim
  | succ f =>
    refine nc ⟨fun c => Classical.byContradiction (fun n => ?_), fun c => Classical.byContradiction (fun n => ?_), fun c => Classical.byContradiction (fun n => ?_), fun c i hi hb => Classical.byContradiction (fun n => ?_), fun c => ⟨rfl, Classical.byContradiction (fun n => ?_), Classical.byContradiction (fun n => ?_)⟩⟩
    · have := bnd6 f t _ w c n
      simp only [List.tail_nil, List.length_nil] at this
      omega
    · rcases c with c | c
      · have e := e7 f t w c
        unfold tyF at hS
        rw [if_neg (by omega), if_neg (by omega), if_pos c] at hS
        obtain ⟨R1, h1, -⟩ := tbd_in hS
        exact lev1 f _ R1 false (w.2.2.2.1 (Or.inl c)).1 n (by omega) (by omega) h1
      · have e := e11 f t w c
        unfold tyF at hS
        rw [if_neg (by omega), if_neg (by omega), if_neg (by omega), if_neg (by omega), if_neg (by omega), if_neg (by omega), if_pos c] at hS
        obtain ⟨R1, h1, -⟩ := tbd_in hS
        exact lev1 f _ R1 false (w.2.2.2.2.2.2.2.1 c).2 n (by omega) (by omega) h1
    · have e := e9 f t w c
      obtain ⟨R1, a, b, h1, -⟩ := tyF_is9 w he c hS
      exact lev1 f _ R1 true (w.2.2.2.2.2.1 c).1 n (by omega) (by omega) h1
    · have := fld f t _ w c i hi hb n
      simp only [List.tail_nil, List.length_nil] at this
      omega
    · have e := e12 f t w c
      have := cho_min _ _ _ _ _ (w.2.2.2.1 (Or.inr c)).1 n
      simp only [List.length_nil] at this
      omega
    · have e := e12 f t w c
      have := cho_min _ _ _ _ _ (w.2.2.2.1 (Or.inr c)).2 n
      simp only [List.length_nil] at this
      omega
end PmZu2
section PmZu3
variable {b : Ty}
/-- one binder, the bound has two characters and more: what is below it has two -/
theorem arg_two (hc : okc [b]) (hv : noac [b]) (hB : ∀ B C, b = tAll B C → 2 ≤ tch B) {T : Ty} (oT : ok 1 T = true) (t5 : tch T ≤ 5) (p q Q : Ty) (e : expo [b] [b].length T = tAll p q) (oQ : ok [b].length Q = true) (hb : bel [b] Q p = true) : 2 ≤ tch Q := by
  have ob : ok 0 b = true := hc.1
  have l1 : 0 < [b].length := Nat.zero_lt_one
  have low : ∀ F, ¬ 16 ≤ hd F → expo [b] [b].length F = F := fun F h => ex_n h
  have eT : T = tVar 0 := by
    rcases ok_cases oT with rfl | ⟨j, hj, rfl⟩ | ⟨x, y, rfl, -, -⟩ | ⟨x, y, rfl, ox, oy⟩ | ⟨m, x, y, z, hm, rfl, -⟩
    · rw [low _ (by decide)] at e
      have := congrArg hd e
      rw [hd_all] at this
      exact absurd this (by decide)
    · rw [show j = 0 by omega]
    · rw [low _ (by rw [hd_fun]; omega)] at e
      have := congrArg hd e
      rw [hd_all, hd_fun] at this
      omega
    · exfalso
      rw [tch_all] at t5
      have := tch_pos ox
      have := tch_pos oy
      omega
    · rw [low _ (by rw [hd_rec]; omega)] at e
      have := congrArg hd e
      rw [hd_all, hd_rec] at this
      omega
  rw [eT, (ex_v hc hv l1).1] at e
  have e : lft 0 1 b = tAll p q := e
  have h2 : hd b = 2 := by
    have q1 := congrArg hd e
    rw [hd_all] at q1
    have := hd_lf (k := 0) (n := 1) ob (hv 0 l1).2
    omega
  obtain ⟨B, C, eb, oB, oC⟩ := hd_is_all ob h2
  subst eb
  have b4 := hB B C rfl
  rw [lft_all] at e
  obtain ⟨ep, -⟩ := all_inj e
  rw [← ep] at hb
  refine Classical.byContradiction (fun n4 => ?_)
  have h16 : hd B < 16 := by
    rcases ok_cases oB with rfl | ⟨j, hj, rfl⟩ | ⟨x, y, rfl, -, -⟩ | ⟨x, y, rfl, ox, oy⟩ | ⟨m, x, y, z, hm, rfl, -⟩
    · decide
    · omega
    · rw [hd_fun]; omega
    · rw [hd_all]; omega
    · rw [hd_rec]; omega
  have h0 : hd B ≠ 0 := fun h => by
    rcases ok_cases oB with rfl | ⟨j, hj, rfl⟩ | ⟨x, y, rfl, -, -⟩ | ⟨x, y, rfl, ox, oy⟩ | ⟨m, x, y, z, hm, rfl, -⟩
    · exact absurd b4 (by decide)
    · omega
    · rw [hd_fun] at h; omega
    · rw [hd_all] at h; omega
    · rw [hd_rec] at h; omega
  have oB' : ok 1 (lft 0 1 B) = true := by
    have q := ok_lft 0 1 B 0 (by rw [Nat.add_zero]; exact oB)
    rw [Nat.add_zero] at q
    exact q
  have eh := hd_lf (k := 0) (n := 1) oB h16
  rcases arg_b (Γ0 := []) hc oQ h0 h16 (by omega) hb with ⟨j, hj, -⟩ | eq
  · exact absurd hj (Nat.not_lt_zero _)
  · rw [eq] at n4
    exact n4 (by decide)
end PmZu3
def RESTAK9 : Prop := ∀ (f : Nat) (x y : Ty) (Γ : List Ty) (Δ : List (Nat × Ty × Nat)) (t : Ty), H9 f x y Γ Δ → Sh9 x y t → ¬ CHo f t [] → (Δ = [] ∨ ∃ (b b' B C : Ty), Γ = [b] ∧ LBd [] [] b b' B C ∧ ¬ IS2 (fun _ => False) b ∧ sN B 0 1 C = true ∧ ((Δ.length = 1 ∧ (tch B = 1 ∨ 12 ≤ mch t ∨ (tch B = 2 ∧ mch t = 11)) ∧ inB (gB bQo (cch Γ) (mch t)) (tch B) (tch C) (tch b - tch (tAll B C)) 0 0 = true) ∨ (2 ≤ Δ.length ∧ (tch B = 1 ∨ (tch B = 2 ∧ 9 ≤ mch t) ∨ 10 ≤ mch t) ∧ inB (gB bQm (cch Γ) (mch t)) (tch B) (tch C) (tch b - tch (tAll B C)) 0 0 = true))) → PRn f x y Γ Δ
theorem restAJ9_of (R : RESTAK9) : RESTAJ9 := by
  intro f x y Γ Δ t H sh nc q
  have H' := H
  obtain ⟨hx9, hy9, ⟨he, hv, hd', h20, h47, nOne⟩, hb, nO, nPS, nPG, -⟩ := H'
  obtain ⟨⟨wt, nt, tt, m3', m3, n9⟩, pm, hbt⟩ := h9_t H sh
  rcases q with q | ⟨b, b', B, C, eΓ, lb, nf, fl, q⟩
  · exact R f x y Γ Δ t H sh nc (Or.inl q)
  have hc := he.1
  rw [eΓ] at hc
  have ob : ok 0 b = true := hc.1
  have oB := (ok_all.mp lb.1.2.1).1
  have pB := tch_pos oB
  have n3 := tch_three oB
  have hv' := hv
  rw [eΓ] at hv'
  have oTy : ∀ a ∈ Δ, ok 1 (lft a.2.2 (Γ.length - a.2.2) a.2.1) = true ∧ tch (lft a.2.2 (Γ.length - a.2.2) a.2.1) = tch a.2.1 ∧ tch a.2.1 + 4 ≤ dch Δ := by
    intro a ha
    have a9 := he.2.2 a ha
    refine ⟨?_, tch_lft a.2.2 _ a.2.1 a.2.2 a9.2.1, dch_mem ha⟩
    have q := ok_lft a.2.2 (Γ.length - a.2.2) a.2.1 0 (by rw [Nat.add_zero]; exact a9.2.1)
    rw [eΓ] at q ⊢
    have l0 : a.2.2 ≤ [b].length := by rw [eΓ] at a9; exact a9.1
    rw [show a.2.2 + ([b].length - a.2.2) + 0 = 1 by have : [b].length = 1 := rfl; omega] at q
    exact q
  have hBN : ∀ N, N ≤ tch B → ∀ B1 C1, b = tAll B1 C1 → N ≤ tch B1 := fun N hN B1 C1 e1 => by
    have h2 : hd b = 2 := by rw [e1, hd_all]
    have q1 := (lb_root lb ob h2).1
    rw [e1] at q1
    obtain ⟨q2, -⟩ := all_inj q1
    rw [q2]
    exact hN
  have low : ∀ (L : List (List (List (Nat × Nat × Nat)))), (∀ c, c < 28 → ∀ m, m < 11 → gB L c m = []) → inB (gB L (cch Γ) (mch t)) (tch B) (tch C) (tch b - tch (tAll B C)) 0 0 = true → mch t ≤ 10 → 28 ≤ cch Γ := by
    intro L hL q m10
    refine Classical.byContradiction (fun c => ?_)
    unfold inB at q
    rw [Bool.and_eq_true, Bool.and_eq_true] at q
    have q := q.2.2
    rw [hL _ (by omega) _ (by omega)] at q
    cases q
  rcases q with ⟨l1, q0, q⟩ | ⟨l2, q⟩
  · by_cases m12 : tch B = 1 ∨ 12 ≤ mch t ∨ (tch B = 2 ∧ mch t = 11)
    · exact R f x y Γ Δ t H sh nc (Or.inr ⟨b, b', B, C, eΓ, lb, nf, fl, Or.inl ⟨l1, m12, q⟩⟩)
    obtain ⟨a0, ea⟩ : ∃ a0, Δ = [a0] := by
      match Δ, l1 with
      | [a], _ => exact ⟨a, rfl⟩
    have m10 : mch t ≤ 10 := by omega
    have b2 : tch B = 2 := by omega
    refine h9_ntv H sh (fun S hS => ?_)
    exfalso
    by_cases m9 : mch t ≤ 9
    · rw [ea] at wt he hS
      exact vac_nine he hv wt tt nc m9 hS
    have c28 := low bQo (by decide +kernel) q m10
    have c29 : dch Δ ≠ 10 := fun d10 => by
      have e28 : cch Γ = 28 := by omega
      have e10 : mch t = 10 := by omega
      rw [e28, e10] at q
      unfold inB at q
      rw [show gB bQo 28 10 = [] by decide +kernel] at q
      simp at q
    obtain ⟨oT, eT, dT⟩ := oTy a0 (by rw [ea]; exact List.mem_singleton.mpr rfl)
    have d9 : dch Δ ≤ 10 := by omega
    rw [ea] at wt he hS
    refine vac_ten he hv (fun p q9 Q e oQ hbl => ?_) wt tt nc m10 hS
    subst eΓ
    exact arg_two hc hv' (hBN 2 (by omega)) oT (by omega) p q9 Q e oQ hbl
  · by_cases m12 : tch B = 1 ∨ (tch B = 2 ∧ 9 ≤ mch t) ∨ 10 ≤ mch t
    · exact R f x y Γ Δ t H sh nc (Or.inr ⟨b, b', B, C, eΓ, lb, nf, fl, Or.inr ⟨l2, m12, q⟩⟩)
    refine h9_ntv H sh (fun S hS => ?_)
    exfalso
    have c28 := low bQm (by decide +kernel) q (by omega)
    have m8 := cho_min _ _ _ _ _ wt nc
    simp only [List.length_nil] at m8
    -- two names at least: each of few characters
    have dT : ∀ a ∈ Δ, tch a.2.1 + 9 ≤ dch Δ := by
      intro a ha
      match Δ, l2, ha, he with
      | a1 :: a2 :: l, _, ha, he =>
        have p1 := tch_pos (he.2.2 a1 (by simp)).2.1
        have p2 := tch_pos (he.2.2 a2 (by simp)).2.1
        have e : dch (a1 :: a2 :: l) = (tch a1.2.1 + 4) + ((tch a2.2.1 + 4) + dch l) := rfl
        rcases List.mem_cons.mp ha with rfl | ha
        · omega
        · have := dch_mem ha
          have e2 : dch (a2 :: l) = (tch a2.2.1 + 4) + dch l := rfl
          omega
    have d14 : dch Δ ≤ 14 := by omega
    by_cases b4 : 4 ≤ tch B
    · refine vac_names (N := 4) he hv (fun a ha p q9 Q e oQ hbl => ?_) wt nc (by omega) (by omega) hS
      obtain ⟨oT, eT, -⟩ := oTy a ha
      have := dT a ha
      subst eΓ
      exact arg_four hc hv' (hBN 4 b4) oT (by omega) p q9 Q e oQ hbl
    · refine vac_names (N := 2) he hv (fun a ha p q9 Q e oQ hbl => ?_) wt nc (by omega) (by omega) hS
      obtain ⟨oT, eT, -⟩ := oTy a ha
      have := dT a ha
      subst eΓ
      exact arg_two hc hv' (hBN 2 (by omega)) oT (by omega) p q9 Q e oQ hbl
theorem pairn_qk (R : RESTAK9) : PAIRn := pairn_qj (restAJ9_of R)
