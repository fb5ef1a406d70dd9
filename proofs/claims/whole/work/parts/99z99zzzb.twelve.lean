/-! ONE BINDER, one name, the bound of four characters: twelve characters (RESTAP9). -/
section PmZzb1
variable {f : Nat} {t v u R T : Ty} {Γ : List Ty} {Δ : List (Nat × Ty × Nat)} {a0 : Nat × Ty × Nat} {S : Ty}
/-- no typed term has three characters -/
theorem no_three (he : TE Γ [a0]) (hT : hd (expo Γ Γ.length (lft a0.2.2 (Γ.length - a0.2.2) a0.2.1)) < 8) (hQ : ∀ p q Q : Ty, expo Γ Γ.length (lft a0.2.2 (Γ.length - a0.2.2) a0.2.1) = tAll p q → ok Γ.length Q = true → bel Γ Q p = true → 4 ≤ tch Q) (w : TWf f Γ.length [a0.1] v) (m3 : mch v = 3) (h : tyF f v Γ [a0] = .inr T) : False := by
  cases f with
  | zero => exact w.elim
  | succ f =>
  have w' := w
  obtain ⟨w0, w5, w6, w7, w8, w9, w10, w11, w12⟩ := w
  have em := mch_is w0.2.1
  rcases (show nKd v = 5 ∨ nKd v = 6 ∨ nKd v = 7 ∨ nKd v = 8 ∨ nKd v = 9 ∨ nKd v = 10 ∨ nKd v = 11 ∨ nKd v = 12 by omega) with c | c | c | c | c | c | c | c
  · rw [if_pos c] at em; omega
  · rw [if_neg (by omega), if_pos (Or.inl c)] at em
    have := tch_pos (w6 c).2.1
    omega
  · rw [if_neg (by omega), if_neg (by omega), if_neg (by omega), if_neg (by omega)] at em
    have := mch_pos' (w7 (Or.inl c)).1
    have := mch_pos' (w7 (Or.inl c)).2
    omega
  · rw [if_neg (by omega), if_pos (Or.inr c)] at em
    have := tch_pos (w8 c).1
    omega
  · rw [if_neg (by omega), if_neg (by omega), if_pos c] at em
    obtain ⟨x1, oQ, -⟩ := w9 c
    have p1 := mch_pos' x1
    have pQ := tch_pos oQ
    obtain ⟨S0, a, b, h1, h2, -⟩ := tyF_is9 w' he c h
    obtain ⟨S0', h1', -, hb⟩ := is9_bel w' c h
    rw [h1] at h1'
    injection h1' with h1'
    subst h1'
    rw [h2] at hb
    have hb : bel Γ (nY v) a = true := hb
    rw [ty_nm x1 (one_nm x1 (by omega)) h1] at h2
    have := hQ a b (nY v) h2 oQ hb
    omega
  · rw [if_neg (by omega), if_neg (by omega), if_neg (by omega), if_pos c] at em
    by_cases m0 : nMk v = 0
    · rw [if_pos m0] at em
      have no : ∀ g, g < 3 → mch (nP v g) = 0 := fun g hg => by
        have sk0 : ∀ g, g < 3 → sk 10 0 g = 0 := by decide
        rw [w0.2.2.1 g hg (by rw [c, m0]; exact sk0 g hg)]
        rfl
      have n0 : mch (nX v) = 0 := no 0 (by decide)
      have n1 : mch (nY v) = 0 := no 1 (by decide)
      have n2 : mch (nZ v) = 0 := no 2 (by decide)
      omega
    · rw [if_neg m0] at em
      have h3 : ∀ m, m < 8 → m ≠ 0 → 1 ≤ nlb m := by decide
      have := h3 _ (w10 c).1 m0
      omega
  · rw [if_neg (by omega), if_neg (by omega), if_neg (by omega), if_neg (by omega)] at em
    obtain ⟨m3', x1⟩ := w11 c
    have p1 := mch_pos' x1
    unfold tyF at h
    rw [if_neg (by omega), if_neg (by omega), if_neg (by omega), if_neg (by omega), if_neg (by omega), if_neg (by omega), if_pos c] at h
    obtain ⟨V, hV, q1⟩ := tbd_in h
    obtain ⟨e, -⟩ := tyO_in q1
    rw [ty_nm x1 (one_nm x1 (by omega)) hV] at e
    unfold tyD at e
    rw [if_neg (by omega)] at e
    cases e
  · rw [if_neg (by omega), if_neg (by omega), if_neg (by omega), if_neg (by omega)] at em
    have := mch_pos' (w7 (Or.inr c)).1
    have := mch_pos' (w7 (Or.inr c)).2
    omega
theorem ty_six (he : TE Γ [a0]) (hv : noac Γ) (hT : hd (expo Γ Γ.length (lft a0.2.2 (Γ.length - a0.2.2) a0.2.1)) < 8) (hQ : ∀ p q Q : Ty, expo Γ Γ.length (lft a0.2.2 (Γ.length - a0.2.2) a0.2.1) = tAll p q → ok Γ.length Q = true → bel Γ Q p = true → 4 ≤ tch Q) (w : TWf f Γ.length [a0.1] v) (tn : TNo f v) (nc : ¬ CFt f v) (m5 : mch v ≤ 6) (h : tyF f v Γ [a0] = .inr R) : hd (expo Γ Γ.length R) ≠ 2 ∧ ∀ m x y z, m < 8 → expo Γ Γ.length R = tRec m x y z → m = 0 := by
  cases f with
  | zero => exact w.elim
  | succ f =>
    have up : UPx tR0 (expo Γ Γ.length R) := by
      rcases sh_ncf w tn nc (by omega) with ⟨k, x1, x2, em, nn⟩ | ⟨k, x1, xn, xc, -⟩
      · obtain ⟨S1, S2, h1, h2, e⟩ := ty_or k h
        have o1 := (tyF_ok _ _ _ _ _ x1.1 he h1).1
        have o2 := (tyF_ok _ _ _ _ _ x2.1 he h2).1
        have q := ju_upx hv _ S1 S2 R ⟨he.1, o1, o2⟩ e
        have p1 := mch_pos' x1.1
        have p2 := mch_pos' x2.1
        by_cases m2 : mch (nX v) = 2
        · obtain ⟨a, b⟩ := two_nil x1.1 m2
          have e1 := ty_nil a b h1
          rw [e1, ex_r0] at q
          exact q.1
        · by_cases m2' : mch (nY v) = 2
          · obtain ⟨a, b⟩ := two_nil x2.1 m2'
            have e1 := ty_nil a b h2
            rw [e1, ex_r0] at q
            exact q.2
          · exfalso
            by_cases m3 : mch (nX v) = 3
            · exact no_three he hT hQ x1.1 m3 h1
            by_cases m3' : mch (nY v) = 3
            · exact no_three he hT hQ x2.1 m3' h2
            exact absurd ⟨one_nm x1.1 (by omega), one_nm x2.1 (by omega)⟩ nn
      · exfalso
        have q := ((chr_one _ _ _ _ x1 xn).1).resolve_left xc
        have em := mch_is w.1.2.1
        rcases k with k | k
        · rw [if_neg (by omega), if_neg (by omega), if_pos k] at em
          have := tch_pos (w.2.2.2.2.2.1 k).2.1
          omega
        · rw [if_neg (by omega), if_neg (by omega), if_neg (by omega), if_neg (by omega)] at em; omega
    have oR := (tyF_ok _ _ _ _ _ w he h).1
    refine ⟨fun h2 => ?_, fun m x y z m8 e => Classical.byContradiction (fun m0 => up.2 m x y z m8 e m0 (by decide))⟩
    obtain ⟨oE, -⟩ := expo_ok he.1 he.2.1 Γ.length R oR (tyF_ok _ _ _ _ _ w he h).2
    obtain ⟨a, b, e, -, -⟩ := hd_is_all oE h2
    obtain ⟨b', q⟩ := up.1 a b e
    have := congrArg hd q
    rw [hd_all] at this
    exact absurd this (by decide)
/-- an instance of a choice, ten characters -/
theorem ins_ten (he : TE Γ [a0]) (hv : noac Γ) (hT : hd (expo Γ Γ.length (lft a0.2.2 (Γ.length - a0.2.2) a0.2.1)) < 8) (hQ : ∀ p q Q : Ty, expo Γ Γ.length (lft a0.2.2 (Γ.length - a0.2.2) a0.2.1) = tAll p q → ok Γ.length Q = true → bel Γ Q p = true → 4 ≤ tch Q) {g : Nat} (w : TWf (g + 1) Γ.length [a0.1] u) (tn : TNo (g + 1) u) (k9 : nKd u = 9) (k12 : nKd (nX u) = 12) (m10 : mch u ≤ 10) (h : tyF (g + 1) u Γ [a0] = .inr R) : False := by
  obtain ⟨S0, a, b, h1, h2, -⟩ := tyF_is9 w he k9 h
  obtain ⟨S0', h1', -, hb⟩ := is9_bel w k9 h
  rw [h1] at h1'
  injection h1' with h1'
  subst h1'
  rw [h2] at hb
  have hb : bel Γ (nY u) a = true := hb
  obtain ⟨x1, oQ, -⟩ := w.2.2.2.2.2.1 k9
  have em := mch_is w.1.2.1
  rw [if_neg (by omega), if_neg (by omega), if_pos k9] at em
  have tQ := tch_pos oQ
  have tnv := tn.2.2.1 (Or.inl k9)
  cases g with
  | zero => exact x1.elim
  | succ g =>
  have ev := mch_is x1.1.2.1
  rw [if_neg (by omega), if_neg (by omega), if_neg (by omega), if_neg (by omega)] at ev
  obtain ⟨y1, y2⟩ := x1.2.2.2.1 (Or.inr k12)
  obtain ⟨S1, S2, g1, g2, ej⟩ := ty_or k12 h1
  have o1 := (tyF_ok _ _ _ _ _ y1 he g1).1
  have o2 := (tyF_ok _ _ _ _ _ y2 he g2).1
  have up := ju_upx hv _ S1 S2 S0 ⟨he.1, o1, o2⟩ ej
  rw [h2] at up
  obtain ⟨b1, E1⟩ := up.1.1 a b rfl
  obtain ⟨b2, E2⟩ := up.2.1 a b rfl
  have p1 := mch_pos' y1
  have p2 := mch_pos' y2
  have nil2 : ∀ (v T b3 : Ty), TWf g Γ.length [a0.1] v → mch v = 2 → tyF g v Γ [a0] = .inr T → expo Γ Γ.length T = tAll a b3 → False := by
    intro v T b3 wv m2 hT e
    obtain ⟨c1, c2⟩ := two_nil wv m2
    rw [ty_nil c1 c2 hT, ex_r0] at e
    have := congrArg hd e
    rw [hd_all] at this
    exact absurd this (by decide)
  have one : ∀ (v T b3 : Ty), TWf g Γ.length [a0.1] v → mch v = 1 → tyF g v Γ [a0] = .inr T → expo Γ Γ.length T = tAll a b3 → 4 ≤ tch (nY u) := by
    intro v T b3 wv m1 hT e
    rw [ty_nm wv (one_nm wv m1) hT] at e
    exact hQ a b3 (nY u) e oQ hb
  by_cases x2 : mch (nX (nX u)) = 2
  · exact nil2 _ S1 b1 y1 x2 g1 E1
  by_cases y2' : mch (nY (nX u)) = 2
  · exact nil2 _ S2 b2 y2 y2' g2 E2
  by_cases x3 : mch (nX (nX u)) = 3
  · exact no_three he hT hQ y1 x3 g1
  by_cases y3 : mch (nY (nX u)) = 3
  · exact no_three he hT hQ y2 y3 g2
  have q4 : 4 ≤ tch (nY u) := by
    by_cases m1 : mch (nX (nX u)) = 1
    · exact one _ S1 b1 y1 m1 g1 E1
    · exact one _ S2 b2 y2 (by omega) g2 E2
  have k1' := one_nm y1 (by omega)
  have k2' := one_nm y2 (by omega)
  exact tnv.2.2.2.2 k12 (smW_is.mpr ⟨k1', k2', by rw [nm_mk y1 k1', nm_mk y2 k2']⟩)
/-- twelve characters, one name: such a choice cannot be typed -/
theorem vac_twelve (he : TE Γ [a0]) (hv : noac Γ) (hT : hd (expo Γ Γ.length (lft a0.2.2 (Γ.length - a0.2.2) a0.2.1)) < 8) (hQ : ∀ p q Q : Ty, expo Γ Γ.length (lft a0.2.2 (Γ.length - a0.2.2) a0.2.1) = tAll p q → ok Γ.length Q = true → bel Γ Q p = true → 4 ≤ tch Q) (w : TWf f Γ.length [a0.1] t) (tn : TNo f t) (nc : ¬ CHo f t []) (m12 : mch t ≤ 12) : tyF f t Γ [a0] ≠ .inr S := by
  intro hS
  -- an operation on a choice of five characters
  have step : ∀ (g : Nat) (u R : Ty), TWf (g + 1) Γ.length [a0.1] u → TNo (g + 1) u → (nKd u = 9 ∨ nKd u = 11) → ¬ CFt g (nX u) → mch (nX u) ≤ 5 → tyF (g + 1) u Γ [a0] = .inr R → False := by
    intro g u R wu nu k nc5 m5 hR
    rcases k with k | k
    · obtain ⟨R1, a, b, h1, h2, -⟩ := tyF_is9 wu he k hR
      have q := (ty_five he hv (wu.2.2.2.2.2.1 k).1 (nu.2.2.1 (Or.inl k)) nc5 m5 h1).1
      rw [h2, hd_all] at q
      exact q rfl
    · have y1 := (wu.2.2.2.2.2.2.2.1 k).2
      have m3 := (wu.2.2.2.2.2.2.2.1 k).1
      unfold tyF at hR
      rw [if_neg (by omega), if_neg (by omega), if_neg (by omega), if_neg (by omega), if_neg (by omega), if_neg (by omega), if_pos k] at hR
      obtain ⟨R1, hR1, q1⟩ := tbd_in hR
      obtain ⟨e, -⟩ := tyO_in q1
      unfold tyD at e
      by_cases cc : (8 ≤ hd (expo Γ Γ.length R1) ∧ hd (expo Γ Γ.length R1) < 16) ∧ bit (hd (expo Γ Γ.length R1) - 8) (nMk u) = true
      rotate_left
      · rw [if_neg cc] at e; cases e
      have oR := tyF_ok _ _ _ _ _ y1 he hR1
      obtain ⟨oE, -⟩ := expo_ok he.1 he.2.1 Γ.length R1 oR.1 oR.2
      obtain ⟨m, x, y, z, m8, e2⟩ := hd_is_rec oE cc.1.1 cc.1.2
      have m0 := (ty_five he hv y1 (nu.2.2.1 (Or.inr k)) nc5 m5 hR1).2 m x y z m8 e2
      have c3 := cc.2
      rw [e2, hd_rec, m0] at c3
      rcases (show nMk u = 0 ∨ nMk u = 1 ∨ nMk u = 2 by omega) with g | g | g <;> rw [g] at c3 <;> exact absurd c3 (by decide)
  have h3 : ∀ m, m < 8 → m ≠ 0 → 1 ≤ nlb m := by decide
  have cf4 : ∀ (g : Nat) (u : Ty) (σ : List Bool), TWf g Γ.length [a0.1] u → TNo g u → ¬ CHo g u σ → 5 ≤ mch u := fun g u σ wu nu nu2 => ((chr_one g _ _ u wu nu).1).resolve_left (fun c => nu2 (cft_cho _ _ _ c))
  -- a field
  have fld : ∀ (g : Nat) (u : Ty) (σ : List Bool), TWf (g + 1) Γ.length [a0.1] u → nKd u = 10 → ∀ i, i < 3 → bit (nMk u) i = true → ¬ CHo g (nP u i) σ → 12 ≤ mch u + 2 * σ.length := by
    intro g u σ wu c i hi hb n
    have em := mch_is wu.1.2.1
    rw [if_neg (by omega), if_neg (by omega), if_neg (by omega), if_pos c] at em
    have w10 := wu.2.2.2.2.2.2.1 c
    have q := cho_min _ _ _ _ _ (w10.2 i hi hb) n
    have hm : ¬ nMk u = 0 := by
      intro e
      rw [e] at hb
      rcases (show i = 0 ∨ i = 1 ∨ i = 2 by omega) with rfl | rfl | rfl <;> exact absurd hb (by decide)
    rw [if_neg hm] at em
    have := h3 _ w10.1 hm
    rcases (show i = 0 ∨ i = 1 ∨ i = 2 by omega) with rfl | rfl | rfl
    · have q : 8 ≤ mch (nX u) + 2 * σ.length := q
      omega
    · have q : 8 ≤ mch (nY u) + 2 * σ.length := q
      omega
    · have q : 8 ≤ mch (nZ u) + 2 * σ.length := q
      omega
  -- a binder
  have bnd6 : ∀ (g : Nat) (u : Ty) (σ : List Bool), TWf (g + 1) Γ.length [a0.1] u → (nKd u = 6 ∨ nKd u = 8) → ¬ CHo g (nY u) σ → 13 ≤ mch u + 2 * σ.length := by
    intro g u σ wu c n
    have em := mch_is wu.1.2.1
    rw [if_neg (by omega), if_pos c] at em
    rcases c with c | c
    · have := cho_min _ _ _ _ _ (wu.2.2.1 c).2.2.2 n
      have := tch_pos (wu.2.2.1 c).2.1
      omega
    · have := cho_min _ _ _ _ _ (wu.2.2.2.2.1 c).2.2 n
      have := tch_pos (wu.2.2.2.2.1 c).1
      omega
  -- what an operation stands on
  have sub7 : ∀ (g : Nat) (u R : Ty), nKd u = 7 → tyF (g + 1) u Γ [a0] = .inr R → ∃ R1, tyF g (nX u) Γ [a0] = .inr R1 := by
    intro g u R c hR
    unfold tyF at hR
    rw [if_neg (by omega), if_neg (by omega), if_pos c] at hR
    obtain ⟨R1, hR1, -⟩ := tbd_in hR
    exact ⟨R1, hR1⟩
  have sub11 : ∀ (g : Nat) (u R : Ty), nKd u = 11 → tyF (g + 1) u Γ [a0] = .inr R → ∃ R1, tyF g (nX u) Γ [a0] = .inr R1 := by
    intro g u R c hR
    unfold tyF at hR
    rw [if_neg (by omega), if_neg (by omega), if_neg (by omega), if_neg (by omega), if_neg (by omega), if_neg (by omega), if_pos c] at hR
    obtain ⟨R1, hR1, -⟩ := tbd_in hR
    exact ⟨R1, hR1⟩
  have sub9 : ∀ (g : Nat) (u R : Ty), TWf (g + 1) Γ.length [a0.1] u → nKd u = 9 → tyF (g + 1) u Γ [a0] = .inr R → ∃ R1, tyF g (nX u) Γ [a0] = .inr R1 := by
    intro g u R wu c hR
    obtain ⟨R1, a, b, h1, -⟩ := tyF_is9 wu he c hR
    exact ⟨R1, h1⟩
  have e7 : ∀ (g : Nat) (u : Ty), TWf (g + 1) Γ.length [a0.1] u → nKd u = 7 → mch (nX u) + 3 ≤ mch u := by
    intro g u wu c
    have em := mch_is wu.1.2.1
    rw [if_neg (by omega), if_neg (by omega), if_neg (by omega), if_neg (by omega)] at em
    have := mch_pos' (wu.2.2.2.1 (Or.inl c)).2
    omega
  have e11 : ∀ (g : Nat) (u : Ty), TWf (g + 1) Γ.length [a0.1] u → nKd u = 11 → mch (nX u) + 2 ≤ mch u := by
    intro g u wu c
    have em := mch_is wu.1.2.1
    rw [if_neg (by omega), if_neg (by omega), if_neg (by omega), if_neg (by omega)] at em
    omega
  have e9 : ∀ (g : Nat) (u : Ty), TWf (g + 1) Γ.length [a0.1] u → nKd u = 9 → mch (nX u) + 2 ≤ mch u := by
    intro g u wu c
    have em := mch_is wu.1.2.1
    rw [if_neg (by omega), if_neg (by omega), if_pos c] at em
    have := tch_pos (wu.2.2.2.2.2.1 c).2.1
    omega
  have e12 : ∀ (g : Nat) (u : Ty), TWf (g + 1) Γ.length [a0.1] u → nKd u = 12 → mch (nX u) + 3 ≤ mch u ∧ mch (nY u) + 3 ≤ mch u := by
    intro g u wu c
    have em := mch_is wu.1.2.1
    rw [if_neg (by omega), if_neg (by omega), if_neg (by omega), if_neg (by omega)] at em
    have y := wu.2.2.2.1 (Or.inr c)
    have := mch_pos' y.1
    have := mch_pos' y.2
    omega
  -- two operations outside, seven characters below, no choice
  have lev2 : ∀ (g : Nat) (v R : Ty) (b1 b : Bool), TWf g Γ.length [a0.1] v → TNo g v → ¬ CHo g v [b1, b] → mch v ≤ 7 → nKd v ≠ 12 → tyF g v Γ [a0] = .inr R → False := by
    intro g v R b1 b wv nv nv2 m7 k12 hR
    cases g with
    | zero => exact wv.elim
    | succ g =>
      refine nv2 ⟨fun c => Classical.byContradiction (fun n => ?_), fun c => Classical.byContradiction (fun n => ?_), fun c => Classical.byContradiction (fun n => ?_), fun c i hi hb => Classical.byContradiction (fun n => ?_), fun c => absurd c k12⟩
      · have := bnd6 g v _ wv c n
        simp only [List.tail_cons, List.length_cons, List.length_nil] at this
        omega
      · rcases c with c | c
        · have := cf4 _ _ _ (wv.2.2.2.1 (Or.inl c)).1 (nv.2.1 (Or.inl c)).1 n
          have := e7 g v wv c
          omega
        · have := e11 g v wv c
          exact step g v R wv nv (Or.inr c) (fun q => n (cft_cho _ _ _ q)) (by omega) hR
      · have := e9 g v wv c
        exact step g v R wv nv (Or.inl c) (fun q => n (cft_cho _ _ _ q)) (by omega) hR
      · have := fld g v _ wv c i hi hb n
        simp only [List.tail_cons, List.length_cons, List.length_nil] at this
        omega
  -- one operation outside, nine characters below
  have lev1 : ∀ (g : Nat) (u R : Ty) (b : Bool), TWf g Γ.length [a0.1] u → TNo g u → ¬ CHo g u [b] → mch u ≤ 9 → tyF g u Γ [a0] = .inr R → False := by
    intro g u R b wu nu nu2 m9 hR
    cases g with
    | zero => exact wu.elim
    | succ g =>
      -- a choice under an operation that is no instance
      have cho : ∀ (v : Ty), TWf g Γ.length [a0.1] v → TNo g v → nKd v = 12 → mch v ≤ 7 → ¬ CHo g v [false, b] → False := by
        intro v wv nv k m7 n
        cases g with
        | zero => exact wv.elim
        | succ g =>
          have e := e12 g v wv k
          refine n ⟨fun c => by omega, fun c => by omega, fun c => by omega, fun c => by omega, fun _ => ⟨by cases b <;> rfl, Classical.byContradiction (fun n => ?_), Classical.byContradiction (fun n => ?_)⟩⟩
          · have := cf4 _ _ _ (wv.2.2.2.1 (Or.inr k)).1 (nv.2.1 (Or.inr k)).1 n
            omega
          · have := cf4 _ _ _ (wv.2.2.2.1 (Or.inr k)).2 (nv.2.1 (Or.inr k)).2 n
            omega
      refine nu2 ⟨fun c => Classical.byContradiction (fun n => ?_), fun c => Classical.byContradiction (fun n => ?_), fun c => Classical.byContradiction (fun n => ?_), fun c i hi hb => Classical.byContradiction (fun n => ?_), fun c => ⟨by cases b <;> rfl, Classical.byContradiction (fun n => ?_), Classical.byContradiction (fun n => ?_)⟩⟩
      · have := bnd6 g u _ wu c n
        simp only [List.tail_cons, List.length_nil] at this
        omega
      · rcases c with c | c
        · have e := e7 g u wu c
          obtain ⟨R1, h1⟩ := sub7 g u R c hR
          by_cases k : nKd (nX u) = 12
          · exact cho _ (wu.2.2.2.1 (Or.inl c)).1 (nu.2.1 (Or.inl c)).1 k (by omega) n
          · exact lev2 g _ R1 false b (wu.2.2.2.1 (Or.inl c)).1 (nu.2.1 (Or.inl c)).1 n (by omega) k h1
        · have e := e11 g u wu c
          obtain ⟨R1, h1⟩ := sub11 g u R c hR
          by_cases k : nKd (nX u) = 12
          · exact cho _ (wu.2.2.2.2.2.2.2.1 c).2 (nu.2.2.1 (Or.inr c)) k (by omega) n
          · exact lev2 g _ R1 false b (wu.2.2.2.2.2.2.2.1 c).2 (nu.2.2.1 (Or.inr c)) n (by omega) k h1
      · have e := e9 g u wu c
        obtain ⟨R1, h1⟩ := sub9 g u R wu c hR
        by_cases k : nKd (nX u) = 12
        · exact ins_cho he hv hQ wu nu c k m9 hR
        · exact lev2 g _ R1 true b (wu.2.2.2.2.2.1 c).1 (nu.2.2.1 (Or.inl c)) n (by omega) k h1
      · have := fld g u _ wu c i hi hb n
        simp only [List.tail_cons, List.length_nil] at this
        omega
      · have e := e12 g u wu c
        have := cho_min9 _ _ _ _ _ (wu.2.2.2.1 (Or.inr c)).1 (nu.2.1 (Or.inr c)).1 n
        simp only [List.length_cons, List.length_nil] at this
        omega
      · have e := e12 g u wu c
        have := cho_min9 _ _ _ _ _ (wu.2.2.2.1 (Or.inr c)).2 (nu.2.1 (Or.inr c)).2 n
        simp only [List.length_cons, List.length_nil] at this
        omega
  have step6 : ∀ (g : Nat) (u R : Ty), TWf (g + 1) Γ.length [a0.1] u → TNo (g + 1) u → (nKd u = 9 ∨ nKd u = 11) → ¬ CFt g (nX u) → mch (nX u) ≤ 6 → tyF (g + 1) u Γ [a0] = .inr R → False := by
    intro g u R wu nu k nc5 m5 hR
    rcases k with k | k
    · obtain ⟨R1, a, b, h1, h2, -⟩ := tyF_is9 wu he k hR
      have q := (ty_six he hv hT hQ (wu.2.2.2.2.2.1 k).1 (nu.2.2.1 (Or.inl k)) nc5 m5 h1).1
      rw [h2, hd_all] at q
      exact q rfl
    · have y1 := (wu.2.2.2.2.2.2.2.1 k).2
      have m3 := (wu.2.2.2.2.2.2.2.1 k).1
      unfold tyF at hR
      rw [if_neg (by omega), if_neg (by omega), if_neg (by omega), if_neg (by omega), if_neg (by omega), if_neg (by omega), if_pos k] at hR
      obtain ⟨R1, hR1, q1⟩ := tbd_in hR
      obtain ⟨e, -⟩ := tyO_in q1
      unfold tyD at e
      by_cases cc : (8 ≤ hd (expo Γ Γ.length R1) ∧ hd (expo Γ Γ.length R1) < 16) ∧ bit (hd (expo Γ Γ.length R1) - 8) (nMk u) = true
      rotate_left
      · rw [if_neg cc] at e; cases e
      have oR := tyF_ok _ _ _ _ _ y1 he hR1
      obtain ⟨oE, -⟩ := expo_ok he.1 he.2.1 Γ.length R1 oR.1 oR.2
      obtain ⟨m, x, y, z, m8, e2⟩ := hd_is_rec oE cc.1.1 cc.1.2
      have m0 := (ty_six he hv hT hQ y1 (nu.2.2.1 (Or.inr k)) nc5 m5 hR1).2 m x y z m8 e2
      have c3 := cc.2
      rw [e2, hd_rec, m0] at c3
      rcases (show nMk u = 0 ∨ nMk u = 1 ∨ nMk u = 2 by omega) with g | g | g <;> rw [g] at c3 <;> exact absurd c3 (by decide)
  have fld9 : ∀ (g : Nat) (u : Ty) (σ : List Bool), TWf (g + 1) Γ.length [a0.1] u → TNo (g + 1) u → nKd u = 10 → ∀ i, i < 3 → bit (nMk u) i = true → ¬ CHo g (nP u i) σ → 13 ≤ mch u + 2 * σ.length := by
    intro g u σ wu nu c i hi hb n
    have em := mch_is wu.1.2.1
    rw [if_neg (by omega), if_neg (by omega), if_neg (by omega), if_pos c] at em
    have w10 := wu.2.2.2.2.2.2.1 c
    have q := cho_min9 _ _ _ _ _ (w10.2 i hi hb) (nu.2.2.2.1 c i hi hb) n
    have hm : ¬ nMk u = 0 := by
      intro e
      rw [e] at hb
      rcases (show i = 0 ∨ i = 1 ∨ i = 2 by omega) with rfl | rfl | rfl <;> exact absurd hb (by decide)
    rw [if_neg hm] at em
    have := h3 _ w10.1 hm
    rcases (show i = 0 ∨ i = 1 ∨ i = 2 by omega) with rfl | rfl | rfl
    · have q : 9 ≤ mch (nX u) + 2 * σ.length := q
      omega
    · have q : 9 ≤ mch (nY u) + 2 * σ.length := q
      omega
    · have q : 9 ≤ mch (nZ u) + 2 * σ.length := q
      omega
  have six : ∀ (g : Nat) (X : Ty) (b : Bool), TWf g Γ.length [a0.1] X → TNo g X → ¬ CHo g X [false, b] → 6 ≤ mch X := by
    intro g X b wX nX9 n
    refine Classical.byContradiction (fun l => ?_)
    cases g with
    | zero => exact wX.elim
    | succ g =>
      refine n ⟨fun c => Classical.byContradiction (fun n => ?_), fun c => Classical.byContradiction (fun n => ?_), fun c => Classical.byContradiction (fun n => ?_), fun c i hi hb => Classical.byContradiction (fun n => ?_), fun c => ⟨by cases b <;> rfl, Classical.byContradiction (fun n => ?_), Classical.byContradiction (fun n => ?_)⟩⟩
      · have := bnd6 g X _ wX c n
        simp only [List.tail_cons, List.length_cons, List.length_nil] at this
        omega
      · rcases c with c | c
        · have := cf4 _ _ _ (wX.2.2.2.1 (Or.inl c)).1 (nX9.2.1 (Or.inl c)).1 n
          have := e7 g X wX c
          omega
        · have := cf4 _ _ _ (wX.2.2.2.2.2.2.2.1 c).2 (nX9.2.2.1 (Or.inr c)) n
          have := e11 g X wX c
          omega
      · have := cf4 _ _ _ (wX.2.2.2.2.2.1 c).1 (nX9.2.2.1 (Or.inl c)) n
        have := e9 g X wX c
        omega
      · have := fld g X _ wX c i hi hb n
        simp only [List.tail_cons, List.length_cons, List.length_nil] at this
        omega
      · have := cf4 _ _ _ (wX.2.2.2.1 (Or.inr c)).1 (nX9.2.1 (Or.inr c)).1 n
        have := e12 g X wX c
        omega
      · have := cf4 _ _ _ (wX.2.2.2.1 (Or.inr c)).2 (nX9.2.1 (Or.inr c)).2 n
        have := e12 g X wX c
        omega
  have choA : ∀ (g : Nat) (v : Ty) (b : Bool), TWf g Γ.length [a0.1] v → TNo g v → nKd v = 12 → mch v ≤ 8 → ¬ CHo g v [false, b] → False := by
    intro g v b wv nv k m8 n
    cases g with
    | zero => exact wv.elim
    | succ g =>
      have e := e12 g v wv k
      refine n ⟨fun c => by omega, fun c => by omega, fun c => by omega, fun c => by omega, fun _ => ⟨by cases b <;> rfl, Classical.byContradiction (fun n => ?_), Classical.byContradiction (fun n => ?_)⟩⟩
      · have := six _ _ _ (wv.2.2.2.1 (Or.inr k)).1 (nv.2.1 (Or.inr k)).1 n
        omega
      · have := six _ _ _ (wv.2.2.2.1 (Or.inr k)).2 (nv.2.1 (Or.inr k)).2 n
        omega
  have lev2b : ∀ (g : Nat) (v R : Ty) (b1 b : Bool), TWf g Γ.length [a0.1] v → TNo g v → ¬ CHo g v [b1, b] → mch v ≤ 8 → nKd v ≠ 12 → tyF g v Γ [a0] = .inr R → False := by
    intro g v R b1 b wv nv nv2 m8 k12 hR
    cases g with
    | zero => exact wv.elim
    | succ g =>
      refine nv2 ⟨fun c => Classical.byContradiction (fun n => ?_), fun c => Classical.byContradiction (fun n => ?_), fun c => Classical.byContradiction (fun n => ?_), fun c i hi hb => Classical.byContradiction (fun n => ?_), fun c => absurd c k12⟩
      · have := bnd6 g v _ wv c n
        simp only [List.tail_cons, List.length_cons, List.length_nil] at this
        omega
      · rcases c with c | c
        · have e := e7 g v wv c
          have x1 := (wv.2.2.2.1 (Or.inl c)).1
          have xn := (nv.2.1 (Or.inl c)).1
          unfold tyF at hR
          rw [if_neg (by omega), if_neg (by omega), if_pos c] at hR
          obtain ⟨X, hX, q1⟩ := tbd_in hR
          obtain ⟨Y, -, q1⟩ := tbd_in q1
          obtain ⟨e3, -⟩ := tyO_in q1
          have q := ty_five1 he hv x1 xn (fun q => n (cft_cho _ _ _ q)) (by omega) hX
          unfold tyA at e3
          rw [if_neg (fun cc => q cc.1)] at e3
          cases e3
        · have := e11 g v wv c
          exact step6 g v R wv nv (Or.inr c) (fun q => n (cft_cho _ _ _ q)) (by omega) hR
      · have := e9 g v wv c
        exact step6 g v R wv nv (Or.inl c) (fun q => n (cft_cho _ _ _ q)) (by omega) hR
      · have := fld g v _ wv c i hi hb n
        simp only [List.tail_cons, List.length_cons, List.length_nil] at this
        omega
  have lev1b : ∀ (g : Nat) (u R : Ty) (b : Bool), TWf g Γ.length [a0.1] u → TNo g u → ¬ CHo g u [b] → mch u ≤ 10 → tyF g u Γ [a0] = .inr R → False := by
    intro g u R b wu nu nu2 m10 hR
    by_cases m9 : mch u ≤ 9
    · exact lev1 g u R b wu nu nu2 m9 hR
    cases g with
    | zero => exact wu.elim
    | succ g =>
      refine nu2 ⟨fun c => Classical.byContradiction (fun n => ?_), fun c => Classical.byContradiction (fun n => ?_), fun c => Classical.byContradiction (fun n => ?_), fun c i hi hb => Classical.byContradiction (fun n => ?_), fun c => ⟨by cases b <;> rfl, Classical.byContradiction (fun n => ?_), Classical.byContradiction (fun n => ?_)⟩⟩
      · have := bnd6 g u _ wu c n
        simp only [List.tail_cons, List.length_nil] at this
        omega
      · rcases c with c | c
        · have e := e7 g u wu c
          obtain ⟨R1, h1⟩ := sub7 g u R c hR
          by_cases k : nKd (nX u) = 12
          · exact choA g _ b (wu.2.2.2.1 (Or.inl c)).1 (nu.2.1 (Or.inl c)).1 k (by omega) n
          · exact lev2b g _ R1 false b (wu.2.2.2.1 (Or.inl c)).1 (nu.2.1 (Or.inl c)).1 n (by omega) k h1
        · have e := e11 g u wu c
          obtain ⟨R1, h1⟩ := sub11 g u R c hR
          by_cases k : nKd (nX u) = 12
          · exact choA g _ b (wu.2.2.2.2.2.2.2.1 c).2 (nu.2.2.1 (Or.inr c)) k (by omega) n
          · exact lev2b g _ R1 false b (wu.2.2.2.2.2.2.2.1 c).2 (nu.2.2.1 (Or.inr c)) n (by omega) k h1
      · have e := e9 g u wu c
        obtain ⟨R1, h1⟩ := sub9 g u R wu c hR
        by_cases k : nKd (nX u) = 12
        · exact ins_ten he hv hT hQ wu nu c k m10 hR
        · exact lev2b g _ R1 true b (wu.2.2.2.2.2.1 c).1 (nu.2.2.1 (Or.inl c)) n (by omega) k h1
      · have := fld g u _ wu c i hi hb n
        simp only [List.tail_cons, List.length_nil] at this
        omega
      · have e := e12 g u wu c
        obtain ⟨S1, S2, h1, h2, -⟩ := ty_or c hR
        exact lev1 g _ S1 b (wu.2.2.2.1 (Or.inr c)).1 (nu.2.1 (Or.inr c)).1 n (by omega) h1
      · have e := e12 g u wu c
        obtain ⟨S1, S2, h1, h2, -⟩ := ty_or c hR
        exact lev1 g _ S2 b (wu.2.2.2.1 (Or.inr c)).2 (nu.2.1 (Or.inr c)).2 n (by omega) h2
  cases f with
  | zero => exact w.elim
  | succ f =>
    refine nc ⟨fun c => Classical.byContradiction (fun n => ?_), fun c => Classical.byContradiction (fun n => ?_), fun c => Classical.byContradiction (fun n => ?_), fun c i hi hb => Classical.byContradiction (fun n => ?_), fun c => ⟨rfl, Classical.byContradiction (fun n => ?_), Classical.byContradiction (fun n => ?_)⟩⟩
    · have := bnd6 f t _ w c n
      simp only [List.tail_nil, List.length_nil] at this
      omega
    · rcases c with c | c
      · have e := e7 f t w c
        obtain ⟨R1, h1⟩ := sub7 f t S c hS
        exact lev1b f _ R1 false (w.2.2.2.1 (Or.inl c)).1 (tn.2.1 (Or.inl c)).1 n (by omega) h1
      · have e := e11 f t w c
        obtain ⟨R1, h1⟩ := sub11 f t S c hS
        exact lev1b f _ R1 false (w.2.2.2.2.2.2.2.1 c).2 (tn.2.2.1 (Or.inr c)) n (by omega) h1
    · have e := e9 f t w c
      obtain ⟨R1, h1⟩ := sub9 f t S w c hS
      exact lev1b f _ R1 true (w.2.2.2.2.2.1 c).1 (tn.2.2.1 (Or.inl c)) n (by omega) h1
    · have := fld9 f t _ w tn c i hi hb n
      simp only [List.tail_nil, List.length_nil] at this
      omega
    · have e := e12 f t w c
      obtain ⟨S1, S2, h1, h2, -⟩ := ty_or c hS
      exact vac_nine he hv (w.2.2.2.1 (Or.inr c)).1 (tn.2.1 (Or.inr c)).1 n (by omega) h1
    · have e := e12 f t w c
      obtain ⟨S1, S2, h1, h2, -⟩ := ty_or c hS
      exact vac_nine he hv (w.2.2.2.1 (Or.inr c)).2 (tn.2.1 (Or.inr c)).2 n (by omega) h2
end PmZzb1
