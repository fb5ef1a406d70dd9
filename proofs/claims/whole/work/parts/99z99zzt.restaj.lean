/-! CHOICES ANYWHERE, one binder: the bound of the scheme has four characters and more, one name, eleven characters: untypable (RESTAJ9). -/
section PmZt1
variable {f : Nat} {t : Ty} {Γ : List Ty} {Δ : List (Nat × Ty × Nat)} {a0 : Nat × Ty × Nat} {S : Ty}
/-- an instance of a choice -/
theorem ins_cho (he : TE Γ [a0]) (hv : noac Γ) (hQ : ∀ p q Q : Ty, expo Γ Γ.length (lft a0.2.2 (Γ.length - a0.2.2) a0.2.1) = tAll p q → ok Γ.length Q = true → bel Γ Q p = true → 4 ≤ tch Q) {g : Nat} {u R : Ty} (w : TWf (g + 1) Γ.length [a0.1] u) (tn : TNo (g + 1) u) (k9 : nKd u = 9) (k12 : nKd (nX u) = 12) (m9 : mch u ≤ 9) (h : tyF (g + 1) u Γ [a0] = .inr R) : False := by
  obtain ⟨S0, a, b, h1, h2, -⟩ := tyF_is9 w he k9 h
  obtain ⟨S0', h1', -, hb⟩ := is9_bel w k9 h
  rw [h1] at h1'
  injection h1' with h1'
  subst h1'
  rw [h2] at hb
  have hb : bel Γ (nY u) a = true := hb
  obtain ⟨x1, oQ, -⟩ := w.2.2.2.2.2.1 k9
  have em := mch_is w.1.2.1
  rw [if_neg (by omega), if_neg (by omega), if_pos k9] at em
  have tQ := tch_pos oQ
  have tnv := tn.2.2.1 (Or.inl k9)
  cases g with
  | zero => exact x1.elim
  | succ g =>
  rcases sh_ncf x1 tnv (fun q => q.2.2.2 k12) (by omega) with ⟨-, y1, y2, ev, nn⟩ | ⟨k, -⟩
  rotate_left
  · omega
  obtain ⟨S1, S2, g1, g2, ej⟩ := ty_or k12 h1
  have o1 := (tyF_ok _ _ _ _ _ y1.1 he g1).1
  have o2 := (tyF_ok _ _ _ _ _ y2.1 he g2).1
  have up := ju_upx hv _ S1 S2 S0 ⟨he.1, o1, o2⟩ ej
  rw [h2] at up
  obtain ⟨b1, E1⟩ := up.1.1 a b rfl
  obtain ⟨b2, E2⟩ := up.2.1 a b rfl
  have p1 := mch_pos' y1.1
  have p2 := mch_pos' y2.1
  have one : ∀ (v T b3 : Ty), TWf g Γ.length [a0.1] v → mch v ≤ 2 → tyF g v Γ [a0] = .inr T → expo Γ Γ.length T = tAll a b3 → 4 ≤ tch (nY u) := by
    intro v T b3 wv m2 hT e
    have pv := mch_pos' wv
    by_cases m1 : mch v = 1
    · have k5 := one_nm wv m1
      rw [ty_nm wv k5 hT] at e
      exact hQ a b3 (nY u) e oQ hb
    · exfalso
      obtain ⟨c1, c2⟩ := two_nil wv (by omega)
      rw [ty_nil c1 c2 hT, ex_r0] at e
      have := congrArg hd e
      rw [hd_all] at this
      exact absurd this (by decide)
  have q4 : 4 ≤ tch (nY u) := by
    by_cases m2 : mch (nX (nX u)) ≤ 2
    · exact one _ S1 b1 y1.1 m2 g1 E1
    · exact one _ S2 b2 y2.1 (by omega) g2 E2
  exact nn ⟨one_nm y1.1 (by omega), one_nm y2.1 (by omega)⟩
/-- eleven characters, one name: such a choice cannot be typed -/
theorem vac_eleven (he : TE Γ [a0]) (hv : noac Γ) (hQ : ∀ p q Q : Ty, expo Γ Γ.length (lft a0.2.2 (Γ.length - a0.2.2) a0.2.1) = tAll p q → ok Γ.length Q = true → bel Γ Q p = true → 4 ≤ tch Q) (w : TWf f Γ.length [a0.1] t) (tn : TNo f t) (nc : ¬ CHo f t []) (m11 : mch t ≤ 11) : tyF f t Γ [a0] ≠ .inr S := by
  intro hS
  -- an operation on a choice of five characters
  have step : ∀ (g : Nat) (u R : Ty), TWf (g + 1) Γ.length [a0.1] u → TNo (g + 1) u → (nKd u = 9 ∨ nKd u = 11) → ¬ CFt g (nX u) → mch (nX u) ≤ 5 → tyF (g + 1) u Γ [a0] = .inr R → False := by
    intro g u R wu nu k nc5 m5 hR
    rcases k with k | k
    · obtain ⟨R1, a, b, h1, h2, -⟩ := tyF_is9 wu he k hR
      have q := (ty_five he hv (wu.2.2.2.2.2.1 k).1 (nu.2.2.1 (Or.inl k)) nc5 m5 h1).1
      rw [h2, hd_all] at q
      exact q rfl
    · have y1 := (wu.2.2.2.2.2.2.2.1 k).2
      have m3 := (wu.2.2.2.2.2.2.2.1 k).1
      unfold tyF at hR
      rw [if_neg (by omega), if_neg (by omega), if_neg (by omega), if_neg (by omega), if_neg (by omega), if_neg (by omega), if_pos k] at hR
      obtain ⟨R1, hR1, q1⟩ := tbd_in hR
      obtain ⟨e, -⟩ := tyO_in q1
      unfold tyD at e
      by_cases cc : (8 ≤ hd (expo Γ Γ.length R1) ∧ hd (expo Γ Γ.length R1) < 16) ∧ bit (hd (expo Γ Γ.length R1) - 8) (nMk u) = true
      rotate_left
      · rw [if_neg cc] at e; cases e
      have oR := tyF_ok _ _ _ _ _ y1 he hR1
      obtain ⟨oE, -⟩ := expo_ok he.1 he.2.1 Γ.length R1 oR.1 oR.2
      obtain ⟨m, x, y, z, m8, e2⟩ := hd_is_rec oE cc.1.1 cc.1.2
      have m0 := (ty_five he hv y1 (nu.2.2.1 (Or.inr k)) nc5 m5 hR1).2 m x y z m8 e2
      have c3 := cc.2
      rw [e2, hd_rec, m0] at c3
      rcases (show nMk u = 0 ∨ nMk u = 1 ∨ nMk u = 2 by omega) with g | g | g <;> rw [g] at c3 <;> exact absurd c3 (by decide)
  have h3 : ∀ m, m < 8 → m ≠ 0 → 1 ≤ nlb m := by decide
  have cf4 : ∀ (g : Nat) (u : Ty) (σ : List Bool), TWf g Γ.length [a0.1] u → TNo g u → ¬ CHo g u σ → 5 ≤ mch u := fun g u σ wu nu nu2 => ((chr_one g _ _ u wu nu).1).resolve_left (fun c => nu2 (cft_cho _ _ _ c))
  -- a field
  have fld : ∀ (g : Nat) (u : Ty) (σ : List Bool), TWf (g + 1) Γ.length [a0.1] u → nKd u = 10 → ∀ i, i < 3 → bit (nMk u) i = true → ¬ CHo g (nP u i) σ → 12 ≤ mch u + 2 * σ.length := by
    intro g u σ wu c i hi hb n
    have em := mch_is wu.1.2.1
    rw [if_neg (by omega), if_neg (by omega), if_neg (by omega), if_pos c] at em
    have w10 := wu.2.2.2.2.2.2.1 c
    have q := cho_min _ _ _ _ _ (w10.2 i hi hb) n
    have hm : ¬ nMk u = 0 := by
      intro e
      rw [e] at hb
      rcases (show i = 0 ∨ i = 1 ∨ i = 2 by omega) with rfl | rfl | rfl <;> exact absurd hb (by decide)
    rw [if_neg hm] at em
    have := h3 _ w10.1 hm
    rcases (show i = 0 ∨ i = 1 ∨ i = 2 by omega) with rfl | rfl | rfl
    · have q : 8 ≤ mch (nX u) + 2 * σ.length := q
      omega
    · have q : 8 ≤ mch (nY u) + 2 * σ.length := q
      omega
    · have q : 8 ≤ mch (nZ u) + 2 * σ.length := q
      omega
  -- a binder
  have bnd6 : ∀ (g : Nat) (u : Ty) (σ : List Bool), TWf (g + 1) Γ.length [a0.1] u → (nKd u = 6 ∨ nKd u = 8) → ¬ CHo g (nY u) σ → 13 ≤ mch u + 2 * σ.length := by
    intro g u σ wu c n
    have em := mch_is wu.1.2.1
    rw [if_neg (by omega), if_pos c] at em
    rcases c with c | c
    · have := cho_min _ _ _ _ _ (wu.2.2.1 c).2.2.2 n
      have := tch_pos (wu.2.2.1 c).2.1
      omega
    · have := cho_min _ _ _ _ _ (wu.2.2.2.2.1 c).2.2 n
      have := tch_pos (wu.2.2.2.2.1 c).1
      omega
  -- what an operation stands on
  have sub7 : ∀ (g : Nat) (u R : Ty), nKd u = 7 → tyF (g + 1) u Γ [a0] = .inr R → ∃ R1, tyF g (nX u) Γ [a0] = .inr R1 := by
    intro g u R c hR
    unfold tyF at hR
    rw [if_neg (by omega), if_neg (by omega), if_pos c] at hR
    obtain ⟨R1, hR1, -⟩ := tbd_in hR
    exact ⟨R1, hR1⟩
  have sub11 : ∀ (g : Nat) (u R : Ty), nKd u = 11 → tyF (g + 1) u Γ [a0] = .inr R → ∃ R1, tyF g (nX u) Γ [a0] = .inr R1 := by
    intro g u R c hR
    unfold tyF at hR
    rw [if_neg (by omega), if_neg (by omega), if_neg (by omega), if_neg (by omega), if_neg (by omega), if_neg (by omega), if_pos c] at hR
    obtain ⟨R1, hR1, -⟩ := tbd_in hR
    exact ⟨R1, hR1⟩
  have sub9 : ∀ (g : Nat) (u R : Ty), TWf (g + 1) Γ.length [a0.1] u → nKd u = 9 → tyF (g + 1) u Γ [a0] = .inr R → ∃ R1, tyF g (nX u) Γ [a0] = .inr R1 := by
    intro g u R wu c hR
    obtain ⟨R1, a, b, h1, -⟩ := tyF_is9 wu he c hR
    exact ⟨R1, h1⟩
  have e7 : ∀ (g : Nat) (u : Ty), TWf (g + 1) Γ.length [a0.1] u → nKd u = 7 → mch (nX u) + 3 ≤ mch u := by
    intro g u wu c
    have em := mch_is wu.1.2.1
    rw [if_neg (by omega), if_neg (by omega), if_neg (by omega), if_neg (by omega)] at em
    have := mch_pos' (wu.2.2.2.1 (Or.inl c)).2
    omega
  have e11 : ∀ (g : Nat) (u : Ty), TWf (g + 1) Γ.length [a0.1] u → nKd u = 11 → mch (nX u) + 2 ≤ mch u := by
    intro g u wu c
    have em := mch_is wu.1.2.1
    rw [if_neg (by omega), if_neg (by omega), if_neg (by omega), if_neg (by omega)] at em
    omega
  have e9 : ∀ (g : Nat) (u : Ty), TWf (g + 1) Γ.length [a0.1] u → nKd u = 9 → mch (nX u) + 2 ≤ mch u := by
    intro g u wu c
    have em := mch_is wu.1.2.1
    rw [if_neg (by omega), if_neg (by omega), if_pos c] at em
    have := tch_pos (wu.2.2.2.2.2.1 c).2.1
    omega
  have e12 : ∀ (g : Nat) (u : Ty), TWf (g + 1) Γ.length [a0.1] u → nKd u = 12 → mch (nX u) + 3 ≤ mch u ∧ mch (nY u) + 3 ≤ mch u := by
    intro g u wu c
    have em := mch_is wu.1.2.1
    rw [if_neg (by omega), if_neg (by omega), if_neg (by omega), if_neg (by omega)] at em
    have y := wu.2.2.2.1 (Or.inr c)
    have := mch_pos' y.1
    have := mch_pos' y.2
    omega
  -- two operations outside, seven characters below, no choice
  have lev2 : ∀ (g : Nat) (v R : Ty) (b1 b : Bool), TWf g Γ.length [a0.1] v → TNo g v → ¬ CHo g v [b1, b] → mch v ≤ 7 → nKd v ≠ 12 → tyF g v Γ [a0] = .inr R → False := by
    intro g v R b1 b wv nv nv2 m7 k12 hR
    cases g with
    | zero => exact wv.elim
    | succ g =>
      refine nv2 ⟨fun c => Classical.byContradiction (fun n => ?_), fun c => Classical.byContradiction (fun n => ?_), fun c => Classical.byContradiction (fun n => ?_), fun c i hi hb => Classical.byContradiction (fun n => ?_), fun c => absurd c k12⟩
      · have := bnd6 g v _ wv c n
        simp only [List.tail_cons, List.length_cons, List.length_nil] at this
        omega
      · rcases c with c | c
        · have := cf4 _ _ _ (wv.2.2.2.1 (Or.inl c)).1 (nv.2.1 (Or.inl c)).1 n
          have := e7 g v wv c
          omega
        · have := e11 g v wv c
          exact step g v R wv nv (Or.inr c) (fun q => n (cft_cho _ _ _ q)) (by omega) hR
      · have := e9 g v wv c
        exact step g v R wv nv (Or.inl c) (fun q => n (cft_cho _ _ _ q)) (by omega) hR
      · have := fld g v _ wv c i hi hb n
        simp only [List.tail_cons, List.length_cons, List.length_nil] at this
        omega
  -- one operation outside, nine characters below
  have lev1 : ∀ (g : Nat) (u R : Ty) (b : Bool), TWf g Γ.length [a0.1] u → TNo g u → ¬ CHo g u [b] → mch u ≤ 9 → tyF g u Γ [a0] = .inr R → False := by
    intro g u R b wu nu nu2 m9 hR
    cases g with
    | zero => exact wu.elim
    | succ g =>
      -- a choice under an operation that is no instance
      have cho : ∀ (v : Ty), TWf g Γ.length [a0.1] v → TNo g v → nKd v = 12 → mch v ≤ 7 → ¬ CHo g v [false, b] → False := by
        intro v wv nv k m7 n
        cases g with
        | zero => exact wv.elim
        | succ g =>
          have e := e12 g v wv k
          refine n ⟨fun c => by omega, fun c => by omega, fun c => by omega, fun c => by omega, fun _ => ⟨by cases b <;> rfl, Classical.byContradiction (fun n => ?_), Classical.byContradiction (fun n => ?_)⟩⟩
          · have := cf4 _ _ _ (wv.2.2.2.1 (Or.inr k)).1 (nv.2.1 (Or.inr k)).1 n
            omega
          · have := cf4 _ _ _ (wv.2.2.2.1 (Or.inr k)).2 (nv.2.1 (Or.inr k)).2 n
            omega
      refine nu2 ⟨fun c => Classical.byContradiction (fun n => ?_), fun c => Classical.byContradiction (fun n => ?_), fun c => Classical.byContradiction (fun n => ?_), fun c i hi hb => Classical.byContradiction (fun n => ?_), fun c => ⟨by cases b <;> rfl, Classical.byContradiction (fun n => ?_), Classical.byContradiction (fun n => ?_)⟩⟩
      · have := bnd6 g u _ wu c n
        simp only [List.tail_cons, List.length_nil] at this
        omega
      · rcases c with c | c
        · have e := e7 g u wu c
          obtain ⟨R1, h1⟩ := sub7 g u R c hR
          by_cases k : nKd (nX u) = 12
          · exact cho _ (wu.2.2.2.1 (Or.inl c)).1 (nu.2.1 (Or.inl c)).1 k (by omega) n
          · exact lev2 g _ R1 false b (wu.2.2.2.1 (Or.inl c)).1 (nu.2.1 (Or.inl c)).1 n (by omega) k h1
        · have e := e11 g u wu c
          obtain ⟨R1, h1⟩ := sub11 g u R c hR
          by_cases k : nKd (nX u) = 12
          · exact cho _ (wu.2.2.2.2.2.2.2.1 c).2 (nu.2.2.1 (Or.inr c)) k (by omega) n
          · exact lev2 g _ R1 false b (wu.2.2.2.2.2.2.2.1 c).2 (nu.2.2.1 (Or.inr c)) n (by omega) k h1
      · have e := e9 g u wu c
        obtain ⟨R1, h1⟩ := sub9 g u R wu c hR
        by_cases k : nKd (nX u) = 12
        · exact ins_cho he hv hQ wu nu c k m9 hR
        · exact lev2 g _ R1 true b (wu.2.2.2.2.2.1 c).1 (nu.2.2.1 (Or.inl c)) n (by omega) k h1
      · have := fld g u _ wu c i hi hb n
        simp only [List.tail_cons, List.length_nil] at this
        omega
      · have e := e12 g u wu c
        have := cho_min9 _ _ _ _ _ (wu.2.2.2.1 (Or.inr c)).1 (nu.2.1 (Or.inr c)).1 n
        simp only [List.length_cons, List.length_nil] at this
        omega
      · have e := e12 g u wu c
        have := cho_min9 _ _ _ _ _ (wu.2.2.2.1 (Or.inr c)).2 (nu.2.1 (Or.inr c)).2 n
        simp only [List.length_cons, List.length_nil] at this
        omega
  cases f with
  | zero => exact w.elim
  | succ f =>
    refine nc ⟨fun c => Classical.byContradiction (fun n => ?_), fun c => Classical.byContradiction (fun n => ?_), fun c => Classical.byContradiction (fun n => ?_), fun c i hi hb => Classical.byContradiction (fun n => ?_), fun c => ⟨rfl, Classical.byContradiction (fun n => ?_), Classical.byContradiction (fun n => ?_)⟩⟩
    · have := bnd6 f t _ w c n
      simp only [List.tail_nil, List.length_nil] at this
      omega
    · rcases c with c | c
      · have e := e7 f t w c
        obtain ⟨R1, h1⟩ := sub7 f t S c hS
        exact lev1 f _ R1 false (w.2.2.2.1 (Or.inl c)).1 (tn.2.1 (Or.inl c)).1 n (by omega) h1
      · have e := e11 f t w c
        obtain ⟨R1, h1⟩ := sub11 f t S c hS
        exact lev1 f _ R1 false (w.2.2.2.2.2.2.2.1 c).2 (tn.2.2.1 (Or.inr c)) n (by omega) h1
    · have e := e9 f t w c
      obtain ⟨R1, h1⟩ := sub9 f t S w c hS
      exact lev1 f _ R1 true (w.2.2.2.2.2.1 c).1 (tn.2.2.1 (Or.inl c)) n (by omega) h1
    · have := fld f t _ w c i hi hb n
      simp only [List.tail_nil, List.length_nil] at this
      omega
    · have e := e12 f t w c
      have := cho_min9 _ _ _ _ _ (w.2.2.2.1 (Or.inr c)).1 (tn.2.1 (Or.inr c)).1 n
      simp only [List.length_nil] at this
      omega
    · have e := e12 f t w c
      have := cho_min9 _ _ _ _ _ (w.2.2.2.1 (Or.inr c)).2 (tn.2.1 (Or.inr c)).2 n
      simp only [List.length_nil] at this
      omega
end PmZt1
section PmZt2
variable {b : Ty}
/-- one binder, the bound has four characters and more: what is below it has four too -/
theorem arg_four (hc : okc [b]) (hv : noac [b]) (hB : ∀ B C, b = tAll B C → 4 ≤ tch B) {T : Ty} (oT : ok 1 T = true) (t5 : tch T ≤ 5) (p q Q : Ty) (e : expo [b] [b].length T = tAll p q) (oQ : ok [b].length Q = true) (hb : bel [b] Q p = true) : 4 ≤ tch Q := by
  have ob : ok 0 b = true := hc.1
  have l1 : 0 < [b].length := Nat.zero_lt_one
  have low : ∀ F, ¬ 16 ≤ hd F → expo [b] [b].length F = F := fun F h => ex_n h
  have eT : T = tVar 0 := by
    rcases ok_cases oT with rfl | ⟨j, hj, rfl⟩ | ⟨x, y, rfl, -, -⟩ | ⟨x, y, rfl, ox, oy⟩ | ⟨m, x, y, z, hm, rfl, -⟩
    · rw [low _ (by decide)] at e
      have := congrArg hd e
      rw [hd_all] at this
      exact absurd this (by decide)
    · rw [show j = 0 by omega]
    · rw [low _ (by rw [hd_fun]; omega)] at e
      have := congrArg hd e
      rw [hd_all, hd_fun] at this
      omega
    · exfalso
      rw [tch_all] at t5
      have := tch_pos ox
      have := tch_pos oy
      omega
    · rw [low _ (by rw [hd_rec]; omega)] at e
      have := congrArg hd e
      rw [hd_all, hd_rec] at this
      omega
  rw [eT, (ex_v hc hv l1).1] at e
  have e : lft 0 1 b = tAll p q := e
  have h2 : hd b = 2 := by
    have q1 := congrArg hd e
    rw [hd_all] at q1
    have := hd_lf (k := 0) (n := 1) ob (hv 0 l1).2
    omega
  obtain ⟨B, C, eb, oB, oC⟩ := hd_is_all ob h2
  subst eb
  have b4 := hB B C rfl
  rw [lft_all] at e
  obtain ⟨ep, -⟩ := all_inj e
  rw [← ep] at hb
  refine Classical.byContradiction (fun n4 => ?_)
  have h16 : hd B < 16 := by
    rcases ok_cases oB with rfl | ⟨j, hj, rfl⟩ | ⟨x, y, rfl, -, -⟩ | ⟨x, y, rfl, ox, oy⟩ | ⟨m, x, y, z, hm, rfl, -⟩
    · decide
    · omega
    · rw [hd_fun]; omega
    · rw [hd_all]; omega
    · rw [hd_rec]; omega
  have h0 : hd B ≠ 0 := fun h => by
    rcases ok_cases oB with rfl | ⟨j, hj, rfl⟩ | ⟨x, y, rfl, -, -⟩ | ⟨x, y, rfl, ox, oy⟩ | ⟨m, x, y, z, hm, rfl, -⟩
    · exact absurd b4 (by decide)
    · omega
    · rw [hd_fun] at h; omega
    · rw [hd_all] at h; omega
    · rw [hd_rec] at h; omega
  have oB' : ok 1 (lft 0 1 B) = true := by
    have q := ok_lft 0 1 B 0 (by rw [Nat.add_zero]; exact oB)
    rw [Nat.add_zero] at q
    exact q
  have eh := hd_lf (k := 0) (n := 1) oB h16
  rcases arg_b (Γ0 := []) hc oQ h0 h16 (by omega) hb with ⟨j, hj, -⟩ | eq
  · exact absurd hj (Nat.not_lt_zero _)
  · rw [eq] at hb
    have tk : tok ([tAll B C], tR0, lft 0 1 B) := ⟨hc, rfl, oB'⟩
    by_cases h8 : 8 ≤ hd B
    · have up := bel_upx hv tk hb
      obtain ⟨m, x, y, z, hm, er⟩ := hd_is_rec oB' (by rw [eh]; exact h8) (by rw [eh]; exact h16)
      rw [ex_r0, low _ (by rw [eh]; omega)] at up
      have m0 : m = 0 := Classical.byContradiction (fun m0 => up.2 m x y z hm er m0 (by decide))
      have hb8 : hd B = 8 := by
        have q1 := congrArg hd er
        rw [hd_rec, m0, eh] at q1
        exact q1
      have e0 := hd8_r0 oB hb8
      rw [e0] at b4
      exact absurd b4 (by decide)
    · rw [bel_no tk (by rw [eh]; exact h0) (by decide) (fun q => by rw [eh] at q; omega) (by rw [eh]; have : hd tR0 = 8 := rfl; omega)] at hb
      cases hb
end PmZt2
theorem getD_mem9 {α : Type} {L : List (List α)} {i : Nat} {e : α} (h : e ∈ L.getD i []) : ∃ l ∈ L, e ∈ l := by
  by_cases c : i < L.length
  · refine ⟨L[i], List.getElem_mem c, ?_⟩
    rw [List.getD_eq_getElem?_getD, List.getElem?_eq_getElem c] at h
    exact h
  · rw [List.getD_eq_getElem?_getD, List.getElem?_eq_none (by omega)] at h
    cases h
def RESTAJ9 : Prop := ∀ (f : Nat) (x y : Ty) (Γ : List Ty) (Δ : List (Nat × Ty × Nat)) (t : Ty), H9 f x y Γ Δ → Sh9 x y t → ¬ CHo f t [] → (Δ = [] ∨ ∃ (b b' B C : Ty), Γ = [b] ∧ LBd [] [] b b' B C ∧ ¬ IS2 (fun _ => False) b ∧ sN B 0 1 C = true ∧ ((Δ.length = 1 ∧ (tch B ≤ 2 ∨ 12 ≤ mch t) ∧ inB (gB bQo (cch Γ) (mch t)) (tch B) (tch C) (tch b - tch (tAll B C)) 0 0 = true) ∨ (2 ≤ Δ.length ∧ inB (gB bQm (cch Γ) (mch t)) (tch B) (tch C) (tch b - tch (tAll B C)) 0 0 = true))) → PRn f x y Γ Δ
theorem restAI9_of (R : RESTAJ9) : RESTAI9 := by
  intro f x y Γ Δ t H sh nc q
  have H' := H
  obtain ⟨hx9, hy9, ⟨he, hv, hd', h20, h47, nOne⟩, hb, nO, nPS, nPG, -⟩ := H'
  obtain ⟨⟨wt, nt, tt, m3', m3, n9⟩, pm, hbt⟩ := h9_t H sh
  rcases q with q | ⟨b, b', B, C, eΓ, lb, nf, q⟩
  · exact R f x y Γ Δ t H sh nc (Or.inl q)
  have hc := he.1
  rw [eΓ] at hc
  have ob : ok 0 b = true := hc.1
  by_cases fl : sN B 0 1 C = true
  rotate_left
  · exfalso
    refine nOne ?_
    rw [eΓ]
    refine one_of ob lb nf ?_ (by rw [Bool.not_eq_true] at fl; exact fl)
    have ov : ∀ (L : List (List (List (Nat × Nat × Nat)))), (∀ l ∈ L, ∀ l' ∈ l, ∀ e ∈ l', e.2.2 ≤ 7) → inB (gB L (cch Γ) (mch t)) (tch B) (tch C) (tch b - tch (tAll B C)) 0 0 = true → tch b ≤ tch (tAll B C) + 7 := by
      intro L hL hi
      unfold inB at hi
      rw [Bool.and_eq_true, Bool.and_eq_true] at hi
      obtain ⟨e, he9, z⟩ := List.any_eq_true.mp hi.2.2
      have e7 : e.2.2 ≤ 7 := by
        obtain ⟨l', hl', hel⟩ := getD_mem9 he9
        obtain ⟨l, hl, hl2⟩ := getD_mem9 hl'
        exact hL l hl l' hl2 e hel
      simp only [Bool.and_eq_true] at z
      have z3 := Nat.eq_of_beq_eq_true z.2.2
      omega
    rcases q with ⟨-, q⟩ | ⟨-, q⟩
    · exact ov bQo (by decide +kernel) q
    · exact ov bQm (by decide +kernel) q
  rcases q with ⟨l1, q⟩ | ⟨l2, q⟩
  rotate_left
  · exact R f x y Γ Δ t H sh nc (Or.inr ⟨b, b', B, C, eΓ, lb, nf, fl, Or.inr ⟨l2, q⟩⟩)
  by_cases m12 : tch B ≤ 2 ∨ 12 ≤ mch t
  · exact R f x y Γ Δ t H sh nc (Or.inr ⟨b, b', B, C, eΓ, lb, nf, fl, Or.inl ⟨l1, m12, q⟩⟩)
  obtain ⟨a0, ea⟩ : ∃ a0, Δ = [a0] := by
    match Δ, l1 with
    | [a], _ => exact ⟨a, rfl⟩
  refine h9_ntv H sh (fun S hS => ?_)
  exfalso
  by_cases m9 : mch t ≤ 9
  · rw [ea] at wt he hS
    exact vac_nine he hv wt tt nc m9 hS
  have c28 : 30 ≤ cch Γ := by
    refine Classical.byContradiction (fun c => ?_)
    unfold inB at q
    rw [Bool.and_eq_true, Bool.and_eq_true] at q
    have q := q.2.2
    have hm : mch t = 10 ∨ mch t = 11 := by omega
    have hc : cch Γ = 20 ∨ cch Γ = 21 ∨ cch Γ = 22 ∨ cch Γ = 23 ∨ cch Γ = 24 ∨ cch Γ = 25 ∨ cch Γ = 26 ∨ cch Γ = 27 ∨ cch Γ = 28 ∨ cch Γ = 29 := by omega
    have em : gB bQo (cch Γ) (mch t) = [] := by
      rcases hm with e | e <;> rw [e] <;> rcases hc with e | e | e | e | e | e | e | e | e | e <;> rw [e] <;> rfl
    rw [em] at q
    cases q
  have d9 : dch Δ ≤ 8 := by omega
  rw [ea] at d9
  have d9 : tch a0.2.1 + 4 + 0 ≤ 8 := d9
  have b4 : 4 ≤ tch B := by
    have := tch_three (ok_all.mp lb.1.2.1).1
    omega
  rw [ea] at wt he hS
  have a9 := he.2.2 a0 (List.mem_singleton.mpr rfl)
  have tl := tch_lft a0.2.2 (Γ.length - a0.2.2) a0.2.1 a0.2.2 a9.2.1
  refine vac_eleven he hv (fun p q9 Q e oQ hbl => ?_) wt tt nc (by omega) hS
  have oT : ok 1 (lft a0.2.2 (Γ.length - a0.2.2) a0.2.1) = true := by
    have q := ok_lft a0.2.2 (Γ.length - a0.2.2) a0.2.1 0 (by rw [Nat.add_zero]; exact a9.2.1)
    rw [eΓ] at q ⊢
    have l0 : a0.2.2 ≤ [b].length := by rw [eΓ] at a9; exact a9.1
    rw [show a0.2.2 + ([b].length - a0.2.2) + 0 = 1 by have : [b].length = 1 := rfl; omega] at q
    exact q
  rw [eΓ] at hv
  subst eΓ
  exact arg_four hc hv (fun B1 C1 e1 => by
    have h2 : hd b = 2 := by rw [e1, hd_all]
    have q1 := (lb_root lb ob h2).1
    rw [e1] at q1
    obtain ⟨q2, -⟩ := all_inj q1
    rw [q2]
    exact b4) oT (by omega) p q9 Q e oQ hbl
theorem pairn_qj (R : RESTAJ9) : PAIRn := pairn_qi (restAI9_of R)
