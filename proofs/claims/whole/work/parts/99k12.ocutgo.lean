/-! THE CUT WALK GOES LIKE THE WALK: rows and goals are the same. -/
section PmKf
variable {κ : Ty → Bool} {hb : Nat} {B C : Ty} {Γ0 : List Ty}
theorem LSr.heads {Γ Γ' : List Ty} {S S' T T' : Ty} (h : LSr κ hb B C Γ0 (Γ, S, T) (Γ', S', T')) : tok (Γ, S, T) ∧ tok (Γ', S', T') ∧ hd S = 2 ∧ hd S' = 2 ∧ hd T = hd T' ∧ k1 S' = k1 S := by
  obtain ⟨Δ, e1, e2, cg, eS, eS', ⟨o3, o4⟩, ky, sy⟩ := h
  simp only at e1 e2 eS eS' o3 o4 ky sy
  subst e1 e2 eS eS'
  have hb := cg.okb'
  rw [← cAB_len] at hb
  obtain ⟨t1, t2⟩ := cg.tok cg.okb hb o3 o4
  refine ⟨t1, t2, ?_, ?_, sy.hd, ?_⟩
  · rw [upb_top]; rfl
  · rw [upb_top]; rfl
  · rw [upb_top, upb_top]; rfl
theorem LSr.pass (h0 : CH0 κ hb B C Γ0) {Γ Γ' : List Ty} {S S' T T' : Ty} (h : LSr κ hb B C Γ0 (Γ, S, T) (Γ', S', T')) (t2 : hd T = 2) (e : flat (k1 S) = flat (k1 T)) : flat (k1 S') = flat (k1 T') ∧ GSr κ hb B C Γ0 (k1 S :: Γ, k2 S, k2 T) (k1 S' :: Γ', k2 S', k2 T') ∧ GSr κ hb B C Γ0 (k1 T :: Γ, k2 T, k2 S) (k1 T' :: Γ', k2 T', k2 S') := by
  obtain ⟨Δ, e1, e2, cg, eS, eS', ⟨o3, o4⟩, ky, sy⟩ := h
  simp only at e1 e2 eS eS' o3 o4 ky sy
  subst e1 e2 eS eS'
  obtain ⟨cg', eT, gt⟩ := LS_pass h0 cg o3 o4 ky sy t2 e
  have eT' : k1 T' = upb Γ0 Δ B := by
    obtain ⟨A, D, rfl, -, -⟩ := hd_is_all o3 t2
    obtain ⟨D', rfl⟩ := sy.shape.2.2 _ _ rfl
    exact eT
  have s1 : k1 (upb Γ0 Δ (tAll B C)) = upb Γ0 Δ B := by rw [upb_top]; rfl
  have s2 : k1 (upb Γ0 Δ (tAll B (ct κ Γ0.length C))) = upb Γ0 Δ B := by rw [upb_top]; rfl
  rw [s1, s2, eT, eT']
  exact ⟨rfl, ⟨upb Γ0 Δ B :: Δ, rfl, rfl, cg', gt⟩, ⟨upb Γ0 Δ B :: Δ, rfl, rfl, cg', gt.swap⟩⟩
/-- comparisons -/
theorem cut_bisT (h0 : CH0 κ hb B C Γ0) : BisT (RTr κ hb B C Γ0) := by
  intro Γ Γ' S S' T T' h
  rcases h with h | h | ⟨h, hl⟩
  · obtain ⟨Δ, e1, e2, cg, gt⟩ := h
    simp only at e1 e2 gt
    subst e1 e2
    obtain ⟨⟨o1, o2, o3, o4⟩, kx, ky, sx, sy⟩ := gt
    have gt : GT κ hb Γ0.length (cA B C Γ0 Δ) S S' T T' := ⟨⟨o1, o2, o3, o4⟩, kx, ky, sx, sy⟩
    obtain ⟨t1, t2⟩ := cg.tok o1 o2 o3 o4
    refine ⟨t1, t2, sx.se.hd, sy.se.hd, ?_, ?_, ?_, ?_⟩
    · intro v n0 ne
      obtain ⟨j, hj, rfl⟩ := hd_is_var o1 v
      have e' := sx.se.var rfl
      subst e'
      by_cases ek : j = Γ0.length
      · subst ek
        refine Or.inr (Or.inl ⟨Δ, rfl, rfl, cg, exps_k _, exps_k _, ⟨o3, o4⟩, ky, sy.se⟩)
      · exact Or.inl ⟨Δ, rfl, rfl, cg, GT.exp cg hj ek o3 o4 ky sy.se⟩
    · intro x1 x2 y1 y2 i hi b1 b2
      exact Or.inl ⟨Δ, rfl, rfl, cg, gt.rec1 x1 x2 y1 y2 hi b1 b2⟩
    · intro x1 y1
      obtain ⟨q1, q2⟩ := gt.fun1 x1 y1
      exact ⟨Or.inl ⟨Δ, rfl, rfl, cg, q2⟩, Or.inl ⟨Δ, rfl, rfl, cg, q1.swap⟩⟩
    · intro x1 y1
      obtain ⟨A, D, rfl, oA, -⟩ := hd_is_all o1 x1
      obtain ⟨A1, D1, rfl, -, -⟩ := hd_is_all o3 y1
      obtain ⟨D', rfl⟩ := sx.se.shape.2.2 _ _ rfl
      obtain ⟨D1', rfl⟩ := sy.se.shape.2.2 _ _ rfl
      refine ⟨Iff.rfl, fun e => Or.inl ⟨A :: Δ, rfl, rfl, cg.ext h0 oA kx.all1.1, gt.all1 h0.1 rfl rfl e⟩⟩
  · obtain ⟨t1, t2, s2, s2', hT, q⟩ := h.heads
    refine ⟨t1, t2, by omega, hT, fun v => by omega, fun x1 => by omega, fun x1 => by omega, fun _ y2 => ?_⟩
    refine ⟨⟨fun e => (h.pass h0 y2 e).1, fun e => ?_⟩, fun e => Or.inl (h.pass h0 y2 e).2.1⟩
    rw [q] at e
    have y2' : hd T' = 2 := by omega
    obtain ⟨A, D, rfl, oA, -⟩ := hd_is_all t1.2.2 y2
    obtain ⟨Δ, -, -, -, -, -, -, -, sy⟩ := h
    obtain ⟨D', e'⟩ := sy.shape.2.2 _ _ rfl
    have e' : T' = tAll A D' := e'
    subst e'
    exact e
  · have h : LSr κ hb B C Γ0 (Γ, T, S) (Γ', T', S') := h
    obtain ⟨t1, t2, s2, s2', hS, q⟩ := h.heads
    have hb : bel Γ S (tVar Γ0.length) = false := hl
    clear hl
    refine ⟨⟨t1.1, t1.2.2, t1.2.1⟩, ⟨t2.1, t2.2.2, t2.2.1⟩, hS, by omega, ?_, fun _ _ x1 => by omega, fun _ y1 => by omega, fun x2 _ => ?_⟩
    · intro v n0 ne
      obtain ⟨Δ, e1, e2, cg, eT, eT', ⟨o3, o4⟩, ky, sy⟩ := h
      simp only at e1 e2 eT eT' o3 o4 ky sy
      subst e1 e2 eT eT'
      obtain ⟨j, hj, rfl⟩ := hd_is_var o3 v
      have e' := sy.var rfl
      subst e'
      have tA : tok (cA B C Γ0 Δ, tVar j, tVar Γ0.length) := ⟨cg.1, o3, ok_var (SGc.k_lt _)⟩
      have ek : j ≠ Γ0.length := by
        intro ek
        subst ek
        rw [bel_veq tA v rfl] at hb
        exact absurd hb (by decide)
      obtain ⟨x1, x2, x3⟩ := cg.ex hj ek
      refine Or.inr (Or.inr ⟨⟨Δ, rfl, rfl, cg, rfl, rfl, ⟨x2, ?_⟩, x3, Or.inl x1.symm⟩, ?_⟩)
      · show ok (cA B C Γ0 Δ).length (exps (cB κ B C Γ0 Δ) (tVar j)) = true
        rw [← x1]; exact x2
      · show bel (cA B C Γ0 Δ) (exps (cA B C Γ0 Δ) (tVar j)) (tVar Γ0.length) = false
        rw [bel_var tA (by rw [hd_var]; omega) (by rw [hd_var]; omega)] at hb
        rw [exps_var]
        exact hb
    · refine ⟨⟨fun e => (h.pass h0 x2 e.symm).1.symm, fun e => ?_⟩, fun e => ?_⟩
      · rw [q] at e
        obtain ⟨A, D, rfl, oA, -⟩ := hd_is_all t1.2.2 x2
        obtain ⟨Δ, -, -, -, -, -, -, -, sy⟩ := h
        obtain ⟨D', e'⟩ := sy.shape.2.2 _ _ rfl
        have e' : S' = tAll A D' := e'
        subst e'
        exact e
      · exact Or.inl (h.pass h0 x2 e.symm).2.2
/-- joins -/
theorem cut_bisG (h0 : CH0 κ hb B C Γ0) : BisG (RTr κ hb B C Γ0) (GTr κ hb B C Γ0) := by
  intro Γ Γ' S S' T T' h
  rcases h with h | ⟨h, hl⟩ | ⟨h, hv⟩
  · obtain ⟨Δ, e1, e2, cg, gt⟩ := h
    simp only at e1 e2 gt
    subst e1 e2
    refine ⟨Or.inl ⟨Δ, rfl, rfl, cg, gt⟩, Or.inl ⟨Δ, rfl, rfl, cg, gt.swap⟩, fun c1 c2 => ?_⟩
    have gt0 := gt
    obtain ⟨⟨o1, o2, o3, o4⟩, kx, ky, sx, sy⟩ := gt
    refine ⟨fun v => ?_, fun v1 v => ?_, ?_, ?_, ?_⟩
    · obtain ⟨j, hj, rfl⟩ := hd_is_var o1 v
      have e' := sx.se.var rfl
      subst e'
      by_cases ek : j = Γ0.length
      · subst ek
        refine Or.inr (Or.inl ⟨⟨Δ, rfl, rfl, cg, exps_k _, exps_k _, ⟨o3, o4⟩, ky, sy.se⟩, ?_⟩)
        show bel (cA B C Γ0 Δ) T (tVar Γ0.length) = false
        simpa using c2
      · exact Or.inl ⟨Δ, rfl, rfl, cg, GT.exp cg hj ek o3 o4 ky sy.se⟩
    · obtain ⟨j, hj, rfl⟩ := hd_is_var o3 v
      have e' := sy.se.var rfl
      subst e'
      by_cases ek : j = Γ0.length
      · subst ek
        exact Or.inr (Or.inr ⟨⟨Δ, rfl, rfl, cg, exps_k _, exps_k _, ⟨o1, o2⟩, kx, sx.se⟩, v1⟩)
      · exact Or.inl ⟨Δ, rfl, rfl, cg, (GT.exp cg hj ek o1 o2 kx sx.se).swap⟩
    · intro x1 x2 y1 y2 i hi b1 b2
      exact Or.inl ⟨Δ, rfl, rfl, cg, gt0.rec1 x1 x2 y1 y2 hi b1 b2⟩
    · intro x1 y1
      obtain ⟨q1, q2⟩ := gt0.fun1 x1 y1
      exact ⟨Or.inl ⟨Δ, rfl, rfl, cg, q1⟩, Or.inl ⟨Δ, rfl, rfl, cg, q2⟩⟩
    · intro x1 y1 e
      have g := gt0.all1 h0.1 x1 y1 e
      obtain ⟨A, D, rfl, oA, -⟩ := hd_is_all o1 x1
      obtain ⟨D', rfl⟩ := sx.se.shape.2.2 _ _ rfl
      exact Or.inl ⟨A :: Δ, rfl, rfl, cg.ext h0 oA kx.all1.1, g⟩
  · have hb : bel Γ T (tVar Γ0.length) = false := hl
    refine ⟨Or.inr (Or.inl h), Or.inr (Or.inr ⟨h, hl⟩), fun c1 c2 => ?_⟩
    clear hl
    obtain ⟨t1, t2, s2, s2', hT, q⟩ := h.heads
    refine ⟨fun v => by omega, fun _ v => ?_, fun x1 => by omega, fun x1 => by omega, fun _ y2 e => Or.inl (h.pass h0 y2 e).2.1⟩
    obtain ⟨Δ, e1, e2, cg, eS, eS', ⟨o3, o4⟩, ky, sy⟩ := h
    simp only at e1 e2 eS eS' o3 o4 ky sy
    subst e1 e2 eS eS'
    obtain ⟨j, hj, rfl⟩ := hd_is_var o3 v
    have e' := sy.var rfl
    subst e'
    have tA : tok (cA B C Γ0 Δ, tVar j, tVar Γ0.length) := ⟨cg.1, o3, ok_var (SGc.k_lt _)⟩
    have ek : j ≠ Γ0.length := by
      intro ek
      subst ek
      rw [bel_veq tA v rfl] at hb
      exact absurd hb (by decide)
    obtain ⟨x1, x2, x3⟩ := cg.ex hj ek
    refine Or.inr (Or.inl ⟨⟨Δ, rfl, rfl, cg, rfl, rfl, ⟨x2, ?_⟩, x3, Or.inl x1.symm⟩, ?_⟩)
    · show ok (cA B C Γ0 Δ).length (exps (cB κ B C Γ0 Δ) (tVar j)) = true
      rw [← x1]; exact x2
    · show bel (cA B C Γ0 Δ) (exps (cA B C Γ0 Δ) (tVar j)) (tVar Γ0.length) = false
      rw [bel_var tA (by rw [hd_var]; omega) (by rw [hd_var]; omega)] at hb
      rw [exps_var]
      exact hb
  · have h : LSr κ hb B C Γ0 (Γ, T, S) (Γ', T', S') := h
    have hv : ¬ 16 ≤ hd S := hv
    obtain ⟨t1, t2, s2, s2', hS, q⟩ := h.heads
    have hl : bel Γ S (tVar Γ0.length) = false := by
      obtain ⟨Δ, e1, -⟩ := h
      have e1 : Γ = cA B C Γ0 Δ := e1
      subst e1
      have oS := t1.2.2
      simp only at oS
      exact bel_no ⟨t1.1, oS, ok_var (SGc.k_lt _)⟩ (by rw [hd_var]; omega) hv (by rw [hd_var]; omega) (by rw [hd_var]; omega)
    refine ⟨Or.inr (Or.inr ⟨h, hl⟩), Or.inr (Or.inl h), fun c1 c2 => ?_⟩
    exact ⟨fun v => absurd v hv, fun _ v => by omega, fun _ _ x1 => by omega, fun _ y1 => by omega, fun x2 _ e => Or.inl (h.pass h0 x2 e.symm).2.2⟩
/-- rows and goals of a join in the cut context are the same -/
theorem gm_cut (h0 : CH0 κ hb B C Γ0) {Δ : List Ty} (cg : CG κ hb B C Γ0 Δ) {w : Nat} {S T : Ty} (oS : ok (cA B C Γ0 Δ).length S = true) (oT : ok (cA B C Γ0 Δ).length T = true) (kS : KK κ hb Γ0.length (cA B C Γ0 Δ).length S) (kT : KK κ hb Γ0.length (cA B C Γ0 Δ).length T) : gm (w, cA B C Γ0 Δ, S, T) = gm (w, cB κ B C Γ0 Δ, S, T) ∧ gn (w, cA B C Γ0 Δ, S, T) = gn (w, cB κ B C Γ0 Δ, S, T) :=
  gm_bis (cut_bisT h0) (cut_bisG h0) (Or.inl ⟨Δ, rfl, rfl, cg, ⟨oS, oS, oT, oT⟩, kS, kT, Or.inl rfl, Or.inl rfl⟩)
/-- rows of a comparison -/
theorem trx_cut (h0 : CH0 κ hb B C Γ0) {Δ : List Ty} (cg : CG κ hb B C Γ0 Δ) {S T : Ty} (oS : ok (cA B C Γ0 Δ).length S = true) (oT : ok (cA B C Γ0 Δ).length T = true) (kS : KK κ hb Γ0.length (cA B C Γ0 Δ).length S) (kT : KK κ hb Γ0.length (cA B C Γ0 Δ).length T) : trx (cA B C Γ0 Δ, S, T) = trx (cB κ B C Γ0 Δ, S, T) :=
  trx_bis (cut_bisT h0) (Or.inl ⟨Δ, rfl, rfl, cg, ⟨oS, oS, oT, oT⟩, kS, kT, Or.inl rfl, Or.inl rfl⟩)
end PmKf
