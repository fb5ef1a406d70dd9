/-! WHAT SHORT TERMS ARE WORTH, the argument being below the bound. -/
section PmTb
variable {t0 fn s2 hv r0 r1 r2 r3 x0 : Nat} {n1 h : Nat → Nat} {P Q : List (List Nat)} {F G : FrT} {X : List Nat} {B C : Ty} {Γ0 : List Ty} {Δ : List (Nat × Ty × Nat)} {f : Nat}
theorem arg_z {A : Ty} {ω : List Nat} {d x : Nat} (o : ok d A = true) (hl : ω.length = d) (hq : tch A ≤ 3) (tx : t0 ≤ x) (h8 : nz t0 n1 s2 h ω tR0 ≤ x) (hw : ∀ j, j < ω.length → vw ω j ≤ x) : nz t0 n1 s2 h ω A ≤ x := by
  rcases two_txt o hq with rfl | ⟨j, hj, rfl⟩ | rfl
  · rw [nz_top]; exact tx
  · rw [nz_var]; exact hw j (by omega)
  · exact h8
theorem expo_new (B C : Ty) (Γ0 : List Ty) : expo (tAll B C :: Γ0) (tAll B C :: Γ0).length (tVar Γ0.length) = tAll (lft Γ0.length 1 B) (lft Γ0.length 1 C) := by
  have el : (tAll B C :: Γ0).length = Γ0.length + 1 := rfl
  rw [el]
  show (if 16 ≤ hd (tVar Γ0.length) then expo _ Γ0.length (exps _ (tVar Γ0.length)) else _) = _
  rw [if_pos (by rw [hd_var]; omega), exps_var, el, show Γ0.length + 1 - Γ0.length = 1 by omega]
  have eb : bnd (tAll B C :: Γ0) Γ0.length = tAll B C := by
    show (if Γ0.length = Γ0.length then tAll B C else _) = _
    rw [if_pos rfl]
  rw [eb, ← lft_all]
  exact expo_id (by rw [lft_all, hd_all]; omega) _
theorem val_9 (T : TBs 58 t0 fn s2 hv r0 r1 r2 r3 x0 n1 h P Q F G X) (hFm : frm F = true) (he : TE (tAll B C :: Γ0) Δ) (hv' : noac (tAll B C :: Γ0)) (h0 : hd B ≠ 0) (h16 : hd B < 16) {t S : Ty} (w : TWf (f + 4) (Γ0.length + 1) (Δ.map (fun a => a.1)) t) (c9 : nKd t = 9) (m5 : mch t ≤ 5) {n x zs Bd : Nat} (hn : ∀ j, j < Γ0.length → tch (bnd Γ0 j) ≤ n) (hd' : dch Δ ≤ n + 4) (n1' : 1 ≤ n) (n54 : n ≤ 54) (hx : x0 ≤ x) (tx : t0 ≤ x) (hw : ∀ j, j < Γ0.length + 1 → vw (onz t0 n1 s2 h (tAll B C :: Γ0)) j ≤ x) (hw0 : ∀ j, j < Γ0.length → vw (onz t0 n1 s2 h Γ0) j ≤ zs) (h8 : nz t0 n1 s2 h (onz t0 n1 s2 h (tAll B C :: Γ0)) tR0 ≤ zs) (zx : zs ≤ x) (hA : ∀ z, z ≤ zs → nz t0 n1 s2 h (z :: onz t0 n1 s2 h Γ0) C ≤ Bd) (h2 : ∀ a2 b2, C = tAll a2 b2 → 5 ≤ mch t → 0 < Γ0.length → ∀ z' z, z' ≤ zs → z ≤ x → nz t0 n1 s2 h (z :: z' :: onz t0 n1 s2 h Γ0) b2 ≤ Bd) (hO : Zx F x (n + 2) ≤ Bd) (hS : tyF (f + 4) t (tAll B C :: Γ0) Δ = .inr S) : nz t0 n1 s2 h (onz t0 n1 s2 h (tAll B C :: Γ0)) S ≤ Bd := by
  have el : (tAll B C :: Γ0).length = Γ0.length + 1 := rfl
  have lo := onz_len t0 n1 s2 h (tAll B C :: Γ0)
  have lo0 := onz_len t0 n1 s2 h Γ0
  obtain ⟨v, ev⟩ : ∃ v, onz t0 n1 s2 h (tAll B C :: Γ0) = v :: onz t0 n1 s2 h Γ0 := ⟨_, rfl⟩
  rw [el] at lo
  have w0' := w
  obtain ⟨w0, w5, w6, w7, w8, w9, w10, w11, w12⟩ := w0'
  have em := mch_is w0.2.1
  rw [if_neg (by omega), if_neg (by omega), if_pos c9] at em
  obtain ⟨x1, x2, x3⟩ := w9 c9
  have p1 := mch_pos x1
  have p2 := tch_pos x2
  unfold tyF at hS
  rw [if_neg (by omega), if_neg (by omega), if_neg (by omega), if_neg (by omega), if_pos c9] at hS
  obtain ⟨Te, hTe, q1⟩ := tbd_in hS
  obtain ⟨e, -⟩ := tyO_in q1
  have oTe := (tyF_ok _ _ _ _ _ x1 he hTe).1
  have oTe : ok (Γ0.length + 1) Te = true := oTe
  unfold tyI at e
  by_cases c : hd (expo (tAll B C :: Γ0) (tAll B C :: Γ0).length Te) = 2 ∧ bel (tAll B C :: Γ0) (nY t) (k1 (expo (tAll B C :: Γ0) (tAll B C :: Γ0).length Te)) = true
  rotate_left
  · rw [if_neg c] at e; cases e
  rw [if_pos c] at e
  injection e with e
  subst e
  have oQ : ok (Γ0.length + 1) (nY t) = true := x2
  have zQ := arg_z (t0 := t0) (n1 := n1) (s2 := s2) (h := h) (x := x) oQ lo (by omega) tx (Nat.le_trans h8 zx) (fun j hj => hw j (by rw [lo] at hj; exact hj))
  -- a type of n characters at a place with values of at most x
  have small : ∀ (b : Ty) (ν : List Nat), ok (ν ++ onz t0 n1 s2 h (tAll B C :: Γ0)).length b = true → tch b ≤ n → (∀ z ∈ ν, z ≤ x) → nz t0 n1 s2 h (ν ++ onz t0 n1 s2 h (tAll B C :: Γ0)) b ≤ Bd := by
    intro b ν ob hb hν
    have q := Zx_le T (x := x) (A := b) ob (by omega) hx (fun j hj => by
      by_cases g : j < (onz t0 n1 s2 h (tAll B C :: Γ0)).length
      · rw [vw_app_lo ν _ j g]
        exact hw j (by rw [lo] at g; exact g)
      · have : ∀ (ν : List Nat), (∀ z ∈ ν, z ≤ x) → (∀ j, j < (onz t0 n1 s2 h (tAll B C :: Γ0)).length → vw (onz t0 n1 s2 h (tAll B C :: Γ0)) j ≤ x) → ∀ j, j < (ν ++ onz t0 n1 s2 h (tAll B C :: Γ0)).length → vw (ν ++ onz t0 n1 s2 h (tAll B C :: Γ0)) j ≤ x := by
          intro ν
          induction ν with
          | nil => intro _ k j hj; exact k j hj
          | cons a ν ih =>
            intro k1' k2' j hj
            show vw (a :: (ν ++ onz t0 n1 s2 h (tAll B C :: Γ0))) j ≤ x
            rw [vw_cons]
            by_cases e : j = (ν ++ onz t0 n1 s2 h (tAll B C :: Γ0)).length
            · rw [if_pos e]; exact k1' a List.mem_cons_self
            · rw [if_neg e]
              refine ih (fun z hz => k1' z (List.mem_cons_of_mem _ hz)) k2' j ?_
              have hj : j < (ν ++ onz t0 n1 s2 h (tAll B C :: Γ0)).length + 1 := hj
              omega
        exact this ν hν (fun j hj => hw j (by rw [lo] at hj; exact hj)) j hj)
    have q2 := Zx_ms hFm (x := x) (s := tch b + 2) (s' := n + 2) (by omega) (by omega)
    omega
  have val : ∀ b : Ty, ok (Γ0.length + 2) b = true → nz t0 n1 s2 h (onz t0 n1 s2 h (tAll B C :: Γ0)) (sbt (tAll B C :: Γ0).length (nY t) 0 b) = nz t0 n1 s2 h (nz t0 n1 s2 h (onz t0 n1 s2 h (tAll B C :: Γ0)) (nY t) :: onz t0 n1 s2 h (tAll B C :: Γ0)) b := by
    intro b ob
    have q := nz_sbt (t0 := t0) (n1 := n1) (s2 := s2) (h := h) (nY t) (onz t0 n1 s2 h (tAll B C :: Γ0)) (by rw [lo]; exact oQ) _ b [] (Nat.le_refl _) (by rw [lo]; exact ob)
    rw [lo] at q
    exact q
  have low : ∀ (μ : List Nat) (b : Ty), ok (Γ0.length + μ.length) b = true → nz t0 n1 s2 h (μ ++ onz t0 n1 s2 h (tAll B C :: Γ0)) (lft Γ0.length 1 b) = nz t0 n1 s2 h (μ ++ onz t0 n1 s2 h Γ0) b := by
    intro μ b ob
    have q := nz_lft (t0 := t0) (n1 := n1) (s2 := s2) (h := h) [v] (onz t0 n1 s2 h Γ0) _ b μ (Nat.le_refl _) (by rw [lo0]; exact ob)
    rw [lo0] at q
    rw [ev]
    exact q
  have oA : ok Γ0.length (tAll B C) = true := he.1.1
  have oC := (ok_all.mp oA).2
  have typed : ∀ A, ok (Γ0.length + 1) A = true → tch A ≤ 3 → bel (tAll B C :: Γ0) A (lft Γ0.length 1 B) = true → nz t0 n1 s2 h (onz t0 n1 s2 h (tAll B C :: Γ0)) A ≤ zs := by
    intro A oA' hA' hb
    rcases arg_b he.1 oA' h0 h16 hA' hb with ⟨j, hj, rfl⟩ | rfl
    · rw [nz_var, ev, vw_cons, if_neg (by omega)]
      exact hw0 j hj
    · exact h8
  have K1 : SHd Γ0 B C n Te → nz t0 n1 s2 h (onz t0 n1 s2 h (tAll B C :: Γ0)) (sbt (tAll B C :: Γ0).length (nY t) 0 (k2 (expo (tAll B C :: Γ0) (tAll B C :: Γ0).length Te))) ≤ Bd := by
    intro sh
    rcases sh with rfl | ⟨F', eF, oF, hF, hF16⟩
    · rw [expo_new] at c ⊢
      have c2 := typed _ oQ (by omega) c.2
      show nz t0 n1 s2 h _ (sbt _ (nY t) 0 (lft Γ0.length 1 C)) ≤ Bd
      have oC' : ok (Γ0.length + 2) (lft Γ0.length 1 C) = true := ok_lft Γ0.length 1 C 1 oC
      rw [val _ oC']
      have q := low [nz t0 n1 s2 h (onz t0 n1 s2 h (tAll B C :: Γ0)) (nY t)] C oC
      have q : nz t0 n1 s2 h (nz t0 n1 s2 h (onz t0 n1 s2 h (tAll B C :: Γ0)) (nY t) :: onz t0 n1 s2 h (tAll B C :: Γ0)) (lft Γ0.length 1 C) = nz t0 n1 s2 h (nz t0 n1 s2 h (onz t0 n1 s2 h (tAll B C :: Γ0)) (nY t) :: onz t0 n1 s2 h Γ0) C := q
      rw [q]
      exact hA _ c2
    · rw [eF] at c ⊢
      obtain ⟨a, b, e2, ha, hb⟩ := hd_is_all oF c.1
      rw [e2] at hF ⊢
      rw [tch_all] at hF
      show nz t0 n1 s2 h _ (sbt _ (nY t) 0 b) ≤ Bd
      rw [val b hb]
      exact small b [_] (by rw [List.length_append, lo]; show ok (1 + (Γ0.length + 1)) b = true; rw [Nat.add_comm]; exact hb) (by omega) (fun z hz => by rw [List.mem_singleton] at hz; rw [hz]; exact zQ)
  rcases sh_kinds x1 (by omega) with k | k | k | k
  · exact K1 (sh_five (f := f + 2) he hv' x1 k hn hd' hTe).2
  · exact K1 (sh_elev (f := f + 1) he hv' x1 k.1 k.2 hn hd' hTe).2
  · -- two arguments
    obtain ⟨k9, kX, kY⟩ := k
    have u0 := x1
    obtain ⟨v0, v5, v6, v7, v8, v9, v10, v11, v12⟩ := u0
    obtain ⟨y1, y2, y3⟩ := v9 k9
    have em2 := mch_is v0.2.1
    rw [if_neg (by omega), if_neg (by omega), if_pos k9] at em2
    have p3 := mch_pos y1
    have m5' : 5 ≤ mch t := by omega
    have hTe' := hTe
    unfold tyF at hTe'
    rw [if_neg (by omega), if_neg (by omega), if_neg (by omega), if_neg (by omega), if_pos k9] at hTe'
    obtain ⟨S1, hS1, q2⟩ := tbd_in hTe'
    obtain ⟨e, -⟩ := tyO_in q2
    obtain ⟨oS1, sh1⟩ := sh_five (f := f + 1) he hv' y1 kX hn hd' hS1
    unfold tyI at e
    by_cases c1 : hd (expo (tAll B C :: Γ0) (tAll B C :: Γ0).length S1) = 2 ∧ bel (tAll B C :: Γ0) (nY (nX t)) (k1 (expo (tAll B C :: Γ0) (tAll B C :: Γ0).length S1)) = true
    rotate_left
    · rw [if_neg c1] at e; cases e
    rw [if_pos c1] at e
    injection e with e
    have oQ' : ok (Γ0.length + 1) (nY (nX t)) = true := y2
    have zQ' := arg_z (t0 := t0) (n1 := n1) (s2 := s2) (h := h) (x := x) oQ' lo (by omega) tx (Nat.le_trans h8 zx) (fun j hj => hw j (by rw [lo] at hj; exact hj))
    -- the body that is left
    have go : ∀ b1 : Ty, ok (Γ0.length + 2) b1 = true → sbt (tAll B C :: Γ0).length (nY (nX t)) 0 b1 = Te → (∀ a2 b2, b1 = tAll a2 b2 → nz t0 n1 s2 h ([nz t0 n1 s2 h (onz t0 n1 s2 h (tAll B C :: Γ0)) (nY t), nz t0 n1 s2 h (onz t0 n1 s2 h (tAll B C :: Γ0)) (nY (nX t))] ++ onz t0 n1 s2 h (tAll B C :: Γ0)) b2 ≤ Bd) → nz t0 n1 s2 h (onz t0 n1 s2 h (tAll B C :: Γ0)) (sbt (tAll B C :: Γ0).length (nY t) 0 (k2 (expo (tAll B C :: Γ0) (tAll B C :: Γ0).length Te))) ≤ Bd := by
      intro b1 ob1 eb hb2
      rcases ok_cases ob1 with rfl | ⟨j, hj, rfl⟩ | ⟨a2, b2, rfl, ha, hb⟩ | ⟨a2, b2, rfl, ha, hb⟩ | ⟨m, p, q, r, hm', rfl, -, -, -⟩
      · exfalso
        rw [sbt_top] at eb
        rw [← eb, expo_id (by decide)] at c
        exact absurd c.1 (by decide)
      · refine K1 (sh_of he.1 hv' oTe ?_ hn)
        rw [← eb, sbt_var]
        split
        · rw [tch_lft _ _ _ _ oQ', kY]; exact n1'
        · split
          · exact n1'
          · exact n1'
      · exfalso
        rw [sbt_fun] at eb
        rw [← eb, expo_id (by rw [hd_fun]; omega), hd_fun] at c
        exact absurd c.1 (by decide)
      · rw [sbt_all] at eb
        rw [← eb, expo_id (by rw [hd_all]; omega)]
        show nz t0 n1 s2 h _ (sbt _ (nY t) 0 (sbt (tAll B C :: Γ0).length (nY (nX t)) (0 + 1) b2)) ≤ Bd
        have oTe2 := oTe
        rw [← eb] at oTe2
        rw [val _ (ok_all.mp oTe2).2]
        have r := nz_sbt (t0 := t0) (n1 := n1) (s2 := s2) (h := h) (nY (nX t)) (onz t0 n1 s2 h (tAll B C :: Γ0)) (by rw [lo]; exact oQ') _ b2 [nz t0 n1 s2 h (onz t0 n1 s2 h (tAll B C :: Γ0)) (nY t)] (Nat.le_refl _) (by rw [lo]; exact hb)
        rw [lo] at r
        have r : nz t0 n1 s2 h (nz t0 n1 s2 h (onz t0 n1 s2 h (tAll B C :: Γ0)) (nY t) :: onz t0 n1 s2 h (tAll B C :: Γ0)) (sbt (tAll B C :: Γ0).length (nY (nX t)) (0 + 1) b2) = nz t0 n1 s2 h ([nz t0 n1 s2 h (onz t0 n1 s2 h (tAll B C :: Γ0)) (nY t), nz t0 n1 s2 h (onz t0 n1 s2 h (tAll B C :: Γ0)) (nY (nX t))] ++ onz t0 n1 s2 h (tAll B C :: Γ0)) b2 := r
        rw [r]
        exact hb2 a2 b2 rfl
      · exfalso
        rw [sbt_rec] at eb
        rw [← eb, expo_id (by rw [hd_rec]; omega), hd_rec] at c
        omega
    rcases sh1 with rfl | ⟨F', eF, oF, hF, hF16⟩
    · rw [expo_new] at c1 e
      have c2 := typed _ oQ' (by omega) c1.2
      refine go (lft Γ0.length 1 C) (ok_lft Γ0.length 1 C 1 oC) e (fun a2 b2 eb => ?_)
      rcases ok_cases oC with rfl | ⟨j, hj, rfl⟩ | ⟨a3, b3, rfl, ha, hb⟩ | ⟨a3, b3, rfl, ha, hb⟩ | ⟨m, p, q, r, hm', rfl, -, -, -⟩
      · rw [lft_top] at eb; cases eb
      · rw [lft_var] at eb
        split at eb
        · have := congrArg hd eb
          rw [hd_var, hd_all] at this
          omega
        · have := congrArg hd eb
          rw [hd_var, hd_all] at this
          omega
      · rw [lft_fun] at eb
        have := congrArg hd eb
        rw [hd_fun, hd_all] at this
        cases this
      · rw [lft_all] at eb
        have e2 : lft Γ0.length 1 b3 = b2 := congrArg k2 eb
        rw [← e2, low [_, _] b3 hb]
        have l0 : 0 < Γ0.length := by
          rcases arg_b he.1 oQ' h0 h16 (by omega) c1.2 with ⟨j, hj, -⟩ | ej
          · omega
          · rw [ej] at kY
            exact absurd kY (by decide)
        exact h2 a3 b3 rfl m5' l0 _ _ c2 zQ
      · rw [lft_rec hm'] at eb
        have := congrArg hd eb
        rw [hd_rec, hd_all] at this
        omega
    · rw [eF] at c1 e
      obtain ⟨a1, b1, e2, ha, hb⟩ := hd_is_all oF c1.1
      rw [e2] at hF e
      rw [tch_all] at hF
      refine go b1 hb e (fun a2 b2 eb => ?_)
      subst eb
      rw [tch_all] at hF
      exact small b2 [_, _] (by rw [List.length_append, lo]; show ok (2 + (Γ0.length + 1)) b2 = true; rw [Nat.add_comm]; exact (ok_all.mp hb).2) (by omega) (fun z hz => by
        rcases List.mem_cons.mp hz with rfl | hz
        · exact zQ
        · rw [List.mem_singleton] at hz
          rw [hz]; exact zQ')
  · exfalso
    have hTe' := hTe
    unfold tyF at hTe'
    rw [if_neg (by omega), if_neg (by omega), if_neg (by omega), if_neg (by omega), if_neg (by omega), if_pos k] at hTe'
    obtain ⟨A1, hA1, q2⟩ := tbd_in hTe'
    obtain ⟨A2, hA2, q2⟩ := tbd_in q2
    obtain ⟨A3, hA3, q2⟩ := tbd_in q2
    obtain ⟨e, -⟩ := szt_in q2
    rw [← e, expo_id (by rw [hd_rec]; have := (x1.2.2.2.2.2.2.1 k).1; omega), hd_rec] at c
    omega
end PmTb
