/-! NO NAMES AROUND, eight characters: nothing is left but terms without operations (RESTX9). -/
theorem cl_op : ∀ (f : Nat) (t : Ty) (Γ : List Ty) (S : Ty), TWf f Γ.length [] t → okc Γ → TNo f t → tyF f t Γ [] = .inr S → mch t ≤ 7 → NOp f t
  | 0, _, _, _, h, _, _, _, _ => h.elim
  | f + 1, t, Γ, S, h, hc, tn, hS, m7 => by
    obtain ⟨⟨kk, e, nl, -⟩, w5, w6, w7, w8, w9, w10, w11, -⟩ := h
    obtain ⟨n6, n7, n9, n10, n12⟩ := tn
    have em := mch_is e
    have k5 : nKd t ≠ 5 := fun k => by cases w5 k
    rw [if_neg k5] at em
    rw [tyF, if_neg k5] at hS
    by_cases k6 : nKd t = 6
    · rw [if_pos (Or.inl k6)] at em
      obtain ⟨-, o, -, wy⟩ := w6 k6
      have p := tch_pos o
      obtain ⟨a, b, c, l, h1, h2, h3⟩ := chr_min f _ _ _ wy
      exact ⟨fun _ => h3.resolve_right (by omega), by omega, fun c => by omega, fun c => by omega⟩
    by_cases k8 : nKd t = 8
    · rw [if_pos (Or.inr k8)] at em
      obtain ⟨o, -, wy⟩ := w8 k8
      have p := tch_pos o
      obtain ⟨a, b, c, l, h1, h2, h3⟩ := chr_cl f _ _ wy
      exact ⟨fun _ => h3.resolve_right (by omega), by omega, fun c => by omega, fun c => by omega⟩
    rw [if_neg (by omega)] at em
    rw [if_neg k6] at hS
    by_cases k9 : nKd t = 9
    · exfalso
      rw [if_pos k9] at em
      rw [if_neg (by omega), if_neg k8, if_pos k9] at hS
      obtain ⟨wx, o, -⟩ := w9 k9
      have p := tch_pos o
      obtain ⟨A, hA, h2⟩ := tbd_in hS
      have q := (cl_ty f (nX t) Γ A wx hc (n9 (Or.inl k9)) hA).1 (by omega)
      rw [q, no_I] at h2
      cases h2
    rw [if_neg k9] at em
    by_cases k10 : nKd t = 10
    · rw [if_pos k10] at em
      have big : ∀ g, g < 3 → mch (nP t g) ≤ mch (nX t) + (mch (nY t) + mch (nZ t)) := by
        intro g hg
        match g, hg with
        | 0, _ => show mch (nX t) ≤ _; omega
        | 1, _ => show mch (nY t) ≤ _; omega
        | 2, _ => show mch (nZ t) ≤ _; omega
      have four : ∀ g, g < 3 → bit (nMk t) g = true → 4 ≤ (if nMk t = 0 then 2 else 1 + 3 * nlb (nMk t)) := by
        have key : ∀ m, m < 8 → ∀ g, g < 3 → bit m g = true → 4 ≤ (if m = 0 then 2 else 1 + 3 * nlb m) := by decide
        exact key _ (w10 k10).1
      refine ⟨fun c => by omega, by omega, fun _ g hg hb => ?_, fun c => by omega⟩
      have q1 := four g hg hb
      have q3 := big g hg
      obtain ⟨a, b, c, l, h1, h2, h3⟩ := chr_cl f _ _ ((w10 k10).2 g hg hb)
      exact h3.resolve_right (by omega)
    rw [if_neg k10] at em
    by_cases k11 : nKd t = 11
    · exfalso
      rw [if_neg (by omega), if_neg k8, if_neg k9, if_neg k10, if_pos k11] at hS
      obtain ⟨m3, wx⟩ := w11 k11
      obtain ⟨A, hA, h2⟩ := tbd_in hS
      have q := (cl_ty f (nX t) Γ A wx hc (n9 (Or.inr k11)) hA).1 (by omega)
      rw [q, no_D _ _ _ m3] at h2
      cases h2
    have k : nKd t = 7 ∨ nKd t = 12 := by omega
    obtain ⟨wx, wy⟩ := w7 k
    have px := (cl_min wx).1
    have py := (cl_min wy).1
    rcases k with k | k
    · exfalso
      rw [if_pos k] at hS
      obtain ⟨A, hA, h2⟩ := tbd_in hS
      obtain ⟨A2, hA2, h2⟩ := tbd_in h2
      have q := (cl_ty f (nX t) Γ A wx hc (n7 (Or.inl k)).1 hA).1 (by omega)
      rw [q, no_A] at h2
      cases h2
    · obtain ⟨a, b, c, l, h1, h2, h3⟩ := chr_cl f _ _ wx
      obtain ⟨a', b', c', l', h1', h2', h3'⟩ := chr_cl f _ _ wy
      exact ⟨fun c => by omega, by omega, fun c => by omega, fun _ => ⟨h3.resolve_right (by omega), h3'.resolve_right (by omega)⟩⟩
theorem cl_eight {f : Nat} {t C S : Ty} (h : TWf f 1 [] t) (hc : okc [tAll tR0 C]) (hv : noac [tAll tR0 C]) (tn : TNo f t) (hS : tyF f t [tAll tR0 C] [] = .inr S) (m8 : mch t = 8) (n11 : nKd t ≠ 11) : NOp f t := by
  cases f with
  | zero => exact h.elim
  | succ f =>
    obtain ⟨⟨kk, e, nl, -⟩, w5, w6, w7, w8, w9, w10, w11, -⟩ := h
    obtain ⟨n6, n7, n9, n10, n12⟩ := tn
    have em := mch_is e
    have k5 : nKd t ≠ 5 := fun k => by cases w5 k
    rw [if_neg k5] at em
    rw [tyF, if_neg k5] at hS
    by_cases k6 : nKd t = 6
    · rw [if_pos (Or.inl k6)] at em
      rw [if_pos k6] at hS
      obtain ⟨-, o, -, wy⟩ := w6 k6
      have p := tch_pos o
      have n3 := tch_three o
      obtain ⟨a, b, c, l, h1, h2, h3⟩ := chr_min f _ _ _ wy
      by_cases ny : NOp f (nY t)
      · exact ⟨fun _ => ny, by omega, fun c => by omega, fun c => by omega⟩
      exfalso
      have c2 := h3.resolve_left ny
      have x1 : tch (nX t) = 1 := by omega
      have y3 : mch (nY t) = 3 := by omega
      obtain ⟨T, hT, -⟩ := tbd_in hS
      have hT : tyF f (nY t) [tAll tR0 C] [(nPl t, nX t, 1)] = .inr T := hT
      generalize nY t = u at *
      generalize nX t = X at *
      generalize nPl t = pl at *
      cases f with
      | zero => exact wy.elim
      | succ f =>
        obtain ⟨v0, v5, v6, v7, v8, v9, v10, v11, -⟩ := wy
        have eu := mch_is v0.2.1
        have kd := v0.1
        have mpos : ∀ D sc u, TWf f D sc u → 1 ≤ mch u := by
          intro D sc u wu
          cases f with
          | zero => exact wu.elim
          | succ f => exact mch_pos wu
        have hX : X = tTop ∨ X = tVar 0 := by
          rcases two_txt o (by omega) with q | ⟨j, hj, q⟩ | q
          · exact Or.inl q
          · have : j = 0 := by omega
            rw [this] at q
            exact Or.inr q
          · rw [q] at x1
            exact absurd x1 (by decide)
        have lX : lft 1 0 X = X := by
          rcases hX with q | q
          · rw [q]; rfl
          · rw [q]; rfl
        -- the name's type
        have name : ∀ u', TWf f 1 [pl] u' → mch u' = 1 → ∀ A, tyF f u' [tAll tR0 C] [(pl, X, 1)] = .inr A → A = X := by
          intro u' wu mu A hA
          cases f with
          | zero => exact wu.elim
          | succ f =>
            have k5' : nKd u' = 5 := Classical.byContradiction (fun c => by have := mch_two wu c; omega)
            have mk := wu.2.1 k5'
            rw [List.mem_singleton] at mk
            rw [tyF, if_pos k5', mk] at hA
            obtain ⟨eA, -⟩ := tyO_in hA
            have ed : dlk [(pl, X, 1)] pl = some (X, 1) := by
              show (if pl = pl then some (X, 1) else _) = _
              rw [if_pos rfl]
            rw [ed] at eA
            injection eA with eA
            have eA : lft 1 0 X = A := eA
            rw [← eA]
            exact lX
        have nw : expo [tAll tR0 C] 1 (tVar 0) = tAll (lft 0 1 tR0) (lft 0 1 C) := expo_new tR0 C []
        have et : expo [tAll tR0 C] 1 tTop = tTop := expo_id (by decide) _
        rcases (show nKd u = 5 ∨ nKd u = 6 ∨ nKd u = 7 ∨ nKd u = 8 ∨ nKd u = 9 ∨ nKd u = 10 ∨ nKd u = 11 ∨ nKd u = 12 by omega) with k | k | k | k | k | k | k | k
        · rw [if_pos k] at eu; omega
        · rw [if_neg (by omega), if_pos (Or.inl k)] at eu
          have := tch_pos (v6 k).2.1
          omega
        · rw [if_neg (by omega), if_neg (by omega), if_neg (by omega), if_neg (by omega)] at eu
          have := mpos _ _ _ (v7 (Or.inl k)).1
          have := mpos _ _ _ (v7 (Or.inl k)).2
          omega
        · rw [if_neg (by omega), if_pos (Or.inr k)] at eu
          have := tch_pos (v8 k).1
          omega
        · rw [if_neg (by omega), if_neg (by omega), if_pos k] at eu
          obtain ⟨wx, oq, -⟩ := v9 k
          have q1 := mpos _ _ _ wx
          have q2 := tch_pos oq
          rw [tyF, if_neg (by omega), if_neg (by omega), if_neg (by omega), if_neg (by omega), if_pos k] at hT
          obtain ⟨A, hA, h4⟩ := tbd_in hT
          have eA := name _ wx (by omega) A hA
          obtain ⟨h4, -⟩ := tyO_in h4
          rw [eA] at h4
          unfold tyI at h4
          by_cases cc : hd (expo [tAll tR0 C] [tAll tR0 C].length X) = 2 ∧ bel [tAll tR0 C] (nY u) (k1 (expo [tAll tR0 C] [tAll tR0 C].length X)) = true
          rotate_left
          · rw [if_neg cc] at h4; cases h4
          have cc : hd (expo [tAll tR0 C] 1 X) = 2 ∧ bel [tAll tR0 C] (nY u) (k1 (expo [tAll tR0 C] 1 X)) = true := cc
          rcases hX with q | q
          · rw [q, et] at cc
            exact absurd cc.1 (by decide)
          · rw [q, nw] at cc
            have cb : bel [tAll tR0 C] (nY u) (lft 0 1 tR0) = true := cc.2
            rcases arg_b (Γ0 := []) hc oq (by decide) (by decide) (by omega) cb with ⟨j, hj, -⟩ | eQ
            · exact absurd hj (Nat.not_lt_zero j)
            · have : tch (nY u) = 2 := by rw [eQ]; rfl
              omega
        · rw [if_neg (by omega), if_neg (by omega), if_neg (by omega), if_pos k] at eu
          have key : ∀ m, m < 8 → m = 0 ∨ 4 ≤ 1 + 3 * nlb m := by decide
          rcases key _ (v10 k).1 with q | q
          · rw [if_pos q] at eu
            have z0 : ∀ g, g < 3 → mch (nP u g) = 0 := by
              intro g hg
              rw [v0.2.2.1 g hg (by
                rw [k, q]
                rcases (show g = 0 ∨ g = 1 ∨ g = 2 by omega) with rfl | rfl | rfl <;> decide)]
              rfl
            have z1 : mch (nX u) = 0 := z0 0 (by decide)
            have z2 : mch (nY u) = 0 := z0 1 (by decide)
            have z3 : mch (nZ u) = 0 := z0 2 (by decide)
            omega
          · rw [if_neg (by intro q'; rw [q'] at q; exact absurd q (by decide))] at eu
            omega
        · rw [if_neg (by omega), if_neg (by omega), if_neg (by omega), if_neg (by omega)] at eu
          obtain ⟨m3, wx⟩ := v11 k
          have q1 := mpos _ _ _ wx
          rw [tyF, if_neg (by omega), if_neg (by omega), if_neg (by omega), if_neg (by omega), if_neg (by omega), if_neg (by omega), if_pos k] at hT
          obtain ⟨A, hA, h4⟩ := tbd_in hT
          have eA := name _ wx (by omega) A hA
          obtain ⟨h4, -⟩ := tyO_in h4
          rw [eA] at h4
          unfold tyD at h4
          by_cases cc : (8 ≤ hd (expo [tAll tR0 C] [tAll tR0 C].length X) ∧ hd (expo [tAll tR0 C] [tAll tR0 C].length X) < 16) ∧ bit (hd (expo [tAll tR0 C] [tAll tR0 C].length X) - 8) (nMk u) = true
          rotate_left
          · rw [if_neg cc] at h4; cases h4
          have cc : 8 ≤ hd (expo [tAll tR0 C] 1 X) := cc.1.1
          rcases hX with q | q
          · rw [q, et] at cc
            exact absurd cc (by decide)
          · rw [q, nw, hd_all] at cc
            omega
        · rw [if_neg (by omega), if_neg (by omega), if_neg (by omega), if_neg (by omega)] at eu
          have := mpos _ _ _ (v7 (Or.inr k)).1
          have := mpos _ _ _ (v7 (Or.inr k)).2
          omega
    by_cases k8 : nKd t = 8
    · rw [if_pos (Or.inr k8)] at em
      obtain ⟨o, -, wy⟩ := w8 k8
      have p := tch_pos o
      obtain ⟨a, b, c, l, h1, h2, h3⟩ := chr_cl f _ _ wy
      exact ⟨fun _ => h3.resolve_right (by omega), by omega, fun c => by omega, fun c => by omega⟩
    rw [if_neg (by omega)] at em
    rw [if_neg k6] at hS
    by_cases k9 : nKd t = 9
    · exfalso
      rw [if_pos k9] at em
      rw [if_neg (by omega), if_neg k8, if_pos k9] at hS
      obtain ⟨wx, o, -⟩ := w9 k9
      have p := tch_pos o
      obtain ⟨A, hA, h2⟩ := tbd_in hS
      have cl := cl_ty f (nX t) [tAll tR0 C] A wx hc (n9 (Or.inl k9)) hA
      have notrz : A ≠ rz := fun q => by rw [q, no_I] at h2; cases h2
      have m6 : mch (nX t) = 6 := by
        refine Classical.byContradiction (fun c => notrz (cl.1 (by omega)))
      have cf : CFt f (nX t) := Classical.byContradiction (fun c => notrz (cl.2.1 (by omega) c))
      obtain ⟨h2, -⟩ := tyO_in h2
      unfold tyI at h2
      by_cases cc : hd (expo [tAll tR0 C] [tAll tR0 C].length A) = 2 ∧ bel [tAll tR0 C] (nY t) (k1 (expo [tAll tR0 C] [tAll tR0 C].length A)) = true
      rotate_left
      · rw [if_neg cc] at h2; cases h2
      have cc := cc.1
      have nop := cl_op f (nX t) [tAll tR0 C] A wx hc (n9 (Or.inl k9)) hA (by omega)
      generalize nX t = u at *
      cases f with
      | zero => exact wx.elim
      | succ f =>
        obtain ⟨v0, v5, v6, v7, v8, v9, v10, v11, -⟩ := wx
        have eu := mch_is v0.2.1
        have kd := v0.1
        have k5' : nKd u ≠ 5 := fun k => by cases v5 k
        rw [tyF, if_neg k5'] at hA
        rcases (show nKd u = 6 ∨ nKd u = 7 ∨ nKd u = 8 ∨ nKd u = 9 ∨ nKd u = 10 ∨ nKd u = 11 ∨ nKd u = 12 by omega) with k | k | k | k | k | k | k
        · rw [if_pos k] at hA
          obtain ⟨B', -, h3⟩ := tbd_in hA
          obtain ⟨h3, -⟩ := szt_in h3
          rw [← h3, expo_id (by rw [hd_fun]; omega), hd_fun] at cc
          cases cc
        · exact nop.2.1.1 k
        · rw [if_neg k5', if_pos (Or.inr k)] at eu
          obtain ⟨o', -, wy⟩ := v8 k
          have := tch_pos o'
          have := (cl_min wy).1
          omega
        · exact nop.2.1.2.1 k
        · rw [if_neg (by omega), if_neg (by omega), if_neg (by omega), if_neg (by omega), if_pos k] at hA
          obtain ⟨A1, -, h3⟩ := tbd_in hA
          obtain ⟨A2, -, h3⟩ := tbd_in h3
          obtain ⟨A3, -, h3⟩ := tbd_in h3
          obtain ⟨h3, -⟩ := szt_in h3
          have m8' := (v10 k).1
          rw [← h3, expo_id (by rw [hd_rec]; omega), hd_rec] at cc
          omega
        · exact nop.2.1.2.2 k
        · exact cf.2.2.2 k
    rw [if_neg k9] at em
    by_cases k10 : nKd t = 10
    · rw [if_pos k10] at em
      rw [if_neg (by omega), if_neg k8, if_neg k9, if_pos k10] at hS
      have big : ∀ g, g < 3 → mch (nP t g) ≤ mch (nX t) + (mch (nY t) + mch (nZ t)) := by
        intro g hg
        match g, hg with
        | 0, _ => show mch (nX t) ≤ _; omega
        | 1, _ => show mch (nY t) ≤ _; omega
        | 2, _ => show mch (nZ t) ≤ _; omega
      have four : ∀ g, g < 3 → bit (nMk t) g = true → 4 ≤ (if nMk t = 0 then 2 else 1 + 3 * nlb (nMk t)) := by
        have key : ∀ m, m < 8 → ∀ g, g < 3 → bit m g = true → 4 ≤ (if m = 0 then 2 else 1 + 3 * nlb m) := by decide
        exact key _ (w10 k10).1
      obtain ⟨A1, hA1, h3⟩ := tbd_in hS
      obtain ⟨A2, hA2, h3⟩ := tbd_in h3
      obtain ⟨A3, hA3, h3⟩ := tbd_in h3
      refine ⟨fun c => by omega, by omega, fun _ g hg hb => ?_, fun c => by omega⟩
      have q1 := four g hg hb
      have q3 := big g hg
      have wg := (w10 k10).2 g hg hb
      have tg := n10 k10 g hg hb
      rcases (show g = 0 ∨ g = 1 ∨ g = 2 by omega) with rfl | rfl | rfl
      · rw [if_pos hb] at hA1
        exact cl_op f _ [tAll tR0 C] A1 wg hc tg hA1 (by omega)
      · rw [if_pos hb] at hA2
        exact cl_op f _ [tAll tR0 C] A2 wg hc tg hA2 (by omega)
      · rw [if_pos hb] at hA3
        exact cl_op f _ [tAll tR0 C] A3 wg hc tg hA3 (by omega)
    rw [if_neg k10] at em
    have k : nKd t = 7 ∨ nKd t = 12 := by omega
    obtain ⟨wx, wy⟩ := w7 k
    have px := (cl_min wx).1
    have py := (cl_min wy).1
    rcases k with k | k
    · exfalso
      rw [if_pos k] at hS
      obtain ⟨A, hA, h2⟩ := tbd_in hS
      obtain ⟨A2, hA2, h2⟩ := tbd_in h2
      have q := (cl_ty f (nX t) [tAll tR0 C] A wx hc (n7 (Or.inl k)).1 hA).1 (by omega)
      rw [q, no_A] at h2
      cases h2
    · rw [if_neg (by omega), if_neg (by omega), if_neg (by omega), if_neg (by omega), if_neg (by omega)] at hS
      obtain ⟨A, hA, h2⟩ := tbd_in hS
      obtain ⟨A2, hA2, h2⟩ := tbd_in h2
      exact ⟨fun c => by omega, by omega, fun c => by omega, fun _ => ⟨cl_op f _ [tAll tR0 C] A wx hc (n7 (Or.inr k)).1 hA (by omega), cl_op f _ [tAll tR0 C] A2 wy hc (n7 (Or.inr k)).2 hA2 (by omega)⟩⟩
