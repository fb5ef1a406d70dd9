/-! ExA: both terms are a part of the one name, applied to a type of one character: two instances of one scheme (RESTAD9). -/
def xv7 : FrT := [[], [(1, 0)], [(1, 0), (0, 1)], [(1, 0), (0, 1)], [(1, 1)], [(2, 1), (0, 2)], [(2, 1), (1, 4)], [(2, 1), (1, 4)], [(2, 2), (1, 4)], [(3, 2), (1, 5)], [(3, 2), (2, 7)], [(3, 2), (2, 7), (1, 8)], [(3, 3), (2, 7), (1, 8)], [(4, 3), (2, 8)], [(4, 7), (3, 10)], [(4, 7), (3, 10), (2, 13)], [(4, 7), (3, 10), (2, 13)], [(5, 4), (4, 9), (3, 11), (2, 13)], [(6, 10), (4, 13), (2, 15)], [(6, 10), (4, 19)], [(6, 10), (4, 19), (2, 21)], [(6, 13), (4, 19), (2, 21)], [(9, 13), (5, 16), (4, 21), (3, 22)], [(9, 13), (8, 19), (6, 28)], [(9, 13), (8, 19), (6, 28), (4, 31)], [(9, 16), (8, 19), (6, 28), (4, 31)], [(12, 17), (8, 23), (6, 31)], [(12, 28), (9, 37)], [(12, 28), (9, 37), (8, 43), (6, 46)], [(12, 28), (9, 37), (8, 43), (6, 46), (4, 47)], [(16, 21), (12, 34), (9, 40), (8, 43), (6, 46), (4, 47)], [(18, 37), (12, 49), (6, 52)], [(18, 37), (16, 43), (12, 64)], [(18, 37), (16, 43), (12, 64), (8, 67), (6, 70)], [(20, 26), (18, 46), (12, 64), (8, 67), (6, 70)], [(27, 46), (24, 49), (16, 61), (12, 70), (9, 73)], [(27, 46), (24, 64), (18, 91)], [(27, 46), (24, 64), (18, 91), (12, 100)], [(27, 55), (24, 64), (18, 91), (12, 100)], [(36, 61), (24, 76), (18, 100)], [(36, 91), (27, 118), (24, 121)]]
def xv8 : FrT := [[], [], [(2, 0)], [(2, 0), (1, 1)], [(2, 0), (1, 1), (0, 2)], [(2, 1), (0, 2)], [(3, 1), (1, 2)], [(3, 1), (2, 4)], [(3, 1), (2, 4), (1, 5)], [(3, 2), (2, 4), (1, 5)], [(4, 2), (2, 5)], [(4, 2), (3, 7)], [(4, 2), (3, 7), (2, 8)], [(4, 3), (3, 7), (2, 8), (1, 9)], [(5, 3), (3, 8), (1, 9)], [(5, 7), (4, 10)], [(5, 7), (4, 10), (3, 13)], [(5, 7), (4, 10), (3, 13), (2, 14)], [(6, 4), (5, 9), (4, 11), (3, 13), (2, 14)], [(7, 10), (5, 13), (3, 15)], [(7, 10), (6, 11), (5, 19)], [(7, 10), (6, 11), (5, 19), (4, 20), (3, 21)], [(7, 13), (5, 19), (4, 20), (3, 21), (2, 22)], [(10, 13), (6, 16), (5, 21), (4, 22)], [(10, 13), (9, 19), (7, 28)], [(10, 13), (9, 19), (8, 20), (7, 28), (6, 29), (5, 31)], [(10, 16), (9, 19), (8, 20), (7, 28), (6, 29), (5, 31), (4, 32)], [(13, 17), (9, 23), (7, 31), (4, 32)], [(13, 28), (10, 37)], [(13, 28), (12, 29), (10, 37), (9, 43), (7, 46)], [(13, 28), (12, 29), (10, 37), (9, 43), (8, 44), (7, 46), (6, 47)], [(17, 21), (13, 34), (10, 40), (9, 43), (8, 44), (7, 46), (6, 47), (4, 48)], [(19, 37), (13, 49), (7, 52)], [(19, 37), (18, 38), (17, 43), (13, 64)], [(19, 37), (18, 38), (17, 43), (16, 44), (13, 64), (12, 65), (9, 67), (7, 70)], [(21, 26), (19, 46), (13, 64), (12, 65), (9, 67), (8, 68), (7, 70), (6, 71)], [(28, 46), (25, 49), (17, 61), (13, 70), (10, 73)], [(28, 46), (27, 47), (25, 64), (19, 91)], [(28, 46), (27, 47), (25, 64), (24, 65), (19, 91), (18, 92), (13, 100)], [(28, 55), (25, 64), (24, 65), (19, 91), (18, 92), (13, 100), (12, 101)], [(37, 61), (25, 76), (19, 100), (12, 101)]]
theorem xv7_ok : xrc xv7 xv8 0 1 2 1 1 1 1 1 = true := by decide +kernel
theorem exa_num : (frg xv7 31).all (fun v => (List.range 28).all (fun k => (frg xv7 k).all (fun u => Nat.ble (u.2 + u.1 * (4 + (v.2 + v.1))) 887))) = true := by decide +kernel
section PmZa1
variable {f : Nat} {σ b B C s : Ty} {Δ : List (Nat × Ty × Nat)} {m : Nat}
/-- a record of one field -/
def Rc1 (b σ : Ty) : Prop := ∃ m, b = tRec m σ .nil .nil ∧ m = 1 ∨ b = tRec m .nil σ .nil ∧ m = 2 ∨ b = tRec m .nil .nil σ ∧ m = 4
theorem rc1_lft (h : Rc1 b σ) : hd (lft 0 1 b) < 16 ∧ 8 ≤ hd (lft 0 1 b) ∧ ∀ g, g < 3 → bit (hd (lft 0 1 b) - 8) g = true → pt (lft 0 1 b) g = lft 0 1 σ := by
  obtain ⟨m, h⟩ := h
  have m8 : m < 8 := by omega
  have key : ∀ x y z, b = tRec m x y z → hd (lft 0 1 b) = 8 + m ∧ pt (lft 0 1 b) 0 = lft 0 1 x ∧ pt (lft 0 1 b) 1 = lft 0 1 y ∧ pt (lft 0 1 b) 2 = lft 0 1 z := by
    intro x y z e
    rw [e, lft_rec m8, hd_rec]
    exact ⟨rfl, pt_rec m8 _ _ _⟩
  have g3 : ∀ g, g < 3 → g = 0 ∨ g = 1 ∨ g = 2 := fun g h => by omega
  rcases h with ⟨e, em⟩ | ⟨e, em⟩ | ⟨e, em⟩
  · obtain ⟨q, q0, q1, q2⟩ := key _ _ _ e
    refine ⟨by omega, by omega, fun g hg hb => ?_⟩
    rw [q, em] at hb
    rcases g3 g hg with rfl | rfl | rfl
    · exact q0
    · exact absurd hb (by decide)
    · exact absurd hb (by decide)
  · obtain ⟨q, q0, q1, q2⟩ := key _ _ _ e
    refine ⟨by omega, by omega, fun g hg hb => ?_⟩
    rw [q, em] at hb
    rcases g3 g hg with rfl | rfl | rfl
    · exact absurd hb (by decide)
    · exact q1
    · exact absurd hb (by decide)
  · obtain ⟨q, q0, q1, q2⟩ := key _ _ _ e
    refine ⟨by omega, by omega, fun g hg hb => ?_⟩
    rw [q, em] at hb
    rcases g3 g hg with rfl | rfl | rfl
    · exact absurd hb (by decide)
    · exact absurd hb (by decide)
    · exact q2
/-- the type of a name, exposed -/
theorem nm_exa (he : TE [b] Δ) (rc : Rc1 b σ) (d7 : dch Δ ≤ 7) {e T : Ty} (w : TWf (f + 1) 1 (Δ.map (fun a => a.1)) e) (c5 : nKd e = 5) (e0 : tyF (f + 1) e [b] Δ = .inr T) : expo [b] 1 T = tTop ∨ expo [b] 1 T = tR0 ∨ expo [b] 1 T = lft 0 1 b := by
  have o : ok 1 T = true := (tyF_ok _ _ _ _ _ w he e0).1
  have q3 : tch T ≤ 3 := by
    obtain ⟨w0, w5, w6, w7, w8, w9, w10, w11, w12⟩ := w
    unfold tyF at e0
    rw [if_pos c5] at e0
    obtain ⟨e, l⟩ := tyO_in e0
    obtain ⟨a, ha⟩ := dlk_some (w5 c5)
    rw [ha] at e
    injection e with e
    have hm := dlk_mem ha
    obtain ⟨a1, a2, a3⟩ := he.2.2 _ hm
    have ad : tch a.1 + 4 ≤ dch Δ := dch_mem hm
    rw [← e, tch_lft a.2 _ a.1 a.2 a2]
    omega
  rcases two_txt o q3 with rfl | ⟨j, hj, rfl⟩ | rfl
  · exact Or.inl (expo_id (by decide) _)
  · have ej : j = 0 := by omega
    subst ej
    right; right
    have eb : bnd [b] 0 = b := rfl
    show (if 16 ≤ hd (tVar 0) then expo [b] 0 (exps [b] (tVar 0)) else _) = _
    rw [if_pos (by rw [hd_var]; omega), exps_var, eb]
    rfl
  · exact Or.inr (Or.inl (expo_id (by decide) _))
/-- what is instanced in at most five characters -/
theorem sh_exa (he : TE [b] Δ) (rc : Rc1 b (tAll tTop C)) (d7 : dch Δ ≤ 7) {S : Ty} (w : TWf (f + 1) 1 (Δ.map (fun a => a.1)) s) (c9 : nKd s = 9) (m5 : mch s ≤ 5) (e0 : tyF (f + 1) s [b] Δ = .inr S) : mch s = 5 ∧ tch (nY s) = 1 ∧ tyF f (nX s) [b] Δ = .inr (tAll tTop (lft 0 1 C)) ∧ S = sbt 1 (nY s) 0 (lft 0 1 C) := by
  obtain ⟨r1, r2, r3⟩ := rc1_lft rc
  obtain ⟨S0, a, c, h1, h2, h3, -, -, -⟩ := tyF_is9 w he c9 e0
  have el : ([b] : List Ty).length = 1 := rfl
  rw [el] at h2 h3
  have nam : ∀ (e : Ty) (g : Nat) (T : Ty), TWf g 1 (Δ.map (fun a => a.1)) e → nKd e = 5 → tyF g e [b] Δ = .inr T → expo [b] 1 T = tTop ∨ expo [b] 1 T = tR0 ∨ expo [b] 1 T = lft 0 1 b := by
    intro e g T we ce te
    cases g with
    | zero => exact we.elim
    | succ g => exact nm_exa he rc d7 we ce te
  have no2 : ∀ T, expo [b] 1 T = tTop ∨ expo [b] 1 T = tR0 ∨ expo [b] 1 T = lft 0 1 b → hd (expo [b] 1 T) ≠ 2 := by
    intro T q
    rcases q with q | q | q <;> rw [q]
    · decide
    · decide
    · omega
  obtain ⟨w0, w5, w6, w7, w8, w9, w10, w11, w12⟩ := w
  have em := mch_is w0.2.1
  rw [if_neg (by omega), if_neg (by omega), if_pos c9] at em
  obtain ⟨x1, x2, x3⟩ := w9 c9
  have p2 := tch_pos x2
  have hS0 : hd (expo [b] 1 S0) = 2 := by rw [h2]; exact hd_all _ _
  rcases sh_kinds (f := f) (tw_up _ _ _ _ (tw_up _ _ _ _ (tw_up _ _ _ _ x1))) (by omega) with k | ⟨k, k5⟩ | ⟨k, k5, -⟩ | k
  · exact absurd hS0 (no2 _ (nam _ _ _ x1 k h1))
  · cases f with
    | zero => exact x1.elim
    | succ f =>
      have h1' := h1
      obtain ⟨v0, v5, v6, v7, v8, v9, v10, v11, v12⟩ := x1
      have em2 := mch_is v0.2.1
      rw [if_neg (by omega), if_neg (by omega), if_neg (by omega), if_neg (by omega)] at em2
      obtain ⟨m3, y1⟩ := v11 k
      have em3 := mch_is (show nX (nX s) = mN (nPl (nX (nX s))) (nKd (nX (nX s))) (nMk (nX (nX s))) (nX (nX (nX s))) (nY (nX (nX s))) (nZ (nX (nX s))) from by
        cases f with
        | zero => exact y1.elim
        | succ f => exact y1.1.2.1)
      rw [if_pos k5] at em3
      unfold tyF at h1
      rw [if_neg (by omega), if_neg (by omega), if_neg (by omega), if_neg (by omega), if_neg (by omega), if_neg (by omega), if_pos k] at h1
      obtain ⟨T, hT, q1⟩ := tbd_in h1
      obtain ⟨e, -⟩ := tyO_in q1
      have q := nam _ _ _ y1 k5 hT
      rw [el] at e
      unfold tyD at e
      by_cases cc : (8 ≤ hd (expo [b] 1 T) ∧ hd (expo [b] 1 T) < 16) ∧ bit (hd (expo [b] 1 T) - 8) (nMk (nX s)) = true
      rotate_left
      · rw [if_neg cc] at e; cases e
      rw [if_pos cc] at e
      injection e with e
      rcases q with q | q | q
      · rw [q] at cc
        exact absurd cc.1.1 (by decide)
      · rw [q] at cc
        have z : hd tR0 - 8 = 0 := by decide
        rw [z] at cc
        have c2 := cc.2
        rcases (show nMk (nX s) = 0 ∨ nMk (nX s) = 1 ∨ nMk (nX s) = 2 by omega) with g | g | g <;> rw [g] at c2 <;> exact absurd c2 (by decide)
      · rw [q] at cc e
        rw [r3 _ m3 cc.2, lft_all, lft_top] at e
        subst e
        rw [expo_id (by rw [hd_all]; omega)] at h2
        obtain ⟨-, e2⟩ := all_inj h2
        exact ⟨by omega, by omega, h1', by rw [h3, ← e2]⟩
  · cases f with
    | zero => exact x1.elim
    | succ f =>
      obtain ⟨S1, a1, c1, g1, g2, -⟩ := tyF_is9 x1 he k h1
      have w1 := (x1.2.2.2.2.2.1 k).1
      have q := no2 _ (nam _ _ _ w1 k5 g1)
      rw [el] at g2
      rw [g2, hd_all] at q
      exact absurd rfl q
  · cases f with
    | zero => exact x1.elim
    | succ f =>
      have m8 := (x1.2.2.2.2.2.2.1 k).1
      unfold tyF at h1
      rw [if_neg (by omega), if_neg (by omega), if_neg (by omega), if_neg (by omega), if_neg (by omega), if_pos k] at h1
      obtain ⟨A1, hA1, q1⟩ := tbd_in h1
      obtain ⟨A2, hA2, q1⟩ := tbd_in q1
      obtain ⟨A3, hA3, q1⟩ := tbd_in q1
      obtain ⟨e, -⟩ := szt_in q1
      subst e
      rw [expo_id (by rw [hd_rec]; omega), hd_rec] at hS0
      omega
/-- of the other terms of at most five characters the type is worth little -/
theorem ntv_exa (he : TE [b] Δ) (rc : Rc1 b (tAll tTop C)) (d7 : dch Δ ≤ 7) (w : TWf f 1 (Δ.map (fun a => a.1)) s) (m5 : mch s ≤ 5) (hb : cch [b] + dch Δ + 2 * mch s ≤ 58) : NtV [b] Δ f s 887 597 ∨ (nKd s = 9 ∧ mch s = 5) := by
  have w' : TWf f ([b] : List Ty).length (Δ.map (fun a => a.1)) s := w
  have vac : ∀ (g : Nat) (u : Ty), TWf g 1 (Δ.map (fun a => a.1)) u → nKd u = 9 → mch u ≤ 5 → mch u ≠ 5 → NtV [b] Δ g u 887 597 := by
    intro g u wu k mu ne S hS
    cases g with
    | zero => exact wu.elim
    | succ g => exact absurd (sh_exa he rc d7 wu k mu hS).1 ne
  by_cases k9 : nKd s = 9
  · by_cases e : mch s = 5
    · exact Or.inr ⟨k9, e⟩
    · exact Or.inl (vac f s w k9 m5 e)
  left
  obtain ⟨⟨wp, mp⟩, q2, -, n7, n11⟩ := pee_ok f _ _ s w'
  refine NtV_pee f s w' he ?_
  by_cases p9 : nKd (pee f s).2 = 9
  · refine vac _ _ wp p9 (by omega) (fun e => ?_)
    rcases q2 with q2 | q2
    · rw [q2] at p9; exact k9 p9
    · omega
  · have nop : NOp (pee f s).1 (pee f s).2 := by
      revert wp mp n7 n11 p9
      generalize (pee f s).1 = g
      generalize (pee f s).2 = u
      intro wp mp n7 n11 p9
      cases g with
      | zero => exact wp.elim
      | succ g => exact nop_of wp (by omega) n7 p9 n11
    exact ntv_nop wp he nop (by omega)
/-- three characters, annotations of at most five -/
theorem ntv_three (he : TE [b] Δ) (rc : Rc1 b σ) (d9 : dch Δ ≤ 9) (w : TWf f 1 (Δ.map (fun a => a.1)) s) (k7 : nKd s ≠ 7) (k11 : nKd s ≠ 11) (m3 : mch s = 3) (hb : cch [b] + dch Δ + 2 * mch s ≤ 58) : NtV [b] Δ f s 887 597 := by
  cases f with
  | zero => exact w.elim
  | succ f =>
    by_cases k9 : nKd s = 9
    rotate_left
    · exact ntv_nop w he (nop_of w (by omega) k7 k9 k11) hb
    intro S hS
    exfalso
    obtain ⟨r1, r2, r3⟩ := rc1_lft rc
    obtain ⟨S0, a, c, h1, h2, h3, -, -, -⟩ := tyF_is9 w he k9 hS
    have el : ([b] : List Ty).length = 1 := rfl
    rw [el] at h2
    obtain ⟨w0, w5, w6, w7, w8, w9, w10, w11, w12⟩ := w
    have em := mch_is w0.2.1
    rw [if_neg (by omega), if_neg (by omega), if_pos k9] at em
    obtain ⟨x1, x2, x3⟩ := w9 k9
    have p2 := tch_pos x2
    have q1 := mch_pos' x1
    have c5 : nKd (nX s) = 5 := Classical.byContradiction (fun n5 => by
      have := mch_two (tw_up _ _ _ _ x1) n5
      omega)
    cases f with
    | zero => exact x1.elim
    | succ f =>
      have o : ok 1 S0 = true := (tyF_ok _ _ _ _ _ x1 he h1).1
      have q5 : tch S0 ≤ 5 := by
        obtain ⟨w0, w5, w6, w7, w8, w9, w10, w11, w12⟩ := x1
        unfold tyF at h1
        rw [if_pos c5] at h1
        obtain ⟨e, l⟩ := tyO_in h1
        obtain ⟨a, ha⟩ := dlk_some (w5 c5)
        rw [ha] at e
        injection e with e
        have hm := dlk_mem ha
        obtain ⟨a1, a2, a3⟩ := he.2.2 _ hm
        have ad : tch a.1 + 4 ≤ dch Δ := dch_mem hm
        rw [← e, tch_lft a.2 _ a.1 a.2 a2]
        omega
      have hx : hd (expo [b] 1 S0) = 2 := by rw [h2]; exact hd_all _ _
      by_cases h16 : 16 ≤ hd S0
      · obtain ⟨j, hj, rfl⟩ := hd_is_var o h16
        have ej : j = 0 := by omega
        subst ej
        have eb : bnd [b] 0 = b := rfl
        have q : expo [b] 1 (tVar 0) = lft 0 1 b := by
          show (if 16 ≤ hd (tVar 0) then expo [b] 0 (exps [b] (tVar 0)) else _) = _
          rw [if_pos (by rw [hd_var]; omega), exps_var, eb]
          rfl
        rw [q] at hx
        omega
      · rw [expo_id (by omega)] at hx
        obtain ⟨p, r, rfl, op, oR⟩ := hd_is_all o hx
        have := tch_pos op
        have := tch_pos oR
        rw [tch_all] at q5
        omega
theorem one_txt {d : Nat} {Q : Ty} (o : ok d Q = true) (hq : tch Q = 1) : Q = tTop ∨ ∃ j, j < d ∧ Q = tVar j := by
  rcases two_txt o (by omega) with h | h | h
  · exact Or.inl h
  · exact Or.inr h
  · rw [h] at hq
    exact absurd hq (by decide)
/-- the pair -/
theorem pair_exa {x y : Ty} (he : TE [b] Δ) (hv : noac [b]) (hd' : ∀ a ∈ Δ, noal a.2.1 = true) (ob : ok 0 b = true) (oC : ok 1 C = true) (rc : Rc1 b (tAll tTop C)) (eC : tch C = 31) (h47 : cch [b] ≤ 47) (d7 : dch Δ ≤ 7) (w1 : TWf f 1 (Δ.map (fun a => a.1)) x) (w2 : TWf f 1 (Δ.map (fun a => a.1)) y) (n1 : NAt f x) (n2 : NAt f y) (k1' : nKd x = 9) (k2' : nKd y = 9) (m1 : mch x = 5) (m2 : mch y = 5) : PRn f x y [b] Δ := by
  intro S T hS hT
  have w1' : TWf f ([b] : List Ty).length (Δ.map (fun a => a.1)) x := w1
  have w2' : TWf f ([b] : List Ty).length (Δ.map (fun a => a.1)) y := w2
  cases f with
  | zero => exact w1.elim
  | succ f =>
    obtain ⟨-, a1, a2, a3⟩ := sh_exa he rc d7 w1 k1' (by omega) hS
    obtain ⟨-, b1, b2, b3⟩ := sh_exa he rc d7 w2 k2' (by omega) hT
    have oQ : ok 1 (nY x) = true := (w1.2.2.2.2.2.1 k1').2.1
    have oR : ok 1 (nY y) = true := (w2.2.2.2.2.2.1 k2').2.1
    have fl : ∀ Q, ok 1 Q = true → tch Q = 1 → (flat Q).length ≤ 16 ∧ (Sml 16 [b] Q ∨ Q = tVar 0) := by
      intro Q o q
      rcases one_txt o q with rfl | ⟨j, hj, rfl⟩
      · refine ⟨by rw [flat_top]; decide, Or.inl ⟨fun d => ?_, ?_⟩⟩
        · unfold mz
          rw [nz_top]
          exact Nat.zero_le _
        · unfold gz
          rw [nz_top]
          decide
      · have : j = 0 := by omega
        subst this
        exact ⟨by rw [flat_var]; decide, Or.inr rfl⟩
    obtain ⟨f1, g1⟩ := fl _ oQ a1
    obtain ⟨f2, g2⟩ := fl _ oR b1
    refine ⟨LJ_two (G := 16) (by decide) (by decide) w1' w2' he n1 n2 hv hd' (by omega) k1' k2' (fun X Y hX hY => ?_) ⟨f1, f2, ?_⟩ S T hS hT, fun hf => ?_⟩
    · rw [a2] at hX
      rw [b2] at hY
      injection hX with hX
      injection hY with hY
      rw [← hX, ← hY]
    · rcases g1 with g1 | g1
      · exact Or.inl g1
      · rcases g2 with g2 | g2
        · exact Or.inr (Or.inl g2)
        · exact Or.inr (Or.inr (Or.inl (by rw [g1, g2])))
    · obtain ⟨⟨tb, lS, lT⟩, q⟩ := pair_two w1' w2' he n1 n2 hv hd' hS hT
      obtain ⟨tb2, l2⟩ := q hf
      refine LB_ST' (e := 0) tb2 (by omega) lT l2 (Or.inr ?_)
      -- the domain of an instance
      have oLC : ok (1 + 1) (lft 0 1 C) = true := by
        have q := ok_lft 0 1 C 1 (by rw [Nat.zero_add]; exact oC)
        simpa using q
      have hC16 : hd C < 16 := by
        rcases ok_cases oC with rfl | ⟨j, hj, rfl⟩ | ⟨p, r, rfl, -, -⟩ | ⟨p, r, rfl, -, -⟩ | ⟨m, x, y, z, hm, rfl, -⟩
        · exact absurd eC (by decide)
        · rw [tch_var] at eC; omega
        · rw [hd_fun]; omega
        · rw [hd_all]; omega
        · rw [hd_rec]; omega
      have hS16 : hd S = hd C := by
        rw [a3, sbt_hd oLC (by rw [hd_lf oC hC16]; exact hC16), hd_lf oC hC16]
      have eS : expo [b] ([b] : List Ty).length S = S := expo_id (by omega) _
      rw [eS] at hf ⊢
      obtain ⟨D, E, rfl, oD, oE⟩ := hd_is_fun oC (by omega)
      have eD : k1 S = sbt 1 (nY x) 0 (lft 0 1 D) := by
        rw [a3, lft_fun, sbt_fun]; rfl
      rw [eD]
      have tD : tch D ≤ 27 := by
        rw [tch_fun] at eC
        have := tch_pos oE
        omega
      have pD := tch_pos oD
      generalize nY x = Q at *
      generalize hh : vlr false 0 = h
      have H1 : ∀ y, h y ≤ 1 + max 1 y := fun y => by
        rw [← hh]
        unfold vlr
        simp only [Bool.false_eq_true, if_false]
        omega
      have Hx : ∀ y, h y = 1 + y := fun y => by
        rw [← hh]
        unfold vlr
        simp only [Bool.false_eq_true, if_false]
        omega
      have body : ∀ (t : Ty) (z : Nat), ok 1 t = true → nz 0 (fun _ => 1 + 0) (2 + 0) h [z] t ≤ xa 0 (fun _ => 1 + 0) (2 + 0) 1 1 t + xt 1 t * z := by
        intro t z o
        have q := nz_xo (t0 := 0) (n1 := fun _ => 1 + 0) (s2 := 2 + 0) (hv := 1) (h := h) H1 (t := t) (ω := []) (x := z) (z := z) o (fun j hj => absurd hj (Nat.not_lt_zero _))
        have q2 : xt 1 t = xo 0 t + xf 1 0 t := xt_xo 0 t
        rw [q2, Nat.add_mul]
        have q : nz 0 (fun _ => 1 + 0) (2 + 0) h [z] t ≤ xa 0 (fun _ => 1 + 0) (2 + 0) 1 1 t + xo 0 t * z + xf 1 0 t * z := q
        omega
      obtain ⟨v, hv1, v1, v2⟩ := xr_form (n1 := fun _ => 1 + 0) (hv := 1) xv7_ok (Nat.le_refl _) (fun m _ => by split <;> (try split) <;> (try split) <;> exact Nat.le_refl _) _ (tFun D E) 1 (Nat.le_refl _) oC (by omega)
      obtain ⟨u, hu1, u1, u2⟩ := xr_form (n1 := fun _ => 1 + 0) (hv := 1) xv7_ok (Nat.le_refl _) (fun m _ => by split <;> (try split) <;> (try split) <;> exact Nat.le_refl _) _ D 1 (Nat.le_refl _) oD (by omega)
      have v2 : xa 0 (fun _ => 1 + 0) (2 + 0) 1 1 (tFun D E) ≤ v.2 := v2
      have u2 : xa 0 (fun _ => 1 + 0) (2 + 0) 1 1 D ≤ u.2 := u2
      rw [eC] at hv1
      have num := Nat.le_of_ble_eq_true (List.all_eq_true.mp (List.all_eq_true.mp (List.all_eq_true.mp exa_num v hv1) (tch D) (List.mem_range.mpr (by omega))) u hu1)
      -- the value of the variable
      have bC := body (tFun D E) 1 oC
      obtain ⟨vA, hA, eA⟩ : ∃ vA, onz 0 (fun _ => 1 + 0) (2 + 0) h [b] = [vA] ∧ vA ≤ 4 + (v.2 + v.1) := by
        refine ⟨h (nz 0 (fun _ => 1 + 0) (2 + 0) h [] b), rfl, ?_⟩
        have eb : nz 0 (fun _ => 1 + 0) (2 + 0) h [] b = 1 + (2 + nz 0 (fun _ => 1 + 0) (2 + 0) h [1] (tFun D E)) := by
          have z : h 0 = 1 := by rw [Hx]
          obtain ⟨m, q⟩ := rc
          rcases q with ⟨q, -⟩ | ⟨q, -⟩ | ⟨q, -⟩ <;> rw [q, nz_rec, nz_nil, nz_all, nz_top, z] <;> omega
        rw [Hx, eb]
        rw [Nat.mul_one] at bC
        omega
      rw [hA]
      have ez : nz 0 (fun _ => 1 + 0) (2 + 0) h [vA] (sbt 1 Q 0 (lft 0 1 D)) = nz 0 (fun _ => 1 + 0) (2 + 0) h [nz 0 (fun _ => 1 + 0) (2 + 0) h [vA] Q] D := by
        have oLD : ok (1 + 1) (lft 0 1 D) = true := by
          have q := ok_lft 0 1 D 1 (by rw [Nat.zero_add]; exact oD)
          simpa using q
        have s1 := nz_sbt (t0 := 0) (n1 := fun _ => 1 + 0) (s2 := 2 + 0) (h := h) Q [vA] oQ _ (lft 0 1 D) [] (Nat.le_refl _) oLD
        have s2' := nz_lft (t0 := 0) (n1 := fun _ => 1 + 0) (s2 := 2 + 0) (h := h) [vA] [] _ D [nz 0 (fun _ => 1 + 0) (2 + 0) h [vA] Q] (Nat.le_refl _) (by simpa using oD)
        exact s1.trans s2'
      rw [ez]
      have zQ : nz 0 (fun _ => 1 + 0) (2 + 0) h [vA] Q ≤ vA := by
        rcases one_txt oQ a1 with rfl | ⟨j, hj, rfl⟩
        · rw [nz_top]; exact Nat.zero_le _
        · have : j = 0 := by omega
          subst this
          rw [nz_var]
          exact Nat.le_refl _
      have bD := body D (nz 0 (fun _ => 1 + 0) (2 + 0) h [vA] Q) oD
      have k3 := Nat.mul_le_mul u1 (Nat.le_trans zQ eA)
      omega
end PmZa1
def RESTAD9 : Prop := ∀ (f : Nat) (x y : Ty) (Γ : List Ty) (Δ : List (Nat × Ty × Nat)) (t : Ty), H9 f x y Γ Δ → Sh9 x y t → (¬ CHo f t [] ∨ (CHo f t [] ∧ V9c f x y t (mch (pee f t).2) Δ.isEmpty Γ)) → PRn f x y Γ Δ
theorem restAC9_of (R : RESTAD9) : RESTAC9 := by
  intro f x y Γ Δ t H sh h
  rcases h with h | ⟨ch, ⟨nD, h⟩ | h⟩
  · exact R f x y Γ Δ t H sh (Or.inl h)
  · have H' := H
    obtain ⟨hx9, hy9, ⟨he, hv, hd', h20, h47, -⟩, hb, ng, -⟩ := H'
    obtain ⟨⟨wt, nt, tt, m3', m3, n9⟩, pm, hbt⟩ := h9_t H sh
    obtain ⟨b, b', B, C, eΓ, lb, fl, eB, eC, eo⟩ := h
    subst eΓ
    have ob : ok 0 b = true := he.1.1
    have d5 := dch_five he nD
    have ni : ¬ IS2 (fun _ => False) b := fun i => by
      obtain ⟨-, -, -, -, -, -, -, -, -, -, -, -, nP, -⟩ := n9
      exact nP ⟨fun a ha => by
        rw [List.mem_singleton] at ha
        subst ha
        exact i, pee_cho f t [] ch, m3, by omega⟩
    have eT := lb.2.2.1 eB
    subst eT
    have oσ : ok 0 (tAll tTop C) = true := lb.1.2.1
    have oC : ok 1 C = true := (ok_all.mp oσ).2
    have eσ := tch_all tTop C
    have t1 : tch tTop = 1 := rfl
    have h2 : hd b ≠ 2 := fun h2 => by
      obtain ⟨p, r, rfl, -, -⟩ := hd_is_all ob h2
      rcases IS2_all lb.1.2.2.2.2 with q | ⟨-, -, q, -⟩
      · rw [q] at eo; omega
      · omega
    have rc : Rc1 b (tAll tTop C) := rec_one ob lb.1.2.2.2.2 ni h2 eo
    have c43 : cch [b] = 43 := by
      show (tch b + 4) + 0 = 43
      omega
    have hbx : cch [b] + dch Δ + (2 + (mch x + mch y)) ≤ 60 := hb
    have mx3 := hx9.2.2.2.1
    have my3 := hy9.2.2.2.1
    by_cases d7 : dch Δ ≤ 7
    rotate_left
    · have t3 : mch t = 3 := by
        rcases sh with ⟨rfl, le⟩ | ⟨rfl, le⟩ <;> omega
      obtain ⟨-, q2, -, n7, n11⟩ := pee_ok f _ _ t wt
      have e := q2.resolve_right (by omega)
      rw [e] at n7 n11
      exact h9_ntv H sh (ntv_three he rc (by omega) wt n7 n11 t3 (by omega))
    rcases ntv_exa he rc d7 wt (by omega) (by omega) with z | ⟨k9, m5⟩
    · exact h9_ntv H sh z
    have both : mch x = 5 ∧ mch y = 5 := by
      rcases sh with ⟨rfl, le⟩ | ⟨rfl, le⟩ <;> omega
    rcases ntv_exa he rc (by omega) hx9.1 (by omega) (by omega) with z | ⟨kx, -⟩
    · exact pair_ntv hx9.1 hy9.1 he hx9.2.1 hy9.2.1 hv hd' (by omega) (Or.inl z)
    rcases ntv_exa he rc (by omega) hy9.1 (by omega) (by omega) with z | ⟨ky, -⟩
    · exact pair_ntv hx9.1 hy9.1 he hx9.2.1 hy9.2.1 hv hd' (by omega) (Or.inr z)
    exact pair_exa he hv hd' ob oC rc eC h47 (by omega) hx9.1 hy9.1 hx9.2.1 hy9.2.1 kx ky both.1 both.2
  · exact R f x y Γ Δ t H sh (Or.inr ⟨ch, h⟩)
theorem pairn_qd (R : RESTAD9) : PAIRn := pairn_qc (restAC9_of R)
