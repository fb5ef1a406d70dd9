/-! SHORT TERMS AND THE BOUND OF A SCHEME: an argument of at most three characters below a bound other than Top names no newest scheme. -/
section PmTa
variable {Γ0 : List Ty} {B C : Ty} {Δ : List (Nat × Ty × Nat)} {f : Nat}
theorem hd_lf {k n d : Nat} {a : Ty} (o : ok d a = true) (h : hd a < 16) : hd (lft k n a) = hd a := (hd_lft0 o).2 h
theorem two_txt {d : Nat} {Q : Ty} (o : ok d Q = true) (hq : tch Q ≤ 3) : Q = tTop ∨ (∃ j, j < d ∧ Q = tVar j) ∨ Q = tR0 := by
  rcases ok_cases o with rfl | ⟨j, hj, rfl⟩ | ⟨a, c, rfl, ha, hb⟩ | ⟨a, c, rfl, ha, hb⟩ | ⟨m, x, y, z, hm, rfl, o0, o1, o2⟩
  · exact Or.inl rfl
  · exact Or.inr (Or.inl ⟨j, hj, rfl⟩)
  · rw [tch_fun] at hq
    have := tch_pos ha
    have := tch_pos hb
    omega
  · rw [tch_all] at hq
    have := tch_pos ha
    have := tch_pos hb
    omega
  · have n3 := tch_three o
    have e := tch_rec m x y z
    have h0 : ∀ m, m < 8 → m ≠ 0 → 3 ≤ rch m := by decide
    by_cases em : m = 0
    · subst em
      right; right
      unfold okl at o0 o1 o2
      rw [if_neg (by decide)] at o0 o1 o2
      rw [o0, o1, o2]
      rfl
    · have := h0 m hm em
      omega
theorem arg_b (hc : okc (tAll B C :: Γ0)) {Q : Ty} (oQ : ok (Γ0.length + 1) Q = true) (h0 : hd B ≠ 0) (h16 : hd B < 16) (hq : tch Q ≤ 3) (hb : bel (tAll B C :: Γ0) Q (lft Γ0.length 1 B) = true) : (∃ j, j < Γ0.length ∧ Q = tVar j) ∨ Q = tR0 := by
  have oB : ok Γ0.length B = true := (ok_all.mp hc.1).1
  have oB' : ok (Γ0.length + 1) (lft Γ0.length 1 B) = true := by
    have q := ok_lft Γ0.length 1 B 0 (by rw [Nat.add_zero]; exact oB)
    rw [Nat.add_zero] at q
    exact q
  have eh := hd_lf (k := Γ0.length) (n := 1) oB h16
  have el : (tAll B C :: Γ0).length = Γ0.length + 1 := rfl
  rcases two_txt oQ hq with rfl | ⟨j, hj, rfl⟩ | rfl
  · exfalso
    rw [bel_no ⟨hc, rfl, oB'⟩ (by rw [eh]; exact h0) (by decide) (fun q => absurd q.1.1 (by decide)) (by rw [eh]; exact fun q => h0 q.symm)] at hb
    cases hb
  · by_cases e : j < Γ0.length
    · exact Or.inl ⟨j, e, rfl⟩
    exfalso
    have ej : j = Γ0.length := by omega
    subst ej
    have tk : tok (tAll B C :: Γ0, tVar Γ0.length, lft Γ0.length 1 B) := ⟨hc, oQ, oB'⟩
    rw [bel_var tk (by rw [eh]; exact h0) (by rw [eh]; omega)] at hb
    have eb : bnd (tAll B C :: Γ0) Γ0.length = tAll B C := by
      show (if Γ0.length = Γ0.length then tAll B C else _) = _
      rw [if_pos rfl]
    rw [el, eb, show Γ0.length + 1 - Γ0.length = 1 by omega, lft_all] at hb
    have oA := ok_expose (k := Γ0.length) hc (by rw [el]; omega)
    rw [el, eb, show Γ0.length + 1 - Γ0.length = 1 by omega, lft_all] at oA
    have tk2 : tok (tAll B C :: Γ0, tAll (lft Γ0.length 1 B) (lft Γ0.length 1 C), lft Γ0.length 1 B) := ⟨hc, oA, oB'⟩
    by_cases h2 : hd B = 2
    · obtain ⟨a, b, eB, ha, hb'⟩ := hd_is_all oB' (by rw [eh]; exact h2)
      rw [bel_eq tk2] at hb
      have en : stp (tAll B C :: Γ0) (tAll (lft Γ0.length 1 B) (lft Γ0.length 1 C)) (lft Γ0.length 1 B) = none := by
        unfold stp
        rw [eB, if_neg (by rw [hd_all, hd_all]; omega), if_neg (by rw [hd_all]; omega), if_neg (by rw [hd_all, hd_all]; omega), if_neg (by rw [hd_all, hd_all]; omega), if_neg (by rw [hd_all]; omega)]
        refine if_neg (fun q => ?_)
        have q : flat (tAll a b) = flat a := q
        have l := congrArg List.length q
        rw [flat_all, List.length_cons, List.length_append] at l
        omega
      rw [en] at hb
      cases hb
    · rw [bel_no tk2 (by rw [eh]; exact h0) (by rw [hd_all]; omega) (fun q => by have := q.1.1; rw [hd_all] at this; omega) (by rw [eh, hd_all]; exact fun q => h2 q.symm)] at hb
      cases hb
  · exact Or.inr rfl
/-- what a short head has: the newest variable, or a type of few characters -/
def SHd (Γ0 : List Ty) (B C : Ty) (n : Nat) (T : Ty) : Prop := T = tVar Γ0.length ∨ (∃ F, expo (tAll B C :: Γ0) (tAll B C :: Γ0).length T = F ∧ ok (Γ0.length + 1) F = true ∧ tch F ≤ n ∧ hd F < 16)
theorem expo_id {Γ : List Ty} {F : Ty} (h : hd F < 16) : ∀ m, expo Γ m F = F
  | 0 => rfl
  | m + 1 => by
    show (if 16 ≤ hd F then _ else F) = F
    rw [if_neg (by omega)]
theorem sh_of (hc : okc (tAll B C :: Γ0)) (hv : noac (tAll B C :: Γ0)) {T : Ty} {n : Nat} (o : ok (Γ0.length + 1) T = true) (hT : tch T ≤ n) (hn : ∀ j, j < Γ0.length → tch (bnd Γ0 j) ≤ n) : SHd Γ0 B C n T := by
  by_cases h : 16 ≤ hd T
  · obtain ⟨k, hk, rfl⟩ := hd_is_var o h
    by_cases e : k = Γ0.length
    · exact Or.inl (by rw [e])
    have kl : k < Γ0.length := by omega
    right
    have el : (tAll B C :: Γ0).length = Γ0.length + 1 := rfl
    have eb : bnd (tAll B C :: Γ0) k = bnd Γ0 k := by
      show (if k = Γ0.length then tAll B C else _) = _
      rw [if_neg e]
    have ob := ok_expose (k := k) hc (by rw [el]; omega)
    have h16 := (hv k (by rw [el]; omega)).2
    rw [eb] at ob h16
    have obk := okc_bnd' (Γ := Γ0) (k := k) hc.2 kl
    refine ⟨lft k (Γ0.length + 1 - k) (bnd Γ0 k), ?_, ob, ?_, hd_lft_lo _ _ _ h16⟩
    · rw [el]
      show (if 16 ≤ hd (tVar k) then expo _ Γ0.length (exps _ (tVar k)) else _) = _
      rw [if_pos h, exps_var, eb, el]
      exact expo_id (hd_lft_lo k (Γ0.length + 1 - k) _ h16) _
    · rw [tch_lft k _ _ k obk]
      exact hn k kl
  · right
    refine ⟨T, ?_, o, hT, by omega⟩
    show (if 16 ≤ hd T then _ else T) = T
    rw [if_neg h]
/-- names and fields -/
theorem sh_five (he : TE (tAll B C :: Γ0) Δ) (hv : noac (tAll B C :: Γ0)) {e T : Ty} {n : Nat} (w : TWf (f + 1) (Γ0.length + 1) (Δ.map (fun a => a.1)) e) (c5 : nKd e = 5) (hn : ∀ j, j < Γ0.length → tch (bnd Γ0 j) ≤ n) (hd' : dch Δ ≤ n + 4) (e0 : tyF (f + 1) e (tAll B C :: Γ0) Δ = .inr T) : ok (Γ0.length + 1) T = true ∧ SHd Γ0 B C n T := by
  have o := (tyF_ok _ _ _ _ _ w he e0).1
  have o : ok (Γ0.length + 1) T = true := o
  refine ⟨o, sh_of he.1 hv o ?_ hn⟩
  obtain ⟨w0, w5, w6, w7, w8, w9, w10, w11, w12⟩ := w
  unfold tyF at e0
  rw [if_pos c5] at e0
  obtain ⟨e, l⟩ := tyO_in e0
  obtain ⟨a, ha⟩ := dlk_some (w5 c5)
  rw [ha] at e
  injection e with e
  have hm := dlk_mem ha
  obtain ⟨a1, a2, a3⟩ := he.2.2 _ hm
  have ad := dch_mem hm
  have e : lft a.2 ((tAll B C :: Γ0).length - a.2) a.1 = T := e
  rw [← e, tch_lft a.2 _ a.1 a.2 a2]
  have ad : tch a.1 + 4 ≤ dch Δ := ad
  omega
theorem fld_tch {d m : Nat} {x y z : Ty} (o : ok d (tRec m x y z) = true) (hm : m < 8) {g : Nat} (hg : g < 3) (hb : bit m g = true) : tch (pt (tRec m x y z) g) ≤ tch (tRec m x y z) := by
  have e := tch_rec m x y z
  rcases (show g = 0 ∨ g = 1 ∨ g = 2 by omega) with rfl | rfl | rfl
  · rw [(pt_rec hm x y z).1]; omega
  · rw [(pt_rec hm x y z).2.1]; omega
  · rw [(pt_rec hm x y z).2.2]; omega
theorem sh_elev (he : TE (tAll B C :: Γ0) Δ) (hv : noac (tAll B C :: Γ0)) {u T : Ty} {n : Nat} (w : TWf (f + 2) (Γ0.length + 1) (Δ.map (fun a => a.1)) u) (c11 : nKd u = 11) (cX : nKd (nX u) = 5) (hn : ∀ j, j < Γ0.length → tch (bnd Γ0 j) ≤ n) (hd' : dch Δ ≤ n + 4) (e0 : tyF (f + 2) u (tAll B C :: Γ0) Δ = .inr T) : ok (Γ0.length + 1) T = true ∧ SHd Γ0 B C n T := by
  have o := (tyF_ok _ _ _ _ _ w he e0).1
  have o : ok (Γ0.length + 1) T = true := o
  refine ⟨o, ?_⟩
  obtain ⟨w0, w5, w6, w7, w8, w9, w10, w11, w12⟩ := w
  unfold tyF at e0
  rw [if_neg (by omega), if_neg (by omega), if_neg (by omega), if_neg (by omega), if_neg (by omega), if_neg (by omega), if_pos c11] at e0
  obtain ⟨S, hS, h1⟩ := tbd_in e0
  obtain ⟨e, l⟩ := tyO_in h1
  obtain ⟨m3, x1⟩ := w11 c11
  obtain ⟨oS, sh⟩ := sh_five (f := f) he hv x1 cX hn hd' hS
  have el : (tAll B C :: Γ0).length = Γ0.length + 1 := rfl
  unfold tyD at e
  by_cases c : (8 ≤ hd (expo (tAll B C :: Γ0) (tAll B C :: Γ0).length S) ∧ hd (expo (tAll B C :: Γ0) (tAll B C :: Γ0).length S) < 16) ∧ bit (hd (expo (tAll B C :: Γ0) (tAll B C :: Γ0).length S) - 8) (nMk u) = true
  rotate_left
  · rw [if_neg c] at e; cases e
  rw [if_pos c] at e
  injection e with e
  rcases sh with rfl | ⟨F, eF, oF, hF, h16⟩
  · exfalso
    have q : expo (tAll B C :: Γ0) (tAll B C :: Γ0).length (tVar Γ0.length) = lft Γ0.length 1 (tAll B C) := by
      rw [el]
      show (if 16 ≤ hd (tVar Γ0.length) then expo _ Γ0.length (exps _ (tVar Γ0.length)) else _) = _
      rw [if_pos (by rw [hd_var]; omega), exps_var, el, show Γ0.length + 1 - Γ0.length = 1 by omega]
      have eb : bnd (tAll B C :: Γ0) Γ0.length = tAll B C := by
        show (if Γ0.length = Γ0.length then tAll B C else _) = _
        rw [if_pos rfl]
      rw [eb]
      exact expo_id (by rw [lft_all, hd_all]; omega) _
    rw [q, lft_all, hd_all] at c
    omega
  · rw [eF] at e c
    obtain ⟨m, x, y, z, hm, e2⟩ := hd_is_rec oF c.1.1 c.1.2
    rw [e2] at e c oF hF
    rw [hd_rec, show 8 + m - 8 = m by omega] at c
    have q := fld_tch oF hm m3 c.2
    rw [e] at q
    exact sh_of he.1 hv o (by omega) hn
/-- a head of three characters: a name, a field of a name, an application of a name to a type of one character -/
theorem sh_kinds {u : Ty} {D : Nat} {sc : List Nat} (w : TWf (f + 3) D sc u) (m3 : mch u ≤ 3) : nKd u = 5 ∨ (nKd u = 11 ∧ nKd (nX u) = 5) ∨ (nKd u = 9 ∧ nKd (nX u) = 5 ∧ tch (nY u) = 1) ∨ nKd u = 10 := by
  obtain ⟨w0, w5, w6, w7, w8, w9, w10, w11, w12⟩ := w
  have em := mch_is w0.2.1
  rcases (show nKd u = 5 ∨ nKd u = 6 ∨ nKd u = 7 ∨ nKd u = 8 ∨ nKd u = 9 ∨ nKd u = 10 ∨ nKd u = 11 ∨ nKd u = 12 by omega) with c | c | c | c | c | c | c | c
  · exact Or.inl c
  · obtain ⟨-, x1, x2, x3⟩ := w6 c
    rw [if_neg (by omega), if_pos (Or.inl c)] at em
    have := tch_pos x1
    have := mch_pos x3
    omega
  · obtain ⟨x1, x2⟩ := w7 (Or.inl c)
    rw [if_neg (by omega), if_neg (by omega), if_neg (by omega), if_neg (by omega)] at em
    have := mch_pos x1
    have := mch_pos x2
    omega
  · obtain ⟨x1, x2, x3⟩ := w8 c
    rw [if_neg (by omega), if_pos (Or.inr c)] at em
    have := tch_pos x1
    have := mch_pos x3
    omega
  · obtain ⟨x1, x2, x3⟩ := w9 c
    rw [if_neg (by omega), if_neg (by omega), if_pos c] at em
    have p1 := mch_pos x1
    have p2 := tch_pos x2
    by_cases c5 : nKd (nX u) = 5
    · have e1 := mch_is x1.1.2.1
      rw [if_pos c5] at e1
      exact Or.inr (Or.inr (Or.inl ⟨c, c5, by omega⟩))
    · have := mch_two x1 c5
      omega
  · exact Or.inr (Or.inr (Or.inr c))
  · obtain ⟨m3', x1⟩ := w11 c
    rw [if_neg (by omega), if_neg (by omega), if_neg (by omega), if_neg (by omega)] at em
    by_cases c5 : nKd (nX u) = 5
    · exact Or.inr (Or.inl ⟨c, c5⟩)
    · have := mch_two x1 c5
      omega
  · obtain ⟨x1, x2⟩ := w7 (Or.inr c)
    rw [if_neg (by omega), if_neg (by omega), if_neg (by omega), if_neg (by omega)] at em
    have := mch_pos x1
    have := mch_pos x2
    omega
end PmTa
