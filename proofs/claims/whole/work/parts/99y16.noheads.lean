/-! NO OTHER SCHEME OF THE CONTEXT HAS A BOUND TOP: what nature leaves, and the rest of it. -/
/-- every context that a list leaves out -/
def ckl (X : List (List (Nat × Nat))) (P : Nat → Nat → Nat → Bool) : Bool := (List.range 39).all (fun k => (X.getD k []).all (fun s => P k s.1 s.2))
theorem ckl_get {X0 X1 : List (List (Nat × Nat))} {P : Nat → Nat → Nat → Bool} (h : ckl X1 P = true) {k q1 q2 : Nat} (k38 : k ≤ 38) (hz : znv X0 X1 true k q1 q2 = false) : P k q1 q2 = true := by
  unfold ckl at h
  have q := rng_all h (i := k) (by omega)
  unfold znv at hz
  rw [Nat.ble_eq_true_of_le k38, Bool.true_and, if_pos rfl] at hz
  unfold nxk at hz
  rw [Bool.not_eq_false'] at hz
  obtain ⟨s, hs, e⟩ := List.any_eq_true.mp hz
  rw [Bool.and_eq_true] at e
  have e1 := Nat.eq_of_beq_eq_true e.1
  have e2 := Nat.eq_of_beq_eq_true e.2
  have r := List.all_eq_true.mp q s hs
  rw [e1, e2] at r
  exact r
/-- what is left where no other scheme stands around -/
def lo0 (e co : Bool) (m k q1 q2 : Nat) : Bool := (Nat.ble 18 k && Nat.beq q1 0) && (if e then ((Nat.beq (9 + k + q1 + q2) 36 && Nat.beq m 11) || (Nat.ble 40 (9 + k + q1 + q2) && (Nat.beq m 8 || (Nat.beq m 9 && Nat.beq (9 + k + q1 + q2) 40)))) else if Nat.blt m 6 then (Nat.ble 42 (9 + k + q1 + q2) || (Nat.beq (9 + k + q1 + q2) 41 && Nat.beq m 5)) else (Nat.ble 39 (9 + k + q1 + q2) || (!co && (Nat.beq (9 + k + q1 + q2) 37 && Nat.beq m 8))))
def lc0 (e co : Bool) (m k q1 q2 : Nat) : Bool := npl true e co m k q1 q2 || (ndk q1 q2 || (Nat.blt 58 (9 + k + q1 + q2 + 2 * m + (if e then 0 else 5)) || (Nat.ble k 17 || lo0 e co m k q1 q2)))
/-- where a bound behind holds such a scheme -/
def lz0 (e co : Bool) (m k q1 q2 : Nat) : Bool := npl true e co m k q1 q2 || (ndk q1 q2 || (Nat.blt 58 (9 + k + q1 + q2 + 2 * m + (if e then 0 else 5)) || (Nat.blt q2 10 || (nzl true e co m k q1 q2 || (Nat.ble k 17 || (!e && ((Nat.blt m 6 && Nat.ble 46 (9 + k + q1 + q2)) || (Nat.ble 6 m && (!co && Nat.beq (9 + k + q1 + q2) 41)))))))))
/-- and where the scheme, gone, leaves too much -/
def lg0 (e co : Bool) (m k q1 q2 : Nat) : Bool := npl true e co m k q1 q2 || (ndk q1 q2 || (Nat.blt 58 (9 + k + q1 + q2 + 2 * m + (if e then 0 else 5)) || (gdk q1 q2 || (Nat.ble k 17 || (!e && (Nat.blt m 6 && Nat.ble 46 (9 + k + q1 + q2)))))))
def lh0 (k q1 q2 : Nat) : Bool := npl true false false 8 k q1 q2 || (ndk q1 q2 || (!(Nat.beq (9 + k + q1 + q2) 37) || (Nat.ble k 17 || npl true false true 8 k q1 q2)))
def lall (co : Bool) (m k q1 q2 : Nat) : Bool := lc0 false co m k q1 q2 && (lz0 false co m k q1 q2 && (lg0 false co m k q1 q2 && (!(Nat.beq m 8) || lh0 k q1 q2)))
theorem lA_ok : ckl xa1 (fun k q1 q2 => (List.range 6).all (fun m => Nat.blt m 3 || (lall true m k q1 q2 && lall false m k q1 q2))) = true := by decide +kernel
theorem lC_ok : ckl xc1 (fun k q1 q2 => (List.range 20).all (fun m => Nat.blt m 6 || (lall true m k q1 q2 && lall false m k q1 q2))) = true := by decide +kernel
theorem lall_get {co : Bool} {m k q1 q2 : Nat} (hn : npl true false co m k q1 q2 = false) (m3 : 3 ≤ m) (m20 : m < 20) (k38 : k ≤ 38) : lall co m k q1 q2 = true := by
  unfold npl at hn
  rw [if_neg (by decide)] at hn
  have fin : ∀ {a : Bool}, a = (lall true m k q1 q2 && lall false m k q1 q2) → a = true → lall co m k q1 q2 = true := by
    intro a e h
    rw [e, Bool.and_eq_true] at h
    cases co
    · exact h.2
    · exact h.1
  by_cases m6 : m < 6
  · rw [blt_is m6, if_pos rfl, Bool.or_eq_false_iff] at hn
    have q := rng_all (ckl_get lA_ok k38 hn.1) (i := m) m6
    rw [Bool.or_eq_true] at q
    rcases q with q | q
    · exact (blt_no m3 q).elim
    · exact fin rfl q
  · rw [blt_not m6, if_neg (by decide), Bool.or_eq_false_iff] at hn
    have q := rng_all (ckl_get lC_ok k38 hn.1) (i := m) m20
    rw [Bool.or_eq_true] at q
    rcases q with q | q
    · exact (blt_no (show 6 ≤ m by omega) q).elim
    · exact fin rfl q
theorem dch_one {Γ : List Ty} : ∀ {Δ : List (Nat × Ty × Nat)}, TE Γ Δ → Δ ≠ [] → dch Δ ≤ 9 → ∃ a, Δ = [a]
  | [], _, h, _ => absurd rfl h
  | [a], _, _, _ => ⟨a, rfl⟩
  | a :: b :: Δ, he, _, h => by
    have p1 := tch_pos (he.2.2 a (List.mem_cons_self ..)).2.1
    have p2 := tch_pos (he.2.2 b (List.mem_cons_of_mem _ (List.mem_cons_self ..))).2.1
    have h : (tch a.2.1 + 4) + ((tch b.2.1 + 4) + dch Δ) ≤ 9 := h
    omega
theorem dch_ten {Γ : List Ty} {Δ : List (Nat × Ty × Nat)} (he : TE Γ Δ) (h : ∃ a ∈ Δ, noh 0 a.2.1 = false) : 10 ≤ dch Δ := by
  obtain ⟨a, ha, n⟩ := h
  have := noh_six (he.2.2 a ha).2.1 n
  have := dch_mem ha
  omega
section PmYd
variable {f : Nat} {s u C : Ty} {Γ0 Δ1 : List Ty} {Δ : List (Nat × Ty × Nat)}
/-- the shorter term s, the longer one u -/
theorem H_su (nC : noh 0 C = true) (n0 : ∀ b ∈ Γ0, noh 0 b = true) (w1 : TWf f (cxs Δ1 Γ0 (tAll tTop C)).length (Δ.map (fun a => a.1)) s) (w2 : TWf f (cxs Δ1 Γ0 (tAll tTop C)).length (Δ.map (fun a => a.1)) u) (he : TE (cxs Δ1 Γ0 (tAll tTop C)) Δ) (t1 : TNo f s) (t2 : TNo f u) (ch1 : CHo f s []) (ho : (∀ b ∈ Γ0, nsch b = true ∨ (true = true ∧ tch b ≤ tch C + 5)) ∧ ∀ b ∈ Δ1, nsch b = true ∨ (true = true ∧ tch b ≤ tch C + 5)) (le : mch s ≤ mch u) (m3 : 3 ≤ mch s) (hb : cch (cxs Δ1 Γ0 (tAll tTop C)) + dch Δ + (2 + (mch s + mch u)) ≤ 60) (h20 : 20 ≤ cch (cxs Δ1 Γ0 (tAll tTop C))) (h49 : cch (cxs Δ1 Γ0 (tAll tTop C)) ≤ 47) (k18 : 18 ≤ tch C) (nd : ndk (cch Γ0) (cch Δ1) = false) (nΔ : Δ ≠ []) : NtV (cxs Δ1 Γ0 (tAll tTop C)) Δ f s 887 597 ∨ NtV (cxs Δ1 Γ0 (tAll tTop C)) Δ f u 887 597 ∨ (SMd C Γ0 Δ1 Δ f s ∧ SMd C Γ0 Δ1 Δ f u ∧ mch u < 16) ∨ ((∀ b ∈ Δ1, noh 0 b = true) ∧ (∀ a ∈ Δ, noh 0 a.2.1 = true) ∧ NHt 0 f s ∧ NHt 0 f u ∧ gdk (cch Γ0) (cch Δ1) = true) := by
  obtain ⟨oc0, oA⟩ := okc_low Δ1 he.1
  have oC := (ok_all.mp oA).2
  have kp := tch_pos oC
  have z5 := cch_q5 oc0
  have z6 := cxs_q5 he.1
  have ec : cch (cxs Δ1 Γ0 (tAll tTop C)) = 9 + tch C + cch Γ0 + cch Δ1 := by
    rw [cch_cx, tch_all, tch_top]
    omega
  have c1 : 9 + tch C + cch Γ0 + cch Δ1 ≤ 47 := by omega
  have c2 : 20 ≤ 9 + tch C + cch Γ0 + cch Δ1 := by omega
  have d5 := dch_five he nΔ
  have hb1 : cch (cxs Δ1 Γ0 (tAll tTop C)) + dch Δ + 2 * mch s ≤ 58 := by omega
  by_cases no : NOp f s
  · exact Or.inl (nat_no w1 he no hb1)
  have hE : Δ.isEmpty = false := by
    cases h : Δ.isEmpty with
    | false => rfl
    | true => exact absurd (List.isEmpty_iff.mp h) nΔ
  obtain ⟨co, hco⟩ : ∃ co : Bool, (co = true ↔ COk f s 0) := by
    by_cases c : COk f s 0
    · exact ⟨true, fun _ => c, fun _ => rfl⟩
    · exact ⟨false, (fun h => by cases h), fun h => absurd h c⟩
  cases hn : npl true false co (mch s) (tch C) (cch Γ0) (cch Δ1) with
  | true => exact Or.inl (nat_pl (o := true) w1 he ch1 m3 hco.mp (by rw [hE]; exact hn) ho hb1 h20 h49)
  | false =>
  have m20 : mch s < 20 := by omega
  have bud : Nat.blt 58 (9 + tch C + cch Γ0 + cch Δ1 + 2 * mch s + (if false = true then 0 else 5)) = false := blt_not (by rw [if_neg (by decide)]; omega)
  have k17 : Nat.ble (tch C) 17 = false := blt_not (a := tch C) (b := 18) (by omega)
  have LL := lall_get hn m3 m20 (by omega)
  unfold lall at LL
  rw [Bool.and_eq_true, Bool.and_eq_true, Bool.and_eq_true] at LL
  obtain ⟨L, Z, G, H⟩ := LL
  unfold lc0 at L
  rw [hn, nd, bud, k17, Bool.false_or, Bool.false_or, Bool.false_or, Bool.false_or] at L
  unfold lo0 at L
  rw [if_neg (by decide), Bool.and_eq_true, Bool.and_eq_true] at L
  obtain ⟨s1, s2, s3, sl, sH, sC, sO⟩ := chr_min f _ _ s w1
  obtain ⟨u1, u2, u3, ul, uH, uC, uO⟩ := chr_min f _ _ u w2
  have sO : 2 ≤ s3 := sO.resolve_left no
  -- one name around
  have one : dch Δ ≤ 9 → ((CFt f s ∨ 5 ≤ mch s) ∧ (COk f s 0 ∨ 7 ≤ mch s)) ∧ (CFt f u ∨ 5 ≤ mch u) := by
    intro h9
    obtain ⟨a, rfl⟩ := dch_one he nΔ h9
    exact ⟨chr_one f _ _ s w1 t1, (chr_one f _ _ u w2 t2).1⟩
  have few : 46 ≤ cch (cxs Δ1 Γ0 (tAll tTop C)) → SMd C Γ0 Δ1 Δ f s ∧ SMd C Γ0 Δ1 Δ f u ∧ mch u < 16 := by
    intro h46
    obtain ⟨⟨g1, -⟩, g2⟩ := one (by omega)
    exact ⟨Or.inl (g1.resolve_right (by omega)), Or.inl (g2.resolve_right (by omega)), by omega⟩
  by_cases f1 : ∃ b ∈ Δ1, noh 0 b = false
  · have q10 : 10 ≤ cch Δ1 := by
      obtain ⟨b, hb', n⟩ := f1
      obtain ⟨d, o, h2⟩ := okc_cxs he.1 hb'
      have := noh_six o n
      omega
    cases hz : nzl true false co (mch s) (tch C) (cch Γ0) (cch Δ1) with
    | true => exact Or.inl (nat_zl (o := true) w1 he ch1 m3 hco.mp f1 (by rw [hE]; exact hz) ho hb1 h20 h49)
    | false =>
      unfold lz0 at Z
      rw [hn, nd, bud, k17, hz, blt_not (show ¬ cch Δ1 < 10 by omega), Bool.false_or, Bool.false_or, Bool.false_or, Bool.false_or, Bool.false_or, Bool.false_or, Bool.not_false, Bool.true_and, Bool.or_eq_true, Bool.and_eq_true, Bool.and_eq_true, Bool.and_eq_true] at Z
      rcases Z with Z | Z
      · have := Nat.le_of_ble_eq_true Z.2
        exact Or.inr (Or.inr (Or.inl (few (by omega))))
      · exfalso
        have e1 := Nat.le_of_ble_eq_true Z.1
        have e2 := Nat.eq_of_beq_eq_true Z.2.2
        have nco : ¬ COk f s 0 := by
          intro h
          rw [hco.mpr h] at Z
          cases Z.2.1
        obtain ⟨⟨-, g2⟩, -⟩ := one (by omega)
        have := g2.resolve_left nco
        omega
  have nD1 : ∀ b ∈ Δ1, noh 0 b = true := by
    intro b hb'
    cases h : noh 0 b with
    | true => rfl
    | false => exact absurd ⟨b, hb', h⟩ f1
  have sg : SGc 0 tTop C tTop Γ0 Δ1 := ⟨by decide, hd_top, he.1, cxd_okc (ok_top _) Δ1 he.1, nD1, n0⟩
  by_cases all : (∀ a ∈ Δ, noh 0 a.2.1 = true) ∧ NHt 0 f s ∧ NHt 0 f u
  · cases hg : gdk (cch Γ0) (cch Δ1) with
    | true => exact Or.inr (Or.inr (Or.inr ⟨nD1, all.1, all.2.1, all.2.2, rfl⟩))
    | false =>
      unfold lg0 at G
      rw [hn, nd, bud, k17, hg, Bool.false_or, Bool.false_or, Bool.false_or, Bool.false_or, Bool.false_or, Bool.not_false, Bool.true_and, Bool.and_eq_true] at G
      have := Nat.le_of_ble_eq_true G.2
      exact Or.inr (Or.inr (Or.inl (few (by omega))))
  by_cases m6 : mch s < 6
  · -- a short one
    rw [blt_is m6, if_pos rfl, Bool.or_eq_true, Bool.and_eq_true] at L
    have c41 : 42 ≤ 9 + tch C + cch Γ0 + cch Δ1 ∨ (9 + tch C + cch Γ0 + cch Δ1 = 41 ∧ mch s = 5) := L.2.imp Nat.le_of_ble_eq_true (fun h => ⟨Nat.eq_of_beq_eq_true h.1, Nat.eq_of_beq_eq_true h.2⟩)
    have co5 : COk f s 0 := (co_six w1).resolve_right (by omega)
    have sH : NHt 0 f s := sH.resolve_right (by omega)
    by_cases fd : ∃ a ∈ Δ, noh 0 a.2.1 = false
    · have := dch_ten he fd
      exact Or.inr (Or.inr (Or.inl ⟨Or.inl (sC.resolve_right (by omega)), Or.inl (uC.resolve_right (by omega)), by omega⟩))
    · have nD : ∀ a ∈ Δ, noh 0 a.2.1 = true := by
        intro a ha
        cases h : noh 0 a.2.1 with
        | true => rfl
        | false => exact absurd ⟨a, ha, h⟩ fd
      refine Or.inr (Or.inr (Or.inl ⟨Or.inr ⟨co5, nC, sH, sg, nD⟩, ?_, by omega⟩))
      rcases uC with q | q
      · exact Or.inl q
      · have uH : NHt 0 f u := uH.resolve_right (by omega)
        exact absurd ⟨nD, sH, uH⟩ all
  · rw [blt_not m6, if_neg (by decide), Bool.or_eq_true, Bool.and_eq_true, Bool.and_eq_true] at L
    have cL : 39 ≤ 9 + tch C + cch Γ0 + cch Δ1 ∨ (co = false ∧ 9 + tch C + cch Γ0 + cch Δ1 = 37 ∧ mch s = 8) := L.2.imp Nat.le_of_ble_eq_true (fun h => ⟨by simpa using h.1, Nat.eq_of_beq_eq_true h.2.1, Nat.eq_of_beq_eq_true h.2.2⟩)
    have nD : ∀ a ∈ Δ, noh 0 a.2.1 = true := by
      intro a ha
      cases h : noh 0 a.2.1 with
      | true => rfl
      | false =>
        have := dch_ten he ⟨a, ha, h⟩
        omega
    have nco : co = false → ¬ COk f s 0 := fun e h => by rw [hco.mpr h] at e; cases e
    have sCk : co = false → 3 ≤ s2 := fun e => sC.resolve_left (fun h => nco e (CF_CO f s 0 h))
    have sH : NHt 0 f s := sH.resolve_right (by
      rcases cL with h | ⟨h, h2, h3⟩
      · omega
      · have := sCk h
        omega)
    have uF : 5 ≤ u1 := uH.resolve_left (fun h => all ⟨nD, sH, h⟩)
    rcases cL with h | ⟨h, h2, h3⟩
    · have uS : SMd C Γ0 Δ1 Δ f u := Or.inl (uC.resolve_right (by omega))
      by_cases cs : COk f s 0
      · exact Or.inr (Or.inr (Or.inl ⟨Or.inr ⟨cs, nC, sH, sg, nD⟩, uS, by omega⟩))
      · obtain ⟨⟨-, g2⟩, -⟩ := one (by omega)
        have := g2.resolve_left cs
        exact Or.inr (Or.inl (nat_no w2 he (uO.resolve_right (by omega)) (by omega)))
    · have uK : COk f u 0 := by
        rcases uC with q | q
        · exact CF_CO f u 0 q
        · exact NOp_CO f u (uO.resolve_right (by omega))
      have u8 : mch u = 8 := by omega
      have e8 : Nat.beq (mch s) 8 = true := by rw [h3]; rfl
      rw [e8, Bool.not_true, Bool.false_or] at H
      unfold lh0 at H
      rw [h, h3] at hn
      have e37 : Nat.beq (9 + tch C + cch Γ0 + cch Δ1) 37 = true := by rw [h2]; rfl
      rw [hn, nd, k17, e37, Bool.false_or, Bool.false_or, Bool.not_true, Bool.false_or, Bool.false_or] at H
      exact Or.inr (Or.inl (nat_pl (o := true) (co := true) w2 he (CHo_of_COk f u [] uK) (by omega) (fun _ => uK) (by rw [hE, u8]; exact H) ho (by omega) h20 h49))
end PmYd
