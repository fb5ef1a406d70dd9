/-! SEVERAL BINDERS, names around, the designated scheme inside its bound: what is left. -/
/-- as lb_ex, the designated bound reaches a scheme -/
theorem lb_ex2 : ∀ (Γ : List Ty), okc Γ → (∀ a ∈ Γ, noal a = true) → cch Γ ≤ 47 → (∀ a ∈ Γ, IS2 (fun _ => False) a) ∨ ∃ (Δ1 Γ0 : List Ty) (b b' B C : Ty), Γ = cxs Δ1 Γ0 b ∧ LBd Γ0 Δ1 b b' B C ∧ ¬ IS2 (fun _ => False) b
  | [], _, _, _ => Or.inl (fun a ha => by cases ha)
  | a :: Γ, hc, hn, h47 => by
    have ec : cch (a :: Γ) = (tch a + 4) + cch Γ := rfl
    have pick := ds_pick _ Γ.length a (Nat.le_refl _) hc.1
    have na := hn a List.mem_cons_self
    have new : ∀ (B C b' : Ty), ¬ IS2 (fun _ => False) a → DSp Γ.length (tAll B C) b' a → DSx (tAll B C) b' a → (∀ x ∈ Γ, IS2 (fun s => ∀ B' C', s = tAll B' C' → tch C' ≤ tch C) x) → ∃ (Δ1 Γ0 : List Ty) (b b' B C : Ty), a :: Γ = cxs Δ1 Γ0 b ∧ LBd Γ0 Δ1 b b' B C ∧ ¬ IS2 (fun _ => False) b := by
      intro B C b' np q qx hx
      have qc := q.ch
      have e1 := tch_all B C
      exact ⟨[], Γ, a, b', B, C, rfl, ⟨q, fun e => qx.1 e.symm, top_one q.2.1 (qx.2 na), by omega, hx, fun x hx => by cases hx⟩, np⟩
    rcases lb_ex2 Γ hc.2 (fun x hx => hn x (List.mem_cons_of_mem _ hx)) (by omega) with ih | ⟨Δ1, Γ0, b, b', B, C, e, ⟨l1, l2, l3, l4, l5, l6⟩, nb⟩
    · by_cases p : IS2 (fun _ => False) a
      · refine Or.inl (fun x hx => ?_)
        rcases List.mem_cons.mp hx with rfl | hx
        · exact p
        · exact ih x hx
      · obtain ⟨B, C, b', q, qx⟩ := pick.resolve_left p
        exact Or.inr (new B C b' p q qx (fun x hx => by
          obtain ⟨d, o1, -⟩ := okc_mch hc.2 hx
          exact IS2_none o1 (ih x hx)))
    · have old : IS2 (fun s => ∀ B' C', s = tAll B' C' → tch C' ≤ tch C) a → ∃ (Δ1 Γ0 : List Ty) (b b' B C : Ty), a :: Γ = cxs Δ1 Γ0 b ∧ LBd Γ0 Δ1 b b' B C ∧ ¬ IS2 (fun _ => False) b := by
        intro hi
        refine ⟨a :: Δ1, Γ0, b, b', B, C, by rw [e]; rfl, ⟨l1, l2, l3, l4, l5, fun x hx => ?_⟩, nb⟩
        rcases List.mem_cons.mp hx with rfl | hx
        · exact hi
        · exact l6 x hx
      by_cases p : IS2 (fun _ => False) a
      · exact Or.inr (old (IS2_none hc.1 p))
      · obtain ⟨B9, C9, b9, q, qx⟩ := pick.resolve_left p
        by_cases c : tch C9 ≤ tch C
        · exact Or.inr (old (IS2_body hc.1 q c))
        · refine Or.inr (new B9 C9 b9 p q qx (fun x hx => ?_))
          obtain ⟨d, o1, -⟩ := okc_mch hc.2 hx
          have hx' : x ∈ Δ1 ++ b :: Γ0 := by rw [e] at hx; exact hx
          rcases List.mem_append.mp hx' with hx' | hx'
          · exact IS2_up o1 (by omega) (l6 x hx')
          · rcases List.mem_cons.mp hx' with rfl | hx'
            · have ob : ok Γ0.length x = true := by
                have hc2 := hc.2
                rw [e] at hc2
                exact (okc_low Δ1 hc2).2
              exact IS2_body ob l1 (by omega)
            · exact IS2_up o1 (by omega) (l5 x hx')
theorem SPd_chD {σ : Ty} {D : Nat} : ∀ (d : Nat) (b : Ty), SPd σ d b → tch σ + 3 * d ≤ tch b
  | 0, b, h => by
    have h : b = σ := h
    rw [h]
    omega
  | d + 1, b, h => by
    rcases h with ⟨a, c, rfl, h⟩ | ⟨m, x, y, z, hm, rfl, h⟩
    · have := SPd_chD (D := D) d c h
      rw [tch_fun]
      omega
    · rw [tch_rec]
      rcases h with ⟨b0, h⟩ | ⟨b0, h⟩ | ⟨b0, h⟩
      · have := SPd_chD (D := D) d x h
        have := rch_three m hm 0 (by decide) b0
        omega
      · have := SPd_chD (D := D) d y h
        have := rch_three m hm 1 (by decide) b0
        omega
      · have := SPd_chD (D := D) d z h
        have := rch_three m hm 2 (by decide) b0
        omega
theorem mem_cch {a : Ty} : ∀ {Γ : List Ty}, a ∈ Γ → tch a + 4 ≤ cch Γ
  | b :: Γ, h => by
    have e : cch (b :: Γ) = (tch b + 4) + cch Γ := rfl
    rcases List.mem_cons.mp h with rfl | h
    · omega
    · have := mem_cch h
      omega
theorem ov_three {D : Nat} {b b' B C : Ty} (ds : DSp D (tAll B C) b' b) (ob : ok D b = true) (nf : ¬ IS2 (fun _ => False) b) (h2 : hd b ≠ 2) : tch (tAll B C) + 3 ≤ tch b := by
  rcases sp_ex _ b D (Nat.le_refl _) ob with i | ⟨d, B', C', sp, oσ'⟩
  · exact absurd i nf
  rcases IS2_sp d b sp ds.2.2.2.2 with q | ⟨o1, -, h5, -⟩
  · rw [q] at sp
    cases d with
    | zero =>
      have sp : b = tAll B C := sp
      rw [sp] at h2
      exact absurd (hd_all _ _) h2
    | succ d =>
      have q := SPd_chD (D := D) (d + 1) b sp
      omega
  · omega
theorem q05_of {Γ : List Ty} (h : ∀ a ∈ Γ, 1 ≤ tch a) : q05 (cch Γ) = true ∧ (cch Γ = 0 → Γ = []) := by
  cases Γ with
  | nil => exact ⟨rfl, fun _ => rfl⟩
  | cons a Γ =>
    have e : cch (a :: Γ) = (tch a + 4) + cch Γ := rfl
    have := h a List.mem_cons_self
    refine ⟨?_, fun q => by omega⟩
    unfold q05
    rw [Bool.or_eq_true]
    exact Or.inr (Nat.ble_eq_true_of_le (by omega))
theorem cz2_get {LR LG : LnT} {m c be k ov q1 q2 : Nat} (h : cz2 LR LG m c = true) (p1 : 1 ≤ be) (p2 : 1 ≤ k) (p3 : 3 ≤ ov) (o1 : q05 q1 = true) (o2 : q05 q2 = true) (nz : 1 ≤ q1 + q2) (ec : 8 + be + k + ov + q1 + q2 = c) (h47 : c ≤ 47) : (zyR LR be k ov q1 q2 && zyG LG be k ov q1 q2) = true ∨ ci2 m be k ov q1 q2 = true := by
  unfold cz2 at h
  have q := rng_all h (i := k) (by omega)
  rw [Bool.or_eq_true] at q
  rcases q with q | q
  · exact (blt_no p2 q).elim
  have q := rng_all q (i := be + ov) (by omega)
  rw [Bool.or_eq_true, Bool.or_eq_true] at q
  rcases q with q | q | q
  · exact (blt_no (by omega) q).elim
  · have := Nat.le_of_ble_eq_true q
    omega
  have q := rng_all q (i := q1) (by omega)
  rw [show c - 8 - k - (be + ov) - q1 = q2 by omega, o1, o2, Bool.or_eq_true, Bool.or_eq_true] at q
  rcases q with q | q | q
  · exact (blt_no (by omega) q).elim
  · cases q
  unfold cj2 at q
  rw [Bool.or_eq_true] at q
  rcases q with q | q
  · rw [Bool.and_eq_true] at q
    left
    rw [zc_R p1 p3 (by omega) q.1, zc_G p1 p3 (by omega) q.2]
    rfl
  · have q := rng_all q (i := be) (by omega)
    rw [Bool.or_eq_true] at q
    rcases q with q | q
    · exact (blt_no p1 q).elim
    · rw [show be + ov - be = ov by omega] at q
      exact Or.inr q
theorem cz2m_5 : ∀ (c : Nat), 31 ≤ c → c < 48 → cz2 j0R j0G 5 c = true := by
  intro c h1 h2
  rcases (show c = 31 ∨ c = 32 ∨ c = 33 ∨ c = 34 ∨ c = 35 ∨ c = 36 ∨ c = 37 ∨ c = 38 ∨ c = 39 ∨ c = 40 ∨ c = 41 ∨ c = 42 ∨ c = 43 ∨ c = 44 ∨ c = 45 ∨ c = 46 ∨ c = 47 by omega) with rfl | rfl | rfl | rfl | rfl | rfl | rfl | rfl | rfl | rfl | rfl | rfl | rfl | rfl | rfl | rfl | rfl
  · exact cz2_5_31
  · exact cz2_5_32
  · exact cz2_5_33
  · exact cz2_5_34
  · exact cz2_5_35
  · exact cz2_5_36
  · exact cz2_5_37
  · exact cz2_5_38
  · exact cz2_5_39
  · exact cz2_5_40
  · exact cz2_5_41
  · exact cz2_5_42
  · exact cz2_5_43
  · exact cz2_5_44
  · exact cz2_5_45
  · exact cz2_5_46
  · exact cz2_5_47
theorem cz2m_6 : ∀ (c : Nat), 20 ≤ c → c < 42 → cz2 j1R j1G 6 c = true := by
  intro c h1 h2
  rcases (show c = 20 ∨ c = 21 ∨ c = 22 ∨ c = 23 ∨ c = 24 ∨ c = 25 ∨ c = 26 ∨ c = 27 ∨ c = 28 ∨ c = 29 ∨ c = 30 ∨ c = 31 ∨ c = 32 ∨ c = 33 ∨ c = 34 ∨ c = 35 ∨ c = 36 ∨ c = 37 ∨ c = 38 ∨ c = 39 ∨ c = 40 ∨ c = 41 by omega) with rfl | rfl | rfl | rfl | rfl | rfl | rfl | rfl | rfl | rfl | rfl | rfl | rfl | rfl | rfl | rfl | rfl | rfl | rfl | rfl | rfl | rfl
  · exact cz2_6_20
  · exact cz2_6_21
  · exact cz2_6_22
  · exact cz2_6_23
  · exact cz2_6_24
  · exact cz2_6_25
  · exact cz2_6_26
  · exact cz2_6_27
  · exact cz2_6_28
  · exact cz2_6_29
  · exact cz2_6_30
  · exact cz2_6_31
  · exact cz2_6_32
  · exact cz2_6_33
  · exact cz2_6_34
  · exact cz2_6_35
  · exact cz2_6_36
  · exact cz2_6_37
  · exact cz2_6_38
  · exact cz2_6_39
  · exact cz2_6_40
  · exact cz2_6_41
def Ci2 (m be k ov q1 q2 : Nat) : Prop := az false m (8 + be + k + ov + q1 + q2) = true ∨ B12z false m be k ov q1 q2 = true ∨ (q1 < 10 ∧ q2 < 10 ∧ B6z false m be k ov q1 q2 = true) ∨ B11z m be k ov q1 q2 = true ∨ ex2 m be k ov q1 q2 = true
theorem ci2_of {m m' be k ov q1 q2 : Nat} (h5 : Nat.ble m' 5 = Nat.ble m 5) (h : ci2 m' be k ov q1 q2 = true) : Ci2 m be k ov q1 q2 := by
  have e2 : B12z false m' be k ov q1 q2 = B12z false m be k ov q1 q2 := by unfold B12z; rw [if_neg Bool.false_ne_true, if_neg Bool.false_ne_true, h5]
  have e3 : B6z false m' be k ov q1 q2 = B6z false m be k ov q1 q2 := by unfold B6z; rw [if_neg Bool.false_ne_true, if_neg Bool.false_ne_true, h5]
  have e4 : B11z m' be k ov q1 q2 = B11z m be k ov q1 q2 := by unfold B11z; rw [h5]
  have e5 : ex2 m' be k ov q1 q2 = ex2 m be k ov q1 q2 := by unfold ex2; rw [h5]
  unfold ci2 at h
  rw [e2, e3, e4, e5, Bool.or_eq_true, Bool.or_eq_true, Bool.or_eq_true, Bool.and_eq_true, Bool.and_eq_true] at h
  rcases h with h | h | h | h
  · exact Or.inr (Or.inl h)
  · exact Or.inr (Or.inr (Or.inl ⟨Nat.le_of_ble_eq_true h.1, Nat.le_of_ble_eq_true h.2.1, h.2.2⟩))
  · exact Or.inr (Or.inr (Or.inr (Or.inl h)))
  · exact Or.inr (Or.inr (Or.inr (Or.inr h)))
theorem ci2_num {m be k ov q1 q2 : Nat} (p1 : 1 ≤ be) (p2 : 1 ≤ k) (p3 : 3 ≤ ov) (o1 : q05 q1 = true) (o2 : q05 q2 = true) (nz : 1 ≤ q1 + q2) (m3 : 3 ≤ m) (h20 : 20 ≤ 8 + be + k + ov + q1 + q2) (h47 : 8 + be + k + ov + q1 + q2 ≤ 47) (hb : 8 + be + k + ov + q1 + q2 + 5 + 2 * m ≤ 58) : Ci2 m be k ov q1 q2 := by
  by_cases m5 : m ≤ 5
  · have e5 : Nat.ble m 5 = true := Nat.ble_eq_true_of_le m5
    by_cases c30 : 8 + be + k + ov + q1 + q2 ≤ 30
    · left
      unfold az
      rw [if_neg Bool.false_ne_true, Nat.ble_eq_true_of_le h20, Nat.ble_eq_true_of_le m3, e5, Nat.ble_eq_true_of_le c30]
      rfl
    rcases cz2_get (cz2m_5 _ (by omega) (by omega)) p1 p2 p3 o1 o2 nz rfl h47 with q | q
    · refine Or.inr (Or.inl ?_)
      unfold B12z
      rw [if_neg Bool.false_ne_true, if_pos e5]
      exact q
    · exact ci2_of (by rw [e5]; rfl) q
  · have e5 : Nat.ble m 5 = false := by
      cases q : Nat.ble m 5 with
      | false => rfl
      | true => exact absurd (Nat.le_of_ble_eq_true q) m5
    rcases cz2_get (cz2m_6 _ h20 (by omega)) p1 p2 p3 o1 o2 nz rfl h47 with q | q
    · refine Or.inr (Or.inl ?_)
      unfold B12z
      rw [if_neg Bool.false_ne_true, e5, if_neg Bool.false_ne_true]
      exact q
    · exact ci2_of (by rw [e5]; rfl) q
/-- what is left: one binder, or the designated scheme is a bound itself, or the list -/
def Lf2 (m : Nat) (Γ : List Ty) : Prop := ∃ (Δ1 Γ0 : List Ty) (b b' B C : Ty), Γ = cxs Δ1 Γ0 b ∧ LBd Γ0 Δ1 b b' B C ∧ ¬ IS2 (fun _ => False) b ∧ (hd b = 2 ∨ (Γ0 = [] ∧ Δ1 = []) ∨ ex2 m (tch B) (tch C) (tch b - tch (tAll B C)) (cch Γ0) (cch Δ1) = true)
theorem cov_w {f : Nat} {t : Ty} {Γ : List Ty} {Δ : List (Nat × Ty × Nat)} (he : TE Γ Δ) (na : ∀ a ∈ Γ, noal a = true) (nΔ : Δ ≠ []) (ch : CHo f t []) (h20 : 20 ≤ cch Γ) (h47 : cch Γ ≤ 47) (m3 : 3 ≤ mch (pee f t).2) (hb : cch Γ + dch Δ + 2 * mch (pee f t).2 ≤ 58) : AzT f t Γ Δ ∨ AzR f t Γ Δ ∨ AzH f t Γ Δ ∨ AzQ f t Γ Δ ∨ AzP f t Γ Δ ∨ Lf2 (mch (pee f t).2) Γ := by
  have ch' := pee_cho f t [] ch
  have d5 := dch_five he nΔ
  have eI : Δ.isEmpty = false := by
    cases Δ with
    | nil => exact absurd rfl nΔ
    | cons _ _ => rfl
  rcases lb_ex2 Γ he.1 na h47 with i | ⟨Δ1, Γ0, b, b', B, C, e, lb, nf⟩
  · exact Or.inr (Or.inr (Or.inr (Or.inr (Or.inl ⟨i, ch', m3, hb⟩))))
  by_cases h2 : hd b = 2
  · exact Or.inr (Or.inr (Or.inr (Or.inr (Or.inr ⟨Δ1, Γ0, b, b', B, C, e, lb, nf, Or.inl h2⟩))))
  by_cases h1 : Γ0 = [] ∧ Δ1 = []
  · exact Or.inr (Or.inr (Or.inr (Or.inr (Or.inr ⟨Δ1, Γ0, b, b', B, C, e, lb, nf, Or.inr (Or.inl h1)⟩))))
  have hc := he.1
  rw [e] at hc
  obtain ⟨oc0, ob⟩ := okc_low Δ1 hc
  have oσ := lb.1.2.1
  have pB := tch_pos (ok_all.mp oσ).1
  have pC := tch_pos (ok_all.mp oσ).2
  have eσ := tch_all B C
  have hov := ov_three lb.1 ob nf h2
  have ec := cch_cx (Γ0 := Γ0) (β := b) Δ1
  rw [← e] at ec
  have pos : ∀ a ∈ Γ, 1 ≤ tch a := fun a ha => by
    obtain ⟨d, o1, -⟩ := okc_mch he.1 ha
    exact tch_pos o1
  obtain ⟨o1, z1⟩ := q05_of (Γ := Γ0) (fun a ha => pos a (by rw [e]; unfold cxs; simp [ha]))
  obtain ⟨o2, z2⟩ := q05_of (Γ := Δ1) (fun a ha => pos a (by rw [e]; unfold cxs; simp [ha]))
  have nz : 1 ≤ cch Γ0 + cch Δ1 := by
    rcases Nat.eq_zero_or_pos (cch Γ0 + cch Δ1) with q | q
    · exact absurd ⟨z1 (by omega), z2 (by omega)⟩ h1
    · exact q
  generalize eo : tch b - tch (tAll B C) = ov at *
  have c1 : 8 + tch B + tch C + ov + cch Γ0 + cch Δ1 = cch Γ := by omega
  have q := ci2_num (m := mch (pee f t).2) pB pC (show 3 ≤ ov by omega) o1 o2 nz m3 (by omega) (by omega) (by omega)
  unfold Ci2 at q
  rw [c1] at q
  rcases q with q | q | q | q | q
  · exact Or.inl ⟨ch', by rw [eI]; exact q, hb⟩
  · exact Or.inr (Or.inl ⟨Δ1, Γ0, b, b', B, C, e, lb, ch', by rw [eI, eo]; exact q, m3, by omega, hb⟩)
  · refine Or.inr (Or.inr (Or.inl ⟨Δ1, Γ0, b, b', B, C, e, fun a ha h9 => ?_, lb, ch', by rw [eI, eo]; exact q.2.2, m3, by omega, hb⟩))
    have ha : a ∈ Δ1 ++ b :: Γ0 := ha
    have big : ∀ {D : Nat}, ok D a = true → 6 ≤ tch a := by
      intro D o
      rcases ok_cases o with rfl | ⟨j, hj, rfl⟩ | ⟨a', c', rfl, ha', hb'⟩ | ⟨a', c', rfl, ha', hb'⟩ | ⟨c', x, y, z, hm, rfl, h0, h1', h2'⟩
      · exact absurd h9 (by decide)
      · rw [hd_var] at h9
        omega
      · rw [hd_fun] at h9
        cases h9
      · have := tch_pos ha'
        have := tch_pos hb'
        rw [tch_all]
        omega
      · rw [hd_rec] at h9
        omega
    rcases List.mem_append.mp ha with ha' | ha'
    · have hΔ1 : tch a + 4 ≤ cch Δ1 := mem_cch ha'
      obtain ⟨d, o9, -⟩ := okc_mch he.1 (by rw [e]; exact ha)
      have := big o9
      omega
    · rcases List.mem_cons.mp ha' with rfl | ha'
      · exact h2 h9
      · have hΓ0 : tch a + 4 ≤ cch Γ0 := mem_cch ha'
        obtain ⟨d, o9, -⟩ := okc_mch he.1 (by rw [e]; exact ha)
        have := big o9
        omega
  · exact Or.inr (Or.inr (Or.inr (Or.inl ⟨Δ1, Γ0, b, b', B, C, e, nΔ, h2, lb, ch', by rw [eo]; exact q, m3, by omega, hb⟩)))
  · exact Or.inr (Or.inr (Or.inr (Or.inr (Or.inr ⟨Δ1, Γ0, b, b', B, C, e, lb, nf, Or.inr (Or.inr (by rw [eo]; exact q))⟩))))
def Cv5 (f : Nat) (x y : Ty) (Γ : List Ty) (Δ : List (Nat × Ty × Nat)) : Prop := Δ ≠ [] → (mch x ≤ mch y → CHo f x [] → Lf2 (mch (pee f x).2) Γ) ∧ (¬ mch x ≤ mch y → CHo f y [] → Lf2 (mch (pee f y).2) Γ)
theorem noac_mem : ∀ {Γ : List Ty}, noac Γ → ∀ a ∈ Γ, noal a = true
  | b :: Γ, h, a, ha => by
    rcases List.mem_cons.mp ha with rfl | ha
    · have q := (h Γ.length (by simp)).1
      have e : bnd (a :: Γ) Γ.length = a := by simp [bnd]
      rw [e] at q
      exact q
    · refine noac_mem (Γ := Γ) (fun k hk => ?_) a ha
      have q := h k (by rw [List.length_cons]; omega)
      have e : bnd (b :: Γ) k = bnd Γ k := by
        show (if k = Γ.length then b else bnd Γ k) = _
        rw [if_neg (by omega)]
      rw [e] at q
      exact q
def RESTE9 : Prop := ∀ (f : Nat) (x y : Ty) (Γ : List Ty) (Δ : List (Nat × Ty × Nat)), TWf f Γ.length (Δ.map (fun a => a.1)) x → TWf f Γ.length (Δ.map (fun a => a.1)) y → TE Γ Δ → NAt f x → NAt f y → noac Γ → (∀ a ∈ Δ, noal a.2.1 = true) → TNo f x → TNo f y → 3 ≤ mch x → 3 ≤ mch y → (mch x ≤ mch y → ¬ NOp f x) → (¬ mch x ≤ mch y → ¬ NOp f y) → 20 ≤ cch Γ → cch Γ ≤ 47 → cch Γ + dch Δ + (2 + (mch x + mch y)) ≤ 60 → NoO f x y Γ Δ → ¬ AzT f x Γ Δ → ¬ AzT f y Γ Δ → ¬ AzB f x Γ Δ → ¬ AzB f y Γ Δ → ¬ AzC f x Γ Δ → ¬ AzC f y Γ Δ → ¬ AzI f x Γ Δ → ¬ AzI f y Γ Δ → ¬ AzF f x Γ Δ → ¬ AzF f y Γ Δ → ¬ AzG f x Γ Δ → ¬ AzG f y Γ Δ → ¬ AzH f x Γ Δ → ¬ AzH f y Γ Δ → ¬ PrS f x y Γ Δ → ¬ AzK f x Γ Δ → ¬ AzK f y Γ Δ → ¬ AzL f x Γ Δ → ¬ AzL f y Γ Δ → ¬ AzM f x Γ Δ → ¬ AzM f y Γ Δ → ¬ PrG f x y Γ Δ → ¬ AzN f x Γ Δ → ¬ AzN f y Γ Δ → ¬ One9 Γ → ¬ AzO f x Γ Δ → ¬ AzO f y Γ Δ → ¬ AzP f x Γ Δ → ¬ AzP f y Γ Δ → ¬ AzQ f x Γ Δ → ¬ AzQ f y Γ Δ → ¬ AzR f x Γ Δ → ¬ AzR f y Γ Δ → ¬ AzS f x Γ Δ → ¬ AzS f y Γ Δ → Cv2 f x y Γ Δ → Cv4 f x y Γ Δ → Cv5 f x y Γ Δ → (¬ ((mch x ≤ mch y → CHo f x []) ∧ (¬ mch x ≤ mch y → CHo f y [])) ∨ LeftJ f x y Γ Δ) → PRn f x y Γ Δ
theorem restd9_of (R : RESTE9) : RESTD9 := by
  intro f x y Γ Δ x1 x2 he y1 y2 hv hd' tx ty m3 n3 no1 no2 h20 h47 hb ng ax ay bx bz cx cy dx dy ex ey gx gy ix iy jx kx ky lx ly mx my px qx qy ox ux uy vx vy wx wy zx zy sx sy c2 c4 hL
  by_cases p3 : 3 ≤ mch (pee f x).2
  rotate_left
  · have pm := (pee_ok f _ _ x x1).1.2
    exact pair_ntv x1 x2 he y1 y2 hv hd' (by omega) (Or.inl (pee_small x1 he (by omega) (by omega)))
  by_cases r3 : 3 ≤ mch (pee f y).2
  rotate_left
  · exact pair_ntv x1 x2 he y1 y2 hv hd' (by omega) (Or.inr (pee_small x2 he (by omega) (by omega)))
  have na : ∀ a ∈ Γ, noal a = true := noac_mem hv
  refine R f x y Γ Δ x1 x2 he y1 y2 hv hd' tx ty m3 n3 no1 no2 h20 h47 hb ng ax ay bx bz cx cy dx dy ex ey gx gy ix iy jx kx ky lx ly mx my px qx qy ox ux uy vx vy wx wy zx zy sx sy c2 c4 (fun nΔ => ⟨fun le ch => ?_, fun le ch => ?_⟩) hL
  · have pm := (pee_ok f _ _ x x1).1.2
    rcases cov_w he na nΔ ch h20 h47 p3 (by omega) with q | q | q | q | q | q
    · exact absurd q ax
    · exact absurd q zx
    · exact absurd q ix
    · exact absurd q wx
    · exact absurd q vx
    · exact q
  · have pm := (pee_ok f _ _ y x2).1.2
    rcases cov_w he na nΔ ch h20 h47 r3 (by omega) with q | q | q | q | q | q
    · exact absurd q ay
    · exact absurd q zy
    · exact absurd q iy
    · exact absurd q wy
    · exact absurd q vy
    · exact q
theorem pairn_pe (R : RESTE9) : PAIRn := pairn_pd (restd9_of R)
