/-! RESTY9: the bound [], functions and records. -/
theorem long9 {f : Nat} {x y t : Ty} {Γ : List Ty} {Δ : List (Nat × Ty × Nat)} {Δ1 Γ0 : List Ty} {B C : Ty} (H : H9 f x y Γ Δ) (sh : Sh9 x y t) (ch : CHo f t []) (e : Γ = cxs Δ1 Γ0 (tAll B C)) (lb : LBd Γ0 Δ1 (tAll B C) tTop B C) (nD : Δ ≠ []) (hx : exl false (mch (pee f t).2) (tch B) (tch C) (cch Γ0) (cch Δ1) = true) (h3 : 6 ≤ mch (pee f t).2 ∨ 1 ≤ cch Δ1) (b2 : 2 ≤ tch B) (nk : ndk (cch Γ0) (cch Δ1) = false) (c37 : 37 ≤ cch Γ) (cf : CFt f t) (hB : ¬ (CFt f x ∧ CFt f y) ∨ B7z (tch B) (tch C) (cch Γ0) (cch Δ1) = false) (rx : rx9 (tch B) (tch C) (cch Γ0) (cch Δ1) (mch t) (mch x + mch y - mch t) = false) (nH : exH (tch B) (tch C) (cch Γ0) (cch Δ1) (mch t) (mch x + mch y - mch t) = false) (nI : exI (tch B) (tch C) (cch Γ0) (cch Δ1) (mch t) (mch x + mch y - mch t) = false) : PRn f x y Γ Δ := by
  have H' := H
  obtain ⟨hx9, hy9, ⟨he, hv, hd', h20, h47, -⟩, hb, -⟩ := H'
  obtain ⟨⟨wt, nt, tt, m3', m3, n9⟩, pm, hbt⟩ := h9_t H sh
  have d5 := dch_five he nD
  have ec : cch Γ = 8 + tch B + tch C + cch Γ0 + cch Δ1 := by
    have q := cch_cx (Γ0 := Γ0) (β := tAll B C) Δ1
    have q2 := tch_all B C
    rw [e]
    omega
  have hc := he.1
  rw [e] at hc
  have n3 := no3_f hc
  have q38 : cch Δ1 ≤ 38 := by omega
  have tl : mch t ≤ mch x + mch y - mch t ∧ cch Γ + dch Δ + 2 + mch t + (mch x + mch y - mch t) ≤ 60 ∧ mch (pee f t).2 ≤ mch t := by
    refine ⟨?_, ?_, pm⟩
    · rcases sh with ⟨rfl, h⟩ | ⟨rfl, h⟩ <;> omega
    · rcases sh with ⟨rfl, h⟩ | ⟨rfl, h⟩ <;> omega
  generalize eo : mch x + mch y - mch t = mo at *
  have fin : ∀ q : Bool, caB q (tch B, tch C, cch Γ0, cch Δ1) = true → (if q then 3 else 6) ≤ mch t → (q = true → 1 ≤ cch Δ1) → (q = false → 6 ≤ mch (pee f t).2) → PRn f x y Γ Δ := by
    intro q z hm h1 h6
    unfold caB at z
    rw [Bool.or_eq_true, Bool.or_eq_true, Bool.or_eq_true, Bool.or_eq_true, Bool.or_eq_true, Bool.and_eq_true] at z
    rcases z with z | z | z | z | z | z
    · exact (blt_no (show 37 ≤ 8 + tch B + tch C + cch Γ0 + cch Δ1 by omega) z).elim
    · exact (blt_no b2 z).elim
    · have z : no3 (tch B) (tch C) (cch Γ0) (cch Δ1) = true := z
      rw [n3] at z
      cases z
    · have z0 := h1 z.1
      have z2 : cch Δ1 = 0 := Nat.eq_of_beq_eq_true z.2
      omega
    · have z : ndk (cch Γ0) (cch Δ1) = true := z
      rw [nk] at z
      cases z
    have z := rng_all z (i := mch t) (by omega)
    rw [Bool.or_eq_true, Bool.or_eq_true] at z
    rcases z with z | z | z
    · exact (blt_no hm z).elim
    · exact (blt_no (show 8 + tch B + tch C + cch Γ0 + cch Δ1 + 2 * mch t ≤ 53 by omega) z).elim
    have z := rng_all z (i := mo) (by omega)
    rw [Bool.or_eq_true, Bool.or_eq_true, Bool.or_eq_true, Bool.and_eq_true, Bool.or_eq_true] at z
    rcases z with z | z | ⟨z1, z2⟩ | z
    · exact (blt_no tl.1 z).elim
    · exact (blt_no (show 8 + tch B + tch C + cch Γ0 + cch Δ1 + mch t + mo ≤ 53 by omega) z).elim
    rotate_left
    · have z : rx9 (tch B) (tch C) (cch Γ0) (cch Δ1) (mch t) mo = true := z
      rw [rx] at z
      cases z
    by_cases both : CFt f x ∧ CFt f y
    · have b7 := hB.resolve_left (fun n => n both)
      rw [Bool.or_eq_true, Bool.and_eq_true, Bool.or_eq_true, Bool.and_eq_true, Bool.and_eq_true, Bool.and_eq_true, Bool.or_eq_true] at z2
      rcases z2 with ⟨z2, -⟩ | ⟨zq, z6, z2⟩ | z2
      · have z2 : B7z (tch B) (tch C) (cch Γ0) (cch Δ1) = true := z2
        rw [b7] at z2
        cases z2
      · have eq : q = false := by
          cases q with
          | false => rfl
          | true => cases zq
        have m6 := h6 eq
        have t6 : mch t = 6 := Nat.eq_of_beq_eq_true z6
        have m66 : mch (pee f t).2 = 6 := by omega
        rcases z2 with z2 | z2
        · exact o9_pair H sh ch e lb (fl := false) (fun q => by cases q) oP9_ok (by rw [m66]; exact z2) (Or.inr ⟨rfl, nD⟩) (by omega) q38
        · exact o9_pair H sh ch e lb (fl := false) (fun q => by cases q) oQ9_ok (by rw [m66]; exact z2) (Or.inr ⟨rfl, nD⟩) (by omega) q38
      · exact absurd (show exI (tch B) (tch C) (cch Γ0) (cch Δ1) (mch t) mo = true from z2) (by rw [nI]; exact Bool.false_ne_true)
    · rcases z1 with z1 | z1
      rotate_left
      · exact absurd (show exH (tch B) (tch C) (cch Γ0) (cch Δ1) (mch t) mo = true from z1) (by rw [nH]; exact Bool.false_ne_true)
      unfold ubx at z1
      rw [Bool.and_eq_true, Bool.and_eq_true] at z1
      obtain ⟨z1, z9, z1'⟩ := z1
      have z1 := Nat.le_of_ble_eq_true z1
      have z9 : 58 - (8 + tch B + tch C + cch Γ0 + cch Δ1) - mch t - mo ≤ 9 := Nat.le_of_ble_eq_true z9
      rcases sh with ⟨rfl, hs⟩ | ⟨rfl, hs⟩
      · exact pair_ntv hx9.1 hy9.1 he hx9.2.1 hy9.2.1 hv hd' (by omega) (Or.inr (u9_ntv hy9 he h47 nD z9 (by omega) e lb q38 (fun q => both ⟨cf, q⟩) (by omega) z1 z1'))
      · exact pair_ntv hx9.1 hy9.1 he hx9.2.1 hy9.2.1 hv hd' (by omega) (Or.inl (u9_ntv hx9 he h47 nD z9 (by omega) e lb q38 (fun q => both ⟨q, cf⟩) (by omega) z1 z1'))
  have hx1 := hx
  unfold exl at hx1
  rw [if_neg Bool.false_ne_true] at hx1
  by_cases m5 : mch (pee f t).2 ≤ 5
  · rw [if_pos (Nat.ble_eq_true_of_le m5)] at hx1
    exact fin true (mem4_p (caB_t (by omega)) hx1) m3' (fun _ => h3.resolve_left (by omega)) (fun q => by cases q)
  · rw [if_neg (fun q => m5 (Nat.le_of_ble_eq_true q))] at hx1
    exact fin false (mem4_p (caB_f (by omega)) hx1) (by show 6 ≤ mch t; omega) (fun q => by cases q) (fun _ => by omega)
theorem exH_k {be k q1 q2 mt mo : Nat} (h : exH be k q1 q2 mt mo = true) : k ≤ 22 := by
  by_cases a : Nat.beq k 18 = true
  · have := Nat.eq_of_beq_eq_true a; omega
  by_cases b : Nat.beq k 19 = true
  · have := Nat.eq_of_beq_eq_true b; omega
  by_cases c : Nat.beq k 22 = true
  · have := Nat.eq_of_beq_eq_true c; omega
  exfalso
  rw [Bool.not_eq_true] at a b c
  unfold exH at h
  rw [a, b, c] at h
  simp at h
theorem exI_b {be k q1 q2 mt mo : Nat} (h : exI be k q1 q2 mt mo = true) : be = 4 := by
  unfold exI at h
  rw [Bool.and_eq_true] at h
  exact Nat.eq_of_beq_eq_true h.1
theorem lx9_c {m be k q1 q2 : Nat} (m5 : m ≤ 5) (q21 : 1 ≤ q2) (h : lx9 false m be k q1 q2 = true) : be = 2 ∧ q1 = 0 ∧ ((k = 24 ∧ q2 = 9) ∨ (k = 24 ∧ q2 = 13) ∨ (k = 28 ∧ q2 = 9) ∨ (k = 32 ∧ q2 = 5)) := by
  unfold lx9 at h
  rw [Bool.and_eq_true, if_pos (Nat.ble_eq_true_of_le m5)] at h
  have h := h.2
  unfold mem4 at h
  obtain ⟨a, ha, q⟩ := List.any_eq_true.mp h
  rw [Bool.and_eq_true, Bool.and_eq_true, Bool.and_eq_true] at q
  have e1 := Nat.eq_of_beq_eq_true q.1
  have e2 := Nat.eq_of_beq_eq_true q.2.1
  have e3 := Nat.eq_of_beq_eq_true q.2.2.1
  have e4 := Nat.eq_of_beq_eq_true q.2.2.2
  subst e1; subst e2; subst e3; subst e4
  simp only [List.mem_cons, List.not_mem_nil, or_false] at ha
  rcases ha with rfl | rfl | rfl | rfl | rfl
  · exact ⟨rfl, rfl, Or.inl ⟨rfl, rfl⟩⟩
  · exact ⟨rfl, rfl, Or.inr (Or.inl ⟨rfl, rfl⟩)⟩
  · exact ⟨rfl, rfl, Or.inr (Or.inr (Or.inl ⟨rfl, rfl⟩))⟩
  · exact ⟨rfl, rfl, Or.inr (Or.inr (Or.inr ⟨rfl, rfl⟩))⟩
  · exact absurd q21 (by decide)
def W9q (m : Nat) (e : Bool) (Γ : List Ty) : Prop := e = false ∧ (ExA Γ ∨ (∃ C : Ty, Γ = [tAll tR0 C] ∧ LBd [] [] (tAll tR0 C) tTop tR0 C ∧ sN tR0 0 1 C = true ∧ m = 7 ∧ (tch C = 28 ∨ tch C = 29) ∧ hd C = 2 ∧ ¬ OVq 1 tR0 C Dsm []) ∨ (∃ (Δ1 Γ0 : List Ty) (b b' B C : Ty), Γ = cxs Δ1 Γ0 b ∧ LBd Γ0 Δ1 b b' B C ∧ ¬ IS2 (fun _ => False) b ∧ hd b ≠ 2 ∧ 1 ≤ cch Γ0 + cch Δ1 ∧ exK m (tch B) (tch C) (tch b - tch (tAll B C)) (cch Γ0) (cch Δ1) = true))
def V9b (f : Nat) (x y t : Ty) (m : Nat) (e : Bool) (Γ : List Ty) : Prop := ∃ (Δ1 Γ0 : List Ty) (B C : Ty), Γ = cxs Δ1 Γ0 (tAll B C) ∧ LBd Γ0 Δ1 (tAll B C) tTop B C ∧ 1 ≤ cch Γ0 + cch Δ1 ∧ exl e m (tch B) (tch C) (cch Γ0) (cch Δ1) = true ∧ e = false ∧ (6 ≤ m ∨ 1 ≤ cch Δ1) ∧ 2 ≤ tch B ∧ ((sN B Γ0.length (Γ0.length + 1) C = true ∧ (m ≤ 5 ∧ lx9 e m (tch B) (tch C) (cch Γ0) (cch Δ1) = true) ∧ hd C = 2 ∧ ¬ OVq 1 B C Dsm Γ0) ∨ (OVq 1 B C Dsm Γ0 ∧ ndk (cch Γ0) (cch Δ1) = false ∧ ((¬ CFt f t ∧ exG (tch B) (tch C) (cch Γ0) (cch Δ1) m = true ∧ ∃ o, (o = x ∨ o = y) ∧ mch t + mch o = mch x + mch y ∧ (CFt f o → rx9 (tch B) (tch C) (cch Γ0) (cch Δ1) (mch o) (mch t) = false)) ∨ (CFt f t ∧ ¬ (CFt f x ∧ CFt f y) ∧ exH (tch B) (tch C) (cch Γ0) (cch Δ1) (mch t) (mch x + mch y - mch t) = true) ∨ ((CFt f x ∧ CFt f y) ∧ exI (tch B) (tch C) (cch Γ0) (cch Δ1) (mch t) (mch x + mch y - mch t) = true))))
def RESTY9 : Prop := ∀ (f : Nat) (x y : Ty) (Γ : List Ty) (Δ : List (Nat × Ty × Nat)) (t : Ty), H9 f x y Γ Δ → Sh9 x y t → (¬ CHo f t [] ∨ (CHo f t [] ∧ (W9q (mch (pee f t).2) Δ.isEmpty Γ ∨ V9b f x y t (mch (pee f t).2) Δ.isEmpty Γ))) → PRn f x y Γ Δ
theorem restX9_of (R : RESTY9) : RESTX9 := by
  intro f x y Γ Δ t H sh h
  rcases h with h | ⟨ch, h | h⟩
  · exact R f x y Γ Δ t H sh (Or.inl h)
  · have H' := H
    obtain ⟨hx9, hy9, ⟨he, hv, hd', h20, h47, -⟩, hb, ng, -⟩ := H'
    obtain ⟨⟨wt, nt, tt, m3', m3, n9⟩, pm, hbt⟩ := h9_t H sh
    obtain ⟨eI, h⟩ := h
    have nD : Δ ≠ [] := fun q => by rw [q] at eI; cases eI
    rcases h with h | ⟨C, eΓ, lb, fl, m7, hk⟩ | h
    · exact R f x y Γ Δ t H sh (Or.inr ⟨ch, Or.inl ⟨eI, Or.inl h⟩⟩)
    · have eΓ' : Γ = cxs [] [] (tAll tR0 C) := eΓ
      have nov : ¬ OVq 1 tR0 C Dsm [] := ng.2 [] [] tR0 C eΓ' (by decide +kernel)
      by_cases h2 : hd C = 2
      · exact R f x y Γ Δ t H sh (Or.inr ⟨ch, Or.inl ⟨eI, Or.inr (Or.inl ⟨C, eΓ, lb, fl, m7, hk, h2, nov⟩)⟩⟩)
      have ec : cch Γ = 10 + tch C := by
        rw [eΓ]
        show (tch (tAll tR0 C) + 4) + 0 = _
        rw [tch_all]
        have : tch tR0 = 2 := rfl
        omega
      refine q9_pair H sh ch eΓ' lb.2.2.2.1 (by omega) h2 nov nD ?_ (by omega) (by omega) (Nat.zero_le _)
      rw [m7]
      rcases hk with hk | hk <;> rw [hk] <;> decide +kernel
    · exact R f x y Γ Δ t H sh (Or.inr ⟨ch, Or.inl ⟨eI, Or.inr (Or.inr h)⟩⟩)
  obtain ⟨Δ1, Γ0, B, C, e, lb, nz, hx, eI, h3, b2, h4⟩ := h
  have keep := fun q => R f x y Γ Δ t H sh (Or.inr ⟨ch, Or.inr ⟨Δ1, Γ0, B, C, e, lb, nz, hx, eI, h3, b2, q⟩⟩)
  rcases h4 with ⟨fl, m5, hl⟩ | h4
  rotate_left
  · exact keep (Or.inr h4)
  have H' := H
  obtain ⟨hx9, hy9, ⟨he, hv, hd', h20, h47, -⟩, hb, ng, nPS, -⟩ := H'
  obtain ⟨⟨wt, nt, tt, m3', m3, n9⟩, pm, hbt⟩ := h9_t H sh
  have nD : Δ ≠ [] := fun q => by rw [q] at eI; cases eI
  have d5 := dch_five he nD
  have q21 : 1 ≤ cch Δ1 := h3.resolve_left (by omega)
  have ec : cch Γ = 8 + tch B + tch C + cch Γ0 + cch Δ1 := by
    have q := cch_cx (Γ0 := Γ0) (β := tAll B C) Δ1
    have q2 := tch_all B C
    rw [e]
    omega
  have hl' := hl
  rw [eI] at hl' hx
  obtain ⟨e2, z0, hk⟩ := lx9_c m5 q21 hl'
  have k40 := lb.2.2.2.1
  by_cases ov : OVq 1 B C Dsm Γ0
  · by_cases nk : ndk (cch Γ0) (cch Δ1) = true
    · exact absurd ov (ng.2 Δ1 Γ0 B C e nk)
    rw [Bool.not_eq_true] at nk
    by_cases cf : CFt f t
    rotate_left
    · have w' := (pee_ok f _ _ t wt).1.1
      obtain ⟨a, b, c, q, -, q1, q2⟩ := chr_min _ _ _ _ w'
      have b3 : 3 ≤ b := q1.resolve_left (fun c => cf (cf_pee f t c))
      exact h9_ntv H sh (NtV_pee f t wt he (ntv_nop w' he (q2.resolve_right (by omega)) (by omega)))
    have tl : mch t ≤ mch x + mch y := by
      rcases sh with ⟨rfl, -⟩ | ⟨rfl, -⟩ <;> omega
    cases hz : rx9 (tch B) (tch C) (cch Γ0) (cch Δ1) (mch t) (mch x + mch y - mch t) with
    | true => exact pair_xm H sh e ov nD cf b2 k40 (by omega) hz
    | false =>
      have nH : exH (tch B) (tch C) (cch Γ0) (cch Δ1) (mch t) (mch x + mch y - mch t) = false := by
        rw [← Bool.not_eq_true]
        intro q
        have := exH_k q
        omega
      have nI : exI (tch B) (tch C) (cch Γ0) (cch Δ1) (mch t) (mch x + mch y - mch t) = false := by
        rw [← Bool.not_eq_true]
        intro q
        have := exI_b q
        omega
      have hB : ¬ (CFt f x ∧ CFt f y) ∨ B7z (tch B) (tch C) (cch Γ0) (cch Δ1) = false := by
        by_cases c2 : CFt f x ∧ CFt f y
        rotate_left
        · exact Or.inl c2
        right
        rw [← Bool.not_eq_true]
        intro h7
        have mx3 := hx9.2.2.2.1
        have my3 := hy9.2.2.2.1
        exact nPS ⟨Δ1, Γ0, B, C, e, ov, c2.1, c2.2, b2, k40, by omega, h7, by omega, by omega, fun q => absurd q nD⟩
      exact long9 H sh ch e lb nD hx h3 b2 nk (by omega) cf hB hz nH nI
  by_cases h2 : hd C = 2
  · exact keep (Or.inl ⟨fl, ⟨m5, hl⟩, h2, ov⟩)
  have hc := he.1
  rw [e] at hc
  obtain ⟨oc0, ob⟩ := okc_low Δ1 hc
  have eB := two_rec (ok_all.mp ob).1 e2
  have pos : ∀ a ∈ Γ0, 1 ≤ tch a := fun a ha => by
    obtain ⟨d, o1, -⟩ := okc_mch oc0 ha
    exact tch_pos o1
  have g0 := (q05_of pos).2 z0
  subst g0
  subst eB
  have z2 : tch tR0 = 2 := rfl
  have z00 : cch ([] : List Ty) = 0 := rfl
  refine q9_pair H sh ch e k40 (by omega) h2 ov nD ?_ (by omega) (by omega) (by omega)
  rcases hk with ⟨k1, k2⟩ | ⟨k1, k2⟩ | ⟨k1, k2⟩ | ⟨k1, k2⟩
  · have m345 : mch (pee f t).2 = 3 ∨ mch (pee f t).2 = 4 ∨ mch (pee f t).2 = 5 := by omega
    rw [k1, k2]
    rcases m345 with q | q | q <;> rw [q] <;> decide +kernel
  · have q : mch (pee f t).2 = 3 := by omega
    rw [k1, k2, q]; decide +kernel
  · have q : mch (pee f t).2 = 3 := by omega
    rw [k1, k2, q]; decide +kernel
  · have q : mch (pee f t).2 = 3 := by omega
    rw [k1, k2, q]; decide +kernel
theorem pairn_py (R : RESTY9) : PAIRn := pairn_px (restX9_of R)
