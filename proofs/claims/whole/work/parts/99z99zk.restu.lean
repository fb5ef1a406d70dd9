/-! RESTU9: contexts without ndk. -/
def V9a (f : Nat) (x y t : Ty) (m : Nat) (e : Bool) (Γ : List Ty) : Prop := ∃ (Δ1 Γ0 : List Ty) (B C : Ty), Γ = cxs Δ1 Γ0 (tAll B C) ∧ LBd Γ0 Δ1 (tAll B C) tTop B C ∧ 1 ≤ cch Γ0 + cch Δ1 ∧ exl e m (tch B) (tch C) (cch Γ0) (cch Δ1) = true ∧ e = false ∧ (6 ≤ m ∨ 1 ≤ cch Δ1) ∧ 2 ≤ tch B ∧ ((sN B Γ0.length (Γ0.length + 1) C = true ∧ (m ≤ 5 ∧ lx9 e m (tch B) (tch C) (cch Γ0) (cch Δ1) = true)) ∨ (OVq 1 B C Dsm Γ0 ∧ ndk (cch Γ0) (cch Δ1) = false ∧ ((¬ CFt f t ∧ exG (tch B) (tch C) (cch Γ0) (cch Δ1) m = true ∧ ∃ o, (o = x ∨ o = y) ∧ mch t + mch o = mch x + mch y ∧ (CFt f o → rx9 (tch B) (tch C) (cch Γ0) (cch Δ1) (mch o) (mch t) = false)) ∨ (CFt f t ∧ ¬ (CFt f x ∧ CFt f y) ∧ exH (tch B) (tch C) (cch Γ0) (cch Δ1) (mch t) (mch x + mch y - mch t) = true) ∨ ((CFt f x ∧ CFt f y) ∧ exI (tch B) (tch C) (cch Γ0) (cch Δ1) (mch t) (mch x + mch y - mch t) = true))))
def RESTU9 : Prop := ∀ (f : Nat) (x y : Ty) (Γ : List Ty) (Δ : List (Nat × Ty × Nat)) (t : Ty), H9 f x y Γ Δ → Sh9 x y t → (¬ CHo f t [] ∨ (CHo f t [] ∧ (W9d (mch (pee f t).2) Δ.isEmpty Γ ∨ V9a f x y t (mch (pee f t).2) Δ.isEmpty Γ))) → PRn f x y Γ Δ
theorem cch_n7 : ∀ {Γ : List Ty}, (∀ a ∈ Γ, ∃ d, ok d a = true) → cch Γ ≠ 7
  | [], _, h => by cases h
  | b :: Γ, hp, h => by
    have h : (tch b + 4) + cch Γ = 7 := h
    obtain ⟨d, o⟩ := hp b (List.mem_cons_self ..)
    have n3 := tch_three o
    have p := tch_pos o
    cases Γ with
    | nil =>
      have e : cch [] = 0 := rfl
      omega
    | cons c Γ =>
      obtain ⟨d', o'⟩ := hp c (List.mem_cons_of_mem _ (List.mem_cons_self ..))
      have p' := tch_pos o'
      have e : cch (c :: Γ) = (tch c + 4) + cch Γ := rfl
      omega
theorem no3_f {Δ1 Γ0 : List Ty} {B C : Ty} (hc : okc (cxs Δ1 Γ0 (tAll B C))) : no3 (tch B) (tch C) (cch Γ0) (cch Δ1) = false := by
  obtain ⟨oc0, ob⟩ := okc_low Δ1 hc
  have n1 := tch_three (ok_all.mp ob).1
  have n2 := tch_three (ok_all.mp ob).2
  have n3 := cch_n7 (Γ := Γ0) (fun a ha => by obtain ⟨d, o, -⟩ := okc_mch oc0 ha; exact ⟨d, o⟩)
  have n4 := cch_n7 (Γ := Δ1) (fun a ha => by obtain ⟨d, o, -⟩ := okc_top Δ1 hc a ha; exact ⟨d, o⟩)
  cases q : no3 (tch B) (tch C) (cch Γ0) (cch Δ1) with
  | false => rfl
  | true =>
    unfold no3 at q
    rw [Bool.or_eq_true, Bool.or_eq_true, Bool.or_eq_true] at q
    rcases q with q | q | q | q
    · exact absurd (Nat.eq_of_beq_eq_true q) n1
    · exact absurd (Nat.eq_of_beq_eq_true q) n2
    · exact absurd (Nat.eq_of_beq_eq_true q) n3
    · exact absurd (Nat.eq_of_beq_eq_true q) n4
theorem getD_all {α : Type} {E : List (List α)} {p : α → Bool} (h : E.all (fun l => l.all p) = true) (c : Nat) : (E.getD c []).all p = true := by
  by_cases hc : c < E.length
  · rw [List.getD_eq_getElem?_getD, List.getElem?_eq_getElem hc]
    exact List.all_eq_true.mp h _ (List.getElem_mem hc)
  · rw [List.getD_eq_getElem?_getD, List.getElem?_eq_none (by omega)]
    rfl
theorem mem4_p {l : List (Nat × Nat × Nat × Nat)} {be k q1 q2 : Nat} {p : Nat × Nat × Nat × Nat → Bool} (h : l.all p = true) (m : mem4 l be k q1 q2 = true) : p (be, k, q1, q2) = true := by
  unfold mem4 at m
  obtain ⟨a, ha, q⟩ := List.any_eq_true.mp m
  rw [Bool.and_eq_true, Bool.and_eq_true, Bool.and_eq_true] at q
  have e1 := Nat.eq_of_beq_eq_true q.1
  have e2 := Nat.eq_of_beq_eq_true q.2.1
  have e3 := Nat.eq_of_beq_eq_true q.2.2.1
  have e4 := Nat.eq_of_beq_eq_true q.2.2.2
  subst e1; subst e2; subst e3; subst e4
  exact List.all_eq_true.mp h a ha
theorem caB_t {c : Nat} (h : c < 48) : (eL0.getD c []).all (caB true) = true := by
  have go : ∀ a b, caBr true a b = true → a ≤ c → c < b → (eL0.getD c []).all (caB true) = true := by
    intro a b z ha hb
    have q := rng_all z (i := c) hb
    rw [Bool.or_eq_true] at q
    exact q.resolve_left (fun q => (blt_no ha q).elim)
  by_cases h1 : c < 43
  · exact go _ _ caB_t43 (Nat.zero_le _) h1
  by_cases h2 : c < 45
  · exact go _ _ caB_t45 (by omega) h2
  by_cases h3 : c < 46
  · exact go _ _ caB_t46 (by omega) h3
  by_cases h4 : c < 47
  · exact go _ _ caB_t47 (by omega) h4
  · exact go _ _ caB_t48 (by omega) h
theorem caB_f {c : Nat} (h : c < 48) : (eL1.getD c []).all (caB false) = true := by
  have go : ∀ a b, caBr false a b = true → a ≤ c → c < b → (eL1.getD c []).all (caB false) = true := by
    intro a b z ha hb
    have q := rng_all z (i := c) hb
    rw [Bool.or_eq_true] at q
    exact q.resolve_left (fun q => (blt_no ha q).elim)
  by_cases h1 : c < 38
  · exact go _ _ caB_f38 (Nat.zero_le _) h1
  by_cases h2 : c < 39
  · exact go _ _ caB_f39 (by omega) h2
  by_cases h3 : c < 40
  · exact go _ _ caB_f40 (by omega) h3
  · exact go _ _ caB_f48 (by omega) h
/-- the long term by U -/
theorem u9_ntv {f : Nat} {o : Ty} {Γ : List Ty} {Δ : List (Nat × Ty × Nat)} {Δ1 Γ0 : List Ty} {B C : Ty} {mo cd : Nat} (ha : H9a f o Γ Δ) (he : TE Γ Δ) (h47 : cch Γ ≤ 47) (nD : Δ ≠ []) (d9 : cd ≤ 9) (hd : dch Δ ≤ cd) (eΓ : Γ = cxs Δ1 Γ0 (tAll B C)) (lb : LBd Γ0 Δ1 (tAll B C) tTop B C) (q38 : cch Δ1 ≤ 38) (nc : ¬ CFt f o) (hm : mch o ≤ mo) (m7 : mo ≤ 7) (hz : (List.range (mo + 1)).all (fun n => Nat.blt n 5 || hasU9 (tch B) (tch C) (cch Γ0) (cch Δ1) n cd) = true) : NtV Γ Δ f o 887 597 := by
  obtain ⟨wt, nt, tt, m3', m3, n9⟩ := ha
  obtain ⟨⟨w', l⟩, -, tn, -, -⟩ := pee_ok f _ _ o wt
  obtain ⟨a, ea⟩ := dch_one he nD (by omega)
  have nc' : ¬ CFt (pee f o).1 (pee f o).2 := fun q => nc (cf_pee f o q)
  have w5 := w'
  rw [ea] at w5
  have five := ((chr_one _ _ _ _ w5 (tn tt)).1).resolve_left nc'
  have ch := (ch_eight w').resolve_right (by omega)
  have q := rng_all hz (i := mch (pee f o).2) (by omega)
  rw [Bool.or_eq_true] at q
  have q := q.resolve_left (fun q => (blt_no five q).elim)
  refine NtV_pee f o wt he ?_
  subst eΓ
  exact nat_u9 lb w' he nD (by rw [ea]; exact Nat.le_refl _) (tn tt) nc' (by omega) ch q h47 q38 hd
theorem restT9_of (R : RESTU9) : RESTT9 := by
  intro f x y Γ Δ t H sh h
  rcases h with h | ⟨ch, h | h⟩
  · exact R f x y Γ Δ t H sh (Or.inl h)
  · exact R f x y Γ Δ t H sh (Or.inr ⟨ch, Or.inl h⟩)
  obtain ⟨Δ1, Γ0, B, C, e, lb, nz, hx, eI, h3, b2, h4⟩ := h
  have keep := fun q => R f x y Γ Δ t H sh (Or.inr ⟨ch, Or.inr ⟨Δ1, Γ0, B, C, e, lb, nz, hx, eI, h3, b2, q⟩⟩)
  rcases h4 with h4 | ⟨ov, nk, h4⟩
  · exact keep (Or.inl h4)
  have keep4 := fun q => keep (Or.inr ⟨ov, nk, q⟩)
  have H' := H
  obtain ⟨hx9, hy9, ⟨he, hv, hd', h20, h47, -⟩, hb, -⟩ := H'
  obtain ⟨⟨wt, nt, tt, m3', m3, n9⟩, pm, hbt⟩ := h9_t H sh
  have nD : Δ ≠ [] := fun q => by rw [q] at eI; cases eI
  have d5 := dch_five he nD
  have ec : cch Γ = 8 + tch B + tch C + cch Γ0 + cch Δ1 := by
    have q := cch_cx (Γ0 := Γ0) (β := tAll B C) Δ1
    have q2 := tch_all B C
    rw [e]
    omega
  have hc := he.1
  rw [e] at hc
  have n3 := no3_f hc
  rw [eI] at hx
  -- small contexts
  by_cases c37 : 37 ≤ cch Γ
  rotate_left
  · unfold exl at hx
    rw [if_neg Bool.false_ne_true] at hx
    by_cases m5 : mch (pee f t).2 ≤ 5
    · exfalso
      rw [if_pos (Nat.ble_eq_true_of_le m5)] at hx
      have z := mem4_p (getD_all sm_0 _) hx
      rw [Bool.or_eq_true, Bool.or_eq_true] at z
      rcases z with z | z | z
      · exact (blt_no b2 z).elim
      · have z : ndk (cch Γ0) (cch Δ1) = true := z
        rw [nk] at z
        cases z
      · have z : 37 ≤ 8 + tch B + tch C + cch Γ0 + cch Δ1 := Nat.le_of_ble_eq_true z
        omega
    · rw [if_neg (fun q => m5 (Nat.le_of_ble_eq_true q))] at hx
      have z := mem4_p (getD_all sm_1 _) hx
      rw [Bool.or_eq_true, Bool.or_eq_true, Bool.or_eq_true, Bool.and_eq_true, Bool.or_eq_true, Bool.and_eq_true, Bool.and_eq_true, Bool.and_eq_true, Bool.and_eq_true, Bool.and_eq_true, Bool.and_eq_true] at z
      rcases z with z | z | z | ⟨z0, z⟩
      · exact (blt_no b2 z).elim
      · have z : ndk (cch Γ0) (cch Δ1) = true := z
        rw [nk] at z
        cases z
      · have z : 37 ≤ 8 + tch B + tch C + cch Γ0 + cch Δ1 := Nat.le_of_ble_eq_true z
        omega
      have z0 : 8 + tch B + tch C + cch Γ0 + cch Δ1 = 33 := Nat.eq_of_beq_eq_true z0
      have hx2 : (tch B = 7 ∧ tch C = 9 ∧ cch Γ0 = 0 ∧ cch Δ1 = 9) ∨ (tch B = 2 ∧ tch C = 14 ∧ cch Γ0 = 0 ∧ cch Δ1 = 9) := by
        rcases z with ⟨a, b, c, d⟩ | ⟨a, b, c, d⟩
        · exact Or.inl ⟨Nat.eq_of_beq_eq_true a, Nat.eq_of_beq_eq_true b, Nat.eq_of_beq_eq_true c, Nat.eq_of_beq_eq_true d⟩
        · exact Or.inr ⟨Nat.eq_of_beq_eq_true a, Nat.eq_of_beq_eq_true b, Nat.eq_of_beq_eq_true c, Nat.eq_of_beq_eq_true d⟩
      by_cases d9 : dch Δ ≤ 9
      · have r := rng_all sm_r (i := mch (pee f t).2) (by omega)
        rw [Bool.or_eq_true, Bool.and_eq_true] at r
        have r := r.resolve_left (fun q => (blt_no (by omega) q).elim)
        refine o9_pair H sh ch e lb (fl := false) (fun q => by cases q) oR9_ok ?_ (Or.inr ⟨rfl, nD⟩) d9 (by omega)
        rcases hx2 with ⟨a, b, c, d⟩ | ⟨a, b, c, d⟩
        · rw [a, b, c, d]; exact r.1
        · rw [a, b, c, d]; exact r.2
      · obtain ⟨⟨w', -⟩, -, tn, -, -⟩ := pee_ok f _ _ t wt
        refine h9_ntv H sh (NtV_pee f t wt he ?_)
        have m67 : mch (pee f t).2 = 6 ∨ mch (pee f t).2 = 7 := by omega
        have hbp : cch Γ + dch Δ + 2 * mch (pee f t).2 ≤ 58 := by omega
        subst e
        exact nat_z9 hx2 lb w' he nD (pee_cho f t [] ch) m67 hbp
  have q38 : cch Δ1 ≤ 38 := by omega
  rcases h4 with ⟨nc, m6, ho⟩ | ⟨cf, hB, rx⟩
  · -- the short one
    have hx1 := hx
    unfold exl at hx1
    rw [if_neg Bool.false_ne_true, if_neg (fun q => by have := Nat.le_of_ble_eq_true q; omega)] at hx1
    have z := mem4_p (getD_all caA_1 _) hx1
    unfold caA at z
    rw [Bool.or_eq_true, Bool.or_eq_true, Bool.or_eq_true, Bool.or_eq_true] at z
    rcases z with z | z | z | z | z
    · exact (blt_no (show 37 ≤ 8 + tch B + tch C + cch Γ0 + cch Δ1 by omega) z).elim
    · exact (blt_no b2 z).elim
    · have z : no3 (tch B) (tch C) (cch Γ0) (cch Δ1) = true := z
      rw [n3] at z
      cases z
    · have z : ndk (cch Γ0) (cch Δ1) = true := z
      rw [nk] at z
      cases z
    have z := rng_all z (i := mch (pee f t).2) (by omega)
    rw [Bool.or_eq_true, Bool.or_eq_true, Bool.or_eq_true, Bool.and_eq_true] at z
    rcases z with z | z | ⟨z1, z⟩ | z
    · exact (blt_no m6 z).elim
    · exact (blt_no (show 8 + tch B + tch C + cch Γ0 + cch Δ1 + 2 * mch (pee f t).2 ≤ 53 by omega) z).elim
    · obtain ⟨⟨w', -⟩, -, tn, -, -⟩ := pee_ok f _ _ t wt
      have m11 := Nat.le_of_ble_eq_true z1
      obtain ⟨a, ea⟩ := dch_one he nD (by omega)
      have hdd : dch Δ ≤ 58 - (8 + tch B + tch C + cch Γ0 + cch Δ1) - 2 * mch (pee f t).2 := by omega
      refine h9_ntv H sh (NtV_pee f t wt he ?_)
      subst e
      exact nat_u9 lb w' he nD (by rw [ea]; exact Nat.le_refl _) (tn tt) (fun q => nc (cf_pee f t q)) m11 (pee_cho f t [] ch) z h47 q38 hdd
    · exact keep4 (Or.inl ⟨nc, z, ho⟩)
  · -- the long one
    have tl : mch t ≤ mch x + mch y - mch t ∧ cch Γ + dch Δ + 2 + mch t + (mch x + mch y - mch t) ≤ 60 ∧ mch (pee f t).2 ≤ mch t := by
      refine ⟨?_, ?_, pm⟩
      · rcases sh with ⟨rfl, h⟩ | ⟨rfl, h⟩ <;> omega
      · rcases sh with ⟨rfl, h⟩ | ⟨rfl, h⟩ <;> omega
    generalize eo : mch x + mch y - mch t = mo at *
    have fin : ∀ q : Bool, caB q (tch B, tch C, cch Γ0, cch Δ1) = true → (if q then 3 else 6) ≤ mch t → (q = true → 1 ≤ cch Δ1) → (q = false → 6 ≤ mch (pee f t).2) → PRn f x y Γ Δ := by
      intro q z hm h1 h6
      unfold caB at z
      rw [Bool.or_eq_true, Bool.or_eq_true, Bool.or_eq_true, Bool.or_eq_true, Bool.or_eq_true, Bool.and_eq_true] at z
      rcases z with z | z | z | z | z | z
      · exact (blt_no (show 37 ≤ 8 + tch B + tch C + cch Γ0 + cch Δ1 by omega) z).elim
      · exact (blt_no b2 z).elim
      · have z : no3 (tch B) (tch C) (cch Γ0) (cch Δ1) = true := z
        rw [n3] at z
        cases z
      · have z0 := h1 z.1
        have z2 : cch Δ1 = 0 := Nat.eq_of_beq_eq_true z.2
        omega
      · have z : ndk (cch Γ0) (cch Δ1) = true := z
        rw [nk] at z
        cases z
      have z := rng_all z (i := mch t) (by omega)
      rw [Bool.or_eq_true, Bool.or_eq_true] at z
      rcases z with z | z | z
      · exact (blt_no hm z).elim
      · exact (blt_no (show 8 + tch B + tch C + cch Γ0 + cch Δ1 + 2 * mch t ≤ 53 by omega) z).elim
      have z := rng_all z (i := mo) (by omega)
      rw [Bool.or_eq_true, Bool.or_eq_true, Bool.or_eq_true, Bool.and_eq_true, Bool.or_eq_true] at z
      rcases z with z | z | ⟨z1, z2⟩ | z
      · exact (blt_no tl.1 z).elim
      · exact (blt_no (show 8 + tch B + tch C + cch Γ0 + cch Δ1 + mch t + mo ≤ 53 by omega) z).elim
      rotate_left
      · have z : rx9 (tch B) (tch C) (cch Γ0) (cch Δ1) (mch t) mo = true := z
        rw [rx] at z
        cases z
      by_cases both : CFt f x ∧ CFt f y
      · have b7 := hB.resolve_left (fun n => n both)
        rw [Bool.or_eq_true, Bool.and_eq_true, Bool.or_eq_true, Bool.and_eq_true, Bool.and_eq_true, Bool.and_eq_true, Bool.or_eq_true] at z2
        rcases z2 with ⟨z2, -⟩ | ⟨zq, z6, z2⟩ | z2
        · have z2 : B7z (tch B) (tch C) (cch Γ0) (cch Δ1) = true := z2
          rw [b7] at z2
          cases z2
        · have eq : q = false := by
            cases q with
            | false => rfl
            | true => cases zq
          have m6 := h6 eq
          have t6 : mch t = 6 := Nat.eq_of_beq_eq_true z6
          have m66 : mch (pee f t).2 = 6 := by omega
          rcases z2 with z2 | z2
          · exact o9_pair H sh ch e lb (fl := false) (fun q => by cases q) oP9_ok (by rw [m66]; exact z2) (Or.inr ⟨rfl, nD⟩) (by omega) q38
          · exact o9_pair H sh ch e lb (fl := false) (fun q => by cases q) oQ9_ok (by rw [m66]; exact z2) (Or.inr ⟨rfl, nD⟩) (by omega) q38
        · exact keep4 (Or.inr (Or.inr ⟨both, z2⟩))
      · rcases z1 with z1 | z1
        rotate_left
        · exact keep4 (Or.inr (Or.inl ⟨cf, both, z1⟩))
        unfold ubx at z1
        rw [Bool.and_eq_true, Bool.and_eq_true] at z1
        obtain ⟨z1, z9, z1'⟩ := z1
        have z1 := Nat.le_of_ble_eq_true z1
        have z9 : 58 - (8 + tch B + tch C + cch Γ0 + cch Δ1) - mch t - mo ≤ 9 := Nat.le_of_ble_eq_true z9
        rcases sh with ⟨rfl, hs⟩ | ⟨rfl, hs⟩
        · exact pair_ntv hx9.1 hy9.1 he hx9.2.1 hy9.2.1 hv hd' (by omega) (Or.inr (u9_ntv hy9 he h47 nD z9 (by omega) e lb q38 (fun q => both ⟨cf, q⟩) (by omega) z1 z1'))
        · exact pair_ntv hx9.1 hy9.1 he hx9.2.1 hy9.2.1 hv hd' (by omega) (Or.inl (u9_ntv hx9 he h47 nD z9 (by omega) e lb q38 (fun q => both ⟨q, cf⟩) (by omega) z1 z1'))
    have hx1 := hx
    unfold exl at hx1
    rw [if_neg Bool.false_ne_true] at hx1
    by_cases m5 : mch (pee f t).2 ≤ 5
    · rw [if_pos (Nat.ble_eq_true_of_le m5)] at hx1
      exact fin true (mem4_p (caB_t (by omega)) hx1) m3' (fun _ => h3.resolve_left (by omega)) (fun q => by cases q)
    · rw [if_neg (fun q => m5 (Nat.le_of_ble_eq_true q))] at hx1
      exact fin false (mem4_p (caB_f (by omega)) hx1) (by show 6 ≤ mch t; omega) (fun q => by cases q) (fun _ => by omega)
theorem pairn_pu (R : RESTU9) : PAIRn := pairn_pt (restT9_of R)
