/-! ROOT SCHEMES, SEVERAL BINDERS: bodies that hold the very bound are done; RESTM9. -/
theorem h9_t {f : Nat} {x y t : Ty} {Γ : List Ty} {Δ : List (Nat × Ty × Nat)} (H : H9 f x y Γ Δ) (sh : Sh9 x y t) : H9a f t Γ Δ ∧ mch (pee f t).2 ≤ mch t ∧ cch Γ + dch Δ + 2 * mch t ≤ 58 := by
  obtain ⟨hx, hy, -, hb, -⟩ := H
  rcases sh with ⟨rfl, le⟩ | ⟨rfl, le⟩
  · have pm := (pee_ok f _ _ t hx.1).1.2
    exact ⟨hx, by omega, by omega⟩
  · have pm := (pee_ok f _ _ t hy.1).1.2
    exact ⟨hy, by omega, by omega⟩
theorem h9_ntv {f : Nat} {x y t : Ty} {Γ : List Ty} {Δ : List (Nat × Ty × Nat)} (H : H9 f x y Γ Δ) (sh : Sh9 x y t) (z : NtV Γ Δ f t 887 597) : PRn f x y Γ Δ := by
  obtain ⟨hx, hy, ⟨he, hv, hd', h20, h47, -⟩, -⟩ := H
  rcases sh with ⟨rfl, -⟩ | ⟨rfl, -⟩
  · exact pair_ntv hx.1 hy.1 he hx.2.1 hy.2.1 hv hd' (by omega) (Or.inl z)
  · exact pair_ntv hx.1 hy.1 he hx.2.1 hy.2.1 hv hd' (by omega) (Or.inr z)
def fl9 (e : Bool) (m be k q1 q2 : Nat) : Bool := Nat.blt k (be + 5) || (if Nat.beq q1 0 || Nat.ble be 3 then Nat.ble be 16 && (B4z e m be k q1 q2 || B8z e m be k q1 q2) else Nat.ble be 16 && (if Nat.ble q1 13 then B5z e m be k q1 q2 || (!e && (Nat.ble m 5 && B9z be k q1 q2)) else !e && (Nat.ble q1 25 && B14z m be k q1 q2)))
def lx9 (e : Bool) (m be k q1 q2 : Nat) : Bool := !e && (if Nat.ble m 5 then mem4 [(2, 24, 0, 9), (2, 24, 0, 13), (2, 28, 0, 9), (2, 32, 0, 5), (2, 32, 5, 0)] be k q1 q2 else mem4 [(2, 9, 0, 22)] be k q1 q2)
def cl9 (E : List (List (Nat × Nat × Nat × Nat))) (e : Bool) (m : Nat) : Bool := E.all (fun l => l.all (fun a => Nat.ble 2 a.2.1 && (Nat.ble a.1 1 || (fl9 e m a.1 a.2.1 a.2.2.1 a.2.2.2 || lx9 e m a.1 a.2.1 a.2.2.1 a.2.2.2))))
theorem cl9_0 : cl9 eL0 false 5 = true := by decide +kernel
theorem cl9_1 : cl9 eL1 false 6 = true := by decide +kernel
theorem cl9_2 : cl9 eL2 true 8 = true := by decide +kernel
theorem cl9_get {E : List (List (Nat × Nat × Nat × Nat))} {e : Bool} {m : Nat} (h : cl9 E e m = true) {c be k q1 q2 : Nat} (q : mem4 (E.getD c []) be k q1 q2 = true) : 2 ≤ k ∧ (be ≤ 1 ∨ fl9 e m be k q1 q2 = true ∨ lx9 e m be k q1 q2 = true) := by
  have hc : (E.getD c []) ∈ E ∨ E.getD c [] = [] := by
    by_cases c1 : c < E.length
    · left
      rw [List.getD_eq_getElem?_getD, List.getElem?_eq_getElem c1]
      exact List.getElem_mem c1
    · right
      rw [List.getD_eq_getElem?_getD, List.getElem?_eq_none (by omega)]
      rfl
  rcases hc with hc | hc
  · unfold mem4 at q
    obtain ⟨a, ha, e1⟩ := List.any_eq_true.mp q
    have p := List.all_eq_true.mp (List.all_eq_true.mp h _ hc) a ha
    rw [Bool.and_eq_true, Bool.and_eq_true, Bool.and_eq_true] at e1
    rw [Bool.and_eq_true, ← Nat.eq_of_beq_eq_true e1.1, ← Nat.eq_of_beq_eq_true e1.2.1, ← Nat.eq_of_beq_eq_true e1.2.2.1, ← Nat.eq_of_beq_eq_true e1.2.2.2, Bool.or_eq_true, Bool.or_eq_true] at p
    exact ⟨Nat.le_of_ble_eq_true p.1, p.2.imp Nat.le_of_ble_eq_true id⟩
  · rw [hc] at q
    cases q
theorem fl9_f {m m' be k q1 q2 : Nat} (h5 : Nat.ble m' 5 = Nat.ble m 5) (h : fl9 false m' be k q1 q2 = true) : fl9 false m be k q1 q2 = true := by
  unfold fl9 B4z B8z B5z B14z at h ⊢
  rw [h5] at h
  exact h
theorem fl9_t {m m' be k q1 q2 : Nat} (h8 : Nat.ble 8 m' = Nat.ble 8 m) (h : fl9 true m' be k q1 q2 = true) : fl9 true m be k q1 q2 = true := by
  unfold fl9 B4z B8z B5z at h ⊢
  rw [if_pos rfl, if_pos rfl, if_pos rfl, h8] at h
  rw [if_pos rfl, if_pos rfl, if_pos rfl]
  exact h
theorem lx9_f {e : Bool} {m m' be k q1 q2 : Nat} (h5 : Nat.ble m' 5 = Nat.ble m 5) (h : lx9 e m' be k q1 q2 = true) : lx9 e m be k q1 q2 = true := by
  unfold lx9 at h ⊢
  rw [h5] at h
  exact h
theorem exl_9 {e : Bool} {m be k q1 q2 : Nat} (h8 : e = true → 8 ≤ m) (h : exl e m be k q1 q2 = true) : 2 ≤ k ∧ (be ≤ 1 ∨ fl9 e m be k q1 q2 = true ∨ lx9 e m be k q1 q2 = true) := by
  unfold exl at h
  cases e with
  | true =>
    rw [if_pos rfl] at h
    obtain ⟨a, b⟩ := cl9_get cl9_2 h
    refine ⟨a, b.imp id (Or.imp (fl9_t ?_) (fun q => ?_))⟩
    · rw [Nat.ble_eq_true_of_le (h8 rfl)]; rfl
    · unfold lx9 at q
      cases q
  | false =>
    rw [if_neg Bool.false_ne_true] at h
    by_cases m5 : Nat.ble m 5 = true
    · rw [if_pos m5] at h
      obtain ⟨a, b⟩ := cl9_get cl9_0 h
      exact ⟨a, b.imp id (Or.imp (fl9_f (by rw [m5]; rfl)) (lx9_f (by rw [m5]; rfl)))⟩
    · rw [if_neg m5] at h
      obtain ⟨a, b⟩ := cl9_get cl9_1 h
      have m5 : Nat.ble m 5 = false := by
        cases q : Nat.ble m 5 with
        | false => rfl
        | true => exact absurd q m5
      exact ⟨a, b.imp id (Or.imp (fl9_f (by rw [m5]; rfl)) (lx9_f (by rw [m5]; rfl)))⟩
theorem sN_chL {B C : Ty} {L : Nat} (oB : ok L B = true) (oC : ok (L + 1) C = true) (h : sN B L (L + 1) C = true) : tch B + 5 ≤ tch C := by
  have o0 : ok 0 (clv L B) = true := clv_ok _ B 0 (Nat.le_refl _) (by rw [Nat.zero_add]; exact oB)
  have o1 : ok 1 (clv L C) = true := clv_ok _ C 1 (Nat.le_refl _) (by rw [Nat.add_comm]; exact oC)
  have q := sN_clv oB _ C (L + 1) (Nat.le_refl _) (Nat.le_succ _) oC h
  rw [show L + 1 - L = 1 by omega] at q
  have r := sN_ch o0 _ (clv L C) 1 (Nat.le_refl _) o1 q
  rw [tch_clv _ B _ (Nat.le_refl _) oB, tch_clv _ C _ (Nat.le_refl _) oC] at r
  exact r
def tR0 : Ty := tRec 0 .nil .nil .nil
theorem two_rec {B : Ty} {d : Nat} (o : ok d B = true) (h : tch B = 2) : B = tR0 := by
  rcases ok_cases o with rfl | ⟨j, hj, rfl⟩ | ⟨a, c, rfl, ha, hb⟩ | ⟨a, c, rfl, ha, hb⟩ | ⟨m, x, y, z, hm, rfl, o0, o1, o2⟩
  · exact absurd h (by decide)
  · have e : tch (tVar j) = 1 := rfl
    omega
  · rw [tch_fun] at h
    have := tch_pos ha
    omega
  · rw [tch_all] at h
    have := tch_pos ha
    omega
  · rw [tch_rec] at h
    have h0 : ∀ m, m < 8 → m ≠ 0 → 3 ≤ rch m := by decide
    have em : m = 0 := Classical.byContradiction (fun c => by have := h0 m hm c; omega)
    subst em
    unfold okl at o0 o1 o2
    rw [if_neg (by decide)] at o0 o1 o2
    rw [o0, o1, o2]
    rfl
theorem tqN_r0 {L D : Nat} {a : Ty} (o : ok D a = true) (h : tqN tR0 L D a = true) : tqB tR0 a = true := by
  unfold tqN at h
  rw [decide_eq_true_iff] at h
  have e1 : (flat tR0).map (nfx L) = [8] := by
    show [nfx L 8] = [8]
    rw [nfx_lo (by omega)]
  rw [e1] at h
  have nn := codes_nn _ a _ (Nat.le_refl _) o
  cases ef : flat a with
  | nil => rw [ef] at h; cases h
  | cons c l =>
    rw [ef] at h nn
    rw [List.map_cons] at h
    injection h with h1 h2
    have hl : l = [] := List.map_eq_nil_iff.mp h2
    have hc : c = 8 := by
      unfold nfx at h1
      by_cases g : 16 + (D : Int) ≤ c
      · rw [if_pos g] at h1; omega
      · rw [if_neg g] at h1; exact h1
    rw [hl, hc] at ef
    unfold tqB
    rw [ef]
    rfl
theorem sN_r0 {L : Nat} : ∀ (f : Nat) (t : Ty) (D : Nat), (flat t).length ≤ f → ok D t = true → sN tR0 L D t = true → sB tR0 t = true
  | 0, t, d, hf, o, _ => by have := flat_pos o; omega
  | f + 1, t, d, hf, o, h => by
    rcases ok_cases o with rfl | ⟨j, hj, rfl⟩ | ⟨a, c, rfl, ha, hb⟩ | ⟨a, c, rfl, ha, hb⟩ | ⟨m, x, y, z, hm', rfl, h0, h1, h2⟩
    · have h : false = true := h
      cases h
    · have h : sN tR0 L d (tVar j) = true := h
      simp [tVar, sN] at h
    · rw [flat_fun, List.length_cons, List.length_append] at hf
      rw [sN_fun, Bool.or_eq_true] at h
      rw [sB_fun, Bool.or_eq_true]
      exact h.imp (sN_r0 f a d (by omega) ha) (sN_r0 f c d (by omega) hb)
    · rw [flat_all, List.length_cons, List.length_append] at hf
      rw [sN_all, Bool.or_eq_true, Bool.or_eq_true] at h
      rw [sB_all, Bool.or_eq_true, Bool.or_eq_true]
      exact h.imp (tqN_r0 ha) (Or.imp (sN_r0 f a d (by omega) ha) (sN_r0 f c (d + 1) (by omega) hb))
    · rw [flat_rec, List.length_cons, List.length_append, List.length_append] at hf
      have key : ∀ (i : Nat) (p : Ty), (flat p).length ≤ f → okl d m i p → sN tR0 L d p = true → sB tR0 p = true := by
        intro i p hp ho hs
        unfold okl at ho
        by_cases hb : bit m i = true
        · rw [if_pos hb] at ho
          exact sN_r0 f p d hp ho hs
        · rw [if_neg hb] at ho
          rw [ho] at hs
          simp [sN] at hs
      rw [sN_rec, Bool.or_eq_true, Bool.or_eq_true] at h
      rw [sB_rec, Bool.or_eq_true, Bool.or_eq_true]
      exact h.imp (key 0 x (by omega) h0) (Or.imp (key 1 y (by omega) h1) (key 2 z (by omega) h2))
theorem fl9_v {f : Nat} {t B C : Ty} {Γ Γ0 Δ1 : List Ty} {Δ : List (Nat × Ty × Nat)} (w : TWf f Γ.length (Δ.map (fun a => a.1)) t) (he : TE Γ Δ) (e : Γ = cxs Δ1 Γ0 (tAll B C)) (lb : LBd Γ0 Δ1 (tAll B C) tTop B C) (b2 : 2 ≤ tch B) (fl : sN B Γ0.length (Γ0.length + 1) C = true) (h9 : fl9 Δ.isEmpty (mch (pee f t).2) (tch B) (tch C) (cch Γ0) (cch Δ1) = true) (ch : CHo f t []) (h20 : 20 ≤ cch Γ) (h47 : cch Γ ≤ 47) (m3 : 3 ≤ mch (pee f t).2) (hb : cch Γ + dch Δ + 2 * mch (pee f t).2 ≤ 58) (n9 : Nz9 f t Γ Δ) : NtV Γ Δ f t 887 597 := by
  have ch' := pee_cho f t [] ch
  have w' := (pee_ok f _ _ t w).1.1
  have hc := he.1
  rw [e] at hc
  obtain ⟨oc0, ob⟩ := okc_low Δ1 hc
  have oB := (ok_all.mp ob).1
  have oC := (ok_all.mp ob).2
  have ec := cch_cx (Γ0 := Γ0) (β := tAll B C) Δ1
  rw [← e] at ec
  have eσ := tch_all B C
  have q38 : cch Δ1 ≤ 38 := by omega
  obtain ⟨-, -, -, -, nF, -, -, nK, nL, nM, -⟩ := n9
  unfold fl9 at h9
  rw [Bool.or_eq_true] at h9
  rcases h9 with h9 | h9
  · have := sN_chL oB oC fl
    exact (blt_no this h9).elim
  split at h9
  · rename_i c1
    rw [Bool.and_eq_true] at h9
    have b16 := Nat.le_of_ble_eq_true h9.1
    rw [Bool.or_eq_true] at c1
    by_cases q0 : cch Γ0 = 0
    · have pos : ∀ a ∈ Γ0, 1 ≤ tch a := fun a ha => by
        obtain ⟨d, o1, -⟩ := okc_mch oc0 ha
        exact tch_pos o1
      have g0 := (q05_of pos).2 q0
      subst g0
      rcases Bool.or_eq_true _ _ ▸ h9.2 with q | q
      · exact absurd ⟨Δ1, [], B, C, e, rfl, lb, b2, b16, fl, ch', q, m3, q38, hb⟩ nL
      · exact absurd ⟨Δ1, [], B, C, e, rfl, lb, b2, b16, fl, ch', q, m3, q38, hb⟩ nM
    · have b3 := Nat.le_of_ble_eq_true (c1.resolve_left (fun q => q0 (Nat.eq_of_beq_eq_true q)))
      have n3 := tch_three oB
      have eB := two_rec oB (by omega)
      subst eB
      have sb := sN_r0 _ C _ (Nat.le_refl _) oC fl
      rcases Bool.or_eq_true _ _ ▸ h9.2 with q | q
      · exact absurd ⟨Δ1, Γ0, tR0, C, e, rfl, lb, rfl, b2, b16, sb, ch', q, m3, q38, hb⟩ nF
      · exact absurd ⟨Δ1, Γ0, tR0, C, e, rfl, lb, rfl, b2, b16, sb, ch', q, m3, q38, hb⟩ nK
  · rename_i c1
    rw [Bool.and_eq_true] at h9
    have b16 := Nat.le_of_ble_eq_true h9.1
    have b4 : 4 ≤ tch B := by
      rcases Nat.lt_or_ge 3 (tch B) with q | q
      · exact q
      · exact absurd (by rw [Nat.ble_eq_true_of_le q, Bool.or_true]) c1
    refine NtV_pee f t w he ?_
    subst e
    have nΔ : Δ.isEmpty = false → Δ ≠ [] := fun q q' => by rw [q'] at q; cases q
    split at h9
    · rename_i c13
      have q13 := Nat.le_of_ble_eq_true c13
      rcases Bool.or_eq_true _ _ ▸ h9.2 with q | q
      · exact nat_bgN q13 lb b4 b16 fl w' he ch' q m3 h20 h47 q38 hb
      · rw [Bool.and_eq_true, Bool.and_eq_true] at q
        have n0 := nΔ (by cases e0 : Δ.isEmpty with
          | false => rfl
          | true => rw [e0] at q; cases q.1)
        exact nat_bnN q13 lb b4 b16 fl w' he ch' n0 (Nat.le_of_ble_eq_true q.2.1) q.2.2 m3 h20 h47 q38 hb
    · have q := h9.2
      rw [Bool.and_eq_true, Bool.and_eq_true] at q
      have n0 := nΔ (by cases e0 : Δ.isEmpty with
        | false => rfl
        | true => rw [e0] at q; cases q.1)
      exact nat_bh (Nat.le_of_ble_eq_true q.2.1) lb b4 b16 fl w' he ch' n0 q.2.2 m3 h20 h47 q38 hb
/-- what is left of root schemes with several binders -/
def W9s (m : Nat) (e : Bool) (Γ : List Ty) : Prop := ∃ (Δ1 Γ0 : List Ty) (B C : Ty), Γ = cxs Δ1 Γ0 (tAll B C) ∧ LBd Γ0 Δ1 (tAll B C) tTop B C ∧ 1 ≤ cch Γ0 + cch Δ1 ∧ exl e m (tch B) (tch C) (cch Γ0) (cch Δ1) = true ∧ ((tch B = 1 ∧ tp2 (tch B) (tch C) (cch Γ0) (cch Δ1) = true) ∨ (2 ≤ tch B ∧ sN B Γ0.length (Γ0.length + 1) C = true ∧ lx9 e m (tch B) (tch C) (cch Γ0) (cch Δ1) = true) ∨ (2 ≤ tch B ∧ sN B Γ0.length (Γ0.length + 1) C = false ∧ ∃ j, j < Γ0.length ∧ sN B Γ0.length j (bnd Γ0 j) = true) ∨ (2 ≤ tch B ∧ OVq 1 B C Dsm Γ0 ∧ ndk (cch Γ0) (cch Δ1) = false))
def RESTM9 : Prop := ∀ (f : Nat) (x y : Ty) (Γ : List Ty) (Δ : List (Nat × Ty × Nat)) (t : Ty), H9 f x y Γ Δ → Sh9 x y t → (¬ CHo f t [] ∨ (CHo f t [] ∧ (W9a (mch (pee f t).2) Δ.isEmpty Γ ∨ W9s (mch (pee f t).2) Δ.isEmpty Γ))) → PRn f x y Γ Δ
theorem h9_e8 {f : Nat} {t : Ty} {Γ : List Ty} {Δ : List (Nat × Ty × Nat)} (n9 : Nz9 f t Γ Δ) (ch : CHo f t []) (h20 : 20 ≤ cch Γ) (h47 : cch Γ ≤ 47) (m3 : 3 ≤ mch (pee f t).2) (hb : cch Γ + dch Δ + 2 * mch (pee f t).2 ≤ 58) (e : Δ.isEmpty = true) : 8 ≤ mch (pee f t).2 := by
  refine Classical.byContradiction (fun n8 => n9.1 ⟨pee_cho f t [] ch, ?_, hb⟩)
  rw [e]
  unfold az
  rw [if_pos rfl, Nat.ble_eq_true_of_le h20, Nat.ble_eq_true_of_le m3, Nat.ble_eq_true_of_le (show mch (pee f t).2 ≤ 7 by omega), Nat.ble_eq_true_of_le h47]
  rfl
theorem restl9_of (R : RESTM9) : RESTL9 := by
  intro f x y Γ Δ t H sh h
  rcases h with h | ⟨ch, h | h⟩
  · exact R f x y Γ Δ t H sh (Or.inl h)
  · exact R f x y Γ Δ t H sh (Or.inr ⟨ch, Or.inl h⟩)
  obtain ⟨Δ1, Γ0, B, C, e, lb, nz, hx, h2⟩ := h
  obtain ⟨⟨wt, nt, tt, m3', m3, n9⟩, pm, hbt⟩ := h9_t H sh
  have H' := H
  obtain ⟨-, -, ⟨he, hv, hd', h20, h47, -⟩, -, ng, -⟩ := H'
  have keep : W9s (mch (pee f t).2) Δ.isEmpty Γ → PRn f x y Γ Δ := fun q => R f x y Γ Δ t H sh (Or.inr ⟨ch, Or.inr q⟩)
  have h8 := h9_e8 n9 ch h20 h47 m3 (by omega)
  obtain ⟨k2, hcase⟩ := exl_9 h8 hx
  have hc := he.1
  rw [e] at hc
  obtain ⟨oc0, ob⟩ := okc_low Δ1 hc
  have oB := (ok_all.mp ob).1
  have oC := (ok_all.mp ob).2
  by_cases b2 : 2 ≤ tch B
  rotate_left
  · have := tch_pos oB
    exact keep ⟨Δ1, Γ0, B, C, e, lb, nz, hx, Or.inl ⟨by omega, h2.resolve_left b2⟩⟩
  cases fl : sN B Γ0.length (Γ0.length + 1) C with
  | true =>
    rcases hcase with q | q | q
    · omega
    · exact h9_ntv H sh (fl9_v wt he e lb b2 fl q ch h20 h47 m3 (by omega) n9)
    · exact keep ⟨Δ1, Γ0, B, C, e, lb, nz, hx, Or.inr (Or.inl ⟨b2, fl, q⟩)⟩
  | false =>
    by_cases hj : ∃ j, j < Γ0.length ∧ sN B Γ0.length j (bnd Γ0 j) = true
    · exact keep ⟨Δ1, Γ0, B, C, e, lb, nz, hx, Or.inr (Or.inr (Or.inl ⟨b2, fl, hj⟩))⟩
    have na : noal (tAll B C) = true := noac_mem hv _ (by rw [e]; unfold cxs; simp)
    rw [noal_all, Bool.and_eq_true, decide_eq_true_iff] at na
    have hC : hd C ≠ 0 ∧ hd C < 16 := by
      rcases ok_cases oC with rfl | ⟨j, hj, rfl⟩ | ⟨a, c, rfl, ha, hb⟩ | ⟨a, c, rfl, ha, hb⟩ | ⟨m, x, y, z, hm, rfl, o0, o1, o2⟩
      · exact absurd k2 (by decide)
      · exact absurd k2 (by show ¬ 2 ≤ 1; omega)
      · rw [hd_fun]; decide
      · rw [hd_all]; decide
      · rw [hd_rec]; omega
    have ov := HKn_no oc0 ob na.1 hC (fun j h => by
      cases q : sN B Γ0.length j (bnd Γ0 j) with
      | false => rfl
      | true => exact absurd ⟨j, h, q⟩ hj) fl
    cases nk : ndk (cch Γ0) (cch Δ1) with
    | true => exact absurd ov (ng.2 Δ1 Γ0 B C e nk)
    | false => exact keep ⟨Δ1, Γ0, B, C, e, lb, nz, hx, Or.inr (Or.inr (Or.inr ⟨b2, ov, nk⟩))⟩
theorem pairn_pm (R : RESTM9) : PAIRn := pairn_pl (restl9_of R)
