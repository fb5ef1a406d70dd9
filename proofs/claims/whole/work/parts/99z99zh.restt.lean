/-! RESTT9: one name around does away with the short lists. -/
def wch (c : Int) : Nat := if c = 1 then 3 else if c = 2 then 4 else if 8 ≤ c ∧ c < 16 then rch (c - 8).toNat else 1
def swc : List Int → Nat
  | [] => 0
  | c :: l => wch c + swc l
theorem swc_app : ∀ (a b : List Int), swc (a ++ b) = swc a + swc b
  | [], b => by simp [swc]
  | c :: a, b => by
    show wch c + swc (a ++ b) = wch c + swc a + swc b
    rw [swc_app a b]; omega
theorem swc_flat : ∀ (f d : Nat) (t : Ty), (flat t).length ≤ f → ok d t = true → swc (flat t) = tch t
  | 0, d, t, hf, o => by have := flat_pos o; omega
  | f + 1, d, t, hf, o => by
    rcases ok_cases o with rfl | ⟨j, hj, rfl⟩ | ⟨a, c, rfl, ha, hb⟩ | ⟨a, c, rfl, ha, hb⟩ | ⟨m, x, y, z, hm, rfl, h0, h1, h2⟩
    · decide
    · show wch ((16 + j : Nat) : Int) + 0 = 1
      unfold wch
      rw [if_neg (by omega), if_neg (by omega), if_neg (by omega)]
    · rw [flat_fun, List.length_cons, List.length_append] at hf
      rw [flat_fun, tch_fun]
      show wch 1 + swc (flat a ++ flat c) = _
      rw [swc_app, swc_flat f d a (by omega) ha, swc_flat f d c (by omega) hb]
      have : wch 1 = 3 := by decide
      omega
    · rw [flat_all, List.length_cons, List.length_append] at hf
      rw [flat_all, tch_all]
      show wch 2 + swc (flat a ++ flat c) = _
      rw [swc_app, swc_flat f d a (by omega) ha, swc_flat f (d + 1) c (by omega) hb]
      have : wch 2 = 4 := by decide
      omega
    · rw [flat_rec, List.length_cons, List.length_append, List.length_append] at hf
      have key : ∀ (i : Nat) (p : Ty), (flat p).length ≤ f → okl d m i p → swc (flat p) = tch p := by
        intro i p hp ho
        unfold okl at ho
        by_cases hb : bit m i = true
        · rw [if_pos hb] at ho
          exact swc_flat f d p hp ho
        · rw [if_neg hb] at ho
          rw [ho]; rfl
      have k0 := key 0 x (by omega) h0
      have k1 := key 1 y (by omega) h1
      have k2 := key 2 z (by omega) h2
      rw [flat_rec, tch_rec]
      show wch ((8 + m : Nat) : Int) + swc (flat x ++ (flat y ++ flat z)) = _
      rw [swc_app, swc_app, k0, k1, k2]
      have : wch ((8 + m : Nat) : Int) = rch m := by
        unfold wch
        rw [if_neg (by omega), if_neg (by omega), if_pos (by omega), show (((8 + m : Nat) : Int) - 8).toNat = m by omega]
      omega
theorem wch_nfx (D : Nat) (c : Int) : wch (nfx D c) = wch c := by
  unfold nfx
  split
  · unfold wch
    rw [if_neg (by omega), if_neg (by omega), if_neg (by omega), if_neg (by omega), if_neg (by omega), if_neg (by omega)]
  · rfl
theorem swc_nfx (D : Nat) : ∀ (l : List Int), swc (l.map (nfx D)) = swc l
  | [] => rfl
  | c :: l => by
    show wch (nfx D c) + swc (l.map (nfx D)) = wch c + swc l
    rw [wch_nfx, swc_nfx D l]
theorem tqN_tch {B a : Ty} {d0 D : Nat} (oB : ok d0 B = true) (oa : ok D a = true) (h : tqN B d0 D a = true) : tch a = tch B := by
  have e := congrArg swc (of_decide_eq_true (show decide ((flat a).map (nfx D) = (flat B).map (nfx d0)) = true from h))
  rw [swc_nfx, swc_nfx, swc_flat _ _ _ (Nat.le_refl _) oa, swc_flat _ _ _ (Nat.le_refl _) oB] at e
  exact e
theorem sN_chG {B : Ty} {d0 : Nat} (oB : ok d0 B = true) : ∀ (f : Nat) (t : Ty) (D : Nat), (flat t).length ≤ f → ok D t = true → sN B d0 D t = true → tch B + 5 ≤ tch t
  | 0, t, D, hf, o, _ => by have := flat_pos o; omega
  | f + 1, t, D, hf, o, hn => by
    rcases ok_cases o with rfl | ⟨j, hj, rfl⟩ | ⟨a, c, rfl, ha, hb⟩ | ⟨a, c, rfl, ha, hb⟩ | ⟨m', x, y, z, hm, rfl, h0, h1, h2⟩
    · simp [tTop, sN] at hn
    · simp [tVar, sN] at hn
    · rw [flat_fun, List.length_cons, List.length_append] at hf
      rw [sN_fun, Bool.or_eq_true] at hn
      rw [tch_fun]
      rcases hn with hn | hn
      · have := sN_chG oB f a D (by omega) ha hn
        omega
      · have := sN_chG oB f c D (by omega) hb hn
        omega
    · rw [flat_all, List.length_cons, List.length_append] at hf
      rw [sN_all, Bool.or_eq_true, Bool.or_eq_true] at hn
      rw [tch_all]
      rcases hn with hn | hn | hn
      · have e := tqN_tch oB ha hn
        have := tch_pos hb
        omega
      · have := sN_chG oB f a D (by omega) ha hn
        omega
      · have := sN_chG oB f c (D + 1) (by omega) hb hn
        omega
    · rw [flat_rec, List.length_cons, List.length_append, List.length_append] at hf
      rw [sN_rec, Bool.or_eq_true, Bool.or_eq_true] at hn
      rw [tch_rec]
      have key : ∀ (i : Nat) (p : Ty), (flat p).length ≤ f → okl D m' i p → sN B d0 D p = true → tch B + 5 ≤ tch p := by
        intro i p hp ho hs
        unfold okl at ho
        by_cases hb : bit m' i = true
        · rw [if_pos hb] at ho
          exact sN_chG oB f p D hp ho hs
        · rw [if_neg hb] at ho
          rw [ho] at hs
          simp [sN] at hs
      rcases hn with hn | hn | hn
      · have := key 0 x (by omega) h0 hn; omega
      · have := key 1 y (by omega) h1 hn; omega
      · have := key 2 z (by omega) h2 hn; omega
section PmZh
variable {f : Nat} {t B C : Ty} {Δ : List (Nat × Ty × Nat)}
/-- two names, the bound [] -/
theorem nat_t9 (b2 : tch B = 2) (lb : LBd [] [] (tAll B C) tTop B C) (fl : sN B 0 1 C = true) (w : TWf f (cxs [] [] (tAll B C)).length (Δ.map (fun a => a.1)) t) (he : TE (cxs [] [] (tAll B C)) Δ) (nz : Δ ≠ []) (ch : CHo f t []) (hm : (mch t = 6 ∧ 24 ≤ tch C ∧ tch C ≤ 26) ∨ (mch t = 7 ∧ tch C = 24)) (hb : cch (cxs [] [] (tAll B C)) + dch Δ + 2 * mch t ≤ 58) : NtV (cxs [] [] (tAll B C)) Δ f t 887 597 := by
  have oσ := lb.1.2.1
  have oC : ok (([] : List Ty).length + 1) C = true := (ok_all.mp oσ).2
  have oB : ok 0 B = true := (ok_all.mp oσ).1
  have fR := sn_rows (d := ([] : List Ty).length + 1) oB (by omega) (by omega) oC lb.2.2.2.1 fl
  have fG := sn_goals (d := ([] : List Ty).length + 1) oB (by omega) (by omega) oC lb.2.2.2.1 fl
  have ez : tch (tAll B C) - tch (tAll B C) = 0 := Nat.sub_self _
  have ec : cch (cxs [] [] (tAll B C)) = 10 + tch C := by
    show tch (tAll B C) + 4 + 0 = _
    rw [tch_all]
    omega
  have hΔ : (false = true ∧ Δ = []) ∨ (false = false ∧ Δ ≠ []) := Or.inr ⟨rfl, nz⟩
  rcases hm with ⟨m6, k1, k2⟩ | ⟨m7, k1⟩
  · have z := rng_all oT6_z (i := tch C) (by omega)
    rw [Bool.or_eq_true, Bool.and_eq_true] at z
    rcases z with z | ⟨zR, zG⟩
    · exact (blt_no (show 34 ≤ 10 + tch C by omega) z).elim
    unfold zfR at zR
    unfold zfG at zG
    rw [show 8 + 2 + tch C + 0 + 0 = cch (cxs [] [] (tAll B C)) by omega, ← b2] at zR zG
    exact zone_jx (un := true) (e := false) fR fG lb w he hΔ (Or.inl rfl) ch (by rw [ez]; exact zR) (by rw [ez]; exact zG) oT6_ok.1 oT6_ok.2 (by omega) (by omega) (by omega) (by omega) (by omega) (Nat.zero_le _) hb
  · have z := rng_all oT7_z (i := tch C) (by omega)
    rw [Bool.or_eq_true, Bool.and_eq_true] at z
    rcases z with z | ⟨zR, zG⟩
    · exact (blt_no (show 34 ≤ 10 + tch C by omega) z).elim
    unfold zfR at zR
    unfold zfG at zG
    rw [show 8 + 2 + tch C + 0 + 0 = cch (cxs [] [] (tAll B C)) by omega, ← b2] at zR zG
    exact zone_jx (un := true) (e := false) fR fG lb w he hΔ (Or.inl rfl) ch (by rw [ez]; exact zR) (by rw [ez]; exact zG) oT7_ok.1 oT7_ok.2 (by omega) (by omega) (by omega) (by omega) (by omega) (Nat.zero_le _) hb
end PmZh
/-- what is left: names around, the bound [], a long body that holds it -/
def exF (e : Bool) (m be k : Nat) : Bool := Nat.beq be 2 && (if e then Nat.beq k 32 else (Nat.beq k 25 && Nat.beq m 9) || ((Nat.beq m 8 && (Nat.beq k 26 || Nat.beq k 27)) || ((Nat.beq m 7 && (Nat.beq k 28 || Nat.beq k 29)) || (Nat.beq m 6 && (Nat.ble 29 k && Nat.ble k 31)))))
theorem exF_n : (List.range 32).all (fun k => (List.range 10).all (fun m => Nat.blt k 24 || (Nat.blt m 6 || (Nat.blt 53 (10 + k + 2 * m) || (has9 oE9 2 k 0 0 m || exF false m 2 k))))) = true := by decide +kernel
theorem exF_e : (List.range 20).all (fun k => (List.range 8).all (fun be => (List.range 16).all (fun m => !(exD true be k) || (Nat.blt m 8 || (Nat.blt 58 (8 + be + k + 2 * m) || has9 oN9 be k 0 0 m))))) = true := by decide +kernel
theorem bf_0 : eL0.all (fun l => l.all (fun a => Nat.blt a.1 4 || (Nat.ble a.2.2.1 (a.1 + 8) || Nat.beq a.2.2.2 0))) = true := by decide +kernel
theorem bf_1 : eL1.all (fun l => l.all (fun a => Nat.blt a.1 4 || (Nat.ble a.2.2.1 (a.1 + 8) || (has9 oP9 a.1 a.2.1 a.2.2.1 a.2.2.2 6 && Nat.ble 40 (8 + a.1 + a.2.1 + a.2.2.1 + a.2.2.2))))) = true := by decide +kernel
theorem tp_0 : (mem4 (eL0.getD 41 []) 1 9 23 0 || mem4 (eL0.getD 41 []) 1 10 0 22) = false := by decide +kernel
theorem tp_1 : (has9 oP9 1 9 23 0 6 && has9 oP9 1 10 0 22 6) = true := by decide +kernel
def W9d (m : Nat) (e : Bool) (Γ : List Ty) : Prop := (e = false ∧ ExA Γ) ∨ (∃ B C : Ty, Γ = [tAll B C] ∧ 2 ≤ tch B ∧ LBd [] [] (tAll B C) tTop B C ∧ sN B 0 1 C = true ∧ exF e m (tch B) (tch C) = true) ∨ (e = false ∧ ∃ (Δ1 Γ0 : List Ty) (b b' B C : Ty), Γ = cxs Δ1 Γ0 b ∧ LBd Γ0 Δ1 b b' B C ∧ ¬ IS2 (fun _ => False) b ∧ hd b ≠ 2 ∧ 1 ≤ cch Γ0 + cch Δ1 ∧ ex2 m (tch B) (tch C) (tch b - tch (tAll B C)) (cch Γ0) (cch Δ1) = true)
def W9u (f : Nat) (x y t : Ty) (m : Nat) (e : Bool) (Γ : List Ty) : Prop := ∃ (Δ1 Γ0 : List Ty) (B C : Ty), Γ = cxs Δ1 Γ0 (tAll B C) ∧ LBd Γ0 Δ1 (tAll B C) tTop B C ∧ 1 ≤ cch Γ0 + cch Δ1 ∧ exl e m (tch B) (tch C) (cch Γ0) (cch Δ1) = true ∧ e = false ∧ (6 ≤ m ∨ 1 ≤ cch Δ1) ∧ 2 ≤ tch B ∧ ((sN B Γ0.length (Γ0.length + 1) C = true ∧ (m ≤ 5 ∧ lx9 e m (tch B) (tch C) (cch Γ0) (cch Δ1) = true)) ∨ (OVq 1 B C Dsm Γ0 ∧ ndk (cch Γ0) (cch Δ1) = false ∧ ((¬ CFt f t ∧ 6 ≤ m ∧ ∃ o, (o = x ∨ o = y) ∧ mch t + mch o = mch x + mch y ∧ (CFt f o → rx9 (tch B) (tch C) (cch Γ0) (cch Δ1) (mch o) (mch t) = false)) ∨ (CFt f t ∧ (¬ (CFt f x ∧ CFt f y) ∨ B7z (tch B) (tch C) (cch Γ0) (cch Δ1) = false) ∧ rx9 (tch B) (tch C) (cch Γ0) (cch Δ1) (mch t) (mch x + mch y - mch t) = false))))
def RESTT9 : Prop := ∀ (f : Nat) (x y : Ty) (Γ : List Ty) (Δ : List (Nat × Ty × Nat)) (t : Ty), H9 f x y Γ Δ → Sh9 x y t → (¬ CHo f t [] ∨ (CHo f t [] ∧ (W9d (mch (pee f t).2) Δ.isEmpty Γ ∨ W9u f x y t (mch (pee f t).2) Δ.isEmpty Γ))) → PRn f x y Γ Δ
/-- a list with one name ends it -/
theorem o9_pair {f : Nat} {x y t : Ty} {Γ : List Ty} {Δ : List (Nat × Ty × Nat)} {Δ1 Γ0 : List Ty} {B C : Ty} {fl e : Bool} {L : List ((Nat × Nat × Nat × Nat × Nat) × List T6 × List T6)} (H : H9 f x y Γ Δ) (sh : Sh9 x y t) (ch : CHo f t []) (eΓ : Γ = cxs Δ1 Γ0 (tAll B C)) (lb : LBd Γ0 Δ1 (tAll B C) tTop B C) (hf : fl = true → Γ0 = [] ∧ 2 ≤ tch B ∧ tch B ≤ 16 ∧ sN B 0 (Γ0.length + 1) C = true) (ok : L.all (okE9 fl e) = true) (h : has9 L (tch B) (tch C) (cch Γ0) (cch Δ1) (mch (pee f t).2) = true) (hΔ : (e = true ∧ Δ = []) ∨ (e = false ∧ Δ ≠ [])) (d9 : dch Δ ≤ 9) (q38 : cch Δ1 ≤ 38) : PRn f x y Γ Δ := by
  obtain ⟨⟨wt, nt, tt, m3', m3, n9⟩, pm, hbt⟩ := h9_t H sh
  have H' := H
  obtain ⟨-, -, ⟨he, hv, hd', h20, h47, -⟩, -⟩ := H'
  obtain ⟨⟨w', -⟩, -, tn, -, -⟩ := pee_ok f _ _ t wt
  refine h9_ntv H sh (NtV_pee f t wt he ?_)
  obtain ⟨l1, l2, hz⟩ := has9_get ok h
  have one : Δ.length ≤ 1 := by
    by_cases c : Δ = []
    · rw [c]; exact Nat.zero_le _
    · obtain ⟨a, ea⟩ := dch_one he c d9
      rw [ea]; exact Nat.le_refl _
  subst eΓ
  exact nat_o9 hf lb w' he hΔ one (tn tt) (pee_cho f t [] ch) hz h47 q38 (by omega)
theorem restS9_of (R : RESTT9) : RESTS9 := by
  intro f x y Γ Δ t H sh h
  rcases h with h | ⟨ch, h | h⟩
  · exact R f x y Γ Δ t H sh (Or.inl h)
  · rcases h with h | ⟨B, C, eΓ, b2, lb, fl, hx, h6⟩ | h
    · exact R f x y Γ Δ t H sh (Or.inr ⟨ch, Or.inl (Or.inl h)⟩)
    · by_cases c : exF Δ.isEmpty (mch (pee f t).2) (tch B) (tch C) = true
      · exact R f x y Γ Δ t H sh (Or.inr ⟨ch, Or.inl (Or.inr (Or.inl ⟨B, C, eΓ, b2, lb, fl, c⟩))⟩)
      obtain ⟨⟨wt, nt, tt, m3', m3, n9⟩, pm, hbt⟩ := h9_t H sh
      have H' := H
      obtain ⟨-, -, ⟨he, hv, hd', h20, h47, -⟩, -⟩ := H'
      have ec : cch Γ = 8 + tch B + tch C := by
        rw [eΓ]
        show (tch (tAll B C) + 4) + 0 = _
        rw [tch_all]
        omega
      cases eI : Δ.isEmpty with
      | true =>
        rw [eI] at hx c
        have eD := List.isEmpty_iff.mp eI
        have m8 := h9_e8 n9 ch h20 h47 m3 (by omega) eI
        have hx' := hx
        have c19 : tch C < 20 := by
          unfold exD at hx'
          rw [if_pos rfl] at hx'
          simp only [Bool.or_eq_true, Bool.and_eq_true] at hx'
          unfold exF at c
          rw [if_pos rfl] at c
          rcases hx' with ⟨q1, q | q | q⟩ | ⟨q1, q⟩ | ⟨q1, q⟩ | ⟨q1, q⟩
          · exact absurd (by rw [q1, q]; rfl) c
          all_goals (have := Nat.eq_of_beq_eq_true q; omega)
        have b8 : tch B < 8 := by
          unfold exD at hx'
          rw [if_pos rfl] at hx'
          simp only [Bool.or_eq_true, Bool.and_eq_true] at hx'
          rcases hx' with ⟨q1, q | q | q⟩ | ⟨q1, q⟩ | ⟨q1, q⟩ | ⟨q1, q⟩ <;> (have := Nat.eq_of_beq_eq_true q1; omega)
        have z := rng_all (rng_all (rng_all exF_e (i := tch C) c19) (i := tch B) b8) (i := mch (pee f t).2) (by
          unfold exD at hx'
          rw [if_pos rfl] at hx'
          simp only [Bool.or_eq_true, Bool.and_eq_true] at hx'
          rcases hx' with ⟨q1, q | q | q⟩ | ⟨q1, q⟩ | ⟨q1, q⟩ | ⟨q1, q⟩ <;> (have := Nat.eq_of_beq_eq_true q1; have := Nat.eq_of_beq_eq_true q; omega))
        rw [hx] at z
        rw [Bool.or_eq_true, Bool.or_eq_true, Bool.or_eq_true] at z
        rcases z with z | z | z | z
        · cases z
        · exact (blt_no m8 z).elim
        · exact (blt_no (show 8 + tch B + tch C + 2 * mch (pee f t).2 ≤ 58 by omega) z).elim
        · exact o9_pair (Δ1 := []) (Γ0 := []) H sh ch eΓ lb (fun _ => ⟨rfl, b2, by omega, fl⟩) oN9_ok z (Or.inl ⟨rfl, eD⟩) (by rw [eD]; exact Nat.zero_le _) (Nat.zero_le _)
      | false =>
        rw [eI] at hx c
        have nD : Δ ≠ [] := fun q => by rw [q] at eI; cases eI
        have d5 := dch_five he nD
        have m6 : 6 ≤ mch (pee f t).2 := h6.resolve_left (by rw [eI]; exact Bool.false_ne_true)
        unfold exD at hx
        rw [if_neg Bool.false_ne_true, Bool.and_eq_true, Bool.and_eq_true] at hx
        have e2 : tch B = 2 := Nat.eq_of_beq_eq_true hx.1
        have k24 := Nat.le_of_ble_eq_true hx.2.1
        have k31 := Nat.le_of_ble_eq_true hx.2.2
        by_cases d9 : dch Δ ≤ 9
        · have z := rng_all (rng_all exF_n (i := tch C) (by omega)) (i := mch (pee f t).2) (by omega)
          rw [Bool.or_eq_true, Bool.or_eq_true, Bool.or_eq_true, Bool.or_eq_true] at z
          rcases z with z | z | z | z | z
          · exact (blt_no k24 z).elim
          · exact (blt_no m6 z).elim
          · exact (blt_no (show 10 + tch C + 2 * mch (pee f t).2 ≤ 53 by omega) z).elim
          · exact o9_pair (Δ1 := []) (Γ0 := []) H sh ch eΓ lb (fun _ => ⟨rfl, b2, by omega, fl⟩) oE9_ok (by rw [e2]; exact z) (Or.inr ⟨rfl, nD⟩) d9 (Nat.zero_le _)
          · exact absurd (by rw [e2]; exact z) c
        · obtain ⟨⟨w', -⟩, -, tn, -, -⟩ := pee_ok f _ _ t wt
          have eΓ' : Γ = cxs [] [] (tAll B C) := eΓ
          refine h9_ntv H sh (NtV_pee f t wt he ?_)
          subst eΓ'
          exact nat_t9 e2 lb fl w' he nD (pee_cho f t [] ch) (by omega) (by omega)
    · exact R f x y Γ Δ t H sh (Or.inr ⟨ch, Or.inl (Or.inr (Or.inr h))⟩)
  obtain ⟨Δ1, Γ0, B, C, e, lb, nz, hx, eI, h3, h4⟩ := h
  have keep := fun b2 q => R f x y Γ Δ t H sh (Or.inr ⟨ch, Or.inr ⟨Δ1, Γ0, B, C, e, lb, nz, hx, eI, h3, b2, q⟩⟩)
  have H' := H
  obtain ⟨-, -, ⟨he, hv, hd', h20, h47, -⟩, -⟩ := H'
  obtain ⟨⟨wt, nt, tt, m3', m3, n9⟩, pm, hbt⟩ := h9_t H sh
  have nD : Δ ≠ [] := fun q => by rw [q] at eI; cases eI
  have d5 := dch_five he nD
  have ec : cch Γ = 8 + tch B + tch C + cch Γ0 + cch Δ1 := by
    have q := cch_cx (Γ0 := Γ0) (β := tAll B C) Δ1
    have q2 := tch_all B C
    rw [e]
    omega
  rcases h4 with ⟨b1, h4⟩ | ⟨b2, fl, h4⟩ | ⟨b4, fl, j, hj, s⟩ | ⟨b2, h4⟩
  · unfold tp2 at h4
    rw [Bool.and_eq_true, Bool.or_eq_true, Bool.and_eq_true, Bool.and_eq_true, Bool.and_eq_true, Bool.and_eq_true] at h4
    have t1 := tp_1
    rw [Bool.and_eq_true] at t1
    have t0 := tp_0
    rw [Bool.or_eq_false_iff] at t0
    rw [eI] at hx
    rcases h4.2 with h | h
    · have k1 := Nat.eq_of_beq_eq_true h.1
      have k2 := Nat.eq_of_beq_eq_true h.2.1
      have k3 := Nat.eq_of_beq_eq_true h.2.2
      have m6 : 6 ≤ mch (pee f t).2 := by
        refine Classical.byContradiction (fun q => ?_)
        unfold exl at hx
        rw [if_neg Bool.false_ne_true, if_pos (Nat.ble_eq_true_of_le (show mch (pee f t).2 ≤ 5 by omega)), b1, k1, k2, k3] at hx
        have hx : mem4 (eL0.getD 41 []) 1 9 23 0 = true := hx
        rw [t0.1] at hx
        cases hx
      have m66 : mch (pee f t).2 = 6 := by omega
      exact o9_pair H sh ch e lb (fl := false) (fun q => by cases q) oP9_ok (by rw [b1, k1, k2, k3, m66]; exact t1.1) (Or.inr ⟨rfl, nD⟩) (by omega) (by omega)
    · have k1 := Nat.eq_of_beq_eq_true h.1
      have k2 := Nat.eq_of_beq_eq_true h.2.1
      have k3 := Nat.eq_of_beq_eq_true h.2.2
      have m6 : 6 ≤ mch (pee f t).2 := by
        refine Classical.byContradiction (fun q => ?_)
        unfold exl at hx
        rw [if_neg Bool.false_ne_true, if_pos (Nat.ble_eq_true_of_le (show mch (pee f t).2 ≤ 5 by omega)), b1, k1, k2, k3] at hx
        have hx : mem4 (eL0.getD 41 []) 1 10 0 22 = true := hx
        rw [t0.2] at hx
        cases hx
      have m66 : mch (pee f t).2 = 6 := by omega
      exact o9_pair H sh ch e lb (fl := false) (fun q => by cases q) oP9_ok (by rw [b1, k1, k2, k3, m66]; exact t1.2) (Or.inr ⟨rfl, nD⟩) (by omega) (by omega)
  · exact keep b2 (Or.inl ⟨fl, h4⟩)
  · have hc := he.1
    rw [e] at hc
    obtain ⟨oc0, ob⟩ := okc_low Δ1 hc
    have oB := (ok_all.mp ob).1
    have obj := okc_bnd' oc0 hj
    have l := mem_cch (bnd_mem Γ0 j hj)
    have l9 := sN_chG oB _ _ _ (Nat.le_refl _) obj s
    rw [eI] at hx
    unfold exl at hx
    rw [if_neg Bool.false_ne_true] at hx
    by_cases m5 : mch (pee f t).2 ≤ 5
    · rw [if_pos (Nat.ble_eq_true_of_le m5)] at hx
      obtain ⟨L, hL, hm⟩ := eL_mem hx
      have z := List.all_eq_true.mp (List.all_eq_true.mp bf_0 L hL) _ hm
      rw [Bool.or_eq_true, Bool.or_eq_true] at z
      rcases z with z | z | z
      · exact (blt_no b4 z).elim
      · have z : cch Γ0 ≤ tch B + 8 := Nat.le_of_ble_eq_true z
        omega
      · have z : cch Δ1 = 0 := Nat.eq_of_beq_eq_true z
        omega
    · rw [if_neg (fun q => m5 (Nat.le_of_ble_eq_true q))] at hx
      obtain ⟨L, hL, hm⟩ := eL_mem hx
      have z := List.all_eq_true.mp (List.all_eq_true.mp bf_1 L hL) _ hm
      rw [Bool.or_eq_true, Bool.or_eq_true, Bool.and_eq_true] at z
      rcases z with z | z | ⟨z, z40⟩
      · exact (blt_no b4 z).elim
      · have z : cch Γ0 ≤ tch B + 8 := Nat.le_of_ble_eq_true z
        omega
      · have z40 := Nat.le_of_ble_eq_true z40
        have z40 : 40 ≤ 8 + tch B + tch C + cch Γ0 + cch Δ1 := z40
        have m66 : mch (pee f t).2 = 6 := by omega
        exact o9_pair H sh ch e lb (fl := false) (fun q => by cases q) oP9_ok (by rw [m66]; exact z) (Or.inr ⟨rfl, nD⟩) (by omega) (by omega)
  · exact keep b2 (Or.inr h4)
theorem pairn_pt (R : RESTT9) : PAIRn := pairn_ps (restS9_of R)
