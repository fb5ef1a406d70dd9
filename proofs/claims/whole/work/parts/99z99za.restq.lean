/-! RESTQ9: no names around is done for root schemes with several binders. -/
theorem flat_one {d : Nat} {t : Ty} (o : ok d t = true) (h : tch t ≤ 3) : (flat t).length = 1 := by
  rcases two_txt o h with rfl | ⟨j, hj, rfl⟩ | rfl
  · rfl
  · rfl
  · rfl
theorem flat_two {d : Nat} {t : Ty} (o : ok d t = true) (h : 4 ≤ tch t) : 2 ≤ (flat t).length := by
  rcases ok_cases o with rfl | ⟨j, hj, rfl⟩ | ⟨a, c, rfl, ha, hb⟩ | ⟨a, c, rfl, ha, hb⟩ | ⟨m, x, y, z, hm', rfl, h0, h1, h2⟩
  · exact absurd h (by decide)
  · exact absurd h (by show ¬ 4 ≤ 1; decide)
  · rw [flat_fun, List.length_cons, List.length_append]
    have := flat_pos ha
    omega
  · rw [flat_all, List.length_cons, List.length_append]
    have := flat_pos ha
    omega
  · rw [flat_rec, List.length_cons, List.length_append, List.length_append]
    have key : ∀ (i : Nat) (p : Ty), okl d m i p → (bit m i = true → 1 ≤ (flat p).length) ∧ (bit m i ≠ true → p = .nil) := by
      intro i p ho
      unfold okl at ho
      refine ⟨fun hb => ?_, fun hb => ?_⟩
      · rw [if_pos hb] at ho
        exact flat_pos ho
      · rw [if_neg hb] at ho
        exact ho
    by_cases b0 : bit m 0 = true
    · have := (key 0 x h0).1 b0
      omega
    by_cases b1 : bit m 1 = true
    · have := (key 1 y h1).1 b1
      omega
    by_cases b2 : bit m 2 = true
    · have := (key 2 z h2).1 b2
      omega
    rw [tch_rec, (key 0 x h0).2 b0, (key 1 y h1).2 b1, (key 2 z h2).2 b2] at h
    have k0 : ∀ m, m < 8 → bit m 0 ≠ true → bit m 1 ≠ true → bit m 2 ≠ true → rch m = 2 := by decide
    have e := k0 m hm' b0 b1 b2
    have z0 : tch (.nil : Ty) = 0 := rfl
    omega
theorem sN_eight {B : Ty} {d0 : Nat} (hB : 2 ≤ (flat B).length) : ∀ (f : Nat) (t : Ty) (D d : Nat), (flat t).length ≤ f → ok d t = true → tch t ≤ 8 → sN B d0 D t = false
  | 0, t, _, d, hf, o, _ => by have := flat_pos o; omega
  | f + 1, t, D, d, hf, o, h => by
    rcases ok_cases o with rfl | ⟨j, hj, rfl⟩ | ⟨a, c, rfl, ha, hb⟩ | ⟨a, c, rfl, ha, hb⟩ | ⟨m, x, y, z, hm', rfl, h0, h1, h2⟩
    · rfl
    · simp [tVar, sN]
    · rw [flat_fun, List.length_cons, List.length_append] at hf
      rw [tch_fun] at h
      rw [sN_fun, sN_eight hB f a D d (by omega) ha (by omega), sN_eight hB f c D d (by omega) hb (by omega)]
      rfl
    · rw [flat_all, List.length_cons, List.length_append] at hf
      rw [tch_all] at h
      have := tch_pos ha
      have := tch_pos hb
      have tq : tqN B d0 D a = false := by
        cases q : tqN B d0 D a with
        | false => rfl
        | true =>
          exfalso
          unfold tqN at q
          have l := congrArg List.length (of_decide_eq_true q)
          rw [List.length_map, List.length_map, flat_one ha (by omega)] at l
          omega
      rw [sN_all, tq, sN_eight hB f a D d (by omega) ha (by omega), sN_eight hB f c (D + 1) (d + 1) (by omega) hb (by omega)]
      rfl
    · rw [flat_rec, List.length_cons, List.length_append, List.length_append] at hf
      rw [tch_rec] at h
      have key : ∀ (i : Nat) (p : Ty), (flat p).length ≤ f → tch p ≤ 8 → okl d m i p → sN B d0 D p = false := by
        intro i p hp ht ho
        unfold okl at ho
        by_cases hb : bit m i = true
        · rw [if_pos hb] at ho
          exact sN_eight hB f p D d hp ho ht
        · rw [if_neg hb] at ho
          rw [ho]
          simp [sN]
      rw [sN_rec, key 0 x (by omega) (by omega) h0, key 1 y (by omega) (by omega) h1, key 2 z (by omega) (by omega) h2]
      rfl
def cn9 : Bool := eL2.all (fun l => l.all (fun a => Nat.ble a.1 1 || ((if Nat.ble a.1 3 then Nat.ble a.2.2.1 10 else Nat.ble a.2.2.1 12) && (ndk a.2.2.1 a.2.2.2 || (B7z a.1 a.2.1 a.2.2.1 a.2.2.2 && (Nat.ble 41 (8 + a.1 + a.2.1 + a.2.2.1 + a.2.2.2) && Nat.ble (8 + a.1 + a.2.1 + a.2.2.1 + a.2.2.2) 42))))))
theorem cn9_ok : cn9 = true := by decide +kernel
def cn8 : Bool := eL2.all (fun l => l.all (fun a => !(tp2 a.1 a.2.1 a.2.2.1 a.2.2.2)))
theorem cn8_ok : cn8 = true := by decide +kernel
theorem eL_mem {E : List (List (Nat × Nat × Nat × Nat))} {c be k q1 q2 : Nat} (q : mem4 (E.getD c []) be k q1 q2 = true) : ∃ l ∈ E, (be, k, q1, q2) ∈ l := by
  have hc : (E.getD c []) ∈ E ∨ E.getD c [] = [] := by
    by_cases c1 : c < E.length
    · left
      rw [List.getD_eq_getElem?_getD, List.getElem?_eq_getElem c1]
      exact List.getElem_mem c1
    · right
      rw [List.getD_eq_getElem?_getD, List.getElem?_eq_none (by omega)]
      rfl
  rcases hc with hc | hc
  · unfold mem4 at q
    obtain ⟨a, ha, e1⟩ := List.any_eq_true.mp q
    rw [Bool.and_eq_true, Bool.and_eq_true, Bool.and_eq_true] at e1
    refine ⟨_, hc, ?_⟩
    rw [Nat.eq_of_beq_eq_true e1.1, Nat.eq_of_beq_eq_true e1.2.1, Nat.eq_of_beq_eq_true e1.2.2.1, Nat.eq_of_beq_eq_true e1.2.2.2]
    exact ha
  · rw [hc] at q
    cases q
theorem rz_ntv {f : Nat} {t : Ty} {Γ : List Ty} {Δ : List (Nat × Ty × Nat)} (h : ∀ S, tyF f t Γ Δ = .inr S → S = rz) : NtV Γ Δ f t 887 597 := by
  intro S hS
  rw [h S hS]
  refine ⟨fun d => ?_, ?_⟩
  · show nz 0 (fun _ => 1 + 1) (2 + 1) (vlr d 1) _ (tRec 0 .nil .nil .nil) ≤ 887
    rw [nz_rec, nz_nil]
    decide
  · show nz 1 ngc 1 (fun x => x) _ (tRec 0 .nil .nil .nil) ≤ 597
    rw [nz_rec, nz_nil]
    decide
/-- one term by characters, the other one by nodes, either way -/
theorem pair_xo {f : Nat} {x y t B C : Ty} {Γ Γ0 Δ1 : List Ty} {Δ : List (Nat × Ty × Nat)} (H : H9 f x y Γ Δ) (ht : t = x ∨ t = y) (e : Γ = cxs Δ1 Γ0 (tAll B C)) (ov : OVq 1 B C Dsm Γ0) (nΔ : Δ ≠ []) (cf : CFt f t) (b2 : 2 ≤ tch B) (k40 : tch C ≤ 40) {n : Nat} (hn : mch t + n ≤ mch x + mch y) (hz : rx9 (tch B) (tch C) (cch Γ0) (cch Δ1) (mch t) n = true) : PRn f x y Γ Δ := by
  obtain ⟨hx, hy, ⟨he, hv, hd', h20, h47, -⟩, hb, -⟩ := H
  subst e
  have ec := cch_cx (Γ0 := Γ0) (β := tAll B C) Δ1
  have eσ := tch_all B C
  have le := rx_le hz
  rcases ht with rfl | rfl
  · have z1 := smc_v hx.1 he nΔ cf ov.1.1 b2 k40 (by omega) hz (by omega) h47
    have z2 := smn_v hy.1 he ov k40 hz h47
    exact pair_sumv ov hx.1 hy.1 he hx.2.1 hy.2.1 hv hd' (by omega) z1 z2 (by omega) (by omega)
  · have z1 := smc_v hy.1 he nΔ cf ov.1.1 b2 k40 (by omega) hz (by omega) h47
    have z2 := smn_v hx.1 he ov k40 hz h47
    exact pair_sumv ov hx.1 hy.1 he hx.2.1 hy.2.1 hv hd' (by omega) z2 z1 (by omega) (by omega)
def W9x (f : Nat) (x y t : Ty) (m : Nat) (e : Bool) (Γ : List Ty) : Prop := ∃ (Δ1 Γ0 : List Ty) (B C : Ty), Γ = cxs Δ1 Γ0 (tAll B C) ∧ LBd Γ0 Δ1 (tAll B C) tTop B C ∧ 1 ≤ cch Γ0 + cch Δ1 ∧ exl e m (tch B) (tch C) (cch Γ0) (cch Δ1) = true ∧ e = false ∧ (6 ≤ m ∨ 1 ≤ cch Δ1) ∧ ((tch B = 1 ∧ tp2 (tch B) (tch C) (cch Γ0) (cch Δ1) = true) ∨ (2 ≤ tch B ∧ sN B Γ0.length (Γ0.length + 1) C = true ∧ lx9 e m (tch B) (tch C) (cch Γ0) (cch Δ1) = true) ∨ (2 ≤ tch B ∧ sN B Γ0.length (Γ0.length + 1) C = false ∧ ∃ j, j < Γ0.length ∧ sN B Γ0.length j (bnd Γ0 j) = true) ∨ (2 ≤ tch B ∧ OVq 1 B C Dsm Γ0 ∧ ndk (cch Γ0) (cch Δ1) = false ∧ ((¬ CFt f t ∧ 6 ≤ m ∧ ∃ o, (o = x ∨ o = y) ∧ mch t + mch o = mch x + mch y ∧ (CFt f o → rx9 (tch B) (tch C) (cch Γ0) (cch Δ1) (mch o) (mch t) = false)) ∨ (CFt f t ∧ (¬ (CFt f x ∧ CFt f y) ∨ B7z (tch B) (tch C) (cch Γ0) (cch Δ1) = false) ∧ rx9 (tch B) (tch C) (cch Γ0) (cch Δ1) (mch t) (mch x + mch y - mch t) = false))))
def RESTQ9 : Prop := ∀ (f : Nat) (x y : Ty) (Γ : List Ty) (Δ : List (Nat × Ty × Nat)) (t : Ty), H9 f x y Γ Δ → Sh9 x y t → (¬ CHo f t [] ∨ (CHo f t [] ∧ (W9b (mch (pee f t).2) Δ.isEmpty Γ ∨ W9x f x y t (mch (pee f t).2) Δ.isEmpty Γ))) → PRn f x y Γ Δ
theorem restP9_of (R : RESTQ9) : RESTP9 := by
  intro f x y Γ Δ t H sh h
  rcases h with h | ⟨ch, h | h⟩
  · exact R f x y Γ Δ t H sh (Or.inl h)
  · exact R f x y Γ Δ t H sh (Or.inr ⟨ch, Or.inl h⟩)
  obtain ⟨Δ1, Γ0, B, C, e, lb, nz, hx, h3, h4⟩ := h
  obtain ⟨⟨wt, nt, tt, m3', m3, n9⟩, pm, hbt⟩ := h9_t H sh
  have H' := H
  obtain ⟨hx9, hy9, ⟨he, hv, hd', h20, h47, -⟩, hb, ng, nPS, nPG, -⟩ := H'
  have k40 := lb.2.2.2.1
  have ec := cch_cx (Γ0 := Γ0) (β := tAll B C) Δ1
  rw [← e] at ec
  have eσ := tch_all B C
  cases eI : Δ.isEmpty with
  | true =>
    have dΔ : Δ = [] := List.isEmpty_iff.mp eI
    have m8 := h9_e8 n9 ch h20 h47 m3 (by omega) eI
    rw [eI] at hx h4
    have hx2 := hx
    unfold exl at hx2
    rw [if_pos rfl] at hx2
    obtain ⟨l, hl, hm⟩ := eL_mem hx2
    have c8 := List.all_eq_true.mp (List.all_eq_true.mp cn8_ok l hl) _ hm
    have c9 := List.all_eq_true.mp (List.all_eq_true.mp cn9_ok l hl) _ hm
    have hc := he.1
    rw [e] at hc
    obtain ⟨oc0, ob⟩ := okc_low Δ1 hc
    rcases h4 with ⟨-, h4⟩ | ⟨-, -, h4⟩ | ⟨b2, -, j, hj, h4⟩ | ⟨b2, ov, nk, h4⟩
    · exfalso
      have c8 : (!(tp2 (tch B) (tch C) (cch Γ0) (cch Δ1))) = true := c8
      rw [h4] at c8
      cases c8
    · exfalso
      unfold lx9 at h4
      cases h4
    · exfalso
      have c9 : (Nat.ble (tch B) 1 || ((if Nat.ble (tch B) 3 then Nat.ble (cch Γ0) 10 else Nat.ble (cch Γ0) 12) && (ndk (cch Γ0) (cch Δ1) || (B7z (tch B) (tch C) (cch Γ0) (cch Δ1) && (Nat.ble 41 (8 + tch B + tch C + cch Γ0 + cch Δ1) && Nat.ble (8 + tch B + tch C + cch Γ0 + cch Δ1) 42))))) = true := c9
      rw [Bool.or_eq_true, Bool.and_eq_true] at c9
      rcases c9 with c9 | c9
      · have := Nat.le_of_ble_eq_true c9
        omega
      · have l := mem_cch (bnd_mem Γ0 j hj)
        have obj := okc_bnd' oc0 hj
        have oB := (ok_all.mp ob).1
        have c91 := c9.1
        by_cases b3 : tch B ≤ 3
        · rw [if_pos (Nat.ble_eq_true_of_le b3)] at c91
          have q9 := Nat.le_of_ble_eq_true c91
          have n3 := tch_three oB
          have eB := two_rec oB (by omega)
          rw [eB] at h4
          have r := sB_ch _ _ _ (Nat.le_refl _) obj (show ok 0 tR0 = true by decide) (sN_r0 _ _ _ (Nat.le_refl _) obj h4)
          have e2 : tch tR0 = 2 := rfl
          omega
        · rw [if_neg (fun q => b3 (Nat.le_of_ble_eq_true q))] at c91
          have q9 := Nat.le_of_ble_eq_true c91
          rw [sN_eight (flat_two oB (by omega)) _ _ j j (Nat.le_refl _) obj (by omega)] at h4
          cases h4
    · have c9 : (Nat.ble (tch B) 1 || ((if Nat.ble (tch B) 3 then Nat.ble (cch Γ0) 10 else Nat.ble (cch Γ0) 12) && (ndk (cch Γ0) (cch Δ1) || (B7z (tch B) (tch C) (cch Γ0) (cch Δ1) && (Nat.ble 41 (8 + tch B + tch C + cch Γ0 + cch Δ1) && Nat.ble (8 + tch B + tch C + cch Γ0 + cch Δ1) 42))))) = true := c9
      rw [nk, Bool.or_eq_true, Bool.and_eq_true, Bool.false_or, Bool.and_eq_true, Bool.and_eq_true] at c9
      rcases c9 with c9 | ⟨-, b7, l1, l2⟩
      · have := Nat.le_of_ble_eq_true c9
        omega
      have l1 := Nat.le_of_ble_eq_true l1
      have l2 := Nat.le_of_ble_eq_true l2
      have small : ∀ u, TWf f Γ.length (Δ.map (fun a => a.1)) u → TNo f u → mch u ≤ 9 → ¬ CFt f u → NtV Γ Δ f u 887 597 := by
        intro u wu tu mu cu
        subst dΔ
        exact rz_ntv (fun S hS => (cl_ty f u Γ S wu he.1 tu hS).2.1 mu cu)
      have mx := hx9.2.2.2.1
      have my := hy9.2.2.2.1
      have tm : 8 ≤ mch t := by omega
      have both : mch x ≤ 9 ∧ mch y ≤ 9 := by
        rcases sh with ⟨rfl, le⟩ | ⟨rfl, le⟩ <;> omega
      by_cases cx : CFt f x
      · by_cases cy : CFt f y
        · exact absurd ⟨Δ1, Γ0, B, C, e, ov, cx, cy, b2, k40, by omega, b7, by omega, by omega, fun _ => ⟨by omega, by omega⟩⟩ nPS
        · exact pair_ntv hx9.1 hy9.1 he hx9.2.1 hy9.2.1 hv hd' (by omega) (Or.inr (small y hy9.1 hy9.2.2.1 both.2 cy))
      · exact pair_ntv hx9.1 hy9.1 he hx9.2.1 hy9.2.1 hv hd' (by omega) (Or.inl (small x hx9.1 hx9.2.2.1 both.1 cx))
  | false =>
    have nΔ : Δ ≠ [] := fun q => by rw [q] at eI; cases eI
    rw [eI] at h3 hx h4
    have h3 := h3.resolve_left Bool.false_ne_true
    have keep := fun q => R f x y Γ Δ t H sh (Or.inr ⟨ch, Or.inr ⟨Δ1, Γ0, B, C, e, lb, nz, by rw [eI]; exact hx, eI, h3, q⟩⟩)
    rw [eI] at keep
    rcases h4 with h4 | h4 | h4 | ⟨b2, ov, nk, h4⟩
    · exact keep (Or.inl h4)
    · exact keep (Or.inr (Or.inl h4))
    · exact keep (Or.inr (Or.inr (Or.inl h4)))
    rcases h4 with h4 | ⟨cf, m6⟩ | h4
    · cases h4
    · have o9 : ∃ o, (o = x ∨ o = y) ∧ mch t + mch o = mch x + mch y := by
        rcases sh with ⟨rfl, -⟩ | ⟨rfl, -⟩
        · exact ⟨y, Or.inr rfl, rfl⟩
        · exact ⟨x, Or.inl rfl, Nat.add_comm _ _⟩
      obtain ⟨o, o1, o2⟩ := o9
      by_cases co : CFt f o
      · cases hz : rx9 (tch B) (tch C) (cch Γ0) (cch Δ1) (mch o) (mch t) with
        | true => exact pair_xo H o1 e ov nΔ co b2 k40 (by omega) hz
        | false => exact keep (Or.inr (Or.inr (Or.inr ⟨b2, ov, nk, Or.inl ⟨cf, m6, o, o1, o2, fun _ => hz⟩⟩)))
      · exact keep (Or.inr (Or.inr (Or.inr ⟨b2, ov, nk, Or.inl ⟨cf, m6, o, o1, o2, fun c => absurd c co⟩⟩)))
    · exact keep (Or.inr (Or.inr (Or.inr ⟨b2, ov, nk, Or.inr h4⟩)))
theorem pairn_pq (R : RESTQ9) : PAIRn := pairn_pp (restP9_of R)
