/-! A CHOICE WITH AN EMPTY RECORD: its type is Top or the empty record. -/
def tE : Ty := tRec 0 .nil .nil .nil
section PmHa
variable {Γ : List Ty} {S T R : Ty}
theorem rec_zero {d : Nat} {t : Ty} (o : ok d t = true) (h : hd t = 8) : t = tE := by
  rcases ok_cases o with rfl | ⟨k, hk, rfl⟩ | ⟨a, b, rfl, -, -⟩ | ⟨a, b, rfl, -, -⟩ | ⟨m, x, y, z, hm, rfl, q0, q1, q2⟩
  · rw [hd_top] at h; omega
  · rw [hd_var] at h; omega
  · rw [hd_fun] at h; omega
  · rw [hd_all] at h; omega
  · rw [hd_rec] at h
    have m0 : m = 0 := by omega
    subst m0
    have e0 : x = .nil := q0
    have e1 : y = .nil := q1
    have e2 : z = .nil := q2
    rw [e0, e1, e2]
    rfl
theorem top_zero {d : Nat} {t : Ty} (o : ok d t = true) (h : hd t = 0) : t = tTop := by
  rcases ok_cases o with rfl | ⟨k, hk, rfl⟩ | ⟨a, b, rfl, -, -⟩ | ⟨a, b, rfl, -, -⟩ | ⟨m, x, y, z, hm, rfl, q0, q1, q2⟩
  · rfl
  · rw [hd_var] at h; omega
  · rw [hd_fun] at h; omega
  · rw [hd_all] at h; omega
  · rw [hd_rec] at h; omega
theorem hd_tE : hd tE = 8 := rfl
/-- what stands above the empty record -/
theorem tE_bel (tk : tok (Γ, tE, T)) (e : bel Γ tE T = true) : T = tTop ∨ T = tE := by
  have oT : ok Γ.length T = true := tk.2.2
  by_cases c0 : hd T = 0
  · exact Or.inl (top_zero oT c0)
  by_cases c8 : 8 ≤ hd T ∧ hd T < 16
  · obtain ⟨m, x, y, z, hm, rfl⟩ := hd_is_rec oT c8.1 c8.2
    rw [bel_eq tk] at e
    unfold stp at e
    rw [hd_tE, hd_rec, if_neg (by omega), if_neg (by omega), if_pos (by omega)] at e
    by_cases q : (8 - 8) &&& (8 + m - 8) = 8 + m - 8
    · have m0 : m = 0 := by
        have z0 : (8 - 8 : Nat) &&& (8 + m - 8) = 0 := Nat.zero_and _
        omega
      exact Or.inr (rec_zero oT (by rw [hd_rec]; omega))
    · rw [if_neg q] at e
      cases e
  · exfalso
    have h8 : hd T ≠ 8 := by omega
    rw [bel_no tk c0 (by rw [hd_tE]; omega) (by omega) (by rw [hd_tE]; omega)] at e
    cases e
/-- the join with the empty record -/
theorem cu_tE : ∀ (f : Nat) (S T R : Ty), tok (Γ, S, T) → (S = tE ∨ T = tE) → cu f 0 Γ S T = some R → R = tTop ∨ R = tE
  | 0, _, _, _, _, _, e => by cases e
  | f + 1, S, T, R, tk, hE, e => by
    have hc : okc Γ := tk.1
    have oS : ok Γ.length S = true := tk.2.1
    have oT : ok Γ.length T = true := tk.2.2
    have e : cmsU (cu f) 0 Γ S T = some R := e
    unfold cmsU at e
    rw [if_neg (by omega)] at e
    by_cases c2 : bel Γ S T = true
    · rw [if_pos c2, if_pos rfl] at e
      cases e
      rcases hE with q | q
      · subst q
        exact tE_bel tk c2
      · exact Or.inr q
    rw [if_neg c2] at e
    by_cases c3 : bel Γ T S = true
    · rw [if_pos c3, if_pos rfl] at e
      cases e
      rcases hE with q | q
      · exact Or.inr q
      · subst q
        exact tE_bel ⟨hc, oT, oS⟩ c3
    rw [if_neg c3] at e
    by_cases c4 : 16 ≤ hd S
    · rw [if_pos c4, if_neg (by omega)] at e
      obtain ⟨k, hk, rfl⟩ := hd_is_var oS c4
      rw [exps_var] at e
      refine cu_tE f _ T R ⟨hc, ok_expose hc hk, oT⟩ (Or.inr ?_) e
      rcases hE with q | q
      · rw [q, hd_tE] at c4
        omega
      · exact q
    rw [if_neg c4] at e
    by_cases c6 : 16 ≤ hd T
    · rw [if_pos c6, if_neg (by omega)] at e
      obtain ⟨k, hk, rfl⟩ := hd_is_var oT c6
      rw [exps_var] at e
      refine cu_tE f S _ R ⟨hc, oS, ok_expose hc hk⟩ (Or.inl ?_) e
      rcases hE with q | q
      · exact q
      · rw [q, hd_tE] at c6
        omega
    rw [if_neg c6] at e
    by_cases c7 : 8 ≤ hd S ∧ 8 ≤ hd T
    · rw [if_pos c7] at e
      have l0 : lset 0 (hd S - 8) (hd T - 8) = 0 := by
        show (hd S - 8) &&& (hd T - 8) = 0
        rcases hE with q | q
        · rw [q, hd_tE]
          exact Nat.zero_and _
        · rw [q, hd_tE]
          exact Nat.and_zero _
      rw [l0] at e
      have e : some (tRec 0 .nil .nil .nil) = some R := e
      cases e
      exact Or.inr rfl
    rw [if_neg c7] at e
    have no : ¬ (hd S = 1 ∧ hd T = 1) ∧ ¬ (hd S = 2 ∧ hd T = 2 ∧ flat (k1 S) = flat (k1 T)) := by
      rcases hE with q | q
      · rw [q, hd_tE]
        exact ⟨fun c => by omega, fun c => by omega⟩
      · rw [q, hd_tE]
        exact ⟨fun c => by omega, fun c => by omega⟩
    rw [if_neg no.1, if_neg no.2] at e
    exact Or.inl (tnu_some e)
end PmHa
/-- the empty record as a term -/
def isE (t : Ty) : Prop := nKd t = 10 ∧ nMk t = 0
section PmHb
variable {f D p : Nat} {t x y C : Ty} {sc : List Nat} {Γ Γ0 Δ1 : List Ty} {Δ : List (Nat × Ty × Nat)} {S : Ty}
theorem isE_ty (h : isE t) (hS : tyF f t Γ Δ = .inr S) : S = tE := by
  cases f with
  | zero => cases hS
  | succ f =>
    obtain ⟨k, m⟩ := h
    unfold tyF at hS
    rw [if_neg (by omega), if_neg (by omega), if_neg (by omega), if_neg (by omega), if_neg (by omega), if_pos k, m] at hS
    obtain ⟨A, eA, hS⟩ := tbd_in hS
    obtain ⟨B, eB, hS⟩ := tbd_in hS
    obtain ⟨C, eC, hS⟩ := tbd_in hS
    have eA : Sum.inr Std.Format.nil = Sum.inr A := eA
    have eB : Sum.inr Std.Format.nil = Sum.inr B := eB
    have eC : Sum.inr Std.Format.nil = Sum.inr C := eC
    cases eA
    cases eB
    cases eC
    exact (szt_in hS).1.symm
theorem choE_ty (w : TWf (f + 1) Γ.length (Δ.map (fun a => a.1)) t) (he : TE Γ Δ) (k : nKd t = 12) (h : isE (nX t) ∨ isE (nY t)) (hS : tyF (f + 1) t Γ Δ = .inr S) : S = tTop ∨ S = tE := by
  obtain ⟨-, -, -, w7, -⟩ := w
  obtain ⟨wx, wy⟩ := w7 (Or.inr k)
  unfold tyF at hS
  rw [if_neg (by omega), if_neg (by omega), if_neg (by omega), if_neg (by omega), if_neg (by omega), if_neg (by omega), if_neg (by omega)] at hS
  obtain ⟨A, eA, hS⟩ := tbd_in hS
  obtain ⟨B, eB, hS⟩ := tbd_in hS
  have oA := (tyF_ok f _ Γ Δ A wx he eA).1
  have oB := (tyF_ok f _ Γ Δ B wy he eB).1
  refine cu_tE _ A B S ⟨he.1, oA, oB⟩ ?_ (tyO_in hS).1
  rcases h with h | h
  · exact Or.inl (isE_ty h eA)
  · exact Or.inr (isE_ty h eB)
/-- a term of two characters -/
theorem two_ch (w : TWf f D sc t) (h : mch t ≤ 2) : nKd t = 5 ∨ isE t := by
  cases f with
  | zero => exact w.elim
  | succ f =>
    obtain ⟨⟨⟨k5', k12⟩, w0, -⟩, -, w6, w7, w8, w9, w10, w11, -⟩ := w
    have pos : ∀ D sc u, TWf f D sc u → 1 ≤ mch u := by
      intro D sc u wu
      cases f with
      | zero => exact wu.elim
      | succ f => exact mch_pos wu
    have em := mch_is w0
    by_cases k5 : nKd t = 5
    · exact Or.inl k5
    rw [if_neg k5] at em
    by_cases k6 : nKd t = 6 ∨ nKd t = 8
    · rw [if_pos k6] at em; omega
    rw [if_neg k6] at em
    by_cases k9 : nKd t = 9
    · rw [if_pos k9] at em
      have := tch_pos (w9 k9).2.1
      have := pos _ _ _ (w9 k9).1
      omega
    rw [if_neg k9] at em
    by_cases k10 : nKd t = 10
    · rw [if_pos k10] at em
      by_cases m0 : nMk t = 0
      · exact Or.inr ⟨k10, m0⟩
      · rw [if_neg m0] at em
        have key : ∀ m, m < 8 → m ≠ 0 → 1 ≤ nlb m := by decide
        have := key _ (w10 k10).1 m0
        omega
    rw [if_neg k10] at em
    by_cases k11 : nKd t = 11
    · have := pos _ _ _ (w11 k11).2
      omega
    · have := pos _ _ _ (w7 (by omega)).1
      omega
/-- one name around: a term of five characters with a choice -/
theorem five_cho (w : TWf (f + 1) D [p] t) (tn : TNo (f + 1) t) (nc : ¬ CFt (f + 1) t) (h : mch t ≤ 5) : nKd t = 12 ∧ (isE (nX t) ∨ isE (nY t)) := by
  have pos : ∀ D sc u, TWf f D sc u → 1 ≤ mch u := by
    intro D sc u wu
    cases f with
    | zero => exact wu.elim
    | succ f => exact mch_pos wu
  obtain ⟨⟨⟨k5', k12⟩, w0, -⟩, -, w6, w7, w8, w9, w10, w11, -⟩ := w
  obtain ⟨n6, n7, n9, n10, n12⟩ := tn
  have em := mch_is w0
  have one : ∀ D u, TWf f D [p] u → TNo f u → mch u ≤ 4 → CFt f u := fun D u wu nu q => (chr_one f D p u wu nu).1.resolve_right (by omega)
  by_cases k5 : nKd t = 5
  · exact absurd ⟨fun c => by omega, fun c => by omega, fun c => by omega, by omega⟩ nc
  rw [if_neg k5] at em
  by_cases k6 : nKd t = 6 ∨ nKd t = 8
  · exfalso
    rw [if_pos k6] at em
    rcases k6 with k6 | k6
    · have := tch_pos (w6 k6).2.1
      have := pos _ _ _ (w6 k6).2.2.2
      omega
    · have := tch_pos (w8 k6).1
      have := pos _ _ _ (w8 k6).2.2
      omega
  rw [if_neg k6] at em
  by_cases k9 : nKd t = 9
  · rw [if_pos k9] at em
    exact absurd ⟨fun c => by omega, fun _ => one _ _ (w9 k9).1 (n9 (Or.inl k9)) (by omega), fun c => by omega, by omega⟩ nc
  rw [if_neg k9] at em
  by_cases k10 : nKd t = 10
  · rw [if_pos k10] at em
    refine absurd ⟨fun c => by omega, fun c => by omega, fun _ g hg hb => ?_, by omega⟩ nc
    have big : mch (nP t g) ≤ mch (nX t) + (mch (nY t) + mch (nZ t)) := by
      match g, hg with
      | 0, _ => show mch (nX t) ≤ _; omega
      | 1, _ => show mch (nY t) ≤ _; omega
      | 2, _ => show mch (nZ t) ≤ _; omega
    refine one _ _ ((w10 k10).2 g hg hb) (n10 k10 g hg hb) ?_
    have : 1 ≤ (if nMk t = 0 then 2 else 1 + 3 * nlb (nMk t)) := by split <;> omega
    omega
  rw [if_neg k10] at em
  by_cases k11 : nKd t = 11
  · exact absurd ⟨fun c => by omega, fun _ => one _ _ (w11 k11).2 (n9 (Or.inr k11)) (by omega), fun c => by omega, by omega⟩ nc
  by_cases k7 : nKd t = 7
  · have := pos _ _ _ (w7 (Or.inl k7)).2
    exact absurd ⟨fun c => by omega, fun _ => one _ _ (w7 (Or.inl k7)).1 (n7 (Or.inl k7)).1 (by omega), fun c => by omega, by omega⟩ nc
  have k : nKd t = 12 := by omega
  refine ⟨k, ?_⟩
  obtain ⟨wx, wy⟩ := w7 (Or.inr k)
  have px := pos _ _ _ wx
  have py := pos _ _ _ wy
  rcases two_ch wx (by omega) with a | a
  · rcases two_ch wy (by omega) with b | b
    · exfalso
      have mk : ∀ u, TWf f D [p] u → nKd u = 5 → nMk u = p := by
        intro u wu ku
        cases f with
        | zero => exact wu.elim
        | succ f => exact List.mem_singleton.mp (wu.2.1 ku)
      exact n12 k (smW_is.mpr ⟨a, b, by rw [mk _ wx a, mk _ wy b]⟩)
    · exact Or.inr b
  · exact Or.inl a
theorem mz_nil (d : Bool) (e : Nat) (Γ : List Ty) : mz d e Γ .nil = 0 := by
  unfold mz
  simp [nz]
theorem gz_nil (Γ : List Ty) : gz Γ .nil = 0 := by
  unfold gz
  simp [nz]
theorem choE_v {Dm B : Ty} (w : TWf f (cxs Δ1 Γ0 (tAll B C)).length (Δ.map (fun a => a.1)) t) (he : TE (cxs Δ1 Γ0 (tAll B C)) Δ) (tn : TNo f t) (nc : ¬ CFt f t) (h : mch t ≤ 5) {a : Nat × Ty × Nat} (e : Δ = [a]) : SmV Dm B C Γ0 Δ1 Δ f t 2 1 := by
  intro S hS
  cases f with
  | zero => exact w.elim
  | succ f =>
    have w' : TWf (f + 1) (cxs Δ1 Γ0 (tAll B C)).length [a.1] t := by
      rw [e] at w
      exact w
    obtain ⟨k, q⟩ := five_cho w' tn nc h
    rcases choE_ty w he k q hS with r | r
    · subst r
      refine ⟨fun d => ?_, ?_⟩
      · unfold mz
        rw [nz_top]
        omega
      · unfold gz
        rw [nz_top]
        exact Nat.le_refl _
    · subst r
      unfold tE
      refine ⟨fun d => ?_, ?_⟩
      · rw [mz_rec, mz_nil]
        exact Nat.le_refl _
      · rw [gz_rec, gz_nil]
        decide
/-- (27, 0, 9): a term of three and one of five characters with a choice -/
theorem pair_five (H : OVq 1 tTop C Dsm Γ0) (x1 : TWf f (cxs Δ1 Γ0 (tAll tTop C)).length (Δ.map (fun a => a.1)) x) (x2 : TWf f (cxs Δ1 Γ0 (tAll tTop C)).length (Δ.map (fun a => a.1)) y) (he : TE (cxs Δ1 Γ0 (tAll tTop C)) Δ) (y1 : NAt f x) (y2 : NAt f y) (hv : noac (cxs Δ1 Γ0 (tAll tTop C))) (hd' : ∀ a ∈ Δ, noal a.2.1 = true) (t1 : TNo f x) (t2 : TNo f y) (nΔ : Δ ≠ []) (hz : memt [(27, 0, 9)] (tch C) (cch Γ0) (cch Δ1) = true) (m3 : 3 ≤ mch x) (n3 : 3 ≤ mch y) (h8 : mch x + mch y = 8) (hb : cch (cxs Δ1 Γ0 (tAll tTop C)) + dch Δ + (2 + (mch x + mch y)) ≤ 60) (h49 : cch (cxs Δ1 Γ0 (tAll tTop C)) ≤ 47) (cf : ¬ (CFt f x ∧ CFt f y)) : PRn f x y (cxs Δ1 Γ0 (tAll tTop C)) Δ := by
  have ec := ec_top C Γ0 Δ1
  have d5 := dch_five he nΔ
  have key : [(27, 0, 9)].all (fun s => Nat.beq 27 s.1 && Nat.beq 45 (9 + s.1 + s.2.1 + s.2.2)) = true := by decide
  have q := List.all_eq_true.mp key _ (memt_mem hz)
  rw [Bool.and_eq_true] at q
  have k27 : 27 = tch C := Nat.eq_of_beq_eq_true q.1
  have c45 : 45 = 9 + tch C + cch Γ0 + cch Δ1 := Nat.eq_of_beq_eq_true q.2
  obtain ⟨a, e⟩ := dch_one he nΔ (by omega)
  have e1 : bxe Δ uy1 ux1 = ux1 := by
    unfold bxe
    rw [if_neg (by intro c; exact nΔ (List.isEmpty_iff.mp c))]
  have e2 : bxe Δ uyq uxq = uxq := by
    unfold bxe
    rw [if_neg (by intro c; exact nΔ (List.isEmpty_iff.mp c))]
  have g1 : CFt f x ∨ 5 ≤ mch x := by
    rw [e] at x1
    exact (chr_one f _ _ x x1 t1).1
  have g2 : CFt f y ∨ 5 ≤ mch y := by
    rw [e] at x2
    exact (chr_one f _ _ y x2 t2).1
  have one : ∀ t, TWf f (cxs Δ1 Γ0 (tAll tTop C)).length (Δ.map (fun a => a.1)) t → NAt f t → mch t = 3 → CFt f t → SmV Dsm tTop C Γ0 Δ1 Δ f t 443 298 := by
    intro t w na m c
    have z := SMd.v w he (Or.inl c) na hv hd' H.1.1 Dsm_va Dsm_vg (by omega) (by omega) (by omega) h49
    rw [e1, e2, m] at z
    have a1 := (jxs_get jx1_s (c := cch (cxs Δ1 Γ0 (tAll tTop C))) (m := 3) (n := 3) (by omega) (by omega) (by omega)).1 (by omega)
    have a2 := (jxs_get jxq_s (c := cch (cxs Δ1 Γ0 (tAll tTop C))) (m := 3) (n := 3) (by omega) (by omega) (by omega)).1 (by omega)
    intro S hS
    obtain ⟨p, q⟩ := z S hS
    exact ⟨fun d => Nat.le_trans (p d) (by omega), Nat.le_trans q (by omega)⟩
  by_cases c : CFt f x
  · have nc : ¬ CFt f y := fun q => cf ⟨c, q⟩
    have m5 := g2.resolve_left nc
    exact pair_sumv H x1 x2 he y1 y2 hv hd' (by omega) (one x x1 y1 (by omega) c) (choE_v x2 he t2 nc (by omega) e) (by omega) (by omega)
  · have m5 := g1.resolve_left c
    have cy : CFt f y := g2.resolve_right (by omega)
    exact pair_sumv H x1 x2 he y1 y2 hv hd' (by omega) (choE_v x1 he t1 c (by omega) e) (one y x2 y2 (by omega) cy) (by omega) (by omega)
end PmHb
