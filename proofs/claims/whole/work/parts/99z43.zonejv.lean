/-! ANY CONTEXT, BY THE SCHEME WITH THE LONGEST BODY: what the entries are asked. -/
/-- leaves of the schemes elsewhere -/
def oj1 (k q : Nat) : Nat := lmx fr1 (min k (q - 9))
def ojz (k ov q1 q2 : Nat) : Nat := max (oj1 k q1) (max (oj1 k q2) (lmx fr1 (ov - 10)))
def kpz (F : FrT) (t0 y1 ov : Nat) : Nat := if Nat.beq ov 0 then t0 else Zx F y1 (ov + 3)
def wbz (F : FrT) (hv y1 be : Nat) : Nat := if Nat.beq be 1 then hv + 1 else hv + max 1 (Zx F y1 (be + 2))
def lsz (F : FrT) (hv s2 κ wB y1 ob k : Nat) (v u : Nat × Nat) (p : Nat) (s : T6) : Bool := Nat.ble (u.2 + u.1 * max y1 (hv + (κ + (s2 + (v.2 + (v.1 - p) * y1 + p * wB))))) s.1 && (Nat.ble (v.2 + (v.1 - p) * y1) s.2.2.1 && (Nat.ble p s.2.2.2.1 && (Nat.ble ob s.2.2.2.2.1 && (Nat.ble k s.2.2.2.2.2 && (Nat.ble wB s.1 && (Nat.ble s.2.2.2.2.2 50 && (frg F s.2.2.2.2.2).any (fun w => Nat.ble (ob + 1) w.1)))))))
def liz (L : LnT) (XR F W : FrT) (hv s2 κ wB y1 ob k q2 c : Nat) : Bool := (frg XR k).all (fun v => (List.range (v.1 + 1)).all (fun p => (frg W q2).all (fun u => (lng L c).any (fun s => lsz F hv s2 κ wB y1 ob k v u p s))))
theorem liz_get {L : LnT} {XR F W : FrT} {hv s2 κ wB y1 ob k q2 c : Nat} (h : liz L XR F W hv s2 κ wB y1 ob k q2 c = true) : ∀ v ∈ frg XR k, ∀ p, p ≤ v.1 → ∀ u ∈ frg W q2, ∃ s : T6, s ∈ lng L c ∧ TiD hv s2 κ wB y1 ob k p v u s ∧ ∃ w0 ∈ frg F s.2.2.2.2.2, ob + 1 ≤ w0.1 := by
  intro v hv p hp u hu
  unfold liz at h
  obtain ⟨s, hs, q⟩ := List.any_eq_true.mp (List.all_eq_true.mp (rng_all (List.all_eq_true.mp h v hv) (i := p) (by omega)) u hu)
  unfold lsz at q
  rw [Bool.and_eq_true, Bool.and_eq_true, Bool.and_eq_true, Bool.and_eq_true, Bool.and_eq_true, Bool.and_eq_true, Bool.and_eq_true] at q
  obtain ⟨q1, q2, q3, q4, q5, q6, q7, q8⟩ := q
  obtain ⟨w0, hw0, hw1⟩ := List.any_eq_true.mp q8
  exact ⟨s, hs, ⟨Nat.le_of_ble_eq_true q1, Nat.le_of_ble_eq_true q2, Nat.le_of_ble_eq_true q3, Nat.le_of_ble_eq_true q4, Nat.le_of_ble_eq_true q5, Nat.le_of_ble_eq_true q6, Nat.le_of_ble_eq_true q7⟩, w0, hw0, Nat.le_of_ble_eq_true hw1⟩
def lnf (un e : Bool) (L : LnT) (F W : FrT) (hv fn s2 r0 r1 r2 r3 Bd a b m0 m1 : Nat) : Bool := (List.range b).all (fun c => Nat.blt c a || (lng L c).all (fun s => (List.range m1).all (fun m => Nat.blt m m0 || (Nat.blt 58 (c + 2 * m) || (if e then Nat.ble (dpD un F W 5 hv fn s2 r0 r1 r2 r3 s.2.2.1 s.2.2.2.1 s.1 s.2.2.2.2.1 s.2.2.2.2.2 s.1 0 m) Bd else (Nat.blt (58 - 2 * m - c) 5 || Nat.ble (dpD un F W 0 hv fn s2 r0 r1 r2 r3 s.2.2.1 s.2.2.2.1 s.1 s.2.2.2.2.1 s.2.2.2.2.2 s.1 (58 - 2 * m - c) m) Bd))))))
theorem lnf_get {un e : Bool} {L : LnT} {F W : FrT} {hv fn s2 r0 r1 r2 r3 Bd a b m0 m1 c m : Nat} (h : lnf un e L F W hv fn s2 r0 r1 r2 r3 Bd a b m0 m1 = true) (ha : a ≤ c) (hb : c < b) (h0 : m0 ≤ m) (h1 : m < m1) (hc : c + 2 * m ≤ 58) {s : T6} (hs : s ∈ lng L c) : (e = false → 5 ≤ 58 - 2 * m - c → dpD un F W 0 hv fn s2 r0 r1 r2 r3 s.2.2.1 s.2.2.2.1 s.1 s.2.2.2.2.1 s.2.2.2.2.2 s.1 (58 - 2 * m - c) m ≤ Bd) ∧ (e = true → dpD un F W 5 hv fn s2 r0 r1 r2 r3 s.2.2.1 s.2.2.2.1 s.1 s.2.2.2.2.1 s.2.2.2.2.2 s.1 0 m ≤ Bd) := by
  unfold lnf at h
  have q := rng_all h (i := c) hb
  rw [Bool.or_eq_true] at q
  rcases q with q | q
  · exact (blt_no ha q).elim
  have q := rng_all (List.all_eq_true.mp q s hs) (i := m) h1
  rw [Bool.or_eq_true, Bool.or_eq_true] at q
  rcases q with q | q | q
  · exact (blt_no h0 q).elim
  · exact (blt_no hc q).elim
  cases e with
  | true => exact ⟨(fun e => by cases e), fun _ => Nat.le_of_ble_eq_true q⟩
  | false =>
    refine ⟨fun _ h5 => ?_, (fun e => by cases e)⟩
    have q : (Nat.blt (58 - 2 * m - c) 5 || Nat.ble (dpD un F W 0 hv fn s2 r0 r1 r2 r3 s.2.2.1 s.2.2.2.1 s.1 s.2.2.2.2.1 s.2.2.2.2.2 s.1 (58 - 2 * m - c) m) Bd) = true := q
    rw [Bool.or_eq_true] at q
    rcases q with q | q
    · exact (blt_no h5 q).elim
    · exact Nat.le_of_ble_eq_true q
theorem lmx_xf : ∀ j, j < 41 → lmx xr1 j ≤ lmx fr1 j := by decide +kernel
/-- the scheme with the longest body: where it stands, what stands elsewhere -/
def LBd (Γ0 Δ1 : List Ty) (b b' B C : Ty) : Prop := DSp Γ0.length (tAll B C) b' b ∧ (tch b = tch (tAll B C) → b' = tTop) ∧ (tch B = 1 → B = tTop) ∧ tch C ≤ 40 ∧ (∀ a ∈ Γ0, IS2 (fun s => ∀ B' C', s = tAll B' C' → tch C' ≤ tch C) a) ∧ ∀ a ∈ Δ1, IS2 (fun s => ∀ B' C', s = tAll B' C' → tch C' ≤ tch C) a
section PmHr
variable {f : Nat} {t b b' B C : Ty} {Γ0 Δ1 : List Ty} {Δ : List (Nat × Ty × Nat)} {un e : Bool} {LR LG : LnT} {c0 c1 m0 m1 : Nat}
theorem OBs_of {d q k : Nat} {a : Ty} (o : ok d a = true) (hq : tch a + 4 ≤ q) (k40 : k ≤ 40) (h : IS2 (fun s => ∀ B' C', s = tAll B' C' → tch C' ≤ k) a) {ob : Nat} (hob : oj1 k q ≤ ob) : OBs ob a := by
  refine IS2_okt _ d a (Nat.le_refl _) o (fun s os ts _ p => fun B' C' es => ?_) h
  have c1 := p B' C' es
  subst es
  have pB := tch_pos (ok_all.mp os).1
  rw [tch_all] at ts
  have m1 := lmx_mono fr1 (show tch C' ≤ min k (q - 9) by omega)
  have m2 := lmx_xf (tch C') (by omega)
  unfold oj1 at hob
  exact ⟨by omega, by omega, by omega⟩
theorem zone_j (lb : LBd Γ0 Δ1 b b' B C) (w : TWf f (cxs Δ1 Γ0 b).length (Δ.map (fun a => a.1)) t) (he : TE (cxs Δ1 Γ0 b) Δ) (hΔ : (e = true ∧ Δ = []) ∨ (e = false ∧ Δ ≠ [])) (cu : un = true ∨ COk f t 0) (ch : CHo f t []) (zR : liz LR xr1 fr1 fg1 1 3 (kpz fr1 0 (max 1 (fx1.getD (cch Γ0) 0)) (tch b - tch (tAll B C))) (wbz fr1 1 (max 1 (fx1.getD (cch Γ0) 0)) (tch B)) (max 1 (fx1.getD (cch Γ0) 0)) (ojz (tch C) (tch b - tch (tAll B C)) (cch Γ0) (cch Δ1)) (tch C) (cch Δ1) (cch (cxs Δ1 Γ0 b)) = true) (zG : liz LG xrq frq fgq 0 1 (kpz frq 1 (max 1 (fxq.getD (cch Γ0) 0)) (tch b - tch (tAll B C))) (wbz frq 0 (max 1 (fxq.getD (cch Γ0) 0)) (tch B)) (max 1 (fxq.getD (cch Γ0) 0)) (ojz (tch C) (tch b - tch (tAll B C)) (cch Γ0) (cch Δ1)) (tch C) (cch Δ1) (cch (cxs Δ1 Γ0 b)) = true) (tR : lnf un e LR fr1 fg1 1 2 3 2 2 2 2 887 c0 c1 m0 m1 = true) (tG : lnf un e LG frq fgq 0 1 1 1 3 2 1 597 c0 c1 m0 m1 = true) (h0 : c0 ≤ cch (cxs Δ1 Γ0 b)) (h1 : cch (cxs Δ1 Γ0 b) < c1) (g0 : m0 ≤ mch t) (g1 : mch t < m1) (h47 : cch (cxs Δ1 Γ0 b) ≤ 47) (q38 : cch Δ1 ≤ 38) (hb : cch (cxs Δ1 Γ0 b) + dch Δ + 2 * mch t ≤ 58) : NtV (cxs Δ1 Γ0 b) Δ f t 887 597 := by
  obtain ⟨ds, eT, eB, k40, i0, i1⟩ := lb
  obtain ⟨oc0, oB⟩ := okc_low Δ1 he.1
  have ec := cch_cx (Γ0 := Γ0) (β := b) Δ1
  have oσ := ds.2.1
  have oBB := (ok_all.mp oσ).1
  have oC := (ok_all.mp oσ).2
  have pB := tch_pos oBB
  have pC := tch_pos oC
  have cσ := ds.ch
  have pb' := ds.2.2.1
  have eσ := tch_all B C
  have b0 : ∀ a ∈ Γ0, OBs (ojz (tch C) (tch b - tch (tAll B C)) (cch Γ0) (cch Δ1)) a := fun a ha => by
    obtain ⟨d, o1, o2⟩ := okc_mch oc0 ha
    exact OBs_of o1 o2 k40 (i0 a ha) (Nat.le_max_left _ _)
  have b1 : ∀ a ∈ Δ1, OBs (ojz (tch C) (tch b - tch (tAll B C)) (cch Γ0) (cch Δ1)) a := fun a ha => by
    obtain ⟨d, o1, o2⟩ := okc_top Δ1 he.1 a ha
    exact OBs_of o1 o2 k40 (i1 a ha) (Nat.le_trans (Nat.le_max_left _ _) (Nat.le_max_right _ _))
  have bs : ∀ B' C', ok Γ0.length (tAll B' C') = true → tch C' ≤ tch C → tch (tAll B' C') + tch (tAll B C) + 5 ≤ tch b → tch C' ≤ 40 ∧ lmx xr1 (tch C') ≤ ojz (tch C) (tch b - tch (tAll B C)) (cch Γ0) (cch Δ1) ∧ lmx fr1 (tch C') ≤ ojz (tch C) (tch b - tch (tAll B C)) (cch Γ0) (cch Δ1) := by
    intro B' C' o' l1 l2
    have p1 := tch_pos (ok_all.mp o').1
    have e1 := tch_all B' C'
    have m1 := lmx_mono fr1 (show tch C' ≤ tch b - tch (tAll B C) - 10 by omega)
    have m2 := lmx_xf (tch C') (by omega)
    have m3 : lmx fr1 (tch b - tch (tAll B C) - 10) ≤ ojz (tch C) (tch b - tch (tAll B C)) (cch Γ0) (cch Δ1) := Nat.le_trans (Nat.le_max_right _ _) (Nat.le_max_right _ _)
    exact ⟨by omega, by omega, by omega⟩
  have d5 : Δ ≠ [] → 5 ≤ 58 - 2 * mch t - cch (cxs Δ1 Γ0 b) := fun e => Nat.le_trans (dch_five he e) (by omega)
  have hch : CHo f t (([] : Stk).map Option.isSome) := ch
  refine fun S hS => ⟨fun d => ?_, ?_⟩
  · have T := tbs1 d
    have l0 := onz_len 0 (fun _ => 1 + 1) (2 + 1) (vlr d 1) Γ0
    have hω : ∀ j, j < (onz 0 (fun _ => 1 + 1) (2 + 1) (vlr d 1) Γ0).length → vw (onz 0 (fun _ => 1 + 1) (2 + 1) (vlr d 1) Γ0) j ≤ max 1 (fx1.getD (cch Γ0) 0) := fun j hj => Nat.le_trans (onz_chars (n1 := fun _ => 1 + 1) T.1 T.2.1 T.2.2.1 T.2.2.2.1 T.2.2.2.2.1 Γ0 oc0 (by omega) j (by rw [l0] at hj; exact hj)) (Nat.le_max_right _ _)
    obtain ⟨v, hv, f1, f2⟩ := xr_form (n1 := fun _ => 1 + 1) (hv := 1) xr1_ok T.2.2.2.1 T.2.2.2.2.1 _ C (Γ0.length + 1) (Nat.le_refl _) oC k40
    have hκ : nz 0 (fun _ => 1 + 1) (2 + 1) (vlr d 1) (onz 0 (fun _ => 1 + 1) (2 + 1) (vlr d 1) Γ0) b' ≤ kpz fr1 0 (max 1 (fx1.getD (cch Γ0) 0)) (tch b - tch (tAll B C)) := by
      unfold kpz
      by_cases q : tch b - tch (tAll B C) = 0
      · rw [if_pos (show Nat.beq (tch b - tch (tAll B C)) 0 = true by rw [q]; rfl)]
        rw [eT (by omega), nz_top]
        exact Nat.le_refl _
      · rw [if_neg (by intro q'; exact q (Nat.eq_of_beq_eq_true q'))]
        exact Nat.le_trans (Zx_le T (x := max 1 (fx1.getD (cch Γ0) 0)) (A := b') (by rw [l0]; exact ds.1) (by omega) (Nat.le_max_left _ _) hω) (Zx_ms fr1_m (by omega) (by omega))
    have hwB : vlr d 1 (nz 0 (fun _ => 1 + 1) (2 + 1) (vlr d 1) (onz 0 (fun _ => 1 + 1) (2 + 1) (vlr d 1) Γ0) B) ≤ wbz fr1 1 (max 1 (fx1.getD (cch Γ0) 0)) (tch B) := by
      have q2 := vlr_one d (nz 0 (fun _ => 1 + 1) (2 + 1) (vlr d 1) (onz 0 (fun _ => 1 + 1) (2 + 1) (vlr d 1) Γ0) B)
      unfold wbz
      by_cases q : tch B = 1
      · rw [if_pos (show Nat.beq (tch B) 1 = true by rw [q]; rfl)]
        rw [eB q, nz_top] at q2 ⊢
        omega
      · rw [if_neg (by intro q'; exact q (Nat.eq_of_beq_eq_true q'))]
        have q3 : nz 0 (fun _ => 1 + 1) (2 + 1) (vlr d 1) (onz 0 (fun _ => 1 + 1) (2 + 1) (vlr d 1) Γ0) B ≤ Zx fr1 (max 1 (fx1.getD (cch Γ0) 0)) (tch B + 2) := Zx_le T (by rw [l0]; exact oBB) (by omega) (Nat.le_max_left _ _) hω
        generalize nz 0 (fun _ => 1 + 1) (2 + 1) (vlr d 1) (onz 0 (fun _ => 1 + 1) (2 + 1) (vlr d 1) Γ0) B = n9 at *
        generalize Zx fr1 (max 1 (fx1.getD (cch Γ0) 0)) (tch B + 2) = z9 at *
        omega
    rcases hΔ with ⟨ee, cΔ⟩ | ⟨ee, cΔ⟩
    · refine gen_zj (un := un) (a5 := 5) (cd := 0) (NC_rows d 1) (vlr_mono d 1) (vlr_lip d 1) T fr1_m fg1_ok fg1_m fg1s_1 (by decide) (vlr_one d) (by decide) ds w he cu (by omega) (by rw [cΔ]; exact Nat.le_refl _) (Nat.zero_le _) (Nat.le_refl _) (fun e => absurd cΔ e) b0 b1 bs q38 (by omega) (Nat.le_refl _) hκ hwB f1 f2 (fun E Z aq hE => GH_natc (E := E) (Z := Z) (NC_rows d 1) (vlr_mono d 1) f t [] _ _ Δ w he hch aq (onz_cv (NC_rows d 1) he.1) hE) (fun p hp u hu => ?_) hS
      obtain ⟨s, m, q⟩ := liz_get zR v hv p hp u hu
      exact ⟨s, q, (lnf_get tR h0 h1 g0 g1 (by omega) m).2 ee⟩
    · refine gen_zj (un := un) (a5 := 0) (cd := 58 - 2 * mch t - cch (cxs Δ1 Γ0 b)) (NC_rows d 1) (vlr_mono d 1) (vlr_lip d 1) T fr1_m fg1_ok fg1_m fg1s_1 (by decide) (vlr_one d) (by decide) ds w he cu (by omega) (by omega) (by omega) (Nat.zero_le _) (fun _ => rfl) b0 b1 bs q38 (by omega) (Nat.le_refl _) hκ hwB f1 f2 (fun E Z aq hE => GH_natc (E := E) (Z := Z) (NC_rows d 1) (vlr_mono d 1) f t [] _ _ Δ w he hch aq (onz_cv (NC_rows d 1) he.1) hE) (fun p hp u hu => ?_) hS
      obtain ⟨s, m, q⟩ := liz_get zR v hv p hp u hu
      exact ⟨s, q, (lnf_get tR h0 h1 g0 g1 (by omega) m).1 ee (d5 cΔ)⟩
  · have T := tbsq
    have l0 := onz_len 1 ngc 1 (fun x => x) Γ0
    have hω : ∀ j, j < (onz 1 ngc 1 (fun x => x) Γ0).length → vw (onz 1 ngc 1 (fun x => x) Γ0) j ≤ max 1 (fxq.getD (cch Γ0) 0) := fun j hj => Nat.le_trans (onz_chars (n1 := ngc) T.1 T.2.1 T.2.2.1 T.2.2.2.1 T.2.2.2.2.1 Γ0 oc0 (by omega) j (by rw [l0] at hj; exact hj)) (Nat.le_max_right _ _)
    obtain ⟨v, hv, f1, f2⟩ := xr_form (n1 := ngc) (hv := 0) xrq_ok T.2.2.2.1 T.2.2.2.2.1 _ C (Γ0.length + 1) (Nat.le_refl _) oC k40
    have hκ : nz 1 ngc 1 (fun x => x) (onz 1 ngc 1 (fun x => x) Γ0) b' ≤ kpz frq 1 (max 1 (fxq.getD (cch Γ0) 0)) (tch b - tch (tAll B C)) := by
      unfold kpz
      by_cases q : tch b - tch (tAll B C) = 0
      · rw [if_pos (show Nat.beq (tch b - tch (tAll B C)) 0 = true by rw [q]; rfl)]
        rw [eT (by omega), nz_top]
        exact Nat.le_refl _
      · rw [if_neg (by intro q'; exact q (Nat.eq_of_beq_eq_true q'))]
        exact Nat.le_trans (Zx_le T (x := max 1 (fxq.getD (cch Γ0) 0)) (A := b') (by rw [l0]; exact ds.1) (by omega) (Nat.le_max_left _ _) hω) (Zx_ms frq_m (by omega) (by omega))
    have hwB : (fun x : Nat => x) (nz 1 ngc 1 (fun x => x) (onz 1 ngc 1 (fun x => x) Γ0) B) ≤ wbz frq 0 (max 1 (fxq.getD (cch Γ0) 0)) (tch B) := by
      show nz 1 ngc 1 (fun x => x) (onz 1 ngc 1 (fun x => x) Γ0) B ≤ _
      unfold wbz
      by_cases q : tch B = 1
      · rw [if_pos (show Nat.beq (tch B) 1 = true by rw [q]; rfl)]
        rw [eB q, nz_top]
        omega
      · rw [if_neg (by intro q'; exact q (Nat.eq_of_beq_eq_true q'))]
        have q3 : nz 1 ngc 1 (fun x => x) (onz 1 ngc 1 (fun x => x) Γ0) B ≤ Zx frq (max 1 (fxq.getD (cch Γ0) 0)) (tch B + 2) := Zx_le T (by rw [l0]; exact oBB) (by omega) (Nat.le_max_left _ _) hω
        generalize nz 1 ngc 1 (fun x => x) (onz 1 ngc 1 (fun x => x) Γ0) B = n9 at *
        generalize Zx frq (max 1 (fxq.getD (cch Γ0) 0)) (tch B + 2) = z9 at *
        omega
    rcases hΔ with ⟨ee, cΔ⟩ | ⟨ee, cΔ⟩
    · refine gen_zj (un := un) (a5 := 5) (cd := 0) NC_goals (fun y y' hy => hy) (fun y δ => Nat.le_refl _) T frq_m fgq_ok fgq_m fg1s_q (by decide) (fun y => by show y ≤ 0 + max 1 y; omega) (by decide) ds w he cu (by omega) (by rw [cΔ]; exact Nat.le_refl _) (Nat.zero_le _) (Nat.le_refl _) (fun e => absurd cΔ e) b0 b1 bs q38 (by omega) (Nat.le_refl _) hκ hwB f1 f2 (fun E Z aq hE => GH_natc (E := E) (Z := Z) NC_goals (fun y y' hy => hy) f t [] _ _ Δ w he hch aq (onz_cv NC_goals he.1) hE) (fun p hp u hu => ?_) hS
      obtain ⟨s, m, q⟩ := liz_get zG v hv p hp u hu
      exact ⟨s, q, (lnf_get tG h0 h1 g0 g1 (by omega) m).2 ee⟩
    · refine gen_zj (un := un) (a5 := 0) (cd := 58 - 2 * mch t - cch (cxs Δ1 Γ0 b)) NC_goals (fun y y' hy => hy) (fun y δ => Nat.le_refl _) T frq_m fgq_ok fgq_m fg1s_q (by decide) (fun y => by show y ≤ 0 + max 1 y; omega) (by decide) ds w he cu (by omega) (by omega) (by omega) (Nat.zero_le _) (fun _ => rfl) b0 b1 bs q38 (by omega) (Nat.le_refl _) hκ hwB f1 f2 (fun E Z aq hE => GH_natc (E := E) (Z := Z) NC_goals (fun y y' hy => hy) f t [] _ _ Δ w he hch aq (onz_cv NC_goals he.1) hE) (fun p hp u hu => ?_) hS
      obtain ⟨s, m, q⟩ := liz_get zG v hv p hp u hu
      exact ⟨s, q, (lnf_get tG h0 h1 g0 g1 (by omega) m).1 ee (d5 cΔ)⟩
end PmHr
