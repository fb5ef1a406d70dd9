/-! BY NATURE, any context with a scheme A : <P:B>C: the forms of C, and the entries that are enough, are given. -/
abbrev T6 : Type := Nat × Nat × Nat × Nat × Nat × Nat
/-- an entry is enough for terms of m characters; e: no names around, else they take cd -/
def TpR (un e : Bool) (wB cd m : Nat) (s : T6) : Prop := (s.2.2.2.2.2 ≤ 50 ∧ wB ≤ s.1) ∧ (e = false → 5 ≤ cd → dpD un fr1 fg1 0 1 2 3 2 2 2 2 s.2.2.1 s.2.2.2.1 wB s.2.2.2.2.1 s.2.2.2.2.2 s.1 cd m ≤ 887) ∧ (e = true → dpD un fr1 fg1 5 1 2 3 2 2 2 2 s.2.2.1 s.2.2.2.1 wB s.2.2.2.2.1 s.2.2.2.2.2 s.1 0 m ≤ 887)
def TpG (un e : Bool) (wB cd m : Nat) (s : T6) : Prop := (s.2.2.2.2.2 ≤ 50 ∧ wB ≤ s.1) ∧ (e = false → 5 ≤ cd → dpD un frq fgq 0 0 1 1 1 3 2 1 s.2.2.1 s.2.2.2.1 wB s.2.2.2.2.1 s.2.2.2.2.2 s.1 cd m ≤ 597) ∧ (e = true → dpD un frq fgq 5 0 1 1 1 3 2 1 s.2.2.1 s.2.2.2.1 wB s.2.2.2.2.1 s.2.2.2.2.2 s.1 0 m ≤ 597)
/-- what such a context needs is below an entry -/
def TpD (hv s2 wB y1 ob k p : Nat) (v e : Nat × Nat) (s : T6) : Prop := e.2 + e.1 * max y1 (hv + (s2 + (v.2 + (v.1 - p) * y1 + p * wB))) ≤ s.1 ∧ v.2 + (v.1 - p) * y1 ≤ s.2.2.1 ∧ p ≤ s.2.2.2.1 ∧ ob ≤ s.2.2.2.2.1 ∧ k ≤ s.2.2.2.2.2
section PmY2
variable {f : Nat} {t B C : Ty} {Γ0 Δ1 : List Ty} {Δ : List (Nat × Ty × Nat)} {un e : Bool} {cd ob wR wG yR yG : Nat} {VR VG WR WG : List (Nat × Nat)}
theorem zone_g (w : TWf f (cxs Δ1 Γ0 (tAll B C)).length (Δ.map (fun a => a.1)) t) (he : TE (cxs Δ1 Γ0 (tAll B C)) Δ) (hΔ : (e = true ∧ Δ = []) ∨ (e = false ∧ Δ ≠ [])) (cu : un = true ∨ COk f t 0) (ch : CHo f t []) (m30 : mch t ≤ 30) (hdd : dch Δ ≤ cd) (hcd : cd ≤ 56) (hb0 : ∀ b ∈ Γ0, nsch b = true ∨ flv b ≤ ob) (hb1 : ∀ b ∈ Δ1, nsch b = true ∨ flv b ≤ ob) (wbR : ∀ b, vlr b 1 (nz 0 (fun _ => 1 + 1) (2 + 1) (vlr b 1) (onz 0 (fun _ => 1 + 1) (2 + 1) (vlr b 1) Γ0) B) ≤ wR) (wbG : nz 1 ngc 1 (fun x => x) (onz 1 ngc 1 (fun x => x) Γ0) B ≤ wG)
  (hVR : ∃ v ∈ VR, xt (Γ0.length + 1) C ≤ v.1 ∧ xa 0 (fun _ => 1 + 1) 3 1 (Γ0.length + 1) C ≤ v.2) (hVG : ∃ v ∈ VG, xt (Γ0.length + 1) C ≤ v.1 ∧ xa 1 ngc 1 0 (Γ0.length + 1) C ≤ v.2)
  (cR : ∀ (b : Bool) (v : Nat × Nat), xt (Γ0.length + 1) C ≤ v.1 → xa 0 (fun _ => 1 + 1) 3 1 (Γ0.length + 1) C ≤ v.2 → ∃ p, p ≤ v.1 ∧ ∃ w ∈ WR, 1 ≤ w.2 + w.1 * max yR (1 + (3 + (v.2 + (v.1 - p) * yR + p * wR))) ∧ (∀ j, j < (cxs Δ1 Γ0 (tAll B C)).length → vw (onz 0 (fun _ => 1 + 1) (2 + 1) (vlr b 1) (cxs Δ1 Γ0 (tAll B C))) j ≤ w.2 + w.1 * max yR (1 + (3 + (v.2 + (v.1 - p) * yR + p * wR)))) ∧ ∀ z, nz 0 (fun _ => 1 + 1) (2 + 1) (vlr b 1) (hzx (vlr b 1) z (nz 0 (fun _ => 1 + 1) (2 + 1) (vlr b 1) (onz 0 (fun _ => 1 + 1) (2 + 1) (vlr b 1) Γ0) B) :: onz 0 (fun _ => 1 + 1) (2 + 1) (vlr b 1) Γ0) C ≤ v.2 + (v.1 - p) * yR + p * max z wR)
  (cG : ∀ (v : Nat × Nat), xt (Γ0.length + 1) C ≤ v.1 → xa 1 ngc 1 0 (Γ0.length + 1) C ≤ v.2 → ∃ p, p ≤ v.1 ∧ ∃ w ∈ WG, 1 ≤ w.2 + w.1 * max yG (0 + (1 + (v.2 + (v.1 - p) * yG + p * wG))) ∧ (∀ j, j < (cxs Δ1 Γ0 (tAll B C)).length → vw (onz 1 ngc 1 (fun x => x) (cxs Δ1 Γ0 (tAll B C))) j ≤ w.2 + w.1 * max yG (0 + (1 + (v.2 + (v.1 - p) * yG + p * wG)))) ∧ ∀ z, nz 1 ngc 1 (fun x => x) (hzx (fun x => x) z (nz 1 ngc 1 (fun x => x) (onz 1 ngc 1 (fun x => x) Γ0) B) :: onz 1 ngc 1 (fun x => x) Γ0) C ≤ v.2 + (v.1 - p) * yG + p * max z wG)
  (hTR : ∀ v ∈ VR, ∀ p, p ≤ v.1 → ∀ w ∈ WR, ∃ s, TpD 1 3 wR yR ob (tch C) p v w s ∧ TpR un e wR cd (mch t) s)
  (hTG : ∀ v ∈ VG, ∀ p, p ≤ v.1 → ∀ w ∈ WG, ∃ s, TpD 0 1 wG yG ob (tch C) p v w s ∧ TpG un e wG cd (mch t) s) : NtV (cxs Δ1 Γ0 (tAll B C)) Δ f t 887 597 := by
  have d5 : Δ ≠ [] → 5 ≤ cd := fun e => Nat.le_trans (dch_five he e) hdd
  have hch : CHo f t (([] : Stk).map Option.isSome) := ch
  refine fun S hS => ⟨fun b => ?_, ?_⟩
  · obtain ⟨v, hv, x1, x2⟩ := hVR
    obtain ⟨p, hp, ew, he', g1, g2, g3⟩ := cR b v x1 x2
    obtain ⟨s, ⟨k1, k2, k3, k4, k5⟩, ⟨k50, wy⟩, R0, R5⟩ := hTR v hv p hp ew he'
    have hb0' : ∀ b ∈ Γ0, nsch b = true ∨ flv b ≤ s.2.2.2.2.1 := fun b hb => (hb0 b hb).imp id (fun h => Nat.le_trans h k4)
    have hb1' : ∀ b ∈ Δ1, nsch b = true ∨ flv b ≤ s.2.2.2.2.1 := fun b hb => (hb1 b hb).imp id (fun h => Nat.le_trans h k4)
    rcases hΔ with ⟨ee, cΔ⟩ | ⟨ee, cΔ⟩
    · exact gen_fin5 (β' := tAll B C) (un := un) (a5 := 5) (cd := 0) (wB := wR) (E0 := s.2.2.1) (p := s.2.2.2.1) (ob := s.2.2.2.2.1) (k := s.2.2.2.2.2) (y := s.1) (NC_rows b 1) (vlr_mono b 1) (vlr_lip b 1) (tbs1 b) fr1_m fg1_ok fg1_m fg1s_1 (by decide) (vlr_one b) w he cu m30 hb0' hb1' (by rw [cΔ]; exact Nat.le_refl _) (Nat.zero_le _) (Nat.le_refl _) (fun e => absurd cΔ e) (Nat.le_trans g1 k1) (fun j hj => Nat.le_trans (g2 j hj) k1) (fun E Z aq hE => GH_natc (E := E) (Z := Z) (NC_rows b 1) (vlr_mono b 1) f t [] _ _ Δ w he hch aq (onz_cv (NC_rows b 1) he.1) hE) (fun z => Nat.le_trans (g3 z) (Nat.add_le_add k2 (Nat.mul_le_mul_right _ k3))) (wbR b) wy k5 k50 (R5 ee) hS
    · exact gen_fin5 (β' := tAll B C) (un := un) (a5 := 0) (cd := cd) (wB := wR) (E0 := s.2.2.1) (p := s.2.2.2.1) (ob := s.2.2.2.2.1) (k := s.2.2.2.2.2) (y := s.1) (NC_rows b 1) (vlr_mono b 1) (vlr_lip b 1) (tbs1 b) fr1_m fg1_ok fg1_m fg1s_1 (by decide) (vlr_one b) w he cu m30 hb0' hb1' hdd hcd (Nat.zero_le _) (fun _ => rfl) (Nat.le_trans g1 k1) (fun j hj => Nat.le_trans (g2 j hj) k1) (fun E Z aq hE => GH_natc (E := E) (Z := Z) (NC_rows b 1) (vlr_mono b 1) f t [] _ _ Δ w he hch aq (onz_cv (NC_rows b 1) he.1) hE) (fun z => Nat.le_trans (g3 z) (Nat.add_le_add k2 (Nat.mul_le_mul_right _ k3))) (wbR b) wy k5 k50 (R0 ee (d5 cΔ)) hS
  · obtain ⟨v, hv, x1, x2⟩ := hVG
    obtain ⟨p, hp, ew, he', g1, g2, g3⟩ := cG v x1 x2
    obtain ⟨s, ⟨k1, k2, k3, k4, k5⟩, ⟨k50, wy⟩, R0, R5⟩ := hTG v hv p hp ew he'
    have hb0' : ∀ b ∈ Γ0, nsch b = true ∨ flv b ≤ s.2.2.2.2.1 := fun b hb => (hb0 b hb).imp id (fun h => Nat.le_trans h k4)
    have hb1' : ∀ b ∈ Δ1, nsch b = true ∨ flv b ≤ s.2.2.2.2.1 := fun b hb => (hb1 b hb).imp id (fun h => Nat.le_trans h k4)
    rcases hΔ with ⟨ee, cΔ⟩ | ⟨ee, cΔ⟩
    · exact gen_fin5 (β' := tAll B C) (un := un) (a5 := 5) (cd := 0) (wB := wG) (E0 := s.2.2.1) (p := s.2.2.2.1) (ob := s.2.2.2.2.1) (k := s.2.2.2.2.2) (y := s.1) NC_goals (fun y y' hy => hy) (fun y δ => Nat.le_refl _) tbsq frq_m fgq_ok fgq_m fg1s_q (by decide) (fun y => by show y ≤ 0 + max 1 y; omega) w he cu m30 hb0' hb1' (by rw [cΔ]; exact Nat.le_refl _) (Nat.zero_le _) (Nat.le_refl _) (fun e => absurd cΔ e) (Nat.le_trans g1 k1) (fun j hj => Nat.le_trans (g2 j hj) k1) (fun E Z aq hE => GH_natc (E := E) (Z := Z) NC_goals (fun y y' hy => hy) f t [] _ _ Δ w he hch aq (onz_cv NC_goals he.1) hE) (fun z => Nat.le_trans (g3 z) (Nat.add_le_add k2 (Nat.mul_le_mul_right _ k3))) wbG wy k5 k50 (R5 ee) hS
    · exact gen_fin5 (β' := tAll B C) (un := un) (a5 := 0) (cd := cd) (wB := wG) (E0 := s.2.2.1) (p := s.2.2.2.1) (ob := s.2.2.2.2.1) (k := s.2.2.2.2.2) (y := s.1) NC_goals (fun y y' hy => hy) (fun y δ => Nat.le_refl _) tbsq frq_m fgq_ok fgq_m fg1s_q (by decide) (fun y => by show y ≤ 0 + max 1 y; omega) w he cu m30 hb0' hb1' hdd hcd (Nat.zero_le _) (fun _ => rfl) (Nat.le_trans g1 k1) (fun j hj => Nat.le_trans (g2 j hj) k1) (fun E Z aq hE => GH_natc (E := E) (Z := Z) NC_goals (fun y y' hy => hy) f t [] _ _ Δ w he hch aq (onz_cv NC_goals he.1) hE) (fun z => Nat.le_trans (g3 z) (Nat.add_le_add k2 (Nat.mul_le_mul_right _ k3))) wbG wy k5 k50 (R0 ee (d5 cΔ)) hS
end PmY2
/-- every entry is enough for every term; e: no names around -/
def lne (un e : Bool) (L : LnT) (F W : FrT) (hv fn s2 r0 r1 r2 r3 wB Bd a b m0 m1 : Nat) : Bool := (List.range b).all (fun c => Nat.blt c a || (lng L c).all (fun s => (List.range m1).all (fun m => Nat.blt m m0 || (Nat.blt 58 (c + 2 * m) || (if e then Nat.ble (dpD un F W 5 hv fn s2 r0 r1 r2 r3 s.2.2.1 s.2.2.2.1 wB s.2.2.2.2.1 s.2.2.2.2.2 s.1 0 m) Bd else (Nat.blt (58 - 2 * m - c) 5 || Nat.ble (dpD un F W 0 hv fn s2 r0 r1 r2 r3 s.2.2.1 s.2.2.2.1 wB s.2.2.2.2.1 s.2.2.2.2.2 s.1 (58 - 2 * m - c) m) Bd))))))
theorem lne_get {un e : Bool} {L : LnT} {F W : FrT} {hv fn s2 r0 r1 r2 r3 wB Bd a b m0 m1 c m : Nat} (h : lne un e L F W hv fn s2 r0 r1 r2 r3 wB Bd a b m0 m1 = true) (ha : a ≤ c) (hb : c < b) (h0 : m0 ≤ m) (h1 : m < m1) (hc : c + 2 * m ≤ 58) {s : T6} (hs : s ∈ lng L c) : (e = false → 5 ≤ 58 - 2 * m - c → dpD un F W 0 hv fn s2 r0 r1 r2 r3 s.2.2.1 s.2.2.2.1 wB s.2.2.2.2.1 s.2.2.2.2.2 s.1 (58 - 2 * m - c) m ≤ Bd) ∧ (e = true → dpD un F W 5 hv fn s2 r0 r1 r2 r3 s.2.2.1 s.2.2.2.1 wB s.2.2.2.2.1 s.2.2.2.2.2 s.1 0 m ≤ Bd) := by
  unfold lne at h
  have q := rng_all h (i := c) hb
  rw [Bool.or_eq_true] at q
  rcases q with q | q
  · exact (blt_no ha q).elim
  have q := rng_all (List.all_eq_true.mp q s hs) (i := m) h1
  rw [Bool.or_eq_true, Bool.or_eq_true] at q
  rcases q with q | q | q
  · exact (blt_no h0 q).elim
  · exact (blt_no hc q).elim
  cases e with
  | true => exact ⟨(fun e => by cases e), fun _ => Nat.le_of_ble_eq_true q⟩
  | false =>
    refine ⟨fun _ h5 => ?_, (fun e => by cases e)⟩
    have q : (Nat.blt (58 - 2 * m - c) 5 || Nat.ble (dpD un F W 0 hv fn s2 r0 r1 r2 r3 s.2.2.1 s.2.2.2.1 wB s.2.2.2.2.1 s.2.2.2.2.2 s.1 (58 - 2 * m - c) m) Bd) = true := q
    rw [Bool.or_eq_true] at q
    rcases q with q | q
    · exact (blt_no h5 q).elim
    · exact Nat.le_of_ble_eq_true q
/-- the triples left out, and what stands in the other contexts -/
def znv (X0 X1 : List (List (Nat × Nat))) (o : Bool) (k q1 q2 : Nat) : Bool := Nat.ble k 38 && nxk (if o then X1 else X0) k q1 q2
def lnv (L : LnT) (X0 X1 : List (List (Nat × Nat))) (XR W : FrT) (X : List Nat) (hv s2 wB : Nat) (o : Bool) (a b : Nat) : Bool := (List.range b).all (fun k => Nat.blt k a || (List.range 39).all (fun q1 => !(q5 q1) || (List.range 39).all (fun q2 => !(q5 q2) || (Nat.blt 47 (9 + k + q1 + q2) || (Nat.blt (9 + k + q1 + q2) 20 || (!(znv X0 X1 o k q1 q2) || (Nat.beq k 0 || lnz L XR W X hv s2 wB k q1 q2 (zow o k q1 q2))))))))
theorem lnv_get {L : LnT} {X0 X1 : List (List (Nat × Nat))} {XR W : FrT} {X : List Nat} {hv s2 wB k q1 q2 a b : Nat} {o : Bool} (h : lnv L X0 X1 XR W X hv s2 wB o a b = true) (ka : a ≤ k) (kb : k < b) (hz : znv X0 X1 o k q1 q2 = true) (k1 : 1 ≤ k) (z1 : q5 q1 = true) (z2 : q5 q2 = true) (hc : 9 + k + q1 + q2 ≤ 47) (h20 : 20 ≤ 9 + k + q1 + q2) : lnz L XR W X hv s2 wB k q1 q2 (zow o k q1 q2) = true := by
  have hz' := hz
  unfold znv at hz'
  rw [Bool.and_eq_true] at hz'
  unfold lnv at h
  have qk := rng_all h (i := k) kb
  rw [Bool.or_eq_true] at qk
  rcases qk with qk | qk
  · exact (blt_no ka qk).elim
  have q0 := rng_all qk (i := q1) (by omega)
  rw [z1, Bool.not_true, Bool.false_or] at q0
  have q := rng_all q0 (i := q2) (by omega)
  rw [z2, Bool.not_true, Bool.false_or, Bool.or_eq_true, Bool.or_eq_true, Bool.or_eq_true, Bool.or_eq_true] at q
  rcases q with q | q | q | q | q
  · exact (blt_no hc q).elim
  · exact (blt_no h20 q).elim
  · rw [hz] at q; cases q
  · have := Nat.eq_of_beq_eq_true q
    omega
  · exact q
/-- every entry is worth what a bound Top is worth -/
def lnw (L : LnT) (wB : Nat) : Bool := L.all (fun l => l.all (fun s => Nat.ble wB s.1))
theorem lnw_get {L : LnT} {wB c : Nat} (h : lnw L wB = true) {s : T6} (hs : s ∈ lng L c) : wB ≤ s.1 := by
  unfold lng at hs
  unfold lnw at h
  by_cases hc : c < L.length
  · rw [List.getD_eq_getElem?_getD, List.getElem?_eq_getElem hc, Option.getD_some] at hs
    exact Nat.le_of_ble_eq_true (List.all_eq_true.mp (List.all_eq_true.mp h _ (List.getElem_mem hc)) s hs)
  · rw [List.getD_eq_getElem?_getD, List.getElem?_eq_none (by omega), Option.getD_none] at hs
    cases hs
section PmY3
variable {f : Nat} {t C : Ty} {Γ0 Δ1 : List Ty} {Δ : List (Nat × Ty × Nat)} {un o ee : Bool} {L1 Lq : LnT} {XR XQ WR WQ : FrT}
/-- other schemes, by their characters -/
theorem zow_ob (he : okc (cxs Δ1 Γ0 (tAll tTop C))) (ho : (∀ b ∈ Γ0, nsch b = true ∨ (o = true ∧ tch b ≤ tch C + 5)) ∧ ∀ b ∈ Δ1, nsch b = true ∨ (o = true ∧ tch b ≤ tch C + 5)) (h49 : cch (cxs Δ1 Γ0 (tAll tTop C)) ≤ 47) : (∀ b ∈ Γ0, nsch b = true ∨ flv b ≤ zow o (tch C) (cch Γ0) (cch Δ1)) ∧ ∀ b ∈ Δ1, nsch b = true ∨ flv b ≤ zow o (tch C) (cch Γ0) (cch Δ1) := by
  obtain ⟨oc0, oA⟩ := okc_low Δ1 he
  have ec : cch (cxs Δ1 Γ0 (tAll tTop C)) = 9 + tch C + cch Γ0 + cch Δ1 := by
    rw [cch_cx, tch_all, tch_top]
    omega
  rw [ec] at h49
  cases o with
  | false =>
    refine ⟨fun b hb => Or.inl ?_, fun b hb => Or.inl ?_⟩
    · rcases ho.1 b hb with e | ⟨e, -⟩
      · exact e
      · cases e
    · rcases ho.2 b hb with e | ⟨e, -⟩
      · exact e
      · cases e
  | true =>
    have hs : zow true (tch C) (cch Γ0) (cch Δ1) = max (lmx fr1 (min (cch Γ0 - 4) (tch C + 5))) (lmx fr1 (min (cch Δ1 - 4) (tch C + 5))) := rfl
    refine ⟨fun b hb => ?_, fun b hb => ?_⟩
    · rcases ho.1 b hb with e | ⟨-, e⟩
      · exact Or.inl e
      · obtain ⟨d, h1, h2⟩ := okc_mch oc0 hb
        have := flv_lmx (k := min (cch Γ0 - 4) (tch C + 5)) h1 (by omega) (by omega)
        exact Or.inr (by omega)
    · rcases ho.2 b hb with e | ⟨-, e⟩
      · exact Or.inl e
      · obtain ⟨d, h1, h2⟩ := okc_cxs he hb
        have := flv_lmx (k := min (cch Δ1 - 4) (tch C + 5)) h1 (by omega) (by omega)
        exact Or.inr (by omega)
/-- the zone of lists -/
theorem zone_l (w : TWf f (cxs Δ1 Γ0 (tAll tTop C)).length (Δ.map (fun a => a.1)) t) (he : TE (cxs Δ1 Γ0 (tAll tTop C)) Δ) (hΔ : (ee = true ∧ Δ = []) ∨ (ee = false ∧ Δ ≠ [])) (cu : un = true ∨ COk f t 0) (ch : CHo f t []) (ho : (∀ b ∈ Γ0, nsch b = true ∨ (o = true ∧ tch b ≤ tch C + 5)) ∧ ∀ b ∈ Δ1, nsch b = true ∨ (o = true ∧ tch b ≤ tch C + 5)) (hb : cch (cxs Δ1 Γ0 (tAll tTop C)) + dch Δ + 2 * mch t ≤ 58) (h20 : 20 ≤ cch (cxs Δ1 Γ0 (tAll tTop C))) (h49 : cch (cxs Δ1 Γ0 (tAll tTop C)) ≤ 47)
  (hVR : ∃ v ∈ frg XR (tch C), xt (Γ0.length + 1) C ≤ v.1 ∧ xa 0 (fun _ => 1 + 1) 3 1 (Γ0.length + 1) C ≤ v.2) (hVG : ∃ v ∈ frg XQ (tch C), xt (Γ0.length + 1) C ≤ v.1 ∧ xa 1 ngc 1 0 (Γ0.length + 1) C ≤ v.2)
  (kR : lnkb L1 = true) (kG : lnkb Lq = true) (vR : lnw L1 2 = true) (vG : lnw Lq 1 = true) (hgR : ∀ (b : Bool) (y : Nat), 1 ≤ y → (∀ j, j < (tAll tTop C :: Γ0).length → vw (onz 0 (fun _ => 1 + 1) (2 + 1) (vlr b 1) (tAll tTop C :: Γ0)) j ≤ y) → ∃ e ∈ frg WR (cch Δ1), 1 ≤ e.1 ∧ ∀ j, j < (cxs Δ1 Γ0 (tAll tTop C)).length → vw (onz 0 (fun _ => 1 + 1) (2 + 1) (vlr b 1) (cxs Δ1 Γ0 (tAll tTop C))) j ≤ e.2 + e.1 * y) (hgG : ∀ (y : Nat), 1 ≤ y → (∀ j, j < (tAll tTop C :: Γ0).length → vw (onz 1 ngc 1 (fun x => x) (tAll tTop C :: Γ0)) j ≤ y) → ∃ e ∈ frg WQ (cch Δ1), 1 ≤ e.1 ∧ ∀ j, j < (cxs Δ1 Γ0 (tAll tTop C)).length → vw (onz 1 ngc 1 (fun x => x) (cxs Δ1 Γ0 (tAll tTop C))) j ≤ e.2 + e.1 * y)
  (zR : lnz L1 XR WR fx1 1 3 2 (tch C) (cch Γ0) (cch Δ1) (zow o (tch C) (cch Γ0) (cch Δ1)) = true) (zG : lnz Lq XQ WQ fxq 0 1 1 (tch C) (cch Γ0) (cch Δ1) (zow o (tch C) (cch Γ0) (cch Δ1)) = true)
  (dR : ∀ c, 20 ≤ c → c ≤ 47 → c + 2 * mch t ≤ 58 → ∀ s ∈ lng L1 c, (ee = false → 5 ≤ 58 - 2 * mch t - c → dpD un fr1 fg1 0 1 2 3 2 2 2 2 s.2.2.1 s.2.2.2.1 2 s.2.2.2.2.1 s.2.2.2.2.2 s.1 (58 - 2 * mch t - c) (mch t) ≤ 887) ∧ (ee = true → dpD un fr1 fg1 5 1 2 3 2 2 2 2 s.2.2.1 s.2.2.2.1 2 s.2.2.2.2.1 s.2.2.2.2.2 s.1 0 (mch t) ≤ 887))
  (dG : ∀ c, 20 ≤ c → c ≤ 47 → c + 2 * mch t ≤ 58 → ∀ s ∈ lng Lq c, (ee = false → 5 ≤ 58 - 2 * mch t - c → dpD un frq fgq 0 0 1 1 1 3 2 1 s.2.2.1 s.2.2.2.1 1 s.2.2.2.2.1 s.2.2.2.2.2 s.1 (58 - 2 * mch t - c) (mch t) ≤ 597) ∧ (ee = true → dpD un frq fgq 5 0 1 1 1 3 2 1 s.2.2.1 s.2.2.2.1 1 s.2.2.2.2.1 s.2.2.2.2.2 s.1 0 (mch t) ≤ 597)) : NtV (cxs Δ1 Γ0 (tAll tTop C)) Δ f t 887 597 := by
  obtain ⟨hb0, hb1⟩ := zow_ob he.1 ho h49
  have ec : cch (cxs Δ1 Γ0 (tAll tTop C)) = 9 + tch C + cch Γ0 + cch Δ1 := by
    rw [cch_cx, tch_all, tch_top]
    omega
  rw [ec] at hb h49 h20
  have q56 : cch Γ0 ≤ 56 := by omega
  refine zone_g (cd := 58 - 2 * mch t - (9 + tch C + cch Γ0 + cch Δ1)) (ob := zow o (tch C) (cch Γ0) (cch Δ1)) (wR := 2) (wG := 1) (yR := max 1 (fx1.getD (cch Γ0) 0)) (yG := max 1 (fxq.getD (cch Γ0) 0)) (VR := frg XR (tch C)) (VG := frg XQ (tch C)) (WR := frg WR (cch Δ1)) (WG := frg WQ (cch Δ1)) w he hΔ cu ch (by omega) (by omega) (by omega) hb0 hb1 (fun b => by rw [nz_top]; exact vlr_one b 0) (by rw [nz_top]; exact Nat.le_refl _) hVR hVG (fun b v x1 x2 => nat_ctxg (wB := 2) (v := v) (tbs1 b) (vlr_one b) (by decide) he.1 x1 x2 (by rw [nz_top]; exact vlr_one b 0) (Nat.le_refl _) q56 (hgR b)) (fun v x1 x2 => nat_ctxg (wB := 1) (v := v) tbsq (fun y => by show y ≤ 0 + max 1 y; omega) (by decide) he.1 x1 x2 (by rw [nz_top]; exact Nat.le_refl _) (Nat.le_refl _) q56 hgG) ?_ ?_
  · intro v hv p hp e he'
    obtain ⟨s, hs, k1, k2, k3, k4, k5⟩ := lnz_get zR hv hp he'
    exact ⟨s, ⟨k1, k2, k3, k4, k5⟩, ⟨lnk kR hs, lnw_get vR hs⟩, dR _ h20 h49 (by omega) s hs⟩
  · intro v hv p hp e he'
    obtain ⟨s, hs, k1, k2, k3, k4, k5⟩ := lnz_get zG hv hp he'
    exact ⟨s, ⟨k1, k2, k3, k4, k5⟩, ⟨lnk kG hs, lnw_get vG hs⟩, dG _ h20 h49 (by omega) s hs⟩
/-- how values grow behind A -/
theorem gr_R {β : Ty} (hc : okc (cxs Δ1 Γ0 β)) (q38 : cch Δ1 ≤ 38) (b : Bool) (y : Nat) (hy : 1 ≤ y) (h0 : ∀ j, j < (β :: Γ0).length → vw (onz 0 (fun _ => 1 + 1) (2 + 1) (vlr b 1) (β :: Γ0)) j ≤ y) : ∃ e ∈ frg fg1 (cch Δ1), 1 ≤ e.1 ∧ ∀ j, j < (cxs Δ1 Γ0 β).length → vw (onz 0 (fun _ => 1 + 1) (2 + 1) (vlr b 1) (cxs Δ1 Γ0 β)) j ≤ e.2 + e.1 * y := onz_gr (tbs1 b) fg1_ok (by decide) hy h0 Δ1 hc q38
theorem gr_G {β : Ty} (hc : okc (cxs Δ1 Γ0 β)) (q38 : cch Δ1 ≤ 38) (y : Nat) (hy : 1 ≤ y) (h0 : ∀ j, j < (β :: Γ0).length → vw (onz 1 ngc 1 (fun x => x) (β :: Γ0)) j ≤ y) : ∃ e ∈ frg fgq (cch Δ1), 1 ≤ e.1 ∧ ∀ j, j < (cxs Δ1 Γ0 β).length → vw (onz 1 ngc 1 (fun x => x) (cxs Δ1 Γ0 β)) j ≤ e.2 + e.1 * y := onz_gr tbsq fgq_ok (by decide) hy h0 Δ1 hc q38
/-- every body has a form -/
theorem form_R {d : Nat} (oC : ok (d + 1) C = true) (hk : tch C ≤ 40) : ∃ v ∈ frg xr1 (tch C), xt (d + 1) C ≤ v.1 ∧ xa 0 (fun _ => 1 + 1) 3 1 (d + 1) C ≤ v.2 := by
  obtain ⟨v, hv, x1, x2⟩ := xr_form (t0 := 0) (n1 := fun _ => 1 + 1) (s2 := 3) (hv := 1) xr1_ok (tbs1 true).2.2.2.1 (tbs1 true).2.2.2.2.1 _ C (d + 1) (Nat.le_refl _) oC hk
  exact ⟨v, hv, x1, x2⟩
theorem form_G {d : Nat} (oC : ok (d + 1) C = true) (hk : tch C ≤ 40) : ∃ v ∈ frg xrq (tch C), xt (d + 1) C ≤ v.1 ∧ xa 1 ngc 1 0 (d + 1) C ≤ v.2 := by
  obtain ⟨v, hv, x1, x2⟩ := xr_form (t0 := 1) (n1 := ngc) (s2 := 1) (hv := 0) xrq_ok tbsq.2.2.2.1 tbsq.2.2.2.2.1 _ C (d + 1) (Nat.le_refl _) oC hk
  exact ⟨v, hv, x1, x2⟩
end PmY3
