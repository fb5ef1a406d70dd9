/-! CHOICES ANYWHERE, names around, no bound reaches a scheme. -/
section PmZs1
variable {t0 fn s2 hv r0 r1 r2 r3 x0 : Nat} {n1 h : Nat → Nat} {P Q : List (List Nat)} {F G W : FrT} {X : List Nat}
theorem gen_z0qo (hn : NC t0 n1 s2 h) (hm : ∀ y y', y ≤ y' → h y ≤ h y') (hh : ∀ y δ, h (y + δ) ≤ h y + δ) (T : TBs 58 t0 fn s2 hv r0 r1 r2 r3 x0 n1 h P Q F G X) (hFm : frm F = true) (hgr : fgc F W hv = true) (hWm : fgm W = true) (hW1 : fg1s W = true) (hW : (1, 0) ∈ frg W 0) (H1 : ∀ y, h y ≤ hv + max 1 y) {f : Nat} {t S : Ty} {Γ : List Ty} {Δ : List (Nat × Ty × Nat)} {a5 cd Bd : Nat} (w : TWf f Γ.length (Δ.map (fun a => a.1)) t) (he : TE Γ Δ) (cu : TNo f t) (hΔ1 : Δ.length ≤ 1) (nD : Δ ≠ []) (hm30 : mch t ≤ 30) (hdc : dch Δ ≤ cd) (hcd : cd ≤ 56) (a55 : a5 ≤ 5) (ha5 : Δ ≠ [] → a5 = 0) (hb0 : ∀ b ∈ Γ, IS2 (fun _ => False) b) {K La : Nat} (hLK : La ≤ K) (K30 : K ≤ 30) (kcd : dch Δ ≤ K + 9) (hM : mch t ≤ La + 8) (hM16 : mch t ≤ 16) (hLa : 13 ≤ mch t → 5 ≤ La) {s : T6} (y01 : x0 ≤ s.1) (hw' : ∀ j, j < Γ.length → vw (onz t0 n1 s2 h Γ) j ≤ s.1) (gq : gqx F W hv K La s = true) (R : dpDo F W a5 hv fn s2 r0 r1 r2 r3 s.2.2.1 s.2.2.2.1 s.1 s.2.2.2.2.1 s.2.2.2.2.2 s.1 cd (mch t) ≤ Bd) (hS : tyF f t Γ Δ = .inr S) : nz t0 n1 s2 h (onz t0 n1 s2 h Γ) S ≤ Bd := by
  have l1 := onz_len t0 n1 s2 h Γ
  unfold gqx at gq
  rw [Bool.and_eq_true, Bool.and_eq_true, Bool.and_eq_true, Bool.or_eq_true] at gq
  obtain ⟨gk, gy1, gy2, gy3⟩ := gq
  have gy1 := Nat.le_of_ble_eq_true gy1
  have gy2 := Nat.le_of_ble_eq_true gy2
  generalize hYq : Zx F s.1 (max La 3 + 2) = Yq at gk gy1 gy2 gy3
  have go : ∀ Z, AQh t0 n1 s2 h (E2 (X7q F W hv s.1 cd (mch t) s.2.2.1 s.2.2.2.1 s.1 s.2.2.2.2.1) (ebw F W hv s.1 cd (mch t) s.2.2.1 s.2.2.2.1 s.1 s.2.2.2.2.1) (e2w F W hv s.1 cd (mch t) s.2.2.2.2.2)) Z f t [] (onz t0 n1 s2 h Γ) → HEk t0 n1 s2 h (E2 (X7q F W hv s.1 cd (mch t) s.2.2.1 s.2.2.2.1 s.1 s.2.2.2.2.1) (ebw F W hv s.1 cd (mch t) s.2.2.1 s.2.2.2.1 s.1 s.2.2.2.2.1) (e2w F W hv s.1 cd (mch t) s.2.2.2.2.2)) Γ (onz t0 n1 s2 h Γ) → GOk t0 n1 s2 h (E2 (X7q F W hv s.1 cd (mch t) s.2.2.1 s.2.2.2.1 s.1 s.2.2.2.2.1) (ebw F W hv s.1 cd (mch t) s.2.2.1 s.2.2.2.1 s.1 s.2.2.2.2.1) (e2w F W hv s.1 cd (mch t) s.2.2.2.2.2)) f t [] (onz t0 n1 s2 h Γ) Γ Δ := by
    intro Z aq hk
    have Yg : ∀ bb, Yq ≤ gyw W Yq bb := by
      intro bb
      have a0 := Zx_mem (x := Yq) (frg W 0) (1, 0) hW
      simp only at a0
      have a1 : Yq ≤ gyw W Yq 0 := by
        show Yq ≤ (frg W 0).foldr (fun u a => max (u.2 + u.1 * Yq) a) 0
        omega
      exact Nat.le_trans a1 (gyw_mono hWm (Nat.zero_le _))
    have xY : x0 ≤ Yq := Nat.le_trans y01 gy1
    have ebb : ∀ z, s.2.2.1 + s.2.2.2.1 * max z s.1 ≤ ebw F W hv s.1 cd (mch t) s.2.2.1 s.2.2.2.1 s.1 s.2.2.2.2.1 z := fun z => by
      unfold ebw
      exact le_mx (Or.inl (le_mx (Or.inl (Nat.le_refl _))))
    have hG := fun A ω bb => gq_E (t0 := t0) (n1 := n1) (s2 := s2) (h := h) (X7 := X7w F W s.1 cd (mch t)) (e2 := e2w F W hv s.1 cd (mch t) s.2.2.2.2.2) T hm hFm Yg ebw_mono e2w_mono ebb gk K30 xY A ω bb
    have hgr' : ∀ (A : Ty) (ω : List Nat) (bb : Nat), ok ω.length A = true → tch A + bb ≤ K → (∀ j, j < ω.length → vw ω j ≤ gyw W Yq bb) → h (nz t0 n1 s2 h ω A) ≤ gyw W Yq (bb + tch A + 4) := fun A ω bb o hk' hw'' => ((dh_ok (un := true) (a5 := 0) (ob := 0) (cd := 0) (wB := 0) (y := Yq) (E0 := 0) (p := 0) (k := 0) (mt := 0) hn hm T hFm hgr hWm hW1 hW H1 (by omega) (by omega) xY).gr A ω bb o (by omega) hw'').1
    have tx := fun (A : Ty) (ω : List Nat) (o : ok ω.length A = true) (hk' : tch A ≤ K + 5) (hw'' : ∀ j, j < ω.length → vw ω j ≤ Yq) => txt_UB (t0 := t0) (n1 := n1) (s2 := s2) (h := h) (E := (E2 (X7q F W hv s.1 cd (mch t) s.2.2.1 s.2.2.2.1 s.1 s.2.2.2.2.1) (ebw F W hv s.1 cd (mch t) s.2.2.1 s.2.2.2.1 s.1 s.2.2.2.2.1) (e2w F W hv s.1 cd (mch t) s.2.2.2.2.2))) (Y := Yq) (K := K) (g := gyw W Yq) (fun b1 b2 hb => gyw_mono hWm hb) (Yg 0) hgr' hG _ A ω 0 (Nat.le_refl _) o (by omega) (fun j hj => Nat.le_trans (hw'' j hj) (Yg 0))
    have wY : ∀ j, j < Γ.length → vw (onz t0 n1 s2 h Γ) j ≤ Yq := fun j hj => Nat.le_trans (hw' j hj) gy1
    have hU : HUB t0 n1 s2 h (E2 (X7q F W hv s.1 cd (mch t) s.2.2.1 s.2.2.2.1 s.1 s.2.2.2.2.1) (ebw F W hv s.1 cd (mch t) s.2.2.1 s.2.2.2.1 s.1 s.2.2.2.2.1) (e2w F W hv s.1 cd (mch t) s.2.2.2.2.2)) Yq Γ (onz t0 n1 s2 h Γ) := by
      refine HUB_of he.1 (fun Δ' b1 Γ' e o => ?_)
      have lo := onz_len t0 n1 s2 h Γ'
      exact UB_is2 _ b1 _ (Nat.le_refl _) (by rw [lo]; exact o) (IS2_okt _ Γ'.length b1 (Nat.le_refl _) o (fun _ _ _ _ p => p.elim) (hb0 b1 (by rw [e]; simp)))
    have dU : DU t0 n1 s2 h (E2 (X7q F W hv s.1 cd (mch t) s.2.2.1 s.2.2.2.1 s.1 s.2.2.2.2.1) (ebw F W hv s.1 cd (mch t) s.2.2.1 s.2.2.2.1 s.1 s.2.2.2.2.1) (e2w F W hv s.1 cd (mch t) s.2.2.2.2.2)) Yq (onz t0 n1 s2 h Γ) Δ := by
      intro a ha
      obtain ⟨a1, a2, a3⟩ := he.2.2 a ha
      have ad := dch_mem ha
      have al : a.2.2 ≤ (onz t0 n1 s2 h Γ).length := by rw [l1]; exact a1
      have ll : ((onz t0 n1 s2 h Γ).drop ((onz t0 n1 s2 h Γ).length - a.2.2)).length = a.2.2 := by rw [List.length_drop]; omega
      refine ⟨(onz t0 n1 s2 h Γ).take ((onz t0 n1 s2 h Γ).length - a.2.2), (onz t0 n1 s2 h Γ).drop ((onz t0 n1 s2 h Γ).length - a.2.2), (List.take_append_drop _ _).symm, ll, ?_⟩
      refine tx a.2.1 _ (by rw [ll]; exact a2) (by omega) (fun j hj => ?_)
      have q := vw_app_lo ((onz t0 n1 s2 h Γ).take ((onz t0 n1 s2 h Γ).length - a.2.2)) _ j hj
      rw [List.take_append_drop] at q
      rw [← q]
      exact wY j (by rw [ll] at hj; rw [l1] at al; omega)
    have P0 : TxP t0 n1 s2 h (E2 (X7q F W hv s.1 cd (mch t) s.2.2.1 s.2.2.2.1 s.1 s.2.2.2.2.1) (ebw F W hv s.1 cd (mch t) s.2.2.1 s.2.2.2.1 s.1 s.2.2.2.2.1) (e2w F W hv s.1 cd (mch t) s.2.2.2.2.2)) Yq La s.1 := fun A ω o hk' hw'' => by
      have wq : ∀ j, j < ω.length → vw ω j ≤ Yq := fun j hj => Nat.le_trans (hw'' j hj) gy1
      refine ⟨hG A ω 0 o (by omega) (fun j hj => Nat.le_trans (wq j hj) (Yg 0)), tx A ω o (by omega) wq, ?_⟩
      rw [← hYq]
      exact Nat.le_trans (Zx_le T o (by omega) y01 hw'') (Zx_ms hFm (by omega) (by omega))
    have P1 : TxP t0 n1 s2 h (E2 (X7q F W hv s.1 cd (mch t) s.2.2.1 s.2.2.2.1 s.1 s.2.2.2.2.1) (ebw F W hv s.1 cd (mch t) s.2.2.1 s.2.2.2.1 s.1 s.2.2.2.2.1) (e2w F W hv s.1 cd (mch t) s.2.2.2.2.2)) Yq 3 Yq := fun A ω o hk' hw'' => by
      refine ⟨fun ρ hρ => ?_, tx A ω o (by omega) hw'', Nat.le_trans (Zx_le T o (by omega) xY hw'') (Nat.le_trans (Zx_ms hFm (by omega) (by omega)) gy2)⟩
      rcases two_txt o (by omega) with e | ⟨j, hj, e⟩ | e
      · rw [e]
        cases ρ with
        | nil => exact absurd rfl hρ
        | cons p9 ρ => rw [vz_top]; exact Nat.zero_le _
      · rw [e]
        cases ρ with
        | nil => exact absurd rfl hρ
        | cons p9 ρ => rw [vz_var]; exact Nat.le_refl _
      · rw [e]
        unfold tR0
        cases ρ with
        | nil => exact absurd rfl hρ
        | cons p9 ρ =>
          cases p9 with
          | none => rw [vz_recN, vz_nil]; exact Nat.zero_le _
          | some z9 => rw [vz_recS]; exact Nat.zero_le _
    have h8 : 13 ≤ mch t → ∀ (B : Ty) (ω : List Nat), ok ω.length B = true → tch B ≤ 4 → (∀ j, j < ω.length → vw ω j ≤ s.1) → h (nz t0 n1 s2 h ω B) ≤ Yq := fun m13 B9 ω o hk' hw'' => by
      have l5 := hLa m13
      have g3 := gy3.resolve_left (by intro q; have := Nat.le_of_ble_eq_true q; omega)
      have g3 := Nat.le_of_ble_eq_true g3
      have q1 := H1 (nz t0 n1 s2 h ω B9)
      have q2 := Nat.le_trans (Zx_le T o (by omega) y01 hw'') (Zx_ms hFm (x := s.1) (s := tch B9 + 2) (s' := 6) (by omega) (by omega))
      omega
    obtain ⟨a0, ea⟩ : ∃ a0, Δ = [a0] := by
      match Δ, nD, hΔ1 with
      | [], nD, _ => exact absurd rfl nD
      | [a], _, _ => exact ⟨a, rfl⟩
      | a :: b :: l, _, h1 => rw [List.length_cons, List.length_cons] at h1; omega
    have w9 : TWf f Γ.length [a0.1] t := by
      have q := w
      rw [ea] at q
      exact q
    have nq := NQ_zero9 (t0 := t0) (n1 := n1) (s2 := s2) (h := h) (E := (E2 (X7q F W hv s.1 cd (mch t) s.2.2.1 s.2.2.2.1 s.1 s.2.2.2.2.1) (ebw F W hv s.1 cd (mch t) s.2.2.1 s.2.2.2.1 s.1 s.2.2.2.2.1) (e2w F W hv s.1 cd (mch t) s.2.2.2.2.2))) (Y := Yq) (M0 := mch t) gy1 P0 P1 h8 f Γ.length a0.1 t (onz t0 n1 s2 h Γ) [] (mch t) w9 cu l1 (by simp) hM hM16 (Nat.le_refl _) hM16 (fun j hj => hw' j (by rw [l1] at hj; exact hj))
    exact GH_nq hn hm f t [] _ _ Δ w he trivial aq nq dU (onz_cv hn he.1) hk hU
  refine gen_fin6qo (a5 := a5) (cd := cd) (wB := s.1) (E0 := s.2.2.1) (p := s.2.2.2.1) (ob := s.2.2.2.2.1) (k := s.2.2.2.2.2) (y := s.1) hn hm T hFm hgr hWm hW1 hW H1 w he l1 cu hΔ1 hm30 hdc hcd a55 ha5 y01 (fun j hj => hw' j (by rw [l1] at hj; exact hj)) (HE_sfy ebw_mono e2w_mono hm hh hn (Nat.le_trans (Nat.le_max_left _ _) (Nat.le_max_left _ _)) he.1 hw' (fun Δ' b1 Γ' e' o9 _ _ => Or.inr (Or.inr (IS2_okt _ _ b1 (Nat.le_refl _) o9 (fun _ _ _ _ p => p.elim) (hb0 b1 (by rw [e']; simp)))))) go R hS
end PmZs1
section PmZs2
variable {t0 fn s2 hv r0 r1 r2 r3 x0 : Nat} {n1 h : Nat → Nat} {P Q : List (List Nat)} {F G W : FrT} {X : List Nat}
theorem gen_z0q (hn : NC t0 n1 s2 h) (hm : ∀ y y', y ≤ y' → h y ≤ h y') (hh : ∀ y δ, h (y + δ) ≤ h y + δ) (T : TBs 58 t0 fn s2 hv r0 r1 r2 r3 x0 n1 h P Q F G X) (hFm : frm F = true) (hgr : fgc F W hv = true) (hWm : fgm W = true) (hW1 : fg1s W = true) (hW : (1, 0) ∈ frg W 0) (H1 : ∀ y, h y ≤ hv + max 1 y) {f : Nat} {t S : Ty} {Γ : List Ty} {Δ : List (Nat × Ty × Nat)} {a5 cd Bd : Nat} (w : TWf f Γ.length (Δ.map (fun a => a.1)) t) (he : TE Γ Δ) (hm30 : mch t ≤ 30) (hdc : dch Δ ≤ cd) (hcd : cd ≤ 56) (a55 : a5 ≤ 5) (ha5 : Δ ≠ [] → a5 = 0) (hb0 : ∀ b ∈ Γ, IS2 (fun _ => False) b) {K La : Nat} (hLK : La ≤ K) (K30 : K ≤ 30) (kcd : dch Δ ≤ K + 9) (hM : mch t ≤ La + 7) (hM16 : mch t ≤ 15) (hLa : 13 ≤ mch t → 5 ≤ La) {s : T6} (y01 : x0 ≤ s.1) (hw' : ∀ j, j < Γ.length → vw (onz t0 n1 s2 h Γ) j ≤ s.1) (gq : gqx F W hv K La s = true) (R : dpD true F W a5 hv fn s2 r0 r1 r2 r3 s.2.2.1 s.2.2.2.1 s.1 s.2.2.2.2.1 s.2.2.2.2.2 s.1 cd (mch t) ≤ Bd) (hS : tyF f t Γ Δ = .inr S) : nz t0 n1 s2 h (onz t0 n1 s2 h Γ) S ≤ Bd := by
  have l1 := onz_len t0 n1 s2 h Γ
  unfold gqx at gq
  rw [Bool.and_eq_true, Bool.and_eq_true, Bool.and_eq_true, Bool.or_eq_true] at gq
  obtain ⟨gk, gy1, gy2, gy3⟩ := gq
  have gy1 := Nat.le_of_ble_eq_true gy1
  have gy2 := Nat.le_of_ble_eq_true gy2
  generalize hYq : Zx F s.1 (max La 3 + 2) = Yq at gk gy1 gy2 gy3
  have go : ∀ Z, AQh t0 n1 s2 h (E2 (X7q F W hv s.1 cd (mch t) s.2.2.1 s.2.2.2.1 s.1 s.2.2.2.2.1) (ebw F W hv s.1 cd (mch t) s.2.2.1 s.2.2.2.1 s.1 s.2.2.2.2.1) (e2w F W hv s.1 cd (mch t) s.2.2.2.2.2)) Z f t [] (onz t0 n1 s2 h Γ) → HEk t0 n1 s2 h (E2 (X7q F W hv s.1 cd (mch t) s.2.2.1 s.2.2.2.1 s.1 s.2.2.2.2.1) (ebw F W hv s.1 cd (mch t) s.2.2.1 s.2.2.2.1 s.1 s.2.2.2.2.1) (e2w F W hv s.1 cd (mch t) s.2.2.2.2.2)) Γ (onz t0 n1 s2 h Γ) → GOk t0 n1 s2 h (E2 (X7q F W hv s.1 cd (mch t) s.2.2.1 s.2.2.2.1 s.1 s.2.2.2.2.1) (ebw F W hv s.1 cd (mch t) s.2.2.1 s.2.2.2.1 s.1 s.2.2.2.2.1) (e2w F W hv s.1 cd (mch t) s.2.2.2.2.2)) f t [] (onz t0 n1 s2 h Γ) Γ Δ := by
    intro Z aq hk
    have Yg : ∀ bb, Yq ≤ gyw W Yq bb := by
      intro bb
      have a0 := Zx_mem (x := Yq) (frg W 0) (1, 0) hW
      simp only at a0
      have a1 : Yq ≤ gyw W Yq 0 := by
        show Yq ≤ (frg W 0).foldr (fun u a => max (u.2 + u.1 * Yq) a) 0
        omega
      exact Nat.le_trans a1 (gyw_mono hWm (Nat.zero_le _))
    have xY : x0 ≤ Yq := Nat.le_trans y01 gy1
    have ebb : ∀ z, s.2.2.1 + s.2.2.2.1 * max z s.1 ≤ ebw F W hv s.1 cd (mch t) s.2.2.1 s.2.2.2.1 s.1 s.2.2.2.2.1 z := fun z => by
      unfold ebw
      exact le_mx (Or.inl (le_mx (Or.inl (Nat.le_refl _))))
    have hG := fun A ω bb => gq_E (t0 := t0) (n1 := n1) (s2 := s2) (h := h) (X7 := X7w F W s.1 cd (mch t)) (e2 := e2w F W hv s.1 cd (mch t) s.2.2.2.2.2) T hm hFm Yg ebw_mono e2w_mono ebb gk K30 xY A ω bb
    have hgr' : ∀ (A : Ty) (ω : List Nat) (bb : Nat), ok ω.length A = true → tch A + bb ≤ K → (∀ j, j < ω.length → vw ω j ≤ gyw W Yq bb) → h (nz t0 n1 s2 h ω A) ≤ gyw W Yq (bb + tch A + 4) := fun A ω bb o hk' hw'' => ((dh_ok (un := true) (a5 := 0) (ob := 0) (cd := 0) (wB := 0) (y := Yq) (E0 := 0) (p := 0) (k := 0) (mt := 0) hn hm T hFm hgr hWm hW1 hW H1 (by omega) (by omega) xY).gr A ω bb o (by omega) hw'').1
    have tx := fun (A : Ty) (ω : List Nat) (o : ok ω.length A = true) (hk' : tch A ≤ K + 5) (hw'' : ∀ j, j < ω.length → vw ω j ≤ Yq) => txt_UB (t0 := t0) (n1 := n1) (s2 := s2) (h := h) (E := (E2 (X7q F W hv s.1 cd (mch t) s.2.2.1 s.2.2.2.1 s.1 s.2.2.2.2.1) (ebw F W hv s.1 cd (mch t) s.2.2.1 s.2.2.2.1 s.1 s.2.2.2.2.1) (e2w F W hv s.1 cd (mch t) s.2.2.2.2.2))) (Y := Yq) (K := K) (g := gyw W Yq) (fun b1 b2 hb => gyw_mono hWm hb) (Yg 0) hgr' hG _ A ω 0 (Nat.le_refl _) o (by omega) (fun j hj => Nat.le_trans (hw'' j hj) (Yg 0))
    have wY : ∀ j, j < Γ.length → vw (onz t0 n1 s2 h Γ) j ≤ Yq := fun j hj => Nat.le_trans (hw' j hj) gy1
    have hU : HUB t0 n1 s2 h (E2 (X7q F W hv s.1 cd (mch t) s.2.2.1 s.2.2.2.1 s.1 s.2.2.2.2.1) (ebw F W hv s.1 cd (mch t) s.2.2.1 s.2.2.2.1 s.1 s.2.2.2.2.1) (e2w F W hv s.1 cd (mch t) s.2.2.2.2.2)) Yq Γ (onz t0 n1 s2 h Γ) := by
      refine HUB_of he.1 (fun Δ' b1 Γ' e o => ?_)
      have lo := onz_len t0 n1 s2 h Γ'
      exact UB_is2 _ b1 _ (Nat.le_refl _) (by rw [lo]; exact o) (IS2_okt _ Γ'.length b1 (Nat.le_refl _) o (fun _ _ _ _ p => p.elim) (hb0 b1 (by rw [e]; simp)))
    have dU : DU t0 n1 s2 h (E2 (X7q F W hv s.1 cd (mch t) s.2.2.1 s.2.2.2.1 s.1 s.2.2.2.2.1) (ebw F W hv s.1 cd (mch t) s.2.2.1 s.2.2.2.1 s.1 s.2.2.2.2.1) (e2w F W hv s.1 cd (mch t) s.2.2.2.2.2)) Yq (onz t0 n1 s2 h Γ) Δ := by
      intro a ha
      obtain ⟨a1, a2, a3⟩ := he.2.2 a ha
      have ad := dch_mem ha
      have al : a.2.2 ≤ (onz t0 n1 s2 h Γ).length := by rw [l1]; exact a1
      have ll : ((onz t0 n1 s2 h Γ).drop ((onz t0 n1 s2 h Γ).length - a.2.2)).length = a.2.2 := by rw [List.length_drop]; omega
      refine ⟨(onz t0 n1 s2 h Γ).take ((onz t0 n1 s2 h Γ).length - a.2.2), (onz t0 n1 s2 h Γ).drop ((onz t0 n1 s2 h Γ).length - a.2.2), (List.take_append_drop _ _).symm, ll, ?_⟩
      refine tx a.2.1 _ (by rw [ll]; exact a2) (by omega) (fun j hj => ?_)
      have q := vw_app_lo ((onz t0 n1 s2 h Γ).take ((onz t0 n1 s2 h Γ).length - a.2.2)) _ j hj
      rw [List.take_append_drop] at q
      rw [← q]
      exact wY j (by rw [ll] at hj; rw [l1] at al; omega)
    have P0 : TxP t0 n1 s2 h (E2 (X7q F W hv s.1 cd (mch t) s.2.2.1 s.2.2.2.1 s.1 s.2.2.2.2.1) (ebw F W hv s.1 cd (mch t) s.2.2.1 s.2.2.2.1 s.1 s.2.2.2.2.1) (e2w F W hv s.1 cd (mch t) s.2.2.2.2.2)) Yq La s.1 := fun A ω o hk' hw'' => by
      have wq : ∀ j, j < ω.length → vw ω j ≤ Yq := fun j hj => Nat.le_trans (hw'' j hj) gy1
      refine ⟨hG A ω 0 o (by omega) (fun j hj => Nat.le_trans (wq j hj) (Yg 0)), tx A ω o (by omega) wq, ?_⟩
      rw [← hYq]
      exact Nat.le_trans (Zx_le T o (by omega) y01 hw'') (Zx_ms hFm (by omega) (by omega))
    have P1 : TxP t0 n1 s2 h (E2 (X7q F W hv s.1 cd (mch t) s.2.2.1 s.2.2.2.1 s.1 s.2.2.2.2.1) (ebw F W hv s.1 cd (mch t) s.2.2.1 s.2.2.2.1 s.1 s.2.2.2.2.1) (e2w F W hv s.1 cd (mch t) s.2.2.2.2.2)) Yq 3 Yq := fun A ω o hk' hw'' => by
      refine ⟨fun ρ hρ => ?_, tx A ω o (by omega) hw'', Nat.le_trans (Zx_le T o (by omega) xY hw'') (Nat.le_trans (Zx_ms hFm (by omega) (by omega)) gy2)⟩
      rcases two_txt o (by omega) with e | ⟨j, hj, e⟩ | e
      · rw [e]
        cases ρ with
        | nil => exact absurd rfl hρ
        | cons p9 ρ => rw [vz_top]; exact Nat.zero_le _
      · rw [e]
        cases ρ with
        | nil => exact absurd rfl hρ
        | cons p9 ρ => rw [vz_var]; exact Nat.le_refl _
      · rw [e]
        unfold tR0
        cases ρ with
        | nil => exact absurd rfl hρ
        | cons p9 ρ =>
          cases p9 with
          | none => rw [vz_recN, vz_nil]; exact Nat.zero_le _
          | some z9 => rw [vz_recS]; exact Nat.zero_le _
    have h8 : 13 ≤ mch t → ∀ (B : Ty) (ω : List Nat), ok ω.length B = true → tch B ≤ 4 → (∀ j, j < ω.length → vw ω j ≤ s.1) → h (nz t0 n1 s2 h ω B) ≤ Yq := fun m13 B9 ω o hk' hw'' => by
      have l5 := hLa m13
      have g3 := gy3.resolve_left (by intro q; have := Nat.le_of_ble_eq_true q; omega)
      have g3 := Nat.le_of_ble_eq_true g3
      have q1 := H1 (nz t0 n1 s2 h ω B9)
      have q2 := Nat.le_trans (Zx_le T o (by omega) y01 hw'') (Zx_ms hFm (x := s.1) (s := tch B9 + 2) (s' := 6) (by omega) (by omega))
      omega
    have nq := NQ_zero8 (t0 := t0) (n1 := n1) (s2 := s2) (h := h) (E := (E2 (X7q F W hv s.1 cd (mch t) s.2.2.1 s.2.2.2.1 s.1 s.2.2.2.2.1) (ebw F W hv s.1 cd (mch t) s.2.2.1 s.2.2.2.1 s.1 s.2.2.2.2.1) (e2w F W hv s.1 cd (mch t) s.2.2.2.2.2))) (Y := Yq) (M0 := mch t) gy1 P0 P1 h8 f Γ.length _ t (onz t0 n1 s2 h Γ) [] (mch t) w l1 (by simp) hM hM16 (Nat.le_refl _) (by omega) (fun j hj => hw' j (by rw [l1] at hj; exact hj))
    exact GH_nq hn hm f t [] _ _ Δ w he trivial aq nq dU (onz_cv hn he.1) hk hU
  refine gen_fin6q (un := true) (a5 := a5) (cd := cd) (wB := s.1) (E0 := s.2.2.1) (p := s.2.2.2.1) (ob := s.2.2.2.2.1) (k := s.2.2.2.2.2) (y := s.1) hn hm T hFm hgr hWm hW1 hW H1 w he l1 (Or.inl rfl) hm30 hdc hcd a55 ha5 y01 (fun j hj => hw' j (by rw [l1] at hj; exact hj)) (HE_sfy ebw_mono e2w_mono hm hh hn (Nat.le_trans (Nat.le_max_left _ _) (Nat.le_max_left _ _)) he.1 hw' (fun Δ' b1 Γ' e' o9 _ _ => Or.inr (Or.inr (IS2_okt _ _ b1 (Nat.le_refl _) o9 (fun _ _ _ _ p => p.elim) (hb0 b1 (by rw [e']; simp)))))) go R hS
end PmZs2
section PmZs3
variable {f : Nat} {t : Ty} {Γ : List Ty} {Δ : List (Nat × Ty × Nat)} {cd : Nat}
theorem zone_0qo (w : TWf f Γ.length (Δ.map (fun a => a.1)) t) (he : TE Γ Δ) (cu : TNo f t) (hΔ1 : Δ.length ≤ 1) (nD : Δ ≠ []) (hb0 : ∀ b ∈ Γ, IS2 (fun _ => False) b) {K La : Nat} (hLK : La ≤ K) (K30 : K ≤ 30) (kcd : dch Δ ≤ K + 9) (hM : mch t ≤ La + 8) (hM16 : mch t ≤ 16) (hLa : 13 ≤ mch t → 5 ≤ La) {sR sG : T6} (yR : max 1 (fx1.getD (cch Γ) 0) ≤ sR.1) (yG : max 1 (fxq.getD (cch Γ) 0) ≤ sG.1) (tR : lnqo [[sR]] fr1 fg1 1 2 3 2 2 2 2 887 cd (mch t) K La = true) (tG : lnqo [[sG]] frq fgq 0 1 1 1 3 2 1 597 cd (mch t) K La = true) (m30 : mch t ≤ 30) (cd56 : cd ≤ 56) (c56 : cch Γ ≤ 56) (hb : dch Δ ≤ cd) : NtV Γ Δ f t 887 597 := by
  have gR := lnqo_get tR (s := sR) (List.mem_singleton.mpr rfl)
  have gG := lnqo_get tG (s := sG) (List.mem_singleton.mpr rfl)
  refine fun S hS => ⟨fun d => ?_, ?_⟩
  · exact gen_z0qo (a5 := 0) (cd := cd) (NC_rows d 1) (vlr_mono d 1) (vlr_lip d 1) (tbs1 d) fr1_m fg1_ok fg1_m fg1s_1 (by decide) (vlr_one d) w he cu hΔ1 nD m30 hb cd56 (Nat.zero_le _) (fun _ => rfl) hb0 hLK K30 kcd hM hM16 hLa (Nat.le_trans (Nat.le_max_left _ _) yR) (fun j hj => Nat.le_trans (onz_chars (n1 := fun _ => 1 + 1) (tbs1 d).1 (tbs1 d).2.1 (tbs1 d).2.2.1 (tbs1 d).2.2.2.1 (tbs1 d).2.2.2.2.1 Γ he.1 c56 j hj) (Nat.le_trans (Nat.le_max_right _ _) yR)) gR.1 gR.2 hS
  · exact gen_z0qo (a5 := 0) (cd := cd) NC_goals (fun y y' hy => hy) (fun y δ => Nat.le_refl _) tbsq frq_m fgq_ok fgq_m fg1s_q (by decide) (fun y => by show y ≤ 0 + max 1 y; omega) w he cu hΔ1 nD m30 hb cd56 (Nat.zero_le _) (fun _ => rfl) hb0 hLK K30 kcd hM hM16 hLa (Nat.le_trans (Nat.le_max_left _ _) yG) (fun j hj => Nat.le_trans (onz_chars (n1 := ngc) tbsq.1 tbsq.2.1 tbsq.2.2.1 tbsq.2.2.2.1 tbsq.2.2.2.2.1 Γ he.1 c56 j hj) (Nat.le_trans (Nat.le_max_right _ _) yG)) gG.1 gG.2 hS
theorem zone_0q (w : TWf f Γ.length (Δ.map (fun a => a.1)) t) (he : TE Γ Δ) (hb0 : ∀ b ∈ Γ, IS2 (fun _ => False) b) {K La : Nat} (hLK : La ≤ K) (K30 : K ≤ 30) (kcd : dch Δ ≤ K + 9) (hM : mch t ≤ La + 7) (hM16 : mch t ≤ 15) (hLa : 13 ≤ mch t → 5 ≤ La) {sR sG : T6} (yR : max 1 (fx1.getD (cch Γ) 0) ≤ sR.1) (yG : max 1 (fxq.getD (cch Γ) 0) ≤ sG.1) (tR : lnqm [[sR]] fr1 fg1 1 2 3 2 2 2 2 887 cd (mch t) K La = true) (tG : lnqm [[sG]] frq fgq 0 1 1 1 3 2 1 597 cd (mch t) K La = true) (m30 : mch t ≤ 30) (cd56 : cd ≤ 56) (c56 : cch Γ ≤ 56) (hb : dch Δ ≤ cd) : NtV Γ Δ f t 887 597 := by
  have gR := lnqm_get tR (s := sR) (List.mem_singleton.mpr rfl)
  have gG := lnqm_get tG (s := sG) (List.mem_singleton.mpr rfl)
  refine fun S hS => ⟨fun d => ?_, ?_⟩
  · exact gen_z0q (a5 := 0) (cd := cd) (NC_rows d 1) (vlr_mono d 1) (vlr_lip d 1) (tbs1 d) fr1_m fg1_ok fg1_m fg1s_1 (by decide) (vlr_one d) w he m30 hb cd56 (Nat.zero_le _) (fun _ => rfl) hb0 hLK K30 kcd hM hM16 hLa (Nat.le_trans (Nat.le_max_left _ _) yR) (fun j hj => Nat.le_trans (onz_chars (n1 := fun _ => 1 + 1) (tbs1 d).1 (tbs1 d).2.1 (tbs1 d).2.2.1 (tbs1 d).2.2.2.1 (tbs1 d).2.2.2.2.1 Γ he.1 c56 j hj) (Nat.le_trans (Nat.le_max_right _ _) yR)) gR.1 gR.2 hS
  · exact gen_z0q (a5 := 0) (cd := cd) NC_goals (fun y y' hy => hy) (fun y δ => Nat.le_refl _) tbsq frq_m fgq_ok fgq_m fg1s_q (by decide) (fun y => by show y ≤ 0 + max 1 y; omega) w he m30 hb cd56 (Nat.zero_le _) (fun _ => rfl) hb0 hLK K30 kcd hM hM16 hLa (Nat.le_trans (Nat.le_max_left _ _) yG) (fun j hj => Nat.le_trans (onz_chars (n1 := ngc) tbsq.1 tbsq.2.1 tbsq.2.2.1 tbsq.2.2.2.1 tbsq.2.2.2.2.1 Γ he.1 c56 j hj) (Nat.le_trans (Nat.le_max_right _ _) yG)) gG.1 gG.2 hS
end PmZs3
theorem z0m_8_20 : (lnqm [[(62, 13, 12, 4, 0, 0)]] fr1 fg1 1 2 3 2 2 2 2 887 22 8 13 3 && lnqm [[(48, 13, 13, 4, 0, 0)]] frq fgq 0 1 1 1 3 2 1 597 22 8 13 3) = true ∧ ∀ c, c < 32 → max 1 (fx1.getD c 0) ≤ 62 ∧ max 1 (fxq.getD c 0) ≤ 48 := ⟨by decide +kernel, by decide +kernel⟩
theorem z0m_8_32 : (lnqm [[(68, 3, 2, 1, 0, 0)]] fr1 fg1 1 2 3 2 2 2 2 887 10 8 3 3 && lnqm [[(50, 3, 1, 1, 0, 0)]] frq fgq 0 1 1 1 3 2 1 597 10 8 3 3) = true ∧ ∀ c, c < 33 → max 1 (fx1.getD c 0) ≤ 68 ∧ max 1 (fxq.getD c 0) ≤ 50 := ⟨by decide +kernel, by decide +kernel⟩
theorem z0m_9_20 : (lnqm [[(52, 11, 11, 3, 0, 0)]] fr1 fg1 1 2 3 2 2 2 2 887 20 9 11 3 && lnqm [[(45, 11, 10, 3, 0, 0)]] frq fgq 0 1 1 1 3 2 1 597 20 9 11 3) = true ∧ ∀ c, c < 31 → max 1 (fx1.getD c 0) ≤ 52 ∧ max 1 (fxq.getD c 0) ≤ 45 := ⟨by decide +kernel, by decide +kernel⟩
theorem z0m_10_20 : (lnqm [[(50, 9, 6, 3, 0, 0)]] fr1 fg1 1 2 3 2 2 2 2 887 18 10 9 3 && lnqm [[(36, 9, 7, 3, 0, 0)]] frq fgq 0 1 1 1 3 2 1 597 18 10 9 3) = true ∧ ∀ c, c < 29 → max 1 (fx1.getD c 0) ≤ 50 ∧ max 1 (fxq.getD c 0) ≤ 36 := ⟨by decide +kernel, by decide +kernel⟩
theorem z0m_11_20 : (lnqm [[(34, 7, 6, 2, 0, 0)]] fr1 fg1 1 2 3 2 2 2 2 887 16 11 7 4 && lnqm [[(30, 7, 8, 2, 0, 0)]] frq fgq 0 1 1 1 3 2 1 597 16 11 7 4) = true ∧ ∀ c, c < 27 → max 1 (fx1.getD c 0) ≤ 34 ∧ max 1 (fxq.getD c 0) ≤ 30 := ⟨by decide +kernel, by decide +kernel⟩
theorem z0m_12_20 : (lnqm [[(34, 5, 74, 2, 0, 0)]] fr1 fg1 1 2 3 2 2 2 2 887 14 12 5 5 && lnqm [[(27, 5, 57, 2, 0, 0)]] frq fgq 0 1 1 1 3 2 1 597 14 12 5 5) = true ∧ ∀ c, c < 25 → max 1 (fx1.getD c 0) ≤ 34 ∧ max 1 (fxq.getD c 0) ≤ 27 := ⟨by decide +kernel, by decide +kernel⟩
theorem z0m_13_20 : (lnqm [[(26, 6, 58, 2, 0, 0)]] fr1 fg1 1 2 3 2 2 2 2 887 12 13 6 6 && lnqm [[(19, 6, 41, 2, 0, 0)]] frq fgq 0 1 1 1 3 2 1 597 12 13 6 6) = true ∧ ∀ c, c < 23 → max 1 (fx1.getD c 0) ≤ 26 ∧ max 1 (fxq.getD c 0) ≤ 19 := ⟨by decide +kernel, by decide +kernel⟩
theorem z0m_14_20 : (lnqm [[(22, 7, 50, 2, 0, 0)]] fr1 fg1 1 2 3 2 2 2 2 887 10 14 7 7 && lnqm [[(18, 7, 42, 2, 0, 0)]] frq fgq 0 1 1 1 3 2 1 597 10 14 7 7) = true ∧ ∀ c, c < 21 → max 1 (fx1.getD c 0) ≤ 22 ∧ max 1 (fxq.getD c 0) ≤ 18 := ⟨by decide +kernel, by decide +kernel⟩
theorem z0o_10_20 : (lnqo [[(50, 9, 6, 3, 0, 0)]] fr1 fg1 1 2 3 2 2 2 2 887 18 10 9 3 && lnqo [[(36, 9, 7, 3, 0, 0)]] frq fgq 0 1 1 1 3 2 1 597 18 10 9 3) = true ∧ ∀ c, c < 29 → max 1 (fx1.getD c 0) ≤ 50 ∧ max 1 (fxq.getD c 0) ≤ 36 := ⟨by decide +kernel, by decide +kernel⟩
theorem z0o_10_29 : (lnqo [[(74, 3, 2, 1, 0, 0)]] fr1 fg1 1 2 3 2 2 2 2 887 9 10 3 3 && lnqo [[(57, 3, 1, 1, 0, 0)]] frq fgq 0 1 1 1 3 2 1 597 9 10 3 3) = true ∧ ∀ c, c < 34 → max 1 (fx1.getD c 0) ≤ 74 ∧ max 1 (fxq.getD c 0) ≤ 57 := ⟨by decide +kernel, by decide +kernel⟩
theorem z0o_11_20 : (lnqo [[(62, 7, 6, 2, 0, 0)]] fr1 fg1 1 2 3 2 2 2 2 887 16 11 7 3 && lnqo [[(48, 7, 7, 2, 0, 0)]] frq fgq 0 1 1 1 3 2 1 597 16 11 7 3) = true ∧ ∀ c, c < 32 → max 1 (fx1.getD c 0) ≤ 62 ∧ max 1 (fxq.getD c 0) ≤ 48 := ⟨by decide +kernel, by decide +kernel⟩
theorem z0o_12_20 : (lnqo [[(50, 5, 6, 2, 0, 0)]] fr1 fg1 1 2 3 2 2 2 2 887 14 12 5 4 && lnqo [[(38, 5, 7, 2, 0, 0)]] frq fgq 0 1 1 1 3 2 1 597 14 12 5 4) = true ∧ ∀ c, c < 30 → max 1 (fx1.getD c 0) ≤ 50 ∧ max 1 (fxq.getD c 0) ≤ 38 := ⟨by decide +kernel, by decide +kernel⟩
theorem z0o_13_20 : (lnqo [[(42, 5, 90, 2, 0, 0)]] fr1 fg1 1 2 3 2 2 2 2 887 12 13 5 5 && lnqo [[(36, 5, 75, 2, 0, 0)]] frq fgq 0 1 1 1 3 2 1 597 12 13 5 5) = true ∧ ∀ c, c < 28 → max 1 (fx1.getD c 0) ≤ 42 ∧ max 1 (fxq.getD c 0) ≤ 36 := ⟨by decide +kernel, by decide +kernel⟩
theorem z0o_14_20 : (lnqo [[(34, 6, 74, 2, 0, 0)]] fr1 fg1 1 2 3 2 2 2 2 887 10 14 6 6 && lnqo [[(27, 6, 57, 2, 0, 0)]] frq fgq 0 1 1 1 3 2 1 597 10 14 6 6) = true ∧ ∀ c, c < 26 → max 1 (fx1.getD c 0) ≤ 34 ∧ max 1 (fxq.getD c 0) ≤ 27 := ⟨by decide +kernel, by decide +kernel⟩
theorem z0o_15_20 : (lnqo [[(26, 7, 58, 2, 0, 0)]] fr1 fg1 1 2 3 2 2 2 2 887 8 15 7 7 && lnqo [[(24, 7, 54, 2, 0, 0)]] frq fgq 0 1 1 1 3 2 1 597 8 15 7 7) = true ∧ ∀ c, c < 24 → max 1 (fx1.getD c 0) ≤ 26 ∧ max 1 (fxq.getD c 0) ≤ 24 := ⟨by decide +kernel, by decide +kernel⟩
theorem z0o_16_20 : (lnqo [[(23, 8, 58, 2, 0, 0)]] fr1 fg1 1 2 3 2 2 2 2 887 6 16 8 8 && lnqo [[(18, 8, 48, 2, 0, 0)]] frq fgq 0 1 1 1 3 2 1 597 6 16 8 8) = true ∧ ∀ c, c < 22 → max 1 (fx1.getD c 0) ≤ 23 ∧ max 1 (fxq.getD c 0) ≤ 18 := ⟨by decide +kernel, by decide +kernel⟩
section PmZs4
variable {f : Nat} {t : Ty} {Γ : List Ty} {Δ : List (Nat × Ty × Nat)}
theorem nat_0qo (w : TWf f Γ.length (Δ.map (fun a => a.1)) t) (he : TE Γ Δ) (cu : TNo f t) (hΔ1 : Δ.length ≤ 1) (nD : Δ ≠ []) (hb0 : ∀ b ∈ Γ, IS2 (fun _ => False) b) (m0 : 10 ≤ mch t) (h20 : 20 ≤ cch Γ) (hb : cch Γ + dch Δ + 2 * mch t ≤ 58) : NtV Γ Δ f t 887 597 := by
  have d5 := dch_five he nD
  have hm : mch t = 10 ∨ mch t = 11 ∨ mch t = 12 ∨ mch t = 13 ∨ mch t = 14 ∨ mch t = 15 ∨ mch t = 16 := by omega
  rcases hm with e | e | e | e | e | e | e
  · by_cases hc : cch Γ ≤ 28
    · have q := z0o_10_20
      rw [Bool.and_eq_true] at q
      have q2 := q.2 (cch Γ) (by omega)
      exact zone_0qo (cd := 18) (K := 9) (La := 3) (sR := (50, 9, 6, 3, 0, 0)) (sG := (36, 9, 7, 3, 0, 0)) w he cu hΔ1 nD hb0 (by omega) (by omega) (by omega) (by omega) (by omega) (by omega) q2.1 q2.2 (by rw [e]; exact q.1.1) (by rw [e]; exact q.1.2) (by omega) (by omega) (by omega) (by omega)
    have q := z0o_10_29
    rw [Bool.and_eq_true] at q
    have q2 := q.2 (cch Γ) (by omega)
    exact zone_0qo (cd := 9) (K := 3) (La := 3) (sR := (74, 3, 2, 1, 0, 0)) (sG := (57, 3, 1, 1, 0, 0)) w he cu hΔ1 nD hb0 (by omega) (by omega) (by omega) (by omega) (by omega) (by omega) q2.1 q2.2 (by rw [e]; exact q.1.1) (by rw [e]; exact q.1.2) (by omega) (by omega) (by omega) (by omega)
  · have q := z0o_11_20
    rw [Bool.and_eq_true] at q
    have q2 := q.2 (cch Γ) (by omega)
    exact zone_0qo (cd := 16) (K := 7) (La := 3) (sR := (62, 7, 6, 2, 0, 0)) (sG := (48, 7, 7, 2, 0, 0)) w he cu hΔ1 nD hb0 (by omega) (by omega) (by omega) (by omega) (by omega) (by omega) q2.1 q2.2 (by rw [e]; exact q.1.1) (by rw [e]; exact q.1.2) (by omega) (by omega) (by omega) (by omega)
  · have q := z0o_12_20
    rw [Bool.and_eq_true] at q
    have q2 := q.2 (cch Γ) (by omega)
    exact zone_0qo (cd := 14) (K := 5) (La := 4) (sR := (50, 5, 6, 2, 0, 0)) (sG := (38, 5, 7, 2, 0, 0)) w he cu hΔ1 nD hb0 (by omega) (by omega) (by omega) (by omega) (by omega) (by omega) q2.1 q2.2 (by rw [e]; exact q.1.1) (by rw [e]; exact q.1.2) (by omega) (by omega) (by omega) (by omega)
  · have q := z0o_13_20
    rw [Bool.and_eq_true] at q
    have q2 := q.2 (cch Γ) (by omega)
    exact zone_0qo (cd := 12) (K := 5) (La := 5) (sR := (42, 5, 90, 2, 0, 0)) (sG := (36, 5, 75, 2, 0, 0)) w he cu hΔ1 nD hb0 (by omega) (by omega) (by omega) (by omega) (by omega) (by omega) q2.1 q2.2 (by rw [e]; exact q.1.1) (by rw [e]; exact q.1.2) (by omega) (by omega) (by omega) (by omega)
  · have q := z0o_14_20
    rw [Bool.and_eq_true] at q
    have q2 := q.2 (cch Γ) (by omega)
    exact zone_0qo (cd := 10) (K := 6) (La := 6) (sR := (34, 6, 74, 2, 0, 0)) (sG := (27, 6, 57, 2, 0, 0)) w he cu hΔ1 nD hb0 (by omega) (by omega) (by omega) (by omega) (by omega) (by omega) q2.1 q2.2 (by rw [e]; exact q.1.1) (by rw [e]; exact q.1.2) (by omega) (by omega) (by omega) (by omega)
  · have q := z0o_15_20
    rw [Bool.and_eq_true] at q
    have q2 := q.2 (cch Γ) (by omega)
    exact zone_0qo (cd := 8) (K := 7) (La := 7) (sR := (26, 7, 58, 2, 0, 0)) (sG := (24, 7, 54, 2, 0, 0)) w he cu hΔ1 nD hb0 (by omega) (by omega) (by omega) (by omega) (by omega) (by omega) q2.1 q2.2 (by rw [e]; exact q.1.1) (by rw [e]; exact q.1.2) (by omega) (by omega) (by omega) (by omega)
  · have q := z0o_16_20
    rw [Bool.and_eq_true] at q
    have q2 := q.2 (cch Γ) (by omega)
    exact zone_0qo (cd := 6) (K := 8) (La := 8) (sR := (23, 8, 58, 2, 0, 0)) (sG := (18, 8, 48, 2, 0, 0)) w he cu hΔ1 nD hb0 (by omega) (by omega) (by omega) (by omega) (by omega) (by omega) q2.1 q2.2 (by rw [e]; exact q.1.1) (by rw [e]; exact q.1.2) (by omega) (by omega) (by omega) (by omega)
theorem nat_0qm (w : TWf f Γ.length (Δ.map (fun a => a.1)) t) (he : TE Γ Δ) (d10 : 10 ≤ dch Δ) (hb0 : ∀ b ∈ Γ, IS2 (fun _ => False) b) (m0 : 8 ≤ mch t) (h20 : 20 ≤ cch Γ) (hb : cch Γ + dch Δ + 2 * mch t ≤ 58) : NtV Γ Δ f t 887 597 := by
  have hm : mch t = 8 ∨ mch t = 9 ∨ mch t = 10 ∨ mch t = 11 ∨ mch t = 12 ∨ mch t = 13 ∨ mch t = 14 := by omega
  rcases hm with e | e | e | e | e | e | e
  · by_cases hc : cch Γ ≤ 31
    · have q := z0m_8_20
      rw [Bool.and_eq_true] at q
      have q2 := q.2 (cch Γ) (by omega)
      exact zone_0q (cd := 22) (K := 13) (La := 3) (sR := (62, 13, 12, 4, 0, 0)) (sG := (48, 13, 13, 4, 0, 0)) w he hb0 (by omega) (by omega) (by omega) (by omega) (by omega) (by omega) q2.1 q2.2 (by rw [e]; exact q.1.1) (by rw [e]; exact q.1.2) (by omega) (by omega) (by omega) (by omega)
    have q := z0m_8_32
    rw [Bool.and_eq_true] at q
    have q2 := q.2 (cch Γ) (by omega)
    exact zone_0q (cd := 10) (K := 3) (La := 3) (sR := (68, 3, 2, 1, 0, 0)) (sG := (50, 3, 1, 1, 0, 0)) w he hb0 (by omega) (by omega) (by omega) (by omega) (by omega) (by omega) q2.1 q2.2 (by rw [e]; exact q.1.1) (by rw [e]; exact q.1.2) (by omega) (by omega) (by omega) (by omega)
  · have q := z0m_9_20
    rw [Bool.and_eq_true] at q
    have q2 := q.2 (cch Γ) (by omega)
    exact zone_0q (cd := 20) (K := 11) (La := 3) (sR := (52, 11, 11, 3, 0, 0)) (sG := (45, 11, 10, 3, 0, 0)) w he hb0 (by omega) (by omega) (by omega) (by omega) (by omega) (by omega) q2.1 q2.2 (by rw [e]; exact q.1.1) (by rw [e]; exact q.1.2) (by omega) (by omega) (by omega) (by omega)
  · have q := z0m_10_20
    rw [Bool.and_eq_true] at q
    have q2 := q.2 (cch Γ) (by omega)
    exact zone_0q (cd := 18) (K := 9) (La := 3) (sR := (50, 9, 6, 3, 0, 0)) (sG := (36, 9, 7, 3, 0, 0)) w he hb0 (by omega) (by omega) (by omega) (by omega) (by omega) (by omega) q2.1 q2.2 (by rw [e]; exact q.1.1) (by rw [e]; exact q.1.2) (by omega) (by omega) (by omega) (by omega)
  · have q := z0m_11_20
    rw [Bool.and_eq_true] at q
    have q2 := q.2 (cch Γ) (by omega)
    exact zone_0q (cd := 16) (K := 7) (La := 4) (sR := (34, 7, 6, 2, 0, 0)) (sG := (30, 7, 8, 2, 0, 0)) w he hb0 (by omega) (by omega) (by omega) (by omega) (by omega) (by omega) q2.1 q2.2 (by rw [e]; exact q.1.1) (by rw [e]; exact q.1.2) (by omega) (by omega) (by omega) (by omega)
  · have q := z0m_12_20
    rw [Bool.and_eq_true] at q
    have q2 := q.2 (cch Γ) (by omega)
    exact zone_0q (cd := 14) (K := 5) (La := 5) (sR := (34, 5, 74, 2, 0, 0)) (sG := (27, 5, 57, 2, 0, 0)) w he hb0 (by omega) (by omega) (by omega) (by omega) (by omega) (by omega) q2.1 q2.2 (by rw [e]; exact q.1.1) (by rw [e]; exact q.1.2) (by omega) (by omega) (by omega) (by omega)
  · have q := z0m_13_20
    rw [Bool.and_eq_true] at q
    have q2 := q.2 (cch Γ) (by omega)
    exact zone_0q (cd := 12) (K := 6) (La := 6) (sR := (26, 6, 58, 2, 0, 0)) (sG := (19, 6, 41, 2, 0, 0)) w he hb0 (by omega) (by omega) (by omega) (by omega) (by omega) (by omega) q2.1 q2.2 (by rw [e]; exact q.1.1) (by rw [e]; exact q.1.2) (by omega) (by omega) (by omega) (by omega)
  · have q := z0m_14_20
    rw [Bool.and_eq_true] at q
    have q2 := q.2 (cch Γ) (by omega)
    exact zone_0q (cd := 10) (K := 7) (La := 7) (sR := (22, 7, 50, 2, 0, 0)) (sG := (18, 7, 42, 2, 0, 0)) w he hb0 (by omega) (by omega) (by omega) (by omega) (by omega) (by omega) q2.1 q2.2 (by rw [e]; exact q.1.1) (by rw [e]; exact q.1.2) (by omega) (by omega) (by omega) (by omega)
end PmZs4
def RESTAI9 : Prop := ∀ (f : Nat) (x y : Ty) (Γ : List Ty) (Δ : List (Nat × Ty × Nat)) (t : Ty), H9 f x y Γ Δ → Sh9 x y t → ¬ CHo f t [] → (Δ = [] ∨ ∃ (b b' B C : Ty), Γ = [b] ∧ LBd [] [] b b' B C ∧ ¬ IS2 (fun _ => False) b ∧ ((Δ.length = 1 ∧ inB (gB bQo (cch Γ) (mch t)) (tch B) (tch C) (tch b - tch (tAll B C)) 0 0 = true) ∨ (2 ≤ Δ.length ∧ inB (gB bQm (cch Γ) (mch t)) (tch B) (tch C) (tch b - tch (tAll B C)) 0 0 = true))) → PRn f x y Γ Δ
theorem restAH9_of (R : RESTAI9) : RESTAH9 := by
  intro f x y Γ Δ t H sh nc q
  have H' := H
  obtain ⟨hx9, hy9, ⟨he, hv, hd', h20, h47, -⟩, hb, nO, nPS, nPG, -⟩ := H'
  obtain ⟨⟨wt, nt, tt, m3', m3, n9⟩, pm, hbt⟩ := h9_t H sh
  by_cases nD : Δ = []
  · exact R f x y Γ Δ t H sh nc (Or.inl nD)
  rcases q with q | q | q
  · exact absurd q nD
  · by_cases one : Δ.length ≤ 1
    · by_cases m9 : mch t ≤ 9
      · obtain ⟨a0, ea⟩ : ∃ a0, Δ = [a0] := by
          match Δ, nD, one with
          | [], nD, _ => exact absurd rfl nD
          | [a], _, _ => exact ⟨a, rfl⟩
          | a :: b :: l, _, h1 => rw [List.length_cons, List.length_cons] at h1; omega
        refine h9_ntv H sh (fun S hS => ?_)
        exfalso
        rw [ea] at wt he hS
        exact vac_nine he hv wt tt nc m9 hS
      · exact h9_ntv H sh (nat_0qo wt he tt one nD q (by omega) h20 hbt)
    · have d10 : 10 ≤ dch Δ := by
        match Δ, nD, one, he with
        | [], nD, _, _ => exact absurd rfl nD
        | [a], _, one, _ => exact absurd (Nat.le_refl 1) one
        | a :: c :: l, _, _, he =>
          have p1 := tch_pos (he.2.2 a (by simp)).2.1
          have p2 := tch_pos (he.2.2 c (by simp)).2.1
          have e : dch (a :: c :: l) = (tch a.2.1 + 4) + ((tch c.2.1 + 4) + dch l) := rfl
          omega
      have m8 := cho_min _ _ _ _ _ wt nc
      simp only [List.length_nil] at m8
      exact h9_ntv H sh (nat_0qm wt he d10 q (by omega) h20 hbt)
  · exact R f x y Γ Δ t H sh nc (Or.inr q)
theorem pairn_qi (R : RESTAI9) : PAIRn := pairn_qh (restAH9_of R)
