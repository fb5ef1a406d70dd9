/-! NO BOUND IS A SCHEME ITSELF: the schemes inside are met only behind a part that is taken. -/
/-- a part is taken before some argument -/
def nbk : Stk → Bool
  | [] => false
  | none :: ρ => hs ρ
  | some _ :: ρ => nbk ρ
theorem cnS_len : ∀ ρ : Stk, cnS ρ ≤ ρ.length
  | [] => Nat.le_refl _
  | none :: ρ => by have := cnS_len ρ; show cnS ρ ≤ ρ.length + 1; omega
  | some _ :: ρ => by have := cnS_len ρ; show cnS ρ + 1 ≤ ρ.length + 1; omega
theorem hs_cnS : ∀ ρ : Stk, hs ρ = true → 1 ≤ cnS ρ
  | [], h => absurd h (by decide)
  | none :: ρ, h => hs_cnS ρ h
  | some _ :: ρ, _ => by show 1 ≤ cnS ρ + 1; omega
theorem nbk_len : ∀ ρ : Stk, nbk ρ = true → hs ρ = true ∧ 1 ≤ cnS ρ ∧ cnS ρ + 1 ≤ ρ.length
  | [], h => absurd h (by decide)
  | none :: ρ, h => by
    have h : hs ρ = true := h
    have a := hs_cnS ρ h
    have b := cnS_len ρ
    exact ⟨h, a, by show cnS ρ + 1 ≤ ρ.length + 1; omega⟩
  | some _ :: ρ, h => by
    have h : nbk ρ = true := h
    obtain ⟨a, b, c⟩ := nbk_len ρ h
    exact ⟨rfl, by show 1 ≤ cnS ρ + 1; omega, by show cnS ρ + 1 + 1 ≤ ρ.length + 1; omega⟩
theorem nbk_tail (p : Option Nat) (ρ : Stk) (h : nbk (p :: ρ) = false) : nbk ρ = false := by
  cases p with
  | none =>
    have h : hs ρ = false := h
    cases e : nbk ρ with
    | false => rfl
    | true => rw [(nbk_len ρ e).1] at h; exact absurd h (by decide)
  | some z => exact h
theorem hs_tail' (p : Option Nat) (ρ : Stk) (h : hs (p :: ρ) = false) : hs ρ = false := by
  cases p with
  | none => exact h
  | some z => exact absurd h (by simp [hs])
section PmHs
variable {t0 s2 : Nat} {n1 h : Nat → Nat}
/-- what waits is worth no more, where it may stand -/
theorem vz_Eq {E E' : Stk → Nat} {Q : Stk → Prop} (hQ : ∀ p σ, Q (p :: σ) → Q σ) (hE : ∀ σ : Stk, σ ≠ [] → Q σ → E σ ≤ E' σ) : ∀ (f : Nat) (t : Ty) (ρ : Stk) (ω : List Nat), (flat t).length ≤ f → ok ω.length t = true → Q ρ → vz t0 n1 s2 h E t ρ ω ≤ vz t0 n1 s2 h E' t ρ ω
  | 0, t, _, _, hf, o, _ => by have := flat_pos o; omega
  | f + 1, t, ρ, ω, hf, o, q => by
    cases ρ with
    | nil => rw [vz_no (E := E) o, vz_no (E := E') o]; exact Nat.le_refl _
    | cons p ρ =>
      have q' := hQ p ρ q
      rcases ok_cases o with rfl | ⟨j, hj, rfl⟩ | ⟨a, c, rfl, ha, hb⟩ | ⟨a, c, rfl, ha, hb⟩ | ⟨m, x, y, z, hm, rfl, h0, h1, h2⟩
      · rw [vz_top (E := E), vz_top (E := E')]; exact Nat.le_refl _
      · rw [vz_var (E := E), vz_var (E := E')]; exact hE _ (by simp) q
      · rw [flat_fun, List.length_cons, List.length_append] at hf
        cases p with
        | none => rw [vz_funN (E := E), vz_funN (E := E')]; exact vz_Eq hQ hE f c ρ ω (by omega) hb q'
        | some w => rw [vz_funS (E := E), vz_funS (E := E')]; exact Nat.le_refl _
      · rw [flat_all, List.length_cons, List.length_append] at hf
        cases p with
        | none => rw [vz_allN (E := E), vz_allN (E := E')]; exact Nat.le_refl _
        | some w => rw [vz_allS (E := E), vz_allS (E := E')]; exact vz_Eq hQ hE f c ρ _ (by omega) (by rw [List.length_cons]; exact hb) q'
      · rw [flat_rec, List.length_cons, List.length_append, List.length_append] at hf
        cases p with
        | some w => rw [vz_recS (E := E), vz_recS (E := E')]; exact Nat.le_refl _
        | none =>
          have key : ∀ (i : Nat) (u : Ty), (flat u).length ≤ f → okl ω.length m i u → vz t0 n1 s2 h E u ρ ω ≤ vz t0 n1 s2 h E' u ρ ω := by
            intro i u hu ho
            unfold okl at ho
            by_cases hb : bit m i = true
            · rw [if_pos hb] at ho
              exact vz_Eq hQ hE f u ρ ω hu ho q'
            · rw [if_neg hb] at ho
              rw [ho, vz_nil (E := E), vz_nil (E := E')]; exact Nat.le_refl _
          rw [vz_recN (E := E), vz_recN (E := E')]
          have q0 := key 0 x (by omega) h0
          have q1 := key 1 y (by omega) h1
          have q2 := key 2 z (by omega) h2
          omega
/-- the schemes inside count only behind a part -/
def E8 (X7 : Nat) (eS e2S eb e2 : Nat → Nat) (π : Stk) : Nat := if nbk π = true then E2 X7 eb e2 π else E2 X7 eS e2S π
variable {X7 : Nat} {eS e2S eb e2 : Nat → Nat}
theorem E2_lb (l1 : ∀ z, eS z ≤ eb z) (l2 : ∀ z, e2S z ≤ e2 z) (π : Stk) : E2 X7 eS e2S π ≤ E2 X7 eb e2 π := by
  have a := l1 (zm π)
  have b := l2 (zm π)
  unfold E2
  split
  · split <;> omega
  · exact Nat.le_refl _
theorem E8_b (l1 : ∀ z, eS z ≤ eb z) (l2 : ∀ z, e2S z ≤ e2 z) (π : Stk) : E8 X7 eS e2S eb e2 π ≤ E2 X7 eb e2 π := by
  unfold E8
  split
  · exact Nat.le_refl _
  · exact E2_lb l1 l2 π
theorem E8_s {π : Stk} (q : nbk π = false) : E8 X7 eS e2S eb e2 π = E2 X7 eS e2S π := by unfold E8; rw [q, if_neg (by decide)]
theorem E8_l {π : Stk} (q : nbk π = true) : E8 X7 eS e2S eb e2 π = E2 X7 eb e2 π := by unfold E8; rw [if_pos q]
theorem vz_E8 (l1 : ∀ z, eS z ≤ eb z) (l2 : ∀ z, e2S z ≤ e2 z) {t : Ty} {ρ : Stk} {ω : List Nat} (o : ok ω.length t = true) (hs' : nbk ρ = false → vz t0 n1 s2 h (E2 X7 eS e2S) t ρ ω ≤ E2 X7 eS e2S ρ) (hb : vz t0 n1 s2 h (E2 X7 eb e2) t ρ ω ≤ E2 X7 eb e2 ρ) : vz t0 n1 s2 h (E8 X7 eS e2S eb e2) t ρ ω ≤ E8 X7 eS e2S eb e2 ρ := by
  cases c : nbk ρ with
  | false =>
    rw [E8_s c]
    exact Nat.le_trans (vz_Eq (Q := fun σ => nbk σ = false) nbk_tail (fun σ _ q => by rw [E8_s q]; exact Nat.le_refl _) _ t ρ ω (Nat.le_refl _) o c) (hs' c)
  | true =>
    rw [E8_l c]
    exact Nat.le_trans (vz_Es _ t ρ ω (Nat.le_refl _) o (fun σ _ _ => E8_b l1 l2 σ)) hb
def H8 (X7 : Nat) (eS e2S eb e2 : Nat → Nat) (Z : Nat → Nat) (w : Nat) : Nat := max (Hdw X7 eS e2S Z w) (max (if Nat.ble 4 w then eb (Z (w - 3)) else 0) (if Nat.ble 6 w then e2 (Z (w - 5)) else 0))
theorem E8_w {gy : Nat → Nat} {Z : Nat → Nat → Nat} {b : Nat} (heS : ∀ z z', z ≤ z' → eS z ≤ eS z') (he2S : ∀ z z', z ≤ z' → e2S z ≤ e2S z') (he : ∀ z z', z ≤ z' → eb z ≤ eb z') (he2 : ∀ z z', z ≤ z' → e2 z ≤ e2 z') (hZ : ∀ s s', s ≤ s' → Z b s ≤ Z b s') (π : Stk) (w : Nat) (sk : SKb Z gy b π w) : E8 X7 eS e2S eb e2 π ≤ H8 X7 eS e2S eb e2 (Z b) w := by
  cases c : nbk π with
  | false =>
    rw [E8_s c]
    exact Nat.le_trans (E2_w (X7 := X7) heS he2S hZ π w sk) (Nat.le_max_left _ _)
  | true =>
    obtain ⟨h1, c1, c2⟩ := nbk_len π c
    have l := SKb_len π w sk
    have zl := SKb_zl hZ π w sk
    have a0 : X7 ≤ Hdw X7 eS e2S (Z b) w := Nat.le_max_left _ _
    have q1 := he _ _ (Nat.le_trans zl (hZ _ (w - 3) (by omega)))
    rw [E8_l c]
    unfold H8
    rw [if_pos (Nat.ble_eq_true_of_le (show 4 ≤ w by omega))]
    unfold E2
    rw [if_pos h1]
    by_cases c3 : cnS π ≤ 1
    · rw [if_pos c3]; omega
    · have q2 := he2 _ _ (Nat.le_trans zl (hZ _ (w - 5) (by omega)))
      rw [if_neg c3, if_pos (Nat.ble_eq_true_of_le (show 6 ≤ w by omega))]; omega
theorem DHy8 {un : Bool} {a5 fn r0 r1 r2 r3 mt : Nat} {V gy : Nat → Nat} {Z Ha Hb : Nat → Nat → Nat} {D D' : Nat → Nat → Nat → Nat} (heS : ∀ z z', z ≤ z' → eS z ≤ eS z') (he2S : ∀ z z', z ≤ z' → e2S z ≤ e2S z') (he : ∀ z z', z ≤ z' → eb z ≤ eb z') (he2 : ∀ z z', z ≤ z' → e2 z ≤ e2 z') (l1 : ∀ z, eS z ≤ eb z) (l2 : ∀ z, e2S z ≤ e2 z) (ds : DHy un a5 t0 fn s2 r0 r1 r2 r3 mt n1 h V gy Z Ha (E2 X7 eS e2S) D) (db : DHy un a5 t0 fn s2 r0 r1 r2 r3 mt n1 h V gy Z Hb (E2 X7 eb e2) D') : DHy un a5 t0 fn s2 r0 r1 r2 r3 mt n1 h V gy Z (fun b => H8 X7 eS e2S eb e2 (Z b)) (E8 X7 eS e2S eb e2) (DT un a5 fn s2 r0 r1 r2 r3 V Z (fun b => H8 X7 eS e2S eb e2 (Z b)) mt) := by
  have zm' := ds.zm
  obtain ⟨d1, d2, d3, d4, d5, d6, d7⟩ := ds
  exact ⟨d1, d2, d3, DT_ok, fun b π w hπ sk hw => E8_w heS he2S he he2 (fun s s' hs => zm' b b s s' (Nat.le_refl _) hs) π w sk, fun A ω b o ht hw => ⟨fun ρ hρ => vz_E8 l1 l2 o (fun _ => (d6 A ω b o ht hw).1 ρ hρ) ((db.tx A ω b o ht hw).1 ρ hρ), (d6 A ω b o ht hw).2⟩, d7⟩
theorem DVn8 {V0 : Nat} {ω : List Nat} {Δ : List (Nat × Ty × Nat)} (l1 : ∀ z, eS z ≤ eb z) (l2 : ∀ z, e2S z ≤ e2 z) (ds : DVn t0 n1 s2 h (E2 X7 eS e2S) V0 ω Δ) (db : DVn t0 n1 s2 h (E2 X7 eb e2) V0 ω Δ) : DVn t0 n1 s2 h (E8 X7 eS e2S eb e2) V0 ω Δ := by
  intro a ha
  obtain ⟨ν, ω1, e1, e2', e3, e4, e5⟩ := ds a ha
  obtain ⟨ν', ω1', f1, f2, f3, f4, f5⟩ := db a ha
  have eω : ω1' = ω1 := by
    have q : (ν' ++ ω1').drop ν'.length = (ν ++ ω1).drop ν'.length := by rw [← f1, ← e1]
    have ll : ν'.length = ν.length := by
      have a1 := congrArg List.length e1
      have a2 := congrArg List.length f1
      rw [List.length_append] at a1 a2
      omega
    rw [List.drop_left, ll, List.drop_left] at q
    exact q
  subst eω
  exact ⟨ν, ω1', e1, e2', e3, e4, fun ρ hρ => vz_E8 l1 l2 e3 (fun _ => e5 ρ hρ) (f5 ρ hρ)⟩
/-- a bound that is no scheme, no part taken before an argument -/
theorem vz_s8 {t : Ty} {ω : List Nat} (o : ok ω.length t = true) (h2 : hd t ≠ 2) (hb : ∀ ρ, ρ ≠ [] → vz t0 n1 s2 h (E2 X7 eb e2) t ρ ω ≤ E2 X7 eb e2 ρ) : ∀ ρ : Stk, ρ ≠ [] → nbk ρ = false → vz t0 n1 s2 h (E2 X7 eS e2S) t ρ ω ≤ E2 X7 eS e2S ρ
  | [], hρ, _ => absurd rfl hρ
  | none :: ρ, hρ, c => by
    have c : hs (none :: ρ) = false := c
    have q := vz_Eq (t0 := t0) (n1 := n1) (s2 := s2) (h := h) (E := E2 X7 eS e2S) (E' := E2 X7 eb e2) (Q := fun σ => hs σ = false) hs_tail' (fun σ _ e => Nat.le_trans (E2_n σ e) (E2_0 σ)) _ t (none :: ρ) ω (Nat.le_refl _) o c
    have q2 := hb (none :: ρ) hρ
    have q3 := E2_n (X7 := X7) (eb := eb) (e2 := e2) (none :: ρ) c
    have q4 := E2_0 (X7 := X7) (eb := eS) (e2 := e2S) (none :: ρ)
    omega
  | some z :: ρ, _, _ => by
    rcases ok_cases o with rfl | ⟨j, hj, rfl⟩ | ⟨a, c, rfl, ha, hb⟩ | ⟨a, c, rfl, ha, hb⟩ | ⟨m, x, y, v, hm', rfl, h0, h1, h3⟩
    · rw [vz_top]; exact Nat.zero_le _
    · rw [vz_var]; exact Nat.le_refl _
    · rw [vz_funS]; exact Nat.zero_le _
    · exact absurd (hd_all _ _) h2
    · rw [vz_recS]; exact Nat.zero_le _
theorem HEk8 (l1 : ∀ z, eS z ≤ eb z) (l2 : ∀ z, e2S z ≤ e2 z) : ∀ {Γ : List Ty} {ω : List Nat}, okc Γ → ω.length = Γ.length → (∀ b ∈ Γ, hd b ≠ 2) → HEk t0 n1 s2 h (E2 X7 eb e2) Γ ω → HEk t0 n1 s2 h (E8 X7 eS e2S eb e2) Γ ω
  | [], [], _, _, _, _ => trivial
  | b :: Γ, _ :: ω, hc, hl, hr, hE => by
    have hl' : ω.length = Γ.length := by simpa using hl
    have ob : ok ω.length b = true := by rw [hl']; exact hc.1
    exact ⟨fun ρ hρ => vz_E8 l1 l2 ob (vz_s8 ob (hr b (List.mem_cons_self ..)) hE.1 ρ hρ) (hE.1 ρ hρ), HEk8 l1 l2 hc.2 hl' (fun c hc => hr c (List.mem_cons_of_mem _ hc)) hE.2⟩
  | [], _ :: _, _, _, _, hE => hE.elim
  | _ :: _, [], _, _, _, hE => hE.elim
end PmHs
section PmHt
variable {t0 fn s2 hv r0 r1 r2 r3 x0 : Nat} {n1 h : Nat → Nat} {P Q : List (List Nat)} {F G W : FrT} {X : List Nat}
def dp8 (un : Bool) (F W : FrT) (a5 hv fn s2 r0 r1 r2 r3 E0 p wB ob k y cd m : Nat) : Nat := DT un a5 fn s2 r0 r1 r2 r3 (Vbw F W y cd) (Zbw F W y) (fun b => H8 (X7w F W y cd m) (ebw F W hv y cd m 0 0 0 0) (e2w F W hv y cd m 0) (ebw F W hv y cd m E0 p wB ob) (e2w F W hv y cd m k) (Zbw F W y b)) m m 0 0
/-- as gen_fin6, no bound of the context a scheme itself -/
theorem gen_fin8s (hn : NC t0 n1 s2 h) (hm : ∀ y y', y ≤ y' → h y ≤ h y') (T : TBs 58 t0 fn s2 hv r0 r1 r2 r3 x0 n1 h P Q F G X) (hFm : frm F = true) (hgr : fgc F W hv = true) (hWm : fgm W = true) (hW1 : fg1s W = true) (hW : (1, 0) ∈ frg W 0) (H1 : ∀ y, h y ≤ hv + max 1 y) {f : Nat} {t S : Ty} {Γ : List Ty} {ω : List Nat} {Δ : List (Nat × Ty × Nat)} {un : Bool} {a5 ob cd wB Bd y E0 p k : Nat} (w : TWf f Γ.length (Δ.map (fun a => a.1)) t) (he : TE Γ Δ) (l1 : ω.length = Γ.length) (cu : un = true ∨ COk f t 0) (hm30 : mch t ≤ 30) (hdc : dch Δ ≤ cd) (hcd : cd ≤ 56) (a55 : a5 ≤ 5) (ha5 : Δ ≠ [] → a5 = 0) (y01 : x0 ≤ y) (k50 : k ≤ 50) (hr : ∀ b ∈ Γ, hd b ≠ 2) (hω2 : ∀ j, j < ω.length → vw ω j ≤ y) (hkb : HEk t0 n1 s2 h (E2 (X7w F W y cd (mch t)) (ebw F W hv y cd (mch t) E0 p wB ob) (e2w F W hv y cd (mch t) k)) Γ ω) (go : ∀ E Z, AQh t0 n1 s2 h E Z f t [] ω → HEk t0 n1 s2 h E Γ ω → GOk t0 n1 s2 h E f t [] ω Γ Δ) (R1 : dp8 un F W a5 hv fn s2 r0 r1 r2 r3 E0 p wB ob k y cd (mch t) ≤ Bd) (hS : tyF f t Γ Δ = .inr S) : nz t0 n1 s2 h ω S ≤ Bd := by
  have dhk := fun ob wB E0 p k => dh_ok (un := un) (a5 := a5) (ob := ob) (cd := cd) (wB := wB) (y := y) (E0 := E0) (p := p) (k := k) (mt := mch t) hn hm T hFm hgr hWm hW1 hW H1 hm30 a55 y01
  have l1e : ∀ z, ebw F W hv y cd (mch t) 0 0 0 0 z ≤ ebw F W hv y cd (mch t) E0 p wB ob z := by
    intro z
    unfold ebw
    have := Nat.zero_mul (max z 0)
    have := Nat.zero_mul z
    omega
  have l2e : ∀ z, e2w F W hv y cd (mch t) 0 z ≤ e2w F W hv y cd (mch t) k z := by
    intro z
    have q5 := Zx_ms hFm (x := max z y) (s := 0 + 2) (s' := k + 2) (by omega) (by omega)
    unfold e2w
    omega
  have dh := DHy8 ebw_mono e2w_mono ebw_mono e2w_mono l1e l2e (dhk 0 0 0 0 0) (dhk ob wB E0 p k)
  have hk1 := HEk8 (eS := ebw F W hv y cd (mch t) 0 0 0 0) (e2S := e2w F W hv y cd (mch t) 0) l1e l2e he.1 l1 hr hkb
  have gy0 : y ≤ gyw W y 0 := by
    have a0 := Zx_mem (x := y) (frg W 0) (1, 0) hW
    simp only at a0
    show y ≤ (frg W 0).foldr (fun u a => max (u.2 + u.1 * y) a) 0
    omega
  have aq := DQa dh f t [] ω Γ _ 0 0 w l1 (fun j hj => Nat.le_trans (hω2 j hj) gy0) (by omega) (fun e => absurd rfl e)
  have dvk : ∀ ob wB E0 p k, DVn t0 n1 s2 h (E2 (X7w F W y cd (mch t)) (ebw F W hv y cd (mch t) E0 p wB ob) (e2w F W hv y cd (mch t) k)) (Vbw F W y cd 0) ω Δ := by
    intro ob wB E0 p k a ha
    obtain ⟨a1, a2, a3⟩ := he.2.2 a ha
    have ad := dch_mem ha
    have al : a.2.2 ≤ ω.length := by rw [l1]; exact a1
    have ll : (ω.drop (ω.length - a.2.2)).length = a.2.2 := by rw [List.length_drop]; omega
    have vv : ∀ j, j < (ω.drop (ω.length - a.2.2)).length → vw (ω.drop (ω.length - a.2.2)) j ≤ y := by
      intro j hj
      have q := vw_app_lo (ω.take (ω.length - a.2.2)) _ j hj
      rw [List.take_append_drop] at q
      rw [← q]
      exact hω2 j (by rw [ll] at hj; omega)
    refine ⟨ω.take (ω.length - a.2.2), ω.drop (ω.length - a.2.2), (List.take_append_drop _ _).symm, ll, by rw [ll]; exact a2, ?_, ?_⟩
    · have q1 := Zx_le T (x := y) (A := a.2.1) (by rw [ll]; exact a2) (by omega) y01 vv
      have q2 := Zx_ms hFm (x := y) (s := tch a.2.1 + 2) (s' := cd - 2) (by omega) (by omega)
      exact Nat.le_trans q1 (Nat.le_trans q2 (Nat.le_max_left _ _))
    · have c1 : Zx F y (cd - 2 - 3) ≤ X7w F W y cd (mch t) := by
        unfold X7w
        exact le_mx (Or.inr (Nat.le_max_left _ _))
      have c2 : ∀ z, cpw F hv y (cd - 2) z ≤ cpo F W hv y cd (mch t) z := fun z => Nat.le_max_left _ _
      exact txt_cp hm T hFm H1 ebw_mono e2w_mono y01 (show cd - 2 ≤ 56 by omega) c1 (fun z => ⟨by unfold ebw; exact le_mx (Or.inr (c2 z)), by unfold e2w; exact le_mx (Or.inr (c2 z))⟩) (by rw [ll]; exact a2) (by omega) vv
  have dv := DVn8 l1e l2e (dvk 0 0 0 0 0) (dvk ob wB E0 p k)
  have q1 := tyF_vz hm f t Γ Δ S [] ω w he hk1 (go _ _ aq hk1) hS
  rw [vz_no (tyF_ok f t _ Δ S w he hS).1] at q1
  have q2 := (DQ_all dh f t [] ω Γ Δ 0 0 w l1 dv (fun j hj => Nat.le_trans (hω2 j hj) gy0) (by omega) (fun e => by have := ha5 e; omega) (fun e => absurd rfl e) cu).1 rfl
  exact Nat.le_trans q1 (Nat.le_trans q2 R1)
end PmHt
