/-! THE TABLE FOR A CONTEXT: values at most y, one scheme an E0 + p * z; any term. -/
theorem Zx_bd {x b : Nat} : ∀ (l : List (Nat × Nat)), (∀ u ∈ l, u.2 + u.1 * x ≤ b) → l.foldr (fun u a => max (u.2 + u.1 * x) a) 0 ≤ b
  | [], _ => Nat.zero_le _
  | a :: l, h => by
    rw [List.foldr_cons]
    exact Nat.max_le.mpr ⟨h a (List.mem_cons_self ..), Zx_bd l (fun u hu => h u (List.mem_cons_of_mem _ hu))⟩
theorem Zx_at {x : Nat} : ∀ (l : List (Nat × Nat)), l ≠ [] → ∃ u ∈ l, l.foldr (fun u a => max (u.2 + u.1 * x) a) 0 = u.2 + u.1 * x
  | [], h => absurd rfl h
  | [a], _ => ⟨a, List.mem_cons_self .., by rw [List.foldr_cons, List.foldr_nil]; exact Nat.max_eq_left (Nat.zero_le _)⟩
  | a :: b :: l, _ => by
    obtain ⟨u, hu, e⟩ := Zx_at (b :: l) (by simp)
    rw [List.foldr_cons, e]
    by_cases c : u.2 + u.1 * x ≤ a.2 + a.1 * x
    · exact ⟨a, List.mem_cons_self .., Nat.max_eq_left c⟩
    · exact ⟨u, List.mem_cons_of_mem _ hu, Nat.max_eq_right (by omega)⟩
/-- every row of the growth table has something, and its leaves count -/
def fg1s (W : FrT) : Bool := (List.range 39).all (fun r => Nat.blt 0 (frg W r).length && (frg W r).all (fun e => Nat.ble 1 e.1))
theorem fg1s_1 : fg1s fg1 = true := by decide +kernel
theorem fg1s_q : fg1s fgq = true := by decide +kernel
theorem fg1s_at {W : FrT} (h : fg1s W = true) {r : Nat} (hr : r ≤ 38) (y : Nat) : ∃ e ∈ frg W r, 1 ≤ e.1 ∧ Zx W y (r + 2) = e.2 + e.1 * y := by
  unfold fg1s at h
  have q := rng_all h (i := r) (by omega)
  rw [Bool.and_eq_true] at q
  have n0 : frg W r ≠ [] := by
    intro e
    rw [e] at q
    exact absurd q.1 (by decide)
  obtain ⟨u, hu, e⟩ := Zx_at (x := y) (frg W r) n0
  exact ⟨u, hu, Nat.le_of_ble_eq_true (List.all_eq_true.mp q.2 u hu), e⟩
theorem Zw_mono {W : FrT} (h : fgm W = true) {r r' y : Nat} (hr : r ≤ r') (h38 : r' ≤ 38) : Zx W y (r + 2) ≤ Zx W y (r' + 2) := by
  refine Zx_bd (frg W r) (fun u hu => ?_)
  obtain ⟨e, h1, h2, h3⟩ := fgm_le h hr h38 hu
  have := Nat.mul_le_mul_right y h2
  exact Nat.le_trans (by omega) (Zx_mem (frg W r') e h1)
/-- what waits, by its characters -/
theorem SK_zm {Z : Nat → Nat} (hZ : ∀ s s', s ≤ s' → Z s ≤ Z s') : ∀ (π : Stk) (w : Nat), SKw Z π w → 2 * cnS π ≤ w ∧ (1 ≤ cnS π → zm π ≤ Z (w + 1 - 2 * cnS π))
  | [], w, _ => ⟨Nat.zero_le _, fun h => absurd h (by decide)⟩
  | none :: ρ, w, h => by
    obtain ⟨h1, h2⟩ := h
    obtain ⟨q1, q2⟩ := SK_zm hZ ρ _ h2
    have e1 : cnS (none :: ρ) = cnS ρ := rfl
    have e2 : zm (none :: ρ) = zm ρ := rfl
    rw [e1, e2]
    exact ⟨by omega, fun c => Nat.le_trans (q2 c) (hZ _ _ (by omega))⟩
  | some z :: ρ, w, h => by
    obtain ⟨s, s1, s2, s3, s4⟩ := h
    obtain ⟨q1, q2⟩ := SK_zm hZ ρ _ s4
    have e1 : cnS (some z :: ρ) = cnS ρ + 1 := rfl
    have e2 : zm (some z :: ρ) = max z (zm ρ) := rfl
    rw [e1, e2]
    refine ⟨by omega, fun _ => Nat.max_le.mpr ⟨Nat.le_trans s3 (hZ _ _ (by omega)), ?_⟩⟩
    by_cases c : 1 ≤ cnS ρ
    · exact Nat.le_trans (q2 c) (hZ _ _ (by omega))
    · rw [cnS_zm ρ (by omega)]; exact Nat.zero_le _
def Hdw (X7 : Nat) (eb e2 Z : Nat → Nat) (w : Nat) : Nat := max X7 (max (eb (Z (w - 1))) (if Nat.ble 4 w then e2 (Z (w - 3)) else 0))
theorem E2_w {X7 : Nat} {eb e2 Z : Nat → Nat} (he : ∀ z z', z ≤ z' → eb z ≤ eb z') (he2 : ∀ z z', z ≤ z' → e2 z ≤ e2 z') (hZ : ∀ s s', s ≤ s' → Z s ≤ Z s') (π : Stk) (w : Nat) (h : SKw Z π w) : E2 X7 eb e2 π ≤ Hdw X7 eb e2 Z w := by
  obtain ⟨q1, q2⟩ := SK_zm hZ π w h
  unfold Hdw
  by_cases c : hs π = true
  · have p := cn_pos π c
    have q2 := q2 p
    have a1 := he _ _ (Nat.le_trans q2 (hZ _ (w - 1) (by omega)))
    unfold E2
    rw [if_pos c]
    by_cases c1 : cnS π ≤ 1
    · rw [if_pos c1]; omega
    · rw [if_neg c1, if_pos (Nat.ble_eq_true_of_le (show 4 ≤ w by omega))]
      have a2 := he2 _ _ (Nat.le_trans q2 (hZ _ (w - 3) (by omega)))
      omega
  · have := E2_n (X7 := X7) (eb := eb) (e2 := e2) π (by simpa using c)
    omega
theorem mxr_bd {k b : Nat} {f : Nat → Nat} (h : ∀ i, i < k → f i ≤ b) : mxr k f ≤ b := by
  have key : ∀ (l : List Nat), (∀ i ∈ l, f i ≤ b) → l.foldr (fun i a => max (f i) a) 0 ≤ b := by
    intro l
    induction l with
    | nil => intro _; exact Nat.zero_le _
    | cons a l ih =>
      intro hl
      rw [List.foldr_cons]
      exact Nat.max_le.mpr ⟨hl a (List.mem_cons_self ..), ih (fun i hi => hl i (List.mem_cons_of_mem _ hi))⟩
  exact key _ (fun i hi => h i (List.mem_range.mp hi))
/-- a scheme of a text, its bound and its body together -/
def cpw (F : FrT) (hv yg L z : Nat) : Nat := mxr (L - 7) (fun i => Zx F (max (max z yg) (hv + max 1 (Zx F yg (i + 3)))) (L - 5 - i))
def ebw (F : FrT) (hv y yg L E0 p wB ob z : Nat) : Nat := max (max (E0 + p * max z wB) (y + ob * z)) (cpw F hv yg L z)
def e2w (F : FrT) (hv y yg L k z : Nat) : Nat := max (Zx F (max z y) (k + 2)) (cpw F hv yg L z)
theorem cpw_mono {F : FrT} {hv yg L : Nat} (z z' : Nat) (h : z ≤ z') : cpw F hv yg L z ≤ cpw F hv yg L z' := by
  unfold cpw
  refine mxr_bd (fun i hi => ?_)
  have a := mxr_le (k := L - 7) (f := fun i => Zx F (max (max z' yg) (hv + max 1 (Zx F yg (i + 3)))) (L - 5 - i)) hi
  exact Nat.le_trans (Zx_mono (F := F) (show max (max z yg) (hv + max 1 (Zx F yg (i + 3))) ≤ max (max z' yg) (hv + max 1 (Zx F yg (i + 3))) by omega) _) a
theorem ebw_mono {F : FrT} {hv y yg L E0 p wB ob : Nat} (z z' : Nat) (h : z ≤ z') : ebw F hv y yg L E0 p wB ob z ≤ ebw F hv y yg L E0 p wB ob z' := by
  have h1 := cpw_mono (F := F) (hv := hv) (yg := yg) (L := L) z z' h
  have h2 := Nat.mul_le_mul_left p (show max z wB ≤ max z' wB by omega)
  have h3 := Nat.mul_le_mul_left ob h
  unfold ebw
  omega
theorem e2w_mono {F : FrT} {hv y yg L k : Nat} (z z' : Nat) (h : z ≤ z') : e2w F hv y yg L k z ≤ e2w F hv y yg L k z' := by
  have h1 := cpw_mono (F := F) (hv := hv) (yg := yg) (L := L) z z' h
  have h2 := Zx_mono (F := F) (show max z y ≤ max z' y by omega) (k + 2)
  unfold e2w
  omega
/-- the check -/
def dpD (F W : FrT) (a5 hv fn s2 r0 r1 r2 r3 E0 p wB ob k y yg cd m L : Nat) : Nat := DT a5 fn s2 r0 r1 r2 r3 (max (Zx F y (cd - 2)) (Zx F yg (m - 3))) (fun s => Zx F yg (min (s + 2) 58)) (Hdw (max yg (Zx F yg (L - 3))) (ebw F hv y yg L E0 p wB ob) (e2w F hv y yg L k) (fun s => Zx F yg (min (s + 2) 58))) m m 0
def dpZ (F W : FrT) (a5 hv fn s2 r0 r1 r2 r3 E0 p wB ob k y cd m Bd : Nat) : Bool := Nat.ble (dpD F W a5 hv fn s2 r0 r1 r2 r3 E0 p wB ob k y (Zx W y (m - 1)) cd m (max (cd - 2) m)) Bd
section PmX5
variable {t0 fn s2 hv r0 r1 r2 r3 x0 : Nat} {n1 h : Nat → Nat} {P Q : List (List Nat)} {F G W : FrT} {X : List Nat} {B C β' : Ty} {Γ0 : List Ty}
/-- values at most y, the long scheme an E0 + p * z: any term -/
theorem gen_fin5 (hn : NC t0 n1 s2 h) (hm : ∀ y y', y ≤ y' → h y ≤ h y') (hh : ∀ y δ, h (y + δ) ≤ h y + δ) (T : TBs 58 t0 fn s2 hv r0 r1 r2 r3 x0 n1 h P Q F G X) (hFm : frm F = true) (hgr : fgc F W hv = true) (hWm : fgm W = true) (hW1 : fg1s W = true) (hW : (1, 0) ∈ frg W 0) (H1 : ∀ y, h y ≤ hv + max 1 y) {f : Nat} {t S : Ty} {Δ1 : List Ty} {Δ : List (Nat × Ty × Nat)} {a5 ob cd wB Bd y E0 p k : Nat} (w : TWf f (cxs Δ1 Γ0 (tAll B C)).length (Δ.map (fun a => a.1)) t) (he : TE (cxs Δ1 Γ0 (tAll B C)) Δ) (hm34 : mch t ≤ 34) (hb0 : ∀ b ∈ Γ0, nsch b = true ∨ flv b ≤ ob) (hb1 : ∀ b ∈ Δ1, nsch b = true ∨ flv b ≤ ob) (hdc : dch Δ ≤ cd) (hcd : cd ≤ 56) (a55 : a5 ≤ 5) (ha5 : Δ ≠ [] → a5 = 0) (y01 : x0 ≤ y) (hw : ∀ j, j < (cxs Δ1 Γ0 β').length → vw (onz t0 n1 s2 h (cxs Δ1 Γ0 β')) j ≤ y) (go : ∀ E Z, AQh t0 n1 s2 h E Z f t [] (onz t0 n1 s2 h (cxs Δ1 Γ0 β')) → HEk t0 n1 s2 h E (cxs Δ1 Γ0 (tAll B C)) (onz t0 n1 s2 h (cxs Δ1 Γ0 β')) → GOk t0 n1 s2 h E f t [] (onz t0 n1 s2 h (cxs Δ1 Γ0 β')) (cxs Δ1 Γ0 (tAll B C)) Δ) (vZ : ∀ z, nz t0 n1 s2 h (hzx h z (nz t0 n1 s2 h (onz t0 n1 s2 h Γ0) B) :: onz t0 n1 s2 h Γ0) C ≤ E0 + p * max z wB) (hwB : h (nz t0 n1 s2 h (onz t0 n1 s2 h Γ0) B) ≤ wB) (wBy : wB ≤ y) (hk : tch C ≤ k) (hk2 : k ≤ 50) (R1 : dpZ F W a5 hv fn s2 r0 r1 r2 r3 E0 p wB ob k y cd (mch t) Bd = true) (hS : tyF f t (cxs Δ1 Γ0 (tAll B C)) Δ = .inr S) : nz t0 n1 s2 h (onz t0 n1 s2 h (cxs Δ1 Γ0 β')) S ≤ Bd := by
  unfold dpZ at R1
  have R1 := Nat.le_of_ble_eq_true R1
  have mp : 1 ≤ mch t := by
    cases f with
    | zero => exact w.elim
    | succ f => exact mch_pos w
  obtain ⟨oc0, oA⟩ := okc_low Δ1 he.1
  have oC := (ok_all.mp oA).2
  have l0 := onz_len t0 n1 s2 h Γ0
  have yy : y ≤ Zx W y (mch t - 1) := by
    have a0 := Zx_mem (x := y) (frg W 0) (1, 0) hW
    simp only at a0
    have a1 : y ≤ Zx W y (0 + 2) := by
      show y ≤ (frg W 0).foldr (fun u a => max (u.2 + u.1 * y) a) 0
      rw [Nat.zero_add, Nat.one_mul] at a0
      exact a0
    by_cases c : 3 ≤ mch t
    · have a2 := Zw_mono hWm (y := y) (show 0 ≤ mch t - 3 by omega) (by omega)
      rw [show mch t - 3 + 2 = mch t - 1 by omega] at a2
      omega
    · have e : Zx W y (mch t - 1) = Zx W y (0 + 2) := by
        unfold Zx
        rw [show mch t - 1 - 2 = 0 by omega]
      omega
  have gyY : ∀ r, r + 3 ≤ mch t → Zx W y (r + 2) ≤ Zx W y (mch t - 1) := by
    intro r hr
    have := Zw_mono hWm (y := y) (show r ≤ mch t - 3 by omega) (by omega)
    rw [show mch t - 3 + 2 = mch t - 1 by omega] at this
    exact this
  have hLm : mch t ≤ max (cd - 2) (mch t) := Nat.le_max_right _ _
  have hLc : cd - 2 ≤ max (cd - 2) (mch t) := Nat.le_max_left _ _
  have hL56 : max (cd - 2) (mch t) ≤ 56 := Nat.max_le.mpr ⟨by omega, by omega⟩
  generalize max (cd - 2) (mch t) = L at *
  generalize eyg : Zx W y (mch t - 1) = yg at *
  have hω2 : ∀ j, j < (onz t0 n1 s2 h (cxs Δ1 Γ0 β')).length → vw (onz t0 n1 s2 h (cxs Δ1 Γ0 β')) j ≤ y := fun j hj => hw j (by rw [onz_len] at hj; exact hj)
  have l1 : (onz t0 n1 s2 h (cxs Δ1 Γ0 β')).length = (cxs Δ1 Γ0 (tAll B C)).length := by rw [onz_len, cxs_ll β' (tAll B C)]
  have hSc : ∀ (A : Ty) (ω : List Nat), hd A = 2 → ok ω.length A = true → tch A + 2 ≤ L → (∀ j, j < ω.length → vw ω j ≤ yg) → HS2 t0 n1 s2 h (ebw F hv y yg L E0 p wB ob) (e2w F hv y yg L k) ω A := by
    intro A ω h2 o ht hw
    rcases ok_cases o with rfl | ⟨j, hj, rfl⟩ | ⟨a, b, rfl, ha, hb⟩ | ⟨a, b, rfl, ha, hb⟩ | ⟨c, u, v, w, hc, rfl, h0, h1, h2'⟩
    · exact absurd h2 (by decide)
    · rw [hd_var] at h2; omega
    · rw [hd_fun] at h2; omega
    · rw [tch_all] at ht
      have pa := tch_pos ha
      have pc := tch_pos hb
      have q1 := Zx_le T ha (by omega) (Nat.le_trans y01 yy) hw
      have q3 := H1 (nz t0 n1 s2 h ω a)
      have vals : ∀ z j, j < (hzx h z (nz t0 n1 s2 h ω a) :: ω).length → vw (hzx h z (nz t0 n1 s2 h ω a) :: ω) j ≤ max (max z yg) (hv + max 1 (Zx F yg (tch a + 2))) := by
        intro z j hj
        rw [vw_cons]
        by_cases e : j = ω.length
        · rw [if_pos e]
          unfold hzx
          omega
        · rw [if_neg e]
          have := hw j (by rw [List.length_cons] at hj; omega)
          omega
      have fin : ∀ z, Zx F (max (max z yg) (hv + max 1 (Zx F yg (tch a + 2)))) (tch b + 2) ≤ cpw F hv yg L z := by
        intro z
        have q5 := Zx_ms hFm (x := max (max z yg) (hv + max 1 (Zx F yg (tch a + 2)))) (s := tch b + 2) (s' := L - 5 - (tch a - 1)) (by omega) (by omega)
        have q6 := mxr_le (k := L - 7) (f := fun i => Zx F (max (max z yg) (hv + max 1 (Zx F yg (i + 3)))) (L - 5 - i)) (i := tch a - 1) (by omega)
        simp only [show tch a - 1 + 3 = tch a + 2 by omega] at q6
        exact Nat.le_trans q5 q6
      refine ⟨a, b, rfl, fun z => ?_, fun z => ?_⟩
      · have q4 := Zx_le T (x := max (max z yg) (hv + max 1 (Zx F yg (tch a + 2)))) (ω := hzx h z (nz t0 n1 s2 h ω a) :: ω) (A := b) (by rw [List.length_cons]; exact hb) (by omega) (by omega) (vals z)
        unfold ebw
        exact Nat.le_trans q4 (Nat.le_trans (fin z) (Nat.le_max_right _ _))
      · have q4 := Zx_leh T (x := max (max z yg) (hv + max 1 (Zx F yg (tch a + 2)))) (z := z) (ω := hzx h z (nz t0 n1 s2 h ω a) :: ω) (A := b) (by rw [List.length_cons]; exact hb) (by omega) (by omega) (by omega) (vals z)
        unfold e2w
        exact Nat.le_trans q4 (Nat.le_trans (fin z) (Nat.le_max_right _ _))
    · rw [hd_rec] at h2; omega
  have hZ : ∀ s s', s ≤ s' → (fun s => Zx F yg (min (s + 2) 58)) s ≤ (fun s => Zx F yg (min (s + 2) 58)) s' := fun s s' hs => Zx_ms hFm (x := yg) (s := min (s + 2) 58) (s' := min (s' + 2) 58) (by omega) (by omega)
  have hA : ∀ (A : Ty) (ω : List Nat), ok ω.length A = true → tch A + 2 ≤ L → (∀ j, j < ω.length → vw ω j ≤ yg) → (∀ ρ, ρ ≠ [] → vz t0 n1 s2 h (E2 (max yg (Zx F yg (L - 3))) (ebw F hv y yg L E0 p wB ob) (e2w F hv y yg L k)) A ρ ω ≤ E2 (max yg (Zx F yg (L - 3))) (ebw F hv y yg L E0 p wB ob) (e2w F hv y yg L k) ρ) := by
    intro A ω o ht hw'
    exact arg_2 ebw_mono e2w_mono hm T (Nat.le_trans y01 yy) hL56 (fun s hs => Nat.le_trans (Zx_ms hFm (x := yg) (s := s) (s' := L - 3) (by omega) (by omega)) (Nat.le_max_right _ _)) hSc _ A _ (Nat.le_refl _) o ht hw'
  have dh : DHy a5 t0 fn s2 r0 r1 r2 r3 (max (Zx F y (cd - 2)) (Zx F yg (mch t - 3))) (mch t) yg n1 h (fun s => Zx F yg (min (s + 2) 58)) (Hdw (max yg (Zx F yg (L - 3))) (ebw F hv y yg L E0 p wB ob) (e2w F hv y yg L k) (fun s => Zx F yg (min (s + 2) 58))) (fun r => Zx W y (r + 2)) (E2 (max yg (Zx F yg (L - 3))) (ebw F hv y yg L E0 p wB ob) (e2w F hv y yg L k)) (DT a5 fn s2 r0 r1 r2 r3 (max (Zx F y (cd - 2)) (Zx F yg (mch t - 3))) (fun s => Zx F yg (min (s + 2) 58)) (Hdw (max yg (Zx F yg (L - 3))) (ebw F hv y yg L E0 p wB ob) (e2w F hv y yg L k) (fun s => Zx F yg (min (s + 2) 58))) (mch t)) := by
    refine ⟨⟨hm34, a55⟩, T.2.2.2.1, T.2.2.2.2.1, DT_ok mp, fun π w hπ sk hw' => E2_w ebw_mono e2w_mono hZ π w sk, fun A ω o ht hw' => ⟨hA A ω o (by omega) hw', ?_⟩, fun j hj => ?_, fun r r' hr h38 => Zw_mono hWm hr h38, fun A ω r o hr hw' => ?_, gyY⟩
    · show _ ≤ Zx F yg (min (tch A + 2) 58)
      rw [Nat.min_eq_left (by omega)]
      exact Zx_le T o (by omega) (Nat.le_trans y01 yy) hw'
    · show Zx F yg (min (j + 2) 58) ≤ _
      exact Nat.le_trans (Zx_ms hFm (x := yg) (s := min (j + 2) 58) (s' := mch t - 3) (by omega) (by omega)) (Nat.le_max_right _ _)
    · obtain ⟨e, e0, e1, e2⟩ := fg1s_at hW1 (r := r) (by omega) y
      obtain ⟨u, u0, u1, u2, u3, u4⟩ := gr_step hn T hgr y01 e0 e1 o (fun j hj => by have := hw' j hj; simp only [e2] at this; exact this) hr
      have u5 : u.2 + u.1 * y ≤ Zx W y (r + tch A + 4 + 2) := Zx_mem (frg W (r + tch A + 4)) u u0
      exact ⟨Nat.le_trans u3 u5, Nat.le_trans u4 u5⟩
  have hA2 : HS2 t0 n1 s2 h (ebw F hv y yg L E0 p wB ob) (e2w F hv y yg L k) (onz t0 n1 s2 h Γ0) (tAll B C) := by
    refine ⟨B, C, rfl, fun z => ?_, fun z => ?_⟩
    · refine Nat.le_trans (vZ z) ?_
      unfold ebw
      exact Nat.le_trans (Nat.le_max_left _ _) (Nat.le_max_left _ _)
    · have q4 := Zx_leh T (x := max z y) (z := z) (ω := hzx h z (nz t0 n1 s2 h (onz t0 n1 s2 h Γ0) B) :: onz t0 n1 s2 h Γ0) (A := C) (by rw [List.length_cons, l0]; exact oC) (by omega) (by omega) (by omega) (fun j hj => by
        rw [vw_cons]
        by_cases e : j = (onz t0 n1 s2 h Γ0).length
        · rw [if_pos e]
          unfold hzx
          omega
        · rw [if_neg e]
          rw [List.length_cons] at hj
          have q := onz_low (t0 := t0) (n1 := n1) (s2 := s2) (h := h) (Γ0 := Γ0) (β := β') Δ1 (j := j) (by rw [l0] at hj e; omega)
          have q2 := hw j (by rw [cxs_len]; rw [l0] at hj e; omega)
          rw [q] at q2
          omega)
      have q5 := Zx_ms hFm (x := max z y) (s := tch C + 2) (s' := k + 2) (by omega) (by omega)
      unfold e2w
      exact Nat.le_trans q4 (Nat.le_trans q5 (Nat.le_max_left _ _))
  have aq := DQa dh f t [] (onz t0 n1 s2 h (cxs Δ1 Γ0 β')) (cxs Δ1 Γ0 (tAll B C)) _ 0 0 w l1 (fun j hj => Nat.le_trans (hω2 j hj) (by
    have a0 := Zx_mem (x := y) (frg W 0) (1, 0) hW
    simp only at a0
    show y ≤ (frg W 0).foldr (fun u a => max (u.2 + u.1 * y) a) 0
    omega)) (Nat.zero_le _) (by omega) (by omega)
  have hk1 : HEk t0 n1 s2 h (E2 (max yg (Zx F yg (L - 3))) (ebw F hv y yg L E0 p wB ob) (e2w F hv y yg L k)) (cxs Δ1 Γ0 (tAll B C)) (onz t0 n1 s2 h (cxs Δ1 Γ0 β')) := BE2.he ebw_mono e2w_mono hm hh he.1 l1 (BE2_cx (β' := β') (y := y) hn (Nat.le_trans yy (Nat.le_max_left _ _)) hA2 (fun b hb => (hb0 b hb).imp id (fun c z => by have := Nat.mul_le_mul_right z c; unfold ebw; omega)) Δ1 hw (fun b hb => (hb1 b hb).imp id (fun c z => by have := Nat.mul_le_mul_right z c; unfold ebw; omega)))
  have dv : DVn t0 n1 s2 h (E2 (max yg (Zx F yg (L - 3))) (ebw F hv y yg L E0 p wB ob) (e2w F hv y yg L k)) (max (Zx F y (cd - 2)) (Zx F yg (mch t - 3))) (onz t0 n1 s2 h (cxs Δ1 Γ0 β')) Δ := by
    intro a ha
    obtain ⟨a1, a2, a3⟩ := he.2.2 a ha
    have ad := dch_mem ha
    have al : a.2.2 ≤ (onz t0 n1 s2 h (cxs Δ1 Γ0 β')).length := by rw [l1]; exact a1
    have ll : ((onz t0 n1 s2 h (cxs Δ1 Γ0 β')).drop ((onz t0 n1 s2 h (cxs Δ1 Γ0 β')).length - a.2.2)).length = a.2.2 := by rw [List.length_drop]; omega
    have vv : ∀ j, j < ((onz t0 n1 s2 h (cxs Δ1 Γ0 β')).drop ((onz t0 n1 s2 h (cxs Δ1 Γ0 β')).length - a.2.2)).length → vw ((onz t0 n1 s2 h (cxs Δ1 Γ0 β')).drop ((onz t0 n1 s2 h (cxs Δ1 Γ0 β')).length - a.2.2)) j ≤ y := by
      intro j hj
      have q := vw_app_lo ((onz t0 n1 s2 h (cxs Δ1 Γ0 β')).take ((onz t0 n1 s2 h (cxs Δ1 Γ0 β')).length - a.2.2)) _ j hj
      rw [List.take_append_drop] at q
      rw [← q]
      exact hω2 j (by rw [ll] at hj; omega)
    refine ⟨(onz t0 n1 s2 h (cxs Δ1 Γ0 β')).take ((onz t0 n1 s2 h (cxs Δ1 Γ0 β')).length - a.2.2), (onz t0 n1 s2 h (cxs Δ1 Γ0 β')).drop ((onz t0 n1 s2 h (cxs Δ1 Γ0 β')).length - a.2.2), (List.take_append_drop _ _).symm, ll, by rw [ll]; exact a2, ?_, ?_⟩
    · have q1 := Zx_le T (x := y) (A := a.2.1) (by rw [ll]; exact a2) (by omega) y01 vv
      have q2 := Zx_ms hFm (x := y) (s := tch a.2.1 + 2) (s' := cd - 2) (by omega) (by omega)
      exact Nat.le_trans q1 (Nat.le_trans q2 (Nat.le_max_left _ _))
    · exact hA a.2.1 _ (by rw [ll]; exact a2) (by omega) (fun j hj => Nat.le_trans (vv j hj) yy)
  have q1 := tyF_vz hm f t (cxs Δ1 Γ0 (tAll B C)) Δ S [] (onz t0 n1 s2 h (cxs Δ1 Γ0 β')) w he hk1 (go _ _ aq hk1) hS
  rw [vz_no (tyF_ok f t _ Δ S w he hS).1] at q1
  have q2 := (DQ_all dh f t [] (onz t0 n1 s2 h (cxs Δ1 Γ0 β')) (cxs Δ1 Γ0 (tAll B C)) Δ 0 0 0 w l1 dv (fun j hj => Nat.le_trans (hω2 j hj) (by
    have a0 := Zx_mem (x := y) (frg W 0) (1, 0) hW
    simp only at a0
    show y ≤ (frg W 0).foldr (fun u a => max (u.2 + u.1 * y) a) 0
    omega)) (Nat.zero_le _) (by omega) (by omega) (by omega) (fun e => by have := ha5 e; omega) (fun e => absurd rfl e)).1 rfl
  exact Nat.le_trans q1 (Nat.le_trans q2 R1)
end PmX5
