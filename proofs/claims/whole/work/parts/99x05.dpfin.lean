/-! THE TABLE FOR A CONTEXT: values at most y, one scheme an E0 + p * z; any term. -/
theorem Zx_bd {x b : Nat} : ∀ (l : List (Nat × Nat)), (∀ u ∈ l, u.2 + u.1 * x ≤ b) → l.foldr (fun u a => max (u.2 + u.1 * x) a) 0 ≤ b
  | [], _ => Nat.zero_le _
  | a :: l, h => by
    rw [List.foldr_cons]
    exact Nat.max_le.mpr ⟨h a (List.mem_cons_self ..), Zx_bd l (fun u hu => h u (List.mem_cons_of_mem _ hu))⟩
theorem Zx_at {x : Nat} : ∀ (l : List (Nat × Nat)), l ≠ [] → ∃ u ∈ l, l.foldr (fun u a => max (u.2 + u.1 * x) a) 0 = u.2 + u.1 * x
  | [], h => absurd rfl h
  | [a], _ => ⟨a, List.mem_cons_self .., by rw [List.foldr_cons, List.foldr_nil]; exact Nat.max_eq_left (Nat.zero_le _)⟩
  | a :: b :: l, _ => by
    obtain ⟨u, hu, e⟩ := Zx_at (b :: l) (by simp)
    rw [List.foldr_cons, e]
    by_cases c : u.2 + u.1 * x ≤ a.2 + a.1 * x
    · exact ⟨a, List.mem_cons_self .., Nat.max_eq_left c⟩
    · exact ⟨u, List.mem_cons_of_mem _ hu, Nat.max_eq_right (by omega)⟩
/-- every row of the growth table has something, and its leaves count -/
def fg1s (W : FrT) : Bool := (List.range 39).all (fun r => Nat.blt 0 (frg W r).length && (frg W r).all (fun e => Nat.ble 1 e.1))
theorem fg1s_1 : fg1s fg1 = true := by decide +kernel
theorem fg1s_q : fg1s fgq = true := by decide +kernel
theorem fg1s_at {W : FrT} (h : fg1s W = true) {r : Nat} (hr : r ≤ 38) (y : Nat) : ∃ e ∈ frg W r, 1 ≤ e.1 ∧ Zx W y (r + 2) = e.2 + e.1 * y := by
  unfold fg1s at h
  have q := rng_all h (i := r) (by omega)
  rw [Bool.and_eq_true] at q
  have n0 : frg W r ≠ [] := by
    intro e
    rw [e] at q
    exact absurd q.1 (by decide)
  obtain ⟨u, hu, e⟩ := Zx_at (x := y) (frg W r) n0
  exact ⟨u, hu, Nat.le_of_ble_eq_true (List.all_eq_true.mp q.2 u hu), e⟩
theorem Zw_mono {W : FrT} (h : fgm W = true) {r r' y : Nat} (hr : r ≤ r') (h38 : r' ≤ 38) : Zx W y (r + 2) ≤ Zx W y (r' + 2) := by
  refine Zx_bd (frg W r) (fun u hu => ?_)
  obtain ⟨e, h1, h2, h3⟩ := fgm_le h hr h38 hu
  have := Nat.mul_le_mul_right y h2
  exact Nat.le_trans (by omega) (Zx_mem (frg W r') e h1)
/-- what waits, by its characters -/
theorem SKb_zm {Z : Nat → Nat → Nat} {gy : Nat → Nat} {b : Nat} (hZ : ∀ s s', s ≤ s' → Z b s ≤ Z b s') : ∀ (π : Stk) (w : Nat), SKb Z gy b π w → 2 * cnS π ≤ w ∧ (1 ≤ cnS π → zm π ≤ Z b (w + 1 - 2 * cnS π))
  | [], w, _ => ⟨Nat.zero_le _, fun h => absurd h (by decide)⟩
  | none :: ρ, w, h => by
    obtain ⟨h1, h2⟩ := h
    obtain ⟨q1, q2⟩ := SKb_zm hZ ρ _ h2
    have e1 : cnS (none :: ρ) = cnS ρ := rfl
    have e2 : zm (none :: ρ) = zm ρ := rfl
    rw [e1, e2]
    exact ⟨by omega, fun c => Nat.le_trans (q2 c) (hZ _ _ (by omega))⟩
  | some z :: ρ, w, h => by
    obtain ⟨s, s1, s2, s3, s4⟩ := h
    obtain ⟨q1, q2⟩ := SKb_zm hZ ρ _ s4
    have e1 : cnS (some z :: ρ) = cnS ρ + 1 := rfl
    have e2 : zm (some z :: ρ) = max z (zm ρ) := rfl
    rw [e1, e2]
    refine ⟨by omega, fun _ => Nat.max_le.mpr ⟨Nat.le_trans s3.1 (hZ _ _ (by omega)), ?_⟩⟩
    by_cases c : 1 ≤ cnS ρ
    · exact Nat.le_trans (q2 c) (hZ _ _ (by omega))
    · rw [cnS_zm ρ (by omega)]; exact Nat.zero_le _
def Hdw (X7 : Nat) (eb e2 Z : Nat → Nat) (w : Nat) : Nat := max X7 (max (eb (Z (w - 1))) (if Nat.ble 4 w then e2 (Z (w - 3)) else 0))
theorem E2_w {X7 b : Nat} {eb e2 gy : Nat → Nat} {Z : Nat → Nat → Nat} (he : ∀ z z', z ≤ z' → eb z ≤ eb z') (he2 : ∀ z z', z ≤ z' → e2 z ≤ e2 z') (hZ : ∀ s s', s ≤ s' → Z b s ≤ Z b s') (π : Stk) (w : Nat) (h : SKb Z gy b π w) : E2 X7 eb e2 π ≤ Hdw X7 eb e2 (Z b) w := by
  obtain ⟨q1, q2⟩ := SKb_zm hZ π w h
  unfold Hdw
  by_cases c : hs π = true
  · have p := cn_pos π c
    have q2 := q2 p
    have a1 := he _ _ (Nat.le_trans q2 (hZ _ (w - 1) (by omega)))
    unfold E2
    rw [if_pos c]
    by_cases c1 : cnS π ≤ 1
    · rw [if_pos c1]; omega
    · rw [if_neg c1, if_pos (Nat.ble_eq_true_of_le (show 4 ≤ w by omega))]
      have a2 := he2 _ _ (Nat.le_trans q2 (hZ _ (w - 3) (by omega)))
      omega
  · have := E2_n (X7 := X7) (eb := eb) (e2 := e2) π (by simpa using c)
    omega
theorem mxr_bd {k b : Nat} {f : Nat → Nat} (h : ∀ i, i < k → f i ≤ b) : mxr k f ≤ b := by
  have key : ∀ (l : List Nat), (∀ i ∈ l, f i ≤ b) → l.foldr (fun i a => max (f i) a) 0 ≤ b := by
    intro l
    induction l with
    | nil => intro _; exact Nat.zero_le _
    | cons a l ih =>
      intro hl
      rw [List.foldr_cons]
      exact Nat.max_le.mpr ⟨hl a (List.mem_cons_self ..), ih (fun i hi => hl i (List.mem_cons_of_mem _ hi))⟩
  exact key _ (fun i hi => h i (List.mem_range.mp hi))
/-- a scheme of a text, its bound and its body together -/
def cpw (F : FrT) (hv yg L z : Nat) : Nat := mxr (L - 7) (fun i => Zx F (max (max z yg) (hv + max 1 (Zx F yg (i + 3)))) (L - 5 - i))
theorem cpw_mono {F : FrT} {hv yg L : Nat} (z z' : Nat) (h : z ≤ z') : cpw F hv yg L z ≤ cpw F hv yg L z' := by
  unfold cpw
  refine mxr_bd (fun i hi => ?_)
  have a := mxr_le (k := L - 7) (f := fun i => Zx F (max (max z' yg) (hv + max 1 (Zx F yg (i + 3)))) (L - 5 - i)) hi
  exact Nat.le_trans (Zx_mono (F := F) (show max (max z yg) (hv + max 1 (Zx F yg (i + 3))) ≤ max (max z' yg) (hv + max 1 (Zx F yg (i + 3))) by omega) _) a
theorem mxr_mono {k : Nat} {f g : Nat → Nat} (h : ∀ i, f i ≤ g i) : mxr k f ≤ mxr k g := mxr_bd (fun i hi => Nat.le_trans (h i) (mxr_le (f := g) hi))
/-- values behind b characters of binders; texts there; what stands under an operation; schemes of texts -/
def gyw (W : FrT) (y b : Nat) : Nat := Zx W y (min b 38 + 2)
def Zbw (F W : FrT) (y b s : Nat) : Nat := Zx F (gyw W y b) (min (s + 2) 58)
def X7w (F W : FrT) (y cd mt : Nat) : Nat := max y (max (Zx F y (cd - 5)) (mxr (mt - 2) (fun b => Zx F (gyw W y b) (mt - 3 - b))))
def cpo (F W : FrT) (hv y cd mt z : Nat) : Nat := max (cpw F hv y (cd - 2) z) (mxr (mt - 2) (fun b => cpw F hv (gyw W y b) (mt - b) z))
def ebw (F W : FrT) (hv y cd mt E0 p wB ob z : Nat) : Nat := max (max (E0 + p * max z wB) (y + ob * z)) (cpo F W hv y cd mt z)
def e2w (F W : FrT) (hv y cd mt k z : Nat) : Nat := max (Zx F (max z y) (k + 2)) (cpo F W hv y cd mt z)
def Vbw (F W : FrT) (y cd b : Nat) : Nat := max (Zx F y (cd - 2)) (if Nat.ble 5 b then Zbw F W y b (b - 4) else 0)
theorem cpo_mono {F W : FrT} {hv y cd mt : Nat} (z z' : Nat) (h : z ≤ z') : cpo F W hv y cd mt z ≤ cpo F W hv y cd mt z' := by
  have h1 := cpw_mono (F := F) (hv := hv) (yg := y) (L := cd - 2) z z' h
  have h2 := mxr_mono (k := mt - 2) (f := fun b => cpw F hv (gyw W y b) (mt - b) z) (g := fun b => cpw F hv (gyw W y b) (mt - b) z') (fun b => cpw_mono z z' h)
  unfold cpo
  omega
theorem ebw_mono {F W : FrT} {hv y cd mt E0 p wB ob : Nat} (z z' : Nat) (h : z ≤ z') : ebw F W hv y cd mt E0 p wB ob z ≤ ebw F W hv y cd mt E0 p wB ob z' := by
  have h1 := cpo_mono (F := F) (W := W) (hv := hv) (y := y) (cd := cd) (mt := mt) z z' h
  have h2 := Nat.mul_le_mul_left p (show max z wB ≤ max z' wB by omega)
  have h3 := Nat.mul_le_mul_left ob h
  unfold ebw
  omega
theorem e2w_mono {F W : FrT} {hv y cd mt k : Nat} (z z' : Nat) (h : z ≤ z') : e2w F W hv y cd mt k z ≤ e2w F W hv y cd mt k z' := by
  have h1 := cpo_mono (F := F) (W := W) (hv := hv) (y := y) (cd := cd) (mt := mt) z z' h
  have h2 := Zx_mono (F := F) (show max z y ≤ max z' y by omega) (k + 2)
  unfold e2w
  omega
theorem gyw_mono {W : FrT} (h : fgm W = true) {y b b' : Nat} (hb : b ≤ b') : gyw W y b ≤ gyw W y b' := Zw_mono h (by omega) (by omega)
theorem Zbw_mono {F W : FrT} (h : fgm W = true) (hF : frm F = true) {y b b' s s' : Nat} (hb : b ≤ b') (hs : s ≤ s') : Zbw F W y b s ≤ Zbw F W y b' s' := by
  unfold Zbw
  exact Nat.le_trans (Zx_mono (gyw_mono h hb) _) (Zx_ms hF (by omega) (by omega))
/-- the check -/
def dpD (un : Bool) (F W : FrT) (a5 hv fn s2 r0 r1 r2 r3 E0 p wB ob k y cd m : Nat) : Nat := DT un a5 fn s2 r0 r1 r2 r3 (Vbw F W y cd) (Zbw F W y) (fun b => Hdw (X7w F W y cd m) (ebw F W hv y cd m E0 p wB ob) (e2w F W hv y cd m k) (Zbw F W y b)) m m 0 0
section PmX5
variable {t0 fn s2 hv r0 r1 r2 r3 x0 : Nat} {n1 h : Nat → Nat} {P Q : List (List Nat)} {F G W : FrT} {X : List Nat} {B C β' : Ty} {Γ0 : List Ty}
/-- a text under operations -/
theorem txt_cp (hm : ∀ y y', y ≤ y' → h y ≤ h y') (T : TBs 58 t0 fn s2 hv r0 r1 r2 r3 x0 n1 h P Q F G X) (hFm : frm F = true) (H1 : ∀ y, h y ≤ hv + max 1 y) {X7 x M : Nat} {eb e2 : Nat → Nat} (he : ∀ z z', z ≤ z' → eb z ≤ eb z') (he2 : ∀ z z', z ≤ z' → e2 z ≤ e2 z') (hx : x0 ≤ x) (M56 : M ≤ 56) (h7 : Zx F x (M - 3) ≤ X7) (hcp : ∀ z, cpw F hv x M z ≤ eb z ∧ cpw F hv x M z ≤ e2 z) {A : Ty} {ω : List Nat} (o : ok ω.length A = true) (ht : tch A + 2 ≤ M) (hw : ∀ j, j < ω.length → vw ω j ≤ x) : ∀ ρ, ρ ≠ [] → vz t0 n1 s2 h (E2 X7 eb e2) A ρ ω ≤ E2 X7 eb e2 ρ := by
  have hSc : ∀ (A : Ty) (ω : List Nat), hd A = 2 → ok ω.length A = true → tch A + 2 ≤ M → (∀ j, j < ω.length → vw ω j ≤ x) → HS2 t0 n1 s2 h eb e2 ω A := by
    intro A ω h2 o ht hw
    rcases ok_cases o with rfl | ⟨j, hj, rfl⟩ | ⟨a, b, rfl, ha, hb⟩ | ⟨a, b, rfl, ha, hb⟩ | ⟨c, u, v, w, hc, rfl, h0, h1, h2'⟩
    · exact absurd h2 (by decide)
    · rw [hd_var] at h2; omega
    · rw [hd_fun] at h2; omega
    · rw [tch_all] at ht
      have pa := tch_pos ha
      have pc := tch_pos hb
      have q1 := Zx_le T ha (by omega) hx hw
      have q3 := H1 (nz t0 n1 s2 h ω a)
      have vals : ∀ z j, j < (hzx h z (nz t0 n1 s2 h ω a) :: ω).length → vw (hzx h z (nz t0 n1 s2 h ω a) :: ω) j ≤ max (max z x) (hv + max 1 (Zx F x (tch a + 2))) := by
        intro z j hj
        rw [vw_cons]
        by_cases e : j = ω.length
        · rw [if_pos e]
          unfold hzx
          omega
        · rw [if_neg e]
          have := hw j (by rw [List.length_cons] at hj; omega)
          omega
      have fin : ∀ z, Zx F (max (max z x) (hv + max 1 (Zx F x (tch a + 2)))) (tch b + 2) ≤ cpw F hv x M z := by
        intro z
        have q5 := Zx_ms hFm (x := max (max z x) (hv + max 1 (Zx F x (tch a + 2)))) (s := tch b + 2) (s' := M - 5 - (tch a - 1)) (by omega) (by omega)
        have q6 := mxr_le (k := M - 7) (f := fun i => Zx F (max (max z x) (hv + max 1 (Zx F x (i + 3)))) (M - 5 - i)) (i := tch a - 1) (by omega)
        simp only [show tch a - 1 + 3 = tch a + 2 by omega] at q6
        exact Nat.le_trans q5 q6
      refine ⟨a, b, rfl, fun z => ?_, fun z => ?_⟩
      · have q4 := Zx_le T (x := max (max z x) (hv + max 1 (Zx F x (tch a + 2)))) (ω := hzx h z (nz t0 n1 s2 h ω a) :: ω) (A := b) (by rw [List.length_cons]; exact hb) (by omega) (by omega) (vals z)
        exact Nat.le_trans q4 (Nat.le_trans (fin z) (hcp z).1)
      · have q4 := Zx_leh T (x := max (max z x) (hv + max 1 (Zx F x (tch a + 2)))) (z := z) (ω := hzx h z (nz t0 n1 s2 h ω a) :: ω) (A := b) (by rw [List.length_cons]; exact hb) (by omega) (by omega) (by omega) (vals z)
        exact Nat.le_trans q4 (Nat.le_trans (fin z) (hcp z).2)
    · rw [hd_rec] at h2; omega
  exact arg_2 he he2 hm T hx M56 (fun s hs => Nat.le_trans (Zx_ms hFm (x := x) (s := s) (s' := M - 3) (by omega) (by omega)) h7) hSc _ A _ (Nat.le_refl _) o ht hw
end PmX5
