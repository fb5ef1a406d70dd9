/-! A CHOICE ON THE WAY, one name around: a table of its own. -/
section PmX3u
variable {a5 t0 fn s2 r0 r1 r2 r3 mt : Nat} {n1 h V gy : Nat → Nat} {Z H : Nat → Nat → Nat} {E : Stk → Nat} {D U : Nat → Nat → Nat → Nat}
/-- the statement, by fuel -/
def DQsu (a5 t0 mt : Nat) (n1 : Nat → Nat) (s2 : Nat) (h V gy : Nat → Nat) (Z : Nat → Nat → Nat) (E : Stk → Nat) (U : Nat → Nat → Nat → Nat) (f : Nat) : Prop := ∀ (t : Ty) (π : Stk) (ω : List Nat) (Γ : List Ty) (Δ : List (Nat × Ty × Nat)) (w b : Nat), TWf f Γ.length (Δ.map (fun a => a.1)) t → ω.length = Γ.length → DVn t0 n1 s2 h E (V b) ω Δ → (∀ j, j < ω.length → vw ω j ≤ gy b) → mch t + w + b ≤ mt → (Δ ≠ [] → a5 ≤ b) → (π ≠ [] → SKb Z gy b π w) → SDo f t Δ b → ¬ CFt f t → (π = [] → GSk t0 n1 s2 h E f t [] ω Γ Δ ≤ U (mch t) 0 b) ∧ (π ≠ [] → GSk t0 n1 s2 h E f t π ω Γ Δ ≤ U (mch t) w b)
/-- what such a term takes at least -/
theorem ncf_four : ∀ (f D : Nat) (sc : List Nat) (t : Ty), TWf f D sc t → ¬ CFt f t → 4 ≤ mch t
  | 0, _, _, _, h, _ => h.elim
  | f + 1, D, sc, t, tw, nc => by
    have ih := fun D sc t => ncf_four f D sc t
    obtain ⟨w0, w5, w6, w7, w8, w9, w10, w11, w12⟩ := tw
    have em := mch_is w0.2.1
    have kd := w0.1
    have mp : ∀ sc D v, TWf f D sc v → 1 ≤ mch v := by
      intro sc D v wv
      cases f with
      | zero => exact wv.elim
      | succ f => exact mch_pos wv
    refine Classical.byContradiction (fun l4 => nc ⟨fun c => ?_, fun c => ?_, fun c g hg hb => ?_, fun c => ?_⟩)
    · rw [if_neg (by omega), if_pos c] at em
      have tp : 1 ≤ tch (nX t) := by
        rcases c with c | c
        · exact tch_pos (w6 c).2.1
        · exact tch_pos (w8 c).1
      refine Classical.byContradiction (fun n => ?_)
      rcases c with c | c
      · have := ih _ _ _ (w6 c).2.2.2 n
        omega
      · have := ih _ _ _ (w8 c).2.2 n
        omega
    · refine Classical.byContradiction (fun n => ?_)
      have l : 4 ≤ mch (nX t) := by
        rcases c with c | c | c
        · exact ih _ _ _ (w7 (Or.inl c)).1 n
        · exact ih _ _ _ (w9 c).1 n
        · exact ih _ _ _ (w11 c).2 n
      have : mch (nX t) ≤ mch t := by
        rw [em]
        rcases c with c | c | c
        · rw [if_neg (by omega), if_neg (by omega), if_neg (by omega), if_neg (by omega)]; omega
        · rw [if_neg (by omega), if_neg (by omega), if_pos c]; omega
        · rw [if_neg (by omega), if_neg (by omega), if_neg (by omega), if_neg (by omega)]; omega
      omega
    · refine Classical.byContradiction (fun n => ?_)
      have l := ih _ _ _ ((w10 c).2 g hg hb) n
      rw [if_neg (by omega), if_neg (by omega), if_neg (by omega), if_pos c] at em
      have : mch (nP t g) ≤ mch t := by
        rcases (show g = 0 ∨ g = 1 ∨ g = 2 by omega) with rfl | rfl | rfl
        · show mch (nX t) ≤ _; omega
        · show mch (nY t) ≤ _; omega
        · show mch (nZ t) ≤ _; omega
      omega
    · rw [if_neg (by omega), if_neg (by omega), if_neg (by omega), if_neg (by omega)] at em
      have a := mp _ _ _ (w7 (Or.inr c)).1
      have b := mp _ _ _ (w7 (Or.inr c)).2
      omega
theorem DQu_6 {V0 : Nat → Nat} {H0 : Nat → Nat → Nat} (du : DPc false a5 mt fn s2 r0 r1 r2 r3 V0 Z H0 U) (dh : DHy false a5 t0 fn s2 r0 r1 r2 r3 mt n1 h V gy Z H E D) {f : Nat} (ih : DQsu a5 t0 mt n1 s2 h V gy Z E U f) {t : Ty} {π : Stk} {ω : List Nat} {Γ : List Ty} {Δ : List (Nat × Ty × Nat)} {w b : Nat} (c6 : nKd t = 6) (tw : TWf (f + 1) Γ.length (Δ.map (fun a => a.1)) t) (hl : ω.length = Γ.length) (dv : DVn t0 n1 s2 h E (V b) ω Δ) (hw : ∀ j, j < ω.length → vw ω j ≤ gy b) (hmw : mch t + w + b ≤ mt) (sk : π ≠ [] → SKb Z gy b π w) (cu : SDo (f + 1) t Δ b) (nc : ¬ CFt (f + 1) t) : (π = [] → GSk t0 n1 s2 h E (f + 1) t [] ω Γ Δ ≤ U (mch t) 0 b) ∧ (π ≠ [] → GSk t0 n1 s2 h E (f + 1) t π ω Γ Δ ≤ U (mch t) w b) := by
  obtain ⟨w0, w5, w6, w7, w8, w9, w10, w11, w12⟩ := tw
  have em := mch_is w0.2.1
  rw [if_neg (by omega), if_pos (Or.inl c6)] at em
  obtain ⟨-, x1, x2, x3⟩ := w6 c6
  have mp : 1 ≤ mch (nY t) := by
    cases f with
    | zero => exact x3.elim
    | succ f => exact mch_pos x3
  have tp := tch_pos x1
  have o1 : ok ω.length (nX t) = true := by rw [hl]; exact x1
  have tx := dh.tx (nX t) ω b o1 (by omega) hw
  have dc := du
  have hn1 := dh.2.1
  have gm := dh.gm
  have Zm := dh.zm
  have a55 := dh.1.2
  have eb : b + (mch t - mch (nY t)) = b + tch (nX t) + 4 := by omega
  have vb := dh.vb (b + tch (nX t) + 4) (tch (nX t)) tp (by omega) (by omega)
  have zb := Zm b (b + tch (nX t) + 4) (tch (nX t)) (tch (nX t)) (by omega) (Nat.le_refl _)
  have dv' : DVn t0 n1 s2 h E (V (b + tch (nX t) + 4)) ω ((nPl t, nX t, Γ.length) :: Δ) := by
    intro a ha
    rcases List.mem_cons.mp ha with e | e
    · rw [e]
      have t2 := tx.2
      exact ⟨[], ω, rfl, hl, o1, by show nz t0 n1 s2 h ω (nX t) ≤ _; omega, tx.1⟩
    · exact dv.up (dh.vm _ _ (by omega)) a e
  have hw' : ∀ j, j < ω.length → vw ω j ≤ gy (b + tch (nX t) + 4) := fun j hj => Nat.le_trans (hw j hj) (gm _ _ (by omega))
  have gs : ∀ ρ w', w' ≤ w → (ρ ≠ [] → SKb Z gy b ρ w') → ρ.length = π.length - 1 → _ := fun ρ w' h1 h2 h3 => ih (nY t) ρ ω Γ ((nPl t, nX t, Γ.length) :: Δ) w' (b + tch (nX t) + 4) x3 hl dv' hw' (by omega) (fun _ => by omega) (fun e => SKb.mono Zm gm (by omega) ρ _ _ (h2 e) (Nat.le_refl _)) ⟨cu.1.1 (Or.inl c6), fun h => absurd h (by omega)⟩ (fun q => nc ⟨fun _ => q, fun e => by omega, fun e => by omega, by omega⟩)
  refine ⟨fun e => ?_, fun hπ => ?_⟩
  · subst e
    have i0 := (gs [] 0 (Nat.zero_le _) (fun e => absurd rfl e) rfl).1 rfl
    unfold GSk
    rw [if_neg (by omega), if_pos c6]
    show n1 1 + (nz t0 n1 s2 h ω (nX t) + GSk t0 n1 s2 h E f (nY t) [] ω Γ ((nPl t, nX t, Γ.length) :: Δ)) ≤ _
    have k := (dc.2.2.2.1 (mch (nY t)) (mch t) b mp (by omega) (by omega)).1
    rw [show mch t - 4 - mch (nY t) = tch (nX t) by omega, eb] at k
    have t2 := tx.2
    omega
  · cases π with
    | nil => exact absurd rfl hπ
    | cons o ρ =>
      have s := sk hπ
      have sw := s.two hπ
      have k := dc.2.2.2.2.1 (mch (nY t)) (mch t) w b mp (by omega) sw (by omega)
      rw [eb] at k
      unfold GSk
      rw [if_neg (by omega), if_pos c6]
      cases o with
      | some z => exact Nat.zero_le _
      | none =>
        show GSk t0 n1 s2 h E f (nY t) ρ ω Γ ((nPl t, nX t, Γ.length) :: Δ) ≤ _
        by_cases er : ρ = []
        · subst er
          exact Nat.le_trans ((gs [] 0 (Nat.zero_le _) (fun e => absurd rfl e) rfl).1 rfl) k.1
        · exact Nat.le_trans ((gs ρ (w - 2) (by omega) (fun _ => s.2) (by simp)).2 er) k.2
theorem DQu_7 {V0 : Nat → Nat} {H0 : Nat → Nat → Nat} (du : DPc false a5 mt fn s2 r0 r1 r2 r3 V0 Z H0 U) (dh : DHy false a5 t0 fn s2 r0 r1 r2 r3 mt n1 h V gy Z H E D) {f : Nat} (ih : DQsu a5 t0 mt n1 s2 h V gy Z E U f) {t : Ty} {π : Stk} {ω : List Nat} {Γ : List Ty} {Δ : List (Nat × Ty × Nat)} {w b : Nat} (c7 : nKd t = 7 ∨ nKd t = 11) (tw : TWf (f + 1) Γ.length (Δ.map (fun a => a.1)) t) (hl : ω.length = Γ.length) (dv : DVn t0 n1 s2 h E (V b) ω Δ) (hw : ∀ j, j < ω.length → vw ω j ≤ gy b) (hmw : mch t + w + b ≤ mt) (h5 : Δ ≠ [] → a5 ≤ b) (w0' : π = [] → w = 0) (sk : π ≠ [] → SKb Z gy b π w) (cu : SDo (f + 1) t Δ b) (nc : ¬ CFt (f + 1) t) : GSk t0 n1 s2 h E (f + 1) t π ω Γ Δ ≤ U (mch t) w b := by
  obtain ⟨w0, w5, w6, w7, w8, w9, w10, w11, w12⟩ := tw
  have em := mch_is w0.2.1
  have x1 : TWf f Γ.length (Δ.map (fun a => a.1)) (nX t) := by
    rcases c7 with c | c
    · exact (w7 (Or.inl c)).1
    · exact (w11 c).2
  have em2 : mch t = 2 + (mch (nX t) + mch (nY t)) := by
    rcases c7 with c | c
    · rw [if_neg (by rw [c]; decide), if_neg (by rw [c]; decide), if_neg (by rw [c]; decide), if_neg (by rw [c]; decide)] at em
      exact em
    · rw [if_neg (by rw [c]; decide), if_neg (by rw [c]; decide), if_neg (by rw [c]; decide), if_neg (by rw [c]; decide)] at em
      exact em
  have mp : 1 ≤ mch (nX t) := by
    cases f with
    | zero => exact x1.elim
    | succ f => exact mch_pos x1
  have dc := du
  have gm := dh.gm
  have Zm := dh.zm
  have k := dc.2.2.1 (mch (nX t)) (mch t) w b mp (by omega) (by omega)
  have s : SKb Z gy b (none :: π) (w + (mch t - mch (nX t))) := by
    refine ⟨by omega, ?_⟩
    cases π with
    | nil => exact trivial
    | cons o ρ => exact SKb.mono Zm gm (Nat.le_refl b) _ w _ (sk (by simp)) (by omega)
  have i0 := (ih (nX t) (none :: π) ω Γ Δ (w + (mch t - mch (nX t))) b x1 hl dv hw (by omega) h5 (fun _ => s) ⟨c7.elim (fun c => (cu.1.2.1 (Or.inl c)).1) (fun c => cu.1.2.2.1 (Or.inr c)), cu.2⟩ (fun q => nc ⟨fun e => by omega, fun _ => q, fun e => by omega, by omega⟩)).2 (by simp)
  have e : GSk t0 n1 s2 h E (f + 1) t π ω Γ Δ = GSk t0 n1 s2 h E f (nX t) (none :: π) ω Γ Δ := by
    conv => lhs; unfold GSk
    rcases c7 with c | c
    · rw [if_neg (by omega), if_neg (by omega), if_pos c]
    · rw [if_neg (by omega), if_neg (by omega), if_neg (by omega), if_neg (by omega), if_neg (by omega), if_neg (by omega), if_pos c]
  rw [e]
  exact Nat.le_trans i0 k
theorem DQu_9 {V0 : Nat → Nat} {H0 : Nat → Nat → Nat} (du : DPc false a5 mt fn s2 r0 r1 r2 r3 V0 Z H0 U) (dh : DHy false a5 t0 fn s2 r0 r1 r2 r3 mt n1 h V gy Z H E D) {f : Nat} (ih : DQsu a5 t0 mt n1 s2 h V gy Z E U f) {t : Ty} {π : Stk} {ω : List Nat} {Γ : List Ty} {Δ : List (Nat × Ty × Nat)} {w b : Nat} (c9 : nKd t = 9) (tw : TWf (f + 1) Γ.length (Δ.map (fun a => a.1)) t) (hl : ω.length = Γ.length) (dv : DVn t0 n1 s2 h E (V b) ω Δ) (hw : ∀ j, j < ω.length → vw ω j ≤ gy b) (hmw : mch t + w + b ≤ mt) (h5 : Δ ≠ [] → a5 ≤ b) (w0' : π = [] → w = 0) (sk : π ≠ [] → SKb Z gy b π w) (cu : SDo (f + 1) t Δ b) (nc : ¬ CFt (f + 1) t) : GSk t0 n1 s2 h E (f + 1) t π ω Γ Δ ≤ U (mch t) w b := by
  obtain ⟨w0, w5, w6, w7, w8, w9, w10, w11, w12⟩ := tw
  have em := mch_is w0.2.1
  rw [if_neg (by omega), if_neg (by omega), if_pos c9] at em
  obtain ⟨x1, x2, x3⟩ := w9 c9
  have mp : 1 ≤ mch (nX t) := by
    cases f with
    | zero => exact x1.elim
    | succ f => exact mch_pos x1
  have tp := tch_pos x2
  have m34 := dh.1.1
  have gm := dh.gm
  have Zm := dh.zm
  have dc := du
  have o2 : ok ω.length (nY t) = true := by rw [hl]; exact x2
  have tx := dh.tx (nY t) ω b o2 (by omega) hw
  have g := dh.gr (nY t) ω b o2 (by omega) hw
  have k := dc.2.2.1 (mch (nX t)) (mch t) w b mp (by omega) (by omega)
  have s : SKb Z gy b (some (nz t0 n1 s2 h ω (nY t)) :: π) (w + (mch t - mch (nX t))) := by
    refine ⟨tch (nY t), tp, by omega, ⟨tx.2, g.2⟩, ?_⟩
    cases π with
    | nil => exact trivial
    | cons o ρ => exact SKb.mono Zm gm (Nat.le_refl b) _ w _ (sk (by simp)) (by omega)
  have i0 := (ih (nX t) (some (nz t0 n1 s2 h ω (nY t)) :: π) ω Γ Δ (w + (mch t - mch (nX t))) b x1 hl dv hw (by omega) h5 (fun _ => s) ⟨cu.1.2.2.1 (Or.inl c9), cu.2⟩ (fun q => nc ⟨fun e => by omega, fun _ => q, fun e => by omega, by omega⟩)).2 (by simp)
  have e : GSk t0 n1 s2 h E (f + 1) t π ω Γ Δ = GSk t0 n1 s2 h E f (nX t) (some (nz t0 n1 s2 h ω (nY t)) :: π) ω Γ Δ := by
    conv => lhs; unfold GSk
    rw [if_neg (by omega), if_neg (by omega), if_neg (by omega), if_neg (by omega), if_pos c9]
  rw [e]
  exact Nat.le_trans i0 k
theorem DQu_8 {V0 : Nat → Nat} {H0 : Nat → Nat → Nat} (du : DPc false a5 mt fn s2 r0 r1 r2 r3 V0 Z H0 U) (dh : DHy false a5 t0 fn s2 r0 r1 r2 r3 mt n1 h V gy Z H E D) {f : Nat} (ih : DQsu a5 t0 mt n1 s2 h V gy Z E U f) {t : Ty} {π : Stk} {ω : List Nat} {Γ : List Ty} {Δ : List (Nat × Ty × Nat)} {w b : Nat} (c8 : nKd t = 8) (tw : TWf (f + 1) Γ.length (Δ.map (fun a => a.1)) t) (hl : ω.length = Γ.length) (dv : DVn t0 n1 s2 h E (V b) ω Δ) (hw : ∀ j, j < ω.length → vw ω j ≤ gy b) (hmw : mch t + w + b ≤ mt) (h5 : Δ ≠ [] → a5 ≤ b) (sk : π ≠ [] → SKb Z gy b π w) (cu : SDo (f + 1) t Δ b) (nc : ¬ CFt (f + 1) t) : (π = [] → GSk t0 n1 s2 h E (f + 1) t [] ω Γ Δ ≤ U (mch t) 0 b) ∧ (π ≠ [] → GSk t0 n1 s2 h E (f + 1) t π ω Γ Δ ≤ U (mch t) w b) := by
  obtain ⟨w0, w5, w6, w7, w8, w9, w10, w11, w12⟩ := tw
  have em := mch_is w0.2.1
  rw [if_neg (by omega), if_pos (Or.inr c8)] at em
  obtain ⟨x1, x2, x3⟩ := w8 c8
  have mp : 1 ≤ mch (nY t) := by
    cases f with
    | zero => exact x3.elim
    | succ f => exact mch_pos x3
  have tp := tch_pos x1
  have m34 := dh.1.1
  have gm := dh.gm
  have Zm := dh.zm
  have dc := du
  have o1 : ok ω.length (nX t) = true := by rw [hl]; exact x1
  have g := dh.gr (nX t) ω b o1 (by omega) hw
  have eb : b + (mch t - mch (nY t)) = b + tch (nX t) + 4 := by omega
  refine ⟨fun e => ?_, fun hπ => ?_⟩
  · subst e
    have i0 := (ih (nY t) [] (h (nz t0 n1 s2 h ω (nX t)) :: ω) (nX t :: Γ) Δ 0 (b + tch (nX t) + 4) x3 (by rw [List.length_cons, List.length_cons, hl]) ((dv.up (dh.vm _ _ (by omega))).ext _) (vw_gyx gm hw g.1 (by omega)) (by omega) (fun e => by have := h5 e; omega) (fun e => absurd rfl e) ⟨cu.1.1 (Or.inr c8), fun h => absurd h (by omega)⟩ (fun q => nc ⟨fun _ => q, fun e => by omega, fun e => by omega, by omega⟩)).1 rfl
    unfold GSk
    rw [if_neg (by omega), if_neg (by omega), if_neg (by omega), if_pos c8]
    show s2 + GSk t0 n1 s2 h E f (nY t) [] (h (nz t0 n1 s2 h ω (nX t)) :: ω) (nX t :: Γ) Δ ≤ _
    have k := (dc.2.2.2.1 (mch (nY t)) (mch t) b mp (by omega) (by omega)).2
    rw [eb] at k
    omega
  · cases π with
    | nil => exact absurd rfl hπ
    | cons o ρ =>
      have s := sk hπ
      unfold GSk
      rw [if_neg (by omega), if_neg (by omega), if_neg (by omega), if_pos c8]
      cases o with
      | none => exact Nat.zero_le _
      | some z =>
        show GSk t0 n1 s2 h E f (nY t) ρ (hzx h z (nz t0 n1 s2 h ω (nX t)) :: ω) (nX t :: Γ) Δ ≤ _
        obtain ⟨s, s1, s2', s3, s4⟩ := s
        have k := dc.2.2.2.2.2.1 (mch (nY t)) (mch t) w b s mp (by omega) s1 s2' (by omega)
        rw [eb] at k
        have k1 := gm (b + s + 4) (b + tch (nX t) + 4 + s) (by omega)
        have k2 := gm (b + tch (nX t) + 4) (b + tch (nX t) + 4 + s) (by omega)
        have g1 := g.1
        have s32 := s3.2
        have hw' : ∀ j, j < (hzx h z (nz t0 n1 s2 h ω (nX t)) :: ω).length → vw (hzx h z (nz t0 n1 s2 h ω (nX t)) :: ω) j ≤ gy (b + tch (nX t) + 4 + s) := vw_gyx gm hw (by unfold hzx; omega) (by omega)
        have gs : ∀ w', w' ≤ w - (s + 1) → (ρ ≠ [] → SKb Z gy (b + tch (nX t) + 4 + s) ρ w') → _ := fun w' h1 h2 => ih (nY t) ρ (hzx h z (nz t0 n1 s2 h ω (nX t)) :: ω) (nX t :: Γ) Δ w' (b + tch (nX t) + 4 + s) x3 (by rw [List.length_cons, List.length_cons, hl]) ((dv.up (dh.vm _ _ (by omega))).ext _) hw' (by omega) (fun e => by have := h5 e; omega) h2 ⟨cu.1.1 (Or.inr c8), fun h => absurd h (by omega)⟩ (fun q => nc ⟨fun _ => q, fun e => by omega, fun e => by omega, by omega⟩)
        by_cases er : ρ = []
        · subst er
          exact Nat.le_trans ((gs 0 (Nat.zero_le _) (fun e => absurd rfl e)).1 rfl) k.1
        · exact Nat.le_trans ((gs (w - (s + 1)) (Nat.le_refl _) (fun _ => SKb.mono Zm gm (by omega) ρ _ _ s4 (Nat.le_refl _))).2 er) k.2
theorem DQu_10 {V0 : Nat → Nat} {H0 : Nat → Nat → Nat} (du : DPc false a5 mt fn s2 r0 r1 r2 r3 V0 Z H0 U) (dh : DHy false a5 t0 fn s2 r0 r1 r2 r3 mt n1 h V gy Z H E D) (m11 : mt ≤ 11) {f : Nat} (ih : DQsu a5 t0 mt n1 s2 h V gy Z E U f) {t : Ty} {π : Stk} {ω : List Nat} {Γ : List Ty} {Δ : List (Nat × Ty × Nat)} {w b : Nat} (c10 : nKd t = 10) (tw : TWf (f + 1) Γ.length (Δ.map (fun a => a.1)) t) (hl : ω.length = Γ.length) (dv : DVn t0 n1 s2 h E (V b) ω Δ) (hw : ∀ j, j < ω.length → vw ω j ≤ gy b) (hmw : mch t + w + b ≤ mt) (h5 : Δ ≠ [] → a5 ≤ b) (sk : π ≠ [] → SKb Z gy b π w) (cu : SDo (f + 1) t Δ b) (nc : ¬ CFt (f + 1) t) : (π = [] → GSk t0 n1 s2 h E (f + 1) t [] ω Γ Δ ≤ U (mch t) 0 b) ∧ (π ≠ [] → GSk t0 n1 s2 h E (f + 1) t π ω Γ Δ ≤ U (mch t) w b) := by
  obtain ⟨w0, w5, w6, w7, w8, w9, w10, w11, w12⟩ := tw
  have em := mch_is w0.2.1
  rw [if_neg (by omega), if_neg (by omega), if_neg (by omega), if_pos c10] at em
  obtain ⟨m8, x1⟩ := w10 c10
  have dc := du
  have hn1 := dh.2.2.1
  -- one part alone is not free
  have ex : ∃ g, g < 3 ∧ bit (nMk t) g = true ∧ ¬ CFt f (nP t g) := by
    refine Classical.byContradiction (fun q => nc ⟨fun e => by omega, fun e => by omega, fun _ g hg hb => Classical.byContradiction (fun n => q ⟨g, hg, hb, n⟩), by omega⟩)
  obtain ⟨g, hg, hb, ng⟩ := ex
  have l4 := ncf_four f _ _ _ (x1 g hg hb) ng
  have ge1 : mch (nP t g) ≤ mch (nX t) + (mch (nY t) + mch (nZ t)) := by
    rcases (show g = 0 ∨ g = 1 ∨ g = 2 by omega) with rfl | rfl | rfl
    · show mch (nX t) ≤ _; omega
    · show mch (nY t) ≤ _; omega
    · show mch (nZ t) ≤ _; omega
  have mp : ∀ g, g < 3 → bit (nMk t) g = true → 1 ≤ mch (nP t g) := by
    intro g hg hbg
    have x := x1 g hg hbg
    cases f with
    | zero => exact x.elim
    | succ f => exact mch_pos x
  have q0 : bit (nMk t) 0 = true → 1 ≤ mch (nX t) := mp 0 (by decide)
  have q1 : bit (nMk t) 1 = true → 1 ≤ mch (nY t) := mp 1 (by decide)
  have q2 : bit (nMk t) 2 = true → 1 ≤ mch (nZ t) := mp 2 (by decide)
  have key : (nMk t = 1 ∧ g = 0) ∨ (nMk t = 2 ∧ g = 1) ∨ (nMk t = 4 ∧ g = 2) := by
    have one : nlb (nMk t) = 1 := by
      refine Classical.byContradiction (fun n1 => ?_)
      have two : nMk t = 0 ∨ 2 ≤ nlb (nMk t) := by
        rcases (show nMk t = 0 ∨ nMk t = 1 ∨ nMk t = 2 ∨ nMk t = 3 ∨ nMk t = 4 ∨ nMk t = 5 ∨ nMk t = 6 ∨ nMk t = 7 by omega) with e | e | e | e | e | e | e | e
        · exact Or.inl e
        all_goals first | exact absurd (show nlb (nMk t) = 1 by rw [e]; decide) n1 | exact Or.inr (by rw [e]; decide)
      rcases two with e | e
      · rw [e] at hb
        rcases (show g = 0 ∨ g = 1 ∨ g = 2 by omega) with rfl | rfl | rfl <;> exact absurd hb (by decide)
      · have p2 : mch (nP t g) + 1 ≤ mch (nX t) + (mch (nY t) + mch (nZ t)) := by
          rcases (show nMk t = 0 ∨ nMk t = 1 ∨ nMk t = 2 ∨ nMk t = 3 ∨ nMk t = 4 ∨ nMk t = 5 ∨ nMk t = 6 ∨ nMk t = 7 by omega) with e' | e' | e' | e' | e' | e' | e' | e'
          · rw [e'] at e; exact absurd e (by decide)
          · rw [e'] at e; exact absurd e (by decide)
          · rw [e'] at e; exact absurd e (by decide)
          · have a0 := q0 (by rw [e']; decide)
            have a1 := q1 (by rw [e']; decide)
            rcases (show g = 0 ∨ g = 1 ∨ g = 2 by omega) with rfl | rfl | rfl
            · show mch (nX t) + 1 ≤ _; omega
            · show mch (nY t) + 1 ≤ _; omega
            · show mch (nZ t) + 1 ≤ _; omega
          · rw [e'] at e; exact absurd e (by decide)
          · have a0 := q0 (by rw [e']; decide)
            have a1 := q2 (by rw [e']; decide)
            rcases (show g = 0 ∨ g = 1 ∨ g = 2 by omega) with rfl | rfl | rfl
            · show mch (nX t) + 1 ≤ _; omega
            · show mch (nY t) + 1 ≤ _; omega
            · show mch (nZ t) + 1 ≤ _; omega
          · have a0 := q1 (by rw [e']; decide)
            have a1 := q2 (by rw [e']; decide)
            rcases (show g = 0 ∨ g = 1 ∨ g = 2 by omega) with rfl | rfl | rfl
            · show mch (nX t) + 1 ≤ _; omega
            · show mch (nY t) + 1 ≤ _; omega
            · show mch (nZ t) + 1 ≤ _; omega
          · have a0 := q0 (by rw [e']; decide)
            have a1 := q1 (by rw [e']; decide)
            have a2 := q2 (by rw [e']; decide)
            rcases (show g = 0 ∨ g = 1 ∨ g = 2 by omega) with rfl | rfl | rfl
            · show mch (nX t) + 1 ≤ _; omega
            · show mch (nY t) + 1 ≤ _; omega
            · show mch (nZ t) + 1 ≤ _; omega
        have n0 : nMk t ≠ 0 := by intro h0; rw [h0] at e; exact absurd e (by decide)
        rw [if_neg n0] at em
        omega
    rcases (show nMk t = 0 ∨ nMk t = 1 ∨ nMk t = 2 ∨ nMk t = 3 ∨ nMk t = 4 ∨ nMk t = 5 ∨ nMk t = 6 ∨ nMk t = 7 by omega) with e | e | e | e | e | e | e | e
    · rw [e] at one; exact absurd one (by decide)
    · refine Or.inl ⟨e, ?_⟩
      rw [e] at hb
      rcases (show g = 0 ∨ g = 1 ∨ g = 2 by omega) with rfl | rfl | rfl
      · rfl
      · exact absurd hb (by decide)
      · exact absurd hb (by decide)
    · refine Or.inr (Or.inl ⟨e, ?_⟩)
      rw [e] at hb
      rcases (show g = 0 ∨ g = 1 ∨ g = 2 by omega) with rfl | rfl | rfl
      · exact absurd hb (by decide)
      · rfl
      · exact absurd hb (by decide)
    · rw [e] at one; exact absurd one (by decide)
    · refine Or.inr (Or.inr ⟨e, ?_⟩)
      rw [e] at hb
      rcases (show g = 0 ∨ g = 1 ∨ g = 2 by omega) with rfl | rfl | rfl
      · exact absurd hb (by decide)
      · exact absurd hb (by decide)
      · rfl
    · rw [e] at one; exact absurd one (by decide)
    · rw [e] at one; exact absurd one (by decide)
    · rw [e] at one; exact absurd one (by decide)
  have nl1 : nMk t ≠ 0 ∧ 1 + 3 * nlb (nMk t) = 4 := by
    rcases key with ⟨e, -⟩ | ⟨e, -⟩ | ⟨e, -⟩ <;> rw [e] <;> decide
  rw [if_neg nl1.1, nl1.2] at em
  have hr1 : n1 (8 + nMk t) ≤ r1 := by
    have q := hn1 (nMk t) m8
    rcases key with ⟨e, -⟩ | ⟨e, -⟩ | ⟨e, -⟩ <;> rw [e] at q ⊢ <;> exact q
  have ab : ∀ g', g' < 3 → bit (nMk t) g' = false → mch (nP t g') = 0 := by
    intro g' hg' hbg
    rw [w0.2.2.1 g' hg' (by
      rw [c10]
      show (if bit (nMk t) g' = true then 1 else 0) = 0
      rw [hbg]; rfl)]
    rfl
  have emg : mch t = 4 + mch (nP t g) := by
    rcases key with ⟨e, e'⟩ | ⟨e, e'⟩ | ⟨e, e'⟩ <;> subst e'
    · have a1 := ab 1 (by decide) (by rw [e]; decide)
      have a2 := ab 2 (by decide) (by rw [e]; decide)
      have a1 : mch (nY t) = 0 := a1
      have a2 : mch (nZ t) = 0 := a2
      show mch t = 4 + mch (nX t)
      omega
    · have a1 := ab 0 (by decide) (by rw [e]; decide)
      have a2 := ab 2 (by decide) (by rw [e]; decide)
      have a1 : mch (nX t) = 0 := a1
      have a2 : mch (nZ t) = 0 := a2
      show mch t = 4 + mch (nY t)
      omega
    · have a1 := ab 0 (by decide) (by rw [e]; decide)
      have a2 := ab 1 (by decide) (by rw [e]; decide)
      have a1 : mch (nX t) = 0 := a1
      have a2 : mch (nY t) = 0 := a2
      show mch t = 4 + mch (nZ t)
      omega
  have cg : SDo f (nP t g) Δ b := ⟨cu.1.2.2.2.1 c10 g hg hb, cu.2⟩
  refine ⟨fun e => ?_, fun hπ => ?_⟩
  · subst e
    have i0 := (ih (nP t g) [] ω Γ Δ 0 b (x1 g hg hb) hl dv hw (by omega) h5 (fun e => absurd rfl e) cg ng).1 rfl
    have k := dc.2.2.2.2.2.2.2.2.1 (mch (nP t g)) (mch t) b (by omega) (by omega) (by omega)
    unfold GSk
    rw [if_neg (by omega), if_neg (by omega), if_neg (by omega), if_neg (by omega), if_neg (by omega), if_pos c10]
    rcases key with ⟨e, e'⟩ | ⟨e, e'⟩ | ⟨e, e'⟩ <;> subst e'
    · have b0 : bit (nMk t) 0 = true := hb
      have b1 : bit (nMk t) 1 = false := (by rw [e]; decide)
      have b2 : bit (nMk t) 2 = false := (by rw [e]; decide)
      have i0 : GSk t0 n1 s2 h E f (nX t) [] ω Γ Δ ≤ U (mch (nX t)) 0 b := i0
      have k : r1 + U (mch (nX t)) 0 b ≤ U (mch t) 0 b := k
      rw [b0, b1, b2]
      show n1 (8 + nMk t) + (GSk t0 n1 s2 h E f (nX t) [] ω Γ Δ + (0 + 0)) ≤ _
      omega
    · have b0 : bit (nMk t) 0 = false := (by rw [e]; decide)
      have b1 : bit (nMk t) 1 = true := hb
      have b2 : bit (nMk t) 2 = false := (by rw [e]; decide)
      have i0 : GSk t0 n1 s2 h E f (nY t) [] ω Γ Δ ≤ U (mch (nY t)) 0 b := i0
      have k : r1 + U (mch (nY t)) 0 b ≤ U (mch t) 0 b := k
      rw [b0, b1, b2]
      show n1 (8 + nMk t) + (0 + (GSk t0 n1 s2 h E f (nY t) [] ω Γ Δ + 0)) ≤ _
      omega
    · have b0 : bit (nMk t) 0 = false := (by rw [e]; decide)
      have b1 : bit (nMk t) 1 = false := (by rw [e]; decide)
      have b2 : bit (nMk t) 2 = true := hb
      have i0 : GSk t0 n1 s2 h E f (nZ t) [] ω Γ Δ ≤ U (mch (nZ t)) 0 b := i0
      have k : r1 + U (mch (nZ t)) 0 b ≤ U (mch t) 0 b := k
      rw [b0, b1, b2]
      show n1 (8 + nMk t) + (0 + (0 + GSk t0 n1 s2 h E f (nZ t) [] ω Γ Δ)) ≤ _
      omega
  · cases π with
    | nil => exact absurd rfl hπ
    | cons o ρ =>
      have s := sk hπ
      have sw := s.two hπ
      unfold GSk
      rw [if_neg (by omega), if_neg (by omega), if_neg (by omega), if_neg (by omega), if_neg (by omega), if_pos c10]
      cases o with
      | some z => exact Nat.zero_le _
      | none =>
        have k : ∀ g', g' < 3 → (if bit (nMk t) g' = true then GSk t0 n1 s2 h E f (nP t g') ρ ω Γ Δ else 0) ≤ U (mch t) w b := by
          intro g' hg'
          by_cases hbg : bit (nMk t) g' = true
          · have eg : g' = g := by
              rcases key with ⟨e, e'⟩ | ⟨e, e'⟩ | ⟨e, e'⟩ <;> subst e' <;> rw [e] at hbg <;> rcases (show g' = 0 ∨ g' = 1 ∨ g' = 2 by omega) with rfl | rfl | rfl <;> first | rfl | exact absurd hbg (by decide)
            subst eg
            rw [if_pos hbg]
            have kk := dc.2.2.2.2.2.2.1 (mch (nP t g')) (mch t) w b (by omega) (by omega) sw (by omega)
            by_cases er : ρ = []
            · subst er
              exact Nat.le_trans ((ih (nP t g') [] ω Γ Δ 0 b (x1 g' hg hb) hl dv hw (by omega) h5 (fun e => absurd rfl e) cg ng).1 rfl) kk.1
            · exact Nat.le_trans ((ih (nP t g') ρ ω Γ Δ (w - 2) b (x1 g' hg hb) hl dv hw (by omega) h5 (fun _ => s.2) cg ng).2 er) kk.2
          · rw [if_neg hbg]; exact Nat.zero_le _
        exact Nat.max_le.mpr ⟨k 0 (by decide), Nat.max_le.mpr ⟨k 1 (by decide), k 2 (by decide)⟩⟩
theorem DQu_12 (dx : DPo mt D) (dy : ∀ i j m w b, 1 ≤ i → 1 ≤ j → i + j + 2 = m → m + w + b ≤ mt → (m = 4 → 5 ≤ b) → D i w b + D j w b ≤ U m w b) (dh : DHy false a5 t0 fn s2 r0 r1 r2 r3 mt n1 h V gy Z H E D) {f : Nat} (ih : DQso a5 t0 mt n1 s2 h V gy Z E D f) {t : Ty} {π : Stk} {ω : List Nat} {Γ : List Ty} {Δ : List (Nat × Ty × Nat)} {w b : Nat} (c12 : nKd t = 12) (tw : TWf (f + 1) Γ.length (Δ.map (fun a => a.1)) t) (hl : ω.length = Γ.length) (dv : DVn t0 n1 s2 h E (V b) ω Δ) (hw : ∀ j, j < ω.length → vw ω j ≤ gy b) (hmw : mch t + w + b ≤ mt) (h5 : Δ ≠ [] → a5 ≤ b) (w0' : π = [] → w = 0) (sk : π ≠ [] → SKb Z gy b π w) (cu : SDo (f + 1) t Δ b) : GSk t0 n1 s2 h E (f + 1) t π ω Γ Δ ≤ U (mch t) w b := by
  obtain ⟨w0, w5, w6, w7, w8, w9, w10, w11, w12⟩ := tw
  have em := mch_is w0.2.1
  rw [if_neg (by omega), if_neg (by omega), if_neg (by omega), if_neg (by omega)] at em
  obtain ⟨x1, x2⟩ := w7 (Or.inr c12)
  have mp : ∀ u, TWf f Γ.length (Δ.map (fun a => a.1)) u → 1 ≤ mch u := by
    intro u wu
    cases f with
    | zero => exact wu.elim
    | succ f => exact mch_pos wu
  have p1 := mp _ x1
  have p2 := mp _ x2
  have k := dy (mch (nX t)) (mch (nY t)) (mch t) w b p1 p2 (by omega) (by omega) (fun e4 => by
    refine Classical.byContradiction (fun b5 => ?_)
    have dl := cu.2 (by omega)
    have one : ∀ u, TWf f Γ.length (Δ.map (fun a => a.1)) u → mch u = 1 → nKd u = 5 ∧ ∃ a, (nMk u, a) ∈ Δ := by
      intro u wu hu
      cases f with
      | zero => exact wu.elim
      | succ f =>
        obtain ⟨w0, w5, w6, w7, w8, w9, w10, w11, w12⟩ := wu
        have emu := mch_is w0.2.1
        have kd := w0.1
        have mpu : ∀ sc D v, TWf f D sc v → 1 ≤ mch v := by
          intro sc D v wv
          cases f with
          | zero => exact wv.elim
          | succ f => exact mch_pos wv
        have k5 : nKd u = 5 := by
          refine Classical.byContradiction (fun n5 => ?_)
          rw [if_neg n5] at emu
          by_cases c6 : nKd u = 6 ∨ nKd u = 8
          · rw [if_pos c6] at emu
            omega
          · rw [if_neg c6] at emu
            by_cases c9 : nKd u = 9
            · rw [if_pos c9] at emu
              have := mpu _ _ _ (w9 c9).1
              omega
            · rw [if_neg c9] at emu
              by_cases c10 : nKd u = 10
              · rw [if_pos c10] at emu
                have nl : ∀ m, m < 8 → m = 0 ∨ 1 ≤ nlb m := by
                  intro m hm
                  rcases (show m = 0 ∨ m = 1 ∨ m = 2 ∨ m = 3 ∨ m = 4 ∨ m = 5 ∨ m = 6 ∨ m = 7 by omega) with rfl | rfl | rfl | rfl | rfl | rfl | rfl | rfl <;> decide
                have m8 := (w10 c10).1
                have nl := nl _ m8
                split at emu <;> omega
              · rw [if_neg c10] at emu
                omega
        obtain ⟨a, ha⟩ := dlk_some (w5 k5)
        exact ⟨k5, a, dlk_mem ha⟩
    obtain ⟨k1, a1, m1⟩ := one _ x1 (by omega)
    obtain ⟨k2, a2, m2⟩ := one _ x2 (by omega)
    have e : nMk (nX t) = nMk (nY t) := by
      cases Δ with
      | nil => cases m1
      | cons d Δ =>
        have z : Δ = [] := List.eq_nil_of_length_eq_zero (by rw [List.length_cons] at dl; omega)
        subst z
        have e1 := List.mem_singleton.mp m1
        have e2 := List.mem_singleton.mp m2
        have e3 := e1.trans e2.symm
        injection e3
    exact (cu.1.2.2.2.2 c12) (smW_is.mpr ⟨k1, k2, e⟩))
  have g : ∀ u, TWf f Γ.length (Δ.map (fun a => a.1)) u → mch u ≤ mch t → SDo f u Δ b → GSk t0 n1 s2 h E f u π ω Γ Δ ≤ D (mch u) w b := by
    intro u wu hu cu'
    have i0 := ih u π ω Γ Δ w b wu hl dv hw (by omega) h5 sk cu'
    by_cases e : π = []
    · have e0 := w0' e
      subst e0
      subst e
      exact i0.1 rfl
    · exact i0.2 e
  have g1 := g _ x1 (by omega) ⟨(cu.1.2.1 (Or.inr c12)).1, cu.2⟩
  have g2 := g _ x2 (by omega) ⟨(cu.1.2.1 (Or.inr c12)).2, cu.2⟩
  unfold GSk
  rw [if_neg (by omega), if_neg (by omega), if_neg (by omega), if_neg (by omega), if_neg (by omega), if_neg (by omega), if_neg (by omega)]
  split
  · omega
  · omega
/-- every term -/
theorem DQu_all (dx : DPo mt D) (dy : ∀ i j m w b, 1 ≤ i → 1 ≤ j → i + j + 2 = m → m + w + b ≤ mt → (m = 4 → 5 ≤ b) → D i w b + D j w b ≤ U m w b) {V0 : Nat → Nat} {H0 : Nat → Nat → Nat} (du : DPc false a5 mt fn s2 r0 r1 r2 r3 V0 Z H0 U) (m11 : mt ≤ 11) (dh : DHy false a5 t0 fn s2 r0 r1 r2 r3 mt n1 h V gy Z H E D) : ∀ f, DQsu a5 t0 mt n1 s2 h V gy Z E U f
  | 0 => fun _ _ _ _ _ _ _ w _ _ _ _ _ _ _ _ => w.elim
  | f + 1 => by
    have ih := DQu_all dx dy du m11 dh f
    intro t π ω Γ Δ w b tw hl dv hw hmw h5 sk cu nc
    have kd := tw.1.1
    have both : (∀ w, mch t + w + b ≤ mt → (π = [] → w = 0) → (π ≠ [] → SKb Z gy b π w) → GSk t0 n1 s2 h E (f + 1) t π ω Γ Δ ≤ U (mch t) w b) → (π = [] → GSk t0 n1 s2 h E (f + 1) t [] ω Γ Δ ≤ U (mch t) 0 b) ∧ (π ≠ [] → GSk t0 n1 s2 h E (f + 1) t π ω Γ Δ ≤ U (mch t) w b) := by
      intro k
      refine ⟨fun e => ?_, fun e => k w hmw (fun e' => absurd e' e) sk⟩
      have := k 0 (by omega) (fun _ => rfl) (fun e' => absurd e e')
      rw [e] at this
      exact this
    rcases (show nKd t = 5 ∨ nKd t = 6 ∨ (nKd t = 7 ∨ nKd t = 11) ∨ nKd t = 8 ∨ nKd t = 9 ∨ nKd t = 10 ∨ nKd t = 12 by omega) with c | c | c | c | c | c | c
    · exact absurd ⟨fun e => by omega, fun e => by omega, fun e => by omega, by omega⟩ nc
    · exact DQu_6 du dh ih c tw hl dv hw hmw sk cu nc
    · exact both (fun w' h1 h2 h3 => DQu_7 du dh ih c tw hl dv hw h1 h5 h2 h3 cu nc)
    · exact DQu_8 du dh ih c tw hl dv hw hmw h5 sk cu nc
    · exact both (fun w' h1 h2 h3 => DQu_9 du dh ih c tw hl dv hw h1 h5 h2 h3 cu nc)
    · exact DQu_10 du dh m11 ih c tw hl dv hw hmw h5 sk cu nc
    · exact both (fun w' h1 h2 h3 => DQu_12 dx dy dh (DQo_all dx dh f) c tw hl dv hw h1 h5 h2 h3 cu)
end PmX3u
