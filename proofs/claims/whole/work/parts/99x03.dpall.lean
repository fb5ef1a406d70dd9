/-! ANY TERM IN THE TABLE: what its type is worth. -/
section PmX3
variable {un : Bool} {a5 t0 fn s2 r0 r1 r2 r3 mt : Nat} {n1 h V gy : Nat → Nat} {Z H : Nat → Nat → Nat} {E : Stk → Nat} {D : Nat → Nat → Nat → Nat}
/-- the statement, by fuel -/
def DQs (un : Bool) (a5 t0 mt : Nat) (n1 : Nat → Nat) (s2 : Nat) (h V gy : Nat → Nat) (Z : Nat → Nat → Nat) (E : Stk → Nat) (D : Nat → Nat → Nat → Nat) (f : Nat) : Prop := ∀ (t : Ty) (π : Stk) (ω : List Nat) (Γ : List Ty) (Δ : List (Nat × Ty × Nat)) (w b : Nat), TWf f Γ.length (Δ.map (fun a => a.1)) t → ω.length = Γ.length → DVn t0 n1 s2 h E (V b) ω Δ → (∀ j, j < ω.length → vw ω j ≤ gy b) → mch t + w + b ≤ mt → (Δ ≠ [] → a5 ≤ b) → (π ≠ [] → SKb Z gy b π w) → (un = true ∨ COk f t π.length) → (π = [] → GSk t0 n1 s2 h E f t [] ω Γ Δ ≤ D (mch t) 0 b) ∧ (π ≠ [] → GSk t0 n1 s2 h E f t π ω Γ Δ ≤ D (mch t) w b)
theorem DQ_5 (dh : DHy un a5 t0 fn s2 r0 r1 r2 r3 mt n1 h V gy Z H E D) {f : Nat} {t : Ty} {π : Stk} {ω : List Nat} {Γ : List Ty} {Δ : List (Nat × Ty × Nat)} {w b : Nat} (c5 : nKd t = 5) (tw : TWf (f + 1) Γ.length (Δ.map (fun a => a.1)) t) (hl : ω.length = Γ.length) (dv : DVn t0 n1 s2 h E (V b) ω Δ) (hmw : mch t + w + b ≤ mt) (h5 : Δ ≠ [] → a5 ≤ b) (sk : π ≠ [] → SKb Z gy b π w) : (π = [] → GSk t0 n1 s2 h E (f + 1) t [] ω Γ Δ ≤ D (mch t) 0 b) ∧ (π ≠ [] → GSk t0 n1 s2 h E (f + 1) t π ω Γ Δ ≤ D (mch t) w b) := by
  have dc := dh.dc
  have dE := dh.de
  obtain ⟨w0, w5, -⟩ := tw
  have em := mch_is w0.2.1
  rw [if_pos c5] at em
  obtain ⟨a, ha⟩ := dlk_some (w5 c5)
  have mem := dlk_mem ha
  have h5' := h5 (fun e => by rw [e] at mem; cases mem)
  obtain ⟨ν, ω1, e1, e2, e3, e4, e5⟩ := dv (nMk t, a) mem
  have e2 : ω1.length = a.2 := e2
  have el : Γ.length - a.2 = ν.length := by rw [← hl, e1, List.length_append, e2]; omega
  have key : ∀ π, GSk t0 n1 s2 h E (f + 1) t π ω Γ Δ = vz t0 n1 s2 h E a.1 π ω1 := by
    intro π
    unfold GSk
    rw [if_pos c5, ha]
    show vz t0 n1 s2 h E (lft a.2 (Γ.length - a.2) a.1) π ω = _
    have := vz_lft (t0 := t0) (n1 := n1) (s2 := s2) (h := h) (E := E) ν ω1 _ a.1 π [] (Nat.le_refl _) (by simpa using e3)
    rw [List.nil_append, List.nil_append, e2] at this
    rw [el, e1, this]
  rw [em]
  refine ⟨fun _ => ?_, fun hπ => ?_⟩
  · rw [key, vz_no e3]
    exact Nat.le_trans e4 (dc.1 b (by omega) h5')
  · rw [key]
    have s := sk hπ
    have sw := s.two hπ
    exact Nat.le_trans (e5 π hπ) (Nat.le_trans (dE b π w hπ s (by omega)) (dc.2.1 w b sw (by omega) h5'))
theorem DQ_6 (dh : DHy un a5 t0 fn s2 r0 r1 r2 r3 mt n1 h V gy Z H E D) {f : Nat} (ih : DQs un a5 t0 mt n1 s2 h V gy Z E D f) {t : Ty} {π : Stk} {ω : List Nat} {Γ : List Ty} {Δ : List (Nat × Ty × Nat)} {w b : Nat} (c6 : nKd t = 6) (tw : TWf (f + 1) Γ.length (Δ.map (fun a => a.1)) t) (hl : ω.length = Γ.length) (dv : DVn t0 n1 s2 h E (V b) ω Δ) (hw : ∀ j, j < ω.length → vw ω j ≤ gy b) (hmw : mch t + w + b ≤ mt) (sk : π ≠ [] → SKb Z gy b π w) (cu : un = true ∨ COk (f + 1) t π.length) : (π = [] → GSk t0 n1 s2 h E (f + 1) t [] ω Γ Δ ≤ D (mch t) 0 b) ∧ (π ≠ [] → GSk t0 n1 s2 h E (f + 1) t π ω Γ Δ ≤ D (mch t) w b) := by
  obtain ⟨w0, w5, w6, w7, w8, w9, w10, w11, w12⟩ := tw
  have em := mch_is w0.2.1
  rw [if_neg (by omega), if_pos (Or.inl c6)] at em
  obtain ⟨-, x1, x2, x3⟩ := w6 c6
  have mp : 1 ≤ mch (nY t) := by
    cases f with
    | zero => exact x3.elim
    | succ f => exact mch_pos x3
  have tp := tch_pos x1
  have o1 : ok ω.length (nX t) = true := by rw [hl]; exact x1
  have tx := dh.tx (nX t) ω b o1 (by omega) hw
  have dc := dh.dc
  have hn1 := dh.2.1
  have gm := dh.gm
  have Zm := dh.zm
  have a55 := dh.1.2
  have eb : b + (mch t - mch (nY t)) = b + tch (nX t) + 4 := by omega
  have vb := dh.vb (b + tch (nX t) + 4) (tch (nX t)) tp (by omega) (by omega)
  have zb := Zm b (b + tch (nX t) + 4) (tch (nX t)) (tch (nX t)) (by omega) (Nat.le_refl _)
  have dv' : DVn t0 n1 s2 h E (V (b + tch (nX t) + 4)) ω ((nPl t, nX t, Γ.length) :: Δ) := by
    intro a ha
    rcases List.mem_cons.mp ha with e | e
    · rw [e]
      have t2 := tx.2
      exact ⟨[], ω, rfl, hl, o1, by show nz t0 n1 s2 h ω (nX t) ≤ _; omega, tx.1⟩
    · exact dv.up (dh.vm _ _ (by omega)) a e
  have hw' : ∀ j, j < ω.length → vw ω j ≤ gy (b + tch (nX t) + 4) := fun j hj => Nat.le_trans (hw j hj) (gm _ _ (by omega))
  have gs : ∀ ρ w', w' ≤ w → (ρ ≠ [] → SKb Z gy b ρ w') → ρ.length = π.length - 1 → _ := fun ρ w' h1 h2 h3 => ih (nY t) ρ ω Γ ((nPl t, nX t, Γ.length) :: Δ) w' (b + tch (nX t) + 4) x3 hl dv' hw' (by omega) (fun _ => by omega) (fun e => SKb.mono Zm gm (by omega) ρ _ _ (h2 e) (Nat.le_refl _)) (cu.imp id (fun c => by rw [h3]; exact c.1 (Or.inl c6)))
  refine ⟨fun e => ?_, fun hπ => ?_⟩
  · subst e
    have i0 := (gs [] 0 (Nat.zero_le _) (fun e => absurd rfl e) rfl).1 rfl
    unfold GSk
    rw [if_neg (by omega), if_pos c6]
    show n1 1 + (nz t0 n1 s2 h ω (nX t) + GSk t0 n1 s2 h E f (nY t) [] ω Γ ((nPl t, nX t, Γ.length) :: Δ)) ≤ _
    have k := (dc.2.2.2.1 (mch (nY t)) (mch t) b mp (by omega) (by omega)).1
    rw [show mch t - 4 - mch (nY t) = tch (nX t) by omega, eb] at k
    have t2 := tx.2
    omega
  · cases π with
    | nil => exact absurd rfl hπ
    | cons o ρ =>
      have s := sk hπ
      have sw := s.two hπ
      have k := dc.2.2.2.2.1 (mch (nY t)) (mch t) w b mp (by omega) sw (by omega)
      rw [eb] at k
      unfold GSk
      rw [if_neg (by omega), if_pos c6]
      cases o with
      | some z => exact Nat.zero_le _
      | none =>
        show GSk t0 n1 s2 h E f (nY t) ρ ω Γ ((nPl t, nX t, Γ.length) :: Δ) ≤ _
        by_cases er : ρ = []
        · subst er
          exact Nat.le_trans ((gs [] 0 (Nat.zero_le _) (fun e => absurd rfl e) rfl).1 rfl) k.1
        · exact Nat.le_trans ((gs ρ (w - 2) (by omega) (fun _ => s.2) (by simp)).2 er) k.2
theorem DQ_7 (dh : DHy un a5 t0 fn s2 r0 r1 r2 r3 mt n1 h V gy Z H E D) {f : Nat} (ih : DQs un a5 t0 mt n1 s2 h V gy Z E D f) {t : Ty} {π : Stk} {ω : List Nat} {Γ : List Ty} {Δ : List (Nat × Ty × Nat)} {w b : Nat} (c7 : nKd t = 7 ∨ nKd t = 11) (tw : TWf (f + 1) Γ.length (Δ.map (fun a => a.1)) t) (hl : ω.length = Γ.length) (dv : DVn t0 n1 s2 h E (V b) ω Δ) (hw : ∀ j, j < ω.length → vw ω j ≤ gy b) (hmw : mch t + w + b ≤ mt) (h5 : Δ ≠ [] → a5 ≤ b) (w0' : π = [] → w = 0) (sk : π ≠ [] → SKb Z gy b π w) (cu : un = true ∨ COk (f + 1) t π.length) : GSk t0 n1 s2 h E (f + 1) t π ω Γ Δ ≤ D (mch t) w b := by
  obtain ⟨w0, w5, w6, w7, w8, w9, w10, w11, w12⟩ := tw
  have em := mch_is w0.2.1
  have x1 : TWf f Γ.length (Δ.map (fun a => a.1)) (nX t) := by
    rcases c7 with c | c
    · exact (w7 (Or.inl c)).1
    · exact (w11 c).2
  have em2 : mch t = 2 + (mch (nX t) + mch (nY t)) := by
    rcases c7 with c | c
    · rw [if_neg (by rw [c]; decide), if_neg (by rw [c]; decide), if_neg (by rw [c]; decide), if_neg (by rw [c]; decide)] at em
      exact em
    · rw [if_neg (by rw [c]; decide), if_neg (by rw [c]; decide), if_neg (by rw [c]; decide), if_neg (by rw [c]; decide)] at em
      exact em
  have mp : 1 ≤ mch (nX t) := by
    cases f with
    | zero => exact x1.elim
    | succ f => exact mch_pos x1
  have dc := dh.dc
  have gm := dh.gm
  have Zm := dh.zm
  have k := dc.2.2.1 (mch (nX t)) (mch t) w b mp (by omega) (by omega)
  have s : SKb Z gy b (none :: π) (w + (mch t - mch (nX t))) := by
    refine ⟨by omega, ?_⟩
    cases π with
    | nil => exact trivial
    | cons o ρ => exact SKb.mono Zm gm (Nat.le_refl b) _ w _ (sk (by simp)) (by omega)
  have i0 := (ih (nX t) (none :: π) ω Γ Δ (w + (mch t - mch (nX t))) b x1 hl dv hw (by omega) h5 (fun _ => s) (cu.imp id (fun c => c.2.1 (by omega)))).2 (by simp)
  have e : GSk t0 n1 s2 h E (f + 1) t π ω Γ Δ = GSk t0 n1 s2 h E f (nX t) (none :: π) ω Γ Δ := by
    conv => lhs; unfold GSk
    rcases c7 with c | c
    · rw [if_neg (by omega), if_neg (by omega), if_pos c]
    · rw [if_neg (by omega), if_neg (by omega), if_neg (by omega), if_neg (by omega), if_neg (by omega), if_neg (by omega), if_pos c]
  rw [e]
  exact Nat.le_trans i0 k
theorem DQ_9 (dh : DHy un a5 t0 fn s2 r0 r1 r2 r3 mt n1 h V gy Z H E D) {f : Nat} (ih : DQs un a5 t0 mt n1 s2 h V gy Z E D f) {t : Ty} {π : Stk} {ω : List Nat} {Γ : List Ty} {Δ : List (Nat × Ty × Nat)} {w b : Nat} (c9 : nKd t = 9) (tw : TWf (f + 1) Γ.length (Δ.map (fun a => a.1)) t) (hl : ω.length = Γ.length) (dv : DVn t0 n1 s2 h E (V b) ω Δ) (hw : ∀ j, j < ω.length → vw ω j ≤ gy b) (hmw : mch t + w + b ≤ mt) (h5 : Δ ≠ [] → a5 ≤ b) (w0' : π = [] → w = 0) (sk : π ≠ [] → SKb Z gy b π w) (cu : un = true ∨ COk (f + 1) t π.length) : GSk t0 n1 s2 h E (f + 1) t π ω Γ Δ ≤ D (mch t) w b := by
  obtain ⟨w0, w5, w6, w7, w8, w9, w10, w11, w12⟩ := tw
  have em := mch_is w0.2.1
  rw [if_neg (by omega), if_neg (by omega), if_pos c9] at em
  obtain ⟨x1, x2, x3⟩ := w9 c9
  have mp : 1 ≤ mch (nX t) := by
    cases f with
    | zero => exact x1.elim
    | succ f => exact mch_pos x1
  have tp := tch_pos x2
  have m34 := dh.1.1
  have gm := dh.gm
  have Zm := dh.zm
  have dc := dh.dc
  have o2 : ok ω.length (nY t) = true := by rw [hl]; exact x2
  have tx := dh.tx (nY t) ω b o2 (by omega) hw
  have g := dh.gr (nY t) ω b o2 (by omega) hw
  have k := dc.2.2.1 (mch (nX t)) (mch t) w b mp (by omega) (by omega)
  have s : SKb Z gy b (some (nz t0 n1 s2 h ω (nY t)) :: π) (w + (mch t - mch (nX t))) := by
    refine ⟨tch (nY t), tp, by omega, ⟨tx.2, g.2⟩, ?_⟩
    cases π with
    | nil => exact trivial
    | cons o ρ => exact SKb.mono Zm gm (Nat.le_refl b) _ w _ (sk (by simp)) (by omega)
  have i0 := (ih (nX t) (some (nz t0 n1 s2 h ω (nY t)) :: π) ω Γ Δ (w + (mch t - mch (nX t))) b x1 hl dv hw (by omega) h5 (fun _ => s) (cu.imp id (fun c => c.2.1 (by omega)))).2 (by simp)
  have e : GSk t0 n1 s2 h E (f + 1) t π ω Γ Δ = GSk t0 n1 s2 h E f (nX t) (some (nz t0 n1 s2 h ω (nY t)) :: π) ω Γ Δ := by
    conv => lhs; unfold GSk
    rw [if_neg (by omega), if_neg (by omega), if_neg (by omega), if_neg (by omega), if_pos c9]
  rw [e]
  exact Nat.le_trans i0 k
theorem DQ_8 (dh : DHy un a5 t0 fn s2 r0 r1 r2 r3 mt n1 h V gy Z H E D) {f : Nat} (ih : DQs un a5 t0 mt n1 s2 h V gy Z E D f) {t : Ty} {π : Stk} {ω : List Nat} {Γ : List Ty} {Δ : List (Nat × Ty × Nat)} {w b : Nat} (c8 : nKd t = 8) (tw : TWf (f + 1) Γ.length (Δ.map (fun a => a.1)) t) (hl : ω.length = Γ.length) (dv : DVn t0 n1 s2 h E (V b) ω Δ) (hw : ∀ j, j < ω.length → vw ω j ≤ gy b) (hmw : mch t + w + b ≤ mt) (h5 : Δ ≠ [] → a5 ≤ b) (sk : π ≠ [] → SKb Z gy b π w) (cu : un = true ∨ COk (f + 1) t π.length) : (π = [] → GSk t0 n1 s2 h E (f + 1) t [] ω Γ Δ ≤ D (mch t) 0 b) ∧ (π ≠ [] → GSk t0 n1 s2 h E (f + 1) t π ω Γ Δ ≤ D (mch t) w b) := by
  obtain ⟨w0, w5, w6, w7, w8, w9, w10, w11, w12⟩ := tw
  have em := mch_is w0.2.1
  rw [if_neg (by omega), if_pos (Or.inr c8)] at em
  obtain ⟨x1, x2, x3⟩ := w8 c8
  have mp : 1 ≤ mch (nY t) := by
    cases f with
    | zero => exact x3.elim
    | succ f => exact mch_pos x3
  have tp := tch_pos x1
  have m34 := dh.1.1
  have gm := dh.gm
  have Zm := dh.zm
  have dc := dh.dc
  have o1 : ok ω.length (nX t) = true := by rw [hl]; exact x1
  have g := dh.gr (nX t) ω b o1 (by omega) hw
  have eb : b + (mch t - mch (nY t)) = b + tch (nX t) + 4 := by omega
  refine ⟨fun e => ?_, fun hπ => ?_⟩
  · subst e
    have i0 := (ih (nY t) [] (h (nz t0 n1 s2 h ω (nX t)) :: ω) (nX t :: Γ) Δ 0 (b + tch (nX t) + 4) x3 (by rw [List.length_cons, List.length_cons, hl]) ((dv.up (dh.vm _ _ (by omega))).ext _) (vw_gyx gm hw g.1 (by omega)) (by omega) (fun e => by have := h5 e; omega) (fun e => absurd rfl e) (cu.imp id (fun c => c.1 (Or.inr c8)))).1 rfl
    unfold GSk
    rw [if_neg (by omega), if_neg (by omega), if_neg (by omega), if_pos c8]
    show s2 + GSk t0 n1 s2 h E f (nY t) [] (h (nz t0 n1 s2 h ω (nX t)) :: ω) (nX t :: Γ) Δ ≤ _
    have k := (dc.2.2.2.1 (mch (nY t)) (mch t) b mp (by omega) (by omega)).2
    rw [eb] at k
    omega
  · cases π with
    | nil => exact absurd rfl hπ
    | cons o ρ =>
      have s := sk hπ
      unfold GSk
      rw [if_neg (by omega), if_neg (by omega), if_neg (by omega), if_pos c8]
      cases o with
      | none => exact Nat.zero_le _
      | some z =>
        show GSk t0 n1 s2 h E f (nY t) ρ (hzx h z (nz t0 n1 s2 h ω (nX t)) :: ω) (nX t :: Γ) Δ ≤ _
        obtain ⟨s, s1, s2', s3, s4⟩ := s
        have k := dc.2.2.2.2.2.1 (mch (nY t)) (mch t) w b s mp (by omega) s1 s2' (by omega)
        rw [eb] at k
        have k1 := gm (b + s + 4) (b + tch (nX t) + 4 + s) (by omega)
        have k2 := gm (b + tch (nX t) + 4) (b + tch (nX t) + 4 + s) (by omega)
        have g1 := g.1
        have s32 := s3.2
        have hw' : ∀ j, j < (hzx h z (nz t0 n1 s2 h ω (nX t)) :: ω).length → vw (hzx h z (nz t0 n1 s2 h ω (nX t)) :: ω) j ≤ gy (b + tch (nX t) + 4 + s) := vw_gyx gm hw (by unfold hzx; omega) (by omega)
        have gs : ∀ w', w' ≤ w - (s + 1) → (ρ ≠ [] → SKb Z gy (b + tch (nX t) + 4 + s) ρ w') → _ := fun w' h1 h2 => ih (nY t) ρ (hzx h z (nz t0 n1 s2 h ω (nX t)) :: ω) (nX t :: Γ) Δ w' (b + tch (nX t) + 4 + s) x3 (by rw [List.length_cons, List.length_cons, hl]) ((dv.up (dh.vm _ _ (by omega))).ext _) hw' (by omega) (fun e => by have := h5 e; omega) h2 (cu.imp id (fun c => by simpa using c.1 (Or.inr c8)))
        by_cases er : ρ = []
        · subst er
          exact Nat.le_trans ((gs 0 (Nat.zero_le _) (fun e => absurd rfl e)).1 rfl) k.1
        · exact Nat.le_trans ((gs (w - (s + 1)) (Nat.le_refl _) (fun _ => SKb.mono Zm gm (by omega) ρ _ _ s4 (Nat.le_refl _))).2 er) k.2
theorem DQ_10 (dh : DHy un a5 t0 fn s2 r0 r1 r2 r3 mt n1 h V gy Z H E D) {f : Nat} (ih : DQs un a5 t0 mt n1 s2 h V gy Z E D f) {t : Ty} {π : Stk} {ω : List Nat} {Γ : List Ty} {Δ : List (Nat × Ty × Nat)} {w b : Nat} (c10 : nKd t = 10) (tw : TWf (f + 1) Γ.length (Δ.map (fun a => a.1)) t) (hl : ω.length = Γ.length) (dv : DVn t0 n1 s2 h E (V b) ω Δ) (hw : ∀ j, j < ω.length → vw ω j ≤ gy b) (hmw : mch t + w + b ≤ mt) (h5 : Δ ≠ [] → a5 ≤ b) (sk : π ≠ [] → SKb Z gy b π w) (cu : un = true ∨ COk (f + 1) t π.length) : (π = [] → GSk t0 n1 s2 h E (f + 1) t [] ω Γ Δ ≤ D (mch t) 0 b) ∧ (π ≠ [] → GSk t0 n1 s2 h E (f + 1) t π ω Γ Δ ≤ D (mch t) w b) := by
  obtain ⟨w0, w5, w6, w7, w8, w9, w10, w11, w12⟩ := tw
  have em := mch_is w0.2.1
  rw [if_neg (by omega), if_neg (by omega), if_neg (by omega), if_pos c10] at em
  obtain ⟨m8, x1⟩ := w10 c10
  have dc := dh.dc
  have mp : ∀ g, g < 3 → bit (nMk t) g = true → 1 ≤ mch (nP t g) := by
    intro g hg hbg
    have x := x1 g hg hbg
    cases f with
    | zero => exact x.elim
    | succ f => exact mch_pos x
  have m0 : mch (nX t) ≤ mch t ∧ mch (nY t) ≤ mch t ∧ mch (nZ t) ≤ mch t := by omega
  have ml : ∀ g, g < 3 → mch (nP t g) ≤ mch t := by
    intro g hg
    rcases (show g = 0 ∨ g = 1 ∨ g = 2 by omega) with rfl | rfl | rfl
    · exact m0.1
    · exact m0.2.1
    · exact m0.2.2
  refine ⟨fun e => ?_, fun hπ => ?_⟩
  · subst e
    have k : ∀ g, g < 3 → bit (nMk t) g = true → 1 ≤ mch (nP t g) ∧ GSk t0 n1 s2 h E f (nP t g) [] ω Γ Δ ≤ D (mch (nP t g)) 0 b := fun g hg hbg => ⟨mp g hg hbg, (ih (nP t g) [] ω Γ Δ 0 b (x1 g hg hbg) hl dv hw (by have := ml g hg; omega) h5 (fun e => absurd rfl e) (cu.imp id (fun c => c.2.2.1 c10 g hg hbg))).1 rfl⟩
    unfold GSk
    rw [if_neg (by omega), if_neg (by omega), if_neg (by omega), if_neg (by omega), if_neg (by omega), if_pos c10]
    have hle : (if nMk t = 0 then 2 else 1 + 3 * nlb (nMk t)) + (mch (nX t) + (mch (nY t) + mch (nZ t))) + b ≤ mt := by omega
    have ab : ∀ g, g < 3 → bit (nMk t) g = false → mch (nP t g) = 0 := by
      intro g hg hbg
      rw [w0.2.2.1 g hg (by
        rw [c10]
        show (if bit (nMk t) g = true then 1 else 0) = 0
        rw [hbg]; rfl)]
      rfl
    have fin := DPc_rec dc dh.2.2.1 m8 (k 0 (by decide)) (k 1 (by decide)) (k 2 (by decide)) (ab 0 (by decide)) (ab 1 (by decide)) (ab 2 (by decide)) hle
    rw [em]
    exact fin
  · cases π with
    | nil => exact absurd rfl hπ
    | cons o ρ =>
      have s := sk hπ
      have sw := s.two hπ
      unfold GSk
      rw [if_neg (by omega), if_neg (by omega), if_neg (by omega), if_neg (by omega), if_neg (by omega), if_pos c10]
      cases o with
      | some z => exact Nat.zero_le _
      | none =>
        have four : ∀ k, k < 8 → ∀ g, g < 3 → bit k g = true → 4 ≤ (if k = 0 then 2 else 1 + 3 * nlb k) := by decide
        have m4 : ∀ g, g < 3 → bit (nMk t) g = true → mch (nP t g) + 4 ≤ mch t := by
          intro g hg hbg
          have f4 := four _ m8 g hg hbg
          rcases (show g = 0 ∨ g = 1 ∨ g = 2 by omega) with rfl | rfl | rfl
          · show mch (nX t) + 4 ≤ _; omega
          · show mch (nY t) + 4 ≤ _; omega
          · show mch (nZ t) + 4 ≤ _; omega
        have k : ∀ g, g < 3 → (if bit (nMk t) g = true then GSk t0 n1 s2 h E f (nP t g) ρ ω Γ Δ else 0) ≤ D (mch t) w b := by
          intro g hg
          by_cases hbg : bit (nMk t) g = true
          · rw [if_pos hbg]
            have h4 := m4 g hg hbg
            have kk := dc.2.2.2.2.2.2.1 (mch (nP t g)) (mch t) w b (mp g hg hbg) h4 sw (by omega)
            by_cases er : ρ = []
            · subst er
              exact Nat.le_trans ((ih (nP t g) [] ω Γ Δ 0 b (x1 g hg hbg) hl dv hw (by omega) h5 (fun e => absurd rfl e) (cu.imp id (fun c => by simpa using c.2.2.1 c10 g hg hbg))).1 rfl) kk.1
            · exact Nat.le_trans ((ih (nP t g) ρ ω Γ Δ (w - 2) b (x1 g hg hbg) hl dv hw (by omega) h5 (fun _ => s.2) (cu.imp id (fun c => by simpa using c.2.2.1 c10 g hg hbg))).2 er) kk.2
          · rw [if_neg hbg]; exact Nat.zero_le _
        exact Nat.max_le.mpr ⟨k 0 (by decide), Nat.max_le.mpr ⟨k 1 (by decide), k 2 (by decide)⟩⟩
theorem DQ_12 (dh : DHy un a5 t0 fn s2 r0 r1 r2 r3 mt n1 h V gy Z H E D) {f : Nat} (ih : DQs un a5 t0 mt n1 s2 h V gy Z E D f) {t : Ty} {π : Stk} {ω : List Nat} {Γ : List Ty} {Δ : List (Nat × Ty × Nat)} {w b : Nat} (c12 : nKd t = 12) (tw : TWf (f + 1) Γ.length (Δ.map (fun a => a.1)) t) (hl : ω.length = Γ.length) (dv : DVn t0 n1 s2 h E (V b) ω Δ) (hw : ∀ j, j < ω.length → vw ω j ≤ gy b) (hmw : mch t + w + b ≤ mt) (h5 : Δ ≠ [] → a5 ≤ b) (w0' : π = [] → w = 0) (sk : π ≠ [] → SKb Z gy b π w) (cu : un = true ∨ COk (f + 1) t π.length) : GSk t0 n1 s2 h E (f + 1) t π ω Γ Δ ≤ D (mch t) w b := by
  obtain ⟨w0, w5, w6, w7, w8, w9, w10, w11, w12⟩ := tw
  have em := mch_is w0.2.1
  rw [if_neg (by omega), if_neg (by omega), if_neg (by omega), if_neg (by omega)] at em
  obtain ⟨x1, x2⟩ := w7 (Or.inr c12)
  have mp : ∀ u, TWf f Γ.length (Δ.map (fun a => a.1)) u → 1 ≤ mch u := by
    intro u wu
    cases f with
    | zero => exact wu.elim
    | succ f => exact mch_pos wu
  have p1 := mp _ x1
  have p2 := mp _ x2
  have dc := dh.dc
  have k := dc.2.2.2.2.2.2.2.2.2.2.2 (mch (nX t)) (mch (nY t)) (mch t) w b p1 p2 (by omega) (by omega) (cu.imp id (fun c => w0' (List.eq_nil_of_length_eq_zero (c.2.2.2 c12).1)))
  have g : ∀ u, TWf f Γ.length (Δ.map (fun a => a.1)) u → mch u ≤ mch t → (un = true ∨ COk f u π.length) → GSk t0 n1 s2 h E f u π ω Γ Δ ≤ D (mch u) w b := by
    intro u wu hu cu'
    have i0 := ih u π ω Γ Δ w b wu hl dv hw (by omega) h5 sk cu'
    by_cases e : π = []
    · have e0 := w0' e
      subst e0
      subst e
      exact i0.1 rfl
    · exact i0.2 e
  have g1 := g _ x1 (by omega) (cu.imp id (fun c => by rw [(c.2.2.2 c12).1]; exact (c.2.2.2 c12).2.1))
  have g2 := g _ x2 (by omega) (cu.imp id (fun c => by rw [(c.2.2.2 c12).1]; exact (c.2.2.2 c12).2.2))
  unfold GSk
  rw [if_neg (by omega), if_neg (by omega), if_neg (by omega), if_neg (by omega), if_neg (by omega), if_neg (by omega), if_neg (by omega)]
  split
  · omega
  · omega
/-- every term -/
theorem DQ_all (dh : DHy un a5 t0 fn s2 r0 r1 r2 r3 mt n1 h V gy Z H E D) : ∀ f, DQs un a5 t0 mt n1 s2 h V gy Z E D f
  | 0 => fun _ _ _ _ _ _ _ w _ _ _ _ _ _ _ => w.elim
  | f + 1 => by
    have ih := DQ_all dh f
    intro t π ω Γ Δ w b tw hl dv hw hmw h5 sk cu
    have kd := tw.1.1
    have both : (∀ w, mch t + w + b ≤ mt → (π = [] → w = 0) → (π ≠ [] → SKb Z gy b π w) → GSk t0 n1 s2 h E (f + 1) t π ω Γ Δ ≤ D (mch t) w b) → (π = [] → GSk t0 n1 s2 h E (f + 1) t [] ω Γ Δ ≤ D (mch t) 0 b) ∧ (π ≠ [] → GSk t0 n1 s2 h E (f + 1) t π ω Γ Δ ≤ D (mch t) w b) := by
      intro k
      refine ⟨fun e => ?_, fun e => k w hmw (fun e' => absurd e' e) sk⟩
      have := k 0 (by omega) (fun _ => rfl) (fun e' => absurd e e')
      rw [e] at this
      exact this
    rcases (show nKd t = 5 ∨ nKd t = 6 ∨ (nKd t = 7 ∨ nKd t = 11) ∨ nKd t = 8 ∨ nKd t = 9 ∨ nKd t = 10 ∨ nKd t = 12 by omega) with c | c | c | c | c | c | c
    · exact DQ_5 dh c tw hl dv hmw h5 sk
    · exact DQ_6 dh ih c tw hl dv hw hmw sk cu
    · exact both (fun w' h1 h2 h3 => DQ_7 dh ih c tw hl dv hw h1 h5 h2 h3 cu)
    · exact DQ_8 dh ih c tw hl dv hw hmw h5 sk cu
    · exact both (fun w' h1 h2 h3 => DQ_9 dh ih c tw hl dv hw h1 h5 h2 h3 cu)
    · exact DQ_10 dh ih c tw hl dv hw hmw h5 sk cu
    · exact both (fun w' h1 h2 h3 => DQ_12 dh ih c tw hl dv hw h1 h5 h2 h3 cu)
end PmX3
