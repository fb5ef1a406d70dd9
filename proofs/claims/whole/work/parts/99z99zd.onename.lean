/-! ONE NAME AROUND: the table without choices of that name with itself. -/
def nuo (n b : Nat) : Bool := !(Nat.beq n 4 && Nat.ble b 4)
/-- choices in such a table -/
def DPo (mt : Nat) (D : Nat → Nat → Nat → Nat) : Prop := ∀ i j m w b, 1 ≤ i → 1 ≤ j → i + j + 2 = m → m + w + b ≤ mt → (m = 4 → 5 ≤ b) → D i w b + D j w b ≤ D m w b
def SDo (f : Nat) (t : Ty) (Δ : List (Nat × Ty × Nat)) (b : Nat) : Prop := TNo f t ∧ (b < 5 → Δ.length ≤ 1)
section PmX3o
variable {a5 t0 fn s2 r0 r1 r2 r3 mt : Nat} {n1 h V gy : Nat → Nat} {Z H : Nat → Nat → Nat} {E : Stk → Nat} {D : Nat → Nat → Nat → Nat}
/-- the statement, by fuel -/
def DQso (a5 t0 mt : Nat) (n1 : Nat → Nat) (s2 : Nat) (h V gy : Nat → Nat) (Z : Nat → Nat → Nat) (E : Stk → Nat) (D : Nat → Nat → Nat → Nat) (f : Nat) : Prop := ∀ (t : Ty) (π : Stk) (ω : List Nat) (Γ : List Ty) (Δ : List (Nat × Ty × Nat)) (w b : Nat), TWf f Γ.length (Δ.map (fun a => a.1)) t → ω.length = Γ.length → DVn t0 n1 s2 h E (V b) ω Δ → (∀ j, j < ω.length → vw ω j ≤ gy b) → mch t + w + b ≤ mt → (Δ ≠ [] → a5 ≤ b) → (π ≠ [] → SKb Z gy b π w) → SDo f t Δ b → (π = [] → GSk t0 n1 s2 h E f t [] ω Γ Δ ≤ D (mch t) 0 b) ∧ (π ≠ [] → GSk t0 n1 s2 h E f t π ω Γ Δ ≤ D (mch t) w b)
theorem DQo_5 (dh : DHy false a5 t0 fn s2 r0 r1 r2 r3 mt n1 h V gy Z H E D) {f : Nat} {t : Ty} {π : Stk} {ω : List Nat} {Γ : List Ty} {Δ : List (Nat × Ty × Nat)} {w b : Nat} (c5 : nKd t = 5) (tw : TWf (f + 1) Γ.length (Δ.map (fun a => a.1)) t) (hl : ω.length = Γ.length) (dv : DVn t0 n1 s2 h E (V b) ω Δ) (hmw : mch t + w + b ≤ mt) (h5 : Δ ≠ [] → a5 ≤ b) (sk : π ≠ [] → SKb Z gy b π w) : (π = [] → GSk t0 n1 s2 h E (f + 1) t [] ω Γ Δ ≤ D (mch t) 0 b) ∧ (π ≠ [] → GSk t0 n1 s2 h E (f + 1) t π ω Γ Δ ≤ D (mch t) w b) := by
  have dc := dh.dc
  have dE := dh.de
  obtain ⟨w0, w5, -⟩ := tw
  have em := mch_is w0.2.1
  rw [if_pos c5] at em
  obtain ⟨a, ha⟩ := dlk_some (w5 c5)
  have mem := dlk_mem ha
  have h5' := h5 (fun e => by rw [e] at mem; cases mem)
  obtain ⟨ν, ω1, e1, e2, e3, e4, e5⟩ := dv (nMk t, a) mem
  have e2 : ω1.length = a.2 := e2
  have el : Γ.length - a.2 = ν.length := by rw [← hl, e1, List.length_append, e2]; omega
  have key : ∀ π, GSk t0 n1 s2 h E (f + 1) t π ω Γ Δ = vz t0 n1 s2 h E a.1 π ω1 := by
    intro π
    unfold GSk
    rw [if_pos c5, ha]
    show vz t0 n1 s2 h E (lft a.2 (Γ.length - a.2) a.1) π ω = _
    have := vz_lft (t0 := t0) (n1 := n1) (s2 := s2) (h := h) (E := E) ν ω1 _ a.1 π [] (Nat.le_refl _) (by simpa using e3)
    rw [List.nil_append, List.nil_append, e2] at this
    rw [el, e1, this]
  rw [em]
  refine ⟨fun _ => ?_, fun hπ => ?_⟩
  · rw [key, vz_no e3]
    exact Nat.le_trans e4 (dc.1 b (by omega) h5')
  · rw [key]
    have s := sk hπ
    have sw := s.two hπ
    exact Nat.le_trans (e5 π hπ) (Nat.le_trans (dE b π w hπ s (by omega)) (dc.2.1 w b sw (by omega) h5'))
theorem DQo_6 (dh : DHy false a5 t0 fn s2 r0 r1 r2 r3 mt n1 h V gy Z H E D) {f : Nat} (ih : DQso a5 t0 mt n1 s2 h V gy Z E D f) {t : Ty} {π : Stk} {ω : List Nat} {Γ : List Ty} {Δ : List (Nat × Ty × Nat)} {w b : Nat} (c6 : nKd t = 6) (tw : TWf (f + 1) Γ.length (Δ.map (fun a => a.1)) t) (hl : ω.length = Γ.length) (dv : DVn t0 n1 s2 h E (V b) ω Δ) (hw : ∀ j, j < ω.length → vw ω j ≤ gy b) (hmw : mch t + w + b ≤ mt) (sk : π ≠ [] → SKb Z gy b π w) (cu : SDo (f + 1) t Δ b) : (π = [] → GSk t0 n1 s2 h E (f + 1) t [] ω Γ Δ ≤ D (mch t) 0 b) ∧ (π ≠ [] → GSk t0 n1 s2 h E (f + 1) t π ω Γ Δ ≤ D (mch t) w b) := by
  obtain ⟨w0, w5, w6, w7, w8, w9, w10, w11, w12⟩ := tw
  have em := mch_is w0.2.1
  rw [if_neg (by omega), if_pos (Or.inl c6)] at em
  obtain ⟨-, x1, x2, x3⟩ := w6 c6
  have mp : 1 ≤ mch (nY t) := by
    cases f with
    | zero => exact x3.elim
    | succ f => exact mch_pos x3
  have tp := tch_pos x1
  have o1 : ok ω.length (nX t) = true := by rw [hl]; exact x1
  have tx := dh.tx (nX t) ω b o1 (by omega) hw
  have dc := dh.dc
  have hn1 := dh.2.1
  have gm := dh.gm
  have Zm := dh.zm
  have a55 := dh.1.2
  have eb : b + (mch t - mch (nY t)) = b + tch (nX t) + 4 := by omega
  have vb := dh.vb (b + tch (nX t) + 4) (tch (nX t)) tp (by omega) (by omega)
  have zb := Zm b (b + tch (nX t) + 4) (tch (nX t)) (tch (nX t)) (by omega) (Nat.le_refl _)
  have dv' : DVn t0 n1 s2 h E (V (b + tch (nX t) + 4)) ω ((nPl t, nX t, Γ.length) :: Δ) := by
    intro a ha
    rcases List.mem_cons.mp ha with e | e
    · rw [e]
      have t2 := tx.2
      exact ⟨[], ω, rfl, hl, o1, by show nz t0 n1 s2 h ω (nX t) ≤ _; omega, tx.1⟩
    · exact dv.up (dh.vm _ _ (by omega)) a e
  have hw' : ∀ j, j < ω.length → vw ω j ≤ gy (b + tch (nX t) + 4) := fun j hj => Nat.le_trans (hw j hj) (gm _ _ (by omega))
  have gs : ∀ ρ w', w' ≤ w → (ρ ≠ [] → SKb Z gy b ρ w') → ρ.length = π.length - 1 → _ := fun ρ w' h1 h2 h3 => ih (nY t) ρ ω Γ ((nPl t, nX t, Γ.length) :: Δ) w' (b + tch (nX t) + 4) x3 hl dv' hw' (by omega) (fun _ => by omega) (fun e => SKb.mono Zm gm (by omega) ρ _ _ (h2 e) (Nat.le_refl _)) ⟨cu.1.1 (Or.inl c6), fun h => absurd h (by omega)⟩
  refine ⟨fun e => ?_, fun hπ => ?_⟩
  · subst e
    have i0 := (gs [] 0 (Nat.zero_le _) (fun e => absurd rfl e) rfl).1 rfl
    unfold GSk
    rw [if_neg (by omega), if_pos c6]
    show n1 1 + (nz t0 n1 s2 h ω (nX t) + GSk t0 n1 s2 h E f (nY t) [] ω Γ ((nPl t, nX t, Γ.length) :: Δ)) ≤ _
    have k := (dc.2.2.2.1 (mch (nY t)) (mch t) b mp (by omega) (by omega)).1
    rw [show mch t - 4 - mch (nY t) = tch (nX t) by omega, eb] at k
    have t2 := tx.2
    omega
  · cases π with
    | nil => exact absurd rfl hπ
    | cons o ρ =>
      have s := sk hπ
      have sw := s.two hπ
      have k := dc.2.2.2.2.1 (mch (nY t)) (mch t) w b mp (by omega) sw (by omega)
      rw [eb] at k
      unfold GSk
      rw [if_neg (by omega), if_pos c6]
      cases o with
      | some z => exact Nat.zero_le _
      | none =>
        show GSk t0 n1 s2 h E f (nY t) ρ ω Γ ((nPl t, nX t, Γ.length) :: Δ) ≤ _
        by_cases er : ρ = []
        · subst er
          exact Nat.le_trans ((gs [] 0 (Nat.zero_le _) (fun e => absurd rfl e) rfl).1 rfl) k.1
        · exact Nat.le_trans ((gs ρ (w - 2) (by omega) (fun _ => s.2) (by simp)).2 er) k.2
theorem DQo_7 (dh : DHy false a5 t0 fn s2 r0 r1 r2 r3 mt n1 h V gy Z H E D) {f : Nat} (ih : DQso a5 t0 mt n1 s2 h V gy Z E D f) {t : Ty} {π : Stk} {ω : List Nat} {Γ : List Ty} {Δ : List (Nat × Ty × Nat)} {w b : Nat} (c7 : nKd t = 7 ∨ nKd t = 11) (tw : TWf (f + 1) Γ.length (Δ.map (fun a => a.1)) t) (hl : ω.length = Γ.length) (dv : DVn t0 n1 s2 h E (V b) ω Δ) (hw : ∀ j, j < ω.length → vw ω j ≤ gy b) (hmw : mch t + w + b ≤ mt) (h5 : Δ ≠ [] → a5 ≤ b) (w0' : π = [] → w = 0) (sk : π ≠ [] → SKb Z gy b π w) (cu : SDo (f + 1) t Δ b) : GSk t0 n1 s2 h E (f + 1) t π ω Γ Δ ≤ D (mch t) w b := by
  obtain ⟨w0, w5, w6, w7, w8, w9, w10, w11, w12⟩ := tw
  have em := mch_is w0.2.1
  have x1 : TWf f Γ.length (Δ.map (fun a => a.1)) (nX t) := by
    rcases c7 with c | c
    · exact (w7 (Or.inl c)).1
    · exact (w11 c).2
  have em2 : mch t = 2 + (mch (nX t) + mch (nY t)) := by
    rcases c7 with c | c
    · rw [if_neg (by rw [c]; decide), if_neg (by rw [c]; decide), if_neg (by rw [c]; decide), if_neg (by rw [c]; decide)] at em
      exact em
    · rw [if_neg (by rw [c]; decide), if_neg (by rw [c]; decide), if_neg (by rw [c]; decide), if_neg (by rw [c]; decide)] at em
      exact em
  have mp : 1 ≤ mch (nX t) := by
    cases f with
    | zero => exact x1.elim
    | succ f => exact mch_pos x1
  have dc := dh.dc
  have gm := dh.gm
  have Zm := dh.zm
  have k := dc.2.2.1 (mch (nX t)) (mch t) w b mp (by omega) (by omega)
  have s : SKb Z gy b (none :: π) (w + (mch t - mch (nX t))) := by
    refine ⟨by omega, ?_⟩
    cases π with
    | nil => exact trivial
    | cons o ρ => exact SKb.mono Zm gm (Nat.le_refl b) _ w _ (sk (by simp)) (by omega)
  have i0 := (ih (nX t) (none :: π) ω Γ Δ (w + (mch t - mch (nX t))) b x1 hl dv hw (by omega) h5 (fun _ => s) ⟨c7.elim (fun c => (cu.1.2.1 (Or.inl c)).1) (fun c => cu.1.2.2.1 (Or.inr c)), cu.2⟩).2 (by simp)
  have e : GSk t0 n1 s2 h E (f + 1) t π ω Γ Δ = GSk t0 n1 s2 h E f (nX t) (none :: π) ω Γ Δ := by
    conv => lhs; unfold GSk
    rcases c7 with c | c
    · rw [if_neg (by omega), if_neg (by omega), if_pos c]
    · rw [if_neg (by omega), if_neg (by omega), if_neg (by omega), if_neg (by omega), if_neg (by omega), if_neg (by omega), if_pos c]
  rw [e]
  exact Nat.le_trans i0 k
theorem DQo_9 (dh : DHy false a5 t0 fn s2 r0 r1 r2 r3 mt n1 h V gy Z H E D) {f : Nat} (ih : DQso a5 t0 mt n1 s2 h V gy Z E D f) {t : Ty} {π : Stk} {ω : List Nat} {Γ : List Ty} {Δ : List (Nat × Ty × Nat)} {w b : Nat} (c9 : nKd t = 9) (tw : TWf (f + 1) Γ.length (Δ.map (fun a => a.1)) t) (hl : ω.length = Γ.length) (dv : DVn t0 n1 s2 h E (V b) ω Δ) (hw : ∀ j, j < ω.length → vw ω j ≤ gy b) (hmw : mch t + w + b ≤ mt) (h5 : Δ ≠ [] → a5 ≤ b) (w0' : π = [] → w = 0) (sk : π ≠ [] → SKb Z gy b π w) (cu : SDo (f + 1) t Δ b) : GSk t0 n1 s2 h E (f + 1) t π ω Γ Δ ≤ D (mch t) w b := by
  obtain ⟨w0, w5, w6, w7, w8, w9, w10, w11, w12⟩ := tw
  have em := mch_is w0.2.1
  rw [if_neg (by omega), if_neg (by omega), if_pos c9] at em
  obtain ⟨x1, x2, x3⟩ := w9 c9
  have mp : 1 ≤ mch (nX t) := by
    cases f with
    | zero => exact x1.elim
    | succ f => exact mch_pos x1
  have tp := tch_pos x2
  have m34 := dh.1.1
  have gm := dh.gm
  have Zm := dh.zm
  have dc := dh.dc
  have o2 : ok ω.length (nY t) = true := by rw [hl]; exact x2
  have tx := dh.tx (nY t) ω b o2 (by omega) hw
  have g := dh.gr (nY t) ω b o2 (by omega) hw
  have k := dc.2.2.1 (mch (nX t)) (mch t) w b mp (by omega) (by omega)
  have s : SKb Z gy b (some (nz t0 n1 s2 h ω (nY t)) :: π) (w + (mch t - mch (nX t))) := by
    refine ⟨tch (nY t), tp, by omega, ⟨tx.2, g.2⟩, ?_⟩
    cases π with
    | nil => exact trivial
    | cons o ρ => exact SKb.mono Zm gm (Nat.le_refl b) _ w _ (sk (by simp)) (by omega)
  have i0 := (ih (nX t) (some (nz t0 n1 s2 h ω (nY t)) :: π) ω Γ Δ (w + (mch t - mch (nX t))) b x1 hl dv hw (by omega) h5 (fun _ => s) ⟨cu.1.2.2.1 (Or.inl c9), cu.2⟩).2 (by simp)
  have e : GSk t0 n1 s2 h E (f + 1) t π ω Γ Δ = GSk t0 n1 s2 h E f (nX t) (some (nz t0 n1 s2 h ω (nY t)) :: π) ω Γ Δ := by
    conv => lhs; unfold GSk
    rw [if_neg (by omega), if_neg (by omega), if_neg (by omega), if_neg (by omega), if_pos c9]
  rw [e]
  exact Nat.le_trans i0 k
theorem DQo_8 (dh : DHy false a5 t0 fn s2 r0 r1 r2 r3 mt n1 h V gy Z H E D) {f : Nat} (ih : DQso a5 t0 mt n1 s2 h V gy Z E D f) {t : Ty} {π : Stk} {ω : List Nat} {Γ : List Ty} {Δ : List (Nat × Ty × Nat)} {w b : Nat} (c8 : nKd t = 8) (tw : TWf (f + 1) Γ.length (Δ.map (fun a => a.1)) t) (hl : ω.length = Γ.length) (dv : DVn t0 n1 s2 h E (V b) ω Δ) (hw : ∀ j, j < ω.length → vw ω j ≤ gy b) (hmw : mch t + w + b ≤ mt) (h5 : Δ ≠ [] → a5 ≤ b) (sk : π ≠ [] → SKb Z gy b π w) (cu : SDo (f + 1) t Δ b) : (π = [] → GSk t0 n1 s2 h E (f + 1) t [] ω Γ Δ ≤ D (mch t) 0 b) ∧ (π ≠ [] → GSk t0 n1 s2 h E (f + 1) t π ω Γ Δ ≤ D (mch t) w b) := by
  obtain ⟨w0, w5, w6, w7, w8, w9, w10, w11, w12⟩ := tw
  have em := mch_is w0.2.1
  rw [if_neg (by omega), if_pos (Or.inr c8)] at em
  obtain ⟨x1, x2, x3⟩ := w8 c8
  have mp : 1 ≤ mch (nY t) := by
    cases f with
    | zero => exact x3.elim
    | succ f => exact mch_pos x3
  have tp := tch_pos x1
  have m34 := dh.1.1
  have gm := dh.gm
  have Zm := dh.zm
  have dc := dh.dc
  have o1 : ok ω.length (nX t) = true := by rw [hl]; exact x1
  have g := dh.gr (nX t) ω b o1 (by omega) hw
  have eb : b + (mch t - mch (nY t)) = b + tch (nX t) + 4 := by omega
  refine ⟨fun e => ?_, fun hπ => ?_⟩
  · subst e
    have i0 := (ih (nY t) [] (h (nz t0 n1 s2 h ω (nX t)) :: ω) (nX t :: Γ) Δ 0 (b + tch (nX t) + 4) x3 (by rw [List.length_cons, List.length_cons, hl]) ((dv.up (dh.vm _ _ (by omega))).ext _) (vw_gyx gm hw g.1 (by omega)) (by omega) (fun e => by have := h5 e; omega) (fun e => absurd rfl e) ⟨cu.1.1 (Or.inr c8), fun h => absurd h (by omega)⟩).1 rfl
    unfold GSk
    rw [if_neg (by omega), if_neg (by omega), if_neg (by omega), if_pos c8]
    show s2 + GSk t0 n1 s2 h E f (nY t) [] (h (nz t0 n1 s2 h ω (nX t)) :: ω) (nX t :: Γ) Δ ≤ _
    have k := (dc.2.2.2.1 (mch (nY t)) (mch t) b mp (by omega) (by omega)).2
    rw [eb] at k
    omega
  · cases π with
    | nil => exact absurd rfl hπ
    | cons o ρ =>
      have s := sk hπ
      unfold GSk
      rw [if_neg (by omega), if_neg (by omega), if_neg (by omega), if_pos c8]
      cases o with
      | none => exact Nat.zero_le _
      | some z =>
        show GSk t0 n1 s2 h E f (nY t) ρ (hzx h z (nz t0 n1 s2 h ω (nX t)) :: ω) (nX t :: Γ) Δ ≤ _
        obtain ⟨s, s1, s2', s3, s4⟩ := s
        have k := dc.2.2.2.2.2.1 (mch (nY t)) (mch t) w b s mp (by omega) s1 s2' (by omega)
        rw [eb] at k
        have k1 := gm (b + s + 4) (b + tch (nX t) + 4 + s) (by omega)
        have k2 := gm (b + tch (nX t) + 4) (b + tch (nX t) + 4 + s) (by omega)
        have g1 := g.1
        have s32 := s3.2
        have hw' : ∀ j, j < (hzx h z (nz t0 n1 s2 h ω (nX t)) :: ω).length → vw (hzx h z (nz t0 n1 s2 h ω (nX t)) :: ω) j ≤ gy (b + tch (nX t) + 4 + s) := vw_gyx gm hw (by unfold hzx; omega) (by omega)
        have gs : ∀ w', w' ≤ w - (s + 1) → (ρ ≠ [] → SKb Z gy (b + tch (nX t) + 4 + s) ρ w') → _ := fun w' h1 h2 => ih (nY t) ρ (hzx h z (nz t0 n1 s2 h ω (nX t)) :: ω) (nX t :: Γ) Δ w' (b + tch (nX t) + 4 + s) x3 (by rw [List.length_cons, List.length_cons, hl]) ((dv.up (dh.vm _ _ (by omega))).ext _) hw' (by omega) (fun e => by have := h5 e; omega) h2 ⟨cu.1.1 (Or.inr c8), fun h => absurd h (by omega)⟩
        by_cases er : ρ = []
        · subst er
          exact Nat.le_trans ((gs 0 (Nat.zero_le _) (fun e => absurd rfl e)).1 rfl) k.1
        · exact Nat.le_trans ((gs (w - (s + 1)) (Nat.le_refl _) (fun _ => SKb.mono Zm gm (by omega) ρ _ _ s4 (Nat.le_refl _))).2 er) k.2
theorem DQo_10 (dh : DHy false a5 t0 fn s2 r0 r1 r2 r3 mt n1 h V gy Z H E D) {f : Nat} (ih : DQso a5 t0 mt n1 s2 h V gy Z E D f) {t : Ty} {π : Stk} {ω : List Nat} {Γ : List Ty} {Δ : List (Nat × Ty × Nat)} {w b : Nat} (c10 : nKd t = 10) (tw : TWf (f + 1) Γ.length (Δ.map (fun a => a.1)) t) (hl : ω.length = Γ.length) (dv : DVn t0 n1 s2 h E (V b) ω Δ) (hw : ∀ j, j < ω.length → vw ω j ≤ gy b) (hmw : mch t + w + b ≤ mt) (h5 : Δ ≠ [] → a5 ≤ b) (sk : π ≠ [] → SKb Z gy b π w) (cu : SDo (f + 1) t Δ b) : (π = [] → GSk t0 n1 s2 h E (f + 1) t [] ω Γ Δ ≤ D (mch t) 0 b) ∧ (π ≠ [] → GSk t0 n1 s2 h E (f + 1) t π ω Γ Δ ≤ D (mch t) w b) := by
  obtain ⟨w0, w5, w6, w7, w8, w9, w10, w11, w12⟩ := tw
  have em := mch_is w0.2.1
  rw [if_neg (by omega), if_neg (by omega), if_neg (by omega), if_pos c10] at em
  obtain ⟨m8, x1⟩ := w10 c10
  have dc := dh.dc
  have mp : ∀ g, g < 3 → bit (nMk t) g = true → 1 ≤ mch (nP t g) := by
    intro g hg hbg
    have x := x1 g hg hbg
    cases f with
    | zero => exact x.elim
    | succ f => exact mch_pos x
  have m0 : mch (nX t) ≤ mch t ∧ mch (nY t) ≤ mch t ∧ mch (nZ t) ≤ mch t := by omega
  have ml : ∀ g, g < 3 → mch (nP t g) ≤ mch t := by
    intro g hg
    rcases (show g = 0 ∨ g = 1 ∨ g = 2 by omega) with rfl | rfl | rfl
    · exact m0.1
    · exact m0.2.1
    · exact m0.2.2
  refine ⟨fun e => ?_, fun hπ => ?_⟩
  · subst e
    have k : ∀ g, g < 3 → bit (nMk t) g = true → 1 ≤ mch (nP t g) ∧ GSk t0 n1 s2 h E f (nP t g) [] ω Γ Δ ≤ D (mch (nP t g)) 0 b := fun g hg hbg => ⟨mp g hg hbg, (ih (nP t g) [] ω Γ Δ 0 b (x1 g hg hbg) hl dv hw (by have := ml g hg; omega) h5 (fun e => absurd rfl e) ⟨cu.1.2.2.2.1 c10 g hg hbg, cu.2⟩).1 rfl⟩
    unfold GSk
    rw [if_neg (by omega), if_neg (by omega), if_neg (by omega), if_neg (by omega), if_neg (by omega), if_pos c10]
    have hle : (if nMk t = 0 then 2 else 1 + 3 * nlb (nMk t)) + (mch (nX t) + (mch (nY t) + mch (nZ t))) + b ≤ mt := by omega
    have ab : ∀ g, g < 3 → bit (nMk t) g = false → mch (nP t g) = 0 := by
      intro g hg hbg
      rw [w0.2.2.1 g hg (by
        rw [c10]
        show (if bit (nMk t) g = true then 1 else 0) = 0
        rw [hbg]; rfl)]
      rfl
    have fin := DPc_rec dc dh.2.2.1 m8 (k 0 (by decide)) (k 1 (by decide)) (k 2 (by decide)) (ab 0 (by decide)) (ab 1 (by decide)) (ab 2 (by decide)) hle
    rw [em]
    exact fin
  · cases π with
    | nil => exact absurd rfl hπ
    | cons o ρ =>
      have s := sk hπ
      have sw := s.two hπ
      unfold GSk
      rw [if_neg (by omega), if_neg (by omega), if_neg (by omega), if_neg (by omega), if_neg (by omega), if_pos c10]
      cases o with
      | some z => exact Nat.zero_le _
      | none =>
        have four : ∀ k, k < 8 → ∀ g, g < 3 → bit k g = true → 4 ≤ (if k = 0 then 2 else 1 + 3 * nlb k) := by decide
        have m4 : ∀ g, g < 3 → bit (nMk t) g = true → mch (nP t g) + 4 ≤ mch t := by
          intro g hg hbg
          have f4 := four _ m8 g hg hbg
          rcases (show g = 0 ∨ g = 1 ∨ g = 2 by omega) with rfl | rfl | rfl
          · show mch (nX t) + 4 ≤ _; omega
          · show mch (nY t) + 4 ≤ _; omega
          · show mch (nZ t) + 4 ≤ _; omega
        have k : ∀ g, g < 3 → (if bit (nMk t) g = true then GSk t0 n1 s2 h E f (nP t g) ρ ω Γ Δ else 0) ≤ D (mch t) w b := by
          intro g hg
          by_cases hbg : bit (nMk t) g = true
          · rw [if_pos hbg]
            have h4 := m4 g hg hbg
            have kk := dc.2.2.2.2.2.2.1 (mch (nP t g)) (mch t) w b (mp g hg hbg) h4 sw (by omega)
            by_cases er : ρ = []
            · subst er
              exact Nat.le_trans ((ih (nP t g) [] ω Γ Δ 0 b (x1 g hg hbg) hl dv hw (by omega) h5 (fun e => absurd rfl e) ⟨cu.1.2.2.2.1 c10 g hg hbg, cu.2⟩).1 rfl) kk.1
            · exact Nat.le_trans ((ih (nP t g) ρ ω Γ Δ (w - 2) b (x1 g hg hbg) hl dv hw (by omega) h5 (fun _ => s.2) ⟨cu.1.2.2.2.1 c10 g hg hbg, cu.2⟩).2 er) kk.2
          · rw [if_neg hbg]; exact Nat.zero_le _
        exact Nat.max_le.mpr ⟨k 0 (by decide), Nat.max_le.mpr ⟨k 1 (by decide), k 2 (by decide)⟩⟩
theorem DQo_12 (dx : DPo mt D) (dh : DHy false a5 t0 fn s2 r0 r1 r2 r3 mt n1 h V gy Z H E D) {f : Nat} (ih : DQso a5 t0 mt n1 s2 h V gy Z E D f) {t : Ty} {π : Stk} {ω : List Nat} {Γ : List Ty} {Δ : List (Nat × Ty × Nat)} {w b : Nat} (c12 : nKd t = 12) (tw : TWf (f + 1) Γ.length (Δ.map (fun a => a.1)) t) (hl : ω.length = Γ.length) (dv : DVn t0 n1 s2 h E (V b) ω Δ) (hw : ∀ j, j < ω.length → vw ω j ≤ gy b) (hmw : mch t + w + b ≤ mt) (h5 : Δ ≠ [] → a5 ≤ b) (w0' : π = [] → w = 0) (sk : π ≠ [] → SKb Z gy b π w) (cu : SDo (f + 1) t Δ b) : GSk t0 n1 s2 h E (f + 1) t π ω Γ Δ ≤ D (mch t) w b := by
  obtain ⟨w0, w5, w6, w7, w8, w9, w10, w11, w12⟩ := tw
  have em := mch_is w0.2.1
  rw [if_neg (by omega), if_neg (by omega), if_neg (by omega), if_neg (by omega)] at em
  obtain ⟨x1, x2⟩ := w7 (Or.inr c12)
  have mp : ∀ u, TWf f Γ.length (Δ.map (fun a => a.1)) u → 1 ≤ mch u := by
    intro u wu
    cases f with
    | zero => exact wu.elim
    | succ f => exact mch_pos wu
  have p1 := mp _ x1
  have p2 := mp _ x2
  have k := dx (mch (nX t)) (mch (nY t)) (mch t) w b p1 p2 (by omega) (by omega) (fun e4 => by
    refine Classical.byContradiction (fun b5 => ?_)
    have dl := cu.2 (by omega)
    have one : ∀ u, TWf f Γ.length (Δ.map (fun a => a.1)) u → mch u = 1 → nKd u = 5 ∧ ∃ a, (nMk u, a) ∈ Δ := by
      intro u wu hu
      cases f with
      | zero => exact wu.elim
      | succ f =>
        obtain ⟨w0, w5, w6, w7, w8, w9, w10, w11, w12⟩ := wu
        have emu := mch_is w0.2.1
        have kd := w0.1
        have mpu : ∀ sc D v, TWf f D sc v → 1 ≤ mch v := by
          intro sc D v wv
          cases f with
          | zero => exact wv.elim
          | succ f => exact mch_pos wv
        have k5 : nKd u = 5 := by
          refine Classical.byContradiction (fun n5 => ?_)
          rw [if_neg n5] at emu
          by_cases c6 : nKd u = 6 ∨ nKd u = 8
          · rw [if_pos c6] at emu
            omega
          · rw [if_neg c6] at emu
            by_cases c9 : nKd u = 9
            · rw [if_pos c9] at emu
              have := mpu _ _ _ (w9 c9).1
              omega
            · rw [if_neg c9] at emu
              by_cases c10 : nKd u = 10
              · rw [if_pos c10] at emu
                have nl : ∀ m, m < 8 → m = 0 ∨ 1 ≤ nlb m := by
                  intro m hm
                  rcases (show m = 0 ∨ m = 1 ∨ m = 2 ∨ m = 3 ∨ m = 4 ∨ m = 5 ∨ m = 6 ∨ m = 7 by omega) with rfl | rfl | rfl | rfl | rfl | rfl | rfl | rfl <;> decide
                have m8 := (w10 c10).1
                have nl := nl _ m8
                split at emu <;> omega
              · rw [if_neg c10] at emu
                omega
        obtain ⟨a, ha⟩ := dlk_some (w5 k5)
        exact ⟨k5, a, dlk_mem ha⟩
    obtain ⟨k1, a1, m1⟩ := one _ x1 (by omega)
    obtain ⟨k2, a2, m2⟩ := one _ x2 (by omega)
    have e : nMk (nX t) = nMk (nY t) := by
      cases Δ with
      | nil => cases m1
      | cons d Δ =>
        have z : Δ = [] := List.eq_nil_of_length_eq_zero (by rw [List.length_cons] at dl; omega)
        subst z
        have e1 := List.mem_singleton.mp m1
        have e2 := List.mem_singleton.mp m2
        have e3 := e1.trans e2.symm
        injection e3
    exact (cu.1.2.2.2.2 c12) (smW_is.mpr ⟨k1, k2, e⟩))
  have g : ∀ u, TWf f Γ.length (Δ.map (fun a => a.1)) u → mch u ≤ mch t → SDo f u Δ b → GSk t0 n1 s2 h E f u π ω Γ Δ ≤ D (mch u) w b := by
    intro u wu hu cu'
    have i0 := ih u π ω Γ Δ w b wu hl dv hw (by omega) h5 sk cu'
    by_cases e : π = []
    · have e0 := w0' e
      subst e0
      subst e
      exact i0.1 rfl
    · exact i0.2 e
  have g1 := g _ x1 (by omega) ⟨(cu.1.2.1 (Or.inr c12)).1, cu.2⟩
  have g2 := g _ x2 (by omega) ⟨(cu.1.2.1 (Or.inr c12)).2, cu.2⟩
  unfold GSk
  rw [if_neg (by omega), if_neg (by omega), if_neg (by omega), if_neg (by omega), if_neg (by omega), if_neg (by omega), if_neg (by omega)]
  split
  · omega
  · omega
/-- every term -/
theorem DQo_all (dx : DPo mt D) (dh : DHy false a5 t0 fn s2 r0 r1 r2 r3 mt n1 h V gy Z H E D) : ∀ f, DQso a5 t0 mt n1 s2 h V gy Z E D f
  | 0 => fun _ _ _ _ _ _ _ w _ _ _ _ _ _ _ => w.elim
  | f + 1 => by
    have ih := DQo_all dx dh f
    intro t π ω Γ Δ w b tw hl dv hw hmw h5 sk cu
    have kd := tw.1.1
    have both : (∀ w, mch t + w + b ≤ mt → (π = [] → w = 0) → (π ≠ [] → SKb Z gy b π w) → GSk t0 n1 s2 h E (f + 1) t π ω Γ Δ ≤ D (mch t) w b) → (π = [] → GSk t0 n1 s2 h E (f + 1) t [] ω Γ Δ ≤ D (mch t) 0 b) ∧ (π ≠ [] → GSk t0 n1 s2 h E (f + 1) t π ω Γ Δ ≤ D (mch t) w b) := by
      intro k
      refine ⟨fun e => ?_, fun e => k w hmw (fun e' => absurd e' e) sk⟩
      have := k 0 (by omega) (fun _ => rfl) (fun e' => absurd e e')
      rw [e] at this
      exact this
    rcases (show nKd t = 5 ∨ nKd t = 6 ∨ (nKd t = 7 ∨ nKd t = 11) ∨ nKd t = 8 ∨ nKd t = 9 ∨ nKd t = 10 ∨ nKd t = 12 by omega) with c | c | c | c | c | c | c
    · exact DQo_5 dh c tw hl dv hmw h5 sk
    · exact DQo_6 dh ih c tw hl dv hw hmw sk cu
    · exact both (fun w' h1 h2 h3 => DQo_7 dh ih c tw hl dv hw h1 h5 h2 h3 cu)
    · exact DQo_8 dh ih c tw hl dv hw hmw h5 sk cu
    · exact both (fun w' h1 h2 h3 => DQo_9 dh ih c tw hl dv hw h1 h5 h2 h3 cu)
    · exact DQo_10 dh ih c tw hl dv hw hmw h5 sk cu
    · exact both (fun w' h1 h2 h3 => DQo_12 dx dh ih c tw hl dv hw h1 h5 h2 h3 cu)
end PmX3o

def dpto (a5 fn s2 r0 r1 r2 r3 : Nat) (V : Nat → Nat) (Z H : Nat → Nat → Nat) (mt : Nat) : Nat → List (List (List Nat))
  | 0 => []
  | m + 1 => ((List.range (mt - m)).map (fun w => (List.range (mt - m - w)).map (fun b => dcl (nuo (m + 1) b) a5 fn s2 r0 r1 r2 r3 V Z H (m + 1) w b (dget (dpto a5 fn s2 r0 r1 r2 r3 V Z H mt m) m)))) :: dpto a5 fn s2 r0 r1 r2 r3 V Z H mt m
def DTo (a5 fn s2 r0 r1 r2 r3 : Nat) (V : Nat → Nat) (Z H : Nat → Nat → Nat) (mt m w b : Nat) : Nat := dget (dpto a5 fn s2 r0 r1 r2 r3 V Z H mt m) m m w b
section PmX4o
variable {a5 fn s2 r0 r1 r2 r3 mt : Nat} {V : Nat → Nat} {Z H : Nat → Nat → Nat}
theorem dpto_get : ∀ (m i w b : Nat), 1 ≤ i → i ≤ m → dget (dpto a5 fn s2 r0 r1 r2 r3 V Z H mt m) m i w b = DTo a5 fn s2 r0 r1 r2 r3 V Z H mt i w b
  | 0, i, w, b, h1, h2 => by omega
  | m + 1, i, w, b, h1, h2 => by
    by_cases e : i = m + 1
    · subst e; rfl
    · rw [← dpto_get m i w b h1 (by omega)]
      unfold dget
      rw [show m + 1 - i = (m - i) + 1 by omega]
      show ((List.getD (_ :: dpto a5 fn s2 r0 r1 r2 r3 V Z H mt m) ((m - i) + 1) []).getD w []).getD b 0 = _
      rw [List.getD_cons_succ]
theorem DTo_cell {m w b : Nat} (h : m + 1 + w + b ≤ mt) : DTo a5 fn s2 r0 r1 r2 r3 V Z H mt (m + 1) w b = dcl (nuo (m + 1) b) a5 fn s2 r0 r1 r2 r3 V Z H (m + 1) w b (dget (dpto a5 fn s2 r0 r1 r2 r3 V Z H mt m) m) := by
  unfold DTo dget
  rw [show m + 1 - (m + 1) = 0 by omega]
  show ((List.getD (((List.range (mt - m)).map (fun w => (List.range (mt - m - w)).map (fun b => dcl (nuo (m + 1) b) a5 fn s2 r0 r1 r2 r3 V Z H (m + 1) w b (dget (dpto a5 fn s2 r0 r1 r2 r3 V Z H mt m) m)))) :: dpto a5 fn s2 r0 r1 r2 r3 V Z H mt m) 0 []).getD w []).getD b 0 = _
  rw [List.getD_cons_zero, List.getD_eq_getElem?_getD (l := List.map _ _), List.getElem?_map, List.getElem?_range (by omega)]
  show (List.getD ((List.range (mt - m - w)).map (fun b => dcl (nuo (m + 1) b) a5 fn s2 r0 r1 r2 r3 V Z H (m + 1) w b (dget (dpto a5 fn s2 r0 r1 r2 r3 V Z H mt m) m))) b 0) = _
  rw [List.getD_eq_getElem?_getD, List.getElem?_map, List.getElem?_range (by omega)]
  rfl
/-- it is closed -/
theorem DTo_ok : DPc false a5 mt fn s2 r0 r1 r2 r3 V Z H (DTo a5 fn s2 r0 r1 r2 r3 V Z H mt) ∧ DPo mt (DTo a5 fn s2 r0 r1 r2 r3 V Z H mt) := by
  have cell : ∀ {m w b : Nat}, 1 ≤ m → m + w + b ≤ mt → DTo a5 fn s2 r0 r1 r2 r3 V Z H mt m w b = dcl (nuo m b) a5 fn s2 r0 r1 r2 r3 V Z H m w b (dget (dpto a5 fn s2 r0 r1 r2 r3 V Z H mt (m - 1)) (m - 1)) := by
    intro m w b h1 h2
    have := DTo_cell (a5 := a5) (fn := fn) (s2 := s2) (r0 := r0) (r1 := r1) (r2 := r2) (r3 := r3) (V := V) (mt := mt) (Z := Z) (H := H) (m := m - 1) (w := w) (b := b) (by omega)
    rw [show m - 1 + 1 = m by omega] at this
    exact this
  have gt : ∀ {m i w b : Nat}, 1 ≤ i → i < m → DTo a5 fn s2 r0 r1 r2 r3 V Z H mt i w b = dget (dpto a5 fn s2 r0 r1 r2 r3 V Z H mt (m - 1)) (m - 1) i w b := fun h1 h2 => (dpto_get _ _ _ _ h1 (by omega)).symm
  refine ⟨⟨?_, ?_, ?_, ?_, ?_, ?_, ?_, ?_, ?_, ?_, ?_, ?_⟩, ?_⟩
  · intro b h1 h2
    rw [cell (Nat.le_refl _) (by omega)]
    unfold dcl
    rw [show (Nat.beq 1 1 && Nat.ble a5 b) = true by rw [Nat.ble_eq_true_of_le h2]; rfl]
    exact Nat.le_max_left _ _
  · intro w b hw h1 h2
    rw [cell (Nat.le_refl _) (by omega)]
    have wb : Nat.beq w 0 = false := by
      cases w with
      | zero => omega
      | succ w => rfl
    unfold dcl
    rw [show (Nat.beq 1 1 && Nat.ble a5 b) = true by rw [Nat.ble_eq_true_of_le h2]; rfl, wb]
    exact Nat.le_max_left _ _
  · intro i m w b h1 h2 h3
    rw [cell (m := m) (by omega) h3, gt (m := m) h1 (by omega)]
    exact dcl_ops h1 h2
  · intro i m b h1 h2 h3
    rw [cell (m := m) (by omega) (by omega), gt (m := m) (w := 0) h1 (by omega)]
    generalize dget (dpto a5 fn s2 r0 r1 r2 r3 V Z H mt (m - 1)) (m - 1) = D
    have k := mxr_le (k := m - 5) (f := fun i => max (fn + (Z b (m - 4 - (i + 1)) + D (i + 1) 0 (b + (m - (i + 1))))) (s2 + D (i + 1) 0 (b + (m - (i + 1))))) (i := i - 1) (by omega)
    simp only [Nat.sub_add_cancel h1] at k
    exact ⟨dcl_z (by unfold dcl0; exact le_mx (Or.inr (le_mx (Or.inl (Nat.le_trans (Nat.le_max_left _ _) k))))), dcl_z (by unfold dcl0; exact le_mx (Or.inr (le_mx (Or.inl (Nat.le_trans (Nat.le_max_right _ _) k)))))⟩
  · intro i m w b h1 h2 h3 h4
    rw [cell (m := m) (by omega) h4, gt (m := m) (w := 0) h1 (by omega), gt (m := m) (w := w - 2) h1 (by omega)]
    generalize dget (dpto a5 fn s2 r0 r1 r2 r3 V Z H mt (m - 1)) (m - 1) = D
    have k := mxr_le (k := m - 5) (f := fun i => max (max (D (i + 1) 0 (b + (m - (i + 1)))) (D (i + 1) (w - 2) (b + (m - (i + 1))))) (mxr (w - 1) (fun s => max (D (i + 1) 0 (b + (m - (i + 1)) + (s + 1))) (D (i + 1) (w - (s + 1 + 1)) (b + (m - (i + 1)) + (s + 1)))))) (i := i - 1) (by omega)
    simp only [Nat.sub_add_cancel h1] at k
    exact ⟨dcl_s h3 (by unfold dcl1; exact le_mx (Or.inr (Nat.le_trans (le_mx (Or.inl (Nat.le_max_left _ _))) k))), dcl_s h3 (by unfold dcl1; exact le_mx (Or.inr (Nat.le_trans (le_mx (Or.inl (Nat.le_max_right _ _))) k)))⟩
  · intro i m w b s h1 h2 h3 h4 h5
    rw [cell (m := m) (by omega) h5, gt (m := m) (w := 0) h1 (by omega), gt (m := m) (w := w - (s + 1)) h1 (by omega)]
    generalize dget (dpto a5 fn s2 r0 r1 r2 r3 V Z H mt (m - 1)) (m - 1) = D
    have k := mxr_le (k := m - 5) (f := fun i => max (max (D (i + 1) 0 (b + (m - (i + 1)))) (D (i + 1) (w - 2) (b + (m - (i + 1))))) (mxr (w - 1) (fun s => max (D (i + 1) 0 (b + (m - (i + 1)) + (s + 1))) (D (i + 1) (w - (s + 1 + 1)) (b + (m - (i + 1)) + (s + 1)))))) (i := i - 1) (by omega)
    simp only [Nat.sub_add_cancel h1] at k
    have k2 := mxr_le (k := w - 1) (f := fun s => max (D i 0 (b + (m - i) + (s + 1))) (D i (w - (s + 1 + 1)) (b + (m - i) + (s + 1)))) (i := s - 1) (by omega)
    simp only [Nat.sub_add_cancel h3] at k2
    exact ⟨dcl_s (by omega) (by unfold dcl1; exact le_mx (Or.inr (Nat.le_trans (le_mx (Or.inr (Nat.le_trans (Nat.le_max_left _ _) k2))) k))), dcl_s (by omega) (by unfold dcl1; exact le_mx (Or.inr (Nat.le_trans (le_mx (Or.inr (Nat.le_trans (Nat.le_max_right _ _) k2))) k)))⟩
  · intro i m w b h1 h2 h3 h4
    rw [cell (m := m) (by omega) h4, gt (m := m) (w := 0) h1 (by omega), gt (m := m) (w := w - 2) h1 (by omega)]
    generalize dget (dpto a5 fn s2 r0 r1 r2 r3 V Z H mt (m - 1)) (m - 1) = D
    have k := mxr_le (k := m - 4) (f := fun i => max (D (i + 1) 0 b) (D (i + 1) (w - 2) b)) (i := i - 1) (by omega)
    simp only [Nat.sub_add_cancel h1] at k
    exact ⟨dcl_s h3 (by unfold dcl1; exact le_mx (Or.inl (Nat.le_trans (Nat.le_max_left _ _) k))), dcl_s h3 (by unfold dcl1; exact le_mx (Or.inl (Nat.le_trans (Nat.le_max_right _ _) k)))⟩
  · intro b h2
    rw [cell (m := 2) (by omega) (by omega)]
    exact dcl_z (by unfold dcl0; exact Nat.le_max_left _ _)
  · intro i m b h1 h2 h3
    rw [cell (m := m) (by omega) (by omega), gt (m := m) (w := 0) h1 (by omega)]
    refine dcl_z ?_
    unfold dcl0
    refine le_mx (Or.inr (le_mx (Or.inr (le_mx (Or.inl ?_)))))
    rw [if_pos (Nat.ble_eq_true_of_le (show 5 ≤ m by omega)), show m - 4 = i by omega]
    exact Nat.le_refl _
  · intro i j m b h1 h2 h3 h4
    rw [cell (m := m) (by omega) (by omega), gt (m := m) (w := 0) h1 (by omega), gt (m := m) (w := 0) h2 (by omega)]
    generalize dget (dpto a5 fn s2 r0 r1 r2 r3 V Z H mt (m - 1)) (m - 1) = D
    have k := mxr_le (k := m - 8) (f := fun i => r2 + (D (i + 1) 0 b + D (m - 7 - (i + 1)) 0 b)) (i := i - 1) (by omega)
    simp only [Nat.sub_add_cancel h1] at k
    rw [show m - 7 - i = j by omega] at k
    exact dcl_z (by unfold dcl0; exact le_mx (Or.inr (le_mx (Or.inr (le_mx (Or.inr (le_mx (Or.inl k))))))))
  · intro i j k m b h1 h2 h3 h4 h5
    rw [cell (m := m) (by omega) (by omega), gt (m := m) (w := 0) h1 (by omega), gt (m := m) (w := 0) h2 (by omega), gt (m := m) (w := 0) h3 (by omega)]
    generalize dget (dpto a5 fn s2 r0 r1 r2 r3 V Z H mt (m - 1)) (m - 1) = D
    have q := mxr_le (k := m - 12) (f := fun i => mxr (m - 12 - i) (fun j => r3 + (D (i + 1) 0 b + (D (j + 1) 0 b + D (m - 10 - (i + 1) - (j + 1)) 0 b)))) (i := i - 1) (by omega)
    simp only [Nat.sub_add_cancel h1] at q
    have q2 := mxr_le (k := m - 12 - (i - 1)) (f := fun j => r3 + (D i 0 b + (D (j + 1) 0 b + D (m - 10 - i - (j + 1)) 0 b))) (i := j - 1) (by omega)
    simp only [Nat.sub_add_cancel h2] at q2
    rw [show m - 10 - i - j = k by omega] at q2
    exact dcl_z (by unfold dcl0; exact le_mx (Or.inr (le_mx (Or.inr (le_mx (Or.inr (le_mx (Or.inr (Nat.le_trans q2 q)))))))))
  · intro i j m w b h1 h2 h3 h4 h5
    rw [cell (m := m) (by omega) h4, gt (m := m) (w := w) h1 (by omega), gt (m := m) (w := w) h2 (by omega)]
    exact dcl_or h1 h2 h3 (Or.inr (h5.resolve_left Bool.false_ne_true))
  · intro i j m w b h1 h2 h3 h4 h5
    rw [cell (m := m) (by omega) h4, gt (m := m) (w := w) h1 (by omega), gt (m := m) (w := w) h2 (by omega)]
    refine dcl_or h1 h2 h3 (Or.inl ?_)
    unfold nuo
    cases e : Nat.beq m 4 with
    | false => rfl
    | true =>
      have := h5 (Nat.eq_of_beq_eq_true e)
      cases e2 : Nat.ble b 4 with
      | false => rfl
      | true => exact absurd (Nat.le_of_ble_eq_true e2) (by omega)
end PmX4o

def dpDo (F W : FrT) (a5 hv fn s2 r0 r1 r2 r3 E0 p wB ob k y cd m : Nat) : Nat := DTo a5 fn s2 r0 r1 r2 r3 (Vbw F W y cd) (Zbw F W y) (fun b => Hdw (X7w F W y cd m) (ebw F W hv y cd m E0 p wB ob) (e2w F W hv y cd m k) (Zbw F W y b)) m m 0 0
section PmX6o
variable {t0 fn s2 hv r0 r1 r2 r3 x0 : Nat} {n1 h : Nat → Nat} {P Q : List (List Nat)} {F G W : FrT} {X : List Nat} {B C β' : Ty} {Γ0 : List Ty}
/-- the numbers are as asked -/
theorem dh_oko (hn : NC t0 n1 s2 h) (hm : ∀ y y', y ≤ y' → h y ≤ h y') (T : TBs 58 t0 fn s2 hv r0 r1 r2 r3 x0 n1 h P Q F G X) (hFm : frm F = true) (hgr : fgc F W hv = true) (hWm : fgm W = true) (hW1 : fg1s W = true) (hW : (1, 0) ∈ frg W 0) (H1 : ∀ y, h y ≤ hv + max 1 y) {a5 ob cd wB y E0 p k mt : Nat} (m30 : mt ≤ 30) (a55 : a5 ≤ 5) (y01 : x0 ≤ y) : DHy false a5 t0 fn s2 r0 r1 r2 r3 mt n1 h (Vbw F W y cd) (gyw W y) (Zbw F W y) (fun b => Hdw (X7w F W y cd mt) (ebw F W hv y cd mt E0 p wB ob) (e2w F W hv y cd mt k) (Zbw F W y b)) (E2 (X7w F W y cd mt) (ebw F W hv y cd mt E0 p wB ob) (e2w F W hv y cd mt k)) (DTo a5 fn s2 r0 r1 r2 r3 (Vbw F W y cd) (Zbw F W y) (fun b => Hdw (X7w F W y cd mt) (ebw F W hv y cd mt E0 p wB ob) (e2w F W hv y cd mt k) (Zbw F W y b)) mt) := by
  have yy : ∀ b, y ≤ gyw W y b := by
    intro b
    have a0 := Zx_mem (x := y) (frg W 0) (1, 0) hW
    simp only at a0
    have a1 : y ≤ gyw W y 0 := by
      show y ≤ (frg W 0).foldr (fun u a => max (u.2 + u.1 * y) a) 0
      omega
    exact Nat.le_trans a1 (gyw_mono hWm (Nat.zero_le _))
  refine ⟨⟨m30, a55⟩, T.2.2.2.1, T.2.2.2.2.1, DTo_ok.1, fun b π w hπ sk hw' => E2_w ebw_mono e2w_mono (fun s s' hs => Zbw_mono hWm hFm (Nat.le_refl _) hs) π w sk, fun A ω b o ht hw' => ⟨?_, ?_⟩, fun b j j1 hj hb => ?_, fun b b' hb => ?_, fun b b' hb => gyw_mono hWm hb, fun b b' s s' hb hs => Zbw_mono hWm hFm hb hs, fun A ω b o hb hw' => ?_⟩
  · have tp := tch_pos o
    have c1 : Zx F (gyw W y b) (mt - 3 - b) ≤ X7w F W y cd mt := by
      have := mxr_le (k := mt - 2) (f := fun b => Zx F (gyw W y b) (mt - 3 - b)) (i := b) (by omega)
      unfold X7w
      exact le_mx (Or.inr (le_mx (Or.inr this)))
    have c2 : ∀ z, cpw F hv (gyw W y b) (mt - b) z ≤ cpo F W hv y cd mt z := by
      intro z
      have := mxr_le (k := mt - 2) (f := fun b => cpw F hv (gyw W y b) (mt - b) z) (i := b) (by omega)
      unfold cpo
      exact le_mx (Or.inr this)
    exact txt_cp hm T hFm H1 ebw_mono e2w_mono (Nat.le_trans y01 (yy b)) (show mt - b ≤ 56 by omega) (by rw [show mt - b - 3 = mt - 3 - b by omega]; exact c1) (fun z => ⟨by unfold ebw; exact le_mx (Or.inr (c2 z)), by unfold e2w; exact le_mx (Or.inr (c2 z))⟩) o (by omega) hw'
  · show _ ≤ Zx F (gyw W y b) (min (tch A + 2) 58)
    rw [Nat.min_eq_left (by omega)]
    exact Zx_le T o (by omega) (Nat.le_trans y01 (yy b)) hw'
  · unfold Vbw
    rw [if_pos (Nat.ble_eq_true_of_le (show 5 ≤ b by omega))]
    exact le_mx (Or.inr (Zbw_mono hWm hFm (Nat.le_refl _) (by omega)))
  · unfold Vbw
    by_cases c : 5 ≤ b
    · rw [if_pos (Nat.ble_eq_true_of_le c), if_pos (Nat.ble_eq_true_of_le (show 5 ≤ b' by omega))]
      have := Zbw_mono hWm hFm (y := y) hb (show b - 4 ≤ b' - 4 by omega)
      omega
    · have e : Nat.ble 5 b = false := by
        cases e : Nat.ble 5 b with
        | false => rfl
        | true => exact absurd (Nat.le_of_ble_eq_true e) c
      rw [e]
      exact Nat.max_le.mpr ⟨Nat.le_max_left _ _, Nat.zero_le _⟩
  · have eb : min b 38 = b := by omega
    have eb2 : min (b + tch A + 4) 38 = b + tch A + 4 := by omega
    obtain ⟨e, e0, e1, e2⟩ := fg1s_at hW1 (r := b) (by omega) y
    obtain ⟨u, u0, u1, u2, u3, u4⟩ := gr_step hn T hgr y01 e0 e1 o (fun j hj => by
      have := hw' j hj
      unfold gyw at this
      rw [eb, e2] at this
      exact this) hb
    have u5 : u.2 + u.1 * y ≤ gyw W y (b + tch A + 4) := by
      unfold gyw
      rw [eb2]
      exact Zx_mem (frg W (b + tch A + 4)) u u0
    exact ⟨Nat.le_trans u3 u5, Nat.le_trans u4 u5⟩
end PmX6o

section PmZ1o
variable {t0 fn s2 hv r0 r1 r2 r3 x0 : Nat} {n1 h : Nat → Nat} {P Q : List (List Nat)} {F G W : FrT} {X : List Nat}
theorem gen_fin6o (hn : NC t0 n1 s2 h) (hm : ∀ y y', y ≤ y' → h y ≤ h y') (T : TBs 58 t0 fn s2 hv r0 r1 r2 r3 x0 n1 h P Q F G X) (hFm : frm F = true) (hgr : fgc F W hv = true) (hWm : fgm W = true) (hW1 : fg1s W = true) (hW : (1, 0) ∈ frg W 0) (H1 : ∀ y, h y ≤ hv + max 1 y) {f : Nat} {t S : Ty} {Γ : List Ty} {ω : List Nat} {Δ : List (Nat × Ty × Nat)} {a5 ob cd wB Bd y E0 p k : Nat} (w : TWf f Γ.length (Δ.map (fun a => a.1)) t) (he : TE Γ Δ) (l1 : ω.length = Γ.length) (cu : TNo f t) (hΔ1 : Δ.length ≤ 1) (hm30 : mch t ≤ 30) (hdc : dch Δ ≤ cd) (hcd : cd ≤ 56) (a55 : a5 ≤ 5) (ha5 : Δ ≠ [] → a5 = 0) (y01 : x0 ≤ y) (hω2 : ∀ j, j < ω.length → vw ω j ≤ y) (hk1 : HEk t0 n1 s2 h (E2 (X7w F W y cd (mch t)) (ebw F W hv y cd (mch t) E0 p wB ob) (e2w F W hv y cd (mch t) k)) Γ ω) (go : ∀ E Z, AQh t0 n1 s2 h E Z f t [] ω → HEk t0 n1 s2 h E Γ ω → GOk t0 n1 s2 h E f t [] ω Γ Δ) (R1 : dpDo F W a5 hv fn s2 r0 r1 r2 r3 E0 p wB ob k y cd (mch t) ≤ Bd) (hS : tyF f t Γ Δ = .inr S) : nz t0 n1 s2 h ω S ≤ Bd := by
  have dh := dh_oko (a5 := a5) (ob := ob) (cd := cd) (wB := wB) (y := y) (E0 := E0) (p := p) (k := k) (mt := mch t) hn hm T hFm hgr hWm hW1 hW H1 hm30 a55 y01
  have gy0 : y ≤ gyw W y 0 := by
    have a0 := Zx_mem (x := y) (frg W 0) (1, 0) hW
    simp only at a0
    show y ≤ (frg W 0).foldr (fun u a => max (u.2 + u.1 * y) a) 0
    omega
  have aq := DQa dh f t [] ω Γ _ 0 0 w l1 (fun j hj => Nat.le_trans (hω2 j hj) gy0) (by omega) (fun e => absurd rfl e)
  have dv : DVn t0 n1 s2 h (E2 (X7w F W y cd (mch t)) (ebw F W hv y cd (mch t) E0 p wB ob) (e2w F W hv y cd (mch t) k)) (Vbw F W y cd 0) ω Δ := by
    intro a ha
    obtain ⟨a1, a2, a3⟩ := he.2.2 a ha
    have ad := dch_mem ha
    have al : a.2.2 ≤ ω.length := by rw [l1]; exact a1
    have ll : (ω.drop (ω.length - a.2.2)).length = a.2.2 := by rw [List.length_drop]; omega
    have vv : ∀ j, j < (ω.drop (ω.length - a.2.2)).length → vw (ω.drop (ω.length - a.2.2)) j ≤ y := by
      intro j hj
      have q := vw_app_lo (ω.take (ω.length - a.2.2)) _ j hj
      rw [List.take_append_drop] at q
      rw [← q]
      exact hω2 j (by rw [ll] at hj; omega)
    refine ⟨ω.take (ω.length - a.2.2), ω.drop (ω.length - a.2.2), (List.take_append_drop _ _).symm, ll, by rw [ll]; exact a2, ?_, ?_⟩
    · have q1 := Zx_le T (x := y) (A := a.2.1) (by rw [ll]; exact a2) (by omega) y01 vv
      have q2 := Zx_ms hFm (x := y) (s := tch a.2.1 + 2) (s' := cd - 2) (by omega) (by omega)
      exact Nat.le_trans q1 (Nat.le_trans q2 (Nat.le_max_left _ _))
    · have c1 : Zx F y (cd - 2 - 3) ≤ X7w F W y cd (mch t) := by
        unfold X7w
        exact le_mx (Or.inr (Nat.le_max_left _ _))
      have c2 : ∀ z, cpw F hv y (cd - 2) z ≤ cpo F W hv y cd (mch t) z := fun z => Nat.le_max_left _ _
      exact txt_cp hm T hFm H1 ebw_mono e2w_mono y01 (show cd - 2 ≤ 56 by omega) c1 (fun z => ⟨by unfold ebw; exact le_mx (Or.inr (c2 z)), by unfold e2w; exact le_mx (Or.inr (c2 z))⟩) (by rw [ll]; exact a2) (by omega) vv
  have q1 := tyF_vz hm f t Γ Δ S [] ω w he hk1 (go _ _ aq hk1) hS
  rw [vz_no (tyF_ok f t _ Δ S w he hS).1] at q1
  have q2 := (DQo_all DTo_ok.2 dh f t [] ω Γ Δ 0 0 w l1 dv (fun j hj => Nat.le_trans (hω2 j hj) gy0) (by omega) (fun e => by have := ha5 e; omega) (fun e => absurd rfl e) ⟨cu, fun _ => hΔ1⟩).1 rfl
  exact Nat.le_trans q1 (Nat.le_trans q2 R1)
end PmZ1o
