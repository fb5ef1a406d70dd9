/-! ANY TERM IN THE TABLE: what its type is worth. -/
section PmX3
variable {a5 t0 fn s2 r0 r1 r2 r3 V0 mt Yg : Nat} {n1 h Z H gy : Nat → Nat} {E : Stk → Nat} {D : Nat → Nat → Nat}
/-- the statement, by fuel -/
def DQs (a5 t0 V0 mt : Nat) (n1 : Nat → Nat) (s2 : Nat) (h Z gy : Nat → Nat) (E : Stk → Nat) (D : Nat → Nat → Nat) (f : Nat) : Prop := ∀ (t : Ty) (π : Stk) (ω : List Nat) (Γ : List Ty) (Δ : List (Nat × Ty × Nat)) (w r q : Nat), TWf f Γ.length (Δ.map (fun a => a.1)) t → ω.length = Γ.length → DVn t0 n1 s2 h E V0 ω Δ → (∀ j, j < ω.length → vw ω j ≤ gy r) → zm π ≤ gy q → r + mch t ≤ mt → q + mch t ≤ mt + 3 → mch t + w ≤ mt → (Δ ≠ [] → mch t + w + a5 ≤ mt) → (π ≠ [] → SKw Z π w) → (π = [] → GSk t0 n1 s2 h E f t [] ω Γ Δ ≤ D (mch t) 0) ∧ (π ≠ [] → GSk t0 n1 s2 h E f t π ω Γ Δ ≤ D (mch t) w)
theorem DQ_5 (dh : DHy a5 t0 fn s2 r0 r1 r2 r3 V0 mt Yg n1 h Z H gy E D) {f : Nat} {t : Ty} {π : Stk} {ω : List Nat} {Γ : List Ty} {Δ : List (Nat × Ty × Nat)} {w : Nat} (c5 : nKd t = 5) (tw : TWf (f + 1) Γ.length (Δ.map (fun a => a.1)) t) (hl : ω.length = Γ.length) (dv : DVn t0 n1 s2 h E V0 ω Δ) (hmw : mch t + w ≤ mt) (h5 : Δ ≠ [] → mch t + w + a5 ≤ mt) (sk : π ≠ [] → SKw Z π w) : (π = [] → GSk t0 n1 s2 h E (f + 1) t [] ω Γ Δ ≤ D (mch t) 0) ∧ (π ≠ [] → GSk t0 n1 s2 h E (f + 1) t π ω Γ Δ ≤ D (mch t) w) := by
  obtain ⟨-, -, -, dc, dE, -, -, -, -, -⟩ := dh
  obtain ⟨w0, w5, -⟩ := tw
  have em := mch_is w0.2.1
  rw [if_pos c5] at em
  obtain ⟨a, ha⟩ := dlk_some (w5 c5)
  have mem := dlk_mem ha
  have h5' := h5 (fun e => by rw [e] at mem; cases mem)
  obtain ⟨ν, ω1, e1, e2, e3, e4, e5⟩ := dv (nMk t, a) mem
  have e2 : ω1.length = a.2 := e2
  have el : Γ.length - a.2 = ν.length := by rw [← hl, e1, List.length_append, e2]; omega
  have key : ∀ π, GSk t0 n1 s2 h E (f + 1) t π ω Γ Δ = vz t0 n1 s2 h E a.1 π ω1 := by
    intro π
    unfold GSk
    rw [if_pos c5, ha]
    show vz t0 n1 s2 h E (lft a.2 (Γ.length - a.2) a.1) π ω = _
    have := vz_lft (t0 := t0) (n1 := n1) (s2 := s2) (h := h) (E := E) ν ω1 _ a.1 π [] (Nat.le_refl _) (by simpa using e3)
    rw [List.nil_append, List.nil_append, e2] at this
    rw [el, e1, this]
  rw [em]
  refine ⟨fun _ => ?_, fun hπ => ?_⟩
  · rw [key, vz_no e3]
    exact Nat.le_trans e4 dc.1
  · rw [key]
    have s := sk hπ
    have sw := s.two hπ
    exact Nat.le_trans (e5 π hπ) (Nat.le_trans (dE π w hπ s (by omega)) (dc.2.1 w sw (by omega)))
theorem DQ_6 (dh : DHy a5 t0 fn s2 r0 r1 r2 r3 V0 mt Yg n1 h Z H gy E D) {f : Nat} (ih : DQs a5 t0 V0 mt n1 s2 h Z gy E D f) {t : Ty} {π : Stk} {ω : List Nat} {Γ : List Ty} {Δ : List (Nat × Ty × Nat)} {w r q : Nat} (c6 : nKd t = 6) (tw : TWf (f + 1) Γ.length (Δ.map (fun a => a.1)) t) (hl : ω.length = Γ.length) (dv : DVn t0 n1 s2 h E V0 ω Δ) (hw : ∀ j, j < ω.length → vw ω j ≤ gy r) (hz : zm π ≤ gy q) (hr : r + mch t ≤ mt) (hq : q + mch t ≤ mt + 3) (hmw : mch t + w ≤ mt) (h5 : Δ ≠ [] → mch t + w + a5 ≤ mt) (sk : π ≠ [] → SKw Z π w) : (π = [] → GSk t0 n1 s2 h E (f + 1) t [] ω Γ Δ ≤ D (mch t) 0) ∧ (π ≠ [] → GSk t0 n1 s2 h E (f + 1) t π ω Γ Δ ≤ D (mch t) w) := by
  obtain ⟨w0, w5, w6, w7, w8, w9, w10, w11, w12⟩ := tw
  have em := mch_is w0.2.1
  rw [if_neg (by omega), if_pos (Or.inl c6)] at em
  obtain ⟨-, x1, x2, x3⟩ := w6 c6
  have mp : 1 ≤ mch (nY t) := by
    cases f with
    | zero => exact x3.elim
    | succ f => exact mch_pos x3
  have tp := tch_pos x1
  have o1 : ok ω.length (nX t) = true := by rw [hl]; exact x1
  have tx := dh.txt o1 (by omega) (by omega) hw
  have dc := dh.2.2.2.1
  have dV := dh.2.2.2.2.2.2.1
  have hn1 := dh.2.1
  have dv' : DVn t0 n1 s2 h E V0 ω ((nPl t, nX t, Γ.length) :: Δ) := by
    intro a ha
    rcases List.mem_cons.mp ha with e | e
    · rw [e]
      exact ⟨[], ω, rfl, hl, o1, Nat.le_trans tx.2 (dV _ (by omega)), tx.1⟩
    · exact dv a e
  have a55 := dh.1.2
  have gs : ∀ ρ w', zm ρ ≤ gy q → w' ≤ w → (ρ ≠ [] → SKw Z ρ w') → _ := fun ρ w' hz' h1 h2 => ih (nY t) ρ ω Γ ((nPl t, nX t, Γ.length) :: Δ) w' r q x3 hl dv' hw hz' (by omega) (by omega) (by omega) (fun _ => by omega) h2
  refine ⟨fun e => ?_, fun hπ => ?_⟩
  · subst e
    have i0 := (gs [] 0 (Nat.zero_le _) (by omega) (fun e => absurd rfl e)).1 rfl
    unfold GSk
    rw [if_neg (by omega), if_pos c6]
    show n1 1 + (nz t0 n1 s2 h ω (nX t) + GSk t0 n1 s2 h E f (nY t) [] ω Γ ((nPl t, nX t, Γ.length) :: Δ)) ≤ _
    have k := (dc.2.2.2.1 (mch (nY t)) (mch t) mp (by omega) (by omega)).1
    rw [show mch t - 4 - mch (nY t) = tch (nX t) by omega] at k
    have t2 := tx.2
    omega
  · cases π with
    | nil => exact absurd rfl hπ
    | cons o ρ =>
      have s := sk hπ
      have sw := s.two hπ
      have k := dc.2.2.2.2.1 (mch (nY t)) (mch t) w mp (by omega) sw (by omega)
      unfold GSk
      rw [if_neg (by omega), if_pos c6]
      cases o with
      | some z => exact Nat.zero_le _
      | none =>
        show GSk t0 n1 s2 h E f (nY t) ρ ω Γ ((nPl t, nX t, Γ.length) :: Δ) ≤ _
        by_cases er : ρ = []
        · subst er
          exact Nat.le_trans ((gs [] 0 (Nat.zero_le _) (by omega) (fun e => absurd rfl e)).1 rfl) k.1
        · exact Nat.le_trans ((gs ρ (w - 2) hz (by omega) (fun _ => s.2)).2 er) k.2
theorem DQ_7 (dh : DHy a5 t0 fn s2 r0 r1 r2 r3 V0 mt Yg n1 h Z H gy E D) {f : Nat} (ih : DQs a5 t0 V0 mt n1 s2 h Z gy E D f) {t : Ty} {π : Stk} {ω : List Nat} {Γ : List Ty} {Δ : List (Nat × Ty × Nat)} {w r q : Nat} (c7 : nKd t = 7 ∨ nKd t = 11) (tw : TWf (f + 1) Γ.length (Δ.map (fun a => a.1)) t) (hl : ω.length = Γ.length) (dv : DVn t0 n1 s2 h E V0 ω Δ) (hw : ∀ j, j < ω.length → vw ω j ≤ gy r) (hz : zm π ≤ gy q) (hr : r + mch t ≤ mt) (hq : q + mch t ≤ mt + 3) (hmw : mch t + w ≤ mt) (h5 : Δ ≠ [] → mch t + w + a5 ≤ mt) (w0' : π = [] → w = 0) (sk : π ≠ [] → SKw Z π w) : GSk t0 n1 s2 h E (f + 1) t π ω Γ Δ ≤ D (mch t) w := by
  obtain ⟨w0, w5, w6, w7, w8, w9, w10, w11, w12⟩ := tw
  have em := mch_is w0.2.1
  have x1 : TWf f Γ.length (Δ.map (fun a => a.1)) (nX t) := by
    rcases c7 with c | c
    · exact (w7 (Or.inl c)).1
    · exact (w11 c).2
  have em2 : mch t = 2 + (mch (nX t) + mch (nY t)) := by
    rcases c7 with c | c
    · rw [if_neg (by rw [c]; decide), if_neg (by rw [c]; decide), if_neg (by rw [c]; decide), if_neg (by rw [c]; decide)] at em
      exact em
    · rw [if_neg (by rw [c]; decide), if_neg (by rw [c]; decide), if_neg (by rw [c]; decide), if_neg (by rw [c]; decide)] at em
      exact em
  have mp : 1 ≤ mch (nX t) := by
    cases f with
    | zero => exact x1.elim
    | succ f => exact mch_pos x1
  have dc := dh.2.2.2.1
  have k := dc.2.2.1 (mch (nX t)) (mch t) w mp (by omega) (by omega)
  have s : SKw Z (none :: π) (w + (mch t - mch (nX t))) := by
    refine ⟨by omega, ?_⟩
    cases π with
    | nil => exact trivial
    | cons o ρ => exact SKw.mono _ w _ (sk (by simp)) (by omega)
  have i0 := (ih (nX t) (none :: π) ω Γ Δ (w + (mch t - mch (nX t))) r q x1 hl dv hw hz (by omega) (by omega) (by omega) (fun e => by have := h5 e; omega) (fun _ => s)).2 (by simp)
  have e : GSk t0 n1 s2 h E (f + 1) t π ω Γ Δ = GSk t0 n1 s2 h E f (nX t) (none :: π) ω Γ Δ := by
    conv => lhs; unfold GSk
    rcases c7 with c | c
    · rw [if_neg (by omega), if_neg (by omega), if_pos c]
    · rw [if_neg (by omega), if_neg (by omega), if_neg (by omega), if_neg (by omega), if_neg (by omega), if_neg (by omega), if_pos c]
  rw [e]
  exact Nat.le_trans i0 k
theorem DQ_9 (dh : DHy a5 t0 fn s2 r0 r1 r2 r3 V0 mt Yg n1 h Z H gy E D) {f : Nat} (ih : DQs a5 t0 V0 mt n1 s2 h Z gy E D f) {t : Ty} {π : Stk} {ω : List Nat} {Γ : List Ty} {Δ : List (Nat × Ty × Nat)} {w r q : Nat} (c9 : nKd t = 9) (tw : TWf (f + 1) Γ.length (Δ.map (fun a => a.1)) t) (hl : ω.length = Γ.length) (dv : DVn t0 n1 s2 h E V0 ω Δ) (hw : ∀ j, j < ω.length → vw ω j ≤ gy r) (hz : zm π ≤ gy q) (hr : r + mch t ≤ mt) (hq : q + mch t ≤ mt + 3) (hmw : mch t + w ≤ mt) (h5 : Δ ≠ [] → mch t + w + a5 ≤ mt) (w0' : π = [] → w = 0) (sk : π ≠ [] → SKw Z π w) : GSk t0 n1 s2 h E (f + 1) t π ω Γ Δ ≤ D (mch t) w := by
  obtain ⟨w0, w5, w6, w7, w8, w9, w10, w11, w12⟩ := tw
  have em := mch_is w0.2.1
  rw [if_neg (by omega), if_neg (by omega), if_pos c9] at em
  obtain ⟨x1, x2, x3⟩ := w9 c9
  have mp : 1 ≤ mch (nX t) := by
    cases f with
    | zero => exact x1.elim
    | succ f => exact mch_pos x1
  have tp := tch_pos x2
  have m34 := dh.1.1
  have dm := dh.2.2.2.2.2.2.2.1
  have dg := dh.2.2.2.2.2.2.2.2.1
  have dc := dh.2.2.2.1
  have o2 : ok ω.length (nY t) = true := by rw [hl]; exact x2
  have tx := dh.txt o2 (by omega) (by omega) hw
  have g := dg (nY t) ω r o2 (by omega) hw
  have k := dc.2.2.1 (mch (nX t)) (mch t) w mp (by omega) (by omega)
  have s : SKw Z (some (nz t0 n1 s2 h ω (nY t)) :: π) (w + (mch t - mch (nX t))) := by
    refine ⟨tch (nY t), tp, by omega, tx.2, ?_⟩
    cases π with
    | nil => exact trivial
    | cons o ρ => exact SKw.mono _ w _ (sk (by simp)) (by omega)
  have k1 := dm q (max q (r + tch (nY t) + 4)) (Nat.le_max_left _ _) (by omega)
  have k2 := dm (r + tch (nY t) + 4) (max q (r + tch (nY t) + 4)) (Nat.le_max_right _ _) (by omega)
  have i0 := (ih (nX t) (some (nz t0 n1 s2 h ω (nY t)) :: π) ω Γ Δ (w + (mch t - mch (nX t))) r (max q (r + tch (nY t) + 4)) x1 hl dv hw (by
    show max _ (zm π) ≤ _
    have g2 := g.2
    omega) (by omega) (by omega) (by omega) (fun e => by have := h5 e; omega) (fun _ => s)).2 (by simp)
  have e : GSk t0 n1 s2 h E (f + 1) t π ω Γ Δ = GSk t0 n1 s2 h E f (nX t) (some (nz t0 n1 s2 h ω (nY t)) :: π) ω Γ Δ := by
    conv => lhs; unfold GSk
    rw [if_neg (by omega), if_neg (by omega), if_neg (by omega), if_neg (by omega), if_pos c9]
  rw [e]
  exact Nat.le_trans i0 k
theorem DQ_8 (dh : DHy a5 t0 fn s2 r0 r1 r2 r3 V0 mt Yg n1 h Z H gy E D) {f : Nat} (ih : DQs a5 t0 V0 mt n1 s2 h Z gy E D f) {t : Ty} {π : Stk} {ω : List Nat} {Γ : List Ty} {Δ : List (Nat × Ty × Nat)} {w r q : Nat} (c8 : nKd t = 8) (tw : TWf (f + 1) Γ.length (Δ.map (fun a => a.1)) t) (hl : ω.length = Γ.length) (dv : DVn t0 n1 s2 h E V0 ω Δ) (hw : ∀ j, j < ω.length → vw ω j ≤ gy r) (hz : zm π ≤ gy q) (hr : r + mch t ≤ mt) (hq : q + mch t ≤ mt + 3) (hmw : mch t + w ≤ mt) (h5 : Δ ≠ [] → mch t + w + a5 ≤ mt) (sk : π ≠ [] → SKw Z π w) : (π = [] → GSk t0 n1 s2 h E (f + 1) t [] ω Γ Δ ≤ D (mch t) 0) ∧ (π ≠ [] → GSk t0 n1 s2 h E (f + 1) t π ω Γ Δ ≤ D (mch t) w) := by
  obtain ⟨w0, w5, w6, w7, w8, w9, w10, w11, w12⟩ := tw
  have em := mch_is w0.2.1
  rw [if_neg (by omega), if_pos (Or.inr c8)] at em
  obtain ⟨x1, x2, x3⟩ := w8 c8
  have mp : 1 ≤ mch (nY t) := by
    cases f with
    | zero => exact x3.elim
    | succ f => exact mch_pos x3
  have tp := tch_pos x1
  have m34 := dh.1.1
  have dm := dh.2.2.2.2.2.2.2.1
  have dg := dh.2.2.2.2.2.2.2.2.1
  have dc := dh.2.2.2.1
  have o1 : ok ω.length (nX t) = true := by rw [hl]; exact x1
  have g := dg (nX t) ω r o1 (by omega) hw
  refine ⟨fun e => ?_, fun hπ => ?_⟩
  · subst e
    have i0 := (ih (nY t) [] (h (nz t0 n1 s2 h ω (nX t)) :: ω) (nX t :: Γ) Δ 0 (r + tch (nX t) + 4) 0 x3 (by rw [List.length_cons, List.length_cons, hl]) (dv.ext _) (dh.ext hw g.1 (by omega) (by omega)) (Nat.zero_le _) (by omega) (by omega) (by omega) (fun e => by have := h5 e; omega) (fun e => absurd rfl e)).1 rfl
    unfold GSk
    rw [if_neg (by omega), if_neg (by omega), if_neg (by omega), if_pos c8]
    show s2 + GSk t0 n1 s2 h E f (nY t) [] (h (nz t0 n1 s2 h ω (nX t)) :: ω) (nX t :: Γ) Δ ≤ _
    have k := (dc.2.2.2.1 (mch (nY t)) (mch t) mp (by omega) (by omega)).2
    omega
  · cases π with
    | nil => exact absurd rfl hπ
    | cons o ρ =>
      have s := sk hπ
      have sw := s.two hπ
      have k := dc.2.2.2.2.1 (mch (nY t)) (mch t) w mp (by omega) sw (by omega)
      unfold GSk
      rw [if_neg (by omega), if_neg (by omega), if_neg (by omega), if_pos c8]
      cases o with
      | none => exact Nat.zero_le _
      | some z =>
        show GSk t0 n1 s2 h E f (nY t) ρ (hzx h z (nz t0 n1 s2 h ω (nX t)) :: ω) (nX t :: Γ) Δ ≤ _
        have z1 : z ≤ gy q := Nat.le_trans (Nat.le_max_left z (zm ρ)) hz
        have z2 : zm ρ ≤ gy q := Nat.le_trans (Nat.le_max_right z (zm ρ)) hz
        have k1 := dm q (max q (r + tch (nX t) + 4)) (Nat.le_max_left _ _) (by omega)
        have k2 := dm (r + tch (nX t) + 4) (max q (r + tch (nX t) + 4)) (Nat.le_max_right _ _) (by omega)
        have hw' := dh.ext (r' := max q (r + tch (nX t) + 4)) (v := hzx h z (nz t0 n1 s2 h ω (nX t))) hw (by
          have g1 := g.1
          unfold hzx; omega) (by omega) (by omega)
        have gs : ∀ w', w' ≤ w → (ρ ≠ [] → SKw Z ρ w') → _ := fun w' h1 h2 => ih (nY t) ρ (hzx h z (nz t0 n1 s2 h ω (nX t)) :: ω) (nX t :: Γ) Δ w' (max q (r + tch (nX t) + 4)) q x3 (by rw [List.length_cons, List.length_cons, hl]) (dv.ext _) hw' z2 (by omega) (by omega) (by omega) (fun e => by have := h5 e; omega) h2
        by_cases er : ρ = []
        · subst er
          exact Nat.le_trans ((gs 0 (by omega) (fun e => absurd rfl e)).1 rfl) k.1
        · obtain ⟨s', s1, s2', s3, s4⟩ := s
          exact Nat.le_trans ((gs (w - 2) (by omega) (fun _ => SKw.mono _ _ _ s4 (by omega))).2 er) k.2
theorem DQ_10 (dh : DHy a5 t0 fn s2 r0 r1 r2 r3 V0 mt Yg n1 h Z H gy E D) {f : Nat} (ih : DQs a5 t0 V0 mt n1 s2 h Z gy E D f) {t : Ty} {π : Stk} {ω : List Nat} {Γ : List Ty} {Δ : List (Nat × Ty × Nat)} {w r q : Nat} (c10 : nKd t = 10) (tw : TWf (f + 1) Γ.length (Δ.map (fun a => a.1)) t) (hl : ω.length = Γ.length) (dv : DVn t0 n1 s2 h E V0 ω Δ) (hw : ∀ j, j < ω.length → vw ω j ≤ gy r) (hz : zm π ≤ gy q) (hr : r + mch t ≤ mt) (hq : q + mch t ≤ mt + 3) (hmw : mch t + w ≤ mt) (h5 : Δ ≠ [] → mch t + w + a5 ≤ mt) (sk : π ≠ [] → SKw Z π w) : (π = [] → GSk t0 n1 s2 h E (f + 1) t [] ω Γ Δ ≤ D (mch t) 0) ∧ (π ≠ [] → GSk t0 n1 s2 h E (f + 1) t π ω Γ Δ ≤ D (mch t) w) := by
  obtain ⟨w0, w5, w6, w7, w8, w9, w10, w11, w12⟩ := tw
  have em := mch_is w0.2.1
  rw [if_neg (by omega), if_neg (by omega), if_neg (by omega), if_pos c10] at em
  obtain ⟨m8, x1⟩ := w10 c10
  have dc := dh.2.2.2.1
  have mp : ∀ g, g < 3 → bit (nMk t) g = true → 1 ≤ mch (nP t g) := by
    intro g hg hbg
    have x := x1 g hg hbg
    cases f with
    | zero => exact x.elim
    | succ f => exact mch_pos x
  have m0 : mch (nX t) ≤ mch t ∧ mch (nY t) ≤ mch t ∧ mch (nZ t) ≤ mch t := by omega
  have ml : ∀ g, g < 3 → mch (nP t g) ≤ mch t := by
    intro g hg
    rcases (show g = 0 ∨ g = 1 ∨ g = 2 by omega) with rfl | rfl | rfl
    · exact m0.1
    · exact m0.2.1
    · exact m0.2.2
  refine ⟨fun e => ?_, fun hπ => ?_⟩
  · subst e
    have k : ∀ g, g < 3 → bit (nMk t) g = true → 1 ≤ mch (nP t g) ∧ GSk t0 n1 s2 h E f (nP t g) [] ω Γ Δ ≤ D (mch (nP t g)) 0 := fun g hg hbg => ⟨mp g hg hbg, (ih (nP t g) [] ω Γ Δ 0 r 0 (x1 g hg hbg) hl dv hw (Nat.zero_le _) (by have := ml g hg; omega) (by have := ml g hg; omega) (by have := ml g hg; omega) (fun e => by have := ml g hg; have := h5 e; omega) (fun e => absurd rfl e)).1 rfl⟩
    unfold GSk
    rw [if_neg (by omega), if_neg (by omega), if_neg (by omega), if_neg (by omega), if_neg (by omega), if_pos c10]
    have hle : (if nMk t = 0 then 2 else 1 + 3 * nlb (nMk t)) + (mch (nX t) + (mch (nY t) + mch (nZ t))) ≤ mt := by omega
    have ab : ∀ g, g < 3 → bit (nMk t) g = false → mch (nP t g) = 0 := by
      intro g hg hbg
      rw [w0.2.2.1 g hg (by
        rw [c10]
        show (if bit (nMk t) g = true then 1 else 0) = 0
        rw [hbg]; rfl)]
      rfl
    have fin := DPc_rec dc dh.2.2.1 m8 (k 0 (by decide)) (k 1 (by decide)) (k 2 (by decide)) (ab 0 (by decide)) (ab 1 (by decide)) (ab 2 (by decide)) hle
    rw [em]
    exact fin
  · cases π with
    | nil => exact absurd rfl hπ
    | cons o ρ =>
      have s := sk hπ
      have sw := s.two hπ
      unfold GSk
      rw [if_neg (by omega), if_neg (by omega), if_neg (by omega), if_neg (by omega), if_neg (by omega), if_pos c10]
      cases o with
      | some z => exact Nat.zero_le _
      | none =>
        have four : ∀ k, k < 8 → ∀ g, g < 3 → bit k g = true → 4 ≤ (if k = 0 then 2 else 1 + 3 * nlb k) := by decide
        have m4 : ∀ g, g < 3 → bit (nMk t) g = true → mch (nP t g) + 4 ≤ mch t := by
          intro g hg hbg
          have f4 := four _ m8 g hg hbg
          rcases (show g = 0 ∨ g = 1 ∨ g = 2 by omega) with rfl | rfl | rfl
          · show mch (nX t) + 4 ≤ _; omega
          · show mch (nY t) + 4 ≤ _; omega
          · show mch (nZ t) + 4 ≤ _; omega
        have k : ∀ g, g < 3 → (if bit (nMk t) g = true then GSk t0 n1 s2 h E f (nP t g) ρ ω Γ Δ else 0) ≤ D (mch t) w := by
          intro g hg
          by_cases hbg : bit (nMk t) g = true
          · rw [if_pos hbg]
            have h4 := m4 g hg hbg
            have kk := dc.2.2.2.2.1 (mch (nP t g)) (mch t) w (mp g hg hbg) h4 sw (by omega)
            by_cases er : ρ = []
            · subst er
              exact Nat.le_trans ((ih (nP t g) [] ω Γ Δ 0 r 0 (x1 g hg hbg) hl dv hw (Nat.zero_le _) (by omega) (by omega) (by omega) (fun e => by have := h5 e; omega) (fun e => absurd rfl e)).1 rfl) kk.1
            · exact Nat.le_trans ((ih (nP t g) ρ ω Γ Δ (w - 2) r q (x1 g hg hbg) hl dv hw hz (by omega) (by omega) (by omega) (fun e => by have := h5 e; omega) (fun _ => s.2)).2 er) kk.2
          · rw [if_neg hbg]; exact Nat.zero_le _
        exact Nat.max_le.mpr ⟨k 0 (by decide), Nat.max_le.mpr ⟨k 1 (by decide), k 2 (by decide)⟩⟩
theorem DQ_12 (dh : DHy a5 t0 fn s2 r0 r1 r2 r3 V0 mt Yg n1 h Z H gy E D) {f : Nat} (ih : DQs a5 t0 V0 mt n1 s2 h Z gy E D f) {t : Ty} {π : Stk} {ω : List Nat} {Γ : List Ty} {Δ : List (Nat × Ty × Nat)} {w r q : Nat} (c12 : nKd t = 12) (tw : TWf (f + 1) Γ.length (Δ.map (fun a => a.1)) t) (hl : ω.length = Γ.length) (dv : DVn t0 n1 s2 h E V0 ω Δ) (hw : ∀ j, j < ω.length → vw ω j ≤ gy r) (hz : zm π ≤ gy q) (hr : r + mch t ≤ mt) (hq : q + mch t ≤ mt + 3) (hmw : mch t + w ≤ mt) (h5 : Δ ≠ [] → mch t + w + a5 ≤ mt) (w0' : π = [] → w = 0) (sk : π ≠ [] → SKw Z π w) : GSk t0 n1 s2 h E (f + 1) t π ω Γ Δ ≤ D (mch t) w := by
  obtain ⟨w0, w5, w6, w7, w8, w9, w10, w11, w12⟩ := tw
  have em := mch_is w0.2.1
  rw [if_neg (by omega), if_neg (by omega), if_neg (by omega), if_neg (by omega)] at em
  obtain ⟨x1, x2⟩ := w7 (Or.inr c12)
  have mp : ∀ u, TWf f Γ.length (Δ.map (fun a => a.1)) u → 1 ≤ mch u := by
    intro u wu
    cases f with
    | zero => exact wu.elim
    | succ f => exact mch_pos wu
  have p1 := mp _ x1
  have p2 := mp _ x2
  have dc := dh.2.2.2.1
  have k := dc.2.2.2.2.2.2.2.2.2 (mch (nX t)) (mch (nY t)) (mch t) w p1 p2 (by omega) (by omega)
  have g : ∀ u, TWf f Γ.length (Δ.map (fun a => a.1)) u → mch u ≤ mch t → GSk t0 n1 s2 h E f u π ω Γ Δ ≤ D (mch u) w := by
    intro u wu hu
    have i0 := ih u π ω Γ Δ w r q wu hl dv hw hz (by omega) (by omega) (by omega) (fun e => by have := h5 e; omega) sk
    by_cases e : π = []
    · have e0 := w0' e
      subst e0
      subst e
      exact i0.1 rfl
    · exact i0.2 e
  have g1 := g _ x1 (by omega)
  have g2 := g _ x2 (by omega)
  unfold GSk
  rw [if_neg (by omega), if_neg (by omega), if_neg (by omega), if_neg (by omega), if_neg (by omega), if_neg (by omega), if_neg (by omega)]
  split
  · omega
  · omega
/-- every term -/
theorem DQ_all (dh : DHy a5 t0 fn s2 r0 r1 r2 r3 V0 mt Yg n1 h Z H gy E D) : ∀ f, DQs a5 t0 V0 mt n1 s2 h Z gy E D f
  | 0 => fun _ _ _ _ _ _ _ _ w _ _ _ _ _ _ _ _ _ => w.elim
  | f + 1 => by
    have ih := DQ_all dh f
    intro t π ω Γ Δ w r q tw hl dv hw hz hr hq hmw h5 sk
    have kd := tw.1.1
    have both : (∀ w, mch t + w ≤ mt → (Δ ≠ [] → mch t + w + a5 ≤ mt) → (π = [] → w = 0) → (π ≠ [] → SKw Z π w) → GSk t0 n1 s2 h E (f + 1) t π ω Γ Δ ≤ D (mch t) w) → (π = [] → GSk t0 n1 s2 h E (f + 1) t [] ω Γ Δ ≤ D (mch t) 0) ∧ (π ≠ [] → GSk t0 n1 s2 h E (f + 1) t π ω Γ Δ ≤ D (mch t) w) := by
      intro k
      refine ⟨fun e => ?_, fun e => k w hmw h5 (fun e' => absurd e' e) sk⟩
      have := k 0 (by omega) (fun e => by have := h5 e; omega) (fun _ => rfl) (fun e' => absurd e e')
      rw [e] at this
      exact this
    rcases (show nKd t = 5 ∨ nKd t = 6 ∨ (nKd t = 7 ∨ nKd t = 11) ∨ nKd t = 8 ∨ nKd t = 9 ∨ nKd t = 10 ∨ nKd t = 12 by omega) with c | c | c | c | c | c | c
    · exact DQ_5 dh c tw hl dv hmw h5 sk
    · exact DQ_6 dh ih c tw hl dv hw hz hr hq hmw h5 sk
    · exact both (fun w' h1 h4 h2 h3 => DQ_7 dh ih c tw hl dv hw hz hr hq h1 h4 h2 h3)
    · exact DQ_8 dh ih c tw hl dv hw hz hr hq hmw h5 sk
    · exact both (fun w' h1 h4 h2 h3 => DQ_9 dh ih c tw hl dv hw hz hr hq h1 h4 h2 h3)
    · exact DQ_10 dh ih c tw hl dv hw hz hr hq hmw h5 sk
    · exact both (fun w' h1 h4 h2 h3 => DQ_12 dh ih c tw hl dv hw hz hr hq h1 h4 h2 h3)
end PmX3
