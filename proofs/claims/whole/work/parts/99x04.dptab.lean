/-! THE TABLE ITSELF, row by row. -/
def mxr (k : Nat) (f : Nat → Nat) : Nat := (List.range k).foldr (fun i a => max (f i) a) 0
theorem mxr_le {k : Nat} {f : Nat → Nat} {i : Nat} (h : i < k) : f i ≤ mxr k f := by
  have key : ∀ (l : List Nat), i ∈ l → f i ≤ l.foldr (fun i a => max (f i) a) 0 := by
    intro l
    induction l with
    | nil => intro h; cases h
    | cons a l ih =>
      intro h
      rw [List.foldr_cons]
      rcases List.mem_cons.mp h with e | e
      · rw [e]; exact Nat.le_max_left _ _
      · exact Nat.le_trans (ih e) (Nat.le_max_right _ _)
  exact key _ (List.mem_range.mpr h)
/-- what stands in a cell, by the cells of shorter terms -/
def dcl (a5 mt fn s2 r0 r1 r2 r3 V0 : Nat) (Z H : Nat → Nat) (n w : Nat) (D : Nat → Nat → Nat) : Nat :=
  max (if Nat.beq n 1 then (if Nat.beq w 0 then V0 else if Nat.ble (w + 1 + a5) mt then H w else 0) else 0) (max (mxr (n - 2) (fun i => D (i + 1) (w + (n - (i + 1))))) (max (mxr (n - 3) (fun i => D (i + 1) w + D (n - 2 - (i + 1)) w))
  (if Nat.beq w 0 then max (if Nat.beq n 2 then r0 else 0) (max (mxr (n - 5) (fun i => max (fn + (Z (n - 4 - (i + 1)) + D (i + 1) 0)) (s2 + D (i + 1) 0))) (max (if Nat.ble 5 n then r1 + D (n - 4) 0 else 0) (max (mxr (n - 8) (fun i => r2 + (D (i + 1) 0 + D (n - 7 - (i + 1)) 0))) (mxr (n - 12) (fun i => mxr (n - 12 - i) (fun j => r3 + (D (i + 1) 0 + (D (j + 1) 0 + D (n - 10 - (i + 1) - (j + 1)) 0)))))))) else mxr (n - 4) (fun i => max (D (i + 1) 0) (D (i + 1) (w - 2))))))
def dget (T : List (List Nat)) (m i w : Nat) : Nat := (T.getD (m - i) []).getD w 0
def dpt (a5 fn s2 r0 r1 r2 r3 V0 : Nat) (Z H : Nat → Nat) (mt : Nat) : Nat → List (List Nat)
  | 0 => []
  | m + 1 => ((List.range (mt - m)).map (fun w => dcl a5 mt fn s2 r0 r1 r2 r3 V0 Z H (m + 1) w (dget (dpt a5 fn s2 r0 r1 r2 r3 V0 Z H mt m) m))) :: dpt a5 fn s2 r0 r1 r2 r3 V0 Z H mt m
def DT (a5 fn s2 r0 r1 r2 r3 V0 : Nat) (Z H : Nat → Nat) (mt m w : Nat) : Nat := dget (dpt a5 fn s2 r0 r1 r2 r3 V0 Z H mt m) m m w
section PmX4
variable {a5 fn s2 r0 r1 r2 r3 V0 mt : Nat} {Z H : Nat → Nat}
theorem dpt_get : ∀ (m i w : Nat), 1 ≤ i → i ≤ m → dget (dpt a5 fn s2 r0 r1 r2 r3 V0 Z H mt m) m i w = DT a5 fn s2 r0 r1 r2 r3 V0 Z H mt i w
  | 0, i, w, h1, h2 => by omega
  | m + 1, i, w, h1, h2 => by
    by_cases e : i = m + 1
    · subst e; rfl
    · rw [← dpt_get m i w h1 (by omega)]
      unfold dget
      rw [show m + 1 - i = (m - i) + 1 by omega]
      show (List.getD (_ :: dpt a5 fn s2 r0 r1 r2 r3 V0 Z H mt m) ((m - i) + 1) []).getD w 0 = _
      rw [List.getD_cons_succ]
theorem DT_cell {m w : Nat} (h : m + 1 + w ≤ mt) : DT a5 fn s2 r0 r1 r2 r3 V0 Z H mt (m + 1) w = dcl a5 mt fn s2 r0 r1 r2 r3 V0 Z H (m + 1) w (dget (dpt a5 fn s2 r0 r1 r2 r3 V0 Z H mt m) m) := by
  unfold DT dget
  rw [show m + 1 - (m + 1) = 0 by omega]
  show (List.getD (((List.range (mt - m)).map (fun w => dcl a5 mt fn s2 r0 r1 r2 r3 V0 Z H (m + 1) w (dget (dpt a5 fn s2 r0 r1 r2 r3 V0 Z H mt m) m))) :: dpt a5 fn s2 r0 r1 r2 r3 V0 Z H mt m) 0 []).getD w 0 = _
  rw [List.getD_cons_zero, List.getD_eq_getElem?_getD, List.getElem?_map, List.getElem?_range (by omega)]
  rfl
theorem dcl_ops {D : Nat → Nat → Nat} {n w i : Nat} (i1 : 1 ≤ i) (h : i + 2 ≤ n) : D i (w + (n - i)) ≤ dcl a5 mt fn s2 r0 r1 r2 r3 V0 Z H n w D := by
  have := mxr_le (k := n - 2) (f := fun i => D (i + 1) (w + (n - (i + 1)))) (i := i - 1) (by omega)
  simp only [Nat.sub_add_cancel i1] at this
  unfold dcl
  exact Nat.le_trans (Nat.le_trans this (Nat.le_max_left _ _)) (Nat.le_max_right _ _)
theorem dcl_or {D : Nat → Nat → Nat} {n w i j : Nat} (i1 : 1 ≤ i) (j1 : 1 ≤ j) (h : i + j + 2 = n) : D i w + D j w ≤ dcl a5 mt fn s2 r0 r1 r2 r3 V0 Z H n w D := by
  have := mxr_le (k := n - 3) (f := fun i => D (i + 1) w + D (n - 2 - (i + 1)) w) (i := i - 1) (by omega)
  simp only [Nat.sub_add_cancel i1] at this
  rw [show n - 2 - i = j by omega] at this
  unfold dcl
  exact Nat.le_trans (Nat.le_trans this (Nat.le_max_left _ _)) (Nat.le_trans (Nat.le_max_right _ _) (Nat.le_max_right _ _))
theorem dcl_0 {D : Nat → Nat → Nat} {n v : Nat} (h : v ≤ max (if Nat.beq n 2 then r0 else 0) (max (mxr (n - 5) (fun i => max (fn + (Z (n - 4 - (i + 1)) + D (i + 1) 0)) (s2 + D (i + 1) 0))) (max (if Nat.ble 5 n then r1 + D (n - 4) 0 else 0) (max (mxr (n - 8) (fun i => r2 + (D (i + 1) 0 + D (n - 7 - (i + 1)) 0))) (mxr (n - 12) (fun i => mxr (n - 12 - i) (fun j => r3 + (D (i + 1) 0 + (D (j + 1) 0 + D (n - 10 - (i + 1) - (j + 1)) 0))))))))) : v ≤ dcl a5 mt fn s2 r0 r1 r2 r3 V0 Z H n 0 D := by
  unfold dcl
  rw [if_pos (show Nat.beq 0 0 = true from rfl), if_pos (show Nat.beq 0 0 = true from rfl)]
  exact Nat.le_trans h (Nat.le_trans (Nat.le_trans (Nat.le_max_right _ _) (Nat.le_max_right _ _)) (Nat.le_max_right _ _))
theorem dcl_w {D : Nat → Nat → Nat} {n w i : Nat} (i1 : 1 ≤ i) (h : i + 4 ≤ n) (h2 : 2 ≤ w) : D i 0 ≤ dcl a5 mt fn s2 r0 r1 r2 r3 V0 Z H n w D ∧ D i (w - 2) ≤ dcl a5 mt fn s2 r0 r1 r2 r3 V0 Z H n w D := by
  have k := mxr_le (k := n - 4) (f := fun i => max (D (i + 1) 0) (D (i + 1) (w - 2))) (i := i - 1) (by omega)
  simp only [Nat.sub_add_cancel i1] at k
  have z : ∀ v, v ≤ mxr (n - 4) (fun i => max (D (i + 1) 0) (D (i + 1) (w - 2))) → v ≤ dcl a5 mt fn s2 r0 r1 r2 r3 V0 Z H n w D := by
    intro v hv
    have wb : Nat.beq w 0 = false := by
      cases w with
      | zero => omega
      | succ w => rfl
    unfold dcl
    rw [wb]
    exact Nat.le_trans hv (Nat.le_trans (Nat.le_trans (Nat.le_max_right _ _) (Nat.le_max_right _ _)) (Nat.le_max_right _ _))
  exact ⟨z _ (Nat.le_trans (Nat.le_max_left _ _) k), z _ (Nat.le_trans (Nat.le_max_right _ _) k)⟩
/-- it is closed -/
theorem DT_ok (m1 : 1 ≤ mt) : DPc a5 mt fn s2 r0 r1 r2 r3 V0 Z H (DT a5 fn s2 r0 r1 r2 r3 V0 Z H mt) := by
  have cell : ∀ {m w : Nat}, 1 ≤ m → m + w ≤ mt → DT a5 fn s2 r0 r1 r2 r3 V0 Z H mt m w = dcl a5 mt fn s2 r0 r1 r2 r3 V0 Z H m w (dget (dpt a5 fn s2 r0 r1 r2 r3 V0 Z H mt (m - 1)) (m - 1)) := by
    intro m w h1 h2
    have := DT_cell (a5 := a5) (fn := fn) (s2 := s2) (r0 := r0) (r1 := r1) (r2 := r2) (r3 := r3) (V0 := V0) (mt := mt) (Z := Z) (H := H) (m := m - 1) (w := w) (by omega)
    rw [show m - 1 + 1 = m by omega] at this
    exact this
  have gt : ∀ {m i w : Nat}, 1 ≤ i → i < m → DT a5 fn s2 r0 r1 r2 r3 V0 Z H mt i w = dget (dpt a5 fn s2 r0 r1 r2 r3 V0 Z H mt (m - 1)) (m - 1) i w := fun h1 h2 => (dpt_get _ _ _ h1 (by omega)).symm
  refine ⟨?_, ?_, ?_, ?_, ?_, ?_, ?_, ?_, ?_, ?_⟩
  · rw [cell (Nat.le_refl _) (by omega)]
    unfold dcl
    exact Nat.le_max_left _ _
  · intro w hw h
    rw [cell (Nat.le_refl _) (by omega)]
    have wb : Nat.beq w 0 = false := by
      cases w with
      | zero => omega
      | succ w => rfl
    unfold dcl
    rw [wb, Nat.ble_eq_true_of_le h]
    exact Nat.le_max_left _ _
  · intro i m w h1 h2 h3
    rw [cell (m := m) (by omega) h3, gt (m := m) h1 (by omega)]
    exact dcl_ops h1 h2
  · intro i m h1 h2 h3
    rw [cell (m := m) (by omega) (by omega), gt (m := m) (w := 0) h1 (by omega)]
    have k := mxr_le (k := m - 5) (f := fun i => max (fn + (Z (m - 4 - (i + 1)) + dget (dpt a5 fn s2 r0 r1 r2 r3 V0 Z H mt (m - 1)) (m - 1) (i + 1) 0)) (s2 + dget (dpt a5 fn s2 r0 r1 r2 r3 V0 Z H mt (m - 1)) (m - 1) (i + 1) 0)) (i := i - 1) (by omega)
    simp only [Nat.sub_add_cancel h1] at k
    exact ⟨dcl_0 (Nat.le_trans (Nat.le_trans (Nat.le_trans (Nat.le_max_left _ _) k) (Nat.le_max_left _ _)) (Nat.le_max_right _ _)), dcl_0 (Nat.le_trans (Nat.le_trans (Nat.le_trans (Nat.le_max_right _ _) k) (Nat.le_max_left _ _)) (Nat.le_max_right _ _))⟩
  · intro i m w h1 h2 h3 h4
    rw [cell (m := m) (by omega) h4, gt (m := m) (w := 0) h1 (by omega), gt (m := m) (w := w - 2) h1 (by omega)]
    exact dcl_w h1 h2 h3
  · intro h2
    rw [cell (m := 2) (by omega) (by omega)]
    exact dcl_0 (Nat.le_max_left _ _)
  · intro i m h1 h2 h3
    rw [cell (m := m) (by omega) (by omega), gt (m := m) (w := 0) h1 (by omega)]
    refine dcl_0 (Nat.le_trans ?_ (Nat.le_trans (Nat.le_max_left _ _) (Nat.le_trans (Nat.le_max_right _ _) (Nat.le_max_right _ _))))
    rw [if_pos (Nat.ble_eq_true_of_le (show 5 ≤ m by omega)), show m - 4 = i by omega]
    exact Nat.le_refl _
  · intro i j m h1 h2 h3 h4
    rw [cell (m := m) (by omega) (by omega), gt (m := m) (w := 0) h1 (by omega), gt (m := m) (w := 0) h2 (by omega)]
    have k := mxr_le (k := m - 8) (f := fun i => r2 + (dget (dpt a5 fn s2 r0 r1 r2 r3 V0 Z H mt (m - 1)) (m - 1) (i + 1) 0 + dget (dpt a5 fn s2 r0 r1 r2 r3 V0 Z H mt (m - 1)) (m - 1) (m - 7 - (i + 1)) 0)) (i := i - 1) (by omega)
    simp only [Nat.sub_add_cancel h1] at k
    rw [show m - 7 - i = j by omega] at k
    exact dcl_0 (Nat.le_trans k (Nat.le_trans (Nat.le_max_left _ _) (Nat.le_trans (Nat.le_max_right _ _) (Nat.le_trans (Nat.le_max_right _ _) (Nat.le_max_right _ _)))))
  · intro i j k m h1 h2 h3 h4 h5
    rw [cell (m := m) (by omega) (by omega), gt (m := m) (w := 0) h1 (by omega), gt (m := m) (w := 0) h2 (by omega), gt (m := m) (w := 0) h3 (by omega)]
    have q := mxr_le (k := m - 12) (f := fun i => mxr (m - 12 - i) (fun j => r3 + (dget (dpt a5 fn s2 r0 r1 r2 r3 V0 Z H mt (m - 1)) (m - 1) (i + 1) 0 + (dget (dpt a5 fn s2 r0 r1 r2 r3 V0 Z H mt (m - 1)) (m - 1) (j + 1) 0 + dget (dpt a5 fn s2 r0 r1 r2 r3 V0 Z H mt (m - 1)) (m - 1) (m - 10 - (i + 1) - (j + 1)) 0)))) (i := i - 1) (by omega)
    simp only [Nat.sub_add_cancel h1] at q
    have q2 := mxr_le (k := m - 12 - (i - 1)) (f := fun j => r3 + (dget (dpt a5 fn s2 r0 r1 r2 r3 V0 Z H mt (m - 1)) (m - 1) i 0 + (dget (dpt a5 fn s2 r0 r1 r2 r3 V0 Z H mt (m - 1)) (m - 1) (j + 1) 0 + dget (dpt a5 fn s2 r0 r1 r2 r3 V0 Z H mt (m - 1)) (m - 1) (m - 10 - i - (j + 1)) 0))) (i := j - 1) (by omega)
    simp only [Nat.sub_add_cancel h2] at q2
    rw [show m - 10 - i - j = k by omega] at q2
    exact dcl_0 (Nat.le_trans (Nat.le_trans q2 q) (Nat.le_trans (Nat.le_max_right _ _) (Nat.le_trans (Nat.le_max_right _ _) (Nat.le_trans (Nat.le_max_right _ _) (Nat.le_max_right _ _)))))
  · intro i j m w h1 h2 h3 h4
    rw [cell (m := m) (by omega) h4, gt (m := m) (w := w) h1 (by omega), gt (m := m) (w := w) h2 (by omega)]
    exact dcl_or h1 h2 h3
end PmX4
