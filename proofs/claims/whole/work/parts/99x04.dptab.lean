/-! THE TABLE ITSELF, row by row. -/
def mxr (k : Nat) (f : Nat → Nat) : Nat := (List.range k).foldr (fun i a => max (f i) a) 0
theorem mxr_le {k : Nat} {f : Nat → Nat} {i : Nat} (h : i < k) : f i ≤ mxr k f := by
  have key : ∀ (l : List Nat), i ∈ l → f i ≤ l.foldr (fun i a => max (f i) a) 0 := by
    intro l
    induction l with
    | nil => intro h; cases h
    | cons a l ih =>
      intro h
      rw [List.foldr_cons]
      rcases List.mem_cons.mp h with e | e
      · rw [e]; exact Nat.le_max_left _ _
      · exact Nat.le_trans (ih e) (Nat.le_max_right _ _)
  exact key _ (List.mem_range.mpr h)
theorem le_mx {a b c : Nat} (h : a ≤ b ∨ a ≤ c) : a ≤ max b c := by omega
/-- nothing waits -/
def dcl0 (fn s2 r0 r1 r2 r3 : Nat) (Z : Nat → Nat → Nat) (n b : Nat) (D : Nat → Nat → Nat → Nat) : Nat :=
  max (if Nat.beq n 2 then r0 else 0) (max (mxr (n - 5) (fun i => max (fn + (Z b (n - 4 - (i + 1)) + D (i + 1) 0 (b + (n - (i + 1))))) (s2 + D (i + 1) 0 (b + (n - (i + 1)))))) (max (if Nat.ble 5 n then r1 + D (n - 4) 0 b else 0) (max (mxr (n - 8) (fun i => r2 + (D (i + 1) 0 b + D (n - 7 - (i + 1)) 0 b))) (mxr (n - 12) (fun i => mxr (n - 12 - i) (fun j => r3 + (D (i + 1) 0 b + (D (j + 1) 0 b + D (n - 10 - (i + 1) - (j + 1)) 0 b))))))))
/-- something waits -/
def dcl1 (n w b : Nat) (D : Nat → Nat → Nat → Nat) : Nat :=
  max (mxr (n - 4) (fun i => max (D (i + 1) 0 b) (D (i + 1) (w - 2) b))) (mxr (n - 5) (fun i => max (max (D (i + 1) 0 (b + (n - (i + 1)))) (D (i + 1) (w - 2) (b + (n - (i + 1))))) (mxr (w - 1) (fun s => max (D (i + 1) 0 (b + (n - (i + 1)) + (s + 1))) (D (i + 1) (w - (s + 1 + 1)) (b + (n - (i + 1)) + (s + 1)))))))
def dcl (un : Bool) (a5 fn s2 r0 r1 r2 r3 : Nat) (V : Nat → Nat) (Z H : Nat → Nat → Nat) (n w b : Nat) (D : Nat → Nat → Nat → Nat) : Nat :=
  max (if Nat.beq n 1 && Nat.ble a5 b then (if Nat.beq w 0 then V b else H b w) else 0) (max (mxr (n - 2) (fun i => D (i + 1) (w + (n - (i + 1))) b)) (max (if un || Nat.beq w 0 then mxr (n - 3) (fun i => D (i + 1) w b + D (n - 2 - (i + 1)) w b) else 0) (if Nat.beq w 0 then dcl0 fn s2 r0 r1 r2 r3 Z n b D else dcl1 n w b D)))
def dget (T : List (List (List Nat))) (m i w b : Nat) : Nat := ((T.getD (m - i) []).getD w []).getD b 0
def dpt (un : Bool) (a5 fn s2 r0 r1 r2 r3 : Nat) (V : Nat → Nat) (Z H : Nat → Nat → Nat) (mt : Nat) : Nat → List (List (List Nat))
  | 0 => []
  | m + 1 => ((List.range (mt - m)).map (fun w => (List.range (mt - m - w)).map (fun b => dcl un a5 fn s2 r0 r1 r2 r3 V Z H (m + 1) w b (dget (dpt un a5 fn s2 r0 r1 r2 r3 V Z H mt m) m)))) :: dpt un a5 fn s2 r0 r1 r2 r3 V Z H mt m
def DT (un : Bool) (a5 fn s2 r0 r1 r2 r3 : Nat) (V : Nat → Nat) (Z H : Nat → Nat → Nat) (mt m w b : Nat) : Nat := dget (dpt un a5 fn s2 r0 r1 r2 r3 V Z H mt m) m m w b
section PmX4
variable {un : Bool} {a5 fn s2 r0 r1 r2 r3 mt : Nat} {V : Nat → Nat} {Z H : Nat → Nat → Nat}
theorem dpt_get : ∀ (m i w b : Nat), 1 ≤ i → i ≤ m → dget (dpt un a5 fn s2 r0 r1 r2 r3 V Z H mt m) m i w b = DT un a5 fn s2 r0 r1 r2 r3 V Z H mt i w b
  | 0, i, w, b, h1, h2 => by omega
  | m + 1, i, w, b, h1, h2 => by
    by_cases e : i = m + 1
    · subst e; rfl
    · rw [← dpt_get m i w b h1 (by omega)]
      unfold dget
      rw [show m + 1 - i = (m - i) + 1 by omega]
      show ((List.getD (_ :: dpt un a5 fn s2 r0 r1 r2 r3 V Z H mt m) ((m - i) + 1) []).getD w []).getD b 0 = _
      rw [List.getD_cons_succ]
theorem DT_cell {m w b : Nat} (h : m + 1 + w + b ≤ mt) : DT un a5 fn s2 r0 r1 r2 r3 V Z H mt (m + 1) w b = dcl un a5 fn s2 r0 r1 r2 r3 V Z H (m + 1) w b (dget (dpt un a5 fn s2 r0 r1 r2 r3 V Z H mt m) m) := by
  unfold DT dget
  rw [show m + 1 - (m + 1) = 0 by omega]
  show ((List.getD (((List.range (mt - m)).map (fun w => (List.range (mt - m - w)).map (fun b => dcl un a5 fn s2 r0 r1 r2 r3 V Z H (m + 1) w b (dget (dpt un a5 fn s2 r0 r1 r2 r3 V Z H mt m) m)))) :: dpt un a5 fn s2 r0 r1 r2 r3 V Z H mt m) 0 []).getD w []).getD b 0 = _
  rw [List.getD_cons_zero, List.getD_eq_getElem?_getD (l := List.map _ _), List.getElem?_map, List.getElem?_range (by omega)]
  show (List.getD ((List.range (mt - m - w)).map (fun b => dcl un a5 fn s2 r0 r1 r2 r3 V Z H (m + 1) w b (dget (dpt un a5 fn s2 r0 r1 r2 r3 V Z H mt m) m))) b 0) = _
  rw [List.getD_eq_getElem?_getD, List.getElem?_map, List.getElem?_range (by omega)]
  rfl
variable {D : Nat → Nat → Nat → Nat}
theorem dcl_ops {n w b i : Nat} (i1 : 1 ≤ i) (h : i + 2 ≤ n) : D i (w + (n - i)) b ≤ dcl un a5 fn s2 r0 r1 r2 r3 V Z H n w b D := by
  have k := mxr_le (k := n - 2) (f := fun i => D (i + 1) (w + (n - (i + 1))) b) (i := i - 1) (by omega)
  simp only [Nat.sub_add_cancel i1] at k
  unfold dcl
  exact le_mx (Or.inr (le_mx (Or.inl k)))
theorem dcl_or {n w b i j : Nat} (i1 : 1 ≤ i) (j1 : 1 ≤ j) (h : i + j + 2 = n) (hu : un = true ∨ w = 0) : D i w b + D j w b ≤ dcl un a5 fn s2 r0 r1 r2 r3 V Z H n w b D := by
  have k := mxr_le (k := n - 3) (f := fun i => D (i + 1) w b + D (n - 2 - (i + 1)) w b) (i := i - 1) (by omega)
  simp only [Nat.sub_add_cancel i1] at k
  rw [show n - 2 - i = j by omega] at k
  have e : (un || Nat.beq w 0) = true := by
    rcases hu with e | e
    · rw [e]; rfl
    · rw [e, Bool.or_eq_true]; exact Or.inr rfl
  unfold dcl
  rw [e]
  exact le_mx (Or.inr (le_mx (Or.inr (le_mx (Or.inl k)))))
theorem dcl_z {n b v : Nat} (h : v ≤ dcl0 fn s2 r0 r1 r2 r3 Z n b D) : v ≤ dcl un a5 fn s2 r0 r1 r2 r3 V Z H n 0 b D := by
  unfold dcl
  exact le_mx (Or.inr (le_mx (Or.inr (le_mx (Or.inr h)))))
theorem dcl_s {n w b v : Nat} (h2 : 2 ≤ w) (h : v ≤ dcl1 n w b D) : v ≤ dcl un a5 fn s2 r0 r1 r2 r3 V Z H n w b D := by
  have wb : Nat.beq w 0 = false := by
    cases w with
    | zero => omega
    | succ w => rfl
  unfold dcl
  rw [wb]
  exact le_mx (Or.inr (le_mx (Or.inr (le_mx (Or.inr h)))))
/-- it is closed -/
theorem DT_ok : DPc un a5 mt fn s2 r0 r1 r2 r3 V Z H (DT un a5 fn s2 r0 r1 r2 r3 V Z H mt) := by
  have cell : ∀ {m w b : Nat}, 1 ≤ m → m + w + b ≤ mt → DT un a5 fn s2 r0 r1 r2 r3 V Z H mt m w b = dcl un a5 fn s2 r0 r1 r2 r3 V Z H m w b (dget (dpt un a5 fn s2 r0 r1 r2 r3 V Z H mt (m - 1)) (m - 1)) := by
    intro m w b h1 h2
    have := DT_cell (un := un) (a5 := a5) (fn := fn) (s2 := s2) (r0 := r0) (r1 := r1) (r2 := r2) (r3 := r3) (V := V) (mt := mt) (Z := Z) (H := H) (m := m - 1) (w := w) (b := b) (by omega)
    rw [show m - 1 + 1 = m by omega] at this
    exact this
  have gt : ∀ {m i w b : Nat}, 1 ≤ i → i < m → DT un a5 fn s2 r0 r1 r2 r3 V Z H mt i w b = dget (dpt un a5 fn s2 r0 r1 r2 r3 V Z H mt (m - 1)) (m - 1) i w b := fun h1 h2 => (dpt_get _ _ _ _ h1 (by omega)).symm
  refine ⟨?_, ?_, ?_, ?_, ?_, ?_, ?_, ?_, ?_, ?_, ?_, ?_⟩
  · intro b h1 h2
    rw [cell (Nat.le_refl _) (by omega)]
    unfold dcl
    rw [show (Nat.beq 1 1 && Nat.ble a5 b) = true by rw [Nat.ble_eq_true_of_le h2]; rfl]
    exact Nat.le_max_left _ _
  · intro w b hw h1 h2
    rw [cell (Nat.le_refl _) (by omega)]
    have wb : Nat.beq w 0 = false := by
      cases w with
      | zero => omega
      | succ w => rfl
    unfold dcl
    rw [show (Nat.beq 1 1 && Nat.ble a5 b) = true by rw [Nat.ble_eq_true_of_le h2]; rfl, wb]
    exact Nat.le_max_left _ _
  · intro i m w b h1 h2 h3
    rw [cell (m := m) (by omega) h3, gt (m := m) h1 (by omega)]
    exact dcl_ops h1 h2
  · intro i m b h1 h2 h3
    rw [cell (m := m) (by omega) (by omega), gt (m := m) (w := 0) h1 (by omega)]
    generalize dget (dpt un a5 fn s2 r0 r1 r2 r3 V Z H mt (m - 1)) (m - 1) = D
    have k := mxr_le (k := m - 5) (f := fun i => max (fn + (Z b (m - 4 - (i + 1)) + D (i + 1) 0 (b + (m - (i + 1))))) (s2 + D (i + 1) 0 (b + (m - (i + 1))))) (i := i - 1) (by omega)
    simp only [Nat.sub_add_cancel h1] at k
    exact ⟨dcl_z (by unfold dcl0; exact le_mx (Or.inr (le_mx (Or.inl (Nat.le_trans (Nat.le_max_left _ _) k))))), dcl_z (by unfold dcl0; exact le_mx (Or.inr (le_mx (Or.inl (Nat.le_trans (Nat.le_max_right _ _) k)))))⟩
  · intro i m w b h1 h2 h3 h4
    rw [cell (m := m) (by omega) h4, gt (m := m) (w := 0) h1 (by omega), gt (m := m) (w := w - 2) h1 (by omega)]
    generalize dget (dpt un a5 fn s2 r0 r1 r2 r3 V Z H mt (m - 1)) (m - 1) = D
    have k := mxr_le (k := m - 5) (f := fun i => max (max (D (i + 1) 0 (b + (m - (i + 1)))) (D (i + 1) (w - 2) (b + (m - (i + 1))))) (mxr (w - 1) (fun s => max (D (i + 1) 0 (b + (m - (i + 1)) + (s + 1))) (D (i + 1) (w - (s + 1 + 1)) (b + (m - (i + 1)) + (s + 1)))))) (i := i - 1) (by omega)
    simp only [Nat.sub_add_cancel h1] at k
    exact ⟨dcl_s h3 (by unfold dcl1; exact le_mx (Or.inr (Nat.le_trans (le_mx (Or.inl (Nat.le_max_left _ _))) k))), dcl_s h3 (by unfold dcl1; exact le_mx (Or.inr (Nat.le_trans (le_mx (Or.inl (Nat.le_max_right _ _))) k)))⟩
  · intro i m w b s h1 h2 h3 h4 h5
    rw [cell (m := m) (by omega) h5, gt (m := m) (w := 0) h1 (by omega), gt (m := m) (w := w - (s + 1)) h1 (by omega)]
    generalize dget (dpt un a5 fn s2 r0 r1 r2 r3 V Z H mt (m - 1)) (m - 1) = D
    have k := mxr_le (k := m - 5) (f := fun i => max (max (D (i + 1) 0 (b + (m - (i + 1)))) (D (i + 1) (w - 2) (b + (m - (i + 1))))) (mxr (w - 1) (fun s => max (D (i + 1) 0 (b + (m - (i + 1)) + (s + 1))) (D (i + 1) (w - (s + 1 + 1)) (b + (m - (i + 1)) + (s + 1)))))) (i := i - 1) (by omega)
    simp only [Nat.sub_add_cancel h1] at k
    have k2 := mxr_le (k := w - 1) (f := fun s => max (D i 0 (b + (m - i) + (s + 1))) (D i (w - (s + 1 + 1)) (b + (m - i) + (s + 1)))) (i := s - 1) (by omega)
    simp only [Nat.sub_add_cancel h3] at k2
    exact ⟨dcl_s (by omega) (by unfold dcl1; exact le_mx (Or.inr (Nat.le_trans (le_mx (Or.inr (Nat.le_trans (Nat.le_max_left _ _) k2))) k))), dcl_s (by omega) (by unfold dcl1; exact le_mx (Or.inr (Nat.le_trans (le_mx (Or.inr (Nat.le_trans (Nat.le_max_right _ _) k2))) k)))⟩
  · intro i m w b h1 h2 h3 h4
    rw [cell (m := m) (by omega) h4, gt (m := m) (w := 0) h1 (by omega), gt (m := m) (w := w - 2) h1 (by omega)]
    generalize dget (dpt un a5 fn s2 r0 r1 r2 r3 V Z H mt (m - 1)) (m - 1) = D
    have k := mxr_le (k := m - 4) (f := fun i => max (D (i + 1) 0 b) (D (i + 1) (w - 2) b)) (i := i - 1) (by omega)
    simp only [Nat.sub_add_cancel h1] at k
    exact ⟨dcl_s h3 (by unfold dcl1; exact le_mx (Or.inl (Nat.le_trans (Nat.le_max_left _ _) k))), dcl_s h3 (by unfold dcl1; exact le_mx (Or.inl (Nat.le_trans (Nat.le_max_right _ _) k)))⟩
  · intro b h2
    rw [cell (m := 2) (by omega) (by omega)]
    exact dcl_z (by unfold dcl0; exact Nat.le_max_left _ _)
  · intro i m b h1 h2 h3
    rw [cell (m := m) (by omega) (by omega), gt (m := m) (w := 0) h1 (by omega)]
    refine dcl_z ?_
    unfold dcl0
    refine le_mx (Or.inr (le_mx (Or.inr (le_mx (Or.inl ?_)))))
    rw [if_pos (Nat.ble_eq_true_of_le (show 5 ≤ m by omega)), show m - 4 = i by omega]
    exact Nat.le_refl _
  · intro i j m b h1 h2 h3 h4
    rw [cell (m := m) (by omega) (by omega), gt (m := m) (w := 0) h1 (by omega), gt (m := m) (w := 0) h2 (by omega)]
    generalize dget (dpt un a5 fn s2 r0 r1 r2 r3 V Z H mt (m - 1)) (m - 1) = D
    have k := mxr_le (k := m - 8) (f := fun i => r2 + (D (i + 1) 0 b + D (m - 7 - (i + 1)) 0 b)) (i := i - 1) (by omega)
    simp only [Nat.sub_add_cancel h1] at k
    rw [show m - 7 - i = j by omega] at k
    exact dcl_z (by unfold dcl0; exact le_mx (Or.inr (le_mx (Or.inr (le_mx (Or.inr (le_mx (Or.inl k))))))))
  · intro i j k m b h1 h2 h3 h4 h5
    rw [cell (m := m) (by omega) (by omega), gt (m := m) (w := 0) h1 (by omega), gt (m := m) (w := 0) h2 (by omega), gt (m := m) (w := 0) h3 (by omega)]
    generalize dget (dpt un a5 fn s2 r0 r1 r2 r3 V Z H mt (m - 1)) (m - 1) = D
    have q := mxr_le (k := m - 12) (f := fun i => mxr (m - 12 - i) (fun j => r3 + (D (i + 1) 0 b + (D (j + 1) 0 b + D (m - 10 - (i + 1) - (j + 1)) 0 b)))) (i := i - 1) (by omega)
    simp only [Nat.sub_add_cancel h1] at q
    have q2 := mxr_le (k := m - 12 - (i - 1)) (f := fun j => r3 + (D i 0 b + (D (j + 1) 0 b + D (m - 10 - i - (j + 1)) 0 b))) (i := j - 1) (by omega)
    simp only [Nat.sub_add_cancel h2] at q2
    rw [show m - 10 - i - j = k by omega] at q2
    exact dcl_z (by unfold dcl0; exact le_mx (Or.inr (le_mx (Or.inr (le_mx (Or.inr (le_mx (Or.inr (Nat.le_trans q2 q)))))))))
  · intro i j m w b h1 h2 h3 h4 h5
    rw [cell (m := m) (by omega) h4, gt (m := m) (w := w) h1 (by omega), gt (m := m) (w := w) h2 (by omega)]
    exact dcl_or h1 h2 h3 h5
end PmX4
