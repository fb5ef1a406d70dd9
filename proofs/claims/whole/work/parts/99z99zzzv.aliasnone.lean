/-! CONTEXTS WITH AN ALIAS IN WHICH OPERATIONS REACH NO SCHEME: short terms; what is left then (RSTg1). -/
theorem q0c_get {m c : Nat} (m3 : 3 ≤ m) (m13 : m ≤ 13) (h47 : c ≤ 47) : q0c m c = true := by
  have hm : m = 3 ∨ m = 4 ∨ m = 5 ∨ m = 6 ∨ m = 7 ∨ m = 8 ∨ m = 9 ∨ m = 10 ∨ m = 11 ∨ m = 12 ∨ m = 13 := by omega
  rcases hm with rfl | rfl | rfl | rfl | rfl | rfl | rfl | rfl | rfl | rfl | rfl
  · exact rng_all q0c_3 (by omega)
  · exact rng_all q0c_4 (by omega)
  · exact rng_all q0c_5 (by omega)
  · exact rng_all q0c_6 (by omega)
  · exact rng_all q0c_7 (by omega)
  · exact rng_all q0c_8 (by omega)
  · exact rng_all q0c_9 (by omega)
  · exact rng_all q0c_10 (by omega)
  · exact rng_all q0c_11 (by omega)
  · exact rng_all q0c_12 (by omega)
  · exact rng_all q0c_13 (by omega)
theorem q0c_val {m c : Nat} (m3 : 3 ≤ m) (m13 : m ≤ 13) (h20 : 20 ≤ c) (h47 : c ≤ 47) (hb : c + 2 * m ≤ 53) : (6 ≤ m → T0RQ true true 0 0 m (fx1.getD c 0) ∧ T0GQ true true 0 0 m (fxq.getD c 0)) ∧ (5 ≤ 53 - 2 * m - c → m ≤ 8 → T0RQ true false 0 (53 - 2 * m - c) m (fx1.getD c 0) ∧ T0GQ true false 0 (53 - 2 * m - c) m (fxq.getD c 0)) := by
  have q := q0c_get m3 m13 h47
  unfold q0c at q
  rw [Bool.or_eq_true, Bool.or_eq_true, Bool.and_eq_true, Bool.and_eq_true, Bool.and_eq_true, Bool.or_eq_true, Bool.or_eq_true, Bool.and_eq_true] at q
  rcases q with q | q | ⟨y1, ⟨y2, q1⟩, q2⟩
  · exact (blt_no h20 q).elim
  · exact (blt_no hb q).elim
  have y1 := Nat.le_of_ble_eq_true y1
  have y2 := Nat.le_of_ble_eq_true y2
  refine ⟨fun m6 => ?_, fun h5 m8 => ?_⟩
  · rw [if_pos (Nat.ble_eq_true_of_le m6), Bool.and_eq_true] at q1
    exact ⟨⟨y1, fun e => (by cases e), fun _ => Nat.le_of_ble_eq_true q1.1⟩, ⟨y2, fun e => (by cases e), fun _ => Nat.le_of_ble_eq_true q1.2⟩⟩
  · rcases q2 with (q2 | q2) | q2
    · exact (blt_no h5 q2).elim
    · exact (blt_no m8 q2).elim
    exact ⟨⟨y1, fun _ _ => Nat.le_of_ble_eq_true q2.1, fun e => (by cases e)⟩, ⟨y2, fun _ _ => Nat.le_of_ble_eq_true q2.2, fun e => (by cases e)⟩⟩
/-- terms that are short enough to have no choice under arguments -/
def ShQ (f : Nat) (t : Ty) (Δ : List (Nat × Ty × Nat)) : Prop := (Δ = [] ∧ mch t ≤ 13) ∨ (Δ.length = 1 ∧ mch t ≤ 8) ∨ (Δ ≠ [] ∧ mch t ≤ 7)
section PmZv1a
variable {f : Nat} {t : Ty} {Γ : List Ty} {Δ : List (Nat × Ty × Nat)}
theorem nosch_Q (w : TWf f Γ.length (Δ.map (fun a => a.1)) t) (he : TE Γ Δ) (tn : TNo f t) (no : ¬ NOp f t) (i : ∀ b ∈ Γ, IS2 (fun _ => False) b) (m3 : 3 ≤ mch t) (h20 : 20 ≤ ccq Γ) (hb : ccq Γ + dch Δ + 2 * mch t ≤ 53) (k : ShQ f t Δ) : NtQ Γ Δ f t 780 597 := by
  intro S hS
  have ch : CHo f t [] := by
    rcases k with ⟨e, m⟩ | ⟨e, m⟩ | ⟨e, m⟩
    · subst e
      exact cl_thirteen he.1 w tn hS m
    · obtain ⟨a, rfl⟩ := List.length_eq_one_iff.mp e
      refine Classical.byContradiction (fun n => ?_)
      have := cho_min9 _ _ _ _ _ w tn n
      simp only [List.length_nil] at this
      omega
    · refine Classical.byContradiction (fun n => ?_)
      have := cho_min _ _ _ _ _ w n
      simp only [List.length_nil] at this
      omega
  have m13 : mch t ≤ 13 := by
    rcases k with ⟨e, m⟩ | ⟨e, m⟩ | ⟨e, m⟩ <;> omega
  by_cases e : Δ = []
  · have m6 : 6 ≤ mch t := by
      subst e
      rcases Nat.lt_or_ge (mch t) 8 with q | q
      · exact absurd (cl_op f t Γ S w he.1 tn hS (by omega)) no
      · omega
    obtain ⟨q, -⟩ := q0c_val (m := mch t) (c := ccq Γ) m3 m13 h20 (by omega) (by omega)
    exact zone_0iQ (un := true) (e := true) (ob := 0) (cd := 0) w he (Or.inl ⟨rfl, e⟩) (Or.inl rfl) ch (by omega) (by rw [e]; exact Nat.le_refl _) (by decide) i (by omega) (q m6).1 (q m6).2 S hS
  · have d5 := dch_five he e
    have m8 : mch t ≤ 8 := by
      rcases k with ⟨e', m⟩ | ⟨e', m⟩ | ⟨e', m⟩
      · exact absurd e' e
      · exact m
      · omega
    obtain ⟨-, q⟩ := q0c_val (m := mch t) (c := ccq Γ) m3 m13 h20 (by omega) (by omega)
    have q := q (by omega) m8
    exact zone_0iQ (un := true) (e := false) (ob := 0) (cd := 53 - 2 * mch t - ccq Γ) w he (Or.inr ⟨rfl, e⟩) (Or.inl rfl) ch (by omega) (by omega) (by omega) i (by omega) q.1 q.2 S hS
end PmZv1a
def LeftGb (f : Nat) (t : Ty) (Γ : List Ty) (Δ : List (Nat × Ty × Nat)) : Prop := ((∀ b ∈ Γ, IS2 (fun _ => False) b) ∧ ¬ ShQ f t Δ) ∨ ∃ (Δ1 Γ0 : List Ty) (b b' B C : Ty), Γ = cxs Δ1 Γ0 b ∧ LBd Γ0 Δ1 b b' B C ∧ ¬ IS2 (fun _ => False) b ∧ inBA Δ.isEmpty (ccq Γ) (mch t) (tch B) (tch C) (tch b - tch (tAll B C)) (ccq Γ0) (ccq Δ1) = true
def RSTg1 : Prop := ∀ (f : Nat) (x y : Ty) (Γ : List Ty) (Δ : List (Nat × Ty × Nat)), TWf f Γ.length (Δ.map (fun a => a.1)) x → TWf f Γ.length (Δ.map (fun a => a.1)) y → TE Γ Δ → NAt f x → NAt f y → noaw Γ → (∀ a ∈ Δ, noal a.2.1 = true) → 1 ≤ nal Γ → TNo f x → TNo f y → cch Γ + dch Δ + (2 + (mch x + mch y)) ≤ 60 → (¬ (∀ j, j < Γ.length → vw (lsf fa Γ) j ≤ 1)) ∨ (20 ≤ ccq Γ ∧ 3 ≤ mch x ∧ 3 ≤ mch y ∧ (mch x ≤ mch y → ¬ NOp f x ∧ LeftGb f x Γ Δ) ∧ (¬ mch x ≤ mch y → ¬ NOp f y ∧ LeftGb f y Γ Δ)) → PRn f x y Γ Δ
theorem rstg_of (R : RSTg1) : RSTg := by
  intro f x y Γ Δ x1 x2 he y1 y2 hv hd' ha tx ty hb h
  have rest := R f x y Γ Δ x1 x2 he y1 y2 hv hd' ha tx ty hb
  by_cases hM : ∀ j, j < Γ.length → vw (lsf fa Γ) j ≤ 1
  rotate_left
  · exact rest (Or.inl hM)
  rcases h with h | ⟨h20, mx, my, hx, hy⟩
  · exact absurd hM h
  have ec := ccq_nal he.1
  have one : ∀ {t : Ty}, TWf f Γ.length (Δ.map (fun a => a.1)) t → TNo f t → ¬ NOp f t → 3 ≤ mch t → ccq Γ + dch Δ + 2 * mch t ≤ 53 → LeftGa f t Γ Δ → NtQ Γ Δ f t 780 597 ∨ LeftGb f t Γ Δ := by
    intro t w tn no m3 hb' l
    rcases l with i | l
    · by_cases k : ShQ f t Δ
      · exact Or.inl (nosch_Q w he tn no i m3 h20 hb' k)
      · exact Or.inr (Or.inl ⟨i, k⟩)
    · exact Or.inr (Or.inr l)
  have c56 : cch Γ ≤ 56 := by omega
  by_cases c : mch x ≤ mch y
  · obtain ⟨no, l⟩ := hx c
    rcases one x1 tx no mx (by omega) l with z | z
    · exact pair_M1 x1 x2 he y1 y2 hv hd' c56 hM (Or.inl (z.le (by decide) (by decide)))
    · exact rest (Or.inr ⟨h20, mx, my, fun _ => ⟨no, z⟩, fun c' => absurd c c'⟩)
  · obtain ⟨no, l⟩ := hy c
    rcases one x2 ty no my (by omega) l with z | z
    · exact pair_M1 x1 x2 he y1 y2 hv hd' c56 hM (Or.inr (z.le (by decide) (by decide)))
    · exact rest (Or.inr ⟨h20, mx, my, fun c' => absurd c' c, fun _ => ⟨no, z⟩⟩)
