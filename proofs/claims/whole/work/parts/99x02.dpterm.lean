/-! ANY TERM IN THE TABLE: arguments and values on the way. -/
/-- what is asked of the numbers -/
def DHy (a5 t0 fn s2 r0 r1 r2 r3 V0 mt Yg : Nat) (n1 h Z H gy : Nat → Nat) (E : Stk → Nat) (D : Nat → Nat → Nat) : Prop :=
  (mt ≤ 34 ∧ a5 ≤ 5) ∧ n1 1 ≤ fn ∧ (∀ m, m < 8 → n1 (8 + m) ≤ (if nlb m = 0 then r0 else if nlb m = 1 then r1 else if nlb m = 2 then r2 else r3)) ∧ DPc a5 mt fn s2 r0 r1 r2 r3 V0 Z H D ∧
  (∀ π w, π ≠ [] → SKw Z π w → w + 1 ≤ mt → E π ≤ H w) ∧
  (∀ (A : Ty) (ω : List Nat), ok ω.length A = true → tch A + 2 ≤ mt → (∀ j, j < ω.length → vw ω j ≤ Yg) → (∀ ρ, ρ ≠ [] → vz t0 n1 s2 h E A ρ ω ≤ E ρ) ∧ nz t0 n1 s2 h ω A ≤ Z (tch A)) ∧
  (∀ j, j + 5 ≤ mt → Z j ≤ V0) ∧
  (∀ r r', r ≤ r' → r' ≤ 38 → gy r ≤ gy r') ∧
  (∀ (A : Ty) (ω : List Nat) (r : Nat), ok ω.length A = true → r + tch A + 4 ≤ 38 → (∀ j, j < ω.length → vw ω j ≤ gy r) → h (nz t0 n1 s2 h ω A) ≤ gy (r + tch A + 4) ∧ nz t0 n1 s2 h ω A ≤ gy (r + tch A + 4)) ∧
  (∀ r, r + 3 ≤ mt → gy r ≤ Yg)
section PmX2
variable {a5 t0 fn s2 r0 r1 r2 r3 V0 mt Yg : Nat} {n1 h Z H gy : Nat → Nat} {E : Stk → Nat} {D : Nat → Nat → Nat}
theorem DHy.ext (dh : DHy a5 t0 fn s2 r0 r1 r2 r3 V0 mt Yg n1 h Z H gy E D) {ω : List Nat} {v r r' : Nat} (hw : ∀ j, j < ω.length → vw ω j ≤ gy r) (hv : v ≤ gy r') (hr : r ≤ r') (h38 : r' ≤ 38) : ∀ j, j < (v :: ω).length → vw (v :: ω) j ≤ gy r' := by
  obtain ⟨-, -, -, -, -, -, -, dm, -, -⟩ := dh
  intro j hj
  rw [vw_cons]
  by_cases e : j = ω.length
  · rw [if_pos e]; exact hv
  · rw [if_neg e]
    have := hw j (by rw [List.length_cons] at hj; omega)
    have := dm r r' hr h38
    omega
theorem DHy.txt (dh : DHy a5 t0 fn s2 r0 r1 r2 r3 V0 mt Yg n1 h Z H gy E D) {ω : List Nat} {A : Ty} {r : Nat} (o : ok ω.length A = true) (ht : tch A + 2 ≤ mt) (hr : r + 3 ≤ mt) (hw : ∀ j, j < ω.length → vw ω j ≤ gy r) : (∀ ρ, ρ ≠ [] → vz t0 n1 s2 h E A ρ ω ≤ E ρ) ∧ nz t0 n1 s2 h ω A ≤ Z (tch A) := by
  obtain ⟨-, -, -, -, -, dT, -, -, -, dY⟩ := dh
  exact dT A ω o ht (fun j hj => Nat.le_trans (hw j hj) (dY r hr))
/-- all arguments and bounds -/
theorem DQa (dh : DHy a5 t0 fn s2 r0 r1 r2 r3 V0 mt Yg n1 h Z H gy E D) : ∀ (f : Nat) (t : Ty) (π : Stk) (ω : List Nat) (Γ : List Ty) (sc : List Nat) (r q : Nat), TWf f Γ.length sc t → ω.length = Γ.length → (∀ j, j < ω.length → vw ω j ≤ gy r) → zm π ≤ gy q → r + mch t ≤ mt → q + mch t ≤ mt + 3 → AQh t0 n1 s2 h E (fun s => Z (s - 2)) f t π ω
  | 0, _, _, _, _, _, _, _, w, _, _, _, _, _ => w.elim
  | f + 1, t, π, ω, Γ, sc, r, q, w, hl, hw, hz, hr, hq => by
    have ih := fun u π' ω' Γ' sc' r' q' => DQa dh f u π' ω' Γ' sc' r' q'
    have m34 := dh.1.1
    have dm := dh.2.2.2.2.2.2.2.1
    have dg := dh.2.2.2.2.2.2.2.2.1
    have mpos : ∀ D sc (u : Ty), TWf f D sc u → 1 ≤ mch u := by
      intro D sc u wu
      cases f with
      | zero => exact wu.elim
      | succ f => exact mch_pos wu
    obtain ⟨w0, w5, w6, w7, w8, w9, w10, w11, w12⟩ := w
    have em := mch_is w0.2.1
    refine ⟨fun c6 => ?_, fun c7 => ?_, fun c8 => ?_, fun c9 => ?_, fun c10 gg hg' hb => ?_, fun c12 => ?_⟩
    · obtain ⟨-, x1, x2, x3⟩ := w6 c6
      rw [if_neg (by omega), if_pos (Or.inl c6)] at em
      refine ⟨fun e' => ?_, fun ρ e' => ?_⟩
      · exact ih _ _ _ _ _ r 0 x3 hl hw (Nat.zero_le _) (by omega) (by omega)
      · subst e'
        exact ih _ _ _ _ _ r q x3 hl hw hz (by omega) (by omega)
    · have x1 : TWf f Γ.length sc (nX t) := by
        rcases c7 with c | c
        · exact (w7 (Or.inl c)).1
        · exact (w11 c).2
      have em2 : mch (nX t) ≤ mch t := by
        rcases c7 with c | c
        · rw [if_neg (by rw [c]; decide), if_neg (by rw [c]; decide), if_neg (by rw [c]; decide), if_neg (by rw [c]; decide)] at em
          omega
        · rw [if_neg (by rw [c]; decide), if_neg (by rw [c]; decide), if_neg (by rw [c]; decide), if_neg (by rw [c]; decide)] at em
          omega
      exact ih _ _ _ _ _ r q x1 hl hw hz (by omega) (by omega)
    · obtain ⟨x1, x2, x3⟩ := w8 c8
      rw [if_neg (by omega), if_pos (Or.inr c8)] at em
      have mp := mpos _ _ _ x3
      have tp := tch_pos x1
      have o1 : ok ω.length (nX t) = true := by rw [hl]; exact x1
      have tx := dh.txt o1 (by omega) (by omega) hw
      have g := dg (nX t) ω r o1 (by omega) hw
      refine ⟨tx.1, fun e' => ?_, fun z ρ e' => ?_⟩
      · exact ih (nY t) [] _ (nX t :: Γ) sc (r + tch (nX t) + 4) 0 x3 (by rw [List.length_cons, List.length_cons, hl]) (dh.ext hw g.1 (by omega) (by omega)) (Nat.zero_le _) (by omega) (by omega)
      · subst e'
        have z1 : z ≤ gy q := Nat.le_trans (Nat.le_max_left z (zm ρ)) hz
        have z2 : zm ρ ≤ gy q := Nat.le_trans (Nat.le_max_right z (zm ρ)) hz
        have k1 := dm q (max q (r + tch (nX t) + 4)) (Nat.le_max_left _ _) (by omega)
        have k2 := dm (r + tch (nX t) + 4) (max q (r + tch (nX t) + 4)) (Nat.le_max_right _ _) (by omega)
        exact ih (nY t) ρ _ (nX t :: Γ) sc (max q (r + tch (nX t) + 4)) q x3 (by rw [List.length_cons, List.length_cons, hl]) (dh.ext (r' := max q (r + tch (nX t) + 4)) hw (by
          have g1 := g.1
          unfold hzx; omega) (by omega) (by omega)) z2 (by omega) (by omega)
    · obtain ⟨x1, x2, x3⟩ := w9 c9
      rw [if_neg (by omega), if_neg (by omega), if_pos c9] at em
      have mp := mpos _ _ _ x1
      have tp := tch_pos x2
      have o2 : ok ω.length (nY t) = true := by rw [hl]; exact x2
      have tx := dh.txt o2 (by omega) (by omega) hw
      have g := dg (nY t) ω r o2 (by omega) hw
      refine ⟨⟨tx.1, ?_⟩, ?_⟩
      · show _ ≤ Z (tch (nY t) + 2 - 2)
        rw [Nat.add_sub_cancel]; exact tx.2
      · have k1 := dm q (max q (r + tch (nY t) + 4)) (Nat.le_max_left _ _) (by omega)
        have k2 := dm (r + tch (nY t) + 4) (max q (r + tch (nY t) + 4)) (Nat.le_max_right _ _) (by omega)
        exact ih _ _ _ _ _ r (max q (r + tch (nY t) + 4)) x1 hl hw (by
          show max _ (zm π) ≤ _
          have g2 := g.2
          omega) (by omega) (by omega)
    · obtain ⟨m8, x1⟩ := w10 c10
      rw [if_neg (by omega), if_neg (by omega), if_neg (by omega), if_pos c10] at em
      have sub : mch (nP t gg) ≤ mch t := by
        rcases (show gg = 0 ∨ gg = 1 ∨ gg = 2 by omega) with rfl | rfl | rfl
        · show mch (nX t) ≤ _; omega
        · show mch (nY t) ≤ _; omega
        · show mch (nZ t) ≤ _; omega
      refine ⟨fun e' => ?_, fun ρ e' => ?_⟩
      · exact ih _ _ _ _ _ r 0 (x1 gg hg' hb) hl hw (Nat.zero_le _) (by omega) (by omega)
      · subst e'
        exact ih _ _ _ _ _ r q (x1 gg hg' hb) hl hw hz (by omega) (by omega)
    · obtain ⟨x1, x2⟩ := w7 (Or.inr c12)
      rw [if_neg (by omega), if_neg (by omega), if_neg (by omega), if_neg (by omega)] at em
      exact ⟨ih _ _ _ _ _ r q x1 hl hw hz (by omega) (by omega), ih _ _ _ _ _ r q x2 hl hw hz (by omega) (by omega)⟩
end PmX2
