/-! ANY TERM IN THE TABLE: arguments and values on the way. -/
/-- what is asked of the numbers -/
def DHy (un : Bool) (a5 t0 fn s2 r0 r1 r2 r3 mt : Nat) (n1 h V gy : Nat → Nat) (Z H : Nat → Nat → Nat) (E : Stk → Nat) (D : Nat → Nat → Nat → Nat) : Prop :=
  (mt ≤ 30 ∧ a5 ≤ 5) ∧ n1 1 ≤ fn ∧ (∀ m, m < 8 → n1 (8 + m) ≤ (if nlb m = 0 then r0 else if nlb m = 1 then r1 else if nlb m = 2 then r2 else r3)) ∧ DPc un a5 mt fn s2 r0 r1 r2 r3 V Z H D ∧
  (∀ b π w, π ≠ [] → SKb Z gy b π w → b + w + 1 ≤ mt → E π ≤ H b w) ∧
  (∀ (A : Ty) (ω : List Nat) (b : Nat), ok ω.length A = true → tch A + b + 2 ≤ mt → (∀ j, j < ω.length → vw ω j ≤ gy b) → (∀ ρ, ρ ≠ [] → vz t0 n1 s2 h E A ρ ω ≤ E ρ) ∧ nz t0 n1 s2 h ω A ≤ Z b (tch A)) ∧
  (∀ b j, 1 ≤ j → j + 4 ≤ b → b ≤ mt → Z b j ≤ V b) ∧ (∀ b b', b ≤ b' → V b ≤ V b') ∧
  (∀ b b', b ≤ b' → gy b ≤ gy b') ∧ (∀ b b' s s', b ≤ b' → s ≤ s' → Z b s ≤ Z b' s') ∧
  (∀ (A : Ty) (ω : List Nat) (b : Nat), ok ω.length A = true → b + tch A + 4 ≤ 38 → (∀ j, j < ω.length → vw ω j ≤ gy b) → h (nz t0 n1 s2 h ω A) ≤ gy (b + tch A + 4) ∧ nz t0 n1 s2 h ω A ≤ gy (b + tch A + 4))
section PmX2
variable {un : Bool} {a5 t0 fn s2 r0 r1 r2 r3 mt : Nat} {n1 h V gy : Nat → Nat} {Z H : Nat → Nat → Nat} {E : Stk → Nat} {D : Nat → Nat → Nat → Nat}
theorem DHy.gm (dh : DHy un a5 t0 fn s2 r0 r1 r2 r3 mt n1 h V gy Z H E D) : ∀ b b', b ≤ b' → gy b ≤ gy b' := dh.2.2.2.2.2.2.2.2.1
theorem DHy.zm (dh : DHy un a5 t0 fn s2 r0 r1 r2 r3 mt n1 h V gy Z H E D) : ∀ b b' s s', b ≤ b' → s ≤ s' → Z b s ≤ Z b' s' := dh.2.2.2.2.2.2.2.2.2.1
theorem DHy.gr (dh : DHy un a5 t0 fn s2 r0 r1 r2 r3 mt n1 h V gy Z H E D) : ∀ (A : Ty) (ω : List Nat) (b : Nat), ok ω.length A = true → b + tch A + 4 ≤ 38 → (∀ j, j < ω.length → vw ω j ≤ gy b) → h (nz t0 n1 s2 h ω A) ≤ gy (b + tch A + 4) ∧ nz t0 n1 s2 h ω A ≤ gy (b + tch A + 4) := dh.2.2.2.2.2.2.2.2.2.2
theorem DHy.tx (dh : DHy un a5 t0 fn s2 r0 r1 r2 r3 mt n1 h V gy Z H E D) : ∀ (A : Ty) (ω : List Nat) (b : Nat), ok ω.length A = true → tch A + b + 2 ≤ mt → (∀ j, j < ω.length → vw ω j ≤ gy b) → (∀ ρ, ρ ≠ [] → vz t0 n1 s2 h E A ρ ω ≤ E ρ) ∧ nz t0 n1 s2 h ω A ≤ Z b (tch A) := dh.2.2.2.2.2.1
theorem DHy.dc (dh : DHy un a5 t0 fn s2 r0 r1 r2 r3 mt n1 h V gy Z H E D) : DPc un a5 mt fn s2 r0 r1 r2 r3 V Z H D := dh.2.2.2.1
theorem DHy.vb (dh : DHy un a5 t0 fn s2 r0 r1 r2 r3 mt n1 h V gy Z H E D) : ∀ b j, 1 ≤ j → j + 4 ≤ b → b ≤ mt → Z b j ≤ V b := dh.2.2.2.2.2.2.1
theorem DHy.vm (dh : DHy un a5 t0 fn s2 r0 r1 r2 r3 mt n1 h V gy Z H E D) : ∀ b b', b ≤ b' → V b ≤ V b' := dh.2.2.2.2.2.2.2.1
theorem DHy.de (dh : DHy un a5 t0 fn s2 r0 r1 r2 r3 mt n1 h V gy Z H E D) : ∀ b π w, π ≠ [] → SKb Z gy b π w → b + w + 1 ≤ mt → E π ≤ H b w := dh.2.2.2.2.1
theorem vw_gyx {gy : Nat → Nat} (gm : ∀ b b', b ≤ b' → gy b ≤ gy b') {ω : List Nat} {v b b' : Nat} (hw : ∀ j, j < ω.length → vw ω j ≤ gy b) (hv : v ≤ gy b') (hb : b ≤ b') : ∀ j, j < (v :: ω).length → vw (v :: ω) j ≤ gy b' := by
  intro j hj
  rw [vw_cons]
  by_cases e : j = ω.length
  · rw [if_pos e]; exact hv
  · rw [if_neg e]
    have := hw j (by rw [List.length_cons] at hj; omega)
    have := gm b b' hb
    omega
/-- all arguments and bounds -/
theorem DQa (dh : DHy un a5 t0 fn s2 r0 r1 r2 r3 mt n1 h V gy Z H E D) : ∀ (f : Nat) (t : Ty) (π : Stk) (ω : List Nat) (Γ : List Ty) (sc : List Nat) (w b : Nat), TWf f Γ.length sc t → ω.length = Γ.length → (∀ j, j < ω.length → vw ω j ≤ gy b) → mch t + w + b ≤ mt → (π ≠ [] → SKb Z gy b π w) → AQh t0 n1 s2 h E (fun s => Z mt (s - 2)) f t π ω
  | 0, _, _, _, _, _, _, _, w, _, _, _, _ => w.elim
  | f + 1, t, π, ω, Γ, sc, w, b, tw, hl, hw, hmw, sk => by
    have ih := fun u π' ω' Γ' sc' w' b' => DQa dh f u π' ω' Γ' sc' w' b'
    have m34 := dh.1.1
    have gm := dh.gm
    have Zm := dh.zm
    have mpos : ∀ D sc (u : Ty), TWf f D sc u → 1 ≤ mch u := by
      intro D sc u wu
      cases f with
      | zero => exact wu.elim
      | succ f => exact mch_pos wu
    obtain ⟨w0, w5, w6, w7, w8, w9, w10, w11, w12⟩ := tw
    have em := mch_is w0.2.1
    refine ⟨fun c6 => ?_, fun c7 => ?_, fun c8 => ?_, fun c9 => ?_, fun c10 gg hg' hb => ?_, fun c12 => ?_⟩
    · obtain ⟨-, x1, x2, x3⟩ := w6 c6
      rw [if_neg (by omega), if_pos (Or.inl c6)] at em
      refine ⟨fun e' => ?_, fun ρ e' => ?_⟩
      · exact ih _ _ _ _ _ 0 b x3 hl hw (by omega) (fun e => absurd rfl e)
      · subst e'
        have s := sk (by simp)
        exact ih _ _ _ _ _ (w - 2) b x3 hl hw (by omega) (fun _ => s.2)
    · have x1 : TWf f Γ.length sc (nX t) := by
        rcases c7 with c | c
        · exact (w7 (Or.inl c)).1
        · exact (w11 c).2
      have em2 : mch (nX t) + 2 ≤ mch t := by
        rcases c7 with c | c
        · rw [if_neg (by rw [c]; decide), if_neg (by rw [c]; decide), if_neg (by rw [c]; decide), if_neg (by rw [c]; decide)] at em
          omega
        · rw [if_neg (by rw [c]; decide), if_neg (by rw [c]; decide), if_neg (by rw [c]; decide), if_neg (by rw [c]; decide)] at em
          omega
      refine ih _ _ _ _ _ (w + 2) b x1 hl hw (by omega) (fun _ => ⟨by omega, ?_⟩)
      rw [Nat.add_sub_cancel]
      cases π with
      | nil => exact trivial
      | cons o ρ => exact sk (by simp)
    · obtain ⟨x1, x2, x3⟩ := w8 c8
      rw [if_neg (by omega), if_pos (Or.inr c8)] at em
      have mp := mpos _ _ _ x3
      have tp := tch_pos x1
      have o1 : ok ω.length (nX t) = true := by rw [hl]; exact x1
      have tx := dh.tx (nX t) ω b o1 (by omega) hw
      have g := dh.gr (nX t) ω b o1 (by omega) hw
      refine ⟨tx.1, fun e' => ?_, fun z ρ e' => ?_⟩
      · exact ih (nY t) [] _ (nX t :: Γ) sc 0 (b + tch (nX t) + 4) x3 (by rw [List.length_cons, List.length_cons, hl]) (vw_gyx gm hw g.1 (by omega)) (by omega) (fun e => absurd rfl e)
      · subst e'
        obtain ⟨s, s1, s2', s3, s4⟩ := sk (by simp)
        have k1 := gm (b + s + 4) (b + tch (nX t) + 4 + s) (by omega)
        have k2 := gm (b + tch (nX t) + 4) (b + tch (nX t) + 4 + s) (by omega)
        have g1 := g.1
        have s32 := s3.2
        exact ih (nY t) ρ _ (nX t :: Γ) sc (w - (s + 1)) (b + tch (nX t) + 4 + s) x3 (by rw [List.length_cons, List.length_cons, hl]) (vw_gyx gm hw (by unfold hzx; omega) (by omega)) (by omega) (fun _ => SKb.mono Zm gm (by omega) ρ _ _ s4 (Nat.le_refl _))
    · obtain ⟨x1, x2, x3⟩ := w9 c9
      rw [if_neg (by omega), if_neg (by omega), if_pos c9] at em
      have mp := mpos _ _ _ x1
      have tp := tch_pos x2
      have o2 : ok ω.length (nY t) = true := by rw [hl]; exact x2
      have tx := dh.tx (nY t) ω b o2 (by omega) hw
      have g := dh.gr (nY t) ω b o2 (by omega) hw
      refine ⟨⟨tx.1, ?_⟩, ?_⟩
      · show _ ≤ Z mt (tch (nY t) + 2 - 2)
        rw [Nat.add_sub_cancel]
        exact Nat.le_trans tx.2 (Zm _ _ _ _ (by omega) (Nat.le_refl _))
      · refine ih _ _ _ _ _ (w + (tch (nY t) + 1)) b x1 hl hw (by omega) (fun _ => ⟨tch (nY t), tp, by omega, ⟨tx.2, g.2⟩, ?_⟩)
        rw [Nat.add_sub_cancel]
        cases π with
        | nil => exact trivial
        | cons o ρ => exact sk (by simp)
    · obtain ⟨m8, x1⟩ := w10 c10
      rw [if_neg (by omega), if_neg (by omega), if_neg (by omega), if_pos c10] at em
      have sub : mch (nP t gg) ≤ mch t := by
        rcases (show gg = 0 ∨ gg = 1 ∨ gg = 2 by omega) with rfl | rfl | rfl
        · show mch (nX t) ≤ _; omega
        · show mch (nY t) ≤ _; omega
        · show mch (nZ t) ≤ _; omega
      refine ⟨fun e' => ?_, fun ρ e' => ?_⟩
      · exact ih _ _ _ _ _ 0 b (x1 gg hg' hb) hl hw (by omega) (fun e => absurd rfl e)
      · subst e'
        have s := sk (by simp)
        exact ih _ _ _ _ _ (w - 2) b (x1 gg hg' hb) hl hw (by omega) (fun _ => s.2)
    · obtain ⟨x1, x2⟩ := w7 (Or.inr c12)
      rw [if_neg (by omega), if_neg (by omega), if_neg (by omega), if_neg (by omega)] at em
      exact ⟨ih _ _ _ _ _ w b x1 hl hw (by omega) sk, ih _ _ _ _ _ w b x2 hl hw (by omega) sk⟩
end PmX2
