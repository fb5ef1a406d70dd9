/-! A TERM OF SIX CHARACTERS WITH A SCHEME OF BOUND TOP: /P:A>x. -/
section PmZ8
variable {f : Nat} {u : Ty} {Γ : List Ty} {Δ : List (Nat × Ty × Nat)}
theorem nat_tabs (w : TWf (f + 1) Γ.length (Δ.map (fun a => a.1)) u) (he : TE Γ Δ) (k8 : nKd u = 8) (no : NOp f (nY u)) (hb : cch Γ + (tch (nX u) + 4) + dch Δ + 2 * mch (nY u) ≤ 58) : NtV Γ Δ (f + 1) u 887 597 := by
  obtain ⟨-, -, -, -, w8, -, -, -, -⟩ := w
  obtain ⟨o, l, wy⟩ := w8 k8
  have he' : TE (nX u :: Γ) Δ := he.all o l
  intro S hS
  rw [tyF, if_neg (by omega), if_neg (by omega), if_neg (by omega), if_pos k8] at hS
  obtain ⟨B, hB, h2⟩ := tbd_in hS
  have e := (szt_in h2).1
  have hc : cch (nX u :: Γ) + dch Δ + 2 * mch (nY u) ≤ 58 := by
    show (tch (nX u) + 4) + cch Γ + dch Δ + 2 * mch (nY u) ≤ 58
    omega
  rw [← e]
  refine ⟨fun b => ?_, ?_⟩
  · have q := first_rows b wy he' (NOp_EX f _ _ _ no) hB hc
    rw [nz_all]
    have q : nz 0 (fun _ => 1 + 1) (2 + 1) (vlr b 1) (vlr b 1 (nz 0 (fun _ => 1 + 1) (2 + 1) (vlr b 1) (onz 0 (fun _ => 1 + 1) (2 + 1) (vlr b 1) Γ) (nX u)) :: onz 0 (fun _ => 1 + 1) (2 + 1) (vlr b 1) Γ) B ≤ 570 := q
    omega
  · have q := first_goals wy he' (NOp_EX f _ _ _ no) hB hc
    rw [nz_all]
    have q : nz 1 ngc 1 (fun x => x) ((nz 1 ngc 1 (fun x => x) (onz 1 ngc 1 (fun x => x) Γ) (nX u)) :: onz 1 ngc 1 (fun x => x) Γ) B ≤ 430 := q
    omega
theorem NHt_six {f D : Nat} {sc : List Nat} {t : Ty} (w : TWf f D sc t) (h : mch t ≤ 5) : NHt 0 f t := by
  obtain ⟨a, b, c, l, h1, -, -⟩ := chr_min f D sc t w
  exact h1.resolve_right (by omega)
theorem fl_six {f D : Nat} {sc : List Nat} {t : Ty} (w : TWf f D sc t) (n : ¬ NHt 0 f t) (h6 : mch t ≤ 6) : ∃ g, f = g + 1 ∧ nKd t = 8 ∧ tch (nX t) = 1 ∧ mch (nY t) = 1 ∧ NOp g (nY t) := by
  cases f with
  | zero => exact w.elim
  | succ f =>
    obtain ⟨⟨kk, e, nl, -⟩, w5, w6, w7, w8, w9, w10, w11, -⟩ := w
    have em := mch_is e
    have pos : ∀ {u : Ty} {D : Nat} {sc : List Nat}, TWf f D sc u → 1 ≤ mch u := by
      intro u D sc w
      cases f with
      | zero => exact w.elim
      | succ f => exact mch_pos w
    by_cases k8 : nKd t = 8
    · rw [if_neg (by omega), if_pos (Or.inr k8)] at em
      obtain ⟨o, -, wy⟩ := w8 k8
      have p := tch_pos o
      have q := pos wy
      obtain ⟨a, b, c, l, -, -, h3⟩ := chr_min f _ _ _ wy
      exact ⟨f, rfl, k8, by omega, by omega, h3.resolve_right (by omega)⟩
    · exfalso
      refine n ⟨fun k => ?_, fun k => ?_, fun k => absurd k k8, fun k => ?_, fun k g hg hb => ?_, fun k => ?_⟩
      · rw [if_neg (by omega), if_pos (Or.inl k)] at em
        obtain ⟨-, o, -, wy⟩ := w6 k
        have q := pos wy
        refine ⟨?_, NHt_six wy (by omega)⟩
        cases hn : noh 0 (nX t) with
        | true => rfl
        | false => have := noh_six o hn; omega
      · rw [if_neg (by omega), if_neg (by omega), if_neg (by omega), if_neg (by omega)] at em
        obtain ⟨wx, wy⟩ := w7 k
        exact ⟨NHt_six wx (by omega), NHt_six wy (by omega)⟩
      · rw [if_neg (by omega), if_neg (by omega), if_pos k] at em
        obtain ⟨wx, o, -⟩ := w9 k
        have q := pos wx
        have p := tch_pos o
        refine ⟨NHt_six wx (by omega), ?_⟩
        cases hn : noh 0 (nY t) with
        | true => rfl
        | false => have := noh_six o hn; omega
      · rw [if_neg (by omega), if_neg (by omega), if_neg (by omega), if_pos k] at em
        have big : mch (nP t g) ≤ mch (nX t) + (mch (nY t) + mch (nZ t)) := by
          match g, hg with
          | 0, _ => show mch (nX t) ≤ _; omega
          | 1, _ => show mch (nY t) ≤ _; omega
          | 2, _ => show mch (nZ t) ≤ _; omega
        have two : 2 ≤ (if nMk t = 0 then 2 else 1 + 3 * nlb (nMk t)) := by
          have key : ∀ m, m < 8 → 2 ≤ (if m = 0 then 2 else 1 + 3 * nlb m) := by decide
          exact key _ (w10 k).1
        exact NHt_six ((w10 k).2 g hg hb) (by omega)
      · rw [if_neg (by omega), if_neg (by omega), if_neg (by omega), if_neg (by omega)] at em
        exact NHt_six (w11 k).2 (by omega)
/-- so its type is small -/
theorem nat_six (w : TWf f Γ.length (Δ.map (fun a => a.1)) u) (he : TE Γ Δ) (n : ¬ NHt 0 f u) (h6 : mch u ≤ 6) (hb : cch Γ + dch Δ ≤ 51) : NtV Γ Δ f u 887 597 := by
  obtain ⟨g, e, k8, h1, h2, no⟩ := fl_six w n h6
  subst e
  exact nat_tabs w he k8 no (by omega)
end PmZ8
