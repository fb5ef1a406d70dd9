/-! ONE BINDER THAT IS NO SCHEME ITSELF, names around: what the lists leave. -/
theorem chkB_pre : ∀ (a σ : List Bool), chkB (a ++ σ) = true → chkB a = true
  | [], _, _ => rfl
  | false :: a, σ, h => chkB_pre a σ h
  | true :: a, σ, h => by
    have h : (a ++ σ).isEmpty = true := h
    show a.isEmpty = true
    rw [List.isEmpty_iff] at h ⊢
    exact (List.append_eq_nil_iff.mp h).1
theorem CHo_pre : ∀ (f : Nat) (t : Ty) (a σ : List Bool), CHo f t (a ++ σ) → CHo f t a
  | 0, _, _, _, _ => trivial
  | f + 1, t, a, σ, ⟨h6, h7, h9, h10, h12⟩ => by
    have tl : ∀ u, CHo f u (a ++ σ).tail → CHo f u a.tail := by
      intro u hu
      cases a with
      | nil => exact CHo_pre f u [] σ.tail hu
      | cons b a => exact CHo_pre f u a σ hu
    exact ⟨fun c => tl _ (h6 c), fun c => CHo_pre f _ (false :: a) σ (h7 c), fun c => CHo_pre f _ (true :: a) σ (h9 c), fun c g hg hb => tl _ (h10 c g hg hb), fun c => ⟨chkB_pre a σ (h12 c).1, CHo_pre f _ a σ (h12 c).2.1, CHo_pre f _ a σ (h12 c).2.2⟩⟩
theorem pee_cho : ∀ (f : Nat) (t : Ty) (σ : List Bool), CHo f t σ → CHo (pee f t).1 (pee f t).2 []
  | 0, _, _, _ => trivial
  | f + 1, t, σ, h => by
    unfold pee
    by_cases k : nKd t = 7 ∨ nKd t = 11
    · rw [if_pos k]
      exact pee_cho f (nX t) (false :: σ) (h.2.1 k)
    · rw [if_neg k]
      exact CHo_pre (f + 1) t [] σ h
theorem ntv_nop {f : Nat} {t : Ty} {Γ : List Ty} {Δ : List (Nat × Ty × Nat)} (w : TWf f Γ.length (Δ.map (fun a => a.1)) t) (he : TE Γ Δ) (hn : NOp f t) (hb : cch Γ + dch Δ + 2 * mch t ≤ 58) : NtV Γ Δ f t 887 597 := by
  have sh : ShT f t Γ Δ := Or.inl (NOp_EX f t _ _ hn)
  exact fun S hS => ⟨fun b => Nat.le_trans (sh_rows b w he sh hS hb) (by decide), Nat.le_trans (sh_goals w he sh hS hb) (by decide)⟩
theorem pee_small {f : Nat} {t : Ty} {Γ : List Ty} {Δ : List (Nat × Ty × Nat)} (w : TWf f Γ.length (Δ.map (fun a => a.1)) t) (he : TE Γ Δ) (h3 : mch (pee f t).2 < 3) (hb : cch Γ + dch Δ + 2 * mch (pee f t).2 ≤ 58) : NtV Γ Δ f t 887 597 := by
  have w' := (pee_ok f _ _ t w).1.1
  obtain ⟨a, b, c, q, -, -, q2⟩ := chr_min _ _ _ _ w'
  refine NtV_pee f t w he (ntv_nop w' he (q2.resolve_right (by omega)) hb)
/-- one binder, names around; fl: the body holds the very bound -/
def cvo (fl : Bool) (m be k ov : Nat) : Bool := (!fl && Nat.ble ov 7) || (az false m (8 + be + k + ov) || (B1z false m (4 + be + k + ov) 0 0 || (B12z false m be k ov 0 0 || (B6z false m be k ov 0 0 || (fl && (Nat.ble be 16 && (B10z m be k ov 0 0 || (Nat.ble m 5 && (Nat.beq be 1 && (Nat.beq k 31 && Nat.beq ov 3))))))))))
def cva (fl : Bool) (m c : Nat) : Bool := (List.range (c - 8)).all (fun be => Nat.blt be 1 || (List.range (c - 8)).all (fun ov => Nat.blt ov 3 || (Nat.ble (c - 8) (be + ov) || cvo fl m be (c - 8 - be - ov) ov)))
def cvr (fl : Bool) (m a b : Nat) : Bool := (List.range b).all (fun c => Nat.blt c a || cva fl m c)
theorem cv5_t_20 : cva true 5 20 = true := by decide +kernel
theorem cv5_t_21 : cva true 5 21 = true := by decide +kernel
theorem cv5_t_22 : cva true 5 22 = true := by decide +kernel
theorem cv5_t_23 : cva true 5 23 = true := by decide +kernel
theorem cv5_t_24 : cva true 5 24 = true := by decide +kernel
theorem cv5_t_25 : cva true 5 25 = true := by decide +kernel
theorem cv5_t_26 : cva true 5 26 = true := by decide +kernel
theorem cv5_t_27 : cva true 5 27 = true := by decide +kernel
theorem cv5_t_28 : cva true 5 28 = true := by decide +kernel
theorem cv5_t_29 : cva true 5 29 = true := by decide +kernel
theorem cv5_t_30 : cva true 5 30 = true := by decide +kernel
theorem cv5_t_31 : cva true 5 31 = true := by decide +kernel
theorem cv5_t_32 : cva true 5 32 = true := by decide +kernel
theorem cv5_t_33 : cva true 5 33 = true := by decide +kernel
theorem cv5_t_34 : cva true 5 34 = true := by decide +kernel
theorem cv5_t_35 : cva true 5 35 = true := by decide +kernel
theorem cv5_t_36 : cva true 5 36 = true := by decide +kernel
theorem cv5_t_37 : cva true 5 37 = true := by decide +kernel
theorem cv5_t_38 : cva true 5 38 = true := by decide +kernel
theorem cv5_t_39 : cva true 5 39 = true := by decide +kernel
theorem cv5_t_40 : cva true 5 40 = true := by decide +kernel
theorem cv5_t_41 : cva true 5 41 = true := by decide +kernel
theorem cv5_t_42 : cva true 5 42 = true := by decide +kernel
theorem cv5_t_43 : cva true 5 43 = true := by decide +kernel
theorem cv5_t_44 : cva true 5 44 = true := by decide +kernel
theorem cv5_t_45 : cva true 5 45 = true := by decide +kernel
theorem cv5_t_46 : cva true 5 46 = true := by decide +kernel
theorem cv5_t_47 : cva true 5 47 = true := by decide +kernel
theorem cv5_f_20 : cva false 5 20 = true := by decide +kernel
theorem cv5_f_21 : cva false 5 21 = true := by decide +kernel
theorem cv5_f_22 : cva false 5 22 = true := by decide +kernel
theorem cv5_f_23 : cva false 5 23 = true := by decide +kernel
theorem cv5_f_24 : cva false 5 24 = true := by decide +kernel
theorem cv5_f_25 : cva false 5 25 = true := by decide +kernel
theorem cv5_f_26 : cva false 5 26 = true := by decide +kernel
theorem cv5_f_27 : cva false 5 27 = true := by decide +kernel
theorem cv5_f_28 : cva false 5 28 = true := by decide +kernel
theorem cv5_f_29 : cva false 5 29 = true := by decide +kernel
theorem cv5_f_30 : cva false 5 30 = true := by decide +kernel
theorem cv5_f_31 : cva false 5 31 = true := by decide +kernel
theorem cv5_f_32 : cva false 5 32 = true := by decide +kernel
theorem cv5_f_33 : cva false 5 33 = true := by decide +kernel
theorem cv5_f_34 : cva false 5 34 = true := by decide +kernel
theorem cv5_f_35 : cva false 5 35 = true := by decide +kernel
theorem cv5_f_36 : cva false 5 36 = true := by decide +kernel
theorem cv5_f_37 : cva false 5 37 = true := by decide +kernel
theorem cv5_f_38 : cva false 5 38 = true := by decide +kernel
theorem cv5_f_39 : cva false 5 39 = true := by decide +kernel
theorem cv5_f_40 : cva false 5 40 = true := by decide +kernel
theorem cv5_f_41 : cva false 5 41 = true := by decide +kernel
theorem cv5_f_42 : cva false 5 42 = true := by decide +kernel
theorem cv5_f_43 : cva false 5 43 = true := by decide +kernel
theorem cv5_f_44 : cva false 5 44 = true := by decide +kernel
theorem cv5_f_45 : cva false 5 45 = true := by decide +kernel
theorem cv5_f_46 : cva false 5 46 = true := by decide +kernel
theorem cv5_f_47 : cva false 5 47 = true := by decide +kernel
theorem cv6_t_20 : cva true 6 20 = true := by decide +kernel
theorem cv6_t_21 : cva true 6 21 = true := by decide +kernel
theorem cv6_t_22 : cva true 6 22 = true := by decide +kernel
theorem cv6_t_23 : cva true 6 23 = true := by decide +kernel
theorem cv6_t_24 : cva true 6 24 = true := by decide +kernel
theorem cv6_t_25 : cva true 6 25 = true := by decide +kernel
theorem cv6_t_26 : cva true 6 26 = true := by decide +kernel
theorem cv6_t_27 : cva true 6 27 = true := by decide +kernel
theorem cv6_t_28 : cva true 6 28 = true := by decide +kernel
theorem cv6_t_29 : cva true 6 29 = true := by decide +kernel
theorem cv6_t_30 : cva true 6 30 = true := by decide +kernel
theorem cv6_t_31 : cva true 6 31 = true := by decide +kernel
theorem cv6_t_32 : cva true 6 32 = true := by decide +kernel
theorem cv6_t_33 : cva true 6 33 = true := by decide +kernel
theorem cv6_t_34 : cva true 6 34 = true := by decide +kernel
theorem cv6_t_35 : cva true 6 35 = true := by decide +kernel
theorem cv6_t_36 : cva true 6 36 = true := by decide +kernel
theorem cv6_t_37 : cva true 6 37 = true := by decide +kernel
theorem cv6_t_38 : cva true 6 38 = true := by decide +kernel
theorem cv6_t_39 : cva true 6 39 = true := by decide +kernel
theorem cv6_t_40 : cva true 6 40 = true := by decide +kernel
theorem cv6_t_41 : cva true 6 41 = true := by decide +kernel
theorem cv6_f_20 : cva false 6 20 = true := by decide +kernel
theorem cv6_f_21 : cva false 6 21 = true := by decide +kernel
theorem cv6_f_22 : cva false 6 22 = true := by decide +kernel
theorem cv6_f_23 : cva false 6 23 = true := by decide +kernel
theorem cv6_f_24 : cva false 6 24 = true := by decide +kernel
theorem cv6_f_25 : cva false 6 25 = true := by decide +kernel
theorem cv6_f_26 : cva false 6 26 = true := by decide +kernel
theorem cv6_f_27 : cva false 6 27 = true := by decide +kernel
theorem cv6_f_28 : cva false 6 28 = true := by decide +kernel
theorem cv6_f_29 : cva false 6 29 = true := by decide +kernel
theorem cv6_f_30 : cva false 6 30 = true := by decide +kernel
theorem cv6_f_31 : cva false 6 31 = true := by decide +kernel
theorem cv6_f_32 : cva false 6 32 = true := by decide +kernel
theorem cv6_f_33 : cva false 6 33 = true := by decide +kernel
theorem cv6_f_34 : cva false 6 34 = true := by decide +kernel
theorem cv6_f_35 : cva false 6 35 = true := by decide +kernel
theorem cv6_f_36 : cva false 6 36 = true := by decide +kernel
theorem cv6_f_37 : cva false 6 37 = true := by decide +kernel
theorem cv6_f_38 : cva false 6 38 = true := by decide +kernel
theorem cv6_f_39 : cva false 6 39 = true := by decide +kernel
theorem cv6_f_40 : cva false 6 40 = true := by decide +kernel
theorem cv6_f_41 : cva false 6 41 = true := by decide +kernel
theorem cv10_t_20 : cva true 10 20 = true := by decide +kernel
theorem cv10_t_21 : cva true 10 21 = true := by decide +kernel
theorem cv10_t_22 : cva true 10 22 = true := by decide +kernel
theorem cv10_t_23 : cva true 10 23 = true := by decide +kernel
theorem cv10_t_24 : cva true 10 24 = true := by decide +kernel
theorem cv10_t_25 : cva true 10 25 = true := by decide +kernel
theorem cv10_t_26 : cva true 10 26 = true := by decide +kernel
theorem cv10_t_27 : cva true 10 27 = true := by decide +kernel
theorem cv10_t_28 : cva true 10 28 = true := by decide +kernel
theorem cv10_t_29 : cva true 10 29 = true := by decide +kernel
theorem cv10_t_30 : cva true 10 30 = true := by decide +kernel
theorem cv10_t_31 : cva true 10 31 = true := by decide +kernel
theorem cv10_t_32 : cva true 10 32 = true := by decide +kernel
theorem cv10_t_33 : cva true 10 33 = true := by decide +kernel
theorem cv10_f_20 : cva false 10 20 = true := by decide +kernel
theorem cv10_f_21 : cva false 10 21 = true := by decide +kernel
theorem cv10_f_22 : cva false 10 22 = true := by decide +kernel
theorem cv10_f_23 : cva false 10 23 = true := by decide +kernel
theorem cv10_f_24 : cva false 10 24 = true := by decide +kernel
theorem cv10_f_25 : cva false 10 25 = true := by decide +kernel
theorem cv10_f_26 : cva false 10 26 = true := by decide +kernel
theorem cv10_f_27 : cva false 10 27 = true := by decide +kernel
theorem cv10_f_28 : cva false 10 28 = true := by decide +kernel
theorem cv10_f_29 : cva false 10 29 = true := by decide +kernel
theorem cv10_f_30 : cva false 10 30 = true := by decide +kernel
theorem cv10_f_31 : cva false 10 31 = true := by decide +kernel
theorem cv10_f_32 : cva false 10 32 = true := by decide +kernel
theorem cv10_f_33 : cva false 10 33 = true := by decide +kernel
theorem cv13_t_20 : cva true 13 20 = true := by decide +kernel
theorem cv13_t_21 : cva true 13 21 = true := by decide +kernel
theorem cv13_t_22 : cva true 13 22 = true := by decide +kernel
theorem cv13_t_23 : cva true 13 23 = true := by decide +kernel
theorem cv13_t_24 : cva true 13 24 = true := by decide +kernel
theorem cv13_t_25 : cva true 13 25 = true := by decide +kernel
theorem cv13_t_26 : cva true 13 26 = true := by decide +kernel
theorem cv13_t_27 : cva true 13 27 = true := by decide +kernel
theorem cv13_f_20 : cva false 13 20 = true := by decide +kernel
theorem cv13_f_21 : cva false 13 21 = true := by decide +kernel
theorem cv13_f_22 : cva false 13 22 = true := by decide +kernel
theorem cv13_f_23 : cva false 13 23 = true := by decide +kernel
theorem cv13_f_24 : cva false 13 24 = true := by decide +kernel
theorem cv13_f_25 : cva false 13 25 = true := by decide +kernel
theorem cv13_f_26 : cva false 13 26 = true := by decide +kernel
theorem cv13_f_27 : cva false 13 27 = true := by decide +kernel
