/-! TWO MORE WEIGHTS: rows that a walk may take (a variable, a binder), and what stands when the variables are written out. -/
def rwt : List Nat → Ty → Nat
  | ω, .tag c (.append a b) => if c = 2 then 1 + rwt (rwt ω a :: ω) b else (rwt ω a + rwt ω b)
  | ω, .tag c .nil => if 16 ≤ c then 1 + vw ω (c - 16) else 0
  | ω, .append a b => rwt ω a + rwt ω b
  | _, _ => 0
theorem rwt_top (ω : List Nat) : rwt ω tTop = 0 := by simp [tTop, rwt]
theorem rwt_var (ω : List Nat) (k : Nat) : rwt ω (tVar k) = 1 + vw ω k := by
  simp [tVar, rwt]
theorem rwt_fun (ω : List Nat) (a b : Ty) : rwt ω (tFun a b) = rwt ω a + rwt ω b := by simp [tFun, rwt]
theorem rwt_all (ω : List Nat) (a b : Ty) : rwt ω (tAll a b) = 1 + rwt (rwt ω a :: ω) b := by simp [tAll, rwt]
theorem rwt_rec (ω : List Nat) {m : Nat} (x y z : Ty) : rwt ω (tRec m x y z) = rwt ω x + (rwt ω y + rwt ω z) := by
  unfold tRec
  rw [rwt, if_neg (by omega), rwt]
theorem rwt_nil (ω : List Nat) : rwt ω .nil = 0 := by simp [rwt]
def omr : List Ty → List Nat
  | [] => []
  | b :: Γ => rwt (omr Γ) b :: omr Γ
theorem omr_len : ∀ Γ : List Ty, (omr Γ).length = Γ.length
  | [] => rfl
  | b :: Γ => by show (omr Γ).length + 1 = Γ.length + 1; rw [omr_len Γ]
/-- lifting a type into a deeper place does not change its weight -/
theorem rwt_lft (ν ω : List Nat) : ∀ (t : Ty) (μ : List Nat), ok (ω.length + μ.length) t = true → rwt (μ ++ (ν ++ ω)) (lft ω.length ν.length t) = rwt (μ ++ ω) t
  | .tag c (.append a b), μ, h => by
    by_cases h1 : c = 1
    · subst h1
      have h := ok_fun.mp h
      have e : lft ω.length ν.length (.tag 1 (.append a b)) = tFun (lft ω.length ν.length a) (lft ω.length ν.length b) := by
        show Std.Format.tag (if 16 + ω.length ≤ 1 then 1 + ν.length else 1) _ = _
        rw [if_neg (by omega)]; rfl
      rw [e, rwt_fun, rwt_lft ν ω a μ h.1, rwt_lft ν ω b μ h.2]
      exact (rwt_fun _ _ _).symm
    · by_cases h2 : c = 2
      · subst h2
        have h := ok_all.mp h
        have e : lft ω.length ν.length (.tag 2 (.append a b)) = tAll (lft ω.length ν.length a) (lft ω.length ν.length b) := by
          show Std.Format.tag (if 16 + ω.length ≤ 2 then 2 + ν.length else 2) _ = _
          rw [if_neg (by omega)]; rfl
        have ih := rwt_lft ν ω b (rwt (μ ++ ω) a :: μ) (by simp only [List.length_cons]; rw [← Nat.add_assoc]; exact h.2)
        rw [e, rwt_all, rwt_lft ν ω a μ h.1]
        rw [List.cons_append, List.cons_append] at ih
        rw [ih]
        exact (rwt_all _ _ _).symm
      · match b, h with
        | .append y z, h =>
          have h' := h
          rw [ok] at h
          simp only [Bool.and_eq_true, decide_eq_true_eq] at h
          obtain ⟨hc, q0, q1, q2⟩ := h
          have key : ∀ (k : Nat) (t : Ty), (ok (ω.length + μ.length) t = true → rwt (μ ++ (ν ++ ω)) (lft ω.length ν.length t) = rwt (μ ++ ω) t) → (if bit (c - 8) k = true then ok (ω.length + μ.length) t else isNil t) = true → rwt (μ ++ (ν ++ ω)) (lft ω.length ν.length t) = rwt (μ ++ ω) t := by
            intro k t ht hk
            split at hk
            · exact ht hk
            · rw [isNil_eq hk]
              show rwt _ .nil = rwt _ .nil
              rw [rwt_nil, rwt_nil]
          have e : lft ω.length ν.length (.tag c (.append a (.append y z))) = tRec (c - 8) (lft ω.length ν.length a) (lft ω.length ν.length y) (lft ω.length ν.length z) := by
            show Std.Format.tag (if 16 + ω.length ≤ c then c + ν.length else c) _ = _
            rw [if_neg (by omega)]
            unfold tRec
            rw [show 8 + (c - 8) = c by omega]; rfl
          have e2 : Std.Format.tag c (.append a (.append y z)) = tRec (c - 8) a y z := by
            unfold tRec
            rw [show 8 + (c - 8) = c by omega]
          rw [e, e2, rwt_rec, rwt_rec, key 0 a (rwt_lft ν ω a μ) q0, key 1 y (rwt_lft ν ω y μ) q1, key 2 z (rwt_lft ν ω z μ) q2]
        | .tag _ _, h => simp [ok, h1, h2] at h
        | .nil, h => simp [ok, h1, h2] at h
        | .line, h => simp [ok, h1, h2] at h
        | .align _, h => simp [ok, h1, h2] at h
        | .text _, h => simp [ok, h1, h2] at h
        | .nest _ _, h => simp [ok, h1, h2] at h
        | .group _ _, h => simp [ok, h1, h2] at h
  | .tag c .nil, μ, h => by
    rcases ok_cases h with e | ⟨k, hk, e⟩ | ⟨a', b', e, -, -⟩ | ⟨a', b', e, -, -⟩ | ⟨m, x, y, z, hm, e, -, -, -⟩
    · cases e
      show rwt _ (Std.Format.tag (if 16 + ω.length ≤ 0 then 0 + ν.length else 0) .nil) = _
      rw [if_neg (by omega)]
      exact (rwt_top _).trans (rwt_top _).symm
    · cases e
      show rwt _ (Std.Format.tag (if 16 + ω.length ≤ 16 + k then 16 + k + ν.length else 16 + k) .nil) = rwt _ (tVar k)
      rw [rwt_var]
      by_cases hq : ω.length ≤ k
      · rw [if_pos (by omega), show 16 + k + ν.length = 16 + (k + ν.length) by omega]
        show rwt _ (tVar (k + ν.length)) = _
        rw [rwt_var, vw_app_hi μ ν ω k hq hk]
      · rw [if_neg (by omega)]
        show rwt _ (tVar k) = _
        rw [rwt_var, vw_app_lo μ ω k (by omega), ← List.append_assoc, vw_app_lo (μ ++ ν) ω k (by omega)]
    · cases e
    · cases e
    · cases e
  | .tag c .line, μ, h => by simp [ok] at h
  | .tag c (.align _), μ, h => by simp [ok] at h
  | .tag c (.text _), μ, h => by simp [ok] at h
  | .tag c (.nest _ _), μ, h => by simp [ok] at h
  | .tag c (.group _ _), μ, h => by simp [ok] at h
  | .tag c (.tag _ _), μ, h => by simp [ok] at h
  | .nil, μ, h => by simp [ok] at h
  | .line, μ, h => by simp [ok] at h
  | .align _, μ, h => by simp [ok] at h
  | .text _, μ, h => by simp [ok] at h
  | .nest _ _, μ, h => by simp [ok] at h
  | .group _ _, μ, h => by simp [ok] at h
  | .append _ _, μ, h => by simp [ok] at h
/-- a variable's bound weighs what the variable has beside its own node -/
theorem rwt_bnd : ∀ (Γ : List Ty) (k : Nat), okc Γ → k < Γ.length → ∃ ν : List Nat, ∃ ω : List Nat, omr Γ = ν ++ ω ∧ ω.length = k ∧ ok k (bnd Γ k) = true ∧ vw (omr Γ) k = rwt ω (bnd Γ k)
  | [], _, _, h => absurd h (Nat.not_lt_zero _)
  | b :: Γ, k, hc, hk => by
    by_cases h : k = Γ.length
    · subst h
      refine ⟨[rwt (omr Γ) b], omr Γ, rfl, omr_len Γ, ?_, ?_⟩
      · show ok Γ.length (if Γ.length = Γ.length then b else _) = true
        rw [if_pos rfl]; exact hc.1
      · show (if Γ.length = (omr Γ).length then rwt (omr Γ) b else _) = rwt (omr Γ) (if Γ.length = Γ.length then b else _)
        rw [if_pos (omr_len Γ).symm, if_pos rfl]
    · obtain ⟨ν, ω, e1, e2, e3, e4⟩ := rwt_bnd Γ k hc.2 (by simp only [List.length_cons] at hk; omega)
      refine ⟨rwt (omr Γ) b :: ν, ω, by rw [omr, e1]; rfl, e2, ?_, ?_⟩
      · rw [bnd, if_neg h]; exact e3
      · show (if k = (omr Γ).length then _ else vw (omr Γ) k) = _
        rw [if_neg (by rw [omr_len]; exact h), e4, bnd, if_neg h]
theorem rwt_expose {Γ : List Ty} {k : Nat} (hc : okc Γ) (hk : k < Γ.length) : rwt (omr Γ) (lft k (Γ.length - k) (bnd Γ k)) = vw (omr Γ) k := by
  obtain ⟨ν, ω, e1, e2, e3, e4⟩ := rwt_bnd Γ k hc hk
  subst e2
  have hl : ν.length = Γ.length - ω.length := by
    have := omr_len Γ
    rw [e1, List.length_append] at this
    omega
  rw [e4, e1, ← hl]
  exact rwt_lft ν ω (bnd Γ ω.length) [] (by simpa using e3)
def swt : List Nat → Ty → Nat
  | ω, .tag c (.append a b) => if c = 2 then 1 + swt (swt ω a :: ω) b else 1 + (swt ω a + swt ω b)
  | ω, .tag c .nil => if 16 ≤ c then vw ω (c - 16) else 1
  | ω, .append a b => swt ω a + swt ω b
  | _, _ => 0
theorem swt_top (ω : List Nat) : swt ω tTop = 1 := by simp [tTop, swt]
theorem swt_var (ω : List Nat) (k : Nat) : swt ω (tVar k) = vw ω k := by
  simp [tVar, swt]
theorem swt_fun (ω : List Nat) (a b : Ty) : swt ω (tFun a b) = 1 + (swt ω a + swt ω b) := by simp [tFun, swt]
theorem swt_all (ω : List Nat) (a b : Ty) : swt ω (tAll a b) = 1 + swt (swt ω a :: ω) b := by simp [tAll, swt]
theorem swt_rec (ω : List Nat) {m : Nat} (x y z : Ty) : swt ω (tRec m x y z) = 1 + (swt ω x + (swt ω y + swt ω z)) := by
  unfold tRec
  rw [swt, if_neg (by omega), swt]
theorem swt_nil (ω : List Nat) : swt ω .nil = 0 := by simp [swt]
def oms : List Ty → List Nat
  | [] => []
  | b :: Γ => swt (oms Γ) b :: oms Γ
theorem oms_len : ∀ Γ : List Ty, (oms Γ).length = Γ.length
  | [] => rfl
  | b :: Γ => by show (oms Γ).length + 1 = Γ.length + 1; rw [oms_len Γ]
/-- lifting a type into a deeper place does not change its weight -/
theorem swt_lft (ν ω : List Nat) : ∀ (t : Ty) (μ : List Nat), ok (ω.length + μ.length) t = true → swt (μ ++ (ν ++ ω)) (lft ω.length ν.length t) = swt (μ ++ ω) t
  | .tag c (.append a b), μ, h => by
    by_cases h1 : c = 1
    · subst h1
      have h := ok_fun.mp h
      have e : lft ω.length ν.length (.tag 1 (.append a b)) = tFun (lft ω.length ν.length a) (lft ω.length ν.length b) := by
        show Std.Format.tag (if 16 + ω.length ≤ 1 then 1 + ν.length else 1) _ = _
        rw [if_neg (by omega)]; rfl
      rw [e, swt_fun, swt_lft ν ω a μ h.1, swt_lft ν ω b μ h.2]
      exact (swt_fun _ _ _).symm
    · by_cases h2 : c = 2
      · subst h2
        have h := ok_all.mp h
        have e : lft ω.length ν.length (.tag 2 (.append a b)) = tAll (lft ω.length ν.length a) (lft ω.length ν.length b) := by
          show Std.Format.tag (if 16 + ω.length ≤ 2 then 2 + ν.length else 2) _ = _
          rw [if_neg (by omega)]; rfl
        have ih := swt_lft ν ω b (swt (μ ++ ω) a :: μ) (by simp only [List.length_cons]; rw [← Nat.add_assoc]; exact h.2)
        rw [e, swt_all, swt_lft ν ω a μ h.1]
        rw [List.cons_append, List.cons_append] at ih
        rw [ih]
        exact (swt_all _ _ _).symm
      · match b, h with
        | .append y z, h =>
          have h' := h
          rw [ok] at h
          simp only [Bool.and_eq_true, decide_eq_true_eq] at h
          obtain ⟨hc, q0, q1, q2⟩ := h
          have key : ∀ (k : Nat) (t : Ty), (ok (ω.length + μ.length) t = true → swt (μ ++ (ν ++ ω)) (lft ω.length ν.length t) = swt (μ ++ ω) t) → (if bit (c - 8) k = true then ok (ω.length + μ.length) t else isNil t) = true → swt (μ ++ (ν ++ ω)) (lft ω.length ν.length t) = swt (μ ++ ω) t := by
            intro k t ht hk
            split at hk
            · exact ht hk
            · rw [isNil_eq hk]
              show swt _ .nil = swt _ .nil
              rw [swt_nil, swt_nil]
          have e : lft ω.length ν.length (.tag c (.append a (.append y z))) = tRec (c - 8) (lft ω.length ν.length a) (lft ω.length ν.length y) (lft ω.length ν.length z) := by
            show Std.Format.tag (if 16 + ω.length ≤ c then c + ν.length else c) _ = _
            rw [if_neg (by omega)]
            unfold tRec
            rw [show 8 + (c - 8) = c by omega]; rfl
          have e2 : Std.Format.tag c (.append a (.append y z)) = tRec (c - 8) a y z := by
            unfold tRec
            rw [show 8 + (c - 8) = c by omega]
          rw [e, e2, swt_rec, swt_rec, key 0 a (swt_lft ν ω a μ) q0, key 1 y (swt_lft ν ω y μ) q1, key 2 z (swt_lft ν ω z μ) q2]
        | .tag _ _, h => simp [ok, h1, h2] at h
        | .nil, h => simp [ok, h1, h2] at h
        | .line, h => simp [ok, h1, h2] at h
        | .align _, h => simp [ok, h1, h2] at h
        | .text _, h => simp [ok, h1, h2] at h
        | .nest _ _, h => simp [ok, h1, h2] at h
        | .group _ _, h => simp [ok, h1, h2] at h
  | .tag c .nil, μ, h => by
    rcases ok_cases h with e | ⟨k, hk, e⟩ | ⟨a', b', e, -, -⟩ | ⟨a', b', e, -, -⟩ | ⟨m, x, y, z, hm, e, -, -, -⟩
    · cases e
      show swt _ (Std.Format.tag (if 16 + ω.length ≤ 0 then 0 + ν.length else 0) .nil) = _
      rw [if_neg (by omega)]
      exact (swt_top _).trans (swt_top _).symm
    · cases e
      show swt _ (Std.Format.tag (if 16 + ω.length ≤ 16 + k then 16 + k + ν.length else 16 + k) .nil) = swt _ (tVar k)
      rw [swt_var]
      by_cases hq : ω.length ≤ k
      · rw [if_pos (by omega), show 16 + k + ν.length = 16 + (k + ν.length) by omega]
        show swt _ (tVar (k + ν.length)) = _
        rw [swt_var, vw_app_hi μ ν ω k hq hk]
      · rw [if_neg (by omega)]
        show swt _ (tVar k) = _
        rw [swt_var, vw_app_lo μ ω k (by omega), ← List.append_assoc, vw_app_lo (μ ++ ν) ω k (by omega)]
    · cases e
    · cases e
    · cases e
  | .tag c .line, μ, h => by simp [ok] at h
  | .tag c (.align _), μ, h => by simp [ok] at h
  | .tag c (.text _), μ, h => by simp [ok] at h
  | .tag c (.nest _ _), μ, h => by simp [ok] at h
  | .tag c (.group _ _), μ, h => by simp [ok] at h
  | .tag c (.tag _ _), μ, h => by simp [ok] at h
  | .nil, μ, h => by simp [ok] at h
  | .line, μ, h => by simp [ok] at h
  | .align _, μ, h => by simp [ok] at h
  | .text _, μ, h => by simp [ok] at h
  | .nest _ _, μ, h => by simp [ok] at h
  | .group _ _, μ, h => by simp [ok] at h
  | .append _ _, μ, h => by simp [ok] at h
/-- a variable's bound weighs what the variable has beside its own node -/
theorem swt_bnd : ∀ (Γ : List Ty) (k : Nat), okc Γ → k < Γ.length → ∃ ν : List Nat, ∃ ω : List Nat, oms Γ = ν ++ ω ∧ ω.length = k ∧ ok k (bnd Γ k) = true ∧ vw (oms Γ) k = swt ω (bnd Γ k)
  | [], _, _, h => absurd h (Nat.not_lt_zero _)
  | b :: Γ, k, hc, hk => by
    by_cases h : k = Γ.length
    · subst h
      refine ⟨[swt (oms Γ) b], oms Γ, rfl, oms_len Γ, ?_, ?_⟩
      · show ok Γ.length (if Γ.length = Γ.length then b else _) = true
        rw [if_pos rfl]; exact hc.1
      · show (if Γ.length = (oms Γ).length then swt (oms Γ) b else _) = swt (oms Γ) (if Γ.length = Γ.length then b else _)
        rw [if_pos (oms_len Γ).symm, if_pos rfl]
    · obtain ⟨ν, ω, e1, e2, e3, e4⟩ := swt_bnd Γ k hc.2 (by simp only [List.length_cons] at hk; omega)
      refine ⟨swt (oms Γ) b :: ν, ω, by rw [oms, e1]; rfl, e2, ?_, ?_⟩
      · rw [bnd, if_neg h]; exact e3
      · show (if k = (oms Γ).length then _ else vw (oms Γ) k) = _
        rw [if_neg (by rw [oms_len]; exact h), e4, bnd, if_neg h]
theorem swt_expose {Γ : List Ty} {k : Nat} (hc : okc Γ) (hk : k < Γ.length) : swt (oms Γ) (lft k (Γ.length - k) (bnd Γ k)) = vw (oms Γ) k := by
  obtain ⟨ν, ω, e1, e2, e3, e4⟩ := swt_bnd Γ k hc hk
  subst e2
  have hl : ν.length = Γ.length - ω.length := by
    have := oms_len Γ
    rw [e1, List.length_append] at this
    omega
  rw [e4, e1, ← hl]
  exact swt_lft ν ω (bnd Γ ω.length) [] (by simpa using e3)
theorem vw_oms : ∀ (Γ : List Ty) (k : Nat), okc Γ → k < Γ.length → (∀ (D : Nat) (t : Ty) (Δ : List Ty), Δ.length < Γ.length → okc Δ → ok Δ.length t = true → 1 ≤ swt (oms Δ) t) → 1 ≤ vw (oms Γ) k
  | [], _, _, h, _ => absurd h (Nat.not_lt_zero _)
  | b :: Γ, k, hc, hk, ih => by
    show 1 ≤ (if k = (oms Γ).length then swt (oms Γ) b else vw (oms Γ) k)
    by_cases h : k = (oms Γ).length
    · rw [if_pos h]; exact ih 0 b Γ (by simp) hc.2 hc.1
    · rw [if_neg h]
      rw [oms_len] at h
      exact vw_oms Γ k hc.2 (by rw [List.length_cons] at hk; omega) (fun D t Δ h1 h2 h3 => ih D t Δ (by rw [List.length_cons]; omega) h2 h3)
theorem swt_pos' : ∀ (n : Nat) (Γ : List Ty), Γ.length ≤ n → okc Γ → ∀ t : Ty, ok Γ.length t = true → 1 ≤ swt (oms Γ) t
  | n, Γ, hn, hc, t, h => by
    rcases ok_cases h with rfl | ⟨k, hk, rfl⟩ | ⟨a, b, rfl, -, -⟩ | ⟨a, b, rfl, -, -⟩ | ⟨m, x, y, z, hm, rfl, -, -, -⟩
    · rw [swt_top]; exact Nat.le_refl _
    · rw [swt_var]
      match n with
      | 0 => omega
      | n + 1 => exact vw_oms Γ k hc hk (fun D t Δ h1 h2 h3 => swt_pos' n Δ (by omega) h2 t h3)
    · rw [swt_fun]; omega
    · rw [swt_all]; omega
    · rw [swt_rec]; omega
theorem swt_pos {Γ : List Ty} {t : Ty} (hc : okc Γ) (h : ok Γ.length t = true) : 1 ≤ swt (oms Γ) t := swt_pos' Γ.length Γ (Nat.le_refl _) hc t h
