/-! WEIGHTS: how many nodes a type has when its variables are written out (a binder's bound counts only where its variable stands). -/
def hd : Ty → Nat
  | .tag c _ => c
  | _ => 0
/-- what is added for a variable of that level; the innermost first -/
def vw : List Nat → Nat → Nat
  | [], _ => 0
  | w :: ω, k => if k = ω.length then w else vw ω k
def wt : List Nat → Ty → Nat
  | ω, .tag c (.append a b) => if c = 2 then 1 + wt (wt ω a :: ω) b else 1 + (wt ω a + wt ω b)
  | ω, .tag c .nil => 1 + (if 16 ≤ c then vw ω (c - 16) else 0)
  | ω, .append a b => wt ω a + wt ω b
  | _, _ => 0
def om : List Ty → List Nat
  | [] => []
  | b :: Γ => wt (om Γ) b :: om Γ
theorem om_len : ∀ Γ : List Ty, (om Γ).length = Γ.length
  | [] => rfl
  | b :: Γ => by show (om Γ).length + 1 = Γ.length + 1; rw [om_len Γ]
theorem wt_top (ω : List Nat) : wt ω tTop = 1 := by simp [tTop, wt]
theorem wt_var (ω : List Nat) (k : Nat) : wt ω (tVar k) = 1 + vw ω k := by
  simp [tVar, wt]
theorem wt_fun (ω : List Nat) (a b : Ty) : wt ω (tFun a b) = 1 + (wt ω a + wt ω b) := by simp [tFun, wt]
theorem wt_all (ω : List Nat) (a b : Ty) : wt ω (tAll a b) = 1 + wt (wt ω a :: ω) b := by simp [tAll, wt]
theorem wt_rec (ω : List Nat) {m : Nat} (x y z : Ty) : wt ω (tRec m x y z) = 1 + (wt ω x + (wt ω y + wt ω z)) := by
  unfold tRec
  rw [wt, if_neg (by omega), wt]
theorem wt_nil (ω : List Nat) : wt ω .nil = 0 := by simp [wt]
theorem wt_pos {d : Nat} {t : Ty} (h : ok d t = true) (ω : List Nat) : 1 ≤ wt ω t := by
  rcases ok_cases h with rfl | ⟨k, -, rfl⟩ | ⟨a, b, rfl, -, -⟩ | ⟨a, b, rfl, -, -⟩ | ⟨m, x, y, z, hm, rfl, -, -, -⟩
  · rw [wt_top]; exact Nat.le_refl _
  · rw [wt_var]; omega
  · rw [wt_fun]; omega
  · rw [wt_all]; omega
  · rw [wt_rec]; omega
theorem vw_app_lo : ∀ (μ ω : List Nat) (k : Nat), k < ω.length → vw (μ ++ ω) k = vw ω k
  | [], _, _, _ => rfl
  | w :: μ, ω, k, h => by
    show (if k = (μ ++ ω).length then w else vw (μ ++ ω) k) = vw ω k
    rw [if_neg (by rw [List.length_append]; omega)]
    exact vw_app_lo μ ω k h
theorem vw_app_hi : ∀ (μ ν ω : List Nat) (k : Nat), ω.length ≤ k → k < ω.length + μ.length → vw (μ ++ (ν ++ ω)) (k + ν.length) = vw (μ ++ ω) k
  | [], ν, ω, k, h1, h2 => by simp only [List.length_nil] at h2; omega
  | w :: μ, ν, ω, k, h1, h2 => by
    show (if k + ν.length = (μ ++ (ν ++ ω)).length then w else vw (μ ++ (ν ++ ω)) (k + ν.length)) = (if k = (μ ++ ω).length then w else vw (μ ++ ω) k)
    simp only [List.length_append, List.length_cons] at h2 ⊢
    by_cases hk : k = μ.length + ω.length
    · rw [if_pos (by omega), if_pos hk]
    · rw [if_neg (by omega), if_neg hk]
      exact vw_app_hi μ ν ω k h1 (by omega)
/-- lifting a type into a deeper place does not change its weight -/
theorem wt_lft (ν ω : List Nat) : ∀ (t : Ty) (μ : List Nat), ok (ω.length + μ.length) t = true → wt (μ ++ (ν ++ ω)) (lft ω.length ν.length t) = wt (μ ++ ω) t
  | .tag c (.append a b), μ, h => by
    by_cases h1 : c = 1
    · subst h1
      have h := ok_fun.mp h
      have e : lft ω.length ν.length (.tag 1 (.append a b)) = tFun (lft ω.length ν.length a) (lft ω.length ν.length b) := by
        show Std.Format.tag (if 16 + ω.length ≤ 1 then 1 + ν.length else 1) _ = _
        rw [if_neg (by omega)]; rfl
      rw [e, wt_fun, wt_lft ν ω a μ h.1, wt_lft ν ω b μ h.2]
      exact (wt_fun _ _ _).symm
    · by_cases h2 : c = 2
      · subst h2
        have h := ok_all.mp h
        have e : lft ω.length ν.length (.tag 2 (.append a b)) = tAll (lft ω.length ν.length a) (lft ω.length ν.length b) := by
          show Std.Format.tag (if 16 + ω.length ≤ 2 then 2 + ν.length else 2) _ = _
          rw [if_neg (by omega)]; rfl
        have ih := wt_lft ν ω b (wt (μ ++ ω) a :: μ) (by simp only [List.length_cons]; rw [← Nat.add_assoc]; exact h.2)
        rw [e, wt_all, wt_lft ν ω a μ h.1]
        rw [List.cons_append, List.cons_append] at ih
        rw [ih]
        exact (wt_all _ _ _).symm
      · match b, h with
        | .append y z, h =>
          have h' := h
          rw [ok] at h
          simp only [Bool.and_eq_true, decide_eq_true_eq] at h
          obtain ⟨hc, q0, q1, q2⟩ := h
          have key : ∀ (k : Nat) (t : Ty), (ok (ω.length + μ.length) t = true → wt (μ ++ (ν ++ ω)) (lft ω.length ν.length t) = wt (μ ++ ω) t) → (if bit (c - 8) k = true then ok (ω.length + μ.length) t else isNil t) = true → wt (μ ++ (ν ++ ω)) (lft ω.length ν.length t) = wt (μ ++ ω) t := by
            intro k t ht hk
            split at hk
            · exact ht hk
            · rw [isNil_eq hk]
              show wt _ .nil = wt _ .nil
              rw [wt_nil, wt_nil]
          have e : lft ω.length ν.length (.tag c (.append a (.append y z))) = tRec (c - 8) (lft ω.length ν.length a) (lft ω.length ν.length y) (lft ω.length ν.length z) := by
            show Std.Format.tag (if 16 + ω.length ≤ c then c + ν.length else c) _ = _
            rw [if_neg (by omega)]
            unfold tRec
            rw [show 8 + (c - 8) = c by omega]; rfl
          have e2 : Std.Format.tag c (.append a (.append y z)) = tRec (c - 8) a y z := by
            unfold tRec
            rw [show 8 + (c - 8) = c by omega]
          rw [e, e2, wt_rec, wt_rec, key 0 a (wt_lft ν ω a μ) q0, key 1 y (wt_lft ν ω y μ) q1, key 2 z (wt_lft ν ω z μ) q2]
        | .tag _ _, h => simp [ok, h1, h2] at h
        | .nil, h => simp [ok, h1, h2] at h
        | .line, h => simp [ok, h1, h2] at h
        | .align _, h => simp [ok, h1, h2] at h
        | .text _, h => simp [ok, h1, h2] at h
        | .nest _ _, h => simp [ok, h1, h2] at h
        | .group _ _, h => simp [ok, h1, h2] at h
  | .tag c .nil, μ, h => by
    rcases ok_cases h with e | ⟨k, hk, e⟩ | ⟨a', b', e, -, -⟩ | ⟨a', b', e, -, -⟩ | ⟨m, x, y, z, hm, e, -, -, -⟩
    · cases e
      show wt _ (Std.Format.tag (if 16 + ω.length ≤ 0 then 0 + ν.length else 0) .nil) = _
      rw [if_neg (by omega)]
      exact (wt_top _).trans (wt_top _).symm
    · cases e
      show wt _ (Std.Format.tag (if 16 + ω.length ≤ 16 + k then 16 + k + ν.length else 16 + k) .nil) = wt _ (tVar k)
      rw [wt_var]
      by_cases hq : ω.length ≤ k
      · rw [if_pos (by omega), show 16 + k + ν.length = 16 + (k + ν.length) by omega]
        show wt _ (tVar (k + ν.length)) = _
        rw [wt_var, vw_app_hi μ ν ω k hq hk]
      · rw [if_neg (by omega)]
        show wt _ (tVar k) = _
        rw [wt_var, vw_app_lo μ ω k (by omega), ← List.append_assoc, vw_app_lo (μ ++ ν) ω k (by omega)]
    · cases e
    · cases e
    · cases e
  | .tag c .line, μ, h => by simp [ok] at h
  | .tag c (.align _), μ, h => by simp [ok] at h
  | .tag c (.text _), μ, h => by simp [ok] at h
  | .tag c (.nest _ _), μ, h => by simp [ok] at h
  | .tag c (.group _ _), μ, h => by simp [ok] at h
  | .tag c (.tag _ _), μ, h => by simp [ok] at h
  | .nil, μ, h => by simp [ok] at h
  | .line, μ, h => by simp [ok] at h
  | .align _, μ, h => by simp [ok] at h
  | .text _, μ, h => by simp [ok] at h
  | .nest _ _, μ, h => by simp [ok] at h
  | .group _ _, μ, h => by simp [ok] at h
  | .append _ _, μ, h => by simp [ok] at h
/-- bounds that are in order -/
def okc : List Ty → Prop
  | [] => True
  | b :: Γ => ok Γ.length b = true ∧ okc Γ
/-- a variable's bound weighs what the variable has beside its own node -/
theorem wt_bnd : ∀ (Γ : List Ty) (k : Nat), okc Γ → k < Γ.length → ∃ ν : List Nat, ∃ ω : List Nat, om Γ = ν ++ ω ∧ ω.length = k ∧ ok k (bnd Γ k) = true ∧ vw (om Γ) k = wt ω (bnd Γ k)
  | [], _, _, h => absurd h (Nat.not_lt_zero _)
  | b :: Γ, k, hc, hk => by
    by_cases h : k = Γ.length
    · subst h
      refine ⟨[wt (om Γ) b], om Γ, rfl, om_len Γ, ?_, ?_⟩
      · show ok Γ.length (if Γ.length = Γ.length then b else _) = true
        rw [if_pos rfl]; exact hc.1
      · show (if Γ.length = (om Γ).length then wt (om Γ) b else _) = wt (om Γ) (if Γ.length = Γ.length then b else _)
        rw [if_pos (om_len Γ).symm, if_pos rfl]
    · obtain ⟨ν, ω, e1, e2, e3, e4⟩ := wt_bnd Γ k hc.2 (by simp only [List.length_cons] at hk; omega)
      refine ⟨wt (om Γ) b :: ν, ω, by rw [om, e1]; rfl, e2, ?_, ?_⟩
      · rw [bnd, if_neg h]; exact e3
      · show (if k = (om Γ).length then _ else vw (om Γ) k) = _
        rw [if_neg (by rw [om_len]; exact h), e4, bnd, if_neg h]
theorem wt_expose {Γ : List Ty} {k : Nat} (hc : okc Γ) (hk : k < Γ.length) : wt (om Γ) (lft k (Γ.length - k) (bnd Γ k)) = vw (om Γ) k := by
  obtain ⟨ν, ω, e1, e2, e3, e4⟩ := wt_bnd Γ k hc hk
  subst e2
  have hl : ν.length = Γ.length - ω.length := by
    have := om_len Γ
    rw [e1, List.length_append] at this
    omega
  rw [e4, e1, ← hl]
  exact wt_lft ν ω (bnd Γ ω.length) [] (by simpa using e3)
/-! SUBTYPING, one step: what must hold besides (none: it does not hold). -/
def k1 : Ty → Ty
  | .tag _ (.append a _) => a
  | _ => .nil
def k2 : Ty → Ty
  | .tag _ (.append _ b) => b
  | _ => .nil
def r2 : Ty → Ty
  | .tag _ (.append _ (.append y _)) => y
  | _ => .nil
def r3 : Ty → Ty
  | .tag _ (.append _ (.append _ z)) => z
  | _ => .nil
abbrev Tsk : Type := List Ty × Ty × Ty
/-- what is wanted at a label that the right one has -/
def stl (Γ : List Ty) (m k : Nat) (x y : Ty) : List Tsk := if bit m k then [(Γ, x, y)] else []
def stp (Γ : List Ty) (s t : Ty) : Option (List Tsk) :=
  if hd t = 0 ∨ (16 ≤ hd s ∧ hd s = hd t) then some []
  else if 16 ≤ hd s then some [(Γ, lft (hd s - 16) (Γ.length - (hd s - 16)) (bnd Γ (hd s - 16)), t)]
  else if 8 ≤ hd s ∧ 8 ≤ hd t ∧ hd t < 16 then
    (if (hd s - 8) &&& (hd t - 8) = hd t - 8 then some (stl Γ (hd t - 8) 2 (r3 s) (r3 t) ++ (stl Γ (hd t - 8) 1 (r2 s) (r2 t) ++ stl Γ (hd t - 8) 0 (k1 s) (k1 t))) else none)
  else if hd s ≠ hd t ∨ hd s = 0 then none
  else if hd s = 1 then some [(Γ, k2 s, k2 t), (Γ, k1 t, k1 s)]
  else if flat (k1 s) = flat (k1 t) then some [(k1 s :: Γ, k2 s, k2 t)] else none
def twt (x : Tsk) : Nat := wt (om x.1) x.2.1 + wt (om x.1) x.2.2
def tok (x : Tsk) : Prop := okc x.1 ∧ ok x.1.length x.2.1 = true ∧ ok x.1.length x.2.2 = true
def tws : List Tsk → Nat
  | [] => 0
  | x :: l => twt x + tws l
theorem tws_app : ∀ a b : List Tsk, tws (a ++ b) = tws a + tws b
  | [], b => by simp [tws]
  | x :: a, b => by
    show twt x + tws (a ++ b) = twt x + tws a + tws b
    rw [tws_app a b]; omega
theorem hd_top : hd tTop = 0 := rfl
theorem hd_var (k : Nat) : hd (tVar k) = 16 + k := rfl
theorem hd_fun (a b : Ty) : hd (tFun a b) = 1 := rfl
theorem hd_all (a b : Ty) : hd (tAll a b) = 2 := rfl
theorem hd_rec (m : Nat) (x y z : Ty) : hd (tRec m x y z) = 8 + m := rfl
theorem stl_w {Γ : List Ty} {m k : Nat} {x y : Ty} : tws (stl Γ m k x y) ≤ wt (om Γ) x + wt (om Γ) y := by
  unfold stl
  split
  · show wt (om Γ) x + wt (om Γ) y + 0 ≤ wt (om Γ) x + wt (om Γ) y
    omega
  · exact Nat.zero_le _
