/-! MEASURES OF A TYPE WITH ITS VARIABLES WRITTEN OUT AT POSITIVE PLACES. -/
/-- labels that a record has not, 0 where it has none at all -/
def mis (m : Nat) : Nat := if m = 0 then 0 else 3 - ((if bit m 0 then 1 else 0) + (if bit m 1 then 1 else 0) + (if bit m 2 then 1 else 0))
def pmz (q : Bool → Nat → Nat) : Bool → List Nat → Ty → Nat
  | d, ω, .tag c (.append a b) => if c = 2 then q d 2 + pmz q d ((q true 3 + pmz q true ω a) :: ω) b else if c = 1 then q d 1 + (pmz q (!d) ω a + pmz q d ω b) else (q d 1 + q d 5 * mis (c - 8)) + (pmz q d ω a + pmz q d ω b)
  | d, ω, .tag c .nil => if 16 ≤ c then (if d then vw ω (c - 16) else q d 4) else q d 0
  | d, ω, .append a b => pmz q d ω a + pmz q d ω b
  | _, _, _ => 0
section PmJ1
variable {q : Bool → Nat → Nat} {d : Bool}
theorem pmz_top (ω : List Nat) : pmz q d ω tTop = q d 0 := by simp [tTop, pmz]
theorem pmz_var (ω : List Nat) (k : Nat) : pmz q d ω (tVar k) = if d then vw ω k else q d 4 := by
  simp [tVar, pmz]
theorem pmz_vt (ω : List Nat) (k : Nat) : pmz q true ω (tVar k) = vw ω k := pmz_var ω k
theorem pmz_vf (ω : List Nat) (k : Nat) : pmz q false ω (tVar k) = q false 4 := pmz_var ω k
theorem pmz_fun (ω : List Nat) (a b : Ty) : pmz q d ω (tFun a b) = q d 1 + (pmz q (!d) ω a + pmz q d ω b) := by simp [tFun, pmz]
theorem pmz_all (ω : List Nat) (a b : Ty) : pmz q d ω (tAll a b) = q d 2 + pmz q d ((q true 3 + pmz q true ω a) :: ω) b := by simp [tAll, pmz]
theorem pmz_rec (ω : List Nat) {m : Nat} (x y z : Ty) : pmz q d ω (tRec m x y z) = (q d 1 + q d 5 * mis m) + (pmz q d ω x + (pmz q d ω y + pmz q d ω z)) := by
  unfold tRec
  rw [pmz, if_neg (by omega), if_neg (by omega), pmz, show 8 + m - 8 = m by omega]
theorem pmz_nil (ω : List Nat) : pmz q d ω .nil = 0 := by simp [pmz]
end PmJ1
def oq (q : Bool → Nat → Nat) : List Ty → List Nat
  | [] => []
  | b :: Γ => (q true 3 + pmz q true (oq q Γ) b) :: oq q Γ
theorem oq_len (q : Bool → Nat → Nat) : ∀ Γ : List Ty, (oq q Γ).length = Γ.length
  | [] => rfl
  | b :: Γ => by show (oq q Γ).length + 1 = Γ.length + 1; rw [oq_len q Γ]
theorem pmz_lft (q : Bool → Nat → Nat) (ν ω : List Nat) : ∀ (t : Ty) (d : Bool) (μ : List Nat), ok (ω.length + μ.length) t = true → pmz q d (μ ++ (ν ++ ω)) (lft ω.length ν.length t) = pmz q d (μ ++ ω) t
  | .tag c (.append a b), d, μ, h => by
    by_cases h1 : c = 1
    · subst h1
      have h := ok_fun.mp h
      have e : lft ω.length ν.length (.tag 1 (.append a b)) = tFun (lft ω.length ν.length a) (lft ω.length ν.length b) := by
        show Std.Format.tag (if 16 + ω.length ≤ 1 then 1 + ν.length else 1) _ = _
        rw [if_neg (by omega)]; rfl
      rw [e, pmz_fun, pmz_lft q ν ω a (!d) μ h.1, pmz_lft q ν ω b d μ h.2]
      exact (pmz_fun _ _ _).symm
    · by_cases h2 : c = 2
      · subst h2
        have h := ok_all.mp h
        have e : lft ω.length ν.length (.tag 2 (.append a b)) = tAll (lft ω.length ν.length a) (lft ω.length ν.length b) := by
          show Std.Format.tag (if 16 + ω.length ≤ 2 then 2 + ν.length else 2) _ = _
          rw [if_neg (by omega)]; rfl
        have ih := pmz_lft q ν ω b d ((q true 3 + pmz q true (μ ++ ω) a) :: μ) (by simp only [List.length_cons]; rw [← Nat.add_assoc]; exact h.2)
        rw [e, pmz_all, pmz_lft q ν ω a true μ h.1]
        rw [List.cons_append, List.cons_append] at ih
        rw [ih]
        exact (pmz_all _ _ _).symm
      · match b, h with
        | .append y z, h =>
          have h' := h
          rw [ok] at h
          simp only [Bool.and_eq_true, decide_eq_true_eq] at h
          obtain ⟨hc, q0, q1, q2⟩ := h
          have key : ∀ (k : Nat) (t : Ty), (ok (ω.length + μ.length) t = true → pmz q d (μ ++ (ν ++ ω)) (lft ω.length ν.length t) = pmz q d (μ ++ ω) t) → (if bit (c - 8) k = true then ok (ω.length + μ.length) t else isNil t) = true → pmz q d (μ ++ (ν ++ ω)) (lft ω.length ν.length t) = pmz q d (μ ++ ω) t := by
            intro k t ht hk
            split at hk
            · exact ht hk
            · rw [isNil_eq hk]
              show pmz q d _ .nil = pmz q d _ .nil
              rw [pmz_nil, pmz_nil]
          have e : lft ω.length ν.length (.tag c (.append a (.append y z))) = tRec (c - 8) (lft ω.length ν.length a) (lft ω.length ν.length y) (lft ω.length ν.length z) := by
            show Std.Format.tag (if 16 + ω.length ≤ c then c + ν.length else c) _ = _
            rw [if_neg (by omega)]
            unfold tRec
            rw [show 8 + (c - 8) = c by omega]; rfl
          have e2 : Std.Format.tag c (.append a (.append y z)) = tRec (c - 8) a y z := by
            unfold tRec
            rw [show 8 + (c - 8) = c by omega]
          rw [e, e2, pmz_rec, pmz_rec, key 0 a (pmz_lft q ν ω a d μ) q0, key 1 y (pmz_lft q ν ω y d μ) q1, key 2 z (pmz_lft q ν ω z d μ) q2]
        | .tag _ _, h => simp [ok, h1, h2] at h
        | .nil, h => simp [ok, h1, h2] at h
        | .line, h => simp [ok, h1, h2] at h
        | .align _, h => simp [ok, h1, h2] at h
        | .text _, h => simp [ok, h1, h2] at h
        | .nest _ _, h => simp [ok, h1, h2] at h
        | .group _ _, h => simp [ok, h1, h2] at h
  | .tag c .nil, d, μ, h => by
    rcases ok_cases h with e | ⟨k, hk, e⟩ | ⟨a', b', e, -, -⟩ | ⟨a', b', e, -, -⟩ | ⟨m, x, y, z, hm, e, -, -, -⟩
    · cases e
      show pmz q d _ (Std.Format.tag (if 16 + ω.length ≤ 0 then 0 + ν.length else 0) .nil) = _
      rw [if_neg (by omega)]
      exact (pmz_top _).trans (pmz_top _).symm
    · cases e
      show pmz q d _ (Std.Format.tag (if 16 + ω.length ≤ 16 + k then 16 + k + ν.length else 16 + k) .nil) = pmz q d _ (tVar k)
      rw [pmz_var]
      by_cases hq : ω.length ≤ k
      · rw [if_pos (by omega), show 16 + k + ν.length = 16 + (k + ν.length) by omega]
        show pmz q d _ (tVar (k + ν.length)) = _
        rw [pmz_var, vw_app_hi μ ν ω k hq hk]
      · rw [if_neg (by omega)]
        show pmz q d _ (tVar k) = _
        rw [pmz_var, vw_app_lo μ ω k (by omega), ← List.append_assoc, vw_app_lo (μ ++ ν) ω k (by omega)]
    · cases e
    · cases e
    · cases e
  | .tag c .line, d, μ, h => by simp [ok] at h
  | .tag c (.align _), d, μ, h => by simp [ok] at h
  | .tag c (.text _), d, μ, h => by simp [ok] at h
  | .tag c (.nest _ _), d, μ, h => by simp [ok] at h
  | .tag c (.group _ _), d, μ, h => by simp [ok] at h
  | .tag c (.tag _ _), d, μ, h => by simp [ok] at h
  | .nil, d, μ, h => by simp [ok] at h
  | .line, d, μ, h => by simp [ok] at h
  | .align _, d, μ, h => by simp [ok] at h
  | .text _, d, μ, h => by simp [ok] at h
  | .nest _ _, d, μ, h => by simp [ok] at h
  | .group _ _, d, μ, h => by simp [ok] at h
  | .append _ _, d, μ, h => by simp [ok] at h
theorem pmz_bnd (q : Bool → Nat → Nat) : ∀ (Γ : List Ty) (k : Nat), okc Γ → k < Γ.length → ∃ ν : List Nat, ∃ ω : List Nat, oq q Γ = ν ++ ω ∧ ω.length = k ∧ ok k (bnd Γ k) = true ∧ vw (oq q Γ) k = q true 3 + pmz q true ω (bnd Γ k)
  | [], _, _, h => absurd h (Nat.not_lt_zero _)
  | b :: Γ, k, hc, hk => by
    by_cases h : k = Γ.length
    · subst h
      refine ⟨[q true 3 + pmz q true (oq q Γ) b], oq q Γ, rfl, oq_len q Γ, ?_, ?_⟩
      · show ok Γ.length (if Γ.length = Γ.length then b else _) = true
        rw [if_pos rfl]; exact hc.1
      · show (if Γ.length = (oq q Γ).length then q true 3 + pmz q true (oq q Γ) b else _) = q true 3 + pmz q true (oq q Γ) (if Γ.length = Γ.length then b else _)
        rw [if_pos (oq_len q Γ).symm, if_pos rfl]
    · obtain ⟨ν, ω, e1, e2, e3, e4⟩ := pmz_bnd q Γ k hc.2 (by simp only [List.length_cons] at hk; omega)
      refine ⟨(q true 3 + pmz q true (oq q Γ) b) :: ν, ω, by rw [oq, e1]; rfl, e2, ?_, ?_⟩
      · rw [bnd, if_neg h]; exact e3
      · show (if k = (oq q Γ).length then _ else vw (oq q Γ) k) = _
        rw [if_neg (by rw [oq_len]; exact h), e4, bnd, if_neg h]
/-- a variable's value is that of its bound, and an exposure -/
theorem pmz_expose (q : Bool → Nat → Nat) {Γ : List Ty} {k : Nat} (hc : okc Γ) (hk : k < Γ.length) : q true 3 + pmz q true (oq q Γ) (lft k (Γ.length - k) (bnd Γ k)) = vw (oq q Γ) k := by
  obtain ⟨ν, ω, e1, e2, e3, e4⟩ := pmz_bnd q Γ k hc hk
  subst e2
  have hl : ν.length = Γ.length - ω.length := by
    have := oq_len q Γ
    rw [e1, List.length_append] at this
    omega
  rw [e4, e1, ← hl]
  congr 1
  exact pmz_lft q ν ω (bnd Γ ω.length) true [] (by simpa using e3)
/-- where every weight is at least one, so is the measure -/
theorem pmz_pos {q : Bool → Nat → Nat} (h0 : ∀ d, 1 ≤ q d 0) (h1 : ∀ d, 1 ≤ q d 1) (h2 : ∀ d, 1 ≤ q d 2) (h4 : 1 ≤ q false 4) {t : Ty} {d : Bool} {ω : List Nat} (h : ok ω.length t = true) (hv : ∀ k, k < ω.length → 1 ≤ vw ω k) : 1 ≤ pmz q d ω t := by
  rcases ok_cases h with rfl | ⟨k, hk, rfl⟩ | ⟨a, b, rfl, -, -⟩ | ⟨a, b, rfl, -, -⟩ | ⟨m, x, y, z, -, rfl, -, -, -⟩
  · rw [pmz_top]; exact h0 d
  · rw [pmz_var]
    cases d with
    | true => exact hv k hk
    | false => exact h4
  · rw [pmz_fun]; have := h1 d; omega
  · rw [pmz_all]; have := h2 d; omega
  · rw [pmz_rec]; have := h1 d; omega
theorem oq_pos {q : Bool → Nat → Nat} (h0 : ∀ d, 1 ≤ q d 0) (h1 : ∀ d, 1 ≤ q d 1) (h2 : ∀ d, 1 ≤ q d 2) (h4 : 1 ≤ q false 4) : ∀ {Γ : List Ty}, okc Γ → ∀ k, k < Γ.length → 1 ≤ vw (oq q Γ) k
  | [], _, _, h => absurd h (Nat.not_lt_zero _)
  | b :: Γ, hc, k, hk => by
    show 1 ≤ (if k = (oq q Γ).length then q true 3 + pmz q true (oq q Γ) b else vw (oq q Γ) k)
    rw [oq_len]
    by_cases h : k = Γ.length
    · rw [if_pos h]
      have := pmz_pos h0 h1 h2 h4 (d := true) (ω := oq q Γ) (by rw [oq_len]; exact hc.1) (fun j hj => oq_pos h0 h1 h2 h4 hc.2 j (by rw [oq_len] at hj; exact hj))
      omega
    · rw [if_neg h]
      exact oq_pos h0 h1 h2 h4 hc.2 k (by simp only [List.length_cons] at hk; omega)
