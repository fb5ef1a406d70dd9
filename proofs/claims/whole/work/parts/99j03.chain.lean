/-! CHAINS OF VARIABLES, and a step of a comparison by cases. -/
def chn (χ : List Nat) (t : Ty) : Nat := if 16 ≤ hd t then vw χ (hd t - 16) else 0
/-- how many exposures each variable takes until it is none -/
def cl : List Ty → List Nat
  | [] => []
  | b :: Γ => (1 + chn (cl Γ) b) :: cl Γ
theorem cl_len : ∀ Γ : List Ty, (cl Γ).length = Γ.length
  | [] => rfl
  | b :: Γ => by show (cl Γ).length + 1 = Γ.length + 1; rw [cl_len Γ]
/-- every variable that a type binds takes at most so many -/
def cbd (e : Nat) : List Nat → Ty → Prop
  | χ, .tag c (.append a b) => if c = 2 then cbd e χ a ∧ 1 + chn χ a ≤ e ∧ cbd e ((1 + chn χ a) :: χ) b else cbd e χ a ∧ cbd e χ b
  | χ, .append a b => cbd e χ a ∧ cbd e χ b
  | _, _ => True
section PmJ3
variable {e : Nat}
theorem cbd_top (χ : List Nat) : cbd e χ tTop ↔ True := by simp [tTop, cbd]
theorem cbd_var (χ : List Nat) (k : Nat) : cbd e χ (tVar k) ↔ True := by simp [tVar, cbd]
theorem cbd_nil (χ : List Nat) : cbd e χ .nil ↔ True := by simp [cbd]
theorem cbd_fun (χ : List Nat) (a b : Ty) : cbd e χ (tFun a b) ↔ cbd e χ a ∧ cbd e χ b := by simp [tFun, cbd]
theorem cbd_all (χ : List Nat) (a b : Ty) : cbd e χ (tAll a b) ↔ cbd e χ a ∧ 1 + chn χ a ≤ e ∧ cbd e ((1 + chn χ a) :: χ) b := by simp [tAll, cbd]
theorem cbd_rec (χ : List Nat) {m : Nat} (x y z : Ty) : cbd e χ (tRec m x y z) ↔ cbd e χ x ∧ cbd e χ y ∧ cbd e χ z := by
  unfold tRec
  rw [cbd, if_neg (by omega), cbd]
end PmJ3
theorem chn_lft (ν ω : List Nat) {t : Ty} {μ : List Nat} (h : ok (ω.length + μ.length) t = true) : chn (μ ++ (ν ++ ω)) (lft ω.length ν.length t) = chn (μ ++ ω) t := by
  unfold chn
  rcases ok_cases h with rfl | ⟨k, hk, rfl⟩ | ⟨a, b, rfl, -, -⟩ | ⟨a, b, rfl, -, -⟩ | ⟨m, x, y, z, hm, rfl, -, -, -⟩
  · have e : hd (lft ω.length ν.length tTop) = 0 := by
      show (if 16 + ω.length ≤ 0 then 0 + ν.length else 0) = 0
      rw [if_neg (by omega)]
    rw [e, hd_top, if_neg (by omega), if_neg (by omega)]
  · have e : hd (lft ω.length ν.length (tVar k)) = if 16 + ω.length ≤ 16 + k then 16 + k + ν.length else 16 + k := rfl
    rw [e, hd_var]
    by_cases hq : ω.length ≤ k
    · rw [if_pos (show 16 + ω.length ≤ 16 + k by omega), if_pos (by omega), if_pos (by omega), show 16 + k + ν.length - 16 = k + ν.length by omega, show 16 + k - 16 = k by omega, vw_app_hi μ ν ω k hq hk]
    · rw [if_neg (show ¬ 16 + ω.length ≤ 16 + k by omega), if_pos (by omega), show 16 + k - 16 = k by omega, vw_app_lo μ ω k (by omega), ← List.append_assoc, vw_app_lo (μ ++ ν) ω k (by omega), if_pos (by omega)]
  · have e : hd (lft ω.length ν.length (tFun a b)) = 1 := by
      show (if 16 + ω.length ≤ 1 then 1 + ν.length else 1) = 1
      rw [if_neg (by omega)]
    rw [e, hd_fun, if_neg (by omega), if_neg (by omega)]
  · have e : hd (lft ω.length ν.length (tAll a b)) = 2 := by
      show (if 16 + ω.length ≤ 2 then 2 + ν.length else 2) = 2
      rw [if_neg (by omega)]
    rw [e, hd_all, if_neg (by omega), if_neg (by omega)]
  · have e : hd (lft ω.length ν.length (tRec m x y z)) = 8 + m := by
      show (if 16 + ω.length ≤ 8 + m then 8 + m + ν.length else 8 + m) = 8 + m
      rw [if_neg (by omega)]
    rw [e, hd_rec, if_neg (by omega), if_neg (by omega)]
theorem cbd_lft (e : Nat) (ν ω : List Nat) : ∀ (t : Ty) (μ : List Nat), ok (ω.length + μ.length) t = true → (cbd e (μ ++ (ν ++ ω)) (lft ω.length ν.length t) ↔ cbd e (μ ++ ω) t)
  | .tag c (.append a b), μ, h => by
    by_cases h1 : c = 1
    · subst h1
      have h := ok_fun.mp h
      have e1 : lft ω.length ν.length (.tag 1 (.append a b)) = tFun (lft ω.length ν.length a) (lft ω.length ν.length b) := by
        show Std.Format.tag (if 16 + ω.length ≤ 1 then 1 + ν.length else 1) _ = _
        rw [if_neg (by omega)]; rfl
      rw [e1, cbd_fun, cbd_lft e ν ω a μ h.1, cbd_lft e ν ω b μ h.2]
      exact (cbd_fun _ _ _).symm
    · by_cases h2 : c = 2
      · subst h2
        have h := ok_all.mp h
        have e1 : lft ω.length ν.length (.tag 2 (.append a b)) = tAll (lft ω.length ν.length a) (lft ω.length ν.length b) := by
          show Std.Format.tag (if 16 + ω.length ≤ 2 then 2 + ν.length else 2) _ = _
          rw [if_neg (by omega)]; rfl
        have ih := cbd_lft e ν ω b ((1 + chn (μ ++ ω) a) :: μ) (by simp only [List.length_cons]; rw [← Nat.add_assoc]; exact h.2)
        rw [List.cons_append, List.cons_append] at ih
        rw [e1, cbd_all, cbd_lft e ν ω a μ h.1, chn_lft ν ω h.1, ih]
        exact (cbd_all _ _ _).symm
      · match b, h with
        | .append y z, h =>
          rw [ok] at h
          simp only [Bool.and_eq_true, decide_eq_true_eq] at h
          obtain ⟨hc, q0, q1, q2⟩ := h
          have key : ∀ (k : Nat) (t : Ty), (ok (ω.length + μ.length) t = true → (cbd e (μ ++ (ν ++ ω)) (lft ω.length ν.length t) ↔ cbd e (μ ++ ω) t)) → (if bit (c - 8) k = true then ok (ω.length + μ.length) t else isNil t) = true → (cbd e (μ ++ (ν ++ ω)) (lft ω.length ν.length t) ↔ cbd e (μ ++ ω) t) := by
            intro k t ht hk
            split at hk
            · exact ht hk
            · rw [isNil_eq hk]
              show cbd e _ .nil ↔ cbd e _ .nil
              rw [cbd_nil, cbd_nil]
          have e1 : lft ω.length ν.length (.tag c (.append a (.append y z))) = tRec (c - 8) (lft ω.length ν.length a) (lft ω.length ν.length y) (lft ω.length ν.length z) := by
            show Std.Format.tag (if 16 + ω.length ≤ c then c + ν.length else c) _ = _
            rw [if_neg (by omega)]
            unfold tRec
            rw [show 8 + (c - 8) = c by omega]; rfl
          have e2 : Std.Format.tag c (.append a (.append y z)) = tRec (c - 8) a y z := by
            unfold tRec
            rw [show 8 + (c - 8) = c by omega]
          rw [e1, e2, cbd_rec, cbd_rec, key 0 a (cbd_lft e ν ω a μ) q0, key 1 y (cbd_lft e ν ω y μ) q1, key 2 z (cbd_lft e ν ω z μ) q2]
        | .tag _ _, h => simp [ok, h1, h2] at h
        | .nil, h => simp [ok, h1, h2] at h
        | .line, h => simp [ok, h1, h2] at h
        | .align _, h => simp [ok, h1, h2] at h
        | .text _, h => simp [ok, h1, h2] at h
        | .nest _ _, h => simp [ok, h1, h2] at h
        | .group _ _, h => simp [ok, h1, h2] at h
  | .tag c .nil, μ, h => by
    show cbd e _ (Std.Format.tag _ .nil) ↔ cbd e _ (Std.Format.tag c .nil)
    simp [cbd]
  | .tag c .line, μ, h => by simp [ok] at h
  | .tag c (.align _), μ, h => by simp [ok] at h
  | .tag c (.text _), μ, h => by simp [ok] at h
  | .tag c (.nest _ _), μ, h => by simp [ok] at h
  | .tag c (.group _ _), μ, h => by simp [ok] at h
  | .tag c (.tag _ _), μ, h => by simp [ok] at h
  | .nil, μ, h => by simp [ok] at h
  | .line, μ, h => by simp [ok] at h
  | .align _, μ, h => by simp [ok] at h
  | .text _, μ, h => by simp [ok] at h
  | .nest _ _, μ, h => by simp [ok] at h
  | .group _ _, μ, h => by simp [ok] at h
  | .append _ _, μ, h => by simp [ok] at h
/-- the same for the bounds around -/
def cbc (e : Nat) : List Ty → Prop
  | [] => True
  | b :: Γ => (cbd e (cl Γ) b ∧ 1 + chn (cl Γ) b ≤ e) ∧ cbc e Γ
theorem cl_bnd : ∀ (e : Nat) (Γ : List Ty) (k : Nat), okc Γ → cbc e Γ → k < Γ.length → ∃ ν : List Nat, ∃ ω : List Nat, cl Γ = ν ++ ω ∧ ω.length = k ∧ ok k (bnd Γ k) = true ∧ vw (cl Γ) k = 1 + chn ω (bnd Γ k) ∧ cbd e ω (bnd Γ k) ∧ vw (cl Γ) k ≤ e
  | _, [], _, _, _, h => absurd h (Nat.not_lt_zero _)
  | e, b :: Γ, k, hc, hb, hk => by
    by_cases h : k = Γ.length
    · subst h
      have e1 : vw (cl (b :: Γ)) Γ.length = 1 + chn (cl Γ) b := by
        show (if Γ.length = (cl Γ).length then 1 + chn (cl Γ) b else _) = _
        rw [if_pos (cl_len Γ).symm]
      have e2 : bnd (b :: Γ) Γ.length = b := by
        show (if Γ.length = Γ.length then b else _) = b
        rw [if_pos rfl]
      rw [e1, e2]
      exact ⟨[1 + chn (cl Γ) b], cl Γ, rfl, cl_len Γ, hc.1, rfl, hb.1.1, hb.1.2⟩
    · obtain ⟨ν, ω, e1, e2, e3, e4, e5, e6⟩ := cl_bnd e Γ k hc.2 hb.2 (by simp only [List.length_cons] at hk; omega)
      have e7 : vw (cl (b :: Γ)) k = vw (cl Γ) k := by
        show (if k = (cl Γ).length then _ else vw (cl Γ) k) = _
        rw [if_neg (by rw [cl_len]; exact h)]
      have e8 : bnd (b :: Γ) k = bnd Γ k := by rw [bnd, if_neg h]
      rw [e7, e8]
      exact ⟨(1 + chn (cl Γ) b) :: ν, ω, by rw [cl, e1]; rfl, e2, e3, e4, e5, e6⟩
theorem cl_expose {e : Nat} {Γ : List Ty} {k : Nat} (hc : okc Γ) (hb : cbc e Γ) (hk : k < Γ.length) : 1 + chn (cl Γ) (lft k (Γ.length - k) (bnd Γ k)) = vw (cl Γ) k ∧ cbd e (cl Γ) (lft k (Γ.length - k) (bnd Γ k)) ∧ vw (cl Γ) k ≤ e := by
  obtain ⟨ν, ω, e1, e2, e3, e4, e5, e6⟩ := cl_bnd e Γ k hc hb hk
  subst e2
  have hl : ν.length = Γ.length - ω.length := by
    have := cl_len Γ
    rw [e1, List.length_append] at this
    omega
  refine ⟨?_, ?_, e6⟩
  · rw [e4, e1, ← hl]
    congr 1
    exact chn_lft ν ω (μ := []) (by simpa using e3)
  · rw [e1, ← hl]
    exact (cbd_lft e ν ω (bnd Γ ω.length) [] (by simpa using e3)).mpr e5
/-- a step of a comparison is one of six -/
theorem stp_cases {Γ : List Ty} {S T : Ty} (h : tok (Γ, S, T)) : stp Γ S T = none ∨ (stp Γ S T = some [] ∧ rst S T = 0) ∨ (∃ k, k < Γ.length ∧ S = tVar k ∧ hd T ≠ 0 ∧ stp Γ S T = some [(Γ, lft k (Γ.length - k) (bnd Γ k), T)] ∧ rst S T = 1) ∨ (∃ m x y z m' x' y' z', m < 8 ∧ m' < 8 ∧ S = tRec m x y z ∧ T = tRec m' x' y' z' ∧ stp Γ S T = some (stl Γ m' 2 z z' ++ (stl Γ m' 1 y y' ++ stl Γ m' 0 x x')) ∧ rst S T = 0) ∨ (∃ a b a' b', S = tFun a b ∧ T = tFun a' b' ∧ stp Γ S T = some [(Γ, b, b'), (Γ, a', a)] ∧ rst S T = 0) ∨ (∃ a b b', S = tAll a b ∧ T = tAll a b' ∧ stp Γ S T = some [(a :: Γ, b, b')] ∧ rst S T = 1) := by
  have hs : ok Γ.length S = true := h.2.1
  have ht : ok Γ.length T = true := h.2.2
  by_cases n1 : hd T = 0 ∨ (16 ≤ hd S ∧ hd S = hd T)
  · exact Or.inr (Or.inl ⟨by unfold stp; rw [if_pos n1], by unfold rst; rw [if_pos n1]⟩)
  by_cases n2 : 16 ≤ hd S
  · obtain ⟨k, hk, rfl⟩ := hd_is_var hs n2
    refine Or.inr (Or.inr (Or.inl ⟨k, hk, rfl, fun e => n1 (Or.inl e), ?_, ?_⟩))
    · unfold stp
      rw [if_neg n1, if_pos n2, hd_var, show 16 + k - 16 = k by omega]
    · unfold rst; rw [if_neg n1, if_pos n2]
  by_cases n3 : 8 ≤ hd S ∧ 8 ≤ hd T ∧ hd T < 16
  · obtain ⟨m, x, y, z, hm, rfl⟩ := hd_is_rec hs n3.1 (by omega)
    obtain ⟨m', x', y', z', hm', rfl⟩ := hd_is_rec ht n3.2.1 n3.2.2
    by_cases n6 : m &&& m' = m'
    · refine Or.inr (Or.inr (Or.inr (Or.inl ⟨m, x, y, z, m', x', y', z', hm, hm', rfl, rfl, ?_, ?_⟩)))
      · unfold stp
        rw [if_neg n1, if_neg n2, if_pos n3, hd_rec, hd_rec, show 8 + m - 8 = m by omega, show 8 + m' - 8 = m' by omega, if_pos n6]
        rfl
      · unfold rst; rw [if_neg n1, if_neg n2, if_neg (by rw [hd_rec]; omega)]
    · left
      unfold stp
      rw [if_neg n1, if_neg n2, if_pos n3, hd_rec, hd_rec, show 8 + m - 8 = m by omega, show 8 + m' - 8 = m' by omega, if_neg n6]
  by_cases n4 : hd S ≠ hd T ∨ hd S = 0
  · left
    unfold stp
    rw [if_neg n1, if_neg n2, if_neg n3, if_pos n4]
  by_cases n5 : hd S = 1
  · obtain ⟨a, b, rfl, ha, hb⟩ := hdf hs n5
    obtain ⟨a', b', rfl, ha', hb'⟩ := hdf ht (by omega)
    refine Or.inr (Or.inr (Or.inr (Or.inr (Or.inl ⟨a, b, a', b', rfl, rfl, ?_, ?_⟩))))
    · unfold stp
      rw [if_neg n1, if_neg n2, if_neg n3, if_neg n4, if_pos n5]
      rfl
    · unfold rst; rw [if_neg n1, if_neg n2, if_neg (by rw [hd_fun]; omega)]
  have h2 : hd S = 2 := by
    rcases ok_cases hs with rfl | ⟨k, hk, rfl⟩ | ⟨a, b, rfl, ha, hb⟩ | ⟨a, b, rfl, ha, hb⟩ | ⟨m, x, y, z, hm, rfl, h0, h1, h2⟩
    · rw [hd_top] at n4; omega
    · rw [hd_var] at n2; omega
    · rw [hd_fun] at n5; omega
    · rfl
    · exfalso
      rw [hd_rec] at n3 n4
      omega
  obtain ⟨a, b, rfl, ha, hb⟩ := hda hs h2
  obtain ⟨a', b', rfl, ha', hb'⟩ := hda ht (by omega)
  by_cases n7 : flat a = flat a'
  · have ea : a = a' := flat_eq ha ha' n7
    subst ea
    refine Or.inr (Or.inr (Or.inr (Or.inr (Or.inr ⟨a, b, b', rfl, rfl, ?_, ?_⟩))))
    · unfold stp
      rw [if_neg n1, if_neg n2, if_neg n3, if_neg n4, if_neg n5]
      show (if flat a = flat a then _ else _) = _
      rw [if_pos rfl]
      rfl
    · exact rst_all _ _ _ _
  · left
    unfold stp
    rw [if_neg n1, if_neg n2, if_neg n3, if_neg n4, if_neg n5]
    show (if flat a = flat a' then _ else _) = _
    rw [if_neg n7]
