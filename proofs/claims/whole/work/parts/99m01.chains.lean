/-! CHAINS INSIDE A TYPE: how many variables bound by variables stand one behind another. -/
def chi (χ : List Nat) (t : Ty) : Nat := if 16 ≤ hd t then 1 + vw χ (hd t - 16) else 0
def chd (e : Nat) : List Nat → Ty → Prop
  | χ, .tag c (.append a b) => if c = 2 then chd e χ a ∧ chi χ a ≤ e ∧ chd e (chi χ a :: χ) b else chd e χ a ∧ chd e χ b
  | χ, .append a b => chd e χ a ∧ chd e χ b
  | _, _ => True

section PmM1
variable {e : Nat}
theorem chd_top (χ : List Nat) : chd e χ tTop ↔ True := by simp [tTop, chd]
theorem chd_var (χ : List Nat) (k : Nat) : chd e χ (tVar k) ↔ True := by simp [tVar, chd]
theorem chd_nil (χ : List Nat) : chd e χ .nil ↔ True := by simp [chd]
theorem chd_fun (χ : List Nat) (a b : Ty) : chd e χ (tFun a b) ↔ chd e χ a ∧ chd e χ b := by simp [tFun, chd]
theorem chd_all (χ : List Nat) (a b : Ty) : chd e χ (tAll a b) ↔ chd e χ a ∧ chi χ a ≤ e ∧ chd e ((chi χ a) :: χ) b := by simp [tAll, chd]
theorem chd_rec (χ : List Nat) {m : Nat} (x y z : Ty) : chd e χ (tRec m x y z) ↔ chd e χ x ∧ chd e χ y ∧ chd e χ z := by
  unfold tRec
  rw [chd, if_neg (by omega), chd]
end PmM1

theorem chi_lft (ν ω : List Nat) {t : Ty} {μ : List Nat} (h : ok (ω.length + μ.length) t = true) : chi (μ ++ (ν ++ ω)) (lft ω.length ν.length t) = chi (μ ++ ω) t := by
  unfold chi
  rcases ok_cases h with rfl | ⟨k, hk, rfl⟩ | ⟨a, b, rfl, -, -⟩ | ⟨a, b, rfl, -, -⟩ | ⟨m, x, y, z, hm, rfl, -, -, -⟩
  · have e : hd (lft ω.length ν.length tTop) = 0 := by
      show (if 16 + ω.length ≤ 0 then 0 + ν.length else 0) = 0
      rw [if_neg (by omega)]
    rw [e, hd_top, if_neg (by omega), if_neg (by omega)]
  · have e : hd (lft ω.length ν.length (tVar k)) = if 16 + ω.length ≤ 16 + k then 16 + k + ν.length else 16 + k := rfl
    rw [e, hd_var]
    by_cases hq : ω.length ≤ k
    · rw [if_pos (show 16 + ω.length ≤ 16 + k by omega), if_pos (by omega), if_pos (by omega), show 16 + k + ν.length - 16 = k + ν.length by omega, show 16 + k - 16 = k by omega, vw_app_hi μ ν ω k hq hk]
    · rw [if_neg (show ¬ 16 + ω.length ≤ 16 + k by omega), if_pos (by omega), show 16 + k - 16 = k by omega, vw_app_lo μ ω k (by omega), ← List.append_assoc, vw_app_lo (μ ++ ν) ω k (by omega), if_pos (by omega)]
  · have e : hd (lft ω.length ν.length (tFun a b)) = 1 := by
      show (if 16 + ω.length ≤ 1 then 1 + ν.length else 1) = 1
      rw [if_neg (by omega)]
    rw [e, hd_fun, if_neg (by omega), if_neg (by omega)]
  · have e : hd (lft ω.length ν.length (tAll a b)) = 2 := by
      show (if 16 + ω.length ≤ 2 then 2 + ν.length else 2) = 2
      rw [if_neg (by omega)]
    rw [e, hd_all, if_neg (by omega), if_neg (by omega)]
  · have e : hd (lft ω.length ν.length (tRec m x y z)) = 8 + m := by
      show (if 16 + ω.length ≤ 8 + m then 8 + m + ν.length else 8 + m) = 8 + m
      rw [if_neg (by omega)]
    rw [e, hd_rec, if_neg (by omega), if_neg (by omega)]
theorem chd_lft (e : Nat) (ν ω : List Nat) : ∀ (t : Ty) (μ : List Nat), ok (ω.length + μ.length) t = true → (chd e (μ ++ (ν ++ ω)) (lft ω.length ν.length t) ↔ chd e (μ ++ ω) t)
  | .tag c (.append a b), μ, h => by
    by_cases h1 : c = 1
    · subst h1
      have h := ok_fun.mp h
      have e1 : lft ω.length ν.length (.tag 1 (.append a b)) = tFun (lft ω.length ν.length a) (lft ω.length ν.length b) := by
        show Std.Format.tag (if 16 + ω.length ≤ 1 then 1 + ν.length else 1) _ = _
        rw [if_neg (by omega)]; rfl
      rw [e1, chd_fun, chd_lft e ν ω a μ h.1, chd_lft e ν ω b μ h.2]
      exact (chd_fun _ _ _).symm
    · by_cases h2 : c = 2
      · subst h2
        have h := ok_all.mp h
        have e1 : lft ω.length ν.length (.tag 2 (.append a b)) = tAll (lft ω.length ν.length a) (lft ω.length ν.length b) := by
          show Std.Format.tag (if 16 + ω.length ≤ 2 then 2 + ν.length else 2) _ = _
          rw [if_neg (by omega)]; rfl
        have ih := chd_lft e ν ω b ((chi (μ ++ ω) a) :: μ) (by simp only [List.length_cons]; rw [← Nat.add_assoc]; exact h.2)
        rw [List.cons_append, List.cons_append] at ih
        rw [e1, chd_all, chd_lft e ν ω a μ h.1, chi_lft ν ω h.1, ih]
        exact (chd_all _ _ _).symm
      · match b, h with
        | .append y z, h =>
          rw [ok] at h
          simp only [Bool.and_eq_true, decide_eq_true_eq] at h
          obtain ⟨hc, q0, q1, q2⟩ := h
          have key : ∀ (k : Nat) (t : Ty), (ok (ω.length + μ.length) t = true → (chd e (μ ++ (ν ++ ω)) (lft ω.length ν.length t) ↔ chd e (μ ++ ω) t)) → (if bit (c - 8) k = true then ok (ω.length + μ.length) t else isNil t) = true → (chd e (μ ++ (ν ++ ω)) (lft ω.length ν.length t) ↔ chd e (μ ++ ω) t) := by
            intro k t ht hk
            split at hk
            · exact ht hk
            · rw [isNil_eq hk]
              show chd e _ .nil ↔ chd e _ .nil
              rw [chd_nil, chd_nil]
          have e1 : lft ω.length ν.length (.tag c (.append a (.append y z))) = tRec (c - 8) (lft ω.length ν.length a) (lft ω.length ν.length y) (lft ω.length ν.length z) := by
            show Std.Format.tag (if 16 + ω.length ≤ c then c + ν.length else c) _ = _
            rw [if_neg (by omega)]
            unfold tRec
            rw [show 8 + (c - 8) = c by omega]; rfl
          have e2 : Std.Format.tag c (.append a (.append y z)) = tRec (c - 8) a y z := by
            unfold tRec
            rw [show 8 + (c - 8) = c by omega]
          rw [e1, e2, chd_rec, chd_rec, key 0 a (chd_lft e ν ω a μ) q0, key 1 y (chd_lft e ν ω y μ) q1, key 2 z (chd_lft e ν ω z μ) q2]
        | .tag _ _, h => simp [ok, h1, h2] at h
        | .nil, h => simp [ok, h1, h2] at h
        | .line, h => simp [ok, h1, h2] at h
        | .align _, h => simp [ok, h1, h2] at h
        | .text _, h => simp [ok, h1, h2] at h
        | .nest _ _, h => simp [ok, h1, h2] at h
        | .group _ _, h => simp [ok, h1, h2] at h
  | .tag c .nil, μ, h => by
    show chd e _ (Std.Format.tag _ .nil) ↔ chd e _ (Std.Format.tag c .nil)
    simp [chd]
  | .tag c .line, μ, h => by simp [ok] at h
  | .tag c (.align _), μ, h => by simp [ok] at h
  | .tag c (.text _), μ, h => by simp [ok] at h
  | .tag c (.nest _ _), μ, h => by simp [ok] at h
  | .tag c (.group _ _), μ, h => by simp [ok] at h
  | .tag c (.tag _ _), μ, h => by simp [ok] at h
  | .nil, μ, h => by simp [ok] at h
  | .line, μ, h => by simp [ok] at h
  | .align _, μ, h => by simp [ok] at h
  | .text _, μ, h => by simp [ok] at h
  | .nest _ _, μ, h => by simp [ok] at h
  | .group _ _, μ, h => by simp [ok] at h
  | .append _ _, μ, h => by simp [ok] at h

theorem chi_mono {ψ ψ' : List Nat} {t : Ty} (o : ok ψ.length t = true) (h : ∀ j, j < ψ.length → vw ψ' j ≤ vw ψ j) : chi ψ' t ≤ chi ψ t := by
  unfold chi
  split
  · rename_i c
    obtain ⟨k, hk, rfl⟩ := hd_is_var o c
    rw [hd_var, show 16 + k - 16 = k by omega]
    have := h k hk
    omega
  · exact Nat.le_refl _
theorem chd_mono {e : Nat} : ∀ (f : Nat) (t : Ty) (ψ ψ' : List Nat), (flat t).length ≤ f → ψ'.length = ψ.length → ok ψ.length t = true → (∀ j, j < ψ.length → vw ψ' j ≤ vw ψ j) → chd e ψ t → chd e ψ' t
  | 0, t, ψ, ψ', hf, hl, o, hw, h => by have := flat_pos o; omega
  | f + 1, t, ψ, ψ', hf, hl, o, hw, h => by
    rcases ok_cases o with rfl | ⟨k, hk, rfl⟩ | ⟨a, c, rfl, ha, hb⟩ | ⟨a, c, rfl, ha, hb⟩ | ⟨l, x, y, z, hm, rfl, h0, h1, h2⟩
    · exact (chd_top _).mpr trivial
    · exact (chd_var _ _).mpr trivial
    · rw [flat_fun, List.length_cons, List.length_append] at hf
      rw [chd_fun] at h ⊢
      exact ⟨chd_mono f a ψ ψ' (by omega) hl ha hw h.1, chd_mono f c ψ ψ' (by omega) hl hb hw h.2⟩
    · rw [flat_all, List.length_cons, List.length_append] at hf
      rw [chd_all] at h ⊢
      have q := chi_mono ha hw
      refine ⟨chd_mono f a ψ ψ' (by omega) hl ha hw h.1, by omega, ?_⟩
      refine chd_mono f c (chi ψ a :: ψ) (chi ψ' a :: ψ') (by omega) (by rw [List.length_cons, List.length_cons, hl]) (by rw [List.length_cons]; exact hb) (fun j hj => ?_) h.2.2
      rw [vw_cons, vw_cons, hl]
      by_cases e : j = ψ.length
      · rw [if_pos e, if_pos e]; exact q
      · rw [if_neg e, if_neg e]; exact hw j (by rw [List.length_cons] at hj; omega)
    · rw [flat_rec, List.length_cons, List.length_append, List.length_append] at hf
      rw [chd_rec] at h ⊢
      have key : ∀ (i : Nat) (p : Ty), (flat p).length ≤ f → okl ψ.length l i p → chd e ψ p → chd e ψ' p := by
        intro i p hp ho hn
        unfold okl at ho
        by_cases hb : bit l i = true
        · rw [if_pos hb] at ho
          exact chd_mono f p ψ ψ' hp hl ho hw hn
        · rw [if_neg hb] at ho
          rw [ho]; exact (chd_nil _).mpr trivial
      exact ⟨key 0 x (by omega) h0 h.1, key 1 y (by omega) h1 h.2.1, key 2 z (by omega) h2 h.2.2⟩
/-- an instance -/
theorem chi_sbt {A : Ty} {ψ : List Nat} {p : Nat} (oA : ok ψ.length A = true) (hp : chi ψ A ≤ 1 + p) {t : Ty} {μ : List Nat} (o : ok (ψ.length + 1 + μ.length) t = true) : chi (μ ++ ψ) (sbt ψ.length A μ.length t) ≤ chi (μ ++ (p :: ψ)) t := by
  rcases ok_cases o with rfl | ⟨k, hk, rfl⟩ | ⟨a, c, rfl, ha, hb⟩ | ⟨a, c, rfl, ha, hb⟩ | ⟨l, x, y, z, hm, rfl, h0, h1, h2⟩
  · rw [sbt_top]; unfold chi; rw [hd_top, if_neg (by omega)]; exact Nat.zero_le _
  · have er : chi (μ ++ (p :: ψ)) (tVar k) = 1 + vw (μ ++ (p :: ψ)) k := by
      unfold chi
      rw [hd_var, if_pos (by omega), show 16 + k - 16 = k by omega]
    rw [er, sbt_var]
    by_cases e : k = ψ.length
    · rw [if_pos e, vw_app_lo _ _ k (by rw [List.length_cons]; omega), vw_cons, if_pos e]
      have q := chi_lft μ ψ (t := A) (μ := []) (by simpa using oA)
      rw [List.nil_append, List.nil_append] at q
      rw [q]; exact hp
    · rw [if_neg e]
      by_cases e2 : ψ.length < k
      · rw [if_pos e2]
        have := vw_app_hi μ [p] ψ (k - 1) (by omega) (by omega)
        rw [List.length_singleton, show k - 1 + 1 = k by omega] at this
        have this : vw (μ ++ (p :: ψ)) k = vw (μ ++ ψ) (k - 1) := this
        unfold chi
        rw [hd_var, if_pos (by omega), show 16 + (k - 1) - 16 = k - 1 by omega, this]
        exact Nat.le_refl _
      · rw [if_neg e2, vw_app_lo _ _ k (by rw [List.length_cons]; omega), vw_cons, if_neg e]
        unfold chi
        rw [hd_var, if_pos (by omega), show 16 + k - 16 = k by omega, vw_app_lo _ ψ k (by omega)]
        exact Nat.le_refl _
  · rw [sbt_fun]; unfold chi; rw [hd_fun, if_neg (by omega)]; exact Nat.zero_le _
  · rw [sbt_all]; unfold chi; rw [hd_all, if_neg (by omega)]; exact Nat.zero_le _
  · rw [sbt_rec]; unfold chi; rw [hd_rec, if_neg (by omega)]; exact Nat.zero_le _
theorem chd_sbt {e : Nat} {A : Ty} {ψ : List Nat} {p : Nat} (oA : ok ψ.length A = true) (hp : chi ψ A ≤ 1 + p) (hA : chd e ψ A) : ∀ (f : Nat) (t : Ty) (μ : List Nat), (flat t).length ≤ f → ok (ψ.length + 1 + μ.length) t = true → chd e (μ ++ (p :: ψ)) t → chd e (μ ++ ψ) (sbt ψ.length A μ.length t)
  | 0, t, μ, hf, o, _ => by have := flat_pos o; omega
  | f + 1, t, μ, hf, o, h => by
    rcases ok_cases o with rfl | ⟨k, hk, rfl⟩ | ⟨a, c, rfl, ha, hb⟩ | ⟨a, c, rfl, ha, hb⟩ | ⟨l, x, y, z, hm, rfl, h0, h1, h2⟩
    · rw [sbt_top]; exact (chd_top _).mpr trivial
    · rw [sbt_var]
      by_cases e1 : k = ψ.length
      · rw [if_pos e1]
        have q := chd_lft e μ ψ A [] (by simpa using oA)
        rw [List.nil_append, List.nil_append] at q
        exact q.mpr hA
      · rw [if_neg e1]; split <;> exact (chd_var _ _).mpr trivial
    · rw [flat_fun, List.length_cons, List.length_append] at hf
      rw [chd_fun] at h
      rw [sbt_fun, chd_fun]
      exact ⟨chd_sbt oA hp hA f a μ (by omega) ha h.1, chd_sbt oA hp hA f c μ (by omega) hb h.2⟩
    · rw [flat_all, List.length_cons, List.length_append] at hf
      rw [chd_all] at h
      rw [sbt_all, chd_all]
      have q := chi_sbt oA hp ha
      have q3 := chd_sbt oA hp hA f c (chi (μ ++ (p :: ψ)) a :: μ) (by omega) (by rw [List.length_cons]; exact hb) (by rw [List.cons_append]; exact h.2.2)
      rw [List.cons_append, List.length_cons] at q3
      refine ⟨chd_sbt oA hp hA f a μ (by omega) ha h.1, by omega, ?_⟩
      refine chd_mono _ _ (chi (μ ++ (p :: ψ)) a :: (μ ++ ψ)) (chi (μ ++ ψ) (sbt ψ.length A μ.length a) :: (μ ++ ψ)) (Nat.le_refl _) (by rw [List.length_cons, List.length_cons]) ?_ (fun j hj => ?_) q3
      · have := ok_sbt oA f c (μ.length + 1) (by omega) hb
        rw [List.length_cons, List.length_append, show μ.length + ψ.length + 1 = ψ.length + (μ.length + 1) by omega]
        exact this
      · rw [vw_cons, vw_cons]
        by_cases e : j = (μ ++ ψ).length
        · rw [if_pos e, if_pos e]; exact q
        · rw [if_neg e, if_neg e]; exact Nat.le_refl _
    · rw [flat_rec, List.length_cons, List.length_append, List.length_append] at hf
      rw [chd_rec] at h
      have key : ∀ (i : Nat) (p' : Ty), (flat p').length ≤ f → okl (ψ.length + 1 + μ.length) l i p' → chd e (μ ++ (p :: ψ)) p' → chd e (μ ++ ψ) (sbt ψ.length A μ.length p') := by
        intro i p' hp' ho hn
        unfold okl at ho
        by_cases hb : bit l i = true
        · rw [if_pos hb] at ho
          exact chd_sbt oA hp hA f p' μ hp' ho hn
        · rw [if_neg hb] at ho
          rw [ho, sbt_nil]; exact (chd_nil _).mpr trivial
      rw [sbt_rec, chd_rec]
      exact ⟨key 0 x (by omega) h0 h.1, key 1 y (by omega) h1 h.2.1, key 2 z (by omega) h2 h.2.2⟩

/-- the bounds around -/
def cxi (e : Nat) : List Nat → List Ty → Prop
  | [], [] => True
  | _ :: ψ, b :: Γ => chd e ψ b ∧ cxi e ψ Γ
  | _, _ => False
theorem cxi_len {e : Nat} : ∀ {ψ : List Nat} {Γ : List Ty}, cxi e ψ Γ → ψ.length = Γ.length
  | [], [], _ => rfl
  | _ :: ψ, _ :: Γ, h => by
    have := cxi_len h.2
    rw [List.length_cons, List.length_cons, this]
  | [], _ :: _, h => h.elim
  | _ :: _, [], h => h.elim
theorem cxi_cons {e p : Nat} {ψ : List Nat} {Γ : List Ty} {a : Ty} (h : cxi e ψ Γ) (ha : chd e ψ a) : cxi e (p :: ψ) (a :: Γ) := ⟨ha, h⟩
theorem cxi_bd {e : Nat} : ∀ {ψ : List Nat} {Γ : List Ty} {k : Nat}, cxi e ψ Γ → k < Γ.length → ∃ ν ω : List Nat, ψ = ν ++ ω ∧ ω.length = k ∧ chd e ω (bnd Γ k)
  | [], [], _, _, hk => absurd hk (Nat.not_lt_zero _)
  | p :: ψ, b :: Γ, k, h, hk => by
    have hl := cxi_len h.2
    by_cases c : k = Γ.length
    · refine ⟨[p], ψ, rfl, by rw [hl, c], ?_⟩
      show chd e ψ (if k = Γ.length then b else bnd Γ k)
      rw [if_pos c]; exact h.1
    · obtain ⟨ν, ω, e1, e2, e3⟩ := cxi_bd (k := k) h.2 (by rw [List.length_cons] at hk; omega)
      refine ⟨p :: ν, ω, by rw [e1]; rfl, e2, ?_⟩
      show chd e ω (if k = Γ.length then b else bnd Γ k)
      rw [if_neg c]; exact e3
  | [], _ :: _, _, h, _ => h.elim
  | _ :: _, [], _, h, _ => h.elim
theorem cxi_exp {e : Nat} {ψ : List Nat} {Γ : List Ty} {k : Nat} (hc : okc Γ) (h : cxi e ψ Γ) (hk : k < Γ.length) : chd e ψ (lft k (Γ.length - k) (bnd Γ k)) := by
  obtain ⟨ν, ω, e1, e2, e3⟩ := cxi_bd h hk
  have hl := cxi_len h
  have o := okc_bnd' hc hk
  subst e2
  have e4 : ν.length = Γ.length - ω.length := by
    rw [e1, List.length_append] at hl
    omega
  have q := chd_lft e ν ω (bnd Γ ω.length) [] (by simpa using o)
  rw [List.nil_append, List.nil_append, ← e1, e4] at q
  exact q.mpr e3

theorem chd_upart {e0 : Nat} {ψ : List Nat} {r : Ty → Ty → Ru} {set m m' i : Nat} {x y a : Ty} (hr : bit m i = true → bit m' i = true → ∀ R, r x y = some R → chd e0 ψ R) (hx : chd e0 ψ x) (hy : chd e0 ψ y) (e : upart r set m m' i x y = some a) : chd e0 ψ a := by
  unfold upart at e
  by_cases h1 : bit set i = true
  · rw [if_pos h1] at e
    by_cases h2 : bit m i = true
    · rw [if_pos h2] at e
      by_cases h3 : bit m' i = true
      · rw [if_pos h3] at e; exact hr h2 h3 a e
      · rw [if_neg h3] at e; cases e; exact hx
    · rw [if_neg h2] at e; cases e; exact hy
  · rw [if_neg h1] at e; cases e; exact (chd_nil _).mpr trivial
theorem cu_ci {e0 : Nat} : ∀ (f w : Nat) (Γ : List Ty) (ψ : List Nat) (S T R : Ty), cxi e0 ψ Γ → tok (Γ, S, T) → chd e0 ψ S → chd e0 ψ T → cu f w Γ S T = some R → chd e0 ψ R
  | 0, _, _, _, _, _, _, _, _, _, _, e => by cases e
  | f + 1, w, Γ, ψ, S, T, R, hv, tk, nS, nT, e => by
    have hc : okc Γ := tk.1
    have hs : ok Γ.length S = true := tk.2.1
    have hT : ok Γ.length T = true := tk.2.2
    have e : cmsU (cu f) w Γ S T = some R := e
    unfold cmsU at e
    by_cases c1 : w = 2
    · rw [if_pos c1] at e; cases e; exact nS
    rw [if_neg c1] at e
    by_cases c2 : bel Γ S T = true
    · rw [if_pos c2] at e
      by_cases c0 : w = 0
      · rw [if_pos c0] at e; cases e; exact nT
      · rw [if_neg c0] at e; cases e; exact nS
    rw [if_neg c2] at e
    by_cases c3 : bel Γ T S = true
    · rw [if_pos c3] at e
      by_cases c0 : w = 0
      · rw [if_pos c0] at e; cases e; exact nS
      · rw [if_neg c0] at e; cases e; exact nT
    rw [if_neg c3] at e
    by_cases c4 : 16 ≤ hd S
    · rw [if_pos c4] at e
      by_cases c5 : w = 1
      · rw [if_pos c5] at e; cases e
      rw [if_neg c5] at e
      obtain ⟨k, hk, rfl⟩ := hd_is_var hs c4
      rw [exps_var] at e
      exact cu_ci f w Γ ψ _ T R hv ⟨hc, ok_expose hc hk, hT⟩ (cxi_exp hc hv hk) nT e
    rw [if_neg c4] at e
    by_cases c6 : 16 ≤ hd T
    · rw [if_pos c6] at e
      by_cases c5 : w = 1
      · rw [if_pos c5] at e; cases e
      rw [if_neg c5] at e
      obtain ⟨k, hk, rfl⟩ := hd_is_var hT c6
      rw [exps_var] at e
      exact cu_ci f w Γ ψ S _ R hv ⟨hc, hs, ok_expose hc hk⟩ nS (cxi_exp hc hv hk) e
    rw [if_neg c6] at e
    by_cases c7 : 8 ≤ hd S ∧ 8 ≤ hd T
    · rw [if_pos c7] at e
      obtain ⟨m, x, y, z, hm, rfl⟩ := hd_is_rec hs c7.1 (by omega)
      obtain ⟨m', x', y', z', hm', rfl⟩ := hd_is_rec hT c7.2 (by omega)
      obtain ⟨h0, h1, h2⟩ := (ok_rec hm).mp hs
      obtain ⟨h0', h1', h2'⟩ := (ok_rec hm').mp hT
      rw [hd_rec, hd_rec, show 8 + m - 8 = m by omega, show 8 + m' - 8 = m' by omega] at e
      rw [chd_rec] at nS nT
      rcases uRec_some e with e | ⟨a, b, c, ea, eb, ec, e⟩
      · rw [e]; exact (chd_top _).mpr trivial
      · have q0 := chd_upart (fun i1 i2 R hR => cu_ci f w Γ ψ x x' R hv ⟨hc, okl_on h0 (bit_iff.mp i1), okl_on h0' (bit_iff.mp i2)⟩ nS.1 nT.1 hR) nS.1 nT.1 ea
        have q1 := chd_upart (fun i1 i2 R hR => cu_ci f w Γ ψ y y' R hv ⟨hc, okl_on h1 (bit_iff.mp i1), okl_on h1' (bit_iff.mp i2)⟩ nS.2.1 nT.2.1 hR) nS.2.1 nT.2.1 eb
        have q2 := chd_upart (fun i1 i2 R hR => cu_ci f w Γ ψ z z' R hv ⟨hc, okl_on h2 (bit_iff.mp i1), okl_on h2' (bit_iff.mp i2)⟩ nS.2.2 nT.2.2 hR) nS.2.2 nT.2.2 ec
        rw [e, chd_rec]; exact ⟨q0, q1, q2⟩
    rw [if_neg c7] at e
    by_cases c8 : hd S = 1 ∧ hd T = 1
    · rw [if_pos c8] at e
      obtain ⟨a, b, rfl, ha, hb⟩ := hd_is_fun hs c8.1
      obtain ⟨a', b', rfl, ha', hb'⟩ := hd_is_fun hT c8.2
      rw [chd_fun] at nS nT
      rcases uFun_some e with e | ⟨p, q, ep, eq, e⟩
      · rw [e]; exact (chd_top _).mpr trivial
      · have q1 := cu_ci f (1 - w) Γ ψ a a' p hv ⟨hc, ha, ha'⟩ nS.1 nT.1 ep
        have q2 := cu_ci f w Γ ψ b b' q hv ⟨hc, hb, hb'⟩ nS.2 nT.2 eq
        rw [e, chd_fun]; exact ⟨q1, q2⟩
    rw [if_neg c8] at e
    by_cases c9 : hd S = 2 ∧ hd T = 2 ∧ flat (k1 S) = flat (k1 T)
    · rw [if_pos c9] at e
      obtain ⟨a, b, rfl, ha, hb⟩ := hd_is_all hs c9.1
      obtain ⟨a', b', rfl, ha', hb'⟩ := hd_is_all hT c9.2.1
      have ea : a = a' := flat_eq ha ha' c9.2.2
      subst ea
      rw [chd_all] at nS nT
      rcases uAll_some e with e | ⟨q, eq, e⟩
      · rw [e]; exact (chd_top _).mpr trivial
      · have e : R = tAll a q := e
        have q1 := cu_ci f w (a :: Γ) (chi ψ a :: ψ) b b' q (cxi_cons hv nS.1) ⟨⟨ha, hc⟩, hb, hb'⟩ nS.2.2 nT.2.2 eq
        rw [e, chd_all]; exact ⟨nS.1, nS.2.1, q1⟩
    rw [if_neg c9] at e
    rw [tnu_some e]; exact (chd_top _).mpr trivial
theorem chd_expo {e0 : Nat} {ψ : List Nat} {Γ : List Ty} (hc : okc Γ) (hv : cxi e0 ψ Γ) : ∀ (f : Nat) (S : Ty), ok Γ.length S = true → chd e0 ψ S → chd e0 ψ (expo Γ f S)
  | 0, S, _, h => h
  | f + 1, S, o, h => by
    show chd e0 ψ (if 16 ≤ hd S then expo Γ f (exps Γ S) else S)
    by_cases c : 16 ≤ hd S
    · rw [if_pos c]
      obtain ⟨k, hk, rfl⟩ := hd_is_var o c
      rw [exps_var]
      exact chd_expo hc hv f _ (ok_expose hc hk) (cxi_exp hc hv hk)
    · rw [if_neg c]; exact h

/-- short chains: those inside a type, and those of the variables around -/
theorem chd_cbd {e E : Nat} (hE : 1 ≤ E) : ∀ (f : Nat) (t : Ty) (ψ χ : List Nat), (flat t).length ≤ f → χ.length = ψ.length → ok ψ.length t = true → (∀ j, j < ψ.length → vw χ j ≤ vw ψ j + E) → chd e ψ t → cbd (e + E) χ t
  | 0, t, ψ, χ, hf, hl, o, _, _ => by have := flat_pos o; omega
  | f + 1, t, ψ, χ, hf, hl, o, hw, h => by
    rcases ok_cases o with rfl | ⟨k, hk, rfl⟩ | ⟨a, c, rfl, ha, hb⟩ | ⟨a, c, rfl, ha, hb⟩ | ⟨l, x, y, z, hm, rfl, h0, h1, h2⟩
    · exact (cbd_top _).mpr trivial
    · exact (cbd_var _ _).mpr trivial
    · rw [flat_fun, List.length_cons, List.length_append] at hf
      rw [chd_fun] at h
      exact (cbd_fun _ _ _).mpr ⟨chd_cbd hE f a ψ χ (by omega) hl ha hw h.1, chd_cbd hE f c ψ χ (by omega) hl hb hw h.2⟩
    · rw [flat_all, List.length_cons, List.length_append] at hf
      rw [chd_all] at h
      have q : 1 + chn χ a ≤ chi ψ a + E := by
        unfold chn chi
        by_cases c : 16 ≤ hd a
        · rw [if_pos c, if_pos c]
          obtain ⟨k, hk, rfl⟩ := hd_is_var ha c
          rw [hd_var, show 16 + k - 16 = k by omega]
          have := hw k hk
          omega
        · rw [if_neg c, if_neg c]; omega
      refine (cbd_all _ _ _).mpr ⟨chd_cbd hE f a ψ χ (by omega) hl ha hw h.1, by omega, ?_⟩
      refine chd_cbd hE f c (chi ψ a :: ψ) ((1 + chn χ a) :: χ) (by omega) (by rw [List.length_cons, List.length_cons, hl]) (by rw [List.length_cons]; exact hb) (fun j hj => ?_) h.2.2
      rw [vw_cons, vw_cons, hl]
      by_cases e : j = ψ.length
      · rw [if_pos e, if_pos e]; exact q
      · rw [if_neg e, if_neg e]; exact hw j (by rw [List.length_cons] at hj; omega)
    · rw [flat_rec, List.length_cons, List.length_append, List.length_append] at hf
      rw [chd_rec] at h
      have key : ∀ (i : Nat) (p : Ty), (flat p).length ≤ f → okl ψ.length l i p → chd e ψ p → cbd (e + E) χ p := by
        intro i p hp ho hn
        unfold okl at ho
        by_cases hb : bit l i = true
        · rw [if_pos hb] at ho
          exact chd_cbd hE f p ψ χ hp hl ho hw hn
        · rw [if_neg hb] at ho
          rw [ho]; exact (cbd_nil χ).mpr trivial
      exact (cbd_rec _ _ _ _).mpr ⟨key 0 x (by omega) h0 h.1, key 1 y (by omega) h1 h.2.1, key 2 z (by omega) h2 h.2.2⟩
theorem cxi_cbc {e E : Nat} (hE : 1 ≤ E) : ∀ (Γ : List Ty) (ψ : List Nat), okc Γ → cxi e ψ Γ → (∀ j, j < Γ.length → vw (cl Γ) j ≤ E) → cbc (e + E) Γ
  | [], _, _, _, _ => trivial
  | a :: Γ, [], _, h, _ => h.elim
  | a :: Γ, p :: ψ, hc, h, hE2 => by
    have hl := cxi_len h.2
    have lo : ∀ j, j < Γ.length → vw (cl Γ) j ≤ E := fun j hj => by
      have := hE2 j (by rw [List.length_cons]; omega)
      have e1 : vw (cl (a :: Γ)) j = vw (cl Γ) j := by
        show (if j = (cl Γ).length then _ else vw (cl Γ) j) = _
        rw [if_neg (by rw [cl_len]; omega)]
      rw [e1] at this; exact this
    have top := hE2 Γ.length (by rw [List.length_cons]; omega)
    have e2 : vw (cl (a :: Γ)) Γ.length = 1 + chn (cl Γ) a := by
      show (if Γ.length = (cl Γ).length then 1 + chn (cl Γ) a else _) = _
      rw [if_pos (cl_len Γ).symm]
    rw [e2] at top
    refine ⟨⟨?_, by omega⟩, cxi_cbc hE Γ ψ hc.2 h.2 lo⟩
    exact chd_cbd hE _ a ψ (cl Γ) (Nat.le_refl _) (by rw [cl_len, hl]) (by rw [hl]; exact hc.1) (fun j hj => by
      have := lo j (by omega)
      omega) h.1
theorem chd_TB {e E : Nat} (hE : 1 ≤ E) {Γ : List Ty} {S T : Ty} {ψ : List Nat} (tk : tok (Γ, S, T)) (hc : cxi e ψ Γ) (hE2 : ∀ j, j < Γ.length → vw (cl Γ) j ≤ E) (hS : chd e ψ S) (hT : chd e ψ T) : TB (e + E) (Γ, S, T) := by
  have hl := cxi_len hc
  have hw : ∀ j, j < ψ.length → vw (cl Γ) j ≤ vw ψ j + E := fun j hj => by
    have := hE2 j (by omega)
    omega
  exact ⟨tk, cxi_cbc hE Γ ψ tk.1 hc hE2, chd_cbd hE _ S ψ _ (Nat.le_refl _) (by rw [cl_len, hl]) (by rw [hl]; exact tk.2.1) hw hS, chd_cbd hE _ T ψ _ (Nat.le_refl _) (by rw [cl_len, hl]) (by rw [hl]; exact tk.2.2) hw hT⟩
