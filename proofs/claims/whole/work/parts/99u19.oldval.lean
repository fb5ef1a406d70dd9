/-! OLD TYPES WHOSE INNER SCHEMES HAVE BODIES OF ANOTHER KIND, OR WORTH LITTLE. -/
def kw (h V t0 : Nat) (n1 : Nat → Nat) (s2 : Nat) (hf : Nat → Nat) (κ : Ty → Bool) : List Nat → Ty → Bool
  | ω, .tag c (.append a b) => if c = 2 then ((!(hd a == h)) || (κ b || decide (nz t0 n1 s2 hf (hf (nz t0 n1 s2 hf ω a) :: ω) b ≤ V))) && (kw h V t0 n1 s2 hf κ ω a && kw h V t0 n1 s2 hf κ (hf (nz t0 n1 s2 hf ω a) :: ω) b) else kw h V t0 n1 s2 hf κ ω a && kw h V t0 n1 s2 hf κ ω b
  | ω, .append a b => kw h V t0 n1 s2 hf κ ω a && kw h V t0 n1 s2 hf κ ω b
  | _, _ => true
section PmUt
variable {h V t0 s2 : Nat} {n1 hf : Nat → Nat} {κ : Ty → Bool}
theorem kw_top (ω : List Nat) : kw h V t0 n1 s2 hf κ ω tTop = true := by simp [tTop, kw]
theorem kw_var (ω : List Nat) (k : Nat) : kw h V t0 n1 s2 hf κ ω (tVar k) = true := by simp [tVar, kw]
theorem kw_nil (ω : List Nat) : kw h V t0 n1 s2 hf κ ω .nil = true := by simp [kw]
theorem kw_fun {ω : List Nat} {a b : Ty} : kw h V t0 n1 s2 hf κ ω (tFun a b) = true ↔ kw h V t0 n1 s2 hf κ ω a = true ∧ kw h V t0 n1 s2 hf κ ω b = true := by simp [tFun, kw]
theorem kw_all {ω : List Nat} {a b : Ty} : kw h V t0 n1 s2 hf κ ω (tAll a b) = true ↔ (hd a = h → κ b = true ∨ nz t0 n1 s2 hf (hf (nz t0 n1 s2 hf ω a) :: ω) b ≤ V) ∧ kw h V t0 n1 s2 hf κ ω a = true ∧ kw h V t0 n1 s2 hf κ (hf (nz t0 n1 s2 hf ω a) :: ω) b = true := by
  simp only [tAll, kw, if_true, Bool.and_eq_true, Bool.or_eq_true, Bool.not_eq_true', beq_eq_false_iff_ne, decide_eq_true_iff]
  constructor
  · rintro ⟨h1, h2⟩
    exact ⟨fun e => h1.resolve_left (fun n => n e), h2⟩
  · rintro ⟨h1, h2⟩
    refine ⟨?_, h2⟩
    by_cases e : hd a = h
    · exact Or.inr (h1 e)
    · exact Or.inl e
theorem kw_rec {ω : List Nat} {c : Nat} {x y z : Ty} : kw h V t0 n1 s2 hf κ ω (tRec c x y z) = true ↔ kw h V t0 n1 s2 hf κ ω x = true ∧ kw h V t0 n1 s2 hf κ ω y = true ∧ kw h V t0 n1 s2 hf κ ω z = true := by
  have e : ¬ 8 + c = 2 := by omega
  simp [tRec, kw, e]
theorem vw_ext {k n x x' : Nat} {ω ω' : List Nat} (hk : k ≤ ω.length) (hl : ω'.length = ω.length + n) (hw : ∀ i, i < ω.length → vw ω' (if k ≤ i then i + n else i) ≤ vw ω i) (hx : x' ≤ x) : ∀ i, i < (x :: ω).length → vw (x' :: ω') (if k ≤ i then i + n else i) ≤ vw (x :: ω) i := by
  intro i hi
  rw [List.length_cons] at hi
  rw [vw_cons, vw_cons, hl]
  by_cases e : i = ω.length
  · rw [if_pos (show k ≤ i by omega), if_pos (by omega), if_pos e]
    exact hx
  · rw [if_neg (show ¬ (if k ≤ i then i + n else i) = ω.length + n by split <;> omega), if_neg e]
    exact hw i (by omega)
/-- lifted, where variables are worth no more -/
theorem nz_lfm (hm : ∀ y y', y ≤ y' → hf y ≤ hf y') {k n : Nat} : ∀ (f : Nat) (t : Ty) (ω ω' : List Nat), (flat t).length ≤ f → k ≤ ω.length → ω'.length = ω.length + n → ok ω.length t = true → (∀ i, i < ω.length → vw ω' (if k ≤ i then i + n else i) ≤ vw ω i) → nz t0 n1 s2 hf ω' (lft k n t) ≤ nz t0 n1 s2 hf ω t
  | 0, t, ω, ω', hf', hk, hl, o, hw => by have := flat_pos o; omega
  | f + 1, t, ω, ω', hf', hk, hl, o, hw => by
    rcases ok_cases o with rfl | ⟨j, hj, rfl⟩ | ⟨a, c, rfl, ha, hb⟩ | ⟨a, c, rfl, ha, hb⟩ | ⟨m, x, y, z, hm', rfl, h0, h1, h2⟩
    · rw [lft_top, nz_top, nz_top]; exact Nat.le_refl _
    · have q := hw j hj
      rw [lft_var, nz_var]
      by_cases e : k ≤ j
      · rw [if_pos e] at q ⊢
        rw [nz_var]; exact q
      · rw [if_neg e] at q ⊢
        rw [nz_var]; exact q
    · rw [flat_fun, List.length_cons, List.length_append] at hf'
      rw [lft_fun, nz_fun, nz_fun]
      have q1 := nz_lfm hm f a ω ω' (by omega) hk hl ha hw
      have q2 := nz_lfm hm f c ω ω' (by omega) hk hl hb hw
      omega
    · rw [flat_all, List.length_cons, List.length_append] at hf'
      rw [lft_all, nz_all, nz_all]
      have q1 := nz_lfm hm f a ω ω' (by omega) hk hl ha hw
      have q2 := nz_lfm hm f c (hf (nz t0 n1 s2 hf ω a) :: ω) (hf (nz t0 n1 s2 hf ω' (lft k n a)) :: ω') (by omega) (by rw [List.length_cons]; omega) (by rw [List.length_cons, List.length_cons]; omega) (by rw [List.length_cons]; exact hb) (vw_ext hk hl hw (hm _ _ q1))
      omega
    · rw [flat_rec, List.length_cons, List.length_append, List.length_append] at hf'
      have key : ∀ (i : Nat) (p : Ty), (flat p).length ≤ f → okl ω.length m i p → nz t0 n1 s2 hf ω' (lft k n p) ≤ nz t0 n1 s2 hf ω p := by
        intro i p hp ho
        unfold okl at ho
        by_cases hb : bit m i = true
        · rw [if_pos hb] at ho
          exact nz_lfm hm f p ω ω' hp hk hl ho hw
        · rw [if_neg hb] at ho
          rw [ho, show lft k n .nil = .nil from rfl, nz_nil, nz_nil]; exact Nat.le_refl _
      rw [lft_rec hm', nz_rec, nz_rec]
      have q0 := key 0 x (by omega) h0
      have q1 := key 1 y (by omega) h1
      have q2 := key 2 z (by omega) h2
      omega
theorem kw_lft (hm : ∀ y y', y ≤ y' → hf y ≤ hf y') {k n : Nat} (hκ : ∀ (t : Ty) (d : Nat), ok d t = true → κ t = true → κ (lft k n t) = true) (h16 : h < 16) : ∀ (f : Nat) (t : Ty) (ω ω' : List Nat), (flat t).length ≤ f → k ≤ ω.length → ω'.length = ω.length + n → ok ω.length t = true → (∀ i, i < ω.length → vw ω' (if k ≤ i then i + n else i) ≤ vw ω i) → kw h V t0 n1 s2 hf κ ω t = true → kw h V t0 n1 s2 hf κ ω' (lft k n t) = true
  | 0, t, ω, ω', hf', hk, hl, o, hw, _ => by have := flat_pos o; omega
  | f + 1, t, ω, ω', hf', hk, hl, o, hw, ht => by
    rcases ok_cases o with rfl | ⟨j, hj, rfl⟩ | ⟨a, c, rfl, ha, hb⟩ | ⟨a, c, rfl, ha, hb⟩ | ⟨m, x, y, z, hm', rfl, h0, h1, h2⟩
    · rw [lft_top]; exact kw_top _
    · rw [lft_var]; split <;> exact kw_var _ _
    · rw [flat_fun, List.length_cons, List.length_append] at hf'
      rw [kw_fun] at ht
      rw [lft_fun, kw_fun]
      exact ⟨kw_lft hm hκ h16 f a ω ω' (by omega) hk hl ha hw ht.1, kw_lft hm hκ h16 f c ω ω' (by omega) hk hl hb hw ht.2⟩
    · rw [flat_all, List.length_cons, List.length_append] at hf'
      rw [kw_all] at ht
      rw [lft_all, kw_all]
      have q1 := nz_lfm (t0 := t0) (n1 := n1) (s2 := s2) hm _ a ω ω' (Nat.le_refl _) hk hl ha hw
      have hw2 := vw_ext hk hl hw (hm _ _ q1)
      refine ⟨fun e => ?_, kw_lft hm hκ h16 f a ω ω' (by omega) hk hl ha hw ht.2.1, kw_lft hm hκ h16 f c _ _ (by omega) (by rw [List.length_cons]; omega) (by rw [List.length_cons, List.length_cons]; omega) (by rw [List.length_cons]; exact hb) hw2 ht.2.2⟩
      have ea : hd a = h := by
        rw [lft_hd ha] at e
        split at e <;> omega
      rcases ht.1 ea with q | q
      · exact Or.inl (hκ c _ hb q)
      · exact Or.inr (Nat.le_trans (nz_lfm (t0 := t0) (n1 := n1) (s2 := s2) hm _ c _ _ (Nat.le_refl _) (by rw [List.length_cons]; omega) (by rw [List.length_cons, List.length_cons]; omega) (by rw [List.length_cons]; exact hb) hw2) q)
    · rw [flat_rec, List.length_cons, List.length_append, List.length_append] at hf'
      rw [kw_rec] at ht
      have key : ∀ (i : Nat) (p : Ty), (flat p).length ≤ f → okl ω.length m i p → kw h V t0 n1 s2 hf κ ω p = true → kw h V t0 n1 s2 hf κ ω' (lft k n p) = true := by
        intro i p hp ho hn
        unfold okl at ho
        by_cases hb : bit m i = true
        · rw [if_pos hb] at ho
          exact kw_lft hm hκ h16 f p ω ω' hp hk hl ho hw hn
        · rw [if_neg hb] at ho
          rw [ho, show lft k n .nil = .nil from rfl]; exact kw_nil _
      rw [lft_rec hm', kw_rec]
      exact ⟨key 0 x (by omega) h0 ht.1, key 1 y (by omega) h1 ht.2.1, key 2 z (by omega) h2 ht.2.2⟩
/-- the part of a context that was there when j binders were -/
def sfx (Γ : List Ty) (j : Nat) : List Ty := Γ.drop (Γ.length - j)
theorem sfx_cons {Γ : List Ty} {a : Ty} {j : Nat} (hj : j ≤ Γ.length) : sfx (a :: Γ) j = sfx Γ j := by
  unfold sfx
  rw [List.length_cons, show Γ.length + 1 - j = (Γ.length - j) + 1 by omega, List.drop_succ_cons]
theorem sfx_all (Γ : List Ty) : sfx Γ Γ.length = Γ := by
  unfold sfx
  rw [Nat.sub_self, List.drop_zero]
theorem sfx_len {Γ : List Ty} {j : Nat} (hj : j ≤ Γ.length) : (sfx Γ j).length = j := by
  unfold sfx
  rw [List.length_drop]; omega
theorem onz_sub : ∀ (Γ : List Ty) (j i : Nat), j ≤ Γ.length → i < j → vw (onz t0 n1 s2 hf Γ) i = vw (onz t0 n1 s2 hf (sfx Γ j)) i
  | [], j, i, hj, hi => by
    have hj : j ≤ 0 := hj
    omega
  | a :: Γ, j, i, hj, hi => by
    rw [List.length_cons] at hj
    by_cases e : j = Γ.length + 1
    · rw [e, show Γ.length + 1 = (a :: Γ).length from rfl, sfx_all]
    · rw [sfx_cons (by omega), ← onz_sub Γ j i (by omega) hi]
      show vw (hf (nz t0 n1 s2 hf (onz t0 n1 s2 hf Γ) a) :: onz t0 n1 s2 hf Γ) i = _
      rw [vw_cons, onz_len, if_neg (by omega)]
theorem sfx_cxs {Γ0 : List Ty} {β : Ty} {j : Nat} (hj : j ≤ Γ0.length) : ∀ Δ : List Ty, sfx (cxs Δ Γ0 β) j = sfx Γ0 j
  | [] => sfx_cons hj
  | a :: Δ => by
    show sfx (a :: cxs Δ Γ0 β) j = _
    rw [sfx_cons (by rw [cxs_len]; omega)]
    exact sfx_cxs hj Δ
end PmUt
