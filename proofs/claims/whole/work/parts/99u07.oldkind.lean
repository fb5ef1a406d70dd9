/-! OLD TYPES WHOSE INNER SCHEMES HAVE BODIES OF ANOTHER KIND. -/
def updt (τ : Nat → Bool) (D : Nat) (a : Ty) : Nat → Bool := fun i => if i = D then decide (hd a = 0) else τ i
/-- a body against which the scheme's own body stands only a moment: Top, a variable whose bound is Top, another kind -/
def bdk (κ : Ty → Bool) (τ : Nat → Bool) (b : Ty) : Bool := decide (hd b = 0) || (if 16 ≤ hd b then τ (hd b - 16) else κ b)
def kq (h : Nat) (κ : Ty → Bool) : (Nat → Bool) → Nat → Ty → Bool
  | τ, D, .tag c (.append a b) => if c = 2 then ((!(hd a == h)) || bdk κ (updt τ D a) b) && (kq h κ τ D a && kq h κ (updt τ D a) (D + 1) b) else kq h κ τ D a && kq h κ τ D b
  | τ, D, .append a b => kq h κ τ D a && kq h κ τ D b
  | _, _, _ => true
section PmUf
variable {h : Nat} {κ : Ty → Bool}
theorem kq_top (τ : Nat → Bool) (D : Nat) : kq h κ τ D tTop = true := by simp [tTop, kq]
theorem kq_var (τ : Nat → Bool) (D k : Nat) : kq h κ τ D (tVar k) = true := by simp [tVar, kq]
theorem kq_nil (τ : Nat → Bool) (D : Nat) : kq h κ τ D .nil = true := by simp [kq]
theorem kq_fun {τ : Nat → Bool} {D : Nat} {a b : Ty} : kq h κ τ D (tFun a b) = true ↔ kq h κ τ D a = true ∧ kq h κ τ D b = true := by simp [tFun, kq]
theorem kq_all {τ : Nat → Bool} {D : Nat} {a b : Ty} : kq h κ τ D (tAll a b) = true ↔ (hd a = h → bdk κ (updt τ D a) b = true) ∧ kq h κ τ D a = true ∧ kq h κ (updt τ D a) (D + 1) b = true := by
  simp only [tAll, kq, if_true, Bool.and_eq_true, Bool.or_eq_true, Bool.not_eq_true', beq_eq_false_iff_ne]
  constructor
  · rintro ⟨h1, h2⟩
    exact ⟨fun e => h1.resolve_left (fun n => n e), h2⟩
  · rintro ⟨h1, h2⟩
    refine ⟨?_, h2⟩
    by_cases e : hd a = h
    · exact Or.inr (h1 e)
    · exact Or.inl e
theorem kq_rec {τ : Nat → Bool} {D c : Nat} {x y z : Ty} : kq h κ τ D (tRec c x y z) = true ↔ kq h κ τ D x = true ∧ kq h κ τ D y = true ∧ kq h κ τ D z = true := by
  have e : ¬ 8 + c = 2 := by omega
  simp [tRec, kq, e]
theorem hd_lft0 {k n d : Nat} {a : Ty} (o : ok d a = true) : (hd (lft k n a) = 0 ↔ hd a = 0) ∧ (hd a < 16 → hd (lft k n a) = hd a) := by
  rw [lft_hd o]
  split <;> omega
/-- lifted, and where more bounds are known to be Top -/
theorem kq_lft {k n : Nat} (hκ : ∀ (t : Ty) (d : Nat), ok d t = true → hd t < 16 → κ (lft k n t) = κ t) : ∀ (f : Nat) (t : Ty) (D : Nat) (τ τ' : Nat → Bool), (flat t).length ≤ f → k ≤ D → ok D t = true → (∀ i, i < D → τ i = true → τ' (if k ≤ i then i + n else i) = true) → h < 16 → kq h κ τ D t = true → kq h κ τ' (D + n) (lft k n t) = true
  | 0, t, D, _, _, hf, _, o, _, _, _ => by have := flat_pos o; omega
  | f + 1, t, D, τ, τ', hf, hk, o, hτ, h16, ht => by
    rcases ok_cases o with rfl | ⟨j, hj, rfl⟩ | ⟨a, b, rfl, ha, hb⟩ | ⟨a, b, rfl, ha, hb⟩ | ⟨c, x, y, z, hm, rfl, h0, h1, h2⟩
    · rw [lft_top]; exact kq_top _ _
    · rw [lft_var]
      split <;> exact kq_var _ _ _
    · rw [flat_fun, List.length_cons, List.length_append] at hf
      rw [kq_fun] at ht
      rw [lft_fun, kq_fun]
      exact ⟨kq_lft hκ f a D τ τ' (by omega) hk ha hτ h16 ht.1, kq_lft hκ f b D τ τ' (by omega) hk hb hτ h16 ht.2⟩
    · rw [flat_all, List.length_cons, List.length_append] at hf
      rw [kq_all] at ht
      rw [lft_all, kq_all]
      have hτ2 : ∀ i, i < D + 1 → updt τ D a i = true → updt τ' (D + n) (lft k n a) (if k ≤ i then i + n else i) = true := by
        intro i hi q
        unfold updt at q ⊢
        by_cases e : i = D
        · subst e
          rw [if_pos rfl, decide_eq_true_iff] at q
          rw [if_pos hk, if_pos rfl, decide_eq_true_iff]
          exact (hd_lft0 ha).1.mpr q
        · rw [if_neg e] at q
          have q2 := hτ i (by omega) q
          rw [if_neg (by split <;> omega)]
          exact q2
      refine ⟨fun e => ?_, kq_lft hκ f a D τ τ' (by omega) hk ha hτ h16 ht.2.1, ?_⟩
      · have ea : hd a = h := by
          rw [lft_hd ha] at e
          split at e <;> omega
        have q := ht.1 ea
        unfold bdk at q ⊢
        rw [Bool.or_eq_true] at q ⊢
        rcases q with q | q
        · left
          rw [decide_eq_true_iff] at q ⊢
          exact (hd_lft0 hb).1.mpr q
        · right
          by_cases v : 16 ≤ hd b
          · obtain ⟨j, hj, rfl⟩ := hd_is_var hb v
            rw [if_pos v, hd_var, show 16 + j - 16 = j by omega] at q
            have q2 := hτ2 j hj q
            rw [lft_var]
            by_cases e2 : k ≤ j
            · rw [if_pos e2] at q2 ⊢
              rw [hd_var, if_pos (by omega), show 16 + (j + n) - 16 = j + n by omega]
              exact q2
            · rw [if_neg e2] at q2 ⊢
              rw [hd_var, if_pos (by omega), show 16 + j - 16 = j by omega]
              exact q2
          · rw [if_neg v] at q
            have e2 := (hd_lft0 (k := k) (n := n) hb).2 (by omega)
            rw [e2, if_neg v, hκ b _ hb (by omega)]
            exact q
      · have q := kq_lft hκ f b (D + 1) (updt τ D a) (updt τ' (D + n) (lft k n a)) (by omega) (by omega) hb hτ2 h16 ht.2.2
        rw [show D + 1 + n = D + n + 1 by omega] at q
        exact q
    · rw [flat_rec, List.length_cons, List.length_append, List.length_append] at hf
      rw [kq_rec] at ht
      rw [lft_rec hm, kq_rec]
      have key : ∀ (i : Nat) (p : Ty), (flat p).length ≤ f → okl D c i p → kq h κ τ D p = true → kq h κ τ' (D + n) (lft k n p) = true := by
        intro i p hp ho hn
        unfold okl at ho
        by_cases hb : bit c i = true
        · rw [if_pos hb] at ho
          exact kq_lft hκ f p D τ τ' hp hk ho hτ h16 hn
        · rw [if_neg hb] at ho
          rw [ho]; exact kq_nil _ _
      exact ⟨key 0 x (by omega) h0 ht.1, key 1 y (by omega) h1 ht.2.1, key 2 z (by omega) h2 ht.2.2⟩
/-- where more bounds are known to be Top -/
theorem kq_more : ∀ (f : Nat) (t : Ty) (D : Nat) (τ τ' : Nat → Bool), (flat t).length ≤ f → ok D t = true → (∀ i, i < D → τ i = true → τ' i = true) → kq h κ τ D t = true → kq h κ τ' D t = true
  | 0, t, D, _, _, hf, o, _, _ => by have := flat_pos o; omega
  | f + 1, t, D, τ, τ', hf, o, hτ, ht => by
    rcases ok_cases o with rfl | ⟨j, hj, rfl⟩ | ⟨a, b, rfl, ha, hb⟩ | ⟨a, b, rfl, ha, hb⟩ | ⟨c, x, y, z, hm, rfl, h0, h1, h2⟩
    · exact kq_top _ _
    · exact kq_var _ _ _
    · rw [flat_fun, List.length_cons, List.length_append] at hf
      rw [kq_fun] at ht ⊢
      exact ⟨kq_more f a D τ τ' (by omega) ha hτ ht.1, kq_more f b D τ τ' (by omega) hb hτ ht.2⟩
    · rw [flat_all, List.length_cons, List.length_append] at hf
      rw [kq_all] at ht ⊢
      have hτ2 : ∀ i, i < D + 1 → updt τ D a i = true → updt τ' D a i = true := by
        intro i hi q
        unfold updt at q ⊢
        by_cases e : i = D
        · rw [if_pos e] at q ⊢; exact q
        · rw [if_neg e] at q ⊢
          exact hτ i (by omega) q
      refine ⟨fun e => ?_, kq_more f a D τ τ' (by omega) ha hτ ht.2.1, kq_more f b (D + 1) _ _ (by omega) hb hτ2 ht.2.2⟩
      have q := ht.1 e
      unfold bdk at q ⊢
      rw [Bool.or_eq_true] at q ⊢
      rcases q with q | q
      · exact Or.inl q
      · right
        by_cases v : 16 ≤ hd b
        · rw [if_pos v] at q ⊢
          obtain ⟨j, hj, rfl⟩ := hd_is_var hb v
          rw [hd_var, show 16 + j - 16 = j by omega] at q ⊢
          exact hτ2 j hj q
        · rw [if_neg v] at q ⊢; exact q
    · rw [flat_rec, List.length_cons, List.length_append, List.length_append] at hf
      rw [kq_rec] at ht ⊢
      have key : ∀ (i : Nat) (p : Ty), (flat p).length ≤ f → okl D c i p → kq h κ τ D p = true → kq h κ τ' D p = true := by
        intro i p hp ho hn
        unfold okl at ho
        by_cases hb : bit c i = true
        · rw [if_pos hb] at ho
          exact kq_more f p D τ τ' hp ho hτ hn
        · rw [if_neg hb] at ho
          rw [ho]; exact kq_nil _ _
      exact ⟨key 0 x (by omega) h0 ht.1, key 1 y (by omega) h1 ht.2.1, key 2 z (by omega) h2 ht.2.2⟩
end PmUf
