/-! WHAT A TYPE SAYS OF A VALUE, for so many moves. -/
def pw : List Pr → Nat → Pr
  | [], _ => fun _ _ => True
  | p :: ξ, k => if k = ξ.length then p else pw ξ k
def sem : List Pr → Ty → Pr
  | ξ, .tag c (.append a b) => if c = 1 then (fun n v => ∃ t ρ, v = vC t ρ ∧ nKd t = 6 ∧ ∀ m, m < n → ∀ w, sem ξ a m w → Ex (sem ξ b) m (nY t) (eN (nPl t) w ρ))
    else if c = 2 then (fun n v => ∃ t ρ, v = vC t ρ ∧ nKd t = 8 ∧ ∀ p : Pr, dc p → (∀ m u, p m u → sem ξ a m u) → ∀ m, m < n → Ex (sem (p :: ξ) b) m (nY t) ρ)
    else (fun n v => ∃ m x r, v = .tag m (.append x r) ∧ (∀ g, g < 3 → bit (c - 8) g = true → bit m g = true) ∧ sem ξ a n x ∧ sem ξ b n r)
  | ξ, .tag c .nil => if 16 ≤ c then pw ξ (c - 16) else fun _ _ => True
  | ξ, .append a b => fun n v => ∃ p q, v = .append p q ∧ sem ξ a n p ∧ sem ξ b n q
  | _, _ => fun _ _ => True
theorem sem_top (ξ : List Pr) : sem ξ tTop = fun _ _ => True := by
  unfold tTop; rw [sem, if_neg (by omega)]
theorem sem_var (ξ : List Pr) (k : Nat) : sem ξ (tVar k) = pw ξ k := by
  unfold tVar; rw [sem, if_pos (by omega), show 16 + k - 16 = k by omega]
theorem sem_fun (ξ : List Pr) (a b : Ty) : sem ξ (tFun a b) = fun n v => ∃ t ρ, v = vC t ρ ∧ nKd t = 6 ∧ ∀ m, m < n → ∀ w, sem ξ a m w → Ex (sem ξ b) m (nY t) (eN (nPl t) w ρ) := by
  unfold tFun; rw [sem, if_pos rfl]
theorem sem_all (ξ : List Pr) (a b : Ty) : sem ξ (tAll a b) = fun n v => ∃ t ρ, v = vC t ρ ∧ nKd t = 8 ∧ ∀ p : Pr, dc p → (∀ m u, p m u → sem ξ a m u) → ∀ m, m < n → Ex (sem (p :: ξ) b) m (nY t) ρ := by
  unfold tAll; rw [sem, if_neg (by omega), if_pos rfl]
theorem sem_app (ξ : List Pr) (a b : Ty) : sem ξ (.append a b) = fun n v => ∃ p q, v = .append p q ∧ sem ξ a n p ∧ sem ξ b n q := by
  rw [sem]
theorem sem_nil (ξ : List Pr) : sem ξ .nil = fun _ _ => True := by
  rw [sem]
  all_goals (intros; rename_i h; cases h)
/-- a record: its labels, and what each has -/
theorem sem_rec (ξ : List Pr) (m : Nat) (x y z : Ty) : sem ξ (tRec m x y z) = fun n v => ∃ m' a b c, v = vR m' a b c ∧ (∀ g, g < 3 → bit m g = true → bit m' g = true) ∧ sem ξ x n a ∧ sem ξ y n b ∧ sem ξ z n c := by
  unfold tRec
  rw [sem, if_neg (by omega), if_neg (by omega), show 8 + m - 8 = m by omega]
  funext n v
  apply propext
  constructor
  · rintro ⟨m', a, r, e, hb, ha, hr⟩
    rw [sem_app] at hr
    obtain ⟨b, c, e2, hb2, hc⟩ := hr
    subst e2
    exact ⟨m', a, b, c, e, hb, ha, hb2, hc⟩
  · rintro ⟨m', a, b, c, e, hb, ha, hb2, hc⟩
    refine ⟨m', a, .append b c, e, hb, ha, ?_⟩
    rw [sem_app]
    exact ⟨b, c, rfl, hb2, hc⟩
theorem pw_app_lo : ∀ (μ ξ : List Pr) (k : Nat), k < ξ.length → pw (μ ++ ξ) k = pw ξ k
  | [], _, _, _ => rfl
  | p :: μ, ξ, k, h => by
    show (if k = (μ ++ ξ).length then p else pw (μ ++ ξ) k) = pw ξ k
    rw [if_neg (by rw [List.length_append]; omega)]
    exact pw_app_lo μ ξ k h
theorem pw_app_hi : ∀ (μ ν ξ : List Pr) (k : Nat), ξ.length ≤ k → k < ξ.length + μ.length → pw (μ ++ (ν ++ ξ)) (k + ν.length) = pw (μ ++ ξ) k
  | [], ν, ξ, k, h, h' => by rw [List.length_nil] at h'; omega
  | p :: μ, ν, ξ, k, h, h' => by
    rw [List.length_cons] at h'
    show (if k + ν.length = (μ ++ (ν ++ ξ)).length then p else pw (μ ++ (ν ++ ξ)) (k + ν.length)) = (if k = (μ ++ ξ).length then p else pw (μ ++ ξ) k)
    rw [List.length_append, List.length_append, List.length_append]
    by_cases c : k = μ.length + ξ.length
    · rw [if_pos (by omega), if_pos c]
    · rw [if_neg (by omega), if_neg c]
      exact pw_app_hi μ ν ξ k h (by omega)
theorem sem_lft (ν ξ : List Pr) : ∀ (n : Nat) (t : Ty) (μ : List Pr), (flat t).length ≤ n → ok (ξ.length + μ.length) t = true → sem (μ ++ (ν ++ ξ)) (lft ξ.length ν.length t) = sem (μ ++ ξ) t
  | 0, t, μ, hl, h => by have := flat_pos h; omega
  | n + 1, t, μ, hl, h => by
    rcases ok_cases h with rfl | ⟨v, hv, rfl⟩ | ⟨a, b, rfl, ha, hb⟩ | ⟨a, b, rfl, ha, hb⟩ | ⟨m, x, y, z, hm, rfl, h0, h1, h2⟩
    · rw [lft_top, sem_top, sem_top]
    · rw [lft_var]
      by_cases c : ξ.length ≤ v
      · rw [if_pos c, sem_var, sem_var]
        exact pw_app_hi μ ν ξ v c hv
      · rw [if_neg c, sem_var, sem_var, ← List.append_assoc, pw_app_lo _ _ _ (by omega), pw_app_lo _ _ _ (by omega)]
    · rw [flat_fun, List.length_cons, List.length_append] at hl
      rw [lft_fun, sem_fun, sem_fun, sem_lft ν ξ n a μ (by omega) ha, sem_lft ν ξ n b μ (by omega) hb]
    · rw [flat_all, List.length_cons, List.length_append] at hl
      rw [lft_all, sem_all, sem_all, sem_lft ν ξ n a μ (by omega) ha]
      have hb' : ∀ p : Pr, sem (p :: (μ ++ (ν ++ ξ))) (lft ξ.length ν.length b) = sem (p :: (μ ++ ξ)) b := fun p => sem_lft ν ξ n b (p :: μ) (by omega) (by rw [List.length_cons, show ξ.length + (μ.length + 1) = ξ.length + μ.length + 1 by omega]; exact hb)
      simp only [hb']
    · rw [flat_rec, List.length_cons, List.length_append, List.length_append] at hl
      have key : ∀ (g : Nat) (w : Ty), (flat w).length ≤ n → okl (ξ.length + μ.length) m g w → sem (μ ++ (ν ++ ξ)) (lft ξ.length ν.length w) = sem (μ ++ ξ) w := by
        intro g w hw ho
        unfold okl at ho
        by_cases hb : bit m g = true
        · rw [if_pos hb] at ho; exact sem_lft ν ξ n w μ hw ho
        · rw [if_neg hb] at ho; rw [ho]
          show sem _ .nil = sem _ .nil
          rw [sem_nil, sem_nil]
      rw [lft_rec hm, sem_rec, sem_rec, key 0 x (by omega) h0, key 1 y (by omega) h1, key 2 z (by omega) h2]
theorem sem_sbt (A : Ty) (ξ : List Pr) (hA : ok ξ.length A = true) : ∀ (n : Nat) (t : Ty) (μ : List Pr), (flat t).length ≤ n → ok (ξ.length + 1 + μ.length) t = true → sem (μ ++ ξ) (sbt ξ.length A μ.length t) = sem (μ ++ (sem ξ A :: ξ)) t
  | 0, t, μ, hl, h => by have := flat_pos h; omega
  | n + 1, t, μ, hl, h => by
    rcases ok_cases h with rfl | ⟨v, hv, rfl⟩ | ⟨a, b, rfl, ha, hb⟩ | ⟨a, b, rfl, ha, hb⟩ | ⟨m, x, y, z, hm, rfl, h0, h1, h2⟩
    · rw [sbt_top, sem_top, sem_top]
    · rw [sbt_var]
      by_cases c : v = ξ.length
      · rw [if_pos c, sem_var]
        have e1 := sem_lft μ ξ _ A [] (Nat.le_refl _) hA
        rw [List.nil_append, List.nil_append] at e1
        rw [e1, c, pw_app_lo μ (sem ξ A :: ξ) ξ.length (by rw [List.length_cons]; omega)]
        show sem ξ A = if ξ.length = ξ.length then sem ξ A else _
        rw [if_pos rfl]
      · rw [if_neg c]
        by_cases c2 : ξ.length < v
        · rw [if_pos c2, sem_var, sem_var]
          have e1 := pw_app_hi μ [sem ξ A] ξ (v - 1) (by omega) (by omega)
          rw [← e1]
          show pw (μ ++ (sem ξ A :: ξ)) (v - 1 + 1) = _
          rw [show v - 1 + 1 = v by omega]
        · rw [if_neg c2, sem_var, sem_var, pw_app_lo _ _ _ (by omega), pw_app_lo μ (sem ξ A :: ξ) v (by rw [List.length_cons]; omega)]
          show _ = if v = ξ.length then _ else _
          rw [if_neg c]
    · rw [flat_fun, List.length_cons, List.length_append] at hl
      rw [sbt_fun, sem_fun, sem_fun, sem_sbt A ξ hA n a μ (by omega) ha, sem_sbt A ξ hA n b μ (by omega) hb]
    · rw [flat_all, List.length_cons, List.length_append] at hl
      rw [sbt_all, sem_all, sem_all, sem_sbt A ξ hA n a μ (by omega) ha]
      have hb' : ∀ p : Pr, sem (p :: (μ ++ ξ)) (sbt ξ.length A (μ.length + 1) b) = sem (p :: (μ ++ (sem ξ A :: ξ))) b := fun p => sem_sbt A ξ hA n b (p :: μ) (by omega) (by rw [List.length_cons, show ξ.length + 1 + (μ.length + 1) = ξ.length + 1 + μ.length + 1 by omega]; exact hb)
      simp only [hb']
    · rw [flat_rec, List.length_cons, List.length_append, List.length_append] at hl
      have key : ∀ (g : Nat) (w : Ty), (flat w).length ≤ n → okl (ξ.length + 1 + μ.length) m g w → sem (μ ++ ξ) (sbt ξ.length A μ.length w) = sem (μ ++ (sem ξ A :: ξ)) w := by
        intro g w hw ho
        unfold okl at ho
        by_cases hb : bit m g = true
        · rw [if_pos hb] at ho; exact sem_sbt A ξ hA n w μ hw ho
        · rw [if_neg hb] at ho; rw [ho, sbt_nil, sem_nil, sem_nil]
      rw [sbt_rec, sem_rec, sem_rec, key 0 x (by omega) h0, key 1 y (by omega) h1, key 2 z (by omega) h2]
/-- the predicates keep when fewer moves are looked at -/
theorem sem_dc (ξ : List Pr) (hξ : ∀ k, k < ξ.length → dc (pw ξ k)) : ∀ (n : Nat) (t : Ty), (flat t).length ≤ n → ok ξ.length t = true → dc (sem ξ t)
  | 0, t, hl, h => by have := flat_pos h; omega
  | n + 1, t, hl, h => by
    rcases ok_cases h with rfl | ⟨v, hv, rfl⟩ | ⟨a, b, rfl, ha, hb⟩ | ⟨a, b, rfl, ha, hb⟩ | ⟨m, x, y, z, hm, rfl, h0, h1, h2⟩
    · rw [sem_top]; exact fun _ _ _ => trivial
    · rw [sem_var]; exact hξ v hv
    · rw [sem_fun]
      rintro q v ⟨t, ρ, e, hk, hh⟩
      exact ⟨t, ρ, e, hk, fun m hm w hw => hh m (by omega) w hw⟩
    · rw [sem_all]
      rintro q v ⟨t, ρ, e, hk, hh⟩
      exact ⟨t, ρ, e, hk, fun p hp hs m hm => hh p hp hs m (by omega)⟩
    · rw [flat_rec, List.length_cons, List.length_append, List.length_append] at hl
      have key : ∀ (g : Nat) (w : Ty), (flat w).length ≤ n → okl ξ.length m g w → dc (sem ξ w) := by
        intro g w hw ho
        unfold okl at ho
        by_cases hb : bit m g = true
        · rw [if_pos hb] at ho; exact sem_dc ξ hξ n w hw ho
        · rw [if_neg hb] at ho; rw [ho, sem_nil]; exact fun _ _ _ => trivial
      rw [sem_rec]
      rintro q v ⟨m', a, b, c, e, hb, ha, hb2, hc⟩
      exact ⟨m', a, b, c, e, hb, key 0 x (by omega) h0 q a ha, key 1 y (by omega) h1 q b hb2, key 2 z (by omega) h2 q c hc⟩
