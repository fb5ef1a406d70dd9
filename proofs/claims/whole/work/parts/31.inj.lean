/-! Codes determine the type. -/
theorem flat_inj : ∀ (a : Ty) (d : Nat) (b : Ty) (e : Nat) (l l' : List Int), ok d a = true → ok e b = true → flat a ++ l = flat b ++ l' → a = b ∧ l = l'
  | .tag c (.append p q), d, b, e, l, l', ha, hb, h => by
    by_cases c1 : c = 1
    · subst c1
      have ha := ok_fun.mp ha
      rcases ok_cases hb with rfl | ⟨k, -, rfl⟩ | ⟨p', q', rfl, hp, hq⟩ | ⟨p', q', rfl, -, -⟩ | ⟨m, x, y, z, hm, rfl, -, -, -⟩
      · simp [flat, flat_top] at h
      · simp only [flat, flat_var, List.cons_append, List.cons.injEq] at h; omega
      · rw [show flat (.tag 1 (.append p q)) = 1 :: (flat p ++ flat q) from rfl, flat_fun, List.cons_append, List.cons_append, List.append_assoc, List.append_assoc, List.cons.injEq] at h
        obtain ⟨rfl, h2⟩ := flat_inj p d p' e _ _ ha.1 hp h.2
        obtain ⟨rfl, h3⟩ := flat_inj q d q' e _ _ ha.2 hq h2
        exact ⟨rfl, h3⟩
      · simp only [flat, flat_all, List.cons_append, List.cons.injEq] at h; omega
      · simp only [flat, flat_rec, List.cons_append, List.cons.injEq] at h; omega
    · by_cases c2 : c = 2
      · subst c2
        have ha := ok_all.mp ha
        rcases ok_cases hb with rfl | ⟨k, -, rfl⟩ | ⟨p', q', rfl, hp, hq⟩ | ⟨p', q', rfl, hp, hq⟩ | ⟨m, x, y, z, hm, rfl, -, -, -⟩
        · simp [flat, flat_top] at h
        · simp only [flat, flat_var, List.cons_append, List.cons.injEq] at h; omega
        · simp only [flat, flat_fun, List.cons_append, List.cons.injEq] at h; omega
        · rw [show flat (.tag 2 (.append p q)) = 2 :: (flat p ++ flat q) from rfl, flat_all, List.cons_append, List.cons_append, List.append_assoc, List.append_assoc, List.cons.injEq] at h
          obtain ⟨rfl, h2⟩ := flat_inj p d p' e _ _ ha.1 hp h.2
          obtain ⟨rfl, h3⟩ := flat_inj q (d + 1) q' (e + 1) _ _ ha.2 hq h2
          exact ⟨rfl, h3⟩
        · simp only [flat, flat_rec, List.cons_append, List.cons.injEq] at h; omega
      · match q, ha, h with
        | .append y z, ha, h =>
          rw [ok] at ha
          simp only [Bool.and_eq_true, decide_eq_true_eq] at ha
          obtain ⟨hc, q0, q1, q2⟩ := ha
          rcases ok_cases hb with rfl | ⟨k, -, rfl⟩ | ⟨p', q', rfl, hp, hq⟩ | ⟨p', q', rfl, hp, hq⟩ | ⟨m, x', y', z', hm, rfl, s0, s1, s2⟩
          · simp only [flat, flat_top, List.cons_append, List.cons.injEq] at h; omega
          · simp only [flat, flat_var, List.cons_append, List.cons.injEq] at h; omega
          · simp only [flat, flat_fun, List.cons_append, List.cons.injEq] at h; omega
          · simp only [flat, flat_all, List.cons_append, List.cons.injEq] at h; omega
          · have key : ∀ (k : Nat) (t t' : Ty) (l l' : List Int), (ok d t = true → ok e t' = true → flat t ++ l = flat t' ++ l' → t = t' ∧ l = l') → (if bit (c - 8) k = true then ok d t else isNil t) = true → okl e (c - 8) k t' → flat t ++ l = flat t' ++ l' → t = t' ∧ l = l' := by
              intro k t t' l l' ht hk hk' hh
              unfold okl at hk'
              split at hk
              · rename_i hbit
                rw [if_pos hbit] at hk'
                exact ht hk hk' hh
              · rename_i hbit
                rw [if_neg hbit] at hk'
                have e1 := isNil_eq hk
                subst e1
                subst hk'
                exact ⟨rfl, by simpa [flat] using hh⟩
            rw [show flat (.tag c (.append p (.append y z))) = (c : Int) :: (flat p ++ (flat y ++ flat z)) from rfl, flat_rec, List.cons_append, List.cons_append, List.cons.injEq] at h
            have hcm : c - 8 = m := by omega
            rw [← hcm] at s0 s1 s2
            have h' := h.2
            simp only [List.append_assoc] at h'
            obtain ⟨rfl, h2⟩ := key 0 p x' _ _ (flat_inj p d x' e _ _) q0 s0 h'
            obtain ⟨rfl, h3⟩ := key 1 y y' _ _ (flat_inj y d y' e _ _) q1 s1 h2
            obtain ⟨rfl, h4⟩ := key 2 z z' _ _ (flat_inj z d z' e _ _) q2 s2 h3
            refine ⟨?_, h4⟩
            unfold tRec
            rw [show 8 + m = c by omega]
        | .tag _ _, ha, h => simp [ok, c1, c2] at ha
        | .nil, ha, h => simp [ok, c1, c2] at ha
        | .line, ha, h => simp [ok, c1, c2] at ha
        | .align _, ha, h => simp [ok, c1, c2] at ha
        | .text _, ha, h => simp [ok, c1, c2] at ha
        | .nest _ _, ha, h => simp [ok, c1, c2] at ha
        | .group _ _, ha, h => simp [ok, c1, c2] at ha
  | .tag c .nil, d, b, e, l, l', ha, hb, h => by
    have hc : c = 0 ∨ 16 ≤ c := by
      rw [ok, Bool.or_eq_true, Bool.and_eq_true, decide_eq_true_eq, decide_eq_true_eq] at ha
      omega
    rcases ok_cases hb with rfl | ⟨k, -, rfl⟩ | ⟨p', q', rfl, hp, hq⟩ | ⟨p', q', rfl, hp, hq⟩ | ⟨m, x', y', z', hm, rfl, s0, s1, s2⟩
    · simp only [flat, flat_top, List.cons_append, List.nil_append, List.cons.injEq] at h
      obtain ⟨h1, h2⟩ := h
      have : c = 0 := by omega
      subst this
      exact ⟨rfl, h2⟩
    · simp only [flat, flat_var, List.cons_append, List.nil_append, List.cons.injEq] at h
      obtain ⟨h1, h2⟩ := h
      have : c = 16 + k := by omega
      subst this
      exact ⟨rfl, h2⟩
    · simp only [flat, flat_fun, List.cons_append, List.cons.injEq] at h; omega
    · simp only [flat, flat_all, List.cons_append, List.cons.injEq] at h; omega
    · simp only [flat, flat_rec, List.cons_append, List.cons.injEq] at h; omega
  | .tag c .line, d, b, e, l, l', ha, hb, h => by simp [ok] at ha
  | .tag c (.align _), d, b, e, l, l', ha, hb, h => by simp [ok] at ha
  | .tag c (.text _), d, b, e, l, l', ha, hb, h => by simp [ok] at ha
  | .tag c (.nest _ _), d, b, e, l, l', ha, hb, h => by simp [ok] at ha
  | .tag c (.group _ _), d, b, e, l, l', ha, hb, h => by simp [ok] at ha
  | .tag c (.tag _ _), d, b, e, l, l', ha, hb, h => by simp [ok] at ha
  | .nil, d, b, e, l, l', ha, hb, h => by simp [ok] at ha
  | .line, d, b, e, l, l', ha, hb, h => by simp [ok] at ha
  | .align _, d, b, e, l, l', ha, hb, h => by simp [ok] at ha
  | .text _, d, b, e, l, l', ha, hb, h => by simp [ok] at ha
  | .nest _ _, d, b, e, l, l', ha, hb, h => by simp [ok] at ha
  | .group _ _, d, b, e, l, l', ha, hb, h => by simp [ok] at ha
  | .append _ _, d, b, e, l, l', ha, hb, h => by simp [ok] at ha
theorem flat_eq {a b : Ty} {d e : Nat} (ha : ok d a = true) (hb : ok e b = true) (h : flat a = flat b) : a = b := (flat_inj a d b e [] [] ha hb (by rw [h])).1
