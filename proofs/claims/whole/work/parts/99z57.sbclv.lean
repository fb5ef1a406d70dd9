/-! SCHEMES WITH THE VERY BOUND, WHERE THE VARIABLES BEFORE ARE CONSTANTS: the bound becomes closed. -/
section PmHy
variable {B : Ty} {L e : Nat}
theorem tqB_clv {d : Nat} {a : Ty} (oB : ok e B = true) (oa : ok d a = true) (h : tqB B a = true) : tqB (clv L B) (clv L a) = true := by
  have e1 : a = B := flat_eq oa oB (by unfold tqB at h; simpa [eq_comm] using h)
  subst e1
  unfold tqB
  simp
theorem sB_clv (oB : ok e B = true) : ∀ (f : Nat) (t : Ty) (d : Nat), (flat t).length ≤ f → ok d t = true → sB B t = true → sB (clv L B) (clv L t) = true
  | 0, t, d, hf, o, _ => by have := flat_pos o; omega
  | f + 1, t, d, hf, o, h => by
    rcases ok_cases o with rfl | ⟨j, hj, rfl⟩ | ⟨a, c, rfl, ha, hb⟩ | ⟨a, c, rfl, ha, hb⟩ | ⟨m, x, y, z, hm', rfl, h0, h1, h2⟩
    · rw [sB_top] at h; cases h
    · rw [sB_var] at h; cases h
    · rw [flat_fun, List.length_cons, List.length_append] at hf
      rw [sB_fun, Bool.or_eq_true] at h
      rw [clv_fun, sB_fun, Bool.or_eq_true]
      exact h.imp (sB_clv oB f a d (by omega) ha) (sB_clv oB f c d (by omega) hb)
    · rw [flat_all, List.length_cons, List.length_append] at hf
      rw [sB_all, Bool.or_eq_true, Bool.or_eq_true] at h
      rw [clv_all, sB_all, Bool.or_eq_true, Bool.or_eq_true]
      exact h.imp (tqB_clv oB ha) (Or.imp (sB_clv oB f a d (by omega) ha) (sB_clv oB f c (d + 1) (by omega) hb))
    · rw [flat_rec, List.length_cons, List.length_append, List.length_append] at hf
      have key : ∀ (i : Nat) (p : Ty), (flat p).length ≤ f → okl d m i p → sB B p = true → sB (clv L B) (clv L p) = true := by
        intro i p hp ho hs
        unfold okl at ho
        by_cases hb : bit m i = true
        · rw [if_pos hb] at ho
          exact sB_clv oB f p d hp ho hs
        · rw [if_neg hb] at ho
          rw [ho, sB_nil] at hs; cases hs
      rw [sB_rec, Bool.or_eq_true, Bool.or_eq_true] at h
      rw [clv_rec, sB_rec, Bool.or_eq_true, Bool.or_eq_true]
      exact h.imp (key 0 x (by omega) h0) (Or.imp (key 1 y (by omega) h1) (key 2 z (by omega) h2))
end PmHy
