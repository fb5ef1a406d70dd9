/-! WRITING A LIST into a place. -/
def mput (M : pm_M) (p : Nat) (b : Int) (l : List Int) : pm_M := fun q i => if q = p ∧ b ≤ i ∧ i < b + l.length then l.getD (i - b).toNat 0 else M q i
theorem mput_nil (M : pm_M) (p : Nat) (b : Int) : mput M p b [] = M := by
  funext q i
  unfold mput
  rw [if_neg]
  rintro ⟨-, h1, h2⟩
  simp only [List.length_nil] at h2
  omega
theorem mput_p (M : pm_M) {p q : Nat} (b i : Int) (l : List Int) (h : q ≠ p) : mput M p b l q i = M q i := by
  unfold mput
  rw [if_neg (fun e => h e.1)]
theorem mput_o (M : pm_M) (p : Nat) {b i : Int} (l : List Int) (q : Nat) (h : ¬ (b ≤ i ∧ i < b + l.length)) : mput M p b l q i = M q i := by
  unfold mput
  rw [if_neg (fun e => h e.2)]
theorem mput_snoc (M : pm_M) (p : Nat) (b : Int) (l : List Int) (c i : Int) (hi : i = b + l.length) : mset (mput M p b l) p i c = mput M p b (l ++ [c]) := by
  subst hi
  funext q i
  unfold mset mput
  by_cases hq : q = p
  · subst hq
    by_cases hi : i = b + l.length
    · subst hi
      rw [if_pos ⟨rfl, rfl⟩, if_pos ⟨rfl, by omega, by simp; omega⟩]
      rw [show (b + (l.length : Int) - b).toNat = l.length by omega]
      simp
    · rw [if_neg (fun e => hi e.2)]
      by_cases hr : b ≤ i ∧ i < b + l.length
      · rw [if_pos ⟨rfl, hr⟩, if_pos ⟨rfl, hr.1, by simp; omega⟩]
        rw [List.getD_eq_getElem?_getD, List.getD_eq_getElem?_getD, List.getElem?_append_left (by omega)]
      · rw [if_neg (fun e => hr e.2), if_neg]
        rintro ⟨-, h1, h2⟩
        simp only [List.length_append, List.length_cons, List.length_nil] at h2
        omega
  · rw [if_neg (fun e => hq e.1), if_neg (fun e => hq e.1), if_neg (fun e => hq e.1)]
theorem mput_row : ∀ (l : List Int) (M : pm_M) (t j : Int), Row (mput M 73 (17 * t + j) l) t j l := by
  have key : ∀ (l : List Int) (M : pm_M) (t j : Int), (∀ k : Nat, k < l.length → M 73 (17 * t + j + k) = l.getD k 0) → Row M t j l := by
    intro l
    induction l with
    | nil => intro M t j _; exact trivial
    | cons c l ih =>
      intro M t j h
      refine ⟨by have := h 0 (by simp); simpa using this, ih M t (j + 1) (fun k hk => ?_)⟩
      have := h (k + 1) (by simp; omega)
      rw [show 17 * t + (j + 1) + (k : Int) = 17 * t + j + ((k + 1 : Nat) : Int) by omega, this]
      simp
  intro l M t j
  refine key l _ t j (fun k hk => ?_)
  unfold mput
  rw [if_pos ⟨rfl, by omega, by omega⟩, show (17 * t + j + (k : Int) - (17 * t + j)).toNat = k by omega]
theorem mput_other {M : pm_M} {r t b j : Int} {l m : List Int} (hrt : r ≠ t) (j0 : 0 ≤ j) (j1 : j + m.length ≤ 17) (b0 : 0 ≤ b) (b1 : b + l.length ≤ 17) (h : Row M r j m) : Row (mput M 73 (17 * t + b) l) r j m :=
  Row.same (fun i h1 h2 => mput_o M 73 l 73 (by omega)) h
theorem mput_R32 {M : pm_M} {p : Nat} {b : Int} {l : List Int} (hM : ∀ p i, R32 (M p i)) (hl : ∀ c ∈ l, R32 c) : ∀ q i, R32 (mput M p b l q i) := by
  intro q i
  unfold mput
  split
  · rename_i h
    refine hl _ ?_
    have hk : (i - b).toNat < l.length := by omega
    rw [List.getD_eq_getElem?_getD, List.getElem?_eq_getElem hk]
    exact List.getElem_mem hk
  · exact hM q i
theorem Row.R32 {M : pm_M} {r : Int} (hM : ∀ p i, R32 (M p i)) : ∀ {l : List Int} {j : Int}, Row M r j l → ∀ c ∈ l, R32 c
  | [], _, _, _, h => by cases h
  | a :: l, j, hr, c, h => by
    rcases List.mem_cons.mp h with rfl | h
    · rw [← hr.1]; exact hM _ _
    · exact Row.R32 hM hr.2 c h
theorem Row.at {M : pm_M} {r : Int} : ∀ {l : List Int} {j : Int}, Row M r j l → ∀ k : Nat, k < l.length → M 73 (17 * r + j + k) = l.getD k 0
  | [], _, _, k, h => by simp at h
  | a :: l, j, hr, 0, _ => by simpa using hr.1
  | a :: l, j, hr, k + 1, h => by
    have := Row.at hr.2 k (by simpa using h)
    rw [show 17 * r + j + ((k + 1 : Nat) : Int) = 17 * r + (j + 1) + (k : Int) by omega, this]
    simp
