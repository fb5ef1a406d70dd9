/-! TYPES AS PREFIX CODES: 0 the top, 1 a function, 2 a scheme, 8 + labels a record, 16 + level a variable. -/
/-- how many labels a set has -/
def lab (m : Int) : Nat := (m % 2 + m / 2 % 2 + m / 4 % 2).toNat
/-- how many parts a code has -/
def ar (c : Int) : Nat := if c = 1 ∨ c = 2 then 2 else if 8 ≤ c ∧ c < 16 then lab (c - 8) else 0
/-- a list that is n codes with all their parts -/
def pre : Nat → List Int → Bool
  | 0, [] => true
  | 0, _ :: _ => false
  | _ + 1, [] => false
  | n + 1, c :: l => pre (n + ar c) l
theorem ar_fun : ar 1 = 2 := rfl
theorem ar_all : ar 2 = 2 := rfl
theorem ar_rec {c : Int} (h1 : 8 ≤ c) (h2 : c < 16) : ar c = lab (c - 8) := by
  unfold ar
  rw [if_neg (by omega), if_pos ⟨h1, h2⟩]
theorem ar_none {c : Int} (h1 : c ≠ 1) (h2 : c ≠ 2) (h3 : ¬ (8 ≤ c ∧ c < 16)) : ar c = 0 := by
  unfold ar
  rw [if_neg (by omega), if_neg h3]
theorem pre_app : ∀ {a : List Int} {n m : Nat} {b : List Int}, pre n a = true → pre m b = true → pre (n + m) (a ++ b) = true
  | [], 0, m, b, _, hb => by rw [Nat.zero_add]; exact hb
  | [], n + 1, _, _, ha, _ => by cases ha
  | c :: a, 0, _, _, ha, _ => by cases ha
  | c :: a, n + 1, m, b, ha, hb => by
    have h := pre_app (a := a) (n := n + ar c) (m := m) (b := b) ha hb
    show pre (n + 1 + m) (c :: (a ++ b)) = true
    rw [show n + 1 + m = (n + m) + 1 by omega]
    show pre (n + m + ar c) (a ++ b) = true
    rw [show n + m + ar c = n + ar c + m by omega]
    exact h
/-- the first n codes of a list come to an end, in one way -/
theorem pre_split : ∀ {l : List Int} {n m : Nat}, pre (n + m) l = true → ∃ a b, l = a ++ b ∧ pre n a = true ∧ pre m b = true
  | l, 0, m, h => ⟨[], l, rfl, rfl, by rw [Nat.zero_add] at h; exact h⟩
  | [], n + 1, m, h => by rw [show n + 1 + m = (n + m) + 1 by omega] at h; cases h
  | c :: l, n + 1, m, h => by
    rw [show n + 1 + m = (n + m) + 1 by omega] at h
    have h : pre (n + m + ar c) l = true := h
    rw [show n + m + ar c = (n + ar c) + m by omega] at h
    obtain ⟨a, b, rfl, ha, hb⟩ := pre_split (l := l) (n := n + ar c) (m := m) h
    exact ⟨c :: a, b, rfl, ha, hb⟩
theorem pre_len : ∀ {l : List Int} {n : Nat}, pre n l = true → n ≤ l.length
  | [], 0, _ => Nat.zero_le _
  | [], n + 1, h => by cases h
  | c :: l, 0, _ => Nat.zero_le _
  | c :: l, n + 1, h => by
    have h : pre (n + ar c) l = true := h
    have := pre_len h
    simp only [List.length_cons]
    omega
theorem pre_uniq : ∀ {a a' : List Int} {n : Nat} {b b' : List Int}, pre n a = true → pre n a' = true → a ++ b = a' ++ b' → a = a' ∧ b = b'
  | [], [], _, _, _, _, _, h => ⟨rfl, h⟩
  | [], c :: a', 0, _, _, _, h, _ => by cases h
  | [], c :: a', n + 1, _, _, h, _, _ => by cases h
  | c :: a, [], 0, _, _, h, _, _ => by cases h
  | c :: a, [], n + 1, _, _, _, h, _ => by cases h
  | c :: a, c' :: a', 0, _, _, h, _, _ => by cases h
  | c :: a, c' :: a', n + 1, b, b', h, h', e => by
    simp only [List.cons_append, List.cons.injEq] at e
    obtain ⟨rfl, e⟩ := e
    have := pre_uniq (a := a) (a' := a') (n := n + ar c) h h' e
    exact ⟨by rw [this.1], this.2⟩
/-- a row of the model's cells holds these codes from a place on -/
def Row (M : pm_M) (r : Int) : Int → List Int → Prop
  | _, [] => True
  | j, c :: l => M 73 (17 * r + j) = c ∧ Row M r (j + 1) l
theorem Row.app {M : pm_M} {r : Int} : ∀ {a b : List Int} {j : Int}, Row M r j (a ++ b) ↔ Row M r j a ∧ Row M r (j + a.length) b
  | [], b, j => by simp [Row]
  | c :: a, b, j => by
    show M 73 (17 * r + j) = c ∧ Row M r (j + 1) (a ++ b) ↔ (M 73 (17 * r + j) = c ∧ Row M r (j + 1) a) ∧ Row M r (j + (a.length + 1 : Nat)) b
    rw [Row.app, show j + 1 + (a.length : Int) = j + (a.length + 1 : Nat) by omega, and_assoc]
theorem Row.same {M M' : pm_M} {r r' : Int} : ∀ {l : List Int} {j : Int}, (∀ i : Int, j ≤ i → i < j + l.length → M' 73 (17 * r' + i) = M 73 (17 * r + i)) → Row M r j l → Row M' r' j l
  | [], _, _, _ => trivial
  | c :: l, j, h, hr => by
    refine ⟨(h j (Int.le_refl _) (by simp only [List.length_cons]; omega)).trans hr.1, Row.same (l := l) (fun i h1 h2 => h i (by omega) (by simp only [List.length_cons]; omega)) hr.2⟩
