/-! TYPES AS TREES: a label with its parts (the tree is core's Format: tag, append, nil). -/
abbrev Ty : Type := Std.Format
def tTop : Ty := .tag 0 .nil
def tVar (k : Nat) : Ty := .tag (16 + k) .nil
def tFun (a b : Ty) : Ty := .tag 1 (.append a b)
def tAll (a b : Ty) : Ty := .tag 2 (.append a b)
/-- a record: its set of labels, and what stands at x, y, z (nil where there is none) -/
def tRec (m : Nat) (x y z : Ty) : Ty := .tag (8 + m) (.append x (.append y z))
def flat : Ty → List Int
  | .tag c f => (c : Int) :: flat f
  | .append a b => flat a ++ flat b
  | _ => []
def isNil : Ty → Bool
  | .nil => true
  | _ => false
theorem isNil_eq {t : Ty} (h : isNil t = true) : t = .nil := by cases t <;> first | rfl | cases h
/-- has the set this label? -/
def bit (m k : Nat) : Bool := m / 2 ^ k % 2 == 1
/-- a type that may stand where d type variables are in reach -/
def ok (d : Nat) : Ty → Bool
  | .tag c (.append x (.append y z)) => (decide (8 ≤ c) && decide (c < 16)) && ((if bit (c - 8) 0 then ok d x else isNil x) && ((if bit (c - 8) 1 then ok d y else isNil y) && (if bit (c - 8) 2 then ok d z else isNil z)))
  | .tag c (.append a b) => if c = 1 then ok d a && ok d b else if c = 2 then ok d a && ok (d + 1) b else false
  | .tag c .nil => decide (c = 0) || (decide (16 ≤ c) && decide (c < 16 + d))
  | _ => false
theorem ok_top (d : Nat) : ok d tTop = true := by simp [tTop, ok]
theorem ok_var {d k : Nat} (h : k < d) : ok d (tVar k) = true := by
  simp [tVar, ok]; omega
theorem ok_fun {d : Nat} {a b : Ty} : ok d (tFun a b) = true ↔ ok d a = true ∧ ok d b = true := by
  cases b <;> simp [tFun, ok]
theorem ok_all {d : Nat} {a b : Ty} : ok d (tAll a b) = true ↔ ok d a = true ∧ ok (d + 1) b = true := by
  cases b <;> simp [tAll, ok]
/-- what a record must have at a label -/
def okl (d m k : Nat) (x : Ty) : Prop := if bit m k then ok d x = true else x = .nil
theorem ok_rec {d m : Nat} {x y z : Ty} (hm : m < 8) : ok d (tRec m x y z) = true ↔ okl d m 0 x ∧ okl d m 1 y ∧ okl d m 2 z := by
  have e : 8 + m - 8 = m := by omega
  have h1 : ¬ (8 + m = 1) := by omega
  have h2 : ¬ (8 + m = 2) := by omega
  have h3 : 8 ≤ 8 + m ∧ 8 + m < 16 := by omega
  have key : ∀ (k : Nat) (t : Ty), ((if bit m k then ok d t else isNil t) = true) ↔ okl d m k t := by
    intro k t
    unfold okl
    by_cases hb : bit m k = true
    · simp [hb]
    · simp only [hb]
      constructor
      · intro h; exact isNil_eq (by simpa using h)
      · intro h; have h : t = .nil := by simpa using h
        subst h; rfl
  unfold tRec
  rw [ok, e, Bool.and_eq_true, Bool.and_eq_true, Bool.and_eq_true, Bool.and_eq_true, key, key, key]
  simp only [decide_eq_true_eq, h3, true_and]
/-- a type is one of five -/
theorem ok_cases {d : Nat} {t : Ty} (h : ok d t = true) : t = tTop ∨ (∃ k, k < d ∧ t = tVar k) ∨ (∃ a b, t = tFun a b ∧ ok d a = true ∧ ok d b = true) ∨ (∃ a b, t = tAll a b ∧ ok d a = true ∧ ok (d + 1) b = true) ∨ ∃ m x y z, m < 8 ∧ t = tRec m x y z ∧ okl d m 0 x ∧ okl d m 1 y ∧ okl d m 2 z := by
  match t, h with
  | .tag c (.append x (.append y z)), h =>
    have h' := h
    rw [ok, Bool.and_eq_true, Bool.and_eq_true, decide_eq_true_eq, decide_eq_true_eq] at h'
    refine Or.inr (Or.inr (Or.inr (Or.inr ⟨c - 8, x, y, z, by omega, ?_, ?_⟩)))
    · unfold tRec
      rw [show 8 + (c - 8) = c by omega]
    · refine (ok_rec (by omega)).mp ?_
      unfold tRec
      rw [show 8 + (c - 8) = c by omega]
      exact h
  | .tag c .nil, h =>
    rw [ok, Bool.or_eq_true, Bool.and_eq_true, decide_eq_true_eq, decide_eq_true_eq, decide_eq_true_eq] at h
    rcases h with rfl | ⟨h1, h2⟩
    · exact Or.inl rfl
    · refine Or.inr (Or.inl ⟨c - 16, by omega, ?_⟩)
      unfold tVar
      rw [show 16 + (c - 16) = c by omega]
  | .tag c (.append a b), h =>
    by_cases h1 : c = 1
    · subst h1
      exact Or.inr (Or.inr (Or.inl ⟨a, b, rfl, ok_fun.mp h⟩))
    · by_cases h2 : c = 2
      · subst h2
        exact Or.inr (Or.inr (Or.inr (Or.inl ⟨a, b, rfl, ok_all.mp h⟩)))
      · cases b with
        | append y z =>
          have h' := h
          rw [ok, Bool.and_eq_true, Bool.and_eq_true, decide_eq_true_eq, decide_eq_true_eq] at h'
          refine Or.inr (Or.inr (Or.inr (Or.inr ⟨c - 8, a, y, z, by omega, ?_, ?_⟩)))
          · unfold tRec
            rw [show 8 + (c - 8) = c by omega]
          · refine (ok_rec (by omega)).mp ?_
            unfold tRec
            rw [show 8 + (c - 8) = c by omega]
            exact h
        | _ => simp [ok, h1, h2] at h
  | .tag c .line, h => simp [ok] at h
  | .tag c (.align _), h => simp [ok] at h
  | .tag c (.text _), h => simp [ok] at h
  | .tag c (.nest _ _), h => simp [ok] at h
  | .tag c (.group _ _), h => simp [ok] at h
  | .tag c (.tag _ _), h => simp [ok] at h
  | .nil, h => simp [ok] at h
  | .line, h => simp [ok] at h
  | .align _, h => simp [ok] at h
  | .text _, h => simp [ok] at h
  | .nest _ _, h => simp [ok] at h
  | .group _ _, h => simp [ok] at h
  | .append _ _, h => simp [ok] at h
theorem flat_top : flat tTop = [0] := rfl
theorem flat_var (k : Nat) : flat (tVar k) = [((16 + k : Nat) : Int)] := rfl
theorem flat_fun (a b : Ty) : flat (tFun a b) = 1 :: (flat a ++ flat b) := rfl
theorem flat_all (a b : Ty) : flat (tAll a b) = 2 :: (flat a ++ flat b) := rfl
theorem flat_rec (m : Nat) (x y z : Ty) : flat (tRec m x y z) = ((8 + m : Nat) : Int) :: (flat x ++ (flat y ++ flat z)) := rfl
theorem lab_bits : ∀ m, m < 8 → lab ((8 + m : Nat) - 8 : Int) = (if bit m 0 then 1 else 0) + ((if bit m 1 then 1 else 0) + (if bit m 2 then 1 else 0)) := by decide
theorem ok_pre : ∀ (t : Ty) (d : Nat), ok d t = true → pre 1 (flat t) = true
  | .tag c (.append a b), d, h => by
    by_cases h1 : c = 1
    · subst h1
      have h := ok_fun.mp h
      exact pre_app (n := 1) (m := 1) (ok_pre a d h.1) (ok_pre b d h.2)
    · by_cases h2 : c = 2
      · subst h2
        have h := ok_all.mp h
        exact pre_app (n := 1) (m := 1) (ok_pre a d h.1) (ok_pre b (d + 1) h.2)
      · match b, h with
        | .append y z, h =>
            rw [ok] at h
            simp only [Bool.and_eq_true, decide_eq_true_eq] at h
            obtain ⟨hc, h0, h1, h2⟩ := h
            have key : ∀ (k : Nat) (t : Ty), (ok d t = true → pre 1 (flat t) = true) → (if bit (c - 8) k = true then ok d t else isNil t) = true → pre (if bit (c - 8) k = true then 1 else 0) (flat t) = true := by
              intro k t ht hk
              split at hk
              · rename_i hb; rw [if_pos hb]; exact ht hk
              · rename_i hb; rw [if_neg hb, isNil_eq hk]; rfl
            show pre (0 + ar (c : Int)) (flat a ++ (flat y ++ flat z)) = true
            rw [ar_rec (by omega) (by omega), Nat.zero_add]
            have e := lab_bits (c - 8) (by omega)
            rw [show 8 + (c - 8) = c by omega] at e
            rw [e]
            exact pre_app (key 0 a (ok_pre a d) h0) (pre_app (key 1 y (ok_pre y d) h1) (key 2 z (ok_pre z d) h2))
        | .tag _ _, h => simp [ok, h1, h2] at h
        | .nil, h => simp [ok, h1, h2] at h
        | .line, h => simp [ok, h1, h2] at h
        | .align _, h => simp [ok, h1, h2] at h
        | .text _, h => simp [ok, h1, h2] at h
        | .nest _ _, h => simp [ok, h1, h2] at h
        | .group _ _, h => simp [ok, h1, h2] at h
  | .tag c .nil, d, h => by
    rcases ok_cases h with e | ⟨k, -, e⟩ | ⟨a', b', e, h1, h2⟩ | ⟨a', b', e, h1, h2⟩ | ⟨m, x, y, z, hm, e, h1, h2, h3⟩
    · cases e; rfl
    · cases e
      show pre (0 + ar ((16 + k : Nat) : Int)) [] = true
      rw [ar_none (by omega) (by omega) (by omega)]; rfl
    · cases e
    · cases e
    · cases e
  | .tag c .line, d, h => by simp [ok] at h
  | .tag c (.align _), d, h => by simp [ok] at h
  | .tag c (.text _), d, h => by simp [ok] at h
  | .tag c (.nest _ _), d, h => by simp [ok] at h
  | .tag c (.group _ _), d, h => by simp [ok] at h
  | .tag c (.tag _ _), d, h => by simp [ok] at h
  | .nil, d, h => by simp [ok] at h
  | .line, d, h => by simp [ok] at h
  | .align _, d, h => by simp [ok] at h
  | .text _, d, h => by simp [ok] at h
  | .nest _ _, d, h => by simp [ok] at h
  | .group _ _, d, h => by simp [ok] at h
  | .append _ _, d, h => by simp [ok] at h
/-- the variables from a level on are put up by some levels -/
def lft (k b : Nat) : Ty → Ty
  | .tag c f => .tag (if 16 + k ≤ c then c + b else c) (lft k b f)
  | .append x y => .append (lft k b x) (lft k b y)
  | t => t
def lfc (k b : Nat) (c : Int) : Int := if 16 + (k : Int) ≤ c then c + b else c
theorem flat_lft (k b : Nat) : ∀ t : Ty, flat (lft k b t) = (flat t).map (lfc k b)
  | .tag c f => by
    show ((if 16 + k ≤ c then c + b else c : Nat) : Int) :: flat (lft k b f) = lfc k b (c : Int) :: (flat f).map (lfc k b)
    rw [flat_lft k b f]
    congr 1
    unfold lfc
    split <;> split <;> omega
  | .append x y => by
    show flat (lft k b x) ++ flat (lft k b y) = (flat x ++ flat y).map (lfc k b)
    rw [flat_lft, flat_lft, List.map_append]
  | .nil => rfl
  | .line => rfl
  | .align _ => rfl
  | .text _ => rfl
  | .nest _ _ => rfl
  | .group _ _ => rfl
