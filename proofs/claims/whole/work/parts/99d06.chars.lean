/-! CHARACTERS: the least text of a type, of a term. -/
def nlb (m : Nat) : Nat := (if bit m 0 then 1 else 0) + (if bit m 1 then 1 else 0) + (if bit m 2 then 1 else 0)
def tch : Ty → Nat
  | .tag c (.append a b) => (if c = 2 then 4 else if c = 1 then 3 else if c = 8 then 2 else 1 + 2 * nlb (c - 8)) + (tch a + tch b)
  | .tag _ .nil => 1
  | .append a b => tch a + tch b
  | _ => 0
def rch (m : Nat) : Nat := if m = 0 then 2 else 1 + 2 * nlb m
theorem tch_top : tch tTop = 1 := rfl
theorem tch_var (k : Nat) : tch (tVar k) = 1 := rfl
theorem tch_nil : tch .nil = 0 := rfl
theorem tch_fun (a b : Ty) : tch (tFun a b) = 3 + (tch a + tch b) := by simp [tFun, tch]
theorem tch_all (a b : Ty) : tch (tAll a b) = 4 + (tch a + tch b) := by simp [tAll, tch]
theorem tch_rec (m : Nat) (x y z : Ty) : tch (tRec m x y z) = rch m + (tch x + (tch y + tch z)) := by
  unfold tRec rch
  rw [tch, if_neg (by omega), if_neg (by omega), tch, show 8 + m - 8 = m by omega]
  by_cases h : m = 0
  · rw [if_pos (by omega), if_pos h]
  · rw [if_neg (by omega), if_neg h]
theorem tch_lft (k j : Nat) : ∀ (t : Ty) (d : Nat), ok d t = true → tch (lft k j t) = tch t
  | .tag c (.append a b), d, h => by
    by_cases h1 : c = 1
    · subst h1
      have h := ok_fun.mp h
      have e : lft k j (.tag 1 (.append a b)) = tFun (lft k j a) (lft k j b) := by
        show Std.Format.tag (if 16 + k ≤ 1 then 1 + j else 1) _ = _
        rw [if_neg (by omega)]; rfl
      rw [e, tch_fun, tch_lft k j a d h.1, tch_lft k j b d h.2]
      exact (tch_fun _ _).symm
    · by_cases h2 : c = 2
      · subst h2
        have h := ok_all.mp h
        have e : lft k j (.tag 2 (.append a b)) = tAll (lft k j a) (lft k j b) := by
          show Std.Format.tag (if 16 + k ≤ 2 then 2 + j else 2) _ = _
          rw [if_neg (by omega)]; rfl
        rw [e, tch_all, tch_lft k j a d h.1, tch_lft k j b (d + 1) h.2]
        exact (tch_all _ _).symm
      · match b, h with
        | .append y z, h =>
          rw [ok] at h
          simp only [Bool.and_eq_true, decide_eq_true_eq] at h
          obtain ⟨hc, q0, q1, q2⟩ := h
          have key : ∀ (i : Nat) (t : Ty), (ok d t = true → tch (lft k j t) = tch t) → (if bit (c - 8) i = true then ok d t else isNil t) = true → tch (lft k j t) = tch t := by
            intro i t ht hk
            split at hk
            · exact ht hk
            · rw [isNil_eq hk]; rfl
          have e : lft k j (.tag c (.append a (.append y z))) = tRec (c - 8) (lft k j a) (lft k j y) (lft k j z) := by
            show Std.Format.tag (if 16 + k ≤ c then c + j else c) _ = _
            rw [if_neg (by omega)]
            unfold tRec
            rw [show 8 + (c - 8) = c by omega]; rfl
          have e2 : Std.Format.tag c (.append a (.append y z)) = tRec (c - 8) a y z := by
            unfold tRec
            rw [show 8 + (c - 8) = c by omega]
          rw [e, e2, tch_rec, tch_rec, key 0 a (tch_lft k j a d) q0, key 1 y (tch_lft k j y d) q1, key 2 z (tch_lft k j z d) q2]
        | .tag _ _, h => simp [ok, h1, h2] at h
        | .nil, h => simp [ok, h1, h2] at h
        | .line, h => simp [ok, h1, h2] at h
        | .align _, h => simp [ok, h1, h2] at h
        | .text _, h => simp [ok, h1, h2] at h
        | .nest _ _, h => simp [ok, h1, h2] at h
        | .group _ _, h => simp [ok, h1, h2] at h
  | .tag c .nil, d, h => rfl
  | .tag c .line, d, h => by simp [ok] at h
  | .tag c (.align _), d, h => by simp [ok] at h
  | .tag c (.text _), d, h => by simp [ok] at h
  | .tag c (.nest _ _), d, h => by simp [ok] at h
  | .tag c (.group _ _), d, h => by simp [ok] at h
  | .tag c (.tag _ _), d, h => by simp [ok] at h
  | .nil, d, h => by simp [ok] at h
  | .line, d, h => by simp [ok] at h
  | .align _, d, h => by simp [ok] at h
  | .text _, d, h => by simp [ok] at h
  | .nest _ _, d, h => by simp [ok] at h
  | .group _ _, d, h => by simp [ok] at h
  | .append _ _, d, h => by simp [ok] at h
/-- of a term -/
def mch : Ty → Nat
  | .nest _ (.tag k (.tag m (.append x (.append y z)))) => if k = 5 then 1 else if k = 6 ∨ k = 8 then 4 + (tch x + mch y) else if k = 9 then 1 + (mch x + tch y) else if k = 10 then (if m = 0 then 2 else 1 + 3 * nlb m) + (mch x + (mch y + mch z)) else 2 + (mch x + mch y)
  | _ => 0
theorem mch_mN (p k m : Nat) (x y z : Ty) : mch (mN p k m x y z) = if k = 5 then 1 else if k = 6 ∨ k = 8 then 4 + (tch x + mch y) else if k = 9 then 1 + (mch x + tch y) else if k = 10 then (if m = 0 then 2 else 1 + 3 * nlb m) + (mch x + (mch y + mch z)) else 2 + (mch x + mch y) := by
  unfold mN; rw [mch]
theorem mch_is {t : Ty} (h : t = mN (nPl t) (nKd t) (nMk t) (nX t) (nY t) (nZ t)) : mch t = if nKd t = 5 then 1 else if nKd t = 6 ∨ nKd t = 8 then 4 + (tch (nX t) + mch (nY t)) else if nKd t = 9 then 1 + (mch (nX t) + tch (nY t)) else if nKd t = 10 then (if nMk t = 0 then 2 else 1 + 3 * nlb (nMk t)) + (mch (nX t) + (mch (nY t) + mch (nZ t))) else 2 + (mch (nX t) + mch (nY t)) := by
  have := mch_mN (nPl t) (nKd t) (nMk t) (nX t) (nY t) (nZ t)
  rwa [← h] at this
section PmJ7
variable {tx : Nat → Int} {ln : Nat}
theorem pFs_ne {α : Type} {pr : Nat → Nat × Option α} {cl : Int} : ∀ (k l p q : Nat) (r : List (Nat × α)), pFs tx ln pr cl k l p = (q, some r) → 1 ≤ r.length
  | 0, l, p, q, r, h => by cases h
  | k + 1, l, p, q, r, h => by
    have h : (if chr tx ln p < 120 + (l : Int) ∨ 123 ≤ chr tx ln p then (p, none) else
      thn (pr (p + 1)) (fun t q => if chr tx ln q = cl then (q + 1, some [((chr tx ln p - 120).toNat, t)]) else if chr tx ln p = 122 ∨ chr tx ln q ≠ 44 then (q, none) else
      thn (pFs tx ln pr cl k ((chr tx ln p - 120).toNat + 1) (q + 1)) (fun r q' => (q', some (((chr tx ln p - 120).toNat, t) :: r))))) = (q, some r) := h
    by_cases c : chr tx ln p < 120 + (l : Int) ∨ 123 ≤ chr tx ln p
    · rw [if_pos c] at h; cases h
    rw [if_neg c] at h
    obtain ⟨t, q1, e1, e2⟩ := thn_eq h
    by_cases c2 : chr tx ln q1 = cl
    · rw [if_pos c2] at e2
      injection e2 with e2 e3
      injection e3 with e3
      subst e3
      exact Nat.le_refl _
    · rw [if_neg c2] at e2
      by_cases c3 : chr tx ln p = 122 ∨ chr tx ln q1 ≠ 44
      · rw [if_pos c3] at e2; cases e2
      rw [if_neg c3] at e2
      obtain ⟨r', q2, e4, e5⟩ := thn_eq e2
      injection e5 with e5 e6
      injection e6 with e6
      subst e6
      rw [List.length_cons]; omega
theorem lkT_cons (a : Nat × (Ty × Bool)) (r : List (Nat × (Ty × Bool))) (g : Nat) : lkT (a :: r) g = if a.1 = g then a.2.1 else lkT r g := by
  unfold lkT
  show (match (if a.1 = g then some a.2 else lk r g) with | none => Std.Format.nil | some a => a.1) = _
  by_cases c : a.1 = g
  · rw [if_pos c, if_pos c]
  · rw [if_neg c, if_neg c]; rfl
/-- the parts of a record take two characters each, besides their own -/
theorem pFs_two {α : Type} {pr : Nat → Nat × Option α} {cl : Int} {sz : α → Nat} (hpr : ∀ p q a, pr p = (q, some a) → sz a + p ≤ q) : ∀ (k l p q : Nat) (r : List (Nat × α)), pFs tx ln pr cl k l p = (q, some r) → (r.map (fun a => sz a.2)).sum + 2 * r.length + p ≤ q
  | 0, l, p, q, r, h => by cases h
  | k + 1, l, p, q, r, h => by
    have h : (if chr tx ln p < 120 + (l : Int) ∨ 123 ≤ chr tx ln p then (p, none) else
      thn (pr (p + 1)) (fun t q => if chr tx ln q = cl then (q + 1, some [((chr tx ln p - 120).toNat, t)]) else if chr tx ln p = 122 ∨ chr tx ln q ≠ 44 then (q, none) else
      thn (pFs tx ln pr cl k ((chr tx ln p - 120).toNat + 1) (q + 1)) (fun r q' => (q', some (((chr tx ln p - 120).toNat, t) :: r))))) = (q, some r) := h
    by_cases c : chr tx ln p < 120 + (l : Int) ∨ 123 ≤ chr tx ln p
    · rw [if_pos c] at h; cases h
    rw [if_neg c] at h
    obtain ⟨t, q1, e1, e2⟩ := thn_eq h
    have hs := hpr _ _ _ e1
    by_cases c2 : chr tx ln q1 = cl
    · rw [if_pos c2] at e2
      injection e2 with e2 e3
      injection e3 with e3
      subst e2 e3
      simp; omega
    · rw [if_neg c2] at e2
      by_cases c3 : chr tx ln p = 122 ∨ chr tx ln q1 ≠ 44
      · rw [if_pos c3] at e2; cases e2
      rw [if_neg c3] at e2
      obtain ⟨r', q2, e4, e5⟩ := thn_eq e2
      injection e5 with e5 e6
      injection e6 with e6
      subst e5 e6
      have i3 := pFs_two hpr k _ _ _ _ e4
      simp only [List.map_cons, List.sum_cons, List.length_cons]; omega
theorem lkT_sum {f : Ty → Nat} (f0 : f .nil = 0) : ∀ (l : List (Nat × (Ty × Bool))), f (lkT l 0) + (f (lkT l 1) + f (lkT l 2)) ≤ (l.map (fun a => f a.2.1)).sum
  | [] => by
    show f .nil + (f .nil + f .nil) ≤ 0
    omega
  | a :: r => by
    have ih := lkT_sum f0 r
    rw [lkT_cons, lkT_cons, lkT_cons, List.map_cons, List.sum_cons]
    by_cases c0 : a.1 = 0
    · rw [if_pos c0, if_neg (by omega), if_neg (by omega)]; omega
    · by_cases c1 : a.1 = 1
      · rw [if_neg c0, if_pos c1, if_neg (by omega)]; omega
      · by_cases c2 : a.1 = 2
        · rw [if_neg c0, if_neg c1, if_pos c2]; omega
        · rw [if_neg c0, if_neg c1, if_neg c2]; omega
theorem nlb_msk {α : Type} {r : List (Nat × α)} (h : Srt 0 r) : nlb (msk r) ≤ r.length := by
  rcases srt_cases h with rfl | ⟨a, rfl⟩ | ⟨a, rfl⟩ | ⟨a, rfl⟩ | ⟨a, b, rfl⟩ | ⟨a, b, rfl⟩ | ⟨a, b, rfl⟩ | ⟨a, b, c, rfl⟩
  · exact (by decide : nlb 0 ≤ 0)
  · exact (by decide : nlb (2 ^ 0 + 0) ≤ 1)
  · exact (by decide : nlb (2 ^ 1 + 0) ≤ 1)
  · exact (by decide : nlb (2 ^ 2 + 0) ≤ 1)
  · exact (by decide : nlb (2 ^ 0 + (2 ^ 1 + 0)) ≤ 2)
  · exact (by decide : nlb (2 ^ 0 + (2 ^ 2 + 0)) ≤ 2)
  · exact (by decide : nlb (2 ^ 1 + (2 ^ 2 + 0)) ≤ 2)
  · exact (by decide : nlb (2 ^ 0 + (2 ^ 1 + (2 ^ 2 + 0))) ≤ 3)
theorem pT_ch : ∀ (r : Nat) (e : List Int) (p q : Nat) (a : Ty × Bool), pT tx ln r e p = (q, some a) → tch a.1 + p ≤ q := by
  have hvar : ∀ (e : List Int) (p q : Nat) (c : Int) (a : Ty × Bool), ((p + 1, some (tVar ((lvl e c).getD 0), (lvl e c).isSome)) : Nat × Option (Ty × Bool)) = (q, some a) → tch a.1 + p ≤ q := by
    intro e p q c a h
    injection h with h1 h2
    injection h2 with h2
    subst h1 h2
    show 1 + p ≤ p + 1
    omega
  have htop : ∀ (p q : Nat) (a : Ty × Bool), ((p + 1, some (tTop, true)) : Nat × Option (Ty × Bool)) = (q, some a) → tch a.1 + p ≤ q := by
    intro p q a h
    injection h with h1 h2
    injection h2 with h2
    subst h1 h2
    show 1 + p ≤ p + 1
    omega
  have hemp : ∀ (p q : Nat) (a : Ty × Bool), ((p + 2, some (mkR [])) : Nat × Option (Ty × Bool)) = (q, some a) → tch a.1 + p ≤ q := by
    intro p q a h
    injection h with h1 h2
    injection h2 with h2
    subst h1 h2
    show 2 + p ≤ p + 2
    omega
  intro r
  induction r with
  | zero =>
    intro e p q a h
    have h : (if chr tx ln p = 84 then (p + 1, some (tTop, true)) else if 80 ≤ chr tx ln p ∧ chr tx ln p ≤ 83 then (p + 1, some (tVar ((lvl e (chr tx ln p)).getD 0), (lvl e (chr tx ln p)).isSome)) else if chr tx ln p = 91 then (if chr tx ln (p + 1) = 93 then (p + 2, some (mkR [])) else (p + 1, none)) else (p, none)) = (q, some a) := h
    by_cases c1 : chr tx ln p = 84
    · rw [if_pos c1] at h; exact htop p q a h
    rw [if_neg c1] at h
    by_cases c2 : 80 ≤ chr tx ln p ∧ chr tx ln p ≤ 83
    · rw [if_pos c2] at h; exact hvar e p q _ a h
    rw [if_neg c2] at h
    by_cases c3 : chr tx ln p = 91
    · rw [if_pos c3] at h
      by_cases c4 : chr tx ln (p + 1) = 93
      · rw [if_pos c4] at h; exact hemp p q a h
      · rw [if_neg c4] at h; cases h
    rw [if_neg c3] at h; cases h
  | succ r ih =>
    intro e p q a h
    unfold pT at h
    by_cases c1 : chr tx ln p = 84
    · rw [if_pos c1] at h; exact htop p q a h
    rw [if_neg c1] at h
    by_cases c2 : 80 ≤ chr tx ln p ∧ chr tx ln p ≤ 83
    · rw [if_pos c2] at h; exact hvar e p q _ a h
    rw [if_neg c2] at h
    by_cases c3 : chr tx ln p = 91
    · rw [if_pos c3] at h
      by_cases c4 : chr tx ln (p + 1) = 93
      · rw [if_pos c4] at h; exact hemp p q a h
      · rw [if_neg c4] at h
        obtain ⟨l, q1, e1, e2⟩ := thn_eq h
        injection e2 with e2 e3
        injection e3 with e3
        subst e2 e3
        have i1 := (pFs_all (P := fun _ => True) (sz := fun _ => 0) (fun p q a hh => ⟨trivial, by have := ih e p q a hh; omega⟩) 3 0 _ _ _ e1).1
        have i2 := pFs_two (sz := fun a => tch a.1) (fun p q a hh => ih e p q a hh) 3 0 _ _ _ e1
        have i3 := pFs_ne 3 0 _ _ _ e1
        have i4 := nlb_msk i1
        have i5 := lkT_sum tch_nil l
        show tch (tRec (msk l) (lkT l 0) (lkT l 1) (lkT l 2)) + p ≤ q1
        rw [tch_rec]
        unfold rch
        split <;> omega
    rw [if_neg c3] at h
    by_cases c5 : chr tx ln p = 40
    · rw [if_pos c5] at h
      obtain ⟨x, q1, e1, e2⟩ := thn_eq h
      have x1 := ih _ _ _ _ e1
      by_cases c6 : chr tx ln q1 = 62
      · rw [if_pos c6] at e2
        obtain ⟨y, q2, e3, e4⟩ := thn_eq e2
        have x2 := ih _ _ _ _ e3
        by_cases c7 : chr tx ln q2 = 41
        · rw [if_pos c7] at e4
          injection e4 with e4 e5
          injection e5 with e5
          subst e4 e5
          show tch (tFun x.1 y.1) + p ≤ q2 + 1
          rw [tch_fun]; omega
        · rw [if_neg c7] at e4; cases e4
      · rw [if_neg c6] at e2; cases e2
    rw [if_neg c5] at h
    by_cases c8 : chr tx ln p = 60
    · rw [if_pos c8] at h
      by_cases c9 : 80 ≤ chr tx ln (p + 1) ∧ chr tx ln (p + 1) ≤ 83
      · rw [if_pos c9] at h
        by_cases c10 : chr tx ln (p + 2) = 58
        · rw [if_pos c10] at h
          obtain ⟨x, q1, e1, e2⟩ := thn_eq h
          have x1 := ih _ _ _ _ e1
          by_cases c6 : chr tx ln q1 = 62
          · rw [if_pos c6] at e2
            obtain ⟨y, q2, e3, e4⟩ := thn_eq e2
            have x2 := ih _ _ _ _ e3
            injection e4 with e4 e5
            injection e5 with e5
            subst e4 e5
            show tch (tAll x.1 y.1) + p ≤ q2
            rw [tch_all]; omega
          · rw [if_neg c6] at e2; cases e2
        · rw [if_neg c10] at h; cases h
      · rw [if_neg c9] at h; cases h
    rw [if_neg c8] at h
    cases h
theorem pM_ch : ∀ (r : Nat) (e : List (Nat × Int × Nat)) (p q : Nat) (a : Ty × Bool), pM tx ln r e p = (q, some a) → mch a.1 + p ≤ q := by
  have hw : ∀ (p q m : Nat) (c : Bool) (a : Ty × Bool), ((p + 1, some (mN p 5 m .nil .nil .nil, c)) : Nat × Option (Ty × Bool)) = (q, some a) → mch a.1 + p ≤ q := by
    intro p q m c a h
    injection h with h1 h2
    injection h2 with h2
    subst h2; subst h1
    show mch (mN p 5 m .nil .nil .nil) + p ≤ _
    rw [mch_mN, if_pos rfl]; omega
  have hemp : ∀ (p q : Nat) (a : Ty × Bool), ((p + 1 + 1, some (mkM p [])) : Nat × Option (Ty × Bool)) = (q, some a) → mch a.1 + p ≤ q := by
    intro p q a h
    injection h with h1 h2
    injection h2 with h2
    subst h2; subst h1
    show mch (mN p 10 0 .nil .nil .nil) + p ≤ _
    rw [mch_mN, if_neg (by decide), if_neg (by decide), if_neg (by decide), if_pos rfl, if_pos rfl]
    show 2 + (0 + (0 + 0)) + p ≤ _
    omega
  intro r
  induction r with
  | zero =>
    intro e p q a h
    by_cases c1 : 97 ≤ chr tx ln p ∧ chr tx ln p ≤ 100
    · rw [pM_v c1] at h
      exact hw _ _ _ _ _ h
    · by_cases c2 : chr tx ln p = 123
      · rw [pM_r c1 c2] at h
        have h : (if chr tx ln (p + 1) = 125 then (p + 1 + 1, some (mkM p [])) else (p + 1, none)) = (q, some a) := h
        by_cases c3 : chr tx ln (p + 1) = 125
        · rw [if_pos c3] at h
          exact hemp _ _ _ h
        · rw [if_neg c3] at h; cases h
      · rw [pM_z c1 c2] at h; cases h
  | succ r ih =>
    intro e p q a h
    by_cases c1 : 97 ≤ chr tx ln p ∧ chr tx ln p ≤ 100
    · rw [pM_v c1] at h
      exact hw _ _ _ _ _ h
    by_cases c2 : chr tx ln p = 123
    · rw [pM_r c1 c2] at h
      have h : (if chr tx ln (p + 1) = 125 then (p + 1 + 1, some (mkM p [])) else thn (pFs tx ln (fun q => if chr tx ln q = 61 then pM tx ln r e (q + 1) else (q, none)) 125 3 0 (p + 1)) (fun l q => (q, some (mkM p l)))) = (q, some a) := h
      by_cases c3 : chr tx ln (p + 1) = 125
      · rw [if_pos c3] at h
        exact hemp _ _ _ h
      · rw [if_neg c3] at h
        obtain ⟨l, q', hl, h⟩ := thn_eq h
        injection h with h1 h2
        injection h2 with h2
        subst h2; subst h1
        have hpr : ∀ p' q2 (b : Ty × Bool), (if chr tx ln p' = 61 then pM tx ln r e (p' + 1) else (p', none)) = (q2, some b) → (mch b.1 + 1) + p' ≤ q2 := by
          intro p' q2 b hb
          by_cases c61 : chr tx ln p' = 61
          · rw [if_pos c61] at hb
            have := ih e _ _ b hb
            omega
          · rw [if_neg c61] at hb; cases hb
        have i1 := (pFs_all (P := fun _ => True) (sz := fun _ => 0) (fun p' q2 b hb => ⟨trivial, by have := hpr p' q2 b hb; omega⟩) 3 0 _ _ _ hl).1
        have i2 := pFs_two (sz := fun b => mch b.1 + 1) hpr 3 0 _ _ _ hl
        have i3 := pFs_ne 3 0 _ _ _ hl
        have i4 := nlb_msk i1
        have i5 := lkT_sum (f := mch) rfl l
        have i6 : ∀ l : List (Nat × (Ty × Bool)), (l.map (fun b => mch b.2.1 + 1)).sum = (l.map (fun b => mch b.2.1)).sum + l.length := by
          intro l
          induction l with
          | nil => rfl
          | cons x l il => rw [List.map_cons, List.sum_cons, il, List.map_cons, List.sum_cons, List.length_cons]; omega
        have i7 := i6 l
        rw [i7] at i2
        show mch (mN p 10 (msk l) (lkT l 0) (lkT l 1) (lkT l 2)) + p ≤ _
        rw [mch_mN, if_neg (by decide), if_neg (by decide), if_neg (by decide), if_pos rfl]
        split <;> omega
    by_cases g92 : chr tx ln p = 92
    · rw [pM_92 c1 c2 g92] at h
      by_cases k1 : 97 ≤ chr tx ln (p + 1) ∧ chr tx ln (p + 1) ≤ 100
      · rw [if_pos k1] at h
        by_cases k2 : chr tx ln (p + 1 + 1) = 58
        · rw [if_pos k2] at h
          obtain ⟨A, q1, hA, h⟩ := thn_eq h
          by_cases k3 : chr tx ln q1 = 46
          · rw [if_pos k3] at h
            obtain ⟨B, q2, hB, h⟩ := thn_eq h
            injection h with h1 h2
            injection h2 with h2
            subst h2; subst h1
            have oA := pT_ch _ _ _ _ _ hA
            have i := ih _ _ _ B hB
            rw [mch_mN, if_neg (by decide), if_pos (by decide)]
            omega
          · rw [if_neg k3] at h; cases h
        · rw [if_neg k2] at h; cases h
      · rw [if_neg k1] at h; cases h
    by_cases g40 : chr tx ln p = 40
    · rw [pM_40 c1 c2 g92 g40] at h
      obtain ⟨A, q1, hA, h⟩ := thn_eq h
      obtain ⟨B, q2, hB, h⟩ := thn_eq h
      by_cases k3 : chr tx ln q2 = 41
      · rw [if_pos k3] at h
        injection h with h1 h2
        injection h2 with h2
        subst h2; subst h1
        have i1 := ih _ _ _ A hA
        have i2 := ih _ _ _ B hB
        rw [mch_mN, if_neg (by decide), if_neg (by decide), if_neg (by decide), if_neg (by decide)]
        omega
      · rw [if_neg k3] at h; cases h
    by_cases g47 : chr tx ln p = 47
    · rw [pM_47 c1 c2 g92 g40 g47] at h
      by_cases k1 : 80 ≤ chr tx ln (p + 1) ∧ chr tx ln (p + 1) ≤ 83
      · rw [if_pos k1] at h
        by_cases k2 : chr tx ln (p + 1 + 1) = 58
        · rw [if_pos k2] at h
          obtain ⟨A, q1, hA, h⟩ := thn_eq h
          by_cases k3 : chr tx ln q1 = 46
          · rw [if_pos k3] at h
            obtain ⟨B, q2, hB, h⟩ := thn_eq h
            injection h with h1 h2
            injection h2 with h2
            subst h2; subst h1
            have oA := pT_ch _ _ _ _ _ hA
            have i := ih _ _ _ B hB
            rw [mch_mN, if_neg (by decide), if_pos (by decide)]
            omega
          · rw [if_neg k3] at h; cases h
        · rw [if_neg k2] at h; cases h
      · rw [if_neg k1] at h; cases h
    by_cases g64 : chr tx ln p = 64
    · rw [pM_64 c1 c2 g92 g40 g47 g64] at h
      obtain ⟨A, q1, hA, h⟩ := thn_eq h
      obtain ⟨B, q2, hB, h⟩ := thn_eq h
      injection h with h1 h2
      injection h2 with h2
      subst h2; subst h1
      have i1 := ih _ _ _ A hA
      have oB := pT_ch _ _ _ _ _ hB
      rw [mch_mN, if_neg (by decide), if_neg (by decide), if_pos rfl]
      omega
    by_cases g46 : chr tx ln p = 46
    · rw [pM_46 c1 c2 g92 g40 g47 g64 g46] at h
      by_cases k1 : 120 ≤ chr tx ln (p + 1) ∧ chr tx ln (p + 1) ≤ 122
      · rw [if_pos k1] at h
        obtain ⟨A, q1, hA, h⟩ := thn_eq h
        injection h with h1 h2
        injection h2 with h2
        subst h2; subst h1
        have i1 := ih _ _ _ A hA
        rw [mch_mN, if_neg (by decide), if_neg (by decide), if_neg (by decide), if_neg (by decide)]
        show 2 + (mch A.1 + 0) + p ≤ _
        omega
      · rw [if_neg k1] at h; cases h
    by_cases g63 : chr tx ln p = 63
    · rw [pM_63 c1 c2 g92 g40 g47 g64 g46 g63] at h
      by_cases k1 : 48 ≤ chr tx ln (p + 1) ∧ chr tx ln (p + 1) ≤ 49
      · rw [if_pos k1] at h
        obtain ⟨A, q1, hA, h⟩ := thn_eq h
        obtain ⟨B, q2, hB, h⟩ := thn_eq h
        injection h with h1 h2
        injection h2 with h2
        subst h2; subst h1
        have i1 := ih _ _ _ A hA
        have i2 := ih _ _ _ B hB
        rw [mch_mN, if_neg (by decide), if_neg (by decide), if_neg (by decide), if_neg (by decide)]
        omega
      · rw [if_neg k1] at h; cases h
    · rw [pM_none c1 c2 g92 g40 g47 g64 g46 g63] at h; cases h
/-- what is read of sixty characters has no more -/
theorem rdM_ch {t : Ty} (h : rdM tx ln = (-1, some t)) : mch t ≤ ln := by
  unfold rdM at h
  split at h
  · cases h
  · rename_i q a ha
    have f := (pM_fw (tx := tx) (ln := ln) 23 [] 0 (Nat.zero_le _)).2.1
    rw [ha] at f
    have i := pM_ch 23 [] 0 q a ha
    have f : q ≤ ln := f
    by_cases c : q < ln
    · rw [if_pos c] at h; cases h
    · rw [if_neg c] at h
      by_cases c2 : a.2 = true
      · rw [if_pos c2] at h
        have e : a.1 = t := by injection h with _ h; injection h
        rw [e] at i
        omega
      · rw [if_neg c2] at h; cases h
end PmJ7
