/-! TYPES OF TERMS: what is found. -/
/-- a type for the variable of level k; i: binders around -/
def sbt (k : Nat) (A : Ty) : Nat → Ty → Ty
  | i, .tag c (.append a b) => if c = 2 then .tag c (.append (sbt k A i a) (sbt k A (i + 1) b)) else .tag c (.append (sbt k A i a) (sbt k A i b))
  | i, .tag c .nil => if c = 16 + k then lft k i A else .tag (if 16 + k < c then c - 1 else c) .nil
  | i, .append a b => .append (sbt k A i a) (sbt k A i b)
  | _, t => t
theorem sbt_top (k i : Nat) (A : Ty) : sbt k A i tTop = tTop := by
  show (if 0 = 16 + k then lft k i A else _) = _
  rw [if_neg (by omega), if_neg (by omega)]; rfl
theorem sbt_var (k i v : Nat) (A : Ty) : sbt k A i (tVar v) = if v = k then lft k i A else if k < v then tVar (v - 1) else tVar v := by
  show (if 16 + v = 16 + k then lft k i A else Std.Format.tag (if 16 + k < 16 + v then 16 + v - 1 else 16 + v) .nil) = _
  by_cases h : v = k
  · rw [if_pos (by omega), if_pos h]
  · rw [if_neg (by omega), if_neg h]
    by_cases h2 : k < v
    · rw [if_pos (by omega), if_pos h2, show 16 + v - 1 = 16 + (v - 1) by omega]; rfl
    · rw [if_neg (by omega), if_neg h2]; rfl
theorem sbt_fun (k i : Nat) (A a b : Ty) : sbt k A i (tFun a b) = tFun (sbt k A i a) (sbt k A i b) := by
  show (if 1 = 2 then _ else _) = _
  rw [if_neg (by decide)]; rfl
theorem sbt_all (k i : Nat) (A a b : Ty) : sbt k A i (tAll a b) = tAll (sbt k A i a) (sbt k A (i + 1) b) := by
  show (if 2 = 2 then _ else _) = _
  rw [if_pos rfl]; rfl
theorem sbt_rec (k i m : Nat) (A x y z : Ty) : sbt k A i (tRec m x y z) = tRec m (sbt k A i x) (sbt k A i y) (sbt k A i z) := by
  show (if 8 + m = 2 then _ else _) = _
  rw [if_neg (by omega)]; rfl
theorem sbt_nil (k i : Nat) (A : Ty) : sbt k A i .nil = .nil := rfl
theorem ok_sbt {k : Nat} {A : Ty} (hA : ok k A = true) : ∀ (n : Nat) (t : Ty) (i : Nat), (flat t).length ≤ n → ok (k + 1 + i) t = true → ok (k + i) (sbt k A i t) = true
  | 0, t, i, hl, h => by have := flat_pos h; omega
  | n + 1, t, i, hl, h => by
    rcases ok_cases h with rfl | ⟨v, hv, rfl⟩ | ⟨a, b, rfl, ha, hb⟩ | ⟨a, b, rfl, ha, hb⟩ | ⟨m, x, y, z, hm, rfl, h0, h1, h2⟩
    · rw [sbt_top]; exact ok_top _
    · rw [sbt_var]
      by_cases c : v = k
      · rw [if_pos c]
        have := ok_lft k i A 0 hA
        exact this
      · rw [if_neg c]
        by_cases c2 : k < v
        · rw [if_pos c2]; exact ok_var (by omega)
        · rw [if_neg c2]; exact ok_var (by omega)
    · rw [flat_fun, List.length_cons, List.length_append] at hl
      rw [sbt_fun]
      exact ok_fun.mpr ⟨ok_sbt hA n a i (by omega) ha, ok_sbt hA n b i (by omega) hb⟩
    · rw [flat_all, List.length_cons, List.length_append] at hl
      rw [sbt_all]
      exact ok_all.mpr ⟨ok_sbt hA n a i (by omega) ha, ok_sbt hA n b (i + 1) (by omega) hb⟩
    · rw [flat_rec, List.length_cons, List.length_append, List.length_append] at hl
      rw [sbt_rec]
      have key : ∀ (g : Nat) (w : Ty), (flat w).length ≤ n → okl (k + 1 + i) m g w → okl (k + i) m g (sbt k A i w) := by
        intro g w hw ho
        unfold okl at *
        by_cases hb : bit m g = true
        · rw [if_pos hb] at *; exact ok_sbt hA n w i hw ho
        · rw [if_neg hb] at *; rw [ho]; rfl
      exact (ok_rec hm).mpr ⟨key 0 x (by omega) h0, key 1 y (by omega) h1, key 2 z (by omega) h2⟩
/-- the bound, as long as it is a variable -/
def expo (Γ : List Ty) : Nat → Ty → Ty
  | 0, S => S
  | f + 1, S => if 16 ≤ hd S then expo Γ f (exps Γ S) else S
theorem expo_ok {Γ : List Ty} (hc : okc Γ) (hs : szc 16 Γ) : ∀ (f : Nat) (S : Ty), ok Γ.length S = true → (flat S).length ≤ 16 → ok Γ.length (expo Γ f S) = true ∧ (flat (expo Γ f S)).length ≤ 16
  | 0, S, h, hl => ⟨h, hl⟩
  | f + 1, S, h, hl => by
    show ok Γ.length (if 16 ≤ hd S then expo Γ f (exps Γ S) else S) = true ∧ (flat (if 16 ≤ hd S then expo Γ f (exps Γ S) else S)).length ≤ 16
    by_cases c : 16 ≤ hd S
    · rw [if_pos c]
      obtain ⟨k, hk, rfl⟩ := hd_is_var h c
      rw [exps_var]
      exact expo_ok hc hs f _ (ok_expose hc hk) (by rw [lft_len]; exact hs k hk)
    · rw [if_neg c]; exact ⟨h, hl⟩
theorem expo_hd {Γ : List Ty} (hc : okc Γ) : ∀ (f : Nat) (S : Ty), ok Γ.length S = true → lv S ≤ f → hd (expo Γ f S) < 16
  | 0, S, h, hl => by
    unfold lv at hl
    show hd S < 16
    omega
  | f + 1, S, h, hl => by
    show hd (if 16 ≤ hd S then expo Γ f (exps Γ S) else S) < 16
    by_cases c : 16 ≤ hd S
    · rw [if_pos c]
      obtain ⟨k, hk, rfl⟩ := hd_is_var h c
      rw [exps_var]
      rw [lv_var] at hl
      have := lv_exps hc hk
      exact expo_hd hc f _ (ok_expose hc hk) (by omega)
    · rw [if_neg c]; omega
def tbd (a : Sum Nat Ty) (f : Ty → Sum Nat Ty) : Sum Nat Ty := match a with
  | .inl q => .inl q
  | .inr A => f A
def szt (p : Nat) (A : Ty) : Sum Nat Ty := if (flat A).length ≤ 16 then .inr A else .inl p
def dlk : List (Nat × Ty × Nat) → Nat → Option (Ty × Nat)
  | [], _ => none
  | a :: r, m => if a.1 = m then some a.2 else dlk r m
/-- application, for a type, selection, choice: the rules -/
def tyA (Γ : List Ty) (F T : Ty) : Option Ty := if hd F = 1 ∧ bel Γ T (k1 F) = true then some (k2 F) else none
def tyI (Γ : List Ty) (F A : Ty) : Option Ty := if hd F = 2 ∧ bel Γ A (k1 F) = true then some (sbt Γ.length A 0 (k2 F)) else none
def tyD (m : Nat) (F : Ty) : Option Ty := if (8 ≤ hd F ∧ hd F < 16) ∧ bit (hd F - 8) m = true then some (pt F m) else none
def tyO (p : Nat) : Option Ty → Sum Nat Ty
  | none => .inl p
  | some A => szt p A
/-- the type of a term, or the place that breaks a rule first -/
def tyF : Nat → Ty → List Ty → List (Nat × Ty × Nat) → Sum Nat Ty
  | 0, t, _, _ => .inl (nPl t)
  | f + 1, t, Γ, Δ =>
    if nKd t = 5 then tyO (nPl t) ((dlk Δ (nMk t)).map (fun a => lft a.2 (Γ.length - a.2) a.1))
    else if nKd t = 6 then tbd (tyF f (nY t) Γ ((nPl t, nX t, Γ.length) :: Δ)) (fun B => szt (nPl t) (tFun (nX t) B))
    else if nKd t = 7 then tbd (tyF f (nX t) Γ Δ) (fun S => tbd (tyF f (nY t) Γ Δ) (fun T => tyO (nPl t) (tyA Γ (expo Γ Γ.length S) T)))
    else if nKd t = 8 then tbd (tyF f (nY t) (nX t :: Γ) Δ) (fun B => szt (nPl t) (tAll (nX t) B))
    else if nKd t = 9 then tbd (tyF f (nX t) Γ Δ) (fun S => tyO (nPl t) (tyI Γ (expo Γ Γ.length S) (nY t)))
    else if nKd t = 10 then tbd (if bit (nMk t) 0 = true then tyF f (nX t) Γ Δ else .inr .nil) (fun A => tbd (if bit (nMk t) 1 = true then tyF f (nY t) Γ Δ else .inr .nil) (fun B => tbd (if bit (nMk t) 2 = true then tyF f (nZ t) Γ Δ else .inr .nil) (fun C => szt (nPl t) (tRec (nMk t) A B C))))
    else if nKd t = 11 then tbd (tyF f (nX t) Γ Δ) (fun S => tyO (nPl t) (tyD (nMk t) (expo Γ Γ.length S)))
    else tbd (tyF f (nX t) Γ Δ) (fun S => tbd (tyF f (nY t) Γ Δ) (fun T => tyO (nPl t) (cmu 0 Γ S T)))
/-- a term in order: D type variables are open, sc: the places of the functions around -/
def TWf : Nat → Nat → List Nat → Ty → Prop
  | 0, _, _, _ => False
  | f + 1, D, sc, t => ((5 ≤ nKd t ∧ nKd t ≤ 12) ∧ t = mN (nPl t) (nKd t) (nMk t) (nX t) (nY t) (nZ t) ∧ (∀ g, g < 3 → sk (nKd t) (nMk t) g = 0 → nP t g = .nil) ∧ ∀ q ∈ sc, q < nPl t) ∧ (nKd t = 5 → nMk t ∈ sc) ∧ (nKd t = 6 → nMk t = D ∧ ok D (nX t) = true ∧ (flat (nX t)).length ≤ 16 ∧ TWf f D (nPl t :: sc) (nY t)) ∧ (nKd t = 7 ∨ nKd t = 12 → TWf f D sc (nX t) ∧ TWf f D sc (nY t)) ∧ (nKd t = 8 → ok D (nX t) = true ∧ (flat (nX t)).length ≤ 16 ∧ TWf f (D + 1) sc (nY t)) ∧ (nKd t = 9 → TWf f D sc (nX t) ∧ ok D (nY t) = true ∧ (flat (nY t)).length ≤ 16) ∧ (nKd t = 10 → nMk t < 8 ∧ ∀ g, g < 3 → bit (nMk t) g = true → TWf f D sc (nP t g)) ∧ (nKd t = 11 → nMk t < 3 ∧ TWf f D sc (nX t)) ∧ (nKd t = 12 → nMk t < 2)
/-- the contexts are in order -/
def TE (Γ : List Ty) (Δ : List (Nat × Ty × Nat)) : Prop := okc Γ ∧ szc 16 Γ ∧ ∀ a ∈ Δ, a.2.2 ≤ Γ.length ∧ ok a.2.2 a.2.1 = true ∧ (flat a.2.1).length ≤ 16
theorem dlk_mem : ∀ {Δ : List (Nat × Ty × Nat)} {m : Nat} {a : Ty × Nat}, dlk Δ m = some a → (m, a) ∈ Δ
  | [], _, _, h => by cases h
  | b :: r, m, a, h => by
    have h : (if b.1 = m then some b.2 else dlk r m) = some a := h
    by_cases c : b.1 = m
    · rw [if_pos c] at h
      injection h with h
      rw [← h, ← c]
      exact List.mem_cons_self
    · rw [if_neg c] at h
      exact List.mem_cons_of_mem _ (dlk_mem h)
theorem dlk_some : ∀ {Δ : List (Nat × Ty × Nat)} {m : Nat}, m ∈ Δ.map (fun a => a.1) → ∃ a, dlk Δ m = some a
  | [], _, h => by cases h
  | b :: r, m, h => by
    show ∃ a, (if b.1 = m then some b.2 else dlk r m) = some a
    by_cases c : b.1 = m
    · exact ⟨b.2, if_pos c⟩
    · rw [if_neg c]
      rw [List.map_cons] at h
      rcases List.mem_cons.mp h with e | e
      · exact absurd e.symm c
      · exact dlk_some e
theorem szt_in {p : Nat} {A B : Ty} (h : szt p A = .inr B) : A = B ∧ (flat B).length ≤ 16 := by
  unfold szt at h
  by_cases c : (flat A).length ≤ 16
  · rw [if_pos c] at h
    injection h with h
    subst h
    exact ⟨rfl, c⟩
  · rw [if_neg c] at h; cases h
theorem tyO_in {p : Nat} {o : Option Ty} {B : Ty} (h : tyO p o = .inr B) : o = some B ∧ (flat B).length ≤ 16 := by
  cases o with
  | none => cases h
  | some A =>
    obtain ⟨e, l⟩ := szt_in h
    subst e
    exact ⟨rfl, l⟩
theorem tbd_in {a : Sum Nat Ty} {f : Ty → Sum Nat Ty} {B : Ty} (h : tbd a f = .inr B) : ∃ A, a = .inr A ∧ f A = .inr B := by
  cases a with
  | inl q => cases h
  | inr A => exact ⟨A, rfl, h⟩
theorem okc_cons {A : Ty} {Γ : List Ty} (h : okc Γ) (hA : ok Γ.length A = true) : okc (A :: Γ) := ⟨hA, h⟩
theorem TE.lam {Γ : List Ty} {Δ : List (Nat × Ty × Nat)} {p : Nat} {A : Ty} (h : TE Γ Δ) (hA : ok Γ.length A = true) (hl : (flat A).length ≤ 16) : TE Γ ((p, A, Γ.length) :: Δ) := by
  refine ⟨h.1, h.2.1, fun a ha => ?_⟩
  rcases List.mem_cons.mp ha with e | e
  · rw [e]; exact ⟨Nat.le_refl _, hA, hl⟩
  · exact h.2.2 a e
theorem TE.all {Γ : List Ty} {Δ : List (Nat × Ty × Nat)} {A : Ty} (h : TE Γ Δ) (hA : ok Γ.length A = true) (hl : (flat A).length ≤ 16) : TE (A :: Γ) Δ := by
  refine ⟨okc_cons h.1 hA, fun k hk => ?_, fun a ha => ?_⟩
  · show (flat (if k = Γ.length then A else bnd Γ k)).length ≤ 16
    rw [List.length_cons] at hk
    by_cases c : k = Γ.length
    · rw [if_pos c]; exact hl
    · rw [if_neg c]; exact h.2.1 k (by omega)
  · have := h.2.2 a ha
    exact ⟨by rw [List.length_cons]; omega, this.2⟩
/-- what is found is a type -/
theorem tyF_ok : ∀ (f : Nat) (t : Ty) (Γ : List Ty) (Δ : List (Nat × Ty × Nat)) (A : Ty), TWf f Γ.length (Δ.map (fun a => a.1)) t → TE Γ Δ → tyF f t Γ Δ = .inr A → ok Γ.length A = true ∧ (flat A).length ≤ 16
  | 0, _, _, _, _, h, _, _ => h.elim
  | f + 1, t, Γ, Δ, A, ⟨w0, w5, w6, w7, w8, w9, w10, w11, w12⟩, he, h => by
    have ih := fun t' Γ' Δ' A' => tyF_ok f t' Γ' Δ' A'
    unfold tyF at h
    by_cases c5 : nKd t = 5
    · rw [if_pos c5] at h
      obtain ⟨e, l⟩ := tyO_in h
      obtain ⟨a, ha⟩ := dlk_some (w5 c5)
      rw [ha] at e
      injection e with e
      obtain ⟨e1, e2, e3⟩ := he.2.2 _ (dlk_mem ha)
      have e1 : a.2 ≤ Γ.length := e1
      refine ⟨?_, l⟩
      rw [← e]
      have := ok_lft a.2 (Γ.length - a.2) a.1 0 e2
      rwa [show a.2 + (Γ.length - a.2) + 0 = Γ.length by omega] at this
    rw [if_neg c5] at h
    by_cases c6 : nKd t = 6
    · rw [if_pos c6] at h
      obtain ⟨B, hB, h⟩ := tbd_in h
      obtain ⟨-, x1, x2, x3⟩ := w6 c6
      obtain ⟨b1, -⟩ := ih (nY t) Γ ((nPl t, nX t, Γ.length) :: Δ) B x3 (he.lam x1 x2) hB
      obtain ⟨e, l⟩ := szt_in h
      subst e
      exact ⟨ok_fun.mpr ⟨x1, b1⟩, l⟩
    rw [if_neg c6] at h
    by_cases c7 : nKd t = 7
    · rw [if_pos c7] at h
      obtain ⟨S, hS, h⟩ := tbd_in h
      obtain ⟨T, hT, h⟩ := tbd_in h
      obtain ⟨e, l⟩ := tyO_in h
      obtain ⟨x1, x2⟩ := w7 (Or.inl c7)
      obtain ⟨s1, s2⟩ := ih _ _ _ _ x1 he hS
      obtain ⟨o1, o2⟩ := expo_ok he.1 he.2.1 Γ.length S s1 s2
      unfold tyA at e
      by_cases c : hd (expo Γ Γ.length S) = 1 ∧ bel Γ T (k1 (expo Γ Γ.length S)) = true
      · rw [if_pos c] at e
        injection e with e
        subst e
        obtain ⟨a, b, e2, ha, hb⟩ := hd_is_fun o1 c.1
        rw [e2]
        refine ⟨hb, ?_⟩
        rw [e2] at l
        exact l
      · rw [if_neg c] at e; cases e
    rw [if_neg c7] at h
    by_cases c8 : nKd t = 8
    · rw [if_pos c8] at h
      obtain ⟨B, hB, h⟩ := tbd_in h
      obtain ⟨x1, x2, x3⟩ := w8 c8
      obtain ⟨b1, -⟩ := ih (nY t) (nX t :: Γ) Δ B x3 (he.all x1 x2) hB
      obtain ⟨e, l⟩ := szt_in h
      subst e
      exact ⟨ok_all.mpr ⟨x1, b1⟩, l⟩
    rw [if_neg c8] at h
    by_cases c9 : nKd t = 9
    · rw [if_pos c9] at h
      obtain ⟨S, hS, h⟩ := tbd_in h
      obtain ⟨e, l⟩ := tyO_in h
      obtain ⟨x1, x2, x3⟩ := w9 c9
      obtain ⟨s1, s2⟩ := ih _ _ _ _ x1 he hS
      obtain ⟨o1, o2⟩ := expo_ok he.1 he.2.1 Γ.length S s1 s2
      unfold tyI at e
      by_cases c : hd (expo Γ Γ.length S) = 2 ∧ bel Γ (nY t) (k1 (expo Γ Γ.length S)) = true
      · rw [if_pos c] at e
        injection e with e
        subst e
        obtain ⟨a, b, e2, ha, hb⟩ := hd_is_all o1 c.1
        refine ⟨?_, l⟩
        rw [e2]
        exact ok_sbt x2 (flat b).length b 0 (Nat.le_refl _) hb
      · rw [if_neg c] at e; cases e
    rw [if_neg c9] at h
    by_cases c10 : nKd t = 10
    · rw [if_pos c10] at h
      obtain ⟨A1, hA1, h⟩ := tbd_in h
      obtain ⟨A2, hA2, h⟩ := tbd_in h
      obtain ⟨A3, hA3, h⟩ := tbd_in h
      obtain ⟨e, l⟩ := szt_in h
      obtain ⟨m8, x1⟩ := w10 c10
      subst e
      have key : ∀ (g : Nat) (B : Ty), g < 3 → (if bit (nMk t) g = true then tyF f (nP t g) Γ Δ else .inr .nil) = .inr B → okl Γ.length (nMk t) g B := by
        intro g B hg hB
        unfold okl
        by_cases c : bit (nMk t) g = true
        · rw [if_pos c] at hB ⊢
          exact (ih _ _ _ _ (x1 g hg c) he hB).1
        · rw [if_neg c] at hB ⊢
          injection hB with hB
          exact hB.symm
      exact ⟨(ok_rec m8).mpr ⟨key 0 A1 (by decide) hA1, key 1 A2 (by decide) hA2, key 2 A3 (by decide) hA3⟩, l⟩
    rw [if_neg c10] at h
    by_cases c11 : nKd t = 11
    · rw [if_pos c11] at h
      obtain ⟨S, hS, h⟩ := tbd_in h
      obtain ⟨e, l⟩ := tyO_in h
      obtain ⟨m3, x1⟩ := w11 c11
      obtain ⟨s1, s2⟩ := ih _ _ _ _ x1 he hS
      obtain ⟨o1, o2⟩ := expo_ok he.1 he.2.1 Γ.length S s1 s2
      unfold tyD at e
      by_cases c : (8 ≤ hd (expo Γ Γ.length S) ∧ hd (expo Γ Γ.length S) < 16) ∧ bit (hd (expo Γ Γ.length S) - 8) (nMk t) = true
      · rw [if_pos c] at e
        injection e with e
        subst e
        refine ⟨?_, l⟩
        rcases ok_cases o1 with q | ⟨k, hk, q⟩ | ⟨a, b, q, ha, hb⟩ | ⟨a, b, q, ha, hb⟩ | ⟨m, x, y, z, hm, q, h0, h1, h2⟩
        · rw [q] at c; exact absurd c.1.1 (by decide)
        · rw [q, hd_var] at c; exact absurd c.1.2 (by omega)
        · rw [q, hd_fun] at c; exact absurd c.1.1 (by decide)
        · rw [q, hd_all] at c; exact absurd c.1.1 (by decide)
        · rw [q] at c ⊢
          rw [hd_rec, show 8 + m - 8 = m by omega] at c
          have hb := bit_iff.mp c.2
          rcases (show nMk t = 0 ∨ nMk t = 1 ∨ nMk t = 2 by omega) with e | e | e
          · rw [e] at hb ⊢; rw [(pt_rec hm x y z).1]; exact okl_on h0 hb
          · rw [e] at hb ⊢; rw [(pt_rec hm x y z).2.1]; exact okl_on h1 hb
          · rw [e] at hb ⊢; rw [(pt_rec hm x y z).2.2]; exact okl_on h2 hb
      · rw [if_neg c] at e; cases e
    rw [if_neg c11] at h
    obtain ⟨S, hS, h⟩ := tbd_in h
    obtain ⟨T, hT, h⟩ := tbd_in h
    obtain ⟨e, l⟩ := tyO_in h
    obtain ⟨x1, x2⟩ := w7 (Or.inr (by omega))
    obtain ⟨s1, s2⟩ := ih _ _ _ _ x1 he hS
    obtain ⟨t1, t2⟩ := ih _ _ _ _ x2 he hT
    exact ⟨(cmu_ok ⟨⟨he.1, s1, t1⟩, he.2.1, s2, t2⟩ e).1, l⟩
