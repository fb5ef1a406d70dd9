/-! READING: what is read is a type. -/
def Srt {α : Type} : Nat → List (Nat × α) → Prop
  | _, [] => True
  | l, a :: r => l ≤ a.1 ∧ a.1 < 3 ∧ Srt (a.1 + 1) r
theorem srt_cases {α : Type} {r : List (Nat × α)} (h : Srt 0 r) : r = [] ∨ (∃ a, r = [(0, a)]) ∨ (∃ a, r = [(1, a)]) ∨ (∃ a, r = [(2, a)]) ∨ (∃ a b, r = [(0, a), (1, b)]) ∨ (∃ a b, r = [(0, a), (2, b)]) ∨ (∃ a b, r = [(1, a), (2, b)]) ∨ ∃ a b c, r = [(0, a), (1, b), (2, c)] := by
  match r, h with
  | [], _ => exact Or.inl rfl
  | [(k, a)], ⟨h1, h2, _⟩ =>
    have h2 : k < 3 := h2
    rcases (show k = 0 ∨ k = 1 ∨ k = 2 by omega) with rfl | rfl | rfl
    · exact Or.inr (Or.inl ⟨a, rfl⟩)
    · exact Or.inr (Or.inr (Or.inl ⟨a, rfl⟩))
    · exact Or.inr (Or.inr (Or.inr (Or.inl ⟨a, rfl⟩)))
  | [(k, a), (k', b)], ⟨h1, h2, h3, h4, _⟩ =>
    have h2 : k < 3 := h2
    have h3 : k + 1 ≤ k' := h3
    have h4 : k' < 3 := h4
    rcases (show (k = 0 ∧ k' = 1) ∨ (k = 0 ∧ k' = 2) ∨ (k = 1 ∧ k' = 2) by omega) with ⟨rfl, rfl⟩ | ⟨rfl, rfl⟩ | ⟨rfl, rfl⟩
    · exact Or.inr (Or.inr (Or.inr (Or.inr (Or.inl ⟨a, b, rfl⟩))))
    · exact Or.inr (Or.inr (Or.inr (Or.inr (Or.inr (Or.inl ⟨a, b, rfl⟩)))))
    · exact Or.inr (Or.inr (Or.inr (Or.inr (Or.inr (Or.inr (Or.inl ⟨a, b, rfl⟩))))))
  | [(k, a), (k', b), (k'', c)], ⟨h1, h2, h3, h4, h5, h6, _⟩ =>
    have h2 : k < 3 := h2
    have h3 : k + 1 ≤ k' := h3
    have h5 : k' + 1 ≤ k'' := h5
    have h6 : k'' < 3 := h6
    obtain ⟨rfl, rfl, rfl⟩ : k = 0 ∧ k' = 1 ∧ k'' = 2 := by omega
    exact Or.inr (Or.inr (Or.inr (Or.inr (Or.inr (Or.inr (Or.inr ⟨a, b, c, rfl⟩))))))
  | (k, a) :: (k', b) :: (k'', c) :: (k3, e) :: r, ⟨h1, h2, h3, h4, h5, h6, h7, h8, _⟩ =>
    exfalso
    have h3 : k + 1 ≤ k' := h3
    have h5 : k' + 1 ≤ k'' := h5
    have h7 : k'' + 1 ≤ k3 := h7
    have h8 : k3 < 3 := h8
    omega
def fsz : List (Nat × (Ty × Bool)) → Nat
  | [] => 0
  | a :: r => (flat a.2.1).length + fsz r
theorem msk_bits {α : Type} {r : List (Nat × α)} (h : Srt 0 r) : msk r < 8 ∧ ∀ g, g < 3 → (bit (msk r) g = true ↔ (lk r g).isSome = true) := by
  rcases srt_cases h with rfl | ⟨a, rfl⟩ | ⟨a, rfl⟩ | ⟨a, rfl⟩ | ⟨a, b, rfl⟩ | ⟨a, b, rfl⟩ | ⟨a, b, rfl⟩ | ⟨a, b, c, rfl⟩ <;> refine ⟨by simp [msk], fun g hg => ?_⟩ <;> rcases (show g = 0 ∨ g = 1 ∨ g = 2 by omega) with rfl | rfl | rfl <;> simp [msk, lk, bit]
theorem fsz_is {r : List (Nat × (Ty × Bool))} (h : Srt 0 r) : fsz r = (flat (lkT r 0)).length + ((flat (lkT r 1)).length + (flat (lkT r 2)).length) := by
  rcases srt_cases h with rfl | ⟨a, rfl⟩ | ⟨a, rfl⟩ | ⟨a, rfl⟩ | ⟨a, b, rfl⟩ | ⟨a, b, rfl⟩ | ⟨a, b, rfl⟩ | ⟨a, b, c, rfl⟩ <;> simp [fsz, lkT, lk, flat]
theorem lk_mem {α : Type} : ∀ {r : List (Nat × α)} {g : Nat} {a : α}, lk r g = some a → (g, a) ∈ r
  | [], _, _, h => by cases h
  | b :: r, g, a, h => by
    have h : (if b.1 = g then some b.2 else lk r g) = some a := h
    by_cases c : b.1 = g
    · rw [if_pos c] at h
      injection h with h3
      obtain ⟨b1, b2⟩ := b
      have c : b1 = g := c
      have h3 : b2 = a := h3
      subst c
      subst h3
      exact List.mem_cons_self
    · rw [if_neg c] at h
      exact List.mem_cons_of_mem _ (lk_mem h)
theorem mkR_ok {D : Nat} {r : List (Nat × (Ty × Bool))} (h : Srt 0 r) (ho : ∀ a ∈ r, ok D a.2.1 = true) : ok D (mkR r).1 = true := by
  have hm := msk_bits h
  refine (ok_rec hm.1).mpr ?_
  have key : ∀ g, g < 3 → okl D (msk r) g (lkT r g) := by
    intro g hg
    unfold okl lkT
    have := hm.2 g hg
    cases e : lk r g with
    | none =>
      rw [e] at this
      rw [if_neg (fun x => by have := this.mp x; cases this)]
    | some a =>
      rw [e] at this
      rw [if_pos (this.mpr rfl)]
      exact ho _ (lk_mem e)
  exact ⟨key 0 (by decide), key 1 (by decide), key 2 (by decide)⟩
theorem mkR_len {r : List (Nat × (Ty × Bool))} (h : Srt 0 r) : (flat (mkR r).1).length = 1 + fsz r := by
  show (flat (tRec (msk r) (lkT r 0) (lkT r 1) (lkT r 2))).length = _
  rw [flat_rec, List.length_cons, List.length_append, List.length_append, fsz_is h]; omega
theorem allc_mem : ∀ {r : List (Nat × (Ty × Bool))}, allc r = true → ∀ a ∈ r, a.2.2 = true
  | [], _, a, ha => by cases ha
  | b :: r, h, a, ha => by
    have h : (b.2.2 && allc r) = true := h
    rw [Bool.and_eq_true] at h
    rcases List.mem_cons.mp ha with e | e
    · rw [e]; exact h.1
    · exact allc_mem h.2 a e
theorem thn_eq {α β : Type} {a : Nat × Option α} {f : α → Nat → Nat × Option β} {q : Nat} {b : β} (h : thn a f = (q, some b)) : ∃ t q', a = (q', some t) ∧ f t q' = (q, some b) := by
  obtain ⟨q', o⟩ := a
  cases o with
  | none => exact absurd h (fun e => by cases e)
  | some t => exact ⟨t, q', rfl, h⟩
/-- what holds of each part read, and how far it goes -/
theorem pFs_all {α : Type} {tx : Nat → Int} {ln : Nat} {pr : Nat → Nat × Option α} {cl : Int} {P : α → Prop} {sz : α → Nat} (hpr : ∀ p q a, pr p = (q, some a) → P a ∧ sz a + p ≤ q) : ∀ (k l p q : Nat) (r : List (Nat × α)), pFs tx ln pr cl k l p = (q, some r) → Srt l r ∧ (∀ a ∈ r, P a.2) ∧ (r.map (fun a => sz a.2)).sum + r.length + p ≤ q
  | 0, l, p, q, r, h => by cases h
  | k + 1, l, p, q, r, h => by
    have h : (if chr tx ln p < 120 + (l : Int) ∨ 123 ≤ chr tx ln p then (p, none) else
      thn (pr (p + 1)) (fun t q => if chr tx ln q = cl then (q + 1, some [((chr tx ln p - 120).toNat, t)]) else if chr tx ln p = 122 ∨ chr tx ln q ≠ 44 then (q, none) else
      thn (pFs tx ln pr cl k ((chr tx ln p - 120).toNat + 1) (q + 1)) (fun r q' => (q', some (((chr tx ln p - 120).toNat, t) :: r))))) = (q, some r) := h
    by_cases c : chr tx ln p < 120 + (l : Int) ∨ 123 ≤ chr tx ln p
    · rw [if_pos c] at h; cases h
    rw [if_neg c] at h
    obtain ⟨t, q1, e1, e2⟩ := thn_eq h
    obtain ⟨hP, hs⟩ := hpr _ _ _ e1
    by_cases c2 : chr tx ln q1 = cl
    · rw [if_pos c2] at e2
      injection e2 with e2 e3
      injection e3 with e3
      subst e2 e3
      refine ⟨⟨by show l ≤ (chr tx ln p - 120).toNat; omega, by show (chr tx ln p - 120).toNat < 3; omega, trivial⟩, fun a ha => ?_, ?_⟩
      · rw [List.mem_singleton] at ha; rw [ha]; exact hP
      · simp; omega
    · rw [if_neg c2] at e2
      by_cases c3 : chr tx ln p = 122 ∨ chr tx ln q1 ≠ 44
      · rw [if_pos c3] at e2; cases e2
      rw [if_neg c3] at e2
      obtain ⟨r', q2, e4, e5⟩ := thn_eq e2
      injection e5 with e5 e6
      injection e6 with e6
      subst e5 e6
      obtain ⟨i1, i2, i3⟩ := pFs_all hpr k _ _ _ _ e4
      refine ⟨⟨by show l ≤ (chr tx ln p - 120).toNat; omega, by show (chr tx ln p - 120).toNat < 3; omega, i1⟩, fun a ha => ?_, ?_⟩
      · rcases List.mem_cons.mp ha with e | e
        · rw [e]; exact hP
        · exact i2 a e
      · simp only [List.map_cons, List.sum_cons, List.length_cons]; omega
theorem fsz_sum : ∀ r : List (Nat × (Ty × Bool)), fsz r = (r.map (fun a => (flat a.2.1).length)).sum
  | [] => rfl
  | a :: r => by
    show (flat a.2.1).length + fsz r = _
    rw [fsz_sum r, List.map_cons, List.sum_cons]
theorem Srt.down {α : Type} {r : List (Nat × α)} {l : Nat} (h : Srt l r) : Srt 0 r := by
  match r, h with
  | [], _ => trivial
  | a :: r, ⟨h1, h2, h3⟩ => exact ⟨Nat.zero_le _, h2, h3⟩
/-- what is read is a type; closed if every name was open -/
def PTok (D : Nat) (p q : Nat) (a : Ty × Bool) : Prop := ok (D + 1) a.1 = true ∧ (a.2 = true → ok D a.1 = true) ∧ (flat a.1).length + p ≤ q
theorem pT_ok {tx : Nat → Int} {ln : Nat} : ∀ (r : Nat) (e : List Int) (p q : Nat) (a : Ty × Bool), pT tx ln r e p = (q, some a) → PTok e.length p q a := by
  have hvar : ∀ (e : List Int) (p q : Nat) (c : Int) (a : Ty × Bool), ((p + 1, some (tVar ((lvl e c).getD 0), (lvl e c).isSome)) : Nat × Option (Ty × Bool)) = (q, some a) → PTok e.length p q a := by
    intro e p q c a h
    injection h with h1 h2
    injection h2 with h2
    subst h1 h2
    cases x : lvl e c with
    | none => exact ⟨ok_var (by show 0 < _; omega), fun y => (by cases y), by show 1 + p ≤ p + 1; omega⟩
    | some k =>
      have := lvl_lt x
      exact ⟨ok_var (by show k < _; omega), fun _ => ok_var this, by show 1 + p ≤ p + 1; omega⟩
  have htop : ∀ (e : List Int) (p q : Nat) (a : Ty × Bool), ((p + 1, some (tTop, true)) : Nat × Option (Ty × Bool)) = (q, some a) → PTok e.length p q a := by
    intro e p q a h
    injection h with h1 h2
    injection h2 with h2
    subst h1 h2
    exact ⟨ok_top _, fun _ => ok_top _, by show 1 + p ≤ p + 1; omega⟩
  have hemp : ∀ (e : List Int) (p q : Nat) (a : Ty × Bool), ((p + 2, some (mkR [])) : Nat × Option (Ty × Bool)) = (q, some a) → PTok e.length p q a := by
    intro e p q a h
    injection h with h1 h2
    injection h2 with h2
    subst h1 h2
    exact ⟨mkR_ok (r := []) trivial (fun a ha => (by cases ha)), fun _ => mkR_ok (r := []) trivial (fun a ha => (by cases ha)), by show 1 + p ≤ p + 2; omega⟩
  intro r
  induction r with
  | zero =>
    intro e p q a h
    have h : (if chr tx ln p = 84 then (p + 1, some (tTop, true)) else if 80 ≤ chr tx ln p ∧ chr tx ln p ≤ 83 then (p + 1, some (tVar ((lvl e (chr tx ln p)).getD 0), (lvl e (chr tx ln p)).isSome)) else if chr tx ln p = 91 then (if chr tx ln (p + 1) = 93 then (p + 2, some (mkR [])) else (p + 1, none)) else (p, none)) = (q, some a) := h
    by_cases c1 : chr tx ln p = 84
    · rw [if_pos c1] at h; exact htop e p q a h
    rw [if_neg c1] at h
    by_cases c2 : 80 ≤ chr tx ln p ∧ chr tx ln p ≤ 83
    · rw [if_pos c2] at h; exact hvar e p q _ a h
    rw [if_neg c2] at h
    by_cases c3 : chr tx ln p = 91
    · rw [if_pos c3] at h
      by_cases c4 : chr tx ln (p + 1) = 93
      · rw [if_pos c4] at h; exact hemp e p q a h
      · rw [if_neg c4] at h; cases h
    rw [if_neg c3] at h; cases h
  | succ r ih =>
    intro e p q a h
    unfold pT at h
    by_cases c1 : chr tx ln p = 84
    · rw [if_pos c1] at h; exact htop e p q a h
    rw [if_neg c1] at h
    by_cases c2 : 80 ≤ chr tx ln p ∧ chr tx ln p ≤ 83
    · rw [if_pos c2] at h; exact hvar e p q _ a h
    rw [if_neg c2] at h
    by_cases c3 : chr tx ln p = 91
    · rw [if_pos c3] at h
      by_cases c4 : chr tx ln (p + 1) = 93
      · rw [if_pos c4] at h; exact hemp e p q a h
      · rw [if_neg c4] at h
        obtain ⟨l, q1, e1, e2⟩ := thn_eq h
        injection e2 with e2 e3
        injection e3 with e3
        subst e2 e3
        obtain ⟨i1, i2, i3⟩ := pFs_all (P := fun a => ok (e.length + 1) a.1 = true ∧ (a.2 = true → ok e.length a.1 = true)) (sz := fun a => (flat a.1).length) (fun p q a hh => ⟨⟨(ih e p q a hh).1, (ih e p q a hh).2.1⟩, (ih e p q a hh).2.2⟩) 3 0 _ _ _ e1
        refine ⟨mkR_ok i1 (fun a ha => (i2 a ha).1), fun hc => mkR_ok i1 (fun a ha => (i2 a ha).2 (allc_mem hc a ha)), ?_⟩
        rw [mkR_len i1, fsz_sum]; omega
    rw [if_neg c3] at h
    by_cases c5 : chr tx ln p = 40
    · rw [if_pos c5] at h
      obtain ⟨x, q1, e1, e2⟩ := thn_eq h
      obtain ⟨x1, x2, x3⟩ := ih _ _ _ _ e1
      by_cases c6 : chr tx ln q1 = 62
      · rw [if_pos c6] at e2
        obtain ⟨y, q2, e3, e4⟩ := thn_eq e2
        obtain ⟨y1, y2, y3⟩ := ih _ _ _ _ e3
        by_cases c7 : chr tx ln q2 = 41
        · rw [if_pos c7] at e4
          injection e4 with e4 e5
          injection e5 with e5
          subst e4 e5
          refine ⟨ok_fun.mpr ⟨x1, y1⟩, fun hc => ?_, ?_⟩
          · have hc : (x.2 && y.2) = true := hc
            rw [Bool.and_eq_true] at hc
            exact ok_fun.mpr ⟨x2 hc.1, y2 hc.2⟩
          · show (flat (tFun x.1 y.1)).length + p ≤ q2 + 1
            rw [flat_fun, List.length_cons, List.length_append]; omega
        · rw [if_neg c7] at e4; cases e4
      · rw [if_neg c6] at e2; cases e2
    rw [if_neg c5] at h
    by_cases c8 : chr tx ln p = 60
    · rw [if_pos c8] at h
      by_cases c9 : 80 ≤ chr tx ln (p + 1) ∧ chr tx ln (p + 1) ≤ 83
      · rw [if_pos c9] at h
        by_cases c10 : chr tx ln (p + 2) = 58
        · rw [if_pos c10] at h
          obtain ⟨x, q1, e1, e2⟩ := thn_eq h
          obtain ⟨x1, x2, x3⟩ := ih _ _ _ _ e1
          by_cases c6 : chr tx ln q1 = 62
          · rw [if_pos c6] at e2
            obtain ⟨y, q2, e3, e4⟩ := thn_eq e2
            obtain ⟨y1, y2, y3⟩ := ih _ _ _ _ e3
            injection e4 with e4 e5
            injection e5 with e5
            subst e4 e5
            refine ⟨ok_all.mpr ⟨x1, y1⟩, fun hc => ?_, ?_⟩
            · have hc : (x.2 && y.2) = true := hc
              rw [Bool.and_eq_true] at hc
              exact ok_all.mpr ⟨x2 hc.1, y2 hc.2⟩
            · show (flat (tAll x.1 y.1)).length + p ≤ q2
              rw [flat_all, List.length_cons, List.length_append]; omega
          · rw [if_neg c6] at e2; cases e2
        · rw [if_neg c10] at h; cases h
      · rw [if_neg c9] at h; cases h
    rw [if_neg c8] at h; cases h
