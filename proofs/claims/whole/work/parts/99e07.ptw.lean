/-! READING: what is read is a term in order. -/
/-- the places of the functions around -/
def lpl : List (Nat × Int × Nat) → List Nat
  | [] => []
  | a :: e => if a.1 = 1 then a.2.2 :: lpl e else lpl e
theorem bnr_lpl : ∀ {e : List (Nat × Int × Nat)} {c : Int} {m : Nat}, bnr e c = some m → m ∈ lpl e
  | [], _, _, h => by cases h
  | a :: e, c, m, h => by
    have h : (if a.1 = 1 ∧ a.2.1 = c then some a.2.2 else bnr e c) = some m := h
    show m ∈ (if a.1 = 1 then a.2.2 :: lpl e else lpl e)
    by_cases k : a.1 = 1 ∧ a.2.1 = c
    · rw [if_pos k] at h
      injection h with h
      rw [if_pos k.1, h]
      exact List.mem_cons_self
    · rw [if_neg k] at h
      have := bnr_lpl h
      by_cases k1 : a.1 = 1
      · rw [if_pos k1]; exact List.mem_cons_of_mem _ this
      · rw [if_neg k1]; exact this
section PmE10
variable {tx : Nat → Int} {ln : Nat}
theorem gud_ok {D p q : Nat} {a : Ty × Bool} (h : PTok D p q a) (hg : gud a = true) : ok D a.1 = true ∧ (flat a.1).length ≤ 16 := by
  unfold gud at hg
  rw [Bool.and_eq_true, decide_eq_true_iff] at hg
  exact ⟨h.2.1 hg.1, hg.2⟩
theorem TWf.word {f D p m : Nat} {sc : List Nat} (hp : ∀ q ∈ sc, q < p) (h : m ∈ sc) : TWf (f + 1) D sc (mN p 5 m .nil .nil .nil) :=
  ⟨⟨⟨Nat.le_refl _, by show 5 ≤ 12; decide⟩, rfl, fun g hg h => by rcases (show g = 0 ∨ g = 1 ∨ g = 2 by omega) with rfl | rfl | rfl <;> first | rfl | exact absurd (show (1 : Nat) = 0 from h) (by decide) | exact absurd (show (2 : Nat) = 0 from h) (by decide), hp⟩, fun _ => h, fun e => absurd (show 5 = 6 from e) (by decide), fun e => absurd (show 5 = 7 ∨ 5 = 12 from e) (by decide), fun e => absurd (show 5 = 8 from e) (by decide), fun e => absurd (show 5 = 9 from e) (by decide), fun e => absurd (show 5 = 10 from e) (by decide), fun e => absurd (show 5 = 11 from e) (by decide), fun e => absurd (show 5 = 12 from e) (by decide)⟩
theorem TWf.lam {f D p : Nat} {sc : List Nat} {x y : Ty} (hp : ∀ q ∈ sc, q < p) (h1 : ok D x = true) (h2 : (flat x).length ≤ 16) (h3 : TWf f D (p :: sc) y) : TWf (f + 1) D sc (mN p 6 D x y .nil) :=
  ⟨⟨⟨by show 5 ≤ 6; decide, by show 6 ≤ 12; decide⟩, rfl, fun g hg h => by rcases (show g = 0 ∨ g = 1 ∨ g = 2 by omega) with rfl | rfl | rfl <;> first | rfl | exact absurd (show (1 : Nat) = 0 from h) (by decide) | exact absurd (show (2 : Nat) = 0 from h) (by decide), hp⟩, fun e => absurd (show 6 = 5 from e) (by decide), fun _ => ⟨rfl, h1, h2, h3⟩, fun e => absurd (show 6 = 7 ∨ 6 = 12 from e) (by decide), fun e => absurd (show 6 = 8 from e) (by decide), fun e => absurd (show 6 = 9 from e) (by decide), fun e => absurd (show 6 = 10 from e) (by decide), fun e => absurd (show 6 = 11 from e) (by decide), fun e => absurd (show 6 = 12 from e) (by decide)⟩
theorem TWf.app {f D p : Nat} {sc : List Nat} {x y : Ty} (hp : ∀ q ∈ sc, q < p) (h1 : TWf f D sc x) (h2 : TWf f D sc y) : TWf (f + 1) D sc (mN p 7 0 x y .nil) :=
  ⟨⟨⟨by show 5 ≤ 7; decide, by show 7 ≤ 12; decide⟩, rfl, fun g hg h => by rcases (show g = 0 ∨ g = 1 ∨ g = 2 by omega) with rfl | rfl | rfl <;> first | rfl | exact absurd (show (1 : Nat) = 0 from h) (by decide) | exact absurd (show (2 : Nat) = 0 from h) (by decide), hp⟩, fun e => absurd (show 7 = 5 from e) (by decide), fun e => absurd (show 7 = 6 from e) (by decide), fun _ => ⟨h1, h2⟩, fun e => absurd (show 7 = 8 from e) (by decide), fun e => absurd (show 7 = 9 from e) (by decide), fun e => absurd (show 7 = 10 from e) (by decide), fun e => absurd (show 7 = 11 from e) (by decide), fun e => absurd (show 7 = 12 from e) (by decide)⟩
theorem TWf.all {f D p : Nat} {sc : List Nat} {x y : Ty} (hp : ∀ q ∈ sc, q < p) (h1 : ok D x = true) (h2 : (flat x).length ≤ 16) (h3 : TWf f (D + 1) sc y) : TWf (f + 1) D sc (mN p 8 0 x y .nil) :=
  ⟨⟨⟨by show 5 ≤ 8; decide, by show 8 ≤ 12; decide⟩, rfl, fun g hg h => by rcases (show g = 0 ∨ g = 1 ∨ g = 2 by omega) with rfl | rfl | rfl <;> first | rfl | exact absurd (show (1 : Nat) = 0 from h) (by decide) | exact absurd (show (2 : Nat) = 0 from h) (by decide), hp⟩, fun e => absurd (show 8 = 5 from e) (by decide), fun e => absurd (show 8 = 6 from e) (by decide), fun e => absurd (show 8 = 7 ∨ 8 = 12 from e) (by decide), fun _ => ⟨h1, h2, h3⟩, fun e => absurd (show 8 = 9 from e) (by decide), fun e => absurd (show 8 = 10 from e) (by decide), fun e => absurd (show 8 = 11 from e) (by decide), fun e => absurd (show 8 = 12 from e) (by decide)⟩
theorem TWf.att {f D p : Nat} {sc : List Nat} {x y : Ty} (hp : ∀ q ∈ sc, q < p) (h1 : TWf f D sc x) (h2 : ok D y = true) (h3 : (flat y).length ≤ 16) : TWf (f + 1) D sc (mN p 9 0 x y .nil) :=
  ⟨⟨⟨by show 5 ≤ 9; decide, by show 9 ≤ 12; decide⟩, rfl, fun g hg h => by rcases (show g = 0 ∨ g = 1 ∨ g = 2 by omega) with rfl | rfl | rfl <;> first | rfl | exact absurd (show (1 : Nat) = 0 from h) (by decide) | exact absurd (show (2 : Nat) = 0 from h) (by decide), hp⟩, fun e => absurd (show 9 = 5 from e) (by decide), fun e => absurd (show 9 = 6 from e) (by decide), fun e => absurd (show 9 = 7 ∨ 9 = 12 from e) (by decide), fun e => absurd (show 9 = 8 from e) (by decide), fun _ => ⟨h1, h2, h3⟩, fun e => absurd (show 9 = 10 from e) (by decide), fun e => absurd (show 9 = 11 from e) (by decide), fun e => absurd (show 9 = 12 from e) (by decide)⟩
theorem TWf.dot {f D p m : Nat} {sc : List Nat} {x : Ty} (hp : ∀ q ∈ sc, q < p) (h1 : m < 3) (h2 : TWf f D sc x) : TWf (f + 1) D sc (mN p 11 m x .nil .nil) :=
  ⟨⟨⟨by show 5 ≤ 11; decide, by show 11 ≤ 12; decide⟩, rfl, fun g hg h => by rcases (show g = 0 ∨ g = 1 ∨ g = 2 by omega) with rfl | rfl | rfl <;> first | rfl | exact absurd (show (1 : Nat) = 0 from h) (by decide) | exact absurd (show (2 : Nat) = 0 from h) (by decide), hp⟩, fun e => absurd (show 11 = 5 from e) (by decide), fun e => absurd (show 11 = 6 from e) (by decide), fun e => absurd (show 11 = 7 ∨ 11 = 12 from e) (by decide), fun e => absurd (show 11 = 8 from e) (by decide), fun e => absurd (show 11 = 9 from e) (by decide), fun e => absurd (show 11 = 10 from e) (by decide), fun _ => ⟨h1, h2⟩, fun e => absurd (show 11 = 12 from e) (by decide)⟩
theorem TWf.eit {f D p m : Nat} {sc : List Nat} {x y : Ty} (hp : ∀ q ∈ sc, q < p) (h0 : m < 2) (h1 : TWf f D sc x) (h2 : TWf f D sc y) : TWf (f + 1) D sc (mN p 12 m x y .nil) :=
  ⟨⟨⟨by show 5 ≤ 12; decide, by show 12 ≤ 12; decide⟩, rfl, fun g hg h => by rcases (show g = 0 ∨ g = 1 ∨ g = 2 by omega) with rfl | rfl | rfl <;> first | rfl | exact absurd (show (1 : Nat) = 0 from h) (by decide) | exact absurd (show (2 : Nat) = 0 from h) (by decide), hp⟩, fun e => absurd (show 12 = 5 from e) (by decide), fun e => absurd (show 12 = 6 from e) (by decide), fun _ => ⟨h1, h2⟩, fun e => absurd (show 12 = 8 from e) (by decide), fun e => absurd (show 12 = 9 from e) (by decide), fun e => absurd (show 12 = 10 from e) (by decide), fun e => absurd (show 12 = 11 from e) (by decide), fun _ => h0⟩
theorem TWf.rcd {f D p : Nat} {sc : List Nat} {r : List (Nat × (Ty × Bool))} (hp : ∀ q ∈ sc, q < p) (hs : Srt 0 r) (ha : allc r = true) (h : ∀ a ∈ r, a.2.2 = true → TWf f D sc a.2.1) : TWf (f + 1) D sc (mkM p r).1 := by
  have hb := msk_bits hs
  have hnl : ∀ g, g < 3 → sk 10 (msk r) g = 0 → lkT r g = .nil := by
    intro g hg h0
    have e : sk 10 (msk r) g = if bit (msk r) g = true then 1 else 0 := rfl
    rw [e] at h0
    by_cases c : bit (msk r) g = true
    · rw [if_pos c] at h0; cases h0
    · unfold lkT
      cases el : lk r g with
      | none => rfl
      | some a => exact absurd ((hb.2 g hg).mpr (by rw [el]; rfl)) c
  refine ⟨⟨⟨by show 5 ≤ 10; decide, by show 10 ≤ 12; decide⟩, rfl, fun g hg h0 => by rcases (show g = 0 ∨ g = 1 ∨ g = 2 by omega) with rfl | rfl | rfl <;> exact hnl _ (by decide) h0, hp⟩, fun e => absurd (show 10 = 5 from e) (by decide), fun e => absurd (show 10 = 6 from e) (by decide), fun e => absurd (show 10 = 7 ∨ 10 = 12 from e) (by decide), fun e => absurd (show 10 = 8 from e) (by decide), fun e => absurd (show 10 = 9 from e) (by decide), fun _ => ⟨hb.1, fun g hg hbit => ?_⟩, fun e => absurd (show 10 = 11 from e) (by decide), fun e => absurd (show 10 = 12 from e) (by decide)⟩
  have hso := (hb.2 g hg).mp hbit
  have key : TWf f D sc (lkT r g) := by
    unfold lkT
    cases el : lk r g with
    | none => rw [el] at hso; cases hso
    | some a => exact h _ (lk_mem el) (allc_mem ha _ (lk_mem el))
  rcases (show g = 0 ∨ g = 1 ∨ g = 2 by omega) with rfl | rfl | rfl <;> exact key
theorem pFs_lo {α : Type} {pr : Nat → Nat × Option α} {cl : Int} {P : α → Prop} {p0 : Nat} (hpr : ∀ p q a, p0 ≤ p → pr p = (q, some a) → P a ∧ p ≤ q) : ∀ (k l p q : Nat) (r : List (Nat × α)), p0 ≤ p → pFs tx ln pr cl k l p = (q, some r) → ∀ a ∈ r, P a.2
  | 0, l, p, q, r, h0, h => by cases h
  | k + 1, l, p, q, r, h0, h => by
    have h : (if chr tx ln p < 120 + (l : Int) ∨ 123 ≤ chr tx ln p then (p, none) else
      thn (pr (p + 1)) (fun t q => if chr tx ln q = cl then (q + 1, some [((chr tx ln p - 120).toNat, t)]) else if chr tx ln p = 122 ∨ chr tx ln q ≠ 44 then (q, none) else
      thn (pFs tx ln pr cl k ((chr tx ln p - 120).toNat + 1) (q + 1)) (fun r q' => (q', some (((chr tx ln p - 120).toNat, t) :: r))))) = (q, some r) := h
    by_cases c : chr tx ln p < 120 + (l : Int) ∨ 123 ≤ chr tx ln p
    · rw [if_pos c] at h; cases h
    rw [if_neg c] at h
    obtain ⟨t, q1, e1, e2⟩ := thn_eq h
    obtain ⟨hP, hs⟩ := hpr _ _ _ (by omega) e1
    by_cases c2 : chr tx ln q1 = cl
    · rw [if_pos c2] at e2
      injection e2 with e2 e3
      injection e3 with e3
      subst e2 e3
      intro a ha
      rw [List.mem_singleton] at ha; rw [ha]; exact hP
    · rw [if_neg c2] at e2
      by_cases c3 : chr tx ln p = 122 ∨ chr tx ln q1 ≠ 44
      · rw [if_pos c3] at e2; cases e2
      rw [if_neg c3] at e2
      obtain ⟨r', q2, e4, e5⟩ := thn_eq e2
      injection e5 with e5 e6
      injection e6 with e6
      subst e5 e6
      have i2 := pFs_lo hpr k _ _ _ _ (by omega) e4
      intro a ha
      rcases List.mem_cons.mp ha with e | e
      · rw [e]; exact hP
      · exact i2 a e
theorem pM_go {r : Nat} {e : List (Nat × Int × Nat)} {p q : Nat} {a : Ty × Bool} (hp : p ≤ ln) (h : pM tx ln r e p = (q, some a)) : p < q := by
  have := (pM_fw (tx := tx) (ln := ln) r e p hp).2.2
  rw [h] at this
  exact this rfl
theorem pM_tw : ∀ (r : Nat) (e : List (Nat × Int × Nat)) (p q : Nat) (a : Ty × Bool), pM tx ln r e p = (q, some a) → a.2 = true → (∀ m ∈ lpl e, m < p) → TWf (r + 1) (tnm e).length (lpl e) a.1 := by
  intro r
  induction r with
  | zero =>
    intro e p q a h ha hp
    by_cases c1 : 97 ≤ chr tx ln p ∧ chr tx ln p ≤ 100
    · rw [pM_v c1] at h
      injection h with h1 h2
      injection h2 with h2
      subst h2
      have ha : (bnr e (chr tx ln p)).isSome = true := ha
      cases hb : bnr e (chr tx ln p) with
      | none => rw [hb] at ha; cases ha
      | some m => exact TWf.word hp (bnr_lpl hb)
    · by_cases c2 : chr tx ln p = 123
      · rw [pM_r c1 c2] at h
        have h : (if chr tx ln (p + 1) = 125 then (p + 1 + 1, some (mkM p [])) else (p + 1, none)) = (q, some a) := h
        by_cases c3 : chr tx ln (p + 1) = 125
        · rw [if_pos c3] at h
          injection h with h1 h2
          injection h2 with h2
          subst h2
          exact TWf.rcd hp trivial rfl (fun b hb => by cases hb)
        · rw [if_neg c3] at h; cases h
      · rw [pM_z c1 c2] at h; cases h
  | succ r ih =>
    intro e p q a h ha hp
    by_cases c1 : 97 ≤ chr tx ln p ∧ chr tx ln p ≤ 100
    · rw [pM_v c1] at h
      injection h with h1 h2
      injection h2 with h2
      subst h2
      have ha : (bnr e (chr tx ln p)).isSome = true := ha
      cases hb : bnr e (chr tx ln p) with
      | none => rw [hb] at ha; cases ha
      | some m => exact TWf.word hp (bnr_lpl hb)
    by_cases c2 : chr tx ln p = 123
    · rw [pM_r c1 c2] at h
      have h : (if chr tx ln (p + 1) = 125 then (p + 1 + 1, some (mkM p [])) else thn (pFs tx ln (fun q => if chr tx ln q = 61 then pM tx ln r e (q + 1) else (q, none)) 125 3 0 (p + 1)) (fun l q => (q, some (mkM p l)))) = (q, some a) := h
      by_cases c3 : chr tx ln (p + 1) = 125
      · rw [if_pos c3] at h
        injection h with h1 h2
        injection h2 with h2
        subst h2
        exact TWf.rcd hp trivial rfl (fun b hb => by cases hb)
      · rw [if_neg c3] at h
        obtain ⟨l, q', hl, h⟩ := thn_eq h
        injection h with h1 h2
        injection h2 with h2
        subst h2
        have s1 := (pFs_all (P := fun _ => True) (sz := fun _ => 0) (fun p' q2 b hb => by
          by_cases c61 : chr tx ln p' = 61
          · rw [if_pos c61] at hb
            refine ⟨trivial, ?_⟩
            have hl := chr_is c61 (by decide)
            have := pM_go (by omega) hb
            omega
          · rw [if_neg c61] at hb; cases hb) 3 0 _ _ _ hl).1
        have s2 := pFs_lo (p0 := p) (P := fun b => b.2 = true → TWf (r + 1) (tnm e).length (lpl e) b.1) (fun p' q2 b h0 hb => by
          by_cases c61 : chr tx ln p' = 61
          · rw [if_pos c61] at hb
            have hl := chr_is c61 (by decide)
            have := pM_go (by omega) hb
            exact ⟨fun hb2 => ih e _ _ b hb hb2 (fun m hm => by have := hp m hm; omega), by omega⟩
          · rw [if_neg c61] at hb; cases hb) 3 0 _ _ _ (by omega) hl
        exact TWf.rcd hp s1 ha (fun b hb => s2 b hb)
    by_cases g92 : chr tx ln p = 92
    · rw [pM_92 c1 c2 g92] at h
      by_cases k1 : 97 ≤ chr tx ln (p + 1) ∧ chr tx ln (p + 1) ≤ 100
      · rw [if_pos k1] at h
        by_cases k2 : chr tx ln (p + 1 + 1) = 58
        · rw [if_pos k2] at h
          obtain ⟨A, q1, hA, h⟩ := thn_eq h
          by_cases k3 : chr tx ln q1 = 46
          · rw [if_pos k3] at h
            obtain ⟨B, q2, hB, h⟩ := thn_eq h
            injection h with h1 h2
            injection h2 with h2
            subst h2
            have ha : (gud A && B.2) = true := ha
            rw [Bool.and_eq_true] at ha
            have oA := gud_ok (pT_ok r (tnm e) _ q1 A hA) ha.1
            have fA := (pT_ok r (tnm e) _ q1 A hA).2.2
            refine TWf.lam hp oA.1 oA.2 (ih ((1, chr tx ln (p + 1), p) :: e) _ _ B hB ha.2 (fun m hm => ?_))
            rcases List.mem_cons.mp (show m ∈ p :: lpl e from hm) with e0 | e0
            · omega
            · have := hp m e0; omega
          · rw [if_neg k3] at h; cases h
        · rw [if_neg k2] at h; cases h
      · rw [if_neg k1] at h; cases h
    by_cases g40 : chr tx ln p = 40
    · rw [pM_40 c1 c2 g92 g40] at h
      obtain ⟨A, q1, hA, h⟩ := thn_eq h
      obtain ⟨B, q2, hB, h⟩ := thn_eq h
      by_cases k3 : chr tx ln q2 = 41
      · rw [if_pos k3] at h
        injection h with h1 h2
        injection h2 with h2
        subst h2
        have ha : (A.2 && B.2) = true := ha
        rw [Bool.and_eq_true] at ha
        have hl := chr_is g40 (by decide)
        have fA := pM_go (by omega) hA
        exact TWf.app hp (ih e _ _ A hA ha.1 (fun m hm => by have := hp m hm; omega)) (ih e _ _ B hB ha.2 (fun m hm => by have := hp m hm; omega))
      · rw [if_neg k3] at h; cases h
    by_cases g47 : chr tx ln p = 47
    · rw [pM_47 c1 c2 g92 g40 g47] at h
      by_cases k1 : 80 ≤ chr tx ln (p + 1) ∧ chr tx ln (p + 1) ≤ 83
      · rw [if_pos k1] at h
        by_cases k2 : chr tx ln (p + 1 + 1) = 58
        · rw [if_pos k2] at h
          obtain ⟨A, q1, hA, h⟩ := thn_eq h
          by_cases k3 : chr tx ln q1 = 46
          · rw [if_pos k3] at h
            obtain ⟨B, q2, hB, h⟩ := thn_eq h
            injection h with h1 h2
            injection h2 with h2
            subst h2
            have ha : (gud A && B.2) = true := ha
            rw [Bool.and_eq_true] at ha
            have oA := gud_ok (pT_ok r (tnm e) _ q1 A hA) ha.1
            have fA := (pT_ok r (tnm e) _ q1 A hA).2.2
            exact TWf.all hp oA.1 oA.2 (ih ((0, chr tx ln (p + 1), p) :: e) _ _ B hB ha.2 (fun m hm => by have := hp m hm; omega))
          · rw [if_neg k3] at h; cases h
        · rw [if_neg k2] at h; cases h
      · rw [if_neg k1] at h; cases h
    by_cases g64 : chr tx ln p = 64
    · rw [pM_64 c1 c2 g92 g40 g47 g64] at h
      obtain ⟨A, q1, hA, h⟩ := thn_eq h
      obtain ⟨B, q2, hB, h⟩ := thn_eq h
      injection h with h1 h2
      injection h2 with h2
      subst h2
      have ha : (A.2 && gud B) = true := ha
      rw [Bool.and_eq_true] at ha
      have oB := gud_ok (pT_ok r (tnm e) _ q2 B hB) ha.2
      exact TWf.att hp (ih e _ _ A hA ha.1 (fun m hm => by have := hp m hm; omega)) oB.1 oB.2
    by_cases g46 : chr tx ln p = 46
    · rw [pM_46 c1 c2 g92 g40 g47 g64 g46] at h
      by_cases k1 : 120 ≤ chr tx ln (p + 1) ∧ chr tx ln (p + 1) ≤ 122
      · rw [if_pos k1] at h
        obtain ⟨A, q1, hA, h⟩ := thn_eq h
        injection h with h1 h2
        injection h2 with h2
        subst h2
        exact TWf.dot hp (by omega) (ih e _ _ A hA ha (fun m hm => by have := hp m hm; omega))
      · rw [if_neg k1] at h; cases h
    by_cases g63 : chr tx ln p = 63
    · rw [pM_63 c1 c2 g92 g40 g47 g64 g46 g63] at h
      by_cases k1 : 48 ≤ chr tx ln (p + 1) ∧ chr tx ln (p + 1) ≤ 49
      · rw [if_pos k1] at h
        obtain ⟨A, q1, hA, h⟩ := thn_eq h
        obtain ⟨B, q2, hB, h⟩ := thn_eq h
        injection h with h1 h2
        injection h2 with h2
        subst h2
        have ha : (A.2 && B.2) = true := ha
        rw [Bool.and_eq_true] at ha
        have hl := chr_is g63 (by decide)
        have hl1 : p + 1 < ln := chr_lt (tx := tx) (by omega)
        have fA := pM_go (by omega) hA
        exact TWf.eit hp (by omega) (ih e _ _ A hA ha.1 (fun m hm => by have := hp m hm; omega)) (ih e _ _ B hB ha.2 (fun m hm => by have := hp m hm; omega))
      · rw [if_neg k1] at h; cases h
    · rw [pM_none c1 c2 g92 g40 g47 g64 g46 g63] at h; cases h
end PmE10
