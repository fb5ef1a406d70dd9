/-! READING: what is read is a term in order. -/
/-- the places of the functions around -/
def lpl : List (Nat × Int × Nat) → List Nat
  | [] => []
  | a :: e => if a.1 = 1 then a.2.2 :: lpl e else lpl e
theorem bnr_lpl : ∀ {e : List (Nat × Int × Nat)} {c : Int} {m : Nat}, bnr e c = some m → m ∈ lpl e
  | [], _, _, h => by cases h
  | a :: e, c, m, h => by
    have h : (if a.1 = 1 ∧ a.2.1 = c then some a.2.2 else bnr e c) = some m := h
    show m ∈ (if a.1 = 1 then a.2.2 :: lpl e else lpl e)
    by_cases k : a.1 = 1 ∧ a.2.1 = c
    · rw [if_pos k] at h
      injection h with h
      rw [if_pos k.1, h]
      exact List.mem_cons_self
    · rw [if_neg k] at h
      have := bnr_lpl h
      by_cases k1 : a.1 = 1
      · rw [if_pos k1]; exact List.mem_cons_of_mem _ this
      · rw [if_neg k1]; exact this
section PmE10
variable {tx : Nat → Int} {ln : Nat}
theorem gud_ok {D p q : Nat} {a : Ty × Bool} (h : PTok D p q a) (hg : gud a = true) : ok D a.1 = true ∧ (flat a.1).length ≤ 16 := by
  unfold gud at hg
  rw [Bool.and_eq_true, decide_eq_true_iff] at hg
  exact ⟨h.2.1 hg.1, hg.2⟩
theorem TWf.word {f D p m : Nat} {sc : List Nat} (h : m ∈ sc) : TWf (f + 1) D sc (mN p 5 m .nil .nil .nil) :=
  ⟨⟨⟨Nat.le_refl _, by show 5 ≤ 12; decide⟩, rfl, fun g hg h => by rcases (show g = 0 ∨ g = 1 ∨ g = 2 by omega) with rfl | rfl | rfl <;> first | rfl | exact absurd (show (1 : Nat) = 0 from h) (by decide) | exact absurd (show (2 : Nat) = 0 from h) (by decide)⟩, fun _ => h, fun e => absurd (show 5 = 6 from e) (by decide), fun e => absurd (show 5 = 7 ∨ 5 = 12 from e) (by decide), fun e => absurd (show 5 = 8 from e) (by decide), fun e => absurd (show 5 = 9 from e) (by decide), fun e => absurd (show 5 = 10 from e) (by decide), fun e => absurd (show 5 = 11 from e) (by decide), fun e => absurd (show 5 = 12 from e) (by decide)⟩
theorem TWf.lam {f D p : Nat} {sc : List Nat} {x y : Ty} (h1 : ok D x = true) (h2 : (flat x).length ≤ 16) (h3 : TWf f D (p :: sc) y) : TWf (f + 1) D sc (mN p 6 D x y .nil) :=
  ⟨⟨⟨by show 5 ≤ 6; decide, by show 6 ≤ 12; decide⟩, rfl, fun g hg h => by rcases (show g = 0 ∨ g = 1 ∨ g = 2 by omega) with rfl | rfl | rfl <;> first | rfl | exact absurd (show (1 : Nat) = 0 from h) (by decide) | exact absurd (show (2 : Nat) = 0 from h) (by decide)⟩, fun e => absurd (show 6 = 5 from e) (by decide), fun _ => ⟨rfl, h1, h2, h3⟩, fun e => absurd (show 6 = 7 ∨ 6 = 12 from e) (by decide), fun e => absurd (show 6 = 8 from e) (by decide), fun e => absurd (show 6 = 9 from e) (by decide), fun e => absurd (show 6 = 10 from e) (by decide), fun e => absurd (show 6 = 11 from e) (by decide), fun e => absurd (show 6 = 12 from e) (by decide)⟩
theorem TWf.app {f D p : Nat} {sc : List Nat} {x y : Ty} (h1 : TWf f D sc x) (h2 : TWf f D sc y) : TWf (f + 1) D sc (mN p 7 0 x y .nil) :=
  ⟨⟨⟨by show 5 ≤ 7; decide, by show 7 ≤ 12; decide⟩, rfl, fun g hg h => by rcases (show g = 0 ∨ g = 1 ∨ g = 2 by omega) with rfl | rfl | rfl <;> first | rfl | exact absurd (show (1 : Nat) = 0 from h) (by decide) | exact absurd (show (2 : Nat) = 0 from h) (by decide)⟩, fun e => absurd (show 7 = 5 from e) (by decide), fun e => absurd (show 7 = 6 from e) (by decide), fun _ => ⟨h1, h2⟩, fun e => absurd (show 7 = 8 from e) (by decide), fun e => absurd (show 7 = 9 from e) (by decide), fun e => absurd (show 7 = 10 from e) (by decide), fun e => absurd (show 7 = 11 from e) (by decide), fun e => absurd (show 7 = 12 from e) (by decide)⟩
theorem TWf.all {f D p : Nat} {sc : List Nat} {x y : Ty} (h1 : ok D x = true) (h2 : (flat x).length ≤ 16) (h3 : TWf f (D + 1) sc y) : TWf (f + 1) D sc (mN p 8 0 x y .nil) :=
  ⟨⟨⟨by show 5 ≤ 8; decide, by show 8 ≤ 12; decide⟩, rfl, fun g hg h => by rcases (show g = 0 ∨ g = 1 ∨ g = 2 by omega) with rfl | rfl | rfl <;> first | rfl | exact absurd (show (1 : Nat) = 0 from h) (by decide) | exact absurd (show (2 : Nat) = 0 from h) (by decide)⟩, fun e => absurd (show 8 = 5 from e) (by decide), fun e => absurd (show 8 = 6 from e) (by decide), fun e => absurd (show 8 = 7 ∨ 8 = 12 from e) (by decide), fun _ => ⟨h1, h2, h3⟩, fun e => absurd (show 8 = 9 from e) (by decide), fun e => absurd (show 8 = 10 from e) (by decide), fun e => absurd (show 8 = 11 from e) (by decide), fun e => absurd (show 8 = 12 from e) (by decide)⟩
theorem TWf.att {f D p : Nat} {sc : List Nat} {x y : Ty} (h1 : TWf f D sc x) (h2 : ok D y = true) (h3 : (flat y).length ≤ 16) : TWf (f + 1) D sc (mN p 9 0 x y .nil) :=
  ⟨⟨⟨by show 5 ≤ 9; decide, by show 9 ≤ 12; decide⟩, rfl, fun g hg h => by rcases (show g = 0 ∨ g = 1 ∨ g = 2 by omega) with rfl | rfl | rfl <;> first | rfl | exact absurd (show (1 : Nat) = 0 from h) (by decide) | exact absurd (show (2 : Nat) = 0 from h) (by decide)⟩, fun e => absurd (show 9 = 5 from e) (by decide), fun e => absurd (show 9 = 6 from e) (by decide), fun e => absurd (show 9 = 7 ∨ 9 = 12 from e) (by decide), fun e => absurd (show 9 = 8 from e) (by decide), fun _ => ⟨h1, h2, h3⟩, fun e => absurd (show 9 = 10 from e) (by decide), fun e => absurd (show 9 = 11 from e) (by decide), fun e => absurd (show 9 = 12 from e) (by decide)⟩
theorem TWf.dot {f D p m : Nat} {sc : List Nat} {x : Ty} (h1 : m < 3) (h2 : TWf f D sc x) : TWf (f + 1) D sc (mN p 11 m x .nil .nil) :=
  ⟨⟨⟨by show 5 ≤ 11; decide, by show 11 ≤ 12; decide⟩, rfl, fun g hg h => by rcases (show g = 0 ∨ g = 1 ∨ g = 2 by omega) with rfl | rfl | rfl <;> first | rfl | exact absurd (show (1 : Nat) = 0 from h) (by decide) | exact absurd (show (2 : Nat) = 0 from h) (by decide)⟩, fun e => absurd (show 11 = 5 from e) (by decide), fun e => absurd (show 11 = 6 from e) (by decide), fun e => absurd (show 11 = 7 ∨ 11 = 12 from e) (by decide), fun e => absurd (show 11 = 8 from e) (by decide), fun e => absurd (show 11 = 9 from e) (by decide), fun e => absurd (show 11 = 10 from e) (by decide), fun _ => ⟨h1, h2⟩, fun e => absurd (show 11 = 12 from e) (by decide)⟩
theorem TWf.eit {f D p m : Nat} {sc : List Nat} {x y : Ty} (h0 : m < 2) (h1 : TWf f D sc x) (h2 : TWf f D sc y) : TWf (f + 1) D sc (mN p 12 m x y .nil) :=
  ⟨⟨⟨by show 5 ≤ 12; decide, by show 12 ≤ 12; decide⟩, rfl, fun g hg h => by rcases (show g = 0 ∨ g = 1 ∨ g = 2 by omega) with rfl | rfl | rfl <;> first | rfl | exact absurd (show (1 : Nat) = 0 from h) (by decide) | exact absurd (show (2 : Nat) = 0 from h) (by decide)⟩, fun e => absurd (show 12 = 5 from e) (by decide), fun e => absurd (show 12 = 6 from e) (by decide), fun _ => ⟨h1, h2⟩, fun e => absurd (show 12 = 8 from e) (by decide), fun e => absurd (show 12 = 9 from e) (by decide), fun e => absurd (show 12 = 10 from e) (by decide), fun e => absurd (show 12 = 11 from e) (by decide), fun _ => h0⟩
theorem TWf.rcd {f D p : Nat} {sc : List Nat} {r : List (Nat × (Ty × Bool))} (hs : Srt 0 r) (ha : allc r = true) (h : ∀ a ∈ r, a.2.2 = true → TWf f D sc a.2.1) : TWf (f + 1) D sc (mkM p r).1 := by
  have hb := msk_bits hs
  have hnl : ∀ g, g < 3 → sk 10 (msk r) g = 0 → lkT r g = .nil := by
    intro g hg h0
    have e : sk 10 (msk r) g = if bit (msk r) g = true then 1 else 0 := rfl
    rw [e] at h0
    by_cases c : bit (msk r) g = true
    · rw [if_pos c] at h0; cases h0
    · unfold lkT
      cases el : lk r g with
      | none => rfl
      | some a => exact absurd ((hb.2 g hg).mpr (by rw [el]; rfl)) c
  refine ⟨⟨⟨by show 5 ≤ 10; decide, by show 10 ≤ 12; decide⟩, rfl, fun g hg h0 => by rcases (show g = 0 ∨ g = 1 ∨ g = 2 by omega) with rfl | rfl | rfl <;> exact hnl _ (by decide) h0⟩, fun e => absurd (show 10 = 5 from e) (by decide), fun e => absurd (show 10 = 6 from e) (by decide), fun e => absurd (show 10 = 7 ∨ 10 = 12 from e) (by decide), fun e => absurd (show 10 = 8 from e) (by decide), fun e => absurd (show 10 = 9 from e) (by decide), fun _ => ⟨hb.1, fun g hg hbit => ?_⟩, fun e => absurd (show 10 = 11 from e) (by decide), fun e => absurd (show 10 = 12 from e) (by decide)⟩
  have hso := (hb.2 g hg).mp hbit
  have key : TWf f D sc (lkT r g) := by
    unfold lkT
    cases el : lk r g with
    | none => rw [el] at hso; cases hso
    | some a => exact h _ (lk_mem el) (allc_mem ha _ (lk_mem el))
  rcases (show g = 0 ∨ g = 1 ∨ g = 2 by omega) with rfl | rfl | rfl <;> exact key
theorem pM_tw : ∀ (r : Nat) (e : List (Nat × Int × Nat)) (p q : Nat) (a : Ty × Bool), pM tx ln r e p = (q, some a) → a.2 = true → TWf (r + 1) (tnm e).length (lpl e) a.1 := by
  intro r
  induction r with
  | zero =>
    intro e p q a h ha
    by_cases c1 : 97 ≤ chr tx ln p ∧ chr tx ln p ≤ 100
    · rw [pM_v c1] at h
      injection h with h1 h2
      injection h2 with h2
      subst h2
      have ha : (bnr e (chr tx ln p)).isSome = true := ha
      cases hb : bnr e (chr tx ln p) with
      | none => rw [hb] at ha; cases ha
      | some m => exact TWf.word (bnr_lpl hb)
    · by_cases c2 : chr tx ln p = 123
      · rw [pM_r c1 c2] at h
        have h : (if chr tx ln (p + 1) = 125 then (p + 1 + 1, some (mkM p [])) else (p + 1, none)) = (q, some a) := h
        by_cases c3 : chr tx ln (p + 1) = 125
        · rw [if_pos c3] at h
          injection h with h1 h2
          injection h2 with h2
          subst h2
          exact TWf.rcd trivial rfl (fun b hb => by cases hb)
        · rw [if_neg c3] at h; cases h
      · rw [pM_z c1 c2] at h; cases h
  | succ r ih =>
    intro e p q a h ha
    by_cases c1 : 97 ≤ chr tx ln p ∧ chr tx ln p ≤ 100
    · rw [pM_v c1] at h
      injection h with h1 h2
      injection h2 with h2
      subst h2
      have ha : (bnr e (chr tx ln p)).isSome = true := ha
      cases hb : bnr e (chr tx ln p) with
      | none => rw [hb] at ha; cases ha
      | some m => exact TWf.word (bnr_lpl hb)
    by_cases c2 : chr tx ln p = 123
    · rw [pM_r c1 c2] at h
      have h : (if chr tx ln (p + 1) = 125 then (p + 1 + 1, some (mkM p [])) else thn (pFs tx ln (fun q => if chr tx ln q = 61 then pM tx ln r e (q + 1) else (q, none)) 125 3 0 (p + 1)) (fun l q => (q, some (mkM p l)))) = (q, some a) := h
      by_cases c3 : chr tx ln (p + 1) = 125
      · rw [if_pos c3] at h
        injection h with h1 h2
        injection h2 with h2
        subst h2
        exact TWf.rcd trivial rfl (fun b hb => by cases hb)
      · rw [if_neg c3] at h
        obtain ⟨l, q', hl, h⟩ := thn_eq h
        injection h with h1 h2
        injection h2 with h2
        subst h2
        obtain ⟨s1, s2, -⟩ := pFs_all (P := fun b => b.2 = true → TWf (r + 1) (tnm e).length (lpl e) b.1) (sz := fun _ => 0) (fun p' q2 b hb => by
          by_cases c61 : chr tx ln p' = 61
          · rw [if_pos c61] at hb
            refine ⟨fun hb2 => ih e _ _ b hb hb2, ?_⟩
            have hl := chr_is c61 (by decide)
            have := (pM_fw (tx := tx) (ln := ln) r e (p' + 1) (by omega)).1
            rw [hb] at this
            have this : p' + 1 ≤ q2 := this
            omega
          · rw [if_neg c61] at hb; cases hb) 3 0 _ _ _ hl
        exact TWf.rcd s1 ha (fun b hb => s2 b hb)
    by_cases g92 : chr tx ln p = 92
    · rw [pM_92 c1 c2 g92] at h
      by_cases k1 : 97 ≤ chr tx ln (p + 1) ∧ chr tx ln (p + 1) ≤ 100
      · rw [if_pos k1] at h
        by_cases k2 : chr tx ln (p + 1 + 1) = 58
        · rw [if_pos k2] at h
          obtain ⟨A, q1, hA, h⟩ := thn_eq h
          by_cases k3 : chr tx ln q1 = 46
          · rw [if_pos k3] at h
            obtain ⟨B, q2, hB, h⟩ := thn_eq h
            injection h with h1 h2
            injection h2 with h2
            subst h2
            have ha : (gud A && B.2) = true := ha
            rw [Bool.and_eq_true] at ha
            have oA := gud_ok (pT_ok r (tnm e) _ q1 A hA) ha.1
            exact TWf.lam oA.1 oA.2 (ih ((1, chr tx ln (p + 1), p) :: e) _ _ B hB ha.2)
          · rw [if_neg k3] at h; cases h
        · rw [if_neg k2] at h; cases h
      · rw [if_neg k1] at h; cases h
    by_cases g40 : chr tx ln p = 40
    · rw [pM_40 c1 c2 g92 g40] at h
      obtain ⟨A, q1, hA, h⟩ := thn_eq h
      obtain ⟨B, q2, hB, h⟩ := thn_eq h
      by_cases k3 : chr tx ln q2 = 41
      · rw [if_pos k3] at h
        injection h with h1 h2
        injection h2 with h2
        subst h2
        have ha : (A.2 && B.2) = true := ha
        rw [Bool.and_eq_true] at ha
        exact TWf.app (ih e _ _ A hA ha.1) (ih e _ _ B hB ha.2)
      · rw [if_neg k3] at h; cases h
    by_cases g47 : chr tx ln p = 47
    · rw [pM_47 c1 c2 g92 g40 g47] at h
      by_cases k1 : 80 ≤ chr tx ln (p + 1) ∧ chr tx ln (p + 1) ≤ 83
      · rw [if_pos k1] at h
        by_cases k2 : chr tx ln (p + 1 + 1) = 58
        · rw [if_pos k2] at h
          obtain ⟨A, q1, hA, h⟩ := thn_eq h
          by_cases k3 : chr tx ln q1 = 46
          · rw [if_pos k3] at h
            obtain ⟨B, q2, hB, h⟩ := thn_eq h
            injection h with h1 h2
            injection h2 with h2
            subst h2
            have ha : (gud A && B.2) = true := ha
            rw [Bool.and_eq_true] at ha
            have oA := gud_ok (pT_ok r (tnm e) _ q1 A hA) ha.1
            exact TWf.all oA.1 oA.2 (ih ((0, chr tx ln (p + 1), p) :: e) _ _ B hB ha.2)
          · rw [if_neg k3] at h; cases h
        · rw [if_neg k2] at h; cases h
      · rw [if_neg k1] at h; cases h
    by_cases g64 : chr tx ln p = 64
    · rw [pM_64 c1 c2 g92 g40 g47 g64] at h
      obtain ⟨A, q1, hA, h⟩ := thn_eq h
      obtain ⟨B, q2, hB, h⟩ := thn_eq h
      injection h with h1 h2
      injection h2 with h2
      subst h2
      have ha : (A.2 && gud B) = true := ha
      rw [Bool.and_eq_true] at ha
      have oB := gud_ok (pT_ok r (tnm e) _ q2 B hB) ha.2
      exact TWf.att (ih e _ _ A hA ha.1) oB.1 oB.2
    by_cases g46 : chr tx ln p = 46
    · rw [pM_46 c1 c2 g92 g40 g47 g64 g46] at h
      by_cases k1 : 120 ≤ chr tx ln (p + 1) ∧ chr tx ln (p + 1) ≤ 122
      · rw [if_pos k1] at h
        obtain ⟨A, q1, hA, h⟩ := thn_eq h
        injection h with h1 h2
        injection h2 with h2
        subst h2
        exact TWf.dot (by omega) (ih e _ _ A hA ha)
      · rw [if_neg k1] at h; cases h
    by_cases g63 : chr tx ln p = 63
    · rw [pM_63 c1 c2 g92 g40 g47 g64 g46 g63] at h
      by_cases k1 : 48 ≤ chr tx ln (p + 1) ∧ chr tx ln (p + 1) ≤ 49
      · rw [if_pos k1] at h
        obtain ⟨A, q1, hA, h⟩ := thn_eq h
        obtain ⟨B, q2, hB, h⟩ := thn_eq h
        injection h with h1 h2
        injection h2 with h2
        subst h2
        have ha : (A.2 && B.2) = true := ha
        rw [Bool.and_eq_true] at ha
        exact TWf.eit (by omega) (ih e _ _ A hA ha.1) (ih e _ _ B hB ha.2)
      · rw [if_neg k1] at h; cases h
    · rw [pM_none c1 c2 g92 g40 g47 g64 g46 g63] at h; cases h
end PmE10
