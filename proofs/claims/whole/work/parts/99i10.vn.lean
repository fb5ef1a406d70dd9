/-! HOW MANY VALUES a term of 60 characters can stand for. -/
section PmI10
variable {tx : Nat → Int} {ln : Nat}
theorem vN_ok {d : Nat} {t : Ty} (h : ok d t = true) : vN t = 0 := by
  rcases ok_cases h with rfl | ⟨k, hk, rfl⟩ | ⟨a, b, rfl, ha, hb⟩ | ⟨a, b, rfl, ha, hb⟩ | ⟨m, x, y, z, hm, rfl, h0, h1, h2⟩ <;> rfl
theorem lkT_vn : ∀ (l : List (Nat × (Ty × Bool))), vN (lkT l 0) + (vN (lkT l 1) + vN (lkT l 2)) ≤ (l.map (fun a => vN a.2.1)).sum
  | [] => Nat.le_refl _
  | a :: r => by
    have ih := lkT_vn r
    rw [lkT_cons, lkT_cons, lkT_cons, List.map_cons, List.sum_cons]
    by_cases c0 : a.1 = 0
    · rw [if_pos c0, if_neg (by omega), if_neg (by omega)]; omega
    · by_cases c1 : a.1 = 1
      · rw [if_neg c0, if_pos c1, if_neg (by omega)]; omega
      · by_cases c2 : a.1 = 2
        · rw [if_neg c0, if_neg c1, if_pos c2]; omega
        · rw [if_neg c0, if_neg c1, if_neg c2]; omega
theorem sum3 : ∀ (l : List (Nat × (Ty × Bool))), (l.map (fun a => 3 * vN a.2.1)).sum = 3 * (l.map (fun a => vN a.2.1)).sum
  | [] => rfl
  | a :: r => by
    rw [List.map_cons, List.sum_cons, List.map_cons, List.sum_cons, sum3 r]; omega
theorem pM_vn : ∀ (r : Nat) (e : List (Nat × Int × Nat)) (p q : Nat) (a : Ty × Bool), pM tx ln r e p = (q, some a) → p ≤ ln → p + 3 * vN a.1 ≤ q + 1 := by
  have ht : ∀ {r : Nat} {e : List Int} {p q : Nat} {A : Ty × Bool}, pT tx ln r e p = (q, some A) → vN A.1 = 0 ∧ p + 1 ≤ q := fun {r e p q A} h => by
    have o := pT_ok r e p q A h
    have f := flat_pos o.1
    exact ⟨vN_ok o.1, by have := o.2.2; omega⟩
  intro r
  induction r with
  | zero =>
    intro e p q a h hp
    by_cases c1 : 97 ≤ chr tx ln p ∧ chr tx ln p ≤ 100
    · rw [pM_v c1] at h
      injection h with h1 h2
      injection h2 with h2
      subst h2; subst h1
      rw [vN_mN]; show p + 3 * (0 + (0 + (0 + 0))) ≤ _; omega
    · by_cases c2 : chr tx ln p = 123
      · rw [pM_r c1 c2] at h
        have h : (if chr tx ln (p + 1) = 125 then (p + 1 + 1, some (mkM p [])) else (p + 1, none)) = (q, some a) := h
        by_cases c3 : chr tx ln (p + 1) = 125
        · rw [if_pos c3] at h
          injection h with h1 h2
          injection h2 with h2
          subst h2; subst h1
          show p + 3 * vN (mN p 10 0 .nil .nil .nil) ≤ _
          rw [vN_mN]; show p + 3 * (1 + (0 + (0 + 0))) ≤ _; omega
        · rw [if_neg c3] at h; cases h
      · rw [pM_z c1 c2] at h; cases h
  | succ r ih =>
    intro e p q a h hp
    by_cases c1 : 97 ≤ chr tx ln p ∧ chr tx ln p ≤ 100
    · rw [pM_v c1] at h
      injection h with h1 h2
      injection h2 with h2
      subst h2; subst h1
      rw [vN_mN]; show p + 3 * (0 + (0 + (0 + 0))) ≤ _; omega
    by_cases c2 : chr tx ln p = 123
    · rw [pM_r c1 c2] at h
      have h : (if chr tx ln (p + 1) = 125 then (p + 1 + 1, some (mkM p [])) else thn (pFs tx ln (fun q => if chr tx ln q = 61 then pM tx ln r e (q + 1) else (q, none)) 125 3 0 (p + 1)) (fun l q => (q, some (mkM p l)))) = (q, some a) := h
      by_cases c3 : chr tx ln (p + 1) = 125
      · rw [if_pos c3] at h
        injection h with h1 h2
        injection h2 with h2
        subst h2; subst h1
        show p + 3 * vN (mN p 10 0 .nil .nil .nil) ≤ _
        rw [vN_mN]; show p + 3 * (1 + (0 + (0 + 0))) ≤ _; omega
      · rw [if_neg c3] at h
        obtain ⟨l, q', hl, h⟩ := thn_eq h
        injection h with h1 h2
        injection h2 with h2
        subst h2; subst h1
        have s1 := (pFs_all (P := fun _ => True) (sz := fun b => 3 * vN b.1) (fun p' q2 b hb => by
          by_cases c61 : chr tx ln p' = 61
          · rw [if_pos c61] at hb
            have hl := chr_is c61 (by decide)
            have := ih e _ _ b hb (by omega)
            exact ⟨trivial, by omega⟩
          · rw [if_neg c61] at hb; cases hb) 3 0 _ _ _ hl).2.2
        have s2 := pFs_ne 3 0 _ _ _ hl
        have s3 := lkT_vn l
        rw [sum3 l] at s1
        show p + 3 * vN (mN p 10 (msk l) (lkT l 0) (lkT l 1) (lkT l 2)) ≤ _
        rw [vN_mN, if_pos (by omega)]
        omega
    by_cases g92 : chr tx ln p = 92
    · rw [pM_92 c1 c2 g92] at h
      by_cases k1 : 97 ≤ chr tx ln (p + 1) ∧ chr tx ln (p + 1) ≤ 100
      · rw [if_pos k1] at h
        by_cases k2 : chr tx ln (p + 1 + 1) = 58
        · rw [if_pos k2] at h
          obtain ⟨A, q1, hA, h⟩ := thn_eq h
          by_cases k3 : chr tx ln q1 = 46
          · rw [if_pos k3] at h
            obtain ⟨B, q2, hB, h⟩ := thn_eq h
            injection h with h1 h2
            injection h2 with h2
            subst h2; subst h1
            have oA := ht hA
            have i := ih _ _ _ B hB (by have := chr_is k3 (by decide); omega)
            rw [vN_mN, oA.1]
            show p + 3 * (1 + (0 + (vN B.1 + 0))) ≤ _
            omega
          · rw [if_neg k3] at h; cases h
        · rw [if_neg k2] at h; cases h
      · rw [if_neg k1] at h; cases h
    by_cases g40 : chr tx ln p = 40
    · rw [pM_40 c1 c2 g92 g40] at h
      obtain ⟨A, q1, hA, h⟩ := thn_eq h
      obtain ⟨B, q2, hB, h⟩ := thn_eq h
      by_cases k3 : chr tx ln q2 = 41
      · rw [if_pos k3] at h
        injection h with h1 h2
        injection h2 with h2
        subst h2; subst h1
        have hl := chr_is g40 (by decide)
        have i1 := ih _ _ _ A hA (by omega)
        have f1 := (pM_fw (tx := tx) (ln := ln) r e (p + 1) (by omega)).2.1
        rw [hA] at f1
        have i2 := ih _ _ _ B hB f1
        rw [vN_mN]
        show p + 3 * (0 + (vN A.1 + (vN B.1 + 0))) ≤ _
        omega
      · rw [if_neg k3] at h; cases h
    by_cases g47 : chr tx ln p = 47
    · rw [pM_47 c1 c2 g92 g40 g47] at h
      by_cases k1 : 80 ≤ chr tx ln (p + 1) ∧ chr tx ln (p + 1) ≤ 83
      · rw [if_pos k1] at h
        by_cases k2 : chr tx ln (p + 1 + 1) = 58
        · rw [if_pos k2] at h
          obtain ⟨A, q1, hA, h⟩ := thn_eq h
          by_cases k3 : chr tx ln q1 = 46
          · rw [if_pos k3] at h
            obtain ⟨B, q2, hB, h⟩ := thn_eq h
            injection h with h1 h2
            injection h2 with h2
            subst h2; subst h1
            have oA := ht hA
            have i := ih _ _ _ B hB (by have := chr_is k3 (by decide); omega)
            rw [vN_mN, oA.1]
            show p + 3 * (1 + (0 + (vN B.1 + 0))) ≤ _
            omega
          · rw [if_neg k3] at h; cases h
        · rw [if_neg k2] at h; cases h
      · rw [if_neg k1] at h; cases h
    by_cases g64 : chr tx ln p = 64
    · rw [pM_64 c1 c2 g92 g40 g47 g64] at h
      obtain ⟨A, q1, hA, h⟩ := thn_eq h
      obtain ⟨B, q2, hB, h⟩ := thn_eq h
      injection h with h1 h2
      injection h2 with h2
      subst h2; subst h1
      have hl := chr_is g64 (by decide)
      have i1 := ih _ _ _ A hA (by omega)
      have oB := ht hB
      rw [vN_mN, oB.1]
      show p + 3 * (0 + (vN A.1 + (0 + 0))) ≤ _
      omega
    by_cases g46 : chr tx ln p = 46
    · rw [pM_46 c1 c2 g92 g40 g47 g64 g46] at h
      by_cases k1 : 120 ≤ chr tx ln (p + 1) ∧ chr tx ln (p + 1) ≤ 122
      · rw [if_pos k1] at h
        obtain ⟨A, q1, hA, h⟩ := thn_eq h
        injection h with h1 h2
        injection h2 with h2
        subst h2; subst h1
        have hl1 : p + 1 < ln := chr_lt (tx := tx) (by omega)
        have i1 := ih _ _ _ A hA (by omega)
        rw [vN_mN]
        show p + 3 * (0 + (vN A.1 + (0 + 0))) ≤ _
        omega
      · rw [if_neg k1] at h; cases h
    by_cases g63 : chr tx ln p = 63
    · rw [pM_63 c1 c2 g92 g40 g47 g64 g46 g63] at h
      by_cases k1 : 48 ≤ chr tx ln (p + 1) ∧ chr tx ln (p + 1) ≤ 49
      · rw [if_pos k1] at h
        obtain ⟨A, q1, hA, h⟩ := thn_eq h
        obtain ⟨B, q2, hB, h⟩ := thn_eq h
        injection h with h1 h2
        injection h2 with h2
        subst h2; subst h1
        have hl1 : p + 1 < ln := chr_lt (tx := tx) (by omega)
        have i1 := ih _ _ _ A hA (by omega)
        have f1 := (pM_fw (tx := tx) (ln := ln) r e (p + 1 + 1) (by omega)).2.1
        rw [hA] at f1
        have i2 := ih _ _ _ B hB f1
        rw [vN_mN]
        show p + 3 * (0 + (vN A.1 + (vN B.1 + 0))) ≤ _
        omega
      · rw [if_neg k1] at h; cases h
    · rw [pM_none c1 c2 g92 g40 g47 g64 g46 g63] at h; cases h
theorem rdM_vn {t : Ty} (hl : ln ≤ 60) (h : rdM tx ln = (-1, some t)) : vN t ≤ 20 := by
  unfold rdM at h
  split at h
  · cases h
  · rename_i q a ha
    have f := (pM_fw (tx := tx) (ln := ln) 23 [] 0 (Nat.zero_le _)).2.1
    rw [ha] at f
    have i := pM_vn 23 [] 0 q a ha (Nat.zero_le _)
    have f : q ≤ ln := f
    by_cases c : q < ln
    · rw [if_pos c] at h; cases h
    · rw [if_neg c] at h
      by_cases c2 : a.2 = true
      · rw [if_pos c2] at h
        have e : a.1 = t := by injection h with _ h; injection h
        rw [e] at i
        omega
      · rw [if_neg c2] at h; cases h
end PmI10
/-- what is left: comparing and joining types of a term that is read stays within the limits -/
def LIM2 : Prop := ∀ (tx : Nat → Int) (ln : Nat) (t : Ty), ln ≤ 60 → rdM tx ln = (-1, some t) → TL 24 t [] [] ∧ TN 24 t [] [] ≤ 14800
theorem lim_of (h : LIM2) : LIM := fun tx ln t hl hr => ⟨(h tx ln t hl hr).1, (h tx ln t hl hr).2, rdM_vn hl hr⟩
