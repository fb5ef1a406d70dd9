/-! EVERY TYPE HAS A FORM OF THE TABLE. -/
theorem nlb_cases : ∀ m, m < 8 → (nlb m = 0 ∧ m = 0) ∨ nlb m = 1 ∨ nlb m = 2 ∨ nlb m = 3 := by decide
theorem rng_all {n : Nat} {p : Nat → Bool} (h : (List.range n).all p = true) {i : Nat} (hi : i < n) : p i = true := List.all_eq_true.mp h i (List.mem_range.mpr hi)
section PmKi
variable {F G : FrT} {t0 fn s2 hv r0 r1 r2 r3 : Nat}
theorem frc_0 (h : frc F G t0 fn s2 hv r0 r1 r2 r3 = true) {k : Nat} (k1 : 1 ≤ k) (k2 : k ≤ 56) : dom 0 t0 (frg F k) = true ∧ dom 1 0 (frg F k) = true ∧ (2 ≤ k → dom 0 r0 (frg F k) = true) := by
  unfold frc at h
  rw [Bool.and_eq_true] at h
  have q := rng_all h.1 (i := k - 1) (by omega)
  rw [Bool.and_eq_true, Bool.and_eq_true, show k - 1 + 1 = k by omega] at q
  refine ⟨q.1, q.2.1, fun k3 => ?_⟩
  have q := q.2.2
  rw [Bool.or_eq_true, decide_eq_true_iff] at q
  rcases q with q | q
  · omega
  · exact q
theorem frc_1 (h : frc F G t0 fn s2 hv r0 r1 r2 r3 = true) {k : Nat} (k1 : 1 ≤ k) (k2 : k + 3 ≤ 56) {p : Nat × Nat} (hp : p ∈ frg F k) : dom p.1 (r1 + p.2) (frg F (k + 3)) = true := by
  unfold frc at h
  rw [Bool.and_eq_true, Bool.and_eq_true] at h
  have q := rng_all h.2.1 (i := k - 1) (by omega)
  rw [show k - 1 + 1 = k by omega, show k - 1 + 4 = k + 3 by omega] at q
  exact List.all_eq_true.mp q p hp
theorem frc_2 (h : frc F G t0 fn s2 hv r0 r1 r2 r3 = true) {k : Nat} (k1 : 1 ≤ k) (k2 : k + 5 ≤ 56) {p : Nat × Nat} (hp : p ∈ frg G k) : dom p.1 (r2 + p.2) (frg F (k + 5)) = true := by
  unfold frc at h
  rw [Bool.and_eq_true, Bool.and_eq_true, Bool.and_eq_true] at h
  have q := rng_all h.2.2.1 (i := k - 1) (by omega)
  rw [show k - 1 + 1 = k by omega, show k - 1 + 6 = k + 5 by omega] at q
  exact List.all_eq_true.mp q p hp
theorem frc_p (h : frc F G t0 fn s2 hv r0 r1 r2 r3 = true) {i j : Nat} (i1 : 1 ≤ i) (j1 : 1 ≤ j) (k2 : i + j ≤ 56) : (∀ p ∈ frg F i, ∀ q ∈ frg F j, dom (p.1 + q.1) (p.2 + q.2) (frg G (i + j)) = true) ∧ (i + j + 3 ≤ 56 → ∀ p ∈ frg F i, ∀ q ∈ frg F j, dom (p.1 + q.1) (fn + p.2 + q.2) (frg F (i + j + 3)) = true) ∧ (i + j + 4 ≤ 56 → ∀ p ∈ frg F i, ∀ q ∈ frg F j, dom (q.1 * max 1 p.1) (s2 + q.2 + q.1 * (hv + p.2)) (frg F (i + j + 4)) = true) ∧ (i + j + 7 ≤ 56 → ∀ p ∈ frg G i, ∀ q ∈ frg F j, dom (p.1 + q.1) (r3 + (p.2 + q.2)) (frg F (i + j + 7)) = true) := by
  unfold frc at h
  rw [Bool.and_eq_true, Bool.and_eq_true, Bool.and_eq_true] at h
  have q := rng_all (rng_all h.2.2.2 (i := i - 1) (by omega)) (i := j - 1) (by omega)
  rw [Bool.and_eq_true, Bool.and_eq_true, Bool.and_eq_true, Bool.or_eq_true, Bool.or_eq_true, Bool.or_eq_true, decide_eq_true_iff, decide_eq_true_iff, decide_eq_true_iff, show i - 1 + 1 = i by omega, show j - 1 + 1 = j by omega, show i - 1 + (j - 1) + 2 = i + j by omega, show i - 1 + (j - 1) + 5 = i + j + 3 by omega, show i - 1 + (j - 1) + 6 = i + j + 4 by omega, show i - 1 + (j - 1) + 9 = i + j + 7 by omega] at q
  obtain ⟨q1, q2, q3, q4⟩ := q
  refine ⟨fun p hp r hr => List.all_eq_true.mp (List.all_eq_true.mp q1 p hp) r hr, fun k3 p hp r hr => ?_, fun k3 p hp r hr => ?_, fun k3 p hp r hr => ?_⟩
  · rcases q2 with q | q
    · omega
    · exact List.all_eq_true.mp (List.all_eq_true.mp q p hp) r hr
  · rcases q3 with q | q
    · omega
    · exact List.all_eq_true.mp (List.all_eq_true.mp q p hp) r hr
  · rcases q4 with q | q
    · omega
    · exact List.all_eq_true.mp (List.all_eq_true.mp q p hp) r hr
end PmKi
section PmKj
variable {F G : FrT} {t0 fn s2 hv r0 r1 r2 r3 x0 : Nat} {n1 h : Nat → Nat}
/-- the form of a type is in the table of its characters -/
theorem fr_form (hc : frc F G t0 fn s2 hv r0 r1 r2 r3 = true) (H : ∀ y x, x0 ≤ x → h y ≤ hv + max y x) (hf1 : n1 1 ≤ fn) (hr : ∀ m, m < 8 → n1 (8 + m) ≤ (if nlb m = 0 then r0 else if nlb m = 1 then r1 else if nlb m = 2 then r2 else r3)) : ∀ (f : Nat) (t : Ty) (d : Nat), (flat t).length ≤ f → ok d t = true → tch t ≤ 56 → ∃ p ∈ frg F (tch t), FM t0 n1 s2 h x0 t p.1 p.2
  | 0, t, d, hf, o, _ => by have := flat_pos o; omega
  | f + 1, t, d, hf, o, hk => by
    have fin : ∀ {l a : Nat} {t : Ty} {k : Nat}, FM t0 n1 s2 h x0 t l a → dom l a (frg F k) = true → ∃ p ∈ frg F k, FM t0 n1 s2 h x0 t p.1 p.2 := by
      intro l a t k g hd
      obtain ⟨p, hp, h1, h2⟩ := dom_ex hd
      exact ⟨p, hp, g.mono h1 h2⟩
    rcases ok_cases o with rfl | ⟨j, hj, rfl⟩ | ⟨a, c, rfl, ha, hb⟩ | ⟨a, c, rfl, ha, hb⟩ | ⟨m, x, y, z, hm, rfl, h0, h1, h2⟩
    · exact fin FM_top (frc_0 hc (by decide) hk).1
    · exact fin (FM_var j) (frc_0 hc (show 1 ≤ tch (tVar j) from Nat.le_refl 1) hk).2.1
    · rw [flat_fun, List.length_cons, List.length_append] at hf
      rw [tch_fun] at hk ⊢
      have pa := tch_pos ha
      have pc := tch_pos hb
      obtain ⟨p, hp, fp⟩ := fr_form hc H hf1 hr f a d (by omega) ha (by omega)
      obtain ⟨q, hq, fq⟩ := fr_form hc H hf1 hr f c d (by omega) hb (by omega)
      rw [show 3 + (tch a + tch c) = tch a + tch c + 3 by omega]
      exact fin ((FM_fun fp fq).mono (Nat.le_refl _) (show n1 1 + p.2 + q.2 ≤ fn + p.2 + q.2 by omega)) ((frc_p hc pa pc (by omega)).2.1 (by omega) p hp q hq)
    · rw [flat_all, List.length_cons, List.length_append] at hf
      rw [tch_all] at hk ⊢
      have pa := tch_pos ha
      have pc := tch_pos hb
      obtain ⟨p, hp, fp⟩ := fr_form hc H hf1 hr f a d (by omega) ha (by omega)
      obtain ⟨q, hq, fq⟩ := fr_form hc H hf1 hr f c (d + 1) (by omega) hb (by omega)
      rw [show 4 + (tch a + tch c) = tch a + tch c + 4 by omega]
      exact fin (FM_all H fp fq) ((frc_p hc pa pc (by omega)).2.2.1 (by omega) p hp q hq)
    · rw [flat_rec, List.length_cons, List.length_append, List.length_append] at hf
      rw [tch_rec] at hk ⊢
      have hn := hr m hm
      have ih : ∀ (i : Nat) (p : Ty), (flat p).length ≤ f → okl d m i p → bit m i = true → tch p ≤ 56 → 1 ≤ tch p ∧ ∃ q ∈ frg F (tch p), FM t0 n1 s2 h x0 p q.1 q.2 := by
        intro i p hp ho hb hk
        unfold okl at ho
        rw [if_pos hb] at ho
        exact ⟨tch_pos ho, fr_form hc H hf1 hr f p d hp ho hk⟩
      have nil : ∀ (i : Nat) (p : Ty), okl d m i p → ¬ bit m i = true → tch p = 0 := by
        intro i p ho hb
        unfold okl at ho
        rw [if_neg hb] at ho
        rw [ho]; rfl
      have nb : nlb m = (if bit m 0 then 1 else 0) + (if bit m 1 then 1 else 0) + (if bit m 2 then 1 else 0) := rfl
      -- one field
      have one : ∀ (i : Nat) (p : Ty) (q : Nat × Nat), nlb m = 1 → 1 ≤ tch p → q ∈ frg F (tch p) → tch p + 3 ≤ 56 → rch m = 3 → FM t0 n1 s2 h x0 (tRec m x y z) q.1 (n1 (8 + m) + q.2) → ∃ p' ∈ frg F (tch p + 3), FM t0 n1 s2 h x0 (tRec m x y z) p'.1 p'.2 := by
        intro i p q e1 h1 hq hk3 _ g
        rw [if_neg (by omega), if_pos e1] at hn
        exact fin (g.mono (Nat.le_refl _) (show n1 (8 + m) + q.2 ≤ r1 + q.2 by omega)) (frc_1 hc h1 hk3 hq)
      have two : ∀ (p p' : Ty) (q q' : Nat × Nat), nlb m = 2 → 1 ≤ tch p → 1 ≤ tch p' → q ∈ frg F (tch p) → q' ∈ frg F (tch p') → tch p + tch p' + 5 ≤ 56 → FM t0 n1 s2 h x0 (tRec m x y z) (q.1 + q'.1) (n1 (8 + m) + (q.2 + q'.2)) → ∃ v ∈ frg F (tch p + tch p' + 5), FM t0 n1 s2 h x0 (tRec m x y z) v.1 v.2 := by
        intro p p' q q' e1 h1 h1' hq hq' hk3 g
        rw [if_neg (by omega), if_neg (by omega), if_pos e1] at hn
        obtain ⟨v, hv', g1, g2⟩ := dom_ex ((frc_p hc h1 h1' (by omega)).1 q hq q' hq')
        exact fin (g.mono g1 (show n1 (8 + m) + (q.2 + q'.2) ≤ r2 + v.2 by omega)) (frc_2 hc (by omega) hk3 hv')
      have rc1 : nlb m = 1 → rch m = 3 := by
        intro e1
        unfold rch
        have : m ≠ 0 := by intro h0'; subst h0'; exact absurd e1 (by decide)
        rw [if_neg this, e1]
      have rc2 : nlb m = 2 → rch m = 5 := by
        intro e1
        unfold rch
        have : m ≠ 0 := by intro h0'; subst h0'; exact absurd e1 (by decide)
        rw [if_neg this, e1]
      have rc3 : nlb m = 3 → rch m = 7 := by
        intro e1
        unfold rch
        have : m ≠ 0 := by intro h0'; subst h0'; exact absurd e1 (by decide)
        rw [if_neg this, e1]
      have z0 : FM t0 n1 s2 h x0 .nil 0 0 := by
        intro v ω _ _ o
        cases ω.length <;> cases o
      by_cases b0 : bit m 0 = true
      · by_cases b1 : bit m 1 = true
        · by_cases b2 : bit m 2 = true
          · rw [if_pos b0, if_pos b1, if_pos b2] at nb
            have nb : nlb m = 3 := nb
            rw [rc3 nb] at hk ⊢
            obtain ⟨x1, p, hp, fp⟩ := ih 0 x (by omega) h0 b0 (by omega)
            obtain ⟨y1, q, hq, fq⟩ := ih 1 y (by omega) h1 b1 (by omega)
            obtain ⟨z1, r, hr', fr⟩ := ih 2 z (by omega) h2 b2 (by omega)
            obtain ⟨v, hv', g1, g2⟩ := dom_ex ((frc_p hc x1 y1 (by omega)).1 p hp q hq)
            rw [if_neg (by omega), if_neg (by omega), if_neg (by omega)] at hn
            have g := FM_rec (t0 := t0) (n1 := n1) (s2 := s2) (h := h) (x0 := x0) (x := x) (y := y) (z := z) hm (fun _ => fp) (fun _ => fq) (fun _ => fr)
            rw [show 7 + (tch x + (tch y + tch z)) = (tch x + tch y) + tch z + 7 by omega]
            exact fin (g.mono (show p.1 + (q.1 + r.1) ≤ v.1 + r.1 by omega) (show n1 (8 + m) + (p.2 + (q.2 + r.2)) ≤ r3 + (v.2 + r.2) by omega)) ((frc_p hc (by omega) z1 (by omega)).2.2.2 (by omega) v hv' r hr')
          · rw [if_pos b0, if_pos b1, if_neg b2] at nb
            have nb : nlb m = 2 := nb
            have e2 := nil 2 z h2 b2
            rw [rc2 nb] at hk ⊢
            obtain ⟨x1, p, hp, fp⟩ := ih 0 x (by omega) h0 b0 (by omega)
            obtain ⟨y1, q, hq, fq⟩ := ih 1 y (by omega) h1 b1 (by omega)
            have g := FM_rec (t0 := t0) (n1 := n1) (s2 := s2) (h := h) (x0 := x0) (x := x) (y := y) (z := z) (l2 := 0) (c2 := 0) hm (fun _ => fp) (fun _ => fq) (fun b => absurd b b2)
            rw [show 5 + (tch x + (tch y + tch z)) = tch x + tch y + 5 by omega]
            exact two x y p q nb x1 y1 hp hq (by omega) g
        · by_cases b2 : bit m 2 = true
          · rw [if_pos b0, if_neg b1, if_pos b2] at nb
            have nb : nlb m = 2 := nb
            have e1 := nil 1 y h1 b1
            rw [rc2 nb] at hk ⊢
            obtain ⟨x1, p, hp, fp⟩ := ih 0 x (by omega) h0 b0 (by omega)
            obtain ⟨z1, r, hr', fr⟩ := ih 2 z (by omega) h2 b2 (by omega)
            have g := FM_rec (t0 := t0) (n1 := n1) (s2 := s2) (h := h) (x0 := x0) (x := x) (y := y) (z := z) (l1 := 0) (c1 := 0) hm (fun _ => fp) (fun b => absurd b b1) (fun _ => fr)
            rw [show 5 + (tch x + (tch y + tch z)) = tch x + tch z + 5 by omega]
            exact two x z p r nb x1 z1 hp hr' (by omega) (g.mono (by omega) (by omega))
          · rw [if_pos b0, if_neg b1, if_neg b2] at nb
            have nb : nlb m = 1 := nb
            have e1 := nil 1 y h1 b1
            have e2 := nil 2 z h2 b2
            rw [rc1 nb] at hk ⊢
            obtain ⟨x1, p, hp, fp⟩ := ih 0 x (by omega) h0 b0 (by omega)
            have g := FM_rec (t0 := t0) (n1 := n1) (s2 := s2) (h := h) (x0 := x0) (x := x) (y := y) (z := z) (l1 := 0) (c1 := 0) (l2 := 0) (c2 := 0) hm (fun _ => fp) (fun b => absurd b b1) (fun b => absurd b b2)
            rw [show 3 + (tch x + (tch y + tch z)) = tch x + 3 by omega]
            exact one 0 x p nb x1 hp (by omega) (rc1 nb) (g.mono (by omega) (by omega))
      · by_cases b1 : bit m 1 = true
        · have e0 := nil 0 x h0 b0
          by_cases b2 : bit m 2 = true
          · rw [if_neg b0, if_pos b1, if_pos b2] at nb
            have nb : nlb m = 2 := nb
            rw [rc2 nb] at hk ⊢
            obtain ⟨y1, q, hq, fq⟩ := ih 1 y (by omega) h1 b1 (by omega)
            obtain ⟨z1, r, hr', fr⟩ := ih 2 z (by omega) h2 b2 (by omega)
            have g := FM_rec (t0 := t0) (n1 := n1) (s2 := s2) (h := h) (x0 := x0) (x := x) (y := y) (z := z) (l0 := 0) (c0 := 0) hm (fun b => absurd b b0) (fun _ => fq) (fun _ => fr)
            rw [show 5 + (tch x + (tch y + tch z)) = tch y + tch z + 5 by omega]
            exact two y z q r nb y1 z1 hq hr' (by omega) (g.mono (by omega) (by omega))
          · rw [if_neg b0, if_pos b1, if_neg b2] at nb
            have nb : nlb m = 1 := nb
            have e2 := nil 2 z h2 b2
            rw [rc1 nb] at hk ⊢
            obtain ⟨y1, q, hq, fq⟩ := ih 1 y (by omega) h1 b1 (by omega)
            have g := FM_rec (t0 := t0) (n1 := n1) (s2 := s2) (h := h) (x0 := x0) (x := x) (y := y) (z := z) (l0 := 0) (c0 := 0) (l2 := 0) (c2 := 0) hm (fun b => absurd b b0) (fun _ => fq) (fun b => absurd b b2)
            rw [show 3 + (tch x + (tch y + tch z)) = tch y + 3 by omega]
            exact one 1 y q nb y1 hq (by omega) (rc1 nb) (g.mono (by omega) (by omega))
        · have e0 := nil 0 x h0 b0
          have e1 := nil 1 y h1 b1
          by_cases b2 : bit m 2 = true
          · rw [if_neg b0, if_neg b1, if_pos b2] at nb
            have nb : nlb m = 1 := nb
            rw [rc1 nb] at hk ⊢
            obtain ⟨z1, r, hr', fr⟩ := ih 2 z (by omega) h2 b2 (by omega)
            have g := FM_rec (t0 := t0) (n1 := n1) (s2 := s2) (h := h) (x0 := x0) (x := x) (y := y) (z := z) (l0 := 0) (c0 := 0) (l1 := 0) (c1 := 0) hm (fun b => absurd b b0) (fun b => absurd b b1) (fun _ => fr)
            rw [show 3 + (tch x + (tch y + tch z)) = tch z + 3 by omega]
            exact one 2 z r nb z1 hr' (by omega) (rc1 nb) (g.mono (by omega) (by omega))
          · rw [if_neg b0, if_neg b1, if_neg b2] at nb
            have nb : nlb m = 0 := nb
            have e2 := nil 2 z h2 b2
            have em : m = 0 := by
              rcases nlb_cases m hm with h' | h' | h' | h'
              · exact h'.2
              · omega
              · omega
              · omega
            have rc0 : rch m = 2 := by unfold rch; rw [if_pos em]
            rw [rc0] at hk ⊢
            have g := FM_rec (t0 := t0) (n1 := n1) (s2 := s2) (h := h) (x0 := x0) (x := x) (y := y) (z := z) (l0 := 0) (c0 := 0) (l1 := 0) (c1 := 0) (l2 := 0) (c2 := 0) hm (fun b => absurd b b0) (fun b => absurd b b1) (fun b => absurd b b2)
            rw [if_pos nb] at hn
            rw [show 2 + (tch x + (tch y + tch z)) = 2 by omega]
            exact fin (g.mono (Nat.le_refl _) (show n1 (8 + m) + (0 + (0 + 0)) ≤ r0 by omega)) ((frc_0 hc (by decide) (by decide)).2.2 (by decide))
end PmKj
