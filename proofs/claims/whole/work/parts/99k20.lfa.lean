/-! LEAVES AND THE REST, by characters. -/
section PmKm
variable {F G : FrT} {t0 fn s2 hv r0 r1 r2 r3 : Nat} {n1 : Nat → Nat}
def Lfa (t0 : Nat) (n1 : Nat → Nat) (s2 hv : Nat) (t : Ty) (l a : Nat) : Prop := flv t ≤ l ∧ fav t0 n1 s2 hv t ≤ a
theorem Lfa.mono {t : Ty} {l a l' a' : Nat} (f : Lfa t0 n1 s2 hv t l a) (h1 : l ≤ l') (h2 : a ≤ a') : Lfa t0 n1 s2 hv t l' a' := ⟨Nat.le_trans f.1 h1, Nat.le_trans f.2 h2⟩
theorem Lfa_top : Lfa t0 n1 s2 hv tTop 0 t0 := ⟨by rw [flv_top]; exact Nat.le_refl _, by rw [fav_top]; exact Nat.le_refl _⟩
theorem Lfa_var (k : Nat) : Lfa t0 n1 s2 hv (tVar k) 1 0 := ⟨by rw [flv_var]; exact Nat.le_refl _, by rw [fav_var]; exact Nat.le_refl _⟩
theorem Lfa_fun {a b : Ty} {l1 l2 c1 c2 : Nat} (f : Lfa t0 n1 s2 hv a l1 c1) (g : Lfa t0 n1 s2 hv b l2 c2) : Lfa t0 n1 s2 hv (tFun a b) (l1 + l2) (n1 1 + c1 + c2) := by
  obtain ⟨f1, f2⟩ := f
  obtain ⟨g1, g2⟩ := g
  exact ⟨by rw [flv_fun]; omega, by rw [fav_fun]; omega⟩
theorem Lfa_all {a b : Ty} {l1 l2 c1 c2 : Nat} (f : Lfa t0 n1 s2 hv a l1 c1) (g : Lfa t0 n1 s2 hv b l2 c2) : Lfa t0 n1 s2 hv (tAll a b) (l2 * max 1 l1) (s2 + c2 + l2 * (hv + c1)) := by
  obtain ⟨f1, f2⟩ := f
  obtain ⟨g1, g2⟩ := g
  refine ⟨by rw [flv_all]; exact Nat.mul_le_mul g1 (by omega), ?_⟩
  rw [fav_all]
  have : flv b * (hv + fav t0 n1 s2 hv a) ≤ l2 * (hv + c1) := Nat.mul_le_mul g1 (by omega)
  omega
theorem Lfa_rec {m d : Nat} {x y z : Ty} {l0 l1 l2 c0 c1 c2 : Nat} (o0 : okl d m 0 x) (o1 : okl d m 1 y) (o2 : okl d m 2 z) (f0 : bit m 0 = true → Lfa t0 n1 s2 hv x l0 c0) (f1 : bit m 1 = true → Lfa t0 n1 s2 hv y l1 c1) (f2 : bit m 2 = true → Lfa t0 n1 s2 hv z l2 c2) : Lfa t0 n1 s2 hv (tRec m x y z) (l0 + (l1 + l2)) (n1 (8 + m) + (c0 + (c1 + c2))) := by
  have key : ∀ (i l c : Nat) (p : Ty), okl d m i p → (bit m i = true → Lfa t0 n1 s2 hv p l c) → Lfa t0 n1 s2 hv p l c := by
    intro i l c p ho f
    unfold okl at ho
    by_cases hb : bit m i = true
    · exact f hb
    · rw [if_neg hb] at ho
      rw [ho]
      exact ⟨by rw [flv_nil]; exact Nat.zero_le _, by rw [fav_nil]; exact Nat.zero_le _⟩
  obtain ⟨a0, b0⟩ := key 0 l0 c0 x o0 f0
  obtain ⟨a1, b1⟩ := key 1 l1 c1 y o1 f1
  obtain ⟨a2, b2⟩ := key 2 l2 c2 z o2 f2
  exact ⟨by rw [flv_rec]; omega, by rw [fav_rec]; omega⟩
/-- the form of a type is in the table of its characters -/
theorem fr_lfa (hc : frc F G t0 fn s2 hv r0 r1 r2 r3 = true) (hf1 : n1 1 ≤ fn) (hr : ∀ m, m < 8 → n1 (8 + m) ≤ (if nlb m = 0 then r0 else if nlb m = 1 then r1 else if nlb m = 2 then r2 else r3)) : ∀ (f : Nat) (t : Ty) (d : Nat), (flat t).length ≤ f → ok d t = true → tch t ≤ 56 → ∃ p ∈ frg F (tch t), Lfa t0 n1 s2 hv t p.1 p.2
  | 0, t, d, hf, o, _ => by have := flat_pos o; omega
  | f + 1, t, d, hf, o, hk => by
    have fin : ∀ {l a : Nat} {t : Ty} {k : Nat}, Lfa t0 n1 s2 hv t l a → dom l a (frg F k) = true → ∃ p ∈ frg F k, Lfa t0 n1 s2 hv t p.1 p.2 := by
      intro l a t k g hd
      obtain ⟨p, hp, h1, h2⟩ := dom_ex hd
      exact ⟨p, hp, g.mono h1 h2⟩
    rcases ok_cases o with rfl | ⟨j, hj, rfl⟩ | ⟨a, c, rfl, ha, hb⟩ | ⟨a, c, rfl, ha, hb⟩ | ⟨m, x, y, z, hm, rfl, h0, h1, h2⟩
    · exact fin Lfa_top (frc_0 hc (by decide) hk).1
    · exact fin (Lfa_var j) (frc_0 hc (show 1 ≤ tch (tVar j) from Nat.le_refl 1) hk).2.1
    · rw [flat_fun, List.length_cons, List.length_append] at hf
      rw [tch_fun] at hk ⊢
      have pa := tch_pos ha
      have pc := tch_pos hb
      obtain ⟨p, hp, fp⟩ := fr_lfa hc hf1 hr f a d (by omega) ha (by omega)
      obtain ⟨q, hq, fq⟩ := fr_lfa hc hf1 hr f c d (by omega) hb (by omega)
      rw [show 3 + (tch a + tch c) = tch a + tch c + 3 by omega]
      exact fin ((Lfa_fun fp fq).mono (Nat.le_refl _) (show n1 1 + p.2 + q.2 ≤ fn + p.2 + q.2 by omega)) ((frc_p hc pa pc (by omega)).2.1 (by omega) p hp q hq)
    · rw [flat_all, List.length_cons, List.length_append] at hf
      rw [tch_all] at hk ⊢
      have pa := tch_pos ha
      have pc := tch_pos hb
      obtain ⟨p, hp, fp⟩ := fr_lfa hc hf1 hr f a d (by omega) ha (by omega)
      obtain ⟨q, hq, fq⟩ := fr_lfa hc hf1 hr f c (d + 1) (by omega) hb (by omega)
      rw [show 4 + (tch a + tch c) = tch a + tch c + 4 by omega]
      exact fin (Lfa_all fp fq) ((frc_p hc pa pc (by omega)).2.2.1 (by omega) p hp q hq)
    · rw [flat_rec, List.length_cons, List.length_append, List.length_append] at hf
      rw [tch_rec] at hk ⊢
      have hn := hr m hm
      have ih : ∀ (i : Nat) (p : Ty), (flat p).length ≤ f → okl d m i p → bit m i = true → tch p ≤ 56 → 1 ≤ tch p ∧ ∃ q ∈ frg F (tch p), Lfa t0 n1 s2 hv p q.1 q.2 := by
        intro i p hp ho hb hk
        unfold okl at ho
        rw [if_pos hb] at ho
        exact ⟨tch_pos ho, fr_lfa hc hf1 hr f p d hp ho hk⟩
      have nil : ∀ (i : Nat) (p : Ty), okl d m i p → ¬ bit m i = true → tch p = 0 := by
        intro i p ho hb
        unfold okl at ho
        rw [if_neg hb] at ho
        rw [ho]; rfl
      have nb : nlb m = (if bit m 0 then 1 else 0) + (if bit m 1 then 1 else 0) + (if bit m 2 then 1 else 0) := rfl
      -- one field
      have one : ∀ (i : Nat) (p : Ty) (q : Nat × Nat), nlb m = 1 → 1 ≤ tch p → q ∈ frg F (tch p) → tch p + 3 ≤ 56 → rch m = 3 → Lfa t0 n1 s2 hv (tRec m x y z) q.1 (n1 (8 + m) + q.2) → ∃ p' ∈ frg F (tch p + 3), Lfa t0 n1 s2 hv (tRec m x y z) p'.1 p'.2 := by
        intro i p q e1 h1 hq hk3 _ g
        rw [if_neg (by omega), if_pos e1] at hn
        exact fin (g.mono (Nat.le_refl _) (show n1 (8 + m) + q.2 ≤ r1 + q.2 by omega)) (frc_1 hc h1 hk3 hq)
      have two : ∀ (p p' : Ty) (q q' : Nat × Nat), nlb m = 2 → 1 ≤ tch p → 1 ≤ tch p' → q ∈ frg F (tch p) → q' ∈ frg F (tch p') → tch p + tch p' + 5 ≤ 56 → Lfa t0 n1 s2 hv (tRec m x y z) (q.1 + q'.1) (n1 (8 + m) + (q.2 + q'.2)) → ∃ v ∈ frg F (tch p + tch p' + 5), Lfa t0 n1 s2 hv (tRec m x y z) v.1 v.2 := by
        intro p p' q q' e1 h1 h1' hq hq' hk3 g
        rw [if_neg (by omega), if_neg (by omega), if_pos e1] at hn
        obtain ⟨v, hv', g1, g2⟩ := dom_ex ((frc_p hc h1 h1' (by omega)).1 q hq q' hq')
        exact fin (g.mono g1 (show n1 (8 + m) + (q.2 + q'.2) ≤ r2 + v.2 by omega)) (frc_2 hc (by omega) hk3 hv')
      have rc1 : nlb m = 1 → rch m = 3 := by
        intro e1
        unfold rch
        have : m ≠ 0 := by intro h0'; subst h0'; exact absurd e1 (by decide)
        rw [if_neg this, e1]
      have rc2 : nlb m = 2 → rch m = 5 := by
        intro e1
        unfold rch
        have : m ≠ 0 := by intro h0'; subst h0'; exact absurd e1 (by decide)
        rw [if_neg this, e1]
      have rc3 : nlb m = 3 → rch m = 7 := by
        intro e1
        unfold rch
        have : m ≠ 0 := by intro h0'; subst h0'; exact absurd e1 (by decide)
        rw [if_neg this, e1]
      by_cases b0 : bit m 0 = true
      · by_cases b1 : bit m 1 = true
        · by_cases b2 : bit m 2 = true
          · rw [if_pos b0, if_pos b1, if_pos b2] at nb
            have nb : nlb m = 3 := nb
            rw [rc3 nb] at hk ⊢
            obtain ⟨x1, p, hp, fp⟩ := ih 0 x (by omega) h0 b0 (by omega)
            obtain ⟨y1, q, hq, fq⟩ := ih 1 y (by omega) h1 b1 (by omega)
            obtain ⟨z1, r, hr', fr⟩ := ih 2 z (by omega) h2 b2 (by omega)
            obtain ⟨v, hv', g1, g2⟩ := dom_ex ((frc_p hc x1 y1 (by omega)).1 p hp q hq)
            rw [if_neg (by omega), if_neg (by omega), if_neg (by omega)] at hn
            have g := Lfa_rec (t0 := t0) (n1 := n1) (s2 := s2) (hv := hv) (x := x) (y := y) (z := z) h0 h1 h2 (fun _ => fp) (fun _ => fq) (fun _ => fr)
            rw [show 7 + (tch x + (tch y + tch z)) = (tch x + tch y) + tch z + 7 by omega]
            exact fin (g.mono (show p.1 + (q.1 + r.1) ≤ v.1 + r.1 by omega) (show n1 (8 + m) + (p.2 + (q.2 + r.2)) ≤ r3 + (v.2 + r.2) by omega)) ((frc_p hc (by omega) z1 (by omega)).2.2.2 (by omega) v hv' r hr')
          · rw [if_pos b0, if_pos b1, if_neg b2] at nb
            have nb : nlb m = 2 := nb
            have e2 := nil 2 z h2 b2
            rw [rc2 nb] at hk ⊢
            obtain ⟨x1, p, hp, fp⟩ := ih 0 x (by omega) h0 b0 (by omega)
            obtain ⟨y1, q, hq, fq⟩ := ih 1 y (by omega) h1 b1 (by omega)
            have g := Lfa_rec (t0 := t0) (n1 := n1) (s2 := s2) (hv := hv) (x := x) (y := y) (z := z) (l2 := 0) (c2 := 0) h0 h1 h2 (fun _ => fp) (fun _ => fq) (fun b => absurd b b2)
            rw [show 5 + (tch x + (tch y + tch z)) = tch x + tch y + 5 by omega]
            exact two x y p q nb x1 y1 hp hq (by omega) g
        · by_cases b2 : bit m 2 = true
          · rw [if_pos b0, if_neg b1, if_pos b2] at nb
            have nb : nlb m = 2 := nb
            have e1 := nil 1 y h1 b1
            rw [rc2 nb] at hk ⊢
            obtain ⟨x1, p, hp, fp⟩ := ih 0 x (by omega) h0 b0 (by omega)
            obtain ⟨z1, r, hr', fr⟩ := ih 2 z (by omega) h2 b2 (by omega)
            have g := Lfa_rec (t0 := t0) (n1 := n1) (s2 := s2) (hv := hv) (x := x) (y := y) (z := z) (l1 := 0) (c1 := 0) h0 h1 h2 (fun _ => fp) (fun b => absurd b b1) (fun _ => fr)
            rw [show 5 + (tch x + (tch y + tch z)) = tch x + tch z + 5 by omega]
            exact two x z p r nb x1 z1 hp hr' (by omega) (g.mono (by omega) (by omega))
          · rw [if_pos b0, if_neg b1, if_neg b2] at nb
            have nb : nlb m = 1 := nb
            have e1 := nil 1 y h1 b1
            have e2 := nil 2 z h2 b2
            rw [rc1 nb] at hk ⊢
            obtain ⟨x1, p, hp, fp⟩ := ih 0 x (by omega) h0 b0 (by omega)
            have g := Lfa_rec (t0 := t0) (n1 := n1) (s2 := s2) (hv := hv) (x := x) (y := y) (z := z) (l1 := 0) (c1 := 0) (l2 := 0) (c2 := 0) h0 h1 h2 (fun _ => fp) (fun b => absurd b b1) (fun b => absurd b b2)
            rw [show 3 + (tch x + (tch y + tch z)) = tch x + 3 by omega]
            exact one 0 x p nb x1 hp (by omega) (rc1 nb) (g.mono (by omega) (by omega))
      · by_cases b1 : bit m 1 = true
        · have e0 := nil 0 x h0 b0
          by_cases b2 : bit m 2 = true
          · rw [if_neg b0, if_pos b1, if_pos b2] at nb
            have nb : nlb m = 2 := nb
            rw [rc2 nb] at hk ⊢
            obtain ⟨y1, q, hq, fq⟩ := ih 1 y (by omega) h1 b1 (by omega)
            obtain ⟨z1, r, hr', fr⟩ := ih 2 z (by omega) h2 b2 (by omega)
            have g := Lfa_rec (t0 := t0) (n1 := n1) (s2 := s2) (hv := hv) (x := x) (y := y) (z := z) (l0 := 0) (c0 := 0) h0 h1 h2 (fun b => absurd b b0) (fun _ => fq) (fun _ => fr)
            rw [show 5 + (tch x + (tch y + tch z)) = tch y + tch z + 5 by omega]
            exact two y z q r nb y1 z1 hq hr' (by omega) (g.mono (by omega) (by omega))
          · rw [if_neg b0, if_pos b1, if_neg b2] at nb
            have nb : nlb m = 1 := nb
            have e2 := nil 2 z h2 b2
            rw [rc1 nb] at hk ⊢
            obtain ⟨y1, q, hq, fq⟩ := ih 1 y (by omega) h1 b1 (by omega)
            have g := Lfa_rec (t0 := t0) (n1 := n1) (s2 := s2) (hv := hv) (x := x) (y := y) (z := z) (l0 := 0) (c0 := 0) (l2 := 0) (c2 := 0) h0 h1 h2 (fun b => absurd b b0) (fun _ => fq) (fun b => absurd b b2)
            rw [show 3 + (tch x + (tch y + tch z)) = tch y + 3 by omega]
            exact one 1 y q nb y1 hq (by omega) (rc1 nb) (g.mono (by omega) (by omega))
        · have e0 := nil 0 x h0 b0
          have e1 := nil 1 y h1 b1
          by_cases b2 : bit m 2 = true
          · rw [if_neg b0, if_neg b1, if_pos b2] at nb
            have nb : nlb m = 1 := nb
            rw [rc1 nb] at hk ⊢
            obtain ⟨z1, r, hr', fr⟩ := ih 2 z (by omega) h2 b2 (by omega)
            have g := Lfa_rec (t0 := t0) (n1 := n1) (s2 := s2) (hv := hv) (x := x) (y := y) (z := z) (l0 := 0) (c0 := 0) (l1 := 0) (c1 := 0) h0 h1 h2 (fun b => absurd b b0) (fun b => absurd b b1) (fun _ => fr)
            rw [show 3 + (tch x + (tch y + tch z)) = tch z + 3 by omega]
            exact one 2 z r nb z1 hr' (by omega) (rc1 nb) (g.mono (by omega) (by omega))
          · rw [if_neg b0, if_neg b1, if_neg b2] at nb
            have nb : nlb m = 0 := nb
            have e2 := nil 2 z h2 b2
            have em : m = 0 := by
              rcases nlb_cases m hm with h' | h' | h' | h'
              · exact h'.2
              · omega
              · omega
              · omega
            have rc0 : rch m = 2 := by unfold rch; rw [if_pos em]
            rw [rc0] at hk ⊢
            have g := Lfa_rec (t0 := t0) (n1 := n1) (s2 := s2) (hv := hv) (x := x) (y := y) (z := z) (l0 := 0) (c0 := 0) (l1 := 0) (c1 := 0) (l2 := 0) (c2 := 0) h0 h1 h2 (fun b => absurd b b0) (fun b => absurd b b1) (fun b => absurd b b2)
            rw [if_pos nb] at hn
            rw [show 2 + (tch x + (tch y + tch z)) = 2 by omega]
            exact fin (g.mono (Nat.le_refl _) (show n1 (8 + m) + (0 + (0 + 0)) ≤ r0 by omega)) ((frc_0 hc (by decide) (by decide)).2.2 (by decide))
end PmKm
