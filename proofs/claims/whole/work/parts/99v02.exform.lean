/-! EXACT FORMS BY CHARACTERS: every type has one of the table. -/
def XFm (t0 : Nat) (n1 : Nat → Nat) (s2 hv d : Nat) (t : Ty) (l a : Nat) : Prop := xt d t ≤ l ∧ xa t0 n1 s2 hv d t ≤ a
section PmVd
variable {t0 s2 hv d : Nat} {n1 : Nat → Nat} {t a b : Ty} {l l1 l2 c c1 c2 : Nat}
theorem XFm.mono (f : XFm t0 n1 s2 hv d t l c) (h1 : l ≤ l1) (h2 : c ≤ c1) : XFm t0 n1 s2 hv d t l1 c1 := ⟨Nat.le_trans f.1 h1, Nat.le_trans f.2 h2⟩
theorem XFm_top : XFm t0 n1 s2 hv d tTop 0 t0 := ⟨by rw [xt_top]; exact Nat.le_refl _, by rw [xa_top]; exact Nat.le_refl _⟩
theorem XFm_var (k : Nat) : XFm t0 n1 s2 hv d (tVar k) 1 0 := ⟨xt_var d k, by rw [xa_var]; exact Nat.le_refl _⟩
theorem XFm_fun (f : XFm t0 n1 s2 hv d a l1 c1) (g : XFm t0 n1 s2 hv d b l2 c2) : XFm t0 n1 s2 hv d (tFun a b) (l1 + l2) (n1 1 + c1 + c2) := by
  obtain ⟨f1, f2⟩ := f
  obtain ⟨g1, g2⟩ := g
  exact ⟨by rw [xt_fun]; omega, by rw [xa_fun]; omega⟩
theorem XFm_all (f : XFm t0 n1 s2 hv d a l1 c1) (g : XFm t0 n1 s2 hv (d + 1) b l2 c2) : ∃ u, u ≤ l2 ∧ XFm t0 n1 s2 hv d (tAll a b) (l2 - u + u * l1) (s2 + c2 + u * (hv + max 1 c1)) := by
  obtain ⟨f1, f2⟩ := f
  obtain ⟨g1, g2⟩ := g
  rw [xt_xo] at g1
  refine ⟨xf (d + 1) d b, by omega, ?_, ?_⟩
  · rw [xt_all]
    have := Nat.mul_le_mul_left (xf (d + 1) d b) f1
    omega
  · rw [xa_all]
    have := Nat.mul_le_mul_left (xf (d + 1) d b) (show hv + max 1 (xa t0 n1 s2 hv d a) ≤ hv + max 1 c1 by omega)
    omega
theorem XFm_rec {m : Nat} {x y z : Ty} {l0 l1 l2 c0 c1 c2 : Nat} (o0 : okl d m 0 x) (o1 : okl d m 1 y) (o2 : okl d m 2 z) (_ : m < 8) (f0 : bit m 0 = true → XFm t0 n1 s2 hv d x l0 c0) (f1 : bit m 1 = true → XFm t0 n1 s2 hv d y l1 c1) (f2 : bit m 2 = true → XFm t0 n1 s2 hv d z l2 c2) : XFm t0 n1 s2 hv d (tRec m x y z) (l0 + (l1 + l2)) (n1 (8 + m) + (c0 + (c1 + c2))) := by
  have key : ∀ (i l c : Nat) (p : Ty), okl d m i p → (bit m i = true → XFm t0 n1 s2 hv d p l c) → xt d p ≤ l ∧ xa t0 n1 s2 hv d p ≤ c := by
    intro i l c p ho f
    unfold okl at ho
    by_cases hb : bit m i = true
    · exact f hb
    · rw [if_neg hb] at ho
      rw [ho, xt_nil, xa_nil]
      exact ⟨Nat.zero_le _, Nat.zero_le _⟩
  obtain ⟨a0, b0⟩ := key 0 l0 c0 x o0 f0
  obtain ⟨a1, b1⟩ := key 1 l1 c1 y o1 f1
  obtain ⟨a2, b2⟩ := key 2 l2 c2 z o2 f2
  exact ⟨by rw [xt_rec]; omega, by rw [xa_rec]; omega⟩
end PmVd
/-- a header's leaves: split in every way where the bound has none -/
def hsp (s2 hv : Nat) (p q : Nat × Nat) (L : List (Nat × Nat)) : Bool := if p.1 = 0 then (List.range (q.1 + 1)).all (fun u => dom (q.1 - u) (s2 + q.2 + u * (hv + max 1 p.2)) L) else dom (q.1 * p.1) (s2 + q.2 + q.1 * (hv + max 1 p.2)) L
theorem hsp_dom {s2 hv u : Nat} {p q : Nat × Nat} {L : List (Nat × Nat)} (h : hsp s2 hv p q L = true) (hu : u ≤ q.1) : ∃ v ∈ L, q.1 - u + u * p.1 ≤ v.1 ∧ s2 + q.2 + u * (hv + max 1 p.2) ≤ v.2 := by
  unfold hsp at h
  by_cases e : p.1 = 0
  · rw [if_pos e] at h
    obtain ⟨v, hv', h1, h2⟩ := dom_ex (rng_all h (i := u) (by omega))
    refine ⟨v, hv', ?_, h2⟩
    rw [e, Nat.mul_zero]
    exact h1
  · rw [if_neg e] at h
    obtain ⟨v, hv', h1, h2⟩ := dom_ex h
    have m2 := Nat.mul_le_mul_right (hv + max 1 p.2) hu
    refine ⟨v, hv', Nat.le_trans ?_ h1, by omega⟩
    obtain ⟨k, hk⟩ : ∃ k, p.1 = k + 1 := ⟨p.1 - 1, by omega⟩
    rw [hk, Nat.mul_add, Nat.mul_add, Nat.mul_one, Nat.mul_one]
    have := Nat.mul_le_mul_right k hu
    omega
/-- the tables are closed, a header's leaves split in every way -/
def xrc (F G : FrT) (t0 fn s2 hv r0 r1 r2 r3 : Nat) : Bool :=
  (List.range 40).all (fun i => dom 0 t0 (frg F (i + 1)) && (dom 1 0 (frg F (i + 1)) && (decide (i = 0) || dom 0 r0 (frg F (i + 1))))) &&
  ((List.range 37).all (fun i => (frg F (i + 1)).all (fun p => dom p.1 (r1 + p.2) (frg F (i + 4)))) &&
  ((List.range 35).all (fun i => (frg G (i + 1)).all (fun p => dom p.1 (r2 + p.2) (frg F (i + 6)))) &&
  (List.range 40).all (fun i => (List.range (39 - i)).all (fun j =>
    ((frg F (i + 1)).all (fun p => (frg F (j + 1)).all (fun q => dom (p.1 + q.1) (p.2 + q.2) (frg G (i + j + 2))))) &&
    ((decide (35 < i + j) || (frg F (i + 1)).all (fun p => (frg F (j + 1)).all (fun q => dom (p.1 + q.1) (fn + p.2 + q.2) (frg F (i + j + 5))))) &&
    ((decide (34 < i + j) || (frg F (i + 1)).all (fun p => (frg F (j + 1)).all (fun q => hsp s2 hv p q (frg F (i + j + 6))))) &&
    (decide (31 < i + j) || (frg G (i + 1)).all (fun p => (frg F (j + 1)).all (fun q => dom (p.1 + q.1) (r3 + (p.2 + q.2)) (frg F (i + j + 9)))))))))))
section PmVb
variable {F G : FrT} {t0 fn s2 hv r0 r1 r2 r3 : Nat}
theorem xrc_0 (h : xrc F G t0 fn s2 hv r0 r1 r2 r3 = true) {k : Nat} (k1 : 1 ≤ k) (k2 : k ≤ 40) : dom 0 t0 (frg F k) = true ∧ dom 1 0 (frg F k) = true ∧ (2 ≤ k → dom 0 r0 (frg F k) = true) := by
  unfold xrc at h
  rw [Bool.and_eq_true] at h
  have q := rng_all h.1 (i := k - 1) (by omega)
  rw [Bool.and_eq_true, Bool.and_eq_true, show k - 1 + 1 = k by omega] at q
  refine ⟨q.1, q.2.1, fun k3 => ?_⟩
  have q := q.2.2
  rw [Bool.or_eq_true, decide_eq_true_iff] at q
  rcases q with q | q
  · omega
  · exact q
theorem xrc_1 (h : xrc F G t0 fn s2 hv r0 r1 r2 r3 = true) {k : Nat} (k1 : 1 ≤ k) (k2 : k + 3 ≤ 40) {p : Nat × Nat} (hp : p ∈ frg F k) : dom p.1 (r1 + p.2) (frg F (k + 3)) = true := by
  unfold xrc at h
  rw [Bool.and_eq_true, Bool.and_eq_true] at h
  have q := rng_all h.2.1 (i := k - 1) (by omega)
  rw [show k - 1 + 1 = k by omega, show k - 1 + 4 = k + 3 by omega] at q
  exact List.all_eq_true.mp q p hp
theorem xrc_2 (h : xrc F G t0 fn s2 hv r0 r1 r2 r3 = true) {k : Nat} (k1 : 1 ≤ k) (k2 : k + 5 ≤ 40) {p : Nat × Nat} (hp : p ∈ frg G k) : dom p.1 (r2 + p.2) (frg F (k + 5)) = true := by
  unfold xrc at h
  rw [Bool.and_eq_true, Bool.and_eq_true, Bool.and_eq_true] at h
  have q := rng_all h.2.2.1 (i := k - 1) (by omega)
  rw [show k - 1 + 1 = k by omega, show k - 1 + 6 = k + 5 by omega] at q
  exact List.all_eq_true.mp q p hp
theorem xrc_p (h : xrc F G t0 fn s2 hv r0 r1 r2 r3 = true) {i j : Nat} (i1 : 1 ≤ i) (j1 : 1 ≤ j) (k2 : i + j ≤ 40) : (∀ p ∈ frg F i, ∀ q ∈ frg F j, dom (p.1 + q.1) (p.2 + q.2) (frg G (i + j)) = true) ∧ (i + j + 3 ≤ 40 → ∀ p ∈ frg F i, ∀ q ∈ frg F j, dom (p.1 + q.1) (fn + p.2 + q.2) (frg F (i + j + 3)) = true) ∧ (i + j + 4 ≤ 40 → ∀ p ∈ frg F i, ∀ q ∈ frg F j, hsp s2 hv p q (frg F (i + j + 4)) = true) ∧ (i + j + 7 ≤ 40 → ∀ p ∈ frg G i, ∀ q ∈ frg F j, dom (p.1 + q.1) (r3 + (p.2 + q.2)) (frg F (i + j + 7)) = true) := by
  unfold xrc at h
  rw [Bool.and_eq_true, Bool.and_eq_true, Bool.and_eq_true] at h
  have q := rng_all (rng_all h.2.2.2 (i := i - 1) (by omega)) (i := j - 1) (by omega)
  rw [Bool.and_eq_true, Bool.and_eq_true, Bool.and_eq_true, Bool.or_eq_true, Bool.or_eq_true, Bool.or_eq_true, decide_eq_true_iff, decide_eq_true_iff, decide_eq_true_iff, show i - 1 + 1 = i by omega, show j - 1 + 1 = j by omega, show i - 1 + (j - 1) + 2 = i + j by omega, show i - 1 + (j - 1) + 5 = i + j + 3 by omega, show i - 1 + (j - 1) + 6 = i + j + 4 by omega, show i - 1 + (j - 1) + 9 = i + j + 7 by omega] at q
  obtain ⟨q1, q2, q3, q4⟩ := q
  refine ⟨fun p hp r hr => List.all_eq_true.mp (List.all_eq_true.mp q1 p hp) r hr, fun k3 p hp r hr => ?_, fun k3 p hp r hr => ?_, fun k3 p hp r hr => ?_⟩
  · rcases q2 with q | q
    · omega
    · exact List.all_eq_true.mp (List.all_eq_true.mp q p hp) r hr
  · rcases q3 with q | q
    · omega
    · exact List.all_eq_true.mp (List.all_eq_true.mp q p hp) r hr
  · rcases q4 with q | q
    · omega
    · exact List.all_eq_true.mp (List.all_eq_true.mp q p hp) r hr
end PmVb
section PmVc
variable {F G : FrT} {t0 fn s2 hv r0 r1 r2 r3 : Nat} {n1 : Nat → Nat}
/-- the form of a type is in the table of its characters -/
theorem xr_form (hc : xrc F G t0 fn s2 hv r0 r1 r2 r3 = true) (hf1 : n1 1 ≤ fn) (hr : ∀ m, m < 8 → n1 (8 + m) ≤ (if nlb m = 0 then r0 else if nlb m = 1 then r1 else if nlb m = 2 then r2 else r3)) : ∀ (f : Nat) (t : Ty) (d : Nat), (flat t).length ≤ f → ok d t = true → tch t ≤ 40 → ∃ p ∈ frg F (tch t), XFm t0 n1 s2 hv d t p.1 p.2
  | 0, t, d, hf, o, _ => by have := flat_pos o; omega
  | f + 1, t, d, hf, o, hk => by
    have fin : ∀ {l a : Nat} {t : Ty} {k : Nat}, XFm t0 n1 s2 hv d t l a → dom l a (frg F k) = true → ∃ p ∈ frg F k, XFm t0 n1 s2 hv d t p.1 p.2 := by
      intro l a t k g hd
      obtain ⟨p, hp, h1, h2⟩ := dom_ex hd
      exact ⟨p, hp, g.mono h1 h2⟩
    rcases ok_cases o with rfl | ⟨j, hj, rfl⟩ | ⟨a, c, rfl, ha, hb⟩ | ⟨a, c, rfl, ha, hb⟩ | ⟨m, x, y, z, hm, rfl, h0, h1, h2⟩
    · exact fin XFm_top (xrc_0 hc (by decide) hk).1
    · exact fin (XFm_var j) (xrc_0 hc (show 1 ≤ tch (tVar j) from Nat.le_refl 1) hk).2.1
    · rw [flat_fun, List.length_cons, List.length_append] at hf
      rw [tch_fun] at hk ⊢
      have pa := tch_pos ha
      have pc := tch_pos hb
      obtain ⟨p, hp, fp⟩ := xr_form hc hf1 hr f a d (by omega) ha (by omega)
      obtain ⟨q, hq, fq⟩ := xr_form hc hf1 hr f c d (by omega) hb (by omega)
      rw [show 3 + (tch a + tch c) = tch a + tch c + 3 by omega]
      exact fin ((XFm_fun fp fq).mono (Nat.le_refl _) (show n1 1 + p.2 + q.2 ≤ fn + p.2 + q.2 by omega)) ((xrc_p hc pa pc (by omega)).2.1 (by omega) p hp q hq)
    · rw [flat_all, List.length_cons, List.length_append] at hf
      rw [tch_all] at hk ⊢
      have pa := tch_pos ha
      have pc := tch_pos hb
      obtain ⟨p, hp, fp⟩ := xr_form hc hf1 hr f a d (by omega) ha (by omega)
      obtain ⟨q, hq, fq⟩ := xr_form hc hf1 hr f c (d + 1) (by omega) hb (by omega)
      rw [show 4 + (tch a + tch c) = tch a + tch c + 4 by omega]
      obtain ⟨u, hu, g⟩ := XFm_all fp fq
      obtain ⟨w, hw, g1, g2⟩ := hsp_dom ((xrc_p hc pa pc (by omega)).2.2.1 (by omega) p hp q hq) hu
      exact ⟨w, hw, g.mono g1 g2⟩
    · rw [flat_rec, List.length_cons, List.length_append, List.length_append] at hf
      rw [tch_rec] at hk ⊢
      have hn := hr m hm
      have ih : ∀ (i : Nat) (p : Ty), (flat p).length ≤ f → okl d m i p → bit m i = true → tch p ≤ 40 → 1 ≤ tch p ∧ ∃ q ∈ frg F (tch p), XFm t0 n1 s2 hv d p q.1 q.2 := by
        intro i p hp ho hb hk
        unfold okl at ho
        rw [if_pos hb] at ho
        exact ⟨tch_pos ho, xr_form hc hf1 hr f p d hp ho hk⟩
      have nil : ∀ (i : Nat) (p : Ty), okl d m i p → ¬ bit m i = true → tch p = 0 := by
        intro i p ho hb
        unfold okl at ho
        rw [if_neg hb] at ho
        rw [ho]; rfl
      have nb : nlb m = (if bit m 0 then 1 else 0) + (if bit m 1 then 1 else 0) + (if bit m 2 then 1 else 0) := rfl
      -- one field
      have one : ∀ (i : Nat) (p : Ty) (q : Nat × Nat), nlb m = 1 → 1 ≤ tch p → q ∈ frg F (tch p) → tch p + 3 ≤ 40 → rch m = 3 → XFm t0 n1 s2 hv d (tRec m x y z) q.1 (n1 (8 + m) + q.2) → ∃ p' ∈ frg F (tch p + 3), XFm t0 n1 s2 hv d (tRec m x y z) p'.1 p'.2 := by
        intro i p q e1 h1 hq hk3 _ g
        rw [if_neg (by omega), if_pos e1] at hn
        exact fin (g.mono (Nat.le_refl _) (show n1 (8 + m) + q.2 ≤ r1 + q.2 by omega)) (xrc_1 hc h1 hk3 hq)
      have two : ∀ (p p' : Ty) (q q' : Nat × Nat), nlb m = 2 → 1 ≤ tch p → 1 ≤ tch p' → q ∈ frg F (tch p) → q' ∈ frg F (tch p') → tch p + tch p' + 5 ≤ 40 → XFm t0 n1 s2 hv d (tRec m x y z) (q.1 + q'.1) (n1 (8 + m) + (q.2 + q'.2)) → ∃ v ∈ frg F (tch p + tch p' + 5), XFm t0 n1 s2 hv d (tRec m x y z) v.1 v.2 := by
        intro p p' q q' e1 h1 h1' hq hq' hk3 g
        rw [if_neg (by omega), if_neg (by omega), if_pos e1] at hn
        obtain ⟨v, hv', g1, g2⟩ := dom_ex ((xrc_p hc h1 h1' (by omega)).1 q hq q' hq')
        exact fin (g.mono g1 (show n1 (8 + m) + (q.2 + q'.2) ≤ r2 + v.2 by omega)) (xrc_2 hc (by omega) hk3 hv')
      have rc1 : nlb m = 1 → rch m = 3 := by
        intro e1
        unfold rch
        have : m ≠ 0 := by intro h0'; subst h0'; exact absurd e1 (by decide)
        rw [if_neg this, e1]
      have rc2 : nlb m = 2 → rch m = 5 := by
        intro e1
        unfold rch
        have : m ≠ 0 := by intro h0'; subst h0'; exact absurd e1 (by decide)
        rw [if_neg this, e1]
      have rc3 : nlb m = 3 → rch m = 7 := by
        intro e1
        unfold rch
        have : m ≠ 0 := by intro h0'; subst h0'; exact absurd e1 (by decide)
        rw [if_neg this, e1]
      by_cases b0 : bit m 0 = true
      · by_cases b1 : bit m 1 = true
        · by_cases b2 : bit m 2 = true
          · rw [if_pos b0, if_pos b1, if_pos b2] at nb
            have nb : nlb m = 3 := nb
            rw [rc3 nb] at hk ⊢
            obtain ⟨x1, p, hp, fp⟩ := ih 0 x (by omega) h0 b0 (by omega)
            obtain ⟨y1, q, hq, fq⟩ := ih 1 y (by omega) h1 b1 (by omega)
            obtain ⟨z1, r, hr', fr⟩ := ih 2 z (by omega) h2 b2 (by omega)
            obtain ⟨v, hv', g1, g2⟩ := dom_ex ((xrc_p hc x1 y1 (by omega)).1 p hp q hq)
            rw [if_neg (by omega), if_neg (by omega), if_neg (by omega)] at hn
            have g := XFm_rec (t0 := t0) (n1 := n1) (s2 := s2) (hv := hv) (d := d) (x := x) (y := y) (z := z) h0 h1 h2 hm (fun _ => fp) (fun _ => fq) (fun _ => fr)
            rw [show 7 + (tch x + (tch y + tch z)) = (tch x + tch y) + tch z + 7 by omega]
            exact fin (g.mono (show p.1 + (q.1 + r.1) ≤ v.1 + r.1 by omega) (show n1 (8 + m) + (p.2 + (q.2 + r.2)) ≤ r3 + (v.2 + r.2) by omega)) ((xrc_p hc (by omega) z1 (by omega)).2.2.2 (by omega) v hv' r hr')
          · rw [if_pos b0, if_pos b1, if_neg b2] at nb
            have nb : nlb m = 2 := nb
            have e2 := nil 2 z h2 b2
            rw [rc2 nb] at hk ⊢
            obtain ⟨x1, p, hp, fp⟩ := ih 0 x (by omega) h0 b0 (by omega)
            obtain ⟨y1, q, hq, fq⟩ := ih 1 y (by omega) h1 b1 (by omega)
            have g := XFm_rec (t0 := t0) (n1 := n1) (s2 := s2) (hv := hv) (d := d) (x := x) (y := y) (z := z) (l2 := 0) (c2 := 0) h0 h1 h2 hm (fun _ => fp) (fun _ => fq) (fun b => absurd b b2)
            rw [show 5 + (tch x + (tch y + tch z)) = tch x + tch y + 5 by omega]
            exact two x y p q nb x1 y1 hp hq (by omega) g
        · by_cases b2 : bit m 2 = true
          · rw [if_pos b0, if_neg b1, if_pos b2] at nb
            have nb : nlb m = 2 := nb
            have e1 := nil 1 y h1 b1
            rw [rc2 nb] at hk ⊢
            obtain ⟨x1, p, hp, fp⟩ := ih 0 x (by omega) h0 b0 (by omega)
            obtain ⟨z1, r, hr', fr⟩ := ih 2 z (by omega) h2 b2 (by omega)
            have g := XFm_rec (t0 := t0) (n1 := n1) (s2 := s2) (hv := hv) (d := d) (x := x) (y := y) (z := z) (l1 := 0) (c1 := 0) h0 h1 h2 hm (fun _ => fp) (fun b => absurd b b1) (fun _ => fr)
            rw [show 5 + (tch x + (tch y + tch z)) = tch x + tch z + 5 by omega]
            exact two x z p r nb x1 z1 hp hr' (by omega) (g.mono (by omega) (by omega))
          · rw [if_pos b0, if_neg b1, if_neg b2] at nb
            have nb : nlb m = 1 := nb
            have e1 := nil 1 y h1 b1
            have e2 := nil 2 z h2 b2
            rw [rc1 nb] at hk ⊢
            obtain ⟨x1, p, hp, fp⟩ := ih 0 x (by omega) h0 b0 (by omega)
            have g := XFm_rec (t0 := t0) (n1 := n1) (s2 := s2) (hv := hv) (d := d) (x := x) (y := y) (z := z) (l1 := 0) (c1 := 0) (l2 := 0) (c2 := 0) h0 h1 h2 hm (fun _ => fp) (fun b => absurd b b1) (fun b => absurd b b2)
            rw [show 3 + (tch x + (tch y + tch z)) = tch x + 3 by omega]
            exact one 0 x p nb x1 hp (by omega) (rc1 nb) (g.mono (by omega) (by omega))
      · by_cases b1 : bit m 1 = true
        · have e0 := nil 0 x h0 b0
          by_cases b2 : bit m 2 = true
          · rw [if_neg b0, if_pos b1, if_pos b2] at nb
            have nb : nlb m = 2 := nb
            rw [rc2 nb] at hk ⊢
            obtain ⟨y1, q, hq, fq⟩ := ih 1 y (by omega) h1 b1 (by omega)
            obtain ⟨z1, r, hr', fr⟩ := ih 2 z (by omega) h2 b2 (by omega)
            have g := XFm_rec (t0 := t0) (n1 := n1) (s2 := s2) (hv := hv) (d := d) (x := x) (y := y) (z := z) (l0 := 0) (c0 := 0) h0 h1 h2 hm (fun b => absurd b b0) (fun _ => fq) (fun _ => fr)
            rw [show 5 + (tch x + (tch y + tch z)) = tch y + tch z + 5 by omega]
            exact two y z q r nb y1 z1 hq hr' (by omega) (g.mono (by omega) (by omega))
          · rw [if_neg b0, if_pos b1, if_neg b2] at nb
            have nb : nlb m = 1 := nb
            have e2 := nil 2 z h2 b2
            rw [rc1 nb] at hk ⊢
            obtain ⟨y1, q, hq, fq⟩ := ih 1 y (by omega) h1 b1 (by omega)
            have g := XFm_rec (t0 := t0) (n1 := n1) (s2 := s2) (hv := hv) (d := d) (x := x) (y := y) (z := z) (l0 := 0) (c0 := 0) (l2 := 0) (c2 := 0) h0 h1 h2 hm (fun b => absurd b b0) (fun _ => fq) (fun b => absurd b b2)
            rw [show 3 + (tch x + (tch y + tch z)) = tch y + 3 by omega]
            exact one 1 y q nb y1 hq (by omega) (rc1 nb) (g.mono (by omega) (by omega))
        · have e0 := nil 0 x h0 b0
          have e1 := nil 1 y h1 b1
          by_cases b2 : bit m 2 = true
          · rw [if_neg b0, if_neg b1, if_pos b2] at nb
            have nb : nlb m = 1 := nb
            rw [rc1 nb] at hk ⊢
            obtain ⟨z1, r, hr', fr⟩ := ih 2 z (by omega) h2 b2 (by omega)
            have g := XFm_rec (t0 := t0) (n1 := n1) (s2 := s2) (hv := hv) (d := d) (x := x) (y := y) (z := z) (l0 := 0) (c0 := 0) (l1 := 0) (c1 := 0) h0 h1 h2 hm (fun b => absurd b b0) (fun b => absurd b b1) (fun _ => fr)
            rw [show 3 + (tch x + (tch y + tch z)) = tch z + 3 by omega]
            exact one 2 z r nb z1 hr' (by omega) (rc1 nb) (g.mono (by omega) (by omega))
          · rw [if_neg b0, if_neg b1, if_neg b2] at nb
            have nb : nlb m = 0 := nb
            have e2 := nil 2 z h2 b2
            have em : m = 0 := by
              rcases nlb_cases m hm with h' | h' | h' | h'
              · exact h'.2
              · omega
              · omega
              · omega
            have rc0 : rch m = 2 := by unfold rch; rw [if_pos em]
            rw [rc0] at hk ⊢
            have g := XFm_rec (t0 := t0) (n1 := n1) (s2 := s2) (hv := hv) (d := d) (x := x) (y := y) (z := z) (l0 := 0) (c0 := 0) (l1 := 0) (c1 := 0) (l2 := 0) (c2 := 0) h0 h1 h2 hm (fun b => absurd b b0) (fun b => absurd b b1) (fun b => absurd b b2)
            rw [if_pos nb] at hn
            rw [show 2 + (tch x + (tch y + tch z)) = 2 by omega]
            exact fin (g.mono (Nat.le_refl _) (show n1 (8 + m) + (0 + (0 + 0)) ≤ r0 by omega)) ((xrc_0 hc (by decide) (by decide)).2.2 (by decide))
end PmVc
