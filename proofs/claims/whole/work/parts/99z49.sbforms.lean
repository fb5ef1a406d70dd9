/-! EXACT FORMS OF TYPES THAT HOLD A SCHEME WITH A CERTAIN CLOSED BOUND. -/
section PmHw
variable {B : Ty} {t0 s2 hv : Nat} {n1 : Nat → Nat}
theorem sB_top : sB B tTop = false := by simp [tTop, sB]
theorem sB_var (k : Nat) : sB B (tVar k) = false := by simp [tVar, sB]
theorem sB_nil : sB B .nil = false := by simp [sB]
theorem fld_isB {d m i : Nat} {p : Ty} (o : okl d m i p) : (∀ q ∈ fld m i p, ok d q = true ∧ (flat q).length ≤ (flat p).length) ∧ (fld m i p).length = (if bit m i then 1 else 0) ∧ ((fld m i p).map (xt d)).sum = xt d p ∧ ((fld m i p).map (xa t0 n1 s2 hv d)).sum = xa t0 n1 s2 hv d p ∧ ((fld m i p).map tch).sum = tch p ∧ (fld m i p).any (sB B) = sB B p := by
  unfold okl at o
  unfold fld
  by_cases hb : bit m i = true
  · rw [if_pos hb] at o
    rw [if_pos hb, if_pos hb]
    refine ⟨fun q hq => ?_, rfl, by simp, by simp, by simp, by simp⟩
    rw [List.mem_singleton] at hq
    rw [hq]
    exact ⟨o, Nat.le_refl _⟩
  · rw [if_neg hb] at o
    rw [if_neg hb, if_neg hb, o, xt_nil, xa_nil, tch_nil, sB_nil]
    exact ⟨fun q hq => (by cases hq), rfl, rfl, rfl, rfl, rfl⟩
theorem rec_listB {d m : Nat} {x y z : Ty} (o0 : okl d m 0 x) (o1 : okl d m 1 y) (o2 : okl d m 2 z) : ∃ l : List Ty, (∀ q ∈ l, ok d q = true ∧ (flat q).length < (flat (tRec m x y z)).length) ∧ l.length = nlb m ∧ (l.map (xt d)).sum = xt d (tRec m x y z) ∧ n1 (8 + m) + (l.map (xa t0 n1 s2 hv d)).sum = xa t0 n1 s2 hv d (tRec m x y z) ∧ rch m + (l.map tch).sum = tch (tRec m x y z) ∧ l.any (sB B) = sB B (tRec m x y z) := by
  obtain ⟨a0, b0, c0, e0, f0, g0⟩ := fld_isB (B := B) (t0 := t0) (n1 := n1) (s2 := s2) (hv := hv) o0
  obtain ⟨a1, b1, c1, e1, f1, g1⟩ := fld_isB (B := B) (t0 := t0) (n1 := n1) (s2 := s2) (hv := hv) o1
  obtain ⟨a2, b2, c2, e2, f2, g2⟩ := fld_isB (B := B) (t0 := t0) (n1 := n1) (s2 := s2) (hv := hv) o2
  have lt : ∀ q : Ty, ((flat q).length ≤ (flat x).length ∨ (flat q).length ≤ (flat y).length ∨ (flat q).length ≤ (flat z).length) → (flat q).length < (flat (tRec m x y z)).length := by
    intro q hq
    rw [flat_rec, List.length_cons, List.length_append, List.length_append]
    omega
  refine ⟨fld m 0 x ++ (fld m 1 y ++ fld m 2 z), fun q hq => ?_, ?_, ?_, ?_, ?_, ?_⟩
  · rcases List.mem_append.mp hq with h | h
    · exact ⟨(a0 q h).1, lt q (Or.inl (a0 q h).2)⟩
    · rcases List.mem_append.mp h with h | h
      · exact ⟨(a1 q h).1, lt q (Or.inr (Or.inl (a1 q h).2))⟩
      · exact ⟨(a2 q h).1, lt q (Or.inr (Or.inr (a2 q h).2))⟩
  · rw [List.length_append, List.length_append, b0, b1, b2]
    unfold nlb
    omega
  · rw [List.map_append, List.map_append, List.sum_append, List.sum_append, c0, c1, c2, xt_rec]
  · rw [List.map_append, List.map_append, List.sum_append, List.sum_append, e0, e1, e2, xa_rec]
  · rw [List.map_append, List.map_append, List.sum_append, List.sum_append, f0, f1, f2, tch_rec]
  · rw [List.any_append, List.any_append, g0, g1, g2, sB_rec]
end PmHw
def xgc (be aB : Nat) (F Ff Gf : FrT) (fn s2 hv r1 r2 r3 : Nat) : Bool :=
  (List.range (36 - be)).all (fun j => (frg F (j + 1)).all (fun q => hsp s2 hv (0, aB) q (frg Ff (j + 5 + be)))) &&
  ((List.range 37).all (fun i => (frg Ff (i + 1)).all (fun p => dom p.1 (r1 + p.2) (frg Ff (i + 4)))) &&
  ((List.range 35).all (fun i => (frg Gf (i + 1)).all (fun p => dom p.1 (r2 + p.2) (frg Ff (i + 6)))) &&
  (List.range 40).all (fun i => (List.range (39 - i)).all (fun j =>
    ((frg Ff (i + 1)).all (fun p => (frg F (j + 1)).all (fun q => dom (p.1 + q.1) (p.2 + q.2) (frg Gf (i + j + 2))))) &&
    ((decide (35 < i + j) || (frg Ff (i + 1)).all (fun p => (frg F (j + 1)).all (fun q => dom (p.1 + q.1) (fn + p.2 + q.2) (frg Ff (i + j + 5))))) &&
    ((decide (34 < i + j) || ((frg Ff (i + 1)).all (fun p => (frg F (j + 1)).all (fun q => hsp s2 hv p q (frg Ff (i + j + 6)))) && (frg F (i + 1)).all (fun p => (frg Ff (j + 1)).all (fun q => hsp s2 hv p q (frg Ff (i + j + 6)))))) &&
    (decide (31 < i + j) || (frg Gf (i + 1)).all (fun p => (frg F (j + 1)).all (fun q => dom (p.1 + q.1) (r3 + (p.2 + q.2)) (frg Ff (i + j + 9)))))))))))
section PmHu
variable {F Ff Gf : FrT} {be aB fn s2 hv r1 r2 r3 : Nat}
theorem xgc_s (h : xgc be aB F Ff Gf fn s2 hv r1 r2 r3 = true) {k : Nat} (k1 : 1 ≤ k) (k2 : k + 4 + be ≤ 40) {q : Nat × Nat} (hq : q ∈ frg F k) : hsp s2 hv (0, aB) q (frg Ff (k + 4 + be)) = true := by
  unfold xgc at h
  rw [Bool.and_eq_true] at h
  have q := rng_all h.1 (i := k - 1) (by omega)
  rw [show k - 1 + 1 = k by omega, show k - 1 + 5 + be = k + 4 + be by omega] at q
  exact List.all_eq_true.mp q _ hq
theorem xgc_1 (h : xgc be aB F Ff Gf fn s2 hv r1 r2 r3 = true) {k : Nat} (k1 : 1 ≤ k) (k2 : k + 3 ≤ 40) {p : Nat × Nat} (hp : p ∈ frg Ff k) : dom p.1 (r1 + p.2) (frg Ff (k + 3)) = true := by
  unfold xgc at h
  rw [Bool.and_eq_true, Bool.and_eq_true] at h
  have q := rng_all h.2.1 (i := k - 1) (by omega)
  rw [show k - 1 + 1 = k by omega, show k - 1 + 4 = k + 3 by omega] at q
  exact List.all_eq_true.mp q p hp
theorem xgc_2 (h : xgc be aB F Ff Gf fn s2 hv r1 r2 r3 = true) {k : Nat} (k1 : 1 ≤ k) (k2 : k + 5 ≤ 40) {p : Nat × Nat} (hp : p ∈ frg Gf k) : dom p.1 (r2 + p.2) (frg Ff (k + 5)) = true := by
  unfold xgc at h
  rw [Bool.and_eq_true, Bool.and_eq_true, Bool.and_eq_true] at h
  have q := rng_all h.2.2.1 (i := k - 1) (by omega)
  rw [show k - 1 + 1 = k by omega, show k - 1 + 6 = k + 5 by omega] at q
  exact List.all_eq_true.mp q p hp
theorem xgc_p (h : xgc be aB F Ff Gf fn s2 hv r1 r2 r3 = true) {i j : Nat} (i1 : 1 ≤ i) (j1 : 1 ≤ j) (k2 : i + j ≤ 40) : (∀ p ∈ frg Ff i, ∀ q ∈ frg F j, dom (p.1 + q.1) (p.2 + q.2) (frg Gf (i + j)) = true) ∧ (i + j + 3 ≤ 40 → ∀ p ∈ frg Ff i, ∀ q ∈ frg F j, dom (p.1 + q.1) (fn + p.2 + q.2) (frg Ff (i + j + 3)) = true) ∧ (i + j + 4 ≤ 40 → (∀ p ∈ frg Ff i, ∀ q ∈ frg F j, hsp s2 hv p q (frg Ff (i + j + 4)) = true) ∧ ∀ p ∈ frg F i, ∀ q ∈ frg Ff j, hsp s2 hv p q (frg Ff (i + j + 4)) = true) ∧ (i + j + 7 ≤ 40 → ∀ p ∈ frg Gf i, ∀ q ∈ frg F j, dom (p.1 + q.1) (r3 + (p.2 + q.2)) (frg Ff (i + j + 7)) = true) := by
  unfold xgc at h
  rw [Bool.and_eq_true, Bool.and_eq_true, Bool.and_eq_true] at h
  have q := rng_all (rng_all h.2.2.2 (i := i - 1) (by omega)) (i := j - 1) (by omega)
  rw [Bool.and_eq_true, Bool.and_eq_true, Bool.and_eq_true, Bool.or_eq_true, Bool.or_eq_true, Bool.or_eq_true, decide_eq_true_iff, decide_eq_true_iff, decide_eq_true_iff, show i - 1 + 1 = i by omega, show j - 1 + 1 = j by omega, show i - 1 + (j - 1) + 2 = i + j by omega, show i - 1 + (j - 1) + 5 = i + j + 3 by omega, show i - 1 + (j - 1) + 6 = i + j + 4 by omega, show i - 1 + (j - 1) + 9 = i + j + 7 by omega] at q
  obtain ⟨q1, q2, q3, q4⟩ := q
  refine ⟨fun p hp r hr => List.all_eq_true.mp (List.all_eq_true.mp q1 p hp) r hr, fun k3 p hp r hr => ?_, fun k3 => ?_, fun k3 p hp r hr => ?_⟩
  · rcases q2 with q | q
    · omega
    · exact List.all_eq_true.mp (List.all_eq_true.mp q p hp) r hr
  · rcases q3 with q | q
    · omega
    · rw [Bool.and_eq_true] at q
      exact ⟨fun p hp r hr => List.all_eq_true.mp (List.all_eq_true.mp q.1 p hp) r hr, fun p hp r hr => List.all_eq_true.mp (List.all_eq_true.mp q.2 p hp) r hr⟩
  · rcases q4 with q | q
    · omega
    · exact List.all_eq_true.mp (List.all_eq_true.mp q p hp) r hr
end PmHu
section PmHv
variable {B : Ty} {F G Ff Gf : FrT} {be aB t0 fn s2 hv r0 r1 r2 r3 : Nat} {n1 : Nat → Nat}
/-- the form of such a type is in its table -/
theorem xg_form (hc : xrc F G t0 fn s2 hv r0 r1 r2 r3 = true) (hcf : xgc be aB F Ff Gf fn s2 hv r1 r2 r3 = true) (hmf : ∀ {k k2 : Nat}, k ≤ k2 → k2 ≤ 40 → ∀ v ∈ frg Ff k, ∃ w ∈ frg Ff k2, v.1 ≤ w.1 ∧ v.2 ≤ w.2) (hf1 : n1 1 ≤ fn) (hr : ∀ m, m < 8 → n1 (8 + m) ≤ (if nlb m = 0 then r0 else if nlb m = 1 then r1 else if nlb m = 2 then r2 else r3)) (hK : ok 0 B = true ∧ be ≤ tch B ∧ ∀ d, XFm t0 n1 s2 hv d B 0 aB) : ∀ (f : Nat) (t : Ty) (d : Nat), (flat t).length ≤ f → ok d t = true → tch t ≤ 40 → sB B t = true → ∃ p ∈ frg Ff (tch t), XFm t0 n1 s2 hv d t p.1 p.2
  | 0, t, d, hf, o, _, _ => by have := flat_pos o; omega
  | f + 1, t, d, hf, o, hk, hp => by
    have fin : ∀ {l a : Nat} {t : Ty} {k : Nat}, XFm t0 n1 s2 hv d t l a → dom l a (frg Ff k) = true → ∃ p ∈ frg Ff k, XFm t0 n1 s2 hv d t p.1 p.2 := by
      intro l a t k g hd
      obtain ⟨p, hp, h1, h2⟩ := dom_ex hd
      exact ⟨p, hp, g.mono h1 h2⟩
    have all : ∀ (t : Ty) (d : Nat), ok d t = true → tch t ≤ 40 → ∃ p ∈ frg F (tch t), XFm t0 n1 s2 hv d t p.1 p.2 := fun t d o hk => xr_form hc hf1 hr _ t d (Nat.le_refl _) o hk
    have ih := fun t d => xg_form hc hcf hmf hf1 hr hK f t d
    rcases ok_cases o with rfl | ⟨j, hj, rfl⟩ | ⟨a, c, rfl, ha, hb⟩ | ⟨a, c, rfl, ha, hb⟩ | ⟨m, x, y, z, hm, rfl, h0, h1, h2⟩
    · rw [sB_top] at hp; cases hp
    · rw [sB_var] at hp; cases hp
    · rw [flat_fun, List.length_cons, List.length_append] at hf
      rw [tch_fun] at hk ⊢
      have pa := tch_pos ha
      have pc := tch_pos hb
      rw [sB_fun, Bool.or_eq_true] at hp
      rcases hp with hp | hp
      · obtain ⟨p, hp', fp⟩ := ih a d (by omega) ha (by omega) hp
        obtain ⟨q, hq, fq⟩ := all c d hb (by omega)
        rw [show 3 + (tch a + tch c) = tch a + tch c + 3 by omega]
        exact fin ((XFm_fun fp fq).mono (Nat.le_refl _) (show n1 1 + p.2 + q.2 ≤ fn + p.2 + q.2 by omega)) ((xgc_p hcf pa pc (by omega)).2.1 (by omega) p hp' q hq)
      · obtain ⟨p, hp', fp⟩ := ih c d (by omega) hb (by omega) hp
        obtain ⟨q, hq, fq⟩ := all a d ha (by omega)
        rw [show 3 + (tch a + tch c) = tch c + tch a + 3 by omega]
        exact fin ((XFm_fun fq fp).mono (show q.1 + p.1 ≤ p.1 + q.1 by omega) (show n1 1 + q.2 + p.2 ≤ fn + p.2 + q.2 by omega)) ((xgc_p hcf pc pa (by omega)).2.1 (by omega) p hp' q hq)
    · rw [flat_all, List.length_cons, List.length_append] at hf
      rw [tch_all] at hk ⊢
      have pa := tch_pos ha
      have pc := tch_pos hb
      have fin2 : ∀ {p q : Nat × Nat} {k : Nat}, XFm t0 n1 s2 hv d a p.1 p.2 → XFm t0 n1 s2 hv (d + 1) c q.1 q.2 → hsp s2 hv p q (frg Ff k) = true → ∃ v ∈ frg Ff k, XFm t0 n1 s2 hv d (tAll a c) v.1 v.2 := by
        intro p q k fp fq hs
        obtain ⟨u, hu, g⟩ := XFm_all fp fq
        obtain ⟨v, hv', g1, g2⟩ := hsp_dom hs hu
        exact ⟨v, hv', g.mono g1 g2⟩
      rw [sB_all, Bool.or_eq_true, Bool.or_eq_true] at hp
      rcases hp with hp | hp | hp
      · obtain ⟨q, hq, fq⟩ := all c (d + 1) hb (by omega)
        have ea : a = B := by
          unfold tqB at hp
          rw [decide_eq_true_iff] at hp
          exact flat_eq ha hK.1 hp
        subst ea
        obtain ⟨v, hv', g⟩ := fin2 (p := (0, aB)) (k := tch c + 4 + be) (hK.2.2 d) fq (xgc_s hcf pc (by omega) hq)
        obtain ⟨v2, hv2, m1, m2⟩ := hmf (show tch c + 4 + be ≤ 4 + (tch a + tch c) by omega) (by omega) v hv'
        exact ⟨v2, hv2, g.mono m1 m2⟩
      · obtain ⟨p, hp', fp⟩ := ih a d (by omega) ha (by omega) hp
        obtain ⟨q, hq, fq⟩ := all c (d + 1) hb (by omega)
        rw [show 4 + (tch a + tch c) = tch a + tch c + 4 by omega]
        exact fin2 fp fq (((xgc_p hcf pa pc (by omega)).2.2.1 (by omega)).1 p hp' q hq)
      · obtain ⟨p, hp', fp⟩ := all a d ha (by omega)
        obtain ⟨q, hq, fq⟩ := ih c (d + 1) (by omega) hb (by omega) hp
        rw [show 4 + (tch a + tch c) = tch a + tch c + 4 by omega]
        exact fin2 fp fq (((xgc_p hcf pa pc (by omega)).2.2.1 (by omega)).2 p hp' q hq)
    · obtain ⟨l, l1, l2, l3, l4, l5, l6⟩ := rec_listB (B := B) (t0 := t0) (n1 := n1) (s2 := s2) (hv := hv) h0 h1 h2
      have hn := hr m hm
      rw [← l6, List.any_eq_true] at hp
      obtain ⟨p, hp1, hp2⟩ := hp
      have m0 : m ≠ 0 := by
        intro e
        have e2 : nlb m = 0 := by rw [e]; decide
        rw [e2] at l2
        rw [List.eq_nil_of_length_eq_zero l2] at hp1
        cases hp1
      have rc : rch m = 1 + 2 * nlb m := by unfold rch; rw [if_neg m0]
      have op := l1 p hp1
      have pp := tch_pos op.1
      have hk' := hk
      rw [← l5] at hk'
      -- the others
      have key : ∀ (l' : List Ty), l'.length + 1 = nlb m → (∀ q ∈ l', ok d q = true) → tch p + (l'.map tch).sum = (l.map tch).sum → xt d p + (l'.map (xt d)).sum = (l.map (xt d)).sum → xa t0 n1 s2 hv d p + (l'.map (xa t0 n1 s2 hv d)).sum = (l.map (xa t0 n1 s2 hv d)).sum → ∃ v ∈ frg Ff (tch (tRec m x y z)), XFm t0 n1 s2 hv d (tRec m x y z) v.1 v.2 := by
        intro l' e1 e2 e3 e4 e5
        have le : tch p ≤ 40 := by omega
        obtain ⟨v, hv', f1, f2⟩ := ih p d (by omega) op.1 le hp2
        rw [rc] at l5 hk'
        match l', e1, e2, e3, e4, e5 with
        | [], e1, e2, e3, e4, e5 =>
          simp only [List.map_nil, List.sum_nil, List.length_nil] at e1 e3 e4 e5
          rw [if_neg (by omega), if_pos (by omega)] at hn
          rw [← l5, show 1 + 2 * nlb m + (l.map tch).sum = tch p + 3 by omega]
          exact fin (show XFm t0 n1 s2 hv d (tRec m x y z) v.1 (r1 + v.2) from ⟨by omega, by omega⟩) (xgc_1 hcf pp (by omega) hv')
        | [q], e1, e2, e3, e4, e5 =>
          simp only [List.map_cons, List.map_nil, List.sum_cons, List.sum_nil, List.length_cons, List.length_nil] at e1 e3 e4 e5
          have oq := e2 q (by simp)
          have pq := tch_pos oq
          obtain ⟨w, hw, g1, g2⟩ := all q d oq (by omega)
          obtain ⟨u, hu, k1, k2⟩ := dom_ex ((xgc_p hcf pp pq (by omega)).1 v hv' w hw)
          rw [if_neg (by omega), if_neg (by omega), if_pos (by omega)] at hn
          rw [← l5, show 1 + 2 * nlb m + (l.map tch).sum = tch p + tch q + 5 by omega]
          exact fin (show XFm t0 n1 s2 hv d (tRec m x y z) u.1 (r2 + u.2) from ⟨by omega, by omega⟩) (xgc_2 hcf (by omega) (by omega) hu)
        | [q, q'], e1, e2, e3, e4, e5 =>
          simp only [List.map_cons, List.map_nil, List.sum_cons, List.sum_nil, List.length_cons, List.length_nil] at e1 e3 e4 e5
          have oq := e2 q (by simp)
          have pq := tch_pos oq
          have oq' := e2 q' (by simp)
          have pq' := tch_pos oq'
          obtain ⟨w, hw, g1, g2⟩ := all q d oq (by omega)
          obtain ⟨w', hw', g1', g2'⟩ := all q' d oq' (by omega)
          obtain ⟨u, hu, k1, k2⟩ := dom_ex ((xgc_p hcf pp pq (by omega)).1 v hv' w hw)
          rw [if_neg (by omega), if_neg (by omega), if_neg (by omega)] at hn
          rw [← l5, show 1 + 2 * nlb m + (l.map tch).sum = (tch p + tch q) + tch q' + 7 by omega]
          exact fin (show XFm t0 n1 s2 hv d (tRec m x y z) (u.1 + w'.1) (r3 + (u.2 + w'.2)) from ⟨by omega, by omega⟩) ((xgc_p hcf (by omega) pq' (by omega)).2.2.2 (by omega) u hu w' hw')
        | _ :: _ :: _ :: _, e1, _, _, _, _ =>
          have nb : nlb m ≤ 3 := by
            unfold nlb
            split <;> split <;> split <;> omega
          simp only [List.length_cons] at e1
          omega
      rw [flat_rec] at hf
      match l, l1, l2, l3, l4, l5, hp1, key with
      | [a], l1, l2, l3, l4, l5, hp1, key =>
        rw [List.mem_singleton] at hp1
        subst hp1
        exact key [] (by simpa using l2) (fun q hq => by cases hq) (by simp) (by simp) (by simp)
      | [a, b], l1, l2, l3, l4, l5, hp1, key =>
        rcases List.mem_cons.mp hp1 with e | e
        · subst e
          exact key [b] (by simpa using l2) (fun q hq => (l1 q (by simp at hq; simp [hq])).1) (by simp) (by simp) (by simp)
        · rw [List.mem_singleton] at e
          subst e
          exact key [a] (by simpa using l2) (fun q hq => (l1 q (by simp at hq; simp [hq])).1) (by simp; omega) (by simp; omega) (by simp; omega)
      | [a, b, c], l1, l2, l3, l4, l5, hp1, key =>
        rcases List.mem_cons.mp hp1 with e | e
        · subst e
          exact key [b, c] (by simpa using l2) (fun q hq => (l1 q (List.mem_cons_of_mem _ hq)).1) (by simp) (by simp) (by simp)
        · rcases List.mem_cons.mp e with e | e
          · subst e
            exact key [a, c] (by simpa using l2) (fun q hq => (l1 q (by rcases List.mem_cons.mp hq with e | e; exact e ▸ List.mem_cons_self ..; exact List.mem_cons_of_mem _ (List.mem_cons_of_mem _ e))).1) (by simp; omega) (by simp; omega) (by simp; omega)
          · rw [List.mem_singleton] at e
            subst e
            exact key [a, b] (by simpa using l2) (fun q hq => (l1 q (by rcases List.mem_cons.mp hq with e | e; exact e ▸ List.mem_cons_self ..; exact List.mem_cons_of_mem _ (List.mem_singleton.mp e ▸ List.mem_cons_self ..))).1) (by simp; omega) (by simp; omega) (by simp; omega)
      | [], _, _, _, _, _, hp1, _ => cases hp1
      | _ :: _ :: _ :: _ :: _, _, l2, _, _, _, _, _ =>
        have nb : nlb m ≤ 3 := by
          unfold nlb
          split <;> split <;> split <;> omega
        simp only [List.length_cons] at l2
        omega
end PmHv
