/-! FORMS BY NODES: a type of at most sixteen nodes. -/
def fnk (F G : FrT) (t0 fn s2 hv r0 r1 r2 r3 : Nat) : Bool :=
  (dom 0 t0 (frg F 1) && (dom 1 0 (frg F 1) && dom 0 r0 (frg F 1))) &&
  ((List.range 15).all (fun i => (frg F (i + 1)).all (fun p => dom p.1 (r1 + p.2) (frg F (i + 2))) && (frg G (i + 1)).all (fun p => dom p.1 (fn + p.2) (frg F (i + 2)) && dom p.1 (r2 + p.2) (frg F (i + 2)))) &&
  (List.range 15).all (fun i => (List.range (14 - i)).all (fun j =>
    (frg F (i + 1)).all (fun p => (frg F (j + 1)).all (fun q => dom (p.1 + q.1) (p.2 + q.2) (frg G (i + j + 2)) && dom (q.1 * max 1 p.1) (s2 + q.2 + q.1 * (hv + p.2)) (frg F (i + j + 3)))) &&
    (frg G (i + 1)).all (fun p => (frg F (j + 1)).all (fun q => dom (p.1 + q.1) (r3 + (p.2 + q.2)) (frg F (i + j + 3)))))))
section PmPe
variable {F G : FrT} {t0 fn s2 hv r0 r1 r2 r3 : Nat}
theorem fnk_0 (h : fnk F G t0 fn s2 hv r0 r1 r2 r3 = true) : dom 0 t0 (frg F 1) = true ∧ dom 1 0 (frg F 1) = true ∧ dom 0 r0 (frg F 1) = true := by
  unfold fnk at h
  rw [Bool.and_eq_true, Bool.and_eq_true, Bool.and_eq_true] at h
  exact h.1
theorem fnk_1 (h : fnk F G t0 fn s2 hv r0 r1 r2 r3 = true) {n : Nat} (n1 : 1 ≤ n) (n2 : n ≤ 15) : (∀ p ∈ frg F n, dom p.1 (r1 + p.2) (frg F (n + 1)) = true) ∧ ∀ p ∈ frg G n, dom p.1 (fn + p.2) (frg F (n + 1)) = true ∧ dom p.1 (r2 + p.2) (frg F (n + 1)) = true := by
  unfold fnk at h
  rw [Bool.and_eq_true, Bool.and_eq_true (List.all _ _)] at h
  have q := rng_all h.2.1 (i := n - 1) (by omega)
  rw [Bool.and_eq_true, show n - 1 + 1 = n by omega, show n - 1 + 2 = n + 1 by omega] at q
  refine ⟨fun p hp => List.all_eq_true.mp q.1 p hp, fun p hp => ?_⟩
  have q2 := List.all_eq_true.mp q.2 p hp
  rw [Bool.and_eq_true] at q2
  exact q2
theorem fnk_2 (h : fnk F G t0 fn s2 hv r0 r1 r2 r3 = true) {i j : Nat} (i1 : 1 ≤ i) (j1 : 1 ≤ j) (k2 : i + j ≤ 15) : (∀ p ∈ frg F i, ∀ q ∈ frg F j, dom (p.1 + q.1) (p.2 + q.2) (frg G (i + j)) = true ∧ dom (q.1 * max 1 p.1) (s2 + q.2 + q.1 * (hv + p.2)) (frg F (i + j + 1)) = true) ∧ ∀ p ∈ frg G i, ∀ q ∈ frg F j, dom (p.1 + q.1) (r3 + (p.2 + q.2)) (frg F (i + j + 1)) = true := by
  unfold fnk at h
  rw [Bool.and_eq_true, Bool.and_eq_true (List.all _ _)] at h
  have q := rng_all (rng_all h.2.2 (i := i - 1) (by omega)) (i := j - 1) (by omega)
  rw [Bool.and_eq_true, show i - 1 + 1 = i by omega, show j - 1 + 1 = j by omega, show i - 1 + (j - 1) + 2 = i + j by omega, show i - 1 + (j - 1) + 3 = i + j + 1 by omega] at q
  refine ⟨fun p hp r hr => ?_, fun p hp r hr => List.all_eq_true.mp (List.all_eq_true.mp q.2 p hp) r hr⟩
  have q2 := List.all_eq_true.mp (List.all_eq_true.mp q.1 p hp) r hr
  rw [Bool.and_eq_true] at q2
  exact q2
end PmPe
section PmPf
variable {F G : FrT} {t0 fn s2 hv r0 r1 r2 r3 x0 : Nat} {n1 h : Nat → Nat}
theorem FM_fin {l a : Nat} {t : Ty} {k : Nat} (g : FM t0 n1 s2 h x0 t l a) (hd : dom l a (frg F k) = true) : ∃ p ∈ frg F k, FM t0 n1 s2 h x0 t p.1 p.2 := by
  obtain ⟨p, hp, h1, h2⟩ := dom_ex hd
  exact ⟨p, hp, g.mono h1 h2⟩
/-- the form of a type is in the table of its nodes -/
theorem fn_form (hc : fnk F G t0 fn s2 hv r0 r1 r2 r3 = true) (H : ∀ y x, x0 ≤ x → h y ≤ hv + max y x) (hf1 : n1 1 ≤ fn) (hr : ∀ m, m < 8 → n1 (8 + m) ≤ (if nlb m = 0 then r0 else if nlb m = 1 then r1 else if nlb m = 2 then r2 else r3)) : ∀ (f : Nat) (t : Ty) (d : Nat), (flat t).length ≤ f → ok d t = true → (flat t).length ≤ 16 → ∃ p ∈ frg F (flat t).length, FM t0 n1 s2 h x0 t p.1 p.2
  | 0, t, d, hf, o, _ => by have := flat_pos o; omega
  | f + 1, t, d, hf, o, hk => by
    rcases ok_cases o with rfl | ⟨j, hj, rfl⟩ | ⟨a, c, rfl, ha, hb⟩ | ⟨a, c, rfl, ha, hb⟩ | ⟨m, x, y, z, hm, rfl, h0, h1, h2⟩
    · exact FM_fin FM_top (fnk_0 hc).1
    · exact FM_fin (FM_var j) (fnk_0 hc).2.1
    · rw [flat_fun, List.length_cons, List.length_append] at hf hk ⊢
      have pa := flat_pos ha
      have pc := flat_pos hb
      obtain ⟨p, hp, fp⟩ := fn_form hc H hf1 hr f a d (by omega) ha (by omega)
      obtain ⟨q, hq, fq⟩ := fn_form hc H hf1 hr f c d (by omega) hb (by omega)
      obtain ⟨r, hr', e1, e2⟩ := dom_ex (((fnk_2 hc pa pc (by omega)).1 p hp q hq).1)
      exact FM_fin ((FM_fun fp fq).mono e1 (show n1 1 + p.2 + q.2 ≤ fn + r.2 by omega)) (((fnk_1 hc (n := (flat a).length + (flat c).length) (by omega) (by omega)).2 r hr').1)
    · rw [flat_all, List.length_cons, List.length_append] at hf hk ⊢
      have pa := flat_pos ha
      have pc := flat_pos hb
      obtain ⟨p, hp, fp⟩ := fn_form hc H hf1 hr f a d (by omega) ha (by omega)
      obtain ⟨q, hq, fq⟩ := fn_form hc H hf1 hr f c (d + 1) (by omega) hb (by omega)
      exact FM_fin (FM_all H fp fq) (((fnk_2 hc pa pc (by omega)).1 p hp q hq).2)
    · rw [flat_rec, List.length_cons, List.length_append, List.length_append] at hf hk ⊢
      have hn := hr m hm
      have nb : nlb m = (if bit m 0 then 1 else 0) + (if bit m 1 then 1 else 0) + (if bit m 2 then 1 else 0) := rfl
      have ih : ∀ (i : Nat) (p : Ty), (flat p).length ≤ f → okl d m i p → bit m i = true → (flat p).length ≤ 16 → 1 ≤ (flat p).length ∧ ∃ q ∈ frg F (flat p).length, FM t0 n1 s2 h x0 p q.1 q.2 := by
        intro i p hp ho hb hk
        unfold okl at ho
        rw [if_pos hb] at ho
        exact ⟨flat_pos ho, fn_form hc H hf1 hr f p d hp ho hk⟩
      have nil : ∀ (i : Nat) (p : Ty), okl d m i p → ¬ bit m i = true → (flat p).length = 0 := by
        intro i p ho hb
        unfold okl at ho
        rw [if_neg hb] at ho
        rw [ho]; rfl
      by_cases b0 : bit m 0 = true
      · obtain ⟨p0, q0, m0, f0⟩ := ih 0 x (by omega) h0 b0 (by omega)
        by_cases b1 : bit m 1 = true
        · obtain ⟨p1, q1, m1, f1⟩ := ih 1 y (by omega) h1 b1 (by omega)
          by_cases b2 : bit m 2 = true
          · obtain ⟨p2, q2, m2, f2⟩ := ih 2 z (by omega) h2 b2 (by omega)
            rw [nb, if_pos b0, if_pos b1, if_pos b2] at hn
            obtain ⟨r, hr', e1, e2⟩ := dom_ex (((fnk_2 hc p0 p1 (by omega)).1 q0 m0 q1 m1).1)
            have hd := (fnk_2 hc (i := (flat x).length + (flat y).length) (by omega) p2 (by omega)).2 r hr' q2 m2
            rw [show (flat x).length + ((flat y).length + (flat z).length) + 1 = (flat x).length + (flat y).length + (flat z).length + 1 by omega]
            exact FM_fin ((FM_rec hm (fun _ => f0) (fun _ => f1) (fun _ => f2)).mono (show q0.1 + (q1.1 + q2.1) ≤ r.1 + q2.1 by omega) (show n1 (8 + m) + (q0.2 + (q1.2 + q2.2)) ≤ r3 + (r.2 + q2.2) by simp at hn; omega)) hd
          · have z2 := nil 2 z h2 b2
            rw [nb, if_pos b0, if_pos b1, if_neg b2] at hn
            obtain ⟨r, hr', e1, e2⟩ := dom_ex (((fnk_2 hc p0 p1 (by omega)).1 q0 m0 q1 m1).1)
            have hd := ((fnk_1 hc (n := (flat x).length + (flat y).length) (by omega) (by omega)).2 r hr').2
            rw [z2, Nat.add_zero]
            exact FM_fin ((FM_rec (l2 := 0) (c2 := 0) hm (fun _ => f0) (fun _ => f1) (fun b => absurd b b2)).mono (show q0.1 + (q1.1 + 0) ≤ r.1 by omega) (show n1 (8 + m) + (q0.2 + (q1.2 + 0)) ≤ r2 + r.2 by simp at hn; omega)) hd
        · have z1 := nil 1 y h1 b1
          by_cases b2 : bit m 2 = true
          · obtain ⟨p2, q2, m2, f2⟩ := ih 2 z (by omega) h2 b2 (by omega)
            rw [nb, if_pos b0, if_neg b1, if_pos b2] at hn
            obtain ⟨r, hr', e1, e2⟩ := dom_ex (((fnk_2 hc p0 p2 (by omega)).1 q0 m0 q2 m2).1)
            have hd := ((fnk_1 hc (n := (flat x).length + (flat z).length) (by omega) (by omega)).2 r hr').2
            rw [z1, Nat.zero_add]
            exact FM_fin ((FM_rec (l1 := 0) (c1 := 0) hm (fun _ => f0) (fun b => absurd b b1) (fun _ => f2)).mono (show q0.1 + (0 + q2.1) ≤ r.1 by omega) (show n1 (8 + m) + (q0.2 + (0 + q2.2)) ≤ r2 + r.2 by simp at hn; omega)) hd
          · have z2 := nil 2 z h2 b2
            rw [nb, if_pos b0, if_neg b1, if_neg b2] at hn
            have hd := (fnk_1 hc (n := (flat x).length) p0 (by omega)).1 q0 m0
            rw [z1, z2, Nat.add_zero, Nat.add_zero]
            exact FM_fin ((FM_rec (l1 := 0) (c1 := 0) (l2 := 0) (c2 := 0) hm (fun _ => f0) (fun b => absurd b b1) (fun b => absurd b b2)).mono (show q0.1 + (0 + 0) ≤ q0.1 by omega) (show n1 (8 + m) + (q0.2 + (0 + 0)) ≤ r1 + q0.2 by simp at hn; omega)) hd
      · have z0 := nil 0 x h0 b0
        by_cases b1 : bit m 1 = true
        · obtain ⟨p1, q1, m1, f1⟩ := ih 1 y (by omega) h1 b1 (by omega)
          by_cases b2 : bit m 2 = true
          · obtain ⟨p2, q2, m2, f2⟩ := ih 2 z (by omega) h2 b2 (by omega)
            rw [nb, if_neg b0, if_pos b1, if_pos b2] at hn
            obtain ⟨r, hr', e1, e2⟩ := dom_ex (((fnk_2 hc p1 p2 (by omega)).1 q1 m1 q2 m2).1)
            have hd := ((fnk_1 hc (n := (flat y).length + (flat z).length) (by omega) (by omega)).2 r hr').2
            rw [z0, Nat.zero_add]
            exact FM_fin ((FM_rec (l0 := 0) (c0 := 0) hm (fun b => absurd b b0) (fun _ => f1) (fun _ => f2)).mono (show 0 + (q1.1 + q2.1) ≤ r.1 by omega) (show n1 (8 + m) + (0 + (q1.2 + q2.2)) ≤ r2 + r.2 by simp at hn; omega)) hd
          · have z2 := nil 2 z h2 b2
            rw [nb, if_neg b0, if_pos b1, if_neg b2] at hn
            have hd := (fnk_1 hc (n := (flat y).length) p1 (by omega)).1 q1 m1
            rw [z0, z2, Nat.zero_add, Nat.add_zero]
            exact FM_fin ((FM_rec (l0 := 0) (c0 := 0) (l2 := 0) (c2 := 0) hm (fun b => absurd b b0) (fun _ => f1) (fun b => absurd b b2)).mono (show 0 + (q1.1 + 0) ≤ q1.1 by omega) (show n1 (8 + m) + (0 + (q1.2 + 0)) ≤ r1 + q1.2 by simp at hn; omega)) hd
        · have z1 := nil 1 y h1 b1
          by_cases b2 : bit m 2 = true
          · obtain ⟨p2, q2, m2, f2⟩ := ih 2 z (by omega) h2 b2 (by omega)
            rw [nb, if_neg b0, if_neg b1, if_pos b2] at hn
            have hd := (fnk_1 hc (n := (flat z).length) p2 (by omega)).1 q2 m2
            rw [z0, z1, Nat.zero_add, Nat.zero_add]
            exact FM_fin ((FM_rec (l0 := 0) (c0 := 0) (l1 := 0) (c1 := 0) hm (fun b => absurd b b0) (fun b => absurd b b1) (fun _ => f2)).mono (show 0 + (0 + q2.1) ≤ q2.1 by omega) (show n1 (8 + m) + (0 + (0 + q2.2)) ≤ r1 + q2.2 by simp at hn; omega)) hd
          · have z2 := nil 2 z h2 b2
            rw [nb, if_neg b0, if_neg b1, if_neg b2] at hn
            rw [z0, z1, z2]
            exact FM_fin ((FM_rec (l0 := 0) (c0 := 0) (l1 := 0) (c1 := 0) (l2 := 0) (c2 := 0) hm (fun b => absurd b b0) (fun b => absurd b b1) (fun b => absurd b b2)).mono (show 0 + (0 + 0) ≤ 0 by omega) (show n1 (8 + m) + (0 + (0 + 0)) ≤ r0 by simp at hn; omega)) (fnk_0 hc).2.2
end PmPf
def fn1 : FrT := [[], [(1, 0), (0, 2)], [(1, 2), (0, 4)], [(2, 2), (1, 6)], [(3, 2), (2, 4), (1, 8)], [(3, 4), (2, 11), (1, 12)], [(4, 4), (3, 14), (2, 15)], [(5, 4), (4, 11), (3, 20)], [(6, 14), (4, 19), (3, 26)], [(9, 14), (6, 20), (5, 22), (4, 29), (3, 32)], [(9, 20), (6, 41), (3, 44)], [(12, 20), (10, 22), (9, 50), (6, 53)], [(15, 22), (12, 41), (9, 68)], [(18, 50), (12, 67), (9, 86)], [(27, 50), (18, 68), (15, 82), (12, 95), (9, 104)], [(27, 68), (18, 131), (9, 140)], [(36, 68), (30, 82), (27, 158), (18, 167)]]
def gn1t : FrT := [[], [], [(2, 0), (1, 2), (0, 4)], [(2, 2), (1, 4), (0, 6)], [(3, 2), (2, 6), (1, 8)], [(4, 2), (3, 4), (2, 8), (1, 10)], [(4, 4), (3, 11), (2, 13), (1, 14)], [(5, 4), (4, 14), (3, 16), (2, 17)], [(6, 4), (5, 11), (4, 20), (3, 22)], [(7, 14), (6, 16), (5, 19), (4, 26), (3, 28)], [(10, 14), (9, 16), (7, 20), (6, 22), (5, 29), (4, 32), (3, 34)], [(10, 20), (9, 22), (7, 41), (6, 43), (4, 44), (3, 46)], [(13, 20), (12, 22), (10, 50), (9, 52), (7, 53), (6, 55)], [(16, 22), (15, 24), (13, 41), (12, 43), (10, 68), (9, 70)], [(19, 50), (18, 52), (13, 67), (12, 69), (10, 86), (9, 88)], [(28, 50), (27, 52), (19, 68), (18, 70), (16, 82), (15, 84), (13, 95), (12, 97), (10, 104), (9, 106)], [(28, 68), (27, 70), (19, 131), (18, 133), (10, 140), (9, 142)]]
theorem fn1_ok : fnk fn1 gn1t 0 2 3 1 2 2 2 2 = true := by decide +kernel
def fnq : FrT := [[], [(1, 0), (0, 1)], [(1, 3), (0, 4)], [(2, 2), (1, 6), (0, 7)], [(3, 1), (2, 5), (1, 9), (0, 10)], [(3, 4), (2, 8), (1, 12), (0, 13)], [(4, 3), (3, 7), (2, 11), (1, 15), (0, 16)], [(5, 2), (4, 7), (3, 14), (2, 17), (1, 18), (0, 19)], [(6, 8), (4, 13), (3, 23)], [(9, 5), (6, 17), (4, 20), (3, 32)], [(9, 14), (6, 26), (4, 32), (3, 41)], [(12, 11), (10, 13), (9, 23), (8, 24), (6, 35), (5, 38), (4, 44), (3, 50)], [(15, 8), (12, 23), (10, 28), (9, 44), (6, 53), (4, 56), (3, 59)], [(18, 26), (12, 41), (10, 43), (9, 71)], [(27, 17), (20, 18), (18, 53), (12, 62), (9, 98)], [(27, 44), (18, 80), (12, 98), (9, 125)], [(36, 35), (30, 43), (27, 71), (24, 74), (18, 107), (15, 118), (12, 134), (9, 152)]]
def gnqt : FrT := [[], [], [(2, 0), (1, 1), (0, 2)], [(2, 3), (1, 4), (0, 5)], [(3, 2), (2, 6), (1, 7), (0, 8)], [(4, 1), (3, 5), (2, 9), (1, 10), (0, 11)], [(4, 4), (3, 8), (2, 12), (1, 13), (0, 14)], [(5, 3), (4, 7), (3, 11), (2, 15), (1, 16), (0, 17)], [(6, 2), (5, 7), (4, 14), (3, 17), (2, 18), (1, 19), (0, 20)], [(7, 8), (6, 9), (5, 13), (4, 23), (3, 24)], [(10, 5), (9, 6), (7, 17), (6, 18), (5, 20), (4, 32), (3, 33)], [(10, 14), (9, 15), (7, 26), (6, 27), (5, 32), (4, 41), (3, 42)], [(13, 11), (12, 12), (11, 13), (10, 23), (9, 24), (8, 25), (7, 35), (6, 38), (5, 44), (4, 50), (3, 51)], [(16, 8), (15, 9), (13, 23), (12, 24), (11, 28), (10, 44), (9, 45), (7, 53), (6, 54), (5, 56), (4, 59), (3, 60)], [(19, 26), (18, 27), (13, 41), (12, 42), (11, 43), (10, 71), (9, 72)], [(28, 17), (27, 18), (20, 19), (19, 53), (18, 54), (13, 62), (12, 63), (10, 98), (9, 99)], [(28, 44), (27, 45), (19, 80), (18, 81), (13, 98), (12, 99), (10, 125), (9, 126)]]
theorem fnq_ok : fnk fnq gnqt 1 1 1 0 1 3 2 1 = true := by decide +kernel
def fnG : FrT := [[], [(1, 0), (0, 17)], [(1, 17), (0, 34)], [(2, 17), (1, 51)], [(3, 17), (2, 34), (1, 68)], [(3, 34), (2, 101), (1, 102)], [(4, 34), (3, 134), (2, 135)], [(5, 34), (4, 101), (3, 185)], [(6, 134), (4, 184), (3, 251)], [(9, 134), (6, 185), (5, 217), (4, 269), (3, 302)], [(9, 185), (6, 386), (3, 389)], [(12, 185), (10, 217), (9, 485), (6, 488)], [(15, 217), (12, 386), (9, 638)], [(18, 485), (12, 652), (9, 836)], [(27, 485), (18, 638), (15, 802), (12, 890), (9, 989)], [(27, 638), (24, 652), (18, 1241), (9, 1250)], [(36, 652), (30, 802), (27, 1538), (18, 1547)]]
def gnGt : FrT := [[], [], [(2, 0), (1, 17), (0, 34)], [(2, 17), (1, 34), (0, 51)], [(3, 17), (2, 51), (1, 68)], [(4, 17), (3, 34), (2, 68), (1, 85)], [(4, 34), (3, 101), (2, 118), (1, 119)], [(5, 34), (4, 134), (3, 151), (2, 152)], [(6, 34), (5, 101), (4, 185), (3, 202)], [(7, 134), (6, 151), (5, 184), (4, 251), (3, 268)], [(10, 134), (9, 151), (7, 185), (6, 217), (5, 269), (4, 302), (3, 319)], [(10, 185), (9, 202), (7, 386), (6, 403), (3, 406)], [(13, 185), (12, 202), (11, 217), (10, 485), (9, 502), (6, 505)], [(16, 217), (15, 234), (13, 386), (12, 403), (10, 638), (9, 655)], [(19, 485), (18, 502), (13, 652), (12, 669), (10, 836), (9, 853)], [(28, 485), (27, 502), (19, 638), (18, 655), (16, 802), (15, 819), (13, 890), (12, 907), (10, 989), (9, 1006)], [(28, 638), (27, 655), (24, 669), (19, 1241), (18, 1258), (9, 1267)]]
theorem fnG_ok : fnk fnG gnGt 0 17 18 16 17 17 17 17 = true := by decide +kernel
