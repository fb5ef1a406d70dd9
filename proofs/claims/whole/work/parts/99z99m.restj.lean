/-! FUNCTIONS AND RECORDS THAT MAY NOT BE REPLACED: they hold a scheme with bound Top and a body of their own kind. -/
def rhoO (κ : Nat) (a b : Ty) : Bool := decide (hd a = 0) && decide (kdt b = κ)
def rhoW (κ : Nat) (a b : Ty) : Bool := decide (kdt a = κ) && php rhov b
section PmOw
variable {C : Ty} {d0 d : Nat}
theorem kdt_14 (kC : kdt C = 1 ∨ kdt C = 4) : (hd C = 1 ∧ kdt C = 1) ∨ ((8 ≤ hd C ∧ hd C < 16) ∧ kdt C = 4) := by
  have e := kC
  unfold kdt at e
  by_cases c1 : hd C = 1
  · left
    refine ⟨c1, ?_⟩
    unfold kdt
    rw [if_pos c1]
  · rw [if_neg c1] at e
    by_cases c2 : hd C = 2
    · rw [if_pos c2] at e
      split at e <;> omega
    · rw [if_neg c2] at e
      by_cases c3 : 8 ≤ hd C ∧ hd C < 16
      · right
        refine ⟨c3, ?_⟩
        unfold kdt
        rw [if_neg c1, if_neg c2, if_pos c3]
      · rw [if_neg c3] at e; omega
theorem kms_own {f : Ty} (kC : kdt C = 1 ∨ kdt C = 4) (o : ok d f = true) (h0 : hd f ≠ 0) (h16 : hd f < 16) (ne : kdt f ≠ kdt C) : kms C f = true := by
  have hk := kdt_14 kC
  unfold kms
  rw [Bool.or_eq_true]
  left
  unfold kmm
  rw [decide_eq_true_iff]
  rcases ok_cases o with rfl | ⟨j, hj, rfl⟩ | ⟨x, y, rfl, hx, hy⟩ | ⟨x, y, rfl, hx, hy⟩ | ⟨m, x, y, z, hm, rfl, -, -, -⟩
  · exact absurd rfl h0
  · rw [hd_var] at h16; omega
  · have kf : kdt (tFun x y) = 1 := by
      unfold kdt
      rw [hd_fun, if_pos rfl]
    rw [kf] at ne
    rw [hd_fun]
    omega
  · rw [hd_all]
    omega
  · have kf : kdt (tRec m x y z) = 4 := by
      unfold kdt
      rw [hd_rec, if_neg (by omega), if_neg (by omega), if_pos (by omega)]
    rw [kf] at ne
    rw [hd_rec]
    omega
theorem kuO (kC : kdt C = 1 ∨ kdt C = 4) : ∀ (n : Nat) (t : Ty) (D : Nat) (τ : Nat → Bool), (flat t).length ≤ n → ok D t = true → noal t = true → php (rhoO (kdt C)) t = false → php (rhoW (kdt C)) t = false → ((∀ i, i < D → τ i = true) ∨ php rhov t = false) → ku9 C (tqN tTop d0) (kmu C) τ D t = true
  | 0, t, D, _, hf, o, _, _, _, _ => by have := flat_pos o; omega
  | n + 1, t, D, τ, hf, o, na, h1, h2, hm => by
    rcases ok_cases o with rfl | ⟨j, hj, rfl⟩ | ⟨x, y, rfl, hx, hy⟩ | ⟨x, y, rfl, hx, hy⟩ | ⟨m, x, y, z, hm', rfl, o0, o1, o2⟩
    · exact ku9_top _ _
    · exact ku9_var _ _ _
    · rw [flat_fun, List.length_cons, List.length_append] at hf
      rw [noal_fun, Bool.and_eq_true] at na
      rw [php_fun, Bool.or_eq_false_iff] at h1 h2 hm
      exact ku9_fun.mpr ⟨kuO kC n x D τ (by omega) hx na.1 h1.1 h2.1 (hm.imp id (fun q => q.1)), kuO kC n y D τ (by omega) hy na.2 h1.2 h2.2 (hm.imp id (fun q => q.2))⟩
    · rw [flat_all, List.length_cons, List.length_append] at hf
      rw [noal_all, Bool.and_eq_true, Bool.and_eq_true, decide_eq_true_iff] at na
      rw [php_all, Bool.or_eq_false_iff, Bool.or_eq_false_iff] at h1 h2 hm
      have md : (∀ i, i < D + 1 → upds C τ D x i = true) ∨ php rhov y = false := by
        by_cases gx : gks C x = true
        · rcases hm with q | q
          · exact Or.inl (upds_all q gx)
          · exact Or.inr q.2.2
        · right
          have kx : kdt x = kdt C := Classical.byContradiction (fun c => gx (by
            unfold gks
            by_cases h0 : hd x = 0
            · rw [decide_eq_true h0]; rfl
            · rw [kms_own kC hx h0 na.1 c, decide_eq_true na.1]
              simp))
          have q := h2.1
          unfold rhoW at q
          rw [decide_eq_true kx, Bool.true_and] at q
          exact q
      refine ku9_all.mpr ⟨fun tq => ?_, kuO kC n x D τ (by omega) hx na.2.1 h1.2.1 h2.2.1 (hm.imp id (fun q => q.2.1)), kuO kC n y (D + 1) _ (by omega) hy na.2.2 h1.2.2 h2.2.2 md⟩
      have x0 := tqN_top hx tq
      refine bdr_is hy (fun v j ej hj => ?_) (fun n0 n16 => ?_)
      · rcases hm with q | q
        · refine upds_all q ?_ j hj
          unfold gks
          rw [decide_eq_true x0]
          rfl
        · exfalso
          have q := q.1
          unfold rhov at q
          rw [decide_eq_true x0, decide_eq_true v] at q
          cases q
      · have q := h1.1
        unfold rhoO at q
        rw [decide_eq_true x0, Bool.true_and, decide_eq_false_iff_not] at q
        unfold kmu
        rw [kms_own kC hy n0 n16 q]
        rfl
    · rw [flat_rec, List.length_cons, List.length_append, List.length_append] at hf
      rw [noal_rec, Bool.and_eq_true, Bool.and_eq_true] at na
      rw [php_rec, Bool.or_eq_false_iff, Bool.or_eq_false_iff] at h1 h2 hm
      have key : ∀ (i : Nat) (p : Ty), (flat p).length ≤ n → okl D m i p → noal p = true → php (rhoO (kdt C)) p = false → php (rhoW (kdt C)) p = false → ((∀ i, i < D → τ i = true) ∨ php rhov p = false) → ku9 C (tqN tTop d0) (kmu C) τ D p = true := by
        intro i p hp ho hs q1 q2 q3
        unfold okl at ho
        by_cases hb' : bit m i = true
        · rw [if_pos hb'] at ho
          exact kuO kC n p D τ hp ho hs q1 q2 q3
        · rw [if_neg hb'] at ho
          rw [ho]; exact ku9_nil _ _
      exact ku9_rec.mpr ⟨key 0 x (by omega) o0 na.1 h1.1 h2.1 (hm.imp id (fun q => q.1)), key 1 y (by omega) o1 na.2.1 h1.2.1 h2.2.1 (hm.imp id (fun q => q.2.1)), key 2 z (by omega) o2 na.2.2 h1.2.2 h2.2.2 (hm.imp id (fun q => q.2.2))⟩
theorem own_flag (kC : kdt C = 1 ∨ kdt C = 4) (oC : ok 1 C = true) (na : noal C = true) (hC : hd C ≠ 0 ∧ hd C < 16) (nov : ¬ OVq 1 tTop C Dsm []) : php (rhoO (kdt C)) C = true ∨ php (rhoW (kdt C)) C = true := by
  refine Classical.byContradiction (fun nb => nov ?_)
  have n1 : php (rhoO (kdt C)) C = false := by
    cases e : php (rhoO (kdt C)) C with
    | false => rfl
    | true => exact absurd (Or.inl e) nb
  have n2 : php (rhoW (kdt C)) C = false := by
    cases e : php (rhoW (kdt C)) C with
    | false => rfl
    | true => exact absurd (Or.inr e) nb
  have gt : gks C tTop = true := rfl
  have t1 : ∀ i, i < 0 + 1 → upds C (taus C []) 0 tTop i = true := upds_all (C := C) (a := tTop) (D := 0) (fun i hi => absurd hi (Nat.not_lt_zero i)) gt
  exact HKs9.ov (Nat.le_refl _) ⟨⟨trivial, by decide⟩, hC, fun j hj => absurd hj (Nat.not_lt_zero j), ku9_top _ _, kuO kC _ C 1 _ (Nat.le_refl _) oC na n1 n2 (Or.inl t1)⟩
end PmOw
def ooF1 : FrT := [[], [], [], [], [], [], [], [], [], [], [(2, 5), (1, 7), (0, 9)], [(2, 5), (1, 7), (0, 9)], [(2, 5), (1, 7), (0, 9)], [(2, 7), (1, 9), (0, 11)], [(3, 7), (2, 9), (1, 11), (0, 13)], [(3, 7), (2, 12), (0, 14)], [(3, 7), (2, 12), (0, 14)], [(3, 9), (2, 12), (1, 13), (0, 15)], [(4, 9), (3, 11), (2, 14), (1, 15), (0, 17)], [(4, 17), (2, 21), (0, 25)], [(4, 17), (2, 21), (0, 25)], [(4, 17), (2, 21), (0, 25)], [(5, 11), (4, 21), (2, 25), (0, 29)], [(6, 25), (3, 31), (0, 37)], [(6, 25), (4, 31), (0, 37)], [(6, 25), (4, 31), (0, 37)], [(6, 31), (3, 37), (0, 43)], [(9, 31), (8, 33), (6, 37), (4, 41), (3, 43), (0, 49)], [(9, 31), (8, 41), (6, 46), (4, 49), (0, 57)], [(9, 31), (8, 41), (6, 46), (4, 49), (0, 57)], [(9, 37), (8, 41), (6, 46), (4, 49), (0, 57)], [(12, 41), (9, 43), (8, 49), (6, 52), (4, 57), (0, 65)], [(12, 61), (6, 73), (0, 85)], [(12, 61), (8, 69), (6, 73), (0, 85)], [(12, 61), (8, 69), (6, 73), (0, 85)], [(16, 49), (15, 51), (12, 73), (6, 85), (0, 97)], [(18, 85), (9, 103), (1, 105), (0, 121)], [(18, 85), (16, 89), (12, 103), (8, 105), (0, 121)], [(18, 85), (16, 89), (12, 103), (8, 105), (0, 121)], [(20, 61), (18, 103), (9, 121), (0, 139)], [(27, 103), (24, 113), (18, 121), (12, 137), (9, 139), (1, 142), (0, 161)]]
def ogF1 : FrT := [[], [], [], [], [], [], [], [], [], [], [], [(3, 5), (2, 7), (1, 9)], [(3, 5), (2, 7), (1, 9), (0, 11)], [(3, 5), (2, 7), (1, 9), (0, 11)], [(3, 7), (2, 9), (1, 11)], [(4, 7), (3, 9), (2, 11), (1, 13)], [(4, 7), (3, 12), (1, 14), (0, 15)], [(4, 7), (3, 12), (2, 14), (0, 16)], [(4, 9), (3, 12), (2, 14), (1, 15), (0, 16)], [(5, 9), (4, 11), (3, 14), (2, 15), (1, 17)], [(5, 17), (3, 21), (1, 25)], [(5, 17), (4, 19), (3, 21), (2, 23), (1, 25), (0, 27)], [(5, 17), (4, 19), (3, 21), (2, 23), (1, 25), (0, 27)], [(6, 11), (5, 21), (3, 25), (1, 29)], [(7, 25), (4, 31), (1, 37)], [(7, 25), (6, 27), (5, 31), (3, 33), (1, 37), (0, 39)], [(7, 25), (6, 27), (5, 31), (4, 33), (1, 37), (0, 39)], [(7, 31), (4, 37), (1, 43)], [(10, 31), (9, 33), (7, 37), (5, 41), (4, 43), (1, 49)], [(10, 31), (9, 41), (7, 46), (5, 49), (1, 57)], [(10, 31), (9, 41), (8, 43), (7, 46), (6, 48), (5, 49), (4, 51), (1, 57), (0, 59)], [(10, 37), (9, 41), (8, 43), (7, 46), (6, 48), (5, 49), (4, 51), (1, 57), (0, 59)], [(13, 41), (10, 43), (9, 49), (7, 52), (5, 57), (1, 65)], [(13, 61), (7, 73), (1, 85)], [(13, 61), (12, 63), (9, 69), (7, 73), (6, 75), (1, 85), (0, 87)], [(13, 61), (12, 63), (9, 69), (8, 71), (7, 73), (6, 75), (1, 85), (0, 87)], [(17, 49), (16, 51), (13, 73), (7, 85), (1, 97)], [(19, 85), (10, 103), (2, 105), (1, 121)], [(19, 85), (18, 87), (17, 89), (13, 103), (9, 105), (1, 121), (0, 123)], [(19, 85), (18, 87), (17, 89), (16, 91), (13, 103), (12, 105), (8, 107), (1, 121), (0, 123)], [(21, 61), (19, 103), (12, 105), (10, 121), (1, 139)]]
def owF1 : FrT := [[], [], [], [], [], [], [], [], [], [], [], [], [], [], [], [(2, 9)], [(2, 9), (1, 11)], [(2, 9), (1, 11), (0, 13)], [(2, 11), (0, 13)], [(4, 14)], [(4, 14), (2, 18)], [(4, 14), (2, 18), (0, 22)], [(4, 18), (0, 22)], [(6, 19), (2, 22)], [(6, 19), (4, 25), (0, 26)], [(6, 19), (4, 25), (2, 29), (0, 31)], [(6, 25), (2, 29), (0, 33)], [(9, 25), (4, 29), (3, 31), (0, 33)], [(9, 25), (8, 35), (6, 37)], [(9, 25), (8, 35), (6, 37), (4, 43)], [(9, 31), (8, 35), (6, 37), (4, 43), (0, 51)], [(12, 32), (8, 43), (0, 51)], [(12, 52)], [(12, 52), (8, 57), (6, 64)], [(12, 52), (8, 57), (6, 64), (4, 65), (0, 76)], [(16, 40), (12, 64), (4, 65), (0, 76)], [(18, 67), (16, 69), (6, 76)], [(18, 67), (16, 77), (12, 85), (0, 88)], [(18, 67), (16, 77), (12, 85), (8, 93), (6, 97), (0, 103)], [(20, 49), (18, 85), (8, 93), (6, 97), (0, 109)], [(27, 85), (24, 89), (16, 93), (12, 97), (9, 103), (0, 109)]]
def ovF1 : FrT := [[], [], [], [], [], [], [], [], [], [], [], [], [], [], [], [], [(3, 9)], [(3, 9), (2, 11)], [(3, 9), (2, 11), (1, 13)], [(3, 11), (1, 13), (0, 15)], [(5, 14), (0, 15)], [(5, 14), (4, 16), (3, 18)], [(5, 14), (4, 16), (3, 18), (2, 20), (1, 22)], [(5, 18), (2, 20), (1, 22), (0, 24)], [(7, 19), (4, 20), (3, 22), (0, 24)], [(7, 19), (6, 21), (5, 25), (1, 26)], [(7, 19), (6, 21), (5, 25), (4, 27), (3, 29), (1, 31)], [(7, 25), (4, 27), (3, 29), (2, 31), (1, 33)], [(10, 25), (6, 27), (5, 29), (4, 31), (1, 33), (0, 35)], [(10, 25), (9, 35), (7, 37)], [(10, 25), (9, 35), (8, 37), (6, 39), (5, 43)], [(10, 31), (9, 35), (8, 37), (6, 39), (5, 43), (4, 45), (1, 51)], [(13, 32), (9, 43), (4, 45), (1, 51), (0, 53)], [(13, 52), (0, 53)], [(13, 52), (12, 54), (9, 57), (7, 64)], [(13, 52), (12, 54), (9, 57), (8, 59), (7, 64), (6, 66), (1, 76)], [(17, 40), (13, 64), (6, 66), (4, 67), (1, 76), (0, 78)], [(19, 67), (17, 69), (7, 76), (0, 78)], [(19, 67), (18, 69), (17, 77), (13, 85), (1, 88)], [(19, 67), (18, 69), (17, 77), (16, 79), (13, 85), (12, 87), (9, 93), (7, 97), (1, 103)], [(21, 49), (19, 85), (12, 87), (9, 93), (8, 95), (7, 97), (6, 99), (1, 109)]]
def ohF1 : FrT := [[], [], [], [], [], [], [], [], [], [], [], [], [], [], [(3, 7), (2, 9), (1, 11)], [(3, 7), (2, 9), (1, 11), (0, 13)], [(3, 7), (2, 9), (1, 11), (0, 13)], [(3, 9), (2, 11), (1, 13)], [(4, 9), (3, 11), (2, 13), (1, 15)], [(4, 9), (3, 14), (1, 16), (0, 17)], [(4, 9), (3, 14), (2, 16), (0, 18)], [(4, 11), (3, 14), (2, 16), (1, 17), (0, 18)], [(5, 11), (4, 13), (3, 16), (2, 17), (1, 19)], [(5, 19), (3, 23), (1, 27)], [(5, 19), (4, 21), (3, 23), (2, 25), (1, 27), (0, 29)], [(5, 19), (4, 21), (3, 23), (2, 25), (1, 27), (0, 29)], [(6, 13), (5, 23), (3, 27), (1, 31)], [(7, 27), (4, 33), (1, 39)], [(7, 27), (6, 29), (5, 33), (3, 35), (1, 39), (0, 41)], [(7, 27), (6, 29), (5, 33), (4, 35), (1, 39), (0, 41)], [(7, 33), (4, 39), (1, 45)], [(10, 33), (9, 35), (7, 39), (5, 43), (4, 45), (1, 51)], [(10, 33), (9, 43), (7, 48), (5, 51), (1, 59)], [(10, 33), (9, 43), (8, 45), (7, 48), (6, 50), (5, 51), (4, 53), (1, 59), (0, 61)], [(10, 39), (9, 43), (8, 45), (7, 48), (6, 50), (5, 51), (4, 53), (1, 59), (0, 61)], [(13, 43), (10, 45), (9, 51), (7, 54), (5, 59), (1, 67)], [(13, 63), (7, 75), (1, 87)], [(13, 63), (12, 65), (9, 71), (7, 75), (6, 77), (1, 87), (0, 89)], [(13, 63), (12, 65), (9, 71), (8, 73), (7, 75), (6, 77), (1, 87), (0, 89)], [(17, 51), (16, 53), (13, 75), (7, 87), (1, 99)], [(19, 87), (10, 105), (2, 107), (1, 123)]]
theorem ooF_ok : xfc xr1 ooF1 ogF1 xkf1 2 3 1 2 2 2 = true := by decide +kernel
theorem owF_ok : xfc xr1 owF1 ovF1 [] 2 3 1 2 2 2 = true := by decide +kernel
theorem owF_h : xhd 3 1 xkf1 yfv1 owF1 = true := by decide +kernel
theorem ohF_o : xlf ooF1 xr1 ohF1 2 = true := by decide +kernel
theorem ohF_w : xlf owF1 xr1 ohF1 2 = true := by decide +kernel
def ooR1 : FrT := [[], [], [], [], [], [], [], [(0, 5)], [(0, 5)], [(1, 5), (0, 7)], [(1, 5), (0, 7)], [(1, 7)], [(2, 5), (1, 7), (0, 9)], [(2, 7), (1, 9), (0, 11)], [(2, 7), (1, 10), (0, 12)], [(3, 5), (2, 9), (1, 10), (0, 12)], [(3, 7), (2, 9), (1, 12), (0, 17)], [(3, 9), (2, 12), (1, 13), (0, 17)], [(3, 9), (2, 17), (0, 21)], [(4, 7), (3, 11), (2, 17), (0, 21)], [(4, 9), (3, 14), (2, 21), (0, 25)], [(4, 17), (2, 21), (0, 25)], [(4, 21), (3, 25), (0, 31)], [(5, 9), (4, 21), (3, 25), (2, 27), (0, 31)], [(6, 17), (4, 25), (3, 31), (0, 33)], [(6, 25), (3, 31), (1, 32), (0, 41)], [(6, 31), (4, 33), (3, 37), (0, 43)], [(6, 31), (4, 41), (0, 49)], [(9, 25), (6, 37), (4, 41), (0, 49)], [(9, 31), (8, 33), (6, 38), (4, 49), (0, 61)], [(9, 37), (8, 41), (6, 46), (4, 49), (0, 61)], [(9, 37), (8, 49), (6, 61), (0, 73)], [(12, 33), (9, 43), (8, 49), (6, 61), (0, 73)], [(12, 44), (9, 52), (8, 57), (6, 73), (0, 85)], [(12, 61), (6, 73), (1, 74), (0, 89)], [(12, 73), (9, 85), (1, 89), (0, 103)], [(16, 41), (12, 73), (9, 85), (8, 89), (6, 91), (0, 105)], [(18, 61), (12, 85), (9, 103), (0, 113)], [(18, 85), (12, 86), (9, 103), (8, 105), (3, 106), (1, 112), (0, 133)], [(18, 103), (12, 113), (9, 121), (0, 139)], [(20, 51), (18, 103), (16, 105), (12, 133), (1, 134), (0, 157)]]
def ogR1 : FrT := [[], [], [], [], [], [], [], [], [(1, 5)], [(1, 5), (0, 7)], [(2, 5), (1, 7)], [(2, 5), (1, 7), (0, 9)], [(2, 7), (0, 9)], [(3, 5), (2, 7), (1, 10)], [(3, 7), (2, 9), (1, 11)], [(3, 7), (2, 10), (1, 12), (0, 13)], [(4, 5), (3, 9), (2, 10), (1, 12), (0, 14)], [(4, 7), (3, 9), (2, 14), (1, 17)], [(4, 9), (3, 12), (2, 14), (1, 17), (0, 19)], [(4, 9), (3, 17), (1, 21)], [(5, 7), (4, 11), (3, 17), (2, 19), (1, 21), (0, 23)], [(5, 9), (4, 16), (3, 21), (1, 25)], [(5, 17), (3, 21), (2, 23), (1, 25), (0, 27)], [(5, 21), (4, 25), (1, 31)], [(6, 9), (5, 21), (4, 25), (3, 27), (1, 31), (0, 33)], [(7, 17), (6, 21), (5, 25), (4, 31), (1, 33)], [(7, 25), (4, 31), (3, 33), (1, 41)], [(7, 31), (5, 33), (4, 37), (1, 43)], [(7, 31), (6, 33), (5, 41), (1, 49)], [(10, 25), (9, 27), (7, 37), (5, 41), (4, 43), (1, 49), (0, 51)], [(10, 31), (9, 33), (8, 34), (7, 38), (6, 42), (5, 49), (1, 61)], [(10, 37), (9, 41), (7, 46), (5, 49), (4, 51), (1, 61), (0, 63)], [(10, 37), (9, 49), (7, 61), (1, 73)], [(13, 33), (12, 34), (10, 43), (9, 49), (8, 51), (7, 61), (6, 63), (1, 73), (0, 75)], [(13, 44), (12, 48), (10, 52), (9, 57), (7, 73), (1, 85)], [(13, 61), (8, 62), (7, 73), (6, 75), (1, 89)], [(13, 73), (10, 85), (2, 89), (1, 103)], [(17, 41), (16, 42), (13, 73), (12, 75), (10, 85), (9, 89), (7, 91), (1, 105)], [(19, 61), (18, 63), (13, 85), (10, 103), (1, 113)], [(19, 85), (13, 86), (12, 90), (10, 103), (9, 105), (4, 106), (2, 112), (1, 133)], [(19, 103), (13, 113), (10, 121), (1, 139)]]
def owR1 : FrT := [[], [], [], [], [], [], [], [], [], [], [], [], [(1, 6), (0, 9)], [(1, 6), (0, 9)], [(1, 9)], [(1, 9), (0, 11)], [(2, 8), (1, 11), (0, 14)], [(2, 9), (1, 11), (0, 14)], [(2, 14)], [(2, 14), (0, 18)], [(3, 10), (2, 14), (1, 16), (0, 19)], [(4, 14), (2, 19), (0, 25)], [(4, 18), (3, 19), (0, 25)], [(4, 18), (3, 19), (2, 25)], [(6, 14), (4, 18), (3, 19), (2, 25), (0, 29)], [(6, 19), (4, 23), (3, 28), (2, 29), (0, 37)], [(6, 25), (3, 28), (2, 29), (0, 37)], [(6, 25), (4, 35), (3, 37)], [(9, 19), (6, 25), (4, 35), (3, 37), (0, 43)], [(9, 25), (6, 34), (4, 37), (3, 43), (0, 52)], [(9, 31), (8, 35), (6, 37), (4, 45), (0, 57)], [(9, 31), (8, 43), (6, 52), (0, 57)], [(12, 25), (9, 31), (8, 43), (6, 52), (4, 57), (0, 64)], [(12, 35), (9, 40), (8, 45), (6, 52), (4, 57), (3, 58), (0, 69)], [(12, 52), (8, 53), (6, 67), (1, 69), (0, 85)], [(12, 64), (9, 67), (8, 69), (0, 85)], [(16, 32), (12, 64), (9, 67), (8, 77), (6, 85)], [(18, 52), (12, 64), (9, 67), (8, 77), (6, 85), (0, 97)], [(18, 67), (16, 69), (12, 79), (9, 94), (6, 97), (1, 105), (0, 121)], [(18, 85), (12, 89), (9, 94), (8, 97), (1, 105), (0, 121)], [(20, 40), (18, 85), (16, 93), (12, 115), (9, 121)]]
def ovR1 : FrT := [[], [], [], [], [], [], [], [], [], [], [], [], [], [(2, 6), (1, 9)], [(2, 6), (1, 9), (0, 11)], [(2, 9), (0, 11)], [(2, 9), (1, 11)], [(3, 8), (2, 11), (1, 14)], [(3, 9), (2, 11), (1, 14), (0, 16)], [(3, 14), (0, 16)], [(3, 14), (2, 16), (1, 18)], [(4, 10), (3, 14), (2, 16), (1, 19), (0, 20)], [(5, 14), (3, 19), (1, 25)], [(5, 18), (4, 19), (2, 21), (1, 25), (0, 27)], [(5, 18), (4, 20), (3, 25), (0, 27)], [(7, 14), (5, 18), (4, 20), (3, 25), (2, 27), (1, 29)], [(7, 19), (5, 23), (4, 28), (3, 29), (1, 37)], [(7, 25), (4, 28), (3, 30), (2, 31), (1, 37), (0, 39)], [(7, 25), (6, 27), (5, 35), (4, 37), (0, 39)], [(10, 19), (7, 25), (6, 27), (5, 35), (4, 37), (3, 39), (1, 43)], [(10, 25), (7, 34), (5, 37), (4, 43), (1, 52)], [(10, 31), (9, 35), (7, 37), (5, 45), (1, 57)], [(10, 31), (9, 43), (7, 52), (1, 57), (0, 59)], [(13, 25), (10, 31), (9, 43), (8, 45), (7, 52), (6, 54), (5, 57), (1, 64)], [(13, 35), (10, 40), (9, 45), (7, 52), (6, 54), (5, 57), (4, 59), (1, 69)], [(13, 52), (9, 53), (7, 67), (2, 69), (1, 85)], [(13, 64), (10, 67), (9, 69), (1, 85), (0, 87)], [(17, 32), (13, 64), (12, 66), (10, 67), (9, 77), (7, 85), (0, 87)], [(19, 52), (13, 64), (12, 66), (10, 67), (9, 77), (8, 79), (7, 85), (6, 87), (1, 97)], [(19, 67), (17, 69), (13, 79), (10, 94), (7, 97), (2, 105), (1, 121)], [(19, 85), (13, 89), (10, 94), (9, 97), (6, 99), (2, 105), (1, 121), (0, 123)]]
def ohR1 : FrT := [[], [], [], [], [], [], [], [], [], [], [(0, 7)], [(0, 7)], [(1, 7), (0, 9)], [(1, 7), (0, 9)], [(1, 9)], [(2, 7), (1, 9), (0, 11)], [(2, 9), (1, 11), (0, 13)], [(2, 9), (1, 12), (0, 14)], [(3, 7), (2, 11), (1, 12), (0, 14)], [(3, 9), (2, 11), (1, 14), (0, 19)], [(3, 11), (2, 14), (1, 15), (0, 19)], [(4, 7), (3, 11), (2, 19), (0, 23)], [(4, 9), (3, 13), (2, 19), (0, 23)], [(4, 11), (3, 16), (2, 23), (0, 27)], [(5, 7), (4, 19), (2, 23), (0, 27)], [(5, 9), (4, 23), (3, 27), (0, 33)], [(5, 11), (4, 23), (3, 27), (2, 29), (0, 33)], [(6, 19), (4, 27), (3, 33), (0, 35)], [(6, 27), (3, 33), (1, 34), (0, 43)], [(6, 33), (4, 35), (3, 39), (0, 45)], [(7, 19), (6, 33), (4, 43), (0, 51)], [(9, 27), (6, 39), (4, 43), (0, 51)], [(9, 33), (8, 35), (6, 40), (4, 51), (0, 63)], [(9, 39), (8, 43), (6, 48), (4, 51), (0, 63)], [(10, 27), (9, 39), (8, 51), (6, 63), (0, 75)], [(12, 35), (9, 45), (8, 51), (6, 63), (0, 75)], [(12, 46), (9, 54), (8, 59), (6, 75), (0, 87)], [(12, 63), (6, 75), (1, 76), (0, 91)], [(13, 35), (12, 75), (9, 87), (1, 91), (0, 105)], [(16, 43), (13, 46), (12, 75), (9, 87), (8, 91), (6, 93), (0, 107)], [(18, 63), (12, 87), (9, 105), (0, 115)]]
theorem ooR_ok : xfc xr1 ooR1 ogR1 xkr1 2 3 1 2 2 2 = true := by decide +kernel
theorem owR_ok : xfc xr1 owR1 ovR1 [] 2 3 1 2 2 2 = true := by decide +kernel
theorem owR_h : xhd 3 1 xkr1 yfv1 owR1 = true := by decide +kernel
theorem ohR_o : xlr ooR1 ogR1 xr1 ohR1 2 2 2 = true := by decide +kernel
theorem ohR_w : xlr owR1 ovR1 xr1 ohR1 2 2 2 = true := by decide +kernel
section PmOx
variable {d : Nat} {a c t C : Ty}
theorem xo_fun (o : ok d t = true) (hk : tch t ≤ 40) (k : kdt t = 1) : ∃ p ∈ frg xkf1 (tch t), XFm 0 (fun _ => 1 + 1) 3 1 d t p.1 p.2 := xk_fun (t0 := 0) (n1 := fun _ => 1 + 1) (s2 := 3) (hv := 1) xr1_ok (tbs1 true).2.2.2.1 (tbs1 true).2.2.2.2.1 xkf1_ok o hk k
theorem xo_rec (o : ok d t = true) (hk : tch t ≤ 40) (k : kdt t = 4) : ∃ p ∈ frg xkr1 (tch t), XFm 0 (fun _ => 1 + 1) 3 1 d t p.1 p.2 := xk_rec (t0 := 0) (n1 := fun _ => 1 + 1) (s2 := 3) (hv := 1) xr1_ok (tbs1 true).2.2.2.1 (tbs1 true).2.2.2.2.1 xkr1_ok xkr1_2 o hk k
theorem yooF (o : ok d t = true) (hk : tch t ≤ 40) (h : php (rhoO 1) t = true) : ∃ p ∈ frg ooF1 (tch t), XFm 0 (fun _ => 1 + 1) 3 1 d t p.1 p.2 := by
  refine xp_form (t0 := 0) (n1 := fun _ => 1 + 1) (s2 := 3) (hv := 1) xr1_ok ooF_ok (tbs1 true).2.2.2.1 (tbs1 true).2.2.2.2.1 (fun a c d oa oc hk hr => ?_) _ t d (Nat.le_refl _) o hk h
  unfold rhoO at hr
  rw [Bool.and_eq_true, decide_eq_true_iff, decide_eq_true_iff] at hr
  have ea := top_of oa hr.1
  subst ea
  exact xl_top (xlt_of1 ooF_ok) (by decide) oc hk (xo_fun oc (by rw [tch_all] at hk; omega) hr.2)
theorem yowF (o : ok d t = true) (hk : tch t ≤ 40) (h : php (rhoW 1) t = true) : ∃ p ∈ frg owF1 (tch t), XFm 0 (fun _ => 1 + 1) 3 1 d t p.1 p.2 := by
  refine xp_form (t0 := 0) (n1 := fun _ => 1 + 1) (s2 := 3) (hv := 1) xr1_ok owF_ok (tbs1 true).2.2.2.1 (tbs1 true).2.2.2.2.1 (fun a c d oa oc hk hr => ?_) _ t d (Nat.le_refl _) o hk h
  unfold rhoW at hr
  rw [Bool.and_eq_true, decide_eq_true_iff] at hr
  exact xhd_all owF_h oa oc hk (xo_fun oa (by rw [tch_all] at hk; omega) hr.1) (ypv1 oc (by rw [tch_all] at hk; omega) hr.2)
theorem yooR (o : ok d t = true) (hk : tch t ≤ 40) (h : php (rhoO 4) t = true) : ∃ p ∈ frg ooR1 (tch t), XFm 0 (fun _ => 1 + 1) 3 1 d t p.1 p.2 := by
  refine xp_form (t0 := 0) (n1 := fun _ => 1 + 1) (s2 := 3) (hv := 1) xr1_ok ooR_ok (tbs1 true).2.2.2.1 (tbs1 true).2.2.2.2.1 (fun a c d oa oc hk hr => ?_) _ t d (Nat.le_refl _) o hk h
  unfold rhoO at hr
  rw [Bool.and_eq_true, decide_eq_true_iff, decide_eq_true_iff] at hr
  have ea := top_of oa hr.1
  subst ea
  exact xl_top (xlt_of1 ooR_ok) (by decide) oc hk (xo_rec oc (by rw [tch_all] at hk; omega) hr.2)
theorem yowR (o : ok d t = true) (hk : tch t ≤ 40) (h : php (rhoW 4) t = true) : ∃ p ∈ frg owR1 (tch t), XFm 0 (fun _ => 1 + 1) 3 1 d t p.1 p.2 := by
  refine xp_form (t0 := 0) (n1 := fun _ => 1 + 1) (s2 := 3) (hv := 1) xr1_ok owR_ok (tbs1 true).2.2.2.1 (tbs1 true).2.2.2.2.1 (fun a c d oa oc hk hr => ?_) _ t d (Nat.le_refl _) o hk h
  unfold rhoW at hr
  rw [Bool.and_eq_true, decide_eq_true_iff] at hr
  exact xhd_all owR_h oa oc hk (xo_rec oa (by rw [tch_all] at hk; omega) hr.1) (ypv1 oc (by rw [tch_all] at hk; omega) hr.2)
theorem yoh_f (o : ok d C = true) (hk : tch C ≤ 40) (kC : kdt C = 1) (h : php (rhoO (kdt C)) C = true ∨ php (rhoW (kdt C)) C = true) : ∃ v ∈ frg ohF1 (tch C), XFm 0 (fun _ => 1 + 1) 3 1 d C v.1 v.2 := by
  rcases kdt_cases o with q | q | q | q | q
  · omega
  · obtain ⟨k, x, y, rfl, ox, oy⟩ := q
    rw [k] at h
    have hk' := hk
    rw [tch_fun] at hk'
    have fin : (∃ v ∈ frg ohF1 (tch (tFun x y)), XFm 0 (fun _ => 1 + 1) 3 1 d (tFun x y) v.1 v.2) → ∃ v ∈ frg ohF1 (tch (tFun x y)), XFm 0 (fun _ => 1 + 1) 3 1 d (tFun x y) v.1 v.2 := fun q => q
    rw [php_fun, php_fun, Bool.or_eq_true, Bool.or_eq_true] at h
    rcases h with (h | h) | (h | h)
    · exact fin (xl_fun ohF_o (n1 := fun _ => 1 + 1) (tbs1 true).2.2.2.1 ox oy hk (Or.inl ⟨yooF ox (by omega) h, yx1 oy (by omega)⟩))
    · exact fin (xl_fun ohF_o (n1 := fun _ => 1 + 1) (tbs1 true).2.2.2.1 ox oy hk (Or.inr ⟨yooF oy (by omega) h, yx1 ox (by omega)⟩))
    · exact fin (xl_fun ohF_w (n1 := fun _ => 1 + 1) (tbs1 true).2.2.2.1 ox oy hk (Or.inl ⟨yowF ox (by omega) h, yx1 oy (by omega)⟩))
    · exact fin (xl_fun ohF_w (n1 := fun _ => 1 + 1) (tbs1 true).2.2.2.1 ox oy hk (Or.inr ⟨yowF oy (by omega) h, yx1 ox (by omega)⟩))
  · omega
  · omega
  · omega
theorem yoh_r (o : ok d C = true) (hk : tch C ≤ 40) (kC : kdt C = 4) (h : php (rhoO (kdt C)) C = true ∨ php (rhoW (kdt C)) C = true) : ∃ v ∈ frg ohR1 (tch C), XFm 0 (fun _ => 1 + 1) 3 1 d C v.1 v.2 := by
  rcases kdt_cases o with q | q | q | q | q
  · omega
  · omega
  · omega
  · omega
  · obtain ⟨k, m, x, y, z, hm, rfl, o0, o1, o2⟩ := q
    rw [k] at h
    have fin : (∃ v ∈ frg ohR1 (tch (tRec m x y z)), XFm 0 (fun _ => 1 + 1) 3 1 d (tRec m x y z) v.1 v.2) → ∃ v ∈ frg ohR1 (tch (tRec m x y z)), XFm 0 (fun _ => 1 + 1) 3 1 d (tRec m x y z) v.1 v.2 := fun q => q
    rcases h with h | h
    · refine fin (xl_rep ohR_o (fun i j i1 j1 hij => (xfc_p ooR_ok i1 j1 hij).1) (tbs1 true).2.2.2.2.1 hm o0 o1 o2 (by omega) (fun t o hk => yx1 o hk) (ρ := rhoO 4) (fun l a1 a2 a3 a4 => ?_))
      rw [h, List.any_eq_true] at a3
      obtain ⟨p, hp, hp2⟩ := a3
      exact ⟨p, hp, yooR (a1 p hp) (a4 p hp) hp2⟩
    · refine fin (xl_rep ohR_w (fun i j i1 j1 hij => (xfc_p owR_ok i1 j1 hij).1) (tbs1 true).2.2.2.2.1 hm o0 o1 o2 (by omega) (fun t o hk => yx1 o hk) (ρ := rhoW 4) (fun l a1 a2 a3 a4 => ?_))
      rw [h, List.any_eq_true] at a3
      obtain ⟨p, hp, hp2⟩ := a3
      exact ⟨p, hp, yowR (a1 p hp) (a4 p hp) hp2⟩
end PmOx
def tq7 (V : List (Nat × Nat)) (F W : FrT) (hv fn s2 r0 r1 r2 r3 wB Bd : Nat) : Bool := V.all (fun v => (List.range (v.1 + 1)).all (fun p => Nat.ble (dp5 true F W 0 hv fn s2 r0 r1 r2 r3 (v.2 + (v.1 - p) * 1) p wB 0 30 (max 1 (hv + (s2 + (v.2 + (v.1 - p) * 1 + p * wB)))) 5 7) Bd))
theorem tq7R : tq7 (frg ohF1 30) fr1 fg1 1 2 3 2 2 2 2 2 887 = true := by decide +kernel
theorem tq7G : tq7 (mnl (frg ywq 30) nWq) frq fgq 0 1 1 1 3 2 1 1 597 = true := by decide +kernel
theorem tq7_get {V : List (Nat × Nat)} {F W : FrT} {hv fn s2 r0 r1 r2 r3 wB Bd p : Nat} (h : tq7 V F W hv fn s2 r0 r1 r2 r3 wB Bd = true) {v : Nat × Nat} (hv' : v ∈ V) (hp : p ≤ v.1) : dp5 true F W 0 hv fn s2 r0 r1 r2 r3 (v.2 + (v.1 - p) * 1) p wB 0 30 (max 1 (hv + (s2 + (v.2 + (v.1 - p) * 1 + p * wB)))) 5 7 ≤ Bd := Nat.le_of_ble_eq_true (rng_all (List.all_eq_true.mp h v hv') (i := p) (by omega))
section PmOy
variable {f : Nat} {t C : Ty} {Δ : List (Nat × Ty × Nat)}
theorem nat_11 (w : TWf f (cxs [] [] (tAll tTop C)).length (Δ.map (fun a => a.1)) t) (he : TE (cxs [] [] (tAll tTop C)) Δ) (nΔ : Δ ≠ []) (ch : CHo f t []) (hp : phf (fun _ => true) C = true) (kd1 : kdt C = 1) (ho : php (rhoO (kdt C)) C = true ∨ php (rhoW (kdt C)) C = true) (hC : hd C ≠ 2 ∧ hd C < 16) (hk : tch C = 30) (m7 : mch t = 7) (hb : dch Δ ≤ 5) : NtV (cxs [] [] (tAll tTop C)) Δ f t 887 597 := by
  obtain ⟨-, oA⟩ := okc_low [] he.1
  have oC := (ok_all.mp oA).2
  have l14 : (flat C).length ≤ 14 := by
    have q : (flat (tAll tTop C)).length ≤ 16 := he.2.1 0 (by rw [cxs_len]; simp)
    rw [flat_all, List.length_cons, List.length_append] at q
    have : (flat tTop).length = 1 := rfl
    omega
  have e1 : max 1 (fx1.getD 0 0) = 1 := by decide
  have eq : max 1 (fxq.getD 0 0) = 1 := by decide
  have w1 : frg fg1 0 = [(1, 0)] := by decide
  have wq : frg fgq 0 = [(1, 0)] := by decide
  have kd : kdt C = 1 ∨ kdt C = 4 := Or.inl kd1
  have yR := fun (d : Nat) (o : ok d C = true) => yoh_f o (by omega) kd1 ho
  have yG := fun (d : Nat) (o : ok d C = true) => mnl_ex (yw_G o (by omega) hp kd) (nw_form (t0 := 1) (n1 := ngc) (s2 := 1) (hv := 0) nfq_ok nwq_ok (by decide) tbsq.2.2.2.1 tbsq.2.2.2.2.1 o l14 hp kd)
  rw [hk] at yR yG
  refine zone_g7 (un := true) (e := false) (cd := 5) (ob := 0) (wR := 2) (wG := 1) (yR := max 1 (fx1.getD 0 0)) (yG := max 1 (fxq.getD 0 0)) (VR := frg ohF1 30) (VG := mnl (frg ywq 30) nWq) (WR := frg fg1 0) (WG := frg fgq 0) w he (Or.inr ⟨rfl, nΔ⟩) (Or.inl rfl) hC ch (by omega) hb (by omega) (fun b hb => by cases hb) (fun b hb => by cases hb) (fun b => by rw [nz_top]; exact vlr_one b 0) (by rw [nz_top]; exact Nat.le_refl _) (yR _ oC) (yG _ oC) (fun b v x1 x2 => nat_ctxg (wB := 2) (v := v) (tbs1 b) (vlr_one b) (by decide) he.1 x1 x2 (by rw [nz_top]; exact vlr_one b 0) (Nat.le_refl _) (by decide) (gr_R he.1 (by decide) b)) (fun v x1 x2 => nat_ctxg (wB := 1) (v := v) tbsq (fun y => by show y ≤ 0 + max 1 y; omega) (by decide) he.1 x1 x2 (by rw [nz_top]; exact Nat.le_refl _) (Nat.le_refl _) (by decide) (gr_G he.1 (by decide))) ?_ ?_
  · intro v hv p hp' e he'
    rw [w1] at he'
    rw [List.mem_singleton.mp he', e1, hk, m7]
    have q := tq7_get tq7R hv hp'
    refine ⟨(max 1 (1 + (3 + (v.2 + (v.1 - p) * 1 + p * 2))), 0, v.2 + (v.1 - p) * 1, p, 0, 30), ⟨?_, Nat.le_refl _, Nat.le_refl _, Nat.le_refl _, Nat.le_refl _⟩, ⟨by show 30 ≤ 50; omega, by show 2 ≤ max 1 (1 + (3 + (v.2 + (v.1 - p) * 1 + p * 2))); omega⟩, fun _ _ => q, fun e => by cases e⟩
    show 0 + 1 * max 1 (1 + (3 + (v.2 + (v.1 - p) * 1 + p * 2))) ≤ max 1 (1 + (3 + (v.2 + (v.1 - p) * 1 + p * 2)))
    omega
  · intro v hv p hp' e he'
    rw [wq] at he'
    rw [List.mem_singleton.mp he', eq, hk, m7]
    have q := tq7_get tq7G hv hp'
    refine ⟨(max 1 (0 + (1 + (v.2 + (v.1 - p) * 1 + p * 1))), 0, v.2 + (v.1 - p) * 1, p, 0, 30), ⟨?_, Nat.le_refl _, Nat.le_refl _, Nat.le_refl _, Nat.le_refl _⟩, ⟨by show 30 ≤ 50; omega, by show 1 ≤ max 1 (0 + (1 + (v.2 + (v.1 - p) * 1 + p * 1))); omega⟩, fun _ _ => q, fun e => by cases e⟩
    show 0 + 1 * max 1 (0 + (1 + (v.2 + (v.1 - p) * 1 + p * 1))) ≤ max 1 (0 + (1 + (v.2 + (v.1 - p) * 1 + p * 1)))
    omega
end PmOy
def RsO (f : Nat) (x y C : Ty) (Γ0 Δ1 : List Ty) (Δ : List (Nat × Ty × Nat)) : Prop := LFn f x y C Γ0 Δ1 Δ ∧ phf (fun _ => true) C = true ∧ Δ ≠ [] ∧ kdt C = 4 ∧ (php (rhoO 4) C = true ∨ php (rhoW 4) C = true) ∧ tch C = 30 ∧ Γ0 = [] ∧ Δ1 = [] ∧ mch x = 7 ∧ mch y = 7
def LeftO (f : Nat) (x y : Ty) (Γ : List Ty) (Δ : List (Nat × Ty × Nat)) : Prop := ∃ (Δ1 Γ0 : List Ty) (b : Ty), Γ = cxs Δ1 Γ0 b ∧ nsch b = false ∧ ((∀ a ∈ Γ0, nsch a = true ∨ tch a ≤ tch b) ∧ ∀ a ∈ Δ1, nsch a = true ∨ tch a ≤ tch b) ∧ ((∀ B C, b ≠ tAll B C) ∨ (∃ B C, b = tAll B C ∧ B ≠ tTop) ∨ ∃ (C : Ty), b = tAll tTop C ∧ RsO f x y C Γ0 Δ1 Δ)
def RESTJ9 : Prop := ∀ (f : Nat) (x y : Ty) (Γ : List Ty) (Δ : List (Nat × Ty × Nat)), TWf f Γ.length (Δ.map (fun a => a.1)) x → TWf f Γ.length (Δ.map (fun a => a.1)) y → TE Γ Δ → NAt f x → NAt f y → noac Γ → (∀ a ∈ Δ, noal a.2.1 = true) → TNo f x → TNo f y → 3 ≤ mch x → 3 ≤ mch y → (mch x ≤ mch y → ¬ NOp f x) → (¬ mch x ≤ mch y → ¬ NOp f y) → 20 ≤ cch Γ → cch Γ ≤ 47 → cch Γ + dch Δ + (2 + (mch x + mch y)) ≤ 60 → NoO f x y Γ Δ → ¬ AzT f x Γ Δ → ¬ AzT f y Γ Δ → ¬ AzB f x Γ Δ → ¬ AzB f y Γ Δ → ¬ AzC f x Γ Δ → ¬ AzC f y Γ Δ → ¬ AzI f x Γ Δ → ¬ AzI f y Γ Δ → ¬ AzF f x Γ Δ → ¬ AzF f y Γ Δ → ¬ AzG f x Γ Δ → ¬ AzG f y Γ Δ → ¬ AzH f x Γ Δ → ¬ AzH f y Γ Δ → ¬ PrS f x y Γ Δ → ¬ AzK f x Γ Δ → ¬ AzK f y Γ Δ → ¬ AzL f x Γ Δ → ¬ AzL f y Γ Δ → ¬ AzM f x Γ Δ → ¬ AzM f y Γ Δ → ¬ PrG f x y Γ Δ → ¬ AzN f x Γ Δ → ¬ AzN f y Γ Δ → ¬ One9 Γ → ¬ AzO f x Γ Δ → ¬ AzO f y Γ Δ → ¬ AzP f x Γ Δ → ¬ AzP f y Γ Δ → ¬ AzQ f x Γ Δ → ¬ AzQ f y Γ Δ → ¬ AzR f x Γ Δ → ¬ AzR f y Γ Δ → ¬ AzS f x Γ Δ → ¬ AzS f y Γ Δ → Cv2 f x y Γ Δ → Cv4 f x y Γ Δ → Cv5 f x y Γ Δ → Cv6 f x y Γ Δ → (¬ ((mch x ≤ mch y → CHo f x []) ∧ (¬ mch x ≤ mch y → CHo f y [])) ∨ LeftO f x y Γ Δ) → PRn f x y Γ Δ
theorem resti9_of (R : RESTJ9) : RESTI9 := by
  intro f x y Γ Δ x1 x2 he y1 y2 hv hd' tx ty m3 n3 no1 no2 h20 h47 hb ng ax ay bx bz cx cy dx dy ex ey gx gy ix iy jx kx ky lx ly mx my px qx qy ox ux uy vx vy wx wy zx zy sx sy c2 c4 c5 c6 hL
  have go := R f x y Γ Δ x1 x2 he y1 y2 hv hd' tx ty m3 n3 no1 no2 h20 h47 hb ng ax ay bx bz cx cy dx dy ex ey gx gy ix iy jx kx ky lx ly mx my px qx qy ox ux uy vx vy wx wy zx zy sx sy c2 c4 c5 c6
  by_cases hch : (mch x ≤ mch y → CHo f x []) ∧ (¬ mch x ≤ mch y → CHo f y [])
  rotate_left
  · exact go (Or.inl hch)
  rcases hL with hL | ⟨Δ1, Γ0, b, e, ns, ho, rest⟩
  · exact go (Or.inl hL)
  rcases rest with r | r | ⟨C, eb, lf, hp, nΔ, kC, k30, g0, g1, mx7, my7⟩
  · exact go (Or.inr ⟨Δ1, Γ0, b, e, ns, ho, Or.inl r⟩)
  · exact go (Or.inr ⟨Δ1, Γ0, b, e, ns, ho, Or.inr (Or.inl r)⟩)
  have keep : RsO f x y C Γ0 Δ1 Δ → PRn f x y Γ Δ := fun k => go (Or.inr ⟨Δ1, Γ0, b, e, ns, ho, Or.inr (Or.inr ⟨C, eb, k⟩)⟩)
  subst g0
  subst g1
  subst eb
  subst e
  have nov : ¬ OVq 1 tTop C Dsm [] := ng.2 [] [] tTop C rfl (by decide +kernel)
  have ec := ec_top C [] []
  have z0 : cch ([] : List Ty) = 0 := rfl
  obtain ⟨-, oA⟩ := okc_low [] he.1
  have oC := (ok_all.mp oA).2
  have na : noal C = true := by
    have q := (hv 0 (by rw [cxs_len]; simp)).1
    have e0 : bnd (cxs [] [] (tAll tTop C)) 0 = tAll tTop C := rfl
    rw [e0, noal_all, Bool.and_eq_true, Bool.and_eq_true] at q
    exact q.2.2
  have hC : (hd C ≠ 0 ∧ hd C < 16) ∧ hd C ≠ 2 := by
    rcases kdt_cases oC with q | q | q | q | q
    · omega
    · obtain ⟨-, x, y, rfl, -, -⟩ := q
      rw [hd_fun]; decide
    · omega
    · omega
    · obtain ⟨-, m, x, y, z, hm, rfl, -, -, -⟩ := q
      rw [hd_rec]; omega
  have fl := own_flag kC oC na hC.1 nov
  rcases kC with kC | kC
  rotate_left
  · rw [kC] at fl
    exact keep ⟨lf, hp, nΔ, kC, fl, k30, rfl, rfl, mx7, my7⟩
  exact pair_ntv x1 x2 he y1 y2 hv hd' (by omega) (Or.inl (nat_11 x1 he nΔ (hch.1 (by omega)) hp kC fl ⟨hC.2, hC.1.2⟩ k30 mx7 (by omega)))
theorem pairn_pj (R : RESTJ9) : PAIRn := pairn_pi (resti9_of R)
