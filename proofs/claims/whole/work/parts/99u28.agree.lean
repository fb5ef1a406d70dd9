/-! TWO TYPES THAT AGREE DOWN TO PAIRS THAT COST LITTLE. -/
/-- n counts the places -/
def Agr (PR : List Ty → Ty → Ty → Prop) : Nat → List Ty → Ty → Ty → Nat → Prop
  | 0, _, _, _, _ => False
  | f + 1, Γ, S, T, n => 1 ≤ n ∧ (PR Γ S T ∨ (∃ a b a' b' i j, S = tFun a b ∧ T = tFun a' b' ∧ Agr PR f Γ a a' i ∧ Agr PR f Γ b b' j ∧ i + j + 1 ≤ n) ∨ (∃ a b a' b' j, S = tAll a b ∧ T = tAll a' b' ∧ (a = a' → Agr PR f (a :: Γ) b b' j) ∧ j + 1 ≤ n) ∨ (∃ m x y z x' y' z' i j k, m < 8 ∧ S = tRec m x y z ∧ T = tRec m x' y' z' ∧ (bit m 0 = true → Agr PR f Γ x x' i) ∧ (bit m 1 = true → Agr PR f Γ y y' j) ∧ (bit m 2 = true → Agr PR f Γ z z' k) ∧ i + j + k + 1 ≤ n))
section PmVe
variable {G e : Nat} {PR : List Ty → Ty → Ty → Prop}
theorem Agr.sy (sy : ∀ Γ c d, PR Γ c d → PR Γ d c) : ∀ (f : Nat) (Γ : List Ty) (S T : Ty) (n : Nat), Agr PR f Γ S T n → Agr PR f Γ T S n
  | 0, _, _, _, _, h => h.elim
  | f + 1, Γ, S, T, n, ⟨n1, h⟩ => by
    refine ⟨n1, ?_⟩
    rcases h with h | ⟨a, b, a', b', i, j, e1, e2, h1, h2, h3⟩ | ⟨a, b, a', b', j, e1, e2, h1, h3⟩ | ⟨m, x, y, z, x', y', z', i, j, k, hm, e1, e2, h0, h1, h2, h3⟩
    · exact Or.inl (sy _ _ _ h)
    · exact Or.inr (Or.inl ⟨a', b', a, b, i, j, e2, e1, Agr.sy sy f _ _ _ _ h1, Agr.sy sy f _ _ _ _ h2, h3⟩)
    · refine Or.inr (Or.inr (Or.inl ⟨a', b', a, b, j, e2, e1, fun q => ?_, h3⟩))
      have := Agr.sy sy f _ _ _ _ (h1 q.symm)
      rw [q]; exact this
    · exact Or.inr (Or.inr (Or.inr ⟨m, x', y', z', x, y, z, i, j, k, hm, e2, e1, fun q => Agr.sy sy f _ _ _ _ (h0 q), fun q => Agr.sy sy f _ _ _ _ (h1 q), fun q => Agr.sy sy f _ _ _ _ (h2 q), h3⟩))
theorem agr_trx (G1 : 1 ≤ G) (sy : ∀ Γ c d, PR Γ c d → PR Γ d c) (HL : ∀ Γ c d, PR Γ c d → TB e (Γ, c, d) → trx (Γ, c, d) ≤ G) : ∀ (f : Nat) (Γ : List Ty) (S T : Ty) (n : Nat), Agr PR f Γ S T n → TB e (Γ, S, T) → trx (Γ, S, T) ≤ G * n
  | 0, _, _, _, _, h, _ => h.elim
  | f + 1, Γ, S, T, n, ⟨n1, h⟩, tb => by
    have hc : okc Γ := tb.1.1
    have one : G ≤ G * n := Nat.le_mul_of_pos_right _ n1
    rcases h with h | ⟨a, b, a', b', i, j, rfl, rfl, h1, h2, h3⟩ | ⟨a, b, a', b', j, rfl, rfl, h1, h3⟩ | ⟨m, x, y, z, x', y', z', i, j, k, hm, rfl, rfl, h0, h1, h2, h3⟩
    · exact Nat.le_trans (HL _ _ _ h tb) one
    · have tk := tb.1
      have oS := ok_fun.mp tk.2.1
      have oT := ok_fun.mp tk.2.2
      have bS := (cbd_fun _ _ _).mp tb.2.2.1
      have bT := (cbd_fun _ _ _).mp tb.2.2.2
      have i1 := agr_trx G1 sy HL f Γ b b' j h2 ⟨⟨hc, oS.2, oT.2⟩, tb.2.1, bS.2, bT.2⟩
      have i2 := agr_trx G1 sy HL f Γ a' a i (Agr.sy sy f _ _ _ _ h1) ⟨⟨hc, oT.1, oS.1⟩, tb.2.1, bT.1, bS.1⟩
      have mm := Nat.mul_le_mul_left G h3
      rw [Nat.mul_add, Nat.mul_add] at mm
      rcases stp_cases tk with e1 | ⟨e1, r1⟩ | ⟨j, hj, e0, hT0, e1, r1⟩ | ⟨m, x, y, z, m', x', y', z', hm, hm', e0, e2, e1, r1⟩ | ⟨p, q, p', q', e0, e2, e1, r1⟩ | ⟨p, q, q', e0, e2, e1, r1⟩
      · rw [trx_none e1]; exact Nat.zero_le _
      · have z := stp_x (z := (Γ, tFun a b, tFun a' b')) tk e1
        rw [← z]
        show 0 + rst (tFun _ _) (tFun _ _) ≤ _
        rw [r1]; omega
      · have := congrArg hd e0; rw [hd_var, hd_fun] at this; omega
      · have := congrArg hd e0; rw [hd_fun, hd_rec] at this; omega
      · obtain ⟨ea, eb⟩ := fun_inj e0
        obtain ⟨ea', eb'⟩ := fun_inj e2
        have z := stp_x (z := (Γ, tFun a b, tFun a' b')) tk e1
        rw [← z]
        show (trx (Γ, q, q') + (trx (Γ, p', p) + 0)) + rst (tFun _ _) (tFun _ _) ≤ _
        rw [r1, ← ea, ← eb, ← ea', ← eb']
        omega
      · have := congrArg hd e0; rw [hd_fun, hd_all] at this; omega
    · have tk := tb.1
      have mm := Nat.mul_le_mul_left G h3
      rw [Nat.mul_add] at mm
      rcases stp_cases tk with e1 | ⟨e1, r1⟩ | ⟨j, hj, e0, hT0, e1, r1⟩ | ⟨m, x, y, z, m', x', y', z', hm, hm', e0, e2, e1, r1⟩ | ⟨p, q, p', q', e0, e2, e1, r1⟩ | ⟨p, q, q', e0, e2, e1, r1⟩
      · rw [trx_none e1]; exact Nat.zero_le _
      · have z := stp_x (z := (Γ, tAll a b, tAll a' b')) tk e1
        rw [← z]
        show 0 + rst (tAll _ _) (tAll _ _) ≤ _
        rw [r1]; omega
      · have := congrArg hd e0; rw [hd_var, hd_all] at this; omega
      · have := congrArg hd e0; rw [hd_all, hd_rec] at this; omega
      · have := congrArg hd e0; rw [hd_all, hd_fun] at this; omega
      · obtain ⟨ea, eb⟩ := all_inj e0
        obtain ⟨ea', eb'⟩ := all_inj e2
        have z := stp_x (z := (Γ, tAll a b, tAll a' b')) tk e1
        have tb2 : TB e (p :: Γ, q, q') := TB_all (by rw [← e0, ← e2]; exact tb)
        have h1 := h1 (by rw [ea, ea'])
        rw [ea, eb, eb'] at h1
        have i1 := agr_trx G1 sy HL f (p :: Γ) q q' j h1 tb2
        rw [← z]
        show (trx (p :: Γ, q, q') + 0) + rst (tAll _ _) (tAll _ _) ≤ _
        rw [r1]
        omega
    · have tk := tb.1
      have oS := (ok_rec hm).mp tk.2.1
      have oT := (ok_rec hm).mp tk.2.2
      have bS := (cbd_rec _ _ _ _).mp tb.2.2.1
      have bT := (cbd_rec _ _ _ _).mp tb.2.2.2
      have mm := Nat.mul_le_mul_left G h3
      rw [Nat.mul_add, Nat.mul_add, Nat.mul_add] at mm
      have key : ∀ (g : Nat) (p p' : Ty) (i : Nat), (bit m g = true → Agr PR f Γ p p' i) → okl Γ.length m g p → okl Γ.length m g p' → cbd e (cl Γ) p → cbd e (cl Γ) p' → rxs (stl Γ m g p p') ≤ G * i := by
        intro g p p' i hp o1 o2 b1 b2
        unfold stl
        by_cases hb : bit m g = true
        · rw [if_pos hb]
          have i1 := agr_trx G1 sy HL f Γ p p' i (hp hb) ⟨⟨hc, okl_on o1 (bit_iff.mp hb), okl_on o2 (bit_iff.mp hb)⟩, tb.2.1, b1, b2⟩
          show trx (Γ, p, p') + 0 ≤ _
          omega
        · rw [if_neg hb]; exact Nat.zero_le _
      have k0 := key 0 x x' i h0 oS.1 oT.1 bS.1 bT.1
      have k1 := key 1 y y' j h1 oS.2.1 oT.2.1 bS.2.1 bT.2.1
      have k2 := key 2 z z' k h2 oS.2.2 oT.2.2 bS.2.2 bT.2.2
      rcases stp_cases tk with e1 | ⟨e1, r1⟩ | ⟨j, hj, e0, hT0, e1, r1⟩ | ⟨m1, x1, y1, z1, m2, x2, y2, z2, hm1, hm2, e0, e2, e1, r1⟩ | ⟨p, q, p', q', e0, e2, e1, r1⟩ | ⟨p, q, q', e0, e2, e1, r1⟩
      · rw [trx_none e1]; exact Nat.zero_le _
      · have z'' := stp_x (z := (Γ, tRec m x y z, tRec m x' y' z')) tk e1
        rw [← z'']
        show 0 + rst (tRec _ _ _ _) (tRec _ _ _ _) ≤ _
        rw [r1]; omega
      · have := congrArg hd e0; rw [hd_var, hd_rec] at this; omega
      · obtain ⟨em, ex, ey, ez⟩ := rec_inj e0
        obtain ⟨em', ex', ey', ez'⟩ := rec_inj e2
        have z'' := stp_x (z := (Γ, tRec m x y z, tRec m x' y' z')) tk e1
        rw [← z'']
        show rxs (stl Γ m2 2 z1 z2 ++ (stl Γ m2 1 y1 y2 ++ stl Γ m2 0 x1 x2)) + rst (tRec _ _ _ _) (tRec _ _ _ _) ≤ _
        rw [r1, rxs_app, rxs_app, ← em', ← ex, ← ey, ← ez, ← ex', ← ey', ← ez']
        omega
      · have := congrArg hd e0; rw [hd_rec, hd_fun] at this; omega
      · have := congrArg hd e0; rw [hd_rec, hd_all] at this; omega
end PmVe
