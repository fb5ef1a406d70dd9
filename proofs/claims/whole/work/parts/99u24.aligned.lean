/-! TWO INSTANCES OF ONE TYPE: they are walked side by side, down to the arguments. -/
section PmUy
variable {G e : Nat} {Γ : List Ty} {PR : Ty → Ty → Prop}
theorem fun_inj {a b a' b' : Ty} (e : tFun a b = tFun a' b') : a = a' ∧ b = b' := by
  unfold tFun at e
  injection e with e1 e2
  injection e2 with e3 e4
  exact ⟨e3, e4⟩
theorem all_inj {a b a' b' : Ty} (e : tAll a b = tAll a' b') : a = a' ∧ b = b' := by
  unfold tAll at e
  injection e with e1 e2
  injection e2 with e3 e4
  exact ⟨e3, e4⟩
theorem trx_same {Γ : List Ty} {k : Nat} (tk : tok (Γ, tVar k, tVar k)) : trx (Γ, tVar k, tVar k) = 0 := by
  have e : stp Γ (tVar k) (tVar k) = some [] := by
    unfold stp
    rw [if_pos (Or.inr ⟨by rw [hd_var]; omega, rfl⟩)]
  have q := stp_x (z := (Γ, tVar k, tVar k)) tk e
  rcases stp_cases tk with e1 | ⟨e1, r1⟩ | ⟨j, hj, e0, hT0, e1, r1⟩ | ⟨m, x, y, z, m', x', y', z', hm, hm', e0, e2, e1, r1⟩ | ⟨a, b, a', b', e0, e2, e1, r1⟩ | ⟨a, b, b', e0, e2, e1, r1⟩
  · rw [e] at e1; cases e1
  · have q : 0 + rst (tVar k) (tVar k) = trx (Γ, tVar k, tVar k) := q
    omega
  · rw [e] at e1; cases e1
  · have := congrArg hd e0; rw [hd_var, hd_rec] at this; omega
  · have := congrArg hd e0; rw [hd_var, hd_fun] at this; omega
  · have := congrArg hd e0; rw [hd_var, hd_all] at this; omega
/-- rows of a comparison -/
theorem ali_trx (G1 : 1 ≤ G) (sy : ∀ c d, PR c d → PR d c) (HL : ∀ c d, PR c d → ∀ Δ, TB e (Δ ++ Γ, lft Γ.length Δ.length c, lft Γ.length Δ.length d) → trx (Δ ++ Γ, lft Γ.length Δ.length c, lft Γ.length Δ.length d) ≤ G) : ∀ (f : Nat) (t : Ty) (c d : Ty) (Δ : List Ty), (flat t).length ≤ f → PR c d → ok (Γ.length + 1 + Δ.length) t = true → TB e (Δ ++ Γ, sbt Γ.length c Δ.length t, sbt Γ.length d Δ.length t) → trx (Δ ++ Γ, sbt Γ.length c Δ.length t, sbt Γ.length d Δ.length t) ≤ G * (flat t).length
  | 0, t, c, d, Δ, hf, _, o, _ => by have := flat_pos o; omega
  | f + 1, t, c, d, Δ, hf, pr, o, tb => by
    have hc : okc (Δ ++ Γ) := tb.1.1
    have fp := flat_pos o
    have one : G ≤ G * (flat t).length := Nat.le_mul_of_pos_right _ fp
    rcases ok_cases o with rfl | ⟨k, hk, rfl⟩ | ⟨a, b, rfl, ha, hb⟩ | ⟨a, b, rfl, ha, hb⟩ | ⟨m, x, y, z, hm, rfl, h0, h1, h2⟩
    · rw [sbt_top, sbt_top]
      have : trx (Δ ++ Γ, tTop, tTop) = 0 := trf_top _ hd_top
      omega
    · rw [sbt_var, sbt_var] at tb ⊢
      by_cases ek : k = Γ.length
      · rw [if_pos ek, if_pos ek] at tb ⊢
        exact Nat.le_trans (HL c d pr Δ tb) one
      · rw [if_neg ek, if_neg ek] at tb ⊢
        by_cases e2 : Γ.length < k
        · rw [if_pos e2] at tb ⊢
          rw [trx_same tb.1]; omega
        · rw [if_neg e2] at tb ⊢
          rw [trx_same tb.1]; omega
    · rw [sbt_fun, sbt_fun] at tb ⊢
      rw [flat_fun, List.length_cons, List.length_append] at hf ⊢
      have tk := tb.1
      have oS := ok_fun.mp tk.2.1
      have oT := ok_fun.mp tk.2.2
      have bS := (cbd_fun _ _ _).mp tb.2.2.1
      have bT := (cbd_fun _ _ _).mp tb.2.2.2
      have i1 := ali_trx G1 sy HL f b c d Δ (by omega) pr hb ⟨⟨hc, oS.2, oT.2⟩, tb.2.1, bS.2, bT.2⟩
      have i2 := ali_trx G1 sy HL f a d c Δ (by omega) (sy _ _ pr) ha ⟨⟨hc, oT.1, oS.1⟩, tb.2.1, bT.1, bS.1⟩
      rcases stp_cases tk with e1 | ⟨e1, r1⟩ | ⟨j, hj, e0, hT0, e1, r1⟩ | ⟨m, x, y, z, m', x', y', z', hm, hm', e0, e2, e1, r1⟩ | ⟨p, q, p', q', e0, e2, e1, r1⟩ | ⟨p, q, q', e0, e2, e1, r1⟩
      · rw [trx_none e1]; exact Nat.zero_le _
      · have z := stp_x (z := (Δ ++ Γ, tFun (sbt Γ.length c Δ.length a) (sbt Γ.length c Δ.length b), tFun (sbt Γ.length d Δ.length a) (sbt Γ.length d Δ.length b))) tk e1
        rw [← z]
        show 0 + rst (tFun _ _) (tFun _ _) ≤ _
        rw [r1]; omega
      · have := congrArg hd e0; rw [hd_var, hd_fun] at this; omega
      · have := congrArg hd e0; rw [hd_fun, hd_rec] at this; omega
      · obtain ⟨ea, eb⟩ := fun_inj e0
        obtain ⟨ea', eb'⟩ := fun_inj e2
        have z := stp_x (z := (Δ ++ Γ, tFun (sbt Γ.length c Δ.length a) (sbt Γ.length c Δ.length b), tFun (sbt Γ.length d Δ.length a) (sbt Γ.length d Δ.length b))) tk e1
        rw [← z]
        show (trx (Δ ++ Γ, q, q') + (trx (Δ ++ Γ, p', p) + 0)) + rst (tFun _ _) (tFun _ _) ≤ _
        rw [r1, ← ea, ← eb, ← ea', ← eb', Nat.mul_add, Nat.mul_add]
        omega
      · have := congrArg hd e0; rw [hd_fun, hd_all] at this; omega
    · rw [sbt_all, sbt_all] at tb ⊢
      rw [flat_all, List.length_cons, List.length_append] at hf ⊢
      have tk := tb.1
      have oS := ok_all.mp tk.2.1
      have oT := ok_all.mp tk.2.2
      rcases stp_cases tk with e1 | ⟨e1, r1⟩ | ⟨j, hj, e0, hT0, e1, r1⟩ | ⟨m, x, y, z, m', x', y', z', hm, hm', e0, e2, e1, r1⟩ | ⟨p, q, p', q', e0, e2, e1, r1⟩ | ⟨p, q, q', e0, e2, e1, r1⟩
      · rw [trx_none e1]; exact Nat.zero_le _
      · have z := stp_x (z := (Δ ++ Γ, tAll (sbt Γ.length c Δ.length a) (sbt Γ.length c (Δ.length + 1) b), tAll (sbt Γ.length d Δ.length a) (sbt Γ.length d (Δ.length + 1) b))) tk e1
        rw [← z]
        show 0 + rst (tAll _ _) (tAll _ _) ≤ _
        rw [r1]; omega
      · have := congrArg hd e0; rw [hd_var, hd_all] at this; omega
      · have := congrArg hd e0; rw [hd_all, hd_rec] at this; omega
      · have := congrArg hd e0; rw [hd_all, hd_fun] at this; omega
      · obtain ⟨ea, eb⟩ := all_inj e0
        obtain ⟨ea', eb'⟩ := all_inj e2
        have z := stp_x (z := (Δ ++ Γ, tAll (sbt Γ.length c Δ.length a) (sbt Γ.length c (Δ.length + 1) b), tAll (sbt Γ.length d Δ.length a) (sbt Γ.length d (Δ.length + 1) b))) tk e1
        have i1 := ali_trx G1 sy HL f b c d (p :: Δ) (by omega) pr (by rw [List.length_cons]; exact hb) (by
          have tb2 : TB e (p :: (Δ ++ Γ), q, q') := TB_all (by rw [← e0, ← e2]; exact tb)
          rw [List.length_cons, eb, eb']
          exact tb2)
        rw [List.length_cons, eb, eb'] at i1
        rw [← z]
        show (trx (p :: (Δ ++ Γ), q, q') + 0) + rst (tAll _ _) (tAll _ _) ≤ _
        have i1 : trx (p :: (Δ ++ Γ), q, q') ≤ G * (flat b).length := i1
        rw [r1, Nat.mul_add, Nat.mul_add]
        omega
    · rw [sbt_rec, sbt_rec] at tb ⊢
      rw [flat_rec, List.length_cons, List.length_append, List.length_append] at hf ⊢
      have tk := tb.1
      have bS := (cbd_rec _ _ _ _).mp tb.2.2.1
      have bT := (cbd_rec _ _ _ _).mp tb.2.2.2
      have oS := (ok_rec hm).mp tk.2.1
      have oT := (ok_rec hm).mp tk.2.2
      have key : ∀ (g : Nat) (p : Ty), (flat p).length ≤ f → okl (Γ.length + 1 + Δ.length) m g p → okl (Δ ++ Γ).length m g (sbt Γ.length c Δ.length p) → okl (Δ ++ Γ).length m g (sbt Γ.length d Δ.length p) → cbd e (cl (Δ ++ Γ)) (sbt Γ.length c Δ.length p) → cbd e (cl (Δ ++ Γ)) (sbt Γ.length d Δ.length p) → rxs (stl (Δ ++ Γ) m g (sbt Γ.length c Δ.length p) (sbt Γ.length d Δ.length p)) ≤ G * (flat p).length := by
        intro g p hp op o1 o2 b1 b2
        unfold stl
        by_cases hb : bit m g = true
        · rw [if_pos hb]
          unfold okl at op
          rw [if_pos hb] at op
          have i1 := ali_trx G1 sy HL f p c d Δ hp pr op ⟨⟨hc, okl_on o1 (bit_iff.mp hb), okl_on o2 (bit_iff.mp hb)⟩, tb.2.1, b1, b2⟩
          show trx (Δ ++ Γ, sbt Γ.length c Δ.length p, sbt Γ.length d Δ.length p) + 0 ≤ _
          omega
        · rw [if_neg hb]; exact Nat.zero_le _
      have k0 := key 0 x (by omega) h0 oS.1 oT.1 bS.1 bT.1
      have k1 := key 1 y (by omega) h1 oS.2.1 oT.2.1 bS.2.1 bT.2.1
      have k2 := key 2 z (by omega) h2 oS.2.2 oT.2.2 bS.2.2 bT.2.2
      rcases stp_cases tk with e1 | ⟨e1, r1⟩ | ⟨j, hj, e0, hT0, e1, r1⟩ | ⟨m1, x1, y1, z1, m2, x2, y2, z2, hm1, hm2, e0, e2, e1, r1⟩ | ⟨p, q, p', q', e0, e2, e1, r1⟩ | ⟨p, q, q', e0, e2, e1, r1⟩
      · rw [trx_none e1]; exact Nat.zero_le _
      · have z' := stp_x (z := (Δ ++ Γ, tRec m (sbt Γ.length c Δ.length x) (sbt Γ.length c Δ.length y) (sbt Γ.length c Δ.length z), tRec m (sbt Γ.length d Δ.length x) (sbt Γ.length d Δ.length y) (sbt Γ.length d Δ.length z))) tk e1
        rw [← z']
        show 0 + rst (tRec _ _ _ _) (tRec _ _ _ _) ≤ _
        rw [r1]; omega
      · have := congrArg hd e0; rw [hd_var, hd_rec] at this; omega
      · obtain ⟨em, ex, ey, ez⟩ := rec_inj e0
        obtain ⟨em', ex', ey', ez'⟩ := rec_inj e2
        have z' := stp_x (z := (Δ ++ Γ, tRec m (sbt Γ.length c Δ.length x) (sbt Γ.length c Δ.length y) (sbt Γ.length c Δ.length z), tRec m (sbt Γ.length d Δ.length x) (sbt Γ.length d Δ.length y) (sbt Γ.length d Δ.length z))) tk e1
        rw [← z']
        show rxs (stl (Δ ++ Γ) m2 2 z1 z2 ++ (stl (Δ ++ Γ) m2 1 y1 y2 ++ stl (Δ ++ Γ) m2 0 x1 x2)) + rst (tRec _ _ _ _) (tRec _ _ _ _) ≤ _
        rw [r1, rxs_app, rxs_app, ← em', ← ex, ← ey, ← ez, ← ex', ← ey', ← ez', Nat.mul_add, Nat.mul_add, Nat.mul_add]
        omega
      · have := congrArg hd e0; rw [hd_rec, hd_fun] at this; omega
      · have := congrArg hd e0; rw [hd_rec, hd_all] at this; omega
/-- rows and goals of a join -/
theorem ali_gm (G3 : 3 ≤ G) (sy : ∀ c d, PR c d → PR d c) (HL : ∀ c d, PR c d → ∀ Δ, TB e (Δ ++ Γ, lft Γ.length Δ.length c, lft Γ.length Δ.length d) → trx (Δ ++ Γ, lft Γ.length Δ.length c, lft Γ.length Δ.length d) ≤ G) (HG : ∀ c d, PR c d → ∀ Δ, TB e (Δ ++ Γ, lft Γ.length Δ.length c, lft Γ.length Δ.length d) → ∀ w, w ≤ 1 → gm (w, Δ ++ Γ, lft Γ.length Δ.length c, lft Γ.length Δ.length d) ≤ G ∧ gn (w, Δ ++ Γ, lft Γ.length Δ.length c, lft Γ.length Δ.length d) ≤ G) : ∀ (f : Nat) (t : Ty) (c d : Ty) (Δ : List Ty) (w : Nat), w ≤ 1 → (flat t).length ≤ f → PR c d → ok (Γ.length + 1 + Δ.length) t = true → TB e (Δ ++ Γ, sbt Γ.length c Δ.length t, sbt Γ.length d Δ.length t) → gm (w, Δ ++ Γ, sbt Γ.length c Δ.length t, sbt Γ.length d Δ.length t) ≤ G * (flat t).length ∧ gn (w, Δ ++ Γ, sbt Γ.length c Δ.length t, sbt Γ.length d Δ.length t) ≤ G * (flat t).length
  | 0, t, c, d, Δ, w, _, hf, _, o, _ => by have := flat_pos o; omega
  | f + 1, t, c, d, Δ, w, w1, hf, pr, o, tb => by
    have hc : okc (Δ ++ Γ) := tb.1.1
    have w2 : w ≠ 2 := by omega
    have tk := tb.1
    have fp := flat_pos o
    have one : G ≤ G * (flat t).length := Nat.le_mul_of_pos_right _ fp
    have tu : tru (Δ ++ Γ, sbt Γ.length c Δ.length t, sbt Γ.length d Δ.length t) ≤ G * (flat t).length := by
      have a1 := ali_trx (by omega) sy HL _ t c d Δ (Nat.le_refl _) pr o tb
      have a2 := ali_trx (by omega) sy HL _ t d c Δ (Nat.le_refl _) (sy _ _ pr) o (TB_sw tb)
      show max (trx _) (trx _) ≤ _
      exact Nat.max_le.mpr ⟨a1, a2⟩
    have u1 := gm_unf (z := (w, Δ ++ Γ, sbt Γ.length c Δ.length t, sbt Γ.length d Δ.length t)) tk w2
    have u2 := gn_unf (z := (w, Δ ++ Γ, sbt Γ.length c Δ.length t, sbt Γ.length d Δ.length t)) tk w2
    have fin : gro (w, Δ ++ Γ, sbt Γ.length c Δ.length t, sbt Γ.length d Δ.length t) + sgl gm (gcs (w, Δ ++ Γ, sbt Γ.length c Δ.length t, sbt Γ.length d Δ.length t)) ≤ G * (flat t).length → gno (w, Δ ++ Γ, sbt Γ.length c Δ.length t, sbt Γ.length d Δ.length t) + sgl gn (gcs (w, Δ ++ Γ, sbt Γ.length c Δ.length t, sbt Γ.length d Δ.length t)) ≤ G * (flat t).length → gm (w, Δ ++ Γ, sbt Γ.length c Δ.length t, sbt Γ.length d Δ.length t) ≤ G * (flat t).length ∧ gn (w, Δ ++ Γ, sbt Γ.length c Δ.length t, sbt Γ.length d Δ.length t) ≤ G * (flat t).length := by
      intro b1 b2
      rw [u1, u2]
      exact ⟨Nat.max_le.mpr ⟨tu, b1⟩, Nat.max_le.mpr ⟨by omega, b2⟩⟩
    have nil : gcs (w, Δ ++ Γ, sbt Γ.length c Δ.length t, sbt Γ.length d Δ.length t) = [] → gro (w, Δ ++ Γ, sbt Γ.length c Δ.length t, sbt Γ.length d Δ.length t) ≤ 1 → gno (w, Δ ++ Γ, sbt Γ.length c Δ.length t, sbt Γ.length d Δ.length t) = 1 → gm (w, Δ ++ Γ, sbt Γ.length c Δ.length t, sbt Γ.length d Δ.length t) ≤ G * (flat t).length ∧ gn (w, Δ ++ Γ, sbt Γ.length c Δ.length t, sbt Γ.length d Δ.length t) ≤ G * (flat t).length := by
      intro g1 g2 g3
      refine fin ?_ ?_
      · rw [g1]
        show gro _ + 0 ≤ _
        omega
      · rw [g1]
        show gno _ + 0 ≤ _
        omega
    have refl : ∀ S, ok (Δ ++ Γ).length S = true → sbt Γ.length c Δ.length t = S → sbt Γ.length d Δ.length t = S → gm (w, Δ ++ Γ, sbt Γ.length c Δ.length t, sbt Γ.length d Δ.length t) ≤ G * (flat t).length ∧ gn (w, Δ ++ Γ, sbt Γ.length c Δ.length t, sbt Γ.length d Δ.length t) ≤ G * (flat t).length := by
      intro S oS e1 e2
      have b := bel_refl _ (Δ ++ Γ) S (Nat.le_refl _) hc oS
      obtain ⟨g1, g2, g3⟩ := gcs_bel1 (w := w) (Γ := Δ ++ Γ) (S := S) (T := S) w2 b
      refine nil ?_ ?_ ?_
      · rw [e1, e2]; exact g1
      · rw [e1, e2]; exact g2
      · rw [e1, e2]; exact g3
    rcases ok_cases o with rfl | ⟨k, hk, rfl⟩ | ⟨a, b, rfl, ha, hb⟩ | ⟨a, b, rfl, ha, hb⟩ | ⟨m, x, y, z, hm, rfl, h0, h1, h2⟩
    · exact refl tTop rfl (sbt_top _ _ _) (sbt_top _ _ _)
    · by_cases ek : k = Γ.length
      · have e1 : sbt Γ.length c Δ.length (tVar k) = lft Γ.length Δ.length c := by rw [sbt_var, if_pos ek]
        have e2 : sbt Γ.length d Δ.length (tVar k) = lft Γ.length Δ.length d := by rw [sbt_var, if_pos ek]
        have q := HG c d pr Δ (by rw [← e1, ← e2]; exact tb) w w1
        rw [e1, e2]
        exact ⟨Nat.le_trans q.1 one, Nat.le_trans q.2 one⟩
      · have e1 := sbt_var Γ.length Δ.length k c
        have e2 := sbt_var Γ.length Δ.length k d
        rw [if_neg ek] at e1 e2
        refine refl _ ?_ e1 e2
        rw [← e1]; exact tk.2.1
    · have eS := sbt_fun Γ.length Δ.length c a b
      have eT := sbt_fun Γ.length Δ.length d a b
      rw [flat_fun, List.length_cons, List.length_append] at hf
      have tb' := tb
      rw [eS, eT] at tb'
      have tk' := tb'.1
      have oS := ok_fun.mp tk'.2.1
      have oT := ok_fun.mp tk'.2.2
      have bS := (cbd_fun _ _ _).mp tb'.2.2.1
      have bT := (cbd_fun _ _ _).mp tb'.2.2.2
      rcases gcs_cases (w := w) tk w2 with ⟨g1, g2, g3⟩ | ⟨-, j, hj, e0, -⟩ | ⟨-, -, j, hj, e0, -⟩ | ⟨m, X0, X1, X2, m', Y0, Y1, Y2, hm, hm', e0, -⟩ | ⟨A, C, A', C', e0, e2, g1, g2, g3⟩ | ⟨A, C, C', e0, -⟩
      · exact nil g1 g2 g3
      · have := congrArg hd (eS.symm.trans e0); rw [hd_fun, hd_var] at this; omega
      · have := congrArg hd (eT.symm.trans e0); rw [hd_fun, hd_var] at this; omega
      · have := congrArg hd (eS.symm.trans e0); rw [hd_fun, hd_rec] at this; omega
      · obtain ⟨ea, eb⟩ := fun_inj (eS.symm.trans e0)
        obtain ⟨ea', eb'⟩ := fun_inj (eT.symm.trans e2)
        have i1 := ali_gm G3 sy HL HG f a c d Δ (1 - w) (by omega) (by omega) pr ha ⟨⟨hc, oS.1, oT.1⟩, tb.2.1, bS.1, bT.1⟩
        have i2 := ali_gm G3 sy HL HG f b c d Δ w w1 (by omega) pr hb ⟨⟨hc, oS.2, oT.2⟩, tb.2.1, bS.2, bT.2⟩
        rw [ea, ea'] at i1
        rw [eb, eb'] at i2
        refine fin ?_ ?_
        · rw [g1, g2, flat_fun, List.length_cons, List.length_append, Nat.mul_add, Nat.mul_add]
          show 1 + (gm (1 - w, Δ ++ Γ, A, A') + (gm (w, Δ ++ Γ, C, C') + 0)) ≤ _
          omega
        · rw [g1, g3, flat_fun, List.length_cons, List.length_append, Nat.mul_add, Nat.mul_add]
          show 1 + (gn (1 - w, Δ ++ Γ, A, A') + (gn (w, Δ ++ Γ, C, C') + 0)) ≤ _
          omega
      · have := congrArg hd (eS.symm.trans e0); rw [hd_fun, hd_all] at this; omega
    · have eS := sbt_all Γ.length Δ.length c a b
      have eT := sbt_all Γ.length Δ.length d a b
      rw [flat_all, List.length_cons, List.length_append] at hf
      have tb' := tb
      rw [eS, eT] at tb'
      rcases gcs_cases (w := w) tk w2 with ⟨g1, g2, g3⟩ | ⟨-, j, hj, e0, -⟩ | ⟨-, -, j, hj, e0, -⟩ | ⟨m, X0, X1, X2, m', Y0, Y1, Y2, hm, hm', e0, -⟩ | ⟨A, C, A', C', e0, -⟩ | ⟨A, C, C', e0, e2, g1, g2, g3⟩
      · exact nil g1 g2 g3
      · have := congrArg hd (eS.symm.trans e0); rw [hd_all, hd_var] at this; omega
      · have := congrArg hd (eT.symm.trans e0); rw [hd_all, hd_var] at this; omega
      · have := congrArg hd (eS.symm.trans e0); rw [hd_all, hd_rec] at this; omega
      · have := congrArg hd (eS.symm.trans e0); rw [hd_all, hd_fun] at this; omega
      · obtain ⟨ea, eb⟩ := all_inj (eS.symm.trans e0)
        obtain ⟨ea', eb'⟩ := all_inj (eT.symm.trans e2)
        have i2 := ali_gm G3 sy HL HG f b c d (A :: Δ) w w1 (by omega) pr (by rw [List.length_cons]; exact hb) (by
          have tb2 : TB e (A :: (Δ ++ Γ), C, C') := TB_all (by rw [← e0, ← e2]; exact tb)
          rw [List.length_cons, eb, eb']
          exact tb2)
        rw [List.length_cons, eb, eb'] at i2
        have i2 : gm (w, A :: (Δ ++ Γ), C, C') ≤ G * (flat b).length ∧ gn (w, A :: (Δ ++ Γ), C, C') ≤ G * (flat b).length := i2
        refine fin ?_ ?_
        · rw [g1, g2, flat_all, List.length_cons, List.length_append, Nat.mul_add, Nat.mul_add]
          show 2 + (gm (w, A :: (Δ ++ Γ), C, C') + 0) ≤ _
          omega
        · rw [g1, g3, flat_all, List.length_cons, List.length_append, Nat.mul_add, Nat.mul_add]
          show 1 + (gn (w, A :: (Δ ++ Γ), C, C') + 0) ≤ _
          omega
    · have eS := sbt_rec Γ.length Δ.length m c x y z
      have eT := sbt_rec Γ.length Δ.length m d x y z
      rw [flat_rec, List.length_cons, List.length_append, List.length_append] at hf
      have tb' := tb
      rw [eS, eT] at tb'
      have tk' := tb'.1
      have oS := (ok_rec hm).mp tk'.2.1
      have oT := (ok_rec hm).mp tk'.2.2
      have bS := (cbd_rec _ _ _ _).mp tb'.2.2.1
      have bT := (cbd_rec _ _ _ _).mp tb'.2.2.2
      rcases gcs_cases (w := w) tk w2 with ⟨g1, g2, g3⟩ | ⟨-, j, hj, e0, -⟩ | ⟨-, -, j, hj, e0, -⟩ | ⟨m1, X0, X1, X2, m2, Y0, Y1, Y2, hm1, hm2, e0, e2, g1, g2, g3⟩ | ⟨A, C, A', C', e0, -⟩ | ⟨A, C, C', e0, -⟩
      · exact nil g1 g2 g3
      · have := congrArg hd (eS.symm.trans e0); rw [hd_rec, hd_var] at this; omega
      · have := congrArg hd (eT.symm.trans e0); rw [hd_rec, hd_var] at this; omega
      · obtain ⟨em, ex, ey, ez⟩ := rec_inj (eS.symm.trans e0)
        obtain ⟨em', ex', ey', ez'⟩ := rec_inj (eT.symm.trans e2)
        have key : ∀ (i : Nat) (p X Y : Ty), i < 3 → (flat p).length ≤ f → okl (Γ.length + 1 + Δ.length) m i p → okl (Δ ++ Γ).length m i (sbt Γ.length c Δ.length p) → okl (Δ ++ Γ).length m i (sbt Γ.length d Δ.length p) → cbd e (cl (Δ ++ Γ)) (sbt Γ.length c Δ.length p) → cbd e (cl (Δ ++ Γ)) (sbt Γ.length d Δ.length p) → sbt Γ.length c Δ.length p = X → sbt Γ.length d Δ.length p = Y → sgl gm (gzl w (Δ ++ Γ) (lset w m1 m2) m1 m2 i X Y) ≤ G * (flat p).length ∧ sgl gn (gzl w (Δ ++ Γ) (lset w m1 m2) m1 m2 i X Y) ≤ G * (flat p).length := by
          intro i p X Y hi hp op o1 o2 b1 b2 e3 e4
          rcases gzl_cases (W := w) (Γ := Δ ++ Γ) (X := X) (Y := Y) (lset_in w m1 hm1 m2 hm2 i hi) with ⟨h1, h2, h3, eg⟩ | ⟨h1, h2, h3, eg⟩ | ⟨h1, h2, h3, eg⟩ | ⟨h1, eg⟩
          · have hb : bit m i = true := by rw [em]; exact h2
            unfold okl at op
            rw [if_pos hb] at op
            have i1 := ali_gm G3 sy HL HG f p c d Δ w w1 hp pr op ⟨⟨hc, okl_on o1 (bit_iff.mp hb), okl_on o2 (bit_iff.mp hb)⟩, tb.2.1, b1, b2⟩
            rw [e3, e4] at i1
            rw [eg]
            exact ⟨by show gm (w, Δ ++ Γ, X, Y) + 0 ≤ _; omega, by show gn (w, Δ ++ Γ, X, Y) + 0 ≤ _; omega⟩
          · rw [← em, em'] at h2; exact absurd h2 h3
          · rw [← em', em] at h3; exact absurd h3 h2
          · rw [eg]; exact ⟨Nat.zero_le _, Nat.zero_le _⟩
        have k0 := key 0 x X0 Y0 (by decide) (by omega) h0 oS.1 oT.1 bS.1 bT.1 ex ex'
        have k1 := key 1 y X1 Y1 (by decide) (by omega) h1 oS.2.1 oT.2.1 bS.2.1 bT.2.1 ey ey'
        have k2 := key 2 z X2 Y2 (by decide) (by omega) h2 oS.2.2 oT.2.2 bS.2.2 bT.2.2 ez ez'
        refine fin ?_ ?_
        · rw [g1, g2, sgl_app, sgl_app, flat_rec, List.length_cons, List.length_append, List.length_append, Nat.mul_add, Nat.mul_add, Nat.mul_add]
          omega
        · rw [g1, g3, sgl_app, sgl_app, flat_rec, List.length_cons, List.length_append, List.length_append, Nat.mul_add, Nat.mul_add, Nat.mul_add]
          omega
      · have := congrArg hd (eS.symm.trans e0); rw [hd_rec, hd_fun] at this; omega
      · have := congrArg hd (eS.symm.trans e0); rw [hd_rec, hd_all] at this; omega
end PmUy
