/-! TWO WALKS THAT GO ALIKE: whatever relates them step by step, they take the same rows and goals. -/
abbrev TRel : Type := Tsk → Tsk → Prop
/-- the part at a label -/
def rp (i : Nat) (t : Ty) : Ty := if i = 0 then k1 t else if i = 1 then r2 t else r3 t
/-- comparisons go alike -/
def BisT (R : TRel) : Prop := ∀ (Γ Γ' : List Ty) (S S' T T' : Ty), R (Γ, S, T) (Γ', S', T') → tok (Γ, S, T) ∧ tok (Γ', S', T') ∧ hd S = hd S' ∧ hd T = hd T' ∧
  (16 ≤ hd S → hd T ≠ 0 → hd S ≠ hd T → R (Γ, exps Γ S, T) (Γ', exps Γ' S', T')) ∧
  (8 ≤ hd S → hd S < 16 → 8 ≤ hd T → hd T < 16 → ∀ i, i < 3 → bit (hd S - 8) i = true → bit (hd T - 8) i = true → R (Γ, rp i S, rp i T) (Γ', rp i S', rp i T')) ∧
  (hd S = 1 → hd T = 1 → R (Γ, k2 S, k2 T) (Γ', k2 S', k2 T') ∧ R (Γ, k1 T, k1 S) (Γ', k1 T', k1 S')) ∧
  (hd S = 2 → hd T = 2 → (flat (k1 S) = flat (k1 T) ↔ flat (k1 S') = flat (k1 T')) ∧ (flat (k1 S) = flat (k1 T) → R (k1 S :: Γ, k2 S, k2 T) (k1 S' :: Γ', k2 S', k2 T')))
theorem msk_bit : ∀ a, a < 8 → ∀ b, b < 8 → a &&& b = b → ∀ i, i < 3 → bit b i = true → bit a i = true := by decide
theorem stl_sum {R : TRel} {f : Nat} (ih : ∀ z z', R z z' → trf f z = trf f z') {Γ Γ' : List Ty} {m i : Nat} {x x' y y' : Ty} (h : bit m i = true → R (Γ, x, y) (Γ', x', y')) : sumt (trf f) (stl Γ m i x y) = sumt (trf f) (stl Γ' m i x' y') := by
  unfold stl
  by_cases b : bit m i = true
  · rw [if_pos b, if_pos b]
    show trf f _ + 0 = trf f _ + 0
    rw [ih _ _ (h b)]
  · rw [if_neg b, if_neg b]
theorem stl_allb {n : Nat} {R : TRel} (ih : ∀ z z', R z z' → twt z ≤ n → belz z = belz z') {Γ Γ' : List Ty} {m i : Nat} {x x' y y' : Ty} (h : bit m i = true → R (Γ, x, y) (Γ', x', y')) (hn : tws (stl Γ m i x y) ≤ n) : (stl Γ m i x y).all belz = (stl Γ' m i x' y').all belz := by
  unfold stl at hn ⊢
  by_cases b : bit m i = true
  · rw [if_pos b] at hn
    rw [if_pos b, if_pos b]
    have hn : twt (Γ, x, y) + 0 ≤ n := hn
    show (belz _ && true) = (belz _ && true)
    rw [ih _ _ (h b) (by omega)]
  · rw [if_neg b, if_neg b]
section PmK8
variable {R : TRel}
theorem bis_rec (hR : BisT R) {Γ Γ' : List Ty} {S S' T T' : Ty} (h : R (Γ, S, T) (Γ', S', T')) (v : ¬ 16 ≤ hd S) (n3 : 8 ≤ hd S ∧ 8 ≤ hd T ∧ hd T < 16) (n6 : (hd S - 8) &&& (hd T - 8) = hd T - 8) : ∀ i, i < 3 → bit (hd T - 8) i = true → R (Γ, rp i S, rp i T) (Γ', rp i S', rp i T') := by
  intro i hi hb
  obtain ⟨-, -, -, -, -, q, -, -⟩ := hR _ _ _ _ _ _ h
  exact q n3.1 (by omega) n3.2.1 n3.2.2 i hi (msk_bit _ (by omega) _ (by omega) n6 i hi hb) hb
/-- rows of a comparison -/
theorem trf_bis (hR : BisT R) : ∀ (f : Nat) (z z' : Tsk), R z z' → trf f z = trf f z'
  | 0, _, _, _ => rfl
  | f + 1, (Γ, S, T), (Γ', S', T'), h => by
    have ih := trf_bis hR f
    obtain ⟨t, t', hS, hT, qv, -, qf, qa⟩ := hR _ _ _ _ _ _ h
    have er : rst S T = rst S' T' := by unfold rst; rw [hS, hT]
    show (match stp Γ S T with | none => 0 | some l => rst S T + sumt (trf f) l) = (match stp Γ' S' T' with | none => 0 | some l => rst S' T' + sumt (trf f) l)
    rw [er]
    unfold stp
    rw [← hS, ← hT]
    by_cases n1 : hd T = 0 ∨ (16 ≤ hd S ∧ hd S = hd T)
    · rw [if_pos n1, if_pos n1]
    rw [if_neg n1, if_neg n1]
    by_cases n2 : 16 ≤ hd S
    · rw [if_pos n2, if_pos n2]
      have q := qv n2 (by omega) (by omega)
      have e : exps Γ' S' = lft (hd S - 16) (Γ'.length - (hd S - 16)) (bnd Γ' (hd S - 16)) := by unfold exps; rw [← hS]
      show rst S' T' + (trf f (Γ, exps Γ S, T) + 0) = rst S' T' + (trf f (Γ', lft (hd S - 16) (Γ'.length - (hd S - 16)) (bnd Γ' (hd S - 16)), T') + 0)
      rw [← e, ih _ _ q]
    rw [if_neg n2, if_neg n2]
    by_cases n3 : 8 ≤ hd S ∧ 8 ≤ hd T ∧ hd T < 16
    · rw [if_pos n3, if_pos n3]
      by_cases n6 : (hd S - 8) &&& (hd T - 8) = hd T - 8
      · rw [if_pos n6, if_pos n6]
        have q := bis_rec hR h n2 n3 n6
        show rst S' T' + sumt (trf f) _ = rst S' T' + sumt (trf f) _
        rw [sumt_app, sumt_app, sumt_app, sumt_app]
        rw [stl_sum ih (m := hd T - 8) (i := 2) (x := r3 S) (y := r3 T) (x' := r3 S') (y' := r3 T') (fun b => q 2 (by decide) b), stl_sum ih (m := hd T - 8) (i := 1) (x := r2 S) (y := r2 T) (x' := r2 S') (y' := r2 T') (fun b => q 1 (by decide) b), stl_sum ih (m := hd T - 8) (i := 0) (x := k1 S) (y := k1 T) (x' := k1 S') (y' := k1 T') (fun b => q 0 (by decide) b)]
      · rw [if_neg n6, if_neg n6]
    rw [if_neg n3, if_neg n3]
    by_cases n4 : hd S ≠ hd T ∨ hd S = 0
    · rw [if_pos n4, if_pos n4]
    rw [if_neg n4, if_neg n4]
    by_cases n5 : hd S = 1
    · rw [if_pos n5, if_pos n5]
      obtain ⟨q1, q2⟩ := qf n5 (by omega)
      show rst S' T' + (trf f _ + (trf f _ + 0)) = rst S' T' + (trf f _ + (trf f _ + 0))
      rw [ih _ _ q1, ih _ _ q2]
    rw [if_neg n5, if_neg n5]
    have s2 : hd S = 2 := by
      rcases ok_cases t.2.1 with e | ⟨k, hk, e⟩ | ⟨a, b, e, ha, hb⟩ | ⟨a, b, e, ha, hb⟩ | ⟨m, x, y, z, hm, e, h0, h1, h2⟩
      · have e : S = tTop := e
        rw [e, hd_top] at n4; omega
      · have e : S = tVar k := e
        rw [e, hd_var] at n2; omega
      · have e : S = tFun a b := e
        rw [e, hd_fun] at n5; omega
      · have e : S = tAll a b := e
        rw [e]; rfl
      · have e : S = tRec m x y z := e
        rw [e, hd_rec] at n3 n4
        omega
    obtain ⟨q1, q2⟩ := qa s2 (by omega)
    by_cases n7 : flat (k1 S) = flat (k1 T)
    · rw [if_pos n7, if_pos (q1.mp n7)]
      show rst S' T' + (trf f _ + 0) = rst S' T' + (trf f _ + 0)
      rw [ih _ _ (q2 n7)]
    · rw [if_neg n7, if_neg (fun e => n7 (q1.mpr e))]
/-- below -/
theorem bel_bis (hR : BisT R) : ∀ (n : Nat) (z z' : Tsk), R z z' → twt z ≤ n → belz z = belz z'
  | 0, (Γ, S, T), (Γ', S', T'), h, hn => by
    obtain ⟨t, -⟩ := hR _ _ _ _ _ _ h
    have := twt_two t; omega
  | n + 1, (Γ, S, T), (Γ', S', T'), h, hn => by
    have ih := bel_bis hR n
    obtain ⟨t, t', hS, hT, qv, -, qf, qa⟩ := hR _ _ _ _ _ _ h
    show bel Γ S T = bel Γ' S' T'
    rw [bel_eq t, bel_eq t']
    have w : ∀ l, stp Γ S T = some l → tws l ≤ n := by
      intro l e
      have w1 := (stp_w t e).1
      have w1 : tws l + 1 ≤ twt (Γ, S, T) := w1
      omega
    unfold stp at w ⊢
    rw [← hS, ← hT]
    by_cases n1 : hd T = 0 ∨ (16 ≤ hd S ∧ hd S = hd T)
    · rw [if_pos n1, if_pos n1]
    rw [if_neg n1] at w
    rw [if_neg n1, if_neg n1]
    by_cases n2 : 16 ≤ hd S
    · rw [if_pos n2] at w
      rw [if_pos n2, if_pos n2]
      have q := qv n2 (by omega) (by omega)
      have e : exps Γ' S' = lft (hd S - 16) (Γ'.length - (hd S - 16)) (bnd Γ' (hd S - 16)) := by unfold exps; rw [← hS]
      have w := w _ rfl
      have w : twt (Γ, exps Γ S, T) + 0 ≤ n := w
      show (belz (Γ, exps Γ S, T) && true) = (belz (Γ', lft (hd S - 16) (Γ'.length - (hd S - 16)) (bnd Γ' (hd S - 16)), T') && true)
      rw [← e, ih _ _ q (by omega)]
    rw [if_neg n2] at w
    rw [if_neg n2, if_neg n2]
    by_cases n3 : 8 ≤ hd S ∧ 8 ≤ hd T ∧ hd T < 16
    · rw [if_pos n3] at w
      rw [if_pos n3, if_pos n3]
      by_cases n6 : (hd S - 8) &&& (hd T - 8) = hd T - 8
      · rw [if_pos n6] at w
        rw [if_pos n6, if_pos n6]
        have q := bis_rec hR h n2 n3 n6
        have w := w _ rfl
        rw [tws_app, tws_app] at w
        show (stl Γ (hd T - 8) 2 (r3 S) (r3 T) ++ (stl Γ (hd T - 8) 1 (r2 S) (r2 T) ++ stl Γ (hd T - 8) 0 (k1 S) (k1 T))).all belz = (stl Γ' (hd T - 8) 2 (r3 S') (r3 T') ++ (stl Γ' (hd T - 8) 1 (r2 S') (r2 T') ++ stl Γ' (hd T - 8) 0 (k1 S') (k1 T'))).all belz
        rw [List.all_append, List.all_append, List.all_append, List.all_append]
        rw [stl_allb ih (m := hd T - 8) (i := 2) (x := r3 S) (y := r3 T) (x' := r3 S') (y' := r3 T') (fun b => q 2 (by decide) b) (by omega), stl_allb ih (m := hd T - 8) (i := 1) (x := r2 S) (y := r2 T) (x' := r2 S') (y' := r2 T') (fun b => q 1 (by decide) b) (by omega), stl_allb ih (m := hd T - 8) (i := 0) (x := k1 S) (y := k1 T) (x' := k1 S') (y' := k1 T') (fun b => q 0 (by decide) b) (by omega)]
      · rw [if_neg n6, if_neg n6]
    rw [if_neg n3] at w
    rw [if_neg n3, if_neg n3]
    by_cases n4 : hd S ≠ hd T ∨ hd S = 0
    · rw [if_pos n4, if_pos n4]
    rw [if_neg n4] at w
    rw [if_neg n4, if_neg n4]
    by_cases n5 : hd S = 1
    · rw [if_pos n5] at w
      rw [if_pos n5, if_pos n5]
      obtain ⟨q1, q2⟩ := qf n5 (by omega)
      have w := w _ rfl
      have w : twt (Γ, k2 S, k2 T) + (twt (Γ, k1 T, k1 S) + 0) ≤ n := w
      show (belz _ && (belz _ && true)) = (belz _ && (belz _ && true))
      rw [ih _ _ q1 (by omega), ih _ _ q2 (by omega)]
    rw [if_neg n5] at w
    rw [if_neg n5, if_neg n5]
    have s2 : hd S = 2 := by
      rcases ok_cases t.2.1 with e | ⟨k, hk, e⟩ | ⟨a, b, e, ha, hb⟩ | ⟨a, b, e, ha, hb⟩ | ⟨m, x, y, z, hm, e, h0, h1, h2⟩
      · have e : S = tTop := e
        rw [e, hd_top] at n4; omega
      · have e : S = tVar k := e
        rw [e, hd_var] at n2; omega
      · have e : S = tFun a b := e
        rw [e, hd_fun] at n5; omega
      · have e : S = tAll a b := e
        rw [e]; rfl
      · have e : S = tRec m x y z := e
        rw [e, hd_rec] at n3 n4
        omega
    obtain ⟨q1, q2⟩ := qa s2 (by omega)
    by_cases n7 : flat (k1 S) = flat (k1 T)
    · rw [if_pos n7] at w
      rw [if_pos n7, if_pos (q1.mp n7)]
      have w := w _ rfl
      have w : twt (k1 S :: Γ, k2 S, k2 T) + 0 ≤ n := w
      show (belz _ && true) = (belz _ && true)
      rw [ih _ _ (q2 n7) (by omega)]
    · rw [if_neg n7, if_neg (fun e => n7 (q1.mpr e))]
theorem bel_bis' (hR : BisT R) {Γ Γ' : List Ty} {S S' T T' : Ty} (h : R (Γ, S, T) (Γ', S', T')) : bel Γ S T = bel Γ' S' T' := bel_bis hR _ _ _ h (Nat.le_refl _)
theorem trx_bis (hR : BisT R) {z z' : Tsk} (h : R z z') : trx z = trx z' := by
  obtain ⟨t, t', -⟩ := hR z.1 z'.1 z.2.1 z'.2.1 z.2.2 z'.2.2 h
  rw [trx_big t (F := max (twt z) (twt z')) (Nat.le_max_left _ _), trx_big t' (F := max (twt z) (twt z')) (Nat.le_max_right _ _)]
  exact trf_bis hR _ _ _ h
end PmK8
