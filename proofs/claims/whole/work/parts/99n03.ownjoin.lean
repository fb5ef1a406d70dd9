/-! JOINS name no more of a variable in bounds: what one side alone has is lost. -/
def CWo (κ : Ty → Bool) (r : Nat) (Γ : List Ty) : Prop := ∀ j, j < Γ.length → ∀ m, Γ.length ≤ m → Wo κ r (lft j (m - j) (bnd Γ j)) = true
section PmN3
variable {κ : Ty → Bool}
theorem CWo.ext (hκ : ∀ j m t, κ (lft j m t) = κ t) {r : Nat} {Γ : List Ty} (h : CWo κ r Γ) {a : Ty} (hr : r < Γ.length) (ha : Wo κ r a = true) : CWo κ r (a :: Γ) := by
  intro j hj m hm
  rw [List.length_cons] at hj hm
  show Wo κ r (lft j (m - j) (if j = Γ.length then a else bnd Γ j)) = true
  by_cases e : j = Γ.length
  · rw [if_pos e]
    have := Wo_lft hκ (r := r) j (m - j) a
    rw [show shl j (m - j) r = r by unfold shl; rw [if_neg (by omega)]] at this
    rw [this]; exact ha
  · rw [if_neg e]
    exact h j (by omega) m (by omega)
/-- of a variable that is just bound nothing around tells -/
theorem CWo.new {Γ : List Ty} (a : Ty) : CWo κ Γ.length (a :: Γ) := by
  intro j hj m hm
  rw [List.length_cons] at hj hm
  exact Wo_lack _ (men_gap (by omega) (by omega) _)
theorem CWo.exp {r : Nat} {Γ : List Ty} (h : CWo κ r Γ) {j : Nat} (hj : j < Γ.length) : Wo κ r (lft j (Γ.length - j) (bnd Γ j)) = true := h j hj _ (Nat.le_refl _)
theorem stl_bel {Γ : List Ty} {m i : Nat} {x y : Ty} (h : (stl Γ m i x y).all belz = true) (hb : bit m i = true) : bel Γ x y = true := by
  unfold stl at h
  rw [if_pos hb] at h
  simp only [List.all_cons, List.all_nil, Bool.and_true] at h
  exact h
/-- what stands above names no more -/
theorem bel_Wo (hκ : ∀ j m t, κ (lft j m t) = κ t) : ∀ (n : Nat) (Γ : List Ty) (Y X : Ty) (r : Nat), r < Γ.length → tok (Γ, Y, X) → twt (Γ, Y, X) ≤ n → CWo κ r Γ → Wo κ r Y = true → Pz κ r X = true → bel Γ Y X = true → Wo κ r X = true
  | 0, Γ, Y, X, r, _, tk, hn, _, _, _, _ => by have := twt_two tk; omega
  | n + 1, Γ, Y, X, r, hr, tk, hn, hw, wY, pX, hbl => by
    have hc : okc Γ := tk.1
    have oY : ok Γ.length Y = true := tk.2.1
    have oX : ok Γ.length X = true := tk.2.2
    rw [bel_eq tk] at hbl
    rcases stp_cases tk with e | ⟨e, -⟩ | ⟨k, hk, e1, h0, e, -⟩ | ⟨m, x, y, z, m', x', y', z', hm, hm', e1, e2, e, -⟩ | ⟨a, b, a', b', e1, e2, e, -⟩ | ⟨a, b, b', e1, e2, e, -⟩
    · rw [e] at hbl; cases hbl
    · rcases ok_cases oX with rfl | ⟨k, hk, rfl⟩ | ⟨a, c, rfl, ha, hb⟩ | ⟨a, c, rfl, ha, hb⟩ | ⟨l, x, y, z, hm, rfl, h0, h1, h2⟩
      · rfl
      · rfl
      · exfalso
        unfold stp at e
        rw [hd_fun, if_neg (by omega)] at e
        by_cases n2 : 16 ≤ hd Y
        · rw [if_pos n2] at e; cases e
        rw [if_neg n2, if_neg (by omega)] at e
        by_cases n4 : hd Y ≠ 1 ∨ hd Y = 0
        · rw [if_pos n4] at e; cases e
        rw [if_neg n4, if_pos (by omega)] at e
        cases e
      · exfalso
        unfold stp at e
        rw [hd_all, if_neg (by omega)] at e
        by_cases n2 : 16 ≤ hd Y
        · rw [if_pos n2] at e; cases e
        rw [if_neg n2, if_neg (by omega)] at e
        by_cases n4 : hd Y ≠ 2 ∨ hd Y = 0
        · rw [if_pos n4] at e; cases e
        rw [if_neg n4, if_neg (by omega)] at e
        by_cases n7 : flat (k1 Y) = flat (k1 (tAll a c))
        · rw [if_pos n7] at e; cases e
        · rw [if_neg n7] at e; cases e
      · unfold stp at e
        rw [hd_rec, if_neg (by omega)] at e
        by_cases n2 : 16 ≤ hd Y
        · rw [if_pos n2] at e; cases e
        rw [if_neg n2] at e
        by_cases n3 : 8 ≤ hd Y ∧ 8 ≤ 8 + l ∧ 8 + l < 16
        · rw [if_pos n3] at e
          by_cases n6 : (hd Y - 8) &&& (8 + l - 8) = 8 + l - 8
          · rw [if_pos n6, show 8 + l - 8 = l by omega] at e
            have e3 := List.append_eq_nil_iff.mp (Option.some.inj e)
            have e4 := List.append_eq_nil_iff.mp e3.2
            have key : ∀ (i : Nat) (p q : Ty), okl Γ.length l i p → stl Γ l i q p = [] → Wo κ r p = true := by
              intro i p q ho hs
              unfold okl at ho
              unfold stl at hs
              by_cases hb : bit l i = true
              · rw [if_pos hb] at hs; cases hs
              · rw [if_neg hb] at ho
                rw [ho]; rfl
            rw [Wo_rec, key 0 x _ h0 e4.2, key 1 y _ h1 e4.1, key 2 z _ h2 e3.1]; rfl
          · rw [if_neg n6] at e; cases e
        · rw [if_neg n3] at e
          by_cases n4 : hd Y ≠ 8 + l ∨ hd Y = 0
          · rw [if_pos n4] at e; cases e
          · omega
    · rw [e] at hbl
      simp only [List.all_cons, List.all_nil, Bool.and_true] at hbl
      have w1 := (stp_w tk e).1
      have w1 : twt (Γ, lft k (Γ.length - k) (bnd Γ k), X) + 0 + 1 ≤ twt (Γ, Y, X) := w1
      exact bel_Wo hκ n Γ _ X r hr ⟨hc, ok_expose hc hk, oX⟩ (by omega) hw (hw.exp hk) pX hbl
    · rw [e] at hbl
      have w1 := (stp_w tk e).1
      subst e1 e2
      rw [tws_app, tws_app] at w1
      have hbl : (stl Γ m' 2 z z' ++ (stl Γ m' 1 y y' ++ stl Γ m' 0 x x')).all belz = true := hbl
      rw [List.all_append, List.all_append, Bool.and_eq_true, Bool.and_eq_true] at hbl
      obtain ⟨h0, h1, h2⟩ := (ok_rec hm).mp oY
      obtain ⟨h0', h1', h2'⟩ := (ok_rec hm').mp oX
      rw [Wo_rec, Bool.and_eq_true, Bool.and_eq_true] at wY
      rw [Pz_rec, Bool.and_eq_true, Bool.and_eq_true] at pX
      have sub : ∀ i, i < 3 → bit m' i = true → bit m i = true := by
        intro i hi hb
        by_cases c : m &&& m' = m'
        · exact msk_bit m hm m' hm' c i hi hb
        · exfalso
          unfold stp at e
          rw [hd_rec, hd_rec, if_neg (by omega), if_neg (by omega), if_pos (by omega), show 8 + m - 8 = m by omega, show 8 + m' - 8 = m' by omega, if_neg c] at e
          cases e
      have key : ∀ (i : Nat) (p p' : Ty), i < 3 → okl Γ.length m i p → okl Γ.length m' i p' → Wo κ r p = true → Pz κ r p' = true → (stl Γ m' i p p').all belz = true → tws (stl Γ m' i p p') + 1 ≤ twt (Γ, tRec m x y z, tRec m' x' y' z') → Wo κ r p' = true := by
        intro i p p' hi o o' w' pz ha ht
        by_cases hb : bit m' i = true
        · have b1 := stl_bel ha hb
          unfold stl at ht
          rw [if_pos hb] at ht
          have ht : twt (Γ, p, p') + 0 + 1 ≤ twt (Γ, tRec m x y z, tRec m' x' y' z') := ht
          exact bel_Wo hκ n Γ p p' r hr ⟨hc, okl_on o (bit_iff.mp (sub i hi hb)), okl_on o' (bit_iff.mp hb)⟩ (by omega) hw w' pz b1
        · unfold okl at o'
          rw [if_neg hb] at o'
          rw [o']; rfl
      have q2 := key 2 z z' (by decide) h2 h2' wY.2.2 pX.2.2 hbl.1 (by omega)
      have q1 := key 1 y y' (by decide) h1 h1' wY.2.1 pX.2.1 hbl.2.1 (by omega)
      have q0 := key 0 x x' (by decide) h0 h0' wY.1 pX.1 hbl.2.2 (by omega)
      rw [Wo_rec, q0, q1, q2]; rfl
    · rw [e] at hbl
      have w1 := (stp_w tk e).1
      subst e1 e2
      simp only [List.all_cons, List.all_nil, Bool.and_true, Bool.and_eq_true] at hbl
      have w1 : twt (Γ, b, b') + (twt (Γ, a', a) + 0) + 1 ≤ twt (Γ, tFun a b, tFun a' b') := w1
      rw [Wo_fun, Bool.and_eq_true] at wY
      rw [Pz_fun, Bool.and_eq_true] at pX
      have q := bel_Wo hκ n Γ b b' r hr ⟨hc, (ok_fun.mp oY).2, (ok_fun.mp oX).2⟩ (by omega) hw wY.2 pX.2 hbl.1
      rw [Wo_fun, pX.1, q]; rfl
    · rw [e] at hbl
      have w1 := (stp_w tk e).1
      subst e1 e2
      simp only [List.all_cons, List.all_nil, Bool.and_true] at hbl
      have w1 : twt (a :: Γ, b, b') + 0 + 1 ≤ twt (Γ, tAll a b, tAll a b') := w1
      rw [Wo_all, Bool.and_eq_true, Bool.and_eq_true] at wY
      have nown : (men r a && κ a) = false := by
        have := wY.1
        rwa [Bool.not_eq_true'] at this
      rw [Pz_all, nown, Bool.false_or, Bool.and_eq_true] at pX
      have q := bel_Wo hκ n (a :: Γ) b b' r (by rw [List.length_cons]; omega) ⟨⟨(ok_all.mp oY).1, hc⟩, (ok_all.mp oY).2, (ok_all.mp oX).2⟩ (by omega) (hw.ext hκ hr pX.1) wY.2.2 pX.2 hbl
      rw [Wo_all, nown, pX.1, q]; rfl
end PmN3
