/-! THE MODEL: types as one. -/
section PmF17
variable {d : Nat} {Q : Option Value → pm_S → Prop} {N0 N : pm_M} {Rf : Nat → Nat → Nat} {K L : Nat → Nat} {n s0 : Nat} {a b : Nat} {T : Ty} {x : Int} {o5 o6 o7 : Option Value}
theorem types_loop (hC : CmL d) (hG : pm_G Rf K L n) (st : TSt N0 a b T x) (h : ∀ (N' : pm_M) (o5 o6 o7 : Option Value), TI N0 a T x N' 0 → pm_Wp none (d + 10) 195 181 [some (.ref 56), some (.int (zI 132)), some (.int (zI x)), some (.int (zI (-1))), some (.int (zI (-1))), o5, o6, o7] [] (zM N', Rf, K, L, n, s0) Q) : ∀ (m : Nat) (N : pm_M) (o5 o6 o7 : Option Value), m ≤ a → TI N0 a T x N m → pm_Wp none (d + 10) 195 24 [some (.ref 56), some (.int (zI 132)), some (.int (zI x)), some (.int (zI (-1))), some (.int (zI ((m : Int) - 1))), o5, o6, o7] [] (zM N, Rf, K, L, n, s0) Q := by
  intro m
  induction m with
  | zero =>
    intro N o5 o6 o7 hm ti
    rw [show (((0 : Nat) : Int) - 1) = -1 by omega]
    refine wp_iload d195_24 rfl ?_
    refine wz_if_lt (t := 181) d195_26 (by decide) ⟨by omega, by omega⟩ (fun _ => ?_) (fun hb => absurd (by decide) hb)
    exact h N o5 o6 o7 ti
  | succ m ih =>
    intro N o5 o6 o7 hm ti
    rw [show (((m + 1 : Nat) : Int) - 1) = (m : Int) by omega]
    by_cases h5 : N 59 (m : Int) < 5
    · exact types_ty hG st ti (by omega) (fun N1 p5 p6 p7 t1 => ih N1 p5 p6 p7 (by omega) t1) h5
    · exact types_tm hC hG st ti (by omega) (fun N1 p5 p6 p7 t1 => ih N1 p5 p6 p7 (by omega) t1) h5
/-- the search, behind the first break -/
theorem types_s2 {i0 e0 : Nat} (hG : pm_G Rf K L n) (a60 : a ≤ 60) (ha : N 56 4 = (a : Int)) (b01 : ∀ j : Nat, j < a → N 79 (j : Int) = 0 ∨ N 79 (j : Int) = 1) (i0a : i0 < a) (e60 : e0 ≤ 60) (bh0 : ∀ Q' : Option Value → pm_S → Prop, Q' (some (.int (zI (e0 : Int)))) (zM N, Rf, K, L, n, s0) → pm_Wc (d + 10) 145 [.ref 56, .int (zI (i0 : Int))] (zM N, Rf, K, L, n, s0) Q') (bh : ∀ j : Nat, i0 < j → j < a → N 79 (j : Int) = 1 → ∃ e : Nat, e0 ≤ e ∧ e ≤ 60 ∧ ∀ Q' : Option Value → pm_S → Prop, Q' (some (.int (zI (e : Int)))) (zM N, Rf, K, L, n, s0) → pm_Wc (d + 10) 145 [.ref 56, .int (zI (j : Int))] (zM N, Rf, K, L, n, s0) Q') (h : pm_Wp none (d + 10) 195 234 [some (.ref 56), some (.int (zI 132)), some (.int (zI x)), some (.int (zI (i0 : Int))), some (.int (zI (a : Int))), o5, o6, o7] [] (zM N, Rf, K, L, n, s0) Q) : ∀ (m j : Nat), j + m = a → i0 < j → pm_Wp none (d + 10) 195 184 [some (.ref 56), some (.int (zI 132)), some (.int (zI x)), some (.int (zI (i0 : Int))), some (.int (zI (j : Int))), o5, o6, o7] [] (zM N, Rf, K, L, n, s0) Q := by
  intro m
  induction m with
  | zero =>
    intro j hj ij
    have ej : j = a := by omega
    subst ej
    refine wp_iload d195_184 rfl ?_
    refine wp_aload_n d195_186 rfl ?_
    refine wz_getI (v := (j : Int)) d195_187 rfl (hG.o (by decide) rfl) (by decide) (ha) ?_
    refine wz_icmp_ge (t := 234) d195_190 (by decide) ⟨by omega, by omega⟩ ⟨by omega, by omega⟩ (fun _ => ?_) (fun hb => absurd (by omega) hb)
    exact h
  | succ m ih =>
    intro j hj ij
    have nxt := ih (j + 1) (by omega) (by omega)
    rw [show ((j + 1 : Nat) : Int) = (j : Int) + 1 by omega] at nxt
    rcases b01 j (by omega) with e | e
    · skip
      refine wp_iload d195_184 rfl ?_
      refine wp_aload_n d195_186 rfl ?_
      refine wz_getI (v := (a : Int)) d195_187 rfl (hG.o (by decide) rfl) (by decide) (ha) ?_
      refine wz_icmp_ge (t := 234) d195_190 (by decide) ⟨by omega, by omega⟩ ⟨by omega, by omega⟩ (fun hb => absurd hb (by omega)) (fun _ => ?_)
      refine wp_aload_n d195_193 rfl ?_
      refine wp_getR (q := 79) d195_194 rfl (hG.o (by decide) rfl) (by decide) (hG.r (by decide +kernel)) (by decide) ?_
      refine wp_iload d195_197 rfl ?_
      refine wz_zald (z := 64) (v := 0) d195_199 (hG.a (by decide) rfl rfl) (by omega) (by omega) (by decide) (e) ?_
      refine wz_if_eq (t := 226) d195_200 (by decide) ⟨by omega, by omega⟩ (fun _ => ?_) (fun hb => absurd (by decide) hb)
      refine wp_iload_n d195_226 rfl ?_
      refine wp_istore_n d195_227 (Nat.le_of_ble_eq_true rfl) rfl ?_
      refine wz_iinc d195_228 rfl rfl ?_
      refine wp_goto (t := 184) d195_231 (by decide) ?_
      exact nxt
    · skip
      obtain ⟨e1, f1, f2, f3⟩ := bh j ij (by omega) e
      refine wp_iload d195_184 rfl ?_
      refine wp_aload_n d195_186 rfl ?_
      refine wz_getI (v := (a : Int)) d195_187 rfl (hG.o (by decide) rfl) (by decide) (ha) ?_
      refine wz_icmp_ge (t := 234) d195_190 (by decide) ⟨by omega, by omega⟩ ⟨by omega, by omega⟩ (fun hb => absurd hb (by omega)) (fun _ => ?_)
      refine wp_aload_n d195_193 rfl ?_
      refine wp_getR (q := 79) d195_194 rfl (hG.o (by decide) rfl) (by decide) (hG.r (by decide +kernel)) (by decide) ?_
      refine wp_iload d195_197 rfl ?_
      refine wz_zald (z := 64) (v := 1) d195_199 (hG.a (by decide) rfl rfl) (by omega) (by omega) (by decide) (e) ?_
      refine wz_if_eq (t := 226) d195_200 (by decide) ⟨by omega, by omega⟩ (fun hb => absurd hb (by decide)) (fun _ => ?_)
      refine wp_iload_n d195_203 rfl ?_
      refine wz_if_lt (t := 221) d195_204 (by decide) ⟨by omega, by omega⟩ (fun hb => absurd hb (by omega)) (fun _ => ?_)
      refine wp_aload_n d195_207 rfl ?_
      refine wp_iload d195_208 rfl ?_
      refine wp_virt (as := [.int (zI (j : Int))]) (rest := []) d195_210 rfl rfl rfl (hG.o (by decide) rfl) rfl rfl (Nat.le_of_ble_eq_true rfl) ?_
      refine f3 _ ?_
      refine wp_aload_n d195_213 rfl ?_
      refine wp_iload_n d195_214 rfl ?_
      refine wp_virt (as := [.int (zI (i0 : Int))]) (rest := [.int (zI (e1 : Int))]) d195_215 rfl rfl rfl (hG.o (by decide) rfl) rfl rfl (Nat.le_of_ble_eq_true rfl) ?_
      refine bh0 _ ?_
      refine wz_icmp_ge (t := 226) d195_218 (by decide) ⟨by omega, by omega⟩ ⟨by omega, by omega⟩ (fun _ => ?_) (fun hb => absurd (by omega) hb)
      refine wp_iload_n d195_226 rfl ?_
      refine wp_istore_n d195_227 (Nat.le_of_ble_eq_true rfl) rfl ?_
      refine wz_iinc d195_228 rfl rfl ?_
      refine wp_goto (t := 184) d195_231 (by decide) ?_
      exact nxt
/-- the search, up to the first break -/
theorem types_s1 (hG : pm_G Rf K L n) (a60 : a ≤ 60) (ha : N 56 4 = (a : Int)) (b01 : ∀ j : Nat, j < a → N 79 (j : Int) = 0 ∨ N 79 (j : Int) = 1) (h0 : (∀ k : Nat, k < a → N 79 (k : Int) = 0) → pm_Wp none (d + 10) 195 234 [some (.ref 56), some (.int (zI 132)), some (.int (zI x)), some (.int (zI (-1))), some (.int (zI (a : Int))), o5, o6, o7] [] (zM N, Rf, K, L, n, s0) Q) (h1 : ∀ i0 : Nat, i0 < a → N 79 (i0 : Int) = 1 → (∀ k : Nat, k < i0 → N 79 (k : Int) = 0) → pm_Wp none (d + 10) 195 184 [some (.ref 56), some (.int (zI 132)), some (.int (zI x)), some (.int (zI (i0 : Int))), some (.int (zI ((i0 : Int) + 1))), o5, o6, o7] [] (zM N, Rf, K, L, n, s0) Q) : ∀ (m j : Nat), j + m = a → (∀ k : Nat, k < j → N 79 (k : Int) = 0) → pm_Wp none (d + 10) 195 184 [some (.ref 56), some (.int (zI 132)), some (.int (zI x)), some (.int (zI (-1))), some (.int (zI (j : Int))), o5, o6, o7] [] (zM N, Rf, K, L, n, s0) Q := by
  intro m
  induction m with
  | zero =>
    intro j hj hk
    have ej : j = a := by omega
    subst ej
    refine wp_iload d195_184 rfl ?_
    refine wp_aload_n d195_186 rfl ?_
    refine wz_getI (v := (j : Int)) d195_187 rfl (hG.o (by decide) rfl) (by decide) (ha) ?_
    refine wz_icmp_ge (t := 234) d195_190 (by decide) ⟨by omega, by omega⟩ ⟨by omega, by omega⟩ (fun _ => ?_) (fun hb => absurd (by omega) hb)
    exact h0 hk
  | succ m ih =>
    intro j hj hk
    rcases b01 j (by omega) with e | e
    · skip
      have nxt := ih (j + 1) (by omega) (fun k k1 => by
        by_cases c : k = j
        · rw [c]; exact e
        · exact hk k (by omega))
      rw [show ((j + 1 : Nat) : Int) = (j : Int) + 1 by omega] at nxt
      refine wp_iload d195_184 rfl ?_
      refine wp_aload_n d195_186 rfl ?_
      refine wz_getI (v := (a : Int)) d195_187 rfl (hG.o (by decide) rfl) (by decide) (ha) ?_
      refine wz_icmp_ge (t := 234) d195_190 (by decide) ⟨by omega, by omega⟩ ⟨by omega, by omega⟩ (fun hb => absurd hb (by omega)) (fun _ => ?_)
      refine wp_aload_n d195_193 rfl ?_
      refine wp_getR (q := 79) d195_194 rfl (hG.o (by decide) rfl) (by decide) (hG.r (by decide +kernel)) (by decide) ?_
      refine wp_iload d195_197 rfl ?_
      refine wz_zald (z := 64) (v := 0) d195_199 (hG.a (by decide) rfl rfl) (by omega) (by omega) (by decide) (e) ?_
      refine wz_if_eq (t := 226) d195_200 (by decide) ⟨by omega, by omega⟩ (fun _ => ?_) (fun hb => absurd (by decide) hb)
      refine wp_iload_n d195_226 rfl ?_
      refine wp_istore_n d195_227 (Nat.le_of_ble_eq_true rfl) rfl ?_
      refine wz_iinc d195_228 rfl rfl ?_
      refine wp_goto (t := 184) d195_231 (by decide) ?_
      exact nxt
    · skip
      refine wp_iload d195_184 rfl ?_
      refine wp_aload_n d195_186 rfl ?_
      refine wz_getI (v := (a : Int)) d195_187 rfl (hG.o (by decide) rfl) (by decide) (ha) ?_
      refine wz_icmp_ge (t := 234) d195_190 (by decide) ⟨by omega, by omega⟩ ⟨by omega, by omega⟩ (fun hb => absurd hb (by omega)) (fun _ => ?_)
      refine wp_aload_n d195_193 rfl ?_
      refine wp_getR (q := 79) d195_194 rfl (hG.o (by decide) rfl) (by decide) (hG.r (by decide +kernel)) (by decide) ?_
      refine wp_iload d195_197 rfl ?_
      refine wz_zald (z := 64) (v := 1) d195_199 (hG.a (by decide) rfl rfl) (by omega) (by omega) (by decide) (e) ?_
      refine wz_if_eq (t := 226) d195_200 (by decide) ⟨by omega, by omega⟩ (fun hb => absurd hb (by decide)) (fun _ => ?_)
      refine wp_iload_n d195_203 rfl ?_
      refine wz_if_lt (t := 221) d195_204 (by decide) ⟨by omega, by omega⟩ (fun _ => ?_) (fun hb => absurd (by decide) hb)
      refine wp_iload d195_221 rfl ?_
      refine wp_goto (t := 227) d195_223 (by decide) ?_
      refine wp_istore_n d195_227 (Nat.le_of_ble_eq_true rfl) rfl ?_
      refine wz_iinc d195_228 rfl rfl ?_
      refine wp_goto (t := 184) d195_231 (by decide) ?_
      exact h1 j (by omega) e hk
def WTn (p : Nat) (k : Int) : Prop := (p = 56 ∧ (k = 22 ∨ k = 24 ∨ k = 32 ∨ k = 33 ∨ k = 34 ∨ k = 36)) ∨ (p = 73 ∧ 17 * 4 ≤ k) ∨ (74 ≤ p ∧ p ≤ 86)
/-- what types answers -/
def tyR : Sum Nat Ty → Int
  | .inl p => (p : Int)
  | .inr _ => -1
theorem NXl.c8 {lo nd sc : Nat} {N : pm_M} : ∀ (l : List Int) (i : Nat) (b : Bool), NXl lo N nd sc i l b → (List.range' i l.length).countP (fun (o : Nat) => decide (N 59 (o : Int) = 8)) ≤ l.countP (fun c => decide (c = -8))
  | [], _, _, _ => Nat.le_refl _
  | c :: l, i, b, ⟨b1, b2, t1, t2, _⟩ => by
    have ih := NXl.c8 l (i + 1) b2 t2
    rw [List.length_cons, List.range'_succ]
    by_cases h : N 59 (i : Int) = 8
    · have hc : c = -8 := by
        rcases t1 with ⟨-, h1⟩ | h1 | h1 | h1
        · rcases h1 with h1 | h1 | h1 <;> omega
        · omega
        · omega
        · omega
      rw [List.countP_cons_of_pos (by simp [h]), List.countP_cons_of_pos (by simp [hc])]
      omega
    · rw [List.countP_cons_of_neg (by simp [h])]
      by_cases hc : c = -8
      · rw [List.countP_cons_of_pos (by simp [hc])]; omega
      · rw [List.countP_cons_of_neg (by simp [hc])]; exact ih
theorem flat_pos8 {D : Nat} {t : Ty} (h : ok D t = true) : (tfl t).countP (fun c => decide (c = -8)) = 0 := by
  rw [tfl_ty h, List.countP_eq_zero]
  intro c hc
  have := flat_codes (flat t).length t D (Nat.le_refl _) h c hc
  simp; omega
theorem tch_one {D : Nat} {t : Ty} (h : ok D t = true) : 1 ≤ tch t := by
  rcases ok_cases h with rfl | ⟨k, -, rfl⟩ | ⟨a, b, rfl, -, -⟩ | ⟨a, b, rfl, -, -⟩ | ⟨m, x, y, z, -, rfl, -, -, -⟩
  · exact Nat.le_refl _
  · exact Nat.le_refl _
  · rw [tch_fun]; omega
  · rw [tch_all]; omega
  · rw [tch_rec]; unfold rch; split <;> omega
theorem tfl_8 : ∀ (f D : Nat) (sc : List Nat) (t : Ty), TWf f D sc t → 5 * (tfl t).countP (fun c => decide (c = -8)) ≤ mch t
  | 0, _, _, _, h => h.elim
  | f + 1, D, sc, t, h => by
    obtain ⟨⟨kk, e, nl, -⟩, -, w6, w7, w8, w9, w10, w11, -⟩ := h
    have n0 : (tfl .nil).countP (fun c => decide (c = -8)) = 0 := rfl
    have m0 : mch .nil = 0 := rfl
    have hm := mch_is e
    have nl0 := nl 0 (by decide)
    have nl1 := nl 1 (by decide)
    have nl2 := nl 2 (by decide)
    have hcnt : (tfl t).countP (fun c => decide (c = -8)) = (if nKd t = 8 then 1 else 0) + ((tfl (nX t)).countP (fun c => decide (c = -8)) + ((tfl (nY t)).countP (fun c => decide (c = -8)) + (tfl (nZ t)).countP (fun c => decide (c = -8)))) := by
      rw [tfl_is e, List.countP_cons, List.countP_append, List.countP_append]
      have : (decide (tcode (nKd t) (nMk t) = -8) = true) ↔ nKd t = 8 := by
        rw [decide_eq_true_iff]
        unfold tcode
        split <;> omega
      by_cases c : nKd t = 8
      · rw [if_pos (this.mpr c), if_pos c]; omega
      · rw [if_neg (fun q => c (this.mp q)), if_neg c]; omega
    rw [hcnt, hm]
    by_cases k5 : nKd t = 5
    · have a0 : nX t = .nil := nl0 (by rw [k5]; rfl)
      have a1 : nY t = .nil := nl1 (by rw [k5]; rfl)
      have a2 : nZ t = .nil := nl2 (by rw [k5]; rfl)
      rw [a0, a1, a2, n0, if_neg (by omega), if_pos k5]; omega
    rw [if_neg k5]
    by_cases k6 : nKd t = 6
    · have a2 : nZ t = .nil := nl2 (by rw [k6]; rfl)
      obtain ⟨-, o, -, w⟩ := w6 k6
      have i := tfl_8 f _ _ _ w
      rw [a2, n0, flat_pos8 o, if_neg (by omega), if_pos (Or.inl k6)]; omega
    by_cases k8 : nKd t = 8
    · have a2 : nZ t = .nil := nl2 (by rw [k8]; rfl)
      obtain ⟨o, -, w⟩ := w8 k8
      have i := tfl_8 f _ _ _ w
      have j := tch_one o
      rw [a2, n0, flat_pos8 o, if_pos k8, if_pos (Or.inr k8)]; omega
    rw [if_neg k8, if_neg (by omega)]
    by_cases k9 : nKd t = 9
    · have a2 : nZ t = .nil := nl2 (by rw [k9]; rfl)
      obtain ⟨w, o, -⟩ := w9 k9
      have i := tfl_8 f _ _ _ w
      rw [a2, n0, flat_pos8 o, if_pos k9]; omega
    rw [if_neg k9]
    by_cases k10 : nKd t = 10
    · have part : ∀ g, g < 3 → 5 * (tfl (nP t g)).countP (fun c => decide (c = -8)) ≤ mch (nP t g) := by
        intro g hg
        by_cases c : bit (nMk t) g = true
        · exact tfl_8 f _ _ _ ((w10 k10).2 g hg c)
        · have : nP t g = .nil := nl g hg (by rw [k10]; unfold sk; rw [if_neg (by decide), if_neg (by decide), if_neg (by decide), if_pos rfl, if_neg c])
          rw [this]; exact Nat.le_refl _
      have i0 : 5 * (tfl (nX t)).countP (fun c => decide (c = -8)) ≤ mch (nX t) := part 0 (by decide)
      have i1 : 5 * (tfl (nY t)).countP (fun c => decide (c = -8)) ≤ mch (nY t) := part 1 (by decide)
      have i2 : 5 * (tfl (nZ t)).countP (fun c => decide (c = -8)) ≤ mch (nZ t) := part 2 (by decide)
      rw [if_pos k10]; omega
    rw [if_neg k10]
    by_cases k7 : nKd t = 7 ∨ nKd t = 12
    · have a2 : nZ t = .nil := nl2 (by rcases k7 with k | k <;> (rw [k]; rfl))
      obtain ⟨wx, wy⟩ := w7 k7
      have i := tfl_8 f _ _ _ wx
      have j := tfl_8 f _ _ _ wy
      rw [a2, n0]; omega
    · have k11 : nKd t = 11 := by omega
      have a1 : nY t = .nil := nl1 (by rw [k11]; rfl)
      have a2 : nZ t = .nil := nl2 (by rw [k11]; rfl)
      have i := tfl_8 f _ _ _ (w11 k11).2
      rw [a1, a2, n0, m0]; omega
theorem m_typesT (hC : CmL d) (hG : pm_G Rf K L n) (hM : ∀ p i, R32 (N p i)) (tm : TMm N a b T) (tw : TWf 24 0 [] T) (tl : TL 24 T [] [] ∧ mch T ≤ 60) (h : ∀ N' : pm_M, (∀ p i, R32 (N' p i)) → (∀ p k, ¬ WTn p k → N' p k = N p k) → R32 (tyR (tyF 24 T [] [])) → (N' 56 22 = 132 ∧ ∃ x, N' 56 24 = x ∧ 0 ≤ x ∧ x ≤ 60) → (∀ A, tyF 24 T [] [] = .inr A → Row N' 4 0 (flat A)) → Q (some (.int (zI (tyR (tyF 24 T [] []))))) (zM N', Rf, K, L, n, s0)) : pm_Wc (d + 11) 195 [.ref 56] (zM N, Rf, K, L, n, s0) Q := by
  obtain ⟨t4, t29, aT, a1, a60, b60, nxT, pxT, mdT, hK⟩ := tm
  have hN := ND.root tw tl.1 mdT aT
  refine wc_in (ls0 := [some (.ref 56), none, none, none, none, none, none, none]) (by decide) (Nat.le_of_ble_eq_true rfl) rfl rfl ?_
  refine wp_aload_n d195_0 rfl ?_
  refine wp_virt (as := []) (rest := []) d195_1 rfl rfl rfl (hG.o (by decide) rfl) rfl rfl (Nat.le_of_ble_eq_true rfl) ?_
  refine wc_deep (show d + 6 + 4 ≤ d + 10 by omega) ?_
  refine m_prepare (d := d + 6) hG hM t29 a60 b60 hK aT hN (fun N1 x hM1 fr1 e22 e24 x0 x1 pr => ?_)
  have x12 : x ≤ 12 := by
    have y1 := NXl.c8 _ _ _ nxT
    have y2 := tfl_8 24 0 [] T tw
    have y3 : c8 N a b ≤ (List.range' 0 (tfl T).length).countP (fun (o : Nat) => decide (N 59 (o : Int) = 8)) := by
      rw [← List.range_eq_range', ← aT]
      refine List.countP_mono_left (fun o _ h => ?_)
      rw [decide_eq_true_iff] at h ⊢
      exact h.1
    have y4 := tl.2
    omega
  have st : TSt N1 a b T x := ⟨hN.same (fun q i q1 q2 _ _ => fr1 q i (by unfold WPp; omega)) (fun q i q1 q2 _ _ => fr1 q i (by unfold WPp; omega)), aT, ⟨a60, b60⟩, ⟨x0, by omega⟩, pr, nxT.kpg (fun q i q1 q2 _ _ => fr1 q i (by unfold WPp; omega)) (fun q i q1 q2 _ _ => fr1 q i (by unfold WPp; omega)) (by omega), pxT⟩
  have ti0 : TI N1 a T x N1 a := ⟨hM1, e22, e24, fun _ _ _ => rfl, fun j j1 j2 => by omega⟩
  have c4 : N1 56 4 = (a : Int) := (fr1 56 4 (by unfold WPp; omega)).trans t4
  refine wp_aload_n d195_4 rfl ?_
  refine wz_getI (v := 132) d195_5 rfl (hG.o (by decide) rfl) (by decide) (e22) ?_
  refine wp_istore_n d195_8 (Nat.le_of_ble_eq_true rfl) rfl ?_
  refine wp_aload_n d195_9 rfl ?_
  refine wz_getI (v := x) d195_10 rfl (hG.o (by decide) rfl) (by decide) (e24) ?_
  refine wp_istore_n d195_13 (Nat.le_of_ble_eq_true rfl) rfl ?_
  refine wz_iconst d195_14 ?_
  refine wp_istore_n d195_15 (Nat.le_of_ble_eq_true rfl) rfl ?_
  refine wp_aload_n d195_16 rfl ?_
  refine wz_getI (v := (a : Int)) d195_17 rfl (hG.o (by decide) rfl) (by decide) (c4) ?_
  refine wz_iconst d195_20 ?_
  refine wz_isub d195_21 ?_
  refine wp_istore d195_22 (Nat.le_of_ble_eq_true rfl) rfl ?_
  refine types_loop hC hG st (fun N2 p5 p6 p7 ti => ?_) a N1 _ _ _ (Nat.le_refl _) ti0
  have hf : ∀ p k, ¬ WTn p k → N2 p k = N p k := fun p k hw => (ti.2.2.2.1 p k (fun e => hw (by unfold WTy at e; unfold WTn; omega))).trans (fr1 p k (fun e => hw (by unfold WPp at e; unfold WTn; omega)))
  have d4 : N2 56 4 = (a : Int) := (hf 56 4 (by unfold WTn; omega)).trans t4
  have b01 : ∀ j : Nat, j < a → N2 79 (j : Int) = 0 ∨ N2 79 (j : Int) = 1 := fun j j1 => (ti.2.2.2.2 j (Nat.zero_le _) j1).2.1
  have hN2 := ti.nd st st.1
  have root : ∀ A, tyF 24 T [] [] = .inr A → Row N2 4 0 (flat A) := by
    intro A hA
    have q := (ti.part hN2 (Nat.le_refl _)).2 A hA
    exact q
  -- a node that breaks
  have brk : ∀ j : Nat, j < a → N2 79 (j : Int) = 1 → ∃ F t Γ Δ, ND N2 a b T (F + 1) t Γ Δ j ∧ Brk (F + 1) t Γ Δ := by
    intro j j1 e
    obtain ⟨-, -, g3, g4⟩ := ti.2.2.2.2 j (Nat.zero_le _) j1
    have h5 : ¬ N2 59 (j : Int) < 5 := fun q => by have := g3 q; omega
    obtain ⟨f, t, Γ, Δ, hat⟩ := hN2.ex (i := j) (by omega) (by rw [Nat.zero_add]; omega)
    obtain ⟨q0, f1⟩ := hN2.at (by omega) hat
    rw [Nat.zero_add] at q0
    obtain ⟨F, rfl⟩ : ∃ F, f = F + 1 := ⟨f - 1, by omega⟩
    refine ⟨F, t, Γ, Δ, q0, Classical.byContradiction (fun nb => ?_)⟩
    have := (g4 _ hat).2.2 nb
    omega
  have bhd : ∀ {j F : Nat} {t : Ty} {Γ : List Ty} {Δ : List (Nat × Ty × Nat)}, ND N2 a b T (F + 1) t Γ Δ j → ∀ Q' : Option Value → pm_S → Prop, Q' (some (.int (zI ((j + (tfl t).length : Nat) : Int)))) (zM N2, Rf, K, L, n, s0) → pm_Wc (d + 10) 145 [.ref 56, .int (zI (j : Int))] (zM N2, Rf, K, L, n, s0) Q' := by
    intro j F t Γ Δ q Q' hq
    have := q.le
    refine wc_deep (show d + 8 + 2 ≤ d + 10 by omega) ?_
    exact m_behind (lo := 0) (nd := a) (sc := b) hG (by omega) q.nx.1 q.nx.2 hq
  refine wz_iconst d195_181 ?_
  refine wp_istore d195_182 (Nat.le_of_ble_eq_true rfl) rfl ?_
  refine types_s1 (a := a) hG a60 d4 b01 (fun hz => ?_) (fun i0 i0a hb hlo => ?_) a 0 (by omega) (fun k hk => absurd hk (Nat.not_lt_zero _))
  · -- nothing breaks
    cases e : tyF 24 T [] [] with
    | inl p =>
      obtain ⟨i, vv, i1, i2, i3, -⟩ := first_brk 24 T [] [] p tw e
      have := ((ti.2.2.2.2 i (Nat.zero_le _) (by omega)).2.2.2 vv i2).2.1 i3
      have := hz i (by omega)
      omega
    | inr A =>
      rw [e] at h root
      refine wp_iload_n d195_234 rfl ?_
      refine wz_if_ge (t := 242) d195_235 (by decide) ⟨by omega, by omega⟩ (fun hb => absurd hb (by decide)) (fun _ => ?_)
      refine wz_iconst d195_238 ?_
      refine wp_goto (t := 248) d195_239 (by decide) ?_
      exact wp_ret d195_248 rfl (h N2 ti.1 hf (show R32 (-1) from ⟨by decide, by decide⟩) ⟨ti.2.1, x, ti.2.2.1, x0, by omega⟩ root)
  obtain ⟨F, t, Γ, Δ, q0, bk0⟩ := brk i0 i0a hb
  have le0 := q0.le
  have l0 := tfl_len q0.sp
  have s2 := types_s2 (x := x) (o5 := p5) (o6 := p6) (o7 := p7) (d := d) (Q := Q) (i0 := i0) (e0 := i0 + (tfl t).length) hG a60 d4 b01 i0a (by omega) (bhd q0) (fun j j0 j1 je => ?_) ?_ (a - (i0 + 1)) (i0 + 1) (by omega) (by omega)
  · rw [show ((i0 + 1 : Nat) : Int) = (i0 : Int) + 1 by omega] at s2
    exact s2
  · obtain ⟨F', t', Γ', Δ', q1, bk1⟩ := brk j j1 je
    have le1 := q1.le
    have l1 := tfl_len q1.sp
    refine ⟨j + (tfl t').length, ?_, by omega, bhd q1⟩
    by_cases c : i0 + (tfl t).length ≤ j
    · omega
    · obtain ⟨k, rfl⟩ : ∃ k, j = i0 + k := ⟨j - i0, by omega⟩
      have hk := q0.na k (by omega)
      rw [q1.at0] at hk
      exact absurd bk1 (brk_below q0.tw bk0 (by omega) (by omega) hk.symm)
  · -- the first that breaks
    cases e : tyF 24 T [] [] with
    | inr A =>
      obtain ⟨A', hA'⟩ := all_typed 24 T [] [] A tw e i0 _ (by omega) q0.at0
      exact (bk0.no hA').elim
    | inl p =>
      obtain ⟨i, vv, i1, i2, i3, i4, i5⟩ := first_brk 24 T [] [] p tw e
      have bi := ((ti.2.2.2.2 i (Nat.zero_le _) (by omega)).2.2.2 vv i2).2.1 i3
      have ei : i = i0 := by
        by_cases c : i < i0
        · have := hlo i c; omega
        · by_cases c2 : i0 < i
          · exact absurd bk0 (i5 i0 _ c2 q0.at0)
          · omega
      subst ei
      rw [q0.at0] at i2
      injection i2 with i2
      subst i2
      have i4 : nPl t = p := i4
      obtain ⟨s, ch, md, -⟩ := q0.md
      have e61 : N2 61 (i : Int) = (p : Int) := by rw [md.1.2.2.1, i4]
      rw [e] at h root
      refine wp_iload_n d195_234 rfl ?_
      refine wz_if_ge (t := 242) d195_235 (by decide) ⟨by omega, by omega⟩ (fun _ => ?_) (fun hb => absurd (by omega) hb)
      refine wp_aload_n d195_242 rfl ?_
      refine wp_getR (q := 61) d195_243 rfl (hG.o (by decide) rfl) (by decide) (hG.r (by decide +kernel)) (by decide) ?_
      refine wp_iload_n d195_246 rfl ?_
      refine wz_iald (z := 128) (v := (p : Int)) d195_247 (hG.a (by decide) rfl rfl) (by omega) (by omega) (by decide) (e61) ?_
      exact wp_ret d195_248 rfl (h N2 ti.1 hf (by show R32 (p : Int); rw [← e61]; exact ti.1 61 _) ⟨ti.2.1, x, ti.2.2.1, x0, by omega⟩ root)
end PmF17
