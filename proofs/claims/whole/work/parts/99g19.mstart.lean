/-! THE MODEL: start, step, steps. -/
/-- there is a run of T, st steps made, and it stands at c -/
def RunM (N : pm_M) (a b : Nat) (T : Ty) (st : Nat) (c : Cf) : Prop := N 56 43 = 1 ∧ N 56 45 = (st : Int) ∧ st ≤ 60 ∧ (∃ q, itr q (.inl (T, .nil, [])) = some (st, c)) ∧ CR N a b st c ∧ (((∃ v, c = .inr (v, [])) ∧ N 56 44 = 1) ∨ ((∃ c', mv c = some (true, c')) ∧ N 56 44 = 0))
def WRn (p : Nat) (i : Int) : Prop := (p = 56 ∧ ((43 ≤ i ∧ i ≤ 50) ∨ i = 54 ∨ i = 59)) ∨ (87 ≤ p ∧ p ≤ 97)
theorem itr_add : ∀ {q q' n1 n2 : Nat} {c c1 c2 : Cf}, itr q c = some (n1, c1) → itr q' c1 = some (n2, c2) → itr (q + q') c = some (n1 + n2, c2)
  | 0, q', n1, n2, c, c1, c2, h, h' => by
    cases h
    rw [Nat.zero_add, Nat.zero_add]; exact h'
  | q + 1, q', n1, n2, c, c1, c2, h, h' => by
    obtain ⟨b, c0, n0, h1, h2, h3⟩ := itr_split h
    rw [show q + 1 + q' = (q + q') + 1 by omega, itr_some h1, itr_add h2 h', h3]
    show some (n0 + n2 + (if b = true then 1 else 0), c2) = some (n0 + (if b = true then 1 else 0) + n2, c2)
    rw [show n0 + n2 + (if b = true then 1 else 0) = n0 + (if b = true then 1 else 0) + n2 by omega]
section PmG19
variable {d : Nat} {Q : Option Value → pm_S → Prop} {N : pm_M} {Rf : Nat → Nat → Nat} {K L : Nat → Nat} {n s0 : Nat} {a b : Nat} {T : Ty}
theorem m_steps {r mm : Int} (hG : pm_G Rf K L n) (h43 : N 56 43 = r) (h45 : N 56 45 = mm) (hr : r = 0 ∨ r = 1) (h0 : r = 0 → Q (some (.int (zI (-1)))) (zM N, Rf, K, L, n, s0)) (h1 : r = 1 → Q (some (.int (zI mm))) (zM N, Rf, K, L, n, s0)) : pm_Wc (d + 1) 208 [.ref 56] (zM N, Rf, K, L, n, s0) Q := by
  refine wc_in (ls0 := [some (.ref 56)]) (by decide) (Nat.le_of_ble_eq_true rfl) rfl rfl ?_
  refine wp_aload_n d208_0 rfl ?_
  refine wz_getI (v := r) d208_1 rfl (hG.o (by decide) rfl) (by decide) (h43) ?_
  refine wz_if_eq (t := 14) d208_4 (by decide) ⟨by omega, by omega⟩ (fun hb => ?_) (fun hb => ?_)
  · skip
    refine wz_iconst d208_14 ?_
    exact wp_ret d208_15 rfl (h0 hb)
  · skip
    refine wp_aload_n d208_7 rfl ?_
    refine wz_getI (v := mm) d208_8 rfl (hG.o (by decide) rfl) (by decide) (h45) ?_
    refine wp_goto (t := 15) d208_11 (by decide) ?_
    exact wp_ret d208_15 rfl (h1 (by omega))
theorem m_step_no {r k : Int} (hG : pm_G Rf K L n) (rk : R32 k) (h43 : N 56 43 = r) (hr : r = 0 ∨ r = 1) (hn : r = 0 ∨ ¬ (1 ≤ k ∧ k ≤ 20)) (h : Q (some (.int (zI (-2)))) (zM N, Rf, K, L, n, s0)) : pm_Wc (d + 1) 207 [.ref 56, .int (zI k)] (zM N, Rf, K, L, n, s0) Q := by
  refine wc_in (ls0 := [some (.ref 56), some (.int (zI k)), none]) (by decide) (Nat.le_of_ble_eq_true rfl) rfl rfl ?_
  refine wp_aload_n d207_0 rfl ?_
  refine wz_getI (v := r) d207_1 rfl (hG.o (by decide) rfl) (by decide) (h43) ?_
  refine wz_if_eq (t := 18) d207_4 (by decide) ⟨by omega, by omega⟩ (fun hb => ?_) (fun hb => ?_)
  · skip
    refine wz_bipush d207_18 (by decide) ?_
    exact wp_ret d207_20 rfl (h)
  · skip
    refine wp_iload_n d207_7 rfl ?_
    refine wz_iconst d207_8 ?_
    refine wz_icmp_lt (t := 18) d207_9 (by decide) rk ⟨by omega, by omega⟩ (fun hc => ?_) (fun hc => ?_)
    · skip
      refine wz_bipush d207_18 (by decide) ?_
      exact wp_ret d207_20 rfl (h)
    · skip
      refine wp_iload_n d207_12 rfl ?_
      refine wz_bipush d207_13 (by decide) ?_
      refine wz_icmp_le (t := 21) d207_15 (by decide) rk ⟨by omega, by omega⟩ (fun he => ?_) (fun he => ?_)
      · skip
        omega
      · skip
        refine wz_bipush d207_18 (by decide) ?_
        exact wp_ret d207_20 rfl (h)
theorem m_stepR {k : Int} {st : Nat} {c : Cf} (hG : pm_G Rf K L n) (hM : ∀ p i, R32 (N p i)) (a6 : a ≤ 60) (b6 : b ≤ 60) (rm : RunM N a b T st c) (hs : ∀ q, Sf q (.inl (T, .nil, []))) (hk : 1 ≤ k ∧ k ≤ 20) (h : ∀ (nn q : Nat) (c' : Cf) (N' : pm_M), (∀ p i, R32 (N' p i)) → (∀ p i, ¬ WRn p i → N' p i = N p i) → RunM N' a b T (st + nn) c' → itr q c = some (nn, c') → nn ≤ min k.toNat (60 - st) → Rest (min k.toNat (60 - st)) nn c' → Q (some (.int (zI (nn : Int)))) (zM N', Rf, K, L, n, s0)) : pm_Wc (d + 6) 207 [.ref 56, .int (zI k)] (zM N, Rf, K, L, n, s0) Q := by
  obtain ⟨h43, h45, s6, ⟨q0, i0⟩, cr, hv⟩ := rm
  have cont : ∀ m : Nat, m = min k.toNat (60 - st) → pm_Wp none (d + 5) 207 44 [some (.ref 56), some (.int (zI k)), none] [.int (zI (m : Int)), .ref 56] (zM N, Rf, K, L, n, s0) Q := by
    intro m em
    refine wp_virt (as := [.int (zI (m : Int))]) (rest := []) d207_44 rfl rfl rfl (hG.o (by decide) rfl) rfl rfl (Nat.le_of_ble_eq_true rfl) ?_
    refine m_run (d := d) hG hM a6 b6 (by omega) cr (Sf_itr i0 hs) (fun q nn c' N' i1 n1 m1 k1 r1 rs v1 v2 => ?_)
    refine wp_istore_n d207_47 (Nat.le_of_ble_eq_true rfl) rfl ?_
    refine wp_aload_n d207_48 rfl ?_
    refine wp_dupr d207_49 ?_
    refine wz_getI (v := (st : Int)) d207_50 rfl (hG.o (by decide) rfl) (by decide) ((k1 56 45 (by omega) (by omega)).trans h45) ?_
    refine wp_iload_n d207_53 rfl ?_
    refine wz_iadd d207_54 ?_
    refine wz_putI (i := 45) d207_55 rfl (hG.o (by decide) rfl) rfl (by decide) rfl ?_
    refine wp_iload_n d207_58 rfl ?_
    have e44 : mset N' 56 45 ((st : Int) + nn) 56 44 = N' 56 44 := mset_i' (by omega)
    have crn : CR (mset N' 56 45 ((st : Int) + nn)) a b (st + nn) c' := by
      obtain ⟨vs, es, fr, H, c0, hh, cb, fs, hc⟩ := r1
      have kq : ∀ (p : Nat) (i : Int), ¬ (p = 56 ∧ i = 45) → mset N' 56 45 ((st : Int) + nn) p i = N' p i := fun p i hp => mset_i' hp
      have kp : Kpm N' (mset N' 56 45 ((st : Int) + nn)) vs es H := ⟨fun p i p1 p2 => kq p i (by omega), fun p i p1 p2 _ _ => kq p i (by omega), fun p i p1 p2 _ _ => kq p i (by omega), fun i g _ _ => kq 93 _ (by omega)⟩
      refine ⟨vs, es, fr, H, ⟨by rw [kq 56 54 (by omega)]; exact c0.1, by rw [kq 56 50 (by omega)]; exact c0.2.1, by rw [kq 56 59 (by omega)]; exact c0.2.2⟩, hh.keep kp (Nat.le_refl _), cb, fs.keep kp (fun _ _ x => x) (Nat.le_refl _) (Int.le_refl _) (Int.le_refl _) (fun p q p1 p2 _ _ => kq p q (by omega)) (fun i _ _ hn => ⟨hn, fun g _ => kq 93 _ (by omega)⟩), ?_⟩
      cases c' with
      | inl x =>
        obtain ⟨t, ρ, kk⟩ := x
        obtain ⟨e49, j, s, ch, e46, nv, ea⟩ := hc
        exact ⟨by rw [kq 56 49 (by omega)]; exact e49, j, s, ch, by rw [kq 56 46 (by omega)]; exact e46, nv.keep kp.1, by rw [kq 56 47 (by omega)]; exact ea.keep kp.1 kp.2.1 (fun _ _ x => x) (Nat.le_refl _)⟩
      | inr x =>
        obtain ⟨v, kk⟩ := x
        exact ⟨by rw [kq 56 49 (by omega)]; exact hc.1, by rw [kq 56 48 (by omega)]; exact hc.2⟩
    have hv2 : ((∃ v, c' = .inr (v, [])) ∧ mset N' 56 45 ((st : Int) + nn) 56 44 = 1) ∨ ((∃ c'', mv c' = some (true, c'')) ∧ mset N' 56 45 ((st : Int) + nn) 56 44 = 0) := by
      rw [e44]
      by_cases cv : ∃ v, c' = .inr (v, [])
      · exact Or.inl ⟨cv, v1 cv⟩
      · refine Or.inr ⟨?_, ?_⟩
        · rcases rs with e | e
          · exact absurd e cv
          · exact e.2
        · rw [v2 cv]
          rcases hv with ⟨⟨v, ev⟩, -⟩ | ⟨-, e⟩
          · exfalso
            subst ev
            cases q with
            | zero => cases i1; exact cv ⟨v, rfl⟩
            | succ q => obtain ⟨b0, c0, n0, x1, -⟩ := itr_split i1; cases x1
          · exact e
    exact wp_ret d207_59 rfl (h nn q c' _ (mset_R32 m1 ⟨by omega, by omega⟩) (fun p i hw => (mset_i' (by unfold WRn at hw; omega)).trans (k1 p i (by unfold WRn at hw; omega) (by unfold WRn at hw; omega))) ⟨by rw [mset_i' (by omega)]; exact (k1 56 43 (by omega) (by omega)).trans h43, mset_s _ _ _ _, by omega, ⟨q0 + q, itr_add i0 i1⟩, crn, hv2⟩ i1 (by rw [← em]; exact n1) (by rw [← em]; exact rs))
  refine wc_in (ls0 := [some (.ref 56), some (.int (zI k)), none]) (by decide) (Nat.le_of_ble_eq_true rfl) rfl rfl ?_
  refine wp_aload_n d207_0 rfl ?_
  refine wz_getI (v := 1) d207_1 rfl (hG.o (by decide) rfl) (by decide) (h43) ?_
  refine wz_if_eq (t := 18) d207_4 (by decide) ⟨by omega, by omega⟩ (fun hb => absurd hb (by omega)) (fun _ => ?_)
  refine wp_iload_n d207_7 rfl ?_
  refine wz_iconst d207_8 ?_
  refine wz_icmp_lt (t := 18) d207_9 (by decide) ⟨by omega, by omega⟩ ⟨by omega, by omega⟩ (fun hb => absurd hb (by omega)) (fun _ => ?_)
  refine wp_iload_n d207_12 rfl ?_
  refine wz_bipush d207_13 (by decide) ?_
  refine wz_icmp_le (t := 21) d207_15 (by decide) ⟨by omega, by omega⟩ ⟨by omega, by omega⟩ (fun _ => ?_) (fun hb => absurd (by omega) hb)
  refine wp_aload_n d207_21 rfl ?_
  refine wp_iload_n d207_22 rfl ?_
  refine wz_bipush d207_23 (by decide) ?_
  refine wp_aload_n d207_25 rfl ?_
  refine wz_getI (v := (st : Int)) d207_26 rfl (hG.o (by decide) rfl) (by decide) (h45) ?_
  refine wz_isub d207_29 ?_
  refine wz_icmp_ge (t := 37) d207_30 (by decide) ⟨by omega, by omega⟩ ⟨by omega, by omega⟩ (fun hb => ?_) (fun hb => ?_)
  · skip
    refine wz_bipush d207_37 (by decide) ?_
    refine wp_aload_n d207_39 rfl ?_
    refine wz_getI (v := (st : Int)) d207_40 rfl (hG.o (by decide) rfl) (by decide) (h45) ?_
    refine wz_isub d207_43 ?_
    have := cont (60 - st) (by omega)
    rw [show ((60 - st : Nat) : Int) = 60 - st by omega] at this
    exact this
  · skip
    refine wp_iload_n d207_33 rfl ?_
    refine wp_goto (t := 44) d207_34 (by decide) ?_
    have := cont k.toNat (by omega)
    rw [show ((k.toNat : Nat) : Int) = k by omega] at this
    exact this
theorem m_start_no (hG : pm_G Rf K L n) (h4 : N 56 4 = 0) (h : Q (some (.int (zI 0))) (zM N, Rf, K, L, n, s0)) : pm_Wc (d + 1) 198 [.ref 56] (zM N, Rf, K, L, n, s0) Q := by
  refine wc_in (ls0 := [some (.ref 56)]) (by decide) (Nat.le_of_ble_eq_true rfl) rfl rfl ?_
  refine wp_aload_n d198_0 rfl ?_
  refine wz_getI (v := 0) d198_1 rfl (hG.o (by decide) rfl) (by decide) (h4) ?_
  refine wz_if_eq (t := 14) d198_4 (by decide) ⟨by omega, by omega⟩ (fun _ => ?_) (fun hb => absurd (by omega) hb)
  refine wz_iconst d198_14 ?_
  exact wp_ret d198_15 rfl (h)
theorem m_start (hC : CmL d) (hG : pm_G Rf K L n) (hM : ∀ p i, R32 (N p i)) (tm : TMm N a b T) (tw : TWf 24 0 [] T) (tl : TL 24 T [] [] ∧ mch T ≤ 60) (h0 : ∀ p, tyF 24 T [] [] = .inl p → ∀ N' : pm_M, (∀ p i, R32 (N' p i)) → (∀ p k, ¬ WTn p k → N' p k = N p k) → Q (some (.int (zI 0))) (zM N', Rf, K, L, n, s0)) (h1 : ∀ A, tyF 24 T [] [] = .inr A → ∀ (N' : pm_M) (c : Cf), (∀ p i, R32 (N' p i)) → (∀ p k, ¬ WTn p k → ¬ WRn p k → N' p k = N p k) → RunM N' a b T 0 c → Q (some (.int (zI 1))) (zM N', Rf, K, L, n, s0)) : pm_Wc (d + 12) 198 [.ref 56] (zM N, Rf, K, L, n, s0) Q := by
  have tm0 := tm
  obtain ⟨t4, t29, ta, a1, a6, b6, tx, tp, tn, tk⟩ := tm0
  refine wc_in (ls0 := [some (.ref 56)]) (by decide) (Nat.le_of_ble_eq_true rfl) rfl rfl ?_
  refine wp_aload_n d198_0 rfl ?_
  refine wz_getI (v := (a : Int)) d198_1 rfl (hG.o (by decide) rfl) (by decide) (t4) ?_
  refine wz_if_eq (t := 14) d198_4 (by decide) ⟨by omega, by omega⟩ (fun hb => absurd hb (by omega)) (fun _ => ?_)
  refine wp_aload_n d198_7 rfl ?_
  refine wp_virt (as := []) (rest := []) d198_8 rfl rfl rfl (hG.o (by decide) rfl) rfl rfl (Nat.le_of_ble_eq_true rfl) ?_
  refine m_typesT hC hG hM tm tw tl (fun N1 m1 k1 rr e22 row => ?_)
  refine wz_if_lt (t := 16) d198_11 (by decide) rr (fun hb => ?_) (fun hb => ?_)
  · skip
    obtain ⟨A, hA⟩ : ∃ A, tyF 24 T [] [] = .inr A := by
      cases e : tyF 24 T [] [] with
      | inl p => rw [e] at hb; have : ((p : Nat) : Int) < 0 := hb; omega
      | inr A => exact ⟨A, rfl⟩
    have hs := run_ok tw hA
    refine wp_aload_n d198_16 rfl ?_
    refine wz_iconst d198_17 ?_
    refine wz_putI (i := 43) d198_18 rfl (hG.o (by decide) rfl) (by decide) (by decide) rfl ?_
    refine wp_aload_n d198_21 rfl ?_
    refine wz_iconst d198_22 ?_
    refine wz_putI (i := 44) d198_23 rfl (hG.o (by decide) rfl) (by decide) (by decide) rfl ?_
    refine wp_aload_n d198_26 rfl ?_
    refine wz_iconst d198_27 ?_
    refine wz_putI (i := 45) d198_28 rfl (hG.o (by decide) rfl) rfl (by decide) rfl ?_
    refine wp_aload_n d198_31 rfl ?_
    refine wz_iconst d198_32 ?_
    refine wz_putI (i := 50) d198_33 rfl (hG.o (by decide) rfl) rfl (by decide) rfl ?_
    refine wp_aload_n d198_36 rfl ?_
    refine wz_iconst d198_37 ?_
    refine wz_putI (i := 54) d198_38 rfl (hG.o (by decide) rfl) rfl (by decide) rfl ?_
    refine wp_aload_n d198_41 rfl ?_
    refine wz_iconst d198_42 ?_
    refine wz_putI (i := 59) d198_43 rfl (hG.o (by decide) rfl) rfl (by decide) rfl ?_
    refine wp_aload_n d198_46 rfl ?_
    refine wz_iconst d198_47 ?_
    refine wz_iconst d198_48 ?_
    refine wp_virt (as := [.int (zI (-1)), .int (zI 0)]) (rest := []) d198_49 rfl rfl rfl (hG.o (by decide) rfl) rfl rfl (Nat.le_of_ble_eq_true rfl) ?_
    refine wc_deep (show d + 10 + 1 ≤ d + 11 by omega) ?_
    refine m_go hG ?_
    show pm_Wp none (d + 11) 198 52 [some (.ref 56)] [] (zM (mGo (mset (mset (mset (mset (mset (mset N1 56 43 1) 56 44 0) 56 45 0) 56 50 0) 56 54 0) 56 59 0) 0 (-1)), Rf, K, L, n, s0) Q
    refine wp_aload_n d198_52 rfl ?_
    refine wz_iconst d198_53 ?_
    refine wp_virt (as := [.int (zI 0)]) (rest := []) d198_54 rfl rfl rfl (hG.o (by decide) rfl) rfl rfl (Nat.le_of_ble_eq_true rfl) ?_
    have ko : ∀ (p : Nat) (i : Int), ¬ (p = 56 ∧ (43 ≤ i ∧ i ≤ 59)) → mGo (mset (mset (mset (mset (mset (mset N1 56 43 1) 56 44 0) 56 45 0) 56 50 0) 56 54 0) 56 59 0) 0 (-1) p i = N1 p i := by
      intro p i hp
      rw [mGo_o (by omega), mset_i' (by omega), mset_i' (by omega), mset_i' (by omega), mset_i' (by omega), mset_i' (by omega), mset_i' (by omega)]
    have ko2 : ∀ (p : Nat) (i : Int), ¬ (p = 56 ∧ ((43 ≤ i ∧ i ≤ 50) ∨ i = 54 ∨ i = 59)) → mGo (mset (mset (mset (mset (mset (mset N1 56 43 1) 56 44 0) 56 45 0) 56 50 0) 56 54 0) 56 59 0) 0 (-1) p i = N1 p i := by
      intro p i hp
      rw [mGo_o (by omega), mset_i' (by omega), mset_i' (by omega), mset_i' (by omega), mset_i' (by omega), mset_i' (by omega), mset_i' (by omega)]
    have k59 : ∀ (p : Nat) (i : Int), 59 ≤ p → p ≤ 67 → mGo (mset (mset (mset (mset (mset (mset N1 56 43 1) 56 44 0) 56 45 0) 56 50 0) 56 54 0) 56 59 0) 0 (-1) p i = N p i := fun p i p1 p2 => (ko p i (by omega)).trans (k1 p i (by unfold WTn; omega))
    have nv : NV (mGo (mset (mset (mset (mset (mset (mset N1 56 43 1) 56 44 0) 56 45 0) 56 50 0) 56 54 0) 56 59 0) 0 (-1)) a b T 0 (-1) [] := NV.keep k59 ⟨24, 0, tn, tw, by show 0 + (tfl T).length ≤ a; omega, trivial⟩
    have hm2 : ∀ p i, R32 (mGo (mset (mset (mset (mset (mset (mset N1 56 43 1) 56 44 0) 56 45 0) 56 50 0) 56 54 0) 56 59 0) 0 (-1) p i) := mGo_R32 (mset_R32 (mset_R32 (mset_R32 (mset_R32 (mset_R32 (mset_R32 m1 ⟨by omega, by omega⟩) ⟨by omega, by omega⟩) ⟨by omega, by omega⟩) ⟨by omega, by omega⟩) ⟨by omega, by omega⟩) ⟨by omega, by omega⟩) ⟨by omega, by omega⟩ ⟨by omega, by omega⟩
    have g54 : mGo (mset (mset (mset (mset (mset (mset N1 56 43 1) 56 44 0) 56 45 0) 56 50 0) 56 54 0) 56 59 0) 0 (-1) 56 54 = 0 := by rw [mGo_o (by omega), mset_i' (by omega), mset_s]
    have g50 : mGo (mset (mset (mset (mset (mset (mset N1 56 43 1) 56 44 0) 56 45 0) 56 50 0) 56 54 0) 56 59 0) 0 (-1) 56 50 = 0 := by rw [mGo_o (by omega), mset_i' (by omega), mset_i' (by omega), mset_s]
    have g59 : mGo (mset (mset (mset (mset (mset (mset N1 56 43 1) 56 44 0) 56 45 0) 56 50 0) 56 54 0) 56 59 0) 0 (-1) 56 59 = 0 := by rw [mGo_o (by omega), mset_s]
    have g43 : mGo (mset (mset (mset (mset (mset (mset N1 56 43 1) 56 44 0) 56 45 0) 56 50 0) 56 54 0) 56 59 0) 0 (-1) 56 43 = 1 := by rw [mGo_o (by omega), mset_i' (by omega), mset_i' (by omega), mset_i' (by omega), mset_i' (by omega), mset_i' (by omega), mset_s]
    have g45 : mGo (mset (mset (mset (mset (mset (mset N1 56 43 1) 56 44 0) 56 45 0) 56 50 0) 56 54 0) 56 59 0) 0 (-1) 56 45 = 0 := by rw [mGo_o (by omega), mset_i' (by omega), mset_i' (by omega), mset_i' (by omega), mset_s]
    have g44 : mGo (mset (mset (mset (mset (mset (mset N1 56 43 1) 56 44 0) 56 45 0) 56 50 0) 56 54 0) 56 59 0) 0 (-1) 56 44 = 0 := by
      unfold mGo
      rw [mset_i' (by omega), mset_i' (by omega), mset_i' (by omega), mset_i' (by omega), mset_i' (by omega), mset_i' (by omega), mset_i' (by omega), mset_s]
    have pT : pnd T = a := ta.symm
    have cr : CR (mGo (mset (mset (mset (mset (mset (mset N1 56 43 1) 56 44 0) 56 45 0) 56 50 0) 56 54 0) 56 59 0) 0 (-1)) a b 0 (.inl (T, .nil, [])) := ⟨0, 0, 0, fun _ => none, ⟨g54, g50, g59⟩, (fun i v hv => by cases hv), ⟨Nat.le_refl _, by show 0 + (pnd T + 0) ≤ _; omega, by show 0 + (pnd T + 0) ≤ _; omega⟩, rfl, by show mset _ 56 49 0 56 49 = 0; rw [mset_s], 0, -1, [], by show mset (mset (mset _ 56 46 _) 56 47 _) 56 49 0 56 46 = _; rw [mset_i' (by omega), mset_i' (by omega), mset_s]; rfl, nv, rfl⟩
    refine wc_deep (show d + 6 + 5 ≤ d + 11 by omega) ?_
    refine m_run (m := 0) hG hm2 a6 b6 (by omega) cr hs (fun q nn c' N2 i1 n1 m2 k2 r2 rs v1 v2 => ?_)
    have nn0 : nn = 0 := by omega
    subst nn0
    refine wp_popi d198_57 ?_
    refine wz_iconst d198_58 ?_
    have hv2 : ((∃ v, c' = .inr (v, [])) ∧ N2 56 44 = 1) ∨ ((∃ c'', mv c' = some (true, c'')) ∧ N2 56 44 = 0) := by
      by_cases cv : ∃ v, c' = .inr (v, [])
      · exact Or.inl ⟨cv, v1 cv⟩
      · rcases rs with e | e
        · exact absurd e cv
        · exact Or.inr ⟨e.2, (v2 cv).trans g44⟩
    exact wp_ret d198_59 rfl (h1 A hA N2 c' m2 (fun p k w1 w2 => (k2 p k (by unfold WRn at w2; omega) (by unfold WRn at w2; omega)).trans ((ko2 p k (by unfold WRn at w2; omega)).trans (k1 p k w1))) ⟨(k2 56 43 (by omega) (by omega)).trans g43, (k2 56 45 (by omega) (by omega)).trans g45, by omega, ⟨q, i1⟩, r2, hv2⟩)
  · skip
    refine wz_iconst d198_14 ?_
    obtain ⟨p, hp⟩ : ∃ p, tyF 24 T [] [] = .inl p := by
      cases e : tyF 24 T [] [] with
      | inl p => exact ⟨p, rfl⟩
      | inr A => rw [e] at hb; exact absurd (show tyR (.inr A) < 0 by show (-1 : Int) < 0; omega) hb
    exact wp_ret d198_15 rfl (h0 p hp N1 m1 k1)
end PmG19
