/-! THE MODEL: copy within a row. -/
section PmF6b
variable {d : Nat} {Q : Option Value → pm_S → Prop} {M N : pm_M} {Rf : Nat → Nat → Nat} {K L : Nat → Nat} {n s : Nat}
set_option maxRecDepth 20000 in
set_option maxHeartbeats 1000000 in
theorem m_copy2_loop {r a t b : Int} {l : List Int} (hG : pm_G Rf K L n) (r0 : 0 ≤ r) (r1 : r < 1100) (a0 : 0 ≤ a) (a1 : a + l.length ≤ 17) (t0 : 0 ≤ t) (t1 : t < 1100) (b0 : 0 ≤ b) (b1 : b + l.length ≤ 17) (hrt : r ≠ t ∨ b ≤ a) (hr : Row M r a l) (h : Q none (zM (mput M 73 (17 * t + b) l), Rf, K, L, n, s)) : ∀ (rest done : List Int), done ++ rest = l → pm_Wp none (d + 1) 153 11 [some (.ref 56), some (.int (zI r)), some (.int (zI a)), some (.int (zI t)), some (.int (zI b)), some (.int (zI (a + l.length))), some (.int (zI (a + done.length)))] [] (zM (mput M 73 (17 * t + b) done), Rf, K, L, n, s) Q
  | [], done, e => by
    rw [List.append_nil] at e
    subst e
    refine wp_iload d153_11 rfl ?_
    refine wp_iload d153_13 rfl ?_
    refine wz_icmp_ge (t := 48) d153_15 (by decide) (⟨by omega, by omega⟩) (⟨by omega, by omega⟩) (fun _ => ?_) (fun hb => absurd (by omega) hb)
    exact wp_ret d153_48 rfl h
  | c :: rest, done, e => by
    have hl : l.length = done.length + (rest.length + 1) := by rw [← e]; simp
    have hc : M 73 (17 * r + (a + done.length)) = c := by
      have := Row.at hr done.length (by omega)
      rw [← e, List.getD_eq_getElem?_getD, List.getElem?_append_right (Nat.le_refl _), Nat.sub_self] at this
      rw [← Int.add_assoc]; simpa using this
    have ih := m_copy2_loop hG r0 r1 a0 a1 t0 t1 b0 b1 hrt hr h rest (done ++ [c]) (by rw [← e]; simp)
    refine wp_iload d153_11 rfl ?_
    refine wp_iload d153_13 rfl ?_
    refine wz_icmp_ge (t := 48) d153_15 (by decide) (⟨by omega, by omega⟩) (⟨by omega, by omega⟩) (fun hb => absurd hb (by omega)) (fun _ => ?_)
    refine wp_aload_n d153_18 rfl ?_
    refine wp_getR (q := 73) d153_19 rfl (hG.o (by decide) rfl) (by decide) (hG.r (by decide +kernel)) (by decide) ?_
    refine wz_bipush d153_22 (by decide) ?_
    refine wp_iload_n d153_24 rfl ?_
    refine wz_imul d153_25 ?_
    refine wp_iload d153_26 rfl ?_
    refine wz_iadd d153_28 ?_
    refine wp_iload d153_29 rfl ?_
    refine wz_iadd d153_31 ?_
    refine wp_iload_n d153_32 rfl ?_
    refine wz_isub d153_33 ?_
    refine wp_aload_n d153_34 rfl ?_
    refine wp_iload_n d153_35 rfl ?_
    refine wp_iload d153_36 rfl ?_
    refine wp_virt (as := [.int (zI ((a + done.length))), .int (zI (r))]) (rest := [.int (zI ((((17 * t) + b) + ((a + done.length))) - a)), .ref 73]) d153_38 rfl rfl rfl (hG.o (by decide) rfl) rfl rfl (Nat.le_of_ble_eq_true rfl) ?_
    refine m_cell hG (by omega) (by omega) ?_
    rw [mput_o M 73 done 73 (by omega), hc]
    refine wz_iast (z := 18700) d153_41 (hG.a (by decide) rfl rfl) (by omega) (by omega) (by decide) ?_
    refine wz_iinc d153_42 rfl rfl ?_
    refine wp_goto (t := 11) d153_45 (by decide) ?_
    rw [mput_snoc M 73 (17 * t + b) done c _ (by omega)]
    rw [show (a + (done.length : Int) + 1) = a + ((done ++ [c]).length : Int) by simp; omega]
    exact ih
set_option maxRecDepth 20000 in
theorem m_copy2 {r a t b : Int} {l : List Int} (hG : pm_G Rf K L n) (hM : ∀ p i, R32 (M p i)) (r0 : 0 ≤ r) (r1 : r < 1100) (a0 : 0 ≤ a) (a1 : a + l.length ≤ 17) (t0 : 0 ≤ t) (t1 : t < 1100) (b0 : 0 ≤ b) (b1 : b + l.length ≤ 17) (hrt : r ≠ t ∨ b ≤ a) (hr : Row M r a l) (hp : pre 1 l = true) (h : Q none (zM (mput M 73 (17 * t + b) l), Rf, K, L, n, s)) : pm_Wc (d + 3) 153 [.ref 56, .int (zI r), .int (zI a), .int (zI t), .int (zI b)] (zM M, Rf, K, L, n, s) Q := by
  refine wc_in (ls0 := [some (.ref 56), some (.int (zI r)), some (.int (zI a)), some (.int (zI t)), some (.int (zI b)), none, none]) (by decide) (Nat.le_of_ble_eq_true rfl) rfl rfl ?_
  refine wp_aload_n d153_0 rfl ?_
  refine wp_iload_n d153_1 rfl ?_
  refine wp_iload_n d153_2 rfl ?_
  refine wp_virt (as := [.int (zI (a)), .int (zI (r))]) (rest := []) d153_3 rfl rfl rfl (hG.o (by decide) rfl) rfl rfl (Nat.le_of_ble_eq_true rfl) ?_
  refine m_end hG hM r0 r1 a0 a1 hr hp ?_
  refine wp_istore d153_6 (Nat.le_of_ble_eq_true rfl) rfl ?_
  refine wp_iload_n d153_8 rfl ?_
  refine wp_istore d153_9 (Nat.le_of_ble_eq_true rfl) rfl ?_
  have := m_copy2_loop (d := d + 1) (Q := Q) hG r0 r1 a0 a1 t0 t1 b0 b1 hrt hr h l [] rfl
  rw [mput_nil] at this
  rw [show (a + (([] : List Int).length : Int)) = a by simp] at this
  exact this
theorem m_gets2 {i r a : Int} {l : List Int} (hG : pm_G Rf K L n) (hM : ∀ p i, R32 (N p i)) (i0 : 0 ≤ i) (i1 : i < 60) (r0 : 0 ≤ r) (r1 : r < 1100) (a0 : 0 ≤ a) (a1 : a + l.length ≤ 17) (l1 : l.length ≤ 16) (hr : Row N r a l) (hp : pre 1 l = true) (h : Q (some (.int (zI 1))) (zM (mput N 73 (17 * (4 + i)) l), Rf, K, L, n, s)) : pm_Wc (d + 4) 189 [.ref 56, .int (zI i), .int (zI r), .int (zI a)] (zM N, Rf, K, L, n, s) Q := by
  refine wc_in (ls0 := [some (.ref 56), some (.int (zI i)), some (.int (zI r)), some (.int (zI a)), none]) (by decide) (Nat.le_of_ble_eq_true rfl) rfl rfl ?_
  refine wp_aload_n d189_0 rfl ?_
  refine wp_iload_n d189_1 rfl ?_
  refine wp_iload_n d189_2 rfl ?_
  refine wp_virt (as := [.int (zI a), .int (zI r)]) (rest := []) d189_3 rfl rfl rfl (hG.o (by decide) rfl) rfl rfl (Nat.le_of_ble_eq_true rfl) ?_
  refine m_end (l := l) hG hM r0 r1 a0 a1 hr hp ?_
  refine wp_iload_n d189_6 rfl ?_
  refine wz_isub d189_7 ?_
  refine wp_istore d189_8 (Nat.le_of_ble_eq_true rfl) rfl ?_
  refine wp_iload d189_10 rfl ?_
  refine wz_bipush d189_12 (by decide) ?_
  refine wz_icmp_le (t := 19) d189_14 (by decide) ⟨by omega, by omega⟩ ⟨by omega, by omega⟩ (fun _ => ?_) (fun hb => absurd (by omega) hb)
  refine wp_aload_n d189_19 rfl ?_
  refine wp_iload_n d189_20 rfl ?_
  refine wp_iload_n d189_21 rfl ?_
  refine wz_iconst d189_22 ?_
  refine wp_iload_n d189_23 rfl ?_
  refine wz_iadd d189_24 ?_
  refine wz_iconst d189_25 ?_
  refine wp_virt (as := [.int (zI 0), .int (zI (4 + i)), .int (zI a), .int (zI r)]) (rest := []) d189_26 rfl rfl rfl (hG.o (by decide) rfl) rfl rfl (Nat.le_of_ble_eq_true rfl) ?_
  refine m_copy2 (l := l) hG hM r0 r1 a0 a1 (by omega) (by omega) (by omega) (by omega) (Or.inr a0) hr hp ?_
  refine wz_iconst d189_29 ?_
  rw [Int.add_zero]
  exact wp_ret d189_30 rfl (h)
end PmF6b
