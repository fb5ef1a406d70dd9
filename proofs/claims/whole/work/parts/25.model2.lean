/-! THE MODEL: copy, equal, widened, context. -/
section PmM2
variable {d : Nat} {Q : Option Value → pm_S → Prop} {M : pm_M} {Rf : Nat → Nat → Nat} {K L : Nat → Nat} {n s : Nat}
set_option maxRecDepth 20000 in
set_option maxHeartbeats 1000000 in
theorem m_copy_loop {r a t b : Int} {l : List Int} (hG : pm_G Rf K L n) (r0 : 0 ≤ r) (r1 : r < 1100) (a0 : 0 ≤ a) (a1 : a + l.length ≤ 17) (t0 : 0 ≤ t) (t1 : t < 1100) (b0 : 0 ≤ b) (b1 : b + l.length ≤ 17) (hrt : r ≠ t) (hr : Row M r a l) (h : Q none (zM (mput M 73 (17 * t + b) l), Rf, K, L, n, s)) : ∀ (rest done : List Int), done ++ rest = l → pm_Wp none (d + 1) 153 11 [some (.ref 56), some (.int (zI r)), some (.int (zI a)), some (.int (zI t)), some (.int (zI b)), some (.int (zI (a + l.length))), some (.int (zI (a + done.length)))] [] (zM (mput M 73 (17 * t + b) done), Rf, K, L, n, s) Q
  | [], done, e => by
    rw [List.append_nil] at e
    subst e
    refine wp_iload d153_11 rfl ?_
    refine wp_iload d153_13 rfl ?_
    refine wz_icmp_ge (t := 48) d153_15 (by decide) (⟨by omega, by omega⟩) (⟨by omega, by omega⟩) (fun _ => ?_) (fun hb => absurd (by omega) hb)
    exact wp_ret d153_48 rfl h
  | c :: rest, done, e => by
    have hl : l.length = done.length + (rest.length + 1) := by rw [← e]; simp
    have hc : M 73 (17 * r + (a + done.length)) = c := by
      have := Row.at hr done.length (by omega)
      rw [← e, List.getD_eq_getElem?_getD, List.getElem?_append_right (Nat.le_refl _), Nat.sub_self] at this
      rw [← Int.add_assoc]; simpa using this
    have ih := m_copy_loop hG r0 r1 a0 a1 t0 t1 b0 b1 hrt hr h rest (done ++ [c]) (by rw [← e]; simp)
    refine wp_iload d153_11 rfl ?_
    refine wp_iload d153_13 rfl ?_
    refine wz_icmp_ge (t := 48) d153_15 (by decide) (⟨by omega, by omega⟩) (⟨by omega, by omega⟩) (fun hb => absurd hb (by omega)) (fun _ => ?_)
    refine wp_aload_n d153_18 rfl ?_
    refine wp_getR (q := 73) d153_19 rfl (hG.o (by decide) rfl) (by decide) (hG.r (by decide +kernel)) (by decide) ?_
    refine wz_bipush d153_22 (by decide) ?_
    refine wp_iload_n d153_24 rfl ?_
    refine wz_imul d153_25 ?_
    refine wp_iload d153_26 rfl ?_
    refine wz_iadd d153_28 ?_
    refine wp_iload d153_29 rfl ?_
    refine wz_iadd d153_31 ?_
    refine wp_iload_n d153_32 rfl ?_
    refine wz_isub d153_33 ?_
    refine wp_aload_n d153_34 rfl ?_
    refine wp_iload_n d153_35 rfl ?_
    refine wp_iload d153_36 rfl ?_
    refine wp_virt (as := [.int (zI ((a + done.length))), .int (zI (r))]) (rest := [.int (zI ((((17 * t) + b) + ((a + done.length))) - a)), .ref 73]) d153_38 rfl rfl rfl (hG.o (by decide) rfl) rfl rfl (Nat.le_of_ble_eq_true rfl) ?_
    refine m_cell hG (by omega) (by omega) ?_
    rw [mput_o M 73 done 73 (by omega), hc]
    refine wz_iast (z := 18700) d153_41 (hG.a (by decide) rfl rfl) (by omega) (by omega) (by decide) ?_
    refine wz_iinc d153_42 rfl rfl ?_
    refine wp_goto (t := 11) d153_45 (by decide) ?_
    rw [mput_snoc M 73 (17 * t + b) done c _ (by omega)]
    rw [show (a + (done.length : Int) + 1) = a + ((done ++ [c]).length : Int) by simp; omega]
    exact ih
set_option maxRecDepth 20000 in
theorem m_copy {r a t b : Int} {l : List Int} (hG : pm_G Rf K L n) (hM : ∀ p i, R32 (M p i)) (r0 : 0 ≤ r) (r1 : r < 1100) (a0 : 0 ≤ a) (a1 : a + l.length ≤ 17) (t0 : 0 ≤ t) (t1 : t < 1100) (b0 : 0 ≤ b) (b1 : b + l.length ≤ 17) (hrt : r ≠ t) (hr : Row M r a l) (hp : pre 1 l = true) (h : Q none (zM (mput M 73 (17 * t + b) l), Rf, K, L, n, s)) : pm_Wc (d + 3) 153 [.ref 56, .int (zI r), .int (zI a), .int (zI t), .int (zI b)] (zM M, Rf, K, L, n, s) Q := by
  refine wc_in (ls0 := [some (.ref 56), some (.int (zI r)), some (.int (zI a)), some (.int (zI t)), some (.int (zI b)), none, none]) (by decide) (Nat.le_of_ble_eq_true rfl) rfl rfl ?_
  refine wp_aload_n d153_0 rfl ?_
  refine wp_iload_n d153_1 rfl ?_
  refine wp_iload_n d153_2 rfl ?_
  refine wp_virt (as := [.int (zI (a)), .int (zI (r))]) (rest := []) d153_3 rfl rfl rfl (hG.o (by decide) rfl) rfl rfl (Nat.le_of_ble_eq_true rfl) ?_
  refine m_end hG hM r0 r1 a0 a1 hr hp ?_
  refine wp_istore d153_6 (Nat.le_of_ble_eq_true rfl) rfl ?_
  refine wp_iload_n d153_8 rfl ?_
  refine wp_istore d153_9 (Nat.le_of_ble_eq_true rfl) rfl ?_
  have := m_copy_loop (d := d + 1) (Q := Q) hG r0 r1 a0 a1 t0 t1 b0 b1 hrt hr h l [] rfl
  rw [mput_nil] at this
  rw [show (a + (([] : List Int).length : Int)) = a by simp] at this
  exact this
theorem eq_getD {a b : List Int} (h : a.length = b.length) (hk : ∀ k, k < a.length → a.getD k 0 = b.getD k 0) : a = b := by
  apply List.ext_getElem h
  intro i h1 h2
  have := hk i h1
  rwa [List.getD_eq_getElem?_getD, List.getD_eq_getElem?_getD, List.getElem?_eq_getElem h1, List.getElem?_eq_getElem h2] at this
set_option maxRecDepth 20000 in
theorem m_equal_no {r a t b jj nn : Int} (hG : pm_G Rf K L n) (rj : R32 jj) (rn : R32 nn) (h : Q (some (.int (zI 0))) (zM M, Rf, K, L, n, s)) : pm_Wp none (d + 1) 154 35 [some (.ref 56), some (.int (zI r)), some (.int (zI a)), some (.int (zI t)), some (.int (zI b)), some (.int (zI nn)), some (.int (zI 0)), some (.int (zI jj))] [] (zM M, Rf, K, L, n, s) Q := by
  refine wp_iload d154_35 rfl ?_
  refine wp_iload d154_37 rfl ?_
  refine wz_icmp_ge (t := 82) d154_39 (by decide) (rj) (rn) (fun hb39 => ?_) (fun hb39 => ?_)
  · skip
    refine wp_iload d154_82 rfl ?_
    exact wp_ret d154_84 (by decide +kernel) h
  · skip
    refine wp_iload d154_42 rfl ?_
    refine wz_if_eq (t := 82) d154_44 (by decide) (⟨by omega, by omega⟩) (fun _ => ?_) (fun hb => absurd (by decide) hb)
    refine wp_iload d154_82 rfl ?_
    exact wp_ret d154_84 (by decide +kernel) h
set_option maxRecDepth 20000 in
set_option maxHeartbeats 1000000 in
theorem m_equal_loop {r a t b : Int} {l m : List Int} (hG : pm_G Rf K L n) (hM : ∀ p i, R32 (M p i)) (r0 : 0 ≤ r) (r1 : r < 1100) (a0 : 0 ≤ a) (a1 : a + l.length ≤ 17) (t0 : 0 ≤ t) (t1 : t < 1100) (b0 : 0 ≤ b) (b1 : b + m.length ≤ 17) (hl : Row M r a l) (hm : Row M t b m) (hlen : l.length = m.length) (h1 : l = m → Q (some (.int (zI 1))) (zM M, Rf, K, L, n, s)) (h0 : l ≠ m → Q (some (.int (zI 0))) (zM M, Rf, K, L, n, s)) : ∀ (k : Nat) (j : Nat), j + k = l.length → (∀ i, i < j → l.getD i 0 = m.getD i 0) → pm_Wp none (d + 1) 154 35 [some (.ref 56), some (.int (zI r)), some (.int (zI a)), some (.int (zI t)), some (.int (zI b)), some (.int (zI l.length)), some (.int (zI 1)), some (.int (zI j))] [] (zM M, Rf, K, L, n, s) Q
  | 0, j, e, hk => by
    have he : l = m := eq_getD hlen (fun i hi => hk i (by omega))
    refine wp_iload d154_35 rfl ?_
    refine wp_iload d154_37 rfl ?_
    refine wz_icmp_ge (t := 82) d154_39 (by decide) (⟨by omega, by omega⟩) (⟨by omega, by omega⟩) (fun _ => ?_) (fun hb => absurd (by omega) hb)
    refine wp_iload d154_82 rfl ?_
    exact wp_ret d154_84 (by decide +kernel) (h1 he)
  | k + 1, j, e, hk => by
    have c1 := Row.at hl j (by omega)
    have c2 := Row.at hm j (by omega)
    have ih := m_equal_loop hG hM r0 r1 a0 a1 t0 t1 b0 b1 hl hm hlen h1 h0 k (j + 1) (by omega)
    refine wp_iload d154_35 rfl ?_
    refine wp_iload d154_37 rfl ?_
    refine wz_icmp_ge (t := 82) d154_39 (by decide) (⟨by omega, by omega⟩) (⟨by omega, by omega⟩) (fun hb => absurd hb (by omega)) (fun _ => ?_)
    refine wp_iload d154_42 rfl ?_
    refine wz_if_eq (t := 82) d154_44 (by decide) (⟨by omega, by omega⟩) (fun hb => absurd hb (by omega)) (fun _ => ?_)
    refine wp_aload_n d154_47 rfl ?_
    refine wp_iload_n d154_48 rfl ?_
    refine wp_iload_n d154_49 rfl ?_
    refine wp_iload d154_50 rfl ?_
    refine wz_iadd d154_52 ?_
    refine wp_virt (as := [.int (zI (a + ((j : Int)))), .int (zI (r))]) (rest := []) d154_53 rfl rfl rfl (hG.o (by decide) rfl) rfl rfl (Nat.le_of_ble_eq_true rfl) ?_
    refine m_cell hG (by omega) (by omega) ?_
    rw [← Int.add_assoc, c1]
    refine wp_aload_n d154_56 rfl ?_
    refine wp_iload_n d154_57 rfl ?_
    refine wp_iload d154_58 rfl ?_
    refine wp_iload d154_60 rfl ?_
    refine wz_iadd d154_62 ?_
    refine wp_virt (as := [.int (zI (b + ((j : Int)))), .int (zI (t))]) (rest := [.int (zI (l.getD j 0))]) d154_63 rfl rfl rfl (hG.o (by decide) rfl) rfl rfl (Nat.le_of_ble_eq_true rfl) ?_
    refine m_cell hG (by omega) (by omega) ?_
    rw [← Int.add_assoc, c2]
    refine wz_icmp_ne (t := 73) d154_66 (by decide) ((by rw [← c1]; exact hM _ _)) ((by rw [← c2]; exact hM _ _)) (fun hb66 => ?_) (fun hb66 => ?_)
    · skip
      refine wz_iconst d154_73 ?_
      refine wp_istore d154_74 (Nat.le_of_ble_eq_true rfl) rfl ?_
      refine wz_iinc d154_76 rfl rfl ?_
      refine wp_goto (t := 35) d154_79 (by decide) ?_
      have hne : l ≠ m := fun q => by first | exact hb66 (by rw [q]) | exact absurd (by rw [q]) hb66
      exact m_equal_no hG ⟨by omega, by omega⟩ ⟨by omega, by omega⟩ (h0 hne)
    · skip
      refine wz_iconst d154_69 ?_
      refine wp_goto (t := 74) d154_70 (by decide) ?_
      refine wp_istore d154_74 (Nat.le_of_ble_eq_true rfl) rfl ?_
      refine wz_iinc d154_76 rfl rfl ?_
      refine wp_goto (t := 35) d154_79 (by decide) ?_
      exact ih (fun i hi => by
        by_cases q : i < j
        · exact hk i q
        · rw [show i = j by omega]; first | exact hb66 | exact Classical.not_not.mp hb66)
set_option maxRecDepth 20000 in
theorem m_equal {r a t b : Int} {l m : List Int} (hG : pm_G Rf K L n) (hM : ∀ p i, R32 (M p i)) (r0 : 0 ≤ r) (r1 : r < 1100) (a0 : 0 ≤ a) (a1 : a + l.length ≤ 17) (t0 : 0 ≤ t) (t1 : t < 1100) (b0 : 0 ≤ b) (b1 : b + m.length ≤ 17) (hl : Row M r a l) (hpl : pre 1 l = true) (hm : Row M t b m) (hpm : pre 1 m = true) (h1 : l = m → Q (some (.int (zI 1))) (zM M, Rf, K, L, n, s)) (h0 : l ≠ m → Q (some (.int (zI 0))) (zM M, Rf, K, L, n, s)) : pm_Wc (d + 3) 154 [.ref 56, .int (zI r), .int (zI a), .int (zI t), .int (zI b)] (zM M, Rf, K, L, n, s) Q := by
  refine wc_in (ls0 := [some (.ref 56), some (.int (zI r)), some (.int (zI a)), some (.int (zI t)), some (.int (zI b)), none, none, none]) (by decide) (Nat.le_of_ble_eq_true rfl) rfl rfl ?_
  refine wp_aload_n d154_0 rfl ?_
  refine wp_iload_n d154_1 rfl ?_
  refine wp_iload_n d154_2 rfl ?_
  refine wp_virt (as := [.int (zI (a)), .int (zI (r))]) (rest := []) d154_3 rfl rfl rfl (hG.o (by decide) rfl) rfl rfl (Nat.le_of_ble_eq_true rfl) ?_
  refine m_end hG hM r0 r1 a0 a1 hl hpl ?_
  refine wp_iload_n d154_6 rfl ?_
  refine wz_isub d154_7 ?_
  refine wp_istore d154_8 (Nat.le_of_ble_eq_true rfl) rfl ?_
  refine wp_aload_n d154_10 rfl ?_
  refine wp_iload_n d154_11 rfl ?_
  refine wp_iload d154_12 rfl ?_
  refine wp_virt (as := [.int (zI (b)), .int (zI (t))]) (rest := []) d154_14 rfl rfl rfl (hG.o (by decide) rfl) rfl rfl (Nat.le_of_ble_eq_true rfl) ?_
  refine m_end hG hM t0 t1 b0 b1 hm hpm ?_
  refine wp_iload d154_17 rfl ?_
  refine wz_isub d154_19 ?_
  refine wp_iload d154_20 rfl ?_
  refine wz_icmp_ne (t := 29) d154_22 (by decide) (⟨by omega, by omega⟩) (⟨by omega, by omega⟩) (fun hb22 => ?_) (fun hb22 => ?_)
  · skip
    refine wz_iconst d154_29 ?_
    refine wp_istore d154_30 (Nat.le_of_ble_eq_true rfl) rfl ?_
    refine wz_iconst d154_32 ?_
    refine wp_istore d154_33 (Nat.le_of_ble_eq_true rfl) rfl ?_
    have hne : l ≠ m := fun q => by rw [q] at hb22; omega
    exact m_equal_no (d := d + 1) hG ⟨by omega, by omega⟩ ⟨by omega, by omega⟩ (h0 hne)
  · skip
    refine wz_iconst d154_25 ?_
    refine wp_goto (t := 30) d154_26 (by decide) ?_
    refine wp_istore d154_30 (Nat.le_of_ble_eq_true rfl) rfl ?_
    refine wz_iconst d154_32 ?_
    refine wp_istore d154_33 (Nat.le_of_ble_eq_true rfl) rfl ?_
    have hlen : l.length = m.length := by omega
    rw [show a + (l.length : Int) - a = l.length by omega]
    exact m_equal_loop (d := d + 1) hG hM r0 r1 a0 a1 t0 t1 b0 b1 hl hm hlen h1 h0 l.length 0 (by omega) (fun i hi => absurd hi (Nat.not_lt_zero i))
end PmM2
