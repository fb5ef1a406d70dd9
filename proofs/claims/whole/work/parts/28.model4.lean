/-! THE MODEL: widened, boundOf. -/
theorem mput_at (M : pm_M) (p : Nat) {b i : Int} (l : List Int) (k : Nat) (hk : k < l.length) (hi : i = b + k) : mput M p b l p i = l.getD k 0 := by
  subst hi
  unfold mput
  rw [if_pos ⟨rfl, by omega, by omega⟩, show (b + (k : Int) - b).toNat = k by omega]
theorem mput_upd (M : pm_M) (p : Nat) (b : Int) (x : List Int) (c v : Int) (y : List Int) (i : Int) (hi : i = b + x.length) : mset (mput M p b (x ++ c :: y)) p i v = mput M p b (x ++ v :: y) := by
  subst hi
  funext q i
  unfold mset mput
  by_cases hq : q = p
  · subst hq
    simp only [List.length_append, List.length_cons, true_and]
    by_cases hi : i = b + x.length
    · subst hi
      rw [if_pos rfl, if_pos ⟨by omega, by omega⟩, show (b + (x.length : Int) - b).toNat = x.length by omega]
      simp
    · rw [if_neg hi]
      by_cases hr : b ≤ i ∧ i < b + ((x.length + (y.length + 1) : Nat) : Int)
      · rw [if_pos hr, if_pos hr, List.getD_eq_getElem?_getD, List.getD_eq_getElem?_getD]
        congr 1
        rw [List.getElem?_append, List.getElem?_append]
        split
        · rfl
        · rename_i h1
          obtain ⟨k, hk⟩ : ∃ k, (i - b).toNat - x.length = k + 1 := ⟨(i - b).toNat - x.length - 1, by omega⟩
          rw [hk, List.getElem?_cons_succ, List.getElem?_cons_succ]
      · rw [if_neg hr, if_neg hr]
  · rw [if_neg (fun e => hq e.1), if_neg (fun e => hq e.1), if_neg (fun e => hq e.1)]
def zlf (f t c : Int) : Int := if 16 + f ≤ c then c + (t - f) else c
section PmM4
variable {d : Nat} {Q : Option Value → pm_S → Prop} {M N : pm_M} {Rf : Nat → Nat → Nat} {K L : Nat → Nat} {n s : Nat}
set_option maxRecDepth 20000 in
set_option maxHeartbeats 1000000 in
theorem m_widened_loop {r a f t u : Int} {l : List Int} (hG : pm_G Rf K L n) (u0 : 0 ≤ u) (u1 : u < 1100) (l1 : l.length ≤ 17) (f0 : 0 ≤ f) (f1 : f ≤ 2000) (hl : ∀ c ∈ l, R32 c) (h : Q (some (.int (zI u))) (zM (mput N 73 (17 * u) (l.map (zlf f t))), Rf, K, L, n, s)) : ∀ (rest done : List Int), done ++ rest = l → pm_Wp none (d + 1) 156 27 [some (.ref 56), some (.int (zI r)), some (.int (zI a)), some (.int (zI f)), some (.int (zI t)), some (.int (zI u)), some (.int (zI l.length)), some (.int (zI done.length))] [] (zM (mput N 73 (17 * u) (done.map (zlf f t) ++ rest)), Rf, K, L, n, s) Q
  | [], done, e => by
    rw [List.append_nil] at e
    subst e
    rw [List.append_nil]
    refine wp_iload d156_27 rfl ?_
    refine wp_iload d156_29 rfl ?_
    refine wz_icmp_ge (t := 75) d156_31 (by decide) (⟨by omega, by omega⟩) (⟨by omega, by omega⟩) (fun _ => ?_) (fun hb => absurd (by omega) hb)
    refine wp_iload d156_75 rfl ?_
    exact wp_ret d156_77 rfl h
  | c :: rest, done, e => by
    have hle : l.length = done.length + (rest.length + 1) := by rw [← e]; simp
    have rc : R32 c := hl c (by rw [← e]; simp)
    have hc : mput N 73 (17 * u) (done.map (zlf f t) ++ c :: rest) 73 (17 * u + done.length) = c := by
      rw [mput_at N 73 _ done.length (by simp) rfl, List.getD_eq_getElem?_getD, List.getElem?_append_right (by simp)]
      simp
    have ih := m_widened_loop (r := r) (a := a) hG u0 u1 l1 f0 f1 hl h rest (done ++ [c]) (by rw [← e]; simp)
    rw [List.map_append, List.append_assoc] at ih
    refine wp_iload d156_27 rfl ?_
    refine wp_iload d156_29 rfl ?_
    refine wz_icmp_ge (t := 75) d156_31 (by decide) (⟨by omega, by omega⟩) (⟨by omega, by omega⟩) (fun hb => absurd hb (by omega)) (fun _ => ?_)
    refine wp_aload_n d156_34 rfl ?_
    refine wp_iload d156_35 rfl ?_
    refine wp_iload d156_37 rfl ?_
    refine wp_virt (as := [.int (zI ((done.length : Int))), .int (zI (u))]) (rest := []) d156_39 rfl rfl rfl (hG.o (by decide) rfl) rfl rfl (Nat.le_of_ble_eq_true rfl) ?_
    refine m_cell hG (by omega) (by omega) ?_
    rw [hc]
    refine wz_bipush d156_42 (by decide) ?_
    refine wp_iload_n d156_44 rfl ?_
    refine wz_iadd d156_45 ?_
    refine wz_icmp_lt (t := 69) d156_46 (by decide) (rc) (⟨by omega, by omega⟩) (fun hb46 => ?_) (fun hb46 => ?_)
    · skip
      refine wz_iinc d156_69 rfl rfl ?_
      refine wp_goto (t := 27) d156_72 (by decide) ?_
      rw [show ((done.length : Int) + 1) = ((done ++ [c]).length : Int) by simp]
      have ez : zlf f t c = c := by unfold zlf; rw [if_neg (by omega)]
      simp only [List.map_cons, List.map_nil, ez] at ih
      exact ih
    · skip
      refine wp_aload_n d156_49 rfl ?_
      refine wp_getR (q := 73) d156_50 rfl (hG.o (by decide) rfl) (by decide) (hG.r (by decide +kernel)) (by decide) ?_
      refine wz_bipush d156_53 (by decide) ?_
      refine wp_iload d156_55 rfl ?_
      refine wz_imul d156_57 ?_
      refine wp_iload d156_58 rfl ?_
      refine wz_iadd d156_60 ?_
      refine wp_dup2 d156_61 ?_
      refine wz_iald (z := 18700) (v := (mput N 73 (17 * u) (done.map (zlf f t) ++ c :: rest)) 73 ((17 * u) + ((done.length : Int)))) d156_62 (hG.a (by decide) rfl rfl) (by omega) (by omega) (by decide) rfl ?_
      refine wp_iload d156_63 rfl ?_
      refine wp_iload_n d156_65 rfl ?_
      refine wz_isub d156_66 ?_
      refine wz_iadd d156_67 ?_
      refine wz_iast (z := 18700) d156_68 (hG.a (by decide) rfl rfl) (by omega) (by omega) (by decide) ?_
      refine wz_iinc d156_69 rfl rfl ?_
      refine wp_goto (t := 27) d156_72 (by decide) ?_
      rw [mput_upd N 73 (17 * u) (done.map (zlf f t)) c _ rest _ (by simp)]
      rw [show ((done.length : Int) + 1) = ((done ++ [c]).length : Int) by simp]
      have ez : c + (t - f) = zlf f t c := by unfold zlf; rw [if_pos (by omega)]
      rw [hc, ez]
      exact ih
set_option maxRecDepth 20000 in
theorem m_widened {r a f t u : Int} {l : List Int} (hG : pm_G Rf K L n) (hM : ∀ p i, R32 (M p i)) (hu : M 56 22 = u) (r0 : 0 ≤ r) (ru : r < u) (u1 : u < 1100) (a0 : 0 ≤ a) (a1 : a + l.length ≤ 17) (f0 : 0 ≤ f) (f1 : f ≤ 2000) (hr : Row M r a l) (hp : pre 1 l = true) (h : Q (some (.int (zI u))) (zM (mput (mset M 56 22 (u + 1)) 73 (17 * u) (l.map (zlf f t))), Rf, K, L, n, s)) : pm_Wc (d + 4) 156 [.ref 56, .int (zI r), .int (zI a), .int (zI f), .int (zI t)] (zM M, Rf, K, L, n, s) Q := by
  refine wc_in (ls0 := [some (.ref 56), some (.int (zI r)), some (.int (zI a)), some (.int (zI f)), some (.int (zI t)), none, none, none]) (by decide) (Nat.le_of_ble_eq_true rfl) rfl rfl ?_
  have hM1 : ∀ p i, R32 (mset M 56 22 (u + 1) p i) := by intro p i; unfold mset; split; exact ⟨by omega, by omega⟩; exact hM p i
  have hr1 : Row (mset M 56 22 (u + 1)) r a l := Row.same (fun i _ _ => mset_p M _ _ _ (by decide)) hr
  have hl := Row.R32 hM hr
  refine wp_aload_n d156_0 rfl ?_
  refine wp_virt (as := []) (rest := []) d156_1 rfl rfl rfl (hG.o (by decide) rfl) rfl rfl (Nat.le_of_ble_eq_true rfl) ?_
  refine m_fresh hG hu ?_
  refine wp_istore d156_4 (Nat.le_of_ble_eq_true rfl) rfl ?_
  refine wp_aload_n d156_6 rfl ?_
  refine wp_iload_n d156_7 rfl ?_
  refine wp_iload_n d156_8 rfl ?_
  refine wp_iload d156_9 rfl ?_
  refine wz_iconst d156_11 ?_
  refine wp_virt (as := [.int (zI (0)), .int (zI (u)), .int (zI (a)), .int (zI (r))]) (rest := []) d156_12 rfl rfl rfl (hG.o (by decide) rfl) rfl rfl (Nat.le_of_ble_eq_true rfl) ?_
  refine m_copy hG hM1 r0 (by omega) a0 a1 (by omega) u1 (by omega) (by omega) (by omega) hr1 hp ?_
  rw [Int.add_zero]
  refine wp_aload_n d156_15 rfl ?_
  refine wp_iload d156_16 rfl ?_
  refine wz_iconst d156_18 ?_
  refine wp_virt (as := [.int (zI (0)), .int (zI (u))]) (rest := []) d156_19 rfl rfl rfl (hG.o (by decide) rfl) rfl rfl (Nat.le_of_ble_eq_true rfl) ?_
  refine m_end (l := l) hG (mput_R32 hM1 hl) (by omega) u1 (by omega) (by omega) (by have := mput_row l (mset M 56 22 (u + 1)) u 0; rw [Int.add_zero] at this; exact this) hp ?_
  rw [Int.zero_add]
  refine wp_istore d156_22 (Nat.le_of_ble_eq_true rfl) rfl ?_
  refine wz_iconst d156_24 ?_
  refine wp_istore d156_25 (Nat.le_of_ble_eq_true rfl) rfl ?_
  exact m_widened_loop (d := d + 2) hG (by omega) u1 (by omega) f0 f1 hl h l [] rfl
end PmM4
