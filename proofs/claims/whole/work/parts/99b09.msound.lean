/-! THE MODEL: fill, sound, readType. -/
variable {lo : Nat}
theorem SCh.len {N : pm_M} {nd sc : Nat} : ∀ {ch : List (Nat × Int × Nat)} {s : Int}, SCh lo N nd sc s ch → (ch.length : Int) ≤ s + 1
  | [], s, h => by
    have h : s = -1 := h
    simp; omega
  | a :: r, s, ⟨g1, _, _, _, g5, _, _, g8⟩ => by
    have := SCh.len g8
    rw [List.length_cons]; omega
theorem tnm_len : ∀ r : List (Nat × Int × Nat), (tnm r).length ≤ r.length
  | [] => Nat.le_refl _
  | u :: r => by
    have := tnm_len r
    show (if u.1 = 0 then u.2.1 :: tnm r else tnm r).length ≤ _
    by_cases hu : u.1 = 0
    · rw [if_pos hu, List.length_cons, List.length_cons]; omega
    · rw [if_neg hu, List.length_cons]; omega
theorem SCh.cells {N : pm_M} {nd sc : Nat} {b : Int} {l : List Int} {ch : List (Nat × Int × Nat)} {s : Int} (h : SCh lo N nd sc s ch) : SCh lo (mput N 73 b l) nd sc s ch := h.sameG (fun i _ _ => ⟨mput_p _ _ _ _ (by decide), mput_p _ _ _ _ (by decide)⟩) (fun q q1 q2 i _ _ => mput_p _ _ _ _ (by omega))
section PmM36
variable {d : Nat} {Q : Option Value → pm_S → Prop} {N : pm_M} {Rf : Nat → Nat → Nat} {K L : Nat → Nat} {n s0 : Nat} {nd sc : Nat}
set_option maxHeartbeats 1000000 in
theorem m_fill {i D : Nat} {row : Int} {t : Ty} (hG : pm_G Rf K L n) (hM : ∀ p i, R32 (N p i)) (ht : NTl lo N nd sc i (flat t) true) (hsc : sc ≤ 128) (ot : ok D t = true) (lt : (flat t).length ≤ 16) (hi : i + (flat t).length ≤ 128) (r0 : 0 ≤ row) (r1 : row < 1100) (h : (∀ p i, R32 (mput N 73 (17 * row) (flat t) p i)) → Q none (zM (mput N 73 (17 * row) (flat t)), Rf, K, L, n, s0)) : pm_Wc (d + 3) 155 [.ref 56, .int (zI (i : Int)), .int (zI row)] (zM N, Rf, K, L, n, s0) Q := by
  have hpx := prx_pre ht.pos (ok_pre t D ot)
  have loop : ∀ (l2 l1 : List Int) (x5 : Option Value), flat t = l1 ++ l2 → NTl lo N nd sc (i + l1.length) l2 true → (∀ p i, R32 (mput N 73 (17 * row) l1 p i)) → pm_Wp none (d + 2) 155 9 [some (.ref 56), some (.int (zI (i : Int))), some (.int (zI row)), some (.int (zI ((i + (flat t).length : Nat) : Int))), some (.int (zI ((i + l1.length : Nat) : Int))), x5] [] (zM (mput N 73 (17 * row) l1), Rf, K, L, n, s0) Q := by
    intro l2
    induction l2 with
    | nil =>
      intro l1 x5 e ht' r32
      rw [List.append_nil] at e
      rw [← e]
      refine wp_iload d155_9 rfl ?_
      refine wp_iload_n d155_11 rfl ?_
      refine wz_icmp_ge (t := 114) d155_12 (by decide) ⟨by omega, by omega⟩ ⟨by omega, by omega⟩ (fun _ => ?_) (fun hb => absurd (by omega) hb)
      exact wp_ret d155_114 rfl (h (by rw [e]; exact r32))
    | cons c l2 ih =>
      intro l1 x5 e ht' r32
      have el : (flat t).length = l1.length + (l2.length + 1) := by rw [e, List.length_append, List.length_cons]
      obtain ⟨b1, b2, t1, t2, t3⟩ := ht'
      have hb : b1 = true ∧ b2 = true := by
        have t4 := t3.symm
        rw [Bool.and_eq_true] at t4
        exact t4
      obtain ⟨hb1, hb2⟩ := hb
      subst hb1 hb2
      -- behind the code
      have store : ∀ x5 : Option Value, R32 c → pm_Wp none (d + 2) 155 92 [some (.ref 56), some (.int (zI (i : Int))), some (.int (zI row)), some (.int (zI ((i + (flat t).length : Nat) : Int))), some (.int (zI ((i + l1.length : Nat) : Int))), some (.int (zI c))] [] (zM (mput N 73 (17 * row) l1), Rf, K, L, n, s0) Q := by
        intro x5 rc
        refine wp_aload_n d155_92 rfl ?_
        refine wp_getR (q := 73) d155_93 rfl (hG.o (by decide) rfl) (by decide) (hG.r (by decide +kernel)) (by decide) ?_
        refine wz_bipush d155_96 (by decide) ?_
        refine wp_iload_n d155_98 rfl ?_
        refine wz_imul d155_99 ?_
        refine wp_iload d155_100 rfl ?_
        refine wz_iadd d155_102 ?_
        refine wp_iload_n d155_103 rfl ?_
        refine wz_isub d155_104 ?_
        refine wp_iload d155_105 rfl ?_
        refine wz_iast (z := 18700) d155_107 (hG.a (by decide) rfl rfl) (by omega) (by omega) (by decide) ?_
        rw [mput_snoc N 73 (17 * row) l1 c _ (by omega)]
        refine wz_iinc d155_108 rfl rfl ?_
        refine wp_goto (t := 9) d155_111 (by decide) ?_
        rw [show ((i + l1.length : Nat) : Int) + 1 = ((i + (l1 ++ [c]).length : Nat) : Int) by rw [List.length_append, List.length_cons, List.length_nil]; omega]
        refine ih (l1 ++ [c]) _ (by rw [List.append_assoc]; exact e) ?_ ?_
        · rw [List.length_append, List.length_cons, List.length_nil, show i + (l1.length + (0 + 1)) = i + l1.length + 1 by omega]; exact t2
        · rw [← mput_snoc N 73 (17 * row) l1 c (17 * row + l1.length) rfl]
          exact mset_R32 r32 rc
      have o59 : mput N 73 (17 * row) l1 59 ((i + l1.length : Nat) : Int) = N 59 ((i + l1.length : Nat) : Int) := mput_p _ _ _ _ (by decide)
      have o60 : mput N 73 (17 * row) l1 60 ((i + l1.length : Nat) : Int) = N 60 ((i + l1.length : Nat) : Int) := mput_p _ _ _ _ (by decide)
      have o62 : mput N 73 (17 * row) l1 62 ((i + l1.length : Nat) : Int) = N 62 ((i + l1.length : Nat) : Int) := mput_p _ _ _ _ (by decide)
      rcases t1 with ⟨-, e1, e2, e3⟩ | ⟨-, e1, e2, e3, e4⟩ | ⟨e1, e2, ch, e3, e4, e5⟩
      · skip
        refine wp_iload d155_9 rfl ?_
        refine wp_iload_n d155_11 rfl ?_
        refine wz_icmp_ge (t := 114) d155_12 (by decide) ⟨by omega, by omega⟩ ⟨by omega, by omega⟩ (fun hb => absurd hb (by omega)) (fun _ => ?_)
        refine wp_aload_n d155_15 rfl ?_
        refine wp_getR (q := 59) d155_16 rfl (hG.o (by decide) rfl) (by decide) (hG.r (by decide +kernel)) (by decide) ?_
        refine wp_iload d155_19 rfl ?_
        refine wz_iald (z := 128) (v := c) d155_21 (hG.a (by decide) rfl rfl) (by omega) (by omega) (by decide) (o59.trans e1) ?_
        refine wz_iconst d155_22 ?_
        refine wz_icmp_ne (t := 39) d155_23 (by decide) ⟨by omega, by omega⟩ ⟨by omega, by omega⟩ (fun _ => ?_) (fun hb => absurd hb (by omega))
        refine wp_aload_n d155_39 rfl ?_
        refine wp_getR (q := 59) d155_40 rfl (hG.o (by decide) rfl) (by decide) (hG.r (by decide +kernel)) (by decide) ?_
        refine wp_iload d155_43 rfl ?_
        refine wz_iald (z := 128) (v := c) d155_45 (hG.a (by decide) rfl rfl) (by omega) (by omega) (by decide) (o59.trans e1) ?_
        refine wp_istore d155_46 (Nat.le_of_ble_eq_true rfl) rfl ?_
        refine wp_aload_n d155_48 rfl ?_
        refine wp_getR (q := 59) d155_49 rfl (hG.o (by decide) rfl) (by decide) (hG.r (by decide +kernel)) (by decide) ?_
        refine wp_iload d155_52 rfl ?_
        refine wz_iald (z := 128) (v := c) d155_54 (hG.a (by decide) rfl rfl) (by omega) (by omega) (by decide) (o59.trans e1) ?_
        refine wz_iconst d155_55 ?_
        refine wz_icmp_ne (t := 92) d155_56 (by decide) ⟨by omega, by omega⟩ ⟨by omega, by omega⟩ (fun _ => ?_) (fun hb => absurd hb (by omega))
        exact store none ⟨by omega, by omega⟩
      · skip
        refine wp_iload d155_9 rfl ?_
        refine wp_iload_n d155_11 rfl ?_
        refine wz_icmp_ge (t := 114) d155_12 (by decide) ⟨by omega, by omega⟩ ⟨by omega, by omega⟩ (fun hb => absurd hb (by omega)) (fun _ => ?_)
        refine wp_aload_n d155_15 rfl ?_
        refine wp_getR (q := 59) d155_16 rfl (hG.o (by decide) rfl) (by decide) (hG.r (by decide +kernel)) (by decide) ?_
        refine wp_iload d155_19 rfl ?_
        refine wz_iald (z := 128) (v := 4) d155_21 (hG.a (by decide) rfl rfl) (by omega) (by omega) (by decide) (o59.trans e1) ?_
        refine wz_iconst d155_22 ?_
        refine wz_icmp_ne (t := 39) d155_23 (by decide) ⟨by omega, by omega⟩ ⟨by omega, by omega⟩ (fun hb => absurd (by decide) hb) (fun _ => ?_)
        refine wz_bipush d155_26 (by decide) ?_
        refine wp_aload_n d155_28 rfl ?_
        refine wp_getR (q := 60) d155_29 rfl (hG.o (by decide) rfl) (by decide) (hG.r (by decide +kernel)) (by decide) ?_
        refine wp_iload d155_32 rfl ?_
        refine wz_iald (z := 128) (v := c - 8) d155_34 (hG.a (by decide) rfl rfl) (by omega) (by omega) (by decide) (o60.trans e2) ?_
        refine wz_iadd d155_35 ?_
        refine wp_goto (t := 46) d155_36 (by decide) ?_
        refine wp_istore d155_46 (Nat.le_of_ble_eq_true rfl) rfl ?_
        refine wp_aload_n d155_48 rfl ?_
        refine wp_getR (q := 59) d155_49 rfl (hG.o (by decide) rfl) (by decide) (hG.r (by decide +kernel)) (by decide) ?_
        refine wp_iload d155_52 rfl ?_
        refine wz_iald (z := 128) (v := 4) d155_54 (hG.a (by decide) rfl rfl) (by omega) (by omega) (by decide) (o59.trans e1) ?_
        refine wz_iconst d155_55 ?_
        refine wz_icmp_ne (t := 92) d155_56 (by decide) ⟨by omega, by omega⟩ ⟨by omega, by omega⟩ (fun _ => ?_) (fun hb => absurd hb (by decide))
        rw [show (8 : Int) + (c - 8) = c by omega]
        exact store none ⟨by omega, by omega⟩
      · skip
        refine wp_iload d155_9 rfl ?_
        refine wp_iload_n d155_11 rfl ?_
        refine wz_icmp_ge (t := 114) d155_12 (by decide) ⟨by omega, by omega⟩ ⟨by omega, by omega⟩ (fun hb => absurd hb (by omega)) (fun _ => ?_)
        refine wp_aload_n d155_15 rfl ?_
        refine wp_getR (q := 59) d155_16 rfl (hG.o (by decide) rfl) (by decide) (hG.r (by decide +kernel)) (by decide) ?_
        refine wp_iload d155_19 rfl ?_
        refine wz_iald (z := 128) (v := 3) d155_21 (hG.a (by decide) rfl rfl) (by omega) (by omega) (by decide) (o59.trans e1) ?_
        refine wz_iconst d155_22 ?_
        refine wz_icmp_ne (t := 39) d155_23 (by decide) ⟨by omega, by omega⟩ ⟨by omega, by omega⟩ (fun _ => ?_) (fun hb => absurd hb (by decide))
        refine wp_aload_n d155_39 rfl ?_
        refine wp_getR (q := 59) d155_40 rfl (hG.o (by decide) rfl) (by decide) (hG.r (by decide +kernel)) (by decide) ?_
        refine wp_iload d155_43 rfl ?_
        refine wz_iald (z := 128) (v := 3) d155_45 (hG.a (by decide) rfl rfl) (by omega) (by omega) (by decide) (o59.trans e1) ?_
        refine wp_istore d155_46 (Nat.le_of_ble_eq_true rfl) rfl ?_
        refine wp_aload_n d155_48 rfl ?_
        refine wp_getR (q := 59) d155_49 rfl (hG.o (by decide) rfl) (by decide) (hG.r (by decide +kernel)) (by decide) ?_
        refine wp_iload d155_52 rfl ?_
        refine wz_iald (z := 128) (v := 3) d155_54 (hG.a (by decide) rfl rfl) (by omega) (by omega) (by decide) (o59.trans e1) ?_
        refine wz_iconst d155_55 ?_
        refine wz_icmp_ne (t := 92) d155_56 (by decide) ⟨by omega, by omega⟩ ⟨by omega, by omega⟩ (fun hb => absurd (by decide) hb) (fun _ => ?_)
        refine wz_bipush d155_59 (by decide) ?_
        refine wp_aload_n d155_61 rfl ?_
        refine wp_aload_n d155_62 rfl ?_
        refine wp_getR (q := 64) d155_63 rfl (hG.o (by decide) rfl) (by decide) (hG.r (by decide +kernel)) (by decide) ?_
        refine wp_aload_n d155_66 rfl ?_
        refine wp_aload_n d155_67 rfl ?_
        refine wp_getR (q := 62) d155_68 rfl (hG.o (by decide) rfl) (by decide) (hG.r (by decide +kernel)) (by decide) ?_
        refine wp_iload d155_71 rfl ?_
        refine wz_iald (z := 128) (v := N 62 ((i + l1.length : Nat) : Int)) d155_73 (hG.a (by decide) rfl rfl) (by omega) (by omega) (by decide) (o62) ?_
        refine wz_iconst d155_74 ?_
        refine wp_aload_n d155_75 rfl ?_
        refine wp_getR (q := 60) d155_76 rfl (hG.o (by decide) rfl) (by decide) (hG.r (by decide +kernel)) (by decide) ?_
        refine wp_iload d155_79 rfl ?_
        refine wz_iald (z := 128) (v := N 60 ((i + l1.length : Nat) : Int)) d155_81 (hG.a (by decide) rfl rfl) (by omega) (by omega) (by decide) (o60) ?_
        refine wp_virt (as := [.int (zI (N 60 ((i + l1.length : Nat) : Int))), .int (zI 0), .int (zI (N 62 ((i + l1.length : Nat) : Int)))]) (rest := [.ref 64, .ref 56, .int (zI 16)]) d155_82 rfl rfl rfl (hG.o (by decide) rfl) rfl rfl (Nat.le_of_ble_eq_true rfl) ?_
        have hS := e3.cells (b := 17 * row) (l := l1)
        rw [show (0 : Int) = ((0 : Nat) : Int) by rfl]
        have el0 : N 60 ((i + l1.length : Nat) : Int) + lowc 0 = 80 + N 60 ((i + l1.length : Nat) : Int) := by show _ + 80 = _; omega
        refine m_binder (nd := nd) (sc := sc) hG r32 hS hsc (by decide) e2 (fun ch' b hf hSb => ?_) (fun hf => ?_)
        rotate_left
        · exfalso
          rw [el0] at hf
          rcases fnd_lvl (80 + N 60 ((i + l1.length : Nat) : Int)) ch with ⟨-, y⟩ | ⟨a, r, x, -⟩
          · rw [y] at e4; cases e4
          · rw [x] at hf; cases hf
        rw [el0] at hf
        rcases fnd_lvl (80 + N 60 ((i + l1.length : Nat) : Int)) ch with ⟨x, -⟩ | ⟨a, r, x, y⟩
        · rw [x] at hf; cases hf
        rw [x] at hf
        injection hf with hf
        subst hf
        obtain ⟨g1, -, -, -, g5, -, -, g8⟩ := hSb
        have gl := g8.len
        rw [y] at e5
        have e5 : c = 16 + (((tnm r).length : Nat) : Int) := e5
        refine wz_iald (z := 128) (v := (mput N 73 (17 * row) l1) 64 b) d155_85 (hG.a (by decide) rfl rfl) (by omega) (by omega) (by decide) (rfl) ?_
        refine wp_virt (as := [.int (zI ((mput N 73 (17 * row) l1) 64 b))]) (rest := [.int (zI 16)]) d155_86 rfl rfl rfl (hG.o (by decide) rfl) rfl rfl (Nat.le_of_ble_eq_true rfl) ?_
        refine m_depthOf hG g8 hsc (by omega) ?_
        refine wz_iadd d155_89 ?_
        refine wp_istore d155_90 (Nat.le_of_ble_eq_true rfl) rfl ?_
        have tl := tnm_len r
        rw [← e5]
        exact store none ⟨by omega, by omega⟩
  refine wc_in (ls0 := [some (.ref 56), some (.int (zI (i : Int))), some (.int (zI row)), none, none, none]) (by decide) (Nat.le_of_ble_eq_true rfl) rfl rfl ?_
  refine wp_aload_n d155_0 rfl ?_
  refine wp_iload_n d155_1 rfl ?_
  refine wp_virt (as := [.int (zI (i : Int))]) (rest := []) d155_2 rfl rfl rfl (hG.o (by decide) rfl) rfl rfl (Nat.le_of_ble_eq_true rfl) ?_
  refine m_behind hG hi ht.nx hpx ?_
  refine wp_istore_n d155_5 (Nat.le_of_ble_eq_true rfl) rfl ?_
  refine wp_iload_n d155_6 rfl ?_
  refine wp_istore d155_7 (Nat.le_of_ble_eq_true rfl) rfl ?_
  have q := loop (flat t) [] none rfl ht (by rw [mput_nil]; exact hM)
  rw [mput_nil] at q
  exact q
/-- every type in the list is small, and every name is open -/
def SOk (l : List Int) (b : Bool) : Prop := b = true ∧ ∀ (k : Nat) (t : Ty) (D : Nat) (post : List Int), ok D t = true → l.drop k = flat t ++ post → (flat t).length ≤ 16
/-- a type begins at every type's code -/
def STy (l : List Int) : Prop := ∀ (k : Nat) (c : Int), l[k]? = some c → 0 ≤ c → ∃ (t : Ty) (D : Nat) (post : List Int), ok D t = true ∧ l.drop k = flat t ++ post
set_option maxHeartbeats 1000000 in
theorem m_sound {l : List Int} {b : Bool} (hG : pm_G Rf K L n) (hM : ∀ p i, R32 (N p i)) (hn : N 56 5 = ((64 + l.length : Nat) : Int)) (hl : l.length ≤ 60) (hsc : sc ≤ 128) (hx : NXl lo N nd sc 64 l b) (hT : STy l) (h1 : SOk l b → Q (some (.int (zI 1))) (zM N, Rf, K, L, n, s0)) (h0 : ¬ SOk l b → Q (some (.int (zI 0))) (zM N, Rf, K, L, n, s0)) : pm_Wc (d + 4) 148 [.ref 56] (zM N, Rf, K, L, n, s0) Q := by
  have loop : ∀ (l' : List Int) (j : Nat) (b' : Bool), NXl lo N nd sc j l' b' → STy l' → j + l'.length = 64 + l.length → (SOk l' b' → Q (some (.int (zI 1))) (zM N, Rf, K, L, n, s0)) → (¬ SOk l' b' → Q (some (.int (zI 0))) (zM N, Rf, K, L, n, s0)) → pm_Wp none (d + 3) 148 3 [some (.ref 56), some (.int (zI (j : Int)))] [] (zM N, Rf, K, L, n, s0) Q := by
    intro l'
    induction l' with
    | nil =>
      intro j b' hx' hT' hj h1' h0'
      rw [List.length_nil, Nat.add_zero] at hj
      have hx' : b' = true := hx' 
      refine wp_iload_n d148_3 rfl ?_
      refine wp_aload_n d148_4 rfl ?_
      refine wz_getI (v := ((64 + l.length : Nat) : Int)) d148_5 rfl (hG.o (by decide) rfl) (by decide) (hn) ?_
      refine wz_icmp_ge (t := 103) d148_8 (by decide) ⟨by omega, by omega⟩ ⟨by omega, by omega⟩ (fun _ => ?_) (fun hb => absurd (by omega) hb)
      refine wz_iconst d148_103 ?_
      refine wp_ret d148_104 rfl (h1' ⟨hx', fun k t D post ot e => ?_⟩)
      rw [List.drop_nil] at e
      have := flat_pos ot
      have e2 : (flat t ++ post).length = 0 := by rw [← e]; rfl
      rw [List.length_append] at e2
      omega
    | cons c l' ih =>
      intro j b' hx' hT' hj h1' h0'
      rw [List.length_cons] at hj
      have hx0 := hx'
      obtain ⟨b1, b2, t1, t2, t3⟩ := hx'
      have hT2 : STy l' := fun k a ha h0 => by
        have q := hT' (k + 1) a (by rw [List.getElem?_cons_succ]; exact ha) h0
        rw [List.drop_succ_cons] at q
        exact q
      have nxt : b1 = true → (0 ≤ c → ∃ (t : Ty) (D : Nat) (post : List Int), ok D t = true ∧ c :: l' = flat t ++ post ∧ (flat t).length ≤ 16) → pm_Wp none (d + 3) 148 97 [some (.ref 56), some (.int (zI (j : Int)))] [] (zM N, Rf, K, L, n, s0) Q := by
        intro hb1 hsz
        subst hb1
        refine wz_iinc d148_97 rfl rfl ?_
        refine wp_goto (t := 3) d148_100 (by decide) ?_
        rw [show (j : Int) + 1 = ((j + 1 : Nat) : Int) by omega]
        refine ih (j + 1) b2 t2 hT2 (by omega) (fun hs => h1' ⟨by rw [t3, hs.1]; rfl, fun k t D post ot e => ?_⟩) (fun hs => h0' (fun hs' => hs ⟨?_, fun k t D post ot e => hs'.2 (k + 1) t D post ot (by rw [List.drop_succ_cons]; exact e)⟩))
        · cases k with
          | zero =>
            rw [List.drop_zero] at e
            have hp := flat_pts ot
            have hc0 : 0 ≤ c := by
              rw [hp] at e
              injection e with e1 e2
              rw [e1]
              exact Int.natCast_nonneg _
            obtain ⟨t', D', post', ot', e', hl'⟩ := hsz hc0
            have := (pre_uniq (ok_pre t D ot) (ok_pre t' D' ot') (e.symm.trans e')).1
            rw [this]; exact hl'
          | succ k => exact hs.2 k t D post ot (by rw [List.drop_succ_cons] at e; exact e)
        · have := hs'.1
          rw [t3] at this
          exact this
      have stop0 : b1 = false → Q (some (.int (zI 0))) (zM N, Rf, K, L, n, s0) := fun hb => h0' (fun hs => by have := hs.1; rw [t3, hb] at this; cases this)
      -- a type's node: its size
      have size : 0 ≤ c → b1 = true → N 59 (j : Int) < 5 ∧ 0 ≤ N 59 (j : Int) → pm_Wp none (d + 3) 148 73 [some (.ref 56), some (.int (zI (j : Int)))] [] (zM N, Rf, K, L, n, s0) Q := by
        intro hc0 hb1 h5
        obtain ⟨t, D, post, ot, e⟩ := hT' 0 c rfl hc0
        rw [List.drop_zero] at e
        have hx1 := hx0
        rw [e] at hx1
        obtain ⟨d1, d2, hxt, -, -⟩ := hx1.split
        have ll : l'.length + 1 = (flat t).length + post.length := by
          have := congrArg List.length e
          rw [List.length_cons, List.length_append] at this
          exact this
        have hcs : ∀ a ∈ flat t, 0 ≤ a := by
          intro a ha
          have := flat_codes 3000 t D (by omega) ot a ha
          omega
        refine wp_aload_n d148_73 rfl ?_
        refine wp_getR (q := 59) d148_74 rfl (hG.o (by decide) rfl) (by decide) (hG.r (by decide +kernel)) (by decide) ?_
        refine wp_iload_n d148_77 rfl ?_
        refine wz_iald (z := 128) (v := N 59 (j : Int)) d148_78 (hG.a (by decide) rfl rfl) (by omega) (by omega) (by decide) (rfl) ?_
        refine wz_iconst d148_79 ?_
        refine wz_icmp_ge (t := 97) d148_80 (by decide) ⟨by omega, by omega⟩ ⟨by omega, by omega⟩ (fun hb => absurd hb (by omega)) (fun _ => ?_)
        refine wp_aload_n d148_83 rfl ?_
        refine wp_iload_n d148_84 rfl ?_
        refine wp_virt (as := [.int (zI (j : Int))]) (rest := []) d148_85 rfl rfl rfl (hG.o (by decide) rfl) rfl rfl (Nat.le_of_ble_eq_true rfl) ?_
        refine wc_deep (show d + 2 ≤ d + 3 by omega) ?_
        refine m_behind (i := j) (l := flat t) hG (by omega) hxt (prx_pre hcs (ok_pre t D ot)) ?_
        refine wp_iload_n d148_88 rfl ?_
        refine wz_isub d148_89 ?_
        refine wz_bipush d148_90 (by decide) ?_
        refine wz_icmp_le (t := 97) d148_92 (by decide) ⟨by omega, by omega⟩ ⟨by omega, by omega⟩ (fun hs => ?_) (fun hs => ?_)
        · skip
          exact nxt hb1 (fun _ => ⟨t, D, post, ot, e, by omega⟩)
        · skip
          refine wz_iconst d148_95 ?_
          exact wp_ret d148_96 rfl (h0' (fun hs' => absurd (hs'.2 0 t D post ot (by rw [List.drop_zero]; exact e)) (by omega)))
      rcases t1 with ⟨h0c, ⟨e0, e1, e2, e3⟩ | ⟨e0, e1, e2, e3, e4⟩ | ⟨e1, e2, ch, e3, e4, e5⟩⟩ | ⟨e0, e1, e2, ch, e3, e4⟩ | ⟨e0, e1, e2⟩ | ⟨e0, e1, e2, e3, e4⟩
      · skip
        refine wp_iload_n d148_3 rfl ?_
        refine wp_aload_n d148_4 rfl ?_
        refine wz_getI (v := ((64 + l.length : Nat) : Int)) d148_5 rfl (hG.o (by decide) rfl) (by decide) (hn) ?_
        refine wz_icmp_ge (t := 103) d148_8 (by decide) ⟨by omega, by omega⟩ ⟨by omega, by omega⟩ (fun hb => absurd hb (by omega)) (fun _ => ?_)
        refine wp_aload_n d148_11 rfl ?_
        refine wp_getR (q := 59) d148_12 rfl (hG.o (by decide) rfl) (by decide) (hG.r (by decide +kernel)) (by decide) ?_
        refine wp_iload_n d148_15 rfl ?_
        refine wz_iald (z := 128) (v := c) d148_16 (hG.a (by decide) rfl rfl) (by omega) (by omega) (by decide) (e1) ?_
        refine wz_iconst d148_17 ?_
        refine wz_icmp_ne (t := 41) d148_18 (by decide) ⟨by omega, by omega⟩ ⟨by omega, by omega⟩ (fun _ => ?_) (fun hb => absurd hb (by omega))
        refine wp_aload_n d148_41 rfl ?_
        refine wp_getR (q := 59) d148_42 rfl (hG.o (by decide) rfl) (by decide) (hG.r (by decide +kernel)) (by decide) ?_
        refine wp_iload_n d148_45 rfl ?_
        refine wz_iald (z := 128) (v := c) d148_46 (hG.a (by decide) rfl rfl) (by omega) (by omega) (by decide) (e1) ?_
        refine wz_iconst d148_47 ?_
        refine wz_icmp_ne (t := 73) d148_48 (by decide) ⟨by omega, by omega⟩ ⟨by omega, by omega⟩ (fun _ => ?_) (fun hb => absurd hb (by omega))
        exact size h0c e0 ⟨by omega, by omega⟩
      · skip
        refine wp_iload_n d148_3 rfl ?_
        refine wp_aload_n d148_4 rfl ?_
        refine wz_getI (v := ((64 + l.length : Nat) : Int)) d148_5 rfl (hG.o (by decide) rfl) (by decide) (hn) ?_
        refine wz_icmp_ge (t := 103) d148_8 (by decide) ⟨by omega, by omega⟩ ⟨by omega, by omega⟩ (fun hb => absurd hb (by omega)) (fun _ => ?_)
        refine wp_aload_n d148_11 rfl ?_
        refine wp_getR (q := 59) d148_12 rfl (hG.o (by decide) rfl) (by decide) (hG.r (by decide +kernel)) (by decide) ?_
        refine wp_iload_n d148_15 rfl ?_
        refine wz_iald (z := 128) (v := 4) d148_16 (hG.a (by decide) rfl rfl) (by omega) (by omega) (by decide) (e1) ?_
        refine wz_iconst d148_17 ?_
        refine wz_icmp_ne (t := 41) d148_18 (by decide) ⟨by omega, by omega⟩ ⟨by omega, by omega⟩ (fun _ => ?_) (fun hb => absurd hb (by decide))
        refine wp_aload_n d148_41 rfl ?_
        refine wp_getR (q := 59) d148_42 rfl (hG.o (by decide) rfl) (by decide) (hG.r (by decide +kernel)) (by decide) ?_
        refine wp_iload_n d148_45 rfl ?_
        refine wz_iald (z := 128) (v := 4) d148_46 (hG.a (by decide) rfl rfl) (by omega) (by omega) (by decide) (e1) ?_
        refine wz_iconst d148_47 ?_
        refine wz_icmp_ne (t := 73) d148_48 (by decide) ⟨by omega, by omega⟩ ⟨by omega, by omega⟩ (fun _ => ?_) (fun hb => absurd hb (by decide))
        exact size h0c e0 ⟨by omega, by omega⟩
      · skip
        refine wp_iload_n d148_3 rfl ?_
        refine wp_aload_n d148_4 rfl ?_
        refine wz_getI (v := ((64 + l.length : Nat) : Int)) d148_5 rfl (hG.o (by decide) rfl) (by decide) (hn) ?_
        refine wz_icmp_ge (t := 103) d148_8 (by decide) ⟨by omega, by omega⟩ ⟨by omega, by omega⟩ (fun hb => absurd hb (by omega)) (fun _ => ?_)
        refine wp_aload_n d148_11 rfl ?_
        refine wp_getR (q := 59) d148_12 rfl (hG.o (by decide) rfl) (by decide) (hG.r (by decide +kernel)) (by decide) ?_
        refine wp_iload_n d148_15 rfl ?_
        refine wz_iald (z := 128) (v := 3) d148_16 (hG.a (by decide) rfl rfl) (by omega) (by omega) (by decide) (e1) ?_
        refine wz_iconst d148_17 ?_
        refine wz_icmp_ne (t := 41) d148_18 (by decide) ⟨by omega, by omega⟩ ⟨by omega, by omega⟩ (fun hb => absurd (by decide) hb) (fun _ => ?_)
        refine wp_aload_n d148_21 rfl ?_
        refine wp_aload_n d148_22 rfl ?_
        refine wp_getR (q := 62) d148_23 rfl (hG.o (by decide) rfl) (by decide) (hG.r (by decide +kernel)) (by decide) ?_
        refine wp_iload_n d148_26 rfl ?_
        refine wz_iald (z := 128) (v := N 62 (j : Int)) d148_27 (hG.a (by decide) rfl rfl) (by omega) (by omega) (by decide) (rfl) ?_
        refine wz_iconst d148_28 ?_
        refine wp_aload_n d148_29 rfl ?_
        refine wp_getR (q := 60) d148_30 rfl (hG.o (by decide) rfl) (by decide) (hG.r (by decide +kernel)) (by decide) ?_
        refine wp_iload_n d148_33 rfl ?_
        refine wz_iald (z := 128) (v := N 60 (j : Int)) d148_34 (hG.a (by decide) rfl rfl) (by omega) (by omega) (by decide) (rfl) ?_
        refine wp_virt (as := [.int (zI (N 60 (j : Int))), .int (zI 0), .int (zI (N 62 (j : Int)))]) (rest := []) d148_35 rfl rfl rfl (hG.o (by decide) rfl) rfl rfl (Nat.le_of_ble_eq_true rfl) ?_
        rw [show (0 : Int) = ((0 : Nat) : Int) by rfl]
        have el0 : N 60 (j : Int) + lowc 0 = 80 + N 60 (j : Int) := by show _ + 80 = _; omega
        refine wc_deep (show 0 + 1 ≤ d + 3 by omega) ?_
        refine m_binder (nd := nd) (sc := sc) hG hM e3 hsc (by decide) e2 (fun ch' b hf hSb => ?_) (fun hf => ?_)
        · skip
          rw [el0] at hf
          have rb := hSb.rng
          rcases fnd_lvl (80 + N 60 (j : Int)) ch with ⟨x, -⟩ | ⟨a, r, x, y⟩
          · rw [x] at hf; cases hf
          have hb0 : 0 ≤ b := by
            rw [x] at hf
            injection hf with hf
            subst hf
            exact (by have := hSb.1.1; omega)
          refine wz_if_lt (t := 71) d148_38 (by decide) ⟨by omega, by omega⟩ (fun hb => absurd hb (by omega)) (fun _ => ?_)
          refine wp_aload_n d148_41 rfl ?_
          refine wp_getR (q := 59) d148_42 rfl (hG.o (by decide) rfl) (by decide) (hG.r (by decide +kernel)) (by decide) ?_
          refine wp_iload_n d148_45 rfl ?_
          refine wz_iald (z := 128) (v := 3) d148_46 (hG.a (by decide) rfl rfl) (by omega) (by omega) (by decide) (e1) ?_
          refine wz_iconst d148_47 ?_
          refine wz_icmp_ne (t := 73) d148_48 (by decide) ⟨by omega, by omega⟩ ⟨by omega, by omega⟩ (fun _ => ?_) (fun hb => absurd hb (by decide))
          exact size h0c (by rw [e4, y]; rfl) ⟨by omega, by omega⟩
        · skip
          rw [el0] at hf
          refine wz_if_lt (t := 71) d148_38 (by decide) ⟨by omega, by omega⟩ (fun _ => ?_) (fun hb => absurd (by decide) hb)
          refine wz_iconst d148_71 ?_
          have hb0 : b1 = false := by
            rcases fnd_lvl (80 + N 60 (j : Int)) ch with ⟨-, y⟩ | ⟨a, r, x, y⟩
            · rw [e4, y]; rfl
            · rw [x] at hf; cases hf
          exact wp_ret d148_72 rfl (stop0 hb0)
      · skip
        refine wp_iload_n d148_3 rfl ?_
        refine wp_aload_n d148_4 rfl ?_
        refine wz_getI (v := ((64 + l.length : Nat) : Int)) d148_5 rfl (hG.o (by decide) rfl) (by decide) (hn) ?_
        refine wz_icmp_ge (t := 103) d148_8 (by decide) ⟨by omega, by omega⟩ ⟨by omega, by omega⟩ (fun hb => absurd hb (by omega)) (fun _ => ?_)
        refine wp_aload_n d148_11 rfl ?_
        refine wp_getR (q := 59) d148_12 rfl (hG.o (by decide) rfl) (by decide) (hG.r (by decide +kernel)) (by decide) ?_
        refine wp_iload_n d148_15 rfl ?_
        refine wz_iald (z := 128) (v := 5) d148_16 (hG.a (by decide) rfl rfl) (by omega) (by omega) (by decide) (e1) ?_
        refine wz_iconst d148_17 ?_
        refine wz_icmp_ne (t := 41) d148_18 (by decide) ⟨by omega, by omega⟩ ⟨by omega, by omega⟩ (fun _ => ?_) (fun hb => absurd hb (by decide))
        refine wp_aload_n d148_41 rfl ?_
        refine wp_getR (q := 59) d148_42 rfl (hG.o (by decide) rfl) (by decide) (hG.r (by decide +kernel)) (by decide) ?_
        refine wp_iload_n d148_45 rfl ?_
        refine wz_iald (z := 128) (v := 5) d148_46 (hG.a (by decide) rfl rfl) (by omega) (by omega) (by decide) (e1) ?_
        refine wz_iconst d148_47 ?_
        refine wz_icmp_ne (t := 73) d148_48 (by decide) ⟨by omega, by omega⟩ ⟨by omega, by omega⟩ (fun hb => absurd (by decide) hb) (fun _ => ?_)
        refine wp_aload_n d148_51 rfl ?_
        refine wp_aload_n d148_52 rfl ?_
        refine wp_getR (q := 62) d148_53 rfl (hG.o (by decide) rfl) (by decide) (hG.r (by decide +kernel)) (by decide) ?_
        refine wp_iload_n d148_56 rfl ?_
        refine wz_iald (z := 128) (v := N 62 (j : Int)) d148_57 (hG.a (by decide) rfl rfl) (by omega) (by omega) (by decide) (rfl) ?_
        refine wz_iconst d148_58 ?_
        refine wp_aload_n d148_59 rfl ?_
        refine wp_getR (q := 60) d148_60 rfl (hG.o (by decide) rfl) (by decide) (hG.r (by decide +kernel)) (by decide) ?_
        refine wp_iload_n d148_63 rfl ?_
        refine wz_iald (z := 128) (v := N 60 (j : Int)) d148_64 (hG.a (by decide) rfl rfl) (by omega) (by omega) (by decide) (rfl) ?_
        refine wp_virt (as := [.int (zI (N 60 (j : Int))), .int (zI 1), .int (zI (N 62 (j : Int)))]) (rest := []) d148_65 rfl rfl rfl (hG.o (by decide) rfl) rfl rfl (Nat.le_of_ble_eq_true rfl) ?_
        rw [show (1 : Int) = ((1 : Nat) : Int) by rfl]
        have el0 : N 60 (j : Int) + lowc 1 = 97 + N 60 (j : Int) := by show _ + 97 = _; omega
        refine wc_deep (show 0 + 1 ≤ d + 3 by omega) ?_
        refine m_binder (nd := nd) (sc := sc) hG hM e3 hsc (by decide) e2 (fun ch' b hf hSb => ?_) (fun hf => ?_)
        · skip
          rw [el0] at hf
          have rb := hSb.rng
          rcases fnd_bnr (97 + N 60 (j : Int)) ch with ⟨x, -⟩ | ⟨a, r, x, y⟩
          · rw [x] at hf; cases hf
          have hb0 : 0 ≤ b := by
            rw [x] at hf
            injection hf with hf
            subst hf
            exact (by have := hSb.1.1; omega)
          refine wz_if_ge (t := 73) d148_68 (by decide) ⟨by omega, by omega⟩ (fun _ => ?_) (fun hb => absurd (by omega) hb)
          refine wp_aload_n d148_73 rfl ?_
          refine wp_getR (q := 59) d148_74 rfl (hG.o (by decide) rfl) (by decide) (hG.r (by decide +kernel)) (by decide) ?_
          refine wp_iload_n d148_77 rfl ?_
          refine wz_iald (z := 128) (v := 5) d148_78 (hG.a (by decide) rfl rfl) (by omega) (by omega) (by decide) (e1) ?_
          refine wz_iconst d148_79 ?_
          refine wz_icmp_ge (t := 97) d148_80 (by decide) ⟨by omega, by omega⟩ ⟨by omega, by omega⟩ (fun _ => ?_) (fun hb => absurd (by decide) hb)
          exact nxt (by rw [e4, y]; rfl) (fun hc => by omega)
        · skip
          rw [el0] at hf
          have hb0 : b1 = false := by
            rcases fnd_bnr (97 + N 60 (j : Int)) ch with ⟨-, y⟩ | ⟨a, r, x, y⟩
            · rw [e4, y]; rfl
            · rw [x] at hf; cases hf
          refine wz_if_ge (t := 73) d148_68 (by decide) ⟨by omega, by omega⟩ (fun hb => absurd hb (by decide)) (fun _ => ?_)
          refine wz_iconst d148_71 ?_
          exact wp_ret d148_72 rfl (stop0 hb0)
      · skip
        refine wp_iload_n d148_3 rfl ?_
        refine wp_aload_n d148_4 rfl ?_
        refine wz_getI (v := ((64 + l.length : Nat) : Int)) d148_5 rfl (hG.o (by decide) rfl) (by decide) (hn) ?_
        refine wz_icmp_ge (t := 103) d148_8 (by decide) ⟨by omega, by omega⟩ ⟨by omega, by omega⟩ (fun hb => absurd hb (by omega)) (fun _ => ?_)
        refine wp_aload_n d148_11 rfl ?_
        refine wp_getR (q := 59) d148_12 rfl (hG.o (by decide) rfl) (by decide) (hG.r (by decide +kernel)) (by decide) ?_
        refine wp_iload_n d148_15 rfl ?_
        refine wz_iald (z := 128) (v := (-c)) d148_16 (hG.a (by decide) rfl rfl) (by omega) (by omega) (by decide) (e1) ?_
        refine wz_iconst d148_17 ?_
        refine wz_icmp_ne (t := 41) d148_18 (by decide) ⟨by omega, by omega⟩ ⟨by omega, by omega⟩ (fun _ => ?_) (fun hb => absurd hb (by omega))
        refine wp_aload_n d148_41 rfl ?_
        refine wp_getR (q := 59) d148_42 rfl (hG.o (by decide) rfl) (by decide) (hG.r (by decide +kernel)) (by decide) ?_
        refine wp_iload_n d148_45 rfl ?_
        refine wz_iald (z := 128) (v := (-c)) d148_46 (hG.a (by decide) rfl rfl) (by omega) (by omega) (by decide) (e1) ?_
        refine wz_iconst d148_47 ?_
        refine wz_icmp_ne (t := 73) d148_48 (by decide) ⟨by omega, by omega⟩ ⟨by omega, by omega⟩ (fun _ => ?_) (fun hb => absurd hb (by omega))
        refine wp_aload_n d148_73 rfl ?_
        refine wp_getR (q := 59) d148_74 rfl (hG.o (by decide) rfl) (by decide) (hG.r (by decide +kernel)) (by decide) ?_
        refine wp_iload_n d148_77 rfl ?_
        refine wz_iald (z := 128) (v := (-c)) d148_78 (hG.a (by decide) rfl rfl) (by omega) (by omega) (by decide) (e1) ?_
        refine wz_iconst d148_79 ?_
        refine wz_icmp_ge (t := 97) d148_80 (by decide) ⟨by omega, by omega⟩ ⟨by omega, by omega⟩ (fun _ => ?_) (fun hb => absurd (by omega) hb)
        exact nxt e0 (fun hc => by omega)
      · skip
        refine wp_iload_n d148_3 rfl ?_
        refine wp_aload_n d148_4 rfl ?_
        refine wz_getI (v := ((64 + l.length : Nat) : Int)) d148_5 rfl (hG.o (by decide) rfl) (by decide) (hn) ?_
        refine wz_icmp_ge (t := 103) d148_8 (by decide) ⟨by omega, by omega⟩ ⟨by omega, by omega⟩ (fun hb => absurd hb (by omega)) (fun _ => ?_)
        refine wp_aload_n d148_11 rfl ?_
        refine wp_getR (q := 59) d148_12 rfl (hG.o (by decide) rfl) (by decide) (hG.r (by decide +kernel)) (by decide) ?_
        refine wp_iload_n d148_15 rfl ?_
        refine wz_iald (z := 128) (v := 10) d148_16 (hG.a (by decide) rfl rfl) (by omega) (by omega) (by decide) (e1) ?_
        refine wz_iconst d148_17 ?_
        refine wz_icmp_ne (t := 41) d148_18 (by decide) ⟨by omega, by omega⟩ ⟨by omega, by omega⟩ (fun _ => ?_) (fun hb => absurd hb (by decide))
        refine wp_aload_n d148_41 rfl ?_
        refine wp_getR (q := 59) d148_42 rfl (hG.o (by decide) rfl) (by decide) (hG.r (by decide +kernel)) (by decide) ?_
        refine wp_iload_n d148_45 rfl ?_
        refine wz_iald (z := 128) (v := 10) d148_46 (hG.a (by decide) rfl rfl) (by omega) (by omega) (by decide) (e1) ?_
        refine wz_iconst d148_47 ?_
        refine wz_icmp_ne (t := 73) d148_48 (by decide) ⟨by omega, by omega⟩ ⟨by omega, by omega⟩ (fun _ => ?_) (fun hb => absurd hb (by decide))
        refine wp_aload_n d148_73 rfl ?_
        refine wp_getR (q := 59) d148_74 rfl (hG.o (by decide) rfl) (by decide) (hG.r (by decide +kernel)) (by decide) ?_
        refine wp_iload_n d148_77 rfl ?_
        refine wz_iald (z := 128) (v := 10) d148_78 (hG.a (by decide) rfl rfl) (by omega) (by omega) (by decide) (e1) ?_
        refine wz_iconst d148_79 ?_
        refine wz_icmp_ge (t := 97) d148_80 (by decide) ⟨by omega, by omega⟩ ⟨by omega, by omega⟩ (fun _ => ?_) (fun hb => absurd (by decide) hb)
        exact nxt e0 (fun hc => by omega)
  refine wc_in (ls0 := [some (.ref 56), none]) (by decide) (Nat.le_of_ble_eq_true rfl) rfl rfl ?_
  refine wz_bipush d148_0 (by decide) ?_
  refine wp_istore_n d148_2 (Nat.le_of_ble_eq_true rfl) rfl ?_
  rw [show (64 : Int) = ((64 : Nat) : Int) by rfl]
  exact loop l 64 b hx hT rfl h1 h0
end PmM36
