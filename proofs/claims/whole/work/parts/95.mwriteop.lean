/-! THE MODEL: write, as one. -/
section PmM27
variable {d : Nat} {Q : Option Value → pm_S → Prop} {N : pm_M} {Rf : Nat → Nat → Nat} {K L : Nat → Nat} {n s : Nat}
set_option maxRecDepth 20000 in
set_option maxHeartbeats 1000000 in
theorem m_writeOp {i : Int} {T : Int → Option Ty} (hG : pm_G Rf K L n) (hM : ∀ p i, R32 (N p i)) (ri : R32 i) (hT : SLM N T) (h2 : sl T i = none → Q (some (.int (zI (-2)))) (zM N, Rf, K, L, n, s)) (h1 : ∀ A, sl T i = some A → ∀ N' : pm_M, PMF N N' → MP N' (wrf 16 0 A) → (∀ p i, R32 (N' p i)) → Q (some (.int (zI ((wrf 16 0 A).length : Int)))) (zM N', Rf, K, L, n, s)) : pm_Wc (d + 4) 185 [.ref 56, .int (zI i)] (zM N, Rf, K, L, n, s) Q := by
  refine wc_in (ls0 := [some (.ref 56), some (.int (zI i)), none, none, none, none, none]) (by decide) (Nat.le_of_ble_eq_true rfl) rfl rfl ?_
  refine wp_aload_n d185_0 rfl ?_
  refine wp_iload_n d185_1 rfl ?_
  refine wp_virt (as := [.int (zI i)]) (rest := []) d185_2 rfl rfl rfl (hG.o (by decide) rfl) rfl rfl (Nat.le_of_ble_eq_true rfl) ?_
  refine m_holds hG ri hT (fun A eA => ?_) (fun e => ?_)
  rotate_left
  · skip
    refine wz_if_ne (t := 11) d185_5 (by decide) ⟨by omega, by omega⟩ (fun hb => absurd (by decide) hb) (fun _ => ?_)
    refine wz_bipush d185_8 (by decide) ?_
    exact wp_ret d185_10 rfl (h2 e)
  refine wz_if_ne (t := 11) d185_5 (by decide) ⟨by omega, by omega⟩ (fun _ => ?_) (fun hb => absurd hb (by decide))
  have hh := h1 A eA
  obtain ⟨i0, i3, -, rA, lA, oA⟩ := hT.at eA
  obtain ⟨en, ce, hE0, hat, en0⟩ := row_en oA lA rA
  have wl := wr_len 16 0 0 A oA
  have l1 := flat_pos oA
  have tot : outr en ce 0 0 (flat A).length = wrf 16 0 A := out_is 16 0 A 0 oA lA lA hat (fun i hi => absurd hi (Nat.not_lt_zero _))
  have hM0 : ∀ p i, R32 (mset N 56 2 0 p i) := mset_R32 hM ⟨by omega, by omega⟩
  have pf0 : PMF N (mset N 56 2 0) := fun p j a b => by unfold mset; rw [if_neg b]
  have mp0 : MP (mset N 56 2 0) (outr en ce 0 0 0) := ⟨mset_s _ _ _ _, fun j hj => absurd hj (Nat.not_lt_zero _)⟩
  have hmono : ∀ q, q ≤ (flat A).length → (outr en ce 0 0 q).length ≤ 94 := fun q hq => by
    have := outr_mono (en := en) (ce := ce) 0 0 ((flat A).length - q) q
    rw [show q + ((flat A).length - q) = (flat A).length by omega, tot] at this
    omega
  have main : ∀ (m p : Nat) (N1 : pm_M) (x4 x5 x6 : Option Value), p + m = (flat A).length → PMF N N1 → MP N1 (outr en ce 0 0 p) → (∀ p i, R32 (N1 p i)) → pm_Wp none (d + 3) 185 25 [some (.ref 56), some (.int (zI i)), some (.int (zI ((flat A).length : Int))), some (.int (zI (p : Int))), x4, x5, x6] [] (zM N1, Rf, K, L, n, s) Q := by
    intro m
    induction m with
    | zero =>
      intro p N1 x4 x5 x6 hpm pf mp hM1
      have ep : p = (flat A).length := by omega
      subst ep
      rw [tot] at mp
      refine wp_iload_n d185_25 rfl ?_
      refine wp_iload_n d185_26 rfl ?_
      refine wz_icmp_ge (t := 205) d185_27 (by decide) ⟨by omega, by omega⟩ ⟨by omega, by omega⟩ (fun _ => ?_) (fun hb => absurd (by omega) hb)
      refine wp_aload_n d185_205 rfl ?_
      refine wz_getI (v := ((wrf 16 0 A).length : Int)) d185_206 rfl (hG.o (by decide) rfl) (by decide) (mp.1) ?_
      exact wp_ret d185_209 rfl (hh N1 pf mp hM1)
    | succ m ih =>
      intro p N1 x4 x5 x6 hpm pf mp hM1
      have hp : p < (flat A).length := by omega
      have hE := pf.en hE0
      obtain ⟨k1, k2, k3, k4, k5⟩ := hE.ce_le hp
      have hnx : outr en ce 0 0 (p + 1) = outr en ce 0 0 p ++ ((if p = 0 then [] else bfr en ce p) ++ (wh (bas en ce p 0 p) (ce p) ++ clr en ce p (p + 1) 0)) := by
        show outr en ce 0 0 p ++ outp en ce 0 (0 + p) = _
        rw [Nat.zero_add]
        rfl
      have hln := hmono (p + 1) (by omega)
      have hll := hln
      rw [hnx] at hll
      simp only [List.length_append] at hll
      -- closing
      have close : ∀ (k : Nat) (N2 : pm_M) (w2 : List Int) (x4 x6 : Option Value), k ≤ p + 1 → PMF N N2 → MP N2 w2 → (∀ p i, R32 (N2 p i)) → w2 ++ clr en ce p k 0 = outr en ce 0 0 (p + 1) → pm_Wp none (d + 3) 185 131 [some (.ref 56), some (.int (zI i)), some (.int (zI ((flat A).length : Int))), some (.int (zI (p : Int))), x4, some (.int (zI ((k : Int) - 1))), x6] [] (zM N2, Rf, K, L, n, s) Q := by
        intro k
        induction k with
        | zero =>
          intro N2 w2 x4 x6 hk pf2 mp2 hM2 ew
          refine wp_iload d185_131 rfl ?_
          refine wz_if_lt (t := 199) d185_133 (by decide) ⟨by omega, by omega⟩ (fun _ => ?_) (fun hb => absurd (by omega) hb)
          refine wz_iinc d185_199 rfl rfl ?_
          refine wp_goto (t := 25) d185_202 (by decide) ?_
          have ew : w2 ++ [] = _ := ew
          rw [List.append_nil] at ew
          rw [ew] at mp2
          rw [show (p : Int) + 1 = ((p + 1 : Nat) : Int) by omega]
          exact ih (p + 1) N2 _ _ _ (by omega) pf2 mp2 hM2
        | succ k ihk =>
          intro N2 w2 x4 x6 hk pf2 mp2 hM2 ew
          have ew : w2 ++ (c1 en ce p (0 + k) ++ clr en ce p k 0) = _ := ew
          rw [Nat.zero_add] at ew
          have hE2 := pf2.en hE0
          obtain ⟨c1', c2', c3', c4', -⟩ := hE2.ce_le (j := k) (by omega)
          have ell := hln
          rw [← ew] at ell
          simp only [List.length_append] at ell
          rw [show ((k + 1 : Nat) : Int) - 1 = (k : Int) by omega]
          have nope : c1 en ce p k = [] → ∀ x6 : Option Value, pm_Wp none (d + 3) 185 193 [some (.ref 56), some (.int (zI i)), some (.int (zI ((flat A).length : Int))), some (.int (zI (p : Int))), x4, some (.int (zI (k : Int))), x6] [] (zM N2, Rf, K, L, n, s) Q := by
            intro e0 x6
            rw [e0, List.nil_append] at ew
            refine wz_iinc d185_193 rfl rfl ?_
            refine wp_goto (t := 131) d185_196 (by decide) ?_
            exact ihk N2 w2 x4 x6 (by omega) pf2 mp2 hM2 ew
          refine wp_iload d185_131 rfl ?_
          refine wz_if_lt (t := 199) d185_133 (by decide) ⟨by omega, by omega⟩ (fun hb => absurd hb (by omega)) (fun _ => ?_)
          refine wp_aload_n d185_136 rfl ?_
          refine wp_iload_n d185_137 rfl ?_
          refine wp_iload d185_138 rfl ?_
          refine wp_virt (as := [.int (zI (k : Int)), .int (zI i)]) (rest := []) d185_140 rfl rfl rfl (hG.o (by decide) rfl) rfl rfl (Nat.le_of_ble_eq_true rfl) ?_
          refine m_cellE hG i0 (by omega) hE2 (by omega) lA ?_
          refine wp_istore d185_143 (Nat.le_of_ble_eq_true rfl) rfl ?_
          refine wp_aload_n d185_145 rfl ?_
          refine wp_iload_n d185_146 rfl ?_
          refine wp_iload d185_147 rfl ?_
          refine wp_virt (as := [.int (zI (k : Int)), .int (zI i)]) (rest := []) d185_149 rfl rfl rfl (hG.o (by decide) rfl) rfl rfl (Nat.le_of_ble_eq_true rfl) ?_
          refine m_endE hG hM2 i0 (by omega) hE2 (j := k) (by omega) lA ?_
          refine wp_iload_n d185_152 rfl ?_
          refine wz_iconst d185_153 ?_
          refine wz_iadd d185_154 ?_
          have ec : c1 en ce p k = if en k = p + 1 then wend (ce k) else [] := rfl
          unfold wend at ec
          refine wz_icmp_ne (t := 193) d185_155 (by decide) ⟨by omega, by omega⟩ ⟨by omega, by omega⟩ (fun he => ?_) (fun he => ?_)
          · skip
            exact nope (ec.trans (if_neg (by omega))) _
          rw [if_pos (show en k = p + 1 by omega)] at ec
          refine wp_iload d185_158 rfl ?_
          refine wz_if_eq (t := 193) d185_160 (by decide) ⟨by omega, by omega⟩ (fun h0 => ?_) (fun h0 => ?_)
          · skip
            exact nope (ec.trans (by rw [if_neg (by omega), if_neg (by omega)])) _
          refine wp_iload d185_163 rfl ?_
          refine wz_iconst d185_165 ?_
          refine wz_icmp_eq (t := 193) d185_166 (by decide) ⟨by omega, by omega⟩ ⟨by omega, by omega⟩ (fun h22 => ?_) (fun h22 => ?_)
          · skip
            exact nope (ec.trans (by rw [if_neg (by omega), if_neg (by omega)])) _
          refine wp_iload d185_169 rfl ?_
          refine wz_bipush d185_171 (by decide) ?_
          refine wz_icmp_ge (t := 193) d185_173 (by decide) ⟨by omega, by omega⟩ ⟨by omega, by omega⟩ (fun h16 => ?_) (fun h16 => ?_)
          · skip
            exact nope (ec.trans (by rw [if_neg (by omega), if_neg (by omega)])) _
          refine wp_aload_n d185_176 rfl ?_
          refine wp_iload d185_177 rfl ?_
          refine wz_iconst d185_179 ?_
          refine wz_icmp_ne (t := 188) d185_180 (by decide) ⟨by omega, by omega⟩ ⟨by omega, by omega⟩ (fun h1f => ?_) (fun h1f => ?_)
          · skip
            rw [if_neg (show ¬ ce k = 1 by omega), if_pos (show 8 ≤ ce k ∧ ce k < 16 by omega)] at ec
            refine wz_bipush d185_188 (by decide) ?_
            refine wp_virt (as := [.int (zI 93)]) (rest := []) d185_190 rfl rfl rfl (hG.o (by decide) rfl) rfl rfl (Nat.le_of_ble_eq_true rfl) ?_
            refine m_putE hG hM2 mp2 (by rw [ec] at ell; simp only [List.length_cons, List.length_nil] at ell; omega) ⟨by omega, by omega⟩ (fun N3 pf3 mp3 hM3 => ?_)
            refine wz_iinc d185_193 rfl rfl ?_
            refine wp_goto (t := 131) d185_196 (by decide) ?_
            exact ihk N3 _ x4 _ (by omega) (pf2.trans pf3) mp3 hM3 (by rw [← ew, ec, List.append_assoc])
          · skip
            rw [if_pos (show ce k = 1 by omega)] at ec
            refine wz_bipush d185_183 (by decide) ?_
            refine wp_goto (t := 190) d185_185 (by decide) ?_
            refine wp_virt (as := [.int (zI 41)]) (rest := []) d185_190 rfl rfl rfl (hG.o (by decide) rfl) rfl rfl (Nat.le_of_ble_eq_true rfl) ?_
            refine m_putE hG hM2 mp2 (by rw [ec] at ell; simp only [List.length_cons, List.length_nil] at ell; omega) ⟨by omega, by omega⟩ (fun N3 pf3 mp3 hM3 => ?_)
            refine wz_iinc d185_193 rfl rfl ?_
            refine wp_goto (t := 131) d185_196 (by decide) ?_
            exact ihk N3 _ x4 _ (by omega) (pf2.trans pf3) mp3 hM3 (by rw [← ew, ec, List.append_assoc])
      -- from the code on
      have body : ∀ (N2 : pm_M) (w2 : List Int) (x4 x5 x6 : Option Value), PMF N N2 → MP N2 w2 → (∀ p i, R32 (N2 p i)) → w2 ++ (wh (bas en ce p 0 p) (ce p) ++ clr en ce p (p + 1) 0) = outr en ce 0 0 (p + 1) → pm_Wp none (d + 3) 185 40 [some (.ref 56), some (.int (zI i)), some (.int (zI ((flat A).length : Int))), some (.int (zI (p : Int))), x4, x5, x6] [] (zM N2, Rf, K, L, n, s) Q := by
        intro N2 w2 x4 x5 x6 pf2 mp2 hM2 ew
        have hE2 := pf2.en hE0
        have ell := hln
        rw [← ew] at ell
        simp only [List.length_append] at ell
        refine wp_aload_n d185_40 rfl ?_
        refine wp_iload_n d185_41 rfl ?_
        refine wp_iload_n d185_42 rfl ?_
        refine wp_virt (as := [.int (zI (p : Int)), .int (zI i)]) (rest := []) d185_43 rfl rfl rfl (hG.o (by decide) rfl) rfl rfl (Nat.le_of_ble_eq_true rfl) ?_
        refine m_cellE hG i0 (by omega) hE2 hp lA ?_
        refine wp_istore d185_46 (Nat.le_of_ble_eq_true rfl) rfl ?_
        refine wp_iload d185_48 rfl ?_
        refine wz_iconst d185_50 ?_
        have single : ∀ (c : Int) (x4 x5 x6 : Option Value), R32 c → wh (bas en ce p 0 p) (ce p) = [c] → pm_Wp none (d + 3) 185 125 [some (.ref 56), some (.int (zI i)), some (.int (zI ((flat A).length : Int))), some (.int (zI (p : Int))), x4, x5, x6] [.int (zI c), .ref 56] (zM N2, Rf, K, L, n, s) Q := by
          intro c x4 x5 x6 rc eh
          rw [eh] at ew ell
          refine wp_virt (as := [.int (zI c)]) (rest := []) d185_125 rfl rfl rfl (hG.o (by decide) rfl) rfl rfl (Nat.le_of_ble_eq_true rfl) ?_
          refine m_putE hG hM2 mp2 (by simp only [List.length_cons, List.length_nil] at ell; omega) rc (fun N3 pf3 mp3 hM3 => ?_)
          refine wp_iload_n d185_128 rfl ?_
          refine wp_istore d185_129 (Nat.le_of_ble_eq_true rfl) rfl ?_
          rw [show (p : Int) = ((p + 1 : Nat) : Int) - 1 by omega]
          have q := close (p + 1) N3 _ x4 x6 (Nat.le_refl _) (pf2.trans pf3) mp3 hM3 (by rw [← ew, List.append_assoc])
          rw [show (p : Int) = ((p + 1 : Nat) : Int) - 1 by omega] at q
          exact q
        refine wz_icmp_ne (t := 83) d185_51 (by decide) ⟨by omega, by omega⟩ ⟨by omega, by omega⟩ (fun h2e => ?_) (fun h2e => ?_)
        rotate_left
        · skip
          have e2 : ce p = 2 := by omega
          have ehd : wh (bas en ce p 0 p) (ce p) = [60, 80 + (bas en ce p 0 p : Int), 58] := by rw [e2]; rfl
          rw [ehd] at ew ell
          simp only [List.length_cons, List.length_nil] at ell
          refine wp_aload_n d185_54 rfl ?_
          refine wz_bipush d185_55 (by decide) ?_
          refine wp_virt (as := [.int (zI 60)]) (rest := []) d185_57 rfl rfl rfl (hG.o (by decide) rfl) rfl rfl (Nat.le_of_ble_eq_true rfl) ?_
          refine m_putE hG hM2 mp2 (by omega) ⟨by omega, by omega⟩ (fun N3 pf3 mp3 hM3 => ?_)
          have pf13 := pf2.trans pf3
          refine wp_aload_n d185_60 rfl ?_
          refine wz_bipush d185_61 (by decide) ?_
          refine wp_aload_n d185_63 rfl ?_
          refine wp_iload_n d185_64 rfl ?_
          refine wz_iconst d185_65 ?_
          refine wp_iload_n d185_66 rfl ?_
          refine wp_virt (as := [.int (zI (p : Int)), .int (zI 0), .int (zI i)]) (rest := [.int (zI 80), .ref 56]) d185_67 rfl rfl rfl (hG.o (by decide) rfl) rfl rfl (Nat.le_of_ble_eq_true rfl) ?_
          have bl : ∀ k, bas en ce p 0 k ≤ k := by
            intro k
            induction k with
            | zero => exact Nat.le_refl _
            | succ k ih =>
              show bas en ce p 0 k + _ ≤ k + 1
              by_cases e : ce (0 + k) = 2 ∧ en (0 + k + 1) ≤ p ∧ p < en (0 + k)
              · rw [if_pos e]; omega
              · rw [if_neg e]; omega
          have bl2 := bl p
          refine m_binders (a := 0) (p := p) hG hM3 i0 (by omega) (pf13.en hE0) (Nat.zero_le _) hp lA ?_
          rw [Nat.sub_zero]
          refine wz_iadd d185_70 ?_
          refine wp_virt (as := [.int (zI (80 + (bas en ce p 0 p : Int)))]) (rest := []) d185_71 rfl rfl rfl (hG.o (by decide) rfl) rfl rfl (Nat.le_of_ble_eq_true rfl) ?_
          refine m_putE hG hM3 mp3 (by rw [List.length_append]; simp only [List.length_cons, List.length_nil]; omega) ⟨by omega, by omega⟩ (fun N4 pf4 mp4 hM4 => ?_)
          have pf14 := pf13.trans pf4
          refine wp_aload_n d185_74 rfl ?_
          refine wz_bipush d185_75 (by decide) ?_
          refine wp_virt (as := [.int (zI 58)]) (rest := []) d185_77 rfl rfl rfl (hG.o (by decide) rfl) rfl rfl (Nat.le_of_ble_eq_true rfl) ?_
          refine m_putE hG hM4 mp4 (by rw [List.length_append, List.length_append]; simp only [List.length_cons, List.length_nil]; omega) ⟨by omega, by omega⟩ (fun N5 pf5 mp5 hM5 => ?_)
          have pf15 := pf14.trans pf5
          refine wp_goto (t := 128) d185_80 (by decide) ?_
          refine wp_iload_n d185_128 rfl ?_
          refine wp_istore d185_129 (Nat.le_of_ble_eq_true rfl) rfl ?_
          have q := close (p + 1) N5 _ (some (.int (zI (ce p : Int)))) x6 (Nat.le_refl _) pf15 mp5 hM5 (by rw [← ew]; simp only [List.append_assoc, List.cons_append, List.nil_append])
          rw [show ((p + 1 : Nat) : Int) - 1 = (p : Int) by omega] at q
          exact q
        refine wp_aload_n d185_83 rfl ?_
        refine wp_iload d185_84 rfl ?_
        refine wz_if_ne (t := 94) d185_86 (by decide) ⟨by omega, by omega⟩ (fun h0 => ?_) (fun h0 => ?_)
        rotate_left
        · skip
          refine wz_bipush d185_89 (by decide) ?_
          refine wp_goto (t := 125) d185_91 (by decide) ?_
          exact single 84 _ _ _ ⟨by omega, by omega⟩ (by unfold wh; rw [if_pos (by omega)])
        refine wp_iload d185_94 rfl ?_
        refine wz_iconst d185_96 ?_
        refine wz_icmp_ne (t := 105) d185_97 (by decide) ⟨by omega, by omega⟩ ⟨by omega, by omega⟩ (fun h1 => ?_) (fun h1 => ?_)
        rotate_left
        · skip
          refine wz_bipush d185_100 (by decide) ?_
          refine wp_goto (t := 125) d185_102 (by decide) ?_
          exact single 40 _ _ _ ⟨by omega, by omega⟩ (by unfold wh; rw [if_neg (by omega), if_pos (by omega)])
        refine wp_iload d185_105 rfl ?_
        refine wz_bipush d185_107 (by decide) ?_
        refine wz_icmp_ge (t := 117) d185_109 (by decide) ⟨by omega, by omega⟩ ⟨by omega, by omega⟩ (fun h16 => ?_) (fun h16 => ?_)
        rotate_left
        · skip
          refine wz_bipush d185_112 (by decide) ?_
          refine wp_goto (t := 125) d185_114 (by decide) ?_
          exact single 91 _ _ _ ⟨by omega, by omega⟩ (by unfold wh; rw [if_neg (by omega), if_neg (by omega), if_neg (by omega), if_pos (by omega)])
        refine wz_bipush d185_117 (by decide) ?_
        refine wp_iload d185_119 rfl ?_
        refine wz_iadd d185_121 ?_
        refine wz_bipush d185_122 (by decide) ?_
        refine wz_isub d185_124 ?_
        exact single _ _ _ _ ⟨by omega, by omega⟩ (by unfold wh; rw [if_neg (by omega), if_neg (by omega), if_neg (by omega), if_neg (by omega), show (80 : Int) + (ce p : Int) - 16 = 80 + ((ce p - 16 : Nat) : Int) by omega])
      refine wp_iload_n d185_25 rfl ?_
      refine wp_iload_n d185_26 rfl ?_
      refine wz_icmp_ge (t := 205) d185_27 (by decide) ⟨by omega, by omega⟩ ⟨by omega, by omega⟩ (fun hb => absurd hb (by omega)) (fun _ => ?_)
      refine wp_iload_n d185_30 rfl ?_
      refine wz_if_le (t := 40) d185_31 (by decide) ⟨by omega, by omega⟩ (fun hp0 => ?_) (fun hp0 => ?_)
      · skip
        have e0 : p = 0 := by omega
        refine body N1 _ _ _ _ pf mp hM1 ?_
        rw [hnx, if_pos e0, List.nil_append]
      · skip
        refine wp_aload_n d185_34 rfl ?_
        refine wp_iload_n d185_35 rfl ?_
        refine wp_iload_n d185_36 rfl ?_
        refine wp_virt (as := [.int (zI (p : Int)), .int (zI i)]) (rest := []) d185_37 rfl rfl rfl (hG.o (by decide) rfl) rfl rfl (Nat.le_of_ble_eq_true rfl) ?_
        rw [if_neg (show ¬ p = 0 by omega)] at hnx hll
        refine m_before hG hM1 i0 (by omega) hE en0 (by omega) hp lA mp (by omega) (fun N2 pf2 mp2 hM2 => ?_)
        exact body N2 _ _ _ _ (pf.trans pf2) mp2 hM2 (by rw [hnx, List.append_assoc])
  refine wp_aload_n d185_11 rfl ?_
  refine wz_iconst d185_12 ?_
  refine wz_putI (i := 2) d185_13 rfl (hG.o (by decide) rfl) rfl (by decide) rfl ?_
  refine wp_aload_n d185_16 rfl ?_
  refine wp_iload_n d185_17 rfl ?_
  refine wz_iconst d185_18 ?_
  refine wp_virt (as := [.int (zI 0), .int (zI i)]) (rest := []) d185_19 rfl rfl rfl (hG.o (by decide) rfl) rfl rfl (Nat.le_of_ble_eq_true rfl) ?_
  have hE1 := pf0.en hE0
  refine m_endE (j := 0) hG hM0 i0 (by omega) hE1 (by omega) lA ?_
  rw [en0]
  refine wp_istore_n d185_22 (Nat.le_of_ble_eq_true rfl) rfl ?_
  refine wz_iconst d185_23 ?_
  refine wp_istore_n d185_24 (Nat.le_of_ble_eq_true rfl) rfl ?_
  exact main (flat A).length 0 _ _ _ _ (by omega) pf0 mp0 hM0
end PmM27
