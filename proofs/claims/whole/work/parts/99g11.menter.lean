/-! THE MODEL: a term is entered, kind by kind. -/
theorem nxl_0 : nxl 0 0 = 3 := by decide
theorem nxl_1 : ∀ m, m < 8 → m ≠ 0 → nxl m 0 < 3 := by decide
theorem bit_0 : ∀ g, g < 3 → bit 0 g = false := by decide
theorem it64_s {N : pm_M} : ∀ (q : Nat) (s : Int), N 64 (it64 N q s) = it64 N (q + 1) s
  | 0, s => rfl
  | q + 1, s => it64_s q (N 64 s)
theorem fnd_nn {k : Nat} {c : Int} : ∀ ch : List (Nat × Int × Nat), ¬ fnd k c ch = some []
  | [], h => by cases h
  | x :: r, h => by
    have h : (if x.1 = k ∧ x.2.1 = c then some (x :: r) else fnd k c r) = some [] := h
    by_cases e : x.1 = k ∧ x.2.1 = c
    · rw [if_pos e] at h; cases h
    · rw [if_neg e] at h; exact fnd_nn r h
theorem fnd_bnr0 {c : Int} : ∀ ch : List (Nat × Int × Nat), fnd 1 c ch = none → bnr ch c = none
  | [], _ => rfl
  | x :: r, h => by
    have h : (if x.1 = 1 ∧ x.2.1 = c then some (x :: r) else fnd 1 c r) = none := h
    show (if x.1 = 1 ∧ x.2.1 = c then some x.2.2 else bnr r c) = none
    by_cases e : x.1 = 1 ∧ x.2.1 = c
    · rw [if_pos e] at h; cases h
    · rw [if_neg e] at h ⊢; exact fnd_bnr0 r h
section PmG11
variable {d : Nat} {Q : Option Value → pm_S → Prop} {N : pm_M} {Rf : Nat → Nat → Nat} {K L : Nat → Nat} {n s0 : Nat} {a b st : Nat} {t ρ : Ty} {k : List Fr} {mb : Int}
theorem m_enter5 (hG : pm_G Rf K L n) (hM : ∀ p i, R32 (N p i)) (a6 : a ≤ 60) (b6 : b ≤ 60) (st6 : st ≤ 60) (mb1 : mb = 0 ∨ mb = 1) (cr : CR N a b st (.inl (t, ρ, k))) (hk : nKd t = 5) (h : ∀ c' N', mv (.inl (t, ρ, k)) = some (false, c') → (∀ p i, R32 (N' p i)) → MKr N N' → CR N' a b st c' → Q (some (.int (zI 1))) (zM N', Rf, K, L, n, s0)) : pm_Wc (d + 3) 203 [.ref 56, .int (zI mb)] (zM N, Rf, K, L, n, s0) Q := by
  obtain ⟨vs, es, fr, H, c0, hh, cb, fs, e49, j, s, ch, e46, nv, ea⟩ := cr
  have br : BR N a b st vs es fr H k (pnd t + pdK k) := ⟨c0, hh, cb, fs⟩
  have cb2 : vs + (pnd t + pdK k) ≤ 60 + 60 * st := cb.2.1
  have cb3 : fr + (pnd t + pdK k) ≤ 60 + 60 * st := cb.2.2
  have ks := nv.kd
  have kd := ks.2.1
  have jl := nv.lt
  have pt1 := pnd_is nv.sp
  have mk := nv.mk
  have r47 := hM 56 47
  obtain ⟨na, nb⟩ := mk.1 hk
  have ns := ks.2.2.2.1
  have sch := ks.2.2.2.2
  have hD : DCl (lch ch) := by obtain ⟨F, D, n1, n2, n3, n4⟩ := nv; exact n4
  have e4 : es ≤ 4000 := by have := cb.1; omega
  refine wc_in (ls0 := [some (.ref 56), some (.int (zI mb)), none, none, none]) (by decide) (Nat.le_of_ble_eq_true rfl) rfl rfl ?_
  refine wp_aload_n d203_0 rfl ?_
  refine wp_getR (q := 59) d203_1 rfl (hG.o (by decide) rfl) (by decide) (hG.r (by decide +kernel)) (by decide) ?_
  refine wp_aload_n d203_4 rfl ?_
  refine wz_getI (v := (j : Int)) d203_5 rfl (hG.o (by decide) rfl) (by decide) (e46) ?_
  refine wz_iald (z := 128) (v := 5) d203_8 (hG.a (by decide) rfl rfl) (by omega) (by omega) (by decide) (by rw [kd, hk]; rfl) ?_
  refine wp_istore_n d203_9 (Nat.le_of_ble_eq_true rfl) rfl ?_
  refine wp_iload_n d203_10 rfl ?_
  refine wz_bipush d203_11 (by decide) ?_
  refine wz_icmp_ne (t := 69) d203_13 (by decide) ⟨by omega, by omega⟩ ⟨by omega, by omega⟩ (fun _ => ?_) (fun hb => absurd hb (by omega))
  refine wp_iload_n d203_69 rfl ?_
  refine wz_iconst d203_70 ?_
  refine wz_icmp_ne (t := 141) d203_71 (by decide) ⟨by omega, by omega⟩ ⟨by omega, by omega⟩ (fun hb => absurd (by omega) hb) (fun _ => ?_)
  refine wp_aload_n d203_74 rfl ?_
  refine wp_aload_n d203_75 rfl ?_
  refine wp_getR (q := 62) d203_76 rfl (hG.o (by decide) rfl) (by decide) (hG.r (by decide +kernel)) (by decide) ?_
  refine wp_aload_n d203_79 rfl ?_
  refine wz_getI (v := (j : Int)) d203_80 rfl (hG.o (by decide) rfl) (by decide) (e46) ?_
  refine wz_iald (z := 128) (v := s) d203_83 (hG.a (by decide) rfl rfl) (by omega) (by omega) (by decide) (ns) ?_
  refine wz_iconst d203_84 ?_
  refine wp_aload_n d203_85 rfl ?_
  refine wp_getR (q := 60) d203_86 rfl (hG.o (by decide) rfl) (by decide) (hG.r (by decide +kernel)) (by decide) ?_
  refine wp_aload_n d203_89 rfl ?_
  refine wz_getI (v := (j : Int)) d203_90 rfl (hG.o (by decide) rfl) (by decide) (e46) ?_
  refine wz_iald (z := 128) (v := N 60 (j : Int)) d203_93 (hG.a (by decide) rfl rfl) (by omega) (by omega) (by decide) (rfl) ?_
  refine wp_virt (as := [.int (zI (N 60 (j : Int))), .int (zI 1), .int (zI s)]) (rest := []) d203_94 rfl rfl rfl (hG.o (by decide) rfl) rfl rfl (Nat.le_of_ble_eq_true rfl) ?_
  refine wc_deep (show d + 1 + 1 ≤ d + 2 by omega) ?_
  refine m_binderP (P := fun u c => ∃ q, u = it64 N q s ∧ c = ch.drop q) (fun u x r hq => ?_) (k := 1) hG hM sch ⟨0, rfl, rfl⟩ (by omega) (by omega) na (fun ch' bs hf _ hq => ?_) (fun hn => ?_)
  · obtain ⟨q, q1, q2⟩ := hq
    refine ⟨q + 1, ?_, ?_⟩
    · rw [q1]; exact it64_s q s
    · rw [← List.drop_drop, ← q2]; rfl
  · obtain ⟨q, q1, q2⟩ := hq
    have ec : N 60 (j : Int) + lowc 1 = 97 + N 60 (j : Int) := by show N 60 (j : Int) + 97 = _; omega
    rw [ec, q2] at hf
    have ql : q < ch.length := by
      by_cases c : q < ch.length
      · exact c
      · rw [List.drop_eq_nil_of_le (by omega)] at hf
        exact absurd hf (fnd_nn ch)
    refine wp_istore_n d203_97 (Nat.le_of_ble_eq_true rfl) rfl ?_
    refine wp_aload_n d203_98 rfl ?_
    refine wz_getI (v := N 56 47) d203_99 rfl (hG.o (by decide) rfl) (by decide) (rfl) ?_
    refine wp_istore d203_102 (Nat.le_of_ble_eq_true rfl) rfl ?_
    obtain ⟨v, ev, lp⟩ := env_loop (d := d + 2) (Q := Q) (Rf := Rf) (K := K) (L := L) (n := n) (s0 := s0) (mb := mb) hG hM e4 ch ρ (N 56 47) s q ea sch hD hf ql q1.symm nb
    refine lp (fun e' e0 e1 hv => ?_)
    refine wp_aload_n d203_127 rfl ?_
    refine wp_aload_n d203_128 rfl ?_
    refine wp_getR (q := 88) d203_129 rfl (hG.o (by decide) rfl) (by decide) (hG.r (by decide +kernel)) (by decide) ?_
    refine wp_iload d203_132 rfl ?_
    refine wz_iald (z := 4000) (v := N 88 e') d203_134 (hG.a (by decide) rfl rfl) (by omega) (by omega) (by decide) (rfl) ?_
    refine wp_virt (as := [.int (zI (N 88 e'))]) (rest := []) d203_135 rfl rfl rfl (hG.o (by decide) rfl) rfl rfl (Nat.le_of_ble_eq_true rfl) ?_
    refine wc_deep (show d + 1 + 1 ≤ d + 2 by omega) ?_
    refine m_answer hG ?_
    show pm_Wp none (d + 2) 203 138 [some (.ref 56), some (.int (zI mb)), some (.int (zI 5)), some (.int (zI bs)), some (.int (zI e'))] [] (zM (mAns N (N 88 e')), Rf, K, L, n, s0) Q
    refine wp_goto (t := 258) d203_138 (by decide) ?_
    refine wz_iconst d203_258 ?_
    have b2 := br.same (N' := mAns N (N 88 e')) (st' := st) (pc' := pdK k) (fun p i hp => mAns_o hp) (by omega) (Nat.le_refl _)
    exact wp_ret d203_259 rfl (h (.inr (v, k)) (mAns N (N 88 e')) (mv_5 hk ev) (mAns_R32 hM (hM _ _)) (MKr.refl N).ans ⟨vs, es, fr, H, b2.1, b2.2.1, b2.2.2.1, b2.2.2.2, by show mset (mset N 56 48 _) 56 49 1 56 49 = 1; rw [mset_s], by show H (mset (mset N 56 48 _) 56 49 1 56 48) = some v; rw [mset_i' (by omega), mset_s]; exact hv⟩)
  · exfalso
    have ec : N 60 (j : Int) + lowc 1 = 97 + N 60 (j : Int) := by show N 60 (j : Int) + 97 = _; omega
    rw [ec] at hn
    rw [fnd_bnr0 ch hn] at nb
    cases nb
theorem m_enter6 (hG : pm_G Rf K L n) (hM : ∀ p i, R32 (N p i)) (a6 : a ≤ 60) (b6 : b ≤ 60) (st6 : st ≤ 60) (mb1 : mb = 0 ∨ mb = 1) (cr : CR N a b st (.inl (t, ρ, k))) (hk : nKd t = 6) (h : ∀ c' N', mv (.inl (t, ρ, k)) = some (false, c') → (∀ p i, R32 (N' p i)) → MKr N N' → CR N' a b st c' → Q (some (.int (zI 1))) (zM N', Rf, K, L, n, s0)) : pm_Wc (d + 3) 203 [.ref 56, .int (zI mb)] (zM N, Rf, K, L, n, s0) Q := by
  obtain ⟨vs, es, fr, H, c0, hh, cb, fs, e49, j, s, ch, e46, nv, ea⟩ := cr
  have br : BR N a b st vs es fr H k (pnd t + pdK k) := ⟨c0, hh, cb, fs⟩
  have cb2 : vs + (pnd t + pdK k) ≤ 60 + 60 * st := cb.2.1
  have cb3 : fr + (pnd t + pdK k) ≤ 60 + 60 * st := cb.2.2
  have ks := nv.kd
  have kd := ks.2.1
  have jl := nv.lt
  have pt1 := pnd_is nv.sp
  have mk := nv.mk
  have r47 := hM 56 47
  refine wc_in (ls0 := [some (.ref 56), some (.int (zI mb)), none, none, none]) (by decide) (Nat.le_of_ble_eq_true rfl) rfl rfl ?_
  refine wp_aload_n d203_0 rfl ?_
  refine wp_getR (q := 59) d203_1 rfl (hG.o (by decide) rfl) (by decide) (hG.r (by decide +kernel)) (by decide) ?_
  refine wp_aload_n d203_4 rfl ?_
  refine wz_getI (v := (j : Int)) d203_5 rfl (hG.o (by decide) rfl) (by decide) (e46) ?_
  refine wz_iald (z := 128) (v := 6) d203_8 (hG.a (by decide) rfl rfl) (by omega) (by omega) (by decide) (by rw [kd, hk]; rfl) ?_
  refine wp_istore_n d203_9 (Nat.le_of_ble_eq_true rfl) rfl ?_
  refine wp_iload_n d203_10 rfl ?_
  refine wz_bipush d203_11 (by decide) ?_
  refine wz_icmp_ne (t := 69) d203_13 (by decide) ⟨by omega, by omega⟩ ⟨by omega, by omega⟩ (fun _ => ?_) (fun hb => absurd hb (by omega))
  refine wp_iload_n d203_69 rfl ?_
  refine wz_iconst d203_70 ?_
  refine wz_icmp_ne (t := 141) d203_71 (by decide) ⟨by omega, by omega⟩ ⟨by omega, by omega⟩ (fun _ => ?_) (fun hb => absurd hb (by omega))
  refine wp_iload_n d203_141 rfl ?_
  refine wz_bipush d203_142 (by decide) ?_
  refine wz_icmp_eq (t := 153) d203_144 (by decide) ⟨by omega, by omega⟩ ⟨by omega, by omega⟩ (fun _ => ?_) (fun hb => absurd (by omega) hb)
  refine wp_aload_n d203_153 rfl ?_
  refine wp_aload_n d203_154 rfl ?_
  refine wp_iload_n d203_155 rfl ?_
  refine wp_aload_n d203_156 rfl ?_
  refine wz_getI (v := (j : Int)) d203_157 rfl (hG.o (by decide) rfl) (by decide) (e46) ?_
  refine wp_aload_n d203_160 rfl ?_
  refine wz_getI (v := N 56 47) d203_161 rfl (hG.o (by decide) rfl) (by decide) (rfl) ?_
  refine wp_virt (as := [.int (zI (N 56 47)), .int (zI (j : Int)), .int (zI 6)]) (rest := [.ref 56]) d203_164 rfl rfl rfl (hG.o (by decide) rfl) rfl rfl (Nat.le_of_ble_eq_true rfl) ?_
  refine wc_deep (show d + 1 + 1 ≤ d + 2 by omega) ?_
  refine m_keep (vs := (vs : Int)) hG c0.1 (by omega) (by omega) ?_
  rw [show (vs : Int) + 1 - 1 = vs by omega]
  show pm_Wp none (d + 2) 203 167 [some (.ref 56), some (.int (zI mb)), some (.int (zI 6)), none, none] [.int (zI (vs : Int)), .ref 56] (zM (mKeep N vs 6 j (N 56 47)), Rf, K, L, n, s0) Q
  refine wp_virt (as := [.int (zI (vs : Int))]) (rest := []) d203_167 rfl rfl rfl (hG.o (by decide) rfl) rfl rfl (Nat.le_of_ble_eq_true rfl) ?_
  refine wc_deep (show d + 1 + 1 ≤ d + 2 by omega) ?_
  refine m_answer hG ?_
  show pm_Wp none (d + 2) 203 170 [some (.ref 56), some (.int (zI mb)), some (.int (zI 6)), none, none] [] (zM (mAns (mKeep N vs 6 j (N 56 47)) vs), Rf, K, L, n, s0) Q
  refine wp_goto (t := 258) d203_170 (by decide) ?_
  refine wz_iconst d203_258 ?_
  have hup : Hup H (vs : Int) (vC t ρ) (vs : Int) = some (vC t ρ) := by unfold Hup; rw [if_pos rfl]
  have vc : VCe (mKeep N vs 6 j (N 56 47)) a b es (Hup H vs (vC t ρ)) (vs : Int) (vC t ρ) := Or.inl ⟨t, ρ, j, s, ch, rfl, by omega, by rw [mKeep_90, hk]; rfl, mKeep_91, nv.keep (Kpm.keep (H := H) (es := es)).1, by rw [mKeep_92]; exact ea.keep (Kpm.keep (vs := vs) (H := H) (es := es)).1 (Kpm.keep (vs := vs) (H := H) (es := es)).2.1 (Hup.le hh.fresh) (Nat.le_refl _)⟩
  have b1 := br.val (pc' := pdK k) (by omega) vc
  have b2 := b1.same (N' := mAns (mKeep N vs 6 j (N 56 47)) vs) (st' := st) (pc' := pdK k) (fun p i hp => mAns_o hp) (by omega) (Nat.le_refl _)
  exact wp_ret d203_259 rfl (h (.inr (vC t ρ, k)) _ (mv_6 (by omega)) (mAns_R32 (mKeep_R32 hM ⟨by omega, by omega⟩ ⟨by omega, by omega⟩ ⟨by omega, by omega⟩ r47) ⟨by omega, by omega⟩) (MKr.refl N).kp.ans ⟨vs + 1, es, fr, _, b2.1, b2.2.1, b2.2.2.1, b2.2.2.2, by show mset (mset _ 56 48 _) 56 49 1 56 49 = 1; rw [mset_s], by show Hup H vs (vC t ρ) (mset (mset _ 56 48 _) 56 49 1 56 48) = _; rw [mset_i' (by omega), mset_s]; exact hup⟩)
theorem m_enter8 (hG : pm_G Rf K L n) (hM : ∀ p i, R32 (N p i)) (a6 : a ≤ 60) (b6 : b ≤ 60) (st6 : st ≤ 60) (mb1 : mb = 0 ∨ mb = 1) (cr : CR N a b st (.inl (t, ρ, k))) (hk : nKd t = 8) (h : ∀ c' N', mv (.inl (t, ρ, k)) = some (false, c') → (∀ p i, R32 (N' p i)) → MKr N N' → CR N' a b st c' → Q (some (.int (zI 1))) (zM N', Rf, K, L, n, s0)) : pm_Wc (d + 3) 203 [.ref 56, .int (zI mb)] (zM N, Rf, K, L, n, s0) Q := by
  obtain ⟨vs, es, fr, H, c0, hh, cb, fs, e49, j, s, ch, e46, nv, ea⟩ := cr
  have br : BR N a b st vs es fr H k (pnd t + pdK k) := ⟨c0, hh, cb, fs⟩
  have cb2 : vs + (pnd t + pdK k) ≤ 60 + 60 * st := cb.2.1
  have cb3 : fr + (pnd t + pdK k) ≤ 60 + 60 * st := cb.2.2
  have ks := nv.kd
  have kd := ks.2.1
  have jl := nv.lt
  have pt1 := pnd_is nv.sp
  have mk := nv.mk
  have r47 := hM 56 47
  refine wc_in (ls0 := [some (.ref 56), some (.int (zI mb)), none, none, none]) (by decide) (Nat.le_of_ble_eq_true rfl) rfl rfl ?_
  refine wp_aload_n d203_0 rfl ?_
  refine wp_getR (q := 59) d203_1 rfl (hG.o (by decide) rfl) (by decide) (hG.r (by decide +kernel)) (by decide) ?_
  refine wp_aload_n d203_4 rfl ?_
  refine wz_getI (v := (j : Int)) d203_5 rfl (hG.o (by decide) rfl) (by decide) (e46) ?_
  refine wz_iald (z := 128) (v := 8) d203_8 (hG.a (by decide) rfl rfl) (by omega) (by omega) (by decide) (by rw [kd, hk]; rfl) ?_
  refine wp_istore_n d203_9 (Nat.le_of_ble_eq_true rfl) rfl ?_
  refine wp_iload_n d203_10 rfl ?_
  refine wz_bipush d203_11 (by decide) ?_
  refine wz_icmp_ne (t := 69) d203_13 (by decide) ⟨by omega, by omega⟩ ⟨by omega, by omega⟩ (fun _ => ?_) (fun hb => absurd hb (by omega))
  refine wp_iload_n d203_69 rfl ?_
  refine wz_iconst d203_70 ?_
  refine wz_icmp_ne (t := 141) d203_71 (by decide) ⟨by omega, by omega⟩ ⟨by omega, by omega⟩ (fun _ => ?_) (fun hb => absurd hb (by omega))
  refine wp_iload_n d203_141 rfl ?_
  refine wz_bipush d203_142 (by decide) ?_
  refine wz_icmp_eq (t := 153) d203_144 (by decide) ⟨by omega, by omega⟩ ⟨by omega, by omega⟩ (fun hb => absurd hb (by omega)) (fun _ => ?_)
  refine wp_iload_n d203_147 rfl ?_
  refine wz_bipush d203_148 (by decide) ?_
  refine wz_icmp_ne (t := 173) d203_150 (by decide) ⟨by omega, by omega⟩ ⟨by omega, by omega⟩ (fun hb => absurd (by omega) hb) (fun _ => ?_)
  refine wp_aload_n d203_153 rfl ?_
  refine wp_aload_n d203_154 rfl ?_
  refine wp_iload_n d203_155 rfl ?_
  refine wp_aload_n d203_156 rfl ?_
  refine wz_getI (v := (j : Int)) d203_157 rfl (hG.o (by decide) rfl) (by decide) (e46) ?_
  refine wp_aload_n d203_160 rfl ?_
  refine wz_getI (v := N 56 47) d203_161 rfl (hG.o (by decide) rfl) (by decide) (rfl) ?_
  refine wp_virt (as := [.int (zI (N 56 47)), .int (zI (j : Int)), .int (zI 8)]) (rest := [.ref 56]) d203_164 rfl rfl rfl (hG.o (by decide) rfl) rfl rfl (Nat.le_of_ble_eq_true rfl) ?_
  refine wc_deep (show d + 1 + 1 ≤ d + 2 by omega) ?_
  refine m_keep (vs := (vs : Int)) hG c0.1 (by omega) (by omega) ?_
  rw [show (vs : Int) + 1 - 1 = vs by omega]
  show pm_Wp none (d + 2) 203 167 [some (.ref 56), some (.int (zI mb)), some (.int (zI 8)), none, none] [.int (zI (vs : Int)), .ref 56] (zM (mKeep N vs 8 j (N 56 47)), Rf, K, L, n, s0) Q
  refine wp_virt (as := [.int (zI (vs : Int))]) (rest := []) d203_167 rfl rfl rfl (hG.o (by decide) rfl) rfl rfl (Nat.le_of_ble_eq_true rfl) ?_
  refine wc_deep (show d + 1 + 1 ≤ d + 2 by omega) ?_
  refine m_answer hG ?_
  show pm_Wp none (d + 2) 203 170 [some (.ref 56), some (.int (zI mb)), some (.int (zI 8)), none, none] [] (zM (mAns (mKeep N vs 8 j (N 56 47)) vs), Rf, K, L, n, s0) Q
  refine wp_goto (t := 258) d203_170 (by decide) ?_
  refine wz_iconst d203_258 ?_
  have hup : Hup H (vs : Int) (vC t ρ) (vs : Int) = some (vC t ρ) := by unfold Hup; rw [if_pos rfl]
  have vc : VCe (mKeep N vs 8 j (N 56 47)) a b es (Hup H vs (vC t ρ)) (vs : Int) (vC t ρ) := Or.inl ⟨t, ρ, j, s, ch, rfl, by omega, by rw [mKeep_90, hk]; rfl, mKeep_91, nv.keep (Kpm.keep (H := H) (es := es)).1, by rw [mKeep_92]; exact ea.keep (Kpm.keep (vs := vs) (H := H) (es := es)).1 (Kpm.keep (vs := vs) (H := H) (es := es)).2.1 (Hup.le hh.fresh) (Nat.le_refl _)⟩
  have b1 := br.val (pc' := pdK k) (by omega) vc
  have b2 := b1.same (N' := mAns (mKeep N vs 8 j (N 56 47)) vs) (st' := st) (pc' := pdK k) (fun p i hp => mAns_o hp) (by omega) (Nat.le_refl _)
  exact wp_ret d203_259 rfl (h (.inr (vC t ρ, k)) _ (mv_6 (by omega)) (mAns_R32 (mKeep_R32 hM ⟨by omega, by omega⟩ ⟨by omega, by omega⟩ ⟨by omega, by omega⟩ r47) ⟨by omega, by omega⟩) (MKr.refl N).kp.ans ⟨vs + 1, es, fr, _, b2.1, b2.2.1, b2.2.2.1, b2.2.2.2, by show mset (mset _ 56 48 _) 56 49 1 56 49 = 1; rw [mset_s], by show Hup H vs (vC t ρ) (mset (mset _ 56 48 _) 56 49 1 56 48) = _; rw [mset_i' (by omega), mset_s]; exact hup⟩)
theorem m_enter7 (hG : pm_G Rf K L n) (hM : ∀ p i, R32 (N p i)) (a6 : a ≤ 60) (b6 : b ≤ 60) (st6 : st ≤ 60) (mb1 : mb = 0 ∨ mb = 1) (cr : CR N a b st (.inl (t, ρ, k))) (hk : nKd t = 7) (h : ∀ c' N', mv (.inl (t, ρ, k)) = some (false, c') → (∀ p i, R32 (N' p i)) → MKr N N' → CR N' a b st c' → Q (some (.int (zI 1))) (zM N', Rf, K, L, n, s0)) : pm_Wc (d + 3) 203 [.ref 56, .int (zI mb)] (zM N, Rf, K, L, n, s0) Q := by
  obtain ⟨vs, es, fr, H, c0, hh, cb, fs, e49, j, s, ch, e46, nv, ea⟩ := cr
  have br : BR N a b st vs es fr H k (pnd t + pdK k) := ⟨c0, hh, cb, fs⟩
  have cb2 : vs + (pnd t + pdK k) ≤ 60 + 60 * st := cb.2.1
  have cb3 : fr + (pnd t + pdK k) ≤ 60 + 60 * st := cb.2.2
  have ks := nv.kd
  have kd := ks.2.1
  have jl := nv.lt
  have pt1 := pnd_is nv.sp
  have mk := nv.mk
  have r47 := hM 56 47
  refine wc_in (ls0 := [some (.ref 56), some (.int (zI mb)), none, none, none]) (by decide) (Nat.le_of_ble_eq_true rfl) rfl rfl ?_
  refine wp_aload_n d203_0 rfl ?_
  refine wp_getR (q := 59) d203_1 rfl (hG.o (by decide) rfl) (by decide) (hG.r (by decide +kernel)) (by decide) ?_
  refine wp_aload_n d203_4 rfl ?_
  refine wz_getI (v := (j : Int)) d203_5 rfl (hG.o (by decide) rfl) (by decide) (e46) ?_
  refine wz_iald (z := 128) (v := 7) d203_8 (hG.a (by decide) rfl rfl) (by omega) (by omega) (by decide) (by rw [kd, hk]; rfl) ?_
  refine wp_istore_n d203_9 (Nat.le_of_ble_eq_true rfl) rfl ?_
  refine wp_iload_n d203_10 rfl ?_
  refine wz_bipush d203_11 (by decide) ?_
  refine wz_icmp_ne (t := 69) d203_13 (by decide) ⟨by omega, by omega⟩ ⟨by omega, by omega⟩ (fun _ => ?_) (fun hb => absurd hb (by omega))
  refine wp_iload_n d203_69 rfl ?_
  refine wz_iconst d203_70 ?_
  refine wz_icmp_ne (t := 141) d203_71 (by decide) ⟨by omega, by omega⟩ ⟨by omega, by omega⟩ (fun _ => ?_) (fun hb => absurd hb (by omega))
  refine wp_iload_n d203_141 rfl ?_
  refine wz_bipush d203_142 (by decide) ?_
  refine wz_icmp_eq (t := 153) d203_144 (by decide) ⟨by omega, by omega⟩ ⟨by omega, by omega⟩ (fun hb => absurd hb (by omega)) (fun _ => ?_)
  refine wp_iload_n d203_147 rfl ?_
  refine wz_bipush d203_148 (by decide) ?_
  refine wz_icmp_ne (t := 173) d203_150 (by decide) ⟨by omega, by omega⟩ ⟨by omega, by omega⟩ (fun _ => ?_) (fun hb => absurd hb (by omega))
  refine wp_iload_n d203_173 rfl ?_
  refine wz_bipush d203_174 (by decide) ?_
  refine wz_icmp_ne (t := 208) d203_176 (by decide) ⟨by omega, by omega⟩ ⟨by omega, by omega⟩ (fun _ => ?_) (fun hb => absurd hb (by omega))
  refine wp_aload_n d203_208 rfl ?_
  refine wp_iload_n d203_209 rfl ?_
  refine wp_iload_n d203_210 rfl ?_
  refine wz_bipush d203_211 (by decide) ?_
  refine wz_icmp_ne (t := 225) d203_213 (by decide) ⟨by omega, by omega⟩ ⟨by omega, by omega⟩ (fun _ => ?_) (fun hb => absurd hb (by omega))
  refine wp_aload_n d203_225 rfl ?_
  refine wz_getI (v := (j : Int)) d203_226 rfl (hG.o (by decide) rfl) (by decide) (e46) ?_
  refine wp_iload_n d203_229 rfl ?_
  refine wz_bipush d203_230 (by decide) ?_
  refine wz_icmp_ne (t := 248) d203_232 (by decide) ⟨by omega, by omega⟩ ⟨by omega, by omega⟩ (fun _ => ?_) (fun hb => absurd hb (by omega))
  refine wz_iconst d203_248 ?_
  refine wp_aload_n d203_249 rfl ?_
  refine wz_getI (v := (j : Int)) d203_250 rfl (hG.o (by decide) rfl) (by decide) (e46) ?_
  refine wz_iconst d203_253 ?_
  refine wz_iadd d203_254 ?_
  refine wp_virt (as := [.int (zI ((j : Int) + 1)), .int (zI (-1)), .int (zI (j : Int)), .int (zI 7)]) (rest := []) d203_255 rfl rfl rfl (hG.o (by decide) rfl) rfl rfl (Nat.le_of_ble_eq_true rfl) ?_
  refine m_wait (fr := (fr : Int)) (en := N 56 47) hG c0.2.2 rfl (by omega) (by omega) ?_
  show pm_Wp none (d + 2) 203 258 [some (.ref 56), some (.int (zI mb)), some (.int (zI 7)), none, none] [] (zM (mWait N fr 7 j (-1) (j + 1) (N 56 47)), Rf, K, L, n, s0) Q
  refine wz_iconst d203_258 ?_
  have nx := nv.x (by omega)
  have kw : Kpm N (mWait N fr 7 j (-1) (j + 1) (N 56 47)) vs es H := Kpm.wait
  have fm : FrM (mWait N fr 7 j (-1) (j + 1) (N 56 47)) a b es H (t, ρ, .nil, 0) (fr : Int) vs := ⟨by rw [mWait_94]; show (7 : Int) = (nKd t : Int); rw [hk]; rfl, by show nKd t = 7 ∨ nKd t = 9 ∨ nKd t = 10 ∨ nKd t = 11; omega, j, s, ch, nv.keep kw.1, by rw [mWait_96]; exact ea.keep kw.1 kw.2.1 (fun _ _ q => q) (Nat.le_refl _), fun _ => mWait_95, fun _ => ⟨fun _ => mWait_97, fun q => absurd rfl q⟩, fun q => absurd (show nKd t = 10 from q) (by omega)⟩
  have pf : pdF (t, ρ, .nil, 0) ≤ pnd (nY t) := by
    unfold pdF
    show (if nKd t = 7 then (if (0 : Nat) = 0 then pnd (nY t) else 0) else if nKd t = 10 then pdR t 0 else 0) ≤ _
    rw [hk]
    first | exact Nat.le_refl _ | exact Nat.zero_le _
  have b1 := br.wait (pc' := pnd (nX t) + (pdF (t, ρ, .nil, 0) + pdK k)) (lim := 0) (by omega) fm (fun q => absurd (show nKd t = 10 from q) (by omega))
  exact wp_ret d203_259 rfl (h (.inl (nX t, ρ, (t, ρ, .nil, 0) :: k)) _ (mv_x (by omega)) (mWait_R32 hM ⟨by omega, by omega⟩ ⟨by omega, by omega⟩ ⟨by omega, by omega⟩ ⟨by omega, by omega⟩ ⟨by omega, by omega⟩ r47) (MKr.refl N).wt ⟨vs, es, fr + 1, H, b1.1, b1.2.1, b1.2.2.1, b1.2.2.2, mWait_49, j + 1, s, ch, by rw [mWait_46]; rfl, nx.keep kw.1, by rw [mWait_47]; exact ea.keep kw.1 kw.2.1 (fun _ _ q => q) (Nat.le_refl _)⟩)
theorem m_enter9 (hG : pm_G Rf K L n) (hM : ∀ p i, R32 (N p i)) (a6 : a ≤ 60) (b6 : b ≤ 60) (st6 : st ≤ 60) (mb1 : mb = 0 ∨ mb = 1) (cr : CR N a b st (.inl (t, ρ, k))) (hk : nKd t = 9) (h : ∀ c' N', mv (.inl (t, ρ, k)) = some (false, c') → (∀ p i, R32 (N' p i)) → MKr N N' → CR N' a b st c' → Q (some (.int (zI 1))) (zM N', Rf, K, L, n, s0)) : pm_Wc (d + 3) 203 [.ref 56, .int (zI mb)] (zM N, Rf, K, L, n, s0) Q := by
  obtain ⟨vs, es, fr, H, c0, hh, cb, fs, e49, j, s, ch, e46, nv, ea⟩ := cr
  have br : BR N a b st vs es fr H k (pnd t + pdK k) := ⟨c0, hh, cb, fs⟩
  have cb2 : vs + (pnd t + pdK k) ≤ 60 + 60 * st := cb.2.1
  have cb3 : fr + (pnd t + pdK k) ≤ 60 + 60 * st := cb.2.2
  have ks := nv.kd
  have kd := ks.2.1
  have jl := nv.lt
  have pt1 := pnd_is nv.sp
  have mk := nv.mk
  have r47 := hM 56 47
  refine wc_in (ls0 := [some (.ref 56), some (.int (zI mb)), none, none, none]) (by decide) (Nat.le_of_ble_eq_true rfl) rfl rfl ?_
  refine wp_aload_n d203_0 rfl ?_
  refine wp_getR (q := 59) d203_1 rfl (hG.o (by decide) rfl) (by decide) (hG.r (by decide +kernel)) (by decide) ?_
  refine wp_aload_n d203_4 rfl ?_
  refine wz_getI (v := (j : Int)) d203_5 rfl (hG.o (by decide) rfl) (by decide) (e46) ?_
  refine wz_iald (z := 128) (v := 9) d203_8 (hG.a (by decide) rfl rfl) (by omega) (by omega) (by decide) (by rw [kd, hk]; rfl) ?_
  refine wp_istore_n d203_9 (Nat.le_of_ble_eq_true rfl) rfl ?_
  refine wp_iload_n d203_10 rfl ?_
  refine wz_bipush d203_11 (by decide) ?_
  refine wz_icmp_ne (t := 69) d203_13 (by decide) ⟨by omega, by omega⟩ ⟨by omega, by omega⟩ (fun _ => ?_) (fun hb => absurd hb (by omega))
  refine wp_iload_n d203_69 rfl ?_
  refine wz_iconst d203_70 ?_
  refine wz_icmp_ne (t := 141) d203_71 (by decide) ⟨by omega, by omega⟩ ⟨by omega, by omega⟩ (fun _ => ?_) (fun hb => absurd hb (by omega))
  refine wp_iload_n d203_141 rfl ?_
  refine wz_bipush d203_142 (by decide) ?_
  refine wz_icmp_eq (t := 153) d203_144 (by decide) ⟨by omega, by omega⟩ ⟨by omega, by omega⟩ (fun hb => absurd hb (by omega)) (fun _ => ?_)
  refine wp_iload_n d203_147 rfl ?_
  refine wz_bipush d203_148 (by decide) ?_
  refine wz_icmp_ne (t := 173) d203_150 (by decide) ⟨by omega, by omega⟩ ⟨by omega, by omega⟩ (fun _ => ?_) (fun hb => absurd hb (by omega))
  refine wp_iload_n d203_173 rfl ?_
  refine wz_bipush d203_174 (by decide) ?_
  refine wz_icmp_ne (t := 208) d203_176 (by decide) ⟨by omega, by omega⟩ ⟨by omega, by omega⟩ (fun _ => ?_) (fun hb => absurd hb (by omega))
  refine wp_aload_n d203_208 rfl ?_
  refine wp_iload_n d203_209 rfl ?_
  refine wp_iload_n d203_210 rfl ?_
  refine wz_bipush d203_211 (by decide) ?_
  refine wz_icmp_ne (t := 225) d203_213 (by decide) ⟨by omega, by omega⟩ ⟨by omega, by omega⟩ (fun _ => ?_) (fun hb => absurd hb (by omega))
  refine wp_aload_n d203_225 rfl ?_
  refine wz_getI (v := (j : Int)) d203_226 rfl (hG.o (by decide) rfl) (by decide) (e46) ?_
  refine wp_iload_n d203_229 rfl ?_
  refine wz_bipush d203_230 (by decide) ?_
  refine wz_icmp_ne (t := 248) d203_232 (by decide) ⟨by omega, by omega⟩ ⟨by omega, by omega⟩ (fun _ => ?_) (fun hb => absurd hb (by omega))
  refine wz_iconst d203_248 ?_
  refine wp_aload_n d203_249 rfl ?_
  refine wz_getI (v := (j : Int)) d203_250 rfl (hG.o (by decide) rfl) (by decide) (e46) ?_
  refine wz_iconst d203_253 ?_
  refine wz_iadd d203_254 ?_
  refine wp_virt (as := [.int (zI ((j : Int) + 1)), .int (zI (-1)), .int (zI (j : Int)), .int (zI 9)]) (rest := []) d203_255 rfl rfl rfl (hG.o (by decide) rfl) rfl rfl (Nat.le_of_ble_eq_true rfl) ?_
  refine m_wait (fr := (fr : Int)) (en := N 56 47) hG c0.2.2 rfl (by omega) (by omega) ?_
  show pm_Wp none (d + 2) 203 258 [some (.ref 56), some (.int (zI mb)), some (.int (zI 9)), none, none] [] (zM (mWait N fr 9 j (-1) (j + 1) (N 56 47)), Rf, K, L, n, s0) Q
  refine wz_iconst d203_258 ?_
  have nx := nv.x (by omega)
  have kw : Kpm N (mWait N fr 9 j (-1) (j + 1) (N 56 47)) vs es H := Kpm.wait
  have fm : FrM (mWait N fr 9 j (-1) (j + 1) (N 56 47)) a b es H (t, ρ, .nil, 0) (fr : Int) vs := ⟨by rw [mWait_94]; show (9 : Int) = (nKd t : Int); rw [hk]; rfl, by show nKd t = 7 ∨ nKd t = 9 ∨ nKd t = 10 ∨ nKd t = 11; omega, j, s, ch, nv.keep kw.1, by rw [mWait_96]; exact ea.keep kw.1 kw.2.1 (fun _ _ q => q) (Nat.le_refl _), fun _ => mWait_95, fun _ => ⟨fun _ => mWait_97, fun q => absurd rfl q⟩, fun q => absurd (show nKd t = 10 from q) (by omega)⟩
  have pf : pdF (t, ρ, .nil, 0) ≤ pnd (nY t) := by
    unfold pdF
    show (if nKd t = 7 then (if (0 : Nat) = 0 then pnd (nY t) else 0) else if nKd t = 10 then pdR t 0 else 0) ≤ _
    rw [hk]
    first | exact Nat.le_refl _ | exact Nat.zero_le _
  have b1 := br.wait (pc' := pnd (nX t) + (pdF (t, ρ, .nil, 0) + pdK k)) (lim := 0) (by omega) fm (fun q => absurd (show nKd t = 10 from q) (by omega))
  exact wp_ret d203_259 rfl (h (.inl (nX t, ρ, (t, ρ, .nil, 0) :: k)) _ (mv_x (by omega)) (mWait_R32 hM ⟨by omega, by omega⟩ ⟨by omega, by omega⟩ ⟨by omega, by omega⟩ ⟨by omega, by omega⟩ ⟨by omega, by omega⟩ r47) (MKr.refl N).wt ⟨vs, es, fr + 1, H, b1.1, b1.2.1, b1.2.2.1, b1.2.2.2, mWait_49, j + 1, s, ch, by rw [mWait_46]; rfl, nx.keep kw.1, by rw [mWait_47]; exact ea.keep kw.1 kw.2.1 (fun _ _ q => q) (Nat.le_refl _)⟩)
theorem m_enter11 (hG : pm_G Rf K L n) (hM : ∀ p i, R32 (N p i)) (a6 : a ≤ 60) (b6 : b ≤ 60) (st6 : st ≤ 60) (mb1 : mb = 0 ∨ mb = 1) (cr : CR N a b st (.inl (t, ρ, k))) (hk : nKd t = 11) (h : ∀ c' N', mv (.inl (t, ρ, k)) = some (false, c') → (∀ p i, R32 (N' p i)) → MKr N N' → CR N' a b st c' → Q (some (.int (zI 1))) (zM N', Rf, K, L, n, s0)) : pm_Wc (d + 3) 203 [.ref 56, .int (zI mb)] (zM N, Rf, K, L, n, s0) Q := by
  obtain ⟨vs, es, fr, H, c0, hh, cb, fs, e49, j, s, ch, e46, nv, ea⟩ := cr
  have br : BR N a b st vs es fr H k (pnd t + pdK k) := ⟨c0, hh, cb, fs⟩
  have cb2 : vs + (pnd t + pdK k) ≤ 60 + 60 * st := cb.2.1
  have cb3 : fr + (pnd t + pdK k) ≤ 60 + 60 * st := cb.2.2
  have ks := nv.kd
  have kd := ks.2.1
  have jl := nv.lt
  have pt1 := pnd_is nv.sp
  have mk := nv.mk
  have r47 := hM 56 47
  refine wc_in (ls0 := [some (.ref 56), some (.int (zI mb)), none, none, none]) (by decide) (Nat.le_of_ble_eq_true rfl) rfl rfl ?_
  refine wp_aload_n d203_0 rfl ?_
  refine wp_getR (q := 59) d203_1 rfl (hG.o (by decide) rfl) (by decide) (hG.r (by decide +kernel)) (by decide) ?_
  refine wp_aload_n d203_4 rfl ?_
  refine wz_getI (v := (j : Int)) d203_5 rfl (hG.o (by decide) rfl) (by decide) (e46) ?_
  refine wz_iald (z := 128) (v := 11) d203_8 (hG.a (by decide) rfl rfl) (by omega) (by omega) (by decide) (by rw [kd, hk]; rfl) ?_
  refine wp_istore_n d203_9 (Nat.le_of_ble_eq_true rfl) rfl ?_
  refine wp_iload_n d203_10 rfl ?_
  refine wz_bipush d203_11 (by decide) ?_
  refine wz_icmp_ne (t := 69) d203_13 (by decide) ⟨by omega, by omega⟩ ⟨by omega, by omega⟩ (fun _ => ?_) (fun hb => absurd hb (by omega))
  refine wp_iload_n d203_69 rfl ?_
  refine wz_iconst d203_70 ?_
  refine wz_icmp_ne (t := 141) d203_71 (by decide) ⟨by omega, by omega⟩ ⟨by omega, by omega⟩ (fun _ => ?_) (fun hb => absurd hb (by omega))
  refine wp_iload_n d203_141 rfl ?_
  refine wz_bipush d203_142 (by decide) ?_
  refine wz_icmp_eq (t := 153) d203_144 (by decide) ⟨by omega, by omega⟩ ⟨by omega, by omega⟩ (fun hb => absurd hb (by omega)) (fun _ => ?_)
  refine wp_iload_n d203_147 rfl ?_
  refine wz_bipush d203_148 (by decide) ?_
  refine wz_icmp_ne (t := 173) d203_150 (by decide) ⟨by omega, by omega⟩ ⟨by omega, by omega⟩ (fun _ => ?_) (fun hb => absurd hb (by omega))
  refine wp_iload_n d203_173 rfl ?_
  refine wz_bipush d203_174 (by decide) ?_
  refine wz_icmp_ne (t := 208) d203_176 (by decide) ⟨by omega, by omega⟩ ⟨by omega, by omega⟩ (fun _ => ?_) (fun hb => absurd hb (by omega))
  refine wp_aload_n d203_208 rfl ?_
  refine wp_iload_n d203_209 rfl ?_
  refine wp_iload_n d203_210 rfl ?_
  refine wz_bipush d203_211 (by decide) ?_
  refine wz_icmp_ne (t := 225) d203_213 (by decide) ⟨by omega, by omega⟩ ⟨by omega, by omega⟩ (fun _ => ?_) (fun hb => absurd hb (by omega))
  refine wp_aload_n d203_225 rfl ?_
  refine wz_getI (v := (j : Int)) d203_226 rfl (hG.o (by decide) rfl) (by decide) (e46) ?_
  refine wp_iload_n d203_229 rfl ?_
  refine wz_bipush d203_230 (by decide) ?_
  refine wz_icmp_ne (t := 248) d203_232 (by decide) ⟨by omega, by omega⟩ ⟨by omega, by omega⟩ (fun _ => ?_) (fun hb => absurd hb (by omega))
  refine wz_iconst d203_248 ?_
  refine wp_aload_n d203_249 rfl ?_
  refine wz_getI (v := (j : Int)) d203_250 rfl (hG.o (by decide) rfl) (by decide) (e46) ?_
  refine wz_iconst d203_253 ?_
  refine wz_iadd d203_254 ?_
  refine wp_virt (as := [.int (zI ((j : Int) + 1)), .int (zI (-1)), .int (zI (j : Int)), .int (zI 11)]) (rest := []) d203_255 rfl rfl rfl (hG.o (by decide) rfl) rfl rfl (Nat.le_of_ble_eq_true rfl) ?_
  refine m_wait (fr := (fr : Int)) (en := N 56 47) hG c0.2.2 rfl (by omega) (by omega) ?_
  show pm_Wp none (d + 2) 203 258 [some (.ref 56), some (.int (zI mb)), some (.int (zI 11)), none, none] [] (zM (mWait N fr 11 j (-1) (j + 1) (N 56 47)), Rf, K, L, n, s0) Q
  refine wz_iconst d203_258 ?_
  have nx := nv.x (by omega)
  have kw : Kpm N (mWait N fr 11 j (-1) (j + 1) (N 56 47)) vs es H := Kpm.wait
  have fm : FrM (mWait N fr 11 j (-1) (j + 1) (N 56 47)) a b es H (t, ρ, .nil, 0) (fr : Int) vs := ⟨by rw [mWait_94]; show (11 : Int) = (nKd t : Int); rw [hk]; rfl, by show nKd t = 7 ∨ nKd t = 9 ∨ nKd t = 10 ∨ nKd t = 11; omega, j, s, ch, nv.keep kw.1, by rw [mWait_96]; exact ea.keep kw.1 kw.2.1 (fun _ _ q => q) (Nat.le_refl _), fun _ => mWait_95, fun _ => ⟨fun _ => mWait_97, fun q => absurd rfl q⟩, fun q => absurd (show nKd t = 10 from q) (by omega)⟩
  have pf : pdF (t, ρ, .nil, 0) ≤ pnd (nY t) := by
    unfold pdF
    show (if nKd t = 7 then (if (0 : Nat) = 0 then pnd (nY t) else 0) else if nKd t = 10 then pdR t 0 else 0) ≤ _
    rw [hk]
    first | exact Nat.le_refl _ | exact Nat.zero_le _
  have b1 := br.wait (pc' := pnd (nX t) + (pdF (t, ρ, .nil, 0) + pdK k)) (lim := 0) (by omega) fm (fun q => absurd (show nKd t = 10 from q) (by omega))
  exact wp_ret d203_259 rfl (h (.inl (nX t, ρ, (t, ρ, .nil, 0) :: k)) _ (mv_x (by omega)) (mWait_R32 hM ⟨by omega, by omega⟩ ⟨by omega, by omega⟩ ⟨by omega, by omega⟩ ⟨by omega, by omega⟩ ⟨by omega, by omega⟩ r47) (MKr.refl N).wt ⟨vs, es, fr + 1, H, b1.1, b1.2.1, b1.2.2.1, b1.2.2.2, mWait_49, j + 1, s, ch, by rw [mWait_46]; rfl, nx.keep kw.1, by rw [mWait_47]; exact ea.keep kw.1 kw.2.1 (fun _ _ q => q) (Nat.le_refl _)⟩)
end PmG11
