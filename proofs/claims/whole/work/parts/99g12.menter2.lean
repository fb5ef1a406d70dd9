/-! THE MODEL: a record is entered, a choice. -/
section PmG12
variable {d : Nat} {Q : Option Value → pm_S → Prop} {N : pm_M} {Rf : Nat → Nat → Nat} {K L : Nat → Nat} {n s0 : Nat} {a b st : Nat} {t ρ : Ty} {k : List Fr} {mb : Int}
theorem m_enter10a (hG : pm_G Rf K L n) (hM : ∀ p i, R32 (N p i)) (a6 : a ≤ 60) (b6 : b ≤ 60) (st6 : st ≤ 60) (mb1 : mb = 0 ∨ mb = 1) (cr : CR N a b st (.inl (t, ρ, k))) (hk : nKd t = 10) (hm : nMk t = 0) (h : ∀ c' N', mv (.inl (t, ρ, k)) = some (false, c') → (∀ p i, R32 (N' p i)) → MKr N N' → CR N' a b st c' → Q (some (.int (zI 1))) (zM N', Rf, K, L, n, s0)) : pm_Wc (d + 3) 203 [.ref 56, .int (zI mb)] (zM N, Rf, K, L, n, s0) Q := by
  obtain ⟨vs, es, fr, H, c0, hh, cb, fs, e49, j, s, ch, e46, nv, ea⟩ := cr
  have br : BR N a b st vs es fr H k (pnd t + pdK k) := ⟨c0, hh, cb, fs⟩
  have cb2 : vs + (pnd t + pdK k) ≤ 60 + 60 * st := cb.2.1
  have cb3 : fr + (pnd t + pdK k) ≤ 60 + 60 * st := cb.2.2
  have ks := nv.kd
  have kd := ks.2.1
  have jl := nv.lt
  have pt1 := pnd_is nv.sp
  have mk := nv.mk
  have r47 := hM 56 47
  refine wc_in (ls0 := [some (.ref 56), some (.int (zI mb)), none, none, none]) (by decide) (Nat.le_of_ble_eq_true rfl) rfl rfl ?_
  refine wp_aload_n d203_0 rfl ?_
  refine wp_getR (q := 59) d203_1 rfl (hG.o (by decide) rfl) (by decide) (hG.r (by decide +kernel)) (by decide) ?_
  refine wp_aload_n d203_4 rfl ?_
  refine wz_getI (v := (j : Int)) d203_5 rfl (hG.o (by decide) rfl) (by decide) (e46) ?_
  refine wz_iald (z := 128) (v := 10) d203_8 (hG.a (by decide) rfl rfl) (by omega) (by omega) (by decide) (by rw [kd, hk]; rfl) ?_
  refine wp_istore_n d203_9 (Nat.le_of_ble_eq_true rfl) rfl ?_
  refine wp_iload_n d203_10 rfl ?_
  refine wz_bipush d203_11 (by decide) ?_
  refine wz_icmp_ne (t := 69) d203_13 (by decide) ⟨by omega, by omega⟩ ⟨by omega, by omega⟩ (fun _ => ?_) (fun hb => absurd hb (by omega))
  refine wp_iload_n d203_69 rfl ?_
  refine wz_iconst d203_70 ?_
  refine wz_icmp_ne (t := 141) d203_71 (by decide) ⟨by omega, by omega⟩ ⟨by omega, by omega⟩ (fun _ => ?_) (fun hb => absurd hb (by omega))
  refine wp_iload_n d203_141 rfl ?_
  refine wz_bipush d203_142 (by decide) ?_
  refine wz_icmp_eq (t := 153) d203_144 (by decide) ⟨by omega, by omega⟩ ⟨by omega, by omega⟩ (fun hb => absurd hb (by omega)) (fun _ => ?_)
  refine wp_iload_n d203_147 rfl ?_
  refine wz_bipush d203_148 (by decide) ?_
  refine wz_icmp_ne (t := 173) d203_150 (by decide) ⟨by omega, by omega⟩ ⟨by omega, by omega⟩ (fun _ => ?_) (fun hb => absurd hb (by omega))
  refine wp_iload_n d203_173 rfl ?_
  refine wz_bipush d203_174 (by decide) ?_
  refine wz_icmp_ne (t := 208) d203_176 (by decide) ⟨by omega, by omega⟩ ⟨by omega, by omega⟩ (fun hb => absurd (by omega) hb) (fun _ => ?_)
  refine wp_aload_n d203_179 rfl ?_
  refine wp_getR (q := 60) d203_180 rfl (hG.o (by decide) rfl) (by decide) (hG.r (by decide +kernel)) (by decide) ?_
  refine wp_aload_n d203_183 rfl ?_
  refine wz_getI (v := (j : Int)) d203_184 rfl (hG.o (by decide) rfl) (by decide) (e46) ?_
  refine wz_iald (z := 128) (v := 0) d203_187 (hG.a (by decide) rfl rfl) (by omega) (by omega) (by decide) (by rw [mk.2.1 (by omega), hm]; rfl) ?_
  refine wz_if_ne (t := 208) d203_188 (by decide) ⟨by omega, by omega⟩ (fun hb => absurd (by omega) hb) (fun _ => ?_)
  refine wp_aload_n d203_191 rfl ?_
  refine wp_aload_n d203_192 rfl ?_
  refine wp_iload_n d203_193 rfl ?_
  refine wp_aload_n d203_194 rfl ?_
  refine wz_getI (v := (j : Int)) d203_195 rfl (hG.o (by decide) rfl) (by decide) (e46) ?_
  refine wz_iconst d203_198 ?_
  refine wp_virt (as := [.int (zI (-1)), .int (zI (j : Int)), .int (zI 10)]) (rest := [.ref 56]) d203_199 rfl rfl rfl (hG.o (by decide) rfl) rfl rfl (Nat.le_of_ble_eq_true rfl) ?_
  refine wc_deep (show d + 1 + 1 ≤ d + 2 by omega) ?_
  refine m_keep (vs := (vs : Int)) hG c0.1 (by omega) (by omega) ?_
  rw [show (vs : Int) + 1 - 1 = vs by omega]
  show pm_Wp none (d + 2) 203 202 [some (.ref 56), some (.int (zI mb)), some (.int (zI 10)), none, none] [.int (zI (vs : Int)), .ref 56] (zM (mKeep N vs 10 j (-1)), Rf, K, L, n, s0) Q
  refine wp_virt (as := [.int (zI (vs : Int))]) (rest := []) d203_202 rfl rfl rfl (hG.o (by decide) rfl) rfl rfl (Nat.le_of_ble_eq_true rfl) ?_
  refine wc_deep (show d + 1 + 1 ≤ d + 2 by omega) ?_
  refine m_answer hG ?_
  show pm_Wp none (d + 2) 203 205 [some (.ref 56), some (.int (zI mb)), some (.int (zI 10)), none, none] [] (zM (mAns (mKeep N vs 10 j (-1)) vs), Rf, K, L, n, s0) Q
  refine wp_goto (t := 258) d203_205 (by decide) ?_
  refine wz_iconst d203_258 ?_
  have hup : Hup H (vs : Int) (vR 0 .nil .nil .nil) (vs : Int) = some (vR 0 .nil .nil .nil) := by unfold Hup; rw [if_pos rfl]
  have vc : VCe (mKeep N vs 10 j (-1)) a b es (Hup H vs (vR 0 .nil .nil .nil)) (vs : Int) (vR 0 .nil .nil .nil) := Or.inr ⟨0, .nil, .nil, .nil, j, rfl, by omega, mKeep_90, mKeep_91, jl, by rw [mKeep_o (by omega) (by omega), mk.2.1 (by omega), hm], fun g hg hb => by rw [bit_0 g hg] at hb; cases hb⟩
  have b1 := br.val (pc' := pdK k) (by omega) vc
  have b2 := b1.same (N' := mAns (mKeep N vs 10 j (-1)) vs) (st' := st) (pc' := pdK k) (fun p i hp => mAns_o hp) (by omega) (Nat.le_refl _)
  have em : mv (.inl (t, ρ, k)) = some (false, .inr (vR 0 .nil .nil .nil, k)) := by
    rw [mv_10 hk]
    unfold rGo
    rw [hm, if_neg (by rw [nxl_0]; omega)]
  exact wp_ret d203_259 rfl (h (.inr (vR 0 .nil .nil .nil, k)) _ em (mAns_R32 (mKeep_R32 hM ⟨by omega, by omega⟩ ⟨by omega, by omega⟩ ⟨by omega, by omega⟩ ⟨by omega, by omega⟩) ⟨by omega, by omega⟩) (MKr.refl N).kp.ans ⟨vs + 1, es, fr, _, b2.1, b2.2.1, b2.2.2.1, b2.2.2.2, by show mset (mset _ 56 48 _) 56 49 1 56 49 = 1; rw [mset_s], by show Hup H vs (vR 0 .nil .nil .nil) (mset (mset _ 56 48 _) 56 49 1 56 48) = _; rw [mset_i' (by omega), mset_s]; exact hup⟩)
theorem m_enter10b (hG : pm_G Rf K L n) (hM : ∀ p i, R32 (N p i)) (a6 : a ≤ 60) (b6 : b ≤ 60) (st6 : st ≤ 60) (mb1 : mb = 0 ∨ mb = 1) (cr : CR N a b st (.inl (t, ρ, k))) (hk : nKd t = 10) (hm : nMk t ≠ 0) (h : ∀ c' N', mv (.inl (t, ρ, k)) = some (false, c') → (∀ p i, R32 (N' p i)) → MKr N N' → CR N' a b st c' → Q (some (.int (zI 1))) (zM N', Rf, K, L, n, s0)) : pm_Wc (d + 3) 203 [.ref 56, .int (zI mb)] (zM N, Rf, K, L, n, s0) Q := by
  obtain ⟨vs, es, fr, H, c0, hh, cb, fs, e49, j, s, ch, e46, nv, ea⟩ := cr
  have br : BR N a b st vs es fr H k (pnd t + pdK k) := ⟨c0, hh, cb, fs⟩
  have cb2 : vs + (pnd t + pdK k) ≤ 60 + 60 * st := cb.2.1
  have cb3 : fr + (pnd t + pdK k) ≤ 60 + 60 * st := cb.2.2
  have ks := nv.kd
  have kd := ks.2.1
  have jl := nv.lt
  have pt1 := pnd_is nv.sp
  have mk := nv.mk
  have r47 := hM 56 47
  refine wc_in (ls0 := [some (.ref 56), some (.int (zI mb)), none, none, none]) (by decide) (Nat.le_of_ble_eq_true rfl) rfl rfl ?_
  have m8 := mk.2.2.1 hk
  refine wp_aload_n d203_0 rfl ?_
  refine wp_getR (q := 59) d203_1 rfl (hG.o (by decide) rfl) (by decide) (hG.r (by decide +kernel)) (by decide) ?_
  refine wp_aload_n d203_4 rfl ?_
  refine wz_getI (v := (j : Int)) d203_5 rfl (hG.o (by decide) rfl) (by decide) (e46) ?_
  refine wz_iald (z := 128) (v := 10) d203_8 (hG.a (by decide) rfl rfl) (by omega) (by omega) (by decide) (by rw [kd, hk]; rfl) ?_
  refine wp_istore_n d203_9 (Nat.le_of_ble_eq_true rfl) rfl ?_
  refine wp_iload_n d203_10 rfl ?_
  refine wz_bipush d203_11 (by decide) ?_
  refine wz_icmp_ne (t := 69) d203_13 (by decide) ⟨by omega, by omega⟩ ⟨by omega, by omega⟩ (fun _ => ?_) (fun hb => absurd hb (by omega))
  refine wp_iload_n d203_69 rfl ?_
  refine wz_iconst d203_70 ?_
  refine wz_icmp_ne (t := 141) d203_71 (by decide) ⟨by omega, by omega⟩ ⟨by omega, by omega⟩ (fun _ => ?_) (fun hb => absurd hb (by omega))
  refine wp_iload_n d203_141 rfl ?_
  refine wz_bipush d203_142 (by decide) ?_
  refine wz_icmp_eq (t := 153) d203_144 (by decide) ⟨by omega, by omega⟩ ⟨by omega, by omega⟩ (fun hb => absurd hb (by omega)) (fun _ => ?_)
  refine wp_iload_n d203_147 rfl ?_
  refine wz_bipush d203_148 (by decide) ?_
  refine wz_icmp_ne (t := 173) d203_150 (by decide) ⟨by omega, by omega⟩ ⟨by omega, by omega⟩ (fun _ => ?_) (fun hb => absurd hb (by omega))
  refine wp_iload_n d203_173 rfl ?_
  refine wz_bipush d203_174 (by decide) ?_
  refine wz_icmp_ne (t := 208) d203_176 (by decide) ⟨by omega, by omega⟩ ⟨by omega, by omega⟩ (fun hb => absurd (by omega) hb) (fun _ => ?_)
  refine wp_aload_n d203_179 rfl ?_
  refine wp_getR (q := 60) d203_180 rfl (hG.o (by decide) rfl) (by decide) (hG.r (by decide +kernel)) (by decide) ?_
  refine wp_aload_n d203_183 rfl ?_
  refine wz_getI (v := (j : Int)) d203_184 rfl (hG.o (by decide) rfl) (by decide) (e46) ?_
  refine wz_iald (z := 128) (v := (nMk t : Int)) d203_187 (hG.a (by decide) rfl rfl) (by omega) (by omega) (by decide) (mk.2.1 (by omega)) ?_
  refine wz_if_ne (t := 208) d203_188 (by decide) ⟨by omega, by omega⟩ (fun _ => ?_) (fun hb => absurd hb (by omega))
  refine wp_aload_n d203_208 rfl ?_
  refine wp_iload_n d203_209 rfl ?_
  refine wp_iload_n d203_210 rfl ?_
  refine wz_bipush d203_211 (by decide) ?_
  refine wz_icmp_ne (t := 225) d203_213 (by decide) ⟨by omega, by omega⟩ ⟨by omega, by omega⟩ (fun hb => absurd (by omega) hb) (fun _ => ?_)
  refine wp_aload_n d203_216 rfl ?_
  refine wz_getI (v := (j : Int)) d203_217 rfl (hG.o (by decide) rfl) (by decide) (e46) ?_
  refine wz_iconst d203_220 ?_
  refine wz_iadd d203_221 ?_
  refine wp_goto (t := 229) d203_222 (by decide) ?_
  refine wp_iload_n d203_229 rfl ?_
  refine wz_bipush d203_230 (by decide) ?_
  refine wz_icmp_ne (t := 248) d203_232 (by decide) ⟨by omega, by omega⟩ ⟨by omega, by omega⟩ (fun hb => absurd (by omega) hb) (fun _ => ?_)
  refine wp_aload_n d203_235 rfl ?_
  refine wp_iload_n d203_236 rfl ?_
  refine wp_aload_n d203_237 rfl ?_
  refine wz_getI (v := (j : Int)) d203_238 rfl (hG.o (by decide) rfl) (by decide) (e46) ?_
  refine wz_iconst d203_241 ?_
  refine wp_virt (as := [.int (zI (-1)), .int (zI (j : Int)), .int (zI 10)]) (rest := [.int (zI ((j : Int) + 1)), .int (zI 10), .ref 56]) d203_242 rfl rfl rfl (hG.o (by decide) rfl) rfl rfl (Nat.le_of_ble_eq_true rfl) ?_
  refine wc_deep (show d + 1 + 1 ≤ d + 2 by omega) ?_
  refine m_keep (vs := (vs : Int)) hG c0.1 (by omega) (by omega) ?_
  rw [show (vs : Int) + 1 - 1 = vs by omega]
  have e46' : mKeep N vs 10 j (-1) 56 46 = (j : Int) := (mKeep_o (by omega) (by omega)).trans e46
  show pm_Wp none (d + 2) 203 245 [some (.ref 56), some (.int (zI mb)), some (.int (zI 10)), none, none] [.int (zI (vs : Int)), .int (zI ((j : Int) + 1)), .int (zI 10), .ref 56] (zM (mKeep N vs 10 j (-1)), Rf, K, L, n, s0) Q
  refine wp_goto (t := 249) d203_245 (by decide) ?_
  refine wp_aload_n d203_249 rfl ?_
  refine wz_getI (v := (j : Int)) d203_250 rfl (hG.o (by decide) rfl) (by decide) (e46') ?_
  refine wz_iconst d203_253 ?_
  refine wz_iadd d203_254 ?_
  refine wp_virt (as := [.int (zI ((j : Int) + 1)), .int (zI (vs : Int)), .int (zI ((j : Int) + 1)), .int (zI 10)]) (rest := []) d203_255 rfl rfl rfl (hG.o (by decide) rfl) rfl rfl (Nat.le_of_ble_eq_true rfl) ?_
  refine m_wait (fr := (fr : Int)) (en := N 56 47) hG ((mKeep_o (by omega) (by omega)).trans c0.2.2) (mKeep_o (by omega) (by omega)) (by omega) (by omega) ?_
  show pm_Wp none (d + 2) 203 258 [some (.ref 56), some (.int (zI mb)), some (.int (zI 10)), none, none] [] (zM (mWait (mKeep N vs 10 j (-1)) fr 10 (j + 1) vs (j + 1) (N 56 47)), Rf, K, L, n, s0) Q
  refine wz_iconst d203_258 ?_
  have hn := nxl_1 _ m8 hm
  obtain ⟨-, hbit, hless⟩ := nxl_in m8 (g := 0) (by omega) hn
  have pn : pN t j (nxl (nMk t) 0) = j + 1 := by
    unfold pN
    by_cases g0 : nxl (nMk t) 0 = 0
    · rw [if_pos g0]
    · rw [if_neg g0]
      have x0 : pnd (nX t) = 0 := nv.nil hk (g := 0) (by omega) (by rw [hless 0 (by omega) (by omega) (by omega)]; decide)
      by_cases g1 : nxl (nMk t) 0 = 1
      · rw [if_pos g1]; omega
      · rw [if_neg g1]
        have y0 : pnd (nY t) = 0 := nv.nil hk (g := 1) (by omega) (by rw [hless 1 (by omega) (by omega) (by omega)]; decide)
        omega
  have np := nv.part hk hn hbit
  rw [pn] at np
  have kk : Kpm N (mKeep N vs 10 j (-1)) vs es H := Kpm.keep
  have b0 := br.rcd (x := 10) (y := j) (z := -1) (pc' := pnd t - 1 + pdK k) (by omega)
  have kw : Kpm (mKeep N vs 10 j (-1)) (mWait (mKeep N vs 10 j (-1)) fr 10 (j + 1) vs (j + 1) (N 56 47)) (vs + 1) es H := Kpm.wait
  have fm : FrM (mWait (mKeep N vs 10 j (-1)) fr 10 (j + 1) vs (j + 1) (N 56 47)) a b es H (t, ρ, vR (nMk t) .nil .nil .nil, nxl (nMk t) 0) (fr : Int) ((vs + 1 : Nat) : Int) := by
    refine ⟨by rw [mWait_94]; show (10 : Int) = (nKd t : Int); rw [hk]; rfl, by show nKd t = 7 ∨ nKd t = 9 ∨ nKd t = 10 ∨ nKd t = 11; omega, j, s, ch, (nv.keep kk.1).keep kw.1, by rw [mWait_96]; exact (ea.keep kk.1 kk.2.1 (fun _ _ q => q) (Nat.le_refl _)).keep kw.1 kw.2.1 (fun _ _ q => q) (Nat.le_refl _), fun q => absurd hk q, fun q => absurd (show nKd t = 7 from q) (by omega), fun _ => ?_⟩
    rw [mWait_95, mWait_97, mWait_o (by omega) (by omega), mWait_o (by omega) (by omega), mKeep_90, mKeep_91]
    exact ⟨⟨hn, hbit⟩, by show (j : Int) + 1 = (pN t j (nxl (nMk t) 0) : Int); rw [pn]; rfl, ⟨by omega, by omega⟩, hh.fresh, rfl, rfl, ⟨.nil, .nil, .nil, rfl⟩, fun g hg hb => absurd hb (by rw [hless g (by show g < 3; have : g < nxl (nMk t) 0 := hg; omega) (by omega) hg]; decide)⟩
  have f0 : FRs (mKeep N vs 10 j (-1)) a b es H k fr vs := fs.keep kk (fun _ _ q => q) (Nat.le_refl _) (Int.le_refl _) (Int.le_refl _) (fun p q p1 p2 _ _ => mKeep_o (by omega) (by omega)) (fun i i0 i1 hn => ⟨hn, fun g _ => mKeep_o (by omega) (by omega)⟩)
  have pp : pnd (nP t (nxl (nMk t) 0)) + pdF (t, ρ, vR (nMk t) .nil .nil .nil, nxl (nMk t) 0) + 1 ≤ pnd t := by
    unfold pdF
    show pnd (nP t (nxl (nMk t) 0)) + (if nKd t = 7 then (if nxl (nMk t) 0 = 0 then pnd (nY t) else 0) else if nKd t = 10 then pdR t (nxl (nMk t) 0) else 0) + 1 ≤ pnd t
    rw [if_neg (by omega), if_pos hk]
    unfold pdR
    have : nxl (nMk t) 0 = 0 ∨ nxl (nMk t) 0 = 1 ∨ nxl (nMk t) 0 = 2 := by omega
    rcases this with e | e | e <;> rw [e]
    · show pnd (nX t) + ((if 0 < 1 then pnd (nY t) else 0) + (if 0 < 2 then pnd (nZ t) else 0)) + 1 ≤ pnd t
      rw [if_pos (by omega), if_pos (by omega)]; omega
    · show pnd (nY t) + ((if 1 < 1 then pnd (nY t) else 0) + (if 1 < 2 then pnd (nZ t) else 0)) + 1 ≤ pnd t
      rw [if_neg (by omega), if_pos (by omega)]; omega
    · show pnd (nZ t) + ((if 2 < 1 then pnd (nY t) else 0) + (if 2 < 2 then pnd (nZ t) else 0)) + 1 ≤ pnd t
      rw [if_neg (by omega), if_neg (by omega)]; omega
  have b1 := b0.wait (pc' := pnd (nP t (nxl (nMk t) 0)) + (pdF (t, ρ, vR (nMk t) .nil .nil .nil, nxl (nMk t) 0) + pdK k)) (lim := (vs : Int)) (Or.inr ⟨by omega, by omega⟩) fm (fun _ => ⟨Int.le_refl _, f0, by omega⟩)
  have em : mv (.inl (t, ρ, k)) = some (false, .inl (nP t (nxl (nMk t) 0), ρ, (t, ρ, vR (nMk t) .nil .nil .nil, nxl (nMk t) 0) :: k)) := by
    rw [mv_10 hk]
    unfold rGo
    rw [if_pos hn]
  exact wp_ret d203_259 rfl (h _ _ em (mWait_R32 (mKeep_R32 hM ⟨by omega, by omega⟩ ⟨by omega, by omega⟩ ⟨by omega, by omega⟩ ⟨by omega, by omega⟩) ⟨by omega, by omega⟩ ⟨by omega, by omega⟩ ⟨by omega, by omega⟩ ⟨by omega, by omega⟩ ⟨by omega, by omega⟩ r47) (MKr.refl N).kp.wt ⟨vs + 1, es, fr + 1, H, b1.1, b1.2.1, b1.2.2.1, b1.2.2.2, mWait_49, j + 1, s, ch, by rw [mWait_46]; rfl, (np.keep kk.1).keep kw.1, by rw [mWait_47]; exact (ea.keep kk.1 kk.2.1 (fun _ _ q => q) (Nat.le_refl _)).keep kw.1 kw.2.1 (fun _ _ q => q) (Nat.le_refl _)⟩)
theorem m_enter12a (hG : pm_G Rf K L n) (hM : ∀ p i, R32 (N p i)) (a6 : a ≤ 60) (b6 : b ≤ 60) (st6 : st ≤ 60) (mb1 : mb = 0 ∨ mb = 1) (cr : CR N a b st (.inl (t, ρ, k))) (hk : nKd t = 12) (hm : nMk t = 0) (h2 : ∀ c' N', mv (.inl (t, ρ, k)) = some (true, c') → mb = 1 → (∀ p i, R32 (N' p i)) → MKr N N' → CR N' a b (st + 1) c' → Q (some (.int (zI 2))) (zM N', Rf, K, L, n, s0)) (h0 : ∀ c', mv (.inl (t, ρ, k)) = some (true, c') → mb = 0 → Q (some (.int (zI 0))) (zM N, Rf, K, L, n, s0)) : pm_Wc (d + 3) 203 [.ref 56, .int (zI mb)] (zM N, Rf, K, L, n, s0) Q := by
  obtain ⟨vs, es, fr, H, c0, hh, cb, fs, e49, j, s, ch, e46, nv, ea⟩ := cr
  have br : BR N a b st vs es fr H k (pnd t + pdK k) := ⟨c0, hh, cb, fs⟩
  have cb2 : vs + (pnd t + pdK k) ≤ 60 + 60 * st := cb.2.1
  have cb3 : fr + (pnd t + pdK k) ≤ 60 + 60 * st := cb.2.2
  have ks := nv.kd
  have kd := ks.2.1
  have jl := nv.lt
  have pt1 := pnd_is nv.sp
  have mk := nv.mk
  have r47 := hM 56 47
  refine wc_in (ls0 := [some (.ref 56), some (.int (zI mb)), none, none, none]) (by decide) (Nat.le_of_ble_eq_true rfl) rfl rfl ?_
  refine wp_aload_n d203_0 rfl ?_
  refine wp_getR (q := 59) d203_1 rfl (hG.o (by decide) rfl) (by decide) (hG.r (by decide +kernel)) (by decide) ?_
  refine wp_aload_n d203_4 rfl ?_
  refine wz_getI (v := (j : Int)) d203_5 rfl (hG.o (by decide) rfl) (by decide) (e46) ?_
  refine wz_iald (z := 128) (v := 12) d203_8 (hG.a (by decide) rfl rfl) (by omega) (by omega) (by decide) (by rw [kd, hk]; rfl) ?_
  refine wp_istore_n d203_9 (Nat.le_of_ble_eq_true rfl) rfl ?_
  refine wp_iload_n d203_10 rfl ?_
  refine wz_bipush d203_11 (by decide) ?_
  refine wz_icmp_ne (t := 69) d203_13 (by decide) ⟨by omega, by omega⟩ ⟨by omega, by omega⟩ (fun hb => absurd (by omega) hb) (fun _ => ?_)
  refine wp_iload_n d203_16 rfl ?_
  refine wz_if_eq (t := 59) d203_17 (by decide) ⟨by omega, by omega⟩ (fun hb => ?_) (fun hb => ?_)
  · skip
    refine wp_iload_n d203_59 rfl ?_
    refine wz_if_eq (t := 67) d203_60 (by decide) ⟨by omega, by omega⟩ (fun _ => ?_) (fun hb => absurd (by omega) hb)
    refine wz_iconst d203_67 ?_
    have em := mv_12 (ρ := ρ) (k := k) hk
    exact wp_ret d203_68 rfl (h0 _ em hb)
  · skip
    refine wp_aload_n d203_20 rfl ?_
    refine wp_aload_n d203_21 rfl ?_
    refine wp_getR (q := 60) d203_22 rfl (hG.o (by decide) rfl) (by decide) (hG.r (by decide +kernel)) (by decide) ?_
    refine wp_aload_n d203_25 rfl ?_
    refine wz_getI (v := (j : Int)) d203_26 rfl (hG.o (by decide) rfl) (by decide) (e46) ?_
    refine wz_iald (z := 128) (v := 0) d203_29 (hG.a (by decide) rfl rfl) (by omega) (by omega) (by decide) (by rw [mk.2.1 (by omega), hm]; rfl) ?_
    refine wz_if_ne (t := 42) d203_30 (by decide) ⟨by omega, by omega⟩ (fun hb => absurd (by omega) hb) (fun _ => ?_)
    refine wp_aload_n d203_33 rfl ?_
    refine wz_getI (v := (j : Int)) d203_34 rfl (hG.o (by decide) rfl) (by decide) (e46) ?_
    refine wz_iconst d203_37 ?_
    refine wz_iadd d203_38 ?_
    refine wp_goto (t := 52) d203_39 (by decide) ?_
    refine wp_aload_n d203_52 rfl ?_
    refine wz_getI (v := N 56 47) d203_53 rfl (hG.o (by decide) rfl) (by decide) (rfl) ?_
    refine wp_virt (as := [.int (zI (N 56 47)), .int (zI ((j : Int) + 1))]) (rest := []) d203_56 rfl rfl rfl (hG.o (by decide) rfl) rfl rfl (Nat.le_of_ble_eq_true rfl) ?_
    refine wc_deep (show d + 1 + 1 ≤ d + 2 by omega) ?_
    refine m_go hG ?_
    show pm_Wp none (d + 2) 203 59 [some (.ref 56), some (.int (zI mb)), some (.int (zI 12)), none, none] [] (zM (mGo N ((j : Int) + 1) (N 56 47)), Rf, K, L, n, s0) Q
    refine wp_iload_n d203_59 rfl ?_
    refine wz_if_eq (t := 67) d203_60 (by decide) ⟨by omega, by omega⟩ (fun hb => absurd hb (by omega)) (fun _ => ?_)
    refine wz_iconst d203_63 ?_
    refine wp_goto (t := 68) d203_64 (by decide) ?_
    have mb2 : mb = 1 := by omega
    have b2 := br.same (N' := mGo N ((j : Int) + 1) (N 56 47)) (st' := st + 1) (pc' := pnd (nX t) + pdK k) (fun p i hp => mGo_o hp) (by omega) (by omega)
    have kg : ∀ (p : Nat) (i : Int), p ≠ 56 → mGo N ((j : Int) + 1) (N 56 47) p i = N p i := fun p i hp => mGo_o (by omega)
    have em : mv (.inl (t, ρ, k)) = some (true, .inl (nX t, ρ, k)) := by rw [mv_12 hk, hm]; rfl
    exact wp_ret d203_68 rfl (h2 _ _ em mb2 (mGo_R32 hM ⟨by omega, by omega⟩ r47) (MKr.refl N).go ⟨vs, es, fr, H, b2.1, b2.2.1, b2.2.2.1, b2.2.2.2, by show mset _ 56 49 0 56 49 = 0; rw [mset_s], j + 1, s, ch, by show mset (mset (mset N 56 46 _) 56 47 _) 56 49 0 56 46 = _; rw [mset_i' (by omega), mset_i' (by omega), mset_s]; rfl, (nv.x (Or.inr (Or.inr (Or.inr hk)))).keep (fun p i p1 p2 => kg p i (by omega)), by show EA _ es H ch ρ (mset (mset (mset N 56 46 _) 56 47 _) 56 49 0 56 47) s; rw [mset_i' (by omega), mset_s]; exact ea.keep (fun p i p1 p2 => kg p i (by omega)) (fun p i p1 p2 _ _ => kg p i (by omega)) (fun _ _ q => q) (Nat.le_refl _)⟩)
theorem m_enter12b (hG : pm_G Rf K L n) (hM : ∀ p i, R32 (N p i)) (a6 : a ≤ 60) (b6 : b ≤ 60) (st6 : st ≤ 60) (mb1 : mb = 0 ∨ mb = 1) (cr : CR N a b st (.inl (t, ρ, k))) (hk : nKd t = 12) (hm : nMk t = 1) (h2 : ∀ c' N', mv (.inl (t, ρ, k)) = some (true, c') → mb = 1 → (∀ p i, R32 (N' p i)) → MKr N N' → CR N' a b (st + 1) c' → Q (some (.int (zI 2))) (zM N', Rf, K, L, n, s0)) (h0 : ∀ c', mv (.inl (t, ρ, k)) = some (true, c') → mb = 0 → Q (some (.int (zI 0))) (zM N, Rf, K, L, n, s0)) : pm_Wc (d + 3) 203 [.ref 56, .int (zI mb)] (zM N, Rf, K, L, n, s0) Q := by
  obtain ⟨vs, es, fr, H, c0, hh, cb, fs, e49, j, s, ch, e46, nv, ea⟩ := cr
  have br : BR N a b st vs es fr H k (pnd t + pdK k) := ⟨c0, hh, cb, fs⟩
  have cb2 : vs + (pnd t + pdK k) ≤ 60 + 60 * st := cb.2.1
  have cb3 : fr + (pnd t + pdK k) ≤ 60 + 60 * st := cb.2.2
  have ks := nv.kd
  have kd := ks.2.1
  have jl := nv.lt
  have pt1 := pnd_is nv.sp
  have mk := nv.mk
  have r47 := hM 56 47
  refine wc_in (ls0 := [some (.ref 56), some (.int (zI mb)), none, none, none]) (by decide) (Nat.le_of_ble_eq_true rfl) rfl rfl ?_
  refine wp_aload_n d203_0 rfl ?_
  refine wp_getR (q := 59) d203_1 rfl (hG.o (by decide) rfl) (by decide) (hG.r (by decide +kernel)) (by decide) ?_
  refine wp_aload_n d203_4 rfl ?_
  refine wz_getI (v := (j : Int)) d203_5 rfl (hG.o (by decide) rfl) (by decide) (e46) ?_
  refine wz_iald (z := 128) (v := 12) d203_8 (hG.a (by decide) rfl rfl) (by omega) (by omega) (by decide) (by rw [kd, hk]; rfl) ?_
  refine wp_istore_n d203_9 (Nat.le_of_ble_eq_true rfl) rfl ?_
  refine wp_iload_n d203_10 rfl ?_
  refine wz_bipush d203_11 (by decide) ?_
  refine wz_icmp_ne (t := 69) d203_13 (by decide) ⟨by omega, by omega⟩ ⟨by omega, by omega⟩ (fun hb => absurd (by omega) hb) (fun _ => ?_)
  refine wp_iload_n d203_16 rfl ?_
  refine wz_if_eq (t := 59) d203_17 (by decide) ⟨by omega, by omega⟩ (fun hb => ?_) (fun hb => ?_)
  · skip
    refine wp_iload_n d203_59 rfl ?_
    refine wz_if_eq (t := 67) d203_60 (by decide) ⟨by omega, by omega⟩ (fun _ => ?_) (fun hb => absurd (by omega) hb)
    refine wz_iconst d203_67 ?_
    have em := mv_12 (ρ := ρ) (k := k) hk
    exact wp_ret d203_68 rfl (h0 _ em hb)
  · skip
    refine wp_aload_n d203_20 rfl ?_
    refine wp_aload_n d203_21 rfl ?_
    refine wp_getR (q := 60) d203_22 rfl (hG.o (by decide) rfl) (by decide) (hG.r (by decide +kernel)) (by decide) ?_
    refine wp_aload_n d203_25 rfl ?_
    refine wz_getI (v := (j : Int)) d203_26 rfl (hG.o (by decide) rfl) (by decide) (e46) ?_
    refine wz_iald (z := 128) (v := 1) d203_29 (hG.a (by decide) rfl rfl) (by omega) (by omega) (by decide) (by rw [mk.2.1 (by omega), hm]; rfl) ?_
    refine wz_if_ne (t := 42) d203_30 (by decide) ⟨by omega, by omega⟩ (fun _ => ?_) (fun hb => absurd hb (by omega))
    refine wp_aload_n d203_42 rfl ?_
    refine wp_aload_n d203_43 rfl ?_
    refine wz_getI (v := (j : Int)) d203_44 rfl (hG.o (by decide) rfl) (by decide) (e46) ?_
    refine wz_iconst d203_47 ?_
    refine wz_iadd d203_48 ?_
    refine wp_virt (as := [.int (zI ((j : Int) + 1))]) (rest := [.ref 56]) d203_49 rfl rfl rfl (hG.o (by decide) rfl) rfl rfl (Nat.le_of_ble_eq_true rfl) ?_
    have nx := nv.x (Or.inr (Or.inr (Or.inr hk)))
    refine m_behind (lo := 0) (nd := a) (sc := b) (b := true) (i := j + 1) (l := tfl (nX t)) hG (by have := nx.len; show j + 1 + pnd (nX t) ≤ 128; omega) nx.nx.1 nx.nx.2 ?_
    show pm_Wp none (d + 2) 203 52 [some (.ref 56), some (.int (zI mb)), some (.int (zI 12)), none, none] [.int (zI (((j + 1 + pnd (nX t) : Nat) : Int))), .ref 56] (zM N, Rf, K, L, n, s0) Q
    refine wp_aload_n d203_52 rfl ?_
    refine wz_getI (v := N 56 47) d203_53 rfl (hG.o (by decide) rfl) (by decide) (rfl) ?_
    refine wp_virt (as := [.int (zI (N 56 47)), .int (zI (((j + 1 + pnd (nX t) : Nat) : Int)))]) (rest := []) d203_56 rfl rfl rfl (hG.o (by decide) rfl) rfl rfl (Nat.le_of_ble_eq_true rfl) ?_
    refine wc_deep (show d + 1 + 1 ≤ d + 2 by omega) ?_
    refine m_go hG ?_
    show pm_Wp none (d + 2) 203 59 [some (.ref 56), some (.int (zI mb)), some (.int (zI 12)), none, none] [] (zM (mGo N ((j + 1 + pnd (nX t) : Nat) : Int) (N 56 47)), Rf, K, L, n, s0) Q
    refine wp_iload_n d203_59 rfl ?_
    refine wz_if_eq (t := 67) d203_60 (by decide) ⟨by omega, by omega⟩ (fun hb => absurd hb (by omega)) (fun _ => ?_)
    refine wz_iconst d203_63 ?_
    refine wp_goto (t := 68) d203_64 (by decide) ?_
    have mb2 : mb = 1 := by omega
    have b2 := br.same (N' := mGo N ((j + 1 + pnd (nX t) : Nat) : Int) (N 56 47)) (st' := st + 1) (pc' := pnd (nY t) + pdK k) (fun p i hp => mGo_o hp) (by omega) (by omega)
    have kg : ∀ (p : Nat) (i : Int), p ≠ 56 → mGo N ((j + 1 + pnd (nX t) : Nat) : Int) (N 56 47) p i = N p i := fun p i hp => mGo_o (by omega)
    have em : mv (.inl (t, ρ, k)) = some (true, .inl (nY t, ρ, k)) := by rw [mv_12 hk, hm]; rfl
    exact wp_ret d203_68 rfl (h2 _ _ em mb2 (mGo_R32 hM ⟨by omega, by omega⟩ r47) (MKr.refl N).go ⟨vs, es, fr, H, b2.1, b2.2.1, b2.2.2.1, b2.2.2.2, by show mset _ 56 49 0 56 49 = 0; rw [mset_s], j + 1 + pnd (nX t), s, ch, by show mset (mset (mset N 56 46 _) 56 47 _) 56 49 0 56 46 = _; rw [mset_i' (by omega), mset_i' (by omega), mset_s], (nv.y (Or.inr hk)).keep (fun p i p1 p2 => kg p i (by omega)), by show EA _ es H ch ρ (mset (mset (mset N 56 46 _) 56 47 _) 56 49 0 56 47) s; rw [mset_i' (by omega), mset_s]; exact ea.keep (fun p i p1 p2 => kg p i (by omega)) (fun p i p1 p2 _ _ => kg p i (by omega)) (fun _ _ q => q) (Nat.le_refl _)⟩)
theorem m_enter (hG : pm_G Rf K L n) (hM : ∀ p i, R32 (N p i)) (a6 : a ≤ 60) (b6 : b ≤ 60) (st6 : st ≤ 60) (mb1 : mb = 0 ∨ mb = 1) (cr : CR N a b st (.inl (t, ρ, k))) (h : ∀ c' N', mv (.inl (t, ρ, k)) = some (false, c') → (∀ p i, R32 (N' p i)) → MKr N N' → CR N' a b st c' → Q (some (.int (zI 1))) (zM N', Rf, K, L, n, s0)) (h2 : ∀ c' N', mv (.inl (t, ρ, k)) = some (true, c') → mb = 1 → (∀ p i, R32 (N' p i)) → MKr N N' → CR N' a b (st + 1) c' → Q (some (.int (zI 2))) (zM N', Rf, K, L, n, s0)) (h0 : ∀ c', mv (.inl (t, ρ, k)) = some (true, c') → mb = 0 → Q (some (.int (zI 0))) (zM N, Rf, K, L, n, s0)) : pm_Wc (d + 3) 203 [.ref 56, .int (zI mb)] (zM N, Rf, K, L, n, s0) Q := by
  have cr' := cr
  obtain ⟨vs, es, fr, H, c0, hh, cb, fs, e49, j, s, ch, e46, nv, ea⟩ := cr'
  have kd := nv.kd.1
  have m2 := nv.mk.2.2.2.2
  have : nKd t = 5 ∨ nKd t = 6 ∨ nKd t = 7 ∨ nKd t = 8 ∨ nKd t = 9 ∨ nKd t = 10 ∨ nKd t = 11 ∨ nKd t = 12 := by omega
  rcases this with e | e | e | e | e | e | e | e
  · exact m_enter5 hG hM a6 b6 st6 mb1 cr e h
  · exact m_enter6 hG hM a6 b6 st6 mb1 cr e h
  · exact m_enter7 hG hM a6 b6 st6 mb1 cr e h
  · exact m_enter8 hG hM a6 b6 st6 mb1 cr e h
  · exact m_enter9 hG hM a6 b6 st6 mb1 cr e h
  · by_cases q : nMk t = 0
    · exact m_enter10a hG hM a6 b6 st6 mb1 cr e q h
    · exact m_enter10b hG hM a6 b6 st6 mb1 cr e q h
  · exact m_enter11 hG hM a6 b6 st6 mb1 cr e h
  · have := m2 e
    have : nMk t = 0 ∨ nMk t = 1 := by omega
    rcases this with q | q
    · exact m_enter12a hG hM a6 b6 st6 mb1 cr e q h2 h0
    · exact m_enter12b hG hM a6 b6 st6 mb1 cr e q h2 h0
end PmG12
