/-! THE CLASS: joinOfForms, but for records. -/
section PmC20
variable {d : Nat}
set_option maxRecDepth 20000 in
set_option maxHeartbeats 2000000 in
theorem c_joinForms {F : Nat} (IHj : JC 0 52 d F) (IHm : JC 1 55 d F) {Γ : List Ty} {S T : Ty} {i j : Int} {deep : Nat} {M : pm_M} {Rf : Nat → Nat → Nat} {K L : Nat → Nat} {n s z : Nat} {cn : Int} {Q : Option Value → pm_S → Prop} (bh : BH M Rf K L n z cn Γ S T i j) (top : ndf M Rf cn 1 tTop 0) (nb : ¬ bel Γ S T = true) (nb' : ¬ bel Γ T S = true) (vS : ¬ 16 ≤ hd S) (vT : ¬ 16 ≤ hd T) (hh : hgt (oh Γ) S + hgt (oh Γ) T ≤ 2 * F + 2) (hc : cn + (nbm 0 Γ S T : Nat) + 16 * ((hgt (oh Γ) S + hgt (oh Γ) T : Nat) : Int) ≤ 16384) (hdp : deep + F + 1 ≤ 40) (hΓ : Γ.length + F + 1 ≤ 64) (hw : 17 * gn (0, Γ, S, T) ≤ 1000000) (hrec : (8 ≤ hd S ∧ hd S < 16) ∧ (8 ≤ hd T ∧ hd T < 16) → pm_Wp none (d + 8 * F + 92) 53 9 [some (.ref 6), some (.int (zI i)), some (.int (zI j)), some (.int (zI (Γ.length : Int))), some (.int (zI (deep : Int))), none, none] [] (zM M, Rf, K, L, n, s) Q) (h : ∀ (M' : pm_M) (Rf' : Nat → Nat → Nat) (K' L' : Nat → Nat) (n' s' z' : Nat) (cn' r : Int), CX (WB Γ.length) M Rf K L n s z cn M' Rf' K' L' n' s' z' → M' 6 6 = cn' → cn ≤ cn' → cn' ≤ cn + (nbm 0 Γ S T : Nat) → cn' ≤ z' → JR M' Rf' cn' (16 + F + 1) (cmu 0 Γ S T) r → Q (some (.int (zI r))) (zM M', Rf', K', L', n', s')) : pm_Wc (d + 8 * F + 93) 53 [.ref 6, .int (zI i), .int (zI j), .int (zI (Γ.length : Int)), .int (zI (deep : Int))] (zM M, Rf, K, L, n, s) Q := by
  have bh0 := bh
  obtain ⟨hG, hR, hM, hcn, c1, cz, tk, bn, nS, nT, lS, lT⟩ := bh
  have hn := hG.1
  have hz := hR.2.2.2.2
  have oS : ok Γ.length S = true := tk.2.1
  have oT : ok Γ.length T = true := tk.2.2
  have hcx : okc Γ := tk.1
  have cS := cc_small oS (by omega)
  have cT := cc_small oT (by omega)
  have tkb' : tkb 16 Γ S T := ⟨tk, fun k hk => (bn k hk).2, lS, lT⟩
  have idn : ∀ g, g < 5 → ∀ i : Int, 0 ≤ i → i < cn → M (Rf 6 g) i = M (Rf 6 g) i := fun _ _ _ _ _ => rfl
  have nS0 := nS
  have nT0 := nT
  obtain ⟨⟨i0, i1, iC, -, iL⟩, iP⟩ := nS
  obtain ⟨⟨j0, j1, jC, -, jL⟩, jP⟩ := nT
  have minus : cmu 0 Γ S T = some tTop → ∀ (M' : pm_M) (Rf' : Nat → Nat → Nat) (K' L' : Nat → Nat) (n' s' z' : Nat) (cn' : Int), CX (WB Γ.length) M Rf K L n s z cn M' Rf' K' L' n' s' z' → M' 6 6 = cn' → cn ≤ cn' → cn' ≤ cn + (nbm 0 Γ S T : Nat) → cn' ≤ z' → Q (some (.int (zI 0))) (zM M', Rf', K', L', n', s') := fun e M' Rf' K' L' n' s' z' cn' a b c dd f => h M' Rf' K' L' n' s' z' cn' 0 a b c dd f (by rw [e]; exact ndf_mono a.nodes c (by omega) top)
  refine wc_in (ls0 := [some (.ref 6), some (.int (zI i)), some (.int (zI j)), some (.int (zI (Γ.length : Int))), some (.int (zI (deep : Int))), none, none]) (by decide) (Nat.le_of_ble_eq_true rfl) rfl rfl ?_
  refine wp_aload_n d53_0 rfl ?_
  refine wp_iload_n d53_1 rfl ?_
  refine wp_iload_n d53_2 rfl ?_
  refine wp_virt (as := [.int (zI j), .int (zI i)]) (rest := []) d53_3 rfl rfl rfl (hG.o (by decide) rfl) rfl rfl (Nat.le_of_ble_eq_true rfl) ?_
  refine c_areRecs (c := hd S) (c' := hd T) hG hR i0 (by omega) iC cS j0 (by omega) jC cT (fun hr => ?_) (fun hr => ?_)
  · refine wz_if_eq (t := 57) d53_6 (by decide) ⟨by omega, by omega⟩ (fun hb => absurd hb (by decide)) (fun _ => ?_)
    exact hrec hr
  refine wz_if_eq (t := 57) d53_6 (by decide) ⟨by omega, by omega⟩ (fun _ => ?_) (fun hb => absurd (by decide) hb)
  refine wp_aload_n d53_57 rfl ?_
  refine wp_getR (q := Rf 6 0) d53_58 rfl (hG.o (by decide) rfl) (by decide) rfl (hR.1 0 (by decide)).1 ?_
  refine wp_iload_n d53_61 rfl ?_
  refine wz_iald (z := z) (v := (cc (hd S) : Int)) d53_62 (hR.1 0 (by decide)) i0 (by omega) (by omega) (iC) ?_
  refine wp_aload_n d53_63 rfl ?_
  refine wp_getR (q := Rf 6 0) d53_64 rfl (hG.o (by decide) rfl) (by decide) rfl (hR.1 0 (by decide)).1 ?_
  refine wp_iload_n d53_67 rfl ?_
  refine wz_iald (z := z) (v := (cc (hd T) : Int)) d53_68 (hR.1 0 (by decide)) j0 (by omega) (by omega) (jC) ?_
  refine wz_icmp_eq (t := 74) d53_69 (by decide) ⟨by omega, by omega⟩ ⟨by omega, by omega⟩ (fun hb => ?_) (fun hb => ?_)
  rotate_left
  · have hne : hd S ≠ hd T := fun e => hb (by rw [e])
    have hrr : ¬ (8 ≤ hd S ∧ 8 ≤ hd T) := by omega
    refine wz_iconst d53_72 ?_
    exact wp_ret d53_73 rfl (minus (cu_no tk (by decide) nb nb' vS vT hrr hne) M Rf K L n s z cn (CX.refl hG hR hM) hcn (Int.le_refl _) (by omega) cz)
  have he : hd S = hd T := cc_eq (by omega)
  have ccs := cc_cases (hd S)
  refine wp_aload_n d53_74 rfl ?_
  refine wp_getR (q := Rf 6 0) d53_75 rfl (hG.o (by decide) rfl) (by decide) rfl (hR.1 0 (by decide)).1 ?_
  refine wp_iload_n d53_78 rfl ?_
  refine wz_iald (z := z) (v := (cc (hd S) : Int)) d53_79 (hR.1 0 (by decide)) i0 (by omega) (by omega) (iC) ?_
  refine wz_bipush d53_80 (by decide) ?_
  refine wz_icmp_ne (t := 151) d53_82 (by decide) ⟨by omega, by omega⟩ ⟨by omega, by omega⟩ (fun hf => ?_) (fun hf => ?_)
  · -- schemes
    have h2 : hd S = 2 := by
      rcases ok_cases oS with rfl | ⟨k, hk, rfl⟩ | ⟨a, b, rfl, ha, hb⟩ | ⟨a, b, rfl, ha, hb⟩ | ⟨m, x, y, w, hm, rfl, q0, q1, q2⟩
      · rw [hd_top] at he; exact absurd (bel_top tk he.symm) nb
      · rw [hd_var] at vS; omega
      · rw [hd_fun] at ccs hf; omega
      · rfl
      · rw [hd_rec] at he hr; omega
    obtain ⟨A, b, rfl, oA, ob⟩ := hd_is_all oS h2
    obtain ⟨A', b', rfl, oA', ob'⟩ := hd_is_all oT (by omega)
    have fA : ndf M Rf cn 15 A (M (Rf 6 1) i) := iP 0 (by decide) (hp_all A b).1
    have fb : ndf M Rf cn 15 b (M (Rf 6 2) i) := iP 1 (by decide) (hp_all A b).2.1
    have fA' : ndf M Rf cn 15 A' (M (Rf 6 1) j) := jP 0 (by decide) (hp_all A' b').1
    have fb' : ndf M Rf cn 15 b' (M (Rf 6 2) j) := jP 1 (by decide) (hp_all A' b').2.1
    have lA : (flat A).length + (flat b).length + 1 ≤ 16 := by rw [flat_all, List.length_cons, List.length_append] at lS; omega
    have lA' : (flat A').length + (flat b').length + 1 ≤ 16 := by rw [flat_all, List.length_cons, List.length_append] at lT; omega
    have hgS : hgt (oh Γ) (tAll A b) = 1 + max (hgt (oh Γ) A) (hgt (hgt (oh Γ) A :: oh Γ) b) := hgt_all _ _ _
    have hgT : hgt (oh Γ) (tAll A' b') = 1 + max (hgt (oh Γ) A') (hgt (hgt (oh Γ) A' :: oh Γ) b') := hgt_all _ _ _
    refine wp_aload_n d53_151 rfl ?_
    refine wp_iload_n d53_152 rfl ?_
    refine wp_iload_n d53_153 rfl ?_
    refine wp_virt (as := [.int (zI j), .int (zI i)]) (rest := []) d53_154 rfl rfl rfl (hG.o (by decide) rfl) rfl rfl (Nat.le_of_ble_eq_true rfl) ?_
    refine c_sameBound (N := 15) (N' := 15) hG hR hM cz i0 i1 j0 j1 fA fA' oA oA' (by omega) (by decide) (fun eA => ?_) (fun eA => ?_)
    · subst eA
      have nbe := nbm_all (w := 0) tk (by decide) nb nb'
      have ev := cu_all (w := 0) tk (by decide) nb nb'
      refine wz_if_eq (t := 174) d53_157 (by decide) ⟨by omega, by omega⟩ (fun hb => absurd hb (by decide)) (fun _ => ?_)
      refine wp_aload_n d53_160 rfl ?_
      refine wp_aload_n d53_161 rfl ?_
      refine wp_getR (q := Rf 6 1) d53_162 rfl (hG.o (by decide) rfl) (by decide) rfl (hR.1 1 (by decide)).1 ?_
      refine wp_iload_n d53_165 rfl ?_
      refine wz_iald (z := z) (v := M (Rf 6 1) i) d53_166 (hR.1 1 (by decide)) i0 (by omega) (by omega) (rfl) ?_
      refine wp_iload_n d53_167 rfl ?_
      refine wp_virt (as := [.int (zI (Γ.length : Int)), .int (zI (M (Rf 6 1) i))]) (rest := []) d53_168 rfl rfl rfl (hG.o (by decide) rfl) rfl rfl (Nat.le_of_ble_eq_true rfl) ?_
      refine c_openOne hG (by omega) ?_
      refine wz_if_ne (t := 176) d53_171 (by decide) ⟨by omega, by omega⟩ (fun _ => ?_) (fun hb => absurd hb (by decide))
      have cx' : CX (WB Γ.length) M Rf K L n s z cn (mset M 12 Γ.length (M (Rf 6 1) i)) Rf K L n s z := (CX.refl hG hR hM).set (fun g hg => (hR.ne12 hg).symm) (Or.inr ⟨rfl, Int.le_refl _⟩) (hM _ _)
      have keep : ∀ g, g < 5 → ∀ k : Int, 0 ≤ k → k < cn → mset M 12 Γ.length (M (Rf 6 1) i) (Rf 6 g) k = M (Rf 6 g) k := fun g hg k _ _ => mset_p _ _ _ _ (hR.ne12 hg)
      have bnA : BN (mset M 12 Γ.length (M (Rf 6 1) i)) Rf cn (A :: Γ) := BN.cons (bn.mono keep (fun k hk => mset_i _ _ _ _ (by omega)) (Int.le_refl _)) (by rw [mset_s]; exact ndf_mono keep (Int.le_refl _) (by decide) fA) (by omega)
      refine wp_aload_n d53_176 rfl ?_
      refine wp_aload_n d53_177 rfl ?_
      refine wp_getR (q := Rf 6 2) d53_178 rfl (hG.o (by decide) rfl) (by decide) rfl (hR.1 2 (by decide)).1 ?_
      refine wp_iload_n d53_181 rfl ?_
      refine wz_iald (z := z) (v := M (Rf 6 2) i) d53_182 (hR.1 2 (by decide)) i0 (by omega) (by omega) (keep 2 (by decide) i i0 i1) ?_
      refine wp_aload_n d53_183 rfl ?_
      refine wp_getR (q := Rf 6 2) d53_184 rfl (hG.o (by decide) rfl) (by decide) rfl (hR.1 2 (by decide)).1 ?_
      refine wp_iload_n d53_187 rfl ?_
      refine wz_iald (z := z) (v := M (Rf 6 2) j) d53_188 (hR.1 2 (by decide)) j0 (by omega) (by omega) (keep 2 (by decide) j j0 j1) ?_
      refine wp_iload_n d53_189 rfl ?_
      refine wz_iconst d53_190 ?_
      refine wz_iadd d53_191 ?_
      refine wp_iload d53_192 rfl ?_
      refine wz_iconst d53_194 ?_
      refine wz_iadd d53_195 ?_
      refine wp_virt (as := [.int (zI ((deep : Int) + 1)), .int (zI ((Γ.length : Int) + 1)), .int (zI (M (Rf 6 2) j)), .int (zI (M (Rf 6 2) i))]) (rest := []) d53_196 rfl rfl rfl (hG.o (by decide) rfl) rfl rfl (Nat.le_of_ble_eq_true rfl) ?_
      refine wc_deep (show d + 8 * F + 90 ≤ d + 8 * F + 92 by omega) ?_
      have hA1 : hgt (oh (A :: Γ)) b = hgt (hgt (oh Γ) A :: oh Γ) b := rfl
      have hA2 : hgt (oh (A :: Γ)) b' = hgt (hgt (oh Γ) A :: oh Γ) b' := rfl
      have hw' : 17 * gn (0, A :: Γ, b, b') ≤ 1000000 := by
        have g := (gm_all (w := 0) tk (by decide) nb nb').2
        omega
      refine IHj (A :: Γ) b b' _ _ (deep + 1) (mset M 12 Γ.length (M (Rf 6 1) i)) Rf K L n s z cn _ ⟨hG, hR, cx'.r32, by rw [mset_p _ _ _ _ (by decide)]; exact hcn, c1, cz, ⟨⟨oA, hcx⟩, ob, ob'⟩, bnA, ndf_mono keep (Int.le_refl _) (by decide) fb, ndf_mono keep (Int.le_refl _) (by decide) fb', by omega, by omega⟩ (ndf_mono keep (Int.le_refl _) (Nat.le_refl _) top) (by rw [hA1, hA2]; omega) (by rw [hA1, hA2]; omega) (by omega) (by rw [List.length_cons]; omega) hw' (fun M1 R1 K1 L1 n1 s1 z1 cn1 r cx1 u1 u2 u3 u4 jr => ?_)
      have cxx : CX (WB Γ.length) M Rf K L n s z cn M1 R1 K1 L1 n1 s1 z1 := cx'.trans (cx1.weak (fun p q hw => by unfold WB at hw ⊢; rw [List.length_cons] at hw; omega)) (Int.le_refl _)
      have hz1 := cxx.r.2.2.2.2
      refine wp_istore d53_199 (Nat.le_of_ble_eq_true rfl) rfl ?_
      obtain ⟨B, eb⟩ := cmu_zero (Γ := A :: Γ) (S := b) (T := b') ⟨⟨oA, hcx⟩, ob, ob'⟩
      · rw [eb] at jr ev
        have jr : ndf M1 R1 cn1 (16 + F) B r := jr
        have rr := ndf_rng jr
        have ev : cmu 0 Γ (tAll A b) (tAll A b') = some (tAll A B) := ev
        obtain ⟨oR, lR⟩ := cmu_ok tkb' ev
        have nA1 : ndf M1 R1 cn1 15 A (M (Rf 6 1) i) := ndf_mono cxx.nodes u2 (Nat.le_refl _) fA
        have la := ndf_rng nA1
        have X0f : XF M1 R1 cn1 (16 + F) (tAll A B) 0 (M (Rf 6 1) i) := ⟨la.1, la.2, fun _ => ndf_mono (fun _ _ _ _ _ => rfl) (Int.le_refl _) (by omega) nA1⟩
        have X1f : XF M1 R1 cn1 (16 + F) (tAll A B) 1 r := ⟨rr.1, rr.2, fun _ => jr⟩
        have X2f : XF M1 R1 cn1 (16 + F) (tAll A B) 2 0 := ⟨Int.le_refl _, by omega, fun hb => by rw [(hp_all A B).2.2] at hb; cases hb⟩
        have s0 := X0f.size oR (by decide)
        have s1' := X1f.size oR (by decide)
        have s2' := X2f.size oR (by decide)
        rw [(pt_all A B).1] at s0
        rw [(pt_all A B).2.1] at s1'
        rw [(pt_all A B).2.2] at s2'
        have s2'' : psz M1 R1 (cc (hd (tAll A B))) 2 0 = 0 := s2'
        have flR : (flat (tAll A B)).length = 1 + ((flat A).length + (flat B).length) := by
          rw [flat_all, List.length_cons, List.length_append]; omega
        refine wp_aload_n d53_201 rfl ?_
        refine wz_bipush d53_202 (by decide) ?_
        refine wp_aload_n d53_204 rfl ?_
        refine wp_getR (q := R1 6 1) d53_205 rfl (cxx.g.o (by decide) rfl) (by decide) rfl (cxx.r.1 1 (by decide)).1 ?_
        refine wp_iload_n d53_208 rfl ?_
        refine wz_iald (z := z1) (v := M (Rf 6 1) i) d53_209 (cxx.r.1 1 (by decide)) i0 (by omega) (by omega) (cxx.nodes 1 (by decide) i i0 i1) ?_
        refine wp_iload d53_210 rfl ?_
        refine wz_iconst d53_212 ?_
        refine wp_virt (as := [.int (zI 0), .int (zI r), .int (zI (M (Rf 6 1) i)), .int (zI (cc (hd (tAll A B)) : Int))]) (rest := []) d53_213 rfl rfl rfl (cxx.g.o (by decide) rfl) rfl rfl (Nat.le_of_ble_eq_true rfl) ?_
        refine c_make cxx.g cxx.r cxx.r32 u1 u4 (by omega) (by show 35 < 1000000; decide) la.1 la.2 rr.1 rr.2 (Int.le_refl _) (by omega) (by rw [s0]; omega) (by rw [s1']; omega) (by rw [s2'']; decide) (fun M4 R4 K4 L4 n4 s4 z4 mk => ?_)
        have nd4 := mk.ndf oR (by omega) X0f X1f X2f
        have mcx := mk.cx
        obtain ⟨-, m6, mz, -⟩ := mk
        refine wp_ret d53_216 rfl (h M4 R4 K4 L4 n4 s4 z4 (cn1 + 1) cn1 (cxx.trans (mcx.weak (fun p q hw => Or.inl hw)) u2) m6 (by omega) (by omega) (by omega) ?_)
        rw [ev]
        exact nd4
    · refine wz_if_eq (t := 174) d53_157 (by decide) ⟨by omega, by omega⟩ (fun _ => ?_) (fun hb => absurd (by decide) hb)
      refine wz_iconst d53_174 ?_
      exact wp_ret d53_175 rfl (minus (cu_alln tk (by decide) nb nb' (fun e => eA (flat_eq oA oA' e))) M Rf K L n s z cn (CX.refl hG hR hM) hcn (Int.le_refl _) (by omega) cz)
  · -- functions
    obtain ⟨a, b, rfl, oa, ob⟩ := hd_is_fun oS (by omega)
    obtain ⟨a', b', rfl, oa', ob'⟩ := hd_is_fun oT (by rw [hd_fun] at he; omega)
    have fa : ndf M Rf cn 15 a (M (Rf 6 1) i) := iP 0 (by decide) (hp_fun a b).1
    have fb : ndf M Rf cn 15 b (M (Rf 6 2) i) := iP 1 (by decide) (hp_fun a b).2.1
    have fa' : ndf M Rf cn 15 a' (M (Rf 6 1) j) := jP 0 (by decide) (hp_fun a' b').1
    have fb' : ndf M Rf cn 15 b' (M (Rf 6 2) j) := jP 1 (by decide) (hp_fun a' b').2.1
    have la : (flat a).length + (flat b).length + 1 ≤ 16 := by rw [flat_fun, List.length_cons, List.length_append] at lS; omega
    have la' : (flat a').length + (flat b').length + 1 ≤ 16 := by rw [flat_fun, List.length_cons, List.length_append] at lT; omega
    have nbe : nbm 0 Γ (tFun a b) (tFun a' b') = nbm 1 Γ a a' + nbm 0 Γ b b' + 1 := nbm_fun (w := 0) tk (by decide) nb nb'
    have hwf : gn (1, Γ, a, a') + gn (0, Γ, b, b') + 1 ≤ gn (0, Γ, tFun a b, tFun a' b') := (gm_fun (w := 0) tk (by decide) nb nb').2
    have ev := cu_fun (w := 0) tk (by decide) nb nb'
    have hw0 := hw
    rw [hgt_fun, hgt_fun] at hh hc
    have ev : cmu 0 Γ (tFun a b) (tFun a' b') = uFun 0 (cmu 1 Γ a a') (cmu 0 Γ b b') := ev
    obtain ⟨B, eB⟩ := cmu_zero (Γ := Γ) (S := b) (T := b') ⟨hcx, ob, ob'⟩
    rw [eB] at ev
    refine wp_aload_n d53_85 rfl ?_
    refine wp_aload_n d53_86 rfl ?_
    refine wp_getR (q := Rf 6 1) d53_87 rfl (hG.o (by decide) rfl) (by decide) rfl (hR.1 1 (by decide)).1 ?_
    refine wp_iload_n d53_90 rfl ?_
    refine wz_iald (z := z) (v := M (Rf 6 1) i) d53_91 (hR.1 1 (by decide)) i0 (by omega) (by omega) (rfl) ?_
    refine wp_aload_n d53_92 rfl ?_
    refine wp_getR (q := Rf 6 1) d53_93 rfl (hG.o (by decide) rfl) (by decide) rfl (hR.1 1 (by decide)).1 ?_
    refine wp_iload_n d53_96 rfl ?_
    refine wz_iald (z := z) (v := M (Rf 6 1) j) d53_97 (hR.1 1 (by decide)) j0 (by omega) (by omega) (rfl) ?_
    refine wp_iload_n d53_98 rfl ?_
    refine wp_iload d53_99 rfl ?_
    refine wz_iconst d53_101 ?_
    refine wz_iadd d53_102 ?_
    refine wp_virt (as := [.int (zI ((deep : Int) + 1)), .int (zI (Γ.length : Int)), .int (zI (M (Rf 6 1) j)), .int (zI (M (Rf 6 1) i))]) (rest := []) d53_103 rfl rfl rfl (hG.o (by decide) rfl) rfl rfl (Nat.le_of_ble_eq_true rfl) ?_
    refine wc_deep (show d + 8 * F + 90 ≤ d + 8 * F + 92 by omega) ?_
    refine IHm Γ a a' _ _ (deep + 1) M Rf K L n s z cn _ ⟨hG, hR, hM, hcn, c1, cz, ⟨hcx, oa, oa'⟩, bn, ndf_mono idn (Int.le_refl _) (by decide) fa, ndf_mono idn (Int.le_refl _) (by decide) fa', by omega, by omega⟩ top (by omega) (by omega) (by omega) (by omega) (by omega) (fun M1 R1 K1 L1 n1 s1 z1 cn1 r cx1 u1 u2 u3 u4 jr => ?_)
    have hz1 := cx1.r.2.2.2.2
    refine wp_istore d53_106 (Nat.le_of_ble_eq_true rfl) rfl ?_
    refine wp_iload d53_108 rfl ?_
    refine wz_iconst d53_110 ?_
    cases ea : cmu 1 Γ a a' with
    | none =>
      rw [ea] at jr ev
      have jr : r = -1 := jr
      subst jr
      refine wz_icmp_ne (t := 116) d53_111 (by decide) ⟨by omega, by omega⟩ ⟨by omega, by omega⟩ (fun hb => absurd (by decide) hb) (fun _ => ?_)
      refine wz_iconst d53_114 ?_
      exact wp_ret d53_115 rfl (minus ev M1 R1 K1 L1 n1 s1 z1 cn1 cx1 u1 u2 (by omega) u4)
    | some P =>
      rw [ea] at jr ev
      have jr : ndf M1 R1 cn1 (16 + F) P r := jr
      have rr := ndf_rng jr
      have ev : cmu 0 Γ (tFun a b) (tFun a' b') = some (tFun P B) := ev
      obtain ⟨oR, lR⟩ := cmu_ok tkb' ev
      refine wz_icmp_ne (t := 116) d53_111 (by decide) ⟨by omega, by omega⟩ ⟨by omega, by omega⟩ (fun _ => ?_) (fun hb => absurd hb (by omega))
      refine wp_aload_n d53_116 rfl ?_
      refine wp_aload_n d53_117 rfl ?_
      refine wp_getR (q := R1 6 2) d53_118 rfl (cx1.g.o (by decide) rfl) (by decide) rfl (cx1.r.1 2 (by decide)).1 ?_
      refine wp_iload_n d53_121 rfl ?_
      refine wz_iald (z := z1) (v := M (Rf 6 2) i) d53_122 (cx1.r.1 2 (by decide)) i0 (by omega) (by omega) (cx1.nodes 2 (by decide) i i0 i1) ?_
      refine wp_aload_n d53_123 rfl ?_
      refine wp_getR (q := R1 6 2) d53_124 rfl (cx1.g.o (by decide) rfl) (by decide) rfl (cx1.r.1 2 (by decide)).1 ?_
      refine wp_iload_n d53_127 rfl ?_
      refine wz_iald (z := z1) (v := M (Rf 6 2) j) d53_128 (cx1.r.1 2 (by decide)) j0 (by omega) (by omega) (cx1.nodes 2 (by decide) j j0 j1) ?_
      refine wp_iload_n d53_129 rfl ?_
      refine wp_iload d53_130 rfl ?_
      refine wz_iconst d53_132 ?_
      refine wz_iadd d53_133 ?_
      refine wp_virt (as := [.int (zI ((deep : Int) + 1)), .int (zI (Γ.length : Int)), .int (zI (M (Rf 6 2) j)), .int (zI (M (Rf 6 2) i))]) (rest := []) d53_134 rfl rfl rfl (cx1.g.o (by decide) rfl) rfl rfl (Nat.le_of_ble_eq_true rfl) ?_
      refine wc_deep (show d + 8 * F + 90 ≤ d + 8 * F + 92 by omega) ?_
      refine IHj Γ b b' _ _ (deep + 1) M1 R1 K1 L1 n1 s1 z1 cn1 _ ⟨cx1.g, cx1.r, cx1.r32, u1, by omega, u4, ⟨hcx, ob, ob'⟩, cx1.bn hR hn (Nat.le_refl _) u2 bn, ndf_mono cx1.nodes u2 (by decide) fb, ndf_mono cx1.nodes u2 (by decide) fb', by omega, by omega⟩ (ndf_mono cx1.nodes u2 (Nat.le_refl _) top) (by omega) (by omega) (by omega) (by omega) (by omega) (fun M2 R2 K2 L2 n2 s2 z2 cn2 q cx2 v1 v2 v3 v4 jq => ?_)
      rw [eB] at jq
      have jq : ndf M2 R2 cn2 (16 + F) B q := jq
      have qq := ndf_rng jq
      have cxx := cx1.trans cx2 u2
      have jr2 : ndf M2 R2 cn2 (16 + F) P r := ndf_mono cx2.nodes v2 (Nat.le_refl _) jr
      have X0f : XF M2 R2 cn2 (16 + F) (tFun P B) 0 r := ⟨rr.1, by omega, fun _ => jr2⟩
      have X1f : XF M2 R2 cn2 (16 + F) (tFun P B) 1 q := ⟨qq.1, qq.2, fun _ => jq⟩
      have X2f : XF M2 R2 cn2 (16 + F) (tFun P B) 2 0 := ⟨Int.le_refl _, by omega, fun hb => by rw [(hp_fun P B).2.2] at hb; cases hb⟩
      have s0 := X0f.size oR (by decide)
      have s1' := X1f.size oR (by decide)
      have s2' := X2f.size oR (by decide)
      rw [(pt_fun P B).1] at s0
      rw [(pt_fun P B).2.1] at s1'
      have s2'' : psz M2 R2 (cc (hd (tFun P B))) 2 0 = 0 := s2'
      have flR : (flat (tFun P B)).length = 1 + ((flat P).length + (flat B).length) := by
        rw [flat_fun, List.length_cons, List.length_append]; omega
      refine wp_istore d53_137 (Nat.le_of_ble_eq_true rfl) rfl ?_
      refine wp_aload_n d53_139 rfl ?_
      refine wz_bipush d53_140 (by decide) ?_
      refine wp_iload d53_142 rfl ?_
      refine wp_iload d53_144 rfl ?_
      refine wz_iconst d53_146 ?_
      refine wp_virt (as := [.int (zI 0), .int (zI q), .int (zI r), .int (zI (cc (hd (tFun P B)) : Int))]) (rest := []) d53_147 rfl rfl rfl (cxx.g.o (by decide) rfl) rfl rfl (Nat.le_of_ble_eq_true rfl) ?_
      refine c_make cxx.g cxx.r cxx.r32 v1 v4 (by omega) (by show 19 < 1000000; decide) rr.1 (by omega) qq.1 qq.2 (Int.le_refl _) (by omega) (by rw [s0]; omega) (by rw [s1']; omega) (by rw [s2'']; decide) (fun M4 R4 K4 L4 n4 s4 z4 mk => ?_)
      have nd4 := mk.ndf oR (by omega) X0f X1f X2f
      have mcx := mk.cx
      obtain ⟨-, m6, mz, -⟩ := mk
      refine wp_ret d53_150 rfl (h M4 R4 K4 L4 n4 s4 z4 (cn2 + 1) cn2 (cxx.trans (mcx.weak (fun p q hw => Or.inl hw)) (by omega)) m6 (by omega) (by omega) (by omega) ?_)
      rw [ev]
      exact nd4
end PmC20
