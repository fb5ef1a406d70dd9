/-! THE MODEL: a part of a record is put in, and what comes next. -/
section PmG15
variable {d : Nat} {Q : Option Value → pm_S → Prop} {N : pm_M} {Rf : Nat → Nat → Nat} {K L : Nat → Nat} {n s0 : Nat} {a b : Nat} {t ρ w v : Ty} {st vs es q g pc : Nat} {H : Int → Option Ty} {k : List Fr}
/-- a part of a record that is being made -/
theorem BR.part {i res : Int} (h : BR N a b st vs es (q + 1) H ((t, ρ, w, g) :: k) pc) (hk : nKd t = 10) (e97 : N 97 (q : Int) = i) (hv : H res = some v) (hg : g < 3) : Kpm N (mset N 93 (3 * i + g) res) vs es H ∧ FRs (mset N 93 (3 * i + g) res) a b es H k q i ∧ (0 ≤ i ∧ i < vs) ∧ H i = none := by
  obtain ⟨⟨c1, c2, c3⟩, h1, ⟨h2, h3, h4⟩, h5⟩ := h
  obtain ⟨h6, h7⟩ := h5.below
  have h7 : FRs N a b es H k q (if nKd t = 10 then N 97 (q : Int) else (vs : Int)) := h7
  rw [if_pos hk, e97] at h7
  obtain ⟨-, -, j, s, ch, -, -, -, -, g7⟩ := h6
  obtain ⟨-, -, g3, g4, -⟩ := g7 hk
  rw [e97] at g3 g4
  have kp : Kpm N (mset N 93 (3 * i + g) res) vs es H := ⟨fun p x p1 p2 => mset_i' (by omega), fun p x p1 p2 _ _ => mset_i' (by omega), fun p x p1 p2 _ _ => mset_i' (by omega), fun x y hx hy => mset_i' (fun e => hx (by rw [show x = i by omega]; exact g4))⟩
  exact ⟨kp, h7.keep kp (fun _ _ x => x) (Nat.le_refl _) (Int.le_refl _) (by omega) (fun p x p1 p2 _ _ => mset_i' (by omega)) (fun x x0 x1 hn => ⟨hn, fun y hy => mset_i' (by omega)⟩), g3, g4⟩

theorem m_fillP (hG : pm_G Rf K L n) (hM : ∀ p i, R32 (N p i)) (a6 : a ≤ 60) (b6 : b ≤ 60) (st6 : st ≤ 60) (hk : nKd t = 10) (br : BR N a b st vs es (q + 1) H ((t, ρ, w, g) :: k) (pdF (t, ρ, w, g) + pdK k)) (hv : H (N 56 48) = some v) (hQ : ∀ N', (∀ p i, R32 (N' p i)) → MKr N N' → CR N' a b st (rGo t ρ (sP w g v) k (g + 1)) → Q none (zM N', Rf, K, L, n, s0)) : pm_Wc (d + 3) 204 [.ref 56, .int (zI (q : Int))] (zM N, Rf, K, L, n, s0) Q := by
  obtain ⟨q', eq', fm⟩ := br.top
  have eq' : q' = q := by omega
  subst eq'
  have fm0 := fm
  obtain ⟨f1, f2, j, s, ch, nv, ea, -, -, f7⟩ := fm
  have nv : NV N a b t j s ch := nv
  have ea : EA N es H ch ρ (N 96 (q' : Int)) s := ea
  obtain ⟨⟨hg, hbit⟩, e95, i0, hn, v90, v91, ⟨x, y, z, ew⟩, hparts⟩ := f7 hk
  have hg : g < 3 := hg
  have hbit : bit (nMk t) g = true := hbit
  have e95 : N 95 (q' : Int) = (pN t j g : Int) := e95
  have ew : w = vR (nMk t) x y z := ew
  have hparts : ∀ g' : Nat, g' < g → bit (nMk t) g' = true → H (N 93 (3 * N 97 (q' : Int) + g')) = some (rP w g') := hparts
  obtain ⟨kp, fk, -, -⟩ := br.part hk rfl hv hg
  generalize ei : N 97 (q' : Int) = i at *
  have brc := br
  obtain ⟨⟨c1, c2, c3⟩, hh, ⟨b1, b2, b3⟩, -⟩ := brc
  have m8 := nv.mk.2.2.1 hk
  have pt1 := pnd_is nv.sp
  have jl := nv.lt
  have ln := nv.len
  have pf : pdF (t, ρ, w, g) = pdR t g := by
    unfold pdF
    show (if nKd t = 7 then _ else if nKd t = 10 then pdR t g else 0) = _
    rw [if_neg (by omega), if_pos hk]
  obtain ⟨pnx, pno⟩ := pN_next nv hk hg
  have npg := nv.part hk hg hbit
  have lg := npg.len
  have r48 := hM 56 48
  have hr := hh _ _ hv
  have q4 : (q' : Int) < 4000 := by omega
  have i4 : i < 4000 := by omega
  have nv1 : NV (mset N 93 (3 * i + g) (N 56 48)) a b t j s ch := nv.keep kp.1
  have npg1 := npg.keep (N' := mset N 93 (3 * i + g) (N 56 48)) kp.1
  have ea1 : EA (mset N 93 (3 * i + g) (N 56 48)) es H ch ρ (N 96 (q' : Int)) s := ea.keep kp.1 kp.2.1 (fun _ _ x => x) (Nat.le_refl _)
  have hM1 : ∀ p x, R32 (mset N 93 (3 * i + g) (N 56 48) p x) := mset_R32 hM r48
  have mk1 : MKr N (mset N 93 (3 * i + g) (N 56 48)) := (MKr.refl N).set (Or.inr (by omega))
  have e59 : mset N 93 (3 * i + g) (N 56 48) 56 59 = (q' : Int) + 1 := by rw [mset_i' (by omega), c3]; rfl
  have cont : ∀ x5 y5 : Int, pm_Wp none (d + 2) 204 109 [some (.ref 56), some (.int (zI (q' : Int))), some (.int (zI i)), some (.int (zI (j : Int))), some (.int (zI (pN t j g : Int))), some (.int (zI x5)), some (.int (zI 3)), some (.int (zI y5))] [] (zM (mset N 93 (3 * i + g) (N 56 48)), Rf, K, L, n, s0) Q := by
    intro x5 y5
    refine wp_aload_n d204_109 rfl ?_
    refine wp_iload d204_110 rfl ?_
    refine wp_virt (as := [.int (zI (pN t j g : Int))]) (rest := []) d204_112 rfl rfl rfl (hG.o (by decide) rfl) rfl rfl (Nat.le_of_ble_eq_true rfl) ?_
    refine m_behind (lo := 0) (nd := a) (sc := b) (b := true) (i := pN t j g) (l := tfl (nP t g)) hG (by unfold pnd at lg; omega) npg1.nx.1 npg1.nx.2 ?_
    show pm_Wp none (d + 2) 204 115 [some (.ref 56), some (.int (zI (q' : Int))), some (.int (zI i)), some (.int (zI (j : Int))), some (.int (zI (pN t j g : Int))), some (.int (zI x5)), some (.int (zI 3)), some (.int (zI y5))] [.int (zI (((pN t j g + pnd (nP t g) : Nat) : Int)))] (zM (mset N 93 (3 * i + g) (N 56 48)), Rf, K, L, n, s0) Q
    refine wp_istore d204_115 (Nat.le_of_ble_eq_true rfl) rfl ?_
    refine wp_iload d204_117 rfl ?_
    refine wp_aload_n d204_119 rfl ?_
    refine wp_iload_n d204_120 rfl ?_
    refine wp_virt (as := [.int (zI (j : Int))]) (rest := [.int (zI (((pN t j g + pnd (nP t g) : Nat) : Int)))]) d204_121 rfl rfl rfl (hG.o (by decide) rfl) rfl rfl (Nat.le_of_ble_eq_true rfl) ?_
    refine m_behind (lo := 0) (nd := a) (sc := b) (b := true) (i := j) (l := tfl t) hG (by unfold pnd at ln; omega) nv1.nx.1 nv1.nx.2 ?_
    show pm_Wp none (d + 2) 204 124 [some (.ref 56), some (.int (zI (q' : Int))), some (.int (zI i)), some (.int (zI (j : Int))), some (.int (zI (pN t j g : Int))), some (.int (zI x5)), some (.int (zI (((pN t j g + pnd (nP t g) : Nat) : Int)))), some (.int (zI y5))] [.int (zI (((j + pnd t : Nat) : Int))), .int (zI (((pN t j g + pnd (nP t g) : Nat) : Int)))] (zM (mset N 93 (3 * i + g) (N 56 48)), Rf, K, L, n, s0) Q
    refine wz_icmp_ge (t := 150) d204_124 (by decide) ⟨by omega, by omega⟩ ⟨by omega, by omega⟩ (fun hc => ?_) (fun hc => ?_)
    · skip
      have hx : ¬ nxl (nMk t) (g + 1) < 3 := fun e => by have := (pnx e).2; omega
      refine wp_aload_n d204_150 rfl ?_
      refine wp_dupr d204_151 ?_
      refine wz_getI (v := (q' : Int) + 1) d204_152 rfl (hG.o (by decide) rfl) (by decide) (e59) ?_
      refine wz_iconst d204_155 ?_
      refine wz_isub d204_156 ?_
      refine wz_putI (i := 59) d204_157 rfl (hG.o (by decide) rfl) rfl (by decide) rfl ?_
      refine wp_aload_n d204_160 rfl ?_
      refine wp_iload_n d204_161 rfl ?_
      refine wp_virt (as := [.int (zI i)]) (rest := []) d204_162 rfl rfl rfl (hG.o (by decide) rfl) rfl rfl (Nat.le_of_ble_eq_true rfl) ?_
      refine wc_deep (show d + 1 + 1 ≤ d + 2 by omega) ?_
      refine m_answer hG ?_
      rw [show (q' : Int) + 1 - 1 = q' by omega]
      show pm_Wp none (d + 2) 204 165 [some (.ref 56), some (.int (zI (q' : Int))), some (.int (zI i)), some (.int (zI (j : Int))), some (.int (zI (pN t j g : Int))), some (.int (zI x5)), some (.int (zI (((pN t j g + pnd (nP t g) : Nat) : Int)))), some (.int (zI y5))] [] (zM (mAns (mset (mset N 93 (3 * i + g) (N 56 48)) 56 59 (q' : Int)) i), Rf, K, L, n, s0) Q
      have no := nxl_out m8 (g := g + 1) (by omega) hx
      have hhn : H i = none := hn
      obtain ⟨x', y', z', es2⟩ := sP_is (nMk t) g x y z v
      have ew2 : sP w g v = vR (nMk t) x' y' z' := by rw [ew]; exact es2
      have hle : Hle H (Hup H i (sP w g v)) := Hup.le hhn
      have kp2 : Kpm N (mset (mset N 93 (3 * i + g) (N 56 48)) 56 59 (q' : Int)) vs es H := ⟨fun p r p1 p2 => (mset_i' (by omega)).trans (kp.1 p r p1 p2), fun p r p1 p2 r0 r1 => (mset_i' (by omega)).trans (kp.2.1 p r p1 p2 r0 r1), fun p r p1 p2 r0 r1 => (mset_i' (by omega)).trans (kp.2.2.1 p r p1 p2 r0 r1), fun r g' h1 h2 => (mset_i' (by omega)).trans (kp.2.2.2 r g' h1 h2)⟩
      have vc : VCe (mset (mset N 93 (3 * i + g) (N 56 48)) 56 59 (q' : Int)) a b es (Hup H i (sP w g v)) i (sP w g v) := by
        refine Or.inr ⟨nMk t, x', y', z', j, ew2, m8, by rw [mset_i' (by omega), mset_i' (by omega)]; exact v90, by rw [mset_i' (by omega), mset_i' (by omega)]; exact v91, jl, by rw [mset_i' (by omega), mset_i' (by omega)]; exact nv.mk.2.1 (by omega), fun g' hg' hb' => ?_⟩
        rw [ew, rP_sP hg' hg]
        by_cases cg : g' = g
        · rw [if_pos cg, mset_i' (by omega), cg, mset_s, ← ew]
          exact hle _ _ hv
        · rw [if_neg cg, mset_i' (by omega), mset_i' (by omega), ← ew]
          refine hle _ _ (hparts g' ?_ hb')
          by_cases cl : g' < g
          · exact cl
          · have := no g' hg' (by omega)
            rw [hb'] at this; cases this
      have fk2 : FRs (mset (mset N 93 (3 * i + g) (N 56 48)) 56 59 (q' : Int)) a b es (Hup H i (sP w g v)) k q' (vs : Int) := by
        have kz : Kpm (mset N 93 (3 * i + g) (N 56 48)) (mset (mset N 93 (3 * i + g) (N 56 48)) 56 59 (q' : Int)) vs es H := ⟨fun p r p1 p2 => mset_i' (by omega), fun p r p1 p2 _ _ => mset_i' (by omega), fun p r p1 p2 _ _ => mset_i' (by omega), fun r g' _ _ => mset_i' (by omega)⟩
        exact fk.keep kz hle (Nat.le_refl _) (by omega) (by omega) (fun p r p1 p2 _ _ => mset_i' (by omega)) (fun r r0 r1 hr => ⟨by unfold Hup; rw [if_neg (by omega)]; exact hr, fun g' _ => mset_i' (by omega)⟩)
      have b5 : BR (mset (mset N 93 (3 * i + g) (N 56 48)) 56 59 (q' : Int)) a b st vs es q' (Hup H i (sP w g v)) k (pdK k) := ⟨⟨by rw [mset_i' (by omega), mset_i' (by omega)]; exact c1, by rw [mset_i' (by omega), mset_i' (by omega)]; exact c2, by rw [mset_s]⟩, hh.up kp2 (Nat.le_refl _) (Nat.le_refl _) hhn ⟨i0.1, by omega⟩ vc, ⟨b1, by omega, by omega⟩, fk2⟩
      have b6 := b5.same (N' := mAns (mset (mset N 93 (3 * i + g) (N 56 48)) 56 59 (q' : Int)) i) (st' := st) (pc' := pdK k) (fun p r hp => mAns_o hp) (by omega) (Nat.le_refl _)
      have er : rGo t ρ (sP w g v) k (g + 1) = .inr (sP w g v, k) := by unfold rGo; rw [if_neg hx]
      exact wp_ret d204_165 rfl (hQ _ (mAns_R32 (mset_R32 hM1 ⟨by omega, by omega⟩) ⟨by omega, by omega⟩) (mk1.set (Or.inl ⟨rfl, by omega⟩)).ans (by rw [er]; exact ⟨vs, es, q', _, b6.1, b6.2.1, b6.2.2.1, b6.2.2.2, by show mset (mset _ 56 48 _) 56 49 1 56 49 = 1; rw [mset_s], by show Hup H i (sP w g v) (mset (mset _ 56 48 _) 56 49 1 56 48) = _; rw [mset_i' (by omega), mset_s]; unfold Hup; rw [if_pos rfl]⟩))
    · skip
      have hx : nxl (nMk t) (g + 1) < 3 := by
        by_cases c : nxl (nMk t) (g + 1) < 3
        · exact c
        · have := pno c; omega
      obtain ⟨px, -⟩ := pnx hx
      refine wp_aload_n d204_127 rfl ?_
      refine wp_getR (q := 95) d204_128 rfl (hG.o (by decide) rfl) (by decide) (hG.r (by decide +kernel)) (by decide) ?_
      refine wp_iload_n d204_131 rfl ?_
      refine wp_iload d204_132 rfl ?_
      refine wz_iast (z := 4000) d204_134 (hG.a (by decide) rfl rfl) (by omega) (by omega) (by decide) ?_
      refine wp_aload_n d204_135 rfl ?_
      refine wp_iload d204_136 rfl ?_
      refine wp_aload_n d204_138 rfl ?_
      refine wp_getR (q := 96) d204_139 rfl (hG.o (by decide) rfl) (by decide) (hG.r (by decide +kernel)) (by decide) ?_
      refine wp_iload_n d204_142 rfl ?_
      refine wz_iald (z := 4000) (v := N 96 (q' : Int)) d204_143 (hG.a (by decide) rfl rfl) (by omega) (by omega) (by decide) (mset_i' (by omega)) ?_
      refine wp_virt (as := [.int (zI (N 96 (q' : Int))), .int (zI (((pN t j g + pnd (nP t g) : Nat) : Int)))]) (rest := []) d204_144 rfl rfl rfl (hG.o (by decide) rfl) rfl rfl (Nat.le_of_ble_eq_true rfl) ?_
      refine wc_deep (show d + 1 + 1 ≤ d + 2 by omega) ?_
      refine m_go hG ?_
      show pm_Wp none (d + 2) 204 147 [some (.ref 56), some (.int (zI (q' : Int))), some (.int (zI i)), some (.int (zI (j : Int))), some (.int (zI (pN t j g : Int))), some (.int (zI x5)), some (.int (zI (((pN t j g + pnd (nP t g) : Nat) : Int)))), some (.int (zI y5))] [] (zM (mGo (mset (mset N 93 (3 * i + g) (N 56 48)) 95 (q' : Int) ((pN t j g + pnd (nP t g) : Nat) : Int)) ((pN t j g + pnd (nP t g) : Nat) : Int) (N 96 (q' : Int))), Rf, K, L, n, s0) Q
      refine wp_goto (t := 165) d204_147 (by decide) ?_
      obtain ⟨n1, n2, n3⟩ := nxl_in m8 (g := g + 1) (by omega) hx
      obtain ⟨x', y', z', es2⟩ := sP_is (nMk t) g x y z v
      have ew2 : sP w g v = vR (nMk t) x' y' z' := by rw [ew]; exact es2
      have kp3 : Kpm N (mset (mset N 93 (3 * i + g) (N 56 48)) 95 (q' : Int) ((pN t j g + pnd (nP t g) : Nat) : Int)) vs es H := ⟨fun p r p1 p2 => (mset_i' (by omega)).trans (kp.1 p r p1 p2), fun p r p1 p2 r0 r1 => (mset_i' (by omega)).trans (kp.2.1 p r p1 p2 r0 r1), fun p r p1 p2 r0 r1 => (mset_i' (by omega)).trans (kp.2.2.1 p r p1 p2 r0 r1), fun r g' h1 h2 => (mset_i' (by omega)).trans (kp.2.2.2 r g' h1 h2)⟩
      have np3 := (nv.part hk hx n2).keep (N' := (mset (mset N 93 (3 * i + g) (N 56 48)) 95 (q' : Int) ((pN t j g + pnd (nP t g) : Nat) : Int))) kp3.1
      have e97' : (mset (mset N 93 (3 * i + g) (N 56 48)) 95 (q' : Int) ((pN t j g + pnd (nP t g) : Nat) : Int)) 97 (q' : Int) = i := by rw [mset_i' (by omega), mset_i' (by omega)]; exact ei
      have e96' : (mset (mset N 93 (3 * i + g) (N 56 48)) 95 (q' : Int) ((pN t j g + pnd (nP t g) : Nat) : Int)) 96 (q' : Int) = N 96 (q' : Int) := by rw [mset_i' (by omega), mset_i' (by omega)]
      have ea3 : EA (mset (mset N 93 (3 * i + g) (N 56 48)) 95 (q' : Int) ((pN t j g + pnd (nP t g) : Nat) : Int)) es H ch ρ (N 96 (q' : Int)) s := ea.keep kp3.1 kp3.2.1 (fun _ _ x => x) (Nat.le_refl _)
      have fm3 : FrM (mset (mset N 93 (3 * i + g) (N 56 48)) 95 (q' : Int) ((pN t j g + pnd (nP t g) : Nat) : Int)) a b es H (t, ρ, sP w g v, nxl (nMk t) (g + 1)) (q' : Int) vs := by
        refine ⟨by rw [mset_i' (by omega), mset_i' (by omega)]; exact f1, f2, j, s, ch, nv.keep kp3.1, by rw [e96']; exact ea3, fun r => absurd hk r, fun r => absurd (show nKd t = 7 from r) (by omega), fun _ => ?_⟩
        rw [e97']
        refine ⟨⟨hx, n2⟩, by rw [mset_s, px], ⟨i0.1, i0.2⟩, hn, by rw [mset_i' (by omega), mset_i' (by omega)]; exact v90, by rw [mset_i' (by omega), mset_i' (by omega)]; exact v91, ⟨x', y', z', ew2⟩, fun g' hg' hb' => ?_⟩
        have hg' : g' < nxl (nMk t) (g + 1) := hg'
        have hb' : bit (nMk t) g' = true := hb'
        show H _ = some (rP (sP w g v) g')
        rw [ew, rP_sP (by omega) hg]
        by_cases cg : g' = g
        · rw [if_pos cg, mset_i' (by omega), cg, mset_s]
          exact hv
        · rw [if_neg cg, mset_i' (by omega), mset_i' (by omega), ← ew]
          refine hparts g' ?_ hb'
          by_cases cl : g' < g
          · exact cl
          · have := n3 g' (by omega) (by omega) hg'
            rw [hb'] at this; cases this
      have fk3 : FRs (mset (mset N 93 (3 * i + g) (N 56 48)) 95 (q' : Int) ((pN t j g + pnd (nP t g) : Nat) : Int)) a b es H k q' i := fk.keep (vs := vs) ⟨fun p r p1 p2 => mset_i' (by omega), fun p r p1 p2 _ _ => mset_i' (by omega), fun p r p1 p2 _ _ => mset_i' (by omega), fun r g' _ _ => mset_i' (by omega)⟩ (fun _ _ x => x) (Nat.le_refl _) (Int.le_refl _) (by omega) (fun p r p1 p2 r0 r1 => mset_i' (by omega)) (fun r r0 r1 hr => ⟨hr, fun g' _ => mset_i' (by omega)⟩)
      have pp : pnd (nP t (nxl (nMk t) (g + 1))) + pdF (t, ρ, sP w g v, nxl (nMk t) (g + 1)) ≤ pdF (t, ρ, w, g) := by
        rw [pf]
        unfold pdF
        show pnd (nP t (nxl (nMk t) (g + 1))) + (if nKd t = 7 then _ else if nKd t = 10 then pdR t (nxl (nMk t) (g + 1)) else 0) ≤ pdR t g
        rw [if_neg (by omega), if_pos hk]
        unfold pdR
        have : (g = 0 ∧ nxl (nMk t) (g + 1) = 1) ∨ (g = 0 ∧ nxl (nMk t) (g + 1) = 2) ∨ (g = 1 ∧ nxl (nMk t) (g + 1) = 2) := by omega
        rcases this with ⟨e, e2⟩ | ⟨e, e2⟩ | ⟨e, e2⟩ <;> rw [e2, e]
        · show pnd (nY t) + ((if 1 < 1 then pnd (nY t) else 0) + (if 1 < 2 then pnd (nZ t) else 0)) ≤ (if 0 < 1 then pnd (nY t) else 0) + (if 0 < 2 then pnd (nZ t) else 0)
          rw [if_neg (by omega), if_pos (by omega), if_pos (by omega), if_pos (by omega)]; omega
        · show pnd (nZ t) + ((if 2 < 1 then pnd (nY t) else 0) + (if 2 < 2 then pnd (nZ t) else 0)) ≤ (if 0 < 1 then pnd (nY t) else 0) + (if 0 < 2 then pnd (nZ t) else 0)
          rw [if_neg (by omega), if_neg (by omega), if_pos (by omega), if_pos (by omega)]; omega
        · show pnd (nZ t) + ((if 2 < 1 then pnd (nY t) else 0) + (if 2 < 2 then pnd (nZ t) else 0)) ≤ (if 1 < 1 then pnd (nY t) else 0) + (if 1 < 2 then pnd (nZ t) else 0)
          rw [if_neg (by omega), if_neg (by omega), if_neg (by omega), if_pos (by omega)]; omega
      have b5 : BR (mset (mset N 93 (3 * i + g) (N 56 48)) 95 (q' : Int) ((pN t j g + pnd (nP t g) : Nat) : Int)) a b st vs es (q' + 1) H ((t, ρ, sP w g v, nxl (nMk t) (g + 1)) :: k) (pnd (nP t (nxl (nMk t) (g + 1))) + (pdF (t, ρ, sP w g v, nxl (nMk t) (g + 1)) + pdK k)) := ⟨⟨by rw [mset_i' (by omega), mset_i' (by omega)]; exact c1, by rw [mset_i' (by omega), mset_i' (by omega)]; exact c2, by rw [mset_i' (by omega), mset_i' (by omega)]; exact c3⟩, hh.keep kp3 (Nat.le_refl _), ⟨b1, by omega, by omega⟩, ⟨q', rfl, fm3, by show FRs _ a b es H k q' (if nKd t = 10 then _ else _); rw [if_pos hk, e97']; exact fk3⟩⟩
      have b6 := b5.same (N' := mGo (mset (mset N 93 (3 * i + g) (N 56 48)) 95 (q' : Int) ((pN t j g + pnd (nP t g) : Nat) : Int)) ((pN t j g + pnd (nP t g) : Nat) : Int) (N 96 (q' : Int))) (st' := st) (pc' := pnd (nP t (nxl (nMk t) (g + 1))) + (pdF (t, ρ, sP w g v, nxl (nMk t) (g + 1)) + pdK k)) (fun p r hp => mGo_o hp) (by omega) (Nat.le_refl _)
      have kg : ∀ (p : Nat) (r : Int), p ≠ 56 → mGo (mset (mset N 93 (3 * i + g) (N 56 48)) 95 (q' : Int) ((pN t j g + pnd (nP t g) : Nat) : Int)) ((pN t j g + pnd (nP t g) : Nat) : Int) (N 96 (q' : Int)) p r = (mset (mset N 93 (3 * i + g) (N 56 48)) 95 (q' : Int) ((pN t j g + pnd (nP t g) : Nat) : Int)) p r := fun p r hp => mGo_o (by omega)
      have er : rGo t ρ (sP w g v) k (g + 1) = .inl (nP t (nxl (nMk t) (g + 1)), ρ, (t, ρ, sP w g v, nxl (nMk t) (g + 1)) :: k) := by unfold rGo; rw [if_pos hx]
      exact wp_ret d204_165 rfl (hQ _ (mGo_R32 (mset_R32 hM1 ⟨by omega, by omega⟩) ⟨by omega, by omega⟩ (hM _ _)) (mk1.set (Or.inr (by omega))).go (by rw [er]; exact ⟨vs, es, q' + 1, H, b6.1, b6.2.1, b6.2.2.1, b6.2.2.2, by show mset _ 56 49 0 56 49 = 0; rw [mset_s], pN t j (nxl (nMk t) (g + 1)), s, ch, by show mset (mset (mset _ 56 46 _) 56 47 _) 56 49 0 56 46 = _; rw [mset_i' (by omega), mset_i' (by omega), mset_s, px], np3.keep (fun p r p1 p2 => kg p r (by omega)), by show EA _ es H ch ρ (mset (mset (mset _ 56 46 _) 56 47 _) 56 49 0 56 47) s; rw [mset_i' (by omega), mset_s]; exact ea3.keep (fun p r p1 p2 => kg p r (by omega)) (fun p r p1 p2 _ _ => kg p r (by omega)) (fun _ _ x => x) (Nat.le_refl _)⟩))
  have cg : g = 0 ∨ g = 1 ∨ g = 2 := by omega
  rcases cg with rfl | rfl | rfl
  · exact fill_loop0 hG hM a6 b6 nv hk hbit (by omega) q4 i0.1 i4 ei v91 e95 rfl cont
  · exact fill_loop1 hG hM a6 b6 nv hk hbit (by omega) q4 i0.1 i4 ei v91 e95 rfl cont
  · exact fill_loop2 hG hM a6 b6 nv hk hbit (by omega) q4 i0.1 i4 ei v91 e95 rfl cont
end PmG15
