/-! THE CLASS: a whole run. -/
theorem MR.rs {X X0 : Nat} {Rf : Nat → Nat → Nat} {K L : Nat → Nat} {n zf zv zr : Nat} (h : MR X0 Rf K L n zf zv zr) (hX : X = 16 ∨ X = 23) : MR X (rset Rf 43 8 X) K L n zf zv zr := by
  obtain ⟨h1, h2, h3, h4, ⟨h5, h6⟩, h7, h8⟩ := h
  have e43 : ∀ f, f < 4 → rset Rf 43 8 X 43 f = Rf 43 f := fun f hf => rset_o (by omega)
  have e51 : ∀ f, rset Rf 43 8 X 51 f = Rf 51 f := fun f => rset_o (by omega)
  have e6 : ∀ f, rset Rf 43 8 X 6 f = Rf 6 f := fun f => rset_o (by omega)
  refine ⟨h1.rs (by decide +kernel), ⟨fun f hf => by rw [e43 f hf]; exact h2.1 f hf, fun f hf => by rw [e43 f hf]; exact h2.2.1 f hf, fun f g hf hg e => by rw [e43 f hf, e43 g hg] at e; exact h2.2.2.1 f g hf hg e, h2.2.2.2⟩, ⟨fun f hf => by rw [e51]; exact h3.1 f hf, fun f hf => by rw [e51]; exact h3.2.1 f hf, fun f g hf hg e => by rw [e51, e51] at e; exact h3.2.2.1 f g hf hg e, h3.2.2.2⟩, h4.rs (by omega), ⟨fun f g hf hg => by rw [e43 f hf, e51]; exact h5 f g hf hg, fun f g hf hg => by rw [e6, e43 g hg, e51]; exact h6 f g hf hg⟩, rset_s _ _ _ _, hX⟩
/-- what a whole run has come to: tot steps; a value, or the limit -/
def FinK (M : pm_M) (Rf : Nat → Nat → Nat) (X cnt zv : Nat) (T : Ty) (tot : Nat) (c : Cf) : Prop := (∃ q, itr q (.inl (T, .nil, [])) = some (tot, c)) ∧ tot ≤ 60 ∧ M 43 15 = (tot : Int) ∧ ((∃ v vs sc H, c = .inr (v, []) ∧ HPk (cvw M Rf) X cnt vs sc H ∧ vs ≤ zv ∧ H (M 43 16) = some v) ∨ (tot = 60 ∧ (∃ c', mv c = some (true, c')) ∧ M 43 16 = -1))
section PmH14
variable {d : Nat} {Q : Option Value → pm_S → Prop} {X X0 cnt : Nat} {M : pm_M} {Rf : Nat → Nat → Nat} {K L : Nat → Nat} {n s zf zv zr : Nat} {T : Ty}
theorem MX.pi {st : Nat} {M' : pm_M} {Rf' : Nat → Nat → Nat} {K' L' : Nat → Nat} {n' s' zf' zv' : Nat} (h : MX X M Rf K L n s zf zv zr M' Rf' K' L' n' s' zf' zv') (h0 : MR X Rf K L n zf zv zr) : ∀ p, p ≤ 42 → ∀ i, M' p i = M p i := by
  intro p hp i
  have hn := h0.1.1
  exact h.2.2.2.2.2.1 p (by omega) (h0.low (Or.inl (by omega))) i (by unfold WMc; omega)
theorem c_run (h0 : MR X0 Rf K L n zf zv zr) (hX : X = 16 ∨ X = 23) (hM : ∀ p i, R32 (M p i)) (tm : TMc M X cnt T) (tw : TWf 24 0 [] T) (v20 : vN T ≤ 20) (p60 : pnd T ≤ 60) (hs : ∀ q, Sf q (.inl (T, .nil, []))) (hQ : ∀ (M' : pm_M) (Rf' : Nat → Nat → Nat) (K' L' : Nat → Nat) (n' s' zf' zv' tot : Nat) (c : Cf), MX X M (rset Rf 43 8 X) K L n s zf zv zr M' Rf' K' L' n' s' zf' zv' → FinK M' Rf' X cnt zv' T tot c → Q none (zM M', Rf', K', L', n', s')) : pm_Wc (d + 6) 114 [.ref 43, .ref X] (zM M, Rf, K, L, n, s) Q := by
  have h := h0.rs (X := X) hX
  obtain ⟨tc, tpi, c6⟩ := tm
  have hG0 := h0.1
  have hG := h.1
  have Xp : 1 ≤ X := by omega
  have fin : ∀ (mv0 : Int) (M1 : pm_M) (R1 : Nat → Nat → Nat) (K1 L1 : Nat → Nat) (n1 s1 : Nat), pm_G R1 K1 L1 n1 → 0 ≤ mv0 → mv0 < 999999 → M1 43 14 = 1 → Q none (zM M1, R1, K1, L1, n1, s1) → pm_Wp none (d + 5) 114 107 [some (.ref 43), some (.ref X), some (.int (zI mv0))] [] (zM M1, R1, K1, L1, n1, s1) Q := by
    intro mv0 M1 R1 K1 L1 n1 s1 hG1 m0 m1 e14 hq
    refine wz_iinc d114_107 rfl rfl ?_
    refine wp_goto (t := 46) d114_110 (by decide) ?_
    refine wp_iload_n d114_46 rfl ?_
    refine wp_ldc (v := zI 1000000) d114_47 (by decide +kernel) ?_
    refine wz_icmp_ge (t := 113) d114_49 (by decide) ⟨by omega, by omega⟩ ⟨by omega, by omega⟩ (fun hb => absurd hb (by omega)) (fun _ => ?_)
    refine wp_aload_n d114_52 rfl ?_
    refine wz_getI (v := 1) d114_53 rfl (hG1.o (by decide) rfl) (by decide) (e14) ?_
    refine wz_if_ne (t := 113) d114_56 (by decide) ⟨by omega, by omega⟩ (fun _ => ?_) (fun hb => absurd hb (by omega))
    exact wp_ret d114_113 rfl (hq)
  have loop : ∀ (f mvn q st : Nat) (c : Cf) (M1 : pm_M) (R1 : Nat → Nat → Nat) (K1 L1 : Nat → Nat) (n1 s1 zf1 zv1 : Nat), mvC c + 300 * (60 - st) < f → mvn + mvC c + 300 * (60 - st) ≤ 20000 → itr q (.inl (T, .nil, [])) = some (st, c) → MX X M (rset Rf 43 8 X) K L n s zf zv zr M1 R1 K1 L1 n1 s1 zf1 zv1 → M1 43 16 = -1 → CK (cvw M1 R1) X cnt st zf1 zv1 c → pm_Wp none (d + 5) 114 46 [some (.ref 43), some (.ref X), some (.int (zI (mvn : Int)))] [] (zM M1, R1, K1, L1, n1, s1) Q := by
    intro f
    induction f with
    | zero => intro mvn q st c M1 R1 K1 L1 n1 s1 zf1 zv1 hf; omega
    | succ f ih =>
      intro mvn q st c M1 R1 K1 L1 n1 s1 zf1 zv1 hf hm it mx e16 ck
      have h1 := mx.1
      have hG1 := h1.1
      have hM1 := mx.2.2.2.2.2.2
      have lowp := mx.pi (st := 0) h
      have pi1 : PI M1 X cnt 60 := tpi.same (Nat.le_refl _) (fun i _ _ => lowp (X + 2) (by omega) i)
      have hs1 := Sf_itr it hs
      have x43 : ∀ y : Int, cvw M1 R1 43 y = M1 43 y := fun y => cvw_o (by omega)
      obtain ⟨vs, sc, fr, H, bk, hc⟩ := id ck
      have s60 := bk.2.2.1.2.1
      have e14 : M1 43 14 = 0 := by rw [← x43]; exact bk.1.2.2.2.1
      have e15 : M1 43 15 = (st : Int) := by rw [← x43]; exact bk.1.2.2.2.2
      have e9 : M1 43 9 = (fr : Int) := by rw [← x43]; exact bk.1.2.2.1
      have enp : ∀ (mv0 : Int), mv0 = (mvn : Int) → EnP (fun r σ => r = none ∧ pm_Wp none (d + 5) 114 107 [some (.ref 43), some (.ref X), some (.int (zI mv0))] [] σ Q) X cnt M1 R1 K1 L1 n1 s1 zf1 zv1 zr st c := by
        intro mv0 em0
        refine ⟨fun b c' M2 R2 K2 L2 n2 s2 zf2 zv2 e mx2 e16' ck2 => ⟨rfl, ?_⟩, fun c' M2 e h60 mx2 e14' e15' e16' => ⟨rfl, ?_⟩⟩
        · have it2 := itr_snoc it e
          have hlt : mvC c' + 300 * (60 - (st + (if b = true then 1 else 0))) + 1 ≤ mvC c + 300 * (60 - st) := by
            cases b with
            | false =>
              have := mvC_lt2 ck e
              show mvC c' + 300 * (60 - (st + 0)) + 1 ≤ _
              omega
            | true =>
              have a1 := mv_step_k e
              have a2 := mvC_le c' ck2.small
              have a3 : st + 1 ≤ 60 := ck2.choose_spec.choose_spec.choose_spec.choose_spec.1.2.2.1.2.1
              show mvC c' + 300 * (60 - (st + 1)) + 1 ≤ _
              omega
          have hG2 := mx2.1.1
          subst em0
          refine wz_iinc d114_107 rfl rfl ?_
          refine wp_goto (t := 46) d114_110 (by decide) ?_
          exact ih (mvn + 1) (q + 1) _ c' M2 R2 K2 L2 n2 s2 zf2 zv2 (by omega) (by omega) it2 (mx.trans mx2) (e16'.trans e16) ck2
        · exact fin mv0 M2 R1 K1 L1 n1 s1 hG1 (by omega) (by omega) e14' (hQ M2 R1 K1 L1 n1 s1 zf1 zv1 60 c (mx.trans mx2) ⟨⟨q, by rw [← h60]; exact it⟩, by omega, e15', Or.inr ⟨rfl, ⟨c', e⟩, e16'.trans e16⟩⟩)
      cases c with
      | inl x =>
        obtain ⟨t, ρ, k⟩ := x
        have c13 : M1 43 13 = -1 := by rw [← x43]; exact hc.1
        refine wp_iload_n d114_46 rfl ?_
        refine wp_ldc (v := zI 1000000) d114_47 (by decide +kernel) ?_
        refine wz_icmp_ge (t := 113) d114_49 (by decide) ⟨by omega, by omega⟩ ⟨by omega, by omega⟩ (fun hb => absurd hb (by omega)) (fun _ => ?_)
        refine wp_aload_n d114_52 rfl ?_
        refine wz_getI (v := 0) d114_53 rfl (hG1.o (by decide) rfl) (by decide) (e14) ?_
        refine wz_if_ne (t := 113) d114_56 (by decide) ⟨by omega, by omega⟩ (fun hb => absurd (by omega) hb) (fun _ => ?_)
        refine wp_aload_n d114_59 rfl ?_
        refine wz_getI (v := (-1)) d114_60 rfl (hG1.o (by decide) rfl) (by decide) (c13) ?_
        refine wz_iconst d114_63 ?_
        refine wz_icmp_ne (t := 74) d114_64 (by decide) ⟨by omega, by omega⟩ ⟨by omega, by omega⟩ (fun hb => absurd (by omega) hb) (fun _ => ?_)
        refine wp_aload_n d114_67 rfl ?_
        refine wp_virt (as := []) (rest := []) d114_68 rfl rfl rfl (hG1.o (by decide) rfl) rfl rfl (Nat.le_of_ble_eq_true rfl) ?_
        refine wc_mono (c_enter (d := d) h1 hM1 pi1 c6 ck (hs1 1) (enp _ rfl)) (fun r σ hr => ?_)
        obtain ⟨rfl, hr⟩ := hr
        exact wp_goto (t := 107) d114_71 (by decide) hr
      | inr x =>
        obtain ⟨v, k⟩ := x
        have hv : H (M1 43 13) = some v := by rw [← x43]; exact hc
        have i0 := (bk.2.1 _ _ hv).1
        have b8 := bk.2.2.1.2.2.1
        have zvl := h1.2.2.1.2.2.2.2.1
        generalize e13 : M1 43 13 = i at *
        cases k with
        | nil =>
          have fr0 : fr = 0 := bk.2.2.2
          have e9' : M1 43 9 = 0 := by rw [e9, fr0]; rfl
          refine wp_iload_n d114_46 rfl ?_
          refine wp_ldc (v := zI 1000000) d114_47 (by decide +kernel) ?_
          refine wz_icmp_ge (t := 113) d114_49 (by decide) ⟨by omega, by omega⟩ ⟨by omega, by omega⟩ (fun hb => absurd hb (by omega)) (fun _ => ?_)
          refine wp_aload_n d114_52 rfl ?_
          refine wz_getI (v := 0) d114_53 rfl (hG1.o (by decide) rfl) (by decide) (e14) ?_
          refine wz_if_ne (t := 113) d114_56 (by decide) ⟨by omega, by omega⟩ (fun hb => absurd (by omega) hb) (fun _ => ?_)
          refine wp_aload_n d114_59 rfl ?_
          refine wz_getI (v := i) d114_60 rfl (hG1.o (by decide) rfl) (by decide) (e13) ?_
          refine wz_iconst d114_63 ?_
          refine wz_icmp_ne (t := 74) d114_64 (by decide) ⟨by omega, by omega⟩ ⟨by omega, by omega⟩ (fun _ => ?_) (fun hb => absurd hb (by omega))
          refine wp_aload_n d114_74 rfl ?_
          refine wz_getI (v := 0) d114_75 rfl (hG1.o (by decide) rfl) (by decide) (e9') ?_
          refine wz_if_le (t := 94) d114_78 (by decide) ⟨by omega, by omega⟩ (fun _ => ?_) (fun hb => absurd (by omega) hb)
          refine wp_aload_n d114_94 rfl ?_
          refine wp_aload_n d114_95 rfl ?_
          refine wz_getI (v := i) d114_96 rfl (hG1.o (by decide) rfl) (by decide) (e13) ?_
          refine wz_putI (i := 16) d114_99 rfl (hG1.o (by decide) rfl) rfl (by decide) rfl ?_
          refine wp_aload_n d114_102 rfl ?_
          refine wz_iconst d114_103 ?_
          refine wz_putI (i := 14) d114_104 rfl (hG1.o (by decide) rfl) (by decide) (by decide) rfl ?_
          have mx3 : MX X M1 R1 K1 L1 n1 s1 zf1 zv1 zr (mset (mset M1 43 16 i) 43 14 1) R1 K1 L1 n1 s1 zf1 zv1 := ((MX.refl h1 hM1).set (Or.inl ⟨rfl, by omega, by omega⟩) ⟨by omega, by omega⟩).set (Or.inl ⟨rfl, by omega, by omega⟩) ⟨by omega, by omega⟩
          have kv : ∀ (p : Nat) (y : Int), LoP p → p ≠ 43 → cvw (mset (mset M1 43 16 i) 43 14 1) R1 p y = cvw M1 R1 p y := fun p y lo hn => by
            rw [cvw43 (Or.inl rfl) h1 lo, cvw43 (Or.inl rfl) h1 lo, if_neg (by omega), if_neg (by omega)]
          have hh3 : HPk (cvw (mset (mset M1 43 16 i) 43 14 1) R1) X cnt vs sc H := bk.2.1.keep ⟨fun p y p1 p2 => kv p y (by unfold LoP; omega) (by omega), fun p y p1 p2 _ _ => kv p y (by unfold LoP; omega) (by omega), fun y _ _ => kv 90 y (by unfold LoP; omega) (by omega), fun y g _ hg => kv (91 + g) y (by unfold LoP; omega) (by omega)⟩ (Nat.le_refl _)
          exact fin (mvn : Int) (mset (mset M1 43 16 i) 43 14 1) R1 K1 L1 n1 s1 hG1 (by omega) (by omega) (mset_s _ _ _ _) (hQ _ R1 K1 L1 n1 s1 zf1 zv1 st _ (mx.trans mx3) ⟨⟨q, it⟩, s60, by rw [mset_i' (by omega), mset_i' (by omega)]; exact e15, Or.inl ⟨v, vs, sc, H, rfl, hh3, b8, by rw [mset_i' (by omega), mset_s]; exact hv⟩⟩)
        | cons f k =>
          have frp : 1 ≤ fr := by
            obtain ⟨q', e', -⟩ := bk.2.2.2
            omega
          refine wp_iload_n d114_46 rfl ?_
          refine wp_ldc (v := zI 1000000) d114_47 (by decide +kernel) ?_
          refine wz_icmp_ge (t := 113) d114_49 (by decide) ⟨by omega, by omega⟩ ⟨by omega, by omega⟩ (fun hb => absurd hb (by omega)) (fun _ => ?_)
          refine wp_aload_n d114_52 rfl ?_
          refine wz_getI (v := 0) d114_53 rfl (hG1.o (by decide) rfl) (by decide) (e14) ?_
          refine wz_if_ne (t := 113) d114_56 (by decide) ⟨by omega, by omega⟩ (fun hb => absurd (by omega) hb) (fun _ => ?_)
          refine wp_aload_n d114_59 rfl ?_
          refine wz_getI (v := i) d114_60 rfl (hG1.o (by decide) rfl) (by decide) (e13) ?_
          refine wz_iconst d114_63 ?_
          refine wz_icmp_ne (t := 74) d114_64 (by decide) ⟨by omega, by omega⟩ ⟨by omega, by omega⟩ (fun _ => ?_) (fun hb => absurd hb (by omega))
          refine wp_aload_n d114_74 rfl ?_
          refine wz_getI (v := (fr : Int)) d114_75 rfl (hG1.o (by decide) rfl) (by decide) (e9) ?_
          refine wz_if_le (t := 94) d114_78 (by decide) ⟨by have := bk.2.2.1.2.2.2.1; have := h1.2.1.2.2.2.2.1; omega, by have := bk.2.2.1.2.2.2.1; have := h1.2.1.2.2.2.2.1; omega⟩ (fun hb => absurd hb (by omega)) (fun _ => ?_)
          refine wp_aload_n d114_81 rfl ?_
          refine wp_aload_n d114_82 rfl ?_
          refine wz_getI (v := (fr : Int)) d114_83 rfl (hG1.o (by decide) rfl) (by decide) (e9) ?_
          refine wz_iconst d114_86 ?_
          refine wz_isub d114_87 ?_
          refine wp_virt (as := [.int (zI ((fr : Int) - 1))]) (rest := []) d114_88 rfl rfl rfl (hG1.o (by decide) rfl) rfl rfl (Nat.le_of_ble_eq_true rfl) ?_
          refine wc_mono (c_goOn (d := d) (fr := fr) h1 hM1 c6 ck e9 (hs1 1) (enp _ rfl)) (fun r σ hr => ?_)
          obtain ⟨rfl, hr⟩ := hr
          exact wp_goto (t := 107) d114_91 (by decide) hr
  refine wc_in (ls0 := [some (.ref 43), some (.ref X), none]) (by decide) (Nat.le_of_ble_eq_true rfl) (by simp [pm_vc]) rfl ?_
  refine wp_aload_n d114_0 rfl ?_
  refine wp_aload_n d114_1 rfl ?_
  refine wp_putR d114_2 rfl (hG0.o (by decide) rfl) Xp rfl (by decide) ?_
  show pm_Wp none (d + 5) 114 5 [some (.ref 43), some (.ref X), none] [] (zM M, rset Rf 43 8 X, K, L, n, s) Q
  refine wp_aload_n d114_5 rfl ?_
  refine wz_iconst d114_6 ?_
  refine wz_putI (i := 9) d114_7 rfl (hG.o (by decide) rfl) rfl (by decide) rfl ?_
  refine wp_aload_n d114_10 rfl ?_
  refine wp_getR (q := 51) d114_11 rfl (hG.o (by decide) rfl) (by decide) (hG.r (by decide +kernel)) (by decide) ?_
  refine wz_iconst d114_14 ?_
  refine wz_putI (i := 4) d114_15 rfl (hG.o (by decide) rfl) rfl (by decide) rfl ?_
  refine wp_aload_n d114_18 rfl ?_
  refine wz_iconst d114_19 ?_
  refine wz_putI (i := 10) d114_20 rfl (hG.o (by decide) rfl) rfl (by decide) rfl ?_
  refine wp_aload_n d114_23 rfl ?_
  refine wz_iconst d114_24 ?_
  refine wz_putI (i := 15) d114_25 rfl (hG.o (by decide) rfl) rfl (by decide) rfl ?_
  refine wp_aload_n d114_28 rfl ?_
  refine wz_iconst d114_29 ?_
  refine wz_putI (i := 14) d114_30 rfl (hG.o (by decide) rfl) (by decide) (by decide) rfl ?_
  refine wp_aload_n d114_33 rfl ?_
  refine wz_iconst d114_34 ?_
  refine wz_putI (i := 16) d114_35 rfl (hG.o (by decide) rfl) rfl (by decide) rfl ?_
  refine wp_aload_n d114_38 rfl ?_
  refine wz_iconst d114_39 ?_
  refine wz_iconst d114_40 ?_
  refine wp_virt (as := [.int (zI (-1)), .int (zI 0)]) (rest := []) d114_41 rfl rfl rfl (hG.o (by decide) rfl) rfl rfl (Nat.le_of_ble_eq_true rfl) ?_
  refine wc_deep (show d + 4 + 1 ≤ d + 5 by omega) ?_
  refine c_goTo hG ?_
  refine wz_iconst d114_44 ?_
  refine wp_istore_n d114_45 (Nat.le_of_ble_eq_true rfl) rfl ?_
  have mx : MX X M (rset Rf 43 8 X) K L n s zf zv zr (mset (mset (mset (mset (mset (mset (mset (mset (mset M 43 9 0) 51 4 0) 43 10 0) 43 15 0) 43 14 0) 43 16 (-1)) 43 11 0) 43 12 (-1)) 43 13 (-1)) (rset Rf 43 8 X) K L n s zf zv := (((((((((MX.refl h hM).set (Or.inl ⟨rfl, by omega, by omega⟩) ⟨by omega, by omega⟩).set (Or.inr (Or.inl ⟨rfl, rfl⟩)) ⟨by omega, by omega⟩).set (Or.inl ⟨rfl, by omega, by omega⟩) ⟨by omega, by omega⟩).set (Or.inl ⟨rfl, by omega, by omega⟩) ⟨by omega, by omega⟩).set (Or.inl ⟨rfl, by omega, by omega⟩) ⟨by omega, by omega⟩).set (Or.inl ⟨rfl, by omega, by omega⟩) ⟨by omega, by omega⟩).set (Or.inl ⟨rfl, by omega, by omega⟩) ⟨by omega, by omega⟩).set (Or.inl ⟨rfl, by omega, by omega⟩) ⟨by omega, by omega⟩).set (Or.inl ⟨rfl, by omega, by omega⟩) ⟨by omega, by omega⟩
  have o43 : ∀ y : Int, cvw (mset (mset (mset (mset (mset (mset (mset (mset (mset M 43 9 0) 51 4 0) 43 10 0) 43 15 0) 43 14 0) 43 16 (-1)) 43 11 0) 43 12 (-1)) 43 13 (-1)) (rset Rf 43 8 X) 43 y = (mset (mset (mset (mset (mset (mset (mset (mset (mset M 43 9 0) 51 4 0) 43 10 0) 43 15 0) 43 14 0) 43 16 (-1)) 43 11 0) 43 12 (-1)) 43 13 (-1)) 43 y := fun y => cvw_o (by omega)
  have oX : ∀ (p : Nat) (y : Int), X + 1 ≤ p → p ≤ X + 6 → cvw (mset (mset (mset (mset (mset (mset (mset (mset (mset M 43 9 0) 51 4 0) 43 10 0) 43 15 0) 43 14 0) 43 16 (-1)) 43 11 0) 43 12 (-1)) 43 13 (-1)) (rset Rf 43 8 X) p y = M p y := fun p y p1 p2 => by rw [cvw_o (by omega)]; exact mx.pi (st := 0) h p (by omega) y
  have nv : NVc (cvw (mset (mset (mset (mset (mset (mset (mset (mset (mset M 43 9 0) 51 4 0) 43 10 0) 43 15 0) 43 14 0) 43 16 (-1)) 43 11 0) 43 12 (-1)) 43 13 (-1)) (rset Rf 43 8 X)) X cnt 24 T 0 := ⟨tc.mono (fun q q1 q2 i _ _ => oX q i q1 q2) (fun i _ _ => oX (X + 2) i (by omega) (by omega)) (Int.le_refl _) (Int.le_refl _) (fun _ _ x => x) (Nat.le_refl _), ⟨0, [], tw⟩, ⟨v20, p60⟩, Nat.le_refl _⟩
  have g : ∀ (i v : Int), (mset (mset (mset (mset (mset (mset (mset (mset (mset M 43 9 0) 51 4 0) 43 10 0) 43 15 0) 43 14 0) 43 16 (-1)) 43 11 0) 43 12 (-1)) 43 13 (-1)) 43 i = v → cvw (mset (mset (mset (mset (mset (mset (mset (mset (mset M 43 9 0) 51 4 0) 43 10 0) 43 15 0) 43 14 0) 43 16 (-1)) 43 11 0) 43 12 (-1)) 43 13 (-1)) (rset Rf 43 8 X) 43 i = v := fun i v e => by rw [o43]; exact e
  have ck : CK (cvw (mset (mset (mset (mset (mset (mset (mset (mset (mset M 43 9 0) 51 4 0) 43 10 0) 43 15 0) 43 14 0) 43 16 (-1)) 43 11 0) 43 12 (-1)) 43 13 (-1)) (rset Rf 43 8 X)) X cnt 0 zf zv (.inl (T, .nil, [])) := by
    refine ⟨0, 0, 0, fun _ => none, ⟨⟨?_, ?_, ?_, ?_, ?_⟩, fun i v hv => (by cases hv), ⟨Nat.le_refl _, by omega, Nat.zero_le _, Nat.zero_le _, ?_⟩, rfl⟩, ?_, ⟨24, ?_, by omega⟩, ?_⟩
    · rw [cvw_o (by omega)]; simp [mset]
    · refine g _ _ ?_; simp [mset]
    · refine g _ _ ?_; simp [mset]
    · refine g _ _ ?_; simp [mset]
    · refine g _ _ ?_; simp [mset]
    · show 0 + (vN T + 0) ≤ 20 * (0 + 1); omega
    · refine g _ _ ?_; simp [mset]
    · rw [g 11 0 (by simp [mset])]; exact nv
    · rw [g 12 (-1) (by simp [mset])]; rw [ECe]
  exact loop (mvC (.inl (T, .nil, [])) + 300 * 60 + 1) 0 0 0 _ (mset (mset (mset (mset (mset (mset (mset (mset (mset M 43 9 0) 51 4 0) 43 10 0) 43 15 0) 43 14 0) 43 16 (-1)) 43 11 0) 43 12 (-1)) 43 13 (-1)) (rset Rf 43 8 X) K L n s zf zv (by omega) (by show 0 + (4 * pnd T + 0) + 300 * (60 - 0) ≤ 20000; omega) rfl mx (by simp [mset]) ck
end PmH14
