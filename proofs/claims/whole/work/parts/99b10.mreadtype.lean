/-! THE MODEL: readType. -/
theorem flat_drop : ∀ (f D : Nat) (t : Ty), ok D t = true → (flat t).length ≤ f → ∀ k, k < (flat t).length → ∃ (t' : Ty) (D' : Nat) (post : List Int), ok D' t' = true ∧ (flat t).drop k = flat t' ++ post
  | 0, D, t, h, hf, k, hk => by omega
  | f + 1, D, t, h, hf, k, hk => by
    by_cases e : k = 0
    · subst e
      exact ⟨t, D, [], h, by rw [List.drop_zero, List.append_nil]⟩
    · obtain ⟨g, hg, hb, q1, q2⟩ := part_of (a := 0) (j := k) h (by omega) (by omega)
      have ol := off_le h hg
      obtain ⟨q, rfl⟩ : ∃ q, k = 1 + off t g + q := ⟨k - 1 - off t g, by omega⟩
      obtain ⟨t', D', post, o1, o2⟩ := flat_drop f _ (pt t g) (ok_part h hg hb) (by omega) q (by omega)
      have fp := flat_pts h
      have hd1 : (flat t).drop (1 + off t g + q) = ((flat (pt t 0) ++ (flat (pt t 1) ++ flat (pt t 2)))).drop (off t g + q) := by
        rw [fp, show 1 + off t g + q = (off t g + q) + 1 by omega, List.drop_succ_cons]
      rw [hd1]
      rcases (show g = 0 ∨ g = 1 ∨ g = 2 by omega) with rfl | rfl | rfl
      · have o0 : off t 0 = 0 := rfl
        refine ⟨t', D', post ++ (flat (pt t 1) ++ flat (pt t 2)), o1, ?_⟩
        rw [o0, Nat.zero_add, List.drop_append_of_le_length (by omega), o2, List.append_assoc]
      · have o1' : off t 1 = (flat (pt t 0)).length := rfl
        refine ⟨t', D', post ++ flat (pt t 2), o1, ?_⟩
        rw [o1', ← List.drop_drop, List.drop_left, List.drop_append_of_le_length (by omega), o2, List.append_assoc]
      · have o2' : off t 2 = (flat (pt t 0)).length + (flat (pt t 1)).length := rfl
        refine ⟨t', D', post, o1, ?_⟩
        rw [o2', Nat.add_assoc, ← List.drop_drop, List.drop_left, ← List.drop_drop, List.drop_left, o2]
theorem flat_sty {D : Nat} {t : Ty} (h : ok D t = true) : STy (flat t) := by
  intro k c hk _
  have : k < (flat t).length := by
    rcases Nat.lt_or_ge k (flat t).length with x | x
    · exact x
    · rw [List.getElem?_eq_none x] at hk; cases hk
  exact flat_drop (flat t).length D t h (Nat.le_refl _) k this
theorem flat_sok {D : Nat} {a : Ty × Bool} (h : ok D a.1 = true) : SOk (flat a.1) a.2 ↔ gud a = true := by
  unfold gud
  rw [Bool.and_eq_true, decide_eq_true_iff]
  refine ⟨fun hs => ⟨hs.1, hs.2 0 a.1 D [] h (by rw [List.drop_zero, List.append_nil])⟩, fun hg => ⟨hg.1, fun k t D' post _ e => ?_⟩⟩
  have := congrArg List.length e
  rw [List.length_drop, List.length_append] at this
  omega
section PmM37
variable {tx : Nat → Int} {ln : Nat} {d : Nat} {Q : Option Value → pm_S → Prop} {N : pm_M} {Rf : Nat → Nat → Nat} {K L : Nat → Nat} {n s0 : Nat}
theorem m_take0 {c p : Int} (hG : pm_G Rf K L n) (he : N 56 16 = 0) (h : Q (some (.int (zI 0))) (zM N, Rf, K, L, n, s0)) : pm_Wc (d + 1) 142 [.ref 56, .int (zI c), .int (zI p)] (zM N, Rf, K, L, n, s0) Q := by
  refine wc_in (ls0 := [some (.ref 56), some (.int (zI c)), some (.int (zI p)), none, none, none, none, none]) (by decide) (Nat.le_of_ble_eq_true rfl) rfl rfl ?_
  refine wp_aload_n d142_0 rfl ?_
  refine wz_getI (v := 0) d142_1 rfl (hG.o (by decide) rfl) (by decide) (he) ?_
  refine wz_if_ne (t := 9) d142_4 (by decide) ⟨by omega, by omega⟩ (fun hb => absurd (by decide) hb) (fun _ => ?_)
  refine wz_iconst d142_7 ?_
  exact wp_ret d142_8 rfl (h)
/-- nothing more is expected -/
theorem l_done {wt : Int} {p nd sc : Nat} (hG : pm_G Rf K L n) (h : MS tx ln N p nd sc []) (h1 : p < ln → Q (some (.int (zI (p : Int)))) (zM N, Rf, K, L, n, s0)) (h0 : p = ln → Q (some (.int (zI (-1)))) (zM N, Rf, K, L, n, s0)) : LH (d + 1) wt p (zM N, Rf, K, L, n, s0) Q := by
  have e16 : N 56 16 = 0 := h.2.2.2.2.2.1
  by_cases hlt : p < ln
  · refine m_step hG h.2.1 hlt ?_
    refine m_take0 hG e16 ?_
    exact m_go0 (h1 hlt)
  · have hpl := h.2.2.1
    exact m_over (k := 0) hG h.2.1 (by omega) e16 (by decide) (fun e => absurd rfl e) (fun _ => h0 (by omega))
theorem m_readS {wt : Int} (hG : pm_G Rf K L n) (hM : ∀ p i, R32 (N p i)) (ht : MT N tx ln) (rw' : R32 wt) (h : ∀ N' : pm_M, MFr 64 64 0 N N' → MS tx ln N' 0 64 64 [(wt, 1, -1, -1)] → LH (d + 2) wt 0 (zM N', Rf, K, L, n, s0) Q) : pm_Wc (d + 3) 143 [.ref 56, .int (zI wt)] (zM N, Rf, K, L, n, s0) Q := by
  refine wc_in (ls0 := [some (.ref 56), some (.int (zI wt)), none]) (by decide) (Nat.le_of_ble_eq_true rfl) rfl rfl ?_
  refine wp_aload_n d143_0 rfl ?_
  refine wz_bipush d143_1 (by decide) ?_
  refine wz_putI (i := 5) d143_3 rfl (hG.o (by decide) rfl) rfl (by decide) rfl ?_
  refine wp_aload_n d143_6 rfl ?_
  refine wz_bipush d143_7 (by decide) ?_
  refine wz_putI (i := 11) d143_9 rfl (hG.o (by decide) rfl) rfl (by decide) rfl ?_
  refine wp_aload_n d143_12 rfl ?_
  refine wz_iconst d143_13 ?_
  refine wz_putI (i := 16) d143_14 rfl (hG.o (by decide) rfl) rfl (by decide) rfl ?_
  refine wp_aload_n d143_17 rfl ?_
  refine wp_iload_n d143_18 rfl ?_
  refine wz_iconst d143_19 ?_
  refine wz_iconst d143_20 ?_
  refine wz_iconst d143_21 ?_
  refine wp_virt (as := [.int (zI (-1)), .int (zI (-1)), .int (zI 1), .int (zI wt)]) (rest := []) d143_22 rfl rfl rfl (hG.o (by decide) rfl) rfl rfl (Nat.le_of_ble_eq_true rfl) ?_
  have fr0 : MFr 64 64 0 N (mset (mset (mset N 56 5 64) 56 11 64) 56 16 0) := (((MFr.refl N).set (by unfold WMr; omega)).set (by unfold WMr; omega)).set (by unfold WMr; omega)
  have r0 : ∀ p i, R32 (mset (mset (mset N 56 5 64) 56 11 64) 56 16 0 p i) := mset_R32 (mset_R32 (mset_R32 hM ⟨by omega, by omega⟩) ⟨by omega, by omega⟩) ⟨by omega, by omega⟩
  refine m_expectE (nd := 64) (sc := 64) (l := []) hG r0 (by rw [mset_s]; rfl) (by decide) trivial rw' ⟨by omega, by omega⟩ ⟨by omega, by omega⟩ ⟨by omega, by omega⟩ (fun N2 f2 b5 b11 e2 x2 bo2 r2 => ?_)
  have fr2 : MFr 64 64 0 N N2 := fr0.trans f2
  refine wz_iconst d143_25 ?_
  refine wp_istore_n d143_26 (Nat.le_of_ble_eq_true rfl) rfl ?_
  exact h N2 fr2 ⟨r2, MT.same fr2 ht, Nat.zero_le _, b5.trans (by simp [mset]), b11.trans (by simp [mset]), e2, x2, by decide, by decide, by decide, by decide⟩
/-- what readType may write -/
def WRm (p : Nat) (i : Int) : Prop := (p = 56 ∧ (i = 0 ∨ i = 5 ∨ i = 11 ∨ i = 16)) ∨ (59 ≤ p ∧ p ≤ 67 ∧ 64 ≤ i) ∨ (68 ≤ p ∧ p ≤ 72) ∨ (p = 73 ∧ i < 68)
theorem m_readType {k : Int} {T : Int → Option Ty} (hG : pm_G Rf K L n) (hM : ∀ p i, R32 (N p i)) (rk : R32 k) (hT : SLM N T) (ht : MT N tx ln) (h2 : ¬ (0 ≤ k ∧ k ≤ 3) → Q (some (.int (zI (-2)))) (zM N, Rf, K, L, n, s0)) (h : 0 ≤ k → k ≤ 3 → ∀ N' : pm_M, (∀ p i, ¬ WRm p i → N' p i = N p i) → N' 56 0 = 0 → SLM N' (sluO T k (rdT tx ln).2) → (∀ p i, R32 (N' p i)) → Q (some (.int (zI (rdT tx ln).1))) (zM N', Rf, K, L, n, s0)) : pm_Wc (d + 8) 173 [.ref 56, .int (zI k)] (zM N, Rf, K, L, n, s0) Q := by
  refine wc_in (ls0 := [some (.ref 56), some (.int (zI k)), none]) (by decide) (Nat.le_of_ble_eq_true rfl) rfl rfl ?_
  refine wp_aload_n d173_0 rfl ?_
  refine wp_iload_n d173_1 rfl ?_
  refine wp_virt (as := [.int (zI k)]) (rest := []) d173_2 rfl rfl rfl (hG.o (by decide) rfl) rfl rfl (Nat.le_of_ble_eq_true rfl) ?_
  refine m_isSlot rk (fun k0 k3 => ?_) (fun e => ?_)
  rotate_left
  · skip
    refine wz_if_ne (t := 11) d173_5 (by decide) ⟨by omega, by omega⟩ (fun hb => absurd (by decide) hb) (fun _ => ?_)
    refine wz_bipush d173_8 (by decide) ?_
    exact wp_ret d173_10 rfl (h2 e)
  refine wz_if_ne (t := 11) d173_5 (by decide) ⟨by omega, by omega⟩ (fun _ => ?_) (fun hb => absurd hb (by decide))
  refine wp_aload_n d173_11 rfl ?_
  refine wz_sipush d173_12 (by decide) ?_
  refine wp_virt (as := [.int (zI 200)]) (rest := []) d173_15 rfl rfl rfl (hG.o (by decide) rfl) rfl rfl (Nat.le_of_ble_eq_true rfl) ?_
  have hh := h k0 k3
  refine wc_deep (show d + 3 + 3 ≤ d + 7 by omega) ?_
  refine m_readS (d := d + 3) hG hM ht ⟨by omega, by omega⟩ (fun N1 fr1 ms1 => ?_)
  -- behind the reading
  have back : ∀ (v : Int) (N2 : pm_M), MFr 64 64 0 N N2 → (∀ p i, R32 (N2 p i)) → R32 v → (0 ≤ v → (rdT tx ln) = (v, none)) → (v < 0 → pm_Wp none (d + 7) 173 30 [some (.ref 56), some (.int (zI k)), some (.int (zI v))] [] (zM (mset N2 56 0 0), Rf, K, L, n, s0) Q) → pm_Wp none (d + 7) 173 18 [some (.ref 56), some (.int (zI k)), none] [.int (zI v)] (zM N2, Rf, K, L, n, s0) Q := by
    intro v N2 fr2 r2 rv hv hn
    refine wp_istore_n d173_18 (Nat.le_of_ble_eq_true rfl) rfl ?_
    refine wp_aload_n d173_19 rfl ?_
    refine wz_iconst d173_20 ?_
    refine wz_putI (i := 0) d173_21 rfl (hG.o (by decide) rfl) rfl (by decide) rfl ?_
    refine wp_iload_n d173_24 rfl ?_
    refine wz_if_lt (t := 30) d173_25 (by decide) rv (fun hb => ?_) (fun hb => ?_)
    · skip
      exact hn hb
    · skip
      refine wp_iload_n d173_28 rfl ?_
      refine wp_ret d173_29 rfl ?_
      rw [hv (by omega)] at hh
      refine hh _ (fun p i hw => ?_) (mset_s _ _ _ _) (hT.keep (fun i _ _ => ?_) (fun i _ => ?_)) (mset_R32 r2 ⟨by omega, by omega⟩)
      · unfold mset
        rw [if_neg (fun e => hw (Or.inl ⟨e.1, Or.inl e.2⟩))]
        exact fr2 p i (fun x => hw (by unfold WMr at x; unfold WRm; omega))
      · rw [mset_p _ _ _ _ (by decide)]; exact fr2 72 i (by unfold WMr; omega)
      · rw [mset_p _ _ _ _ (by decide)]; exact fr2 73 i (by unfold WMr; omega)
  have S1 : SCh 64 N1 64 64 (-1) [] := rfl
  refine m_types tx ln (d + 1) 23 200 (-1) (-1) [] 0 64 64 [] N1 Rf K L n s0 _ hG ms1 S1 (fun s h1 h2 => absurd h2 (by omega)) (by decide) (by decide) (fun q N2 hq fr2 r2 => ?_) (fun q a N2 sc2 hq fr2 ms2 hsc sw2 nt2 => ?_)
  · have hq : pT tx ln 23 [] 0 = (q, none) := hq
    have q60 := (pT_fw (tx := tx) (ln := ln) 23 [] 0 (Nat.zero_le _)).2.1
    rw [hq] at q60
    have q60 : q ≤ ln := q60
    have l60 := ht.2.1
    exact back (q : Int) N2 (fr1.trans fr2) r2 ⟨by omega, by omega⟩ (fun _ => by unfold rdT; rw [hq]) (fun hv => by omega)
  have hq : pT tx ln 23 [] 0 = (q, some a) := hq
  have pok := pT_ok 23 [] 0 q a hq
  have q60 := ms2.2.2.1
  have l60 := ht.2.1
  refine l_done (d := d + 4) hG ms2 (fun hlt => back (q : Int) N2 (fr1.trans fr2) ms2.1 ⟨by omega, by omega⟩ (fun _ => by unfold rdT; rw [hq]; exact if_pos hlt) (fun hv => by omega)) (fun heq => back (-1) N2 (fr1.trans fr2) ms2.1 ⟨by omega, by omega⟩ (fun hv => by omega) (fun _ => ?_))
  have erd : rdT tx ln = if gud a = true then (-1, some a.1) else (-2, none) := by
    unfold rdT
    rw [hq]
    exact if_neg (by omega)
  rw [erd] at hh
  have fr02 := fr1.trans fr2
  have e5 := ms2.2.2.2.1
  have scb := ms2.2.2.2.2.2.2.2.2.2.2
  have r3 : ∀ p i, R32 (mset N2 56 0 0 p i) := mset_R32 ms2.1 ⟨by omega, by omega⟩
  have pl := pok.2.2
  have nt3 : NTl 64 (mset N2 56 0 0) (64 + (flat a.1).length) sc2 64 (flat a.1) a.2 := nt2.lb (m := 0) (fun q i _ _ h56 => by unfold mset; rw [if_neg (fun e => h56 e.1)]) (by decide)
  have nrm : ∀ (N4 : pm_M), (∀ p i, ¬ (p = 72 ∨ (p = 73 ∧ i < 68)) → N4 p i = mset N2 56 0 0 p i) → ∀ p i, ¬ WRm p i → N4 p i = N p i := by
    intro N4 h4 p i hw
    rw [h4 p i (fun x => hw (by unfold WRm; omega))]
    unfold mset
    rw [if_neg (fun e => hw (Or.inl ⟨e.1, Or.inl e.2⟩))]
    exact fr02 p i (fun x => hw (by unfold WMr at x; unfold WRm; omega))
  have sl3 : SLM (mset N2 56 0 0) T := hT.keep (fun i _ _ => by rw [mset_p _ _ _ _ (by decide)]; exact fr02 72 i (by unfold WMr; omega)) (fun i _ => by rw [mset_p _ _ _ _ (by decide)]; exact fr02 73 i (by unfold WMr; omega))
  refine wp_aload_n d173_30 rfl ?_
  refine wp_virt (as := []) (rest := []) d173_31 rfl rfl rfl (hG.o (by decide) rfl) rfl rfl (Nat.le_of_ble_eq_true rfl) ?_
  refine wc_deep (show d + 4 ≤ d + 7 by omega) ?_
  refine m_sound (sc := sc2) (nd := 64 + (flat a.1).length) (l := flat a.1) hG r3 (by rw [mset_i _ _ _ _ (by decide)]; exact e5) (by omega) (by omega) nt3.nx (flat_sty pok.1) (fun hs => ?_) (fun hs => ?_)
  rotate_left
  · skip
    rw [if_neg (fun x => hs ((flat_sok pok.1).mpr x))] at hh
    refine wz_if_ne (t := 40) d173_34 (by decide) ⟨by omega, by omega⟩ (fun hb => absurd (by decide) hb) (fun _ => ?_)
    refine wz_bipush d173_37 (by decide) ?_
    exact wp_ret d173_39 rfl (hh _ (nrm _ (fun _ _ _ => rfl)) (mset_s _ _ _ _) sl3 r3)
  have hg := (flat_sok pok.1).mp hs
  rw [if_pos hg] at hh
  have hg2 : a.2 = true ∧ (flat a.1).length ≤ 16 := by
    unfold gud at hg
    rw [Bool.and_eq_true, decide_eq_true_iff] at hg
    exact hg
  have oa := pok.2.1 hg2.1
  rw [hg2.1] at nt3
  refine wz_if_ne (t := 40) d173_34 (by decide) ⟨by omega, by omega⟩ (fun _ => ?_) (fun hb => absurd hb (by decide))
  refine wp_aload_n d173_40 rfl ?_
  refine wz_bipush d173_41 (by decide) ?_
  refine wp_iload_n d173_43 rfl ?_
  refine wp_virt (as := [.int (zI k), .int (zI 64)]) (rest := []) d173_44 rfl rfl rfl (hG.o (by decide) rfl) rfl rfl (Nat.le_of_ble_eq_true rfl) ?_
  rw [show (64 : Int) = ((64 : Nat) : Int) by rfl]
  refine wc_deep (show d + 3 ≤ d + 7 by omega) ?_
  refine m_fill (i := 64) (D := 0) hG r3 nt3 (by omega) oa hg2.2 (by omega) k0 (by omega) (fun r4 => ?_)
  refine wp_aload_n d173_47 rfl ?_
  refine wp_getR (q := 72) d173_48 rfl (hG.o (by decide) rfl) (by decide) (hG.r (by decide +kernel)) (by decide) ?_
  refine wp_iload_n d173_51 rfl ?_
  refine wz_iconst d173_52 ?_
  refine wz_zast (z := 4) d173_53 (hG.a (by decide) rfl rfl) (by omega) (by omega) (by decide) (by omega) ?_
  refine wz_iconst d173_54 ?_
  have row := mput_row (flat a.1) (mset N2 56 0 0) k 0
  rw [Int.add_zero] at row
  refine wp_ret d173_55 rfl (hh _ (nrm _ (fun p i hx => ?_)) ?_ ?_ (mset_R32 r4 ⟨by omega, by omega⟩))
  · rw [mset_p _ _ _ _ (fun e => hx (Or.inl e))]
    by_cases e : p = 73
    · subst e
      exact mput_o _ _ _ _ (by omega)
    · exact mput_p _ _ _ _ e
  · rw [mset_p _ _ _ _ (by decide), mput_p _ _ _ _ (by decide), mset_s]
  · refine sl3.upd k0 k3 (mset_s _ _ _ _) (fun i _ _ hne => ?_) (Row.same (fun i _ _ => mset_p _ _ _ _ (by decide)) row) (fun i hi hne => ?_) hg2.2 oa
    · rw [mset_i _ _ _ _ hne, mput_p _ _ _ _ (by decide)]
    · rw [mset_p _ _ _ _ (by decide), mput_o _ _ _ _ (by omega)]
end PmM37
