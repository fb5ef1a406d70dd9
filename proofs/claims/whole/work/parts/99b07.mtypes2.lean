/-! THE MODEL: reading any type. -/
section PmM34
variable {tx : Nat → Int} {ln d : Nat}
theorem srt_nil {α : Type} : Srt 0 ([] : List (Nat × α)) := trivial
set_option maxHeartbeats 2000000 in
theorem m_anyType {r : Nat} (IH : ∀ r', r = r' + 1 → MTyC tx ln d r') : MTyC tx ln d r := by
  intro wt s w ch p nd sc l N Rf K L n s0 Q hG ms hS hW hll hr hfail hok
  have rng := hS.rng
  have msb := ms.2.2.2.2.2.2.2.2.2.2
  have msn := ms.2.2.2.2.2.2.2.2.1
  have ms64 := ms.2.2.2.2.2.2.2.1
  have ms64s := ms.2.2.2.2.2.2.2.2.2.1
  have m60 := ms.2.2.1
  have l60 := ms.2.1.2.1
  refine l_type (d := d + 1) hG ms (by omega) ⟨rng.1, by omega⟩ ⟨by omega, by omega⟩ (fun c84 N1 ms1 fr1 a59 => ?_) (fun cv N1 ms1 fr1 a59 a60 a62 => ?_) (fun c91 N1 ms1 fr1 a59 a60 => ?_) (fun c40 h24 N1 ms1 fr1 a59 => ?_) (fun c60 h24 N1 ms1 fr1 a59 a61 a63 a64 a65 a67 => ?_) (fun n84 nnm n91 hno N1 fr1 r1 => ?_)
  · exact hok (p + 1) (tTop, true) N1 sc (pT_T c84) (fr1 _) ms1 (Nat.le_refl _) (hW.same (fr1 0) (Nat.le_succ _)) ⟨true, true, Or.inl ⟨rfl, a59, by decide, by decide⟩, rfl, rfl⟩
  · refine hok (p + 1) _ N1 sc (pT_v (by omega) cv) (fr1 _) ms1 (Nat.le_refl _) (hW.same (fr1 0) (Nat.le_succ _)) ⟨_, true, Or.inr (Or.inr ⟨a59, ⟨by rw [a60]; omega, by rw [a60]; omega⟩, ch, ?_, rfl, ?_⟩), rfl, ?_⟩
    · rw [a62]
      exact (hS.same (fr1 0)).up (by omega) (Nat.le_refl _)
    · rw [a60, show 80 + (chr tx ln p - 80) = chr tx ln p by omega]
      show ((16 + (lvl (tnm ch) (chr tx ln p)).getD 0 : Nat) : Int) = _
      omega
    · rw [a60, show 80 + (chr tx ln p - 80) = chr tx ln p by omega, Bool.and_true]
  · -- a record
    have n84 : chr tx ln p ≠ 84 := by omega
    have nnm : ¬ (80 ≤ chr tx ln p ∧ chr tx ln p ≤ 83) := by omega
    have epT := pT_r (tx := tx) (ln := ln) (r := r) (e := tnm ch) n84 nnm c91
    have S1 : SCh 64 N1 (nd + 1) sc s ch := (hS.same fr1).up (by omega) (Nat.le_refl _)
    have m1b := ms1.2.2.1
    have fs1 : FS tx ln N N1 nd sc 0 (p + 1) (nd + 1) sc [] s ch l.length := ⟨fr1, a59, a60, rfl, rfl, ⟨S1, hW.same fr1 (Nat.le_succ _)⟩, fun b hb => (by cases hb), fun rest hr => hr, by decide, Or.inl rfl, by omega, Nat.le_refl _⟩
    have fin : ∀ q rest N2 sc2, pT tx ln r (tnm ch) p = (q, some (mkR rest)) → Srt 0 rest → MFr nd sc l.length N N2 → MS tx ln N2 q (nd + 1 + (fcat rest).length) sc2 l → sc ≤ sc2 → SCW N2 (nd + 1 + (fcat rest).length) sc2 → N2 59 (nd : Int) = 4 → N2 60 (nd : Int) = ((msk rest : Nat) : Int) → NTl 64 N2 (nd + 1 + (fcat rest).length) sc2 (nd + 1) (fcat rest) (allc rest) → LH (d + 4) wt q (zM N2, Rf, K, L, n, s0) Q := by
      intro q rest N2 sc2 hq hs fr2 ms2 hsc sw2 g59 g60 nt
      have fl := flat_mkR hs
      have ll : (flat (mkR rest).1).length = 1 + (fcat rest).length := by rw [fl, List.length_cons]; omega
      have hm8 := (msk_bits hs).1
      refine hok q (mkR rest) N2 sc2 hq fr2 ?_ hsc (by rw [ll, show nd + (1 + (fcat rest).length) = nd + 1 + (fcat rest).length by omega]; exact sw2) ?_
      · rw [ll, show nd + (1 + (fcat rest).length) = nd + 1 + (fcat rest).length by omega]; exact ms2
      · rw [ll, fl, show nd + (1 + (fcat rest).length) = nd + 1 + (fcat rest).length by omega]
        exact ⟨true, allc rest, Or.inr (Or.inl ⟨rfl, g59, by rw [g60]; omega, by omega, by omega⟩), nt, rfl⟩
    refine l_lab204 hG ms1 (by omega) ⟨rng.1, by omega⟩ ⟨by omega, by omega⟩ (by omega) a59 (a := 0) a60 (by decide) (fun c hc3 hch hdp hac hlt N2 ms2 v2 lb2 fr2 => ?_) (fun hcl hlt N2 ms2 fr2 => ?_) (fun hn93 hno N2 fr2 r2 => ?_)
    · obtain ⟨r', rfl⟩ : ∃ r', r = r' + 1 := ⟨r - 1, by omega⟩
      have hn93 : chr tx ln (p + 1) ≠ 93 := by omega
      have erc : rcR tx ln (tnm ch) (p + 1) (r' + 1) = thn (pFs tx ln (pT tx ln r' (tnm ch)) 93 3 0 (p + 1)) (fun l q => (q, some (mkR l))) := if_neg hn93
      refine m_afterT (IH r' rfl) (k := 2) hG (by omega) fs1 (by decide) (by decide) hll hc3 hch hac ms2 v2 lb2 fr2 (fun lo' p' nd' sc' acc' N' a1 a2 a3 a4 a5 a6 => m_fieldsT (IH r' rfl) hG (by omega) hll 2 lo' p' nd' sc' acc' N' a1 a2 a3 a4 a5 a6) (fun q N3 hq fr3 r3 => ?_) (fun q rest N3 sc3 hq fr3 ms3 hsc sw3 g59 g60 nt => ?_)
      · exact hfail q N3 (by rw [epT, erc, thn_none hq]) fr3 r3
      · rw [List.nil_append] at ms3 g60 nt sw3
        have hs := (pFs_all (P := fun _ => True) (sz := fun _ => 0) (fun p q a hh => ⟨trivial, by
          have := (pT_ok r' (tnm ch) p q a hh).2.2
          omega⟩) 3 0 _ _ _ hq).1
        exact fin q rest N3 sc3 (by rw [epT, erc, thn_some hq]) hs fr3 ms3 hsc sw3 g59 g60 nt
    · have erc : rcR tx ln (tnm ch) (p + 1) r = (p + 1 + 1, some (mkR [])) := by
        cases r with
        | zero => exact if_pos hcl
        | succ r => exact if_pos hcl
      exact fin (p + 1 + 1) [] N2 sc (by rw [epT, erc]) trivial (fr1.trans (fr2 _ _ _)) ms2 (Nat.le_refl _) ((hW.same fr1 (Nat.le_succ _)).same (fr2 _ _ 0) (Nat.le_refl _)) ((fr2 (nd + 1) 0 0 59 _ (by unfold WMr; omega)).trans a59) ((fr2 (nd + 1) 0 0 60 _ (by unfold WMr; omega)).trans a60) rfl
    · refine hfail (p + 1) N2 ?_ (fr1.trans (fr2 _ _ _)) r2
      rw [epT]
      cases r with
      | zero => exact if_neg hn93
      | succ r' =>
        have erc : rcR tx ln (tnm ch) (p + 1) (r' + 1) = thn (pFs tx ln (pT tx ln r' (tnm ch)) 93 3 0 (p + 1)) (fun l q => (q, some (mkR l))) := if_neg hn93
        rw [erc]
        have e : pFs tx ln (pT tx ln r' (tnm ch)) 93 3 0 (p + 1) = (p + 1, none) := by
          rw [pFs_succ, if_pos]
          by_cases x : chr tx ln (p + 1) < 120 + ((0 : Nat) : Int) ∨ 123 ≤ chr tx ln (p + 1)
          · exact x
          · exfalso
            exact hno (chr tx ln (p + 1) - 120).toNat (by omega) (by omega) (by omega) (Nat.pow_pos (by decide))
        rw [thn_none e]
  · -- a function
    obtain ⟨r', rfl⟩ : ∃ r', r = r' + 1 := ⟨r - 1, by omega⟩
    have n84 : chr tx ln p ≠ 84 := by omega
    have nnm : ¬ (80 ≤ chr tx ln p ∧ chr tx ln p ≤ 83) := by omega
    have epT := pT_f (tx := tx) (ln := ln) (r := r') (e := tnm ch) n84 nnm (by omega) c40
    have b0 : ((24 - (r' + 1) : Nat) : Int) + 1 = ((24 - r' : Nat) : Int) := by omega
    rw [b0] at ms1
    have S1 : SCh 64 N1 (nd + 1) sc s ch := (hS.same fr1).up (by omega) (Nat.le_refl _)
    refine IH r' rfl wt s (nd : Int) ch (p + 1) (nd + 1) sc _ N1 Rf K L n s0 Q hG ms1 S1 (hW.same fr1 (Nat.le_succ _)) (by simp only [List.length_cons]; omega) (by omega) (fun q N2 hq fr2 r2 => ?_) (fun q a N2 sc2 hq fr2 ms2 hsc sw2 nt2 => ?_)
    · exact hfail q N2 (by rw [epT, thn_none hq]) (fr1.trans (fr2.low (by omega) (Nat.le_refl _) (by simp only [List.length_cons]; omega))) r2
    have fr12 : MFr nd sc l.length N N2 := fr1.trans (fr2.low (by omega) (Nat.le_refl _) (by simp only [List.length_cons]; omega))
    rw [thn_some hq] at epT
    refine l_char (d := d + 3) hG ms2 (by simp only [List.length_cons]; omega) (Or.inr (Or.inl rfl)) (fun hc hlt N3 ms3 fr3 => ?_) (fun hc N3 fr3 r3 => ?_)
    rotate_left
    · rw [if_neg hc] at epT
      exact hfail q N3 epT (fr12.trans (fr3 _ _ _)) r3
    rw [if_pos hc] at epT
    have S3 : SCh 64 N3 (nd + 1 + (flat a.1).length) sc2 s ch := ((S1.same fr2).up (by omega) hsc).same (fr3 _ _ 0)
    refine IH r' rfl wt s (nd : Int) ch (q + 1) (nd + 1 + (flat a.1).length) sc2 _ N3 Rf K L n s0 Q hG ms3 S3 (sw2.same (fr3 _ _ 0) (Nat.le_refl _)) (by simp only [List.length_cons]; omega) (by omega) (fun q2 N4 hq2 fr4 r4 => ?_) (fun q2 b N4 sc4 hq2 fr4 ms4 hsc4 sw4 nt4 => ?_)
    · exact hfail q2 N4 (by rw [epT, thn_none hq2]) ((fr12.trans (fr3 _ _ _)).trans (fr4.low (by omega) hsc (by simp only [List.length_cons]; omega))) r4
    rw [thn_some hq2] at epT
    have fr14 : MFr nd sc l.length N N4 := (fr12.trans (fr3 _ _ _)).trans (fr4.low (by omega) hsc (by simp only [List.length_cons]; omega))
    refine l_char (d := d + 3) hG ms4 (by omega) (Or.inl rfl) (fun hc2 hlt2 N5 ms5 fr5 => ?_) (fun hc2 N5 fr5 r5 => ?_)
    rotate_left
    · rw [if_neg hc2] at epT
      exact hfail q2 N5 epT (fr14.trans (fr5 _ _ _)) r5
    rw [if_pos hc2] at epT
    have ll : (flat (tFun a.1 b.1)).length = 1 + ((flat a.1).length + (flat b.1).length) := by
      rw [flat_fun, List.length_cons, List.length_append]; omega
    have e0 : nd + (flat (tFun a.1 b.1)).length = nd + 1 + (flat a.1).length + (flat b.1).length := by omega
    have fr35 : MFr (nd + 1 + (flat a.1).length) sc2 0 N2 N5 := ((fr3 _ _ 0).trans (fr4.low (Nat.le_refl _) (Nat.le_refl _) (Nat.zero_le _))).trans (fr5 _ _ 0)
    refine hok (q2 + 1) (tFun a.1 b.1, a.2 && b.2) N5 sc4 epT (fr14.trans (fr5 _ _ _)) ?_ (by omega) (by show SCW N5 (nd + (flat (tFun a.1 b.1)).length) sc4; rw [e0]; exact sw4.same (fr5 _ _ 0) (Nat.le_refl _)) ?_
    · show MS tx ln N5 (q2 + 1) (nd + (flat (tFun a.1 b.1)).length) sc4 l
      rw [e0]; exact ms5
    · show NTl 64 N5 (nd + (flat (tFun a.1 b.1)).length) sc4 nd (flat (tFun a.1 b.1)) (a.2 && b.2)
      rw [e0, flat_fun]
      refine ⟨true, a.2 && b.2, Or.inl ⟨rfl, ?_, by decide, by decide⟩, NTl.app ?_ ?_, rfl⟩
      · rw [fr35 59 _ (by unfold WMr; omega), fr2 59 _ (by unfold WMr; omega)]; exact a59
      · exact nt2.move fr35 (Nat.le_refl _) (Nat.le_refl _) (by omega) hsc4 (by omega)
      · exact nt4.move (fr5 (nd + 1 + (flat a.1).length + (flat b.1).length) sc4 0) (Nat.le_refl _) (Nat.le_refl _) (Nat.le_refl _) (Nat.le_refl _) (Nat.le_refl _)
  · -- a scheme
    obtain ⟨r', rfl⟩ : ∃ r', r = r' + 1 := ⟨r - 1, by omega⟩
    have n84 : chr tx ln p ≠ 84 := by omega
    have nnm : ¬ (80 ≤ chr tx ln p ∧ chr tx ln p ≤ 83) := by omega
    have epT := pT_a (tx := tx) (ln := ln) (r := r') (e := tnm ch) n84 nnm (by omega) (by omega) c60
    have b0 : ((24 - (r' + 1) : Nat) : Int) + 1 = ((24 - r' : Nat) : Int) := by omega
    rw [b0] at ms1
    have m1b := ms1.2.2.1
    have S1 : SCh 64 N1 (nd + 1) sc s ch := (hS.same fr1).up (by omega) (Nat.le_refl _)
    refine l_name202 (d := d + 3) (sc0 := sc) hG ms1 (by simp only [List.length_cons]; omega) (by omega) a63 (Nat.le_refl _) (by omega) (fun hn hlt N2 ms2 fr2 nm2 bo2 => ?_) (fun hn N2 fr2 r2 => ?_)
    rotate_left
    · rw [if_neg hn] at epT
      exact hfail (p + 1) N2 epT (fr1.trans (fr2 _ _)) r2
    rw [if_pos hn] at epT
    refine l_char (d := d + 3) hG ms2 (by simp only [List.length_cons]; omega) (Or.inr (Or.inr (Or.inl rfl))) (fun hc hlt2 N3 ms3 fr3 => ?_) (fun hc N3 fr3 r3 => ?_)
    rotate_left
    · rw [if_neg hc] at epT
      exact hfail (p + 1 + 1) N3 epT ((fr1.trans (fr2 _ _)).trans (fr3 _ _ _)) r3
    rw [if_pos hc] at epT
    have fr13 : MFr nd sc l.length N N3 := (fr1.trans (fr2 _ _)).trans (fr3 _ _ _)
    have fr03 : ∀ c, MFr (nd + 1) sc c N1 N3 := fun c => (fr2 _ c).trans (fr3 _ _ c)
    have S3 : SCh 64 N3 (nd + 1) (sc + 1) s ch := (S1.same (fr03 0)).up (Nat.le_refl _) (by omega)
    have e66 : N3 66 (sc : Int) = chr tx ln (p + 1) - 80 := (fr3 0 (sc + 1) 0 66 _ (by unfold WMr; omega)).trans nm2
    have keep : ∀ (q : Nat) (i : Int), q ≠ 66 → q ≠ 56 → N3 q i = N1 q i := fun q i q1 q2 => (fr3 (i.toNat + 1) (i.toNat + 1) (i.toNat + 1) q i (by unfold WMr; omega)).trans (bo2 q i q1 q2)
    have S3b : SCh 64 N3 (nd + 1) (sc + 1) (sc : Int) ((0, chr tx ln (p + 1), p) :: ch) := by
      refine ⟨⟨by omega, by omega⟩, (keep 65 _ (by decide) (by decide)).trans a65, e66, Nat.zero_le _, ?_, ?_, ?_, ?_⟩
      · rw [keep 64 _ (by decide) (by decide), a64]; exact rng.2
      · rw [keep 67 _ (by decide) (by decide), a67]; exact ⟨by omega, (keep 63 _ (by decide) (by decide)).trans a63⟩
      · rw [keep 67 _ (by decide) (by decide), a67, keep 61 _ (by decide) (by decide)]; exact a61
      · rw [keep 64 _ (by decide) (by decide), a64]; exact S3
    have W3 : SCW N3 (nd + 1) (sc + 1) := ((hW.same fr13 (Nat.le_refl _))).opn (by omega) ((keep 64 _ (by decide) (by decide)).trans a64) hS.rng2 ((keep 67 _ (by decide) (by decide)).trans a67) ((keep 63 _ (by decide) (by decide)).trans a63)
    refine IH r' rfl wt s (nd : Int) ch (p + 1 + 2) (nd + 1) (sc + 1) _ N3 Rf K L n s0 Q hG ms3 S3 W3 (by simp only [List.length_cons]; omega) (by omega) (fun q N4 hq fr4 r4 => ?_) (fun q a N4 sc4 hq fr4 ms4 hsc sw4 nt4 => ?_)
    · exact hfail q N4 (by rw [epT, thn_none hq]) (fr13.trans (fr4.low (by omega) (by omega) (by simp only [List.length_cons]; omega))) r4
    have fr14 : MFr nd sc l.length N N4 := fr13.trans (fr4.low (by omega) (by omega) (by simp only [List.length_cons]; omega))
    rw [thn_some hq] at epT
    refine l_char (d := d + 3) hG ms4 (by simp only [List.length_cons]; omega) (Or.inr (Or.inl rfl)) (fun hc2 hlt3 N5 ms5 fr5 => ?_) (fun hc2 N5 fr5 r5 => ?_)
    rotate_left
    · rw [if_neg hc2] at epT
      exact hfail q N5 epT (fr14.trans (fr5 _ _ _)) r5
    rw [if_pos hc2] at epT
    have S5 : SCh 64 N5 (nd + 1 + (flat a.1).length) sc4 (sc : Int) ((0, chr tx ln (p + 1), p) :: ch) := ((S3b.same fr4).up (by omega) hsc).same (fr5 _ _ 0)
    refine IH r' rfl wt (sc : Int) (nd : Int) ((0, chr tx ln (p + 1), p) :: ch) (q + 1) (nd + 1 + (flat a.1).length) sc4 _ N5 Rf K L n s0 Q hG ms5 S5 (sw4.same (fr5 _ _ 0) (Nat.le_refl _)) (by omega) (by omega) (fun q2 N6 hq2 fr6 r6 => ?_) (fun q2 b N6 sc6 hq2 fr6 ms6 hsc6 sw6 nt6 => ?_)
    · have hq2 : pT tx ln r' (chr tx ln (p + 1) :: tnm ch) (q + 1) = (q2, none) := hq2
      exact hfail q2 N6 (by rw [epT, thn_none hq2]) ((fr14.trans (fr5 _ _ _)).trans (fr6.low (by omega) (by omega) (Nat.le_refl _))) r6
    have hq2 : pT tx ln r' (chr tx ln (p + 1) :: tnm ch) (q + 1) = (q2, some b) := hq2
    rw [thn_some hq2] at epT
    have ll : (flat (tAll a.1 b.1)).length = 1 + ((flat a.1).length + (flat b.1).length) := by
      rw [flat_all, List.length_cons, List.length_append]; omega
    have e0 : nd + (flat (tAll a.1 b.1)).length = nd + 1 + (flat a.1).length + (flat b.1).length := by omega
    have fr46 : MFr (nd + 1 + (flat a.1).length) sc4 0 N4 N6 := (fr5 _ _ 0).trans (fr6.low (Nat.le_refl _) (Nat.le_refl _) (Nat.zero_le _))
    refine hok q2 (tAll a.1 b.1, a.2 && b.2) N6 sc6 epT ((fr14.trans (fr5 _ _ _)).trans (fr6.low (by omega) (by omega) (Nat.le_refl _))) ?_ (by omega) (by show SCW N6 (nd + (flat (tAll a.1 b.1)).length) sc6; rw [e0]; exact sw6) ?_
    · show MS tx ln N6 q2 (nd + (flat (tAll a.1 b.1)).length) sc6 l
      rw [e0]; exact ms6
    · show NTl 64 N6 (nd + (flat (tAll a.1 b.1)).length) sc6 nd (flat (tAll a.1 b.1)) (a.2 && b.2)
      rw [e0, flat_all]
      refine ⟨true, a.2 && b.2, Or.inl ⟨rfl, ?_, by decide, by decide⟩, NTl.app ?_ ?_, rfl⟩
      · rw [fr46 59 _ (by unfold WMr; omega), fr4 59 _ (by unfold WMr; omega), keep 59 _ (by decide) (by decide)]; exact a59
      · exact nt4.move fr46 (Nat.le_refl _) (Nat.le_refl _) (by omega) hsc6 (by omega)
      · exact nt6
  · -- nothing fits
    refine hfail p N1 ?_ (fr1 _ _ _) r1
    cases r with
    | zero => exact pT_z n84 nnm n91
    | succ r' =>
      rcases hno with x | x
      · omega
      · exact pT_n n84 nnm n91 x.1 x.2
theorem m_types (tx : Nat → Int) (ln d : Nat) : ∀ r, MTyC tx ln d r
  | 0 => m_anyType (fun r' e => by omega)
  | r + 1 => m_anyType (fun r' e => by
    have : r' = r := by omega
    subst this
    exact m_types tx ln d r')
end PmM34
