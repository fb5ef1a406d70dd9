/-! THE MODEL: reading any term. -/
theorem tfl_1 (p m : Nat) : tfl (mN p 5 m .nil .nil .nil) = [-5] := rfl
theorem tfl_2 (p k m : Nat) (x y : Ty) : tfl (mN p k m x y .nil) = tcode k m :: (tfl x ++ tfl y) := by
  rw [tfl_mN]
  show tcode k m :: (tfl x ++ (tfl y ++ [])) = _
  rw [List.append_nil]
theorem tfl_3 (p k m : Nat) (x : Ty) : tfl (mN p k m x .nil .nil) = tcode k m :: tfl x := by
  rw [tfl_mN]
  show tcode k m :: (tfl x ++ ([] ++ [])) = _
  rw [List.append_nil, List.append_nil]
theorem tfl_mkM {p : Nat} {r : List (Nat × (Ty × Bool))} (h : Srt 0 r) : tfl (mkM p r).1 = (-100 - ((msk r : Nat) : Int)) :: tcat r := by
  show tcode 10 (msk r) :: (tfl (lkT r 0) ++ (tfl (lkT r 1) ++ tfl (lkT r 2))) = _
  rw [tcat_is h]; rfl
theorem MNl.parts {lo nd sc f j : Nat} {N : pm_M} {s : Int} {ch : List (Nat × Int × Nat)} {r : List (Nat × (Ty × Bool))} (hs : Srt 0 r) (h : MNl lo N nd sc f s ch j r) (ha : allc r = true) : (bit (msk r) 0 = true → MNd lo N nd sc f (lkT r 0) s ch j) ∧ (bit (msk r) 1 = true → MNd lo N nd sc f (lkT r 1) s ch (j + (tfl (lkT r 0)).length)) ∧ (bit (msk r) 2 = true → MNd lo N nd sc f (lkT r 2) s ch (j + (tfl (lkT r 0)).length + (tfl (lkT r 1)).length)) := by
  have hb := (msk_bits hs).2
  refine ⟨fun h0 => ?_, fun h1 => ?_, fun h2 => ?_⟩
  · have h0 := (hb 0 (by decide)).mp h0
    rcases srt_cases hs with rfl | ⟨a, rfl⟩ | ⟨a, rfl⟩ | ⟨a, rfl⟩ | ⟨a, b, rfl⟩ | ⟨a, b, rfl⟩ | ⟨a, b, rfl⟩ | ⟨a, b, c, rfl⟩ <;> first | (cases h0; done) | exact h.1 (allc_mem ha _ List.mem_cons_self)
  · have h1 := (hb 1 (by decide)).mp h1
    rcases srt_cases hs with rfl | ⟨a, rfl⟩ | ⟨a, rfl⟩ | ⟨a, rfl⟩ | ⟨a, b, rfl⟩ | ⟨a, b, rfl⟩ | ⟨a, b, rfl⟩ | ⟨a, b, c, rfl⟩ <;> first | (cases h1; done) | exact h.1 (allc_mem ha _ List.mem_cons_self) | exact h.2.1 (allc_mem ha _ (List.mem_cons_of_mem _ List.mem_cons_self))
  · have h2 := (hb 2 (by decide)).mp h2
    rcases srt_cases hs with rfl | ⟨a, rfl⟩ | ⟨a, rfl⟩ | ⟨a, rfl⟩ | ⟨a, b, rfl⟩ | ⟨a, b, rfl⟩ | ⟨a, b, rfl⟩ | ⟨a, b, c, rfl⟩ <;> first | (cases h2; done) | exact h.1 (allc_mem ha _ List.mem_cons_self) | exact h.2.1 (allc_mem ha _ (List.mem_cons_of_mem _ List.mem_cons_self)) | exact h.2.2.1 (allc_mem ha _ (List.mem_cons_of_mem _ (List.mem_cons_of_mem _ List.mem_cons_self)))
section PmD5
variable {tx : Nat → Int} {ln d : Nat}
set_option maxHeartbeats 4000000 in
theorem m_anyTerm {r : Nat} (IH : ∀ r', r = r' + 1 → MTmC tx ln d r') : MTmC tx ln d r := by
  intro wt s w ch p nd sc l N Rf K L n s0 Q hG ms hS hW hll hr hfail hok
  have rng := hS.rng
  have msb := ms.2.2.2.2.2.2.2.2.2.2
  have msn := ms.2.2.2.2.2.2.2.2.1
  have ms64 := ms.2.2.2.2.2.2.2.1
  have ms64s := ms.2.2.2.2.2.2.2.2.2.1
  have m60 := ms.2.2.1
  have l60 := ms.2.1.2.1
  refine l_term (d := d + 1) hG ms (by omega) ⟨rng.1, by omega⟩ ⟨by omega, by omega⟩ (fun cW N1 ms1 fr1 nb a60 => ?_) (fun c123 N1 ms1 fr1 nb a60 => ?_) (fun c92 h24 N1 ms1 fr1 nb a63 a64 a65 a67 => ?_) (fun c47 h24 N1 ms1 fr1 nb a63 a64 a65 a67 => ?_) (fun c40 h24 N1 ms1 fr1 nb => ?_) (fun c64 h24 N1 ms1 fr1 nb => ?_) (fun c46 h24 N1 ms1 fr1 nb => ?_) (fun c63 h24 N1 ms1 fr1 nb => ?_) (fun cW c123 hno N1 fr1 r1 => ?_)
  · -- a variable
    have S1 : SCh 64 N1 (nd + 1) sc s ch := (hS.same (fr1 0)).up (by omega) (Nat.le_refl _)
    have e97 : 97 + N1 60 (nd : Int) = chr tx ln p := by rw [a60]; omega
    have rg : 0 ≤ N1 60 (nd : Int) ∧ N1 60 (nd : Int) ≤ 3 := by rw [a60]; omega
    refine hok (p + 1) _ N1 sc (bnr ch (chr tx ln p)).isSome (pM_v cW) (fr1 _) ms1 (Nat.le_refl _) (hW.same (fr1 0) (Nat.le_succ _)) ⟨⟨(bnr ch (chr tx ln p)).isSome, true, Or.inr (Or.inl ⟨rfl, nb.1, rg, ch, by rw [nb.2.2]; exact S1, by rw [e97]⟩), rfl, (Bool.and_true _).symm⟩, sty_neg (c := -5) (by decide) sty_nil, (sok_neg (c := -5) (by decide)).trans sok_nil, rfl⟩ (fun hb => ?_)
    refine MNd.word (by show nd < nd + 1; omega) nb S1 rg ?_
    rw [e97]
    have hb : (bnr ch (chr tx ln p)).isSome = true := hb
    cases h : bnr ch (chr tx ln p) with
    | none => rw [h] at hb; cases hb
    | some x => rfl
  · -- a record
    have cW : ¬ (97 ≤ chr tx ln p ∧ chr tx ln p ≤ 100) := by omega
    have epM := pM_r (tx := tx) (ln := ln) (r := r) (e := ch) cW c123
    have S1 : SCh 64 N1 (nd + 1) sc s ch := (hS.same fr1).up (by omega) (Nat.le_refl _)
    have m1b := ms1.2.2.1
    have rx1 : ∀ f, RXm N1 (nd + 1) sc nd p s ch f [] := fun f => ⟨nb, a60, ⟨true, TQ.nil⟩, ⟨S1, hW.same fr1 (Nat.le_succ _)⟩, trivial⟩
    have fs1 : ∀ f, FSm N N1 nd sc 0 (nd + 1) sc [] p s ch l.length f := fun f => ⟨fr1, rx1 f, rfl, fun b hb => (by cases hb), fun rest hr => hr, by decide, Or.inl rfl, by omega, Nat.le_refl _⟩
    have fin : ∀ q rest N2 sc2, pM tx ln r ch p = (q, some (mkM p rest)) → Srt 0 rest → MFr nd sc l.length N N2 → MS tx ln N2 q (nd + 1 + (tcat rest).length) sc2 l → sc ≤ sc2 → RXm N2 (nd + 1 + (tcat rest).length) sc2 nd p s ch r rest → LH (d + 4) wt q (zM N2, Rf, K, L, n, s0) Q := by
      intro q rest N2 sc2 hq hs fr2 ms2 hsc rx2
      obtain ⟨nb2, t2, ⟨b, t3⟩, t4, t5⟩ := rx2
      have fl := tfl_mkM (p := p) hs
      have ll : (tfl (mkM p rest).1).length = 1 + (tcat rest).length := by rw [fl, List.length_cons]; omega
      have e0 : nd + (1 + (tcat rest).length) = nd + 1 + (tcat rest).length := by omega
      have hm8 := (msk_bits hs).1
      have xa : xar (-100 - ((msk rest : Nat) : Int)) = rest.length := by
        have : xar (-100 - ((msk rest : Nat) : Int)) = lab (-100 - (-100 - ((msk rest : Nat) : Int))) := by
          unfold xar
          rw [if_neg (by omega), if_neg (by omega), if_neg (by omega), if_pos (by omega)]
        rw [this, show -100 - (-100 - ((msk rest : Nat) : Int)) = ((msk rest : Nat) : Int) by omega]
        exact lab_msk hs
      refine hok q (mkM p rest) N2 sc2 b hq fr2 (by rw [ll, e0]; exact ms2) hsc (by rw [ll, e0]; exact t4.2) ?_ (fun ha => ?_)
      · rw [ll, fl, e0]
        refine TQ.cons (Or.inr (Or.inr (Or.inr ⟨rfl, nb2.1, by rw [t2]; omega, by omega, by omega⟩))) (by omega) ?_
        rw [xa]; exact t3
      · obtain ⟨q1, q2, q3⟩ := t5.parts hs ha
        rw [ll, e0]
        exact MNd.rcd (by omega) nb2 t4.1 t2 q1 q2 q3
    refine l_lab205 hG ms1 (by omega) ⟨rng.1, by omega⟩ ⟨by omega, by omega⟩ (by omega) nb.1 (a := 0) a60 (by decide) (fun c hc3 hch hdp hac hlt N2 ms2 v2 lb2 fr2 => ?_) (fun hcl hlt N2 ms2 fr2 => ?_) (fun hn93 hno N2 fr2 r2 => ?_)
    · obtain ⟨r', rfl⟩ : ∃ r', r = r' + 1 := ⟨r - 1, by omega⟩
      have hn93 : chr tx ln (p + 1) ≠ 125 := by omega
      have erc : rcM tx ln ch p (r' + 1) = thn (pFs tx ln (fun q => if chr tx ln q = 61 then pM tx ln r' ch (q + 1) else (q, none)) 125 3 0 (p + 1)) (fun l q => (q, some (mkM p l))) := if_neg hn93
      refine m_afterM (IH r' rfl) (k := 2) (acc := []) hG (by omega) (fs1 (r' + 1)) (by decide) (by decide) hll hc3 hch hac ms2 v2 lb2 fr2 (fun lo' p' nd' sc' acc' N' a1 a2 a3 a4 a5 a6 => m_fieldsM (IH r' rfl) hG (by omega) hll 2 lo' p' nd' sc' acc' N' a1 a2 a3 a4 a5 a6) (fun q N3 hq fr3 r3 => ?_) (fun q rest N3 sc3 hq fr3 ms3 hsc rx3 => ?_)
      · exact hfail q N3 (by rw [epM, erc, thn_none hq]) fr3 r3
      · rw [List.nil_append] at ms3 rx3
        have hs := (pFs_all (P := fun _ => True) (sz := fun _ => 0) (fun p q a hh => ⟨trivial, by
          by_cases c61 : chr tx ln p = 61
          · rw [if_pos c61] at hh
            have hl := chr_is c61 (by decide)
            have := (pM_fw (tx := tx) (ln := ln) r' ch (p + 1) (by omega)).1
            rw [hh] at this
            have this : p + 1 ≤ q := this
            omega
          · rw [if_neg c61] at hh; cases hh⟩) 3 0 _ _ _ hq).1
        exact fin q rest N3 sc3 (by rw [epM, erc, thn_some hq]) hs fr3 ms3 hsc rx3
    · have erc : rcM tx ln ch p r = (p + 1 + 1, some (mkM p [])) := by
        cases r with
        | zero => exact if_pos hcl
        | succ r => exact if_pos hcl
      exact fin (p + 1 + 1) [] N2 sc (by rw [epM, erc]) trivial (fr1.trans (fr2 _ _ _)) ms2 (Nat.le_refl _) ((rx1 r).move (fr2 (nd + 1) sc 0) (Nat.le_refl _) (Nat.le_refl _) (Nat.le_refl _) (Nat.le_refl _) (Nat.le_refl _) ((hW.same fr1 (Nat.le_succ _)).same (fr2 _ _ 0) (Nat.le_refl _)))
    · refine hfail (p + 1) N2 ?_ (fr1.trans (fr2 _ _ _)) r2
      rw [epM]
      cases r with
      | zero => exact if_neg hn93
      | succ r' =>
        have erc : rcM tx ln ch p (r' + 1) = thn (pFs tx ln (fun q => if chr tx ln q = 61 then pM tx ln r' ch (q + 1) else (q, none)) 125 3 0 (p + 1)) (fun l q => (q, some (mkM p l))) := if_neg hn93
        rw [erc]
        have e : pFs tx ln (fun q => if chr tx ln q = 61 then pM tx ln r' ch (q + 1) else (q, none)) 125 3 0 (p + 1) = (p + 1, none) := by
          rw [pFs_succ, if_pos]
          by_cases x : chr tx ln (p + 1) < 120 + ((0 : Nat) : Int) ∨ 123 ≤ chr tx ln (p + 1)
          · exact x
          · exfalso
            exact hno (chr tx ln (p + 1) - 120).toNat (by omega) (by omega) (by omega) (Nat.pow_pos (by decide))
        rw [thn_none e]
  · -- a function
    obtain ⟨r', rfl⟩ : ∃ r', r = r' + 1 := ⟨r - 1, by omega⟩
    have cW : ¬ (97 ≤ chr tx ln p ∧ chr tx ln p ≤ 100) := by omega
    have b0 : ((24 - (r' + 1) : Nat) : Int) + 1 = ((24 - r' : Nat) : Int) := by omega
    rw [b0] at ms1
    have m1b := ms1.2.2.1
    have S1 : SCh 64 N1 (nd + 1) sc s ch := (hS.same fr1).up (by omega) (Nat.le_refl _)
    have epM := pM_92 (tx := tx) (ln := ln) (r := r') (e := ch) cW (by omega)  c92
    refine l_name203 (d := d + 3) (sc0 := sc) hG ms1 (by first | omega | (simp only [List.length_cons]; omega)) (by omega) a63 (Nat.le_refl _) (by omega) (fun hn hlt N2 ms2 fr2 nm2 bo2 => ?_) (fun hn N2 fr2 r2 => ?_)
    rotate_left
    · rw [if_neg hn] at epM
      exact hfail (p + 1) N2 epM (fr1.trans (fr2 _ _)) r2
    rw [if_pos hn] at epM
    refine l_char (d := d + 3) hG ms2 (by first | omega | (simp only [List.length_cons]; omega)) (by decide) (fun hc hlt2 N3 ms3 fr3 => ?_) (fun hc N3 fr3 r3 => ?_)
    rotate_left
    · rw [if_neg hc] at epM
      exact hfail (p + 1 + 1) N3 epM ((fr1.trans (fr2 _ _)).trans (fr3 _ _ _)) r3
    rw [if_pos hc] at epM
    have fr13 : MFr nd sc l.length N N3 := (fr1.trans (fr2 _ _)).trans (fr3 _ _ _)
    have fr03 : ∀ c, MFr (nd + 1) sc c N1 N3 := fun c => (fr2 _ c).trans (fr3 _ _ c)
    have S3 : SCh 64 N3 (nd + 1) (sc + 1) s ch := (S1.same (fr03 0)).up (Nat.le_refl _) (by omega)
    have e66 : N3 66 (sc : Int) = chr tx ln (p + 1) - 97 := (fr3 0 (sc + 1) 0 66 _ (by unfold WMr; omega)).trans nm2
    have keep : ∀ (q : Nat) (i : Int), q ≠ 66 → q ≠ 56 → N3 q i = N1 q i := fun q i q1 q2 => (fr3 (i.toNat + 1) (i.toNat + 1) (i.toNat + 1) q i (by unfold WMr; omega)).trans (bo2 q i q1 q2)
    have nb3 : NB N3 nd 6 p s := ⟨(keep 59 _ (by decide) (by decide)).trans nb.1, (keep 61 _ (by decide) (by decide)).trans nb.2.1, (keep 62 _ (by decide) (by decide)).trans nb.2.2⟩
    have e63 : N3 63 (nd : Int) = (sc : Int) := (keep 63 _ (by decide) (by decide)).trans a63
    have S3b : SCh 64 N3 (nd + 1) (sc + 1) (sc : Int) ((1, chr tx ln (p + 1), p) :: ch) := by
      refine ⟨⟨by omega, by omega⟩, (keep 65 _ (by decide) (by decide)).trans a65, e66, Nat.le_refl _, ?_, ?_, ?_, ?_⟩
      · rw [keep 64 _ (by decide) (by decide), a64]; exact rng.2
      · rw [keep 67 _ (by decide) (by decide), a67]; exact ⟨by omega, e63⟩
      · rw [keep 67 _ (by decide) (by decide), a67]; exact nb3.2.1
      · rw [keep 64 _ (by decide) (by decide), a64]; exact S3
    have e67 : N3 67 (sc : Int) = (nd : Int) := (keep 67 _ (by decide) (by decide)).trans a67
    have W3 : SCW N3 (nd + 1) (sc + 1) := ((hW.same fr13 (Nat.le_refl _))).opn (by omega) ((keep 64 _ (by decide) (by decide)).trans a64) hS.rng2 e67 e63
    refine m_types tx ln d r' wt s (nd : Int) ch (p + 1 + 1 + 1) (nd + 1) (sc + 1) _ N3 Rf K L n s0 Q hG ms3 S3 W3 (by first | omega | (simp only [List.length_cons]; omega)) (by omega) (fun q N4 hq fr4 r4 => ?_) (fun q a N4 sc4 hq fr4 ms4 hsc sw4 nt4 => ?_)
    · exact hfail q N4 (by rw [epM, thn_none hq]) (fr13.trans (fr4.low (by omega) (by omega) (by first | omega | (simp only [List.length_cons]; omega)))) r4
    have fr14 : MFr nd sc l.length N N4 := fr13.trans (fr4.low (by omega) (by omega) (by first | omega | (simp only [List.length_cons]; omega)))
    rw [thn_some hq] at epM
    have oa := (pT_ok r' (tnm ch) (p + 1 + 1 + 1) q a hq).1
    refine l_char (d := d + 3) hG ms4 (by first | omega | (simp only [List.length_cons]; omega)) (by decide) (fun hc2 hlt3 N5 ms5 fr5 => ?_) (fun hc2 N5 fr5 r5 => ?_)
    rotate_left
    · rw [if_neg hc2] at epM
      exact hfail q N5 epM (fr14.trans (fr5 _ _ _)) r5
    rw [if_pos hc2] at epM
    have S5 : SCh 64 N5 (nd + 1 + (flat a.1).length) sc4 (sc : Int) ((1, chr tx ln (p + 1), p) :: ch) := ((S3b.same fr4).up (by omega) hsc).same (fr5 _ _ 0)
    refine IH r' rfl wt (sc : Int) (nd : Int) ((1, chr tx ln (p + 1), p) :: ch) (q + 1) (nd + 1 + (flat a.1).length) sc4 _ N5 Rf K L n s0 Q hG ms5 S5 (sw4.same (fr5 _ _ 0) (Nat.le_refl _)) (by omega) (by omega) (fun q2 N6 hq2 fr6 r6 => ?_) (fun q2 b N6 sc6 bb hq2 fr6 ms6 hsc6 sw6 tq6 mn6 => ?_)
    · exact hfail q2 N6 (by rw [epM, thn_none hq2]) ((fr14.trans (fr5 _ _ _)).trans (fr6.low (by omega) (by omega) (Nat.le_refl _))) r6
    rw [thn_some hq2] at epM
    have fl : tfl (mN p 6 (tnm ch).length a.1 b.1 .nil) = (-6) :: (flat a.1 ++ tfl b.1) := by rw [tfl_2, tfl_ty oa]; rfl
    have ll : (tfl (mN p 6 (tnm ch).length a.1 b.1 .nil)).length = 1 + ((flat a.1).length + (tfl b.1).length) := by
      rw [fl, List.length_cons, List.length_append]; omega
    have e0 : nd + (1 + ((flat a.1).length + (tfl b.1).length)) = nd + 1 + (flat a.1).length + (tfl b.1).length := by omega
    have fr46 : MFr (nd + 1 + (flat a.1).length) sc4 0 N4 N6 := (fr5 _ _ 0).trans (fr6.low (Nat.le_refl _) (Nat.le_refl _) (Nat.zero_le _))
    have fr36 : MFr (nd + 1) (sc + 1) 0 N3 N6 := (fr4.low (Nat.le_refl _) (Nat.le_refl _) (Nat.zero_le _)).trans (fr46.low (by omega) (by omega) (Nat.le_refl _))
    have nb6 : NB N6 nd 6 p s := ⟨(fr36 59 _ (by unfold WMr; omega)).trans nb3.1, (fr36 61 _ (by unfold WMr; omega)).trans nb3.2.1, (fr36 62 _ (by unfold WMr; omega)).trans nb3.2.2⟩
    have nt6 := nt4.move fr46 (Nat.le_refl _) (Nat.le_refl _) (show nd + 1 + (flat a.1).length ≤ nd + 1 + (flat a.1).length + (tfl b.1).length by omega) hsc6 (by omega)
    refine hok q2 (mN p 6 (tnm ch).length a.1 b.1 .nil, gud a && b.2) N6 sc6 (a.2 && bb) epM ((fr14.trans (fr5 _ _ _)).trans (fr6.low (by omega) (by omega) (Nat.le_refl _))) ?_ (by omega) (by show SCW N6 (nd + (tfl (mN p 6 (tnm ch).length a.1 b.1 .nil)).length) sc6; rw [ll, e0]; exact sw6) ?_ ?_
    · show MS tx ln N6 q2 (nd + (tfl (mN p 6 (tnm ch).length a.1 b.1 .nil)).length) sc6 l
      rw [ll, e0]; exact ms6
    · show TQ 1 N6 (nd + (tfl (mN p 6 (tnm ch).length a.1 b.1 .nil)).length) sc6 nd (tfl (mN p 6 (tnm ch).length a.1 b.1 .nil)) (a.2 && bb) (gud a && b.2)
      rw [ll, e0, fl]
      exact TQ.cons (Or.inr (Or.inr (Or.inl ⟨rfl, nb6.1, by decide⟩))) (by decide) ((TQ.ty nt6 oa).app tq6)
    · show (gud a && b.2) = true → MNd 64 N6 (nd + (tfl (mN p 6 (tnm ch).length a.1 b.1 .nil)).length) sc6 (r' + 1 + 1) (mN p 6 (tnm ch).length a.1 b.1 .nil) s ch nd
      rw [ll, e0]
      intro hg
      rw [Bool.and_eq_true] at hg
      have ha : a.2 = true := by
        have := hg.1
        unfold gud at this
        rw [Bool.and_eq_true] at this
        exact this.1
      rw [ha] at nt6
      refine MNd.lam (D := (tnm ch).length + 1) (nm := chr tx ln (p + 1)) (by omega) nb6 (((S3.same fr36).up (by omega) (by omega))) oa nt6 (by omega) (by rw [fr36 63 _ (by unfold WMr; omega), e63, fr36 67 _ (by unfold WMr; omega), fr36 64 _ (by unfold WMr; omega)]; exact ⟨e67, (keep 64 _ (by decide) (by decide)).trans a64⟩) ?_ (by rw [fr36 63 _ (by unfold WMr; omega), e63]; exact mn6 hg.2)
      rw [fr36 63 _ (by unfold WMr; omega), e63]
      exact (S3b.same fr36).up (by omega) (by omega)
  · -- for every type
    obtain ⟨r', rfl⟩ : ∃ r', r = r' + 1 := ⟨r - 1, by omega⟩
    have cW : ¬ (97 ≤ chr tx ln p ∧ chr tx ln p ≤ 100) := by omega
    have b0 : ((24 - (r' + 1) : Nat) : Int) + 1 = ((24 - r' : Nat) : Int) := by omega
    rw [b0] at ms1
    have m1b := ms1.2.2.1
    have S1 : SCh 64 N1 (nd + 1) sc s ch := (hS.same fr1).up (by omega) (Nat.le_refl _)
    have epM := pM_47 (tx := tx) (ln := ln) (r := r') (e := ch) cW (by omega) (by omega) (by omega) c47
    refine l_name202 (d := d + 3) (sc0 := sc) hG ms1 (by first | omega | (simp only [List.length_cons]; omega)) (by omega) a63 (Nat.le_refl _) (by omega) (fun hn hlt N2 ms2 fr2 nm2 bo2 => ?_) (fun hn N2 fr2 r2 => ?_)
    rotate_left
    · rw [if_neg hn] at epM
      exact hfail (p + 1) N2 epM (fr1.trans (fr2 _ _)) r2
    rw [if_pos hn] at epM
    refine l_char (d := d + 3) hG ms2 (by first | omega | (simp only [List.length_cons]; omega)) (by decide) (fun hc hlt2 N3 ms3 fr3 => ?_) (fun hc N3 fr3 r3 => ?_)
    rotate_left
    · rw [if_neg hc] at epM
      exact hfail (p + 1 + 1) N3 epM ((fr1.trans (fr2 _ _)).trans (fr3 _ _ _)) r3
    rw [if_pos hc] at epM
    have fr13 : MFr nd sc l.length N N3 := (fr1.trans (fr2 _ _)).trans (fr3 _ _ _)
    have fr03 : ∀ c, MFr (nd + 1) sc c N1 N3 := fun c => (fr2 _ c).trans (fr3 _ _ c)
    have S3 : SCh 64 N3 (nd + 1) (sc + 1) s ch := (S1.same (fr03 0)).up (Nat.le_refl _) (by omega)
    have e66 : N3 66 (sc : Int) = chr tx ln (p + 1) - 80 := (fr3 0 (sc + 1) 0 66 _ (by unfold WMr; omega)).trans nm2
    have keep : ∀ (q : Nat) (i : Int), q ≠ 66 → q ≠ 56 → N3 q i = N1 q i := fun q i q1 q2 => (fr3 (i.toNat + 1) (i.toNat + 1) (i.toNat + 1) q i (by unfold WMr; omega)).trans (bo2 q i q1 q2)
    have nb3 : NB N3 nd 8 p s := ⟨(keep 59 _ (by decide) (by decide)).trans nb.1, (keep 61 _ (by decide) (by decide)).trans nb.2.1, (keep 62 _ (by decide) (by decide)).trans nb.2.2⟩
    have e63 : N3 63 (nd : Int) = (sc : Int) := (keep 63 _ (by decide) (by decide)).trans a63
    have S3b : SCh 64 N3 (nd + 1) (sc + 1) (sc : Int) ((0, chr tx ln (p + 1), p) :: ch) := by
      refine ⟨⟨by omega, by omega⟩, (keep 65 _ (by decide) (by decide)).trans a65, e66, Nat.zero_le _, ?_, ?_, ?_, ?_⟩
      · rw [keep 64 _ (by decide) (by decide), a64]; exact rng.2
      · rw [keep 67 _ (by decide) (by decide), a67]; exact ⟨by omega, e63⟩
      · rw [keep 67 _ (by decide) (by decide), a67]; exact nb3.2.1
      · rw [keep 64 _ (by decide) (by decide), a64]; exact S3
    have e67 : N3 67 (sc : Int) = (nd : Int) := (keep 67 _ (by decide) (by decide)).trans a67
    have W3 : SCW N3 (nd + 1) (sc + 1) := ((hW.same fr13 (Nat.le_refl _))).opn (by omega) ((keep 64 _ (by decide) (by decide)).trans a64) hS.rng2 e67 e63
    refine m_types tx ln d r' wt s (nd : Int) ch (p + 1 + 1 + 1) (nd + 1) (sc + 1) _ N3 Rf K L n s0 Q hG ms3 S3 W3 (by first | omega | (simp only [List.length_cons]; omega)) (by omega) (fun q N4 hq fr4 r4 => ?_) (fun q a N4 sc4 hq fr4 ms4 hsc sw4 nt4 => ?_)
    · exact hfail q N4 (by rw [epM, thn_none hq]) (fr13.trans (fr4.low (by omega) (by omega) (by first | omega | (simp only [List.length_cons]; omega)))) r4
    have fr14 : MFr nd sc l.length N N4 := fr13.trans (fr4.low (by omega) (by omega) (by first | omega | (simp only [List.length_cons]; omega)))
    rw [thn_some hq] at epM
    have oa := (pT_ok r' (tnm ch) (p + 1 + 1 + 1) q a hq).1
    refine l_char (d := d + 3) hG ms4 (by first | omega | (simp only [List.length_cons]; omega)) (by decide) (fun hc2 hlt3 N5 ms5 fr5 => ?_) (fun hc2 N5 fr5 r5 => ?_)
    rotate_left
    · rw [if_neg hc2] at epM
      exact hfail q N5 epM (fr14.trans (fr5 _ _ _)) r5
    rw [if_pos hc2] at epM
    have S5 : SCh 64 N5 (nd + 1 + (flat a.1).length) sc4 (sc : Int) ((0, chr tx ln (p + 1), p) :: ch) := ((S3b.same fr4).up (by omega) hsc).same (fr5 _ _ 0)
    refine IH r' rfl wt (sc : Int) (nd : Int) ((0, chr tx ln (p + 1), p) :: ch) (q + 1) (nd + 1 + (flat a.1).length) sc4 _ N5 Rf K L n s0 Q hG ms5 S5 (sw4.same (fr5 _ _ 0) (Nat.le_refl _)) (by omega) (by omega) (fun q2 N6 hq2 fr6 r6 => ?_) (fun q2 b N6 sc6 bb hq2 fr6 ms6 hsc6 sw6 tq6 mn6 => ?_)
    · exact hfail q2 N6 (by rw [epM, thn_none hq2]) ((fr14.trans (fr5 _ _ _)).trans (fr6.low (by omega) (by omega) (Nat.le_refl _))) r6
    rw [thn_some hq2] at epM
    have fl : tfl (mN p 8 0 a.1 b.1 .nil) = (-8) :: (flat a.1 ++ tfl b.1) := by rw [tfl_2, tfl_ty oa]; rfl
    have ll : (tfl (mN p 8 0 a.1 b.1 .nil)).length = 1 + ((flat a.1).length + (tfl b.1).length) := by
      rw [fl, List.length_cons, List.length_append]; omega
    have e0 : nd + (1 + ((flat a.1).length + (tfl b.1).length)) = nd + 1 + (flat a.1).length + (tfl b.1).length := by omega
    have fr46 : MFr (nd + 1 + (flat a.1).length) sc4 0 N4 N6 := (fr5 _ _ 0).trans (fr6.low (Nat.le_refl _) (Nat.le_refl _) (Nat.zero_le _))
    have fr36 : MFr (nd + 1) (sc + 1) 0 N3 N6 := (fr4.low (Nat.le_refl _) (Nat.le_refl _) (Nat.zero_le _)).trans (fr46.low (by omega) (by omega) (Nat.le_refl _))
    have nb6 : NB N6 nd 8 p s := ⟨(fr36 59 _ (by unfold WMr; omega)).trans nb3.1, (fr36 61 _ (by unfold WMr; omega)).trans nb3.2.1, (fr36 62 _ (by unfold WMr; omega)).trans nb3.2.2⟩
    have nt6 := nt4.move fr46 (Nat.le_refl _) (Nat.le_refl _) (show nd + 1 + (flat a.1).length ≤ nd + 1 + (flat a.1).length + (tfl b.1).length by omega) hsc6 (by omega)
    refine hok q2 (mN p 8 0 a.1 b.1 .nil, gud a && b.2) N6 sc6 (a.2 && bb) epM ((fr14.trans (fr5 _ _ _)).trans (fr6.low (by omega) (by omega) (Nat.le_refl _))) ?_ (by omega) (by show SCW N6 (nd + (tfl (mN p 8 0 a.1 b.1 .nil)).length) sc6; rw [ll, e0]; exact sw6) ?_ ?_
    · show MS tx ln N6 q2 (nd + (tfl (mN p 8 0 a.1 b.1 .nil)).length) sc6 l
      rw [ll, e0]; exact ms6
    · show TQ 1 N6 (nd + (tfl (mN p 8 0 a.1 b.1 .nil)).length) sc6 nd (tfl (mN p 8 0 a.1 b.1 .nil)) (a.2 && bb) (gud a && b.2)
      rw [ll, e0, fl]
      exact TQ.cons (Or.inr (Or.inr (Or.inl ⟨rfl, nb6.1, by decide⟩))) (by decide) ((TQ.ty nt6 oa).app tq6)
    · show (gud a && b.2) = true → MNd 64 N6 (nd + (tfl (mN p 8 0 a.1 b.1 .nil)).length) sc6 (r' + 1 + 1) (mN p 8 0 a.1 b.1 .nil) s ch nd
      rw [ll, e0]
      intro hg
      rw [Bool.and_eq_true] at hg
      have ha : a.2 = true := by
        have := hg.1
        unfold gud at this
        rw [Bool.and_eq_true] at this
        exact this.1
      rw [ha] at nt6
      refine MNd.all (D := (tnm ch).length + 1) (nm := chr tx ln (p + 1)) (by omega) nb6 (((S3.same fr36).up (by omega) (by omega))) oa nt6 (by omega) (by rw [fr36 63 _ (by unfold WMr; omega), e63, fr36 67 _ (by unfold WMr; omega), fr36 64 _ (by unfold WMr; omega)]; exact ⟨e67, (keep 64 _ (by decide) (by decide)).trans a64⟩) ?_ (by rw [fr36 63 _ (by unfold WMr; omega), e63]; exact mn6 hg.2)
      rw [fr36 63 _ (by unfold WMr; omega), e63]
      exact (S3b.same fr36).up (by omega) (by omega)
  · -- an application
    obtain ⟨r', rfl⟩ : ∃ r', r = r' + 1 := ⟨r - 1, by omega⟩
    have cW : ¬ (97 ≤ chr tx ln p ∧ chr tx ln p ≤ 100) := by omega
    have b0 : ((24 - (r' + 1) : Nat) : Int) + 1 = ((24 - r' : Nat) : Int) := by omega
    rw [b0] at ms1
    have m1b := ms1.2.2.1
    have S1 : SCh 64 N1 (nd + 1) sc s ch := (hS.same fr1).up (by omega) (Nat.le_refl _)
    have epM := pM_40 (tx := tx) (ln := ln) (r := r') (e := ch) cW (by omega) (by omega) c40
    refine IH r' rfl wt s (nd : Int) ch (p + 1) (nd + 1) sc _ N1 Rf K L n s0 Q hG ms1 S1 (hW.same fr1 (Nat.le_succ _)) (by first | omega | (simp only [List.length_cons]; omega)) (by omega) (fun q N2 hq fr2 r2 => ?_) (fun q a N2 sc2 b2 hq fr2 ms2 hsc sw2 tq2 mn2 => ?_)
    · exact hfail q N2 (by rw [epM, thn_none hq]) (fr1.trans (fr2.low (by omega) (by omega) (by first | omega | (simp only [List.length_cons]; omega)))) r2
    rw [thn_some hq] at epM
    have fr12 : MFr nd sc l.length N N2 := fr1.trans (fr2.low (by omega) (by omega) (by first | omega | (simp only [List.length_cons]; omega)))
    have S2 : SCh 64 N2 (nd + 1 + (tfl a.1).length) sc2 s ch := (S1.same fr2).up (by omega) hsc
    refine IH r' rfl wt s (nd : Int) ch q (nd + 1 + (tfl a.1).length) sc2 _ N2 Rf K L n s0 Q hG ms2 S2 sw2 (by first | omega | (simp only [List.length_cons]; omega)) (by omega) (fun q2 N3 hq2 fr3 r3 => ?_) (fun q2 b N3 sc3 b3 hq2 fr3 ms3 hsc3 sw3 tq3 mn3 => ?_)
    · exact hfail q2 N3 (by rw [epM, thn_none hq2]) (fr12.trans (fr3.low (by omega) (by omega) (by first | omega | (simp only [List.length_cons]; omega)))) r3
    rw [thn_some hq2] at epM
    have fr13 : MFr nd sc l.length N N3 := fr12.trans (fr3.low (by omega) (by omega) (by first | omega | (simp only [List.length_cons]; omega)))
    refine l_char (d := d + 3) hG ms3 (by first | omega | (simp only [List.length_cons]; omega)) (by decide) (fun hc hlt N4 ms4 fr4 => ?_) (fun hc N4 fr4 r4 => ?_)
    rotate_left
    · rw [if_neg hc] at epM
      exact hfail q2 N4 epM (fr13.trans (fr4 _ _ _)) r4
    rw [if_pos hc] at epM
    have fr24 : MFr (nd + 1 + (tfl a.1).length) sc2 0 N2 N4 := (fr3.low (Nat.le_refl _) (Nat.le_refl _) (Nat.zero_le _)).trans (fr4 _ _ _)
    have fr14 : MFr (nd + 1) sc 0 N1 N4 := (fr2.low (Nat.le_refl _) (Nat.le_refl _) (Nat.zero_le _)).trans (fr24.low (by omega) hsc (Nat.le_refl _))
    have fl : tfl (mN p 7 0 a.1 b.1 .nil) = (-7) :: (tfl a.1 ++ tfl b.1) := by rw [tfl_2]; rfl
    have ll : (tfl (mN p 7 0 a.1 b.1 .nil)).length = 1 + ((tfl a.1).length + (tfl b.1).length) := by
      rw [fl, List.length_cons, List.length_append]; omega
    have e0 : nd + (1 + ((tfl a.1).length + (tfl b.1).length)) = nd + 1 + (tfl a.1).length + (tfl b.1).length := by omega
    have nb4 : NB N4 nd 7 p s := ⟨(fr14 59 _ (by unfold WMr; omega)).trans nb.1, (fr14 61 _ (by unfold WMr; omega)).trans nb.2.1, (fr14 62 _ (by unfold WMr; omega)).trans nb.2.2⟩
    refine hok (q2 + 1) (mN p 7 0 a.1 b.1 .nil, a.2 && b.2) N4 sc3 (b2 && b3) epM (fr13.trans (fr4 _ _ _)) ?_ (by omega) (by show SCW N4 (nd + (tfl (mN p 7 0 a.1 b.1 .nil)).length) sc3; rw [ll, e0]; exact sw3.same (fr4 _ _ 0) (Nat.le_refl _)) ?_ ?_
    · show MS tx ln N4 (q2 + 1) (nd + (tfl (mN p 7 0 a.1 b.1 .nil)).length) sc3 l
      rw [ll, e0]; exact ms4
    · show TQ 1 N4 (nd + (tfl (mN p 7 0 a.1 b.1 .nil)).length) sc3 nd (tfl (mN p 7 0 a.1 b.1 .nil)) (b2 && b3) (a.2 && b.2)
      rw [ll, e0, fl]
      exact TQ.cons (Or.inr (Or.inr (Or.inl ⟨rfl, nb4.1, by decide⟩))) (by decide) ((tq2.move fr24 (Nat.le_refl _) (Nat.le_refl _) (by omega) hsc3 (by omega)).app (tq3.move (fr4 (nd + 1 + (tfl a.1).length + (tfl b.1).length) sc3 0) (Nat.le_refl _) (Nat.le_refl _) (Nat.le_refl _) (Nat.le_refl _) (by omega)))
    · show (a.2 && b.2) = true → MNd 64 N4 (nd + (tfl (mN p 7 0 a.1 b.1 .nil)).length) sc3 (r' + 1 + 1) (mN p 7 0 a.1 b.1 .nil) s ch nd
      rw [ll, e0]
      intro hg
      rw [Bool.and_eq_true] at hg
      exact MNd.app (by omega) nb4 ((S1.same fr14).up (by omega) (by omega)) ((mn2 hg.1).move fr24 (Nat.le_refl _) (Nat.le_refl _) (by omega) hsc3) ((mn3 hg.2).move (fr4 (nd + 1 + (tfl a.1).length + (tfl b.1).length) sc3 0) (Nat.le_refl _) (Nat.le_refl _) (Nat.le_refl _) (Nat.le_refl _))
  · -- for a type
    obtain ⟨r', rfl⟩ : ∃ r', r = r' + 1 := ⟨r - 1, by omega⟩
    have cW : ¬ (97 ≤ chr tx ln p ∧ chr tx ln p ≤ 100) := by omega
    have b0 : ((24 - (r' + 1) : Nat) : Int) + 1 = ((24 - r' : Nat) : Int) := by omega
    rw [b0] at ms1
    have m1b := ms1.2.2.1
    have S1 : SCh 64 N1 (nd + 1) sc s ch := (hS.same fr1).up (by omega) (Nat.le_refl _)
    have epM := pM_64 (tx := tx) (ln := ln) (r := r') (e := ch) cW (by omega) (by omega) (by omega) (by omega) c64
    refine IH r' rfl wt s (nd : Int) ch (p + 1) (nd + 1) sc _ N1 Rf K L n s0 Q hG ms1 S1 (hW.same fr1 (Nat.le_succ _)) (by first | omega | (simp only [List.length_cons]; omega)) (by omega) (fun q N2 hq fr2 r2 => ?_) (fun q a N2 sc2 b2 hq fr2 ms2 hsc sw2 tq2 mn2 => ?_)
    · exact hfail q N2 (by rw [epM, thn_none hq]) (fr1.trans (fr2.low (by omega) (by omega) (by first | omega | (simp only [List.length_cons]; omega)))) r2
    rw [thn_some hq] at epM
    have fr12 : MFr nd sc l.length N N2 := fr1.trans (fr2.low (by omega) (by omega) (by first | omega | (simp only [List.length_cons]; omega)))
    have S2 : SCh 64 N2 (nd + 1 + (tfl a.1).length) sc2 s ch := (S1.same fr2).up (by omega) hsc
    refine m_types tx ln d r' wt s (nd : Int) ch q (nd + 1 + (tfl a.1).length) sc2 _ N2 Rf K L n s0 Q hG ms2 S2 sw2 (by omega) (by omega) (fun q2 N3 hq2 fr3 r3 => ?_) (fun q2 b N3 sc3 hq2 fr3 ms3 hsc3 sw3 nt3 => ?_)
    · exact hfail q2 N3 (by rw [epM, thn_none hq2]) (fr12.trans (fr3.low (by omega) (by omega) (Nat.le_refl _))) r3
    rw [thn_some hq2] at epM
    have ob := (pT_ok r' (tnm ch) q q2 b hq2).1
    have fr13 : MFr (nd + 1) sc 0 N1 N3 := (fr2.low (Nat.le_refl _) (Nat.le_refl _) (Nat.zero_le _)).trans (fr3.low (by omega) hsc (Nat.zero_le _))
    have fl : tfl (mN p 9 0 a.1 b.1 .nil) = (-9) :: (tfl a.1 ++ flat b.1) := by rw [tfl_2, tfl_ty ob]; rfl
    have ll : (tfl (mN p 9 0 a.1 b.1 .nil)).length = 1 + ((tfl a.1).length + (flat b.1).length) := by
      rw [fl, List.length_cons, List.length_append]; omega
    have e0 : nd + (1 + ((tfl a.1).length + (flat b.1).length)) = nd + 1 + (tfl a.1).length + (flat b.1).length := by omega
    have nb4 : NB N3 nd 9 p s := ⟨(fr13 59 _ (by unfold WMr; omega)).trans nb.1, (fr13 61 _ (by unfold WMr; omega)).trans nb.2.1, (fr13 62 _ (by unfold WMr; omega)).trans nb.2.2⟩
    refine hok q2 (mN p 9 0 a.1 b.1 .nil, a.2 && gud b) N3 sc3 (b2 && b.2) epM (fr12.trans (fr3.low (by omega) (by omega) (Nat.le_refl _))) ?_ (by omega) (by show SCW N3 (nd + (tfl (mN p 9 0 a.1 b.1 .nil)).length) sc3; rw [ll, e0]; exact sw3) ?_ ?_
    · show MS tx ln N3 q2 (nd + (tfl (mN p 9 0 a.1 b.1 .nil)).length) sc3 l
      rw [ll, e0]; exact ms3
    · show TQ 1 N3 (nd + (tfl (mN p 9 0 a.1 b.1 .nil)).length) sc3 nd (tfl (mN p 9 0 a.1 b.1 .nil)) (b2 && b.2) (a.2 && gud b)
      rw [ll, e0, fl]
      exact TQ.cons (Or.inr (Or.inr (Or.inl ⟨rfl, nb4.1, by decide⟩))) (by decide) ((tq2.move fr3 (Nat.le_refl _) (Nat.le_refl _) (by omega) hsc3 (by omega)).app (TQ.ty nt3 ob))
    · show (a.2 && gud b) = true → MNd 64 N3 (nd + (tfl (mN p 9 0 a.1 b.1 .nil)).length) sc3 (r' + 1 + 1) (mN p 9 0 a.1 b.1 .nil) s ch nd
      rw [ll, e0]
      intro hg
      rw [Bool.and_eq_true] at hg
      have hb : b.2 = true := by
        have := hg.2
        unfold gud at this
        rw [Bool.and_eq_true] at this
        exact this.1
      rw [hb] at nt3
      exact MNd.att (by omega) nb4 ((S1.same fr13).up (by omega) (by omega)) ((mn2 hg.1).move fr3 (Nat.le_refl _) (Nat.le_refl _) (by omega) hsc3) nt3 (by omega)
  · -- a selection
    obtain ⟨r', rfl⟩ : ∃ r', r = r' + 1 := ⟨r - 1, by omega⟩
    have cW : ¬ (97 ≤ chr tx ln p ∧ chr tx ln p ≤ 100) := by omega
    have b0 : ((24 - (r' + 1) : Nat) : Int) + 1 = ((24 - r' : Nat) : Int) := by omega
    rw [b0] at ms1
    have m1b := ms1.2.2.1
    have S1 : SCh 64 N1 (nd + 1) sc s ch := (hS.same fr1).up (by omega) (Nat.le_refl _)
    have epM := pM_46 (tx := tx) (ln := ln) (r := r') (e := ch) cW (by omega) (by omega) (by omega) (by omega) (by omega) c46
    refine l_arg210 (d := d + 3) (nd0 := nd) hG ms1 (by first | omega | (simp only [List.length_cons]; omega)) (by omega) (Nat.le_refl _) (fun hn hlt N2 ms2 fr2 v2 bo2 => ?_) (fun hn N2 fr2 r2 => ?_)
    rotate_left
    · rw [if_neg hn] at epM
      exact hfail (p + 1) N2 epM (fr1.trans (fr2 _ _)) r2
    rw [if_pos hn] at epM
    have S2 : SCh 64 N2 (nd + 1) sc s ch := S1.sameG (fun i _ _ => ⟨bo2 61 i (by omega) (by omega), bo2 63 i (by omega) (by omega)⟩) (fun q q1 q2 i _ _ => bo2 q i (by omega) (by omega))
    have nb2 : NB N2 nd 11 p s := ⟨(bo2 59 _ (by omega) (by omega)).trans nb.1, (bo2 61 _ (by omega) (by omega)).trans nb.2.1, (bo2 62 _ (by omega) (by omega)).trans nb.2.2⟩
    have fr02 : MFr nd sc l.length N N2 := fr1.trans (fr2 _ _)
    have W2 : SCW N2 (nd + 1) sc := hW.same fr02 (Nat.le_succ _)
    refine IH r' rfl wt s (nd : Int) ch (p + 1 + 1) (nd + 1) sc _ N2 Rf K L n s0 Q hG ms2 S2 W2 (by omega) (by omega) (fun q N3 hq fr3 r3 => ?_) (fun q a N3 sc3 b3 hq fr3 ms3 hsc sw3 tq3 mn3 => ?_)
    · exact hfail q N3 (by rw [epM, thn_none hq]) (fr02.trans (fr3.low (by omega) (by omega) (Nat.le_refl _))) r3
    rw [thn_some hq] at epM
    obtain ⟨lb, hlb⟩ : ∃ lb, (chr tx ln (p + 1) - 120).toNat = lb := ⟨_, rfl⟩
    rw [hlb] at epM
    have fl : tfl (mN p 11 lb a.1 .nil .nil) = (-11) :: tfl a.1 := by rw [tfl_3]; rfl
    have ll : (tfl (mN p 11 lb a.1 .nil .nil)).length = 1 + (tfl a.1).length := by rw [fl, List.length_cons]; omega
    have e0 : nd + (1 + (tfl a.1).length) = nd + 1 + (tfl a.1).length := by omega
    have nb3 : NB N3 nd 11 p s := ⟨(fr3 59 _ (by unfold WMr; omega)).trans nb2.1, (fr3 61 _ (by unfold WMr; omega)).trans nb2.2.1, (fr3 62 _ (by unfold WMr; omega)).trans nb2.2.2⟩
    refine hok q (mN p 11 lb a.1 .nil .nil, a.2) N3 sc3 b3 epM (fr02.trans (fr3.low (by omega) (by omega) (Nat.le_refl _))) ?_ hsc (by show SCW N3 (nd + (tfl (mN p 11 lb a.1 .nil .nil)).length) sc3; rw [ll, e0]; exact sw3) ?_ ?_
    · show MS tx ln N3 q (nd + (tfl (mN p 11 lb a.1 .nil .nil)).length) sc3 l
      rw [ll, e0]; exact ms3
    · show TQ 1 N3 (nd + (tfl (mN p 11 lb a.1 .nil .nil)).length) sc3 nd (tfl (mN p 11 lb a.1 .nil .nil)) b3 a.2
      rw [ll, e0, fl]
      exact TQ.cons (Or.inr (Or.inr (Or.inl ⟨rfl, nb3.1, by decide⟩))) (by decide) tq3
    · show a.2 = true → MNd 64 N3 (nd + (tfl (mN p 11 lb a.1 .nil .nil)).length) sc3 (r' + 1 + 1) (mN p 11 lb a.1 .nil .nil) s ch nd
      rw [ll, e0]
      intro hg
      exact MNd.dot (by omega) nb3 ((S2.same fr3).up (by omega) hsc) ((fr3 60 _ (by unfold WMr; omega)).trans (by rw [v2]; omega)) (mn3 hg)
  · -- a choice
    obtain ⟨r', rfl⟩ : ∃ r', r = r' + 1 := ⟨r - 1, by omega⟩
    have cW : ¬ (97 ≤ chr tx ln p ∧ chr tx ln p ≤ 100) := by omega
    have b0 : ((24 - (r' + 1) : Nat) : Int) + 1 = ((24 - r' : Nat) : Int) := by omega
    rw [b0] at ms1
    have m1b := ms1.2.2.1
    have S1 : SCh 64 N1 (nd + 1) sc s ch := (hS.same fr1).up (by omega) (Nat.le_refl _)
    have epM := pM_63 (tx := tx) (ln := ln) (r := r') (e := ch) cW (by omega) (by omega) (by omega) (by omega) (by omega) (by omega) c63
    refine l_arg211 (d := d + 3) (nd0 := nd) hG ms1 (by first | omega | (simp only [List.length_cons]; omega)) (by omega) (Nat.le_refl _) (fun hn hlt N2 ms2 fr2 v2 bo2 => ?_) (fun hn N2 fr2 r2 => ?_)
    rotate_left
    · rw [if_neg hn] at epM
      exact hfail (p + 1) N2 epM (fr1.trans (fr2 _ _)) r2
    rw [if_pos hn] at epM
    have S2 : SCh 64 N2 (nd + 1) sc s ch := S1.sameG (fun i _ _ => ⟨bo2 61 i (by omega) (by omega), bo2 63 i (by omega) (by omega)⟩) (fun q q1 q2 i _ _ => bo2 q i (by omega) (by omega))
    have nb2 : NB N2 nd 12 p s := ⟨(bo2 59 _ (by omega) (by omega)).trans nb.1, (bo2 61 _ (by omega) (by omega)).trans nb.2.1, (bo2 62 _ (by omega) (by omega)).trans nb.2.2⟩
    have fr02 : MFr nd sc l.length N N2 := fr1.trans (fr2 _ _)
    have W2 : SCW N2 (nd + 1) sc := hW.same fr02 (Nat.le_succ _)
    refine IH r' rfl wt s (nd : Int) ch (p + 1 + 1) (nd + 1) sc _ N2 Rf K L n s0 Q hG ms2 S2 W2 (by first | omega | (simp only [List.length_cons]; omega)) (by omega) (fun q N3 hq fr3 r3 => ?_) (fun q a N3 sc3 b3 hq fr3 ms3 hsc sw3 tq3 mn3 => ?_)
    · exact hfail q N3 (by rw [epM, thn_none hq]) (fr02.trans (fr3.low (by omega) (by omega) (by first | omega | (simp only [List.length_cons]; omega)))) r3
    rw [thn_some hq] at epM
    have fr03 : MFr nd sc l.length N N3 := fr02.trans (fr3.low (by omega) (by omega) (by first | omega | (simp only [List.length_cons]; omega)))
    refine IH r' rfl wt s (nd : Int) ch q (nd + 1 + (tfl a.1).length) sc3 _ N3 Rf K L n s0 Q hG ms3 ((S2.same fr3).up (by omega) hsc) sw3 (by omega) (by omega) (fun q2 N4 hq2 fr4 r4 => ?_) (fun q2 b N4 sc4 b4 hq2 fr4 ms4 hsc4 sw4 tq4 mn4 => ?_)
    · exact hfail q2 N4 (by rw [epM, thn_none hq2]) (fr03.trans (fr4.low (by omega) (by omega) (Nat.le_refl _))) r4
    rw [thn_some hq2] at epM
    obtain ⟨lb, hlb⟩ : ∃ lb, (chr tx ln (p + 1) - 48).toNat = lb := ⟨_, rfl⟩
    rw [hlb] at epM
    have fr24 : MFr (nd + 1) sc 0 N2 N4 := (fr3.low (Nat.le_refl _) (Nat.le_refl _) (Nat.zero_le _)).trans (fr4.low (by omega) hsc (Nat.zero_le _))
    have fl : tfl (mN p 12 lb a.1 b.1 .nil) = (-12) :: (tfl a.1 ++ tfl b.1) := by rw [tfl_2]; rfl
    have ll : (tfl (mN p 12 lb a.1 b.1 .nil)).length = 1 + ((tfl a.1).length + (tfl b.1).length) := by
      rw [fl, List.length_cons, List.length_append]; omega
    have e0 : nd + (1 + ((tfl a.1).length + (tfl b.1).length)) = nd + 1 + (tfl a.1).length + (tfl b.1).length := by omega
    have nb4 : NB N4 nd 12 p s := ⟨(fr24 59 _ (by unfold WMr; omega)).trans nb2.1, (fr24 61 _ (by unfold WMr; omega)).trans nb2.2.1, (fr24 62 _ (by unfold WMr; omega)).trans nb2.2.2⟩
    refine hok q2 (mN p 12 lb a.1 b.1 .nil, a.2 && b.2) N4 sc4 (b3 && b4) epM (fr03.trans (fr4.low (by omega) (by omega) (Nat.le_refl _))) ?_ (by omega) (by show SCW N4 (nd + (tfl (mN p 12 lb a.1 b.1 .nil)).length) sc4; rw [ll, e0]; exact sw4) ?_ ?_
    · show MS tx ln N4 q2 (nd + (tfl (mN p 12 lb a.1 b.1 .nil)).length) sc4 l
      rw [ll, e0]; exact ms4
    · show TQ 1 N4 (nd + (tfl (mN p 12 lb a.1 b.1 .nil)).length) sc4 nd (tfl (mN p 12 lb a.1 b.1 .nil)) (b3 && b4) (a.2 && b.2)
      rw [ll, e0, fl]
      exact TQ.cons (Or.inr (Or.inr (Or.inl ⟨rfl, nb4.1, by decide⟩))) (by decide) ((tq3.move fr4 (Nat.le_refl _) (Nat.le_refl _) (by omega) hsc4 (by omega)).app tq4)
    · show (a.2 && b.2) = true → MNd 64 N4 (nd + (tfl (mN p 12 lb a.1 b.1 .nil)).length) sc4 (r' + 1 + 1) (mN p 12 lb a.1 b.1 .nil) s ch nd
      rw [ll, e0]
      intro hg
      rw [Bool.and_eq_true] at hg
      exact MNd.eit (by omega) nb4 ((S2.same fr24).up (by omega) (by omega)) ((fr24 60 _ (by unfold WMr; omega)).trans (by rw [v2]; omega)) ((mn3 hg.1).move fr4 (Nat.le_refl _) (Nat.le_refl _) (by omega) hsc4) (mn4 hg.2)
  · -- nothing fits
    refine hfail p N1 ?_ (fr1 _ _ _) r1
    cases r with
    | zero => exact pM_z cW c123
    | succ r' =>
      rcases hno with x | ⟨x1, x2, x3, x4, x5, x6⟩
      · omega
      · exact pM_none cW c123 x1 x3 x2 x4 x5 x6
theorem m_terms (tx : Nat → Int) (ln d : Nat) : ∀ r, MTmC tx ln d r
  | 0 => m_anyTerm (fun r' e => by omega)
  | r + 1 => m_anyTerm (fun r' e => by
    have : r' = r := by omega
    subst this
    exact m_terms tx ln d r')
end PmD5
