/-! THE MODEL: reading a type. -/
def fcat : List (Nat × (Ty × Bool)) → List Int
  | [] => []
  | a :: r => flat a.2.1 ++ fcat r
theorem fcat_app : ∀ (a r : List (Nat × (Ty × Bool))), fcat (a ++ r) = fcat a ++ fcat r
  | [], r => rfl
  | b :: a, r => by
    show flat b.2.1 ++ fcat (a ++ r) = flat b.2.1 ++ fcat a ++ fcat r
    rw [fcat_app a r, List.append_assoc]
theorem flat_mkR {r : List (Nat × (Ty × Bool))} (h : Srt 0 r) : flat (mkR r).1 = ((8 + msk r : Nat) : Int) :: fcat r := by
  show flat (tRec (msk r) (lkT r 0) (lkT r 1) (lkT r 2)) = _
  rw [flat_rec]
  rcases srt_cases h with rfl | ⟨a, rfl⟩ | ⟨a, rfl⟩ | ⟨a, rfl⟩ | ⟨a, b, rfl⟩ | ⟨a, b, rfl⟩ | ⟨a, b, rfl⟩ | ⟨a, b, c, rfl⟩ <;> simp [fcat, lkT, lk, flat]
theorem SCh.sameG {lo nd sc : Nat} {N N' : pm_M} (h1 : ∀ i : Int, 0 ≤ i → i < nd → N' 61 i = N 61 i ∧ N' 63 i = N 63 i) (h2 : ∀ q, 64 ≤ q → q ≤ 67 → ∀ i : Int, 0 ≤ i → i < sc → N' q i = N q i) : ∀ {ch : List (Nat × Int × Nat)} {s : Int}, SCh lo N nd sc s ch → SCh lo N' nd sc s ch
  | [], _, e => e
  | a :: r, s, ⟨g1, g2, g3, g4, g5, g6, g7, g8⟩ => by
    have g0 : 0 ≤ s := by omega
    have e64 : N' 64 s = N 64 s := h2 64 (by decide) (by decide) s g0 g1.2
    have e67 : N' 67 s = N 67 s := h2 67 (by decide) (by decide) s g0 g1.2
    have h1' := h1 (N 67 s) (by omega) g6.1.2
    refine ⟨g1, (h2 65 (by decide) (by decide) s g0 g1.2).trans g2, (h2 66 (by decide) (by decide) s g0 g1.2).trans g3, g4, by rw [e64]; exact g5, ⟨by rw [e67]; exact g6.1, by rw [e67, h1'.2]; exact g6.2⟩, ?_, ?_⟩
    · rw [e67, h1'.1]; exact g7
    · rw [e64]; exact SCh.sameG h1 h2 g8
theorem NTl.lb {m nd sc : Nat} {N N' : pm_M} (h : LBo m N N') : ∀ {l : List Int} {i : Nat} {b : Bool}, m < i → NTl 64 N nd sc i l b → NTl 64 N' nd sc i l b
  | [], _, _, _, t => t
  | c :: l, i, b, hi, ⟨b1, b2, t1, t2, t3⟩ => by
    refine ⟨b1, b2, ?_, NTl.lb h (by omega) t2, t3⟩
    have e59 : N' 59 (i : Int) = N 59 (i : Int) := h 59 _ (by omega) (by omega) (by omega)
    have e60 : N' 60 (i : Int) = N 60 (i : Int) := h 60 _ (by omega) (by omega) (by omega)
    have e62 : N' 62 (i : Int) = N 62 (i : Int) := h 62 _ (by omega) (by omega) (by omega)
    unfold NT at *
    rw [e59, e60, e62]
    rcases t1 with t | t | ⟨t1, t2, ch, t3, t4⟩
    · exact Or.inl t
    · exact Or.inr (Or.inl t)
    · exact Or.inr (Or.inr ⟨t1, t2, ch, t3.sameG (fun i _ _ => ⟨h 61 i (by omega) (by omega) (by omega), h 63 i (by omega) (by omega) (by omega)⟩) (fun q q1 q2 i _ _ => h q i (by omega) (by omega) (by omega)), t4⟩)
/-- every scope has an outer one before it, and an owner -/
def SCW (N : pm_M) (nd sc : Nat) : Prop := ∀ s : Nat, 64 ≤ s → s < sc → (N 64 (s : Int) = -1 ∨ 64 ≤ N 64 (s : Int)) ∧ N 64 (s : Int) < s ∧ (64 ≤ N 67 (s : Int) ∧ N 67 (s : Int) < nd) ∧ N 63 (N 67 (s : Int)) = s
theorem SCW.same {nd sc nd' k : Nat} {N N' : pm_M} (h : MFr nd sc k N N') (h3 : nd ≤ nd') (t : SCW N nd sc) : SCW N' nd' sc := by
  intro s h1 h2
  obtain ⟨a1, a2, a3, a4⟩ := t s h1 h2
  have e64 : N' 64 (s : Int) = N 64 (s : Int) := h 64 _ (by unfold WMr; omega)
  have e67 : N' 67 (s : Int) = N 67 (s : Int) := h 67 _ (by unfold WMr; omega)
  rw [e64, e67, h 63 _ (by unfold WMr; omega)]
  exact ⟨a1, a2, ⟨a3.1, by omega⟩, a4⟩
theorem SCW.lb {m nd sc : Nat} {N N' : pm_M} (h : LBo m N N') (t : SCW N nd sc) : SCW N' nd sc := by
  intro s h1 h2
  rw [h 64 _ (by omega) (by omega) (by omega), h 67 _ (by omega) (by omega) (by omega), h 63 _ (by omega) (by omega) (by omega)]
  exact t s h1 h2
theorem SCW.opn {nd sc : Nat} {N : pm_M} {o : Int} (t : SCW N nd sc) (hn : 64 ≤ nd) (h64 : N 64 (sc : Int) = o) (ho : o = -1 ∨ (64 ≤ o ∧ o < sc)) (h67 : N 67 (sc : Int) = (nd : Int)) (h63 : N 63 (nd : Int) = (sc : Int)) : SCW N (nd + 1) (sc + 1) := by
  intro s h1 h2
  by_cases e : s = sc
  · subst e
    rw [h64, h67, h63]
    exact ⟨by omega, by omega, ⟨by omega, by omega⟩, rfl⟩
  · obtain ⟨a1, a2, a3, a4⟩ := t s h1 (by omega)
    exact ⟨a1, a2, ⟨a3.1, by omega⟩, a4⟩
theorem SCh.rng2 {nd sc : Nat} {N : pm_M} {ch : List (Nat × Int × Nat)} {s : Int} (h : SCh 64 N nd sc s ch) : s = -1 ∨ (64 ≤ s ∧ s < sc) := by
  match ch, h with
  | [], h => exact Or.inl h
  | a :: r, ⟨g1, _⟩ => exact Or.inr g1
/-- what reading a type does to the model -/
def MTyC (tx : Nat → Int) (ln d r : Nat) : Prop := ∀ (wt s w : Int) (ch : List (Nat × Int × Nat)) (p nd sc : Nat) (l : List (Int × Int × Int × Int)) (N : pm_M) (Rf : Nat → Nat → Nat) (K L : Nat → Nat) (n s0 : Nat) (Q : Option Value → pm_S → Prop), pm_G Rf K L n → MS tx ln N p nd sc ((200, ((24 - r : Nat) : Int), s, w) :: l) → SCh 64 N nd sc s ch → SCW N nd sc → l.length + 1 ≤ 5 * (24 - r) → r ≤ 23 → (∀ q N', pT tx ln r (tnm ch) p = (q, none) → MFr nd sc l.length N N' → (∀ p i, R32 (N' p i)) → Q (some (.int (zI (q : Int)))) (zM N', Rf, K, L, n, s0)) → (∀ q a N' sc', pT tx ln r (tnm ch) p = (q, some a) → MFr nd sc l.length N N' → MS tx ln N' q (nd + (flat a.1).length) sc' l → sc ≤ sc' → SCW N' (nd + (flat a.1).length) sc' → NTl 64 N' (nd + (flat a.1).length) sc' nd (flat a.1) a.2 → LH (d + 4) wt q (zM N', Rf, K, L, n, s0) Q) → LH (d + 4) wt p (zM N, Rf, K, L, n, s0) Q
section PmM33
variable {tx : Nat → Int} {ln d : Nat} {Rf : Nat → Nat → Nat} {K L : Nat → Nat} {n s0 : Nat} {Q : Option Value → pm_S → Prop}
/-- a record's parts so far: node m, labels below lo -/
def FS (tx : Nat → Int) (ln : Nat) (N0 N : pm_M) (m sc0 lo p nd sc : Nat) (acc : List (Nat × (Ty × Bool))) (s : Int) (ch : List (Nat × Int × Nat)) (k : Nat) : Prop := MFr m sc0 k N0 N ∧ N 59 (m : Int) = 4 ∧ N 60 (m : Int) = ((msk acc : Nat) : Int) ∧ nd = m + 1 + (fcat acc).length ∧ NTl 64 N nd sc (m + 1) (fcat acc) (allc acc) ∧ (SCh 64 N nd sc s ch ∧ SCW N nd sc) ∧ (∀ b ∈ acc, b.1 < lo) ∧ (∀ rest, Srt lo rest → Srt 0 (acc ++ rest)) ∧ msk acc < 2 ^ lo ∧ (lo = 0 ∨ 2 ^ (lo - 1) ≤ msk acc) ∧ m < 128 ∧ sc0 ≤ sc
set_option maxHeartbeats 1000000 in
/-- behind a label -/
theorem m_afterT {r : Nat} (IH : MTyC tx ln d r) {wt s : Int} {ch : List (Nat × Int × Nat)} {m sc0 lo p nd sc k c : Nat} {acc : List (Nat × (Ty × Bool))} {l : List (Int × Int × Int × Int)} {N0 N N1 : pm_M} (hG : pm_G Rf K L n) (hr : r ≤ 22) (fs : FS tx ln N0 N m sc0 lo p nd sc acc s ch l.length) (hlo : lo ≤ 2) (hk3 : 3 ≤ lo + (k + 1)) (hll : l.length + 1 ≤ 5 * (24 - (r + 1))) (hc3 : c < 3) (hch : chr tx ln p = 120 + (c : Int)) (hac : msk acc < 2 ^ c) (ms1 : MS tx ln N1 (p + 1) nd sc ((200, ((24 - (r + 1) : Nat) : Int) + 1, s, (m : Int)) :: (206, ((24 - (r + 1) : Nat) : Int), s, (m : Int)) :: l)) (v1 : N1 60 (m : Int) = ((msk acc + 2 ^ c : Nat) : Int)) (lb1 : LBo m N N1) (fr1 : MFr m sc l.length N N1)
    (REC : ∀ (lo' p' nd' sc' : Nat) (acc' : List (Nat × (Ty × Bool))) (N' : pm_M), lo' ≤ 2 → 3 ≤ lo' + k → FS tx ln N0 N' m sc0 lo' p' nd' sc' acc' s ch l.length → MS tx ln N' p' nd' sc' ((208, ((24 - (r + 1) : Nat) : Int), s, (m : Int)) :: l) → (∀ q N2, pFs tx ln (pT tx ln r (tnm ch)) 93 k lo' p' = (q, none) → MFr m sc0 l.length N0 N2 → (∀ p i, R32 (N2 p i)) → Q (some (.int (zI (q : Int)))) (zM N2, Rf, K, L, n, s0)) → (∀ q rest N2 sc2, pFs tx ln (pT tx ln r (tnm ch)) 93 k lo' p' = (q, some rest) → MFr m sc0 l.length N0 N2 → MS tx ln N2 q (m + 1 + (fcat (acc' ++ rest)).length) sc2 l → sc' ≤ sc2 → SCW N2 (m + 1 + (fcat (acc' ++ rest)).length) sc2 → N2 59 (m : Int) = 4 → N2 60 (m : Int) = ((msk (acc' ++ rest) : Nat) : Int) → NTl 64 N2 (m + 1 + (fcat (acc' ++ rest)).length) sc2 (m + 1) (fcat (acc' ++ rest)) (allc (acc' ++ rest)) → LH (d + 4) wt q (zM N2, Rf, K, L, n, s0) Q) → LH (d + 4) wt p' (zM N', Rf, K, L, n, s0) Q)
    (hfail : ∀ q N2, pFs tx ln (pT tx ln r (tnm ch)) 93 (k + 1) lo p = (q, none) → MFr m sc0 l.length N0 N2 → (∀ p i, R32 (N2 p i)) → Q (some (.int (zI (q : Int)))) (zM N2, Rf, K, L, n, s0))
    (hok : ∀ q rest N2 sc2, pFs tx ln (pT tx ln r (tnm ch)) 93 (k + 1) lo p = (q, some rest) → MFr m sc0 l.length N0 N2 → MS tx ln N2 q (m + 1 + (fcat (acc ++ rest)).length) sc2 l → sc ≤ sc2 → SCW N2 (m + 1 + (fcat (acc ++ rest)).length) sc2 → N2 59 (m : Int) = 4 → N2 60 (m : Int) = ((msk (acc ++ rest) : Nat) : Int) → NTl 64 N2 (m + 1 + (fcat (acc ++ rest)).length) sc2 (m + 1) (fcat (acc ++ rest)) (allc (acc ++ rest)) → LH (d + 4) wt q (zM N2, Rf, K, L, n, s0) Q) : LH (d + 4) wt (p + 1) (zM N1, Rf, K, L, n, s0) Q := by
  obtain ⟨f1, f2, f3, f4, f5, f6, f7, f8, f9, f10, f11, f12⟩ := fs
  have hloc : lo ≤ c := by
    rcases f10 with e | e
    · omega
    · by_cases x : lo ≤ c
      · exact x
      · have : 2 ^ c ≤ 2 ^ (lo - 1) := Nat.pow_le_pow_right (by decide) (by omega)
        omega
  have ecc : (chr tx ln p - 120).toNat = c := by omega
  have hW1 : SCW N1 nd sc := f6.2.lb lb1
  have hS1 : SCh 64 N1 nd sc s ch := f6.1.sameG (fun i _ _ => ⟨lb1 61 i (by omega) (by omega) (by omega), lb1 63 i (by omega) (by omega) (by omega)⟩) (fun q q1 q2 i _ _ => lb1 q i (by omega) (by omega) (by omega))
  have b0 : ((24 - (r + 1) : Nat) : Int) + 1 = ((24 - r : Nat) : Int) := by omega
  rw [b0] at ms1
  have base : MFr m sc0 l.length N0 N1 := f1.trans (fr1.low (Nat.le_refl _) f12 (Nat.le_refl _))
  have hpf := pFs_succ (tx := tx) (ln := ln) (pT tx ln r (tnm ch)) 93 k lo p
  rw [if_neg (show ¬ (chr tx ln p < 120 + (lo : Int) ∨ 123 ≤ chr tx ln p) by omega), ecc] at hpf
  have mc : m < nd := by omega
  refine IH wt s (m : Int) ch (p + 1) nd sc ((206, ((24 - (r + 1) : Nat) : Int), s, (m : Int)) :: l) N1 Rf K L n s0 Q hG ms1 hS1 hW1 (by rw [List.length_cons]; omega) (by omega) (fun q N2 hpt fr2 r2 => ?_) (fun q a N2 sc2 hpt fr2 ms2 hsc sw2 nt2 => ?_)
  · exact hfail q N2 (by rw [hpf, thn_none hpt]) (base.trans (fr2.low (by omega) f12 (by rw [List.length_cons]; omega))) r2
  · rw [thn_some hpt] at hpf
    have base2 : MFr m sc0 l.length N0 N2 := base.trans (fr2.low (by omega) f12 (by rw [List.length_cons]; omega))
    have e60 : N2 60 (m : Int) = ((msk acc + 2 ^ c : Nat) : Int) := (fr2 60 _ (by unfold WMr; omega)).trans v1
    have e59 : N2 59 (m : Int) = 4 := (fr2 59 _ (by unfold WMr; omega)).trans ((lb1 59 _ (by omega) (by omega) (by omega)).trans f2)
    have hmk : msk (acc ++ [(c, a)]) = msk acc + 2 ^ c := by rw [msk_app]; rfl
    have hfc : fcat (acc ++ [(c, a)]) = fcat acc ++ flat a.1 := by
      rw [fcat_app]
      show fcat acc ++ (flat a.1 ++ []) = _
      rw [List.append_nil]
    have hal : allc (acc ++ [(c, a)]) = (allc acc && a.2) := by
      rw [allc_app]
      show (allc acc && (a.2 && true)) = _
      rw [Bool.and_true]
    have hnd2 : nd + (flat a.1).length = m + 1 + (fcat (acc ++ [(c, a)])).length := by
      rw [hfc, List.length_append]; omega
    have nt12 : NTl 64 N2 (nd + (flat a.1).length) sc2 (m + 1) (fcat acc) (allc acc) := (f5.lb lb1 (by omega)).move fr2 (Nat.le_refl _) (Nat.le_refl _) (by omega) hsc (by omega)
    have ntA : NTl 64 N2 (nd + (flat a.1).length) sc2 (m + 1) (fcat (acc ++ [(c, a)])) (allc (acc ++ [(c, a)])) := by
      rw [hfc, hal]
      refine NTl.app nt12 ?_
      rw [show m + 1 + (fcat acc).length = nd by omega]
      exact nt2
    have h15 : msk acc + 2 ^ c < 8 ∧ (c ≤ 1 → msk acc + 2 ^ c < 4) ∧ (c = 2 → ¬ msk acc + 2 ^ c < 4) := by
      rcases (show c = 0 ∨ c = 1 ∨ c = 2 by omega) with rfl | rfl | rfl <;> (refine ⟨?_, ?_, ?_⟩ <;> omega)
    have rng := hS1.rng
    have ms1b := ms1.2.2.2.2.2.2.2.2.2.2
    have m160 := ms1.2.2.1
    have l60 := ms1.2.1.2.1
    refine l_sep206 hG ms2 (by omega) ⟨rng.1, by omega⟩ ⟨by omega, by omega⟩ f11 e60 h15.1 (fun hcl hlt N3 ms3 fr3 => ?_) (fun h44 ha4 hlt N3 ms3 fr3 => ?_) (fun hn93 hno N3 fr3 r3 => ?_)
    · rw [if_pos hcl] at hpf
      rw [hnd2] at ms3 ntA sw2
      refine hok (q + 1) [(c, a)] N3 sc2 hpf (base2.trans (fr3 _ _ _)) ms3 hsc (sw2.same (fr3 _ _ 0) (Nat.le_refl _)) ((fr3 (m + 1) 0 0 59 _ (by unfold WMr; omega)).trans e59) ((fr3 (m + 1) 0 0 60 _ (by unfold WMr; omega)).trans (by rw [hmk]; exact e60)) ?_
      exact ntA.move (fr3 (m + 1 + (fcat (acc ++ [(c, a)])).length) sc2 0) (Nat.le_refl _) (Nat.le_refl _) (Nat.le_refl _) (Nat.le_refl _) (Nat.le_refl _)
    · have hn93 : chr tx ln q ≠ 93 := by omega
      have hc1 : c ≤ 1 := by
        by_cases x : c = 2
        · exact absurd ha4 (h15.2.2 x)
        · omega
      rw [if_neg hn93, if_neg (show ¬ (chr tx ln p = 122 ∨ chr tx ln q ≠ 44) from fun x => x.elim (fun y => by omega) (fun y => y h44))] at hpf
      rw [hnd2] at ms3 ntA sw2
      have fr3' : MFr (m + 1 + (fcat (acc ++ [(c, a)])).length) sc2 l.length N2 N3 := fr3 _ _
      refine REC (c + 1) (q + 1) (m + 1 + (fcat (acc ++ [(c, a)])).length) sc2 (acc ++ [(c, a)]) N3 (by omega) (by omega) ⟨base2.trans (fr3 _ _), (fr3 (m + 1) 0 59 _ (by unfold WMr; omega)).trans e59, (fr3 (m + 1) 0 60 _ (by unfold WMr; omega)).trans (by rw [hmk]; exact e60), rfl, ntA.move fr3' (Nat.le_refl _) (Nat.le_refl _) (Nat.le_refl _) (Nat.le_refl _) (Nat.le_refl _), ?_, ?_, ?_, ?_, ?_, f11, by omega⟩ ms3 (fun q2 N4 hq fr4 r4 => hfail q2 N4 (by rw [hpf, thn_none hq]) fr4 r4) (fun q2 rest N4 sc4 hq fr4 ms4 hsc4 sw4 g59 g60 nt4 => ?_)
      · exact ⟨((hS1.same (k := l.length + 1) fr2).up (by omega) hsc).same fr3', sw2.same fr3' (Nat.le_refl _)⟩
      · intro b hb
        rcases List.mem_append.mp hb with hb | hb
        · have := f7 b hb; omega
        · rw [List.mem_singleton] at hb; rw [hb]; exact Nat.lt_succ_self c
      · intro rest hr'
        rw [List.append_assoc]
        exact f8 _ ⟨hloc, hc3, hr'⟩
      · rw [hmk, Nat.pow_succ]; omega
      · right
        rw [hmk, Nat.add_sub_cancel]; omega
      · have ea : (acc ++ [(c, a)]) ++ rest = acc ++ ((c, a) :: rest) := by rw [List.append_assoc]; rfl
        rw [ea] at ms4 g60 nt4 sw4
        exact hok q2 ((c, a) :: rest) N4 sc4 (by rw [hpf, thn_some hq]) fr4 ms4 (by omega) sw4 g59 g60 nt4
    · rw [if_neg hn93] at hpf
      rw [if_pos (show chr tx ln p = 122 ∨ chr tx ln q ≠ 44 from by
        rcases hno with x | x
        · exact Or.inr x
        · left
          have : ¬ c ≤ 1 := fun y => x (h15.2.1 y)
          omega)] at hpf
      exact hfail q N3 hpf (base2.trans (fr3 _ _ _)) r3
theorem m_fieldsT {r : Nat} (IH : MTyC tx ln d r) {wt s : Int} {ch : List (Nat × Int × Nat)} {m sc0 : Nat} {l : List (Int × Int × Int × Int)} {N0 : pm_M} (hG : pm_G Rf K L n) (hr : r ≤ 22) (hll : l.length + 1 ≤ 5 * (24 - (r + 1))) : ∀ (k lo p nd sc : Nat) (acc : List (Nat × (Ty × Bool))) (N : pm_M), lo ≤ 2 → 3 ≤ lo + k → FS tx ln N0 N m sc0 lo p nd sc acc s ch l.length → MS tx ln N p nd sc ((208, ((24 - (r + 1) : Nat) : Int), s, (m : Int)) :: l) → (∀ q N2, pFs tx ln (pT tx ln r (tnm ch)) 93 k lo p = (q, none) → MFr m sc0 l.length N0 N2 → (∀ p i, R32 (N2 p i)) → Q (some (.int (zI (q : Int)))) (zM N2, Rf, K, L, n, s0)) → (∀ q rest N2 sc2, pFs tx ln (pT tx ln r (tnm ch)) 93 k lo p = (q, some rest) → MFr m sc0 l.length N0 N2 → MS tx ln N2 q (m + 1 + (fcat (acc ++ rest)).length) sc2 l → sc ≤ sc2 → SCW N2 (m + 1 + (fcat (acc ++ rest)).length) sc2 → N2 59 (m : Int) = 4 → N2 60 (m : Int) = ((msk (acc ++ rest) : Nat) : Int) → NTl 64 N2 (m + 1 + (fcat (acc ++ rest)).length) sc2 (m + 1) (fcat (acc ++ rest)) (allc (acc ++ rest)) → LH (d + 4) wt q (zM N2, Rf, K, L, n, s0) Q) → LH (d + 4) wt p (zM N, Rf, K, L, n, s0) Q
  | 0, lo, p, nd, sc, acc, N, hlo, hk, _, _, _, _ => by omega
  | k + 1, lo, p, nd, sc, acc, N, hlo, hk, fs, ms, hfail, hok => by
    have fs0 := fs
    obtain ⟨f1, f2, f3, f4, f5, f6, f7, f8, f9, f10, f11, f12⟩ := fs
    have rng := f6.1.rng
    have msb := ms.2.2.2.2.2.2.2.2.2.2
    have m60 := ms.2.2.1
    have l60 := ms.2.1.2.1
    have h8 : msk acc < 8 := Nat.lt_of_lt_of_le f9 (Nat.le_trans (Nat.pow_le_pow_right (by decide) hlo) (by decide))
    refine l_lab208 hG ms (by omega) ⟨rng.1, by omega⟩ ⟨by omega, by omega⟩ f11 f2 f3 h8 (fun c hc3 hch hdp hac hlt N1 ms1 v1 lb1 fr1 => ?_) (fun hno N1 fr1 r1 => ?_)
    · exact m_afterT IH hG hr fs0 hlo hk hll hc3 hch hac ms1 v1 lb1 fr1 (fun lo' p' nd' sc' acc' N' a1 a2 a3 a4 a5 a6 => m_fieldsT IH hG hr hll k lo' p' nd' sc' acc' N' a1 a2 a3 a4 a5 a6) hfail hok
    · refine hfail p N1 ?_ (f1.trans (fr1 _ _ _)) r1
      rw [pFs_succ, if_pos]
      by_cases x : chr tx ln p < 120 + (lo : Int) ∨ 123 ≤ chr tx ln p
      · exact x
      · exfalso
        have : msk acc < 2 ^ (chr tx ln p - 120).toNat := Nat.lt_of_lt_of_le f9 (Nat.pow_le_pow_right (by decide) (by omega))
        exact hno (chr tx ln p - 120).toNat (by omega) (by omega) (by omega) this
end PmM33
