/-! THE MODEL: reading a record. -/
section PmD3
variable {lo nd sc nd' sc' nd2 sc2 k m : Nat} {N N' : pm_M}
theorem SCh.lb {ch : List (Nat × Int × Nat)} {s : Int} (h : LBo m N N') (t : SCh lo N nd sc s ch) : SCh lo N' nd sc s ch := t.sameG (fun i _ _ => ⟨h 61 i (by omega) (by omega) (by omega), h 63 i (by omega) (by omega) (by omega)⟩) (fun q q1 q2 i _ _ => h q i (by omega) (by omega) (by omega))
theorem NX.lb {j : Nat} {c : Int} {b : Bool} (h : LBo m N N') (hj : m < j) (t : NX 64 N nd sc (j : Int) c b) : NX 64 N' nd sc (j : Int) c b := by
  have e59 : N' 59 (j : Int) = N 59 (j : Int) := h 59 _ (by omega) (by omega) (by omega)
  have e60 : N' 60 (j : Int) = N 60 (j : Int) := h 60 _ (by omega) (by omega) (by omega)
  have e62 : N' 62 (j : Int) = N 62 (j : Int) := h 62 _ (by omega) (by omega) (by omega)
  unfold NX NT at *
  rw [e59, e60, e62]
  rcases t with ⟨c0, t | t | ⟨t1, t2, ch, t3, t4⟩⟩ | ⟨t1, t2, t3, ch, t4, t5⟩ | t | t
  · exact Or.inl ⟨c0, Or.inl t⟩
  · exact Or.inl ⟨c0, Or.inr (Or.inl t)⟩
  · exact Or.inl ⟨c0, Or.inr (Or.inr ⟨t1, t2, ch, t3.lb h, t4⟩)⟩
  · exact Or.inr (Or.inl ⟨t1, t2, t3, ch, t4.lb h, t5⟩)
  · exact Or.inr (Or.inr (Or.inl t))
  · exact Or.inr (Or.inr (Or.inr t))
theorem NXl.lb (h : LBo m N N') : ∀ {l : List Int} {i : Nat} {b : Bool}, m < i → NXl 64 N nd sc i l b → NXl 64 N' nd sc i l b
  | [], _, _, _, t => t
  | c :: l, i, b, hi, ⟨b1, b2, t1, t2, t3⟩ => ⟨b1, b2, t1.lb h hi, NXl.lb h (by omega) t2, t3⟩
theorem MNd.lb (h : LBo m N N') : ∀ {f : Nat} {t : Ty} {s : Int} {ch : List (Nat × Int × Nat)} {j : Nat}, m < j → MNd 64 N nd sc f t s ch j → MNd 64 N' nd sc f t s ch j
  | 0, _, _, _, _, _, t => t.elim
  | f + 1, t, s, ch, j, hj, ⟨⟨a1, a2, a3, a40, a4⟩, a5, a6, a7, a8, a9, b1, b2, b3⟩ => by
    have e59 : N' 59 (j : Int) = N 59 (j : Int) := h 59 _ (by omega) (by omega) (by omega)
    have e60 : N' 60 (j : Int) = N 60 (j : Int) := h 60 _ (by omega) (by omega) (by omega)
    have e61 : N' 61 (j : Int) = N 61 (j : Int) := h 61 _ (by omega) (by omega) (by omega)
    have e62 : N' 62 (j : Int) = N 62 (j : Int) := h 62 _ (by omega) (by omega) (by omega)
    have e63 : N' 63 (j : Int) = N 63 (j : Int) := h 63 _ (by omega) (by omega) (by omega)
    refine ⟨⟨a1, e59.trans a2, e61.trans a3, e62.trans a40, a4.lb h⟩, fun x => by rw [e60]; exact a5 x, fun x => by rw [e60]; exact a6 x, fun x => (a7 x).lb h (by omega), fun x => ⟨(a8 x).1.lb h (by omega), (a8 x).2⟩, fun x y => (a9 x y).lb h (by omega), fun x => ?_, fun x => ⟨(b2 x).1.lb h (by omega), (b2 x).2⟩, fun x => (b3 x).lb h (by omega)⟩
    obtain ⟨nm, c0, c1, c2⟩ := b1 x
    exact ⟨nm, by rw [e63, h 67 _ (by omega) (by omega) (by omega), h 64 _ (by omega) (by omega) (by omega)]; exact c0, by rw [e63]; exact c1.lb h, by rw [e63]; exact c2.lb h (by omega)⟩
/-- the parts, one behind another -/
def MNl (lo : Nat) (N : pm_M) (nd sc f : Nat) (s : Int) (ch : List (Nat × Int × Nat)) : Nat → List (Nat × (Ty × Bool)) → Prop
  | _, [] => True
  | j, a :: r => (a.2.2 = true → MNd lo N nd sc f a.2.1 s ch j) ∧ MNl lo N nd sc f s ch (j + (tfl a.2.1).length) r
theorem MNl.move {f : Nat} {s : Int} {ch : List (Nat × Int × Nat)} (h : MFr nd2 sc2 k N N') (h1 : nd ≤ nd2) (h2 : sc ≤ sc2) (h3 : nd ≤ nd') (h4 : sc ≤ sc') : ∀ {r : List (Nat × (Ty × Bool))} {j : Nat}, MNl lo N nd sc f s ch j r → MNl lo N' nd' sc' f s ch j r
  | [], _, _ => trivial
  | a :: r, j, t => ⟨fun x => (t.1 x).move h h1 h2 h3 h4, MNl.move h h1 h2 h3 h4 t.2⟩
theorem MNl.lb {f : Nat} {s : Int} {ch : List (Nat × Int × Nat)} (h : LBo m N N') : ∀ {r : List (Nat × (Ty × Bool))} {j : Nat}, m < j → MNl 64 N nd sc f s ch j r → MNl 64 N' nd sc f s ch j r
  | [], _, _, _ => trivial
  | a :: r, j, hj, t => ⟨fun x => (t.1 x).lb h hj, MNl.lb h (by omega) t.2⟩
theorem MNl.app {f : Nat} {s : Int} {ch : List (Nat × Int × Nat)} {b : Nat × (Ty × Bool)} : ∀ {r : List (Nat × (Ty × Bool))} {j : Nat}, MNl lo N nd sc f s ch j r → (b.2.2 = true → MNd lo N nd sc f b.2.1 s ch (j + (tcat r).length)) → MNl lo N nd sc f s ch j (r ++ [b])
  | [], j, _, hb => ⟨hb, trivial⟩
  | a :: r, j, t, hb => ⟨t.1, MNl.app t.2 (fun x => by
    have := hb x
    have e : (tcat (a :: r)).length = (tfl a.2.1).length + (tcat r).length := by
      show (tfl a.2.1 ++ tcat r).length = _
      rw [List.length_append]
    rw [e, ← Nat.add_assoc] at this
    exact this)⟩
/-- a record's node with its parts -/
def RXm (N : pm_M) (nd sc m p0 : Nat) (s : Int) (ch : List (Nat × Int × Nat)) (f : Nat) (acc : List (Nat × (Ty × Bool))) : Prop := NB N m 10 p0 s ∧ N 60 (m : Int) = ((msk acc : Nat) : Int) ∧ (∃ b, TQ acc.length N nd sc (m + 1) (tcat acc) b (allc acc)) ∧ (SCh 64 N nd sc s ch ∧ SCW N nd sc) ∧ MNl 64 N nd sc f s ch (m + 1) acc
theorem RXm.move {p0 f : Nat} {s : Int} {ch : List (Nat × Int × Nat)} {acc : List (Nat × (Ty × Bool))} (t : RXm N nd sc m p0 s ch f acc) (h : MFr nd2 sc2 k N N') (h1 : nd ≤ nd2) (h2 : sc ≤ sc2) (h3 : nd ≤ nd') (h4 : sc ≤ sc') (hm : m + 1 + (tcat acc).length ≤ nd2) (hsw : SCW N' nd' sc') : RXm N' nd' sc' m p0 s ch f acc := by
  obtain ⟨⟨n1, n2, n3⟩, t2, ⟨b, t3⟩, t4, t5⟩ := t
  exact ⟨⟨(h 59 _ (by unfold WMr; omega)).trans n1, (h 61 _ (by unfold WMr; omega)).trans n2, (h 62 _ (by unfold WMr; omega)).trans n3⟩, (h 60 _ (by unfold WMr; omega)).trans t2, ⟨b, t3.move h h1 h2 h3 h4 hm⟩, ⟨(t4.1.same (h.low h1 h2 (Nat.zero_le _))).up h3 h4, hsw⟩, t5.move h h1 h2 h3 h4⟩
end PmD3
/-- what reading a term does to the model -/
def MTmC (tx : Nat → Int) (ln d r : Nat) : Prop := ∀ (wt s w : Int) (ch : List (Nat × Int × Nat)) (p nd sc : Nat) (l : List (Int × Int × Int × Int)) (N : pm_M) (Rf : Nat → Nat → Nat) (K L : Nat → Nat) (n s0 : Nat) (Q : Option Value → pm_S → Prop), pm_G Rf K L n → MS tx ln N p nd sc ((201, ((24 - r : Nat) : Int), s, w) :: l) → SCh 64 N nd sc s ch → SCW N nd sc → l.length + 1 ≤ 5 * (24 - r) → r ≤ 23 → (∀ q N', pM tx ln r ch p = (q, none) → MFr nd sc l.length N N' → (∀ p i, R32 (N' p i)) → Q (some (.int (zI (q : Int)))) (zM N', Rf, K, L, n, s0)) → (∀ q a N' sc' b, pM tx ln r ch p = (q, some a) → MFr nd sc l.length N N' → MS tx ln N' q (nd + (tfl a.1).length) sc' l → sc ≤ sc' → SCW N' (nd + (tfl a.1).length) sc' → TQ 1 N' (nd + (tfl a.1).length) sc' nd (tfl a.1) b a.2 → (a.2 = true → MNd 64 N' (nd + (tfl a.1).length) sc' (r + 1) a.1 s ch nd) → LH (d + 4) wt q (zM N', Rf, K, L, n, s0) Q) → LH (d + 4) wt p (zM N, Rf, K, L, n, s0) Q
section PmD4
variable {tx : Nat → Int} {ln d : Nat} {Rf : Nat → Nat → Nat} {K L : Nat → Nat} {n s0 : Nat} {Q : Option Value → pm_S → Prop}
/-- a record's parts so far: node m, labels below lo -/
def FSm (N0 N : pm_M) (m sc0 lo nd sc : Nat) (acc : List (Nat × (Ty × Bool))) (p0 : Nat) (s : Int) (ch : List (Nat × Int × Nat)) (k f : Nat) : Prop := MFr m sc0 k N0 N ∧ RXm N nd sc m p0 s ch f acc ∧ nd = m + 1 + (tcat acc).length ∧ (∀ b ∈ acc, b.1 < lo) ∧ (∀ rest, Srt lo rest → Srt 0 (acc ++ rest)) ∧ msk acc < 2 ^ lo ∧ (lo = 0 ∨ 2 ^ (lo - 1) ≤ msk acc) ∧ m < 128 ∧ sc0 ≤ sc
set_option maxHeartbeats 2000000 in
/-- behind a label -/
theorem m_afterM {r : Nat} (IH : MTmC tx ln d r) {wt s : Int} {ch : List (Nat × Int × Nat)} {m sc0 lo p nd sc k c p0 : Nat} {acc : List (Nat × (Ty × Bool))} {l : List (Int × Int × Int × Int)} {N0 N N1 : pm_M} (hG : pm_G Rf K L n) (hr : r ≤ 22) (fs : FSm N0 N m sc0 lo nd sc acc p0 s ch l.length (r + 1)) (hlo : lo ≤ 2) (hk3 : 3 ≤ lo + (k + 1)) (hll : l.length + 1 ≤ 5 * (24 - (r + 1))) (hc3 : c < 3) (hch : chr tx ln p = 120 + (c : Int)) (hac : msk acc < 2 ^ c) (ms1 : MS tx ln N1 (p + 1) nd sc ((61, ((24 - (r + 1) : Nat) : Int), s, (m : Int)) :: (201, ((24 - (r + 1) : Nat) : Int) + 1, s, (m : Int)) :: (207, ((24 - (r + 1) : Nat) : Int), s, (m : Int)) :: l)) (v1 : N1 60 (m : Int) = ((msk acc + 2 ^ c : Nat) : Int)) (lb1 : LBo m N N1) (fr1 : MFr m sc l.length N N1)
    (REC : ∀ (lo' p' nd' sc' : Nat) (acc' : List (Nat × (Ty × Bool))) (N' : pm_M), lo' ≤ 2 → 3 ≤ lo' + k → FSm N0 N' m sc0 lo' nd' sc' acc' p0 s ch l.length (r + 1) → MS tx ln N' p' nd' sc' ((209, ((24 - (r + 1) : Nat) : Int), s, (m : Int)) :: l) → (∀ q N2, pFs tx ln (fun q => if chr tx ln q = 61 then pM tx ln r ch (q + 1) else (q, none)) 125 k lo' p' = (q, none) → MFr m sc0 l.length N0 N2 → (∀ p i, R32 (N2 p i)) → Q (some (.int (zI (q : Int)))) (zM N2, Rf, K, L, n, s0)) → (∀ q rest N2 sc2, pFs tx ln (fun q => if chr tx ln q = 61 then pM tx ln r ch (q + 1) else (q, none)) 125 k lo' p' = (q, some rest) → MFr m sc0 l.length N0 N2 → MS tx ln N2 q (m + 1 + (tcat (acc' ++ rest)).length) sc2 l → sc' ≤ sc2 → RXm N2 (m + 1 + (tcat (acc' ++ rest)).length) sc2 m p0 s ch (r + 1) (acc' ++ rest) → LH (d + 4) wt q (zM N2, Rf, K, L, n, s0) Q) → LH (d + 4) wt p' (zM N', Rf, K, L, n, s0) Q)
    (hfail : (∀ q N2, pFs tx ln (fun q => if chr tx ln q = 61 then pM tx ln r ch (q + 1) else (q, none)) 125 (k + 1) lo p = (q, none) → MFr m sc0 l.length N0 N2 → (∀ p i, R32 (N2 p i)) → Q (some (.int (zI (q : Int)))) (zM N2, Rf, K, L, n, s0)))
    (hok : (∀ q rest N2 sc2, pFs tx ln (fun q => if chr tx ln q = 61 then pM tx ln r ch (q + 1) else (q, none)) 125 (k + 1) lo p = (q, some rest) → MFr m sc0 l.length N0 N2 → MS tx ln N2 q (m + 1 + (tcat (acc ++ rest)).length) sc2 l → sc ≤ sc2 → RXm N2 (m + 1 + (tcat (acc ++ rest)).length) sc2 m p0 s ch (r + 1) (acc ++ rest) → LH (d + 4) wt q (zM N2, Rf, K, L, n, s0) Q)) : LH (d + 4) wt (p + 1) (zM N1, Rf, K, L, n, s0) Q := by
  obtain ⟨f1, ⟨⟨n1, n2, n3⟩, f3, ⟨bb, f5⟩, f6, f6b⟩, f4, f7, f8, f9, f10, f11, f12⟩ := fs
  have hloc : lo ≤ c := by
    rcases f10 with e | e
    · omega
    · by_cases x : lo ≤ c
      · exact x
      · have : 2 ^ c ≤ 2 ^ (lo - 1) := Nat.pow_le_pow_right (by decide) (by omega)
        omega
  have ecc : (chr tx ln p - 120).toNat = c := by omega
  have hS1 : SCh 64 N1 nd sc s ch := f6.1.lb lb1
  have hW1 : SCW N1 nd sc := f6.2.lb lb1
  have base : MFr m sc0 l.length N0 N1 := f1.trans (fr1.low (Nat.le_refl _) f12 (Nat.le_refl _))
  have hpf := pFs_succ (tx := tx) (ln := ln) (fun q => if chr tx ln q = 61 then pM tx ln r ch (q + 1) else (q, none)) 125 k lo p
  rw [if_neg (show ¬ (chr tx ln p < 120 + (lo : Int) ∨ 123 ≤ chr tx ln p) by omega), ecc] at hpf
  have mc : m < nd := by omega
  have ms1b := ms1.2.2.2.2.2.2.2.2.2.2
  have m160 := ms1.2.2.1
  have l60 := ms1.2.1.2.1
  have rng := hS1.rng
  refine l_char (d := d + 3) hG ms1 (by simp only [List.length_cons]; omega) (by decide) (fun h61 hlt1 N1b ms1b fr1b => ?_) (fun h61 N2 fr2 r2 => ?_)
  rotate_left
  · exact hfail (p + 1) N2 (by rw [hpf]; exact thn_none (if_neg h61)) (base.trans (fr2 _ _ _)) r2
  have b0 : ((24 - (r + 1) : Nat) : Int) + 1 = ((24 - r : Nat) : Int) := by omega
  rw [b0] at ms1b
  have eqp : ∀ x, pM tx ln r ch (p + 1 + 1) = x → (fun q => if chr tx ln q = 61 then pM tx ln r ch (q + 1) else (q, none)) (p + 1) = x := fun x hx => (if_pos h61).trans hx
  refine IH wt s (m : Int) ch (p + 1 + 1) nd sc ((207, ((24 - (r + 1) : Nat) : Int), s, (m : Int)) :: l) N1b Rf K L n s0 Q hG ms1b (hS1.same (fr1b _ _ 0)) (hW1.same (fr1b _ _ 0) (Nat.le_refl _)) (by rw [List.length_cons]; omega) (by omega) (fun q N2 hpt fr2 r2 => ?_) (fun q a N2 sc2 b2 hpt fr2 ms2 hsc sw2 tq2 mn2 => ?_)
  · exact hfail q N2 (by rw [hpf, thn_none (eqp _ hpt)]) ((base.trans (fr1b _ _ _)).trans (fr2.low (by omega) f12 (by rw [List.length_cons]; omega))) r2
  · rw [thn_some (eqp _ hpt)] at hpf
    have base2 : MFr m sc0 l.length N0 N2 := (base.trans (fr1b _ _ _)).trans (fr2.low (by omega) f12 (by rw [List.length_cons]; omega))
    have fr12 : MFr nd sc 0 N1 N2 := (fr1b nd sc 0).trans (fr2.low (Nat.le_refl _) (Nat.le_refl _) (Nat.zero_le _))
    have hmk : msk (acc ++ [(c, a)]) = msk acc + 2 ^ c := by rw [msk_app]; rfl
    have e60 : N2 60 (m : Int) = ((msk (acc ++ [(c, a)]) : Nat) : Int) := (fr12 60 _ (by unfold WMr; omega)).trans (by rw [hmk]; exact v1)
    have nb2 : NB N2 m 10 p0 s := ⟨(fr12 59 _ (by unfold WMr; omega)).trans ((lb1 59 _ (by omega) (by omega) (by omega)).trans n1), (fr12 61 _ (by unfold WMr; omega)).trans ((lb1 61 _ (by omega) (by omega) (by omega)).trans n2), (fr12 62 _ (by unfold WMr; omega)).trans ((lb1 62 _ (by omega) (by omega) (by omega)).trans n3)⟩
    have hfc : tcat (acc ++ [(c, a)]) = tcat acc ++ tfl a.1 := by
      rw [tcat_app]
      show tcat acc ++ (tfl a.1 ++ []) = _
      rw [List.append_nil]
    have hal : allc (acc ++ [(c, a)]) = (allc acc && a.2) := by
      rw [allc_app]
      show (allc acc && (a.2 && true)) = _
      rw [Bool.and_true]
    have hnd2 : nd + (tfl a.1).length = m + 1 + (tcat (acc ++ [(c, a)])).length := by
      rw [hfc, List.length_append]; omega
    have tq1 : TQ acc.length N2 (nd + (tfl a.1).length) sc2 (m + 1) (tcat acc) bb (allc acc) := (show TQ acc.length N1 nd sc (m + 1) (tcat acc) bb (allc acc) from ⟨f5.1.lb lb1 (by omega), f5.2⟩).move fr12 (Nat.le_refl _) (Nat.le_refl _) (by omega) hsc (by omega)
    have rx2 : RXm N2 (m + 1 + (tcat (acc ++ [(c, a)])).length) sc2 m p0 s ch (r + 1) (acc ++ [(c, a)]) := by
      refine ⟨nb2, e60, ⟨bb && b2, ?_⟩, ?_, ?_⟩
      · rw [← hnd2, hfc, hal, List.length_append]
        refine tq1.app ?_
        rw [show m + 1 + (tcat acc).length = nd by omega]
        exact tq2
      · rw [← hnd2]
        exact ⟨(hS1.same (k := 0) fr12).up (by omega) hsc, sw2⟩
      · rw [← hnd2]
        refine MNl.app ((f6b.lb lb1 (by omega)).move fr12 (Nat.le_refl _) (Nat.le_refl _) (by omega) hsc) ?_
        rw [show m + 1 + (tcat acc).length = nd by omega]
        exact mn2
    have h15 : msk (acc ++ [(c, a)]) < 8 ∧ (c ≤ 1 → msk (acc ++ [(c, a)]) < 4) ∧ (c = 2 → ¬ msk (acc ++ [(c, a)]) < 4) := by
      rw [hmk]
      rcases (show c = 0 ∨ c = 1 ∨ c = 2 by omega) with rfl | rfl | rfl <;> (refine ⟨?_, ?_, ?_⟩ <;> omega)
    rw [hnd2] at ms2
    refine l_sep207 hG ms2 (by omega) ⟨rng.1, by omega⟩ ⟨by omega, by omega⟩ f11 e60 h15.1 (fun hcl hlt N3 ms3 fr3 => ?_) (fun h44 ha4 hlt N3 ms3 fr3 => ?_) (fun hn93 hno N3 fr3 r3 => ?_)
    · rw [if_pos hcl] at hpf
      exact hok (q + 1) [(c, a)] N3 sc2 hpf (base2.trans (fr3 _ _ _)) ms3 hsc (rx2.move (fr3 (m + 1 + (tcat (acc ++ [(c, a)])).length) sc2 0) (Nat.le_refl _) (Nat.le_refl _) (Nat.le_refl _) (Nat.le_refl _) (Nat.le_refl _) (rx2.2.2.2.1.2.same (fr3 _ _ 0) (Nat.le_refl _)))
    · have hn93 : chr tx ln q ≠ 125 := by omega
      have hc1 : c ≤ 1 := by
        by_cases x : c = 2
        · exact absurd ha4 (h15.2.2 x)
        · omega
      rw [if_neg hn93, if_neg (show ¬ (chr tx ln p = 122 ∨ chr tx ln q ≠ 44) from fun x => x.elim (fun y => by omega) (fun y => y h44))] at hpf
      have fr3' : MFr (m + 1 + (tcat (acc ++ [(c, a)])).length) sc2 l.length N2 N3 := fr3 _ _
      refine REC (c + 1) (q + 1) (m + 1 + (tcat (acc ++ [(c, a)])).length) sc2 (acc ++ [(c, a)]) N3 (by omega) (by omega) ⟨base2.trans (fr3 _ _), rx2.move fr3' (Nat.le_refl _) (Nat.le_refl _) (Nat.le_refl _) (Nat.le_refl _) (Nat.le_refl _) (rx2.2.2.2.1.2.same fr3' (Nat.le_refl _)), rfl, ?_, ?_, ?_, ?_, f11, by omega⟩ ms3 (fun q2 N4 hq fr4 r4 => hfail q2 N4 (by rw [hpf, thn_none hq]) fr4 r4) (fun q2 rest N4 sc4 hq fr4 ms4 hsc4 rx4 => ?_)
      · intro b hb
        rcases List.mem_append.mp hb with hb | hb
        · have := f7 b hb; omega
        · rw [List.mem_singleton] at hb; rw [hb]; exact Nat.lt_succ_self c
      · intro rest hr'
        rw [List.append_assoc]
        exact f8 _ ⟨hloc, hc3, hr'⟩
      · rw [hmk, Nat.pow_succ]; omega
      · right
        rw [hmk, Nat.add_sub_cancel]; omega
      · have ea : (acc ++ [(c, a)]) ++ rest = acc ++ ((c, a) :: rest) := by rw [List.append_assoc]; rfl
        rw [ea] at ms4 rx4
        exact hok q2 ((c, a) :: rest) N4 sc4 (by rw [hpf, thn_some hq]) fr4 ms4 (by omega) rx4
    · rw [if_neg hn93] at hpf
      rw [if_pos (show chr tx ln p = 122 ∨ chr tx ln q ≠ 44 from by
        rcases hno with x | x
        · exact Or.inr x
        · left
          have : ¬ c ≤ 1 := fun y => x (h15.2.1 y)
          omega)] at hpf
      exact hfail q N3 hpf (base2.trans (fr3 _ _ _)) r3
theorem m_fieldsM {r : Nat} (IH : MTmC tx ln d r) {wt s : Int} {ch : List (Nat × Int × Nat)} {m sc0 p0 : Nat} {l : List (Int × Int × Int × Int)} {N0 : pm_M} (hG : pm_G Rf K L n) (hr : r ≤ 22) (hll : l.length + 1 ≤ 5 * (24 - (r + 1))) : ∀ (k lo p nd sc : Nat) (acc : List (Nat × (Ty × Bool))) (N : pm_M), lo ≤ 2 → 3 ≤ lo + k → FSm N0 N m sc0 lo nd sc acc p0 s ch l.length (r + 1) → MS tx ln N p nd sc ((209, ((24 - (r + 1) : Nat) : Int), s, (m : Int)) :: l) → (∀ q N2, pFs tx ln (fun q => if chr tx ln q = 61 then pM tx ln r ch (q + 1) else (q, none)) 125 k lo p = (q, none) → MFr m sc0 l.length N0 N2 → (∀ p i, R32 (N2 p i)) → Q (some (.int (zI (q : Int)))) (zM N2, Rf, K, L, n, s0)) → (∀ q rest N2 sc2, pFs tx ln (fun q => if chr tx ln q = 61 then pM tx ln r ch (q + 1) else (q, none)) 125 k lo p = (q, some rest) → MFr m sc0 l.length N0 N2 → MS tx ln N2 q (m + 1 + (tcat (acc ++ rest)).length) sc2 l → sc ≤ sc2 → RXm N2 (m + 1 + (tcat (acc ++ rest)).length) sc2 m p0 s ch (r + 1) (acc ++ rest) → LH (d + 4) wt q (zM N2, Rf, K, L, n, s0) Q) → LH (d + 4) wt p (zM N, Rf, K, L, n, s0) Q
  | 0, lo, p, nd, sc, acc, N, hlo, hk, _, _, _, _ => by omega
  | k + 1, lo, p, nd, sc, acc, N, hlo, hk, fs, ms, hfail, hok => by
    have fs0 := fs
    obtain ⟨f1, ⟨⟨n1, n2, n3⟩, f3, f5, f6, f6b⟩, f4, f7, f8, f9, f10, f11, f12⟩ := fs
    have rng := f6.1.rng
    have msb := ms.2.2.2.2.2.2.2.2.2.2
    have m60 := ms.2.2.1
    have l60 := ms.2.1.2.1
    have h8 : msk acc < 8 := Nat.lt_of_lt_of_le f9 (Nat.le_trans (Nat.pow_le_pow_right (by decide) hlo) (by decide))
    refine l_lab209 hG ms (by omega) ⟨rng.1, by omega⟩ ⟨by omega, by omega⟩ f11 n1 f3 h8 (fun c hc3 hch hdp hac hlt N1 ms1 v1 lb1 fr1 => ?_) (fun hno N1 fr1 r1 => ?_)
    · exact m_afterM IH hG hr fs0 hlo hk hll hc3 hch hac ms1 v1 lb1 fr1 (fun lo' p' nd' sc' acc' N' a1 a2 a3 a4 a5 a6 => m_fieldsM IH hG hr hll k lo' p' nd' sc' acc' N' a1 a2 a3 a4 a5 a6) hfail hok
    · refine hfail p N1 ?_ (f1.trans (fr1 _ _ _)) r1
      rw [pFs_succ, if_pos]
      by_cases x : chr tx ln p < 120 + (lo : Int) ∨ 123 ≤ chr tx ln p
      · exact x
      · exfalso
        have : msk acc < 2 ^ (chr tx ln p - 120).toNat := Nat.lt_of_lt_of_le f9 (Nat.pow_le_pow_right (by decide) (by omega))
        exact hno (chr tx ln p - 120).toNat (by omega) (by omega) (by omega) this
end PmD4
