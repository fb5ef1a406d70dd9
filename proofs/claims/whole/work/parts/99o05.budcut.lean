/-! EVERY TERM IN A CONTEXT THAT IS CUT, BY CHARACTERS. -/
section PmO4
variable {N t0 fn s2 hv r0 r1 r2 r3 x0 E p : Nat} {n1 h : Nat → Nat} {P Q : List (List Nat)} {F G : FrT} {X : List Nat} {Z : Nat → Nat}
/-- what is exposed: an instance, or no more than a binder of cd characters -/
def EBk (X : List Nat) (E p t0 : Nat) (n1 : Nat → Nat) (s2 : Nat) (h : Nat → Nat) (cv cd : Nat) (ω : List Nat) (Γ : List Ty) : Prop := ∀ c z, cv ≤ c → c + cd ≤ 56 → z ≤ X.getD c 0 → eb1 t0 n1 s2 h ω Γ z ≤ max (E + p * z) (X.getD (c + cd) 0) ∧ eb7 t0 n1 s2 h ω Γ z ≤ X.getD (c + cd) 0
theorem EBk.more (T : TBs N t0 fn s2 hv r0 r1 r2 r3 x0 n1 h P Q F G X) {cv cv' cd cd' : Nat} {ω : List Nat} {Γ : List Ty} (b : EBk X E p t0 n1 s2 h cv cd ω Γ) (h1 : cv ≤ cv') (h2 : cd ≤ cd') : EBk X E p t0 n1 s2 h cv' cd' ω Γ := by
  intro c z a1 a2 a3
  have q := b c z (by omega) (by omega) a3
  have q2 := fxc_le T.2.1 (c := c + cd) (d := c + cd') (by omega) (by omega)
  omega
theorem EBk.ext (hm : ∀ y y', y ≤ y' → h y ≤ h y') (T : TBs N t0 fn s2 hv r0 r1 r2 r3 x0 n1 h P Q F G X) {cv cd w : Nat} {ω : List Nat} {Γ : List Ty} {A : Ty} (b : EBk X E p t0 n1 s2 h cv cd ω Γ) (hl : ω.length = Γ.length) (o : ok Γ.length A = true) (hw : ∀ j, j < ω.length → vw ω j ≤ X.getD cv 0) (hA : tch A + 4 ≤ cd) : EBk X E p t0 n1 s2 h (cv + tch A + 4) cd (w :: ω) (A :: Γ) := by
  intro c z a1 a2 a3
  have q := b c z (by omega) a2 a3
  have oA : ok ω.length A = true := by rw [hl]; exact o
  have hw' : ∀ j, j < ω.length → vw ω j ≤ X.getD c 0 := fun j hj => Nat.le_trans (hw j hj) (fxc_le T.2.1 (by omega) (by omega))
  have u := (val_up (z := z) (cv := c) (c := c + cd) T (A := A) oA (by omega) (by omega) hw' a3).1
  have u1 := nz1_le (t0 := t0) (n1 := n1) (s2 := s2) hm z _ A ω (Nat.le_refl _) oA
  refine ⟨?_, ?_⟩
  · show max (nz1 t0 n1 s2 h z ω A) (eb1 t0 n1 s2 h ω Γ z) ≤ _
    omega
  · show max (if hd A = 2 then 0 else nz1 t0 n1 s2 h z ω A) (eb7 t0 n1 s2 h ω Γ z) ≤ _
    split <;> omega
def GEs (N t0 : Nat) (n1 : Nat → Nat) (s2 : Nat) (h : Nat → Nat) (P : List (List Nat)) (X : List Nat) (E p : Nat) (Z : Nat → Nat) (L f : Nat) : Prop := ∀ (t : Ty) (z : Nat) (ω : List Nat) (Γ : List Ty) (Δ : List (Nat × Ty × Nat)) (cv cd : Nat), TWf f Γ.length (Δ.map (fun a => a.1)) t → TE Γ Δ → EG f t → ω.length = Γ.length → (∀ j, j < ω.length → vw ω j ≤ X.getD cv 0) → dch Δ ≤ cd → EBk X E p t0 n1 s2 h cv cd ω Γ → (4 ≤ cd ∧ tbm f t + 4 ≤ cd) → cv + ubd f t ≤ L → cv + cd + 2 * mch t ≤ N → BF P E p Z (cv + cd) (mch t) (GEv t0 n1 s2 h f false z t ω Γ Δ)
/-- an instance -/
theorem GEv_9 (hm : ∀ y y', y ≤ y' → h y ≤ h y') (T : TBs N t0 fn s2 hv r0 r1 r2 r3 x0 n1 h P Q F G X) (hx : PXk N P F X fn s2 r1 = true) (h21 : r2 ≤ r1) (h32 : r3 ≤ r2) (hz : ZOk Z) {L : Nat} (hL : L ≤ 56) (hZ : ∀ q, 1 ≤ q → q ≤ 56 → ∀ w ∈ frg F q, w.2 + w.1 * X.getD L 0 ≤ Z (q + 2)) {t : Ty} {ω : List Nat} {Γ : List Ty} {Δ : List (Nat × Ty × Nat)} {cv cd f : Nat} (w : TWf (f + 1) Γ.length (Δ.map (fun a => a.1)) t) (he : TE Γ Δ) (hg : EG (f + 1) t) (hl : ω.length = Γ.length) (hw : ∀ j, j < ω.length → vw ω j ≤ X.getD cv 0) (hd : dch Δ ≤ cd) (hE : EBk X E p t0 n1 s2 h cv cd ω Γ) (hT1 : 4 ≤ cd) (hU : cv ≤ L) (hb : cv + cd + 2 * mch t ≤ N) (c9 : nKd t = 9) : BF P E p Z (cv + cd) (mch t) (max (GEv t0 n1 s2 h f true (nz t0 n1 s2 h ω (nY t)) (nX t) ω Γ Δ) (eb1 t0 n1 s2 h ω Γ (nz t0 n1 s2 h ω (nY t)))) := by
    have hz0 : 0 ≤ X.getD cv 0 := Nat.zero_le _
    have mp := mch_pos w
    obtain ⟨w0, w5, w6, w7, w8, w9, w10, w11, w12⟩ := w
    obtain ⟨v6, v7, v9, v10, v12⟩ := hg
    have em := mch_is w0.2.1
    have hN := T.2.2.2.2.2.2.1
    have hp := T.2.2.2.2.2.1
    rw [if_neg (by omega), if_neg (by omega)] at em
    rw [if_pos c9] at em
    obtain ⟨x1, x2, x3⟩ := w9 c9
    have tp := tch_pos x2
    have e1 : 1 ≤ mch (nX t) := by
      cases f with
      | zero => exact x1.elim
      | succ f => exact mch_pos x1
    have k5 : 5 ≤ nKd (nX t) ∧ nKd (nX t) ≤ 12 := by
      cases f with
      | zero => exact x1.elim
      | succ f => exact x1.1.1
    have g := GEv_GB1 (t0 := t0) (n1 := n1) (s2 := s2) (h := h) f (nX t) (nz t0 n1 s2 h ω (nY t)) ω Γ Δ k5.1 k5.2 (v9 c9) x1
    obtain ⟨pr, pp, zq⟩ := val_text (z := 0) (cv := cv) T (A := nY t) (by rw [hl]; exact x2) (by omega) (by omega) hw hz0
    rw [hzx_0] at zq
    have zL := fxc_le T.2.1 (c := cv) (d := L) (by omega) hL
    have zL2 := Nat.mul_le_mul_left pr.1 zL
    have zZ := hZ (tch (nY t)) tp (by omega) pr pp
    have fin : ∀ v, v ≤ max (E + p * nz t0 n1 s2 h ω (nY t)) (pg P (cv + cd) (mch t)) → BF P E p Z (cv + cd) (mch t) v := by
      intro v hv
      by_cases c : v ≤ pg P (cv + cd) (mch t)
      · exact BF.base hz mp c
      · exact BF.inst hz (s := tch (nY t) + 2) (z := nz t0 n1 s2 h ω (nY t)) (by omega) (by omega) (by omega) (by omega)
    apply fin
    by_cases eq : tch (nY t) = 1
    · have u := val_arg (z := 0) (cv := cv) (c := cv) T (A := nY t) (by rw [hl]; exact x2) hw hz0 (Nat.le_refl _) (Or.inl eq) (by omega)
      rw [hzx_0, Nat.max_eq_right (Nat.zero_le _)] at u
      have hE7 : ∀ c z, cv ≤ c → c + (cd - 4) + 4 ≤ 56 → z ≤ X.getD c 0 → eb7 t0 n1 s2 h ω Γ z ≤ X.getD (c + (cd - 4) + 4) 0 := fun c z h1 h2 h3 => by
        have := (hE c z h1 (by omega) h3).2
        rw [show c + (cd - 4) + 4 = c + cd by omega]
        exact this
      have q' := GB1_le (e := eb7 t0 n1 s2 h ω Γ) hm T f (nX t) _ ω Γ Δ cv cd (cd - 4) x1 he hl hw u hd (by omega) hE7 (by omega)
      have q5 := (hE cv _ (Nat.le_refl _) (by omega) u).1
      have q7 := (psc_m hp mp hb).1
      have q2 := psc_up hp e1 (k := mch t) (by omega) hb
      omega
    · have u := val_arg (z := 0) (cv := cv) (c := cv + tch (nY t) + 4) T (A := nY t) (by rw [hl]; exact x2) hw hz0 (by omega) (Or.inr (Nat.le_refl _)) (by omega)
      rw [hzx_0, Nat.max_eq_right (Nat.zero_le _)] at u
      have q3 := fxc_le T.2.1 (c := cv) (d := cv + tch (nY t) + 4) (by omega) (by omega)
      have hw3 : ∀ j, j < ω.length → vw ω j ≤ X.getD (cv + tch (nY t) + 4) 0 := fun j hj => Nat.le_trans (hw j hj) q3
      have hE7 : ∀ c z, cv + tch (nY t) + 4 ≤ c → c + (cd - 4) + 4 ≤ 56 → z ≤ X.getD c 0 → eb7 t0 n1 s2 h ω Γ z ≤ X.getD (c + (cd - 4) + 4) 0 := fun c z h1 h2 h3 => by
        have := (hE c z (by omega) (by omega) h3).2
        rw [show c + (cd - 4) + 4 = c + cd by omega]
        exact this
      have q' := GB1_le (e := eb7 t0 n1 s2 h ω Γ) hm T f (nX t) _ ω Γ Δ (cv + tch (nY t) + 4) cd (cd - 4) x1 he hl hw3 u hd (by omega) hE7 (by omega)
      have q5 := (hE (cv + tch (nY t) + 4) _ (by omega) (by omega) u).1
      have q7 := (psc_m hp (c := cv + tch (nY t) + 4 + cd) (m := mch (nX t)) e1 (by omega)).1
      have q2 := (psc_k hp (c := cv + cd) tp e1 (by omega)).2.2.2 (by omega) (by omega)
      have em2 : mch t = tch (nY t) + mch (nX t) + 1 := by omega
      rw [em2]
      rw [show cv + tch (nY t) + 4 + cd = cv + cd + tch (nY t) + 4 by omega] at q' q5 q7
      omega
/-- a choice -/
theorem GEv_12 (hm : ∀ y y', y ≤ y' → h y ≤ h y') (T : TBs N t0 fn s2 hv r0 r1 r2 r3 x0 n1 h P Q F G X) (hx : PXk N P F X fn s2 r1 = true) (h21 : r2 ≤ r1) (h32 : r3 ≤ r2) (hz : ZOk Z) {L : Nat} (hL : L ≤ 56) (hZ : ∀ q, 1 ≤ q → q ≤ 56 → ∀ w ∈ frg F q, w.2 + w.1 * X.getD L 0 ≤ Z (q + 2)) {t : Ty} {z : Nat} {ω : List Nat} {Γ : List Ty} {Δ : List (Nat × Ty × Nat)} {cv cd f : Nat} (ih : GEs N t0 n1 s2 h P X E p Z L f) (w : TWf (f + 1) Γ.length (Δ.map (fun a => a.1)) t) (he : TE Γ Δ) (hg : EG (f + 1) t) (hl : ω.length = Γ.length) (hw : ∀ j, j < ω.length → vw ω j ≤ X.getD cv 0) (hd : dch Δ ≤ cd) (hE : EBk X E p t0 n1 s2 h cv cd ω Γ) (hT1 : 4 ≤ cd) (hT3 : max (tbm f (nX t)) (tbm f (nY t)) + 4 ≤ cd) (hU : cv + max (ubd f (nX t)) (ubd f (nY t)) ≤ L) (hb : cv + cd + 2 * mch t ≤ N) (c12 : nKd t = 12) : BF P E p Z (cv + cd) (mch t) (if nKd (nX t) = 5 ∧ nKd (nY t) = 5 ∧ nMk (nX t) = nMk (nY t) then GEv t0 n1 s2 h f false z (nX t) ω Γ Δ else GEv t0 n1 s2 h f false z (nX t) ω Γ Δ + GEv t0 n1 s2 h f false z (nY t) ω Γ Δ) := by
    have hz0 : 0 ≤ X.getD cv 0 := Nat.zero_le _
    have mp := mch_pos w
    obtain ⟨w0, w5, w6, w7, w8, w9, w10, w11, w12⟩ := w
    obtain ⟨v6, v7, v9, v10, v12⟩ := hg
    have em := mch_is w0.2.1
    have hN := T.2.2.2.2.2.2.1
    have hp := T.2.2.2.2.2.1
    rw [if_neg (by omega), if_neg (by omega), if_neg (by omega), if_neg (by omega)] at em
    obtain ⟨x1, x2⟩ := w7 (Or.inr c12)
    have e1 : 1 ≤ mch (nX t) := by
      cases f with
      | zero => exact x1.elim
      | succ f => exact mch_pos x1
    have e2 : 1 ≤ mch (nY t) := by
      cases f with
      | zero => exact x2.elim
      | succ f => exact mch_pos x2
    have q1 := ih (nX t) z ω Γ Δ cv cd x1 he (v12 c12).1 hl hw hd hE ⟨hT1, by omega⟩ (by omega) (by omega)
    have q2 := ih (nY t) z ω Γ Δ cv cd x2 he (v12 c12).2 hl hw hd hE ⟨hT1, by omega⟩ (by omega) (by omega)
    by_cases cq : nKd (nX t) = 5 ∧ nKd (nY t) = 5 ∧ nMk (nX t) = nMk (nY t)
    · rw [if_pos cq]
      exact q1.up hp hz (by omega) hb
    rw [if_neg cq]
    by_cases cv5 : nKd (nX t) = 5 ∧ nKd (nY t) = 5
    · cases f with
      | zero => exact x1.elim
      | succ f =>
        obtain ⟨a, ha⟩ := dlk_some (x1.2.1 cv5.1)
        obtain ⟨a', ha'⟩ := dlk_some (x2.2.1 cv5.2)
        have ne : nMk (nX t) ≠ nMk (nY t) := fun e => cq ⟨cv5.1, cv5.2, e⟩
        have d2 := dch_two ha ha' ne
        obtain ⟨g1, g2, g3⟩ := he.2.2 _ (dlk_mem ha)
        obtain ⟨g1', g2', g3'⟩ := he.2.2 _ (dlk_mem ha')
        have g1 : a.2 ≤ Γ.length := g1
        have g1' : a'.2 ≤ Γ.length := g1'
        have g2 : ok a.2 a.1 = true := g2
        have g2' : ok a'.2 a'.1 = true := g2'
        have o := ok_lft a.2 (Γ.length - a.2) a.1 0 g2
        rw [show a.2 + (Γ.length - a.2) + 0 = Γ.length by omega] at o
        have o' := ok_lft a'.2 (Γ.length - a'.2) a'.1 0 g2'
        rw [show a'.2 + (Γ.length - a'.2) + 0 = Γ.length by omega] at o'
        have et : tch (lft a.2 (Γ.length - a.2) a.1) = tch a.1 := tch_lft _ _ _ _ g2
        have et' : tch (lft a'.2 (Γ.length - a'.2) a'.1) = tch a'.1 := tch_lft _ _ _ _ g2'
        have q3 := val_two (z := 0) (cv := cv) (c := cv + cd) T (by rw [hl]; exact o) (by rw [hl]; exact o') (by rw [et, et']; omega) (by omega) hw hz0
        rw [hzx_0] at q3
        have q4 := (psc_m hp (c := cv + cd) mp hb).1
        unfold GEv
        simp only [Bool.false_eq_true, ↓reduceIte]
        rw [if_pos cv5.1, if_pos cv5.2, ha, ha']
        show BF P E p Z (cv + cd) (mch t) (nz t0 n1 s2 h ω (lft a.2 (Γ.length - a.2) a.1) + nz t0 n1 s2 h ω (lft a'.2 (Γ.length - a'.2) a'.1))
        exact BF.base hz mp (by omega)
    have three : 3 ≤ mch (nX t) + mch (nY t) := by
      cases f with
      | zero => exact x1.elim
      | succ f =>
        by_cases c1 : nKd (nX t) = 5
        · have := mch_two x2 (fun e => cv5 ⟨c1, e⟩)
          omega
        · have := mch_two x1 c1
          omega
    have q3 := BF.two hp hz q1 q2 three e1 e2 (by omega)
    rw [em, show 2 + (mch (nX t) + mch (nY t)) = mch (nX t) + mch (nY t) + 2 by omega]
    exact q3
end PmO4
