/-! WHAT STANDS INSIDE A SCHEME OF THE CONTEXT AGAINST ANY TYPE, ALSO WHERE IT HOLDS SCHEMES WITH THE SAME BOUND: comparisons. -/
theorem trf_up : ∀ (f : Nat) (z : Tsk), trf f z ≤ trf (f + 1) z
  | 0, _ => Nat.zero_le _
  | f + 1, z => by
    rw [trf, trf]
    cases e : stp z.1 z.2.1 z.2.2 with
    | none => exact Nat.le_refl _
    | some l =>
      have := sumt_le (μ := trf f) (ν := trf (f + 1)) (l := l) (fun y _ => trf_up f y)
      show rst z.2.1 z.2.2 + sumt (trf f) l ≤ rst z.2.1 z.2.2 + sumt (trf (f + 1)) l
      omega
theorem trf_trx {z : Tsk} (t : tok z) (f : Nat) : trf f z ≤ trx z := by
  have up : ∀ n, trf f z ≤ trf (f + n) z := by
    intro n
    induction n with
    | zero => exact Nat.le_refl _
    | succ n ih => exact Nat.le_trans ih (trf_up (f + n) z)
  have q := up (twt z)
  rw [trx_big t (F := f + twt z) (by omega)]
  exact q
section PmU1
variable (e : Nat) (B C D : Ty) (Γ0 : List Ty)
/-- what comes of the scheme's body against the body of an inner scheme with the same bound: no more than D is worth -/
def EVb (Δ : List Ty) (f : Ty) : Prop := trx (upb Γ0 Δ B :: cxs Δ Γ0 (tAll B C), f, upb Γ0 Δ C) ≤ pmz (qu e) true (oq (qu e) (upb Γ0 Δ B :: cxs Δ Γ0 (tAll B D))) (upb Γ0 Δ D) ∧ trx (upb Γ0 Δ B :: cxs Δ Γ0 (tAll B C), upb Γ0 Δ C, f) ≤ pmz (qu e) true (oq (qu e) (upb Γ0 Δ B :: cxs Δ Γ0 (tAll B D))) (upb Γ0 Δ D) ∧ gm (0, upb Γ0 Δ B :: cxs Δ Γ0 (tAll B C), f, upb Γ0 Δ C) ≤ urm false e 0 (upb Γ0 Δ B :: cxs Δ Γ0 (tAll B D)) (upb Γ0 Δ D) ∧ gm (0, upb Γ0 Δ B :: cxs Δ Γ0 (tAll B C), upb Γ0 Δ C, f) ≤ urm true e 0 (upb Γ0 Δ B :: cxs Δ Γ0 (tAll B D)) (upb Γ0 Δ D)
/-- what is old stays old, and never is the scheme's own variable -/
def KPc (Kp : List Ty → Ty → Prop) : Prop := (ok (Γ0.length + 1) D = true ∧ hd D ≠ 0) ∧ ∀ Δ t, Kp Δ t → (∀ a b, t = tFun a b → Kp Δ a ∧ Kp Δ b) ∧ (∀ m x y z, m < 8 → t = tRec m x y z → (bit m 0 = true → Kp Δ x) ∧ (bit m 1 = true → Kp Δ y) ∧ (bit m 2 = true → Kp Δ z)) ∧ (∀ a b, t = tAll a b → Kp (a :: Δ) b) ∧ (∀ j, t = tVar j → j < (cxs Δ Γ0 (tAll B C)).length → j ≠ Γ0.length ∧ Kp Δ (lft j ((cxs Δ Γ0 (tAll B C)).length - j) (bnd (cxs Δ Γ0 (tAll B C)) j))) ∧ (∀ f, t = tAll (upb Γ0 Δ B) f → TB e (upb Γ0 Δ B :: cxs Δ Γ0 (tAll B C), f, upb Γ0 Δ C) → EVb e B C D Γ0 Δ f)
end PmU1
section PmU2
variable {e : Nat} {B C D : Ty} {Γ0 : List Ty} {Kp : List Ty → Ty → Prop}
theorem cxd_okc (oD : ok (Γ0.length + 1) D = true) : ∀ Δ : List Ty, okc (cxs Δ Γ0 (tAll B C)) → okc (cxs Δ Γ0 (tAll B D))
  | [], q => ⟨ok_all.mpr ⟨(ok_all.mp q.1).1, oD⟩, q.2⟩
  | a :: Δ, q => ⟨by show ok (cxs Δ Γ0 (tAll B D)).length a = true; rw [cxs_ll (tAll B D) (tAll B C)]; exact q.1, cxd_okc oD Δ q.2⟩
theorem cxd_exp {Δ : List Ty} {k : Nat} (ne : k ≠ Γ0.length) : lft k ((cxs Δ Γ0 (tAll B C)).length - k) (bnd (cxs Δ Γ0 (tAll B C)) k) = lft k ((cxs Δ Γ0 (tAll B D)).length - k) (bnd (cxs Δ Γ0 (tAll B D)) k) := by
  rw [cxs_ll (tAll B C) (tAll B D), cxs_other Γ0 (tAll B C) (tAll B D) ne]
theorem TB_sw {Γ : List Ty} {S T : Ty} (tb : TB e (Γ, S, T)) : TB e (Γ, T, S) := ⟨⟨tb.1.1, tb.1.2.2, tb.1.2.1⟩, tb.2.1, tb.2.2.2, tb.2.2.1⟩
/-- the scheme itself, exposed on the left, against what is old -/
theorem trfV_up (K : KPc e B C D Γ0 Kp) (f : Nat) {Δ : List Ty} {S : Ty} (kS : Kp Δ S) (tb : TB e (cxs Δ Γ0 (tAll B C), upb Γ0 Δ (tAll B C), S)) : trf f (cxs Δ Γ0 (tAll B C), upb Γ0 Δ (tAll B C), S) ≤ pmz (qu e) true (oq (qu e) (cxs Δ Γ0 (tAll B D))) (upb Γ0 Δ (tAll B D)) := by
  cases f with
  | zero => exact Nat.zero_le _
  | succ f =>
    have h2 : hd (upb Γ0 Δ (tAll B C)) = 2 := by rw [upb_all, hd_all]
    rcases stp_cases tb.1 with e1 | ⟨e1, r1⟩ | ⟨k, hk, eS, hT0, e1, r1⟩ | ⟨m, x, y, w, m', x', y', w', hm, hm', eS, eT, e1, r1⟩ | ⟨a, c, a', c', eS, eT, e1, r1⟩ | ⟨a, c, c', eS, eT, e1, r1⟩
    · unfold trf
      simp only [e1]
      exact Nat.zero_le _
    · unfold trf
      simp only [e1]
      show rst _ S + 0 ≤ _
      omega
    · rw [eS, hd_var] at h2; omega
    · rw [eS, hd_rec] at h2; omega
    · rw [eS, hd_fun] at h2; omega
    · have eS' := eS
      rw [upb_all] at eS'
      injection eS' with _ eS'
      injection eS' with ea ec
      subst eT ea ec
      have t2 : TB e (upb Γ0 Δ B :: cxs Δ Γ0 (tAll B C), upb Γ0 Δ C, c') := by
        have tb' := tb
        rw [upb_all] at tb'
        exact TB_all tb'
      have et : trf (f + 1) (cxs Δ Γ0 (tAll B C), upb Γ0 Δ (tAll B C), tAll (upb Γ0 Δ B) c') = 1 + (trf f (upb Γ0 Δ B :: cxs Δ Γ0 (tAll B C), upb Γ0 Δ C, c') + 0) := by
        rw [trf]
        simp only [e1]
        rw [r1]
        rfl
      have ev := ((K.2 Δ _ kS).2.2.2.2 c' rfl (TB_sw t2)).2.1
      have q := trf_trx t2.1 f
      have p1 : pmz (qu e) true (oq (qu e) (cxs Δ Γ0 (tAll B D))) (upb Γ0 Δ (tAll B D)) = 1 + pmz (qu e) true (oq (qu e) (upb Γ0 Δ B :: cxs Δ Γ0 (tAll B D))) (upb Γ0 Δ D) := by
        rw [upb_all]; exact pmz_all _ _ _
      rw [et, p1]
      omega
theorem trfV (K : KPc e B C D Γ0 Kp) : ∀ (f : Nat) (Δ : List Ty) (S T : Ty), Kp Δ S → TB e (cxs Δ Γ0 (tAll B C), S, T) → trf f (cxs Δ Γ0 (tAll B C), T, S) ≤ pmz (qu e) true (oq (qu e) (cxs Δ Γ0 (tAll B D))) T ∧ (hd T ≠ 0 → trf f (cxs Δ Γ0 (tAll B C), S, T) + e ≤ chn (cl (cxs Δ Γ0 (tAll B C))) S + pmz (qu e) false (oq (qu e) (cxs Δ Γ0 (tAll B D))) T)
  | 0, Δ, S, T, _, h => by
    refine ⟨Nat.zero_le _, fun h0 => ?_⟩
    have this : e ≤ pmz (qu e) false (oq (qu e) (cxs Δ Γ0 (tAll B D))) T := qu_neg (show ok (cxs Δ Γ0 (tAll B C)).length T = true from h.1.2.2) h0
    show 0 + e ≤ _
    omega
  | f + 1, Δ, S, T, kS, h => by
    obtain ⟨tk, hb, bS, bT⟩ := h
    have hb : cbc e (cxs Δ Γ0 (tAll B C)) := hb
    have bS : cbd e (cl (cxs Δ Γ0 (tAll B C))) S := bS
    have bT : cbd e (cl (cxs Δ Γ0 (tAll B C))) T := bT
    have hc : okc (cxs Δ Γ0 (tAll B C)) := tk.1
    have hS : ok (cxs Δ Γ0 (tAll B C)).length S = true := tk.2.1
    have hT : ok (cxs Δ Γ0 (tAll B C)).length T = true := tk.2.2
    have hcD := cxd_okc (B := B) (C := C) K.1.1 Δ hc
    have lD := cxs_ll (Γ0 := Γ0) (Δ := Δ) (tAll B D) (tAll B C)
    have ih := fun Δ' S' T' => trfV K f Δ' S' T'
    have side : ∀ (Δ : List Ty) (A A' : Ty), Kp Δ A → TB e (cxs Δ Γ0 (tAll B C), A, A') → trf f (cxs Δ Γ0 (tAll B C), A, A') ≤ pmz (qu e) false (oq (qu e) (cxs Δ Γ0 (tAll B D))) A' := by
      intro Δ A A' kA hz
      by_cases h0 : hd A' = 0
      · rw [trf_top f h0]; exact Nat.zero_le _
      · have a1 := (ih Δ A A' kA hz).2 h0
        have a2 := chn_le hz.1.1 hz.2.1 hz.1.2.1
        have a2 : chn (cl (cxs Δ Γ0 (tAll B C))) A ≤ e := a2
        omega
    obtain ⟨kf, kr, ka, kv, -⟩ := K.2 Δ S kS
    refine ⟨?_, fun hT0 => ?_⟩
    · rcases stp_cases (show tok (cxs Δ Γ0 (tAll B C), T, S) from ⟨hc, hT, hS⟩) with e1 | ⟨e1, r1⟩ | ⟨k, hk, rfl, hS0, e1, r1⟩ | ⟨m, x, y, z, m', x', y', z', hm, hm', rfl, rfl, e1, r1⟩ | ⟨a, b, a', b', rfl, rfl, e1, r1⟩ | ⟨a, b, b', rfl, rfl, e1, r1⟩
      · unfold trf
        simp only [e1]
        exact Nat.zero_le _
      · unfold trf
        simp only [e1]
        show rst T S + 0 ≤ _
        omega
      · obtain ⟨c1, c2, c3⟩ := cl_expose hc hb hk
        have t1 : TB e (cxs Δ Γ0 (tAll B C), lft k ((cxs Δ Γ0 (tAll B C)).length - k) (bnd (cxs Δ Γ0 (tAll B C)) k), S) := ⟨⟨hc, ok_expose hc hk, hS⟩, hb, c2, bS⟩
        have ex := pmz_expose (qu e) hcD (show k < (cxs Δ Γ0 (tAll B D)).length by rw [lD]; exact hk)
        have q3 : qu e true 3 = 1 := rfl
        have et : trf (f + 1) (cxs Δ Γ0 (tAll B C), tVar k, S) = 1 + (trf f (cxs Δ Γ0 (tAll B C), lft k ((cxs Δ Γ0 (tAll B C)).length - k) (bnd (cxs Δ Γ0 (tAll B C)) k), S) + 0) := by
          rw [trf]
          simp only [e1]
          rw [r1]
          rfl
        rw [et, pmz_vt]
        by_cases ne : k = Γ0.length
        · subst ne
          rw [cxs_up] at t1 ex ⊢
          have q := trfV_up K f kS t1
          omega
        · have i1 := (ih Δ S _ kS (TB_sw t1)).1
          rw [← cxd_exp (C := C) ne] at ex
          omega
      · have oS := (ok_rec hm').mp hS
        have oT := (ok_rec hm).mp hT
        have dS := (cbd_rec _ _ _ _).mp bS
        have dT := (cbd_rec _ _ _ _).mp bT
        have hsub : ∀ g, g < 3 → bit m' g = true → bit m g = true := by
          by_cases n6 : m &&& m' = m'
          · have := (sub_bits m hm m' hm').mp n6
            intro g hg
            rcases (show g = 0 ∨ g = 1 ∨ g = 2 by omega) with rfl | rfl | rfl
            · exact this.1
            · exact this.2.1
            · exact this.2.2
          · exfalso
            have n3 : 8 ≤ hd (tRec m x y z) ∧ 8 ≤ hd (tRec m' x' y' z') ∧ hd (tRec m' x' y' z') < 16 := by rw [hd_rec, hd_rec]; omega
            have en : stp (cxs Δ Γ0 (tAll B C)) (tRec m x y z) (tRec m' x' y' z') = none := by
              unfold stp
              rw [if_neg (by rw [hd_rec, hd_rec]; omega), if_neg (by rw [hd_rec]; omega), if_pos n3, hd_rec, hd_rec, show 8 + m - 8 = m by omega, show 8 + m' - 8 = m' by omega, if_neg n6]
            rw [en] at e1
            cases e1
        have key : ∀ (g : Nat) (p p' : Ty), g < 3 → (bit m' g = true → Kp Δ p') → okl (cxs Δ Γ0 (tAll B C)).length m g p → okl (cxs Δ Γ0 (tAll B C)).length m' g p' → cbd e (cl (cxs Δ Γ0 (tAll B C))) p → cbd e (cl (cxs Δ Γ0 (tAll B C))) p' → sumt (trf f) (stl (cxs Δ Γ0 (tAll B C)) m' g p p') ≤ pmz (qu e) true (oq (qu e) (cxs Δ Γ0 (tAll B D))) p := by
          intro g p p' hg kp hp hp' bp bp'
          unfold stl
          by_cases hb1 : bit m' g = true
          · rw [if_pos hb1]
            have tb : TB e (cxs Δ Γ0 (tAll B C), p', p) := ⟨⟨hc, okl_on hp' (bit_iff.mp hb1), okl_on hp (bit_iff.mp (hsub g hg hb1))⟩, hb, bp', bp⟩
            have i1 := (ih Δ p' p (kp hb1) tb).1
            show trf f (cxs Δ Γ0 (tAll B C), p, p') + 0 ≤ _
            omega
          · rw [if_neg hb1]
            exact Nat.zero_le _
        obtain ⟨k0, k1, k2⟩ := kr m' x' y' z' hm' rfl
        have k0 := key 0 x x' (by decide) k0 oT.1 oS.1 dT.1 dS.1
        have k1 := key 1 y y' (by decide) k1 oT.2.1 oS.2.1 dT.2.1 dS.2.1
        have k2 := key 2 z z' (by decide) k2 oT.2.2 oS.2.2 dT.2.2 dS.2.2
        have et : trf (f + 1) (cxs Δ Γ0 (tAll B C), tRec m x y z, tRec m' x' y' z') = sumt (trf f) (stl (cxs Δ Γ0 (tAll B C)) m' 2 z z') + (sumt (trf f) (stl (cxs Δ Γ0 (tAll B C)) m' 1 y y') + sumt (trf f) (stl (cxs Δ Γ0 (tAll B C)) m' 0 x x')) := by
          rw [trf]
          simp only [e1]
          rw [r1, sumt_app, sumt_app]
          omega
        have p1 : pmz (qu e) true (oq (qu e) (cxs Δ Γ0 (tAll B D))) (tRec m x y z) = (0 + 0 * mis m) + (pmz (qu e) true (oq (qu e) (cxs Δ Γ0 (tAll B D))) x + (pmz (qu e) true (oq (qu e) (cxs Δ Γ0 (tAll B D))) y + pmz (qu e) true (oq (qu e) (cxs Δ Γ0 (tAll B D))) z)) := pmz_rec _ _ _ _
        rw [et, p1]
        omega
      · have oT := ok_fun.mp hT
        have oS := ok_fun.mp hS
        have dS := (cbd_fun _ _ _).mp bS
        have dT := (cbd_fun _ _ _).mp bT
        obtain ⟨k1, k2⟩ := kf a' b' rfl
        have i1 := (ih Δ b' b k2 ⟨⟨hc, oS.2, oT.2⟩, hb, dS.2, dT.2⟩).1
        have j2 := side Δ a' a k1 ⟨⟨hc, oS.1, oT.1⟩, hb, dS.1, dT.1⟩
        have et : trf (f + 1) (cxs Δ Γ0 (tAll B C), tFun a b, tFun a' b') = trf f (cxs Δ Γ0 (tAll B C), b, b') + (trf f (cxs Δ Γ0 (tAll B C), a', a) + 0) := by
          rw [trf]
          simp only [e1]
          rw [r1]
          show 0 + (trf f (cxs Δ Γ0 (tAll B C), b, b') + (trf f (cxs Δ Γ0 (tAll B C), a', a) + 0)) = _
          omega
        have p1 : pmz (qu e) true (oq (qu e) (cxs Δ Γ0 (tAll B D))) (tFun a b) = 0 + (pmz (qu e) false (oq (qu e) (cxs Δ Γ0 (tAll B D))) a + pmz (qu e) true (oq (qu e) (cxs Δ Γ0 (tAll B D))) b) := pmz_fun _ _ _
        rw [et, p1]
        omega
      · have tb : TB e (cxs Δ Γ0 (tAll B C), tAll a b, tAll a b') := ⟨⟨hc, hT, hS⟩, hb, bT, bS⟩
        have t1 := TB_all tb
        have i1 := (ih (a :: Δ) b' b (ka a b' rfl) (TB_sw t1)).1
        have i1 : trf f (a :: cxs Δ Γ0 (tAll B C), b, b') ≤ pmz (qu e) true (oq (qu e) (a :: cxs Δ Γ0 (tAll B D))) b := i1
        have et : trf (f + 1) (cxs Δ Γ0 (tAll B C), tAll a b, tAll a b') = 1 + (trf f (a :: cxs Δ Γ0 (tAll B C), b, b') + 0) := by
          rw [trf]
          simp only [e1]
          rw [r1]
          rfl
        have p1 : pmz (qu e) true (oq (qu e) (cxs Δ Γ0 (tAll B D))) (tAll a b) = 1 + pmz (qu e) true (oq (qu e) (a :: cxs Δ Γ0 (tAll B D))) b := pmz_all _ _ _
        rw [et, p1]
        omega
    · have low := qu_neg (e := e) (ω := oq (qu e) (cxs Δ Γ0 (tAll B D))) hT hT0
      rcases stp_cases tk with e1 | ⟨e1, r1⟩ | ⟨k, hk, rfl, hS0, e1, r1⟩ | ⟨m, x, y, z, m', x', y', z', hm, hm', rfl, rfl, e1, r1⟩ | ⟨a, b, a', b', rfl, rfl, e1, r1⟩ | ⟨a, b, b', rfl, rfl, e1, r1⟩
      · have e0 : trf (f + 1) (cxs Δ Γ0 (tAll B C), S, T) = 0 := by
          unfold trf
          simp only [e1]
        rw [e0]; omega
      · have e0 : trf (f + 1) (cxs Δ Γ0 (tAll B C), S, T) = 0 := by
          unfold trf
          simp only [e1]
          show rst S T + 0 = 0
          omega
        rw [e0]; omega
      · obtain ⟨c1, c2, c3⟩ := cl_expose hc hb hk
        have i1 := (ih Δ (lft k ((cxs Δ Γ0 (tAll B C)).length - k) (bnd (cxs Δ Γ0 (tAll B C)) k)) T (kv k rfl hk).2 ⟨⟨hc, ok_expose hc hk, hT⟩, hb, c2, bT⟩).2 hT0
        have ev : chn (cl (cxs Δ Γ0 (tAll B C))) (tVar k) = vw (cl (cxs Δ Γ0 (tAll B C))) k := by
          unfold chn
          rw [hd_var, if_pos (by omega), show 16 + k - 16 = k by omega]
        have et : trf (f + 1) (cxs Δ Γ0 (tAll B C), tVar k, T) = 1 + (trf f (cxs Δ Γ0 (tAll B C), lft k ((cxs Δ Γ0 (tAll B C)).length - k) (bnd (cxs Δ Γ0 (tAll B C)) k), T) + 0) := by
          rw [trf]
          simp only [e1]
          rw [r1]
          rfl
        rw [et, ev]
        omega
      · have oS := (ok_rec hm).mp hS
        have oT := (ok_rec hm').mp hT
        have dS := (cbd_rec _ _ _ _).mp bS
        have dT := (cbd_rec _ _ _ _).mp bT
        have hsub : ∀ g, g < 3 → bit m' g = true → bit m g = true := by
          by_cases n6 : m &&& m' = m'
          · have := (sub_bits m hm m' hm').mp n6
            intro g hg
            rcases (show g = 0 ∨ g = 1 ∨ g = 2 by omega) with rfl | rfl | rfl
            · exact this.1
            · exact this.2.1
            · exact this.2.2
          · exfalso
            have n3 : 8 ≤ hd (tRec m x y z) ∧ 8 ≤ hd (tRec m' x' y' z') ∧ hd (tRec m' x' y' z') < 16 := by rw [hd_rec, hd_rec]; omega
            have en : stp (cxs Δ Γ0 (tAll B C)) (tRec m x y z) (tRec m' x' y' z') = none := by
              unfold stp
              rw [if_neg (by rw [hd_rec, hd_rec]; omega), if_neg (by rw [hd_rec]; omega), if_pos n3, hd_rec, hd_rec, show 8 + m - 8 = m by omega, show 8 + m' - 8 = m' by omega, if_neg n6]
            rw [en] at e1
            cases e1
        have key : ∀ (g : Nat) (p p' : Ty), g < 3 → (bit m g = true → Kp Δ p) → okl (cxs Δ Γ0 (tAll B C)).length m g p → okl (cxs Δ Γ0 (tAll B C)).length m' g p' → cbd e (cl (cxs Δ Γ0 (tAll B C))) p → cbd e (cl (cxs Δ Γ0 (tAll B C))) p' → sumt (trf f) (stl (cxs Δ Γ0 (tAll B C)) m' g p p') ≤ pmz (qu e) false (oq (qu e) (cxs Δ Γ0 (tAll B D))) p' := by
          intro g p p' hg kp hp hp' bp bp'
          unfold stl
          by_cases hb1 : bit m' g = true
          · rw [if_pos hb1]
            have i2 := side Δ p p' (kp (hsub g hg hb1)) ⟨⟨hc, okl_on hp (bit_iff.mp (hsub g hg hb1)), okl_on hp' (bit_iff.mp hb1)⟩, hb, bp, bp'⟩
            show trf f (cxs Δ Γ0 (tAll B C), p, p') + 0 ≤ _
            omega
          · rw [if_neg hb1]
            exact Nat.zero_le _
        obtain ⟨k0, k1, k2⟩ := kr m x y z hm rfl
        have k0 := key 0 x x' (by decide) k0 oS.1 oT.1 dS.1 dT.1
        have k1 := key 1 y y' (by decide) k1 oS.2.1 oT.2.1 dS.2.1 dT.2.1
        have k2 := key 2 z z' (by decide) k2 oS.2.2 oT.2.2 dS.2.2 dT.2.2
        have et : trf (f + 1) (cxs Δ Γ0 (tAll B C), tRec m x y z, tRec m' x' y' z') = sumt (trf f) (stl (cxs Δ Γ0 (tAll B C)) m' 2 z z') + (sumt (trf f) (stl (cxs Δ Γ0 (tAll B C)) m' 1 y y') + sumt (trf f) (stl (cxs Δ Γ0 (tAll B C)) m' 0 x x')) := by
          rw [trf]
          simp only [e1]
          rw [r1, sumt_app, sumt_app]
          omega
        have p2 : pmz (qu e) false (oq (qu e) (cxs Δ Γ0 (tAll B D))) (tRec m' x' y' z') = (e + 0 * mis m') + (pmz (qu e) false (oq (qu e) (cxs Δ Γ0 (tAll B D))) x' + (pmz (qu e) false (oq (qu e) (cxs Δ Γ0 (tAll B D))) y' + pmz (qu e) false (oq (qu e) (cxs Δ Γ0 (tAll B D))) z')) := pmz_rec _ _ _ _
        rw [et, p2]
        omega
      · have oS := ok_fun.mp hS
        have oT := ok_fun.mp hT
        have dS := (cbd_fun _ _ _).mp bS
        have dT := (cbd_fun _ _ _).mp bT
        obtain ⟨k1, k2⟩ := kf a b rfl
        have i2 := side Δ b b' k2 ⟨⟨hc, oS.2, oT.2⟩, hb, dS.2, dT.2⟩
        have j1 := (ih Δ a a' k1 ⟨⟨hc, oS.1, oT.1⟩, hb, dS.1, dT.1⟩).1
        have et : trf (f + 1) (cxs Δ Γ0 (tAll B C), tFun a b, tFun a' b') = trf f (cxs Δ Γ0 (tAll B C), b, b') + (trf f (cxs Δ Γ0 (tAll B C), a', a) + 0) := by
          rw [trf]
          simp only [e1]
          rw [r1]
          show 0 + (trf f (cxs Δ Γ0 (tAll B C), b, b') + (trf f (cxs Δ Γ0 (tAll B C), a', a) + 0)) = _
          omega
        have p2 : pmz (qu e) false (oq (qu e) (cxs Δ Γ0 (tAll B D))) (tFun a' b') = e + (pmz (qu e) true (oq (qu e) (cxs Δ Γ0 (tAll B D))) a' + pmz (qu e) false (oq (qu e) (cxs Δ Γ0 (tAll B D))) b') := pmz_fun _ _ _
        rw [et, p2]
        omega
      · have t1 := TB_all (show TB e (cxs Δ Γ0 (tAll B C), tAll a b, tAll a b') from ⟨tk, hb, bS, bT⟩)
        have i2 := side (a :: Δ) b b' (ka a b rfl) t1
        have i2 : trf f (a :: cxs Δ Γ0 (tAll B C), b, b') ≤ pmz (qu e) false (oq (qu e) (a :: cxs Δ Γ0 (tAll B D))) b' := i2
        have et : trf (f + 1) (cxs Δ Γ0 (tAll B C), tAll a b, tAll a b') = 1 + (trf f (a :: cxs Δ Γ0 (tAll B C), b, b') + 0) := by
          rw [trf]
          simp only [e1]
          rw [r1]
          rfl
        have p2 : pmz (qu e) false (oq (qu e) (cxs Δ Γ0 (tAll B D))) (tAll a b') = (1 + e) + pmz (qu e) false (oq (qu e) (a :: cxs Δ Γ0 (tAll B D))) b' := pmz_all _ _ _
        rw [et, p2]
        omega
end PmU2
