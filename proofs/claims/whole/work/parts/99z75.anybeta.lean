/-! ANY BOUND OF A VARIABLE OF THE CONTEXT REPLACED BY ANOTHER ONE: what is old costs little against it. -/
section PmIa
variable (e : Nat) (β β' : Ty) (Γ0 : List Ty)
/-- what is old against the bound -/
def EWb (Δ : List Ty) (t : Ty) : Prop := trx (cxs Δ Γ0 β, upb Γ0 Δ β, t) ≤ pmz (qu e) true (oq (qu e) (cxs Δ Γ0 β')) (upb Γ0 Δ β') ∧ (¬ 16 ≤ hd t → gm (0, cxs Δ Γ0 β, t, upb Γ0 Δ β) + e ≤ urm false e 0 (cxs Δ Γ0 β') (upb Γ0 Δ β')) ∧ gm (0, cxs Δ Γ0 β, upb Γ0 Δ β, t) ≤ urm true e 0 (cxs Δ Γ0 β') (upb Γ0 Δ β')
def KPb (Kp : List Ty → Ty → Prop) : Prop := (ok Γ0.length β' = true ∧ hd β' ≠ 0) ∧ ∀ Δ t, Kp Δ t → (∀ a b, t = tFun a b → Kp Δ a ∧ Kp Δ b) ∧ (∀ m x y z, m < 8 → t = tRec m x y z → (bit m 0 = true → Kp Δ x) ∧ (bit m 1 = true → Kp Δ y) ∧ (bit m 2 = true → Kp Δ z)) ∧ (∀ a b, t = tAll a b → Kp (a :: Δ) b) ∧ (∀ j, t = tVar j → j < (cxs Δ Γ0 β).length → j ≠ Γ0.length ∧ Kp Δ (lft j ((cxs Δ Γ0 β).length - j) (bnd (cxs Δ Γ0 β) j))) ∧ (TB e (cxs Δ Γ0 β, t, upb Γ0 Δ β) → EWb e β β' Γ0 Δ t)
end PmIa
section PmIb
variable {e : Nat} {β β' : Ty} {Γ0 : List Ty} {Kp : List Ty → Ty → Prop}
theorem cyd_okc (oD : ok Γ0.length β' = true) : ∀ Δ : List Ty, okc (cxs Δ Γ0 β) → okc (cxs Δ Γ0 β')
  | [], q => ⟨oD, q.2⟩
  | a :: Δ, q => ⟨by show ok (cxs Δ Γ0 β').length a = true; rw [cxs_ll β' β]; exact q.1, cyd_okc oD Δ q.2⟩
theorem cyd_exp {Δ : List Ty} {k : Nat} (ne : k ≠ Γ0.length) : lft k ((cxs Δ Γ0 β).length - k) (bnd (cxs Δ Γ0 β) k) = lft k ((cxs Δ Γ0 β').length - k) (bnd (cxs Δ Γ0 β') k) := by
  rw [cxs_ll β β', cxs_other Γ0 β β' ne]
theorem trfB (K : KPb e β β' Γ0 Kp) : ∀ (f : Nat) (Δ : List Ty) (S T : Ty), Kp Δ S → TB e (cxs Δ Γ0 β, S, T) → trf f (cxs Δ Γ0 β, T, S) ≤ pmz (qu e) true (oq (qu e) (cxs Δ Γ0 β')) T ∧ (hd T ≠ 0 → trf f (cxs Δ Γ0 β, S, T) + e ≤ chn (cl (cxs Δ Γ0 β)) S + pmz (qu e) false (oq (qu e) (cxs Δ Γ0 β')) T)
  | 0, Δ, S, T, _, h => by
    refine ⟨Nat.zero_le _, fun h0 => ?_⟩
    have this : e ≤ pmz (qu e) false (oq (qu e) (cxs Δ Γ0 β')) T := qu_neg (show ok (cxs Δ Γ0 β).length T = true from h.1.2.2) h0
    show 0 + e ≤ _
    omega
  | f + 1, Δ, S, T, kS, h => by
    obtain ⟨tk, hb, bS, bT⟩ := h
    have hb : cbc e (cxs Δ Γ0 β) := hb
    have bS : cbd e (cl (cxs Δ Γ0 β)) S := bS
    have bT : cbd e (cl (cxs Δ Γ0 β)) T := bT
    have hc : okc (cxs Δ Γ0 β) := tk.1
    have hS : ok (cxs Δ Γ0 β).length S = true := tk.2.1
    have hT : ok (cxs Δ Γ0 β).length T = true := tk.2.2
    have hcD := cyd_okc (β := β) K.1.1 Δ hc
    have lD := cxs_ll (Γ0 := Γ0) (Δ := Δ) β' β
    have ih := fun Δ' S' T' => trfB K f Δ' S' T'
    have side : ∀ (Δ : List Ty) (A A' : Ty), Kp Δ A → TB e (cxs Δ Γ0 β, A, A') → trf f (cxs Δ Γ0 β, A, A') ≤ pmz (qu e) false (oq (qu e) (cxs Δ Γ0 β')) A' := by
      intro Δ A A' kA hz
      by_cases h0 : hd A' = 0
      · rw [trf_top f h0]; exact Nat.zero_le _
      · have a1 := (ih Δ A A' kA hz).2 h0
        have a2 := chn_le hz.1.1 hz.2.1 hz.1.2.1
        have a2 : chn (cl (cxs Δ Γ0 β)) A ≤ e := a2
        omega
    obtain ⟨kf, kr, ka, kv, -⟩ := K.2 Δ S kS
    refine ⟨?_, fun hT0 => ?_⟩
    · rcases stp_cases (show tok (cxs Δ Γ0 β, T, S) from ⟨hc, hT, hS⟩) with e1 | ⟨e1, r1⟩ | ⟨k, hk, rfl, hS0, e1, r1⟩ | ⟨m, x, y, z, m', x', y', z', hm, hm', rfl, rfl, e1, r1⟩ | ⟨a, b, a', b', rfl, rfl, e1, r1⟩ | ⟨a, b, b', rfl, rfl, e1, r1⟩
      · unfold trf
        simp only [e1]
        exact Nat.zero_le _
      · unfold trf
        simp only [e1]
        show rst T S + 0 ≤ _
        omega
      · obtain ⟨c1, c2, c3⟩ := cl_expose hc hb hk
        have t1 : TB e (cxs Δ Γ0 β, lft k ((cxs Δ Γ0 β).length - k) (bnd (cxs Δ Γ0 β) k), S) := ⟨⟨hc, ok_expose hc hk, hS⟩, hb, c2, bS⟩
        have ex := pmz_expose (qu e) hcD (show k < (cxs Δ Γ0 β').length by rw [lD]; exact hk)
        have q3 : qu e true 3 = 1 := rfl
        have et : trf (f + 1) (cxs Δ Γ0 β, tVar k, S) = 1 + (trf f (cxs Δ Γ0 β, lft k ((cxs Δ Γ0 β).length - k) (bnd (cxs Δ Γ0 β) k), S) + 0) := by
          rw [trf]
          simp only [e1]
          rw [r1]
          rfl
        rw [et, pmz_vt]
        by_cases ne : k = Γ0.length
        · subst ne
          rw [cxs_up] at t1 ex ⊢
          have q := Nat.le_trans (trf_trx t1.1 f) ((K.2 Δ S kS).2.2.2.2 (TB_sw t1)).1
          omega
        · have i1 := (ih Δ S _ kS (TB_sw t1)).1
          rw [← cyd_exp (β := β) ne] at ex
          omega
      · have oS := (ok_rec hm').mp hS
        have oT := (ok_rec hm).mp hT
        have dS := (cbd_rec _ _ _ _).mp bS
        have dT := (cbd_rec _ _ _ _).mp bT
        have hsub : ∀ g, g < 3 → bit m' g = true → bit m g = true := by
          by_cases n6 : m &&& m' = m'
          · have := (sub_bits m hm m' hm').mp n6
            intro g hg
            rcases (show g = 0 ∨ g = 1 ∨ g = 2 by omega) with rfl | rfl | rfl
            · exact this.1
            · exact this.2.1
            · exact this.2.2
          · exfalso
            have n3 : 8 ≤ hd (tRec m x y z) ∧ 8 ≤ hd (tRec m' x' y' z') ∧ hd (tRec m' x' y' z') < 16 := by rw [hd_rec, hd_rec]; omega
            have en : stp (cxs Δ Γ0 β) (tRec m x y z) (tRec m' x' y' z') = none := by
              unfold stp
              rw [if_neg (by rw [hd_rec, hd_rec]; omega), if_neg (by rw [hd_rec]; omega), if_pos n3, hd_rec, hd_rec, show 8 + m - 8 = m by omega, show 8 + m' - 8 = m' by omega, if_neg n6]
            rw [en] at e1
            cases e1
        have key : ∀ (g : Nat) (p p' : Ty), g < 3 → (bit m' g = true → Kp Δ p') → okl (cxs Δ Γ0 β).length m g p → okl (cxs Δ Γ0 β).length m' g p' → cbd e (cl (cxs Δ Γ0 β)) p → cbd e (cl (cxs Δ Γ0 β)) p' → sumt (trf f) (stl (cxs Δ Γ0 β) m' g p p') ≤ pmz (qu e) true (oq (qu e) (cxs Δ Γ0 β')) p := by
          intro g p p' hg kp hp hp' bp bp'
          unfold stl
          by_cases hb1 : bit m' g = true
          · rw [if_pos hb1]
            have tb : TB e (cxs Δ Γ0 β, p', p) := ⟨⟨hc, okl_on hp' (bit_iff.mp hb1), okl_on hp (bit_iff.mp (hsub g hg hb1))⟩, hb, bp', bp⟩
            have i1 := (ih Δ p' p (kp hb1) tb).1
            show trf f (cxs Δ Γ0 β, p, p') + 0 ≤ _
            omega
          · rw [if_neg hb1]
            exact Nat.zero_le _
        obtain ⟨k0, k1, k2⟩ := kr m' x' y' z' hm' rfl
        have k0 := key 0 x x' (by decide) k0 oT.1 oS.1 dT.1 dS.1
        have k1 := key 1 y y' (by decide) k1 oT.2.1 oS.2.1 dT.2.1 dS.2.1
        have k2 := key 2 z z' (by decide) k2 oT.2.2 oS.2.2 dT.2.2 dS.2.2
        have et : trf (f + 1) (cxs Δ Γ0 β, tRec m x y z, tRec m' x' y' z') = sumt (trf f) (stl (cxs Δ Γ0 β) m' 2 z z') + (sumt (trf f) (stl (cxs Δ Γ0 β) m' 1 y y') + sumt (trf f) (stl (cxs Δ Γ0 β) m' 0 x x')) := by
          rw [trf]
          simp only [e1]
          rw [r1, sumt_app, sumt_app]
          omega
        have p1 : pmz (qu e) true (oq (qu e) (cxs Δ Γ0 β')) (tRec m x y z) = (0 + 0 * mis m) + (pmz (qu e) true (oq (qu e) (cxs Δ Γ0 β')) x + (pmz (qu e) true (oq (qu e) (cxs Δ Γ0 β')) y + pmz (qu e) true (oq (qu e) (cxs Δ Γ0 β')) z)) := pmz_rec _ _ _ _
        rw [et, p1]
        omega
      · have oT := ok_fun.mp hT
        have oS := ok_fun.mp hS
        have dS := (cbd_fun _ _ _).mp bS
        have dT := (cbd_fun _ _ _).mp bT
        obtain ⟨k1, k2⟩ := kf a' b' rfl
        have i1 := (ih Δ b' b k2 ⟨⟨hc, oS.2, oT.2⟩, hb, dS.2, dT.2⟩).1
        have j2 := side Δ a' a k1 ⟨⟨hc, oS.1, oT.1⟩, hb, dS.1, dT.1⟩
        have et : trf (f + 1) (cxs Δ Γ0 β, tFun a b, tFun a' b') = trf f (cxs Δ Γ0 β, b, b') + (trf f (cxs Δ Γ0 β, a', a) + 0) := by
          rw [trf]
          simp only [e1]
          rw [r1]
          show 0 + (trf f (cxs Δ Γ0 β, b, b') + (trf f (cxs Δ Γ0 β, a', a) + 0)) = _
          omega
        have p1 : pmz (qu e) true (oq (qu e) (cxs Δ Γ0 β')) (tFun a b) = 0 + (pmz (qu e) false (oq (qu e) (cxs Δ Γ0 β')) a + pmz (qu e) true (oq (qu e) (cxs Δ Γ0 β')) b) := pmz_fun _ _ _
        rw [et, p1]
        omega
      · have tb : TB e (cxs Δ Γ0 β, tAll a b, tAll a b') := ⟨⟨hc, hT, hS⟩, hb, bT, bS⟩
        have t1 := TB_all tb
        have i1 := (ih (a :: Δ) b' b (ka a b' rfl) (TB_sw t1)).1
        have i1 : trf f (a :: cxs Δ Γ0 β, b, b') ≤ pmz (qu e) true (oq (qu e) (a :: cxs Δ Γ0 β')) b := i1
        have et : trf (f + 1) (cxs Δ Γ0 β, tAll a b, tAll a b') = 1 + (trf f (a :: cxs Δ Γ0 β, b, b') + 0) := by
          rw [trf]
          simp only [e1]
          rw [r1]
          rfl
        have p1 : pmz (qu e) true (oq (qu e) (cxs Δ Γ0 β')) (tAll a b) = 1 + pmz (qu e) true (oq (qu e) (a :: cxs Δ Γ0 β')) b := pmz_all _ _ _
        rw [et, p1]
        omega
    · have low := qu_neg (e := e) (ω := oq (qu e) (cxs Δ Γ0 β')) hT hT0
      rcases stp_cases tk with e1 | ⟨e1, r1⟩ | ⟨k, hk, rfl, hS0, e1, r1⟩ | ⟨m, x, y, z, m', x', y', z', hm, hm', rfl, rfl, e1, r1⟩ | ⟨a, b, a', b', rfl, rfl, e1, r1⟩ | ⟨a, b, b', rfl, rfl, e1, r1⟩
      · have e0 : trf (f + 1) (cxs Δ Γ0 β, S, T) = 0 := by
          unfold trf
          simp only [e1]
        rw [e0]; omega
      · have e0 : trf (f + 1) (cxs Δ Γ0 β, S, T) = 0 := by
          unfold trf
          simp only [e1]
          show rst S T + 0 = 0
          omega
        rw [e0]; omega
      · obtain ⟨c1, c2, c3⟩ := cl_expose hc hb hk
        have i1 := (ih Δ (lft k ((cxs Δ Γ0 β).length - k) (bnd (cxs Δ Γ0 β) k)) T (kv k rfl hk).2 ⟨⟨hc, ok_expose hc hk, hT⟩, hb, c2, bT⟩).2 hT0
        have ev : chn (cl (cxs Δ Γ0 β)) (tVar k) = vw (cl (cxs Δ Γ0 β)) k := by
          unfold chn
          rw [hd_var, if_pos (by omega), show 16 + k - 16 = k by omega]
        have et : trf (f + 1) (cxs Δ Γ0 β, tVar k, T) = 1 + (trf f (cxs Δ Γ0 β, lft k ((cxs Δ Γ0 β).length - k) (bnd (cxs Δ Γ0 β) k), T) + 0) := by
          rw [trf]
          simp only [e1]
          rw [r1]
          rfl
        rw [et, ev]
        omega
      · have oS := (ok_rec hm).mp hS
        have oT := (ok_rec hm').mp hT
        have dS := (cbd_rec _ _ _ _).mp bS
        have dT := (cbd_rec _ _ _ _).mp bT
        have hsub : ∀ g, g < 3 → bit m' g = true → bit m g = true := by
          by_cases n6 : m &&& m' = m'
          · have := (sub_bits m hm m' hm').mp n6
            intro g hg
            rcases (show g = 0 ∨ g = 1 ∨ g = 2 by omega) with rfl | rfl | rfl
            · exact this.1
            · exact this.2.1
            · exact this.2.2
          · exfalso
            have n3 : 8 ≤ hd (tRec m x y z) ∧ 8 ≤ hd (tRec m' x' y' z') ∧ hd (tRec m' x' y' z') < 16 := by rw [hd_rec, hd_rec]; omega
            have en : stp (cxs Δ Γ0 β) (tRec m x y z) (tRec m' x' y' z') = none := by
              unfold stp
              rw [if_neg (by rw [hd_rec, hd_rec]; omega), if_neg (by rw [hd_rec]; omega), if_pos n3, hd_rec, hd_rec, show 8 + m - 8 = m by omega, show 8 + m' - 8 = m' by omega, if_neg n6]
            rw [en] at e1
            cases e1
        have key : ∀ (g : Nat) (p p' : Ty), g < 3 → (bit m g = true → Kp Δ p) → okl (cxs Δ Γ0 β).length m g p → okl (cxs Δ Γ0 β).length m' g p' → cbd e (cl (cxs Δ Γ0 β)) p → cbd e (cl (cxs Δ Γ0 β)) p' → sumt (trf f) (stl (cxs Δ Γ0 β) m' g p p') ≤ pmz (qu e) false (oq (qu e) (cxs Δ Γ0 β')) p' := by
          intro g p p' hg kp hp hp' bp bp'
          unfold stl
          by_cases hb1 : bit m' g = true
          · rw [if_pos hb1]
            have i2 := side Δ p p' (kp (hsub g hg hb1)) ⟨⟨hc, okl_on hp (bit_iff.mp (hsub g hg hb1)), okl_on hp' (bit_iff.mp hb1)⟩, hb, bp, bp'⟩
            show trf f (cxs Δ Γ0 β, p, p') + 0 ≤ _
            omega
          · rw [if_neg hb1]
            exact Nat.zero_le _
        obtain ⟨k0, k1, k2⟩ := kr m x y z hm rfl
        have k0 := key 0 x x' (by decide) k0 oS.1 oT.1 dS.1 dT.1
        have k1 := key 1 y y' (by decide) k1 oS.2.1 oT.2.1 dS.2.1 dT.2.1
        have k2 := key 2 z z' (by decide) k2 oS.2.2 oT.2.2 dS.2.2 dT.2.2
        have et : trf (f + 1) (cxs Δ Γ0 β, tRec m x y z, tRec m' x' y' z') = sumt (trf f) (stl (cxs Δ Γ0 β) m' 2 z z') + (sumt (trf f) (stl (cxs Δ Γ0 β) m' 1 y y') + sumt (trf f) (stl (cxs Δ Γ0 β) m' 0 x x')) := by
          rw [trf]
          simp only [e1]
          rw [r1, sumt_app, sumt_app]
          omega
        have p2 : pmz (qu e) false (oq (qu e) (cxs Δ Γ0 β')) (tRec m' x' y' z') = (e + 0 * mis m') + (pmz (qu e) false (oq (qu e) (cxs Δ Γ0 β')) x' + (pmz (qu e) false (oq (qu e) (cxs Δ Γ0 β')) y' + pmz (qu e) false (oq (qu e) (cxs Δ Γ0 β')) z')) := pmz_rec _ _ _ _
        rw [et, p2]
        omega
      · have oS := ok_fun.mp hS
        have oT := ok_fun.mp hT
        have dS := (cbd_fun _ _ _).mp bS
        have dT := (cbd_fun _ _ _).mp bT
        obtain ⟨k1, k2⟩ := kf a b rfl
        have i2 := side Δ b b' k2 ⟨⟨hc, oS.2, oT.2⟩, hb, dS.2, dT.2⟩
        have j1 := (ih Δ a a' k1 ⟨⟨hc, oS.1, oT.1⟩, hb, dS.1, dT.1⟩).1
        have et : trf (f + 1) (cxs Δ Γ0 β, tFun a b, tFun a' b') = trf f (cxs Δ Γ0 β, b, b') + (trf f (cxs Δ Γ0 β, a', a) + 0) := by
          rw [trf]
          simp only [e1]
          rw [r1]
          show 0 + (trf f (cxs Δ Γ0 β, b, b') + (trf f (cxs Δ Γ0 β, a', a) + 0)) = _
          omega
        have p2 : pmz (qu e) false (oq (qu e) (cxs Δ Γ0 β')) (tFun a' b') = e + (pmz (qu e) true (oq (qu e) (cxs Δ Γ0 β')) a' + pmz (qu e) false (oq (qu e) (cxs Δ Γ0 β')) b') := pmz_fun _ _ _
        rw [et, p2]
        omega
      · have t1 := TB_all (show TB e (cxs Δ Γ0 β, tAll a b, tAll a b') from ⟨tk, hb, bS, bT⟩)
        have i2 := side (a :: Δ) b b' (ka a b rfl) t1
        have i2 : trf f (a :: cxs Δ Γ0 β, b, b') ≤ pmz (qu e) false (oq (qu e) (a :: cxs Δ Γ0 β')) b' := i2
        have et : trf (f + 1) (cxs Δ Γ0 β, tAll a b, tAll a b') = 1 + (trf f (a :: cxs Δ Γ0 β, b, b') + 0) := by
          rw [trf]
          simp only [e1]
          rw [r1]
          rfl
        have p2 : pmz (qu e) false (oq (qu e) (cxs Δ Γ0 β')) (tAll a b') = (1 + e) + pmz (qu e) false (oq (qu e) (a :: cxs Δ Γ0 β')) b' := pmz_all _ _ _
        rw [et, p2]
        omega
end PmIb
section PmIc
variable {e : Nat} {β β' : Ty} {Γ0 : List Ty} {Kp : List Ty → Ty → Prop}
def UTb (e : Nat) (β β' : Ty) (Γ0 : List Ty) (w : Nat) (Δ : List Ty) (S T : Ty) : Nat := if hd T = 0 then 0 else urm false e w (cxs Δ Γ0 β') T - e + chn (cl (cxs Δ Γ0 β)) S
theorem UTb_le (K : KPb e β β' Γ0 Kp) (e1 : 1 ≤ e) {w : Nat} {Δ : List Ty} {S T : Ty} (h : TB e (cxs Δ Γ0 β, S, T)) : UTb e β β' Γ0 w Δ S T ≤ urm false e w (cxs Δ Γ0 β') T := by
  have hc : okc (cxs Δ Γ0 β) := h.1.1
  have hT : ok (cxs Δ Γ0 β).length T = true := h.1.2.2
  unfold UTb
  split
  · exact Nat.zero_le _
  · rename_i hn
    have a1 : chn (cl (cxs Δ Γ0 β)) S ≤ e := chn_le hc h.2.1 h.1.2.1
    have a2 := (urm_big (w := w) e1 (cyd_okc (β := β) K.1.1 Δ hc) (show ok (cxs Δ Γ0 β').length T = true by rw [cxs_ll β' β]; exact hT) hn).2
    omega
/-- what is old on the left -/
theorem gmB_T (K : KPb e β β' Γ0 Kp) (e1 : 1 ≤ e) : ∀ (f w : Nat) (Δ : List Ty) (S T : Ty), w ≤ 1 → Kp Δ S → TB e (cxs Δ Γ0 β, S, T) → gmf f (w, cxs Δ Γ0 β, S, T) ≤ UTb e β β' Γ0 w Δ S T
  | 0, _, _, _, _, _, _, _ => Nat.zero_le _
  | f + 1, w, Δ, S, T, w1, kS, tb => by
    have w2 : w ≠ 2 := by omega
    have tk : tok (cxs Δ Γ0 β, S, T) := tb.1
    have hb : cbc e (cxs Δ Γ0 β) := tb.2.1
    have hc : okc (cxs Δ Γ0 β) := tk.1
    have hS : ok (cxs Δ Γ0 β).length S = true := tk.2.1
    have hT : ok (cxs Δ Γ0 β).length T = true := tk.2.2
    have hcD := cyd_okc (β := β) K.1.1 Δ hc
    have lD := cxs_ll (Γ0 := Γ0) (Δ := Δ) β' β
    have hTD : ok (cxs Δ Γ0 β').length T = true := by rw [lD]; exact hT
    have tv := trfB K (twt (cxs Δ Γ0 β, S, T)) Δ S T kS tb
    have tv2 := trfB K (twt (cxs Δ Γ0 β, T, S)) Δ S T kS tb
    have tv1 : trx (cxs Δ Γ0 β, T, S) ≤ pmz (qu e) true (oq (qu e) (cxs Δ Γ0 β')) T := tv2.1
    have ih := fun w' Δ' S' T' => gmB_T K e1 f w' Δ' S' T'
    obtain ⟨kf, kr, ka, kv, -⟩ := K.2 Δ S kS
    have le := fun w' Δ' (S' T' : Ty) (h1 : w' ≤ 1) (h2 : Kp Δ' S') (h3 : TB e (cxs Δ' Γ0 β, S', T')) => Nat.le_trans (ih w' Δ' S' T' h1 h2 h3) (UTb_le K e1 h3)
    rw [gmf_succ f w2]
    by_cases h0 : hd T = 0
    · have e2 : T = tTop := by
        rcases ok_cases hT with h | ⟨k, hk, rfl⟩ | ⟨a', b', rfl, -, -⟩ | ⟨a', b', rfl, -, -⟩ | ⟨m, x, y, z, hm, rfl, -, -, -⟩
        · exact h
        · rw [hd_var] at h0; omega
        · rw [hd_fun] at h0; omega
        · rw [hd_all] at h0; omega
        · rw [hd_rec] at h0; omega
      have a0 : trx (cxs Δ Γ0 β, S, T) = 0 := trf_top _ h0
      have a1 : trx (cxs Δ Γ0 β, T, S) ≤ 0 := by
        have q := tv1
        rw [e2, pmz_top] at q
        rw [e2]
        exact q
      have tu : tru (cxs Δ Γ0 β, S, T) = 0 := by
        show max (trx _) (trx (cxs Δ Γ0 β, T, S)) = 0
        omega
      rw [gcs_of_bel (Or.inl (bel_top tk h0)), gro_bel (Or.inl (bel_top tk h0)), tu]
      exact Nat.zero_le _
    have big := urm_big (w := w) e1 hcD hTD h0
    have a2 : trx (cxs Δ Γ0 β, S, T) + e ≤ chn (cl (cxs Δ Γ0 β)) S + pmz (qu e) false (oq (qu e) (cxs Δ Γ0 β')) T := tv.2 h0
    have a3 := (qu_rows (b := false) e1 (decide (w = 0)) hcD hTD).1.2
    have a3 : pmz (qu e) false (oq (qu e) (cxs Δ Γ0 β')) T ≤ urm false e w (cxs Δ Γ0 β') T := a3
    have mus : UTb e β β' Γ0 w Δ S T = urm false e w (cxs Δ Γ0 β') T - e + chn (cl (cxs Δ Γ0 β)) S := if_neg h0
    have tu : tru (cxs Δ Γ0 β, S, T) ≤ UTb e β β' Γ0 w Δ S T := by
      rw [mus]
      refine Nat.max_le.mpr ⟨?_, ?_⟩
      · show trx (cxs Δ Γ0 β, S, T) ≤ _
        omega
      · show trx (cxs Δ Γ0 β, T, S) ≤ _
        omega
    refine Nat.max_le.mpr ⟨tu, ?_⟩
    have kids := tb.gcs w2 (by omega)
    have f2 : ∀ z : Gz, z.1 = 2 → gmf f z = 0 := fun z h => gmf_two f h
    rw [mus]
    rcases gcs_cases (w := w) tk w2 with ⟨g1, g2, -⟩ | ⟨q1, k, hk, rfl, g1, g2, -⟩ | ⟨q1, n1, k, hk, rfl, g1, g2, -⟩ | ⟨m, X0, X1, X2, m', Y0, Y1, Y2, hm, hm', rfl, rfl, g1, g2, -⟩ | ⟨A, F, A', F', rfl, rfl, g1, g2, -⟩ | ⟨A, F, F', rfl, rfl, g1, g2, -⟩
    · rw [g1]
      show gro (w, cxs Δ Γ0 β, S, T) + 0 ≤ _
      omega
    · have w0 : w = 0 := by omega
      subst w0
      have t1 := (kids _ (by rw [g1]; exact List.mem_cons_self ..)).1
      have i1 := ih 0 Δ _ T w1 (kv k rfl hk).2 t1
      have m1 : UTb e β β' Γ0 0 Δ (lft k ((cxs Δ Γ0 β).length - k) (bnd (cxs Δ Γ0 β) k)) T = urm false e 0 (cxs Δ Γ0 β') T - e + chn (cl (cxs Δ Γ0 β)) (lft k ((cxs Δ Γ0 β).length - k) (bnd (cxs Δ Γ0 β) k)) := if_neg h0
      have a5 := (cl_expose hc hb hk).1
      rw [g1, g2, chn_var]
      show 1 + (gmf f (0, cxs Δ Γ0 β, lft k ((cxs Δ Γ0 β).length - k) (bnd (cxs Δ Γ0 β) k), T) + 0) ≤ _
      omega
    · have w0 : w = 0 := by omega
      subst w0
      have t1 := (kids _ (by rw [g1]; exact List.mem_cons_self ..)).1
      have t1 : TB e (cxs Δ Γ0 β, S, lft k ((cxs Δ Γ0 β).length - k) (bnd (cxs Δ Γ0 β) k)) := t1
      have ex : urm false e 0 (cxs Δ Γ0 β') (tVar k) = 1 + max e (urm false e 0 (cxs Δ Γ0 β') (lft k ((cxs Δ Γ0 β').length - k) (bnd (cxs Δ Γ0 β') k))) := (mrz_vt _ _ _).trans (oz_expose false e hcD (by rw [lD]; exact hk))
      rw [g1, g2, chn_no n1]
      show 1 + (gmf f (0, cxs Δ Γ0 β, S, lft k ((cxs Δ Γ0 β).length - k) (bnd (cxs Δ Γ0 β) k)) + 0) ≤ _
      by_cases ne : k = Γ0.length
      · subst ne
        rw [cxs_up] at t1 ex ⊢
        have q := Nat.le_trans (Nat.add_le_add_right (gmf_gm (z := (0, cxs Δ Γ0 β, S, upb Γ0 Δ β)) t1.1 f) e) (((K.2 Δ S kS).2.2.2.2 t1).2.1 n1)
        omega
      · have i1 := ih 0 Δ S _ w1 kS t1
        rw [← cyd_exp (β := β) ne] at ex
        have m1 : UTb e β β' Γ0 0 Δ S (lft k ((cxs Δ Γ0 β).length - k) (bnd (cxs Δ Γ0 β) k)) ≤ urm false e 0 (cxs Δ Γ0 β') (lft k ((cxs Δ Γ0 β).length - k) (bnd (cxs Δ Γ0 β) k)) - e := by
          unfold UTb
          split
          · exact Nat.zero_le _
          · rw [chn_no n1]; exact Nat.le_refl _
        omega
    · have oS := (ok_rec hm).mp hS
      have oT := (ok_rec hm').mp hT
      have dS := (cbd_rec _ _ _ _).mp tb.2.2.1
      have dT := (cbd_rec _ _ _ _).mp tb.2.2.2
      obtain ⟨r0, r1, r2'⟩ := kr m X0 X1 X2 hm rfl
      rw [g1, g2, sgl_app, sgl_app, chn_no (by rw [hd_rec]; omega)]
      have k0 := gzl_s (w := w) (f := gmf f) (g := fun _ => 0) (g' := urm false e w (cxs Δ Γ0 β')) (Γ := cxs Δ Γ0 β) (X := X0) (Y := Y0) hm hm' (show 0 < 3 by decide) w2 f2 (fun b1 b2 => by rw [Nat.zero_add]; exact le w Δ X0 Y0 w1 (r0 b1) ⟨⟨hc, okl_on oS.1 (bit_iff.mp b1), okl_on oT.1 (bit_iff.mp b2)⟩, hb, dS.1, dT.1⟩)
      have k1 := gzl_s (w := w) (f := gmf f) (g := fun _ => 0) (g' := urm false e w (cxs Δ Γ0 β')) (Γ := cxs Δ Γ0 β) (X := X1) (Y := Y1) hm hm' (show 1 < 3 by decide) w2 f2 (fun b1 b2 => by rw [Nat.zero_add]; exact le w Δ X1 Y1 w1 (r1 b1) ⟨⟨hc, okl_on oS.2.1 (bit_iff.mp b1), okl_on oT.2.1 (bit_iff.mp b2)⟩, hb, dS.2.1, dT.2.1⟩)
      have k2 := gzl_s (w := w) (f := gmf f) (g := fun _ => 0) (g' := urm false e w (cxs Δ Γ0 β')) (Γ := cxs Δ Γ0 β) (X := X2) (Y := Y2) hm hm' (show 2 < 3 by decide) w2 f2 (fun b1 b2 => by rw [Nat.zero_add]; exact le w Δ X2 Y2 w1 (r2' b1) ⟨⟨hc, okl_on oS.2.2 (bit_iff.mp b1), okl_on oT.2.2 (bit_iff.mp b2)⟩, hb, dS.2.2, dT.2.2⟩)
      have p3 : urm false e w (cxs Δ Γ0 β') (tRec m' Y0 Y1 Y2) = (1 + e) + (urm false e w (cxs Δ Γ0 β') Y0 + (urm false e w (cxs Δ Γ0 β') Y1 + urm false e w (cxs Δ Γ0 β') Y2)) := mrz_rec _ _ _ _ _
      rw [p3]
      rw [Nat.zero_add] at k0 k1 k2
      omega
    · have oS := ok_fun.mp hS
      have oT := ok_fun.mp hT
      have dS := (cbd_fun _ _ _).mp tb.2.2.1
      have dT := (cbd_fun _ _ _).mp tb.2.2.2
      obtain ⟨k1, k2⟩ := kf A F rfl
      rw [g1, g2, chn_no (by rw [hd_fun]; omega)]
      show 1 + (gmf f (1 - w, cxs Δ Γ0 β, A, A') + (gmf f (w, cxs Δ Γ0 β, F, F') + 0)) ≤ _
      have a1 := le (1 - w) Δ A A' (by omega) k1 ⟨⟨hc, oS.1, oT.1⟩, hb, dS.1, dT.1⟩
      have a2 := le w Δ F F' w1 k2 ⟨⟨hc, oS.2, oT.2⟩, hb, dS.2, dT.2⟩
      have ed : (decide (1 - w = 0)) = !(decide (w = 0)) := by
        rcases (show w = 0 ∨ w = 1 by omega) with rfl | rfl <;> rfl
      have p3 : urm false e w (cxs Δ Γ0 β') (tFun A' F') = (1 + e) + (urm false e (1 - w) (cxs Δ Γ0 β') A' + urm false e w (cxs Δ Γ0 β') F') := by
        unfold urm
        rw [mrz_fun, ed]
      rw [p3]
      omega
    · have a2 := le w (A :: Δ) F F' w1 (ka A F rfl) (TB_all tb)
      have a2 : gmf f (w, A :: cxs Δ Γ0 β, F, F') ≤ urm false e w (A :: cxs Δ Γ0 β') F' := a2
      rw [g1, g2, chn_no (by rw [hd_all]; omega)]
      show 2 + (gmf f (w, A :: cxs Δ Γ0 β, F, F') + 0) ≤ _
      have p3 : urm false e w (cxs Δ Γ0 β') (tAll A F') = (2 + e) + urm false e w (A :: cxs Δ Γ0 β') F' := mrz_all _ _ _ _
      rw [p3]
      omega
end PmIc
section PmId
variable {e : Nat} {β β' : Ty} {Γ0 : List Ty} {Kp : List Ty → Ty → Prop}
def UQb (e : Nat) (β β' : Ty) (Γ0 : List Ty) (w : Nat) (Δ : List Ty) (T S : Ty) : Nat := if hd T = 0 ∨ 16 ≤ hd T then urm true e w (cxs Δ Γ0 β') T else urm true e w (cxs Δ Γ0 β') T - e + chn (cl (cxs Δ Γ0 β)) S
theorem UQb_le (K : KPb e β β' Γ0 Kp) (e1 : 1 ≤ e) {w : Nat} {Δ : List Ty} {T S : Ty} (h : TB e (cxs Δ Γ0 β, T, S)) : UQb e β β' Γ0 w Δ T S ≤ urm true e w (cxs Δ Γ0 β') T := by
  have hc : okc (cxs Δ Γ0 β) := h.1.1
  have hT : ok (cxs Δ Γ0 β).length T = true := h.1.2.1
  unfold UQb
  split
  · exact Nat.le_refl _
  · rename_i hn
    have a1 : chn (cl (cxs Δ Γ0 β)) S ≤ e := chn_le hc h.2.1 h.1.2.2
    have a2 := ((qu_rows (b := true) e1 (decide (w = 0)) (cyd_okc (β := β) K.1.1 Δ hc) (show ok (cxs Δ Γ0 β').length T = true by rw [cxs_ll β' β]; exact hT)).2 (fun e0 => hn (Or.inl e0)) (by omega)).1
    have a2 : pmz (qu e) true (oq (qu e) (cxs Δ Γ0 β')) T + 1 + e ≤ urm true e w (cxs Δ Γ0 β') T := a2
    omega
/-- what is old on the right -/
theorem gmB_S (K : KPb e β β' Γ0 Kp) (e1 : 1 ≤ e) : ∀ (f w : Nat) (Δ : List Ty) (T S : Ty), w ≤ 1 → Kp Δ S → TB e (cxs Δ Γ0 β, T, S) → gmf f (w, cxs Δ Γ0 β, T, S) ≤ UQb e β β' Γ0 w Δ T S
  | 0, _, _, _, _, _, _, _ => Nat.zero_le _
  | f + 1, w, Δ, T, S, w1, kS, tb => by
    have w2 : w ≠ 2 := by omega
    have tk : tok (cxs Δ Γ0 β, T, S) := tb.1
    have hb : cbc e (cxs Δ Γ0 β) := tb.2.1
    have hc : okc (cxs Δ Γ0 β) := tk.1
    have hT : ok (cxs Δ Γ0 β).length T = true := tk.2.1
    have hS : ok (cxs Δ Γ0 β).length S = true := tk.2.2
    have hcD := cyd_okc (β := β) K.1.1 Δ hc
    have lD := cxs_ll (Γ0 := Γ0) (Δ := Δ) β' β
    have hTD : ok (cxs Δ Γ0 β').length T = true := by rw [lD]; exact hT
    have tv := trfB K (twt (cxs Δ Γ0 β, S, T)) Δ S T kS (TB_sw tb)
    have tv2 := trfB K (twt (cxs Δ Γ0 β, T, S)) Δ S T kS (TB_sw tb)
    have tv1 : trx (cxs Δ Γ0 β, T, S) ≤ pmz (qu e) true (oq (qu e) (cxs Δ Γ0 β')) T := tv2.1
    have ih := fun w' Δ' T' S' => gmB_S K e1 f w' Δ' T' S'
    obtain ⟨kf, kr, ka, kv, -⟩ := K.2 Δ S kS
    have le := fun w' Δ' (T' S' : Ty) (h1 : w' ≤ 1) (h2 : Kp Δ' S') (h3 : TB e (cxs Δ' Γ0 β, T', S')) => Nat.le_trans (ih w' Δ' T' S' h1 h2 h3) (UQb_le K e1 h3)
    have q := qu_rows (b := true) e1 (decide (w = 0)) hcD hTD
    have qa : pmz (qu e) true (oq (qu e) (cxs Δ Γ0 β')) T ≤ urm true e w (cxs Δ Γ0 β') T := q.1.1
    have qb : pmz (qu e) false (oq (qu e) (cxs Δ Γ0 β')) T ≤ urm true e w (cxs Δ Γ0 β') T := q.1.2
    have lowS : chn (cl (cxs Δ Γ0 β)) S ≤ e := chn_le hc hb hS
    have mu0 : hd T = 0 → UQb e β β' Γ0 w Δ T S = urm true e w (cxs Δ Γ0 β') T := fun h0 => if_pos (Or.inl h0)
    have muv : 16 ≤ hd T → UQb e β β' Γ0 w Δ T S = urm true e w (cxs Δ Γ0 β') T := fun h0 => if_pos (Or.inr h0)
    have mus : hd T ≠ 0 → hd T < 16 → UQb e β β' Γ0 w Δ T S = urm true e w (cxs Δ Γ0 β') T - e + chn (cl (cxs Δ Γ0 β)) S := fun h0 h1 => if_neg (fun hh => hh.elim h0 (fun h2 => by omega))
    have t2 : hd T ≠ 0 → trx (cxs Δ Γ0 β, S, T) + e ≤ chn (cl (cxs Δ Γ0 β)) S + pmz (qu e) false (oq (qu e) (cxs Δ Γ0 β')) T := tv.2
    rw [gmf_succ f w2]
    have tu : tru (cxs Δ Γ0 β, T, S) ≤ UQb e β β' Γ0 w Δ T S := by
      refine Nat.max_le.mpr ⟨?_, ?_⟩
      · show trx (cxs Δ Γ0 β, T, S) ≤ _
        by_cases h0 : hd T = 0
        · rw [mu0 h0]; omega
        by_cases h1 : 16 ≤ hd T
        · rw [muv h1]; omega
        · rw [mus h0 (by omega)]
          have := (q.2 h0 (by omega)).1
          have this : pmz (qu e) true (oq (qu e) (cxs Δ Γ0 β')) T + 1 + e ≤ urm true e w (cxs Δ Γ0 β') T := this
          omega
      · show trx (cxs Δ Γ0 β, S, T) ≤ _
        by_cases h0 : hd T = 0
        · exact Nat.le_trans (Nat.le_of_eq (trf_top _ h0)) (Nat.zero_le _)
        have a2 := t2 h0
        by_cases h1 : 16 ≤ hd T
        · rw [muv h1]; omega
        · rw [mus h0 (by omega)]
          have := (q.2 h0 (by omega)).2
          have this : pmz (qu e) false (oq (qu e) (cxs Δ Γ0 β')) T + 1 ≤ urm true e w (cxs Δ Γ0 β') T := this
          have a3 := qu_neg (e := e) (ω := oq (qu e) (cxs Δ Γ0 β')) hTD h0
          omega
    refine Nat.max_le.mpr ⟨tu, ?_⟩
    by_cases h0 : hd T = 0
    · have bt : bel (cxs Δ Γ0 β) S T = true := bel_top ⟨hc, hS, hT⟩ h0
      rw [gcs_of_bel (Or.inr bt), gro_bel (Or.inr bt)]
      exact Nat.zero_le _
    have kids := tb.gcs w2 (by omega)
    have f2 : ∀ z : Gz, z.1 = 2 → gmf f z = 0 := fun z h => gmf_two f h
    rcases gcs_cases (w := w) tk w2 with ⟨g1, g2, -⟩ | ⟨q1, k, hk, rfl, g1, g2, -⟩ | ⟨q1, n1, k, hk, rfl, g1, g2, -⟩ | ⟨m, X0, X1, X2, m', Y0, Y1, Y2, hm, hm', rfl, rfl, g1, g2, -⟩ | ⟨A, F, A', F', rfl, rfl, g1, g2, -⟩ | ⟨A, F, F', rfl, rfl, g1, g2, -⟩
    · rw [g1]
      show gro (w, cxs Δ Γ0 β, T, S) + 0 ≤ _
      have a3 := qu_neg (e := e) (ω := oq (qu e) (cxs Δ Γ0 β')) hTD h0
      by_cases h1 : 16 ≤ hd T
      · rw [muv h1]; omega
      · rw [mus h0 (by omega)]
        have := (q.2 h0 (by omega)).2
        have this : pmz (qu e) false (oq (qu e) (cxs Δ Γ0 β')) T + 1 ≤ urm true e w (cxs Δ Γ0 β') T := this
        omega
    · have w0 : w = 0 := by omega
      subst w0
      have t1 := (kids _ (by rw [g1]; exact List.mem_cons_self ..)).1
      have t1 : TB e (cxs Δ Γ0 β, lft k ((cxs Δ Γ0 β).length - k) (bnd (cxs Δ Γ0 β) k), S) := t1
      have ex : urm true e 0 (cxs Δ Γ0 β') (tVar k) = max e (1 + urm true e 0 (cxs Δ Γ0 β') (lft k ((cxs Δ Γ0 β').length - k) (bnd (cxs Δ Γ0 β') k))) := (mrz_vt _ _ _).trans (oz_expose true e hcD (by rw [lD]; exact hk))
      rw [muv (by rw [hd_var]; omega), g1, g2]
      show 1 + (gmf f (0, cxs Δ Γ0 β, lft k ((cxs Δ Γ0 β).length - k) (bnd (cxs Δ Γ0 β) k), S) + 0) ≤ _
      by_cases ne : k = Γ0.length
      · subst ne
        rw [cxs_up] at t1 ex ⊢
        have qq := Nat.le_trans (gmf_gm (z := (0, cxs Δ Γ0 β, upb Γ0 Δ β, S)) t1.1 f) ((K.2 Δ S kS).2.2.2.2 (TB_sw t1)).2.2
        omega
      · have i1 := le 0 Δ _ S w1 kS t1
        rw [← cyd_exp (β := β) ne] at ex
        omega
    · have w0 : w = 0 := by omega
      subst w0
      have hs16 : hd T < 16 := by omega
      have t1 := (kids _ (by rw [g1]; exact List.mem_cons_self ..)).1
      have i1 := ih 0 Δ T _ w1 (kv k rfl hk).2 t1
      have m1 : UQb e β β' Γ0 0 Δ T (lft k ((cxs Δ Γ0 β).length - k) (bnd (cxs Δ Γ0 β) k)) = urm true e 0 (cxs Δ Γ0 β') T - e + chn (cl (cxs Δ Γ0 β)) (lft k ((cxs Δ Γ0 β).length - k) (bnd (cxs Δ Γ0 β) k)) := if_neg (fun hh => hh.elim h0 (fun h2 => by omega))
      have a5 := (cl_expose hc hb hk).1
      rw [mus h0 hs16, g1, g2, chn_var]
      show 1 + (gmf f (0, cxs Δ Γ0 β, T, lft k ((cxs Δ Γ0 β).length - k) (bnd (cxs Δ Γ0 β) k)) + 0) ≤ _
      omega
    · have oT := (ok_rec hm).mp hT
      have oS := (ok_rec hm').mp hS
      have dT := (cbd_rec _ _ _ _).mp tb.2.2.1
      have dS := (cbd_rec _ _ _ _).mp tb.2.2.2
      obtain ⟨r0, r1, r2'⟩ := kr m' Y0 Y1 Y2 hm' rfl
      rw [mus h0 (by rw [hd_rec]; omega), g1, g2, sgl_app, sgl_app, chn_no (by rw [hd_rec]; omega)]
      have k0 := gzl_s (w := w) (f := gmf f) (g := urm true e w (cxs Δ Γ0 β')) (g' := fun _ => 0) (Γ := cxs Δ Γ0 β) (X := X0) (Y := Y0) hm hm' (show 0 < 3 by decide) w2 f2 (fun b1 b2 => by rw [Nat.add_zero]; exact le w Δ X0 Y0 w1 (r0 b2) ⟨⟨hc, okl_on oT.1 (bit_iff.mp b1), okl_on oS.1 (bit_iff.mp b2)⟩, hb, dT.1, dS.1⟩)
      have k1 := gzl_s (w := w) (f := gmf f) (g := urm true e w (cxs Δ Γ0 β')) (g' := fun _ => 0) (Γ := cxs Δ Γ0 β) (X := X1) (Y := Y1) hm hm' (show 1 < 3 by decide) w2 f2 (fun b1 b2 => by rw [Nat.add_zero]; exact le w Δ X1 Y1 w1 (r1 b2) ⟨⟨hc, okl_on oT.2.1 (bit_iff.mp b1), okl_on oS.2.1 (bit_iff.mp b2)⟩, hb, dT.2.1, dS.2.1⟩)
      have k2 := gzl_s (w := w) (f := gmf f) (g := urm true e w (cxs Δ Γ0 β')) (g' := fun _ => 0) (Γ := cxs Δ Γ0 β) (X := X2) (Y := Y2) hm hm' (show 2 < 3 by decide) w2 f2 (fun b1 b2 => by rw [Nat.add_zero]; exact le w Δ X2 Y2 w1 (r2' b2) ⟨⟨hc, okl_on oT.2.2 (bit_iff.mp b1), okl_on oS.2.2 (bit_iff.mp b2)⟩, hb, dT.2.2, dS.2.2⟩)
      have p3 : urm true e w (cxs Δ Γ0 β') (tRec m X0 X1 X2) = (1 + e) + (urm true e w (cxs Δ Γ0 β') X0 + (urm true e w (cxs Δ Γ0 β') X1 + urm true e w (cxs Δ Γ0 β') X2)) := mrz_rec _ _ _ _ _
      rw [p3]
      rw [Nat.add_zero] at k0 k1 k2
      omega
    · have oT := ok_fun.mp hT
      have oS := ok_fun.mp hS
      have dT := (cbd_fun _ _ _).mp tb.2.2.1
      have dS := (cbd_fun _ _ _).mp tb.2.2.2
      obtain ⟨k1, k2⟩ := kf A' F' rfl
      rw [mus h0 (by rw [hd_fun]; omega), g1, g2, chn_no (by rw [hd_fun]; omega)]
      show 1 + (gmf f (1 - w, cxs Δ Γ0 β, A, A') + (gmf f (w, cxs Δ Γ0 β, F, F') + 0)) ≤ _
      have a1 := le (1 - w) Δ A A' (by omega) k1 ⟨⟨hc, oT.1, oS.1⟩, hb, dT.1, dS.1⟩
      have a2 := le w Δ F F' w1 k2 ⟨⟨hc, oT.2, oS.2⟩, hb, dT.2, dS.2⟩
      have ed : (decide (1 - w = 0)) = !(decide (w = 0)) := by
        rcases (show w = 0 ∨ w = 1 by omega) with rfl | rfl <;> rfl
      have p3 : urm true e w (cxs Δ Γ0 β') (tFun A F) = (1 + e) + (urm true e (1 - w) (cxs Δ Γ0 β') A + urm true e w (cxs Δ Γ0 β') F) := by
        unfold urm
        rw [mrz_fun, ed]
      rw [p3]
      omega
    · have a2 := le w (A :: Δ) F F' w1 (ka A F' rfl) (TB_all tb)
      have a2 : gmf f (w, A :: cxs Δ Γ0 β, F, F') ≤ urm true e w (A :: cxs Δ Γ0 β') F := a2
      rw [mus h0 (by rw [hd_all]; omega), g1, g2, chn_no (by rw [hd_all]; omega)]
      show 2 + (gmf f (w, A :: cxs Δ Γ0 β, F, F') + 0) ≤ _
      have p3 : urm true e w (cxs Δ Γ0 β') (tAll A F) = (2 + e) + urm true e w (A :: cxs Δ Γ0 β') F := mrz_all _ _ _ _
      rw [p3]
      omega
end PmId
/-- goals of what is old against the bound -/
def KGb (e : Nat) (β β' : Ty) (Γ0 : List Ty) (Kp : List Ty → Ty → Prop) : Prop := ∀ Δ t, Kp Δ t → TB e (cxs Δ Γ0 β, t, upb Γ0 Δ β) → gn (0, cxs Δ Γ0 β, t, upb Γ0 Δ β) ≤ gz (cxs Δ Γ0 β') (upb Γ0 Δ β') ∧ gn (0, cxs Δ Γ0 β, upb Γ0 Δ β, t) ≤ gz (cxs Δ Γ0 β') (upb Γ0 Δ β')
section PmIe
variable {e : Nat} {β β' : Ty} {Γ0 : List Ty} {Kp : List Ty → Ty → Prop}
/-- goals: what is old on either side -/
theorem gnB (K : KPb e β β' Γ0 Kp) (G : KGb e β β' Γ0 Kp) : ∀ (f w : Nat) (Δ : List Ty) (S T : Ty), w ≤ 1 → Kp Δ S → TB e (cxs Δ Γ0 β, S, T) → gnf f (w, cxs Δ Γ0 β, S, T) ≤ gz (cxs Δ Γ0 β') T ∧ gnf f (w, cxs Δ Γ0 β, T, S) ≤ gz (cxs Δ Γ0 β') T
  | 0, _, Δ, S, T, _, _, tk => by
    have := gz_pos (T := T) (cyd_okc (β := β) K.1.1 Δ tk.1.1) (by rw [cxs_ll β' β]; exact tk.1.2.2)
    exact ⟨this, this⟩
  | f + 1, w, Δ, S, T, w1, kS, tb => by
    have tk : tok (cxs Δ Γ0 β, S, T) := tb.1
    have hb : cbc e (cxs Δ Γ0 β) := tb.2.1
    have bS : cbd e (cl (cxs Δ Γ0 β)) S := tb.2.2.1
    have bT : cbd e (cl (cxs Δ Γ0 β)) T := tb.2.2.2
    have w2 : w ≠ 2 := by omega
    have hc : okc (cxs Δ Γ0 β) := tk.1
    have hS : ok (cxs Δ Γ0 β).length S = true := tk.2.1
    have hT : ok (cxs Δ Γ0 β).length T = true := tk.2.2
    have hcD := cyd_okc (β := β) K.1.1 Δ hc
    have lD := cxs_ll (Γ0 := Γ0) (Δ := Δ) β' β
    have pos : ∀ X : Ty, ok (cxs Δ Γ0 β).length X = true → 1 ≤ gz (cxs Δ Γ0 β') X := fun X o => gz_pos hcD (by rw [lD]; exact o)
    have oneT := pos T hT
    have ih := fun w' Δ' S' T' => gnB K G f w' Δ' S' T'
    obtain ⟨kf, kr, ka, kv, -⟩ := K.2 Δ S kS
    have ex : ∀ k, k < (cxs Δ Γ0 β).length → gz (cxs Δ Γ0 β') (tVar k) = gz (cxs Δ Γ0 β') (lft k ((cxs Δ Γ0 β').length - k) (bnd (cxs Δ Γ0 β') k)) := fun k hk => gz_var hcD (by rw [lD]; exact hk)
    have en : ∀ w Γ (X Y : Ty), gcs (w, Γ, X, Y) = [] → gno (w, Γ, X, Y) ≤ 1 := by
      intro w Γ X Y _
      unfold gno
      split
      · exact Nat.le_refl _
      · split
        · exact Nat.le_refl _
        · split
          · exact Nat.le_refl _
          · split <;> omega
    rw [gnf_succ f w2, gnf_succ f w2]
    refine ⟨?_, ?_⟩
    · rcases gcs_cases (w := w) tk w2 with ⟨g1, g2, g3⟩ | ⟨q1, k, hk, rfl, g1, g2, g3⟩ | ⟨q1, n1, k, hk, rfl, g1, g2, g3⟩ | ⟨m, X0, X1, X2, m', Y0, Y1, Y2, hm, hm', rfl, rfl, g1, g2, g3⟩ | ⟨A, F, A', F', rfl, rfl, g1, g2, g3⟩ | ⟨A, F, F', rfl, rfl, g1, g2, g3⟩
      · rw [g1, g3]
        show max 1 (1 + 0) ≤ _
        omega
      · have i1 := (ih w Δ _ T w1 (kv k rfl hk).2 ⟨⟨hc, ok_expose hc hk, hT⟩, hb, (cl_expose hc hb hk).2.1, bT⟩).1
        rw [g1, g3]
        show max 1 (0 + (gnf f (w, cxs Δ Γ0 β, lft k ((cxs Δ Γ0 β).length - k) (bnd (cxs Δ Γ0 β) k), T) + 0)) ≤ _
        omega
      · have w0 : w = 0 := by omega
        subst w0
        have ek := ex k hk
        rw [g1, g3]
        show max 1 (0 + (gnf f (0, cxs Δ Γ0 β, S, lft k ((cxs Δ Γ0 β).length - k) (bnd (cxs Δ Γ0 β) k)) + 0)) ≤ _
        by_cases ne : k = Γ0.length
        · subst ne
          rw [cxs_up] at ek ⊢
          have t1 := ok_expose hc hk
          rw [cxs_up] at t1
          have t2 := (cl_expose hc hb hk).2.1
          rw [cxs_up] at t2
          have q := Nat.le_trans (gnf_gn (z := (0, cxs Δ Γ0 β, S, upb Γ0 Δ β)) ⟨hc, hS, t1⟩ f) (G Δ S kS ⟨⟨hc, hS, t1⟩, hb, bS, t2⟩).1
          omega
        · have i1 := (ih 0 Δ S _ w1 kS ⟨⟨hc, hS, ok_expose hc hk⟩, hb, bS, (cl_expose hc hb hk).2.1⟩).1
          rw [← cyd_exp (β := β) ne] at ek
          omega
      · by_cases m0 : m' = 0
        · subst m0
          have bt : bel (cxs Δ Γ0 β) (tRec m X0 X1 X2) (tRec 0 Y0 Y1 Y2) = true := bel_rec0 hm tk
          have ge := gcs_of_bel (w := w) (Or.inl bt)
          have gl := en w (cxs Δ Γ0 β) (tRec m X0 X1 X2) (tRec 0 Y0 Y1 Y2) ge
          rw [ge]
          show max 1 (gno _ + 0) ≤ _
          omega
        have oS := (ok_rec hm).mp hS
        have oT := (ok_rec hm').mp hT
        have dS := (cbd_rec _ _ _ _).mp bS
        have dT := (cbd_rec _ _ _ _).mp bT
        obtain ⟨r0, r1, r2'⟩ := kr m X0 X1 X2 hm rfl
        rw [g1, g3, sgl_app, sgl_app, gz_rec]
        have k0 := gzl_oR (w := w) (f := f) (Γ := cxs Δ Γ0 β) (X := X0) (Y := Y0) (v := gz (cxs Δ Γ0 β') Y0) hm hm' (show 0 < 3 by decide) (fun b2 => pos _ (okl_on oT.1 (bit_iff.mp b2))) (fun b1 b2 => (ih w Δ X0 Y0 w1 (r0 b1) ⟨⟨hc, okl_on oS.1 (bit_iff.mp b1), okl_on oT.1 (bit_iff.mp b2)⟩, hb, dS.1, dT.1⟩).1)
        have k1 := gzl_oR (w := w) (f := f) (Γ := cxs Δ Γ0 β) (X := X1) (Y := Y1) (v := gz (cxs Δ Γ0 β') Y1) hm hm' (show 1 < 3 by decide) (fun b2 => pos _ (okl_on oT.2.1 (bit_iff.mp b2))) (fun b1 b2 => (ih w Δ X1 Y1 w1 (r1 b1) ⟨⟨hc, okl_on oS.2.1 (bit_iff.mp b1), okl_on oT.2.1 (bit_iff.mp b2)⟩, hb, dS.2.1, dT.2.1⟩).1)
        have k2 := gzl_oR (w := w) (f := f) (Γ := cxs Δ Γ0 β) (X := X2) (Y := Y2) (v := gz (cxs Δ Γ0 β') Y2) hm hm' (show 2 < 3 by decide) (fun b2 => pos _ (okl_on oT.2.2 (bit_iff.mp b2))) (fun b1 b2 => (ih w Δ X2 Y2 w1 (r2' b1) ⟨⟨hc, okl_on oS.2.2 (bit_iff.mp b1), okl_on oT.2.2 (bit_iff.mp b2)⟩, hb, dS.2.2, dT.2.2⟩).1)
        have ms := mis_sum m' hm' m0
        have ng : ngc (8 + m') = 1 + mis m' := by
          unfold ngc
          rw [if_neg (by omega), show 8 + m' - 8 = m' by omega]
        rw [ng]
        omega
      · have oS := ok_fun.mp hS
        have oT := ok_fun.mp hT
        have dS := (cbd_fun _ _ _).mp bS
        have dT := (cbd_fun _ _ _).mp bT
        obtain ⟨k1, k2⟩ := kf A F rfl
        have p1 := (ih (1 - w) Δ A A' (by omega) k1 ⟨⟨hc, oS.1, oT.1⟩, hb, dS.1, dT.1⟩).1
        have p2 := (ih w Δ F F' w1 k2 ⟨⟨hc, oS.2, oT.2⟩, hb, dS.2, dT.2⟩).1
        have n1 := ngc_one 1 (Or.inl rfl)
        rw [g1, g3, gz_fun]
        show max 1 (1 + (gnf f (1 - w, cxs Δ Γ0 β, A, A') + (gnf f (w, cxs Δ Γ0 β, F, F') + 0))) ≤ _
        omega
      · have p2 := (ih w (A :: Δ) F F' w1 (ka A F rfl) (TB_all tb)).1
        have p2 : gnf f (w, A :: cxs Δ Γ0 β, F, F') ≤ gz (A :: cxs Δ Γ0 β') F' := p2
        rw [g1, g3, gz_all]
        show max 1 (1 + (gnf f (w, A :: cxs Δ Γ0 β, F, F') + 0)) ≤ _
        omega
    · rcases gcs_cases (w := w) (show tok (cxs Δ Γ0 β, T, S) from ⟨hc, hT, hS⟩) w2 with ⟨g1, g2, g3⟩ | ⟨q1, k, hk, rfl, g1, g2, g3⟩ | ⟨q1, n1, k, hk, rfl, g1, g2, g3⟩ | ⟨m, X0, X1, X2, m', Y0, Y1, Y2, hm, hm', rfl, rfl, g1, g2, g3⟩ | ⟨A, F, A', F', rfl, rfl, g1, g2, g3⟩ | ⟨A, F, F', rfl, rfl, g1, g2, g3⟩
      · rw [g1, g3]
        show max 1 (1 + 0) ≤ _
        omega
      · have w0 : w = 0 := by omega
        subst w0
        have ek := ex k hk
        rw [g1, g3]
        show max 1 (0 + (gnf f (0, cxs Δ Γ0 β, lft k ((cxs Δ Γ0 β).length - k) (bnd (cxs Δ Γ0 β) k), S) + 0)) ≤ _
        by_cases ne : k = Γ0.length
        · subst ne
          rw [cxs_up] at ek ⊢
          have t1 := ok_expose hc hk
          rw [cxs_up] at t1
          have t2 := (cl_expose hc hb hk).2.1
          rw [cxs_up] at t2
          have q := Nat.le_trans (gnf_gn (z := (0, cxs Δ Γ0 β, upb Γ0 Δ β, S)) ⟨hc, t1, hS⟩ f) (G Δ S kS ⟨⟨hc, hS, t1⟩, hb, bS, t2⟩).2
          omega
        · have i1 := (ih 0 Δ S _ w1 kS ⟨⟨hc, hS, ok_expose hc hk⟩, hb, bS, (cl_expose hc hb hk).2.1⟩).2
          rw [← cyd_exp (β := β) ne] at ek
          omega
      · have i1 := (ih w Δ _ T w1 (kv k rfl hk).2 ⟨⟨hc, ok_expose hc hk, hT⟩, hb, (cl_expose hc hb hk).2.1, bT⟩).2
        rw [g1, g3]
        show max 1 (0 + (gnf f (w, cxs Δ Γ0 β, T, lft k ((cxs Δ Γ0 β).length - k) (bnd (cxs Δ Γ0 β) k)) + 0)) ≤ _
        omega
      · by_cases m0 : m = 0
        · subst m0
          have bt : bel (cxs Δ Γ0 β) (tRec m' Y0 Y1 Y2) (tRec 0 X0 X1 X2) = true := bel_rec0 hm' ⟨hc, hS, hT⟩
          have ge := gcs_of_bel (w := w) (S := tRec 0 X0 X1 X2) (T := tRec m' Y0 Y1 Y2) (Or.inr bt)
          have gl := en w (cxs Δ Γ0 β) (tRec 0 X0 X1 X2) (tRec m' Y0 Y1 Y2) ge
          rw [ge]
          show max 1 (gno _ + 0) ≤ _
          omega
        have oT := (ok_rec hm).mp hT
        have oS := (ok_rec hm').mp hS
        have dS := (cbd_rec _ _ _ _).mp bS
        have dT := (cbd_rec _ _ _ _).mp bT
        obtain ⟨r0, r1, r2'⟩ := kr m' Y0 Y1 Y2 hm' rfl
        rw [g1, g3, sgl_app, sgl_app, gz_rec]
        have k0 := gzl_oL (w := w) (f := f) (Γ := cxs Δ Γ0 β) (X := X0) (Y := Y0) (v := gz (cxs Δ Γ0 β') X0) hm hm' (show 0 < 3 by decide) (fun b2 => pos _ (okl_on oT.1 (bit_iff.mp b2))) (fun b1 b2 => (ih w Δ Y0 X0 w1 (r0 b2) ⟨⟨hc, okl_on oS.1 (bit_iff.mp b2), okl_on oT.1 (bit_iff.mp b1)⟩, hb, dS.1, dT.1⟩).2)
        have k1 := gzl_oL (w := w) (f := f) (Γ := cxs Δ Γ0 β) (X := X1) (Y := Y1) (v := gz (cxs Δ Γ0 β') X1) hm hm' (show 1 < 3 by decide) (fun b2 => pos _ (okl_on oT.2.1 (bit_iff.mp b2))) (fun b1 b2 => (ih w Δ Y1 X1 w1 (r1 b2) ⟨⟨hc, okl_on oS.2.1 (bit_iff.mp b2), okl_on oT.2.1 (bit_iff.mp b1)⟩, hb, dS.2.1, dT.2.1⟩).2)
        have k2 := gzl_oL (w := w) (f := f) (Γ := cxs Δ Γ0 β) (X := X2) (Y := Y2) (v := gz (cxs Δ Γ0 β') X2) hm hm' (show 2 < 3 by decide) (fun b2 => pos _ (okl_on oT.2.2 (bit_iff.mp b2))) (fun b1 b2 => (ih w Δ Y2 X2 w1 (r2' b2) ⟨⟨hc, okl_on oS.2.2 (bit_iff.mp b2), okl_on oT.2.2 (bit_iff.mp b1)⟩, hb, dS.2.2, dT.2.2⟩).2)
        have ms := mis_sum m hm m0
        have ng : ngc (8 + m) = 1 + mis m := by
          unfold ngc
          rw [if_neg (by omega), show 8 + m - 8 = m by omega]
        rw [ng]
        omega
      · have oT := ok_fun.mp hT
        have oS := ok_fun.mp hS
        have dS := (cbd_fun _ _ _).mp bS
        have dT := (cbd_fun _ _ _).mp bT
        obtain ⟨k1, k2⟩ := kf A' F' rfl
        have p1 := (ih (1 - w) Δ A' A (by omega) k1 ⟨⟨hc, oS.1, oT.1⟩, hb, dS.1, dT.1⟩).2
        have p2 := (ih w Δ F' F w1 k2 ⟨⟨hc, oS.2, oT.2⟩, hb, dS.2, dT.2⟩).2
        have n1 := ngc_one 1 (Or.inl rfl)
        rw [g1, g3, gz_fun]
        show max 1 (1 + (gnf f (1 - w, cxs Δ Γ0 β, A, A') + (gnf f (w, cxs Δ Γ0 β, F, F') + 0))) ≤ _
        omega
      · have t2 := TB_all (TB_sw tb)
        have p2 := (ih w (A :: Δ) F' F w1 (ka A F' rfl) (TB_sw t2)).2
        have p2 : gnf f (w, A :: cxs Δ Γ0 β, F, F') ≤ gz (A :: cxs Δ Γ0 β') F := p2
        rw [g1, g3, gz_all]
        show max 1 (1 + (gnf f (w, A :: cxs Δ Γ0 β, F, F') + 0)) ≤ _
        omega
end PmIe
