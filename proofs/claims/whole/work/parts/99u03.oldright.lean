/-! WHAT STANDS INSIDE A SCHEME OF THE CONTEXT, ON THE RIGHT: joins. -/
section PmU5
variable {e : Nat} {B C D : Ty} {Γ0 : List Ty} {Kp : List Ty → Ty → Prop}
def UQ (e : Nat) (B C D : Ty) (Γ0 : List Ty) (w : Nat) (Δ : List Ty) (T S : Ty) : Nat := if hd T = 0 ∨ 16 ≤ hd T then urm true e w (cxs Δ Γ0 (tAll B D)) T else urm true e w (cxs Δ Γ0 (tAll B D)) T - e + chn (cl (cxs Δ Γ0 (tAll B C))) S
theorem UQ_le (K : KPc e B C D Γ0 Kp) (e1 : 1 ≤ e) {w : Nat} {Δ : List Ty} {T S : Ty} (h : TB e (cxs Δ Γ0 (tAll B C), T, S)) : UQ e B C D Γ0 w Δ T S ≤ urm true e w (cxs Δ Γ0 (tAll B D)) T := by
  have hc : okc (cxs Δ Γ0 (tAll B C)) := h.1.1
  have hT : ok (cxs Δ Γ0 (tAll B C)).length T = true := h.1.2.1
  unfold UQ
  split
  · exact Nat.le_refl _
  · rename_i hn
    have a1 : chn (cl (cxs Δ Γ0 (tAll B C))) S ≤ e := chn_le hc h.2.1 h.1.2.2
    have a2 := ((qu_rows (b := true) e1 (decide (w = 0)) (cxd_okc (B := B) (C := C) K.1.1 Δ hc) (show ok (cxs Δ Γ0 (tAll B D)).length T = true by rw [cxs_ll (tAll B D) (tAll B C)]; exact hT)).2 (fun e0 => hn (Or.inl e0)) (by omega)).1
    have a2 : pmz (qu e) true (oq (qu e) (cxs Δ Γ0 (tAll B D))) T + 1 + e ≤ urm true e w (cxs Δ Γ0 (tAll B D)) T := a2
    omega
/-- what is old on the right -/
theorem gmV_S (K : KPc e B C D Γ0 Kp) (e1 : 1 ≤ e) : ∀ (f w : Nat) (Δ : List Ty) (T S : Ty), w ≤ 1 → Kp Δ S → TB e (cxs Δ Γ0 (tAll B C), T, S) → gmf f (w, cxs Δ Γ0 (tAll B C), T, S) ≤ UQ e B C D Γ0 w Δ T S
  | 0, _, _, _, _, _, _, _ => Nat.zero_le _
  | f + 1, w, Δ, T, S, w1, kS, tb => by
    have w2 : w ≠ 2 := by omega
    have tk : tok (cxs Δ Γ0 (tAll B C), T, S) := tb.1
    have hb : cbc e (cxs Δ Γ0 (tAll B C)) := tb.2.1
    have hc : okc (cxs Δ Γ0 (tAll B C)) := tk.1
    have hT : ok (cxs Δ Γ0 (tAll B C)).length T = true := tk.2.1
    have hS : ok (cxs Δ Γ0 (tAll B C)).length S = true := tk.2.2
    have hcD := cxd_okc (B := B) (C := C) K.1.1 Δ hc
    have lD := cxs_ll (Γ0 := Γ0) (Δ := Δ) (tAll B D) (tAll B C)
    have hTD : ok (cxs Δ Γ0 (tAll B D)).length T = true := by rw [lD]; exact hT
    have tv := trfV K (twt (cxs Δ Γ0 (tAll B C), S, T)) Δ S T kS (TB_sw tb)
    have tv2 := trfV K (twt (cxs Δ Γ0 (tAll B C), T, S)) Δ S T kS (TB_sw tb)
    have tv1 : trx (cxs Δ Γ0 (tAll B C), T, S) ≤ pmz (qu e) true (oq (qu e) (cxs Δ Γ0 (tAll B D))) T := tv2.1
    have ih := fun w' Δ' T' S' => gmV_S K e1 f w' Δ' T' S'
    obtain ⟨kf, kr, ka, kv, -⟩ := K.2 Δ S kS
    have le := fun w' Δ' (T' S' : Ty) (h1 : w' ≤ 1) (h2 : Kp Δ' S') (h3 : TB e (cxs Δ' Γ0 (tAll B C), T', S')) => Nat.le_trans (ih w' Δ' T' S' h1 h2 h3) (UQ_le K e1 h3)
    have q := qu_rows (b := true) e1 (decide (w = 0)) hcD hTD
    have qa : pmz (qu e) true (oq (qu e) (cxs Δ Γ0 (tAll B D))) T ≤ urm true e w (cxs Δ Γ0 (tAll B D)) T := q.1.1
    have qb : pmz (qu e) false (oq (qu e) (cxs Δ Γ0 (tAll B D))) T ≤ urm true e w (cxs Δ Γ0 (tAll B D)) T := q.1.2
    have lowS : chn (cl (cxs Δ Γ0 (tAll B C))) S ≤ e := chn_le hc hb hS
    have mu0 : hd T = 0 → UQ e B C D Γ0 w Δ T S = urm true e w (cxs Δ Γ0 (tAll B D)) T := fun h0 => if_pos (Or.inl h0)
    have muv : 16 ≤ hd T → UQ e B C D Γ0 w Δ T S = urm true e w (cxs Δ Γ0 (tAll B D)) T := fun h0 => if_pos (Or.inr h0)
    have mus : hd T ≠ 0 → hd T < 16 → UQ e B C D Γ0 w Δ T S = urm true e w (cxs Δ Γ0 (tAll B D)) T - e + chn (cl (cxs Δ Γ0 (tAll B C))) S := fun h0 h1 => if_neg (fun hh => hh.elim h0 (fun h2 => by omega))
    have t2 : hd T ≠ 0 → trx (cxs Δ Γ0 (tAll B C), S, T) + e ≤ chn (cl (cxs Δ Γ0 (tAll B C))) S + pmz (qu e) false (oq (qu e) (cxs Δ Γ0 (tAll B D))) T := tv.2
    rw [gmf_succ f w2]
    have tu : tru (cxs Δ Γ0 (tAll B C), T, S) ≤ UQ e B C D Γ0 w Δ T S := by
      refine Nat.max_le.mpr ⟨?_, ?_⟩
      · show trx (cxs Δ Γ0 (tAll B C), T, S) ≤ _
        by_cases h0 : hd T = 0
        · rw [mu0 h0]; omega
        by_cases h1 : 16 ≤ hd T
        · rw [muv h1]; omega
        · rw [mus h0 (by omega)]
          have := (q.2 h0 (by omega)).1
          have this : pmz (qu e) true (oq (qu e) (cxs Δ Γ0 (tAll B D))) T + 1 + e ≤ urm true e w (cxs Δ Γ0 (tAll B D)) T := this
          omega
      · show trx (cxs Δ Γ0 (tAll B C), S, T) ≤ _
        by_cases h0 : hd T = 0
        · exact Nat.le_trans (Nat.le_of_eq (trf_top _ h0)) (Nat.zero_le _)
        have a2 := t2 h0
        by_cases h1 : 16 ≤ hd T
        · rw [muv h1]; omega
        · rw [mus h0 (by omega)]
          have := (q.2 h0 (by omega)).2
          have this : pmz (qu e) false (oq (qu e) (cxs Δ Γ0 (tAll B D))) T + 1 ≤ urm true e w (cxs Δ Γ0 (tAll B D)) T := this
          have a3 := qu_neg (e := e) (ω := oq (qu e) (cxs Δ Γ0 (tAll B D))) hTD h0
          omega
    refine Nat.max_le.mpr ⟨tu, ?_⟩
    by_cases h0 : hd T = 0
    · have bt : bel (cxs Δ Γ0 (tAll B C)) S T = true := bel_top ⟨hc, hS, hT⟩ h0
      rw [gcs_of_bel (Or.inr bt), gro_bel (Or.inr bt)]
      exact Nat.zero_le _
    have kids := tb.gcs w2 (by omega)
    have f2 : ∀ z : Gz, z.1 = 2 → gmf f z = 0 := fun z h => gmf_two f h
    rcases gcs_cases (w := w) tk w2 with ⟨g1, g2, -⟩ | ⟨q1, k, hk, rfl, g1, g2, -⟩ | ⟨q1, n1, k, hk, rfl, g1, g2, -⟩ | ⟨m, X0, X1, X2, m', Y0, Y1, Y2, hm, hm', rfl, rfl, g1, g2, -⟩ | ⟨A, F, A', F', rfl, rfl, g1, g2, -⟩ | ⟨A, F, F', rfl, rfl, g1, g2, -⟩
    · rw [g1]
      show gro (w, cxs Δ Γ0 (tAll B C), T, S) + 0 ≤ _
      have a3 := qu_neg (e := e) (ω := oq (qu e) (cxs Δ Γ0 (tAll B D))) hTD h0
      by_cases h1 : 16 ≤ hd T
      · rw [muv h1]; omega
      · rw [mus h0 (by omega)]
        have := (q.2 h0 (by omega)).2
        have this : pmz (qu e) false (oq (qu e) (cxs Δ Γ0 (tAll B D))) T + 1 ≤ urm true e w (cxs Δ Γ0 (tAll B D)) T := this
        omega
    · have w0 : w = 0 := by omega
      subst w0
      have t1 := (kids _ (by rw [g1]; exact List.mem_cons_self ..)).1
      have t1 : TB e (cxs Δ Γ0 (tAll B C), lft k ((cxs Δ Γ0 (tAll B C)).length - k) (bnd (cxs Δ Γ0 (tAll B C)) k), S) := t1
      have ex : urm true e 0 (cxs Δ Γ0 (tAll B D)) (tVar k) = max e (1 + urm true e 0 (cxs Δ Γ0 (tAll B D)) (lft k ((cxs Δ Γ0 (tAll B D)).length - k) (bnd (cxs Δ Γ0 (tAll B D)) k))) := (mrz_vt _ _ _).trans (oz_expose true e hcD (by rw [lD]; exact hk))
      rw [muv (by rw [hd_var]; omega), g1, g2]
      show 1 + (gmf f (0, cxs Δ Γ0 (tAll B C), lft k ((cxs Δ Γ0 (tAll B C)).length - k) (bnd (cxs Δ Γ0 (tAll B C)) k), S) + 0) ≤ _
      by_cases ne : k = Γ0.length
      · subst ne
        rw [cxs_up] at t1 ex ⊢
        have qq := gmV_upL K e1 f Δ S kS t1
        rw [urm_D] at ex
        omega
      · have i1 := le 0 Δ _ S w1 kS t1
        rw [← cxd_exp (C := C) ne] at ex
        omega
    · have w0 : w = 0 := by omega
      subst w0
      have hs16 : hd T < 16 := by omega
      have t1 := (kids _ (by rw [g1]; exact List.mem_cons_self ..)).1
      have i1 := ih 0 Δ T _ w1 (kv k rfl hk).2 t1
      have m1 : UQ e B C D Γ0 0 Δ T (lft k ((cxs Δ Γ0 (tAll B C)).length - k) (bnd (cxs Δ Γ0 (tAll B C)) k)) = urm true e 0 (cxs Δ Γ0 (tAll B D)) T - e + chn (cl (cxs Δ Γ0 (tAll B C))) (lft k ((cxs Δ Γ0 (tAll B C)).length - k) (bnd (cxs Δ Γ0 (tAll B C)) k)) := if_neg (fun hh => hh.elim h0 (fun h2 => by omega))
      have a5 := (cl_expose hc hb hk).1
      rw [mus h0 hs16, g1, g2, chn_var]
      show 1 + (gmf f (0, cxs Δ Γ0 (tAll B C), T, lft k ((cxs Δ Γ0 (tAll B C)).length - k) (bnd (cxs Δ Γ0 (tAll B C)) k)) + 0) ≤ _
      omega
    · have oT := (ok_rec hm).mp hT
      have oS := (ok_rec hm').mp hS
      have dT := (cbd_rec _ _ _ _).mp tb.2.2.1
      have dS := (cbd_rec _ _ _ _).mp tb.2.2.2
      obtain ⟨r0, r1, r2'⟩ := kr m' Y0 Y1 Y2 hm' rfl
      rw [mus h0 (by rw [hd_rec]; omega), g1, g2, sgl_app, sgl_app, chn_no (by rw [hd_rec]; omega)]
      have k0 := gzl_s (w := w) (f := gmf f) (g := urm true e w (cxs Δ Γ0 (tAll B D))) (g' := fun _ => 0) (Γ := cxs Δ Γ0 (tAll B C)) (X := X0) (Y := Y0) hm hm' (show 0 < 3 by decide) w2 f2 (fun b1 b2 => by rw [Nat.add_zero]; exact le w Δ X0 Y0 w1 (r0 b2) ⟨⟨hc, okl_on oT.1 (bit_iff.mp b1), okl_on oS.1 (bit_iff.mp b2)⟩, hb, dT.1, dS.1⟩)
      have k1 := gzl_s (w := w) (f := gmf f) (g := urm true e w (cxs Δ Γ0 (tAll B D))) (g' := fun _ => 0) (Γ := cxs Δ Γ0 (tAll B C)) (X := X1) (Y := Y1) hm hm' (show 1 < 3 by decide) w2 f2 (fun b1 b2 => by rw [Nat.add_zero]; exact le w Δ X1 Y1 w1 (r1 b2) ⟨⟨hc, okl_on oT.2.1 (bit_iff.mp b1), okl_on oS.2.1 (bit_iff.mp b2)⟩, hb, dT.2.1, dS.2.1⟩)
      have k2 := gzl_s (w := w) (f := gmf f) (g := urm true e w (cxs Δ Γ0 (tAll B D))) (g' := fun _ => 0) (Γ := cxs Δ Γ0 (tAll B C)) (X := X2) (Y := Y2) hm hm' (show 2 < 3 by decide) w2 f2 (fun b1 b2 => by rw [Nat.add_zero]; exact le w Δ X2 Y2 w1 (r2' b2) ⟨⟨hc, okl_on oT.2.2 (bit_iff.mp b1), okl_on oS.2.2 (bit_iff.mp b2)⟩, hb, dT.2.2, dS.2.2⟩)
      have p3 : urm true e w (cxs Δ Γ0 (tAll B D)) (tRec m X0 X1 X2) = (1 + e) + (urm true e w (cxs Δ Γ0 (tAll B D)) X0 + (urm true e w (cxs Δ Γ0 (tAll B D)) X1 + urm true e w (cxs Δ Γ0 (tAll B D)) X2)) := mrz_rec _ _ _ _ _
      rw [p3]
      rw [Nat.add_zero] at k0 k1 k2
      omega
    · have oT := ok_fun.mp hT
      have oS := ok_fun.mp hS
      have dT := (cbd_fun _ _ _).mp tb.2.2.1
      have dS := (cbd_fun _ _ _).mp tb.2.2.2
      obtain ⟨k1, k2⟩ := kf A' F' rfl
      rw [mus h0 (by rw [hd_fun]; omega), g1, g2, chn_no (by rw [hd_fun]; omega)]
      show 1 + (gmf f (1 - w, cxs Δ Γ0 (tAll B C), A, A') + (gmf f (w, cxs Δ Γ0 (tAll B C), F, F') + 0)) ≤ _
      have a1 := le (1 - w) Δ A A' (by omega) k1 ⟨⟨hc, oT.1, oS.1⟩, hb, dT.1, dS.1⟩
      have a2 := le w Δ F F' w1 k2 ⟨⟨hc, oT.2, oS.2⟩, hb, dT.2, dS.2⟩
      have ed : (decide (1 - w = 0)) = !(decide (w = 0)) := by
        rcases (show w = 0 ∨ w = 1 by omega) with rfl | rfl <;> rfl
      have p3 : urm true e w (cxs Δ Γ0 (tAll B D)) (tFun A F) = (1 + e) + (urm true e (1 - w) (cxs Δ Γ0 (tAll B D)) A + urm true e w (cxs Δ Γ0 (tAll B D)) F) := by
        unfold urm
        rw [mrz_fun, ed]
      rw [p3]
      omega
    · have a2 := le w (A :: Δ) F F' w1 (ka A F' rfl) (TB_all tb)
      have a2 : gmf f (w, A :: cxs Δ Γ0 (tAll B C), F, F') ≤ urm true e w (A :: cxs Δ Γ0 (tAll B D)) F := a2
      rw [mus h0 (by rw [hd_all]; omega), g1, g2, chn_no (by rw [hd_all]; omega)]
      show 2 + (gmf f (w, A :: cxs Δ Γ0 (tAll B C), F, F') + 0) ≤ _
      have p3 : urm true e w (cxs Δ Γ0 (tAll B D)) (tAll A F) = (2 + e) + urm true e w (A :: cxs Δ Γ0 (tAll B D)) F := mrz_all _ _ _ _
      rw [p3]
      omega
end PmU5
