/-! CHOICES ANYWHERE, the very bound inside: forms of such bodies. ALL PAIRS WITHOUT ALIASES (pairn_all). -/
section PmZH1
variable {f : Nat} {t b b' B C : Ty} {Δ : List (Nat × Ty × Nat)}
theorem fl_f1 (oB : ok 0 B = true) (b1 : tch B = 1) (oC : ok 1 C = true) (k40 : tch C ≤ 40) (fl : sN B 0 1 C = true) : (∃ v ∈ frg xfa1 (tch C), xt 1 C ≤ v.1 ∧ xa 0 (fun _ => 1 + 1) 3 1 1 C ≤ v.2) ∧ ∃ v ∈ frg xfaq (tch C), xt 1 C ≤ v.1 ∧ xa 1 ngc 1 0 1 C ≤ v.2 := by
  have eB : B = tTop := by
    rcases two_txt oB (by omega) with e | ⟨j, hj, -⟩ | e
    · exact e
    · omega
    · rw [e] at b1; exact absurd b1 (by decide)
  rw [eB] at fl
  have hp := sN_phf _ C 1 (Nat.le_refl _) oC fl
  exact ⟨yv_R oC k40 hp, yv_G oC k40 hp⟩
theorem fl_f2 (oB : ok 0 B = true) (b2 : tch B = 2) (oC : ok 1 C = true) (k40 : tch C ≤ 40) (fl : sN B 0 1 C = true) : (∃ v ∈ frg sf12 (tch C), xt 1 C ≤ v.1 ∧ xa 0 (fun _ => 1 + 1) 3 1 1 C ≤ v.2) ∧ ∃ v ∈ frg sfq2 (tch C), xt 1 C ≤ v.1 ∧ xa 1 ngc 1 0 1 C ≤ v.2 := by
  have eB : B = tR0 := two_rec oB b2
  subst eB
  have sb := sN_r0 _ C 1 (Nat.le_refl _) oC fl
  have r := sb_rows (d := 1) oB (by decide) (by omega) (by omega) oC k40 sb
  have g := sb_goals (d := 1) oB (by decide) (by omega) (by omega) oC k40 sb
  rw [b2] at r g
  exact ⟨r, g⟩
theorem fl_1_27_13_1 (lb : LBd [] [] b b' B C) (ov : tch b - tch (tAll B C) = 0) (w : TWf f [b].length (Δ.map (fun a => a.1)) t) (he : TE [b] Δ) (nD : Δ ≠ []) (tn : TNo f t) (l1 : Δ.length ≤ 1) (ec : cch [b] = 27) (em : mch t = 13) (eB : tch B = 1) (eC : tch C = 18) (hb : cch [b] + dch Δ + 2 * mch t ≤ 58) (fl : sN B 0 1 C = true) : NtV [b] Δ f t 887 597 := by
  have oB := (ok_all.mp lb.1.2.1).1
  have oC := (ok_all.mp lb.1.2.1).2
  obtain ⟨fR, fG⟩ := fl_f1 oB eB oC (by omega) fl
  exact zone_jqo (Γ0 := []) (Δ1 := []) (VR := xfa1) (VG := xfaq) (LR := [[(25, 13, 114, 4, 0, 18)]]) (LG := [[(16, 13, 71, 4, 0, 18)]]) (cd := 5) fR fG lb w he nD tn l1 (K := 13) (La := 5) (by omega) (by omega) (by omega) (by omega) (Nat.zero_le _) (Nat.zero_le _) (by omega) (by omega) (by omega) (by omega) (by omega) (by rw [ov, eB, eC]; decide +kernel) (by rw [ov, eB, eC]; decide +kernel) (by rw [em]; decide +kernel) (by rw [em]; decide +kernel) (by omega) (by omega) (show cch [b] ≤ 47 by omega) (Nat.zero_le _) (by omega)
theorem fl_1_28_12_1 (lb : LBd [] [] b b' B C) (ov : tch b - tch (tAll B C) = 0) (w : TWf f [b].length (Δ.map (fun a => a.1)) t) (he : TE [b] Δ) (nD : Δ ≠ []) (tn : TNo f t) (l1 : Δ.length ≤ 1) (ec : cch [b] = 28) (em : mch t = 12) (eB : tch B = 1) (eC : tch C = 19) (hb : cch [b] + dch Δ + 2 * mch t ≤ 58) (fl : sN B 0 1 C = true) : NtV [b] Δ f t 887 597 := by
  have oB := (ok_all.mp lb.1.2.1).1
  have oC := (ok_all.mp lb.1.2.1).2
  obtain ⟨fR, fG⟩ := fl_f1 oB eB oC (by omega) fl
  exact zone_jqo (Γ0 := []) (Δ1 := []) (VR := xfa1) (VG := xfaq) (LR := [[(29, 14, 25, 4, 0, 19)]]) (LG := [[(16, 14, 16, 4, 0, 19)]]) (cd := 6) fR fG lb w he nD tn l1 (K := 14) (La := 4) (by omega) (by omega) (by omega) (by omega) (Nat.zero_le _) (Nat.zero_le _) (by omega) (by omega) (by omega) (by omega) (by omega) (by rw [ov, eB, eC]; decide +kernel) (by rw [ov, eB, eC]; decide +kernel) (by rw [em]; decide +kernel) (by rw [em]; decide +kernel) (by omega) (by omega) (show cch [b] ≤ 47 by omega) (Nat.zero_le _) (by omega)
theorem fl_1_29_12_1 (lb : LBd [] [] b b' B C) (ov : tch b - tch (tAll B C) = 0) (w : TWf f [b].length (Δ.map (fun a => a.1)) t) (he : TE [b] Δ) (nD : Δ ≠ []) (tn : TNo f t) (l1 : Δ.length ≤ 1) (ec : cch [b] = 29) (em : mch t = 12) (eB : tch B = 1) (eC : tch C = 20) (hb : cch [b] + dch Δ + 2 * mch t ≤ 58) (fl : sN B 0 1 C = true) : NtV [b] Δ f t 887 597 := by
  have oB := (ok_all.mp lb.1.2.1).1
  have oC := (ok_all.mp lb.1.2.1).2
  obtain ⟨fR, fG⟩ := fl_f1 oB eB oC (by omega) fl
  exact zone_jqo (Γ0 := []) (Δ1 := []) (VR := xfa1) (VG := xfaq) (LR := [[(31, 15, 27, 4, 0, 20)]]) (LG := [[(16, 15, 16, 4, 0, 20)]]) (cd := 5) fR fG lb w he nD tn l1 (K := 15) (La := 4) (by omega) (by omega) (by omega) (by omega) (Nat.zero_le _) (Nat.zero_le _) (by omega) (by omega) (by omega) (by omega) (by omega) (by rw [ov, eB, eC]; decide +kernel) (by rw [ov, eB, eC]; decide +kernel) (by rw [em]; decide +kernel) (by rw [em]; decide +kernel) (by omega) (by omega) (show cch [b] ≤ 47 by omega) (Nat.zero_le _) (by omega)
theorem fl_1_31_10_1 (lb : LBd [] [] b b' B C) (ov : tch b - tch (tAll B C) = 0) (w : TWf f [b].length (Δ.map (fun a => a.1)) t) (he : TE [b] Δ) (nD : Δ ≠ []) (tn : TNo f t) (l1 : Δ.length ≤ 1) (ec : cch [b] = 31) (em : mch t = 10) (eB : tch B = 1) (eC : tch C = 22) (hb : cch [b] + dch Δ + 2 * mch t ≤ 58) (fl : sN B 0 1 C = true) : NtV [b] Δ f t 887 597 := by
  have oB := (ok_all.mp lb.1.2.1).1
  have oC := (ok_all.mp lb.1.2.1).2
  obtain ⟨fR, fG⟩ := fl_f1 oB eB oC (by omega) fl
  exact zone_jqo (Γ0 := []) (Δ1 := []) (VR := xfa1) (VG := xfaq) (LR := [[(35, 17, 31, 5, 0, 22)]]) (LG := [[(20, 17, 18, 5, 0, 22)]]) (cd := 7) fR fG lb w he nD tn l1 (K := 17) (La := 3) (by omega) (by omega) (by omega) (by omega) (Nat.zero_le _) (Nat.zero_le _) (by omega) (by omega) (by omega) (by omega) (by omega) (by rw [ov, eB, eC]; decide +kernel) (by rw [ov, eB, eC]; decide +kernel) (by rw [em]; decide +kernel) (by rw [em]; decide +kernel) (by omega) (by omega) (show cch [b] ≤ 47 by omega) (Nat.zero_le _) (by omega)
theorem fl_1_31_11_1 (lb : LBd [] [] b b' B C) (ov : tch b - tch (tAll B C) = 0) (w : TWf f [b].length (Δ.map (fun a => a.1)) t) (he : TE [b] Δ) (nD : Δ ≠ []) (tn : TNo f t) (l1 : Δ.length ≤ 1) (ec : cch [b] = 31) (em : mch t = 11) (eB : tch B = 1) (eC : tch C = 22) (hb : cch [b] + dch Δ + 2 * mch t ≤ 58) (fl : sN B 0 1 C = true) : NtV [b] Δ f t 887 597 := by
  have oB := (ok_all.mp lb.1.2.1).1
  have oC := (ok_all.mp lb.1.2.1).2
  obtain ⟨fR, fG⟩ := fl_f1 oB eB oC (by omega) fl
  exact zone_jqo (Γ0 := []) (Δ1 := []) (VR := xfa1) (VG := xfaq) (LR := [[(35, 17, 31, 5, 0, 22)]]) (LG := [[(20, 17, 18, 5, 0, 22)]]) (cd := 5) fR fG lb w he nD tn l1 (K := 17) (La := 3) (by omega) (by omega) (by omega) (by omega) (Nat.zero_le _) (Nat.zero_le _) (by omega) (by omega) (by omega) (by omega) (by omega) (by rw [ov, eB, eC]; decide +kernel) (by rw [ov, eB, eC]; decide +kernel) (by rw [em]; decide +kernel) (by rw [em]; decide +kernel) (by omega) (by omega) (show cch [b] ≤ 47 by omega) (Nat.zero_le _) (by omega)
theorem fl_0_28_10_1 (lb : LBd [] [] b b' B C) (ov : tch b - tch (tAll B C) = 0) (w : TWf f [b].length (Δ.map (fun a => a.1)) t) (he : TE [b] Δ) (nD : Δ ≠ []) (ec : cch [b] = 28) (em : mch t = 10) (eB : tch B = 1) (eC : tch C = 19) (hb : cch [b] + dch Δ + 2 * mch t ≤ 58) (fl : sN B 0 1 C = true) : NtV [b] Δ f t 887 597 := by
  have oB := (ok_all.mp lb.1.2.1).1
  have oC := (ok_all.mp lb.1.2.1).2
  obtain ⟨fR, fG⟩ := fl_f1 oB eB oC (by omega) fl
  exact zone_jq (Γ0 := []) (Δ1 := []) (VR := xfa1) (VG := xfaq) (LR := [[(29, 14, 25, 4, 0, 19)]]) (LG := [[(16, 14, 14, 4, 0, 19)]]) (cd := 10) fR fG lb w he nD (K := 14) (La := 3) (by omega) (by omega) (by omega) (by omega) (Nat.zero_le _) (Nat.zero_le _) (by omega) (by omega) (by omega) (by omega) (by omega) (by rw [ov, eB, eC]; decide +kernel) (by rw [ov, eB, eC]; decide +kernel) (by rw [em]; decide +kernel) (by rw [em]; decide +kernel) (by omega) (by omega) (show cch [b] ≤ 47 by omega) (Nat.zero_le _) (by omega)
theorem fl_0_32_8_1 (lb : LBd [] [] b b' B C) (ov : tch b - tch (tAll B C) = 0) (w : TWf f [b].length (Δ.map (fun a => a.1)) t) (he : TE [b] Δ) (nD : Δ ≠ []) (ec : cch [b] = 32) (em : mch t = 8) (eB : tch B = 1) (eC : tch C = 23) (hb : cch [b] + dch Δ + 2 * mch t ≤ 58) (fl : sN B 0 1 C = true) : NtV [b] Δ f t 887 597 := by
  have oB := (ok_all.mp lb.1.2.1).1
  have oC := (ok_all.mp lb.1.2.1).2
  obtain ⟨fR, fG⟩ := fl_f1 oB eB oC (by omega) fl
  exact zone_jq (Γ0 := []) (Δ1 := []) (VR := xfa1) (VG := xfaq) (LR := [[(41, 18, 37, 6, 0, 23)]]) (LG := [[(21, 18, 19, 6, 0, 23)]]) (cd := 10) fR fG lb w he nD (K := 18) (La := 3) (by omega) (by omega) (by omega) (by omega) (Nat.zero_le _) (Nat.zero_le _) (by omega) (by omega) (by omega) (by omega) (by omega) (by rw [ov, eB, eC]; decide +kernel) (by rw [ov, eB, eC]; decide +kernel) (by rw [em]; decide +kernel) (by rw [em]; decide +kernel) (by omega) (by omega) (show cch [b] ≤ 47 by omega) (Nat.zero_le _) (by omega)
theorem fl_1_28_12_2 (lb : LBd [] [] b b' B C) (ov : tch b - tch (tAll B C) = 0) (w : TWf f [b].length (Δ.map (fun a => a.1)) t) (he : TE [b] Δ) (nD : Δ ≠ []) (tn : TNo f t) (l1 : Δ.length ≤ 1) (ec : cch [b] = 28) (em : mch t = 12) (eB : tch B = 2) (eC : tch C = 18) (hb : cch [b] + dch Δ + 2 * mch t ≤ 58) (fl : sN B 0 1 C = true) : NtV [b] Δ f t 887 597 := by
  have oB := (ok_all.mp lb.1.2.1).1
  have oC := (ok_all.mp lb.1.2.1).2
  obtain ⟨fR, fG⟩ := fl_f2 oB eB oC (by omega) fl
  exact zone_jqo (Γ0 := []) (Δ1 := []) (VR := sf12) (VG := sfq2) (LR := [[(23, 13, 19, 4, 0, 18)]]) (LG := [[(19, 13, 17, 4, 0, 18)]]) (cd := 6) fR fG lb w he nD tn l1 (K := 13) (La := 4) (by omega) (by omega) (by omega) (by omega) (Nat.zero_le _) (Nat.zero_le _) (by omega) (by omega) (by omega) (by omega) (by omega) (by rw [ov, eB, eC]; decide +kernel) (by rw [ov, eB, eC]; decide +kernel) (by rw [em]; decide +kernel) (by rw [em]; decide +kernel) (by omega) (by omega) (show cch [b] ≤ 47 by omega) (Nat.zero_le _) (by omega)
theorem fl_1_29_12_2 (lb : LBd [] [] b b' B C) (ov : tch b - tch (tAll B C) = 0) (w : TWf f [b].length (Δ.map (fun a => a.1)) t) (he : TE [b] Δ) (nD : Δ ≠ []) (tn : TNo f t) (l1 : Δ.length ≤ 1) (ec : cch [b] = 29) (em : mch t = 12) (eB : tch B = 2) (eC : tch C = 19) (hb : cch [b] + dch Δ + 2 * mch t ≤ 58) (fl : sN B 0 1 C = true) : NtV [b] Δ f t 887 597 := by
  have oB := (ok_all.mp lb.1.2.1).1
  have oC := (ok_all.mp lb.1.2.1).2
  obtain ⟨fR, fG⟩ := fl_f2 oB eB oC (by omega) fl
  exact zone_jqo (Γ0 := []) (Δ1 := []) (VR := sf12) (VG := sfq2) (LR := [[(27, 14, 23, 4, 0, 19)]]) (LG := [[(19, 14, 17, 4, 0, 19)]]) (cd := 5) fR fG lb w he nD tn l1 (K := 14) (La := 4) (by omega) (by omega) (by omega) (by omega) (Nat.zero_le _) (Nat.zero_le _) (by omega) (by omega) (by omega) (by omega) (by omega) (by rw [ov, eB, eC]; decide +kernel) (by rw [ov, eB, eC]; decide +kernel) (by rw [em]; decide +kernel) (by rw [em]; decide +kernel) (by omega) (by omega) (show cch [b] ≤ 47 by omega) (Nat.zero_le _) (by omega)
theorem fl_0_28_10_2 (lb : LBd [] [] b b' B C) (ov : tch b - tch (tAll B C) = 0) (w : TWf f [b].length (Δ.map (fun a => a.1)) t) (he : TE [b] Δ) (nD : Δ ≠ []) (ec : cch [b] = 28) (em : mch t = 10) (eB : tch B = 2) (eC : tch C = 18) (hb : cch [b] + dch Δ + 2 * mch t ≤ 58) (fl : sN B 0 1 C = true) : NtV [b] Δ f t 887 597 := by
  have oB := (ok_all.mp lb.1.2.1).1
  have oC := (ok_all.mp lb.1.2.1).2
  obtain ⟨fR, fG⟩ := fl_f2 oB eB oC (by omega) fl
  exact zone_jq (Γ0 := []) (Δ1 := []) (VR := sf12) (VG := sfq2) (LR := [[(23, 13, 19, 4, 0, 18)]]) (LG := [[(19, 13, 17, 4, 0, 18)]]) (cd := 10) fR fG lb w he nD (K := 13) (La := 3) (by omega) (by omega) (by omega) (by omega) (Nat.zero_le _) (Nat.zero_le _) (by omega) (by omega) (by omega) (by omega) (by omega) (by rw [ov, eB, eC]; decide +kernel) (by rw [ov, eB, eC]; decide +kernel) (by rw [em]; decide +kernel) (by rw [em]; decide +kernel) (by omega) (by omega) (show cch [b] ≤ 47 by omega) (Nat.zero_le _) (by omega)
theorem fl_2_27_15_1 (lb : LBd [] [] b b' B C) (ov : tch b - tch (tAll B C) = 0) (w : TWf f [b].length (Δ.map (fun a => a.1)) t) (he : TE [b] Δ) (tn : TNo f t) (nD : Δ = []) (ec : cch [b] = 27) (em : mch t = 15) (eB : tch B = 1) (eC : tch C = 18) (hb : cch [b] + dch Δ + 2 * mch t ≤ 58) (fl : sN B 0 1 C = true) : NtV [b] Δ f t 887 597 := by
  have oB := (ok_all.mp lb.1.2.1).1
  have oC := (ok_all.mp lb.1.2.1).2
  obtain ⟨fR, fG⟩ := fl_f1 oB eB oC (by omega) fl
  exact zone_jqn (Γ0 := []) (Δ1 := []) (VR := xfa1) (VG := xfaq) (LR := [[(25, 13, 114, 4, 0, 18)]]) (LG := [[(16, 13, 71, 4, 0, 18)]]) fR fG lb w he tn nD (K := 13) (La := 6) (by omega) (by omega) (by omega) (by omega) (Nat.zero_le _) (Nat.zero_le _) (by omega) (by omega) (by omega) (by omega) (by rw [ov, eB, eC]; decide +kernel) (by rw [ov, eB, eC]; decide +kernel) (by rw [em]; decide +kernel) (by rw [em]; decide +kernel) (by omega) (show cch [b] ≤ 47 by omega) (Nat.zero_le _)
theorem fl_2_28_15_1 (lb : LBd [] [] b b' B C) (ov : tch b - tch (tAll B C) = 0) (w : TWf f [b].length (Δ.map (fun a => a.1)) t) (he : TE [b] Δ) (tn : TNo f t) (nD : Δ = []) (ec : cch [b] = 28) (em : mch t = 15) (eB : tch B = 1) (eC : tch C = 19) (hb : cch [b] + dch Δ + 2 * mch t ≤ 58) (fl : sN B 0 1 C = true) : NtV [b] Δ f t 887 597 := by
  have oB := (ok_all.mp lb.1.2.1).1
  have oC := (ok_all.mp lb.1.2.1).2
  obtain ⟨fR, fG⟩ := fl_f1 oB eB oC (by omega) fl
  exact zone_jqn (Γ0 := []) (Δ1 := []) (VR := xfa1) (VG := xfaq) (LR := [[(29, 14, 135, 4, 0, 19)]]) (LG := [[(16, 14, 72, 4, 0, 19)]]) fR fG lb w he tn nD (K := 14) (La := 6) (by omega) (by omega) (by omega) (by omega) (Nat.zero_le _) (Nat.zero_le _) (by omega) (by omega) (by omega) (by omega) (by rw [ov, eB, eC]; decide +kernel) (by rw [ov, eB, eC]; decide +kernel) (by rw [em]; decide +kernel) (by rw [em]; decide +kernel) (by omega) (show cch [b] ≤ 47 by omega) (Nat.zero_le _)
/-- an instance of C is no Top-scheme -/
theorem no_tops (hc : okc [b]) (hv : noac [b]) (eb : b = tAll tTop C) (k : kdt C = 1 ∨ kdt C = 2 ∨ kdt C = 4) {T : Ty} (oT : ok 1 T = true) (t5 : tch T ≤ 5) (p q : Ty) (e : expo [b] [b].length T = tAll p q) (Q r : Ty) : expo [b] [b].length (sbt [b].length Q 0 q) ≠ tAll p r := by
  have ob : ok 0 b = true := hc.1
  have l1 : 0 < [b].length := Nat.zero_lt_one
  have nb := (hv 0 l1).1
  have nb : noal b = true := nb
  have low : ∀ F, ¬ 16 ≤ hd F → expo [b] [b].length F = F := fun F h => ex_n h
  have eT : T = tVar 0 := by
    rcases ok_cases oT with rfl | ⟨j, hj, rfl⟩ | ⟨x, y, rfl, -, -⟩ | ⟨x, y, rfl, ox, oy⟩ | ⟨m, x, y, z, hm, rfl, -⟩
    · rw [low _ (by decide)] at e
      have := congrArg hd e
      rw [hd_all] at this
      exact absurd this (by decide)
    · rw [show j = 0 by omega]
    · rw [low _ (by rw [hd_fun]; omega)] at e
      have := congrArg hd e
      rw [hd_all, hd_fun] at this
      omega
    · exfalso
      rw [tch_all] at t5
      have := tch_pos ox
      have := tch_pos oy
      omega
    · rw [low _ (by rw [hd_rec]; omega)] at e
      have := congrArg hd e
      rw [hd_all, hd_rec] at this
      omega
  rw [eT, (ex_v hc hv l1).1] at e
  have e : lft 0 1 b = tAll p q := e
  rw [eb, lft_all, lft_top] at e
  obtain ⟨e1, e2⟩ := all_inj e
  rw [← e1, ← e2]
  rw [eb] at ob
  have oC := (ok_all.mp ob).2
  intro h
  rcases kdt_cases oC with h1 | ⟨-, x, y, rfl, -, -⟩ | h1 | ⟨-, P, e9, rfl, hP, oP, -⟩ | ⟨-, m, x, y, z, hm, rfl, -⟩
  · omega
  · rw [lft_fun, sbt_fun, low _ (by rw [hd_fun]; omega)] at h
    have := congrArg hd h
    rw [hd_all, hd_fun] at this
    omega
  · omega
  · rw [lft_all, sbt_all, low _ (by rw [hd_all]; omega)] at h
    obtain ⟨h3, -⟩ := all_inj h
    have h4 := congrArg hd h3
    rcases ok_cases oP with rfl | ⟨j, hj, rfl⟩ | ⟨x, y, rfl, -, -⟩ | ⟨x, y, rfl, ox, oy⟩ | ⟨m, x, y, z, hm, rfl, -⟩
    · exact hP rfl
    · rw [eb, noal_all, Bool.and_eq_true, Bool.and_eq_true, noal_all, Bool.and_eq_true] at nb
      have h16 := of_decide_eq_true nb.2.2.1
      rw [hd_var] at h16
      omega
    · rw [lft_fun, sbt_fun, hd_fun] at h4; exact absurd h4 (by decide)
    · rw [lft_all, sbt_all, hd_all] at h4; exact absurd h4 (by decide)
    · rw [lft_rec hm, sbt_rec, hd_rec] at h4
      have h0 : hd tTop = 0 := rfl
      omega
  · rw [lft_rec hm, sbt_rec, low _ (by rw [hd_rec]; omega)] at h
    have := congrArg hd h
    rw [hd_all, hd_rec] at this
    omega
theorem fl_ten (hv : noac [b]) (lb : LBd [] [] b b' B C) (ov : tch b - tch (tAll B C) = 0) (h2 : hd b = 2) (w : TWf f [b].length (Δ.map (fun a => a.1)) t) (he : TE [b] Δ) (l1 : Δ.length = 1) (tn : TNo f t) (nc : ¬ CHo f t []) (ec : (cch [b] = 32 ∧ tch C = 23) ∨ (cch [b] = 33 ∧ tch C = 24)) (em : mch t = 10) (eB : tch B = 1) (hb : cch [b] + dch Δ + 2 * mch t ≤ 58) (fl : sN B 0 1 C = true) : NtV [b] Δ f t 887 597 := by
  have oB : ok 0 B = true := (ok_all.mp lb.1.2.1).1
  have oC : ok 1 C = true := (ok_all.mp lb.1.2.1).2
  have eT : B = tTop := by
    rcases two_txt oB (by omega) with e | ⟨j, hj, -⟩ | e
    · exact e
    · omega
    · rw [e] at eB; exact absurd eB (by decide)
  have fl' := fl
  rw [eT] at fl'
  have hp := sN_phf _ C 1 (Nat.le_refl _) oC fl'
  have eb : b = tAll tTop C := by
    rw [← eT]
    exact (lb_root lb he.1.1 h2).1
  obtain ⟨a0, ea⟩ : ∃ a0, Δ = [a0] := by
    match Δ, l1 with
    | [a], _ => exact ⟨a, rfl⟩
  by_cases k3 : kdt C = 3
  rotate_left
  · have k : kdt C = 1 ∨ kdt C = 2 ∨ kdt C = 4 := by
      have := kd_phf oC hp
      omega
    subst ea
    refine fun S hS => absurd hS (vac_ten1 he hv (fun p q e Q r _ _ => ?_) w tn nc (by omega))
    have d : dch [a0] = tch a0.2.1 + 4 := rfl
    obtain ⟨a1, a2, a3⟩ := he.2.2 a0 (List.mem_singleton.mpr rfl)
    refine no_tops he.1 hv eb k (T := lft a0.2.2 ([b].length - a0.2.2) a0.2.1) ?_ ?_ p q e Q r
    · have q := ok_lft a0.2.2 ([b].length - a0.2.2) a0.2.1 0 (by rw [Nat.add_zero]; exact a2)
      rw [Nat.add_zero, show a0.2.2 + ([b].length - a0.2.2) = 1 by have : [b].length = 1 := rfl; omega] at q
      exact q
    · rw [tch_lft a0.2.2 _ a0.2.1 a0.2.2 a2]
      omega
  obtain ⟨D, eD⟩ : ∃ D, C = tAll tTop D := by
    rcases kdt_cases oC with h | h | ⟨-, D, e, -⟩ | h | h
    · omega
    · omega
    · exact ⟨D, e⟩
    · omega
    · omega
  have nD : Δ ≠ [] := by rw [ea]; exact List.cons_ne_nil _ _
  obtain ⟨v, hv9, x1, x2⟩ := xk_top (n1 := fun _ => 1 + 1) xr1_ok (by decide) (tbs1 true).2.2.2.1 (tbs1 true).2.2.2.2.1 xkt1_ok oC (by omega) k3
  obtain ⟨v', hv', x1', x2'⟩ := xk_top (n1 := ngc) xrq_ok (by decide) tbsq.2.2.2.1 tbsq.2.2.2.2.1 xktq_ok oC (by omega) k3
  rcases ec with ⟨ec, eC⟩ | ⟨ec, eC⟩
  · exact zone_jqo (Γ0 := []) (Δ1 := []) (VR := xkt1) (VG := xktq) (LR := [[(35, 18, 31, 6, 0, 23)]]) (LG := [[(20, 18, 18, 6, 0, 23)]]) (cd := 6) ⟨v, hv9, x1, x2⟩ ⟨v', hv', x1', x2'⟩ lb w he nD tn (by omega) (K := 18) (La := 3) (by omega) (by omega) (by omega) (by omega) (Nat.zero_le _) (Nat.zero_le _) (by omega) (by omega) (by omega) (by omega) (by omega) (by rw [ov, eB, eC]; decide +kernel) (by rw [ov, eB, eC]; decide +kernel) (by rw [em]; decide +kernel) (by rw [em]; decide +kernel) (by omega) (by omega) (show cch [b] ≤ 47 by omega) (Nat.zero_le _) (by omega)
  · have tD : tch D = 19 := by
      rw [eD, tch_all, tch_top] at eC
      omega
    exact zone_jqo3 (Γ0 := []) (Δ1 := []) (VR := xkt1) (VG := xktq) (LR := [[(40, 19, 36, 6, 0, 21)]]) (LG := [[(25, 19, 23, 6, 0, 21)]]) (cd := 5) ⟨v, hv9, x1, x2⟩ ⟨v', hv', x1', x2'⟩ lb w he nD tn (by omega) (K := 19) (La := 3) (by omega) (by omega) (by omega) (by omega) (Nat.zero_le _) (Nat.zero_le _) (by omega) (by omega) (by omega) (by omega) (by omega) (k9 := 21) eD (by rw [tD]; decide +kernel) (by rw [tD]; decide +kernel) (by rw [ov, eB, eC]; decide +kernel) (by rw [ov, eB, eC]; decide +kernel) (by rw [em]; decide +kernel) (by rw [em]; decide +kernel) (by omega) (by omega) (show cch [b] ≤ 47 by omega) (Nat.zero_le _) (by omega)
end PmZH1
theorem inB_all {L : List (List (List (Nat × Nat × Nat)))} {P : Nat → Nat → Nat × Nat × Nat → Bool} (hL : ∀ c, c < 48 → ∀ m, m < 26 → (gB L c m).all (P c m) = true) {c m be k ov : Nat} (c48 : c < 48) (m26 : m < 26) (h : inB (gB L c m) be k ov 0 0 = true) : P c m (be, k, ov) = true := by
  unfold inB at h
  rw [Bool.and_eq_true, Bool.and_eq_true] at h
  obtain ⟨e, he9, z⟩ := List.any_eq_true.mp h.2.2
  simp only [Bool.and_eq_true] at z
  have z1 := Nat.eq_of_beq_eq_true z.1
  have z2 := Nat.eq_of_beq_eq_true z.2.1
  have z3 := Nat.eq_of_beq_eq_true z.2.2
  rw [z1, z2, z3]
  exact List.all_eq_true.mp (hL c c48 m m26) e he9
theorem fl_l2 : ∀ c, c < 48 → ∀ m, m < 26 → (gB bQn c m).all (fun e => decide (m < 8 ∨ e.2.1 < e.1 + 5 ∨ ¬ (e.1 = 1 ∧ m = 15) ∨ (e.1 = 1 ∧ e.2.1 = 18 ∧ e.2.2 = 0 ∧ c = 27 ∧ m = 15) ∨ (e.1 = 1 ∧ e.2.1 = 19 ∧ e.2.2 = 0 ∧ c = 28 ∧ m = 15))) = true := by decide +kernel
theorem fl_l1 : ∀ c, c < 48 → ∀ m, m < 26 → (gB bQo c m).all (fun e => decide (m < 8 ∨ e.2.1 < e.1 + 5 ∨ ¬ (e.1 = 1 ∨ (e.1 = 2 ∧ m = 12)) ∨ (e.1 = 1 ∧ e.2.1 = 18 ∧ e.2.2 = 0 ∧ c = 27 ∧ m = 13) ∨ (e.1 = 1 ∧ e.2.1 = 19 ∧ e.2.2 = 0 ∧ c = 28 ∧ m = 12) ∨ (e.1 = 1 ∧ e.2.1 = 20 ∧ e.2.2 = 0 ∧ c = 29 ∧ m = 12) ∨ (e.1 = 1 ∧ e.2.1 = 22 ∧ e.2.2 = 0 ∧ c = 31 ∧ m = 10) ∨ (e.1 = 1 ∧ e.2.1 = 22 ∧ e.2.2 = 0 ∧ c = 31 ∧ m = 11) ∨ (e.1 = 2 ∧ e.2.1 = 18 ∧ e.2.2 = 0 ∧ c = 28 ∧ m = 12) ∨ (e.1 = 2 ∧ e.2.1 = 19 ∧ e.2.2 = 0 ∧ c = 29 ∧ m = 12) ∨ (e.1 = 1 ∧ e.2.1 = 23 ∧ e.2.2 = 0 ∧ c = 32 ∧ m = 10) ∨ (e.1 = 1 ∧ e.2.1 = 24 ∧ e.2.2 = 0 ∧ c = 33 ∧ m = 10))) = true := by decide +kernel
theorem fl_l0 : ∀ c, c < 48 → ∀ m, m < 26 → (gB bQm c m).all (fun e => decide (m < 8 ∨ e.2.1 < e.1 + 5 ∨ ¬ (e.1 = 1 ∨ (e.1 = 2 ∧ m = 10)) ∨ (e.1 = 1 ∧ e.2.1 = 19 ∧ e.2.2 = 0 ∧ c = 28 ∧ m = 10) ∨ (e.1 = 1 ∧ e.2.1 = 23 ∧ e.2.2 = 0 ∧ c = 32 ∧ m = 8) ∨ (e.1 = 2 ∧ e.2.1 = 18 ∧ e.2.2 = 0 ∧ c = 28 ∧ m = 10))) = true := by decide +kernel
/-- ALL PAIRS WITHOUT ALIASES -/
theorem restAR9 : RESTAR9 := by
  intro f x y Γ Δ t H sh nc q
  have H' := H
  obtain ⟨hx9, hy9, ⟨he, hv, hd', h20, h47, nOne⟩, hb, nO, nPS, nPG, -⟩ := H'
  obtain ⟨⟨wt, nt, tt, m3', m3, n9⟩, pm, hbt⟩ := h9_t H sh
  have aux : ∀ (b b' B C : Ty), Γ = [b] → LBd [] [] b b' B C → sN B 0 1 C = true → tch B + 5 ≤ tch C ∧ noal b = true := by
    intro b b' B C eΓ lb fl
    have oB := (ok_all.mp lb.1.2.1).1
    refine ⟨sN_ch oB _ C 1 (Nat.le_refl _) (ok_all.mp lb.1.2.1).2 fl, ?_⟩
    have := (hv 0 (by rw [eΓ]; exact Nat.zero_lt_one)).1
    rw [eΓ] at this
    exact this
  have m8 := cho_min _ _ _ _ _ wt nc
  simp only [List.length_nil] at m8
  refine h9_ntv H sh ?_
  rcases q with ⟨eD, e15, b, b', B, C, eΓ, lb, nf, fl, k, q⟩ | ⟨b, b', B, C, eΓ, lb, nf, fl, ⟨l1, k, q⟩ | ⟨l2, k, q⟩⟩
  · obtain ⟨kC, -⟩ := aux b b' B C eΓ lb fl
    rw [eΓ] at q wt he h20 h47 hbt ⊢
    have p := of_decide_eq_true <| inB_all fl_l2 (by omega) (by omega) q
    rcases p with p | p | p | ⟨eB, eC, eO, ec, em⟩ | ⟨eB, eC, eO, ec, em⟩
    · exact absurd (show mch t < 8 from p) (by omega)
    · exact absurd (show tch C < tch B + 5 from p) (by omega)
    · exact absurd (show tch B = 1 ∧ mch t = 15 from ⟨k, e15⟩) p
    · exact fl_2_27_15_1 lb eO wt he tt eD ec em eB eC hbt fl
    · exact fl_2_28_15_1 lb eO wt he tt eD ec em eB eC hbt fl
  · obtain ⟨kC, nb⟩ := aux b b' B C eΓ lb fl
    rw [eΓ] at q wt he h20 h47 hbt hv ⊢
    have nD : Δ ≠ [] := by
      intro e
      rw [e] at l1
      cases l1
    have hr : tch b - tch (tAll B C) = 0 → hd b = 2 := fun eO => Classical.byContradiction (fun h2 => by
      have := ov_three lb.1 he.1.1 nf h2
      omega)
    have p := of_decide_eq_true <| inB_all fl_l1 (by omega) (by omega) q
    rcases p with p | p | p | ⟨eB, eC, eO, ec, em⟩ | ⟨eB, eC, eO, ec, em⟩ | ⟨eB, eC, eO, ec, em⟩ | ⟨eB, eC, eO, ec, em⟩ | ⟨eB, eC, eO, ec, em⟩ | ⟨eB, eC, eO, ec, em⟩ | ⟨eB, eC, eO, ec, em⟩ | ⟨eB, eC, eO, ec, em⟩ | ⟨eB, eC, eO, ec, em⟩
    · exact absurd (show mch t < 8 from p) (by omega)
    · exact absurd (show tch C < tch B + 5 from p) (by omega)
    · exact absurd (show tch B = 1 ∨ (tch B = 2 ∧ mch t = 12) from k) p
    · exact fl_1_27_13_1 lb eO wt he nD tt (by omega) ec em eB eC hbt fl
    · exact fl_1_28_12_1 lb eO wt he nD tt (by omega) ec em eB eC hbt fl
    · exact fl_1_29_12_1 lb eO wt he nD tt (by omega) ec em eB eC hbt fl
    · exact fl_1_31_10_1 lb eO wt he nD tt (by omega) ec em eB eC hbt fl
    · exact fl_1_31_11_1 lb eO wt he nD tt (by omega) ec em eB eC hbt fl
    · exact fl_1_28_12_2 lb eO wt he nD tt (by omega) ec em eB eC hbt fl
    · exact fl_1_29_12_2 lb eO wt he nD tt (by omega) ec em eB eC hbt fl
    · exact fl_ten hv lb eO (hr eO) wt he l1 tt nc (Or.inl ⟨ec, eC⟩) em eB hbt fl
    · exact fl_ten hv lb eO (hr eO) wt he l1 tt nc (Or.inr ⟨ec, eC⟩) em eB hbt fl
  · obtain ⟨kC, -⟩ := aux b b' B C eΓ lb fl
    rw [eΓ] at q wt he h20 h47 hbt ⊢
    have nD : Δ ≠ [] := by
      intro e
      rw [e] at l2
      exact absurd l2 (by decide)
    have p := of_decide_eq_true <| inB_all fl_l0 (by omega) (by omega) q
    rcases p with p | p | p | ⟨eB, eC, eO, ec, em⟩ | ⟨eB, eC, eO, ec, em⟩ | ⟨eB, eC, eO, ec, em⟩
    · exact absurd (show mch t < 8 from p) (by omega)
    · exact absurd (show tch C < tch B + 5 from p) (by omega)
    · exact absurd (show tch B = 1 ∨ (tch B = 2 ∧ mch t = 10) from k) p
    · exact fl_0_28_10_1 lb eO wt he nD ec em eB eC hbt fl
    · exact fl_0_32_8_1 lb eO wt he nD ec em eB eC hbt fl
    · exact fl_0_28_10_2 lb eO wt he nD ec em eB eC hbt fl
theorem pairn_all : PAIRn := pairn_qr restAR9
