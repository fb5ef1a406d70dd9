/-! THE CLASS: meetOfRecords. -/
/-- a part was found (node r), or it is wanting (-1) -/
def PU (M : pm_M) (Rf : Nat → Nat → Nat) (cn : Int) (N set g : Nat) (u : Ru) (r : Int) : Prop := (u = none ∧ r = -1) ∨ ∃ R, u = some R ∧ 0 ≤ r ∧ r < cn ∧ (bit set g = true → ndf M Rf cn N R r)
theorem PU.mono {M M' : pm_M} {Rf Rf' : Nat → Nat → Nat} {cn cn' : Int} {N set g : Nat} {u : Ru} {r : Int} (h : PU M Rf cn N set g u r) (e : ∀ g, g < 5 → ∀ i : Int, 0 ≤ i → i < cn → M' (Rf' 6 g) i = M (Rf 6 g) i) (hc : cn ≤ cn') : PU M' Rf' cn' N set g u r := by
  rcases h with h | ⟨R, h1, h2, h3, h4⟩
  · exact Or.inl h
  · exact Or.inr ⟨R, h1, h2, by omega, fun hb => ndf_mono e hc (Nat.le_refl _) (h4 hb)⟩
theorem ndf_rng {M : pm_M} {Rf : Nat → Nat → Nat} {cn : Int} {N : Nat} {t : Ty} {r : Int} (h : ndf M Rf cn N t r) : 0 ≤ r ∧ r < cn := by
  match N, h with
  | N + 1, h => exact ⟨h.1.1, h.1.2.1⟩
theorem or_bits : ∀ m, m < 8 → ∀ m', m' < 8 → ∀ g, g < 3 → (bit (lset 1 m m') g = true ↔ (bit m g = true ∨ bit m' g = true)) := by decide
/-- from what meetOfParts answers -/
theorem PU_meet {M : pm_M} {Rf : Nat → Nat → Nat} {cn r : Int} {F m m' g : Nat} {Γ : List Ty} {x y : Ty} {a b : Bool} (hm : m < 8) (hm' : m' < 8) (hg : g < 3) (ea : a = bit m g) (eb : b = bit m' g) (h1 : a = true → b = true → JR M Rf cn (16 + F) (cmu 1 Γ x y) r) (h2 : ¬ (a = true ∧ b = true) → (0 ≤ r ∧ r < cn) ∧ (a = true → ndf M Rf cn 16 x r) ∧ (b = true → ndf M Rf cn 16 y r)) : PU M Rf cn (16 + F) (lset 1 m m') g (upart (cmu 1 Γ) (lset 1 m m') m m' g x y) r := by
  subst ea eb
  have ob := or_bits m hm m' hm' g hg
  have idn : ∀ g, g < 5 → ∀ i : Int, 0 ≤ i → i < cn → M (Rf 6 g) i = M (Rf 6 g) i := fun _ _ _ _ _ => rfl
  unfold upart
  by_cases c1 : bit m g = true
  · rw [if_pos (ob.mpr (Or.inl c1)), if_pos c1]
    by_cases c2 : bit m' g = true
    · rw [if_pos c2]
      have j := h1 c1 c2
      cases e : cmu 1 Γ x y with
      | none => rw [e] at j; exact Or.inl ⟨rfl, j⟩
      | some R =>
        rw [e] at j
        have j : ndf M Rf cn (16 + F) R r := j
        exact Or.inr ⟨R, rfl, (ndf_rng j).1, (ndf_rng j).2, fun _ => j⟩
    · rw [if_neg c2]
      obtain ⟨q1, q2, -⟩ := h2 (fun e => c2 e.2)
      exact Or.inr ⟨x, rfl, q1.1, q1.2, fun _ => ndf_mono idn (Int.le_refl _) (by omega) (q2 c1)⟩
  · obtain ⟨q1, -, q3⟩ := h2 (fun e => c1 e.1)
    by_cases c2 : bit m' g = true
    · rw [if_pos (ob.mpr (Or.inr c2)), if_neg c1]
      exact Or.inr ⟨y, rfl, q1.1, q1.2, fun _ => ndf_mono idn (Int.le_refl _) (by omega) (q3 c2)⟩
    · have c3 : ¬ bit (lset 1 m m') g = true := fun e => by
        rcases ob.mp e with e | e
        · exact c1 e
        · exact c2 e
      rw [if_neg c3]
      exact Or.inr ⟨.nil, rfl, q1.1, q1.2, fun e => absurd e c3⟩
section PmC17
variable {d : Nat}
set_option maxRecDepth 20000 in
set_option maxHeartbeats 2000000 in
theorem c_meetRecs {F m m' : Nat} (IH : JC 1 55 d F) {Γ : List Ty} {X0 X1 X2 Y0 Y1 Y2 : Ty} {i j : Int} {deep : Nat} {M : pm_M} {Rf : Nat → Nat → Nat} {K L : Nat → Nat} {n s z : Nat} {cn : Int} {Q : Option Value → pm_S → Prop} (hm : m < 8) (hm' : m' < 8) (bh : BH M Rf K L n z cn Γ (tRec m X0 X1 X2) (tRec m' Y0 Y1 Y2) i j) (top : ndf M Rf cn 1 tTop 0) (nb : ¬ bel Γ (tRec m X0 X1 X2) (tRec m' Y0 Y1 Y2) = true) (nb' : ¬ bel Γ (tRec m' Y0 Y1 Y2) (tRec m X0 X1 X2) = true) (hh : hgt (oh Γ) (tRec m X0 X1 X2) + hgt (oh Γ) (tRec m' Y0 Y1 Y2) ≤ 2 * F + 2) (hc : cn + (nbm 1 Γ (tRec m X0 X1 X2) (tRec m' Y0 Y1 Y2) : Nat) + 16 * ((hgt (oh Γ) (tRec m X0 X1 X2) + hgt (oh Γ) (tRec m' Y0 Y1 Y2) : Nat) : Int) ≤ 16384) (hdp : deep + F + 1 ≤ 40) (hΓ : Γ.length + F ≤ 64) (hw : 17 * gn (1, Γ, tRec m X0 X1 X2, tRec m' Y0 Y1 Y2) ≤ 1000000) (h : ∀ (M' : pm_M) (Rf' : Nat → Nat → Nat) (K' L' : Nat → Nat) (n' s' z' : Nat) (cn' r : Int), CX (WB Γ.length) M Rf K L n s z cn M' Rf' K' L' n' s' z' → M' 6 6 = cn' → cn ≤ cn' → cn' ≤ cn + (nbm 1 Γ (tRec m X0 X1 X2) (tRec m' Y0 Y1 Y2) : Nat) → cn' ≤ z' → JR M' Rf' cn' (16 + F + 1) (cmu 1 Γ (tRec m X0 X1 X2) (tRec m' Y0 Y1 Y2)) r → Q (some (.int (zI r))) (zM M', Rf', K', L', n', s')) : pm_Wc (d + 8 * F + 92) 57 [.ref 6, .int (zI i), .int (zI j), .int (zI (Γ.length : Int)), .int (zI (deep : Int))] (zM M, Rf, K, L, n, s) Q := by
  obtain ⟨hG, hR, hM, hcn, c1, cz, tk, bn, nS, nT, lS, lT⟩ := bh
  have hn := hG.1
  have oS : ok Γ.length (tRec m X0 X1 X2) = true := tk.2.1
  have oT : ok Γ.length (tRec m' Y0 Y1 Y2) = true := tk.2.2
  have hcx : okc Γ := tk.1
  obtain ⟨p0, p1, p2⟩ := pt_rec hm X0 X1 X2
  obtain ⟨q0, q1, q2⟩ := pt_rec hm' Y0 Y1 Y2
  have hpS := hp_rec hm X0 X1 X2
  have hpT := hp_rec hm' Y0 Y1 Y2
  obtain ⟨oX0, oX1, oX2⟩ := (ok_rec hm).mp oS
  obtain ⟨oY0, oY1, oY2⟩ := (ok_rec hm').mp oT
  have ev := cu_rec (w := 1) hm hm' tk (by decide) nb nb'
  have tkb' : tkb 16 Γ (tRec m X0 X1 X2) (tRec m' Y0 Y1 Y2) := ⟨tk, fun k hk => (bn k hk).2, lS, lT⟩
  have h8 : lset 1 m m' < 8 := (or8 m hm m' hm').2
  have eor : (8 + m) ||| (8 + m') = 8 + lset 1 m m' := (or8 m hm m' hm').1
  have nbe := nbm_rec (w := 1) tk hm hm' (by decide) nb nb'
  have flS : (flat (tRec m X0 X1 X2)).length = 1 + ((flat X0).length + ((flat X1).length + (flat X2).length)) := by
    rw [flat_rec, List.length_cons, List.length_append, List.length_append]; omega
  have flT : (flat (tRec m' Y0 Y1 Y2)).length = 1 + ((flat Y0).length + ((flat Y1).length + (flat Y2).length)) := by
    rw [flat_rec, List.length_cons, List.length_append, List.length_append]; omega
  rw [flS] at lS
  rw [flT] at lT
  rw [hgt_rec, hgt_rec] at hh hc
  have hw0 := hw
  have hcc1 := hd_rec m X0 X1 X2
  have hcc2 := hd_rec m' Y0 Y1 Y2
  refine wc_in (ls0 := [some (.ref 6), some (.int (zI i)), some (.int (zI j)), some (.int (zI (Γ.length : Int))), some (.int (zI (deep : Int))), none, none, none]) (by decide) (Nat.le_of_ble_eq_true rfl) rfl rfl ?_
  refine wp_aload_n d57_0 rfl ?_
  refine wp_iload_n d57_1 rfl ?_
  refine wp_iload_n d57_2 rfl ?_
  refine wz_iconst d57_3 ?_
  refine wp_iload_n d57_4 rfl ?_
  refine wp_iload d57_5 rfl ?_
  refine wp_virt (as := [.int (zI (deep : Int)), .int (zI (Γ.length : Int)), .int (zI 0), .int (zI j), .int (zI i)]) (rest := []) d57_7 rfl rfl rfl (hG.o (by decide) rfl) rfl rfl (Nat.le_of_ble_eq_true rfl) ?_
  refine c_meetParts (g := 0) IH (by decide) hG hR hM hcn c1 cz hcx oS oT (fun hb => by rw [hpS 0 (by decide)] at hb; rw [p0]; exact okl_on oX0 (bit_iff.mp hb)) (fun hb => by rw [hpT 0 (by decide)] at hb; rw [q0]; exact okl_on oY0 (bit_iff.mp hb)) top bn nS nT (by rw [p0]; omega) (by rw [q0]; omega) (by rw [p0, q0]; omega) (by rw [p0, q0]; omega) hdp hΓ (fun hb1 hb2 => Nat.le_trans (Nat.mul_le_mul_left 17 (gn_part (w := 1) tk hm hm' (by decide) nb nb' (by decide) hb1 hb2)) hw) (fun M1 R1 K1 L1 n1 s1 z1 cn1 x cx1 u1 u2 u3 u4 a1 a2 => ?_)
  rw [p0, q0] at a1 a2
  have P0 := PU_meet hm hm' (by decide) (hpS 0 (by decide)) (hpT 0 (by decide)) a1 a2
  clear a1 a2
  refine wp_istore d57_10 (Nat.le_of_ble_eq_true rfl) rfl ?_
  refine wp_aload_n d57_12 rfl ?_
  refine wp_iload_n d57_13 rfl ?_
  refine wp_iload_n d57_14 rfl ?_
  refine wz_iconst d57_15 ?_
  refine wp_iload_n d57_16 rfl ?_
  refine wp_iload d57_17 rfl ?_
  refine wp_virt (as := [.int (zI (deep : Int)), .int (zI (Γ.length : Int)), .int (zI 1), .int (zI j), .int (zI i)]) (rest := []) d57_19 rfl rfl rfl (cx1.g.o (by decide) rfl) rfl rfl (Nat.le_of_ble_eq_true rfl) ?_
  refine c_meetParts (g := 1) IH (by decide) cx1.g cx1.r cx1.r32 u1 (by omega) u4 hcx oS oT (fun hb => by rw [hpS 1 (by decide)] at hb; rw [p1]; exact okl_on oX1 (bit_iff.mp hb)) (fun hb => by rw [hpT 1 (by decide)] at hb; rw [q1]; exact okl_on oY1 (bit_iff.mp hb)) (ndf_mono cx1.nodes u2 (Nat.le_refl _) top) (cx1.bn hR hn (Nat.le_refl _) u2 bn) (ndf_mono cx1.nodes u2 (Nat.le_refl _) nS) (ndf_mono cx1.nodes u2 (Nat.le_refl _) nT) (by rw [p1]; omega) (by rw [q1]; omega) (by rw [p1, q1]; omega) (by rw [p1, q1]; omega) hdp hΓ (fun hb1 hb2 => Nat.le_trans (Nat.mul_le_mul_left 17 (gn_part (w := 1) tk hm hm' (by decide) nb nb' (by decide) hb1 hb2)) hw) (fun M2 R2 K2 L2 n2 s2 z2 cn2 y cx2 v1 v2 v3 v4 a1 a2 => ?_)
  rw [p1, q1] at a1 a2
  have P1 := PU_meet hm hm' (by decide) (hpS 1 (by decide)) (hpT 1 (by decide)) a1 a2
  clear a1 a2
  have cx12 := cx1.trans cx2 u2
  refine wp_istore d57_22 (Nat.le_of_ble_eq_true rfl) rfl ?_
  refine wp_aload_n d57_24 rfl ?_
  refine wp_iload_n d57_25 rfl ?_
  refine wp_iload_n d57_26 rfl ?_
  refine wz_iconst d57_27 ?_
  refine wp_iload_n d57_28 rfl ?_
  refine wp_iload d57_29 rfl ?_
  refine wp_virt (as := [.int (zI (deep : Int)), .int (zI (Γ.length : Int)), .int (zI 2), .int (zI j), .int (zI i)]) (rest := []) d57_31 rfl rfl rfl (cx2.g.o (by decide) rfl) rfl rfl (Nat.le_of_ble_eq_true rfl) ?_
  refine c_meetParts (g := 2) IH (by decide) cx2.g cx2.r cx2.r32 v1 (by omega) v4 hcx oS oT (fun hb => by rw [hpS 2 (by decide)] at hb; rw [p2]; exact okl_on oX2 (bit_iff.mp hb)) (fun hb => by rw [hpT 2 (by decide)] at hb; rw [q2]; exact okl_on oY2 (bit_iff.mp hb)) (ndf_mono cx12.nodes (by omega) (Nat.le_refl _) top) (cx12.bn hR hn (Nat.le_refl _) (by omega) bn) (ndf_mono cx12.nodes (by omega) (Nat.le_refl _) nS) (ndf_mono cx12.nodes (by omega) (Nat.le_refl _) nT) (by rw [p2]; omega) (by rw [q2]; omega) (by rw [p2, q2]; omega) (by rw [p2, q2]; omega) hdp hΓ (fun hb1 hb2 => Nat.le_trans (Nat.mul_le_mul_left 17 (gn_part (w := 1) tk hm hm' (by decide) nb nb' (by decide) hb1 hb2)) hw) (fun M3 R3 K3 L3 n3 s3 z3 cn3 w cx3 w1 w2 w3 w4 a1 a2 => ?_)
  rw [p2, q2] at a1 a2
  have P2 := PU_meet hm hm' (by decide) (hpS 2 (by decide)) (hpT 2 (by decide)) a1 a2
  clear a1 a2
  have cx13 := cx12.trans cx3 (by omega)
  have P0' := P0.mono (cx2.trans cx3 v2).nodes (cn' := cn3) (by omega)
  have P1' := P1.mono cx3.nodes w2
  clear P0 P1
  have hz3 := cx13.r.2.2.2.2
  have rngx : R32 x ∧ R32 y ∧ R32 w := by
    refine ⟨?_, ?_, ?_⟩
    · rcases P0' with ⟨-, e⟩ | ⟨R, -, e1, e2, -⟩ <;> exact ⟨by omega, by omega⟩
    · rcases P1' with ⟨-, e⟩ | ⟨R, -, e1, e2, -⟩ <;> exact ⟨by omega, by omega⟩
    · rcases P2 with ⟨-, e⟩ | ⟨R, -, e1, e2, -⟩ <;> exact ⟨by omega, by omega⟩
  have bad : (upart (cmu 1 Γ) (lset 1 m m') m m' 0 X0 Y0 = none ∨ upart (cmu 1 Γ) (lset 1 m m') m m' 1 X1 Y1 = none ∨ upart (cmu 1 Γ) (lset 1 m m') m m' 2 X2 Y2 = none) → cmu 1 Γ (tRec m X0 X1 X2) (tRec m' Y0 Y1 Y2) = none := by
    intro e
    rw [ev]
    rcases e with e | e | e
    · rw [e]; rfl
    · rw [e]
      cases upart (cmu 1 Γ) (lset 1 m m') m m' 0 X0 Y0 <;> rfl
    · rw [e]
      cases upart (cmu 1 Γ) (lset 1 m m') m m' 0 X0 Y0 <;> cases upart (cmu 1 Γ) (lset 1 m m') m m' 1 X1 Y1 <;> rfl
  have k54 : cmu 1 Γ (tRec m X0 X1 X2) (tRec m' Y0 Y1 Y2) = none → pm_Wp none (d + 8 * F + 91) 57 54 [some (.ref 6), some (.int (zI i)), some (.int (zI j)), some (.int (zI (Γ.length : Int))), some (.int (zI (deep : Int))), some (.int (zI x)), some (.int (zI y)), some (.int (zI w))] [] (zM M3, R3, K3, L3, n3, s3) Q := by
    intro e
    refine wz_iconst d57_54 ?_
    exact wp_ret d57_55 rfl (h M3 R3 K3 L3 n3 s3 z3 cn3 (-1) cx13 w1 (by omega) (by omega) w4 (by rw [e]; rfl))
  refine wp_istore d57_34 (Nat.le_of_ble_eq_true rfl) rfl ?_
  refine wp_iload d57_36 rfl ?_
  refine wz_iconst d57_38 ?_
  rcases P0' with ⟨en, er⟩ | ⟨A0, eA, x0, x1, xn⟩
  · refine wz_icmp_eq (t := 54) d57_39 (by decide) rngx.1 ⟨by omega, by omega⟩ (fun _ => k54 (bad (Or.inl en))) (fun hb => absurd er hb)
  refine wz_icmp_eq (t := 54) d57_39 (by decide) rngx.1 ⟨by omega, by omega⟩ (fun hb => absurd hb (by omega)) (fun _ => ?_)
  refine wp_iload d57_42 rfl ?_
  refine wz_iconst d57_44 ?_
  rcases P1' with ⟨en, er⟩ | ⟨A1, eA1, y0, y1, yn⟩
  · refine wz_icmp_eq (t := 54) d57_45 (by decide) rngx.2.1 ⟨by omega, by omega⟩ (fun _ => k54 (bad (Or.inr (Or.inl en)))) (fun hb => absurd er hb)
  refine wz_icmp_eq (t := 54) d57_45 (by decide) rngx.2.1 ⟨by omega, by omega⟩ (fun hb => absurd hb (by omega)) (fun _ => ?_)
  refine wp_iload d57_48 rfl ?_
  refine wz_iconst d57_50 ?_
  rcases P2 with ⟨en, er⟩ | ⟨A2, eA2, z0, zz1, zn⟩
  · refine wz_icmp_ne (t := 56) d57_51 (by decide) rngx.2.2 ⟨by omega, by omega⟩ (fun hb => absurd er hb) (fun _ => k54 (bad (Or.inr (Or.inr en))))
  refine wz_icmp_ne (t := 56) d57_51 (by decide) rngx.2.2 ⟨by omega, by omega⟩ (fun _ => ?_) (fun hb => absurd hb (by omega))
  have eR : cmu 1 Γ (tRec m X0 X1 X2) (tRec m' Y0 Y1 Y2) = some (tRec (lset 1 m m') A0 A1 A2) := by rw [ev, eA, eA1, eA2]; rfl
  obtain ⟨oR, lR⟩ := cmu_ok tkb' eR
  obtain ⟨r0, r1, r2⟩ := pt_rec h8 A0 A1 A2
  have hpR := hp_rec h8 A0 A1 A2
  have X0f : XF M3 R3 cn3 (16 + F) (tRec (lset 1 m m') A0 A1 A2) 0 x := ⟨x0, x1, fun hb => by rw [hpR 0 (by decide)] at hb; rw [r0]; exact xn hb⟩
  have X1f : XF M3 R3 cn3 (16 + F) (tRec (lset 1 m m') A0 A1 A2) 1 y := ⟨y0, y1, fun hb => by rw [hpR 1 (by decide)] at hb; rw [r1]; exact yn hb⟩
  have X2f : XF M3 R3 cn3 (16 + F) (tRec (lset 1 m m') A0 A1 A2) 2 w := ⟨z0, zz1, fun hb => by rw [hpR 2 (by decide)] at hb; rw [r2]; exact zn hb⟩
  have s0 := X0f.size oR (by decide)
  have s1' := X1f.size oR (by decide)
  have s2' := X2f.size oR (by decide)
  rw [r0] at s0
  rw [r1] at s1'
  rw [r2] at s2'
  have flR : (flat (tRec (lset 1 m m') A0 A1 A2)).length = 1 + ((flat A0).length + ((flat A1).length + (flat A2).length)) := by
    rw [flat_rec, List.length_cons, List.length_append, List.length_append]; omega
  have ccR : cc (hd (tRec (lset 1 m m') A0 A1 A2)) = 8 + lset 1 m m' := by rw [hd_rec, cc_rec h8]
  have nS3 := ndf_mono cx13.nodes (cn' := cn3) (by omega) (Nat.le_refl _) nS
  have nT3 := ndf_mono cx13.nodes (cn' := cn3) (by omega) (Nat.le_refl _) nT
  obtain ⟨⟨i0, i1, iC, -, -⟩, -⟩ := nS3
  obtain ⟨⟨j0, j1, jC, -, -⟩, -⟩ := nT3
  rw [hd_rec, cc_rec hm] at iC
  rw [hd_rec, cc_rec hm'] at jC
  refine wp_aload_n d57_56 rfl ?_
  refine wp_aload_n d57_57 rfl ?_
  refine wp_getR (q := R3 6 0) d57_58 rfl (cx13.g.o (by decide) rfl) (by decide) rfl (cx13.r.1 0 (by decide)).1 ?_
  refine wp_iload_n d57_61 rfl ?_
  refine wz_iald (z := z3) (v := ((8 + m : Nat) : Int)) d57_62 (cx13.r.1 0 (by decide)) i0 (by omega) (by omega) iC ?_
  refine wp_aload_n d57_63 rfl ?_
  refine wp_getR (q := R3 6 0) d57_64 rfl (cx13.g.o (by decide) rfl) (by decide) rfl (cx13.r.1 0 (by decide)).1 ?_
  refine wp_iload_n d57_67 rfl ?_
  refine wz_iald (z := z3) (v := ((8 + m' : Nat) : Int)) d57_68 (cx13.r.1 0 (by decide)) j0 (by omega) (by omega) jC ?_
  refine wz_ior d57_69 (by omega) (by omega) ?_
  rw [Int.toNat_natCast, Int.toNat_natCast, eor, ← ccR]
  refine wp_iload d57_70 rfl ?_
  refine wp_iload d57_72 rfl ?_
  refine wp_iload d57_74 rfl ?_
  refine wp_virt (as := [.int (zI w), .int (zI y), .int (zI x), .int (zI (cc (hd (tRec (lset 1 m m') A0 A1 A2)) : Int))]) (rest := []) d57_76 rfl rfl rfl (cx13.g.o (by decide) rfl) rfl rfl (Nat.le_of_ble_eq_true rfl) ?_
  refine c_make cx13.g cx13.r cx13.r32 w1 w4 (by omega) (by rw [ccR]; omega) x0 x1 y0 y1 z0 zz1 (by rw [s0]; omega) (by rw [s1']; omega) (by rw [s2']; omega) (fun M4 R4 K4 L4 n4 s4 z4 mk => ?_)
  have nd4 := mk.ndf oR (by omega) X0f X1f X2f
  have mcx := mk.cx
  obtain ⟨-, m6, mz, -⟩ := mk
  refine wp_ret d57_79 rfl (h M4 R4 K4 L4 n4 s4 z4 (cn3 + 1) cn3 (cx13.trans (mcx.weak (fun p q hw => Or.inl hw)) (by omega)) m6 (by omega) (by omega) (by omega) ?_)
  rw [eR]
  exact nd4
end PmC17
