/-! THE VERY BOUND, ANY: schemes and variables before may stand in it. -/
section PmHyN
variable {B : Ty} {L : Nat}
def clc (L : Nat) (c : Int) : Int := if 16 + (L : Int) ≤ c then c - (L : Int) else if 16 ≤ c then 0 else c
theorem flat_clv : ∀ (f : Nat) (t : Ty) (d : Nat), (flat t).length ≤ f → ok d t = true → flat (clv L t) = (flat t).map (clc L)
  | 0, t, d, hf, o => by have := flat_pos o; omega
  | f + 1, t, d, hf, o => by
    rcases ok_cases o with rfl | ⟨j, hj, rfl⟩ | ⟨a, c, rfl, ha, hb⟩ | ⟨a, c, rfl, ha, hb⟩ | ⟨m, x, y, z, hm', rfl, h0, h1, h2⟩
    · rw [clv_top]
      show [(0 : Int)] = [clc L 0]
      unfold clc
      rw [if_neg (by omega), if_neg (by omega)]
    · rw [clv_var]
      by_cases c : L ≤ j
      · rw [if_pos c]
        show [((16 + (j - L) : Nat) : Int)] = [clc L ((16 + j : Nat) : Int)]
        unfold clc
        rw [if_pos (by omega)]
        congr 1
        omega
      · rw [if_neg c]
        show [(0 : Int)] = [clc L ((16 + j : Nat) : Int)]
        unfold clc
        rw [if_neg (by omega), if_pos (by omega)]
    · rw [flat_fun, List.length_cons, List.length_append] at hf
      rw [clv_fun, flat_fun, flat_fun, List.map_cons, List.map_append, flat_clv f a d (by omega) ha, flat_clv f c d (by omega) hb, show clc L 1 = 1 by unfold clc; rw [if_neg (by omega), if_neg (by omega)]]
    · rw [flat_all, List.length_cons, List.length_append] at hf
      rw [clv_all, flat_all, flat_all, List.map_cons, List.map_append, flat_clv f a d (by omega) ha, flat_clv f c (d + 1) (by omega) hb, show clc L 2 = 2 by unfold clc; rw [if_neg (by omega), if_neg (by omega)]]
    · rw [flat_rec, List.length_cons, List.length_append, List.length_append] at hf
      have key : ∀ (i : Nat) (p : Ty), (flat p).length ≤ f → okl d m i p → flat (clv L p) = (flat p).map (clc L) := by
        intro i p hp ho
        unfold okl at ho
        by_cases hb : bit m i = true
        · rw [if_pos hb] at ho
          exact flat_clv f p d hp ho
        · rw [if_neg hb] at ho
          rw [ho, clv_nil]
          rfl
      rw [clv_rec, flat_rec, flat_rec, List.map_cons, List.map_append, List.map_append, key 0 x (by omega) h0, key 1 y (by omega) h1, key 2 z (by omega) h2]
      have e : clc L ((8 + m : Nat) : Int) = ((8 + m : Nat) : Int) := by
        unfold clc
        rw [if_neg (by omega), if_neg (by omega)]
      rw [e]
theorem nfx_clc {D : Nat} {ca cb : Int} (hD : L ≤ D) (pa : 0 ≤ ca) (pb : 0 ≤ cb) (h : nfx D ca = nfx L cb) : nfx (D - L) (clc L ca) = nfx 0 (clc L cb) := by
  unfold nfx at h
  unfold nfx clc
  by_cases a1 : 16 + (D : Int) ≤ ca
  · rw [if_pos a1] at h
    rw [if_pos (show 16 + (L : Int) ≤ ca by omega), if_pos (show 16 + ((D - L : Nat) : Int) ≤ ca - (L : Int) by omega)]
    by_cases b1 : 16 + (L : Int) ≤ cb
    · rw [if_pos b1] at h
      rw [if_pos b1, if_pos (show 16 + ((0 : Nat) : Int) ≤ cb - (L : Int) by omega)]
      omega
    · rw [if_neg b1] at h
      omega
  · rw [if_neg a1] at h
    by_cases b1 : 16 + (L : Int) ≤ cb
    · rw [if_pos b1] at h
      omega
    · rw [if_neg b1] at h
      subst h
      rw [if_neg b1]
      by_cases b2 : 16 ≤ ca
      · rw [if_pos b2, if_neg (by omega), if_neg (by omega)]
      · rw [if_neg b2, if_neg (by omega), if_neg (by omega)]
theorem map_rel {f g f' g' : Int → Int} : ∀ (l m : List Int), (∀ c ∈ l, 0 ≤ c) → (∀ c ∈ m, 0 ≤ c) → (∀ a b, 0 ≤ a → 0 ≤ b → f a = g b → f' a = g' b) → l.map f = m.map g → l.map f' = m.map g'
  | [], [], _, _, _, _ => rfl
  | [], _ :: _, _, _, _, h => by cases h
  | _ :: _, [], _, _, _, h => by cases h
  | a :: l, b :: m, h1, h2, k, h => by
    rw [List.map_cons, List.map_cons] at h ⊢
    injection h with e1 e2
    rw [k a b (h1 a List.mem_cons_self) (h2 b List.mem_cons_self) e1, map_rel l m (fun c hc => h1 c (List.mem_cons_of_mem _ hc)) (fun c hc => h2 c (List.mem_cons_of_mem _ hc)) k e2]
theorem tqN_clv {D : Nat} {a : Ty} {e : Nat} (hD : L ≤ D) (oB : ok e B = true) (oa : ok D a = true) (h : tqN B L D a = true) : tqN (clv L B) 0 (D - L) (clv L a) = true := by
  unfold tqN at h ⊢
  rw [decide_eq_true_iff] at h ⊢
  rw [flat_clv _ a _ (Nat.le_refl _) oa, flat_clv _ B _ (Nat.le_refl _) oB, List.map_map, List.map_map]
  exact map_rel (f' := nfx (D - L) ∘ clc L) (g' := nfx 0 ∘ clc L) _ _ (codes_nn _ a _ (Nat.le_refl _) oa) (codes_nn _ B _ (Nat.le_refl _) oB) (fun x y px py q => nfx_clc hD px py q) h
theorem sN_clv {e : Nat} (oB : ok e B = true) : ∀ (f : Nat) (t : Ty) (D : Nat), (flat t).length ≤ f → L ≤ D → ok D t = true → sN B L D t = true → sN (clv L B) 0 (D - L) (clv L t) = true
  | 0, t, d, hf, _, o, _ => by have := flat_pos o; omega
  | f + 1, t, d, hf, hD, o, h => by
    rcases ok_cases o with rfl | ⟨j, hj, rfl⟩ | ⟨a, c, rfl, ha, hb⟩ | ⟨a, c, rfl, ha, hb⟩ | ⟨m, x, y, z, hm', rfl, h0, h1, h2⟩
    · have h : false = true := h
      cases h
    · have h : sN B L d (tVar j) = true := h
      simp [tVar, sN] at h
    · rw [flat_fun, List.length_cons, List.length_append] at hf
      rw [sN_fun, Bool.or_eq_true] at h
      rw [clv_fun, sN_fun, Bool.or_eq_true]
      exact h.imp (sN_clv oB f a d (by omega) hD ha) (sN_clv oB f c d (by omega) hD hb)
    · rw [flat_all, List.length_cons, List.length_append] at hf
      rw [sN_all, Bool.or_eq_true, Bool.or_eq_true] at h
      rw [clv_all, sN_all, Bool.or_eq_true, Bool.or_eq_true]
      refine h.imp (tqN_clv hD oB ha) (Or.imp (sN_clv oB f a d (by omega) hD ha) (fun q => ?_))
      have q2 := sN_clv oB f c (d + 1) (by omega) (by omega) hb q
      rw [show d + 1 - L = d - L + 1 by omega] at q2
      exact q2
    · rw [flat_rec, List.length_cons, List.length_append, List.length_append] at hf
      have key : ∀ (i : Nat) (p : Ty), (flat p).length ≤ f → okl d m i p → sN B L d p = true → sN (clv L B) 0 (d - L) (clv L p) = true := by
        intro i p hp ho hs
        unfold okl at ho
        by_cases hb : bit m i = true
        · rw [if_pos hb] at ho
          exact sN_clv oB f p d hp hD ho hs
        · rw [if_neg hb] at ho
          rw [ho] at hs
          simp [sN] at hs
      rw [sN_rec, Bool.or_eq_true, Bool.or_eq_true] at h
      rw [clv_rec, sN_rec, Bool.or_eq_true, Bool.or_eq_true]
      exact h.imp (key 0 x (by omega) h0) (Or.imp (key 1 y (by omega) h1) (key 2 z (by omega) h2))
end PmHyN
section PmIaN
variable {t0 s2 hv fn r0 r1 r2 r3 be aB : Nat} {n1 h : Nat → Nat} {F G Ff Gf : FrT} {B C : Ty}
theorem sn_vC (hm : ∀ y y', y ≤ y' → h y ≤ h y') (H1 : ∀ y, h y ≤ hv + max 1 y) {ω : List Nat} {y1 : Nat} (hy : t0 ≤ y1) (hc : xrc F G y1 fn s2 hv r0 r1 r2 r3 = true) (hcf : xgc be aB F Ff Gf fn s2 hv r1 r2 r3 = true) (hmf : ∀ {k k2 : Nat}, k ≤ k2 → k2 ≤ 40 → ∀ v ∈ frg Ff k, ∃ w ∈ frg Ff k2, v.1 ≤ w.1 ∧ v.2 ≤ w.2) (hf1 : n1 1 ≤ fn) (hr : ∀ m, m < 8 → n1 (8 + m) ≤ (if nlb m = 0 then r0 else if nlb m = 1 then r1 else if nlb m = 2 then r2 else r3)) (oB : ok ω.length B = true) (hbe : be ≤ tch B) (hK : ∀ d, XFm y1 n1 s2 hv d (lft 0 d (clv ω.length B)) 0 aB) (o : ok (ω.length + 1) C = true) (k40 : tch C ≤ 40) (hs : sN B ω.length (ω.length + 1) C = true) (hw : ∀ j, j < ω.length → vw ω j ≤ y1) : ∃ v ∈ frg Ff (tch C), ∀ z, nz t0 n1 s2 h (z :: ω) C ≤ v.2 + v.1 * z := by
  have o1 : ok 1 (clv ω.length C) = true := clv_ok _ C 1 (Nat.le_refl _) (by rw [Nat.add_comm]; exact o)
  have o0 : ok 0 (clv ω.length B) = true := clv_ok _ B 0 (Nat.le_refl _) (by rw [Nat.zero_add]; exact oB)
  have ec : tch (clv ω.length C) = tch C := tch_clv _ C _ (Nat.le_refl _) o
  have eb : tch (clv ω.length B) = tch B := tch_clv _ B _ (Nat.le_refl _) oB
  obtain ⟨v, hv', f1, f2⟩ := xn_form (t0 := y1) (n1 := n1) (B := clv ω.length B) hc hcf hmf hf1 hr ⟨o0, by omega, hK⟩ _ (clv ω.length C) 1 (Nat.le_refl _) o1 (by omega) (by have q := sN_clv oB _ C (ω.length + 1) (Nat.le_refl _) (Nat.le_succ _) o hs; rw [show ω.length + 1 - ω.length = 1 by omega] at q; exact q)
  rw [ec] at hv'
  refine ⟨v, hv', fun z => ?_⟩
  have q := vC_clv (t0 := t0) (n1 := n1) (s2 := s2) (z := z) hm H1 hy o hw
  rw [xf_one] at q
  have q2 := Nat.mul_le_mul_right z f1
  omega
end PmIaN
section PmIbN
variable {t0 s2 hv fn r0 r1 r2 r3 be aB : Nat} {n1 h : Nat → Nat} {F G Ff Gf : FrT} {B C : Ty}
theorem so_oneN (hm : ∀ y y', y ≤ y' → h y ≤ h y') (H1 : ∀ y, h y ≤ hv + max 1 y) {ω : List Nat} {y1 BU : Nat} (hy : t0 ≤ y1) (hc : xrc F G y1 fn s2 hv r0 r1 r2 r3 = true) (hcf : xgc be aB F Ff Gf fn s2 hv r1 r2 r3 = true) (hmf : mnf Ff = true) (hA : (List.range BU).all (fun k => Nat.blt k be || (frg F k).all (fun v => Nat.ble v.2 aB)) = true) (hf1 : n1 1 ≤ fn) (hr : ∀ m, m < 8 → n1 (8 + m) ≤ (if nlb m = 0 then r0 else if nlb m = 1 then r1 else if nlb m = 2 then r2 else r3)) (oB : ok ω.length B = true) (hbe : be ≤ tch B) (b16 : tch B < BU) (u16 : BU ≤ 17) (o : ok (ω.length + 1) C = true) (k40 : tch C ≤ 40) (hs : sN B ω.length (ω.length + 1) C = true) (hw : ∀ j, j < ω.length → vw ω j ≤ y1) : ∃ v ∈ frg Ff (tch C), ∀ z, nz t0 n1 s2 h (z :: ω) C ≤ v.2 + v.1 * z := by
  have o0 : ok 0 (clv ω.length B) = true := clv_ok _ B 0 (Nat.le_refl _) (by rw [Nat.zero_add]; exact oB)
  have eb : tch (clv ω.length B) = tch B := tch_clv _ B _ (Nat.le_refl _) oB
  refine sn_vC hm H1 hy hc hcf (mnf_le hmf) hf1 hr oB hbe (XF_l0 hc hf1 hr o0 (by omega) ?_) o k40 hs hw
  rw [eb]
  have q := rng_all hA (i := tch B) b16
  rw [Bool.or_eq_true] at q
  rcases q with q | q
  · exact (blt_no hbe q).elim
  · exact q
end PmIbN
theorem so_rowsN {B C : Ty} {Γ0 : List Ty} {d : Bool} (oc0 : okc Γ0) (q13 : cch Γ0 ≤ 13) (oB : ok Γ0.length B = true) (b4 : 4 ≤ tch B) (b16 : tch B ≤ 16) (oC : ok (Γ0.length + 1) C = true) (k40 : tch C ≤ 40) (h : sN B Γ0.length (Γ0.length + 1) C = true) : ∃ v ∈ frg (soR (tch B) (cch Γ0)) (tch C), ∀ z, nz 0 (fun _ => 1 + 1) (2 + 1) (vlr d 1) (z :: onz 0 (fun _ => 1 + 1) (2 + 1) (vlr d 1) Γ0) C ≤ v.2 + v.1 * z := by
  have T := tbs1 d
  have l0 := onz_len 0 (fun _ => 1 + 1) (2 + 1) (vlr d 1) Γ0
  rw [← l0] at oB oC h
  have hx : ∀ j, j < (onz 0 (fun _ => 1 + 1) (2 + 1) (vlr d 1) Γ0).length → vw (onz 0 (fun _ => 1 + 1) (2 + 1) (vlr d 1) Γ0) j ≤ fx1.getD (cch Γ0) 0 := fun j hj => onz_chars (n1 := fun _ => 1 + 1) T.1 T.2.1 T.2.2.1 T.2.2.2.1 T.2.2.2.2.1 Γ0 oc0 (by omega) j (by rw [l0] at hj; exact hj)
  unfold soR
  by_cases b6 : tch B ≤ 6
  · rw [if_pos (Nat.ble_eq_true_of_le b6)]
    by_cases c05 : cch Γ0 ≤ 5
    · rw [if_pos (Nat.ble_eq_true_of_le c05)]
      exact so_oneN (t0 := 0) (n1 := fun _ => 1 + 1) (hv := 1) (BU := 7) (y1 := 2) (vlr_mono d 1) (vlr_one d) (by decide) yr2_ok or2a_ok or2a_m or2a_a T.2.2.2.1 T.2.2.2.2.1 oB (by omega) (by omega) (by decide) oC k40 h (fun j hj => Nat.le_trans (hx j hj) (Nat.le_of_ble_eq_true (rng_all (show (List.range 6).all (fun k => Nat.ble (fx1.getD k 0) 2) = true by decide +kernel) (i := cch Γ0) (by omega))))
    rw [if_neg (by intro q; exact c05 (Nat.le_of_ble_eq_true q))]
    by_cases c07 : cch Γ0 ≤ 7
    · rw [if_pos (Nat.ble_eq_true_of_le c07)]
      exact so_oneN (t0 := 0) (n1 := fun _ => 1 + 1) (hv := 1) (BU := 7) (y1 := 3) (vlr_mono d 1) (vlr_one d) (by decide) yr3_ok or3a_ok or3a_m or3a_a T.2.2.2.1 T.2.2.2.2.1 oB (by omega) (by omega) (by decide) oC k40 h (fun j hj => Nat.le_trans (hx j hj) (Nat.le_of_ble_eq_true (rng_all (show (List.range 8).all (fun k => Nat.ble (fx1.getD k 0) 3) = true by decide +kernel) (i := cch Γ0) (by omega))))
    rw [if_neg (by intro q; exact c07 (Nat.le_of_ble_eq_true q))]
    by_cases c010 : cch Γ0 ≤ 10
    · rw [if_pos (Nat.ble_eq_true_of_le c010)]
      exact so_oneN (t0 := 0) (n1 := fun _ => 1 + 1) (hv := 1) (BU := 7) (y1 := 6) (vlr_mono d 1) (vlr_one d) (by decide) yr6_ok or6a_ok or6a_m or6a_a T.2.2.2.1 T.2.2.2.2.1 oB (by omega) (by omega) (by decide) oC k40 h (fun j hj => Nat.le_trans (hx j hj) (Nat.le_of_ble_eq_true (rng_all (show (List.range 11).all (fun k => Nat.ble (fx1.getD k 0) 6) = true by decide +kernel) (i := cch Γ0) (by omega))))
    rw [if_neg (by intro q; exact c010 (Nat.le_of_ble_eq_true q))]
    exact so_oneN (t0 := 0) (n1 := fun _ => 1 + 1) (hv := 1) (BU := 7) (y1 := 8) (vlr_mono d 1) (vlr_one d) (by decide) yr8_ok or8a_ok or8a_m or8a_a T.2.2.2.1 T.2.2.2.2.1 oB (by omega) (by omega) (by decide) oC k40 h (fun j hj => Nat.le_trans (hx j hj) (Nat.le_of_ble_eq_true (rng_all (show (List.range 14).all (fun k => Nat.ble (fx1.getD k 0) 8) = true by decide +kernel) (i := cch Γ0) (by omega))))
  · rw [if_neg (by intro q; exact b6 (Nat.le_of_ble_eq_true q))]
    by_cases c15 : cch Γ0 ≤ 5
    · rw [if_pos (Nat.ble_eq_true_of_le c15)]
      exact so_oneN (t0 := 0) (n1 := fun _ => 1 + 1) (hv := 1) (BU := 17) (y1 := 2) (vlr_mono d 1) (vlr_one d) (by decide) yr2_ok or2b_ok or2b_m or2b_a T.2.2.2.1 T.2.2.2.2.1 oB (by omega) (by omega) (by decide) oC k40 h (fun j hj => Nat.le_trans (hx j hj) (Nat.le_of_ble_eq_true (rng_all (show (List.range 6).all (fun k => Nat.ble (fx1.getD k 0) 2) = true by decide +kernel) (i := cch Γ0) (by omega))))
    rw [if_neg (by intro q; exact c15 (Nat.le_of_ble_eq_true q))]
    by_cases c17 : cch Γ0 ≤ 7
    · rw [if_pos (Nat.ble_eq_true_of_le c17)]
      exact so_oneN (t0 := 0) (n1 := fun _ => 1 + 1) (hv := 1) (BU := 17) (y1 := 3) (vlr_mono d 1) (vlr_one d) (by decide) yr3_ok or3b_ok or3b_m or3b_a T.2.2.2.1 T.2.2.2.2.1 oB (by omega) (by omega) (by decide) oC k40 h (fun j hj => Nat.le_trans (hx j hj) (Nat.le_of_ble_eq_true (rng_all (show (List.range 8).all (fun k => Nat.ble (fx1.getD k 0) 3) = true by decide +kernel) (i := cch Γ0) (by omega))))
    rw [if_neg (by intro q; exact c17 (Nat.le_of_ble_eq_true q))]
    by_cases c110 : cch Γ0 ≤ 10
    · rw [if_pos (Nat.ble_eq_true_of_le c110)]
      exact so_oneN (t0 := 0) (n1 := fun _ => 1 + 1) (hv := 1) (BU := 17) (y1 := 6) (vlr_mono d 1) (vlr_one d) (by decide) yr6_ok or6b_ok or6b_m or6b_a T.2.2.2.1 T.2.2.2.2.1 oB (by omega) (by omega) (by decide) oC k40 h (fun j hj => Nat.le_trans (hx j hj) (Nat.le_of_ble_eq_true (rng_all (show (List.range 11).all (fun k => Nat.ble (fx1.getD k 0) 6) = true by decide +kernel) (i := cch Γ0) (by omega))))
    rw [if_neg (by intro q; exact c110 (Nat.le_of_ble_eq_true q))]
    exact so_oneN (t0 := 0) (n1 := fun _ => 1 + 1) (hv := 1) (BU := 17) (y1 := 8) (vlr_mono d 1) (vlr_one d) (by decide) yr8_ok or8b_ok or8b_m or8b_a T.2.2.2.1 T.2.2.2.2.1 oB (by omega) (by omega) (by decide) oC k40 h (fun j hj => Nat.le_trans (hx j hj) (Nat.le_of_ble_eq_true (rng_all (show (List.range 14).all (fun k => Nat.ble (fx1.getD k 0) 8) = true by decide +kernel) (i := cch Γ0) (by omega))))
theorem so_goalsN {B C : Ty} {Γ0 : List Ty} (oc0 : okc Γ0) (q13 : cch Γ0 ≤ 13) (oB : ok Γ0.length B = true) (b4 : 4 ≤ tch B) (b16 : tch B ≤ 16) (oC : ok (Γ0.length + 1) C = true) (k40 : tch C ≤ 40) (h : sN B Γ0.length (Γ0.length + 1) C = true) : ∃ v ∈ frg (soG (tch B) (cch Γ0)) (tch C), ∀ z, nz 1 ngc 1 (fun x => x) (z :: onz 1 ngc 1 (fun x => x) Γ0) C ≤ v.2 + v.1 * z := by
  have T := tbsq
  have l0 := onz_len 1 ngc 1 (fun x => x) Γ0
  rw [← l0] at oB oC h
  have hx : ∀ j, j < (onz 1 ngc 1 (fun x => x) Γ0).length → vw (onz 1 ngc 1 (fun x => x) Γ0) j ≤ fxq.getD (cch Γ0) 0 := fun j hj => onz_chars (n1 := ngc) T.1 T.2.1 T.2.2.1 T.2.2.2.1 T.2.2.2.2.1 Γ0 oc0 (by omega) j (by rw [l0] at hj; exact hj)
  unfold soG
  by_cases b6 : tch B ≤ 6
  · rw [if_pos (Nat.ble_eq_true_of_le b6)]
    by_cases c07 : cch Γ0 ≤ 7
    · rw [if_pos (Nat.ble_eq_true_of_le c07)]
      exact so_oneN (t0 := 1) (n1 := ngc) (hv := 0) (BU := 7) (y1 := 1) (fun y y' hy => hy) (fun y => by show y ≤ 0 + max 1 y; omega) (by decide) yq1_ok oq1a_ok oq1a_m oq1a_a T.2.2.2.1 T.2.2.2.2.1 oB (by omega) (by omega) (by decide) oC k40 h (fun j hj => Nat.le_trans (hx j hj) (Nat.le_of_ble_eq_true (rng_all (show (List.range 8).all (fun k => Nat.ble (fxq.getD k 0) 1) = true by decide +kernel) (i := cch Γ0) (by omega))))
    rw [if_neg (by intro q; exact c07 (Nat.le_of_ble_eq_true q))]
    by_cases c010 : cch Γ0 ≤ 10
    · rw [if_pos (Nat.ble_eq_true_of_le c010)]
      exact so_oneN (t0 := 1) (n1 := ngc) (hv := 0) (BU := 7) (y1 := 4) (fun y y' hy => hy) (fun y => by show y ≤ 0 + max 1 y; omega) (by decide) yq4_ok oq4a_ok oq4a_m oq4a_a T.2.2.2.1 T.2.2.2.2.1 oB (by omega) (by omega) (by decide) oC k40 h (fun j hj => Nat.le_trans (hx j hj) (Nat.le_of_ble_eq_true (rng_all (show (List.range 11).all (fun k => Nat.ble (fxq.getD k 0) 4) = true by decide +kernel) (i := cch Γ0) (by omega))))
    rw [if_neg (by intro q; exact c010 (Nat.le_of_ble_eq_true q))]
    exact so_oneN (t0 := 1) (n1 := ngc) (hv := 0) (BU := 7) (y1 := 7) (fun y y' hy => hy) (fun y => by show y ≤ 0 + max 1 y; omega) (by decide) yq7_ok oq7a_ok oq7a_m oq7a_a T.2.2.2.1 T.2.2.2.2.1 oB (by omega) (by omega) (by decide) oC k40 h (fun j hj => Nat.le_trans (hx j hj) (Nat.le_of_ble_eq_true (rng_all (show (List.range 14).all (fun k => Nat.ble (fxq.getD k 0) 7) = true by decide +kernel) (i := cch Γ0) (by omega))))
  · rw [if_neg (by intro q; exact b6 (Nat.le_of_ble_eq_true q))]
    by_cases c17 : cch Γ0 ≤ 7
    · rw [if_pos (Nat.ble_eq_true_of_le c17)]
      exact so_oneN (t0 := 1) (n1 := ngc) (hv := 0) (BU := 17) (y1 := 1) (fun y y' hy => hy) (fun y => by show y ≤ 0 + max 1 y; omega) (by decide) yq1_ok oq1b_ok oq1b_m oq1b_a T.2.2.2.1 T.2.2.2.2.1 oB (by omega) (by omega) (by decide) oC k40 h (fun j hj => Nat.le_trans (hx j hj) (Nat.le_of_ble_eq_true (rng_all (show (List.range 8).all (fun k => Nat.ble (fxq.getD k 0) 1) = true by decide +kernel) (i := cch Γ0) (by omega))))
    rw [if_neg (by intro q; exact c17 (Nat.le_of_ble_eq_true q))]
    by_cases c110 : cch Γ0 ≤ 10
    · rw [if_pos (Nat.ble_eq_true_of_le c110)]
      exact so_oneN (t0 := 1) (n1 := ngc) (hv := 0) (BU := 17) (y1 := 4) (fun y y' hy => hy) (fun y => by show y ≤ 0 + max 1 y; omega) (by decide) yq4_ok oq4b_ok oq4b_m oq4b_a T.2.2.2.1 T.2.2.2.2.1 oB (by omega) (by omega) (by decide) oC k40 h (fun j hj => Nat.le_trans (hx j hj) (Nat.le_of_ble_eq_true (rng_all (show (List.range 11).all (fun k => Nat.ble (fxq.getD k 0) 4) = true by decide +kernel) (i := cch Γ0) (by omega))))
    rw [if_neg (by intro q; exact c110 (Nat.le_of_ble_eq_true q))]
    exact so_oneN (t0 := 1) (n1 := ngc) (hv := 0) (BU := 17) (y1 := 7) (fun y y' hy => hy) (fun y => by show y ≤ 0 + max 1 y; omega) (by decide) yq7_ok oq7b_ok oq7b_m oq7b_a T.2.2.2.1 T.2.2.2.2.1 oB (by omega) (by omega) (by decide) oC k40 h (fun j hj => Nat.le_trans (hx j hj) (Nat.le_of_ble_eq_true (rng_all (show (List.range 14).all (fun k => Nat.ble (fxq.getD k 0) 7) = true by decide +kernel) (i := cch Γ0) (by omega))))
section PmIcN
variable {f : Nat} {t B C : Ty} {Γ0 Δ1 : List Ty} {Δ : List (Nat × Ty × Nat)}
theorem nat_bgN (q13 : cch Γ0 ≤ 13) (lb : LBd Γ0 Δ1 (tAll B C) tTop B C) (b2 : 4 ≤ tch B) (b16 : tch B ≤ 16) (fl : sN B Γ0.length (Γ0.length + 1) C = true) (w : TWf f (cxs Δ1 Γ0 (tAll B C)).length (Δ.map (fun a => a.1)) t) (he : TE (cxs Δ1 Γ0 (tAll B C)) Δ) (ch : CHo f t []) (hz : B5z Δ.isEmpty (mch t) (tch B) (tch C) (cch Γ0) (cch Δ1) = true) (m3 : 3 ≤ mch t) (h20 : 20 ≤ cch (cxs Δ1 Γ0 (tAll B C))) (h47 : cch (cxs Δ1 Γ0 (tAll B C)) ≤ 47) (q38 : cch Δ1 ≤ 38) (hb : cch (cxs Δ1 Γ0 (tAll B C)) + dch Δ + 2 * mch t ≤ 58) : NtV (cxs Δ1 Γ0 (tAll B C)) Δ f t 887 597 := by
  have ec := cch_cx (Γ0 := Γ0) (β := tAll B C) Δ1
  have eσ := tch_all B C
  have ez : tch (tAll B C) - tch (tAll B C) = 0 := Nat.sub_self _
  have eq : 8 + tch B + tch C + cch Γ0 + cch Δ1 = cch (cxs Δ1 Γ0 (tAll B C)) := by omega
  have oσ := lb.1.2.1
  have oC : ok (Γ0.length + 1) C = true := (ok_all.mp oσ).2
  have oc0 := (okc_low Δ1 he.1).1
  have oB := (ok_all.mp oσ).1
  have fR := fun d => so_rowsN (d := d) oc0 q13 oB b2 b16 oC lb.2.2.2.1 fl
  have fG := so_goalsN oc0 q13 oB b2 b16 oC lb.2.2.2.1 fl
  have key : ∀ {un e : Bool} {LR LG : LnT} {c0 c1 m0 m1 : Nat}, ((e = true ∧ Δ = []) ∨ (e = false ∧ Δ ≠ [])) → (un = true ∨ COk f t 0) → zgR LR (tch B) (tch C) (cch Γ0) (cch Δ1) = true → zgG LG (tch B) (tch C) (cch Γ0) (cch Δ1) = true → lnf un e LR fr1 fg1 1 2 3 2 2 2 2 887 c0 c1 m0 m1 = true → lnf un e LG frq fgq 0 1 1 1 3 2 1 597 c0 c1 m0 m1 = true → c0 ≤ cch (cxs Δ1 Γ0 (tAll B C)) → cch (cxs Δ1 Γ0 (tAll B C)) < c1 → m0 ≤ mch t → mch t < m1 → NtV (cxs Δ1 Γ0 (tAll B C)) Δ f t 887 597 := by
    intro un e LR LG c0 c1 m0 m1 hΔ cu zR zG tR tG h0 h1 g0 g1
    unfold zgR at zR
    unfold zgG at zG
    rw [eq] at zR zG
    exact zone_k (un := un) (e := e) fR fG lb w he hΔ cu ch (by rw [ez]; exact zR) (by rw [ez]; exact zG) tR tG h0 h1 g0 g1 h47 q38 hb
  unfold B5z at hz
  rw [eq] at hz
  by_cases c : Δ = []
  · rw [if_pos (List.isEmpty_iff.mpr c), Bool.and_eq_true, Bool.and_eq_true, Bool.and_eq_true] at hz
    obtain ⟨m8, h32, zR, zG⟩ := hz
    exact key (e := true) (un := true) (Or.inl ⟨rfl, c⟩) (Or.inl rfl) zR zG u2R_34 u2G_34 (Nat.le_of_ble_eq_true h32) (by omega) (Nat.le_of_ble_eq_true m8) (by have := Nat.le_of_ble_eq_true h32; omega)
  · have hΔ : (false = true ∧ Δ = []) ∨ (false = false ∧ Δ ≠ []) := Or.inr ⟨rfl, c⟩
    rw [if_neg (by intro q; exact c (List.isEmpty_iff.mp q))] at hz
    by_cases m5 : mch t ≤ 5
    · rw [if_pos (Nat.ble_eq_true_of_le m5), Bool.and_eq_true] at hz
      exact key (un := false) hΔ (Or.inr ((co_six w).resolve_right (by omega))) hz.1 hz.2 u0R_20 u0G_20 h20 (by omega) m3 (by omega)
    · rw [if_neg (by intro q; exact m5 (Nat.le_of_ble_eq_true q)), Bool.and_eq_true, Bool.and_eq_true] at hz
      obtain ⟨h26, zR, zG⟩ := hz
      have h26 := Nat.le_of_ble_eq_true h26
      by_cases c36 : cch (cxs Δ1 Γ0 (tAll B C)) < 36
      · exact key (un := true) hΔ (Or.inl rfl) zR zG u1R_30 u1G_30 h26 c36 (by omega) (by omega)
      exact key (un := true) hΔ (Or.inl rfl) zR zG u1R_36 u1G_36 (by omega) (by omega) (by omega) (by omega)
theorem nat_bnN (q13 : cch Γ0 ≤ 13) (lb : LBd Γ0 Δ1 (tAll B C) tTop B C) (b2 : 4 ≤ tch B) (b16 : tch B ≤ 16) (fl : sN B Γ0.length (Γ0.length + 1) C = true) (w : TWf f (cxs Δ1 Γ0 (tAll B C)).length (Δ.map (fun a => a.1)) t) (he : TE (cxs Δ1 Γ0 (tAll B C)) Δ) (ch : CHo f t []) (nΔ : Δ ≠ []) (m5 : mch t ≤ 5) (hz : B9z (tch B) (tch C) (cch Γ0) (cch Δ1) = true) (m3 : 3 ≤ mch t) (h20 : 20 ≤ cch (cxs Δ1 Γ0 (tAll B C))) (h47 : cch (cxs Δ1 Γ0 (tAll B C)) ≤ 47) (q38 : cch Δ1 ≤ 38) (hb : cch (cxs Δ1 Γ0 (tAll B C)) + dch Δ + 2 * mch t ≤ 58) : NtV (cxs Δ1 Γ0 (tAll B C)) Δ f t 887 597 := by
  have ec := cch_cx (Γ0 := Γ0) (β := tAll B C) Δ1
  have eσ := tch_all B C
  have ez : tch (tAll B C) - tch (tAll B C) = 0 := Nat.sub_self _
  have eq : 8 + tch B + tch C + cch Γ0 + cch Δ1 = cch (cxs Δ1 Γ0 (tAll B C)) := by omega
  have oσ := lb.1.2.1
  have oC : ok (Γ0.length + 1) C = true := (ok_all.mp oσ).2
  have oc0 := (okc_low Δ1 he.1).1
  have oB := (ok_all.mp oσ).1
  have fR := fun d => so_rowsN (d := d) oc0 q13 oB b2 b16 oC lb.2.2.2.1 fl
  have fG := so_goalsN oc0 q13 oB b2 b16 oC lb.2.2.2.1 fl
  have key : ∀ {un e : Bool} {LR LG : LnT} {c0 c1 m0 m1 : Nat}, ((e = true ∧ Δ = []) ∨ (e = false ∧ Δ ≠ [])) → (un = true ∨ COk f t 0) → zgR LR (tch B) (tch C) (cch Γ0) (cch Δ1) = true → zgG LG (tch B) (tch C) (cch Γ0) (cch Δ1) = true → lnf un e LR fr1 fg1 1 2 3 2 2 2 2 887 c0 c1 m0 m1 = true → lnf un e LG frq fgq 0 1 1 1 3 2 1 597 c0 c1 m0 m1 = true → c0 ≤ cch (cxs Δ1 Γ0 (tAll B C)) → cch (cxs Δ1 Γ0 (tAll B C)) < c1 → m0 ≤ mch t → mch t < m1 → NtV (cxs Δ1 Γ0 (tAll B C)) Δ f t 887 597 := by
    intro un e LR LG c0 c1 m0 m1 hΔ cu zR zG tR tG h0 h1 g0 g1
    unfold zgR at zR
    unfold zgG at zG
    rw [eq] at zR zG
    exact zone_k (un := un) (e := e) fR fG lb w he hΔ cu ch (by rw [ez]; exact zR) (by rw [ez]; exact zG) tR tG h0 h1 g0 g1 h47 q38 hb
  unfold B9z at hz
  rw [eq, Bool.and_eq_true, Bool.and_eq_true] at hz
  obtain ⟨h46, zR, zG⟩ := hz
  exact key (un := false) (Or.inr ⟨rfl, nΔ⟩) (Or.inr ((co_six w).resolve_right (by omega))) zR zG w0R_46 w0G_46 (Nat.le_of_ble_eq_true h46) (by omega) m3 (by omega)
end PmIcN
