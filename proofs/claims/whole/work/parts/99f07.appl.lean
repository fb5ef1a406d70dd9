/-! THE MODEL: application. -/
/-- what a rule may write -/
def WRl (i x : Int) (p : Nat) (k : Int) : Prop := (p = 56 ∧ (k = 22 ∨ k = 24 ∨ k = 32 ∨ k = 33 ∨ k = 34 ∨ k = 36)) ∨ (p = 73 ∧ (17 * 132 ≤ k ∨ (17 * (4 + i) ≤ k ∧ k < 17 * (4 + i) + 17))) ∨ ((p = 74 ∨ p = 75 ∨ p = 76) ∧ x ≤ k) ∨ (80 ≤ p ∧ p ≤ 86)
def RLf (i x : Int) (N N' : pm_M) : Prop := ∀ (p : Nat) (k : Int), ¬ WRl i x p k → N' p k = N p k
theorem RLf.refl (i x : Int) (N : pm_M) : RLf i x N N := fun _ _ _ => rfl
theorem RLf.xp {i x : Int} {N N1 N2 : pm_M} (h : RLf i x N N1) (h' : XPF 132 N1 N2) : RLf i x N N2 := fun p k w => (h' p k (fun e => w (by unfold WXP at e; unfold WRl; omega))).trans (h p k w)
theorem RLf.uk {i x u : Int} {N N1 N2 : pm_M} (h : RLf i x N N1) (hu : 132 ≤ u) (h' : UK N1 N2 u x) : RLf i x N N2 := fun p k w => (h'.1 p k (fun e => by unfold WRl at w; omega) (fun e => by unfold WRl at w; omega) (fun e => by unfold WRl at w; omega) (fun e => by unfold WRl at w; omega)).trans (h p k w)
theorem RLf.put {i x r : Int} {N N1 : pm_M} {l : List Int} (h : RLf i x N N1) (hr : r = 4 + i ∨ 132 ≤ r) (hl : l.length ≤ 17) : RLf i x N (mput N1 73 (17 * r) l) := by
  intro p k w
  unfold mput
  rw [if_neg (fun e => w (by unfold WRl; omega))]
  exact h p k w
theorem RLf.fr {i x : Int} {N N1 : pm_M} {v : Int} (h : RLf i x N N1) : RLf i x N (mset N1 56 22 v) := by
  intro p k w
  unfold mset
  rw [if_neg (fun e => w (by unfold WRl; omega))]
  exact h p k w
theorem RLf.win {i x u : Int} {N N1 N2 : pm_M} (h : RLf i x N N1) (hu : 132 ≤ u) (h' : ∀ p k, ¬ WIn i u p k → N2 p k = N1 p k) : RLf i x N N2 := fun p k w => (h' p k (fun e => w (by unfold WIn at e; unfold WRl; omega))).trans (h p k w)
/-- what a rule comes to -/
def RA (N : pm_M) (i : Int) : Option Ty → Int → Prop
  | none, r => r = 0
  | some A, r => r = 1 ∧ Row N (4 + i) 0 (flat A)
section PmF8
variable {d : Nat} {Q : Option Value → pm_S → Prop} {N : pm_M} {Rf : Nat → Nat → Nat} {K L : Nat → Nat} {n s : Nat}
theorem m_app7 {i j x c : Int} {Γ : List Ty} {S T : Ty} (hG : pm_G Rf K L n) (hM : ∀ p i, R32 (N p i)) (hu : N 56 22 = 132) (hx : N 56 24 = x) (x0 : 0 ≤ x) (x1 : x ≤ 12) (i0 : 0 ≤ i) (i1 : i < 59) (cx : Ctx N 132 x c Γ) (lG : Γ.length ≤ 25) (sz : szc 16 Γ) (oS : ok Γ.length S = true) (lS : (flat S).length ≤ 16) (hS : Row N (4 + i + 1) 0 (flat S)) (h59 : N 59 i = 7) (j0 : 0 ≤ j) (j1 : j < 60) (ji : j ≠ i) (oT : ok Γ.length T = true) (lT : (flat T).length ≤ 16) (hT : Row N (4 + j) 0 (flat T)) (lb : hd (expo Γ Γ.length S) = 1 → LB Γ T (k1 (expo Γ Γ.length S))) (h : ∀ (N' : pm_M) (r : Int), (∀ p i, R32 (N' p i)) → RLf i x N N' → RA N' i (tyA Γ (expo Γ Γ.length S) T) r → Q (some (.int (zI r))) (zM N', Rf, K, L, n, s)) : pm_Wc (d + 8) 193 [.ref 56, .int (zI i), .int (zI j), .int (zI c), .int (zI (Γ.length : Int))] (zM N, Rf, K, L, n, s) Q := by
  refine wc_in (ls0 := [some (.ref 56), some (.int (zI i)), some (.int (zI j)), some (.int (zI c)), some (.int (zI (Γ.length : Int))), none, none, none, none]) (by decide) (Nat.le_of_ble_eq_true rfl) rfl rfl ?_
  refine wp_aload_n d193_0 rfl ?_
  refine wz_iconst d193_1 ?_
  refine wp_iload_n d193_2 rfl ?_
  refine wz_iadd d193_3 ?_
  refine wz_iconst d193_4 ?_
  refine wz_iadd d193_5 ?_
  refine wp_iload_n d193_6 rfl ?_
  refine wp_iload d193_7 rfl ?_
  refine wp_virt (as := [.int (zI (Γ.length : Int)), .int (zI c), .int (zI ((4 + i) + 1))]) (rest := []) d193_9 rfl rfl rfl (hG.o (by decide) rfl) rfl rfl (Nat.le_of_ble_eq_true rfl) ?_
  refine wc_deep (show d + 1 + 6 ≤ d + 7 by omega) ?_
  refine m_expose (x := x) (S := S) hG hM hu cx (by omega) (by omega) (by omega) (by omega) (by omega) oS lS hS (fun N1 r1 u1 hM1 fr1 e22 e32 e33 v1 v2 v3 v4 v5 row1 => ?_)
  have oR := (expo_ok cx.okc sz Γ.length S oS lS)
  have hR := expo_hd cx.okc Γ.length S oS (lv_le oS)
  have rl1 : RLf i x N N1 := (RLf.refl i x N).xp fr1
  have c59 : N1 59 i = 7 := (fr1 59 i (by unfold WXP; omega)).trans h59
  have ec : N1 73 (17 * r1 + 0) = (hd (expo Γ Γ.length S) : Int) := by obtain ⟨w, hw⟩ := flat_hd oR.1; rw [hw] at row1; exact row1.1
  have x24 : N1 56 24 = x := (fr1 56 24 (by unfold WXP; omega)).trans hx
  have cx1 : Ctx N1 u1 x c Γ := fr1.ctx v1 cx
  refine wp_aload_n d193_12 rfl ?_
  refine wz_getI (v := r1) d193_13 rfl (hG.o (by decide) rfl) (by decide) (e32) ?_
  refine wp_istore d193_16 (Nat.le_of_ble_eq_true rfl) rfl ?_
  refine wp_aload_n d193_18 rfl ?_
  refine wz_getI (v := 0) d193_19 rfl (hG.o (by decide) rfl) (by decide) (e33) ?_
  refine wp_istore d193_22 (Nat.le_of_ble_eq_true rfl) rfl ?_
  refine wp_aload_n d193_24 rfl ?_
  refine wp_iload d193_25 rfl ?_
  refine wp_iload d193_27 rfl ?_
  refine wp_virt (as := [.int (zI 0), .int (zI r1)]) (rest := []) d193_29 rfl rfl rfl (hG.o (by decide) rfl) rfl rfl (Nat.le_of_ble_eq_true rfl) ?_
  refine wc_deep (show d + 6 + 1 ≤ d + 7 by omega) ?_
  refine m_cell hG (by omega) (by omega) ?_
  rw [ec]
  refine wp_istore d193_32 (Nat.le_of_ble_eq_true rfl) rfl ?_
  refine wp_aload_n d193_34 rfl ?_
  refine wp_getR (q := 59) d193_35 rfl (hG.o (by decide) rfl) (by decide) (hG.r (by decide +kernel)) (by decide) ?_
  refine wp_iload_n d193_38 rfl ?_
  refine wz_iald (z := 128) (v := 7) d193_39 (hG.a (by decide) rfl rfl) (by omega) (by omega) (by decide) (c59) ?_
  refine wz_bipush d193_40 (by decide) ?_
  refine wz_icmp_ne (t := 97) d193_42 (by decide) ⟨by omega, by omega⟩ ⟨by omega, by omega⟩ (fun hb => absurd (by omega) hb) (fun _ => ?_)
  refine wp_iload d193_45 rfl ?_
  refine wz_iconst d193_47 ?_
  refine wz_icmp_ne (t := 95) d193_48 (by decide) ⟨by omega, by omega⟩ ⟨by omega, by omega⟩ (fun hq => ?_) (fun hq => ?_)
  · skip
    refine wz_iconst d193_95 ?_
    refine wp_ret d193_96 rfl (h N1 0 hM1 rl1 ?_)
    unfold tyA
    rw [if_neg (fun e => hq (by rw [e.1]; rfl))]
    exact rfl
  have h1 : hd (expo Γ Γ.length S) = 1 := by omega
  have lb := lb h1
  obtain ⟨A, B, eR, oA, oB⟩ := hd_is_fun oR.1 h1
  have ek1 : k1 (expo Γ Γ.length S) = A := by rw [eR]; rfl
  have ek2 : k2 (expo Γ Γ.length S) = B := by rw [eR]; rfl
  rw [ek1] at lb
  have lF : (flat A).length + (flat B).length + 1 ≤ 16 := by
    have := oR.2
    rw [eR, flat_fun, List.length_cons, List.length_append] at this
    omega
  have rows : Row N1 r1 (0 + 1) (flat A) ∧ Row N1 r1 (0 + 1 + (flat A).length) (flat B) := by
    rw [eR, flat_fun] at row1
    exact Row.app.mp row1.2
  have rT : Row N1 (4 + j) 0 (flat T) := fr1.row (by omega) (by omega) hT
  have th : TH N1 u1 x (4 + j) 0 r1 1 c (Γ.length : Int) (Γ, T, A) := ⟨by omega, by omega, by omega, (show (0 : Int) + ((flat T).length : Int) ≤ 17 by omega), rT, by omega, by omega, by omega, (show (1 : Int) + ((flat A).length : Int) ≤ 17 by omega), rows.1, cx1, rfl, cx.okc, oT, oA⟩
  refine wp_aload_n d193_51 rfl ?_
  refine wz_iconst d193_52 ?_
  refine wp_iload_n d193_53 rfl ?_
  refine wz_iadd d193_54 ?_
  refine wz_iconst d193_55 ?_
  refine wp_iload d193_56 rfl ?_
  refine wp_iload d193_58 rfl ?_
  refine wz_iconst d193_60 ?_
  refine wz_iadd d193_61 ?_
  refine wp_iload_n d193_62 rfl ?_
  refine wp_iload d193_63 rfl ?_
  refine wp_virt (as := [.int (zI (Γ.length : Int)), .int (zI c), .int (zI 1), .int (zI r1), .int (zI 0), .int (zI (4 + j))]) (rest := []) d193_65 rfl rfl rfl (hG.o (by decide) rfl) rfl rfl (Nat.le_of_ble_eq_true rfl) ?_
  refine m_under2 (d := d) hG hM1 e22 x24 th x0 lb.2.1 (by have := lb.2.2; omega) (by have := lb.2.2; omega) (by have := lb.1; omega) (fun hB N2 k2' => ?_) (fun hB N2 k2' => ?_)
  · skip
    have rl2 := rl1.uk v1 k2'
    have ta : tyA Γ (expo Γ Γ.length S) T = some B := by unfold tyA; rw [if_pos ⟨h1, by rw [ek1]; exact hB⟩, ek2]
    rw [ta] at h
    refine wz_if_eq (t := 95) d193_68 (by decide) ⟨by omega, by omega⟩ (fun hb => absurd hb (by decide)) (fun _ => ?_)
    refine wp_aload_n d193_71 rfl ?_
    refine wp_iload_n d193_72 rfl ?_
    refine wp_iload d193_73 rfl ?_
    refine wp_aload_n d193_75 rfl ?_
    refine wp_iload d193_76 rfl ?_
    refine wp_iload d193_78 rfl ?_
    refine wz_iconst d193_80 ?_
    refine wz_iadd d193_81 ?_
    refine wp_virt (as := [.int (zI 1), .int (zI r1)]) (rest := [.int (zI r1), .int (zI i), .ref 56]) d193_82 rfl rfl rfl (hG.o (by decide) rfl) rfl rfl (Nat.le_of_ble_eq_true rfl) ?_
    refine wc_deep (show d + 5 + 2 ≤ d + 7 by omega) ?_
    refine m_end (l := flat A) hG k2'.2.1 (by omega) (by omega) (by omega) (by omega) (k2'.1.row v4 (by omega) rows.1) (ok_pre A _ oA) ?_
    refine wp_virt (as := [.int (zI (1 + ((flat A).length : Int))), .int (zI r1), .int (zI i)]) (rest := []) d193_85 rfl rfl rfl (hG.o (by decide) rfl) rfl rfl (Nat.le_of_ble_eq_true rfl) ?_
    refine wc_deep (show d + 3 + 4 ≤ d + 7 by omega) ?_
    refine m_gets (l := flat B) hG k2'.2.1 (by omega) (by omega) (by omega) (by omega) (by omega) (by omega) (by omega) (by omega) (k2'.1.row v4 (by omega) rows.2) (ok_pre B _ oB) ?_
    refine wz_if_eq (t := 95) d193_88 (by decide) ⟨by omega, by omega⟩ (fun hb => absurd hb (by decide)) (fun _ => ?_)
    refine wz_iconst d193_91 ?_
    refine wp_goto (t := 96) d193_92 (by decide) ?_
    refine wp_ret d193_96 rfl (h _ 1 (mput_R32 k2'.2.1 ((k2'.1.row v4 (by omega) rows.2).R32 k2'.2.1)) (rl2.put (Or.inl rfl) (by omega)) ⟨rfl, ?_⟩)
    have := mput_row (flat B) N2 (4 + i) 0
    rw [Int.add_zero] at this
    exact this
  · skip
    have rl2 := rl1.uk v1 k2'
    have ta : tyA Γ (expo Γ Γ.length S) T = none := by unfold tyA; rw [if_neg (fun e => hB (by rw [← ek1]; exact e.2))]
    rw [ta] at h
    refine wz_if_eq (t := 95) d193_68 (by decide) ⟨by omega, by omega⟩ (fun _ => ?_) (fun hb => absurd (by decide) hb)
    refine wz_iconst d193_95 ?_
    exact wp_ret d193_96 rfl (h N2 0 k2'.2.1 rl2 rfl)
theorem m_fieldN {r : Int} {m D g : Nat} {x y z : Ty} (hG : pm_G Rf K L n) (hM : ∀ p i, R32 (N p i)) (r0 : 0 ≤ r) (r1 : r < 1100) (hm : m < 8) (lR : (flat (tRec m x y z)).length ≤ 16) (hr : Row N r 0 (flat (tRec m x y z))) (h0 : okl D m 0 x) (h1 : okl D m 1 y) (h2 : okl D m 2 z) (hg : g < 3) (h : ∀ v : Int, 0 ≤ v → v + ((flat (pt (tRec m x y z) g)).length : Int) ≤ 17 → Row N r v (flat (pt (tRec m x y z) g)) → Q (some (.int (zI v))) (zM N, Rf, K, L, n, s)) : pm_Wc (d + 3) 159 [.ref 56, .int (zI r), .int (zI 0), .int (zI (g : Int))] (zM N, Rf, K, L, n, s) Q := by
  have ll : (flat (tRec m x y z)).length = 1 + (flat x).length + (flat y).length + (flat z).length := by rw [flat_rec, List.length_cons, List.length_append, List.length_append]; omega
  have rows : Row N r 1 (flat x) ∧ Row N r (1 + (flat x).length) (flat y) ∧ Row N r (1 + (flat x).length + (flat y).length) (flat z) := by
    rw [flat_rec] at hr
    have q := Row.app.mp hr.2
    have q2 := Row.app.mp q.2
    exact ⟨q.1, q2.1, q2.2⟩
  rcases (show g = 0 ∨ g = 1 ∨ g = 2 by omega) with rfl | rfl | rfl
  · rw [(pt_rec hm x y z).1] at h
    refine m_field0 (D := D) hG hM r0 r1 (by omega) (by omega) hm hr h0 h1 h2 (h _ (by omega) ?_ rows.1)
    show (0 : Int) + 1 + ((0 : Nat) : Int) + _ ≤ 17
    omega
  · rw [(pt_rec hm x y z).2.1] at h
    refine m_field1 (D := D) hG hM r0 r1 (by omega) (by omega) hm hr h0 h1 h2 (h _ (by omega) ?_ ?_)
    · show (0 : Int) + 1 + (((flat x).length : Nat) : Int) + _ ≤ 17
      omega
    · show Row N r (0 + 1 + (((flat x).length : Nat) : Int)) _
      rw [show (0 : Int) + 1 + ((flat x).length : Int) = 1 + ((flat x).length : Int) by omega]
      exact rows.2.1
  · rw [(pt_rec hm x y z).2.2] at h
    refine m_field2 (D := D) hG hM r0 r1 (by omega) (by omega) hm hr h0 h1 h2 (h _ (by omega) ?_ ?_)
    · show (0 : Int) + 1 + (((flat x).length + (flat y).length : Nat) : Int) + _ ≤ 17
      omega
    · show Row N r (0 + 1 + (((flat x).length + (flat y).length : Nat) : Int)) _
      rw [show (0 : Int) + 1 + (((flat x).length + (flat y).length : Nat) : Int) = 1 + ((flat x).length : Int) + ((flat y).length : Int) by omega]
      exact rows.2.2
theorem m_app11 {i j x c : Int} {m : Nat} {Γ : List Ty} {S : Ty} (hG : pm_G Rf K L n) (hM : ∀ p i, R32 (N p i)) (hu : N 56 22 = 132) (hx : N 56 24 = x) (x0 : 0 ≤ x) (x1 : x ≤ 12) (i0 : 0 ≤ i) (i1 : i < 59) (cx : Ctx N 132 x c Γ) (lG : Γ.length ≤ 25) (sz : szc 16 Γ) (oS : ok Γ.length S = true) (lS : (flat S).length ≤ 16) (hS : Row N (4 + i + 1) 0 (flat S)) (h59 : N 59 i = 11) (h60 : N 60 i = (m : Int)) (m3 : m < 3) (h : ∀ (N' : pm_M) (r : Int), (∀ p i, R32 (N' p i)) → RLf i x N N' → RA N' i (tyD m (expo Γ Γ.length S)) r → Q (some (.int (zI r))) (zM N', Rf, K, L, n, s)) : pm_Wc (d + 8) 193 [.ref 56, .int (zI i), .int (zI j), .int (zI c), .int (zI (Γ.length : Int))] (zM N, Rf, K, L, n, s) Q := by
  refine wc_in (ls0 := [some (.ref 56), some (.int (zI i)), some (.int (zI j)), some (.int (zI c)), some (.int (zI (Γ.length : Int))), none, none, none, none]) (by decide) (Nat.le_of_ble_eq_true rfl) rfl rfl ?_
  refine wp_aload_n d193_0 rfl ?_
  refine wz_iconst d193_1 ?_
  refine wp_iload_n d193_2 rfl ?_
  refine wz_iadd d193_3 ?_
  refine wz_iconst d193_4 ?_
  refine wz_iadd d193_5 ?_
  refine wp_iload_n d193_6 rfl ?_
  refine wp_iload d193_7 rfl ?_
  refine wp_virt (as := [.int (zI (Γ.length : Int)), .int (zI c), .int (zI ((4 + i) + 1))]) (rest := []) d193_9 rfl rfl rfl (hG.o (by decide) rfl) rfl rfl (Nat.le_of_ble_eq_true rfl) ?_
  refine wc_deep (show d + 1 + 6 ≤ d + 7 by omega) ?_
  refine m_expose (x := x) (S := S) hG hM hu cx (by omega) (by omega) (by omega) (by omega) (by omega) oS lS hS (fun N1 r1 u1 hM1 fr1 e22 e32 e33 v1 v2 v3 v4 v5 row1 => ?_)
  have oR := (expo_ok cx.okc sz Γ.length S oS lS)
  have hR := expo_hd cx.okc Γ.length S oS (lv_le oS)
  have rl1 : RLf i x N N1 := (RLf.refl i x N).xp fr1
  have c59 : N1 59 i = 11 := (fr1 59 i (by unfold WXP; omega)).trans h59
  have ec : N1 73 (17 * r1 + 0) = (hd (expo Γ Γ.length S) : Int) := by obtain ⟨w, hw⟩ := flat_hd oR.1; rw [hw] at row1; exact row1.1
  have x24 : N1 56 24 = x := (fr1 56 24 (by unfold WXP; omega)).trans hx
  have cx1 : Ctx N1 u1 x c Γ := fr1.ctx v1 cx
  refine wp_aload_n d193_12 rfl ?_
  refine wz_getI (v := r1) d193_13 rfl (hG.o (by decide) rfl) (by decide) (e32) ?_
  refine wp_istore d193_16 (Nat.le_of_ble_eq_true rfl) rfl ?_
  refine wp_aload_n d193_18 rfl ?_
  refine wz_getI (v := 0) d193_19 rfl (hG.o (by decide) rfl) (by decide) (e33) ?_
  refine wp_istore d193_22 (Nat.le_of_ble_eq_true rfl) rfl ?_
  refine wp_aload_n d193_24 rfl ?_
  refine wp_iload d193_25 rfl ?_
  refine wp_iload d193_27 rfl ?_
  refine wp_virt (as := [.int (zI 0), .int (zI r1)]) (rest := []) d193_29 rfl rfl rfl (hG.o (by decide) rfl) rfl rfl (Nat.le_of_ble_eq_true rfl) ?_
  refine wc_deep (show d + 6 + 1 ≤ d + 7 by omega) ?_
  refine m_cell hG (by omega) (by omega) ?_
  rw [ec]
  refine wp_istore d193_32 (Nat.le_of_ble_eq_true rfl) rfl ?_
  refine wp_aload_n d193_34 rfl ?_
  refine wp_getR (q := 59) d193_35 rfl (hG.o (by decide) rfl) (by decide) (hG.r (by decide +kernel)) (by decide) ?_
  refine wp_iload_n d193_38 rfl ?_
  refine wz_iald (z := 128) (v := 11) d193_39 (hG.a (by decide) rfl rfl) (by omega) (by omega) (by decide) (c59) ?_
  refine wz_bipush d193_40 (by decide) ?_
  refine wz_icmp_ne (t := 97) d193_42 (by decide) ⟨by omega, by omega⟩ ⟨by omega, by omega⟩ (fun _ => ?_) (fun hb => absurd hb (by omega))
  refine wp_aload_n d193_97 rfl ?_
  refine wp_getR (q := 59) d193_98 rfl (hG.o (by decide) rfl) (by decide) (hG.r (by decide +kernel)) (by decide) ?_
  refine wp_iload_n d193_101 rfl ?_
  refine wz_iald (z := 128) (v := 11) d193_102 (hG.a (by decide) rfl rfl) (by omega) (by omega) (by decide) (c59) ?_
  refine wz_bipush d193_103 (by decide) ?_
  refine wz_icmp_ne (t := 160) d193_105 (by decide) ⟨by omega, by omega⟩ ⟨by omega, by omega⟩ (fun hb => absurd (by omega) hb) (fun _ => ?_)
  have c60 : N1 60 i = (m : Int) := (fr1 60 i (by unfold WXP; omega)).trans h60
  refine wp_iload d193_108 rfl ?_
  refine wz_bipush d193_110 (by decide) ?_
  refine wz_icmp_lt (t := 158) d193_112 (by decide) ⟨by omega, by omega⟩ ⟨by omega, by omega⟩ (fun hq => ?_) (fun hq => ?_)
  · skip
    refine wz_iconst d193_158 ?_
    refine wp_ret d193_159 rfl (h N1 0 hM1 rl1 ?_)
    unfold tyD
    rw [if_neg (fun e => by omega)]
    exact rfl
  obtain ⟨m', X, Y, Z, m8, eR⟩ := hd_is_rec oR.1 (by omega) hR
  have oR' := oR.1
  rw [eR] at oR'
  obtain ⟨oX, oY, oZ⟩ := (ok_rec m8).mp oR'
  have eb : ((((hd (expo Γ Γ.length S) : Int).toNat / 2 ^ (m : Int).toNat : Nat) : Int) % 2 = 1) ↔ bit m' m = true := by
    rw [Int.toNat_natCast, Int.toNat_natCast, eR, hd_rec, ← bit_8 m' m8 m m3, bit_iff]
    omega
  have lR := oR.2
  rw [eR] at lR row1
  refine wp_iload d193_115 rfl ?_
  refine wp_aload_n d193_117 rfl ?_
  refine wp_getR (q := 60) d193_118 rfl (hG.o (by decide) rfl) (by decide) (hG.r (by decide +kernel)) (by decide) ?_
  refine wp_iload_n d193_121 rfl ?_
  refine wz_iald (z := 128) (v := (m : Int)) d193_122 (hG.a (by decide) rfl rfl) (by omega) (by omega) (by decide) (c60) ?_
  refine wz_ishr d193_123 (by omega) (by omega) (by omega) (by omega) ?_
  refine wz_iconst d193_124 ?_
  refine wz_and1 d193_125 (by first | omega | exact Int.natCast_nonneg _) ?_
  refine wz_iconst d193_126 ?_
  refine wz_icmp_ne (t := 158) d193_127 (by decide) ⟨by omega, by omega⟩ ⟨by omega, by omega⟩ (fun hz => ?_) (fun hz => ?_)
  · skip
    refine wz_iconst d193_158 ?_
    refine wp_ret d193_159 rfl (h N1 0 hM1 rl1 ?_)
    have nb : ¬ bit m' m = true := fun q => hz (eb.mpr q)
    unfold tyD
    rw [eR, hd_rec, if_neg (fun e => nb (by have := e.2; rw [show 8 + m' - 8 = m' by omega] at this; exact this))]
    exact rfl
  have yb : bit m' m = true := eb.mp (by omega)
  have ta : tyD m (expo Γ Γ.length S) = some (pt (tRec m' X Y Z) m) := by
    unfold tyD
    rw [eR, hd_rec, if_pos ⟨⟨by omega, by omega⟩, by rw [show 8 + m' - 8 = m' by omega]; exact yb⟩]
  rw [ta] at h
  have oP : ok Γ.length (pt (tRec m' X Y Z) m) = true := by
    have hb := bit_iff.mp yb
    rcases (show m = 0 ∨ m = 1 ∨ m = 2 by omega) with e | e | e
    · rw [e] at hb ⊢; rw [(pt_rec m8 X Y Z).1]; exact okl_on oX hb
    · rw [e] at hb ⊢; rw [(pt_rec m8 X Y Z).2.1]; exact okl_on oY hb
    · rw [e] at hb ⊢; rw [(pt_rec m8 X Y Z).2.2]; exact okl_on oZ hb
  have lP := len_pts oR'
  refine wp_aload_n d193_130 rfl ?_
  refine wp_iload_n d193_131 rfl ?_
  refine wp_iload d193_132 rfl ?_
  refine wp_aload_n d193_134 rfl ?_
  refine wp_iload d193_135 rfl ?_
  refine wp_iload d193_137 rfl ?_
  refine wp_aload_n d193_139 rfl ?_
  refine wp_getR (q := 60) d193_140 rfl (hG.o (by decide) rfl) (by decide) (hG.r (by decide +kernel)) (by decide) ?_
  refine wp_iload_n d193_143 rfl ?_
  refine wz_iald (z := 128) (v := (m : Int)) d193_144 (hG.a (by decide) rfl rfl) (by omega) (by omega) (by decide) (c60) ?_
  refine wp_virt (as := [.int (zI (m : Int)), .int (zI 0), .int (zI r1)]) (rest := [.int (zI r1), .int (zI i), .ref 56]) d193_145 rfl rfl rfl (hG.o (by decide) rfl) rfl rfl (Nat.le_of_ble_eq_true rfl) ?_
  refine wc_deep (show d + 4 + 3 ≤ d + 7 by omega) ?_
  refine m_fieldN (D := Γ.length) hG hM1 v3 (by omega) m8 lR row1 oX oY oZ m3 (fun v w0 w1 w2 => ?_)
  refine wp_virt (as := [.int (zI v), .int (zI r1), .int (zI i)]) (rest := []) d193_148 rfl rfl rfl (hG.o (by decide) rfl) rfl rfl (Nat.le_of_ble_eq_true rfl) ?_
  refine wc_deep (show d + 3 + 4 ≤ d + 7 by omega) ?_
  have l16 : (flat (pt (tRec m' X Y Z) m)).length ≤ 16 := by
    rcases (show m = 0 ∨ m = 1 ∨ m = 2 by omega) with e | e | e <;> rw [e] <;> omega
  refine m_gets (l := flat (pt (tRec m' X Y Z) m)) hG hM1 (by omega) (by omega) (by omega) (by omega) w0 w1 l16 (by omega) w2 (ok_pre _ _ oP) ?_
  refine wz_if_eq (t := 158) d193_151 (by decide) ⟨by omega, by omega⟩ (fun hb => absurd hb (by decide)) (fun _ => ?_)
  refine wz_iconst d193_154 ?_
  refine wp_goto (t := 159) d193_155 (by decide) ?_
  refine wp_ret d193_159 rfl (h _ 1 (mput_R32 hM1 (w2.R32 hM1)) (rl1.put (Or.inl rfl) (by omega)) ⟨rfl, ?_⟩)
  have := mput_row (flat (pt (tRec m' X Y Z) m)) N1 (4 + i) 0
  rw [Int.add_zero] at this
  exact this
theorem m_app9 {a b : Nat} {i x c : Int} {j : Nat} {Γ : List Ty} {S A : Ty} (hG : pm_G Rf K L n) (hM : ∀ p i, R32 (N p i)) (hu : N 56 22 = 132) (hx : N 56 24 = x) (x0 : 0 ≤ x) (x1 : x ≤ 12) (i0 : 0 ≤ i) (i1 : i < 59) (cx : Ctx N 132 x c Γ) (lG : Γ.length ≤ 25) (sz : szc 16 Γ) (oS : ok Γ.length S = true) (lS : (flat S).length ≤ 16) (hS : Row N (4 + i + 1) 0 (flat S)) (h59 : N 59 i = 9) (a60 : a ≤ 60) (b60 : b ≤ 60) (nt : NTl 0 N a b j (flat A) true) (ja : j + (flat A).length ≤ a) (oA : ok Γ.length A = true) (lA : (flat A).length ≤ 16) (lb : hd (expo Γ Γ.length S) = 2 → LB Γ A (k1 (expo Γ Γ.length S))) (h : ∀ (N' : pm_M) (r : Int), (∀ p i, R32 (N' p i)) → RLf i x N N' → RA N' i ((tyI Γ (expo Γ Γ.length S) A).bind (fun X => if (flat X).length ≤ 16 then some X else none)) r → Q (some (.int (zI r))) (zM N', Rf, K, L, n, s)) : pm_Wc (d + 8) 193 [.ref 56, .int (zI i), .int (zI (j : Int)), .int (zI c), .int (zI (Γ.length : Int))] (zM N, Rf, K, L, n, s) Q := by
  refine wc_in (ls0 := [some (.ref 56), some (.int (zI i)), some (.int (zI (j : Int))), some (.int (zI c)), some (.int (zI (Γ.length : Int))), none, none, none, none]) (by decide) (Nat.le_of_ble_eq_true rfl) rfl rfl ?_
  refine wp_aload_n d193_0 rfl ?_
  refine wz_iconst d193_1 ?_
  refine wp_iload_n d193_2 rfl ?_
  refine wz_iadd d193_3 ?_
  refine wz_iconst d193_4 ?_
  refine wz_iadd d193_5 ?_
  refine wp_iload_n d193_6 rfl ?_
  refine wp_iload d193_7 rfl ?_
  refine wp_virt (as := [.int (zI (Γ.length : Int)), .int (zI c), .int (zI ((4 + i) + 1))]) (rest := []) d193_9 rfl rfl rfl (hG.o (by decide) rfl) rfl rfl (Nat.le_of_ble_eq_true rfl) ?_
  refine wc_deep (show d + 1 + 6 ≤ d + 7 by omega) ?_
  refine m_expose (x := x) (S := S) hG hM hu cx (by omega) (by omega) (by omega) (by omega) (by omega) oS lS hS (fun N1 r1 u1 hM1 fr1 e22 e32 e33 v1 v2 v3 v4 v5 row1 => ?_)
  have oR := (expo_ok cx.okc sz Γ.length S oS lS)
  have hR := expo_hd cx.okc Γ.length S oS (lv_le oS)
  have rl1 : RLf i x N N1 := (RLf.refl i x N).xp fr1
  have c59 : N1 59 i = 9 := (fr1 59 i (by unfold WXP; omega)).trans h59
  have ec : N1 73 (17 * r1 + 0) = (hd (expo Γ Γ.length S) : Int) := by obtain ⟨w, hw⟩ := flat_hd oR.1; rw [hw] at row1; exact row1.1
  have x24 : N1 56 24 = x := (fr1 56 24 (by unfold WXP; omega)).trans hx
  have cx1 : Ctx N1 u1 x c Γ := fr1.ctx v1 cx
  refine wp_aload_n d193_12 rfl ?_
  refine wz_getI (v := r1) d193_13 rfl (hG.o (by decide) rfl) (by decide) (e32) ?_
  refine wp_istore d193_16 (Nat.le_of_ble_eq_true rfl) rfl ?_
  refine wp_aload_n d193_18 rfl ?_
  refine wz_getI (v := 0) d193_19 rfl (hG.o (by decide) rfl) (by decide) (e33) ?_
  refine wp_istore d193_22 (Nat.le_of_ble_eq_true rfl) rfl ?_
  refine wp_aload_n d193_24 rfl ?_
  refine wp_iload d193_25 rfl ?_
  refine wp_iload d193_27 rfl ?_
  refine wp_virt (as := [.int (zI 0), .int (zI r1)]) (rest := []) d193_29 rfl rfl rfl (hG.o (by decide) rfl) rfl rfl (Nat.le_of_ble_eq_true rfl) ?_
  refine wc_deep (show d + 6 + 1 ≤ d + 7 by omega) ?_
  refine m_cell hG (by omega) (by omega) ?_
  rw [ec]
  refine wp_istore d193_32 (Nat.le_of_ble_eq_true rfl) rfl ?_
  refine wp_aload_n d193_34 rfl ?_
  refine wp_getR (q := 59) d193_35 rfl (hG.o (by decide) rfl) (by decide) (hG.r (by decide +kernel)) (by decide) ?_
  refine wp_iload_n d193_38 rfl ?_
  refine wz_iald (z := 128) (v := 9) d193_39 (hG.a (by decide) rfl rfl) (by omega) (by omega) (by decide) (c59) ?_
  refine wz_bipush d193_40 (by decide) ?_
  refine wz_icmp_ne (t := 97) d193_42 (by decide) ⟨by omega, by omega⟩ ⟨by omega, by omega⟩ (fun _ => ?_) (fun hb => absurd hb (by omega))
  refine wp_aload_n d193_97 rfl ?_
  refine wp_getR (q := 59) d193_98 rfl (hG.o (by decide) rfl) (by decide) (hG.r (by decide +kernel)) (by decide) ?_
  refine wp_iload_n d193_101 rfl ?_
  refine wz_iald (z := 128) (v := 9) d193_102 (hG.a (by decide) rfl rfl) (by omega) (by omega) (by decide) (c59) ?_
  refine wz_bipush d193_103 (by decide) ?_
  refine wz_icmp_ne (t := 160) d193_105 (by decide) ⟨by omega, by omega⟩ ⟨by omega, by omega⟩ (fun _ => ?_) (fun hb => absurd hb (by omega))
  refine wp_aload_n d193_160 rfl ?_
  refine wp_virt (as := []) (rest := []) d193_161 rfl rfl rfl (hG.o (by decide) rfl) rfl rfl (Nat.le_of_ble_eq_true rfl) ?_
  refine wc_deep (show d + 6 + 1 ≤ d + 7 by omega) ?_
  refine m_fresh hG e22 ?_
  refine wp_istore d193_164 (Nat.le_of_ble_eq_true rfl) rfl ?_
  refine wp_aload_n d193_166 rfl ?_
  refine wp_iload_n d193_167 rfl ?_
  refine wp_iload d193_168 rfl ?_
  refine wp_virt (as := [.int (zI u1), .int (zI (j : Int))]) (rest := []) d193_170 rfl rfl rfl (hG.o (by decide) rfl) rfl rfl (Nat.le_of_ble_eq_true rfl) ?_
  have R2 : ∀ p i, R32 (mset N1 56 22 (u1 + 1) p i) := mset_R32 hM1 ⟨by omega, by omega⟩
  have nt2 : NTl 0 (mset N1 56 22 (u1 + 1)) a b j (flat A) true := nt.kpg (fun q k q1 q2 _ _ => (mset_p _ _ _ _ (by omega)).trans (fr1 q k (by unfold WXP; omega))) (fun q k q1 q2 _ _ => (mset_p _ _ _ _ (by omega)).trans (fr1 q k (by unfold WXP; omega))) ja
  refine wc_deep (show d + 4 + 3 ≤ d + 7 by omega) ?_
  refine m_fill (lo := 0) (nd := a) (sc := b) (D := Γ.length) hG R2 nt2 (by omega) oA lA (by omega) (by omega) (by omega) (fun R3 => ?_)
  have rl3 : RLf i x N (mput (mset N1 56 22 (u1 + 1)) 73 (17 * u1) (flat A)) := (rl1.fr).put (Or.inr v1) (by omega)
  have fx3 : XPF 132 N (mput (mset N1 56 22 (u1 + 1)) 73 (17 * u1) (flat A)) := (fr1.set (Or.inl rfl)).put v1
  have rw3 : Row (mput (mset N1 56 22 (u1 + 1)) 73 (17 * u1) (flat A)) u1 0 (flat A) := by
    have := mput_row (flat A) (mset N1 56 22 (u1 + 1)) u1 0
    rw [Int.add_zero] at this
    exact this
  have k22 : (mput (mset N1 56 22 (u1 + 1)) 73 (17 * u1) (flat A)) 56 22 = u1 + 1 := by rw [mput_p _ _ _ _ (by decide), mset_s]
  have k24 : (mput (mset N1 56 22 (u1 + 1)) 73 (17 * u1) (flat A)) 56 24 = x := by rw [mput_p _ _ _ _ (by decide), mset_i _ _ _ _ (by decide)]; exact x24
  have row3 : Row (mput (mset N1 56 22 (u1 + 1)) 73 (17 * u1) (flat A)) r1 0 (flat (expo Γ Γ.length S)) := Row.same (fun k k0 k1 => (mput_o _ _ _ _ (by have := oR.2; omega)).trans (mset_p _ _ _ _ (by decide))) row1
  have cx3 : Ctx (mput (mset N1 56 22 (u1 + 1)) 73 (17 * u1) (flat A)) (u1 + 1) x c Γ := fx3.ctx (by omega) cx
  refine wp_iload d193_173 rfl ?_
  refine wz_iconst d193_175 ?_
  refine wz_icmp_ne (t := 218) d193_176 (by decide) ⟨by omega, by omega⟩ ⟨by omega, by omega⟩ (fun hq => ?_) (fun hq => ?_)
  · skip
    refine wz_iconst d193_218 ?_
    refine wp_ret d193_219 rfl (h _ 0 R3 rl3 ?_)
    have ta : tyI Γ (expo Γ Γ.length S) A = none := by unfold tyI; rw [if_neg (fun e => hq (by rw [e.1]; rfl))]
    rw [ta]
    exact rfl
  have h1 : hd (expo Γ Γ.length S) = 2 := by omega
  have lb := lb h1
  obtain ⟨X, B, eR, oX, oB⟩ := hd_is_all oR.1 h1
  have ek1 : k1 (expo Γ Γ.length S) = X := by rw [eR]; rfl
  have ek2 : k2 (expo Γ Γ.length S) = B := by rw [eR]; rfl
  rw [ek1] at lb
  have oR' := oR.1
  have lR := oR.2
  rw [eR] at row3 oR' lR
  have lF : (flat X).length + (flat B).length + 1 ≤ 16 := by
    have := lR
    rw [flat_all, List.length_cons, List.length_append] at this
    omega
  have rows : Row (mput (mset N1 56 22 (u1 + 1)) 73 (17 * u1) (flat A)) r1 (0 + 1) (flat X) := by
    have q := row3
    rw [flat_all] at q
    exact (Row.app.mp q.2).1
  have th : TH (mput (mset N1 56 22 (u1 + 1)) 73 (17 * u1) (flat A)) (u1 + 1) x u1 0 r1 1 c (Γ.length : Int) (Γ, A, X) := ⟨by omega, by omega, by omega, (show (0 : Int) + ((flat A).length : Int) ≤ 17 by omega), rw3, by omega, by omega, by omega, (show (1 : Int) + ((flat X).length : Int) ≤ 17 by omega), rows, cx3, rfl, cx.okc, oA, oX⟩
  refine wp_aload_n d193_179 rfl ?_
  refine wp_iload d193_180 rfl ?_
  refine wz_iconst d193_182 ?_
  refine wp_iload d193_183 rfl ?_
  refine wp_iload d193_185 rfl ?_
  refine wz_iconst d193_187 ?_
  refine wz_iadd d193_188 ?_
  refine wp_iload_n d193_189 rfl ?_
  refine wp_iload d193_190 rfl ?_
  refine wp_virt (as := [.int (zI (Γ.length : Int)), .int (zI c), .int (zI 1), .int (zI r1), .int (zI 0), .int (zI u1)]) (rest := []) d193_192 rfl rfl rfl (hG.o (by decide) rfl) rfl rfl (Nat.le_of_ble_eq_true rfl) ?_
  refine m_under2 (d := d) hG R3 k22 k24 th x0 lb.2.1 (by have := lb.2.2; omega) (by have := lb.2.2; omega) (by have := lb.1; omega) (fun hB N4 k4 => ?_) (fun hB N4 k4 => ?_)
  · skip
    have rl4 := rl3.uk (by omega) k4
    have ta : tyI Γ (expo Γ Γ.length S) A = some (sbt Γ.length A 0 B) := by unfold tyI; rw [if_pos ⟨h1, by rw [ek1]; exact hB⟩, ek2]
    rw [ta] at h
    refine wz_if_eq (t := 218) d193_195 (by decide) ⟨by omega, by omega⟩ (fun hb => absurd hb (by decide)) (fun _ => ?_)
    refine wp_aload_n d193_198 rfl ?_
    refine wp_iload_n d193_199 rfl ?_
    refine wp_iload d193_200 rfl ?_
    refine wp_iload d193_202 rfl ?_
    refine wp_iload d193_204 rfl ?_
    refine wp_iload d193_206 rfl ?_
    refine wp_virt (as := [.int (zI (Γ.length : Int)), .int (zI u1), .int (zI 0), .int (zI r1), .int (zI i)]) (rest := []) d193_208 rfl rfl rfl (hG.o (by decide) rfl) rfl rfl (Nat.le_of_ble_eq_true rfl) ?_
    refine wc_deep (show d + 2 + 5 ≤ d + 7 by omega) ?_
    refine m_instance (u := u1 + 1) (X := X) (B := B) (A := A) hG k4.2.1 k4.2.2.1 i0 (by omega) v3 (by omega) (by omega) (by omega) (by omega) (by omega) (by omega) oR' lR (k4.1.row (by omega) (by omega) row3) oA lA (k4.1.row (by omega) (by omega) rw3) (fun l16 N5 m1 m2 m3 => ?_) (fun l16 => ?_)
    · skip
      refine wz_if_eq (t := 218) d193_211 (by decide) ⟨by omega, by omega⟩ (fun hb => absurd hb (by decide)) (fun _ => ?_)
      refine wz_iconst d193_214 ?_
      refine wp_goto (t := 219) d193_215 (by decide) ?_
      refine wp_ret d193_219 rfl (h N5 1 m1 (rl4.win (by omega) m2) ?_)
      show RA N5 i (if (flat (sbt Γ.length A 0 B)).length ≤ 16 then some (sbt Γ.length A 0 B) else none) 1
      rw [if_pos l16]
      exact ⟨rfl, m3⟩
    · skip
      refine wz_if_eq (t := 218) d193_211 (by decide) ⟨by omega, by omega⟩ (fun _ => ?_) (fun hb => absurd (by decide) hb)
      refine wz_iconst d193_218 ?_
      refine wp_ret d193_219 rfl (h N4 0 k4.2.1 rl4 ?_)
      show RA N4 i (if (flat (sbt Γ.length A 0 B)).length ≤ 16 then some (sbt Γ.length A 0 B) else none) 0
      rw [if_neg l16]
      exact rfl
  · skip
    have rl4 := rl3.uk (by omega) k4
    have ta : tyI Γ (expo Γ Γ.length S) A = none := by unfold tyI; rw [if_neg (fun e => hB (by rw [← ek1]; exact e.2))]
    rw [ta] at h
    refine wz_if_eq (t := 218) d193_195 (by decide) ⟨by omega, by omega⟩ (fun _ => ?_) (fun hb => absurd (by decide) hb)
    refine wz_iconst d193_218 ?_
    exact wp_ret d193_219 rfl (h N4 0 k4.2.1 rl4 rfl)
end PmF8
