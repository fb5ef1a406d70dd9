/-! THE MODEL: application. -/
/-- what a rule may write -/
def WRl (i x : Int) (p : Nat) (k : Int) : Prop := (p = 56 ∧ (k = 22 ∨ k = 24 ∨ k = 32 ∨ k = 33 ∨ k = 34 ∨ k = 36)) ∨ (p = 73 ∧ (17 * 132 ≤ k ∨ (17 * (4 + i) ≤ k ∧ k < 17 * (4 + i) + 17))) ∨ ((p = 74 ∨ p = 75 ∨ p = 76) ∧ x ≤ k) ∨ (80 ≤ p ∧ p ≤ 86)
def RLf (i x : Int) (N N' : pm_M) : Prop := ∀ (p : Nat) (k : Int), ¬ WRl i x p k → N' p k = N p k
theorem RLf.refl (i x : Int) (N : pm_M) : RLf i x N N := fun _ _ _ => rfl
theorem RLf.xp {i x : Int} {N N1 N2 : pm_M} (h : RLf i x N N1) (h' : XPF 132 N1 N2) : RLf i x N N2 := fun p k w => (h' p k (fun e => w (by unfold WXP at e; unfold WRl; omega))).trans (h p k w)
theorem RLf.uk {i x u : Int} {N N1 N2 : pm_M} (h : RLf i x N N1) (hu : 132 ≤ u) (h' : UK N1 N2 u x) : RLf i x N N2 := fun p k w => (h'.1 p k (fun e => by unfold WRl at w; omega) (fun e => by unfold WRl at w; omega) (fun e => by unfold WRl at w; omega) (fun e => by unfold WRl at w; omega)).trans (h p k w)
theorem RLf.put {i x r : Int} {N N1 : pm_M} {l : List Int} (h : RLf i x N N1) (hr : r = 4 + i ∨ 132 ≤ r) (hl : l.length ≤ 17) : RLf i x N (mput N1 73 (17 * r) l) := by
  intro p k w
  unfold mput
  rw [if_neg (fun e => w (by unfold WRl; omega))]
  exact h p k w
theorem RLf.fr {i x : Int} {N N1 : pm_M} {v : Int} (h : RLf i x N N1) : RLf i x N (mset N1 56 22 v) := by
  intro p k w
  unfold mset
  rw [if_neg (fun e => w (by unfold WRl; omega))]
  exact h p k w
theorem RLf.win {i x u : Int} {N N1 N2 : pm_M} (h : RLf i x N N1) (hu : 132 ≤ u) (h' : ∀ p k, ¬ WIn i u p k → N2 p k = N1 p k) : RLf i x N N2 := fun p k w => (h' p k (fun e => w (by unfold WIn at e; unfold WRl; omega))).trans (h p k w)
/-- what a rule comes to -/
def RA (N : pm_M) (i : Int) : Option Ty → Int → Prop
  | none, r => r = 0
  | some A, r => r = 1 ∧ Row N (4 + i) 0 (flat A)
section PmF8
variable {d : Nat} {Q : Option Value → pm_S → Prop} {N : pm_M} {Rf : Nat → Nat → Nat} {K L : Nat → Nat} {n s : Nat}
theorem m_app7 {i j x c : Int} {Γ : List Ty} {S T : Ty} (hG : pm_G Rf K L n) (hM : ∀ p i, R32 (N p i)) (hu : N 56 22 = 132) (hx : N 56 24 = x) (x0 : 0 ≤ x) (x1 : x ≤ 60) (i0 : 0 ≤ i) (i1 : i < 59) (cx : Ctx N 132 x c Γ) (lG : Γ.length ≤ 25) (sz : szc 16 Γ) (oS : ok Γ.length S = true) (lS : (flat S).length ≤ 16) (hS : Row N (4 + i + 1) 0 (flat S)) (h59 : N 59 i = 7) (j0 : 0 ≤ j) (j1 : j < 60) (ji : j ≠ i) (oT : ok Γ.length T = true) (lT : (flat T).length ≤ 16) (hT : Row N (4 + j) 0 (flat T)) (lb : hd (expo Γ Γ.length S) = 1 → LB Γ T (k1 (expo Γ Γ.length S))) (h : ∀ (N' : pm_M) (r : Int), (∀ p i, R32 (N' p i)) → RLf i x N N' → RA N' i (tyA Γ (expo Γ Γ.length S) T) r → Q (some (.int (zI r))) (zM N', Rf, K, L, n, s)) : pm_Wc (d + 8) 193 [.ref 56, .int (zI i), .int (zI j), .int (zI c), .int (zI (Γ.length : Int))] (zM N, Rf, K, L, n, s) Q := by
  refine wc_in (ls0 := [some (.ref 56), some (.int (zI i)), some (.int (zI j)), some (.int (zI c)), some (.int (zI (Γ.length : Int))), none, none, none, none]) (by decide) (Nat.le_of_ble_eq_true rfl) rfl rfl ?_
  refine wp_aload_n d193_0 rfl ?_
  refine wz_iconst d193_1 ?_
  refine wp_iload_n d193_2 rfl ?_
  refine wz_iadd d193_3 ?_
  refine wz_iconst d193_4 ?_
  refine wz_iadd d193_5 ?_
  refine wp_iload_n d193_6 rfl ?_
  refine wp_iload d193_7 rfl ?_
  refine wp_virt (as := [.int (zI (Γ.length : Int)), .int (zI c), .int (zI ((4 + i) + 1))]) (rest := []) d193_9 rfl rfl rfl (hG.o (by decide) rfl) rfl rfl (Nat.le_of_ble_eq_true rfl) ?_
  refine wc_deep (show d + 1 + 6 ≤ d + 7 by omega) ?_
  refine m_expose (x := x) (S := S) hG hM hu cx (by omega) (by omega) (by omega) (by omega) (by omega) oS lS hS (fun N1 r1 u1 hM1 fr1 e22 e32 e33 v1 v2 v3 v4 v5 row1 => ?_)
  have oR := (expo_ok cx.okc sz Γ.length S oS lS)
  have hR := expo_hd cx.okc Γ.length S oS (lv_le oS)
  have rl1 : RLf i x N N1 := (RLf.refl i x N).xp fr1
  have c59 : N1 59 i = 7 := (fr1 59 i (by unfold WXP; omega)).trans h59
  have ec : N1 73 (17 * r1 + 0) = (hd (expo Γ Γ.length S) : Int) := by obtain ⟨w, hw⟩ := flat_hd oR.1; rw [hw] at row1; exact row1.1
  have x24 : N1 56 24 = x := (fr1 56 24 (by unfold WXP; omega)).trans hx
  have cx1 : Ctx N1 u1 x c Γ := fr1.ctx v1 cx
  refine wp_aload_n d193_12 rfl ?_
  refine wz_getI (v := r1) d193_13 rfl (hG.o (by decide) rfl) (by decide) (e32) ?_
  refine wp_istore d193_16 (Nat.le_of_ble_eq_true rfl) rfl ?_
  refine wp_aload_n d193_18 rfl ?_
  refine wz_getI (v := 0) d193_19 rfl (hG.o (by decide) rfl) (by decide) (e33) ?_
  refine wp_istore d193_22 (Nat.le_of_ble_eq_true rfl) rfl ?_
  refine wp_aload_n d193_24 rfl ?_
  refine wp_iload d193_25 rfl ?_
  refine wp_iload d193_27 rfl ?_
  refine wp_virt (as := [.int (zI 0), .int (zI r1)]) (rest := []) d193_29 rfl rfl rfl (hG.o (by decide) rfl) rfl rfl (Nat.le_of_ble_eq_true rfl) ?_
  refine wc_deep (show d + 6 + 1 ≤ d + 7 by omega) ?_
  refine m_cell hG (by omega) (by omega) ?_
  rw [ec]
  refine wp_istore d193_32 (Nat.le_of_ble_eq_true rfl) rfl ?_
  refine wp_aload_n d193_34 rfl ?_
  refine wp_getR (q := 59) d193_35 rfl (hG.o (by decide) rfl) (by decide) (hG.r (by decide +kernel)) (by decide) ?_
  refine wp_iload_n d193_38 rfl ?_
  refine wz_iald (z := 128) (v := 7) d193_39 (hG.a (by decide) rfl rfl) (by omega) (by omega) (by decide) (c59) ?_
  refine wz_bipush d193_40 (by decide) ?_
  refine wz_icmp_ne (t := 97) d193_42 (by decide) ⟨by omega, by omega⟩ ⟨by omega, by omega⟩ (fun hb => absurd (by omega) hb) (fun _ => ?_)
  refine wp_iload d193_45 rfl ?_
  refine wz_iconst d193_47 ?_
  refine wz_icmp_ne (t := 95) d193_48 (by decide) ⟨by omega, by omega⟩ ⟨by omega, by omega⟩ (fun hq => ?_) (fun hq => ?_)
  · skip
    refine wz_iconst d193_95 ?_
    refine wp_ret d193_96 rfl (h N1 0 hM1 rl1 ?_)
    unfold tyA
    rw [if_neg (fun e => hq (by rw [e.1]; rfl))]
    exact rfl
  have h1 : hd (expo Γ Γ.length S) = 1 := by omega
  have lb := lb h1
  obtain ⟨A, B, eR, oA, oB⟩ := hd_is_fun oR.1 h1
  have ek1 : k1 (expo Γ Γ.length S) = A := by rw [eR]; rfl
  have ek2 : k2 (expo Γ Γ.length S) = B := by rw [eR]; rfl
  rw [ek1] at lb
  have lF : (flat A).length + (flat B).length + 1 ≤ 16 := by
    have := oR.2
    rw [eR, flat_fun, List.length_cons, List.length_append] at this
    omega
  have rows : Row N1 r1 (0 + 1) (flat A) ∧ Row N1 r1 (0 + 1 + (flat A).length) (flat B) := by
    rw [eR, flat_fun] at row1
    exact Row.app.mp row1.2
  have rT : Row N1 (4 + j) 0 (flat T) := fr1.row (by omega) (by omega) hT
  have th : TH N1 u1 x (4 + j) 0 r1 1 c (Γ.length : Int) (Γ, T, A) := ⟨by omega, by omega, by omega, (show (0 : Int) + ((flat T).length : Int) ≤ 17 by omega), rT, by omega, by omega, by omega, (show (1 : Int) + ((flat A).length : Int) ≤ 17 by omega), rows.1, cx1, rfl, cx.okc, oT, oA⟩
  refine wp_aload_n d193_51 rfl ?_
  refine wz_iconst d193_52 ?_
  refine wp_iload_n d193_53 rfl ?_
  refine wz_iadd d193_54 ?_
  refine wz_iconst d193_55 ?_
  refine wp_iload d193_56 rfl ?_
  refine wp_iload d193_58 rfl ?_
  refine wz_iconst d193_60 ?_
  refine wz_iadd d193_61 ?_
  refine wp_iload_n d193_62 rfl ?_
  refine wp_iload d193_63 rfl ?_
  refine wp_virt (as := [.int (zI (Γ.length : Int)), .int (zI c), .int (zI 1), .int (zI r1), .int (zI 0), .int (zI (4 + j))]) (rest := []) d193_65 rfl rfl rfl (hG.o (by decide) rfl) rfl rfl (Nat.le_of_ble_eq_true rfl) ?_
  refine m_under2 (d := d) hG hM1 e22 x24 th x0 lb.2.1 (by have := lb.2.2; omega) (by have := lb.2.2; omega) (by have := lb.1; omega) (fun hB N2 k2' => ?_) (fun hB N2 k2' => ?_)
  · skip
    have rl2 := rl1.uk v1 k2'
    have ta : tyA Γ (expo Γ Γ.length S) T = some B := by unfold tyA; rw [if_pos ⟨h1, by rw [ek1]; exact hB⟩, ek2]
    rw [ta] at h
    refine wz_if_eq (t := 95) d193_68 (by decide) ⟨by omega, by omega⟩ (fun hb => absurd hb (by decide)) (fun _ => ?_)
    refine wp_aload_n d193_71 rfl ?_
    refine wp_iload_n d193_72 rfl ?_
    refine wp_iload d193_73 rfl ?_
    refine wp_aload_n d193_75 rfl ?_
    refine wp_iload d193_76 rfl ?_
    refine wp_iload d193_78 rfl ?_
    refine wz_iconst d193_80 ?_
    refine wz_iadd d193_81 ?_
    refine wp_virt (as := [.int (zI 1), .int (zI r1)]) (rest := [.int (zI r1), .int (zI i), .ref 56]) d193_82 rfl rfl rfl (hG.o (by decide) rfl) rfl rfl (Nat.le_of_ble_eq_true rfl) ?_
    refine wc_deep (show d + 5 + 2 ≤ d + 7 by omega) ?_
    refine m_end (l := flat A) hG k2'.2.1 (by omega) (by omega) (by omega) (by omega) (k2'.1.row v4 (by omega) rows.1) (ok_pre A _ oA) ?_
    refine wp_virt (as := [.int (zI (1 + ((flat A).length : Int))), .int (zI r1), .int (zI i)]) (rest := []) d193_85 rfl rfl rfl (hG.o (by decide) rfl) rfl rfl (Nat.le_of_ble_eq_true rfl) ?_
    refine wc_deep (show d + 3 + 4 ≤ d + 7 by omega) ?_
    refine m_gets (l := flat B) hG k2'.2.1 (by omega) (by omega) (by omega) (by omega) (by omega) (by omega) (by omega) (by omega) (k2'.1.row v4 (by omega) rows.2) (ok_pre B _ oB) ?_
    refine wz_if_eq (t := 95) d193_88 (by decide) ⟨by omega, by omega⟩ (fun hb => absurd hb (by decide)) (fun _ => ?_)
    refine wz_iconst d193_91 ?_
    refine wp_goto (t := 96) d193_92 (by decide) ?_
    refine wp_ret d193_96 rfl (h _ 1 (mput_R32 k2'.2.1 ((k2'.1.row v4 (by omega) rows.2).R32 k2'.2.1)) (rl2.put (Or.inl rfl) (by omega)) ⟨rfl, ?_⟩)
    have := mput_row (flat B) N2 (4 + i) 0
    rw [Int.add_zero] at this
    exact this
  · skip
    have rl2 := rl1.uk v1 k2'
    have ta : tyA Γ (expo Γ Γ.length S) T = none := by unfold tyA; rw [if_neg (fun e => hB (by rw [← ek1]; exact e.2))]
    rw [ta] at h
    refine wz_if_eq (t := 95) d193_68 (by decide) ⟨by omega, by omega⟩ (fun _ => ?_) (fun hb => absurd (by decide) hb)
    refine wz_iconst d193_95 ?_
    exact wp_ret d193_96 rfl (h N2 0 k2'.2.1 rl2 rfl)
end PmF8
