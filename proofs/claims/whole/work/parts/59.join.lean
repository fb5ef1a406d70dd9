/-! THE MODEL: join and meet. -/
def slu (T : Int → Option Ty) (k : Int) (R : Ty) : Int → Option Ty := fun i => if i = k then some R else T i
theorem SLM.upd {N N' : pm_M} {T : Int → Option Ty} {k : Int} {R : Ty} (h : SLM N T) (k0 : 0 ≤ k) (k3 : k ≤ 3) (e1 : N' 72 k = 1) (e2 : ∀ i : Int, 0 ≤ i → i ≤ 3 → i ≠ k → N' 72 i = N 72 i) (er : Row N' k 0 (flat R)) (e3 : ∀ i : Int, i < 68 → ¬ (17 * k ≤ i ∧ i < 17 * k + 17) → N' 73 i = N 73 i) (hl : (flat R).length ≤ 16) (ho : ok 0 R = true) : SLM N' (slu T k R) := by
  intro i h0 h1
  unfold slu
  by_cases e : i = k
  · subst e
    rw [if_pos rfl]
    exact ⟨e1, er, hl, ho⟩
  · rw [if_neg e]
    have := h i h0 h1
    cases et : T i with
    | none => rw [et] at this; show N' 72 i = 0; rw [e2 i h0 h1 e]; exact this
    | some t =>
      rw [et] at this
      obtain ⟨q1, q2, q3, q4⟩ := this
      exact ⟨by rw [e2 i h0 h1 e]; exact q1, Row.same (fun j _ _ => e3 _ (by omega) (by omega)) q2, q3, q4⟩
section PmM25
variable {d : Nat} {Q : Option Value → pm_S → Prop} {M N : pm_M} {Rf : Nat → Nat → Nat} {K L : Nat → Nat} {n s : Nat}
set_option maxRecDepth 20000 in
set_option maxHeartbeats 1000000 in
theorem m_combined {i j k : Int} {w : Nat} {T : Int → Option Ty} (w1 : w ≤ 1) (hG : pm_G Rf K L n) (hM : ∀ p i, R32 (N p i)) (ri : R32 i) (rj : R32 j) (rk : R32 k) (hT : SLM N T) (h2 : sl T i = none ∨ sl T j = none ∨ ¬ (0 ≤ k ∧ k ≤ 3) → Q (some (.int (zI (-2)))) (zM N, Rf, K, L, n, s)) (h0 : ∀ A B, sl T i = some A → sl T j = some B → 0 ≤ k → k ≤ 3 → cmv w [] A B = none → ∀ N' : pm_M, MF N N' → (∀ p i, R32 (N' p i)) → SLM N' T → Q (some (.int (zI 0))) (zM N', Rf, K, L, n, s)) (h3 : ∀ A B, sl T i = some A → sl T j = some B → 0 ≤ k → k ≤ 3 → cmv w [] A B = some none → ∀ N' : pm_M, MF N N' → (∀ p i, R32 (N' p i)) → SLM N' T → Q (some (.int (zI (-3)))) (zM N', Rf, K, L, n, s)) (h1 : ∀ A B, sl T i = some A → sl T j = some B → 0 ≤ k → k ≤ 3 → ∀ R, cmv w [] A B = some (some R) → ok 0 R = true → (flat R).length ≤ 16 → ∀ N' : pm_M, MF N N' → (∀ p i, R32 (N' p i)) → SLM N' (slu T k R) → Q (some (.int (zI ((flat R).length : Int)))) (zM N', Rf, K, L, n, s)) : pm_Wc (d + 10) 178 [.ref 56, .int (zI (w : Int)), .int (zI i), .int (zI j), .int (zI k)] (zM N, Rf, K, L, n, s) Q := by
  refine wc_in (ls0 := [some (.ref 56), some (.int (zI (w : Int))), some (.int (zI i)), some (.int (zI j)), some (.int (zI k)), none, none]) (by decide) (Nat.le_of_ble_eq_true rfl) rfl rfl ?_
  refine wp_aload_n d178_0 rfl ?_
  refine wp_iload_n d178_1 rfl ?_
  refine wp_virt (as := [.int (zI (i))]) (rest := []) d178_2 rfl rfl rfl (hG.o (by decide) rfl) rfl rfl (Nat.le_of_ble_eq_true rfl) ?_
  refine m_holds hG ri hT (fun A eA => ?_) (fun e => ?_)
  rotate_left
  · refine wz_if_eq (t := 25) d178_5 (by decide) ⟨by omega, by omega⟩ (fun _ => ?_) (fun hb => absurd (by decide) hb)
    refine wz_bipush d178_25 (by decide) ?_
    exact wp_ret d178_27 rfl (h2 (Or.inl e))
  refine wz_if_eq (t := 25) d178_5 (by decide) ⟨by omega, by omega⟩ (fun hb => absurd hb (by decide)) (fun _ => ?_)
  refine wp_aload_n d178_8 rfl ?_
  refine wp_iload_n d178_9 rfl ?_
  refine wp_virt (as := [.int (zI (j))]) (rest := []) d178_10 rfl rfl rfl (hG.o (by decide) rfl) rfl rfl (Nat.le_of_ble_eq_true rfl) ?_
  refine m_holds hG rj hT (fun B eB => ?_) (fun e => ?_)
  rotate_left
  · refine wz_if_eq (t := 25) d178_13 (by decide) ⟨by omega, by omega⟩ (fun _ => ?_) (fun hb => absurd (by decide) hb)
    refine wz_bipush d178_25 (by decide) ?_
    exact wp_ret d178_27 rfl (h2 (Or.inr (Or.inl e)))
  refine wz_if_eq (t := 25) d178_13 (by decide) ⟨by omega, by omega⟩ (fun hb => absurd hb (by decide)) (fun _ => ?_)
  refine wp_aload_n d178_16 rfl ?_
  refine wp_iload d178_17 rfl ?_
  refine wp_virt (as := [.int (zI (k))]) (rest := []) d178_19 rfl rfl rfl (hG.o (by decide) rfl) rfl rfl (Nat.le_of_ble_eq_true rfl) ?_
  refine m_isSlot rk (fun k0 k3 => ?_) (fun e => ?_)
  rotate_left
  · refine wz_if_ne (t := 28) d178_22 (by decide) ⟨by omega, by omega⟩ (fun hb => absurd (by decide) hb) (fun _ => ?_)
    refine wz_bipush d178_25 (by decide) ?_
    exact wp_ret d178_27 rfl (h2 (Or.inr (Or.inr e)))
  refine wz_if_ne (t := 28) d178_22 (by decide) ⟨by omega, by omega⟩ (fun _ => ?_) (fun hb => absurd hb (by decide))
  obtain ⟨i0, i3, -, rA, lA, oA⟩ := hT.at eA
  obtain ⟨j0, j3, -, rB, lB, oB⟩ := hT.at eB
  have g0 := h0 A B eA eB k0 k3
  have g3 := h3 A B eA eB k0 k3
  have g1 := h1 A B eA eB k0 k3
  refine wp_aload_n d178_28 rfl ?_
  refine wp_virt (as := []) (rest := []) d178_29 rfl rfl rfl (hG.o (by decide) rfl) rfl rfl (Nat.le_of_ble_eq_true rfl) ?_
  refine m_begin hG ?_
  refine wp_aload_n d178_32 rfl ?_
  refine wp_iload_n d178_33 rfl ?_
  refine wp_iload_n d178_34 rfl ?_
  refine wp_iload_n d178_35 rfl ?_
  refine wz_iconst d178_36 ?_
  refine wz_iconst d178_37 ?_
  refine wp_virt (as := [.int (zI (0)), .int (zI (-1)), .int (zI (j)), .int (zI (i)), .int (zI ((w : Int)))]) (rest := []) d178_38 rfl rfl rfl (hG.o (by decide) rfl) rfl rfl (Nat.le_of_ble_eq_true rfl) ?_
  obtain ⟨m1, m2⟩ := gm_closed (w := w) oA oB lA lB w1
  have c1 : hgt [] A ≤ 16 := hgt_closed oA lA
  have c2 : hgt [] B ≤ 16 := hgt_closed oB lB
  have a1 : wt [] A ≤ 127 := wt_closed oA lA
  have a2 : wt [] B ≤ 127 := wt_closed oB lB
  refine m_combine (N := BG N) (Γ := []) (S := A) (T := B) hG (BG.r32 hM) (BG.u N) (BG.x N) ((BG.slm hT).th eA eB) w1 (Int.le_refl _) (by omega) (by omega) (by omega) ?_ ?_ (fun N' u' x' hM' hu' hx' q1 q2 q3 cf rs => ?_)
  · show 0 + gm (w, [], A, B) ≤ 1990
    omega
  · show 2 * (hgt [] A + hgt [] B) + 3 ≤ 300
    omega
  have mf : MF N N' := (BG.mf N).trans cf.mf
  have sT : SLM N' T := (BG.slm hT).keep (fun i _ _ => cf 72 i (by unfold WC; omega)) (fun i hi => cf 73 i (by unfold WC; omega))
  refine wp_istore d178_41 (Nat.le_of_ble_eq_true rfl) rfl ?_
  refine wp_iload d178_43 rfl ?_
  refine wz_iconst d178_45 ?_
  cases er : cmv w [] A B with
  | none =>
    rw [er] at rs
    have e84 : N' 84 0 = 0 := rs
    rw [e84]
    refine wz_icmp_eq (t := 61) d178_46 (by decide) ⟨by omega, by omega⟩ ⟨by omega, by omega⟩ (fun hb => absurd hb (by decide)) (fun _ => ?_)
    refine wp_iload d178_49 rfl ?_
    refine wz_if_ne (t := 58) d178_51 (by decide) ⟨by omega, by omega⟩ (fun hb => absurd (by decide) hb) (fun _ => ?_)
    refine wz_iconst d178_54 ?_
    refine wp_goto (t := 60) d178_55 (by decide) ?_
    exact wp_ret d178_60 rfl (g0 er N' mf hM' sT)
  | some r =>
    cases r with
    | none =>
      rw [er] at rs
      have e84 : N' 84 0 = 2 := rs
      rw [e84]
      refine wz_icmp_eq (t := 61) d178_46 (by decide) ⟨by omega, by omega⟩ ⟨by omega, by omega⟩ (fun hb => absurd hb (by decide)) (fun _ => ?_)
      refine wp_iload d178_49 rfl ?_
      refine wz_if_ne (t := 58) d178_51 (by decide) ⟨by omega, by omega⟩ (fun _ => ?_) (fun hb => absurd hb (by decide))
      refine wz_bipush d178_58 (by decide) ?_
      exact wp_ret d178_60 rfl (g3 er N' mf hM' sT)
    | some R =>
      rw [er] at rs
      obtain ⟨e84, p1, p2, p3, p4, p5, p6⟩ := rs
      obtain ⟨oR, lR⟩ := gv_ok (B := 16) (Nat.le_refl _) (z := (w, [], A, B)) (R := R) ⟨⟨trivial, oA, oB⟩, fun k hk => absurd hk (Nat.not_lt_zero _), lA, lB⟩ er
      have hR32 := flat_R32 oR (by simp) (by omega)
      rw [e84]
      refine wz_icmp_eq (t := 61) d178_46 (by decide) ⟨by omega, by omega⟩ ⟨by omega, by omega⟩ (fun _ => ?_) (fun hb => absurd (by decide) hb)
      refine wp_aload_n d178_61 rfl ?_
      refine wp_virt (as := []) (rest := []) d178_62 rfl rfl rfl (hG.o (by decide) rfl) rfl rfl (Nat.le_of_ble_eq_true rfl) ?_
      refine m_fresh hG hu' ?_
      have hM1 : ∀ p i, R32 (mset N' 56 22 (u' + 1) p i) := mset_R32 hM' ⟨by omega, by omega⟩
      refine wp_istore d178_65 (Nat.le_of_ble_eq_true rfl) rfl ?_
      refine wp_aload_n d178_67 rfl ?_
      refine wp_aload_n d178_68 rfl ?_
      refine wp_getR (q := 85) d178_69 rfl (hG.o (by decide) rfl) (by decide) (hG.r (by decide +kernel)) (by decide) ?_
      refine wz_iconst d178_72 ?_
      refine wz_iald (z := 600) (v := N' 85 0) d178_73 (hG.a (by decide) rfl rfl) (by omega) (by omega) (by decide) (by (repeat (first | rw [mset_s] | rw [mset_p _ _ _ _ (by decide)] | rw [mset_i _ _ _ _ (by omega)] | rw [mput_p _ _ _ _ (by decide)]))) ?_
      refine wp_aload_n d178_74 rfl ?_
      refine wp_getR (q := 86) d178_75 rfl (hG.o (by decide) rfl) (by decide) (hG.r (by decide +kernel)) (by decide) ?_
      refine wz_iconst d178_78 ?_
      refine wz_iald (z := 600) (v := N' 86 0) d178_79 (hG.a (by decide) rfl rfl) (by omega) (by omega) (by decide) (by (repeat (first | rw [mset_s] | rw [mset_p _ _ _ _ (by decide)] | rw [mset_i _ _ _ _ (by omega)] | rw [mput_p _ _ _ _ (by decide)]))) ?_
      refine wp_iload d178_80 rfl ?_
      refine wz_iconst d178_82 ?_
      refine wp_virt (as := [.int (zI (0)), .int (zI (u')), .int (zI (N' 86 0)), .int (zI (N' 85 0))]) (rest := []) d178_83 rfl rfl rfl (hG.o (by decide) rfl) rfl rfl (Nat.le_of_ble_eq_true rfl) ?_
      refine m_copy (l := flat R) hG hM1 p1 (by omega) p3 (by omega) (by omega) (by omega) (by omega) (by omega) (by omega) (Row.same (fun i _ _ => mset_p _ _ _ _ (by decide)) p5) p6 ?_
      have hM2 := mput_R32 (p := 73) (b := 17 * u' + 0) hM1 hR32
      have row2 := mput_row (flat R) (mset N' 56 22 (u' + 1)) u' 0
      refine wp_aload_n d178_86 rfl ?_
      refine wp_iload d178_87 rfl ?_
      refine wz_iconst d178_89 ?_
      refine wp_iload d178_90 rfl ?_
      refine wz_iconst d178_92 ?_
      refine wp_virt (as := [.int (zI (0)), .int (zI (k)), .int (zI (0)), .int (zI (u'))]) (rest := []) d178_93 rfl rfl rfl (hG.o (by decide) rfl) rfl rfl (Nat.le_of_ble_eq_true rfl) ?_
      refine m_copy (l := flat R) hG hM2 (by omega) (by omega) (by omega) (by omega) k0 (by omega) (by omega) (by omega) (by omega) row2 p6 ?_
      have hM3 := mput_R32 (p := 73) (b := 17 * k + 0) hM2 hR32
      have row3 := mput_row (flat R) (mput (mset N' 56 22 (u' + 1)) 73 (17 * u' + 0) (flat R)) k 0
      refine wp_aload_n d178_96 rfl ?_
      refine wp_getR (q := 72) d178_97 rfl (hG.o (by decide) rfl) (by decide) (hG.r (by decide +kernel)) (by decide) ?_
      refine wp_iload d178_100 rfl ?_
      refine wz_iconst d178_102 ?_
      refine wz_zast (z := 4) d178_103 (hG.a (by decide) rfl rfl) (by omega) (by omega) (by decide) (Or.inr rfl) ?_
      have row4 : Row (mset (mput (mput (mset N' 56 22 (u' + 1)) 73 (17 * u' + 0) (flat R)) 73 (17 * k + 0) (flat R)) 72 k 1) k 0 (flat R) := Row.same (fun i _ _ => mset_p _ _ _ _ (by decide)) row3
      have hM4 : ∀ p i, R32 (mset (mput (mput (mset N' 56 22 (u' + 1)) 73 (17 * u' + 0) (flat R)) 73 (17 * k + 0) (flat R)) 72 k 1 p i) := mset_R32 hM3 ⟨by omega, by omega⟩
      refine wp_aload_n d178_104 rfl ?_
      refine wp_iload d178_105 rfl ?_
      refine wz_iconst d178_107 ?_
      refine wp_virt (as := [.int (zI (0)), .int (zI (k))]) (rest := []) d178_108 rfl rfl rfl (hG.o (by decide) rfl) rfl rfl (Nat.le_of_ble_eq_true rfl) ?_
      refine m_end (l := flat R) hG hM4 k0 (by omega) (by omega) (by omega) row4 p6 ?_
      refine wp_ret d178_111 rfl ?_
      rw [Int.zero_add]
      refine g1 R er oR lR _ ?_ hM4 ?_
      · exact ((((mf.set (by unfold WM; omega)).put (by decide)).put (by decide)).set (by unfold WM; omega))
      · refine sT.upd k0 k3 (by rw [mset_s]) (fun i _ _ hne => ?_) row4 (fun i hi hne => ?_) lR oR
        · rw [mset_i _ _ _ _ hne, mput_p _ _ _ _ (by decide), mput_p _ _ _ _ (by decide), mset_p _ _ _ _ (by decide)]
        · rw [mset_p _ _ _ _ (by decide), mput_o _ _ _ _ (by omega), mput_o _ _ _ _ (by omega), mset_p _ _ _ _ (by decide)]
theorem m_join {i j k : Int} {T : Int → Option Ty} (hG : pm_G Rf K L n) (hM : ∀ p i, R32 (N p i)) (ri : R32 i) (rj : R32 j) (rk : R32 k) (hT : SLM N T) (h2 : sl T i = none ∨ sl T j = none ∨ ¬ (0 ≤ k ∧ k ≤ 3) → Q (some (.int (zI (-2)))) (zM N, Rf, K, L, n, s)) (h0 : ∀ A B, sl T i = some A → sl T j = some B → 0 ≤ k → k ≤ 3 → cmv 0 [] A B = none → ∀ N' : pm_M, MF N N' → (∀ p i, R32 (N' p i)) → SLM N' T → Q (some (.int (zI 0))) (zM N', Rf, K, L, n, s)) (h3 : ∀ A B, sl T i = some A → sl T j = some B → 0 ≤ k → k ≤ 3 → cmv 0 [] A B = some none → ∀ N' : pm_M, MF N N' → (∀ p i, R32 (N' p i)) → SLM N' T → Q (some (.int (zI (-3)))) (zM N', Rf, K, L, n, s)) (h1 : ∀ A B, sl T i = some A → sl T j = some B → 0 ≤ k → k ≤ 3 → ∀ R, cmv 0 [] A B = some (some R) → ok 0 R = true → (flat R).length ≤ 16 → ∀ N' : pm_M, MF N N' → (∀ p i, R32 (N' p i)) → SLM N' (slu T k R) → Q (some (.int (zI ((flat R).length : Int)))) (zM N', Rf, K, L, n, s)) : pm_Wc (d + 11) 179 [.ref 56, .int (zI i), .int (zI j), .int (zI k)] (zM N, Rf, K, L, n, s) Q := by
  refine wc_in (ls0 := [some (.ref 56), some (.int (zI i)), some (.int (zI j)), some (.int (zI k))]) (by decide) (Nat.le_of_ble_eq_true rfl) rfl rfl ?_
  refine wp_aload_n d179_0 rfl ?_
  refine wz_iconst d179_1 ?_
  refine wp_iload_n d179_2 rfl ?_
  refine wp_iload_n d179_3 rfl ?_
  refine wp_iload_n d179_4 rfl ?_
  refine wp_virt (as := [.int (zI k), .int (zI j), .int (zI i), .int (zI 0)]) (rest := []) d179_5 rfl rfl rfl (hG.o (by decide) rfl) rfl rfl (Nat.le_of_ble_eq_true rfl) ?_
  exact m_combined (w := 0) (by decide) hG hM ri rj rk hT (fun e => wp_ret d179_8 rfl (h2 e)) (fun A B a1 a2 a3 a4 a5 N' b1 b2 b3 => wp_ret d179_8 rfl (h0 A B a1 a2 a3 a4 a5 N' b1 b2 b3)) (fun A B a1 a2 a3 a4 a5 N' b1 b2 b3 => wp_ret d179_8 rfl (h3 A B a1 a2 a3 a4 a5 N' b1 b2 b3)) (fun A B a1 a2 a3 a4 R a5 a6 a7 N' b1 b2 b3 => wp_ret d179_8 rfl (h1 A B a1 a2 a3 a4 R a5 a6 a7 N' b1 b2 b3))
theorem m_meet {i j k : Int} {T : Int → Option Ty} (hG : pm_G Rf K L n) (hM : ∀ p i, R32 (N p i)) (ri : R32 i) (rj : R32 j) (rk : R32 k) (hT : SLM N T) (h2 : sl T i = none ∨ sl T j = none ∨ ¬ (0 ≤ k ∧ k ≤ 3) → Q (some (.int (zI (-2)))) (zM N, Rf, K, L, n, s)) (h0 : ∀ A B, sl T i = some A → sl T j = some B → 0 ≤ k → k ≤ 3 → cmv 1 [] A B = none → ∀ N' : pm_M, MF N N' → (∀ p i, R32 (N' p i)) → SLM N' T → Q (some (.int (zI 0))) (zM N', Rf, K, L, n, s)) (h3 : ∀ A B, sl T i = some A → sl T j = some B → 0 ≤ k → k ≤ 3 → cmv 1 [] A B = some none → ∀ N' : pm_M, MF N N' → (∀ p i, R32 (N' p i)) → SLM N' T → Q (some (.int (zI (-3)))) (zM N', Rf, K, L, n, s)) (h1 : ∀ A B, sl T i = some A → sl T j = some B → 0 ≤ k → k ≤ 3 → ∀ R, cmv 1 [] A B = some (some R) → ok 0 R = true → (flat R).length ≤ 16 → ∀ N' : pm_M, MF N N' → (∀ p i, R32 (N' p i)) → SLM N' (slu T k R) → Q (some (.int (zI ((flat R).length : Int)))) (zM N', Rf, K, L, n, s)) : pm_Wc (d + 11) 180 [.ref 56, .int (zI i), .int (zI j), .int (zI k)] (zM N, Rf, K, L, n, s) Q := by
  refine wc_in (ls0 := [some (.ref 56), some (.int (zI i)), some (.int (zI j)), some (.int (zI k))]) (by decide) (Nat.le_of_ble_eq_true rfl) rfl rfl ?_
  refine wp_aload_n d180_0 rfl ?_
  refine wz_iconst d180_1 ?_
  refine wp_iload_n d180_2 rfl ?_
  refine wp_iload_n d180_3 rfl ?_
  refine wp_iload_n d180_4 rfl ?_
  refine wp_virt (as := [.int (zI k), .int (zI j), .int (zI i), .int (zI 1)]) (rest := []) d180_5 rfl rfl rfl (hG.o (by decide) rfl) rfl rfl (Nat.le_of_ble_eq_true rfl) ?_
  exact m_combined (w := 1) (by decide) hG hM ri rj rk hT (fun e => wp_ret d180_8 rfl (h2 e)) (fun A B a1 a2 a3 a4 a5 N' b1 b2 b3 => wp_ret d180_8 rfl (h0 A B a1 a2 a3 a4 a5 N' b1 b2 b3)) (fun A B a1 a2 a3 a4 a5 N' b1 b2 b3 => wp_ret d180_8 rfl (h3 A B a1 a2 a3 a4 a5 N' b1 b2 b3)) (fun A B a1 a2 a3 a4 R a5 a6 a7 N' b1 b2 b3 => wp_ret d180_8 rfl (h1 A B a1 a2 a3 a4 R a5 a6 a7 N' b1 b2 b3))
end PmM25
