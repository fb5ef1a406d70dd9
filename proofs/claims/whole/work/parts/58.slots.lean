/-! THE MODEL: slots, and the calls that ask about types in slots. -/
def SLT (N : pm_M) (i : Int) : Option Ty → Prop
  | none => N 72 i = 0
  | some t => N 72 i = 1 ∧ Row N i 0 (flat t) ∧ (flat t).length ≤ 16 ∧ ok 0 t = true
def SLM (N : pm_M) (T : Int → Option Ty) : Prop := ∀ i : Int, 0 ≤ i → i ≤ 3 → SLT N i (T i)
/-- the type in that slot, if it is a slot and holds one -/
def sl (T : Int → Option Ty) (i : Int) : Option Ty := if 0 ≤ i ∧ i ≤ 3 then T i else none
theorem sl_some {T : Int → Option Ty} {i : Int} {t : Ty} (h : sl T i = some t) : (0 ≤ i ∧ i ≤ 3) ∧ T i = some t := by
  unfold sl at h
  by_cases hi : 0 ≤ i ∧ i ≤ 3
  · rw [if_pos hi] at h; exact ⟨hi, h⟩
  · rw [if_neg hi] at h; cases h
theorem SLM.at {N : pm_M} {T : Int → Option Ty} {i : Int} {t : Ty} (h : SLM N T) (e : sl T i = some t) : 0 ≤ i ∧ i ≤ 3 ∧ N 72 i = 1 ∧ Row N i 0 (flat t) ∧ (flat t).length ≤ 16 ∧ ok 0 t = true := by
  obtain ⟨hi, e⟩ := sl_some e
  have := h i hi.1 hi.2
  rw [e] at this
  exact ⟨hi.1, hi.2, this⟩
theorem SLM.keep {N N' : pm_M} {T : Int → Option Ty} (e2 : ∀ i : Int, 0 ≤ i → i ≤ 3 → N' 72 i = N 72 i) (e3 : ∀ i : Int, i < 68 → N' 73 i = N 73 i) (h : SLM N T) : SLM N' T := by
  intro i h0 h1
  have := h i h0 h1
  cases e : T i with
  | none => rw [e] at this; show N' 72 i = 0; rw [e2 i h0 h1]; exact this
  | some t =>
    rw [e] at this
    obtain ⟨q1, q2, q3, q4⟩ := this
    exact ⟨by rw [e2 i h0 h1]; exact q1, Row.same (fun j _ _ => e3 _ (by omega)) q2, q3, q4⟩
/-- what the calls on types may write -/
def WM (p : Nat) (i : Int) : Prop := (p = 56 ∧ (i = 22 ∨ i = 24 ∨ i = 32 ∨ i = 33 ∨ i = 34 ∨ i = 36)) ∨ (72 ≤ p ∧ p ≤ 86)
def MF (N N' : pm_M) : Prop := ∀ (p : Nat) (i : Int), ¬ WM p i → N' p i = N p i
theorem MF.refl (N : pm_M) : MF N N := fun _ _ _ => rfl
theorem MF.trans {N N1 N' : pm_M} (h : MF N N1) (h' : MF N1 N') : MF N N' := fun p i w => by rw [h' p i w, h p i w]
theorem MF.set {N N' : pm_M} {p : Nat} {i v : Int} (h : MF N N') (w : WM p i) : MF N (mset N' p i v) := by
  intro q j hq
  unfold mset
  rw [if_neg (fun e => hq (by rw [e.1, e.2]; exact w))]
  exact h q j hq
theorem MF.put {N N' : pm_M} {p : Nat} {b : Int} {l : List Int} (h : MF N N') (w : 72 ≤ p ∧ p ≤ 86) : MF N (mput N' p b l) := by
  intro q j hq
  unfold mput
  rw [if_neg (fun e => hq (by rw [e.1]; exact Or.inr w))]
  exact h q j hq
theorem CF.mf {N N' : pm_M} {u x : Int} (h : CF N N' u x) : MF N N' := by
  intro p i w
  exact h p i (by unfold WM at w; unfold WC; omega)
theorem UK.mf {N N' : pm_M} {u x : Int} (h : UK N N' u x) : MF N N' := by
  intro p i w
  unfold WM at w
  exact h.1 p i (fun e => by omega) (fun e => by omega) (fun e => by omega) (fun e => by omega)
def BG (N : pm_M) : pm_M := mset (mset N 56 22 132) 56 24 0
theorem BG.o {N : pm_M} {p : Nat} (i : Int) (h : p ≠ 56) : BG N p i = N p i := by
  unfold BG
  rw [mset_p _ _ _ _ h, mset_p _ _ _ _ h]
theorem BG.mf (N : pm_M) : MF N (BG N) := by
  unfold BG
  exact ((MF.refl N).set (by unfold WM; omega)).set (by unfold WM; omega)
theorem BG.r32 {N : pm_M} (h : ∀ p i, R32 (N p i)) : ∀ p i, R32 (BG N p i) := mset_R32 (mset_R32 h ⟨by omega, by omega⟩) ⟨by omega, by omega⟩
theorem BG.u (N : pm_M) : BG N 56 22 = 132 := by unfold BG; (repeat (first | rw [mset_s] | rw [mset_p _ _ _ _ (by decide)] | rw [mset_i _ _ _ _ (by omega)] | rw [mput_p _ _ _ _ (by decide)]))
theorem BG.x (N : pm_M) : BG N 56 24 = 0 := by unfold BG; (repeat (first | rw [mset_s] | rw [mset_p _ _ _ _ (by decide)] | rw [mset_i _ _ _ _ (by omega)] | rw [mput_p _ _ _ _ (by decide)]))
theorem BG.slm {N : pm_M} {T : Int → Option Ty} (h : SLM N T) : SLM (BG N) T := h.keep (fun i _ _ => BG.o i (by decide)) (fun i _ => BG.o i (by decide))
theorem SLM.th {N : pm_M} {T : Int → Option Ty} {i j : Int} {A B : Ty} (h : SLM N T) (ei : sl T i = some A) (ej : sl T j = some B) : TH N 132 0 i 0 j 0 (-1) (([] : List Ty).length : Int) ([], A, B) := by
  obtain ⟨i0, i1, -, ri, li, oi⟩ := h.at ei
  obtain ⟨j0, j1, -, rj, lj, oj⟩ := h.at ej
  exact ⟨i0, by omega, Int.le_refl _, by simp only; omega, ri, j0, by omega, Int.le_refl _, by simp only; omega, rj, rfl, rfl, trivial, oi, oj⟩
section PmM24
variable {d : Nat} {Q : Option Value → pm_S → Prop} {M N : pm_M} {Rf : Nat → Nat → Nat} {K L : Nat → Nat} {n s : Nat}
theorem m_isSlot {i : Int} (ri : R32 i) (h1 : 0 ≤ i → i ≤ 3 → Q (some (.int (zI 1))) (zM N, Rf, K, L, n, s)) (h0 : ¬ (0 ≤ i ∧ i ≤ 3) → Q (some (.int (zI 0))) (zM N, Rf, K, L, n, s)) : pm_Wc (d + 1) 170 [.ref 56, .int (zI i)] (zM N, Rf, K, L, n, s) Q := by
  refine wc_in (ls0 := [some (.ref 56), some (.int (zI i))]) (by decide) (Nat.le_of_ble_eq_true rfl) rfl rfl ?_
  refine wp_iload_n d170_0 rfl ?_
  refine wz_if_lt (t := 13) d170_1 (by decide) ri (fun hb => ?_) (fun hb => ?_)
  · refine wz_iconst d170_13 ?_
    exact wp_ret d170_14 rfl (h0 (by omega))
  · refine wp_iload_n d170_4 rfl ?_
    refine wz_iconst d170_5 ?_
    refine wz_icmp_gt (t := 13) d170_6 (by decide) ri ⟨by omega, by omega⟩ (fun hb' => ?_) (fun hb' => ?_)
    · refine wz_iconst d170_13 ?_
      exact wp_ret d170_14 rfl (h0 (by omega))
    · refine wz_iconst d170_9 ?_
      refine wp_goto (t := 14) d170_10 (by decide) ?_
      exact wp_ret d170_14 rfl (h1 (by omega) (by omega))
theorem m_holds {i : Int} {T : Int → Option Ty} (hG : pm_G Rf K L n) (ri : R32 i) (hT : SLM N T) (h1 : ∀ t, sl T i = some t → Q (some (.int (zI 1))) (zM N, Rf, K, L, n, s)) (h0 : sl T i = none → Q (some (.int (zI 0))) (zM N, Rf, K, L, n, s)) : pm_Wc (d + 2) 171 [.ref 56, .int (zI i)] (zM N, Rf, K, L, n, s) Q := by
  refine wc_in (ls0 := [some (.ref 56), some (.int (zI i))]) (by decide) (Nat.le_of_ble_eq_true rfl) rfl rfl ?_
  refine wp_aload_n d171_0 rfl ?_
  refine wp_iload_n d171_1 rfl ?_
  refine wp_virt (as := [.int (zI i)]) (rest := []) d171_2 rfl rfl rfl (hG.o (by decide) rfl) rfl rfl (Nat.le_of_ble_eq_true rfl) ?_
  refine m_isSlot ri (fun i0 i3 => ?_) (fun hn => ?_)
  · refine wz_if_eq (t := 21) d171_5 (by decide) ⟨by omega, by omega⟩ (fun hb => absurd hb (by decide)) (fun _ => ?_)
    refine wp_aload_n d171_8 rfl ?_
    refine wp_getR (q := 72) d171_9 rfl (hG.o (by decide) rfl) (by decide) (hG.r (by decide +kernel)) (by decide) ?_
    refine wp_iload_n d171_12 rfl ?_
    have hs := hT i i0 i3
    have es : sl T i = T i := if_pos ⟨i0, i3⟩
    cases e : T i with
    | none =>
      rw [e] at hs
      refine wz_zald (z := 4) (v := 0) d171_13 (hG.a (by decide) rfl rfl) (by omega) (by omega) (by decide) hs ?_
      refine wz_if_eq (t := 21) d171_14 (by decide) ⟨by omega, by omega⟩ (fun _ => ?_) (fun hb => absurd (by decide) hb)
      refine wz_iconst d171_21 ?_
      exact wp_ret d171_22 rfl (h0 (es.trans e))
    | some t =>
      rw [e] at hs
      refine wz_zald (z := 4) (v := 1) d171_13 (hG.a (by decide) rfl rfl) (by omega) (by omega) (by decide) hs.1 ?_
      refine wz_if_eq (t := 21) d171_14 (by decide) ⟨by omega, by omega⟩ (fun hb => absurd hb (by decide)) (fun _ => ?_)
      refine wz_iconst d171_17 ?_
      refine wp_goto (t := 22) d171_18 (by decide) ?_
      exact wp_ret d171_22 rfl (h1 t (es.trans e))
  · refine wz_if_eq (t := 21) d171_5 (by decide) ⟨by omega, by omega⟩ (fun _ => ?_) (fun hb => absurd (by decide) hb)
    refine wz_iconst d171_21 ?_
    exact wp_ret d171_22 rfl (h0 (if_neg hn))
theorem m_size {i : Int} {T : Int → Option Ty} (hG : pm_G Rf K L n) (hM : ∀ p i, R32 (N p i)) (ri : R32 i) (hT : SLM N T) (h1 : ∀ t, sl T i = some t → Q (some (.int (zI ((flat t).length : Int)))) (zM N, Rf, K, L, n, s)) (h0 : sl T i = none → Q (some (.int (zI 0))) (zM N, Rf, K, L, n, s)) : pm_Wc (d + 3) 181 [.ref 56, .int (zI i)] (zM N, Rf, K, L, n, s) Q := by
  refine wc_in (ls0 := [some (.ref 56), some (.int (zI i))]) (by decide) (Nat.le_of_ble_eq_true rfl) rfl rfl ?_
  refine wp_aload_n d181_0 rfl ?_
  refine wp_iload_n d181_1 rfl ?_
  refine wp_virt (as := [.int (zI i)]) (rest := []) d181_2 rfl rfl rfl (hG.o (by decide) rfl) rfl rfl (Nat.le_of_ble_eq_true rfl) ?_
  refine m_holds hG ri hT (fun t e => ?_) (fun e => ?_)
  · obtain ⟨i0, i3, -, rt, lt, ot⟩ := hT.at e
    refine wz_if_eq (t := 17) d181_5 (by decide) ⟨by omega, by omega⟩ (fun hb => absurd hb (by decide)) (fun _ => ?_)
    refine wp_aload_n d181_8 rfl ?_
    refine wp_iload_n d181_9 rfl ?_
    refine wz_iconst d181_10 ?_
    refine wp_virt (as := [.int (zI 0), .int (zI i)]) (rest := []) d181_11 rfl rfl rfl (hG.o (by decide) rfl) rfl rfl (Nat.le_of_ble_eq_true rfl) ?_
    refine m_end (l := flat t) hG hM i0 (by omega) (by omega) (by omega) rt (ok_pre t 0 ot) ?_
    refine wp_goto (t := 18) d181_14 (by decide) ?_
    refine wp_ret d181_18 rfl ?_
    rw [Int.zero_add]
    exact h1 t e
  · refine wz_if_eq (t := 17) d181_5 (by decide) ⟨by omega, by omega⟩ (fun _ => ?_) (fun hb => absurd (by decide) hb)
    refine wz_iconst d181_17 ?_
    exact wp_ret d181_18 rfl (h0 e)
theorem m_same {i j : Int} {T : Int → Option Ty} (hG : pm_G Rf K L n) (hM : ∀ p i, R32 (N p i)) (ri : R32 i) (rj : R32 j) (hT : SLM N T) (h2 : sl T i = none ∨ sl T j = none → Q (some (.int (zI (-2)))) (zM N, Rf, K, L, n, s)) (h1 : ∀ A B, sl T i = some A → sl T j = some B → Q (some (.int (zI (if flat A = flat B then 1 else 0)))) (zM N, Rf, K, L, n, s)) : pm_Wc (d + 4) 177 [.ref 56, .int (zI i), .int (zI j)] (zM N, Rf, K, L, n, s) Q := by
  refine wc_in (ls0 := [some (.ref 56), some (.int (zI i)), some (.int (zI j))]) (by decide) (Nat.le_of_ble_eq_true rfl) rfl rfl ?_
  refine wp_aload_n d177_0 rfl ?_
  refine wp_iload_n d177_1 rfl ?_
  refine wp_virt (as := [.int (zI i)]) (rest := []) d177_2 rfl rfl rfl (hG.o (by decide) rfl) rfl rfl (Nat.le_of_ble_eq_true rfl) ?_
  refine m_holds hG ri hT (fun A eA => ?_) (fun e => ?_)
  · refine wz_if_eq (t := 16) d177_5 (by decide) ⟨by omega, by omega⟩ (fun hb => absurd hb (by decide)) (fun _ => ?_)
    refine wp_aload_n d177_8 rfl ?_
    refine wp_iload_n d177_9 rfl ?_
    refine wp_virt (as := [.int (zI j)]) (rest := []) d177_10 rfl rfl rfl (hG.o (by decide) rfl) rfl rfl (Nat.le_of_ble_eq_true rfl) ?_
    refine m_holds hG rj hT (fun B eB => ?_) (fun e => ?_)
    · obtain ⟨i0, i3, -, rA, lA, oA⟩ := hT.at eA
      obtain ⟨j0, j3, -, rB, lB, oB⟩ := hT.at eB
      have hh := h1 A B eA eB
      refine wz_if_ne (t := 21) d177_13 (by decide) ⟨by omega, by omega⟩ (fun _ => ?_) (fun hb => absurd hb (by decide))
      refine wp_aload_n d177_21 rfl ?_
      refine wp_iload_n d177_22 rfl ?_
      refine wz_iconst d177_23 ?_
      refine wp_iload_n d177_24 rfl ?_
      refine wz_iconst d177_25 ?_
      refine wp_virt (as := [.int (zI 0), .int (zI j), .int (zI 0), .int (zI i)]) (rest := []) d177_26 rfl rfl rfl (hG.o (by decide) rfl) rfl rfl (Nat.le_of_ble_eq_true rfl) ?_
      refine m_equal (l := flat A) (m := flat B) hG hM i0 (by omega) (by omega) (by omega) j0 (by omega) (by omega) (by omega) rA (ok_pre A 0 oA) rB (ok_pre B 0 oB) (fun e => ?_) (fun e => ?_)
      · rw [if_pos e] at hh
        refine wz_if_eq (t := 36) d177_29 (by decide) ⟨by omega, by omega⟩ (fun hb => absurd hb (by decide)) (fun _ => ?_)
        refine wz_iconst d177_32 ?_
        refine wp_goto (t := 37) d177_33 (by decide) ?_
        exact wp_ret d177_37 rfl hh
      · rw [if_neg e] at hh
        refine wz_if_eq (t := 36) d177_29 (by decide) ⟨by omega, by omega⟩ (fun _ => ?_) (fun hb => absurd (by decide) hb)
        refine wz_iconst d177_36 ?_
        exact wp_ret d177_37 rfl hh
    · refine wz_if_ne (t := 21) d177_13 (by decide) ⟨by omega, by omega⟩ (fun hb => absurd (by decide) hb) (fun _ => ?_)
      refine wz_bipush d177_16 (by decide) ?_
      refine wp_goto (t := 37) d177_18 (by decide) ?_
      exact wp_ret d177_37 rfl (h2 (Or.inr e))
  · refine wz_if_eq (t := 16) d177_5 (by decide) ⟨by omega, by omega⟩ (fun _ => ?_) (fun hb => absurd (by decide) hb)
    refine wz_bipush d177_16 (by decide) ?_
    refine wp_goto (t := 37) d177_18 (by decide) ?_
    exact wp_ret d177_37 rfl (h2 (Or.inl e))
theorem m_below {i j : Int} {T : Int → Option Ty} (hG : pm_G Rf K L n) (hM : ∀ p i, R32 (N p i)) (ri : R32 i) (rj : R32 j) (hT : SLM N T) (h2 : sl T i = none ∨ sl T j = none → Q (some (.int (zI (-2)))) (zM N, Rf, K, L, n, s)) (h1 : ∀ A B, sl T i = some A → sl T j = some B → ∀ N' : pm_M, MF N N' → (∀ p i, R32 (N' p i)) → SLM N' T → Q (some (.int (zI (if bel [] A B = true then 1 else 0)))) (zM N', Rf, K, L, n, s)) : pm_Wc (d + 8) 176 [.ref 56, .int (zI i), .int (zI j)] (zM N, Rf, K, L, n, s) Q := by
  refine wc_in (ls0 := [some (.ref 56), some (.int (zI i)), some (.int (zI j))]) (by decide) (Nat.le_of_ble_eq_true rfl) rfl rfl ?_
  refine wp_aload_n d176_0 rfl ?_
  refine wp_iload_n d176_1 rfl ?_
  refine wp_virt (as := [.int (zI i)]) (rest := []) d176_2 rfl rfl rfl (hG.o (by decide) rfl) rfl rfl (Nat.le_of_ble_eq_true rfl) ?_
  refine m_holds hG ri hT (fun A eA => ?_) (fun e => ?_)
  · refine wz_if_eq (t := 16) d176_5 (by decide) ⟨by omega, by omega⟩ (fun hb => absurd hb (by decide)) (fun _ => ?_)
    refine wp_aload_n d176_8 rfl ?_
    refine wp_iload_n d176_9 rfl ?_
    refine wp_virt (as := [.int (zI j)]) (rest := []) d176_10 rfl rfl rfl (hG.o (by decide) rfl) rfl rfl (Nat.le_of_ble_eq_true rfl) ?_
    refine m_holds hG rj hT (fun B eB => ?_) (fun e => ?_)
    · obtain ⟨i0, i3, -, rA, lA, oA⟩ := hT.at eA
      obtain ⟨j0, j3, -, rB, lB, oB⟩ := hT.at eB
      have hh := h1 A B eA eB
      refine wz_if_ne (t := 19) d176_13 (by decide) ⟨by omega, by omega⟩ (fun _ => ?_) (fun hb => absurd hb (by decide))
      refine wp_aload_n d176_19 rfl ?_
      refine wp_virt (as := []) (rest := []) d176_20 rfl rfl rfl (hG.o (by decide) rfl) rfl rfl (Nat.le_of_ble_eq_true rfl) ?_
      refine m_begin hG ?_
      refine wp_aload_n d176_23 rfl ?_
      refine wp_iload_n d176_24 rfl ?_
      refine wz_iconst d176_25 ?_
      refine wp_iload_n d176_26 rfl ?_
      refine wz_iconst d176_27 ?_
      refine wz_iconst d176_28 ?_
      refine wz_iconst d176_29 ?_
      refine wp_virt (as := [.int (zI 0), .int (zI (-1)), .int (zI 0), .int (zI j), .int (zI 0), .int (zI i)]) (rest := []) d176_30 rfl rfl rfl (hG.o (by decide) rfl) rfl rfl (Nat.le_of_ble_eq_true rfl) ?_
      have a1 : wt [] A ≤ 127 := wt_closed oA lA
      have a2 : wt [] B ≤ 127 := wt_closed oB lB
      have b1 := rwt_le A [] [] rfl (fun _ => Nat.le_refl _)
      have b2 := rwt_le B [] [] rfl (fun _ => Nat.le_refl _)
      have b3 : trx ([], A, B) ≤ rwt [] A + rwt [] B := trx_trw (z := ([], A, B)) ⟨trivial, oA, oB⟩
      have c1 : hgt [] A ≤ 16 := hgt_closed oA lA
      have c2 : hgt [] B ≤ 16 := hgt_closed oB lB
      have fin : ∀ N' : pm_M, UK (BG N) N' 132 0 → MF N N' ∧ (∀ p i, R32 (N' p i)) ∧ SLM N' T := fun N' k => ⟨(BG.mf N).trans k.mf, k.2.1, (BG.slm hT).keep (fun i _ _ => k.1 72 i (fun e => by omega) (fun e => by omega) (fun e => by omega) (fun e => by omega)) (fun i hi => k.1 73 i (fun e => by omega) (fun _ => by omega) (fun e => by omega) (fun e => by omega))⟩
      refine m_under2 (M := BG N) (Γ := []) (S := A) (T := B) hG (BG.r32 hM) (BG.u N) (BG.x N) ((BG.slm hT).th eA eB) (Int.le_refl _) ?_ ?_ ?_ ?_ (fun hb N' k => ?_) (fun hb N' k => ?_)
      · show 0 + trx ([], A, B) ≤ 1990
        omega
      · omega
      · omega
      · show 2 * (hgt [] A + hgt [] B) + 3 ≤ 300
        omega
      · obtain ⟨q1, q2, q3⟩ := fin N' k
        have hh := hh N' q1 q2 q3
        rw [if_pos hb] at hh
        refine wz_if_eq (t := 40) d176_33 (by decide) ⟨by omega, by omega⟩ (fun hb => absurd hb (by decide)) (fun _ => ?_)
        refine wz_iconst d176_36 ?_
        refine wp_goto (t := 41) d176_37 (by decide) ?_
        exact wp_ret d176_41 rfl hh
      · obtain ⟨q1, q2, q3⟩ := fin N' k
        have hh := hh N' q1 q2 q3
        rw [if_neg hb] at hh
        refine wz_if_eq (t := 40) d176_33 (by decide) ⟨by omega, by omega⟩ (fun _ => ?_) (fun hb => absurd (by decide) hb)
        refine wz_iconst d176_40 ?_
        exact wp_ret d176_41 rfl hh
    · refine wz_if_ne (t := 19) d176_13 (by decide) ⟨by omega, by omega⟩ (fun hb => absurd (by decide) hb) (fun _ => ?_)
      refine wz_bipush d176_16 (by decide) ?_
      exact wp_ret d176_18 rfl (h2 (Or.inr e))
  · refine wz_if_eq (t := 16) d176_5 (by decide) ⟨by omega, by omega⟩ (fun _ => ?_) (fun hb => absurd (by decide) hb)
    refine wz_bipush d176_16 (by decide) ?_
    exact wp_ret d176_18 rfl (h2 (Or.inl e))
end PmM24
