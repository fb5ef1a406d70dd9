/-! THE MODEL: reading; one expectation after another. -/
/-- the model's text -/
def MT (N : pm_M) (tx : Nat → Int) (ln : Nat) : Prop := N 56 0 = (ln : Int) ∧ ln ≤ 60 ∧ ∀ i : Nat, i < ln → N 57 i = tx i ∧ 32 ≤ tx i ∧ tx i ≤ 126
theorem MT.cha {M : pm_M} {tx : Nat → Int} {ln : Nat} (h : MT M tx ln) (p : Nat) : (p < ln ∧ chr tx ln p = tx p ∧ 32 ≤ chr tx ln p ∧ chr tx ln p ≤ 126) ∨ (¬ p < ln ∧ chr tx ln p = 0) := by
  by_cases c : p < ln
  · have e : chr tx ln p = tx p := if_pos c
    exact Or.inl ⟨c, e, by rw [e]; exact (h.2.2 p c).2⟩
  · exact Or.inr ⟨c, if_neg c⟩
/-- what is expected, the next first: what, depth, scope, node -/
def EX (N : pm_M) : List (Int × Int × Int × Int) → Prop
  | [] => True
  | a :: r => N 68 (r.length : Int) = a.1 ∧ N 69 (r.length : Int) = a.2.1 ∧ N 70 (r.length : Int) = a.2.2.1 ∧ N 71 (r.length : Int) = a.2.2.2 ∧ EX N r
/-- what reading may write: nodes from nd on, scopes from sc on, expectations from k on -/
def WMr (nd sc k : Nat) (p : Nat) (i : Int) : Prop := (p = 56 ∧ (i = 5 ∨ i = 11 ∨ i = 16)) ∨ (59 ≤ p ∧ p ≤ 63 ∧ (nd : Int) ≤ i) ∨ (64 ≤ p ∧ p ≤ 67 ∧ (sc : Int) ≤ i) ∨ (68 ≤ p ∧ p ≤ 71 ∧ (k : Int) ≤ i)
def MFr (nd sc k : Nat) (N N' : pm_M) : Prop := ∀ (p : Nat) (i : Int), ¬ WMr nd sc k p i → N' p i = N p i
theorem MFr.refl {nd sc k : Nat} (N : pm_M) : MFr nd sc k N N := fun _ _ _ => rfl
theorem MFr.trans {nd sc k : Nat} {N N1 N2 : pm_M} (h : MFr nd sc k N N1) (h' : MFr nd sc k N1 N2) : MFr nd sc k N N2 := fun p i w => (h' p i w).trans (h p i w)
theorem MFr.low {nd sc k nd' sc' k' : Nat} {N N' : pm_M} (h : MFr nd' sc' k' N N') (h1 : nd ≤ nd') (h2 : sc ≤ sc') (h3 : k ≤ k') : MFr nd sc k N N' := fun p i w => h p i (fun x => w (by unfold WMr at *; omega))
theorem MFr.set {nd sc k : Nat} {N N' : pm_M} {p : Nat} {i v : Int} (h : MFr nd sc k N N') (w : WMr nd sc k p i) : MFr nd sc k N (mset N' p i v) := by
  intro q j hq
  unfold mset
  rw [if_neg (fun e => hq (by rw [e.1, e.2]; exact w))]
  exact h q j hq
theorem EX.same {nd sc k : Nat} {N N' : pm_M} (h : MFr nd sc k N N') : ∀ {l : List (Int × Int × Int × Int)}, l.length ≤ k → EX N l → EX N' l
  | [], _, _ => trivial
  | a :: r, hk, e => by
    rw [List.length_cons] at hk
    obtain ⟨e1, e2, e3, e4, e5⟩ := e
    exact ⟨(h 68 _ (by unfold WMr; omega)).trans e1, (h 69 _ (by unfold WMr; omega)).trans e2, (h 70 _ (by unfold WMr; omega)).trans e3, (h 71 _ (by unfold WMr; omega)).trans e4, EX.same h (by omega) e5⟩
theorem MT.same {nd sc k : Nat} {N N' : pm_M} {tx : Nat → Int} {ln : Nat} (h : MFr nd sc k N N') (t : MT N tx ln) : MT N' tx ln := ⟨(h 56 0 (by unfold WMr; omega)).trans t.1, t.2.1, fun i hi => ⟨(h 57 i (by unfold WMr; omega)).trans (t.2.2 i hi).1, (t.2.2 i hi).2⟩⟩
section PmM28
variable {d : Nat} {Q : Option Value → pm_S → Prop} {N : pm_M} {Rf : Nat → Nat → Nat} {K L : Nat → Nat} {n s : Nat} {nd sc : Nat}
theorem m_expectE {l : List (Int × Int × Int × Int)} {a b c f : Int} (hG : pm_G Rf K L n) (hM : ∀ p i, R32 (N p i)) (he : N 56 16 = (l.length : Int)) (hl : l.length < 250) (hx : EX N l) (ra : R32 a) (rb : R32 b) (rc : R32 c) (rf : R32 f) (h : ∀ N' : pm_M, MFr nd sc l.length N N' → N' 56 5 = N 56 5 → N' 56 11 = N 56 11 → N' 56 16 = (((a, b, c, f) :: l).length : Int) → EX N' ((a, b, c, f) :: l) → (∀ p i, ¬ (68 ≤ p ∧ p ≤ 71) → p ≠ 56 → N' p i = N p i) → (∀ p i, R32 (N' p i)) → Q none (zM N', Rf, K, L, n, s)) : pm_Wc (d + 1) 136 [.ref 56, .int (zI a), .int (zI b), .int (zI c), .int (zI f)] (zM N, Rf, K, L, n, s) Q := by
  refine m_expect hG he (by omega) (by omega) (h _ ?_ ?_ ?_ ?_ ?_ ?_ ?_)
  · exact (((((MFr.refl N).set (by unfold WMr; omega)).set (by unfold WMr; omega)).set (by unfold WMr; omega)).set (by unfold WMr; omega)).set (by unfold WMr; omega)
  · simp [mset]
  · simp [mset]
  · simp [mset]
  · refine ⟨by simp [mset], by simp [mset], by simp [mset], by simp [mset], EX.same (nd := 0) (sc := 0) (k := l.length) ?_ (Nat.le_refl _) hx⟩
    exact (((((MFr.refl N).set (by unfold WMr; omega)).set (by unfold WMr; omega)).set (by unfold WMr; omega)).set (by unfold WMr; omega)).set (by unfold WMr; omega)
  · intro p i h1 h2
    unfold mset
    rw [if_neg (by omega), if_neg (by omega), if_neg (by omega), if_neg (by omega), if_neg (by omega)]
  · exact mset_R32 (mset_R32 (mset_R32 (mset_R32 (mset_R32 hM ra) rb) rc) rf) ⟨by omega, by omega⟩
theorem m_addE {a b c f : Int} (hG : pm_G Rf K L n) (hM : ∀ p i, R32 (N p i)) (hn : N 56 5 = (nd : Int)) (hl : nd < 128) (ra : R32 a) (rb : R32 b) (rc : R32 c) (rf : R32 f) (h : ∀ N' : pm_M, (∀ k, MFr nd sc k N N') → N' 56 5 = ((nd + 1 : Nat) : Int) → N' 56 11 = N 56 11 → N' 56 16 = N 56 16 → N' 59 nd = a → N' 60 nd = b → N' 61 nd = c → N' 62 nd = f → (∀ p i, R32 (N' p i)) → Q (some (.int (zI (nd : Int)))) (zM N', Rf, K, L, n, s)) : pm_Wc (d + 1) 137 [.ref 56, .int (zI a), .int (zI b), .int (zI c), .int (zI f)] (zM N, Rf, K, L, n, s) Q := by
  refine m_add hG hn (by omega) (by omega) ?_
  have q := h (mset (mset (mset (mset (mset N 59 nd a) 60 nd b) 61 nd c) 62 nd f) 56 5 (nd + 1)) ?_ ?_ ?_ ?_ ?_ ?_ ?_ ?_ ?_
  · simp only [Int.add_sub_cancel]
    exact q
  · intro k
    exact (((((MFr.refl N).set (by unfold WMr; omega)).set (by unfold WMr; omega)).set (by unfold WMr; omega)).set (by unfold WMr; omega)).set (by unfold WMr; omega)
  · simp [mset]
  · simp [mset]
  · simp [mset]
  · simp [mset]
  · simp [mset]
  · simp [mset]
  · simp [mset]
  · exact mset_R32 (mset_R32 (mset_R32 (mset_R32 (mset_R32 hM ra) rb) rc) rf) ⟨by omega, by omega⟩
theorem m_openE {k0 c : Int} {m : Nat} (hG : pm_G Rf K L n) (hM : ∀ p i, R32 (N p i)) (hn : N 56 11 = (sc : Int)) (hl : sc < 128) (hm : m < 128) (hnm : nd ≤ m) (rk : R32 k0) (rc : R32 c) (h : ∀ N' : pm_M, (∀ k, MFr nd sc k N N') → N' 56 5 = N 56 5 → N' 56 11 = ((sc + 1 : Nat) : Int) → N' 56 16 = N 56 16 → N' 64 sc = c → N' 65 sc = k0 → N' 67 sc = (m : Int) → N' 63 m = (sc : Int) → (∀ i, N' 59 i = N 59 i ∧ N' 60 i = N 60 i ∧ N' 61 i = N 61 i ∧ N' 62 i = N 62 i) → (∀ p i, R32 (N' p i)) → Q (some (.int (zI (sc : Int)))) (zM N', Rf, K, L, n, s)) : pm_Wc (d + 1) 138 [.ref 56, .int (zI k0), .int (zI c), .int (zI (m : Int))] (zM N, Rf, K, L, n, s) Q := by
  refine m_open hG hn (by omega) (by omega) (by omega) (by omega) ?_
  have q := h (mset (mset (mset (mset (mset N 64 sc c) 65 sc k0) 67 sc m) 63 m sc) 56 11 (sc + 1)) ?_ ?_ ?_ ?_ ?_ ?_ ?_ ?_ ?_ ?_
  · simp only [Int.add_sub_cancel]
    exact q
  · intro k
    exact (((((MFr.refl N).set (by unfold WMr; omega)).set (by unfold WMr; omega)).set (by unfold WMr; omega)).set (by unfold WMr; omega)).set (by unfold WMr; omega)
  · simp [mset]
  · simp [mset]
  · simp [mset]
  · simp [mset]
  · simp [mset]
  · simp [mset]
  · simp [mset]
  · intro i
    refine ⟨?_, ?_, ?_, ?_⟩ <;> simp [mset]
  · exact mset_R32 (mset_R32 (mset_R32 (mset_R32 (mset_R32 hM rc) rk) ⟨by omega, by omega⟩) ⟨by omega, by omega⟩) ⟨by omega, by omega⟩
/-- the next expectation is taken off -/
theorem m_takeH {l : List (Int × Int × Int × Int)} {a b c f ch p : Int} (hG : pm_G Rf K L n) (he : N 56 16 = (((a, b, c, f) :: l).length : Int)) (hl : l.length < 250) (hx : EX N ((a, b, c, f) :: l)) (h : pm_Wp none d 142 62 [some (.ref 56), some (.int (zI ch)), some (.int (zI p)), some (.int (zI a)), some (.int (zI b)), some (.int (zI c)), some (.int (zI f)), none] [] (zM (mset N 56 16 (l.length : Int)), Rf, K, L, n, s) Q) : pm_Wc (d + 1) 142 [.ref 56, .int (zI ch), .int (zI p)] (zM N, Rf, K, L, n, s) Q := by
  obtain ⟨e1, e2, e3, e4, -⟩ := hx
  rw [List.length_cons] at he
  refine wc_in (ls0 := [some (.ref 56), some (.int (zI ch)), some (.int (zI p)), none, none, none, none, none]) (by decide) (Nat.le_of_ble_eq_true rfl) rfl rfl ?_
  refine wp_aload_n d142_0 rfl ?_
  refine wz_getI (v := ((l.length + 1 : Nat) : Int)) d142_1 rfl (hG.o (by decide) rfl) (by decide) (he) ?_
  refine wz_if_ne (t := 9) d142_4 (by decide) ⟨by omega, by omega⟩ (fun _ => ?_) (fun hb => absurd hb (by omega))
  refine wp_aload_n d142_9 rfl ?_
  refine wp_dupr d142_10 ?_
  refine wz_getI (v := ((l.length + 1 : Nat) : Int)) d142_11 rfl (hG.o (by decide) rfl) (by decide) (he) ?_
  refine wz_iconst d142_14 ?_
  refine wz_isub d142_15 ?_
  refine wz_putI (i := 16) d142_16 rfl (hG.o (by decide) rfl) rfl (by decide) rfl ?_
  rw [show ((l.length + 1 : Nat) : Int) - 1 = (l.length : Int) by omega]
  refine wp_aload_n d142_19 rfl ?_
  refine wp_getR (q := 68) d142_20 rfl (hG.o (by decide) rfl) (by decide) (hG.r (by decide +kernel)) (by decide) ?_
  refine wp_aload_n d142_23 rfl ?_
  refine wz_getI (v := (l.length : Int)) d142_24 rfl (hG.o (by decide) rfl) (by decide) (mset_s _ _ _ _) ?_
  refine wz_iald (z := 256) (v := a) d142_27 (hG.a (by decide) rfl rfl) (by omega) (by omega) (by decide) ((mset_p _ _ _ _ (by decide)).trans e1) ?_
  refine wp_istore_n d142_28 (Nat.le_of_ble_eq_true rfl) rfl ?_
  refine wp_aload_n d142_29 rfl ?_
  refine wp_getR (q := 69) d142_30 rfl (hG.o (by decide) rfl) (by decide) (hG.r (by decide +kernel)) (by decide) ?_
  refine wp_aload_n d142_33 rfl ?_
  refine wz_getI (v := (l.length : Int)) d142_34 rfl (hG.o (by decide) rfl) (by decide) (mset_s _ _ _ _) ?_
  refine wz_iald (z := 256) (v := b) d142_37 (hG.a (by decide) rfl rfl) (by omega) (by omega) (by decide) ((mset_p _ _ _ _ (by decide)).trans e2) ?_
  refine wp_istore d142_38 (Nat.le_of_ble_eq_true rfl) rfl ?_
  refine wp_aload_n d142_40 rfl ?_
  refine wp_getR (q := 70) d142_41 rfl (hG.o (by decide) rfl) (by decide) (hG.r (by decide +kernel)) (by decide) ?_
  refine wp_aload_n d142_44 rfl ?_
  refine wz_getI (v := (l.length : Int)) d142_45 rfl (hG.o (by decide) rfl) (by decide) (mset_s _ _ _ _) ?_
  refine wz_iald (z := 256) (v := c) d142_48 (hG.a (by decide) rfl rfl) (by omega) (by omega) (by decide) ((mset_p _ _ _ _ (by decide)).trans e3) ?_
  refine wp_istore d142_49 (Nat.le_of_ble_eq_true rfl) rfl ?_
  refine wp_aload_n d142_51 rfl ?_
  refine wp_getR (q := 71) d142_52 rfl (hG.o (by decide) rfl) (by decide) (hG.r (by decide +kernel)) (by decide) ?_
  refine wp_aload_n d142_55 rfl ?_
  refine wz_getI (v := (l.length : Int)) d142_56 rfl (hG.o (by decide) rfl) (by decide) (mset_s _ _ _ _) ?_
  refine wz_iald (z := 256) (v := f) d142_59 (hG.a (by decide) rfl rfl) (by omega) (by omega) (by decide) ((mset_p _ _ _ _ (by decide)).trans e4) ?_
  refine wp_istore d142_60 (Nat.le_of_ble_eq_true rfl) rfl ?_
  exact h
variable {tx : Nat → Int} {ln p : Nat} {wt : Int}
theorem m_step (hG : pm_G Rf K L n) (ht : MT N tx ln) (hp : p < ln) (h : pm_Wc d 142 [.ref 56, .int (zI (tx p)), .int (zI (p : Int))] (zM N, Rf, K, L, n, s) (fun r σ => pm_Wp none d 143 46 [some (.ref 56), some (.int (zI wt)), some (.int (zI (p : Int)))] (r.toList ++ []) σ Q)) : pm_Wp none d 143 27 [some (.ref 56), some (.int (zI wt)), some (.int (zI (p : Int)))] [] (zM N, Rf, K, L, n, s) Q := by
  have hl := ht.2.1
  refine wp_iload_n d143_27 rfl ?_
  refine wp_aload_n d143_28 rfl ?_
  refine wz_getI (v := (ln : Int)) d143_29 rfl (hG.o (by decide) rfl) (by decide) (ht.1) ?_
  refine wz_icmp_ge (t := 57) d143_32 (by decide) ⟨by omega, by omega⟩ ⟨by omega, by omega⟩ (fun hb => absurd hb (by omega)) (fun _ => ?_)
  refine wp_aload_n d143_35 rfl ?_
  refine wp_aload_n d143_36 rfl ?_
  refine wp_getR (q := 57) d143_37 rfl (hG.o (by decide) rfl) (by decide) (hG.r (by decide +kernel)) (by decide) ?_
  refine wp_iload_n d143_40 rfl ?_
  refine wz_iald (z := 60) (v := tx p) d143_41 (hG.a (by decide) rfl rfl) (by omega) (by omega) (by decide) ((ht.2.2 p hp).1) ?_
  refine wp_iload_n d143_42 rfl ?_
  refine wp_virt (as := [.int (zI (p : Int)), .int (zI (tx p))]) (rest := []) d143_43 rfl rfl rfl (hG.o (by decide) rfl) rfl rfl (Nat.le_of_ble_eq_true rfl) ?_
  exact h
theorem m_go1 {σ : pm_S} (hp : p ≤ 60) (h : pm_Wp none d 143 27 [some (.ref 56), some (.int (zI wt)), some (.int (zI ((p + 1 : Nat) : Int)))] [] σ Q) : pm_Wp none d 143 46 [some (.ref 56), some (.int (zI wt)), some (.int (zI (p : Int)))] [.int (zI 1)] σ Q := by
  obtain ⟨I, Rf, K, L, n, s⟩ := σ
  refine wz_if_ne (t := 51) d143_46 (by decide) ⟨by omega, by omega⟩ (fun _ => ?_) (fun hb => absurd hb (by decide))
  refine wz_iinc d143_51 rfl rfl ?_
  refine wp_goto (t := 27) d143_54 (by decide) ?_
  rw [show (p : Int) + 1 = ((p + 1 : Nat) : Int) by omega]
  exact h
theorem m_go0 {σ : pm_S} (h : Q (some (.int (zI (p : Int)))) σ) : pm_Wp none d 143 46 [some (.ref 56), some (.int (zI wt)), some (.int (zI (p : Int)))] [.int (zI 0)] σ Q := by
  obtain ⟨I, Rf, K, L, n, s⟩ := σ
  refine wz_if_ne (t := 51) d143_46 (by decide) ⟨by omega, by omega⟩ (fun hb => absurd (by decide) hb) (fun _ => ?_)
  refine wp_iload_n d143_49 rfl ?_
  exact wp_ret d143_50 rfl (h)
/-- at the end of the text -/
theorem m_over {k : Nat} (hG : pm_G Rf K L n) (ht : MT N tx ln) (hp : p = ln) (he : N 56 16 = (k : Int)) (hk : k < 1000) (h1 : k ≠ 0 → Q (some (.int (zI (ln : Int)))) (zM N, Rf, K, L, n, s)) (h0 : k = 0 → Q (some (.int (zI (-1)))) (zM N, Rf, K, L, n, s)) : pm_Wp none d 143 27 [some (.ref 56), some (.int (zI wt)), some (.int (zI (p : Int)))] [] (zM N, Rf, K, L, n, s) Q := by
  have hl := ht.2.1
  refine wp_iload_n d143_27 rfl ?_
  refine wp_aload_n d143_28 rfl ?_
  refine wz_getI (v := (ln : Int)) d143_29 rfl (hG.o (by decide) rfl) (by decide) (ht.1) ?_
  refine wz_icmp_ge (t := 57) d143_32 (by decide) ⟨by omega, by omega⟩ ⟨by omega, by omega⟩ (fun _ => ?_) (fun hb => absurd (by omega) hb)
  refine wp_aload_n d143_57 rfl ?_
  refine wz_getI (v := (k : Int)) d143_58 rfl (hG.o (by decide) rfl) (by decide) (he) ?_
  refine wz_if_ne (t := 68) d143_61 (by decide) ⟨by omega, by omega⟩ (fun hb => ?_) (fun hb => ?_)
  · skip
    refine wp_aload_n d143_68 rfl ?_
    refine wz_getI (v := (ln : Int)) d143_69 rfl (hG.o (by decide) rfl) (by decide) (ht.1) ?_
    exact wp_ret d143_72 rfl (h1 (by omega))
  · skip
    refine wz_iconst d143_64 ?_
    refine wp_goto (t := 72) d143_65 (by decide) ?_
    exact wp_ret d143_72 rfl (h0 (by omega))
/-- a single character is expected -/
theorem m_char {l : List (Int × Int × Int × Int)} {a b c f : Int} (hG : pm_G Rf K L n) (ht : MT N tx ln) (hp : p ≤ ln) (he : N 56 16 = (((a, b, c, f) :: l).length : Int)) (hl : l.length < 250) (hx : EX N ((a, b, c, f) :: l)) (ha : a = 41 ∨ a = 62 ∨ a = 58 ∨ a = 46 ∨ a = 61) (h1 : chr tx ln p = a → p < ln → pm_Wp none (d + 1) 143 27 [some (.ref 56), some (.int (zI wt)), some (.int (zI ((p + 1 : Nat) : Int)))] [] (zM (mset N 56 16 (l.length : Int)), Rf, K, L, n, s) Q) (h0 : chr tx ln p ≠ a → ∀ N' : pm_M, (N' = N ∨ N' = mset N 56 16 (l.length : Int)) → Q (some (.int (zI (p : Int)))) (zM N', Rf, K, L, n, s)) : pm_Wp none (d + 1) 143 27 [some (.ref 56), some (.int (zI wt)), some (.int (zI (p : Int)))] [] (zM N, Rf, K, L, n, s) Q := by
  have hc := ht.cha p
  have l60 := ht.2.1
  by_cases hlt : p < ln
  · refine m_step hG ht hlt ?_
    refine m_takeH hG he hl hx ?_
    have key : ∀ v : Int, (v = 1 ∧ chr tx ln p = a) ∨ (v = 0 ∧ chr tx ln p ≠ a) → pm_Wp none (d + 1) 143 46 [some (.ref 56), some (.int (zI wt)), some (.int (zI (p : Int)))] [.int (zI v)] (zM (mset N 56 16 (l.length : Int)), Rf, K, L, n, s) Q := by
      intro v hv
      rcases hv with ⟨rfl, e⟩ | ⟨rfl, e⟩
      · exact m_go1 (by omega) (h1 e hlt)
      · exact m_go0 (h0 e _ (Or.inr rfl))
    have et : tx p = chr tx ln p := by omega
    rw [et]
    rcases ha with rfl | rfl | rfl | rfl | rfl
    · skip
      refine wp_iload_n d142_62 rfl ?_
      refine wz_sipush d142_63 (by decide) ?_
      refine wz_icmp_ne (t := 80) d142_66 (by decide) ⟨by omega, by omega⟩ ⟨by omega, by omega⟩ (fun _ => ?_) (fun hb => absurd hb (by decide))
      refine wp_iload_n d142_80 rfl ?_
      refine wz_sipush d142_81 (by decide) ?_
      refine wz_icmp_ne (t := 98) d142_84 (by decide) ⟨by omega, by omega⟩ ⟨by omega, by omega⟩ (fun _ => ?_) (fun hb => absurd hb (by decide))
      refine wp_iload_n d142_98 rfl ?_
      refine wz_sipush d142_99 (by decide) ?_
      refine wz_icmp_eq (t := 112) d142_102 (by decide) ⟨by omega, by omega⟩ ⟨by omega, by omega⟩ (fun hb => absurd hb (by decide)) (fun _ => ?_)
      refine wp_iload_n d142_105 rfl ?_
      refine wz_sipush d142_106 (by decide) ?_
      refine wz_icmp_ne (t := 164) d142_109 (by decide) ⟨by omega, by omega⟩ ⟨by omega, by omega⟩ (fun _ => ?_) (fun hb => absurd hb (by decide))
      refine wp_iload_n d142_164 rfl ?_
      refine wz_sipush d142_165 (by decide) ?_
      refine wz_icmp_eq (t := 178) d142_168 (by decide) ⟨by omega, by omega⟩ ⟨by omega, by omega⟩ (fun hb => absurd hb (by decide)) (fun _ => ?_)
      refine wp_iload_n d142_171 rfl ?_
      refine wz_sipush d142_172 (by decide) ?_
      refine wz_icmp_ne (t := 235) d142_175 (by decide) ⟨by omega, by omega⟩ ⟨by omega, by omega⟩ (fun _ => ?_) (fun hb => absurd hb (by decide))
      refine wp_iload_n d142_235 rfl ?_
      refine wz_iconst d142_236 ?_
      refine wz_irem d142_237 (by omega) (by omega) (by omega) (by omega) ?_
      refine wz_if_ne (t := 246) d142_238 (by decide) ⟨by omega, by omega⟩ (fun _ => ?_) (fun hb => absurd hb (by decide))
      refine wz_bipush d142_246 (by decide) ?_
      refine wp_istore d142_248 (Nat.le_of_ble_eq_true rfl) rfl ?_
      refine wp_iload_n d142_250 rfl ?_
      refine wz_sipush d142_251 (by decide) ?_
      refine wz_icmp_eq (t := 264) d142_254 (by decide) ⟨by omega, by omega⟩ ⟨by omega, by omega⟩ (fun hb => absurd hb (by decide)) (fun _ => ?_)
      refine wp_iload_n d142_257 rfl ?_
      refine wz_sipush d142_258 (by decide) ?_
      refine wz_icmp_ne (t := 290) d142_261 (by decide) ⟨by omega, by omega⟩ ⟨by omega, by omega⟩ (fun _ => ?_) (fun hb => absurd hb (by decide))
      refine wp_iload_n d142_290 rfl ?_
      refine wz_sipush d142_291 (by decide) ?_
      refine wz_icmp_eq (t := 304) d142_294 (by decide) ⟨by omega, by omega⟩ ⟨by omega, by omega⟩ (fun hb => absurd hb (by decide)) (fun _ => ?_)
      refine wp_iload_n d142_297 rfl ?_
      refine wz_sipush d142_298 (by decide) ?_
      refine wz_icmp_ne (t := 316) d142_301 (by decide) ⟨by omega, by omega⟩ ⟨by omega, by omega⟩ (fun _ => ?_) (fun hb => absurd hb (by decide))
      refine wp_iload_n d142_316 rfl ?_
      refine wz_sipush d142_317 (by decide) ?_
      refine wz_icmp_eq (t := 330) d142_320 (by decide) ⟨by omega, by omega⟩ ⟨by omega, by omega⟩ (fun hb => absurd hb (by decide)) (fun _ => ?_)
      refine wp_iload_n d142_323 rfl ?_
      refine wz_sipush d142_324 (by decide) ?_
      refine wz_icmp_ne (t := 389) d142_327 (by decide) ⟨by omega, by omega⟩ ⟨by omega, by omega⟩ (fun _ => ?_) (fun hb => absurd hb (by decide))
      refine wp_iload_n d142_389 rfl ?_
      refine wp_iload_n d142_390 rfl ?_
      refine wz_icmp_ne (t := 398) d142_391 (by decide) ⟨by omega, by omega⟩ ⟨by omega, by omega⟩ (fun hne => ?_) (fun heq => ?_)
      · skip
        refine wz_iconst d142_398 ?_
        exact wp_ret d142_399 rfl (key 0 (Or.inr ⟨rfl, hne⟩))
      · skip
        refine wz_iconst d142_394 ?_
        refine wp_goto (t := 399) d142_395 (by decide) ?_
        exact wp_ret d142_399 rfl (key 1 (Or.inl ⟨rfl, heq⟩))
    · skip
      refine wp_iload_n d142_62 rfl ?_
      refine wz_sipush d142_63 (by decide) ?_
      refine wz_icmp_ne (t := 80) d142_66 (by decide) ⟨by omega, by omega⟩ ⟨by omega, by omega⟩ (fun _ => ?_) (fun hb => absurd hb (by decide))
      refine wp_iload_n d142_80 rfl ?_
      refine wz_sipush d142_81 (by decide) ?_
      refine wz_icmp_ne (t := 98) d142_84 (by decide) ⟨by omega, by omega⟩ ⟨by omega, by omega⟩ (fun _ => ?_) (fun hb => absurd hb (by decide))
      refine wp_iload_n d142_98 rfl ?_
      refine wz_sipush d142_99 (by decide) ?_
      refine wz_icmp_eq (t := 112) d142_102 (by decide) ⟨by omega, by omega⟩ ⟨by omega, by omega⟩ (fun hb => absurd hb (by decide)) (fun _ => ?_)
      refine wp_iload_n d142_105 rfl ?_
      refine wz_sipush d142_106 (by decide) ?_
      refine wz_icmp_ne (t := 164) d142_109 (by decide) ⟨by omega, by omega⟩ ⟨by omega, by omega⟩ (fun _ => ?_) (fun hb => absurd hb (by decide))
      refine wp_iload_n d142_164 rfl ?_
      refine wz_sipush d142_165 (by decide) ?_
      refine wz_icmp_eq (t := 178) d142_168 (by decide) ⟨by omega, by omega⟩ ⟨by omega, by omega⟩ (fun hb => absurd hb (by decide)) (fun _ => ?_)
      refine wp_iload_n d142_171 rfl ?_
      refine wz_sipush d142_172 (by decide) ?_
      refine wz_icmp_ne (t := 235) d142_175 (by decide) ⟨by omega, by omega⟩ ⟨by omega, by omega⟩ (fun _ => ?_) (fun hb => absurd hb (by decide))
      refine wp_iload_n d142_235 rfl ?_
      refine wz_iconst d142_236 ?_
      refine wz_irem d142_237 (by omega) (by omega) (by omega) (by omega) ?_
      refine wz_if_ne (t := 246) d142_238 (by decide) ⟨by omega, by omega⟩ (fun hb => absurd (by decide) hb) (fun _ => ?_)
      refine wz_bipush d142_241 (by decide) ?_
      refine wp_goto (t := 248) d142_243 (by decide) ?_
      refine wp_istore d142_248 (Nat.le_of_ble_eq_true rfl) rfl ?_
      refine wp_iload_n d142_250 rfl ?_
      refine wz_sipush d142_251 (by decide) ?_
      refine wz_icmp_eq (t := 264) d142_254 (by decide) ⟨by omega, by omega⟩ ⟨by omega, by omega⟩ (fun hb => absurd hb (by decide)) (fun _ => ?_)
      refine wp_iload_n d142_257 rfl ?_
      refine wz_sipush d142_258 (by decide) ?_
      refine wz_icmp_ne (t := 290) d142_261 (by decide) ⟨by omega, by omega⟩ ⟨by omega, by omega⟩ (fun _ => ?_) (fun hb => absurd hb (by decide))
      refine wp_iload_n d142_290 rfl ?_
      refine wz_sipush d142_291 (by decide) ?_
      refine wz_icmp_eq (t := 304) d142_294 (by decide) ⟨by omega, by omega⟩ ⟨by omega, by omega⟩ (fun hb => absurd hb (by decide)) (fun _ => ?_)
      refine wp_iload_n d142_297 rfl ?_
      refine wz_sipush d142_298 (by decide) ?_
      refine wz_icmp_ne (t := 316) d142_301 (by decide) ⟨by omega, by omega⟩ ⟨by omega, by omega⟩ (fun _ => ?_) (fun hb => absurd hb (by decide))
      refine wp_iload_n d142_316 rfl ?_
      refine wz_sipush d142_317 (by decide) ?_
      refine wz_icmp_eq (t := 330) d142_320 (by decide) ⟨by omega, by omega⟩ ⟨by omega, by omega⟩ (fun hb => absurd hb (by decide)) (fun _ => ?_)
      refine wp_iload_n d142_323 rfl ?_
      refine wz_sipush d142_324 (by decide) ?_
      refine wz_icmp_ne (t := 389) d142_327 (by decide) ⟨by omega, by omega⟩ ⟨by omega, by omega⟩ (fun _ => ?_) (fun hb => absurd hb (by decide))
      refine wp_iload_n d142_389 rfl ?_
      refine wp_iload_n d142_390 rfl ?_
      refine wz_icmp_ne (t := 398) d142_391 (by decide) ⟨by omega, by omega⟩ ⟨by omega, by omega⟩ (fun hne => ?_) (fun heq => ?_)
      · skip
        refine wz_iconst d142_398 ?_
        exact wp_ret d142_399 rfl (key 0 (Or.inr ⟨rfl, hne⟩))
      · skip
        refine wz_iconst d142_394 ?_
        refine wp_goto (t := 399) d142_395 (by decide) ?_
        exact wp_ret d142_399 rfl (key 1 (Or.inl ⟨rfl, heq⟩))
    · skip
      refine wp_iload_n d142_62 rfl ?_
      refine wz_sipush d142_63 (by decide) ?_
      refine wz_icmp_ne (t := 80) d142_66 (by decide) ⟨by omega, by omega⟩ ⟨by omega, by omega⟩ (fun _ => ?_) (fun hb => absurd hb (by decide))
      refine wp_iload_n d142_80 rfl ?_
      refine wz_sipush d142_81 (by decide) ?_
      refine wz_icmp_ne (t := 98) d142_84 (by decide) ⟨by omega, by omega⟩ ⟨by omega, by omega⟩ (fun _ => ?_) (fun hb => absurd hb (by decide))
      refine wp_iload_n d142_98 rfl ?_
      refine wz_sipush d142_99 (by decide) ?_
      refine wz_icmp_eq (t := 112) d142_102 (by decide) ⟨by omega, by omega⟩ ⟨by omega, by omega⟩ (fun hb => absurd hb (by decide)) (fun _ => ?_)
      refine wp_iload_n d142_105 rfl ?_
      refine wz_sipush d142_106 (by decide) ?_
      refine wz_icmp_ne (t := 164) d142_109 (by decide) ⟨by omega, by omega⟩ ⟨by omega, by omega⟩ (fun _ => ?_) (fun hb => absurd hb (by decide))
      refine wp_iload_n d142_164 rfl ?_
      refine wz_sipush d142_165 (by decide) ?_
      refine wz_icmp_eq (t := 178) d142_168 (by decide) ⟨by omega, by omega⟩ ⟨by omega, by omega⟩ (fun hb => absurd hb (by decide)) (fun _ => ?_)
      refine wp_iload_n d142_171 rfl ?_
      refine wz_sipush d142_172 (by decide) ?_
      refine wz_icmp_ne (t := 235) d142_175 (by decide) ⟨by omega, by omega⟩ ⟨by omega, by omega⟩ (fun _ => ?_) (fun hb => absurd hb (by decide))
      refine wp_iload_n d142_235 rfl ?_
      refine wz_iconst d142_236 ?_
      refine wz_irem d142_237 (by omega) (by omega) (by omega) (by omega) ?_
      refine wz_if_ne (t := 246) d142_238 (by decide) ⟨by omega, by omega⟩ (fun hb => absurd (by decide) hb) (fun _ => ?_)
      refine wz_bipush d142_241 (by decide) ?_
      refine wp_goto (t := 248) d142_243 (by decide) ?_
      refine wp_istore d142_248 (Nat.le_of_ble_eq_true rfl) rfl ?_
      refine wp_iload_n d142_250 rfl ?_
      refine wz_sipush d142_251 (by decide) ?_
      refine wz_icmp_eq (t := 264) d142_254 (by decide) ⟨by omega, by omega⟩ ⟨by omega, by omega⟩ (fun hb => absurd hb (by decide)) (fun _ => ?_)
      refine wp_iload_n d142_257 rfl ?_
      refine wz_sipush d142_258 (by decide) ?_
      refine wz_icmp_ne (t := 290) d142_261 (by decide) ⟨by omega, by omega⟩ ⟨by omega, by omega⟩ (fun _ => ?_) (fun hb => absurd hb (by decide))
      refine wp_iload_n d142_290 rfl ?_
      refine wz_sipush d142_291 (by decide) ?_
      refine wz_icmp_eq (t := 304) d142_294 (by decide) ⟨by omega, by omega⟩ ⟨by omega, by omega⟩ (fun hb => absurd hb (by decide)) (fun _ => ?_)
      refine wp_iload_n d142_297 rfl ?_
      refine wz_sipush d142_298 (by decide) ?_
      refine wz_icmp_ne (t := 316) d142_301 (by decide) ⟨by omega, by omega⟩ ⟨by omega, by omega⟩ (fun _ => ?_) (fun hb => absurd hb (by decide))
      refine wp_iload_n d142_316 rfl ?_
      refine wz_sipush d142_317 (by decide) ?_
      refine wz_icmp_eq (t := 330) d142_320 (by decide) ⟨by omega, by omega⟩ ⟨by omega, by omega⟩ (fun hb => absurd hb (by decide)) (fun _ => ?_)
      refine wp_iload_n d142_323 rfl ?_
      refine wz_sipush d142_324 (by decide) ?_
      refine wz_icmp_ne (t := 389) d142_327 (by decide) ⟨by omega, by omega⟩ ⟨by omega, by omega⟩ (fun _ => ?_) (fun hb => absurd hb (by decide))
      refine wp_iload_n d142_389 rfl ?_
      refine wp_iload_n d142_390 rfl ?_
      refine wz_icmp_ne (t := 398) d142_391 (by decide) ⟨by omega, by omega⟩ ⟨by omega, by omega⟩ (fun hne => ?_) (fun heq => ?_)
      · skip
        refine wz_iconst d142_398 ?_
        exact wp_ret d142_399 rfl (key 0 (Or.inr ⟨rfl, hne⟩))
      · skip
        refine wz_iconst d142_394 ?_
        refine wp_goto (t := 399) d142_395 (by decide) ?_
        exact wp_ret d142_399 rfl (key 1 (Or.inl ⟨rfl, heq⟩))
    · skip
      refine wp_iload_n d142_62 rfl ?_
      refine wz_sipush d142_63 (by decide) ?_
      refine wz_icmp_ne (t := 80) d142_66 (by decide) ⟨by omega, by omega⟩ ⟨by omega, by omega⟩ (fun _ => ?_) (fun hb => absurd hb (by decide))
      refine wp_iload_n d142_80 rfl ?_
      refine wz_sipush d142_81 (by decide) ?_
      refine wz_icmp_ne (t := 98) d142_84 (by decide) ⟨by omega, by omega⟩ ⟨by omega, by omega⟩ (fun _ => ?_) (fun hb => absurd hb (by decide))
      refine wp_iload_n d142_98 rfl ?_
      refine wz_sipush d142_99 (by decide) ?_
      refine wz_icmp_eq (t := 112) d142_102 (by decide) ⟨by omega, by omega⟩ ⟨by omega, by omega⟩ (fun hb => absurd hb (by decide)) (fun _ => ?_)
      refine wp_iload_n d142_105 rfl ?_
      refine wz_sipush d142_106 (by decide) ?_
      refine wz_icmp_ne (t := 164) d142_109 (by decide) ⟨by omega, by omega⟩ ⟨by omega, by omega⟩ (fun _ => ?_) (fun hb => absurd hb (by decide))
      refine wp_iload_n d142_164 rfl ?_
      refine wz_sipush d142_165 (by decide) ?_
      refine wz_icmp_eq (t := 178) d142_168 (by decide) ⟨by omega, by omega⟩ ⟨by omega, by omega⟩ (fun hb => absurd hb (by decide)) (fun _ => ?_)
      refine wp_iload_n d142_171 rfl ?_
      refine wz_sipush d142_172 (by decide) ?_
      refine wz_icmp_ne (t := 235) d142_175 (by decide) ⟨by omega, by omega⟩ ⟨by omega, by omega⟩ (fun _ => ?_) (fun hb => absurd hb (by decide))
      refine wp_iload_n d142_235 rfl ?_
      refine wz_iconst d142_236 ?_
      refine wz_irem d142_237 (by omega) (by omega) (by omega) (by omega) ?_
      refine wz_if_ne (t := 246) d142_238 (by decide) ⟨by omega, by omega⟩ (fun hb => absurd (by decide) hb) (fun _ => ?_)
      refine wz_bipush d142_241 (by decide) ?_
      refine wp_goto (t := 248) d142_243 (by decide) ?_
      refine wp_istore d142_248 (Nat.le_of_ble_eq_true rfl) rfl ?_
      refine wp_iload_n d142_250 rfl ?_
      refine wz_sipush d142_251 (by decide) ?_
      refine wz_icmp_eq (t := 264) d142_254 (by decide) ⟨by omega, by omega⟩ ⟨by omega, by omega⟩ (fun hb => absurd hb (by decide)) (fun _ => ?_)
      refine wp_iload_n d142_257 rfl ?_
      refine wz_sipush d142_258 (by decide) ?_
      refine wz_icmp_ne (t := 290) d142_261 (by decide) ⟨by omega, by omega⟩ ⟨by omega, by omega⟩ (fun _ => ?_) (fun hb => absurd hb (by decide))
      refine wp_iload_n d142_290 rfl ?_
      refine wz_sipush d142_291 (by decide) ?_
      refine wz_icmp_eq (t := 304) d142_294 (by decide) ⟨by omega, by omega⟩ ⟨by omega, by omega⟩ (fun hb => absurd hb (by decide)) (fun _ => ?_)
      refine wp_iload_n d142_297 rfl ?_
      refine wz_sipush d142_298 (by decide) ?_
      refine wz_icmp_ne (t := 316) d142_301 (by decide) ⟨by omega, by omega⟩ ⟨by omega, by omega⟩ (fun _ => ?_) (fun hb => absurd hb (by decide))
      refine wp_iload_n d142_316 rfl ?_
      refine wz_sipush d142_317 (by decide) ?_
      refine wz_icmp_eq (t := 330) d142_320 (by decide) ⟨by omega, by omega⟩ ⟨by omega, by omega⟩ (fun hb => absurd hb (by decide)) (fun _ => ?_)
      refine wp_iload_n d142_323 rfl ?_
      refine wz_sipush d142_324 (by decide) ?_
      refine wz_icmp_ne (t := 389) d142_327 (by decide) ⟨by omega, by omega⟩ ⟨by omega, by omega⟩ (fun _ => ?_) (fun hb => absurd hb (by decide))
      refine wp_iload_n d142_389 rfl ?_
      refine wp_iload_n d142_390 rfl ?_
      refine wz_icmp_ne (t := 398) d142_391 (by decide) ⟨by omega, by omega⟩ ⟨by omega, by omega⟩ (fun hne => ?_) (fun heq => ?_)
      · skip
        refine wz_iconst d142_398 ?_
        exact wp_ret d142_399 rfl (key 0 (Or.inr ⟨rfl, hne⟩))
      · skip
        refine wz_iconst d142_394 ?_
        refine wp_goto (t := 399) d142_395 (by decide) ?_
        exact wp_ret d142_399 rfl (key 1 (Or.inl ⟨rfl, heq⟩))
    · skip
      refine wp_iload_n d142_62 rfl ?_
      refine wz_sipush d142_63 (by decide) ?_
      refine wz_icmp_ne (t := 80) d142_66 (by decide) ⟨by omega, by omega⟩ ⟨by omega, by omega⟩ (fun _ => ?_) (fun hb => absurd hb (by decide))
      refine wp_iload_n d142_80 rfl ?_
      refine wz_sipush d142_81 (by decide) ?_
      refine wz_icmp_ne (t := 98) d142_84 (by decide) ⟨by omega, by omega⟩ ⟨by omega, by omega⟩ (fun _ => ?_) (fun hb => absurd hb (by decide))
      refine wp_iload_n d142_98 rfl ?_
      refine wz_sipush d142_99 (by decide) ?_
      refine wz_icmp_eq (t := 112) d142_102 (by decide) ⟨by omega, by omega⟩ ⟨by omega, by omega⟩ (fun hb => absurd hb (by decide)) (fun _ => ?_)
      refine wp_iload_n d142_105 rfl ?_
      refine wz_sipush d142_106 (by decide) ?_
      refine wz_icmp_ne (t := 164) d142_109 (by decide) ⟨by omega, by omega⟩ ⟨by omega, by omega⟩ (fun _ => ?_) (fun hb => absurd hb (by decide))
      refine wp_iload_n d142_164 rfl ?_
      refine wz_sipush d142_165 (by decide) ?_
      refine wz_icmp_eq (t := 178) d142_168 (by decide) ⟨by omega, by omega⟩ ⟨by omega, by omega⟩ (fun hb => absurd hb (by decide)) (fun _ => ?_)
      refine wp_iload_n d142_171 rfl ?_
      refine wz_sipush d142_172 (by decide) ?_
      refine wz_icmp_ne (t := 235) d142_175 (by decide) ⟨by omega, by omega⟩ ⟨by omega, by omega⟩ (fun _ => ?_) (fun hb => absurd hb (by decide))
      refine wp_iload_n d142_235 rfl ?_
      refine wz_iconst d142_236 ?_
      refine wz_irem d142_237 (by omega) (by omega) (by omega) (by omega) ?_
      refine wz_if_ne (t := 246) d142_238 (by decide) ⟨by omega, by omega⟩ (fun _ => ?_) (fun hb => absurd hb (by decide))
      refine wz_bipush d142_246 (by decide) ?_
      refine wp_istore d142_248 (Nat.le_of_ble_eq_true rfl) rfl ?_
      refine wp_iload_n d142_250 rfl ?_
      refine wz_sipush d142_251 (by decide) ?_
      refine wz_icmp_eq (t := 264) d142_254 (by decide) ⟨by omega, by omega⟩ ⟨by omega, by omega⟩ (fun hb => absurd hb (by decide)) (fun _ => ?_)
      refine wp_iload_n d142_257 rfl ?_
      refine wz_sipush d142_258 (by decide) ?_
      refine wz_icmp_ne (t := 290) d142_261 (by decide) ⟨by omega, by omega⟩ ⟨by omega, by omega⟩ (fun _ => ?_) (fun hb => absurd hb (by decide))
      refine wp_iload_n d142_290 rfl ?_
      refine wz_sipush d142_291 (by decide) ?_
      refine wz_icmp_eq (t := 304) d142_294 (by decide) ⟨by omega, by omega⟩ ⟨by omega, by omega⟩ (fun hb => absurd hb (by decide)) (fun _ => ?_)
      refine wp_iload_n d142_297 rfl ?_
      refine wz_sipush d142_298 (by decide) ?_
      refine wz_icmp_ne (t := 316) d142_301 (by decide) ⟨by omega, by omega⟩ ⟨by omega, by omega⟩ (fun _ => ?_) (fun hb => absurd hb (by decide))
      refine wp_iload_n d142_316 rfl ?_
      refine wz_sipush d142_317 (by decide) ?_
      refine wz_icmp_eq (t := 330) d142_320 (by decide) ⟨by omega, by omega⟩ ⟨by omega, by omega⟩ (fun hb => absurd hb (by decide)) (fun _ => ?_)
      refine wp_iload_n d142_323 rfl ?_
      refine wz_sipush d142_324 (by decide) ?_
      refine wz_icmp_ne (t := 389) d142_327 (by decide) ⟨by omega, by omega⟩ ⟨by omega, by omega⟩ (fun _ => ?_) (fun hb => absurd hb (by decide))
      refine wp_iload_n d142_389 rfl ?_
      refine wp_iload_n d142_390 rfl ?_
      refine wz_icmp_ne (t := 398) d142_391 (by decide) ⟨by omega, by omega⟩ ⟨by omega, by omega⟩ (fun hne => ?_) (fun heq => ?_)
      · skip
        refine wz_iconst d142_398 ?_
        exact wp_ret d142_399 rfl (key 0 (Or.inr ⟨rfl, hne⟩))
      · skip
        refine wz_iconst d142_394 ?_
        refine wp_goto (t := 399) d142_395 (by decide) ?_
        exact wp_ret d142_399 rfl (key 1 (Or.inl ⟨rfl, heq⟩))
  · have e : p = ln := by omega
    subst e
    rw [List.length_cons] at he
    refine m_over hG ht rfl he (by omega) (fun _ => h0 (by omega) N (Or.inl rfl)) (fun e => by omega)
end PmM28
