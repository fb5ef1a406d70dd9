/-! THE MODEL: expose, gets, binding. -/
theorem Ctx.mv {M N : pm_M} {u x u' x' : Int} (h : ∀ (p : Nat) (i : Int), (p = 73 ∧ i < 17 * u) ∨ ((p = 74 ∨ p = 75 ∨ p = 76) ∧ i < x) → N p i = M p i) (hu : u ≤ u') (hx : x ≤ x') : ∀ {Γ : List Ty} {c : Int}, Ctx M u x c Γ → Ctx N u' x' c Γ
  | [], _, hc => hc
  | b :: Γ, c, ⟨h0, h1, h2, h3, h4, h5, h6, h7, h8⟩ => by
    have e74 := h 74 c (Or.inr ⟨by omega, h1⟩)
    have e75 := h 75 c (Or.inr ⟨by omega, h1⟩)
    have e76 := h 76 c (Or.inr ⟨by omega, h1⟩)
    refine ⟨h0, by omega, e75.trans h2, by rw [e76]; exact h3, by rw [e76]; omega, ?_, h6, h7, by rw [e74]; exact h8.mv h hu hx⟩
    rw [e76]
    exact Row.same (fun i i0 i1 => h 73 _ (Or.inl ⟨rfl, by omega⟩)) h5
/-- what expose may write -/
def WXP (u : Int) (p : Nat) (i : Int) : Prop := (p = 56 ∧ (i = 22 ∨ i = 32 ∨ i = 33)) ∨ (p = 73 ∧ 17 * u ≤ i)
def XPF (u : Int) (N N' : pm_M) : Prop := ∀ (p : Nat) (i : Int), ¬ WXP u p i → N' p i = N p i
theorem XPF.refl (u : Int) (N : pm_M) : XPF u N N := fun _ _ _ => rfl
theorem XPF.set {u : Int} {N N' : pm_M} {i v : Int} (h : XPF u N N') (hi : i = 22 ∨ i = 32 ∨ i = 33) : XPF u N (mset N' 56 i v) := by
  intro p k w
  by_cases e : p = 56 ∧ k = i
  · exact absurd (Or.inl ⟨e.1, by omega⟩) w
  · unfold mset
    rw [if_neg e]
    exact h p k w
theorem XPF.put {u r : Int} {N N' : pm_M} {l : List Int} (h : XPF u N N') (hr : u ≤ r) : XPF u N (mput N' 73 (17 * r) l) := by
  intro p k w
  unfold mput
  rw [if_neg (fun e => w (Or.inr ⟨e.1, by omega⟩))]
  exact h p k w
theorem XPF.ctx {u x u' : Int} {N N' : pm_M} (h : XPF u N N') (hu : u ≤ u') {Γ : List Ty} {c : Int} (hc : Ctx N u x c Γ) : Ctx N' u' x c Γ := hc.mv (fun p i e => h p i (by unfold WXP; omega)) hu (Int.le_refl _)
theorem XPF.row {u r j : Int} {N N' : pm_M} {l : List Int} (h : XPF u N N') (hr : r < u) (hj : j + l.length ≤ 17) (t : Row N r j l) : Row N' r j l := Row.same (fun i i0 i1 => h 73 _ (by unfold WXP; omega)) t
section PmF2
variable {d : Nat} {Q : Option Value → pm_S → Prop} {N : pm_M} {Rf : Nat → Nat → Nat} {K L : Nat → Nat} {n s : Nat}
theorem m_expose {u x c r : Int} {Γ : List Ty} {S : Ty} (hG : pm_G Rf K L n) (hM : ∀ p i, R32 (N p i)) (hu : N 56 22 = u) (hc : Ctx N u x c Γ) (x1 : x ≤ 900) (r0 : 0 ≤ r) (ru : r < u) (u1 : u + Γ.length < 1100) (hD : Γ.length ≤ 100) (oS : ok Γ.length S = true) (lS : (flat S).length ≤ 16) (hr : Row N r 0 (flat S)) (h : ∀ (N' : pm_M) (r' u' : Int), (∀ p i, R32 (N' p i)) → XPF u N N' → N' 56 22 = u' → N' 56 32 = r' → N' 56 33 = 0 → u ≤ u' → u' ≤ u + Γ.length → 0 ≤ r' → r' < u' → (r' = r ∨ u ≤ r') → Row N' r' 0 (flat (expo Γ Γ.length S)) → Q none (zM N', Rf, K, L, n, s)) : pm_Wc (d + 6) 188 [.ref 56, .int (zI r), .int (zI c), .int (zI (Γ.length : Int))] (zM N, Rf, K, L, n, s) Q := by
  have hcx : okc Γ := hc.okc
  have loop : ∀ (f : Nat) (S' : Ty) (N' : pm_M) (r' u' : Int), ok Γ.length S' = true → (flat S').length ≤ 16 → lv S' ≤ f → expo Γ f S' = expo Γ Γ.length S → (∀ p i, R32 (N' p i)) → XPF u N N' → N' 56 22 = u' → N' 56 32 = r' → N' 56 33 = 0 → u ≤ u' → u' + f ≤ u + Γ.length → 0 ≤ r' → r' < u' → (r' = r ∨ u ≤ r') → Row N' r' 0 (flat S') → pm_Wp none (d + 5) 188 10 [some (.ref 56), some (.int (zI r)), some (.int (zI c)), some (.int (zI (Γ.length : Int)))] [] (zM N', Rf, K, L, n, s) Q := by
    intro f
    induction f with
    | zero =>
      intro S' N' r' u' o' l' hv he hM' fr e22 e32 e33 q1 q2 q3 q4 q5 row
      have hh : ¬ 16 ≤ hd S' := by unfold lv at hv; omega
      have ec : N' 73 (17 * r' + 0) = (hd S' : Int) := by obtain ⟨w, hw⟩ := flat_hd o'; rw [hw] at row; exact row.1
      have he : S' = expo Γ Γ.length S := he
      refine wp_aload_n d188_10 rfl ?_
      refine wp_aload_n d188_11 rfl ?_
      refine wz_getI (v := r') d188_12 rfl (hG.o (by decide) rfl) (by decide) (e32) ?_
      refine wp_aload_n d188_15 rfl ?_
      refine wz_getI (v := 0) d188_16 rfl (hG.o (by decide) rfl) (by decide) (e33) ?_
      refine wp_virt (as := [.int (zI 0), .int (zI r')]) (rest := []) d188_19 rfl rfl rfl (hG.o (by decide) rfl) rfl rfl (Nat.le_of_ble_eq_true rfl) ?_
      refine m_cell hG (by omega) (by omega) ?_
      rw [ec]
      refine wz_bipush d188_22 (by decide) ?_
      refine wz_icmp_lt (t := 60) d188_24 (by decide) ⟨by omega, by omega⟩ ⟨by omega, by omega⟩ (fun _ => ?_) (fun hb => absurd (by omega) hb)
      exact wp_ret d188_60 rfl (h N' r' u' hM' fr e22 e32 e33 q1 (by omega) q3 q4 q5 (by rw [← he]; exact row))
    | succ f ih =>
      intro S' N' r' u' o' l' hv he hM' fr e22 e32 e33 q1 q2 q3 q4 q5 row
      have ec : N' 73 (17 * r' + 0) = (hd S' : Int) := by obtain ⟨w, hw⟩ := flat_hd o'; rw [hw] at row; exact row.1
      have hhl := hd_le o'
      by_cases hh : 16 ≤ hd S'
      case neg =>
        have he : S' = expo Γ Γ.length S := by
          have he : (if 16 ≤ hd S' then _ else S') = _ := he
          rw [if_neg hh] at he
          exact he
        refine wp_aload_n d188_10 rfl ?_
        refine wp_aload_n d188_11 rfl ?_
        refine wz_getI (v := r') d188_12 rfl (hG.o (by decide) rfl) (by decide) (e32) ?_
        refine wp_aload_n d188_15 rfl ?_
        refine wz_getI (v := 0) d188_16 rfl (hG.o (by decide) rfl) (by decide) (e33) ?_
        refine wp_virt (as := [.int (zI 0), .int (zI r')]) (rest := []) d188_19 rfl rfl rfl (hG.o (by decide) rfl) rfl rfl (Nat.le_of_ble_eq_true rfl) ?_
        refine m_cell hG (by omega) (by omega) ?_
        rw [ec]
        refine wz_bipush d188_22 (by decide) ?_
        refine wz_icmp_lt (t := 60) d188_24 (by decide) ⟨by omega, by omega⟩ ⟨by omega, by omega⟩ (fun _ => ?_) (fun hb => absurd (by omega) hb)
        exact wp_ret d188_60 rfl (h N' r' u' hM' fr e22 e32 e33 q1 (by omega) q3 q4 q5 (by rw [← he]; exact row))
      obtain ⟨k, hk, rfl⟩ := hd_is_var o' hh
      have he : expo Γ f (exps Γ (tVar k)) = expo Γ Γ.length S := by
        have he : (if 16 ≤ hd (tVar k) then _ else _) = _ := he
        rw [if_pos hh] at he
        exact he
      rw [exps_var] at he
      rw [lv_var] at hv
      have lv2 := lv_exps hcx hk
      have ob := ok_expose hcx hk
      have lb : (flat (lft k (Γ.length - k) (bnd Γ k))).length ≤ 16 := by rw [lft_len]; exact hc.bnd_len hk
      rw [hd_var] at ec hh
      refine wp_aload_n d188_10 rfl ?_
      refine wp_aload_n d188_11 rfl ?_
      refine wz_getI (v := r') d188_12 rfl (hG.o (by decide) rfl) (by decide) (e32) ?_
      refine wp_aload_n d188_15 rfl ?_
      refine wz_getI (v := 0) d188_16 rfl (hG.o (by decide) rfl) (by decide) (e33) ?_
      refine wp_virt (as := [.int (zI 0), .int (zI r')]) (rest := []) d188_19 rfl rfl rfl (hG.o (by decide) rfl) rfl rfl (Nat.le_of_ble_eq_true rfl) ?_
      refine m_cell hG (by omega) (by omega) ?_
      rw [ec]
      refine wz_bipush d188_22 (by decide) ?_
      refine wz_icmp_lt (t := 60) d188_24 (by decide) ⟨by omega, by omega⟩ ⟨by omega, by omega⟩ (fun hb => absurd hb (by omega)) (fun _ => ?_)
      refine wp_aload_n d188_27 rfl ?_
      refine wp_aload_n d188_28 rfl ?_
      refine wp_aload_n d188_29 rfl ?_
      refine wp_aload_n d188_30 rfl ?_
      refine wz_getI (v := r') d188_31 rfl (hG.o (by decide) rfl) (by decide) (e32) ?_
      refine wp_aload_n d188_34 rfl ?_
      refine wz_getI (v := 0) d188_35 rfl (hG.o (by decide) rfl) (by decide) (e33) ?_
      refine wp_virt (as := [.int (zI 0), .int (zI r')]) (rest := [.ref 56, .ref 56]) d188_38 rfl rfl rfl (hG.o (by decide) rfl) rfl rfl (Nat.le_of_ble_eq_true rfl) ?_
      refine m_cell hG (by omega) (by omega) ?_
      rw [ec]
      refine wz_bipush d188_41 (by decide) ?_
      refine wz_isub d188_43 ?_
      refine wp_iload_n d188_44 rfl ?_
      refine wp_iload_n d188_45 rfl ?_
      refine wp_virt (as := [.int (zI (Γ.length : Int)), .int (zI c), .int (zI ((((16 + k : Nat) : Int)) - 16))]) (rest := [.ref 56]) d188_46 rfl rfl rfl (hG.o (by decide) rfl) rfl rfl (Nat.le_of_ble_eq_true rfl) ?_
      rw [show ((16 + k : Nat) : Int) - 16 = (k : Int) by omega]
      refine m_boundOf (d := d) (Γ := Γ) (x := x) hG hM' e22 (by omega) x1 (by omega) (by omega) (fr.ctx q1 hc) hk (by omega) ?_
      refine wz_putI (i := 32) d188_49 rfl (hG.o (by decide) rfl) rfl (by decide) rfl ?_
      refine wp_aload_n d188_52 rfl ?_
      refine wz_iconst d188_53 ?_
      refine wz_putI (i := 33) d188_54 rfl (hG.o (by decide) rfl) rfl (by decide) rfl ?_
      refine wp_goto (t := 10) d188_57 (by decide) ?_
      have R1 := mput_R32 (p := 73) (b := 17 * u') (mset_R32 (p := 56) (i := 22) (v := u' + 1) hM' ⟨by omega, by omega⟩) (fun c' hc' => flat_R32 ob (by omega) (by omega) c' hc')
      refine ih _ _ u' (u' + 1) ob lb (by omega) he (mset_R32 (mset_R32 R1 ⟨by omega, by omega⟩) ⟨by omega, by omega⟩) ((((fr.set (Or.inl rfl)).put (by omega)).set (Or.inr (Or.inl rfl))).set (Or.inr (Or.inr rfl))) ?_ ?_ (mset_s _ _ _ _) (by omega) (by omega) (by omega) (by omega) (Or.inr (by omega)) ?_
      · rw [mset_i _ _ _ _ (by decide), mset_i _ _ _ _ (by decide), mput_p _ _ _ _ (by decide), mset_s]
      · rw [mset_i _ _ _ _ (by decide), mset_s]
      · refine Row.same (fun i _ _ => (mset_p _ _ _ _ (by decide)).trans (mset_p _ _ _ _ (by decide))) (M := mput (mset N' 56 22 (u' + 1)) 73 (17 * u') (flat (lft k (Γ.length - k) (bnd Γ k)))) ?_
        have := mput_row (flat (lft k (Γ.length - k) (bnd Γ k))) (mset N' 56 22 (u' + 1)) u' 0
        rw [Int.add_zero] at this
        exact this
  refine wc_in (ls0 := [some (.ref 56), some (.int (zI r)), some (.int (zI c)), some (.int (zI (Γ.length : Int)))]) (by decide) (Nat.le_of_ble_eq_true rfl) rfl rfl ?_
  refine wp_aload_n d188_0 rfl ?_
  refine wp_iload_n d188_1 rfl ?_
  refine wz_putI (i := 32) d188_2 rfl (hG.o (by decide) rfl) rfl (by decide) rfl ?_
  refine wp_aload_n d188_5 rfl ?_
  refine wz_iconst d188_6 ?_
  refine wz_putI (i := 33) d188_7 rfl (hG.o (by decide) rfl) rfl (by decide) rfl ?_
  refine loop Γ.length S _ r u oS lS (lv_le oS) rfl (mset_R32 (mset_R32 hM ⟨by omega, by omega⟩) ⟨by omega, by omega⟩) (((XPF.refl u N).set (Or.inr (Or.inl rfl))).set (Or.inr (Or.inr rfl))) ?_ ?_ (mset_s _ _ _ _) (by omega) (by omega) r0 ru (Or.inl rfl) ?_
  · rw [mset_i _ _ _ _ (by decide), mset_i _ _ _ _ (by decide)]; exact hu
  · rw [mset_i _ _ _ _ (by decide), mset_s]
  · exact Row.same (fun i _ _ => (mset_p _ _ _ _ (by decide)).trans (mset_p _ _ _ _ (by decide))) hr
theorem m_gets {i r a : Int} {l : List Int} (hG : pm_G Rf K L n) (hM : ∀ p i, R32 (N p i)) (i0 : 0 ≤ i) (i1 : i < 60) (r0 : 0 ≤ r) (r1 : r < 1100) (a0 : 0 ≤ a) (a1 : a + l.length ≤ 17) (l1 : l.length ≤ 16) (ne : r ≠ 4 + i) (hr : Row N r a l) (hp : pre 1 l = true) (h : Q (some (.int (zI 1))) (zM (mput N 73 (17 * (4 + i)) l), Rf, K, L, n, s)) : pm_Wc (d + 4) 189 [.ref 56, .int (zI i), .int (zI r), .int (zI a)] (zM N, Rf, K, L, n, s) Q := by
  refine wc_in (ls0 := [some (.ref 56), some (.int (zI i)), some (.int (zI r)), some (.int (zI a)), none]) (by decide) (Nat.le_of_ble_eq_true rfl) rfl rfl ?_
  refine wp_aload_n d189_0 rfl ?_
  refine wp_iload_n d189_1 rfl ?_
  refine wp_iload_n d189_2 rfl ?_
  refine wp_virt (as := [.int (zI a), .int (zI r)]) (rest := []) d189_3 rfl rfl rfl (hG.o (by decide) rfl) rfl rfl (Nat.le_of_ble_eq_true rfl) ?_
  refine m_end (l := l) hG hM r0 r1 a0 a1 hr hp ?_
  refine wp_iload_n d189_6 rfl ?_
  refine wz_isub d189_7 ?_
  refine wp_istore d189_8 (Nat.le_of_ble_eq_true rfl) rfl ?_
  refine wp_iload d189_10 rfl ?_
  refine wz_bipush d189_12 (by decide) ?_
  refine wz_icmp_le (t := 19) d189_14 (by decide) ⟨by omega, by omega⟩ ⟨by omega, by omega⟩ (fun _ => ?_) (fun hb => absurd (by omega) hb)
  refine wp_aload_n d189_19 rfl ?_
  refine wp_iload_n d189_20 rfl ?_
  refine wp_iload_n d189_21 rfl ?_
  refine wz_iconst d189_22 ?_
  refine wp_iload_n d189_23 rfl ?_
  refine wz_iadd d189_24 ?_
  refine wz_iconst d189_25 ?_
  refine wp_virt (as := [.int (zI 0), .int (zI (4 + i)), .int (zI a), .int (zI r)]) (rest := []) d189_26 rfl rfl rfl (hG.o (by decide) rfl) rfl rfl (Nat.le_of_ble_eq_true rfl) ?_
  refine m_copy (l := l) hG hM r0 r1 a0 a1 (by omega) (by omega) (by omega) (by omega) ne hr hp ?_
  refine wz_iconst d189_29 ?_
  rw [Int.add_zero]
  exact wp_ret d189_30 rfl (h)
theorem m_binding {i r j c : Int} {A B : List Int} (hG : pm_G Rf K L n) (hM : ∀ p i, R32 (N p i)) (i0 : 0 ≤ i) (i1 : i < 60) (j0 : 0 ≤ j) (j1 : j < 60) (r0 : 0 ≤ r) (r1 : r < 1100) (c0 : R32 c) (lA : A.length ≤ 16) (lB : B.length ≤ 16) (ne : r ≠ 4 + i) (nj : j ≠ i) (hA : Row N r 0 A) (pA : pre 1 A = true) (hB : Row N (4 + j) 0 B) (pB : pre 1 B = true) (h1 : ∀ N' : pm_M, 1 + A.length + B.length ≤ 16 → (∀ p i, R32 (N' p i)) → (∀ (p : Nat) (k : Int), ¬ (p = 73 ∧ 17 * (4 + i) ≤ k ∧ k < 17 * (4 + i) + 17) → N' p k = N p k) → Row N' (4 + i) 0 (c :: (A ++ B)) → Q (some (.int (zI 1))) (zM N', Rf, K, L, n, s)) (h0 : ¬ 1 + A.length + B.length ≤ 16 → Q (some (.int (zI 0))) (zM N, Rf, K, L, n, s)) : pm_Wc (d + 4) 190 [.ref 56, .int (zI i), .int (zI c), .int (zI r), .int (zI j)] (zM N, Rf, K, L, n, s) Q := by
  refine wc_in (ls0 := [some (.ref 56), some (.int (zI i)), some (.int (zI c)), some (.int (zI r)), some (.int (zI j))]) (by decide) (Nat.le_of_ble_eq_true rfl) rfl rfl ?_
  refine wz_iconst d190_0 ?_
  refine wp_aload_n d190_1 rfl ?_
  refine wp_iload_n d190_2 rfl ?_
  refine wz_iconst d190_3 ?_
  refine wp_virt (as := [.int (zI 0), .int (zI r)]) (rest := [.int (zI 1)]) d190_4 rfl rfl rfl (hG.o (by decide) rfl) rfl rfl (Nat.le_of_ble_eq_true rfl) ?_
  refine m_end (l := A) hG hM r0 r1 (by omega) (by omega) hA pA ?_
  refine wz_iadd d190_7 ?_
  refine wp_aload_n d190_8 rfl ?_
  refine wz_iconst d190_9 ?_
  refine wp_iload d190_10 rfl ?_
  refine wz_iadd d190_12 ?_
  refine wz_iconst d190_13 ?_
  refine wp_virt (as := [.int (zI 0), .int (zI (4 + j))]) (rest := [.int (zI (1 + (0 + (A.length : Int))))]) d190_14 rfl rfl rfl (hG.o (by decide) rfl) rfl rfl (Nat.le_of_ble_eq_true rfl) ?_
  refine m_end (l := B) hG hM (by omega) (by omega) (by omega) (by omega) hB pB ?_
  refine wz_iadd d190_17 ?_
  refine wz_bipush d190_18 (by decide) ?_
  refine wz_icmp_le (t := 25) d190_20 (by decide) ⟨by omega, by omega⟩ ⟨by omega, by omega⟩ (fun hb => ?_) (fun hb => ?_)
  · skip
    have M1 : ∀ p i', R32 (mset N 73 (17 * (4 + i)) c p i') := mset_R32 hM c0
    refine wp_aload_n d190_25 rfl ?_
    refine wp_getR (q := 73) d190_26 rfl (hG.o (by decide) rfl) (by decide) (hG.r (by decide +kernel)) (by decide) ?_
    refine wz_bipush d190_29 (by decide) ?_
    refine wz_iconst d190_31 ?_
    refine wp_iload_n d190_32 rfl ?_
    refine wz_iadd d190_33 ?_
    refine wz_imul d190_34 ?_
    refine wp_iload_n d190_35 rfl ?_
    refine wz_iast (z := 18700) d190_36 (hG.a (by decide) rfl rfl) (by omega) (by omega) (by decide) ?_
    refine wp_aload_n d190_37 rfl ?_
    refine wp_iload_n d190_38 rfl ?_
    refine wz_iconst d190_39 ?_
    refine wz_iconst d190_40 ?_
    refine wp_iload_n d190_41 rfl ?_
    refine wz_iadd d190_42 ?_
    refine wz_iconst d190_43 ?_
    refine wp_virt (as := [.int (zI 1), .int (zI (4 + i)), .int (zI 0), .int (zI r)]) (rest := []) d190_44 rfl rfl rfl (hG.o (by decide) rfl) rfl rfl (Nat.le_of_ble_eq_true rfl) ?_
    refine m_copy (l := A) hG M1 r0 r1 (by omega) (by omega) (by omega) (by omega) (by omega) (by omega) ne (Row.same (fun k _ _ => mset_i _ _ _ _ (by omega)) hA) pA ?_
    have M2 := mput_R32 (p := 73) (b := 17 * (4 + i) + 1) M1 (hA.R32 hM)
    refine wp_aload_n d190_47 rfl ?_
    refine wz_iconst d190_48 ?_
    refine wp_iload d190_49 rfl ?_
    refine wz_iadd d190_51 ?_
    refine wz_iconst d190_52 ?_
    refine wz_iconst d190_53 ?_
    refine wp_iload_n d190_54 rfl ?_
    refine wz_iadd d190_55 ?_
    refine wz_iconst d190_56 ?_
    refine wp_aload_n d190_57 rfl ?_
    refine wp_iload_n d190_58 rfl ?_
    refine wz_iconst d190_59 ?_
    refine wp_virt (as := [.int (zI 0), .int (zI r)]) (rest := [.int (zI 1), .int (zI (4 + i)), .int (zI 0), .int (zI (4 + j)), .ref 56]) d190_60 rfl rfl rfl (hG.o (by decide) rfl) rfl rfl (Nat.le_of_ble_eq_true rfl) ?_
    have hA2 : Row (mput (mset N 73 (17 * (4 + i)) c) 73 (17 * (4 + i) + 1) A) r 0 A := Row.same (fun k _ _ => (mput_o _ _ _ _ (by omega)).trans (mset_i _ _ _ _ (by omega))) hA
    have hB2 : Row (mput (mset N 73 (17 * (4 + i)) c) 73 (17 * (4 + i) + 1) A) (4 + j) 0 B := Row.same (fun k _ _ => (mput_o _ _ _ _ (by omega)).trans (mset_i _ _ _ _ (by omega))) hB
    refine m_end (l := A) hG M2 r0 r1 (by omega) (by omega) hA2 pA ?_
    refine wz_iadd d190_63 ?_
    refine wp_virt (as := [.int (zI (1 + (0 + (A.length : Int)))), .int (zI (4 + i)), .int (zI 0), .int (zI (4 + j))]) (rest := []) d190_64 rfl rfl rfl (hG.o (by decide) rfl) rfl rfl (Nat.le_of_ble_eq_true rfl) ?_
    refine m_copy (l := B) hG M2 (by omega) (by omega) (by omega) (by omega) (by omega) (by omega) (by omega) (by omega) (by omega) hB2 pB ?_
    refine wz_iconst d190_67 ?_
    refine wp_ret d190_68 rfl (h1 _ (by omega) (mput_R32 M2 (hB.R32 hM)) (fun p k w => ?_) ⟨?_, ?_⟩)
    · by_cases e : p = 73
      · subst e
        rw [mput_o _ _ _ _ (by omega), mput_o _ _ _ _ (by omega), mset_i _ _ _ _ (by omega)]
      · rw [mput_p _ _ _ _ e, mput_p _ _ _ _ e, mset_p _ _ _ _ e]
    · rw [mput_o _ _ _ _ (by omega), mput_o _ _ _ _ (by omega), Int.add_zero, mset_s]
    · rw [Row.app, show (0 : Int) + 1 = 1 from rfl]
      refine ⟨Row.same (fun k _ _ => mput_o _ _ _ _ (by omega)) (mput_row A (mset N 73 (17 * (4 + i)) c) (4 + i) 1), ?_⟩
      rw [show 1 + (A.length : Int) = 1 + (0 + (A.length : Int)) by omega]
      exact mput_row B _ (4 + i) _
  · skip
    refine wz_iconst d190_23 ?_
    exact wp_ret d190_24 rfl (h0 (by omega))
end PmF2
