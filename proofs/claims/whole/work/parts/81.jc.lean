/-! THE CLASS: what joinOf and meetOf answer; joinOfParts, meetOfParts. -/
theorem tnu_zero : tnu 0 ≠ none := by
  unfold tnu
  rw [if_pos rfl]
  intro e; cases e
theorem uFun_zero : ∀ a b : Ru, uFun 0 a b ≠ none
  | none, _ => tnu_zero
  | some _, none => tnu_zero
  | some _, some _ => fun e => by cases e
theorem uAll_zero (A : Ty) : ∀ a : Ru, uAll 0 A a ≠ none
  | none => tnu_zero
  | some _ => fun e => by cases e
theorem uRec_zero (m : Nat) : ∀ a b c : Ru, uRec 0 m a b c ≠ none
  | none, _, _ => tnu_zero
  | some _, none, _ => tnu_zero
  | some _, some _, none => tnu_zero
  | some _, some _, some _ => fun e => by cases e
/-- a join is never wanting -/
theorem cu_zero : ∀ (f : Nat) (Γ : List Ty) (S T : Ty), tok (Γ, S, T) → twt (Γ, S, T) ≤ f → cu f 0 Γ S T ≠ none
  | 0, Γ, S, T, h, hf => by have := twt_two h; omega
  | f + 1, Γ, S, T, h, hf => by
    obtain ⟨hc0, hs0, ht0⟩ := h
    have hc : okc Γ := hc0
    have hs : ok Γ.length S = true := hs0
    have hT : ok Γ.length T = true := ht0
    have hf : wt (om Γ) S + wt (om Γ) T ≤ f + 1 := hf
    show cmsU (cu f) 0 Γ S T ≠ none
    unfold cmsU
    rw [if_neg (by decide)]
    by_cases c2 : bel Γ S T = true
    · rw [if_pos c2]; intro e; cases e
    rw [if_neg c2]
    by_cases c3 : bel Γ T S = true
    · rw [if_pos c3]; intro e; cases e
    rw [if_neg c3]
    by_cases c4 : 16 ≤ hd S
    · rw [if_pos c4, if_neg (by decide)]
      obtain ⟨k, hk, rfl⟩ := hd_is_var hs c4
      rw [exps_var]
      refine cu_zero f Γ _ T ⟨hc, ok_expose hc hk, hT⟩ ?_
      show wt (om Γ) (lft k (Γ.length - k) (bnd Γ k)) + wt (om Γ) T ≤ f
      rw [wt_expose hc hk]
      rw [wt_var] at hf
      omega
    rw [if_neg c4]
    by_cases c6 : 16 ≤ hd T
    · rw [if_pos c6, if_neg (by decide)]
      obtain ⟨k, hk, rfl⟩ := hd_is_var hT c6
      rw [exps_var]
      refine cu_zero f Γ S _ ⟨hc, hs, ok_expose hc hk⟩ ?_
      show wt (om Γ) S + wt (om Γ) (lft k (Γ.length - k) (bnd Γ k)) ≤ f
      rw [wt_expose hc hk]
      rw [wt_var] at hf
      omega
    rw [if_neg c6]
    by_cases c7 : 8 ≤ hd S ∧ 8 ≤ hd T
    · rw [if_pos c7]; exact uRec_zero _ _ _ _
    rw [if_neg c7]
    by_cases c8 : hd S = 1 ∧ hd T = 1
    · rw [if_pos c8]; exact uFun_zero _ _
    rw [if_neg c8]
    by_cases c9 : hd S = 2 ∧ hd T = 2 ∧ flat (k1 S) = flat (k1 T)
    · rw [if_pos c9]; exact uAll_zero _ _
    rw [if_neg c9]
    exact tnu_zero
theorem cmu_zero {Γ : List Ty} {S T : Ty} (h : tok (Γ, S, T)) : ∃ R, cmu 0 Γ S T = some R := by
  have := cu_zero (wt (om Γ) S + wt (om Γ) T) Γ S T h (Nat.le_refl _)
  cases e : cmu 0 Γ S T with
  | none => exact absurd e this
  | some R => exact ⟨R, rfl⟩
/-- the node of what was found, or -1 -/
def JR (M : pm_M) (Rf : Nat → Nat → Nat) (cn : Int) (N : Nat) : Ru → Int → Prop
  | none, r => r = -1
  | some R, r => ndf M Rf cn N R r
/-- nodes that may be made for two types -/
def nbm (Γ : List Ty) (S T : Ty) : Nat := 16 * (rwt (omr Γ) S + rwt (omr Γ) T) + (swt (oms Γ) S + swt (oms Γ) T)
/-- what joinOf (w = 0, method 52) and meetOf (w = 1, method 55) answer -/
def JC (w mth d F : Nat) : Prop := ∀ (Γ : List Ty) (S T : Ty) (i j : Int) (deep : Nat) (M : pm_M) (Rf : Nat → Nat → Nat) (K L : Nat → Nat) (n s z : Nat) (cn : Int) (Q : Option Value → pm_S → Prop), BH M Rf K L n z cn Γ S T i j → ndf M Rf cn 1 tTop 0 → hgt (oh Γ) S + hgt (oh Γ) T ≤ 2 * F → cn + (nbm Γ S T : Nat) + 16 * ((hgt (oh Γ) S + hgt (oh Γ) T : Nat) : Int) ≤ 8192 → deep + F ≤ 40 → Γ.length + F ≤ 64 → 17 * (wt (om Γ) S + wt (om Γ) T) ≤ 1000000 → (∀ (M' : pm_M) (Rf' : Nat → Nat → Nat) (K' L' : Nat → Nat) (n' s' z' : Nat) (cn' r : Int), CX (WB Γ.length) M Rf K L n s z cn M' Rf' K' L' n' s' z' → M' 6 6 = cn' → cn ≤ cn' → cn' ≤ cn + (nbm Γ S T : Nat) → cn' ≤ z' → JR M' Rf' cn' (16 + F) (cmu w Γ S T) r → Q (some (.int (zI r))) (zM M', Rf', K', L', n', s')) → pm_Wc (d + 8 * F + 90) mth [.ref 6, .int (zI i), .int (zI j), .int (zI (Γ.length : Int)), .int (zI (deep : Int))] (zM M, Rf, K, L, n, s) Q
section PmC15
variable {d : Nat}
theorem c_joinParts {F g : Nat} (IH : JC 0 52 d F) {Γ : List Ty} {S T : Ty} {i j : Int} {deep : Nat} {M : pm_M} {Rf : Nat → Nat → Nat} {K L : Nat → Nat} {n s z : Nat} {cn : Int} {Q : Option Value → pm_S → Prop} (hg : g < 3) (hG : pm_G Rf K L n) (hR : RmI Rf K L n z) (hM : ∀ p i, R32 (M p i)) (hcn : M 6 6 = cn) (c1 : 1 ≤ cn) (cz : cn ≤ z) (hcx : okc Γ) (oS : ok Γ.length S = true) (oT : ok Γ.length T = true) (oSg : hp S g = true → ok Γ.length (pt S g) = true) (oTg : hp T g = true → ok Γ.length (pt T g) = true) (top : ndf M Rf cn 1 tTop 0) (bn : BN M Rf cn Γ) (nS : ndf M Rf cn 16 S i) (nT : ndf M Rf cn 16 T j) (lS : (flat (pt S g)).length ≤ 16) (lT : (flat (pt T g)).length ≤ 16) (hh : hgt (oh Γ) (pt S g) + hgt (oh Γ) (pt T g) ≤ 2 * F) (hc : cn + (nbm Γ (pt S g) (pt T g) : Nat) + 16 * ((hgt (oh Γ) (pt S g) + hgt (oh Γ) (pt T g) : Nat) : Int) ≤ 8192) (hdp : deep + F + 1 ≤ 40) (hΓ : Γ.length + F ≤ 64) (hw : 17 * (wt (om Γ) (pt S g) + wt (om Γ) (pt T g)) ≤ 1000000) (h : ∀ (M' : pm_M) (Rf' : Nat → Nat → Nat) (K' L' : Nat → Nat) (n' s' z' : Nat) (cn' r : Int), CX (WB Γ.length) M Rf K L n s z cn M' Rf' K' L' n' s' z' → M' 6 6 = cn' → cn ≤ cn' → cn' ≤ cn + (nbm Γ (pt S g) (pt T g) : Nat) → cn' ≤ z' → 0 ≤ r → r < cn' → (hp S g = true → hp T g = true → JR M' Rf' cn' (16 + F) (cmu 0 Γ (pt S g) (pt T g)) r) → Q (some (.int (zI r))) (zM M', Rf', K', L', n', s')) : pm_Wc (d + 8 * F + 91) 54 [.ref 6, .int (zI i), .int (zI j), .int (zI (g : Int)), .int (zI (Γ.length : Int)), .int (zI (deep : Int))] (zM M, Rf, K, L, n, s) Q := by
  have hz := hR.2.2.2.2
  have cS := cc_small oS (by omega)
  have cT := cc_small oT (by omega)
  obtain ⟨⟨i0, i1, iC, -, iL⟩, iP⟩ := nS
  obtain ⟨⟨j0, j1, jC, -, jL⟩, jP⟩ := nT
  have none0 : ¬ (hp S g = true ∧ hp T g = true) → pm_Wp none (d + 8 * F + 90) 54 26 [some (.ref 6), some (.int (zI i)), some (.int (zI j)), some (.int (zI (g : Int))), some (.int (zI (Γ.length : Int))), some (.int (zI (deep : Int)))] [] (zM M, Rf, K, L, n, s) Q := by
    intro hb
    refine wz_iconst d54_26 ?_
    exact wp_ret d54_27 rfl (h M Rf K L n s z cn 0 (CX.refl hG hR hM) hcn (Int.le_refl _) (by omega) cz (Int.le_refl _) (by omega) (fun a b => absurd ⟨a, b⟩ hb))
  refine wc_in (ls0 := [some (.ref 6), some (.int (zI i)), some (.int (zI j)), some (.int (zI (g : Int))), some (.int (zI (Γ.length : Int))), some (.int (zI (deep : Int)))]) (by decide) (Nat.le_of_ble_eq_true rfl) rfl rfl ?_
  refine wp_aload_n d54_0 rfl ?_
  refine wp_getR (q := Rf 6 0) d54_1 rfl (hG.o (by decide) rfl) (by decide) rfl (hR.1 0 (by decide)).1 ?_
  refine wp_iload_n d54_4 rfl ?_
  refine wz_iald (z := z) (v := (cc (hd S) : Int)) d54_5 (hR.1 0 (by decide)) i0 (by omega) (by omega) iC ?_
  refine wp_iload_n d54_6 rfl ?_
  refine wp_stat (as := [.int (zI (g : Int)), .int (zI (cc (hd S) : Int))]) (rest := []) d54_7 rfl rfl rfl rfl rfl (Nat.le_of_ble_eq_true rfl) ?_
  refine c_holds (c := cc (hd S)) (i := g) cS hg (fun hbS => ?_) (fun hbS => ?_)
  · have hbS : hp S g = true := hbS
    refine wz_if_eq (t := 26) d54_10 (by decide) ⟨by omega, by omega⟩ (fun hb => absurd hb (by decide)) (fun _ => ?_)
    refine wp_aload_n d54_13 rfl ?_
    refine wp_getR (q := Rf 6 0) d54_14 rfl (hG.o (by decide) rfl) (by decide) rfl (hR.1 0 (by decide)).1 ?_
    refine wp_iload_n d54_17 rfl ?_
    refine wz_iald (z := z) (v := (cc (hd T) : Int)) d54_18 (hR.1 0 (by decide)) j0 (by omega) (by omega) jC ?_
    refine wp_iload_n d54_19 rfl ?_
    refine wp_stat (as := [.int (zI (g : Int)), .int (zI (cc (hd T) : Int))]) (rest := []) d54_20 rfl rfl rfl rfl rfl (Nat.le_of_ble_eq_true rfl) ?_
    refine c_holds (c := cc (hd T)) (i := g) cT hg (fun hbT => ?_) (fun hbT => ?_)
    · have hbT : hp T g = true := hbT
      refine wz_if_ne (t := 28) d54_23 (by decide) ⟨by omega, by omega⟩ (fun _ => ?_) (fun hb => absurd hb (by decide))
      refine wp_aload_n d54_28 rfl ?_
      refine wp_aload_n d54_29 rfl ?_
      refine wp_iload_n d54_30 rfl ?_
      refine wp_iload_n d54_31 rfl ?_
      refine wp_virt (as := [.int (zI (g : Int)), .int (zI i)]) (rest := [.ref 6]) d54_32 rfl rfl rfl (hG.o (by decide) rfl) rfl rfl (Nat.le_of_ble_eq_true rfl) ?_
      refine c_part hG hR i0 (by omega) hg ?_
      refine wp_aload_n d54_35 rfl ?_
      refine wp_iload_n d54_36 rfl ?_
      refine wp_iload_n d54_37 rfl ?_
      refine wp_virt (as := [.int (zI (g : Int)), .int (zI j)]) (rest := [.int (zI (M (Rf 6 (1 + g)) i)), .ref 6]) d54_38 rfl rfl rfl (hG.o (by decide) rfl) rfl rfl (Nat.le_of_ble_eq_true rfl) ?_
      refine c_part hG hR j0 (by omega) hg ?_
      refine wp_iload d54_41 rfl ?_
      refine wp_iload d54_43 rfl ?_
      refine wz_iconst d54_45 ?_
      refine wz_iadd d54_46 ?_
      refine wp_virt (as := [.int (zI ((deep : Int) + 1)), .int (zI (Γ.length : Int)), .int (zI (M (Rf 6 (1 + g)) j)), .int (zI (M (Rf 6 (1 + g)) i))]) (rest := []) d54_47 rfl rfl rfl (hG.o (by decide) rfl) rfl rfl (Nat.le_of_ble_eq_true rfl) ?_
      have idn : ∀ g, g < 5 → ∀ i : Int, 0 ≤ i → i < cn → M (Rf 6 g) i = M (Rf 6 g) i := fun _ _ _ _ _ => rfl
      refine IH Γ (pt S g) (pt T g) _ _ (deep + 1) M Rf K L n s z cn _ ⟨hG, hR, hM, hcn, c1, cz, ⟨hcx, oSg hbS, oTg hbT⟩, bn, ndf_mono idn (Int.le_refl _) (by decide) (iP g hg hbS), ndf_mono idn (Int.le_refl _) (by decide) (jP g hg hbT), lS, lT⟩ top hh hc (by omega) hΓ hw (fun M' Rf' K' L' n' s' z' cn' r cx v1 v2 v3 v4 jr => ?_)
      obtain ⟨R, eR⟩ := cmu_zero (Γ := Γ) (S := pt S g) (T := pt T g) ⟨hcx, oSg hbS, oTg hbT⟩
      have jr' := jr
      rw [eR] at jr'
      have jr' : ndf M' Rf' cn' (16 + F) R r := jr'
      have rr : 0 ≤ r ∧ r < cn' := by
        have e : 16 + F = (15 + F) + 1 := by omega
        rw [e] at jr'
        exact ⟨jr'.1.1, jr'.1.2.1⟩
      exact wp_ret d54_50 rfl (h M' Rf' K' L' n' s' z' cn' r cx v1 v2 v3 v4 rr.1 rr.2 (fun _ _ => jr))
    · have hbT : ¬ hp T g = true := hbT
      refine wz_if_ne (t := 28) d54_23 (by decide) ⟨by omega, by omega⟩ (fun hb => absurd (by decide) hb) (fun _ => ?_)
      exact none0 (fun e => hbT e.2)
  · have hbS : ¬ hp S g = true := hbS
    refine wz_if_eq (t := 26) d54_10 (by decide) ⟨by omega, by omega⟩ (fun _ => ?_) (fun hb => absurd (by decide) hb)
    exact none0 (fun e => hbS e.1)
end PmC15
