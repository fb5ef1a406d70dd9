/-! THE CLASS: small methods on nodes; a node made anew. -/
theorem lft_hd {d : Nat} {t : Ty} (h : ok d t = true) (k b : Nat) : hd (lft k b t) = if 16 + k ≤ hd t then hd t + b else hd t := by
  rcases ok_cases h with rfl | ⟨v, -, rfl⟩ | ⟨x, y, rfl, -, -⟩ | ⟨x, y, rfl, -, -⟩ | ⟨m, x, y, z, hm, rfl, -, -, -⟩ <;> rfl
theorem lft_fun (k b : Nat) (x y : Ty) : lft k b (tFun x y) = tFun (lft k b x) (lft k b y) := by
  show Std.Format.tag (if 16 + k ≤ 1 then 1 + b else 1) _ = _
  rw [if_neg (by omega)]; rfl
theorem lft_all (k b : Nat) (x y : Ty) : lft k b (tAll x y) = tAll (lft k b x) (lft k b y) := by
  show Std.Format.tag (if 16 + k ≤ 2 then 2 + b else 2) _ = _
  rw [if_neg (by omega)]; rfl
theorem lft_rec {m : Nat} (hm : m < 8) (k b : Nat) (x y z : Ty) : lft k b (tRec m x y z) = tRec m (lft k b x) (lft k b y) (lft k b z) := by
  show Std.Format.tag (if 16 + k ≤ 8 + m then 8 + m + b else 8 + m) _ = _
  rw [if_neg (by omega)]; rfl
theorem lft_top (k b : Nat) : lft k b tTop = tTop := by
  show Std.Format.tag (if 16 + k ≤ 0 then 0 + b else 0) _ = _
  rw [if_neg (by omega)]; rfl
theorem lft_var (k b v : Nat) : lft k b (tVar v) = if k ≤ v then tVar (v + b) else tVar v := by
  show Std.Format.tag (if 16 + k ≤ 16 + v then 16 + v + b else 16 + v) _ = _
  by_cases h : k ≤ v
  · rw [if_pos (by omega), if_pos h, Nat.add_assoc]; rfl
  · rw [if_neg (by omega), if_neg h]; rfl
theorem lft_pt {d : Nat} {t : Ty} (h : ok d t = true) (hv : hd t < 16) (k b : Nat) {g : Nat} (hg : g < 3) : pt (lft k b t) g = lft k b (pt t g) := by
  rcases ok_cases h with rfl | ⟨v, -, rfl⟩ | ⟨x, y, rfl, -, -⟩ | ⟨x, y, rfl, -, -⟩ | ⟨m, x, y, z, hm, rfl, -, -, -⟩
  · rw [lft_top]
    rcases (show g = 0 ∨ g = 1 ∨ g = 2 by omega) with rfl | rfl | rfl <;> rfl
  · rw [hd_var] at hv; omega
  · rw [lft_fun]
    rcases (show g = 0 ∨ g = 1 ∨ g = 2 by omega) with rfl | rfl | rfl <;> rfl
  · rw [lft_all]
    rcases (show g = 0 ∨ g = 1 ∨ g = 2 by omega) with rfl | rfl | rfl <;> rfl
  · rw [lft_rec hm]
    obtain ⟨p0, p1, p2⟩ := pt_rec hm x y z
    obtain ⟨q0, q1, q2⟩ := pt_rec hm (lft k b x) (lft k b y) (lft k b z)
    rcases (show g = 0 ∨ g = 1 ∨ g = 2 by omega) with rfl | rfl | rfl
    · rw [p0, q0]
    · rw [p1, q1]
    · rw [p2, q2]
theorem map_id' {f : Int → Int} : ∀ {l : List Int}, (∀ c ∈ l, f c = c) → l.map f = l
  | [], _ => rfl
  | c :: l, h => by rw [List.map_cons, h c (List.mem_cons_self ..), map_id' (fun x hx => h x (List.mem_cons_of_mem _ hx))]
theorem lft_zero {d : Nat} {t : Ty} (h : ok d t = true) (k : Nat) (hk : k ≤ d) : lft k 0 t = t := by
  have o := ok_lft k 0 t (d - k) (by rw [show k + (d - k) = d by omega]; exact h)
  refine flat_eq o h ?_
  rw [flat_lft]
  refine map_id' (fun c _ => ?_)
  unfold lfc
  split <;> simp
section PmC8
variable {d : Nat} {Q : Option Value → pm_S → Prop} {M : pm_M} {Rf : Nat → Nat → Nat} {K L : Nat → Nat} {n s : Nat}
theorem c_isVar {z : Nat} {i : Int} {c : Nat} (hG : pm_G Rf K L n) (hR : RmI Rf K L n z) (i0 : 0 ≤ i) (i1 : i < z) (iC : M (Rf 6 0) i = (cc c : Int)) (hc : cc c < 1000000) (h1 : 16 ≤ c → Q (some (.int (zI 1))) (zM M, Rf, K, L, n, s)) (h0 : ¬ 16 ≤ c → Q (some (.int (zI 0))) (zM M, Rf, K, L, n, s)) : pm_Wc (d + 1) 35 [.ref 6, .int (zI i)] (zM M, Rf, K, L, n, s) Q := by
  have hz := hR.2.2.2.2
  have ccs := cc_cases c
  refine wc_in (ls0 := [some (.ref 6), some (.int (zI i))]) (by decide) (Nat.le_of_ble_eq_true rfl) rfl rfl ?_
  refine wp_aload_n d35_0 rfl ?_
  refine wp_getR (q := Rf 6 0) d35_1 rfl (hG.o (by decide) rfl) (by decide) rfl (hR.1 0 (by decide)).1 ?_
  refine wp_iload_n d35_4 rfl ?_
  refine wz_iald (z := z) (v := (cc c : Int)) d35_5 (hR.1 0 (by decide)) i0 i1 (by omega) iC ?_
  refine wz_bipush d35_6 (by decide) ?_
  refine wz_icmp_lt (t := 15) d35_8 (by decide) ⟨by omega, by omega⟩ ⟨by omega, by omega⟩ (fun hb => ?_) (fun hb => ?_)
  · refine wz_iconst d35_15 ?_
    exact wp_ret d35_16 rfl (h0 (by omega))
  · refine wz_iconst d35_11 ?_
    refine wp_goto (t := 16) d35_12 (by decide) ?_
    exact wp_ret d35_16 rfl (h1 (by omega))
theorem c_isRec {z : Nat} {i : Int} {c : Nat} (hG : pm_G Rf K L n) (hR : RmI Rf K L n z) (i0 : 0 ≤ i) (i1 : i < z) (iC : M (Rf 6 0) i = (cc c : Int)) (hc : cc c < 1000000) (h1 : 8 ≤ c ∧ c < 16 → Q (some (.int (zI 1))) (zM M, Rf, K, L, n, s)) (h0 : ¬ (8 ≤ c ∧ c < 16) → Q (some (.int (zI 0))) (zM M, Rf, K, L, n, s)) : pm_Wc (d + 1) 33 [.ref 6, .int (zI i)] (zM M, Rf, K, L, n, s) Q := by
  have hz := hR.2.2.2.2
  have ccs := cc_cases c
  refine wc_in (ls0 := [some (.ref 6), some (.int (zI i))]) (by decide) (Nat.le_of_ble_eq_true rfl) rfl rfl ?_
  refine wp_aload_n d33_0 rfl ?_
  refine wp_getR (q := Rf 6 0) d33_1 rfl (hG.o (by decide) rfl) (by decide) rfl (hR.1 0 (by decide)).1 ?_
  refine wp_iload_n d33_4 rfl ?_
  refine wz_iald (z := z) (v := (cc c : Int)) d33_5 (hR.1 0 (by decide)) i0 i1 (by omega) iC ?_
  refine wz_bipush d33_6 (by decide) ?_
  refine wz_icmp_lt (t := 26) d33_8 (by decide) ⟨by omega, by omega⟩ ⟨by omega, by omega⟩ (fun hb => ?_) (fun hb => ?_)
  · refine wz_iconst d33_26 ?_
    exact wp_ret d33_27 rfl (h0 (by omega))
  · refine wp_aload_n d33_11 rfl ?_
    refine wp_getR (q := Rf 6 0) d33_12 rfl (hG.o (by decide) rfl) (by decide) rfl (hR.1 0 (by decide)).1 ?_
    refine wp_iload_n d33_15 rfl ?_
    refine wz_iald (z := z) (v := (cc c : Int)) d33_16 (hR.1 0 (by decide)) i0 i1 (by omega) iC ?_
    refine wz_bipush d33_17 (by decide) ?_
    refine wz_icmp_ge (t := 26) d33_19 (by decide) ⟨by omega, by omega⟩ ⟨by omega, by omega⟩ (fun hb' => ?_) (fun hb' => ?_)
    · refine wz_iconst d33_26 ?_
      exact wp_ret d33_27 rfl (h0 (by omega))
    · refine wz_iconst d33_22 ?_
      refine wp_goto (t := 27) d33_23 (by decide) ?_
      exact wp_ret d33_27 rfl (h1 (by omega))
theorem c_areRecs {z : Nat} {i j : Int} {c c' : Nat} (hG : pm_G Rf K L n) (hR : RmI Rf K L n z) (i0 : 0 ≤ i) (i1 : i < z) (iC : M (Rf 6 0) i = (cc c : Int)) (hc : cc c < 1000000) (j0 : 0 ≤ j) (j1 : j < z) (jC : M (Rf 6 0) j = (cc c' : Int)) (hc' : cc c' < 1000000) (h1 : (8 ≤ c ∧ c < 16) ∧ (8 ≤ c' ∧ c' < 16) → Q (some (.int (zI 1))) (zM M, Rf, K, L, n, s)) (h0 : ¬ ((8 ≤ c ∧ c < 16) ∧ (8 ≤ c' ∧ c' < 16)) → Q (some (.int (zI 0))) (zM M, Rf, K, L, n, s)) : pm_Wc (d + 2) 32 [.ref 6, .int (zI i), .int (zI j)] (zM M, Rf, K, L, n, s) Q := by
  refine wc_in (ls0 := [some (.ref 6), some (.int (zI i)), some (.int (zI j))]) (by decide) (Nat.le_of_ble_eq_true rfl) rfl rfl ?_
  refine wp_aload_n d32_0 rfl ?_
  refine wp_iload_n d32_1 rfl ?_
  refine wp_virt (as := [.int (zI i)]) (rest := []) d32_2 rfl rfl rfl (hG.o (by decide) rfl) rfl rfl (Nat.le_of_ble_eq_true rfl) ?_
  refine c_isRec hG hR i0 i1 iC hc (fun hb => ?_) (fun hb => ?_)
  · refine wz_if_eq (t := 20) d32_5 (by decide) ⟨by omega, by omega⟩ (fun hb => absurd hb (by decide)) (fun _ => ?_)
    refine wp_aload_n d32_8 rfl ?_
    refine wp_iload_n d32_9 rfl ?_
    refine wp_virt (as := [.int (zI j)]) (rest := []) d32_10 rfl rfl rfl (hG.o (by decide) rfl) rfl rfl (Nat.le_of_ble_eq_true rfl) ?_
    refine c_isRec hG hR j0 j1 jC hc' (fun hb' => ?_) (fun hb' => ?_)
    · refine wz_if_eq (t := 20) d32_13 (by decide) ⟨by omega, by omega⟩ (fun hb => absurd hb (by decide)) (fun _ => ?_)
      refine wz_iconst d32_16 ?_
      refine wp_goto (t := 21) d32_17 (by decide) ?_
      exact wp_ret d32_21 rfl (h1 ⟨hb, hb'⟩)
    · refine wz_if_eq (t := 20) d32_13 (by decide) ⟨by omega, by omega⟩ (fun _ => ?_) (fun hb => absurd (by decide) hb)
      refine wz_iconst d32_20 ?_
      exact wp_ret d32_21 rfl (h0 (fun e => hb' e.2))
  · refine wz_if_eq (t := 20) d32_5 (by decide) ⟨by omega, by omega⟩ (fun _ => ?_) (fun hb => absurd (by decide) hb)
    refine wz_iconst d32_20 ?_
    exact wp_ret d32_21 rfl (h0 (fun e => hb e.1))
theorem c_levelOf {z : Nat} {i : Int} {v : Nat} (hG : pm_G Rf K L n) (hR : RmI Rf K L n z) (i0 : 0 ≤ i) (i1 : i < z) (iC : M (Rf 6 0) i = (cc (16 + v) : Int)) (hc : v < 100000) (h : Q (some (.int (zI (v : Int)))) (zM M, Rf, K, L, n, s)) : pm_Wc (d + 1) 36 [.ref 6, .int (zI i)] (zM M, Rf, K, L, n, s) Q := by
  have hz := hR.2.2.2.2
  have ccs := cc_cases (16 + v)
  refine wc_in (ls0 := [some (.ref 6), some (.int (zI i))]) (by decide) (Nat.le_of_ble_eq_true rfl) rfl rfl ?_
  refine wp_aload_n d36_0 rfl ?_
  refine wp_getR (q := Rf 6 0) d36_1 rfl (hG.o (by decide) rfl) (by decide) rfl (hR.1 0 (by decide)).1 ?_
  refine wp_iload_n d36_4 rfl ?_
  refine wz_iald (z := z) (v := (64 + 8 * (v : Int))) d36_5 (hR.1 0 (by decide)) i0 i1 (by omega) (by rw [iC]; omega) ?_
  refine wz_bipush d36_6 (by decide) ?_
  refine wz_isub d36_8 ?_
  refine wz_bipush d36_9 (by decide) ?_
  refine wz_idiv d36_11 (by omega) (by omega) (by omega) (by omega) ?_
  rw [show (64 + 8 * (v : Int) - 64) / 8 = (v : Int) by omega]
  exact wp_ret d36_12 rfl h
/-- a node, perhaps the old one, for a type with the same head -/
theorem c_remake {z N dd dd' : Nat} {cn i x y w : Int} {t t' : Ty} (hG : pm_G Rf K L n) (hR : RmI Rf K L n z) (hM : ∀ p i, R32 (M p i)) (hcn : M 6 6 = cn) (cz : cn ≤ z) (c2 : cn < 16384) (nt : ndf M Rf cn (N + 1) t i) (ot : ok dd t = true) (ot' : ok dd' t' = true) (hdd : dd ≤ 3000) (eh : hd t' = hd t) (hl : (flat t').length ≤ 1000000) (hx : XF M Rf cn N t' 0 x) (hy : XF M Rf cn N t' 1 y) (hw : XF M Rf cn N t' 2 w) (h : ∀ (M' : pm_M) (Rf' : Nat → Nat → Nat) (K' L' : Nat → Nat) (n' s' z' : Nat) (cn' r : Int), CX (fun p i => p = 6 ∧ i = 6) M Rf K L n s z cn M' Rf' K' L' n' s' z' → M' 6 6 = cn' → cn ≤ cn' → cn' ≤ cn + 1 → cn' ≤ z' → ndf M' Rf' cn' (N + 1) t' r → Q (some (.int (zI r))) (zM M', Rf', K', L', n', s')) : pm_Wc (d + 4) 43 [.ref 6, .int (zI i), .int (zI x), .int (zI y), .int (zI w)] (zM M, Rf, K, L, n, s) Q := by
  have hz := hR.2.2.2.2
  have nt0 := nt
  obtain ⟨⟨i0, i1, iC, -, iL⟩, iP⟩ := nt
  have cS := cc_small ot hdd
  have l0 := iL 0 (by decide)
  have l1 := iL 1 (by decide)
  have l2 := iL 2 (by decide)
  have hx0 := hx.1; have hx1 := hx.2.1; have hy0 := hy.1; have hy1 := hy.2.1; have hw0 := hw.1; have hw1 := hw.2.1
  have fl := flat_pts ot'
  have flen : (flat t').length = 1 + ((flat (pt t' 0)).length + ((flat (pt t' 1)).length + (flat (pt t' 2)).length)) := by
    rw [fl, List.length_cons, List.length_append, List.length_append]; omega
  have mkk : pm_Wp none (d + 3) 43 33 [some (.ref 6), some (.int (zI i)), some (.int (zI x)), some (.int (zI y)), some (.int (zI w))] [] (zM M, Rf, K, L, n, s) Q := by
    refine wp_aload_n d43_33 rfl ?_
    refine wp_aload_n d43_34 rfl ?_
    refine wp_getR (q := Rf 6 0) d43_35 rfl (hG.o (by decide) rfl) (by decide) rfl (hR.1 0 (by decide)).1 ?_
    refine wp_iload_n d43_38 rfl ?_
    refine wz_iald (z := z) (v := (cc (hd t') : Int)) d43_39 (hR.1 0 (by decide)) i0 (by omega) (by omega) (by rw [eh]; exact iC) ?_
    refine wp_iload_n d43_40 rfl ?_
    refine wp_iload_n d43_41 rfl ?_
    refine wp_iload d43_42 rfl ?_
    refine wp_virt (as := [.int (zI w), .int (zI y), .int (zI x), .int (zI (cc (hd t') : Int))]) (rest := []) d43_44 rfl rfl rfl (hG.o (by decide) rfl) rfl rfl (Nat.le_of_ble_eq_true rfl) ?_
    have q0 := hx.size ot' (by decide)
    have q1 := hy.size ot' (by decide)
    have q2 := hw.size ot' (by decide)
    refine c_make hG hR hM hcn cz c2 (by rw [eh]; exact cS) hx0 hx1 hy0 hy1 hw0 hw1 (by rw [q0]; omega) (by rw [q1]; omega) (by rw [q2]; omega) (fun M' Rf' K' L' n' s' z' mk => ?_)
    have nd' := mk.ndf ot' (by omega) hx hy hw
    have mcx := mk.cx
    obtain ⟨-, m6, mz, -⟩ := mk
    exact wp_ret d43_47 rfl (h M' Rf' K' L' n' s' z' (cn + 1) cn mcx m6 (by omega) (Int.le_refl _) (by omega) nd')
  refine wc_in (ls0 := [some (.ref 6), some (.int (zI i)), some (.int (zI x)), some (.int (zI y)), some (.int (zI w))]) (by decide) (Nat.le_of_ble_eq_true rfl) rfl rfl ?_
  refine wp_iload_n d43_0 rfl ?_
  refine wp_aload_n d43_1 rfl ?_
  refine wp_getR (q := Rf 6 1) d43_2 rfl (hG.o (by decide) rfl) (by decide) rfl (hR.1 1 (by decide)).1 ?_
  refine wp_iload_n d43_5 rfl ?_
  refine wz_iald (z := z) (v := M (Rf 6 1) i) d43_6 (hR.1 1 (by decide)) i0 (by omega) (by omega) rfl ?_
  refine wz_icmp_ne (t := 33) d43_7 (by decide) ⟨by omega, by omega⟩ (hM _ _) (fun _ => mkk) (fun b0 => ?_)
  refine wp_iload_n d43_10 rfl ?_
  refine wp_aload_n d43_11 rfl ?_
  refine wp_getR (q := Rf 6 2) d43_12 rfl (hG.o (by decide) rfl) (by decide) rfl (hR.1 2 (by decide)).1 ?_
  refine wp_iload_n d43_15 rfl ?_
  refine wz_iald (z := z) (v := M (Rf 6 2) i) d43_16 (hR.1 2 (by decide)) i0 (by omega) (by omega) rfl ?_
  refine wz_icmp_ne (t := 33) d43_17 (by decide) ⟨by omega, by omega⟩ (hM _ _) (fun _ => mkk) (fun b1 => ?_)
  refine wp_iload d43_20 rfl ?_
  refine wp_aload_n d43_22 rfl ?_
  refine wp_getR (q := Rf 6 3) d43_23 rfl (hG.o (by decide) rfl) (by decide) rfl (hR.1 3 (by decide)).1 ?_
  refine wp_iload_n d43_26 rfl ?_
  refine wz_iald (z := z) (v := M (Rf 6 3) i) d43_27 (hR.1 3 (by decide)) i0 (by omega) (by omega) rfl ?_
  refine wz_icmp_ne (t := 33) d43_28 (by decide) ⟨by omega, by omega⟩ (hM _ _) (fun _ => mkk) (fun b2 => ?_)
  refine wp_iload_n d43_31 rfl ?_
  have et : t' = t := by
    refine eq_parts ot' ot eh (fun g hg hb => ?_)
    have hb' : hp t g = true := by unfold hp at hb ⊢; rw [← eh]; exact hb
    obtain ⟨d1, -, o1⟩ := pt_ok ot' hg hb
    obtain ⟨d2, -, o2⟩ := pt_ok ot hg hb'
    have p := iP g hg hb'
    rcases (show g = 0 ∨ g = 1 ∨ g = 2 by omega) with rfl | rfl | rfl
    · have q := hx.2.2 hb
      rw [b0] at q
      exact ndf_inj o1 o2 q p
    · have q := hy.2.2 hb
      rw [b1] at q
      exact ndf_inj o1 o2 q p
    · have q := hw.2.2 hb
      rw [b2] at q
      exact ndf_inj o1 o2 q p
  exact wp_ret d43_32 rfl (h M Rf K L n s z cn i (CX.refl hG hR hM) hcn (Int.le_refl _) (by omega) cz (by rw [et]; exact nt0))
end PmC8
