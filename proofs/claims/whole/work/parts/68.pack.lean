/-! THE CLASS: unpack, append, pack, keep. -/
/-- a kept type -/
def KTY (M : pm_M) (kp kc : Nat) (t : Ty) : Prop := M kp 1 = ((flat t).length : Int) ∧ KC M kc 0 (flat t) ∧ (flat t).length ≤ 16 ∧ ok 0 t = true
/-- these codes were written behind the first c0 -/
def PKR (kp kc : Nat) (M M' : pm_M) (c0 : Int) (l : List Int) : Prop := (∀ (p : Nat) (i : Int), ¬ (p = kp ∧ i = 1) → ¬ (p = kc ∧ c0 ≤ i ∧ i < c0 + l.length) → M' p i = M p i) ∧ M' kp 1 = c0 + l.length ∧ KC M' kc c0 l ∧ ∀ p i, R32 (M' p i)
theorem KC.keep {M M' : pm_M} {kc : Nat} : ∀ {l : List Int} {j : Int}, (∀ i : Int, j ≤ i → i < j + l.length → M' kc i = M kc i) → KC M kc j l → KC M' kc j l
  | [], _, _, _ => trivial
  | c :: l, j, e, h => by
    rw [List.length_cons] at e
    exact ⟨by rw [e j (by omega) (by omega)]; exact h.1, KC.keep (fun i h1 h2 => e i (by omega) (by omega)) h.2⟩
theorem PKR.trans {kp kc : Nat} {M M1 M2 : pm_M} {c0 : Int} {l l' : List Int} (hpc : kp ≠ kc) (h : PKR kp kc M M1 c0 l) (h' : PKR kp kc M1 M2 (c0 + l.length) l') : PKR kp kc M M2 c0 (l ++ l') := by
  obtain ⟨a1, a2, a3, a4⟩ := h
  obtain ⟨b1, b2, b3, b4⟩ := h'
  refine ⟨fun p i h1 h2 => ?_, by rw [b2, List.length_append]; omega, KC.app.mpr ⟨KC.keep (fun i q1 q2 => b1 kc i (fun e => hpc e.1.symm) (by omega)) a3, b3⟩, b4⟩
  rw [List.length_append] at h2
  rw [b1 p i h1 (fun e => h2 ⟨e.1, by omega, by omega⟩), a1 p i h1 (fun e => h2 ⟨e.1, by omega, by omega⟩)]
theorem PKR.nodes {kp kc z : Nat} {M M' : pm_M} {c0 cn : Int} {l : List Int} {Rf : Nat → Nat → Nat} {K L : Nat → Nat} {n : Nat} (ko : KO kp kc) (hR : RmI Rf K L n z) (h : PKR kp kc M M' c0 l) : ∀ g, g < 5 → ∀ i : Int, 0 ≤ i → i < cn → M' (Rf 6 g) i = M (Rf 6 g) i :=
  fun g hg i _ _ => h.1 _ _ (fun e => (ko.far hR).1 g hg e.1.symm) (fun e => (ko.far hR).2 g hg e.1.symm)
section PmC7
variable {d : Nat} {M : pm_M} {Rf : Nat → Nat → Nat} {K L : Nat → Nat} {n s : Nat}
theorem c_unpack {Q : Option Value → pm_S → Prop} {kp kc z : Nat} {cn : Int} {t : Ty} (ko : KO kp kc) (hG : pm_G Rf K L n) (hR : RmI Rf K L n z) (hM : ∀ p i, R32 (M p i)) (hcn : M 6 6 = cn) (c1 : 1 ≤ cn) (cz : cn ≤ z) (c2 : cn + (flat t).length ≤ 16384) (kt : KTY M kp kc t) (h : ∀ (M' : pm_M) (Rf' : Nat → Nat → Nat) (K' L' : Nat → Nat) (n' s' z' : Nat), CX (WU kp) M Rf K L n s z cn M' Rf' K' L' n' s' z' → M' 6 6 = cn + (flat t).length → cn + (flat t).length ≤ z' → ndf M' Rf' (cn + (flat t).length) 16 t (cn + (flat t).length - 1) → Q (some (.int (zI (cn + (flat t).length - 1)))) (zM M', Rf', K', L', n', s')) : pm_Wc (d + 21) 39 [.ref 6, .ref kp] (zM M, Rf, K, L, n, s) Q := by
  obtain ⟨k1, k2, k3, ot⟩ := kt
  have hn0 := hG.1
  have hkp := ko.1
  have hkp6 := ko.2.2.2.2.2.2.1
  have far := ko.far hR
  refine wc_in (ls0 := [some (.ref 6), some (.ref kp)]) (by decide) (Nat.le_of_ble_eq_true rfl) (by simp [pm_vc]) rfl ?_
  refine wp_aload_n d39_0 rfl ?_
  refine wz_iconst d39_1 ?_
  refine wz_putI (i := 2) d39_2 rfl (hG.o hkp ko.2.2.1) rfl (by decide) rfl ?_
  refine wp_aload_n d39_5 rfl ?_
  refine wp_aload_n d39_6 rfl ?_
  refine wz_iconst d39_7 ?_
  refine wp_virt (as := [.int (zI 0), .ref kp]) (rest := []) d39_8 rfl rfl rfl (hG.o (by decide) rfl) (by simp [pm_vc]) rfl (Nat.le_of_ble_eq_true rfl) ?_
  have cx0 : CX (WU kp) M Rf K L n s z cn (mset M kp 2 0) Rf K L n s z := (CX.refl hG hR hM).set far.1 (Or.inr ⟨rfl, rfl⟩) ⟨by omega, by omega⟩
  refine c_unpackN (d := d) ko 16 t 0 0 0 ((flat t).length : Int) (mset M kp 2 0) Rf K L n s z cn _ hG hR cx0.r32 (by rw [mset_p _ _ _ _ (by omega)]; exact hcn) c1 cz c2 ot (by omega) k3 (by omega) (by rw [mset_s]) (by rw [mset_i _ _ _ _ (by decide)]; exact k1) (by omega) (by omega) (by omega) (KC.same (fun i => mset_p _ _ _ _ (Ne.symm ko.2.2.2.2.2.2.2.2)) k2) (fun M' Rf' K' L' n' s' z' cx v1 v2 v3 nd' => ?_)
  exact wp_ret d39_11 rfl (h M' Rf' K' L' n' s' z' (cx0.trans cx (Int.le_refl _)) v1 v3 nd')
theorem c_append {Q : Option Value → pm_S → Prop} {kp kc : Nat} {c0 v : Int} (ko : KO kp kc) (hG : pm_G Rf K L n) (hM : ∀ p i, R32 (M p i)) (h1 : M kp 1 = c0) (a0 : 0 ≤ c0) (a1 : c0 < 16) (h : Q none (zM (mset (mset M kc c0 v) kp 1 (c0 + 1)), Rf, K, L, n, s)) : pm_Wc (d + 1) 25 [.ref kp, .int (zI v)] (zM M, Rf, K, L, n, s) Q := by
  have hkp := ko.1
  have hkc := ko.2.1
  have hpc := ko.2.2.2.2.2.2.2.2
  refine wc_in (ls0 := [some (.ref kp), some (.int (zI v))]) (by decide) (Nat.le_of_ble_eq_true rfl) (by simp [pm_vc]) rfl ?_
  refine wp_aload_n d25_0 rfl ?_
  refine wz_getI (v := c0) d25_1 rfl (hG.o hkp ko.2.2.1) (by decide) h1 ?_
  refine wz_bipush d25_4 (by decide) ?_
  refine wz_icmp_ge (t := 29) d25_6 (by decide) ⟨by omega, by omega⟩ ⟨by omega, by omega⟩ (fun hb => absurd hb (by omega)) (fun _ => ?_)
  refine wp_aload_n d25_9 rfl ?_
  refine wp_getR (q := kc) d25_10 rfl (hG.o hkp ko.2.2.1) (by decide) (hG.r ko.2.2.2.2.2.1) hkc.1 ?_
  refine wp_aload_n d25_13 rfl ?_
  refine wz_getI (v := c0) d25_14 rfl (hG.o hkp ko.2.2.1) (by decide) h1 ?_
  refine wp_iload_n d25_17 rfl ?_
  refine wz_iast (z := 16) d25_18 (hG.a hkc ko.2.2.2.1 ko.2.2.2.2.1) a0 (by omega) (by decide) ?_
  refine wp_aload_n d25_19 rfl ?_
  refine wp_dupr d25_20 ?_
  refine wz_getI (v := c0) d25_21 rfl (hG.o hkp ko.2.2.1) (by decide) (by rw [mset_p _ _ _ _ hpc]; exact h1) ?_
  refine wz_iconst d25_24 ?_
  refine wz_iadd d25_25 ?_
  refine wz_putI (i := 1) d25_26 rfl (hG.o hkp ko.2.2.1) rfl (by decide) rfl ?_
  exact wp_ret d25_29 rfl h
set_option maxRecDepth 20000 in
set_option maxHeartbeats 1000000 in
theorem c_packN {kp kc z : Nat} {cn : Int} (ko : KO kp kc) (hG : pm_G Rf K L n) (hR : RmI Rf K L n z) (hcn : cn ≤ z) : ∀ (N : Nat) (t : Ty) (i : Int) (deep dd : Nat) (c0 : Int) (M : pm_M) (Q : Option Value → pm_S → Prop), (∀ p i, R32 (M p i)) → ndf M Rf cn N t i → ok dd t = true → dd + N ≤ 3000 → deep + N ≤ 40 → M kp 1 = c0 → 0 ≤ c0 → c0 + (flat t).length ≤ 16 → (∀ M' : pm_M, PKR kp kc M M' c0 (flat t) → Q none (zM M', Rf, K, L, n, s)) → pm_Wc (d + N + 2) 38 [.ref 6, .int (zI i), .ref kp, .int (zI (deep : Int))] (zM M, Rf, K, L, n, s) Q
  | 0, _, _, _, _, _, _, _, _, h, _, _, _, _, _, _, _ => h.elim
  | N + 1, t, i, deep, dd, c0, M, Q, hM, nt, ot, hdd, hdeep, h1, a0, a1, h => by
    have hz := hR.2.2.2.2
    have hpc := ko.2.2.2.2.2.2.2.2
    have far := ko.far hR
    obtain ⟨⟨i0, i1, iC, -, iL⟩, iP⟩ := nt
    have cS := cc_small ot (by omega)
    have fl := flat_pts ot
    have flen : (flat t).length = 1 + ((flat (pt t 0)).length + ((flat (pt t 1)).length + (flat (pt t 2)).length)) := by
      rw [fl, List.length_cons, List.length_append, List.length_append]; omega
    refine wc_in (ls0 := [some (.ref 6), some (.int (zI i)), some (.ref kp), some (.int (zI (deep : Int))), none]) (by decide) (Nat.le_of_ble_eq_true rfl) (by simp [pm_vc]) rfl ?_
    refine wp_iload_n d38_0 rfl ?_
    refine wz_bipush d38_1 (by decide) ?_
    refine wz_icmp_lt (t := 7) d38_3 (by decide) ⟨by omega, by omega⟩ ⟨by omega, by omega⟩ (fun _ => ?_) (fun hb => absurd (by omega) hb)
    refine wp_aload_n d38_7 rfl ?_
    refine wp_aload_n d38_8 rfl ?_
    refine wp_getR (q := Rf 6 0) d38_9 rfl (hG.o (by decide) rfl) (by decide) rfl (hR.1 0 (by decide)).1 ?_
    refine wp_iload_n d38_12 rfl ?_
    refine wz_iald (z := z) (v := (cc (hd t) : Int)) d38_13 (hR.1 0 (by decide)) i0 (by omega) (by omega) iC ?_
    refine wp_virt (as := [.int (zI (cc (hd t) : Int))]) (rest := []) d38_14 rfl rfl rfl (hG.o ko.1 ko.2.2.1) rfl rfl (Nat.le_of_ble_eq_true rfl) ?_
    refine c_append ko hG hM h1 a0 (by omega) ?_
    have pk0 : PKR kp kc M (mset (mset M kc c0 (cc (hd t) : Int)) kp 1 (c0 + 1)) c0 [(hd t : Int)] := by
      refine ⟨fun p q e1 e2 => ?_, by rw [mset_s]; rfl, ⟨?_, trivial⟩, mset_R32 (mset_R32 hM ⟨by omega, by omega⟩) ⟨by omega, by omega⟩⟩
      · unfold mset
        rw [if_neg e1, if_neg (fun e => e2 ⟨e.1, by omega, by rw [List.length_singleton]; omega⟩)]
      · rw [mset_p _ _ _ _ (Ne.symm hpc), mset_s]
        unfold ccI
        rw [Int.toNat_natCast]
    generalize mset (mset M kc c0 (cc (hd t) : Int)) kp 1 (c0 + 1) = M1 at pk0 ⊢
    have loop : ∀ (k g : Nat) (M' : pm_M) (l r : List Int), g + k = 3 → PKR kp kc M M' c0 l → flat t = l ++ r → r = (if g = 0 then flat (pt t 0) ++ (flat (pt t 1) ++ flat (pt t 2)) else if g = 1 then flat (pt t 1) ++ flat (pt t 2) else if g = 2 then flat (pt t 2) else []) → pm_Wp none (d + (N + 1) + 1) 38 20 [some (.ref 6), some (.int (zI i)), some (.ref kp), some (.int (zI (deep : Int))), some (.int (zI (g : Int)))] [] (zM M', Rf, K, L, n, s) Q := by
      intro k
      induction k with
      | zero =>
        intro g M' l r hgk pk e er
        have e3 : g = 3 := by omega
        subst e3
        refine wp_iload d38_20 rfl ?_
        refine wz_iconst d38_22 ?_
        refine wz_icmp_ge (t := 61) d38_23 (by decide) ⟨by omega, by omega⟩ ⟨by omega, by omega⟩ (fun _ => ?_) (fun hb => absurd (by omega) hb)
        have er : r = [] := er
        rw [er, List.append_nil] at e
        rw [← e] at pk
        exact wp_ret d38_61 rfl (h M' pk)
      | succ k ih =>
        intro g M' l r hgk pk e er
        obtain ⟨r', hr'⟩ : ∃ r', r = flat (pt t g) ++ r' ∧ r' = (if g + 1 = 0 then flat (pt t 0) ++ (flat (pt t 1) ++ flat (pt t 2)) else if g + 1 = 1 then flat (pt t 1) ++ flat (pt t 2) else if g + 1 = 2 then flat (pt t 2) else []) := by
          rcases (show g = 0 ∨ g = 1 ∨ g = 2 by omega) with rfl | rfl | rfl
          · exact ⟨_, er, rfl⟩
          · exact ⟨_, er, rfl⟩
          · exact ⟨[], by rw [List.append_nil]; exact er, rfl⟩
        obtain ⟨hr1, hr2⟩ := hr'
        rw [hr1] at e
        have elen : (flat t).length = l.length + ((flat (pt t g)).length + r'.length) := by rw [e, List.length_append, List.length_append]
        have nds := pk.nodes (cn := cn) ko hR
        have next := ih (g + 1)
        refine wp_iload d38_20 rfl ?_
        refine wz_iconst d38_22 ?_
        refine wz_icmp_ge (t := 61) d38_23 (by decide) ⟨by omega, by omega⟩ ⟨by omega, by omega⟩ (fun hb => absurd hb (by omega)) (fun _ => ?_)
        refine wp_aload_n d38_26 rfl ?_
        refine wp_getR (q := Rf 6 0) d38_27 rfl (hG.o (by decide) rfl) (by decide) rfl (hR.1 0 (by decide)).1 ?_
        refine wp_iload_n d38_30 rfl ?_
        refine wz_iald (z := z) (v := (cc (hd t) : Int)) d38_31 (hR.1 0 (by decide)) i0 (by omega) (by omega) (by rw [nds 0 (by decide) i i0 i1]; exact iC) ?_
        refine wp_iload d38_32 rfl ?_
        refine wp_stat (as := [.int (zI (g : Int)), .int (zI (cc (hd t) : Int))]) (rest := []) d38_34 rfl rfl rfl rfl rfl (Nat.le_of_ble_eq_true rfl) ?_
        refine c_holds (c := cc (hd t)) (i := g) cS (by omega) (fun hb => ?_) (fun hb => ?_)
        · have hb : hp t g = true := hb
          obtain ⟨d1, hd1, o1⟩ := pt_ok ot (by omega) hb
          refine wz_if_eq (t := 55) d38_37 (by decide) ⟨by omega, by omega⟩ (fun hb => absurd hb (by decide)) (fun _ => ?_)
          refine wp_aload_n d38_40 rfl ?_
          refine wp_aload_n d38_41 rfl ?_
          refine wp_iload_n d38_42 rfl ?_
          refine wp_iload d38_43 rfl ?_
          refine wp_virt (as := [.int (zI (g : Int)), .int (zI i)]) (rest := [.ref 6]) d38_45 rfl rfl rfl (hG.o (by decide) rfl) rfl rfl (Nat.le_of_ble_eq_true rfl) ?_
          refine c_part hG hR i0 (by omega) (by omega) ?_
          refine wp_aload_n d38_48 rfl ?_
          refine wp_iload_n d38_49 rfl ?_
          refine wz_iconst d38_50 ?_
          refine wz_iadd d38_51 ?_
          refine wp_virt (as := [.int (zI ((deep : Int) + 1)), .ref kp, .int (zI (M' (Rf 6 (1 + g)) i))]) (rest := []) d38_52 rfl rfl rfl (hG.o (by decide) rfl) (by simp [pm_vc]) rfl (Nat.le_of_ble_eq_true rfl) ?_
          refine c_packN ko hG hR hcn N (pt t g) _ (deep + 1) d1 (c0 + l.length) M' _ pk.2.2.2 ?_ o1 (by omega) (by omega) pk.2.1 (by omega) (by omega) (fun M2 pk2 => ?_)
          · rw [nds (1 + g) (by omega) i i0 i1]
            exact ndf_mono nds (Int.le_refl _) (Nat.le_refl _) (iP g (by omega) hb)
          · refine wz_iinc d38_55 rfl rfl ?_
            refine wp_goto (t := 20) d38_58 (by decide) ?_
            exact next M2 (l ++ flat (pt t g)) r' (by omega) (pk.trans hpc pk2) (by rw [List.append_assoc]; exact e) hr2
        · have hb : ¬ hp t g = true := hb
          rw [pt_none ot (by omega) hb, List.nil_append] at e
          refine wz_if_eq (t := 55) d38_37 (by decide) ⟨by omega, by omega⟩ (fun _ => ?_) (fun hb => absurd (by decide) hb)
          refine wz_iinc d38_55 rfl rfl ?_
          refine wp_goto (t := 20) d38_58 (by decide) ?_
          exact next M' l r' (by omega) pk e hr2
    refine wz_iconst d38_17 ?_
    refine wp_istore d38_18 (Nat.le_of_ble_eq_true rfl) rfl ?_
    exact loop 3 0 M1 [(hd t : Int)] _ rfl pk0 fl rfl
theorem c_keep {Q : Option Value → pm_S → Prop} {kp kc z N dd : Nat} {cn i : Int} {t : Ty} (ko : KO kp kc) (hG : pm_G Rf K L n) (hR : RmI Rf K L n z) (hcn : cn ≤ z) (hM : ∀ p i, R32 (M p i)) (nt : ndf M Rf cn N t i) (ot : ok dd t = true) (hdd : dd + N ≤ 3000) (hN : N ≤ 40) (hl : (flat t).length ≤ 16) (h : ∀ M' : pm_M, (∀ (p : Nat) (i : Int), ¬ (p = kp ∧ i = 1) → p ≠ kc → M' p i = M p i) → M' kp 1 = (flat t).length → KC M' kc 0 (flat t) → (∀ p i, R32 (M' p i)) → Q none (zM M', Rf, K, L, n, s)) : pm_Wc (d + N + 3) 37 [.ref 6, .int (zI i), .ref kp] (zM M, Rf, K, L, n, s) Q := by
  have far := ko.far hR
  refine wc_in (ls0 := [some (.ref 6), some (.int (zI i)), some (.ref kp)]) (by decide) (Nat.le_of_ble_eq_true rfl) (by simp [pm_vc]) rfl ?_
  refine wp_aload_n d37_0 rfl ?_
  refine wz_iconst d37_1 ?_
  refine wz_putI (i := 1) d37_2 rfl (hG.o ko.1 ko.2.2.1) rfl (by decide) rfl ?_
  refine wp_aload_n d37_5 rfl ?_
  refine wp_iload_n d37_6 rfl ?_
  refine wp_aload_n d37_7 rfl ?_
  refine wz_iconst d37_8 ?_
  refine wp_virt (as := [.int (zI 0), .ref kp, .int (zI i)]) (rest := []) d37_9 rfl rfl rfl (hG.o (by decide) rfl) (by simp [pm_vc]) rfl (Nat.le_of_ble_eq_true rfl) ?_
  have e : ∀ g, g < 5 → ∀ i : Int, 0 ≤ i → i < cn → mset M kp 1 0 (Rf 6 g) i = M (Rf 6 g) i := fun g hg i _ _ => mset_p _ _ _ _ (fun e => far.1 g hg e.symm)
  refine c_packN (d := d) ko hG hR hcn N t i 0 dd 0 (mset M kp 1 0) _ (mset_R32 hM ⟨by omega, by omega⟩) (ndf_mono e (Int.le_refl _) (Nat.le_refl _) nt) ot hdd (by omega) (by rw [mset_s]) (Int.le_refl _) (by omega) (fun M' pk => ?_)
  refine wp_ret d37_12 rfl (h M' (fun p i h1 h2 => ?_) (by rw [pk.2.1, Int.zero_add]) pk.2.2.1 pk.2.2.2)
  rw [pk.1 p i h1 (fun e => h2 e.1)]
  exact if_neg h1
end PmC7
