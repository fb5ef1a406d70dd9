/-! THE CLASS: the rows of a run grow. -/
theorem pm_RT_43 : ∀ x ∈ pm_RT, (x.1 = 43 → 4 ≤ x.2.1) ∧ (x.1 = 51 → 4 ≤ x.2.1) := by decide +kernel
theorem pm_G.putO {Rf : Nat → Nat → Nat} {K L : Nat → Nat} {n f x o : Nat} (ho : o = 43 ∨ o = 51) (hf : f < 4) (h : pm_G Rf K L n) : pm_G (pm_u Rf o (pm_u (Rf o) f x)) K L n := by
  obtain ⟨h1, h2, h3, h4⟩ := h
  refine ⟨h1, h2, h3, fun y hy => ?_⟩
  have hb : y.1 = o → 4 ≤ y.2.1 := fun e => by
    rcases ho with e2 | e2
    · exact (pm_RT_43 y hy).1 (by omega)
    · exact (pm_RT_43 y hy).2 (by omega)
  have e := h4 y hy
  unfold pm_u
  by_cases h6 : y.1 = o
  · have := hb h6
    rw [if_pos h6, if_neg (by omega), ← h6]; exact e
  · rw [if_neg h6]; exact e
def pz (z : Nat) : Prop := z = 8 ∨ z = 16 ∨ z = 32 ∨ z = 64 ∨ z = 128 ∨ z = 256 ∨ z = 512 ∨ z = 1024
/-- four rows of that length, apart from each other and from all that is fixed -/
def RG (o lo hi : Nat) (Rf : Nat → Nat → Nat) (K L : Nat → Nat) (n z : Nat) : Prop := (∀ f, f < 4 → pm_Ar K L n (Rf o f) 0 z) ∧ (∀ f, f < 4 → Rf o f = o + 1 + f ∨ 100 ≤ Rf o f) ∧ (∀ f g, f < 4 → g < 4 → Rf o f = Rf o g → f = g) ∧ lo ≤ z ∧ z ≤ hi ∧ (pz z ∨ z = hi)
/-- the first j rows have grown -/
def GG (o : Nat) (M : pm_M) (Rf : Nat → Nat → Nat) (K L : Nat → Nat) (n z m j : Nat) (M' : pm_M) (Rf' : Nat → Nat → Nat) (K' L' : Nat → Nat) (n' : Nat) : Prop := pm_G Rf' K' L' n' ∧ n' = n + j ∧ (∀ p, p ≤ n → K' p = K p ∧ L' p = L p) ∧ (∀ p, p ≤ n → ∀ i, M' p i = M p i) ∧ (∀ p, p ≤ n → ∀ g, ¬ (p = o ∧ g < j) → Rf' p g = Rf p g) ∧ (∀ g, g < j → Rf' o g = n + 1 + g ∧ K' (n + 1 + g) = 0 ∧ L' (n + 1 + g) = m ∧ ∀ i : Int, 0 ≤ i → i < z → M' (n + 1 + g) i = M (Rf o g) i) ∧ ∀ p i, R32 (M' p i)
theorem GG.step {o lo hi : Nat} (ho : o = 43 ∨ o = 51) {M : pm_M} {Rf : Nat → Nat → Nat} {K L : Nat → Nat} {n z m j : Nat} {M' : pm_M} {Rf' : Nat → Nat → Nat} {K' L' : Nat → Nat} {n' : Nat} (hR : RG o lo hi Rf K L n z) (hn : 99 ≤ n) (hj : j < 4) (h : GG o M Rf K L n z m j M' Rf' K' L' n') : GG o M Rf K L n z m (j + 1) (mcp M' (n' + 1) (Rf' o j) z) (pm_u (pm_u Rf' (n' + 1) (fun _ => 0)) o (pm_u ((pm_u Rf' (n' + 1) (fun _ => 0)) o) j (n' + 1))) (pm_u K' (n' + 1) 0) (pm_u L' (n' + 1) m) (n' + 1) ∧ Rf' o j = Rf o j := by
  obtain ⟨g1, g2, g3, g4, g5, g6, g7⟩ := h
  subst g2
  have e6 : Rf' o j = Rf o j := g5 o (by omega) j (by omega)
  have har := hR.1 j hj
  refine ⟨⟨g1.new.putO ho hj, by omega, fun p hp => ?_, fun p hp i => ?_, fun p hp g hg => ?_, fun g hg => ?_, mcp_R32 g7⟩, e6⟩
  · unfold pm_u
    rw [if_neg (by omega), if_neg (by omega)]; exact g3 p hp
  · rw [mcp_o _ (by omega)]; exact g4 p hp i
  · unfold pm_u
    by_cases h6 : p = o
    · subst h6
      rw [if_pos rfl, if_neg (by omega), if_neg (by omega)]
      exact g5 _ hp g (by omega)
    · rw [if_neg h6, if_neg (by omega)]
      exact g5 p hp g (by omega)
  · by_cases hgj : g = j
    · subst hgj
      refine ⟨?_, ?_, ?_, fun i h0 h1 => ?_⟩
      · unfold pm_u
        rw [if_pos rfl, if_pos rfl]; omega
      · unfold pm_u
        rw [if_pos (by omega)]
      · unfold pm_u
        rw [if_pos (by omega)]
      · rw [show n + 1 + g = n + g + 1 by omega, mcp_s h0 h1, e6]
        exact g4 _ har.2.1 i
    · obtain ⟨q1, q2, q3, q4⟩ := g6 g (by omega)
      refine ⟨?_, ?_, ?_, fun i h0 h1 => ?_⟩
      · unfold pm_u
        rw [if_pos rfl, if_neg hgj, if_neg (by omega)]; exact q1
      · unfold pm_u
        rw [if_neg (by omega)]; exact q2
      · unfold pm_u
        rw [if_neg (by omega)]; exact q3
      · rw [mcp_o _ (by omega)]; exact q4 i h0 h1
section PmC33
variable {d : Nat} {Q : Option Value → pm_S → Prop} {M N : pm_M} {Rf : Nat → Nat → Nat} {K L : Nat → Nat} {n s : Nat}
set_option maxRecDepth 20000 in
set_option maxHeartbeats 1000000 in
theorem c_growM {z m : Nat} (hG : pm_G Rf K L n) (hR : RG 43 8 1464 Rf K L n z) (hM : ∀ p i, R32 (M p i)) (hz : z < 1464) (hm : m = min (2 * z) 1464) (h : ∀ (M' : pm_M) (Rf' : Nat → Nat → Nat) (K' L' : Nat → Nat), GG 43 M Rf K L n z m 4 M' Rf' K' L' (n + 4) → Q (some (.int (zI 1))) (zM M', Rf', K', L', n + 4, s + m + m + m + m)) : pm_Wc (d + 2) 121 [.ref 43] (zM M, Rf, K, L, n, s) Q := by
  have hn := hG.1
  have hz64 := hR.2.2.2.1
  have hzm : z < m := by omega
  have ho : 43 = 43 ∨ 43 = 51 := by decide
  have g0 : GG 43 M Rf K L n z m 0 M Rf K L n := ⟨hG, rfl, fun p _ => ⟨rfl, rfl⟩, fun p _ i => rfl, fun p _ g _ => rfl, fun g hg => absurd hg (Nat.not_lt_zero _), hM⟩
  refine wc_in (ls0 := [some (.ref 43), none]) (by decide) (Nat.le_of_ble_eq_true rfl) rfl rfl ?_
  refine wz_iconst d121_0 ?_
  refine wp_aload_n d121_1 rfl ?_
  refine wp_getR (q := Rf 43 0) d121_2 rfl (hG.o (by decide) rfl) (by decide) rfl (hR.1 0 (by decide)).1 ?_
  refine wz_alen d121_5 (hR.1 0 (by decide)) (by decide) ?_
  refine wz_imul d121_6 ?_
  refine wz_sipush d121_7 (by decide) ?_
  refine wp_min (v := zI (m : Int)) d121_10 rfl rfl rfl (by decide) ?_ ?_
  · by_cases he : 1464 < 2 * z
    · rw [if_pos ((zI_lt (a := 1464) (b := 2 * (z : Int)) ⟨by omega, by omega⟩ ⟨by omega, by omega⟩).mpr (by omega)), show (m : Int) = 1464 by omega]
    · rw [if_neg (fun e => ?_), show (m : Int) = 2 * (z : Int) by omega]
      have := (zI_lt (a := 1464) (b := 2 * (z : Int)) ⟨by omega, by omega⟩ ⟨by omega, by omega⟩).mp e
      omega
  refine wp_istore_n d121_13 (Nat.le_of_ble_eq_true rfl) rfl ?_
  refine wp_iload_n d121_14 rfl ?_
  refine wp_aload_n d121_15 rfl ?_
  refine wp_getR (q := Rf 43 0) d121_16 rfl (hG.o (by decide) rfl) (by decide) rfl (hR.1 0 (by decide)).1 ?_
  refine wz_alen d121_19 (hR.1 0 (by decide)) (by decide) ?_
  refine wz_icmp_gt (t := 25) d121_20 (by decide) ⟨by omega, by omega⟩ ⟨by omega, by omega⟩ (fun _ => ?_) (fun hb => absurd (by omega) hb)
  obtain ⟨g1, e0⟩ := g0.step ho hR hn (by decide : 0 < 4)
  have a0 : pm_Ar K L n (Rf 43 0) 0 z := by
    rw [e0]
    have q := hR.1 0 (by decide)
    have k := g0.2.2.1 _ q.2.1
    exact ⟨q.1, by have := q.2.1; omega, by rw [k.1]; exact q.2.2.1, by rw [k.2]; exact q.2.2.2⟩
  refine wp_aload_n d121_25 rfl ?_
  refine wp_aload_n d121_26 rfl ?_
  refine wp_getR (q := Rf 43 0) d121_27 rfl (g0.1.o (by decide) rfl) (by decide) rfl a0.1 ?_
  refine wp_iload_n d121_30 rfl ?_
  refine wp_stat (as := [.int (zI (m : Int)), .ref (Rf 43 0)]) (rest := [.ref 43]) d121_31 rfl rfl rfl (by simp [pm_vc]) (by decide) (by decide) ?_
  refine m_copyOf a0 hzm (by omega) ?_
  refine wp_putR d121_34 rfl ((pm_G.new (k := 0) (m := m) (r := fun _ => 0) g0.1).o (by decide) rfl) (by omega) rfl (by decide) ?_
  generalize hM1 : mcp M (n + 1) (Rf 43 0) z = M1 at g1 ⊢
  generalize hR1 : pm_u (pm_u Rf (n + 1) (fun _ => 0)) 43 (pm_u ((pm_u Rf (n + 1) (fun _ => 0)) 43) 0 (n + 1)) = R1 at g1 ⊢
  generalize hK1 : pm_u K (n + 1) 0 = K1 at g1 ⊢
  generalize hL1 : pm_u L (n + 1) m = L1 at g1 ⊢
  clear hM1 hR1 hK1 hL1
  obtain ⟨g2, e1⟩ := g1.step ho hR hn (by decide : 1 < 4)
  have a1 : pm_Ar K1 L1 (n + 1) (R1 43 1) 0 z := by
    rw [e1]
    have q := hR.1 1 (by decide)
    have k := g1.2.2.1 _ q.2.1
    exact ⟨q.1, by have := q.2.1; omega, by rw [k.1]; exact q.2.2.1, by rw [k.2]; exact q.2.2.2⟩
  refine wp_aload_n d121_37 rfl ?_
  refine wp_aload_n d121_38 rfl ?_
  refine wp_getR (q := R1 43 1) d121_39 rfl (g1.1.o (by decide) rfl) (by decide) rfl a1.1 ?_
  refine wp_iload_n d121_42 rfl ?_
  refine wp_stat (as := [.int (zI (m : Int)), .ref (R1 43 1)]) (rest := [.ref 43]) d121_43 rfl rfl rfl (by simp [pm_vc]) (by decide) (by decide) ?_
  refine m_copyOf a1 hzm (by omega) ?_
  refine wp_putR d121_46 rfl ((pm_G.new (k := 0) (m := m) (r := fun _ => 0) g1.1).o (by decide) rfl) (by omega) rfl (by decide) ?_
  generalize hM2 : mcp M1 ((n + 1) + 1) (R1 43 1) z = M2 at g2 ⊢
  generalize hR2 : pm_u (pm_u R1 ((n + 1) + 1) (fun _ => 0)) 43 (pm_u ((pm_u R1 ((n + 1) + 1) (fun _ => 0)) 43) 1 ((n + 1) + 1)) = R2 at g2 ⊢
  generalize hK2 : pm_u K1 ((n + 1) + 1) 0 = K2 at g2 ⊢
  generalize hL2 : pm_u L1 ((n + 1) + 1) m = L2 at g2 ⊢
  clear hM2 hR2 hK2 hL2
  obtain ⟨g3, e2⟩ := g2.step ho hR hn (by decide : 2 < 4)
  have a2 : pm_Ar K2 L2 (n + 2) (R2 43 2) 0 z := by
    rw [e2]
    have q := hR.1 2 (by decide)
    have k := g2.2.2.1 _ q.2.1
    exact ⟨q.1, by have := q.2.1; omega, by rw [k.1]; exact q.2.2.1, by rw [k.2]; exact q.2.2.2⟩
  refine wp_aload_n d121_49 rfl ?_
  refine wp_aload_n d121_50 rfl ?_
  refine wp_getR (q := R2 43 2) d121_51 rfl (g2.1.o (by decide) rfl) (by decide) rfl a2.1 ?_
  refine wp_iload_n d121_54 rfl ?_
  refine wp_stat (as := [.int (zI (m : Int)), .ref (R2 43 2)]) (rest := [.ref 43]) d121_55 rfl rfl rfl (by simp [pm_vc]) (by decide) (by decide) ?_
  refine m_copyOf a2 hzm (by omega) ?_
  refine wp_putR d121_58 rfl ((pm_G.new (k := 0) (m := m) (r := fun _ => 0) g2.1).o (by decide) rfl) (by omega) rfl (by decide) ?_
  generalize hM3 : mcp M2 ((n + 2) + 1) (R2 43 2) z = M3 at g3 ⊢
  generalize hR3 : pm_u (pm_u R2 ((n + 2) + 1) (fun _ => 0)) 43 (pm_u ((pm_u R2 ((n + 2) + 1) (fun _ => 0)) 43) 2 ((n + 2) + 1)) = R3 at g3 ⊢
  generalize hK3 : pm_u K2 ((n + 2) + 1) 0 = K3 at g3 ⊢
  generalize hL3 : pm_u L2 ((n + 2) + 1) m = L3 at g3 ⊢
  clear hM3 hR3 hK3 hL3
  obtain ⟨g4, e3⟩ := g3.step ho hR hn (by decide : 3 < 4)
  have a3 : pm_Ar K3 L3 (n + 3) (R3 43 3) 0 z := by
    rw [e3]
    have q := hR.1 3 (by decide)
    have k := g3.2.2.1 _ q.2.1
    exact ⟨q.1, by have := q.2.1; omega, by rw [k.1]; exact q.2.2.1, by rw [k.2]; exact q.2.2.2⟩
  refine wp_aload_n d121_61 rfl ?_
  refine wp_aload_n d121_62 rfl ?_
  refine wp_getR (q := R3 43 3) d121_63 rfl (g3.1.o (by decide) rfl) (by decide) rfl a3.1 ?_
  refine wp_iload_n d121_66 rfl ?_
  refine wp_stat (as := [.int (zI (m : Int)), .ref (R3 43 3)]) (rest := [.ref 43]) d121_67 rfl rfl rfl (by simp [pm_vc]) (by decide) (by decide) ?_
  refine m_copyOf a3 hzm (by omega) ?_
  refine wp_putR d121_70 rfl ((pm_G.new (k := 0) (m := m) (r := fun _ => 0) g3.1).o (by decide) rfl) (by omega) rfl (by decide) ?_
  generalize hM4 : mcp M3 ((n + 3) + 1) (R3 43 3) z = M4 at g4 ⊢
  generalize hR4 : pm_u (pm_u R3 ((n + 3) + 1) (fun _ => 0)) 43 (pm_u ((pm_u R3 ((n + 3) + 1) (fun _ => 0)) 43) 3 ((n + 3) + 1)) = R4 at g4 ⊢
  generalize hK4 : pm_u K3 ((n + 3) + 1) 0 = K4 at g4 ⊢
  generalize hL4 : pm_u L3 ((n + 3) + 1) m = L4 at g4 ⊢
  clear hM4 hR4 hK4 hL4
  refine wz_iconst d121_73 ?_
  exact wp_ret d121_74 rfl (h M4 R4 K4 L4 g4)
set_option maxRecDepth 20000 in
set_option maxHeartbeats 1000000 in
theorem c_growV {z m : Nat} (hG : pm_G Rf K L n) (hR : RG 51 16 1220 Rf K L n z) (hM : ∀ p i, R32 (M p i)) (hz : z < 1220) (hm : m = min (2 * z) 1220) (h : ∀ (M' : pm_M) (Rf' : Nat → Nat → Nat) (K' L' : Nat → Nat), GG 51 M Rf K L n z m 4 M' Rf' K' L' (n + 4) → Q (some (.int (zI 1))) (zM M', Rf', K', L', n + 4, s + m + m + m + m)) : pm_Wc (d + 2) 131 [.ref 51] (zM M, Rf, K, L, n, s) Q := by
  have hn := hG.1
  have hz64 := hR.2.2.2.1
  have hzm : z < m := by omega
  have ho : 51 = 43 ∨ 51 = 51 := by decide
  have g0 : GG 51 M Rf K L n z m 0 M Rf K L n := ⟨hG, rfl, fun p _ => ⟨rfl, rfl⟩, fun p _ i => rfl, fun p _ g _ => rfl, fun g hg => absurd hg (Nat.not_lt_zero _), hM⟩
  refine wc_in (ls0 := [some (.ref 51), none]) (by decide) (Nat.le_of_ble_eq_true rfl) rfl rfl ?_
  refine wz_iconst d131_0 ?_
  refine wp_aload_n d131_1 rfl ?_
  refine wp_getR (q := Rf 51 0) d131_2 rfl (hG.o (by decide) rfl) (by decide) rfl (hR.1 0 (by decide)).1 ?_
  refine wz_alen d131_5 (hR.1 0 (by decide)) (by decide) ?_
  refine wz_imul d131_6 ?_
  refine wz_sipush d131_7 (by decide) ?_
  refine wp_min (v := zI (m : Int)) d131_10 rfl rfl rfl (by decide) ?_ ?_
  · by_cases he : 1220 < 2 * z
    · rw [if_pos ((zI_lt (a := 1220) (b := 2 * (z : Int)) ⟨by omega, by omega⟩ ⟨by omega, by omega⟩).mpr (by omega)), show (m : Int) = 1220 by omega]
    · rw [if_neg (fun e => ?_), show (m : Int) = 2 * (z : Int) by omega]
      have := (zI_lt (a := 1220) (b := 2 * (z : Int)) ⟨by omega, by omega⟩ ⟨by omega, by omega⟩).mp e
      omega
  refine wp_istore_n d131_13 (Nat.le_of_ble_eq_true rfl) rfl ?_
  refine wp_iload_n d131_14 rfl ?_
  refine wp_aload_n d131_15 rfl ?_
  refine wp_getR (q := Rf 51 0) d131_16 rfl (hG.o (by decide) rfl) (by decide) rfl (hR.1 0 (by decide)).1 ?_
  refine wz_alen d131_19 (hR.1 0 (by decide)) (by decide) ?_
  refine wz_icmp_gt (t := 25) d131_20 (by decide) ⟨by omega, by omega⟩ ⟨by omega, by omega⟩ (fun _ => ?_) (fun hb => absurd (by omega) hb)
  obtain ⟨g1, e0⟩ := g0.step ho hR hn (by decide : 0 < 4)
  have a0 : pm_Ar K L n (Rf 51 0) 0 z := by
    rw [e0]
    have q := hR.1 0 (by decide)
    have k := g0.2.2.1 _ q.2.1
    exact ⟨q.1, by have := q.2.1; omega, by rw [k.1]; exact q.2.2.1, by rw [k.2]; exact q.2.2.2⟩
  refine wp_aload_n d131_25 rfl ?_
  refine wp_aload_n d131_26 rfl ?_
  refine wp_getR (q := Rf 51 0) d131_27 rfl (g0.1.o (by decide) rfl) (by decide) rfl a0.1 ?_
  refine wp_iload_n d131_30 rfl ?_
  refine wp_stat (as := [.int (zI (m : Int)), .ref (Rf 51 0)]) (rest := [.ref 51]) d131_31 rfl rfl rfl (by simp [pm_vc]) (by decide) (by decide) ?_
  refine m_copyOf a0 hzm (by omega) ?_
  refine wp_putR d131_34 rfl ((pm_G.new (k := 0) (m := m) (r := fun _ => 0) g0.1).o (by decide) rfl) (by omega) rfl (by decide) ?_
  generalize hM1 : mcp M (n + 1) (Rf 51 0) z = M1 at g1 ⊢
  generalize hR1 : pm_u (pm_u Rf (n + 1) (fun _ => 0)) 51 (pm_u ((pm_u Rf (n + 1) (fun _ => 0)) 51) 0 (n + 1)) = R1 at g1 ⊢
  generalize hK1 : pm_u K (n + 1) 0 = K1 at g1 ⊢
  generalize hL1 : pm_u L (n + 1) m = L1 at g1 ⊢
  clear hM1 hR1 hK1 hL1
  obtain ⟨g2, e1⟩ := g1.step ho hR hn (by decide : 1 < 4)
  have a1 : pm_Ar K1 L1 (n + 1) (R1 51 1) 0 z := by
    rw [e1]
    have q := hR.1 1 (by decide)
    have k := g1.2.2.1 _ q.2.1
    exact ⟨q.1, by have := q.2.1; omega, by rw [k.1]; exact q.2.2.1, by rw [k.2]; exact q.2.2.2⟩
  refine wp_aload_n d131_37 rfl ?_
  refine wp_aload_n d131_38 rfl ?_
  refine wp_getR (q := R1 51 1) d131_39 rfl (g1.1.o (by decide) rfl) (by decide) rfl a1.1 ?_
  refine wp_iload_n d131_42 rfl ?_
  refine wp_stat (as := [.int (zI (m : Int)), .ref (R1 51 1)]) (rest := [.ref 51]) d131_43 rfl rfl rfl (by simp [pm_vc]) (by decide) (by decide) ?_
  refine m_copyOf a1 hzm (by omega) ?_
  refine wp_putR d131_46 rfl ((pm_G.new (k := 0) (m := m) (r := fun _ => 0) g1.1).o (by decide) rfl) (by omega) rfl (by decide) ?_
  generalize hM2 : mcp M1 ((n + 1) + 1) (R1 51 1) z = M2 at g2 ⊢
  generalize hR2 : pm_u (pm_u R1 ((n + 1) + 1) (fun _ => 0)) 51 (pm_u ((pm_u R1 ((n + 1) + 1) (fun _ => 0)) 51) 1 ((n + 1) + 1)) = R2 at g2 ⊢
  generalize hK2 : pm_u K1 ((n + 1) + 1) 0 = K2 at g2 ⊢
  generalize hL2 : pm_u L1 ((n + 1) + 1) m = L2 at g2 ⊢
  clear hM2 hR2 hK2 hL2
  obtain ⟨g3, e2⟩ := g2.step ho hR hn (by decide : 2 < 4)
  have a2 : pm_Ar K2 L2 (n + 2) (R2 51 2) 0 z := by
    rw [e2]
    have q := hR.1 2 (by decide)
    have k := g2.2.2.1 _ q.2.1
    exact ⟨q.1, by have := q.2.1; omega, by rw [k.1]; exact q.2.2.1, by rw [k.2]; exact q.2.2.2⟩
  refine wp_aload_n d131_49 rfl ?_
  refine wp_aload_n d131_50 rfl ?_
  refine wp_getR (q := R2 51 2) d131_51 rfl (g2.1.o (by decide) rfl) (by decide) rfl a2.1 ?_
  refine wp_iload_n d131_54 rfl ?_
  refine wp_stat (as := [.int (zI (m : Int)), .ref (R2 51 2)]) (rest := [.ref 51]) d131_55 rfl rfl rfl (by simp [pm_vc]) (by decide) (by decide) ?_
  refine m_copyOf a2 hzm (by omega) ?_
  refine wp_putR d131_58 rfl ((pm_G.new (k := 0) (m := m) (r := fun _ => 0) g2.1).o (by decide) rfl) (by omega) rfl (by decide) ?_
  generalize hM3 : mcp M2 ((n + 2) + 1) (R2 51 2) z = M3 at g3 ⊢
  generalize hR3 : pm_u (pm_u R2 ((n + 2) + 1) (fun _ => 0)) 51 (pm_u ((pm_u R2 ((n + 2) + 1) (fun _ => 0)) 51) 2 ((n + 2) + 1)) = R3 at g3 ⊢
  generalize hK3 : pm_u K2 ((n + 2) + 1) 0 = K3 at g3 ⊢
  generalize hL3 : pm_u L2 ((n + 2) + 1) m = L3 at g3 ⊢
  clear hM3 hR3 hK3 hL3
  obtain ⟨g4, e3⟩ := g3.step ho hR hn (by decide : 3 < 4)
  have a3 : pm_Ar K3 L3 (n + 3) (R3 51 3) 0 z := by
    rw [e3]
    have q := hR.1 3 (by decide)
    have k := g3.2.2.1 _ q.2.1
    exact ⟨q.1, by have := q.2.1; omega, by rw [k.1]; exact q.2.2.1, by rw [k.2]; exact q.2.2.2⟩
  refine wp_aload_n d131_61 rfl ?_
  refine wp_aload_n d131_62 rfl ?_
  refine wp_getR (q := R3 51 3) d131_63 rfl (g3.1.o (by decide) rfl) (by decide) rfl a3.1 ?_
  refine wp_iload_n d131_66 rfl ?_
  refine wp_stat (as := [.int (zI (m : Int)), .ref (R3 51 3)]) (rest := [.ref 51]) d131_67 rfl rfl rfl (by simp [pm_vc]) (by decide) (by decide) ?_
  refine m_copyOf a3 hzm (by omega) ?_
  refine wp_putR d131_70 rfl ((pm_G.new (k := 0) (m := m) (r := fun _ => 0) g3.1).o (by decide) rfl) (by omega) rfl (by decide) ?_
  generalize hM4 : mcp M3 ((n + 3) + 1) (R3 51 3) z = M4 at g4 ⊢
  generalize hR4 : pm_u (pm_u R3 ((n + 3) + 1) (fun _ => 0)) 51 (pm_u ((pm_u R3 ((n + 3) + 1) (fun _ => 0)) 51) 3 ((n + 3) + 1)) = R4 at g4 ⊢
  generalize hK4 : pm_u K3 ((n + 3) + 1) 0 = K4 at g4 ⊢
  generalize hL4 : pm_u L3 ((n + 3) + 1) m = L4 at g4 ⊢
  clear hM4 hR4 hK4 hL4
  refine wz_iconst d131_73 ?_
  exact wp_ret d131_74 rfl (h M4 R4 K4 L4 g4)
end PmC33
