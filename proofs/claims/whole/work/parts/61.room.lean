/-! THE CLASS: the rows of type nodes grow. -/
theorem pm_RT_small : ∀ x ∈ pm_RT, x.1 < 100 := by decide +kernel
theorem pm_RT_6 : ∀ x ∈ pm_RT, x.1 = 6 → 5 ≤ x.2.1 := by decide +kernel
theorem pm_G.new {Rf : Nat → Nat → Nat} {K L : Nat → Nat} {n k m : Nat} {r : Nat → Nat} (h : pm_G Rf K L n) : pm_G (pm_u Rf (n + 1) r) (pm_u K (n + 1) k) (pm_u L (n + 1) m) (n + 1) := by
  obtain ⟨h1, h2, h3, h4⟩ := h
  refine ⟨by omega, fun p hp => ?_, fun p hp => ?_, fun x hx => ?_⟩
  · unfold pm_u; rw [if_neg (by omega)]; exact h2 p hp
  · unfold pm_u; rw [if_neg (by omega)]; exact h3 p hp
  · have hb : x.1 < 100 := pm_RT_small x hx
    unfold pm_u; rw [if_neg (by omega)]; exact h4 x hx
theorem pm_G.put6 {Rf : Nat → Nat → Nat} {K L : Nat → Nat} {n f x : Nat} (hf : f < 5) (h : pm_G Rf K L n) : pm_G (pm_u Rf 6 (pm_u (Rf 6) f x)) K L n := by
  obtain ⟨h1, h2, h3, h4⟩ := h
  refine ⟨h1, h2, h3, fun y hy => ?_⟩
  have hb : y.1 = 6 → 5 ≤ y.2.1 := pm_RT_6 y hy
  have e := h4 y hy
  unfold pm_u
  by_cases h6 : y.1 = 6
  · have := hb h6
    rw [if_pos h6, if_neg (by omega), ← h6]; exact e
  · rw [if_neg h6]; exact e
/-- five rows of that length, apart from each other and from all else -/
def RmI (Rf : Nat → Nat → Nat) (K L : Nat → Nat) (n z : Nat) : Prop := (∀ f, f < 5 → pm_Ar K L n (Rf 6 f) 0 z) ∧ (∀ f, f < 5 → Rf 6 f = 7 + f ∨ 100 ≤ Rf 6 f) ∧ (∀ f g, f < 5 → g < 5 → Rf 6 f = Rf 6 g → f = g) ∧ (z = 64 ∨ z = 128 ∨ z = 256 ∨ z = 512 ∨ z = 1024 ∨ z = 2048 ∨ z = 4096 ∨ z = 8192 ∨ z = 16384) ∧ z ≤ 16384
/-- the first j rows have grown -/
def GS (M : pm_M) (Rf : Nat → Nat → Nat) (K L : Nat → Nat) (n z m j : Nat) (M' : pm_M) (Rf' : Nat → Nat → Nat) (K' L' : Nat → Nat) (n' : Nat) : Prop := pm_G Rf' K' L' n' ∧ n' = n + j ∧ (∀ p, p ≤ n → K' p = K p ∧ L' p = L p) ∧ (∀ p, p ≤ n → ∀ i, M' p i = M p i) ∧ (∀ p, p ≤ n → ∀ g, ¬ (p = 6 ∧ g < j) → Rf' p g = Rf p g) ∧ (∀ g, g < j → Rf' 6 g = n + 1 + g ∧ K' (n + 1 + g) = 0 ∧ L' (n + 1 + g) = m ∧ ∀ i : Int, 0 ≤ i → i < z → M' (n + 1 + g) i = M (Rf 6 g) i) ∧ ∀ p i, R32 (M' p i)
theorem GS.step {M : pm_M} {Rf : Nat → Nat → Nat} {K L : Nat → Nat} {n z m j : Nat} {M' : pm_M} {Rf' : Nat → Nat → Nat} {K' L' : Nat → Nat} {n' : Nat} (hR : RmI Rf K L n z) (hn : 99 ≤ n) (hj : j < 5) (h : GS M Rf K L n z m j M' Rf' K' L' n') : GS M Rf K L n z m (j + 1) (mcp M' (n' + 1) (Rf' 6 j) z) (pm_u (pm_u Rf' (n' + 1) (fun _ => 0)) 6 (pm_u ((pm_u Rf' (n' + 1) (fun _ => 0)) 6) j (n' + 1))) (pm_u K' (n' + 1) 0) (pm_u L' (n' + 1) m) (n' + 1) ∧ Rf' 6 j = Rf 6 j := by
  obtain ⟨g1, g2, g3, g4, g5, g6, g7⟩ := h
  subst g2
  have e6 : Rf' 6 j = Rf 6 j := g5 6 (by omega) j (by omega)
  have har := hR.1 j hj
  refine ⟨⟨g1.new.put6 hj, by omega, fun p hp => ?_, fun p hp i => ?_, fun p hp g hg => ?_, fun g hg => ?_, mcp_R32 g7⟩, e6⟩
  · unfold pm_u
    rw [if_neg (by omega), if_neg (by omega)]; exact g3 p hp
  · rw [mcp_o _ (by omega)]; exact g4 p hp i
  · unfold pm_u
    by_cases h6 : p = 6
    · subst h6
      rw [if_pos rfl, if_neg (by omega), if_neg (by omega)]
      exact g5 6 hp g (by omega)
    · rw [if_neg h6, if_neg (by omega)]
      exact g5 p hp g (by omega)
  · by_cases hgj : g = j
    · subst hgj
      refine ⟨?_, ?_, ?_, fun i h0 h1 => ?_⟩
      · unfold pm_u
        rw [if_pos rfl, if_pos rfl]; omega
      · unfold pm_u
        rw [if_pos (by omega)]
      · unfold pm_u
        rw [if_pos (by omega)]
      · rw [show n + 1 + g = n + g + 1 by omega, mcp_s h0 h1, e6]
        exact g4 _ har.2.1 i
    · obtain ⟨q1, q2, q3, q4⟩ := g6 g (by omega)
      refine ⟨?_, ?_, ?_, fun i h0 h1 => ?_⟩
      · unfold pm_u
        rw [if_pos rfl, if_neg hgj, if_neg (by omega)]; exact q1
      · unfold pm_u
        rw [if_neg (by omega)]; exact q2
      · unfold pm_u
        rw [if_neg (by omega)]; exact q3
      · rw [mcp_o _ (by omega)]; exact q4 i h0 h1
/-- what stays where rows may have grown: nodes below cn, and all places but the rows -/
def RX (M : pm_M) (Rf : Nat → Nat → Nat) (K L : Nat → Nat) (n s z : Nat) (cn : Int) (M' : pm_M) (Rf' : Nat → Nat → Nat) (K' L' : Nat → Nat) (n' s' z' : Nat) : Prop := pm_G Rf' K' L' n' ∧ RmI Rf' K' L' n' z' ∧ n ≤ n' ∧ z ≤ z' ∧ n' + z ≤ n + z' ∧ s' = s + 10 * (z' - z) ∧ (∀ p, p ≤ n → K' p = K p ∧ L' p = L p) ∧ (∀ p, p ≤ n → ∀ g, ¬ (p = 6 ∧ g < 5) → Rf' p g = Rf p g) ∧ (∀ g, g < 5 → Rf' 6 g = Rf 6 g ∨ n < Rf' 6 g) ∧ (∀ p, p ≤ n → (∀ g, g < 5 → p ≠ Rf 6 g) → ∀ i, ¬ (p = 6 ∧ i = 6) → p ≠ 12 → M' p i = M p i) ∧ (∀ g, g < 5 → ∀ i : Int, 0 ≤ i → i < cn → M' (Rf' 6 g) i = M (Rf 6 g) i) ∧ ∀ p i, R32 (M' p i)
section PmC1
variable {d : Nat} {Q : Option Value → pm_S → Prop} {M N : pm_M} {Rf : Nat → Nat → Nat} {K L : Nat → Nat} {n s : Nat}
set_option maxRecDepth 20000 in
set_option maxHeartbeats 1000000 in
theorem c_grow {z : Nat} (hG : pm_G Rf K L n) (hR : RmI Rf K L n z) (hM : ∀ p i, R32 (M p i)) (hz : 2 * z ≤ 16384) (h : ∀ (M' : pm_M) (Rf' : Nat → Nat → Nat) (K' L' : Nat → Nat), GS M Rf K L n z (2 * z) 5 M' Rf' K' L' (n + 5) → Q (some (.int (zI 1))) (zM M', Rf', K', L', n + 5, s + 2 * z + 2 * z + 2 * z + 2 * z + 2 * z)) : pm_Wc (d + 2) 29 [.ref 6] (zM M, Rf, K, L, n, s) Q := by
  have hn := hG.1
  have hz64 := hR.2.2.2.1
  have g0 : GS M Rf K L n z (2 * z) 0 M Rf K L n := ⟨hG, rfl, fun p _ => ⟨rfl, rfl⟩, fun p _ i => rfl, fun p _ g _ => rfl, fun g hg => absurd hg (Nat.not_lt_zero _), hM⟩
  refine wc_in (ls0 := [some (.ref 6), none]) (by decide) (Nat.le_of_ble_eq_true rfl) rfl rfl ?_
  refine wz_iconst d29_0 ?_
  refine wp_aload_n d29_1 rfl ?_
  refine wp_getR (q := Rf 6 0) d29_2 rfl (hG.o (by decide) rfl) (by decide) rfl (hR.1 0 (by decide)).1 ?_
  refine wz_alen d29_5 (hR.1 0 (by decide)) (by decide) ?_
  refine wz_imul d29_6 ?_
  refine wz_sipush d29_7 (by decide) ?_
  refine wp_min (v := zI ((2 * z : Nat) : Int)) d29_10 rfl rfl rfl (by decide) ?_ ?_
  · by_cases he : 2 * z = 16384
    · have e : zI (2 * (z : Int)) = zI 16384 := by rw [show 2 * (z : Int) = 16384 by omega]
      rw [e, he, if_neg (by decide)]; rfl
    · refine (if_neg (fun e => ?_)).trans (by rw [show 2 * (z : Int) = ((2 * z : Nat) : Int) by omega])
      have := (zI_lt (a := 16384) (b := 2 * (z : Int)) ⟨by omega, by omega⟩ ⟨by omega, by omega⟩).mp e
      omega
  refine wp_istore_n d29_13 (Nat.le_of_ble_eq_true rfl) rfl ?_
  refine wp_iload_n d29_14 rfl ?_
  refine wp_aload_n d29_15 rfl ?_
  refine wp_getR (q := Rf 6 0) d29_16 rfl (hG.o (by decide) rfl) (by decide) rfl (hR.1 0 (by decide)).1 ?_
  refine wz_alen d29_19 (hR.1 0 (by decide)) (by decide) ?_
  refine wz_icmp_gt (t := 25) d29_20 (by decide) ⟨by omega, by omega⟩ ⟨by omega, by omega⟩ (fun _ => ?_) (fun hb => absurd (by omega) hb)
  obtain ⟨g1, e0⟩ := g0.step hR hn (by decide : 0 < 5)
  have a0 : pm_Ar K L n (Rf 6 0) 0 z := by
    rw [e0]
    have q := hR.1 0 (by decide)
    have k := g0.2.2.1 _ q.2.1
    exact ⟨q.1, by have := q.2.1; omega, by rw [k.1]; exact q.2.2.1, by rw [k.2]; exact q.2.2.2⟩
  refine wp_aload_n d29_25 rfl ?_
  refine wp_aload_n d29_26 rfl ?_
  refine wp_getR (q := Rf 6 0) d29_27 rfl (g0.1.o (by decide) rfl) (by decide) rfl a0.1 ?_
  refine wp_iload_n d29_30 rfl ?_
  refine wp_stat (as := [.int (zI ((2 * z : Nat) : Int)), .ref (Rf 6 0)]) (rest := [.ref 6]) d29_31 rfl rfl rfl (by simp [pm_vc]) (by decide) (by decide) ?_
  refine m_copyOf a0 (by omega) (by omega) ?_
  refine wp_putR d29_34 rfl ((pm_G.new (k := 0) (m := 2 * z) (r := fun _ => 0) g0.1).o (by decide) rfl) (by omega) rfl (by decide) ?_
  generalize hM1 : mcp M (n + 1) (Rf 6 0) z = M1 at g1 ⊢
  generalize hR1 : pm_u (pm_u Rf (n + 1) (fun _ => 0)) 6 (pm_u ((pm_u Rf (n + 1) (fun _ => 0)) 6) 0 (n + 1)) = R1 at g1 ⊢
  generalize hK1 : pm_u K (n + 1) 0 = K1 at g1 ⊢
  generalize hL1 : pm_u L (n + 1) (2 * z) = L1 at g1 ⊢
  clear hM1 hR1 hK1 hL1
  obtain ⟨g2, e1⟩ := g1.step hR hn (by decide : 1 < 5)
  have a1 : pm_Ar K1 L1 (n + 1) (R1 6 1) 0 z := by
    rw [e1]
    have q := hR.1 1 (by decide)
    have k := g1.2.2.1 _ q.2.1
    exact ⟨q.1, by have := q.2.1; omega, by rw [k.1]; exact q.2.2.1, by rw [k.2]; exact q.2.2.2⟩
  refine wp_aload_n d29_37 rfl ?_
  refine wp_aload_n d29_38 rfl ?_
  refine wp_getR (q := R1 6 1) d29_39 rfl (g1.1.o (by decide) rfl) (by decide) rfl a1.1 ?_
  refine wp_iload_n d29_42 rfl ?_
  refine wp_stat (as := [.int (zI ((2 * z : Nat) : Int)), .ref (R1 6 1)]) (rest := [.ref 6]) d29_43 rfl rfl rfl (by simp [pm_vc]) (by decide) (by decide) ?_
  refine m_copyOf a1 (by omega) (by omega) ?_
  refine wp_putR d29_46 rfl ((pm_G.new (k := 0) (m := 2 * z) (r := fun _ => 0) g1.1).o (by decide) rfl) (by omega) rfl (by decide) ?_
  generalize hM2 : mcp M1 ((n + 1) + 1) (R1 6 1) z = M2 at g2 ⊢
  generalize hR2 : pm_u (pm_u R1 ((n + 1) + 1) (fun _ => 0)) 6 (pm_u ((pm_u R1 ((n + 1) + 1) (fun _ => 0)) 6) 1 ((n + 1) + 1)) = R2 at g2 ⊢
  generalize hK2 : pm_u K1 ((n + 1) + 1) 0 = K2 at g2 ⊢
  generalize hL2 : pm_u L1 ((n + 1) + 1) (2 * z) = L2 at g2 ⊢
  clear hM2 hR2 hK2 hL2
  obtain ⟨g3, e2⟩ := g2.step hR hn (by decide : 2 < 5)
  have a2 : pm_Ar K2 L2 (n + 2) (R2 6 2) 0 z := by
    rw [e2]
    have q := hR.1 2 (by decide)
    have k := g2.2.2.1 _ q.2.1
    exact ⟨q.1, by have := q.2.1; omega, by rw [k.1]; exact q.2.2.1, by rw [k.2]; exact q.2.2.2⟩
  refine wp_aload_n d29_49 rfl ?_
  refine wp_aload_n d29_50 rfl ?_
  refine wp_getR (q := R2 6 2) d29_51 rfl (g2.1.o (by decide) rfl) (by decide) rfl a2.1 ?_
  refine wp_iload_n d29_54 rfl ?_
  refine wp_stat (as := [.int (zI ((2 * z : Nat) : Int)), .ref (R2 6 2)]) (rest := [.ref 6]) d29_55 rfl rfl rfl (by simp [pm_vc]) (by decide) (by decide) ?_
  refine m_copyOf a2 (by omega) (by omega) ?_
  refine wp_putR d29_58 rfl ((pm_G.new (k := 0) (m := 2 * z) (r := fun _ => 0) g2.1).o (by decide) rfl) (by omega) rfl (by decide) ?_
  generalize hM3 : mcp M2 ((n + 2) + 1) (R2 6 2) z = M3 at g3 ⊢
  generalize hR3 : pm_u (pm_u R2 ((n + 2) + 1) (fun _ => 0)) 6 (pm_u ((pm_u R2 ((n + 2) + 1) (fun _ => 0)) 6) 2 ((n + 2) + 1)) = R3 at g3 ⊢
  generalize hK3 : pm_u K2 ((n + 2) + 1) 0 = K3 at g3 ⊢
  generalize hL3 : pm_u L2 ((n + 2) + 1) (2 * z) = L3 at g3 ⊢
  clear hM3 hR3 hK3 hL3
  obtain ⟨g4, e3⟩ := g3.step hR hn (by decide : 3 < 5)
  have a3 : pm_Ar K3 L3 (n + 3) (R3 6 3) 0 z := by
    rw [e3]
    have q := hR.1 3 (by decide)
    have k := g3.2.2.1 _ q.2.1
    exact ⟨q.1, by have := q.2.1; omega, by rw [k.1]; exact q.2.2.1, by rw [k.2]; exact q.2.2.2⟩
  refine wp_aload_n d29_61 rfl ?_
  refine wp_aload_n d29_62 rfl ?_
  refine wp_getR (q := R3 6 3) d29_63 rfl (g3.1.o (by decide) rfl) (by decide) rfl a3.1 ?_
  refine wp_iload_n d29_66 rfl ?_
  refine wp_stat (as := [.int (zI ((2 * z : Nat) : Int)), .ref (R3 6 3)]) (rest := [.ref 6]) d29_67 rfl rfl rfl (by simp [pm_vc]) (by decide) (by decide) ?_
  refine m_copyOf a3 (by omega) (by omega) ?_
  refine wp_putR d29_70 rfl ((pm_G.new (k := 0) (m := 2 * z) (r := fun _ => 0) g3.1).o (by decide) rfl) (by omega) rfl (by decide) ?_
  generalize hM4 : mcp M3 ((n + 3) + 1) (R3 6 3) z = M4 at g4 ⊢
  generalize hR4 : pm_u (pm_u R3 ((n + 3) + 1) (fun _ => 0)) 6 (pm_u ((pm_u R3 ((n + 3) + 1) (fun _ => 0)) 6) 3 ((n + 3) + 1)) = R4 at g4 ⊢
  generalize hK4 : pm_u K3 ((n + 3) + 1) 0 = K4 at g4 ⊢
  generalize hL4 : pm_u L3 ((n + 3) + 1) (2 * z) = L4 at g4 ⊢
  clear hM4 hR4 hK4 hL4
  obtain ⟨g5, e4⟩ := g4.step hR hn (by decide : 4 < 5)
  have a4 : pm_Ar K4 L4 (n + 4) (R4 6 4) 0 z := by
    rw [e4]
    have q := hR.1 4 (by decide)
    have k := g4.2.2.1 _ q.2.1
    exact ⟨q.1, by have := q.2.1; omega, by rw [k.1]; exact q.2.2.1, by rw [k.2]; exact q.2.2.2⟩
  refine wp_aload_n d29_73 rfl ?_
  refine wp_aload_n d29_74 rfl ?_
  refine wp_getR (q := R4 6 4) d29_75 rfl (g4.1.o (by decide) rfl) (by decide) rfl a4.1 ?_
  refine wp_iload_n d29_78 rfl ?_
  refine wp_stat (as := [.int (zI ((2 * z : Nat) : Int)), .ref (R4 6 4)]) (rest := [.ref 6]) d29_79 rfl rfl rfl (by simp [pm_vc]) (by decide) (by decide) ?_
  refine m_copyOf a4 (by omega) (by omega) ?_
  refine wp_putR d29_82 rfl ((pm_G.new (k := 0) (m := 2 * z) (r := fun _ => 0) g4.1).o (by decide) rfl) (by omega) rfl (by decide) ?_
  generalize hM5 : mcp M4 ((n + 4) + 1) (R4 6 4) z = M5 at g5 ⊢
  generalize hR5 : pm_u (pm_u R4 ((n + 4) + 1) (fun _ => 0)) 6 (pm_u ((pm_u R4 ((n + 4) + 1) (fun _ => 0)) 6) 4 ((n + 4) + 1)) = R5 at g5 ⊢
  generalize hK5 : pm_u K4 ((n + 4) + 1) 0 = K5 at g5 ⊢
  generalize hL5 : pm_u L4 ((n + 4) + 1) (2 * z) = L5 at g5 ⊢
  clear hM5 hR5 hK5 hL5
  refine wz_iconst d29_85 ?_
  exact wp_ret d29_86 rfl (h _ _ _ _ g5)
end PmC1
