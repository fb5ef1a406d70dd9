/-! THE CLASS: make. -/
/-- a new node and all that was -/
def MK (M : pm_M) (Rf : Nat → Nat → Nat) (K L : Nat → Nat) (n s z c : Nat) (cn x y w : Int) (M' : pm_M) (Rf' : Nat → Nat → Nat) (K' L' : Nat → Nat) (n' s' z' : Nat) : Prop := RX M Rf K L n s z cn M' Rf' K' L' n' s' z' ∧ M' 6 6 = cn + 1 ∧ cn < z' ∧ M' (Rf' 6 0) cn = c ∧ M' (Rf' 6 1) cn = x ∧ M' (Rf' 6 2) cn = y ∧ M' (Rf' 6 3) cn = w ∧ M' (Rf' 6 4) cn = 1 + psz M Rf c 0 x + psz M Rf c 1 y + psz M Rf c 2 w ∧ ∀ i, M' 12 i = M 12 i
theorem GS.room {M : pm_M} {Rf : Nat → Nat → Nat} {K L : Nat → Nat} {n z : Nat} {M' : pm_M} {Rf' : Nat → Nat → Nat} {K' L' : Nat → Nat} (hR : RmI Rf K L n z) (hn : 99 ≤ n) (hz : 2 * z ≤ 16384) (g : GS M Rf K L n z (2 * z) 5 M' Rf' K' L' (n + 5)) : RmI Rf' K' L' (n + 5) (2 * z) := by
  obtain ⟨-, -, -, -, -, g6, -⟩ := g
  have h64 := hR.2.2.2.1
  refine ⟨fun f hf => ?_, fun f hf => ?_, fun f f' hf hf' e => ?_, by omega, hz⟩
  · obtain ⟨q1, q2, q3, -⟩ := g6 f hf
    rw [q1]
    exact ⟨by omega, by omega, q2, q3⟩
  · have := (g6 f hf).1
    omega
  · have a := (g6 f hf).1
    have b := (g6 f' hf').1
    omega
section PmC3
variable {d : Nat} {Q : Option Value → pm_S → Prop} {M N : pm_M} {Rf : Nat → Nat → Nat} {K L : Nat → Nat} {n s : Nat}
theorem c_make {c z : Nat} {cn x y w : Int} (hG : pm_G Rf K L n) (hR : RmI Rf K L n z) (hM : ∀ p i, R32 (M p i)) (hcn : M 6 6 = cn) (c1 : cn ≤ z) (c2 : cn < 16384) (hc : c < 1000000) (x0 : 0 ≤ x) (x1 : x < cn) (y0 : 0 ≤ y) (y1 : y < cn) (w0 : 0 ≤ w) (w1 : w < cn) (s0 : 0 ≤ psz M Rf c 0 x ∧ psz M Rf c 0 x ≤ 1000000) (s1 : 0 ≤ psz M Rf c 1 y ∧ psz M Rf c 1 y ≤ 1000000) (s2 : 0 ≤ psz M Rf c 2 w ∧ psz M Rf c 2 w ≤ 1000000) (h : ∀ (M' : pm_M) (Rf' : Nat → Nat → Nat) (K' L' : Nat → Nat) (n' s' z' : Nat), MK M Rf K L n s z c cn x y w M' Rf' K' L' n' s' z' → Q (some (.int (zI cn))) (zM M', Rf', K', L', n', s')) : pm_Wc (d + 3) 28 [.ref 6, .int (zI (c : Int)), .int (zI x), .int (zI y), .int (zI w)] (zM M, Rf, K, L, n, s) Q := by
  have hz := hR.2.2.2.2
  have hz64 := hR.2.2.2.1
  have hn := hG.1
  refine wc_in (ls0 := [some (.ref 6), some (.int (zI (c : Int))), some (.int (zI x)), some (.int (zI y)), some (.int (zI w)), none]) (by decide) (Nat.le_of_ble_eq_true rfl) rfl rfl ?_
  refine wp_aload_n d28_0 rfl ?_
  refine wz_getI (v := cn) d28_1 rfl (hG.o (by decide) rfl) (by decide) hcn ?_
  refine wp_aload_n d28_4 rfl ?_
  refine wp_getR (q := Rf 6 0) d28_5 rfl (hG.o (by decide) rfl) (by decide) rfl (hR.1 0 (by decide)).1 ?_
  refine wz_alen d28_8 (hR.1 0 (by decide)) (by decide) ?_
  refine wz_icmp_lt (t := 21) d28_9 (by decide) ⟨by omega, by omega⟩ ⟨by omega, by omega⟩ (fun hb => ?_) (fun hb => ?_)
  · refine c_make_tail hG hR hM hcn (by omega) hb hc x0 (by omega) y0 (by omega) w0 (by omega) (h _ Rf K L n s z ⟨⟨hG, hR, Nat.le_refl _, Nat.le_refl _, Nat.le_refl _, by omega, fun p _ => ⟨rfl, rfl⟩, fun p _ g _ => rfl, fun g _ => Or.inl rfl, fun p hp hg i h6 _ => mnode_o hR hg i h6, fun g hg i i0 i1 => mnode_lo hR hg (by omega), mnode_R32 hM ⟨by omega, by omega⟩ ⟨by omega, by omega⟩ ⟨by omega, by omega⟩ ⟨by omega, by omega⟩ ⟨by omega, by omega⟩ ⟨by omega, by omega⟩⟩, mnode_6 hR, hb, mnode_0 hR, mnode_1 hR, mnode_2 hR, mnode_3 hR, mnode_4 hR, fun i => mnode_o hR (fun g hg => (hR.ne12 hg).symm) i (by omega)⟩)
  · have ez : cn = z := by omega
    refine wp_aload_n d28_12 rfl ?_
    refine wp_virt (as := []) (rest := []) d28_13 rfl rfl rfl (hG.o (by decide) rfl) rfl rfl (Nat.le_of_ble_eq_true rfl) ?_
    refine c_grow hG hR hM (by omega) (fun M1 R1 K1 L1 g => ?_)
    have hR1 := g.room hR hn (by omega)
    obtain ⟨G1, -, g3, g4, g5, g6, g7⟩ := g
    refine wz_if_ne (t := 21) d28_16 (by decide) ⟨by omega, by omega⟩ (fun _ => ?_) (fun hb => absurd hb (by decide))
    have pz : ∀ (i : Nat) (t : Int), 0 ≤ t → t < cn → psz M1 R1 c i t = psz M Rf c i t := by
      intro i t t0 t1
      unfold psz
      obtain ⟨q1, -, -, q4⟩ := g6 4 (by decide)
      rw [q1, q4 t t0 (by omega)]
    have nd : ∀ g, g < 5 → ∀ i : Int, 0 ≤ i → i < cn → M1 (R1 6 g) i = M (Rf 6 g) i := by
      intro g hg i i0 i1
      obtain ⟨q1, -, -, q4⟩ := g6 g hg
      rw [q1, q4 i i0 (by omega)]
    have far : ∀ p, p ≤ n → ∀ g, g < 5 → p ≠ R1 6 g := by
      intro p hp g hg
      have := (g6 g hg).1
      omega
    have e4 := pz 0 x x0 x1
    have e5 := pz 1 y y0 y1
    have e6 := pz 2 w w0 w1
    refine c_make_tail G1 hR1 g7 (by rw [g4 6 (by omega)]; exact hcn) (by omega) (by omega) hc x0 (by omega) y0 (by omega) w0 (by omega) (h _ R1 K1 L1 (n + 5) _ (2 * z) ⟨⟨G1, hR1, by omega, by omega, by omega, by omega, g3, fun p hp f hf => g5 p hp f (by omega), fun f hf => Or.inr ?_, fun p hp hg i h6 h12 => ?_, fun f hf i i0 i1 => ?_, ?_⟩, mnode_6 hR1, by omega, mnode_0 hR1, mnode_1 hR1, mnode_2 hR1, mnode_3 hR1, ?_, fun i => ?_⟩)
    · have := (g6 f hf).1
      omega
    · rw [mnode_o hR1 (far p hp) i h6]; exact g4 p hp i
    · rw [mnode_lo hR1 hf (by omega)]; exact nd f hf i i0 i1
    · rw [e4, e5, e6]
      exact mnode_R32 g7 ⟨by omega, by omega⟩ ⟨by omega, by omega⟩ ⟨by omega, by omega⟩ ⟨by omega, by omega⟩ ⟨by omega, by omega⟩ ⟨by omega, by omega⟩
    · rw [mnode_4 hR1, e4, e5, e6]
    · rw [mnode_o hR1 (far 12 (by omega)) i (by omega)]; exact g4 12 (by omega) i
end PmC3
