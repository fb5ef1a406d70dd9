/-! ROWS THAT GROW: Arrays.copyOf. -/
def mcp (M : pm_M) (q p z : Nat) : pm_M := fun r i => if r = q then (if 0 ≤ i ∧ i < (z : Int) then M p i else 0) else M r i
theorem mcp_o {M : pm_M} {q p z r : Nat} (i : Int) (h : r ≠ q) : mcp M q p z r i = M r i := if_neg h
theorem mcp_s {M : pm_M} {q p z : Nat} {i : Int} (h0 : 0 ≤ i) (h1 : i < (z : Int)) : mcp M q p z q i = M p i := by
  unfold mcp
  rw [if_pos rfl, if_pos ⟨h0, h1⟩]
theorem mcp_R32 {M : pm_M} {q p z : Nat} (h : ∀ p i, R32 (M p i)) : ∀ r i, R32 (mcp M q p z r i) := by
  intro r i
  unfold mcp
  split
  · split
    · exact h _ _
    · exact ⟨by omega, by omega⟩
  · exact h _ _
theorem zM_new (M : pm_M) (q : Nat) : pm_u (zM M) q (fun _ => 0) = zM (fun r i => if r = q then 0 else M r i) := by
  funext r k
  unfold zM pm_u
  by_cases h : r = q
  · simp only [if_pos h]; rfl
  · simp only [if_neg h]
theorem zM_cpy (M : pm_M) (q p z : Nat) (hpq : p ≠ q) : pm_u (zM (fun r i => if r = q then 0 else M r i)) q (va_cpy (zM (fun r i => if r = q then 0 else M r i) p) (zM (fun r i => if r = q then 0 else M r i) q) 0 0 z) = zM (mcp M q p z) := by
  funext r k
  unfold pm_u
  by_cases h : r = q
  · subst h
    rw [if_pos rfl]
    unfold va_cpy zM mcp
    simp only [if_true, if_neg hpq]
    by_cases hk : k < z
    · rw [if_pos (by omega), if_pos (by omega), show 0 + (k - 0) = k by omega]
    · rw [if_neg (by omega), if_neg (by omega)]
  · rw [if_neg h]
    unfold zM mcp
    simp only [if_neg h]
section PmAC
variable {X : pm_X} {d mi pc : Nat} {ls : pm_L} {st : List Value} {I : Nat → Nat → Int32} {Rf : Nat → Nat → Nat} {K L : Nat → Nat} {n s : Nat} {Q : Option Value → pm_S → Prop} {M : pm_M}
theorem zI_nneg {z : Nat} (h : z < 2147483648) : ¬ zI (z : Int) < 0 := by
  intro e
  have := (zI_lt (a := (z : Int)) (b := 0) ⟨by omega, by omega⟩ ⟨by decide, by decide⟩).mp e
  omega
theorem wp_acopy {k p q z m : Nat} {rest : List Value} (hd : decode (pm_code mi) pc = .ok (.invokestatic k, 3)) (hb : pm_bi (pm_ow mi) k = 3) (hm : pm_mth (pm_ow mi) k = none) (hv2 : rest.all pm_vc = true) (hr : rest.length ≤ 8) (hp : pm_Ar K L n p 0 z) (hq : pm_Ar K L n q 0 m) (hz : z ≤ m) (hz2 : z < 2147483648) (h : pm_Wp X d mi (pc + 3) ls rest (pm_u I q (va_cpy (I p) (I q) 0 0 z), Rf, K, L, n, s) Q) : pm_Wp X d mi pc ls (.int (zI (z : Int)) :: .int (zI 0) :: .ref q :: .int (zI 0) :: .ref p :: rest) (I, Rf, K, L, n, s) Q := by
  obtain ⟨a1, a2, a3, a4⟩ := hp
  obtain ⟨b1, b2, b3, b4⟩ := hq
  have c1 : (zI (z : Int)).toNatClampNeg = z := by
    have := zI_clamp (a := (z : Int)) (by omega) (by omega)
    rw [this]; omega
  have c0 : (zI 0).toNatClampNeg = 0 := by decide
  have n1 := zI_nneg hz2
  have n0 : ¬ zI 0 < 0 := by decide
  exact wp_step hd rfl (by simp [pm_inv, hm]) (by simp [pm_step, pm_jmp, pm_len, pm_rd, pm_loc, pm_wr, pm_mk, pm_jdk, hb, hr, hv2, a1, a2, a3, a4, b1, b2, b3, b4, c1, c0, n1, n0, hz]) h
end PmAC
section PmM26
variable {d : Nat} {Q : Option Value → pm_S → Prop} {M N : pm_M} {Rf : Nat → Nat → Nat} {K L : Nat → Nat} {n s : Nat}
theorem m_copyOf {p z m : Nat} (ha : pm_Ar K L n p 0 z) (hzm : z < m) (hm : m ≤ 100000) (h : Q (some (.ref (n + 1))) (zM (mcp M (n + 1) p z), pm_u Rf (n + 1) (fun _ => 0), pm_u K (n + 1) 0, pm_u L (n + 1) m, n + 1, s + m)) : pm_Wc (d + 1) 211 [.ref p, .int (zI (m : Int))] (zM M, Rf, K, L, n, s) Q := by
  have hpn : p ≠ n + 1 := by have := ha.2.1; omega
  have hc : (zI (m : Int)).toNatClampNeg = m := by
    have := zI_clamp (a := (m : Int)) (by omega) (by omega)
    rw [this]; omega
  have ha' : pm_Ar (pm_u K (n + 1) 0) (pm_u L (n + 1) m) (n + 1) p 0 z := ⟨ha.1, by have := ha.2.1; omega, by unfold pm_u; rw [if_neg hpn]; exact ha.2.2.1, by unfold pm_u; rw [if_neg hpn]; exact ha.2.2.2⟩
  have hb' : pm_Ar (pm_u K (n + 1) 0) (pm_u L (n + 1) m) (n + 1) (n + 1) 0 m := ⟨by omega, Nat.le_refl _, by unfold pm_u; rw [if_pos rfl], by unfold pm_u; rw [if_pos rfl]⟩
  have hp1 := ha.1
  refine wc_in (ls0 := [some (.ref p), some (.int (zI (m : Int))), none]) (by decide) (Nat.le_of_ble_eq_true rfl) (by simp [pm_vc]) rfl ?_
  refine wp_iload_n d211_0 rfl ?_
  refine wp_aload_n d211_1 rfl ?_
  refine wz_alen d211_2 ha (by decide) ?_
  refine wz_icmp_ne (t := 14) d211_3 (by decide) ⟨by omega, by omega⟩ ⟨by omega, by omega⟩ (fun _ => ?_) (fun hb => absurd hb (by omega))
  refine wp_iload_n d211_14 rfl ?_
  refine wp_newI d211_15 (zI_nneg (by omega)) (by rw [hc]; exact hm) ?_
  rw [hc]
  show pm_Wp none d 211 (15 + 2) _ _ (pm_u (zM M) (n + 1) (fun _ => 0), pm_u Rf (n + 1) (fun _ => 0), pm_u K (n + 1) 0, pm_u L (n + 1) m, n + 1, s + m) Q
  rw [zM_new]
  refine wp_astore_n d211_17 (Nat.le_of_ble_eq_true rfl) rfl ?_
  refine wp_aload_n d211_18 rfl ?_
  refine wz_iconst d211_19 ?_
  refine wp_aload_n d211_20 rfl ?_
  refine wz_iconst d211_21 ?_
  refine wp_aload_n d211_22 rfl ?_
  refine wz_alen d211_23 ha' (by decide) ?_
  refine wp_iload_n d211_24 rfl ?_
  refine wp_min (v := zI (z : Int)) d211_25 rfl rfl (by simp [pm_vc]) (by simp) (if_neg (fun e => ?_)) ?_
  · have := (zI_lt (a := (m : Int)) (b := (z : Int)) ⟨by omega, by omega⟩ ⟨by omega, by omega⟩).mp e
    omega
  refine wp_acopy d211_28 rfl rfl rfl (by decide) ha' hb' (by omega) (by omega) ?_
  rw [zM_cpy M (n + 1) p z hpn]
  refine wp_aload_n d211_31 rfl ?_
  exact wp_ret d211_32 rfl h
end PmM26
