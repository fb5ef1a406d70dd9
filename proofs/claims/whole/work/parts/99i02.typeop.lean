/-! TYPE AND CHARAT, on both sides, for any text and page. -/
def txs (tx : Nat → Int) (ln : Nat) (c : Int) : Nat → Int := fun i => if i = ln then c else tx i
def pgc (w : List Int) (p : Int) : Int := if 0 ≤ p ∧ p < (w.length : Int) then (w[p.toNat]?).getD 0 else -1
theorem SH.pg {M : pm_M} {w : List Int} {p : Int} (h : SH M w) (p0 : 0 ≤ p) (p1 : p < (w.length : Int)) : M 14 p = pgc w p := by
  unfold pgc
  rw [if_pos ⟨p0, p1⟩]
  have := h.2.2 p.toNat (by omega)
  rw [this, Int.toNat_of_nonneg p0]; rfl
theorem MP.pg {M : pm_M} {w : List Int} {p : Int} (h : MP M w) (p0 : 0 ≤ p) (p1 : p < (w.length : Int)) : M 58 p = pgc w p := by
  unfold pgc
  rw [if_pos ⟨p0, p1⟩]
  have := h.2 p.toNat (by omega)
  rw [this, Int.toNat_of_nonneg p0]; rfl
theorem pgc_no {w : List Int} {p : Int} (h : ¬ (0 ≤ p ∧ p < (w.length : Int))) : pgc w p = -1 := if_neg h
theorem CT.add {M : pm_M} {tx : Nat → Int} {ln : Nat} {c : Int} (h : CT M tx ln) (hl : ln < 60) (c0 : 32 ≤ c) (c1 : c ≤ 126) : CT (mset (mset M 2 (ln : Int) c) 1 8 ((ln : Int) + 1)) (txs tx ln c) (ln + 1) := by
  refine ⟨by rw [mset_s]; push_cast; rfl, by omega, fun i hi => ?_⟩
  rw [mset_p _ _ _ _ (by decide)]
  unfold txs
  by_cases e : i = ln
  · rw [if_pos e, e, mset_s]; exact ⟨rfl, c0, c1⟩
  · rw [if_neg e, mset_i _ _ _ _ (by omega)]
    exact h.2.2 i (by omega)
theorem MT.add {M : pm_M} {tx : Nat → Int} {ln : Nat} {c : Int} (h : MT M tx ln) (hl : ln < 60) (c0 : 32 ≤ c) (c1 : c ≤ 126) : MT (mset (mset M 57 (ln : Int) c) 56 0 ((ln : Int) + 1)) (txs tx ln c) (ln + 1) := by
  refine ⟨by rw [mset_s]; push_cast; rfl, by omega, fun i hi => ?_⟩
  rw [mset_p _ _ _ _ (by decide)]
  unfold txs
  by_cases e : i = ln
  · rw [if_pos e, e, mset_s]; exact ⟨rfl, c0, c1⟩
  · rw [if_neg e, mset_i _ _ _ _ (by omega)]
    exact h.2.2 i (by omega)
section PmI2
variable {d : Nat} {Q : Option Value → pm_S → Prop} {M : pm_M} {Rf : Nat → Nat → Nat} {K L : Nat → Nat} {n s ln : Nat} {tx : Nat → Int}
theorem c_type {c : Int} (hG : pm_G Rf K L n) (rc : 0 ≤ c ∧ c ≤ 65535) (hct : CT M tx ln) (h0 : ¬ (32 ≤ c ∧ c ≤ 126 ∧ ln < 60) → Q (some (.int (zI 0))) (zM M, Rf, K, L, n, s)) (h1 : 32 ≤ c → c ≤ 126 → ln < 60 → Q (some (.int (zI 1))) (zM (mset (mset M 2 (ln : Int) c) 1 8 ((ln : Int) + 1)), Rf, K, L, n, s)) : pm_Wc (d + 1) 1 [.ref 1, .int (zI c)] (zM M, Rf, K, L, n, s) Q := by
  have e8 := hct.1
  have l6 := hct.2.1
  refine wc_in (ls0 := [some (.ref 1), some (.int (zI c))]) (by decide) (Nat.le_of_ble_eq_true rfl) rfl rfl ?_
  refine wp_iload_n d1_0 rfl ?_
  refine wz_bipush d1_1 (by decide) ?_
  refine wz_icmp_lt (t := 21) d1_3 (by decide) ⟨by omega, by omega⟩ ⟨by omega, by omega⟩ (fun hb => ?_) (fun hb => ?_)
  · skip
    refine wz_iconst d1_21 ?_
    exact wp_ret d1_22 rfl (h0 (by omega))
  refine wp_iload_n d1_6 rfl ?_
  refine wz_bipush d1_7 (by decide) ?_
  refine wz_icmp_gt (t := 21) d1_9 (by decide) ⟨by omega, by omega⟩ ⟨by omega, by omega⟩ (fun hb2 => ?_) (fun hb2 => ?_)
  · skip
    refine wz_iconst d1_21 ?_
    exact wp_ret d1_22 rfl (h0 (by omega))
  refine wp_aload_n d1_12 rfl ?_
  refine wz_getI (v := (ln : Int)) d1_13 rfl (hG.o (by decide) rfl) (by decide) (e8) ?_
  refine wz_bipush d1_16 (by decide) ?_
  refine wz_icmp_lt (t := 23) d1_18 (by decide) ⟨by omega, by omega⟩ ⟨by omega, by omega⟩ (fun hb3 => ?_) (fun hb3 => ?_)
  · skip
    refine wp_aload_n d1_23 rfl ?_
    refine wp_getR (q := 2) d1_24 rfl (hG.o (by decide) rfl) (by decide) (hG.r (by decide +kernel)) (by decide) ?_
    refine wp_aload_n d1_27 rfl ?_
    refine wz_getI (v := (ln : Int)) d1_28 rfl (hG.o (by decide) rfl) (by decide) (e8) ?_
    refine wp_iload_n d1_31 rfl ?_
    refine wz_cast (z := 60) d1_32 (hG.a (by decide) rfl rfl) (by omega) (by omega) (by decide) (by omega) (by omega) ?_
    refine wp_aload_n d1_33 rfl ?_
    refine wp_dupr d1_34 ?_
    refine wz_getI (v := (ln : Int)) d1_35 rfl (hG.o (by decide) rfl) (by decide) (by rw [mset_p _ _ _ _ (by decide)]; exact e8) ?_
    refine wz_iconst d1_38 ?_
    refine wz_iadd d1_39 ?_
    refine wz_putI (i := 8) d1_40 rfl (hG.o (by decide) rfl) rfl (by decide) rfl ?_
    refine wz_iconst d1_43 ?_
    exact wp_ret d1_44 rfl (h1 (by omega) (by omega) (by omega))
  refine wz_iconst d1_21 ?_
  exact wp_ret d1_22 rfl (h0 (by omega))
theorem m_type {c : Int} (hG : pm_G Rf K L n) (rc : 0 ≤ c ∧ c ≤ 65535) (hct : MT M tx ln) (h0 : ¬ (32 ≤ c ∧ c ≤ 126 ∧ ln < 60) → Q (some (.int (zI 0))) (zM M, Rf, K, L, n, s)) (h1 : 32 ≤ c → c ≤ 126 → ln < 60 → Q (some (.int (zI 1))) (zM (mset (mset M 57 (ln : Int) c) 56 0 ((ln : Int) + 1)), Rf, K, L, n, s)) : pm_Wc (d + 1) 135 [.ref 56, .int (zI c)] (zM M, Rf, K, L, n, s) Q := by
  have e8 := hct.1
  have l6 := hct.2.1
  refine wc_in (ls0 := [some (.ref 56), some (.int (zI c))]) (by decide) (Nat.le_of_ble_eq_true rfl) rfl rfl ?_
  refine wp_iload_n d135_0 rfl ?_
  refine wz_bipush d135_1 (by decide) ?_
  refine wz_icmp_lt (t := 21) d135_3 (by decide) ⟨by omega, by omega⟩ ⟨by omega, by omega⟩ (fun hb => ?_) (fun hb => ?_)
  · skip
    refine wz_iconst d135_21 ?_
    exact wp_ret d135_22 rfl (h0 (by omega))
  refine wp_iload_n d135_6 rfl ?_
  refine wz_bipush d135_7 (by decide) ?_
  refine wz_icmp_gt (t := 21) d135_9 (by decide) ⟨by omega, by omega⟩ ⟨by omega, by omega⟩ (fun hb2 => ?_) (fun hb2 => ?_)
  · skip
    refine wz_iconst d135_21 ?_
    exact wp_ret d135_22 rfl (h0 (by omega))
  refine wp_aload_n d135_12 rfl ?_
  refine wz_getI (v := (ln : Int)) d135_13 rfl (hG.o (by decide) rfl) (by decide) (e8) ?_
  refine wz_bipush d135_16 (by decide) ?_
  refine wz_icmp_ne (t := 23) d135_18 (by decide) ⟨by omega, by omega⟩ ⟨by omega, by omega⟩ (fun hb3 => ?_) (fun hb3 => ?_)
  · skip
    refine wp_aload_n d135_23 rfl ?_
    refine wp_getR (q := 57) d135_24 rfl (hG.o (by decide) rfl) (by decide) (hG.r (by decide +kernel)) (by decide) ?_
    refine wp_aload_n d135_27 rfl ?_
    refine wz_getI (v := (ln : Int)) d135_28 rfl (hG.o (by decide) rfl) (by decide) (e8) ?_
    refine wp_iload_n d135_31 rfl ?_
    refine wz_iast (z := 60) d135_32 (hG.a (by decide) rfl rfl) (by omega) (by omega) (by decide) ?_
    refine wp_aload_n d135_33 rfl ?_
    refine wp_dupr d135_34 ?_
    refine wz_getI (v := (ln : Int)) d135_35 rfl (hG.o (by decide) rfl) (by decide) (by rw [mset_p _ _ _ _ (by decide)]; exact e8) ?_
    refine wz_iconst d135_38 ?_
    refine wz_iadd d135_39 ?_
    refine wz_putI (i := 0) d135_40 rfl (hG.o (by decide) rfl) rfl (by decide) rfl ?_
    refine wz_iconst d135_43 ?_
    exact wp_ret d135_44 rfl (h1 (by omega) (by omega) (by omega))
  refine wz_iconst d135_21 ?_
  exact wp_ret d135_22 rfl (h0 (by omega))
theorem c_charAt {p : Int} {w : List Int} (hG : pm_G Rf K L n) (rp : R32 p) (hw : w.length ≤ 100) (hs : SH M w) (h : Q (some (.int (zI (pgc w p)))) (zM M, Rf, K, L, n, s)) : pm_Wc (d + 1) 10 [.ref 1, .int (zI p)] (zM M, Rf, K, L, n, s) Q := by
  have e2 := hs.1
  have r1 := rp.1
  have r2 := rp.2
  refine wc_in (ls0 := [some (.ref 1), some (.int (zI p))]) (by decide) (Nat.le_of_ble_eq_true rfl) rfl rfl ?_
  refine wp_iload_n d10_0 rfl ?_
  refine wz_if_lt (t := 27) d10_1 (by decide) ⟨by omega, by omega⟩ (fun hb => ?_) (fun hb => ?_)
  · skip
    rw [pgc_no (by omega)] at h
    refine wz_iconst d10_27 ?_
    exact wp_ret d10_28 rfl (h)
  refine wp_iload_n d10_4 rfl ?_
  refine wp_aload_n d10_5 rfl ?_
  refine wp_getR (q := 13) d10_6 rfl (hG.o (by decide) rfl) (by decide) (hG.r (by decide +kernel)) (by decide) ?_
  refine wz_getI (v := (w.length : Int)) d10_9 rfl (hG.o (by decide) rfl) (by decide) (e2) ?_
  refine wz_icmp_ge (t := 27) d10_12 (by decide) ⟨by omega, by omega⟩ ⟨by omega, by omega⟩ (fun hb2 => ?_) (fun hb2 => ?_)
  · skip
    rw [pgc_no (by omega)] at h
    refine wz_iconst d10_27 ?_
    exact wp_ret d10_28 rfl (h)
  refine wp_aload_n d10_15 rfl ?_
  refine wp_getR (q := 13) d10_16 rfl (hG.o (by decide) rfl) (by decide) (hG.r (by decide +kernel)) (by decide) ?_
  refine wp_getR (q := 14) d10_19 rfl (hG.o (by decide) rfl) (by decide) (hG.r (by decide +kernel)) (by decide) ?_
  refine wp_iload_n d10_22 rfl ?_
  refine wz_cald (z := 100) (v := pgc w p) d10_23 (hG.a (by decide) rfl rfl) (by omega) (by omega) (by decide) (hs.pg (by omega) (by omega)) ?_
  refine wp_goto (t := 28) d10_24 (by decide) ?_
  exact wp_ret d10_28 rfl (h)
theorem m_charAt {p : Int} {w : List Int} (hG : pm_G Rf K L n) (rp : R32 p) (hw : w.length ≤ 100) (hs : MP M w) (h : Q (some (.int (zI (pgc w p)))) (zM M, Rf, K, L, n, s)) : pm_Wc (d + 1) 186 [.ref 56, .int (zI p)] (zM M, Rf, K, L, n, s) Q := by
  have e2 := hs.1
  have r1 := rp.1
  have r2 := rp.2
  refine wc_in (ls0 := [some (.ref 56), some (.int (zI p))]) (by decide) (Nat.le_of_ble_eq_true rfl) rfl rfl ?_
  refine wp_iload_n d186_0 rfl ?_
  refine wz_if_lt (t := 12) d186_1 (by decide) ⟨by omega, by omega⟩ (fun hb => ?_) (fun hb => ?_)
  · skip
    rw [pgc_no (by omega)] at h
    refine wz_iconst d186_12 ?_
    refine wp_goto (t := 22) d186_13 (by decide) ?_
    exact wp_ret d186_22 rfl (h)
  refine wp_iload_n d186_4 rfl ?_
  refine wp_aload_n d186_5 rfl ?_
  refine wz_getI (v := (w.length : Int)) d186_6 rfl (hG.o (by decide) rfl) (by decide) (e2) ?_
  refine wz_icmp_lt (t := 16) d186_9 (by decide) ⟨by omega, by omega⟩ ⟨by omega, by omega⟩ (fun hb2 => ?_) (fun hb2 => ?_)
  · skip
    refine wp_aload_n d186_16 rfl ?_
    refine wp_getR (q := 58) d186_17 rfl (hG.o (by decide) rfl) (by decide) (hG.r (by decide +kernel)) (by decide) ?_
    refine wp_iload_n d186_20 rfl ?_
    refine wz_iald (z := 128) (v := pgc w p) d186_21 (hG.a (by decide) rfl rfl) (by omega) (by omega) (by decide) (hs.pg (by omega) (by omega)) ?_
    exact wp_ret d186_22 rfl (h)
  rw [pgc_no (by omega)] at h
  refine wz_iconst d186_12 ?_
  refine wp_goto (t := 22) d186_13 (by decide) ?_
  exact wp_ret d186_22 rfl (h)
end PmI2
