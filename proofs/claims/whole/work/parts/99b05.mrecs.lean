/-! THE MODEL: labels, commas and ends of records. -/
section PmM32
variable {tx : Nat → Int} {ln : Nat} {d : Nat} {Q : Option Value → pm_S → Prop} {N : pm_M} {Rf : Nat → Nat → Nat} {K L : Nat → Nat} {n s0 : Nat} {nd sc p : Nat} {wt : Int} {l : List (Int × Int × Int × Int)}
set_option maxHeartbeats 1000000 in
theorem l_lab204 {dp s : Int} {m a : Nat} (hG : pm_G Rf K L n) (h : MS tx ln N p nd sc ((204, dp, s, (m : Int)) :: l)) (hl : l.length < 200) (hs : -1 ≤ s ∧ s < 128) (hdp : 0 ≤ dp ∧ dp ≤ 24) (hm : m < 128) (hop : N 59 (m : Int) = 4) (har : N 60 (m : Int) = (a : Int)) (ha : a < 8) (h1 : ∀ k : Nat, k < 3 → chr tx ln p = 120 + (k : Int) → dp < 24 → a < 2 ^ k → p < ln → ∀ N' : pm_M, MS tx ln N' (p + 1) nd sc ((200, dp + 1, s, (m : Int)) :: (206, dp, s, (m : Int)) :: l) → N' 60 (m : Int) = ((a + 2 ^ k : Nat) : Int) → LBo m N N' → MFr m sc l.length N N' → LH (d + 4) wt (p + 1) (zM N', Rf, K, L, n, s0) Q) (hC : chr tx ln p = 93 → p < ln → ∀ N' : pm_M, MS tx ln N' (p + 1) nd sc l → (∀ a b c, MFr a b c N N') → LH (d + 4) wt (p + 1) (zM N', Rf, K, L, n, s0) Q) (h0 : chr tx ln p ≠ 93 → (∀ k : Nat, k < 3 → chr tx ln p = 120 + (k : Int) → dp < 24 → ¬ a < 2 ^ k) → ∀ N' : pm_M, (∀ a b c, MFr a b c N N') → (∀ p i, R32 (N' p i)) → Q (some (.int (zI (p : Int)))) (zM N', Rf, K, L, n, s0)) : LH (d + 4) wt p (zM N, Rf, K, L, n, s0) Q := by
  have hc := h.2.1.cha p
  have l60 := h.2.1.2.1
  have hpl := h.2.2.1
  by_cases hlt : p < ln
  rotate_left
  · have e : p = ln := by omega
    have he := h.2.2.2.2.2.1
    rw [List.length_cons] at he
    refine m_over hG h.2.1 e he (by omega) (fun _ => ?_) (fun e => by omega)
    rw [← e]
    exact h0 (by omega) (fun k hk e1 => by omega) N (fun a b c => MFr.refl _) h.1
  have fr0 : ∀ a b c, MFr a b c N (mset N 56 16 (l.length : Int)) := fun a b c => (MFr.refl N).set (by unfold WMr; omega)
  have bo0 : LBo m N (mset N 56 16 (l.length : Int)) := fun q i _ _ h3 => by unfold mset; rw [if_neg (fun e => h3 e.1)]
  have v0 : ∀ q i, q ≠ 56 → mset N 56 16 (l.length : Int) q i = N q i := fun q i h3 => by unfold mset; rw [if_neg (fun e => h3 e.1)]
  obtain ⟨P1, -⟩ := h.pop hlt
  refine m_step hG h.2.1 hlt ?_
  refine m_takeH hG h.2.2.2.2.2.1 (by omega) h.2.2.2.2.2.2.1 ?_
  have et : tx p = chr tx ln p := by omega
  rw [et]
  generalize mset N 56 16 (l.length : Int) = N1 at *
  refine wp_iload_n d142_62 rfl ?_
  refine wz_sipush d142_63 (by decide) ?_
  refine wz_icmp_ne (t := 80) d142_66 (by decide) ⟨by omega, by omega⟩ ⟨by omega, by omega⟩ (fun _ => ?_) (fun hb => absurd hb (by decide))
  refine wp_iload_n d142_80 rfl ?_
  refine wz_sipush d142_81 (by decide) ?_
  refine wz_icmp_ne (t := 98) d142_84 (by decide) ⟨by omega, by omega⟩ ⟨by omega, by omega⟩ (fun _ => ?_) (fun hb => absurd hb (by decide))
  refine wp_iload_n d142_98 rfl ?_
  refine wz_sipush d142_99 (by decide) ?_
  refine wz_icmp_eq (t := 112) d142_102 (by decide) ⟨by omega, by omega⟩ ⟨by omega, by omega⟩ (fun hb => absurd hb (by decide)) (fun _ => ?_)
  refine wp_iload_n d142_105 rfl ?_
  refine wz_sipush d142_106 (by decide) ?_
  refine wz_icmp_ne (t := 164) d142_109 (by decide) ⟨by omega, by omega⟩ ⟨by omega, by omega⟩ (fun _ => ?_) (fun hb => absurd hb (by decide))
  refine wp_iload_n d142_164 rfl ?_
  refine wz_sipush d142_165 (by decide) ?_
  refine wz_icmp_eq (t := 178) d142_168 (by decide) ⟨by omega, by omega⟩ ⟨by omega, by omega⟩ (fun hb => absurd hb (by decide)) (fun _ => ?_)
  refine wp_iload_n d142_171 rfl ?_
  refine wz_sipush d142_172 (by decide) ?_
  refine wz_icmp_ne (t := 235) d142_175 (by decide) ⟨by omega, by omega⟩ ⟨by omega, by omega⟩ (fun _ => ?_) (fun hb => absurd hb (by decide))
  refine wp_iload_n d142_235 rfl ?_
  refine wz_iconst d142_236 ?_
  refine wz_irem d142_237 (by omega) (by omega) (by omega) (by omega) ?_
  refine wz_if_ne (t := 246) d142_238 (by decide) ⟨by omega, by omega⟩ (fun hb => absurd (by decide) hb) (fun _ => ?_)
  refine wz_bipush d142_241 (by decide) ?_
  refine wp_goto (t := 248) d142_243 (by decide) ?_
  refine wp_istore d142_248 (Nat.le_of_ble_eq_true rfl) rfl ?_
  refine wp_iload_n d142_250 rfl ?_
  refine wz_sipush d142_251 (by decide) ?_
  refine wz_icmp_eq (t := 264) d142_254 (by decide) ⟨by omega, by omega⟩ ⟨by omega, by omega⟩ (fun _ => ?_) (fun hb => absurd (by decide) hb)
  refine wp_iload_n d142_264 rfl ?_
  refine wp_iload d142_265 rfl ?_
  refine wz_icmp_eq (t := 284) d142_267 (by decide) ⟨by omega, by omega⟩ ⟨by omega, by omega⟩ (fun hcl => ?_) (fun hcl => ?_)
  · skip
    refine wz_iconst d142_284 ?_
    refine wp_goto (t := 289) d142_285 (by decide) ?_
    exact wp_ret d142_289 rfl (m_go1 (by omega) (hC hcl hlt N1 P1 fr0))
  refine wp_aload_n d142_270 rfl ?_
  refine wp_iload_n d142_271 rfl ?_
  refine wp_iload d142_272 rfl ?_
  refine wp_iload d142_274 rfl ?_
  refine wp_iload d142_276 rfl ?_
  refine wp_virt (as := [.int (zI (m : Int)), .int (zI s), .int (zI dp), .int (zI (chr tx ln p))]) (rest := []) d142_278 rfl rfl rfl (hG.o (by decide) rfl) rfl rfl (Nat.le_of_ble_eq_true rfl) ?_
  refine wc_deep (show d + 2 ≤ d + 3 by omega) ?_
  refine m_labelT (nd := nd) hG P1 hl hs hdp ⟨by omega, by omega⟩ hm ((v0 59 _ (by decide)).trans hop) ((v0 60 _ (by decide)).trans har) ha (fun k hk e1 e2 e3 N2 ms v lb fr => ?_) (fun hno => ?_)
  · skip
    refine wz_if_eq (t := 288) d142_281 (by decide) ⟨by omega, by omega⟩ (fun hb => absurd hb (by decide)) (fun _ => ?_)
    refine wz_iconst d142_284 ?_
    refine wp_goto (t := 289) d142_285 (by decide) ?_
    exact wp_ret d142_289 rfl (m_go1 (by omega) (h1 k hk e1 e2 e3 hlt N2 ms v (fun q i q1 q2 q3 => (lb q i q1 q2 q3).trans (bo0 q i q1 q2 q3)) ((fr0 m sc l.length).trans fr)))
  · skip
    refine wz_if_eq (t := 288) d142_281 (by decide) ⟨by omega, by omega⟩ (fun _ => ?_) (fun hb => absurd (by decide) hb)
    refine wz_iconst d142_288 ?_
    exact wp_ret d142_289 rfl (m_go0 (h0 hcl hno N1 fr0 P1.1))
set_option maxHeartbeats 1000000 in
theorem l_lab205 {dp s : Int} {m a : Nat} (hG : pm_G Rf K L n) (h : MS tx ln N p nd sc ((205, dp, s, (m : Int)) :: l)) (hl : l.length < 200) (hs : -1 ≤ s ∧ s < 128) (hdp : 0 ≤ dp ∧ dp ≤ 24) (hm : m < 128) (hop : N 59 (m : Int) = 10) (har : N 60 (m : Int) = (a : Int)) (ha : a < 8) (h1 : ∀ k : Nat, k < 3 → chr tx ln p = 120 + (k : Int) → dp < 24 → a < 2 ^ k → p < ln → ∀ N' : pm_M, MS tx ln N' (p + 1) nd sc ((61, dp, s, (m : Int)) :: (201, dp + 1, s, (m : Int)) :: (207, dp, s, (m : Int)) :: l) → N' 60 (m : Int) = ((a + 2 ^ k : Nat) : Int) → LBo m N N' → MFr m sc l.length N N' → LH (d + 4) wt (p + 1) (zM N', Rf, K, L, n, s0) Q) (hC : chr tx ln p = 125 → p < ln → ∀ N' : pm_M, MS tx ln N' (p + 1) nd sc l → (∀ a b c, MFr a b c N N') → LH (d + 4) wt (p + 1) (zM N', Rf, K, L, n, s0) Q) (h0 : chr tx ln p ≠ 125 → (∀ k : Nat, k < 3 → chr tx ln p = 120 + (k : Int) → dp < 24 → ¬ a < 2 ^ k) → ∀ N' : pm_M, (∀ a b c, MFr a b c N N') → (∀ p i, R32 (N' p i)) → Q (some (.int (zI (p : Int)))) (zM N', Rf, K, L, n, s0)) : LH (d + 4) wt p (zM N, Rf, K, L, n, s0) Q := by
  have hc := h.2.1.cha p
  have l60 := h.2.1.2.1
  have hpl := h.2.2.1
  by_cases hlt : p < ln
  rotate_left
  · have e : p = ln := by omega
    have he := h.2.2.2.2.2.1
    rw [List.length_cons] at he
    refine m_over hG h.2.1 e he (by omega) (fun _ => ?_) (fun e => by omega)
    rw [← e]
    exact h0 (by omega) (fun k hk e1 => by omega) N (fun a b c => MFr.refl _) h.1
  have fr0 : ∀ a b c, MFr a b c N (mset N 56 16 (l.length : Int)) := fun a b c => (MFr.refl N).set (by unfold WMr; omega)
  have bo0 : LBo m N (mset N 56 16 (l.length : Int)) := fun q i _ _ h3 => by unfold mset; rw [if_neg (fun e => h3 e.1)]
  have v0 : ∀ q i, q ≠ 56 → mset N 56 16 (l.length : Int) q i = N q i := fun q i h3 => by unfold mset; rw [if_neg (fun e => h3 e.1)]
  obtain ⟨P1, -⟩ := h.pop hlt
  refine m_step hG h.2.1 hlt ?_
  refine m_takeH hG h.2.2.2.2.2.1 (by omega) h.2.2.2.2.2.2.1 ?_
  have et : tx p = chr tx ln p := by omega
  rw [et]
  generalize mset N 56 16 (l.length : Int) = N1 at *
  refine wp_iload_n d142_62 rfl ?_
  refine wz_sipush d142_63 (by decide) ?_
  refine wz_icmp_ne (t := 80) d142_66 (by decide) ⟨by omega, by omega⟩ ⟨by omega, by omega⟩ (fun _ => ?_) (fun hb => absurd hb (by decide))
  refine wp_iload_n d142_80 rfl ?_
  refine wz_sipush d142_81 (by decide) ?_
  refine wz_icmp_ne (t := 98) d142_84 (by decide) ⟨by omega, by omega⟩ ⟨by omega, by omega⟩ (fun _ => ?_) (fun hb => absurd hb (by decide))
  refine wp_iload_n d142_98 rfl ?_
  refine wz_sipush d142_99 (by decide) ?_
  refine wz_icmp_eq (t := 112) d142_102 (by decide) ⟨by omega, by omega⟩ ⟨by omega, by omega⟩ (fun hb => absurd hb (by decide)) (fun _ => ?_)
  refine wp_iload_n d142_105 rfl ?_
  refine wz_sipush d142_106 (by decide) ?_
  refine wz_icmp_ne (t := 164) d142_109 (by decide) ⟨by omega, by omega⟩ ⟨by omega, by omega⟩ (fun _ => ?_) (fun hb => absurd hb (by decide))
  refine wp_iload_n d142_164 rfl ?_
  refine wz_sipush d142_165 (by decide) ?_
  refine wz_icmp_eq (t := 178) d142_168 (by decide) ⟨by omega, by omega⟩ ⟨by omega, by omega⟩ (fun hb => absurd hb (by decide)) (fun _ => ?_)
  refine wp_iload_n d142_171 rfl ?_
  refine wz_sipush d142_172 (by decide) ?_
  refine wz_icmp_ne (t := 235) d142_175 (by decide) ⟨by omega, by omega⟩ ⟨by omega, by omega⟩ (fun _ => ?_) (fun hb => absurd hb (by decide))
  refine wp_iload_n d142_235 rfl ?_
  refine wz_iconst d142_236 ?_
  refine wz_irem d142_237 (by omega) (by omega) (by omega) (by omega) ?_
  refine wz_if_ne (t := 246) d142_238 (by decide) ⟨by omega, by omega⟩ (fun _ => ?_) (fun hb => absurd hb (by decide))
  refine wz_bipush d142_246 (by decide) ?_
  refine wp_istore d142_248 (Nat.le_of_ble_eq_true rfl) rfl ?_
  refine wp_iload_n d142_250 rfl ?_
  refine wz_sipush d142_251 (by decide) ?_
  refine wz_icmp_eq (t := 264) d142_254 (by decide) ⟨by omega, by omega⟩ ⟨by omega, by omega⟩ (fun hb => absurd hb (by decide)) (fun _ => ?_)
  refine wp_iload_n d142_257 rfl ?_
  refine wz_sipush d142_258 (by decide) ?_
  refine wz_icmp_ne (t := 290) d142_261 (by decide) ⟨by omega, by omega⟩ ⟨by omega, by omega⟩ (fun hb => absurd (by decide) hb) (fun _ => ?_)
  refine wp_iload_n d142_264 rfl ?_
  refine wp_iload d142_265 rfl ?_
  refine wz_icmp_eq (t := 284) d142_267 (by decide) ⟨by omega, by omega⟩ ⟨by omega, by omega⟩ (fun hcl => ?_) (fun hcl => ?_)
  · skip
    refine wz_iconst d142_284 ?_
    refine wp_goto (t := 289) d142_285 (by decide) ?_
    exact wp_ret d142_289 rfl (m_go1 (by omega) (hC hcl hlt N1 P1 fr0))
  refine wp_aload_n d142_270 rfl ?_
  refine wp_iload_n d142_271 rfl ?_
  refine wp_iload d142_272 rfl ?_
  refine wp_iload d142_274 rfl ?_
  refine wp_iload d142_276 rfl ?_
  refine wp_virt (as := [.int (zI (m : Int)), .int (zI s), .int (zI dp), .int (zI (chr tx ln p))]) (rest := []) d142_278 rfl rfl rfl (hG.o (by decide) rfl) rfl rfl (Nat.le_of_ble_eq_true rfl) ?_
  refine wc_deep (show d + 2 ≤ d + 3 by omega) ?_
  refine m_labelM (nd := nd) hG P1 hl hs hdp ⟨by omega, by omega⟩ hm ((v0 59 _ (by decide)).trans hop) ((v0 60 _ (by decide)).trans har) ha (fun k hk e1 e2 e3 N2 ms v lb fr => ?_) (fun hno => ?_)
  · skip
    refine wz_if_eq (t := 288) d142_281 (by decide) ⟨by omega, by omega⟩ (fun hb => absurd hb (by decide)) (fun _ => ?_)
    refine wz_iconst d142_284 ?_
    refine wp_goto (t := 289) d142_285 (by decide) ?_
    exact wp_ret d142_289 rfl (m_go1 (by omega) (h1 k hk e1 e2 e3 hlt N2 ms v (fun q i q1 q2 q3 => (lb q i q1 q2 q3).trans (bo0 q i q1 q2 q3)) ((fr0 m sc l.length).trans fr)))
  · skip
    refine wz_if_eq (t := 288) d142_281 (by decide) ⟨by omega, by omega⟩ (fun _ => ?_) (fun hb => absurd (by decide) hb)
    refine wz_iconst d142_288 ?_
    exact wp_ret d142_289 rfl (m_go0 (h0 hcl hno N1 fr0 P1.1))
set_option maxHeartbeats 1000000 in
theorem l_lab208 {dp s : Int} {m a : Nat} (hG : pm_G Rf K L n) (h : MS tx ln N p nd sc ((208, dp, s, (m : Int)) :: l)) (hl : l.length < 200) (hs : -1 ≤ s ∧ s < 128) (hdp : 0 ≤ dp ∧ dp ≤ 24) (hm : m < 128) (hop : N 59 (m : Int) = 4) (har : N 60 (m : Int) = (a : Int)) (ha : a < 8) (h1 : ∀ k : Nat, k < 3 → chr tx ln p = 120 + (k : Int) → dp < 24 → a < 2 ^ k → p < ln → ∀ N' : pm_M, MS tx ln N' (p + 1) nd sc ((200, dp + 1, s, (m : Int)) :: (206, dp, s, (m : Int)) :: l) → N' 60 (m : Int) = ((a + 2 ^ k : Nat) : Int) → LBo m N N' → MFr m sc l.length N N' → LH (d + 4) wt (p + 1) (zM N', Rf, K, L, n, s0) Q) (h0 : (∀ k : Nat, k < 3 → chr tx ln p = 120 + (k : Int) → dp < 24 → ¬ a < 2 ^ k) → ∀ N' : pm_M, (∀ a b c, MFr a b c N N') → (∀ p i, R32 (N' p i)) → Q (some (.int (zI (p : Int)))) (zM N', Rf, K, L, n, s0)) : LH (d + 4) wt p (zM N, Rf, K, L, n, s0) Q := by
  have hc := h.2.1.cha p
  have l60 := h.2.1.2.1
  have hpl := h.2.2.1
  by_cases hlt : p < ln
  rotate_left
  · have e : p = ln := by omega
    have he := h.2.2.2.2.2.1
    rw [List.length_cons] at he
    refine m_over hG h.2.1 e he (by omega) (fun _ => ?_) (fun e => by omega)
    rw [← e]
    exact h0 (fun k hk e1 => by omega) N (fun a b c => MFr.refl _) h.1
  have fr0 : ∀ a b c, MFr a b c N (mset N 56 16 (l.length : Int)) := fun a b c => (MFr.refl N).set (by unfold WMr; omega)
  have bo0 : LBo m N (mset N 56 16 (l.length : Int)) := fun q i _ _ h3 => by unfold mset; rw [if_neg (fun e => h3 e.1)]
  have v0 : ∀ q i, q ≠ 56 → mset N 56 16 (l.length : Int) q i = N q i := fun q i h3 => by unfold mset; rw [if_neg (fun e => h3 e.1)]
  obtain ⟨P1, -⟩ := h.pop hlt
  refine m_step hG h.2.1 hlt ?_
  refine m_takeH hG h.2.2.2.2.2.1 (by omega) h.2.2.2.2.2.2.1 ?_
  have et : tx p = chr tx ln p := by omega
  rw [et]
  generalize mset N 56 16 (l.length : Int) = N1 at *
  refine wp_iload_n d142_62 rfl ?_
  refine wz_sipush d142_63 (by decide) ?_
  refine wz_icmp_ne (t := 80) d142_66 (by decide) ⟨by omega, by omega⟩ ⟨by omega, by omega⟩ (fun _ => ?_) (fun hb => absurd hb (by decide))
  refine wp_iload_n d142_80 rfl ?_
  refine wz_sipush d142_81 (by decide) ?_
  refine wz_icmp_ne (t := 98) d142_84 (by decide) ⟨by omega, by omega⟩ ⟨by omega, by omega⟩ (fun _ => ?_) (fun hb => absurd hb (by decide))
  refine wp_iload_n d142_98 rfl ?_
  refine wz_sipush d142_99 (by decide) ?_
  refine wz_icmp_eq (t := 112) d142_102 (by decide) ⟨by omega, by omega⟩ ⟨by omega, by omega⟩ (fun hb => absurd hb (by decide)) (fun _ => ?_)
  refine wp_iload_n d142_105 rfl ?_
  refine wz_sipush d142_106 (by decide) ?_
  refine wz_icmp_ne (t := 164) d142_109 (by decide) ⟨by omega, by omega⟩ ⟨by omega, by omega⟩ (fun _ => ?_) (fun hb => absurd hb (by decide))
  refine wp_iload_n d142_164 rfl ?_
  refine wz_sipush d142_165 (by decide) ?_
  refine wz_icmp_eq (t := 178) d142_168 (by decide) ⟨by omega, by omega⟩ ⟨by omega, by omega⟩ (fun hb => absurd hb (by decide)) (fun _ => ?_)
  refine wp_iload_n d142_171 rfl ?_
  refine wz_sipush d142_172 (by decide) ?_
  refine wz_icmp_ne (t := 235) d142_175 (by decide) ⟨by omega, by omega⟩ ⟨by omega, by omega⟩ (fun _ => ?_) (fun hb => absurd hb (by decide))
  refine wp_iload_n d142_235 rfl ?_
  refine wz_iconst d142_236 ?_
  refine wz_irem d142_237 (by omega) (by omega) (by omega) (by omega) ?_
  refine wz_if_ne (t := 246) d142_238 (by decide) ⟨by omega, by omega⟩ (fun hb => absurd (by decide) hb) (fun _ => ?_)
  refine wz_bipush d142_241 (by decide) ?_
  refine wp_goto (t := 248) d142_243 (by decide) ?_
  refine wp_istore d142_248 (Nat.le_of_ble_eq_true rfl) rfl ?_
  refine wp_iload_n d142_250 rfl ?_
  refine wz_sipush d142_251 (by decide) ?_
  refine wz_icmp_eq (t := 264) d142_254 (by decide) ⟨by omega, by omega⟩ ⟨by omega, by omega⟩ (fun hb => absurd hb (by decide)) (fun _ => ?_)
  refine wp_iload_n d142_257 rfl ?_
  refine wz_sipush d142_258 (by decide) ?_
  refine wz_icmp_ne (t := 290) d142_261 (by decide) ⟨by omega, by omega⟩ ⟨by omega, by omega⟩ (fun _ => ?_) (fun hb => absurd hb (by decide))
  refine wp_iload_n d142_290 rfl ?_
  refine wz_sipush d142_291 (by decide) ?_
  refine wz_icmp_eq (t := 304) d142_294 (by decide) ⟨by omega, by omega⟩ ⟨by omega, by omega⟩ (fun _ => ?_) (fun hb => absurd (by decide) hb)
  refine wp_aload_n d142_304 rfl ?_
  refine wp_iload_n d142_305 rfl ?_
  refine wp_iload d142_306 rfl ?_
  refine wp_iload d142_308 rfl ?_
  refine wp_iload d142_310 rfl ?_
  refine wp_virt (as := [.int (zI (m : Int)), .int (zI s), .int (zI dp), .int (zI (chr tx ln p))]) (rest := []) d142_312 rfl rfl rfl (hG.o (by decide) rfl) rfl rfl (Nat.le_of_ble_eq_true rfl) ?_
  refine wc_deep (show d + 2 ≤ d + 3 by omega) ?_
  refine m_labelT (nd := nd) hG P1 hl hs hdp ⟨by omega, by omega⟩ hm ((v0 59 _ (by decide)).trans hop) ((v0 60 _ (by decide)).trans har) ha (fun k hk e1 e2 e3 N2 ms v lb fr => ?_) (fun hno => ?_)
  · skip
    exact wp_ret d142_315 rfl (m_go1 (by omega) (h1 k hk e1 e2 e3 hlt N2 ms v (fun q i q1 q2 q3 => (lb q i q1 q2 q3).trans (bo0 q i q1 q2 q3)) ((fr0 m sc l.length).trans fr)))
  · skip
    exact wp_ret d142_315 rfl (m_go0 (h0 hno N1 fr0 P1.1))
set_option maxHeartbeats 1000000 in
theorem l_lab209 {dp s : Int} {m a : Nat} (hG : pm_G Rf K L n) (h : MS tx ln N p nd sc ((209, dp, s, (m : Int)) :: l)) (hl : l.length < 200) (hs : -1 ≤ s ∧ s < 128) (hdp : 0 ≤ dp ∧ dp ≤ 24) (hm : m < 128) (hop : N 59 (m : Int) = 10) (har : N 60 (m : Int) = (a : Int)) (ha : a < 8) (h1 : ∀ k : Nat, k < 3 → chr tx ln p = 120 + (k : Int) → dp < 24 → a < 2 ^ k → p < ln → ∀ N' : pm_M, MS tx ln N' (p + 1) nd sc ((61, dp, s, (m : Int)) :: (201, dp + 1, s, (m : Int)) :: (207, dp, s, (m : Int)) :: l) → N' 60 (m : Int) = ((a + 2 ^ k : Nat) : Int) → LBo m N N' → MFr m sc l.length N N' → LH (d + 4) wt (p + 1) (zM N', Rf, K, L, n, s0) Q) (h0 : (∀ k : Nat, k < 3 → chr tx ln p = 120 + (k : Int) → dp < 24 → ¬ a < 2 ^ k) → ∀ N' : pm_M, (∀ a b c, MFr a b c N N') → (∀ p i, R32 (N' p i)) → Q (some (.int (zI (p : Int)))) (zM N', Rf, K, L, n, s0)) : LH (d + 4) wt p (zM N, Rf, K, L, n, s0) Q := by
  have hc := h.2.1.cha p
  have l60 := h.2.1.2.1
  have hpl := h.2.2.1
  by_cases hlt : p < ln
  rotate_left
  · have e : p = ln := by omega
    have he := h.2.2.2.2.2.1
    rw [List.length_cons] at he
    refine m_over hG h.2.1 e he (by omega) (fun _ => ?_) (fun e => by omega)
    rw [← e]
    exact h0 (fun k hk e1 => by omega) N (fun a b c => MFr.refl _) h.1
  have fr0 : ∀ a b c, MFr a b c N (mset N 56 16 (l.length : Int)) := fun a b c => (MFr.refl N).set (by unfold WMr; omega)
  have bo0 : LBo m N (mset N 56 16 (l.length : Int)) := fun q i _ _ h3 => by unfold mset; rw [if_neg (fun e => h3 e.1)]
  have v0 : ∀ q i, q ≠ 56 → mset N 56 16 (l.length : Int) q i = N q i := fun q i h3 => by unfold mset; rw [if_neg (fun e => h3 e.1)]
  obtain ⟨P1, -⟩ := h.pop hlt
  refine m_step hG h.2.1 hlt ?_
  refine m_takeH hG h.2.2.2.2.2.1 (by omega) h.2.2.2.2.2.2.1 ?_
  have et : tx p = chr tx ln p := by omega
  rw [et]
  generalize mset N 56 16 (l.length : Int) = N1 at *
  refine wp_iload_n d142_62 rfl ?_
  refine wz_sipush d142_63 (by decide) ?_
  refine wz_icmp_ne (t := 80) d142_66 (by decide) ⟨by omega, by omega⟩ ⟨by omega, by omega⟩ (fun _ => ?_) (fun hb => absurd hb (by decide))
  refine wp_iload_n d142_80 rfl ?_
  refine wz_sipush d142_81 (by decide) ?_
  refine wz_icmp_ne (t := 98) d142_84 (by decide) ⟨by omega, by omega⟩ ⟨by omega, by omega⟩ (fun _ => ?_) (fun hb => absurd hb (by decide))
  refine wp_iload_n d142_98 rfl ?_
  refine wz_sipush d142_99 (by decide) ?_
  refine wz_icmp_eq (t := 112) d142_102 (by decide) ⟨by omega, by omega⟩ ⟨by omega, by omega⟩ (fun hb => absurd hb (by decide)) (fun _ => ?_)
  refine wp_iload_n d142_105 rfl ?_
  refine wz_sipush d142_106 (by decide) ?_
  refine wz_icmp_ne (t := 164) d142_109 (by decide) ⟨by omega, by omega⟩ ⟨by omega, by omega⟩ (fun _ => ?_) (fun hb => absurd hb (by decide))
  refine wp_iload_n d142_164 rfl ?_
  refine wz_sipush d142_165 (by decide) ?_
  refine wz_icmp_eq (t := 178) d142_168 (by decide) ⟨by omega, by omega⟩ ⟨by omega, by omega⟩ (fun hb => absurd hb (by decide)) (fun _ => ?_)
  refine wp_iload_n d142_171 rfl ?_
  refine wz_sipush d142_172 (by decide) ?_
  refine wz_icmp_ne (t := 235) d142_175 (by decide) ⟨by omega, by omega⟩ ⟨by omega, by omega⟩ (fun _ => ?_) (fun hb => absurd hb (by decide))
  refine wp_iload_n d142_235 rfl ?_
  refine wz_iconst d142_236 ?_
  refine wz_irem d142_237 (by omega) (by omega) (by omega) (by omega) ?_
  refine wz_if_ne (t := 246) d142_238 (by decide) ⟨by omega, by omega⟩ (fun _ => ?_) (fun hb => absurd hb (by decide))
  refine wz_bipush d142_246 (by decide) ?_
  refine wp_istore d142_248 (Nat.le_of_ble_eq_true rfl) rfl ?_
  refine wp_iload_n d142_250 rfl ?_
  refine wz_sipush d142_251 (by decide) ?_
  refine wz_icmp_eq (t := 264) d142_254 (by decide) ⟨by omega, by omega⟩ ⟨by omega, by omega⟩ (fun hb => absurd hb (by decide)) (fun _ => ?_)
  refine wp_iload_n d142_257 rfl ?_
  refine wz_sipush d142_258 (by decide) ?_
  refine wz_icmp_ne (t := 290) d142_261 (by decide) ⟨by omega, by omega⟩ ⟨by omega, by omega⟩ (fun _ => ?_) (fun hb => absurd hb (by decide))
  refine wp_iload_n d142_290 rfl ?_
  refine wz_sipush d142_291 (by decide) ?_
  refine wz_icmp_eq (t := 304) d142_294 (by decide) ⟨by omega, by omega⟩ ⟨by omega, by omega⟩ (fun hb => absurd hb (by decide)) (fun _ => ?_)
  refine wp_iload_n d142_297 rfl ?_
  refine wz_sipush d142_298 (by decide) ?_
  refine wz_icmp_ne (t := 316) d142_301 (by decide) ⟨by omega, by omega⟩ ⟨by omega, by omega⟩ (fun hb => absurd (by decide) hb) (fun _ => ?_)
  refine wp_aload_n d142_304 rfl ?_
  refine wp_iload_n d142_305 rfl ?_
  refine wp_iload d142_306 rfl ?_
  refine wp_iload d142_308 rfl ?_
  refine wp_iload d142_310 rfl ?_
  refine wp_virt (as := [.int (zI (m : Int)), .int (zI s), .int (zI dp), .int (zI (chr tx ln p))]) (rest := []) d142_312 rfl rfl rfl (hG.o (by decide) rfl) rfl rfl (Nat.le_of_ble_eq_true rfl) ?_
  refine wc_deep (show d + 2 ≤ d + 3 by omega) ?_
  refine m_labelM (nd := nd) hG P1 hl hs hdp ⟨by omega, by omega⟩ hm ((v0 59 _ (by decide)).trans hop) ((v0 60 _ (by decide)).trans har) ha (fun k hk e1 e2 e3 N2 ms v lb fr => ?_) (fun hno => ?_)
  · skip
    exact wp_ret d142_315 rfl (m_go1 (by omega) (h1 k hk e1 e2 e3 hlt N2 ms v (fun q i q1 q2 q3 => (lb q i q1 q2 q3).trans (bo0 q i q1 q2 q3)) ((fr0 m sc l.length).trans fr)))
  · skip
    exact wp_ret d142_315 rfl (m_go0 (h0 hno N1 fr0 P1.1))
set_option maxHeartbeats 1000000 in
theorem l_sep206 {dp s : Int} {m a : Nat} (hG : pm_G Rf K L n) (h : MS tx ln N p nd sc ((206, dp, s, (m : Int)) :: l)) (hl : l.length < 200) (hs : -1 ≤ s ∧ s < 128) (hdp : 0 ≤ dp ∧ dp ≤ 24) (hm : m < 128) (har : N 60 (m : Int) = (a : Int)) (ha : a < 8) (hC : chr tx ln p = 93 → p < ln → ∀ N' : pm_M, MS tx ln N' (p + 1) nd sc l → (∀ a b c, MFr a b c N N') → LH (d + 4) wt (p + 1) (zM N', Rf, K, L, n, s0) Q) (hK : chr tx ln p = 44 → a < 4 → p < ln → ∀ N' : pm_M, MS tx ln N' (p + 1) nd sc ((208, dp, s, (m : Int)) :: l) → (∀ a b, MFr a b l.length N N') → LH (d + 4) wt (p + 1) (zM N', Rf, K, L, n, s0) Q) (h0 : chr tx ln p ≠ 93 → chr tx ln p ≠ 44 ∨ ¬ a < 4 → ∀ N' : pm_M, (∀ a b c, MFr a b c N N') → (∀ p i, R32 (N' p i)) → Q (some (.int (zI (p : Int)))) (zM N', Rf, K, L, n, s0)) : LH (d + 4) wt p (zM N, Rf, K, L, n, s0) Q := by
  have hc := h.2.1.cha p
  have l60 := h.2.1.2.1
  have hpl := h.2.2.1
  by_cases hlt : p < ln
  rotate_left
  · have e : p = ln := by omega
    have he := h.2.2.2.2.2.1
    rw [List.length_cons] at he
    refine m_over hG h.2.1 e he (by omega) (fun _ => ?_) (fun e => by omega)
    rw [← e]
    exact h0 (by omega) (by omega) N (fun a b c => MFr.refl _) h.1
  have fr0 : ∀ a b c, MFr a b c N (mset N 56 16 (l.length : Int)) := fun a b c => (MFr.refl N).set (by unfold WMr; omega)
  have bo0 : LBo m N (mset N 56 16 (l.length : Int)) := fun q i _ _ h3 => by unfold mset; rw [if_neg (fun e => h3 e.1)]
  have v0 : ∀ q i, q ≠ 56 → mset N 56 16 (l.length : Int) q i = N q i := fun q i h3 => by unfold mset; rw [if_neg (fun e => h3 e.1)]
  obtain ⟨P1, -⟩ := h.pop hlt
  refine m_step hG h.2.1 hlt ?_
  refine m_takeH hG h.2.2.2.2.2.1 (by omega) h.2.2.2.2.2.2.1 ?_
  have et : tx p = chr tx ln p := by omega
  rw [et]
  generalize mset N 56 16 (l.length : Int) = N1 at *
  have ar1 := (v0 60 (m : Int) (by decide)).trans har
  refine wp_iload_n d142_62 rfl ?_
  refine wz_sipush d142_63 (by decide) ?_
  refine wz_icmp_ne (t := 80) d142_66 (by decide) ⟨by omega, by omega⟩ ⟨by omega, by omega⟩ (fun _ => ?_) (fun hb => absurd hb (by decide))
  refine wp_iload_n d142_80 rfl ?_
  refine wz_sipush d142_81 (by decide) ?_
  refine wz_icmp_ne (t := 98) d142_84 (by decide) ⟨by omega, by omega⟩ ⟨by omega, by omega⟩ (fun _ => ?_) (fun hb => absurd hb (by decide))
  refine wp_iload_n d142_98 rfl ?_
  refine wz_sipush d142_99 (by decide) ?_
  refine wz_icmp_eq (t := 112) d142_102 (by decide) ⟨by omega, by omega⟩ ⟨by omega, by omega⟩ (fun hb => absurd hb (by decide)) (fun _ => ?_)
  refine wp_iload_n d142_105 rfl ?_
  refine wz_sipush d142_106 (by decide) ?_
  refine wz_icmp_ne (t := 164) d142_109 (by decide) ⟨by omega, by omega⟩ ⟨by omega, by omega⟩ (fun _ => ?_) (fun hb => absurd hb (by decide))
  refine wp_iload_n d142_164 rfl ?_
  refine wz_sipush d142_165 (by decide) ?_
  refine wz_icmp_eq (t := 178) d142_168 (by decide) ⟨by omega, by omega⟩ ⟨by omega, by omega⟩ (fun hb => absurd hb (by decide)) (fun _ => ?_)
  refine wp_iload_n d142_171 rfl ?_
  refine wz_sipush d142_172 (by decide) ?_
  refine wz_icmp_ne (t := 235) d142_175 (by decide) ⟨by omega, by omega⟩ ⟨by omega, by omega⟩ (fun _ => ?_) (fun hb => absurd hb (by decide))
  refine wp_iload_n d142_235 rfl ?_
  refine wz_iconst d142_236 ?_
  refine wz_irem d142_237 (by omega) (by omega) (by omega) (by omega) ?_
  refine wz_if_ne (t := 246) d142_238 (by decide) ⟨by omega, by omega⟩ (fun hb => absurd (by decide) hb) (fun _ => ?_)
  refine wz_bipush d142_241 (by decide) ?_
  refine wp_goto (t := 248) d142_243 (by decide) ?_
  refine wp_istore d142_248 (Nat.le_of_ble_eq_true rfl) rfl ?_
  refine wp_iload_n d142_250 rfl ?_
  refine wz_sipush d142_251 (by decide) ?_
  refine wz_icmp_eq (t := 264) d142_254 (by decide) ⟨by omega, by omega⟩ ⟨by omega, by omega⟩ (fun hb => absurd hb (by decide)) (fun _ => ?_)
  refine wp_iload_n d142_257 rfl ?_
  refine wz_sipush d142_258 (by decide) ?_
  refine wz_icmp_ne (t := 290) d142_261 (by decide) ⟨by omega, by omega⟩ ⟨by omega, by omega⟩ (fun _ => ?_) (fun hb => absurd hb (by decide))
  refine wp_iload_n d142_290 rfl ?_
  refine wz_sipush d142_291 (by decide) ?_
  refine wz_icmp_eq (t := 304) d142_294 (by decide) ⟨by omega, by omega⟩ ⟨by omega, by omega⟩ (fun hb => absurd hb (by decide)) (fun _ => ?_)
  refine wp_iload_n d142_297 rfl ?_
  refine wz_sipush d142_298 (by decide) ?_
  refine wz_icmp_ne (t := 316) d142_301 (by decide) ⟨by omega, by omega⟩ ⟨by omega, by omega⟩ (fun _ => ?_) (fun hb => absurd hb (by decide))
  refine wp_iload_n d142_316 rfl ?_
  refine wz_sipush d142_317 (by decide) ?_
  refine wz_icmp_eq (t := 330) d142_320 (by decide) ⟨by omega, by omega⟩ ⟨by omega, by omega⟩ (fun _ => ?_) (fun hb => absurd (by decide) hb)
  refine wp_iload_n d142_330 rfl ?_
  refine wz_bipush d142_331 (by decide) ?_
  refine wz_icmp_ne (t := 360) d142_333 (by decide) ⟨by omega, by omega⟩ ⟨by omega, by omega⟩ (fun c44 => ?_) (fun c44 => ?_)
  · skip
    refine wp_iload_n d142_360 rfl ?_
    refine wp_iload d142_361 rfl ?_
    refine wz_icmp_eq (t := 383) d142_363 (by decide) ⟨by omega, by omega⟩ ⟨by omega, by omega⟩ (fun hcl => ?_) (fun hcl => ?_)
    · skip
      refine wz_iconst d142_383 ?_
      refine wp_goto (t := 388) d142_384 (by decide) ?_
      exact wp_ret d142_388 rfl (m_go1 (by omega) (hC hcl hlt N1 P1 fr0))
    refine wp_iload_n d142_366 rfl ?_
    refine wz_bipush d142_367 (by decide) ?_
    refine wz_icmp_ne (t := 387) d142_369 (by decide) ⟨by omega, by omega⟩ ⟨by omega, by omega⟩ (fun _ => ?_) (fun hb => absurd hb (c44))
    refine wz_iconst d142_387 ?_
    exact wp_ret d142_388 rfl (m_go0 (h0 hcl (Or.inl c44) N1 fr0 P1.1))
  refine wp_aload_n d142_336 rfl ?_
  refine wp_getR (q := 60) d142_337 rfl (hG.o (by decide) rfl) (by decide) (hG.r (by decide +kernel)) (by decide) ?_
  refine wp_iload d142_340 rfl ?_
  refine wz_iald (z := 128) (v := (a : Int)) d142_342 (hG.a (by decide) rfl rfl) (by omega) (by omega) (by decide) (ar1) ?_
  refine wz_iconst d142_343 ?_
  refine wz_icmp_ge (t := 360) d142_344 (by decide) ⟨by omega, by omega⟩ ⟨by omega, by omega⟩ (fun a4 => ?_) (fun a4 => ?_)
  · skip
    refine wp_iload_n d142_360 rfl ?_
    refine wp_iload d142_361 rfl ?_
    refine wz_icmp_eq (t := 383) d142_363 (by decide) ⟨by omega, by omega⟩ ⟨by omega, by omega⟩ (fun hcl => ?_) (fun hcl => ?_)
    · skip
      refine wz_iconst d142_383 ?_
      refine wp_goto (t := 388) d142_384 (by decide) ?_
      exact wp_ret d142_388 rfl (m_go1 (by omega) (hC hcl hlt N1 P1 fr0))
    refine wp_iload_n d142_366 rfl ?_
    refine wz_bipush d142_367 (by decide) ?_
    refine wz_icmp_ne (t := 387) d142_369 (by decide) ⟨by omega, by omega⟩ ⟨by omega, by omega⟩ (fun hb => absurd (c44) hb) (fun _ => ?_)
    refine wp_aload_n d142_372 rfl ?_
    refine wp_getR (q := 60) d142_373 rfl (hG.o (by decide) rfl) (by decide) (hG.r (by decide +kernel)) (by decide) ?_
    refine wp_iload d142_376 rfl ?_
    refine wz_iald (z := 128) (v := (a : Int)) d142_378 (hG.a (by decide) rfl rfl) (by omega) (by omega) (by decide) (ar1) ?_
    refine wz_iconst d142_379 ?_
    refine wz_icmp_ge (t := 387) d142_380 (by decide) ⟨by omega, by omega⟩ ⟨by omega, by omega⟩ (fun _ => ?_) (fun hb => absurd (by omega) hb)
    refine wz_iconst d142_387 ?_
    exact wp_ret d142_388 rfl (m_go0 (h0 hcl (Or.inr (by omega)) N1 fr0 P1.1))
  · skip
    refine wp_aload_n d142_347 rfl ?_
    refine wp_iload_n d142_348 rfl ?_
    refine wz_iconst d142_349 ?_
    refine wz_iadd d142_350 ?_
    refine wp_iload d142_351 rfl ?_
    refine wp_iload d142_353 rfl ?_
    refine wp_iload d142_355 rfl ?_
    refine wp_virt (as := [.int (zI (m : Int)), .int (zI s), .int (zI dp), .int (zI 208)]) (rest := []) d142_357 rfl rfl rfl (hG.o (by decide) rfl) rfl rfl (Nat.le_of_ble_eq_true rfl) ?_
    refine m_expectE (nd := 0) (sc := 0) (l := l) hG P1.1 P1.2.2.2.2.2.1 (by omega) P1.2.2.2.2.2.2.1 ⟨by omega, by omega⟩ ⟨by omega, by omega⟩ ⟨by omega, by omega⟩ ⟨by omega, by omega⟩ (fun N2 f20 b5 b11 e2 x2 bo2 r2 => ?_)
    have f2 : ∀ a b, MFr a b l.length N1 N2 := by
      intro a b q i hw
      by_cases h56 : q = 56
      · exact f20 q i (fun x => hw (by unfold WMr at *; omega))
      · by_cases h68 : 68 ≤ q ∧ q ≤ 71
        · exact f20 q i (fun x => hw (by unfold WMr at *; omega))
        · exact bo2 q i h68 h56
    refine wp_iload_n d142_360 rfl ?_
    refine wp_iload d142_361 rfl ?_
    refine wz_icmp_eq (t := 383) d142_363 (by decide) ⟨by omega, by omega⟩ ⟨by omega, by omega⟩ (fun hcl => ?_) (fun hcl => ?_)
    · skip
      omega
    refine wp_iload_n d142_366 rfl ?_
    refine wz_bipush d142_367 (by decide) ?_
    refine wz_icmp_ne (t := 387) d142_369 (by decide) ⟨by omega, by omega⟩ ⟨by omega, by omega⟩ (fun hb => absurd (c44) hb) (fun _ => ?_)
    refine wp_aload_n d142_372 rfl ?_
    refine wp_getR (q := 60) d142_373 rfl (hG.o (by decide) rfl) (by decide) (hG.r (by decide +kernel)) (by decide) ?_
    refine wp_iload d142_376 rfl ?_
    refine wz_iald (z := 128) (v := (a : Int)) d142_378 (hG.a (by decide) rfl rfl) (by omega) (by omega) (by decide) ((bo2 60 _ (by decide) (by decide)).trans ar1) ?_
    refine wz_iconst d142_379 ?_
    refine wz_icmp_ge (t := 387) d142_380 (by decide) ⟨by omega, by omega⟩ ⟨by omega, by omega⟩ (fun hb => absurd hb (by omega)) (fun _ => ?_)
    refine wz_iconst d142_383 ?_
    refine wp_goto (t := 388) d142_384 (by decide) ?_
    exact wp_ret d142_388 rfl (m_go1 (by omega) (hK c44 (by omega) hlt N2 ⟨r2, MT.same (f2 0 0) P1.2.1, P1.2.2.1, b5.trans P1.2.2.2.1, b11.trans P1.2.2.2.2.1, e2, x2, P1.2.2.2.2.2.2.2⟩ (fun a b => (fr0 a b l.length).trans (f2 a b))))
set_option maxHeartbeats 1000000 in
theorem l_sep207 {dp s : Int} {m a : Nat} (hG : pm_G Rf K L n) (h : MS tx ln N p nd sc ((207, dp, s, (m : Int)) :: l)) (hl : l.length < 200) (hs : -1 ≤ s ∧ s < 128) (hdp : 0 ≤ dp ∧ dp ≤ 24) (hm : m < 128) (har : N 60 (m : Int) = (a : Int)) (ha : a < 8) (hC : chr tx ln p = 125 → p < ln → ∀ N' : pm_M, MS tx ln N' (p + 1) nd sc l → (∀ a b c, MFr a b c N N') → LH (d + 4) wt (p + 1) (zM N', Rf, K, L, n, s0) Q) (hK : chr tx ln p = 44 → a < 4 → p < ln → ∀ N' : pm_M, MS tx ln N' (p + 1) nd sc ((209, dp, s, (m : Int)) :: l) → (∀ a b, MFr a b l.length N N') → LH (d + 4) wt (p + 1) (zM N', Rf, K, L, n, s0) Q) (h0 : chr tx ln p ≠ 125 → chr tx ln p ≠ 44 ∨ ¬ a < 4 → ∀ N' : pm_M, (∀ a b c, MFr a b c N N') → (∀ p i, R32 (N' p i)) → Q (some (.int (zI (p : Int)))) (zM N', Rf, K, L, n, s0)) : LH (d + 4) wt p (zM N, Rf, K, L, n, s0) Q := by
  have hc := h.2.1.cha p
  have l60 := h.2.1.2.1
  have hpl := h.2.2.1
  by_cases hlt : p < ln
  rotate_left
  · have e : p = ln := by omega
    have he := h.2.2.2.2.2.1
    rw [List.length_cons] at he
    refine m_over hG h.2.1 e he (by omega) (fun _ => ?_) (fun e => by omega)
    rw [← e]
    exact h0 (by omega) (by omega) N (fun a b c => MFr.refl _) h.1
  have fr0 : ∀ a b c, MFr a b c N (mset N 56 16 (l.length : Int)) := fun a b c => (MFr.refl N).set (by unfold WMr; omega)
  have bo0 : LBo m N (mset N 56 16 (l.length : Int)) := fun q i _ _ h3 => by unfold mset; rw [if_neg (fun e => h3 e.1)]
  have v0 : ∀ q i, q ≠ 56 → mset N 56 16 (l.length : Int) q i = N q i := fun q i h3 => by unfold mset; rw [if_neg (fun e => h3 e.1)]
  obtain ⟨P1, -⟩ := h.pop hlt
  refine m_step hG h.2.1 hlt ?_
  refine m_takeH hG h.2.2.2.2.2.1 (by omega) h.2.2.2.2.2.2.1 ?_
  have et : tx p = chr tx ln p := by omega
  rw [et]
  generalize mset N 56 16 (l.length : Int) = N1 at *
  have ar1 := (v0 60 (m : Int) (by decide)).trans har
  refine wp_iload_n d142_62 rfl ?_
  refine wz_sipush d142_63 (by decide) ?_
  refine wz_icmp_ne (t := 80) d142_66 (by decide) ⟨by omega, by omega⟩ ⟨by omega, by omega⟩ (fun _ => ?_) (fun hb => absurd hb (by decide))
  refine wp_iload_n d142_80 rfl ?_
  refine wz_sipush d142_81 (by decide) ?_
  refine wz_icmp_ne (t := 98) d142_84 (by decide) ⟨by omega, by omega⟩ ⟨by omega, by omega⟩ (fun _ => ?_) (fun hb => absurd hb (by decide))
  refine wp_iload_n d142_98 rfl ?_
  refine wz_sipush d142_99 (by decide) ?_
  refine wz_icmp_eq (t := 112) d142_102 (by decide) ⟨by omega, by omega⟩ ⟨by omega, by omega⟩ (fun hb => absurd hb (by decide)) (fun _ => ?_)
  refine wp_iload_n d142_105 rfl ?_
  refine wz_sipush d142_106 (by decide) ?_
  refine wz_icmp_ne (t := 164) d142_109 (by decide) ⟨by omega, by omega⟩ ⟨by omega, by omega⟩ (fun _ => ?_) (fun hb => absurd hb (by decide))
  refine wp_iload_n d142_164 rfl ?_
  refine wz_sipush d142_165 (by decide) ?_
  refine wz_icmp_eq (t := 178) d142_168 (by decide) ⟨by omega, by omega⟩ ⟨by omega, by omega⟩ (fun hb => absurd hb (by decide)) (fun _ => ?_)
  refine wp_iload_n d142_171 rfl ?_
  refine wz_sipush d142_172 (by decide) ?_
  refine wz_icmp_ne (t := 235) d142_175 (by decide) ⟨by omega, by omega⟩ ⟨by omega, by omega⟩ (fun _ => ?_) (fun hb => absurd hb (by decide))
  refine wp_iload_n d142_235 rfl ?_
  refine wz_iconst d142_236 ?_
  refine wz_irem d142_237 (by omega) (by omega) (by omega) (by omega) ?_
  refine wz_if_ne (t := 246) d142_238 (by decide) ⟨by omega, by omega⟩ (fun _ => ?_) (fun hb => absurd hb (by decide))
  refine wz_bipush d142_246 (by decide) ?_
  refine wp_istore d142_248 (Nat.le_of_ble_eq_true rfl) rfl ?_
  refine wp_iload_n d142_250 rfl ?_
  refine wz_sipush d142_251 (by decide) ?_
  refine wz_icmp_eq (t := 264) d142_254 (by decide) ⟨by omega, by omega⟩ ⟨by omega, by omega⟩ (fun hb => absurd hb (by decide)) (fun _ => ?_)
  refine wp_iload_n d142_257 rfl ?_
  refine wz_sipush d142_258 (by decide) ?_
  refine wz_icmp_ne (t := 290) d142_261 (by decide) ⟨by omega, by omega⟩ ⟨by omega, by omega⟩ (fun _ => ?_) (fun hb => absurd hb (by decide))
  refine wp_iload_n d142_290 rfl ?_
  refine wz_sipush d142_291 (by decide) ?_
  refine wz_icmp_eq (t := 304) d142_294 (by decide) ⟨by omega, by omega⟩ ⟨by omega, by omega⟩ (fun hb => absurd hb (by decide)) (fun _ => ?_)
  refine wp_iload_n d142_297 rfl ?_
  refine wz_sipush d142_298 (by decide) ?_
  refine wz_icmp_ne (t := 316) d142_301 (by decide) ⟨by omega, by omega⟩ ⟨by omega, by omega⟩ (fun _ => ?_) (fun hb => absurd hb (by decide))
  refine wp_iload_n d142_316 rfl ?_
  refine wz_sipush d142_317 (by decide) ?_
  refine wz_icmp_eq (t := 330) d142_320 (by decide) ⟨by omega, by omega⟩ ⟨by omega, by omega⟩ (fun hb => absurd hb (by decide)) (fun _ => ?_)
  refine wp_iload_n d142_323 rfl ?_
  refine wz_sipush d142_324 (by decide) ?_
  refine wz_icmp_ne (t := 389) d142_327 (by decide) ⟨by omega, by omega⟩ ⟨by omega, by omega⟩ (fun hb => absurd (by decide) hb) (fun _ => ?_)
  refine wp_iload_n d142_330 rfl ?_
  refine wz_bipush d142_331 (by decide) ?_
  refine wz_icmp_ne (t := 360) d142_333 (by decide) ⟨by omega, by omega⟩ ⟨by omega, by omega⟩ (fun c44 => ?_) (fun c44 => ?_)
  · skip
    refine wp_iload_n d142_360 rfl ?_
    refine wp_iload d142_361 rfl ?_
    refine wz_icmp_eq (t := 383) d142_363 (by decide) ⟨by omega, by omega⟩ ⟨by omega, by omega⟩ (fun hcl => ?_) (fun hcl => ?_)
    · skip
      refine wz_iconst d142_383 ?_
      refine wp_goto (t := 388) d142_384 (by decide) ?_
      exact wp_ret d142_388 rfl (m_go1 (by omega) (hC hcl hlt N1 P1 fr0))
    refine wp_iload_n d142_366 rfl ?_
    refine wz_bipush d142_367 (by decide) ?_
    refine wz_icmp_ne (t := 387) d142_369 (by decide) ⟨by omega, by omega⟩ ⟨by omega, by omega⟩ (fun _ => ?_) (fun hb => absurd hb (c44))
    refine wz_iconst d142_387 ?_
    exact wp_ret d142_388 rfl (m_go0 (h0 hcl (Or.inl c44) N1 fr0 P1.1))
  refine wp_aload_n d142_336 rfl ?_
  refine wp_getR (q := 60) d142_337 rfl (hG.o (by decide) rfl) (by decide) (hG.r (by decide +kernel)) (by decide) ?_
  refine wp_iload d142_340 rfl ?_
  refine wz_iald (z := 128) (v := (a : Int)) d142_342 (hG.a (by decide) rfl rfl) (by omega) (by omega) (by decide) (ar1) ?_
  refine wz_iconst d142_343 ?_
  refine wz_icmp_ge (t := 360) d142_344 (by decide) ⟨by omega, by omega⟩ ⟨by omega, by omega⟩ (fun a4 => ?_) (fun a4 => ?_)
  · skip
    refine wp_iload_n d142_360 rfl ?_
    refine wp_iload d142_361 rfl ?_
    refine wz_icmp_eq (t := 383) d142_363 (by decide) ⟨by omega, by omega⟩ ⟨by omega, by omega⟩ (fun hcl => ?_) (fun hcl => ?_)
    · skip
      refine wz_iconst d142_383 ?_
      refine wp_goto (t := 388) d142_384 (by decide) ?_
      exact wp_ret d142_388 rfl (m_go1 (by omega) (hC hcl hlt N1 P1 fr0))
    refine wp_iload_n d142_366 rfl ?_
    refine wz_bipush d142_367 (by decide) ?_
    refine wz_icmp_ne (t := 387) d142_369 (by decide) ⟨by omega, by omega⟩ ⟨by omega, by omega⟩ (fun hb => absurd (c44) hb) (fun _ => ?_)
    refine wp_aload_n d142_372 rfl ?_
    refine wp_getR (q := 60) d142_373 rfl (hG.o (by decide) rfl) (by decide) (hG.r (by decide +kernel)) (by decide) ?_
    refine wp_iload d142_376 rfl ?_
    refine wz_iald (z := 128) (v := (a : Int)) d142_378 (hG.a (by decide) rfl rfl) (by omega) (by omega) (by decide) (ar1) ?_
    refine wz_iconst d142_379 ?_
    refine wz_icmp_ge (t := 387) d142_380 (by decide) ⟨by omega, by omega⟩ ⟨by omega, by omega⟩ (fun _ => ?_) (fun hb => absurd (by omega) hb)
    refine wz_iconst d142_387 ?_
    exact wp_ret d142_388 rfl (m_go0 (h0 hcl (Or.inr (by omega)) N1 fr0 P1.1))
  · skip
    refine wp_aload_n d142_347 rfl ?_
    refine wp_iload_n d142_348 rfl ?_
    refine wz_iconst d142_349 ?_
    refine wz_iadd d142_350 ?_
    refine wp_iload d142_351 rfl ?_
    refine wp_iload d142_353 rfl ?_
    refine wp_iload d142_355 rfl ?_
    refine wp_virt (as := [.int (zI (m : Int)), .int (zI s), .int (zI dp), .int (zI 209)]) (rest := []) d142_357 rfl rfl rfl (hG.o (by decide) rfl) rfl rfl (Nat.le_of_ble_eq_true rfl) ?_
    refine m_expectE (nd := 0) (sc := 0) (l := l) hG P1.1 P1.2.2.2.2.2.1 (by omega) P1.2.2.2.2.2.2.1 ⟨by omega, by omega⟩ ⟨by omega, by omega⟩ ⟨by omega, by omega⟩ ⟨by omega, by omega⟩ (fun N2 f20 b5 b11 e2 x2 bo2 r2 => ?_)
    have f2 : ∀ a b, MFr a b l.length N1 N2 := by
      intro a b q i hw
      by_cases h56 : q = 56
      · exact f20 q i (fun x => hw (by unfold WMr at *; omega))
      · by_cases h68 : 68 ≤ q ∧ q ≤ 71
        · exact f20 q i (fun x => hw (by unfold WMr at *; omega))
        · exact bo2 q i h68 h56
    refine wp_iload_n d142_360 rfl ?_
    refine wp_iload d142_361 rfl ?_
    refine wz_icmp_eq (t := 383) d142_363 (by decide) ⟨by omega, by omega⟩ ⟨by omega, by omega⟩ (fun hcl => ?_) (fun hcl => ?_)
    · skip
      omega
    refine wp_iload_n d142_366 rfl ?_
    refine wz_bipush d142_367 (by decide) ?_
    refine wz_icmp_ne (t := 387) d142_369 (by decide) ⟨by omega, by omega⟩ ⟨by omega, by omega⟩ (fun hb => absurd (c44) hb) (fun _ => ?_)
    refine wp_aload_n d142_372 rfl ?_
    refine wp_getR (q := 60) d142_373 rfl (hG.o (by decide) rfl) (by decide) (hG.r (by decide +kernel)) (by decide) ?_
    refine wp_iload d142_376 rfl ?_
    refine wz_iald (z := 128) (v := (a : Int)) d142_378 (hG.a (by decide) rfl rfl) (by omega) (by omega) (by decide) ((bo2 60 _ (by decide) (by decide)).trans ar1) ?_
    refine wz_iconst d142_379 ?_
    refine wz_icmp_ge (t := 387) d142_380 (by decide) ⟨by omega, by omega⟩ ⟨by omega, by omega⟩ (fun hb => absurd hb (by omega)) (fun _ => ?_)
    refine wz_iconst d142_383 ?_
    refine wp_goto (t := 388) d142_384 (by decide) ?_
    exact wp_ret d142_388 rfl (m_go1 (by omega) (hK c44 (by omega) hlt N2 ⟨r2, MT.same (f2 0 0) P1.2.1, P1.2.2.1, b5.trans P1.2.2.2.1, b11.trans P1.2.2.2.2.1, e2, x2, P1.2.2.2.2.2.2.2⟩ (fun a b => (fr0 a b l.length).trans (f2 a b))))
end PmM32
