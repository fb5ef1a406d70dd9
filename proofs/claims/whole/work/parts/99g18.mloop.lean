/-! THE MODEL: the loop of a run. -/
section PmG18
variable {d : Nat} {Q : Option Value → pm_S → Prop} {N : pm_M} {Rf : Nat → Nat → Nat} {K L : Nat → Nat} {n s0 : Nat} {a b st : Nat} {v : Ty} {k : List Fr} {mb : Int}
theorem m_backV (hG : pm_G Rf K L n) (cr : CR N a b st (.inr (v, []))) (h : Q (some (.int (zI 0))) (zM (mset N 56 44 1), Rf, K, L, n, s0)) : pm_Wc (d + 4) 205 [.ref 56, .int (zI mb)] (zM N, Rf, K, L, n, s0) Q := by
  obtain ⟨vs, es, fr, H, c0, hh, cb, fs, hc⟩ := cr
  have fs : fr = 0 := fs
  have e59 : N 56 59 = 0 := by rw [c0.2.2, fs]; rfl
  refine wc_in (ls0 := [some (.ref 56), some (.int (zI mb)), none, none, none, none]) (by decide) (Nat.le_of_ble_eq_true rfl) rfl rfl ?_
  refine wp_aload_n d205_0 rfl ?_
  refine wz_getI (v := 0) d205_1 rfl (hG.o (by decide) rfl) (by decide) (e59) ?_
  refine wz_iconst d205_4 ?_
  refine wz_isub d205_5 ?_
  refine wp_istore_n d205_6 (Nat.le_of_ble_eq_true rfl) rfl ?_
  refine wp_iload_n d205_7 rfl ?_
  refine wz_if_ge (t := 18) d205_8 (by decide) ⟨by omega, by omega⟩ (fun hb => absurd hb (by omega)) (fun _ => ?_)
  refine wp_aload_n d205_11 rfl ?_
  refine wz_iconst d205_12 ?_
  refine wz_putI (i := 44) d205_13 rfl (hG.o (by decide) rfl) (by decide) (by decide) rfl ?_
  refine wz_iconst d205_16 ?_
  exact wp_ret d205_17 rfl (h)
theorem m_back (hG : pm_G Rf K L n) (hM : ∀ p i, R32 (N p i)) (a6 : a ≤ 60) (b6 : b ≤ 60) (st6 : st ≤ 60) (mb1 : mb = 0 ∨ mb = 1) (cr : CR N a b st (.inr (v, k))) (hs : Sf 1 (.inr (v, k)))
    (hv0 : k = [] → Q (some (.int (zI 0))) (zM (mset N 56 44 1), Rf, K, L, n, s0))
    (h : ∀ c' N', mv (.inr (v, k)) = some (false, c') → (∀ p i, R32 (N' p i)) → MKr N N' → CR N' a b st c' → Q (some (.int (zI 1))) (zM N', Rf, K, L, n, s0))
    (h2 : ∀ c' N', mv (.inr (v, k)) = some (true, c') → mb = 1 → (∀ p i, R32 (N' p i)) → MKr N N' → CR N' a b (st + 1) c' → Q (some (.int (zI 2))) (zM N', Rf, K, L, n, s0))
    (h0 : ∀ c', mv (.inr (v, k)) = some (true, c') → mb = 0 → Q (some (.int (zI 0))) (zM N, Rf, K, L, n, s0)) : pm_Wc (d + 4) 205 [.ref 56, .int (zI mb)] (zM N, Rf, K, L, n, s0) Q := by
  cases k with
  | nil => exact m_backV hG cr (hv0 rfl)
  | cons f k =>
    obtain ⟨t, ρ, w, g⟩ := f
    obtain ⟨vs, es, fr, H, c0, hh, cb, fs, e49, hv⟩ := cr
    have fs0 := fs
    obtain ⟨q, eq, fm, -⟩ := fs0
    subst eq
    have br : BR N a b st vs es (q + 1) H ((t, ρ, w, g) :: k) (pdF (t, ρ, w, g) + pdK k) := ⟨c0, hh, cb, fs⟩
    have f2 : nKd t = 7 ∨ nKd t = 9 ∨ nKd t = 10 ∨ nKd t = 11 := fm.2.1
    have hne : mv (.inr (v, (t, ρ, w, g) :: k)) ≠ none := by
      intro e
      rcases hs with ⟨v', e'⟩ | ⟨b', c', e', -⟩
      · cases e'
      · rw [e] at e'; cases e'
    rcases f2 with c7 | c9 | c10 | c11
    · by_cases g0 : g = 0
      · exact m_back7a hG hM a6 b6 st6 mb1 br e49 hv c7 g0 h
      · have hi : isC w 6 = true := by
          by_cases q : isC w 6 = true
          · exact q
          · rw [mvR_7c c7 g0, if_neg q] at hne; exact absurd rfl hne
        exact m_back7b hG hM a6 b6 st6 mb1 br e49 hv c7 g0 hi h2 h0
    · have hi : isC v 8 = true := by
        by_cases q : isC v 8 = true
        · exact q
        · rw [mvR_9c c9, if_neg q] at hne; exact absurd rfl hne
      exact m_back9 hG hM a6 b6 st6 mb1 br e49 hv c9 hi h2 h0
    · exact m_back10 hG hM a6 b6 st6 mb1 br e49 hv c10 h
    · have hi : isR v (nMk t) = true := by
        by_cases q : isR v (nMk t) = true
        · exact q
        · rw [mvR_11c c11, if_neg q] at hne; exact absurd rfl hne
      exact m_back11 hG hM a6 b6 st6 mb1 br e49 hv c11 hi h2 h0
/-- where a run stops, with so many steps allowed -/
def Rest (m nn : Nat) (c : Cf) : Prop := (∃ v, c = .inr (v, [])) ∨ (nn = m ∧ ∃ c', mv c = some (true, c'))
def MKq (N N' : pm_M) : Prop := ∀ (p : Nat) (i : Int), ¬ (p = 56 ∧ (i = 44 ∨ (46 ≤ i ∧ i ≤ 50) ∨ i = 54 ∨ i = 59)) → ¬ (87 ≤ p ∧ p ≤ 97) → N' p i = N p i
theorem MKr.tr {N1 N2 : pm_M} (h : MKr N N1) (h' : MKr N1 N2) : MKr N N2 := fun p i h1 h2 => (h' p i h1 h2).trans (h p i h1 h2)
theorem CR.v44 {c : Cf} (h : CR N a b st c) : CR (mset N 56 44 1) a b st c := by
  obtain ⟨vs, es, fr, H, c0, hh, cb, fs, hc⟩ := h
  have br : BR N a b st vs es fr H (cfK c) (pdC c) := ⟨c0, hh, cb, fs⟩
  have b2 := br.same (N' := mset N 56 44 1) (st' := st) (pc' := pdC c) (fun p i hp => mset_i' (by omega)) (by omega) (Nat.le_refl _)
  refine ⟨vs, es, fr, H, b2.1, b2.2.1, b2.2.2.1, b2.2.2.2, ?_⟩
  cases c with
  | inl x =>
    obtain ⟨t, ρ, k⟩ := x
    obtain ⟨e49, j, s, ch, e46, nv, ea⟩ := hc
    exact ⟨by rw [mset_i' (by omega)]; exact e49, j, s, ch, by rw [mset_i' (by omega)]; exact e46, nv.keep (fun p i p1 p2 => mset_i' (by omega)), by rw [mset_i' (by omega)]; exact ea.keep (fun p i p1 p2 => mset_i' (by omega)) (fun p i p1 p2 _ _ => mset_i' (by omega)) (fun _ _ x => x) (Nat.le_refl _)⟩
  | inr x =>
    obtain ⟨v, k⟩ := x
    obtain ⟨e49, hv⟩ := hc
    exact ⟨by rw [mset_i' (by omega)]; exact e49, by rw [mset_i' (by omega)]; exact hv⟩
theorem m_run {m : Nat} {c : Cf} (hG : pm_G Rf K L n) (hM : ∀ p i, R32 (N p i)) (a6 : a ≤ 60) (b6 : b ≤ 60) (sm : st + m ≤ 60) (cr : CR N a b st c) (hs : ∀ q, Sf q c)
    (h : ∀ (q nn : Nat) (c' : Cf) (N' : pm_M), itr q c = some (nn, c') → nn ≤ m → (∀ p i, R32 (N' p i)) → MKq N N' → CR N' a b (st + nn) c' → Rest m nn c' → ((∃ v, c' = .inr (v, [])) → N' 56 44 = 1) → ((¬ ∃ v, c' = .inr (v, [])) → N' 56 44 = N 56 44) → Q (some (.int (zI (nn : Int)))) (zM N', Rf, K, L, n, s0)) : pm_Wc (d + 5) 206 [.ref 56, .int (zI (m : Int))] (zM N, Rf, K, L, n, s0) Q := by
  have stop : ∀ (q nn : Nat) (c1 : Cf) (N1 : pm_M), itr q c = some (nn, c1) → nn ≤ m → (∀ p i, R32 (N1 p i)) → MKr N N1 → CR N1 a b (st + nn) c1 → ((∃ v, c1 = .inr (v, [])) → False) → (nn = m ∧ ∃ c', mv c1 = some (true, c')) → Q (some (.int (zI (nn : Int)))) (zM N1, Rf, K, L, n, s0) := by
    intro q nn c1 N1 i1 n1 m1 k1 r1 nv e1
    exact h q nn c1 N1 i1 n1 m1 (fun p i h1 h2 => k1 p i (fun e => h1 (by omega)) h2) r1 (Or.inr e1) (fun e => (nv e).elim) (fun _ => k1 56 44 (by omega) (by omega))
  have loop : ∀ (f q nn : Nat) (c1 : Cf) (N1 : pm_M) (gg : Int), itr q c = some (nn, c1) → nn ≤ m → mvC c1 + 300 * (m - nn) < f → (∀ p i, R32 (N1 p i)) → MKr N N1 → CR N1 a b (st + nn) c1 → (gg = 1 ∨ gg = 2) → pm_Wp none (d + 4) 206 4 [some (.ref 56), some (.int (zI (m : Int))), some (.int (zI (nn : Int))), some (.int (zI gg))] [] (zM N1, Rf, K, L, n, s0) Q := by
    intro f
    induction f with
    | zero => intro q nn c1 N1 gg _ _ hf; omega
    | succ f ih =>
      intro q nn c1 N1 gg i1 n1 hf m1 k1 r1 hgg
      have hs1 := Sf_itr i1 hs
      have go1 : ∀ c2 N2, mv c1 = some (false, c2) → (∀ p i, R32 (N2 p i)) → MKr N1 N2 → CR N2 a b (st + nn) c2 → pm_Wp none (d + 4) 206 4 [some (.ref 56), some (.int (zI (m : Int))), some (.int (zI (nn : Int))), some (.int (zI 1))] [] (zM N2, Rf, K, L, n, s0) Q := fun c2 N2 e m2 k2 r2 => ih (q + 1) nn c2 N2 1 (by have := itr_snoc i1 e; simpa using this) n1 (by have := mvC_lt r1 e; omega) m2 (k1.tr k2) r2 (Or.inl rfl)
      have go2 : ∀ c2 N2, mv c1 = some (true, c2) → nn < m → (∀ p i, R32 (N2 p i)) → MKr N1 N2 → CR N2 a b (st + nn + 1) c2 → pm_Wp none (d + 4) 206 4 [some (.ref 56), some (.int (zI (m : Int))), some (.int (zI ((nn : Int) + 1))), some (.int (zI 2))] [] (zM N2, Rf, K, L, n, s0) Q := fun c2 N2 e hl m2 k2 r2 => ih (q + 1) (nn + 1) c2 N2 2 (by have := itr_snoc i1 e; simpa using this) (by omega) (by have h1 := mv_step_k e; have h3 := mvC_le c2 (r2.small a6); omega) m2 (k1.tr k2) r2 (Or.inr rfl)
      obtain ⟨vs0, es0, fr0, H0, x0, x1, x2, x3, x4⟩ := id r1
      cases c1 with
      | inl x =>
        obtain ⟨t, ρ, k⟩ := x
        refine wp_iload_n d206_4 rfl ?_
        refine wz_if_le (t := 63) d206_5 (by decide) ⟨by omega, by omega⟩ (fun hb => absurd hb (by omega)) (fun _ => ?_)
        refine wp_aload_n d206_8 rfl ?_
        refine wz_getI (v := 0) d206_9 rfl (hG.o (by decide) rfl) (by decide) (x4.1) ?_
        refine wz_if_eq (t := 32) d206_12 (by decide) ⟨by omega, by omega⟩ (fun _ => ?_) (fun hb => absurd (by omega) hb)
        refine wp_aload_n d206_32 rfl ?_
        refine wp_iload_n d206_33 rfl ?_
        refine wp_iload_n d206_34 rfl ?_
        refine wz_icmp_ge (t := 42) d206_35 (by decide) ⟨by omega, by omega⟩ ⟨by omega, by omega⟩ (fun hl => ?_) (fun hl => ?_)
        · skip
          refine wz_iconst d206_42 ?_
          refine wp_virt (as := [.int (zI 0)]) (rest := []) d206_43 rfl rfl rfl (hG.o (by decide) rfl) rfl rfl (Nat.le_of_ble_eq_true rfl) ?_
          refine wc_deep (show d + 1 + 3 ≤ d + 4 by omega) ?_
          refine m_enter (d := d + 1) (mb := 0) hG m1 a6 b6 (by omega) (by omega) r1 (fun c2 N2 e m2 k2 r2 => ?_) (fun c2 N2 e hb m2 k2 r2 => ?_) (fun c2 e hb => ?_)
          · skip
            refine wp_istore_n d206_46 (Nat.le_of_ble_eq_true rfl) rfl ?_
            refine wp_iload_n d206_47 rfl ?_
            refine wz_iconst d206_48 ?_
            refine wz_icmp_ne (t := 58) d206_49 (by decide) ⟨by omega, by omega⟩ ⟨by omega, by omega⟩ (fun _ => ?_) (fun hb => absurd hb (by omega))
            refine wp_iload_n d206_58 rfl ?_
            refine wp_istore_n d206_59 (Nat.le_of_ble_eq_true rfl) rfl ?_
            refine wp_goto (t := 4) d206_60 (by decide) ?_
            exact go1 c2 N2 e m2 k2 r2
          · skip
            omega
          · skip
            refine wp_istore_n d206_46 (Nat.le_of_ble_eq_true rfl) rfl ?_
            refine wp_iload_n d206_47 rfl ?_
            refine wz_iconst d206_48 ?_
            refine wz_icmp_ne (t := 58) d206_49 (by decide) ⟨by omega, by omega⟩ ⟨by omega, by omega⟩ (fun _ => ?_) (fun hb => absurd hb (by omega))
            refine wp_iload_n d206_58 rfl ?_
            refine wp_istore_n d206_59 (Nat.le_of_ble_eq_true rfl) rfl ?_
            refine wp_goto (t := 4) d206_60 (by decide) ?_
            refine wp_iload_n d206_4 rfl ?_
            refine wz_if_le (t := 63) d206_5 (by decide) ⟨by omega, by omega⟩ (fun _ => ?_) (fun hb => absurd (by omega) hb)
            refine wp_iload_n d206_63 rfl ?_
            exact wp_ret d206_64 rfl (stop q nn _ N1 i1 n1 m1 k1 r1 (fun ⟨v', e'⟩ => by rw [e'] at e; cases e) ⟨by omega, c2, e⟩)
        · skip
          refine wz_iconst d206_38 ?_
          refine wp_goto (t := 43) d206_39 (by decide) ?_
          refine wp_virt (as := [.int (zI 1)]) (rest := []) d206_43 rfl rfl rfl (hG.o (by decide) rfl) rfl rfl (Nat.le_of_ble_eq_true rfl) ?_
          refine wc_deep (show d + 1 + 3 ≤ d + 4 by omega) ?_
          refine m_enter (d := d + 1) (mb := 1) hG m1 a6 b6 (by omega) (by omega) r1 (fun c2 N2 e m2 k2 r2 => ?_) (fun c2 N2 e hb m2 k2 r2 => ?_) (fun c2 e hb => ?_)
          · skip
            refine wp_istore_n d206_46 (Nat.le_of_ble_eq_true rfl) rfl ?_
            refine wp_iload_n d206_47 rfl ?_
            refine wz_iconst d206_48 ?_
            refine wz_icmp_ne (t := 58) d206_49 (by decide) ⟨by omega, by omega⟩ ⟨by omega, by omega⟩ (fun _ => ?_) (fun hb => absurd hb (by omega))
            refine wp_iload_n d206_58 rfl ?_
            refine wp_istore_n d206_59 (Nat.le_of_ble_eq_true rfl) rfl ?_
            refine wp_goto (t := 4) d206_60 (by decide) ?_
            exact go1 c2 N2 e m2 k2 r2
          · skip
            refine wp_istore_n d206_46 (Nat.le_of_ble_eq_true rfl) rfl ?_
            refine wp_iload_n d206_47 rfl ?_
            refine wz_iconst d206_48 ?_
            refine wz_icmp_ne (t := 58) d206_49 (by decide) ⟨by omega, by omega⟩ ⟨by omega, by omega⟩ (fun hb => absurd (by omega) hb) (fun _ => ?_)
            refine wp_iload_n d206_52 rfl ?_
            refine wz_iconst d206_53 ?_
            refine wz_iadd d206_54 ?_
            refine wp_goto (t := 59) d206_55 (by decide) ?_
            refine wp_istore_n d206_59 (Nat.le_of_ble_eq_true rfl) rfl ?_
            refine wp_goto (t := 4) d206_60 (by decide) ?_
            exact go2 c2 N2 e (by omega) m2 k2 r2
          · skip
            omega
      | inr x =>
        obtain ⟨v, k⟩ := x
        refine wp_iload_n d206_4 rfl ?_
        refine wz_if_le (t := 63) d206_5 (by decide) ⟨by omega, by omega⟩ (fun hb => absurd hb (by omega)) (fun _ => ?_)
        refine wp_aload_n d206_8 rfl ?_
        refine wz_getI (v := 1) d206_9 rfl (hG.o (by decide) rfl) (by decide) (x4.1) ?_
        refine wz_if_eq (t := 32) d206_12 (by decide) ⟨by omega, by omega⟩ (fun hb => absurd hb (by omega)) (fun _ => ?_)
        refine wp_aload_n d206_15 rfl ?_
        refine wp_iload_n d206_16 rfl ?_
        refine wp_iload_n d206_17 rfl ?_
        refine wz_icmp_ge (t := 25) d206_18 (by decide) ⟨by omega, by omega⟩ ⟨by omega, by omega⟩ (fun hl => ?_) (fun hl => ?_)
        · skip
          refine wz_iconst d206_25 ?_
          refine wp_virt (as := [.int (zI 0)]) (rest := []) d206_26 rfl rfl rfl (hG.o (by decide) rfl) rfl rfl (Nat.le_of_ble_eq_true rfl) ?_
          refine m_back (d := d) (mb := 0) hG m1 a6 b6 (by omega) (by omega) r1 (hs1 1) (fun ek => ?_) (fun c2 N2 e m2 k2 r2 => ?_) (fun c2 N2 e hb m2 k2 r2 => ?_) (fun c2 e hb => ?_)
          · skip
            refine wp_goto (t := 46) d206_29 (by decide) ?_
            refine wp_istore_n d206_46 (Nat.le_of_ble_eq_true rfl) rfl ?_
            refine wp_iload_n d206_47 rfl ?_
            refine wz_iconst d206_48 ?_
            refine wz_icmp_ne (t := 58) d206_49 (by decide) ⟨by omega, by omega⟩ ⟨by omega, by omega⟩ (fun _ => ?_) (fun hb => absurd hb (by omega))
            refine wp_iload_n d206_58 rfl ?_
            refine wp_istore_n d206_59 (Nat.le_of_ble_eq_true rfl) rfl ?_
            refine wp_goto (t := 4) d206_60 (by decide) ?_
            refine wp_iload_n d206_4 rfl ?_
            refine wz_if_le (t := 63) d206_5 (by decide) ⟨by omega, by omega⟩ (fun _ => ?_) (fun hb => absurd (by omega) hb)
            refine wp_iload_n d206_63 rfl ?_
            subst ek
            exact wp_ret d206_64 rfl (h q nn _ _ i1 n1 (mset_R32 m1 ⟨by omega, by omega⟩) (fun p i h1 h2 => (mset_i' (by omega)).trans (k1 p i (fun e => h1 (by omega)) h2)) r1.v44 (Or.inl ⟨v, rfl⟩) (fun _ => mset_s _ _ _ _) (fun e => absurd ⟨v, rfl⟩ e))
          · skip
            refine wp_goto (t := 46) d206_29 (by decide) ?_
            refine wp_istore_n d206_46 (Nat.le_of_ble_eq_true rfl) rfl ?_
            refine wp_iload_n d206_47 rfl ?_
            refine wz_iconst d206_48 ?_
            refine wz_icmp_ne (t := 58) d206_49 (by decide) ⟨by omega, by omega⟩ ⟨by omega, by omega⟩ (fun _ => ?_) (fun hb => absurd hb (by omega))
            refine wp_iload_n d206_58 rfl ?_
            refine wp_istore_n d206_59 (Nat.le_of_ble_eq_true rfl) rfl ?_
            refine wp_goto (t := 4) d206_60 (by decide) ?_
            exact go1 c2 N2 e m2 k2 r2
          · skip
            omega
          · skip
            refine wp_goto (t := 46) d206_29 (by decide) ?_
            refine wp_istore_n d206_46 (Nat.le_of_ble_eq_true rfl) rfl ?_
            refine wp_iload_n d206_47 rfl ?_
            refine wz_iconst d206_48 ?_
            refine wz_icmp_ne (t := 58) d206_49 (by decide) ⟨by omega, by omega⟩ ⟨by omega, by omega⟩ (fun _ => ?_) (fun hb => absurd hb (by omega))
            refine wp_iload_n d206_58 rfl ?_
            refine wp_istore_n d206_59 (Nat.le_of_ble_eq_true rfl) rfl ?_
            refine wp_goto (t := 4) d206_60 (by decide) ?_
            refine wp_iload_n d206_4 rfl ?_
            refine wz_if_le (t := 63) d206_5 (by decide) ⟨by omega, by omega⟩ (fun _ => ?_) (fun hb => absurd (by omega) hb)
            refine wp_iload_n d206_63 rfl ?_
            exact wp_ret d206_64 rfl (stop q nn _ N1 i1 n1 m1 k1 r1 (fun ⟨v', e'⟩ => by rw [e'] at e; cases e) ⟨by omega, c2, e⟩)
        · skip
          refine wz_iconst d206_21 ?_
          refine wp_goto (t := 26) d206_22 (by decide) ?_
          refine wp_virt (as := [.int (zI 1)]) (rest := []) d206_26 rfl rfl rfl (hG.o (by decide) rfl) rfl rfl (Nat.le_of_ble_eq_true rfl) ?_
          refine m_back (d := d) (mb := 1) hG m1 a6 b6 (by omega) (by omega) r1 (hs1 1) (fun ek => ?_) (fun c2 N2 e m2 k2 r2 => ?_) (fun c2 N2 e hb m2 k2 r2 => ?_) (fun c2 e hb => ?_)
          · skip
            refine wp_goto (t := 46) d206_29 (by decide) ?_
            refine wp_istore_n d206_46 (Nat.le_of_ble_eq_true rfl) rfl ?_
            refine wp_iload_n d206_47 rfl ?_
            refine wz_iconst d206_48 ?_
            refine wz_icmp_ne (t := 58) d206_49 (by decide) ⟨by omega, by omega⟩ ⟨by omega, by omega⟩ (fun _ => ?_) (fun hb => absurd hb (by omega))
            refine wp_iload_n d206_58 rfl ?_
            refine wp_istore_n d206_59 (Nat.le_of_ble_eq_true rfl) rfl ?_
            refine wp_goto (t := 4) d206_60 (by decide) ?_
            refine wp_iload_n d206_4 rfl ?_
            refine wz_if_le (t := 63) d206_5 (by decide) ⟨by omega, by omega⟩ (fun _ => ?_) (fun hb => absurd (by omega) hb)
            refine wp_iload_n d206_63 rfl ?_
            subst ek
            exact wp_ret d206_64 rfl (h q nn _ _ i1 n1 (mset_R32 m1 ⟨by omega, by omega⟩) (fun p i h1 h2 => (mset_i' (by omega)).trans (k1 p i (fun e => h1 (by omega)) h2)) r1.v44 (Or.inl ⟨v, rfl⟩) (fun _ => mset_s _ _ _ _) (fun e => absurd ⟨v, rfl⟩ e))
          · skip
            refine wp_goto (t := 46) d206_29 (by decide) ?_
            refine wp_istore_n d206_46 (Nat.le_of_ble_eq_true rfl) rfl ?_
            refine wp_iload_n d206_47 rfl ?_
            refine wz_iconst d206_48 ?_
            refine wz_icmp_ne (t := 58) d206_49 (by decide) ⟨by omega, by omega⟩ ⟨by omega, by omega⟩ (fun _ => ?_) (fun hb => absurd hb (by omega))
            refine wp_iload_n d206_58 rfl ?_
            refine wp_istore_n d206_59 (Nat.le_of_ble_eq_true rfl) rfl ?_
            refine wp_goto (t := 4) d206_60 (by decide) ?_
            exact go1 c2 N2 e m2 k2 r2
          · skip
            refine wp_goto (t := 46) d206_29 (by decide) ?_
            refine wp_istore_n d206_46 (Nat.le_of_ble_eq_true rfl) rfl ?_
            refine wp_iload_n d206_47 rfl ?_
            refine wz_iconst d206_48 ?_
            refine wz_icmp_ne (t := 58) d206_49 (by decide) ⟨by omega, by omega⟩ ⟨by omega, by omega⟩ (fun hb => absurd (by omega) hb) (fun _ => ?_)
            refine wp_iload_n d206_52 rfl ?_
            refine wz_iconst d206_53 ?_
            refine wz_iadd d206_54 ?_
            refine wp_goto (t := 59) d206_55 (by decide) ?_
            refine wp_istore_n d206_59 (Nat.le_of_ble_eq_true rfl) rfl ?_
            refine wp_goto (t := 4) d206_60 (by decide) ?_
            exact go2 c2 N2 e (by omega) m2 k2 r2
          · skip
            omega
  refine wc_in (ls0 := [some (.ref 56), some (.int (zI (m : Int))), none, none]) (by decide) (Nat.le_of_ble_eq_true rfl) rfl rfl ?_
  refine wz_iconst d206_0 ?_
  refine wp_istore_n d206_1 (Nat.le_of_ble_eq_true rfl) rfl ?_
  refine wz_iconst d206_2 ?_
  refine wp_istore_n d206_3 (Nat.le_of_ble_eq_true rfl) rfl ?_
  exact loop (mvC c + 300 * m + 1) 0 0 c N 1 rfl (by omega) (by omega) hM (MKr.refl N) cr (Or.inl rfl)
end PmG18
