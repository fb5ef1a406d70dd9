/-! THE MODEL: value, as one. -/
section PmG22
variable {d : Nat} {Q : Option Value → pm_S → Prop} {N : pm_M} {Rf : Nat → Nat → Nat} {K L : Nat → Nat} {n s0 : Nat} {a b : Nat} {T : Ty}
theorem m_value_no {r v : Int} (hG : pm_G Rf K L n) (h43 : N 56 43 = r) (h44 : N 56 44 = v) (hr : r = 0 ∨ r = 1) (hv : v = 0 ∨ v = 1) (hn : r = 0 ∨ v = 0) (h : Q (some (.int (zI (-1)))) (zM N, Rf, K, L, n, s0)) : pm_Wc (d + 1) 209 [.ref 56] (zM N, Rf, K, L, n, s0) Q := by
  refine wc_in (ls0 := [some (.ref 56), none, none, none, none]) (by decide) (Nat.le_of_ble_eq_true rfl) rfl rfl ?_
  refine wp_aload_n d209_0 rfl ?_
  refine wz_getI (v := r) d209_1 rfl (hG.o (by decide) rfl) (by decide) (h43) ?_
  refine wz_if_eq (t := 14) d209_4 (by decide) ⟨by omega, by omega⟩ (fun hb => ?_) (fun hb => ?_)
  · skip
    refine wz_iconst d209_14 ?_
    exact wp_ret d209_15 rfl (h)
  · skip
    refine wp_aload_n d209_7 rfl ?_
    refine wz_getI (v := v) d209_8 rfl (hG.o (by decide) rfl) (by decide) (h44) ?_
    refine wz_if_ne (t := 16) d209_11 (by decide) ⟨by omega, by omega⟩ (fun hc => ?_) (fun hc => ?_)
    · skip
      omega
    · skip
      refine wz_iconst d209_14 ?_
      exact wp_ret d209_15 rfl (h)
theorem m_value {st : Nat} {v : Ty} (hG : pm_G Rf K L n) (hM : ∀ p i, R32 (N p i)) (a6 : a ≤ 60) (rm : RunM N a b T st (.inr (v, []))) (h3 : 100 < (vtx v).length → ∀ N' : pm_M, (∀ p i, p ≠ 98 → p ≠ 99 → N' p i = N p i) → (∀ p i, R32 (N' p i)) → Q (some (.int (zI (-3)))) (zM N', Rf, K, L, n, s0)) (h1 : (vtx v).length ≤ 100 → ∀ N' : pm_M, (∀ p i, p ≠ 98 → p ≠ 99 → p ≠ 58 → ¬ (p = 56 ∧ i = 2) → N' p i = N p i) → (∀ p i, R32 (N' p i)) → MP N' (vtx v) → Q (some (.int (zI ((vtx v).length : Int)))) (zM N', Rf, K, L, n, s0)) : pm_Wc (d + 2) 209 [.ref 56] (zM N, Rf, K, L, n, s0) Q := by
  obtain ⟨h43, h45, s6, -, cr, hv⟩ := rm
  have h44 : N 56 44 = 1 := by
    rcases hv with ⟨-, e⟩ | ⟨⟨c', e⟩, -⟩
    · exact e
    · cases e
  obtain ⟨vs, es, fr, H, c0, hh, cb, fs, e49, hr⟩ := cr
  have v4 : vs ≤ 4000 := by have := cb.2.1; omega
  have hi := (hh _ _ hr).1
  have copy : ∀ (l : List Int), l.length ≤ 100 → ∀ (o3 o4 : Option Value) (N0 : pm_M), OR N0 l → (∀ p i, R32 (N0 p i)) → (∀ (N' : pm_M), (∀ p i, p ≠ 58 → ¬ (p = 56 ∧ i = 2) → N' p i = N0 p i) → (∀ p i, R32 (N' p i)) → MP N' l → Q (some (.int (zI (l.length : Int)))) (zM N', Rf, K, L, n, s0)) → pm_Wp none (d + 1) 209 143 [some (.ref 56), some (.int (zI 0)), some (.int (zI (l.length : Int))), o3, o4] [] (zM N0, Rf, K, L, n, s0) Q := by
    intro l hl o3 o4 N0 ho m0 hq
    have loop : ∀ (f i : Nat) (N1 : pm_M), l.length - i = f → i ≤ l.length → (∀ p j, p ≠ 58 → N1 p j = N0 p j) → (∀ p j, R32 (N1 p j)) → (∀ j : Nat, j < i → l[j]? = some (N1 58 j)) → pm_Wp none (d + 1) 209 145 [some (.ref 56), some (.int (zI 0)), some (.int (zI (l.length : Int))), some (.int (zI (i : Int))), o4] [] (zM N1, Rf, K, L, n, s0) Q := by
      intro f
      induction f with
      | zero =>
        intro i N1 hf hi k1 m1 hp
        have ei : i = l.length := by omega
        subst ei
        refine wp_iload_n d209_145 rfl ?_
        refine wp_iload_n d209_146 rfl ?_
        refine wz_icmp_ge (t := 168) d209_147 (by decide) ⟨by omega, by omega⟩ ⟨by omega, by omega⟩ (fun _ => ?_) (fun hb => absurd (by omega) hb)
        refine wp_aload_n d209_168 rfl ?_
        refine wp_iload_n d209_169 rfl ?_
        refine wz_putI (i := 2) d209_170 rfl (hG.o (by decide) rfl) rfl (by decide) rfl ?_
        refine wp_iload_n d209_173 rfl ?_
        exact wp_ret d209_174 rfl (hq _ (fun p j h1 h2 => (mset_i' h2).trans (k1 p j h1)) (mset_R32 m1 ⟨by omega, by omega⟩) ⟨mset_s _ _ _ _, fun j hj => by rw [mset_i' (by omega)]; exact hp j hj⟩)
      | succ f ih =>
        intro i N1 hf hi k1 m1 hp
        have hx := ho i (by omega)
        have e99 : N1 99 (i : Int) = N0 99 (i : Int) := k1 99 _ (by omega)
        refine wp_iload_n d209_145 rfl ?_
        refine wp_iload_n d209_146 rfl ?_
        refine wz_icmp_ge (t := 168) d209_147 (by decide) ⟨by omega, by omega⟩ ⟨by omega, by omega⟩ (fun hb => absurd hb (by omega)) (fun _ => ?_)
        refine wp_aload_n d209_150 rfl ?_
        refine wp_getR (q := 58) d209_151 rfl (hG.o (by decide) rfl) (by decide) (hG.r (by decide +kernel)) (by decide) ?_
        refine wp_iload_n d209_154 rfl ?_
        refine wp_aload_n d209_155 rfl ?_
        refine wp_getR (q := 99) d209_156 rfl (hG.o (by decide) rfl) (by decide) (hG.r (by decide +kernel)) (by decide) ?_
        refine wp_iload_n d209_159 rfl ?_
        refine wz_iald (z := 104) (v := N0 99 (i : Int)) d209_160 (hG.a (by decide) rfl rfl) (by omega) (by omega) (by decide) (e99) ?_
        refine wz_iast (z := 128) d209_161 (hG.a (by decide) rfl rfl) (by omega) (by omega) (by decide) ?_
        refine wz_iinc d209_162 rfl rfl ?_
        refine wp_goto (t := 145) d209_165 (by decide) ?_
        refine ih (i + 1) (mset N1 58 (i : Int) (N0 99 (i : Int))) (by omega) (by omega) (fun p j hp2 => (mset_i' (by omega)).trans (k1 p j hp2)) (mset_R32 m1 (m0 _ _)) (fun j hj => ?_)
        by_cases e : j = i
        · rw [e, mset_s]; exact hx
        · rw [mset_i' (by omega)]; exact hp j (by omega)
    refine wz_iconst d209_143 ?_
    refine wp_istore_n d209_144 (Nat.le_of_ble_eq_true rfl) rfl ?_
    exact loop l.length 0 N0 rfl (by omega) (fun _ _ _ => rfl) m0 (fun j hj => absurd hj (Nat.not_lt_zero j))
  refine wc_in (ls0 := [some (.ref 56), none, none, none, none]) (by decide) (Nat.le_of_ble_eq_true rfl) rfl rfl ?_
  refine wp_aload_n d209_0 rfl ?_
  refine wz_getI (v := 1) d209_1 rfl (hG.o (by decide) rfl) (by decide) (h43) ?_
  refine wz_if_eq (t := 14) d209_4 (by decide) ⟨by omega, by omega⟩ (fun hb => absurd hb (by omega)) (fun _ => ?_)
  refine wp_aload_n d209_7 rfl ?_
  refine wz_getI (v := 1) d209_8 rfl (hG.o (by decide) rfl) (by decide) (h44) ?_
  refine wz_if_ne (t := 16) d209_11 (by decide) ⟨by omega, by omega⟩ (fun _ => ?_) (fun hb => absurd hb (by omega))
  refine wz_iconst d209_16 ?_
  refine wp_istore_n d209_17 (Nat.le_of_ble_eq_true rfl) rfl ?_
  refine wp_aload_n d209_18 rfl ?_
  refine wp_getR (q := 98) d209_19 rfl (hG.o (by decide) rfl) (by decide) (hG.r (by decide +kernel)) (by decide) ?_
  refine wz_iconst d209_22 ?_
  refine wz_iconst d209_23 ?_
  refine wp_aload_n d209_24 rfl ?_
  refine wz_getI (v := N 56 48) d209_25 rfl (hG.o (by decide) rfl) (by decide) (rfl) ?_
  refine wz_isub d209_28 ?_
  refine wz_iast (z := 1600) d209_29 (hG.a (by decide) rfl rfl) (by omega) (by omega) (by decide) ?_
  refine wz_iconst d209_30 ?_
  refine wp_istore_n d209_31 (Nat.le_of_ble_eq_true rfl) rfl ?_
  have r48 := hM 56 48
  have hp : RpS (mset N 98 0 (-1 - N 56 48)) [-1 - N 56 48] 1 := ⟨0, rfl, mset_s _ _ _ _, rfl⟩
  have hh1 : HP (mset N 98 0 (-1 - N 56 48)) a b vs es H := hh.keep ⟨fun p i p1 p2 => mset_i' (by omega), fun p i p1 p2 _ _ => mset_i' (by omega), fun p i p1 p2 _ _ => mset_i' (by omega), fun i g _ _ => mset_i' (by omega)⟩ (Nat.le_refl _)
  refine value_loop (N := (mset N 98 0 (-1 - N 56 48))) (full := vtx v) hG hh1 v4 a6 (fun hl N' k' m' => h3 hl N' (fun p i h1 h2 => (k' p i h1 h2).trans (mset_i' (by omega))) m') (fun hl N' o3 o4 k' m' ho' => copy (vtx v) hl o3 o4 N' ho' m' (fun N'' k'' m'' mp => h1 hl N'' (fun p i h1 h2 h4 h5 => (k'' p i h4 h5).trans ((k' p i h1 h2).trans (mset_i' (by omega)))) m'' mp)) 102 [-1 - N 56 48] [] 1 _ none none hp (fun c hc => ?_) (fun i hi => absurd hi (Nat.not_lt_zero i)) (fun _ _ _ _ => rfl) (mset_R32 hM ⟨by omega, by omega⟩) ?_ (by show 1 ≤ 1 + 12 * 0; omega) (by show 0 ≤ 101; omega) (by show 102 - 0 ≤ 102; omega)
  · rw [List.mem_singleton] at hc
    right
    exact ⟨by omega, v, by rw [hc, show -1 - (-1 - N 56 48) = N 56 48 by omega]; exact hr⟩
  · rw [List.nil_append, List.flatMap_cons, List.flatMap_nil, List.append_nil]
    exact ctx_neg (by omega) (by rw [show -1 - (-1 - N 56 48) = N 56 48 by omega]; exact hr)
end PmG22
