/-! THE MODEL: types, the loop. -/
theorem drop_tree {N : pm_M} {a b : Nat} {l : List Int} {i : Nat} (hx : NXl 0 N a b 0 l true) (hp : prx 1 l = true) (hi : i < l.length) : ∃ (c : Int) (l1 : List Int), i + (c :: l1).length ≤ l.length ∧ NXl 0 N a b i (c :: l1) true ∧ prx 1 (c :: l1) = true ∧ prx (xar c) l1 = true := by
  obtain ⟨k, hk⟩ := prx_drop (j := i) hp (by omega)
  have e : l = l.take i ++ l.drop i := (List.take_append_drop i l).symm
  have lt : (l.take i).length = i := by rw [List.length_take]; omega
  have ld : (l.drop i).length = l.length - i := List.length_drop
  cases k with
  | zero =>
    cases q : l.drop i with
    | nil => rw [q] at ld; simp at ld; omega
    | cons c r => rw [q] at hk; cases hk
  | succ k =>
    rw [Nat.add_comm] at hk
    obtain ⟨l1, l2, e1, h1, h2⟩ := prx_cut hk
    cases l1 with
    | nil => cases h1
    | cons c l1 =>
      refine ⟨c, l1, ?_, ?_, h1, ?_⟩
      · rw [e1, List.length_append] at ld; omega
      · rw [e, e1] at hx
        have := hx.cut.2
        rw [lt, Nat.zero_add] at this
        exact this.cut.1
      · have h1 : prx (0 + xar c) l1 = true := h1
        rw [Nat.zero_add] at h1
        exact h1
section PmF16
variable {d : Nat} {Q : Option Value → pm_S → Prop} {N0 N : pm_M} {Rf : Nat → Nat → Nat} {K L : Nat → Nat} {n s0 : Nat} {a b : Nat} {T : Ty} {x : Int} {i : Nat} {o5 o6 o7 : Option Value}
theorem types_ty (hG : pm_G Rf K L n) (st : TSt N0 a b T x) (ti : TI N0 a T x N (i + 1)) (ia : i < a) (ih : ∀ (N1 : pm_M) (o5 o6 o7 : Option Value), TI N0 a T x N1 i → pm_Wp none (d + 10) 195 24 [some (.ref 56), some (.int (zI 132)), some (.int (zI x)), some (.int (zI (-1))), some (.int (zI ((i : Int) - 1))), o5, o6, o7] [] (zM N1, Rf, K, L, n, s0) Q) (h5 : N 59 (i : Int) < 5) : pm_Wp none (d + 10) 195 24 [some (.ref 56), some (.int (zI 132)), some (.int (zI x)), some (.int (zI (-1))), some (.int (zI (i : Int))), o5, o6, o7] [] (zM N, Rf, K, L, n, s0) Q := by
  obtain ⟨hN, aT, hab, hx, pr, nx0, px0⟩ := id st
  obtain ⟨hM, e22, e24, fr, hj⟩ := id ti
  have r59 := hM 59 (i : Int)
  have t01 : ∀ k : Nat, i < k → k < a → N 78 (k : Int) = 0 ∨ N 78 (k : Int) = 1 := fun k k1 k2 => (hj k (by omega) k2).1
  have nxN : NXl 0 N a b 0 (tfl T) true := nx0.kpg (fun q k q1 q2 _ _ => fr q k (by unfold WTy; omega)) (fun q k q1 q2 _ _ => fr q k (by unfold WTy; omega)) (by omega)
  obtain ⟨c, l1, hl, hx1, hp1, hp2⟩ := drop_tree nxN px0 (i := i) (by omega)
  obtain ⟨ks, hks⟩ := KD.ex _ (i + 1) l1 hp2
  have hx2 : NXl 0 N a b (i + 1) l1 true := by
    have := hx1.cut (l1 := [c]) (l2 := l1)
    exact this.2
  have nov : ∀ v, nAt 24 T [] [] i = some v → False := by
    intro v hat
    obtain ⟨f, t, Γ, Δ⟩ := v
    obtain ⟨q, f1⟩ := hN.at (by omega) hat
    rw [Nat.zero_add] at q
    obtain ⟨f', rfl⟩ : ∃ f', f = f' + 1 := ⟨f - 1, by omega⟩
    obtain ⟨s, ch, md, -⟩ := (ti.nd st q).md
    have := md.1.2.1
    have := q.tw.1.1.1
    omega
  rw [List.length_cons] at hl
  refine wp_iload d195_24 rfl ?_
  refine wz_if_lt (t := 181) d195_26 (by decide) ⟨by omega, by omega⟩ (fun hb => absurd hb (by omega)) (fun _ => ?_)
  refine wp_aload_n d195_29 rfl ?_
  refine wp_getR (q := 59) d195_30 rfl (hG.o (by decide) rfl) (by decide) (hG.r (by decide +kernel)) (by decide) ?_
  refine wp_iload d195_33 rfl ?_
  refine wz_iald (z := 128) (v := N 59 (i : Int)) d195_35 (hG.a (by decide) rfl rfl) (by omega) (by omega) (by decide) (rfl) ?_
  refine wz_iconst d195_36 ?_
  refine wz_icmp_lt (t := 44) d195_37 (by decide) r59 ⟨by omega, by omega⟩ (fun _ => ?_) (fun hb => absurd (by omega) hb)
  refine wz_iconst d195_44 ?_
  refine wp_istore d195_45 (Nat.le_of_ble_eq_true rfl) rfl ?_
  refine wp_aload_n d195_47 rfl ?_
  refine wp_iload d195_48 rfl ?_
  refine wp_virt (as := [.int (zI (i : Int))]) (rest := []) d195_50 rfl rfl rfl (hG.o (by decide) rfl) rfl rfl (Nat.le_of_ble_eq_true rfl) ?_
  refine wc_deep (show d + 8 + 2 ≤ d + 10 by omega) ?_
  refine m_behind (lo := 0) (nd := a) (sc := b) hG (by rw [List.length_cons]; omega) hx1 hp1 ?_
  rw [List.length_cons]
  refine wp_istore d195_53 (Nat.le_of_ble_eq_true rfl) rfl ?_
  refine wp_iload d195_55 rfl ?_
  refine wz_iconst d195_57 ?_
  refine wz_iadd d195_58 ?_
  refine wp_istore d195_59 (Nat.le_of_ble_eq_true rfl) rfl ?_
  rw [show (i : Int) + 1 = ((i + 1 : Nat) : Int) by omega]
  refine types_in (d := d + 8) (a := a) (b := b) (i := i) (e := i + (l1.length + 1)) hG hM hab.1 hab.2 ia (by omega) t01 ks (i + 1) l1 false (by omega) hks hx2 (by omega) ?_
  rw [Bool.false_and]
  refine wp_aload_n d195_112 rfl ?_
  refine wp_getR (q := 78) d195_113 rfl (hG.o (by decide) rfl) (by decide) (hG.r (by decide +kernel)) (by decide) ?_
  refine wp_iload d195_116 rfl ?_
  refine wp_iload d195_118 rfl ?_
  refine wz_if_eq (t := 136) d195_120 (by decide) ⟨by omega, by omega⟩ (fun _ => ?_) (fun hb => absurd (by decide) hb)
  refine wz_iconst d195_136 ?_
  refine wz_zast (z := 64) d195_137 (hG.a (by decide) rfl rfl) (by omega) (by omega) (by decide) (by omega) ?_
  refine types_end (v := false) (r := 0) hG (by omega) (mset_s _ _ _ _) (Or.inl rfl) ?_
  rw [if_neg (show ¬ (false = true ∧ (0 : Int) = 0) from fun e => by cases e.1)]
  exact ih _ _ _ _ (ti.next hN aT hM (RLf.refl _ x N) ia hab.1 hx.1 hx.2 (Or.inl rfl) (Or.inl rfl) (fun _ => rfl) (fun v hv => (nov v hv).elim))
theorem types_tm (hC : CmL d) (hG : pm_G Rf K L n) (st : TSt N0 a b T x) (ti : TI N0 a T x N (i + 1)) (ia : i < a) (ih : ∀ (N1 : pm_M) (o5 o6 o7 : Option Value), TI N0 a T x N1 i → pm_Wp none (d + 10) 195 24 [some (.ref 56), some (.int (zI 132)), some (.int (zI x)), some (.int (zI (-1))), some (.int (zI ((i : Int) - 1))), o5, o6, o7] [] (zM N1, Rf, K, L, n, s0) Q) (h5 : ¬ N 59 (i : Int) < 5) : pm_Wp none (d + 10) 195 24 [some (.ref 56), some (.int (zI 132)), some (.int (zI x)), some (.int (zI (-1))), some (.int (zI (i : Int))), o5, o6, o7] [] (zM N, Rf, K, L, n, s0) Q := by
  obtain ⟨hN, aT, hab, hx, pr, nx0, px0⟩ := id st
  obtain ⟨hM, e22, e24, fr, hj⟩ := id ti
  have r59 := hM 59 (i : Int)
  have t01 : ∀ k : Nat, i < k → k < a → N 78 (k : Int) = 0 ∨ N 78 (k : Int) = 1 := fun k k1 k2 => (hj k (by omega) k2).1
  have e59 : N0 59 (i : Int) = N 59 (i : Int) := (fr 59 (i : Int) (by unfold WTy; omega)).symm
  obtain ⟨f, t, Γ, Δ, hat⟩ := hN.ex (i := i) (by omega) (by rw [Nat.zero_add]; omega)
  obtain ⟨q0, f1⟩ := hN.at (by omega) hat
  rw [Nat.zero_add] at q0
  obtain ⟨F, rfl⟩ : ∃ F, f = F + 1 := ⟨f - 1, by omega⟩
  have nd := ti.nd st q0
  have nx := nd.nx
  have le := nd.le
  have tl1 := tfl_len nd.sp
  obtain ⟨ks, hks, hall, hsub⟩ := ti.kids nd
  have hx2 : NXl 0 N a b (i + 1) (tfl (nX t) ++ (tfl (nY t) ++ tfl (nZ t))) true := by
    have q := nx.1
    rw [tfl_is nd.sp] at q
    exact (q.cut (l1 := [tcode (nKd t) (nMk t)])).2
  have one : ∀ v, nAt 24 T [] [] i = some v → v = (F + 1, t, Γ, Δ) := by
    intro v hv
    rw [hat] at hv
    injection hv with hv
    exact hv.symm
  refine wp_iload d195_24 rfl ?_
  refine wz_if_lt (t := 181) d195_26 (by decide) ⟨by omega, by omega⟩ (fun hb => absurd hb (by omega)) (fun _ => ?_)
  refine wp_aload_n d195_29 rfl ?_
  refine wp_getR (q := 59) d195_30 rfl (hG.o (by decide) rfl) (by decide) (hG.r (by decide +kernel)) (by decide) ?_
  refine wp_iload d195_33 rfl ?_
  refine wz_iald (z := 128) (v := N 59 (i : Int)) d195_35 (hG.a (by decide) rfl rfl) (by omega) (by omega) (by decide) (rfl) ?_
  refine wz_iconst d195_36 ?_
  refine wz_icmp_lt (t := 44) d195_37 (by decide) r59 ⟨by omega, by omega⟩ (fun hb => absurd hb (by omega)) (fun _ => ?_)
  refine wz_iconst d195_40 ?_
  refine wp_goto (t := 45) d195_41 (by decide) ?_
  refine wp_istore d195_45 (Nat.le_of_ble_eq_true rfl) rfl ?_
  refine wp_aload_n d195_47 rfl ?_
  refine wp_iload d195_48 rfl ?_
  refine wp_virt (as := [.int (zI (i : Int))]) (rest := []) d195_50 rfl rfl rfl (hG.o (by decide) rfl) rfl rfl (Nat.le_of_ble_eq_true rfl) ?_
  refine wc_deep (show d + 8 + 2 ≤ d + 10 by omega) ?_
  refine m_behind (lo := 0) (nd := a) (sc := b) hG (by omega) nx.1 nx.2 ?_
  refine wp_istore d195_53 (Nat.le_of_ble_eq_true rfl) rfl ?_
  refine wp_iload d195_55 rfl ?_
  refine wz_iconst d195_57 ?_
  refine wz_iadd d195_58 ?_
  refine wp_istore d195_59 (Nat.le_of_ble_eq_true rfl) rfl ?_
  rw [show (i : Int) + 1 = ((i + 1 : Nat) : Int) by omega]
  refine types_in (d := d + 8) (a := a) (b := b) (i := i) (e := i + (tfl t).length) hG hM hab.1 hab.2 ia le t01 ks (i + 1) _ true (by omega) hks hx2 (by rw [List.length_append, List.length_append]; omega) ?_
  rw [Bool.true_and]
  by_cases hk : ktd F t Γ Δ
  · skip
    rw [hall.mpr hk]
    refine wp_aload_n d195_112 rfl ?_
    refine wp_getR (q := 78) d195_113 rfl (hG.o (by decide) rfl) (by decide) (hG.r (by decide +kernel)) (by decide) ?_
    refine wp_iload d195_116 rfl ?_
    refine wp_iload d195_118 rfl ?_
    refine wz_if_eq (t := 136) d195_120 (by decide) ⟨by omega, by omega⟩ (fun hb => absurd hb (by decide)) (fun _ => ?_)
    refine wp_aload_n d195_123 rfl ?_
    refine wp_iload d195_124 rfl ?_
    refine wp_virt (as := [.int (zI (i : Int))]) (rest := [.int (zI (i : Int)), .ref 78]) d195_126 rfl rfl rfl (hG.o (by decide) rfl) rfl rfl (Nat.le_of_ble_eq_true rfl) ?_
    have rs : RuS N a b T F t Γ Δ i x := ⟨hM, e22, e24, hx, hab, ti.pr st, nd⟩
    refine m_rule hC hG rs (hsub hk) (fun N' r g1 g2 g3 => ?_)
    have fin : ∀ r' : Int, r' = r → pm_Wp none (d + 10) 195 137 [some (.ref 56), some (.int (zI 132)), some (.int (zI x)), some (.int (zI (-1))), some (.int (zI (i : Int))), some (.int (zI (if true = true then 1 else 0))), some (.int (zI ((i + (tfl t).length : Nat) : Int))), some (.int (zI ((i + (tfl t).length : Nat) : Int)))] [.int (zI r'), .int (zI (i : Int)), .ref 78] (zM N', Rf, K, L, n, s0) Q := by
      intro r' hr'
      subst hr'
      have r01 := g3.r
      refine wz_zast (z := 64) d195_137 (hG.a (by decide) rfl rfl) (by omega) (by omega) (by decide) (by omega) ?_
      refine types_end (v := true) (r := r') hG (by omega) (mset_s _ _ _ _) r01 ?_
      have bq : Brk (F + 1) t Γ Δ ↔ r' = 0 := by
        cases e : tyF (F + 1) t Γ Δ with
        | inl p =>
          rw [e] at g3
          exact ⟨fun _ => g3, fun _ => ⟨hk, p, e⟩⟩
        | inr A =>
          rw [e] at g3
          exact ⟨fun hb => (hb.no e).elim, fun h0 => by have := g3.1; omega⟩
      refine ih _ _ _ _ (ti.next hN aT g1 g2 ia hab.1 hx.1 hx.2 r01 ?_ (fun h => absurd h h5) (fun v hv => ?_))
      · by_cases c : r' = 0
        · rw [if_pos ⟨rfl, c⟩]; exact Or.inr rfl
        · rw [if_neg (fun e => c e.2)]; exact Or.inl rfl
      · rw [one v hv]
        refine ⟨g3, fun hb => ?_, fun hb => ?_⟩
        · rw [if_pos ⟨rfl, bq.mp hb⟩]
        · rw [if_neg (fun e => hb (bq.mpr e.2))]
    rcases g3.r with hr | hr
    · skip
      rw [hr]
      refine wz_if_eq (t := 136) d195_129 (by decide) ⟨by omega, by omega⟩ (fun _ => ?_) (fun hb => absurd (by decide) hb)
      refine wz_iconst d195_136 ?_
      exact fin 0 hr.symm
    · skip
      rw [hr]
      refine wz_if_eq (t := 136) d195_129 (by decide) ⟨by omega, by omega⟩ (fun hb => absurd hb (by decide)) (fun _ => ?_)
      refine wz_iconst d195_132 ?_
      refine wp_goto (t := 137) d195_133 (by decide) ?_
      exact fin 1 hr.symm
  · skip
    have af : ks.all (okp N) = false := by
      cases e : ks.all (okp N) with
      | true => exact absurd (hall.mp e) hk
      | false => rfl
    rw [af]
    refine wp_aload_n d195_112 rfl ?_
    refine wp_getR (q := 78) d195_113 rfl (hG.o (by decide) rfl) (by decide) (hG.r (by decide +kernel)) (by decide) ?_
    refine wp_iload d195_116 rfl ?_
    refine wp_iload d195_118 rfl ?_
    refine wz_if_eq (t := 136) d195_120 (by decide) ⟨by omega, by omega⟩ (fun _ => ?_) (fun hb => absurd (by decide) hb)
    refine wz_iconst d195_136 ?_
    refine wz_zast (z := 64) d195_137 (hG.a (by decide) rfl rfl) (by omega) (by omega) (by decide) (by omega) ?_
    refine types_end (v := false) (r := 0) hG (by omega) (mset_s _ _ _ _) (Or.inl rfl) ?_
    rw [if_neg (show ¬ (false = true ∧ (0 : Int) = 0) from fun e => by cases e.1)]
    refine ih _ _ _ _ (ti.next hN aT hM (RLf.refl _ x N) ia hab.1 hx.1 hx.2 (Or.inl rfl) (Or.inl rfl) (fun _ => rfl) (fun v hv => ?_))
    rw [one v hv]
    refine ⟨?_, fun hb => absurd hb.1 hk, fun _ => rfl⟩
    show RA N (i : Int) (toO (tyF (F + 1) t Γ Δ)) 0
    cases e : tyF (F + 1) t Γ Δ with
    | inl p => exact rfl
    | inr A => exact absurd (tyF_parts e) hk
end PmF16
