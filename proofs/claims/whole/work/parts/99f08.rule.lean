/-! THE MODEL: rule. -/
def toO : Sum Nat Ty → Option Ty
  | .inl _ => none
  | .inr A => some A
theorem toO_szt (p : Nat) (A : Ty) : toO (szt p A) = if (flat A).length ≤ 16 then some A else none := by
  unfold szt
  by_cases h : (flat A).length ≤ 16
  · rw [if_pos h, if_pos h]; rfl
  · rw [if_neg h, if_neg h]; rfl
theorem toO_tyO (p : Nat) (o : Option Ty) : toO (tyO p o) = o.bind (fun X => if (flat X).length ≤ 16 then some X else none) := by
  cases o with
  | none => rfl
  | some A => exact toO_szt p A
/-- where a rule begins -/
def RuS (N : pm_M) (a b : Nat) (T : Ty) (F : Nat) (t : Ty) (Γ : List Ty) (Δ : List (Nat × Ty × Nat)) (i : Nat) (x : Int) : Prop := (∀ p i, R32 (N p i)) ∧ N 56 22 = 132 ∧ N 56 24 = x ∧ (0 ≤ x ∧ x ≤ 12) ∧ (a ≤ 60 ∧ b ≤ 60) ∧ (∀ k : Nat, k < b → PRk N T (68 + (b : Int)) x k) ∧ ND N a b T (F + 1) t Γ Δ i
theorem fnd_kd {k : Nat} {c : Int} : ∀ {ch : List (Nat × Int × Nat)} {e : Nat × Int × Nat} {r : List (Nat × Int × Nat)}, fnd k c ch = some (e :: r) → e.1 = k
  | [], _, _, h => by cases h
  | a :: l, e, r, h => by
    have h : (if a.1 = k ∧ a.2.1 = c then some (a :: l) else fnd k c l) = some (e :: r) := h
    by_cases q : a.1 = k ∧ a.2.1 = c
    · rw [if_pos q] at h
      injection h with h
      injection h with h1 h2
      rw [← h1]; exact q.1
    · rw [if_neg q] at h
      exact fnd_kd h
section PmF9
variable {d : Nat} {Q : Option Value → pm_S → Prop} {N : pm_M} {Rf : Nat → Nat → Nat} {K L : Nat → Nat} {n s0 : Nat} {a b : Nat} {T : Ty} {F : Nat} {t : Ty} {Γ : List Ty} {Δ : List (Nat × Ty × Nat)} {i : Nat} {x c s : Int} {ch : List (Nat × Int × Nat)}
theorem rule_5 (hG : pm_G Rf K L n) (st : RuS N a b T F t Γ Δ i x) (md : MNd 0 N a b (F + 1) t s ch i) (tc : TCh N b T s ch Γ Δ) (k5 : nKd t = 5) (h : ∀ (N' : pm_M) (r : Int), (∀ p i, R32 (N' p i)) → RLf (i : Int) x N N' → RA N' (i : Int) (toO (tyF (F + 1) t Γ Δ)) r → Q (some (.int (zI r))) (zM N', Rf, K, L, n, s0)) : pm_Wp none (d + 9) 194 37 [some (.ref 56), some (.int (zI (i : Int))), some (.int (zI s)), some (.int (zI c)), some (.int (zI (Γ.length : Int))), some (.int (zI (nKd t : Int))), none] [] (zM N, Rf, K, L, n, s0) Q := by
  obtain ⟨hM, hu, hx, hx2, hab, pr, nd⟩ := st
  have le := nd.le
  have tl1 := tfl_len nd.sp
  have te := nd.te
  have pd := nd.pd
  have fu := nd.fu
  obtain ⟨⟨m1, m2, m3, m40, m4⟩, m5, -⟩ := md
  obtain ⟨a3, hb⟩ := m5 k5
  rw [k5]
  have ef : N 60 (i : Int) + lowc 1 = 97 + N 60 (i : Int) := by show N 60 (i : Int) + 97 = _; omega
  refine wp_iload d194_37 rfl ?_
  refine wz_iconst d194_39 ?_
  refine wz_icmp_ne (t := 87) d194_40 (by decide) ⟨by omega, by omega⟩ ⟨by omega, by omega⟩ (fun hb => absurd (by omega) hb) (fun _ => ?_)
  refine wp_aload_n d194_43 rfl ?_
  refine wp_iload_n d194_44 rfl ?_
  refine wz_iconst d194_45 ?_
  refine wp_aload_n d194_46 rfl ?_
  refine wp_getR (q := 60) d194_47 rfl (hG.o (by decide) rfl) (by decide) (hG.r (by decide +kernel)) (by decide) ?_
  refine wp_iload_n d194_50 rfl ?_
  refine wz_iald (z := 128) (v := N 60 (i : Int)) d194_51 (hG.a (by decide) rfl rfl) (by omega) (by omega) (by decide) (rfl) ?_
  refine wp_virt (as := [.int (zI (N 60 (i : Int))), .int (zI 1), .int (zI s)]) (rest := []) d194_52 rfl rfl rfl (hG.o (by decide) rfl) rfl rfl (Nat.le_of_ble_eq_true rfl) ?_
  refine wc_deep (show d + 8 + 1 ≤ d + 9 by omega) ?_
  refine m_binderP (P := fun s' ch' => ∃ Γ1 Δ1 Δ0, TCh N b T s' ch' Γ1 Δ1 ∧ Δ = Δ0 ++ Δ1) ?_ (lo := 0) (nd := a) (sc := b) (k := 1) hG hM m4 ⟨Γ, Δ, [], tc, rfl⟩ (by omega) (by decide) a3 (fun ch' b' hf hs hp => ?_) (fun hf => ?_)
  · intro t' e' r' hp
    obtain ⟨Γ1, Δ1, Δ0, ⟨-, -, o, f, t1, Γ', Δ', -, -, -, g5, g6⟩, e2⟩ := hp
    rcases g5 with ⟨-, -, -, g⟩ | ⟨-, -, -, g⟩
    · exact ⟨Γ', Δ', Δ0 ++ [(nPl t1, nX t1, Γ'.length)], g6, by rw [e2, g, List.append_assoc]; rfl⟩
    · exact ⟨Γ', Δ', Δ0, g6, by rw [e2, g]⟩
  rotate_left
  · rw [ef] at hf
    rcases fnd_bnr (97 + N 60 (i : Int)) ch with ⟨-, q⟩ | ⟨e', r', q, -⟩
    · rw [hb] at q; cases q
    · rw [hf] at q; cases q
  rw [ef] at hf
  obtain ⟨e', r', rfl, hpl⟩ : ∃ e' r', ch' = e' :: r' ∧ e'.2.2 = nMk t := by
    rcases fnd_bnr (97 + N 60 (i : Int)) ch with ⟨q, -⟩ | ⟨e', r', q, q2⟩
    · rw [hf] at q; cases q
    · rw [hf] at q
      injection q with q
      rw [hb] at q2
      injection q2 with q2
      exact ⟨e', r', q, q2.symm⟩
  have e1 := fnd_kd hf
  obtain ⟨Γ1, Δ1, Δ0, ⟨g0, -, o, f, t1, Γ', Δ', g2, g3, g4, g5, g6⟩, eΔ⟩ := hp
  obtain ⟨-, k6, rfl, rfl⟩ : e'.1 = 1 ∧ nKd t1 = 6 ∧ Γ1 = Γ' ∧ Δ1 = (nPl t1, nX t1, Γ'.length) :: Δ' := by
    rcases g5 with g | g
    · exact g
    · have := g.1; omega
  have edl : dlk Δ (nMk t) = some (nX t1, Γ1.length) := pd.lk (Δ1 := Δ0) (Δ2 := Δ') (by rw [← hpl, g4]; exact eΔ)
  have ent := te.2.2 (nPl t1, nX t1, Γ1.length) (by rw [eΔ]; exact List.mem_append_right _ List.mem_cons_self)
  have gle : Γ1.length ≤ Γ.length := ent.1
  have oX : ok Γ1.length (nX t1) = true := ent.2.1
  have lX : (flat (nX t1)).length ≤ 16 := ent.2.2
  obtain ⟨k', rfl⟩ : ∃ k' : Nat, b' = (k' : Int) := ⟨b'.toNat, by omega⟩
  obtain ⟨row, -, -⟩ := pr k' (by omega) o f t1 Γ1 Δ' g2 g3 (Or.inl k6)
  have hs8 := hs.2.2.2.2.2.2.2
  have lr := g6.len
  have chl := hs8.len
  have c64 := hs8.rng
  have oL : ok Γ.length (lft Γ1.length (Γ.length - Γ1.length) (nX t1)) = true := by
    have := ok_lft Γ1.length (Γ.length - Γ1.length) (nX t1) 0 oX
    rwa [show Γ1.length + (Γ.length - Γ1.length) + 0 = Γ.length by omega] at this
  have lL : (flat (lft Γ1.length (Γ.length - Γ1.length) (nX t1))).length = (flat (nX t1)).length := lft_len _ _ _
  have ety : toO (tyF (F + 1) t Γ Δ) = some (lft Γ1.length (Γ.length - Γ1.length) (nX t1)) := by
    unfold tyF
    rw [if_pos k5, toO_tyO, edl]
    show (if (flat (lft Γ1.length (Γ.length - Γ1.length) (nX t1))).length ≤ 16 then _ else none) = _
    rw [if_pos (by omega)]
  rw [ety] at h
  refine wp_istore d194_55 (Nat.le_of_ble_eq_true rfl) rfl ?_
  refine wp_aload_n d194_57 rfl ?_
  refine wp_iload_n d194_58 rfl ?_
  refine wp_aload_n d194_59 rfl ?_
  refine wz_bipush d194_60 (by decide) ?_
  refine wp_iload d194_62 rfl ?_
  refine wz_iadd d194_64 ?_
  refine wz_iconst d194_65 ?_
  refine wp_aload_n d194_66 rfl ?_
  refine wp_aload_n d194_67 rfl ?_
  refine wp_getR (q := 64) d194_68 rfl (hG.o (by decide) rfl) (by decide) (hG.r (by decide +kernel)) (by decide) ?_
  refine wp_iload d194_71 rfl ?_
  refine wz_iald (z := 128) (v := N 64 (k' : Int)) d194_73 (hG.a (by decide) rfl rfl) (by omega) (by omega) (by decide) (rfl) ?_
  refine wp_virt (as := [.int (zI (N 64 (k' : Int)))]) (rest := [.int (zI 0), .int (zI (68 + (k' : Int))), .ref 56, .int (zI (i : Int)), .ref 56]) d194_74 rfl rfl rfl (hG.o (by decide) rfl) rfl rfl (Nat.le_of_ble_eq_true rfl) ?_
  refine wc_deep (show d + 8 + 1 ≤ d + 9 by omega) ?_
  refine m_depthOf (lo := 0) (nd := a) (sc := b) hG hs8 (by omega) (by omega) ?_
  rw [lr]
  refine wp_iload d194_77 rfl ?_
  refine wp_virt (as := [.int (zI (Γ.length : Int)), .int (zI (Γ1.length : Int)), .int (zI 0), .int (zI (68 + (k' : Int)))]) (rest := [.int (zI (i : Int)), .ref 56]) d194_79 rfl rfl rfl (hG.o (by decide) rfl) rfl rfl (Nat.le_of_ble_eq_true rfl) ?_
  refine wc_deep (show d + 5 + 4 ≤ d + 9 by omega) ?_
  refine m_widened (l := flat (nX t1)) hG hM hu (by omega) (by omega) (by omega) (by omega) (by omega) (by omega) (by omega) row (ok_pre _ _ oX) ?_
  rw [zlf_lfc gle, ← flat_lft]
  have R1 := mput_R32 (p := 73) (b := 17 * 132) (mset_R32 (p := 56) (i := 22) (v := 132 + 1) hM ⟨by omega, by omega⟩) (flat_R32 oL (by omega) (by omega))
  have row2 : Row (mput (mset N 56 22 (132 + 1)) 73 (17 * 132) (flat (lft Γ1.length (Γ.length - Γ1.length) (nX t1)))) 132 0 (flat (lft Γ1.length (Γ.length - Γ1.length) (nX t1))) := by
    have := mput_row (flat (lft Γ1.length (Γ.length - Γ1.length) (nX t1))) (mset N 56 22 (132 + 1)) 132 0
    rw [Int.add_zero] at this
    exact this
  have rl2 : RLf (i : Int) x N (mput (mset N 56 22 (132 + 1)) 73 (17 * 132) (flat (lft Γ1.length (Γ.length - Γ1.length) (nX t1)))) := ((RLf.refl _ x N).fr).put (Or.inr (Int.le_refl _)) (by omega)
  refine wz_iconst d194_82 ?_
  refine wp_virt (as := [.int (zI 0), .int (zI 132), .int (zI (i : Int))]) (rest := []) d194_83 rfl rfl rfl (hG.o (by decide) rfl) rfl rfl (Nat.le_of_ble_eq_true rfl) ?_
  refine wc_deep (show d + 5 + 4 ≤ d + 9 by omega) ?_
  refine m_gets (l := flat (lft Γ1.length (Γ.length - Γ1.length) (nX t1))) hG R1 (by omega) (by omega) (by omega) (by omega) (by omega) (by omega) (by omega) (by omega) row2 (ok_pre _ _ oL) ?_
  refine wp_ret d194_86 rfl (h _ 1 (mput_R32 R1 (flat_R32 oL (by omega) (by omega))) (rl2.put (Or.inl rfl) (by omega)) ⟨rfl, ?_⟩)
  have := mput_row (flat (lft Γ1.length (Γ.length - Γ1.length) (nX t1))) (mput (mset N 56 22 (132 + 1)) 73 (17 * 132) (flat (lft Γ1.length (Γ.length - Γ1.length) (nX t1)))) (4 + (i : Int)) 0
  rw [Int.add_zero] at this
  exact this
theorem rule_6 {B : Ty} (hG : pm_G Rf K L n) (st : RuS N a b T F t Γ Δ i x) (md : MNd 0 N a b (F + 1) t s ch i) (tc : TCh N b T s ch Γ Δ) (kk : nKd t = 6) (hB : tyF F (nY t) Γ ((nPl t, nX t, Γ.length) :: Δ) = .inr B) (rB : Row N (4 + ((i + 1 + (tfl (nX t)).length : Nat) : Int)) 0 (flat B)) (h : ∀ (N' : pm_M) (r : Int), (∀ p i, R32 (N' p i)) → RLf (i : Int) x N N' → RA N' (i : Int) (toO (tyF (F + 1) t Γ Δ)) r → Q (some (.int (zI r))) (zM N', Rf, K, L, n, s0)) : pm_Wp none (d + 9) 194 37 [some (.ref 56), some (.int (zI (i : Int))), some (.int (zI s)), some (.int (zI c)), some (.int (zI (Γ.length : Int))), some (.int (zI (nKd t : Int))), none] [] (zM N, Rf, K, L, n, s0) Q := by
  obtain ⟨hM, hu, hx, hx2, hab, pr, nd⟩ := st
  have le := nd.le
  have tl1 := tfl_len nd.sp
  have fu := nd.fu
  have at0 := nd.at0
  have ndY := nd.lam kk
  have lY := tfl_len ndY.sp
  obtain ⟨⟨m1, m2, m3, m40, m4⟩, -, -, -, m8, -, m10, -, -⟩ := md
  obtain ⟨-, -, w6, -, w8, -⟩ := nd.tw
  obtain ⟨nt, ntl⟩ := m8 (sk_6 (Or.inl kk)).1
  obtain ⟨nm, c0, c1, -⟩ := m10 (Or.inl kk)
  have sr := c1.1
  obtain ⟨k', hk'⟩ : ∃ k' : Nat, N 63 (i : Int) = (k' : Int) := ⟨(N 63 (i : Int)).toNat, by omega⟩
  rw [hk'] at c0 sr
  obtain ⟨row, lX, -⟩ := pr k' (by omega) i (F + 1) t Γ Δ c0.1 at0 (Or.inl kk)
  have oX : ok Γ.length (nX t) = true := (w6 kk).2.1
  have oB := tyF_ok F _ _ _ B ndY.tw ndY.te hB
  have eX : tfl (nX t) = flat (nX t) := tfl_ty oX
  rw [eX] at rB tl1
  have ety : toO (tyF (F + 1) t Γ Δ) = if (flat (tFun (nX t) B)).length ≤ 16 then some (tFun (nX t) B) else none := by
    unfold tyF
    rw [if_neg (by omega), if_pos kk, hB]
    exact toO_szt _ _
  rw [ety] at h
  have lt : (flat (tFun (nX t) B)).length = 1 + (flat (nX t)).length + (flat B).length := by rw [flat_fun, List.length_cons, List.length_append]; omega
  rw [kk]
  refine wp_iload d194_37 rfl ?_
  refine wz_iconst d194_39 ?_
  refine wz_icmp_ne (t := 87) d194_40 (by decide) ⟨by omega, by omega⟩ ⟨by omega, by omega⟩ (fun _ => ?_) (fun hb => absurd hb (by omega))
  refine wp_iload d194_87 rfl ?_
  refine wz_bipush d194_89 (by decide) ?_
  refine wz_icmp_ne (t := 100) d194_91 (by decide) ⟨by omega, by omega⟩ ⟨by omega, by omega⟩ (fun _ => ?_) (fun hb => absurd hb (by omega))
  refine wp_iload d194_100 rfl ?_
  refine wz_bipush d194_102 (by decide) ?_
  refine wz_icmp_ne (t := 111) d194_104 (by decide) ⟨by omega, by omega⟩ ⟨by omega, by omega⟩ (fun _ => ?_) (fun hb => absurd hb (by omega))
  refine wp_aload_n d194_111 rfl ?_
  refine wp_iload_n d194_112 rfl ?_
  refine wz_iconst d194_113 ?_
  refine wz_iadd d194_114 ?_
  refine wp_virt (as := [.int (zI ((i : Int) + 1))]) (rest := []) d194_115 rfl rfl rfl (hG.o (by decide) rfl) rfl rfl (Nat.le_of_ble_eq_true rfl) ?_
  refine wc_deep (show d + 7 + 2 ≤ d + 9 by omega) ?_
  rw [show (i : Int) + 1 = ((i + 1 : Nat) : Int) by omega]
  refine m_behind (lo := 0) (nd := a) (sc := b) hG (by omega) nt.nx (prx_pre nt.pos (ok_pre _ _ oX)) ?_
  refine wp_istore d194_118 (Nat.le_of_ble_eq_true rfl) rfl ?_
  refine wp_iload d194_120 rfl ?_
  refine wz_bipush d194_122 (by decide) ?_
  refine wz_icmp_eq (t := 134) d194_124 (by decide) ⟨by omega, by omega⟩ ⟨by omega, by omega⟩ (fun _ => ?_) (fun hb => absurd (by decide) hb)
  refine wp_aload_n d194_134 rfl ?_
  refine wp_iload_n d194_135 rfl ?_
  refine wp_iload d194_136 rfl ?_
  refine wz_bipush d194_138 (by decide) ?_
  refine wz_icmp_ne (t := 147) d194_140 (by decide) ⟨by omega, by omega⟩ ⟨by omega, by omega⟩ (fun hb => absurd (by decide) hb) (fun _ => ?_)
  refine wz_iconst d194_143 ?_
  refine wp_goto (t := 148) d194_144 (by decide) ?_
  refine wz_bipush d194_148 (by decide) ?_
  refine wp_aload_n d194_150 rfl ?_
  refine wp_getR (q := 63) d194_151 rfl (hG.o (by decide) rfl) (by decide) (hG.r (by decide +kernel)) (by decide) ?_
  refine wp_iload_n d194_154 rfl ?_
  refine wz_iald (z := 128) (v := (k' : Int)) d194_155 (hG.a (by decide) rfl rfl) (by omega) (by omega) (by decide) (hk') ?_
  refine wz_iadd d194_156 ?_
  refine wp_iload d194_157 rfl ?_
  refine wp_virt (as := [.int (zI (((i + 1 + (flat (nX t)).length : Nat) : Int))), .int (zI (68 + (k' : Int))), .int (zI 1), .int (zI (i : Int))]) (rest := []) d194_159 rfl rfl rfl (hG.o (by decide) rfl) rfl rfl (Nat.le_of_ble_eq_true rfl) ?_
  refine wc_deep (show d + 5 + 4 ≤ d + 9 by omega) ?_
  refine m_binding (A := flat (nX t)) (B := flat B) hG hM (by omega) (by omega) (by omega) (by omega) (by omega) (by omega) ⟨by omega, by omega⟩ lX oB.2 (by omega) (by omega) row (ok_pre _ _ oX) rB (ok_pre _ _ oB.1) (fun N' l16 g1 g2 g3 => ?_) (fun l16 => ?_)
  · refine wp_ret d194_162 rfl (h N' 1 g1 (fun p k hw => g2 p k (fun e => hw (by unfold WRl; omega))) ?_)
    rw [if_pos (by omega)]
    refine ⟨rfl, ?_⟩
    rw [flat_fun]
    exact g3
  · refine wp_ret d194_162 rfl (h N 0 hM (RLf.refl _ x N) ?_)
    rw [if_neg (by omega)]
    exact rfl
theorem rule_8 {B : Ty} (hG : pm_G Rf K L n) (st : RuS N a b T F t Γ Δ i x) (md : MNd 0 N a b (F + 1) t s ch i) (tc : TCh N b T s ch Γ Δ) (kk : nKd t = 8) (hB : tyF F (nY t) (nX t :: Γ) Δ = .inr B) (rB : Row N (4 + ((i + 1 + (tfl (nX t)).length : Nat) : Int)) 0 (flat B)) (h : ∀ (N' : pm_M) (r : Int), (∀ p i, R32 (N' p i)) → RLf (i : Int) x N N' → RA N' (i : Int) (toO (tyF (F + 1) t Γ Δ)) r → Q (some (.int (zI r))) (zM N', Rf, K, L, n, s0)) : pm_Wp none (d + 9) 194 37 [some (.ref 56), some (.int (zI (i : Int))), some (.int (zI s)), some (.int (zI c)), some (.int (zI (Γ.length : Int))), some (.int (zI (nKd t : Int))), none] [] (zM N, Rf, K, L, n, s0) Q := by
  obtain ⟨hM, hu, hx, hx2, hab, pr, nd⟩ := st
  have le := nd.le
  have tl1 := tfl_len nd.sp
  have fu := nd.fu
  have at0 := nd.at0
  have ndY := nd.all kk
  have lY := tfl_len ndY.sp
  obtain ⟨⟨m1, m2, m3, m40, m4⟩, -, -, -, m8, -, m10, -, -⟩ := md
  obtain ⟨-, -, w6, -, w8, -⟩ := nd.tw
  obtain ⟨nt, ntl⟩ := m8 (sk_6 (Or.inr kk)).1
  obtain ⟨nm, c0, c1, -⟩ := m10 (Or.inr kk)
  have sr := c1.1
  obtain ⟨k', hk'⟩ : ∃ k' : Nat, N 63 (i : Int) = (k' : Int) := ⟨(N 63 (i : Int)).toNat, by omega⟩
  rw [hk'] at c0 sr
  obtain ⟨row, lX, -⟩ := pr k' (by omega) i (F + 1) t Γ Δ c0.1 at0 (Or.inr kk)
  have oX : ok Γ.length (nX t) = true := (w8 kk).1
  have oB := tyF_ok F _ _ _ B ndY.tw ndY.te hB
  have eX : tfl (nX t) = flat (nX t) := tfl_ty oX
  rw [eX] at rB tl1
  have ety : toO (tyF (F + 1) t Γ Δ) = if (flat (tAll (nX t) B)).length ≤ 16 then some (tAll (nX t) B) else none := by
    unfold tyF
    rw [if_neg (by omega), if_neg (by omega), if_neg (by omega), if_pos kk, hB]
    exact toO_szt _ _
  rw [ety] at h
  have lt : (flat (tAll (nX t) B)).length = 1 + (flat (nX t)).length + (flat B).length := by rw [flat_all, List.length_cons, List.length_append]; omega
  rw [kk]
  refine wp_iload d194_37 rfl ?_
  refine wz_iconst d194_39 ?_
  refine wz_icmp_ne (t := 87) d194_40 (by decide) ⟨by omega, by omega⟩ ⟨by omega, by omega⟩ (fun _ => ?_) (fun hb => absurd hb (by omega))
  refine wp_iload d194_87 rfl ?_
  refine wz_bipush d194_89 (by decide) ?_
  refine wz_icmp_ne (t := 100) d194_91 (by decide) ⟨by omega, by omega⟩ ⟨by omega, by omega⟩ (fun _ => ?_) (fun hb => absurd hb (by omega))
  refine wp_iload d194_100 rfl ?_
  refine wz_bipush d194_102 (by decide) ?_
  refine wz_icmp_ne (t := 111) d194_104 (by decide) ⟨by omega, by omega⟩ ⟨by omega, by omega⟩ (fun _ => ?_) (fun hb => absurd hb (by omega))
  refine wp_aload_n d194_111 rfl ?_
  refine wp_iload_n d194_112 rfl ?_
  refine wz_iconst d194_113 ?_
  refine wz_iadd d194_114 ?_
  refine wp_virt (as := [.int (zI ((i : Int) + 1))]) (rest := []) d194_115 rfl rfl rfl (hG.o (by decide) rfl) rfl rfl (Nat.le_of_ble_eq_true rfl) ?_
  refine wc_deep (show d + 7 + 2 ≤ d + 9 by omega) ?_
  rw [show (i : Int) + 1 = ((i + 1 : Nat) : Int) by omega]
  refine m_behind (lo := 0) (nd := a) (sc := b) hG (by omega) nt.nx (prx_pre nt.pos (ok_pre _ _ oX)) ?_
  refine wp_istore d194_118 (Nat.le_of_ble_eq_true rfl) rfl ?_
  refine wp_iload d194_120 rfl ?_
  refine wz_bipush d194_122 (by decide) ?_
  refine wz_icmp_eq (t := 134) d194_124 (by decide) ⟨by omega, by omega⟩ ⟨by omega, by omega⟩ (fun hb => absurd hb (by decide)) (fun _ => ?_)
  refine wp_iload d194_127 rfl ?_
  refine wz_bipush d194_129 (by decide) ?_
  refine wz_icmp_ne (t := 163) d194_131 (by decide) ⟨by omega, by omega⟩ ⟨by omega, by omega⟩ (fun hb => absurd (by decide) hb) (fun _ => ?_)
  refine wp_aload_n d194_134 rfl ?_
  refine wp_iload_n d194_135 rfl ?_
  refine wp_iload d194_136 rfl ?_
  refine wz_bipush d194_138 (by decide) ?_
  refine wz_icmp_ne (t := 147) d194_140 (by decide) ⟨by omega, by omega⟩ ⟨by omega, by omega⟩ (fun _ => ?_) (fun hb => absurd hb (by decide))
  refine wz_iconst d194_147 ?_
  refine wz_bipush d194_148 (by decide) ?_
  refine wp_aload_n d194_150 rfl ?_
  refine wp_getR (q := 63) d194_151 rfl (hG.o (by decide) rfl) (by decide) (hG.r (by decide +kernel)) (by decide) ?_
  refine wp_iload_n d194_154 rfl ?_
  refine wz_iald (z := 128) (v := (k' : Int)) d194_155 (hG.a (by decide) rfl rfl) (by omega) (by omega) (by decide) (hk') ?_
  refine wz_iadd d194_156 ?_
  refine wp_iload d194_157 rfl ?_
  refine wp_virt (as := [.int (zI (((i + 1 + (flat (nX t)).length : Nat) : Int))), .int (zI (68 + (k' : Int))), .int (zI 2), .int (zI (i : Int))]) (rest := []) d194_159 rfl rfl rfl (hG.o (by decide) rfl) rfl rfl (Nat.le_of_ble_eq_true rfl) ?_
  refine wc_deep (show d + 5 + 4 ≤ d + 9 by omega) ?_
  refine m_binding (A := flat (nX t)) (B := flat B) hG hM (by omega) (by omega) (by omega) (by omega) (by omega) (by omega) ⟨by omega, by omega⟩ lX oB.2 (by omega) (by omega) row (ok_pre _ _ oX) rB (ok_pre _ _ oB.1) (fun N' l16 g1 g2 g3 => ?_) (fun l16 => ?_)
  · refine wp_ret d194_162 rfl (h N' 1 g1 (fun p k hw => g2 p k (fun e => hw (by unfold WRl; omega))) ?_)
    rw [if_pos (by omega)]
    refine ⟨rfl, ?_⟩
    rw [flat_all]
    exact g3
  · refine wp_ret d194_162 rfl (h N 0 hM (RLf.refl _ x N) ?_)
    rw [if_neg (by omega)]
    exact rfl
end PmF9
