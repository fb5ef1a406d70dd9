/-! THE MODEL: rule, records, selection, application, choice. -/
def opt (g : Bool) (X A : Ty) : List (Ty × Ty) := if g = true then [(X, A)] else []
theorem PLs.app {N : pm_M} {a b : Nat} : ∀ {ps qs : List (Ty × Ty)} {p : Nat}, PLs N a b p ps → PLs N a b (p + pll ps) qs → PLs N a b p (ps ++ qs)
  | [], _, _, _, h => h
  | x :: r, qs, p, h, h' => ⟨h.1, PLs.app h.2 (by
    have e : p + pll (x :: r) = p + (tfl x.1).length + pll r := by
      show p + ((tfl x.1).length + pll r) = _
      omega
    rw [e] at h'
    exact h')⟩
theorem pll_app : ∀ (ps qs : List (Ty × Ty)), pll (ps ++ qs) = pll ps + pll qs
  | [], _ => (Nat.zero_add _).symm
  | x :: r, qs => by
    show (tfl x.1).length + pll (r ++ qs) = (tfl x.1).length + pll r + pll qs
    rw [pll_app r qs]; omega
theorem plc_app : ∀ (ps qs : List (Ty × Ty)), plc (ps ++ qs) = plc ps ++ plc qs
  | [], _ => rfl
  | x :: r, qs => by
    show flat x.2 ++ plc (r ++ qs) = flat x.2 ++ plc r ++ plc qs
    rw [plc_app r qs, List.append_assoc]
theorem pll_opt {g : Bool} {X A : Ty} (h : ¬ g = true → (tfl X).length = 0) : pll (opt g X A) = (tfl X).length := by
  unfold opt
  by_cases c : g = true
  · rw [if_pos c]; rfl
  · rw [if_neg c, h c]; rfl
theorem plc_opt {g : Bool} {X A : Ty} (h : ¬ g = true → flat A = []) : plc (opt g X A) = flat A := by
  unfold opt
  by_cases c : g = true
  · rw [if_pos c]; exact List.append_nil _
  · rw [if_neg c, h c]; rfl
theorem opt_len (g : Bool) (X A : Ty) : (opt g X A).length ≤ 1 := by
  unfold opt
  by_cases c : g = true
  · rw [if_pos c]; exact Nat.le_refl _
  · rw [if_neg c]; exact Nat.zero_le _
/-- combine, with the rows that it may answer -/
def CmL (d : Nat) : Prop := ∀ (N : pm_M) (Rf : Nat → Nat → Nat) (K L : Nat → Nat) (n s : Nat) (Q : Option Value → pm_S → Prop) (u x a b c : Int) (lo : Nat) (Γ : List Ty) (S T : Ty), pm_G Rf K L n → (∀ p i, R32 (N p i)) → N 56 22 = u → N 56 24 = x → TH N u x a 0 b 0 c (Γ.length : Int) (Γ, S, T) → (lo : Int) ≤ a → (lo : Int) ≤ b → (lo : Int) ≤ u → 0 ≤ x → u + (gm (0, Γ, S, T) : Nat) < 1100 → x + (gm (0, Γ, S, T) : Nat) < 900 → gn (0, Γ, S, T) + 3 ≤ 600 → Γ.length + gm (0, Γ, S, T) ≤ 1990 → 2 * (hgt (oh Γ) S + hgt (oh Γ) T) + 3 ≤ 300 → (∀ (N' : pm_M) (u' x' : Int), (∀ p i, R32 (N' p i)) → N' 56 22 = u' → N' 56 24 = x' → u ≤ u' → u' ≤ u + (gm (0, Γ, S, T) : Nat) → x ≤ x' → CF N N' u x → RS N' u' 0 (cmv 0 Γ S T) → Q (some (.int (zI (N' 84 0)))) (zM N', Rf, K, L, n, s)) → pm_Wc (d + 9) 169 [.ref 56, .int (zI 0), .int (zI a), .int (zI b), .int (zI c), .int (zI (Γ.length : Int))] (zM N, Rf, K, L, n, s) Q
theorem RA.r {N : pm_M} {i r : Int} {o : Option Ty} (h : RA N i o r) : r = 0 ∨ r = 1 := by
  cases o with
  | none => exact Or.inl h
  | some A => exact Or.inr h.1
theorem cmL (d : Nat) : CmL d := fun _ _ _ _ _ _ _ _ _ _ _ _ _ _ _ _ hG hM hu hx t _ _ _ x0 h1 h2 h3 h4 h5 h => m_combine (w := 0) hG hM hu hx t (by decide) x0 h1 h2 h3 h4 h5 h
section PmF10
variable {d : Nat} {Q : Option Value → pm_S → Prop} {N : pm_M} {Rf : Nat → Nat → Nat} {K L : Nat → Nat} {n s0 : Nat} {a b : Nat} {T : Ty} {F : Nat} {t : Ty} {Γ : List Ty} {Δ : List (Nat × Ty × Nat)} {i : Nat} {x c s : Int} {ch : List (Nat × Int × Nat)}
theorem rule_10 {A B C : Ty} (hG : pm_G Rf K L n) (st : RuS N a b T F t Γ Δ i x) (md : MNd 0 N a b (F + 1) t s ch i) (kk : nKd t = 10) (hA : (if bit (nMk t) 0 = true then tyF F (nX t) Γ Δ else .inr .nil) = .inr A) (hB : (if bit (nMk t) 1 = true then tyF F (nY t) Γ Δ else .inr .nil) = .inr B) (hC : (if bit (nMk t) 2 = true then tyF F (nZ t) Γ Δ else .inr .nil) = .inr C) (rA : bit (nMk t) 0 = true → Row N (4 + ((i + 1 : Nat) : Int)) 0 (flat A)) (rB : bit (nMk t) 1 = true → Row N (4 + ((i + 1 + (tfl (nX t)).length : Nat) : Int)) 0 (flat B)) (rC : bit (nMk t) 2 = true → Row N (4 + ((i + 1 + (tfl (nX t)).length + (tfl (nY t)).length : Nat) : Int)) 0 (flat C)) (h : ∀ (N' : pm_M) (r : Int), (∀ p i, R32 (N' p i)) → RLf (i : Int) x N N' → RA N' (i : Int) (toO (tyF (F + 1) t Γ Δ)) r → Q (some (.int (zI r))) (zM N', Rf, K, L, n, s0)) : pm_Wp none (d + 9) 194 37 [some (.ref 56), some (.int (zI (i : Int))), some (.int (zI s)), some (.int (zI c)), some (.int (zI (Γ.length : Int))), some (.int (zI (nKd t : Int))), none] [] (zM N, Rf, K, L, n, s0) Q := by
  obtain ⟨hM, hu, hx, hx2, hab, pr, nd⟩ := st
  have le := nd.le
  have tl1 := tfl_len nd.sp
  have nx := nd.nx
  have ety : toO (tyF (F + 1) t Γ Δ) = if (flat (tRec (nMk t) A B C)).length ≤ 16 then some (tRec (nMk t) A B C) else none := by
    unfold tyF
    rw [if_neg (by omega), if_neg (by omega), if_neg (by omega), if_neg (by omega), if_neg (by omega), if_pos kk, hA, hB, hC]
    exact toO_szt _ _
  rw [ety] at h
  have m60 : N 60 (i : Int) = (nMk t : Int) := md.2.2.1 (by omega)
  obtain ⟨w0, -, -, -, -, -, w10, -, -⟩ := nd.tw
  have m8 := (w10 kk).1
  have sk0 : ∀ g, sk (nKd t) (nMk t) g = if bit (nMk t) g = true then 1 else 0 := fun g => by rw [kk]; rfl
  have nl : ∀ g, g < 3 → ¬ bit (nMk t) g = true → (tfl (nP t g)).length = 0 := fun g hg hb => by
    rw [w0.2.2.1 g hg (by rw [sk0, if_neg hb])]; rfl
  have one : ∀ {j : Nat} {y A' : Ty}, ND N a b T F y Γ Δ j → tyF F y Γ Δ = .inr A' → Row N (4 + (j : Int)) 0 (flat A') → PLs N a b j [(y, A')] := by
    intro j y A' hn hy hr
    have o := tyF_ok F _ _ _ A' hn.tw hn.te hy
    have q := tfl_len hn.sp
    have q2 := hn.le
    exact ⟨⟨hn.nx.1, hn.nx.2, hn.le, by show 1 ≤ (tfl y).length; omega, hr, ok_pre _ _ o.1, o.2⟩, trivial⟩
  have pX : PLs N a b (i + 1) (opt (bit (nMk t) 0) (nX t) A) := by
    unfold opt
    by_cases e : bit (nMk t) 0 = true
    · rw [if_pos e] at hA ⊢
      exact one (nd.x (by rw [sk0, if_pos e])) hA (rA e)
    · rw [if_neg e]; trivial
  have pY : PLs N a b (i + 1 + (tfl (nX t)).length) (opt (bit (nMk t) 1) (nY t) B) := by
    unfold opt
    by_cases e : bit (nMk t) 1 = true
    · rw [if_pos e] at hB ⊢
      exact one (nd.y (by rw [sk0, if_pos e]) (by omega)) hB (rB e)
    · rw [if_neg e]; trivial
  have pZ : PLs N a b (i + 1 + (tfl (nX t)).length + (tfl (nY t)).length) (opt (bit (nMk t) 2) (nZ t) C) := by
    unfold opt
    by_cases e : bit (nMk t) 2 = true
    · rw [if_pos e] at hC ⊢
      exact one (nd.z (by rw [sk0, if_pos e])) hC (rC e)
    · rw [if_neg e]; trivial
  have fnil : ∀ {g : Nat} {y A' : Ty}, (if bit (nMk t) g = true then tyF F y Γ Δ else .inr .nil) = .inr A' → ¬ bit (nMk t) g = true → flat A' = [] := by
    intro g y A' h1 h2
    rw [if_neg h2] at h1
    injection h1 with h1
    rw [← h1]; rfl
  have lX := pll_opt (g := bit (nMk t) 0) (X := nX t) (A := A) (fun e => nl 0 (by decide) e)
  have lY := pll_opt (g := bit (nMk t) 1) (X := nY t) (A := B) (fun e => nl 1 (by decide) e)
  have lZ := pll_opt (g := bit (nMk t) 2) (X := nZ t) (A := C) (fun e => nl 2 (by decide) e)
  have pall : PLs N a b (i + 1) (opt (bit (nMk t) 0) (nX t) A ++ (opt (bit (nMk t) 1) (nY t) B ++ opt (bit (nMk t) 2) (nZ t) C)) := pX.app (by rw [lX]; exact pY.app (by rw [lY]; exact pZ))
  have ell : pll (opt (bit (nMk t) 0) (nX t) A ++ (opt (bit (nMk t) 1) (nY t) B ++ opt (bit (nMk t) 2) (nZ t) C)) = (tfl (nX t)).length + (tfl (nY t)).length + (tfl (nZ t)).length := by rw [pll_app, pll_app, lX, lY, lZ]; omega
  have elc : plc (opt (bit (nMk t) 0) (nX t) A ++ (opt (bit (nMk t) 1) (nY t) B ++ opt (bit (nMk t) 2) (nZ t) C)) = flat A ++ (flat B ++ flat C) := by rw [plc_app, plc_app, plc_opt (fnil hA), plc_opt (fnil hB), plc_opt (fnil hC)]
  have lps : (opt (bit (nMk t) 0) (nX t) A ++ (opt (bit (nMk t) 1) (nY t) B ++ opt (bit (nMk t) 2) (nZ t) C)).length ≤ 3 := by
    have := opt_len (bit (nMk t) 0) (nX t) A
    have := opt_len (bit (nMk t) 1) (nY t) B
    have := opt_len (bit (nMk t) 2) (nZ t) C
    rw [List.length_append, List.length_append]; omega
  have lt : (flat (tRec (nMk t) A B C)).length = 1 + (flat A ++ (flat B ++ flat C)).length := by rw [flat_rec, List.length_cons]; omega
  rw [kk]
  refine wp_iload d194_37 rfl ?_
  refine wz_iconst d194_39 ?_
  refine wz_icmp_ne (t := 87) d194_40 (by decide) ⟨by omega, by omega⟩ ⟨by omega, by omega⟩ (fun _ => ?_) (fun hb => absurd hb (by omega))
  refine wp_iload d194_87 rfl ?_
  refine wz_bipush d194_89 (by decide) ?_
  refine wz_icmp_ne (t := 100) d194_91 (by decide) ⟨by omega, by omega⟩ ⟨by omega, by omega⟩ (fun hb => absurd (by omega) hb) (fun _ => ?_)
  refine wp_aload_n d194_94 rfl ?_
  refine wp_iload_n d194_95 rfl ?_
  refine wp_virt (as := [.int (zI (i : Int))]) (rest := []) d194_96 rfl rfl rfl (hG.o (by decide) rfl) rfl rfl (Nat.le_of_ble_eq_true rfl) ?_
  refine wc_deep (show d + 5 + 4 ≤ d + 9 by omega) ?_
  refine m_recordType (d := d + 5) (ps := opt (bit (nMk t) 0) (nX t) A ++ (opt (bit (nMk t) 1) (nY t) B ++ opt (bit (nMk t) 2) (nZ t) C)) hG hM hab.1 hab.2 (by omega) lps (fun Q' hq => ?_) m60 m8 pall (fun l16 N' g1 g2 g3 => ?_) (fun l16 => ?_)
  · refine m_behind (lo := 0) (nd := a) (sc := b) hG (by omega) nx.1 nx.2 ?_
    rw [show i + (tfl t).length = i + 1 + pll (opt (bit (nMk t) 0) (nX t) A ++ (opt (bit (nMk t) 1) (nY t) B ++ opt (bit (nMk t) 2) (nZ t) C)) by rw [ell]; omega]
    exact hq
  · refine wp_ret d194_99 rfl (h N' 1 g1 (fun p k hw => g2 p k (fun e => hw (by unfold WRl; omega))) ?_)
    rw [elc] at l16 g3
    rw [if_pos (by omega)]
    refine ⟨rfl, ?_⟩
    rw [flat_rec, show ((8 + nMk t : Nat) : Int) = 8 + (nMk t : Int) by omega]
    exact g3
  · refine wp_ret d194_99 rfl (h N 0 hM (RLf.refl _ x N) ?_)
    rw [elc] at l16
    rw [if_neg (by omega)]
    exact rfl
theorem rule_11 {S : Ty} (hG : pm_G Rf K L n) (st : RuS N a b T F t Γ Δ i x) (md : MNd 0 N a b (F + 1) t s ch i) (cx : Ctx N 132 x c Γ) (kk : nKd t = 11) (hS : tyF F (nX t) Γ Δ = .inr S) (rS : Row N (4 + ((i + 1 : Nat) : Int)) 0 (flat S)) (h : ∀ (N' : pm_M) (r : Int), (∀ p i, R32 (N' p i)) → RLf (i : Int) x N N' → RA N' (i : Int) (toO (tyF (F + 1) t Γ Δ)) r → Q (some (.int (zI r))) (zM N', Rf, K, L, n, s0)) : pm_Wp none (d + 9) 194 37 [some (.ref 56), some (.int (zI (i : Int))), some (.int (zI s)), some (.int (zI c)), some (.int (zI (Γ.length : Int))), some (.int (zI (nKd t : Int))), none] [] (zM N, Rf, K, L, n, s0) Q := by
  obtain ⟨hM, hu, hx, hx2, hab, pr, nd⟩ := st
  have le := nd.le
  have tl1 := tfl_len nd.sp
  have fu := nd.fu
  have te := nd.te
  have ndX := nd.x (by rw [kk]; rfl)
  have lX := tfl_len ndX.sp
  have oS := tyF_ok F _ _ _ S ndX.tw ndX.te hS
  have k59 : N 59 (i : Int) = 11 := by rw [md.1.2.1, kk]; rfl
  rw [show (4 : Int) + ((i + 1 : Nat) : Int) = 4 + (i : Int) + 1 by omega] at rS
  have m60 : N 60 (i : Int) = (nMk t : Int) := md.2.2.1 (by omega)
  obtain ⟨-, -, -, -, -, -, -, w11, -⟩ := nd.tw
  have ety : toO (tyF (F + 1) t Γ Δ) = (tyD (nMk t) (expo Γ Γ.length S)).bind (fun X => if (flat X).length ≤ 16 then some X else none) := by
    unfold tyF
    rw [if_neg (by omega), if_neg (by omega), if_neg (by omega), if_neg (by omega), if_neg (by omega), if_neg (by omega), if_pos kk, hS]
    exact toO_tyO _ _
  have lD : ∀ X, tyD (nMk t) (expo Γ Γ.length S) = some X → (flat X).length ≤ 16 := by
    intro X hX
    obtain ⟨o1, o2⟩ := expo_ok te.1 te.2.1 Γ.length S oS.1 oS.2
    have hl := len_pts o1
    have m3 := (w11 kk).1
    unfold tyD at hX
    by_cases q : (8 ≤ hd (expo Γ Γ.length S) ∧ hd (expo Γ Γ.length S) < 16) ∧ bit (hd (expo Γ Γ.length S) - 8) (nMk t) = true
    · rw [if_pos q] at hX
      injection hX with hX
      rw [← hX]
      rcases (show nMk t = 0 ∨ nMk t = 1 ∨ nMk t = 2 by omega) with e | e | e <;> rw [e] <;> omega
    · rw [if_neg q] at hX; cases hX
  rw [ety] at h
  rw [kk]
  refine wp_iload d194_37 rfl ?_
  refine wz_iconst d194_39 ?_
  refine wz_icmp_ne (t := 87) d194_40 (by decide) ⟨by omega, by omega⟩ ⟨by omega, by omega⟩ (fun _ => ?_) (fun hb => absurd hb (by omega))
  refine wp_iload d194_87 rfl ?_
  refine wz_bipush d194_89 (by decide) ?_
  refine wz_icmp_ne (t := 100) d194_91 (by decide) ⟨by omega, by omega⟩ ⟨by omega, by omega⟩ (fun _ => ?_) (fun hb => absurd hb (by omega))
  refine wp_iload d194_100 rfl ?_
  refine wz_bipush d194_102 (by decide) ?_
  refine wz_icmp_ne (t := 111) d194_104 (by decide) ⟨by omega, by omega⟩ ⟨by omega, by omega⟩ (fun hb => absurd (by omega) hb) (fun _ => ?_)
  refine wp_iload_n d194_107 rfl ?_
  refine wp_goto (t := 118) d194_108 (by decide) ?_
  refine wp_istore d194_118 (Nat.le_of_ble_eq_true rfl) rfl ?_
  refine wp_iload d194_120 rfl ?_
  refine wz_bipush d194_122 (by decide) ?_
  refine wz_icmp_eq (t := 134) d194_124 (by decide) ⟨by omega, by omega⟩ ⟨by omega, by omega⟩ (fun hb => absurd hb (by decide)) (fun _ => ?_)
  refine wp_iload d194_127 rfl ?_
  refine wz_bipush d194_129 (by decide) ?_
  refine wz_icmp_ne (t := 163) d194_131 (by decide) ⟨by omega, by omega⟩ ⟨by omega, by omega⟩ (fun _ => ?_) (fun hb => absurd hb (by decide))
  refine wp_iload d194_163 rfl ?_
  refine wz_bipush d194_165 (by decide) ?_
  refine wz_icmp_eq (t := 181) d194_167 (by decide) ⟨by omega, by omega⟩ ⟨by omega, by omega⟩ (fun hb => absurd hb (by decide)) (fun _ => ?_)
  refine wp_aload_n d194_170 rfl ?_
  refine wp_iload_n d194_171 rfl ?_
  refine wp_iload d194_172 rfl ?_
  refine wp_iload_n d194_174 rfl ?_
  refine wp_iload d194_175 rfl ?_
  refine wp_virt (as := [.int (zI (Γ.length : Int)), .int (zI c), .int (zI (i : Int)), .int (zI (i : Int))]) (rest := []) d194_177 rfl rfl rfl (hG.o (by decide) rfl) rfl rfl (Nat.le_of_ble_eq_true rfl) ?_
  refine wc_deep (show d + 1 + 8 ≤ d + 9 by omega) ?_
  refine m_app11 (m := nMk t) (S := S) hG hM hu hx hx2.1 hx2.2 (by omega) (by omega) cx (by omega) te.2.1 oS.1 oS.2 rS k59 m60 (w11 kk).1 (fun N' r g1 g2 g3 => ?_)
  suffices g4 : RA N' (i : Int) _ r from by
    have h4 := h N' r g1 g2 g4
    rcases g3.r with e | e
    · subst e; exact wp_ret d194_180 rfl h4
    · subst e; exact wp_ret d194_180 rfl h4
  cases e : tyD (nMk t) (expo Γ Γ.length S) with
  | none => rw [e] at g3; exact g3
  | some X =>
    rw [e] at g3
    show RA N' (i : Int) (if (flat X).length ≤ 16 then some X else none) r
    rw [if_pos (lD X e)]
    exact g3
theorem rule_7 {S U : Ty} (hG : pm_G Rf K L n) (st : RuS N a b T F t Γ Δ i x) (md : MNd 0 N a b (F + 1) t s ch i) (cx : Ctx N 132 x c Γ) (kk : nKd t = 7) (hS : tyF F (nX t) Γ Δ = .inr S) (hU : tyF F (nY t) Γ Δ = .inr U) (rS : Row N (4 + ((i + 1 : Nat) : Int)) 0 (flat S)) (rU : Row N (4 + ((i + 1 + (tfl (nX t)).length : Nat) : Int)) 0 (flat U)) (h : ∀ (N' : pm_M) (r : Int), (∀ p i, R32 (N' p i)) → RLf (i : Int) x N N' → RA N' (i : Int) (toO (tyF (F + 1) t Γ Δ)) r → Q (some (.int (zI r))) (zM N', Rf, K, L, n, s0)) : pm_Wp none (d + 9) 194 37 [some (.ref 56), some (.int (zI (i : Int))), some (.int (zI s)), some (.int (zI c)), some (.int (zI (Γ.length : Int))), some (.int (zI (nKd t : Int))), none] [] (zM N, Rf, K, L, n, s0) Q := by
  obtain ⟨hM, hu, hx, hx2, hab, pr, nd⟩ := st
  have le := nd.le
  have tl1 := tfl_len nd.sp
  have fu := nd.fu
  have te := nd.te
  have ndX := nd.x (by rw [kk]; rfl)
  have lX := tfl_len ndX.sp
  have oS := tyF_ok F _ _ _ S ndX.tw ndX.te hS
  have k59 : N 59 (i : Int) = 7 := by rw [md.1.2.1, kk]; rfl
  rw [show (4 : Int) + ((i + 1 : Nat) : Int) = 4 + (i : Int) + 1 by omega] at rS
  have ndY := nd.y (by rw [kk]; rfl) (by omega)
  have lY := tfl_len ndY.sp
  have oU := tyF_ok F _ _ _ U ndY.tw ndY.te hU
  obtain ⟨-, l7, -⟩ := nd.tl
  have lb := (l7 kk).2.2 S U hS hU
  have ety : toO (tyF (F + 1) t Γ Δ) = (tyA Γ (expo Γ Γ.length S) U).bind (fun X => if (flat X).length ≤ 16 then some X else none) := by
    unfold tyF
    rw [if_neg (by omega), if_neg (by omega), if_pos kk, hS, hU]
    exact toO_tyO _ _
  have lD : ∀ X, tyA Γ (expo Γ Γ.length S) U = some X → (flat X).length ≤ 16 := by
    intro X hX
    obtain ⟨o1, o2⟩ := expo_ok te.1 te.2.1 Γ.length S oS.1 oS.2
    unfold tyA at hX
    by_cases q : hd (expo Γ Γ.length S) = 1 ∧ bel Γ U (k1 (expo Γ Γ.length S)) = true
    · rw [if_pos q] at hX
      injection hX with hX
      obtain ⟨A, B, e, -, -⟩ := hd_is_fun o1 q.1
      rw [← hX, e]
      rw [e, flat_fun, List.length_cons, List.length_append] at o2
      show (flat B).length ≤ 16
      omega
    · rw [if_neg q] at hX; cases hX
  rw [ety] at h
  rw [kk]
  refine wp_iload d194_37 rfl ?_
  refine wz_iconst d194_39 ?_
  refine wz_icmp_ne (t := 87) d194_40 (by decide) ⟨by omega, by omega⟩ ⟨by omega, by omega⟩ (fun _ => ?_) (fun hb => absurd hb (by omega))
  refine wp_iload d194_87 rfl ?_
  refine wz_bipush d194_89 (by decide) ?_
  refine wz_icmp_ne (t := 100) d194_91 (by decide) ⟨by omega, by omega⟩ ⟨by omega, by omega⟩ (fun _ => ?_) (fun hb => absurd hb (by omega))
  refine wp_iload d194_100 rfl ?_
  refine wz_bipush d194_102 (by decide) ?_
  refine wz_icmp_ne (t := 111) d194_104 (by decide) ⟨by omega, by omega⟩ ⟨by omega, by omega⟩ (fun _ => ?_) (fun hb => absurd hb (by omega))
  refine wp_aload_n d194_111 rfl ?_
  refine wp_iload_n d194_112 rfl ?_
  refine wz_iconst d194_113 ?_
  refine wz_iadd d194_114 ?_
  refine wp_virt (as := [.int (zI ((i : Int) + 1))]) (rest := []) d194_115 rfl rfl rfl (hG.o (by decide) rfl) rfl rfl (Nat.le_of_ble_eq_true rfl) ?_
  refine wc_deep (show d + 7 + 2 ≤ d + 9 by omega) ?_
  rw [show (i : Int) + 1 = ((i + 1 : Nat) : Int) by omega]
  refine m_behind (lo := 0) (nd := a) (sc := b) hG (by omega) ndX.nx.1 ndX.nx.2 ?_
  refine wp_istore d194_118 (Nat.le_of_ble_eq_true rfl) rfl ?_
  refine wp_iload d194_120 rfl ?_
  refine wz_bipush d194_122 (by decide) ?_
  refine wz_icmp_eq (t := 134) d194_124 (by decide) ⟨by omega, by omega⟩ ⟨by omega, by omega⟩ (fun hb => absurd hb (by decide)) (fun _ => ?_)
  refine wp_iload d194_127 rfl ?_
  refine wz_bipush d194_129 (by decide) ?_
  refine wz_icmp_ne (t := 163) d194_131 (by decide) ⟨by omega, by omega⟩ ⟨by omega, by omega⟩ (fun _ => ?_) (fun hb => absurd hb (by decide))
  refine wp_iload d194_163 rfl ?_
  refine wz_bipush d194_165 (by decide) ?_
  refine wz_icmp_eq (t := 181) d194_167 (by decide) ⟨by omega, by omega⟩ ⟨by omega, by omega⟩ (fun hb => absurd hb (by decide)) (fun _ => ?_)
  refine wp_aload_n d194_170 rfl ?_
  refine wp_iload_n d194_171 rfl ?_
  refine wp_iload d194_172 rfl ?_
  refine wp_iload_n d194_174 rfl ?_
  refine wp_iload d194_175 rfl ?_
  refine wp_virt (as := [.int (zI (Γ.length : Int)), .int (zI c), .int (zI (((i + 1 + (tfl (nX t)).length : Nat) : Int))), .int (zI (i : Int))]) (rest := []) d194_177 rfl rfl rfl (hG.o (by decide) rfl) rfl rfl (Nat.le_of_ble_eq_true rfl) ?_
  refine wc_deep (show d + 1 + 8 ≤ d + 9 by omega) ?_
  refine m_app7 (S := S) (T := U) hG hM hu hx hx2.1 hx2.2 (by omega) (by omega) cx (by omega) te.2.1 oS.1 oS.2 rS k59 (by omega) (by omega) (by omega) oU.1 oU.2 rU lb (fun N' r g1 g2 g3 => ?_)
  suffices g4 : RA N' (i : Int) _ r from by
    have h4 := h N' r g1 g2 g4
    rcases g3.r with e | e
    · subst e; exact wp_ret d194_180 rfl h4
    · subst e; exact wp_ret d194_180 rfl h4
  cases e : tyA Γ (expo Γ Γ.length S) U with
  | none => rw [e] at g3; exact g3
  | some X =>
    rw [e] at g3
    show RA N' (i : Int) (if (flat X).length ≤ 16 then some X else none) r
    rw [if_pos (lD X e)]
    exact g3
theorem rule_9 {S : Ty} (hG : pm_G Rf K L n) (st : RuS N a b T F t Γ Δ i x) (md : MNd 0 N a b (F + 1) t s ch i) (cx : Ctx N 132 x c Γ) (kk : nKd t = 9) (hS : tyF F (nX t) Γ Δ = .inr S) (rS : Row N (4 + ((i + 1 : Nat) : Int)) 0 (flat S)) (h : ∀ (N' : pm_M) (r : Int), (∀ p i, R32 (N' p i)) → RLf (i : Int) x N N' → RA N' (i : Int) (toO (tyF (F + 1) t Γ Δ)) r → Q (some (.int (zI r))) (zM N', Rf, K, L, n, s0)) : pm_Wp none (d + 9) 194 37 [some (.ref 56), some (.int (zI (i : Int))), some (.int (zI s)), some (.int (zI c)), some (.int (zI (Γ.length : Int))), some (.int (zI (nKd t : Int))), none] [] (zM N, Rf, K, L, n, s0) Q := by
  obtain ⟨hM, hu, hx, hx2, hab, pr, nd⟩ := st
  have le := nd.le
  have tl1 := tfl_len nd.sp
  have fu := nd.fu
  have te := nd.te
  have ndX := nd.x (by rw [kk]; rfl)
  have lX := tfl_len ndX.sp
  have oS := tyF_ok F _ _ _ S ndX.tw ndX.te hS
  have k59 : N 59 (i : Int) = 9 := by rw [md.1.2.1, kk]; rfl
  rw [show (4 : Int) + ((i + 1 : Nat) : Int) = 4 + (i : Int) + 1 by omega] at rS
  obtain ⟨-, -, -, l9, -⟩ := nd.tl
  have lb := (l9 kk).2 S hS
  obtain ⟨-, -, -, -, -, w9, -, -, -⟩ := nd.tw
  obtain ⟨-, o9, l16⟩ := w9 kk
  obtain ⟨nt, ntl⟩ := md.2.2.2.2.2.2.2.1 (by rw [kk]; rfl)
  have ety : toO (tyF (F + 1) t Γ Δ) = (tyI Γ (expo Γ Γ.length S) (nY t)).bind (fun X => if (flat X).length ≤ 16 then some X else none) := by
    unfold tyF
    rw [if_neg (by omega), if_neg (by omega), if_neg (by omega), if_neg (by omega), if_pos kk, hS]
    exact toO_tyO _ _
  rw [ety] at h
  rw [kk]
  refine wp_iload d194_37 rfl ?_
  refine wz_iconst d194_39 ?_
  refine wz_icmp_ne (t := 87) d194_40 (by decide) ⟨by omega, by omega⟩ ⟨by omega, by omega⟩ (fun _ => ?_) (fun hb => absurd hb (by omega))
  refine wp_iload d194_87 rfl ?_
  refine wz_bipush d194_89 (by decide) ?_
  refine wz_icmp_ne (t := 100) d194_91 (by decide) ⟨by omega, by omega⟩ ⟨by omega, by omega⟩ (fun _ => ?_) (fun hb => absurd hb (by omega))
  refine wp_iload d194_100 rfl ?_
  refine wz_bipush d194_102 (by decide) ?_
  refine wz_icmp_ne (t := 111) d194_104 (by decide) ⟨by omega, by omega⟩ ⟨by omega, by omega⟩ (fun _ => ?_) (fun hb => absurd hb (by omega))
  refine wp_aload_n d194_111 rfl ?_
  refine wp_iload_n d194_112 rfl ?_
  refine wz_iconst d194_113 ?_
  refine wz_iadd d194_114 ?_
  refine wp_virt (as := [.int (zI ((i : Int) + 1))]) (rest := []) d194_115 rfl rfl rfl (hG.o (by decide) rfl) rfl rfl (Nat.le_of_ble_eq_true rfl) ?_
  refine wc_deep (show d + 7 + 2 ≤ d + 9 by omega) ?_
  rw [show (i : Int) + 1 = ((i + 1 : Nat) : Int) by omega]
  refine m_behind (lo := 0) (nd := a) (sc := b) hG (by omega) ndX.nx.1 ndX.nx.2 ?_
  refine wp_istore d194_118 (Nat.le_of_ble_eq_true rfl) rfl ?_
  refine wp_iload d194_120 rfl ?_
  refine wz_bipush d194_122 (by decide) ?_
  refine wz_icmp_eq (t := 134) d194_124 (by decide) ⟨by omega, by omega⟩ ⟨by omega, by omega⟩ (fun hb => absurd hb (by decide)) (fun _ => ?_)
  refine wp_iload d194_127 rfl ?_
  refine wz_bipush d194_129 (by decide) ?_
  refine wz_icmp_ne (t := 163) d194_131 (by decide) ⟨by omega, by omega⟩ ⟨by omega, by omega⟩ (fun _ => ?_) (fun hb => absurd hb (by decide))
  refine wp_iload d194_163 rfl ?_
  refine wz_bipush d194_165 (by decide) ?_
  refine wz_icmp_eq (t := 181) d194_167 (by decide) ⟨by omega, by omega⟩ ⟨by omega, by omega⟩ (fun hb => absurd hb (by decide)) (fun _ => ?_)
  refine wp_aload_n d194_170 rfl ?_
  refine wp_iload_n d194_171 rfl ?_
  refine wp_iload d194_172 rfl ?_
  refine wp_iload_n d194_174 rfl ?_
  refine wp_iload d194_175 rfl ?_
  refine wp_virt (as := [.int (zI (Γ.length : Int)), .int (zI c), .int (zI (((i + 1 + (tfl (nX t)).length : Nat) : Int))), .int (zI (i : Int))]) (rest := []) d194_177 rfl rfl rfl (hG.o (by decide) rfl) rfl rfl (Nat.le_of_ble_eq_true rfl) ?_
  refine wc_deep (show d + 1 + 8 ≤ d + 9 by omega) ?_
  exact m_app9 (a := a) (b := b) (S := S) (A := nY t) hG hM hu hx hx2.1 hx2.2 (by omega) (by omega) cx (by omega) te.2.1 oS.1 oS.2 rS k59 hab.1 hab.2 nt ntl o9 l16 lb (fun N' r g1 g2 g3 => by
    have h4 := h N' r g1 g2 g3
    rcases g3.r with e | e
    · subst e; exact wp_ret d194_180 rfl h4
    · subst e; exact wp_ret d194_180 rfl h4)
theorem rule_12 {S U : Ty} (hC : CmL d) (hG : pm_G Rf K L n) (st : RuS N a b T F t Γ Δ i x) (md : MNd 0 N a b (F + 1) t s ch i) (cx : Ctx N 132 x c Γ) (kk : nKd t = 12) (hS : tyF F (nX t) Γ Δ = .inr S) (hU : tyF F (nY t) Γ Δ = .inr U) (rS : Row N (4 + ((i + 1 : Nat) : Int)) 0 (flat S)) (rU : Row N (4 + ((i + 1 + (tfl (nX t)).length : Nat) : Int)) 0 (flat U)) (h : ∀ (N' : pm_M) (r : Int), (∀ p i, R32 (N' p i)) → RLf (i : Int) x N N' → RA N' (i : Int) (toO (tyF (F + 1) t Γ Δ)) r → Q (some (.int (zI r))) (zM N', Rf, K, L, n, s0)) : pm_Wp none (d + 9) 194 37 [some (.ref 56), some (.int (zI (i : Int))), some (.int (zI s)), some (.int (zI c)), some (.int (zI (Γ.length : Int))), some (.int (zI (nKd t : Int))), none] [] (zM N, Rf, K, L, n, s0) Q := by
  obtain ⟨hM, hu, hx, hx2, hab, pr, nd⟩ := st
  have le := nd.le
  have tl1 := tfl_len nd.sp
  have fu := nd.fu
  have te := nd.te
  have ndX := nd.x (by rw [kk]; rfl)
  have lX := tfl_len ndX.sp
  have oS := tyF_ok F _ _ _ S ndX.tw ndX.te hS
  have k59 : N 59 (i : Int) = 12 := by rw [md.1.2.1, kk]; rfl
  rw [show (4 : Int) + ((i + 1 : Nat) : Int) = 4 + (i : Int) + 1 by omega] at rS
  have ndY := nd.y (by rw [kk]; rfl) (by omega)
  have lY := tfl_len ndY.sp
  have oU := tyF_ok F _ _ _ U ndY.tw ndY.te hU
  obtain ⟨-, -, -, -, -, -, l12⟩ := nd.tl
  obtain ⟨b1, j1, j2⟩ := (l12 kk).2.2 S U hS hU
  have tk : tkb 16 Γ S U := ⟨⟨te.1, oS.1, oU.1⟩, te.2.1, oS.2, oU.2⟩
  have ety : toO (tyF (F + 1) t Γ Δ) = (cmu 0 Γ S U).bind (fun X => if (flat X).length ≤ 16 then some X else none) := by
    unfold tyF
    rw [if_neg (by omega), if_neg (by omega), if_neg (by omega), if_neg (by omega), if_neg (by omega), if_neg (by omega), if_neg (by omega), hS, hU]
    exact toO_tyO _ _
  rw [ety] at h
  have ecm := cmv_cmu (w := 0) tk
  have th : TH N 132 x (4 + (i : Int) + 1) 0 (4 + ((i + 1 + (tfl (nX t)).length : Nat) : Int)) 0 c (Γ.length : Int) (Γ, S, U) := ⟨by omega, by omega, by omega, (show (0 : Int) + ((flat S).length : Int) ≤ 17 by have := oS.2; omega), rS, by omega, by omega, by omega, (show (0 : Int) + ((flat U).length : Int) ≤ 17 by have := oU.2; omega), rU, cx, rfl, te.1, oS.1, oU.1⟩
  rw [kk]
  refine wp_iload d194_37 rfl ?_
  refine wz_iconst d194_39 ?_
  refine wz_icmp_ne (t := 87) d194_40 (by decide) ⟨by omega, by omega⟩ ⟨by omega, by omega⟩ (fun _ => ?_) (fun hb => absurd hb (by omega))
  refine wp_iload d194_87 rfl ?_
  refine wz_bipush d194_89 (by decide) ?_
  refine wz_icmp_ne (t := 100) d194_91 (by decide) ⟨by omega, by omega⟩ ⟨by omega, by omega⟩ (fun _ => ?_) (fun hb => absurd hb (by omega))
  refine wp_iload d194_100 rfl ?_
  refine wz_bipush d194_102 (by decide) ?_
  refine wz_icmp_ne (t := 111) d194_104 (by decide) ⟨by omega, by omega⟩ ⟨by omega, by omega⟩ (fun _ => ?_) (fun hb => absurd hb (by omega))
  refine wp_aload_n d194_111 rfl ?_
  refine wp_iload_n d194_112 rfl ?_
  refine wz_iconst d194_113 ?_
  refine wz_iadd d194_114 ?_
  refine wp_virt (as := [.int (zI ((i : Int) + 1))]) (rest := []) d194_115 rfl rfl rfl (hG.o (by decide) rfl) rfl rfl (Nat.le_of_ble_eq_true rfl) ?_
  refine wc_deep (show d + 7 + 2 ≤ d + 9 by omega) ?_
  rw [show (i : Int) + 1 = ((i + 1 : Nat) : Int) by omega]
  refine m_behind (lo := 0) (nd := a) (sc := b) hG (by omega) ndX.nx.1 ndX.nx.2 ?_
  refine wp_istore d194_118 (Nat.le_of_ble_eq_true rfl) rfl ?_
  refine wp_iload d194_120 rfl ?_
  refine wz_bipush d194_122 (by decide) ?_
  refine wz_icmp_eq (t := 134) d194_124 (by decide) ⟨by omega, by omega⟩ ⟨by omega, by omega⟩ (fun hb => absurd hb (by decide)) (fun _ => ?_)
  refine wp_iload d194_127 rfl ?_
  refine wz_bipush d194_129 (by decide) ?_
  refine wz_icmp_ne (t := 163) d194_131 (by decide) ⟨by omega, by omega⟩ ⟨by omega, by omega⟩ (fun _ => ?_) (fun hb => absurd hb (by decide))
  refine wp_iload d194_163 rfl ?_
  refine wz_bipush d194_165 (by decide) ?_
  refine wz_icmp_eq (t := 181) d194_167 (by decide) ⟨by omega, by omega⟩ ⟨by omega, by omega⟩ (fun _ => ?_) (fun hb => absurd (by decide) hb)
  refine wp_aload_n d194_181 rfl ?_
  refine wz_iconst d194_182 ?_
  refine wz_iconst d194_183 ?_
  refine wp_iload_n d194_184 rfl ?_
  refine wz_iadd d194_185 ?_
  refine wz_iconst d194_186 ?_
  refine wz_iadd d194_187 ?_
  refine wz_iconst d194_188 ?_
  refine wp_iload d194_189 rfl ?_
  refine wz_iadd d194_191 ?_
  refine wp_iload_n d194_192 rfl ?_
  refine wp_iload d194_193 rfl ?_
  refine wp_virt (as := [.int (zI (Γ.length : Int)), .int (zI c), .int (zI (4 + (((i + 1 + (tfl (nX t)).length : Nat) : Int)))), .int (zI ((4 + (i : Int)) + 1)), .int (zI 0)]) (rest := []) d194_195 rfl rfl rfl (hG.o (by decide) rfl) rfl rfl (Nat.le_of_ble_eq_true rfl) ?_
  refine hC N Rf K L n s0 _ 132 x (4 + (i : Int) + 1) (4 + ((i + 1 + (tfl (nX t)).length : Nat) : Int)) c (4 + i + 1) Γ S U hG hM hu hx th (by omega) (by omega) (by omega) hx2.1 (by omega) (by omega) j2 (by omega) (by omega) (fun N' u' x' g1 g2 g3 g4 g5 g6 g7 g8 => ?_)
  have rl : RLf (i : Int) x N N' := fun p k hw => g7 p k (fun e => hw (by unfold WC at e; unfold WRl; omega))
  rw [ecm] at g8
  cases e : cmu 0 Γ S U with
  | none =>
    rw [e] at g8 h
    have e84 : N' 84 0 = 0 := g8
    rw [e84]
    refine wz_iconst d194_198 ?_
    refine wz_icmp_ne (t := 226) d194_199 (by decide) ⟨by omega, by omega⟩ ⟨by omega, by omega⟩ (fun _ => ?_) (fun hb => absurd hb (by decide))
    refine wz_iconst d194_226 ?_
    exact wp_ret d194_227 rfl (h N' 0 g1 rl rfl)
  | some X =>
    rw [e] at g8 h
    have g8 : RS N' u' 0 (lim X) := g8
    unfold lim at g8
    by_cases l16 : (flat X).length ≤ 16
    case neg =>
      rw [if_neg l16] at g8
      have e84 : N' 84 0 = 2 := g8
      rw [e84]
      refine wz_iconst d194_198 ?_
      refine wz_icmp_ne (t := 226) d194_199 (by decide) ⟨by omega, by omega⟩ ⟨by omega, by omega⟩ (fun _ => ?_) (fun hb => absurd hb (by decide))
      refine wz_iconst d194_226 ?_
      refine wp_ret d194_227 rfl (h N' 0 g1 rl ?_)
      show RA N' (i : Int) (if (flat X).length ≤ 16 then some X else none) 0
      rw [if_neg l16]
      exact rfl
    rw [if_pos l16] at g8
    obtain ⟨e84, p1, p2, p3, p4, p5, p6⟩ := g8
    rw [e84]
    refine wz_iconst d194_198 ?_
    refine wz_icmp_ne (t := 226) d194_199 (by decide) ⟨by omega, by omega⟩ ⟨by omega, by omega⟩ (fun hb => absurd (by decide) hb) (fun _ => ?_)
    refine wp_aload_n d194_202 rfl ?_
    refine wp_iload_n d194_203 rfl ?_
    refine wp_aload_n d194_204 rfl ?_
    refine wp_getR (q := 85) d194_205 rfl (hG.o (by decide) rfl) (by decide) (hG.r (by decide +kernel)) (by decide) ?_
    refine wz_iconst d194_208 ?_
    refine wz_iald (z := 600) (v := N' 85 0) d194_209 (hG.a (by decide) rfl rfl) (by omega) (by omega) (by decide) (rfl) ?_
    refine wp_aload_n d194_210 rfl ?_
    refine wp_getR (q := 86) d194_211 rfl (hG.o (by decide) rfl) (by decide) (hG.r (by decide +kernel)) (by decide) ?_
    refine wz_iconst d194_214 ?_
    refine wz_iald (z := 600) (v := N' 86 0) d194_215 (hG.a (by decide) rfl rfl) (by omega) (by omega) (by decide) (rfl) ?_
    refine wp_virt (as := [.int (zI (N' 86 0)), .int (zI (N' 85 0)), .int (zI (i : Int))]) (rest := []) d194_216 rfl rfl rfl (hG.o (by decide) rfl) rfl rfl (Nat.le_of_ble_eq_true rfl) ?_
    refine wc_deep (show d + 5 + 4 ≤ d + 9 by omega) ?_
    refine m_gets2 (l := flat X) hG g1 (by omega) (by omega) (by omega) (by omega) p3 p4 l16 p5 p6 ?_
    refine wz_if_eq (t := 226) d194_219 (by decide) ⟨by omega, by omega⟩ (fun hb => absurd hb (by decide)) (fun _ => ?_)
    refine wz_iconst d194_222 ?_
    refine wp_goto (t := 227) d194_223 (by decide) ?_
    refine wp_ret d194_227 rfl (h _ 1 (mput_R32 g1 (p5.R32 g1)) (rl.put (Or.inl rfl) (by omega)) ?_)
    show RA _ (i : Int) (if (flat X).length ≤ 16 then some X else none) 1
    rw [if_pos l16]
    refine ⟨rfl, ?_⟩
    have := mput_row (flat X) N' (4 + (i : Int)) 0
    rw [Int.add_zero] at this
    exact this
end PmF10
