/-! THE MODEL: rule as one. -/
def yF (F : Nat) (t : Ty) (Γ : List Ty) (Δ : List (Nat × Ty × Nat)) : Sum Nat Ty := if nKd t = 6 then tyF F (nY t) Γ ((nPl t, nX t, Γ.length) :: Δ) else if nKd t = 8 then tyF F (nY t) (nX t :: Γ) Δ else tyF F (nY t) Γ Δ
/-- the parts have types, and the rows hold them -/
def SubT (N : pm_M) (F : Nat) (t : Ty) (Γ : List Ty) (Δ : List (Nat × Ty × Nat)) (i : Nat) : Prop := (sk (nKd t) (nMk t) 0 = 1 → ∃ A, tyF F (nX t) Γ Δ = .inr A ∧ Row N (4 + ((i + 1 : Nat) : Int)) 0 (flat A)) ∧ (sk (nKd t) (nMk t) 1 = 1 → ∃ A, yF F t Γ Δ = .inr A ∧ Row N (4 + ((i + 1 + (tfl (nX t)).length : Nat) : Int)) 0 (flat A)) ∧ (sk (nKd t) (nMk t) 2 = 1 → ∃ A, tyF F (nZ t) Γ Δ = .inr A ∧ Row N (4 + ((i + 1 + (tfl (nX t)).length + (tfl (nY t)).length : Nat) : Int)) 0 (flat A))
section PmF11
variable {d : Nat} {Q : Option Value → pm_S → Prop} {N : pm_M} {Rf : Nat → Nat → Nat} {K L : Nat → Nat} {n s0 : Nat} {a b : Nat} {T : Ty} {F : Nat} {t : Ty} {Γ : List Ty} {Δ : List (Nat × Ty × Nat)} {i : Nat} {x : Int}
theorem m_rule (hC : CmL d) (hG : pm_G Rf K L n) (st : RuS N a b T F t Γ Δ i x) (sb : SubT N F t Γ Δ i) (h : ∀ (N' : pm_M) (r : Int), (∀ p i, R32 (N' p i)) → RLf (i : Int) x N N' → RA N' (i : Int) (toO (tyF (F + 1) t Γ Δ)) r → Q (some (.int (zI r))) (zM N', Rf, K, L, n, s0)) : pm_Wc (d + 10) 194 [.ref 56, .int (zI (i : Int))] (zM N, Rf, K, L, n, s0) Q := by
  obtain ⟨hM, hu, hx, hx2, hab, pr, nd⟩ := id st
  have fu := nd.fu
  have kr := nd.tw.1.1
  obtain ⟨s, ch, md, tc⟩ := nd.md
  have e62 : N 62 (i : Int) = s := md.1.2.2.2.1
  have e59 : N 59 (i : Int) = (nKd t : Int) := md.1.2.1
  have sch := md.1.2.2.2.2
  have ia := md.1.1
  have sr := sch.rng
  have chl := sch.len
  have len := tc.len
  have cont : ∀ c : Int, c = (if s < 0 then -1 else N 77 s) → pm_Wp none (d + 9) 194 21 [some (.ref 56), some (.int (zI (i : Int))), some (.int (zI s)), none, none, none, none] [.int (zI c)] (zM N, Rf, K, L, n, s0) Q := by
    intro c hc
    have cx : Ctx N 132 x c Γ := by
      rw [hc]
      exact (PRk.ctx pr tc sr.2).1.mv (fun _ _ _ => rfl) (by omega) (Int.le_refl _)
    refine wp_istore_n d194_21 (Nat.le_of_ble_eq_true rfl) rfl ?_
    refine wp_aload_n d194_22 rfl ?_
    refine wp_iload_n d194_23 rfl ?_
    refine wp_virt (as := [.int (zI s)]) (rest := []) d194_24 rfl rfl rfl (hG.o (by decide) rfl) rfl rfl (Nat.le_of_ble_eq_true rfl) ?_
    refine wc_deep (show d + 8 + 1 ≤ d + 9 by omega) ?_
    refine m_depthOf (lo := 0) (nd := a) (sc := b) hG sch (by omega) (by omega) ?_
    rw [len]
    refine wp_istore d194_27 (Nat.le_of_ble_eq_true rfl) rfl ?_
    refine wp_aload_n d194_29 rfl ?_
    refine wp_getR (q := 59) d194_30 rfl (hG.o (by decide) rfl) (by decide) (hG.r (by decide +kernel)) (by decide) ?_
    refine wp_iload_n d194_33 rfl ?_
    refine wz_iald (z := 128) (v := (nKd t : Int)) d194_34 (hG.a (by decide) rfl rfl) (by omega) (by omega) (by decide) (e59) ?_
    refine wp_istore d194_35 (Nat.le_of_ble_eq_true rfl) rfl ?_
    rcases (show nKd t = 5 ∨ nKd t = 6 ∨ nKd t = 7 ∨ nKd t = 8 ∨ nKd t = 9 ∨ nKd t = 10 ∨ nKd t = 11 ∨ nKd t = 12 by omega) with kk | kk | kk | kk | kk | kk | kk | kk
    · exact rule_5 hG st md tc kk h
    · obtain ⟨B, q1, q2⟩ := sb.2.1 (by rw [kk]; rfl)
      unfold yF at q1
      rw [if_pos kk] at q1
      exact rule_6 hG st md tc kk q1 q2 h
    · obtain ⟨A, q1, q2⟩ := sb.1 (by rw [kk]; rfl)
      obtain ⟨B, q3, q4⟩ := sb.2.1 (by rw [kk]; rfl)
      unfold yF at q3
      rw [if_neg (by omega), if_neg (by omega)] at q3
      exact rule_7 hG st md cx kk q1 q3 q2 q4 h
    · obtain ⟨B, q1, q2⟩ := sb.2.1 (by rw [kk]; rfl)
      unfold yF at q1
      rw [if_neg (by omega), if_pos kk] at q1
      exact rule_8 hG st md tc kk q1 q2 h
    · obtain ⟨A, q1, q2⟩ := sb.1 (by rw [kk]; rfl)
      exact rule_9 hG st md cx kk q1 q2 h
    · have sk0 : ∀ g, sk (nKd t) (nMk t) g = if bit (nMk t) g = true then 1 else 0 := fun g => by rw [kk]; rfl
      have g0 : ∃ A, (if bit (nMk t) 0 = true then tyF F (nX t) Γ Δ else .inr .nil) = .inr A ∧ (bit (nMk t) 0 = true → Row N (4 + ((i + 1 : Nat) : Int)) 0 (flat A)) := by
        by_cases e : bit (nMk t) 0 = true
        · obtain ⟨A, q1, q2⟩ := sb.1 (by rw [sk0, if_pos e])
          exact ⟨A, by rw [if_pos e]; exact q1, fun _ => q2⟩
        · exact ⟨.nil, if_neg e, fun x => absurd x e⟩
      have g1 : ∃ A, (if bit (nMk t) 1 = true then tyF F (nY t) Γ Δ else .inr .nil) = .inr A ∧ (bit (nMk t) 1 = true → Row N (4 + ((i + 1 + (tfl (nX t)).length : Nat) : Int)) 0 (flat A)) := by
        by_cases e : bit (nMk t) 1 = true
        · obtain ⟨A, q1, q2⟩ := sb.2.1 (by rw [sk0, if_pos e])
          unfold yF at q1
          rw [if_neg (by omega), if_neg (by omega)] at q1
          exact ⟨A, by rw [if_pos e]; exact q1, fun _ => q2⟩
        · exact ⟨.nil, if_neg e, fun x => absurd x e⟩
      have g2 : ∃ A, (if bit (nMk t) 2 = true then tyF F (nZ t) Γ Δ else .inr .nil) = .inr A ∧ (bit (nMk t) 2 = true → Row N (4 + ((i + 1 + (tfl (nX t)).length + (tfl (nY t)).length : Nat) : Int)) 0 (flat A)) := by
        by_cases e : bit (nMk t) 2 = true
        · obtain ⟨A, q1, q2⟩ := sb.2.2 (by rw [sk0, if_pos e])
          exact ⟨A, by rw [if_pos e]; exact q1, fun _ => q2⟩
        · exact ⟨.nil, if_neg e, fun x => absurd x e⟩
      obtain ⟨A, hA, rA⟩ := g0
      obtain ⟨B, hB, rB⟩ := g1
      obtain ⟨C, hC', rC⟩ := g2
      exact rule_10 hG st md kk hA hB hC' rA rB rC h
    · obtain ⟨A, q1, q2⟩ := sb.1 (by rw [kk]; rfl)
      exact rule_11 hG st md cx kk q1 q2 h
    · obtain ⟨A, q1, q2⟩ := sb.1 (by rw [kk]; rfl)
      obtain ⟨B, q3, q4⟩ := sb.2.1 (by rw [kk]; rfl)
      unfold yF at q3
      rw [if_neg (by omega), if_neg (by omega)] at q3
      exact rule_12 hC hG st md cx kk q1 q3 q2 q4 h
  refine wc_in (ls0 := [some (.ref 56), some (.int (zI (i : Int))), none, none, none, none, none]) (by decide) (Nat.le_of_ble_eq_true rfl) rfl rfl ?_
  refine wp_aload_n d194_0 rfl ?_
  refine wp_getR (q := 62) d194_1 rfl (hG.o (by decide) rfl) (by decide) (hG.r (by decide +kernel)) (by decide) ?_
  refine wp_iload_n d194_4 rfl ?_
  refine wz_iald (z := 128) (v := s) d194_5 (hG.a (by decide) rfl rfl) (by omega) (by omega) (by decide) (e62) ?_
  refine wp_istore_n d194_6 (Nat.le_of_ble_eq_true rfl) rfl ?_
  refine wp_iload_n d194_7 rfl ?_
  refine wz_if_ge (t := 15) d194_8 (by decide) ⟨by omega, by omega⟩ (fun hb => ?_) (fun hb => ?_)
  · skip
    refine wp_aload_n d194_15 rfl ?_
    refine wp_getR (q := 77) d194_16 rfl (hG.o (by decide) rfl) (by decide) (hG.r (by decide +kernel)) (by decide) ?_
    refine wp_iload_n d194_19 rfl ?_
    refine wz_iald (z := 64) (v := N 77 s) d194_20 (hG.a (by decide) rfl rfl) (by omega) (by omega) (by decide) (rfl) ?_
    exact cont _ (by rw [if_neg (by omega)])
  · skip
    refine wz_iconst d194_11 ?_
    refine wp_goto (t := 21) d194_12 (by decide) ?_
    exact cont _ (by rw [if_pos (by omega)])
end PmF11
