/-! THE MODEL: the nodes of the kept term, what stands around each. -/
section PmF0
variable {lo : Nat} {d : Nat} {Q : Option Value → pm_S → Prop} {N : pm_M} {Rf : Nat → Nat → Nat} {K L : Nat → Nat} {n s0 : Nat} {nd sc : Nat}
theorem m_binderP {P : Int → List (Nat × Int × Nat) → Prop} (hstep : ∀ t x r, P t (x :: r) → P (N 64 t) r) {k : Nat} {a : Int} {ch : List (Nat × Int × Nat)} {s : Int} (hG : pm_G Rf K L n) (hM : ∀ p i, R32 (N p i)) (hS : SCh lo N nd sc s ch) (hP : P s ch) (hsc : sc ≤ 128) (hk : k ≤ 1) (ra : 0 ≤ a ∧ a ≤ 3) (h1 : ∀ ch' b, fnd k (a + lowc k) ch = some ch' → SCh lo N nd sc b ch' → P b ch' → Q (some (.int (zI b))) (zM N, Rf, K, L, n, s0)) (h0 : fnd k (a + lowc k) ch = none → Q (some (.int (zI (-1)))) (zM N, Rf, K, L, n, s0)) : pm_Wc (d + 1) 146 [.ref 56, .int (zI s), .int (zI (k : Int)), .int (zI a)] (zM N, Rf, K, L, n, s0) Q := by
  have loop : ∀ (ch' : List (Nat × Int × Nat)) (t : Int), SCh lo N nd sc t ch' → P t ch' → fnd k (a + lowc k) ch = fnd k (a + lowc k) ch' → pm_Wp none d 146 3 [some (.ref 56), some (.int (zI s)), some (.int (zI (k : Int))), some (.int (zI a)), some (.int (zI t))] [] (zM N, Rf, K, L, n, s0) Q := by
    intro ch'
    induction ch' with
    | nil =>
      intro t ht hp he
      have ht : t = -1 := ht
      subst ht
      refine wp_iload d146_3 rfl ?_
      refine wz_if_lt (t := 42) d146_5 (by decide) ⟨by omega, by omega⟩ (fun _ => ?_) (fun hb => absurd (by decide) hb)
      refine wp_iload d146_42 rfl ?_
      exact wp_ret d146_44 rfl (h0 he)
    | cons x r ih =>
      intro t ht hp he
      have ht0 := ht
      obtain ⟨g1, g2, g3, g4, g5, g6, g7, g8⟩ := ht
      have ef : fnd k (a + lowc k) (x :: r) = if x.1 = k ∧ x.2.1 = a + lowc k then some (x :: r) else fnd k (a + lowc k) r := rfl
      rw [ef] at he
      have rn := hM 66 t
      refine wp_iload d146_3 rfl ?_
      refine wz_if_lt (t := 42) d146_5 (by decide) ⟨by omega, by omega⟩ (fun hb => absurd hb (by omega)) (fun _ => ?_)
      refine wp_aload_n d146_8 rfl ?_
      refine wp_getR (q := 65) d146_9 rfl (hG.o (by decide) rfl) (by decide) (hG.r (by decide +kernel)) (by decide) ?_
      refine wp_iload d146_12 rfl ?_
      refine wz_iald (z := 128) (v := (x.1 : Int)) d146_14 (hG.a (by decide) rfl rfl) (by omega) (by omega) (by decide) (g2) ?_
      refine wp_iload_n d146_15 rfl ?_
      refine wz_icmp_ne (t := 30) d146_16 (by decide) ⟨by omega, by omega⟩ ⟨by omega, by omega⟩ (fun hk1 => ?_) (fun hk1 => ?_)
      · skip
        rw [if_neg (fun e => hk1 (by rw [e.1]))] at he
        refine wp_aload_n d146_30 rfl ?_
        refine wp_getR (q := 64) d146_31 rfl (hG.o (by decide) rfl) (by decide) (hG.r (by decide +kernel)) (by decide) ?_
        refine wp_iload d146_34 rfl ?_
        refine wz_iald (z := 128) (v := N 64 t) d146_36 (hG.a (by decide) rfl rfl) (by omega) (by omega) (by decide) (rfl) ?_
        refine wp_istore d146_37 (Nat.le_of_ble_eq_true rfl) rfl ?_
        refine wp_goto (t := 3) d146_39 (by decide) ?_
        exact ih _ g8 (hstep _ _ _ hp) he
      have ek : x.1 = k := by omega
      refine wp_aload_n d146_19 rfl ?_
      refine wp_getR (q := 66) d146_20 rfl (hG.o (by decide) rfl) (by decide) (hG.r (by decide +kernel)) (by decide) ?_
      refine wp_iload d146_23 rfl ?_
      refine wz_iald (z := 128) (v := N 66 t) d146_25 (hG.a (by decide) rfl rfl) (by omega) (by omega) (by decide) (rfl) ?_
      refine wp_iload_n d146_26 rfl ?_
      refine wz_icmp_eq (t := 42) d146_27 (by decide) rn ⟨by omega, by omega⟩ (fun hn => ?_) (fun hn => ?_)
      · skip
        rw [if_pos ⟨ek, by rw [← ek]; omega⟩] at he
        refine wp_iload d146_42 rfl ?_
        exact wp_ret d146_44 rfl (h1 _ _ he ht0 hp)
      · skip
        rw [if_neg (fun e => hn (by have := e.2; rw [← ek] at this; omega))] at he
        refine wp_aload_n d146_30 rfl ?_
        refine wp_getR (q := 64) d146_31 rfl (hG.o (by decide) rfl) (by decide) (hG.r (by decide +kernel)) (by decide) ?_
        refine wp_iload d146_34 rfl ?_
        refine wz_iald (z := 128) (v := N 64 t) d146_36 (hG.a (by decide) rfl rfl) (by omega) (by omega) (by decide) (rfl) ?_
        refine wp_istore d146_37 (Nat.le_of_ble_eq_true rfl) rfl ?_
        refine wp_goto (t := 3) d146_39 (by decide) ?_
        exact ih _ g8 (hstep _ _ _ hp) he
  refine wc_in (ls0 := [some (.ref 56), some (.int (zI s)), some (.int (zI (k : Int))), some (.int (zI a)), none]) (by decide) (Nat.le_of_ble_eq_true rfl) rfl rfl ?_
  refine wp_iload_n d146_0 rfl ?_
  refine wp_istore d146_1 (Nat.le_of_ble_eq_true rfl) rfl ?_
  exact loop ch s hS hP rfl
end PmF0
/-- the node of a term at a place of the list of its nodes -/
def nAt : Nat → Ty → List Ty → List (Nat × Ty × Nat) → Nat → Option (Nat × Ty × List Ty × List (Nat × Ty × Nat))
  | 0, _, _, _, _ => none
  | f + 1, t, Γ, Δ, i => if i = 0 then some (f + 1, t, Γ, Δ) else if i < 1 + (tfl (nX t)).length then (if sk (nKd t) (nMk t) 0 = 1 then nAt f (nX t) Γ Δ (i - 1) else none) else if i < 1 + (tfl (nX t)).length + (tfl (nY t)).length then (if nKd t = 6 then nAt f (nY t) Γ ((nPl t, nX t, Γ.length) :: Δ) (i - (1 + (tfl (nX t)).length)) else if nKd t = 8 then nAt f (nY t) (nX t :: Γ) Δ (i - (1 + (tfl (nX t)).length)) else if sk (nKd t) (nMk t) 1 = 1 then nAt f (nY t) Γ Δ (i - (1 + (tfl (nX t)).length)) else none) else if sk (nKd t) (nMk t) 2 = 1 then nAt f (nZ t) Γ Δ (i - (1 + (tfl (nX t)).length + (tfl (nY t)).length)) else none
/-- the binders around, with their types: the owners are nodes of the term -/
def TCh (N : pm_M) (b : Nat) (T : Ty) : Int → List (Nat × Int × Nat) → List Ty → List (Nat × Ty × Nat) → Prop
  | s, [], Γ, Δ => s = -1 ∧ Γ = [] ∧ Δ = []
  | s, e :: ch, Γ, Δ => (0 ≤ s ∧ s < b) ∧ e.1 ≤ 1 ∧ ∃ (o f : Nat) (t : Ty) (Γ' : List Ty) (Δ' : List (Nat × Ty × Nat)), N 67 s = (o : Int) ∧ nAt 24 T [] [] o = some (f, t, Γ', Δ') ∧ e.2.2 = nPl t ∧ ((e.1 = 1 ∧ nKd t = 6 ∧ Γ = Γ' ∧ Δ = (nPl t, nX t, Γ'.length) :: Δ') ∨ (e.1 = 0 ∧ nKd t = 8 ∧ Γ = nX t :: Γ' ∧ Δ = Δ')) ∧ TCh N b T (N 64 s) ch Γ' Δ'
theorem TCh.len {N : pm_M} {b : Nat} {T : Ty} : ∀ {ch : List (Nat × Int × Nat)} {s : Int} {Γ : List Ty} {Δ : List (Nat × Ty × Nat)}, TCh N b T s ch Γ Δ → (tnm ch).length = Γ.length
  | [], _, _, _, h => by rw [h.2.1]; rfl
  | e :: ch, s, Γ, Δ, ⟨_, _, o, f, t, Γ', Δ', _, _, _, g, g2⟩ => by
    have ih := TCh.len g2
    show (if e.1 = 0 then e.2.1 :: tnm ch else tnm ch).length = _
    rcases g with ⟨g, -, g3, -⟩ | ⟨g, -, g3, -⟩
    · rw [if_neg (by omega), ih, g3]
    · rw [if_pos g, g3, List.length_cons, List.length_cons, ih]
theorem TCh.same {N N' : pm_M} {b : Nat} {T : Ty} (h : ∀ (q : Nat) (i : Int), 64 ≤ q → q ≤ 67 → 0 ≤ i → i < b → N' q i = N q i) : ∀ {ch : List (Nat × Int × Nat)} {s : Int} {Γ : List Ty} {Δ : List (Nat × Ty × Nat)}, TCh N b T s ch Γ Δ → TCh N' b T s ch Γ Δ
  | [], _, _, _, t => t
  | e :: ch, s, Γ, Δ, ⟨g0, g1, o, f, t, Γ', Δ', g2, g3, g4, g5, g6⟩ => by
    refine ⟨g0, g1, o, f, t, Γ', Δ', by rw [h 67 _ (by decide) (by decide) g0.1 g0.2]; exact g2, g3, g4, g5, ?_⟩
    rw [h 64 _ (by decide) (by decide) g0.1 g0.2]
    exact g6.same h
/-- the places go down -/
def PD : List (Nat × Ty × Nat) → Prop
  | [] => True
  | a :: r => (∀ q ∈ r.map (fun a => a.1), q < a.1) ∧ PD r
theorem PD.lk : ∀ {Δ : List (Nat × Ty × Nat)} {Δ1 Δ2 : List (Nat × Ty × Nat)} {m : Nat} {x : Ty × Nat}, PD Δ → Δ = Δ1 ++ (m, x) :: Δ2 → dlk Δ m = some x
  | _, [], Δ2, m, x, _, e => by
    rw [e]
    show (if m = m then some x else _) = _
    rw [if_pos rfl]
  | _, a :: Δ1, Δ2, m, x, h, e => by
    subst e
    obtain ⟨h1, h2⟩ := h
    have := h1 m (List.mem_map.mpr ⟨(m, x), List.mem_append_right _ List.mem_cons_self, rfl⟩)
    show (if a.1 = m then some a.2 else dlk (Δ1 ++ (m, x) :: Δ2) m) = _
    rw [if_neg (by omega)]
    exact PD.lk h2 rfl
/-- a node of the kept term, with all that is known of it -/
def ND (N : pm_M) (a b : Nat) (T : Ty) (F : Nat) (t : Ty) (Γ : List Ty) (Δ : List (Nat × Ty × Nat)) (j : Nat) : Prop := TWf F Γ.length (Δ.map (fun a => a.1)) t ∧ TL F t Γ Δ ∧ (TE Γ Δ ∧ PD Δ) ∧ Γ.length + F ≤ 25 ∧ (∀ k, k < (tfl t).length → nAt 24 T [] [] (j + k) = nAt F t Γ Δ k) ∧ j + (tfl t).length ≤ a ∧ ∃ s ch, MNd 0 N a b F t s ch j ∧ TCh N b T s ch Γ Δ
theorem tfl_is {t : Ty} (h : t = mN (nPl t) (nKd t) (nMk t) (nX t) (nY t) (nZ t)) : tfl t = tcode (nKd t) (nMk t) :: (tfl (nX t) ++ (tfl (nY t) ++ tfl (nZ t))) := by
  conv => lhs; rw [h]
  rfl
theorem tfl_len {t : Ty} (h : t = mN (nPl t) (nKd t) (nMk t) (nX t) (nY t) (nZ t)) : (tfl t).length = 1 + (tfl (nX t)).length + (tfl (nY t)).length + (tfl (nZ t)).length := by
  rw [tfl_is h, List.length_cons, List.length_append, List.length_append]; omega
theorem TWf.shp {f D : Nat} {sc : List Nat} {t : Ty} (h : TWf f D sc t) : t = mN (nPl t) (nKd t) (nMk t) (nX t) (nY t) (nZ t) := by
  cases f with
  | zero => exact h.elim
  | succ f => exact h.1.2.1
theorem sk_6 {k m : Nat} (h : k = 6 ∨ k = 8) : sk k m 0 = 2 ∧ sk k m 1 = 1 ∧ sk k m 2 = 0 := by
  rcases h with rfl | rfl <;> exact ⟨rfl, rfl, rfl⟩
theorem sk_0 {k m : Nat} (h : sk k m 0 = 1) : k = 7 ∨ k = 12 ∨ k = 9 ∨ (k = 10 ∧ bit m 0 = true) ∨ k = 11 := by
  unfold sk at h
  by_cases c1 : k = 6 ∨ k = 8
  · rw [if_pos c1, if_pos rfl] at h; cases h
  rw [if_neg c1] at h
  by_cases c2 : k = 7 ∨ k = 12
  · omega
  rw [if_neg c2] at h
  by_cases c3 : k = 9
  · omega
  rw [if_neg c3] at h
  by_cases c4 : k = 10
  · rw [if_pos c4] at h
    by_cases c5 : bit m 0 = true
    · exact Or.inr (Or.inr (Or.inr (Or.inl ⟨c4, c5⟩)))
    · rw [if_neg c5] at h; cases h
  rw [if_neg c4] at h
  by_cases c5 : k = 11
  · omega
  · rw [if_neg c5] at h; cases h
theorem sk_1 {k m : Nat} (h : sk k m 1 = 1) : k = 6 ∨ k = 8 ∨ k = 7 ∨ k = 12 ∨ (k = 10 ∧ bit m 1 = true) := by
  unfold sk at h
  by_cases c1 : k = 6 ∨ k = 8
  · omega
  rw [if_neg c1] at h
  by_cases c2 : k = 7 ∨ k = 12
  · omega
  rw [if_neg c2] at h
  by_cases c3 : k = 9
  · rw [if_pos c3, if_neg (by decide), if_pos rfl] at h; cases h
  rw [if_neg c3] at h
  by_cases c4 : k = 10
  · rw [if_pos c4] at h
    by_cases c5 : bit m 1 = true
    · exact Or.inr (Or.inr (Or.inr (Or.inr ⟨c4, c5⟩)))
    · rw [if_neg c5] at h; cases h
  rw [if_neg c4] at h
  by_cases c5 : k = 11
  · rw [if_pos c5, if_neg (by decide)] at h; cases h
  · rw [if_neg c5] at h; cases h
theorem sk_2 {k m : Nat} (h : sk k m 2 = 1) : k = 10 ∧ bit m 2 = true := by
  unfold sk at h
  by_cases c1 : k = 6 ∨ k = 8
  · rw [if_pos c1, if_neg (by decide), if_neg (by decide)] at h; cases h
  rw [if_neg c1] at h
  by_cases c2 : k = 7 ∨ k = 12
  · rw [if_pos c2, if_neg (by decide)] at h; cases h
  rw [if_neg c2] at h
  by_cases c3 : k = 9
  · rw [if_pos c3, if_neg (by decide), if_neg (by decide)] at h; cases h
  rw [if_neg c3] at h
  by_cases c4 : k = 10
  · rw [if_pos c4] at h
    by_cases c5 : bit m 2 = true
    · exact ⟨c4, c5⟩
    · rw [if_neg c5] at h; cases h
  rw [if_neg c4] at h
  by_cases c5 : k = 11
  · rw [if_pos c5, if_neg (by decide)] at h; cases h
  · rw [if_neg c5] at h; cases h
section PmF1
variable {N : pm_M} {a b : Nat} {T : Ty} {F : Nat} {t : Ty} {Γ : List Ty} {Δ : List (Nat × Ty × Nat)} {j : Nat}
theorem ND.tw (h : ND N a b T F t Γ Δ j) : TWf F Γ.length (Δ.map (fun a => a.1)) t := h.1
theorem ND.tl (h : ND N a b T F t Γ Δ j) : TL F t Γ Δ := h.2.1
theorem ND.te (h : ND N a b T F t Γ Δ j) : TE Γ Δ := h.2.2.1.1
theorem ND.pd (h : ND N a b T F t Γ Δ j) : PD Δ := h.2.2.1.2
theorem ND.fu (h : ND N a b T F t Γ Δ j) : Γ.length + F ≤ 25 := h.2.2.2.1
theorem ND.na (h : ND N a b T F t Γ Δ j) : ∀ k, k < (tfl t).length → nAt 24 T [] [] (j + k) = nAt F t Γ Δ k := h.2.2.2.2.1
theorem ND.le (h : ND N a b T F t Γ Δ j) : j + (tfl t).length ≤ a := h.2.2.2.2.2.1
theorem ND.md (h : ND N a b T F t Γ Δ j) : ∃ s ch, MNd 0 N a b F t s ch j ∧ TCh N b T s ch Γ Δ := h.2.2.2.2.2.2
theorem ND.sp (h : ND N a b T F t Γ Δ j) : t = mN (nPl t) (nKd t) (nMk t) (nX t) (nY t) (nZ t) := h.tw.shp
theorem ND.at0 (h : ND N a b T (F + 1) t Γ Δ j) : nAt 24 T [] [] j = some (F + 1, t, Γ, Δ) := by
  have := h.na 0 (by rw [tfl_len h.sp]; omega)
  rw [Nat.add_zero] at this
  rw [this]
  show (if 0 = 0 then _ else _) = _
  rw [if_pos rfl]
/-- the parts -/
theorem ND.x (h : ND N a b T (F + 1) t Γ Δ j) (hk : sk (nKd t) (nMk t) 0 = 1) : ND N a b T F (nX t) Γ Δ (j + 1) := by
  have hl := tfl_len h.sp
  obtain ⟨s, ch, ⟨⟨m1, m2, m3, m40, m4⟩, m5, m6, m7, m8, m9, m10, m11, m12⟩, tc⟩ := h.md
  obtain ⟨w0, w5, w6, w7, w8, w9, w10, w11, w12⟩ := h.tw
  obtain ⟨l6, l7, l8, l9, l10, l11, l12⟩ := h.tl
  have fu := h.fu
  have le := h.le
  have tw : TWf F Γ.length (Δ.map (fun a => a.1)) (nX t) := by
    rcases sk_0 hk with c | c | c | c | c
    · exact (w7 (Or.inl c)).1
    · exact (w7 (Or.inr c)).1
    · exact (w9 c).1
    · exact (w10 c.1).2 0 (by decide) c.2
    · exact (w11 c).2
  have tl : TL F (nX t) Γ Δ := by
    rcases sk_0 hk with c | c | c | c | c
    · exact (l7 c).1
    · exact (l12 c).1
    · exact (l9 c).1
    · exact l10 c.1 0 (by decide) c.2
    · exact l11 c
  refine ⟨tw, tl, h.2.2.1, by omega, fun k hk2 => ?_, by omega, s, ch, m7 hk, tc⟩
  have := h.na (1 + k) (by omega)
  rw [← Nat.add_assoc] at this
  rw [this]
  show (if 1 + k = 0 then _ else if 1 + k < 1 + (tfl (nX t)).length then (if sk (nKd t) (nMk t) 0 = 1 then nAt F (nX t) Γ Δ (1 + k - 1) else none) else _) = _
  rw [if_neg (by omega), if_pos (by omega), if_pos hk, show 1 + k - 1 = k by omega]
theorem nAt_y {k : Nat} (hl : k < (tfl (nY t)).length) : nAt (F + 1) t Γ Δ (1 + (tfl (nX t)).length + k) = if nKd t = 6 then nAt F (nY t) Γ ((nPl t, nX t, Γ.length) :: Δ) k else if nKd t = 8 then nAt F (nY t) (nX t :: Γ) Δ k else if sk (nKd t) (nMk t) 1 = 1 then nAt F (nY t) Γ Δ k else none := by
  conv => lhs; unfold nAt
  rw [if_neg (by omega), if_neg (by omega), if_pos (by omega), show 1 + (tfl (nX t)).length + k - (1 + (tfl (nX t)).length) = k by omega]
theorem nAt_z {k : Nat} : nAt (F + 1) t Γ Δ (1 + (tfl (nX t)).length + (tfl (nY t)).length + k) = if sk (nKd t) (nMk t) 2 = 1 then nAt F (nZ t) Γ Δ k else none := by
  conv => lhs; unfold nAt
  rw [if_neg (by omega), if_neg (by omega), if_neg (by omega), show 1 + (tfl (nX t)).length + (tfl (nY t)).length + k - (1 + (tfl (nX t)).length + (tfl (nY t)).length) = k by omega]
theorem ND.y (h : ND N a b T (F + 1) t Γ Δ j) (hk : sk (nKd t) (nMk t) 1 = 1) (hn : ¬ (nKd t = 6 ∨ nKd t = 8)) : ND N a b T F (nY t) Γ Δ (j + 1 + (tfl (nX t)).length) := by
  have hl := tfl_len h.sp
  obtain ⟨s, ch, ⟨⟨m1, m2, m3, m40, m4⟩, m5, m6, m7, m8, m9, m10, m11, m12⟩, tc⟩ := h.md
  obtain ⟨w0, w5, w6, w7, w8, w9, w10, w11, w12⟩ := h.tw
  obtain ⟨l6, l7, l8, l9, l10, l11, l12⟩ := h.tl
  have fu := h.fu
  have le := h.le
  have tw : TWf F Γ.length (Δ.map (fun a => a.1)) (nY t) := by
    rcases sk_1 hk with c | c | c | c | c
    · exact absurd (Or.inl c) hn
    · exact absurd (Or.inr c) hn
    · exact (w7 (Or.inl c)).2
    · exact (w7 (Or.inr c)).2
    · exact (w10 c.1).2 1 (by decide) c.2
  have tl : TL F (nY t) Γ Δ := by
    rcases sk_1 hk with c | c | c | c | c
    · exact absurd (Or.inl c) hn
    · exact absurd (Or.inr c) hn
    · exact (l7 c).2.1
    · exact (l12 c).2.1
    · exact l10 c.1 1 (by decide) c.2
  refine ⟨tw, tl, h.2.2.1, by omega, fun k hk2 => ?_, by omega, s, ch, m9 hk hn, tc⟩
  have := h.na (1 + (tfl (nX t)).length + k) (by omega)
  rw [nAt_y hk2, if_neg (fun e => hn (Or.inl e)), if_neg (fun e => hn (Or.inr e)), if_pos hk] at this
  rw [← this]
  congr 1
  omega
theorem ND.z (h : ND N a b T (F + 1) t Γ Δ j) (hk : sk (nKd t) (nMk t) 2 = 1) : ND N a b T F (nZ t) Γ Δ (j + 1 + (tfl (nX t)).length + (tfl (nY t)).length) := by
  have hl := tfl_len h.sp
  obtain ⟨s, ch, ⟨⟨m1, m2, m3, m40, m4⟩, m5, m6, m7, m8, m9, m10, m11, m12⟩, tc⟩ := h.md
  obtain ⟨w0, w5, w6, w7, w8, w9, w10, w11, w12⟩ := h.tw
  obtain ⟨l6, l7, l8, l9, l10, l11, l12⟩ := h.tl
  have fu := h.fu
  have le := h.le
  have c := sk_2 hk
  refine ⟨(w10 c.1).2 2 (by decide) c.2, l10 c.1 2 (by decide) c.2, h.2.2.1, by omega, fun k hk2 => ?_, by omega, s, ch, m12 hk, tc⟩
  have := h.na (1 + (tfl (nX t)).length + (tfl (nY t)).length + k) (by omega)
  rw [nAt_z, if_pos hk] at this
  rw [← this]
  congr 1
  omega
theorem ND.lam (h : ND N a b T (F + 1) t Γ Δ j) (hk : nKd t = 6) : ND N a b T F (nY t) Γ ((nPl t, nX t, Γ.length) :: Δ) (j + 1 + (tfl (nX t)).length) := by
  have hl := tfl_len h.sp
  obtain ⟨s, ch, ⟨⟨m1, m2, m3, m40, m4⟩, m5, m6, m7, m8, m9, m10, m11, m12⟩, tc⟩ := h.md
  obtain ⟨w0, w5, w6, w7, w8, w9, w10, w11, w12⟩ := h.tw
  obtain ⟨l6, l7, l8, l9, l10, l11, l12⟩ := h.tl
  have fu := h.fu
  have le := h.le
  obtain ⟨-, x1, x2, x3⟩ := w6 hk
  obtain ⟨nm, c0, c1, c2⟩ := m10 (Or.inl hk)
  rw [if_pos hk] at c1 c2
  have cr := c1.1
  refine ⟨x3, l6 hk, ⟨h.te.lam x1 x2, w0.2.2.2, h.pd⟩, by omega, fun k hk2 => ?_, by omega, N 63 (j : Int), _, c2, ⟨cr.1, cr.2⟩, Nat.le_refl _, j, F + 1, t, Γ, Δ, c0.1, h.at0, rfl, Or.inl ⟨rfl, hk, rfl, rfl⟩, by rw [c0.2]; exact tc⟩
  have := h.na (1 + (tfl (nX t)).length + k) (by omega)
  rw [nAt_y hk2, if_pos hk] at this
  rw [← this]
  congr 1
  omega
theorem ND.all (h : ND N a b T (F + 1) t Γ Δ j) (hk : nKd t = 8) : ND N a b T F (nY t) (nX t :: Γ) Δ (j + 1 + (tfl (nX t)).length) := by
  have hl := tfl_len h.sp
  obtain ⟨s, ch, ⟨⟨m1, m2, m3, m40, m4⟩, m5, m6, m7, m8, m9, m10, m11, m12⟩, tc⟩ := h.md
  obtain ⟨w0, w5, w6, w7, w8, w9, w10, w11, w12⟩ := h.tw
  obtain ⟨l6, l7, l8, l9, l10, l11, l12⟩ := h.tl
  have fu := h.fu
  have le := h.le
  obtain ⟨x1, x2, x3⟩ := w8 hk
  obtain ⟨nm, c0, c1, c2⟩ := m10 (Or.inr hk)
  rw [if_neg (by omega)] at c1 c2
  have cr := c1.1
  refine ⟨x3, l8 hk, ⟨h.te.all x1 x2, h.pd⟩, by rw [List.length_cons]; omega, fun k hk2 => ?_, by omega, N 63 (j : Int), _, c2, ⟨cr.1, cr.2⟩, Nat.zero_le _, j, F + 1, t, Γ, Δ, c0.1, h.at0, rfl, Or.inr ⟨rfl, hk, rfl, rfl⟩, by rw [c0.2]; exact tc⟩
  have := h.na (1 + (tfl (nX t)).length + k) (by omega)
  rw [nAt_y hk2, if_neg (by omega), if_pos hk] at this
  rw [← this]
  congr 1
  omega
end PmF1
theorem ND.at {N : pm_M} {a b : Nat} {T : Ty} : ∀ {F : Nat} {t : Ty} {Γ : List Ty} {Δ : List (Nat × Ty × Nat)} {j i f : Nat} {t' : Ty} {Γ' : List Ty} {Δ' : List (Nat × Ty × Nat)}, ND N a b T F t Γ Δ j → i < (tfl t).length → nAt F t Γ Δ i = some (f, t', Γ', Δ') → ND N a b T f t' Γ' Δ' (j + i) ∧ 1 ≤ f
  | 0, _, _, _, _, _, _, _, _, _, _, _, h => by cases h
  | F + 1, t, Γ, Δ, j, i, f, t', Γ', Δ', hn, hi, h => by
    have hl := tfl_len hn.sp
    by_cases c0 : i = 0
    · subst c0
      have h : (if 0 = 0 then some (F + 1, t, Γ, Δ) else _) = some (f, t', Γ', Δ') := h
      rw [if_pos rfl] at h
      injection h with h
      injection h with h1 h
      injection h with h2 h
      injection h with h3 h4
      subst h1 h2 h3 h4
      exact ⟨hn, by omega⟩
    by_cases c1 : i < 1 + (tfl (nX t)).length
    · unfold nAt at h
      rw [if_neg c0, if_pos c1] at h
      by_cases k : sk (nKd t) (nMk t) 0 = 1
      · rw [if_pos k] at h
        have := ND.at (hn.x k) (by omega) h
        rw [show j + 1 + (i - 1) = j + i by omega] at this
        exact this
      · rw [if_neg k] at h; cases h
    by_cases c2 : i < 1 + (tfl (nX t)).length + (tfl (nY t)).length
    · unfold nAt at h
      rw [if_neg c0, if_neg c1, if_pos c2] at h
      have e : j + 1 + (tfl (nX t)).length + (i - (1 + (tfl (nX t)).length)) = j + i := by omega
      by_cases k6 : nKd t = 6
      · rw [if_pos k6] at h
        have := ND.at (hn.lam k6) (by omega) h
        rw [e] at this
        exact this
      rw [if_neg k6] at h
      by_cases k8 : nKd t = 8
      · rw [if_pos k8] at h
        have := ND.at (hn.all k8) (by omega) h
        rw [e] at this
        exact this
      rw [if_neg k8] at h
      by_cases k : sk (nKd t) (nMk t) 1 = 1
      · rw [if_pos k] at h
        have := ND.at (hn.y k (by omega)) (by omega) h
        rw [e] at this
        exact this
      · rw [if_neg k] at h; cases h
    · unfold nAt at h
      rw [if_neg c0, if_neg c1, if_neg c2] at h
      by_cases k : sk (nKd t) (nMk t) 2 = 1
      · rw [if_pos k] at h
        have := ND.at (hn.z k) (by omega) h
        rw [show j + 1 + (tfl (nX t)).length + (tfl (nY t)).length + (i - (1 + (tfl (nX t)).length + (tfl (nY t)).length)) = j + i by omega] at this
        exact this
      · rw [if_neg k] at h; cases h
theorem NT.op {lo : Nat} {N : pm_M} {nd sc : Nat} {j c : Int} {b : Bool} (h : NT lo N nd sc j c b) : 0 ≤ N 59 j ∧ N 59 j < 5 := by
  rcases h with ⟨-, h, h1, h2⟩ | ⟨-, h, -⟩ | ⟨h, -⟩ <;> omega
theorem NTl.op {lo : Nat} {N : pm_M} {nd sc : Nat} : ∀ {l : List Int} {i : Nat} {b : Bool} {k : Nat}, NTl lo N nd sc i l b → k < l.length → 0 ≤ N 59 ((i + k : Nat) : Int) ∧ N 59 ((i + k : Nat) : Int) < 5
  | [], _, _, k, _, h => absurd h (Nat.not_lt_zero _)
  | c :: l, i, b, 0, ⟨b1, b2, t1, t2, t3⟩, h => t1.op
  | c :: l, i, b, k + 1, ⟨b1, b2, t1, t2, t3⟩, h => by
    rw [List.length_cons] at h
    have := NTl.op (k := k) t2 (by omega)
    rw [show i + 1 + k = i + (k + 1) by omega] at this
    exact this
theorem sk_any {k m g : Nat} (hk : 5 ≤ k ∧ k ≤ 12) (hg : g < 3) : sk k m g = 0 ∨ sk k m g = 1 ∨ (sk k m g = 2 ∧ ((g = 0 ∧ (k = 6 ∨ k = 8)) ∨ (g = 1 ∧ k = 9))) := by
  have e : sk 10 m g = if bit m g = true then 1 else 0 := rfl
  rcases (show k = 5 ∨ k = 6 ∨ k = 7 ∨ k = 8 ∨ k = 9 ∨ k = 10 ∨ k = 11 ∨ k = 12 by omega) with rfl | rfl | rfl | rfl | rfl | rfl | rfl | rfl
  case inr.inr.inr.inr.inr.inl =>
    rw [e]
    by_cases c : bit m g = true
    · rw [if_pos c]; exact Or.inr (Or.inl rfl)
    · rw [if_neg c]; exact Or.inl rfl
  all_goals rcases (show g = 0 ∨ g = 1 ∨ g = 2 by omega) with rfl | rfl | rfl <;> first | exact Or.inl rfl | exact Or.inr (Or.inl rfl) | exact Or.inr (Or.inr ⟨rfl, by decide⟩)
/-- every node that is no type's -/
theorem ND.ex {N : pm_M} {a b : Nat} {T : Ty} : ∀ {F : Nat} {t : Ty} {Γ : List Ty} {Δ : List (Nat × Ty × Nat)} {j i : Nat}, ND N a b T F t Γ Δ j → i < (tfl t).length → 5 ≤ N 59 ((j + i : Nat) : Int) → ∃ f t' Γ' Δ', nAt F t Γ Δ i = some (f, t', Γ', Δ')
  | 0, _, _, _, _, _, h, _, _ => h.1.elim
  | F + 1, t, Γ, Δ, j, i, hn, hi, h5 => by
    have hl := tfl_len hn.sp
    obtain ⟨w0, w5, w6, w7, w8, w9, w10, w11, w12⟩ := hn.tw
    obtain ⟨s, ch, ⟨⟨m1, m2, m3, m40, m4⟩, m5, m6, m7, m8, m9, m10, m11, m12⟩, tc⟩ := hn.md
    have nil0 : ∀ g, g < 3 → sk (nKd t) (nMk t) g = 0 → (tfl (nP t g)).length = 0 := fun g hg e => by rw [w0.2.2.1 g hg e]; rfl
    by_cases c0 : i = 0
    · subst c0
      exact ⟨F + 1, t, Γ, Δ, by unfold nAt; rw [if_pos rfl]⟩
    by_cases c1 : i < 1 + (tfl (nX t)).length
    · unfold nAt
      rw [if_neg c0, if_pos c1]
      rcases sk_any (m := nMk t) (g := 0) w0.1 (by decide) with e | e | ⟨e, e2⟩
      · have : (tfl (nX t)).length = 0 := nil0 0 (by decide) e
        omega
      · rw [if_pos e]
        exact ND.ex (hn.x e) (by omega) (by rw [show j + 1 + (i - 1) = j + i by omega]; exact h5)
      · have o : ok Γ.length (nX t) = true := by
          rcases e2 with ⟨-, e2 | e2⟩ | ⟨e2, -⟩
          · exact (w6 e2).2.1
          · exact (w8 e2).1
          · cases e2
        rw [tfl_ty o] at c1
        have := (m8 e).1.op (k := i - 1) (by omega)
        rw [show j + 1 + (i - 1) = j + i by omega] at this
        omega
    by_cases c2 : i < 1 + (tfl (nX t)).length + (tfl (nY t)).length
    · have ei : j + 1 + (tfl (nX t)).length + (i - (1 + (tfl (nX t)).length)) = j + i := by omega
      unfold nAt
      rw [if_neg c0, if_neg c1, if_pos c2]
      by_cases k6 : nKd t = 6
      · rw [if_pos k6]
        exact ND.ex (hn.lam k6) (by omega) (by rw [ei]; exact h5)
      rw [if_neg k6]
      by_cases k8 : nKd t = 8
      · rw [if_pos k8]
        exact ND.ex (hn.all k8) (by omega) (by rw [ei]; exact h5)
      rw [if_neg k8]
      rcases sk_any (m := nMk t) (g := 1) w0.1 (by decide) with e | e | ⟨e, e2⟩
      · have : (tfl (nY t)).length = 0 := nil0 1 (by decide) e
        omega
      · rw [if_pos e]
        exact ND.ex (hn.y e (by omega)) (by omega) (by rw [ei]; exact h5)
      · have o : ok Γ.length (nY t) = true := by
          rcases e2 with ⟨e2, -⟩ | ⟨-, e2⟩
          · cases e2
          · exact (w9 e2).2.1
        have c3 := c2
        rw [tfl_ty o] at c3
        have := (m11 e).1.op (k := i - (1 + (tfl (nX t)).length)) (by omega)
        rw [ei] at this
        omega
    · unfold nAt
      rw [if_neg c0, if_neg c1, if_neg c2]
      rcases sk_any (m := nMk t) (g := 2) w0.1 (by decide) with e | e | ⟨e, e2⟩
      · have : (tfl (nZ t)).length = 0 := nil0 2 (by decide) e
        omega
      · rw [if_pos e]
        exact ND.ex (hn.z e) (by omega) (by rw [show j + 1 + (tfl (nX t)).length + (tfl (nY t)).length + (i - (1 + (tfl (nX t)).length + (tfl (nY t)).length)) = j + i by omega]; exact h5)
      · rcases e2 with ⟨e2, -⟩ | ⟨e2, -⟩ <;> cases e2
/-- from the root -/
theorem ND.root {N : pm_M} {a b : Nat} {T : Ty} (h1 : TWf 24 0 [] T) (h2 : TL 24 T [] []) (h3 : MNd 0 N a b 24 T (-1) [] 0) (ha : a = (tfl T).length) : ND N a b T 24 T [] [] 0 :=
  ⟨h1, h2, ⟨⟨trivial, fun k hk => absurd hk (Nat.not_lt_zero _), fun a ha => by cases ha⟩, trivial⟩, by show 0 + 24 ≤ 25; decide, fun k hk => by rw [Nat.zero_add], by omega, -1, [], h3, rfl, rfl, rfl⟩

