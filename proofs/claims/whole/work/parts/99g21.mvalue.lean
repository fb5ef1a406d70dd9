/-! THE MODEL: value. -/
def ctx (H : Int → Option Ty) (c : Int) : List Int := if 0 ≤ c then [c] else match H (-1 - c) with
  | some v => vtx v
  | none => []
theorem ctx_pos {H : Int → Option Ty} {c : Int} (h : 0 ≤ c) : ctx H c = [c] := by unfold ctx; rw [if_pos h]
theorem ctx_neg {H : Int → Option Ty} {c : Int} {v : Ty} (h : ¬ 0 ≤ c) (e : H (-1 - c) = some v) : ctx H c = vtx v := by unfold ctx; rw [if_neg h, e]
def Cod (H : Int → Option Ty) (s : List Int) : Prop := ∀ c ∈ s, 0 ≤ c ∨ (c < 0 ∧ ∃ v, H (-1 - c) = some v)
def OR (N : pm_M) (o : List Int) : Prop := ∀ i : Nat, i < o.length → o[i]? = some (N 99 i)
theorem OR.push {N : pm_M} {o : List Int} (h : OR N o) (c : Int) : OR (mset N 99 (o.length : Int) c) (o ++ [c]) := by
  intro i hi
  rw [List.length_append] at hi
  have hi : i < o.length + 1 := hi
  by_cases e : i = o.length
  · rw [e, mset_s, List.getElem?_append_right (Nat.le_refl _), Nat.sub_self]; rfl
  · rw [mset_i' (by omega), List.getElem?_append_left (by omega)]
    exact h i (by omega)
theorem OR.same {N N' : pm_M} {o : List Int} (h : OR N o) (e : ∀ i : Int, N' 99 i = N 99 i) : OR N' o := fun i hi => by rw [e]; exact h i hi
theorem sgm_cod {H : Int → Option Ty} {m k : Nat} {lo : Bool} {p : Int} {v : Ty} (h : bit m k = true → H p = some v ∧ 0 ≤ p) : Cod H (sgm m k lo (-1 - p)) := by
  intro c hc
  unfold sgm at hc
  by_cases b : bit m k = true
  · rw [if_pos b] at hc
    rcases List.mem_append.mp hc with q | q
    · by_cases e : lo = true
      · rw [if_pos e] at q; rw [List.mem_singleton] at q; left; omega
      · rw [if_neg e] at q; cases q
    · simp only [List.mem_cons, List.not_mem_nil, or_false] at q
      rcases q with q | q | q
      · left; omega
      · left; omega
      · right; exact ⟨by have := (h b).2; omega, v, by rw [q, show -1 - (-1 - p) = p by omega]; exact (h b).1⟩
  · rw [if_neg b] at hc; cases hc
theorem sgm_ctx {H : Int → Option Ty} {m k : Nat} {lo : Bool} {p : Int} {v : Ty} (h : bit m k = true → H p = some v ∧ 0 ≤ p) : (sgm m k lo (-1 - p)).flatMap (ctx H) = if bit m k = true then (if lo = true then [44] else []) ++ ((120 + (k : Int)) :: 61 :: vtx v) else [] := by
  unfold sgm
  by_cases b : bit m k = true
  · rw [if_pos b, if_pos b]
    have e1 : ctx H (120 + (k : Int)) = [120 + (k : Int)] := ctx_pos (by omega)
    have e2 : ctx H 61 = [61] := ctx_pos (by omega)
    have e3 : ctx H (-1 - p) = vtx v := ctx_neg (by have := (h b).2; omega) (by rw [show -1 - (-1 - p) = p by omega]; exact (h b).1)
    have e4 : ctx H 44 = [44] := ctx_pos (by omega)
    by_cases e : lo = true
    · rw [if_pos e, List.flatMap_append]
      simp only [List.flatMap_cons, List.flatMap_nil, e1, e2, e3, e4, List.cons_append, List.nil_append, List.append_nil]
    · rw [if_neg e]
      simp only [List.flatMap_cons, List.flatMap_nil, e1, e2, e3, List.cons_append, List.nil_append, List.append_nil]
  · rw [if_neg b, if_neg b]; rfl
theorem m42 : ∀ m, m < 8 → ((decide (m % 4 ≠ 0) = true ↔ (bit m 0 = true ∨ bit m 1 = true)) ∧ (decide (m % 2 ≠ 0) = true ↔ bit m 0 = true)) := by decide
/-- a record, as it waits -/
theorem rec_ctx {H : Int → Option Ty} {m : Nat} {x y z : Ty} {p : Nat → Int} (m8 : m < 8) (h : ∀ g, g < 3 → bit m g = true → H (p g) = some (rP (vR m x y z) g) ∧ 0 ≤ p g) : 123 :: (sgm m 0 false (-1 - p 0) ++ (sgm m 1 (decide (m % 2 ≠ 0)) (-1 - p 1) ++ (sgm m 2 (decide (m % 4 ≠ 0)) (-1 - p 2) ++ [125]))).flatMap (ctx H) = vtx (vR m x y z) := by
  have e4 : ctx H 125 = [125] := ctx_pos (by omega)
  rw [List.flatMap_append, List.flatMap_append, List.flatMap_append, sgm_ctx (h 0 (by omega)), sgm_ctx (h 1 (by omega)), sgm_ctx (h 2 (by omega))]
  obtain ⟨d4, d2⟩ := m42 m m8
  show 123 :: ((if bit m 0 = true then (if false = true then [44] else []) ++ ((120 + ((0 : Nat) : Int)) :: 61 :: vtx x) else []) ++ ((if bit m 1 = true then (if decide (m % 2 ≠ 0) = true then [44] else []) ++ ((120 + ((1 : Nat) : Int)) :: 61 :: vtx y) else []) ++ ((if bit m 2 = true then (if decide (m % 4 ≠ 0) = true then [44] else []) ++ ((120 + ((2 : Nat) : Int)) :: 61 :: vtx z) else []) ++ List.flatMap (ctx H) [125]))) = 123 :: ((if bit m 0 = true then 120 :: 61 :: vtx x else []) ++ ((if bit m 1 = true then (if bit m 0 = true then [44] else []) ++ (121 :: 61 :: vtx y) else []) ++ ((if bit m 2 = true then (if bit m 0 = true ∨ bit m 1 = true then [44] else []) ++ (122 :: 61 :: vtx z) else []) ++ [125])))
  have f1 : (if decide (m % 2 ≠ 0) = true then [(44 : Int)] else []) = if bit m 0 = true then [44] else [] := by
    by_cases c : bit m 0 = true
    · rw [if_pos c, if_pos (d2.mpr c)]
    · rw [if_neg c, if_neg (fun e => c (d2.mp e))]
  have f2 : (if decide (m % 4 ≠ 0) = true then [(44 : Int)] else []) = if bit m 0 = true ∨ bit m 1 = true then [44] else [] := by
    by_cases c : bit m 0 = true ∨ bit m 1 = true
    · rw [if_pos c, if_pos (d4.mpr c)]
    · rw [if_neg c, if_neg (fun e => c (d4.mp e))]
  rw [f1, f2]
  have e5 : List.flatMap (ctx H) [125] = [125] := by simp only [List.flatMap_cons, List.flatMap_nil, e4, List.append_nil]
  rw [e5]
  rfl
section PmG21
variable {d : Nat} {Q : Option Value → pm_S → Prop} {N : pm_M} {Rf : Nat → Nat → Nat} {K L : Nat → Nat} {n s0 : Nat} {a b vs es : Nat} {H : Int → Option Ty}
theorem m_show {i : Int} {m w : Nat} {s : List Int} {r : Nat} (hG : pm_G Rf K L n) (hM : ∀ p i, R32 (N p i)) (m8 : m < 8) (i0 : 0 ≤ i) (i1 : i < 4000) (r1 : r < 60) (e91 : N 91 i = (r : Int)) (e60 : N 60 (r : Int) = (m : Int)) (w5 : w < 1570) (hs : RpS N s w) (h : ∀ (N' : pm_M) (w' : Nat), RpS N' (sgm m 0 false (-1 - N 93 (3 * i + 0)) ++ (sgm m 1 (decide (m % 2 ≠ 0)) (-1 - N 93 (3 * i + 1)) ++ (sgm m 2 (decide (m % 4 ≠ 0)) (-1 - N 93 (3 * i + 2)) ++ (125 :: s)))) w' → w' ≤ w + 13 → (∀ p i, p ≠ 98 → N' p i = N p i) → (∀ p i, R32 (N' p i)) → Q (some (.int (zI (w' : Int)))) (zM N', Rf, K, L, n, s0)) : pm_Wc (d + 1) 210 [.ref 56, .int (zI i), .int (zI (w : Int))] (zM N, Rf, K, L, n, s0) Q := by
  have hp := hs.push 125
  have hM1 : ∀ (p : Nat) (x : Int), R32 (mset N 98 (w : Int) 125 p x) := mset_R32 hM ⟨by omega, by omega⟩
  have rr : ∀ x : Int, R32 x → R32 (-1 - x) := fun x hx => ⟨by have := hx.1; have := hx.2; omega, by have := hx.1; have := hx.2; omega⟩
  refine wc_in (ls0 := [some (.ref 56), some (.int (zI i)), some (.int (zI (w : Int))), none, none, none]) (by decide) (Nat.le_of_ble_eq_true rfl) rfl rfl ?_
  refine wp_iload_n d210_0 rfl ?_
  refine wp_istore_n d210_1 (Nat.le_of_ble_eq_true rfl) rfl ?_
  refine wp_aload_n d210_2 rfl ?_
  refine wp_getR (q := 60) d210_3 rfl (hG.o (by decide) rfl) (by decide) (hG.r (by decide +kernel)) (by decide) ?_
  refine wp_aload_n d210_6 rfl ?_
  refine wp_getR (q := 91) d210_7 rfl (hG.o (by decide) rfl) (by decide) (hG.r (by decide +kernel)) (by decide) ?_
  refine wp_iload_n d210_10 rfl ?_
  refine wz_iald (z := 4000) (v := (r : Int)) d210_11 (hG.a (by decide) rfl rfl) (by omega) (by omega) (by decide) (e91) ?_
  refine wz_iald (z := 128) (v := (m : Int)) d210_12 (hG.a (by decide) rfl rfl) (by omega) (by omega) (by decide) (e60) ?_
  refine wp_istore d210_13 (Nat.le_of_ble_eq_true rfl) rfl ?_
  refine wp_aload_n d210_15 rfl ?_
  refine wp_getR (q := 98) d210_16 rfl (hG.o (by decide) rfl) (by decide) (hG.r (by decide +kernel)) (by decide) ?_
  refine wp_iload_n d210_19 rfl ?_
  refine wz_bipush d210_20 (by decide) ?_
  refine wz_iast (z := 1600) d210_22 (hG.a (by decide) rfl rfl) (by omega) (by omega) (by decide) ?_
  refine wz_iinc d210_23 rfl rfl ?_
  refine wz_iconst d210_26 ?_
  refine wp_istore d210_27 (Nat.le_of_ble_eq_true rfl) rfl ?_
  refine show_2 (w := w + 1) (wt := (w : Int)) hG hM1 m8 i0 i1 (by omega) hp (fun N2 w2 p2 a2 b2 k2 m2 => ?_) (rr _ (hM1 _ _))
  refine show_1 hG m2 m8 i0 i1 (by omega) p2 (fun N3 w3 p3 a3 b3 k3 m3 => ?_) (rr _ (m2 _ _))
  refine show_0 hG m3 m8 i0 i1 (by omega) p3 (fun N4 w4 p4 a4 b4 k4 m4 => ?_) (rr _ (m3 _ _))
  have c3 : N3 93 (3 * i + 0) = N 93 (3 * i + 0) := (k3 93 _ (by omega)).trans ((k2 93 _ (by omega)).trans (mset_i' (by omega)))
  have c2 : N2 93 (3 * i + 1) = N 93 (3 * i + 1) := (k2 93 _ (by omega)).trans (mset_i' (by omega))
  have c1 : mset N 98 (w : Int) 125 93 (3 * i + 2) = N 93 (3 * i + 2) := mset_i' (by omega)
  rw [c3, c2, c1] at p4
  refine wp_iload d210_29 rfl ?_
  refine wz_if_lt (t := 119) d210_31 (by decide) ⟨by omega, by omega⟩ (fun _ => ?_) (fun hb => absurd (by omega) hb)
  refine wp_iload_n d210_119 rfl ?_
  exact wp_ret d210_120 rfl (h N4 w4 p4 (by omega) (fun p x hx => (k4 p x hx).trans ((k3 p x hx).trans ((k2 p x hx).trans (mset_i' (by omega))))) m4)
theorem value_loop (hG : pm_G Rf K L n) (hh : HP N a b vs es H) (v4 : vs ≤ 4000) (a6 : a ≤ 60) {full : List Int} (h3 : 100 < full.length → ∀ N' : pm_M, (∀ p i, p ≠ 98 → p ≠ 99 → N' p i = N p i) → (∀ p i, R32 (N' p i)) → Q (some (.int (zI (-3)))) (zM N', Rf, K, L, n, s0)) (h1 : full.length ≤ 100 → ∀ (N' : pm_M) (o3 o4 : Option Value), (∀ p i, p ≠ 98 → p ≠ 99 → N' p i = N p i) → (∀ p i, R32 (N' p i)) → OR N' full → pm_Wp none (d + 1) 209 143 [some (.ref 56), some (.int (zI 0)), some (.int (zI (full.length : Int))), o3, o4] [] (zM N', Rf, K, L, n, s0) Q) : ∀ (f : Nat) (s o : List Int) (w : Nat) (N1 : pm_M) (o3 o4 : Option Value), RpS N1 s w → Cod H s → OR N1 o → (∀ p i, p ≠ 98 → p ≠ 99 → N1 p i = N p i) → (∀ p i, R32 (N1 p i)) → o ++ s.flatMap (ctx H) = full → w ≤ 1 + 12 * o.length → o.length ≤ 101 → 102 - o.length ≤ f → pm_Wp none (d + 1) 209 32 [some (.ref 56), some (.int (zI (w : Int))), some (.int (zI (o.length : Int))), o3, o4] [] (zM N1, Rf, K, L, n, s0) Q := by
  intro f
  induction f with
  | zero => intro s o w N1 o3 o4 _ _ _ _ _ _ _ h7 h8; omega
  | succ f ih =>
    intro s o w N1 o3 o4 hs hc ho k1 m1 hf hw h7 h8
    refine wp_iload_n d209_32 rfl ?_
    refine wz_if_le (t := 134) d209_33 (by decide) ⟨by omega, by omega⟩ (fun hb => ?_) (fun hb => ?_)
    · skip
      have w0 : w = 0 := by omega
      subst w0
      have sn : s = [] := by
        have := hs.len
        cases s with
        | nil => rfl
        | cons c s => rw [List.length_cons] at this; omega
      subst sn
      have hf : o = full := by rw [← hf]; simp
      subst hf
      refine wp_iload_n d209_134 rfl ?_
      refine wz_bipush d209_135 (by decide) ?_
      refine wz_icmp_le (t := 143) d209_137 (by decide) ⟨by omega, by omega⟩ ⟨by omega, by omega⟩ (fun he => ?_) (fun he => ?_)
      · skip
        exact h1 (by omega) N1 o3 o4 k1 m1 ho
      · skip
        refine wz_bipush d209_140 (by decide) ?_
        exact wp_ret d209_142 rfl (h3 (by omega) N1 k1 m1)
    · skip
      refine wp_iload_n d209_36 rfl ?_
      refine wz_bipush d209_37 (by decide) ?_
      refine wz_icmp_gt (t := 134) d209_39 (by decide) ⟨by omega, by omega⟩ ⟨by omega, by omega⟩ (fun he => ?_) (fun he => ?_)
      · skip
        refine wp_iload_n d209_134 rfl ?_
        refine wz_bipush d209_135 (by decide) ?_
        refine wz_icmp_le (t := 143) d209_137 (by decide) ⟨by omega, by omega⟩ ⟨by omega, by omega⟩ (fun hb => absurd hb (by omega)) (fun _ => ?_)
        refine wz_bipush d209_140 (by decide) ?_
        have fl : o.length ≤ full.length := by rw [← hf, List.length_append]; omega
        exact wp_ret d209_142 rfl (h3 (by omega) N1 k1 m1)
      · skip
        cases s with
        | nil => have : w = 0 := hs; omega
        | cons c s =>
          obtain ⟨q, eq, ec, hs⟩ := hs
          subst eq
          have hcc := hc c List.mem_cons_self
          have hcs : Cod H s := fun e he => hc e (List.mem_cons_of_mem _ he)
          have rc : R32 c := by rw [← ec]; exact m1 _ _
          rw [List.flatMap_cons] at hf
          refine wz_iinc d209_42 rfl rfl ?_
          rw [show ((q + 1 : Nat) : Int) + -1 = (q : Int) by omega]
          refine wp_aload_n d209_45 rfl ?_
          refine wp_getR (q := 98) d209_46 rfl (hG.o (by decide) rfl) (by decide) (hG.r (by decide +kernel)) (by decide) ?_
          refine wp_iload_n d209_49 rfl ?_
          refine wz_iald (z := 1600) (v := c) d209_50 (hG.a (by decide) rfl rfl) (by omega) (by omega) (by decide) (ec) ?_
          refine wp_istore_n d209_51 (Nat.le_of_ble_eq_true rfl) rfl ?_
          refine wz_iconst d209_52 ?_
          refine wp_iload_n d209_53 rfl ?_
          refine wz_isub d209_54 ?_
          refine wp_istore d209_55 (Nat.le_of_ble_eq_true rfl) rfl ?_
          refine wp_iload_n d209_57 rfl ?_
          refine wz_if_ge (t := 73) d209_58 (by decide) rc (fun h0 => ?_) (fun h0 => ?_)
          · skip
            refine wp_aload_n d209_73 rfl ?_
            refine wp_getR (q := 99) d209_74 rfl (hG.o (by decide) rfl) (by decide) (hG.r (by decide +kernel)) (by decide) ?_
            refine wp_iload_n d209_77 rfl ?_
            refine wp_iload_n d209_78 rfl ?_
            refine wz_if_lt (t := 86) d209_79 (by decide) rc (fun hb => absurd hb (by omega)) (fun _ => ?_)
            refine wp_iload_n d209_82 rfl ?_
            refine wp_goto (t := 105) d209_83 (by decide) ?_
            refine wz_iast (z := 104) d209_105 (hG.a (by decide) rfl rfl) (by omega) (by omega) (by decide) ?_
            refine wz_iinc d209_106 rfl rfl ?_
            refine wp_goto (t := 131) d209_109 (by decide) ?_
            refine wp_goto (t := 32) d209_131 (by decide) ?_
            have := ih s (o ++ [c]) q (mset N1 99 (o.length : Int) c) (some (.int (zI c))) (some (.int (zI (-1 - c)))) (hs.low (fun i _ _ => mset_i' (by omega))) hcs (ho.push c) (fun p i hp hq => (mset_i' (by omega)).trans (k1 p i hp hq)) (mset_R32 m1 rc) (by rw [← hf, ctx_pos h0, List.append_assoc]) (by rw [List.length_append]; show q ≤ 1 + 12 * (o.length + 1); omega) (by rw [List.length_append]; show o.length + 1 ≤ 101; omega) (by rw [List.length_append]; show 102 - (o.length + 1) ≤ f; omega)
            rw [List.length_append] at this
            exact this
          · skip
            obtain ⟨v, hv⟩ : ∃ v, H (-1 - c) = some v := by
              rcases hcc with e | e
              · exact absurd e h0
              · exact e.2
            obtain ⟨vi, vc⟩ := hh _ _ hv
            have cx := ctx_neg h0 hv
            rcases vc with ⟨t, ρ, j, sc, ch, e1, e2, e3, e4, e5, e6⟩ | ⟨m, x, y, z, r, e1, e2, e3, e4, e5, e6, e7⟩
            · skip
              have g90 : N1 90 (-1 - c) = (nKd t : Int) := (k1 90 _ (by omega) (by omega)).trans e3
              refine wp_aload_n d209_61 rfl ?_
              refine wp_getR (q := 90) d209_62 rfl (hG.o (by decide) rfl) (by decide) (hG.r (by decide +kernel)) (by decide) ?_
              refine wp_iload d209_65 rfl ?_
              refine wz_iald (z := 4000) (v := (nKd t : Int)) d209_67 (hG.a (by decide) rfl rfl) (by omega) (by omega) (by decide) (g90) ?_
              refine wz_bipush d209_68 (by decide) ?_
              refine wz_icmp_eq (t := 112) d209_70 (by decide) ⟨by omega, by omega⟩ ⟨by omega, by omega⟩ (fun hb => absurd hb (by omega)) (fun _ => ?_)
              refine wp_aload_n d209_73 rfl ?_
              refine wp_getR (q := 99) d209_74 rfl (hG.o (by decide) rfl) (by decide) (hG.r (by decide +kernel)) (by decide) ?_
              refine wp_iload_n d209_77 rfl ?_
              refine wp_iload_n d209_78 rfl ?_
              refine wz_if_lt (t := 86) d209_79 (by decide) rc (fun _ => ?_) (fun hb => absurd (by omega) hb)
              refine wp_aload_n d209_86 rfl ?_
              refine wp_getR (q := 90) d209_87 rfl (hG.o (by decide) rfl) (by decide) (hG.r (by decide +kernel)) (by decide) ?_
              refine wp_iload d209_90 rfl ?_
              refine wz_iald (z := 4000) (v := (nKd t : Int)) d209_92 (hG.a (by decide) rfl rfl) (by omega) (by omega) (by decide) (g90) ?_
              refine wz_bipush d209_93 (by decide) ?_
              refine wz_icmp_ne (t := 103) d209_95 (by decide) ⟨by omega, by omega⟩ ⟨by omega, by omega⟩ (fun h6 => ?_) (fun h6 => ?_)
              · skip
                have kk : nKd t = 8 := by omega
                refine wz_bipush d209_103 (by decide) ?_
                refine wz_iast (z := 104) d209_105 (hG.a (by decide) rfl rfl) (by omega) (by omega) (by decide) ?_
                refine wz_iinc d209_106 rfl rfl ?_
                refine wp_goto (t := 131) d209_109 (by decide) ?_
                refine wp_goto (t := 32) d209_131 (by decide) ?_
                have vt : vtx v = [103] := by rw [e1]; show (if nKd t = 6 then [102] else [103]) = _; rw [kk]; rfl
                have := ih s (o ++ [103]) q (mset N1 99 (o.length : Int) 103) (some (.int (zI c))) (some (.int (zI (-1 - c)))) (hs.low (fun i _ _ => mset_i' (by omega))) hcs (ho.push 103) (fun p i hp hq => (mset_i' (by omega)).trans (k1 p i hp hq)) (mset_R32 m1 ⟨by omega, by omega⟩) (by rw [← hf, cx, vt, List.append_assoc]) (by rw [List.length_append]; show q ≤ 1 + 12 * (o.length + 1); omega) (by rw [List.length_append]; show o.length + 1 ≤ 101; omega) (by rw [List.length_append]; show 102 - (o.length + 1) ≤ f; omega)
                rw [List.length_append] at this
                exact this
              · skip
                have kk : nKd t = 6 := by omega
                refine wz_bipush d209_98 (by decide) ?_
                refine wp_goto (t := 105) d209_100 (by decide) ?_
                refine wz_iast (z := 104) d209_105 (hG.a (by decide) rfl rfl) (by omega) (by omega) (by decide) ?_
                refine wz_iinc d209_106 rfl rfl ?_
                refine wp_goto (t := 131) d209_109 (by decide) ?_
                refine wp_goto (t := 32) d209_131 (by decide) ?_
                have vt : vtx v = [102] := by rw [e1]; show (if nKd t = 6 then [102] else [103]) = _; rw [kk]; rfl
                have := ih s (o ++ [102]) q (mset N1 99 (o.length : Int) 102) (some (.int (zI c))) (some (.int (zI (-1 - c)))) (hs.low (fun i _ _ => mset_i' (by omega))) hcs (ho.push 102) (fun p i hp hq => (mset_i' (by omega)).trans (k1 p i hp hq)) (mset_R32 m1 ⟨by omega, by omega⟩) (by rw [← hf, cx, vt, List.append_assoc]) (by rw [List.length_append]; show q ≤ 1 + 12 * (o.length + 1); omega) (by rw [List.length_append]; show o.length + 1 ≤ 101; omega) (by rw [List.length_append]; show 102 - (o.length + 1) ≤ f; omega)
                rw [List.length_append] at this
                exact this
            · skip
              have g90 : N1 90 (-1 - c) = 10 := (k1 90 _ (by omega) (by omega)).trans e3
              refine wp_aload_n d209_61 rfl ?_
              refine wp_getR (q := 90) d209_62 rfl (hG.o (by decide) rfl) (by decide) (hG.r (by decide +kernel)) (by decide) ?_
              refine wp_iload d209_65 rfl ?_
              refine wz_iald (z := 4000) (v := 10) d209_67 (hG.a (by decide) rfl rfl) (by omega) (by omega) (by decide) (g90) ?_
              refine wz_bipush d209_68 (by decide) ?_
              refine wz_icmp_eq (t := 112) d209_70 (by decide) ⟨by omega, by omega⟩ ⟨by omega, by omega⟩ (fun _ => ?_) (fun hb => absurd (by omega) hb)
              refine wp_aload_n d209_112 rfl ?_
              refine wp_getR (q := 99) d209_113 rfl (hG.o (by decide) rfl) (by decide) (hG.r (by decide +kernel)) (by decide) ?_
              refine wp_iload_n d209_116 rfl ?_
              refine wz_bipush d209_117 (by decide) ?_
              refine wz_iast (z := 104) d209_119 (hG.a (by decide) rfl rfl) (by omega) (by omega) (by decide) ?_
              refine wz_iinc d209_120 rfl rfl ?_
              refine wp_aload_n d209_123 rfl ?_
              refine wp_iload d209_124 rfl ?_
              refine wp_iload_n d209_126 rfl ?_
              refine wp_virt (as := [.int (zI (q : Int)), .int (zI ((-1) - c))]) (rest := []) d209_127 rfl rfl rfl (hG.o (by decide) rfl) rfl rfl (Nat.le_of_ble_eq_true rfl) ?_
              have q5 : q < 1570 := by omega
              refine wc_deep (show d + 1 ≤ d + 1 by omega) ?_
              refine m_show (N := (mset N1 99 (o.length : Int) 123)) (m := m) (w := q) (s := s) (r := r) hG (mset_R32 m1 ⟨by omega, by omega⟩) e2 (by omega) (by omega) (by omega) ((mset_i' (by omega)).trans ((k1 91 _ (by omega) (by omega)).trans e4)) ((mset_i' (by omega)).trans ((k1 60 _ (by omega) (by omega)).trans e6)) q5 (hs.low (fun i _ _ => mset_i' (by omega))) (fun N3 w3 p3 b3 k3 m3 => ?_)
              have kk : ∀ g : Nat, (mset N1 99 (o.length : Int) 123) 93 (3 * (-1 - c) + g) = N 93 (3 * (-1 - c) + g) := fun g => (mset_i' (by omega)).trans (k1 93 _ (by omega) (by omega))
              have k0 := kk 0
              have k1' := kk 1
              have k2 := kk 2
              have pr : ∀ g : Nat, g < 3 → bit m g = true → H (N 93 (3 * (-1 - c) + g)) = some (rP (vR m x y z) g) ∧ 0 ≤ N 93 (3 * (-1 - c) + g) := fun g hg hb => by
                have := e7 g hg hb
                rw [e1] at this
                exact ⟨this, (hh _ _ this).1.1⟩
              have rx := rec_ctx (p := fun g => N 93 (3 * (-1 - c) + (g : Int))) e2 pr
              have p3' : RpS N3 (sgm m 0 false (-1 - N 93 (3 * (-1 - c) + (0 : Nat))) ++ (sgm m 1 (decide (m % 2 ≠ 0)) (-1 - N 93 (3 * (-1 - c) + (1 : Nat))) ++ (sgm m 2 (decide (m % 4 ≠ 0)) (-1 - N 93 (3 * (-1 - c) + (2 : Nat))) ++ (125 :: s)))) w3 := by
                rw [← k0, ← k1', ← k2]; exact p3
              have cds := sgm_cod (lo := false) (pr 0 (by omega))
              have cd1 := sgm_cod (lo := decide (m % 2 ≠ 0)) (pr 1 (by omega))
              have cd2 := sgm_cod (lo := decide (m % 4 ≠ 0)) (pr 2 (by omega))
              refine wp_istore_n d209_130 (Nat.le_of_ble_eq_true rfl) rfl ?_
              refine wp_goto (t := 32) d209_131 (by decide) ?_
              have := ih _ (o ++ [123]) w3 N3 (some (.int (zI c))) (some (.int (zI (-1 - c)))) p3' (fun e he => by
                rcases List.mem_append.mp he with e' | e'
                · exact cds e e'
                rcases List.mem_append.mp e' with e' | e'
                · exact cd1 e e'
                rcases List.mem_append.mp e' with e' | e'
                · exact cd2 e e'
                rcases List.mem_cons.mp e' with e' | e'
                · left; omega
                · exact hcs e e') ((ho.push 123).same (fun i => k3 99 i (by omega))) (fun p i hp hq => (k3 p i hp).trans ((mset_i' (by omega)).trans (k1 p i hp hq))) m3 (by
                rw [← hf, cx, e1, ← rx]
                simp only [List.flatMap_append, List.flatMap_cons, List.append_assoc, List.cons_append, List.nil_append, List.flatMap_nil, List.append_nil]) (by rw [List.length_append]; show w3 ≤ 1 + 12 * (o.length + 1); omega) (by rw [List.length_append]; show o.length + 1 ≤ 101; omega) (by rw [List.length_append]; show 102 - (o.length + 1) ≤ f; omega)
              rw [List.length_append] at this
              exact this
end PmG21
