/-! THE MODEL: instance. -/
def itp (k : Nat) (A : Ty) (bs c : Nat) : List Int := if c = 16 + k then flat (lft k bs A) else [((if 16 + k < c then c - 1 else c : Nat) : Int)]
/-- what instance writes for the places from p on, m of them -/
def spl (k : Nat) (A : Ty) (en ce : Nat → Nat) (b0 p : Nat) : Nat → List Int
  | 0 => []
  | m + 1 => spl k A en ce b0 p m ++ itp k A (bas en ce (p + m) b0 (p + m - b0)) (ce (p + m))
theorem spl_add (k : Nat) (A : Ty) (en ce : Nat → Nat) (b0 p l : Nat) : ∀ m, spl k A en ce b0 p (l + m) = spl k A en ce b0 p l ++ spl k A en ce b0 (p + l) m
  | 0 => by show spl k A en ce b0 p l = _ ++ []; rw [List.append_nil]
  | m + 1 => by
    show spl k A en ce b0 p (l + m) ++ itp k A (bas en ce (p + (l + m)) b0 (p + (l + m) - b0)) (ce (p + (l + m))) = spl k A en ce b0 p l ++ (spl k A en ce b0 (p + l) m ++ itp k A (bas en ce (p + l + m) b0 (p + l + m - b0)) (ce (p + l + m)))
    rw [spl_add k A en ce b0 p l m, List.append_assoc, show p + (l + m) = p + l + m by omega]
theorem pt_nil {D : Nat} {t : Ty} (h : ok D t = true) {g : Nat} (hg : g < 3) (hb : ¬ hp t g = true) : pt t g = .nil := by
  have key : flat (pt t g) = [] := pt_none h hg hb
  rcases ok_cases h with rfl | ⟨v, hv, rfl⟩ | ⟨a, b, rfl, ha, hb'⟩ | ⟨a, b, rfl, ha, hb'⟩ | ⟨m, x, y, z, hm, rfl, h0, h1, h2⟩
  · rcases (show g = 0 ∨ g = 1 ∨ g = 2 by omega) with rfl | rfl | rfl <;> rfl
  · unfold pt; rw [hd_var, if_neg (by omega), if_neg (by omega)]
  · rcases (show g = 0 ∨ g = 1 ∨ g = 2 by omega) with rfl | rfl | rfl
    · exact absurd (hp_fun a b).1 hb
    · exact absurd (hp_fun a b).2.1 hb
    · exact (pt_fun a b).2.2
  · rcases (show g = 0 ∨ g = 1 ∨ g = 2 by omega) with rfl | rfl | rfl
    · exact absurd (hp_all a b).1 hb
    · exact absurd (hp_all a b).2.1 hb
    · exact (pt_all a b).2.2
  · rw [hp_rec hm x y z g hg] at hb
    unfold okl at h0 h1 h2
    rcases (show g = 0 ∨ g = 1 ∨ g = 2 by omega) with rfl | rfl | rfl
    · rw [(pt_rec hm x y z).1]; rw [if_neg hb] at h0; exact h0
    · rw [(pt_rec hm x y z).2.1]; rw [if_neg hb] at h1; exact h1
    · rw [(pt_rec hm x y z).2.2]; rw [if_neg hb] at h2; exact h2
theorem sbt_node {D k i : Nat} {A t : Ty} (h : ok D t = true) : flat (sbt k A i t) = itp k A i (hd t) ++ (flat (sbt k A i (pt t 0)) ++ (flat (sbt k A (if hd t = 2 then i + 1 else i) (pt t 1)) ++ flat (sbt k A i (pt t 2)))) := by
  have nl : ∀ j, flat (sbt k A j .nil) = [] := fun _ => rfl
  have sm : ∀ c, c < 16 → itp k A i c = [(c : Int)] := fun c hc => by
    unfold itp
    rw [if_neg (by omega), if_neg (by omega)]
  rcases ok_cases h with rfl | ⟨v, hv, rfl⟩ | ⟨a, b, rfl, ha, hb⟩ | ⟨a, b, rfl, ha, hb⟩ | ⟨m, x, y, z, hm, rfl, h0, h1, h2⟩
  · rw [pt_nil (g := 0) h (by decide) (by rw [hp_top 0 (by decide)]; decide), pt_nil (g := 1) h (by decide) (by rw [hp_top 1 (by decide)]; decide), pt_nil (g := 2) h (by decide) (by rw [hp_top 2 (by decide)]; decide), nl, nl, sbt_top, hd_top, sm 0 (by decide)]
    rfl
  · rw [pt_nil (g := 0) h (by decide) (by rw [hp_var v 0 (by decide)]; decide), pt_nil (g := 1) h (by decide) (by rw [hp_var v 1 (by decide)]; decide), pt_nil (g := 2) h (by decide) (by rw [hp_var v 2 (by decide)]; decide), nl, nl, List.append_nil, List.append_nil, sbt_var, hd_var, List.append_nil]
    unfold itp
    by_cases c : v = k
    · rw [if_pos c, if_pos (show 16 + v = 16 + k by omega)]
    · rw [if_neg c, if_neg (show ¬ 16 + v = 16 + k by omega)]
      by_cases c2 : k < v
      · rw [if_pos c2, if_pos (show 16 + k < 16 + v by omega), show 16 + v - 1 = 16 + (v - 1) by omega]; rfl
      · rw [if_neg c2, if_neg (show ¬ 16 + k < 16 + v by omega)]; rfl
  · rw [(pt_fun a b).1, (pt_fun a b).2.1, (pt_fun a b).2.2, hd_fun, if_neg (by decide), sbt_fun, flat_fun, nl, List.append_nil, sm 1 (by decide)]
    rfl
  · rw [(pt_all a b).1, (pt_all a b).2.1, (pt_all a b).2.2, hd_all, if_pos rfl, sbt_all, flat_all, nl, List.append_nil, sm 2 (by decide)]
    rfl
  · rw [(pt_rec hm x y z).1, (pt_rec hm x y z).2.1, (pt_rec hm x y z).2.2, hd_rec, if_neg (by omega), sbt_rec, flat_rec, sm (8 + m) (by omega)]
    rfl
theorem spl_is {k : Nat} {A : Ty} {en ce : Nat → Nat} {b0 : Nat} : ∀ (f D : Nat) (t : Ty) (a i : Nat), ok D t = true → (flat t).length ≤ f → At en ce f t a → b0 ≤ a → (∀ q, a ≤ q → q < a + (flat t).length → bas en ce q b0 (a - b0) = i) → spl k A en ce b0 a (flat t).length = flat (sbt k A i t)
  | 0, D, t, a, i, h, hf, _, _, _ => by have := flat_pos h; omega
  | f + 1, D, t, a, i, h, hf, H, hb0, hi => by
    obtain ⟨e1, e2, hp'⟩ := H
    have hl := len_pts h
    have o0 : off t 0 = 0 := rfl
    have o1 : off t 1 = (flat (pt t 0)).length := rfl
    have o2 : off t 2 = (flat (pt t 0)).length + (flat (pt t 1)).length := rfl
    have inn : ∀ j, a < j → j < a + (flat t).length → ∃ g, g < 3 ∧ hp t g = true ∧ a + 1 + off t g ≤ j ∧ j < en j ∧ en j ≤ a + 1 + off t g + (flat (pt t g)).length := by
      intro j h1 h2
      obtain ⟨g, hg, hb, q1, q2⟩ := part_of h h1 h2
      have ol := off_le h hg
      have := At_in f _ (pt t g) (a + 1 + off t g) (ok_part h hg hb) (by omega) (hp' g hg hb) j q1 q2
      exact ⟨g, hg, hb, q1, this.1, this.2⟩
    have before : ∀ g, g < 3 → ∀ j, a < j → j < a + 1 + off t g → en j ≤ a + 1 + off t g := by
      intro g hg j h1 h2
      have ol := off_le h hg
      obtain ⟨g', hg', -, q1, q2, q3⟩ := inn j h1 (by omega)
      rcases (show g = 0 ∨ g = 1 ∨ g = 2 by omega) with rfl | rfl | rfl <;> rcases (show g' = 0 ∨ g' = 1 ∨ g' = 2 by omega) with rfl | rfl | rfl <;> omega
    have part : ∀ g, g < 3 → spl k A en ce b0 (a + 1 + off t g) (flat (pt t g)).length = flat (sbt k A (if hd t = 2 ∧ g = 1 then i + 1 else i) (pt t g)) := by
      intro g hg
      by_cases hb : hp t g = true
      · have ol := off_le h hg
        refine spl_is f _ (pt t g) (a + 1 + off t g) _ (ok_part h hg hb) (by omega) (hp' g hg hb) (by omega) (fun q h1 h2 => ?_)
        rw [show a + 1 + off t g - b0 = (a - b0) + (1 + off t g) by omega, bas_add, hi q (by omega) (by omega), show b0 + (a - b0) = a by omega, bas_add, bas_zero q (a + 1) (off t g) (fun j j1 j2 => by have := before g hg j (by omega) (by omega); omega)]
        show i + (0 + (if ce (a + 0) = 2 ∧ en (a + 0 + 1) ≤ q ∧ q < en (a + 0) then 1 else 0) + 0) = _
        rw [Nat.add_zero a, e1, e2]
        by_cases c2 : hd t = 2
        · obtain ⟨X, Y, rfl, oX, oY⟩ := hd_is_all h c2
          have p0 := hp' 0 (by decide) (hp_all X Y).1
          have en1 : en (a + 1) = a + 1 + (flat (pt (tAll X Y) 0)).length := by
            have lX := flat_pos oX
            rw [(pt_all X Y).1] at hl
            cases f with
            | zero => omega
            | succ f =>
              have := p0.2.1
              rw [o0, Nat.add_zero] at this
              exact this
          rw [en1]
          rcases (show g = 0 ∨ g = 1 ∨ g = 2 by omega) with rfl | rfl | rfl
          · rw [if_neg (by omega), if_neg (by omega)]; rfl
          · rw [if_pos ⟨c2, by omega, by omega⟩, if_pos ⟨c2, rfl⟩]
          · rw [(hp_all X Y).2.2] at hb; cases hb
        · rw [if_neg (fun e => c2 e.1), if_neg (fun e => c2 e.1)]; rfl
      · rw [pt_nil h hg hb]; rfl
    have q0 := part 0 (by decide)
    have q1 := part 1 (by decide)
    have q2 := part 2 (by decide)
    rw [if_neg (by omega)] at q0
    rw [if_neg (by omega)] at q2
    rw [o0, Nat.add_zero] at q0
    rw [o1] at q1
    rw [o2] at q2
    have h0 : spl k A en ce b0 a 1 = itp k A i (hd t) := by
      show [] ++ itp k A (bas en ce (a + 0) b0 (a + 0 - b0)) (ce (a + 0)) = _
      rw [Nat.add_zero, e1, hi a (Nat.le_refl _) (by omega)]; rfl
    rw [sbt_node h, hl, show 1 + (flat (pt t 0)).length + (flat (pt t 1)).length + (flat (pt t 2)).length = 1 + ((flat (pt t 0)).length + ((flat (pt t 1)).length + (flat (pt t 2)).length)) by omega, spl_add, h0, spl_add, q0, spl_add, q1]
    rw [show a + 1 + (flat (pt t 0)).length + (flat (pt t 1)).length = a + 1 + ((flat (pt t 0)).length + (flat (pt t 1)).length) by omega, q2]
    by_cases c2 : hd t = 2
    · rw [if_pos ⟨c2, rfl⟩, if_pos c2]
    · rw [if_neg (fun e => c2 e.1), if_neg c2]
theorem row_enD {N : pm_M} {r : Int} {D : Nat} {t : Ty} (h : ok D t = true) (hD : D ≤ 50) (hl : (flat t).length ≤ 16) (hr : Row N r 0 (flat t)) : ∃ en ce : Nat → Nat, EnR N r (flat t).length en ce ∧ At en ce 16 t 0 := by
  refine ⟨fun j => j + (flat (sub 16 t j)).length, fun j => hd (sub 16 t j), fun j hj => ?_, sub_at 16 D t 0 h hl (fun j _ => by simp only [Nat.zero_add]; exact ⟨trivial, trivial⟩)⟩
  obtain ⟨r1, r2, D', r3, r4⟩ := sub_row 16 D t 0 h hl (by omega) hr j hj
  rw [Nat.zero_add] at r1
  exact ⟨_, D', r4, r3, r1, rfl, r2, rfl⟩
theorem itp_len (k : Nat) (A : Ty) (bs c : Nat) : (itp k A bs c).length = if c = 16 + k then (flat A).length else 1 := by
  unfold itp
  by_cases h : c = 16 + k
  · rw [if_pos h, if_pos h, lft_len]
  · rw [if_neg h, if_neg h]; rfl
theorem EnR.mv {N N' : pm_M} {r : Int} {c : Nat} {en ce : Nat → Nat} (h : EnR N r c en ce) (hc : c ≤ 16) (hs : ∀ i : Int, 17 * r ≤ i → i < 17 * r + 17 → N' 73 i = N 73 i) : EnR N' r c en ce := by
  intro j hj
  obtain ⟨u, D, q1, q2, q3, q4, q5, q6⟩ := h j hj
  exact ⟨u, D, q1, q2, Row.same (fun i i0 i1 => hs _ (by omega) (by omega)) q3, q4, q5, q6⟩
/-- what instance may write -/
def WIn (i u : Int) (p : Nat) (k : Int) : Prop := (p = 56 ∧ (k = 22 ∨ k = 32 ∨ k = 33)) ∨ (p = 73 ∧ (17 * u ≤ k ∨ (17 * (4 + i) ≤ k ∧ k < 17 * (4 + i) + 17)))
section PmF5
variable {d : Nat} {Q : Option Value → pm_S → Prop} {N : pm_M} {Rf : Nat → Nat → Nat} {K L : Nat → Nat} {n s : Nat}
theorem spl_mono {k : Nat} {A : Ty} {en ce : Nat → Nat} {b0 p m m' : Nat} (h : m ≤ m') : (spl k A en ce b0 p m).length ≤ (spl k A en ce b0 p m').length := by
  obtain ⟨x, rfl⟩ : ∃ x, m' = m + x := ⟨m' - m, by omega⟩
  rw [spl_add, List.length_append]; omega
theorem bas_le {en ce : Nat → Nat} {p a : Nat} : ∀ k, bas en ce p a k ≤ k
  | 0 => Nat.le_refl _
  | k + 1 => by
    show bas en ce p a k + _ ≤ k + 1
    have := bas_le (en := en) (ce := ce) (p := p) (a := a) k
    by_cases e : ce (a + k) = 2 ∧ en (a + k + 1) ≤ p ∧ p < en (a + k)
    · rw [if_pos e]; omega
    · rw [if_neg e]; omega
/-- the second loop -/
theorem m_inst2 {i r q u : Int} {k b0 c : Nat} {A : Ty} {en ce : Nat → Nat} {o3 o8 : Option Value} (hG : pm_G Rf K L n) (hM : ∀ p i, R32 (N p i)) (hu : N 56 22 = u + 1) (i0 : 0 ≤ i) (i1 : i < 60) (r0 : 0 ≤ r) (ru : r < u) (q0 : 0 ≤ q) (qu : q < u) (u1 : u + 20 < 1100) (u0 : 64 ≤ u) (k50 : k ≤ 50) (oA : ok k A = true) (lA : (flat A).length ≤ 16) (hA : Row N q 0 (flat A)) (hE : EnR N r c en ce) (hc : c ≤ 16) (hb : b0 ≤ c) (hb1 : 1 ≤ b0) (hl : (spl k A en ce b0 b0 (c - b0)).length ≤ 16) (hp : pre 1 (spl k A en ce b0 b0 (c - b0)) = true) (h : ∀ N' : pm_M, (∀ p i, R32 (N' p i)) → (∀ p k, ¬ WIn i u p k → N' p k = N p k) → Row N' (4 + i) 0 (spl k A en ce b0 b0 (c - b0)) → Q (some (.int (zI 1))) (zM N', Rf, K, L, n, s)) : ∀ (m p : Nat) (N' : pm_M) (u' : Int) (o13 o14 : Option Value), p + m = c → b0 ≤ p → (∀ p i, R32 (N' p i)) → XPF u N N' → N' 56 22 = u' → u + 1 ≤ u' → u' + m ≤ u + 1 + c → Row N' u 0 (spl k A en ce b0 b0 (p - b0)) → pm_Wp none (d + 4) 192 97 [some (.ref 56), some (.int (zI i)), some (.int (zI r)), o3, some (.int (zI q)), some (.int (zI (k : Int))), some (.int (zI (b0 : Int))), some (.int (zI (c : Int))), o8, some (.int (zI ((spl k A en ce b0 b0 (p - b0)).length : Int))), some (.int (zI (4 + i))), some (.int (zI u)), some (.int (zI (p : Int))), o13, o14] [] (zM N', Rf, K, L, n, s) Q := by
  intro m
  induction m with
  | zero =>
    intro p N' u' o13 o14 hpm bp hM' fr e22 v1 v2 row
    have ep : p = c := by omega
    refine wp_iload d192_97 rfl ?_
    refine wp_iload d192_99 rfl ?_
    refine wz_icmp_ge (t := 213) d192_101 (by decide) ⟨by omega, by omega⟩ ⟨by omega, by omega⟩ (fun _ => ?_) (fun hb => absurd (by omega) hb)
    refine wp_aload_n d192_213 rfl ?_
    refine wp_iload d192_214 rfl ?_
    refine wz_iconst d192_216 ?_
    refine wp_iload d192_217 rfl ?_
    refine wz_iconst d192_219 ?_
    refine wp_virt (as := [.int (zI 0), .int (zI (4 + i)), .int (zI 0), .int (zI u)]) (rest := []) d192_220 rfl rfl rfl (hG.o (by decide) rfl) rfl rfl (Nat.le_of_ble_eq_true rfl) ?_
    rw [ep] at row
    refine m_copy (l := spl k A en ce b0 b0 (c - b0)) hG hM' (by omega) (by omega) (by omega) (by omega) (by omega) (by omega) (by omega) (by omega) (by omega) row hp ?_
    refine wz_iconst d192_223 ?_
    refine wp_ret d192_224 rfl (h _ (mput_R32 hM' (row.R32 hM')) (fun p' k' hw => ?_) (mput_row _ _ (4 + i) 0))
    rw [Int.add_zero]
    by_cases e : p' = 73
    · subst e
      rw [mput_o _ _ _ _ (fun x => hw (Or.inr ⟨rfl, Or.inr (by omega)⟩))]
      exact fr 73 k' (fun x => hw (by unfold WXP at x; unfold WIn; omega))
    · rw [mput_p _ _ _ _ e]
      exact fr p' k' (fun x => hw (by unfold WXP at x; unfold WIn; omega))
  | succ m ih =>
    intro p N' u' o13 o14 hpm bp hM' fr e22 v1 v2 row
    have hE' : EnR N' r c en ce := hE.mv hc (fun i' i0' i1' => fr 73 _ (by unfold WXP; omega))
    obtain ⟨ce1, ce2, -, -, -⟩ := hE'.ce_le (j := p) (by omega)
    have hA' : Row N' q 0 (flat A) := fr.row qu (by omega) hA
    have bl := bas_le (en := en) (ce := ce) (p := p) (a := b0) (p - b0)
    have lo : (spl k A en ce b0 b0 (p + 1 - b0)).length ≤ 16 := Nat.le_trans (spl_mono (by omega)) hl
    have es : spl k A en ce b0 b0 (p + 1 - b0) = spl k A en ce b0 b0 (p - b0) ++ itp k A (bas en ce p b0 (p - b0)) (ce p) := by
      rw [show p + 1 - b0 = (p - b0) + 1 by omega]
      show spl k A en ce b0 b0 (p - b0) ++ itp k A (bas en ce (b0 + (p - b0)) b0 (b0 + (p - b0) - b0)) (ce (b0 + (p - b0))) = _
      rw [show b0 + (p - b0) = p by omega]
    have le := itp_len k A (bas en ce p b0 (p - b0)) (ce p)
    have lx : (spl k A en ce b0 b0 (p + 1 - b0)).length = (spl k A en ce b0 b0 (p - b0)).length + (itp k A (bas en ce p b0 (p - b0)) (ce p)).length := by rw [es, List.length_append]
    refine wp_iload d192_97 rfl ?_
    refine wp_iload d192_99 rfl ?_
    refine wz_icmp_ge (t := 213) d192_101 (by decide) ⟨by omega, by omega⟩ ⟨by omega, by omega⟩ (fun hb => absurd hb (by omega)) (fun _ => ?_)
    refine wp_aload_n d192_104 rfl ?_
    refine wp_iload_n d192_105 rfl ?_
    refine wp_iload d192_106 rfl ?_
    refine wp_virt (as := [.int (zI (p : Int)), .int (zI r)]) (rest := []) d192_108 rfl rfl rfl (hG.o (by decide) rfl) rfl rfl (Nat.le_of_ble_eq_true rfl) ?_
    refine wc_deep (show d + 3 + 1 ≤ d + 4 by omega) ?_
    refine m_cellE hG r0 (by omega) hE' (by omega) hc ?_
    refine wp_istore d192_111 (Nat.le_of_ble_eq_true rfl) rfl ?_
    refine wp_iload d192_113 rfl ?_
    refine wz_bipush d192_115 (by decide) ?_
    refine wp_iload d192_117 rfl ?_
    refine wz_iadd d192_119 ?_
    refine wz_icmp_ne (t := 172) d192_120 (by decide) ⟨by omega, by omega⟩ ⟨by omega, by omega⟩ (fun hq => ?_) (fun hq => ?_)
    · skip
      have hne : ce p ≠ 16 + k := by omega
      have ei : itp k A (bas en ce p b0 (p - b0)) (ce p) = [((if 16 + k < ce p then ce p - 1 else ce p : Nat) : Int)] := if_neg hne
      rw [if_neg hne] at le
      rw [le] at lx
      have stp : ∀ v : Int, v = ((if 16 + k < ce p then ce p - 1 else ce p : Nat) : Int) → pm_Wp none (d + 4) 192 203 [some (.ref 56), some (.int (zI i)), some (.int (zI r)), o3, some (.int (zI q)), some (.int (zI (k : Int))), some (.int (zI (b0 : Int))), some (.int (zI (c : Int))), o8, some (.int (zI ((spl k A en ce b0 b0 (p - b0)).length : Int))), some (.int (zI (4 + i))), some (.int (zI u)), some (.int (zI (p : Int))), some (.int (zI (ce p : Int))), o14] [.int (zI v), .int (zI ((17 * u) + ((spl k A en ce b0 b0 (p - b0)).length : Int))), .ref 73] (zM N', Rf, K, L, n, s) Q := by
        intro v hv
        have rv : R32 v := by
          rw [hv]
          by_cases c1 : 16 + k < ce p
          · rw [if_pos c1]; exact ⟨by omega, by omega⟩
          · rw [if_neg c1]; exact ⟨by omega, by omega⟩
        refine wz_iast (z := 18700) d192_203 (hG.a (by decide) rfl rfl) (by omega) (by omega) (by decide) ?_
        refine wz_iinc d192_204 rfl rfl ?_
        refine wz_iinc d192_207 rfl rfl ?_
        refine wp_goto (t := 97) d192_210 (by decide) ?_
        have q := ih (p + 1) _ u' (some (.int (zI (ce p : Int)))) o14 (by omega) (by omega) (mset_R32 (p := 73) (i := (17 * u) + ((spl k A en ce b0 b0 (p - b0)).length : Int)) (v := v) hM' rv) ?_ ?_ v1 (by omega) ?_
        · rw [lx, show (((spl k A en ce b0 b0 (p - b0)).length + 1 : Nat) : Int) = ((spl k A en ce b0 b0 (p - b0)).length : Int) + 1 by omega, show ((p + 1 : Nat) : Int) = (p : Int) + 1 by omega] at q
          exact q
        · intro p' k' hw
          unfold mset
          rw [if_neg (fun e => hw (Or.inr ⟨e.1, by omega⟩))]
          exact fr p' k' hw
        · rw [mset_p _ _ _ _ (by decide)]; exact e22
        · rw [es, ei, Row.app]
          refine ⟨Row.same (fun j j0 j1 => mset_i _ _ _ _ (by omega)) row, ?_, trivial⟩
          rw [← hv, Int.zero_add, mset_s]
      refine wp_aload_n d192_172 rfl ?_
      refine wp_getR (q := 73) d192_173 rfl (hG.o (by decide) rfl) (by decide) (hG.r (by decide +kernel)) (by decide) ?_
      refine wz_bipush d192_176 (by decide) ?_
      refine wp_iload d192_178 rfl ?_
      refine wz_imul d192_180 ?_
      refine wp_iload d192_181 rfl ?_
      refine wz_iadd d192_183 ?_
      refine wp_iload d192_184 rfl ?_
      refine wz_bipush d192_186 (by decide) ?_
      refine wp_iload d192_188 rfl ?_
      refine wz_iadd d192_190 ?_
      refine wz_icmp_le (t := 201) d192_191 (by decide) ⟨by omega, by omega⟩ ⟨by omega, by omega⟩ (fun hz => ?_) (fun hz => ?_)
      · skip
        refine wp_iload d192_201 rfl ?_
        exact stp _ (by rw [if_neg (by omega)])
      · skip
        refine wp_iload d192_194 rfl ?_
        refine wz_iconst d192_196 ?_
        refine wz_isub d192_197 ?_
        refine wp_goto (t := 203) d192_198 (by decide) ?_
        exact stp _ (by rw [if_pos (by omega)]; omega)
    · skip
      have heq : ce p = 16 + k := by omega
      have ei : itp k A (bas en ce p b0 (p - b0)) (ce p) = flat (lft k (bas en ce p b0 (p - b0)) A) := if_pos heq
      rw [if_pos heq] at le
      rw [le] at lx
      have oL : ok (k + bas en ce p b0 (p - b0)) (lft k (bas en ce p b0 (p - b0)) A) = true := ok_lft k (bas en ce p b0 (p - b0)) A 0 oA
      have lL : (flat (lft k (bas en ce p b0 (p - b0)) A)).length = (flat A).length := lft_len _ _ _
      refine wp_aload_n d192_123 rfl ?_
      refine wp_iload d192_124 rfl ?_
      refine wz_iconst d192_126 ?_
      refine wp_iload d192_127 rfl ?_
      refine wp_iload d192_129 rfl ?_
      refine wp_aload_n d192_131 rfl ?_
      refine wp_iload_n d192_132 rfl ?_
      refine wp_iload d192_133 rfl ?_
      refine wp_iload d192_135 rfl ?_
      refine wp_virt (as := [.int (zI (p : Int)), .int (zI (b0 : Int)), .int (zI r)]) (rest := [.int (zI (k : Int)), .int (zI (k : Int)), .int (zI 0), .int (zI q), .ref 56]) d192_137 rfl rfl rfl (hG.o (by decide) rfl) rfl rfl (Nat.le_of_ble_eq_true rfl) ?_
      refine wc_deep (show d + 1 + 3 ≤ d + 4 by omega) ?_
      refine m_binders hG hM' r0 (by omega) hE' bp (by omega) hc ?_
      refine wz_iadd d192_140 ?_
      refine wp_virt (as := [.int (zI ((k : Int) + ((bas en ce p b0 (p - b0) : Int)))), .int (zI (k : Int)), .int (zI 0), .int (zI q)]) (rest := []) d192_141 rfl rfl rfl (hG.o (by decide) rfl) rfl rfl (Nat.le_of_ble_eq_true rfl) ?_
      refine m_widened (l := flat A) hG hM' e22 q0 (by omega) (by omega) (by omega) (by omega) (by omega) (by omega) hA' (ok_pre A k oA) ?_
      rw [show (k : Int) + (bas en ce p b0 (p - b0) : Int) = ((k + bas en ce p b0 (p - b0) : Nat) : Int) by omega, zlf_lfc (by omega), show k + bas en ce p b0 (p - b0) - k = bas en ce p b0 (p - b0) by omega, ← flat_lft]
      have R1 := mput_R32 (p := 73) (b := 17 * u') (mset_R32 (p := 56) (i := 22) (v := u' + 1) hM' ⟨by omega, by omega⟩) (flat_R32 oL (by omega) (by omega))
      have rw1 : Row (mput (mset N' 56 22 (u' + 1)) 73 (17 * u') (flat (lft k (bas en ce p b0 (p - b0)) A))) u' 0 (flat (lft k (bas en ce p b0 (p - b0)) A)) := by
        have := mput_row (flat (lft k (bas en ce p b0 (p - b0)) A)) (mset N' 56 22 (u' + 1)) u' 0
        rw [Int.add_zero] at this
        exact this
      have fr1 : XPF u N (mput (mset N' 56 22 (u' + 1)) 73 (17 * u') (flat (lft k (bas en ce p b0 (p - b0)) A))) := (fr.set (Or.inl rfl)).put (by omega)
      refine wp_istore d192_144 (Nat.le_of_ble_eq_true rfl) rfl ?_
      refine wp_aload_n d192_146 rfl ?_
      refine wp_iload d192_147 rfl ?_
      refine wz_iconst d192_149 ?_
      refine wp_iload d192_150 rfl ?_
      refine wp_iload d192_152 rfl ?_
      refine wp_virt (as := [.int (zI (((spl k A en ce b0 b0 (p - b0)).length : Int))), .int (zI u), .int (zI 0), .int (zI u')]) (rest := []) d192_154 rfl rfl rfl (hG.o (by decide) rfl) rfl rfl (Nat.le_of_ble_eq_true rfl) ?_
      refine wc_deep (show d + 1 + 3 ≤ d + 4 by omega) ?_
      refine m_copy (l := flat (lft k (bas en ce p b0 (p - b0)) A)) hG R1 (by omega) (by omega) (by omega) (by omega) (by omega) (by omega) (by omega) (by omega) (by omega) rw1 (ok_pre _ _ oL) ?_
      have R2 := mput_R32 (p := 73) (b := 17 * u + ((spl k A en ce b0 b0 (p - b0)).length : Int)) R1 (flat_R32 oL (by omega) (by omega))
      have fr2 : XPF u N (mput (mput (mset N' 56 22 (u' + 1)) 73 (17 * u') (flat (lft k (bas en ce p b0 (p - b0)) A))) 73 (17 * u + ((spl k A en ce b0 b0 (p - b0)).length : Int)) (flat (lft k (bas en ce p b0 (p - b0)) A))) := by
        intro p' k' hw
        unfold mput
        rw [if_neg (fun e => hw (Or.inr ⟨e.1, by omega⟩))]
        exact fr1 p' k' hw
      refine wp_iload d192_157 rfl ?_
      refine wp_aload_n d192_159 rfl ?_
      refine wp_iload d192_160 rfl ?_
      refine wz_iconst d192_162 ?_
      refine wp_virt (as := [.int (zI 0), .int (zI q)]) (rest := [.int (zI (((spl k A en ce b0 b0 (p - b0)).length : Int)))]) d192_163 rfl rfl rfl (hG.o (by decide) rfl) rfl rfl (Nat.le_of_ble_eq_true rfl) ?_
      refine wc_deep (show d + 2 + 2 ≤ d + 4 by omega) ?_
      refine m_end (l := flat A) hG R2 q0 (by omega) (by omega) (by omega) (fr2.row qu (by omega) hA) (ok_pre A k oA) ?_
      refine wz_iadd d192_166 ?_
      refine wp_istore d192_167 (Nat.le_of_ble_eq_true rfl) rfl ?_
      refine wp_goto (t := 207) d192_169 (by decide) ?_
      refine wz_iinc d192_207 rfl rfl ?_
      refine wp_goto (t := 97) d192_210 (by decide) ?_
      have q := ih (p + 1) _ (u' + 1) (some (.int (zI (ce p : Int)))) (some (.int (zI u'))) (by omega) (by omega) R2 fr2 ?_ (by omega) (by omega) ?_
      · rw [lx, show (((spl k A en ce b0 b0 (p - b0)).length + (flat A).length : Nat) : Int) = ((spl k A en ce b0 b0 (p - b0)).length : Int) + (0 + ((flat A).length : Int)) by omega, show ((p + 1 : Nat) : Int) = (p : Int) + 1 by omega] at q
        exact q
      · rw [mput_p _ _ _ _ (by decide), mput_p _ _ _ _ (by decide), mset_s]
      · rw [es, ei, Row.app]
        refine ⟨Row.same (fun j j0 j1 => ?_) row, ?_⟩
        · rw [mput_o _ _ _ _ (by omega), mput_o _ _ _ _ (by omega), mset_p _ _ _ _ (by decide)]
        · rw [Int.zero_add]
          exact mput_row _ _ u _
end PmF5
