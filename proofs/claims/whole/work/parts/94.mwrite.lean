/-! THE MODEL: write. -/
/-- the type that begins at a place -/
def sub : Nat → Ty → Nat → Ty
  | 0, t, _ => t
  | f + 1, t, j => if j = 0 then t else if j - 1 < (flat (pt t 0)).length then sub f (pt t 0) (j - 1) else if j - 1 < (flat (pt t 0)).length + (flat (pt t 1)).length then sub f (pt t 1) (j - 1 - (flat (pt t 0)).length) else sub f (pt t 2) (j - 1 - (flat (pt t 0)).length - (flat (pt t 1)).length)
theorem sub_part (f : Nat) {t : Ty} {g j : Nat} (hg : g < 3) (hj : j < (flat (pt t g)).length) : sub (f + 1) t (1 + off t g + j) = sub f (pt t g) j := by
  have o0 : off t 0 = 0 := rfl
  have o1 : off t 1 = (flat (pt t 0)).length := rfl
  have o2 : off t 2 = (flat (pt t 0)).length + (flat (pt t 1)).length := rfl
  show (if 1 + off t g + j = 0 then t else _) = _
  rw [if_neg (by omega)]
  rcases (show g = 0 ∨ g = 1 ∨ g = 2 by omega) with rfl | rfl | rfl
  · rw [if_pos (by omega), show 1 + off t 0 + j - 1 = j by omega]
  · rw [if_neg (by omega), if_pos (by omega), show 1 + off t 1 + j - 1 - (flat (pt t 0)).length = j by omega]
  · rw [if_neg (by omega), if_neg (by omega), show 1 + off t 2 + j - 1 - (flat (pt t 0)).length - (flat (pt t 1)).length = j by omega]
theorem sub_at {en ce : Nat → Nat} : ∀ (f D : Nat) (t : Ty) (a : Nat), ok D t = true → (flat t).length ≤ f → (∀ j, j < (flat t).length → en (a + j) = a + j + (flat (sub f t j)).length ∧ ce (a + j) = hd (sub f t j)) → At en ce f t a
  | 0, D, t, a, h, hf, _ => trivial
  | f + 1, D, t, a, h, hf, H => by
    have l1 := flat_pos h
    have h0 := H 0 (by omega)
    have e0 : sub (f + 1) t 0 = t := if_pos rfl
    rw [Nat.add_zero, e0] at h0
    refine ⟨h0.2, h0.1, fun g hg hb => ?_⟩
    have ol := off_le h hg
    refine sub_at f _ (pt t g) (a + 1 + off t g) (ok_part h hg hb) (by omega) (fun j hj => ?_)
    have q := H (1 + off t g + j) (by omega)
    rw [sub_part f hg hj, show a + (1 + off t g + j) = a + 1 + off t g + j by omega] at q
    exact q
/-- ends and codes of a row's places -/
def EnR (N : pm_M) (r : Int) (n : Nat) (en ce : Nat → Nat) : Prop := ∀ j : Nat, j < n → ∃ (u : Ty) (D : Nat), ok D u = true ∧ D ≤ 100 ∧ Row N r (j : Int) (flat u) ∧ en j = j + (flat u).length ∧ en j ≤ n ∧ ce j = hd u
theorem sub_row {N : pm_M} {r : Int} : ∀ (f D : Nat) (t : Ty) (a : Nat), ok D t = true → (flat t).length ≤ f → D + (flat t).length ≤ 100 → Row N r (a : Int) (flat t) → ∀ j, j < (flat t).length → Row N r ((a + j : Nat) : Int) (flat (sub f t j)) ∧ j + (flat (sub f t j)).length ≤ (flat t).length ∧ ∃ D', D' ≤ 100 ∧ ok D' (sub f t j) = true
  | 0, D, t, a, h, hf, _, _, j, hj => by omega
  | f + 1, D, t, a, h, hf, hD, hr, j, hj => by
    have l1 := flat_pos h
    by_cases e : j = 0
    · subst e
      have e0 : sub (f + 1) t 0 = t := if_pos rfl
      rw [e0]
      exact ⟨hr, by omega, D, by omega, h⟩
    · obtain ⟨g, hg, hb, q1, q2⟩ := part_of (a := 0) (j := j) h (by omega) (by omega)
      have ol := off_le h hg
      obtain ⟨q, rfl⟩ : ∃ q, j = 1 + off t g + q := ⟨j - 1 - off t g, by omega⟩
      have rg : Row N r ((a + 1 + off t g : Nat) : Int) (flat (pt t g)) := by
        rw [flat_pts h] at hr
        have hr := hr.2
        rw [Row.app, Row.app] at hr
        rcases (show g = 0 ∨ g = 1 ∨ g = 2 by omega) with rfl | rfl | rfl
        · have e : ((a + 1 + off t 0 : Nat) : Int) = (a : Int) + 1 := by
            have o0 : off t 0 = 0 := rfl
            omega
          rw [e]; exact hr.1
        · have e : ((a + 1 + off t 1 : Nat) : Int) = (a : Int) + 1 + (flat (pt t 0)).length := by
            have o1 : off t 1 = (flat (pt t 0)).length := rfl
            omega
          rw [e]; exact hr.2.1
        · have e : ((a + 1 + off t 2 : Nat) : Int) = (a : Int) + 1 + (flat (pt t 0)).length + (flat (pt t 1)).length := by
            have o2 : off t 2 = (flat (pt t 0)).length + (flat (pt t 1)).length := rfl
            omega
          rw [e]; exact hr.2.2
      have hDD : (if hd t = 2 ∧ g = 1 then D + 1 else D) ≤ D + 1 := by
        by_cases c : hd t = 2 ∧ g = 1
        · rw [if_pos c]; omega
        · rw [if_neg c]; omega
      obtain ⟨r1, r2, r3⟩ := sub_row f _ (pt t g) (a + 1 + off t g) (ok_part h hg hb) (by omega) (by omega) rg q (by omega)
      rw [sub_part f hg (by omega)]
      refine ⟨?_, by omega, r3⟩
      rw [show a + (1 + off t g + q) = a + 1 + off t g + q by omega]
      exact r1
theorem row_en {N : pm_M} {r : Int} {t : Ty} (h : ok 0 t = true) (hl : (flat t).length ≤ 16) (hr : Row N r 0 (flat t)) : ∃ en ce : Nat → Nat, EnR N r (flat t).length en ce ∧ At en ce 16 t 0 ∧ en 0 = (flat t).length := by
  have l1 := flat_pos h
  have e0 : sub 16 t 0 = t := if_pos rfl
  refine ⟨fun j => j + (flat (sub 16 t j)).length, fun j => hd (sub 16 t j), fun j hj => ?_, sub_at 16 0 t 0 h hl (fun j _ => by simp only [Nat.zero_add]; exact ⟨trivial, trivial⟩), ?_⟩
  · obtain ⟨r1, r2, D', r3, r4⟩ := sub_row 16 0 t 0 h hl (by omega) hr j hj
    rw [Nat.zero_add] at r1
    exact ⟨_, D', r4, r3, r1, rfl, r2, rfl⟩
  · show 0 + (flat (sub 16 t 0)).length = _
    rw [e0, Nat.zero_add]
/-- the model's page -/
def MP (N : pm_M) (w : List Int) : Prop := N 56 2 = (w.length : Int) ∧ ∀ i : Nat, i < w.length → w[i]? = some (N 58 i)
def PMF (N N' : pm_M) : Prop := ∀ (p : Nat) (i : Int), p ≠ 58 → ¬ (p = 56 ∧ i = 2) → N' p i = N p i
theorem PMF.refl (N : pm_M) : PMF N N := fun _ _ _ _ => rfl
theorem PMF.trans {N N1 N2 : pm_M} (h : PMF N N1) (h' : PMF N1 N2) : PMF N N2 := fun p i a b => (h' p i a b).trans (h p i a b)
theorem PMF.en {N N' : pm_M} {r : Int} {n : Nat} {en ce : Nat → Nat} (h : PMF N N') (hE : EnR N r n en ce) : EnR N' r n en ce := by
  intro j hj
  obtain ⟨u, D, q1, q2, q3, q4⟩ := hE j hj
  exact ⟨u, D, q1, q2, Row.same (fun i _ _ => h 73 _ (by decide) (by omega)) q3, q4⟩
theorem outr_mono {en ce : Nat → Nat} (a b : Nat) : ∀ m k, (outr en ce a b k).length ≤ (outr en ce a b (k + m)).length
  | 0, k => Nat.le_refl _
  | m + 1, k => by
    have := outr_mono (en := en) (ce := ce) a b m k
    show _ ≤ (outr en ce a b (k + m) ++ _).length
    rw [List.length_append]; omega
section PmM26
variable {d : Nat} {Q : Option Value → pm_S → Prop} {N : pm_M} {Rf : Nat → Nat → Nat} {K L : Nat → Nat} {n s : Nat}
theorem m_endE {r : Int} {c j : Nat} {en ce : Nat → Nat} (hG : pm_G Rf K L n) (hM : ∀ p i, R32 (N p i)) (r0 : 0 ≤ r) (r1 : r < 1100) (hE : EnR N r c en ce) (hj : j < c) (hc : c ≤ 16) (h : Q (some (.int (zI (en j : Int)))) (zM N, Rf, K, L, n, s)) : pm_Wc (d + 2) 152 [.ref 56, .int (zI r), .int (zI (j : Int))] (zM N, Rf, K, L, n, s) Q := by
  obtain ⟨u, D, q1, q2, q3, q4, q5, q6⟩ := hE j hj
  refine m_end (l := flat u) hG hM r0 r1 (by omega) (by omega) q3 (ok_pre u D q1) ?_
  rw [show (j : Int) + ((flat u).length : Int) = (en j : Int) by omega]
  exact h
theorem m_cellE {r : Int} {c j : Nat} {en ce : Nat → Nat} (hG : pm_G Rf K L n) (r0 : 0 ≤ r) (r1 : r < 1100) (hE : EnR N r c en ce) (hj : j < c) (hc : c ≤ 16) (h : Q (some (.int (zI (ce j : Int)))) (zM N, Rf, K, L, n, s)) : pm_Wc (d + 1) 149 [.ref 56, .int (zI r), .int (zI (j : Int))] (zM N, Rf, K, L, n, s) Q := by
  obtain ⟨u, D, q1, q2, q3, q4, q5, q6⟩ := hE j hj
  refine m_cell hG (by omega) (by omega) ?_
  have e : N 73 (17 * r + (j : Int)) = (ce j : Int) := by
    rw [flat_pts q1] at q3
    rw [q3.1, q6]
  rw [e]
  exact h
theorem EnR.ce_le {r : Int} {c j : Nat} {en ce : Nat → Nat} (hE : EnR N r c en ce) (hj : j < c) : ce j < 200 ∧ (ce j < 3 ∨ 8 ≤ ce j) ∧ j < en j ∧ en j ≤ c ∧ (ce j = 2 → j + 1 < c) := by
  obtain ⟨u, D, q1, q2, q3, q4, q5, q6⟩ := hE j hj
  have l1 := flat_pos q1
  rw [q6]
  refine ⟨?_, ?_, by omega, q5, ?_⟩
  · have := hd_le q1; omega
  · rcases ok_cases q1 with rfl | ⟨k, -, rfl⟩ | ⟨a, b, rfl, -, -⟩ | ⟨a, b, rfl, -, -⟩ | ⟨m, x, y, z, hm, rfl, -, -, -⟩
    · rw [hd_top]; omega
    · rw [hd_var]; omega
    · rw [hd_fun]; omega
    · rw [hd_all]; omega
    · rw [hd_rec]; omega
  · intro e
    obtain ⟨a, b, rfl, oa, ob⟩ := hd_is_all q1 e
    have := flat_pos oa
    rw [flat_all, List.length_cons, List.length_append] at q4
    omega
theorem m_putE {w : List Int} {c : Int} (hG : pm_G Rf K L n) (hM : ∀ p i, R32 (N p i)) (hw : MP N w) (hl : w.length < 128) (hc : R32 c) (h : ∀ N' : pm_M, PMF N N' → MP N' (w ++ [c]) → (∀ p i, R32 (N' p i)) → Q none (zM N', Rf, K, L, n, s)) : pm_Wc (d + 1) 182 [.ref 56, .int (zI c)] (zM N, Rf, K, L, n, s) Q := by
  refine m_put hG hw.1 (by omega) (by omega) (h _ (fun p i h1 h2 => ?_) ⟨?_, ?_⟩ (mset_R32 (mset_R32 hM hc) ⟨by omega, by omega⟩))
  · unfold mset
    rw [if_neg h2, if_neg (fun e => h1 e.1)]
  · rw [mset_s, List.length_append]; simp
  · intro i hi
    rw [mset_p _ _ _ _ (by decide)]
    by_cases e : i = w.length
    · subst e
      rw [mset_s, List.getElem?_concat_length]
    · rw [List.length_append] at hi
      have hi : i < w.length + 1 := hi
      rw [mset_i _ _ _ _ (by omega), List.getElem?_append_left (by omega)]
      exact hw.2 i (by omega)
theorem m_binders {r : Int} {c a p : Nat} {en ce : Nat → Nat} (hG : pm_G Rf K L n) (hM : ∀ p i, R32 (N p i)) (r0 : 0 ≤ r) (r1 : r < 1100) (hE : EnR N r c en ce) (ha : a ≤ p) (hp : p < c) (hc : c ≤ 16) (h : Q (some (.int (zI (bas en ce p a (p - a) : Int)))) (zM N, Rf, K, L, n, s)) : pm_Wc (d + 3) 184 [.ref 56, .int (zI r), .int (zI (a : Int)), .int (zI (p : Int))] (zM N, Rf, K, L, n, s) Q := by
  have bl : ∀ k, bas en ce p a k ≤ k := by
    intro k
    induction k with
    | zero => exact Nat.le_refl _
    | succ k ih =>
      show bas en ce p a k + _ ≤ k + 1
      by_cases e : ce (a + k) = 2 ∧ en (a + k + 1) ≤ p ∧ p < en (a + k)
      · rw [if_pos e]; omega
      · rw [if_neg e]; omega
  have loop : ∀ (m k : Nat), a + k + m = p → pm_Wp none (d + 2) 184 6 [some (.ref 56), some (.int (zI r)), some (.int (zI (a : Int))), some (.int (zI (p : Int))), some (.int (zI (bas en ce p a k : Int))), some (.int (zI ((a + k : Nat) : Int)))] [] (zM N, Rf, K, L, n, s) Q := by
    intro m
    induction m with
    | zero =>
      intro k hk
      have b := bl k
      refine wp_iload d184_6 rfl ?_
      refine wp_iload_n d184_8 rfl ?_
      refine wz_icmp_ge (t := 63) d184_9 (by decide) ⟨by omega, by omega⟩ ⟨by omega, by omega⟩ (fun _ => ?_) (fun hb => absurd (by omega) hb)
      refine wp_iload d184_63 rfl ?_
      rw [show p - a = k by omega] at h
      exact wp_ret d184_65 rfl (h)
    | succ m ih =>
      intro k hk
      have b := bl k
      obtain ⟨k1, k2, k3, k4, k5⟩ := hE.ce_le (j := a + k) (by omega)
      have nxt : ∀ v : Nat, bas en ce p a (k + 1) = bas en ce p a k + v → pm_Wp none (d + 2) 184 54 [some (.ref 56), some (.int (zI r)), some (.int (zI (a : Int))), some (.int (zI (p : Int))), some (.int (zI (bas en ce p a k : Int))), some (.int (zI ((a + k : Nat) : Int)))] [.int (zI (v : Int)), .int (zI (bas en ce p a k : Int))] (zM N, Rf, K, L, n, s) Q := by
        intro v hv
        refine wz_iadd d184_54 ?_
        refine wp_istore d184_55 (Nat.le_of_ble_eq_true rfl) rfl ?_
        refine wz_iinc d184_57 rfl rfl ?_
        refine wp_goto (t := 6) d184_60 (by decide) ?_
        have q := ih (k + 1) (by omega)
        rw [hv] at q
        rw [show (bas en ce p a k : Int) + (v : Int) = ((bas en ce p a k + v : Nat) : Int) by omega, show ((a + k : Nat) : Int) + 1 = ((a + (k + 1) : Nat) : Int) by omega]
        exact q
      refine wp_iload d184_6 rfl ?_
      refine wp_iload_n d184_8 rfl ?_
      refine wz_icmp_ge (t := 63) d184_9 (by decide) ⟨by omega, by omega⟩ ⟨by omega, by omega⟩ (fun hb => absurd hb (by omega)) (fun _ => ?_)
      refine wp_iload d184_12 rfl ?_
      refine wp_aload_n d184_14 rfl ?_
      refine wp_iload_n d184_15 rfl ?_
      refine wp_iload d184_16 rfl ?_
      refine wp_virt (as := [.int (zI (((a + k : Nat) : Int))), .int (zI r)]) (rest := [.int (zI (bas en ce p a k : Int))]) d184_18 rfl rfl rfl (hG.o (by decide) rfl) rfl rfl (Nat.le_of_ble_eq_true rfl) ?_
      refine m_cellE hG r0 r1 hE (j := a + k) (by omega) hc ?_
      refine wz_iconst d184_21 ?_
      refine wz_icmp_ne (t := 53) d184_22 (by decide) ⟨by omega, by omega⟩ ⟨by omega, by omega⟩ (fun h2 => ?_) (fun h2 => ?_)
      · skip
        refine wz_iconst d184_53 ?_
        exact nxt 0 (by show bas en ce p a k + _ = _; rw [if_neg (fun e => h2 (by rw [e.1]; rfl))])
      · skip
        refine wp_iload_n d184_25 rfl ?_
        refine wp_aload_n d184_26 rfl ?_
        refine wp_iload_n d184_27 rfl ?_
        refine wp_iload d184_28 rfl ?_
        refine wz_iconst d184_30 ?_
        refine wz_iadd d184_31 ?_
        refine wp_virt (as := [.int (zI ((((a + k : Nat) : Int)) + 1)), .int (zI r)]) (rest := [.int (zI (p : Int)), .int (zI (bas en ce p a k : Int))]) d184_32 rfl rfl rfl (hG.o (by decide) rfl) rfl rfl (Nat.le_of_ble_eq_true rfl) ?_
        rw [show ((a + k : Nat) : Int) + 1 = ((a + k + 1 : Nat) : Int) by omega]
        have h5 := k5 (by omega)
        obtain ⟨-, -, -, j4, -⟩ := hE.ce_le (j := a + k + 1) (by omega)
        refine m_endE hG hM r0 r1 hE (j := a + k + 1) (by omega) hc ?_
        refine wz_icmp_lt (t := 53) d184_35 (by decide) ⟨by omega, by omega⟩ ⟨by omega, by omega⟩ (fun h3 => ?_) (fun h3 => ?_)
        · skip
          refine wz_iconst d184_53 ?_
          exact nxt 0 (by show bas en ce p a k + _ = _; rw [if_neg (by omega)])
        · skip
          refine wp_iload_n d184_38 rfl ?_
          refine wp_aload_n d184_39 rfl ?_
          refine wp_iload_n d184_40 rfl ?_
          refine wp_iload d184_41 rfl ?_
          refine wp_virt (as := [.int (zI (((a + k : Nat) : Int))), .int (zI r)]) (rest := [.int (zI (p : Int)), .int (zI (bas en ce p a k : Int))]) d184_43 rfl rfl rfl (hG.o (by decide) rfl) rfl rfl (Nat.le_of_ble_eq_true rfl) ?_
          refine m_endE hG hM r0 r1 hE (j := a + k) (by omega) hc ?_
          refine wz_icmp_ge (t := 53) d184_46 (by decide) ⟨by omega, by omega⟩ ⟨by omega, by omega⟩ (fun h4 => ?_) (fun h4 => ?_)
          · skip
            refine wz_iconst d184_53 ?_
            exact nxt 0 (by show bas en ce p a k + _ = _; rw [if_neg (by omega)])
          · skip
            refine wz_iconst d184_49 ?_
            refine wp_goto (t := 54) d184_50 (by decide) ?_
            exact nxt 1 (by show bas en ce p a k + _ = _; rw [if_pos ⟨by omega, by omega, by omega⟩])
  refine wc_in (ls0 := [some (.ref 56), some (.int (zI r)), some (.int (zI (a : Int))), some (.int (zI (p : Int))), none, none]) (by decide) (Nat.le_of_ble_eq_true rfl) rfl rfl ?_
  refine wz_iconst d184_0 ?_
  refine wp_istore d184_1 (Nat.le_of_ble_eq_true rfl) rfl ?_
  refine wp_iload_n d184_3 rfl ?_
  refine wp_istore d184_4 (Nat.le_of_ble_eq_true rfl) rfl ?_
  have q := loop (p - a) 0 (by omega)
  rw [Nat.add_zero] at q
  exact q
theorem m_before {r : Int} {c p : Nat} {en ce : Nat → Nat} {w : List Int} (hG : pm_G Rf K L n) (hM : ∀ p i, R32 (N p i)) (r0 : 0 ≤ r) (r1 : r < 1100) (hE : EnR N r c en ce) (e0 : en 0 = c) (hp0 : 0 < p) (hp : p < c) (hc : c ≤ 16) (hw : MP N w) (hl : w.length + (bfr en ce p).length < 128) (h : ∀ N' : pm_M, PMF N N' → MP N' (w ++ bfr en ce p) → (∀ p i, R32 (N' p i)) → Q none (zM N', Rf, K, L, n, s)) : pm_Wc (d + 3) 183 [.ref 56, .int (zI r), .int (zI (p : Int))] (zM N, Rf, K, L, n, s) Q := by
  have parl : ∀ k, k < p → par en p k ≤ k ∧ par en p k < c := by
    intro k
    induction k with
    | zero => intro _; exact ⟨Nat.le_refl _, show 0 < c by omega⟩
    | succ k ih =>
      intro hk
      have := ih (by omega)
      show (if p < en (k + 1) then k + 1 else par en p k) ≤ k + 1 ∧ (if p < en (k + 1) then k + 1 else par en p k) < c
      by_cases e : p < en (k + 1)
      · rw [if_pos e]; omega
      · rw [if_neg e]; omega
  have hb := hE.ce_le (j := par en p (p - 1)) (parl (p - 1) (by omega)).2
  have pl := parl (p - 1) (by omega)
  unfold bfr at hl h
  -- the labels
  have loop3 : ∀ (m k seen c0 wc : Nat) (N1 : pm_M) (w1 : List Int), k + m = 3 → c0 < 200 → wc < 100 → seen ≤ k → PMF N N1 → MP N1 w1 → (∀ p i, R32 (N1 p i)) → w1.length + (sel c0 wc m k seen).length < 128 → (∀ N' : pm_M, PMF N N' → MP N' (w1 ++ sel c0 wc m k seen) → (∀ p i, R32 (N' p i)) → Q none (zM N', Rf, K, L, n, s)) → ∀ v3 : Int, pm_Wp none (d + 2) 183 83 [some (.ref 56), some (.int (zI r)), some (.int (zI (p : Int))), some (.int (zI v3)), some (.int (zI (c0 : Int))), some (.int (zI (wc : Int))), some (.int (zI (seen : Int))), some (.int (zI (k : Int)))] [] (zM N1, Rf, K, L, n, s) Q := by
    intro m
    induction m with
    | zero =>
      intro k seen c0 wc N1 w1 hk hc0 hwc hsn pf mp hM1 hl1 h1 v3
      refine wp_iload d183_83 rfl ?_
      refine wz_iconst d183_85 ?_
      refine wz_icmp_ge (t := 143) d183_86 (by decide) ⟨by omega, by omega⟩ ⟨by omega, by omega⟩ (fun _ => ?_) (fun hb => absurd (by omega) hb)
      exact wp_ret d183_143 rfl (h1 N1 pf (by rw [show w1 ++ sel c0 wc 0 k seen = w1 ++ [] from rfl, List.append_nil]; exact mp) hM1)
    | succ m ih =>
      intro k seen c0 wc N1 w1 hk hc0 hwc hsn pf mp hM1 hl1 h1 v3
      have se : sel c0 wc (m + 1) k seen = if bit c0 k = true then (if seen = wc then (if 0 < wc then [44] else []) ++ [120 + (k : Int)] else []) ++ sel c0 wc m (k + 1) (seen + 1) else sel c0 wc m (k + 1) seen := rfl
      rw [se] at hl1 h1
      refine wp_iload d183_83 rfl ?_
      refine wz_iconst d183_85 ?_
      refine wz_icmp_ge (t := 143) d183_86 (by decide) ⟨by omega, by omega⟩ ⟨by omega, by omega⟩ (fun hb => absurd hb (by omega)) (fun _ => ?_)
      refine wp_iload d183_89 rfl ?_
      refine wp_iload d183_91 rfl ?_
      refine wz_ishr d183_93 (by omega) (by omega) (by omega) (by omega) ?_
      refine wz_iconst d183_94 ?_
      refine wz_and1 d183_95 (by first | omega | exact Int.natCast_nonneg _) ?_
      refine wz_iconst d183_96 ?_
      rw [Int.toNat_natCast, Int.toNat_natCast]
      refine wz_icmp_ne (t := 137) d183_97 (by decide) ⟨by omega, by omega⟩ ⟨by omega, by omega⟩ (fun hbit => ?_) (fun hbit => ?_)
      · skip
        have nb : ¬ bit c0 k = true := by
          rw [bit_iff]
          intro e
          apply hbit
          have e2 : ((c0 / 2 ^ k % 2 : Nat) : Int) = 1 := by rw [e]; rfl
          rw [← e2]; exact (Int.natCast_emod _ _).symm
        rw [if_neg nb] at hl1 h1
        refine wz_iinc d183_137 rfl rfl ?_
        refine wp_goto (t := 83) d183_140 (by decide) ?_
        rw [show (k : Int) + 1 = ((k + 1 : Nat) : Int) by omega]
        exact ih (k + 1) seen c0 wc N1 w1 (by omega) hc0 hwc (by omega) pf mp hM1 hl1 h1 v3
      · skip
        have yb : bit c0 k = true := by
          rw [bit_iff]
          have e2 : ((c0 / 2 ^ k % 2 : Nat) : Int) = 1 := by rw [← hbit]; exact Int.natCast_emod _ _
          omega
        rw [if_pos yb] at hl1 h1
        have tail : ∀ (N2 : pm_M) (w2 : List Int), PMF N N2 → MP N2 w2 → (∀ p i, R32 (N2 p i)) → w2 = w1 ++ (if seen = wc then (if 0 < wc then [44] else []) ++ [120 + (k : Int)] else []) → pm_Wp none (d + 2) 183 134 [some (.ref 56), some (.int (zI r)), some (.int (zI (p : Int))), some (.int (zI v3)), some (.int (zI (c0 : Int))), some (.int (zI (wc : Int))), some (.int (zI (seen : Int))), some (.int (zI (k : Int)))] [] (zM N2, Rf, K, L, n, s) Q := by
          intro N2 w2 pf2 mp2 hM2 ew2
          refine wz_iinc d183_134 rfl rfl ?_
          refine wz_iinc d183_137 rfl rfl ?_
          refine wp_goto (t := 83) d183_140 (by decide) ?_
          rw [show (k : Int) + 1 = ((k + 1 : Nat) : Int) by omega, show (seen : Int) + 1 = ((seen + 1 : Nat) : Int) by omega]
          refine ih (k + 1) (seen + 1) c0 wc N2 w2 (by omega) hc0 hwc (by omega) pf2 mp2 hM2 ?_ (fun N' a1 a2 a3 => h1 N' a1 ?_ a3) v3
          · rw [ew2, List.length_append]; rw [List.length_append] at hl1; omega
          · rw [ew2] at a2; rw [← List.append_assoc]; exact a2
        refine wp_iload d183_100 rfl ?_
        refine wp_iload d183_102 rfl ?_
        by_cases es : seen = wc
        · skip
          subst es
          rw [if_pos rfl] at tail hl1
          refine wz_icmp_ne (t := 118) d183_104 (by decide) ⟨by omega, by omega⟩ ⟨by omega, by omega⟩ (fun hb => absurd (rfl) hb) (fun _ => ?_)
          refine wp_iload d183_107 rfl ?_
          by_cases ew : 0 < seen
          · skip
            rw [if_pos ew] at tail hl1
            simp only [List.length_append, List.length_cons, List.length_nil] at hl1
            refine wz_if_le (t := 118) d183_109 (by decide) ⟨by omega, by omega⟩ (fun hb => absurd hb (by omega)) (fun _ => ?_)
            refine wp_aload_n d183_112 rfl ?_
            refine wz_bipush d183_113 (by decide) ?_
            refine wp_virt (as := [.int (zI 44)]) (rest := []) d183_115 rfl rfl rfl (hG.o (by decide) rfl) rfl rfl (Nat.le_of_ble_eq_true rfl) ?_
            refine m_putE hG hM1 mp (by omega) ⟨by omega, by omega⟩ (fun N2 pf2 mp2 hM2 => ?_)
            refine wp_iload d183_118 rfl ?_
            refine wp_iload d183_120 rfl ?_
            refine wz_icmp_ne (t := 134) d183_122 (by decide) ⟨by omega, by omega⟩ ⟨by omega, by omega⟩ (fun hb => absurd (rfl) hb) (fun _ => ?_)
            refine wp_aload_n d183_125 rfl ?_
            refine wz_bipush d183_126 (by decide) ?_
            refine wp_iload d183_128 rfl ?_
            refine wz_iadd d183_130 ?_
            refine wp_virt (as := [.int (zI (120 + (k : Int)))]) (rest := []) d183_131 rfl rfl rfl (hG.o (by decide) rfl) rfl rfl (Nat.le_of_ble_eq_true rfl) ?_
            refine m_putE hG hM2 mp2 (by rw [List.length_append]; simp only [List.length_cons, List.length_nil]; omega) ⟨by omega, by omega⟩ (fun N3 pf3 mp3 hM3 => ?_)
            refine tail N3 _ ((pf.trans pf2).trans pf3) mp3 hM3 ?_
            simp only [List.append_assoc]
          · skip
            rw [if_neg ew] at tail hl1
            simp only [List.length_append, List.length_cons, List.length_nil] at hl1
            refine wz_if_le (t := 118) d183_109 (by decide) ⟨by omega, by omega⟩ (fun _ => ?_) (fun hb => absurd (by omega) hb)
            refine wp_iload d183_118 rfl ?_
            refine wp_iload d183_120 rfl ?_
            refine wz_icmp_ne (t := 134) d183_122 (by decide) ⟨by omega, by omega⟩ ⟨by omega, by omega⟩ (fun hb => absurd (rfl) hb) (fun _ => ?_)
            refine wp_aload_n d183_125 rfl ?_
            refine wz_bipush d183_126 (by decide) ?_
            refine wp_iload d183_128 rfl ?_
            refine wz_iadd d183_130 ?_
            refine wp_virt (as := [.int (zI (120 + (k : Int)))]) (rest := []) d183_131 rfl rfl rfl (hG.o (by decide) rfl) rfl rfl (Nat.le_of_ble_eq_true rfl) ?_
            refine m_putE hG hM1 mp (by omega) ⟨by omega, by omega⟩ (fun N3 pf3 mp3 hM3 => ?_)
            exact tail N3 _ (pf.trans pf3) mp3 hM3 rfl
        · skip
          rw [if_neg es] at tail hl1
          refine wz_icmp_ne (t := 118) d183_104 (by decide) ⟨by omega, by omega⟩ ⟨by omega, by omega⟩ (fun _ => ?_) (fun hb => absurd hb (fun e => es (by omega)))
          refine wp_iload d183_118 rfl ?_
          refine wp_iload d183_120 rfl ?_
          refine wz_icmp_ne (t := 134) d183_122 (by decide) ⟨by omega, by omega⟩ ⟨by omega, by omega⟩ (fun _ => ?_) (fun hb => absurd hb (fun e => es (by omega)))
          exact tail N1 w1 pf mp hM1 (by rw [List.append_nil])
  -- behind the counting
  have tail2 : ∀ v6 : Int, pm_Wp none (d + 2) 183 57 [some (.ref 56), some (.int (zI r)), some (.int (zI (p : Int))), some (.int (zI (par en p (p - 1) : Int))), some (.int (zI (ce (par en p (p - 1)) : Int))), some (.int (zI (whc en p 16 (par en p (p - 1) + 1) : Int))), some (.int (zI v6)), none] [] (zM N, Rf, K, L, n, s) Q := by
    intro v6
    have whl : ∀ f j, whc en p f j ≤ f := by
      intro f
      induction f with
      | zero => intro j; exact Nat.le_refl _
      | succ f ih =>
        intro j
        show (if j < p then 1 + whc en p f (en j) else 0) ≤ f + 1
        have := ih (en j)
        by_cases e : j < p
        · rw [if_pos e]; omega
        · rw [if_neg e]; omega
    have wl := whl 16 (par en p (p - 1) + 1)
    generalize par en p (p - 1) = pa at *
    generalize whc en p 16 (pa + 1) = wc at *
    refine wp_iload d183_57 rfl ?_
    refine wz_bipush d183_59 (by decide) ?_
    refine wz_icmp_ge (t := 77) d183_61 (by decide) ⟨by omega, by omega⟩ ⟨by omega, by omega⟩ (fun h8 => ?_) (fun h8 => ?_)
    · skip
      rw [if_neg (show ¬ ce pa < 8 by omega)] at hl h
      refine wz_iconst d183_77 ?_
      refine wp_istore d183_78 (Nat.le_of_ble_eq_true rfl) rfl ?_
      refine wz_iconst d183_80 ?_
      refine wp_istore d183_81 (Nat.le_of_ble_eq_true rfl) rfl ?_
      exact loop3 3 0 0 (ce pa) wc N w (by decide) (by omega) (by omega) (by decide) (PMF.refl N) hw hM hl h (pa : Int)
    · skip
      rw [if_pos (show ce pa < 8 by omega)] at hl h
      refine wp_iload d183_64 rfl ?_
      refine wz_iconst d183_66 ?_
      by_cases e1 : wc = 1
      · skip
        rw [if_pos e1] at hl h
        refine wz_icmp_ne (t := 76) d183_67 (by decide) ⟨by omega, by omega⟩ ⟨by omega, by omega⟩ (fun hb => absurd (by omega) hb) (fun _ => ?_)
        refine wp_aload_n d183_70 rfl ?_
        refine wz_bipush d183_71 (by decide) ?_
        refine wp_virt (as := [.int (zI 62)]) (rest := []) d183_73 rfl rfl rfl (hG.o (by decide) rfl) rfl rfl (Nat.le_of_ble_eq_true rfl) ?_
        refine m_putE hG hM hw (by simp at hl; omega) ⟨by omega, by omega⟩ (fun N2 pf2 mp2 hM2 => ?_)
        exact wp_ret d183_76 rfl (h N2 pf2 mp2 hM2)
      · skip
        rw [if_neg e1] at hl h
        refine wz_icmp_ne (t := 76) d183_67 (by decide) ⟨by omega, by omega⟩ ⟨by omega, by omega⟩ (fun _ => ?_) (fun hb => absurd hb (by omega))
        exact wp_ret d183_76 rfl (h N (PMF.refl N) (by rw [List.append_nil]; exact hw) hM)
  -- the counting
  have loop2 : ∀ (f j cnt : Nat), p < j + f → j ≤ c → cnt + f ≤ 16 → cnt + whc en p f j = whc en p 16 (par en p (p - 1) + 1) → pm_Wp none (d + 2) 183 36 [some (.ref 56), some (.int (zI r)), some (.int (zI (p : Int))), some (.int (zI (par en p (p - 1) : Int))), some (.int (zI (ce (par en p (p - 1)) : Int))), some (.int (zI (cnt : Int))), some (.int (zI (j : Int))), none] [] (zM N, Rf, K, L, n, s) Q := by
    intro f
    induction f with
    | zero =>
      intro j cnt hj hjc hcf he
      have he : cnt + 0 = _ := he
      rw [Nat.add_zero] at he
      refine wp_iload d183_36 rfl ?_
      refine wp_iload_n d183_38 rfl ?_
      refine wz_icmp_ge (t := 57) d183_39 (by decide) ⟨by omega, by omega⟩ ⟨by omega, by omega⟩ (fun _ => ?_) (fun hb => absurd (by omega) hb)
      rw [he]
      exact tail2 _
    | succ f ih =>
      intro j cnt hj hjc hcf he
      have he : cnt + (if j < p then 1 + whc en p f (en j) else 0) = _ := he
      by_cases hjp : j < p
      · skip
        rw [if_pos hjp] at he
        obtain ⟨-, -, k3, k4, -⟩ := hE.ce_le (j := j) (by omega)
        refine wp_iload d183_36 rfl ?_
        refine wp_iload_n d183_38 rfl ?_
        refine wz_icmp_ge (t := 57) d183_39 (by decide) ⟨by omega, by omega⟩ ⟨by omega, by omega⟩ (fun hb => absurd hb (by omega)) (fun _ => ?_)
        refine wz_iinc d183_42 rfl rfl ?_
        refine wp_aload_n d183_45 rfl ?_
        refine wp_iload_n d183_46 rfl ?_
        refine wp_iload d183_47 rfl ?_
        refine wp_virt (as := [.int (zI (j : Int)), .int (zI r)]) (rest := []) d183_49 rfl rfl rfl (hG.o (by decide) rfl) rfl rfl (Nat.le_of_ble_eq_true rfl) ?_
        refine m_endE hG hM r0 r1 hE (j := j) (by omega) hc ?_
        refine wp_istore d183_52 (Nat.le_of_ble_eq_true rfl) rfl ?_
        refine wp_goto (t := 36) d183_54 (by decide) ?_
        rw [show (cnt : Int) + 1 = ((cnt + 1 : Nat) : Int) by omega]
        exact ih (en j) (cnt + 1) (by omega) k4 (by omega) (by omega)
      · skip
        rw [if_neg hjp, Nat.add_zero] at he
        refine wp_iload d183_36 rfl ?_
        refine wp_iload_n d183_38 rfl ?_
        refine wz_icmp_ge (t := 57) d183_39 (by decide) ⟨by omega, by omega⟩ ⟨by omega, by omega⟩ (fun _ => ?_) (fun hb => absurd (by omega) hb)
        rw [he]
        exact tail2 _
  -- the search
  have loop1 : ∀ k : Nat, k < p → par en p k = par en p (p - 1) → pm_Wp none (d + 2) 183 4 [some (.ref 56), some (.int (zI r)), some (.int (zI (p : Int))), some (.int (zI (k : Int))), none, none, none, none] [] (zM N, Rf, K, L, n, s) Q := by
    intro k
    have found : k < p → k = par en p (p - 1) → pm_Wp none (d + 2) 183 20 [some (.ref 56), some (.int (zI r)), some (.int (zI (p : Int))), some (.int (zI (k : Int))), none, none, none, none] [] (zM N, Rf, K, L, n, s) Q := by
      intro hk ek
      rw [ek]
      refine wp_aload_n d183_20 rfl ?_
      refine wp_iload_n d183_21 rfl ?_
      refine wp_iload_n d183_22 rfl ?_
      refine wp_virt (as := [.int (zI ((par en p (p - 1) : Int))), .int (zI r)]) (rest := []) d183_23 rfl rfl rfl (hG.o (by decide) rfl) rfl rfl (Nat.le_of_ble_eq_true rfl) ?_
      refine m_cellE hG r0 r1 hE pl.2 hc ?_
      refine wp_istore d183_26 (Nat.le_of_ble_eq_true rfl) rfl ?_
      refine wz_iconst d183_28 ?_
      refine wp_istore d183_29 (Nat.le_of_ble_eq_true rfl) rfl ?_
      refine wp_iload_n d183_31 rfl ?_
      refine wz_iconst d183_32 ?_
      refine wz_iadd d183_33 ?_
      refine wp_istore d183_34 (Nat.le_of_ble_eq_true rfl) rfl ?_
      rw [show (par en p (p - 1) : Int) + 1 = ((par en p (p - 1) + 1 : Nat) : Int) by omega]
      exact loop2 16 (par en p (p - 1) + 1) 0 (by omega) (by omega) (by omega) (by omega)
    induction k with
    | zero =>
      intro hk ek
      obtain ⟨-, -, k3, k4, -⟩ := hE.ce_le (j := 0) (by omega)
      refine wp_aload_n d183_4 rfl ?_
      refine wp_iload_n d183_5 rfl ?_
      refine wp_iload_n d183_6 rfl ?_
      refine wp_virt (as := [.int (zI (((0 : Nat) : Int))), .int (zI r)]) (rest := []) d183_7 rfl rfl rfl (hG.o (by decide) rfl) rfl rfl (Nat.le_of_ble_eq_true rfl) ?_
      refine m_endE hG hM r0 r1 hE (j := 0) (by omega) hc ?_
      refine wp_iload_n d183_10 rfl ?_
      refine wz_icmp_gt (t := 20) d183_11 (by decide) ⟨by omega, by omega⟩ ⟨by omega, by omega⟩ (fun _ => ?_) (fun hb => absurd (by omega) hb)
      exact found hk ek
    | succ k ih =>
      intro hk ek
      have ek : (if p < en (k + 1) then k + 1 else par en p k) = _ := ek
      obtain ⟨-, -, k3, k4, -⟩ := hE.ce_le (j := k + 1) (by omega)
      refine wp_aload_n d183_4 rfl ?_
      refine wp_iload_n d183_5 rfl ?_
      refine wp_iload_n d183_6 rfl ?_
      refine wp_virt (as := [.int (zI (((k + 1 : Nat) : Int))), .int (zI r)]) (rest := []) d183_7 rfl rfl rfl (hG.o (by decide) rfl) rfl rfl (Nat.le_of_ble_eq_true rfl) ?_
      refine m_endE hG hM r0 r1 hE (j := k + 1) (by omega) hc ?_
      refine wp_iload_n d183_10 rfl ?_
      refine wz_icmp_gt (t := 20) d183_11 (by decide) ⟨by omega, by omega⟩ ⟨by omega, by omega⟩ (fun hg => ?_) (fun hg => ?_)
      · skip
        rw [if_pos (show p < en (k + 1) by omega)] at ek
        exact found hk ek
      · skip
        rw [if_neg (show ¬ p < en (k + 1) by omega)] at ek
        refine wz_iinc d183_14 rfl rfl ?_
        refine wp_goto (t := 4) d183_17 (by decide) ?_
        rw [show ((k + 1 : Nat) : Int) + (-1) = (k : Int) by omega]
        refine ih (fun hk' ek' => ?_) (by omega) ek
        rw [ek']
        refine wp_aload_n d183_20 rfl ?_
        refine wp_iload_n d183_21 rfl ?_
        refine wp_iload_n d183_22 rfl ?_
        refine wp_virt (as := [.int (zI ((par en p (p - 1) : Int))), .int (zI r)]) (rest := []) d183_23 rfl rfl rfl (hG.o (by decide) rfl) rfl rfl (Nat.le_of_ble_eq_true rfl) ?_
        refine m_cellE hG r0 r1 hE pl.2 hc ?_
        refine wp_istore d183_26 (Nat.le_of_ble_eq_true rfl) rfl ?_
        refine wz_iconst d183_28 ?_
        refine wp_istore d183_29 (Nat.le_of_ble_eq_true rfl) rfl ?_
        refine wp_iload_n d183_31 rfl ?_
        refine wz_iconst d183_32 ?_
        refine wz_iadd d183_33 ?_
        refine wp_istore d183_34 (Nat.le_of_ble_eq_true rfl) rfl ?_
        rw [show (par en p (p - 1) : Int) + 1 = ((par en p (p - 1) + 1 : Nat) : Int) by omega]
        exact loop2 16 (par en p (p - 1) + 1) 0 (by omega) (by omega) (by omega) (by omega)
  refine wc_in (ls0 := [some (.ref 56), some (.int (zI r)), some (.int (zI (p : Int))), none, none, none, none, none]) (by decide) (Nat.le_of_ble_eq_true rfl) rfl rfl ?_
  refine wp_iload_n d183_0 rfl ?_
  refine wz_iconst d183_1 ?_
  refine wz_isub d183_2 ?_
  refine wp_istore_n d183_3 (Nat.le_of_ble_eq_true rfl) rfl ?_
  rw [show (p : Int) - 1 = ((p - 1 : Nat) : Int) by omega]
  exact loop1 (p - 1) (by omega) rfl
end PmM26
