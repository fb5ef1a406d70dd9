/-! THE MODEL: contexts, boundOf, field. -/
/-- a context: the bounds of the open variables, the innermost first; rows below u, contexts below x -/
def Ctx (M : pm_M) (u x : Int) : Int → List Ty → Prop
  | c, [] => c = -1
  | c, b :: Γ => 0 ≤ c ∧ c < x ∧ M 75 c = (Γ.length : Int) ∧ 0 ≤ M 76 c ∧ M 76 c < u ∧ Row M (M 76 c) 0 (flat b) ∧ (flat b).length ≤ 16 ∧ ok Γ.length b = true ∧ Ctx M u x (M 74 c) Γ
/-- the bound of a level -/
def bnd : List Ty → Nat → Ty
  | [], _ => .nil
  | b :: Γ, k => if k = Γ.length then b else bnd Γ k
theorem zlf_lfc {k D : Nat} (h : k ≤ D) (l : List Int) : l.map (zlf (k : Int) (D : Int)) = l.map (lfc k (D - k)) := by
  apply List.map_congr_left
  intro c _
  unfold zlf lfc
  split <;> omega
section PmM5
variable {d : Nat} {Q : Option Value → pm_S → Prop} {M N : pm_M} {Rf : Nat → Nat → Nat} {K L : Nat → Nat} {n s : Nat}
set_option maxRecDepth 20000 in
set_option maxHeartbeats 1000000 in
theorem m_boundOf_loop {u x c0 : Int} {k D : Nat} (hG : pm_G Rf K L n) (hM : ∀ p i, R32 (M p i)) (hu : M 56 22 = u) (u1 : u < 1100) (x1 : x ≤ 900) (hkD : k ≤ D) (hk : k ≤ 2000) (hD : D ≤ 2000) : ∀ (Γ : List Ty) (c : Int), Ctx M u x c Γ → k < Γ.length → Γ.length ≤ 2000 → Q (some (.int (zI u))) (zM (mput (mset M 56 22 (u + 1)) 73 (17 * u) (flat (lft k (D - k) (bnd Γ k)))), Rf, K, L, n, s) → pm_Wp none (d + 4) 158 3 [some (.ref 56), some (.int (zI (k : Int))), some (.int (zI c0)), some (.int (zI (D : Int))), some (.int (zI c))] [] (zM M, Rf, K, L, n, s) Q
  | [], _, _, h, _, _ => absurd h (Nat.not_lt_zero _)
  | b :: Γ, c, hc, hkl, hgl, h => by
    obtain ⟨q0, q1, q2, q3, q4, q5, q6, q7, q8⟩ := hc
    obtain ⟨rw, hrw⟩ : ∃ rw, M 76 c = rw := ⟨_, rfl⟩
    obtain ⟨c2, hc2⟩ : ∃ c2, M 74 c = c2 := ⟨_, rfl⟩
    rw [hrw] at q3 q4 q5
    rw [hc2] at q8
    simp only [List.length_cons] at hkl hgl
    refine wp_aload_n d158_3 rfl ?_
    refine wp_getR (q := 75) d158_4 rfl (hG.o (by decide) rfl) (by decide) (hG.r (by decide +kernel)) (by decide) ?_
    refine wp_iload d158_7 rfl ?_
    refine wz_iald (z := 900) (v := (Γ.length : Int)) d158_9 (hG.a (by decide) rfl rfl) (by omega) (by omega) (by decide) q2 ?_
    refine wp_iload_n d158_10 rfl ?_
    refine wz_icmp_eq (t := 26) d158_11 (by decide) (⟨by omega, by omega⟩) (⟨by omega, by omega⟩) (fun hb11 => ?_) (fun hb11 => ?_)
    · skip
      refine wp_aload_n d158_26 rfl ?_
      refine wp_aload_n d158_27 rfl ?_
      refine wp_getR (q := 76) d158_28 rfl (hG.o (by decide) rfl) (by decide) (hG.r (by decide +kernel)) (by decide) ?_
      refine wp_iload d158_31 rfl ?_
      refine wz_iald (z := 900) (v := rw) d158_33 (hG.a (by decide) rfl rfl) (by omega) (by omega) (by decide) hrw ?_
      refine wz_iconst d158_34 ?_
      refine wp_iload_n d158_35 rfl ?_
      refine wp_iload_n d158_36 rfl ?_
      refine wp_virt (as := [.int (zI ((D : Int))), .int (zI ((k : Int))), .int (zI (0)), .int (zI (rw))]) (rest := []) d158_37 rfl rfl rfl (hG.o (by decide) rfl) rfl rfl (Nat.le_of_ble_eq_true rfl) ?_
      refine m_widened (l := flat b) (d := d) hG hM hu q3 q4 u1 (by omega) (by omega) (by omega) (by omega) q5 (ok_pre b _ q7) ?_
      have hb : bnd (b :: Γ) k = b := by unfold bnd; rw [if_pos (by omega)]
      rw [hb, flat_lft, ← zlf_lfc hkD] at h
      exact wp_ret d158_40 rfl h
    · skip
      refine wp_aload_n d158_14 rfl ?_
      refine wp_getR (q := 74) d158_15 rfl (hG.o (by decide) rfl) (by decide) (hG.r (by decide +kernel)) (by decide) ?_
      refine wp_iload d158_18 rfl ?_
      refine wz_iald (z := 900) (v := c2) d158_20 (hG.a (by decide) rfl rfl) (by omega) (by omega) (by decide) hc2 ?_
      refine wp_istore d158_21 (Nat.le_of_ble_eq_true rfl) rfl ?_
      refine wp_goto (t := 3) d158_23 (by decide) ?_
      have hb : bnd (b :: Γ) k = bnd Γ k := by rw [bnd, if_neg (by omega)]
      rw [hb] at h
      exact m_boundOf_loop hG hM hu u1 x1 hkD hk hD Γ c2 q8 (by omega) (by omega) h
set_option maxRecDepth 20000 in
theorem m_boundOf {u x c : Int} {k D : Nat} {Γ : List Ty} (hG : pm_G Rf K L n) (hM : ∀ p i, R32 (M p i)) (hu : M 56 22 = u) (u1 : u < 1100) (x1 : x ≤ 900) (hkD : k ≤ D) (hD : D ≤ 2000) (hc : Ctx M u x c Γ) (hk : k < Γ.length) (hg : Γ.length ≤ 2000) (h : Q (some (.int (zI u))) (zM (mput (mset M 56 22 (u + 1)) 73 (17 * u) (flat (lft k (D - k) (bnd Γ k)))), Rf, K, L, n, s)) : pm_Wc (d + 5) 158 [.ref 56, .int (zI ((k : Int))), .int (zI c), .int (zI ((D : Int)))] (zM M, Rf, K, L, n, s) Q := by
  refine wc_in (ls0 := [some (.ref 56), some (.int (zI ((k : Int)))), some (.int (zI c)), some (.int (zI ((D : Int)))), none]) (by decide) (Nat.le_of_ble_eq_true rfl) rfl rfl ?_
  refine wp_iload_n d158_0 rfl ?_
  refine wp_istore d158_1 (Nat.le_of_ble_eq_true rfl) rfl ?_
  exact m_boundOf_loop hG hM hu u1 x1 hkD (by omega) hD Γ c hc hk hg h
theorem bit_iff {m k : Nat} : bit m k = true ↔ m / 2 ^ k % 2 = 1 := by simp [bit]
/-- where a label's part begins, behind the record's own code -/
def fpos (x y : Ty) (k : Nat) : Nat := match k with
  | 0 => 0
  | 1 => (flat x).length
  | _ => (flat x).length + (flat y).length
theorem okl_on {d m k : Nat} {x : Ty} (h : okl d m k x) (hb : m / 2 ^ k % 2 = 1) : ok d x = true := by
  unfold okl at h; rwa [if_pos (bit_iff.mpr hb)] at h
theorem okl_off {d m k : Nat} {x : Ty} (h : okl d m k x) (hb : ¬ m / 2 ^ k % 2 = 1) : flat x = [] := by
  unfold okl at h; rw [if_neg (fun q => hb (bit_iff.mp q))] at h; rw [h]; rfl
set_option maxRecDepth 20000 in
theorem m_field0 {r a : Int} {m D : Nat} {x y z : Ty} (hG : pm_G Rf K L n) (hM : ∀ p i, R32 (M p i)) (r0 : 0 ≤ r) (r1 : r < 1100) (a0 : 0 ≤ a) (a1 : a + (flat (tRec m x y z)).length ≤ 17) (hm : m < 8) (hr : Row M r a (flat (tRec m x y z))) (h0 : okl D m 0 x) (h1 : okl D m 1 y) (h2 : okl D m 2 z) (h : Q (some (.int (zI (a + 1 + fpos x y 0)))) (zM M, Rf, K, L, n, s)) : pm_Wc (d + 3) 159 [.ref 56, .int (zI r), .int (zI a), .int (zI 0)] (zM M, Rf, K, L, n, s) Q := by
  refine wc_in (ls0 := [some (.ref 56), some (.int (zI r)), some (.int (zI a)), some (.int (zI 0)), none, none]) (by decide) (Nat.le_of_ble_eq_true rfl) rfl rfl ?_
  have hr1 := hr
  rw [flat_rec] at hr1 a1
  obtain ⟨hc, hr2⟩ := hr1
  have hx := (Row.app.mp hr2).1
  have hy := (Row.app.mp (Row.app.mp hr2).2).1
  simp only [List.length_cons, List.length_append] at a1
  refine wp_iload_n d159_0 rfl ?_
  refine wz_iconst d159_1 ?_
  refine wz_iadd d159_2 ?_
  refine wp_istore d159_3 (Nat.le_of_ble_eq_true rfl) rfl ?_
  refine wz_iconst d159_5 ?_
  refine wp_istore d159_6 (Nat.le_of_ble_eq_true rfl) rfl ?_
  refine wp_iload d159_8 rfl ?_
  refine wp_iload_n d159_10 rfl ?_
  refine wz_icmp_ge (t := 47) d159_11 (by decide) (⟨by omega, by omega⟩) (⟨by omega, by omega⟩) (fun _ => ?_) (fun hb => absurd (by decide) hb)
  refine wp_iload d159_47 rfl ?_
  have e0 : ¬ m % 2 = 1 → (flat x).length = 0 := fun q => by rw [okl_off h0 (by simpa using q)]; rfl
  have e1 : ¬ m / 2 % 2 = 1 → (flat y).length = 0 := fun q => by rw [okl_off h1 (by simpa using q)]; rfl
  have ef : fpos x y 0 = 0 := rfl
  have e : (a + 1 : Int) = a + 1 + fpos x y 0 := by first | (rw [ef]; omega) | (rw [ef]; done)
  rw [e]
  exact wp_ret d159_49 rfl h
set_option maxRecDepth 20000 in
theorem m_field1 {r a : Int} {m D : Nat} {x y z : Ty} (hG : pm_G Rf K L n) (hM : ∀ p i, R32 (M p i)) (r0 : 0 ≤ r) (r1 : r < 1100) (a0 : 0 ≤ a) (a1 : a + (flat (tRec m x y z)).length ≤ 17) (hm : m < 8) (hr : Row M r a (flat (tRec m x y z))) (h0 : okl D m 0 x) (h1 : okl D m 1 y) (h2 : okl D m 2 z) (h : Q (some (.int (zI (a + 1 + fpos x y 1)))) (zM M, Rf, K, L, n, s)) : pm_Wc (d + 3) 159 [.ref 56, .int (zI r), .int (zI a), .int (zI 1)] (zM M, Rf, K, L, n, s) Q := by
  refine wc_in (ls0 := [some (.ref 56), some (.int (zI r)), some (.int (zI a)), some (.int (zI 1)), none, none]) (by decide) (Nat.le_of_ble_eq_true rfl) rfl rfl ?_
  have hr1 := hr
  rw [flat_rec] at hr1 a1
  obtain ⟨hc, hr2⟩ := hr1
  have hx := (Row.app.mp hr2).1
  have hy := (Row.app.mp (Row.app.mp hr2).2).1
  simp only [List.length_cons, List.length_append] at a1
  refine wp_iload_n d159_0 rfl ?_
  refine wz_iconst d159_1 ?_
  refine wz_iadd d159_2 ?_
  refine wp_istore d159_3 (Nat.le_of_ble_eq_true rfl) rfl ?_
  refine wz_iconst d159_5 ?_
  refine wp_istore d159_6 (Nat.le_of_ble_eq_true rfl) rfl ?_
  refine wp_iload d159_8 rfl ?_
  refine wp_iload_n d159_10 rfl ?_
  refine wz_icmp_ge (t := 47) d159_11 (by decide) (⟨by omega, by omega⟩) (⟨by omega, by omega⟩) (fun hb => absurd hb (by decide)) (fun _ => ?_)
  refine wp_aload_n d159_14 rfl ?_
  refine wp_iload_n d159_15 rfl ?_
  refine wp_iload_n d159_16 rfl ?_
  refine wp_virt (as := [.int (zI (a)), .int (zI (r))]) (rest := []) d159_17 rfl rfl rfl (hG.o (by decide) rfl) rfl rfl (Nat.le_of_ble_eq_true rfl) ?_
  refine m_cell hG (by omega) (by omega) ?_
  rw [hc]
  refine wz_bipush d159_20 (by decide) ?_
  refine wz_isub d159_22 ?_
  refine wp_iload d159_23 rfl ?_
  refine wz_ishrq (q := 1) d159_25 (by omega) (by omega) (by omega) (by omega) (by decide) ?_
  refine wz_iconst d159_26 ?_
  refine wz_and1 d159_27 (by omega) ?_
  refine wz_iconst d159_28 ?_
  refine wz_icmp_ne (t := 41) d159_29 (by decide) (⟨by omega, by omega⟩) (⟨by omega, by omega⟩) (fun hb29 => ?_) (fun hb29 => ?_)
  · skip
    refine wz_iinc d159_41 rfl rfl ?_
    refine wp_goto (t := 8) d159_44 (by decide) ?_
    refine wp_iload d159_8 rfl ?_
    refine wp_iload_n d159_10 rfl ?_
    refine wz_icmp_ge (t := 47) d159_11 (by decide) (⟨by omega, by omega⟩) (⟨by omega, by omega⟩) (fun _ => ?_) (fun hb => absurd (by decide) hb)
    refine wp_iload d159_47 rfl ?_
    have e0 : ¬ m % 2 = 1 → (flat x).length = 0 := fun q => by rw [okl_off h0 (by simpa using q)]; rfl
    have e1 : ¬ m / 2 % 2 = 1 → (flat y).length = 0 := fun q => by rw [okl_off h1 (by simpa using q)]; rfl
    have ef : fpos x y 1 = (flat x).length := rfl
    have e : (a + 1 : Int) = a + 1 + fpos x y 1 := by first | (rw [ef]; omega) | (rw [ef]; done)
    rw [e]
    exact wp_ret d159_49 rfl h
  · skip
    refine wp_aload_n d159_32 rfl ?_
    refine wp_iload_n d159_33 rfl ?_
    refine wp_iload d159_34 rfl ?_
    refine wp_virt (as := [.int (zI (a + 1)), .int (zI (r))]) (rest := []) d159_36 rfl rfl rfl (hG.o (by decide) rfl) rfl rfl (Nat.le_of_ble_eq_true rfl) ?_
    refine m_end (l := flat x) hG hM r0 r1 (by omega) (by omega) hx (ok_pre x D (okl_on h0 (by omega))) ?_
    refine wp_istore d159_39 (Nat.le_of_ble_eq_true rfl) rfl ?_
    refine wz_iinc d159_41 rfl rfl ?_
    refine wp_goto (t := 8) d159_44 (by decide) ?_
    refine wp_iload d159_8 rfl ?_
    refine wp_iload_n d159_10 rfl ?_
    refine wz_icmp_ge (t := 47) d159_11 (by decide) (⟨by omega, by omega⟩) (⟨by omega, by omega⟩) (fun _ => ?_) (fun hb => absurd (by decide) hb)
    refine wp_iload d159_47 rfl ?_
    have e0 : ¬ m % 2 = 1 → (flat x).length = 0 := fun q => by rw [okl_off h0 (by simpa using q)]; rfl
    have e1 : ¬ m / 2 % 2 = 1 → (flat y).length = 0 := fun q => by rw [okl_off h1 (by simpa using q)]; rfl
    have ef : fpos x y 1 = (flat x).length := rfl
    have e : ((a + 1 + (flat x).length) : Int) = a + 1 + fpos x y 1 := by first | (rw [ef]; omega) | (rw [ef]; done)
    rw [e]
    exact wp_ret d159_49 rfl h
set_option maxRecDepth 20000 in
theorem m_field2 {r a : Int} {m D : Nat} {x y z : Ty} (hG : pm_G Rf K L n) (hM : ∀ p i, R32 (M p i)) (r0 : 0 ≤ r) (r1 : r < 1100) (a0 : 0 ≤ a) (a1 : a + (flat (tRec m x y z)).length ≤ 17) (hm : m < 8) (hr : Row M r a (flat (tRec m x y z))) (h0 : okl D m 0 x) (h1 : okl D m 1 y) (h2 : okl D m 2 z) (h : Q (some (.int (zI (a + 1 + fpos x y 2)))) (zM M, Rf, K, L, n, s)) : pm_Wc (d + 3) 159 [.ref 56, .int (zI r), .int (zI a), .int (zI 2)] (zM M, Rf, K, L, n, s) Q := by
  refine wc_in (ls0 := [some (.ref 56), some (.int (zI r)), some (.int (zI a)), some (.int (zI 2)), none, none]) (by decide) (Nat.le_of_ble_eq_true rfl) rfl rfl ?_
  have hr1 := hr
  rw [flat_rec] at hr1 a1
  obtain ⟨hc, hr2⟩ := hr1
  have hx := (Row.app.mp hr2).1
  have hy := (Row.app.mp (Row.app.mp hr2).2).1
  simp only [List.length_cons, List.length_append] at a1
  by_cases hb0 : m / 2 ^ 0 % 2 = 1
  · skip
    refine wp_iload_n d159_0 rfl ?_
    refine wz_iconst d159_1 ?_
    refine wz_iadd d159_2 ?_
    refine wp_istore d159_3 (Nat.le_of_ble_eq_true rfl) rfl ?_
    refine wz_iconst d159_5 ?_
    refine wp_istore d159_6 (Nat.le_of_ble_eq_true rfl) rfl ?_
    refine wp_iload d159_8 rfl ?_
    refine wp_iload_n d159_10 rfl ?_
    refine wz_icmp_ge (t := 47) d159_11 (by decide) (⟨by omega, by omega⟩) (⟨by omega, by omega⟩) (fun hb => absurd hb (by decide)) (fun _ => ?_)
    refine wp_aload_n d159_14 rfl ?_
    refine wp_iload_n d159_15 rfl ?_
    refine wp_iload_n d159_16 rfl ?_
    refine wp_virt (as := [.int (zI (a)), .int (zI (r))]) (rest := []) d159_17 rfl rfl rfl (hG.o (by decide) rfl) rfl rfl (Nat.le_of_ble_eq_true rfl) ?_
    refine m_cell hG (by omega) (by omega) ?_
    rw [hc]
    refine wz_bipush d159_20 (by decide) ?_
    refine wz_isub d159_22 ?_
    refine wp_iload d159_23 rfl ?_
    refine wz_ishrq (q := 1) d159_25 (by omega) (by omega) (by omega) (by omega) (by decide) ?_
    refine wz_iconst d159_26 ?_
    refine wz_and1 d159_27 (by omega) ?_
    refine wz_iconst d159_28 ?_
    refine wz_icmp_ne (t := 41) d159_29 (by decide) (⟨by omega, by omega⟩) (⟨by omega, by omega⟩) (fun hb => absurd (by omega) hb) (fun _ => ?_)
    refine wp_aload_n d159_32 rfl ?_
    refine wp_iload_n d159_33 rfl ?_
    refine wp_iload d159_34 rfl ?_
    refine wp_virt (as := [.int (zI (a + 1)), .int (zI (r))]) (rest := []) d159_36 rfl rfl rfl (hG.o (by decide) rfl) rfl rfl (Nat.le_of_ble_eq_true rfl) ?_
    refine m_end (l := flat x) hG hM r0 r1 (by omega) (by omega) hx (ok_pre x D (okl_on h0 (by omega))) ?_
    refine wp_istore d159_39 (Nat.le_of_ble_eq_true rfl) rfl ?_
    refine wz_iinc d159_41 rfl rfl ?_
    refine wp_goto (t := 8) d159_44 (by decide) ?_
    refine wp_iload d159_8 rfl ?_
    refine wp_iload_n d159_10 rfl ?_
    refine wz_icmp_ge (t := 47) d159_11 (by decide) (⟨by omega, by omega⟩) (⟨by omega, by omega⟩) (fun hb => absurd hb (by decide)) (fun _ => ?_)
    refine wp_aload_n d159_14 rfl ?_
    refine wp_iload_n d159_15 rfl ?_
    refine wp_iload_n d159_16 rfl ?_
    refine wp_virt (as := [.int (zI (a)), .int (zI (r))]) (rest := []) d159_17 rfl rfl rfl (hG.o (by decide) rfl) rfl rfl (Nat.le_of_ble_eq_true rfl) ?_
    refine m_cell hG (by omega) (by omega) ?_
    rw [hc]
    refine wz_bipush d159_20 (by decide) ?_
    refine wz_isub d159_22 ?_
    refine wp_iload d159_23 rfl ?_
    refine wz_ishrq (q := 2) d159_25 (by omega) (by omega) (by omega) (by omega) (by decide) ?_
    refine wz_iconst d159_26 ?_
    refine wz_and1 d159_27 (by omega) ?_
    refine wz_iconst d159_28 ?_
    refine wz_icmp_ne (t := 41) d159_29 (by decide) (⟨by omega, by omega⟩) (⟨by omega, by omega⟩) (fun hb29 => ?_) (fun hb29 => ?_)
    · skip
      refine wz_iinc d159_41 rfl rfl ?_
      refine wp_goto (t := 8) d159_44 (by decide) ?_
      refine wp_iload d159_8 rfl ?_
      refine wp_iload_n d159_10 rfl ?_
      refine wz_icmp_ge (t := 47) d159_11 (by decide) (⟨by omega, by omega⟩) (⟨by omega, by omega⟩) (fun _ => ?_) (fun hb => absurd (by decide) hb)
      refine wp_iload d159_47 rfl ?_
      have e0 : ¬ m % 2 = 1 → (flat x).length = 0 := fun q => by rw [okl_off h0 (by simpa using q)]; rfl
      have e1 : ¬ m / 2 % 2 = 1 → (flat y).length = 0 := fun q => by rw [okl_off h1 (by simpa using q)]; rfl
      have ef : fpos x y 2 = (flat x).length + (flat y).length := rfl
      have e : ((a + 1 + (flat x).length) : Int) = a + 1 + fpos x y 2 := by first | (rw [ef]; omega) | (rw [ef]; done)
      rw [e]
      exact wp_ret d159_49 rfl h
    · skip
      refine wp_aload_n d159_32 rfl ?_
      refine wp_iload_n d159_33 rfl ?_
      refine wp_iload d159_34 rfl ?_
      refine wp_virt (as := [.int (zI ((a + 1 + (flat x).length))), .int (zI (r))]) (rest := []) d159_36 rfl rfl rfl (hG.o (by decide) rfl) rfl rfl (Nat.le_of_ble_eq_true rfl) ?_
      refine m_end (l := flat y) hG hM r0 r1 (by omega) (by omega) hy (ok_pre y D (okl_on h1 (by omega))) ?_
      refine wp_istore d159_39 (Nat.le_of_ble_eq_true rfl) rfl ?_
      refine wz_iinc d159_41 rfl rfl ?_
      refine wp_goto (t := 8) d159_44 (by decide) ?_
      refine wp_iload d159_8 rfl ?_
      refine wp_iload_n d159_10 rfl ?_
      refine wz_icmp_ge (t := 47) d159_11 (by decide) (⟨by omega, by omega⟩) (⟨by omega, by omega⟩) (fun _ => ?_) (fun hb => absurd (by decide) hb)
      refine wp_iload d159_47 rfl ?_
      have e0 : ¬ m % 2 = 1 → (flat x).length = 0 := fun q => by rw [okl_off h0 (by simpa using q)]; rfl
      have e1 : ¬ m / 2 % 2 = 1 → (flat y).length = 0 := fun q => by rw [okl_off h1 (by simpa using q)]; rfl
      have ef : fpos x y 2 = (flat x).length + (flat y).length := rfl
      have e : ((a + 1 + (flat x).length + (flat y).length) : Int) = a + 1 + fpos x y 2 := by first | (rw [ef]; omega) | (rw [ef]; done)
      rw [e]
      exact wp_ret d159_49 rfl h
  · have ex : flat x = [] := okl_off h0 hb0
    rw [ex] at hy
    simp only [List.length_nil, Int.add_zero, Int.natCast_zero] at hy
    refine wp_iload_n d159_0 rfl ?_
    refine wz_iconst d159_1 ?_
    refine wz_iadd d159_2 ?_
    refine wp_istore d159_3 (Nat.le_of_ble_eq_true rfl) rfl ?_
    refine wz_iconst d159_5 ?_
    refine wp_istore d159_6 (Nat.le_of_ble_eq_true rfl) rfl ?_
    refine wp_iload d159_8 rfl ?_
    refine wp_iload_n d159_10 rfl ?_
    refine wz_icmp_ge (t := 47) d159_11 (by decide) (⟨by omega, by omega⟩) (⟨by omega, by omega⟩) (fun hb => absurd hb (by decide)) (fun _ => ?_)
    refine wp_aload_n d159_14 rfl ?_
    refine wp_iload_n d159_15 rfl ?_
    refine wp_iload_n d159_16 rfl ?_
    refine wp_virt (as := [.int (zI (a)), .int (zI (r))]) (rest := []) d159_17 rfl rfl rfl (hG.o (by decide) rfl) rfl rfl (Nat.le_of_ble_eq_true rfl) ?_
    refine m_cell hG (by omega) (by omega) ?_
    rw [hc]
    refine wz_bipush d159_20 (by decide) ?_
    refine wz_isub d159_22 ?_
    refine wp_iload d159_23 rfl ?_
    refine wz_ishrq (q := 1) d159_25 (by omega) (by omega) (by omega) (by omega) (by decide) ?_
    refine wz_iconst d159_26 ?_
    refine wz_and1 d159_27 (by omega) ?_
    refine wz_iconst d159_28 ?_
    refine wz_icmp_ne (t := 41) d159_29 (by decide) (⟨by omega, by omega⟩) (⟨by omega, by omega⟩) (fun _ => ?_) (fun hb => absurd hb (by omega))
    refine wz_iinc d159_41 rfl rfl ?_
    refine wp_goto (t := 8) d159_44 (by decide) ?_
    refine wp_iload d159_8 rfl ?_
    refine wp_iload_n d159_10 rfl ?_
    refine wz_icmp_ge (t := 47) d159_11 (by decide) (⟨by omega, by omega⟩) (⟨by omega, by omega⟩) (fun hb => absurd hb (by decide)) (fun _ => ?_)
    refine wp_aload_n d159_14 rfl ?_
    refine wp_iload_n d159_15 rfl ?_
    refine wp_iload_n d159_16 rfl ?_
    refine wp_virt (as := [.int (zI (a)), .int (zI (r))]) (rest := []) d159_17 rfl rfl rfl (hG.o (by decide) rfl) rfl rfl (Nat.le_of_ble_eq_true rfl) ?_
    refine m_cell hG (by omega) (by omega) ?_
    rw [hc]
    refine wz_bipush d159_20 (by decide) ?_
    refine wz_isub d159_22 ?_
    refine wp_iload d159_23 rfl ?_
    refine wz_ishrq (q := 2) d159_25 (by omega) (by omega) (by omega) (by omega) (by decide) ?_
    refine wz_iconst d159_26 ?_
    refine wz_and1 d159_27 (by omega) ?_
    refine wz_iconst d159_28 ?_
    refine wz_icmp_ne (t := 41) d159_29 (by decide) (⟨by omega, by omega⟩) (⟨by omega, by omega⟩) (fun hb29 => ?_) (fun hb29 => ?_)
    · skip
      refine wz_iinc d159_41 rfl rfl ?_
      refine wp_goto (t := 8) d159_44 (by decide) ?_
      refine wp_iload d159_8 rfl ?_
      refine wp_iload_n d159_10 rfl ?_
      refine wz_icmp_ge (t := 47) d159_11 (by decide) (⟨by omega, by omega⟩) (⟨by omega, by omega⟩) (fun _ => ?_) (fun hb => absurd (by decide) hb)
      refine wp_iload d159_47 rfl ?_
      have e0 : ¬ m % 2 = 1 → (flat x).length = 0 := fun q => by rw [okl_off h0 (by simpa using q)]; rfl
      have e1 : ¬ m / 2 % 2 = 1 → (flat y).length = 0 := fun q => by rw [okl_off h1 (by simpa using q)]; rfl
      have ef : fpos x y 2 = (flat x).length + (flat y).length := rfl
      have e : (a + 1 : Int) = a + 1 + fpos x y 2 := by first | (rw [ef]; omega) | (rw [ef]; done)
      rw [e]
      exact wp_ret d159_49 rfl h
    · skip
      refine wp_aload_n d159_32 rfl ?_
      refine wp_iload_n d159_33 rfl ?_
      refine wp_iload d159_34 rfl ?_
      refine wp_virt (as := [.int (zI (a + 1)), .int (zI (r))]) (rest := []) d159_36 rfl rfl rfl (hG.o (by decide) rfl) rfl rfl (Nat.le_of_ble_eq_true rfl) ?_
      refine m_end (l := flat y) hG hM r0 r1 (by omega) (by omega) (by simpa using hy) (ok_pre y D (okl_on h1 (by omega))) ?_
      refine wp_istore d159_39 (Nat.le_of_ble_eq_true rfl) rfl ?_
      refine wz_iinc d159_41 rfl rfl ?_
      refine wp_goto (t := 8) d159_44 (by decide) ?_
      refine wp_iload d159_8 rfl ?_
      refine wp_iload_n d159_10 rfl ?_
      refine wz_icmp_ge (t := 47) d159_11 (by decide) (⟨by omega, by omega⟩) (⟨by omega, by omega⟩) (fun _ => ?_) (fun hb => absurd (by decide) hb)
      refine wp_iload d159_47 rfl ?_
      have e0 : ¬ m % 2 = 1 → (flat x).length = 0 := fun q => by rw [okl_off h0 (by simpa using q)]; rfl
      have e1 : ¬ m / 2 % 2 = 1 → (flat y).length = 0 := fun q => by rw [okl_off h1 (by simpa using q)]; rfl
      have ef : fpos x y 2 = (flat x).length + (flat y).length := rfl
      have e : ((a + 1 + (flat y).length) : Int) = a + 1 + fpos x y 2 := by first | (rw [ef]; omega) | (rw [ef]; done)
      rw [e]
      exact wp_ret d159_49 rfl h
end PmM5
