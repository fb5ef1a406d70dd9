/-! THE MODEL: types, over the parts of a node. -/
/-- n trees, one behind another: the first, the rest -/
theorem prx_cut : ∀ {l : List Int} {n m : Nat}, prx (n + m) l = true → ∃ l1 l2, l = l1 ++ l2 ∧ prx n l1 = true ∧ prx m l2 = true
  | l, 0, m, h => ⟨[], l, rfl, rfl, by rw [Nat.zero_add] at h; exact h⟩
  | [], n + 1, m, h => by
    rw [show n + 1 + m = (n + m) + 1 by omega] at h
    cases h
  | c :: l, n + 1, m, h => by
    rw [show n + 1 + m = (n + m) + 1 by omega] at h
    have h : prx (n + m + xar c) l = true := h
    rw [show n + m + xar c = (n + xar c) + m by omega] at h
    obtain ⟨l1, l2, e, h1, h2⟩ := prx_cut h
    exact ⟨c :: l1, l2, by rw [e]; rfl, h1, h2⟩
theorem prx_drop : ∀ {j : Nat} {l : List Int} {n : Nat}, prx n l = true → j ≤ l.length → ∃ k, prx k (l.drop j) = true
  | 0, l, n, h, _ => ⟨n, h⟩
  | j + 1, [], n, h, hj => by simp at hj
  | j + 1, c :: l, 0, h, hj => by cases h
  | j + 1, c :: l, n + 1, h, hj => by
    rw [List.length_cons] at hj
    have h : prx (n + xar c) l = true := h
    rw [List.drop_succ_cons]
    exact prx_drop h (by omega)
theorem NXl.cut {lo : Nat} {N : pm_M} {nd sc : Nat} : ∀ {l1 l2 : List Int} {i : Nat}, NXl lo N nd sc i (l1 ++ l2) true → NXl lo N nd sc i l1 true ∧ NXl lo N nd sc (i + l1.length) l2 true
  | [], l2, i, h => ⟨rfl, h⟩
  | c :: l1, l2, i, ⟨b1, b2, t1, t2, t3⟩ => by
    have e : b1 = true ∧ b2 = true := by
      have := t3.symm
      rw [Bool.and_eq_true] at this
      exact this
    obtain ⟨rfl, rfl⟩ := e
    obtain ⟨q1, q2⟩ := NXl.cut t2
    refine ⟨⟨true, true, t1, q1, rfl⟩, ?_⟩
    rw [List.length_cons, show i + (l1.length + 1) = i + 1 + l1.length by omega]
    exact q2
/-- the roots of trees that stand one behind another -/
def KD : Nat → List Int → List Nat → Prop
  | _, l, [] => l = []
  | p, l, k :: ks => k = p ∧ ∃ l1 l2, l = l1 ++ l2 ∧ prx 1 l1 = true ∧ 1 ≤ l1.length ∧ KD (p + l1.length) l2 ks
theorem prx_pos {l : List Int} (h : prx 1 l = true) : 1 ≤ l.length := by
  cases l with
  | nil => cases h
  | cons c l => rw [List.length_cons]; omega
theorem KD.ex : ∀ (n : Nat) (p : Nat) (l : List Int), prx n l = true → ∃ ks, KD p l ks
  | 0, p, l, h => by
    cases l with
    | nil => exact ⟨[], rfl⟩
    | cons c l => cases h
  | n + 1, p, l, h => by
    rw [Nat.add_comm] at h
    obtain ⟨l1, l2, e, h1, h2⟩ := prx_cut h
    obtain ⟨ks, hk⟩ := KD.ex n (p + l1.length) l2 h2
    exact ⟨p :: ks, rfl, l1, l2, e, h1, prx_pos h1, hk⟩
theorem KD.app : ∀ {ks ks' : List Nat} {p : Nat} {l l' : List Int}, KD p l ks → KD (p + l.length) l' ks' → KD p (l ++ l') (ks ++ ks')
  | [], ks', p, l, l', h, h' => by
    have h : l = [] := h
    subst h
    exact h'
  | k :: ks, ks', p, l, l', ⟨h0, l1, l2, e, h1, h2, h3⟩, h' => by
    subst e
    rw [List.length_append] at h'
    exact ⟨h0, l1, l2 ++ l', by rw [List.append_assoc], h1, h2, KD.app h3 (by rw [Nat.add_assoc]; exact h')⟩
theorem KD.one {p : Nat} {l : List Int} (h : prx 1 l = true) : KD p l [p] := ⟨rfl, l, [], (List.append_nil l).symm, h, prx_pos h, rfl⟩
/-- is a part in order: a type, or a term with a type -/
def okp (N : pm_M) (k : Nat) : Bool := decide (N 59 (k : Int) < 5) || decide (N 78 (k : Int) = 1)
section PmF13
variable {d : Nat} {Q : Option Value → pm_S → Prop} {N : pm_M} {Rf : Nat → Nat → Nat} {K L : Nat → Nat} {n s0 : Nat} {a b : Nat}
theorem types_in {o1 o2 o3 : Option Value} {i e : Nat} (hG : pm_G Rf K L n) (hM : ∀ p i, R32 (N p i)) (a60 : a ≤ 60) (b60 : b ≤ 60) (ia : i < a) (ea : e ≤ a) (t01 : ∀ k : Nat, i < k → k < a → N 78 (k : Int) = 0 ∨ N 78 (k : Int) = 1) : ∀ (ks : List Nat) (p : Nat) (l : List Int) (v : Bool), i < p → KD p l ks → NXl 0 N a b p l true → p + l.length = e → (pm_Wp none (d + 2) 195 112 [some (.ref 56), o1, o2, o3, some (.int (zI (i : Int))), some (.int (zI (if (v && ks.all (okp N)) = true then 1 else 0))), some (.int (zI (e : Int))), some (.int (zI (e : Int)))] [] (zM N, Rf, K, L, n, s0) Q) → pm_Wp none (d + 2) 195 61 [some (.ref 56), o1, o2, o3, some (.int (zI (i : Int))), some (.int (zI (if v = true then 1 else 0))), some (.int (zI (e : Int))), some (.int (zI (p : Int)))] [] (zM N, Rf, K, L, n, s0) Q := by
  intro ks
  induction ks with
  | nil =>
    intro p l v ip hk hx hp h
    have hk : l = [] := hk
    subst hk
    have ep : p = e := hp
    subst ep
    rw [List.all_nil, Bool.and_true] at h
    refine wp_iload d195_61 rfl ?_
    refine wp_iload d195_63 rfl ?_
    refine wz_icmp_ge (t := 112) d195_65 (by decide) ⟨by omega, by omega⟩ ⟨by omega, by omega⟩ (fun _ => ?_) (fun hb => absurd (by omega) hb)
    exact h
  | cons k ks ih =>
    intro p l v ip hk hx hp h
    obtain ⟨rfl, l1, l2, rfl, h1, h2, h3⟩ := hk
    obtain ⟨x1, x2⟩ := hx.cut
    rw [List.length_append] at hp
    have nxt : ∀ v' : Bool, v' = (v && okp N k) → pm_Wp none (d + 2) 195 99 [some (.ref 56), o1, o2, o3, some (.int (zI (i : Int))), some (.int (zI (if v = true then 1 else 0))), some (.int (zI (e : Int))), some (.int (zI (k : Int)))] [.int (zI (if v' = true then 1 else 0))] (zM N, Rf, K, L, n, s0) Q := by
      intro v' hq
      refine wp_istore d195_99 (Nat.le_of_ble_eq_true rfl) rfl ?_
      refine wp_aload_n d195_101 rfl ?_
      refine wp_iload d195_102 rfl ?_
      refine wp_virt (as := [.int (zI (k : Int))]) (rest := []) d195_104 rfl rfl rfl (hG.o (by decide) rfl) rfl rfl (Nat.le_of_ble_eq_true rfl) ?_
      refine m_behind (lo := 0) (nd := a) (sc := b) hG (by omega) x1 h1 ?_
      refine wp_istore d195_107 (Nat.le_of_ble_eq_true rfl) rfl ?_
      refine wp_goto (t := 61) d195_109 (by decide) ?_
      refine ih (k + l1.length) l2 v' (by omega) h3 x2 (by omega) ?_
      rw [hq, Bool.and_assoc, ← List.all_cons]
      exact h
    have r59 := hM 59 (k : Int)
    have tk := t01 k ip (by omega)
    cases v with
    | false =>
      refine wp_iload d195_61 rfl ?_
      refine wp_iload d195_63 rfl ?_
      refine wz_icmp_ge (t := 112) d195_65 (by decide) ⟨by omega, by omega⟩ ⟨by omega, by omega⟩ (fun hb => absurd hb (by omega)) (fun _ => ?_)
      refine wp_iload d195_68 rfl ?_
      refine wz_if_eq (t := 98) d195_70 (by decide) ⟨by omega, by omega⟩ (fun _ => ?_) (fun hb => absurd (by decide) hb)
      refine wz_iconst d195_98 ?_
      exact nxt false rfl
    | true =>
      refine wp_iload d195_61 rfl ?_
      refine wp_iload d195_63 rfl ?_
      refine wz_icmp_ge (t := 112) d195_65 (by decide) ⟨by omega, by omega⟩ ⟨by omega, by omega⟩ (fun hb => absurd hb (by omega)) (fun _ => ?_)
      refine wp_iload d195_68 rfl ?_
      refine wz_if_eq (t := 98) d195_70 (by decide) ⟨by omega, by omega⟩ (fun hb => absurd hb (by decide)) (fun _ => ?_)
      refine wp_aload_n d195_73 rfl ?_
      refine wp_getR (q := 59) d195_74 rfl (hG.o (by decide) rfl) (by decide) (hG.r (by decide +kernel)) (by decide) ?_
      refine wp_iload d195_77 rfl ?_
      refine wz_iald (z := 128) (v := N 59 (k : Int)) d195_79 (hG.a (by decide) rfl rfl) (by omega) (by omega) (by decide) (rfl) ?_
      refine wz_iconst d195_80 ?_
      refine wz_icmp_lt (t := 94) d195_81 (by decide) r59 ⟨by omega, by omega⟩ (fun hb => ?_) (fun hb => ?_)
      · skip
        refine wz_iconst d195_94 ?_
        refine wp_goto (t := 99) d195_95 (by decide) ?_
        refine nxt true ?_
        unfold okp
        rw [decide_eq_true hb]; rfl
      · skip
        rcases tk with tk | tk
        · skip
          refine wp_aload_n d195_84 rfl ?_
          refine wp_getR (q := 78) d195_85 rfl (hG.o (by decide) rfl) (by decide) (hG.r (by decide +kernel)) (by decide) ?_
          refine wp_iload d195_88 rfl ?_
          refine wz_zald (z := 64) (v := 0) d195_90 (hG.a (by decide) rfl rfl) (by omega) (by omega) (by decide) (tk) ?_
          refine wz_if_eq (t := 98) d195_91 (by decide) ⟨by omega, by omega⟩ (fun _ => ?_) (fun hb => absurd (by decide) hb)
          refine wz_iconst d195_98 ?_
          refine nxt false ?_
          unfold okp
          rw [decide_eq_false hb, decide_eq_false (by omega)]; rfl
        · skip
          refine wp_aload_n d195_84 rfl ?_
          refine wp_getR (q := 78) d195_85 rfl (hG.o (by decide) rfl) (by decide) (hG.r (by decide +kernel)) (by decide) ?_
          refine wp_iload d195_88 rfl ?_
          refine wz_zald (z := 64) (v := 1) d195_90 (hG.a (by decide) rfl rfl) (by omega) (by omega) (by decide) (tk) ?_
          refine wz_if_eq (t := 98) d195_91 (by decide) ⟨by omega, by omega⟩ (fun hb => absurd hb (by decide)) (fun _ => ?_)
          refine wz_iconst d195_94 ?_
          refine wp_goto (t := 99) d195_95 (by decide) ?_
          refine nxt true ?_
          unfold okp
          rw [decide_eq_true tk, Bool.or_true]; rfl
end PmF13
