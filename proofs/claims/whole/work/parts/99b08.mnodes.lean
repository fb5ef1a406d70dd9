/-! THE MODEL: nodes and scopes. -/
variable {lo : Nat}
/-- how many parts a node has: types' codes, and below zero terms' kinds -/
def xar (c : Int) : Nat := if 0 ≤ c then ar c else if c = -5 then 0 else if c = -11 then 1 else if c ≤ -100 then lab (-100 - c) else 2
def prx : Nat → List Int → Bool
  | 0, [] => true
  | 0, _ :: _ => false
  | _ + 1, [] => false
  | n + 1, c :: l => prx (n + xar c) l
theorem prx_app : ∀ {a : List Int} {n m : Nat} {b : List Int}, prx n a = true → prx m b = true → prx (n + m) (a ++ b) = true
  | [], 0, m, b, _, hb => by rw [Nat.zero_add]; exact hb
  | [], n + 1, _, _, ha, _ => by cases ha
  | c :: a, 0, _, _, ha, _ => by cases ha
  | c :: a, n + 1, m, b, ha, hb => by
    have h := prx_app (a := a) (n := n + xar c) (m := m) (b := b) ha hb
    show prx (n + 1 + m) (c :: (a ++ b)) = true
    rw [show n + 1 + m = (n + m) + 1 by omega]
    show prx (n + m + xar c) (a ++ b) = true
    rw [show n + m + xar c = n + xar c + m by omega]
    exact h
theorem prx_pre : ∀ {l : List Int} {k : Nat}, (∀ c ∈ l, 0 ≤ c) → pre k l = true → prx k l = true
  | [], 0, _, _ => rfl
  | [], k + 1, _, h => by cases h
  | c :: l, 0, _, h => by cases h
  | c :: l, k + 1, hc, h => by
    show prx (k + xar c) l = true
    have e : xar c = ar c := if_pos (hc c List.mem_cons_self)
    rw [e]
    exact prx_pre (fun b hb => hc b (List.mem_cons_of_mem _ hb)) h
/-- node j has that code; b: its name is open -/
def NX (lo : Nat) (N : pm_M) (nd sc : Nat) (j : Int) (c : Int) (b : Bool) : Prop := (0 ≤ c ∧ NT lo N nd sc j c b) ∨ (c = -5 ∧ N 59 j = 5 ∧ (0 ≤ N 60 j ∧ N 60 j ≤ 3) ∧ ∃ ch, SCh lo N nd sc (N 62 j) ch ∧ b = (bnr ch (97 + N 60 j)).isSome) ∨ (b = true ∧ N 59 j = -c ∧ (c = -6 ∨ c = -7 ∨ c = -8 ∨ c = -9 ∨ c = -11 ∨ c = -12)) ∨ (b = true ∧ N 59 j = 10 ∧ N 60 j = -100 - c ∧ c ≤ -100 ∧ -108 < c)
def NXl (lo : Nat) (N : pm_M) (nd sc : Nat) : Nat → List Int → Bool → Prop
  | _, [], b => b = true
  | i, c :: l, b => ∃ b1 b2, NX lo N nd sc (i : Int) c b1 ∧ NXl lo N nd sc (i + 1) l b2 ∧ b = (b1 && b2)
theorem NT.pos {N : pm_M} {nd sc : Nat} {j c : Int} {b : Bool} (h : NT lo N nd sc j c b) : 0 ≤ c := by
  rcases h with h | h | ⟨-, -, ch, -, -, h⟩ <;> omega
theorem NTl.nx {N : pm_M} {nd sc : Nat} : ∀ {l : List Int} {i : Nat} {b : Bool}, NTl lo N nd sc i l b → NXl lo N nd sc i l b
  | [], _, _, h => h
  | c :: l, i, b, ⟨b1, b2, t1, t2, t3⟩ => ⟨b1, b2, Or.inl ⟨t1.pos, t1⟩, t2.nx, t3⟩
theorem NTl.pos {N : pm_M} {nd sc : Nat} : ∀ {l : List Int} {i : Nat} {b : Bool}, NTl lo N nd sc i l b → ∀ c ∈ l, 0 ≤ c
  | [], _, _, _, c, hc => by cases hc
  | a :: l, i, b, ⟨b1, b2, t1, t2, t3⟩, c, hc => by
    rcases List.mem_cons.mp hc with e | e
    · rw [e]; exact t1.pos
    · exact t2.pos c e
theorem NXl.app {N : pm_M} {nd sc : Nat} : ∀ {l1 l2 : List Int} {i : Nat} {b1 b2 : Bool}, NXl lo N nd sc i l1 b1 → NXl lo N nd sc (i + l1.length) l2 b2 → NXl lo N nd sc i (l1 ++ l2) (b1 && b2)
  | [], l2, i, b1, b2, h1, h2 => by
    have h1 : b1 = true := h1
    subst h1
    exact h2
  | c :: l1, l2, i, b1, b2, ⟨c1, c2, t1, t2, t3⟩, h2 => by
    subst t3
    refine ⟨c1, c2 && b2, t1, NXl.app t2 ?_, Bool.and_assoc _ _ _⟩
    rw [List.length_cons, show i + (l1.length + 1) = i + 1 + l1.length by omega] at h2
    exact h2
theorem NXl.split {N : pm_M} {nd sc : Nat} : ∀ {l1 l2 : List Int} {i : Nat} {b : Bool}, NXl lo N nd sc i (l1 ++ l2) b → ∃ b1 b2, NXl lo N nd sc i l1 b1 ∧ NXl lo N nd sc (i + l1.length) l2 b2 ∧ b = (b1 && b2)
  | [], l2, i, b, h => ⟨true, b, rfl, h, rfl⟩
  | c :: l1, l2, i, b, ⟨c1, c2, t1, t2, t3⟩ => by
    obtain ⟨d1, d2, h1, h2, h3⟩ := NXl.split t2
    refine ⟨c1 && d1, d2, ⟨c1, d1, t1, h1, rfl⟩, ?_, by rw [t3, h3, Bool.and_assoc]⟩
    rw [List.length_cons, show i + (l1.length + 1) = i + 1 + l1.length by omega]
    exact h2
theorem NTl.split {N : pm_M} {nd sc : Nat} : ∀ {l1 l2 : List Int} {i : Nat} {b : Bool}, NTl lo N nd sc i (l1 ++ l2) b → ∃ b1 b2, NTl lo N nd sc i l1 b1 ∧ NTl lo N nd sc (i + l1.length) l2 b2 ∧ b = (b1 && b2)
  | [], l2, i, b, h => ⟨true, b, rfl, h, rfl⟩
  | c :: l1, l2, i, b, ⟨c1, c2, t1, t2, t3⟩ => by
    obtain ⟨d1, d2, h1, h2, h3⟩ := NTl.split t2
    refine ⟨c1 && d1, d2, ⟨c1, d1, t1, h1, rfl⟩, ?_, by rw [t3, h3, Bool.and_assoc]⟩
    rw [List.length_cons, show i + (l1.length + 1) = i + 1 + l1.length by omega]
    exact h2
/-- the binders from the one that binds a name on -/
def fnd (k : Nat) (c : Int) : List (Nat × Int × Nat) → Option (List (Nat × Int × Nat))
  | [] => none
  | a :: r => if a.1 = k ∧ a.2.1 = c then some (a :: r) else fnd k c r
theorem fnd_lvl (c : Int) : ∀ ch : List (Nat × Int × Nat), (fnd 0 c ch = none ∧ lvl (tnm ch) c = none) ∨ ∃ a r, fnd 0 c ch = some (a :: r) ∧ lvl (tnm ch) c = some (tnm r).length
  | [] => Or.inl ⟨rfl, rfl⟩
  | a :: r => by
    have ef : fnd 0 c (a :: r) = if a.1 = 0 ∧ a.2.1 = c then some (a :: r) else fnd 0 c r := rfl
    have et : tnm (a :: r) = if a.1 = 0 then a.2.1 :: tnm r else tnm r := rfl
    rw [ef, et]
    by_cases h : a.1 = 0
    · rw [if_pos h]
      have el : lvl (a.2.1 :: tnm r) c = if a.2.1 = c then some (tnm r).length else lvl (tnm r) c := rfl
      rw [el]
      by_cases h2 : a.2.1 = c
      · rw [if_pos ⟨h, h2⟩, if_pos h2]
        exact Or.inr ⟨a, r, rfl, rfl⟩
      · rw [if_neg (fun x => h2 x.2), if_neg h2]
        exact fnd_lvl c r
    · rw [if_neg h, if_neg (fun x => h x.1)]
      exact fnd_lvl c r
theorem fnd_bnr (c : Int) : ∀ ch : List (Nat × Int × Nat), (fnd 1 c ch = none ∧ bnr ch c = none) ∨ ∃ a r, fnd 1 c ch = some (a :: r) ∧ bnr ch c = some a.2.2
  | [] => Or.inl ⟨rfl, rfl⟩
  | a :: r => by
    have ef : fnd 1 c (a :: r) = if a.1 = 1 ∧ a.2.1 = c then some (a :: r) else fnd 1 c r := rfl
    have eb : bnr (a :: r) c = if a.1 = 1 ∧ a.2.1 = c then some a.2.2 else bnr r c := rfl
    rw [ef, eb]
    by_cases h : a.1 = 1 ∧ a.2.1 = c
    · rw [if_pos h, if_pos h]
      exact Or.inr ⟨a, r, rfl, rfl⟩
    · rw [if_neg h, if_neg h]
      exact fnd_bnr c r
section PmM35
variable {d : Nat} {Q : Option Value → pm_S → Prop} {N : pm_M} {Rf : Nat → Nat → Nat} {K L : Nat → Nat} {n s0 : Nat} {nd sc : Nat}
theorem m_binder {k : Nat} {a : Int} {ch : List (Nat × Int × Nat)} {s : Int} (hG : pm_G Rf K L n) (hM : ∀ p i, R32 (N p i)) (hS : SCh lo N nd sc s ch) (hsc : sc ≤ 128) (hk : k ≤ 1) (ra : 0 ≤ a ∧ a ≤ 3) (h1 : ∀ ch' b, fnd k (a + lowc k) ch = some ch' → SCh lo N nd sc b ch' → Q (some (.int (zI b))) (zM N, Rf, K, L, n, s0)) (h0 : fnd k (a + lowc k) ch = none → Q (some (.int (zI (-1)))) (zM N, Rf, K, L, n, s0)) : pm_Wc (d + 1) 146 [.ref 56, .int (zI s), .int (zI (k : Int)), .int (zI a)] (zM N, Rf, K, L, n, s0) Q := by
  have loop : ∀ (ch' : List (Nat × Int × Nat)) (t : Int), SCh lo N nd sc t ch' → fnd k (a + lowc k) ch = fnd k (a + lowc k) ch' → pm_Wp none d 146 3 [some (.ref 56), some (.int (zI s)), some (.int (zI (k : Int))), some (.int (zI a)), some (.int (zI t))] [] (zM N, Rf, K, L, n, s0) Q := by
    intro ch'
    induction ch' with
    | nil =>
      intro t ht he
      have ht : t = -1 := ht
      subst ht
      refine wp_iload d146_3 rfl ?_
      refine wz_if_lt (t := 42) d146_5 (by decide) ⟨by omega, by omega⟩ (fun _ => ?_) (fun hb => absurd (by decide) hb)
      refine wp_iload d146_42 rfl ?_
      exact wp_ret d146_44 rfl (h0 he)
    | cons x r ih =>
      intro t ht he
      have ht0 := ht
      obtain ⟨g1, g2, g3, g4, g5, g6, g7, g8⟩ := ht
      have ef : fnd k (a + lowc k) (x :: r) = if x.1 = k ∧ x.2.1 = a + lowc k then some (x :: r) else fnd k (a + lowc k) r := rfl
      rw [ef] at he
      have rn := hM 66 t
      refine wp_iload d146_3 rfl ?_
      refine wz_if_lt (t := 42) d146_5 (by decide) ⟨by omega, by omega⟩ (fun hb => absurd hb (by omega)) (fun _ => ?_)
      refine wp_aload_n d146_8 rfl ?_
      refine wp_getR (q := 65) d146_9 rfl (hG.o (by decide) rfl) (by decide) (hG.r (by decide +kernel)) (by decide) ?_
      refine wp_iload d146_12 rfl ?_
      refine wz_iald (z := 128) (v := (x.1 : Int)) d146_14 (hG.a (by decide) rfl rfl) (by omega) (by omega) (by decide) (g2) ?_
      refine wp_iload_n d146_15 rfl ?_
      refine wz_icmp_ne (t := 30) d146_16 (by decide) ⟨by omega, by omega⟩ ⟨by omega, by omega⟩ (fun hk1 => ?_) (fun hk1 => ?_)
      · skip
        rw [if_neg (fun e => hk1 (by rw [e.1]))] at he
        refine wp_aload_n d146_30 rfl ?_
        refine wp_getR (q := 64) d146_31 rfl (hG.o (by decide) rfl) (by decide) (hG.r (by decide +kernel)) (by decide) ?_
        refine wp_iload d146_34 rfl ?_
        refine wz_iald (z := 128) (v := N 64 t) d146_36 (hG.a (by decide) rfl rfl) (by omega) (by omega) (by decide) (rfl) ?_
        refine wp_istore d146_37 (Nat.le_of_ble_eq_true rfl) rfl ?_
        refine wp_goto (t := 3) d146_39 (by decide) ?_
        exact ih _ g8 he
      have ek : x.1 = k := by omega
      refine wp_aload_n d146_19 rfl ?_
      refine wp_getR (q := 66) d146_20 rfl (hG.o (by decide) rfl) (by decide) (hG.r (by decide +kernel)) (by decide) ?_
      refine wp_iload d146_23 rfl ?_
      refine wz_iald (z := 128) (v := N 66 t) d146_25 (hG.a (by decide) rfl rfl) (by omega) (by omega) (by decide) (rfl) ?_
      refine wp_iload_n d146_26 rfl ?_
      refine wz_icmp_eq (t := 42) d146_27 (by decide) rn ⟨by omega, by omega⟩ (fun hn => ?_) (fun hn => ?_)
      · skip
        rw [if_pos ⟨ek, by rw [← ek]; omega⟩] at he
        refine wp_iload d146_42 rfl ?_
        exact wp_ret d146_44 rfl (h1 _ _ he ht0)
      · skip
        rw [if_neg (fun e => hn (by have := e.2; rw [← ek] at this; omega))] at he
        refine wp_aload_n d146_30 rfl ?_
        refine wp_getR (q := 64) d146_31 rfl (hG.o (by decide) rfl) (by decide) (hG.r (by decide +kernel)) (by decide) ?_
        refine wp_iload d146_34 rfl ?_
        refine wz_iald (z := 128) (v := N 64 t) d146_36 (hG.a (by decide) rfl rfl) (by omega) (by omega) (by decide) (rfl) ?_
        refine wp_istore d146_37 (Nat.le_of_ble_eq_true rfl) rfl ?_
        refine wp_goto (t := 3) d146_39 (by decide) ?_
        exact ih _ g8 he
  refine wc_in (ls0 := [some (.ref 56), some (.int (zI s)), some (.int (zI (k : Int))), some (.int (zI a)), none]) (by decide) (Nat.le_of_ble_eq_true rfl) rfl rfl ?_
  refine wp_iload_n d146_0 rfl ?_
  refine wp_istore d146_1 (Nat.le_of_ble_eq_true rfl) rfl ?_
  exact loop ch s hS rfl
theorem m_depthOf {ch : List (Nat × Int × Nat)} {s : Int} (hG : pm_G Rf K L n) (hS : SCh lo N nd sc s ch) (hsc : sc ≤ 128) (hl : ch.length ≤ 1000) (h : Q (some (.int (zI ((tnm ch).length : Int)))) (zM N, Rf, K, L, n, s0)) : pm_Wc (d + 1) 147 [.ref 56, .int (zI s)] (zM N, Rf, K, L, n, s0) Q := by
  have loop : ∀ (ch' : List (Nat × Int × Nat)) (t : Int) (c : Nat), SCh lo N nd sc t ch' → c + ch'.length ≤ 1000 → c + (tnm ch').length = (tnm ch).length → pm_Wp none d 147 4 [some (.ref 56), some (.int (zI s)), some (.int (zI (c : Int))), some (.int (zI t))] [] (zM N, Rf, K, L, n, s0) Q := by
    intro ch'
    induction ch' with
    | nil =>
      intro t c ht hc he
      have ht : t = -1 := ht
      subst ht
      have he : c + 0 = _ := he
      rw [Nat.add_zero] at he
      refine wp_iload_n d147_4 rfl ?_
      refine wz_if_lt (t := 35) d147_5 (by decide) ⟨by omega, by omega⟩ (fun _ => ?_) (fun hb => absurd (by decide) hb)
      refine wp_iload_n d147_35 rfl ?_
      rw [he]
      exact wp_ret d147_36 rfl (h)
    | cons x r ih =>
      intro t c ht hc he
      obtain ⟨g1, g2, g3, g4, g5, g6, g7, g8⟩ := ht
      rw [List.length_cons] at hc
      have et : tnm (x :: r) = if x.1 = 0 then x.2.1 :: tnm r else tnm r := rfl
      rw [et] at he
      refine wp_iload_n d147_4 rfl ?_
      refine wz_if_lt (t := 35) d147_5 (by decide) ⟨by omega, by omega⟩ (fun hb => absurd hb (by omega)) (fun _ => ?_)
      refine wp_aload_n d147_8 rfl ?_
      refine wp_getR (q := 65) d147_9 rfl (hG.o (by decide) rfl) (by decide) (hG.r (by decide +kernel)) (by decide) ?_
      refine wp_iload_n d147_12 rfl ?_
      refine wz_iald (z := 128) (v := (x.1 : Int)) d147_13 (hG.a (by decide) rfl rfl) (by omega) (by omega) (by decide) (g2) ?_
      refine wz_if_ne (t := 23) d147_14 (by decide) ⟨by omega, by omega⟩ (fun hk1 => ?_) (fun hk1 => ?_)
      · skip
        rw [if_neg (show ¬ x.1 = 0 by omega)] at he
        refine wp_iload_n d147_23 rfl ?_
        refine wp_istore_n d147_24 (Nat.le_of_ble_eq_true rfl) rfl ?_
        refine wp_aload_n d147_25 rfl ?_
        refine wp_getR (q := 64) d147_26 rfl (hG.o (by decide) rfl) (by decide) (hG.r (by decide +kernel)) (by decide) ?_
        refine wp_iload_n d147_29 rfl ?_
        refine wz_iald (z := 128) (v := N 64 t) d147_30 (hG.a (by decide) rfl rfl) (by omega) (by omega) (by decide) (rfl) ?_
        refine wp_istore_n d147_31 (Nat.le_of_ble_eq_true rfl) rfl ?_
        refine wp_goto (t := 4) d147_32 (by decide) ?_
        exact ih _ c g8 (by omega) he
      · skip
        rw [if_pos (show x.1 = 0 by omega), List.length_cons] at he
        refine wp_iload_n d147_17 rfl ?_
        refine wz_iconst d147_18 ?_
        refine wz_iadd d147_19 ?_
        refine wp_goto (t := 24) d147_20 (by decide) ?_
        refine wp_istore_n d147_24 (Nat.le_of_ble_eq_true rfl) rfl ?_
        refine wp_aload_n d147_25 rfl ?_
        refine wp_getR (q := 64) d147_26 rfl (hG.o (by decide) rfl) (by decide) (hG.r (by decide +kernel)) (by decide) ?_
        refine wp_iload_n d147_29 rfl ?_
        refine wz_iald (z := 128) (v := N 64 t) d147_30 (hG.a (by decide) rfl rfl) (by omega) (by omega) (by decide) (rfl) ?_
        refine wp_istore_n d147_31 (Nat.le_of_ble_eq_true rfl) rfl ?_
        refine wp_goto (t := 4) d147_32 (by decide) ?_
        rw [show (c : Int) + 1 = ((c + 1 : Nat) : Int) by omega]
        exact ih _ (c + 1) g8 (by omega) (by omega)
  refine wc_in (ls0 := [some (.ref 56), some (.int (zI s)), none, none]) (by decide) (Nat.le_of_ble_eq_true rfl) rfl rfl ?_
  refine wz_iconst d147_0 ?_
  refine wp_istore_n d147_1 (Nat.le_of_ble_eq_true rfl) rfl ?_
  refine wp_iload_n d147_2 rfl ?_
  refine wp_istore_n d147_3 (Nat.le_of_ble_eq_true rfl) rfl ?_
  exact loop ch s 0 hS (by omega) (by omega)
theorem m_partsOf {j : Nat} {c : Int} {b : Bool} (hG : pm_G Rf K L n) (hj : j < 128) (hx : NX lo N nd sc (j : Int) c b) (h : Q (some (.int (zI (xar c : Int)))) (zM N, Rf, K, L, n, s0)) : pm_Wc (d + 1) 144 [.ref 56, .int (zI (j : Int))] (zM N, Rf, K, L, n, s0) Q := by
  have key : ∃ o a : Int, N 59 (j : Int) = o ∧ N 60 (j : Int) = a ∧ ((o = 4 ∨ o = 10) ∧ 0 ≤ a ∧ a < 8 ∧ xar c = lab a ∨ (o = 0 ∨ o = 3 ∨ o = 5) ∧ xar c = 0 ∨ o = 11 ∧ xar c = 1 ∨ (o = 1 ∨ o = 2 ∨ o = 6 ∨ o = 7 ∨ o = 8 ∨ o = 9 ∨ o = 12) ∧ xar c = 2) := by
    refine ⟨_, _, rfl, rfl, ?_⟩
    unfold xar
    rcases hx with ⟨h0, ⟨-, e1, e2, e3⟩ | ⟨-, e1, e2, e3, e4⟩ | ⟨e1, e2, ch, -, -, e3⟩⟩ | ⟨e1, e2, e3⟩ | ⟨-, e1, e2⟩ | ⟨-, e1, e2, e3, e4⟩
    · rw [if_pos h0]
      rcases (show c = 0 ∨ c = 1 ∨ c = 2 by omega) with rfl | rfl | rfl
      · exact Or.inr (Or.inl ⟨Or.inl e1, rfl⟩)
      · exact Or.inr (Or.inr (Or.inr ⟨Or.inl e1, rfl⟩))
      · exact Or.inr (Or.inr (Or.inr ⟨Or.inr (Or.inl e1), rfl⟩))
    · rw [if_pos h0, ar_rec e3 e4]
      exact Or.inl ⟨Or.inl e1, by omega, by omega, by rw [e2]⟩
    · rw [if_pos h0, ar_none (by omega) (by omega) (by omega)]
      exact Or.inr (Or.inl ⟨Or.inr (Or.inl e1), rfl⟩)
    · subst e1
      exact Or.inr (Or.inl ⟨Or.inr (Or.inr e2), rfl⟩)
    · rcases e2 with rfl | rfl | rfl | rfl | rfl | rfl
      · exact Or.inr (Or.inr (Or.inr ⟨by omega, rfl⟩))
      · exact Or.inr (Or.inr (Or.inr ⟨by omega, rfl⟩))
      · exact Or.inr (Or.inr (Or.inr ⟨by omega, rfl⟩))
      · exact Or.inr (Or.inr (Or.inr ⟨by omega, rfl⟩))
      · exact Or.inr (Or.inr (Or.inl ⟨by omega, rfl⟩))
      · exact Or.inr (Or.inr (Or.inr ⟨by omega, rfl⟩))
    · rw [if_neg (by omega), if_neg (by omega), if_neg (by omega), if_pos (by omega)]
      exact Or.inl ⟨Or.inr e1, by omega, by omega, by rw [e2]⟩
  obtain ⟨o, a, eo, ea, hc⟩ := key
  refine wc_in (ls0 := [some (.ref 56), some (.int (zI (j : Int))), none]) (by decide) (Nat.le_of_ble_eq_true rfl) rfl rfl ?_
  refine wp_aload_n d144_0 rfl ?_
  refine wp_getR (q := 59) d144_1 rfl (hG.o (by decide) rfl) (by decide) (hG.r (by decide +kernel)) (by decide) ?_
  refine wp_iload_n d144_4 rfl ?_
  refine wz_iald (z := 128) (v := o) d144_5 (hG.a (by decide) rfl rfl) (by omega) (by omega) (by decide) (eo) ?_
  refine wp_istore_n d144_6 (Nat.le_of_ble_eq_true rfl) rfl ?_
  refine wp_iload_n d144_7 rfl ?_
  refine wz_iconst d144_8 ?_
  refine wz_icmp_eq (t := 18) d144_9 (by decide) ⟨by omega, by omega⟩ ⟨by omega, by omega⟩ (fun h4 => ?_) (fun h4 => ?_)
  · skip
    have ha : 0 ≤ a ∧ a < 8 := by omega
    refine wp_aload_n d144_18 rfl ?_
    refine wp_getR (q := 60) d144_19 rfl (hG.o (by decide) rfl) (by decide) (hG.r (by decide +kernel)) (by decide) ?_
    refine wp_iload_n d144_22 rfl ?_
    refine wz_iald (z := 128) (v := a) d144_23 (hG.a (by decide) rfl rfl) (by omega) (by omega) (by decide) (ea) ?_
    refine wz_iconst d144_24 ?_
    refine wz_and1 d144_25 (by first | omega | exact Int.natCast_nonneg _) ?_
    refine wp_aload_n d144_26 rfl ?_
    refine wp_getR (q := 60) d144_27 rfl (hG.o (by decide) rfl) (by decide) (hG.r (by decide +kernel)) (by decide) ?_
    refine wp_iload_n d144_30 rfl ?_
    refine wz_iald (z := 128) (v := a) d144_31 (hG.a (by decide) rfl rfl) (by omega) (by omega) (by decide) (ea) ?_
    refine wz_iconst d144_32 ?_
    refine wz_ishrq (q := 2) d144_33 (by omega) (by omega) (by omega) (by omega) (by decide) ?_
    refine wz_iconst d144_34 ?_
    refine wz_and1 d144_35 (by first | omega | exact Int.natCast_nonneg _) ?_
    refine wz_iadd d144_36 ?_
    refine wp_aload_n d144_37 rfl ?_
    refine wp_getR (q := 60) d144_38 rfl (hG.o (by decide) rfl) (by decide) (hG.r (by decide +kernel)) (by decide) ?_
    refine wp_iload_n d144_41 rfl ?_
    refine wz_iald (z := 128) (v := a) d144_42 (hG.a (by decide) rfl rfl) (by omega) (by omega) (by decide) (ea) ?_
    refine wz_iconst d144_43 ?_
    refine wz_ishrq (q := 4) d144_44 (by omega) (by omega) (by omega) (by omega) (by decide) ?_
    refine wz_iconst d144_45 ?_
    refine wz_and1 d144_46 (by first | omega | exact Int.natCast_nonneg _) ?_
    refine wz_iadd d144_47 ?_
    rw [show (xar c : Int) = ((a % 2) + ((a / 2) % 2)) + ((a / 4) % 2) by rw [show xar c = lab a by omega]; unfold lab; omega] at h
    exact wp_ret d144_48 rfl (h)
  refine wp_iload_n d144_12 rfl ?_
  refine wz_bipush d144_13 (by decide) ?_
  refine wz_icmp_ne (t := 49) d144_15 (by decide) ⟨by omega, by omega⟩ ⟨by omega, by omega⟩ (fun h10 => ?_) (fun h10 => ?_)
  rotate_left
  · skip
    have ha : 0 ≤ a ∧ a < 8 := by omega
    refine wp_aload_n d144_18 rfl ?_
    refine wp_getR (q := 60) d144_19 rfl (hG.o (by decide) rfl) (by decide) (hG.r (by decide +kernel)) (by decide) ?_
    refine wp_iload_n d144_22 rfl ?_
    refine wz_iald (z := 128) (v := a) d144_23 (hG.a (by decide) rfl rfl) (by omega) (by omega) (by decide) (ea) ?_
    refine wz_iconst d144_24 ?_
    refine wz_and1 d144_25 (by first | omega | exact Int.natCast_nonneg _) ?_
    refine wp_aload_n d144_26 rfl ?_
    refine wp_getR (q := 60) d144_27 rfl (hG.o (by decide) rfl) (by decide) (hG.r (by decide +kernel)) (by decide) ?_
    refine wp_iload_n d144_30 rfl ?_
    refine wz_iald (z := 128) (v := a) d144_31 (hG.a (by decide) rfl rfl) (by omega) (by omega) (by decide) (ea) ?_
    refine wz_iconst d144_32 ?_
    refine wz_ishrq (q := 2) d144_33 (by omega) (by omega) (by omega) (by omega) (by decide) ?_
    refine wz_iconst d144_34 ?_
    refine wz_and1 d144_35 (by first | omega | exact Int.natCast_nonneg _) ?_
    refine wz_iadd d144_36 ?_
    refine wp_aload_n d144_37 rfl ?_
    refine wp_getR (q := 60) d144_38 rfl (hG.o (by decide) rfl) (by decide) (hG.r (by decide +kernel)) (by decide) ?_
    refine wp_iload_n d144_41 rfl ?_
    refine wz_iald (z := 128) (v := a) d144_42 (hG.a (by decide) rfl rfl) (by omega) (by omega) (by decide) (ea) ?_
    refine wz_iconst d144_43 ?_
    refine wz_ishrq (q := 4) d144_44 (by omega) (by omega) (by omega) (by omega) (by decide) ?_
    refine wz_iconst d144_45 ?_
    refine wz_and1 d144_46 (by first | omega | exact Int.natCast_nonneg _) ?_
    refine wz_iadd d144_47 ?_
    rw [show (xar c : Int) = ((a % 2) + ((a / 2) % 2)) + ((a / 4) % 2) by rw [show xar c = lab a by omega]; unfold lab; omega] at h
    exact wp_ret d144_48 rfl (h)
  refine wp_iload_n d144_49 rfl ?_
  refine wz_if_eq (t := 63) d144_50 (by decide) ⟨by omega, by omega⟩ (fun h00 => ?_) (fun h00 => ?_)
  · skip
    rw [show xar c = 0 by omega] at h
    refine wz_iconst d144_63 ?_
    exact wp_ret d144_64 rfl (h)
  refine wp_iload_n d144_53 rfl ?_
  refine wz_iconst d144_54 ?_
  refine wz_icmp_eq (t := 63) d144_55 (by decide) ⟨by omega, by omega⟩ ⟨by omega, by omega⟩ (fun h33 => ?_) (fun h33 => ?_)
  · skip
    rw [show xar c = 0 by omega] at h
    refine wz_iconst d144_63 ?_
    exact wp_ret d144_64 rfl (h)
  refine wp_iload_n d144_58 rfl ?_
  refine wz_iconst d144_59 ?_
  refine wz_icmp_ne (t := 65) d144_60 (by decide) ⟨by omega, by omega⟩ ⟨by omega, by omega⟩ (fun h55 => ?_) (fun h55 => ?_)
  rotate_left
  · skip
    rw [show xar c = 0 by omega] at h
    refine wz_iconst d144_63 ?_
    exact wp_ret d144_64 rfl (h)
  refine wp_iload_n d144_65 rfl ?_
  refine wz_bipush d144_66 (by decide) ?_
  refine wz_icmp_ne (t := 75) d144_68 (by decide) ⟨by omega, by omega⟩ ⟨by omega, by omega⟩ (fun h11 => ?_) (fun h11 => ?_)
  · skip
    rw [show xar c = 2 by omega] at h
    refine wz_iconst d144_75 ?_
    exact wp_ret d144_76 rfl (h)
  · skip
    rw [show xar c = 1 by omega] at h
    refine wz_iconst d144_71 ?_
    refine wp_goto (t := 76) d144_72 (by decide) ?_
    exact wp_ret d144_76 rfl (h)
theorem m_behind {i : Nat} {l : List Int} {b : Bool} (hG : pm_G Rf K L n) (hi : i + l.length ≤ 128) (hx : NXl lo N nd sc i l b) (hp : prx 1 l = true) (h : Q (some (.int (zI ((i + l.length : Nat) : Int)))) (zM N, Rf, K, L, n, s0)) : pm_Wc (d + 2) 145 [.ref 56, .int (zI (i : Int))] (zM N, Rf, K, L, n, s0) Q := by
  have xl : ∀ c, xar c ≤ 3 := by
    intro c
    unfold xar ar lab
    repeat (first | split | omega)
  have loop : ∀ (l' : List Int) (k j : Nat) (b' : Bool), NXl lo N nd sc j l' b' → prx k l' = true → j + l'.length = i + l.length → k ≤ 1000 - 4 * l'.length → l'.length ≤ 128 → pm_Wp none (d + 1) 145 4 [some (.ref 56), some (.int (zI (i : Int))), some (.int (zI (k : Int))), some (.int (zI (j : Int)))] [] (zM N, Rf, K, L, n, s0) Q := by
    intro l'
    induction l' with
    | nil =>
      intro k j b' hx' hp' hj hk hl
      match k, hp' with
      | 0, _ =>
        refine wp_iload_n d145_4 rfl ?_
        refine wz_if_le (t := 24) d145_5 (by decide) ⟨by omega, by omega⟩ (fun _ => ?_) (fun hb => absurd (by decide) hb)
        refine wp_iload_n d145_24 rfl ?_
        rw [List.length_nil, Nat.add_zero] at hj
        rw [hj]
        exact wp_ret d145_25 rfl (h)
    | cons c l' ih =>
      intro k j b' hx' hp' hj hk hl
      match k, hp' with
      | k + 1, hp' =>
        have hp' : prx (k + xar c) l' = true := hp'
        obtain ⟨b1, b2, t1, t2, t3⟩ := hx'
        rw [List.length_cons] at hj hk hl
        have x3 := xl c
        refine wp_iload_n d145_4 rfl ?_
        refine wz_if_le (t := 24) d145_5 (by decide) ⟨by omega, by omega⟩ (fun hb => absurd hb (by omega)) (fun _ => ?_)
        refine wp_iload_n d145_8 rfl ?_
        refine wp_aload_n d145_9 rfl ?_
        refine wp_iload_n d145_10 rfl ?_
        refine wp_virt (as := [.int (zI (j : Int))]) (rest := [.int (zI (((k + 1 : Nat) : Int)))]) d145_11 rfl rfl rfl (hG.o (by decide) rfl) rfl rfl (Nat.le_of_ble_eq_true rfl) ?_
        refine m_partsOf hG (by omega) t1 ?_
        refine wz_iadd d145_14 ?_
        refine wz_iconst d145_15 ?_
        refine wz_isub d145_16 ?_
        refine wp_istore_n d145_17 (Nat.le_of_ble_eq_true rfl) rfl ?_
        refine wz_iinc d145_18 rfl rfl ?_
        refine wp_goto (t := 4) d145_21 (by decide) ?_
        rw [show ((k + 1 : Nat) : Int) + (xar c : Int) - 1 = ((k + xar c : Nat) : Int) by omega, show (j : Int) + 1 = ((j + 1 : Nat) : Int) by omega]
        exact ih (k + xar c) (j + 1) b2 t2 hp' (by omega) (by omega) (by omega)
  refine wc_in (ls0 := [some (.ref 56), some (.int (zI (i : Int))), none, none]) (by decide) (Nat.le_of_ble_eq_true rfl) rfl rfl ?_
  refine wz_iconst d145_0 ?_
  refine wp_istore_n d145_1 (Nat.le_of_ble_eq_true rfl) rfl ?_
  refine wp_iload_n d145_2 rfl ?_
  refine wp_istore_n d145_3 (Nat.le_of_ble_eq_true rfl) rfl ?_
  exact loop l 1 i b hx hp rfl (by omega) (by omega)
end PmM35
