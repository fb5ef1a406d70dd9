/-! THE MODEL: what a value is written as. -/
/-- the text of a value -/
def vtx : Ty → List Int
  | .append t _ => if nKd t = 6 then [102] else [103]
  | .tag m (.append x (.append y z)) => 123 :: ((if bit m 0 = true then 120 :: 61 :: vtx x else []) ++ ((if bit m 1 = true then (if bit m 0 = true then [44] else []) ++ (121 :: 61 :: vtx y) else []) ++ ((if bit m 2 = true then (if bit m 0 = true ∨ bit m 1 = true then [44] else []) ++ (122 :: 61 :: vtx z) else []) ++ [125])))
  | _ => []
/-- what waits to be written, the next one first: a character, or a value's number -/
def RpS (N : pm_M) : List Int → Nat → Prop
  | [], w => w = 0
  | c :: s, w => ∃ q : Nat, w = q + 1 ∧ N 98 (q : Int) = c ∧ RpS N s q
theorem RpS.low {N N' : pm_M} : ∀ {s : List Int} {w : Nat}, (∀ i : Int, 0 ≤ i → i < w → N' 98 i = N 98 i) → RpS N s w → RpS N' s w
  | [], w, _, h => h
  | c :: s, w, e, ⟨q, h1, h2, h3⟩ => ⟨q, h1, by rw [e q (by omega) (by omega)]; exact h2, RpS.low (fun i i0 i1 => e i i0 (by omega)) h3⟩
theorem RpS.push {N : pm_M} {s : List Int} {w : Nat} (h : RpS N s w) (c : Int) : RpS (mset N 98 (w : Int) c) (c :: s) (w + 1) := ⟨w, rfl, mset_s _ _ _ _, h.low (fun i i0 i1 => mset_i' (by omega))⟩
theorem RpS.len {N : pm_M} : ∀ {s : List Int} {w : Nat}, RpS N s w → s.length = w
  | [], w, h => by have : w = 0 := h; rw [this]; rfl
  | c :: s, w, ⟨q, h1, _, h3⟩ => by rw [List.length_cons, h3.len, h1]
/-- the part of a label -/
def sgm (m k : Nat) (lo : Bool) (c : Int) : List Int := if bit m k = true then (if lo = true then [44] else []) ++ [120 + (k : Int), 61, c] else []
theorem land3 : ∀ m : Nat, m < 8 → ((((((m : Int) : Int).toNat &&& (((((1 : Int).toNat * 2 ^ (2 : Int).toNat : Nat) : Int)) - 1 : Int).toNat : Nat) : Int) = (0 : Int) → m % 4 = 0) ∧ (m % 4 = 0 → ((((m : Int) : Int).toNat &&& (((((1 : Int).toNat * 2 ^ (2 : Int).toNat : Nat) : Int)) - 1 : Int).toNat : Nat) : Int) = (0 : Int)) ∧ (0 ≤ ((((m : Int) : Int).toNat &&& (((((1 : Int).toNat * 2 ^ (2 : Int).toNat : Nat) : Int)) - 1 : Int).toNat : Nat) : Int) ∧ ((((m : Int) : Int).toNat &&& (((((1 : Int).toNat * 2 ^ (2 : Int).toNat : Nat) : Int)) - 1 : Int).toNat : Nat) : Int) ≤ (7 : Int))) := by decide
theorem land1 : ∀ m : Nat, m < 8 → ((((((m : Int) : Int).toNat &&& (((((1 : Int).toNat * 2 ^ (1 : Int).toNat : Nat) : Int)) - 1 : Int).toNat : Nat) : Int) = (0 : Int) → m % 2 = 0) ∧ (m % 2 = 0 → ((((m : Int) : Int).toNat &&& (((((1 : Int).toNat * 2 ^ (1 : Int).toNat : Nat) : Int)) - 1 : Int).toNat : Nat) : Int) = (0 : Int)) ∧ (0 ≤ ((((m : Int) : Int).toNat &&& (((((1 : Int).toNat * 2 ^ (1 : Int).toNat : Nat) : Int)) - 1 : Int).toNat : Nat) : Int) ∧ ((((m : Int) : Int).toNat &&& (((((1 : Int).toNat * 2 ^ (1 : Int).toNat : Nat) : Int)) - 1 : Int).toNat : Nat) : Int) ≤ (7 : Int))) := by decide
theorem land0 : ∀ m : Nat, m < 8 → ((((m : Int) : Int).toNat &&& (((((1 : Int).toNat * 2 ^ (0 : Int).toNat : Nat) : Int)) - 1 : Int).toNat : Nat) : Int) = (0 : Int) := by decide
section PmG20
variable {d : Nat} {Q : Option Value → pm_S → Prop} {N : pm_M} {Rf : Nat → Nat → Nat} {K L : Nat → Nat} {n s0 : Nat} {i wt : Int} {m w : Nat} {s : List Int}
theorem show_2 (hG : pm_G Rf K L n) (hM : ∀ p i, R32 (N p i)) (m8 : m < 8) (i0 : 0 ≤ i) (i1 : i < 4000) (w5 : w < 1590) (hs : RpS N s w) (h : ∀ (N' : pm_M) (w' : Nat), RpS N' (sgm m 2 (decide (m % 4 ≠ 0)) (-1 - N 93 (3 * i + 2)) ++ s) w' → w ≤ w' → w' ≤ w + 4 → (∀ p i, p ≠ 98 → N' p i = N p i) → (∀ p i, R32 (N' p i)) → pm_Wp none d 210 29 [some (.ref 56), some (.int (zI i)), some (.int (zI wt)), some (.int (zI (w' : Int))), some (.int (zI (m : Int))), some (.int (zI 1))] [] (zM N', Rf, K, L, n, s0) Q) (hr : R32 (-1 - N 93 (3 * i + 2))) : pm_Wp none d 210 29 [some (.ref 56), some (.int (zI i)), some (.int (zI wt)), some (.int (zI (w : Int))), some (.int (zI (m : Int))), some (.int (zI 2))] [] (zM N, Rf, K, L, n, s0) Q := by
  have bb : bit m 2 = true ↔ (m : Int) / 4 % 2 = 1 := by rw [bit_ar]; omega
  refine wp_iload d210_29 rfl ?_
  refine wz_if_lt (t := 119) d210_31 (by decide) ⟨by omega, by omega⟩ (fun hb => absurd hb (by omega)) (fun _ => ?_)
  refine wp_iload d210_34 rfl ?_
  refine wp_iload d210_36 rfl ?_
  refine wz_ishrq (q := 4) d210_38 (by omega) (by omega) (by omega) (by omega) (by decide) ?_
  refine wz_iconst d210_39 ?_
  refine wz_and1 d210_40 (by first | omega | exact Int.natCast_nonneg _) ?_
  refine wz_iconst d210_41 ?_
  refine wz_icmp_ne (t := 113) d210_42 (by decide) ⟨by omega, by omega⟩ ⟨by omega, by omega⟩ (fun hb => ?_) (fun hb => ?_)
  · skip
    have nb : ¬ bit m 2 = true := fun e => hb (bb.mp e)
    refine wz_iinc d210_113 rfl rfl ?_
    refine wp_goto (t := 29) d210_116 (by decide) ?_
    refine h N w (by unfold sgm; rw [if_neg nb]; exact hs) (by omega) (by omega) (fun _ _ _ => rfl) hM
  · skip
    have yb : bit m 2 = true := bb.mpr (by omega)
    refine wp_aload_n d210_45 rfl ?_
    refine wp_getR (q := 98) d210_46 rfl (hG.o (by decide) rfl) (by decide) (hG.r (by decide +kernel)) (by decide) ?_
    refine wp_iload_n d210_49 rfl ?_
    refine wz_iconst d210_50 ?_
    refine wp_aload_n d210_51 rfl ?_
    refine wp_getR (q := 93) d210_52 rfl (hG.o (by decide) rfl) (by decide) (hG.r (by decide +kernel)) (by decide) ?_
    refine wz_iconst d210_55 ?_
    refine wp_iload_n d210_56 rfl ?_
    refine wz_imul d210_57 ?_
    refine wp_iload d210_58 rfl ?_
    refine wz_iadd d210_60 ?_
    refine wz_iald (z := 12000) (v := N 93 (3 * i + 2)) d210_61 (hG.a (by decide) rfl rfl) (by omega) (by omega) (by decide) (rfl) ?_
    refine wz_isub d210_62 ?_
    refine wz_iast (z := 1600) d210_63 (hG.a (by decide) rfl rfl) (by omega) (by omega) (by decide) ?_
    refine wp_aload_n d210_64 rfl ?_
    refine wp_getR (q := 98) d210_65 rfl (hG.o (by decide) rfl) (by decide) (hG.r (by decide +kernel)) (by decide) ?_
    refine wp_iload_n d210_68 rfl ?_
    refine wz_iconst d210_69 ?_
    refine wz_iadd d210_70 ?_
    refine wz_bipush d210_71 (by decide) ?_
    refine wz_iast (z := 1600) d210_73 (hG.a (by decide) rfl rfl) (by omega) (by omega) (by decide) ?_
    refine wp_aload_n d210_74 rfl ?_
    refine wp_getR (q := 98) d210_75 rfl (hG.o (by decide) rfl) (by decide) (hG.r (by decide +kernel)) (by decide) ?_
    refine wp_iload_n d210_78 rfl ?_
    refine wz_iconst d210_79 ?_
    refine wz_iadd d210_80 ?_
    refine wz_bipush d210_81 (by decide) ?_
    refine wp_iload d210_83 rfl ?_
    refine wz_iadd d210_85 ?_
    refine wz_iast (z := 1600) d210_86 (hG.a (by decide) rfl rfl) (by omega) (by omega) (by decide) ?_
    refine wz_iinc d210_87 rfl rfl ?_
    refine wp_iload d210_90 rfl ?_
    refine wz_iconst d210_92 ?_
    refine wp_iload d210_93 rfl ?_
    refine wz_ishl d210_95 (by omega) (by omega) (by omega) (by omega) ?_
    refine wz_iconst d210_96 ?_
    refine wz_isub d210_97 ?_
    refine wz_iand d210_98 (by first | omega | exact Int.natCast_nonneg _) (by first | omega | exact Int.natCast_nonneg _) ?_
    have la := land3 m m8
    have lb := la.2.2
    have p3 : RpS (mset (mset (mset N 98 (w : Int) (-1 - N 93 (3 * i + 2))) 98 ((w : Int) + 1) 61) 98 ((w : Int) + 2) 122) (122 :: 61 :: (-1 - N 93 (3 * i + 2)) :: s) (w + 1 + 1 + 1) := ((hs.push _).push 61).push 122
    have hM3 : ∀ (p : Nat) (x : Int), R32 ((mset (mset (mset N 98 (w : Int) (-1 - N 93 (3 * i + 2))) 98 ((w : Int) + 1) 61) 98 ((w : Int) + 2) 122) p x) := mset_R32 (mset_R32 (mset_R32 hM hr) ⟨by omega, by omega⟩) ⟨by omega, by omega⟩
    have k3 : ∀ (p : Nat) (j : Int), p ≠ 98 → (mset (mset (mset N 98 (w : Int) (-1 - N 93 (3 * i + 2))) 98 ((w : Int) + 1) 61) 98 ((w : Int) + 2) 122) p j = N p j := fun p j hp => by rw [mset_i' (by omega), mset_i' (by omega), mset_i' (by omega)]
    refine wz_if_eq (t := 113) d210_99 (by decide) ⟨by omega, by omega⟩ (fun hz => ?_) (fun hz => ?_)
    · skip
      have lz : m % 4 = 0 := la.1 hz
      refine wz_iinc d210_113 rfl rfl ?_
      refine wp_goto (t := 29) d210_116 (by decide) ?_
      refine h (mset (mset (mset N 98 (w : Int) (-1 - N 93 (3 * i + 2))) 98 ((w : Int) + 1) 61) 98 ((w : Int) + 2) 122) (w + 1 + 1 + 1) (by unfold sgm; rw [if_pos yb, if_neg (by rw [decide_eq_true_eq]; exact fun e => e lz)]; exact p3) (by omega) (by omega) k3 hM3
    · skip
      have lz : m % 4 ≠ 0 := fun e => hz (la.2.1 e)
      refine wp_aload_n d210_102 rfl ?_
      refine wp_getR (q := 98) d210_103 rfl (hG.o (by decide) rfl) (by decide) (hG.r (by decide +kernel)) (by decide) ?_
      refine wp_iload_n d210_106 rfl ?_
      refine wz_bipush d210_107 (by decide) ?_
      refine wz_iast (z := 1600) d210_109 (hG.a (by decide) rfl rfl) (by omega) (by omega) (by decide) ?_
      refine wz_iinc d210_110 rfl rfl ?_
      refine wz_iinc d210_113 rfl rfl ?_
      refine wp_goto (t := 29) d210_116 (by decide) ?_
      refine h (mset (mset (mset (mset N 98 (w : Int) (-1 - N 93 (3 * i + 2))) 98 ((w : Int) + 1) 61) 98 ((w : Int) + 2) 122) 98 ((w : Int) + 3) 44) (w + 1 + 1 + 1 + 1) (by unfold sgm; rw [if_pos yb, if_pos (by rw [decide_eq_true_eq]; exact lz)]; exact p3.push 44) (by omega) (by omega) (fun p j hp => (mset_i' (by omega)).trans (k3 p j hp)) (mset_R32 hM3 ⟨by omega, by omega⟩)
theorem show_1 (hG : pm_G Rf K L n) (hM : ∀ p i, R32 (N p i)) (m8 : m < 8) (i0 : 0 ≤ i) (i1 : i < 4000) (w5 : w < 1590) (hs : RpS N s w) (h : ∀ (N' : pm_M) (w' : Nat), RpS N' (sgm m 1 (decide (m % 2 ≠ 0)) (-1 - N 93 (3 * i + 1)) ++ s) w' → w ≤ w' → w' ≤ w + 4 → (∀ p i, p ≠ 98 → N' p i = N p i) → (∀ p i, R32 (N' p i)) → pm_Wp none d 210 29 [some (.ref 56), some (.int (zI i)), some (.int (zI wt)), some (.int (zI (w' : Int))), some (.int (zI (m : Int))), some (.int (zI 0))] [] (zM N', Rf, K, L, n, s0) Q) (hr : R32 (-1 - N 93 (3 * i + 1))) : pm_Wp none d 210 29 [some (.ref 56), some (.int (zI i)), some (.int (zI wt)), some (.int (zI (w : Int))), some (.int (zI (m : Int))), some (.int (zI 1))] [] (zM N, Rf, K, L, n, s0) Q := by
  have bb : bit m 1 = true ↔ (m : Int) / 2 % 2 = 1 := by rw [bit_ar]; omega
  refine wp_iload d210_29 rfl ?_
  refine wz_if_lt (t := 119) d210_31 (by decide) ⟨by omega, by omega⟩ (fun hb => absurd hb (by omega)) (fun _ => ?_)
  refine wp_iload d210_34 rfl ?_
  refine wp_iload d210_36 rfl ?_
  refine wz_ishrq (q := 2) d210_38 (by omega) (by omega) (by omega) (by omega) (by decide) ?_
  refine wz_iconst d210_39 ?_
  refine wz_and1 d210_40 (by first | omega | exact Int.natCast_nonneg _) ?_
  refine wz_iconst d210_41 ?_
  refine wz_icmp_ne (t := 113) d210_42 (by decide) ⟨by omega, by omega⟩ ⟨by omega, by omega⟩ (fun hb => ?_) (fun hb => ?_)
  · skip
    have nb : ¬ bit m 1 = true := fun e => hb (bb.mp e)
    refine wz_iinc d210_113 rfl rfl ?_
    refine wp_goto (t := 29) d210_116 (by decide) ?_
    refine h N w (by unfold sgm; rw [if_neg nb]; exact hs) (by omega) (by omega) (fun _ _ _ => rfl) hM
  · skip
    have yb : bit m 1 = true := bb.mpr (by omega)
    refine wp_aload_n d210_45 rfl ?_
    refine wp_getR (q := 98) d210_46 rfl (hG.o (by decide) rfl) (by decide) (hG.r (by decide +kernel)) (by decide) ?_
    refine wp_iload_n d210_49 rfl ?_
    refine wz_iconst d210_50 ?_
    refine wp_aload_n d210_51 rfl ?_
    refine wp_getR (q := 93) d210_52 rfl (hG.o (by decide) rfl) (by decide) (hG.r (by decide +kernel)) (by decide) ?_
    refine wz_iconst d210_55 ?_
    refine wp_iload_n d210_56 rfl ?_
    refine wz_imul d210_57 ?_
    refine wp_iload d210_58 rfl ?_
    refine wz_iadd d210_60 ?_
    refine wz_iald (z := 12000) (v := N 93 (3 * i + 1)) d210_61 (hG.a (by decide) rfl rfl) (by omega) (by omega) (by decide) (rfl) ?_
    refine wz_isub d210_62 ?_
    refine wz_iast (z := 1600) d210_63 (hG.a (by decide) rfl rfl) (by omega) (by omega) (by decide) ?_
    refine wp_aload_n d210_64 rfl ?_
    refine wp_getR (q := 98) d210_65 rfl (hG.o (by decide) rfl) (by decide) (hG.r (by decide +kernel)) (by decide) ?_
    refine wp_iload_n d210_68 rfl ?_
    refine wz_iconst d210_69 ?_
    refine wz_iadd d210_70 ?_
    refine wz_bipush d210_71 (by decide) ?_
    refine wz_iast (z := 1600) d210_73 (hG.a (by decide) rfl rfl) (by omega) (by omega) (by decide) ?_
    refine wp_aload_n d210_74 rfl ?_
    refine wp_getR (q := 98) d210_75 rfl (hG.o (by decide) rfl) (by decide) (hG.r (by decide +kernel)) (by decide) ?_
    refine wp_iload_n d210_78 rfl ?_
    refine wz_iconst d210_79 ?_
    refine wz_iadd d210_80 ?_
    refine wz_bipush d210_81 (by decide) ?_
    refine wp_iload d210_83 rfl ?_
    refine wz_iadd d210_85 ?_
    refine wz_iast (z := 1600) d210_86 (hG.a (by decide) rfl rfl) (by omega) (by omega) (by decide) ?_
    refine wz_iinc d210_87 rfl rfl ?_
    refine wp_iload d210_90 rfl ?_
    refine wz_iconst d210_92 ?_
    refine wp_iload d210_93 rfl ?_
    refine wz_ishl d210_95 (by omega) (by omega) (by omega) (by omega) ?_
    refine wz_iconst d210_96 ?_
    refine wz_isub d210_97 ?_
    refine wz_iand d210_98 (by first | omega | exact Int.natCast_nonneg _) (by first | omega | exact Int.natCast_nonneg _) ?_
    have la := land1 m m8
    have lb := la.2.2
    have p3 : RpS (mset (mset (mset N 98 (w : Int) (-1 - N 93 (3 * i + 1))) 98 ((w : Int) + 1) 61) 98 ((w : Int) + 2) 121) (121 :: 61 :: (-1 - N 93 (3 * i + 1)) :: s) (w + 1 + 1 + 1) := ((hs.push _).push 61).push 121
    have hM3 : ∀ (p : Nat) (x : Int), R32 ((mset (mset (mset N 98 (w : Int) (-1 - N 93 (3 * i + 1))) 98 ((w : Int) + 1) 61) 98 ((w : Int) + 2) 121) p x) := mset_R32 (mset_R32 (mset_R32 hM hr) ⟨by omega, by omega⟩) ⟨by omega, by omega⟩
    have k3 : ∀ (p : Nat) (j : Int), p ≠ 98 → (mset (mset (mset N 98 (w : Int) (-1 - N 93 (3 * i + 1))) 98 ((w : Int) + 1) 61) 98 ((w : Int) + 2) 121) p j = N p j := fun p j hp => by rw [mset_i' (by omega), mset_i' (by omega), mset_i' (by omega)]
    refine wz_if_eq (t := 113) d210_99 (by decide) ⟨by omega, by omega⟩ (fun hz => ?_) (fun hz => ?_)
    · skip
      have lz : m % 2 = 0 := la.1 hz
      refine wz_iinc d210_113 rfl rfl ?_
      refine wp_goto (t := 29) d210_116 (by decide) ?_
      refine h (mset (mset (mset N 98 (w : Int) (-1 - N 93 (3 * i + 1))) 98 ((w : Int) + 1) 61) 98 ((w : Int) + 2) 121) (w + 1 + 1 + 1) (by unfold sgm; rw [if_pos yb, if_neg (by rw [decide_eq_true_eq]; exact fun e => e lz)]; exact p3) (by omega) (by omega) k3 hM3
    · skip
      have lz : m % 2 ≠ 0 := fun e => hz (la.2.1 e)
      refine wp_aload_n d210_102 rfl ?_
      refine wp_getR (q := 98) d210_103 rfl (hG.o (by decide) rfl) (by decide) (hG.r (by decide +kernel)) (by decide) ?_
      refine wp_iload_n d210_106 rfl ?_
      refine wz_bipush d210_107 (by decide) ?_
      refine wz_iast (z := 1600) d210_109 (hG.a (by decide) rfl rfl) (by omega) (by omega) (by decide) ?_
      refine wz_iinc d210_110 rfl rfl ?_
      refine wz_iinc d210_113 rfl rfl ?_
      refine wp_goto (t := 29) d210_116 (by decide) ?_
      refine h (mset (mset (mset (mset N 98 (w : Int) (-1 - N 93 (3 * i + 1))) 98 ((w : Int) + 1) 61) 98 ((w : Int) + 2) 121) 98 ((w : Int) + 3) 44) (w + 1 + 1 + 1 + 1) (by unfold sgm; rw [if_pos yb, if_pos (by rw [decide_eq_true_eq]; exact lz)]; exact p3.push 44) (by omega) (by omega) (fun p j hp => (mset_i' (by omega)).trans (k3 p j hp)) (mset_R32 hM3 ⟨by omega, by omega⟩)
theorem show_0 (hG : pm_G Rf K L n) (hM : ∀ p i, R32 (N p i)) (m8 : m < 8) (i0 : 0 ≤ i) (i1 : i < 4000) (w5 : w < 1590) (hs : RpS N s w) (h : ∀ (N' : pm_M) (w' : Nat), RpS N' (sgm m 0 false (-1 - N 93 (3 * i + 0)) ++ s) w' → w ≤ w' → w' ≤ w + 4 → (∀ p i, p ≠ 98 → N' p i = N p i) → (∀ p i, R32 (N' p i)) → pm_Wp none d 210 29 [some (.ref 56), some (.int (zI i)), some (.int (zI wt)), some (.int (zI (w' : Int))), some (.int (zI (m : Int))), some (.int (zI (-1)))] [] (zM N', Rf, K, L, n, s0) Q) (hr : R32 (-1 - N 93 (3 * i + 0))) : pm_Wp none d 210 29 [some (.ref 56), some (.int (zI i)), some (.int (zI wt)), some (.int (zI (w : Int))), some (.int (zI (m : Int))), some (.int (zI 0))] [] (zM N, Rf, K, L, n, s0) Q := by
  have bb : bit m 0 = true ↔ (m : Int) / 1 % 2 = 1 := by rw [bit_ar]; omega
  refine wp_iload d210_29 rfl ?_
  refine wz_if_lt (t := 119) d210_31 (by decide) ⟨by omega, by omega⟩ (fun hb => absurd hb (by omega)) (fun _ => ?_)
  refine wp_iload d210_34 rfl ?_
  refine wp_iload d210_36 rfl ?_
  refine wz_ishrq (q := 1) d210_38 (by omega) (by omega) (by omega) (by omega) (by decide) ?_
  refine wz_iconst d210_39 ?_
  refine wz_and1 d210_40 (by first | omega | exact Int.natCast_nonneg _) ?_
  refine wz_iconst d210_41 ?_
  refine wz_icmp_ne (t := 113) d210_42 (by decide) ⟨by omega, by omega⟩ ⟨by omega, by omega⟩ (fun hb => ?_) (fun hb => ?_)
  · skip
    have nb : ¬ bit m 0 = true := fun e => hb (bb.mp e)
    refine wz_iinc d210_113 rfl rfl ?_
    refine wp_goto (t := 29) d210_116 (by decide) ?_
    refine h N w (by unfold sgm; rw [if_neg nb]; exact hs) (by omega) (by omega) (fun _ _ _ => rfl) hM
  · skip
    have yb : bit m 0 = true := bb.mpr (by omega)
    refine wp_aload_n d210_45 rfl ?_
    refine wp_getR (q := 98) d210_46 rfl (hG.o (by decide) rfl) (by decide) (hG.r (by decide +kernel)) (by decide) ?_
    refine wp_iload_n d210_49 rfl ?_
    refine wz_iconst d210_50 ?_
    refine wp_aload_n d210_51 rfl ?_
    refine wp_getR (q := 93) d210_52 rfl (hG.o (by decide) rfl) (by decide) (hG.r (by decide +kernel)) (by decide) ?_
    refine wz_iconst d210_55 ?_
    refine wp_iload_n d210_56 rfl ?_
    refine wz_imul d210_57 ?_
    refine wp_iload d210_58 rfl ?_
    refine wz_iadd d210_60 ?_
    refine wz_iald (z := 12000) (v := N 93 (3 * i + 0)) d210_61 (hG.a (by decide) rfl rfl) (by omega) (by omega) (by decide) (rfl) ?_
    refine wz_isub d210_62 ?_
    refine wz_iast (z := 1600) d210_63 (hG.a (by decide) rfl rfl) (by omega) (by omega) (by decide) ?_
    refine wp_aload_n d210_64 rfl ?_
    refine wp_getR (q := 98) d210_65 rfl (hG.o (by decide) rfl) (by decide) (hG.r (by decide +kernel)) (by decide) ?_
    refine wp_iload_n d210_68 rfl ?_
    refine wz_iconst d210_69 ?_
    refine wz_iadd d210_70 ?_
    refine wz_bipush d210_71 (by decide) ?_
    refine wz_iast (z := 1600) d210_73 (hG.a (by decide) rfl rfl) (by omega) (by omega) (by decide) ?_
    refine wp_aload_n d210_74 rfl ?_
    refine wp_getR (q := 98) d210_75 rfl (hG.o (by decide) rfl) (by decide) (hG.r (by decide +kernel)) (by decide) ?_
    refine wp_iload_n d210_78 rfl ?_
    refine wz_iconst d210_79 ?_
    refine wz_iadd d210_80 ?_
    refine wz_bipush d210_81 (by decide) ?_
    refine wp_iload d210_83 rfl ?_
    refine wz_iadd d210_85 ?_
    refine wz_iast (z := 1600) d210_86 (hG.a (by decide) rfl rfl) (by omega) (by omega) (by decide) ?_
    refine wz_iinc d210_87 rfl rfl ?_
    refine wp_iload d210_90 rfl ?_
    refine wz_iconst d210_92 ?_
    refine wp_iload d210_93 rfl ?_
    refine wz_ishl d210_95 (by omega) (by omega) (by omega) (by omega) ?_
    refine wz_iconst d210_96 ?_
    refine wz_isub d210_97 ?_
    refine wz_iand d210_98 (by first | omega | exact Int.natCast_nonneg _) (by first | omega | exact Int.natCast_nonneg _) ?_
    have la := land0 m m8
    have p3 : RpS (mset (mset (mset N 98 (w : Int) (-1 - N 93 (3 * i + 0))) 98 ((w : Int) + 1) 61) 98 ((w : Int) + 2) 120) (120 :: 61 :: (-1 - N 93 (3 * i + 0)) :: s) (w + 1 + 1 + 1) := ((hs.push _).push 61).push 120
    have hM3 : ∀ (p : Nat) (x : Int), R32 ((mset (mset (mset N 98 (w : Int) (-1 - N 93 (3 * i + 0))) 98 ((w : Int) + 1) 61) 98 ((w : Int) + 2) 120) p x) := mset_R32 (mset_R32 (mset_R32 hM hr) ⟨by omega, by omega⟩) ⟨by omega, by omega⟩
    have k3 : ∀ (p : Nat) (j : Int), p ≠ 98 → (mset (mset (mset N 98 (w : Int) (-1 - N 93 (3 * i + 0))) 98 ((w : Int) + 1) 61) 98 ((w : Int) + 2) 120) p j = N p j := fun p j hp => by rw [mset_i' (by omega), mset_i' (by omega), mset_i' (by omega)]
    refine wz_if_eq (t := 113) d210_99 (by decide) ⟨by omega, by omega⟩ (fun _ => ?_) (fun hb => absurd (la) hb)
    refine wz_iinc d210_113 rfl rfl ?_
    refine wp_goto (t := 29) d210_116 (by decide) ?_
    refine h (mset (mset (mset N 98 (w : Int) (-1 - N 93 (3 * i + 0))) 98 ((w : Int) + 1) 61) 98 ((w : Int) + 2) 120) (w + 1 + 1 + 1) (by unfold sgm; rw [if_pos yb]; exact p3) (by omega) (by omega) k3 hM3
end PmG20
