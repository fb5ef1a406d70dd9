/-! THE CLASS: nodes of terms. -/
section PmC33
variable {d : Nat} {Q : Option Value → pm_S → Prop} {M : pm_M} {Rf : Nat → Nat → Nat} {K L : Nat → Nat} {n s : Nat}
theorem c_tadd {X c : Nat} {k p : Int} (hX : X = 16 ∨ X = 23) (hG : pm_G Rf K L n) (hM : ∀ p i, R32 (M p i)) (hc : M X 6 = (c : Int)) (hl : c < 60) (rk : R32 k) (rp : R32 p) (h : ∀ M' : pm_M, (∀ (q : Nat) (i : Int), ¬ (q = X ∧ i = 6) → ¬ (X + 1 ≤ q ∧ q ≤ X + 6 ∧ i = (c : Int)) → M' q i = M q i) → M' X 6 = ((c + 1 : Nat) : Int) → M' (X + 1) (c : Int) = k → M' (X + 2) (c : Int) = p → (∀ p i, R32 (M' p i)) → Q (some (.int (zI (c : Int)))) (zM M', Rf, K, L, n, s)) : pm_Wc (d + 1) 68 [.ref X, .int (zI k), .int (zI p)] (zM M, Rf, K, L, n, s) Q := by
  rcases hX with rfl | rfl
  · skip
    refine wc_in (ls0 := [some (.ref 16), some (.int (zI k)), some (.int (zI p)), none]) (by decide) (Nat.le_of_ble_eq_true rfl) rfl rfl ?_
    refine wp_aload_n d68_0 rfl ?_
    refine wz_getI (v := (c : Int)) d68_1 rfl (hG.o (by decide) rfl) (by decide) (hc) ?_
    refine wz_bipush d68_4 (by decide) ?_
    refine wz_icmp_lt (t := 11) d68_6 (by decide) ⟨by omega, by omega⟩ ⟨by omega, by omega⟩ (fun _ => ?_) (fun hb => absurd (by omega) hb)
    refine wp_aload_n d68_11 rfl ?_
    refine wz_getI (v := (c : Int)) d68_12 rfl (hG.o (by decide) rfl) (by decide) (hc) ?_
    refine wp_istore_n d68_15 (Nat.le_of_ble_eq_true rfl) rfl ?_
    refine wp_aload_n d68_16 rfl ?_
    refine wp_dupr d68_17 ?_
    refine wz_getI (v := (c : Int)) d68_18 rfl (hG.o (by decide) rfl) (by decide) (hc) ?_
    refine wz_iconst d68_21 ?_
    refine wz_iadd d68_22 ?_
    refine wz_putI (i := 6) d68_23 rfl (hG.o (by decide) rfl) rfl (by decide) rfl ?_
    refine wp_aload_n d68_26 rfl ?_
    refine wp_getR (q := 17) d68_27 rfl (hG.o (by decide) rfl) (by decide) (hG.r (by decide +kernel)) (by decide) ?_
    refine wp_iload_n d68_30 rfl ?_
    refine wp_iload_n d68_31 rfl ?_
    refine wz_iast (z := 60) d68_32 (hG.a (by decide) rfl rfl) (by omega) (by omega) (by decide) ?_
    refine wp_aload_n d68_33 rfl ?_
    refine wp_getR (q := 18) d68_34 rfl (hG.o (by decide) rfl) (by decide) (hG.r (by decide +kernel)) (by decide) ?_
    refine wp_iload_n d68_37 rfl ?_
    refine wp_iload_n d68_38 rfl ?_
    refine wz_iast (z := 60) d68_39 (hG.a (by decide) rfl rfl) (by omega) (by omega) (by decide) ?_
    refine wp_aload_n d68_40 rfl ?_
    refine wp_getR (q := 19) d68_41 rfl (hG.o (by decide) rfl) (by decide) (hG.r (by decide +kernel)) (by decide) ?_
    refine wp_iload_n d68_44 rfl ?_
    refine wz_iconst d68_45 ?_
    refine wz_iast (z := 60) d68_46 (hG.a (by decide) rfl rfl) (by omega) (by omega) (by decide) ?_
    refine wp_aload_n d68_47 rfl ?_
    refine wp_getR (q := 20) d68_48 rfl (hG.o (by decide) rfl) (by decide) (hG.r (by decide +kernel)) (by decide) ?_
    refine wp_iload_n d68_51 rfl ?_
    refine wz_iconst d68_52 ?_
    refine wz_iast (z := 60) d68_53 (hG.a (by decide) rfl rfl) (by omega) (by omega) (by decide) ?_
    refine wp_aload_n d68_54 rfl ?_
    refine wp_getR (q := 21) d68_55 rfl (hG.o (by decide) rfl) (by decide) (hG.r (by decide +kernel)) (by decide) ?_
    refine wp_iload_n d68_58 rfl ?_
    refine wz_iconst d68_59 ?_
    refine wz_iast (z := 60) d68_60 (hG.a (by decide) rfl rfl) (by omega) (by omega) (by decide) ?_
    refine wp_aload_n d68_61 rfl ?_
    refine wp_getR (q := 22) d68_62 rfl (hG.o (by decide) rfl) (by decide) (hG.r (by decide +kernel)) (by decide) ?_
    refine wp_iload_n d68_65 rfl ?_
    refine wz_iconst d68_66 ?_
    refine wz_iast (z := 60) d68_67 (hG.a (by decide) rfl rfl) (by omega) (by omega) (by decide) ?_
    refine wp_iload_n d68_68 rfl ?_
    rw [show (c : Int) + 1 = ((c + 1 : Nat) : Int) by omega]
    refine wp_ret d68_69 rfl (h _ (fun q i h1 h2 => ?_) (by simp [mset]) (by simp [mset]) (by simp [mset]) ?_)
    · unfold mset
      rw [if_neg (by omega), if_neg (by omega), if_neg (by omega), if_neg (by omega), if_neg (by omega), if_neg (by omega), if_neg (by omega)]
    · exact mset_R32 (mset_R32 (mset_R32 (mset_R32 (mset_R32 (mset_R32 (mset_R32 hM ⟨by omega, by omega⟩) rk) rp) ⟨by omega, by omega⟩) ⟨by omega, by omega⟩) ⟨by omega, by omega⟩) ⟨by omega, by omega⟩
  · skip
    refine wc_in (ls0 := [some (.ref 23), some (.int (zI k)), some (.int (zI p)), none]) (by decide) (Nat.le_of_ble_eq_true rfl) rfl rfl ?_
    refine wp_aload_n d68_0 rfl ?_
    refine wz_getI (v := (c : Int)) d68_1 rfl (hG.o (by decide) rfl) (by decide) (hc) ?_
    refine wz_bipush d68_4 (by decide) ?_
    refine wz_icmp_lt (t := 11) d68_6 (by decide) ⟨by omega, by omega⟩ ⟨by omega, by omega⟩ (fun _ => ?_) (fun hb => absurd (by omega) hb)
    refine wp_aload_n d68_11 rfl ?_
    refine wz_getI (v := (c : Int)) d68_12 rfl (hG.o (by decide) rfl) (by decide) (hc) ?_
    refine wp_istore_n d68_15 (Nat.le_of_ble_eq_true rfl) rfl ?_
    refine wp_aload_n d68_16 rfl ?_
    refine wp_dupr d68_17 ?_
    refine wz_getI (v := (c : Int)) d68_18 rfl (hG.o (by decide) rfl) (by decide) (hc) ?_
    refine wz_iconst d68_21 ?_
    refine wz_iadd d68_22 ?_
    refine wz_putI (i := 6) d68_23 rfl (hG.o (by decide) rfl) rfl (by decide) rfl ?_
    refine wp_aload_n d68_26 rfl ?_
    refine wp_getR (q := 24) d68_27 rfl (hG.o (by decide) rfl) (by decide) (hG.r (by decide +kernel)) (by decide) ?_
    refine wp_iload_n d68_30 rfl ?_
    refine wp_iload_n d68_31 rfl ?_
    refine wz_iast (z := 60) d68_32 (hG.a (by decide) rfl rfl) (by omega) (by omega) (by decide) ?_
    refine wp_aload_n d68_33 rfl ?_
    refine wp_getR (q := 25) d68_34 rfl (hG.o (by decide) rfl) (by decide) (hG.r (by decide +kernel)) (by decide) ?_
    refine wp_iload_n d68_37 rfl ?_
    refine wp_iload_n d68_38 rfl ?_
    refine wz_iast (z := 60) d68_39 (hG.a (by decide) rfl rfl) (by omega) (by omega) (by decide) ?_
    refine wp_aload_n d68_40 rfl ?_
    refine wp_getR (q := 26) d68_41 rfl (hG.o (by decide) rfl) (by decide) (hG.r (by decide +kernel)) (by decide) ?_
    refine wp_iload_n d68_44 rfl ?_
    refine wz_iconst d68_45 ?_
    refine wz_iast (z := 60) d68_46 (hG.a (by decide) rfl rfl) (by omega) (by omega) (by decide) ?_
    refine wp_aload_n d68_47 rfl ?_
    refine wp_getR (q := 27) d68_48 rfl (hG.o (by decide) rfl) (by decide) (hG.r (by decide +kernel)) (by decide) ?_
    refine wp_iload_n d68_51 rfl ?_
    refine wz_iconst d68_52 ?_
    refine wz_iast (z := 60) d68_53 (hG.a (by decide) rfl rfl) (by omega) (by omega) (by decide) ?_
    refine wp_aload_n d68_54 rfl ?_
    refine wp_getR (q := 28) d68_55 rfl (hG.o (by decide) rfl) (by decide) (hG.r (by decide +kernel)) (by decide) ?_
    refine wp_iload_n d68_58 rfl ?_
    refine wz_iconst d68_59 ?_
    refine wz_iast (z := 60) d68_60 (hG.a (by decide) rfl rfl) (by omega) (by omega) (by decide) ?_
    refine wp_aload_n d68_61 rfl ?_
    refine wp_getR (q := 29) d68_62 rfl (hG.o (by decide) rfl) (by decide) (hG.r (by decide +kernel)) (by decide) ?_
    refine wp_iload_n d68_65 rfl ?_
    refine wz_iconst d68_66 ?_
    refine wz_iast (z := 60) d68_67 (hG.a (by decide) rfl rfl) (by omega) (by omega) (by decide) ?_
    refine wp_iload_n d68_68 rfl ?_
    rw [show (c : Int) + 1 = ((c + 1 : Nat) : Int) by omega]
    refine wp_ret d68_69 rfl (h _ (fun q i h1 h2 => ?_) (by simp [mset]) (by simp [mset]) (by simp [mset]) ?_)
    · unfold mset
      rw [if_neg (by omega), if_neg (by omega), if_neg (by omega), if_neg (by omega), if_neg (by omega), if_neg (by omega), if_neg (by omega)]
    · exact mset_R32 (mset_R32 (mset_R32 (mset_R32 (mset_R32 (mset_R32 (mset_R32 hM ⟨by omega, by omega⟩) rk) rp) ⟨by omega, by omega⟩) ⟨by omega, by omega⟩) ⟨by omega, by omega⟩) ⟨by omega, by omega⟩
theorem c_tfill {X v : Nat} {m x y z : Int} (hX : X = 16 ∨ X = 23) (hG : pm_G Rf K L n) (hM : ∀ p i, R32 (M p i)) (hv : v < 60) (rm : R32 m) (rx : R32 x) (ry : R32 y) (rz : R32 z) (h : ∀ M' : pm_M, (∀ (q : Nat) (i : Int), ¬ (X + 3 ≤ q ∧ q ≤ X + 6 ∧ i = (v : Int)) → M' q i = M q i) → M' (X + 3) (v : Int) = m → M' (X + 4) (v : Int) = x → M' (X + 5) (v : Int) = y → M' (X + 6) (v : Int) = z → (∀ p i, R32 (M' p i)) → Q none (zM M', Rf, K, L, n, s)) : pm_Wc (d + 1) 69 [.ref X, .int (zI (v : Int)), .int (zI m), .int (zI x), .int (zI y), .int (zI z)] (zM M, Rf, K, L, n, s) Q := by
  rcases hX with rfl | rfl
  · skip
    refine wc_in (ls0 := [some (.ref 16), some (.int (zI (v : Int))), some (.int (zI m)), some (.int (zI x)), some (.int (zI y)), some (.int (zI z))]) (by decide) (Nat.le_of_ble_eq_true rfl) rfl rfl ?_
    refine wp_aload_n d69_0 rfl ?_
    refine wp_getR (q := 19) d69_1 rfl (hG.o (by decide) rfl) (by decide) (hG.r (by decide +kernel)) (by decide) ?_
    refine wp_iload_n d69_4 rfl ?_
    refine wp_iload_n d69_5 rfl ?_
    refine wz_iast (z := 60) d69_6 (hG.a (by decide) rfl rfl) (by omega) (by omega) (by decide) ?_
    refine wp_aload_n d69_7 rfl ?_
    refine wp_getR (q := 20) d69_8 rfl (hG.o (by decide) rfl) (by decide) (hG.r (by decide +kernel)) (by decide) ?_
    refine wp_iload_n d69_11 rfl ?_
    refine wp_iload_n d69_12 rfl ?_
    refine wz_iast (z := 60) d69_13 (hG.a (by decide) rfl rfl) (by omega) (by omega) (by decide) ?_
    refine wp_aload_n d69_14 rfl ?_
    refine wp_getR (q := 21) d69_15 rfl (hG.o (by decide) rfl) (by decide) (hG.r (by decide +kernel)) (by decide) ?_
    refine wp_iload_n d69_18 rfl ?_
    refine wp_iload d69_19 rfl ?_
    refine wz_iast (z := 60) d69_21 (hG.a (by decide) rfl rfl) (by omega) (by omega) (by decide) ?_
    refine wp_aload_n d69_22 rfl ?_
    refine wp_getR (q := 22) d69_23 rfl (hG.o (by decide) rfl) (by decide) (hG.r (by decide +kernel)) (by decide) ?_
    refine wp_iload_n d69_26 rfl ?_
    refine wp_iload d69_27 rfl ?_
    refine wz_iast (z := 60) d69_29 (hG.a (by decide) rfl rfl) (by omega) (by omega) (by decide) ?_
    refine wp_ret d69_30 rfl (h _ (fun q i h1 => ?_) (by simp [mset]) (by simp [mset]) (by simp [mset]) (by simp [mset]) ?_)
    · unfold mset
      rw [if_neg (by omega), if_neg (by omega), if_neg (by omega), if_neg (by omega)]
    · exact mset_R32 (mset_R32 (mset_R32 (mset_R32 hM rm) rx) ry) rz
  · skip
    refine wc_in (ls0 := [some (.ref 23), some (.int (zI (v : Int))), some (.int (zI m)), some (.int (zI x)), some (.int (zI y)), some (.int (zI z))]) (by decide) (Nat.le_of_ble_eq_true rfl) rfl rfl ?_
    refine wp_aload_n d69_0 rfl ?_
    refine wp_getR (q := 26) d69_1 rfl (hG.o (by decide) rfl) (by decide) (hG.r (by decide +kernel)) (by decide) ?_
    refine wp_iload_n d69_4 rfl ?_
    refine wp_iload_n d69_5 rfl ?_
    refine wz_iast (z := 60) d69_6 (hG.a (by decide) rfl rfl) (by omega) (by omega) (by decide) ?_
    refine wp_aload_n d69_7 rfl ?_
    refine wp_getR (q := 27) d69_8 rfl (hG.o (by decide) rfl) (by decide) (hG.r (by decide +kernel)) (by decide) ?_
    refine wp_iload_n d69_11 rfl ?_
    refine wp_iload_n d69_12 rfl ?_
    refine wz_iast (z := 60) d69_13 (hG.a (by decide) rfl rfl) (by omega) (by omega) (by decide) ?_
    refine wp_aload_n d69_14 rfl ?_
    refine wp_getR (q := 28) d69_15 rfl (hG.o (by decide) rfl) (by decide) (hG.r (by decide +kernel)) (by decide) ?_
    refine wp_iload_n d69_18 rfl ?_
    refine wp_iload d69_19 rfl ?_
    refine wz_iast (z := 60) d69_21 (hG.a (by decide) rfl rfl) (by omega) (by omega) (by decide) ?_
    refine wp_aload_n d69_22 rfl ?_
    refine wp_getR (q := 29) d69_23 rfl (hG.o (by decide) rfl) (by decide) (hG.r (by decide +kernel)) (by decide) ?_
    refine wp_iload_n d69_26 rfl ?_
    refine wp_iload d69_27 rfl ?_
    refine wz_iast (z := 60) d69_29 (hG.a (by decide) rfl rfl) (by omega) (by omega) (by decide) ?_
    refine wp_ret d69_30 rfl (h _ (fun q i h1 => ?_) (by simp [mset]) (by simp [mset]) (by simp [mset]) (by simp [mset]) ?_)
    · unfold mset
      rw [if_neg (by omega), if_neg (by omega), if_neg (by omega), if_neg (by omega)]
    · exact mset_R32 (mset_R32 (mset_R32 (mset_R32 hM rm) rx) ry) rz
end PmC33
/-- what stands at a part's place: nothing, a term, a type -/
def sk (k m g : Nat) : Nat := if k = 6 ∨ k = 8 then (if g = 0 then 2 else if g = 1 then 1 else 0) else if k = 7 ∨ k = 12 then (if g ≤ 1 then 1 else 0) else if k = 9 then (if g = 0 then 1 else if g = 1 then 2 else 0) else if k = 10 then (if bit m g = true then 1 else 0) else if k = 11 then (if g = 0 then 1 else 0) else 0
def nP (t : Ty) (g : Nat) : Ty := if g = 0 then nX t else if g = 1 then nY t else nZ t
/-- a node of the class's term stands for that term; P: a node stands for that type -/
def CNd (M : pm_M) (X : Nat) (lo cnt : Int) (P : Ty → Int → Prop) : Nat → Ty → Int → Prop
  | 0, _, _ => False
  | f + 1, t, v => (lo ≤ v ∧ v < cnt) ∧ M (X + 1) v = (nKd t : Int) - 5 ∧ 5 ≤ nKd t ∧ M (X + 2) v = (nPl t : Int) ∧ (nKd t ≠ 5 → M (X + 3) v = (nMk t : Int)) ∧ (nKd t = 5 → (0 ≤ M (X + 4) v ∧ M (X + 4) v < cnt) ∧ M (X + 2) (M (X + 4) v) = (nMk t : Int)) ∧ ∀ g, g < 3 → (sk (nKd t) (nMk t) g = 1 → CNd M X lo cnt P f (nP t g) (M (X + 4 + g) v)) ∧ (sk (nKd t) (nMk t) g = 2 → P (nP t g) (M (X + 4 + g) v))
theorem CNd.rng {M : pm_M} {X : Nat} {lo cnt : Int} {P : Ty → Int → Prop} {f : Nat} {t : Ty} {v : Int} (h : CNd M X lo cnt P f t v) : lo ≤ v ∧ v < cnt := by
  match f, h with
  | f + 1, h => exact h.1
theorem CNd.mono {M M' : pm_M} {X : Nat} {lo lo' cnt cnt' : Int} {P P' : Ty → Int → Prop} (e : ∀ q, X + 1 ≤ q → q ≤ X + 6 → ∀ i : Int, lo ≤ i → i < cnt → M' q i = M q i) (e2 : ∀ i : Int, 0 ≤ i → i < cnt → M' (X + 2) i = M (X + 2) i) (hc : cnt ≤ cnt') (hl : lo' ≤ lo) (hP : ∀ A i, P A i → P' A i) : ∀ {f f' : Nat} {t : Ty} {v : Int}, f ≤ f' → CNd M X lo cnt P f t v → CNd M' X lo' cnt' P' f' t v
  | 0, _, _, _, _, h => h.elim
  | f + 1, 0, _, _, h, _ => absurd h (by omega)
  | f + 1, f' + 1, t, v, hf, ⟨h1, h2, h3, h4, h5, h6, h7⟩ => by
    have ex : ∀ q, X + 1 ≤ q → q ≤ X + 6 → M' q v = M q v := fun q q1 q2 => e q q1 q2 v h1.1 h1.2
    refine ⟨⟨by omega, by omega⟩, (ex (X + 1) (by omega) (by omega)).trans h2, h3, (ex (X + 2) (by omega) (by omega)).trans h4, fun k => (ex (X + 3) (by omega) (by omega)).trans (h5 k), fun k => ?_, fun g hg => ⟨fun k => ?_, fun k => ?_⟩⟩
    · obtain ⟨a1, a2⟩ := h6 k
      rw [ex (X + 4) (by omega) (by omega)]
      exact ⟨⟨a1.1, by omega⟩, (e2 _ a1.1 a1.2).trans a2⟩
    · rw [ex (X + 4 + g) (by omega) (by omega)]
      exact CNd.mono e e2 hc hl hP (by omega) ((h7 g hg).1 k)
    · rw [ex (X + 4 + g) (by omega) (by omega)]
      exact hP _ _ ((h7 g hg).2 k)
theorem CNd.mk {M : pm_M} {X : Nat} {lo cnt : Int} {P : Ty → Int → Prop} {f p k m : Nat} {x y z : Ty} {v : Int} (hv : lo ≤ v ∧ v < cnt) (hk : 6 ≤ k) (h1 : M (X + 1) v = (k : Int) - 5) (h2 : M (X + 2) v = (p : Int)) (h3 : M (X + 3) v = (m : Int)) (h0 : (sk k m 0 = 1 → CNd M X lo cnt P f x (M (X + 4) v)) ∧ (sk k m 0 = 2 → P x (M (X + 4) v))) (h4 : (sk k m 1 = 1 → CNd M X lo cnt P f y (M (X + 5) v)) ∧ (sk k m 1 = 2 → P y (M (X + 5) v))) (h5 : (sk k m 2 = 1 → CNd M X lo cnt P f z (M (X + 6) v)) ∧ (sk k m 2 = 2 → P z (M (X + 6) v))) : CNd M X lo cnt P (f + 1) (mN p k m x y z) v := by
  refine ⟨hv, h1, by show 5 ≤ k; omega, h2, fun _ => h3, fun e => absurd (show k = 5 from e) (by omega), fun g hg => ?_⟩
  rcases (show g = 0 ∨ g = 1 ∨ g = 2 by omega) with rfl | rfl | rfl
  · exact h0
  · exact h4
  · exact h5
theorem CNd.mkv {M : pm_M} {X : Nat} {lo cnt : Int} {P : Ty → Int → Prop} {f p m : Nat} {v : Int} (hv : lo ≤ v ∧ v < cnt) (h1 : M (X + 1) v = 0) (h2 : M (X + 2) v = (p : Int)) (h3 : (0 ≤ M (X + 4) v ∧ M (X + 4) v < cnt) ∧ M (X + 2) (M (X + 4) v) = (m : Int)) : CNd M X lo cnt P (f + 1) (mN p 5 m .nil .nil .nil) v := by
  refine ⟨hv, h1, Nat.le_refl _, h2, fun e => absurd rfl e, fun _ => h3, fun g hg => ?_⟩
  rcases (show g = 0 ∨ g = 1 ∨ g = 2 by omega) with rfl | rfl | rfl
  · exact ⟨fun k => absurd (show (0 : Nat) = 1 from k) (by decide), fun k => absurd (show (0 : Nat) = 2 from k) (by decide)⟩
  · exact ⟨fun k => absurd (show (0 : Nat) = 1 from k) (by decide), fun k => absurd (show (0 : Nat) = 2 from k) (by decide)⟩
  · exact ⟨fun k => absurd (show (0 : Nat) = 1 from k) (by decide), fun k => absurd (show (0 : Nat) = 2 from k) (by decide)⟩
