/-! RULES, one an instruction. -/
/-- a place holds an object of class c; an array of that kind and length -/
def pm_At (K : Nat → Nat) (n p c : Nat) : Prop := 1 ≤ p ∧ p ≤ n ∧ K p = 10 + c
def pm_Ar (K L : Nat → Nat) (n p k z : Nat) : Prop := 1 ≤ p ∧ p ≤ n ∧ K p = k ∧ L p = z
theorem pm_tok_of {pc t : Nat} {off : Int} (h : (pc : Int) + off = (t : Int)) : pm_tok pc off = true ∧ pm_tgt pc off = t := by
  unfold pm_tok pm_tgt
  rw [h]
  exact ⟨decide_eq_true (Int.natCast_nonneg t), Int.toNat_natCast t⟩
theorem pm_inb_iff {j : Int32} {z : Nat} : pm_inb j z = true ↔ vp_in j z := by
  unfold pm_inb vp_in
  rw [Bool.and_eq_true, decide_eq_true_eq, decide_eq_true_eq, not_or, Nat.not_le]
section PmR2
variable {X : pm_X} {d mi pc : Nat} {ls : pm_L} {st : List Value} {σ : pm_S} {Q : Option Value → pm_S → Prop} {I : Nat → Nat → Int32} {Rf : Nat → Nat → Nat} {K L : Nat → Nat} {n s : Nat}
theorem wp_iconst {k : Int} {v : Int32} (hd : decode (pm_code mi) pc = .ok (.iconst k, 1)) (hv : Int32.ofInt k = v) (h : pm_Wp X d mi (pc + 1) ls (.int v :: st) σ Q) : pm_Wp X d mi pc ls st σ Q := by subst hv; exact wp_step hd rfl rfl rfl h
theorem wp_bipush {k : Int} {v : Int32} (hd : decode (pm_code mi) pc = .ok (.bipush k, 2)) (hv : (Int8.ofInt k).toInt32 = v) (h : pm_Wp X d mi (pc + 2) ls (.int v :: st) σ Q) : pm_Wp X d mi pc ls st σ Q := by subst hv; exact wp_step hd rfl rfl rfl h
theorem wp_sipush {k : Int} {v : Int32} (hd : decode (pm_code mi) pc = .ok (.sipush k, 3)) (hv : (Int16.ofInt k).toInt32 = v) (h : pm_Wp X d mi (pc + 3) ls (.int v :: st) σ Q) : pm_Wp X d mi pc ls st σ Q := by subst hv; exact wp_step hd rfl rfl rfl h
theorem wp_ldc {k : Nat} {v : Int32} (hd : decode (pm_code mi) pc = .ok (.ldc k, 2)) (hv : pm_ldc (pm_ow mi) k = some v) (h : pm_Wp X d mi (pc + 2) ls (.int v :: st) σ Q) : pm_Wp X d mi pc ls st σ Q := wp_step hd rfl rfl (by simp [pm_step, pm_jmp, pm_len, pm_rd, hv]) h
theorem wp_iload_n {k : Fin 4} {x : Int32} (hd : decode (pm_code mi) pc = .ok (.iload_n k, 1)) (hv : pm_ld ls k.val = some (.int x)) (h : pm_Wp X d mi (pc + 1) ls (.int x :: st) σ Q) : pm_Wp X d mi pc ls st σ Q := wp_step hd rfl rfl (by simp [pm_step, pm_jmp, pm_len, pm_rd, hv]) h
theorem wp_iload {k : Nat} {x : Int32} (hd : decode (pm_code mi) pc = .ok (.iload k, 2)) (hv : pm_ld ls k = some (.int x)) (h : pm_Wp X d mi (pc + 2) ls (.int x :: st) σ Q) : pm_Wp X d mi pc ls st σ Q := wp_step hd rfl rfl (by simp [pm_step, pm_jmp, pm_len, pm_rd, hv]) h
theorem wp_aload_n {k : Fin 4} {x : Nat} (hd : decode (pm_code mi) pc = .ok (.aload_n k, 1)) (hv : pm_ld ls k.val = some (.ref x)) (h : pm_Wp X d mi (pc + 1) ls (.ref x :: st) σ Q) : pm_Wp X d mi pc ls st σ Q := wp_step hd rfl rfl (by simp [pm_step, pm_jmp, pm_len, pm_rd, hv]) h
theorem wp_aload {k : Nat} {x : Nat} (hd : decode (pm_code mi) pc = .ok (.aload k, 2)) (hv : pm_ld ls k = some (.ref x)) (h : pm_Wp X d mi (pc + 2) ls (.ref x :: st) σ Q) : pm_Wp X d mi pc ls st σ Q := wp_step hd rfl rfl (by simp [pm_step, pm_jmp, pm_len, pm_rd, hv]) h
theorem wp_istore_n {k : Fin 4} {x : Int32} {ls' : pm_L} (hd : decode (pm_code mi) pc = .ok (.istore_n k, 1)) (hk : k.val < ls.length) (hs : ls.set k.val (some (.int x)) = ls') (h : pm_Wp X d mi (pc + 1) ls' st σ Q) : pm_Wp X d mi pc ls (.int x :: st) σ Q := by
  subst hs
  exact wp_step hd rfl rfl (by simp [pm_step, pm_jmp, pm_len, pm_rd, pm_loc, hk]) h
theorem wp_astore_n {k : Fin 4} {x : Nat} {ls' : pm_L} (hd : decode (pm_code mi) pc = .ok (.astore_n k, 1)) (hk : k.val < ls.length) (hs : ls.set k.val (some (.ref x)) = ls') (h : pm_Wp X d mi (pc + 1) ls' st σ Q) : pm_Wp X d mi pc ls (.ref x :: st) σ Q := by
  subst hs
  exact wp_step hd rfl rfl (by simp [pm_step, pm_jmp, pm_len, pm_rd, pm_loc, hk]) h
theorem wp_istore {k : Nat} {x : Int32} {ls' : pm_L} (hd : decode (pm_code mi) pc = .ok (.istore k, 2)) (hk : k < ls.length) (hs : ls.set k (some (.int x)) = ls') (h : pm_Wp X d mi (pc + 2) ls' st σ Q) : pm_Wp X d mi pc ls (.int x :: st) σ Q := by
  subst hs
  exact wp_step hd rfl rfl (by simp [pm_step, pm_jmp, pm_len, pm_rd, pm_loc, hk]) h
theorem wp_astore {k : Nat} {x : Nat} {ls' : pm_L} (hd : decode (pm_code mi) pc = .ok (.astore k, 2)) (hk : k < ls.length) (hs : ls.set k (some (.ref x)) = ls') (h : pm_Wp X d mi (pc + 2) ls' st σ Q) : pm_Wp X d mi pc ls (.ref x :: st) σ Q := by
  subst hs
  exact wp_step hd rfl rfl (by simp [pm_step, pm_jmp, pm_len, pm_rd, pm_loc, hk]) h
theorem wp_iinc {k : Nat} {z : Int} {x v : Int32} {ls' : pm_L} (hd : decode (pm_code mi) pc = .ok (.iinc k z, 3)) (hv : pm_ld ls k = some (.int x)) (hz : x + Int32.ofInt z = v) (hs : ls.set k (some (.int v)) = ls') (h : pm_Wp X d mi (pc + 3) ls' st σ Q) : pm_Wp X d mi pc ls st σ Q := by
  subst hs; subst hz
  exact wp_step hd rfl rfl (by simp [pm_step, pm_jmp, pm_len, pm_rd, pm_loc, hv, pm_ld_lt hv]) h
theorem wp_iadd {x y : Int32} (hd : decode (pm_code mi) pc = .ok (.iadd, 1)) (h : pm_Wp X d mi (pc + 1) ls (.int (x + y) :: st) σ Q) : pm_Wp X d mi pc ls (.int y :: .int x :: st) σ Q := wp_step hd rfl rfl rfl h
theorem wp_isub {x y : Int32} (hd : decode (pm_code mi) pc = .ok (.isub, 1)) (h : pm_Wp X d mi (pc + 1) ls (.int (x - y) :: st) σ Q) : pm_Wp X d mi pc ls (.int y :: .int x :: st) σ Q := wp_step hd rfl rfl rfl h
theorem wp_imul {x y : Int32} (hd : decode (pm_code mi) pc = .ok (.imul, 1)) (h : pm_Wp X d mi (pc + 1) ls (.int (x * y) :: st) σ Q) : pm_Wp X d mi pc ls (.int y :: .int x :: st) σ Q := wp_step hd rfl rfl rfl h
theorem wp_iand {x y : Int32} (hd : decode (pm_code mi) pc = .ok (.iand, 1)) (h : pm_Wp X d mi (pc + 1) ls (.int (x &&& y) :: st) σ Q) : pm_Wp X d mi pc ls (.int y :: .int x :: st) σ Q := wp_step hd rfl rfl rfl h
theorem wp_ior {x y : Int32} (hd : decode (pm_code mi) pc = .ok (.ior, 1)) (h : pm_Wp X d mi (pc + 1) ls (.int (x ||| y) :: st) σ Q) : pm_Wp X d mi pc ls (.int y :: .int x :: st) σ Q := wp_step hd rfl rfl rfl h
theorem wp_ixor {x y : Int32} (hd : decode (pm_code mi) pc = .ok (.ixor, 1)) (h : pm_Wp X d mi (pc + 1) ls (.int (x ^^^ y) :: st) σ Q) : pm_Wp X d mi pc ls (.int y :: .int x :: st) σ Q := wp_step hd rfl rfl rfl h
theorem wp_ishl {x y : Int32} (hd : decode (pm_code mi) pc = .ok (.ishl, 1)) (h : pm_Wp X d mi (pc + 1) ls (.int (x <<< (y &&& 31)) :: st) σ Q) : pm_Wp X d mi pc ls (.int y :: .int x :: st) σ Q := wp_step hd rfl rfl rfl h
theorem wp_ishr {x y : Int32} (hd : decode (pm_code mi) pc = .ok (.ishr, 1)) (h : pm_Wp X d mi (pc + 1) ls (.int (x >>> (y &&& 31)) :: st) σ Q) : pm_Wp X d mi pc ls (.int y :: .int x :: st) σ Q := wp_step hd rfl rfl rfl h
theorem wp_iushr {x y : Int32} (hd : decode (pm_code mi) pc = .ok (.iushr, 1)) (h : pm_Wp X d mi (pc + 1) ls (.int ((x.toUInt32 >>> (y.toUInt32 &&& Int32.toUInt32 31)).toInt32) :: st) σ Q) : pm_Wp X d mi pc ls (.int y :: .int x :: st) σ Q := wp_step hd rfl rfl rfl h
theorem wp_idiv {x y : Int32} (hd : decode (pm_code mi) pc = .ok (.idiv, 1)) (hy : ¬ y = 0) (h : pm_Wp X d mi (pc + 1) ls (.int (x / y) :: st) σ Q) : pm_Wp X d mi pc ls (.int y :: .int x :: st) σ Q := wp_step hd rfl rfl (by simp [pm_step, pm_jmp, pm_len, pm_rd, pm_loc, pm_wr, pm_mk, pm_jdk, pm_stk, pm_bin, hy]) h
theorem wp_irem {x y : Int32} (hd : decode (pm_code mi) pc = .ok (.irem, 1)) (hy : ¬ y = 0) (h : pm_Wp X d mi (pc + 1) ls (.int (x - x / y * y) :: st) σ Q) : pm_Wp X d mi pc ls (.int y :: .int x :: st) σ Q := wp_step hd rfl rfl (by simp [pm_step, pm_jmp, pm_len, pm_rd, pm_loc, pm_wr, pm_mk, pm_jdk, pm_stk, pm_bin, hy]) h
theorem wp_ineg {x : Int32} (hd : decode (pm_code mi) pc = .ok (.ineg, 1)) (h : pm_Wp X d mi (pc + 1) ls (.int (-x) :: st) σ Q) : pm_Wp X d mi pc ls (.int x :: st) σ Q := wp_step hd rfl rfl rfl h
theorem wp_i2c {x : Int32} (hd : decode (pm_code mi) pc = .ok (.i2c, 1)) (h : pm_Wp X d mi (pc + 1) ls (.int ((x.toUInt32 % 65536).toInt32) :: st) σ Q) : pm_Wp X d mi pc ls (.int x :: st) σ Q := wp_step hd rfl rfl rfl h
theorem wp_dupi {x : Int32} (hd : decode (pm_code mi) pc = .ok (.dup, 1)) (h : pm_Wp X d mi (pc + 1) ls (.int x :: .int x :: st) σ Q) : pm_Wp X d mi pc ls (.int x :: st) σ Q := wp_step hd rfl rfl rfl h
theorem wp_dupr {x : Nat} (hd : decode (pm_code mi) pc = .ok (.dup, 1)) (h : pm_Wp X d mi (pc + 1) ls (.ref x :: .ref x :: st) σ Q) : pm_Wp X d mi pc ls (.ref x :: st) σ Q := wp_step hd rfl rfl rfl h
theorem wp_popi {x : Int32} (hd : decode (pm_code mi) pc = .ok (.pop, 1)) (h : pm_Wp X d mi (pc + 1) ls st σ Q) : pm_Wp X d mi pc ls (.int x :: st) σ Q := wp_step hd rfl rfl rfl h
theorem wp_popr {x : Nat} (hd : decode (pm_code mi) pc = .ok (.pop, 1)) (h : pm_Wp X d mi (pc + 1) ls st σ Q) : pm_Wp X d mi pc ls (.ref x :: st) σ Q := wp_step hd rfl rfl rfl h
theorem wp_dup_x1i {x : Int32} {y : Nat} (hd : decode (pm_code mi) pc = .ok (.dup_x1, 1)) (h : pm_Wp X d mi (pc + 1) ls (.int x :: .ref y :: .int x :: st) σ Q) : pm_Wp X d mi pc ls (.int x :: .ref y :: st) σ Q := wp_step hd rfl rfl rfl h
theorem wp_dup_x2i {x j : Int32} {y : Nat} (hd : decode (pm_code mi) pc = .ok (.dup_x2, 1)) (h : pm_Wp X d mi (pc + 1) ls (.int x :: .int j :: .ref y :: .int x :: st) σ Q) : pm_Wp X d mi pc ls (.int x :: .int j :: .ref y :: st) σ Q := wp_step hd rfl rfl rfl h
theorem wp_dup2 {j : Int32} {y : Nat} (hd : decode (pm_code mi) pc = .ok (.dup2, 1)) (h : pm_Wp X d mi (pc + 1) ls (.int j :: .ref y :: .int j :: .ref y :: st) σ Q) : pm_Wp X d mi pc ls (.int j :: .ref y :: st) σ Q := wp_step hd rfl rfl rfl h
theorem wp_goto {off : Int} {t : Nat} (hd : decode (pm_code mi) pc = .ok (.goto off, 3)) (ht : (pc : Int) + off = (t : Int)) (h : pm_Wp X d mi t ls st σ Q) : pm_Wp X d mi pc ls st σ Q :=
  wp_step hd rfl rfl (by simp [pm_step, pm_jmp, (pm_tok_of ht).1, (pm_tok_of ht).2]) h
theorem wp_if_eq {x : Int32} {off : Int} {t : Nat} (hd : decode (pm_code mi) pc = .ok (.ifCond .eq off, 3)) (ht : (pc : Int) + off = (t : Int)) (kt : x = 0 → pm_Wp X d mi t ls st σ Q) (kf : ¬ x = 0 → pm_Wp X d mi (pc + 3) ls st σ Q) : pm_Wp X d mi pc ls (.int x :: st) σ Q := by
  by_cases hc : x = x ∧ (x = 0)
  · have hc := hc.2
    exact wp_step hd rfl rfl (by simp [pm_step, pm_jmp, pm_cmp, hc, (pm_tok_of ht).1, (pm_tok_of ht).2]) (kt hc)
  · have hc : ¬ (x = 0) := fun q => hc ⟨rfl, q⟩
    exact wp_step (pc' := pc + 3) hd rfl rfl (by simp [pm_step, pm_jmp, pm_cmp, hc, (pm_tok_of ht).1, (pm_tok_of ht).2]) (kf (by first | exact hc | exact Classical.not_not.mp hc))
theorem wp_icmp_eq {x y : Int32} {off : Int} {t : Nat} (hd : decode (pm_code mi) pc = .ok (.if_icmp .eq off, 3)) (ht : (pc : Int) + off = (t : Int)) (kt : x = y → pm_Wp X d mi t ls st σ Q) (kf : ¬ x = y → pm_Wp X d mi (pc + 3) ls st σ Q) : pm_Wp X d mi pc ls (.int y :: .int x :: st) σ Q := by
  by_cases hc : x = x ∧ (x = y)
  · have hc := hc.2
    exact wp_step hd rfl rfl (by simp [pm_step, pm_jmp, pm_cmp, hc, (pm_tok_of ht).1, (pm_tok_of ht).2]) (kt hc)
  · have hc : ¬ (x = y) := fun q => hc ⟨rfl, q⟩
    exact wp_step (pc' := pc + 3) hd rfl rfl (by simp [pm_step, pm_jmp, pm_cmp, hc, (pm_tok_of ht).1, (pm_tok_of ht).2]) (kf (by first | exact hc | exact Classical.not_not.mp hc))
theorem wp_if_ne {x : Int32} {off : Int} {t : Nat} (hd : decode (pm_code mi) pc = .ok (.ifCond .ne off, 3)) (ht : (pc : Int) + off = (t : Int)) (kt : ¬ x = 0 → pm_Wp X d mi t ls st σ Q) (kf : x = 0 → pm_Wp X d mi (pc + 3) ls st σ Q) : pm_Wp X d mi pc ls (.int x :: st) σ Q := by
  by_cases hc : x = x ∧ (¬ x = 0)
  · have hc := hc.2
    exact wp_step hd rfl rfl (by simp [pm_step, pm_jmp, pm_cmp, hc, (pm_tok_of ht).1, (pm_tok_of ht).2]) (kt hc)
  · have hc : ¬ (¬ x = 0) := fun q => hc ⟨rfl, q⟩
    exact wp_step (pc' := pc + 3) hd rfl rfl (by simp [pm_step, pm_jmp, pm_cmp, hc, (pm_tok_of ht).1, (pm_tok_of ht).2]) (kf (by first | exact hc | exact Classical.not_not.mp hc))
theorem wp_icmp_ne {x y : Int32} {off : Int} {t : Nat} (hd : decode (pm_code mi) pc = .ok (.if_icmp .ne off, 3)) (ht : (pc : Int) + off = (t : Int)) (kt : ¬ x = y → pm_Wp X d mi t ls st σ Q) (kf : x = y → pm_Wp X d mi (pc + 3) ls st σ Q) : pm_Wp X d mi pc ls (.int y :: .int x :: st) σ Q := by
  by_cases hc : x = x ∧ (¬ x = y)
  · have hc := hc.2
    exact wp_step hd rfl rfl (by simp [pm_step, pm_jmp, pm_cmp, hc, (pm_tok_of ht).1, (pm_tok_of ht).2]) (kt hc)
  · have hc : ¬ (¬ x = y) := fun q => hc ⟨rfl, q⟩
    exact wp_step (pc' := pc + 3) hd rfl rfl (by simp [pm_step, pm_jmp, pm_cmp, hc, (pm_tok_of ht).1, (pm_tok_of ht).2]) (kf (by first | exact hc | exact Classical.not_not.mp hc))
theorem wp_if_lt {x : Int32} {off : Int} {t : Nat} (hd : decode (pm_code mi) pc = .ok (.ifCond .lt off, 3)) (ht : (pc : Int) + off = (t : Int)) (kt : x < 0 → pm_Wp X d mi t ls st σ Q) (kf : ¬ x < 0 → pm_Wp X d mi (pc + 3) ls st σ Q) : pm_Wp X d mi pc ls (.int x :: st) σ Q := by
  by_cases hc : x = x ∧ (x < 0)
  · have hc := hc.2
    exact wp_step hd rfl rfl (by simp [pm_step, pm_jmp, pm_cmp, hc, (pm_tok_of ht).1, (pm_tok_of ht).2]) (kt hc)
  · have hc : ¬ (x < 0) := fun q => hc ⟨rfl, q⟩
    exact wp_step (pc' := pc + 3) hd rfl rfl (by simp [pm_step, pm_jmp, pm_cmp, hc, (pm_tok_of ht).1, (pm_tok_of ht).2]) (kf (by first | exact hc | exact Classical.not_not.mp hc))
theorem wp_icmp_lt {x y : Int32} {off : Int} {t : Nat} (hd : decode (pm_code mi) pc = .ok (.if_icmp .lt off, 3)) (ht : (pc : Int) + off = (t : Int)) (kt : x < y → pm_Wp X d mi t ls st σ Q) (kf : ¬ x < y → pm_Wp X d mi (pc + 3) ls st σ Q) : pm_Wp X d mi pc ls (.int y :: .int x :: st) σ Q := by
  by_cases hc : x = x ∧ (x < y)
  · have hc := hc.2
    exact wp_step hd rfl rfl (by simp [pm_step, pm_jmp, pm_cmp, hc, (pm_tok_of ht).1, (pm_tok_of ht).2]) (kt hc)
  · have hc : ¬ (x < y) := fun q => hc ⟨rfl, q⟩
    exact wp_step (pc' := pc + 3) hd rfl rfl (by simp [pm_step, pm_jmp, pm_cmp, hc, (pm_tok_of ht).1, (pm_tok_of ht).2]) (kf (by first | exact hc | exact Classical.not_not.mp hc))
theorem wp_if_ge {x : Int32} {off : Int} {t : Nat} (hd : decode (pm_code mi) pc = .ok (.ifCond .ge off, 3)) (ht : (pc : Int) + off = (t : Int)) (kt : 0 ≤ x → pm_Wp X d mi t ls st σ Q) (kf : ¬ 0 ≤ x → pm_Wp X d mi (pc + 3) ls st σ Q) : pm_Wp X d mi pc ls (.int x :: st) σ Q := by
  by_cases hc : x = x ∧ (0 ≤ x)
  · have hc := hc.2
    exact wp_step hd rfl rfl (by simp [pm_step, pm_jmp, pm_cmp, hc, (pm_tok_of ht).1, (pm_tok_of ht).2]) (kt hc)
  · have hc : ¬ (0 ≤ x) := fun q => hc ⟨rfl, q⟩
    exact wp_step (pc' := pc + 3) hd rfl rfl (by simp [pm_step, pm_jmp, pm_cmp, hc, (pm_tok_of ht).1, (pm_tok_of ht).2]) (kf (by first | exact hc | exact Classical.not_not.mp hc))
theorem wp_icmp_ge {x y : Int32} {off : Int} {t : Nat} (hd : decode (pm_code mi) pc = .ok (.if_icmp .ge off, 3)) (ht : (pc : Int) + off = (t : Int)) (kt : y ≤ x → pm_Wp X d mi t ls st σ Q) (kf : ¬ y ≤ x → pm_Wp X d mi (pc + 3) ls st σ Q) : pm_Wp X d mi pc ls (.int y :: .int x :: st) σ Q := by
  by_cases hc : x = x ∧ (y ≤ x)
  · have hc := hc.2
    exact wp_step hd rfl rfl (by simp [pm_step, pm_jmp, pm_cmp, hc, (pm_tok_of ht).1, (pm_tok_of ht).2]) (kt hc)
  · have hc : ¬ (y ≤ x) := fun q => hc ⟨rfl, q⟩
    exact wp_step (pc' := pc + 3) hd rfl rfl (by simp [pm_step, pm_jmp, pm_cmp, hc, (pm_tok_of ht).1, (pm_tok_of ht).2]) (kf (by first | exact hc | exact Classical.not_not.mp hc))
theorem wp_if_gt {x : Int32} {off : Int} {t : Nat} (hd : decode (pm_code mi) pc = .ok (.ifCond .gt off, 3)) (ht : (pc : Int) + off = (t : Int)) (kt : 0 < x → pm_Wp X d mi t ls st σ Q) (kf : ¬ 0 < x → pm_Wp X d mi (pc + 3) ls st σ Q) : pm_Wp X d mi pc ls (.int x :: st) σ Q := by
  by_cases hc : x = x ∧ (0 < x)
  · have hc := hc.2
    exact wp_step hd rfl rfl (by simp [pm_step, pm_jmp, pm_cmp, hc, (pm_tok_of ht).1, (pm_tok_of ht).2]) (kt hc)
  · have hc : ¬ (0 < x) := fun q => hc ⟨rfl, q⟩
    exact wp_step (pc' := pc + 3) hd rfl rfl (by simp [pm_step, pm_jmp, pm_cmp, hc, (pm_tok_of ht).1, (pm_tok_of ht).2]) (kf (by first | exact hc | exact Classical.not_not.mp hc))
theorem wp_icmp_gt {x y : Int32} {off : Int} {t : Nat} (hd : decode (pm_code mi) pc = .ok (.if_icmp .gt off, 3)) (ht : (pc : Int) + off = (t : Int)) (kt : y < x → pm_Wp X d mi t ls st σ Q) (kf : ¬ y < x → pm_Wp X d mi (pc + 3) ls st σ Q) : pm_Wp X d mi pc ls (.int y :: .int x :: st) σ Q := by
  by_cases hc : x = x ∧ (y < x)
  · have hc := hc.2
    exact wp_step hd rfl rfl (by simp [pm_step, pm_jmp, pm_cmp, hc, (pm_tok_of ht).1, (pm_tok_of ht).2]) (kt hc)
  · have hc : ¬ (y < x) := fun q => hc ⟨rfl, q⟩
    exact wp_step (pc' := pc + 3) hd rfl rfl (by simp [pm_step, pm_jmp, pm_cmp, hc, (pm_tok_of ht).1, (pm_tok_of ht).2]) (kf (by first | exact hc | exact Classical.not_not.mp hc))
theorem wp_if_le {x : Int32} {off : Int} {t : Nat} (hd : decode (pm_code mi) pc = .ok (.ifCond .le off, 3)) (ht : (pc : Int) + off = (t : Int)) (kt : x ≤ 0 → pm_Wp X d mi t ls st σ Q) (kf : ¬ x ≤ 0 → pm_Wp X d mi (pc + 3) ls st σ Q) : pm_Wp X d mi pc ls (.int x :: st) σ Q := by
  by_cases hc : x = x ∧ (x ≤ 0)
  · have hc := hc.2
    exact wp_step hd rfl rfl (by simp [pm_step, pm_jmp, pm_cmp, hc, (pm_tok_of ht).1, (pm_tok_of ht).2]) (kt hc)
  · have hc : ¬ (x ≤ 0) := fun q => hc ⟨rfl, q⟩
    exact wp_step (pc' := pc + 3) hd rfl rfl (by simp [pm_step, pm_jmp, pm_cmp, hc, (pm_tok_of ht).1, (pm_tok_of ht).2]) (kf (by first | exact hc | exact Classical.not_not.mp hc))
theorem wp_icmp_le {x y : Int32} {off : Int} {t : Nat} (hd : decode (pm_code mi) pc = .ok (.if_icmp .le off, 3)) (ht : (pc : Int) + off = (t : Int)) (kt : x ≤ y → pm_Wp X d mi t ls st σ Q) (kf : ¬ x ≤ y → pm_Wp X d mi (pc + 3) ls st σ Q) : pm_Wp X d mi pc ls (.int y :: .int x :: st) σ Q := by
  by_cases hc : x = x ∧ (x ≤ y)
  · have hc := hc.2
    exact wp_step hd rfl rfl (by simp [pm_step, pm_jmp, pm_cmp, hc, (pm_tok_of ht).1, (pm_tok_of ht).2]) (kt hc)
  · have hc : ¬ (x ≤ y) := fun q => hc ⟨rfl, q⟩
    exact wp_step (pc' := pc + 3) hd rfl rfl (by simp [pm_step, pm_jmp, pm_cmp, hc, (pm_tok_of ht).1, (pm_tok_of ht).2]) (kf (by first | exact hc | exact Classical.not_not.mp hc))
theorem wp_table {x : Int32} {dflt lo hi : Int} {offs : Array Int} {len t : Nat} (hd : decode (pm_code mi) pc = .ok (.tableswitch dflt lo hi offs, len)) (hj : pm_jmp pc len (.tableswitch dflt lo hi offs) (.int x :: st) = some (t, st)) (h : pm_Wp X d mi t ls st σ Q) : pm_Wp X d mi pc ls (.int x :: st) σ Q :=
  wp_step hd rfl rfl (by simp [pm_step, hj]) h
theorem wp_lookup {x : Int32} {dflt : Int} {ps : Array (Int × Int)} {len t : Nat} (hd : decode (pm_code mi) pc = .ok (.lookupswitch dflt ps, len)) (hj : pm_jmp pc len (.lookupswitch dflt ps) (.int x :: st) = some (t, st)) (h : pm_Wp X d mi t ls st σ Q) : pm_Wp X d mi pc ls (.int x :: st) σ Q :=
  wp_step hd rfl rfl (by simp [pm_step, hj]) h
theorem wp_getI {k c f p : Nat} (hd : decode (pm_code mi) pc = .ok (.getfield k, 3)) (hf : pm_fld (pm_ow mi) k = some (c, f)) (ha : pm_At K n p c) (hk : pm_fk c f ≠ 3) (h : pm_Wp X d mi (pc + 3) ls (.int (I p f) :: st) (I, Rf, K, L, n, s) Q) : pm_Wp X d mi pc ls (.ref p :: st) (I, Rf, K, L, n, s) Q := by
  obtain ⟨a1, a2, a3⟩ := ha
  exact wp_step hd rfl rfl (by simp [pm_step, pm_jmp, pm_len, pm_rd, hf, hk, a1, a2, a3]) h
theorem wp_getIv {k c f p : Nat} {v : Int32} (hd : decode (pm_code mi) pc = .ok (.getfield k, 3)) (hf : pm_fld (pm_ow mi) k = some (c, f)) (ha : pm_At K n p c) (hk : pm_fk c f ≠ 3) (hv : I p f = v) (h : pm_Wp X d mi (pc + 3) ls (.int v :: st) (I, Rf, K, L, n, s) Q) : pm_Wp X d mi pc ls (.ref p :: st) (I, Rf, K, L, n, s) Q := by subst hv; exact wp_getI hd hf ha hk h
theorem wp_getR {k c f p q : Nat} (hd : decode (pm_code mi) pc = .ok (.getfield k, 3)) (hf : pm_fld (pm_ow mi) k = some (c, f)) (ha : pm_At K n p c) (hk : pm_fk c f = 3) (hq : Rf p f = q) (hq1 : 1 ≤ q) (h : pm_Wp X d mi (pc + 3) ls (.ref q :: st) (I, Rf, K, L, n, s) Q) : pm_Wp X d mi pc ls (.ref p :: st) (I, Rf, K, L, n, s) Q := by
  obtain ⟨a1, a2, a3⟩ := ha
  exact wp_step hd rfl rfl (by simp [pm_step, pm_jmp, pm_len, pm_rd, pm_rv, hf, hk, a1, a2, a3, hq, Nat.ne_of_gt hq1]) h
theorem wp_putI {k c f p : Nat} {x : Int32} (hd : decode (pm_code mi) pc = .ok (.putfield k, 3)) (hf : pm_fld (pm_ow mi) k = some (c, f)) (ha : pm_At K n p c) (hx : pm_fi (pm_fk c f) x = true) (hn : (!pm_fin c f || (decide (pm_kd mi = 2) && pm_own (pm_ow mi) c)) = true) (h : pm_Wp X d mi (pc + 3) ls st (pm_u I p (upd (I p) f x), Rf, K, L, n, s) Q) : pm_Wp X d mi pc ls (.int x :: .ref p :: st) (I, Rf, K, L, n, s) Q := by
  obtain ⟨a1, a2, a3⟩ := ha
  exact wp_step hd rfl rfl (by simp only [pm_step, pm_jmp, pm_len, pm_rd, pm_loc, pm_wr, hf, a1, a2, a3, hx, hn]; simp) h
theorem wp_putR {k c f p x : Nat} (hd : decode (pm_code mi) pc = .ok (.putfield k, 3)) (hf : pm_fld (pm_ow mi) k = some (c, f)) (ha : pm_At K n p c) (hx : 1 ≤ x) (hk : pm_fk c f = 3) (hn : (!pm_fin c f || (decide (pm_kd mi = 2) && pm_own (pm_ow mi) c)) = true) (h : pm_Wp X d mi (pc + 3) ls st (I, pm_u Rf p (pm_u (Rf p) f x), K, L, n, s) Q) : pm_Wp X d mi pc ls (.ref x :: .ref p :: st) (I, Rf, K, L, n, s) Q := by
  obtain ⟨a1, a2, a3⟩ := ha
  exact wp_step hd rfl rfl (by simp only [pm_step, pm_jmp, pm_len, pm_rd, pm_loc, pm_wr, hf, a1, a2, a3, hx, hk, hn]; simp) h
theorem wp_iald {p z : Nat} {j : Int32} (hd : decode (pm_code mi) pc = .ok (.iaload, 1)) (ha : pm_Ar K L n p 0 z) (hj : vp_in j z) (h : pm_Wp X d mi (pc + 1) ls (.int (I p j.toNatClampNeg) :: st) (I, Rf, K, L, n, s) Q) : pm_Wp X d mi pc ls (.int j :: .ref p :: st) (I, Rf, K, L, n, s) Q := by
  obtain ⟨a1, a2, a3, a4⟩ := ha
  exact wp_step hd rfl rfl (by simp [pm_step, pm_jmp, pm_len, pm_rd, a1, a2, a3, a4, pm_inb_iff.mpr hj, Nat.ne_of_gt a1]) h
theorem wp_cald {p z : Nat} {j : Int32} (hd : decode (pm_code mi) pc = .ok (.caload, 1)) (ha : pm_Ar K L n p 1 z) (hj : vp_in j z) (h : pm_Wp X d mi (pc + 1) ls (.int (I p j.toNatClampNeg) :: st) (I, Rf, K, L, n, s) Q) : pm_Wp X d mi pc ls (.int j :: .ref p :: st) (I, Rf, K, L, n, s) Q := by
  obtain ⟨a1, a2, a3, a4⟩ := ha
  exact wp_step hd rfl rfl (by simp [pm_step, pm_jmp, pm_len, pm_rd, a1, a2, a3, a4, pm_inb_iff.mpr hj, Nat.ne_of_gt a1]) h
theorem wp_zald {p z : Nat} {j : Int32} (hd : decode (pm_code mi) pc = .ok (.baload, 1)) (ha : pm_Ar K L n p 2 z) (hj : vp_in j z) (h : pm_Wp X d mi (pc + 1) ls (.int (I p j.toNatClampNeg) :: st) (I, Rf, K, L, n, s) Q) : pm_Wp X d mi pc ls (.int j :: .ref p :: st) (I, Rf, K, L, n, s) Q := by
  obtain ⟨a1, a2, a3, a4⟩ := ha
  exact wp_step hd rfl rfl (by simp [pm_step, pm_jmp, pm_len, pm_rd, a1, a2, a3, a4, pm_inb_iff.mpr hj, Nat.ne_of_gt a1]) h
theorem wp_ialdv {p z : Nat} {j v : Int32} (hd : decode (pm_code mi) pc = .ok (.iaload, 1)) (ha : pm_Ar K L n p 0 z) (hj : vp_in j z) (hv : I p j.toNatClampNeg = v) (h : pm_Wp X d mi (pc + 1) ls (.int v :: st) (I, Rf, K, L, n, s) Q) : pm_Wp X d mi pc ls (.int j :: .ref p :: st) (I, Rf, K, L, n, s) Q := by subst hv; exact wp_iald hd ha hj h
theorem wp_caldv {p z : Nat} {j v : Int32} (hd : decode (pm_code mi) pc = .ok (.caload, 1)) (ha : pm_Ar K L n p 1 z) (hj : vp_in j z) (hv : I p j.toNatClampNeg = v) (h : pm_Wp X d mi (pc + 1) ls (.int v :: st) (I, Rf, K, L, n, s) Q) : pm_Wp X d mi pc ls (.int j :: .ref p :: st) (I, Rf, K, L, n, s) Q := by subst hv; exact wp_cald hd ha hj h
theorem wp_zaldv {p z : Nat} {j v : Int32} (hd : decode (pm_code mi) pc = .ok (.baload, 1)) (ha : pm_Ar K L n p 2 z) (hj : vp_in j z) (hv : I p j.toNatClampNeg = v) (h : pm_Wp X d mi (pc + 1) ls (.int v :: st) (I, Rf, K, L, n, s) Q) : pm_Wp X d mi pc ls (.int j :: .ref p :: st) (I, Rf, K, L, n, s) Q := by subst hv; exact wp_zald hd ha hj h
theorem wp_aald {p z q : Nat} {j : Int32} (hd : decode (pm_code mi) pc = .ok (.aaload, 1)) (ha : pm_Ar K L n p 3 z) (hj : vp_in j z) (hq : Rf p j.toNatClampNeg = q) (hq1 : 1 ≤ q) (h : pm_Wp X d mi (pc + 1) ls (.ref q :: st) (I, Rf, K, L, n, s) Q) : pm_Wp X d mi pc ls (.int j :: .ref p :: st) (I, Rf, K, L, n, s) Q := by
  obtain ⟨a1, a2, a3, a4⟩ := ha
  exact wp_step hd rfl rfl (by simp [pm_step, pm_jmp, pm_len, pm_rd, pm_rv, a1, a2, a3, a4, pm_inb_iff.mpr hj, hq, Nat.ne_of_gt hq1]) h
theorem wp_iast {p z : Nat} {j x : Int32} (hd : decode (pm_code mi) pc = .ok (.iastore, 1)) (ha : pm_Ar K L n p 0 z) (hj : vp_in j z) (h : pm_Wp X d mi (pc + 1) ls st (pm_u I p (upd (I p) j.toNatClampNeg x), Rf, K, L, n, s) Q) : pm_Wp X d mi pc ls (.int x :: .int j :: .ref p :: st) (I, Rf, K, L, n, s) Q := by
  obtain ⟨a1, a2, a3, a4⟩ := ha
  exact wp_step hd rfl rfl (by simp [pm_step, pm_jmp, pm_len, pm_rd, pm_loc, pm_wr, a1, a2, a3, a4, pm_inb_iff.mpr hj]) h
theorem wp_cast {p z : Nat} {j x : Int32} (hd : decode (pm_code mi) pc = .ok (.castore, 1)) (ha : pm_Ar K L n p 1 z) (hj : vp_in j z) (h : pm_Wp X d mi (pc + 1) ls st (pm_u I p (upd (I p) j.toNatClampNeg (vp_nar .char x)), Rf, K, L, n, s) Q) : pm_Wp X d mi pc ls (.int x :: .int j :: .ref p :: st) (I, Rf, K, L, n, s) Q := by
  obtain ⟨a1, a2, a3, a4⟩ := ha
  exact wp_step hd rfl rfl (by simp [pm_step, pm_jmp, pm_len, pm_rd, pm_loc, pm_wr, a1, a2, a3, a4, pm_inb_iff.mpr hj]) h
theorem wp_zast {p z : Nat} {j x : Int32} (hd : decode (pm_code mi) pc = .ok (.bastore, 1)) (ha : pm_Ar K L n p 2 z) (hj : vp_in j z) (h : pm_Wp X d mi (pc + 1) ls st (pm_u I p (upd (I p) j.toNatClampNeg (vp_nar .boolean x)), Rf, K, L, n, s) Q) : pm_Wp X d mi pc ls (.int x :: .int j :: .ref p :: st) (I, Rf, K, L, n, s) Q := by
  obtain ⟨a1, a2, a3, a4⟩ := ha
  exact wp_step hd rfl rfl (by simp [pm_step, pm_jmp, pm_len, pm_rd, pm_loc, pm_wr, a1, a2, a3, a4, pm_inb_iff.mpr hj]) h
theorem wp_alen {p k z : Nat} (hd : decode (pm_code mi) pc = .ok (.arraylength, 1)) (ha : pm_Ar K L n p k z) (hk : k < pm_nk) (h : pm_Wp X d mi (pc + 1) ls (.int (Int32.ofNat z) :: st) (I, Rf, K, L, n, s) Q) : pm_Wp X d mi pc ls (.ref p :: st) (I, Rf, K, L, n, s) Q := by
  obtain ⟨a1, a2, a3, a4⟩ := ha
  exact wp_step hd rfl rfl (by simp [pm_step, pm_jmp, pm_len, pm_rd, a2, a3, a4, hk, Nat.ne_of_gt a1]) h
theorem wp_sld {x : Nat × (Nat → Int32)} {j : Int32} (hd : decode (pm_code mi) pc = .ok (.iaload, 1)) (hj : vp_in j x.1) (h : pm_Wp (some x) d mi (pc + 1) ls (.int (x.2 j.toNatClampNeg) :: st) σ Q) : pm_Wp (some x) d mi pc ls (.int j :: .ref 0 :: st) σ Q := wp_step hd rfl rfl (by simp [pm_step, pm_jmp, pm_len, pm_rd, pm_inb_iff.mpr hj]) h
theorem wp_slen {x : Nat × (Nat → Int32)} (hd : decode (pm_code mi) pc = .ok (.arraylength, 1)) (h : pm_Wp (some x) d mi (pc + 1) ls (.int (Int32.ofNat x.1) :: st) σ Q) : pm_Wp (some x) d mi pc ls (.ref 0 :: st) σ Q := wp_step hd rfl rfl (by simp [pm_step, pm_jmp, pm_len, pm_rd]) h
theorem wp_new {k c : Nat} (hd : decode (pm_code mi) pc = .ok (.new k, 3)) (hc : pm_new (pm_ow mi) k = some c) (h : pm_Wp X d mi (pc + 3) ls (.ref (σ.2.2.2.2.1 + 1) :: st) (pm_mkS σ (10 + c) 0 (pm_nf c)) Q) : pm_Wp X d mi pc ls st σ Q := wp_step hd rfl rfl (by simp [pm_step, pm_jmp, pm_len, pm_rd, pm_loc, pm_wr, pm_mk, hc]) h
theorem wp_newI {z : Int32} (hd : decode (pm_code mi) pc = .ok (.newarray .int, 2)) (h0 : ¬ z < 0) (h1 : z.toNatClampNeg ≤ 100000) (h : pm_Wp X d mi (pc + 2) ls (.ref (σ.2.2.2.2.1 + 1) :: st) (pm_mkS σ 0 z.toNatClampNeg z.toNatClampNeg) Q) : pm_Wp X d mi pc ls (.int z :: st) σ Q := wp_step hd rfl rfl (by simp [pm_step, pm_jmp, pm_len, pm_rd, pm_loc, pm_wr, pm_mk, h0, h1]) h
theorem wp_newC {z : Int32} (hd : decode (pm_code mi) pc = .ok (.newarray .char, 2)) (h0 : ¬ z < 0) (h1 : z.toNatClampNeg ≤ 100000) (h : pm_Wp X d mi (pc + 2) ls (.ref (σ.2.2.2.2.1 + 1) :: st) (pm_mkS σ 1 z.toNatClampNeg z.toNatClampNeg) Q) : pm_Wp X d mi pc ls (.int z :: st) σ Q := wp_step hd rfl rfl (by simp [pm_step, pm_jmp, pm_len, pm_rd, pm_loc, pm_wr, pm_mk, h0, h1]) h
theorem wp_newZ {z : Int32} (hd : decode (pm_code mi) pc = .ok (.newarray .boolean, 2)) (h0 : ¬ z < 0) (h1 : z.toNatClampNeg ≤ 100000) (h : pm_Wp X d mi (pc + 2) ls (.ref (σ.2.2.2.2.1 + 1) :: st) (pm_mkS σ 2 z.toNatClampNeg z.toNatClampNeg) Q) : pm_Wp X d mi pc ls (.int z :: st) σ Q := wp_step hd rfl rfl (by simp [pm_step, pm_jmp, pm_len, pm_rd, pm_loc, pm_wr, pm_mk, h0, h1]) h
theorem wp_newQ {k : Nat} {z : Int32} (hd : decode (pm_code mi) pc = .ok (.anewarray k, 3)) (hk : pm_anw (pm_ow mi) k = true) (h0 : ¬ z < 0) (h1 : z.toNatClampNeg ≤ 100000) (h : pm_Wp X d mi (pc + 3) ls (.ref (σ.2.2.2.2.1 + 1) :: st) (pm_mkS σ 3 z.toNatClampNeg z.toNatClampNeg) Q) : pm_Wp X d mi pc ls (.int z :: st) σ Q := wp_step hd rfl rfl (by simp [pm_step, pm_jmp, pm_len, pm_rd, pm_loc, pm_wr, pm_mk, hk, h0, h1]) h
end PmR2
