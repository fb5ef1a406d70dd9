/-! THE RULES OVER NUMBERS, one an instruction. -/
section PmZ
variable {X : pm_X} {d mi pc : Nat} {ls : pm_L} {st : List Value} {σ : pm_S} {Q : Option Value → pm_S → Prop} {M : pm_M} {Rf : Nat → Nat → Nat} {K L : Nat → Nat} {n s : Nat}
theorem wz_iconst {k : Int} (hd : decode (pm_code mi) pc = .ok (.iconst k, 1)) (h : pm_Wp X d mi (pc + 1) ls (.int (zI k) :: st) σ Q) : pm_Wp X d mi pc ls st σ Q := wp_iconst hd rfl h
theorem wz_bipush {k : Int} (hd : decode (pm_code mi) pc = .ok (.bipush k, 2)) (hk : (Int8.ofInt k).toInt32 = zI k) (h : pm_Wp X d mi (pc + 2) ls (.int (zI k) :: st) σ Q) : pm_Wp X d mi pc ls st σ Q := wp_bipush hd hk h
theorem wz_sipush {k : Int} (hd : decode (pm_code mi) pc = .ok (.sipush k, 3)) (hk : (Int16.ofInt k).toInt32 = zI k) (h : pm_Wp X d mi (pc + 3) ls (.int (zI k) :: st) σ Q) : pm_Wp X d mi pc ls st σ Q := wp_sipush hd hk h
theorem wz_iadd {a b : Int} (hd : decode (pm_code mi) pc = .ok (.iadd, 1)) (h : pm_Wp X d mi (pc + 1) ls (.int (zI (a + b)) :: st) σ Q) : pm_Wp X d mi pc ls (.int (zI b) :: .int (zI a) :: st) σ Q := wp_iadd hd (by rw [zI_add]; exact h)
theorem wz_isub {a b : Int} (hd : decode (pm_code mi) pc = .ok (.isub, 1)) (h : pm_Wp X d mi (pc + 1) ls (.int (zI (a - b)) :: st) σ Q) : pm_Wp X d mi pc ls (.int (zI b) :: .int (zI a) :: st) σ Q := wp_isub hd (by rw [zI_sub]; exact h)
theorem wz_imul {a b : Int} (hd : decode (pm_code mi) pc = .ok (.imul, 1)) (h : pm_Wp X d mi (pc + 1) ls (.int (zI (a * b)) :: st) σ Q) : pm_Wp X d mi pc ls (.int (zI b) :: .int (zI a) :: st) σ Q := wp_imul hd (by rw [zI_mul]; exact h)
theorem wz_iinc {k : Nat} {z a : Int} {ls' : pm_L} (hd : decode (pm_code mi) pc = .ok (.iinc k z, 3)) (hv : pm_ld ls k = some (.int (zI a))) (hs : ls.set k (some (.int (zI (a + z)))) = ls') (h : pm_Wp X d mi (pc + 3) ls' st σ Q) : pm_Wp X d mi pc ls st σ Q := wp_iinc hd hv (zI_add a z) hs h
theorem wz_if_eq {a : Int} {off : Int} {t : Nat} (hd : decode (pm_code mi) pc = .ok (.ifCond .eq off, 3)) (ht : (pc : Int) + off = (t : Int)) (ra : R32 a) (kt : a = 0 → pm_Wp X d mi t ls st σ Q) (kf : ¬ a = 0 → pm_Wp X d mi (pc + 3) ls st σ Q) : pm_Wp X d mi pc ls (.int (zI a) :: st) σ Q :=
  wp_if_eq hd ht (fun q => kt ((zI_eq ra (show R32 0 from ⟨by decide, by decide⟩)).mp q)) (fun q => kf (fun e => q ((zI_eq ra (show R32 0 from ⟨by decide, by decide⟩)).mpr e)))
theorem wz_icmp_eq {a b : Int} {off : Int} {t : Nat} (hd : decode (pm_code mi) pc = .ok (.if_icmp .eq off, 3)) (ht : (pc : Int) + off = (t : Int)) (ra : R32 a) (rb : R32 b) (kt : a = b → pm_Wp X d mi t ls st σ Q) (kf : ¬ a = b → pm_Wp X d mi (pc + 3) ls st σ Q) : pm_Wp X d mi pc ls (.int (zI b) :: .int (zI a) :: st) σ Q :=
  wp_icmp_eq hd ht (fun q => kt ((zI_eq ra rb).mp q)) (fun q => kf (fun e => q ((zI_eq ra rb).mpr e)))
theorem wz_if_ne {a : Int} {off : Int} {t : Nat} (hd : decode (pm_code mi) pc = .ok (.ifCond .ne off, 3)) (ht : (pc : Int) + off = (t : Int)) (ra : R32 a) (kt : ¬ a = 0 → pm_Wp X d mi t ls st σ Q) (kf : a = 0 → pm_Wp X d mi (pc + 3) ls st σ Q) : pm_Wp X d mi pc ls (.int (zI a) :: st) σ Q :=
  wp_if_ne hd ht (fun q => kt (fun e => q ((zI_eq ra (show R32 0 from ⟨by decide, by decide⟩)).mpr e))) (fun q => kf ((zI_eq ra (show R32 0 from ⟨by decide, by decide⟩)).mp q))
theorem wz_icmp_ne {a b : Int} {off : Int} {t : Nat} (hd : decode (pm_code mi) pc = .ok (.if_icmp .ne off, 3)) (ht : (pc : Int) + off = (t : Int)) (ra : R32 a) (rb : R32 b) (kt : ¬ a = b → pm_Wp X d mi t ls st σ Q) (kf : a = b → pm_Wp X d mi (pc + 3) ls st σ Q) : pm_Wp X d mi pc ls (.int (zI b) :: .int (zI a) :: st) σ Q :=
  wp_icmp_ne hd ht (fun q => kt (fun e => q ((zI_eq ra rb).mpr e))) (fun q => kf ((zI_eq ra rb).mp q))
theorem wz_if_lt {a : Int} {off : Int} {t : Nat} (hd : decode (pm_code mi) pc = .ok (.ifCond .lt off, 3)) (ht : (pc : Int) + off = (t : Int)) (ra : R32 a) (kt : a < 0 → pm_Wp X d mi t ls st σ Q) (kf : ¬ a < 0 → pm_Wp X d mi (pc + 3) ls st σ Q) : pm_Wp X d mi pc ls (.int (zI a) :: st) σ Q :=
  wp_if_lt hd ht (fun q => kt ((zI_lt ra (show R32 0 from ⟨by decide, by decide⟩)).mp q)) (fun q => kf (fun e => q ((zI_lt ra (show R32 0 from ⟨by decide, by decide⟩)).mpr e)))
theorem wz_icmp_lt {a b : Int} {off : Int} {t : Nat} (hd : decode (pm_code mi) pc = .ok (.if_icmp .lt off, 3)) (ht : (pc : Int) + off = (t : Int)) (ra : R32 a) (rb : R32 b) (kt : a < b → pm_Wp X d mi t ls st σ Q) (kf : ¬ a < b → pm_Wp X d mi (pc + 3) ls st σ Q) : pm_Wp X d mi pc ls (.int (zI b) :: .int (zI a) :: st) σ Q :=
  wp_icmp_lt hd ht (fun q => kt ((zI_lt ra rb).mp q)) (fun q => kf (fun e => q ((zI_lt ra rb).mpr e)))
theorem wz_if_ge {a : Int} {off : Int} {t : Nat} (hd : decode (pm_code mi) pc = .ok (.ifCond .ge off, 3)) (ht : (pc : Int) + off = (t : Int)) (ra : R32 a) (kt : 0 ≤ a → pm_Wp X d mi t ls st σ Q) (kf : ¬ 0 ≤ a → pm_Wp X d mi (pc + 3) ls st σ Q) : pm_Wp X d mi pc ls (.int (zI a) :: st) σ Q :=
  wp_if_ge hd ht (fun q => kt ((zI_le (show R32 0 from ⟨by decide, by decide⟩) ra).mp q)) (fun q => kf (fun e => q ((zI_le (show R32 0 from ⟨by decide, by decide⟩) ra).mpr e)))
theorem wz_icmp_ge {a b : Int} {off : Int} {t : Nat} (hd : decode (pm_code mi) pc = .ok (.if_icmp .ge off, 3)) (ht : (pc : Int) + off = (t : Int)) (ra : R32 a) (rb : R32 b) (kt : b ≤ a → pm_Wp X d mi t ls st σ Q) (kf : ¬ b ≤ a → pm_Wp X d mi (pc + 3) ls st σ Q) : pm_Wp X d mi pc ls (.int (zI b) :: .int (zI a) :: st) σ Q :=
  wp_icmp_ge hd ht (fun q => kt ((zI_le rb ra).mp q)) (fun q => kf (fun e => q ((zI_le rb ra).mpr e)))
theorem wz_if_gt {a : Int} {off : Int} {t : Nat} (hd : decode (pm_code mi) pc = .ok (.ifCond .gt off, 3)) (ht : (pc : Int) + off = (t : Int)) (ra : R32 a) (kt : 0 < a → pm_Wp X d mi t ls st σ Q) (kf : ¬ 0 < a → pm_Wp X d mi (pc + 3) ls st σ Q) : pm_Wp X d mi pc ls (.int (zI a) :: st) σ Q :=
  wp_if_gt hd ht (fun q => kt ((zI_lt (show R32 0 from ⟨by decide, by decide⟩) ra).mp q)) (fun q => kf (fun e => q ((zI_lt (show R32 0 from ⟨by decide, by decide⟩) ra).mpr e)))
theorem wz_icmp_gt {a b : Int} {off : Int} {t : Nat} (hd : decode (pm_code mi) pc = .ok (.if_icmp .gt off, 3)) (ht : (pc : Int) + off = (t : Int)) (ra : R32 a) (rb : R32 b) (kt : b < a → pm_Wp X d mi t ls st σ Q) (kf : ¬ b < a → pm_Wp X d mi (pc + 3) ls st σ Q) : pm_Wp X d mi pc ls (.int (zI b) :: .int (zI a) :: st) σ Q :=
  wp_icmp_gt hd ht (fun q => kt ((zI_lt rb ra).mp q)) (fun q => kf (fun e => q ((zI_lt rb ra).mpr e)))
theorem wz_if_le {a : Int} {off : Int} {t : Nat} (hd : decode (pm_code mi) pc = .ok (.ifCond .le off, 3)) (ht : (pc : Int) + off = (t : Int)) (ra : R32 a) (kt : a ≤ 0 → pm_Wp X d mi t ls st σ Q) (kf : ¬ a ≤ 0 → pm_Wp X d mi (pc + 3) ls st σ Q) : pm_Wp X d mi pc ls (.int (zI a) :: st) σ Q :=
  wp_if_le hd ht (fun q => kt ((zI_le ra (show R32 0 from ⟨by decide, by decide⟩)).mp q)) (fun q => kf (fun e => q ((zI_le ra (show R32 0 from ⟨by decide, by decide⟩)).mpr e)))
theorem wz_icmp_le {a b : Int} {off : Int} {t : Nat} (hd : decode (pm_code mi) pc = .ok (.if_icmp .le off, 3)) (ht : (pc : Int) + off = (t : Int)) (ra : R32 a) (rb : R32 b) (kt : a ≤ b → pm_Wp X d mi t ls st σ Q) (kf : ¬ a ≤ b → pm_Wp X d mi (pc + 3) ls st σ Q) : pm_Wp X d mi pc ls (.int (zI b) :: .int (zI a) :: st) σ Q :=
  wp_icmp_le hd ht (fun q => kt ((zI_le ra rb).mp q)) (fun q => kf (fun e => q ((zI_le ra rb).mpr e)))
theorem wz_getI {k c f p : Nat} {v : Int} (hd : decode (pm_code mi) pc = .ok (.getfield k, 3)) (hf : pm_fld (pm_ow mi) k = some (c, f)) (ha : pm_At K n p c) (hk : pm_fk c f ≠ 3) (hv : M p (f : Int) = v) (h : pm_Wp X d mi (pc + 3) ls (.int (zI v) :: st) (zM M, Rf, K, L, n, s) Q) : pm_Wp X d mi pc ls (.ref p :: st) (zM M, Rf, K, L, n, s) Q := by subst hv; exact wp_getIv hd hf ha hk rfl h
theorem wz_putI {k c f p : Nat} {v i : Int} (hd : decode (pm_code mi) pc = .ok (.putfield k, 3)) (hf : pm_fld (pm_ow mi) k = some (c, f)) (ha : pm_At K n p c) (hx : pm_fi (pm_fk c f) (zI v) = true) (hn : (!pm_fin c f || (decide (pm_kd mi = 2) && pm_own (pm_ow mi) c)) = true) (hi : (f : Int) = i) (h : pm_Wp X d mi (pc + 3) ls st (zM (mset M p i v), Rf, K, L, n, s) Q) : pm_Wp X d mi pc ls (.int (zI v) :: .ref p :: st) (zM M, Rf, K, L, n, s) Q := by
  subst hi
  rw [← zM_set M p v (Int.natCast_nonneg f), Int.toNat_natCast] at h
  exact wp_putI hd hf ha hx hn h
theorem wz_iald {p z : Nat} {i v : Int} (hd : decode (pm_code mi) pc = .ok (.iaload, 1)) (ha : pm_Ar K L n p 0 z) (h0 : 0 ≤ i) (h1 : i < z) (hz : z < 2147483648) (hv : M p i = v) (h : pm_Wp X d mi (pc + 1) ls (.int (zI v) :: st) (zM M, Rf, K, L, n, s) Q) : pm_Wp X d mi pc ls (.int (zI i) :: .ref p :: st) (zM M, Rf, K, L, n, s) Q := by
  subst hv
  exact wp_ialdv hd ha (zI_in h0 h1 hz) (by rw [zI_clamp h0 (by omega), zM_get M p h0]) h
theorem wz_cald {p z : Nat} {i v : Int} (hd : decode (pm_code mi) pc = .ok (.caload, 1)) (ha : pm_Ar K L n p 1 z) (h0 : 0 ≤ i) (h1 : i < z) (hz : z < 2147483648) (hv : M p i = v) (h : pm_Wp X d mi (pc + 1) ls (.int (zI v) :: st) (zM M, Rf, K, L, n, s) Q) : pm_Wp X d mi pc ls (.int (zI i) :: .ref p :: st) (zM M, Rf, K, L, n, s) Q := by
  subst hv
  exact wp_caldv hd ha (zI_in h0 h1 hz) (by rw [zI_clamp h0 (by omega), zM_get M p h0]) h
theorem wz_zald {p z : Nat} {i v : Int} (hd : decode (pm_code mi) pc = .ok (.baload, 1)) (ha : pm_Ar K L n p 2 z) (h0 : 0 ≤ i) (h1 : i < z) (hz : z < 2147483648) (hv : M p i = v) (h : pm_Wp X d mi (pc + 1) ls (.int (zI v) :: st) (zM M, Rf, K, L, n, s) Q) : pm_Wp X d mi pc ls (.int (zI i) :: .ref p :: st) (zM M, Rf, K, L, n, s) Q := by
  subst hv
  exact wp_zaldv hd ha (zI_in h0 h1 hz) (by rw [zI_clamp h0 (by omega), zM_get M p h0]) h
theorem wz_iast {p z : Nat} {i v : Int} (hd : decode (pm_code mi) pc = .ok (.iastore, 1)) (ha : pm_Ar K L n p 0 z) (h0 : 0 ≤ i) (h1 : i < z) (hz : z < 2147483648) (h : pm_Wp X d mi (pc + 1) ls st (zM (mset M p i v), Rf, K, L, n, s) Q) : pm_Wp X d mi pc ls (.int (zI v) :: .int (zI i) :: .ref p :: st) (zM M, Rf, K, L, n, s) Q := by
  rw [← zM_set M p v h0] at h
  refine wp_iast hd ha (zI_in h0 h1 hz) ?_
  rw [zI_clamp h0 (by omega)]
  exact h
theorem zI_char {v : Int} (h0 : 0 ≤ v) (h1 : v < 65536) : vp_nar .char (zI v) = zI v := by
  obtain ⟨k, rfl⟩ := Int.eq_ofNat_of_zero_le h0
  have := (pk_charN (q := k) (by omega)).1
  unfold vp_nar
  rw [zI_nI, this]
theorem zI_bool {v : Int} (h : v = 0 ∨ v = 1) : vp_nar .boolean (zI v) = zI v := by
  rcases h with rfl | rfl <;> decide
theorem wz_cast {p z : Nat} {i v : Int} (hd : decode (pm_code mi) pc = .ok (.castore, 1)) (ha : pm_Ar K L n p 1 z) (h0 : 0 ≤ i) (h1 : i < z) (hz : z < 2147483648) (v0 : 0 ≤ v) (v1 : v < 65536) (h : pm_Wp X d mi (pc + 1) ls st (zM (mset M p i v), Rf, K, L, n, s) Q) : pm_Wp X d mi pc ls (.int (zI v) :: .int (zI i) :: .ref p :: st) (zM M, Rf, K, L, n, s) Q := by
  rw [← zM_set M p v h0] at h
  refine wp_cast hd ha (zI_in h0 h1 hz) ?_
  rw [zI_clamp h0 (by omega), zI_char v0 v1]
  exact h
theorem wz_zast {p z : Nat} {i v : Int} (hd : decode (pm_code mi) pc = .ok (.bastore, 1)) (ha : pm_Ar K L n p 2 z) (h0 : 0 ≤ i) (h1 : i < z) (hz : z < 2147483648) (v0 : v = 0 ∨ v = 1) (h : pm_Wp X d mi (pc + 1) ls st (zM (mset M p i v), Rf, K, L, n, s) Q) : pm_Wp X d mi pc ls (.int (zI v) :: .int (zI i) :: .ref p :: st) (zM M, Rf, K, L, n, s) Q := by
  rw [← zM_set M p v h0] at h
  refine wp_zast hd ha (zI_in h0 h1 hz) ?_
  rw [zI_clamp h0 (by omega), zI_bool v0]
  exact h
theorem wz_aald {p z q : Nat} {i : Int} (hd : decode (pm_code mi) pc = .ok (.aaload, 1)) (ha : pm_Ar K L n p 3 z) (h0 : 0 ≤ i) (h1 : i < z) (hz : z < 2147483648) (hq : Rf p i.toNat = q) (hq1 : 1 ≤ q) (h : pm_Wp X d mi (pc + 1) ls (.ref q :: st) (zM M, Rf, K, L, n, s) Q) : pm_Wp X d mi pc ls (.int (zI i) :: .ref p :: st) (zM M, Rf, K, L, n, s) Q := wp_aald hd ha (zI_in h0 h1 hz) (by rw [zI_clamp h0 (by omega)]; exact hq) hq1 h
theorem wz_alen {p k z : Nat} (hd : decode (pm_code mi) pc = .ok (.arraylength, 1)) (ha : pm_Ar K L n p k z) (hk : k < pm_nk) (h : pm_Wp X d mi (pc + 1) ls (.int (zI (z : Int)) :: st) (zM M, Rf, K, L, n, s) Q) : pm_Wp X d mi pc ls (.ref p :: st) (zM M, Rf, K, L, n, s) Q := wp_alen hd ha hk h
/-- bits of small numbers -/
theorem zI_and {a b : Int} (ha : 0 ≤ a) (hb : 0 ≤ b) : zI a &&& zI b = zI ((a.toNat &&& b.toNat : Nat) : Int) := by
  obtain ⟨m, rfl⟩ := Int.eq_ofNat_of_zero_le ha
  obtain ⟨k, rfl⟩ := Int.eq_ofNat_of_zero_le hb
  show nI m &&& nI k = nI (m &&& k)
  apply Int32.toBitVec_inj.1
  show BitVec.ofNat 32 m &&& BitVec.ofNat 32 k = BitVec.ofNat 32 (m &&& k)
  apply BitVec.eq_of_getLsbD_eq
  intro i hi
  simp [hi]
theorem zI_or {a b : Int} (ha : 0 ≤ a) (hb : 0 ≤ b) : zI a ||| zI b = zI ((a.toNat ||| b.toNat : Nat) : Int) := by
  obtain ⟨m, rfl⟩ := Int.eq_ofNat_of_zero_le ha
  obtain ⟨k, rfl⟩ := Int.eq_ofNat_of_zero_le hb
  show nI m ||| nI k = nI (m ||| k)
  apply Int32.toBitVec_inj.1
  show BitVec.ofNat 32 m ||| BitVec.ofNat 32 k = BitVec.ofNat 32 (m ||| k)
  apply BitVec.eq_of_getLsbD_eq
  intro i hi
  simp [hi]
theorem wz_iand {a b : Int} (hd : decode (pm_code mi) pc = .ok (.iand, 1)) (ha : 0 ≤ a) (hb : 0 ≤ b) (h : pm_Wp X d mi (pc + 1) ls (.int (zI ((a.toNat &&& b.toNat : Nat) : Int)) :: st) σ Q) : pm_Wp X d mi pc ls (.int (zI b) :: .int (zI a) :: st) σ Q := wp_iand hd (by rw [zI_and ha hb]; exact h)
theorem wz_ior {a b : Int} (hd : decode (pm_code mi) pc = .ok (.ior, 1)) (ha : 0 ≤ a) (hb : 0 ≤ b) (h : pm_Wp X d mi (pc + 1) ls (.int (zI ((a.toNat ||| b.toNat : Nat) : Int)) :: st) σ Q) : pm_Wp X d mi pc ls (.int (zI b) :: .int (zI a) :: st) σ Q := wp_ior hd (by rw [zI_or ha hb]; exact h)
theorem zI_sm : ∀ k, k < 32 → ((nI k &&& 31).toBitVec.smod 32).toNat = k := by decide +kernel
theorem zI_shr {a k : Int} (ha : 0 ≤ a) (ha2 : a < 2147483648) (hk : 0 ≤ k) (hk2 : k < 31) : zI a >>> (zI k &&& 31) = zI ((a.toNat / 2 ^ k.toNat : Nat) : Int) := by
  obtain ⟨m, rfl⟩ := Int.eq_ofNat_of_zero_le ha
  obtain ⟨j, rfl⟩ := Int.eq_ofNat_of_zero_le hk
  exact pk_shrN (n := m) (by omega) (nI j &&& 31) j (zI_sm j (by omega))
theorem zI_shl {a k : Int} (ha : 0 ≤ a) (ha2 : a < 65536) (hk : 0 ≤ k) (hk2 : k < 15) : zI a <<< (zI k &&& 31) = zI ((a.toNat * 2 ^ k.toNat : Nat) : Int) := by
  obtain ⟨m, rfl⟩ := Int.eq_ofNat_of_zero_le ha
  obtain ⟨j, rfl⟩ := Int.eq_ofNat_of_zero_le hk
  refine pk_shlN (n := m) (nI j &&& 31) j (zI_sm j (by omega)) ?_
  have h1 : 2 ^ j ≤ 2 ^ 15 := Nat.pow_le_pow_right (by decide) (by omega)
  have h2 : m * 2 ^ j ≤ 65535 * 2 ^ 15 := Nat.mul_le_mul (by omega) h1
  omega
theorem zI_div {a b : Int} (ha : 0 ≤ a) (ha2 : a < 2147483648) (hb : 0 < b) (hb2 : b < 2147483648) : zI a / zI b = zI (a / b) := by
  obtain ⟨m, rfl⟩ := Int.eq_ofNat_of_zero_le ha
  obtain ⟨k, rfl⟩ := Int.eq_ofNat_of_zero_le (Int.le_of_lt hb)
  exact pk_div (a := m) (d := k) (by omega) (by omega) (by omega)
theorem zI_rem {a b : Int} (ha : 0 ≤ a) (ha2 : a < 2147483648) (hb : 0 < b) (hb2 : b < 2147483648) : zI a - zI a / zI b * zI b = zI (a % b) := by
  obtain ⟨m, rfl⟩ := Int.eq_ofNat_of_zero_le ha
  obtain ⟨k, rfl⟩ := Int.eq_ofNat_of_zero_le (Int.le_of_lt hb)
  exact pk_rem (a := m) (d := k) (by omega) (by omega) (by omega)
theorem zI_ne0 {b : Int} (hb : 0 < b) (hb2 : b < 2147483648) : ¬ zI b = 0 := by
  intro e
  have := (zI_eq (a := b) (b := 0) ⟨by omega, by omega⟩ ⟨by omega, by omega⟩).mp e
  omega
theorem wz_ishr {a b : Int} (hd : decode (pm_code mi) pc = .ok (.ishr, 1)) (ha : 0 ≤ a) (ha2 : a < 2147483648) (hb : 0 ≤ b) (hb2 : b < 31) (h : pm_Wp X d mi (pc + 1) ls (.int (zI ((a.toNat / 2 ^ b.toNat : Nat) : Int)) :: st) σ Q) : pm_Wp X d mi pc ls (.int (zI b) :: .int (zI a) :: st) σ Q := wp_ishr hd (by rw [zI_shr ha ha2 hb hb2]; exact h)
theorem zI_and1 {a : Int} (ha : 0 ≤ a) : zI a &&& zI 1 = zI (a % 2) := by
  obtain ⟨m, rfl⟩ := Int.eq_ofNat_of_zero_le ha
  rw [zI_and (by omega) (by omega)]
  show zI ((m &&& 1 : Nat) : Int) = _
  rw [Nat.and_one_is_mod]
  rfl
theorem zI_shrq {a k q : Int} (ha : 0 ≤ a) (ha2 : a < 2147483648) (hk : 0 ≤ k) (hk2 : k < 31) (hq : (2 : Int) ^ k.toNat = q) : zI a >>> (zI k &&& 31) = zI (a / q) := by
  subst hq
  obtain ⟨m, rfl⟩ := Int.eq_ofNat_of_zero_le ha
  rw [zI_shr (by omega) ha2 hk hk2]
  show zI ((m / 2 ^ k.toNat : Nat) : Int) = _
  rw [Int.natCast_ediv, Int.natCast_pow]
  rfl
theorem wz_and1 {a : Int} (hd : decode (pm_code mi) pc = .ok (.iand, 1)) (ha : 0 ≤ a) (h : pm_Wp X d mi (pc + 1) ls (.int (zI (a % 2)) :: st) σ Q) : pm_Wp X d mi pc ls (.int (zI 1) :: .int (zI a) :: st) σ Q := wp_iand hd (by rw [zI_and1 ha]; exact h)
theorem wz_ishrq {a b q : Int} (hd : decode (pm_code mi) pc = .ok (.ishr, 1)) (ha : 0 ≤ a) (ha2 : a < 2147483648) (hb : 0 ≤ b) (hb2 : b < 31) (hq : (2 : Int) ^ b.toNat = q) (h : pm_Wp X d mi (pc + 1) ls (.int (zI (a / q)) :: st) σ Q) : pm_Wp X d mi pc ls (.int (zI b) :: .int (zI a) :: st) σ Q := wp_ishr hd (by rw [zI_shrq ha ha2 hb hb2 hq]; exact h)
theorem wz_ishl {a b : Int} (hd : decode (pm_code mi) pc = .ok (.ishl, 1)) (ha : 0 ≤ a) (ha2 : a < 65536) (hb : 0 ≤ b) (hb2 : b < 15) (h : pm_Wp X d mi (pc + 1) ls (.int (zI ((a.toNat * 2 ^ b.toNat : Nat) : Int)) :: st) σ Q) : pm_Wp X d mi pc ls (.int (zI b) :: .int (zI a) :: st) σ Q := wp_ishl hd (by rw [zI_shl ha ha2 hb hb2]; exact h)
theorem wz_idiv {a b : Int} (hd : decode (pm_code mi) pc = .ok (.idiv, 1)) (ha : 0 ≤ a) (ha2 : a < 2147483648) (hb : 0 < b) (hb2 : b < 2147483648) (h : pm_Wp X d mi (pc + 1) ls (.int (zI (a / b)) :: st) σ Q) : pm_Wp X d mi pc ls (.int (zI b) :: .int (zI a) :: st) σ Q := wp_idiv hd (zI_ne0 hb hb2) (by rw [zI_div ha ha2 hb hb2]; exact h)
theorem wz_irem {a b : Int} (hd : decode (pm_code mi) pc = .ok (.irem, 1)) (ha : 0 ≤ a) (ha2 : a < 2147483648) (hb : 0 < b) (hb2 : b < 2147483648) (h : pm_Wp X d mi (pc + 1) ls (.int (zI (a % b)) :: st) σ Q) : pm_Wp X d mi pc ls (.int (zI b) :: .int (zI a) :: st) σ Q := wp_irem hd (zI_ne0 hb hb2) (by rw [zI_rem ha ha2 hb hb2]; exact h)
end PmZ
