/-! THE MODEL: keepTerm, readTerm. -/
/-- an int, brought into its range -/
def nrm (a : Int) : Int := (zI a).toInt
theorem nrm_zI (a : Int) : zI (nrm a) = zI a := zI_of _
theorem nrm_R (a : Int) : R32 (nrm a) := R32_of _
theorem nrm_eq {a : Int} (h : R32 a) : nrm a = a := zI_toInt h
/-- nodes kept: from index 64 on to index 0 on -/
def kv (N : pm_M) (p : Nat) (j : Int) : Int := if p = 62 then (if N 62 (64 + j) < 0 then -1 else N 62 (64 + j) - 64) else if p = 63 then nrm (N 63 (64 + j) - 64) else N p (64 + j)
def kn (N : pm_M) (i : Nat) : pm_M := fun p j => if 59 ≤ p ∧ p ≤ 63 ∧ 0 ≤ j ∧ j < i then kv N p j else N p j
def sv (N : pm_M) (p : Nat) (j : Int) : Int := if p = 64 then (if N 64 (64 + j) < 0 then -1 else N 64 (64 + j) - 64) else if p = 67 then nrm (N 67 (64 + j) - 64) else N p (64 + j)
def ks (N : pm_M) (i : Nat) : pm_M := fun p j => if 64 ≤ p ∧ p ≤ 67 ∧ 0 ≤ j ∧ j < i then sv N p j else N p j
theorem kn_o {N : pm_M} {i p : Nat} {j : Int} (h : ¬ (59 ≤ p ∧ p ≤ 63 ∧ 0 ≤ j ∧ j < i)) : kn N i p j = N p j := if_neg h
theorem ks_o {N : pm_M} {i p : Nat} {j : Int} (h : ¬ (64 ≤ p ∧ p ≤ 67 ∧ 0 ≤ j ∧ j < i)) : ks N i p j = N p j := if_neg h
theorem kn_in {N : pm_M} {i p : Nat} {j : Int} (h : 59 ≤ p ∧ p ≤ 63 ∧ 0 ≤ j ∧ j < i) : kn N i p j = kv N p j := if_pos h
theorem ks_in {N : pm_M} {i p : Nat} {j : Int} (h : 64 ≤ p ∧ p ≤ 67 ∧ 0 ≤ j ∧ j < i) : ks N i p j = sv N p j := if_pos h
theorem kn_succ (N : pm_M) (i : Nat) : mset (mset (mset (mset (mset (kn N i) 59 i (kv N 59 i)) 60 i (kv N 60 i)) 61 i (kv N 61 i)) 62 i (kv N 62 i)) 63 i (kv N 63 i) = kn N (i + 1) := by
  funext p j
  by_cases h : 59 ≤ p ∧ p ≤ 63 ∧ j = (i : Int)
  · obtain ⟨h1, h2, rfl⟩ := h
    rw [kn_in (by omega)]
    unfold mset
    rcases (show p = 59 ∨ p = 60 ∨ p = 61 ∨ p = 62 ∨ p = 63 by omega) with rfl | rfl | rfl | rfl | rfl <;> simp
  · have e : mset (mset (mset (mset (mset (kn N i) 59 i (kv N 59 i)) 60 i (kv N 60 i)) 61 i (kv N 61 i)) 62 i (kv N 62 i)) 63 i (kv N 63 i) p j = kn N i p j := by
      unfold mset
      rw [if_neg (by omega), if_neg (by omega), if_neg (by omega), if_neg (by omega), if_neg (by omega)]
    rw [e]
    unfold kn
    by_cases c : 59 ≤ p ∧ p ≤ 63 ∧ 0 ≤ j ∧ j < i
    · rw [if_pos c, if_pos (by omega)]
    · rw [if_neg c, if_neg (by omega)]
theorem ks_succ (N : pm_M) (i : Nat) : mset (mset (mset (mset (ks N i) 64 i (sv N 64 i)) 65 i (sv N 65 i)) 66 i (sv N 66 i)) 67 i (sv N 67 i) = ks N (i + 1) := by
  funext p j
  by_cases h : 64 ≤ p ∧ p ≤ 67 ∧ j = (i : Int)
  · obtain ⟨h1, h2, rfl⟩ := h
    rw [ks_in (by omega)]
    unfold mset
    rcases (show p = 64 ∨ p = 65 ∨ p = 66 ∨ p = 67 by omega) with rfl | rfl | rfl | rfl <;> simp
  · have e : mset (mset (mset (mset (ks N i) 64 i (sv N 64 i)) 65 i (sv N 65 i)) 66 i (sv N 66 i)) 67 i (sv N 67 i) p j = ks N i p j := by
      unfold mset
      rw [if_neg (by omega), if_neg (by omega), if_neg (by omega), if_neg (by omega)]
    rw [e]
    unfold ks
    by_cases c : 64 ≤ p ∧ p ≤ 67 ∧ 0 ≤ j ∧ j < i
    · rw [if_pos c, if_pos (by omega)]
    · rw [if_neg c, if_neg (by omega)]
theorem kn_zero (N : pm_M) : kn N 0 = N := by
  funext p j
  exact kn_o (by omega)
theorem ks_zero (N : pm_M) : ks N 0 = N := by
  funext p j
  exact ks_o (by omega)
theorem kv_R32 {N : pm_M} (hM : ∀ p i, R32 (N p i)) (p : Nat) (j : Int) : R32 (kv N p j) := by
  unfold kv
  by_cases h : p = 62
  · rw [if_pos h]
    by_cases c : N 62 (64 + j) < 0
    · rw [if_pos c]; exact ⟨by omega, by omega⟩
    · rw [if_neg c]; have := hM 62 (64 + j); exact ⟨by omega, by have := this.2; omega⟩
  · rw [if_neg h]
    by_cases h2 : p = 63
    · rw [if_pos h2]; exact nrm_R _
    · rw [if_neg h2]; exact hM _ _
theorem sv_R32 {N : pm_M} (hM : ∀ p i, R32 (N p i)) (p : Nat) (j : Int) : R32 (sv N p j) := by
  unfold sv
  by_cases h : p = 64
  · rw [if_pos h]
    by_cases c : N 64 (64 + j) < 0
    · rw [if_pos c]; exact ⟨by omega, by omega⟩
    · rw [if_neg c]; have := hM 64 (64 + j); exact ⟨by omega, by have := this.2; omega⟩
  · rw [if_neg h]
    by_cases h2 : p = 67
    · rw [if_pos h2]; exact nrm_R _
    · rw [if_neg h2]; exact hM _ _
theorem kn_R32 {N : pm_M} (hM : ∀ p i, R32 (N p i)) (i : Nat) : ∀ p j, R32 (kn N i p j) := fun p j => by
  by_cases h : 59 ≤ p ∧ p ≤ 63 ∧ 0 ≤ j ∧ j < i
  · rw [kn_in h]; exact kv_R32 hM _ _
  · rw [kn_o h]; exact hM _ _
theorem ks_R32 {N : pm_M} (hM : ∀ p i, R32 (N p i)) (i : Nat) : ∀ p j, R32 (ks N i p j) := fun p j => by
  by_cases h : 64 ≤ p ∧ p ≤ 67 ∧ 0 ≤ j ∧ j < i
  · rw [ks_in h]; exact sv_R32 hM _ _
  · rw [ks_o h]; exact hM _ _
/-- the term that is kept -/
def kT (N : pm_M) (a b : Nat) : pm_M := ks (kn (mset (mset N 56 4 (a : Int)) 56 29 (b : Int)) a) b
section PmD6
variable {d : Nat} {Q : Option Value → pm_S → Prop} {N : pm_M} {Rf : Nat → Nat → Nat} {K L : Nat → Nat} {n s0 : Nat}
set_option maxHeartbeats 1000000 in
theorem m_keepTerm {a b : Nat} (hG : pm_G Rf K L n) (hM : ∀ p i, R32 (N p i)) (ha : N 56 5 = ((64 + a : Nat) : Int)) (hb : N 56 11 = ((64 + b : Nat) : Int)) (ha6 : a ≤ 60) (hb6 : b ≤ 60) (h : Q none (zM (kT N a b), Rf, K, L, n, s0)) : pm_Wc (d + 1) 174 [.ref 56] (zM N, Rf, K, L, n, s0) Q := by
  have l2 : ∀ (r i : Nat) (O : pm_M), i + r = b → O 56 29 = (b : Int) → (∀ p i, R32 (O p i)) → Q none (zM (ks O b), Rf, K, L, n, s0) → pm_Wp none d 174 137 [some (.ref 56), some (.int (zI (i : Int)))] [] (zM (ks O i), Rf, K, L, n, s0) Q := by
    intro r
    induction r with
    | zero =>
      intro i O hi h29 rO hq
      have hi : i = b := by omega
      subst hi
      have e29 : ks O i 56 29 = (i : Int) := (ks_o (by omega)).trans h29
      refine wp_iload_n d174_137 rfl ?_
      refine wp_aload_n d174_138 rfl ?_
      refine wz_getI (v := (i : Int)) d174_139 rfl (hG.o (by decide) rfl) (by decide) (e29) ?_
      refine wz_icmp_ge (t := 233) d174_142 (by decide) ⟨by omega, by omega⟩ ⟨by omega, by omega⟩ (fun _ => ?_) (fun hb => absurd (by omega) hb)
      exact wp_ret d174_233 rfl (hq)
    | succ r ih =>
      intro i O hi h29 rO hq
      have e29 : ks O i 56 29 = (b : Int) := (ks_o (by omega)).trans h29
      have st := ks_succ O i
      have hs : ∀ q, 64 ≤ q → q ≤ 67 → ks O i q (64 + (i : Int)) = O q (64 + (i : Int)) := fun q _ _ => ks_o (by omega)
      have v64 : sv O 64 (i : Int) = if O 64 (64 + (i : Int)) < 0 then -1 else O 64 (64 + (i : Int)) - 64 := rfl
      have v65 : sv O 65 (i : Int) = O 65 (64 + (i : Int)) := rfl
      have v66 : sv O 66 (i : Int) = O 66 (64 + (i : Int)) := rfl
      have v67 : sv O 67 (i : Int) = nrm (O 67 (64 + (i : Int)) - 64) := rfl
      have r64 := rO 64 (64 + (i : Int))
      -- behind the outer scope
      have tl : pm_Wp none d 174 179 [some (.ref 56), some (.int (zI (i : Int)))] [] (zM (mset (ks O i) 64 i (sv O 64 i)), Rf, K, L, n, s0) Q := by
        refine wp_aload_n d174_179 rfl ?_
        refine wp_getR (q := 65) d174_180 rfl (hG.o (by decide) rfl) (by decide) (hG.r (by decide +kernel)) (by decide) ?_
        refine wp_iload_n d174_183 rfl ?_
        refine wp_aload_n d174_184 rfl ?_
        refine wp_getR (q := 65) d174_185 rfl (hG.o (by decide) rfl) (by decide) (hG.r (by decide +kernel)) (by decide) ?_
        refine wz_bipush d174_188 (by decide) ?_
        refine wp_iload_n d174_190 rfl ?_
        refine wz_iadd d174_191 ?_
        refine wz_iald (z := 128) (v := O 65 (64 + (i : Int))) d174_192 (hG.a (by decide) rfl rfl) (by omega) (by omega) (by decide) (by first | exact (mset_p _ _ _ _ (by decide)).trans (hs 65 (by decide) (by decide)) | exact (mset_p _ _ _ _ (by decide)).trans ((mset_p _ _ _ _ (by decide)).trans (hs 65 (by decide) (by decide))) | exact (mset_p _ _ _ _ (by decide)).trans ((mset_p _ _ _ _ (by decide)).trans ((mset_p _ _ _ _ (by decide)).trans (hs 65 (by decide) (by decide))))) ?_
        refine wz_iast (z := 128) d174_193 (hG.a (by decide) rfl rfl) (by omega) (by omega) (by decide) ?_
        refine wp_aload_n d174_194 rfl ?_
        refine wp_getR (q := 66) d174_195 rfl (hG.o (by decide) rfl) (by decide) (hG.r (by decide +kernel)) (by decide) ?_
        refine wp_iload_n d174_198 rfl ?_
        refine wp_aload_n d174_199 rfl ?_
        refine wp_getR (q := 66) d174_200 rfl (hG.o (by decide) rfl) (by decide) (hG.r (by decide +kernel)) (by decide) ?_
        refine wz_bipush d174_203 (by decide) ?_
        refine wp_iload_n d174_205 rfl ?_
        refine wz_iadd d174_206 ?_
        refine wz_iald (z := 128) (v := O 66 (64 + (i : Int))) d174_207 (hG.a (by decide) rfl rfl) (by omega) (by omega) (by decide) (by first | exact (mset_p _ _ _ _ (by decide)).trans (hs 66 (by decide) (by decide)) | exact (mset_p _ _ _ _ (by decide)).trans ((mset_p _ _ _ _ (by decide)).trans (hs 66 (by decide) (by decide))) | exact (mset_p _ _ _ _ (by decide)).trans ((mset_p _ _ _ _ (by decide)).trans ((mset_p _ _ _ _ (by decide)).trans (hs 66 (by decide) (by decide))))) ?_
        refine wz_iast (z := 128) d174_208 (hG.a (by decide) rfl rfl) (by omega) (by omega) (by decide) ?_
        refine wp_aload_n d174_209 rfl ?_
        refine wp_getR (q := 67) d174_210 rfl (hG.o (by decide) rfl) (by decide) (hG.r (by decide +kernel)) (by decide) ?_
        refine wp_iload_n d174_213 rfl ?_
        refine wp_aload_n d174_214 rfl ?_
        refine wp_getR (q := 67) d174_215 rfl (hG.o (by decide) rfl) (by decide) (hG.r (by decide +kernel)) (by decide) ?_
        refine wz_bipush d174_218 (by decide) ?_
        refine wp_iload_n d174_220 rfl ?_
        refine wz_iadd d174_221 ?_
        refine wz_iald (z := 128) (v := O 67 (64 + (i : Int))) d174_222 (hG.a (by decide) rfl rfl) (by omega) (by omega) (by decide) (by first | exact (mset_p _ _ _ _ (by decide)).trans (hs 67 (by decide) (by decide)) | exact (mset_p _ _ _ _ (by decide)).trans ((mset_p _ _ _ _ (by decide)).trans (hs 67 (by decide) (by decide))) | exact (mset_p _ _ _ _ (by decide)).trans ((mset_p _ _ _ _ (by decide)).trans ((mset_p _ _ _ _ (by decide)).trans (hs 67 (by decide) (by decide))))) ?_
        refine wz_bipush d174_223 (by decide) ?_
        refine wz_isub d174_225 ?_
        rw [← nrm_zI (O 67 (64 + (i : Int)) - 64)]
        refine wz_iast (z := 128) d174_226 (hG.a (by decide) rfl rfl) (by omega) (by omega) (by decide) ?_
        rw [← v65, ← v66, ← v67, ks_succ]
        refine wz_iinc d174_227 rfl rfl ?_
        refine wp_goto (t := 137) d174_230 (by decide) ?_
        rw [show (i : Int) + 1 = ((i + 1 : Nat) : Int) by omega]
        exact ih (i + 1) O (by omega) h29 rO hq
      refine wp_iload_n d174_137 rfl ?_
      refine wp_aload_n d174_138 rfl ?_
      refine wz_getI (v := (b : Int)) d174_139 rfl (hG.o (by decide) rfl) (by decide) (e29) ?_
      refine wz_icmp_ge (t := 233) d174_142 (by decide) ⟨by omega, by omega⟩ ⟨by omega, by omega⟩ (fun hb => absurd hb (by omega)) (fun _ => ?_)
      refine wp_aload_n d174_145 rfl ?_
      refine wp_getR (q := 64) d174_146 rfl (hG.o (by decide) rfl) (by decide) (hG.r (by decide +kernel)) (by decide) ?_
      refine wp_iload_n d174_149 rfl ?_
      refine wp_aload_n d174_150 rfl ?_
      refine wp_getR (q := 64) d174_151 rfl (hG.o (by decide) rfl) (by decide) (hG.r (by decide +kernel)) (by decide) ?_
      refine wz_bipush d174_154 (by decide) ?_
      refine wp_iload_n d174_156 rfl ?_
      refine wz_iadd d174_157 ?_
      refine wz_iald (z := 128) (v := O 64 (64 + (i : Int))) d174_158 (hG.a (by decide) rfl rfl) (by omega) (by omega) (by decide) (hs 64 (by decide) (by decide)) ?_
      refine wz_if_ge (t := 166) d174_159 (by decide) r64 (fun hb0 => ?_) (fun hb0 => ?_)
      · skip
        rw [if_neg (by omega)] at v64
        refine wp_aload_n d174_166 rfl ?_
        refine wp_getR (q := 64) d174_167 rfl (hG.o (by decide) rfl) (by decide) (hG.r (by decide +kernel)) (by decide) ?_
        refine wz_bipush d174_170 (by decide) ?_
        refine wp_iload_n d174_172 rfl ?_
        refine wz_iadd d174_173 ?_
        refine wz_iald (z := 128) (v := O 64 (64 + (i : Int))) d174_174 (hG.a (by decide) rfl rfl) (by omega) (by omega) (by decide) (hs 64 (by decide) (by decide)) ?_
        refine wz_bipush d174_175 (by decide) ?_
        refine wz_isub d174_177 ?_
        refine wz_iast (z := 128) d174_178 (hG.a (by decide) rfl rfl) (by omega) (by omega) (by decide) ?_
        rw [← v64]
        exact tl
      · skip
        rw [if_pos (by omega)] at v64
        refine wz_iconst d174_162 ?_
        refine wp_goto (t := 178) d174_163 (by decide) ?_
        refine wz_iast (z := 128) d174_178 (hG.a (by decide) rfl rfl) (by omega) (by omega) (by decide) ?_
        rw [← v64]
        exact tl
  have l1 : ∀ (r i : Nat) (O : pm_M), i + r = a → O 56 4 = (a : Int) → O 56 29 = (b : Int) → (∀ p i, R32 (O p i)) → Q none (zM (ks (kn O a) b), Rf, K, L, n, s0) → pm_Wp none d 174 24 [some (.ref 56), some (.int (zI (i : Int)))] [] (zM (kn O i), Rf, K, L, n, s0) Q := by
    intro r
    induction r with
    | zero =>
      intro i O hi h4 h29 rO hq
      have hi : i = a := by omega
      subst hi
      have e4 : kn O i 56 4 = (i : Int) := (kn_o (by omega)).trans h4
      refine wp_iload_n d174_24 rfl ?_
      refine wp_aload_n d174_25 rfl ?_
      refine wz_getI (v := (i : Int)) d174_26 rfl (hG.o (by decide) rfl) (by decide) (e4) ?_
      refine wz_icmp_ge (t := 135) d174_29 (by decide) ⟨by omega, by omega⟩ ⟨by omega, by omega⟩ (fun _ => ?_) (fun hb => absurd (by omega) hb)
      refine wz_iconst d174_135 ?_
      refine wp_istore_n d174_136 (Nat.le_of_ble_eq_true rfl) rfl ?_
      have q := l2 b 0 (kn O i) (by omega) ((kn_o (by omega)).trans h29) (kn_R32 rO i) hq
      rw [ks_zero] at q
      exact q
    | succ r ih =>
      intro i O hi h4 h29 rO hq
      have e4 : kn O i 56 4 = (a : Int) := (kn_o (by omega)).trans h4
      have hs : ∀ q, 59 ≤ q → q ≤ 63 → kn O i q (64 + (i : Int)) = O q (64 + (i : Int)) := fun q _ _ => kn_o (by omega)
      have v59 : kv O 59 (i : Int) = O 59 (64 + (i : Int)) := rfl
      have v60 : kv O 60 (i : Int) = O 60 (64 + (i : Int)) := rfl
      have v61 : kv O 61 (i : Int) = O 61 (64 + (i : Int)) := rfl
      have v62 : kv O 62 (i : Int) = if O 62 (64 + (i : Int)) < 0 then -1 else O 62 (64 + (i : Int)) - 64 := rfl
      have v63 : kv O 63 (i : Int) = nrm (O 63 (64 + (i : Int)) - 64) := rfl
      have r62 := rO 62 (64 + (i : Int))
      have tl : pm_Wp none d 174 111 [some (.ref 56), some (.int (zI (i : Int)))] [] (zM (mset (mset (mset (mset (kn O i) 59 i (kv O 59 i)) 60 i (kv O 60 i)) 61 i (kv O 61 i)) 62 i (kv O 62 i)), Rf, K, L, n, s0) Q := by
        refine wp_aload_n d174_111 rfl ?_
        refine wp_getR (q := 63) d174_112 rfl (hG.o (by decide) rfl) (by decide) (hG.r (by decide +kernel)) (by decide) ?_
        refine wp_iload_n d174_115 rfl ?_
        refine wp_aload_n d174_116 rfl ?_
        refine wp_getR (q := 63) d174_117 rfl (hG.o (by decide) rfl) (by decide) (hG.r (by decide +kernel)) (by decide) ?_
        refine wz_bipush d174_120 (by decide) ?_
        refine wp_iload_n d174_122 rfl ?_
        refine wz_iadd d174_123 ?_
        refine wz_iald (z := 128) (v := O 63 (64 + (i : Int))) d174_124 (hG.a (by decide) rfl rfl) (by omega) (by omega) (by decide) (by rw [mset_p _ _ _ _ (by decide), mset_p _ _ _ _ (by decide), mset_p _ _ _ _ (by decide), mset_p _ _ _ _ (by decide)]; exact hs 63 (by decide) (by decide)) ?_
        refine wz_bipush d174_125 (by decide) ?_
        refine wz_isub d174_127 ?_
        rw [← nrm_zI (O 63 (64 + (i : Int)) - 64)]
        refine wz_iast (z := 128) d174_128 (hG.a (by decide) rfl rfl) (by omega) (by omega) (by decide) ?_
        rw [← v63, kn_succ]
        refine wz_iinc d174_129 rfl rfl ?_
        refine wp_goto (t := 24) d174_132 (by decide) ?_
        rw [show (i : Int) + 1 = ((i + 1 : Nat) : Int) by omega]
        exact ih (i + 1) O (by omega) h4 h29 rO hq
      refine wp_iload_n d174_24 rfl ?_
      refine wp_aload_n d174_25 rfl ?_
      refine wz_getI (v := (a : Int)) d174_26 rfl (hG.o (by decide) rfl) (by decide) (e4) ?_
      refine wz_icmp_ge (t := 135) d174_29 (by decide) ⟨by omega, by omega⟩ ⟨by omega, by omega⟩ (fun hb => absurd hb (by omega)) (fun _ => ?_)
      refine wp_aload_n d174_32 rfl ?_
      refine wp_getR (q := 59) d174_33 rfl (hG.o (by decide) rfl) (by decide) (hG.r (by decide +kernel)) (by decide) ?_
      refine wp_iload_n d174_36 rfl ?_
      refine wp_aload_n d174_37 rfl ?_
      refine wp_getR (q := 59) d174_38 rfl (hG.o (by decide) rfl) (by decide) (hG.r (by decide +kernel)) (by decide) ?_
      refine wz_bipush d174_41 (by decide) ?_
      refine wp_iload_n d174_43 rfl ?_
      refine wz_iadd d174_44 ?_
      refine wz_iald (z := 128) (v := O 59 (64 + (i : Int))) d174_45 (hG.a (by decide) rfl rfl) (by omega) (by omega) (by decide) (by first | exact hs 59 (by decide) (by decide) | exact (mset_p _ _ _ _ (by decide)).trans (hs 59 (by decide) (by decide)) | exact (mset_p _ _ _ _ (by decide)).trans ((mset_p _ _ _ _ (by decide)).trans (hs 59 (by decide) (by decide))) | exact (mset_p _ _ _ _ (by decide)).trans ((mset_p _ _ _ _ (by decide)).trans ((mset_p _ _ _ _ (by decide)).trans (hs 59 (by decide) (by decide))))) ?_
      refine wz_iast (z := 128) d174_46 (hG.a (by decide) rfl rfl) (by omega) (by omega) (by decide) ?_
      refine wp_aload_n d174_47 rfl ?_
      refine wp_getR (q := 60) d174_48 rfl (hG.o (by decide) rfl) (by decide) (hG.r (by decide +kernel)) (by decide) ?_
      refine wp_iload_n d174_51 rfl ?_
      refine wp_aload_n d174_52 rfl ?_
      refine wp_getR (q := 60) d174_53 rfl (hG.o (by decide) rfl) (by decide) (hG.r (by decide +kernel)) (by decide) ?_
      refine wz_bipush d174_56 (by decide) ?_
      refine wp_iload_n d174_58 rfl ?_
      refine wz_iadd d174_59 ?_
      refine wz_iald (z := 128) (v := O 60 (64 + (i : Int))) d174_60 (hG.a (by decide) rfl rfl) (by omega) (by omega) (by decide) (by first | exact hs 60 (by decide) (by decide) | exact (mset_p _ _ _ _ (by decide)).trans (hs 60 (by decide) (by decide)) | exact (mset_p _ _ _ _ (by decide)).trans ((mset_p _ _ _ _ (by decide)).trans (hs 60 (by decide) (by decide))) | exact (mset_p _ _ _ _ (by decide)).trans ((mset_p _ _ _ _ (by decide)).trans ((mset_p _ _ _ _ (by decide)).trans (hs 60 (by decide) (by decide))))) ?_
      refine wz_iast (z := 128) d174_61 (hG.a (by decide) rfl rfl) (by omega) (by omega) (by decide) ?_
      refine wp_aload_n d174_62 rfl ?_
      refine wp_getR (q := 61) d174_63 rfl (hG.o (by decide) rfl) (by decide) (hG.r (by decide +kernel)) (by decide) ?_
      refine wp_iload_n d174_66 rfl ?_
      refine wp_aload_n d174_67 rfl ?_
      refine wp_getR (q := 61) d174_68 rfl (hG.o (by decide) rfl) (by decide) (hG.r (by decide +kernel)) (by decide) ?_
      refine wz_bipush d174_71 (by decide) ?_
      refine wp_iload_n d174_73 rfl ?_
      refine wz_iadd d174_74 ?_
      refine wz_iald (z := 128) (v := O 61 (64 + (i : Int))) d174_75 (hG.a (by decide) rfl rfl) (by omega) (by omega) (by decide) (by first | exact hs 61 (by decide) (by decide) | exact (mset_p _ _ _ _ (by decide)).trans (hs 61 (by decide) (by decide)) | exact (mset_p _ _ _ _ (by decide)).trans ((mset_p _ _ _ _ (by decide)).trans (hs 61 (by decide) (by decide))) | exact (mset_p _ _ _ _ (by decide)).trans ((mset_p _ _ _ _ (by decide)).trans ((mset_p _ _ _ _ (by decide)).trans (hs 61 (by decide) (by decide))))) ?_
      refine wz_iast (z := 128) d174_76 (hG.a (by decide) rfl rfl) (by omega) (by omega) (by decide) ?_
      refine wp_aload_n d174_77 rfl ?_
      refine wp_getR (q := 62) d174_78 rfl (hG.o (by decide) rfl) (by decide) (hG.r (by decide +kernel)) (by decide) ?_
      refine wp_iload_n d174_81 rfl ?_
      refine wp_aload_n d174_82 rfl ?_
      refine wp_getR (q := 62) d174_83 rfl (hG.o (by decide) rfl) (by decide) (hG.r (by decide +kernel)) (by decide) ?_
      refine wz_bipush d174_86 (by decide) ?_
      refine wp_iload_n d174_88 rfl ?_
      refine wz_iadd d174_89 ?_
      refine wz_iald (z := 128) (v := O 62 (64 + (i : Int))) d174_90 (hG.a (by decide) rfl rfl) (by omega) (by omega) (by decide) (by first | exact hs 62 (by decide) (by decide) | exact (mset_p _ _ _ _ (by decide)).trans (hs 62 (by decide) (by decide)) | exact (mset_p _ _ _ _ (by decide)).trans ((mset_p _ _ _ _ (by decide)).trans (hs 62 (by decide) (by decide))) | exact (mset_p _ _ _ _ (by decide)).trans ((mset_p _ _ _ _ (by decide)).trans ((mset_p _ _ _ _ (by decide)).trans (hs 62 (by decide) (by decide))))) ?_
      refine wz_if_ge (t := 98) d174_91 (by decide) r62 (fun hb0 => ?_) (fun hb0 => ?_)
      · skip
        rw [if_neg (by omega)] at v62
        refine wp_aload_n d174_98 rfl ?_
        refine wp_getR (q := 62) d174_99 rfl (hG.o (by decide) rfl) (by decide) (hG.r (by decide +kernel)) (by decide) ?_
        refine wz_bipush d174_102 (by decide) ?_
        refine wp_iload_n d174_104 rfl ?_
        refine wz_iadd d174_105 ?_
        refine wz_iald (z := 128) (v := O 62 (64 + (i : Int))) d174_106 (hG.a (by decide) rfl rfl) (by omega) (by omega) (by decide) (by first | exact hs 62 (by decide) (by decide) | exact (mset_p _ _ _ _ (by decide)).trans (hs 62 (by decide) (by decide)) | exact (mset_p _ _ _ _ (by decide)).trans ((mset_p _ _ _ _ (by decide)).trans (hs 62 (by decide) (by decide))) | exact (mset_p _ _ _ _ (by decide)).trans ((mset_p _ _ _ _ (by decide)).trans ((mset_p _ _ _ _ (by decide)).trans (hs 62 (by decide) (by decide))))) ?_
        refine wz_bipush d174_107 (by decide) ?_
        refine wz_isub d174_109 ?_
        refine wz_iast (z := 128) d174_110 (hG.a (by decide) rfl rfl) (by omega) (by omega) (by decide) ?_
        rw [← v59, ← v60, ← v61, ← v62]
        exact tl
      · skip
        rw [if_pos (by omega)] at v62
        refine wz_iconst d174_94 ?_
        refine wp_goto (t := 110) d174_95 (by decide) ?_
        refine wz_iast (z := 128) d174_110 (hG.a (by decide) rfl rfl) (by omega) (by omega) (by decide) ?_
        rw [← v59, ← v60, ← v61, ← v62]
        exact tl
  refine wc_in (ls0 := [some (.ref 56), none]) (by decide) (Nat.le_of_ble_eq_true rfl) rfl rfl ?_
  refine wp_aload_n d174_0 rfl ?_
  refine wp_aload_n d174_1 rfl ?_
  refine wz_getI (v := ((64 + a : Nat) : Int)) d174_2 rfl (hG.o (by decide) rfl) (by decide) (ha) ?_
  refine wz_bipush d174_5 (by decide) ?_
  refine wz_isub d174_7 ?_
  rw [show ((64 + a : Nat) : Int) - 64 = (a : Int) by omega]
  refine wz_putI (i := 4) d174_8 rfl (hG.o (by decide) rfl) rfl (by decide) rfl ?_
  refine wp_aload_n d174_11 rfl ?_
  refine wp_aload_n d174_12 rfl ?_
  refine wz_getI (v := ((64 + b : Nat) : Int)) d174_13 rfl (hG.o (by decide) rfl) (by decide) ((mset_i _ _ _ _ (by decide)).trans hb) ?_
  refine wz_bipush d174_16 (by decide) ?_
  refine wz_isub d174_18 ?_
  rw [show ((64 + b : Nat) : Int) - 64 = (b : Int) by omega]
  refine wz_putI (i := 29) d174_19 rfl (hG.o (by decide) rfl) rfl (by decide) rfl ?_
  refine wz_iconst d174_22 ?_
  refine wp_istore_n d174_23 (Nat.le_of_ble_eq_true rfl) rfl ?_
  have q := l1 a 0 (mset (mset N 56 4 (a : Int)) 56 29 (b : Int)) (by omega) (by rw [mset_i _ _ _ _ (by decide), mset_s]) (mset_s _ _ _ _) (mset_R32 (mset_R32 hM ⟨by omega, by omega⟩) ⟨by omega, by omega⟩) h
  rw [kn_zero] at q
  exact q
end PmD6
