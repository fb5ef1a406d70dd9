/-! THE MODEL: settle. -/
theorem flat_hd {d : Nat} {t : Ty} (h : ok d t = true) : ∃ r, flat t = (hd t : Int) :: r := by
  rcases ok_cases h with rfl | ⟨k, -, rfl⟩ | ⟨a, b, rfl, -, -⟩ | ⟨a, b, rfl, -, -⟩ | ⟨m, x, y, z, hm, rfl, -, -, -⟩
  · exact ⟨_, flat_top⟩
  · exact ⟨_, flat_var k⟩
  · exact ⟨_, flat_fun a b⟩
  · exact ⟨_, flat_all a b⟩
  · exact ⟨_, flat_rec m x y z⟩
theorem hd_le {d : Nat} {t : Ty} (h : ok d t = true) : hd t < 16 + d + 16 := by
  rcases ok_cases h with rfl | ⟨k, hk, rfl⟩ | ⟨a, b, rfl, -, -⟩ | ⟨a, b, rfl, -, -⟩ | ⟨m, x, y, z, hm, rfl, -, -, -⟩
  · rw [hd_top]; omega
  · rw [hd_var]; omega
  · rw [hd_fun]; omega
  · rw [hd_all]; omega
  · rw [hd_rec]; omega
theorem hd_is_var {d : Nat} {t : Ty} (h : ok d t = true) (h1 : 16 ≤ hd t) : ∃ k, k < d ∧ t = tVar k := by
  rcases ok_cases h with rfl | ⟨k, hk, rfl⟩ | ⟨a, b, rfl, -, -⟩ | ⟨a, b, rfl, -, -⟩ | ⟨m, x, y, z, hm, rfl, -, -, -⟩
  · rw [hd_top] at h1; omega
  · exact ⟨k, hk, rfl⟩
  · rw [hd_fun] at h1; omega
  · rw [hd_all] at h1; omega
  · rw [hd_rec] at h1; omega
theorem hd_is_rec {d : Nat} {t : Ty} (h : ok d t = true) (h1 : 8 ≤ hd t) (h2 : hd t < 16) : ∃ m x y z, m < 8 ∧ t = tRec m x y z := by
  rcases ok_cases h with rfl | ⟨k, hk, rfl⟩ | ⟨a, b, rfl, -, -⟩ | ⟨a, b, rfl, -, -⟩ | ⟨m, x, y, z, hm, rfl, -, -, -⟩
  · rw [hd_top] at h1; omega
  · rw [hd_var] at h2; omega
  · rw [hd_fun] at h1; omega
  · rw [hd_all] at h1; omega
  · exact ⟨m, x, y, z, hm, rfl⟩
theorem flat_codes : ∀ (n : Nat) (t : Ty) (d : Nat), (flat t).length ≤ n → ok d t = true → ∀ c ∈ flat t, 0 ≤ c ∧ c < 32 + d + n
  | 0, t, d, hn, h => by
    obtain ⟨r, hr⟩ := flat_hd h
    rw [hr, List.length_cons] at hn
    omega
  | n + 1, t, d, hn, h => by
    intro c hc
    rcases ok_cases h with rfl | ⟨k, hk, rfl⟩ | ⟨a, b, rfl, ha, hb⟩ | ⟨a, b, rfl, ha, hb⟩ | ⟨m, x, y, z, hm, rfl, h0, h1, h2⟩
    · rw [flat_top, List.mem_singleton] at hc
      subst hc
      omega
    · rw [flat_var, List.mem_singleton] at hc
      subst hc
      omega
    · rw [flat_fun, List.length_cons, List.length_append] at hn
      rw [flat_fun, List.mem_cons, List.mem_append] at hc
      rcases hc with rfl | hc | hc
      · omega
      · have := flat_codes n a d (by omega) ha c hc; omega
      · have := flat_codes n b d (by omega) hb c hc; omega
    · rw [flat_all, List.length_cons, List.length_append] at hn
      rw [flat_all, List.mem_cons, List.mem_append] at hc
      rcases hc with rfl | hc | hc
      · omega
      · have := flat_codes n a d (by omega) ha c hc; omega
      · have := flat_codes n b (d + 1) (by omega) hb c hc; omega
    · rw [flat_rec, List.length_cons, List.length_append, List.length_append] at hn
      rw [flat_rec, List.mem_cons, List.mem_append, List.mem_append] at hc
      have key : ∀ (i : Nat) (v : Ty), (flat v).length ≤ n → okl d m i v → c ∈ flat v → 0 ≤ c ∧ c < 32 + d + (n + 1 : Nat) := by
        intro i v hv hk hcv
        by_cases hb : m / 2 ^ i % 2 = 1
        · have := flat_codes n v d hv (okl_on hk hb) c hcv; omega
        · rw [okl_off hk hb] at hcv; cases hcv
      rcases hc with rfl | hc | hc | hc
      · omega
      · exact key 0 x (by omega) h0 hc
      · exact key 1 y (by omega) h1 hc
      · exact key 2 z (by omega) h2 hc
theorem flat_R32 {t : Ty} {d : Nat} (h : ok d t = true) (hd : d ≤ 3000) (hl : (flat t).length ≤ 3000) : ∀ c ∈ flat t, R32 c := fun c hc => by
  have := flat_codes 3000 t d hl h c hc
  exact ⟨by omega, by omega⟩
theorem Ctx.okc {M : pm_M} {u x : Int} : ∀ {Γ : List Ty} {c : Int}, Ctx M u x c Γ → okc Γ
  | [], _, _ => trivial
  | b :: Γ, _, h => by
    obtain ⟨-, -, -, -, -, -, -, q7, q8⟩ := h
    exact ⟨q7, Ctx.okc q8⟩
theorem Ctx.bnd_len {M : pm_M} {u x : Int} {k : Nat} : ∀ {Γ : List Ty} {c : Int}, Ctx M u x c Γ → k < Γ.length → (flat (bnd Γ k)).length ≤ 16
  | [], _, _, h => absurd h (Nat.not_lt_zero _)
  | b :: Γ, _, h, hk => by
    obtain ⟨-, -, -, -, -, -, q6, -, q8⟩ := h
    unfold bnd
    split
    · exact q6
    · exact Ctx.bnd_len q8 (by simp only [List.length_cons] at hk; omega)
theorem lft_len (k j : Nat) (t : Ty) : (flat (lft k j t)).length = (flat t).length := by rw [flat_lft, List.length_map]
/-- a new row with these codes -/
theorem row_ext {M : pm_M} {u : Int} {l : List Int} (x k : Int) (hu : M 56 22 = u) : Ext M (mput (mset M 56 22 (u + 1)) 73 (17 * u) l) u x k := by
  intro p i h1 h2 h3 h4
  by_cases h : p = 73
  · subst h
    have := h2 rfl
    rw [mput_o _ _ _ _ (by omega), mset_p _ _ _ _ (by decide)]
  · rw [mput_p _ _ _ _ h]
    unfold mset
    rw [if_neg (fun e => (h1 e.1).1 e.2)]
theorem row_SI {M : pm_M} {u x k : Int} {l : List Int} (hM : ∀ p i, R32 (M p i)) (hu : M 56 22 = u) (hx : M 56 24 = x) (hk : M 56 34 = k) (hl : ∀ c ∈ l, R32 c) (u0 : 0 ≤ u) (u1 : u < 1100) : SI M (mput (mset M 56 22 (u + 1)) 73 (17 * u) l) u x k (u + 1) x [] := by
  refine ⟨row_ext x k hu, mput_R32 (mset_R32 hM ⟨by omega, by omega⟩) hl, ?_, ?_, by omega, by omega, ?_, trivial⟩
  · rw [mput_p _ _ _ _ (by decide), mset_s]
  · rw [mput_p _ _ _ _ (by decide), mset_i _ _ _ _ (by decide)]; exact hx
  · rw [mput_p _ _ _ _ (by decide), mset_i _ _ _ _ (by decide), hk]; simp
theorem row_new {M : pm_M} {u : Int} {l : List Int} : Row (mput (mset M 56 22 (u + 1)) 73 (17 * u) l) u 0 l := by
  have := mput_row l (mset M 56 22 (u + 1)) u 0
  rwa [Int.add_zero] at this
theorem bit8 : ∀ m, m < 8 → ∀ m', m' < 8 → (((8 + m) &&& (8 + m') = 8 + m') ↔ (m &&& m' = m')) := by decide
theorem all_SI {M N1 : pm_M} {u x k c : Int} {Γ : List Ty} {A : Ty} (hM : ∀ p i, R32 (M p i)) (hu : M 56 22 = u) (hx : M 56 24 = x) (hk : M 56 34 = k) (u0 : 0 ≤ u) (u1 : u < 1100) (x0 : 0 ≤ x) (x1 : x < 900) (hD : Γ.length < 2000) (hl : (flat A).length ≤ 16) (hA : ok Γ.length A = true) (hc : Ctx M u x c Γ) (hN : N1 = mset (mset (mset (mset (mput (mset M 56 22 (u + 1)) 73 (17 * u) (flat A)) 74 x c) 75 x (Γ.length : Int)) 76 x u) 56 24 (x + 1)) : SI M N1 u x k (u + 1) (x + 1) [] ∧ Ctx N1 (u + 1) (x + 1) x (A :: Γ) := by
  have hcr := hc.rng x0 (by omega)
  have s0 := row_SI hM hu hx hk (flat_R32 hA (by omega) (by omega)) u0 u1
  have r0 : Row (mput (mset M 56 22 (u + 1)) 73 (17 * u) (flat A)) u 0 (flat A) := row_new
  generalize mput (mset M 56 22 (u + 1)) 73 (17 * u) (flat A) = N0 at hN s0 r0
  have e4 : N1 74 x = c := by rw [hN, mset_p _ _ _ _ (by decide), mset_p _ _ _ _ (by decide), mset_p _ _ _ _ (by decide), mset_s]
  have e5 : N1 75 x = (Γ.length : Int) := by rw [hN, mset_p _ _ _ _ (by decide), mset_p _ _ _ _ (by decide), mset_s]
  have e6 : N1 76 x = u := by rw [hN, mset_p _ _ _ _ (by decide), mset_s]
  have hE : Ext N0 N1 (u + 1) x k := by
    intro p i h1 h2 h3 h4
    rw [hN]
    unfold mset
    have a1 : ¬ (p = 56 ∧ i = 24) := fun e => (h1 e.1).2.1 e.2
    have a2 : ¬ (p = 76 ∧ i = x) := fun e => by have := h3 (by omega); omega
    have a3 : ¬ (p = 75 ∧ i = x) := fun e => by have := h3 (by omega); omega
    have a4 : ¬ (p = 74 ∧ i = x) := fun e => by have := h3 (by omega); omega
    rw [if_neg a1, if_neg a2, if_neg a3, if_neg a4]
  have hE2 : Ext M N1 u x k := s0.ext.trans hE (by omega) (by omega) (by omega)
  have er : ∀ i, N1 73 i = N0 73 i := fun i => by rw [hN, mset_p _ _ _ _ (by decide), mset_p _ _ _ _ (by decide), mset_p _ _ _ _ (by decide), mset_p _ _ _ _ (by decide)]
  refine ⟨⟨hE2, ?_, ?_, ?_, by omega, by omega, ?_, trivial⟩, x0, by omega, e5, by rw [e6]; exact u0, by rw [e6]; omega, ?_, hl, hA, ?_⟩
  · rw [hN]
    exact mset_R32 (mset_R32 (mset_R32 (mset_R32 s0.r32 ⟨by omega, by omega⟩) ⟨by omega, by omega⟩) ⟨by omega, by omega⟩) ⟨by omega, by omega⟩
  · rw [hN, mset_i _ _ _ _ (by decide), mset_p _ _ _ _ (by decide), mset_p _ _ _ _ (by decide), mset_p _ _ _ _ (by decide)]; exact s0.hu
  · rw [hN, mset_s]
  · rw [hN, mset_i _ _ _ _ (by decide), mset_p _ _ _ _ (by decide), mset_p _ _ _ _ (by decide), mset_p _ _ _ _ (by decide)]; exact s0.hk
  · rw [e6]; exact Row.same (fun i _ _ => er _) r0
  · rw [e4]; exact hE2.ctx (by omega) (by omega) hc
section PmM7
variable {d : Nat} {Q : Option Value → pm_S → Prop} {M N : pm_M} {Rf : Nat → Nat → Nat} {K L : Nat → Nat} {n s : Nat}
set_option maxRecDepth 20000 in
set_option maxHeartbeats 1000000 in
theorem settle_fun {u x k a p b q c : Int} {Γ : List Ty} {A C A' C' : Ty} {o9 o10 o11 : Option Value}  (hG : pm_G Rf K L n) (hM : ∀ p i, R32 (M p i)) (hu : M 56 22 = u) (hx : M 56 24 = x) (hk : M 56 34 = k) (k0 : 0 ≤ k) (k1 : k + 3 ≤ 300) (u1 : u < 1100) (x0 : 0 ≤ x) (x1 : x < 900) (hD : Γ.length < 2000) (t : TH M u x a p b q c (Γ.length : Int) (Γ, tFun A C, tFun A' C')) (h : ∀ (N : pm_M) (u' x' : Int) (l : List Tsk) (v : Int), SI M N u x k u' x' l → u' ≤ u + (rst (tFun A C) (tFun A' C') : Nat) → x' ≤ x + (rst (tFun A C) (tFun A' C') : Nat) → (stp Γ (tFun A C) (tFun A' C') = some l ∧ v = 1 ∨ stp Γ (tFun A C) (tFun A' C') = none ∧ v = 0) → Q (some (.int (zI v))) (zM N, Rf, K, L, n, s))  : pm_Wp none (d + 5) 162 187 [some (.ref 56), some (.int (zI a)), some (.int (zI p)), some (.int (zI b)), some (.int (zI q)), some (.int (zI c)), some (.int (zI (Γ.length : Int))), some (.int (zI 1)), some (.int (zI 1)), o9, o10, o11] [] (zM M, Rf, K, L, n, s) Q := by
  have t1 := t.a0; have t2 := t.a1; have t3 := t.p0; have t4 := t.p1; have t5 := t.b0; have t6 := t.b1; have t7 := t.q0; have t8 := t.q1
  simp only at t4 t8
  have r1 := t.ra
  have r2 := t.rb
  simp only at r1 r2
  rw [flat_fun] at r1 r2 t4 t8
  rw [List.length_cons, List.length_append] at t4 t8
  obtain ⟨-, r1⟩ := r1
  obtain ⟨-, r2⟩ := r2
  have r1a := (Row.app.mp r1).1
  have r1c := (Row.app.mp r1).2
  have r2a := (Row.app.mp r2).1
  have r2c := (Row.app.mp r2).2
  obtain ⟨hc, hS, hT⟩ := t.ok
  have hS := ok_fun.mp hS
  have hT := ok_fun.mp hT
  have T1 : TH M u x b (q + 1) a (p + 1) c (Γ.length : Int) (Γ, A', A) := ⟨t5, t6, by omega, by simp only; omega, r2a, t1, t2, by omega, by simp only; omega, r1a, t.hc, rfl, hc, hT.1, hS.1⟩
  have T2 : TH M u x a (p + 1 + (flat A).length) b (q + 1 + (flat A').length) c (Γ.length : Int) (Γ, C, C') := ⟨t1, t2, by omega, by simp only; omega, r1c, t5, t6, by omega, by simp only; omega, r2c, t.hc, rfl, hc, hS.2, hT.2⟩
  refine wp_aload_n d162_187 rfl ?_
  refine wp_iload_n d162_188 rfl ?_
  refine wp_iload_n d162_189 rfl ?_
  refine wz_iconst d162_190 ?_
  refine wz_iadd d162_191 ?_
  refine wp_virt (as := [.int (zI (p + 1)), .int (zI (a))]) (rest := []) d162_192 rfl rfl rfl (hG.o (by decide) rfl) rfl rfl (Nat.le_of_ble_eq_true rfl) ?_
  refine m_end (l := flat A) hG hM t1 (by omega) (by omega) (by omega) r1a (ok_pre A _ hS.1) ?_
  refine wp_istore d162_195 (Nat.le_of_ble_eq_true rfl) rfl ?_
  refine wp_aload_n d162_197 rfl ?_
  refine wp_iload_n d162_198 rfl ?_
  refine wp_iload d162_199 rfl ?_
  refine wz_iconst d162_201 ?_
  refine wz_iadd d162_202 ?_
  refine wp_virt (as := [.int (zI (q + 1)), .int (zI (b))]) (rest := []) d162_203 rfl rfl rfl (hG.o (by decide) rfl) rfl rfl (Nat.le_of_ble_eq_true rfl) ?_
  refine m_end (l := flat A') hG hM t5 (by omega) (by omega) (by omega) r2a (ok_pre A' _ hT.1) ?_
  refine wp_istore d162_206 (Nat.le_of_ble_eq_true rfl) rfl ?_
  refine wp_iload d162_208 rfl ?_
  refine wz_iconst d162_210 ?_
  refine wz_icmp_ne (t := 247) d162_211 (by decide) (⟨by omega, by omega⟩) (⟨by omega, by omega⟩) (fun hb => absurd (by decide) hb) (fun _ => ?_)
  refine wp_aload_n d162_214 rfl ?_
  refine wp_iload_n d162_215 rfl ?_
  refine wp_iload d162_216 rfl ?_
  refine wz_iconst d162_218 ?_
  refine wz_iadd d162_219 ?_
  refine wp_iload_n d162_220 rfl ?_
  refine wp_iload_n d162_221 rfl ?_
  refine wz_iconst d162_222 ?_
  refine wz_iadd d162_223 ?_
  refine wp_iload d162_224 rfl ?_
  refine wp_iload d162_226 rfl ?_
  refine wp_virt (as := [.int (zI ((Γ.length : Int))), .int (zI (c)), .int (zI (p + 1)), .int (zI (a)), .int (zI (q + 1)), .int (zI (b))]) (rest := []) d162_228 rfl rfl rfl (hG.o (by decide) rfl) rfl rfl (Nat.le_of_ble_eq_true rfl) ?_
  refine m_poseS hG (⟨Ext.refl M u x k, hM, hu, hx, Int.le_refl _, Int.le_refl _, by rw [hk]; simp, trivial⟩ : SI M M u x k u x []) T1 k0 (by simp only [List.length_nil]; omega) (by omega) (by omega) (by omega) (by simp only; omega) (fun N1 s1 e1 => ?_)
  refine wp_aload_n d162_231 rfl ?_
  refine wp_iload_n d162_232 rfl ?_
  refine wp_iload d162_233 rfl ?_
  refine wp_iload_n d162_235 rfl ?_
  refine wp_iload d162_236 rfl ?_
  refine wp_iload d162_238 rfl ?_
  refine wp_iload d162_240 rfl ?_
  refine wp_virt (as := [.int (zI ((Γ.length : Int))), .int (zI (c)), .int (zI (q + 1 + (flat A').length)), .int (zI (b)), .int (zI (p + 1 + (flat A).length)), .int (zI (a))]) (rest := []) d162_242 rfl rfl rfl (hG.o (by decide) rfl) rfl rfl (Nat.le_of_ble_eq_true rfl) ?_
  refine m_poseS hG s1 (T2.mono e1 (Int.le_refl _) (Int.le_refl _)) k0 (by simp only [List.length_cons, List.length_nil]; omega) (by omega) (by omega) (by omega) (by simp only; omega) (fun N2 s2 e2 => ?_)
  refine wz_iconst d162_245 ?_
  exact wp_ret d162_246 rfl (h N2 u x _ 1 s2 (by omega) (by omega) (Or.inl ⟨rfl, rfl⟩))
set_option maxRecDepth 20000 in
set_option maxHeartbeats 1000000 in
theorem settle_all {u x k a p b q c : Int} {Γ : List Ty} {A C A' C' : Ty} {o9 o10 o11 : Option Value}  (hG : pm_G Rf K L n) (hM : ∀ p i, R32 (M p i)) (hu : M 56 22 = u) (hx : M 56 24 = x) (hk : M 56 34 = k) (k0 : 0 ≤ k) (k1 : k + 3 ≤ 300) (u1 : u < 1100) (x0 : 0 ≤ x) (x1 : x < 900) (hD : Γ.length < 2000) (t : TH M u x a p b q c (Γ.length : Int) (Γ, tAll A C, tAll A' C')) (h : ∀ (N : pm_M) (u' x' : Int) (l : List Tsk) (v : Int), SI M N u x k u' x' l → u' ≤ u + (rst (tAll A C) (tAll A' C') : Nat) → x' ≤ x + (rst (tAll A C) (tAll A' C') : Nat) → (stp Γ (tAll A C) (tAll A' C') = some l ∧ v = 1 ∨ stp Γ (tAll A C) (tAll A' C') = none ∧ v = 0) → Q (some (.int (zI v))) (zM N, Rf, K, L, n, s))  : pm_Wp none (d + 5) 162 187 [some (.ref 56), some (.int (zI a)), some (.int (zI p)), some (.int (zI b)), some (.int (zI q)), some (.int (zI c)), some (.int (zI (Γ.length : Int))), some (.int (zI 2)), some (.int (zI 2)), o9, o10, o11] [] (zM M, Rf, K, L, n, s) Q := by
  have t1 := t.a0; have t2 := t.a1; have t3 := t.p0; have t4 := t.p1; have t5 := t.b0; have t6 := t.b1; have t7 := t.q0; have t8 := t.q1
  simp only at t4 t8
  have r1 := t.ra
  have r2 := t.rb
  simp only at r1 r2
  rw [flat_all] at r1 r2 t4 t8
  rw [List.length_cons, List.length_append] at t4 t8
  obtain ⟨-, r1⟩ := r1
  obtain ⟨-, r2⟩ := r2
  have r1a := (Row.app.mp r1).1
  have r1c := (Row.app.mp r1).2
  have r2a := (Row.app.mp r2).1
  have r2c := (Row.app.mp r2).2
  obtain ⟨hc, hS, hT⟩ := t.ok
  have hS := ok_all.mp hS
  have hT := ok_all.mp hT
  have hM1 : ∀ p i, R32 (mset M 56 22 (u + 1) p i) := mset_R32 hM ⟨by omega, by omega⟩
  have hcr := t.hc.rng x0 (by omega)
  refine wp_aload_n d162_187 rfl ?_
  refine wp_iload_n d162_188 rfl ?_
  refine wp_iload_n d162_189 rfl ?_
  refine wz_iconst d162_190 ?_
  refine wz_iadd d162_191 ?_
  refine wp_virt (as := [.int (zI (p + 1)), .int (zI (a))]) (rest := []) d162_192 rfl rfl rfl (hG.o (by decide) rfl) rfl rfl (Nat.le_of_ble_eq_true rfl) ?_
  refine m_end (l := flat A) hG hM t1 (by omega) (by omega) (by omega) r1a (ok_pre A _ hS.1) ?_
  refine wp_istore d162_195 (Nat.le_of_ble_eq_true rfl) rfl ?_
  refine wp_aload_n d162_197 rfl ?_
  refine wp_iload_n d162_198 rfl ?_
  refine wp_iload d162_199 rfl ?_
  refine wz_iconst d162_201 ?_
  refine wz_iadd d162_202 ?_
  refine wp_virt (as := [.int (zI (q + 1)), .int (zI (b))]) (rest := []) d162_203 rfl rfl rfl (hG.o (by decide) rfl) rfl rfl (Nat.le_of_ble_eq_true rfl) ?_
  refine m_end (l := flat A') hG hM t5 (by omega) (by omega) (by omega) r2a (ok_pre A' _ hT.1) ?_
  refine wp_istore d162_206 (Nat.le_of_ble_eq_true rfl) rfl ?_
  refine wp_iload d162_208 rfl ?_
  refine wz_iconst d162_210 ?_
  refine wz_icmp_ne (t := 247) d162_211 (by decide) (⟨by omega, by omega⟩) (⟨by omega, by omega⟩) (fun _ => ?_) (fun hb => absurd hb (by decide))
  refine wp_aload_n d162_247 rfl ?_
  refine wp_iload_n d162_248 rfl ?_
  refine wp_iload_n d162_249 rfl ?_
  refine wz_iconst d162_250 ?_
  refine wz_iadd d162_251 ?_
  refine wp_iload_n d162_252 rfl ?_
  refine wp_iload d162_253 rfl ?_
  refine wz_iconst d162_255 ?_
  refine wz_iadd d162_256 ?_
  refine wp_virt (as := [.int (zI (q + 1)), .int (zI (b)), .int (zI (p + 1)), .int (zI (a))]) (rest := []) d162_257 rfl rfl rfl (hG.o (by decide) rfl) rfl rfl (Nat.le_of_ble_eq_true rfl) ?_
  refine m_equal (l := flat A) (m := flat A') hG hM t1 (by omega) (by omega) (by omega) t5 (by omega) (by omega) (by omega) r1a (ok_pre A _ hS.1) r2a (ok_pre A' _ hT.1) (fun hEq => ?_) (fun hNe => ?_)
  · skip
    refine wz_if_ne (t := 265) d162_260 (by decide) (⟨by omega, by omega⟩) (fun _ => ?_) (fun hb => absurd hb (by decide))
    refine wp_aload_n d162_265 rfl ?_
    refine wp_virt (as := []) (rest := []) d162_266 rfl rfl rfl (hG.o (by decide) rfl) rfl rfl (Nat.le_of_ble_eq_true rfl) ?_
    refine m_fresh hG hu ?_
    refine wp_istore d162_269 (Nat.le_of_ble_eq_true rfl) rfl ?_
    refine wp_aload_n d162_271 rfl ?_
    refine wp_iload_n d162_272 rfl ?_
    refine wp_iload_n d162_273 rfl ?_
    refine wz_iconst d162_274 ?_
    refine wz_iadd d162_275 ?_
    refine wp_iload d162_276 rfl ?_
    refine wz_iconst d162_278 ?_
    refine wp_virt (as := [.int (zI (0)), .int (zI (u)), .int (zI (p + 1)), .int (zI (a))]) (rest := []) d162_279 rfl rfl rfl (hG.o (by decide) rfl) rfl rfl (Nat.le_of_ble_eq_true rfl) ?_
    refine m_copy (l := flat A) hG hM1 t1 (by omega) (by omega) (by omega) (by omega) (by omega) (by omega) (by omega) (by omega) (Row.same (fun i _ _ => mset_p _ _ _ _ (by decide)) r1a) (ok_pre A _ hS.1) ?_
    rw [Int.add_zero]
    refine wp_aload_n d162_282 rfl ?_
    refine wp_iload_n d162_283 rfl ?_
    refine wp_iload d162_284 rfl ?_
    refine wp_iload_n d162_286 rfl ?_
    refine wp_iload d162_287 rfl ?_
    refine wp_aload_n d162_289 rfl ?_
    refine wp_iload d162_290 rfl ?_
    refine wp_iload d162_292 rfl ?_
    refine wp_iload d162_294 rfl ?_
    refine wp_virt (as := [.int (zI (u)), .int (zI ((Γ.length : Int))), .int (zI (c))]) (rest := [.int (zI (q + 1 + (flat A').length)), .int (zI (b)), .int (zI (p + 1 + (flat A).length)), .int (zI (a)), .ref 56]) d162_296 rfl rfl rfl (hG.o (by decide) rfl) rfl rfl (Nat.le_of_ble_eq_true rfl) ?_
    refine m_context (cx := x) hG (by rw [mput_p _ _ _ _ (by decide), mset_i _ _ _ _ (by decide)]; exact hx) x0 x1 ?_
    rw [show x + 1 - 1 = x by omega]
    obtain ⟨N1, hN1⟩ : ∃ N1, N1 = mset (mset (mset (mset (mput (mset M 56 22 (u + 1)) 73 (17 * u) (flat A)) 74 x c) 75 x (Γ.length : Int)) 76 x u) 56 24 (x + 1) := ⟨_, rfl⟩
    rw [← hN1]
    obtain ⟨s1, c1⟩ := all_SI hM hu hx hk (by omega) u1 x0 x1 hD (by omega) hS.1 t.hc hN1
    have T1 : TH N1 (u + 1) (x + 1) a (p + 1 + (flat A).length) b (q + 1 + (flat A').length) x ((Γ.length : Int) + 1) (A :: Γ, C, C') := ⟨t1, by omega, by omega, by simp only; omega, Ext.row (l := flat C) s1.ext t2 (by omega) r1c, t5, by omega, by omega, by simp only; omega, Ext.row (l := flat C') s1.ext t6 (by omega) r2c, c1, by simp, ⟨hS.1, hc⟩, hS.2, hT.2⟩
    refine wp_iload d162_299 rfl ?_
    refine wz_iconst d162_301 ?_
    refine wz_iadd d162_302 ?_
    refine wp_virt (as := [.int (zI (((Γ.length : Int)) + 1)), .int (zI (x)), .int (zI (q + 1 + (flat A').length)), .int (zI (b)), .int (zI (p + 1 + (flat A).length)), .int (zI (a))]) (rest := []) d162_303 rfl rfl rfl (hG.o (by decide) rfl) rfl rfl (Nat.le_of_ble_eq_true rfl) ?_
    refine m_poseS hG s1 T1 k0 (by simp only [List.length_nil]; omega) (by omega) (by omega) (by omega) (by simp only [List.length_cons]; omega) (fun N2 s2 e2 => ?_)
    refine wz_iconst d162_306 ?_
    refine wp_ret d162_307 rfl (h N2 (u + 1) (x + 1) _ 1 s2 (by rw [rst_all]; omega) (by rw [rst_all]; omega) (Or.inl ⟨?_, rfl⟩))
    unfold stp
    rw [if_neg (by rw [hd_all, hd_all]; omega), if_neg (by rw [hd_all]; omega), if_neg (by rw [hd_all, hd_all]; omega), if_neg (by rw [hd_all, hd_all]; omega), if_neg (by rw [hd_all]; omega)]
    exact if_pos hEq
  · skip
    refine wz_if_ne (t := 265) d162_260 (by decide) (⟨by omega, by omega⟩) (fun hb => absurd (by decide) hb) (fun _ => ?_)
    refine wz_iconst d162_263 ?_
    refine wp_ret d162_264 rfl (h M u x [] 0 (⟨Ext.refl M u x k, hM, hu, hx, Int.le_refl _, Int.le_refl _, by rw [hk]; simp, trivial⟩ : SI M M u x k u x []) (by omega) (by omega) (Or.inr ⟨?_, rfl⟩))
    unfold stp
    rw [if_neg (by rw [hd_all, hd_all]; omega), if_neg (by rw [hd_all]; omega), if_neg (by rw [hd_all, hd_all]; omega), if_neg (by rw [hd_all, hd_all]; omega), if_neg (by rw [hd_all]; omega)]
    exact if_neg hNe
theorem TH_field0 {M : pm_M} {u x a p b q c D : Int} {Γ : List Ty} {m m' : Nat} {X0 X1 X2 Y0 Y1 Y2 : Ty} (hm : m < 8) (hm' : m' < 8) (t : TH M u x a p b q c D (Γ, tRec m X0 X1 X2, tRec m' Y0 Y1 Y2)) (h1 : bit m 0 = true) (h2 : bit m' 0 = true) : TH M u x a (p + 1 + fpos X0 X1 0) b (q + 1 + fpos Y0 Y1 0) c D (Γ, X0, Y0) := by
  have t1 := t.a0; have t2 := t.a1; have t3 := t.p0; have t4 := t.p1; have t5 := t.b0; have t6 := t.b1; have t7 := t.q0; have t8 := t.q1
  have r1 := t.ra
  have r2 := t.rb
  obtain ⟨hc, hS, hT⟩ := t.ok
  have hS := (ok_rec hm).mp hS
  have hT := (ok_rec hm').mp hT
  simp only at r1 r2 t4 t8
  rw [flat_rec] at r1 r2 t4 t8
  simp only [List.length_cons, List.length_append] at t4 t8
  obtain ⟨-, r1⟩ := r1
  obtain ⟨-, r2⟩ := r2
  have f1 := Row.app.mp r1
  have f2 := Row.app.mp r2
  have g1 := Row.app.mp f1.2
  have g2 := Row.app.mp f2.2
  have e1 : fpos X0 X1 0 = (0 : Nat) := rfl
  have e2 : fpos Y0 Y1 0 = (0 : Nat) := rfl
  rw [show p + 1 + (fpos X0 X1 0 : Int) = p + 1 by omega, show q + 1 + (fpos Y0 Y1 0 : Int) = q + 1 by omega]
  exact ⟨t1, t2, by omega, by simp only; omega, f1.1, t5, t6, by omega, by simp only; omega, f2.1, t.hc, t.hD, hc, okl_on hS.1 (bit_iff.mp h1), okl_on hT.1 (bit_iff.mp h2)⟩
theorem TH_field1 {M : pm_M} {u x a p b q c D : Int} {Γ : List Ty} {m m' : Nat} {X0 X1 X2 Y0 Y1 Y2 : Ty} (hm : m < 8) (hm' : m' < 8) (t : TH M u x a p b q c D (Γ, tRec m X0 X1 X2, tRec m' Y0 Y1 Y2)) (h1 : bit m 1 = true) (h2 : bit m' 1 = true) : TH M u x a (p + 1 + fpos X0 X1 1) b (q + 1 + fpos Y0 Y1 1) c D (Γ, X1, Y1) := by
  have t1 := t.a0; have t2 := t.a1; have t3 := t.p0; have t4 := t.p1; have t5 := t.b0; have t6 := t.b1; have t7 := t.q0; have t8 := t.q1
  have r1 := t.ra
  have r2 := t.rb
  obtain ⟨hc, hS, hT⟩ := t.ok
  have hS := (ok_rec hm).mp hS
  have hT := (ok_rec hm').mp hT
  simp only at r1 r2 t4 t8
  rw [flat_rec] at r1 r2 t4 t8
  simp only [List.length_cons, List.length_append] at t4 t8
  obtain ⟨-, r1⟩ := r1
  obtain ⟨-, r2⟩ := r2
  have f1 := Row.app.mp r1
  have f2 := Row.app.mp r2
  have g1 := Row.app.mp f1.2
  have g2 := Row.app.mp f2.2
  have e1 : fpos X0 X1 1 = (flat X0).length := rfl
  have e2 : fpos Y0 Y1 1 = (flat Y0).length := rfl
  rw [show p + 1 + (fpos X0 X1 1 : Int) = p + 1 + (flat X0).length by omega, show q + 1 + (fpos Y0 Y1 1 : Int) = q + 1 + (flat Y0).length by omega]
  exact ⟨t1, t2, by omega, by simp only; omega, g1.1, t5, t6, by omega, by simp only; omega, g2.1, t.hc, t.hD, hc, okl_on hS.2.1 (bit_iff.mp h1), okl_on hT.2.1 (bit_iff.mp h2)⟩
theorem TH_field2 {M : pm_M} {u x a p b q c D : Int} {Γ : List Ty} {m m' : Nat} {X0 X1 X2 Y0 Y1 Y2 : Ty} (hm : m < 8) (hm' : m' < 8) (t : TH M u x a p b q c D (Γ, tRec m X0 X1 X2, tRec m' Y0 Y1 Y2)) (h1 : bit m 2 = true) (h2 : bit m' 2 = true) : TH M u x a (p + 1 + fpos X0 X1 2) b (q + 1 + fpos Y0 Y1 2) c D (Γ, X2, Y2) := by
  have t1 := t.a0; have t2 := t.a1; have t3 := t.p0; have t4 := t.p1; have t5 := t.b0; have t6 := t.b1; have t7 := t.q0; have t8 := t.q1
  have r1 := t.ra
  have r2 := t.rb
  obtain ⟨hc, hS, hT⟩ := t.ok
  have hS := (ok_rec hm).mp hS
  have hT := (ok_rec hm').mp hT
  simp only at r1 r2 t4 t8
  rw [flat_rec] at r1 r2 t4 t8
  simp only [List.length_cons, List.length_append] at t4 t8
  obtain ⟨-, r1⟩ := r1
  obtain ⟨-, r2⟩ := r2
  have f1 := Row.app.mp r1
  have f2 := Row.app.mp r2
  have g1 := Row.app.mp f1.2
  have g2 := Row.app.mp f2.2
  have e1 : fpos X0 X1 2 = (flat X0).length + (flat X1).length := rfl
  have e2 : fpos Y0 Y1 2 = (flat Y0).length + (flat Y1).length := rfl
  rw [show p + 1 + (fpos X0 X1 2 : Int) = p + 1 + (flat X0).length + (flat X1).length by omega, show q + 1 + (fpos Y0 Y1 2 : Int) = q + 1 + (flat Y0).length + (flat Y1).length by omega]
  exact ⟨t1, t2, by omega, by simp only; omega, g1.2, t5, t6, by omega, by simp only; omega, g2.2, t.hc, t.hD, hc, okl_on hS.2.2 (bit_iff.mp h1), okl_on hT.2.2 (bit_iff.mp h2)⟩
set_option maxRecDepth 20000 in
set_option maxHeartbeats 1000000 in
theorem settle_rec3 {u x k u2 x2 : Int} {a p b q c D : Option Value} {Γ : List Ty} {m m' : Nat} {X0 X1 X2 Y0 Y1 Y2 : Ty} {o10 o11 : Option Value} (hG : pm_G Rf K L n) (hm : m < 8) (hm' : m' < 8) (s2 : SI M N u x k u2 x2 ((if bit m' 2 = true ∧ bit m 2 = true then [(Γ, X2, Y2)] else []) ++ ((if bit m' 1 = true ∧ bit m 1 = true then [(Γ, X1, Y1)] else []) ++ ((if bit m' 0 = true ∧ bit m 0 = true then [(Γ, X0, Y0)] else []) ++ [])))) (h : ∀ (N : pm_M) (u' x' : Int) (l : List Tsk) (v : Int), SI M N u x k u' x' l → u' ≤ u + (rst (tRec m X0 X1 X2) (tRec m' Y0 Y1 Y2) : Nat) → x' ≤ x + (rst (tRec m X0 X1 X2) (tRec m' Y0 Y1 Y2) : Nat) → (stp Γ (tRec m X0 X1 X2) (tRec m' Y0 Y1 Y2) = some l ∧ v = 1 ∨ stp Γ (tRec m X0 X1 X2) (tRec m' Y0 Y1 Y2) = none ∧ v = 0) → Q (some (.int (zI v))) (zM N, Rf, K, L, n, s)) (hu2 : u2 ≤ u) (hx2 : x2 ≤ x) : pm_Wp none (d + 5) 162 96 [some (.ref 56), a, p, b, q, c, D, some (.int (zI ((8 + m : Nat) : Int))), some (.int (zI ((8 + m' : Nat) : Int))), some (.int (zI 3)), o10, o11] [] (zM N, Rf, K, L, n, s) Q := by
  have b8 := bit8 m hm m' hm'
  have q1 : (((8 + m : Nat) : Int)).toNat = 8 + m := by omega
  have q2 : (((8 + m' : Nat) : Int)).toNat = 8 + m' := by omega
  have le : (8 + m) &&& (8 + m') ≤ 8 + m := Nat.and_le_left
  have hst : stp Γ (tRec m X0 X1 X2) (tRec m' Y0 Y1 Y2) = (if m &&& m' = m' then some (stl Γ m' 2 X2 Y2 ++ (stl Γ m' 1 X1 Y1 ++ stl Γ m' 0 X0 Y0)) else none) := by
    unfold stp
    rw [if_neg (by rw [hd_rec, hd_rec]; omega), if_neg (by rw [hd_rec]; omega), if_pos (by rw [hd_rec, hd_rec]; omega), hd_rec, hd_rec, show 8 + m - 8 = m by omega, show 8 + m' - 8 = m' by omega]
    rfl
  have hb : ∀ i (z : Ty) (y : Ty), m &&& m' = m' → (if bit m' i = true ∧ bit m i = true then [(Γ, z, y)] else []) = stl Γ m' i z y := by
    intro i z y hand
    unfold stl
    by_cases hb : bit m' i = true
    · rw [if_pos hb, if_pos ⟨hb, bit_iff.mpr (and_bit hand (bit_iff.mp hb))⟩]
    · rw [if_neg hb, if_neg (fun e => hb e.1)]
  refine wp_iload d162_96 rfl ?_
  refine wz_iconst d162_98 ?_
  refine wz_icmp_ge (t := 157) d162_99 (by decide) (⟨by omega, by omega⟩) (⟨by omega, by omega⟩) (fun _ => ?_) (fun hb => absurd (by decide) hb)
  refine wp_iload d162_157 rfl ?_
  refine wp_iload d162_159 rfl ?_
  refine wz_iand d162_161 (by omega) (by omega) ?_
  refine wp_iload d162_162 rfl ?_
  refine wz_icmp_ne (t := 171) d162_164 (by decide) (⟨by rw [q1, q2]; omega, by rw [q1, q2]; omega⟩) (⟨by omega, by omega⟩) (fun hb164 => ?_) (fun hb164 => ?_)
  · skip
    refine wz_iconst d162_171 ?_
    rw [q1, q2] at hb164
    have hand : ¬ m &&& m' = m' := fun e => hb164 (by have := b8.mpr e; omega)
    refine wp_ret d162_172 rfl (h N u2 x2 _ 0 s2 (by omega) (by omega) (Or.inr ⟨?_, rfl⟩))
    rw [hst, if_neg hand]
  · skip
    refine wz_iconst d162_167 ?_
    refine wp_goto (t := 172) d162_168 (by decide) ?_
    rw [q1, q2] at hb164
    have hand : m &&& m' = m' := b8.mp (by omega)
    refine wp_ret d162_172 rfl (h N u2 x2 _ 1 s2 (by omega) (by omega) (Or.inl ⟨?_, rfl⟩))
    rw [hst, if_pos hand, hb 2 X2 Y2 hand, hb 1 X1 Y1 hand, hb 0 X0 Y0 hand, List.append_nil]
set_option maxRecDepth 20000 in
set_option maxHeartbeats 1000000 in
theorem settle_rec0 {u x k a p b q c : Int} {Γ : List Ty} {m m' : Nat} {X0 X1 X2 Y0 Y1 Y2 : Ty} {l : List Tsk} {o10 o11 : Option Value} (hG : pm_G Rf K L n) (hs : SI M N u x k u x l) (k0 : 0 ≤ k) (k1 : k + l.length < 300) (u1 : u < 1100) (x0 : 0 ≤ x) (x1 : x < 900) (hD : Γ.length < 2000) (hm : m < 8) (hm' : m' < 8) (t : TH N u x a p b q c (Γ.length : Int) (Γ, tRec m X0 X1 X2, tRec m' Y0 Y1 Y2)) (h : ∀ N', SI M N' u x k u x ((if bit m' 0 = true ∧ bit m 0 = true then [(Γ, X0, Y0)] else []) ++ l) → Ext N N' u x (k + l.length) → pm_Wp none (d + 5) 162 96 [some (.ref 56), some (.int (zI a)), some (.int (zI p)), some (.int (zI b)), some (.int (zI q)), some (.int (zI c)), some (.int (zI (Γ.length : Int))), some (.int (zI ((8 + m : Nat) : Int))), some (.int (zI ((8 + m' : Nat) : Int))), some (.int (zI 1)), o10, o11] [] (zM N', Rf, K, L, n, s) Q) : pm_Wp none (d + 5) 162 96 [some (.ref 56), some (.int (zI a)), some (.int (zI p)), some (.int (zI b)), some (.int (zI q)), some (.int (zI c)), some (.int (zI (Γ.length : Int))), some (.int (zI ((8 + m : Nat) : Int))), some (.int (zI ((8 + m' : Nat) : Int))), some (.int (zI 0)), o10, o11] [] (zM N, Rf, K, L, n, s) Q := by
  have t1 := t.a0; have t2 := t.a1; have t3 := t.p0; have t4 := t.p1; have t5 := t.b0; have t6 := t.b1; have t7 := t.q0; have t8 := t.q1
  have r1 := t.ra
  have r2 := t.rb
  simp only at r1 r2 t4 t8
  obtain ⟨hc, hS, hT⟩ := t.ok
  have hS := (ok_rec hm).mp hS
  have hT := (ok_rec hm').mp hT
  have i1 := @bit_iff m 0
  have i2 := @bit_iff m' 0
  simp only [Nat.reducePow] at i1 i2
  refine wp_iload d162_96 rfl ?_
  refine wz_iconst d162_98 ?_
  refine wz_icmp_ge (t := 157) d162_99 (by decide) (⟨by omega, by omega⟩) (⟨by omega, by omega⟩) (fun hb => absurd hb (by decide)) (fun _ => ?_)
  refine wp_iload d162_102 rfl ?_
  refine wp_iload d162_104 rfl ?_
  refine wz_ishrq (q := 1) d162_106 (by omega) (by omega) (by omega) (by omega) (by decide) ?_
  refine wz_iconst d162_107 ?_
  refine wz_and1 d162_108 (by omega) ?_
  refine wz_iconst d162_109 ?_
  refine wz_icmp_ne (t := 151) d162_110 (by decide) (⟨by omega, by omega⟩) (⟨by omega, by omega⟩) (fun hb110 => ?_) (fun hb110 => ?_)
  · skip
    refine wz_iinc d162_151 rfl rfl ?_
    refine wp_goto (t := 96) d162_154 (by decide) ?_
    refine h N ?_ (Ext.refl _ _ _ _)
    rw [if_neg (by rw [i1, i2]; omega)]
    exact hs
  · skip
    refine wp_iload d162_113 rfl ?_
    refine wp_iload d162_115 rfl ?_
    refine wz_ishrq (q := 1) d162_117 (by omega) (by omega) (by omega) (by omega) (by decide) ?_
    refine wz_iconst d162_118 ?_
    refine wz_and1 d162_119 (by omega) ?_
    refine wz_iconst d162_120 ?_
    refine wz_icmp_ne (t := 151) d162_121 (by decide) (⟨by omega, by omega⟩) (⟨by omega, by omega⟩) (fun hb121 => ?_) (fun hb121 => ?_)
    · skip
      refine wz_iinc d162_151 rfl rfl ?_
      refine wp_goto (t := 96) d162_154 (by decide) ?_
      refine h N ?_ (Ext.refl _ _ _ _)
      rw [if_neg (by rw [i1, i2]; omega)]
      exact hs
    · skip
      refine wp_aload_n d162_124 rfl ?_
      refine wp_iload_n d162_125 rfl ?_
      refine wp_aload_n d162_126 rfl ?_
      refine wp_iload_n d162_127 rfl ?_
      refine wp_iload_n d162_128 rfl ?_
      refine wp_iload d162_129 rfl ?_
      refine wp_virt (as := [.int (zI (0)), .int (zI (p)), .int (zI (a))]) (rest := [.int (zI (a)), .ref 56]) d162_131 rfl rfl rfl (hG.o (by decide) rfl) rfl rfl (Nat.le_of_ble_eq_true rfl) ?_
      refine m_field0 hG hs.r32 t1 (by omega) t3 t4 hm r1 hS.1 hS.2.1 hS.2.2 ?_
      refine wp_iload_n d162_134 rfl ?_
      refine wp_aload_n d162_135 rfl ?_
      refine wp_iload_n d162_136 rfl ?_
      refine wp_iload d162_137 rfl ?_
      refine wp_iload d162_139 rfl ?_
      refine wp_virt (as := [.int (zI (0)), .int (zI (q)), .int (zI (b))]) (rest := [.int (zI (b)), .int (zI (p + 1 + fpos X0 X1 0)), .int (zI (a)), .ref 56]) d162_141 rfl rfl rfl (hG.o (by decide) rfl) rfl rfl (Nat.le_of_ble_eq_true rfl) ?_
      refine m_field0 hG hs.r32 t5 (by omega) t7 t8 hm' r2 hT.1 hT.2.1 hT.2.2 ?_
      refine wp_iload d162_144 rfl ?_
      refine wp_iload d162_146 rfl ?_
      refine wp_virt (as := [.int (zI ((Γ.length : Int))), .int (zI (c)), .int (zI (q + 1 + fpos Y0 Y1 0)), .int (zI (b)), .int (zI (p + 1 + fpos X0 X1 0)), .int (zI (a))]) (rest := []) d162_148 rfl rfl rfl (hG.o (by decide) rfl) rfl rfl (Nat.le_of_ble_eq_true rfl) ?_
      refine m_poseS hG hs (TH_field0 hm hm' t (by rw [i1]; omega) (by rw [i2]; omega)) k0 k1 (by omega) (by omega) (by omega) (by simp only; omega) (fun N1 s1 e1 => ?_)
      refine wz_iinc d162_151 rfl rfl ?_
      refine wp_goto (t := 96) d162_154 (by decide) ?_
      refine h N1 ?_ e1
      rw [if_pos ⟨by rw [i2]; omega, by rw [i1]; omega⟩]
      exact s1
set_option maxRecDepth 20000 in
set_option maxHeartbeats 1000000 in
theorem settle_rec1 {u x k a p b q c : Int} {Γ : List Ty} {m m' : Nat} {X0 X1 X2 Y0 Y1 Y2 : Ty} {l : List Tsk} {o10 o11 : Option Value} (hG : pm_G Rf K L n) (hs : SI M N u x k u x l) (k0 : 0 ≤ k) (k1 : k + l.length < 300) (u1 : u < 1100) (x0 : 0 ≤ x) (x1 : x < 900) (hD : Γ.length < 2000) (hm : m < 8) (hm' : m' < 8) (t : TH N u x a p b q c (Γ.length : Int) (Γ, tRec m X0 X1 X2, tRec m' Y0 Y1 Y2)) (h : ∀ N', SI M N' u x k u x ((if bit m' 1 = true ∧ bit m 1 = true then [(Γ, X1, Y1)] else []) ++ l) → Ext N N' u x (k + l.length) → pm_Wp none (d + 5) 162 96 [some (.ref 56), some (.int (zI a)), some (.int (zI p)), some (.int (zI b)), some (.int (zI q)), some (.int (zI c)), some (.int (zI (Γ.length : Int))), some (.int (zI ((8 + m : Nat) : Int))), some (.int (zI ((8 + m' : Nat) : Int))), some (.int (zI 2)), o10, o11] [] (zM N', Rf, K, L, n, s) Q) : pm_Wp none (d + 5) 162 96 [some (.ref 56), some (.int (zI a)), some (.int (zI p)), some (.int (zI b)), some (.int (zI q)), some (.int (zI c)), some (.int (zI (Γ.length : Int))), some (.int (zI ((8 + m : Nat) : Int))), some (.int (zI ((8 + m' : Nat) : Int))), some (.int (zI 1)), o10, o11] [] (zM N, Rf, K, L, n, s) Q := by
  have t1 := t.a0; have t2 := t.a1; have t3 := t.p0; have t4 := t.p1; have t5 := t.b0; have t6 := t.b1; have t7 := t.q0; have t8 := t.q1
  have r1 := t.ra
  have r2 := t.rb
  simp only at r1 r2 t4 t8
  obtain ⟨hc, hS, hT⟩ := t.ok
  have hS := (ok_rec hm).mp hS
  have hT := (ok_rec hm').mp hT
  have i1 := @bit_iff m 1
  have i2 := @bit_iff m' 1
  simp only [Nat.reducePow] at i1 i2
  refine wp_iload d162_96 rfl ?_
  refine wz_iconst d162_98 ?_
  refine wz_icmp_ge (t := 157) d162_99 (by decide) (⟨by omega, by omega⟩) (⟨by omega, by omega⟩) (fun hb => absurd hb (by decide)) (fun _ => ?_)
  refine wp_iload d162_102 rfl ?_
  refine wp_iload d162_104 rfl ?_
  refine wz_ishrq (q := 2) d162_106 (by omega) (by omega) (by omega) (by omega) (by decide) ?_
  refine wz_iconst d162_107 ?_
  refine wz_and1 d162_108 (by omega) ?_
  refine wz_iconst d162_109 ?_
  refine wz_icmp_ne (t := 151) d162_110 (by decide) (⟨by omega, by omega⟩) (⟨by omega, by omega⟩) (fun hb110 => ?_) (fun hb110 => ?_)
  · skip
    refine wz_iinc d162_151 rfl rfl ?_
    refine wp_goto (t := 96) d162_154 (by decide) ?_
    refine h N ?_ (Ext.refl _ _ _ _)
    rw [if_neg (by rw [i1, i2]; omega)]
    exact hs
  · skip
    refine wp_iload d162_113 rfl ?_
    refine wp_iload d162_115 rfl ?_
    refine wz_ishrq (q := 2) d162_117 (by omega) (by omega) (by omega) (by omega) (by decide) ?_
    refine wz_iconst d162_118 ?_
    refine wz_and1 d162_119 (by omega) ?_
    refine wz_iconst d162_120 ?_
    refine wz_icmp_ne (t := 151) d162_121 (by decide) (⟨by omega, by omega⟩) (⟨by omega, by omega⟩) (fun hb121 => ?_) (fun hb121 => ?_)
    · skip
      refine wz_iinc d162_151 rfl rfl ?_
      refine wp_goto (t := 96) d162_154 (by decide) ?_
      refine h N ?_ (Ext.refl _ _ _ _)
      rw [if_neg (by rw [i1, i2]; omega)]
      exact hs
    · skip
      refine wp_aload_n d162_124 rfl ?_
      refine wp_iload_n d162_125 rfl ?_
      refine wp_aload_n d162_126 rfl ?_
      refine wp_iload_n d162_127 rfl ?_
      refine wp_iload_n d162_128 rfl ?_
      refine wp_iload d162_129 rfl ?_
      refine wp_virt (as := [.int (zI (1)), .int (zI (p)), .int (zI (a))]) (rest := [.int (zI (a)), .ref 56]) d162_131 rfl rfl rfl (hG.o (by decide) rfl) rfl rfl (Nat.le_of_ble_eq_true rfl) ?_
      refine m_field1 hG hs.r32 t1 (by omega) t3 t4 hm r1 hS.1 hS.2.1 hS.2.2 ?_
      refine wp_iload_n d162_134 rfl ?_
      refine wp_aload_n d162_135 rfl ?_
      refine wp_iload_n d162_136 rfl ?_
      refine wp_iload d162_137 rfl ?_
      refine wp_iload d162_139 rfl ?_
      refine wp_virt (as := [.int (zI (1)), .int (zI (q)), .int (zI (b))]) (rest := [.int (zI (b)), .int (zI (p + 1 + fpos X0 X1 1)), .int (zI (a)), .ref 56]) d162_141 rfl rfl rfl (hG.o (by decide) rfl) rfl rfl (Nat.le_of_ble_eq_true rfl) ?_
      refine m_field1 hG hs.r32 t5 (by omega) t7 t8 hm' r2 hT.1 hT.2.1 hT.2.2 ?_
      refine wp_iload d162_144 rfl ?_
      refine wp_iload d162_146 rfl ?_
      refine wp_virt (as := [.int (zI ((Γ.length : Int))), .int (zI (c)), .int (zI (q + 1 + fpos Y0 Y1 1)), .int (zI (b)), .int (zI (p + 1 + fpos X0 X1 1)), .int (zI (a))]) (rest := []) d162_148 rfl rfl rfl (hG.o (by decide) rfl) rfl rfl (Nat.le_of_ble_eq_true rfl) ?_
      refine m_poseS hG hs (TH_field1 hm hm' t (by rw [i1]; omega) (by rw [i2]; omega)) k0 k1 (by omega) (by omega) (by omega) (by simp only; omega) (fun N1 s1 e1 => ?_)
      refine wz_iinc d162_151 rfl rfl ?_
      refine wp_goto (t := 96) d162_154 (by decide) ?_
      refine h N1 ?_ e1
      rw [if_pos ⟨by rw [i2]; omega, by rw [i1]; omega⟩]
      exact s1
set_option maxRecDepth 20000 in
set_option maxHeartbeats 1000000 in
theorem settle_rec2 {u x k a p b q c : Int} {Γ : List Ty} {m m' : Nat} {X0 X1 X2 Y0 Y1 Y2 : Ty} {l : List Tsk} {o10 o11 : Option Value} (hG : pm_G Rf K L n) (hs : SI M N u x k u x l) (k0 : 0 ≤ k) (k1 : k + l.length < 300) (u1 : u < 1100) (x0 : 0 ≤ x) (x1 : x < 900) (hD : Γ.length < 2000) (hm : m < 8) (hm' : m' < 8) (t : TH N u x a p b q c (Γ.length : Int) (Γ, tRec m X0 X1 X2, tRec m' Y0 Y1 Y2)) (h : ∀ N', SI M N' u x k u x ((if bit m' 2 = true ∧ bit m 2 = true then [(Γ, X2, Y2)] else []) ++ l) → Ext N N' u x (k + l.length) → pm_Wp none (d + 5) 162 96 [some (.ref 56), some (.int (zI a)), some (.int (zI p)), some (.int (zI b)), some (.int (zI q)), some (.int (zI c)), some (.int (zI (Γ.length : Int))), some (.int (zI ((8 + m : Nat) : Int))), some (.int (zI ((8 + m' : Nat) : Int))), some (.int (zI 3)), o10, o11] [] (zM N', Rf, K, L, n, s) Q) : pm_Wp none (d + 5) 162 96 [some (.ref 56), some (.int (zI a)), some (.int (zI p)), some (.int (zI b)), some (.int (zI q)), some (.int (zI c)), some (.int (zI (Γ.length : Int))), some (.int (zI ((8 + m : Nat) : Int))), some (.int (zI ((8 + m' : Nat) : Int))), some (.int (zI 2)), o10, o11] [] (zM N, Rf, K, L, n, s) Q := by
  have t1 := t.a0; have t2 := t.a1; have t3 := t.p0; have t4 := t.p1; have t5 := t.b0; have t6 := t.b1; have t7 := t.q0; have t8 := t.q1
  have r1 := t.ra
  have r2 := t.rb
  simp only at r1 r2 t4 t8
  obtain ⟨hc, hS, hT⟩ := t.ok
  have hS := (ok_rec hm).mp hS
  have hT := (ok_rec hm').mp hT
  have i1 := @bit_iff m 2
  have i2 := @bit_iff m' 2
  simp only [Nat.reducePow] at i1 i2
  refine wp_iload d162_96 rfl ?_
  refine wz_iconst d162_98 ?_
  refine wz_icmp_ge (t := 157) d162_99 (by decide) (⟨by omega, by omega⟩) (⟨by omega, by omega⟩) (fun hb => absurd hb (by decide)) (fun _ => ?_)
  refine wp_iload d162_102 rfl ?_
  refine wp_iload d162_104 rfl ?_
  refine wz_ishrq (q := 4) d162_106 (by omega) (by omega) (by omega) (by omega) (by decide) ?_
  refine wz_iconst d162_107 ?_
  refine wz_and1 d162_108 (by omega) ?_
  refine wz_iconst d162_109 ?_
  refine wz_icmp_ne (t := 151) d162_110 (by decide) (⟨by omega, by omega⟩) (⟨by omega, by omega⟩) (fun hb110 => ?_) (fun hb110 => ?_)
  · skip
    refine wz_iinc d162_151 rfl rfl ?_
    refine wp_goto (t := 96) d162_154 (by decide) ?_
    refine h N ?_ (Ext.refl _ _ _ _)
    rw [if_neg (by rw [i1, i2]; omega)]
    exact hs
  · skip
    refine wp_iload d162_113 rfl ?_
    refine wp_iload d162_115 rfl ?_
    refine wz_ishrq (q := 4) d162_117 (by omega) (by omega) (by omega) (by omega) (by decide) ?_
    refine wz_iconst d162_118 ?_
    refine wz_and1 d162_119 (by omega) ?_
    refine wz_iconst d162_120 ?_
    refine wz_icmp_ne (t := 151) d162_121 (by decide) (⟨by omega, by omega⟩) (⟨by omega, by omega⟩) (fun hb121 => ?_) (fun hb121 => ?_)
    · skip
      refine wz_iinc d162_151 rfl rfl ?_
      refine wp_goto (t := 96) d162_154 (by decide) ?_
      refine h N ?_ (Ext.refl _ _ _ _)
      rw [if_neg (by rw [i1, i2]; omega)]
      exact hs
    · skip
      refine wp_aload_n d162_124 rfl ?_
      refine wp_iload_n d162_125 rfl ?_
      refine wp_aload_n d162_126 rfl ?_
      refine wp_iload_n d162_127 rfl ?_
      refine wp_iload_n d162_128 rfl ?_
      refine wp_iload d162_129 rfl ?_
      refine wp_virt (as := [.int (zI (2)), .int (zI (p)), .int (zI (a))]) (rest := [.int (zI (a)), .ref 56]) d162_131 rfl rfl rfl (hG.o (by decide) rfl) rfl rfl (Nat.le_of_ble_eq_true rfl) ?_
      refine m_field2 hG hs.r32 t1 (by omega) t3 t4 hm r1 hS.1 hS.2.1 hS.2.2 ?_
      refine wp_iload_n d162_134 rfl ?_
      refine wp_aload_n d162_135 rfl ?_
      refine wp_iload_n d162_136 rfl ?_
      refine wp_iload d162_137 rfl ?_
      refine wp_iload d162_139 rfl ?_
      refine wp_virt (as := [.int (zI (2)), .int (zI (q)), .int (zI (b))]) (rest := [.int (zI (b)), .int (zI (p + 1 + fpos X0 X1 2)), .int (zI (a)), .ref 56]) d162_141 rfl rfl rfl (hG.o (by decide) rfl) rfl rfl (Nat.le_of_ble_eq_true rfl) ?_
      refine m_field2 hG hs.r32 t5 (by omega) t7 t8 hm' r2 hT.1 hT.2.1 hT.2.2 ?_
      refine wp_iload d162_144 rfl ?_
      refine wp_iload d162_146 rfl ?_
      refine wp_virt (as := [.int (zI ((Γ.length : Int))), .int (zI (c)), .int (zI (q + 1 + fpos Y0 Y1 2)), .int (zI (b)), .int (zI (p + 1 + fpos X0 X1 2)), .int (zI (a))]) (rest := []) d162_148 rfl rfl rfl (hG.o (by decide) rfl) rfl rfl (Nat.le_of_ble_eq_true rfl) ?_
      refine m_poseS hG hs (TH_field2 hm hm' t (by rw [i1]; omega) (by rw [i2]; omega)) k0 k1 (by omega) (by omega) (by omega) (by simp only; omega) (fun N1 s1 e1 => ?_)
      refine wz_iinc d162_151 rfl rfl ?_
      refine wp_goto (t := 96) d162_154 (by decide) ?_
      refine h N1 ?_ e1
      rw [if_pos ⟨by rw [i2]; omega, by rw [i1]; omega⟩]
      exact s1
set_option maxRecDepth 20000 in
set_option maxHeartbeats 1000000 in
set_option maxRecDepth 20000 in
set_option maxHeartbeats 1000000 in
theorem settle_recs {u x k a p b q c : Int} {Γ : List Ty} {m m' : Nat} {X0 X1 X2 Y0 Y1 Y2 : Ty} {o9 o10 o11 : Option Value}  (hG : pm_G Rf K L n) (hM : ∀ p i, R32 (M p i)) (hu : M 56 22 = u) (hx : M 56 24 = x) (hk : M 56 34 = k) (k0 : 0 ≤ k) (k1 : k + 3 ≤ 300) (u1 : u < 1100) (x0 : 0 ≤ x) (x1 : x < 900) (hD : Γ.length < 2000) (t : TH M u x a p b q c (Γ.length : Int) (Γ, tRec m X0 X1 X2, tRec m' Y0 Y1 Y2)) (h : ∀ (N : pm_M) (u' x' : Int) (l : List Tsk) (v : Int), SI M N u x k u' x' l → u' ≤ u + (rst (tRec m X0 X1 X2) (tRec m' Y0 Y1 Y2) : Nat) → x' ≤ x + (rst (tRec m X0 X1 X2) (tRec m' Y0 Y1 Y2) : Nat) → (stp Γ (tRec m X0 X1 X2) (tRec m' Y0 Y1 Y2) = some l ∧ v = 1 ∨ stp Γ (tRec m X0 X1 X2) (tRec m' Y0 Y1 Y2) = none ∧ v = 0) → Q (some (.int (zI v))) (zM N, Rf, K, L, n, s)) (hm : m < 8) (hm' : m' < 8) : pm_Wp none (d + 5) 162 93 [some (.ref 56), some (.int (zI a)), some (.int (zI p)), some (.int (zI b)), some (.int (zI q)), some (.int (zI c)), some (.int (zI (Γ.length : Int))), some (.int (zI ((8 + m : Nat) : Int))), some (.int (zI ((8 + m' : Nat) : Int))), o9, o10, o11] [] (zM M, Rf, K, L, n, s) Q := by
  have t1 := t.a0; have t2 := t.a1; have t3 := t.p0; have t4 := t.p1; have t5 := t.b0; have t6 := t.b1; have t7 := t.q0; have t8 := t.q1
  simp only at t4 t8
  clear t1 t2 t3 t4 t5 t6 t7 t8
  refine wz_iconst d162_93 ?_
  refine wp_istore d162_94 (Nat.le_of_ble_eq_true rfl) rfl ?_
  refine settle_rec0 hG (⟨Ext.refl M u x k, hM, hu, hx, Int.le_refl _, Int.le_refl _, by rw [hk]; simp, trivial⟩ : SI M M u x k u x []) k0 (by simp only [List.length_nil]; omega) u1 x0 x1 hD hm hm' t (fun N0 s0 e0 => ?_)
  have g0 : ∀ (g : Prop) [Decidable g] (z : Tsk), (if g then [z] else []).length ≤ 1 := fun g _ z => by split <;> simp
  have f0 := g0 (bit m' 0 = true ∧ bit m 0 = true) (Γ, X0, Y0)
  have f1 := g0 (bit m' 1 = true ∧ bit m 1 = true) (Γ, X1, Y1)
  have T0 := t.mono e0 (Int.le_refl _) (Int.le_refl _)
  refine settle_rec1 hG s0 k0 (by rw [List.length_append, List.length_nil]; omega) u1 x0 x1 hD hm hm' T0 (fun N1 s1 e1 => ?_)
  have T1 := T0.mono e1 (Int.le_refl _) (Int.le_refl _)
  refine settle_rec2 hG s1 k0 (by rw [List.length_append, List.length_append, List.length_nil]; omega) u1 x0 x1 hD hm hm' T1 (fun N2 s2 e2 => ?_)
  exact settle_rec3 hG hm hm' s2 h (by omega) (by omega)
set_option maxRecDepth 20000 in
set_option maxHeartbeats 1000000 in
theorem settle_var {u x k a p b q c : Int} {Γ : List Ty} {kk : Nat} {T : Ty} {o9 o10 o11 : Option Value}  (hG : pm_G Rf K L n) (hM : ∀ p i, R32 (M p i)) (hu : M 56 22 = u) (hx : M 56 24 = x) (hk : M 56 34 = k) (k0 : 0 ≤ k) (k1 : k + 3 ≤ 300) (u1 : u < 1100) (x0 : 0 ≤ x) (x1 : x < 900) (hD : Γ.length < 2000) (t : TH M u x a p b q c (Γ.length : Int) (Γ, tVar kk, T)) (h : ∀ (N : pm_M) (u' x' : Int) (l : List Tsk) (v : Int), SI M N u x k u' x' l → u' ≤ u + (rst (tVar kk) (T) : Nat) → x' ≤ x + (rst (tVar kk) (T) : Nat) → (stp Γ (tVar kk) (T) = some l ∧ v = 1 ∨ stp Γ (tVar kk) (T) = none ∧ v = 0) → Q (some (.int (zI v))) (zM N, Rf, K, L, n, s)) (hkk : kk < Γ.length) (hn : ¬ (hd T = 0 ∨ 16 + kk = hd T)) : pm_Wp none (d + 5) 162 38 [some (.ref 56), some (.int (zI a)), some (.int (zI p)), some (.int (zI b)), some (.int (zI q)), some (.int (zI c)), some (.int (zI (Γ.length : Int))), some (.int (zI ((16 + kk : Nat) : Int))), some (.int (zI ((hd T : Nat) : Int))), o9, o10, o11] [] (zM M, Rf, K, L, n, s) Q := by
  have t1 := t.a0; have t2 := t.a1; have t3 := t.p0; have t4 := t.p1; have t5 := t.b0; have t6 := t.b1; have t7 := t.q0; have t8 := t.q1
  simp only at t4 t8
  obtain ⟨hc0, hS0, hT0⟩ := t.ok
  have hc : okc Γ := hc0
  have hT : ok Γ.length T = true := hT0
  clear hc0 hS0 hT0
  have hb : (flat (bnd Γ kk)).length ≤ 16 := t.hc.bnd_len hkk
  have hoe := ok_expose hc hkk
  have hlen := lft_len kk (Γ.length - kk) (bnd Γ kk)
  have hs1 := row_SI hM hu hx hk (flat_R32 hoe (by omega) (by omega)) (by omega) u1
  have hr1 : Row (mput (mset M 56 22 (u + 1)) 73 (17 * u) (flat (lft kk (Γ.length - kk) (bnd Γ kk)))) u 0 (flat (lft kk (Γ.length - kk) (bnd Γ kk))) := row_new
  refine wp_iload d162_38 rfl ?_
  refine wz_bipush d162_40 (by decide) ?_
  refine wz_icmp_lt (t := 72) d162_42 (by decide) (⟨by omega, by omega⟩) (⟨by omega, by omega⟩) (fun hb => absurd hb (by omega)) (fun _ => ?_)
  refine wp_aload_n d162_45 rfl ?_
  refine wp_aload_n d162_46 rfl ?_
  refine wp_iload d162_47 rfl ?_
  refine wz_bipush d162_49 (by decide) ?_
  refine wz_isub d162_51 ?_
  refine wp_iload d162_52 rfl ?_
  refine wp_iload d162_54 rfl ?_
  refine wp_virt (as := [.int (zI ((Γ.length : Int))), .int (zI (c)), .int (zI ((((16 + kk : Nat) : Int)) - 16))]) (rest := [.ref 56]) d162_56 rfl rfl rfl (hG.o (by decide) rfl) rfl rfl (Nat.le_of_ble_eq_true rfl) ?_
  rw [show ((16 + kk : Nat) : Int) - 16 = (kk : Int) by omega]; refine m_boundOf (Γ := Γ) hG hM hu u1 (by omega) (by omega) (by omega) t.hc hkk (by omega) ?_
  generalize mput (mset M 56 22 (u + 1)) 73 (17 * u) (flat (lft kk (Γ.length - kk) (bnd Γ kk))) = N0 at hs1 hr1 ⊢
  have T1 : TH N0 (u + 1) x u 0 b q c (Γ.length : Int) (Γ, lft kk (Γ.length - kk) (bnd Γ kk), T) := ⟨by omega, by omega, by omega, by simp only; omega, hr1, t5, by omega, t7, by simp only; omega, hs1.ext.row t6 t8 t.rb, hs1.ext.ctx (by omega) (by omega) t.hc, rfl, hc, hoe, hT⟩
  refine wz_iconst d162_59 ?_
  refine wp_iload_n d162_60 rfl ?_
  refine wp_iload d162_61 rfl ?_
  refine wp_iload d162_63 rfl ?_
  refine wp_iload d162_65 rfl ?_
  refine wp_virt (as := [.int (zI ((Γ.length : Int))), .int (zI (c)), .int (zI (q)), .int (zI (b)), .int (zI (0)), .int (zI (u))]) (rest := []) d162_67 rfl rfl rfl (hG.o (by decide) rfl) rfl rfl (Nat.le_of_ble_eq_true rfl) ?_
  refine m_poseS hG hs1 T1 k0 (by simp only [List.length_nil]; omega) (by omega) (by omega) (by omega) (by simp only; omega) (fun N1 s1 e1 => ?_)
  refine wz_iconst d162_70 ?_
  refine wp_ret d162_71 rfl (h N1 (u + 1) x _ 1 s1 (by rw [rst_var hn]; omega) (by omega) (Or.inl ⟨?_, rfl⟩))
  unfold stp
  rw [if_neg (by rw [hd_var]; omega), if_pos (by rw [hd_var]; omega), hd_var, show 16 + kk - 16 = kk by omega]
set_option maxRecDepth 20000 in
set_option maxHeartbeats 1000000 in
theorem settle_173 {u x k a p b q c : Int} {Γ : List Ty} {S T : Ty} {o9 o10 o11 : Option Value}  (hG : pm_G Rf K L n) (hM : ∀ p i, R32 (M p i)) (hu : M 56 22 = u) (hx : M 56 24 = x) (hk : M 56 34 = k) (k0 : 0 ≤ k) (k1 : k + 3 ≤ 300) (u1 : u < 1100) (x0 : 0 ≤ x) (x1 : x < 900) (hD : Γ.length < 2000) (t : TH M u x a p b q c (Γ.length : Int) (Γ, S, T)) (h : ∀ (N : pm_M) (u' x' : Int) (l : List Tsk) (v : Int), SI M N u x k u' x' l → u' ≤ u + (rst (S) (T) : Nat) → x' ≤ x + (rst (S) (T) : Nat) → (stp Γ (S) (T) = some l ∧ v = 1 ∨ stp Γ (S) (T) = none ∧ v = 0) → Q (some (.int (zI v))) (zM N, Rf, K, L, n, s)) (n1 : ¬ (hd T = 0 ∨ 16 ≤ hd S ∧ hd S = hd T)) (n2 : ¬ 16 ≤ hd S) (n3 : ¬ (8 ≤ hd S ∧ 8 ≤ hd T ∧ hd T < 16)) : pm_Wp none (d + 5) 162 173 [some (.ref 56), some (.int (zI a)), some (.int (zI p)), some (.int (zI b)), some (.int (zI q)), some (.int (zI c)), some (.int (zI (Γ.length : Int))), some (.int (zI ((hd S : Nat) : Int))), some (.int (zI ((hd T : Nat) : Int))), o9, o10, o11] [] (zM M, Rf, K, L, n, s) Q := by
  have t1 := t.a0; have t2 := t.a1; have t3 := t.p0; have t4 := t.p1; have t5 := t.b0; have t6 := t.b1; have t7 := t.q0; have t8 := t.q1
  simp only at t4 t8
  obtain ⟨hc0, hS0, hT0⟩ := t.ok
  have hc : okc Γ := hc0
  have hS : ok Γ.length S = true := hS0
  have hT : ok Γ.length T = true := hT0
  clear hc0 hS0 hT0
  have l1 : hd S < 16 + Γ.length + 16 := hd_le hS
  have l2 : hd T < 16 + Γ.length + 16 := hd_le hT
  refine wp_iload d162_173 rfl ?_
  refine wp_iload d162_175 rfl ?_
  refine wz_icmp_ne (t := 185) d162_177 (by decide) (⟨by omega, by omega⟩) (⟨by omega, by omega⟩) (fun hb177 => ?_) (fun hb177 => ?_)
  · skip
    refine wz_iconst d162_185 ?_
    refine wp_ret d162_186 rfl (h M u x [] 0 (⟨Ext.refl M u x k, hM, hu, hx, Int.le_refl _, Int.le_refl _, by rw [hk]; simp, trivial⟩ : SI M M u x k u x []) (by omega) (by omega) (Or.inr ⟨?_, rfl⟩))
    unfold stp
    rw [if_neg n1, if_neg n2, if_neg n3, if_pos (by omega)]
  · skip
    refine wp_iload d162_180 rfl ?_
    refine wz_if_ne (t := 187) d162_182 (by decide) (⟨by omega, by omega⟩) (fun hb182 => ?_) (fun hb182 => ?_)
    · skip
      rcases ok_cases hS with e | ⟨k, hk, e⟩ | ⟨A, C, e, -, -⟩ | ⟨A, C, e, -, -⟩ | ⟨m, X0, X1, X2, hm, e, -, -, -⟩
      · exfalso; subst e; rw [hd_top] at *; omega
      · exfalso; subst e; rw [hd_var] at *; omega
      · subst e
        rcases ok_cases hT with e | ⟨k, hk, e⟩ | ⟨A', C', e, -, -⟩ | ⟨A', C', e, -, -⟩ | ⟨m, X0, X1, X2, hm, e, -, -, -⟩
        · exfalso; subst e; rw [hd_top, hd_fun] at *; omega
        · exfalso; subst e; rw [hd_var, hd_fun] at *; omega
        · subst e; exact settle_fun hG hM hu hx hk k0 k1 u1 x0 x1 hD t h
        · exfalso; subst e; rw [hd_all, hd_fun] at *; omega
        · exfalso; subst e; rw [hd_rec, hd_fun] at *; omega
      · subst e
        rcases ok_cases hT with e | ⟨k, hk, e⟩ | ⟨A', C', e, -, -⟩ | ⟨A', C', e, -, -⟩ | ⟨m, X0, X1, X2, hm, e, -, -, -⟩
        · exfalso; subst e; rw [hd_top, hd_all] at *; omega
        · exfalso; subst e; rw [hd_var, hd_all] at *; omega
        · exfalso; subst e; rw [hd_fun, hd_all] at *; omega
        · subst e; exact settle_all hG hM hu hx hk k0 k1 u1 x0 x1 hD t h
        · exfalso; subst e; rw [hd_rec, hd_all] at *; omega
      · exfalso; have := congrArg hd e; rw [hd_rec] at this; omega
    · skip
      refine wz_iconst d162_185 ?_
      refine wp_ret d162_186 rfl (h M u x [] 0 (⟨Ext.refl M u x k, hM, hu, hx, Int.le_refl _, Int.le_refl _, by rw [hk]; simp, trivial⟩ : SI M M u x k u x []) (by omega) (by omega) (Or.inr ⟨?_, rfl⟩))
      unfold stp
      rw [if_neg n1, if_neg n2, if_neg n3, if_pos (by omega)]
set_option maxRecDepth 20000 in
set_option maxHeartbeats 1000000 in
theorem settle_72 {u x k a p b q c : Int} {Γ : List Ty} {S T : Ty} {o9 o10 o11 : Option Value}  (hG : pm_G Rf K L n) (hM : ∀ p i, R32 (M p i)) (hu : M 56 22 = u) (hx : M 56 24 = x) (hk : M 56 34 = k) (k0 : 0 ≤ k) (k1 : k + 3 ≤ 300) (u1 : u < 1100) (x0 : 0 ≤ x) (x1 : x < 900) (hD : Γ.length < 2000) (t : TH M u x a p b q c (Γ.length : Int) (Γ, S, T)) (h : ∀ (N : pm_M) (u' x' : Int) (l : List Tsk) (v : Int), SI M N u x k u' x' l → u' ≤ u + (rst (S) (T) : Nat) → x' ≤ x + (rst (S) (T) : Nat) → (stp Γ (S) (T) = some l ∧ v = 1 ∨ stp Γ (S) (T) = none ∧ v = 0) → Q (some (.int (zI v))) (zM N, Rf, K, L, n, s)) (n1 : ¬ (hd T = 0 ∨ 16 ≤ hd S ∧ hd S = hd T)) (n2 : ¬ 16 ≤ hd S) : pm_Wp none (d + 5) 162 72 [some (.ref 56), some (.int (zI a)), some (.int (zI p)), some (.int (zI b)), some (.int (zI q)), some (.int (zI c)), some (.int (zI (Γ.length : Int))), some (.int (zI ((hd S : Nat) : Int))), some (.int (zI ((hd T : Nat) : Int))), o9, o10, o11] [] (zM M, Rf, K, L, n, s) Q := by
  have t1 := t.a0; have t2 := t.a1; have t3 := t.p0; have t4 := t.p1; have t5 := t.b0; have t6 := t.b1; have t7 := t.q0; have t8 := t.q1
  simp only at t4 t8
  obtain ⟨hc0, hS0, hT0⟩ := t.ok
  have hc : okc Γ := hc0
  have hS : ok Γ.length S = true := hS0
  have hT : ok Γ.length T = true := hT0
  clear hc0 hS0 hT0
  have l1 : hd S < 16 + Γ.length + 16 := hd_le hS
  have l2 : hd T < 16 + Γ.length + 16 := hd_le hT
  refine wp_iload d162_72 rfl ?_
  refine wz_bipush d162_74 (by decide) ?_
  refine wz_icmp_lt (t := 173) d162_76 (by decide) (⟨by omega, by omega⟩) (⟨by omega, by omega⟩) (fun hb76 => ?_) (fun hb76 => ?_)
  · skip
    exact settle_173 hG hM hu hx hk k0 k1 u1 x0 x1 hD t h n1 n2 (by omega)
  · skip
    refine wp_iload d162_79 rfl ?_
    refine wz_bipush d162_81 (by decide) ?_
    refine wz_icmp_lt (t := 173) d162_83 (by decide) (⟨by omega, by omega⟩) (⟨by omega, by omega⟩) (fun hb83 => ?_) (fun hb83 => ?_)
    · skip
      exact settle_173 hG hM hu hx hk k0 k1 u1 x0 x1 hD t h n1 n2 (by omega)
    · skip
      refine wp_iload d162_86 rfl ?_
      refine wz_bipush d162_88 (by decide) ?_
      refine wz_icmp_ge (t := 173) d162_90 (by decide) (⟨by omega, by omega⟩) (⟨by omega, by omega⟩) (fun hb90 => ?_) (fun hb90 => ?_)
      · skip
        exact settle_173 hG hM hu hx hk k0 k1 u1 x0 x1 hD t h n1 n2 (by omega)
      · skip
        obtain ⟨m, X0, X1, X2, hm, e⟩ := hd_is_rec hS (by omega) (by omega)
        obtain ⟨m', Y0, Y1, Y2, hm', e'⟩ := hd_is_rec hT (by omega) (by omega)
        subst e
        subst e'
        exact settle_recs hG hM hu hx hk k0 k1 u1 x0 x1 hD t h hm hm'
theorem settle_38 {a p b q c D Y o9 o10 o11 : Option Value} {S : Ty} (n2 : ¬ 16 ≤ hd S) (h : pm_Wp none (d + 5) 162 72 [some (.ref 56), a, p, b, q, c, D, some (.int (zI ((hd S : Nat) : Int))), Y, o9, o10, o11] [] (zM M, Rf, K, L, n, s) Q) : pm_Wp none (d + 5) 162 38 [some (.ref 56), a, p, b, q, c, D, some (.int (zI ((hd S : Nat) : Int))), Y, o9, o10, o11] [] (zM M, Rf, K, L, n, s) Q := by
  refine wp_iload d162_38 rfl ?_
  refine wz_bipush d162_40 (by decide) ?_
  refine wz_icmp_lt (t := 72) d162_42 (by decide) (⟨by omega, by omega⟩) (⟨by omega, by omega⟩) (fun _ => ?_) (fun hb => absurd (by omega) hb)
  exact h
set_option maxRecDepth 20000 in
set_option maxHeartbeats 1000000 in
theorem m_settle {u x k a p b q c : Int} {Γ : List Ty} {S T : Ty} (hG : pm_G Rf K L n) (hM : ∀ p i, R32 (M p i)) (hu : M 56 22 = u) (hx : M 56 24 = x) (hk : M 56 34 = k) (k0 : 0 ≤ k) (k1 : k + 3 ≤ 300) (u1 : u < 1100) (x0 : 0 ≤ x) (x1 : x < 900) (hD : Γ.length < 2000) (t : TH M u x a p b q c (Γ.length : Int) (Γ, S, T)) (h : ∀ (N : pm_M) (u' x' : Int) (l : List Tsk) (v : Int), SI M N u x k u' x' l → u' ≤ u + (rst (S) (T) : Nat) → x' ≤ x + (rst (S) (T) : Nat) → (stp Γ (S) (T) = some l ∧ v = 1 ∨ stp Γ (S) (T) = none ∧ v = 0) → Q (some (.int (zI v))) (zM N, Rf, K, L, n, s)) : pm_Wc (d + 6) 162 [.ref 56, .int (zI a), .int (zI p), .int (zI b), .int (zI q), .int (zI c), .int (zI (Γ.length : Int))] (zM M, Rf, K, L, n, s) Q := by
  refine wc_in (ls0 := [some (.ref 56), some (.int (zI a)), some (.int (zI p)), some (.int (zI b)), some (.int (zI q)), some (.int (zI c)), some (.int (zI (Γ.length : Int))), none, none, none, none, none]) (by decide) (Nat.le_of_ble_eq_true rfl) rfl rfl ?_
  have t1 := t.a0; have t2 := t.a1; have t3 := t.p0; have t4 := t.p1; have t5 := t.b0; have t6 := t.b1; have t7 := t.q0; have t8 := t.q1
  simp only at t4 t8
  obtain ⟨hc, hS, hT⟩ := t.ok
  simp only at hS hT
  have l1 : hd S < 16 + Γ.length + 16 := hd_le hS
  have l2 : hd T < 16 + Γ.length + 16 := hd_le hT
  obtain ⟨f1, g1⟩ := flat_hd hS
  obtain ⟨f2, g2⟩ := flat_hd hT
  have r1 := t.ra
  have r2 := t.rb
  simp only at r1 r2
  rw [g1] at r1 t4
  rw [g2] at r2 t8
  rw [List.length_cons] at t4 t8
  have c1 := r1.1
  have c2 := r2.1
  refine wp_aload_n d162_0 rfl ?_
  refine wp_iload_n d162_1 rfl ?_
  refine wp_iload_n d162_2 rfl ?_
  refine wp_virt (as := [.int (zI (p)), .int (zI (a))]) (rest := []) d162_3 rfl rfl rfl (hG.o (by decide) rfl) rfl rfl (Nat.le_of_ble_eq_true rfl) ?_
  refine m_cell hG (by omega) (by omega) ?_
  rw [c1]
  refine wp_istore d162_6 (Nat.le_of_ble_eq_true rfl) rfl ?_
  refine wp_aload_n d162_8 rfl ?_
  refine wp_iload_n d162_9 rfl ?_
  refine wp_iload d162_10 rfl ?_
  refine wp_virt (as := [.int (zI (q)), .int (zI (b))]) (rest := []) d162_12 rfl rfl rfl (hG.o (by decide) rfl) rfl rfl (Nat.le_of_ble_eq_true rfl) ?_
  refine m_cell hG (by omega) (by omega) ?_
  rw [c2]
  refine wp_istore d162_15 (Nat.le_of_ble_eq_true rfl) rfl ?_
  refine wp_iload d162_17 rfl ?_
  refine wz_if_eq (t := 36) d162_19 (by decide) (⟨by omega, by omega⟩) (fun hb19 => ?_) (fun hb19 => ?_)
  · skip
    refine wz_iconst d162_36 ?_
    refine wp_ret d162_37 rfl (h M u x [] 1 (⟨Ext.refl M u x k, hM, hu, hx, Int.le_refl _, Int.le_refl _, by rw [hk]; simp, trivial⟩ : SI M M u x k u x []) (by omega) (by omega) (Or.inl ⟨?_, rfl⟩))
    unfold stp
    exact if_pos (by omega)
  · skip
    refine wp_iload d162_22 rfl ?_
    refine wz_bipush d162_24 (by decide) ?_
    refine wz_icmp_lt (t := 38) d162_26 (by decide) (⟨by omega, by omega⟩) (⟨by omega, by omega⟩) (fun hb26 => ?_) (fun hb26 => ?_)
    · skip
      have n1 : ¬ (hd T = 0 ∨ 16 ≤ hd S ∧ hd S = hd T) := by omega
      by_cases n2 : 16 ≤ hd S
      · obtain ⟨kk, hkk, e⟩ := hd_is_var hS n2
        subst e
        exact settle_var hG hM hu hx hk k0 k1 u1 x0 x1 hD t h hkk (by rw [hd_var] at n1; omega)
      · refine settle_38 n2 ?_
        exact settle_72 hG hM hu hx hk k0 k1 u1 x0 x1 hD t h n1 n2
    · skip
      refine wp_iload d162_29 rfl ?_
      refine wp_iload d162_31 rfl ?_
      refine wz_icmp_ne (t := 38) d162_33 (by decide) (⟨by omega, by omega⟩) (⟨by omega, by omega⟩) (fun hb33 => ?_) (fun hb33 => ?_)
      · skip
        have n1 : ¬ (hd T = 0 ∨ 16 ≤ hd S ∧ hd S = hd T) := by omega
        by_cases n2 : 16 ≤ hd S
        · obtain ⟨kk, hkk, e⟩ := hd_is_var hS n2
          subst e
          exact settle_var hG hM hu hx hk k0 k1 u1 x0 x1 hD t h hkk (by rw [hd_var] at n1; omega)
        · refine settle_38 n2 ?_
          exact settle_72 hG hM hu hx hk k0 k1 u1 x0 x1 hD t h n1 n2
      · skip
        refine wz_iconst d162_36 ?_
        refine wp_ret d162_37 rfl (h M u x [] 1 (⟨Ext.refl M u x k, hM, hu, hx, Int.le_refl _, Int.le_refl _, by rw [hk]; simp, trivial⟩ : SI M M u x k u x []) (by omega) (by omega) (Or.inl ⟨?_, rfl⟩))
        unfold stp
        exact if_pos (by omega)
end PmM7
