/-! THE LAW'S LOOP. -/
theorem pm_nI2 (k : Nat) : nI k + 2 = nI (k + 2) := nI_add k 2
theorem pm_nI3 (k : Nat) : nI k + 3 = nI (k + 3) := nI_add k 3
theorem pm_nI4 (k : Nat) : nI k + 4 = nI (k + 4) := nI_add k 4
theorem pm_lawgo {k L : Nat} (h : k + 4 ≤ L) (hL : L ≤ 2048) : ¬ (Int32.ofNat L - 4 < nI k) := by
  show ¬ (nI L - nI 4 < nI k)
  rw [Int32.lt_iff_toInt_lt, pk_sub_toInt (by omega) (by omega), nI_toInt (by omega)]
  omega
theorem pm_lawno {k L : Nat} (h : L < k + 4) (hk : k ≤ 4000) (hL : L ≤ 2048) : Int32.ofNat L - 4 < nI k := by
  show nI L - nI 4 < nI k
  rw [Int32.lt_iff_toInt_lt, pk_sub_toInt (by omega) (by omega), nI_toInt (by omega)]
  omega
section PmLaw
variable {d : Nat} {Q : Option Value → pm_S → Prop} {L : Nat} {xs : Nat → Int32}
theorem wp_sldn {mi pc m : Nat} {ls : pm_L} {st : List Value} {σ : pm_S} {j : Int32} (hd : decode (pm_code mi) pc = .ok (.iaload, 1)) (hj : j = nI m) (hm : m < L) (hL : L ≤ 2048) (h : pm_Wp (some (L, xs)) d mi (pc + 1) ls (.int (xs m) :: st) σ Q) : pm_Wp (some (L, xs)) d mi pc ls (.int j :: .ref 0 :: st) σ Q := by
  subst hj
  refine wp_sld hd (vp_in_nI hm (by omega)) ?_
  rw [nI_clamp (by omega)]
  exact h
/-- two calls that answer alike -/
def pm_two (d j1 j2 : Nat) (a : List Value) (post : pm_S → Prop) (σ : pm_S) : Prop :=
  pm_Wc d j1 (.ref 1 :: a) σ (fun r σ1 => pm_At σ1.2.2.1 σ1.2.2.2.2.1 56 9 ∧ pm_Wc d j2 (.ref 56 :: a) σ1 (fun r' σ2 => ∃ x : Int32, r = some (.int x) ∧ r' = some (.int x) ∧ post σ2))
def pm_Op (d : Nat) (post : pm_S → Prop) (σ : pm_S) : Prop := pm_At σ.2.2.1 σ.2.2.2.2.1 1 0 ∧ (∀ a : Int32, ¬ a < 0 → a ≤ 65535 → pm_two d 1 135 [.int a] post σ) ∧ (∀ a : Int32, pm_two d 2 173 [.int a] post σ) ∧ (pm_two d 3 175 [] post σ) ∧ (∀ a b : Int32, pm_two d 4 176 [.int a, .int b] post σ) ∧ (∀ a b : Int32, pm_two d 5 177 [.int a, .int b] post σ) ∧ (∀ a b c : Int32, pm_two d 6 179 [.int a, .int b, .int c] post σ) ∧ (∀ a b c : Int32, pm_two d 7 180 [.int a, .int b, .int c] post σ) ∧ (∀ a : Int32, pm_two d 8 181 [.int a] post σ) ∧ (∀ a : Int32, pm_two d 9 185 [.int a] post σ) ∧ (∀ a : Int32, pm_two d 10 186 [.int a] post σ) ∧ (∀ a : Int32, pm_two d 11 196 [.int a] post σ) ∧ (∀ a : Int32, pm_two d 12 197 [.int a] post σ) ∧ (pm_two d 13 198 [] post σ) ∧ (∀ a : Int32, pm_two d 14 207 [.int a] post σ) ∧ (pm_two d 15 208 [] post σ) ∧ (pm_two d 16 209 [] post σ)
theorem pm_i2c (x : Int32) : ¬ (x.toUInt32 % 65536).toInt32 < 0 ∧ (x.toUInt32 % 65536).toInt32 ≤ 65535 := by
  rw [pk_char]
  have h : x.toBitVec.toNat % 65536 < 65536 := Nat.mod_lt _ (by decide)
  exact ⟨nI_pos (by omega), nI_le (a := x.toBitVec.toNat % 65536) (b := 65535) (by omega) (by decide)⟩
theorem wp_virtS {X : pm_X} {mi pc k j p : Nat} {ls : pm_L} {as rest : List Value} {σ : pm_S} (hd : decode (pm_code mi) pc = .ok (.invokevirtual k, 3)) (hm : pm_mth (pm_ow mi) k = some j) (hk : pm_kd j = 1) (hnp : pm_np j = as.length) (ha : pm_At σ.2.2.1 σ.2.2.2.2.1 p (pm_mc j)) (hv : as.all pm_vc = true) (hv2 : rest.all pm_vc = true) (hr : rest.length ≤ 8)
    (h : pm_Wc d j (.ref p :: as.reverse) σ (fun r σ1 => pm_Wp X d mi (pc + 3) ls (r.toList ++ rest) σ1 Q)) : pm_Wp X d mi pc ls (as ++ .ref p :: rest) σ Q := by
  obtain ⟨I, Rf, K, L0, n, s⟩ := σ
  exact wp_virt hd hm hk hnp ha hv hv2 hr h
def pm_LL (v : Int32) : pm_L := [some (.ref 0), some (.ref 1), some (.ref 56), some (.int v)]
set_option maxRecDepth 20000 in
set_option maxHeartbeats 4000000 in
theorem pm_iter {k : Nat} {σ : pm_S} {post : pm_S → Prop} (hop : pm_Op d post σ) (hk : k + 4 ≤ L) (hL : L ≤ 2048) (hn : ∀ σ', post σ' → pm_Wp (some (L, xs)) d 212 18 (pm_LL (nI (k + 4))) [] σ' Q) : pm_Wp (some (L, xs)) d 212 18 (pm_LL (nI k)) [] σ Q := by
  obtain ⟨h1, o0, o1, o2, o3, o4, o5, o6, o7, o8, o9, o10, o11, o12, o13, o14, o15⟩ := hop
  refine wp_iload_n d212_18 rfl ?_
  refine wp_aload_n d212_19 rfl ?_
  refine wp_slen d212_20 ?_
  refine wp_iconst (v := 4) d212_21 (by decide) ?_
  refine wp_isub d212_22 ?_
  refine wp_icmp_gt (t := 508) d212_23 (by decide) (fun hb => absurd hb (pm_lawgo hk hL)) (fun _ => ?_)
  refine wp_aload_n d212_26 rfl ?_
  refine wp_iload_n d212_27 rfl ?_
  refine wp_sldn (m := k) d212_28 rfl (by omega) hL ?_
  refine wp_bipush (v := 15) d212_29 (by decide) ?_
  refine wp_iand d212_31 ?_
  obtain ⟨j, hj, ej⟩ := pk_andE (xs k) (m := 15) 4 (by decide)
  rw [ej]
  have fin : ∀ σ', post σ' → pm_Wp (some (L, xs)) d 212 502 (pm_LL (nI k)) [] σ' Q := by
    intro σ' hp
    refine wp_iinc (v := nI (k + 4)) d212_502 rfl (pm_nI4 k) rfl ?_
    refine wp_goto (t := 18) d212_505 (by decide) ?_
    exact hn σ' hp
  match j, hj with
  | 0, _ =>
    refine wp_table (t := 112) d212_32 (by decide +kernel) ?_
    refine wp_aload_n d212_112 rfl ?_
    refine wp_aload_n d212_113 rfl ?_
    refine wp_iload_n d212_114 rfl ?_
    refine wp_iconst (v := 1) d212_115 (by decide) ?_
    refine wp_iadd d212_116 ?_
    refine wp_sldn (m := k + 1) d212_117 (nI_1 k) (by omega) hL ?_
    refine wp_i2c d212_118 ?_
    refine wp_virtS (as := [.int (((xs (k + 1)).toUInt32 % 65536).toInt32)]) (rest := []) d212_119 rfl rfl rfl h1 rfl rfl (Nat.le_of_ble_eq_true rfl) ?_
    refine wc_mono (o0 _ (pm_i2c _).1 (pm_i2c _).2) ?_
    rintro r σ1 ⟨h2, h3⟩
    obtain ⟨F, r2, σ2, hc, x, rfl, rfl, hp⟩ := h3
    refine wp_aload_n d212_122 rfl ?_
    refine wp_aload_n d212_123 rfl ?_
    refine wp_iload_n d212_124 rfl ?_
    refine wp_iconst (v := 1) d212_125 (by decide) ?_
    refine wp_iadd d212_126 ?_
    refine wp_sldn (m := k + 1) d212_127 (nI_1 k) (by omega) hL ?_
    refine wp_i2c d212_128 ?_
    refine wp_virtS (as := [.int (((xs (k + 1)).toUInt32 % 65536).toInt32)]) (rest := [.int x]) d212_129 rfl rfl rfl h2 rfl rfl (Nat.le_of_ble_eq_true rfl) ?_
    refine ⟨F, _, _, hc, ?_⟩
    refine wp_icmp_eq (t := 502) d212_132 (by decide) (fun _ => fin _ hp) (fun hb => absurd rfl hb)
  | 1, _ =>
    refine wp_table (t := 137) d212_32 (by decide +kernel) ?_
    refine wp_aload_n d212_137 rfl ?_
    refine wp_aload_n d212_138 rfl ?_
    refine wp_iload_n d212_139 rfl ?_
    refine wp_iconst (v := 1) d212_140 (by decide) ?_
    refine wp_iadd d212_141 ?_
    refine wp_sldn (m := k + 1) d212_142 (nI_1 k) (by omega) hL ?_
    refine wp_virtS (as := [.int (xs (k + 1))]) (rest := []) d212_143 rfl rfl rfl h1 rfl rfl (Nat.le_of_ble_eq_true rfl) ?_
    refine wc_mono (o1 (xs (k + 1))) ?_
    rintro r σ1 ⟨h2, h3⟩
    obtain ⟨F, r2, σ2, hc, x, rfl, rfl, hp⟩ := h3
    refine wp_aload_n d212_146 rfl ?_
    refine wp_aload_n d212_147 rfl ?_
    refine wp_iload_n d212_148 rfl ?_
    refine wp_iconst (v := 1) d212_149 (by decide) ?_
    refine wp_iadd d212_150 ?_
    refine wp_sldn (m := k + 1) d212_151 (nI_1 k) (by omega) hL ?_
    refine wp_virtS (as := [.int (xs (k + 1))]) (rest := [.int x]) d212_152 rfl rfl rfl h2 rfl rfl (Nat.le_of_ble_eq_true rfl) ?_
    refine ⟨F, _, _, hc, ?_⟩
    refine wp_icmp_eq (t := 502) d212_155 (by decide) (fun _ => fin _ hp) (fun hb => absurd rfl hb)
  | 2, _ =>
    refine wp_table (t := 160) d212_32 (by decide +kernel) ?_
    refine wp_aload_n d212_160 rfl ?_
    refine wp_virtS (as := []) (rest := []) d212_161 rfl rfl rfl h1 rfl rfl (Nat.le_of_ble_eq_true rfl) ?_
    refine wc_mono (o2) ?_
    rintro r σ1 ⟨h2, h3⟩
    obtain ⟨F, r2, σ2, hc, x, rfl, rfl, hp⟩ := h3
    refine wp_aload_n d212_164 rfl ?_
    refine wp_virtS (as := []) (rest := [.int x]) d212_165 rfl rfl rfl h2 rfl rfl (Nat.le_of_ble_eq_true rfl) ?_
    refine ⟨F, _, _, hc, ?_⟩
    refine wp_icmp_eq (t := 502) d212_168 (by decide) (fun _ => fin _ hp) (fun hb => absurd rfl hb)
  | 3, _ =>
    refine wp_table (t := 173) d212_32 (by decide +kernel) ?_
    refine wp_aload_n d212_173 rfl ?_
    refine wp_aload_n d212_174 rfl ?_
    refine wp_iload_n d212_175 rfl ?_
    refine wp_iconst (v := 1) d212_176 (by decide) ?_
    refine wp_iadd d212_177 ?_
    refine wp_sldn (m := k + 1) d212_178 (nI_1 k) (by omega) hL ?_
    refine wp_aload_n d212_179 rfl ?_
    refine wp_iload_n d212_180 rfl ?_
    refine wp_iconst (v := 2) d212_181 (by decide) ?_
    refine wp_iadd d212_182 ?_
    refine wp_sldn (m := k + 2) d212_183 (pm_nI2 k) (by omega) hL ?_
    refine wp_virtS (as := [.int (xs (k + 2)), .int (xs (k + 1))]) (rest := []) d212_184 rfl rfl rfl h1 rfl rfl (Nat.le_of_ble_eq_true rfl) ?_
    refine wc_mono (o3 (xs (k + 1)) (xs (k + 2))) ?_
    rintro r σ1 ⟨h2, h3⟩
    obtain ⟨F, r2, σ2, hc, x, rfl, rfl, hp⟩ := h3
    refine wp_aload_n d212_187 rfl ?_
    refine wp_aload_n d212_188 rfl ?_
    refine wp_iload_n d212_189 rfl ?_
    refine wp_iconst (v := 1) d212_190 (by decide) ?_
    refine wp_iadd d212_191 ?_
    refine wp_sldn (m := k + 1) d212_192 (nI_1 k) (by omega) hL ?_
    refine wp_aload_n d212_193 rfl ?_
    refine wp_iload_n d212_194 rfl ?_
    refine wp_iconst (v := 2) d212_195 (by decide) ?_
    refine wp_iadd d212_196 ?_
    refine wp_sldn (m := k + 2) d212_197 (pm_nI2 k) (by omega) hL ?_
    refine wp_virtS (as := [.int (xs (k + 2)), .int (xs (k + 1))]) (rest := [.int x]) d212_198 rfl rfl rfl h2 rfl rfl (Nat.le_of_ble_eq_true rfl) ?_
    refine ⟨F, _, _, hc, ?_⟩
    refine wp_icmp_eq (t := 502) d212_201 (by decide) (fun _ => fin _ hp) (fun hb => absurd rfl hb)
  | 4, _ =>
    refine wp_table (t := 206) d212_32 (by decide +kernel) ?_
    refine wp_aload_n d212_206 rfl ?_
    refine wp_aload_n d212_207 rfl ?_
    refine wp_iload_n d212_208 rfl ?_
    refine wp_iconst (v := 1) d212_209 (by decide) ?_
    refine wp_iadd d212_210 ?_
    refine wp_sldn (m := k + 1) d212_211 (nI_1 k) (by omega) hL ?_
    refine wp_aload_n d212_212 rfl ?_
    refine wp_iload_n d212_213 rfl ?_
    refine wp_iconst (v := 2) d212_214 (by decide) ?_
    refine wp_iadd d212_215 ?_
    refine wp_sldn (m := k + 2) d212_216 (pm_nI2 k) (by omega) hL ?_
    refine wp_virtS (as := [.int (xs (k + 2)), .int (xs (k + 1))]) (rest := []) d212_217 rfl rfl rfl h1 rfl rfl (Nat.le_of_ble_eq_true rfl) ?_
    refine wc_mono (o4 (xs (k + 1)) (xs (k + 2))) ?_
    rintro r σ1 ⟨h2, h3⟩
    obtain ⟨F, r2, σ2, hc, x, rfl, rfl, hp⟩ := h3
    refine wp_aload_n d212_220 rfl ?_
    refine wp_aload_n d212_221 rfl ?_
    refine wp_iload_n d212_222 rfl ?_
    refine wp_iconst (v := 1) d212_223 (by decide) ?_
    refine wp_iadd d212_224 ?_
    refine wp_sldn (m := k + 1) d212_225 (nI_1 k) (by omega) hL ?_
    refine wp_aload_n d212_226 rfl ?_
    refine wp_iload_n d212_227 rfl ?_
    refine wp_iconst (v := 2) d212_228 (by decide) ?_
    refine wp_iadd d212_229 ?_
    refine wp_sldn (m := k + 2) d212_230 (pm_nI2 k) (by omega) hL ?_
    refine wp_virtS (as := [.int (xs (k + 2)), .int (xs (k + 1))]) (rest := [.int x]) d212_231 rfl rfl rfl h2 rfl rfl (Nat.le_of_ble_eq_true rfl) ?_
    refine ⟨F, _, _, hc, ?_⟩
    refine wp_icmp_eq (t := 502) d212_234 (by decide) (fun _ => fin _ hp) (fun hb => absurd rfl hb)
  | 5, _ =>
    refine wp_table (t := 239) d212_32 (by decide +kernel) ?_
    refine wp_aload_n d212_239 rfl ?_
    refine wp_aload_n d212_240 rfl ?_
    refine wp_iload_n d212_241 rfl ?_
    refine wp_iconst (v := 1) d212_242 (by decide) ?_
    refine wp_iadd d212_243 ?_
    refine wp_sldn (m := k + 1) d212_244 (nI_1 k) (by omega) hL ?_
    refine wp_aload_n d212_245 rfl ?_
    refine wp_iload_n d212_246 rfl ?_
    refine wp_iconst (v := 2) d212_247 (by decide) ?_
    refine wp_iadd d212_248 ?_
    refine wp_sldn (m := k + 2) d212_249 (pm_nI2 k) (by omega) hL ?_
    refine wp_aload_n d212_250 rfl ?_
    refine wp_iload_n d212_251 rfl ?_
    refine wp_iconst (v := 3) d212_252 (by decide) ?_
    refine wp_iadd d212_253 ?_
    refine wp_sldn (m := k + 3) d212_254 (pm_nI3 k) (by omega) hL ?_
    refine wp_virtS (as := [.int (xs (k + 3)), .int (xs (k + 2)), .int (xs (k + 1))]) (rest := []) d212_255 rfl rfl rfl h1 rfl rfl (Nat.le_of_ble_eq_true rfl) ?_
    refine wc_mono (o5 (xs (k + 1)) (xs (k + 2)) (xs (k + 3))) ?_
    rintro r σ1 ⟨h2, h3⟩
    obtain ⟨F, r2, σ2, hc, x, rfl, rfl, hp⟩ := h3
    refine wp_aload_n d212_258 rfl ?_
    refine wp_aload_n d212_259 rfl ?_
    refine wp_iload_n d212_260 rfl ?_
    refine wp_iconst (v := 1) d212_261 (by decide) ?_
    refine wp_iadd d212_262 ?_
    refine wp_sldn (m := k + 1) d212_263 (nI_1 k) (by omega) hL ?_
    refine wp_aload_n d212_264 rfl ?_
    refine wp_iload_n d212_265 rfl ?_
    refine wp_iconst (v := 2) d212_266 (by decide) ?_
    refine wp_iadd d212_267 ?_
    refine wp_sldn (m := k + 2) d212_268 (pm_nI2 k) (by omega) hL ?_
    refine wp_aload_n d212_269 rfl ?_
    refine wp_iload_n d212_270 rfl ?_
    refine wp_iconst (v := 3) d212_271 (by decide) ?_
    refine wp_iadd d212_272 ?_
    refine wp_sldn (m := k + 3) d212_273 (pm_nI3 k) (by omega) hL ?_
    refine wp_virtS (as := [.int (xs (k + 3)), .int (xs (k + 2)), .int (xs (k + 1))]) (rest := [.int x]) d212_274 rfl rfl rfl h2 rfl rfl (Nat.le_of_ble_eq_true rfl) ?_
    refine ⟨F, _, _, hc, ?_⟩
    refine wp_icmp_eq (t := 502) d212_277 (by decide) (fun _ => fin _ hp) (fun hb => absurd rfl hb)
  | 6, _ =>
    refine wp_table (t := 282) d212_32 (by decide +kernel) ?_
    refine wp_aload_n d212_282 rfl ?_
    refine wp_aload_n d212_283 rfl ?_
    refine wp_iload_n d212_284 rfl ?_
    refine wp_iconst (v := 1) d212_285 (by decide) ?_
    refine wp_iadd d212_286 ?_
    refine wp_sldn (m := k + 1) d212_287 (nI_1 k) (by omega) hL ?_
    refine wp_aload_n d212_288 rfl ?_
    refine wp_iload_n d212_289 rfl ?_
    refine wp_iconst (v := 2) d212_290 (by decide) ?_
    refine wp_iadd d212_291 ?_
    refine wp_sldn (m := k + 2) d212_292 (pm_nI2 k) (by omega) hL ?_
    refine wp_aload_n d212_293 rfl ?_
    refine wp_iload_n d212_294 rfl ?_
    refine wp_iconst (v := 3) d212_295 (by decide) ?_
    refine wp_iadd d212_296 ?_
    refine wp_sldn (m := k + 3) d212_297 (pm_nI3 k) (by omega) hL ?_
    refine wp_virtS (as := [.int (xs (k + 3)), .int (xs (k + 2)), .int (xs (k + 1))]) (rest := []) d212_298 rfl rfl rfl h1 rfl rfl (Nat.le_of_ble_eq_true rfl) ?_
    refine wc_mono (o6 (xs (k + 1)) (xs (k + 2)) (xs (k + 3))) ?_
    rintro r σ1 ⟨h2, h3⟩
    obtain ⟨F, r2, σ2, hc, x, rfl, rfl, hp⟩ := h3
    refine wp_aload_n d212_301 rfl ?_
    refine wp_aload_n d212_302 rfl ?_
    refine wp_iload_n d212_303 rfl ?_
    refine wp_iconst (v := 1) d212_304 (by decide) ?_
    refine wp_iadd d212_305 ?_
    refine wp_sldn (m := k + 1) d212_306 (nI_1 k) (by omega) hL ?_
    refine wp_aload_n d212_307 rfl ?_
    refine wp_iload_n d212_308 rfl ?_
    refine wp_iconst (v := 2) d212_309 (by decide) ?_
    refine wp_iadd d212_310 ?_
    refine wp_sldn (m := k + 2) d212_311 (pm_nI2 k) (by omega) hL ?_
    refine wp_aload_n d212_312 rfl ?_
    refine wp_iload_n d212_313 rfl ?_
    refine wp_iconst (v := 3) d212_314 (by decide) ?_
    refine wp_iadd d212_315 ?_
    refine wp_sldn (m := k + 3) d212_316 (pm_nI3 k) (by omega) hL ?_
    refine wp_virtS (as := [.int (xs (k + 3)), .int (xs (k + 2)), .int (xs (k + 1))]) (rest := [.int x]) d212_317 rfl rfl rfl h2 rfl rfl (Nat.le_of_ble_eq_true rfl) ?_
    refine ⟨F, _, _, hc, ?_⟩
    refine wp_icmp_eq (t := 502) d212_320 (by decide) (fun _ => fin _ hp) (fun hb => absurd rfl hb)
  | 7, _ =>
    refine wp_table (t := 325) d212_32 (by decide +kernel) ?_
    refine wp_aload_n d212_325 rfl ?_
    refine wp_aload_n d212_326 rfl ?_
    refine wp_iload_n d212_327 rfl ?_
    refine wp_iconst (v := 1) d212_328 (by decide) ?_
    refine wp_iadd d212_329 ?_
    refine wp_sldn (m := k + 1) d212_330 (nI_1 k) (by omega) hL ?_
    refine wp_virtS (as := [.int (xs (k + 1))]) (rest := []) d212_331 rfl rfl rfl h1 rfl rfl (Nat.le_of_ble_eq_true rfl) ?_
    refine wc_mono (o7 (xs (k + 1))) ?_
    rintro r σ1 ⟨h2, h3⟩
    obtain ⟨F, r2, σ2, hc, x, rfl, rfl, hp⟩ := h3
    refine wp_aload_n d212_334 rfl ?_
    refine wp_aload_n d212_335 rfl ?_
    refine wp_iload_n d212_336 rfl ?_
    refine wp_iconst (v := 1) d212_337 (by decide) ?_
    refine wp_iadd d212_338 ?_
    refine wp_sldn (m := k + 1) d212_339 (nI_1 k) (by omega) hL ?_
    refine wp_virtS (as := [.int (xs (k + 1))]) (rest := [.int x]) d212_340 rfl rfl rfl h2 rfl rfl (Nat.le_of_ble_eq_true rfl) ?_
    refine ⟨F, _, _, hc, ?_⟩
    refine wp_icmp_eq (t := 502) d212_343 (by decide) (fun _ => fin _ hp) (fun hb => absurd rfl hb)
  | 8, _ =>
    refine wp_table (t := 348) d212_32 (by decide +kernel) ?_
    refine wp_aload_n d212_348 rfl ?_
    refine wp_aload_n d212_349 rfl ?_
    refine wp_iload_n d212_350 rfl ?_
    refine wp_iconst (v := 1) d212_351 (by decide) ?_
    refine wp_iadd d212_352 ?_
    refine wp_sldn (m := k + 1) d212_353 (nI_1 k) (by omega) hL ?_
    refine wp_virtS (as := [.int (xs (k + 1))]) (rest := []) d212_354 rfl rfl rfl h1 rfl rfl (Nat.le_of_ble_eq_true rfl) ?_
    refine wc_mono (o8 (xs (k + 1))) ?_
    rintro r σ1 ⟨h2, h3⟩
    obtain ⟨F, r2, σ2, hc, x, rfl, rfl, hp⟩ := h3
    refine wp_aload_n d212_357 rfl ?_
    refine wp_aload_n d212_358 rfl ?_
    refine wp_iload_n d212_359 rfl ?_
    refine wp_iconst (v := 1) d212_360 (by decide) ?_
    refine wp_iadd d212_361 ?_
    refine wp_sldn (m := k + 1) d212_362 (nI_1 k) (by omega) hL ?_
    refine wp_virtS (as := [.int (xs (k + 1))]) (rest := [.int x]) d212_363 rfl rfl rfl h2 rfl rfl (Nat.le_of_ble_eq_true rfl) ?_
    refine ⟨F, _, _, hc, ?_⟩
    refine wp_icmp_eq (t := 502) d212_366 (by decide) (fun _ => fin _ hp) (fun hb => absurd rfl hb)
  | 9, _ =>
    refine wp_table (t := 371) d212_32 (by decide +kernel) ?_
    refine wp_aload_n d212_371 rfl ?_
    refine wp_aload_n d212_372 rfl ?_
    refine wp_iload_n d212_373 rfl ?_
    refine wp_iconst (v := 1) d212_374 (by decide) ?_
    refine wp_iadd d212_375 ?_
    refine wp_sldn (m := k + 1) d212_376 (nI_1 k) (by omega) hL ?_
    refine wp_virtS (as := [.int (xs (k + 1))]) (rest := []) d212_377 rfl rfl rfl h1 rfl rfl (Nat.le_of_ble_eq_true rfl) ?_
    refine wc_mono (o9 (xs (k + 1))) ?_
    rintro r σ1 ⟨h2, h3⟩
    obtain ⟨F, r2, σ2, hc, x, rfl, rfl, hp⟩ := h3
    refine wp_aload_n d212_380 rfl ?_
    refine wp_aload_n d212_381 rfl ?_
    refine wp_iload_n d212_382 rfl ?_
    refine wp_iconst (v := 1) d212_383 (by decide) ?_
    refine wp_iadd d212_384 ?_
    refine wp_sldn (m := k + 1) d212_385 (nI_1 k) (by omega) hL ?_
    refine wp_virtS (as := [.int (xs (k + 1))]) (rest := [.int x]) d212_386 rfl rfl rfl h2 rfl rfl (Nat.le_of_ble_eq_true rfl) ?_
    refine ⟨F, _, _, hc, ?_⟩
    refine wp_icmp_eq (t := 502) d212_389 (by decide) (fun _ => fin _ hp) (fun hb => absurd rfl hb)
  | 10, _ =>
    refine wp_table (t := 394) d212_32 (by decide +kernel) ?_
    refine wp_aload_n d212_394 rfl ?_
    refine wp_aload_n d212_395 rfl ?_
    refine wp_iload_n d212_396 rfl ?_
    refine wp_iconst (v := 1) d212_397 (by decide) ?_
    refine wp_iadd d212_398 ?_
    refine wp_sldn (m := k + 1) d212_399 (nI_1 k) (by omega) hL ?_
    refine wp_virtS (as := [.int (xs (k + 1))]) (rest := []) d212_400 rfl rfl rfl h1 rfl rfl (Nat.le_of_ble_eq_true rfl) ?_
    refine wc_mono (o10 (xs (k + 1))) ?_
    rintro r σ1 ⟨h2, h3⟩
    obtain ⟨F, r2, σ2, hc, x, rfl, rfl, hp⟩ := h3
    refine wp_aload_n d212_403 rfl ?_
    refine wp_aload_n d212_404 rfl ?_
    refine wp_iload_n d212_405 rfl ?_
    refine wp_iconst (v := 1) d212_406 (by decide) ?_
    refine wp_iadd d212_407 ?_
    refine wp_sldn (m := k + 1) d212_408 (nI_1 k) (by omega) hL ?_
    refine wp_virtS (as := [.int (xs (k + 1))]) (rest := [.int x]) d212_409 rfl rfl rfl h2 rfl rfl (Nat.le_of_ble_eq_true rfl) ?_
    refine ⟨F, _, _, hc, ?_⟩
    refine wp_icmp_eq (t := 502) d212_412 (by decide) (fun _ => fin _ hp) (fun hb => absurd rfl hb)
  | 11, _ =>
    refine wp_table (t := 417) d212_32 (by decide +kernel) ?_
    refine wp_aload_n d212_417 rfl ?_
    refine wp_aload_n d212_418 rfl ?_
    refine wp_iload_n d212_419 rfl ?_
    refine wp_iconst (v := 1) d212_420 (by decide) ?_
    refine wp_iadd d212_421 ?_
    refine wp_sldn (m := k + 1) d212_422 (nI_1 k) (by omega) hL ?_
    refine wp_virtS (as := [.int (xs (k + 1))]) (rest := []) d212_423 rfl rfl rfl h1 rfl rfl (Nat.le_of_ble_eq_true rfl) ?_
    refine wc_mono (o11 (xs (k + 1))) ?_
    rintro r σ1 ⟨h2, h3⟩
    obtain ⟨F, r2, σ2, hc, x, rfl, rfl, hp⟩ := h3
    refine wp_aload_n d212_426 rfl ?_
    refine wp_aload_n d212_427 rfl ?_
    refine wp_iload_n d212_428 rfl ?_
    refine wp_iconst (v := 1) d212_429 (by decide) ?_
    refine wp_iadd d212_430 ?_
    refine wp_sldn (m := k + 1) d212_431 (nI_1 k) (by omega) hL ?_
    refine wp_virtS (as := [.int (xs (k + 1))]) (rest := [.int x]) d212_432 rfl rfl rfl h2 rfl rfl (Nat.le_of_ble_eq_true rfl) ?_
    refine ⟨F, _, _, hc, ?_⟩
    refine wp_icmp_eq (t := 502) d212_435 (by decide) (fun _ => fin _ hp) (fun hb => absurd rfl hb)
  | 12, _ =>
    refine wp_table (t := 440) d212_32 (by decide +kernel) ?_
    refine wp_aload_n d212_440 rfl ?_
    refine wp_virtS (as := []) (rest := []) d212_441 rfl rfl rfl h1 rfl rfl (Nat.le_of_ble_eq_true rfl) ?_
    refine wc_mono (o12) ?_
    rintro r σ1 ⟨h2, h3⟩
    obtain ⟨F, r2, σ2, hc, x, rfl, rfl, hp⟩ := h3
    refine wp_aload_n d212_444 rfl ?_
    refine wp_virtS (as := []) (rest := [.int x]) d212_445 rfl rfl rfl h2 rfl rfl (Nat.le_of_ble_eq_true rfl) ?_
    refine ⟨F, _, _, hc, ?_⟩
    refine wp_icmp_eq (t := 502) d212_448 (by decide) (fun _ => fin _ hp) (fun hb => absurd rfl hb)
  | 13, _ =>
    refine wp_table (t := 453) d212_32 (by decide +kernel) ?_
    refine wp_aload_n d212_453 rfl ?_
    refine wp_aload_n d212_454 rfl ?_
    refine wp_iload_n d212_455 rfl ?_
    refine wp_iconst (v := 1) d212_456 (by decide) ?_
    refine wp_iadd d212_457 ?_
    refine wp_sldn (m := k + 1) d212_458 (nI_1 k) (by omega) hL ?_
    refine wp_virtS (as := [.int (xs (k + 1))]) (rest := []) d212_459 rfl rfl rfl h1 rfl rfl (Nat.le_of_ble_eq_true rfl) ?_
    refine wc_mono (o13 (xs (k + 1))) ?_
    rintro r σ1 ⟨h2, h3⟩
    obtain ⟨F, r2, σ2, hc, x, rfl, rfl, hp⟩ := h3
    refine wp_aload_n d212_462 rfl ?_
    refine wp_aload_n d212_463 rfl ?_
    refine wp_iload_n d212_464 rfl ?_
    refine wp_iconst (v := 1) d212_465 (by decide) ?_
    refine wp_iadd d212_466 ?_
    refine wp_sldn (m := k + 1) d212_467 (nI_1 k) (by omega) hL ?_
    refine wp_virtS (as := [.int (xs (k + 1))]) (rest := [.int x]) d212_468 rfl rfl rfl h2 rfl rfl (Nat.le_of_ble_eq_true rfl) ?_
    refine ⟨F, _, _, hc, ?_⟩
    refine wp_icmp_eq (t := 502) d212_471 (by decide) (fun _ => fin _ hp) (fun hb => absurd rfl hb)
  | 14, _ =>
    refine wp_table (t := 476) d212_32 (by decide +kernel) ?_
    refine wp_aload_n d212_476 rfl ?_
    refine wp_virtS (as := []) (rest := []) d212_477 rfl rfl rfl h1 rfl rfl (Nat.le_of_ble_eq_true rfl) ?_
    refine wc_mono (o14) ?_
    rintro r σ1 ⟨h2, h3⟩
    obtain ⟨F, r2, σ2, hc, x, rfl, rfl, hp⟩ := h3
    refine wp_aload_n d212_480 rfl ?_
    refine wp_virtS (as := []) (rest := [.int x]) d212_481 rfl rfl rfl h2 rfl rfl (Nat.le_of_ble_eq_true rfl) ?_
    refine ⟨F, _, _, hc, ?_⟩
    refine wp_icmp_eq (t := 502) d212_484 (by decide) (fun _ => fin _ hp) (fun hb => absurd rfl hb)
  | 15, _ =>
    refine wp_table (t := 489) d212_32 (by decide +kernel) ?_
    refine wp_aload_n d212_489 rfl ?_
    refine wp_virtS (as := []) (rest := []) d212_490 rfl rfl rfl h1 rfl rfl (Nat.le_of_ble_eq_true rfl) ?_
    refine wc_mono (o15) ?_
    rintro r σ1 ⟨h2, h3⟩
    obtain ⟨F, r2, σ2, hc, x, rfl, rfl, hp⟩ := h3
    refine wp_aload_n d212_493 rfl ?_
    refine wp_virtS (as := []) (rest := [.int x]) d212_494 rfl rfl rfl h2 rfl rfl (Nat.le_of_ble_eq_true rfl) ?_
    refine ⟨F, _, _, hc, ?_⟩
    refine wp_icmp_eq (t := 502) d212_497 (by decide) (fun _ => fin _ hp) (fun hb => absurd rfl hb)
  | n + 16, hj => exact absurd hj (by omega)
theorem pm_exit {k : Nat} {σ : pm_S} (hk : L < k + 4) (hk2 : k ≤ 4000) (hL : L ≤ 2048) (hq : Q (some (.int 1)) σ) : pm_Wp (some (L, xs)) d 212 18 (pm_LL (nI k)) [] σ Q := by
  refine wp_iload_n d212_18 rfl ?_
  refine wp_aload_n d212_19 rfl ?_
  refine wp_slen d212_20 ?_
  refine wp_iconst (v := 4) d212_21 (by decide) ?_
  refine wp_isub d212_22 ?_
  refine wp_icmp_gt (t := 508) d212_23 (by decide) (fun _ => ?_) (fun hb => absurd (pm_lawno hk hk2 hL) hb)
  refine wp_iconst (v := 1) d212_508 (by decide) ?_
  exact wp_ret d212_509 (by decide +kernel) hq
set_option maxRecDepth 20000 in
set_option maxHeartbeats 4000000 in
/-- from the law's entry to its loop -/
theorem pm_enter (hd : 6 ≤ d) (h : pm_Wp (some (L, xs)) d 212 18 (pm_LL (nI 0)) [] pm_s4 Q) : pm_Wp (some (L, xs)) d 212 0 (pm_in 212 [.ref 0]) [] pm_0 Q := by
  show pm_Wp (some (L, xs)) d 212 0 [some (.ref 0), none, none, none] [] pm_0 Q
  refine wp_new (c := 0) d212_0 rfl ?_
  show pm_Wp (some (L, xs)) d 212 3 [some (.ref 0), none, none, none] [.ref 1] pm_s1 Q
  refine wp_dupr d212_3 ?_
  refine wp_spec (as := []) (p := 1) (rest := [.ref 1]) d212_4 rfl rfl rfl (by decide) rfl rfl (by decide) ?_
  refine wc_run hd (pm_st_eq pm_c1_ok) ?_
  show pm_Wp (some (L, xs)) d 212 7 [some (.ref 0), none, none, none] [.ref 1] pm_s2 Q
  refine wp_astore_n d212_7 (by decide) rfl ?_
  refine wp_new (c := 9) d212_8 rfl ?_
  rw [pm_s2_n]
  show pm_Wp (some (L, xs)) d 212 11 [some (.ref 0), some (.ref 1), none, none] [.ref 56] pm_s3 Q
  refine wp_dupr d212_11 ?_
  refine wp_spec (as := []) (p := 56) (rest := [.ref 56]) d212_12 rfl rfl rfl (by decide) rfl rfl (by decide) ?_
  refine wc_run hd (pm_st_eq pm_c2_ok) ?_
  show pm_Wp (some (L, xs)) d 212 15 [some (.ref 0), some (.ref 1), none, none] [.ref 56] pm_s4 Q
  refine wp_astore_n d212_15 (by decide) rfl ?_
  refine wp_iconst (v := 0) d212_16 (by decide) ?_
  refine wp_istore_n d212_17 (by decide) rfl ?_
  exact h
end PmLaw
