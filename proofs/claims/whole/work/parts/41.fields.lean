/-! THE MODEL: fields, and part where nothing matches. -/
section PmM12
variable {d : Nat} {Q : Option Value → pm_S → Prop} {M N : pm_M} {Rf : Nat → Nat → Nat} {K L : Nat → Nat} {n s : Nat}
set_option maxRecDepth 20000 in
set_option maxHeartbeats 1000000 in
theorem fields_0 {u x g G W a p b q c : Int} {Γ : List Ty} {m m' ls : Nat} {X0 X1 X2 Y0 Y1 Y2 : Ty} {o5 o6 o7 o8 o9 o10 : Option Value} (hG : pm_G Rf K L n) (hM : ∀ p i, R32 (N p i)) (hg : N 56 36 = G) (g0 : 0 ≤ g) (g1 : g < G) (g2 : G < 600) (u1 : u < 1100) (e0 : N 81 (7 * g) = W) (e1 : N 81 (7 * g + 1) = a) (e2 : N 81 (7 * g + 2) = p) (e3 : N 81 (7 * g + 3) = b) (e4 : N 81 (7 * g + 4) = q) (e5 : N 81 (7 * g + 5) = c) (e6 : N 81 (7 * g + 6) = (Γ.length : Int)) (hm : m < 8) (hm' : m' < 8) (hls : ls < 8) (hin : bit ls 0 = true → bit m 0 = true ∨ bit m' 0 = true) (t : TH N u x a p b q c (Γ.length : Int) (Γ, tRec m X0 X1 X2, tRec m' Y0 Y1 Y2)) (h1 : (bit ls 0 = true → bit m 0 = true → bit m' 0 = true → ∀ o5 o6 o7 o8 o9 o10 : Option Value, pm_Wp none (d + 4) 167 15 [some (.ref 56), some (.int (zI g)), some (.int (zI ((8 + ls : Nat) : Int))), some (.int (zI (7 * g))), some (.int (zI 1)), o5, o6, o7, o8, o9, o10] [] (zM (aimM N G W a (p + 1 + fpos X0 X1 0) b (q + 1 + fpos Y0 Y1 0) c (Γ.length : Int)), Rf, K, L, n, s) Q)) (h2 : (bit ls 0 = true → bit m 0 = true → ¬ bit m' 0 = true → ∀ o5 o6 o7 o8 o9 o10 : Option Value, pm_Wp none (d + 4) 167 15 [some (.ref 56), some (.int (zI g)), some (.int (zI ((8 + ls : Nat) : Int))), some (.int (zI (7 * g))), some (.int (zI 1)), o5, o6, o7, o8, o9, o10] [] (zM (aimM N G 2 a (p + 1 + fpos X0 X1 0) a (p + 1 + fpos X0 X1 0) c (Γ.length : Int)), Rf, K, L, n, s) Q)) (h3 : (bit ls 0 = true → ¬ bit m 0 = true → bit m' 0 = true → ∀ o5 o6 o7 o8 o9 o10 : Option Value, pm_Wp none (d + 4) 167 15 [some (.ref 56), some (.int (zI g)), some (.int (zI ((8 + ls : Nat) : Int))), some (.int (zI (7 * g))), some (.int (zI 1)), o5, o6, o7, o8, o9, o10] [] (zM (aimM N G 2 b (q + 1 + fpos Y0 Y1 0) b (q + 1 + fpos Y0 Y1 0) c (Γ.length : Int)), Rf, K, L, n, s) Q)) (h4 : (¬ bit ls 0 = true → ∀ o5 o6 o7 o8 o9 o10 : Option Value, pm_Wp none (d + 4) 167 15 [some (.ref 56), some (.int (zI g)), some (.int (zI ((8 + ls : Nat) : Int))), some (.int (zI (7 * g))), some (.int (zI 1)), o5, o6, o7, o8, o9, o10] [] (zM N, Rf, K, L, n, s) Q)) : pm_Wp none (d + 4) 167 15 [some (.ref 56), some (.int (zI g)), some (.int (zI ((8 + ls : Nat) : Int))), some (.int (zI (7 * g))), some (.int (zI 0)), o5, o6, o7, o8, o9, o10] [] (zM N, Rf, K, L, n, s) Q := by
  have t1 := t.a0; have t2 := t.a1; have t3 := t.p0; have t4 := t.p1; have t5 := t.b0; have t6 := t.b1; have t7 := t.q0; have t8 := t.q1
  have r1 := t.ra
  have r2 := t.rb
  simp only at r1 r2 t4 t8
  obtain ⟨hc, hS, hT⟩ := t.ok
  have hS := (ok_rec hm).mp hS
  have hT := (ok_rec hm').mp hT
  have i1 := @bit_iff m 0
  have i2 := @bit_iff m' 0
  have i3 := @bit_iff ls 0
  simp only [Nat.reducePow] at i1 i2 i3
  have c1 : N 73 (17 * a + p) = ((8 + m : Nat) : Int) := r1.1
  have c2 : N 73 (17 * b + q) = ((8 + m' : Nat) : Int) := r2.1
  have z1 : 1 ≤ (flat (tRec m X0 X1 X2)).length := by rw [flat_rec, List.length_cons]; omega
  have z2 : 1 ≤ (flat (tRec m' Y0 Y1 Y2)).length := by rw [flat_rec, List.length_cons]; omega
  refine wp_iload d167_15 rfl ?_
  refine wz_iconst d167_17 ?_
  refine wz_icmp_ge (t := 297) d167_18 (by decide) (⟨by omega, by omega⟩) (⟨by omega, by omega⟩) (fun hb => absurd hb (by decide)) (fun _ => ?_)
  refine wp_aload_n d167_21 rfl ?_
  refine wp_aload_n d167_22 rfl ?_
  refine wp_getR (q := 81) d167_23 rfl (hG.o (by decide) rfl) (by decide) (hG.r (by decide +kernel)) (by decide) ?_
  refine wp_iload_n d167_26 rfl ?_
  refine wz_iconst d167_27 ?_
  refine wz_iadd d167_28 ?_
  refine wz_iald (z := 4200) (v := a) d167_29 (hG.a (by decide) rfl rfl) (by omega) (by omega) (by decide) e1 ?_
  refine wp_aload_n d167_30 rfl ?_
  refine wp_getR (q := 81) d167_31 rfl (hG.o (by decide) rfl) (by decide) (hG.r (by decide +kernel)) (by decide) ?_
  refine wp_iload_n d167_34 rfl ?_
  refine wz_iconst d167_35 ?_
  refine wz_iadd d167_36 ?_
  refine wz_iald (z := 4200) (v := p) d167_37 (hG.a (by decide) rfl rfl) (by omega) (by omega) (by decide) e2 ?_
  refine wp_virt (as := [.int (zI (p)), .int (zI (a))]) (rest := []) d167_38 rfl rfl rfl (hG.o (by decide) rfl) rfl rfl (Nat.le_of_ble_eq_true rfl) ?_
  refine m_cell hG (by omega) (by omega) ?_
  rw [c1]
  refine wp_iload d167_41 rfl ?_
  refine wz_ishrq (q := 1) d167_43 (by omega) (by omega) (by omega) (by omega) (by decide) ?_
  refine wz_iconst d167_44 ?_
  refine wz_and1 d167_45 (by omega) ?_
  refine wz_iconst d167_46 ?_
  refine wz_icmp_ne (t := 54) d167_47 (by decide) (⟨by omega, by omega⟩) (⟨by omega, by omega⟩) (fun hb47 => ?_) (fun hb47 => ?_)
  · skip
    refine wz_iconst d167_54 ?_
    refine wp_istore d167_55 (Nat.le_of_ble_eq_true rfl) rfl ?_
    refine wp_aload_n d167_57 rfl ?_
    refine wp_aload_n d167_58 rfl ?_
    refine wp_getR (q := 81) d167_59 rfl (hG.o (by decide) rfl) (by decide) (hG.r (by decide +kernel)) (by decide) ?_
    refine wp_iload_n d167_62 rfl ?_
    refine wz_iconst d167_63 ?_
    refine wz_iadd d167_64 ?_
    refine wz_iald (z := 4200) (v := b) d167_65 (hG.a (by decide) rfl rfl) (by omega) (by omega) (by decide) e3 ?_
    refine wp_aload_n d167_66 rfl ?_
    refine wp_getR (q := 81) d167_67 rfl (hG.o (by decide) rfl) (by decide) (hG.r (by decide +kernel)) (by decide) ?_
    refine wp_iload_n d167_70 rfl ?_
    refine wz_iconst d167_71 ?_
    refine wz_iadd d167_72 ?_
    refine wz_iald (z := 4200) (v := q) d167_73 (hG.a (by decide) rfl rfl) (by omega) (by omega) (by decide) e4 ?_
    refine wp_virt (as := [.int (zI (q)), .int (zI (b))]) (rest := []) d167_74 rfl rfl rfl (hG.o (by decide) rfl) rfl rfl (Nat.le_of_ble_eq_true rfl) ?_
    refine m_cell hG (by omega) (by omega) ?_
    rw [c2]
    refine wp_iload d167_77 rfl ?_
    refine wz_ishrq (q := 1) d167_79 (by omega) (by omega) (by omega) (by omega) (by decide) ?_
    refine wz_iconst d167_80 ?_
    refine wz_and1 d167_81 (by omega) ?_
    refine wz_iconst d167_82 ?_
    refine wz_icmp_ne (t := 90) d167_83 (by decide) (⟨by omega, by omega⟩) (⟨by omega, by omega⟩) (fun hb83 => ?_) (fun hb83 => ?_)
    · skip
      refine wz_iconst d167_90 ?_
      refine wp_istore d167_91 (Nat.le_of_ble_eq_true rfl) rfl ?_
      refine wp_iload d167_93 rfl ?_
      refine wz_if_eq (t := 123) d167_95 (by decide) (⟨by omega, by omega⟩) (fun _ => ?_) (fun hb => absurd (by decide) hb)
      refine wz_iconst d167_123 ?_
      refine wp_istore d167_124 (Nat.le_of_ble_eq_true rfl) rfl ?_
      refine wp_iload d167_126 rfl ?_
      refine wz_if_eq (t := 156) d167_128 (by decide) (⟨by omega, by omega⟩) (fun _ => ?_) (fun hb => absurd (by decide) hb)
      refine wz_iconst d167_156 ?_
      refine wp_istore d167_157 (Nat.le_of_ble_eq_true rfl) rfl ?_
      refine wp_iload_n d167_159 rfl ?_
      refine wp_iload d167_160 rfl ?_
      refine wz_ishrq (q := 1) d167_162 (by omega) (by omega) (by omega) (by omega) (by decide) ?_
      refine wz_iconst d167_163 ?_
      refine wz_and1 d167_164 (by omega) ?_
      refine wz_iconst d167_165 ?_
      refine wz_icmp_ne (t := 291) d167_166 (by decide) (⟨by omega, by omega⟩) (⟨by omega, by omega⟩) (fun hb166 => ?_) (fun hb166 => ?_)
      · skip
        refine wz_iinc d167_291 rfl rfl ?_
        refine wp_goto (t := 15) d167_294 (by decide) ?_
        exact h4 (by rw [i3]; omega) _ _ _ _ _ _
      · skip
        refine wp_iload d167_169 rfl ?_
        refine wz_if_eq (t := 185) d167_171 (by decide) (⟨by omega, by omega⟩) (fun _ => ?_) (fun hb => absurd (by decide) hb)
        refine wp_aload_n d167_185 rfl ?_
        refine wp_getR (q := 81) d167_186 rfl (hG.o (by decide) rfl) (by decide) (hG.r (by decide +kernel)) (by decide) ?_
        refine wp_iload_n d167_189 rfl ?_
        refine wz_iconst d167_190 ?_
        refine wz_iadd d167_191 ?_
        refine wz_iald (z := 4200) (v := b) d167_192 (hG.a (by decide) rfl rfl) (by omega) (by omega) (by decide) e3 ?_
        refine wp_istore d167_193 (Nat.le_of_ble_eq_true rfl) rfl ?_
        refine wp_iload d167_195 rfl ?_
        refine wz_if_eq (t := 211) d167_197 (by decide) (⟨by omega, by omega⟩) (fun _ => ?_) (fun hb => absurd (by decide) hb)
        refine wp_aload_n d167_211 rfl ?_
        refine wp_getR (q := 81) d167_212 rfl (hG.o (by decide) rfl) (by decide) (hG.r (by decide +kernel)) (by decide) ?_
        refine wp_iload_n d167_215 rfl ?_
        refine wz_iconst d167_216 ?_
        refine wz_iadd d167_217 ?_
        refine wz_iald (z := 4200) (v := a) d167_218 (hG.a (by decide) rfl rfl) (by omega) (by omega) (by decide) e1 ?_
        refine wp_istore d167_219 (Nat.le_of_ble_eq_true rfl) rfl ?_
        refine wp_aload_n d167_221 rfl ?_
        refine wp_iload d167_222 rfl ?_
        refine wz_if_eq (t := 241) d167_224 (by decide) (⟨by omega, by omega⟩) (fun _ => ?_) (fun hb => absurd (by decide) hb)
        refine wz_iconst d167_241 ?_
        refine wp_iload d167_242 rfl ?_
        refine wp_iload d167_244 rfl ?_
        refine wz_if_eq (t := 254) d167_246 (by decide) (⟨by omega, by omega⟩) (fun _ => ?_) (fun hb => absurd (by decide) hb)
        refine wp_iload d167_254 rfl ?_
        refine wp_iload d167_256 rfl ?_
        refine wp_iload d167_258 rfl ?_
        refine wz_if_eq (t := 268) d167_260 (by decide) (⟨by omega, by omega⟩) (fun _ => ?_) (fun hb => absurd (by decide) hb)
        refine wp_iload d167_268 rfl ?_
        refine wp_aload_n d167_270 rfl ?_
        refine wp_getR (q := 81) d167_271 rfl (hG.o (by decide) rfl) (by decide) (hG.r (by decide +kernel)) (by decide) ?_
        refine wp_iload_n d167_274 rfl ?_
        refine wz_iconst d167_275 ?_
        refine wz_iadd d167_276 ?_
        refine wz_iald (z := 4200) (v := c) d167_277 (hG.a (by decide) rfl rfl) (by omega) (by omega) (by decide) e5 ?_
        refine wp_aload_n d167_278 rfl ?_
        refine wp_getR (q := 81) d167_279 rfl (hG.o (by decide) rfl) (by decide) (hG.r (by decide +kernel)) (by decide) ?_
        refine wp_iload_n d167_282 rfl ?_
        refine wz_bipush d167_283 (by decide) ?_
        refine wz_iadd d167_285 ?_
        refine wz_iald (z := 4200) (v := (Γ.length : Int)) d167_286 (hG.a (by decide) rfl rfl) (by omega) (by omega) (by decide) e6 ?_
        refine wp_virt (as := [.int (zI ((Γ.length : Int))), .int (zI (c)), .int (zI (0)), .int (zI (a)), .int (zI (0)), .int (zI (b)), .int (zI (2))]) (rest := []) d167_287 rfl rfl rfl (hG.o (by decide) rfl) rfl rfl (Nat.le_of_ble_eq_true rfl) ?_
        refine m_aimM hG hg (by omega) g2 ?_
        refine wp_popi d167_290 ?_
        refine wz_iinc d167_291 rfl rfl ?_
        refine wp_goto (t := 15) d167_294 (by decide) ?_
        exfalso
        rw [i1, i2, i3] at hin
        omega
    · skip
      refine wz_iconst d167_86 ?_
      refine wp_goto (t := 91) d167_87 (by decide) ?_
      refine wp_istore d167_91 (Nat.le_of_ble_eq_true rfl) rfl ?_
      refine wp_iload d167_93 rfl ?_
      refine wz_if_eq (t := 123) d167_95 (by decide) (⟨by omega, by omega⟩) (fun _ => ?_) (fun hb => absurd (by decide) hb)
      refine wz_iconst d167_123 ?_
      refine wp_istore d167_124 (Nat.le_of_ble_eq_true rfl) rfl ?_
      refine wp_iload d167_126 rfl ?_
      refine wz_if_eq (t := 156) d167_128 (by decide) (⟨by omega, by omega⟩) (fun hb => absurd hb (by decide)) (fun _ => ?_)
      refine wp_aload_n d167_131 rfl ?_
      refine wp_aload_n d167_132 rfl ?_
      refine wp_getR (q := 81) d167_133 rfl (hG.o (by decide) rfl) (by decide) (hG.r (by decide +kernel)) (by decide) ?_
      refine wp_iload_n d167_136 rfl ?_
      refine wz_iconst d167_137 ?_
      refine wz_iadd d167_138 ?_
      refine wz_iald (z := 4200) (v := b) d167_139 (hG.a (by decide) rfl rfl) (by omega) (by omega) (by decide) e3 ?_
      refine wp_aload_n d167_140 rfl ?_
      refine wp_getR (q := 81) d167_141 rfl (hG.o (by decide) rfl) (by decide) (hG.r (by decide +kernel)) (by decide) ?_
      refine wp_iload_n d167_144 rfl ?_
      refine wz_iconst d167_145 ?_
      refine wz_iadd d167_146 ?_
      refine wz_iald (z := 4200) (v := q) d167_147 (hG.a (by decide) rfl rfl) (by omega) (by omega) (by decide) e4 ?_
      refine wp_iload d167_148 rfl ?_
      refine wp_virt (as := [.int (zI (0)), .int (zI (q)), .int (zI (b))]) (rest := []) d167_150 rfl rfl rfl (hG.o (by decide) rfl) rfl rfl (Nat.le_of_ble_eq_true rfl) ?_
      refine m_field0 hG hM t5 (by omega) t7 t8 hm' r2 hT.1 hT.2.1 hT.2.2 ?_
      refine wp_goto (t := 157) d167_153 (by decide) ?_
      refine wp_istore d167_157 (Nat.le_of_ble_eq_true rfl) rfl ?_
      refine wp_iload_n d167_159 rfl ?_
      refine wp_iload d167_160 rfl ?_
      refine wz_ishrq (q := 1) d167_162 (by omega) (by omega) (by omega) (by omega) (by decide) ?_
      refine wz_iconst d167_163 ?_
      refine wz_and1 d167_164 (by omega) ?_
      refine wz_iconst d167_165 ?_
      refine wz_icmp_ne (t := 291) d167_166 (by decide) (⟨by omega, by omega⟩) (⟨by omega, by omega⟩) (fun hb166 => ?_) (fun hb166 => ?_)
      · skip
        refine wz_iinc d167_291 rfl rfl ?_
        refine wp_goto (t := 15) d167_294 (by decide) ?_
        exact h4 (by rw [i3]; omega) _ _ _ _ _ _
      · skip
        refine wp_iload d167_169 rfl ?_
        refine wz_if_eq (t := 185) d167_171 (by decide) (⟨by omega, by omega⟩) (fun _ => ?_) (fun hb => absurd (by decide) hb)
        refine wp_aload_n d167_185 rfl ?_
        refine wp_getR (q := 81) d167_186 rfl (hG.o (by decide) rfl) (by decide) (hG.r (by decide +kernel)) (by decide) ?_
        refine wp_iload_n d167_189 rfl ?_
        refine wz_iconst d167_190 ?_
        refine wz_iadd d167_191 ?_
        refine wz_iald (z := 4200) (v := b) d167_192 (hG.a (by decide) rfl rfl) (by omega) (by omega) (by decide) e3 ?_
        refine wp_istore d167_193 (Nat.le_of_ble_eq_true rfl) rfl ?_
        refine wp_iload d167_195 rfl ?_
        refine wz_if_eq (t := 211) d167_197 (by decide) (⟨by omega, by omega⟩) (fun hb => absurd hb (by decide)) (fun _ => ?_)
        refine wp_aload_n d167_200 rfl ?_
        refine wp_getR (q := 81) d167_201 rfl (hG.o (by decide) rfl) (by decide) (hG.r (by decide +kernel)) (by decide) ?_
        refine wp_iload_n d167_204 rfl ?_
        refine wz_iconst d167_205 ?_
        refine wz_iadd d167_206 ?_
        refine wz_iald (z := 4200) (v := b) d167_207 (hG.a (by decide) rfl rfl) (by omega) (by omega) (by decide) e3 ?_
        refine wp_goto (t := 219) d167_208 (by decide) ?_
        refine wp_istore d167_219 (Nat.le_of_ble_eq_true rfl) rfl ?_
        refine wp_aload_n d167_221 rfl ?_
        refine wp_iload d167_222 rfl ?_
        refine wz_if_eq (t := 241) d167_224 (by decide) (⟨by omega, by omega⟩) (fun _ => ?_) (fun hb => absurd (by decide) hb)
        refine wz_iconst d167_241 ?_
        refine wp_iload d167_242 rfl ?_
        refine wp_iload d167_244 rfl ?_
        refine wz_if_eq (t := 254) d167_246 (by decide) (⟨by omega, by omega⟩) (fun _ => ?_) (fun hb => absurd (by decide) hb)
        refine wp_iload d167_254 rfl ?_
        refine wp_iload d167_256 rfl ?_
        refine wp_iload d167_258 rfl ?_
        refine wz_if_eq (t := 268) d167_260 (by decide) (⟨by omega, by omega⟩) (fun hb => absurd hb (by decide)) (fun _ => ?_)
        refine wp_iload d167_263 rfl ?_
        refine wp_goto (t := 270) d167_265 (by decide) ?_
        refine wp_aload_n d167_270 rfl ?_
        refine wp_getR (q := 81) d167_271 rfl (hG.o (by decide) rfl) (by decide) (hG.r (by decide +kernel)) (by decide) ?_
        refine wp_iload_n d167_274 rfl ?_
        refine wz_iconst d167_275 ?_
        refine wz_iadd d167_276 ?_
        refine wz_iald (z := 4200) (v := c) d167_277 (hG.a (by decide) rfl rfl) (by omega) (by omega) (by decide) e5 ?_
        refine wp_aload_n d167_278 rfl ?_
        refine wp_getR (q := 81) d167_279 rfl (hG.o (by decide) rfl) (by decide) (hG.r (by decide +kernel)) (by decide) ?_
        refine wp_iload_n d167_282 rfl ?_
        refine wz_bipush d167_283 (by decide) ?_
        refine wz_iadd d167_285 ?_
        refine wz_iald (z := 4200) (v := (Γ.length : Int)) d167_286 (hG.a (by decide) rfl rfl) (by omega) (by omega) (by decide) e6 ?_
        refine wp_virt (as := [.int (zI ((Γ.length : Int))), .int (zI (c)), .int (zI ((q + 1 + fpos Y0 Y1 0))), .int (zI (b)), .int (zI ((q + 1 + fpos Y0 Y1 0))), .int (zI (b)), .int (zI (2))]) (rest := []) d167_287 rfl rfl rfl (hG.o (by decide) rfl) rfl rfl (Nat.le_of_ble_eq_true rfl) ?_
        refine m_aimM hG hg (by omega) g2 ?_
        refine wp_popi d167_290 ?_
        refine wz_iinc d167_291 rfl rfl ?_
        refine wp_goto (t := 15) d167_294 (by decide) ?_
        exact h3 (by rw [i3]; omega) (by rw [i1]; omega) (by rw [i2]; omega) _ _ _ _ _ _
  · skip
    refine wz_iconst d167_50 ?_
    refine wp_goto (t := 55) d167_51 (by decide) ?_
    refine wp_istore d167_55 (Nat.le_of_ble_eq_true rfl) rfl ?_
    refine wp_aload_n d167_57 rfl ?_
    refine wp_aload_n d167_58 rfl ?_
    refine wp_getR (q := 81) d167_59 rfl (hG.o (by decide) rfl) (by decide) (hG.r (by decide +kernel)) (by decide) ?_
    refine wp_iload_n d167_62 rfl ?_
    refine wz_iconst d167_63 ?_
    refine wz_iadd d167_64 ?_
    refine wz_iald (z := 4200) (v := b) d167_65 (hG.a (by decide) rfl rfl) (by omega) (by omega) (by decide) e3 ?_
    refine wp_aload_n d167_66 rfl ?_
    refine wp_getR (q := 81) d167_67 rfl (hG.o (by decide) rfl) (by decide) (hG.r (by decide +kernel)) (by decide) ?_
    refine wp_iload_n d167_70 rfl ?_
    refine wz_iconst d167_71 ?_
    refine wz_iadd d167_72 ?_
    refine wz_iald (z := 4200) (v := q) d167_73 (hG.a (by decide) rfl rfl) (by omega) (by omega) (by decide) e4 ?_
    refine wp_virt (as := [.int (zI (q)), .int (zI (b))]) (rest := []) d167_74 rfl rfl rfl (hG.o (by decide) rfl) rfl rfl (Nat.le_of_ble_eq_true rfl) ?_
    refine m_cell hG (by omega) (by omega) ?_
    rw [c2]
    refine wp_iload d167_77 rfl ?_
    refine wz_ishrq (q := 1) d167_79 (by omega) (by omega) (by omega) (by omega) (by decide) ?_
    refine wz_iconst d167_80 ?_
    refine wz_and1 d167_81 (by omega) ?_
    refine wz_iconst d167_82 ?_
    refine wz_icmp_ne (t := 90) d167_83 (by decide) (⟨by omega, by omega⟩) (⟨by omega, by omega⟩) (fun hb83 => ?_) (fun hb83 => ?_)
    · skip
      refine wz_iconst d167_90 ?_
      refine wp_istore d167_91 (Nat.le_of_ble_eq_true rfl) rfl ?_
      refine wp_iload d167_93 rfl ?_
      refine wz_if_eq (t := 123) d167_95 (by decide) (⟨by omega, by omega⟩) (fun hb => absurd hb (by decide)) (fun _ => ?_)
      refine wp_aload_n d167_98 rfl ?_
      refine wp_aload_n d167_99 rfl ?_
      refine wp_getR (q := 81) d167_100 rfl (hG.o (by decide) rfl) (by decide) (hG.r (by decide +kernel)) (by decide) ?_
      refine wp_iload_n d167_103 rfl ?_
      refine wz_iconst d167_104 ?_
      refine wz_iadd d167_105 ?_
      refine wz_iald (z := 4200) (v := a) d167_106 (hG.a (by decide) rfl rfl) (by omega) (by omega) (by decide) e1 ?_
      refine wp_aload_n d167_107 rfl ?_
      refine wp_getR (q := 81) d167_108 rfl (hG.o (by decide) rfl) (by decide) (hG.r (by decide +kernel)) (by decide) ?_
      refine wp_iload_n d167_111 rfl ?_
      refine wz_iconst d167_112 ?_
      refine wz_iadd d167_113 ?_
      refine wz_iald (z := 4200) (v := p) d167_114 (hG.a (by decide) rfl rfl) (by omega) (by omega) (by decide) e2 ?_
      refine wp_iload d167_115 rfl ?_
      refine wp_virt (as := [.int (zI (0)), .int (zI (p)), .int (zI (a))]) (rest := []) d167_117 rfl rfl rfl (hG.o (by decide) rfl) rfl rfl (Nat.le_of_ble_eq_true rfl) ?_
      refine m_field0 hG hM t1 (by omega) t3 t4 hm r1 hS.1 hS.2.1 hS.2.2 ?_
      refine wp_goto (t := 124) d167_120 (by decide) ?_
      refine wp_istore d167_124 (Nat.le_of_ble_eq_true rfl) rfl ?_
      refine wp_iload d167_126 rfl ?_
      refine wz_if_eq (t := 156) d167_128 (by decide) (⟨by omega, by omega⟩) (fun _ => ?_) (fun hb => absurd (by decide) hb)
      refine wz_iconst d167_156 ?_
      refine wp_istore d167_157 (Nat.le_of_ble_eq_true rfl) rfl ?_
      refine wp_iload_n d167_159 rfl ?_
      refine wp_iload d167_160 rfl ?_
      refine wz_ishrq (q := 1) d167_162 (by omega) (by omega) (by omega) (by omega) (by decide) ?_
      refine wz_iconst d167_163 ?_
      refine wz_and1 d167_164 (by omega) ?_
      refine wz_iconst d167_165 ?_
      refine wz_icmp_ne (t := 291) d167_166 (by decide) (⟨by omega, by omega⟩) (⟨by omega, by omega⟩) (fun hb166 => ?_) (fun hb166 => ?_)
      · skip
        refine wz_iinc d167_291 rfl rfl ?_
        refine wp_goto (t := 15) d167_294 (by decide) ?_
        exact h4 (by rw [i3]; omega) _ _ _ _ _ _
      · skip
        refine wp_iload d167_169 rfl ?_
        refine wz_if_eq (t := 185) d167_171 (by decide) (⟨by omega, by omega⟩) (fun hb => absurd hb (by decide)) (fun _ => ?_)
        refine wp_aload_n d167_174 rfl ?_
        refine wp_getR (q := 81) d167_175 rfl (hG.o (by decide) rfl) (by decide) (hG.r (by decide +kernel)) (by decide) ?_
        refine wp_iload_n d167_178 rfl ?_
        refine wz_iconst d167_179 ?_
        refine wz_iadd d167_180 ?_
        refine wz_iald (z := 4200) (v := a) d167_181 (hG.a (by decide) rfl rfl) (by omega) (by omega) (by decide) e1 ?_
        refine wp_goto (t := 193) d167_182 (by decide) ?_
        refine wp_istore d167_193 (Nat.le_of_ble_eq_true rfl) rfl ?_
        refine wp_iload d167_195 rfl ?_
        refine wz_if_eq (t := 211) d167_197 (by decide) (⟨by omega, by omega⟩) (fun _ => ?_) (fun hb => absurd (by decide) hb)
        refine wp_aload_n d167_211 rfl ?_
        refine wp_getR (q := 81) d167_212 rfl (hG.o (by decide) rfl) (by decide) (hG.r (by decide +kernel)) (by decide) ?_
        refine wp_iload_n d167_215 rfl ?_
        refine wz_iconst d167_216 ?_
        refine wz_iadd d167_217 ?_
        refine wz_iald (z := 4200) (v := a) d167_218 (hG.a (by decide) rfl rfl) (by omega) (by omega) (by decide) e1 ?_
        refine wp_istore d167_219 (Nat.le_of_ble_eq_true rfl) rfl ?_
        refine wp_aload_n d167_221 rfl ?_
        refine wp_iload d167_222 rfl ?_
        refine wz_if_eq (t := 241) d167_224 (by decide) (⟨by omega, by omega⟩) (fun hb => absurd hb (by decide)) (fun _ => ?_)
        refine wp_iload d167_227 rfl ?_
        refine wz_if_eq (t := 241) d167_229 (by decide) (⟨by omega, by omega⟩) (fun _ => ?_) (fun hb => absurd (by decide) hb)
        refine wz_iconst d167_241 ?_
        refine wp_iload d167_242 rfl ?_
        refine wp_iload d167_244 rfl ?_
        refine wz_if_eq (t := 254) d167_246 (by decide) (⟨by omega, by omega⟩) (fun hb => absurd hb (by decide)) (fun _ => ?_)
        refine wp_iload d167_249 rfl ?_
        refine wp_goto (t := 256) d167_251 (by decide) ?_
        refine wp_iload d167_256 rfl ?_
        refine wp_iload d167_258 rfl ?_
        refine wz_if_eq (t := 268) d167_260 (by decide) (⟨by omega, by omega⟩) (fun _ => ?_) (fun hb => absurd (by decide) hb)
        refine wp_iload d167_268 rfl ?_
        refine wp_aload_n d167_270 rfl ?_
        refine wp_getR (q := 81) d167_271 rfl (hG.o (by decide) rfl) (by decide) (hG.r (by decide +kernel)) (by decide) ?_
        refine wp_iload_n d167_274 rfl ?_
        refine wz_iconst d167_275 ?_
        refine wz_iadd d167_276 ?_
        refine wz_iald (z := 4200) (v := c) d167_277 (hG.a (by decide) rfl rfl) (by omega) (by omega) (by decide) e5 ?_
        refine wp_aload_n d167_278 rfl ?_
        refine wp_getR (q := 81) d167_279 rfl (hG.o (by decide) rfl) (by decide) (hG.r (by decide +kernel)) (by decide) ?_
        refine wp_iload_n d167_282 rfl ?_
        refine wz_bipush d167_283 (by decide) ?_
        refine wz_iadd d167_285 ?_
        refine wz_iald (z := 4200) (v := (Γ.length : Int)) d167_286 (hG.a (by decide) rfl rfl) (by omega) (by omega) (by decide) e6 ?_
        refine wp_virt (as := [.int (zI ((Γ.length : Int))), .int (zI (c)), .int (zI ((p + 1 + fpos X0 X1 0))), .int (zI (a)), .int (zI ((p + 1 + fpos X0 X1 0))), .int (zI (a)), .int (zI (2))]) (rest := []) d167_287 rfl rfl rfl (hG.o (by decide) rfl) rfl rfl (Nat.le_of_ble_eq_true rfl) ?_
        refine m_aimM hG hg (by omega) g2 ?_
        refine wp_popi d167_290 ?_
        refine wz_iinc d167_291 rfl rfl ?_
        refine wp_goto (t := 15) d167_294 (by decide) ?_
        exact h2 (by rw [i3]; omega) (by rw [i1]; omega) (by rw [i2]; omega) _ _ _ _ _ _
    · skip
      refine wz_iconst d167_86 ?_
      refine wp_goto (t := 91) d167_87 (by decide) ?_
      refine wp_istore d167_91 (Nat.le_of_ble_eq_true rfl) rfl ?_
      refine wp_iload d167_93 rfl ?_
      refine wz_if_eq (t := 123) d167_95 (by decide) (⟨by omega, by omega⟩) (fun hb => absurd hb (by decide)) (fun _ => ?_)
      refine wp_aload_n d167_98 rfl ?_
      refine wp_aload_n d167_99 rfl ?_
      refine wp_getR (q := 81) d167_100 rfl (hG.o (by decide) rfl) (by decide) (hG.r (by decide +kernel)) (by decide) ?_
      refine wp_iload_n d167_103 rfl ?_
      refine wz_iconst d167_104 ?_
      refine wz_iadd d167_105 ?_
      refine wz_iald (z := 4200) (v := a) d167_106 (hG.a (by decide) rfl rfl) (by omega) (by omega) (by decide) e1 ?_
      refine wp_aload_n d167_107 rfl ?_
      refine wp_getR (q := 81) d167_108 rfl (hG.o (by decide) rfl) (by decide) (hG.r (by decide +kernel)) (by decide) ?_
      refine wp_iload_n d167_111 rfl ?_
      refine wz_iconst d167_112 ?_
      refine wz_iadd d167_113 ?_
      refine wz_iald (z := 4200) (v := p) d167_114 (hG.a (by decide) rfl rfl) (by omega) (by omega) (by decide) e2 ?_
      refine wp_iload d167_115 rfl ?_
      refine wp_virt (as := [.int (zI (0)), .int (zI (p)), .int (zI (a))]) (rest := []) d167_117 rfl rfl rfl (hG.o (by decide) rfl) rfl rfl (Nat.le_of_ble_eq_true rfl) ?_
      refine m_field0 hG hM t1 (by omega) t3 t4 hm r1 hS.1 hS.2.1 hS.2.2 ?_
      refine wp_goto (t := 124) d167_120 (by decide) ?_
      refine wp_istore d167_124 (Nat.le_of_ble_eq_true rfl) rfl ?_
      refine wp_iload d167_126 rfl ?_
      refine wz_if_eq (t := 156) d167_128 (by decide) (⟨by omega, by omega⟩) (fun hb => absurd hb (by decide)) (fun _ => ?_)
      refine wp_aload_n d167_131 rfl ?_
      refine wp_aload_n d167_132 rfl ?_
      refine wp_getR (q := 81) d167_133 rfl (hG.o (by decide) rfl) (by decide) (hG.r (by decide +kernel)) (by decide) ?_
      refine wp_iload_n d167_136 rfl ?_
      refine wz_iconst d167_137 ?_
      refine wz_iadd d167_138 ?_
      refine wz_iald (z := 4200) (v := b) d167_139 (hG.a (by decide) rfl rfl) (by omega) (by omega) (by decide) e3 ?_
      refine wp_aload_n d167_140 rfl ?_
      refine wp_getR (q := 81) d167_141 rfl (hG.o (by decide) rfl) (by decide) (hG.r (by decide +kernel)) (by decide) ?_
      refine wp_iload_n d167_144 rfl ?_
      refine wz_iconst d167_145 ?_
      refine wz_iadd d167_146 ?_
      refine wz_iald (z := 4200) (v := q) d167_147 (hG.a (by decide) rfl rfl) (by omega) (by omega) (by decide) e4 ?_
      refine wp_iload d167_148 rfl ?_
      refine wp_virt (as := [.int (zI (0)), .int (zI (q)), .int (zI (b))]) (rest := []) d167_150 rfl rfl rfl (hG.o (by decide) rfl) rfl rfl (Nat.le_of_ble_eq_true rfl) ?_
      refine m_field0 hG hM t5 (by omega) t7 t8 hm' r2 hT.1 hT.2.1 hT.2.2 ?_
      refine wp_goto (t := 157) d167_153 (by decide) ?_
      refine wp_istore d167_157 (Nat.le_of_ble_eq_true rfl) rfl ?_
      refine wp_iload_n d167_159 rfl ?_
      refine wp_iload d167_160 rfl ?_
      refine wz_ishrq (q := 1) d167_162 (by omega) (by omega) (by omega) (by omega) (by decide) ?_
      refine wz_iconst d167_163 ?_
      refine wz_and1 d167_164 (by omega) ?_
      refine wz_iconst d167_165 ?_
      refine wz_icmp_ne (t := 291) d167_166 (by decide) (⟨by omega, by omega⟩) (⟨by omega, by omega⟩) (fun hb166 => ?_) (fun hb166 => ?_)
      · skip
        refine wz_iinc d167_291 rfl rfl ?_
        refine wp_goto (t := 15) d167_294 (by decide) ?_
        exact h4 (by rw [i3]; omega) _ _ _ _ _ _
      · skip
        refine wp_iload d167_169 rfl ?_
        refine wz_if_eq (t := 185) d167_171 (by decide) (⟨by omega, by omega⟩) (fun hb => absurd hb (by decide)) (fun _ => ?_)
        refine wp_aload_n d167_174 rfl ?_
        refine wp_getR (q := 81) d167_175 rfl (hG.o (by decide) rfl) (by decide) (hG.r (by decide +kernel)) (by decide) ?_
        refine wp_iload_n d167_178 rfl ?_
        refine wz_iconst d167_179 ?_
        refine wz_iadd d167_180 ?_
        refine wz_iald (z := 4200) (v := a) d167_181 (hG.a (by decide) rfl rfl) (by omega) (by omega) (by decide) e1 ?_
        refine wp_goto (t := 193) d167_182 (by decide) ?_
        refine wp_istore d167_193 (Nat.le_of_ble_eq_true rfl) rfl ?_
        refine wp_iload d167_195 rfl ?_
        refine wz_if_eq (t := 211) d167_197 (by decide) (⟨by omega, by omega⟩) (fun hb => absurd hb (by decide)) (fun _ => ?_)
        refine wp_aload_n d167_200 rfl ?_
        refine wp_getR (q := 81) d167_201 rfl (hG.o (by decide) rfl) (by decide) (hG.r (by decide +kernel)) (by decide) ?_
        refine wp_iload_n d167_204 rfl ?_
        refine wz_iconst d167_205 ?_
        refine wz_iadd d167_206 ?_
        refine wz_iald (z := 4200) (v := b) d167_207 (hG.a (by decide) rfl rfl) (by omega) (by omega) (by decide) e3 ?_
        refine wp_goto (t := 219) d167_208 (by decide) ?_
        refine wp_istore d167_219 (Nat.le_of_ble_eq_true rfl) rfl ?_
        refine wp_aload_n d167_221 rfl ?_
        refine wp_iload d167_222 rfl ?_
        refine wz_if_eq (t := 241) d167_224 (by decide) (⟨by omega, by omega⟩) (fun hb => absurd hb (by decide)) (fun _ => ?_)
        refine wp_iload d167_227 rfl ?_
        refine wz_if_eq (t := 241) d167_229 (by decide) (⟨by omega, by omega⟩) (fun hb => absurd hb (by decide)) (fun _ => ?_)
        refine wp_aload_n d167_232 rfl ?_
        refine wp_getR (q := 81) d167_233 rfl (hG.o (by decide) rfl) (by decide) (hG.r (by decide +kernel)) (by decide) ?_
        refine wp_iload_n d167_236 rfl ?_
        refine wz_iald (z := 4200) (v := W) d167_237 (hG.a (by decide) rfl rfl) (by omega) (by omega) (by decide) e0 ?_
        refine wp_goto (t := 242) d167_238 (by decide) ?_
        refine wp_iload d167_242 rfl ?_
        refine wp_iload d167_244 rfl ?_
        refine wz_if_eq (t := 254) d167_246 (by decide) (⟨by omega, by omega⟩) (fun hb => absurd hb (by decide)) (fun _ => ?_)
        refine wp_iload d167_249 rfl ?_
        refine wp_goto (t := 256) d167_251 (by decide) ?_
        refine wp_iload d167_256 rfl ?_
        refine wp_iload d167_258 rfl ?_
        refine wz_if_eq (t := 268) d167_260 (by decide) (⟨by omega, by omega⟩) (fun hb => absurd hb (by decide)) (fun _ => ?_)
        refine wp_iload d167_263 rfl ?_
        refine wp_goto (t := 270) d167_265 (by decide) ?_
        refine wp_aload_n d167_270 rfl ?_
        refine wp_getR (q := 81) d167_271 rfl (hG.o (by decide) rfl) (by decide) (hG.r (by decide +kernel)) (by decide) ?_
        refine wp_iload_n d167_274 rfl ?_
        refine wz_iconst d167_275 ?_
        refine wz_iadd d167_276 ?_
        refine wz_iald (z := 4200) (v := c) d167_277 (hG.a (by decide) rfl rfl) (by omega) (by omega) (by decide) e5 ?_
        refine wp_aload_n d167_278 rfl ?_
        refine wp_getR (q := 81) d167_279 rfl (hG.o (by decide) rfl) (by decide) (hG.r (by decide +kernel)) (by decide) ?_
        refine wp_iload_n d167_282 rfl ?_
        refine wz_bipush d167_283 (by decide) ?_
        refine wz_iadd d167_285 ?_
        refine wz_iald (z := 4200) (v := (Γ.length : Int)) d167_286 (hG.a (by decide) rfl rfl) (by omega) (by omega) (by decide) e6 ?_
        refine wp_virt (as := [.int (zI ((Γ.length : Int))), .int (zI (c)), .int (zI ((q + 1 + fpos Y0 Y1 0))), .int (zI (b)), .int (zI ((p + 1 + fpos X0 X1 0))), .int (zI (a)), .int (zI (W))]) (rest := []) d167_287 rfl rfl rfl (hG.o (by decide) rfl) rfl rfl (Nat.le_of_ble_eq_true rfl) ?_
        refine m_aimM hG hg (by omega) g2 ?_
        refine wp_popi d167_290 ?_
        refine wz_iinc d167_291 rfl rfl ?_
        refine wp_goto (t := 15) d167_294 (by decide) ?_
        exact h1 (by rw [i3]; omega) (by rw [i1]; omega) (by rw [i2]; omega) _ _ _ _ _ _
set_option maxRecDepth 20000 in
set_option maxHeartbeats 1000000 in
theorem fields_1 {u x g G W a p b q c : Int} {Γ : List Ty} {m m' ls : Nat} {X0 X1 X2 Y0 Y1 Y2 : Ty} {o5 o6 o7 o8 o9 o10 : Option Value} (hG : pm_G Rf K L n) (hM : ∀ p i, R32 (N p i)) (hg : N 56 36 = G) (g0 : 0 ≤ g) (g1 : g < G) (g2 : G < 600) (u1 : u < 1100) (e0 : N 81 (7 * g) = W) (e1 : N 81 (7 * g + 1) = a) (e2 : N 81 (7 * g + 2) = p) (e3 : N 81 (7 * g + 3) = b) (e4 : N 81 (7 * g + 4) = q) (e5 : N 81 (7 * g + 5) = c) (e6 : N 81 (7 * g + 6) = (Γ.length : Int)) (hm : m < 8) (hm' : m' < 8) (hls : ls < 8) (hin : bit ls 1 = true → bit m 1 = true ∨ bit m' 1 = true) (t : TH N u x a p b q c (Γ.length : Int) (Γ, tRec m X0 X1 X2, tRec m' Y0 Y1 Y2)) (h1 : (bit ls 1 = true → bit m 1 = true → bit m' 1 = true → ∀ o5 o6 o7 o8 o9 o10 : Option Value, pm_Wp none (d + 4) 167 15 [some (.ref 56), some (.int (zI g)), some (.int (zI ((8 + ls : Nat) : Int))), some (.int (zI (7 * g))), some (.int (zI 2)), o5, o6, o7, o8, o9, o10] [] (zM (aimM N G W a (p + 1 + fpos X0 X1 1) b (q + 1 + fpos Y0 Y1 1) c (Γ.length : Int)), Rf, K, L, n, s) Q)) (h2 : (bit ls 1 = true → bit m 1 = true → ¬ bit m' 1 = true → ∀ o5 o6 o7 o8 o9 o10 : Option Value, pm_Wp none (d + 4) 167 15 [some (.ref 56), some (.int (zI g)), some (.int (zI ((8 + ls : Nat) : Int))), some (.int (zI (7 * g))), some (.int (zI 2)), o5, o6, o7, o8, o9, o10] [] (zM (aimM N G 2 a (p + 1 + fpos X0 X1 1) a (p + 1 + fpos X0 X1 1) c (Γ.length : Int)), Rf, K, L, n, s) Q)) (h3 : (bit ls 1 = true → ¬ bit m 1 = true → bit m' 1 = true → ∀ o5 o6 o7 o8 o9 o10 : Option Value, pm_Wp none (d + 4) 167 15 [some (.ref 56), some (.int (zI g)), some (.int (zI ((8 + ls : Nat) : Int))), some (.int (zI (7 * g))), some (.int (zI 2)), o5, o6, o7, o8, o9, o10] [] (zM (aimM N G 2 b (q + 1 + fpos Y0 Y1 1) b (q + 1 + fpos Y0 Y1 1) c (Γ.length : Int)), Rf, K, L, n, s) Q)) (h4 : (¬ bit ls 1 = true → ∀ o5 o6 o7 o8 o9 o10 : Option Value, pm_Wp none (d + 4) 167 15 [some (.ref 56), some (.int (zI g)), some (.int (zI ((8 + ls : Nat) : Int))), some (.int (zI (7 * g))), some (.int (zI 2)), o5, o6, o7, o8, o9, o10] [] (zM N, Rf, K, L, n, s) Q)) : pm_Wp none (d + 4) 167 15 [some (.ref 56), some (.int (zI g)), some (.int (zI ((8 + ls : Nat) : Int))), some (.int (zI (7 * g))), some (.int (zI 1)), o5, o6, o7, o8, o9, o10] [] (zM N, Rf, K, L, n, s) Q := by
  have t1 := t.a0; have t2 := t.a1; have t3 := t.p0; have t4 := t.p1; have t5 := t.b0; have t6 := t.b1; have t7 := t.q0; have t8 := t.q1
  have r1 := t.ra
  have r2 := t.rb
  simp only at r1 r2 t4 t8
  obtain ⟨hc, hS, hT⟩ := t.ok
  have hS := (ok_rec hm).mp hS
  have hT := (ok_rec hm').mp hT
  have i1 := @bit_iff m 1
  have i2 := @bit_iff m' 1
  have i3 := @bit_iff ls 1
  simp only [Nat.reducePow] at i1 i2 i3
  have c1 : N 73 (17 * a + p) = ((8 + m : Nat) : Int) := r1.1
  have c2 : N 73 (17 * b + q) = ((8 + m' : Nat) : Int) := r2.1
  have z1 : 1 ≤ (flat (tRec m X0 X1 X2)).length := by rw [flat_rec, List.length_cons]; omega
  have z2 : 1 ≤ (flat (tRec m' Y0 Y1 Y2)).length := by rw [flat_rec, List.length_cons]; omega
  refine wp_iload d167_15 rfl ?_
  refine wz_iconst d167_17 ?_
  refine wz_icmp_ge (t := 297) d167_18 (by decide) (⟨by omega, by omega⟩) (⟨by omega, by omega⟩) (fun hb => absurd hb (by decide)) (fun _ => ?_)
  refine wp_aload_n d167_21 rfl ?_
  refine wp_aload_n d167_22 rfl ?_
  refine wp_getR (q := 81) d167_23 rfl (hG.o (by decide) rfl) (by decide) (hG.r (by decide +kernel)) (by decide) ?_
  refine wp_iload_n d167_26 rfl ?_
  refine wz_iconst d167_27 ?_
  refine wz_iadd d167_28 ?_
  refine wz_iald (z := 4200) (v := a) d167_29 (hG.a (by decide) rfl rfl) (by omega) (by omega) (by decide) e1 ?_
  refine wp_aload_n d167_30 rfl ?_
  refine wp_getR (q := 81) d167_31 rfl (hG.o (by decide) rfl) (by decide) (hG.r (by decide +kernel)) (by decide) ?_
  refine wp_iload_n d167_34 rfl ?_
  refine wz_iconst d167_35 ?_
  refine wz_iadd d167_36 ?_
  refine wz_iald (z := 4200) (v := p) d167_37 (hG.a (by decide) rfl rfl) (by omega) (by omega) (by decide) e2 ?_
  refine wp_virt (as := [.int (zI (p)), .int (zI (a))]) (rest := []) d167_38 rfl rfl rfl (hG.o (by decide) rfl) rfl rfl (Nat.le_of_ble_eq_true rfl) ?_
  refine m_cell hG (by omega) (by omega) ?_
  rw [c1]
  refine wp_iload d167_41 rfl ?_
  refine wz_ishrq (q := 2) d167_43 (by omega) (by omega) (by omega) (by omega) (by decide) ?_
  refine wz_iconst d167_44 ?_
  refine wz_and1 d167_45 (by omega) ?_
  refine wz_iconst d167_46 ?_
  refine wz_icmp_ne (t := 54) d167_47 (by decide) (⟨by omega, by omega⟩) (⟨by omega, by omega⟩) (fun hb47 => ?_) (fun hb47 => ?_)
  · skip
    refine wz_iconst d167_54 ?_
    refine wp_istore d167_55 (Nat.le_of_ble_eq_true rfl) rfl ?_
    refine wp_aload_n d167_57 rfl ?_
    refine wp_aload_n d167_58 rfl ?_
    refine wp_getR (q := 81) d167_59 rfl (hG.o (by decide) rfl) (by decide) (hG.r (by decide +kernel)) (by decide) ?_
    refine wp_iload_n d167_62 rfl ?_
    refine wz_iconst d167_63 ?_
    refine wz_iadd d167_64 ?_
    refine wz_iald (z := 4200) (v := b) d167_65 (hG.a (by decide) rfl rfl) (by omega) (by omega) (by decide) e3 ?_
    refine wp_aload_n d167_66 rfl ?_
    refine wp_getR (q := 81) d167_67 rfl (hG.o (by decide) rfl) (by decide) (hG.r (by decide +kernel)) (by decide) ?_
    refine wp_iload_n d167_70 rfl ?_
    refine wz_iconst d167_71 ?_
    refine wz_iadd d167_72 ?_
    refine wz_iald (z := 4200) (v := q) d167_73 (hG.a (by decide) rfl rfl) (by omega) (by omega) (by decide) e4 ?_
    refine wp_virt (as := [.int (zI (q)), .int (zI (b))]) (rest := []) d167_74 rfl rfl rfl (hG.o (by decide) rfl) rfl rfl (Nat.le_of_ble_eq_true rfl) ?_
    refine m_cell hG (by omega) (by omega) ?_
    rw [c2]
    refine wp_iload d167_77 rfl ?_
    refine wz_ishrq (q := 2) d167_79 (by omega) (by omega) (by omega) (by omega) (by decide) ?_
    refine wz_iconst d167_80 ?_
    refine wz_and1 d167_81 (by omega) ?_
    refine wz_iconst d167_82 ?_
    refine wz_icmp_ne (t := 90) d167_83 (by decide) (⟨by omega, by omega⟩) (⟨by omega, by omega⟩) (fun hb83 => ?_) (fun hb83 => ?_)
    · skip
      refine wz_iconst d167_90 ?_
      refine wp_istore d167_91 (Nat.le_of_ble_eq_true rfl) rfl ?_
      refine wp_iload d167_93 rfl ?_
      refine wz_if_eq (t := 123) d167_95 (by decide) (⟨by omega, by omega⟩) (fun _ => ?_) (fun hb => absurd (by decide) hb)
      refine wz_iconst d167_123 ?_
      refine wp_istore d167_124 (Nat.le_of_ble_eq_true rfl) rfl ?_
      refine wp_iload d167_126 rfl ?_
      refine wz_if_eq (t := 156) d167_128 (by decide) (⟨by omega, by omega⟩) (fun _ => ?_) (fun hb => absurd (by decide) hb)
      refine wz_iconst d167_156 ?_
      refine wp_istore d167_157 (Nat.le_of_ble_eq_true rfl) rfl ?_
      refine wp_iload_n d167_159 rfl ?_
      refine wp_iload d167_160 rfl ?_
      refine wz_ishrq (q := 2) d167_162 (by omega) (by omega) (by omega) (by omega) (by decide) ?_
      refine wz_iconst d167_163 ?_
      refine wz_and1 d167_164 (by omega) ?_
      refine wz_iconst d167_165 ?_
      refine wz_icmp_ne (t := 291) d167_166 (by decide) (⟨by omega, by omega⟩) (⟨by omega, by omega⟩) (fun hb166 => ?_) (fun hb166 => ?_)
      · skip
        refine wz_iinc d167_291 rfl rfl ?_
        refine wp_goto (t := 15) d167_294 (by decide) ?_
        exact h4 (by rw [i3]; omega) _ _ _ _ _ _
      · skip
        refine wp_iload d167_169 rfl ?_
        refine wz_if_eq (t := 185) d167_171 (by decide) (⟨by omega, by omega⟩) (fun _ => ?_) (fun hb => absurd (by decide) hb)
        refine wp_aload_n d167_185 rfl ?_
        refine wp_getR (q := 81) d167_186 rfl (hG.o (by decide) rfl) (by decide) (hG.r (by decide +kernel)) (by decide) ?_
        refine wp_iload_n d167_189 rfl ?_
        refine wz_iconst d167_190 ?_
        refine wz_iadd d167_191 ?_
        refine wz_iald (z := 4200) (v := b) d167_192 (hG.a (by decide) rfl rfl) (by omega) (by omega) (by decide) e3 ?_
        refine wp_istore d167_193 (Nat.le_of_ble_eq_true rfl) rfl ?_
        refine wp_iload d167_195 rfl ?_
        refine wz_if_eq (t := 211) d167_197 (by decide) (⟨by omega, by omega⟩) (fun _ => ?_) (fun hb => absurd (by decide) hb)
        refine wp_aload_n d167_211 rfl ?_
        refine wp_getR (q := 81) d167_212 rfl (hG.o (by decide) rfl) (by decide) (hG.r (by decide +kernel)) (by decide) ?_
        refine wp_iload_n d167_215 rfl ?_
        refine wz_iconst d167_216 ?_
        refine wz_iadd d167_217 ?_
        refine wz_iald (z := 4200) (v := a) d167_218 (hG.a (by decide) rfl rfl) (by omega) (by omega) (by decide) e1 ?_
        refine wp_istore d167_219 (Nat.le_of_ble_eq_true rfl) rfl ?_
        refine wp_aload_n d167_221 rfl ?_
        refine wp_iload d167_222 rfl ?_
        refine wz_if_eq (t := 241) d167_224 (by decide) (⟨by omega, by omega⟩) (fun _ => ?_) (fun hb => absurd (by decide) hb)
        refine wz_iconst d167_241 ?_
        refine wp_iload d167_242 rfl ?_
        refine wp_iload d167_244 rfl ?_
        refine wz_if_eq (t := 254) d167_246 (by decide) (⟨by omega, by omega⟩) (fun _ => ?_) (fun hb => absurd (by decide) hb)
        refine wp_iload d167_254 rfl ?_
        refine wp_iload d167_256 rfl ?_
        refine wp_iload d167_258 rfl ?_
        refine wz_if_eq (t := 268) d167_260 (by decide) (⟨by omega, by omega⟩) (fun _ => ?_) (fun hb => absurd (by decide) hb)
        refine wp_iload d167_268 rfl ?_
        refine wp_aload_n d167_270 rfl ?_
        refine wp_getR (q := 81) d167_271 rfl (hG.o (by decide) rfl) (by decide) (hG.r (by decide +kernel)) (by decide) ?_
        refine wp_iload_n d167_274 rfl ?_
        refine wz_iconst d167_275 ?_
        refine wz_iadd d167_276 ?_
        refine wz_iald (z := 4200) (v := c) d167_277 (hG.a (by decide) rfl rfl) (by omega) (by omega) (by decide) e5 ?_
        refine wp_aload_n d167_278 rfl ?_
        refine wp_getR (q := 81) d167_279 rfl (hG.o (by decide) rfl) (by decide) (hG.r (by decide +kernel)) (by decide) ?_
        refine wp_iload_n d167_282 rfl ?_
        refine wz_bipush d167_283 (by decide) ?_
        refine wz_iadd d167_285 ?_
        refine wz_iald (z := 4200) (v := (Γ.length : Int)) d167_286 (hG.a (by decide) rfl rfl) (by omega) (by omega) (by decide) e6 ?_
        refine wp_virt (as := [.int (zI ((Γ.length : Int))), .int (zI (c)), .int (zI (0)), .int (zI (a)), .int (zI (0)), .int (zI (b)), .int (zI (2))]) (rest := []) d167_287 rfl rfl rfl (hG.o (by decide) rfl) rfl rfl (Nat.le_of_ble_eq_true rfl) ?_
        refine m_aimM hG hg (by omega) g2 ?_
        refine wp_popi d167_290 ?_
        refine wz_iinc d167_291 rfl rfl ?_
        refine wp_goto (t := 15) d167_294 (by decide) ?_
        exfalso
        rw [i1, i2, i3] at hin
        omega
    · skip
      refine wz_iconst d167_86 ?_
      refine wp_goto (t := 91) d167_87 (by decide) ?_
      refine wp_istore d167_91 (Nat.le_of_ble_eq_true rfl) rfl ?_
      refine wp_iload d167_93 rfl ?_
      refine wz_if_eq (t := 123) d167_95 (by decide) (⟨by omega, by omega⟩) (fun _ => ?_) (fun hb => absurd (by decide) hb)
      refine wz_iconst d167_123 ?_
      refine wp_istore d167_124 (Nat.le_of_ble_eq_true rfl) rfl ?_
      refine wp_iload d167_126 rfl ?_
      refine wz_if_eq (t := 156) d167_128 (by decide) (⟨by omega, by omega⟩) (fun hb => absurd hb (by decide)) (fun _ => ?_)
      refine wp_aload_n d167_131 rfl ?_
      refine wp_aload_n d167_132 rfl ?_
      refine wp_getR (q := 81) d167_133 rfl (hG.o (by decide) rfl) (by decide) (hG.r (by decide +kernel)) (by decide) ?_
      refine wp_iload_n d167_136 rfl ?_
      refine wz_iconst d167_137 ?_
      refine wz_iadd d167_138 ?_
      refine wz_iald (z := 4200) (v := b) d167_139 (hG.a (by decide) rfl rfl) (by omega) (by omega) (by decide) e3 ?_
      refine wp_aload_n d167_140 rfl ?_
      refine wp_getR (q := 81) d167_141 rfl (hG.o (by decide) rfl) (by decide) (hG.r (by decide +kernel)) (by decide) ?_
      refine wp_iload_n d167_144 rfl ?_
      refine wz_iconst d167_145 ?_
      refine wz_iadd d167_146 ?_
      refine wz_iald (z := 4200) (v := q) d167_147 (hG.a (by decide) rfl rfl) (by omega) (by omega) (by decide) e4 ?_
      refine wp_iload d167_148 rfl ?_
      refine wp_virt (as := [.int (zI (1)), .int (zI (q)), .int (zI (b))]) (rest := []) d167_150 rfl rfl rfl (hG.o (by decide) rfl) rfl rfl (Nat.le_of_ble_eq_true rfl) ?_
      refine m_field1 hG hM t5 (by omega) t7 t8 hm' r2 hT.1 hT.2.1 hT.2.2 ?_
      refine wp_goto (t := 157) d167_153 (by decide) ?_
      refine wp_istore d167_157 (Nat.le_of_ble_eq_true rfl) rfl ?_
      refine wp_iload_n d167_159 rfl ?_
      refine wp_iload d167_160 rfl ?_
      refine wz_ishrq (q := 2) d167_162 (by omega) (by omega) (by omega) (by omega) (by decide) ?_
      refine wz_iconst d167_163 ?_
      refine wz_and1 d167_164 (by omega) ?_
      refine wz_iconst d167_165 ?_
      refine wz_icmp_ne (t := 291) d167_166 (by decide) (⟨by omega, by omega⟩) (⟨by omega, by omega⟩) (fun hb166 => ?_) (fun hb166 => ?_)
      · skip
        refine wz_iinc d167_291 rfl rfl ?_
        refine wp_goto (t := 15) d167_294 (by decide) ?_
        exact h4 (by rw [i3]; omega) _ _ _ _ _ _
      · skip
        refine wp_iload d167_169 rfl ?_
        refine wz_if_eq (t := 185) d167_171 (by decide) (⟨by omega, by omega⟩) (fun _ => ?_) (fun hb => absurd (by decide) hb)
        refine wp_aload_n d167_185 rfl ?_
        refine wp_getR (q := 81) d167_186 rfl (hG.o (by decide) rfl) (by decide) (hG.r (by decide +kernel)) (by decide) ?_
        refine wp_iload_n d167_189 rfl ?_
        refine wz_iconst d167_190 ?_
        refine wz_iadd d167_191 ?_
        refine wz_iald (z := 4200) (v := b) d167_192 (hG.a (by decide) rfl rfl) (by omega) (by omega) (by decide) e3 ?_
        refine wp_istore d167_193 (Nat.le_of_ble_eq_true rfl) rfl ?_
        refine wp_iload d167_195 rfl ?_
        refine wz_if_eq (t := 211) d167_197 (by decide) (⟨by omega, by omega⟩) (fun hb => absurd hb (by decide)) (fun _ => ?_)
        refine wp_aload_n d167_200 rfl ?_
        refine wp_getR (q := 81) d167_201 rfl (hG.o (by decide) rfl) (by decide) (hG.r (by decide +kernel)) (by decide) ?_
        refine wp_iload_n d167_204 rfl ?_
        refine wz_iconst d167_205 ?_
        refine wz_iadd d167_206 ?_
        refine wz_iald (z := 4200) (v := b) d167_207 (hG.a (by decide) rfl rfl) (by omega) (by omega) (by decide) e3 ?_
        refine wp_goto (t := 219) d167_208 (by decide) ?_
        refine wp_istore d167_219 (Nat.le_of_ble_eq_true rfl) rfl ?_
        refine wp_aload_n d167_221 rfl ?_
        refine wp_iload d167_222 rfl ?_
        refine wz_if_eq (t := 241) d167_224 (by decide) (⟨by omega, by omega⟩) (fun _ => ?_) (fun hb => absurd (by decide) hb)
        refine wz_iconst d167_241 ?_
        refine wp_iload d167_242 rfl ?_
        refine wp_iload d167_244 rfl ?_
        refine wz_if_eq (t := 254) d167_246 (by decide) (⟨by omega, by omega⟩) (fun _ => ?_) (fun hb => absurd (by decide) hb)
        refine wp_iload d167_254 rfl ?_
        refine wp_iload d167_256 rfl ?_
        refine wp_iload d167_258 rfl ?_
        refine wz_if_eq (t := 268) d167_260 (by decide) (⟨by omega, by omega⟩) (fun hb => absurd hb (by decide)) (fun _ => ?_)
        refine wp_iload d167_263 rfl ?_
        refine wp_goto (t := 270) d167_265 (by decide) ?_
        refine wp_aload_n d167_270 rfl ?_
        refine wp_getR (q := 81) d167_271 rfl (hG.o (by decide) rfl) (by decide) (hG.r (by decide +kernel)) (by decide) ?_
        refine wp_iload_n d167_274 rfl ?_
        refine wz_iconst d167_275 ?_
        refine wz_iadd d167_276 ?_
        refine wz_iald (z := 4200) (v := c) d167_277 (hG.a (by decide) rfl rfl) (by omega) (by omega) (by decide) e5 ?_
        refine wp_aload_n d167_278 rfl ?_
        refine wp_getR (q := 81) d167_279 rfl (hG.o (by decide) rfl) (by decide) (hG.r (by decide +kernel)) (by decide) ?_
        refine wp_iload_n d167_282 rfl ?_
        refine wz_bipush d167_283 (by decide) ?_
        refine wz_iadd d167_285 ?_
        refine wz_iald (z := 4200) (v := (Γ.length : Int)) d167_286 (hG.a (by decide) rfl rfl) (by omega) (by omega) (by decide) e6 ?_
        refine wp_virt (as := [.int (zI ((Γ.length : Int))), .int (zI (c)), .int (zI ((q + 1 + fpos Y0 Y1 1))), .int (zI (b)), .int (zI ((q + 1 + fpos Y0 Y1 1))), .int (zI (b)), .int (zI (2))]) (rest := []) d167_287 rfl rfl rfl (hG.o (by decide) rfl) rfl rfl (Nat.le_of_ble_eq_true rfl) ?_
        refine m_aimM hG hg (by omega) g2 ?_
        refine wp_popi d167_290 ?_
        refine wz_iinc d167_291 rfl rfl ?_
        refine wp_goto (t := 15) d167_294 (by decide) ?_
        exact h3 (by rw [i3]; omega) (by rw [i1]; omega) (by rw [i2]; omega) _ _ _ _ _ _
  · skip
    refine wz_iconst d167_50 ?_
    refine wp_goto (t := 55) d167_51 (by decide) ?_
    refine wp_istore d167_55 (Nat.le_of_ble_eq_true rfl) rfl ?_
    refine wp_aload_n d167_57 rfl ?_
    refine wp_aload_n d167_58 rfl ?_
    refine wp_getR (q := 81) d167_59 rfl (hG.o (by decide) rfl) (by decide) (hG.r (by decide +kernel)) (by decide) ?_
    refine wp_iload_n d167_62 rfl ?_
    refine wz_iconst d167_63 ?_
    refine wz_iadd d167_64 ?_
    refine wz_iald (z := 4200) (v := b) d167_65 (hG.a (by decide) rfl rfl) (by omega) (by omega) (by decide) e3 ?_
    refine wp_aload_n d167_66 rfl ?_
    refine wp_getR (q := 81) d167_67 rfl (hG.o (by decide) rfl) (by decide) (hG.r (by decide +kernel)) (by decide) ?_
    refine wp_iload_n d167_70 rfl ?_
    refine wz_iconst d167_71 ?_
    refine wz_iadd d167_72 ?_
    refine wz_iald (z := 4200) (v := q) d167_73 (hG.a (by decide) rfl rfl) (by omega) (by omega) (by decide) e4 ?_
    refine wp_virt (as := [.int (zI (q)), .int (zI (b))]) (rest := []) d167_74 rfl rfl rfl (hG.o (by decide) rfl) rfl rfl (Nat.le_of_ble_eq_true rfl) ?_
    refine m_cell hG (by omega) (by omega) ?_
    rw [c2]
    refine wp_iload d167_77 rfl ?_
    refine wz_ishrq (q := 2) d167_79 (by omega) (by omega) (by omega) (by omega) (by decide) ?_
    refine wz_iconst d167_80 ?_
    refine wz_and1 d167_81 (by omega) ?_
    refine wz_iconst d167_82 ?_
    refine wz_icmp_ne (t := 90) d167_83 (by decide) (⟨by omega, by omega⟩) (⟨by omega, by omega⟩) (fun hb83 => ?_) (fun hb83 => ?_)
    · skip
      refine wz_iconst d167_90 ?_
      refine wp_istore d167_91 (Nat.le_of_ble_eq_true rfl) rfl ?_
      refine wp_iload d167_93 rfl ?_
      refine wz_if_eq (t := 123) d167_95 (by decide) (⟨by omega, by omega⟩) (fun hb => absurd hb (by decide)) (fun _ => ?_)
      refine wp_aload_n d167_98 rfl ?_
      refine wp_aload_n d167_99 rfl ?_
      refine wp_getR (q := 81) d167_100 rfl (hG.o (by decide) rfl) (by decide) (hG.r (by decide +kernel)) (by decide) ?_
      refine wp_iload_n d167_103 rfl ?_
      refine wz_iconst d167_104 ?_
      refine wz_iadd d167_105 ?_
      refine wz_iald (z := 4200) (v := a) d167_106 (hG.a (by decide) rfl rfl) (by omega) (by omega) (by decide) e1 ?_
      refine wp_aload_n d167_107 rfl ?_
      refine wp_getR (q := 81) d167_108 rfl (hG.o (by decide) rfl) (by decide) (hG.r (by decide +kernel)) (by decide) ?_
      refine wp_iload_n d167_111 rfl ?_
      refine wz_iconst d167_112 ?_
      refine wz_iadd d167_113 ?_
      refine wz_iald (z := 4200) (v := p) d167_114 (hG.a (by decide) rfl rfl) (by omega) (by omega) (by decide) e2 ?_
      refine wp_iload d167_115 rfl ?_
      refine wp_virt (as := [.int (zI (1)), .int (zI (p)), .int (zI (a))]) (rest := []) d167_117 rfl rfl rfl (hG.o (by decide) rfl) rfl rfl (Nat.le_of_ble_eq_true rfl) ?_
      refine m_field1 hG hM t1 (by omega) t3 t4 hm r1 hS.1 hS.2.1 hS.2.2 ?_
      refine wp_goto (t := 124) d167_120 (by decide) ?_
      refine wp_istore d167_124 (Nat.le_of_ble_eq_true rfl) rfl ?_
      refine wp_iload d167_126 rfl ?_
      refine wz_if_eq (t := 156) d167_128 (by decide) (⟨by omega, by omega⟩) (fun _ => ?_) (fun hb => absurd (by decide) hb)
      refine wz_iconst d167_156 ?_
      refine wp_istore d167_157 (Nat.le_of_ble_eq_true rfl) rfl ?_
      refine wp_iload_n d167_159 rfl ?_
      refine wp_iload d167_160 rfl ?_
      refine wz_ishrq (q := 2) d167_162 (by omega) (by omega) (by omega) (by omega) (by decide) ?_
      refine wz_iconst d167_163 ?_
      refine wz_and1 d167_164 (by omega) ?_
      refine wz_iconst d167_165 ?_
      refine wz_icmp_ne (t := 291) d167_166 (by decide) (⟨by omega, by omega⟩) (⟨by omega, by omega⟩) (fun hb166 => ?_) (fun hb166 => ?_)
      · skip
        refine wz_iinc d167_291 rfl rfl ?_
        refine wp_goto (t := 15) d167_294 (by decide) ?_
        exact h4 (by rw [i3]; omega) _ _ _ _ _ _
      · skip
        refine wp_iload d167_169 rfl ?_
        refine wz_if_eq (t := 185) d167_171 (by decide) (⟨by omega, by omega⟩) (fun hb => absurd hb (by decide)) (fun _ => ?_)
        refine wp_aload_n d167_174 rfl ?_
        refine wp_getR (q := 81) d167_175 rfl (hG.o (by decide) rfl) (by decide) (hG.r (by decide +kernel)) (by decide) ?_
        refine wp_iload_n d167_178 rfl ?_
        refine wz_iconst d167_179 ?_
        refine wz_iadd d167_180 ?_
        refine wz_iald (z := 4200) (v := a) d167_181 (hG.a (by decide) rfl rfl) (by omega) (by omega) (by decide) e1 ?_
        refine wp_goto (t := 193) d167_182 (by decide) ?_
        refine wp_istore d167_193 (Nat.le_of_ble_eq_true rfl) rfl ?_
        refine wp_iload d167_195 rfl ?_
        refine wz_if_eq (t := 211) d167_197 (by decide) (⟨by omega, by omega⟩) (fun _ => ?_) (fun hb => absurd (by decide) hb)
        refine wp_aload_n d167_211 rfl ?_
        refine wp_getR (q := 81) d167_212 rfl (hG.o (by decide) rfl) (by decide) (hG.r (by decide +kernel)) (by decide) ?_
        refine wp_iload_n d167_215 rfl ?_
        refine wz_iconst d167_216 ?_
        refine wz_iadd d167_217 ?_
        refine wz_iald (z := 4200) (v := a) d167_218 (hG.a (by decide) rfl rfl) (by omega) (by omega) (by decide) e1 ?_
        refine wp_istore d167_219 (Nat.le_of_ble_eq_true rfl) rfl ?_
        refine wp_aload_n d167_221 rfl ?_
        refine wp_iload d167_222 rfl ?_
        refine wz_if_eq (t := 241) d167_224 (by decide) (⟨by omega, by omega⟩) (fun hb => absurd hb (by decide)) (fun _ => ?_)
        refine wp_iload d167_227 rfl ?_
        refine wz_if_eq (t := 241) d167_229 (by decide) (⟨by omega, by omega⟩) (fun _ => ?_) (fun hb => absurd (by decide) hb)
        refine wz_iconst d167_241 ?_
        refine wp_iload d167_242 rfl ?_
        refine wp_iload d167_244 rfl ?_
        refine wz_if_eq (t := 254) d167_246 (by decide) (⟨by omega, by omega⟩) (fun hb => absurd hb (by decide)) (fun _ => ?_)
        refine wp_iload d167_249 rfl ?_
        refine wp_goto (t := 256) d167_251 (by decide) ?_
        refine wp_iload d167_256 rfl ?_
        refine wp_iload d167_258 rfl ?_
        refine wz_if_eq (t := 268) d167_260 (by decide) (⟨by omega, by omega⟩) (fun _ => ?_) (fun hb => absurd (by decide) hb)
        refine wp_iload d167_268 rfl ?_
        refine wp_aload_n d167_270 rfl ?_
        refine wp_getR (q := 81) d167_271 rfl (hG.o (by decide) rfl) (by decide) (hG.r (by decide +kernel)) (by decide) ?_
        refine wp_iload_n d167_274 rfl ?_
        refine wz_iconst d167_275 ?_
        refine wz_iadd d167_276 ?_
        refine wz_iald (z := 4200) (v := c) d167_277 (hG.a (by decide) rfl rfl) (by omega) (by omega) (by decide) e5 ?_
        refine wp_aload_n d167_278 rfl ?_
        refine wp_getR (q := 81) d167_279 rfl (hG.o (by decide) rfl) (by decide) (hG.r (by decide +kernel)) (by decide) ?_
        refine wp_iload_n d167_282 rfl ?_
        refine wz_bipush d167_283 (by decide) ?_
        refine wz_iadd d167_285 ?_
        refine wz_iald (z := 4200) (v := (Γ.length : Int)) d167_286 (hG.a (by decide) rfl rfl) (by omega) (by omega) (by decide) e6 ?_
        refine wp_virt (as := [.int (zI ((Γ.length : Int))), .int (zI (c)), .int (zI ((p + 1 + fpos X0 X1 1))), .int (zI (a)), .int (zI ((p + 1 + fpos X0 X1 1))), .int (zI (a)), .int (zI (2))]) (rest := []) d167_287 rfl rfl rfl (hG.o (by decide) rfl) rfl rfl (Nat.le_of_ble_eq_true rfl) ?_
        refine m_aimM hG hg (by omega) g2 ?_
        refine wp_popi d167_290 ?_
        refine wz_iinc d167_291 rfl rfl ?_
        refine wp_goto (t := 15) d167_294 (by decide) ?_
        exact h2 (by rw [i3]; omega) (by rw [i1]; omega) (by rw [i2]; omega) _ _ _ _ _ _
    · skip
      refine wz_iconst d167_86 ?_
      refine wp_goto (t := 91) d167_87 (by decide) ?_
      refine wp_istore d167_91 (Nat.le_of_ble_eq_true rfl) rfl ?_
      refine wp_iload d167_93 rfl ?_
      refine wz_if_eq (t := 123) d167_95 (by decide) (⟨by omega, by omega⟩) (fun hb => absurd hb (by decide)) (fun _ => ?_)
      refine wp_aload_n d167_98 rfl ?_
      refine wp_aload_n d167_99 rfl ?_
      refine wp_getR (q := 81) d167_100 rfl (hG.o (by decide) rfl) (by decide) (hG.r (by decide +kernel)) (by decide) ?_
      refine wp_iload_n d167_103 rfl ?_
      refine wz_iconst d167_104 ?_
      refine wz_iadd d167_105 ?_
      refine wz_iald (z := 4200) (v := a) d167_106 (hG.a (by decide) rfl rfl) (by omega) (by omega) (by decide) e1 ?_
      refine wp_aload_n d167_107 rfl ?_
      refine wp_getR (q := 81) d167_108 rfl (hG.o (by decide) rfl) (by decide) (hG.r (by decide +kernel)) (by decide) ?_
      refine wp_iload_n d167_111 rfl ?_
      refine wz_iconst d167_112 ?_
      refine wz_iadd d167_113 ?_
      refine wz_iald (z := 4200) (v := p) d167_114 (hG.a (by decide) rfl rfl) (by omega) (by omega) (by decide) e2 ?_
      refine wp_iload d167_115 rfl ?_
      refine wp_virt (as := [.int (zI (1)), .int (zI (p)), .int (zI (a))]) (rest := []) d167_117 rfl rfl rfl (hG.o (by decide) rfl) rfl rfl (Nat.le_of_ble_eq_true rfl) ?_
      refine m_field1 hG hM t1 (by omega) t3 t4 hm r1 hS.1 hS.2.1 hS.2.2 ?_
      refine wp_goto (t := 124) d167_120 (by decide) ?_
      refine wp_istore d167_124 (Nat.le_of_ble_eq_true rfl) rfl ?_
      refine wp_iload d167_126 rfl ?_
      refine wz_if_eq (t := 156) d167_128 (by decide) (⟨by omega, by omega⟩) (fun hb => absurd hb (by decide)) (fun _ => ?_)
      refine wp_aload_n d167_131 rfl ?_
      refine wp_aload_n d167_132 rfl ?_
      refine wp_getR (q := 81) d167_133 rfl (hG.o (by decide) rfl) (by decide) (hG.r (by decide +kernel)) (by decide) ?_
      refine wp_iload_n d167_136 rfl ?_
      refine wz_iconst d167_137 ?_
      refine wz_iadd d167_138 ?_
      refine wz_iald (z := 4200) (v := b) d167_139 (hG.a (by decide) rfl rfl) (by omega) (by omega) (by decide) e3 ?_
      refine wp_aload_n d167_140 rfl ?_
      refine wp_getR (q := 81) d167_141 rfl (hG.o (by decide) rfl) (by decide) (hG.r (by decide +kernel)) (by decide) ?_
      refine wp_iload_n d167_144 rfl ?_
      refine wz_iconst d167_145 ?_
      refine wz_iadd d167_146 ?_
      refine wz_iald (z := 4200) (v := q) d167_147 (hG.a (by decide) rfl rfl) (by omega) (by omega) (by decide) e4 ?_
      refine wp_iload d167_148 rfl ?_
      refine wp_virt (as := [.int (zI (1)), .int (zI (q)), .int (zI (b))]) (rest := []) d167_150 rfl rfl rfl (hG.o (by decide) rfl) rfl rfl (Nat.le_of_ble_eq_true rfl) ?_
      refine m_field1 hG hM t5 (by omega) t7 t8 hm' r2 hT.1 hT.2.1 hT.2.2 ?_
      refine wp_goto (t := 157) d167_153 (by decide) ?_
      refine wp_istore d167_157 (Nat.le_of_ble_eq_true rfl) rfl ?_
      refine wp_iload_n d167_159 rfl ?_
      refine wp_iload d167_160 rfl ?_
      refine wz_ishrq (q := 2) d167_162 (by omega) (by omega) (by omega) (by omega) (by decide) ?_
      refine wz_iconst d167_163 ?_
      refine wz_and1 d167_164 (by omega) ?_
      refine wz_iconst d167_165 ?_
      refine wz_icmp_ne (t := 291) d167_166 (by decide) (⟨by omega, by omega⟩) (⟨by omega, by omega⟩) (fun hb166 => ?_) (fun hb166 => ?_)
      · skip
        refine wz_iinc d167_291 rfl rfl ?_
        refine wp_goto (t := 15) d167_294 (by decide) ?_
        exact h4 (by rw [i3]; omega) _ _ _ _ _ _
      · skip
        refine wp_iload d167_169 rfl ?_
        refine wz_if_eq (t := 185) d167_171 (by decide) (⟨by omega, by omega⟩) (fun hb => absurd hb (by decide)) (fun _ => ?_)
        refine wp_aload_n d167_174 rfl ?_
        refine wp_getR (q := 81) d167_175 rfl (hG.o (by decide) rfl) (by decide) (hG.r (by decide +kernel)) (by decide) ?_
        refine wp_iload_n d167_178 rfl ?_
        refine wz_iconst d167_179 ?_
        refine wz_iadd d167_180 ?_
        refine wz_iald (z := 4200) (v := a) d167_181 (hG.a (by decide) rfl rfl) (by omega) (by omega) (by decide) e1 ?_
        refine wp_goto (t := 193) d167_182 (by decide) ?_
        refine wp_istore d167_193 (Nat.le_of_ble_eq_true rfl) rfl ?_
        refine wp_iload d167_195 rfl ?_
        refine wz_if_eq (t := 211) d167_197 (by decide) (⟨by omega, by omega⟩) (fun hb => absurd hb (by decide)) (fun _ => ?_)
        refine wp_aload_n d167_200 rfl ?_
        refine wp_getR (q := 81) d167_201 rfl (hG.o (by decide) rfl) (by decide) (hG.r (by decide +kernel)) (by decide) ?_
        refine wp_iload_n d167_204 rfl ?_
        refine wz_iconst d167_205 ?_
        refine wz_iadd d167_206 ?_
        refine wz_iald (z := 4200) (v := b) d167_207 (hG.a (by decide) rfl rfl) (by omega) (by omega) (by decide) e3 ?_
        refine wp_goto (t := 219) d167_208 (by decide) ?_
        refine wp_istore d167_219 (Nat.le_of_ble_eq_true rfl) rfl ?_
        refine wp_aload_n d167_221 rfl ?_
        refine wp_iload d167_222 rfl ?_
        refine wz_if_eq (t := 241) d167_224 (by decide) (⟨by omega, by omega⟩) (fun hb => absurd hb (by decide)) (fun _ => ?_)
        refine wp_iload d167_227 rfl ?_
        refine wz_if_eq (t := 241) d167_229 (by decide) (⟨by omega, by omega⟩) (fun hb => absurd hb (by decide)) (fun _ => ?_)
        refine wp_aload_n d167_232 rfl ?_
        refine wp_getR (q := 81) d167_233 rfl (hG.o (by decide) rfl) (by decide) (hG.r (by decide +kernel)) (by decide) ?_
        refine wp_iload_n d167_236 rfl ?_
        refine wz_iald (z := 4200) (v := W) d167_237 (hG.a (by decide) rfl rfl) (by omega) (by omega) (by decide) e0 ?_
        refine wp_goto (t := 242) d167_238 (by decide) ?_
        refine wp_iload d167_242 rfl ?_
        refine wp_iload d167_244 rfl ?_
        refine wz_if_eq (t := 254) d167_246 (by decide) (⟨by omega, by omega⟩) (fun hb => absurd hb (by decide)) (fun _ => ?_)
        refine wp_iload d167_249 rfl ?_
        refine wp_goto (t := 256) d167_251 (by decide) ?_
        refine wp_iload d167_256 rfl ?_
        refine wp_iload d167_258 rfl ?_
        refine wz_if_eq (t := 268) d167_260 (by decide) (⟨by omega, by omega⟩) (fun hb => absurd hb (by decide)) (fun _ => ?_)
        refine wp_iload d167_263 rfl ?_
        refine wp_goto (t := 270) d167_265 (by decide) ?_
        refine wp_aload_n d167_270 rfl ?_
        refine wp_getR (q := 81) d167_271 rfl (hG.o (by decide) rfl) (by decide) (hG.r (by decide +kernel)) (by decide) ?_
        refine wp_iload_n d167_274 rfl ?_
        refine wz_iconst d167_275 ?_
        refine wz_iadd d167_276 ?_
        refine wz_iald (z := 4200) (v := c) d167_277 (hG.a (by decide) rfl rfl) (by omega) (by omega) (by decide) e5 ?_
        refine wp_aload_n d167_278 rfl ?_
        refine wp_getR (q := 81) d167_279 rfl (hG.o (by decide) rfl) (by decide) (hG.r (by decide +kernel)) (by decide) ?_
        refine wp_iload_n d167_282 rfl ?_
        refine wz_bipush d167_283 (by decide) ?_
        refine wz_iadd d167_285 ?_
        refine wz_iald (z := 4200) (v := (Γ.length : Int)) d167_286 (hG.a (by decide) rfl rfl) (by omega) (by omega) (by decide) e6 ?_
        refine wp_virt (as := [.int (zI ((Γ.length : Int))), .int (zI (c)), .int (zI ((q + 1 + fpos Y0 Y1 1))), .int (zI (b)), .int (zI ((p + 1 + fpos X0 X1 1))), .int (zI (a)), .int (zI (W))]) (rest := []) d167_287 rfl rfl rfl (hG.o (by decide) rfl) rfl rfl (Nat.le_of_ble_eq_true rfl) ?_
        refine m_aimM hG hg (by omega) g2 ?_
        refine wp_popi d167_290 ?_
        refine wz_iinc d167_291 rfl rfl ?_
        refine wp_goto (t := 15) d167_294 (by decide) ?_
        exact h1 (by rw [i3]; omega) (by rw [i1]; omega) (by rw [i2]; omega) _ _ _ _ _ _
set_option maxRecDepth 20000 in
set_option maxHeartbeats 1000000 in
theorem fields_2 {u x g G W a p b q c : Int} {Γ : List Ty} {m m' ls : Nat} {X0 X1 X2 Y0 Y1 Y2 : Ty} {o5 o6 o7 o8 o9 o10 : Option Value} (hG : pm_G Rf K L n) (hM : ∀ p i, R32 (N p i)) (hg : N 56 36 = G) (g0 : 0 ≤ g) (g1 : g < G) (g2 : G < 600) (u1 : u < 1100) (e0 : N 81 (7 * g) = W) (e1 : N 81 (7 * g + 1) = a) (e2 : N 81 (7 * g + 2) = p) (e3 : N 81 (7 * g + 3) = b) (e4 : N 81 (7 * g + 4) = q) (e5 : N 81 (7 * g + 5) = c) (e6 : N 81 (7 * g + 6) = (Γ.length : Int)) (hm : m < 8) (hm' : m' < 8) (hls : ls < 8) (hin : bit ls 2 = true → bit m 2 = true ∨ bit m' 2 = true) (t : TH N u x a p b q c (Γ.length : Int) (Γ, tRec m X0 X1 X2, tRec m' Y0 Y1 Y2)) (h1 : (bit ls 2 = true → bit m 2 = true → bit m' 2 = true → ∀ o5 o6 o7 o8 o9 o10 : Option Value, pm_Wp none (d + 4) 167 15 [some (.ref 56), some (.int (zI g)), some (.int (zI ((8 + ls : Nat) : Int))), some (.int (zI (7 * g))), some (.int (zI 3)), o5, o6, o7, o8, o9, o10] [] (zM (aimM N G W a (p + 1 + fpos X0 X1 2) b (q + 1 + fpos Y0 Y1 2) c (Γ.length : Int)), Rf, K, L, n, s) Q)) (h2 : (bit ls 2 = true → bit m 2 = true → ¬ bit m' 2 = true → ∀ o5 o6 o7 o8 o9 o10 : Option Value, pm_Wp none (d + 4) 167 15 [some (.ref 56), some (.int (zI g)), some (.int (zI ((8 + ls : Nat) : Int))), some (.int (zI (7 * g))), some (.int (zI 3)), o5, o6, o7, o8, o9, o10] [] (zM (aimM N G 2 a (p + 1 + fpos X0 X1 2) a (p + 1 + fpos X0 X1 2) c (Γ.length : Int)), Rf, K, L, n, s) Q)) (h3 : (bit ls 2 = true → ¬ bit m 2 = true → bit m' 2 = true → ∀ o5 o6 o7 o8 o9 o10 : Option Value, pm_Wp none (d + 4) 167 15 [some (.ref 56), some (.int (zI g)), some (.int (zI ((8 + ls : Nat) : Int))), some (.int (zI (7 * g))), some (.int (zI 3)), o5, o6, o7, o8, o9, o10] [] (zM (aimM N G 2 b (q + 1 + fpos Y0 Y1 2) b (q + 1 + fpos Y0 Y1 2) c (Γ.length : Int)), Rf, K, L, n, s) Q)) (h4 : (¬ bit ls 2 = true → ∀ o5 o6 o7 o8 o9 o10 : Option Value, pm_Wp none (d + 4) 167 15 [some (.ref 56), some (.int (zI g)), some (.int (zI ((8 + ls : Nat) : Int))), some (.int (zI (7 * g))), some (.int (zI 3)), o5, o6, o7, o8, o9, o10] [] (zM N, Rf, K, L, n, s) Q)) : pm_Wp none (d + 4) 167 15 [some (.ref 56), some (.int (zI g)), some (.int (zI ((8 + ls : Nat) : Int))), some (.int (zI (7 * g))), some (.int (zI 2)), o5, o6, o7, o8, o9, o10] [] (zM N, Rf, K, L, n, s) Q := by
  have t1 := t.a0; have t2 := t.a1; have t3 := t.p0; have t4 := t.p1; have t5 := t.b0; have t6 := t.b1; have t7 := t.q0; have t8 := t.q1
  have r1 := t.ra
  have r2 := t.rb
  simp only at r1 r2 t4 t8
  obtain ⟨hc, hS, hT⟩ := t.ok
  have hS := (ok_rec hm).mp hS
  have hT := (ok_rec hm').mp hT
  have i1 := @bit_iff m 2
  have i2 := @bit_iff m' 2
  have i3 := @bit_iff ls 2
  simp only [Nat.reducePow] at i1 i2 i3
  have c1 : N 73 (17 * a + p) = ((8 + m : Nat) : Int) := r1.1
  have c2 : N 73 (17 * b + q) = ((8 + m' : Nat) : Int) := r2.1
  have z1 : 1 ≤ (flat (tRec m X0 X1 X2)).length := by rw [flat_rec, List.length_cons]; omega
  have z2 : 1 ≤ (flat (tRec m' Y0 Y1 Y2)).length := by rw [flat_rec, List.length_cons]; omega
  refine wp_iload d167_15 rfl ?_
  refine wz_iconst d167_17 ?_
  refine wz_icmp_ge (t := 297) d167_18 (by decide) (⟨by omega, by omega⟩) (⟨by omega, by omega⟩) (fun hb => absurd hb (by decide)) (fun _ => ?_)
  refine wp_aload_n d167_21 rfl ?_
  refine wp_aload_n d167_22 rfl ?_
  refine wp_getR (q := 81) d167_23 rfl (hG.o (by decide) rfl) (by decide) (hG.r (by decide +kernel)) (by decide) ?_
  refine wp_iload_n d167_26 rfl ?_
  refine wz_iconst d167_27 ?_
  refine wz_iadd d167_28 ?_
  refine wz_iald (z := 4200) (v := a) d167_29 (hG.a (by decide) rfl rfl) (by omega) (by omega) (by decide) e1 ?_
  refine wp_aload_n d167_30 rfl ?_
  refine wp_getR (q := 81) d167_31 rfl (hG.o (by decide) rfl) (by decide) (hG.r (by decide +kernel)) (by decide) ?_
  refine wp_iload_n d167_34 rfl ?_
  refine wz_iconst d167_35 ?_
  refine wz_iadd d167_36 ?_
  refine wz_iald (z := 4200) (v := p) d167_37 (hG.a (by decide) rfl rfl) (by omega) (by omega) (by decide) e2 ?_
  refine wp_virt (as := [.int (zI (p)), .int (zI (a))]) (rest := []) d167_38 rfl rfl rfl (hG.o (by decide) rfl) rfl rfl (Nat.le_of_ble_eq_true rfl) ?_
  refine m_cell hG (by omega) (by omega) ?_
  rw [c1]
  refine wp_iload d167_41 rfl ?_
  refine wz_ishrq (q := 4) d167_43 (by omega) (by omega) (by omega) (by omega) (by decide) ?_
  refine wz_iconst d167_44 ?_
  refine wz_and1 d167_45 (by omega) ?_
  refine wz_iconst d167_46 ?_
  refine wz_icmp_ne (t := 54) d167_47 (by decide) (⟨by omega, by omega⟩) (⟨by omega, by omega⟩) (fun hb47 => ?_) (fun hb47 => ?_)
  · skip
    refine wz_iconst d167_54 ?_
    refine wp_istore d167_55 (Nat.le_of_ble_eq_true rfl) rfl ?_
    refine wp_aload_n d167_57 rfl ?_
    refine wp_aload_n d167_58 rfl ?_
    refine wp_getR (q := 81) d167_59 rfl (hG.o (by decide) rfl) (by decide) (hG.r (by decide +kernel)) (by decide) ?_
    refine wp_iload_n d167_62 rfl ?_
    refine wz_iconst d167_63 ?_
    refine wz_iadd d167_64 ?_
    refine wz_iald (z := 4200) (v := b) d167_65 (hG.a (by decide) rfl rfl) (by omega) (by omega) (by decide) e3 ?_
    refine wp_aload_n d167_66 rfl ?_
    refine wp_getR (q := 81) d167_67 rfl (hG.o (by decide) rfl) (by decide) (hG.r (by decide +kernel)) (by decide) ?_
    refine wp_iload_n d167_70 rfl ?_
    refine wz_iconst d167_71 ?_
    refine wz_iadd d167_72 ?_
    refine wz_iald (z := 4200) (v := q) d167_73 (hG.a (by decide) rfl rfl) (by omega) (by omega) (by decide) e4 ?_
    refine wp_virt (as := [.int (zI (q)), .int (zI (b))]) (rest := []) d167_74 rfl rfl rfl (hG.o (by decide) rfl) rfl rfl (Nat.le_of_ble_eq_true rfl) ?_
    refine m_cell hG (by omega) (by omega) ?_
    rw [c2]
    refine wp_iload d167_77 rfl ?_
    refine wz_ishrq (q := 4) d167_79 (by omega) (by omega) (by omega) (by omega) (by decide) ?_
    refine wz_iconst d167_80 ?_
    refine wz_and1 d167_81 (by omega) ?_
    refine wz_iconst d167_82 ?_
    refine wz_icmp_ne (t := 90) d167_83 (by decide) (⟨by omega, by omega⟩) (⟨by omega, by omega⟩) (fun hb83 => ?_) (fun hb83 => ?_)
    · skip
      refine wz_iconst d167_90 ?_
      refine wp_istore d167_91 (Nat.le_of_ble_eq_true rfl) rfl ?_
      refine wp_iload d167_93 rfl ?_
      refine wz_if_eq (t := 123) d167_95 (by decide) (⟨by omega, by omega⟩) (fun _ => ?_) (fun hb => absurd (by decide) hb)
      refine wz_iconst d167_123 ?_
      refine wp_istore d167_124 (Nat.le_of_ble_eq_true rfl) rfl ?_
      refine wp_iload d167_126 rfl ?_
      refine wz_if_eq (t := 156) d167_128 (by decide) (⟨by omega, by omega⟩) (fun _ => ?_) (fun hb => absurd (by decide) hb)
      refine wz_iconst d167_156 ?_
      refine wp_istore d167_157 (Nat.le_of_ble_eq_true rfl) rfl ?_
      refine wp_iload_n d167_159 rfl ?_
      refine wp_iload d167_160 rfl ?_
      refine wz_ishrq (q := 4) d167_162 (by omega) (by omega) (by omega) (by omega) (by decide) ?_
      refine wz_iconst d167_163 ?_
      refine wz_and1 d167_164 (by omega) ?_
      refine wz_iconst d167_165 ?_
      refine wz_icmp_ne (t := 291) d167_166 (by decide) (⟨by omega, by omega⟩) (⟨by omega, by omega⟩) (fun hb166 => ?_) (fun hb166 => ?_)
      · skip
        refine wz_iinc d167_291 rfl rfl ?_
        refine wp_goto (t := 15) d167_294 (by decide) ?_
        exact h4 (by rw [i3]; omega) _ _ _ _ _ _
      · skip
        refine wp_iload d167_169 rfl ?_
        refine wz_if_eq (t := 185) d167_171 (by decide) (⟨by omega, by omega⟩) (fun _ => ?_) (fun hb => absurd (by decide) hb)
        refine wp_aload_n d167_185 rfl ?_
        refine wp_getR (q := 81) d167_186 rfl (hG.o (by decide) rfl) (by decide) (hG.r (by decide +kernel)) (by decide) ?_
        refine wp_iload_n d167_189 rfl ?_
        refine wz_iconst d167_190 ?_
        refine wz_iadd d167_191 ?_
        refine wz_iald (z := 4200) (v := b) d167_192 (hG.a (by decide) rfl rfl) (by omega) (by omega) (by decide) e3 ?_
        refine wp_istore d167_193 (Nat.le_of_ble_eq_true rfl) rfl ?_
        refine wp_iload d167_195 rfl ?_
        refine wz_if_eq (t := 211) d167_197 (by decide) (⟨by omega, by omega⟩) (fun _ => ?_) (fun hb => absurd (by decide) hb)
        refine wp_aload_n d167_211 rfl ?_
        refine wp_getR (q := 81) d167_212 rfl (hG.o (by decide) rfl) (by decide) (hG.r (by decide +kernel)) (by decide) ?_
        refine wp_iload_n d167_215 rfl ?_
        refine wz_iconst d167_216 ?_
        refine wz_iadd d167_217 ?_
        refine wz_iald (z := 4200) (v := a) d167_218 (hG.a (by decide) rfl rfl) (by omega) (by omega) (by decide) e1 ?_
        refine wp_istore d167_219 (Nat.le_of_ble_eq_true rfl) rfl ?_
        refine wp_aload_n d167_221 rfl ?_
        refine wp_iload d167_222 rfl ?_
        refine wz_if_eq (t := 241) d167_224 (by decide) (⟨by omega, by omega⟩) (fun _ => ?_) (fun hb => absurd (by decide) hb)
        refine wz_iconst d167_241 ?_
        refine wp_iload d167_242 rfl ?_
        refine wp_iload d167_244 rfl ?_
        refine wz_if_eq (t := 254) d167_246 (by decide) (⟨by omega, by omega⟩) (fun _ => ?_) (fun hb => absurd (by decide) hb)
        refine wp_iload d167_254 rfl ?_
        refine wp_iload d167_256 rfl ?_
        refine wp_iload d167_258 rfl ?_
        refine wz_if_eq (t := 268) d167_260 (by decide) (⟨by omega, by omega⟩) (fun _ => ?_) (fun hb => absurd (by decide) hb)
        refine wp_iload d167_268 rfl ?_
        refine wp_aload_n d167_270 rfl ?_
        refine wp_getR (q := 81) d167_271 rfl (hG.o (by decide) rfl) (by decide) (hG.r (by decide +kernel)) (by decide) ?_
        refine wp_iload_n d167_274 rfl ?_
        refine wz_iconst d167_275 ?_
        refine wz_iadd d167_276 ?_
        refine wz_iald (z := 4200) (v := c) d167_277 (hG.a (by decide) rfl rfl) (by omega) (by omega) (by decide) e5 ?_
        refine wp_aload_n d167_278 rfl ?_
        refine wp_getR (q := 81) d167_279 rfl (hG.o (by decide) rfl) (by decide) (hG.r (by decide +kernel)) (by decide) ?_
        refine wp_iload_n d167_282 rfl ?_
        refine wz_bipush d167_283 (by decide) ?_
        refine wz_iadd d167_285 ?_
        refine wz_iald (z := 4200) (v := (Γ.length : Int)) d167_286 (hG.a (by decide) rfl rfl) (by omega) (by omega) (by decide) e6 ?_
        refine wp_virt (as := [.int (zI ((Γ.length : Int))), .int (zI (c)), .int (zI (0)), .int (zI (a)), .int (zI (0)), .int (zI (b)), .int (zI (2))]) (rest := []) d167_287 rfl rfl rfl (hG.o (by decide) rfl) rfl rfl (Nat.le_of_ble_eq_true rfl) ?_
        refine m_aimM hG hg (by omega) g2 ?_
        refine wp_popi d167_290 ?_
        refine wz_iinc d167_291 rfl rfl ?_
        refine wp_goto (t := 15) d167_294 (by decide) ?_
        exfalso
        rw [i1, i2, i3] at hin
        omega
    · skip
      refine wz_iconst d167_86 ?_
      refine wp_goto (t := 91) d167_87 (by decide) ?_
      refine wp_istore d167_91 (Nat.le_of_ble_eq_true rfl) rfl ?_
      refine wp_iload d167_93 rfl ?_
      refine wz_if_eq (t := 123) d167_95 (by decide) (⟨by omega, by omega⟩) (fun _ => ?_) (fun hb => absurd (by decide) hb)
      refine wz_iconst d167_123 ?_
      refine wp_istore d167_124 (Nat.le_of_ble_eq_true rfl) rfl ?_
      refine wp_iload d167_126 rfl ?_
      refine wz_if_eq (t := 156) d167_128 (by decide) (⟨by omega, by omega⟩) (fun hb => absurd hb (by decide)) (fun _ => ?_)
      refine wp_aload_n d167_131 rfl ?_
      refine wp_aload_n d167_132 rfl ?_
      refine wp_getR (q := 81) d167_133 rfl (hG.o (by decide) rfl) (by decide) (hG.r (by decide +kernel)) (by decide) ?_
      refine wp_iload_n d167_136 rfl ?_
      refine wz_iconst d167_137 ?_
      refine wz_iadd d167_138 ?_
      refine wz_iald (z := 4200) (v := b) d167_139 (hG.a (by decide) rfl rfl) (by omega) (by omega) (by decide) e3 ?_
      refine wp_aload_n d167_140 rfl ?_
      refine wp_getR (q := 81) d167_141 rfl (hG.o (by decide) rfl) (by decide) (hG.r (by decide +kernel)) (by decide) ?_
      refine wp_iload_n d167_144 rfl ?_
      refine wz_iconst d167_145 ?_
      refine wz_iadd d167_146 ?_
      refine wz_iald (z := 4200) (v := q) d167_147 (hG.a (by decide) rfl rfl) (by omega) (by omega) (by decide) e4 ?_
      refine wp_iload d167_148 rfl ?_
      refine wp_virt (as := [.int (zI (2)), .int (zI (q)), .int (zI (b))]) (rest := []) d167_150 rfl rfl rfl (hG.o (by decide) rfl) rfl rfl (Nat.le_of_ble_eq_true rfl) ?_
      refine m_field2 hG hM t5 (by omega) t7 t8 hm' r2 hT.1 hT.2.1 hT.2.2 ?_
      refine wp_goto (t := 157) d167_153 (by decide) ?_
      refine wp_istore d167_157 (Nat.le_of_ble_eq_true rfl) rfl ?_
      refine wp_iload_n d167_159 rfl ?_
      refine wp_iload d167_160 rfl ?_
      refine wz_ishrq (q := 4) d167_162 (by omega) (by omega) (by omega) (by omega) (by decide) ?_
      refine wz_iconst d167_163 ?_
      refine wz_and1 d167_164 (by omega) ?_
      refine wz_iconst d167_165 ?_
      refine wz_icmp_ne (t := 291) d167_166 (by decide) (⟨by omega, by omega⟩) (⟨by omega, by omega⟩) (fun hb166 => ?_) (fun hb166 => ?_)
      · skip
        refine wz_iinc d167_291 rfl rfl ?_
        refine wp_goto (t := 15) d167_294 (by decide) ?_
        exact h4 (by rw [i3]; omega) _ _ _ _ _ _
      · skip
        refine wp_iload d167_169 rfl ?_
        refine wz_if_eq (t := 185) d167_171 (by decide) (⟨by omega, by omega⟩) (fun _ => ?_) (fun hb => absurd (by decide) hb)
        refine wp_aload_n d167_185 rfl ?_
        refine wp_getR (q := 81) d167_186 rfl (hG.o (by decide) rfl) (by decide) (hG.r (by decide +kernel)) (by decide) ?_
        refine wp_iload_n d167_189 rfl ?_
        refine wz_iconst d167_190 ?_
        refine wz_iadd d167_191 ?_
        refine wz_iald (z := 4200) (v := b) d167_192 (hG.a (by decide) rfl rfl) (by omega) (by omega) (by decide) e3 ?_
        refine wp_istore d167_193 (Nat.le_of_ble_eq_true rfl) rfl ?_
        refine wp_iload d167_195 rfl ?_
        refine wz_if_eq (t := 211) d167_197 (by decide) (⟨by omega, by omega⟩) (fun hb => absurd hb (by decide)) (fun _ => ?_)
        refine wp_aload_n d167_200 rfl ?_
        refine wp_getR (q := 81) d167_201 rfl (hG.o (by decide) rfl) (by decide) (hG.r (by decide +kernel)) (by decide) ?_
        refine wp_iload_n d167_204 rfl ?_
        refine wz_iconst d167_205 ?_
        refine wz_iadd d167_206 ?_
        refine wz_iald (z := 4200) (v := b) d167_207 (hG.a (by decide) rfl rfl) (by omega) (by omega) (by decide) e3 ?_
        refine wp_goto (t := 219) d167_208 (by decide) ?_
        refine wp_istore d167_219 (Nat.le_of_ble_eq_true rfl) rfl ?_
        refine wp_aload_n d167_221 rfl ?_
        refine wp_iload d167_222 rfl ?_
        refine wz_if_eq (t := 241) d167_224 (by decide) (⟨by omega, by omega⟩) (fun _ => ?_) (fun hb => absurd (by decide) hb)
        refine wz_iconst d167_241 ?_
        refine wp_iload d167_242 rfl ?_
        refine wp_iload d167_244 rfl ?_
        refine wz_if_eq (t := 254) d167_246 (by decide) (⟨by omega, by omega⟩) (fun _ => ?_) (fun hb => absurd (by decide) hb)
        refine wp_iload d167_254 rfl ?_
        refine wp_iload d167_256 rfl ?_
        refine wp_iload d167_258 rfl ?_
        refine wz_if_eq (t := 268) d167_260 (by decide) (⟨by omega, by omega⟩) (fun hb => absurd hb (by decide)) (fun _ => ?_)
        refine wp_iload d167_263 rfl ?_
        refine wp_goto (t := 270) d167_265 (by decide) ?_
        refine wp_aload_n d167_270 rfl ?_
        refine wp_getR (q := 81) d167_271 rfl (hG.o (by decide) rfl) (by decide) (hG.r (by decide +kernel)) (by decide) ?_
        refine wp_iload_n d167_274 rfl ?_
        refine wz_iconst d167_275 ?_
        refine wz_iadd d167_276 ?_
        refine wz_iald (z := 4200) (v := c) d167_277 (hG.a (by decide) rfl rfl) (by omega) (by omega) (by decide) e5 ?_
        refine wp_aload_n d167_278 rfl ?_
        refine wp_getR (q := 81) d167_279 rfl (hG.o (by decide) rfl) (by decide) (hG.r (by decide +kernel)) (by decide) ?_
        refine wp_iload_n d167_282 rfl ?_
        refine wz_bipush d167_283 (by decide) ?_
        refine wz_iadd d167_285 ?_
        refine wz_iald (z := 4200) (v := (Γ.length : Int)) d167_286 (hG.a (by decide) rfl rfl) (by omega) (by omega) (by decide) e6 ?_
        refine wp_virt (as := [.int (zI ((Γ.length : Int))), .int (zI (c)), .int (zI ((q + 1 + fpos Y0 Y1 2))), .int (zI (b)), .int (zI ((q + 1 + fpos Y0 Y1 2))), .int (zI (b)), .int (zI (2))]) (rest := []) d167_287 rfl rfl rfl (hG.o (by decide) rfl) rfl rfl (Nat.le_of_ble_eq_true rfl) ?_
        refine m_aimM hG hg (by omega) g2 ?_
        refine wp_popi d167_290 ?_
        refine wz_iinc d167_291 rfl rfl ?_
        refine wp_goto (t := 15) d167_294 (by decide) ?_
        exact h3 (by rw [i3]; omega) (by rw [i1]; omega) (by rw [i2]; omega) _ _ _ _ _ _
  · skip
    refine wz_iconst d167_50 ?_
    refine wp_goto (t := 55) d167_51 (by decide) ?_
    refine wp_istore d167_55 (Nat.le_of_ble_eq_true rfl) rfl ?_
    refine wp_aload_n d167_57 rfl ?_
    refine wp_aload_n d167_58 rfl ?_
    refine wp_getR (q := 81) d167_59 rfl (hG.o (by decide) rfl) (by decide) (hG.r (by decide +kernel)) (by decide) ?_
    refine wp_iload_n d167_62 rfl ?_
    refine wz_iconst d167_63 ?_
    refine wz_iadd d167_64 ?_
    refine wz_iald (z := 4200) (v := b) d167_65 (hG.a (by decide) rfl rfl) (by omega) (by omega) (by decide) e3 ?_
    refine wp_aload_n d167_66 rfl ?_
    refine wp_getR (q := 81) d167_67 rfl (hG.o (by decide) rfl) (by decide) (hG.r (by decide +kernel)) (by decide) ?_
    refine wp_iload_n d167_70 rfl ?_
    refine wz_iconst d167_71 ?_
    refine wz_iadd d167_72 ?_
    refine wz_iald (z := 4200) (v := q) d167_73 (hG.a (by decide) rfl rfl) (by omega) (by omega) (by decide) e4 ?_
    refine wp_virt (as := [.int (zI (q)), .int (zI (b))]) (rest := []) d167_74 rfl rfl rfl (hG.o (by decide) rfl) rfl rfl (Nat.le_of_ble_eq_true rfl) ?_
    refine m_cell hG (by omega) (by omega) ?_
    rw [c2]
    refine wp_iload d167_77 rfl ?_
    refine wz_ishrq (q := 4) d167_79 (by omega) (by omega) (by omega) (by omega) (by decide) ?_
    refine wz_iconst d167_80 ?_
    refine wz_and1 d167_81 (by omega) ?_
    refine wz_iconst d167_82 ?_
    refine wz_icmp_ne (t := 90) d167_83 (by decide) (⟨by omega, by omega⟩) (⟨by omega, by omega⟩) (fun hb83 => ?_) (fun hb83 => ?_)
    · skip
      refine wz_iconst d167_90 ?_
      refine wp_istore d167_91 (Nat.le_of_ble_eq_true rfl) rfl ?_
      refine wp_iload d167_93 rfl ?_
      refine wz_if_eq (t := 123) d167_95 (by decide) (⟨by omega, by omega⟩) (fun hb => absurd hb (by decide)) (fun _ => ?_)
      refine wp_aload_n d167_98 rfl ?_
      refine wp_aload_n d167_99 rfl ?_
      refine wp_getR (q := 81) d167_100 rfl (hG.o (by decide) rfl) (by decide) (hG.r (by decide +kernel)) (by decide) ?_
      refine wp_iload_n d167_103 rfl ?_
      refine wz_iconst d167_104 ?_
      refine wz_iadd d167_105 ?_
      refine wz_iald (z := 4200) (v := a) d167_106 (hG.a (by decide) rfl rfl) (by omega) (by omega) (by decide) e1 ?_
      refine wp_aload_n d167_107 rfl ?_
      refine wp_getR (q := 81) d167_108 rfl (hG.o (by decide) rfl) (by decide) (hG.r (by decide +kernel)) (by decide) ?_
      refine wp_iload_n d167_111 rfl ?_
      refine wz_iconst d167_112 ?_
      refine wz_iadd d167_113 ?_
      refine wz_iald (z := 4200) (v := p) d167_114 (hG.a (by decide) rfl rfl) (by omega) (by omega) (by decide) e2 ?_
      refine wp_iload d167_115 rfl ?_
      refine wp_virt (as := [.int (zI (2)), .int (zI (p)), .int (zI (a))]) (rest := []) d167_117 rfl rfl rfl (hG.o (by decide) rfl) rfl rfl (Nat.le_of_ble_eq_true rfl) ?_
      refine m_field2 hG hM t1 (by omega) t3 t4 hm r1 hS.1 hS.2.1 hS.2.2 ?_
      refine wp_goto (t := 124) d167_120 (by decide) ?_
      refine wp_istore d167_124 (Nat.le_of_ble_eq_true rfl) rfl ?_
      refine wp_iload d167_126 rfl ?_
      refine wz_if_eq (t := 156) d167_128 (by decide) (⟨by omega, by omega⟩) (fun _ => ?_) (fun hb => absurd (by decide) hb)
      refine wz_iconst d167_156 ?_
      refine wp_istore d167_157 (Nat.le_of_ble_eq_true rfl) rfl ?_
      refine wp_iload_n d167_159 rfl ?_
      refine wp_iload d167_160 rfl ?_
      refine wz_ishrq (q := 4) d167_162 (by omega) (by omega) (by omega) (by omega) (by decide) ?_
      refine wz_iconst d167_163 ?_
      refine wz_and1 d167_164 (by omega) ?_
      refine wz_iconst d167_165 ?_
      refine wz_icmp_ne (t := 291) d167_166 (by decide) (⟨by omega, by omega⟩) (⟨by omega, by omega⟩) (fun hb166 => ?_) (fun hb166 => ?_)
      · skip
        refine wz_iinc d167_291 rfl rfl ?_
        refine wp_goto (t := 15) d167_294 (by decide) ?_
        exact h4 (by rw [i3]; omega) _ _ _ _ _ _
      · skip
        refine wp_iload d167_169 rfl ?_
        refine wz_if_eq (t := 185) d167_171 (by decide) (⟨by omega, by omega⟩) (fun hb => absurd hb (by decide)) (fun _ => ?_)
        refine wp_aload_n d167_174 rfl ?_
        refine wp_getR (q := 81) d167_175 rfl (hG.o (by decide) rfl) (by decide) (hG.r (by decide +kernel)) (by decide) ?_
        refine wp_iload_n d167_178 rfl ?_
        refine wz_iconst d167_179 ?_
        refine wz_iadd d167_180 ?_
        refine wz_iald (z := 4200) (v := a) d167_181 (hG.a (by decide) rfl rfl) (by omega) (by omega) (by decide) e1 ?_
        refine wp_goto (t := 193) d167_182 (by decide) ?_
        refine wp_istore d167_193 (Nat.le_of_ble_eq_true rfl) rfl ?_
        refine wp_iload d167_195 rfl ?_
        refine wz_if_eq (t := 211) d167_197 (by decide) (⟨by omega, by omega⟩) (fun _ => ?_) (fun hb => absurd (by decide) hb)
        refine wp_aload_n d167_211 rfl ?_
        refine wp_getR (q := 81) d167_212 rfl (hG.o (by decide) rfl) (by decide) (hG.r (by decide +kernel)) (by decide) ?_
        refine wp_iload_n d167_215 rfl ?_
        refine wz_iconst d167_216 ?_
        refine wz_iadd d167_217 ?_
        refine wz_iald (z := 4200) (v := a) d167_218 (hG.a (by decide) rfl rfl) (by omega) (by omega) (by decide) e1 ?_
        refine wp_istore d167_219 (Nat.le_of_ble_eq_true rfl) rfl ?_
        refine wp_aload_n d167_221 rfl ?_
        refine wp_iload d167_222 rfl ?_
        refine wz_if_eq (t := 241) d167_224 (by decide) (⟨by omega, by omega⟩) (fun hb => absurd hb (by decide)) (fun _ => ?_)
        refine wp_iload d167_227 rfl ?_
        refine wz_if_eq (t := 241) d167_229 (by decide) (⟨by omega, by omega⟩) (fun _ => ?_) (fun hb => absurd (by decide) hb)
        refine wz_iconst d167_241 ?_
        refine wp_iload d167_242 rfl ?_
        refine wp_iload d167_244 rfl ?_
        refine wz_if_eq (t := 254) d167_246 (by decide) (⟨by omega, by omega⟩) (fun hb => absurd hb (by decide)) (fun _ => ?_)
        refine wp_iload d167_249 rfl ?_
        refine wp_goto (t := 256) d167_251 (by decide) ?_
        refine wp_iload d167_256 rfl ?_
        refine wp_iload d167_258 rfl ?_
        refine wz_if_eq (t := 268) d167_260 (by decide) (⟨by omega, by omega⟩) (fun _ => ?_) (fun hb => absurd (by decide) hb)
        refine wp_iload d167_268 rfl ?_
        refine wp_aload_n d167_270 rfl ?_
        refine wp_getR (q := 81) d167_271 rfl (hG.o (by decide) rfl) (by decide) (hG.r (by decide +kernel)) (by decide) ?_
        refine wp_iload_n d167_274 rfl ?_
        refine wz_iconst d167_275 ?_
        refine wz_iadd d167_276 ?_
        refine wz_iald (z := 4200) (v := c) d167_277 (hG.a (by decide) rfl rfl) (by omega) (by omega) (by decide) e5 ?_
        refine wp_aload_n d167_278 rfl ?_
        refine wp_getR (q := 81) d167_279 rfl (hG.o (by decide) rfl) (by decide) (hG.r (by decide +kernel)) (by decide) ?_
        refine wp_iload_n d167_282 rfl ?_
        refine wz_bipush d167_283 (by decide) ?_
        refine wz_iadd d167_285 ?_
        refine wz_iald (z := 4200) (v := (Γ.length : Int)) d167_286 (hG.a (by decide) rfl rfl) (by omega) (by omega) (by decide) e6 ?_
        refine wp_virt (as := [.int (zI ((Γ.length : Int))), .int (zI (c)), .int (zI ((p + 1 + fpos X0 X1 2))), .int (zI (a)), .int (zI ((p + 1 + fpos X0 X1 2))), .int (zI (a)), .int (zI (2))]) (rest := []) d167_287 rfl rfl rfl (hG.o (by decide) rfl) rfl rfl (Nat.le_of_ble_eq_true rfl) ?_
        refine m_aimM hG hg (by omega) g2 ?_
        refine wp_popi d167_290 ?_
        refine wz_iinc d167_291 rfl rfl ?_
        refine wp_goto (t := 15) d167_294 (by decide) ?_
        exact h2 (by rw [i3]; omega) (by rw [i1]; omega) (by rw [i2]; omega) _ _ _ _ _ _
    · skip
      refine wz_iconst d167_86 ?_
      refine wp_goto (t := 91) d167_87 (by decide) ?_
      refine wp_istore d167_91 (Nat.le_of_ble_eq_true rfl) rfl ?_
      refine wp_iload d167_93 rfl ?_
      refine wz_if_eq (t := 123) d167_95 (by decide) (⟨by omega, by omega⟩) (fun hb => absurd hb (by decide)) (fun _ => ?_)
      refine wp_aload_n d167_98 rfl ?_
      refine wp_aload_n d167_99 rfl ?_
      refine wp_getR (q := 81) d167_100 rfl (hG.o (by decide) rfl) (by decide) (hG.r (by decide +kernel)) (by decide) ?_
      refine wp_iload_n d167_103 rfl ?_
      refine wz_iconst d167_104 ?_
      refine wz_iadd d167_105 ?_
      refine wz_iald (z := 4200) (v := a) d167_106 (hG.a (by decide) rfl rfl) (by omega) (by omega) (by decide) e1 ?_
      refine wp_aload_n d167_107 rfl ?_
      refine wp_getR (q := 81) d167_108 rfl (hG.o (by decide) rfl) (by decide) (hG.r (by decide +kernel)) (by decide) ?_
      refine wp_iload_n d167_111 rfl ?_
      refine wz_iconst d167_112 ?_
      refine wz_iadd d167_113 ?_
      refine wz_iald (z := 4200) (v := p) d167_114 (hG.a (by decide) rfl rfl) (by omega) (by omega) (by decide) e2 ?_
      refine wp_iload d167_115 rfl ?_
      refine wp_virt (as := [.int (zI (2)), .int (zI (p)), .int (zI (a))]) (rest := []) d167_117 rfl rfl rfl (hG.o (by decide) rfl) rfl rfl (Nat.le_of_ble_eq_true rfl) ?_
      refine m_field2 hG hM t1 (by omega) t3 t4 hm r1 hS.1 hS.2.1 hS.2.2 ?_
      refine wp_goto (t := 124) d167_120 (by decide) ?_
      refine wp_istore d167_124 (Nat.le_of_ble_eq_true rfl) rfl ?_
      refine wp_iload d167_126 rfl ?_
      refine wz_if_eq (t := 156) d167_128 (by decide) (⟨by omega, by omega⟩) (fun hb => absurd hb (by decide)) (fun _ => ?_)
      refine wp_aload_n d167_131 rfl ?_
      refine wp_aload_n d167_132 rfl ?_
      refine wp_getR (q := 81) d167_133 rfl (hG.o (by decide) rfl) (by decide) (hG.r (by decide +kernel)) (by decide) ?_
      refine wp_iload_n d167_136 rfl ?_
      refine wz_iconst d167_137 ?_
      refine wz_iadd d167_138 ?_
      refine wz_iald (z := 4200) (v := b) d167_139 (hG.a (by decide) rfl rfl) (by omega) (by omega) (by decide) e3 ?_
      refine wp_aload_n d167_140 rfl ?_
      refine wp_getR (q := 81) d167_141 rfl (hG.o (by decide) rfl) (by decide) (hG.r (by decide +kernel)) (by decide) ?_
      refine wp_iload_n d167_144 rfl ?_
      refine wz_iconst d167_145 ?_
      refine wz_iadd d167_146 ?_
      refine wz_iald (z := 4200) (v := q) d167_147 (hG.a (by decide) rfl rfl) (by omega) (by omega) (by decide) e4 ?_
      refine wp_iload d167_148 rfl ?_
      refine wp_virt (as := [.int (zI (2)), .int (zI (q)), .int (zI (b))]) (rest := []) d167_150 rfl rfl rfl (hG.o (by decide) rfl) rfl rfl (Nat.le_of_ble_eq_true rfl) ?_
      refine m_field2 hG hM t5 (by omega) t7 t8 hm' r2 hT.1 hT.2.1 hT.2.2 ?_
      refine wp_goto (t := 157) d167_153 (by decide) ?_
      refine wp_istore d167_157 (Nat.le_of_ble_eq_true rfl) rfl ?_
      refine wp_iload_n d167_159 rfl ?_
      refine wp_iload d167_160 rfl ?_
      refine wz_ishrq (q := 4) d167_162 (by omega) (by omega) (by omega) (by omega) (by decide) ?_
      refine wz_iconst d167_163 ?_
      refine wz_and1 d167_164 (by omega) ?_
      refine wz_iconst d167_165 ?_
      refine wz_icmp_ne (t := 291) d167_166 (by decide) (⟨by omega, by omega⟩) (⟨by omega, by omega⟩) (fun hb166 => ?_) (fun hb166 => ?_)
      · skip
        refine wz_iinc d167_291 rfl rfl ?_
        refine wp_goto (t := 15) d167_294 (by decide) ?_
        exact h4 (by rw [i3]; omega) _ _ _ _ _ _
      · skip
        refine wp_iload d167_169 rfl ?_
        refine wz_if_eq (t := 185) d167_171 (by decide) (⟨by omega, by omega⟩) (fun hb => absurd hb (by decide)) (fun _ => ?_)
        refine wp_aload_n d167_174 rfl ?_
        refine wp_getR (q := 81) d167_175 rfl (hG.o (by decide) rfl) (by decide) (hG.r (by decide +kernel)) (by decide) ?_
        refine wp_iload_n d167_178 rfl ?_
        refine wz_iconst d167_179 ?_
        refine wz_iadd d167_180 ?_
        refine wz_iald (z := 4200) (v := a) d167_181 (hG.a (by decide) rfl rfl) (by omega) (by omega) (by decide) e1 ?_
        refine wp_goto (t := 193) d167_182 (by decide) ?_
        refine wp_istore d167_193 (Nat.le_of_ble_eq_true rfl) rfl ?_
        refine wp_iload d167_195 rfl ?_
        refine wz_if_eq (t := 211) d167_197 (by decide) (⟨by omega, by omega⟩) (fun hb => absurd hb (by decide)) (fun _ => ?_)
        refine wp_aload_n d167_200 rfl ?_
        refine wp_getR (q := 81) d167_201 rfl (hG.o (by decide) rfl) (by decide) (hG.r (by decide +kernel)) (by decide) ?_
        refine wp_iload_n d167_204 rfl ?_
        refine wz_iconst d167_205 ?_
        refine wz_iadd d167_206 ?_
        refine wz_iald (z := 4200) (v := b) d167_207 (hG.a (by decide) rfl rfl) (by omega) (by omega) (by decide) e3 ?_
        refine wp_goto (t := 219) d167_208 (by decide) ?_
        refine wp_istore d167_219 (Nat.le_of_ble_eq_true rfl) rfl ?_
        refine wp_aload_n d167_221 rfl ?_
        refine wp_iload d167_222 rfl ?_
        refine wz_if_eq (t := 241) d167_224 (by decide) (⟨by omega, by omega⟩) (fun hb => absurd hb (by decide)) (fun _ => ?_)
        refine wp_iload d167_227 rfl ?_
        refine wz_if_eq (t := 241) d167_229 (by decide) (⟨by omega, by omega⟩) (fun hb => absurd hb (by decide)) (fun _ => ?_)
        refine wp_aload_n d167_232 rfl ?_
        refine wp_getR (q := 81) d167_233 rfl (hG.o (by decide) rfl) (by decide) (hG.r (by decide +kernel)) (by decide) ?_
        refine wp_iload_n d167_236 rfl ?_
        refine wz_iald (z := 4200) (v := W) d167_237 (hG.a (by decide) rfl rfl) (by omega) (by omega) (by decide) e0 ?_
        refine wp_goto (t := 242) d167_238 (by decide) ?_
        refine wp_iload d167_242 rfl ?_
        refine wp_iload d167_244 rfl ?_
        refine wz_if_eq (t := 254) d167_246 (by decide) (⟨by omega, by omega⟩) (fun hb => absurd hb (by decide)) (fun _ => ?_)
        refine wp_iload d167_249 rfl ?_
        refine wp_goto (t := 256) d167_251 (by decide) ?_
        refine wp_iload d167_256 rfl ?_
        refine wp_iload d167_258 rfl ?_
        refine wz_if_eq (t := 268) d167_260 (by decide) (⟨by omega, by omega⟩) (fun hb => absurd hb (by decide)) (fun _ => ?_)
        refine wp_iload d167_263 rfl ?_
        refine wp_goto (t := 270) d167_265 (by decide) ?_
        refine wp_aload_n d167_270 rfl ?_
        refine wp_getR (q := 81) d167_271 rfl (hG.o (by decide) rfl) (by decide) (hG.r (by decide +kernel)) (by decide) ?_
        refine wp_iload_n d167_274 rfl ?_
        refine wz_iconst d167_275 ?_
        refine wz_iadd d167_276 ?_
        refine wz_iald (z := 4200) (v := c) d167_277 (hG.a (by decide) rfl rfl) (by omega) (by omega) (by decide) e5 ?_
        refine wp_aload_n d167_278 rfl ?_
        refine wp_getR (q := 81) d167_279 rfl (hG.o (by decide) rfl) (by decide) (hG.r (by decide +kernel)) (by decide) ?_
        refine wp_iload_n d167_282 rfl ?_
        refine wz_bipush d167_283 (by decide) ?_
        refine wz_iadd d167_285 ?_
        refine wz_iald (z := 4200) (v := (Γ.length : Int)) d167_286 (hG.a (by decide) rfl rfl) (by omega) (by omega) (by decide) e6 ?_
        refine wp_virt (as := [.int (zI ((Γ.length : Int))), .int (zI (c)), .int (zI ((q + 1 + fpos Y0 Y1 2))), .int (zI (b)), .int (zI ((p + 1 + fpos X0 X1 2))), .int (zI (a)), .int (zI (W))]) (rest := []) d167_287 rfl rfl rfl (hG.o (by decide) rfl) rfl rfl (Nat.le_of_ble_eq_true rfl) ?_
        refine m_aimM hG hg (by omega) g2 ?_
        refine wp_popi d167_290 ?_
        refine wz_iinc d167_291 rfl rfl ?_
        refine wp_goto (t := 15) d167_294 (by decide) ?_
        exact h1 (by rw [i3]; omega) (by rw [i1]; omega) (by rw [i2]; omega) _ _ _ _ _ _
set_option maxRecDepth 20000 in
set_option maxHeartbeats 1000000 in
theorem part_no0 {u x g G a p b q c : Int} {Γ : List Ty} {S T : Ty}  (hG : pm_G Rf K L n) (hM : ∀ p i, R32 (N p i)) (hu : N 56 22 = u) (hx : N 56 24 = x) (hg : N 56 36 = G) (g0 : 0 ≤ g) (g1 : g < G) (g2 : G + 3 ≤ 600) (u1 : u < 1100) (x0 : 0 ≤ x) (x1 : x < 900) (hD : Γ.length < 2000) (t : TH N u x a p b q c (Γ.length : Int) (Γ, S, T)) (n1 : ¬ 16 ≤ hd S) (n2 : ¬ 16 ≤ hd T) (n3 : ¬ (8 ≤ hd S ∧ 8 ≤ hd T)) (n4 : ¬ (hd S = 1 ∧ hd T = 1)) (n5 : ¬ (hd S = 2 ∧ hd T = 2)) (h : Q none (zM (mset (mset (mset (mset (mset (mset N 83 g G) 56 22 (u + 1)) 73 (17 * u) 0) 84 g 1) 85 g u) 86 g 0), Rf, K, L, n, s)) : pm_Wp none (d + 7) 166 184 [some (.ref 56), some (.int (zI g)), some (.int (zI (7 * g))), some (.int (zI 0)), some (.int (zI a)), some (.int (zI p)), some (.int (zI b)), some (.int (zI q)), some (.int (zI c)), some (.int (zI ((Γ.length : Int)))), some (.int (zI 0)), none, none, none] [] (zM N, Rf, K, L, n, s) Q := by
  have t1 := t.a0; have t2 := t.a1; have t3 := t.p0; have t4 := t.p1; have t5 := t.b0; have t6 := t.b1; have t7 := t.q0; have t8 := t.q1
  simp only at t4 t8
  obtain ⟨hc0, hS0, hT0⟩ := t.ok
  have hc : okc Γ := hc0
  have hS : ok Γ.length (S) = true := hS0
  have hT : ok Γ.length (T) = true := hT0
  clear hc0 hS0 hT0
  have l1 : hd (S) < 16 + Γ.length + 16 := hd_le hS
  have l2 : hd (T) < 16 + Γ.length + 16 := hd_le hT
  obtain ⟨f1, e1⟩ := flat_hd hS
  obtain ⟨f2, e2⟩ := flat_hd hT
  have r1 := t.ra
  have r2 := t.rb
  simp only at r1 r2
  have z1 := t4
  have z2 := t8
  rw [e1] at r1 z1
  rw [e2] at r2 z2
  rw [List.length_cons] at z1 z2
  have c1 := r1.1
  have c2 := r2.1
  have k574 : pm_Wp none (d + 7) 166 574 [some (.ref 56), some (.int (zI g)), some (.int (zI (7 * g))), some (.int (zI 0)), some (.int (zI a)), some (.int (zI p)), some (.int (zI b)), some (.int (zI q)), some (.int (zI c)), some (.int (zI ((Γ.length : Int)))), some (.int (zI 0)), some (.int (zI (((hd S : Nat) : Int)))), some (.int (zI (((hd T : Nat) : Int)))), none] [] (zM (mset N 83 g G), Rf, K, L, n, s) Q := by
    refine wp_iload_n d166_574 rfl ?_
    refine wz_if_ne (t := 588) d166_575 (by decide) (⟨by omega, by omega⟩) (fun hb => absurd (by decide) hb) (fun _ => ?_)
    refine wp_aload_n d166_578 rfl ?_
    refine wp_iload_n d166_579 rfl ?_
    refine wp_aload_n d166_580 rfl ?_
    refine wp_virt (as := []) (rest := [.int (zI (g)), .ref 56]) d166_581 rfl rfl rfl (hG.o (by decide) rfl) rfl rfl (Nat.le_of_ble_eq_true rfl) ?_
    refine m_top hG (u := u) (by simp [mset]; exact hu) (by omega) u1 ?_
    refine wz_iconst d166_584 ?_
    refine wp_virt (as := [.int (zI (0)), .int (zI (u)), .int (zI (g))]) (rest := []) d166_585 rfl rfl rfl (hG.o (by decide) rfl) rfl rfl (Nat.le_of_ble_eq_true rfl) ?_
    refine m_reach hG g0 (by omega) ?_
    exact wp_ret d166_588 rfl h
  have k470 : pm_Wp none (d + 7) 166 470 [some (.ref 56), some (.int (zI g)), some (.int (zI (7 * g))), some (.int (zI 0)), some (.int (zI a)), some (.int (zI p)), some (.int (zI b)), some (.int (zI q)), some (.int (zI c)), some (.int (zI ((Γ.length : Int)))), some (.int (zI 0)), some (.int (zI (((hd S : Nat) : Int)))), some (.int (zI (((hd T : Nat) : Int)))), none] [] (zM (mset N 83 g G), Rf, K, L, n, s) Q := by
    refine wp_iload d166_470 rfl ?_
    refine wz_iconst d166_472 ?_
    refine wz_icmp_ne (t := 574) d166_473 (by decide) (⟨by omega, by omega⟩) (⟨by omega, by omega⟩) (fun hb473 => ?_) (fun hb473 => ?_)
    · skip
      exact k574
    · skip
      refine wp_iload d166_476 rfl ?_
      refine wz_iconst d166_478 ?_
      refine wz_icmp_ne (t := 574) d166_479 (by decide) (⟨by omega, by omega⟩) (⟨by omega, by omega⟩) (fun hb479 => ?_) (fun hb479 => ?_)
      · skip
        exact k574
      · skip
        exfalso; omega
  have k390 : pm_Wp none (d + 7) 166 390 [some (.ref 56), some (.int (zI g)), some (.int (zI (7 * g))), some (.int (zI 0)), some (.int (zI a)), some (.int (zI p)), some (.int (zI b)), some (.int (zI q)), some (.int (zI c)), some (.int (zI ((Γ.length : Int)))), some (.int (zI 0)), some (.int (zI (((hd S : Nat) : Int)))), some (.int (zI (((hd T : Nat) : Int)))), none] [] (zM (mset N 83 g G), Rf, K, L, n, s) Q := by
    refine wp_iload d166_390 rfl ?_
    refine wz_iconst d166_392 ?_
    refine wz_icmp_ne (t := 470) d166_393 (by decide) (⟨by omega, by omega⟩) (⟨by omega, by omega⟩) (fun hb393 => ?_) (fun hb393 => ?_)
    · skip
      exact k470
    · skip
      refine wp_iload d166_396 rfl ?_
      refine wz_iconst d166_398 ?_
      refine wz_icmp_ne (t := 470) d166_399 (by decide) (⟨by omega, by omega⟩) (⟨by omega, by omega⟩) (fun hb399 => ?_) (fun hb399 => ?_)
      · skip
        exact k470
      · skip
        exfalso; omega
  refine wp_aload_n d166_184 rfl ?_
  refine wp_iload d166_185 rfl ?_
  refine wp_iload d166_187 rfl ?_
  refine wp_virt (as := [.int (zI (p)), .int (zI (a))]) (rest := []) d166_189 rfl rfl rfl (hG.o (by decide) rfl) rfl rfl (Nat.le_of_ble_eq_true rfl) ?_
  refine m_cell hG (by omega) (by omega) ?_
  rw [c1]
  refine wp_istore d166_192 (Nat.le_of_ble_eq_true rfl) rfl ?_
  refine wp_aload_n d166_194 rfl ?_
  refine wp_iload d166_195 rfl ?_
  refine wp_iload d166_197 rfl ?_
  refine wp_virt (as := [.int (zI (q)), .int (zI (b))]) (rest := []) d166_199 rfl rfl rfl (hG.o (by decide) rfl) rfl rfl (Nat.le_of_ble_eq_true rfl) ?_
  refine m_cell hG (by omega) (by omega) ?_
  rw [c2]
  refine wp_istore d166_202 (Nat.le_of_ble_eq_true rfl) rfl ?_
  refine wp_iload d166_204 rfl ?_
  refine wz_bipush d166_206 (by decide) ?_
  refine wz_icmp_ge (t := 218) d166_208 (by decide) (⟨by omega, by omega⟩) (⟨by omega, by omega⟩) (fun hb => absurd hb (by omega)) (fun _ => ?_)
  refine wp_iload d166_211 rfl ?_
  refine wz_bipush d166_213 (by decide) ?_
  refine wz_icmp_lt (t := 341) d166_215 (by decide) (⟨by omega, by omega⟩) (⟨by omega, by omega⟩) (fun _ => ?_) (fun hb => absurd (by omega) hb)
  refine wp_aload_n d166_341 rfl ?_
  refine wp_getR (q := 83) d166_342 rfl (hG.o (by decide) rfl) (by decide) (hG.r (by decide +kernel)) (by decide) ?_
  refine wp_iload_n d166_345 rfl ?_
  refine wp_aload_n d166_346 rfl ?_
  refine wz_getI (v := G) d166_347 rfl (hG.o (by decide) rfl) (by decide) hg ?_
  refine wz_iast (z := 600) d166_350 (hG.a (by decide) rfl rfl) (by omega) (by omega) (by decide) ?_
  refine wp_iload d166_351 rfl ?_
  refine wz_bipush d166_353 (by decide) ?_
  refine wz_icmp_lt (t := 390) d166_355 (by decide) (⟨by omega, by omega⟩) (⟨by omega, by omega⟩) (fun hb355 => ?_) (fun hb355 => ?_)
  · skip
    exact k390
  · skip
    refine wp_iload d166_358 rfl ?_
    refine wz_bipush d166_360 (by decide) ?_
    refine wz_icmp_lt (t := 390) d166_362 (by decide) (⟨by omega, by omega⟩) (⟨by omega, by omega⟩) (fun hb362 => ?_) (fun hb362 => ?_)
    · skip
      exact k390
    · skip
      exfalso; omega
set_option maxRecDepth 20000 in
set_option maxHeartbeats 1000000 in
theorem part_no1 {u x g G a p b q c : Int} {Γ : List Ty} {S T : Ty}  (hG : pm_G Rf K L n) (hM : ∀ p i, R32 (N p i)) (hu : N 56 22 = u) (hx : N 56 24 = x) (hg : N 56 36 = G) (g0 : 0 ≤ g) (g1 : g < G) (g2 : G + 3 ≤ 600) (u1 : u < 1100) (x0 : 0 ≤ x) (x1 : x < 900) (hD : Γ.length < 2000) (t : TH N u x a p b q c (Γ.length : Int) (Γ, S, T)) (n1 : ¬ 16 ≤ hd S) (n2 : ¬ 16 ≤ hd T) (n3 : ¬ (8 ≤ hd S ∧ 8 ≤ hd T)) (n4 : ¬ (hd S = 1 ∧ hd T = 1)) (n5 : ¬ (hd S = 2 ∧ hd T = 2)) (h : Q none (zM (mset N 83 g G), Rf, K, L, n, s)) : pm_Wp none (d + 7) 166 184 [some (.ref 56), some (.int (zI g)), some (.int (zI (7 * g))), some (.int (zI 1)), some (.int (zI a)), some (.int (zI p)), some (.int (zI b)), some (.int (zI q)), some (.int (zI c)), some (.int (zI ((Γ.length : Int)))), some (.int (zI 0)), none, none, none] [] (zM N, Rf, K, L, n, s) Q := by
  have t1 := t.a0; have t2 := t.a1; have t3 := t.p0; have t4 := t.p1; have t5 := t.b0; have t6 := t.b1; have t7 := t.q0; have t8 := t.q1
  simp only at t4 t8
  obtain ⟨hc0, hS0, hT0⟩ := t.ok
  have hc : okc Γ := hc0
  have hS : ok Γ.length (S) = true := hS0
  have hT : ok Γ.length (T) = true := hT0
  clear hc0 hS0 hT0
  have l1 : hd (S) < 16 + Γ.length + 16 := hd_le hS
  have l2 : hd (T) < 16 + Γ.length + 16 := hd_le hT
  obtain ⟨f1, e1⟩ := flat_hd hS
  obtain ⟨f2, e2⟩ := flat_hd hT
  have r1 := t.ra
  have r2 := t.rb
  simp only at r1 r2
  have z1 := t4
  have z2 := t8
  rw [e1] at r1 z1
  rw [e2] at r2 z2
  rw [List.length_cons] at z1 z2
  have c1 := r1.1
  have c2 := r2.1
  have k574 : pm_Wp none (d + 7) 166 574 [some (.ref 56), some (.int (zI g)), some (.int (zI (7 * g))), some (.int (zI 1)), some (.int (zI a)), some (.int (zI p)), some (.int (zI b)), some (.int (zI q)), some (.int (zI c)), some (.int (zI ((Γ.length : Int)))), some (.int (zI 0)), some (.int (zI (((hd S : Nat) : Int)))), some (.int (zI (((hd T : Nat) : Int)))), none] [] (zM (mset N 83 g G), Rf, K, L, n, s) Q := by
    refine wp_iload_n d166_574 rfl ?_
    refine wz_if_ne (t := 588) d166_575 (by decide) (⟨by omega, by omega⟩) (fun _ => ?_) (fun hb => absurd hb (by decide))
    exact wp_ret d166_588 rfl h
  have k470 : pm_Wp none (d + 7) 166 470 [some (.ref 56), some (.int (zI g)), some (.int (zI (7 * g))), some (.int (zI 1)), some (.int (zI a)), some (.int (zI p)), some (.int (zI b)), some (.int (zI q)), some (.int (zI c)), some (.int (zI ((Γ.length : Int)))), some (.int (zI 0)), some (.int (zI (((hd S : Nat) : Int)))), some (.int (zI (((hd T : Nat) : Int)))), none] [] (zM (mset N 83 g G), Rf, K, L, n, s) Q := by
    refine wp_iload d166_470 rfl ?_
    refine wz_iconst d166_472 ?_
    refine wz_icmp_ne (t := 574) d166_473 (by decide) (⟨by omega, by omega⟩) (⟨by omega, by omega⟩) (fun hb473 => ?_) (fun hb473 => ?_)
    · skip
      exact k574
    · skip
      refine wp_iload d166_476 rfl ?_
      refine wz_iconst d166_478 ?_
      refine wz_icmp_ne (t := 574) d166_479 (by decide) (⟨by omega, by omega⟩) (⟨by omega, by omega⟩) (fun hb479 => ?_) (fun hb479 => ?_)
      · skip
        exact k574
      · skip
        exfalso; omega
  have k390 : pm_Wp none (d + 7) 166 390 [some (.ref 56), some (.int (zI g)), some (.int (zI (7 * g))), some (.int (zI 1)), some (.int (zI a)), some (.int (zI p)), some (.int (zI b)), some (.int (zI q)), some (.int (zI c)), some (.int (zI ((Γ.length : Int)))), some (.int (zI 0)), some (.int (zI (((hd S : Nat) : Int)))), some (.int (zI (((hd T : Nat) : Int)))), none] [] (zM (mset N 83 g G), Rf, K, L, n, s) Q := by
    refine wp_iload d166_390 rfl ?_
    refine wz_iconst d166_392 ?_
    refine wz_icmp_ne (t := 470) d166_393 (by decide) (⟨by omega, by omega⟩) (⟨by omega, by omega⟩) (fun hb393 => ?_) (fun hb393 => ?_)
    · skip
      exact k470
    · skip
      refine wp_iload d166_396 rfl ?_
      refine wz_iconst d166_398 ?_
      refine wz_icmp_ne (t := 470) d166_399 (by decide) (⟨by omega, by omega⟩) (⟨by omega, by omega⟩) (fun hb399 => ?_) (fun hb399 => ?_)
      · skip
        exact k470
      · skip
        exfalso; omega
  refine wp_aload_n d166_184 rfl ?_
  refine wp_iload d166_185 rfl ?_
  refine wp_iload d166_187 rfl ?_
  refine wp_virt (as := [.int (zI (p)), .int (zI (a))]) (rest := []) d166_189 rfl rfl rfl (hG.o (by decide) rfl) rfl rfl (Nat.le_of_ble_eq_true rfl) ?_
  refine m_cell hG (by omega) (by omega) ?_
  rw [c1]
  refine wp_istore d166_192 (Nat.le_of_ble_eq_true rfl) rfl ?_
  refine wp_aload_n d166_194 rfl ?_
  refine wp_iload d166_195 rfl ?_
  refine wp_iload d166_197 rfl ?_
  refine wp_virt (as := [.int (zI (q)), .int (zI (b))]) (rest := []) d166_199 rfl rfl rfl (hG.o (by decide) rfl) rfl rfl (Nat.le_of_ble_eq_true rfl) ?_
  refine m_cell hG (by omega) (by omega) ?_
  rw [c2]
  refine wp_istore d166_202 (Nat.le_of_ble_eq_true rfl) rfl ?_
  refine wp_iload d166_204 rfl ?_
  refine wz_bipush d166_206 (by decide) ?_
  refine wz_icmp_ge (t := 218) d166_208 (by decide) (⟨by omega, by omega⟩) (⟨by omega, by omega⟩) (fun hb => absurd hb (by omega)) (fun _ => ?_)
  refine wp_iload d166_211 rfl ?_
  refine wz_bipush d166_213 (by decide) ?_
  refine wz_icmp_lt (t := 341) d166_215 (by decide) (⟨by omega, by omega⟩) (⟨by omega, by omega⟩) (fun _ => ?_) (fun hb => absurd (by omega) hb)
  refine wp_aload_n d166_341 rfl ?_
  refine wp_getR (q := 83) d166_342 rfl (hG.o (by decide) rfl) (by decide) (hG.r (by decide +kernel)) (by decide) ?_
  refine wp_iload_n d166_345 rfl ?_
  refine wp_aload_n d166_346 rfl ?_
  refine wz_getI (v := G) d166_347 rfl (hG.o (by decide) rfl) (by decide) hg ?_
  refine wz_iast (z := 600) d166_350 (hG.a (by decide) rfl rfl) (by omega) (by omega) (by decide) ?_
  refine wp_iload d166_351 rfl ?_
  refine wz_bipush d166_353 (by decide) ?_
  refine wz_icmp_lt (t := 390) d166_355 (by decide) (⟨by omega, by omega⟩) (⟨by omega, by omega⟩) (fun hb355 => ?_) (fun hb355 => ?_)
  · skip
    exact k390
  · skip
    refine wp_iload d166_358 rfl ?_
    refine wz_bipush d166_360 (by decide) ?_
    refine wz_icmp_lt (t := 390) d166_362 (by decide) (⟨by omega, by omega⟩) (⟨by omega, by omega⟩) (fun hb362 => ?_) (fun hb362 => ?_)
    · skip
      exact k390
    · skip
      exfalso; omega
end PmM12
