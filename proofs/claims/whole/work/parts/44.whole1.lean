/-! THE MODEL: whole, what the parts came to. -/
def RS (N : pm_M) (u g : Int) : Rs → Prop
  | none => N 84 g = 0
  | some none => N 84 g = 2
  | some (some R) => N 84 g = 1 ∧ 0 ≤ N 85 g ∧ N 85 g < u ∧ 0 ≤ N 86 g ∧ N 86 g + (flat R).length ≤ 17 ∧ Row N (N 85 g) (N 86 g) (flat R) ∧ pre 1 (flat R) = true
def RL (N : pm_M) (u : Int) : Int → List Rs → Prop
  | _, [] => True
  | f, r :: rs => RS N u f r ∧ RL N u (f + 1) rs
def wn : Int → List Rs → Int
  | v, [] => v
  | _, none :: rs => wn 1 rs
  | v, some _ :: rs => wn v rs
def wl : Int → List Rs → Int
  | v, [] => v
  | v, none :: rs => wl v rs
  | _, some none :: rs => wl 1 rs
  | v, some (some _) :: rs => wl v rs
def wz : Int → List Rs → Int
  | v, [] => v
  | v, none :: rs => wz v rs
  | v, some none :: rs => wz v rs
  | v, some (some R) :: rs => wz (v + (flat R).length) rs
theorem mput_app (M : pm_M) (p : Nat) (b : Int) (x y : List Int) {c : Int} (hc : c = b + x.length) : mput (mput M p b x) p c y = mput M p b (x ++ y) := by
  subst hc
  funext q i
  unfold mput
  by_cases hq : q = p
  · subst hq
    simp only [List.length_append, true_and]
    by_cases h1 : b + x.length ≤ i ∧ i < b + x.length + y.length
    · rw [if_pos h1, if_pos ⟨by omega, by omega⟩, List.getD_eq_getElem?_getD, List.getD_eq_getElem?_getD, List.getElem?_append_right (by omega)]
      congr 2
      omega
    · rw [if_neg h1]
      by_cases h2 : b ≤ i ∧ i < b + x.length
      · rw [if_pos h2, if_pos ⟨by omega, by omega⟩, List.getD_eq_getElem?_getD, List.getD_eq_getElem?_getD, List.getElem?_append_left (by omega)]
      · rw [if_neg h2, if_neg (by omega)]
  · rw [if_neg (fun e => hq e.1), if_neg (fun e => hq e.1), if_neg (fun e => hq e.1)]
section PmM15
variable {d : Nat} {Q : Option Value → pm_S → Prop} {M N : pm_M} {Rf : Nat → Nat → Nat} {K L : Nat → Nat} {n s : Nat}
set_option maxRecDepth 20000 in
set_option maxHeartbeats 2000000 in
theorem whole_loop {u g f mn : Int} {o8 o9 : Option Value} (hG : pm_G Rf K L n) (hN : ∀ p i, R32 (N p i)) (u1 : u ≤ 1100) (f0 : 0 ≤ f) (m1 : f + mn ≤ 600) : ∀ (rs : List Rs) (i v4 v5 z : Int), RL N u (f + i) rs → mn = i + rs.length → 0 ≤ i → (v4 = 0 ∨ v4 = 1) → (v5 = 0 ∨ v5 = 1) → pm_Wp none (d + 2) 168 232 [some (.ref 56), some (.int (zI g)), some (.int (zI f)), some (.int (zI mn)), some (.int (zI (wn v4 rs))), some (.int (zI (wl v5 rs))), some (.int (zI (wz z rs))), some (.int (zI mn)), o8, o9] [] (zM N, Rf, K, L, n, s) Q → pm_Wp none (d + 2) 168 117 [some (.ref 56), some (.int (zI g)), some (.int (zI f)), some (.int (zI mn)), some (.int (zI v4)), some (.int (zI v5)), some (.int (zI z)), some (.int (zI i)), o8, o9] [] (zM N, Rf, K, L, n, s) Q
  | [], i, v4, v5, z, _, hmn, i0, _, _, h => by
    have hmn : mn = i := by rw [hmn]; simp
    subst hmn
    refine wp_iload d168_117 rfl ?_
    refine wp_iload_n d168_119 rfl ?_
    refine wz_icmp_ge (t := 232) d168_120 (by decide) (⟨by omega, by omega⟩) (⟨by omega, by omega⟩) (fun _ => ?_) (fun hb => absurd (by omega) hb)
    exact h
  | none :: rs, i, v4, v5, z, hr, hmn, i0, h4, h5, h => by
    rw [List.length_cons] at hmn
    obtain ⟨hr, hrs⟩ := hr
    rw [show f + i + 1 = f + (i + 1) by omega] at hrs
    have e4 : N 84 (f + i) = 0 := hr
    rcases h4 with rfl | rfl <;> rcases h5 with rfl | rfl
    · skip
      refine wp_iload d168_117 rfl ?_
      refine wp_iload_n d168_119 rfl ?_
      refine wz_icmp_ge (t := 232) d168_120 (by decide) (⟨by omega, by omega⟩) (⟨by omega, by omega⟩) (fun hb => absurd hb (by omega)) (fun _ => ?_)
      refine wp_iload d168_123 rfl ?_
      refine wz_if_ne (t := 140) d168_125 (by decide) (⟨by omega, by omega⟩) (fun hb => absurd (by decide) hb) (fun _ => ?_)
      refine wp_aload_n d168_128 rfl ?_
      refine wp_getR (q := 84) d168_129 rfl (hG.o (by decide) rfl) (by decide) (hG.r (by decide +kernel)) (by decide) ?_
      refine wp_iload_n d168_132 rfl ?_
      refine wp_iload d168_133 rfl ?_
      refine wz_iadd d168_135 ?_
      refine wz_iald (z := 600) (v := 0) d168_136 (hG.a (by decide) rfl rfl) (by omega) (by omega) (by decide) e4 ?_
      refine wz_if_ne (t := 144) d168_137 (by decide) (⟨by omega, by omega⟩) (fun hb => absurd (by decide) hb) (fun _ => ?_)
      refine wz_iconst d168_140 ?_
      refine wp_goto (t := 145) d168_141 (by decide) ?_
      refine wp_istore d168_145 (Nat.le_of_ble_eq_true rfl) rfl ?_
      refine wp_iload d168_147 rfl ?_
      refine wz_if_ne (t := 165) d168_149 (by decide) (⟨by omega, by omega⟩) (fun hb => absurd (by decide) hb) (fun _ => ?_)
      refine wp_aload_n d168_152 rfl ?_
      refine wp_getR (q := 84) d168_153 rfl (hG.o (by decide) rfl) (by decide) (hG.r (by decide +kernel)) (by decide) ?_
      refine wp_iload_n d168_156 rfl ?_
      refine wp_iload d168_157 rfl ?_
      refine wz_iadd d168_159 ?_
      refine wz_iald (z := 600) (v := 0) d168_160 (hG.a (by decide) rfl rfl) (by omega) (by omega) (by decide) e4 ?_
      refine wz_iconst d168_161 ?_
      refine wz_icmp_ne (t := 169) d168_162 (by decide) (⟨by omega, by omega⟩) (⟨by omega, by omega⟩) (fun _ => ?_) (fun hb => absurd hb (by decide))
      refine wz_iconst d168_169 ?_
      refine wp_istore d168_170 (Nat.le_of_ble_eq_true rfl) rfl ?_
      refine wp_iload d168_172 rfl ?_
      refine wp_aload_n d168_174 rfl ?_
      refine wp_getR (q := 84) d168_175 rfl (hG.o (by decide) rfl) (by decide) (hG.r (by decide +kernel)) (by decide) ?_
      refine wp_iload_n d168_178 rfl ?_
      refine wp_iload d168_179 rfl ?_
      refine wz_iadd d168_181 ?_
      refine wz_iald (z := 600) (v := 0) d168_182 (hG.a (by decide) rfl rfl) (by omega) (by omega) (by decide) e4 ?_
      refine wz_iconst d168_183 ?_
      refine wz_icmp_ne (t := 222) d168_184 (by decide) (⟨by omega, by omega⟩) (⟨by omega, by omega⟩) (fun _ => ?_) (fun hb => absurd hb (by decide))
      refine wz_iconst d168_222 ?_
      refine wz_iadd d168_223 ?_
      refine wp_istore d168_224 (Nat.le_of_ble_eq_true rfl) rfl ?_
      refine wz_iinc d168_226 rfl rfl ?_
      refine wp_goto (t := 117) d168_229 (by decide) ?_
      rw [Int.add_zero]
      exact whole_loop hG hN u1 f0 m1 rs (i + 1) 1 0 _ hrs (by omega) (by omega) (by decide) (by decide) h
    · skip
      refine wp_iload d168_117 rfl ?_
      refine wp_iload_n d168_119 rfl ?_
      refine wz_icmp_ge (t := 232) d168_120 (by decide) (⟨by omega, by omega⟩) (⟨by omega, by omega⟩) (fun hb => absurd hb (by omega)) (fun _ => ?_)
      refine wp_iload d168_123 rfl ?_
      refine wz_if_ne (t := 140) d168_125 (by decide) (⟨by omega, by omega⟩) (fun hb => absurd (by decide) hb) (fun _ => ?_)
      refine wp_aload_n d168_128 rfl ?_
      refine wp_getR (q := 84) d168_129 rfl (hG.o (by decide) rfl) (by decide) (hG.r (by decide +kernel)) (by decide) ?_
      refine wp_iload_n d168_132 rfl ?_
      refine wp_iload d168_133 rfl ?_
      refine wz_iadd d168_135 ?_
      refine wz_iald (z := 600) (v := 0) d168_136 (hG.a (by decide) rfl rfl) (by omega) (by omega) (by decide) e4 ?_
      refine wz_if_ne (t := 144) d168_137 (by decide) (⟨by omega, by omega⟩) (fun hb => absurd (by decide) hb) (fun _ => ?_)
      refine wz_iconst d168_140 ?_
      refine wp_goto (t := 145) d168_141 (by decide) ?_
      refine wp_istore d168_145 (Nat.le_of_ble_eq_true rfl) rfl ?_
      refine wp_iload d168_147 rfl ?_
      refine wz_if_ne (t := 165) d168_149 (by decide) (⟨by omega, by omega⟩) (fun _ => ?_) (fun hb => absurd hb (by decide))
      refine wz_iconst d168_165 ?_
      refine wp_goto (t := 170) d168_166 (by decide) ?_
      refine wp_istore d168_170 (Nat.le_of_ble_eq_true rfl) rfl ?_
      refine wp_iload d168_172 rfl ?_
      refine wp_aload_n d168_174 rfl ?_
      refine wp_getR (q := 84) d168_175 rfl (hG.o (by decide) rfl) (by decide) (hG.r (by decide +kernel)) (by decide) ?_
      refine wp_iload_n d168_178 rfl ?_
      refine wp_iload d168_179 rfl ?_
      refine wz_iadd d168_181 ?_
      refine wz_iald (z := 600) (v := 0) d168_182 (hG.a (by decide) rfl rfl) (by omega) (by omega) (by decide) e4 ?_
      refine wz_iconst d168_183 ?_
      refine wz_icmp_ne (t := 222) d168_184 (by decide) (⟨by omega, by omega⟩) (⟨by omega, by omega⟩) (fun _ => ?_) (fun hb => absurd hb (by decide))
      refine wz_iconst d168_222 ?_
      refine wz_iadd d168_223 ?_
      refine wp_istore d168_224 (Nat.le_of_ble_eq_true rfl) rfl ?_
      refine wz_iinc d168_226 rfl rfl ?_
      refine wp_goto (t := 117) d168_229 (by decide) ?_
      rw [Int.add_zero]
      exact whole_loop hG hN u1 f0 m1 rs (i + 1) 1 1 _ hrs (by omega) (by omega) (by decide) (by decide) h
    · skip
      refine wp_iload d168_117 rfl ?_
      refine wp_iload_n d168_119 rfl ?_
      refine wz_icmp_ge (t := 232) d168_120 (by decide) (⟨by omega, by omega⟩) (⟨by omega, by omega⟩) (fun hb => absurd hb (by omega)) (fun _ => ?_)
      refine wp_iload d168_123 rfl ?_
      refine wz_if_ne (t := 140) d168_125 (by decide) (⟨by omega, by omega⟩) (fun _ => ?_) (fun hb => absurd hb (by decide))
      refine wz_iconst d168_140 ?_
      refine wp_goto (t := 145) d168_141 (by decide) ?_
      refine wp_istore d168_145 (Nat.le_of_ble_eq_true rfl) rfl ?_
      refine wp_iload d168_147 rfl ?_
      refine wz_if_ne (t := 165) d168_149 (by decide) (⟨by omega, by omega⟩) (fun hb => absurd (by decide) hb) (fun _ => ?_)
      refine wp_aload_n d168_152 rfl ?_
      refine wp_getR (q := 84) d168_153 rfl (hG.o (by decide) rfl) (by decide) (hG.r (by decide +kernel)) (by decide) ?_
      refine wp_iload_n d168_156 rfl ?_
      refine wp_iload d168_157 rfl ?_
      refine wz_iadd d168_159 ?_
      refine wz_iald (z := 600) (v := 0) d168_160 (hG.a (by decide) rfl rfl) (by omega) (by omega) (by decide) e4 ?_
      refine wz_iconst d168_161 ?_
      refine wz_icmp_ne (t := 169) d168_162 (by decide) (⟨by omega, by omega⟩) (⟨by omega, by omega⟩) (fun _ => ?_) (fun hb => absurd hb (by decide))
      refine wz_iconst d168_169 ?_
      refine wp_istore d168_170 (Nat.le_of_ble_eq_true rfl) rfl ?_
      refine wp_iload d168_172 rfl ?_
      refine wp_aload_n d168_174 rfl ?_
      refine wp_getR (q := 84) d168_175 rfl (hG.o (by decide) rfl) (by decide) (hG.r (by decide +kernel)) (by decide) ?_
      refine wp_iload_n d168_178 rfl ?_
      refine wp_iload d168_179 rfl ?_
      refine wz_iadd d168_181 ?_
      refine wz_iald (z := 600) (v := 0) d168_182 (hG.a (by decide) rfl rfl) (by omega) (by omega) (by decide) e4 ?_
      refine wz_iconst d168_183 ?_
      refine wz_icmp_ne (t := 222) d168_184 (by decide) (⟨by omega, by omega⟩) (⟨by omega, by omega⟩) (fun _ => ?_) (fun hb => absurd hb (by decide))
      refine wz_iconst d168_222 ?_
      refine wz_iadd d168_223 ?_
      refine wp_istore d168_224 (Nat.le_of_ble_eq_true rfl) rfl ?_
      refine wz_iinc d168_226 rfl rfl ?_
      refine wp_goto (t := 117) d168_229 (by decide) ?_
      rw [Int.add_zero]
      exact whole_loop hG hN u1 f0 m1 rs (i + 1) 1 0 _ hrs (by omega) (by omega) (by decide) (by decide) h
    · skip
      refine wp_iload d168_117 rfl ?_
      refine wp_iload_n d168_119 rfl ?_
      refine wz_icmp_ge (t := 232) d168_120 (by decide) (⟨by omega, by omega⟩) (⟨by omega, by omega⟩) (fun hb => absurd hb (by omega)) (fun _ => ?_)
      refine wp_iload d168_123 rfl ?_
      refine wz_if_ne (t := 140) d168_125 (by decide) (⟨by omega, by omega⟩) (fun _ => ?_) (fun hb => absurd hb (by decide))
      refine wz_iconst d168_140 ?_
      refine wp_goto (t := 145) d168_141 (by decide) ?_
      refine wp_istore d168_145 (Nat.le_of_ble_eq_true rfl) rfl ?_
      refine wp_iload d168_147 rfl ?_
      refine wz_if_ne (t := 165) d168_149 (by decide) (⟨by omega, by omega⟩) (fun _ => ?_) (fun hb => absurd hb (by decide))
      refine wz_iconst d168_165 ?_
      refine wp_goto (t := 170) d168_166 (by decide) ?_
      refine wp_istore d168_170 (Nat.le_of_ble_eq_true rfl) rfl ?_
      refine wp_iload d168_172 rfl ?_
      refine wp_aload_n d168_174 rfl ?_
      refine wp_getR (q := 84) d168_175 rfl (hG.o (by decide) rfl) (by decide) (hG.r (by decide +kernel)) (by decide) ?_
      refine wp_iload_n d168_178 rfl ?_
      refine wp_iload d168_179 rfl ?_
      refine wz_iadd d168_181 ?_
      refine wz_iald (z := 600) (v := 0) d168_182 (hG.a (by decide) rfl rfl) (by omega) (by omega) (by decide) e4 ?_
      refine wz_iconst d168_183 ?_
      refine wz_icmp_ne (t := 222) d168_184 (by decide) (⟨by omega, by omega⟩) (⟨by omega, by omega⟩) (fun _ => ?_) (fun hb => absurd hb (by decide))
      refine wz_iconst d168_222 ?_
      refine wz_iadd d168_223 ?_
      refine wp_istore d168_224 (Nat.le_of_ble_eq_true rfl) rfl ?_
      refine wz_iinc d168_226 rfl rfl ?_
      refine wp_goto (t := 117) d168_229 (by decide) ?_
      rw [Int.add_zero]
      exact whole_loop hG hN u1 f0 m1 rs (i + 1) 1 1 _ hrs (by omega) (by omega) (by decide) (by decide) h
  | (some none) :: rs, i, v4, v5, z, hr, hmn, i0, h4, h5, h => by
    rw [List.length_cons] at hmn
    obtain ⟨hr, hrs⟩ := hr
    rw [show f + i + 1 = f + (i + 1) by omega] at hrs
    have e4 : N 84 (f + i) = 2 := hr
    rcases h4 with rfl | rfl <;> rcases h5 with rfl | rfl
    · skip
      refine wp_iload d168_117 rfl ?_
      refine wp_iload_n d168_119 rfl ?_
      refine wz_icmp_ge (t := 232) d168_120 (by decide) (⟨by omega, by omega⟩) (⟨by omega, by omega⟩) (fun hb => absurd hb (by omega)) (fun _ => ?_)
      refine wp_iload d168_123 rfl ?_
      refine wz_if_ne (t := 140) d168_125 (by decide) (⟨by omega, by omega⟩) (fun hb => absurd (by decide) hb) (fun _ => ?_)
      refine wp_aload_n d168_128 rfl ?_
      refine wp_getR (q := 84) d168_129 rfl (hG.o (by decide) rfl) (by decide) (hG.r (by decide +kernel)) (by decide) ?_
      refine wp_iload_n d168_132 rfl ?_
      refine wp_iload d168_133 rfl ?_
      refine wz_iadd d168_135 ?_
      refine wz_iald (z := 600) (v := 2) d168_136 (hG.a (by decide) rfl rfl) (by omega) (by omega) (by decide) e4 ?_
      refine wz_if_ne (t := 144) d168_137 (by decide) (⟨by omega, by omega⟩) (fun _ => ?_) (fun hb => absurd hb (by decide))
      refine wz_iconst d168_144 ?_
      refine wp_istore d168_145 (Nat.le_of_ble_eq_true rfl) rfl ?_
      refine wp_iload d168_147 rfl ?_
      refine wz_if_ne (t := 165) d168_149 (by decide) (⟨by omega, by omega⟩) (fun hb => absurd (by decide) hb) (fun _ => ?_)
      refine wp_aload_n d168_152 rfl ?_
      refine wp_getR (q := 84) d168_153 rfl (hG.o (by decide) rfl) (by decide) (hG.r (by decide +kernel)) (by decide) ?_
      refine wp_iload_n d168_156 rfl ?_
      refine wp_iload d168_157 rfl ?_
      refine wz_iadd d168_159 ?_
      refine wz_iald (z := 600) (v := 2) d168_160 (hG.a (by decide) rfl rfl) (by omega) (by omega) (by decide) e4 ?_
      refine wz_iconst d168_161 ?_
      refine wz_icmp_ne (t := 169) d168_162 (by decide) (⟨by omega, by omega⟩) (⟨by omega, by omega⟩) (fun hb => absurd (by decide) hb) (fun _ => ?_)
      refine wz_iconst d168_165 ?_
      refine wp_goto (t := 170) d168_166 (by decide) ?_
      refine wp_istore d168_170 (Nat.le_of_ble_eq_true rfl) rfl ?_
      refine wp_iload d168_172 rfl ?_
      refine wp_aload_n d168_174 rfl ?_
      refine wp_getR (q := 84) d168_175 rfl (hG.o (by decide) rfl) (by decide) (hG.r (by decide +kernel)) (by decide) ?_
      refine wp_iload_n d168_178 rfl ?_
      refine wp_iload d168_179 rfl ?_
      refine wz_iadd d168_181 ?_
      refine wz_iald (z := 600) (v := 2) d168_182 (hG.a (by decide) rfl rfl) (by omega) (by omega) (by decide) e4 ?_
      refine wz_iconst d168_183 ?_
      refine wz_icmp_ne (t := 222) d168_184 (by decide) (⟨by omega, by omega⟩) (⟨by omega, by omega⟩) (fun _ => ?_) (fun hb => absurd hb (by decide))
      refine wz_iconst d168_222 ?_
      refine wz_iadd d168_223 ?_
      refine wp_istore d168_224 (Nat.le_of_ble_eq_true rfl) rfl ?_
      refine wz_iinc d168_226 rfl rfl ?_
      refine wp_goto (t := 117) d168_229 (by decide) ?_
      rw [Int.add_zero]
      exact whole_loop hG hN u1 f0 m1 rs (i + 1) 0 1 _ hrs (by omega) (by omega) (by decide) (by decide) h
    · skip
      refine wp_iload d168_117 rfl ?_
      refine wp_iload_n d168_119 rfl ?_
      refine wz_icmp_ge (t := 232) d168_120 (by decide) (⟨by omega, by omega⟩) (⟨by omega, by omega⟩) (fun hb => absurd hb (by omega)) (fun _ => ?_)
      refine wp_iload d168_123 rfl ?_
      refine wz_if_ne (t := 140) d168_125 (by decide) (⟨by omega, by omega⟩) (fun hb => absurd (by decide) hb) (fun _ => ?_)
      refine wp_aload_n d168_128 rfl ?_
      refine wp_getR (q := 84) d168_129 rfl (hG.o (by decide) rfl) (by decide) (hG.r (by decide +kernel)) (by decide) ?_
      refine wp_iload_n d168_132 rfl ?_
      refine wp_iload d168_133 rfl ?_
      refine wz_iadd d168_135 ?_
      refine wz_iald (z := 600) (v := 2) d168_136 (hG.a (by decide) rfl rfl) (by omega) (by omega) (by decide) e4 ?_
      refine wz_if_ne (t := 144) d168_137 (by decide) (⟨by omega, by omega⟩) (fun _ => ?_) (fun hb => absurd hb (by decide))
      refine wz_iconst d168_144 ?_
      refine wp_istore d168_145 (Nat.le_of_ble_eq_true rfl) rfl ?_
      refine wp_iload d168_147 rfl ?_
      refine wz_if_ne (t := 165) d168_149 (by decide) (⟨by omega, by omega⟩) (fun _ => ?_) (fun hb => absurd hb (by decide))
      refine wz_iconst d168_165 ?_
      refine wp_goto (t := 170) d168_166 (by decide) ?_
      refine wp_istore d168_170 (Nat.le_of_ble_eq_true rfl) rfl ?_
      refine wp_iload d168_172 rfl ?_
      refine wp_aload_n d168_174 rfl ?_
      refine wp_getR (q := 84) d168_175 rfl (hG.o (by decide) rfl) (by decide) (hG.r (by decide +kernel)) (by decide) ?_
      refine wp_iload_n d168_178 rfl ?_
      refine wp_iload d168_179 rfl ?_
      refine wz_iadd d168_181 ?_
      refine wz_iald (z := 600) (v := 2) d168_182 (hG.a (by decide) rfl rfl) (by omega) (by omega) (by decide) e4 ?_
      refine wz_iconst d168_183 ?_
      refine wz_icmp_ne (t := 222) d168_184 (by decide) (⟨by omega, by omega⟩) (⟨by omega, by omega⟩) (fun _ => ?_) (fun hb => absurd hb (by decide))
      refine wz_iconst d168_222 ?_
      refine wz_iadd d168_223 ?_
      refine wp_istore d168_224 (Nat.le_of_ble_eq_true rfl) rfl ?_
      refine wz_iinc d168_226 rfl rfl ?_
      refine wp_goto (t := 117) d168_229 (by decide) ?_
      rw [Int.add_zero]
      exact whole_loop hG hN u1 f0 m1 rs (i + 1) 0 1 _ hrs (by omega) (by omega) (by decide) (by decide) h
    · skip
      refine wp_iload d168_117 rfl ?_
      refine wp_iload_n d168_119 rfl ?_
      refine wz_icmp_ge (t := 232) d168_120 (by decide) (⟨by omega, by omega⟩) (⟨by omega, by omega⟩) (fun hb => absurd hb (by omega)) (fun _ => ?_)
      refine wp_iload d168_123 rfl ?_
      refine wz_if_ne (t := 140) d168_125 (by decide) (⟨by omega, by omega⟩) (fun _ => ?_) (fun hb => absurd hb (by decide))
      refine wz_iconst d168_140 ?_
      refine wp_goto (t := 145) d168_141 (by decide) ?_
      refine wp_istore d168_145 (Nat.le_of_ble_eq_true rfl) rfl ?_
      refine wp_iload d168_147 rfl ?_
      refine wz_if_ne (t := 165) d168_149 (by decide) (⟨by omega, by omega⟩) (fun hb => absurd (by decide) hb) (fun _ => ?_)
      refine wp_aload_n d168_152 rfl ?_
      refine wp_getR (q := 84) d168_153 rfl (hG.o (by decide) rfl) (by decide) (hG.r (by decide +kernel)) (by decide) ?_
      refine wp_iload_n d168_156 rfl ?_
      refine wp_iload d168_157 rfl ?_
      refine wz_iadd d168_159 ?_
      refine wz_iald (z := 600) (v := 2) d168_160 (hG.a (by decide) rfl rfl) (by omega) (by omega) (by decide) e4 ?_
      refine wz_iconst d168_161 ?_
      refine wz_icmp_ne (t := 169) d168_162 (by decide) (⟨by omega, by omega⟩) (⟨by omega, by omega⟩) (fun hb => absurd (by decide) hb) (fun _ => ?_)
      refine wz_iconst d168_165 ?_
      refine wp_goto (t := 170) d168_166 (by decide) ?_
      refine wp_istore d168_170 (Nat.le_of_ble_eq_true rfl) rfl ?_
      refine wp_iload d168_172 rfl ?_
      refine wp_aload_n d168_174 rfl ?_
      refine wp_getR (q := 84) d168_175 rfl (hG.o (by decide) rfl) (by decide) (hG.r (by decide +kernel)) (by decide) ?_
      refine wp_iload_n d168_178 rfl ?_
      refine wp_iload d168_179 rfl ?_
      refine wz_iadd d168_181 ?_
      refine wz_iald (z := 600) (v := 2) d168_182 (hG.a (by decide) rfl rfl) (by omega) (by omega) (by decide) e4 ?_
      refine wz_iconst d168_183 ?_
      refine wz_icmp_ne (t := 222) d168_184 (by decide) (⟨by omega, by omega⟩) (⟨by omega, by omega⟩) (fun _ => ?_) (fun hb => absurd hb (by decide))
      refine wz_iconst d168_222 ?_
      refine wz_iadd d168_223 ?_
      refine wp_istore d168_224 (Nat.le_of_ble_eq_true rfl) rfl ?_
      refine wz_iinc d168_226 rfl rfl ?_
      refine wp_goto (t := 117) d168_229 (by decide) ?_
      rw [Int.add_zero]
      exact whole_loop hG hN u1 f0 m1 rs (i + 1) 1 1 _ hrs (by omega) (by omega) (by decide) (by decide) h
    · skip
      refine wp_iload d168_117 rfl ?_
      refine wp_iload_n d168_119 rfl ?_
      refine wz_icmp_ge (t := 232) d168_120 (by decide) (⟨by omega, by omega⟩) (⟨by omega, by omega⟩) (fun hb => absurd hb (by omega)) (fun _ => ?_)
      refine wp_iload d168_123 rfl ?_
      refine wz_if_ne (t := 140) d168_125 (by decide) (⟨by omega, by omega⟩) (fun _ => ?_) (fun hb => absurd hb (by decide))
      refine wz_iconst d168_140 ?_
      refine wp_goto (t := 145) d168_141 (by decide) ?_
      refine wp_istore d168_145 (Nat.le_of_ble_eq_true rfl) rfl ?_
      refine wp_iload d168_147 rfl ?_
      refine wz_if_ne (t := 165) d168_149 (by decide) (⟨by omega, by omega⟩) (fun _ => ?_) (fun hb => absurd hb (by decide))
      refine wz_iconst d168_165 ?_
      refine wp_goto (t := 170) d168_166 (by decide) ?_
      refine wp_istore d168_170 (Nat.le_of_ble_eq_true rfl) rfl ?_
      refine wp_iload d168_172 rfl ?_
      refine wp_aload_n d168_174 rfl ?_
      refine wp_getR (q := 84) d168_175 rfl (hG.o (by decide) rfl) (by decide) (hG.r (by decide +kernel)) (by decide) ?_
      refine wp_iload_n d168_178 rfl ?_
      refine wp_iload d168_179 rfl ?_
      refine wz_iadd d168_181 ?_
      refine wz_iald (z := 600) (v := 2) d168_182 (hG.a (by decide) rfl rfl) (by omega) (by omega) (by decide) e4 ?_
      refine wz_iconst d168_183 ?_
      refine wz_icmp_ne (t := 222) d168_184 (by decide) (⟨by omega, by omega⟩) (⟨by omega, by omega⟩) (fun _ => ?_) (fun hb => absurd hb (by decide))
      refine wz_iconst d168_222 ?_
      refine wz_iadd d168_223 ?_
      refine wp_istore d168_224 (Nat.le_of_ble_eq_true rfl) rfl ?_
      refine wz_iinc d168_226 rfl rfl ?_
      refine wp_goto (t := 117) d168_229 (by decide) ?_
      rw [Int.add_zero]
      exact whole_loop hG hN u1 f0 m1 rs (i + 1) 1 1 _ hrs (by omega) (by omega) (by decide) (by decide) h
  | (some (some R)) :: rs, i, v4, v5, z, hr, hmn, i0, h4, h5, h => by
    rw [List.length_cons] at hmn
    obtain ⟨hr, hrs⟩ := hr
    rw [show f + i + 1 = f + (i + 1) by omega] at hrs
    obtain ⟨e4, b0, b1, b2, b3, b4, b5⟩ := hr
    obtain ⟨rw1, e5⟩ : ∃ v, N 85 (f + i) = v := ⟨_, rfl⟩
    obtain ⟨at1, e6⟩ : ∃ v, N 86 (f + i) = v := ⟨_, rfl⟩
    rw [e5] at b0 b1 b4
    rw [e6] at b2 b3 b4
    rcases h4 with rfl | rfl <;> rcases h5 with rfl | rfl
    · skip
      refine wp_iload d168_117 rfl ?_
      refine wp_iload_n d168_119 rfl ?_
      refine wz_icmp_ge (t := 232) d168_120 (by decide) (⟨by omega, by omega⟩) (⟨by omega, by omega⟩) (fun hb => absurd hb (by omega)) (fun _ => ?_)
      refine wp_iload d168_123 rfl ?_
      refine wz_if_ne (t := 140) d168_125 (by decide) (⟨by omega, by omega⟩) (fun hb => absurd (by decide) hb) (fun _ => ?_)
      refine wp_aload_n d168_128 rfl ?_
      refine wp_getR (q := 84) d168_129 rfl (hG.o (by decide) rfl) (by decide) (hG.r (by decide +kernel)) (by decide) ?_
      refine wp_iload_n d168_132 rfl ?_
      refine wp_iload d168_133 rfl ?_
      refine wz_iadd d168_135 ?_
      refine wz_iald (z := 600) (v := 1) d168_136 (hG.a (by decide) rfl rfl) (by omega) (by omega) (by decide) e4 ?_
      refine wz_if_ne (t := 144) d168_137 (by decide) (⟨by omega, by omega⟩) (fun _ => ?_) (fun hb => absurd hb (by decide))
      refine wz_iconst d168_144 ?_
      refine wp_istore d168_145 (Nat.le_of_ble_eq_true rfl) rfl ?_
      refine wp_iload d168_147 rfl ?_
      refine wz_if_ne (t := 165) d168_149 (by decide) (⟨by omega, by omega⟩) (fun hb => absurd (by decide) hb) (fun _ => ?_)
      refine wp_aload_n d168_152 rfl ?_
      refine wp_getR (q := 84) d168_153 rfl (hG.o (by decide) rfl) (by decide) (hG.r (by decide +kernel)) (by decide) ?_
      refine wp_iload_n d168_156 rfl ?_
      refine wp_iload d168_157 rfl ?_
      refine wz_iadd d168_159 ?_
      refine wz_iald (z := 600) (v := 1) d168_160 (hG.a (by decide) rfl rfl) (by omega) (by omega) (by decide) e4 ?_
      refine wz_iconst d168_161 ?_
      refine wz_icmp_ne (t := 169) d168_162 (by decide) (⟨by omega, by omega⟩) (⟨by omega, by omega⟩) (fun _ => ?_) (fun hb => absurd hb (by decide))
      refine wz_iconst d168_169 ?_
      refine wp_istore d168_170 (Nat.le_of_ble_eq_true rfl) rfl ?_
      refine wp_iload d168_172 rfl ?_
      refine wp_aload_n d168_174 rfl ?_
      refine wp_getR (q := 84) d168_175 rfl (hG.o (by decide) rfl) (by decide) (hG.r (by decide +kernel)) (by decide) ?_
      refine wp_iload_n d168_178 rfl ?_
      refine wp_iload d168_179 rfl ?_
      refine wz_iadd d168_181 ?_
      refine wz_iald (z := 600) (v := 1) d168_182 (hG.a (by decide) rfl rfl) (by omega) (by omega) (by decide) e4 ?_
      refine wz_iconst d168_183 ?_
      refine wz_icmp_ne (t := 222) d168_184 (by decide) (⟨by omega, by omega⟩) (⟨by omega, by omega⟩) (fun hb => absurd (by decide) hb) (fun _ => ?_)
      refine wp_aload_n d168_187 rfl ?_
      refine wp_aload_n d168_188 rfl ?_
      refine wp_getR (q := 85) d168_189 rfl (hG.o (by decide) rfl) (by decide) (hG.r (by decide +kernel)) (by decide) ?_
      refine wp_iload_n d168_192 rfl ?_
      refine wp_iload d168_193 rfl ?_
      refine wz_iadd d168_195 ?_
      refine wz_iald (z := 600) (v := rw1) d168_196 (hG.a (by decide) rfl rfl) (by omega) (by omega) (by decide) e5 ?_
      refine wp_aload_n d168_197 rfl ?_
      refine wp_getR (q := 86) d168_198 rfl (hG.o (by decide) rfl) (by decide) (hG.r (by decide +kernel)) (by decide) ?_
      refine wp_iload_n d168_201 rfl ?_
      refine wp_iload d168_202 rfl ?_
      refine wz_iadd d168_204 ?_
      refine wz_iald (z := 600) (v := at1) d168_205 (hG.a (by decide) rfl rfl) (by omega) (by omega) (by decide) e6 ?_
      refine wp_virt (as := [.int (zI (at1)), .int (zI (rw1))]) (rest := [.int (zI (z))]) d168_206 rfl rfl rfl (hG.o (by decide) rfl) rfl rfl (Nat.le_of_ble_eq_true rfl) ?_
      refine m_end (l := flat R) hG hN b0 (by omega) b2 b3 b4 b5 ?_
      refine wp_aload_n d168_209 rfl ?_
      refine wp_getR (q := 86) d168_210 rfl (hG.o (by decide) rfl) (by decide) (hG.r (by decide +kernel)) (by decide) ?_
      refine wp_iload_n d168_213 rfl ?_
      refine wp_iload d168_214 rfl ?_
      refine wz_iadd d168_216 ?_
      refine wz_iald (z := 600) (v := at1) d168_217 (hG.a (by decide) rfl rfl) (by omega) (by omega) (by decide) e6 ?_
      refine wz_isub d168_218 ?_
      refine wp_goto (t := 223) d168_219 (by decide) ?_
      refine wz_iadd d168_223 ?_
      refine wp_istore d168_224 (Nat.le_of_ble_eq_true rfl) rfl ?_
      refine wz_iinc d168_226 rfl rfl ?_
      refine wp_goto (t := 117) d168_229 (by decide) ?_
      rw [show z + (at1 + ((flat R).length : Int) - at1) = z + (flat R).length by omega]
      exact whole_loop hG hN u1 f0 m1 rs (i + 1) 0 0 _ hrs (by omega) (by omega) (by decide) (by decide) h
    · skip
      refine wp_iload d168_117 rfl ?_
      refine wp_iload_n d168_119 rfl ?_
      refine wz_icmp_ge (t := 232) d168_120 (by decide) (⟨by omega, by omega⟩) (⟨by omega, by omega⟩) (fun hb => absurd hb (by omega)) (fun _ => ?_)
      refine wp_iload d168_123 rfl ?_
      refine wz_if_ne (t := 140) d168_125 (by decide) (⟨by omega, by omega⟩) (fun hb => absurd (by decide) hb) (fun _ => ?_)
      refine wp_aload_n d168_128 rfl ?_
      refine wp_getR (q := 84) d168_129 rfl (hG.o (by decide) rfl) (by decide) (hG.r (by decide +kernel)) (by decide) ?_
      refine wp_iload_n d168_132 rfl ?_
      refine wp_iload d168_133 rfl ?_
      refine wz_iadd d168_135 ?_
      refine wz_iald (z := 600) (v := 1) d168_136 (hG.a (by decide) rfl rfl) (by omega) (by omega) (by decide) e4 ?_
      refine wz_if_ne (t := 144) d168_137 (by decide) (⟨by omega, by omega⟩) (fun _ => ?_) (fun hb => absurd hb (by decide))
      refine wz_iconst d168_144 ?_
      refine wp_istore d168_145 (Nat.le_of_ble_eq_true rfl) rfl ?_
      refine wp_iload d168_147 rfl ?_
      refine wz_if_ne (t := 165) d168_149 (by decide) (⟨by omega, by omega⟩) (fun _ => ?_) (fun hb => absurd hb (by decide))
      refine wz_iconst d168_165 ?_
      refine wp_goto (t := 170) d168_166 (by decide) ?_
      refine wp_istore d168_170 (Nat.le_of_ble_eq_true rfl) rfl ?_
      refine wp_iload d168_172 rfl ?_
      refine wp_aload_n d168_174 rfl ?_
      refine wp_getR (q := 84) d168_175 rfl (hG.o (by decide) rfl) (by decide) (hG.r (by decide +kernel)) (by decide) ?_
      refine wp_iload_n d168_178 rfl ?_
      refine wp_iload d168_179 rfl ?_
      refine wz_iadd d168_181 ?_
      refine wz_iald (z := 600) (v := 1) d168_182 (hG.a (by decide) rfl rfl) (by omega) (by omega) (by decide) e4 ?_
      refine wz_iconst d168_183 ?_
      refine wz_icmp_ne (t := 222) d168_184 (by decide) (⟨by omega, by omega⟩) (⟨by omega, by omega⟩) (fun hb => absurd (by decide) hb) (fun _ => ?_)
      refine wp_aload_n d168_187 rfl ?_
      refine wp_aload_n d168_188 rfl ?_
      refine wp_getR (q := 85) d168_189 rfl (hG.o (by decide) rfl) (by decide) (hG.r (by decide +kernel)) (by decide) ?_
      refine wp_iload_n d168_192 rfl ?_
      refine wp_iload d168_193 rfl ?_
      refine wz_iadd d168_195 ?_
      refine wz_iald (z := 600) (v := rw1) d168_196 (hG.a (by decide) rfl rfl) (by omega) (by omega) (by decide) e5 ?_
      refine wp_aload_n d168_197 rfl ?_
      refine wp_getR (q := 86) d168_198 rfl (hG.o (by decide) rfl) (by decide) (hG.r (by decide +kernel)) (by decide) ?_
      refine wp_iload_n d168_201 rfl ?_
      refine wp_iload d168_202 rfl ?_
      refine wz_iadd d168_204 ?_
      refine wz_iald (z := 600) (v := at1) d168_205 (hG.a (by decide) rfl rfl) (by omega) (by omega) (by decide) e6 ?_
      refine wp_virt (as := [.int (zI (at1)), .int (zI (rw1))]) (rest := [.int (zI (z))]) d168_206 rfl rfl rfl (hG.o (by decide) rfl) rfl rfl (Nat.le_of_ble_eq_true rfl) ?_
      refine m_end (l := flat R) hG hN b0 (by omega) b2 b3 b4 b5 ?_
      refine wp_aload_n d168_209 rfl ?_
      refine wp_getR (q := 86) d168_210 rfl (hG.o (by decide) rfl) (by decide) (hG.r (by decide +kernel)) (by decide) ?_
      refine wp_iload_n d168_213 rfl ?_
      refine wp_iload d168_214 rfl ?_
      refine wz_iadd d168_216 ?_
      refine wz_iald (z := 600) (v := at1) d168_217 (hG.a (by decide) rfl rfl) (by omega) (by omega) (by decide) e6 ?_
      refine wz_isub d168_218 ?_
      refine wp_goto (t := 223) d168_219 (by decide) ?_
      refine wz_iadd d168_223 ?_
      refine wp_istore d168_224 (Nat.le_of_ble_eq_true rfl) rfl ?_
      refine wz_iinc d168_226 rfl rfl ?_
      refine wp_goto (t := 117) d168_229 (by decide) ?_
      rw [show z + (at1 + ((flat R).length : Int) - at1) = z + (flat R).length by omega]
      exact whole_loop hG hN u1 f0 m1 rs (i + 1) 0 1 _ hrs (by omega) (by omega) (by decide) (by decide) h
    · skip
      refine wp_iload d168_117 rfl ?_
      refine wp_iload_n d168_119 rfl ?_
      refine wz_icmp_ge (t := 232) d168_120 (by decide) (⟨by omega, by omega⟩) (⟨by omega, by omega⟩) (fun hb => absurd hb (by omega)) (fun _ => ?_)
      refine wp_iload d168_123 rfl ?_
      refine wz_if_ne (t := 140) d168_125 (by decide) (⟨by omega, by omega⟩) (fun _ => ?_) (fun hb => absurd hb (by decide))
      refine wz_iconst d168_140 ?_
      refine wp_goto (t := 145) d168_141 (by decide) ?_
      refine wp_istore d168_145 (Nat.le_of_ble_eq_true rfl) rfl ?_
      refine wp_iload d168_147 rfl ?_
      refine wz_if_ne (t := 165) d168_149 (by decide) (⟨by omega, by omega⟩) (fun hb => absurd (by decide) hb) (fun _ => ?_)
      refine wp_aload_n d168_152 rfl ?_
      refine wp_getR (q := 84) d168_153 rfl (hG.o (by decide) rfl) (by decide) (hG.r (by decide +kernel)) (by decide) ?_
      refine wp_iload_n d168_156 rfl ?_
      refine wp_iload d168_157 rfl ?_
      refine wz_iadd d168_159 ?_
      refine wz_iald (z := 600) (v := 1) d168_160 (hG.a (by decide) rfl rfl) (by omega) (by omega) (by decide) e4 ?_
      refine wz_iconst d168_161 ?_
      refine wz_icmp_ne (t := 169) d168_162 (by decide) (⟨by omega, by omega⟩) (⟨by omega, by omega⟩) (fun _ => ?_) (fun hb => absurd hb (by decide))
      refine wz_iconst d168_169 ?_
      refine wp_istore d168_170 (Nat.le_of_ble_eq_true rfl) rfl ?_
      refine wp_iload d168_172 rfl ?_
      refine wp_aload_n d168_174 rfl ?_
      refine wp_getR (q := 84) d168_175 rfl (hG.o (by decide) rfl) (by decide) (hG.r (by decide +kernel)) (by decide) ?_
      refine wp_iload_n d168_178 rfl ?_
      refine wp_iload d168_179 rfl ?_
      refine wz_iadd d168_181 ?_
      refine wz_iald (z := 600) (v := 1) d168_182 (hG.a (by decide) rfl rfl) (by omega) (by omega) (by decide) e4 ?_
      refine wz_iconst d168_183 ?_
      refine wz_icmp_ne (t := 222) d168_184 (by decide) (⟨by omega, by omega⟩) (⟨by omega, by omega⟩) (fun hb => absurd (by decide) hb) (fun _ => ?_)
      refine wp_aload_n d168_187 rfl ?_
      refine wp_aload_n d168_188 rfl ?_
      refine wp_getR (q := 85) d168_189 rfl (hG.o (by decide) rfl) (by decide) (hG.r (by decide +kernel)) (by decide) ?_
      refine wp_iload_n d168_192 rfl ?_
      refine wp_iload d168_193 rfl ?_
      refine wz_iadd d168_195 ?_
      refine wz_iald (z := 600) (v := rw1) d168_196 (hG.a (by decide) rfl rfl) (by omega) (by omega) (by decide) e5 ?_
      refine wp_aload_n d168_197 rfl ?_
      refine wp_getR (q := 86) d168_198 rfl (hG.o (by decide) rfl) (by decide) (hG.r (by decide +kernel)) (by decide) ?_
      refine wp_iload_n d168_201 rfl ?_
      refine wp_iload d168_202 rfl ?_
      refine wz_iadd d168_204 ?_
      refine wz_iald (z := 600) (v := at1) d168_205 (hG.a (by decide) rfl rfl) (by omega) (by omega) (by decide) e6 ?_
      refine wp_virt (as := [.int (zI (at1)), .int (zI (rw1))]) (rest := [.int (zI (z))]) d168_206 rfl rfl rfl (hG.o (by decide) rfl) rfl rfl (Nat.le_of_ble_eq_true rfl) ?_
      refine m_end (l := flat R) hG hN b0 (by omega) b2 b3 b4 b5 ?_
      refine wp_aload_n d168_209 rfl ?_
      refine wp_getR (q := 86) d168_210 rfl (hG.o (by decide) rfl) (by decide) (hG.r (by decide +kernel)) (by decide) ?_
      refine wp_iload_n d168_213 rfl ?_
      refine wp_iload d168_214 rfl ?_
      refine wz_iadd d168_216 ?_
      refine wz_iald (z := 600) (v := at1) d168_217 (hG.a (by decide) rfl rfl) (by omega) (by omega) (by decide) e6 ?_
      refine wz_isub d168_218 ?_
      refine wp_goto (t := 223) d168_219 (by decide) ?_
      refine wz_iadd d168_223 ?_
      refine wp_istore d168_224 (Nat.le_of_ble_eq_true rfl) rfl ?_
      refine wz_iinc d168_226 rfl rfl ?_
      refine wp_goto (t := 117) d168_229 (by decide) ?_
      rw [show z + (at1 + ((flat R).length : Int) - at1) = z + (flat R).length by omega]
      exact whole_loop hG hN u1 f0 m1 rs (i + 1) 1 0 _ hrs (by omega) (by omega) (by decide) (by decide) h
    · skip
      refine wp_iload d168_117 rfl ?_
      refine wp_iload_n d168_119 rfl ?_
      refine wz_icmp_ge (t := 232) d168_120 (by decide) (⟨by omega, by omega⟩) (⟨by omega, by omega⟩) (fun hb => absurd hb (by omega)) (fun _ => ?_)
      refine wp_iload d168_123 rfl ?_
      refine wz_if_ne (t := 140) d168_125 (by decide) (⟨by omega, by omega⟩) (fun _ => ?_) (fun hb => absurd hb (by decide))
      refine wz_iconst d168_140 ?_
      refine wp_goto (t := 145) d168_141 (by decide) ?_
      refine wp_istore d168_145 (Nat.le_of_ble_eq_true rfl) rfl ?_
      refine wp_iload d168_147 rfl ?_
      refine wz_if_ne (t := 165) d168_149 (by decide) (⟨by omega, by omega⟩) (fun _ => ?_) (fun hb => absurd hb (by decide))
      refine wz_iconst d168_165 ?_
      refine wp_goto (t := 170) d168_166 (by decide) ?_
      refine wp_istore d168_170 (Nat.le_of_ble_eq_true rfl) rfl ?_
      refine wp_iload d168_172 rfl ?_
      refine wp_aload_n d168_174 rfl ?_
      refine wp_getR (q := 84) d168_175 rfl (hG.o (by decide) rfl) (by decide) (hG.r (by decide +kernel)) (by decide) ?_
      refine wp_iload_n d168_178 rfl ?_
      refine wp_iload d168_179 rfl ?_
      refine wz_iadd d168_181 ?_
      refine wz_iald (z := 600) (v := 1) d168_182 (hG.a (by decide) rfl rfl) (by omega) (by omega) (by decide) e4 ?_
      refine wz_iconst d168_183 ?_
      refine wz_icmp_ne (t := 222) d168_184 (by decide) (⟨by omega, by omega⟩) (⟨by omega, by omega⟩) (fun hb => absurd (by decide) hb) (fun _ => ?_)
      refine wp_aload_n d168_187 rfl ?_
      refine wp_aload_n d168_188 rfl ?_
      refine wp_getR (q := 85) d168_189 rfl (hG.o (by decide) rfl) (by decide) (hG.r (by decide +kernel)) (by decide) ?_
      refine wp_iload_n d168_192 rfl ?_
      refine wp_iload d168_193 rfl ?_
      refine wz_iadd d168_195 ?_
      refine wz_iald (z := 600) (v := rw1) d168_196 (hG.a (by decide) rfl rfl) (by omega) (by omega) (by decide) e5 ?_
      refine wp_aload_n d168_197 rfl ?_
      refine wp_getR (q := 86) d168_198 rfl (hG.o (by decide) rfl) (by decide) (hG.r (by decide +kernel)) (by decide) ?_
      refine wp_iload_n d168_201 rfl ?_
      refine wp_iload d168_202 rfl ?_
      refine wz_iadd d168_204 ?_
      refine wz_iald (z := 600) (v := at1) d168_205 (hG.a (by decide) rfl rfl) (by omega) (by omega) (by decide) e6 ?_
      refine wp_virt (as := [.int (zI (at1)), .int (zI (rw1))]) (rest := [.int (zI (z))]) d168_206 rfl rfl rfl (hG.o (by decide) rfl) rfl rfl (Nat.le_of_ble_eq_true rfl) ?_
      refine m_end (l := flat R) hG hN b0 (by omega) b2 b3 b4 b5 ?_
      refine wp_aload_n d168_209 rfl ?_
      refine wp_getR (q := 86) d168_210 rfl (hG.o (by decide) rfl) (by decide) (hG.r (by decide +kernel)) (by decide) ?_
      refine wp_iload_n d168_213 rfl ?_
      refine wp_iload d168_214 rfl ?_
      refine wz_iadd d168_216 ?_
      refine wz_iald (z := 600) (v := at1) d168_217 (hG.a (by decide) rfl rfl) (by omega) (by omega) (by decide) e6 ?_
      refine wz_isub d168_218 ?_
      refine wp_goto (t := 223) d168_219 (by decide) ?_
      refine wz_iadd d168_223 ?_
      refine wp_istore d168_224 (Nat.le_of_ble_eq_true rfl) rfl ?_
      refine wz_iinc d168_226 rfl rfl ?_
      refine wp_goto (t := 117) d168_229 (by decide) ?_
      rw [show z + (at1 + ((flat R).length : Int) - at1) = z + (flat R).length by omega]
      exact whole_loop hG hN u1 f0 m1 rs (i + 1) 1 1 _ hrs (by omega) (by omega) (by decide) (by decide) h
end PmM15
