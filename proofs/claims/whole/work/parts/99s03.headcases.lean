/-! TERMS, THEIR HEADS COUNTED EXACTLY: the cases. -/
section PmS3
variable {N t0 fn s2 hv r0 r1 r2 r3 x0 X7 : Nat} {n1 h : Nat → Nat} {E : Stk → Nat} {P Q : List (List Nat)} {F G : FrT} {X : List Nat} {Z hd : Nat → Nat}
theorem bqk_le : ∀ (f : Nat) (t : Ty) (n D : Nat) (sc : List Nat), TWf f D sc t → bqk f t n + 1 ≤ mch t
  | 0, _, _, _, _, w => w.elim
  | f + 1, t, n, D, sc, w => by
    have mp := mch_pos w
    obtain ⟨w0, w5, w6, w7, w8, w9, w10, w11, w12⟩ := w
    have em := mch_is w0.2.1
    have ih := fun u n' D' sc' => bqk_le f u n' D' sc'
    unfold bqk
    by_cases c5 : nKd t = 5
    · rw [if_pos c5]; omega
    rw [if_neg c5] at em ⊢
    by_cases c6 : nKd t = 6
    · rw [if_pos c6]
      rw [if_pos (Or.inl c6)] at em
      have := ih (nY t) (n - 1) _ _ (w6 c6).2.2.2
      omega
    rw [if_neg c6]
    by_cases c7 : nKd t = 7 ∨ nKd t = 11
    · rw [if_pos c7]
      have x1 : TWf f D sc (nX t) := by
        rcases c7 with c | c
        · exact (w7 (Or.inl c)).1
        · exact (w11 c).2
      have := ih (nX t) (n + 1) _ _ x1
      rcases c7 with c | c
      · rw [if_neg (by rw [c]; decide), if_neg (by rw [c]; decide), if_neg (by rw [c]; decide)] at em
        omega
      · rw [if_neg (by rw [c]; decide), if_neg (by rw [c]; decide), if_neg (by rw [c]; decide)] at em
        omega
    rw [if_neg c7]
    by_cases c8 : nKd t = 8
    · rw [if_pos c8]
      rw [if_pos (Or.inr c8)] at em
      have := ih (nY t) (n - 1) _ _ (w8 c8).2.2
      omega
    rw [if_neg c8]
    rw [if_neg (by omega)] at em
    by_cases c9 : nKd t = 9
    · rw [if_pos c9] at em ⊢
      have := ih (nX t) (n + 1) _ _ (w9 c9).1
      omega
    rw [if_neg c9] at em ⊢
    by_cases c10 : nKd t = 10
    · rw [if_pos c10] at em ⊢
      obtain ⟨m8, x1⟩ := w10 c10
      by_cases n0 : n = 0
      · rw [if_pos n0]
        have key : ∀ g, g < 3 → (if bit (nMk t) g = true then bqk f (nP t g) 0 else 0) ≤ mch (nP t g) := by
          intro g hg
          by_cases c : bit (nMk t) g = true
          · rw [if_pos c]
            have := ih (nP t g) 0 _ _ (x1 g hg c)
            omega
          · rw [if_neg c]; exact Nat.zero_le _
        have q0 : (if bit (nMk t) 0 = true then bqk f (nX t) 0 else 0) ≤ mch (nX t) := key 0 (by decide)
        have q1 : (if bit (nMk t) 1 = true then bqk f (nY t) 0 else 0) ≤ mch (nY t) := key 1 (by decide)
        have q2 : (if bit (nMk t) 2 = true then bqk f (nZ t) 0 else 0) ≤ mch (nZ t) := key 2 (by decide)
        have q3 : 1 ≤ (if nMk t = 0 then 2 else 1 + 3 * nlb (nMk t)) := by split <;> omega
        omega
      · rw [if_neg n0]; omega
    rw [if_neg c10] at em ⊢
    have c12 : nKd t = 12 := by
      have k1 := w0.1.1
      have k2 := w0.1.2
      omega
    obtain ⟨x1, x2⟩ := w7 (Or.inr c12)
    have q1 := ih (nX t) 0 _ _ x1
    have q2 := ih (nY t) 0 _ _ x2
    omega
theorem bqk_z : ∀ (f : Nat) (t : Ty) (n D : Nat) (sc : List Nat), TWf f D sc t → bqk f t n = 0 ∨ 5 ≤ bqk f t n
  | 0, _, _, _, _, w => w.elim
  | f + 1, t, n, D, sc, w => by
    obtain ⟨w0, w5, w6, w7, w8, w9, w10, w11, w12⟩ := w
    have ih := fun u n' D' sc' => bqk_z f u n' D' sc'
    unfold bqk
    by_cases c5 : nKd t = 5
    · rw [if_pos c5]; exact Or.inl rfl
    rw [if_neg c5]
    by_cases c6 : nKd t = 6
    · rw [if_pos c6]
      exact ih (nY t) (n - 1) _ _ (w6 c6).2.2.2
    rw [if_neg c6]
    by_cases c7 : nKd t = 7 ∨ nKd t = 11
    · rw [if_pos c7]
      have x1 : TWf f D sc (nX t) := by
        rcases c7 with c | c
        · exact (w7 (Or.inl c)).1
        · exact (w11 c).2
      exact ih (nX t) (n + 1) _ _ x1
    rw [if_neg c7]
    by_cases c8 : nKd t = 8
    · rw [if_pos c8]
      have := tch_pos (w8 c8).1
      exact Or.inr (by omega)
    rw [if_neg c8]
    by_cases c9 : nKd t = 9
    · rw [if_pos c9]
      exact ih (nX t) (n + 1) _ _ (w9 c9).1
    rw [if_neg c9]
    by_cases c10 : nKd t = 10
    · rw [if_pos c10]
      obtain ⟨m8, x1⟩ := w10 c10
      by_cases n0 : n = 0
      · rw [if_pos n0]
        have key : ∀ g, g < 3 → (if bit (nMk t) g = true then bqk f (nP t g) 0 else 0) = 0 ∨ 5 ≤ (if bit (nMk t) g = true then bqk f (nP t g) 0 else 0) := by
          intro g hg
          by_cases c : bit (nMk t) g = true
          · rw [if_pos c]
            exact ih (nP t g) 0 _ _ (x1 g hg c)
          · rw [if_neg c]; exact Or.inl rfl
        have q0 : (if bit (nMk t) 0 = true then bqk f (nX t) 0 else 0) = 0 ∨ 5 ≤ (if bit (nMk t) 0 = true then bqk f (nX t) 0 else 0) := key 0 (by decide)
        have q1 : (if bit (nMk t) 1 = true then bqk f (nY t) 0 else 0) = 0 ∨ 5 ≤ (if bit (nMk t) 1 = true then bqk f (nY t) 0 else 0) := key 1 (by decide)
        have q2 : (if bit (nMk t) 2 = true then bqk f (nZ t) 0 else 0) = 0 ∨ 5 ≤ (if bit (nMk t) 2 = true then bqk f (nZ t) 0 else 0) := key 2 (by decide)
        omega
      · rw [if_neg n0]; exact Or.inl rfl
    rw [if_neg c10]
    have c12 : nKd t = 12 := by
      have k1 := w0.1.1
      have k2 := w0.1.2
      omega
    obtain ⟨x1, x2⟩ := w7 (Or.inr c12)
    have q1 := ih (nX t) 0 _ _ x1
    have q2 := ih (nY t) 0 _ _ x2
    omega
/-- what comes out where operations wait -/
def LRh (P : List (List Nat)) (hd : Nat → Nat) (X7 b c s0 m v : Nat) : Prop := v ≤ X7 ∨ ((∃ s, 3 ≤ s ∧ s + b ≤ s0 + m ∧ s0 + m - s ≠ 1 ∧ v ≤ hd s) ∨ BGh P hd b c m v)
theorem LRh.l {b c s0 m v : Nat} (a : ∃ s, 3 ≤ s ∧ s + b ≤ s0 + m ∧ s0 + m - s ≠ 1 ∧ v ≤ hd s) : LRh P hd X7 b c s0 m v := Or.inr (Or.inl a)
theorem LRh.r {b c s0 m v : Nat} (a : BGh P hd b c m v) : LRh P hd X7 b c s0 m v := Or.inr (Or.inr a)
theorem LRh.mx {b c s0 m v v' : Nat} (a : LRh P hd X7 b c s0 m v) (b' : LRh P hd X7 b c s0 m v') : LRh P hd X7 b c s0 m (max v v') := by
  by_cases e : v ≤ v'
  · rw [Nat.max_eq_right e]; exact b'
  · rw [Nat.max_eq_left (by omega)]; exact a
theorem LRh.up (h : psc N P Q F X fn s2 r0 r1 r2 r3 = true) {b c s0 m k v : Nat} (a : LRh P hd X7 b c s0 m v) (hk : k = m ∨ m + 2 ≤ k) (hb : c + 2 * k ≤ N) : LRh P hd X7 b c s0 k v := by
  rcases a with a | ⟨s, h1, h2, h3, h4⟩ | a
  · exact Or.inl a
  · exact LRh.l ⟨s, h1, by omega, by omega, h4⟩
  · exact LRh.r (a.up h hk hb)
theorem LRh.less {b b1 c s0 m v : Nat} (a : LRh P hd X7 b c s0 m v) (hb : b1 ≤ b) : LRh P hd X7 b1 c s0 m v := by
  rcases a with a | ⟨s, h1, h2, h3, h4⟩ | a
  · exact Or.inl a
  · exact LRh.l ⟨s, h1, by omega, h3, h4⟩
  · exact LRh.r (a.less hb)
theorem LRh.zero {b c s0 m : Nat} (hm : 1 ≤ m) (hb : b ≤ m) : LRh P hd X7 b c s0 m 0 := LRh.r (BGh.base hm hb (Nat.zero_le _))
theorem LRh.bf (hX : ∀ s, X7 ≤ hd s) {b c m v : Nat} (h3 : b + 3 ≤ m) (h5 : b = 0 ∨ 5 ≤ b) (a : LRh P hd X7 b c 0 m v) : BGh P hd b c m v := by
  rcases a with a | ⟨s, h1, h2, h3, h4⟩ | a
  · by_cases e : m = 4
    · exact BGh.inst (s := 4) (by omega) (by omega) (by omega) (Nat.le_trans a (hX 4))
    · exact BGh.inst (s := 3) (by omega) (by omega) (by omega) (Nat.le_trans a (hX 3))
  · exact BGh.inst h1 (by omega) (by omega) h4
  · exact a
/-- the statement -/
def SGh (N t0 : Nat) (n1 : Nat → Nat) (s2 : Nat) (h : Nat → Nat) (E : Stk → Nat) (P : List (List Nat)) (X : List Nat) (X7 : Nat) (Z hd : Nat → Nat) (f : Nat) : Prop := ∀ (t : Ty) (π : Stk) (ω : List Nat) (Γ : List Ty) (Δ : List (Nat × Ty × Nat)) (cv cd s0 : Nat), TWf f Γ.length (Δ.map (fun a => a.1)) t → TE Γ Δ → COk f t π.length → NQk f t (cnS π) → cnS π ≤ 1 → AQh t0 n1 s2 h E Z f t π ω → ω.length = Γ.length → (∀ j, j < ω.length → vw ω j ≤ X.getD cv 0) → zm π ≤ X.getD cv 0 → (hs π = true → zm π ≤ Z (s0 + 1) ∧ 2 ≤ s0) → (hs π = false → s0 = 0) → dch Δ ≤ cd → 2 ≤ cd → cv + cd + 2 * mch t ≤ N → (π = [] → BGh P hd (bqk f t 0) (cv + cd) (mch t) (GSk t0 n1 s2 h E f t [] ω Γ Δ)) ∧ (π ≠ [] → LRh P hd X7 (bqk f t π.length) (cv + cd) s0 (mch t) (GSk t0 n1 s2 h E f t π ω Γ Δ))
theorem SH_5 (hEm : ∀ q ρ, E ρ ≤ E (q :: ρ)) (hE0 : ∀ ρ, hs ρ = false → E ρ ≤ X7) (hE1 : ∀ ρ s, cnS ρ ≤ 1 → hs ρ = true → zm ρ ≤ Z s → E ρ ≤ hd s) (hm : ∀ y y', y ≤ y' → h y ≤ h y') (T : TBs N t0 fn s2 hv r0 r1 r2 r3 x0 n1 h P Q F G X) (hx : PXk N P F X fn s2 r1 = true) (h21 : r2 ≤ r1) (h32 : r3 ≤ r2) {t : Ty} {π : Stk} {ω : List Nat} {Γ : List Ty} {Δ : List (Nat × Ty × Nat)} {cv cd s0 f : Nat} (ih : SGh N t0 n1 s2 h E P X X7 Z hd f) (w : TWf (f + 1) Γ.length (Δ.map (fun a => a.1)) t) (he : TE Γ Δ) (co : COk (f + 1) t π.length) (nq : NQk (f + 1) t (cnS π)) (hc1 : cnS π ≤ 1) (aq : AQh t0 n1 s2 h E Z (f + 1) t π ω) (hl : ω.length = Γ.length) (hw : ∀ j, j < ω.length → vw ω j ≤ X.getD cv 0) (hzm : zm π ≤ X.getD cv 0) (hzs : hs π = true → zm π ≤ Z (s0 + 1) ∧ 2 ≤ s0) (hz0 : hs π = false → s0 = 0) (hX : ∀ s, X7 ≤ hd s) (hdc : dch Δ ≤ cd) (hcd : 2 ≤ cd) (hb : cv + cd + 2 * mch t ≤ N) (c5 : nKd t = 5) : (π = [] → BGh P hd (bqk (f + 1) t 0) (cv + cd) (mch t) (GSk t0 n1 s2 h E (f + 1) t [] ω Γ Δ)) ∧ (π ≠ [] → LRh P hd X7 (bqk (f + 1) t π.length) (cv + cd) s0 (mch t) (GSk t0 n1 s2 h E (f + 1) t π ω Γ Δ)) := by
  have mp := mch_pos w
  have bl := fun n => bqk_le (f + 1) t n _ _ w
  have zz : 0 ≤ X.getD cv 0 := Nat.zero_le _
  obtain ⟨w0, w5, w6, w7, w8, w9, w10, w11, w12⟩ := w
  obtain ⟨o6, o7, o10, o12⟩ := co
  obtain ⟨u6, u7, u8, u9, u10, u12⟩ := nq
  obtain ⟨a6, a7, a8, a9, a10, a12⟩ := aq
  have em := mch_is w0.2.1
  have hN := T.2.2.2.2.2.2.1
  have hp := T.2.2.2.2.2.1
  rw [if_pos c5] at em
  obtain ⟨a, ha⟩ := dlk_some (w5 c5)
  obtain ⟨e1, e2, e3⟩ := he.2.2 _ (dlk_mem ha)
  have e1 : a.2 ≤ Γ.length := e1
  have e2 : ok a.2 a.1 = true := e2
  have e4 : tch a.1 + 4 ≤ dch Δ := dch_mem (dlk_mem ha)
  have o := ok_lft a.2 (Γ.length - a.2) a.1 0 e2
  rw [show a.2 + (Γ.length - a.2) + 0 = Γ.length by omega] at o
  have et : tch (lft a.2 (Γ.length - a.2) a.1) = tch a.1 := tch_lft _ _ _ _ e2
  have q2 := (psc_m hp mp hb).1
  have q := (val_up (z := zm π) (c := cv + cd) T (by rw [hl]; exact o) (by rw [et]; omega) (by omega) hw hzm).1
  have q3 := vz_upE (t0 := t0) (n1 := n1) (s2 := s2) (E := E) hEm hm _ (lft a.2 (Γ.length - a.2) a.1) π ω (Nat.le_refl _) (by rw [hl]; exact o)
  have eg : ∀ ρ, GSk t0 n1 s2 h E (f + 1) t ρ ω Γ Δ = vz t0 n1 s2 h E (lft a.2 (Γ.length - a.2) a.1) ρ ω := by
    intro ρ
    unfold GSk
    rw [if_pos c5, ha]
  have eb : ∀ n, bqk (f + 1) t n = 0 := by
    intro n
    unfold bqk
    rw [if_pos c5]
  rw [eg, eg, eb, eb]
  refine ⟨fun e => ?_, fun e => ?_⟩
  · subst e
    rw [vz_no o]
    have q5 := (val_up (z := 0) (c := cv + cd) T (by rw [hl]; exact o) (by rw [et]; omega) (by omega) hw zz).1
    rw [hzx_0] at q5
    exact BGh.base mp (Nat.zero_le _) (by omega)
  · by_cases c : vz t0 n1 s2 h E (lft a.2 (Γ.length - a.2) a.1) π ω ≤ pg P (cv + cd) (mch t)
    · exact LRh.r (BGh.base mp (Nat.zero_le _) c)
    · by_cases ch : hs π = true
      · obtain ⟨k1, k2⟩ := hzs ch
        have k3 := hE1 π (s0 + 1) hc1 ch k1
        exact LRh.l ⟨s0 + 1, by omega, by omega, by omega, by omega⟩
      · have k3 := hE0 π (by simpa using ch)
        exact Or.inl (by omega)
theorem SH_6 (hEm : ∀ q ρ, E ρ ≤ E (q :: ρ)) (hE0 : ∀ ρ, hs ρ = false → E ρ ≤ X7) (hE1 : ∀ ρ s, cnS ρ ≤ 1 → hs ρ = true → zm ρ ≤ Z s → E ρ ≤ hd s) (hm : ∀ y y', y ≤ y' → h y ≤ h y') (T : TBs N t0 fn s2 hv r0 r1 r2 r3 x0 n1 h P Q F G X) (hx : PXk N P F X fn s2 r1 = true) (h21 : r2 ≤ r1) (h32 : r3 ≤ r2) {t : Ty} {π : Stk} {ω : List Nat} {Γ : List Ty} {Δ : List (Nat × Ty × Nat)} {cv cd s0 f : Nat} (ih : SGh N t0 n1 s2 h E P X X7 Z hd f) (w : TWf (f + 1) Γ.length (Δ.map (fun a => a.1)) t) (he : TE Γ Δ) (co : COk (f + 1) t π.length) (nq : NQk (f + 1) t (cnS π)) (hc1 : cnS π ≤ 1) (aq : AQh t0 n1 s2 h E Z (f + 1) t π ω) (hl : ω.length = Γ.length) (hw : ∀ j, j < ω.length → vw ω j ≤ X.getD cv 0) (hzm : zm π ≤ X.getD cv 0) (hzs : hs π = true → zm π ≤ Z (s0 + 1) ∧ 2 ≤ s0) (hz0 : hs π = false → s0 = 0) (hX : ∀ s, X7 ≤ hd s) (hdc : dch Δ ≤ cd) (hcd : 2 ≤ cd) (hb : cv + cd + 2 * mch t ≤ N) (c6 : nKd t = 6) : (π = [] → BGh P hd (bqk (f + 1) t 0) (cv + cd) (mch t) (GSk t0 n1 s2 h E (f + 1) t [] ω Γ Δ)) ∧ (π ≠ [] → LRh P hd X7 (bqk (f + 1) t π.length) (cv + cd) s0 (mch t) (GSk t0 n1 s2 h E (f + 1) t π ω Γ Δ)) := by
  have mp := mch_pos w
  have bl := fun n => bqk_le (f + 1) t n _ _ w
  have zz : 0 ≤ X.getD cv 0 := Nat.zero_le _
  obtain ⟨w0, w5, w6, w7, w8, w9, w10, w11, w12⟩ := w
  obtain ⟨o6, o7, o10, o12⟩ := co
  obtain ⟨u6, u7, u8, u9, u10, u12⟩ := nq
  obtain ⟨a6, a7, a8, a9, a10, a12⟩ := aq
  have em := mch_is w0.2.1
  have hN := T.2.2.2.2.2.2.1
  have hp := T.2.2.2.2.2.1
  rw [if_neg (by omega), if_pos (Or.inl c6)] at em
  obtain ⟨-, x1, x2, x3⟩ := w6 c6
  have tp := tch_pos x1
  have hd' : dch ((nPl t, nX t, Γ.length) :: Δ) ≤ cd + tch (nX t) + 4 := by
    show (tch (nX t) + 4) + dch Δ ≤ _
    omega
  obtain ⟨pr, pp, q1⟩ := val_text (z := 0) (cv := cv) T (by rw [hl]; exact x1) (by omega) (by omega) hw zz
  rw [hzx_0] at q1
  have q3 := fxc_le T.2.1 (c := cv) (d := cv + cd) (by omega) (by omega)
  have q4 := Nat.mul_le_mul_left pr.1 q3
  have q5 := T.2.2.2.1
  have eb : ∀ n, bqk (f + 1) t n = bqk f (nY t) (n - 1) := by
    intro n
    conv => lhs; unfold bqk
    rw [if_neg (by rw [c6]; decide), if_pos c6]
  have lam : ∀ v b, BGh P hd b (cv + (cd + tch (nX t) + 4)) (mch (nY t)) v → BGh P hd b (cv + cd) (mch t) (n1 1 + (nz t0 n1 s2 h ω (nX t) + v)) := by
    intro v b q
    rw [show cv + (cd + tch (nX t) + 4) = cv + cd + tch (nX t) + 4 by omega] at q
    have q2 := BGh.lam hp hx tp q (by omega) pp
    rw [em, show 4 + (tch (nX t) + mch (nY t)) = mch (nY t) + tch (nX t) + 4 by omega]
    exact q2.mono (by omega)
  cases π with
  | nil =>
    refine ⟨fun _ => ?_, fun e => absurd rfl e⟩
    have q := (ih (nY t) [] ω Γ ((nPl t, nX t, Γ.length) :: Δ) cv (cd + tch (nX t) + 4) s0 x3 (he.lam x1 x2) (o6 (Or.inl c6)) (u6 c6) hc1 ((a6 c6).1 rfl) hl hw hzm hzs hz0 hd' (by omega) (by omega)).1 rfl
    rw [eb]
    unfold GSk
    rw [if_neg (by omega), if_pos c6]
    exact lam _ _ q
  | cons o ρ =>
    refine ⟨fun e => (by cases e), fun _ => ?_⟩
    have blo := bl (o :: ρ).length
    cases o with
    | some z =>
      unfold GSk
      rw [if_neg (by omega), if_pos c6]
      exact LRh.zero mp (by omega)
    | none =>
      have q := ih (nY t) ρ ω Γ ((nPl t, nX t, Γ.length) :: Δ) cv (cd + tch (nX t) + 4) s0 x3 (he.lam x1 x2) (by simpa using o6 (Or.inl c6)) (u6 c6) hc1 ((a6 c6).2 ρ rfl) hl hw hzm hzs hz0 hd' (by omega) (by omega)
      have e2 : (none :: ρ : Stk).length - 1 = ρ.length := by simp
      rw [eb, e2]
      unfold GSk
      rw [if_neg (by omega), if_pos c6]
      show LRh P hd X7 (bqk f (nY t) ρ.length) (cv + cd) s0 (mch t) (GSk t0 n1 s2 h E f (nY t) ρ ω Γ ((nPl t, nX t, Γ.length) :: Δ))
      by_cases er : ρ = []
      · subst er
        exact LRh.r ((lam _ _ (q.1 rfl)).mono (by omega))
      · rcases q.2 er with q0 | ⟨s, h1, h2, h3, h4⟩ | q
        · exact Or.inl q0
        · exact LRh.l ⟨s, h1, by omega, by omega, h4⟩
        · exact LRh.r ((lam _ _ q).mono (by omega))
end PmS3
