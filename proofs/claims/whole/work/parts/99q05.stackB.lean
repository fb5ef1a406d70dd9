/-! BUDGETS OF TERMS, OPERATIONS WAITING. -/
/-- no choice under an operation -/
def COk : Nat → Ty → Nat → Prop
  | 0, _, _ => True
  | f + 1, t, n => (nKd t = 6 ∨ nKd t = 8 → COk f (nY t) (n - 1)) ∧ (nKd t = 7 ∨ nKd t = 9 ∨ nKd t = 11 → COk f (nX t) (n + 1)) ∧ (nKd t = 10 → ∀ g, g < 3 → bit (nMk t) g = true → COk f (nP t g) (n - 1)) ∧ (nKd t = 12 → n = 0 ∧ COk f (nX t) 0 ∧ COk f (nY t) 0)
/-- arguments and bounds in a term -/
def AQk (t0 : Nat) (n1 : Nat → Nat) (s2 : Nat) (h : Nat → Nat) (E0 p : Nat) (Z : Nat → Nat) : Nat → Ty → Stk → List Nat → Prop
  | 0, _, _, _ => True
  | f + 1, t, π, ω =>
    (nKd t = 6 → (π = [] → AQk t0 n1 s2 h E0 p Z f (nY t) [] ω) ∧ ∀ ρ, π = none :: ρ → AQk t0 n1 s2 h E0 p Z f (nY t) ρ ω) ∧
    (nKd t = 7 ∨ nKd t = 11 → AQk t0 n1 s2 h E0 p Z f (nX t) (none :: π) ω) ∧
    (nKd t = 8 → (nz t0 n1 s2 h ω (nX t) ≤ E0 ∧ flv (nX t) ≤ p) ∧ (π = [] → AQk t0 n1 s2 h E0 p Z f (nY t) [] (h (nz t0 n1 s2 h ω (nX t)) :: ω)) ∧ ∀ z ρ, π = some z :: ρ → AQk t0 n1 s2 h E0 p Z f (nY t) ρ (hzx h z (nz t0 n1 s2 h ω (nX t)) :: ω)) ∧
    (nKd t = 9 → (nz t0 n1 s2 h ω (nY t) ≤ E0 ∧ flv (nY t) ≤ p ∧ nz t0 n1 s2 h ω (nY t) ≤ Z (tch (nY t) + 2)) ∧ AQk t0 n1 s2 h E0 p Z f (nX t) (some (nz t0 n1 s2 h ω (nY t)) :: π) ω) ∧
    (nKd t = 10 → ∀ g, g < 3 → bit (nMk t) g = true → (π = [] → AQk t0 n1 s2 h E0 p Z f (nP t g) [] ω) ∧ ∀ ρ, π = none :: ρ → AQk t0 n1 s2 h E0 p Z f (nP t g) ρ ω) ∧
    (nKd t = 12 → AQk t0 n1 s2 h E0 p Z f (nX t) π ω ∧ AQk t0 n1 s2 h E0 p Z f (nY t) π ω)
section PmQ5
variable {N t0 fn s2 hv r0 r1 r2 r3 x0 E0 p : Nat} {n1 h : Nat → Nat} {P Q : List (List Nat)} {F G : FrT} {X : List Nat} {Z : Nat → Nat}
/-- all that is asked on the way, where every variable is worth what its bound is -/
theorem GO_nat (hn : NC t0 n1 s2 h) (hm : ∀ y y', y ≤ y' → h y ≤ h y') (hh : ∀ y δ, h (y + δ) ≤ h y + δ) : ∀ (f : Nat) (t : Ty) (π : Stk) (ω : List Nat) (Γ : List Ty) (Δ : List (Nat × Ty × Nat)), TWf f Γ.length (Δ.map (fun a => a.1)) t → TE Γ Δ → COk f t π.length → AQk t0 n1 s2 h E0 p Z f t π ω → CV t0 n1 s2 h ω Γ → GOk t0 n1 s2 h (Ek E0 p) f t π ω Γ Δ
  | 0, _, _, _, _, _, w, _, _, _, _ => w.elim
  | f + 1, t, π, ω, Γ, Δ, w, he, co, aq, hv => by
    obtain ⟨w0, w5, w6, w7, w8, w9, w10, w11, w12⟩ := w
    obtain ⟨o6, o7, o10, o12⟩ := co
    obtain ⟨a6, a7, a8, a9, a10, a12⟩ := aq
    have ih := fun t' π' ω' Γ' Δ' => GO_nat hn hm hh f t' π' ω' Γ' Δ'
    have hl := hv.len
    refine ⟨fun c6 => ?_, fun c7 => ?_, fun c8 => ?_, fun c9 => ?_, fun c10 g hg hb => ?_, fun c12 => ?_⟩
    · obtain ⟨-, x1, x2, x3⟩ := w6 c6
      refine ⟨fun e => ?_, fun ρ e => ?_⟩
      · subst e
        exact ih _ _ _ _ _ x3 (he.lam x1 x2) (o6 (Or.inl c6)) ((a6 c6).1 rfl) hv
      · subst e
        exact ih _ _ _ _ _ x3 (he.lam x1 x2) (by simpa using o6 (Or.inl c6)) ((a6 c6).2 ρ rfl) hv
    · have x1 : TWf f Γ.length (Δ.map (fun a => a.1)) (nX t) := by
        rcases c7 with c | c
        · exact (w7 (Or.inl c)).1
        · exact (w11 c).2
      exact ih _ _ _ _ _ x1 he (o7 (by omega)) (a7 c7) hv
    · obtain ⟨x1, x2, x3⟩ := w8 c8
      obtain ⟨k1, k2, k3⟩ := a8 c8
      refine ⟨fun ρ _ => vz_bd hm hh (by rw [hl]; exact x1) k1.1 k1.2 ρ, fun e => ?_, fun z ρ e => ?_⟩
      · subst e
        exact ih (nY t) [] _ (nX t :: Γ) Δ x3 (he.all x1 x2) (o6 (Or.inr c8)) (k2 rfl) (hv.ext hn he.1 x1)
      · subst e
        exact ih (nY t) ρ _ (nX t :: Γ) Δ x3 (he.all x1 x2) (by simpa using o6 (Or.inr c8)) (k3 z ρ rfl) (hv.extz hn he.1 x1 z)
    · obtain ⟨x1, x2, x3⟩ := w9 c9
      obtain ⟨k1, k2⟩ := a9 c9
      exact ⟨fun ρ _ => vz_bd hm hh (by rw [hl]; exact x2) k1.1 k1.2.1 ρ, ih _ _ _ _ _ x1 he (o7 (by omega)) k2 hv⟩
    · obtain ⟨m8, x1⟩ := w10 c10
      refine ⟨fun e => ?_, fun ρ e => ?_⟩
      · subst e
        exact ih _ _ _ _ _ (x1 g hg hb) he (o10 c10 g hg hb) ((a10 c10 g hg hb).1 rfl) hv
      · subst e
        exact ih _ _ _ _ _ (x1 g hg hb) he (by simpa using o10 c10 g hg hb) ((a10 c10 g hg hb).2 ρ rfl) hv
    · obtain ⟨x1, x2⟩ := w7 (Or.inr c12)
      obtain ⟨k0, k1, k2⟩ := o12 c12
      have e : π = [] := List.eq_nil_of_length_eq_zero k0
      subst e
      refine ⟨ih _ _ _ _ _ x1 he k1 (a12 c12).1 hv, ih _ _ _ _ _ x2 he k2 (a12 c12).2 hv, fun S T R hS hT e => ?_⟩
      obtain ⟨s1, s2'⟩ := tyF_ok f _ Γ Δ S x1 he hS
      obtain ⟨t1, t2⟩ := tyF_ok f _ Γ Δ T x2 he hT
      have oR := (cmu_ok (⟨⟨he.1, s1, t1⟩, he.2.1, s2', t2⟩) e).1
      rw [vz_no oR, vz_no s1, vz_no t1]
      exact cmu_nz hn hv ⟨he.1, s1, t1⟩ e
/-- a longer argument -/
theorem BF.arg (h : psc N P Q F X fn s2 r0 r1 r2 r3 = true) {c m q v : Nat} (hq : 2 ≤ q) (b : BF P E0 p Z (c + q + 4) m v) (hb : c + 2 * (m + q + 1) ≤ N) : BF P E0 p Z c (m + q + 1) v := by
  obtain ⟨n, s, a1, a2, a3, a4, a5, a6⟩ := b
  refine ⟨n, s, by omega, a2, by omega, a4, fun h1 => by omega, ?_⟩
  have key : pg0 P (c + q + 4) (m - s) ≤ pg0 P c (m + q + 1 - s) := by
    by_cases e : m - s = 0
    · rw [e]; exact Nat.zero_le _
    · rw [pg0_pos (by omega), pg0_pos (by omega)]
      have := (psc_k h (c := c) (m := q) (k := m - s) (by omega) (by omega) (by omega)).2.2.2 hq (by omega)
      rw [show m + q + 1 - s = q + (m - s) + 1 by omega]
      exact this
  omega
/-- what comes out where operations wait -/
def LRk (P : List (List Nat)) (E0 p : Nat) (Z : Nat → Nat) (c s0 m v : Nat) : Prop := (∃ z s, z ≤ Z s ∧ s ≤ s0 + m ∧ v ≤ E0 + p * z) ∨ BF P E0 p Z c m v
theorem LRk.mx {c s0 m v v' : Nat} (a : LRk P E0 p Z c s0 m v) (b : LRk P E0 p Z c s0 m v') : LRk P E0 p Z c s0 m (max v v') := by
  by_cases e : v ≤ v'
  · rw [Nat.max_eq_right e]; exact b
  · rw [Nat.max_eq_left (by omega)]; exact a
theorem LRk.up (h : psc N P Q F X fn s2 r0 r1 r2 r3 = true) (hz : ZOk Z) {c s0 m k v : Nat} (a : LRk P E0 p Z c s0 m v) (hk : m ≤ k) (hb : c + 2 * k ≤ N) : LRk P E0 p Z c s0 k v := by
  rcases a with ⟨z, s, h1, h2, h3⟩ | a
  · exact Or.inl ⟨z, s, h1, by omega, h3⟩
  · exact Or.inr (a.up h hz hk hb)
theorem LRk.zero (hz : ZOk Z) {c s0 m : Nat} (hm : 1 ≤ m) : LRk P E0 p Z c s0 m 0 := Or.inr (BF.base hz hm (Nat.zero_le _))
/-- the last operation -/
theorem LRk.bf (hz : ZOk Z) {c m v : Nat} (a : LRk P E0 p Z c 0 m v) (h3 : 3 ≤ m) : BF P E0 p Z c m v := by
  rcases a with ⟨z, s, h1, h2, hv⟩ | a
  · have := hz.le (s := s) (t := max 3 s) (Nat.le_max_right _ _)
    exact BF.inst hz (s := max 3 s) (z := z) (Nat.le_max_left _ _) (by omega) (by omega) hv
  · exact a
/-- the statement -/
def SGk (N t0 : Nat) (n1 : Nat → Nat) (s2 : Nat) (h : Nat → Nat) (P : List (List Nat)) (X : List Nat) (E0 p : Nat) (Z : Nat → Nat) (f : Nat) : Prop := ∀ (t : Ty) (π : Stk) (ω : List Nat) (Γ : List Ty) (Δ : List (Nat × Ty × Nat)) (cv cd s0 : Nat), TWf f Γ.length (Δ.map (fun a => a.1)) t → TE Γ Δ → COk f t π.length → AQk t0 n1 s2 h E0 p Z f t π ω → ω.length = Γ.length → (∀ j, j < ω.length → vw ω j ≤ X.getD cv 0) → zm π ≤ X.getD cv 0 → (hs π = true → zm π ≤ Z (s0 + 1)) → dch Δ ≤ cd → 2 ≤ cd → cv + cd + 2 * mch t ≤ N → (π = [] → BF P E0 p Z (cv + cd) (mch t) (GSk t0 n1 s2 h (Ek E0 p) f t [] ω Γ Δ)) ∧ (π ≠ [] → LRk P E0 p Z (cv + cd) s0 (mch t) (GSk t0 n1 s2 h (Ek E0 p) f t π ω Γ Δ))
section
variable {t : Ty} {π : Stk} {ω : List Nat} {Γ : List Ty} {Δ : List (Nat × Ty × Nat)} {cv cd s0 f : Nat}
theorem SG_5 (hm : ∀ y y', y ≤ y' → h y ≤ h y') (T : TBs N t0 fn s2 hv r0 r1 r2 r3 x0 n1 h P Q F G X) (hx : PXk N P F X fn s2 r1 = true) (h21 : r2 ≤ r1) (h32 : r3 ≤ r2) (hz : ZOk Z) (ih : SGk N t0 n1 s2 h P X E0 p Z f) (w : TWf (f + 1) Γ.length (Δ.map (fun a => a.1)) t) (he : TE Γ Δ) (co : COk (f + 1) t π.length) (aq : AQk t0 n1 s2 h E0 p Z (f + 1) t π ω) (hl : ω.length = Γ.length) (hw : ∀ j, j < ω.length → vw ω j ≤ X.getD cv 0) (hzm : zm π ≤ X.getD cv 0) (hzs : hs π = true → zm π ≤ Z (s0 + 1)) (hd : dch Δ ≤ cd) (hcd : 2 ≤ cd) (hb : cv + cd + 2 * mch t ≤ N) (c5 : nKd t = 5) : (π = [] → BF P E0 p Z (cv + cd) (mch t) (GSk t0 n1 s2 h (Ek E0 p) (f + 1) t [] ω Γ Δ)) ∧ (π ≠ [] → LRk P E0 p Z (cv + cd) s0 (mch t) (GSk t0 n1 s2 h (Ek E0 p) (f + 1) t π ω Γ Δ)) := by
  have mp := mch_pos w
  have hz0 : 0 ≤ X.getD cv 0 := Nat.zero_le _
  obtain ⟨w0, w5, w6, w7, w8, w9, w10, w11, w12⟩ := w
  obtain ⟨o6, o7, o10, o12⟩ := co
  obtain ⟨a6, a7, a8, a9, a10, a12⟩ := aq
  have em := mch_is w0.2.1
  have hN := T.2.2.2.2.2.2.1
  have hp := T.2.2.2.2.2.1
  obtain ⟨a, ha⟩ := dlk_some (w5 c5)
  obtain ⟨e1, e2, e3⟩ := he.2.2 _ (dlk_mem ha)
  have e1 : a.2 ≤ Γ.length := e1
  have e2 : ok a.2 a.1 = true := e2
  have e4 : tch a.1 + 4 ≤ dch Δ := dch_mem (dlk_mem ha)
  have o := ok_lft a.2 (Γ.length - a.2) a.1 0 e2
  rw [show a.2 + (Γ.length - a.2) + 0 = Γ.length by omega] at o
  have et : tch (lft a.2 (Γ.length - a.2) a.1) = tch a.1 := tch_lft _ _ _ _ e2
  have q2 := (psc_m hp mp hb).1
  have q := (val_up (z := zm π) (c := cv + cd) T (by rw [hl]; exact o) (by rw [et]; omega) (by omega) hw hzm).1
  have q3 := vz_up (t0 := t0) (n1 := n1) (s2 := s2) (E0 := E0) (p := p) hm _ (lft a.2 (Γ.length - a.2) a.1) π ω (Nat.le_refl _) (by rw [hl]; exact o)
  have eg : ∀ ρ, GSk t0 n1 s2 h (Ek E0 p) (f + 1) t ρ ω Γ Δ = vz t0 n1 s2 h (Ek E0 p) (lft a.2 (Γ.length - a.2) a.1) ρ ω := by
    intro ρ
    unfold GSk
    rw [if_pos c5, ha]
  rw [eg, eg]
  refine ⟨fun e => ?_, fun e => ?_⟩
  · subst e
    rw [vz_no o]
    have q5 := (val_up (z := 0) (c := cv + cd) T (by rw [hl]; exact o) (by rw [et]; omega) (by omega) hw hz0).1
    rw [hzx_0] at q5
    exact BF.base hz mp (by omega)
  · by_cases c : vz t0 n1 s2 h (Ek E0 p) (lft a.2 (Γ.length - a.2) a.1) π ω ≤ pg P (cv + cd) (mch t)
    · exact Or.inr (BF.base hz mp c)
    · rw [Ek_is] at q3
      refine Or.inl ⟨zm π, s0 + 1, ?_, by omega, by omega⟩
      by_cases ch : hs π = true
      · exact hzs ch
      · rw [zm_hs π (by simpa using ch)]; exact Nat.zero_le _
theorem SG_6 (hm : ∀ y y', y ≤ y' → h y ≤ h y') (T : TBs N t0 fn s2 hv r0 r1 r2 r3 x0 n1 h P Q F G X) (hx : PXk N P F X fn s2 r1 = true) (h21 : r2 ≤ r1) (h32 : r3 ≤ r2) (hz : ZOk Z) (ih : SGk N t0 n1 s2 h P X E0 p Z f) (w : TWf (f + 1) Γ.length (Δ.map (fun a => a.1)) t) (he : TE Γ Δ) (co : COk (f + 1) t π.length) (aq : AQk t0 n1 s2 h E0 p Z (f + 1) t π ω) (hl : ω.length = Γ.length) (hw : ∀ j, j < ω.length → vw ω j ≤ X.getD cv 0) (hzm : zm π ≤ X.getD cv 0) (hzs : hs π = true → zm π ≤ Z (s0 + 1)) (hd : dch Δ ≤ cd) (hcd : 2 ≤ cd) (hb : cv + cd + 2 * mch t ≤ N) (c6 : nKd t = 6) : (π = [] → BF P E0 p Z (cv + cd) (mch t) (GSk t0 n1 s2 h (Ek E0 p) (f + 1) t [] ω Γ Δ)) ∧ (π ≠ [] → LRk P E0 p Z (cv + cd) s0 (mch t) (GSk t0 n1 s2 h (Ek E0 p) (f + 1) t π ω Γ Δ)) := by
  have mp := mch_pos w
  have hz0 : 0 ≤ X.getD cv 0 := Nat.zero_le _
  obtain ⟨w0, w5, w6, w7, w8, w9, w10, w11, w12⟩ := w
  obtain ⟨o6, o7, o10, o12⟩ := co
  obtain ⟨a6, a7, a8, a9, a10, a12⟩ := aq
  have em := mch_is w0.2.1
  have hN := T.2.2.2.2.2.2.1
  have hp := T.2.2.2.2.2.1
  rw [if_neg (by omega), if_pos (Or.inl c6)] at em
  obtain ⟨-, x1, x2, x3⟩ := w6 c6
  have tp := tch_pos x1
  have hd' : dch ((nPl t, nX t, Γ.length) :: Δ) ≤ cd + tch (nX t) + 4 := by
    show (tch (nX t) + 4) + dch Δ ≤ _
    omega
  obtain ⟨pr, pp, q1⟩ := val_text (z := 0) (cv := cv) T (by rw [hl]; exact x1) (by omega) (by omega) hw hz0
  rw [hzx_0] at q1
  have q3 := fxc_le T.2.1 (c := cv) (d := cv + cd) (by omega) (by omega)
  have q4 := Nat.mul_le_mul_left pr.1 q3
  have q5 := T.2.2.2.1
  have lam : ∀ v, BF P E0 p Z (cv + (cd + tch (nX t) + 4)) (mch (nY t)) v → BF P E0 p Z (cv + cd) (mch t) (n1 1 + (nz t0 n1 s2 h ω (nX t) + v)) := by
    intro v q
    rw [show cv + (cd + tch (nX t) + 4) = cv + cd + tch (nX t) + 4 by omega] at q
    have q2 := BF.lam hp hx tp q (by omega) pp
    rw [em, show 4 + (tch (nX t) + mch (nY t)) = mch (nY t) + tch (nX t) + 4 by omega]
    exact q2.mono (by omega)
  cases π with
  | nil =>
    refine ⟨fun _ => ?_, fun e => absurd rfl e⟩
    have q := (ih (nY t) [] ω Γ ((nPl t, nX t, Γ.length) :: Δ) cv (cd + tch (nX t) + 4) s0 x3 (he.lam x1 x2) (o6 (Or.inl c6)) ((a6 c6).1 rfl) hl hw hzm hzs hd' (by omega) (by omega)).1 rfl
    unfold GSk
    rw [if_neg (by omega), if_pos c6]
    exact lam _ q
  | cons o ρ =>
    refine ⟨fun e => (by cases e), fun _ => ?_⟩
    cases o with
    | some z =>
      unfold GSk
      rw [if_neg (by omega), if_pos c6]
      exact LRk.zero hz mp
    | none =>
      have q := ih (nY t) ρ ω Γ ((nPl t, nX t, Γ.length) :: Δ) cv (cd + tch (nX t) + 4) s0 x3 (he.lam x1 x2) (by simpa using o6 (Or.inl c6)) ((a6 c6).2 ρ rfl) hl hw hzm hzs hd' (by omega) (by omega)
      unfold GSk
      rw [if_neg (by omega), if_pos c6]
      show LRk P E0 p Z (cv + cd) s0 (mch t) (GSk t0 n1 s2 h (Ek E0 p) f (nY t) ρ ω Γ ((nPl t, nX t, Γ.length) :: Δ))
      by_cases er : ρ = []
      · subst er
        exact Or.inr ((lam _ (q.1 rfl)).mono (by omega))
      · rcases q.2 er with ⟨z, s, h1, h2, h3⟩ | q
        · exact Or.inl ⟨z, s, h1, by omega, h3⟩
        · exact Or.inr ((lam _ q).mono (by omega))
theorem SG_7 (hm : ∀ y y', y ≤ y' → h y ≤ h y') (T : TBs N t0 fn s2 hv r0 r1 r2 r3 x0 n1 h P Q F G X) (hx : PXk N P F X fn s2 r1 = true) (h21 : r2 ≤ r1) (h32 : r3 ≤ r2) (hz : ZOk Z) (ih : SGk N t0 n1 s2 h P X E0 p Z f) (w : TWf (f + 1) Γ.length (Δ.map (fun a => a.1)) t) (he : TE Γ Δ) (co : COk (f + 1) t π.length) (aq : AQk t0 n1 s2 h E0 p Z (f + 1) t π ω) (hl : ω.length = Γ.length) (hw : ∀ j, j < ω.length → vw ω j ≤ X.getD cv 0) (hzm : zm π ≤ X.getD cv 0) (hzs : hs π = true → zm π ≤ Z (s0 + 1)) (hd : dch Δ ≤ cd) (hcd : 2 ≤ cd) (hb : cv + cd + 2 * mch t ≤ N) (c7 : nKd t = 7 ∨ nKd t = 11) : (π = [] → BF P E0 p Z (cv + cd) (mch t) (GSk t0 n1 s2 h (Ek E0 p) (f + 1) t [] ω Γ Δ)) ∧ (π ≠ [] → LRk P E0 p Z (cv + cd) s0 (mch t) (GSk t0 n1 s2 h (Ek E0 p) (f + 1) t π ω Γ Δ)) := by
  have mp := mch_pos w
  have hz0 : 0 ≤ X.getD cv 0 := Nat.zero_le _
  obtain ⟨w0, w5, w6, w7, w8, w9, w10, w11, w12⟩ := w
  obtain ⟨o6, o7, o10, o12⟩ := co
  obtain ⟨a6, a7, a8, a9, a10, a12⟩ := aq
  have em := mch_is w0.2.1
  have hN := T.2.2.2.2.2.2.1
  have hp := T.2.2.2.2.2.1
  have x1 : TWf f Γ.length (Δ.map (fun a => a.1)) (nX t) := by
    rcases c7 with c | c
    · exact (w7 (Or.inl c)).1
    · exact (w11 c).2
  have e1 : 1 ≤ mch (nX t) := by
    cases f with
    | zero => exact x1.elim
    | succ f => exact mch_pos x1
  have em2 : mch (nX t) + 2 ≤ mch t := by
    clear o6 o7 o10 o12 a6 a7 a8 a9 a10 a12 w5 w6 w7 w8 w9 w10 w11 w12 ih hb hzm hzs hw hp hN
    rcases c7 with c | c
    · rw [if_neg (by rw [c]; decide), if_neg (by rw [c]; decide), if_neg (by rw [c]; decide), if_neg (by rw [c]; decide)] at em
      omega
    · rw [if_neg (by rw [c]; decide), if_neg (by rw [c]; decide), if_neg (by rw [c]; decide), if_neg (by rw [c]; decide)] at em
      omega
  have hb2 : cv + cd + 2 * mch (nX t) ≤ N := Nat.le_trans (Nat.add_le_add_left (Nat.mul_le_mul_left 2 (Nat.le_trans (Nat.le_add_right _ 2) em2)) _) hb
  have hmm : mch (nX t) ≤ mch t := Nat.le_trans (Nat.le_add_right _ 2) em2
  have h3 : 3 ≤ mch t := Nat.le_trans (Nat.add_le_add_right e1 2) em2
  have o7' := o7 (c7.elim Or.inl (fun c => Or.inr (Or.inr c)))
  have a7' := a7 c7
  clear o6 o7 o10 o12 a6 a7 a8 a9 a10 a12 w5 w6 w7 w8 w9 w10 w11 w12 em
  have q := fun s1 hz1 => (ih (nX t) (none :: π) ω Γ Δ cv cd s1 x1 he o7' a7' hl hw hzm hz1 hd hcd hb2).2 (List.cons_ne_nil _ _)
  have eg : ∀ ρ, GSk t0 n1 s2 h (Ek E0 p) (f + 1) t ρ ω Γ Δ = GSk t0 n1 s2 h (Ek E0 p) f (nX t) (none :: ρ) ω Γ Δ := by
    intro ρ
    clear ih q o7' a7' hw hzm hzs hb hb2
    conv => lhs; unfold GSk
    rcases c7 with c | c
    · rw [if_neg (by rw [c]; decide), if_neg (by rw [c]; decide), if_pos c]
    · rw [if_neg (by rw [c]; decide), if_neg (by rw [c]; decide), if_neg (by rw [c]; decide), if_neg (by rw [c]; decide), if_neg (by rw [c]; decide), if_neg (by rw [c]; decide), if_pos c]
  rw [eg, eg]
  refine ⟨fun e => ?_, fun _ => (q s0 hzs).up hp hz hmm hb⟩
  have q1 := q 0 (by subst e; intro c; cases c)
  subst e
  exact (q1.up hp hz hmm hb).bf hz h3
theorem SG_8 (hm : ∀ y y', y ≤ y' → h y ≤ h y') (T : TBs N t0 fn s2 hv r0 r1 r2 r3 x0 n1 h P Q F G X) (hx : PXk N P F X fn s2 r1 = true) (h21 : r2 ≤ r1) (h32 : r3 ≤ r2) (hz : ZOk Z) (ih : SGk N t0 n1 s2 h P X E0 p Z f) (w : TWf (f + 1) Γ.length (Δ.map (fun a => a.1)) t) (he : TE Γ Δ) (co : COk (f + 1) t π.length) (aq : AQk t0 n1 s2 h E0 p Z (f + 1) t π ω) (hl : ω.length = Γ.length) (hw : ∀ j, j < ω.length → vw ω j ≤ X.getD cv 0) (hzm : zm π ≤ X.getD cv 0) (hzs : hs π = true → zm π ≤ Z (s0 + 1)) (hd : dch Δ ≤ cd) (hcd : 2 ≤ cd) (hb : cv + cd + 2 * mch t ≤ N) (c8 : nKd t = 8) : (π = [] → BF P E0 p Z (cv + cd) (mch t) (GSk t0 n1 s2 h (Ek E0 p) (f + 1) t [] ω Γ Δ)) ∧ (π ≠ [] → LRk P E0 p Z (cv + cd) s0 (mch t) (GSk t0 n1 s2 h (Ek E0 p) (f + 1) t π ω Γ Δ)) := by
  have mp := mch_pos w
  have hz0 : 0 ≤ X.getD cv 0 := Nat.zero_le _
  obtain ⟨w0, w5, w6, w7, w8, w9, w10, w11, w12⟩ := w
  obtain ⟨o6, o7, o10, o12⟩ := co
  obtain ⟨a6, a7, a8, a9, a10, a12⟩ := aq
  have em := mch_is w0.2.1
  have hN := T.2.2.2.2.2.2.1
  have hp := T.2.2.2.2.2.1
  rw [if_neg (by omega), if_pos (Or.inr c8)] at em
  obtain ⟨x1, x2, x3⟩ := w8 c8
  have tp := tch_pos x1
  have q3 := fxc_le T.2.1 (c := cv) (d := cv + tch (nX t) + 4) (by omega) (by omega)
  obtain ⟨k1, k2, k3⟩ := a8 c8
  have all : ∀ v, BF P E0 p Z (cv + tch (nX t) + 4 + cd) (mch (nY t)) v → BF P E0 p Z (cv + cd) (mch t) (s2 + v) := by
    intro v q
    rw [show cv + tch (nX t) + 4 + cd = cv + cd + tch (nX t) + 4 by omega] at q
    have q2 := BF.all hp hx tp q (by omega)
    rw [em, show 4 + (tch (nX t) + mch (nY t)) = mch (nY t) + tch (nX t) + 4 by omega]
    exact q2
  cases π with
  | nil =>
    refine ⟨fun _ => ?_, fun e => absurd rfl e⟩
    have u := (val_up (z := 0) (cv := cv) (c := cv + tch (nX t) + 4) T (A := nX t) (by rw [hl]; exact x1) (Nat.le_refl _) (by omega) hw hz0).2
    rw [hzx_0] at u
    have q := (ih (nY t) [] (h (nz t0 n1 s2 h ω (nX t)) :: ω) (nX t :: Γ) Δ (cv + tch (nX t) + 4) cd s0 x3 (he.all x1 x2) (o6 (Or.inr c8)) (k2 rfl) (by rw [List.length_cons, List.length_cons, hl]) (fun j hj => by
      rw [vw_cons]
      by_cases e : j = ω.length
      · rw [if_pos e]; exact u
      · rw [if_neg e]
        have := hw j (by rw [List.length_cons] at hj; omega)
        omega) (by omega) hzs hd hcd (by omega)).1 rfl
    unfold GSk
    rw [if_neg (by omega), if_neg (by omega), if_neg (by omega), if_pos c8]
    exact all _ q
  | cons o ρ =>
    refine ⟨fun e => (by cases e), fun _ => ?_⟩
    cases o with
    | none =>
      unfold GSk
      rw [if_neg (by omega), if_neg (by omega), if_neg (by omega), if_pos c8]
      exact LRk.zero hz mp
    | some z =>
      have zz : z ≤ X.getD cv 0 := Nat.le_trans (Nat.le_max_left z (zm ρ)) hzm
      have zr : zm ρ ≤ zm (some z :: ρ) := Nat.le_max_right _ _
      have u0 := (val_up (z := z) (cv := cv) (c := cv + tch (nX t) + 4) T (A := nX t) (by rw [hl]; exact x1) (Nat.le_refl _) (by omega) hw zz).2
      have u1 := nz_mono (t0 := t0) (n1 := n1) (s2 := s2) (h_hzx hm z) _ (nX t) ω ω (Nat.le_refl _) rfl (by rw [hl]; exact x1) (fun j _ => Nat.le_refl _)
      have u := Nat.le_trans (hzx_le hm (Nat.le_refl z) _ _ u1) u0
      have q := ih (nY t) ρ (hzx h z (nz t0 n1 s2 h ω (nX t)) :: ω) (nX t :: Γ) Δ (cv + tch (nX t) + 4) cd s0 x3 (he.all x1 x2) (by simpa using o6 (Or.inr c8)) (k3 z ρ rfl) (by rw [List.length_cons, List.length_cons, hl]) (fun j hj => by
        rw [vw_cons]
        by_cases e : j = ω.length
        · rw [if_pos e]; exact u
        · rw [if_neg e]
          have := hw j (by rw [List.length_cons] at hj; omega)
          omega) (by omega) (fun _ => Nat.le_trans zr (hzs rfl)) hd hcd (by omega)
      unfold GSk
      rw [if_neg (by omega), if_neg (by omega), if_neg (by omega), if_pos c8]
      show LRk P E0 p Z (cv + cd) s0 (mch t) (GSk t0 n1 s2 h (Ek E0 p) f (nY t) ρ (hzx h z (nz t0 n1 s2 h ω (nX t)) :: ω) (nX t :: Γ) Δ)
      by_cases er : ρ = []
      · subst er
        exact Or.inr ((all _ (q.1 rfl)).mono (by omega))
      · rcases q.2 er with ⟨z, s, h1, h2, h3⟩ | q
        · exact Or.inl ⟨z, s, h1, by omega, h3⟩
        · exact Or.inr ((all _ q).mono (by omega))
theorem SG_9 (hm : ∀ y y', y ≤ y' → h y ≤ h y') (T : TBs N t0 fn s2 hv r0 r1 r2 r3 x0 n1 h P Q F G X) (hx : PXk N P F X fn s2 r1 = true) (h21 : r2 ≤ r1) (h32 : r3 ≤ r2) (hz : ZOk Z) (ih : SGk N t0 n1 s2 h P X E0 p Z f) (w : TWf (f + 1) Γ.length (Δ.map (fun a => a.1)) t) (he : TE Γ Δ) (co : COk (f + 1) t π.length) (aq : AQk t0 n1 s2 h E0 p Z (f + 1) t π ω) (hl : ω.length = Γ.length) (hw : ∀ j, j < ω.length → vw ω j ≤ X.getD cv 0) (hzm : zm π ≤ X.getD cv 0) (hzs : hs π = true → zm π ≤ Z (s0 + 1)) (hd : dch Δ ≤ cd) (hcd : 2 ≤ cd) (hb : cv + cd + 2 * mch t ≤ N) (c9 : nKd t = 9) : (π = [] → BF P E0 p Z (cv + cd) (mch t) (GSk t0 n1 s2 h (Ek E0 p) (f + 1) t [] ω Γ Δ)) ∧ (π ≠ [] → LRk P E0 p Z (cv + cd) s0 (mch t) (GSk t0 n1 s2 h (Ek E0 p) (f + 1) t π ω Γ Δ)) := by
  have mp := mch_pos w
  have hz0 : 0 ≤ X.getD cv 0 := Nat.zero_le _
  obtain ⟨w0, w5, w6, w7, w8, w9, w10, w11, w12⟩ := w
  obtain ⟨o6, o7, o10, o12⟩ := co
  obtain ⟨a6, a7, a8, a9, a10, a12⟩ := aq
  have em := mch_is w0.2.1
  have hN := T.2.2.2.2.2.2.1
  have hp := T.2.2.2.2.2.1
  rw [if_neg (by omega), if_neg (by omega), if_pos c9] at em
  obtain ⟨x1, x2, x3⟩ := w9 c9
  have tp := tch_pos x2
  obtain ⟨⟨k1, k2, k3⟩, k4⟩ := a9 c9
  have e1 : 1 ≤ mch (nX t) := by
    cases f with
    | zero => exact x1.elim
    | succ f => exact mch_pos x1
  have eg : ∀ ρ, GSk t0 n1 s2 h (Ek E0 p) (f + 1) t ρ ω Γ Δ = GSk t0 n1 s2 h (Ek E0 p) f (nX t) (some (nz t0 n1 s2 h ω (nY t)) :: ρ) ω Γ Δ := by
    intro ρ
    conv => lhs; unfold GSk
    rw [if_neg (by omega), if_neg (by omega), if_neg (by omega), if_neg (by omega), if_pos c9]
  rw [eg, eg]
  have zZ : ∀ s1, (hs π = true → zm π ≤ Z (s1 + 1)) → max (nz t0 n1 s2 h ω (nY t)) (zm π) ≤ Z (s1 + (tch (nY t) + 1) + 1) := by
    intro s1 hz1
    have a1 := hz.le (s := tch (nY t) + 2) (t := s1 + (tch (nY t) + 1) + 1) (by omega)
    have a2 := hz.le (s := s1 + 1) (t := s1 + (tch (nY t) + 1) + 1) (by omega)
    have a3 : zm π ≤ Z (s1 + (tch (nY t) + 1) + 1) := by
      by_cases ch : hs π = true
      · exact Nat.le_trans (hz1 ch) a2
      · rw [zm_hs π (by simpa using ch)]; exact Nat.zero_le _
    omega
  have main : ∀ s1, (hs π = true → zm π ≤ Z (s1 + 1)) → LRk P E0 p Z (cv + cd) s1 (mch t) (GSk t0 n1 s2 h (Ek E0 p) f (nX t) (some (nz t0 n1 s2 h ω (nY t)) :: π) ω Γ Δ) := by
    intro s1 hz1
    have zq := zZ s1 hz1
    by_cases eq : tch (nY t) = 1
    · have u := val_arg (z := zm π) (cv := cv) (c := cv) T (A := nY t) (by rw [hl]; exact x2) hw hzm (Nat.le_refl _) (Or.inl eq) (by omega)
      have u1 := nz_mono (t0 := t0) (n1 := n1) (s2 := s2) (h_hzx hm (zm π)) _ (nY t) ω ω (Nat.le_refl _) rfl (by rw [hl]; exact x2) (fun j _ => Nat.le_refl _)
      have q := (ih (nX t) (some (nz t0 n1 s2 h ω (nY t)) :: π) ω Γ Δ cv cd (s1 + (tch (nY t) + 1)) x1 he (o7 (by omega)) k4 hl hw (by show max _ (zm π) ≤ _; omega) (fun _ => zq) hd hcd (by omega)).2 (by simp)
      rcases q with ⟨z, s, h1, h2, h3⟩ | q
      · exact Or.inl ⟨z, s, h1, by omega, h3⟩
      · exact Or.inr (q.up hp hz (by omega) hb)
    · have u := val_arg (z := zm π) (cv := cv) (c := cv + tch (nY t) + 4) T (A := nY t) (by rw [hl]; exact x2) hw hzm (by omega) (Or.inr (Nat.le_refl _)) (by omega)
      have u1 := nz_mono (t0 := t0) (n1 := n1) (s2 := s2) (h_hzx hm (zm π)) _ (nY t) ω ω (Nat.le_refl _) rfl (by rw [hl]; exact x2) (fun j _ => Nat.le_refl _)
      have q3 := fxc_le T.2.1 (c := cv) (d := cv + tch (nY t) + 4) (by omega) (by omega)
      have hw3 : ∀ j, j < ω.length → vw ω j ≤ X.getD (cv + tch (nY t) + 4) 0 := fun j hj => Nat.le_trans (hw j hj) q3
      have q := (ih (nX t) (some (nz t0 n1 s2 h ω (nY t)) :: π) ω Γ Δ (cv + tch (nY t) + 4) cd (s1 + (tch (nY t) + 1)) x1 he (o7 (by omega)) k4 hl hw3 (by show max _ (zm π) ≤ _; omega) (fun _ => zq) hd hcd (by omega)).2 (by simp)
      rcases q with ⟨z, s, h1, h2, h3⟩ | q
      · exact Or.inl ⟨z, s, h1, by omega, h3⟩
      · rw [show cv + tch (nY t) + 4 + cd = cv + cd + tch (nY t) + 4 by omega] at q
        have q2 := BF.arg hp (by omega) q (by omega)
        rw [show mch (nX t) + tch (nY t) + 1 = mch t by omega] at q2
        exact Or.inr q2
  refine ⟨fun e => ?_, fun _ => main s0 hzs⟩
  have q1 := main 0 (by subst e; intro c; cases c)
  subst e
  exact q1.bf hz (by omega)
theorem SG_10 (hm : ∀ y y', y ≤ y' → h y ≤ h y') (T : TBs N t0 fn s2 hv r0 r1 r2 r3 x0 n1 h P Q F G X) (hx : PXk N P F X fn s2 r1 = true) (h21 : r2 ≤ r1) (h32 : r3 ≤ r2) (hz : ZOk Z) (ih : SGk N t0 n1 s2 h P X E0 p Z f) (w : TWf (f + 1) Γ.length (Δ.map (fun a => a.1)) t) (he : TE Γ Δ) (co : COk (f + 1) t π.length) (aq : AQk t0 n1 s2 h E0 p Z (f + 1) t π ω) (hl : ω.length = Γ.length) (hw : ∀ j, j < ω.length → vw ω j ≤ X.getD cv 0) (hzm : zm π ≤ X.getD cv 0) (hzs : hs π = true → zm π ≤ Z (s0 + 1)) (hd : dch Δ ≤ cd) (hcd : 2 ≤ cd) (hb : cv + cd + 2 * mch t ≤ N) (c10 : nKd t = 10) : (π = [] → BF P E0 p Z (cv + cd) (mch t) (GSk t0 n1 s2 h (Ek E0 p) (f + 1) t [] ω Γ Δ)) ∧ (π ≠ [] → LRk P E0 p Z (cv + cd) s0 (mch t) (GSk t0 n1 s2 h (Ek E0 p) (f + 1) t π ω Γ Δ)) := by
  have mp := mch_pos w
  have hz0 : 0 ≤ X.getD cv 0 := Nat.zero_le _
  obtain ⟨w0, w5, w6, w7, w8, w9, w10, w11, w12⟩ := w
  obtain ⟨o6, o7, o10, o12⟩ := co
  obtain ⟨a6, a7, a8, a9, a10, a12⟩ := aq
  have em := mch_is w0.2.1
  have hN := T.2.2.2.2.2.2.1
  have hp := T.2.2.2.2.2.1
  rw [if_neg (by omega), if_neg (by omega), if_neg (by omega), if_pos c10] at em
  obtain ⟨m8, x1⟩ := w10 c10
  have m0 : mch (nX t) ≤ mch t ∧ mch (nY t) ≤ mch t ∧ mch (nZ t) ≤ mch t := by
    rw [em]
    exact ⟨Nat.le_trans (Nat.le_add_right _ _) (Nat.le_add_left _ _), Nat.le_trans (Nat.le_trans (Nat.le_add_right _ _) (Nat.le_add_left _ _)) (Nat.le_add_left _ _), Nat.le_trans (Nat.le_trans (Nat.le_add_left _ _) (Nat.le_add_left _ _)) (Nat.le_add_left _ _)⟩
  cases π with
  | nil =>
    refine ⟨fun _ => ?_, fun e => absurd rfl e⟩
    have k : ∀ g, g < 3 → bit (nMk t) g = true → mch (nP t g) ≤ mch t → BF P E0 p Z (cv + cd) (mch (nP t g)) (GSk t0 n1 s2 h (Ek E0 p) f (nP t g) [] ω Γ Δ) := fun g hg hbg hmg => (ih (nP t g) [] ω Γ Δ cv cd s0 (x1 g hg hbg) he (o10 c10 g hg hbg) ((a10 c10 g hg hbg).1 rfl) hl hw hzm hzs hd hcd (by omega)).1 rfl
    unfold GSk
    rw [if_neg (by omega), if_neg (by omega), if_neg (by omega), if_neg (by omega), if_neg (by omega), if_pos c10]
    rw [em] at hb ⊢
    exact BF_rec T hx h21 h32 hz m8 (by omega) (fun hbg => k 0 (by decide) hbg m0.1) (fun hbg => k 1 (by decide) hbg m0.2.1) (fun hbg => k 2 (by decide) hbg m0.2.2) hb
  | cons o ρ =>
    refine ⟨fun e => (by cases e), fun _ => ?_⟩
    cases o with
    | some z =>
      unfold GSk
      rw [if_neg (by omega), if_neg (by omega), if_neg (by omega), if_neg (by omega), if_neg (by omega), if_pos c10]
      exact LRk.zero hz mp
    | none =>
      have k : ∀ g, g < 3 → mch (nP t g) ≤ mch t → LRk P E0 p Z (cv + cd) s0 (mch t) (if bit (nMk t) g = true then GSk t0 n1 s2 h (Ek E0 p) f (nP t g) ρ ω Γ Δ else 0) := by
        intro g hg hmg
        by_cases hbg : bit (nMk t) g = true
        · rw [if_pos hbg]
          have q := ih (nP t g) ρ ω Γ Δ cv cd s0 (x1 g hg hbg) he (by simpa using o10 c10 g hg hbg) ((a10 c10 g hg hbg).2 ρ rfl) hl hw hzm hzs hd hcd (by omega)
          by_cases er : ρ = []
          · subst er
            exact Or.inr ((q.1 rfl).up hp hz hmg hb)
          · exact (q.2 er).up hp hz hmg hb
        · rw [if_neg hbg]; exact LRk.zero hz mp
      unfold GSk
      rw [if_neg (by omega), if_neg (by omega), if_neg (by omega), if_neg (by omega), if_neg (by omega), if_pos c10]
      exact (k 0 (by decide) m0.1).mx ((k 1 (by decide) m0.2.1).mx (k 2 (by decide) m0.2.2))
theorem SG_12 (hm : ∀ y y', y ≤ y' → h y ≤ h y') (T : TBs N t0 fn s2 hv r0 r1 r2 r3 x0 n1 h P Q F G X) (hx : PXk N P F X fn s2 r1 = true) (h21 : r2 ≤ r1) (h32 : r3 ≤ r2) (hz : ZOk Z) (ih : SGk N t0 n1 s2 h P X E0 p Z f) (w : TWf (f + 1) Γ.length (Δ.map (fun a => a.1)) t) (he : TE Γ Δ) (co : COk (f + 1) t π.length) (aq : AQk t0 n1 s2 h E0 p Z (f + 1) t π ω) (hl : ω.length = Γ.length) (hw : ∀ j, j < ω.length → vw ω j ≤ X.getD cv 0) (hzm : zm π ≤ X.getD cv 0) (hzs : hs π = true → zm π ≤ Z (s0 + 1)) (hd : dch Δ ≤ cd) (hcd : 2 ≤ cd) (hb : cv + cd + 2 * mch t ≤ N) (c12 : nKd t = 12) : (π = [] → BF P E0 p Z (cv + cd) (mch t) (GSk t0 n1 s2 h (Ek E0 p) (f + 1) t [] ω Γ Δ)) ∧ (π ≠ [] → LRk P E0 p Z (cv + cd) s0 (mch t) (GSk t0 n1 s2 h (Ek E0 p) (f + 1) t π ω Γ Δ)) := by
  have mp := mch_pos w
  have hz0 : 0 ≤ X.getD cv 0 := Nat.zero_le _
  obtain ⟨w0, w5, w6, w7, w8, w9, w10, w11, w12⟩ := w
  obtain ⟨o6, o7, o10, o12⟩ := co
  obtain ⟨a6, a7, a8, a9, a10, a12⟩ := aq
  have em := mch_is w0.2.1
  have hN := T.2.2.2.2.2.2.1
  have hp := T.2.2.2.2.2.1
  rw [if_neg (by omega), if_neg (by omega), if_neg (by omega), if_neg (by omega)] at em
  obtain ⟨x1, x2⟩ := w7 (Or.inr c12)
  obtain ⟨k0, k1, k2⟩ := o12 c12
  have e : π = [] := List.eq_nil_of_length_eq_zero k0
  subst e
  refine ⟨fun _ => ?_, fun e => absurd rfl e⟩
  have e1 : 1 ≤ mch (nX t) := by
    cases f with
    | zero => exact x1.elim
    | succ f => exact mch_pos x1
  have e2 : 1 ≤ mch (nY t) := by
    cases f with
    | zero => exact x2.elim
    | succ f => exact mch_pos x2
  have q1 := (ih (nX t) [] ω Γ Δ cv cd s0 x1 he k1 (a12 c12).1 hl hw hzm hzs hd hcd (by omega)).1 rfl
  have q2 := (ih (nY t) [] ω Γ Δ cv cd s0 x2 he k2 (a12 c12).2 hl hw hzm hzs hd hcd (by omega)).1 rfl
  rw [GSk.eq_2, if_neg (by omega), if_neg (by omega), if_neg (by omega), if_neg (by omega), if_neg (by omega), if_neg (by omega), if_neg (by omega)]
  by_cases cq : nKd (nX t) = 5 ∧ nKd (nY t) = 5 ∧ nMk (nX t) = nMk (nY t)
  · rw [if_pos cq]
    exact q1.up hp hz (by omega) hb
  rw [if_neg cq]
  by_cases cv5 : nKd (nX t) = 5 ∧ nKd (nY t) = 5
  · cases f with
    | zero => exact x1.elim
    | succ f =>
      obtain ⟨a, ha⟩ := dlk_some (x1.2.1 cv5.1)
      obtain ⟨a', ha'⟩ := dlk_some (x2.2.1 cv5.2)
      have ne : nMk (nX t) ≠ nMk (nY t) := fun e => cq ⟨cv5.1, cv5.2, e⟩
      have d2 := dch_two ha ha' ne
      obtain ⟨g1, g2, g3⟩ := he.2.2 _ (dlk_mem ha)
      obtain ⟨g1', g2', g3'⟩ := he.2.2 _ (dlk_mem ha')
      have g1 : a.2 ≤ Γ.length := g1
      have g1' : a'.2 ≤ Γ.length := g1'
      have g2 : ok a.2 a.1 = true := g2
      have g2' : ok a'.2 a'.1 = true := g2'
      have o := ok_lft a.2 (Γ.length - a.2) a.1 0 g2
      rw [show a.2 + (Γ.length - a.2) + 0 = Γ.length by omega] at o
      have o' := ok_lft a'.2 (Γ.length - a'.2) a'.1 0 g2'
      rw [show a'.2 + (Γ.length - a'.2) + 0 = Γ.length by omega] at o'
      have et : tch (lft a.2 (Γ.length - a.2) a.1) = tch a.1 := tch_lft _ _ _ _ g2
      have et' : tch (lft a'.2 (Γ.length - a'.2) a'.1) = tch a'.1 := tch_lft _ _ _ _ g2'
      have q3 := val_two (z := 0) (cv := cv) (c := cv + cd) T (by rw [hl]; exact o) (by rw [hl]; exact o') (by rw [et, et']; omega) (by omega) hw hz0
      rw [hzx_0] at q3
      have q4 := (psc_m hp (c := cv + cd) mp hb).1
      rw [GSk.eq_2, if_pos cv5.1, GSk.eq_2, if_pos cv5.2, ha, ha']
      show BF P E0 p Z (cv + cd) (mch t) (vz t0 n1 s2 h (Ek E0 p) (lft a.2 (Γ.length - a.2) a.1) [] ω + vz t0 n1 s2 h (Ek E0 p) (lft a'.2 (Γ.length - a'.2) a'.1) [] ω)
      rw [vz_no o, vz_no o']
      exact BF.base hz mp (by omega)
  have three : 3 ≤ mch (nX t) + mch (nY t) := by
    cases f with
    | zero => exact x1.elim
    | succ f =>
      by_cases c1 : nKd (nX t) = 5
      · have := mch_two x2 (fun e => cv5 ⟨c1, e⟩)
        omega
      · have := mch_two x1 c1
        omega
  have q3 := BF.two hp hz q1 q2 three e1 e2 (by omega)
  rw [em, show 2 + (mch (nX t) + mch (nY t)) = mch (nX t) + mch (nY t) + 2 by omega]
  exact q3
end
theorem SG_le (hm : ∀ y y', y ≤ y' → h y ≤ h y') (T : TBs N t0 fn s2 hv r0 r1 r2 r3 x0 n1 h P Q F G X) (hx : PXk N P F X fn s2 r1 = true) (h21 : r2 ≤ r1) (h32 : r3 ≤ r2) (hz : ZOk Z) : ∀ f, SGk N t0 n1 s2 h P X E0 p Z f
  | 0 => fun _ _ _ _ _ _ _ _ w => w.elim
  | f + 1 => by
    intro t π ω Γ Δ cv cd s0 w he co aq hl hw hzm hzs hd hcd hb
    have ih := SG_le hm T hx h21 h32 hz f
    have kk := w.1.1
    have k1 := kk.1
    have k2 := kk.2
    by_cases c5 : nKd t = 5
    · exact SG_5 hm T hx h21 h32 hz ih w he co aq hl hw hzm hzs hd hcd hb c5
    by_cases c6 : nKd t = 6
    · exact SG_6 hm T hx h21 h32 hz ih w he co aq hl hw hzm hzs hd hcd hb c6
    by_cases c7 : nKd t = 7 ∨ nKd t = 11
    · exact SG_7 hm T hx h21 h32 hz ih w he co aq hl hw hzm hzs hd hcd hb c7
    by_cases c8 : nKd t = 8
    · exact SG_8 hm T hx h21 h32 hz ih w he co aq hl hw hzm hzs hd hcd hb c8
    by_cases c9 : nKd t = 9
    · exact SG_9 hm T hx h21 h32 hz ih w he co aq hl hw hzm hzs hd hcd hb c9
    by_cases c10 : nKd t = 10
    · exact SG_10 hm T hx h21 h32 hz ih w he co aq hl hw hzm hzs hd hcd hb c10
    · exact SG_12 hm T hx h21 h32 hz ih w he co aq hl hw hzm hzs hd hcd hb (by omega)
end PmQ5
