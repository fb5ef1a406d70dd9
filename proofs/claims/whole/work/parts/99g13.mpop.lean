/-! THE MODEL RUNS: a frame is taken off, an environment grows, a part of a record is put in. -/
def mEnv (N : pm_M) (es x y z : Int) : pm_M := mset (mset (mset (mset N 87 es x) 88 es y) 89 es z) 56 50 (es + 1)
section PmG13
variable {N N' : pm_M} {a b st st' vs es fr pc pc' : Nat} {H : Int → Option Ty} {k : List Fr} {f : Fr}
theorem BR.top (h : BR N a b st vs es fr H (f :: k) pc) : ∃ q, fr = q + 1 ∧ FrM N a b es H f (q : Int) vs := by
  obtain ⟨-, -, -, q, e, h1, -⟩ := h
  exact ⟨q, e, h1⟩
theorem FRs.below {q : Nat} {lim : Int} (h : FRs N a b es H (f :: k) (q + 1) lim) : FrM N a b es H f (q : Int) lim ∧ FRs N a b es H k q (if nKd f.1 = 10 then N 97 (q : Int) else lim) := by
  obtain ⟨q', e, h1, h2⟩ := h
  have : q' = q := by omega
  subst this
  exact ⟨h1, h2⟩
theorem BR.pop {q : Nat} (h : BR N a b st vs es (q + 1) H (f :: k) pc) (hp : pc' + 60 * st ≤ pc + 60 * st') (hs : st ≤ st') : BR (mset N 56 59 (q : Int)) a b st' vs es q H k pc' := by
  obtain ⟨⟨c1, c2, c3⟩, h1, ⟨h2, h3, h4⟩, h5⟩ := h
  obtain ⟨h6, h7⟩ := h5.below
  have e : ∀ (p : Nat) (i : Int), ¬ (p = 56 ∧ i = 59) → mset N 56 59 (q : Int) p i = N p i := fun p i hh => mset_i' hh
  have kp : Kpm N (mset N 56 59 (q : Int)) vs es H := ⟨fun p i p1 p2 => e p i (by omega), fun p i p1 p2 _ _ => e p i (by omega), fun p i p1 p2 _ _ => e p i (by omega), fun i g _ _ => e 93 _ (by omega)⟩
  refine ⟨⟨by rw [e 56 54 (by omega)]; exact c1, by rw [e 56 50 (by omega)]; exact c2, by rw [mset_s]⟩, h1.keep kp (Nat.le_refl _), ⟨by omega, by omega, by omega⟩, ?_⟩
  have hl : (if nKd f.1 = 10 then N 97 (q : Int) else (vs : Int)) ≤ vs := by
    by_cases c : nKd f.1 = 10
    · rw [if_pos c]
      obtain ⟨-, -, j, s, ch, -, -, -, -, g⟩ := h6
      have := (g c).2.2.1.2
      omega
    · rw [if_neg c]; exact Int.le_refl _
  exact h7.keep kp (fun _ _ x => x) (Nat.le_refl _) hl hl (fun p q p1 p2 _ _ => e p q (by omega)) (fun i _ _ hn => ⟨hn, fun g _ => e 93 _ (by omega)⟩)
theorem mEnv_o {e x y z : Int} {p : Nat} {i : Int} (h : ¬ (p = 56 ∧ i = 50)) (h2 : ¬ (87 ≤ p ∧ p ≤ 89 ∧ i = e)) : mEnv N e x y z p i = N p i := by
  unfold mEnv
  rw [mset_i' (by omega), mset_i' (by omega), mset_i' (by omega), mset_i' (by omega)]
theorem mEnv_87 {e x y z : Int} : mEnv N e x y z 87 e = x := by
  unfold mEnv
  rw [mset_i' (by omega), mset_i' (by omega), mset_i' (by omega), mset_s]
theorem mEnv_88 {e x y z : Int} : mEnv N e x y z 88 e = y := by
  unfold mEnv
  rw [mset_i' (by omega), mset_i' (by omega), mset_s]
theorem mEnv_89 {e x y z : Int} : mEnv N e x y z 89 e = z := by
  unfold mEnv
  rw [mset_i' (by omega), mset_s]
theorem Kpm.env {x y z : Int} : Kpm N (mEnv N es x y z) vs es H := ⟨fun p i p1 p2 => mEnv_o (by omega) (by omega), fun p i p1 p2 i0 i1 => mEnv_o (by omega) (by omega), fun p i p1 p2 _ _ => mEnv_o (by omega) (by omega), fun i g _ _ => mEnv_o (by omega) (by omega)⟩
theorem BR.env {x y z : Int} (h : BR N a b st vs es fr H k pc) (hs : es + 1 ≤ st) : BR (mEnv N es x y z) a b st vs (es + 1) fr H k pc := by
  obtain ⟨⟨c1, c2, c3⟩, h1, ⟨h2, h3, h4⟩, h5⟩ := h
  exact ⟨⟨by rw [mEnv_o (by omega) (by omega)]; exact c1, by unfold mEnv; rw [mset_s]; omega, by rw [mEnv_o (by omega) (by omega)]; exact c3⟩, h1.keep Kpm.env (by omega), ⟨by omega, by omega, by omega⟩, h5.keep Kpm.env (fun _ _ x => x) (by omega) (Int.le_refl _) (Int.le_refl _) (fun p q p1 p2 _ _ => mEnv_o (by omega) (by omega)) (fun i _ _ hn => ⟨hn, fun g _ => mEnv_o (by omega) (by omega)⟩)⟩
theorem mEnv_R32 {e x y z : Int} (h : ∀ p i, R32 (N p i)) (he : R32 (e + 1)) (hx : R32 x) (hy : R32 y) (hz : R32 z) : ∀ p i, R32 (mEnv N e x y z p i) := mset_R32 (mset_R32 (mset_R32 (mset_R32 h hx) hy) hz) he
theorem MKr.env {N0 : pm_M} {e x y z : Int} (h : MKr N0 N) : MKr N0 (mEnv N e x y z) := (((h.set (Or.inr (by omega))).set (Or.inr (by omega))).set (Or.inr (by omega))).set (Or.inl ⟨rfl, by omega⟩)
theorem isC_is {v : Ty} {c : Nat} (h : isC v c = true) : ∃ t ρ, v = vC t ρ ∧ nKd t = c := by
  cases v with
  | append t ρ => exact ⟨t, ρ, rfl, by simpa [isC] using h⟩
  | _ => cases h
theorem isR_is {v : Ty} {g : Nat} (h : isR v g = true) : ∃ m x, v = .tag m x ∧ bit m g = true := by
  cases v with
  | tag m x => exact ⟨m, x, rfl, h⟩
  | _ => cases h
/-- a function or a term for every type among the values -/
theorem HP.clo {i : Int} {t ρ : Ty} (h : HP N a b vs es H) (hv : H i = some (vC t ρ)) : (0 ≤ i ∧ i < vs) ∧ ∃ j s ch, N 90 i = (nKd t : Int) ∧ N 91 i = ((j : Nat) : Int) ∧ NV N a b t j s ch ∧ EA N es H ch ρ (N 92 i) s := by
  obtain ⟨h1, h2⟩ := h i _ hv
  refine ⟨h1, ?_⟩
  rcases h2 with ⟨t', ρ', j, s, ch, e, g2, g3, g4, g5, g6⟩ | ⟨m, x, y, z, r, e, -⟩
  · unfold vC at e
    injection e with e1 e2
    subst e1; subst e2
    exact ⟨j, s, ch, g3, g4, g5, g6⟩
  · cases e
theorem HP.rec {i : Int} {m : Nat} {x : Ty} (h : HP N a b vs es H) (hv : H i = some (.tag m x)) : (0 ≤ i ∧ i < vs) ∧ ∀ g : Nat, g < 3 → bit m g = true → H (N 93 (3 * i + g)) = some (rP (.tag m x) g) := by
  obtain ⟨h1, h2⟩ := h i _ hv
  refine ⟨h1, ?_⟩
  rcases h2 with ⟨t', ρ', j, s, ch, e, -⟩ | ⟨m', x', y', z', r, e, -, -, -, -, -, g7⟩
  · cases e
  · have e0 := e
    unfold vR at e
    injection e with e1 e2
    subst e1
    rw [e0] at g7 ⊢
    exact g7
/-- where the part behind a part stands -/
theorem pN_next {t : Ty} {j g : Nat} {s : Int} {ch : List (Nat × Int × Nat)} (nv : NV N a b t j s ch) (hk : nKd t = 10) (hg : g < 3) : (nxl (nMk t) (g + 1) < 3 → pN t j g + pnd (nP t g) = pN t j (nxl (nMk t) (g + 1)) ∧ pN t j g + pnd (nP t g) < j + pnd t) ∧ (¬ nxl (nMk t) (g + 1) < 3 → pN t j g + pnd (nP t g) = j + pnd t) := by
  have m8 := nv.mk.2.2.1 hk
  have pt1 := pnd_is nv.sp
  have p1 : ∀ i, i < 3 → bit (nMk t) i = true → 1 ≤ pnd (nP t i) := fun i hi hb => by have := pnd_is (nv.part hk hi hb).sp; omega
  have p0 : ∀ i, i < 3 → bit (nMk t) i = false → pnd (nP t i) = 0 := fun i hi hb => nv.nil hk hi (by rw [hb]; decide)
  have q1 : nP t 1 = nY t := rfl
  have q2 : nP t 2 = nZ t := rfl
  have q0 : nP t 0 = nX t := rfl
  have cg : g = 0 ∨ g = 1 ∨ g = 2 := by omega
  constructor
  · intro hn
    obtain ⟨n1, n2, n3⟩ := nxl_in m8 (g := g + 1) (by omega) hn
    have w := p1 _ hn n2
    have cn : nxl (nMk t) (g + 1) = 1 ∨ nxl (nMk t) (g + 1) = 2 := by omega
    rcases cg with rfl | rfl | rfl
    · rcases cn with e | e
      · rw [e] at w ⊢
        rw [q1] at w
        exact ⟨by unfold pN; rw [if_pos rfl, if_neg (by omega), if_pos rfl, q0], by unfold pN; rw [if_pos rfl, q0]; omega⟩
      · have z1 := p0 1 (by omega) (n3 1 (by omega) (by omega) (by omega))
        rw [e] at w ⊢
        rw [q2] at w
        rw [q1] at z1
        exact ⟨by unfold pN; rw [if_pos rfl, if_neg (by omega), if_neg (by omega), q0]; omega, by unfold pN; rw [if_pos rfl, q0]; omega⟩
    · have e : nxl (nMk t) (1 + 1) = 2 := by omega
      rw [e] at w ⊢
      rw [q2] at w
      exact ⟨by unfold pN; rw [if_neg (by omega), if_pos rfl, if_neg (by omega), if_neg (by omega), q1], by unfold pN; rw [if_neg (by omega), if_pos rfl, q1]; omega⟩
    · omega
  · intro hn
    have n3 := nxl_out m8 (g := g + 1) (by omega) hn
    rcases cg with rfl | rfl | rfl
    · have z1 := p0 1 (by omega) (n3 1 (by omega) (by omega))
      have z2 := p0 2 (by omega) (n3 2 (by omega) (by omega))
      rw [q1] at z1; rw [q2] at z2
      unfold pN; rw [if_pos rfl, q0]; omega
    · have z2 := p0 2 (by omega) (n3 2 (by omega) (by omega))
      rw [q2] at z2
      unfold pN; rw [if_neg (by omega), if_pos rfl, q1]; omega
    · unfold pN; rw [if_neg (by omega), if_neg (by omega), q2]; omega
end PmG13
