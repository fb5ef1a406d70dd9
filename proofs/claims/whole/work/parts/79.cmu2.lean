/-! JOINS AND MEETS WITHOUT A LIMIT, one step. -/
/-- one step asks only for lighter pairs -/
theorem cmsU_congr {r r' : Nat → List Ty → Ty → Ty → Ru} {w : Nat} {Γ : List Ty} {S T : Ty} (h : tok (Γ, S, T)) (e : ∀ w' Δ A B, tok (Δ, A, B) → twt (Δ, A, B) + 1 ≤ twt (Γ, S, T) → r w' Δ A B = r' w' Δ A B) : cmsU r w Γ S T = cmsU r' w Γ S T := by
  obtain ⟨hc0, hs0, ht0⟩ := h
  have hc : okc Γ := hc0
  have hs : ok Γ.length S = true := hs0
  have hT : ok Γ.length T = true := ht0
  clear hc0 hs0 ht0
  unfold cmsU
  by_cases c1 : w = 2
  · rw [if_pos c1, if_pos c1]
  rw [if_neg c1, if_neg c1]
  by_cases c2 : bel Γ S T = true
  · rw [if_pos c2, if_pos c2]
  rw [if_neg c2, if_neg c2]
  by_cases c3 : bel Γ T S = true
  · rw [if_pos c3, if_pos c3]
  rw [if_neg c3, if_neg c3]
  by_cases c4 : 16 ≤ hd S
  · rw [if_pos c4, if_pos c4]
    by_cases c5 : w = 1
    · rw [if_pos c5, if_pos c5]
    rw [if_neg c5, if_neg c5]
    obtain ⟨k, hk, rfl⟩ := hd_is_var hs c4
    have ex : exps Γ (tVar k) = lft k (Γ.length - k) (bnd Γ k) := by unfold exps; rw [hd_var, show 16 + k - 16 = k by omega]
    rw [ex]
    refine e _ _ _ _ ⟨hc, ok_expose hc hk, hT⟩ ?_
    show wt (om Γ) (lft k (Γ.length - k) (bnd Γ k)) + wt (om Γ) T + 1 ≤ wt (om Γ) (tVar k) + wt (om Γ) T
    rw [wt_expose hc hk, wt_var]
    omega
  rw [if_neg c4, if_neg c4]
  by_cases c6 : 16 ≤ hd T
  · rw [if_pos c6, if_pos c6]
    by_cases c5 : w = 1
    · rw [if_pos c5, if_pos c5]
    rw [if_neg c5, if_neg c5]
    obtain ⟨k, hk, rfl⟩ := hd_is_var hT c6
    have ex : exps Γ (tVar k) = lft k (Γ.length - k) (bnd Γ k) := by unfold exps; rw [hd_var, show 16 + k - 16 = k by omega]
    rw [ex]
    refine e _ _ _ _ ⟨hc, hs, ok_expose hc hk⟩ ?_
    show wt (om Γ) S + wt (om Γ) (lft k (Γ.length - k) (bnd Γ k)) + 1 ≤ wt (om Γ) S + wt (om Γ) (tVar k)
    rw [wt_expose hc hk, wt_var]
    omega
  rw [if_neg c6, if_neg c6]
  by_cases c7 : 8 ≤ hd S ∧ 8 ≤ hd T
  · rw [if_pos c7, if_pos c7]
    obtain ⟨m, x, y, z, hm, rfl⟩ := hd_is_rec hs c7.1 (by omega)
    obtain ⟨m', x', y', z', hm', rfl⟩ := hd_is_rec hT c7.2 (by omega)
    obtain ⟨h0, h1, h2⟩ := (ok_rec hm).mp hs
    obtain ⟨h0', h1', h2'⟩ := (ok_rec hm').mp hT
    rw [hd_rec, hd_rec, show 8 + m - 8 = m by omega, show 8 + m' - 8 = m' by omega]
    have key : ∀ i (p q : Ty), okl Γ.length m i p → okl Γ.length m' i q → wt (om Γ) p + wt (om Γ) q + 1 ≤ wt (om Γ) (tRec m x y z) + wt (om Γ) (tRec m' x' y' z') → upart (r w Γ) (lset w m m') m m' i p q = upart (r' w Γ) (lset w m m') m m' i p q := by
      intro i p q hp hq hw
      unfold upart
      by_cases d1 : bit (lset w m m') i = true
      · rw [if_pos d1, if_pos d1]
        by_cases d2 : bit m i = true
        · rw [if_pos d2, if_pos d2]
          by_cases d3 : bit m' i = true
          · rw [if_pos d3, if_pos d3]
            exact e _ _ _ _ ⟨hc, okl_on hp (bit_iff.mp d2), okl_on hq (bit_iff.mp d3)⟩ hw
          · rw [if_neg d3, if_neg d3]
        · rw [if_neg d2, if_neg d2]
      · rw [if_neg d1, if_neg d1]
    have a0 := key 0 x x' h0 h0' (by rw [wt_rec, wt_rec]; omega)
    have a1 := key 1 y y' h1 h1' (by rw [wt_rec, wt_rec]; omega)
    have a2 := key 2 z z' h2 h2' (by rw [wt_rec, wt_rec]; omega)
    show uRec w (lset w m m') (upart (r w Γ) (lset w m m') m m' 0 x x') (upart (r w Γ) (lset w m m') m m' 1 y y') (upart (r w Γ) (lset w m m') m m' 2 z z') = uRec w (lset w m m') (upart (r' w Γ) (lset w m m') m m' 0 x x') (upart (r' w Γ) (lset w m m') m m' 1 y y') (upart (r' w Γ) (lset w m m') m m' 2 z z')
    rw [a0, a1, a2]
  rw [if_neg c7, if_neg c7]
  by_cases c8 : hd S = 1 ∧ hd T = 1
  · rw [if_pos c8, if_pos c8]
    obtain ⟨a, b, rfl, ha, hb⟩ := hd_is_fun hs c8.1
    obtain ⟨a', b', rfl, ha', hb'⟩ := hd_is_fun hT c8.2
    have w1 : wt (om Γ) a + wt (om Γ) a' + 1 ≤ wt (om Γ) (tFun a b) + wt (om Γ) (tFun a' b') := by rw [wt_fun, wt_fun]; omega
    have w2 : wt (om Γ) b + wt (om Γ) b' + 1 ≤ wt (om Γ) (tFun a b) + wt (om Γ) (tFun a' b') := by rw [wt_fun, wt_fun]; omega
    have a1 := e (1 - w) Γ a a' ⟨hc, ha, ha'⟩ w1
    have a2 := e w Γ b b' ⟨hc, hb, hb'⟩ w2
    show uFun w (r (1 - w) Γ a a') (r w Γ b b') = uFun w (r' (1 - w) Γ a a') (r' w Γ b b')
    rw [a1, a2]
  rw [if_neg c8, if_neg c8]
  by_cases c9 : hd S = 2 ∧ hd T = 2 ∧ flat (k1 S) = flat (k1 T)
  · rw [if_pos c9, if_pos c9]
    obtain ⟨a, b, rfl, ha, hb⟩ := hd_is_all hs c9.1
    obtain ⟨a', b', rfl, ha', hb'⟩ := hd_is_all hT c9.2.1
    have ea : a = a' := flat_eq ha ha' c9.2.2
    subst ea
    have w1 : wt (wt (om Γ) a :: om Γ) b + wt (wt (om Γ) a :: om Γ) b' + 1 ≤ wt (om Γ) (tAll a b) + wt (om Γ) (tAll a b') := by rw [wt_all, wt_all]; omega
    have a1 := e w (a :: Γ) b b' ⟨⟨ha, hc⟩, hb, hb'⟩ w1
    show uAll w a (r w (a :: Γ) b b') = uAll w a (r' w (a :: Γ) b b')
    rw [a1]
  rw [if_neg c9, if_neg c9]
theorem cu_more : ∀ (f g w : Nat) (Γ : List Ty) (S T : Ty), tok (Γ, S, T) → twt (Γ, S, T) ≤ f → twt (Γ, S, T) ≤ g → cu f w Γ S T = cu g w Γ S T
  | 0, g, w, Γ, S, T, h, hf, _ => by have := twt_two h; omega
  | f + 1, 0, w, Γ, S, T, h, _, hg => by have := twt_two h; omega
  | f + 1, g + 1, w, Γ, S, T, h, hf, hg => cmsU_congr h (fun w' Δ A B h' hw => cu_more f g w' Δ A B h' (by omega) (by omega))
theorem cmu_eq {w : Nat} {Γ : List Ty} {S T : Ty} (h : tok (Γ, S, T)) : cmu w Γ S T = cmsU cmu w Γ S T := by
  have h2 := twt_two h
  have e : cmu w Γ S T = cu (twt (Γ, S, T)) w Γ S T := rfl
  rw [e]
  obtain ⟨k, hk⟩ : ∃ k, twt (Γ, S, T) = k + 1 := ⟨twt (Γ, S, T) - 1, by omega⟩
  rw [hk]
  exact cmsU_congr h (fun w' Δ A B h' hw => cu_more _ _ w' Δ A B h' (by omega) (Nat.le_refl _))

section PmU
variable {w : Nat} {Γ : List Ty} {S T : Ty}
theorem cu_lo (h : tok (Γ, S, T)) (w2 : w ≠ 2) (b : bel Γ S T = true) : cmu w Γ S T = some (if w = 0 then T else S) := by
  rw [cmu_eq h]; unfold cmsU; rw [if_neg w2, if_pos b]
theorem cu_hi (h : tok (Γ, S, T)) (w2 : w ≠ 2) (b : ¬ bel Γ S T = true) (b' : bel Γ T S = true) : cmu w Γ S T = some (if w = 0 then S else T) := by
  rw [cmu_eq h]; unfold cmsU; rw [if_neg w2, if_neg b, if_pos b']
theorem cu_v1 (h : tok (Γ, S, T)) (w2 : w ≠ 2) (b : ¬ bel Γ S T = true) (b' : ¬ bel Γ T S = true) (hv : 16 ≤ hd S) : cmu w Γ S T = if w = 1 then none else cmu w Γ (exps Γ S) T := by
  rw [cmu_eq h]; unfold cmsU; rw [if_neg w2, if_neg b, if_neg b', if_pos hv]
theorem cu_v2 (h : tok (Γ, S, T)) (w2 : w ≠ 2) (b : ¬ bel Γ S T = true) (b' : ¬ bel Γ T S = true) (n1 : ¬ 16 ≤ hd S) (hv : 16 ≤ hd T) : cmu w Γ S T = if w = 1 then none else cmu w Γ S (exps Γ T) := by
  rw [cmu_eq h]; unfold cmsU; rw [if_neg w2, if_neg b, if_neg b', if_neg n1, if_pos hv]
theorem cu_no (h : tok (Γ, S, T)) (w2 : w ≠ 2) (b : ¬ bel Γ S T = true) (b' : ¬ bel Γ T S = true) (n1 : ¬ 16 ≤ hd S) (n2 : ¬ 16 ≤ hd T) (n3 : ¬ (8 ≤ hd S ∧ 8 ≤ hd T)) (n4 : hd S ≠ hd T) : cmu w Γ S T = tnu w := by
  rw [cmu_eq h]; unfold cmsU; rw [if_neg w2, if_neg b, if_neg b', if_neg n1, if_neg n2, if_neg n3, if_neg (by omega), if_neg (by omega)]
theorem cu_fun {A C A' C' : Ty} (h : tok (Γ, tFun A C, tFun A' C')) (w2 : w ≠ 2) (b : ¬ bel Γ (tFun A C) (tFun A' C') = true) (b' : ¬ bel Γ (tFun A' C') (tFun A C) = true) : cmu w Γ (tFun A C) (tFun A' C') = uFun w (cmu (1 - w) Γ A A') (cmu w Γ C C') := by
  rw [cmu_eq h]; unfold cmsU
  rw [if_neg w2, if_neg b, if_neg b', if_neg (by rw [hd_fun]; omega), if_neg (by rw [hd_fun]; omega), if_neg (by rw [hd_fun]; omega), if_pos ⟨hd_fun _ _, hd_fun _ _⟩]; rfl
theorem cu_all {A C C' : Ty} (h : tok (Γ, tAll A C, tAll A C')) (w2 : w ≠ 2) (b : ¬ bel Γ (tAll A C) (tAll A C') = true) (b' : ¬ bel Γ (tAll A C') (tAll A C) = true) : cmu w Γ (tAll A C) (tAll A C') = uAll w A (cmu w (A :: Γ) C C') := by
  rw [cmu_eq h]; unfold cmsU
  rw [if_neg w2, if_neg b, if_neg b', if_neg (by rw [hd_all]; omega), if_neg (by rw [hd_all]; omega), if_neg (by rw [hd_all]; omega), if_neg (by rw [hd_all]; omega), if_pos ⟨hd_all _ _, hd_all _ _, rfl⟩]; rfl
theorem cu_alln {A A' C C' : Ty} (h : tok (Γ, tAll A C, tAll A' C')) (w2 : w ≠ 2) (b : ¬ bel Γ (tAll A C) (tAll A' C') = true) (b' : ¬ bel Γ (tAll A' C') (tAll A C) = true) (hne : ¬ flat A = flat A') : cmu w Γ (tAll A C) (tAll A' C') = tnu w := by
  rw [cmu_eq h]; unfold cmsU
  rw [if_neg w2, if_neg b, if_neg b', if_neg (by rw [hd_all]; omega), if_neg (by rw [hd_all]; omega), if_neg (by rw [hd_all]; omega), if_neg (by rw [hd_all]; omega), if_neg (fun e => hne e.2.2)]
theorem cu_rec {m m' : Nat} {X0 X1 X2 Y0 Y1 Y2 : Ty} (hm : m < 8) (hm' : m' < 8) (h : tok (Γ, tRec m X0 X1 X2, tRec m' Y0 Y1 Y2)) (w2 : w ≠ 2) (b : ¬ bel Γ (tRec m X0 X1 X2) (tRec m' Y0 Y1 Y2) = true) (b' : ¬ bel Γ (tRec m' Y0 Y1 Y2) (tRec m X0 X1 X2) = true) : cmu w Γ (tRec m X0 X1 X2) (tRec m' Y0 Y1 Y2) = uRec w (lset w m m') (upart (cmu w Γ) (lset w m m') m m' 0 X0 Y0) (upart (cmu w Γ) (lset w m m') m m' 1 X1 Y1) (upart (cmu w Γ) (lset w m m') m m' 2 X2 Y2) := by
  rw [cmu_eq h]; unfold cmsU
  rw [if_neg w2, if_neg b, if_neg b', if_neg (by rw [hd_rec]; omega), if_neg (by rw [hd_rec]; omega), if_pos (by rw [hd_rec, hd_rec]; omega), hd_rec, hd_rec, show 8 + m - 8 = m by omega, show 8 + m' - 8 = m' by omega]
  rfl
end PmU
