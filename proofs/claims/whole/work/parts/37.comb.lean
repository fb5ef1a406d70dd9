/-! JOINS AND MEETS: what combine finds (none: nothing; some none: too large; some (some t): t). -/
abbrev Rs : Type := Option (Option Ty)
def tn (w : Nat) : Rs := if w = 0 then some (some tTop) else none
def lim (t : Ty) : Rs := if (flat t).length ≤ 16 then some (some t) else some none
def bFun (w : Nat) : Rs → Rs → Rs
  | none, _ => tn w
  | some _, none => tn w
  | some none, some _ => some none
  | some (some _), some none => some none
  | some (some a), some (some b) => lim (tFun a b)
def bAll (w : Nat) (A : Ty) : Rs → Rs
  | none => tn w
  | some none => some none
  | some (some b) => lim (tAll A b)
def bRec (w m : Nat) : Rs → Rs → Rs → Rs
  | none, _, _ => tn w
  | some _, none, _ => tn w
  | some _, some _, none => tn w
  | some none, some _, some _ => some none
  | some (some _), some none, some _ => some none
  | some (some _), some (some _), some none => some none
  | some (some a), some (some b), some (some c) => lim (tRec m a b c)
/-- the bound of a variable, where it is used -/
def exps (Γ : List Ty) (S : Ty) : Ty := lft (hd S - 16) (Γ.length - (hd S - 16)) (bnd Γ (hd S - 16))
/-- the set of labels of what is built -/
def lset (w m m' : Nat) : Nat := if w = 0 then m &&& m' else m ||| m'
/-- the part at a label -/
def lpart (r : Ty → Ty → Rs) (set m m' i : Nat) (x y : Ty) : Rs :=
  if bit set i then (if bit m i then (if bit m' i then r x y else some (some x)) else some (some y)) else some (some .nil)
def cms (r : Nat → List Ty → Ty → Ty → Rs) (w : Nat) (Γ : List Ty) (S T : Ty) : Rs :=
  if w = 2 then some (some S)
  else if bel Γ S T = true then some (some (if w = 0 then T else S))
  else if bel Γ T S = true then some (some (if w = 0 then S else T))
  else if 16 ≤ hd S then (if w = 1 then none else r w Γ (exps Γ S) T)
  else if 16 ≤ hd T then (if w = 1 then none else r w Γ S (exps Γ T))
  else if 8 ≤ hd S ∧ 8 ≤ hd T then
    bRec w (lset w (hd S - 8) (hd T - 8)) (lpart (r w Γ) (lset w (hd S - 8) (hd T - 8)) (hd S - 8) (hd T - 8) 0 (k1 S) (k1 T)) (lpart (r w Γ) (lset w (hd S - 8) (hd T - 8)) (hd S - 8) (hd T - 8) 1 (r2 S) (r2 T)) (lpart (r w Γ) (lset w (hd S - 8) (hd T - 8)) (hd S - 8) (hd T - 8) 2 (r3 S) (r3 T))
  else if hd S = 1 ∧ hd T = 1 then bFun w (r (1 - w) Γ (k1 S) (k1 T)) (r w Γ (k2 S) (k2 T))
  else if hd S = 2 ∧ hd T = 2 ∧ flat (k1 S) = flat (k1 T) then bAll w (k1 S) (r w (k1 S :: Γ) (k2 S) (k2 T))
  else tn w
def cm : Nat → Nat → List Ty → Ty → Ty → Rs
  | 0, _, _, _, _ => none
  | f + 1, w, Γ, S, T => cms (cm f) w Γ S T
/-- one step asks only for lighter pairs -/
theorem cms_congr {r r' : Nat → List Ty → Ty → Ty → Rs} {w : Nat} {Γ : List Ty} {S T : Ty} (h : tok (Γ, S, T)) (e : ∀ w' Δ A B, tok (Δ, A, B) → twt (Δ, A, B) + 1 ≤ twt (Γ, S, T) → r w' Δ A B = r' w' Δ A B) : cms r w Γ S T = cms r' w Γ S T := by
  obtain ⟨hc0, hs0, ht0⟩ := h
  have hc : okc Γ := hc0
  have hs : ok Γ.length S = true := hs0
  have hT : ok Γ.length T = true := ht0
  clear hc0 hs0 ht0
  unfold cms
  by_cases c1 : w = 2
  · rw [if_pos c1, if_pos c1]
  rw [if_neg c1, if_neg c1]
  by_cases c2 : bel Γ S T = true
  · rw [if_pos c2, if_pos c2]
  rw [if_neg c2, if_neg c2]
  by_cases c3 : bel Γ T S = true
  · rw [if_pos c3, if_pos c3]
  rw [if_neg c3, if_neg c3]
  by_cases c4 : 16 ≤ hd S
  · rw [if_pos c4, if_pos c4]
    by_cases c5 : w = 1
    · rw [if_pos c5, if_pos c5]
    rw [if_neg c5, if_neg c5]
    obtain ⟨k, hk, rfl⟩ := hd_is_var hs c4
    have ex : exps Γ (tVar k) = lft k (Γ.length - k) (bnd Γ k) := by unfold exps; rw [hd_var, show 16 + k - 16 = k by omega]
    rw [ex]
    refine e _ _ _ _ ⟨hc, ok_expose hc hk, hT⟩ ?_
    show wt (om Γ) (lft k (Γ.length - k) (bnd Γ k)) + wt (om Γ) T + 1 ≤ wt (om Γ) (tVar k) + wt (om Γ) T
    rw [wt_expose hc hk, wt_var]
    omega
  rw [if_neg c4, if_neg c4]
  by_cases c6 : 16 ≤ hd T
  · rw [if_pos c6, if_pos c6]
    by_cases c5 : w = 1
    · rw [if_pos c5, if_pos c5]
    rw [if_neg c5, if_neg c5]
    obtain ⟨k, hk, rfl⟩ := hd_is_var hT c6
    have ex : exps Γ (tVar k) = lft k (Γ.length - k) (bnd Γ k) := by unfold exps; rw [hd_var, show 16 + k - 16 = k by omega]
    rw [ex]
    refine e _ _ _ _ ⟨hc, hs, ok_expose hc hk⟩ ?_
    show wt (om Γ) S + wt (om Γ) (lft k (Γ.length - k) (bnd Γ k)) + 1 ≤ wt (om Γ) S + wt (om Γ) (tVar k)
    rw [wt_expose hc hk, wt_var]
    omega
  rw [if_neg c6, if_neg c6]
  by_cases c7 : 8 ≤ hd S ∧ 8 ≤ hd T
  · rw [if_pos c7, if_pos c7]
    obtain ⟨m, x, y, z, hm, rfl⟩ := hd_is_rec hs c7.1 (by omega)
    obtain ⟨m', x', y', z', hm', rfl⟩ := hd_is_rec hT c7.2 (by omega)
    obtain ⟨h0, h1, h2⟩ := (ok_rec hm).mp hs
    obtain ⟨h0', h1', h2'⟩ := (ok_rec hm').mp hT
    rw [hd_rec, hd_rec, show 8 + m - 8 = m by omega, show 8 + m' - 8 = m' by omega]
    have key : ∀ i (p q : Ty), okl Γ.length m i p → okl Γ.length m' i q → wt (om Γ) p + wt (om Γ) q + 1 ≤ wt (om Γ) (tRec m x y z) + wt (om Γ) (tRec m' x' y' z') → lpart (r w Γ) (lset w m m') m m' i p q = lpart (r' w Γ) (lset w m m') m m' i p q := by
      intro i p q hp hq hw
      unfold lpart
      by_cases d1 : bit (lset w m m') i = true
      · rw [if_pos d1, if_pos d1]
        by_cases d2 : bit m i = true
        · rw [if_pos d2, if_pos d2]
          by_cases d3 : bit m' i = true
          · rw [if_pos d3, if_pos d3]
            exact e _ _ _ _ ⟨hc, okl_on hp (bit_iff.mp d2), okl_on hq (bit_iff.mp d3)⟩ hw
          · rw [if_neg d3, if_neg d3]
        · rw [if_neg d2, if_neg d2]
      · rw [if_neg d1, if_neg d1]
    have a0 := key 0 x x' h0 h0' (by rw [wt_rec, wt_rec]; omega)
    have a1 := key 1 y y' h1 h1' (by rw [wt_rec, wt_rec]; omega)
    have a2 := key 2 z z' h2 h2' (by rw [wt_rec, wt_rec]; omega)
    show bRec w (lset w m m') (lpart (r w Γ) (lset w m m') m m' 0 x x') (lpart (r w Γ) (lset w m m') m m' 1 y y') (lpart (r w Γ) (lset w m m') m m' 2 z z') = bRec w (lset w m m') (lpart (r' w Γ) (lset w m m') m m' 0 x x') (lpart (r' w Γ) (lset w m m') m m' 1 y y') (lpart (r' w Γ) (lset w m m') m m' 2 z z')
    rw [a0, a1, a2]
  rw [if_neg c7, if_neg c7]
  by_cases c8 : hd S = 1 ∧ hd T = 1
  · rw [if_pos c8, if_pos c8]
    obtain ⟨a, b, rfl, ha, hb⟩ := hd_is_fun hs c8.1
    obtain ⟨a', b', rfl, ha', hb'⟩ := hd_is_fun hT c8.2
    have w1 : wt (om Γ) a + wt (om Γ) a' + 1 ≤ wt (om Γ) (tFun a b) + wt (om Γ) (tFun a' b') := by rw [wt_fun, wt_fun]; omega
    have w2 : wt (om Γ) b + wt (om Γ) b' + 1 ≤ wt (om Γ) (tFun a b) + wt (om Γ) (tFun a' b') := by rw [wt_fun, wt_fun]; omega
    have a1 := e (1 - w) Γ a a' ⟨hc, ha, ha'⟩ w1
    have a2 := e w Γ b b' ⟨hc, hb, hb'⟩ w2
    show bFun w (r (1 - w) Γ a a') (r w Γ b b') = bFun w (r' (1 - w) Γ a a') (r' w Γ b b')
    rw [a1, a2]
  rw [if_neg c8, if_neg c8]
  by_cases c9 : hd S = 2 ∧ hd T = 2 ∧ flat (k1 S) = flat (k1 T)
  · rw [if_pos c9, if_pos c9]
    obtain ⟨a, b, rfl, ha, hb⟩ := hd_is_all hs c9.1
    obtain ⟨a', b', rfl, ha', hb'⟩ := hd_is_all hT c9.2.1
    have ea : a = a' := flat_eq ha ha' c9.2.2
    subst ea
    have w1 : wt (wt (om Γ) a :: om Γ) b + wt (wt (om Γ) a :: om Γ) b' + 1 ≤ wt (om Γ) (tAll a b) + wt (om Γ) (tAll a b') := by rw [wt_all, wt_all]; omega
    have a1 := e w (a :: Γ) b b' ⟨⟨ha, hc⟩, hb, hb'⟩ w1
    show bAll w a (r w (a :: Γ) b b') = bAll w a (r' w (a :: Γ) b b')
    rw [a1]
  rw [if_neg c9, if_neg c9]
theorem cm_more : ∀ (f g w : Nat) (Γ : List Ty) (S T : Ty), tok (Γ, S, T) → twt (Γ, S, T) ≤ f → twt (Γ, S, T) ≤ g → cm f w Γ S T = cm g w Γ S T
  | 0, g, w, Γ, S, T, h, hf, _ => by have := twt_two h; omega
  | f + 1, 0, w, Γ, S, T, h, _, hg => by have := twt_two h; omega
  | f + 1, g + 1, w, Γ, S, T, h, hf, hg => cms_congr h (fun w' Δ A B h' hw => cm_more f g w' Δ A B h' (by omega) (by omega))
/-- what combine finds of two types -/
def cmv (w : Nat) (Γ : List Ty) (S T : Ty) : Rs := cm (wt (om Γ) S + wt (om Γ) T) w Γ S T
theorem cmv_eq {w : Nat} {Γ : List Ty} {S T : Ty} (h : tok (Γ, S, T)) : cmv w Γ S T = cms cmv w Γ S T := by
  have h2 := twt_two h
  have e : cmv w Γ S T = cm (twt (Γ, S, T)) w Γ S T := rfl
  rw [e]
  obtain ⟨k, hk⟩ : ∃ k, twt (Γ, S, T) = k + 1 := ⟨twt (Γ, S, T) - 1, by omega⟩
  rw [hk]
  exact cms_congr h (fun w' Δ A B h' hw => cm_more _ _ w' Δ A B h' (by omega) (Nat.le_refl _))
