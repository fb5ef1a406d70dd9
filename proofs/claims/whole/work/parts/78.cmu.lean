/-! JOINS AND MEETS WITHOUT A LIMIT, and the limit put on afterwards. -/
abbrev Ru : Type := Option Ty
def tnu (w : Nat) : Ru := if w = 0 then some tTop else none
def uFun (w : Nat) : Ru → Ru → Ru
  | none, _ => tnu w
  | some _, none => tnu w
  | some a, some b => some (tFun a b)
def uAll (w : Nat) (A : Ty) : Ru → Ru
  | none => tnu w
  | some b => some (tAll A b)
def uRec (w m : Nat) : Ru → Ru → Ru → Ru
  | none, _, _ => tnu w
  | some _, none, _ => tnu w
  | some _, some _, none => tnu w
  | some a, some b, some c => some (tRec m a b c)
def upart (r : Ty → Ty → Ru) (set m m' i : Nat) (x y : Ty) : Ru :=
  if bit set i then (if bit m i then (if bit m' i then r x y else some x) else some y) else some .nil
def cmsU (r : Nat → List Ty → Ty → Ty → Ru) (w : Nat) (Γ : List Ty) (S T : Ty) : Ru :=
  if w = 2 then some S
  else if bel Γ S T = true then some (if w = 0 then T else S)
  else if bel Γ T S = true then some (if w = 0 then S else T)
  else if 16 ≤ hd S then (if w = 1 then none else r w Γ (exps Γ S) T)
  else if 16 ≤ hd T then (if w = 1 then none else r w Γ S (exps Γ T))
  else if 8 ≤ hd S ∧ 8 ≤ hd T then
    uRec w (lset w (hd S - 8) (hd T - 8)) (upart (r w Γ) (lset w (hd S - 8) (hd T - 8)) (hd S - 8) (hd T - 8) 0 (k1 S) (k1 T)) (upart (r w Γ) (lset w (hd S - 8) (hd T - 8)) (hd S - 8) (hd T - 8) 1 (r2 S) (r2 T)) (upart (r w Γ) (lset w (hd S - 8) (hd T - 8)) (hd S - 8) (hd T - 8) 2 (r3 S) (r3 T))
  else if hd S = 1 ∧ hd T = 1 then uFun w (r (1 - w) Γ (k1 S) (k1 T)) (r w Γ (k2 S) (k2 T))
  else if hd S = 2 ∧ hd T = 2 ∧ flat (k1 S) = flat (k1 T) then uAll w (k1 S) (r w (k1 S :: Γ) (k2 S) (k2 T))
  else tnu w
def cu : Nat → Nat → List Ty → Ty → Ty → Ru
  | 0, _, _, _, _ => none
  | f + 1, w, Γ, S, T => cmsU (cu f) w Γ S T
/-- the limit -/
def Lm : Ru → Rs
  | none => none
  | some t => lim t
theorem Lm_tn (w : Nat) : Lm (tnu w) = tn w := by
  unfold tnu tn
  split
  · show lim tTop = _
    unfold lim
    rw [flat_top, if_pos (by decide)]
  · rfl
theorem lim_small {t : Ty} (h : (flat t).length ≤ 16) : lim t = some (some t) := if_pos h
theorem lim_big {t : Ty} (h : ¬ (flat t).length ≤ 16) : lim t = some none := if_neg h
theorem Lm_fun (w : Nat) : ∀ a b : Ru, bFun w (Lm a) (Lm b) = Lm (uFun w a b)
  | none, _ => (Lm_tn w).symm
  | some a, none => by
    show bFun w (lim a) none = Lm (tnu w)
    rw [Lm_tn]
    by_cases h : (flat a).length ≤ 16
    · rw [lim_small h]; rfl
    · rw [lim_big h]; rfl
  | some a, some b => by
    show bFun w (lim a) (lim b) = lim (tFun a b)
    by_cases h : (flat a).length ≤ 16
    · by_cases h' : (flat b).length ≤ 16
      · rw [lim_small h, lim_small h']; rfl
      · rw [lim_small h, lim_big h', lim_big (by rw [flat_fun, List.length_cons, List.length_append]; omega)]; rfl
    · have e : lim (tFun a b) = some none := lim_big (by rw [flat_fun, List.length_cons, List.length_append]; omega)
      rw [lim_big h, e]
      by_cases h' : (flat b).length ≤ 16
      · rw [lim_small h']; rfl
      · rw [lim_big h']; rfl
theorem Lm_all (w : Nat) (A : Ty) : ∀ a : Ru, bAll w A (Lm a) = Lm (uAll w A a)
  | none => (Lm_tn w).symm
  | some a => by
    show bAll w A (lim a) = lim (tAll A a)
    by_cases h : (flat a).length ≤ 16
    · rw [lim_small h]; rfl
    · rw [lim_big h, lim_big (by rw [flat_all, List.length_cons, List.length_append]; omega)]; rfl
theorem Lm_rec (w m : Nat) : ∀ a b c : Ru, bRec w m (Lm a) (Lm b) (Lm c) = Lm (uRec w m a b c)
  | none, _, _ => (Lm_tn w).symm
  | some a, none, c => by
    show bRec w m (lim a) none (Lm c) = Lm (tnu w)
    rw [Lm_tn]
    by_cases h : (flat a).length ≤ 16
    · rw [lim_small h]; rfl
    · rw [lim_big h]; rfl
  | some a, some b, none => by
    show bRec w m (lim a) (lim b) none = Lm (tnu w)
    rw [Lm_tn]
    by_cases h : (flat a).length ≤ 16
    · rw [lim_small h]
      by_cases h' : (flat b).length ≤ 16
      · rw [lim_small h']; rfl
      · rw [lim_big h']; rfl
    · rw [lim_big h]
      by_cases h' : (flat b).length ≤ 16
      · rw [lim_small h']; rfl
      · rw [lim_big h']; rfl
  | some a, some b, some c => by
    show bRec w m (lim a) (lim b) (lim c) = lim (tRec m a b c)
    have fl : (flat (tRec m a b c)).length = 1 + ((flat a).length + ((flat b).length + (flat c).length)) := by
      rw [flat_rec, List.length_cons, List.length_append, List.length_append]; omega
    by_cases h : (flat a).length ≤ 16
    · by_cases h' : (flat b).length ≤ 16
      · by_cases h'' : (flat c).length ≤ 16
        · rw [lim_small h, lim_small h', lim_small h'']; rfl
        · rw [lim_small h, lim_small h', lim_big h'', lim_big (by omega)]; rfl
      · have e : lim (tRec m a b c) = some none := lim_big (by omega)
        rw [e, lim_small h, lim_big h']
        by_cases h'' : (flat c).length ≤ 16
        · rw [lim_small h'']; rfl
        · rw [lim_big h'']; rfl
    · have e : lim (tRec m a b c) = some none := lim_big (by omega)
      rw [e, lim_big h]
      by_cases h' : (flat b).length ≤ 16
      · rw [lim_small h']
        by_cases h'' : (flat c).length ≤ 16
        · rw [lim_small h'']; rfl
        · rw [lim_big h'']; rfl
      · rw [lim_big h']
        by_cases h'' : (flat c).length ≤ 16
        · rw [lim_small h'']; rfl
        · rw [lim_big h'']; rfl
theorem Lm_part {r : Ty → Ty → Rs} {ru : Ty → Ty → Ru} {set m m' i : Nat} {x y : Ty} (hr : bit m i = true → bit m' i = true → r x y = Lm (ru x y)) (hx : (flat x).length ≤ 16) (hy : (flat y).length ≤ 16) : lpart r set m m' i x y = Lm (upart ru set m m' i x y) := by
  unfold lpart upart
  by_cases h1 : bit set i = true
  · rw [if_pos h1, if_pos h1]
    by_cases h2 : bit m i = true
    · rw [if_pos h2, if_pos h2]
      by_cases h3 : bit m' i = true
      · rw [if_pos h3, if_pos h3]; exact hr h2 h3
      · rw [if_neg h3, if_neg h3]; exact (lim_small hx).symm
    · rw [if_neg h2, if_neg h2]; exact (lim_small hy).symm
  · rw [if_neg h1, if_neg h1]
    exact (lim_small (by show 0 ≤ 16; decide)).symm
/-- the limit may be put on at the end -/
theorem cm_cu : ∀ (f w : Nat) (Γ : List Ty) (S T : Ty), tkb 16 Γ S T → cm f w Γ S T = Lm (cu f w Γ S T)
  | 0, _, _, _, _, _ => rfl
  | f + 1, w, Γ, S, T, h => by
    obtain ⟨⟨hc0, hs0, ht0⟩, hz, zS, zT⟩ := h
    have hc : okc Γ := hc0
    have hs : ok Γ.length S = true := hs0
    have hT : ok Γ.length T = true := ht0
    clear hc0 hs0 ht0
    show cms (cm f) w Γ S T = Lm (cmsU (cu f) w Γ S T)
    unfold cms cmsU
    by_cases c1 : w = 2
    · rw [if_pos c1, if_pos c1]; exact (lim_small zS).symm
    rw [if_neg c1, if_neg c1]
    by_cases c2 : bel Γ S T = true
    · rw [if_pos c2, if_pos c2]
      refine (lim_small ?_).symm
      split
      · exact zT
      · exact zS
    rw [if_neg c2, if_neg c2]
    by_cases c3 : bel Γ T S = true
    · rw [if_pos c3, if_pos c3]
      refine (lim_small ?_).symm
      split
      · exact zS
      · exact zT
    rw [if_neg c3, if_neg c3]
    by_cases c4 : 16 ≤ hd S
    · rw [if_pos c4, if_pos c4]
      by_cases c5 : w = 1
      · rw [if_pos c5, if_pos c5]; rfl
      rw [if_neg c5, if_neg c5]
      obtain ⟨k, hk, rfl⟩ := hd_is_var hs c4
      rw [exps_var]
      exact cm_cu f w Γ _ T ⟨⟨hc, ok_expose hc hk, hT⟩, hz, by rw [lft_len]; exact hz k hk, zT⟩
    rw [if_neg c4, if_neg c4]
    by_cases c6 : 16 ≤ hd T
    · rw [if_pos c6, if_pos c6]
      by_cases c5 : w = 1
      · rw [if_pos c5, if_pos c5]; rfl
      rw [if_neg c5, if_neg c5]
      obtain ⟨k, hk, rfl⟩ := hd_is_var hT c6
      rw [exps_var]
      exact cm_cu f w Γ S _ ⟨⟨hc, hs, ok_expose hc hk⟩, hz, zS, by rw [lft_len]; exact hz k hk⟩
    rw [if_neg c6, if_neg c6]
    by_cases c7 : 8 ≤ hd S ∧ 8 ≤ hd T
    · rw [if_pos c7, if_pos c7]
      obtain ⟨m, x, y, z, hm, rfl⟩ := hd_is_rec hs c7.1 (by omega)
      obtain ⟨m', x', y', z', hm', rfl⟩ := hd_is_rec hT c7.2 (by omega)
      obtain ⟨h0, h1, h2⟩ := (ok_rec hm).mp hs
      obtain ⟨h0', h1', h2'⟩ := (ok_rec hm').mp hT
      rw [hd_rec, hd_rec, show 8 + m - 8 = m by omega, show 8 + m' - 8 = m' by omega]
      rw [flat_rec, List.length_cons, List.length_append, List.length_append] at zS zT
      show bRec w (lset w m m') (lpart (cm f w Γ) (lset w m m') m m' 0 x x') (lpart (cm f w Γ) (lset w m m') m m' 1 y y') (lpart (cm f w Γ) (lset w m m') m m' 2 z z') = Lm (uRec w (lset w m m') (upart (cu f w Γ) (lset w m m') m m' 0 x x') (upart (cu f w Γ) (lset w m m') m m' 1 y y') (upart (cu f w Γ) (lset w m m') m m' 2 z z'))
      rw [Lm_part (ru := cu f w Γ) (fun b1 b2 => cm_cu f w Γ x x' ⟨⟨hc, okl_on h0 (bit_iff.mp b1), okl_on h0' (bit_iff.mp b2)⟩, hz, by omega, by omega⟩) (by omega) (by omega), Lm_part (ru := cu f w Γ) (fun b1 b2 => cm_cu f w Γ y y' ⟨⟨hc, okl_on h1 (bit_iff.mp b1), okl_on h1' (bit_iff.mp b2)⟩, hz, by omega, by omega⟩) (by omega) (by omega), Lm_part (ru := cu f w Γ) (fun b1 b2 => cm_cu f w Γ z z' ⟨⟨hc, okl_on h2 (bit_iff.mp b1), okl_on h2' (bit_iff.mp b2)⟩, hz, by omega, by omega⟩) (by omega) (by omega)]
      exact Lm_rec w _ _ _ _
    rw [if_neg c7, if_neg c7]
    by_cases c8 : hd S = 1 ∧ hd T = 1
    · rw [if_pos c8, if_pos c8]
      obtain ⟨a, b, rfl, ha, hb⟩ := hd_is_fun hs c8.1
      obtain ⟨a', b', rfl, ha', hb'⟩ := hd_is_fun hT c8.2
      rw [flat_fun, List.length_cons, List.length_append] at zS zT
      show bFun w (cm f (1 - w) Γ a a') (cm f w Γ b b') = Lm (uFun w (cu f (1 - w) Γ a a') (cu f w Γ b b'))
      rw [cm_cu f (1 - w) Γ a a' ⟨⟨hc, ha, ha'⟩, hz, by omega, by omega⟩, cm_cu f w Γ b b' ⟨⟨hc, hb, hb'⟩, hz, by omega, by omega⟩]
      exact Lm_fun w _ _
    rw [if_neg c8, if_neg c8]
    by_cases c9 : hd S = 2 ∧ hd T = 2 ∧ flat (k1 S) = flat (k1 T)
    · rw [if_pos c9, if_pos c9]
      obtain ⟨a, b, rfl, ha, hb⟩ := hd_is_all hs c9.1
      obtain ⟨a', b', rfl, ha', hb'⟩ := hd_is_all hT c9.2.1
      have ea : a = a' := flat_eq ha ha' c9.2.2
      subst ea
      rw [flat_all, List.length_cons, List.length_append] at zS zT
      have hz' : szc 16 (a :: Γ) := by
        intro k hk
        show (flat (if k = Γ.length then a else bnd Γ k)).length ≤ 16
        by_cases hkk : k = Γ.length
        · rw [if_pos hkk]; omega
        · rw [if_neg hkk]; exact hz k (by rw [List.length_cons] at hk; omega)
      have tk : tkb 16 (a :: Γ) b b' := ⟨⟨⟨ha, hc⟩, hb, hb'⟩, hz', by omega, by omega⟩
      show bAll w a (cm f w (a :: Γ) b b') = Lm (uAll w a (cu f w (a :: Γ) b b'))
      rw [cm_cu f w (a :: Γ) b b' tk]
      exact Lm_all w a _
    rw [if_neg c9, if_neg c9]
    exact (Lm_tn w).symm
/-- the join or the meet, however large -/
def cmu (w : Nat) (Γ : List Ty) (S T : Ty) : Ru := cu (wt (om Γ) S + wt (om Γ) T) w Γ S T
theorem cmv_cmu {w : Nat} {Γ : List Ty} {S T : Ty} (h : tkb 16 Γ S T) : cmv w Γ S T = Lm (cmu w Γ S T) := cm_cu _ w Γ S T h
