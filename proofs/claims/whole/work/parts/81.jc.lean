/-! THE CLASS: what joinOf and meetOf answer; joinOfParts, meetOfParts. -/
theorem tnu_zero : tnu 0 ≠ none := by
  unfold tnu
  rw [if_pos rfl]
  intro e; cases e
theorem uFun_zero : ∀ a b : Ru, uFun 0 a b ≠ none
  | none, _ => tnu_zero
  | some _, none => tnu_zero
  | some _, some _ => fun e => by cases e
theorem uAll_zero (A : Ty) : ∀ a : Ru, uAll 0 A a ≠ none
  | none => tnu_zero
  | some _ => fun e => by cases e
theorem uRec_zero (m : Nat) : ∀ a b c : Ru, uRec 0 m a b c ≠ none
  | none, _, _ => tnu_zero
  | some _, none, _ => tnu_zero
  | some _, some _, none => tnu_zero
  | some _, some _, some _ => fun e => by cases e
/-- a join is never wanting -/
theorem cu_zero : ∀ (f : Nat) (Γ : List Ty) (S T : Ty), tok (Γ, S, T) → twt (Γ, S, T) ≤ f → cu f 0 Γ S T ≠ none
  | 0, Γ, S, T, h, hf => by have := twt_two h; omega
  | f + 1, Γ, S, T, h, hf => by
    obtain ⟨hc0, hs0, ht0⟩ := h
    have hc : okc Γ := hc0
    have hs : ok Γ.length S = true := hs0
    have hT : ok Γ.length T = true := ht0
    have hf : wt (om Γ) S + wt (om Γ) T ≤ f + 1 := hf
    show cmsU (cu f) 0 Γ S T ≠ none
    unfold cmsU
    rw [if_neg (by decide)]
    by_cases c2 : bel Γ S T = true
    · rw [if_pos c2]; intro e; cases e
    rw [if_neg c2]
    by_cases c3 : bel Γ T S = true
    · rw [if_pos c3]; intro e; cases e
    rw [if_neg c3]
    by_cases c4 : 16 ≤ hd S
    · rw [if_pos c4, if_neg (by decide)]
      obtain ⟨k, hk, rfl⟩ := hd_is_var hs c4
      rw [exps_var]
      refine cu_zero f Γ _ T ⟨hc, ok_expose hc hk, hT⟩ ?_
      show wt (om Γ) (lft k (Γ.length - k) (bnd Γ k)) + wt (om Γ) T ≤ f
      rw [wt_expose hc hk]
      rw [wt_var] at hf
      omega
    rw [if_neg c4]
    by_cases c6 : 16 ≤ hd T
    · rw [if_pos c6, if_neg (by decide)]
      obtain ⟨k, hk, rfl⟩ := hd_is_var hT c6
      rw [exps_var]
      refine cu_zero f Γ S _ ⟨hc, hs, ok_expose hc hk⟩ ?_
      show wt (om Γ) S + wt (om Γ) (lft k (Γ.length - k) (bnd Γ k)) ≤ f
      rw [wt_expose hc hk]
      rw [wt_var] at hf
      omega
    rw [if_neg c6]
    by_cases c7 : 8 ≤ hd S ∧ 8 ≤ hd T
    · rw [if_pos c7]; exact uRec_zero _ _ _ _
    rw [if_neg c7]
    by_cases c8 : hd S = 1 ∧ hd T = 1
    · rw [if_pos c8]; exact uFun_zero _ _
    rw [if_neg c8]
    by_cases c9 : hd S = 2 ∧ hd T = 2 ∧ flat (k1 S) = flat (k1 T)
    · rw [if_pos c9]; exact uAll_zero _ _
    rw [if_neg c9]
    exact tnu_zero
theorem cmu_zero {Γ : List Ty} {S T : Ty} (h : tok (Γ, S, T)) : ∃ R, cmu 0 Γ S T = some R := by
  have := cu_zero (wt (om Γ) S + wt (om Γ) T) Γ S T h (Nat.le_refl _)
  cases e : cmu 0 Γ S T with
  | none => exact absurd e this
  | some R => exact ⟨R, rfl⟩
/-- the node of what was found, or -1 -/
def JR (M : pm_M) (Rf : Nat → Nat → Nat) (cn : Int) (N : Nat) : Ru → Int → Prop
  | none, r => r = -1
  | some R, r => ndf M Rf cn N R r
/-- nodes that may be made for two types, counted along the walk -/
def nbo (z : Gz) : Nat := if gno z = 0 then 16 else gro z
def nbf : Nat → Gz → Nat
  | 0, _ => 0
  | f + 1, z => if z.1 = 2 then 0 else nbo z + sgl (nbf f) (gcs z)
theorem nbf_two (f : Nat) {z : Gz} (h : z.1 = 2) : nbf f z = 0 := by
  cases f with
  | zero => rfl
  | succ f => unfold nbf; rw [if_pos h]
theorem nbf_more : ∀ (f g : Nat) (z : Gz), tok z.2 → twt z.2 ≤ f → twt z.2 ≤ g → nbf f z = nbf g z
  | 0, _, z, h, hf, _ => by have := twt_two h; omega
  | _ + 1, 0, z, h, _, hg => by have := twt_two h; omega
  | f + 1, g + 1, z, h, hf, hg => by
    by_cases w2 : z.1 = 2
    · rw [nbf_two _ w2, nbf_two _ w2]
    unfold nbf
    rw [if_neg w2, if_neg w2, sgl_congr (fun y hy => ?_)]
    rcases gcs_w (w := z.1) (Γ := z.2.1) (S := z.2.2.1) (T := z.2.2.2) h w2 y hy with ⟨t, e | e⟩
    · rw [nbf_two _ e, nbf_two _ e]
    · have e : twt y.2 + 1 ≤ twt z.2 := e
      exact nbf_more f g y t (by omega) (by omega)
def nbm (w : Nat) (Γ : List Ty) (S T : Ty) : Nat := nbf (twt (Γ, S, T)) (w, Γ, S, T)
def nbz (z : Gz) : Nat := nbm z.1 z.2.1 z.2.2.1 z.2.2.2
theorem nbm_unf {w : Nat} {Γ : List Ty} {S T : Ty} (h : tok (Γ, S, T)) (w2 : w ≠ 2) : nbm w Γ S T = nbo (w, Γ, S, T) + sgl nbz (gcs (w, Γ, S, T)) := by
  have := twt_two h
  obtain ⟨n, hn⟩ : ∃ n, twt (Γ, S, T) = n + 1 := ⟨twt (Γ, S, T) - 1, by omega⟩
  show nbf (twt (Γ, S, T)) (w, Γ, S, T) = _
  rw [hn]
  show (if w = 2 then _ else _) = _
  rw [if_neg w2]
  congr 1
  refine sgl_congr (fun y hy => ?_)
  show nbf n y = nbf (twt y.2) y
  rcases gcs_w (w := w) (Γ := Γ) (S := S) (T := T) h w2 y hy with ⟨t, e | e⟩
  · rw [nbf_two _ e, nbf_two _ e]
  · exact nbf_more _ _ y t (by omega) (Nat.le_refl _)
section PmNb
variable {w : Nat} {Γ : List Ty} {S T : Ty}
theorem nbm_v1 {k : Nat} (h : tok (Γ, tVar k, T)) (w2 : w ≠ 2) (w1 : w ≠ 1) (b : ¬ bel Γ (tVar k) T = true) (b' : ¬ bel Γ T (tVar k) = true) : nbm w Γ (tVar k) T = nbm w Γ (lft k (Γ.length - k) (bnd Γ k)) T + 16 := by
  obtain ⟨e1, e2, e3⟩ := gcs_v1 w2 w1 b b'
  rw [nbm_unf h w2, e1]
  unfold nbo
  rw [e3, if_pos rfl]
  show 16 + (nbm w Γ (lft k (Γ.length - k) (bnd Γ k)) T + 0) = _
  omega
theorem nbm_v2 {k : Nat} (h : tok (Γ, S, tVar k)) (w2 : w ≠ 2) (w1 : w ≠ 1) (n1 : ¬ 16 ≤ hd S) (b : ¬ bel Γ S (tVar k) = true) (b' : ¬ bel Γ (tVar k) S = true) : nbm w Γ S (tVar k) = nbm w Γ S (lft k (Γ.length - k) (bnd Γ k)) + 16 := by
  obtain ⟨e1, e2, e3⟩ := gcs_v2 w2 w1 n1 b b'
  rw [nbm_unf h w2, e1]
  unfold nbo
  rw [e3, if_pos rfl]
  show 16 + (nbm w Γ S (lft k (Γ.length - k) (bnd Γ k)) + 0) = _
  omega
theorem nbm_fun {A C A' C' : Ty} (h : tok (Γ, tFun A C, tFun A' C')) (w2 : w ≠ 2) (b : ¬ bel Γ (tFun A C) (tFun A' C') = true) (b' : ¬ bel Γ (tFun A' C') (tFun A C) = true) : nbm w Γ (tFun A C) (tFun A' C') = nbm (1 - w) Γ A A' + nbm w Γ C C' + 1 := by
  obtain ⟨e1, e2, e3⟩ := gcs_fun w2 b b'
  rw [nbm_unf h w2, e1]
  unfold nbo
  rw [e3, if_neg (by decide), e2]
  show 1 + (nbm (1 - w) Γ A A' + (nbm w Γ C C' + 0)) = _
  omega
theorem nbm_all {A C C' : Ty} (h : tok (Γ, tAll A C, tAll A C')) (w2 : w ≠ 2) (b : ¬ bel Γ (tAll A C) (tAll A C') = true) (b' : ¬ bel Γ (tAll A C') (tAll A C) = true) : nbm w Γ (tAll A C) (tAll A C') = nbm w (A :: Γ) C C' + 2 := by
  obtain ⟨e1, e2, e3⟩ := gcs_all w2 b b'
  rw [nbm_unf h w2, e1]
  unfold nbo
  rw [e3, if_neg (by decide), e2]
  show 2 + (nbm w (A :: Γ) C C' + 0) = _
  omega
/-- the same for the part at a place, where both have one -/
def nbq (w : Nat) (Γ : List Ty) (S T : Ty) (g : Nat) : Nat := if hp S g = true ∧ hp T g = true then nbm w Γ (pt S g) (pt T g) else 0
theorem nbq_on {g : Nat} (h1 : hp S g = true) (h2 : hp T g = true) : nbq w Γ S T g = nbm w Γ (pt S g) (pt T g) := if_pos ⟨h1, h2⟩
theorem bit_lset0 : ∀ m, m < 8 → ∀ m', m' < 8 → ∀ i, i < 3 → bit m i = true → bit m' i = true → bit (lset 0 m m') i = true := by decide
theorem bit_lset1 : ∀ m, m < 8 → ∀ m', m' < 8 → ∀ i, i < 3 → bit m i = true → bit m' i = true → bit (lset 1 m m') i = true := by decide
theorem gzl_on {m m' i : Nat} {X Y : Ty} (hm : m < 8) (hm' : m' < 8) (hi : i < 3) (h1 : bit m i = true) (h2 : bit m' i = true) : gzl w Γ (lset w m m') m m' i X Y = [(w, Γ, X, Y)] := by
  have h : bit (lset w m m') i = true := by
    by_cases h : w = 0
    · subst h; exact bit_lset0 m hm m' hm' i hi h1 h2
    · have e : lset w m m' = lset 1 m m' := by unfold lset; rw [if_neg h, if_neg (by decide)]
      rw [e]; exact bit_lset1 m hm m' hm' i hi h1 h2
  unfold gzl
  rw [if_pos h, if_pos h1, if_pos h2]
theorem gzl_part {μ : Gz → Nat} {m m' i : Nat} {X0 X1 X2 Y0 Y1 Y2 : Ty} (hm : m < 8) (hm' : m' < 8) (hi : i < 3) (X Y : Ty) (e1 : pt (tRec m X0 X1 X2) i = X) (e2 : pt (tRec m' Y0 Y1 Y2) i = Y) (h1 : hp (tRec m X0 X1 X2) i = true) (h2 : hp (tRec m' Y0 Y1 Y2) i = true) : sgl μ (gzl w Γ (lset w m m') m m' i X Y) = μ (w, Γ, pt (tRec m X0 X1 X2) i, pt (tRec m' Y0 Y1 Y2) i) := by
  rw [hp_rec hm X0 X1 X2 i hi] at h1
  rw [hp_rec hm' Y0 Y1 Y2 i hi] at h2
  rw [gzl_on hm hm' hi h1 h2, e1, e2]
  show μ (w, Γ, X, Y) + 0 = _
  omega
theorem nbm_rec {m m' : Nat} {X0 X1 X2 Y0 Y1 Y2 : Ty} (h : tok (Γ, tRec m X0 X1 X2, tRec m' Y0 Y1 Y2)) (hm : m < 8) (hm' : m' < 8) (w2 : w ≠ 2) (b : ¬ bel Γ (tRec m X0 X1 X2) (tRec m' Y0 Y1 Y2) = true) (b' : ¬ bel Γ (tRec m' Y0 Y1 Y2) (tRec m X0 X1 X2) = true) : nbq w Γ (tRec m X0 X1 X2) (tRec m' Y0 Y1 Y2) 0 + nbq w Γ (tRec m X0 X1 X2) (tRec m' Y0 Y1 Y2) 1 + nbq w Γ (tRec m X0 X1 X2) (tRec m' Y0 Y1 Y2) 2 + 1 ≤ nbm w Γ (tRec m X0 X1 X2) (tRec m' Y0 Y1 Y2) := by
  obtain ⟨e1, e2, e3⟩ := gcs_rec hm hm' w2 b b'
  obtain ⟨p0, p1, p2⟩ := pt_rec hm X0 X1 X2
  obtain ⟨q0, q1, q2⟩ := pt_rec hm' Y0 Y1 Y2
  have key : ∀ i X Y, i < 3 → pt (tRec m X0 X1 X2) i = X → pt (tRec m' Y0 Y1 Y2) i = Y → nbq w Γ (tRec m X0 X1 X2) (tRec m' Y0 Y1 Y2) i ≤ sgl nbz (gzl w Γ (lset w m m') m m' i X Y) := by
    intro i X Y hi e1 e2
    unfold nbq
    split
    · rename_i hb
      rw [gzl_part hm hm' hi X Y e1 e2 hb.1 hb.2]
      exact Nat.le_refl _
    · exact Nat.zero_le _
  have k0 := key 0 X0 Y0 (by decide) p0 q0
  have k1 := key 1 X1 Y1 (by decide) p1 q1
  have k2 := key 2 X2 Y2 (by decide) p2 q2
  rw [nbm_unf h w2, e1, sgl_app, sgl_app]
  unfold nbo
  rw [e3, if_neg (by decide), e2]
  omega
theorem gn_part {m m' i : Nat} {X0 X1 X2 Y0 Y1 Y2 : Ty} (h : tok (Γ, tRec m X0 X1 X2, tRec m' Y0 Y1 Y2)) (hm : m < 8) (hm' : m' < 8) (w2 : w ≠ 2) (b : ¬ bel Γ (tRec m X0 X1 X2) (tRec m' Y0 Y1 Y2) = true) (b' : ¬ bel Γ (tRec m' Y0 Y1 Y2) (tRec m X0 X1 X2) = true) (hi : i < 3) (h1 : hp (tRec m X0 X1 X2) i = true) (h2 : hp (tRec m' Y0 Y1 Y2) i = true) : gn (w, Γ, pt (tRec m X0 X1 X2) i, pt (tRec m' Y0 Y1 Y2) i) ≤ gn (w, Γ, tRec m X0 X1 X2, tRec m' Y0 Y1 Y2) := by
  have g := (gm_rec (w := w) h hm hm' w2 b b').2
  obtain ⟨p0, p1, p2⟩ := pt_rec hm X0 X1 X2
  obtain ⟨q0, q1, q2⟩ := pt_rec hm' Y0 Y1 Y2
  rcases (show i = 0 ∨ i = 1 ∨ i = 2 by omega) with rfl | rfl | rfl
  · have := gzl_part (μ := gn) (w := w) (Γ := Γ) hm hm' (by decide) X0 Y0 p0 q0 h1 h2
    omega
  · have := gzl_part (μ := gn) (w := w) (Γ := Γ) hm hm' (by decide) X1 Y1 p1 q1 h1 h2
    omega
  · have := gzl_part (μ := gn) (w := w) (Γ := Γ) hm hm' (by decide) X2 Y2 p2 q2 h1 h2
    omega
theorem nbm_gm (h : tok (Γ, S, T)) (w2 : w ≠ 2) : nbm w Γ S T ≤ 16 * gm (w, Γ, S, T) := by
  have key : ∀ (f : Nat) (z : Gz), tok z.2 → nbf f z ≤ 16 * gm z := by
    intro f
    induction f with
    | zero => intro z _; exact Nat.zero_le _
    | succ f ih =>
      intro z t
      by_cases w2 : z.1 = 2
      · rw [nbf_two _ w2]; exact Nat.zero_le _
      unfold nbf
      rw [if_neg w2]
      have g := gm_step t w2
      have a : nbo z ≤ 16 * gro z := by
        unfold nbo
        rcases gcs_cases (w := z.1) (Γ := z.2.1) (S := z.2.2.1) (T := z.2.2.2) t w2 with ⟨-, -, e⟩ | ⟨-, k, -, -, -, e1, e⟩ | ⟨-, -, k, -, -, -, e1, e⟩ | ⟨m, X0, X1, X2, m', Y0, Y1, Y2, -, -, -, -, -, e1, e⟩ | ⟨A, C, A', C', -, -, -, e1, e⟩ | ⟨A, C, C', -, -, -, e1, e⟩
        · have e : gno z = 1 := e
          rw [e, if_neg (by decide)]; omega
        · have e1 : gro z = 1 := e1
          rw [e1]; split <;> omega
        · have e1 : gro z = 1 := e1
          rw [e1]; split <;> omega
        · have e1 : gro z = 1 := e1
          rw [e1]; split <;> omega
        · have e1 : gro z = 1 := e1
          rw [e1]; split <;> omega
        · have e1 : gro z = 2 := e1
          rw [e1]; split <;> omega
      have b : sgl (nbf f) (gcs z) ≤ 16 * sgl gm (gcs z) := by
        have hw := gcs_w (w := z.1) (Γ := z.2.1) (S := z.2.2.1) (T := z.2.2.2) t w2
        have hw : ∀ y ∈ gcs z, tok y.2 := fun y hy => (hw y hy).1
        generalize gcs z = l at hw
        induction l with
        | nil => exact Nat.le_refl _
        | cons y l il =>
          show nbf f y + sgl (nbf f) l ≤ 16 * (gm y + sgl gm l)
          have a1 := ih y (hw y (List.mem_cons_self ..))
          have a2 := il (fun x hx => hw x (List.mem_cons_of_mem _ hx))
          omega
      omega
  exact key _ (w, Γ, S, T) h
end PmNb
/-- what joinOf (w = 0, method 52) and meetOf (w = 1, method 55) answer -/
def JC (w mth d F : Nat) : Prop := ∀ (Γ : List Ty) (S T : Ty) (i j : Int) (deep : Nat) (M : pm_M) (Rf : Nat → Nat → Nat) (K L : Nat → Nat) (n s z : Nat) (cn : Int) (Q : Option Value → pm_S → Prop), BH M Rf K L n z cn Γ S T i j → ndf M Rf cn 1 tTop 0 → hgt (oh Γ) S + hgt (oh Γ) T ≤ 2 * F → cn + (nbm w Γ S T : Nat) + 16 * ((hgt (oh Γ) S + hgt (oh Γ) T : Nat) : Int) ≤ 16384 → deep + F ≤ 40 → Γ.length + F ≤ 64 → 17 * gn (w, Γ, S, T) ≤ 1000000 → (∀ (M' : pm_M) (Rf' : Nat → Nat → Nat) (K' L' : Nat → Nat) (n' s' z' : Nat) (cn' r : Int), CX (WB Γ.length) M Rf K L n s z cn M' Rf' K' L' n' s' z' → M' 6 6 = cn' → cn ≤ cn' → cn' ≤ cn + (nbm w Γ S T : Nat) → cn' ≤ z' → JR M' Rf' cn' (16 + F) (cmu w Γ S T) r → Q (some (.int (zI r))) (zM M', Rf', K', L', n', s')) → pm_Wc (d + 8 * F + 90) mth [.ref 6, .int (zI i), .int (zI j), .int (zI (Γ.length : Int)), .int (zI (deep : Int))] (zM M, Rf, K, L, n, s) Q
section PmC15
variable {d : Nat}
theorem c_joinParts {F g : Nat} (IH : JC 0 52 d F) {Γ : List Ty} {S T : Ty} {i j : Int} {deep : Nat} {M : pm_M} {Rf : Nat → Nat → Nat} {K L : Nat → Nat} {n s z : Nat} {cn : Int} {Q : Option Value → pm_S → Prop} (hg : g < 3) (hG : pm_G Rf K L n) (hR : RmI Rf K L n z) (hM : ∀ p i, R32 (M p i)) (hcn : M 6 6 = cn) (c1 : 1 ≤ cn) (cz : cn ≤ z) (hcx : okc Γ) (oS : ok Γ.length S = true) (oT : ok Γ.length T = true) (oSg : hp S g = true → ok Γ.length (pt S g) = true) (oTg : hp T g = true → ok Γ.length (pt T g) = true) (top : ndf M Rf cn 1 tTop 0) (bn : BN M Rf cn Γ) (nS : ndf M Rf cn 16 S i) (nT : ndf M Rf cn 16 T j) (lS : (flat (pt S g)).length ≤ 16) (lT : (flat (pt T g)).length ≤ 16) (hh : hgt (oh Γ) (pt S g) + hgt (oh Γ) (pt T g) ≤ 2 * F) (hc : cn + (nbq 0 Γ S T g : Nat) + 16 * ((hgt (oh Γ) (pt S g) + hgt (oh Γ) (pt T g) : Nat) : Int) ≤ 16384) (hdp : deep + F + 1 ≤ 40) (hΓ : Γ.length + F ≤ 64) (hw : hp S g = true → hp T g = true → 17 * gn (0, Γ, pt S g, pt T g) ≤ 1000000) (h : ∀ (M' : pm_M) (Rf' : Nat → Nat → Nat) (K' L' : Nat → Nat) (n' s' z' : Nat) (cn' r : Int), CX (WB Γ.length) M Rf K L n s z cn M' Rf' K' L' n' s' z' → M' 6 6 = cn' → cn ≤ cn' → cn' ≤ cn + (nbq 0 Γ S T g : Nat) → cn' ≤ z' → 0 ≤ r → r < cn' → (hp S g = true → hp T g = true → JR M' Rf' cn' (16 + F) (cmu 0 Γ (pt S g) (pt T g)) r) → Q (some (.int (zI r))) (zM M', Rf', K', L', n', s')) : pm_Wc (d + 8 * F + 91) 54 [.ref 6, .int (zI i), .int (zI j), .int (zI (g : Int)), .int (zI (Γ.length : Int)), .int (zI (deep : Int))] (zM M, Rf, K, L, n, s) Q := by
  have hz := hR.2.2.2.2
  have cS := cc_small oS (by omega)
  have cT := cc_small oT (by omega)
  obtain ⟨⟨i0, i1, iC, -, iL⟩, iP⟩ := nS
  obtain ⟨⟨j0, j1, jC, -, jL⟩, jP⟩ := nT
  have none0 : ¬ (hp S g = true ∧ hp T g = true) → pm_Wp none (d + 8 * F + 90) 54 26 [some (.ref 6), some (.int (zI i)), some (.int (zI j)), some (.int (zI (g : Int))), some (.int (zI (Γ.length : Int))), some (.int (zI (deep : Int)))] [] (zM M, Rf, K, L, n, s) Q := by
    intro hb
    refine wz_iconst d54_26 ?_
    exact wp_ret d54_27 rfl (h M Rf K L n s z cn 0 (CX.refl hG hR hM) hcn (Int.le_refl _) (by omega) cz (Int.le_refl _) (by omega) (fun a b => absurd ⟨a, b⟩ hb))
  refine wc_in (ls0 := [some (.ref 6), some (.int (zI i)), some (.int (zI j)), some (.int (zI (g : Int))), some (.int (zI (Γ.length : Int))), some (.int (zI (deep : Int)))]) (by decide) (Nat.le_of_ble_eq_true rfl) rfl rfl ?_
  refine wp_aload_n d54_0 rfl ?_
  refine wp_getR (q := Rf 6 0) d54_1 rfl (hG.o (by decide) rfl) (by decide) rfl (hR.1 0 (by decide)).1 ?_
  refine wp_iload_n d54_4 rfl ?_
  refine wz_iald (z := z) (v := (cc (hd S) : Int)) d54_5 (hR.1 0 (by decide)) i0 (by omega) (by omega) iC ?_
  refine wp_iload_n d54_6 rfl ?_
  refine wp_stat (as := [.int (zI (g : Int)), .int (zI (cc (hd S) : Int))]) (rest := []) d54_7 rfl rfl rfl rfl rfl (Nat.le_of_ble_eq_true rfl) ?_
  refine c_holds (c := cc (hd S)) (i := g) cS hg (fun hbS => ?_) (fun hbS => ?_)
  · have hbS : hp S g = true := hbS
    refine wz_if_eq (t := 26) d54_10 (by decide) ⟨by omega, by omega⟩ (fun hb => absurd hb (by decide)) (fun _ => ?_)
    refine wp_aload_n d54_13 rfl ?_
    refine wp_getR (q := Rf 6 0) d54_14 rfl (hG.o (by decide) rfl) (by decide) rfl (hR.1 0 (by decide)).1 ?_
    refine wp_iload_n d54_17 rfl ?_
    refine wz_iald (z := z) (v := (cc (hd T) : Int)) d54_18 (hR.1 0 (by decide)) j0 (by omega) (by omega) jC ?_
    refine wp_iload_n d54_19 rfl ?_
    refine wp_stat (as := [.int (zI (g : Int)), .int (zI (cc (hd T) : Int))]) (rest := []) d54_20 rfl rfl rfl rfl rfl (Nat.le_of_ble_eq_true rfl) ?_
    refine c_holds (c := cc (hd T)) (i := g) cT hg (fun hbT => ?_) (fun hbT => ?_)
    · have hbT : hp T g = true := hbT
      refine wz_if_ne (t := 28) d54_23 (by decide) ⟨by omega, by omega⟩ (fun _ => ?_) (fun hb => absurd hb (by decide))
      refine wp_aload_n d54_28 rfl ?_
      refine wp_aload_n d54_29 rfl ?_
      refine wp_iload_n d54_30 rfl ?_
      refine wp_iload_n d54_31 rfl ?_
      refine wp_virt (as := [.int (zI (g : Int)), .int (zI i)]) (rest := [.ref 6]) d54_32 rfl rfl rfl (hG.o (by decide) rfl) rfl rfl (Nat.le_of_ble_eq_true rfl) ?_
      refine c_part hG hR i0 (by omega) hg ?_
      refine wp_aload_n d54_35 rfl ?_
      refine wp_iload_n d54_36 rfl ?_
      refine wp_iload_n d54_37 rfl ?_
      refine wp_virt (as := [.int (zI (g : Int)), .int (zI j)]) (rest := [.int (zI (M (Rf 6 (1 + g)) i)), .ref 6]) d54_38 rfl rfl rfl (hG.o (by decide) rfl) rfl rfl (Nat.le_of_ble_eq_true rfl) ?_
      refine c_part hG hR j0 (by omega) hg ?_
      refine wp_iload d54_41 rfl ?_
      refine wp_iload d54_43 rfl ?_
      refine wz_iconst d54_45 ?_
      refine wz_iadd d54_46 ?_
      refine wp_virt (as := [.int (zI ((deep : Int) + 1)), .int (zI (Γ.length : Int)), .int (zI (M (Rf 6 (1 + g)) j)), .int (zI (M (Rf 6 (1 + g)) i))]) (rest := []) d54_47 rfl rfl rfl (hG.o (by decide) rfl) rfl rfl (Nat.le_of_ble_eq_true rfl) ?_
      have idn : ∀ g, g < 5 → ∀ i : Int, 0 ≤ i → i < cn → M (Rf 6 g) i = M (Rf 6 g) i := fun _ _ _ _ _ => rfl
      refine IH Γ (pt S g) (pt T g) _ _ (deep + 1) M Rf K L n s z cn _ ⟨hG, hR, hM, hcn, c1, cz, ⟨hcx, oSg hbS, oTg hbT⟩, bn, ndf_mono idn (Int.le_refl _) (by decide) (iP g hg hbS), ndf_mono idn (Int.le_refl _) (by decide) (jP g hg hbT), lS, lT⟩ top hh (by rw [nbq_on hbS hbT] at hc; exact hc) (by omega) hΓ (hw hbS hbT) (fun M' Rf' K' L' n' s' z' cn' r cx v1 v2 v3 v4 jr => ?_)
      rw [← nbq_on hbS hbT] at v3
      obtain ⟨R, eR⟩ := cmu_zero (Γ := Γ) (S := pt S g) (T := pt T g) ⟨hcx, oSg hbS, oTg hbT⟩
      have jr' := jr
      rw [eR] at jr'
      have jr' : ndf M' Rf' cn' (16 + F) R r := jr'
      have rr : 0 ≤ r ∧ r < cn' := by
        have e : 16 + F = (15 + F) + 1 := by omega
        rw [e] at jr'
        exact ⟨jr'.1.1, jr'.1.2.1⟩
      exact wp_ret d54_50 rfl (h M' Rf' K' L' n' s' z' cn' r cx v1 v2 v3 v4 rr.1 rr.2 (fun _ _ => jr))
    · have hbT : ¬ hp T g = true := hbT
      refine wz_if_ne (t := 28) d54_23 (by decide) ⟨by omega, by omega⟩ (fun hb => absurd (by decide) hb) (fun _ => ?_)
      exact none0 (fun e => hbT e.2)
  · have hbS : ¬ hp S g = true := hbS
    refine wz_if_eq (t := 26) d54_10 (by decide) ⟨by omega, by omega⟩ (fun _ => ?_) (fun hb => absurd (by decide) hb)
    exact none0 (fun e => hbS e.1)
end PmC15
