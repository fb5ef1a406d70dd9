/-! THE CLASS: finding the type of a term, what stands around. -/
theorem pm_G.tr {Rf : Nat → Nat → Nat} {K L : Nat → Nat} {n X g : Nat} (h : pm_G Rf K L n) (hX : X = 16 ∨ X = 23) (hg : g < 6) : Rf X g = X + 1 + g := by
  rcases hX with rfl | rfl <;> rcases (show g = 0 ∨ g = 1 ∨ g = 2 ∨ g = 3 ∨ g = 4 ∨ g = 5 by omega) with rfl | rfl | rfl | rfl | rfl | rfl <;> exact h.r (by decide +kernel)
theorem pm_G.ta {Rf : Nat → Nat → Nat} {K L : Nat → Nat} {n X g : Nat} (h : pm_G Rf K L n) (hX : X = 16 ∨ X = 23) (hg : g < 6) : pm_Ar K L n (X + 1 + g) 0 60 := by
  rcases hX with rfl | rfl <;> rcases (show g = 0 ∨ g = 1 ∨ g = 2 ∨ g = 3 ∨ g = 4 ∨ g = 5 by omega) with rfl | rfl | rfl | rfl | rfl | rfl <;> exact h.a (by decide) rfl rfl
/-- limits for a comparison, for a join -/
def LB (Γ : List Ty) (S T : Ty) : Prop := hgt (oh Γ) S + hgt (oh Γ) T ≤ 76 ∧ Γ.length + trx (Γ, S, T) ≤ 1990 ∧ trx (Γ, S, T) ≤ 887
def LJ (Γ : List Ty) (S T : Ty) : Prop := hgt (oh Γ) S + hgt (oh Γ) T ≤ 76 ∧ gm (0, Γ, S, T) ≤ 887 ∧ gn (0, Γ, S, T) + 3 ≤ 600
def TL : Nat → Ty → List Ty → List (Nat × Ty × Nat) → Prop
  | 0, _, _, _ => True
  | f + 1, t, Γ, Δ => (nKd t = 6 → TL f (nY t) Γ ((nPl t, nX t, Γ.length) :: Δ)) ∧ (nKd t = 7 → TL f (nX t) Γ Δ ∧ TL f (nY t) Γ Δ ∧ ∀ S T, tyF f (nX t) Γ Δ = .inr S → tyF f (nY t) Γ Δ = .inr T → hd (expo Γ Γ.length S) = 1 → LB Γ T (k1 (expo Γ Γ.length S))) ∧ (nKd t = 8 → TL f (nY t) (nX t :: Γ) Δ) ∧ (nKd t = 9 → TL f (nX t) Γ Δ ∧ ∀ S, tyF f (nX t) Γ Δ = .inr S → hd (expo Γ Γ.length S) = 2 → LB Γ (nY t) (k1 (expo Γ Γ.length S))) ∧ (nKd t = 10 → ∀ g, g < 3 → bit (nMk t) g = true → TL f (nP t g) Γ Δ) ∧ (nKd t = 11 → TL f (nX t) Γ Δ) ∧ (nKd t = 12 → TL f (nX t) Γ Δ ∧ TL f (nY t) Γ Δ ∧ ∀ S T, tyF f (nX t) Γ Δ = .inr S → tyF f (nY t) Γ Δ = .inr T → LJ Γ S T)
/-- nodes that the class may make for the instance, for the join -/
def ci (Γ : List Ty) (A : Ty) : Sum Nat Ty → Nat
  | .inl _ => 0
  | .inr S => (flat (sbt Γ.length A 0 (k2 (expo Γ Γ.length S)))).length
def cj (Γ : List Ty) : Sum Nat Ty → Sum Nat Ty → Nat
  | .inr S, .inr T => nbm 0 Γ S T
  | _, _ => 0
def TN : Nat → Ty → List Ty → List (Nat × Ty × Nat) → Nat
  | 0, _, _, _ => 0
  | f + 1, t, Γ, Δ =>
    if nKd t = 5 then 16
    else if nKd t = 6 then TN f (nY t) Γ ((nPl t, nX t, Γ.length) :: Δ) + 1
    else if nKd t = 7 then TN f (nX t) Γ Δ + TN f (nY t) Γ Δ + 16 * Γ.length
    else if nKd t = 8 then TN f (nY t) (nX t :: Γ) Δ + 1
    else if nKd t = 9 then TN f (nX t) Γ Δ + 16 * Γ.length + ci Γ (nY t) (tyF f (nX t) Γ Δ)
    else if nKd t = 10 then (if bit (nMk t) 0 = true then TN f (nX t) Γ Δ else 0) + (if bit (nMk t) 1 = true then TN f (nY t) Γ Δ else 0) + (if bit (nMk t) 2 = true then TN f (nZ t) Γ Δ else 0) + 1
    else if nKd t = 11 then TN f (nX t) Γ Δ + 16 * Γ.length
    else TN f (nX t) Γ Δ + TN f (nY t) Γ Δ + cj Γ (tyF f (nX t) Γ Δ) (tyF f (nY t) Γ Δ)
/-- what finding may write besides the rows -/
def WFd (o : Nat) (p : Nat) (i : Int) : Prop := (p = 6 ∧ i = 6) ∨ (p = 12 ∧ (o : Int) ≤ i) ∨ (p = 42 ∧ i = 2)
/-- types of the names of values: their functions' nodes -/
def DEc (M : pm_M) (Rf : Nat → Nat → Nat) (cn : Int) (X cnt : Nat) (Δ : List (Nat × Ty × Nat)) : Prop := ∀ a ∈ Δ, ∃ b : Int, (0 ≤ b ∧ b < cnt) ∧ M (X + 2) b = (a.1 : Int) ∧ M (X + 3) b = (a.2.2 : Int) ∧ ndf M Rf cn 16 a.2.1 (M (X + 4) b)
def CFS (X cnt : Nat) (Γ : List Ty) (Δ : List (Nat × Ty × Nat)) (M : pm_M) (Rf : Nat → Nat → Nat) (K L : Nat → Nat) (n z : Nat) (cn : Int) : Prop := pm_G Rf K L n ∧ RmI Rf K L n z ∧ (∀ p i, R32 (M p i)) ∧ M 6 6 = cn ∧ 1 ≤ cn ∧ cn ≤ z ∧ ndf M Rf cn 1 tTop 0 ∧ Rf 42 1 = X ∧ (X = 16 ∨ X = 23) ∧ M 42 2 = -1 ∧ PI M X cnt 60 ∧ cnt ≤ 60 ∧ BN M Rf cn Γ ∧ TE Γ Δ ∧ DEc M Rf cn X cnt Δ
/-- a node of the term, as the finding needs it -/
def CNt (M : pm_M) (Rf : Nat → Nat → Nat) (cn : Int) (X cnt f : Nat) (t : Ty) (v : Int) : Prop := CNd M X 0 (cnt : Int) (fun A i => ndf M Rf cn 24 A i) f t v
section PmE4
variable {X cnt : Nat} {Γ : List Ty} {Δ : List (Nat × Ty × Nat)} {M M' : pm_M} {Rf Rf' : Nat → Nat → Nat} {K L K' L' : Nat → Nat} {n s z n' s' z' : Nat} {cn cn' : Int}
theorem CFS.g (h : CFS X cnt Γ Δ M Rf K L n z cn) : pm_G Rf K L n := h.1
theorem CFS.r (h : CFS X cnt Γ Δ M Rf K L n z cn) : RmI Rf K L n z := h.2.1
theorem CFS.m (h : CFS X cnt Γ Δ M Rf K L n z cn) : ∀ p i, R32 (M p i) := h.2.2.1
theorem CFS.m6 (h : CFS X cnt Γ Δ M Rf K L n z cn) : M 6 6 = cn := h.2.2.2.1
theorem CFS.c1 (h : CFS X cnt Γ Δ M Rf K L n z cn) : 1 ≤ cn ∧ cn ≤ z ∧ z ≤ 16384 := ⟨h.2.2.2.2.1, h.2.2.2.2.2.1, h.2.1.2.2.2.2⟩
theorem CFS.top (h : CFS X cnt Γ Δ M Rf K L n z cn) : ndf M Rf cn 1 tTop 0 := h.2.2.2.2.2.2.1
theorem CFS.rx (h : CFS X cnt Γ Δ M Rf K L n z cn) : Rf 42 1 = X := h.2.2.2.2.2.2.2.1
theorem CFS.hx (h : CFS X cnt Γ Δ M Rf K L n z cn) : X = 16 ∨ X = 23 := h.2.2.2.2.2.2.2.2.1
theorem CFS.bp (h : CFS X cnt Γ Δ M Rf K L n z cn) : M 42 2 = -1 := h.2.2.2.2.2.2.2.2.2.1
theorem CFS.pi (h : CFS X cnt Γ Δ M Rf K L n z cn) : PI M X cnt 60 := h.2.2.2.2.2.2.2.2.2.2.1
theorem CFS.ct (h : CFS X cnt Γ Δ M Rf K L n z cn) : cnt ≤ 60 := h.2.2.2.2.2.2.2.2.2.2.2.1
theorem CFS.bn (h : CFS X cnt Γ Δ M Rf K L n z cn) : BN M Rf cn Γ := h.2.2.2.2.2.2.2.2.2.2.2.2.1
theorem CFS.te (h : CFS X cnt Γ Δ M Rf K L n z cn) : TE Γ Δ := h.2.2.2.2.2.2.2.2.2.2.2.2.2.1
theorem CFS.de (h : CFS X cnt Γ Δ M Rf K L n z cn) : DEc M Rf cn X cnt Δ := h.2.2.2.2.2.2.2.2.2.2.2.2.2.2
theorem CFS.tm (h : CFS X cnt Γ Δ M Rf K L n z cn) {W : Nat → Int → Prop} (cx : CX W M Rf K L n s z cn M' Rf' K' L' n' s' z') (hW : ∀ p i, W p i → WFd Γ.length p i) : ∀ q, X + 1 ≤ q → q ≤ X + 6 → ∀ i, M' q i = M q i := by
  have hx := h.hx
  intro q q1 q2 i
  refine cx.mem q (by have := h.g.1; omega) (fun g hg => by have := h.r.2.1 g hg; omega) i (fun w => ?_)
  have := hW q i w
  unfold WFd at this
  omega
theorem CFS.move (h : CFS X cnt Γ Δ M Rf K L n z cn) (cx : CX (WFd Γ.length) M Rf K L n s z cn M' Rf' K' L' n' s' z') (m6 : M' 6 6 = cn') (hc : cn ≤ cn') (cz : cn' ≤ z') (bp : M' 42 2 = -1) : CFS X cnt Γ Δ M' Rf' K' L' n' z' cn' := by
  have tm := h.tm cx (fun _ _ w => w)
  have c1 := h.c1
  refine ⟨cx.g, cx.r, cx.r32, m6, by omega, cz, ndf_mono cx.nodes hc (Nat.le_refl _) h.top, ?_, h.hx, bp, h.pi.same (Nat.le_refl _) (fun i _ _ => tm _ (by omega) (by omega) i), h.ct, h.bn.mono cx.nodes (fun k hk => cx.mem 12 (by have := h.g.1; omega) (fun g hg => by have := h.r.2.1 g hg; omega) _ (by unfold WFd; omega)) hc, h.te, fun a ha => ?_⟩
  · rw [cx.2.2.2.2.2.2.2.1 42 (by have := h.g.1; omega) 1 (by omega)]; exact h.rx
  · obtain ⟨b, b1, b2, b3, b4⟩ := h.de a ha
    exact ⟨b, b1, (tm _ (by omega) (by omega) b).trans b2, (tm _ (by omega) (by omega) b).trans b3, by rw [tm (X + 4) (by omega) (by omega) b]; exact ndf_mono cx.nodes hc (Nat.le_refl _) b4⟩
theorem CNt.move {f : Nat} {t : Ty} {v : Int} (hn : CNt M Rf cn X cnt f t v) (h : CFS X cnt Γ Δ M Rf K L n z cn) (cx : CX (WFd Γ.length) M Rf K L n s z cn M' Rf' K' L' n' s' z') (hc : cn ≤ cn') : CNt M' Rf' cn' X cnt f t v := by
  have tm := h.tm cx (fun _ _ w => w)
  exact CNd.mono (fun q q1 q2 i _ _ => tm q q1 q2 i) (fun i _ _ => tm _ (by omega) (by omega) i) (Int.le_refl _) (Int.le_refl _) (fun A i x => ndf_mono cx.nodes hc (Nat.le_refl _) x) (Nat.le_refl _) hn
end PmE4
/-- what a rule comes to: a part breaks; the rule breaks; a type -/
def RO (M : pm_M) (Rf : Nat → Nat → Nat) (cn : Int) : Sum Nat (Option Ty) → Int → Prop
  | .inl q, r => r = -1 ∧ M 42 2 = (q : Int)
  | .inr none, r => r = -1 ∧ M 42 2 = -1
  | .inr (some A), r => M 42 2 = -1 ∧ (0 ≤ r ∧ r < cn) ∧ M (Rf 6 4) r = ((flat A).length : Int) ∧ ((flat A).length ≤ 16 → ndf M Rf cn 16 A r) ∧ (flat A).length ≤ 1000000
def fnl (p : Nat) : Sum Nat (Option Ty) → Sum Nat Ty
  | .inl q => .inl q
  | .inr o => tyO p o
def rbd (a : Sum Nat Ty) (g : Ty → Sum Nat (Option Ty)) : Sum Nat (Option Ty) := match a with
  | .inl q => .inl q
  | .inr A => g A
theorem fnl_rbd (p : Nat) (a : Sum Nat Ty) (g : Ty → Sum Nat (Option Ty)) : fnl p (rbd a g) = tbd a (fun A => fnl p (g A)) := by
  cases a <;> rfl
/-- what is found: the type's node, or -1 and the place -/
def FR (M : pm_M) (Rf : Nat → Nat → Nat) (cn : Int) : Sum Nat Ty → Int → Prop
  | .inl q, r => r = -1 ∧ M 42 2 = (q : Int)
  | .inr A, r => ndf M Rf cn 16 A r ∧ M 42 2 = -1
/-- a rule of the class: method mth answers o, making at most B nodes -/
def RuC (lv mth X cnt : Nat) (Γ : List Ty) (Δ : List (Nat × Ty × Nat)) (f : Nat) (t : Ty) (v : Int) (dp B : Nat) (o : Sum Nat (Option Ty)) (as : List Value) : Prop := ∀ (M : pm_M) (Rf : Nat → Nat → Nat) (K L : Nat → Nat) (n s z : Nat) (cn : Int) (Q : Option Value → pm_S → Prop), CFS X cnt Γ Δ M Rf K L n z cn → CNt M Rf cn X cnt (f + 1) t v → cn + (B : Int) + 1300 ≤ 16384 → (∀ (M' : pm_M) (Rf' : Nat → Nat → Nat) (K' L' : Nat → Nat) (n' s' z' : Nat) (cn' r : Int), CX (WFd Γ.length) M Rf K L n s z cn M' Rf' K' L' n' s' z' → M' 6 6 = cn' → cn ≤ cn' → cn' ≤ cn + (B : Int) → cn' ≤ z' → RO M' Rf' cn' o r → Q (some (.int (zI r))) (zM M', Rf', K', L', n', s')) → pm_Wc lv mth as (zM M, Rf, K, L, n, s) Q
def FdC (d X cnt f : Nat) : Prop := ∀ (t : Ty) (v : Int) (Γ : List Ty) (Δ : List (Nat × Ty × Nat)) (dp : Nat) (M : pm_M) (Rf : Nat → Nat → Nat) (K L : Nat → Nat) (n s z : Nat) (cn : Int) (Q : Option Value → pm_S → Prop), CFS X cnt Γ Δ M Rf K L n z cn → CNt M Rf cn X cnt f t v → TWf f Γ.length (Δ.map (fun a => a.1)) t → TL f t Γ Δ → Γ.length + f ≤ 25 → dp + f = 25 → cn + (TN f t Γ Δ : Int) + 1300 ≤ 16384 → (∀ (M' : pm_M) (Rf' : Nat → Nat → Nat) (K' L' : Nat → Nat) (n' s' z' : Nat) (cn' r : Int), CX (WFd Γ.length) M Rf K L n s z cn M' Rf' K' L' n' s' z' → M' 6 6 = cn' → cn ≤ cn' → cn' ≤ cn + (TN f t Γ Δ : Int) → cn' ≤ z' → FR M' Rf' cn' (tyF f t Γ Δ) r → Q (some (.int (zI r))) (zM M', Rf', K', L', n', s')) → pm_Wc (d + 4 * f + 400) 102 [.ref 42, .int (zI v), .int (zI (Γ.length : Int)), .int (zI (dp : Int))] (zM M, Rf, K, L, n, s) Q
section PmE5
variable {d : Nat} {Q : Option Value → pm_S → Prop}
theorem c_fend {X cnt f : Nat} {Γ : List Ty} {Δ : List (Nat × Ty × Nat)} {t : Ty} {v : Int} {dp B : Nat} {o : Sum Nat (Option Ty)} {lv : Nat} {M : pm_M} {Rf : Nat → Nat → Nat} {K L : Nat → Nat} {n s z : Nat} {cn : Int} (hS : CFS X cnt Γ Δ M Rf K L n z cn) (hn : CNt M Rf cn X cnt (f + 1) t v) (hp : nPl t ≤ 100) (ho : ∀ q, o = .inl q → q ≤ 100) (h : ∀ (M' : pm_M) (Rf' : Nat → Nat → Nat) (K' L' : Nat → Nat) (n' s' z' : Nat) (cn' r : Int), CX (WFd Γ.length) M Rf K L n s z cn M' Rf' K' L' n' s' z' → M' 6 6 = cn' → cn ≤ cn' → cn' ≤ cn + (B : Int) → cn' ≤ z' → FR M' Rf' cn' (fnl (nPl t) o) r → Q (some (.int (zI r))) (zM M', Rf', K', L', n', s')) {M1 : pm_M} {R1 : Nat → Nat → Nat} {K1 L1 : Nat → Nat} {n1 s1 z1 : Nat} {cn1 r : Int} (cx : CX (WFd Γ.length) M Rf K L n s z cn M1 R1 K1 L1 n1 s1 z1) (u1 : M1 6 6 = cn1) (u2 : cn ≤ cn1) (u3 : cn1 ≤ cn + (B : Int)) (u4 : cn1 ≤ z1) (ro : RO M1 R1 cn1 o r) : pm_Wp none lv 102 15 [some (.ref 42), some (.int (zI v)), some (.int (zI (Γ.length : Int))), some (.int (zI (dp : Int))), none] [.int (zI r)] (zM M1, R1, K1, L1, n1, s1) Q := by
  have hx := hS.hx
  have tm := hS.tm cx (fun _ _ w => w)
  have vr := hn.rng
  have c60 := hS.ct
  have hz1 := cx.r.2.2.2.2
  have rx1 : R1 42 1 = X := by rw [cx.2.2.2.2.2.2.2.1 42 (by have := hS.g.1; omega) 1 (by omega)]; exact hS.rx
  have pl1 : M1 (X + 1 + 1) v = (nPl t : Int) := (tm _ (by omega) (by omega) v).trans hn.2.2.2.1
  -- the rule is broken
  have brk : M1 42 2 = -1 → fnl (nPl t) o = .inl (nPl t) → pm_Wp none lv 102 48 [some (.ref 42), some (.int (zI v)), some (.int (zI (Γ.length : Int))), some (.int (zI (dp : Int))), some (.int (zI r))] [] (zM M1, R1, K1, L1, n1, s1) Q := by
    intro hb hf
    rw [hf] at h
    refine wp_aload_n d102_48 rfl ?_
    refine wp_aload_n d102_49 rfl ?_
    refine wp_getR (q := X) d102_50 rfl (cx.g.o (by decide) rfl) (by decide) rx1 (by omega) ?_
    refine wp_getR (q := X + 1 + 1) d102_53 rfl (cx.g.tm hx) (by decide) (cx.g.tr hx (by decide)) (by omega) ?_
    refine wp_iload_n d102_56 rfl ?_
    refine wz_iald (z := 60) (v := (nPl t : Int)) d102_57 (cx.g.ta hx (by decide)) (by omega) (by omega) (by omega) (pl1) ?_
    refine wz_putI (i := 2) d102_58 rfl (cx.g.o (by decide) rfl) rfl (by decide) rfl ?_
    refine wz_iconst d102_61 ?_
    refine wp_ret d102_62 rfl (h _ R1 K1 L1 n1 s1 z1 cn1 (-1) (cx.set (fun g hg => by have := cx.r.2.1 g hg; omega) (by unfold WFd; omega) ⟨by omega, by omega⟩) (by rw [mset_p _ _ _ _ (by decide)]; exact u1) u2 u3 u4 ⟨rfl, mset_s _ _ _ _⟩)
  cases o with
  | inl q =>
    obtain ⟨e, e2⟩ := ro
    subst e
    have := ho q rfl
    refine wp_istore d102_15 (Nat.le_of_ble_eq_true rfl) rfl ?_
    refine wp_aload_n d102_17 rfl ?_
    refine wz_getI (v := (q : Int)) d102_18 rfl (cx.g.o (by decide) rfl) (by decide) (e2) ?_
    refine wz_iconst d102_21 ?_
    refine wz_icmp_eq (t := 27) d102_22 (by decide) ⟨by omega, by omega⟩ ⟨by omega, by omega⟩ (fun hb => absurd hb (by omega)) (fun _ => ?_)
    refine wz_iconst d102_25 ?_
    exact wp_ret d102_26 rfl (h M1 R1 K1 L1 n1 s1 z1 cn1 (-1) cx u1 u2 u3 u4 ⟨rfl, e2⟩)
  | inr a =>
    cases a with
    | none =>
      obtain ⟨e, e2⟩ := ro
      subst e
      refine wp_istore d102_15 (Nat.le_of_ble_eq_true rfl) rfl ?_
      refine wp_aload_n d102_17 rfl ?_
      refine wz_getI (v := (-1)) d102_18 rfl (cx.g.o (by decide) rfl) (by decide) (e2) ?_
      refine wz_iconst d102_21 ?_
      refine wz_icmp_eq (t := 27) d102_22 (by decide) ⟨by omega, by omega⟩ ⟨by omega, by omega⟩ (fun _ => ?_) (fun hb => absurd (rfl) hb)
      refine wp_iload d102_27 rfl ?_
      refine wz_iconst d102_29 ?_
      refine wz_icmp_eq (t := 48) d102_30 (by decide) ⟨by omega, by omega⟩ ⟨by omega, by omega⟩ (fun _ => ?_) (fun hb => absurd (rfl) hb)
      exact brk e2 rfl
    | some A =>
      obtain ⟨e2, rr, sz, nd, lA⟩ := ro
      have ef : fnl (nPl t) (.inr (some A)) = szt (nPl t) A := rfl
      refine wp_istore d102_15 (Nat.le_of_ble_eq_true rfl) rfl ?_
      refine wp_aload_n d102_17 rfl ?_
      refine wz_getI (v := (-1)) d102_18 rfl (cx.g.o (by decide) rfl) (by decide) (e2) ?_
      refine wz_iconst d102_21 ?_
      refine wz_icmp_eq (t := 27) d102_22 (by decide) ⟨by omega, by omega⟩ ⟨by omega, by omega⟩ (fun _ => ?_) (fun hb => absurd (rfl) hb)
      refine wp_iload d102_27 rfl ?_
      refine wz_iconst d102_29 ?_
      refine wz_icmp_eq (t := 48) d102_30 (by decide) ⟨by omega, by omega⟩ ⟨by omega, by omega⟩ (fun hb => absurd hb (by omega)) (fun _ => ?_)
      refine wp_aload_n d102_33 rfl ?_
      refine wp_getR (q := 6) d102_34 rfl (cx.g.o (by decide) rfl) (by decide) (cx.g.r (by decide +kernel)) (by decide) ?_
      refine wp_getR (q := R1 6 4) d102_37 rfl (cx.g.o (by decide) rfl) (by decide) rfl (cx.r.1 4 (by decide)).1 ?_
      refine wp_iload d102_40 rfl ?_
      refine wz_iald (z := z1) (v := ((flat A).length : Int)) d102_42 (cx.r.1 4 (by decide)) (rr.1) (by omega) (by omega) (sz) ?_
      refine wz_bipush d102_43 (by decide) ?_
      refine wz_icmp_le (t := 63) d102_45 (by decide) ⟨by omega, by omega⟩ ⟨by omega, by omega⟩ (fun hb => ?_) (fun hb => ?_)
      · skip
        have e3 : szt (nPl t) A = .inr A := if_pos (by omega)
        rw [ef, e3] at h
        refine wp_iload d102_63 rfl ?_
        exact wp_ret d102_65 rfl (h M1 R1 K1 L1 n1 s1 z1 cn1 r cx u1 u2 u3 u4 ⟨nd (by omega), e2⟩)
      · skip
        exact brk e2 (if_neg (by omega))
theorem c_find0 {X cnt f : Nat} {Γ : List Ty} {Δ : List (Nat × Ty × Nat)} {t : Ty} {v : Int} {dp B : Nat} {o : Sum Nat (Option Ty)} {lv : Nat} {M : pm_M} {Rf : Nat → Nat → Nat} {K L : Nat → Nat} {n s z : Nat} {cn : Int} (hS : CFS X cnt Γ Δ M Rf K L n z cn) (hn : CNt M Rf cn X cnt (f + 1) t v) (hk : nKd t = 5) (hdp : dp ≤ 24) (hp : nPl t ≤ 100) (ho : ∀ q, o = .inl q → q ≤ 100) (hG : Γ.length ≤ 100) (hB : cn + (B : Int) + 1300 ≤ 16384) (hr : RuC lv 104 X cnt Γ Δ f t v dp B o [.ref 42, .int (zI v), .int (zI (Γ.length : Int))]) (h : ∀ (M' : pm_M) (Rf' : Nat → Nat → Nat) (K' L' : Nat → Nat) (n' s' z' : Nat) (cn' r : Int), CX (WFd Γ.length) M Rf K L n s z cn M' Rf' K' L' n' s' z' → M' 6 6 = cn' → cn ≤ cn' → cn' ≤ cn + (B : Int) → cn' ≤ z' → FR M' Rf' cn' (fnl (nPl t) o) r → Q (some (.int (zI r))) (zM M', Rf', K', L', n', s')) : pm_Wc (lv + 2) 102 [.ref 42, .int (zI v), .int (zI (Γ.length : Int)), .int (zI (dp : Int))] (zM M, Rf, K, L, n, s) Q := by
  have hx := hS.hx
  have vr := hn.rng
  have c60 := hS.ct
  have kd : M (X + 1 + 0) v = 0 := by
    have := hn.2.1
    rw [hk] at this
    exact this
  refine wc_in (ls0 := [some (.ref 42), some (.int (zI v)), some (.int (zI (Γ.length : Int))), some (.int (zI (dp : Int))), none]) (by decide) (Nat.le_of_ble_eq_true rfl) rfl rfl ?_
  refine wp_iload_n d102_0 rfl ?_
  refine wz_bipush d102_1 (by decide) ?_
  refine wz_icmp_le (t := 8) d102_3 (by decide) ⟨by omega, by omega⟩ ⟨by omega, by omega⟩ (fun _ => ?_) (fun hb => absurd (by omega) hb)
  refine wp_aload_n d102_8 rfl ?_
  refine wp_iload_n d102_9 rfl ?_
  refine wp_iload_n d102_10 rfl ?_
  refine wp_iload_n d102_11 rfl ?_
  refine wp_virt (as := [.int (zI (dp : Int)), .int (zI (Γ.length : Int)), .int (zI v)]) (rest := []) d102_12 rfl rfl rfl (hS.g.o (by decide) rfl) rfl rfl (Nat.le_of_ble_eq_true rfl) ?_
  refine wc_in (ls0 := [some (.ref 42), some (.int (zI v)), some (.int (zI (Γ.length : Int))), some (.int (zI (dp : Int)))]) (by decide) (Nat.le_of_ble_eq_true rfl) rfl rfl ?_
  refine wp_aload_n d103_0 rfl ?_
  refine wp_getR (q := X) d103_1 rfl (hS.g.o (by decide) rfl) (by decide) hS.rx (by have := hS.hx; omega) ?_
  refine wp_getR (q := X + 1 + 0) d103_4 rfl (hS.g.tm hS.hx) (by decide) (hS.g.tr hS.hx (by decide)) (by omega) ?_
  refine wp_iload_n d103_7 rfl ?_
  refine wz_iald (z := 60) (v := 0) d103_8 (hS.g.ta hS.hx (by decide)) (by omega) (by omega) (by omega) (kd) ?_
  refine wp_table (t := 52) d103_9 (by decide +kernel) ?_
  refine wp_aload_n d103_52 rfl ?_
  refine wp_iload_n d103_53 rfl ?_
  refine wp_iload_n d103_54 rfl ?_
  refine wp_virt (as := [.int (zI (Γ.length : Int)), .int (zI v)]) (rest := []) d103_55 rfl rfl rfl (hS.g.o (by decide) rfl) rfl rfl (Nat.le_of_ble_eq_true rfl) ?_
  refine hr M Rf K L n s z cn _ hS hn hB (fun M1 R1 K1 L1 n1 s1 z1 cn1 r1 cx u1 u2 u3 u4 ro => wp_ret d103_58 rfl ?_)
  exact c_fend hS hn hp ho h cx u1 u2 u3 u4 ro
theorem c_find1 {X cnt f : Nat} {Γ : List Ty} {Δ : List (Nat × Ty × Nat)} {t : Ty} {v : Int} {dp B : Nat} {o : Sum Nat (Option Ty)} {lv : Nat} {M : pm_M} {Rf : Nat → Nat → Nat} {K L : Nat → Nat} {n s z : Nat} {cn : Int} (hS : CFS X cnt Γ Δ M Rf K L n z cn) (hn : CNt M Rf cn X cnt (f + 1) t v) (hk : nKd t = 6) (hdp : dp ≤ 24) (hp : nPl t ≤ 100) (ho : ∀ q, o = .inl q → q ≤ 100) (hG : Γ.length ≤ 100) (hB : cn + (B : Int) + 1300 ≤ 16384) (hr : RuC lv 105 X cnt Γ Δ f t v dp B o [.ref 42, .int (zI v), .int (zI (Γ.length : Int)), .int (zI (dp : Int))]) (h : ∀ (M' : pm_M) (Rf' : Nat → Nat → Nat) (K' L' : Nat → Nat) (n' s' z' : Nat) (cn' r : Int), CX (WFd Γ.length) M Rf K L n s z cn M' Rf' K' L' n' s' z' → M' 6 6 = cn' → cn ≤ cn' → cn' ≤ cn + (B : Int) → cn' ≤ z' → FR M' Rf' cn' (fnl (nPl t) o) r → Q (some (.int (zI r))) (zM M', Rf', K', L', n', s')) : pm_Wc (lv + 2) 102 [.ref 42, .int (zI v), .int (zI (Γ.length : Int)), .int (zI (dp : Int))] (zM M, Rf, K, L, n, s) Q := by
  have hx := hS.hx
  have vr := hn.rng
  have c60 := hS.ct
  have kd : M (X + 1 + 0) v = 1 := by
    have := hn.2.1
    rw [hk] at this
    exact this
  refine wc_in (ls0 := [some (.ref 42), some (.int (zI v)), some (.int (zI (Γ.length : Int))), some (.int (zI (dp : Int))), none]) (by decide) (Nat.le_of_ble_eq_true rfl) rfl rfl ?_
  refine wp_iload_n d102_0 rfl ?_
  refine wz_bipush d102_1 (by decide) ?_
  refine wz_icmp_le (t := 8) d102_3 (by decide) ⟨by omega, by omega⟩ ⟨by omega, by omega⟩ (fun _ => ?_) (fun hb => absurd (by omega) hb)
  refine wp_aload_n d102_8 rfl ?_
  refine wp_iload_n d102_9 rfl ?_
  refine wp_iload_n d102_10 rfl ?_
  refine wp_iload_n d102_11 rfl ?_
  refine wp_virt (as := [.int (zI (dp : Int)), .int (zI (Γ.length : Int)), .int (zI v)]) (rest := []) d102_12 rfl rfl rfl (hS.g.o (by decide) rfl) rfl rfl (Nat.le_of_ble_eq_true rfl) ?_
  refine wc_in (ls0 := [some (.ref 42), some (.int (zI v)), some (.int (zI (Γ.length : Int))), some (.int (zI (dp : Int)))]) (by decide) (Nat.le_of_ble_eq_true rfl) rfl rfl ?_
  refine wp_aload_n d103_0 rfl ?_
  refine wp_getR (q := X) d103_1 rfl (hS.g.o (by decide) rfl) (by decide) hS.rx (by have := hS.hx; omega) ?_
  refine wp_getR (q := X + 1 + 0) d103_4 rfl (hS.g.tm hS.hx) (by decide) (hS.g.tr hS.hx (by decide)) (by omega) ?_
  refine wp_iload_n d103_7 rfl ?_
  refine wz_iald (z := 60) (v := 1) d103_8 (hS.g.ta hS.hx (by decide)) (by omega) (by omega) (by omega) (kd) ?_
  refine wp_table (t := 59) d103_9 (by decide +kernel) ?_
  refine wp_aload_n d103_59 rfl ?_
  refine wp_iload_n d103_60 rfl ?_
  refine wp_iload_n d103_61 rfl ?_
  refine wp_iload_n d103_62 rfl ?_
  refine wp_virt (as := [.int (zI (dp : Int)), .int (zI (Γ.length : Int)), .int (zI v)]) (rest := []) d103_63 rfl rfl rfl (hS.g.o (by decide) rfl) rfl rfl (Nat.le_of_ble_eq_true rfl) ?_
  refine hr M Rf K L n s z cn _ hS hn hB (fun M1 R1 K1 L1 n1 s1 z1 cn1 r1 cx u1 u2 u3 u4 ro => wp_ret d103_66 rfl ?_)
  exact c_fend hS hn hp ho h cx u1 u2 u3 u4 ro
theorem c_find2 {X cnt f : Nat} {Γ : List Ty} {Δ : List (Nat × Ty × Nat)} {t : Ty} {v : Int} {dp B : Nat} {o : Sum Nat (Option Ty)} {lv : Nat} {M : pm_M} {Rf : Nat → Nat → Nat} {K L : Nat → Nat} {n s z : Nat} {cn : Int} (hS : CFS X cnt Γ Δ M Rf K L n z cn) (hn : CNt M Rf cn X cnt (f + 1) t v) (hk : nKd t = 7) (hdp : dp ≤ 24) (hp : nPl t ≤ 100) (ho : ∀ q, o = .inl q → q ≤ 100) (hG : Γ.length ≤ 100) (hB : cn + (B : Int) + 1300 ≤ 16384) (hr : RuC lv 106 X cnt Γ Δ f t v dp B o [.ref 42, .int (zI v), .int (zI (Γ.length : Int)), .int (zI (dp : Int))]) (h : ∀ (M' : pm_M) (Rf' : Nat → Nat → Nat) (K' L' : Nat → Nat) (n' s' z' : Nat) (cn' r : Int), CX (WFd Γ.length) M Rf K L n s z cn M' Rf' K' L' n' s' z' → M' 6 6 = cn' → cn ≤ cn' → cn' ≤ cn + (B : Int) → cn' ≤ z' → FR M' Rf' cn' (fnl (nPl t) o) r → Q (some (.int (zI r))) (zM M', Rf', K', L', n', s')) : pm_Wc (lv + 2) 102 [.ref 42, .int (zI v), .int (zI (Γ.length : Int)), .int (zI (dp : Int))] (zM M, Rf, K, L, n, s) Q := by
  have hx := hS.hx
  have vr := hn.rng
  have c60 := hS.ct
  have kd : M (X + 1 + 0) v = 2 := by
    have := hn.2.1
    rw [hk] at this
    exact this
  refine wc_in (ls0 := [some (.ref 42), some (.int (zI v)), some (.int (zI (Γ.length : Int))), some (.int (zI (dp : Int))), none]) (by decide) (Nat.le_of_ble_eq_true rfl) rfl rfl ?_
  refine wp_iload_n d102_0 rfl ?_
  refine wz_bipush d102_1 (by decide) ?_
  refine wz_icmp_le (t := 8) d102_3 (by decide) ⟨by omega, by omega⟩ ⟨by omega, by omega⟩ (fun _ => ?_) (fun hb => absurd (by omega) hb)
  refine wp_aload_n d102_8 rfl ?_
  refine wp_iload_n d102_9 rfl ?_
  refine wp_iload_n d102_10 rfl ?_
  refine wp_iload_n d102_11 rfl ?_
  refine wp_virt (as := [.int (zI (dp : Int)), .int (zI (Γ.length : Int)), .int (zI v)]) (rest := []) d102_12 rfl rfl rfl (hS.g.o (by decide) rfl) rfl rfl (Nat.le_of_ble_eq_true rfl) ?_
  refine wc_in (ls0 := [some (.ref 42), some (.int (zI v)), some (.int (zI (Γ.length : Int))), some (.int (zI (dp : Int)))]) (by decide) (Nat.le_of_ble_eq_true rfl) rfl rfl ?_
  refine wp_aload_n d103_0 rfl ?_
  refine wp_getR (q := X) d103_1 rfl (hS.g.o (by decide) rfl) (by decide) hS.rx (by have := hS.hx; omega) ?_
  refine wp_getR (q := X + 1 + 0) d103_4 rfl (hS.g.tm hS.hx) (by decide) (hS.g.tr hS.hx (by decide)) (by omega) ?_
  refine wp_iload_n d103_7 rfl ?_
  refine wz_iald (z := 60) (v := 2) d103_8 (hS.g.ta hS.hx (by decide)) (by omega) (by omega) (by omega) (kd) ?_
  refine wp_table (t := 67) d103_9 (by decide +kernel) ?_
  refine wp_aload_n d103_67 rfl ?_
  refine wp_iload_n d103_68 rfl ?_
  refine wp_iload_n d103_69 rfl ?_
  refine wp_iload_n d103_70 rfl ?_
  refine wp_virt (as := [.int (zI (dp : Int)), .int (zI (Γ.length : Int)), .int (zI v)]) (rest := []) d103_71 rfl rfl rfl (hS.g.o (by decide) rfl) rfl rfl (Nat.le_of_ble_eq_true rfl) ?_
  refine hr M Rf K L n s z cn _ hS hn hB (fun M1 R1 K1 L1 n1 s1 z1 cn1 r1 cx u1 u2 u3 u4 ro => wp_ret d103_74 rfl ?_)
  exact c_fend hS hn hp ho h cx u1 u2 u3 u4 ro
theorem c_find3 {X cnt f : Nat} {Γ : List Ty} {Δ : List (Nat × Ty × Nat)} {t : Ty} {v : Int} {dp B : Nat} {o : Sum Nat (Option Ty)} {lv : Nat} {M : pm_M} {Rf : Nat → Nat → Nat} {K L : Nat → Nat} {n s z : Nat} {cn : Int} (hS : CFS X cnt Γ Δ M Rf K L n z cn) (hn : CNt M Rf cn X cnt (f + 1) t v) (hk : nKd t = 8) (hdp : dp ≤ 24) (hp : nPl t ≤ 100) (ho : ∀ q, o = .inl q → q ≤ 100) (hG : Γ.length ≤ 100) (hB : cn + (B : Int) + 1300 ≤ 16384) (hr : RuC lv 107 X cnt Γ Δ f t v dp B o [.ref 42, .int (zI v), .int (zI (Γ.length : Int)), .int (zI (dp : Int))]) (h : ∀ (M' : pm_M) (Rf' : Nat → Nat → Nat) (K' L' : Nat → Nat) (n' s' z' : Nat) (cn' r : Int), CX (WFd Γ.length) M Rf K L n s z cn M' Rf' K' L' n' s' z' → M' 6 6 = cn' → cn ≤ cn' → cn' ≤ cn + (B : Int) → cn' ≤ z' → FR M' Rf' cn' (fnl (nPl t) o) r → Q (some (.int (zI r))) (zM M', Rf', K', L', n', s')) : pm_Wc (lv + 2) 102 [.ref 42, .int (zI v), .int (zI (Γ.length : Int)), .int (zI (dp : Int))] (zM M, Rf, K, L, n, s) Q := by
  have hx := hS.hx
  have vr := hn.rng
  have c60 := hS.ct
  have kd : M (X + 1 + 0) v = 3 := by
    have := hn.2.1
    rw [hk] at this
    exact this
  refine wc_in (ls0 := [some (.ref 42), some (.int (zI v)), some (.int (zI (Γ.length : Int))), some (.int (zI (dp : Int))), none]) (by decide) (Nat.le_of_ble_eq_true rfl) rfl rfl ?_
  refine wp_iload_n d102_0 rfl ?_
  refine wz_bipush d102_1 (by decide) ?_
  refine wz_icmp_le (t := 8) d102_3 (by decide) ⟨by omega, by omega⟩ ⟨by omega, by omega⟩ (fun _ => ?_) (fun hb => absurd (by omega) hb)
  refine wp_aload_n d102_8 rfl ?_
  refine wp_iload_n d102_9 rfl ?_
  refine wp_iload_n d102_10 rfl ?_
  refine wp_iload_n d102_11 rfl ?_
  refine wp_virt (as := [.int (zI (dp : Int)), .int (zI (Γ.length : Int)), .int (zI v)]) (rest := []) d102_12 rfl rfl rfl (hS.g.o (by decide) rfl) rfl rfl (Nat.le_of_ble_eq_true rfl) ?_
  refine wc_in (ls0 := [some (.ref 42), some (.int (zI v)), some (.int (zI (Γ.length : Int))), some (.int (zI (dp : Int)))]) (by decide) (Nat.le_of_ble_eq_true rfl) rfl rfl ?_
  refine wp_aload_n d103_0 rfl ?_
  refine wp_getR (q := X) d103_1 rfl (hS.g.o (by decide) rfl) (by decide) hS.rx (by have := hS.hx; omega) ?_
  refine wp_getR (q := X + 1 + 0) d103_4 rfl (hS.g.tm hS.hx) (by decide) (hS.g.tr hS.hx (by decide)) (by omega) ?_
  refine wp_iload_n d103_7 rfl ?_
  refine wz_iald (z := 60) (v := 3) d103_8 (hS.g.ta hS.hx (by decide)) (by omega) (by omega) (by omega) (kd) ?_
  refine wp_table (t := 75) d103_9 (by decide +kernel) ?_
  refine wp_aload_n d103_75 rfl ?_
  refine wp_iload_n d103_76 rfl ?_
  refine wp_iload_n d103_77 rfl ?_
  refine wp_iload_n d103_78 rfl ?_
  refine wp_virt (as := [.int (zI (dp : Int)), .int (zI (Γ.length : Int)), .int (zI v)]) (rest := []) d103_79 rfl rfl rfl (hS.g.o (by decide) rfl) rfl rfl (Nat.le_of_ble_eq_true rfl) ?_
  refine hr M Rf K L n s z cn _ hS hn hB (fun M1 R1 K1 L1 n1 s1 z1 cn1 r1 cx u1 u2 u3 u4 ro => wp_ret d103_82 rfl ?_)
  exact c_fend hS hn hp ho h cx u1 u2 u3 u4 ro
theorem c_find4 {X cnt f : Nat} {Γ : List Ty} {Δ : List (Nat × Ty × Nat)} {t : Ty} {v : Int} {dp B : Nat} {o : Sum Nat (Option Ty)} {lv : Nat} {M : pm_M} {Rf : Nat → Nat → Nat} {K L : Nat → Nat} {n s z : Nat} {cn : Int} (hS : CFS X cnt Γ Δ M Rf K L n z cn) (hn : CNt M Rf cn X cnt (f + 1) t v) (hk : nKd t = 9) (hdp : dp ≤ 24) (hp : nPl t ≤ 100) (ho : ∀ q, o = .inl q → q ≤ 100) (hG : Γ.length ≤ 100) (hB : cn + (B : Int) + 1300 ≤ 16384) (hr : RuC lv 108 X cnt Γ Δ f t v dp B o [.ref 42, .int (zI v), .int (zI (Γ.length : Int)), .int (zI (dp : Int))]) (h : ∀ (M' : pm_M) (Rf' : Nat → Nat → Nat) (K' L' : Nat → Nat) (n' s' z' : Nat) (cn' r : Int), CX (WFd Γ.length) M Rf K L n s z cn M' Rf' K' L' n' s' z' → M' 6 6 = cn' → cn ≤ cn' → cn' ≤ cn + (B : Int) → cn' ≤ z' → FR M' Rf' cn' (fnl (nPl t) o) r → Q (some (.int (zI r))) (zM M', Rf', K', L', n', s')) : pm_Wc (lv + 2) 102 [.ref 42, .int (zI v), .int (zI (Γ.length : Int)), .int (zI (dp : Int))] (zM M, Rf, K, L, n, s) Q := by
  have hx := hS.hx
  have vr := hn.rng
  have c60 := hS.ct
  have kd : M (X + 1 + 0) v = 4 := by
    have := hn.2.1
    rw [hk] at this
    exact this
  refine wc_in (ls0 := [some (.ref 42), some (.int (zI v)), some (.int (zI (Γ.length : Int))), some (.int (zI (dp : Int))), none]) (by decide) (Nat.le_of_ble_eq_true rfl) rfl rfl ?_
  refine wp_iload_n d102_0 rfl ?_
  refine wz_bipush d102_1 (by decide) ?_
  refine wz_icmp_le (t := 8) d102_3 (by decide) ⟨by omega, by omega⟩ ⟨by omega, by omega⟩ (fun _ => ?_) (fun hb => absurd (by omega) hb)
  refine wp_aload_n d102_8 rfl ?_
  refine wp_iload_n d102_9 rfl ?_
  refine wp_iload_n d102_10 rfl ?_
  refine wp_iload_n d102_11 rfl ?_
  refine wp_virt (as := [.int (zI (dp : Int)), .int (zI (Γ.length : Int)), .int (zI v)]) (rest := []) d102_12 rfl rfl rfl (hS.g.o (by decide) rfl) rfl rfl (Nat.le_of_ble_eq_true rfl) ?_
  refine wc_in (ls0 := [some (.ref 42), some (.int (zI v)), some (.int (zI (Γ.length : Int))), some (.int (zI (dp : Int)))]) (by decide) (Nat.le_of_ble_eq_true rfl) rfl rfl ?_
  refine wp_aload_n d103_0 rfl ?_
  refine wp_getR (q := X) d103_1 rfl (hS.g.o (by decide) rfl) (by decide) hS.rx (by have := hS.hx; omega) ?_
  refine wp_getR (q := X + 1 + 0) d103_4 rfl (hS.g.tm hS.hx) (by decide) (hS.g.tr hS.hx (by decide)) (by omega) ?_
  refine wp_iload_n d103_7 rfl ?_
  refine wz_iald (z := 60) (v := 4) d103_8 (hS.g.ta hS.hx (by decide)) (by omega) (by omega) (by omega) (kd) ?_
  refine wp_table (t := 83) d103_9 (by decide +kernel) ?_
  refine wp_aload_n d103_83 rfl ?_
  refine wp_iload_n d103_84 rfl ?_
  refine wp_iload_n d103_85 rfl ?_
  refine wp_iload_n d103_86 rfl ?_
  refine wp_virt (as := [.int (zI (dp : Int)), .int (zI (Γ.length : Int)), .int (zI v)]) (rest := []) d103_87 rfl rfl rfl (hS.g.o (by decide) rfl) rfl rfl (Nat.le_of_ble_eq_true rfl) ?_
  refine hr M Rf K L n s z cn _ hS hn hB (fun M1 R1 K1 L1 n1 s1 z1 cn1 r1 cx u1 u2 u3 u4 ro => wp_ret d103_90 rfl ?_)
  exact c_fend hS hn hp ho h cx u1 u2 u3 u4 ro
theorem c_find5 {X cnt f : Nat} {Γ : List Ty} {Δ : List (Nat × Ty × Nat)} {t : Ty} {v : Int} {dp B : Nat} {o : Sum Nat (Option Ty)} {lv : Nat} {M : pm_M} {Rf : Nat → Nat → Nat} {K L : Nat → Nat} {n s z : Nat} {cn : Int} (hS : CFS X cnt Γ Δ M Rf K L n z cn) (hn : CNt M Rf cn X cnt (f + 1) t v) (hk : nKd t = 10) (hdp : dp ≤ 24) (hp : nPl t ≤ 100) (ho : ∀ q, o = .inl q → q ≤ 100) (hG : Γ.length ≤ 100) (hB : cn + (B : Int) + 1300 ≤ 16384) (hr : RuC lv 109 X cnt Γ Δ f t v dp B o [.ref 42, .int (zI v), .int (zI (Γ.length : Int)), .int (zI (dp : Int))]) (h : ∀ (M' : pm_M) (Rf' : Nat → Nat → Nat) (K' L' : Nat → Nat) (n' s' z' : Nat) (cn' r : Int), CX (WFd Γ.length) M Rf K L n s z cn M' Rf' K' L' n' s' z' → M' 6 6 = cn' → cn ≤ cn' → cn' ≤ cn + (B : Int) → cn' ≤ z' → FR M' Rf' cn' (fnl (nPl t) o) r → Q (some (.int (zI r))) (zM M', Rf', K', L', n', s')) : pm_Wc (lv + 2) 102 [.ref 42, .int (zI v), .int (zI (Γ.length : Int)), .int (zI (dp : Int))] (zM M, Rf, K, L, n, s) Q := by
  have hx := hS.hx
  have vr := hn.rng
  have c60 := hS.ct
  have kd : M (X + 1 + 0) v = 5 := by
    have := hn.2.1
    rw [hk] at this
    exact this
  refine wc_in (ls0 := [some (.ref 42), some (.int (zI v)), some (.int (zI (Γ.length : Int))), some (.int (zI (dp : Int))), none]) (by decide) (Nat.le_of_ble_eq_true rfl) rfl rfl ?_
  refine wp_iload_n d102_0 rfl ?_
  refine wz_bipush d102_1 (by decide) ?_
  refine wz_icmp_le (t := 8) d102_3 (by decide) ⟨by omega, by omega⟩ ⟨by omega, by omega⟩ (fun _ => ?_) (fun hb => absurd (by omega) hb)
  refine wp_aload_n d102_8 rfl ?_
  refine wp_iload_n d102_9 rfl ?_
  refine wp_iload_n d102_10 rfl ?_
  refine wp_iload_n d102_11 rfl ?_
  refine wp_virt (as := [.int (zI (dp : Int)), .int (zI (Γ.length : Int)), .int (zI v)]) (rest := []) d102_12 rfl rfl rfl (hS.g.o (by decide) rfl) rfl rfl (Nat.le_of_ble_eq_true rfl) ?_
  refine wc_in (ls0 := [some (.ref 42), some (.int (zI v)), some (.int (zI (Γ.length : Int))), some (.int (zI (dp : Int)))]) (by decide) (Nat.le_of_ble_eq_true rfl) rfl rfl ?_
  refine wp_aload_n d103_0 rfl ?_
  refine wp_getR (q := X) d103_1 rfl (hS.g.o (by decide) rfl) (by decide) hS.rx (by have := hS.hx; omega) ?_
  refine wp_getR (q := X + 1 + 0) d103_4 rfl (hS.g.tm hS.hx) (by decide) (hS.g.tr hS.hx (by decide)) (by omega) ?_
  refine wp_iload_n d103_7 rfl ?_
  refine wz_iald (z := 60) (v := 5) d103_8 (hS.g.ta hS.hx (by decide)) (by omega) (by omega) (by omega) (kd) ?_
  refine wp_table (t := 91) d103_9 (by decide +kernel) ?_
  refine wp_aload_n d103_91 rfl ?_
  refine wp_iload_n d103_92 rfl ?_
  refine wp_iload_n d103_93 rfl ?_
  refine wp_iload_n d103_94 rfl ?_
  refine wp_virt (as := [.int (zI (dp : Int)), .int (zI (Γ.length : Int)), .int (zI v)]) (rest := []) d103_95 rfl rfl rfl (hS.g.o (by decide) rfl) rfl rfl (Nat.le_of_ble_eq_true rfl) ?_
  refine hr M Rf K L n s z cn _ hS hn hB (fun M1 R1 K1 L1 n1 s1 z1 cn1 r1 cx u1 u2 u3 u4 ro => wp_ret d103_98 rfl ?_)
  exact c_fend hS hn hp ho h cx u1 u2 u3 u4 ro
theorem c_find6 {X cnt f : Nat} {Γ : List Ty} {Δ : List (Nat × Ty × Nat)} {t : Ty} {v : Int} {dp B : Nat} {o : Sum Nat (Option Ty)} {lv : Nat} {M : pm_M} {Rf : Nat → Nat → Nat} {K L : Nat → Nat} {n s z : Nat} {cn : Int} (hS : CFS X cnt Γ Δ M Rf K L n z cn) (hn : CNt M Rf cn X cnt (f + 1) t v) (hk : nKd t = 11) (hdp : dp ≤ 24) (hp : nPl t ≤ 100) (ho : ∀ q, o = .inl q → q ≤ 100) (hG : Γ.length ≤ 100) (hB : cn + (B : Int) + 1300 ≤ 16384) (hr : RuC lv 111 X cnt Γ Δ f t v dp B o [.ref 42, .int (zI v), .int (zI (Γ.length : Int)), .int (zI (dp : Int))]) (h : ∀ (M' : pm_M) (Rf' : Nat → Nat → Nat) (K' L' : Nat → Nat) (n' s' z' : Nat) (cn' r : Int), CX (WFd Γ.length) M Rf K L n s z cn M' Rf' K' L' n' s' z' → M' 6 6 = cn' → cn ≤ cn' → cn' ≤ cn + (B : Int) → cn' ≤ z' → FR M' Rf' cn' (fnl (nPl t) o) r → Q (some (.int (zI r))) (zM M', Rf', K', L', n', s')) : pm_Wc (lv + 2) 102 [.ref 42, .int (zI v), .int (zI (Γ.length : Int)), .int (zI (dp : Int))] (zM M, Rf, K, L, n, s) Q := by
  have hx := hS.hx
  have vr := hn.rng
  have c60 := hS.ct
  have kd : M (X + 1 + 0) v = 6 := by
    have := hn.2.1
    rw [hk] at this
    exact this
  refine wc_in (ls0 := [some (.ref 42), some (.int (zI v)), some (.int (zI (Γ.length : Int))), some (.int (zI (dp : Int))), none]) (by decide) (Nat.le_of_ble_eq_true rfl) rfl rfl ?_
  refine wp_iload_n d102_0 rfl ?_
  refine wz_bipush d102_1 (by decide) ?_
  refine wz_icmp_le (t := 8) d102_3 (by decide) ⟨by omega, by omega⟩ ⟨by omega, by omega⟩ (fun _ => ?_) (fun hb => absurd (by omega) hb)
  refine wp_aload_n d102_8 rfl ?_
  refine wp_iload_n d102_9 rfl ?_
  refine wp_iload_n d102_10 rfl ?_
  refine wp_iload_n d102_11 rfl ?_
  refine wp_virt (as := [.int (zI (dp : Int)), .int (zI (Γ.length : Int)), .int (zI v)]) (rest := []) d102_12 rfl rfl rfl (hS.g.o (by decide) rfl) rfl rfl (Nat.le_of_ble_eq_true rfl) ?_
  refine wc_in (ls0 := [some (.ref 42), some (.int (zI v)), some (.int (zI (Γ.length : Int))), some (.int (zI (dp : Int)))]) (by decide) (Nat.le_of_ble_eq_true rfl) rfl rfl ?_
  refine wp_aload_n d103_0 rfl ?_
  refine wp_getR (q := X) d103_1 rfl (hS.g.o (by decide) rfl) (by decide) hS.rx (by have := hS.hx; omega) ?_
  refine wp_getR (q := X + 1 + 0) d103_4 rfl (hS.g.tm hS.hx) (by decide) (hS.g.tr hS.hx (by decide)) (by omega) ?_
  refine wp_iload_n d103_7 rfl ?_
  refine wz_iald (z := 60) (v := 6) d103_8 (hS.g.ta hS.hx (by decide)) (by omega) (by omega) (by omega) (kd) ?_
  refine wp_table (t := 99) d103_9 (by decide +kernel) ?_
  refine wp_aload_n d103_99 rfl ?_
  refine wp_iload_n d103_100 rfl ?_
  refine wp_iload_n d103_101 rfl ?_
  refine wp_iload_n d103_102 rfl ?_
  refine wp_virt (as := [.int (zI (dp : Int)), .int (zI (Γ.length : Int)), .int (zI v)]) (rest := []) d103_103 rfl rfl rfl (hS.g.o (by decide) rfl) rfl rfl (Nat.le_of_ble_eq_true rfl) ?_
  refine hr M Rf K L n s z cn _ hS hn hB (fun M1 R1 K1 L1 n1 s1 z1 cn1 r1 cx u1 u2 u3 u4 ro => wp_ret d103_106 rfl ?_)
  exact c_fend hS hn hp ho h cx u1 u2 u3 u4 ro
theorem c_find7 {X cnt f : Nat} {Γ : List Ty} {Δ : List (Nat × Ty × Nat)} {t : Ty} {v : Int} {dp B : Nat} {o : Sum Nat (Option Ty)} {lv : Nat} {M : pm_M} {Rf : Nat → Nat → Nat} {K L : Nat → Nat} {n s z : Nat} {cn : Int} (hS : CFS X cnt Γ Δ M Rf K L n z cn) (hn : CNt M Rf cn X cnt (f + 1) t v) (hk : nKd t = 12) (hdp : dp ≤ 24) (hp : nPl t ≤ 100) (ho : ∀ q, o = .inl q → q ≤ 100) (hG : Γ.length ≤ 100) (hB : cn + (B : Int) + 1300 ≤ 16384) (hr : RuC lv 112 X cnt Γ Δ f t v dp B o [.ref 42, .int (zI v), .int (zI (Γ.length : Int)), .int (zI (dp : Int))]) (h : ∀ (M' : pm_M) (Rf' : Nat → Nat → Nat) (K' L' : Nat → Nat) (n' s' z' : Nat) (cn' r : Int), CX (WFd Γ.length) M Rf K L n s z cn M' Rf' K' L' n' s' z' → M' 6 6 = cn' → cn ≤ cn' → cn' ≤ cn + (B : Int) → cn' ≤ z' → FR M' Rf' cn' (fnl (nPl t) o) r → Q (some (.int (zI r))) (zM M', Rf', K', L', n', s')) : pm_Wc (lv + 2) 102 [.ref 42, .int (zI v), .int (zI (Γ.length : Int)), .int (zI (dp : Int))] (zM M, Rf, K, L, n, s) Q := by
  have hx := hS.hx
  have vr := hn.rng
  have c60 := hS.ct
  have kd : M (X + 1 + 0) v = 7 := by
    have := hn.2.1
    rw [hk] at this
    exact this
  refine wc_in (ls0 := [some (.ref 42), some (.int (zI v)), some (.int (zI (Γ.length : Int))), some (.int (zI (dp : Int))), none]) (by decide) (Nat.le_of_ble_eq_true rfl) rfl rfl ?_
  refine wp_iload_n d102_0 rfl ?_
  refine wz_bipush d102_1 (by decide) ?_
  refine wz_icmp_le (t := 8) d102_3 (by decide) ⟨by omega, by omega⟩ ⟨by omega, by omega⟩ (fun _ => ?_) (fun hb => absurd (by omega) hb)
  refine wp_aload_n d102_8 rfl ?_
  refine wp_iload_n d102_9 rfl ?_
  refine wp_iload_n d102_10 rfl ?_
  refine wp_iload_n d102_11 rfl ?_
  refine wp_virt (as := [.int (zI (dp : Int)), .int (zI (Γ.length : Int)), .int (zI v)]) (rest := []) d102_12 rfl rfl rfl (hS.g.o (by decide) rfl) rfl rfl (Nat.le_of_ble_eq_true rfl) ?_
  refine wc_in (ls0 := [some (.ref 42), some (.int (zI v)), some (.int (zI (Γ.length : Int))), some (.int (zI (dp : Int)))]) (by decide) (Nat.le_of_ble_eq_true rfl) rfl rfl ?_
  refine wp_aload_n d103_0 rfl ?_
  refine wp_getR (q := X) d103_1 rfl (hS.g.o (by decide) rfl) (by decide) hS.rx (by have := hS.hx; omega) ?_
  refine wp_getR (q := X + 1 + 0) d103_4 rfl (hS.g.tm hS.hx) (by decide) (hS.g.tr hS.hx (by decide)) (by omega) ?_
  refine wp_iload_n d103_7 rfl ?_
  refine wz_iald (z := 60) (v := 7) d103_8 (hS.g.ta hS.hx (by decide)) (by omega) (by omega) (by omega) (kd) ?_
  refine wp_table (t := 107) d103_9 (by decide +kernel) ?_
  refine wp_aload_n d103_107 rfl ?_
  refine wp_iload_n d103_108 rfl ?_
  refine wp_iload_n d103_109 rfl ?_
  refine wp_iload_n d103_110 rfl ?_
  refine wp_virt (as := [.int (zI (dp : Int)), .int (zI (Γ.length : Int)), .int (zI v)]) (rest := []) d103_111 rfl rfl rfl (hS.g.o (by decide) rfl) rfl rfl (Nat.le_of_ble_eq_true rfl) ?_
  refine hr M Rf K L n s z cn _ hS hn hB (fun M1 R1 K1 L1 n1 s1 z1 cn1 r1 cx u1 u2 u3 u4 ro => wp_ret d103_114 rfl ?_)
  exact c_fend hS hn hp ho h cx u1 u2 u3 u4 ro
end PmE5
