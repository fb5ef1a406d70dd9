/-! A CHOICE OF ONE NAME WITH ITSELF is that name: such choices go out of a term, its type stays. -/
def smW (a b : Ty) : Bool := decide (nKd a = 5 ∧ nKd b = 5 ∧ nMk a = nMk b)
theorem smW_is {a b : Ty} : smW a b = true ↔ nKd a = 5 ∧ nKd b = 5 ∧ nMk a = nMk b := by
  unfold smW
  exact decide_eq_true_iff
def tri : Nat → Ty → Ty
  | 0, t => t
  | f + 1, t =>
    if nKd t = 12 ∧ smW (tri f (nX t)) (tri f (nY t)) = true then tri f (nX t)
    else if nKd t = 6 ∨ nKd t = 8 then mN (nPl t) (nKd t) (nMk t) (nX t) (tri f (nY t)) (nZ t)
    else if nKd t = 7 ∨ nKd t = 12 then mN (nPl t) (nKd t) (nMk t) (tri f (nX t)) (tri f (nY t)) (nZ t)
    else if nKd t = 9 ∨ nKd t = 11 then mN (nPl t) (nKd t) (nMk t) (tri f (nX t)) (nY t) (nZ t)
    else if nKd t = 10 then mN (nPl t) (nKd t) (nMk t) (if bit (nMk t) 0 = true then tri f (nX t) else nX t) (if bit (nMk t) 1 = true then tri f (nY t) else nY t) (if bit (nMk t) 2 = true then tri f (nZ t) else nZ t)
    else t
/-- nothing of that kind is left -/
def TNo : Nat → Ty → Prop
  | 0, _ => True
  | f + 1, t => (nKd t = 6 ∨ nKd t = 8 → TNo f (nY t)) ∧ (nKd t = 7 ∨ nKd t = 12 → TNo f (nX t) ∧ TNo f (nY t)) ∧ (nKd t = 9 ∨ nKd t = 11 → TNo f (nX t)) ∧ (nKd t = 10 → ∀ g, g < 3 → bit (nMk t) g = true → TNo f (nP t g)) ∧ (nKd t = 12 → ¬ smW (nX t) (nY t) = true)
theorem nd_mN (p k m : Nat) (x y z : Ty) : nPl (mN p k m x y z) = p ∧ nKd (mN p k m x y z) = k ∧ nMk (mN p k m x y z) = m ∧ nX (mN p k m x y z) = x ∧ nY (mN p k m x y z) = y ∧ nZ (mN p k m x y z) = z := ⟨rfl, rfl, rfl, rfl, rfl, rfl⟩
section PmYa
variable {f D : Nat} {sc : List Nat} {t : Ty}
/-- a word stands at every depth -/
theorem word_up (h : TWf f D sc t) (k : nKd t = 5) : TWf (f + 1) D sc t := by
  cases f with
  | zero => exact h.elim
  | succ f =>
    obtain ⟨w0, w5, -⟩ := h
    exact ⟨w0, w5, fun e => by omega, fun e => by omega, fun e => by omega, fun e => by omega, fun e => by omega, fun e => by omega, fun e => by omega⟩
theorem word_one (h : TWf f D sc t) (k : nKd t = 5) : mch t = 1 := by
  cases f with
  | zero => exact h.elim
  | succ f => rw [mch_is h.1.2.1, if_pos k]
end PmYa
/-- in order, not longer, without aliases -/
theorem tri_ok : ∀ (f D : Nat) (sc : List Nat) (t : Ty), TWf f D sc t → (TWf f D sc (tri f t) ∧ mch (tri f t) ≤ mch t) ∧ TNo f (tri f t) ∧ (NAt f t → NAt f (tri f t))
  | 0, _, _, _, h => h.elim
  | f + 1, D, sc, t, h => by
    have ih := fun D sc t => tri_ok f D sc t
    have h' := h
    obtain ⟨⟨kk, e, nl, pl⟩, w5, w6, w7, w8, w9, w10, w11, w12⟩ := h
    have em := mch_is e
    have e0 : tri (f + 1) t = (if nKd t = 12 ∧ smW (tri f (nX t)) (tri f (nY t)) = true then tri f (nX t)
      else if nKd t = 6 ∨ nKd t = 8 then mN (nPl t) (nKd t) (nMk t) (nX t) (tri f (nY t)) (nZ t)
      else if nKd t = 7 ∨ nKd t = 12 then mN (nPl t) (nKd t) (nMk t) (tri f (nX t)) (tri f (nY t)) (nZ t)
      else if nKd t = 9 ∨ nKd t = 11 then mN (nPl t) (nKd t) (nMk t) (tri f (nX t)) (nY t) (nZ t)
      else if nKd t = 10 then mN (nPl t) (nKd t) (nMk t) (if bit (nMk t) 0 = true then tri f (nX t) else nX t) (if bit (nMk t) 1 = true then tri f (nY t) else nY t) (if bit (nMk t) 2 = true then tri f (nZ t) else nZ t)
      else t) := rfl
    by_cases c12 : nKd t = 12 ∧ smW (tri f (nX t)) (tri f (nY t)) = true
    · rw [e0, if_pos c12]
      obtain ⟨wx, wy⟩ := w7 (Or.inr c12.1)
      obtain ⟨⟨a1, a2⟩, a3, a4⟩ := ih D sc _ wx
      have k5 := (smW_is.mp c12.2).1
      refine ⟨⟨word_up a1 k5, ?_⟩, ⟨fun e => by omega, fun e => by omega, fun e => by omega, fun e => by omega, fun e => by omega⟩, fun na => ⟨fun e => by omega, fun e => by omega, fun e => by omega, fun e => by omega, fun e => by omega, fun e => by omega⟩⟩
      rw [em, if_neg (by omega), if_neg (by omega), if_neg (by omega), if_neg (by omega)]
      omega
    rw [e0, if_neg c12]
    by_cases c6 : nKd t = 6 ∨ nKd t = 8
    · rw [if_pos c6]
      obtain ⟨m1, m2, m3, m4, m5, m6⟩ := nd_mN (nPl t) (nKd t) (nMk t) (nX t) (tri f (nY t)) (nZ t)
      have wy : ∃ D' sc', TWf f D' sc' (nY t) := by
        rcases c6 with c | c
        · exact ⟨_, _, (w6 c).2.2.2⟩
        · exact ⟨_, _, (w8 c).2.2⟩
      obtain ⟨D', sc', wy⟩ := wy
      obtain ⟨⟨-, b2⟩, b3, b4⟩ := ih D' sc' _ wy
      refine ⟨⟨⟨⟨kk, rfl, ?_, pl⟩, fun e => by omega, fun c => ?_, fun e => by omega, fun c => ?_, fun e => by omega, fun e => by omega, fun e => by omega, fun e => by omega⟩, ?_⟩, ⟨fun _ => b3, fun e => by omega, fun e => by omega, fun e => by omega, fun e => by omega⟩, fun na => ⟨fun c => ?_, fun e => by omega, fun c => ?_, fun e => by omega, fun e => by omega, fun e => by omega⟩⟩
      · intro g hg hs
        have hs : sk (nKd t) (nMk t) g = 0 := hs
        have s6 := sk_6 (k := nKd t) (m := nMk t) c6
        have q := nl g hg hs
        match g, hg, hs, q with
        | 0, _, hs, _ => rw [show sk (nKd t) (nMk t) 0 = 2 from s6.1] at hs; cases hs
        | 1, _, hs, _ => rw [show sk (nKd t) (nMk t) 1 = 1 from s6.2.1] at hs; cases hs
        | 2, _, _, q => exact q
      · have c : nKd t = 6 := c
        obtain ⟨g1, g2, g3, g4⟩ := w6 c
        exact ⟨g1, g2, g3, (ih _ _ _ g4).1.1⟩
      · have c : nKd t = 8 := c
        obtain ⟨g1, g2, g3⟩ := w8 c
        exact ⟨g1, g2, (ih _ _ _ g3).1.1⟩
      · rw [mch_mN, em, if_neg (by omega), if_pos c6, if_neg (by omega), if_pos c6]
        omega
      · have c : nKd t = 6 := c
        obtain ⟨g1, g2⟩ := na.1 c
        exact ⟨g1, b4 g2⟩
      · have c : nKd t = 8 := c
        obtain ⟨g1, g2⟩ := na.2.2.1 c
        exact ⟨g1, b4 g2⟩
    rw [if_neg c6]
    by_cases c7 : nKd t = 7 ∨ nKd t = 12
    · rw [if_pos c7]
      obtain ⟨m1, m2, m3, m4, m5, m6⟩ := nd_mN (nPl t) (nKd t) (nMk t) (tri f (nX t)) (tri f (nY t)) (nZ t)
      obtain ⟨wx, wy⟩ := w7 c7
      obtain ⟨⟨a1, a2⟩, a3, a4⟩ := ih D sc _ wx
      obtain ⟨⟨b1, b2⟩, b3, b4⟩ := ih D sc _ wy
      refine ⟨⟨⟨⟨kk, rfl, ?_, pl⟩, fun e => by omega, fun e => by omega, fun _ => ⟨a1, b1⟩, fun e => by omega, fun e => by omega, fun e => by omega, fun e => by omega, fun c => w12 c⟩, ?_⟩, ⟨fun e => by omega, fun _ => ⟨a3, b3⟩, fun e => by omega, fun e => by omega, fun c s => c12 ⟨c, s⟩⟩, fun na => ⟨fun e => by omega, fun c => ⟨a4 (na.2.1 c).1, b4 (na.2.1 c).2⟩, fun e => by omega, fun e => by omega, fun e => by omega, fun e => by omega⟩⟩
      · intro g hg hs
        have hs : sk (nKd t) (nMk t) g = 0 := hs
        have q := nl g hg hs
        have s7 : sk (nKd t) (nMk t) 0 = 1 ∧ sk (nKd t) (nMk t) 1 = 1 := by rcases c7 with c | c <;> (rw [c]; exact ⟨rfl, rfl⟩)
        match g, hg, hs, q with
        | 0, _, hs, _ => rw [show sk (nKd t) (nMk t) 0 = 1 from s7.1] at hs; cases hs
        | 1, _, hs, _ => rw [show sk (nKd t) (nMk t) 1 = 1 from s7.2] at hs; cases hs
        | 2, _, _, q => exact q
      · rw [mch_mN, em, if_neg (by omega), if_neg (by omega), if_neg (by omega), if_neg (by omega), if_neg (by omega), if_neg (by omega), if_neg (by omega), if_neg (by omega)]
        omega
    rw [if_neg c7]
    by_cases c9 : nKd t = 9 ∨ nKd t = 11
    · rw [if_pos c9]
      obtain ⟨m1, m2, m3, m4, m5, m6⟩ := nd_mN (nPl t) (nKd t) (nMk t) (tri f (nX t)) (nY t) (nZ t)
      have wx : TWf f D sc (nX t) := by
        rcases c9 with c | c
        · exact (w9 c).1
        · exact (w11 c).2
      obtain ⟨⟨a1, a2⟩, a3, a4⟩ := ih D sc _ wx
      refine ⟨⟨⟨⟨kk, rfl, ?_, pl⟩, fun e => by omega, fun e => by omega, fun e => by omega, fun e => by omega, fun c => ⟨a1, (w9 c).2⟩, fun e => by omega, fun c => ⟨(w11 c).1, a1⟩, fun e => by omega⟩, ?_⟩, ⟨fun e => by omega, fun e => by omega, fun _ => a3, fun e => by omega, fun e => by omega⟩, fun na => ⟨fun e => by omega, fun e => by omega, fun e => by omega, fun c => ⟨a4 (na.2.2.2.1 c).1, (na.2.2.2.1 c).2⟩, fun e => by omega, fun c => a4 (na.2.2.2.2.2 c)⟩⟩
      · intro g hg hs
        have hs : sk (nKd t) (nMk t) g = 0 := hs
        have q := nl g hg hs
        have s9 : sk (nKd t) (nMk t) 0 = 1 := by rcases c9 with c | c <;> (rw [c]; rfl)
        match g, hg, hs, q with
        | 0, _, hs, _ => rw [show sk (nKd t) (nMk t) 0 = 1 from s9] at hs; cases hs
        | 1, _, _, q => exact q
        | 2, _, _, q => exact q
      · rw [if_neg (by omega), if_neg (by omega)] at em
        rw [mch_mN, if_neg (by omega), if_neg (by omega)]
        by_cases c : nKd t = 9
        · rw [if_pos c] at em ⊢; omega
        · rw [if_neg c, if_neg (by omega)] at em ⊢; omega
    rw [if_neg c9]
    by_cases c10 : nKd t = 10
    · rw [if_pos c10]
      obtain ⟨m1, m2, m3, m4, m5, m6⟩ := nd_mN (nPl t) (nKd t) (nMk t) (if bit (nMk t) 0 = true then tri f (nX t) else nX t) (if bit (nMk t) 1 = true then tri f (nY t) else nY t) (if bit (nMk t) 2 = true then tri f (nZ t) else nZ t)
      obtain ⟨m8, wp⟩ := w10 c10
      have part : ∀ g, g < 3 → nP (mN (nPl t) (nKd t) (nMk t) (if bit (nMk t) 0 = true then tri f (nX t) else nX t) (if bit (nMk t) 1 = true then tri f (nY t) else nY t) (if bit (nMk t) 2 = true then tri f (nZ t) else nZ t)) g = if bit (nMk t) g = true then tri f (nP t g) else nP t g := by
        intro g hg
        match g, hg with
        | 0, _ => rfl
        | 1, _ => rfl
        | 2, _ => rfl
      have le : ∀ g, g < 3 → mch (if bit (nMk t) g = true then tri f (nP t g) else nP t g) ≤ mch (nP t g) := by
        intro g hg
        by_cases c : bit (nMk t) g = true
        · rw [if_pos c]; exact (ih _ _ _ (wp g hg c)).1.2
        · rw [if_neg c]; exact Nat.le_refl _
      have l0 : mch (if bit (nMk t) 0 = true then tri f (nX t) else nX t) ≤ mch (nX t) := le 0 (by decide)
      have l1 : mch (if bit (nMk t) 1 = true then tri f (nY t) else nY t) ≤ mch (nY t) := le 1 (by decide)
      have l2 : mch (if bit (nMk t) 2 = true then tri f (nZ t) else nZ t) ≤ mch (nZ t) := le 2 (by decide)
      refine ⟨⟨⟨⟨kk, rfl, ?_, pl⟩, fun e => by omega, fun e => by omega, fun e => by omega, fun e => by omega, fun e => by omega, fun _ => ⟨m8, ?_⟩, fun e => by omega, fun e => by omega⟩, ?_⟩, ⟨fun e => by omega, fun e => by omega, fun e => by omega, fun _ g hg hb => ?_, fun e => by omega⟩, fun na => ⟨fun e => by omega, fun e => by omega, fun e => by omega, fun e => by omega, fun _ g hg hb => ?_, fun e => by omega⟩⟩
      · intro g hg hs
        have hs : sk (nKd t) (nMk t) g = 0 := hs
        have q := nl g hg hs
        rw [part g hg]
        have nb : ¬ bit (nMk t) g = true := by
          intro c
          rw [c10] at hs
          unfold sk at hs
          rw [if_neg (by decide), if_neg (by decide), if_neg (by decide), if_pos rfl, if_pos c] at hs
          cases hs
        rw [if_neg nb]; exact q
      · intro g hg hb
        have hb : bit (nMk t) g = true := hb
        rw [part g hg, if_pos hb]
        exact (ih _ _ _ (wp g hg hb)).1.1
      · rw [if_neg (by omega), if_neg (by omega), if_neg (by omega), if_pos c10] at em
        rw [mch_mN, if_neg (by omega), if_neg (by omega), if_neg (by omega), if_pos c10]
        omega
      · have hb : bit (nMk t) g = true := hb
        rw [part g hg, if_pos hb]
        exact (ih _ _ _ (wp g hg hb)).2.1
      · have hb : bit (nMk t) g = true := hb
        rw [part g hg, if_pos hb]
        exact (ih _ _ _ (wp g hg hb)).2.2 (na.2.2.2.2.1 c10 g hg hb)
    rw [if_neg c10]
    refine ⟨⟨h', Nat.le_refl _⟩, ⟨fun e => by omega, fun e => by omega, fun e => by omega, fun e => by omega, fun e => by omega⟩, fun na => na⟩
/-- the type stays -/
theorem tri_ty : ∀ (f : Nat) (t : Ty) (Γ : List Ty) (Δ : List (Nat × Ty × Nat)) (S : Ty), TWf f Γ.length (Δ.map (fun a => a.1)) t → TE Γ Δ → tyF f t Γ Δ = .inr S → tyF f (tri f t) Γ Δ = .inr S
  | 0, _, _, _, _, w, _, _ => w.elim
  | f + 1, t, Γ, Δ, S, w, he, e0 => by
    have ih := fun t Γ Δ S => tri_ty f t Γ Δ S
    obtain ⟨⟨kk, e, nl, pl⟩, w5, w6, w7, w8, w9, w10, w11, w12⟩ := w
    have et : tri (f + 1) t = (if nKd t = 12 ∧ smW (tri f (nX t)) (tri f (nY t)) = true then tri f (nX t)
      else if nKd t = 6 ∨ nKd t = 8 then mN (nPl t) (nKd t) (nMk t) (nX t) (tri f (nY t)) (nZ t)
      else if nKd t = 7 ∨ nKd t = 12 then mN (nPl t) (nKd t) (nMk t) (tri f (nX t)) (tri f (nY t)) (nZ t)
      else if nKd t = 9 ∨ nKd t = 11 then mN (nPl t) (nKd t) (nMk t) (tri f (nX t)) (nY t) (nZ t)
      else if nKd t = 10 then mN (nPl t) (nKd t) (nMk t) (if bit (nMk t) 0 = true then tri f (nX t) else nX t) (if bit (nMk t) 1 = true then tri f (nY t) else nY t) (if bit (nMk t) 2 = true then tri f (nZ t) else nZ t)
      else t) := rfl
    have eF : ∀ u : Ty, tyF (f + 1) u Γ Δ = (if nKd u = 5 then tyO (nPl u) ((dlk Δ (nMk u)).map (fun a => lft a.2 (Γ.length - a.2) a.1))
      else if nKd u = 6 then tbd (tyF f (nY u) Γ ((nPl u, nX u, Γ.length) :: Δ)) (fun B => szt (nPl u) (tFun (nX u) B))
      else if nKd u = 7 then tbd (tyF f (nX u) Γ Δ) (fun S => tbd (tyF f (nY u) Γ Δ) (fun T => tyO (nPl u) (tyA Γ (expo Γ Γ.length S) T)))
      else if nKd u = 8 then tbd (tyF f (nY u) (nX u :: Γ) Δ) (fun B => szt (nPl u) (tAll (nX u) B))
      else if nKd u = 9 then tbd (tyF f (nX u) Γ Δ) (fun S => tyO (nPl u) (tyI Γ (expo Γ Γ.length S) (nY u)))
      else if nKd u = 10 then tbd (if bit (nMk u) 0 = true then tyF f (nX u) Γ Δ else .inr .nil) (fun A => tbd (if bit (nMk u) 1 = true then tyF f (nY u) Γ Δ else .inr .nil) (fun B => tbd (if bit (nMk u) 2 = true then tyF f (nZ u) Γ Δ else .inr .nil) (fun C => szt (nPl u) (tRec (nMk u) A B C))))
      else if nKd u = 11 then tbd (tyF f (nX u) Γ Δ) (fun S => tyO (nPl u) (tyD (nMk u) (expo Γ Γ.length S)))
      else tbd (tyF f (nX u) Γ Δ) (fun S => tbd (tyF f (nY u) Γ Δ) (fun T => tyO (nPl u) (cmu 0 Γ S T)))) := fun u => rfl
    rw [eF] at e0
    by_cases c12 : nKd t = 12 ∧ smW (tri f (nX t)) (tri f (nY t)) = true
    · rw [et, if_pos c12]
      obtain ⟨k12, ss⟩ := c12
      obtain ⟨s1, s2, s3⟩ := smW_is.mp ss
      obtain ⟨wx, wy⟩ := w7 (Or.inr k12)
      rw [if_neg (by omega), if_neg (by omega), if_neg (by omega), if_neg (by omega), if_neg (by omega), if_neg (by omega), if_neg (by omega)] at e0
      obtain ⟨A, hA, e1⟩ := tbd_in e0
      obtain ⟨B, hB, e2⟩ := tbd_in e1
      have qA := ih _ _ _ _ wx he hA
      have qB := ih _ _ _ _ wy he hB
      have oA := tyF_ok f (nX t) Γ Δ A wx he hA
      have up : ∀ u : Ty, TWf f Γ.length (Δ.map (fun a => a.1)) u → nKd u = 5 → tyF (f + 1) u Γ Δ = tyO (nPl u) ((dlk Δ (nMk u)).map (fun a => lft a.2 (Γ.length - a.2) a.1)) ∧ tyF f u Γ Δ = tyO (nPl u) ((dlk Δ (nMk u)).map (fun a => lft a.2 (Γ.length - a.2) a.1)) := by
        intro u wu ku
        cases f with
        | zero => exact wu.elim
        | succ f =>
          refine ⟨?_, ?_⟩
          · rw [eF, if_pos ku]
          · show (if nKd u = 5 then _ else _) = _
            rw [if_pos ku]
      have uA := up _ (tri_ok f _ _ _ wx).1.1 s1
      have uB := up _ (tri_ok f _ _ _ wy).1.1 s2
      rw [uA.2] at qA
      rw [uB.2, ← s3] at qB
      have eA := (tyO_in qA).1
      have eB := (tyO_in qB).1
      have AB : A = B := by rw [eA] at eB; injection eB
      subst AB
      have tk : tok (Γ, A, A) := ⟨he.1, oA.1, oA.1⟩
      rw [cu_lo tk (by decide) (bel_refl _ Γ A (Nat.le_refl _) he.1 oA.1), if_pos rfl] at e2
      have := (tyO_in e2).1
      injection this with this
      subst this
      rw [uA.1]
      exact qA
    rw [et, if_neg c12]
    by_cases c6 : nKd t = 6 ∨ nKd t = 8
    · rw [if_pos c6, eF]
      obtain ⟨m1, m2, m3, m4, m5, m6⟩ := nd_mN (nPl t) (nKd t) (nMk t) (nX t) (tri f (nY t)) (nZ t)
      rw [m1, m2, m4, m5, if_neg (by omega)]
      rw [if_neg (by omega)] at e0
      by_cases k6 : nKd t = 6
      · rw [if_pos k6] at e0 ⊢
        obtain ⟨B, hB, e1⟩ := tbd_in e0
        obtain ⟨g1, g2, g3, g4⟩ := w6 k6
        have he' : TE Γ ((nPl t, nX t, Γ.length) :: Δ) := ⟨he.1, he.2.1, fun a ha => by
          rcases List.mem_cons.mp ha with r | r
          · rw [r]; exact ⟨Nat.le_refl _, g2, g3⟩
          · exact he.2.2 a r⟩
        rw [ih _ Γ ((nPl t, nX t, Γ.length) :: Δ) _ g4 he' hB]
        exact e1
      · have k8 : nKd t = 8 := by omega
        rw [if_neg k6, if_neg (by omega), if_pos k8] at e0 ⊢
        obtain ⟨B, hB, e1⟩ := tbd_in e0
        obtain ⟨g1, g2, g3⟩ := w8 k8
        have he' : TE (nX t :: Γ) Δ := he.all g1 g2
        rw [ih _ (nX t :: Γ) Δ _ g3 he' hB]
        exact e1
    rw [if_neg c6]
    by_cases c7 : nKd t = 7 ∨ nKd t = 12
    · rw [if_pos c7, eF]
      obtain ⟨m1, m2, m3, m4, m5, m6⟩ := nd_mN (nPl t) (nKd t) (nMk t) (tri f (nX t)) (tri f (nY t)) (nZ t)
      obtain ⟨wx, wy⟩ := w7 c7
      rw [m1, m2, m4, m5, if_neg (by omega), if_neg (by omega)]
      rw [if_neg (by omega), if_neg (by omega)] at e0
      by_cases k7 : nKd t = 7
      · rw [if_pos k7] at e0 ⊢
        obtain ⟨A, hA, e1⟩ := tbd_in e0
        obtain ⟨B, hB, e2⟩ := tbd_in e1
        rw [ih _ _ _ _ wx he hA, ih _ _ _ _ wy he hB]
        exact e2
      · rw [if_neg k7, if_neg (by omega), if_neg (by omega), if_neg (by omega), if_neg (by omega)] at e0 ⊢
        obtain ⟨A, hA, e1⟩ := tbd_in e0
        obtain ⟨B, hB, e2⟩ := tbd_in e1
        rw [ih _ _ _ _ wx he hA, ih _ _ _ _ wy he hB]
        exact e2
    rw [if_neg c7]
    by_cases c9 : nKd t = 9 ∨ nKd t = 11
    · rw [if_pos c9, eF]
      obtain ⟨m1, m2, m3, m4, m5, m6⟩ := nd_mN (nPl t) (nKd t) (nMk t) (tri f (nX t)) (nY t) (nZ t)
      rw [m1, m2, m3, m4, m5, if_neg (by omega), if_neg (by omega), if_neg (by omega), if_neg (by omega)]
      rw [if_neg (by omega), if_neg (by omega), if_neg (by omega), if_neg (by omega)] at e0
      by_cases k9 : nKd t = 9
      · rw [if_pos k9] at e0 ⊢
        obtain ⟨A, hA, e1⟩ := tbd_in e0
        rw [ih _ _ _ _ (w9 k9).1 he hA]
        exact e1
      · have k11 : nKd t = 11 := by omega
        rw [if_neg k9, if_neg (by omega), if_pos k11] at e0 ⊢
        obtain ⟨A, hA, e1⟩ := tbd_in e0
        rw [ih _ _ _ _ (w11 k11).2 he hA]
        exact e1
    rw [if_neg c9]
    by_cases c10 : nKd t = 10
    · rw [if_pos c10, eF]
      obtain ⟨m1, m2, m3, m4, m5, m6⟩ := nd_mN (nPl t) (nKd t) (nMk t) (if bit (nMk t) 0 = true then tri f (nX t) else nX t) (if bit (nMk t) 1 = true then tri f (nY t) else nY t) (if bit (nMk t) 2 = true then tri f (nZ t) else nZ t)
      rw [m1, m2, m3, m4, m5, m6, if_neg (by omega), if_neg (by omega), if_neg (by omega), if_neg (by omega), if_neg (by omega), if_pos c10]
      rw [if_neg (by omega), if_neg (by omega), if_neg (by omega), if_neg (by omega), if_neg (by omega), if_pos c10] at e0
      obtain ⟨m8, wp⟩ := w10 c10
      have one : ∀ (g : Nat) (u : Ty) (A : Ty), g < 3 → nP t g = u → (if bit (nMk t) g = true then tyF f u Γ Δ else .inr .nil) = .inr A → (if bit (nMk t) g = true then tyF f (if bit (nMk t) g = true then tri f u else u) Γ Δ else .inr .nil) = .inr A := by
        intro g u A hg hu hA
        by_cases c : bit (nMk t) g = true
        · rw [if_pos c] at hA
          rw [if_pos c, if_pos c]
          exact ih _ _ _ _ (by rw [← hu]; exact wp g hg c) he hA
        · rw [if_neg c] at hA ⊢
          exact hA
      obtain ⟨A, hA, e1⟩ := tbd_in e0
      obtain ⟨B, hB, e2⟩ := tbd_in e1
      obtain ⟨C, hC, e3⟩ := tbd_in e2
      rw [one 0 (nX t) _ (by decide) rfl hA, one 1 (nY t) _ (by decide) rfl hB, one 2 (nZ t) _ (by decide) rfl hC]
      exact e3
    rw [if_neg c10, eF]
    exact e0
/-- pairs -/
theorem PRn_tri {f : Nat} {x y : Ty} {Γ : List Ty} {Δ : List (Nat × Ty × Nat)} (x1 : TWf f Γ.length (Δ.map (fun a => a.1)) x) (x2 : TWf f Γ.length (Δ.map (fun a => a.1)) y) (he : TE Γ Δ) (h : PRn f (tri f x) (tri f y) Γ Δ) : PRn f x y Γ Δ := fun S T hS hT => h S T (tri_ty f x Γ Δ S x1 he hS) (tri_ty f y Γ Δ T x2 he hT)
