/-! WHAT THE TYPE OF A TERM IS WORTH in a context that is cut: by nature, and under one @ (the first header raised). -/
/-- what the bounds are worth, the first header raised -/
def eb1 (t0 : Nat) (n1 : Nat → Nat) (s2 : Nat) (h : Nat → Nat) : List Nat → List Ty → Nat → Nat
  | _ :: ω, b :: Γ, z => max (nz1 t0 n1 s2 h z ω b) (eb1 t0 n1 s2 h ω Γ z)
  | _, _, _ => 0
/-- the same without schemes -/
def eb7 (t0 : Nat) (n1 : Nat → Nat) (s2 : Nat) (h : Nat → Nat) : List Nat → List Ty → Nat → Nat
  | _ :: ω, b :: Γ, z => max (if hd b = 2 then 0 else nz1 t0 n1 s2 h z ω b) (eb7 t0 n1 s2 h ω Γ z)
  | _, _, _ => 0
def EF : Nat → Bool → Ty → Prop
  | 0, _, _ => True
  | f + 1, md, t => (nKd t = 6 → EF f md (nY t)) ∧ (nKd t = 7 ∨ nKd t = 11 → EF f md (nX t)) ∧ (nKd t = 8 → EF f false (nY t)) ∧ (nKd t = 9 → (md = false → EF f true (nX t)) ∧ (md = true → EY1 f (nX t))) ∧ (nKd t = 10 → ∀ g, g < 3 → bit (nMk t) g = true → EF f md (nP t g)) ∧ (nKd t = 12 → md = false ∧ EF f false (nX t) ∧ EF f false (nY t))
def GEv (t0 : Nat) (n1 : Nat → Nat) (s2 : Nat) (h : Nat → Nat) : Nat → Bool → Nat → Ty → List Nat → List Ty → List (Nat × Ty × Nat) → Nat
  | 0, _, _, _, _, _, _ => 0
  | f + 1, md, z, t, ω, Γ, Δ =>
    if nKd t = 5 then (match dlk Δ (nMk t) with
      | none => 0
      | some a => if md then nz1 t0 n1 s2 h z ω (lft a.2 (Γ.length - a.2) a.1) else nz t0 n1 s2 h ω (lft a.2 (Γ.length - a.2) a.1))
    else if nKd t = 6 then n1 1 + ((if md then nz1 t0 n1 s2 h z ω (nX t) else nz t0 n1 s2 h ω (nX t)) + GEv t0 n1 s2 h f md z (nY t) ω Γ ((nPl t, nX t, Γ.length) :: Δ))
    else if nKd t = 7 then (if md then max (GEv t0 n1 s2 h f true z (nX t) ω Γ Δ) (eb7 t0 n1 s2 h ω Γ z) else GEv t0 n1 s2 h f false z (nX t) ω Γ Δ)
    else if nKd t = 8 then s2 + GEv t0 n1 s2 h f false z (nY t) ((if md then hzx h z (nz t0 n1 s2 h ω (nX t)) else h (nz t0 n1 s2 h ω (nX t))) :: ω) (nX t :: Γ) Δ
    else if nKd t = 9 then (if md then max (GB2 t0 n1 s2 h (ebd t0 n1 s2 h ω Γ) f (nX t) (max z (nz t0 n1 s2 (hzx h z) ω (nY t))) ω Γ Δ) (ebd t0 n1 s2 h ω Γ (max z (nz t0 n1 s2 (hzx h z) ω (nY t)))) else max (GEv t0 n1 s2 h f true (nz t0 n1 s2 h ω (nY t)) (nX t) ω Γ Δ) (eb1 t0 n1 s2 h ω Γ (nz t0 n1 s2 h ω (nY t))))
    else if nKd t = 10 then n1 (8 + nMk t) + ((if bit (nMk t) 0 = true then GEv t0 n1 s2 h f md z (nX t) ω Γ Δ else 0) + ((if bit (nMk t) 1 = true then GEv t0 n1 s2 h f md z (nY t) ω Γ Δ else 0) + (if bit (nMk t) 2 = true then GEv t0 n1 s2 h f md z (nZ t) ω Γ Δ else 0)))
    else if nKd t = 11 then (if md then max (GEv t0 n1 s2 h f true z (nX t) ω Γ Δ) (eb7 t0 n1 s2 h ω Γ z) else GEv t0 n1 s2 h f false z (nX t) ω Γ Δ)
    else (if nKd (nX t) = 5 ∧ nKd (nY t) = 5 ∧ nMk (nX t) = nMk (nY t) then GEv t0 n1 s2 h f false z (nX t) ω Γ Δ else GEv t0 n1 s2 h f false z (nX t) ω Γ Δ + GEv t0 n1 s2 h f false z (nY t) ω Γ Δ)
section PmNb9
variable {t0 s2 : Nat} {n1 h : Nat → Nat}
theorem nz1_lft (z : Nat) (ν ω : List Nat) : ∀ (f : Nat) (t : Ty), (flat t).length ≤ f → ok ω.length t = true → nz1 t0 n1 s2 h z (ν ++ ω) (lft ω.length ν.length t) = nz1 t0 n1 s2 h z ω t
  | 0, t, hf, o => by have := flat_pos o; omega
  | f + 1, t, hf, o => by
    rcases ok_cases o with rfl | ⟨j, hj, rfl⟩ | ⟨a, c, rfl, ha, hb⟩ | ⟨a, c, rfl, ha, hb⟩ | ⟨m, x, y, w, hm, rfl, h0, h1, h2⟩
    · rw [lft_top, nz1_top, nz1_top]
    · rw [lft_var, if_neg (by omega), nz1_var, nz1_var, vw_app_lo _ _ j hj]
    · rw [flat_fun, List.length_cons, List.length_append] at hf
      rw [lft_fun, nz1_fun, nz1_fun, nz1_lft z ν ω f a (by omega) ha, nz1_lft z ν ω f c (by omega) hb]
    · rw [lft_all, nz1_all, nz1_all]
      have q1 := nz_lft (t0 := t0) (n1 := n1) (s2 := s2) (h := h) ν ω _ a [] (Nat.le_refl _) (by simpa using ha)
      rw [List.nil_append, List.nil_append] at q1
      have q2 := nz_lft (t0 := t0) (n1 := n1) (s2 := s2) (h := h) ν ω _ c [hzx h z (nz t0 n1 s2 h ω a)] (Nat.le_refl _) (by simpa using hb)
      rw [q1]
      have q2 : nz t0 n1 s2 h (hzx h z (nz t0 n1 s2 h ω a) :: (ν ++ ω)) (lft ω.length ν.length c) = nz t0 n1 s2 h (hzx h z (nz t0 n1 s2 h ω a) :: ω) c := q2
      rw [q2]
    · rw [flat_rec, List.length_cons, List.length_append, List.length_append] at hf
      have key : ∀ (i : Nat) (p : Ty), (flat p).length ≤ f → okl ω.length m i p → nz1 t0 n1 s2 h z (ν ++ ω) (lft ω.length ν.length p) = nz1 t0 n1 s2 h z ω p := by
        intro i p hp ho
        unfold okl at ho
        by_cases hb : bit m i = true
        · rw [if_pos hb] at ho
          exact nz1_lft z ν ω f p hp ho
        · rw [if_neg hb] at ho
          have e : lft ω.length ν.length .nil = .nil := rfl
          rw [ho, e, nz1_nil, nz1_nil]
      rw [lft_rec hm, nz1_rec, nz1_rec, key 0 x (by omega) h0, key 1 y (by omega) h1, key 2 w (by omega) h2]
theorem eb1_le : ∀ {ω : List Nat} {Γ : List Ty} (z k : Nat), okc Γ → ω.length = Γ.length → k < Γ.length → nz1 t0 n1 s2 h z ω (lft k (Γ.length - k) (bnd Γ k)) ≤ eb1 t0 n1 s2 h ω Γ z
  | [], [], z, k, _, _, hk => absurd hk (Nat.not_lt_zero _)
  | w :: ω, b :: Γ, z, k, hc, hl, hk => by
    have hl' : ω.length = Γ.length := by simpa using hl
    show _ ≤ max (nz1 t0 n1 s2 h z ω b) (eb1 t0 n1 s2 h ω Γ z)
    by_cases e : k = Γ.length
    · have eb : bnd (b :: Γ) k = b := by show (if k = Γ.length then b else _) = b; rw [if_pos e]
      have := nz1_lft (t0 := t0) (n1 := n1) (s2 := s2) (h := h) z [w] ω _ b (Nat.le_refl _) (by rw [hl']; exact hc.1)
      rw [hl'] at this
      have this : nz1 t0 n1 s2 h z (w :: ω) (lft Γ.length 1 b) = nz1 t0 n1 s2 h z ω b := this
      rw [eb, e, List.length_cons, show Γ.length + 1 - Γ.length = 1 by omega, this]
      exact Nat.le_max_left _ _
    · have hk' : k < Γ.length := by rw [List.length_cons] at hk; omega
      have eb : bnd (b :: Γ) k = bnd Γ k := by show (if k = Γ.length then b else bnd Γ k) = _; rw [if_neg e]
      have q := eb1_le (ω := ω) (Γ := Γ) z k hc.2 hl' hk'
      have ok1 := okc_bnd' hc.2 hk'
      have sp : ∃ μ ω1 : List Nat, ω = μ ++ ω1 ∧ ω1.length = k := by
        refine ⟨ω.take (ω.length - k), ω.drop (ω.length - k), (List.take_append_drop _ _).symm, ?_⟩
        rw [List.length_drop]; omega
      obtain ⟨μ, ω1, e1, e2⟩ := sp
      have lm : μ.length = Γ.length - k := by
        rw [e1, List.length_append] at hl'; omega
      have p1 := nz1_lft (t0 := t0) (n1 := n1) (s2 := s2) (h := h) z μ ω1 _ (bnd Γ k) (Nat.le_refl _) (by rw [e2]; exact ok1)
      have p2 := nz1_lft (t0 := t0) (n1 := n1) (s2 := s2) (h := h) z (w :: μ) ω1 _ (bnd Γ k) (Nat.le_refl _) (by rw [e2]; exact ok1)
      rw [e2, lm, ← e1] at p1
      rw [e2, List.length_cons, lm, List.cons_append, ← e1] at p2
      rw [eb, List.length_cons, show Γ.length + 1 - k = Γ.length - k + 1 by omega, p2, ← p1]
      exact Nat.le_trans q (Nat.le_max_right _ _)
  | [], _ :: _, _, _, _, hl, _ => by simp at hl
  | _ :: _, [], _, _, _, hl, _ => by simp at hl
theorem eb7_le : ∀ {ω : List Nat} {Γ : List Ty} (z k : Nat), okc Γ → ω.length = Γ.length → k < Γ.length → hd (bnd Γ k) ≠ 2 → nz1 t0 n1 s2 h z ω (lft k (Γ.length - k) (bnd Γ k)) ≤ eb7 t0 n1 s2 h ω Γ z
  | [], [], z, k, _, _, hk, _ => absurd hk (Nat.not_lt_zero _)
  | w :: ω, b :: Γ, z, k, hc, hl, hk, h2 => by
    have hl' : ω.length = Γ.length := by simpa using hl
    show _ ≤ max (if hd b = 2 then 0 else nz1 t0 n1 s2 h z ω b) (eb7 t0 n1 s2 h ω Γ z)
    by_cases e : k = Γ.length
    · have eb : bnd (b :: Γ) k = b := by show (if k = Γ.length then b else _) = b; rw [if_pos e]
      have := nz1_lft (t0 := t0) (n1 := n1) (s2 := s2) (h := h) z [w] ω _ b (Nat.le_refl _) (by rw [hl']; exact hc.1)
      rw [hl'] at this
      have this : nz1 t0 n1 s2 h z (w :: ω) (lft Γ.length 1 b) = nz1 t0 n1 s2 h z ω b := this
      rw [eb] at h2
      rw [eb, e, List.length_cons, show Γ.length + 1 - Γ.length = 1 by omega, this, if_neg h2]
      exact Nat.le_max_left _ _
    · have hk' : k < Γ.length := by rw [List.length_cons] at hk; omega
      have eb : bnd (b :: Γ) k = bnd Γ k := by show (if k = Γ.length then b else bnd Γ k) = _; rw [if_neg e]
      rw [eb] at h2
      have q := eb7_le (ω := ω) (Γ := Γ) z k hc.2 hl' hk' h2
      have ok1 := okc_bnd' hc.2 hk'
      have sp : ∃ μ ω1 : List Nat, ω = μ ++ ω1 ∧ ω1.length = k := by
        refine ⟨ω.take (ω.length - k), ω.drop (ω.length - k), (List.take_append_drop _ _).symm, ?_⟩
        rw [List.length_drop]; omega
      obtain ⟨μ, ω1, e1, e2⟩ := sp
      have lm : μ.length = Γ.length - k := by
        rw [e1, List.length_append] at hl'; omega
      have p1 := nz1_lft (t0 := t0) (n1 := n1) (s2 := s2) (h := h) z μ ω1 _ (bnd Γ k) (Nat.le_refl _) (by rw [e2]; exact ok1)
      have p2 := nz1_lft (t0 := t0) (n1 := n1) (s2 := s2) (h := h) z (w :: μ) ω1 _ (bnd Γ k) (Nat.le_refl _) (by rw [e2]; exact ok1)
      rw [e2, lm, ← e1] at p1
      rw [e2, List.length_cons, lm, List.cons_append, ← e1] at p2
      rw [eb, List.length_cons, show Γ.length + 1 - k = Γ.length - k + 1 by omega, p2, ← p1]
      exact Nat.le_trans q (Nat.le_max_right _ _)
  | [], _ :: _, _, _, _, hl, _, _ => by simp at hl
  | _ :: _, [], _, _, _, hl, _, _ => by simp at hl
theorem expo_7 {μ : List Nat → Ty → Nat} {ω : List Nat} {Γ : List Ty} {E : Nat} (hc : okc Γ) (hE : ∀ k, k < Γ.length → hd (bnd Γ k) ≠ 2 → μ ω (lft k (Γ.length - k) (bnd Γ k)) ≤ E) : ∀ (f : Nat) (S : Ty), ok Γ.length S = true → μ ω (expo Γ f S) ≤ max (μ ω S) E ∨ hd (expo Γ f S) = 2
  | 0, S, _ => Or.inl (Nat.le_max_left _ _)
  | f + 1, S, o => by
    show μ ω (if 16 ≤ hd S then expo Γ f (exps Γ S) else S) ≤ max (μ ω S) E ∨ hd (if 16 ≤ hd S then expo Γ f (exps Γ S) else S) = 2
    by_cases c : 16 ≤ hd S
    · rw [if_pos c]
      obtain ⟨k, hk, rfl⟩ := hd_is_var o c
      rw [exps_var]
      by_cases h2 : hd (bnd Γ k) = 2
      · right
        have e2 : hd (lft k (Γ.length - k) (bnd Γ k)) = 2 := by
          have := lft_hdb (show 2 < 16 by decide) k (Γ.length - k) (bnd Γ k)
          rw [h2] at this
          simpa using this
        rw [expo_lo (by omega)]; exact e2
      · have q := hE k hk h2
        rcases expo_7 hc hE f _ (ok_expose hc hk) with r | r
        · left; omega
        · right; exact r
    · rw [if_neg c]; exact Or.inl (Nat.le_max_left _ _)
variable {hb : Nat} {B C : Ty} {Γ0 : List Ty}
/-- a variable exposed is worth no more, unless it is the one that is cut -/
theorem expo_cut {Δ1 : List Ty} (hx : CNx kp2 hb B C Γ0 Δ1) {ω : List Nat} (hv : CV t0 n1 s2 h ω (cB kp2 B C Γ0 Δ1)) : ∀ (f : Nat) (S : Ty), ok (cA B C Γ0 Δ1).length S = true → nz t0 n1 s2 h ω (expo (cA B C Γ0 Δ1) f S) ≤ nz t0 n1 s2 h ω S ∨ hd (expo (cA B C Γ0 Δ1) f S) = 2
  | 0, S, _ => Or.inl (Nat.le_refl _)
  | f + 1, S, o => by
    show nz t0 n1 s2 h ω (if 16 ≤ hd S then expo (cA B C Γ0 Δ1) f (exps (cA B C Γ0 Δ1) S) else S) ≤ nz t0 n1 s2 h ω S ∨ hd (if 16 ≤ hd S then expo (cA B C Γ0 Δ1) f (exps (cA B C Γ0 Δ1) S) else S) = 2
    by_cases c : 16 ≤ hd S
    · rw [if_pos c]
      obtain ⟨k, hk, rfl⟩ := hd_is_var o c
      by_cases ek : k = Γ0.length
      · have e : exps (cA B C Γ0 Δ1) (tVar k) = upb Γ0 Δ1 (tAll B C) := by
          rw [exps_var]
          subst ek
          unfold cA
          rw [cxs_up]
        right
        rw [e, expo_lo (by rw [upb_all, hd_all]; omega), upb_all, hd_all]
      · have ex := (hx.cg.ex hk ek).1
        have v := CV.exp hx.2.1 hv (show k < (cB kp2 B C Γ0 Δ1).length by rw [← cAB_len]; exact hk)
        rw [← exps_var, ← ex] at v
        have q := expo_cut hx hv f (exps (cA B C Γ0 Δ1) (tVar k)) (by rw [exps_var]; exact ok_expose hx.1 hk)
        rw [nz_var]
        rcases q with q | q
        · left; omega
        · right; exact q
    · rw [if_neg c]; exact Or.inl (Nat.le_refl _)
/-- the type of a term, by nature and under one instance -/
def TyE (hb : Nat) (B C : Ty) (Γ0 : List Ty) (t0 : Nat) (n1 : Nat → Nat) (s2 : Nat) (h : Nat → Nat) (f : Nat) (md : Bool) : Prop := ∀ (z : Nat) (t : Ty) (Δ1 : List Ty) (Δ : List (Nat × Ty × Nat)) (A : Ty) (ω : List Nat), TWf f (cA B C Γ0 Δ1).length (Δ.map (fun a => a.1)) t → TE (cA B C Γ0 Δ1) Δ → EF f md t → PNt hb f t (cA B C Γ0 Δ1).length → CNx kp2 hb B C Γ0 Δ1 → (∀ a ∈ Δ, PNw kp2 hb a.2.2 a.2.1 = true) → CV t0 n1 s2 h ω (cB kp2 B C Γ0 Δ1) → tyF f t (cA B C Γ0 Δ1) Δ = .inr A → (if md then nz1 t0 n1 s2 h z ω A else nz t0 n1 s2 h ω A) ≤ GEv t0 n1 s2 h f md z t ω (cA B C Γ0 Δ1) Δ
theorem tyE_0 (h0 : CN0 kp2 hb B C Γ0) (hn : NC t0 n1 s2 h) (hm : ∀ y y', y ≤ y' → h y ≤ h y') {f : Nat} (ih0 : TyE hb B C Γ0 t0 n1 s2 h f false) (ih1 : TyE hb B C Γ0 t0 n1 s2 h f true) : TyE hb B C Γ0 t0 n1 s2 h (f + 1) false := by
    intro z t Δ1 Δ A ω w he hx na hc hd' hv e0
    obtain ⟨v6, v7, v8, v9, v10, v12⟩ := hx
    have ok0 := tyF_ok (f + 1) t (cA B C Γ0 Δ1) Δ A w he e0
    obtain ⟨w0, w5, w6, w7, w8, w9, w10, w11, w12⟩ := w
    have io := fun t' Γ' Δ' A' => tyF_ok f t' Γ' Δ' A'
    obtain ⟨r6, r7, r8, r9, r10, r11⟩ := na
    have lAB := cAB_len (κ := kp2) (B := B) (C := C) (Γ0 := Γ0) (Δ := Δ1)
    have hl : ω.length = (cA B C Γ0 Δ1).length := by rw [hv.len, lAB]
    show nz t0 n1 s2 h ω A ≤ _
    unfold tyF at e0
    unfold GEv
    simp only [Bool.false_eq_true, ↓reduceIte]
    by_cases c5 : nKd t = 5
    · rw [if_pos c5] at e0 ⊢
      obtain ⟨e, l⟩ := tyO_in e0
      obtain ⟨a, ha⟩ := dlk_some (w5 c5)
      rw [ha] at e
      injection e with e
      rw [ha]
      show _ ≤ nz t0 n1 s2 h ω (lft a.2 ((cA B C Γ0 Δ1).length - a.2) a.1)
      rw [← e]
      exact Nat.le_refl _
    rw [if_neg c5] at e0 ⊢
    by_cases c6 : nKd t = 6
    · rw [if_pos c6] at e0 ⊢
      obtain ⟨B', hB, h1⟩ := tbd_in e0
      obtain ⟨-, x1, x2, x3⟩ := w6 c6
      have q := ih0 z (nY t) Δ1 ((nPl t, nX t, (cA B C Γ0 Δ1).length) :: Δ) B' ω x3 (he.lam x1 x2) (v6 c6) (r6 c6).2 hc (fun a ha => by
        rcases List.mem_cons.mp ha with e | e
        · rw [e]; exact (r6 c6).1
        · exact hd' a e) hv hB
      simp only [Bool.false_eq_true, ↓reduceIte] at q
      obtain ⟨e, l⟩ := szt_in h1
      subst e
      rw [nz_fun]; omega
    rw [if_neg c6] at e0 ⊢
    by_cases c7 : nKd t = 7
    · rw [if_pos c7] at e0 ⊢
      obtain ⟨S, hS, h1⟩ := tbd_in e0
      obtain ⟨T, hT, h1⟩ := tbd_in h1
      obtain ⟨e, l⟩ := tyO_in h1
      obtain ⟨x1, x2⟩ := w7 (Or.inl c7)
      obtain ⟨s1, s2'⟩ := io _ _ _ _ x1 he hS
      obtain ⟨o1, o2⟩ := expo_ok he.1 he.2.1 (cA B C Γ0 Δ1).length S s1 s2'
      have q := ih0 z _ _ _ _ ω x1 he (v7 (Or.inl c7)) (r7 (Or.inl c7)).1 hc hd' hv hS
      simp only [Bool.false_eq_true, ↓reduceIte] at q
      have q2' := expo_cut hc hv (cA B C Γ0 Δ1).length S s1
      unfold tyA at e
      by_cases c : hd (expo (cA B C Γ0 Δ1) (cA B C Γ0 Δ1).length S) = 1 ∧ bel (cA B C Γ0 Δ1) T (k1 (expo (cA B C Γ0 Δ1) (cA B C Γ0 Δ1).length S)) = true
      · rw [if_pos c] at e
        injection e with e
        subst e
        obtain ⟨a, b, e2, ha, hb'⟩ := hd_is_fun o1 c.1
        have q2 := q2'.resolve_right (by omega)
        rw [e2, nz_fun] at q2
        rw [e2]
        show nz t0 n1 s2 h ω b ≤ _
        omega
      · rw [if_neg c] at e; cases e
    rw [if_neg c7] at e0 ⊢
    by_cases c8 : nKd t = 8
    · rw [if_pos c8] at e0 ⊢
      obtain ⟨B', hB, h1⟩ := tbd_in e0
      obtain ⟨x1, x2, x3⟩ := w8 c8
      have q := ih0 z (nY t) (nX t :: Δ1) Δ B' _ x3 (he.all x1 x2) (v8 c8) (r8 c8).2 (hc.ext h0 x1 (r8 c8).1.1) hd' (CV.ext (Γ := cB kp2 B C Γ0 Δ1) hn hc.2.1 (by rw [← lAB]; exact x1) hv) hB
      simp only [Bool.false_eq_true, ↓reduceIte] at q
      have q : nz t0 n1 s2 h (h (nz t0 n1 s2 h ω (nX t)) :: ω) B' ≤ GEv t0 n1 s2 h f false z (nY t) (h (nz t0 n1 s2 h ω (nX t)) :: ω) (nX t :: (cA B C Γ0 Δ1)) Δ := q
      obtain ⟨e, l⟩ := szt_in h1
      subst e
      rw [nz_all]; omega
    rw [if_neg c8] at e0 ⊢
    by_cases c9 : nKd t = 9
    · rw [if_pos c9] at e0 ⊢
      obtain ⟨S, hS, h1⟩ := tbd_in e0
      obtain ⟨e, l⟩ := tyO_in h1
      obtain ⟨x1, x2, x3⟩ := w9 c9
      obtain ⟨s1, s2'⟩ := io _ _ _ _ x1 he hS
      obtain ⟨o1, o2⟩ := expo_ok he.1 he.2.1 (cA B C Γ0 Δ1).length S s1 s2'
      unfold tyI at e
      by_cases c : hd (expo (cA B C Γ0 Δ1) (cA B C Γ0 Δ1).length S) = 2 ∧ bel (cA B C Γ0 Δ1) (nY t) (k1 (expo (cA B C Γ0 Δ1) (cA B C Γ0 Δ1).length S)) = true
      · rw [if_pos c] at e
        injection e with e
        subst e
        obtain ⟨a, b, e2, ha, hb'⟩ := hd_is_all o1 c.1
        have q := ih1 (nz t0 n1 s2 h ω (nY t)) (nX t) Δ1 Δ S ω x1 he ((v9 c9).1 rfl) (r9 c9).1 hc hd' hv hS
        have q2 := expo_e (μ := nz1 t0 n1 s2 h (nz t0 n1 s2 h ω (nY t))) (ω := ω) he.1 (fun k hk => eb1_le (nz t0 n1 s2 h ω (nY t)) k he.1 hl hk) (cA B C Γ0 Δ1).length S s1
        have q3 := nz_inst0 (t0 := t0) (n1 := n1) (s2 := s2) hm (ω := ω) (Γ := (cA B C Γ0 Δ1)) (B := a) hl x2 hb'
        rw [e2] at q2 ⊢
        have q : nz1 t0 n1 s2 h (nz t0 n1 s2 h ω (nY t)) ω S ≤ _ := q
        show nz t0 n1 s2 h ω (sbt (cA B C Γ0 Δ1).length (nY t) 0 b) ≤ _
        omega
      · rw [if_neg c] at e; cases e
    rw [if_neg c9] at e0 ⊢
    by_cases c10 : nKd t = 10
    · rw [if_pos c10] at e0 ⊢
      obtain ⟨A1, hA1, h1⟩ := tbd_in e0
      obtain ⟨A2, hA2, h1⟩ := tbd_in h1
      obtain ⟨A3, hA3, h1⟩ := tbd_in h1
      obtain ⟨e, l⟩ := szt_in h1
      obtain ⟨m8, x1⟩ := w10 c10
      subst e
      have key : ∀ (g : Nat) (B' : Ty), g < 3 → (if bit (nMk t) g = true then tyF f (nP t g) (cA B C Γ0 Δ1) Δ else .inr .nil) = .inr B' → nz t0 n1 s2 h ω B' ≤ (if bit (nMk t) g = true then GEv t0 n1 s2 h f false z (nP t g) ω (cA B C Γ0 Δ1) Δ else 0) := by
        intro g B' hg hB
        by_cases c : bit (nMk t) g = true
        · rw [if_pos c] at hB ⊢
          exact ih0 z _ _ _ _ ω (x1 g hg c) he (v10 c10 g hg c) (r10 c10 g hg c) hc hd' hv hB
        · rw [if_neg c] at hB ⊢
          injection hB with hB
          rw [← hB, nz_nil]; exact Nat.le_refl _
      have q0 := key 0 A1 (by decide) hA1
      have q1 := key 1 A2 (by decide) hA2
      have q2 := key 2 A3 (by decide) hA3
      have p0 : nP t 0 = nX t := rfl
      have p1 : nP t 1 = nY t := rfl
      have p2 : nP t 2 = nZ t := rfl
      rw [p0] at q0
      rw [p1] at q1
      rw [p2] at q2
      rw [nz_rec]; omega
    rw [if_neg c10] at e0 ⊢
    by_cases c11 : nKd t = 11
    · rw [if_pos c11] at e0 ⊢
      obtain ⟨S, hS, h1⟩ := tbd_in e0
      obtain ⟨e, l⟩ := tyO_in h1
      obtain ⟨m3, x1⟩ := w11 c11
      obtain ⟨s1, s2'⟩ := io _ _ _ _ x1 he hS
      obtain ⟨o1, o2⟩ := expo_ok he.1 he.2.1 (cA B C Γ0 Δ1).length S s1 s2'
      have q := ih0 z _ _ _ _ ω x1 he (v7 (Or.inr c11)) (r11 c11) hc hd' hv hS
      simp only [Bool.false_eq_true, ↓reduceIte] at q
      have q2' := expo_cut hc hv (cA B C Γ0 Δ1).length S s1
      unfold tyD at e
      by_cases c : (8 ≤ hd (expo (cA B C Γ0 Δ1) (cA B C Γ0 Δ1).length S) ∧ hd (expo (cA B C Γ0 Δ1) (cA B C Γ0 Δ1).length S) < 16) ∧ bit (hd (expo (cA B C Γ0 Δ1) (cA B C Γ0 Δ1).length S) - 8) (nMk t) = true
      · rw [if_pos c] at e
        injection e with e
        subst e
        obtain ⟨m, x, y, w, hm', e2⟩ := hd_is_rec o1 c.1.1 c.1.2
        have q2 := q2'.resolve_right (by omega)
        rw [e2, nz_rec] at q2
        rw [e2]
        rcases (show nMk t = 0 ∨ nMk t = 1 ∨ nMk t = 2 by omega) with e | e | e
        · rw [e, (pt_rec hm' x y w).1]; omega
        · rw [e, (pt_rec hm' x y w).2.1]; omega
        · rw [e, (pt_rec hm' x y w).2.2]; omega
      · rw [if_neg c] at e; cases e
    rw [if_neg c11] at e0 ⊢
    obtain ⟨S, hS, h1⟩ := tbd_in e0
    obtain ⟨T, hT, h1⟩ := tbd_in h1
    obtain ⟨e, l⟩ := tyO_in h1
    obtain ⟨x1, x2⟩ := w7 (Or.inr (by omega))
    obtain ⟨s1, s2'⟩ := io _ _ _ _ x1 he hS
    obtain ⟨t1, t2⟩ := io _ _ _ _ x2 he hT
    have c12 : nKd t = 12 := by omega
    have q1 := ih0 z _ _ _ _ ω x1 he (v12 c12).2.1 (r7 (Or.inr c12)).1 hc hd' hv hS
    simp only [Bool.false_eq_true, ↓reduceIte] at q1
    have q2 := ih0 z _ _ _ _ ω x2 he (v12 c12).2.2 (r7 (Or.inr c12)).2 hc hd' hv hT
    have q3 := (cmu_cut h0 hn (by omega) hc hv ⟨he.1, s1, t1⟩ (tyF_PNw h0 f _ _ _ _ x1 he (r7 (Or.inr c12)).1 hc hd' hS) (tyF_PNw h0 f _ _ _ _ x2 he (r7 (Or.inr c12)).2 hc hd' hT) e).2
    have q1 : nz t0 n1 s2 h ω S ≤ _ := q1
    have q2 : nz t0 n1 s2 h ω T ≤ _ := q2
    by_cases cq : nKd (nX t) = 5 ∧ nKd (nY t) = 5 ∧ nMk (nX t) = nMk (nY t)
    · rw [if_pos cq]
      have ee := tyF_name cq.1 cq.2.1 cq.2.2 hS hT
      subst ee
      have er := cu_lo (w := 0) (show tok ((cA B C Γ0 Δ1), S, S) from ⟨he.1, s1, s1⟩) (by decide) (bel_refl _ (cA B C Γ0 Δ1) S (Nat.le_refl _) he.1 s1)
      rw [er] at e
      have e : some S = some A := e
      injection e with e
      rw [← e]; exact q1
    · rw [if_neg cq]; omega
theorem tyE_1 (h0 : CN0 kp2 hb B C Γ0) (hn : NC t0 n1 s2 h) (hm : ∀ y y', y ≤ y' → h y ≤ h y') {f : Nat} (ih0 : TyE hb B C Γ0 t0 n1 s2 h f false) (ih1 : TyE hb B C Γ0 t0 n1 s2 h f true) : TyE hb B C Γ0 t0 n1 s2 h (f + 1) true := by
    intro z t Δ1 Δ A ω w he hx na hc hd' hv e0
    obtain ⟨v6, v7, v8, v9, v10, v12⟩ := hx
    have ok0 := tyF_ok (f + 1) t (cA B C Γ0 Δ1) Δ A w he e0
    obtain ⟨w0, w5, w6, w7, w8, w9, w10, w11, w12⟩ := w
    have io := fun t' Γ' Δ' A' => tyF_ok f t' Γ' Δ' A'
    obtain ⟨r6, r7, r8, r9, r10, r11⟩ := na
    have lAB := cAB_len (κ := kp2) (B := B) (C := C) (Γ0 := Γ0) (Δ := Δ1)
    have hl : ω.length = (cA B C Γ0 Δ1).length := by rw [hv.len, lAB]
    show nz1 t0 n1 s2 h z ω A ≤ _
    unfold tyF at e0
    unfold GEv
    simp only [↓reduceIte]
    by_cases c5 : nKd t = 5
    · rw [if_pos c5] at e0 ⊢
      obtain ⟨ee, l⟩ := tyO_in e0
      obtain ⟨a, ha⟩ := dlk_some (w5 c5)
      rw [ha] at ee
      injection ee with ee
      rw [ha]
      show _ ≤ nz1 t0 n1 s2 h z ω (lft a.2 ((cA B C Γ0 Δ1).length - a.2) a.1)
      rw [← ee]
      exact Nat.le_refl _
    rw [if_neg c5] at e0 ⊢
    by_cases c6 : nKd t = 6
    · rw [if_pos c6] at e0 ⊢
      obtain ⟨B', hB, h1⟩ := tbd_in e0
      obtain ⟨-, x1, x2, x3⟩ := w6 c6
      have q := ih1 z (nY t) Δ1 ((nPl t, nX t, (cA B C Γ0 Δ1).length) :: Δ) B' ω x3 (he.lam x1 x2) (v6 c6) (r6 c6).2 hc (fun a ha => by
        rcases List.mem_cons.mp ha with e | e
        · rw [e]; exact (r6 c6).1
        · exact hd' a e) hv hB
      have q : nz1 t0 n1 s2 h z ω B' ≤ _ := q
      obtain ⟨ee, l⟩ := szt_in h1
      subst ee
      rw [nz1_fun]; omega
    rw [if_neg c6] at e0 ⊢
    by_cases c7 : nKd t = 7
    · rw [if_pos c7] at e0 ⊢
      obtain ⟨S, hS, h1⟩ := tbd_in e0
      obtain ⟨T, hT, h1⟩ := tbd_in h1
      obtain ⟨ee, l⟩ := tyO_in h1
      obtain ⟨x1, x2⟩ := w7 (Or.inl c7)
      obtain ⟨s1, s2'⟩ := io _ _ _ _ x1 he hS
      obtain ⟨o1, o2⟩ := expo_ok he.1 he.2.1 (cA B C Γ0 Δ1).length S s1 s2'
      have q := ih1 z _ _ _ _ ω x1 he (v7 (by omega)) (r7 (Or.inl c7)).1 hc hd' hv hS
      have q : nz1 t0 n1 s2 h z ω S ≤ _ := q
      have q2' := expo_7 (μ := nz1 t0 n1 s2 h z) (ω := ω) he.1 (fun k hk h2 => eb7_le z k he.1 hl hk h2) (cA B C Γ0 Δ1).length S s1
      unfold tyA at ee
      by_cases c : hd (expo (cA B C Γ0 Δ1) (cA B C Γ0 Δ1).length S) = 1 ∧ bel (cA B C Γ0 Δ1) T (k1 (expo (cA B C Γ0 Δ1) (cA B C Γ0 Δ1).length S)) = true
      · rw [if_pos c] at ee
        injection ee with ee
        subst ee
        obtain ⟨a, b, e2, ha, hb'⟩ := hd_is_fun o1 c.1
        have q2 := q2'.resolve_right (by omega)
        rw [e2, nz1_fun] at q2
        rw [e2]
        show nz1 t0 n1 s2 h z ω b ≤ _
        omega
      · rw [if_neg c] at ee; cases ee
    rw [if_neg c7] at e0 ⊢
    by_cases c8 : nKd t = 8
    · rw [if_pos c8] at e0 ⊢
      obtain ⟨B', hB, h1⟩ := tbd_in e0
      obtain ⟨x1, x2, x3⟩ := w8 c8
      have hv' : CV t0 n1 s2 h (hzx h z (nz t0 n1 s2 h ω (nX t)) :: ω) (cB kp2 B C Γ0 (nX t :: Δ1)) := by
        have q := CV.ext (Γ := cB kp2 B C Γ0 Δ1) hn hc.2.1 (by rw [← lAB]; exact x1) hv
        refine ⟨⟨?_, ?_⟩, hv⟩
        · have := q.1.1
          unfold hzx; omega
        · have := q.1.2
          unfold hzx; omega
      have q := ih0 z (nY t) (nX t :: Δ1) Δ B' _ x3 (he.all x1 x2) (v8 c8) (r8 c8).2 (hc.ext h0 x1 (r8 c8).1.1) hd' hv' hB
      have q : nz t0 n1 s2 h (hzx h z (nz t0 n1 s2 h ω (nX t)) :: ω) B' ≤ _ := q
      obtain ⟨ee, l⟩ := szt_in h1
      subst ee
      rw [nz1_all]
      have q : nz t0 n1 s2 h (hzx h z (nz t0 n1 s2 h ω (nX t)) :: ω) B' ≤ GEv t0 n1 s2 h f false z (nY t) (hzx h z (nz t0 n1 s2 h ω (nX t)) :: ω) (nX t :: (cA B C Γ0 Δ1)) Δ := q
      omega
    rw [if_neg c8] at e0 ⊢
    by_cases c9 : nKd t = 9
    · rw [if_pos c9] at e0 ⊢
      obtain ⟨S, hS, h1⟩ := tbd_in e0
      obtain ⟨ee, l⟩ := tyO_in h1
      obtain ⟨x1, x2, x3⟩ := w9 c9
      obtain ⟨s1, s2'⟩ := io _ _ _ _ x1 he hS
      obtain ⟨o1, o2⟩ := expo_ok he.1 he.2.1 (cA B C Γ0 Δ1).length S s1 s2'
      unfold tyI at ee
      by_cases c : hd (expo (cA B C Γ0 Δ1) (cA B C Γ0 Δ1).length S) = 2 ∧ bel (cA B C Γ0 Δ1) (nY t) (k1 (expo (cA B C Γ0 Δ1) (cA B C Γ0 Δ1).length S)) = true
      · rw [if_pos c] at ee
        injection ee with ee
        subst ee
        obtain ⟨a, b, e2, ha, hb'⟩ := hd_is_all o1 c.1
        have q := tyF_b2 (e := ebd t0 n1 s2 h ω (cA B C Γ0 Δ1)) hn hm f (nX t) (cA B C Γ0 Δ1) Δ S (max z (nz t0 n1 s2 (hzx h z) ω (nY t))) ω x1 he ((v9 c9).2 rfl) hl (fun z k hk => ebd_le z k he.1 hl hk) hS
        have q2 := expo_e (μ := nz t0 n1 s2 (hzx h (max z (nz t0 n1 s2 (hzx h z) ω (nY t))))) (ω := ω) he.1 (fun k hk => ebd_le _ k he.1 hl hk) (cA B C Γ0 Δ1).length S s1
        have q3 := nz_inst1 (t0 := t0) (n1 := n1) (s2 := s2) hm (z := z) (ω := ω) (Γ := (cA B C Γ0 Δ1)) (B := a) hl x2 hb'
        rw [e2] at q2 ⊢
        have q4 := nz1_le (t0 := t0) (n1 := n1) (s2 := s2) hm z _ (sbt (cA B C Γ0 Δ1).length (nY t) 0 b) ω (Nat.le_refl _) (by rw [hl]; exact ok_sbt x2 _ b 0 (Nat.le_refl _) hb')
        show nz1 t0 n1 s2 h z ω (sbt (cA B C Γ0 Δ1).length (nY t) 0 b) ≤ _
        omega
      · rw [if_neg c] at ee; cases ee
    rw [if_neg c9] at e0 ⊢
    by_cases c10 : nKd t = 10
    · rw [if_pos c10] at e0 ⊢
      obtain ⟨A1, hA1, h1⟩ := tbd_in e0
      obtain ⟨A2, hA2, h1⟩ := tbd_in h1
      obtain ⟨A3, hA3, h1⟩ := tbd_in h1
      obtain ⟨ee, l⟩ := szt_in h1
      obtain ⟨m8, x1⟩ := w10 c10
      subst ee
      have key : ∀ (g : Nat) (B' : Ty), g < 3 → (if bit (nMk t) g = true then tyF f (nP t g) (cA B C Γ0 Δ1) Δ else .inr .nil) = .inr B' → nz1 t0 n1 s2 h z ω B' ≤ (if bit (nMk t) g = true then GEv t0 n1 s2 h f true z (nP t g) ω (cA B C Γ0 Δ1) Δ else 0) := by
        intro g B' hg hB
        by_cases c : bit (nMk t) g = true
        · rw [if_pos c] at hB ⊢
          exact ih1 z _ _ _ _ ω (x1 g hg c) he (v10 c10 g hg c) (r10 c10 g hg c) hc hd' hv hB
        · rw [if_neg c] at hB ⊢
          injection hB with hB
          rw [← hB, nz1_nil]; exact Nat.le_refl _
      have q0 := key 0 A1 (by decide) hA1
      have q1 := key 1 A2 (by decide) hA2
      have q2 := key 2 A3 (by decide) hA3
      have p0 : nP t 0 = nX t := rfl
      have p1 : nP t 1 = nY t := rfl
      have p2 : nP t 2 = nZ t := rfl
      rw [p0] at q0
      rw [p1] at q1
      rw [p2] at q2
      rw [nz1_rec]; omega
    rw [if_neg c10] at e0 ⊢
    by_cases c11 : nKd t = 11
    · rw [if_pos c11] at e0 ⊢
      obtain ⟨S, hS, h1⟩ := tbd_in e0
      obtain ⟨ee, l⟩ := tyO_in h1
      obtain ⟨m3, x1⟩ := w11 c11
      obtain ⟨s1, s2'⟩ := io _ _ _ _ x1 he hS
      obtain ⟨o1, o2⟩ := expo_ok he.1 he.2.1 (cA B C Γ0 Δ1).length S s1 s2'
      have q := ih1 z _ _ _ _ ω x1 he (v7 (by omega)) (r11 c11) hc hd' hv hS
      have q : nz1 t0 n1 s2 h z ω S ≤ _ := q
      have q2' := expo_7 (μ := nz1 t0 n1 s2 h z) (ω := ω) he.1 (fun k hk h2 => eb7_le z k he.1 hl hk h2) (cA B C Γ0 Δ1).length S s1
      unfold tyD at ee
      by_cases c : (8 ≤ hd (expo (cA B C Γ0 Δ1) (cA B C Γ0 Δ1).length S) ∧ hd (expo (cA B C Γ0 Δ1) (cA B C Γ0 Δ1).length S) < 16) ∧ bit (hd (expo (cA B C Γ0 Δ1) (cA B C Γ0 Δ1).length S) - 8) (nMk t) = true
      · rw [if_pos c] at ee
        injection ee with ee
        subst ee
        obtain ⟨m, x, y, w, hm', e2⟩ := hd_is_rec o1 c.1.1 c.1.2
        have q2 := q2'.resolve_right (by omega)
        rw [e2, nz1_rec] at q2
        rw [e2]
        rcases (show nMk t = 0 ∨ nMk t = 1 ∨ nMk t = 2 by omega) with e | e | e
        · rw [e, (pt_rec hm' x y w).1]; omega
        · rw [e, (pt_rec hm' x y w).2.1]; omega
        · rw [e, (pt_rec hm' x y w).2.2]; omega
      · rw [if_neg c] at ee; cases ee
    rw [if_neg c11] at e0 ⊢
    exact absurd (v12 (show nKd t = 12 by omega)).1 (by decide)
theorem tyE_all (h0 : CN0 kp2 hb B C Γ0) (hn : NC t0 n1 s2 h) (hm : ∀ y y', y ≤ y' → h y ≤ h y') : ∀ f, TyE hb B C Γ0 t0 n1 s2 h f false ∧ TyE hb B C Γ0 t0 n1 s2 h f true
  | 0 => ⟨fun _ _ _ _ _ _ w => w.elim, fun _ _ _ _ _ _ w => w.elim⟩
  | f + 1 => ⟨tyE_0 h0 hn hm (tyE_all h0 hn hm f).1 (tyE_all h0 hn hm f).2, tyE_1 h0 hn hm (tyE_all h0 hn hm f).1 (tyE_all h0 hn hm f).2⟩
end PmNb9
