/-! JOINS WHERE A BOUND IS CUT: they keep what is asked for the cut, and are worth no more than both sides, the cut bound being worth what is left of it. -/
/-- one of two types may be cut at a variable that the other does not name so -/
def Cst (κ : Ty → Bool) (Γ : List Ty) (S S' T : Ty) : Prop := S' = S ∨ ∃ r, r < Γ.length ∧ S' = ct κ r S ∧ Pz κ r S = true ∧ Wo κ r T = true ∧ CWo κ r Γ
section PmN5
variable {κ : Ty → Bool} {Γ : List Ty}
theorem Cst.ok {S S' T : Ty} (h : Cst κ Γ S S' T) {d : Nat} (o : ok d S = true) : ok d S' = true := by
  rcases h with e | ⟨r, -, e, -⟩
  · rw [e]; exact o
  · rw [e]; exact ct_ok κ r _ S d (Nat.le_refl _) o
/-- where the other side is below, nothing is cut -/
theorem Cst.bel (hκ : ∀ j m t, κ (lft j m t) = κ t) {S S' T : Ty} (h : Cst κ Γ S S' T) (tk : tok (Γ, T, S)) (b : bel Γ T S = true) : S' = S := by
  rcases h with e | ⟨r, hr, e, pz, wo, cw⟩
  · exact e
  · rw [e]
    exact ct_Wo S (bel_Wo hκ _ Γ T S r hr tk (Nat.le_refl _) cw wo pz b)
theorem Cst.var {S' T : Ty} {k : Nat} (h : Cst κ Γ (tVar k) S' T) : S' = tVar k := by
  rcases h with e | ⟨r, -, e, -⟩
  · exact e
  · rw [e]; rfl
/-- the other side exposed -/
theorem Cst.exp {S S' : Ty} {j : Nat} (h : Cst κ Γ S S' (tVar j)) (hj : j < Γ.length) : Cst κ Γ S S' (lft j (Γ.length - j) (bnd Γ j)) := by
  rcases h with e | ⟨r, hr, e, pz, -, cw⟩
  · exact Or.inl e
  · exact Or.inr ⟨r, hr, e, pz, cw.exp hj, cw⟩
theorem Cst.rec {m m' : Nat} {x y z x' y' z' S' : Ty} (h : Cst κ Γ (tRec m x y z) S' (tRec m' x' y' z')) : ∃ x1 y1 z1, S' = tRec m x1 y1 z1 ∧ Cst κ Γ x x1 x' ∧ Cst κ Γ y y1 y' ∧ Cst κ Γ z z1 z' := by
  rcases h with e | ⟨r, hr, e, pz, wo, cw⟩
  · exact ⟨x, y, z, e, Or.inl rfl, Or.inl rfl, Or.inl rfl⟩
  · rw [Pz_rec, Bool.and_eq_true, Bool.and_eq_true] at pz
    rw [Wo_rec, Bool.and_eq_true, Bool.and_eq_true] at wo
    rw [ct_rec] at e
    exact ⟨_, _, _, e, Or.inr ⟨r, hr, rfl, pz.1, wo.1, cw⟩, Or.inr ⟨r, hr, rfl, pz.2.1, wo.2.1, cw⟩, Or.inr ⟨r, hr, rfl, pz.2.2, wo.2.2, cw⟩⟩
theorem Cst.fun {a b a' b' S' : Ty} (h : Cst κ Γ (tFun a b) S' (tFun a' b')) : ∃ b1, S' = tFun a b1 ∧ Cst κ Γ b b1 b' := by
  rcases h with e | ⟨r, hr, e, pz, wo, cw⟩
  · exact ⟨b, e, Or.inl rfl⟩
  · rw [Pz_fun, Bool.and_eq_true] at pz
    rw [Wo_fun, Bool.and_eq_true] at wo
    rw [ct_fun, ct_Wo a pz.1] at e
    exact ⟨_, e, Or.inr ⟨r, hr, rfl, pz.2, wo.2, cw⟩⟩
theorem Cst.all (hκ : ∀ j m t, κ (lft j m t) = κ t) {a b b' S' : Ty} (h : Cst κ Γ (tAll a b) S' (tAll a b')) : ∃ b1, S' = tAll a b1 ∧ Cst κ (a :: Γ) b b1 b' := by
  rcases h with e | ⟨r, hr, e, pz, wo, cw⟩
  · exact ⟨b, e, Or.inl rfl⟩
  · rw [Wo_all, Bool.and_eq_true, Bool.and_eq_true] at wo
    have no : (men r a && κ a) = false := by
      have := wo.1
      rwa [Bool.not_eq_true'] at this
    rw [Pz_all, no, Bool.false_or, Bool.and_eq_true] at pz
    rw [ct_all, no] at e
    exact ⟨ct κ r b, e, Or.inr ⟨r, by rw [List.length_cons]; omega, rfl, pz.2, wo.2.2, cw.ext hκ hr pz.1⟩⟩
end PmN5
theorem PNw_nsch (κ : Ty → Bool) (hb : Nat) : ∀ (t : Ty) (d : Nat), nsch t = true → PNw κ hb d t = true
  | .tag c (.append a b), d, h => by
    rw [nsch, Bool.and_eq_true, Bool.and_eq_true] at h
    have e : ¬ c = 2 := by simpa using h.1
    rw [PNw, if_neg e, PNw_nsch κ hb a d h.2.1, PNw_nsch κ hb b d h.2.2]; rfl
  | .append a b, d, h => by
    rw [nsch, Bool.and_eq_true] at h
    rw [PNw, PNw_nsch κ hb a d h.1, PNw_nsch κ hb b d h.2]; rfl
  | .tag c .nil, _, _ => rfl
  | .tag c .line, _, _ => rfl
  | .tag c (.align _), _, _ => rfl
  | .tag c (.text _), _, _ => rfl
  | .tag c (.nest _ _), _, _ => rfl
  | .tag c (.group _ _), _, _ => rfl
  | .tag c (.tag _ _), _, _ => rfl
  | .nil, _, _ => rfl
  | .line, _, _ => rfl
  | .align _, _, _ => rfl
  | .text _, _, _ => rfl
  | .nest _ _, _, _ => rfl
  | .group _ _, _, _ => rfl
section PmN6
variable (κ : Ty → Bool) (hb : Nat) (B C : Ty) (Γ0 : List Ty)
/-- what is given once and for all -/
def CN0 : Prop := (∀ j m t, κ (lft j m t) = κ t) ∧ PNw κ hb (Γ0.length + 1) C = true ∧ Pz κ Γ0.length C = true ∧ hd B = hb ∧ hb < 16 ∧ nsch B = true ∧ ok Γ0.length B = true
def CNx (Δ : List Ty) : Prop := okc (cA B C Γ0 Δ) ∧ okc (cB κ B C Γ0 Δ) ∧ ∀ j, j < (cA B C Γ0 Δ).length → j ≠ Γ0.length → ∀ m, (cA B C Γ0 Δ).length ≤ m → PNw κ hb m (lft j (m - j) (bnd (cA B C Γ0 Δ) j)) = true
end PmN6
section PmN7
variable {κ : Ty → Bool} {hb : Nat} {B C : Ty} {Γ0 Δ : List Ty}
theorem CN0.ch (h : CN0 κ hb B C Γ0) : CH0 κ hb B C Γ0 := ⟨h.1, PNw_PNs _ _ h.2.1, h.2.2.2.1, h.2.2.2.2.1, h.2.2.2.2.2.1, h.2.2.2.2.2.2⟩
theorem PNw_KK {k m : Nat} (hk : k < m) {t : Ty} (h : PNw κ hb m t = true) : KK κ hb k m t := ⟨k, Nat.le_refl _, hk, PNw_PNs _ _ h⟩
theorem CNx.cg (h : CNx κ hb B C Γ0 Δ) : CG κ hb B C Γ0 Δ := ⟨h.1, h.2.1, fun j hj ne m hm => PNw_KK (by have := cA_len (B := B) (C := C) (Γ0 := Γ0) (Δ := Δ); omega) (h.2.2 j hj ne m hm)⟩
theorem CNx.ext (h0 : CN0 κ hb B C Γ0) (h : CNx κ hb B C Γ0 Δ) {a : Ty} (oa : ok (cA B C Γ0 Δ).length a = true) (pa : PNw κ hb (cA B C Γ0 Δ).length a = true) : CNx κ hb B C Γ0 (a :: Δ) := by
  refine ⟨⟨oa, h.1⟩, ⟨by show ok (cB κ B C Γ0 Δ).length a = true; rw [← cAB_len]; exact oa, h.2.1⟩, fun j hj ne m hm => ?_⟩
  have hj : j < (cA B C Γ0 Δ).length + 1 := hj
  have hm : (cA B C Γ0 Δ).length + 1 ≤ m := hm
  show PNw κ hb m (lft j (m - j) (if j = (cA B C Γ0 Δ).length then a else bnd (cA B C Γ0 Δ) j)) = true
  by_cases e : j = (cA B C Γ0 Δ).length
  · rw [if_pos e]
    have := PNw_lft h0.1 h0.2.2.2.2.1 j (m - j) a (cA B C Γ0 Δ).length (by omega)
    rw [show (cA B C Γ0 Δ).length + (m - j) = m by omega] at this
    rw [this]; exact pa
  · rw [if_neg e]
    exact h.2.2 j (by omega) ne m (by omega)
theorem CNx.exp (h : CNx κ hb B C Γ0 Δ) {j : Nat} (hj : j < (cA B C Γ0 Δ).length) (ne : j ≠ Γ0.length) : PNw κ hb (cA B C Γ0 Δ).length (lft j ((cA B C Γ0 Δ).length - j) (bnd (cA B C Γ0 Δ) j)) = true := h.2.2 j hj ne _ (Nat.le_refl _)
theorem CN0.fB (h0 : CN0 κ hb B C Γ0) (d : Nat) : PNw κ hb d (upb Γ0 Δ B) = true ∧ hd (upb Γ0 Δ B) = hb := by
  refine ⟨PNw_nsch _ _ _ _ ?_, ?_⟩
  · unfold upb; rw [nsch_lft]; exact h0.2.2.2.2.2.1
  · have := lft_hdb h0.2.2.2.2.1 Γ0.length (Δ.length + 1) B
    rw [h0.2.2.2.1] at this
    unfold upb
    simpa using this
theorem CN0.fC (h0 : CN0 κ hb B C Γ0) : PNw κ hb ((cA B C Γ0 Δ).length + 1) (upb Γ0 Δ C) = true ∧ Pz κ (cA B C Γ0 Δ).length (upb Γ0 Δ C) = true ∧ ct κ (cA B C Γ0 Δ).length (upb Γ0 Δ C) = upb Γ0 Δ (ct κ Γ0.length C) := by
  have hl := cA_len (B := B) (C := C) (Γ0 := Γ0) (Δ := Δ)
  have es : shl Γ0.length (Δ.length + 1) Γ0.length = (cA B C Γ0 Δ).length := by unfold shl; rw [if_pos (Nat.le_refl _)]; omega
  refine ⟨?_, ?_, ?_⟩
  · have := PNw_lft h0.1 h0.2.2.2.2.1 Γ0.length (Δ.length + 1) C (Γ0.length + 1) (by omega)
    rw [show Γ0.length + 1 + (Δ.length + 1) = (cA B C Γ0 Δ).length + 1 by omega] at this
    exact this.trans h0.2.1
  · have := Pz_lft (r := Γ0.length) h0.1 Γ0.length (Δ.length + 1) C
    rw [es] at this
    exact this.trans h0.2.2.1
  · have := ct_lft (r := Γ0.length) h0.1 Γ0.length (Δ.length + 1) C
    rw [es] at this
    exact this
theorem hbv_hd {a : Ty} (e : hd a = hb) : hbv hb a = true := by unfold hbv; rw [e]; simp
/-- what is below the bound, and not below the variable: then nothing is cut -/
theorem bel_own (h0 : CN0 κ hb B C Γ0) : ∀ (n : Nat) (Δ : List Ty) (T : Ty), CNx κ hb B C Γ0 Δ → tok (cA B C Γ0 Δ, T, upb Γ0 Δ (tAll B C)) → PNw κ hb (cA B C Γ0 Δ).length T = true → twt (cA B C Γ0 Δ, T, upb Γ0 Δ (tAll B C)) ≤ n → bel (cA B C Γ0 Δ) T (tVar Γ0.length) = false → bel (cA B C Γ0 Δ) T (upb Γ0 Δ (tAll B C)) = true → Wo κ (cA B C Γ0 Δ).length (upb Γ0 Δ C) = true
  | 0, Δ, T, _, tk, _, hn, _, _ => by have := twt_two tk; omega
  | n + 1, Δ, T, hd0, tk, pT, hn, nb, hbl => by
    have hl := cA_len (B := B) (C := C) (Γ0 := Γ0) (Δ := Δ)
    have hc : okc (cA B C Γ0 Δ) := tk.1
    have oT : ok (cA B C Γ0 Δ).length T = true := tk.2.1
    have oX : ok (cA B C Γ0 Δ).length (upb Γ0 Δ (tAll B C)) = true := tk.2.2
    have eq := upb_all Γ0 Δ B C
    rw [bel_eq tk] at hbl
    rcases stp_cases tk with e | ⟨e, -⟩ | ⟨k, hk, e1, h0', e, -⟩ | ⟨m, x, y, z, m', x', y', z', hm, hm', e1, e2, e, -⟩ | ⟨a, b, a', b', e1, e2, e, -⟩ | ⟨a, b, b', e1, e2, e, -⟩
    · rw [e] at hbl; cases hbl
    · exfalso
      unfold stp at e
      rw [eq, hd_all, if_neg (by omega)] at e
      by_cases n2 : 16 ≤ hd T
      · rw [if_pos n2] at e; cases e
      rw [if_neg n2, if_neg (by omega)] at e
      by_cases n4 : hd T ≠ 2 ∨ hd T = 0
      · rw [if_pos n4] at e; cases e
      rw [if_neg n4, if_neg (by omega)] at e
      by_cases n7 : flat (k1 T) = flat (k1 (tAll (upb Γ0 Δ B) (upb Γ0 Δ C)))
      · rw [if_pos n7] at e; cases e
      · rw [if_neg n7] at e; cases e
    · subst e1
      rw [e] at hbl
      simp only [List.all_cons, List.all_nil, Bool.and_true] at hbl
      have w1 := (stp_w tk e).1
      have w1 : twt (cA B C Γ0 Δ, lft k ((cA B C Γ0 Δ).length - k) (bnd (cA B C Γ0 Δ) k), upb Γ0 Δ (tAll B C)) + 0 + 1 ≤ twt (cA B C Γ0 Δ, tVar k, upb Γ0 Δ (tAll B C)) := w1
      have tk2 : tok (cA B C Γ0 Δ, tVar k, tVar Γ0.length) := ⟨hc, oT, ok_var (show Γ0.length < (cA B C Γ0 Δ).length by omega)⟩
      rw [bel_eq tk2] at nb
      unfold stp at nb
      rw [hd_var, hd_var] at nb
      by_cases ek : k = Γ0.length
      · rw [if_pos (Or.inr ⟨by omega, by omega⟩)] at nb
        cases nb
      · rw [if_neg (by omega), if_pos (by omega), show 16 + k - 16 = k by omega] at nb
        simp only [List.all_cons, List.all_nil, Bool.and_true] at nb
        exact bel_own h0 n Δ _ hd0 ⟨hc, ok_expose hc hk, oX⟩ (hd0.exp hk ek) (by omega) nb hbl
    · rw [eq] at e2
      have := congrArg hd e2
      rw [hd_all, hd_rec] at this
      omega
    · rw [eq] at e2
      have := congrArg hd e2
      rw [hd_all, hd_fun] at this
      omega
    · rw [e] at hbl
      simp only [List.all_cons, List.all_nil, Bool.and_true] at hbl
      rw [eq] at e2
      injection e2 with e2 e3
      injection e3 with e3 e4
      subst e3 e4
      subst e1
      rw [PNw_all, Bool.and_eq_true, Bool.and_eq_true] at pT
      have wb : Wo κ (cA B C Γ0 Δ).length b = true := by
        have := pT.2
        rw [hbv_hd (h0.fB 0).2] at this
        simpa using this
      rw [eq] at oX
      exact bel_Wo h0.1 _ (upb Γ0 Δ B :: cA B C Γ0 Δ) b (upb Γ0 Δ C) _ (by rw [List.length_cons]; omega) ⟨⟨(ok_all.mp oT).1, hc⟩, (ok_all.mp oT).2, (ok_all.mp oX).2⟩ (Nat.le_refl _) (CWo.new _) wb h0.fC.2.1 hbl
end PmN7
