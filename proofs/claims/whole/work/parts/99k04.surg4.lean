/-! THE WALK IS THE SAME: rows of comparisons. -/
section PmK5
variable {h : Nat} {B C C' : Ty} {Γ0 : List Ty}
theorem trf_L (s0 : List Ty → Prop) {Δ : List Ty} (s : SGc h B C C' Γ0 Δ) (Γ : List Ty) (X : Ty) {T : Ty} {d : Nat} (oT : ok d T = true) (nT : noh h T = true) (f : Nat) : trf f (Γ, upb Γ0 Δ (tAll B X), T) = 0 := by
  cases f with
  | zero => rfl
  | succ f =>
    unfold trf
    simp only [upb_all]
    rw [s.stpL Γ _ oT nT]
    by_cases n0 : hd T = 0
    · rw [if_pos n0]
      show rst _ T + 0 = 0
      unfold rst
      rw [if_pos (Or.inl n0)]
    · rw [if_neg n0]
theorem trf_var (f : Nat) (Γ : List Ty) (j : Nat) (T : Ty) (e0 : hd T ≠ 0) (e1 : 16 + j ≠ hd T) : trf (f + 1) (Γ, tVar j, T) = 1 + (trf f (Γ, lft j (Γ.length - j) (bnd Γ j), T) + 0) := by
  have e : stp Γ (tVar j) T = some [(Γ, lft j (Γ.length - j) (bnd Γ j), T)] := by
    unfold stp
    rw [hd_var, if_neg (by omega), if_pos (by omega), show 16 + j - 16 = j by omega]
  show (match stp Γ (tVar j) T with | none => 0 | some l => rst (tVar j) T + sumt (trf f) l) = _
  rw [e]
  show rst (tVar j) T + (trf f (Γ, lft j (Γ.length - j) (bnd Γ j), T) + 0) = _
  rw [rst_var (by omega)]
theorem trf_done (f : Nat) (Γ : List Ty) (j : Nat) (T : Ty) (e : hd T = 0 ∨ 16 + j = hd T) : trf f (Γ, tVar j, T) = 0 := by
  cases f with
  | zero => rfl
  | succ f =>
    have e1 : stp Γ (tVar j) T = some [] := by
      unfold stp
      rw [hd_var, if_pos (by omega)]
    unfold trf
    simp only [e1]
    show rst _ T + 0 = 0
    unfold rst
    rw [hd_var, if_pos (by omega)]
theorem trf_sg : ∀ (f : Nat) (Δ : List Ty) (S T : Ty), SGc h B C C' Γ0 Δ → tok (cxs Δ Γ0 (tAll B C), S, T) → noh h S = true → noh h T = true → trf f (cxs Δ Γ0 (tAll B C), S, T) = trf f (cxs Δ Γ0 (tAll B C'), S, T)
  | 0, Δ, S, T, s, t, _, _ => rfl
  | f + 1, Δ, S, T, s, t, nS, nT => by
    by_cases v : 16 ≤ hd S
    · obtain ⟨j, hj, rfl⟩ := hd_is_var t.2.1 v
      have hj : j < (cxs Δ Γ0 (tAll B C)).length := hj
      by_cases e0 : hd T = 0 ∨ 16 + j = hd T
      · rw [trf_done _ _ _ _ e0, trf_done _ _ _ _ e0]
      rw [trf_var f _ j T (by omega) (by omega), trf_var f _ j T (by omega) (by omega)]
      by_cases ek : j = Γ0.length
      · subst ek
        rw [cxs_up, cxs_up, trf_L (fun _ => True) s _ C t.2.2 nT, trf_L (fun _ => True) s _ C' t.2.2 nT]
      · obtain ⟨x1, x2⟩ := s.ex hj ek
        rw [← x1, trf_sg f Δ _ T s ⟨s.o1, ok_expose s.o1 hj, t.2.2⟩ x2 nT]
    · unfold trf
      simp only [stp_nv (Γ := cxs Δ Γ0 (tAll B C)) v, stp_nv (Γ := cxs Δ Γ0 (tAll B C')) v]
      cases e : stp [] S T with
      | none => rfl
      | some l =>
        have e1 : stp (cxs Δ Γ0 (tAll B C)) S T = some (l.map (fun z => (z.1 ++ cxs Δ Γ0 (tAll B C), z.2))) := by rw [stp_nv v, e]; rfl
        obtain ⟨-, w2⟩ := stp_w t e1
        have nl := stp_noh v nS nT e
        show rst S T + sumt (trf f) (l.map (fun z => ((z.1 ++ cxs Δ Γ0 (tAll B C), z.2) : Tsk))) = rst S T + sumt (trf f) (l.map (fun z => ((z.1 ++ cxs Δ Γ0 (tAll B C'), z.2) : Tsk)))
        congr 1
        have hz : ∀ z ∈ l, trf f (z.1 ++ cxs Δ Γ0 (tAll B C), z.2) = trf f (z.1 ++ cxs Δ Γ0 (tAll B C'), z.2) := by
          intro z hz
          obtain ⟨z1, z2, z3⟩ := nl z hz
          have hm : ((z.1 ++ cxs Δ Γ0 (tAll B C), z.2) : Tsk) ∈ l.map (fun z => ((z.1 ++ cxs Δ Γ0 (tAll B C), z.2) : Tsk)) := List.mem_map.mpr ⟨z, hz, rfl⟩
          have tz := w2 _ hm
          have c1 : z.1 ++ cxs Δ Γ0 (tAll B C) = cxs (z.1 ++ Δ) Γ0 (tAll B C) := by unfold cxs; rw [List.append_assoc]
          have c2 : z.1 ++ cxs Δ Γ0 (tAll B C') = cxs (z.1 ++ Δ) Γ0 (tAll B C') := by unfold cxs; rw [List.append_assoc]
          have s' := s.mk' z.1 tz.1 z3
          rw [c1] at tz ⊢
          rw [c2]
          exact trf_sg f (z.1 ++ Δ) z.2.1 z.2.2 s' tz z1 z2
        clear e e1 w2 nl
        revert hz
        induction l with
        | nil => intro _; rfl
        | cons z l ih =>
          intro hz
          show trf f (z.1 ++ cxs Δ Γ0 (tAll B C), z.2) + sumt (trf f) (l.map _) = trf f (z.1 ++ cxs Δ Γ0 (tAll B C'), z.2) + sumt (trf f) (l.map _)
          rw [hz z (List.mem_cons_self ..), ih (fun y hy => hz y (List.mem_cons_of_mem _ hy))]
theorem trf_sgR : ∀ (f : Nat) (Δ : List Ty) (S : Ty), SGc h B C C' Γ0 Δ → ok (cxs Δ Γ0 (tAll B C)).length S = true → noh h S = true → bel (cxs Δ Γ0 (tAll B C)) S (tVar Γ0.length) = false → trf f (cxs Δ Γ0 (tAll B C), S, upb Γ0 Δ (tAll B C)) = trf f (cxs Δ Γ0 (tAll B C'), S, upb Γ0 Δ (tAll B C'))
  | 0, Δ, S, s, o, _, _ => rfl
  | f + 1, Δ, S, s, o, nS, hb => by
    by_cases v : 16 ≤ hd S
    · obtain ⟨j, hj, rfl⟩ := hd_is_var o v
      have tA : tok (cxs Δ Γ0 (tAll B C), tVar j, tVar Γ0.length) := ⟨s.o1, o, ok_var (SGc.k_lt _)⟩
      have ek : j ≠ Γ0.length := by
        intro ek
        subst ek
        rw [bel_veq tA v rfl] at hb
        exact absurd hb (by decide)
      have e0 : ∀ X : Ty, hd (upb Γ0 Δ (tAll B X)) ≠ 0 := fun X => by rw [upb_all, hd_all]; omega
      have e1 : ∀ X : Ty, 16 + j ≠ hd (upb Γ0 Δ (tAll B X)) := fun X => by rw [upb_all, hd_all]; omega
      rw [trf_var f _ j _ (e0 C) (e1 C), trf_var f _ j _ (e0 C') (e1 C')]
      obtain ⟨x1, x2⟩ := s.ex hj ek
      rw [← x1, trf_sgR f Δ _ s (ok_expose s.o1 hj) x2 (by
        rw [bel_var tA (by rw [hd_var]; omega) (by rw [hd_var]; omega)] at hb
        exact hb)]
    · unfold trf
      simp only [upb_all]
      rw [s.stpR _ _ o nS v, s.stpR _ _ o nS v]
theorem trx_big {z : Tsk} (t : tok z) {F : Nat} (hF : twt z ≤ F) : trx z = trf F z := trf_more _ _ z t (Nat.le_refl _) hF
/-- rows of a comparison -/
theorem trx_sg {Δ : List Ty} {S T : Ty} (s : SGc h B C C' Γ0 Δ) (t : tok (cxs Δ Γ0 (tAll B C), S, T)) (nS : noh h S = true) (nT : noh h T = true) : trx (cxs Δ Γ0 (tAll B C), S, T) = trx (cxs Δ Γ0 (tAll B C'), S, T) := by
  rw [trx_big t (F := max (twt (cxs Δ Γ0 (tAll B C), S, T)) (twt (cxs Δ Γ0 (tAll B C'), S, T))) (Nat.le_max_left _ _), trx_big (tok_two s t) (F := max (twt (cxs Δ Γ0 (tAll B C), S, T)) (twt (cxs Δ Γ0 (tAll B C'), S, T))) (Nat.le_max_right _ _)]
  exact trf_sg _ Δ S T s t nS nT
theorem tru_sg {Δ : List Ty} {S T : Ty} (s : SGc h B C C' Γ0 Δ) (t : tok (cxs Δ Γ0 (tAll B C), S, T)) (nS : noh h S = true) (nT : noh h T = true) : tru (cxs Δ Γ0 (tAll B C), S, T) = tru (cxs Δ Γ0 (tAll B C'), S, T) := by
  unfold tru
  show max (trx (cxs Δ Γ0 (tAll B C), S, T)) (trx (cxs Δ Γ0 (tAll B C), T, S)) = max (trx (cxs Δ Γ0 (tAll B C'), S, T)) (trx (cxs Δ Γ0 (tAll B C'), T, S))
  rw [trx_sg s t nS nT, trx_sg s (S := T) (T := S) ⟨t.1, t.2.2, t.2.1⟩ nT nS]
theorem trx_upL {Δ : List Ty} {T : Ty} (s : SGc h B C C' Γ0 Δ) (oT : ok (cxs Δ Γ0 (tAll B C)).length T = true) (nT : noh h T = true) (Γ : List Ty) (X : Ty) : trx (Γ, upb Γ0 Δ (tAll B X), T) = 0 := trf_L (fun _ => True) s Γ X oT nT _
theorem trx_upR {Δ : List Ty} {S : Ty} (s : SGc h B C C' Γ0 Δ) (o : ok (cxs Δ Γ0 (tAll B C)).length S = true) (nS : noh h S = true) (hb : bel (cxs Δ Γ0 (tAll B C)) S (tVar Γ0.length) = false) : trx (cxs Δ Γ0 (tAll B C), S, upb Γ0 Δ (tAll B C)) = trx (cxs Δ Γ0 (tAll B C'), S, upb Γ0 Δ (tAll B C')) := by
  have t1 : tok (cxs Δ Γ0 (tAll B C), S, upb Γ0 Δ (tAll B C)) := ⟨s.o1, o, s.okup⟩
  have t2 : tok (cxs Δ Γ0 (tAll B C'), S, upb Γ0 Δ (tAll B C')) := ⟨s.o2, by rw [cxs_len] at o ⊢; exact o, s.okup'⟩
  rw [trx_big t1 (F := max (twt (cxs Δ Γ0 (tAll B C), S, upb Γ0 Δ (tAll B C))) (twt (cxs Δ Γ0 (tAll B C'), S, upb Γ0 Δ (tAll B C')))) (Nat.le_max_left _ _), trx_big t2 (F := max (twt (cxs Δ Γ0 (tAll B C), S, upb Γ0 Δ (tAll B C))) (twt (cxs Δ Γ0 (tAll B C'), S, upb Γ0 Δ (tAll B C')))) (Nat.le_max_right _ _)]
  exact trf_sgR _ Δ S s o nS hb
end PmK5
