/-! THE WALK IS THE SAME: below, rows of comparisons. -/
theorem all_congr2 {α : Type} {p q : α → Bool} : ∀ {l : List α}, (∀ z ∈ l, p z = q z) → l.all p = l.all q
  | [], _ => rfl
  | z :: l, hz => by rw [List.all_cons, List.all_cons, hz z (List.mem_cons_self ..), all_congr2 (fun y hy => hz y (List.mem_cons_of_mem _ hy))]
section PmK4
variable {h : Nat} {B C C' : Ty} {Γ0 : List Ty}
theorem tok_two {Δ : List Ty} (s : SGc h B C C' Γ0 Δ) {S T : Ty} (t : tok (cxs Δ Γ0 (tAll B C), S, T)) : tok (cxs Δ Γ0 (tAll B C'), S, T) :=
  ⟨s.o2, by have := t.2.1; rw [cxs_len] at this ⊢; exact this, by have := t.2.2; rw [cxs_len] at this ⊢; exact this⟩
theorem bel_up {Δ : List Ty} (s : SGc h B C C' Γ0 Δ) {T : Ty} (oT : ok (cxs Δ Γ0 (tAll B C)).length T = true) (nT : noh h T = true) : bel (cxs Δ Γ0 (tAll B C)) (upb Γ0 Δ (tAll B C)) T = decide (hd T = 0) ∧ bel (cxs Δ Γ0 (tAll B C')) (upb Γ0 Δ (tAll B C')) T = decide (hd T = 0) := by
  have t1 : tok (cxs Δ Γ0 (tAll B C), upb Γ0 Δ (tAll B C), T) := ⟨s.o1, s.okup, oT⟩
  have t2 : tok (cxs Δ Γ0 (tAll B C'), upb Γ0 Δ (tAll B C'), T) := ⟨s.o2, s.okup', by rw [cxs_len] at oT ⊢; exact oT⟩
  rw [bel_eq t1, bel_eq t2, upb_all, upb_all, s.stpL _ _ oT nT, s.stpL _ _ oT nT]
  by_cases n0 : hd T = 0
  · simp [n0]
  · simp [n0]
/-- what is below one of them is below the other -/
theorem bel_sg : ∀ (n : Nat) (Δ : List Ty) (S T : Ty), SGc h B C C' Γ0 Δ → tok (cxs Δ Γ0 (tAll B C), S, T) → twt (cxs Δ Γ0 (tAll B C), S, T) ≤ n → noh h S = true → noh h T = true → bel (cxs Δ Γ0 (tAll B C)) S T = bel (cxs Δ Γ0 (tAll B C')) S T
  | 0, Δ, S, T, s, t, hn, _, _ => by have := twt_two t; omega
  | n + 1, Δ, S, T, s, t, hn, nS, nT => by
    have t' := tok_two s t
    by_cases v : 16 ≤ hd S
    · obtain ⟨j, hj, rfl⟩ := hd_is_var t.2.1 v
      have hj : j < (cxs Δ Γ0 (tAll B C)).length := hj
      by_cases e0 : hd T = 0
      · rw [bel_top t e0, bel_top t' e0]
      by_cases e1 : 16 + j = hd T
      · rw [bel_veq t v (by rw [hd_var]; exact e1), bel_veq t' v (by rw [hd_var]; exact e1)]
      rw [bel_var t e0 e1, bel_var t' e0 e1]
      by_cases ek : j = Γ0.length
      · subst ek
        rw [cxs_up, cxs_up]
        obtain ⟨a1, a2⟩ := bel_up s (T := T) t.2.2 nT
        rw [a1, a2]
      · obtain ⟨x1, x2⟩ := s.ex hj ek
        rw [← x1]
        have w : twt (cxs Δ Γ0 (tAll B C), lft j ((cxs Δ Γ0 (tAll B C)).length - j) (bnd (cxs Δ Γ0 (tAll B C)) j), T) + 1 ≤ twt (cxs Δ Γ0 (tAll B C), tVar j, T) := by
          show wt (om (cxs Δ Γ0 (tAll B C))) (lft j ((cxs Δ Γ0 (tAll B C)).length - j) (bnd (cxs Δ Γ0 (tAll B C)) j)) + wt (om (cxs Δ Γ0 (tAll B C))) T + 1 ≤ wt (om (cxs Δ Γ0 (tAll B C))) (tVar j) + wt (om (cxs Δ Γ0 (tAll B C))) T
          rw [wt_expose s.o1 hj, wt_var]; omega
        exact bel_sg n Δ _ T s ⟨s.o1, ok_expose s.o1 hj, t.2.2⟩ (by omega) x2 nT
    · rw [bel_eq t, bel_eq t', stp_nv (Γ := cxs Δ Γ0 (tAll B C)) v, stp_nv (Γ := cxs Δ Γ0 (tAll B C')) v]
      cases e : stp [] S T with
      | none => rfl
      | some l =>
        have e1 : stp (cxs Δ Γ0 (tAll B C)) S T = some (l.map (fun z => (z.1 ++ cxs Δ Γ0 (tAll B C), z.2))) := by rw [stp_nv v, e]; rfl
        obtain ⟨w1, w2⟩ := stp_w t e1
        have w1 : tws (l.map (fun z => (z.1 ++ cxs Δ Γ0 (tAll B C), z.2))) + 1 ≤ twt (cxs Δ Γ0 (tAll B C), S, T) := w1
        have nl := stp_noh v nS nT e
        show (l.map (fun z => ((z.1 ++ cxs Δ Γ0 (tAll B C), z.2) : Tsk))).all belz = (l.map (fun z => ((z.1 ++ cxs Δ Γ0 (tAll B C'), z.2) : Tsk))).all belz
        rw [List.all_map, List.all_map]
        have hz : ∀ z ∈ l, (belz ∘ fun z => ((z.1 ++ cxs Δ Γ0 (tAll B C), z.2) : Tsk)) z = (belz ∘ fun z => ((z.1 ++ cxs Δ Γ0 (tAll B C'), z.2) : Tsk)) z := by
          intro z hz
          obtain ⟨z1, z2, z3⟩ := nl z hz
          have hm : ((z.1 ++ cxs Δ Γ0 (tAll B C), z.2) : Tsk) ∈ l.map (fun z => ((z.1 ++ cxs Δ Γ0 (tAll B C), z.2) : Tsk)) := List.mem_map.mpr ⟨z, hz, rfl⟩
          have tz := w2 _ hm
          have lz : twt (z.1 ++ cxs Δ Γ0 (tAll B C), z.2) + 1 ≤ twt (cxs Δ Γ0 (tAll B C), S, T) := Nat.le_trans (Nat.succ_le_succ (twt_mem hm)) w1
          have c1 : z.1 ++ cxs Δ Γ0 (tAll B C) = cxs (z.1 ++ Δ) Γ0 (tAll B C) := by unfold cxs; rw [List.append_assoc]
          have c2 : z.1 ++ cxs Δ Γ0 (tAll B C') = cxs (z.1 ++ Δ) Γ0 (tAll B C') := by unfold cxs; rw [List.append_assoc]
          show bel (z.1 ++ cxs Δ Γ0 (tAll B C)) z.2.1 z.2.2 = bel (z.1 ++ cxs Δ Γ0 (tAll B C')) z.2.1 z.2.2
          have s' := s.mk' z.1 tz.1 z3
          rw [c1] at tz lz ⊢
          rw [c2]
          have lz : twt (cxs (z.1 ++ Δ) Γ0 (tAll B C), z.2.1, z.2.2) + 1 ≤ twt (cxs Δ Γ0 (tAll B C), S, T) := lz
          exact bel_sg n (z.1 ++ Δ) z.2.1 z.2.2 s' tz (by omega) z1 z2
        exact all_congr2 hz
/-- against the scheme: what does not lead to the variable is not below -/
theorem bel_sgR : ∀ (n : Nat) (Δ : List Ty) (S : Ty), SGc h B C C' Γ0 Δ → ok (cxs Δ Γ0 (tAll B C)).length S = true → wt (om (cxs Δ Γ0 (tAll B C))) S ≤ n → noh h S = true → bel (cxs Δ Γ0 (tAll B C)) S (tVar Γ0.length) = false → bel (cxs Δ Γ0 (tAll B C)) S (upb Γ0 Δ (tAll B C)) = false ∧ bel (cxs Δ Γ0 (tAll B C')) S (upb Γ0 Δ (tAll B C')) = false
  | 0, Δ, S, s, o, hn, _, _ => by have := wt_pos o (om (cxs Δ Γ0 (tAll B C))); omega
  | n + 1, Δ, S, s, o, hn, nS, hb => by
    have t1 : tok (cxs Δ Γ0 (tAll B C), S, upb Γ0 Δ (tAll B C)) := ⟨s.o1, o, s.okup⟩
    have t2 : tok (cxs Δ Γ0 (tAll B C'), S, upb Γ0 Δ (tAll B C')) := ⟨s.o2, by rw [cxs_len] at o ⊢; exact o, s.okup'⟩
    by_cases v : 16 ≤ hd S
    · obtain ⟨j, hj, rfl⟩ := hd_is_var o v
      have tA : tok (cxs Δ Γ0 (tAll B C), tVar j, tVar Γ0.length) := ⟨s.o1, o, ok_var (SGc.k_lt _)⟩
      have ek : j ≠ Γ0.length := by
        intro ek
        subst ek
        rw [bel_veq tA v rfl] at hb
        exact absurd hb (by decide)
      have e0 : ∀ X : Ty, hd (upb Γ0 Δ (tAll B X)) ≠ 0 := fun X => by rw [upb_all, hd_all]; omega
      have e1 : ∀ X : Ty, 16 + j ≠ hd (upb Γ0 Δ (tAll B X)) := fun X => by rw [upb_all, hd_all]; omega
      rw [bel_var t1 (e0 C) (e1 C), bel_var t2 (e0 C') (e1 C')]
      obtain ⟨x1, x2⟩ := s.ex hj ek
      rw [← x1]
      refine bel_sgR n Δ _ s (ok_expose s.o1 hj) ?_ x2 ?_
      · rw [wt_expose s.o1 hj]
        rw [wt_var] at hn
        omega
      · rw [bel_var tA (by rw [hd_var]; omega) (by rw [hd_var]; omega)] at hb
        exact hb
    · rw [bel_eq t1, bel_eq t2, upb_all, upb_all, s.stpR _ _ o nS v, s.stpR _ _ o nS v]
      exact ⟨rfl, rfl⟩
end PmK4
