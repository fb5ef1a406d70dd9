/-! EVERY CONTEXT has a scheme with the longest body, or none that operations reach. -/
theorem IS2_body {d k : Nat} {b b' B C : Ty} (o : ok d b = true) (h : DSp d (tAll B C) b' b) (hk : tch C ≤ k) : IS2 (fun s => ∀ B' C', s = tAll B' C' → tch C' ≤ k) b := by
  refine IS2_okt _ d b (Nat.le_refl _) o (fun s _ _ _ p => fun B' C' es => ?_) h.2.2.2.2
  rcases p with p | p
  · rw [es] at p
    have e2 : C' = C := congrArg k2 p
    rw [e2]; exact hk
  · have q := p.2.1
    rw [es] at q
    have q : tch C' ≤ tch C := q
    omega
theorem IS2_none {d k : Nat} {b : Ty} (o : ok d b = true) (h : IS2 (fun _ => False) b) : IS2 (fun s => ∀ B' C', s = tAll B' C' → tch C' ≤ k) b := IS2_okt _ d b (Nat.le_refl _) o (fun _ _ _ _ p => p.elim) h
theorem IS2_up {d k k' : Nat} {b : Ty} (o : ok d b = true) (hk : k ≤ k') (h : IS2 (fun s => ∀ B' C', s = tAll B' C' → tch C' ≤ k) b) : IS2 (fun s => ∀ B' C', s = tAll B' C' → tch C' ≤ k') b := IS2_okt _ d b (Nat.le_refl _) o (fun _ _ _ _ p => fun B' C' es => Nat.le_trans (p B' C' es) hk) h
theorem top_one {d : Nat} {B C : Ty} (o : ok d (tAll B C) = true) (n : noal (tAll B C) = true) (h : tch B = 1) : B = tTop := by
  rw [noal_all, Bool.and_eq_true, decide_eq_true_iff] at n
  have oB := (ok_all.mp o).1
  rcases ok_cases oB with e | ⟨j, hj, e⟩ | ⟨a, c, e, -, -⟩ | ⟨a, c, e, -, -⟩ | ⟨m, x, y, z, hm, e, -, -, -⟩
  · exact e
  · rw [e, hd_var] at n; omega
  · rw [e, tch_fun] at h; omega
  · rw [e, tch_all] at h; omega
  · rw [e, tch_rec] at h
    unfold rch at h
    split at h
    · omega
    · have n1 : nlb m = 0 := by omega
      exfalso
      rename_i g
      rcases (show m = 0 ∨ m = 1 ∨ m = 2 ∨ m = 3 ∨ m = 4 ∨ m = 5 ∨ m = 6 ∨ m = 7 by omega) with rfl | rfl | rfl | rfl | rfl | rfl | rfl | rfl
      · exact g rfl
      all_goals exact absurd n1 (by decide)
theorem lb_ex : ∀ (Γ : List Ty), okc Γ → (∀ a ∈ Γ, noal a = true) → cch Γ ≤ 47 → (∀ a ∈ Γ, IS2 (fun _ => False) a) ∨ ∃ (Δ1 Γ0 : List Ty) (b b' B C : Ty), Γ = cxs Δ1 Γ0 b ∧ LBd Γ0 Δ1 b b' B C
  | [], _, _, _ => Or.inl (fun a ha => by cases ha)
  | a :: Γ, hc, hn, h47 => by
    have ec : cch (a :: Γ) = (tch a + 4) + cch Γ := rfl
    have pick := ds_pick _ Γ.length a (Nat.le_refl _) hc.1
    have na := hn a List.mem_cons_self
    have new : ∀ (B C b' : Ty), DSp Γ.length (tAll B C) b' a → DSx (tAll B C) b' a → (∀ x ∈ Γ, IS2 (fun s => ∀ B' C', s = tAll B' C' → tch C' ≤ tch C) x) → ∃ (Δ1 Γ0 : List Ty) (b b' B C : Ty), a :: Γ = cxs Δ1 Γ0 b ∧ LBd Γ0 Δ1 b b' B C := by
      intro B C b' q qx hx
      have qc := q.ch
      have e1 := tch_all B C
      exact ⟨[], Γ, a, b', B, C, rfl, q, fun e => qx.1 e.symm, top_one q.2.1 (qx.2 na), by omega, hx, fun x hx => by cases hx⟩
    rcases lb_ex Γ hc.2 (fun x hx => hn x (List.mem_cons_of_mem _ hx)) (by omega) with ih | ⟨Δ1, Γ0, b, b', B, C, e, l1, l2, l3, l4, l5, l6⟩
    · rcases pick with p | ⟨B, C, b', q, qx⟩
      · refine Or.inl (fun x hx => ?_)
        rcases List.mem_cons.mp hx with rfl | hx
        · exact p
        · exact ih x hx
      · exact Or.inr (new B C b' q qx (fun x hx => by
          obtain ⟨d, o1, -⟩ := okc_mch hc.2 hx
          exact IS2_none o1 (ih x hx)))
    · have old : IS2 (fun s => ∀ B' C', s = tAll B' C' → tch C' ≤ tch C) a → ∃ (Δ1 Γ0 : List Ty) (b b' B C : Ty), a :: Γ = cxs Δ1 Γ0 b ∧ LBd Γ0 Δ1 b b' B C := by
        intro hi
        refine ⟨a :: Δ1, Γ0, b, b', B, C, by rw [e]; rfl, l1, l2, l3, l4, l5, fun x hx => ?_⟩
        rcases List.mem_cons.mp hx with rfl | hx
        · exact hi
        · exact l6 x hx
      rcases pick with p | ⟨B9, C9, b9, q, qx⟩
      · exact Or.inr (old (IS2_none hc.1 p))
      · by_cases c : tch C9 ≤ tch C
        · exact Or.inr (old (IS2_body hc.1 q c))
        · refine Or.inr (new B9 C9 b9 q qx (fun x hx => ?_))
          obtain ⟨d, o1, -⟩ := okc_mch hc.2 hx
          have hx' : x ∈ Δ1 ++ b :: Γ0 := by rw [e] at hx; exact hx
          rcases List.mem_append.mp hx' with hx' | hx'
          · exact IS2_up o1 (by omega) (l6 x hx')
          · rcases List.mem_cons.mp hx' with rfl | hx'
            · have ob : ok Γ0.length x = true := by
                have hc2 := hc.2
                rw [e] at hc2
                exact (okc_low Δ1 hc2).2
              exact IS2_body ob l1 (by omega)
            · exact IS2_up o1 (by omega) (l5 x hx')
