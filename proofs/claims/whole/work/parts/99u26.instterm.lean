/-! TWO TERMS THAT ARE INSTANCES OF ONE SCHEME: their join. -/
section PmVa
variable {G f : Nat} {x y t A : Ty} {Γ : List Ty} {Δ : List (Nat × Ty × Nat)}
/-- the type of an instance -/
theorem tyF_is9 (w : TWf (f + 1) Γ.length (Δ.map (fun a => a.1)) t) (he : TE Γ Δ) (c9 : nKd t = 9) (e0 : tyF (f + 1) t Γ Δ = .inr A) : ∃ S a b, tyF f (nX t) Γ Δ = .inr S ∧ expo Γ Γ.length S = tAll a b ∧ A = sbt Γ.length (nY t) 0 b ∧ ok (Γ.length + 1) b = true ∧ ok Γ.length (nY t) = true ∧ (flat b).length ≤ 16 := by
  obtain ⟨w0, w5, w6, w7, w8, w9, w10, w11, w12⟩ := w
  unfold tyF at e0
  rw [if_neg (by omega), if_neg (by omega), if_neg (by omega), if_neg (by omega), if_pos c9] at e0
  obtain ⟨S, hS, h1⟩ := tbd_in e0
  obtain ⟨e, l⟩ := tyO_in h1
  obtain ⟨x1, x2, x3⟩ := w9 c9
  obtain ⟨s1, s2'⟩ := tyF_ok f _ _ _ _ x1 he hS
  obtain ⟨o1, o2⟩ := expo_ok he.1 he.2.1 Γ.length S s1 s2'
  unfold tyI at e
  by_cases c : hd (expo Γ Γ.length S) = 2 ∧ bel Γ (nY t) (k1 (expo Γ Γ.length S)) = true
  · rw [if_pos c] at e
    injection e with e
    subst e
    obtain ⟨a, b, e2, ha, hb⟩ := hd_is_all o1 c.1
    refine ⟨S, a, b, hS, e2, ?_, hb, x2, ?_⟩
    · rw [e2]; rfl
    · rw [e2, flat_all, List.length_cons, List.length_append] at o2
      omega
  · rw [if_neg c] at e; cases e
/-- a join of two instances of one scheme, the arguments being the same or one of them worth at most 37 -/
theorem LJ_two (G16 : 16 ≤ G) (G37 : G ≤ 37) (w1 : TWf (f + 1) Γ.length (Δ.map (fun a => a.1)) x) (w2 : TWf (f + 1) Γ.length (Δ.map (fun a => a.1)) y) (he : TE Γ Δ) (y1 : NAt (f + 1) x) (y2 : NAt (f + 1) y) (hv : noac Γ) (hd' : ∀ a ∈ Δ, noal a.2.1 = true) (hx : cch Γ ≤ 56) (k1 : nKd x = 9) (k2 : nKd y = 9) (hs : ∀ X Y, tyF f (nX x) Γ Δ = .inr X → tyF f (nX y) Γ Δ = .inr Y → expo Γ Γ.length X = expo Γ Γ.length Y) (hp : (flat (nY x)).length ≤ 16 ∧ (flat (nY y)).length ≤ 16 ∧ (Sml G Γ (nY x) ∨ Sml G Γ (nY y) ∨ nY x = nY y ∨ VK Γ (nY x) (nY y) ∨ VK Γ (nY y) (nY x))) : ∀ S T, tyF (f + 1) x Γ Δ = .inr S → tyF (f + 1) y Γ Δ = .inr T → LJ Γ S T := by
  intro S T hS hT
  obtain ⟨⟨tb, lS, lT⟩, -⟩ := pair_two w1 w2 he y1 y2 hv hd' hS hT
  obtain ⟨X, a, b, e1, e2, e3, o1, o2, l1⟩ := tyF_is9 w1 he k1 hS
  obtain ⟨Y, a', b', e1', e2', e3', o1', o2', l1'⟩ := tyF_is9 w2 he k2 hT
  have e := hs X Y e1 e1'
  rw [e2, e2'] at e
  obtain ⟨-, eb⟩ := all_inj e
  obtain ⟨p1, p2, p3⟩ := hp
  rw [e3, e3', ← eb] at tb
  rw [e3] at lS
  rw [e3', ← eb] at lT
  rw [e3, e3', ← eb]
  exact LJ_inst G16 G37 ⟨⟨o2, o2', p1⟩, p2, p3⟩ o1 l1 tb hx lS lT
end PmVa
