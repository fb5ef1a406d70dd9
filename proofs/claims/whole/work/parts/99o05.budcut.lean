/-! EVERY TERM IN A CONTEXT THAT IS CUT, BY CHARACTERS. -/
section PmO4
variable {N t0 fn s2 hv r0 r1 r2 r3 x0 E p : Nat} {n1 h : Nat → Nat} {P Q : List (List Nat)} {F G : FrT} {X : List Nat} {Z : Nat → Nat}
/-- what is exposed: an instance, or no more than a binder of cd characters -/
def EBk (X : List Nat) (E p t0 : Nat) (n1 : Nat → Nat) (s2 : Nat) (h : Nat → Nat) (cv cd : Nat) (ω : List Nat) (Γ : List Ty) : Prop := ∀ c z, cv ≤ c → c + cd ≤ 56 → z ≤ X.getD c 0 → eb1 t0 n1 s2 h ω Γ z ≤ max (E + p * z) (X.getD (c + cd) 0) ∧ eb7 t0 n1 s2 h ω Γ z ≤ X.getD (c + cd) 0
theorem EBk.ext (hm : ∀ y y', y ≤ y' → h y ≤ h y') (T : TBs N t0 fn s2 hv r0 r1 r2 r3 x0 n1 h P Q F G X) {cv cd w : Nat} {ω : List Nat} {Γ : List Ty} {A : Ty} (b : EBk X E p t0 n1 s2 h cv cd ω Γ) (hl : ω.length = Γ.length) (o : ok Γ.length A = true) (hw : ∀ j, j < ω.length → vw ω j ≤ X.getD cv 0) (hA : tch A + 4 ≤ cd) : EBk X E p t0 n1 s2 h (cv + tch A + 4) cd (w :: ω) (A :: Γ) := by
  intro c z a1 a2 a3
  have q := b c z (by omega) a2 a3
  have oA : ok ω.length A = true := by rw [hl]; exact o
  have hw' : ∀ j, j < ω.length → vw ω j ≤ X.getD c 0 := fun j hj => Nat.le_trans (hw j hj) (fxc_le T.2.1 (by omega) (by omega))
  have u := (val_up (z := z) (cv := c) (c := c + cd) T (A := A) oA (by omega) (by omega) hw' a3).1
  have u1 := nz1_le (t0 := t0) (n1 := n1) (s2 := s2) hm z _ A ω (Nat.le_refl _) oA
  refine ⟨?_, ?_⟩
  · show max (nz1 t0 n1 s2 h z ω A) (eb1 t0 n1 s2 h ω Γ z) ≤ _
    omega
  · show max (if hd A = 2 then 0 else nz1 t0 n1 s2 h z ω A) (eb7 t0 n1 s2 h ω Γ z) ≤ _
    split <;> omega
end PmO4
