/-! TERMS IN THE ZONE, by nature: all terms without a choice under an operation. -/
theorem cch_q5 : ∀ {Γ : List Ty}, okc Γ → q5 (cch Γ) = true
  | [], _ => rfl
  | a :: Γ, hc => by
    have := tch_pos hc.1
    unfold q5
    rw [Bool.or_eq_true]
    exact Or.inr (Nat.ble_eq_true_of_le (by show 5 ≤ (tch a + 4) + cch Γ; omega))
theorem cxs_q5 {Γ0 : List Ty} {β : Ty} : ∀ {Δ1 : List Ty}, okc (cxs Δ1 Γ0 β) → q5 (cch Δ1) = true
  | [], _ => rfl
  | a :: Δ1, hc => by
    have := tch_pos (show ok (cxs Δ1 Γ0 β).length a = true from hc.1)
    unfold q5
    rw [Bool.or_eq_true]
    exact Or.inr (Nat.ble_eq_true_of_le (by show 5 ≤ (tch a + 4) + cch Δ1; omega))
/-- no choice under an operation; binders of types around instances only where the term is short -/
def smq (f : Nat) (t : Ty) : Prop := COk f t 0 ∧ 3 ≤ mch t ∧ mch t ≤ 15 ∧ (hasq f t = true → g3k f t + 3 ≤ mch t ∧ (mch t ≤ 11 ∨ g3k f t = 0))
def lnkb (L : LnT) : Bool := L.all (fun l => l.all (fun s => Nat.ble s.2.2.2.2.2 50))
theorem lnk {L : LnT} (h : lnkb L = true) {c : Nat} {s : Nat × Nat × Nat × Nat × Nat × Nat} (hs : s ∈ lng L c) : s.2.2.2.2.2 ≤ 50 := by
  unfold lng at hs
  rw [List.getD_eq_getElem?_getD] at hs
  cases e : L[c]? with
  | none =>
    rw [e] at hs
    cases hs
  | some l =>
    rw [e] at hs
    have hl : l ∈ L := List.mem_of_getElem? e
    unfold lnkb at h
    exact Nat.le_of_ble_eq_true (List.all_eq_true.mp (List.all_eq_true.mp h l hl) s hs)
section PmWg
variable {L : LnT} {XR W : FrT} {X : List Nat} {hv s2 wB k q1 q2 : Nat} {o : Bool}
theorem lna_get {a b : Nat} (h : lna L XR W X hv s2 wB o a b = true) (ka : a ≤ k) (kb : k < b) (hz : znw o k q1 q2 = true) (k1 : 1 ≤ k) (z1 : q5 q1 = true) (z2 : q5 q2 = true) (hc : 9 + k + q1 + q2 ≤ 47) : lnz L XR W X hv s2 wB k q1 q2 (zow o k q1 q2) = true := by
  have hz' := hz
  unfold znw at hz'
  rw [Bool.and_eq_true] at hz'
  have a1 := Nat.le_of_ble_eq_true hz'.1
  unfold lna at h
  have qk := rng_all h (i := k) kb
  rw [Bool.or_eq_true] at qk
  rcases qk with qk | qk
  · exact (blt_no ka qk).elim
  have q0 := rng_all qk (i := q1) (by omega)
  rw [z1, Bool.not_true, Bool.false_or] at q0
  have q := rng_all q0 (i := q2) (by omega)
  rw [z2, Bool.not_true, Bool.false_or, Bool.or_eq_true, Bool.or_eq_true, Bool.or_eq_true] at q
  rcases q with q | q | q | q
  · exact (blt_no hc q).elim
  · rw [hz] at q; cases q
  · have := Nat.eq_of_beq_eq_true q
    omega
  · exact q
theorem lnz_get {ob p : Nat} {v e : Nat × Nat} (h : lnz L XR W X hv s2 wB k q1 q2 ob = true) (hv' : v ∈ frg XR k) (hp : p ≤ v.1) (he : e ∈ frg W q2) : ∃ s ∈ lng L (9 + k + q1 + q2), e.2 + e.1 * max (max 1 (X.getD q1 0)) (hv + (s2 + (v.2 + (v.1 - p) * max 1 (X.getD q1 0) + p * wB))) ≤ s.1 ∧ v.2 + (v.1 - p) * max 1 (X.getD q1 0) ≤ s.2.2.1 ∧ p ≤ s.2.2.2.1 ∧ ob ≤ s.2.2.2.2.1 ∧ k ≤ s.2.2.2.2.2 := by
  unfold lnz at h
  have q := List.all_eq_true.mp (rng_all (List.all_eq_true.mp h v hv') (i := p) (by omega)) e he
  rw [List.any_eq_true] at q
  obtain ⟨s, hs, q⟩ := q
  rw [Bool.and_eq_true, Bool.and_eq_true, Bool.and_eq_true, Bool.and_eq_true] at q
  exact ⟨s, hs, Nat.le_of_ble_eq_true q.1, Nat.le_of_ble_eq_true q.2.1, Nat.le_of_ble_eq_true q.2.2.1, Nat.le_of_ble_eq_true q.2.2.2.1, Nat.le_of_ble_eq_true q.2.2.2.2⟩
end PmWg
