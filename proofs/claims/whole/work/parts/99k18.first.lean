/-! FIRST USE: what a type may be worth by its characters and those of the bounds around. -/
section PmKk
variable {F G : FrT} {X : List Nat} {t0 fn s2 hv r0 r1 r2 r3 x0 : Nat} {n1 h : Nat → Nat}
theorem fxc_mono (h1 : fxc F X hv x0 = true) {c : Nat} (hc : c < 56) : X.getD c 0 ≤ X.getD (c + 1) 0 := by
  unfold fxc at h1
  rw [Bool.and_eq_true] at h1
  have q := rng_all h1.2 (i := c) hc
  rw [Bool.and_eq_true, decide_eq_true_iff] at q
  exact q.1
theorem fxc_le (h1 : fxc F X hv x0 = true) : ∀ {c d : Nat}, c ≤ d → d ≤ 56 → X.getD c 0 ≤ X.getD d 0
  | c, 0, h2, _ => by rw [show c = 0 by omega]; exact Nat.le_refl _
  | c, d + 1, h2, h3 => by
    by_cases e : c = d + 1
    · rw [e]; exact Nat.le_refl _
    · have := fxc_le h1 (c := c) (d := d) (by omega) (by omega)
      have := fxc_mono h1 (c := d) (by omega)
      omega
theorem fxc_x0 (h1 : fxc F X hv x0 = true) {c : Nat} (hc : c ≤ 56) : x0 ≤ X.getD c 0 := by
  have h0 := fxc_le h1 (Nat.zero_le c) hc
  unfold fxc at h1
  rw [Bool.and_eq_true, decide_eq_true_iff] at h1
  omega
theorem fxc_step (h1 : fxc F X hv x0 = true) {c k : Nat} (k1 : 1 ≤ k) (hk : k + 4 ≤ c) (hc : c ≤ 56) {p : Nat × Nat} (hp : p ∈ frg F k) : hv + p.2 + p.1 * X.getD (c - 4 - k) 0 ≤ X.getD c 0 := by
  unfold fxc at h1
  rw [Bool.and_eq_true] at h1
  have q := rng_all h1.2 (i := c - 1) (by omega)
  rw [Bool.and_eq_true] at q
  have q := List.all_eq_true.mp (rng_all q.2 (i := k - 1) (by omega)) p (by rw [show k - 1 + 1 = k by omega]; exact hp)
  rw [decide_eq_true_iff, show c - 1 + 1 = c by omega, show k - 1 + 1 = k by omega] at q
  exact q
/-- the variables around -/
theorem onz_chars (hc : frc F G t0 fn s2 hv r0 r1 r2 r3 = true) (hx : fxc F X hv x0 = true) (H : ∀ y x, x0 ≤ x → h y ≤ hv + max y x) (hf1 : n1 1 ≤ fn) (hr : ∀ m, m < 8 → n1 (8 + m) ≤ (if nlb m = 0 then r0 else if nlb m = 1 then r1 else if nlb m = 2 then r2 else r3)) : ∀ (Γ : List Ty), okc Γ → cch Γ ≤ 56 → ∀ j, j < Γ.length → vw (onz t0 n1 s2 h Γ) j ≤ X.getD (cch Γ) 0
  | [], _, _, j, hj => absurd hj (Nat.not_lt_zero _)
  | a :: Γ, ho, hk, j, hj => by
    have ec : cch (a :: Γ) = (tch a + 4) + cch Γ := rfl
    have pa := tch_pos ho.1
    have ih := onz_chars hc hx H hf1 hr Γ ho.2 (by omega)
    have l1 := onz_len t0 n1 s2 h Γ
    show vw (h (nz t0 n1 s2 h (onz t0 n1 s2 h Γ) a) :: onz t0 n1 s2 h Γ) j ≤ _
    rw [vw_cons, l1]
    by_cases ej : j = Γ.length
    · rw [if_pos ej]
      obtain ⟨p, hp, fp⟩ := fr_form hc H hf1 hr _ a Γ.length (Nat.le_refl _) ho.1 (by omega)
      have x1 := fxc_x0 hx (c := cch Γ) (by omega)
      have q := fp (X.getD (cch Γ) 0) (onz t0 n1 s2 h Γ) x1 (fun i hi => ih i (by rw [l1] at hi; exact hi)) (by rw [l1]; exact ho.1)
      have q2 := H (nz t0 n1 s2 h (onz t0 n1 s2 h Γ) a) (X.getD (cch Γ) 0) x1
      have q3 := fxc_step hx pa (c := cch (a :: Γ)) (by omega) hk hp
      rw [show cch (a :: Γ) - 4 - tch a = cch Γ by omega] at q3
      have q4 := fxc_step hx (k := 1) (c := cch (a :: Γ)) (by decide) (by omega) hk (p := p)
      have q5 := fxc_le hx (c := cch Γ) (d := cch (a :: Γ)) (by omega) hk
      by_cases e0 : X.getD (cch Γ) 0 ≤ p.2 + p.1 * X.getD (cch Γ) 0
      · omega
      · -- a is worth less than the heaviest around: a variable of one character is no less
        obtain ⟨v, hv', v1, v2⟩ := dom_ex (frc_0 hc (k := tch a) pa (by omega)).2.1
        have q6 := fxc_step hx pa (c := cch (a :: Γ)) (by omega) hk hv'
        rw [show cch (a :: Γ) - 4 - tch a = cch Γ by omega] at q6
        have := Nat.mul_le_mul_right (X.getD (cch Γ) 0) v1
        omega
    · rw [if_neg ej]
      have := ih j (by simp only [List.length_cons] at hj; omega)
      have := fxc_le hx (c := cch Γ) (d := cch (a :: Γ)) (by omega) hk
      omega
/-- what a type is worth -/
theorem nz_chars (hc : frc F G t0 fn s2 hv r0 r1 r2 r3 = true) (hx : fxc F X hv x0 = true) (H : ∀ y x, x0 ≤ x → h y ≤ hv + max y x) (hf1 : n1 1 ≤ fn) (hr : ∀ m, m < 8 → n1 (8 + m) ≤ (if nlb m = 0 then r0 else if nlb m = 1 then r1 else if nlb m = 2 then r2 else r3)) {Γ : List Ty} {t : Ty} (ho : okc Γ) (o : ok Γ.length t = true) (k1 : cch Γ ≤ 56) (k2 : tch t ≤ 56) : ∃ p ∈ frg F (tch t), nz t0 n1 s2 h (onz t0 n1 s2 h Γ) t ≤ p.2 + p.1 * X.getD (cch Γ) 0 := by
  obtain ⟨p, hp, fp⟩ := fr_form hc H hf1 hr _ t Γ.length (Nat.le_refl _) o k2
  have l1 := onz_len t0 n1 s2 h Γ
  exact ⟨p, hp, fp _ _ (fxc_x0 hx k1) (fun j hj => onz_chars hc hx H hf1 hr Γ ho k1 j (by rw [l1] at hj; exact hj)) (by rw [l1]; exact o)⟩
end PmKk
/-- a table of what types are worth, while all has at most so many characters -/
def fvc (F : FrT) (X : List Nat) (N B : Nat) : Bool := (List.range N).all (fun k => (List.range (N - k)).all (fun c => (frg F (k + 1)).all (fun p => decide (p.2 + p.1 * X.getD c 0 ≤ B))))
theorem fvc_le {F : FrT} {X : List Nat} {N B : Nat} (h : fvc F X N B = true) {k c : Nat} (k1 : 1 ≤ k) (hk : k + c ≤ N) {p : Nat × Nat} (hp : p ∈ frg F k) : p.2 + p.1 * X.getD c 0 ≤ B := by
  unfold fvc at h
  have q := List.all_eq_true.mp (rng_all (rng_all h (i := k - 1) (by omega)) (i := c) (by omega)) p (by rw [show k - 1 + 1 = k by omega]; exact hp)
  rw [decide_eq_true_iff] at q
  exact q
theorem fv1_ok : fvc fr1 fx1 56 724 = true := by decide +kernel
theorem fv2_ok : fvc fr2 fx2 51 887 = true := by decide +kernel
theorem fv3_ok : fvc fr3 fx3 46 887 = true := by decide +kernel
theorem fvq_ok : fvc frq fxq 56 556 = true := by decide +kernel
theorem vlr_H (b : Bool) (e : Nat) : ∀ y x, e ≤ x → vlr b e y ≤ 1 + max y x := by
  intro y x hx
  unfold vlr
  split <;> omega
theorem ngc_r : ∀ m, m < 8 → ngc (8 + m) ≤ (if nlb m = 0 then 1 else if nlb m = 1 then 3 else if nlb m = 2 then 2 else 1) := by decide
/-- rows, where no variable stands for a variable -/
theorem rows_first {b : Bool} {Γ : List Ty} {t : Ty} (ho : okc Γ) (o : ok Γ.length t = true) (hk : tch t + cch Γ ≤ 56) : nz 0 (fun _ => 1 + 1) (2 + 1) (vlr b 1) (onz 0 (fun _ => 1 + 1) (2 + 1) (vlr b 1) Γ) t ≤ 724 := by
  have p1 := tch_pos o
  obtain ⟨p, hp, q⟩ := nz_chars (t0 := 0) (n1 := fun _ => 1 + 1) (h := vlr b 1) fr1_ok fx1_ok (vlr_H b 1) (Nat.le_refl _) (fun m _ => by by_cases h0 : nlb m = 0 <;> by_cases h1 : nlb m = 1 <;> by_cases h2 : nlb m = 2 <;> simp [h0, h1, h2]) ho o (by omega) (by omega)
  exact Nat.le_trans q (fvc_le fv1_ok p1 hk hp)
theorem goals_first {Γ : List Ty} {t : Ty} (ho : okc Γ) (o : ok Γ.length t = true) (hk : tch t + cch Γ ≤ 56) : nz 1 ngc 1 (fun x => x) (onz 1 ngc 1 (fun x => x) Γ) t ≤ 556 := by
  have p1 := tch_pos o
  obtain ⟨p, hp, q⟩ := nz_chars (t0 := 1) (n1 := ngc) (h := fun x => x) frq_ok fxq_ok (fun y x _ => by omega) (Nat.le_refl _) ngc_r ho o (by omega) (by omega)
  exact Nat.le_trans q (fvc_le fvq_ok p1 hk hp)
