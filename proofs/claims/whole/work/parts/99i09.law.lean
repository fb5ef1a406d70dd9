/-! THE LAW, under the limits. -/
section PmI9
variable {σ : pm_S}
def Mof (σ : pm_S) : pm_M := fun p i => (σ.1 p i.toNat).toInt
theorem fr_eq (h : pm_Fresh σ) : σ = (zM (Mof σ), σ.2.1, σ.2.2.1, σ.2.2.2.1, 99, 88622) := by
  obtain ⟨I, Rf, K, L, n, s⟩ := σ
  have e : I = zM (Mof (I, Rf, K, L, n, s)) := by
    funext p k
    show I p k = zI (I p (k : Int).toNat).toInt
    rw [Int.toNat_natCast, zI_of]
  have h1 : n = 99 := h.2.1
  have h2 : s = 88622 := h.2.2.1
  rw [← e]
  show (I, Rf, K, L, n, s) = (I, Rf, K, L, 99, 88622)
  rw [h1, h2]
theorem fr_i {p k : Nat} {v : Int32} (h : pm_Fresh σ) (m : (p, k, v) ∈ pm_IT) : Mof σ p (k : Int) = v.toInt := by
  show (σ.1 p (k : Int).toNat).toInt = _
  rw [Int.toNat_natCast, h.2.2.2.2 _ m]
theorem fr_r {p k v : Nat} (h : pm_Fresh σ) (m : (p, k, v) ∈ pm_RD) : σ.2.1 p k = v := h.2.2.2.1 _ m
def ndck (σ : pm_S) : Bool := decide (σ.1 7 0 = 0) && (decide (σ.1 8 0 = 0) && (decide (σ.1 9 0 = 0) && (decide (σ.1 10 0 = 0) && decide (σ.1 11 0 = 1))))
theorem nd_of (h : ndck σ = true) : Mof σ 7 0 = 0 ∧ Mof σ 8 0 = 0 ∧ Mof σ 9 0 = 0 ∧ Mof σ 10 0 = 0 ∧ Mof σ 11 0 = 1 := by
  unfold ndck at h
  simp only [Bool.and_eq_true, decide_eq_true_eq] at h
  obtain ⟨h0, h1, h2, h3, h4⟩ := h
  refine ⟨?_, ?_, ?_, ?_, ?_⟩
  · show (σ.1 7 0).toInt = 0
    rw [h0]; rfl
  · show (σ.1 8 0).toInt = 0
    rw [h1]; rfl
  · show (σ.1 9 0).toInt = 0
    rw [h2]; rfl
  · show (σ.1 10 0).toInt = 0
    rw [h3]; rfl
  · show (σ.1 11 0).toInt = 1
    rw [h4]; rfl
theorem lt4 {P : Nat → Prop} (h0 : P 0) (h1 : P 1) (h2 : P 2) (h3 : P 3) : ∀ f, f < 4 → P f := by
  intro f hf
  rcases (show f = 0 ∨ f = 1 ∨ f = 2 ∨ f = 3 by omega) with rfl | rfl | rfl | rfl
  · exact h0
  · exact h1
  · exact h2
  · exact h3
theorem lt5 {P : Nat → Prop} (h0 : P 0) (h1 : P 1) (h2 : P 2) (h3 : P 3) (h4 : P 4) : ∀ f, f < 5 → P f := by
  intro f hf
  rcases (show f = 0 ∨ f = 1 ∨ f = 2 ∨ f = 3 ∨ f = 4 by omega) with rfl | rfl | rfl | rfl | rfl
  · exact h0
  · exact h1
  · exact h2
  · exact h3
  · exact h4
theorem fr_6 (h : pm_Fresh σ) : ∀ f, f < 5 → σ.2.1 6 f = 7 + f := lt5 (fr_r h (by decide +kernel)) (fr_r h (by decide +kernel)) (fr_r h (by decide +kernel)) (fr_r h (by decide +kernel)) (fr_r h (by decide +kernel))
theorem fr_43 (h : pm_Fresh σ) : ∀ f, f < 4 → σ.2.1 43 f = 44 + f := lt4 (fr_r h (by decide +kernel)) (fr_r h (by decide +kernel)) (fr_r h (by decide +kernel)) (fr_r h (by decide +kernel))
theorem fr_51 (h : pm_Fresh σ) : ∀ f, f < 4 → σ.2.1 51 f = 52 + f := lt4 (fr_r h (by decide +kernel)) (fr_r h (by decide +kernel)) (fr_r h (by decide +kernel)) (fr_r h (by decide +kernel))
theorem fr_G (h : pm_Fresh σ) : pm_G σ.2.1 σ.2.2.1 σ.2.2.2.1 99 := by
  have g := h.1
  rw [h.2.1] at g
  exact g
theorem fr_ib (h : pm_Fresh σ) : IB σ.2.1 σ.2.2.1 σ.2.2.2.1 99 88622 23 16 16 64 8 16 := by
  have hG := fr_G h
  have s4_6 := fr_6 h
  have s4_43 := fr_43 h
  have s4_51 := fr_51 h
  refine ⟨⟨hG, ⟨fun f hf => ?_, fun f hf => Or.inl ?_, fun f g hf hg e => ?_, by decide, by decide, Or.inl (Or.inl rfl)⟩, ⟨fun f hf => ?_, fun f hf => Or.inl ?_, fun f g hf hg e => ?_, by decide, by decide, Or.inl (Or.inr (Or.inl rfl))⟩, ⟨fun f hf => ?_, fun f hf => Or.inl (s4_6 f hf), fun f g hf hg e => ?_, by decide, by decide⟩, ⟨fun f g hf hg => ?_, fun f g hf hg => ?_⟩, fr_r h (by decide +kernel), Or.inl rfl⟩, Or.inr ⟨rfl, rfl⟩, fr_r h (by decide +kernel), fr_r h (by decide +kernel), by decide, by decide⟩
  · rw [s4_43 f hf]
    revert f
    exact lt4 (hG.a (by decide) rfl rfl) (hG.a (by decide) rfl rfl) (hG.a (by decide) rfl rfl) (hG.a (by decide) rfl rfl)
  · rw [s4_43 f hf]
  · rw [s4_43 f hf, s4_43 g hg] at e; omega
  · rw [s4_51 f hf]
    revert f
    exact lt4 (hG.a (by decide) rfl rfl) (hG.a (by decide) rfl rfl) (hG.a (by decide) rfl rfl) (hG.a (by decide) rfl rfl)
  · rw [s4_51 f hf]
  · rw [s4_51 f hf, s4_51 g hg] at e; omega
  · rw [s4_6 f hf]
    revert f
    exact lt5 (hG.a (by decide) rfl rfl) (hG.a (by decide) rfl rfl) (hG.a (by decide) rfl rfl) (hG.a (by decide) rfl rfl) (hG.a (by decide) rfl rfl)
  · rw [s4_6 f hf, s4_6 g hg] at e; omega
  · rw [s4_43 f hf, s4_51 g hg]; omega
  · rw [s4_6 f hf, s4_43 g hg, s4_51 g hg]; omega
theorem fr_inv (h : pm_Fresh σ) (hn : ndck σ = true) : Inv σ := by
  obtain ⟨n0, n1, n2, n3, n4⟩ := nd_of hn
  have s4_6 := fr_6 h
  refine ⟨Mof σ, σ.2.1, σ.2.2.1, σ.2.2.2.1, 99, 88622, 23, 16, 16, 64, 8, 16, 0, fun _ => 0, fun _ => none, [], fr_eq h, fr_ib h, fun p i => R32_of _, ⟨⟨by omega, by omega, ?_, ?_, fun g hg => ?_⟩, fun g hg h => ?_⟩, ⟨fr_i (p := 1) (k := 8) (v := 0) h (by decide +kernel), by omega, fun i hi => absurd hi (by omega)⟩, ⟨fr_i (p := 56) (k := 0) (v := 0) h (by decide +kernel), by omega, fun i hi => absurd hi (by omega)⟩, ?_, fun i i0 i3 => ?_, ⟨fr_i (p := 13) (k := 2) (v := 0) h (by decide +kernel), by decide, fun i hi => absurd hi (Nat.not_lt_zero _)⟩, ⟨fr_i (p := 56) (k := 2) (v := 0) h (by decide +kernel), fun i hi => absurd hi (Nat.not_lt_zero _)⟩, Or.inl ⟨fr_i (p := 1) (k := 11) (v := 0) h (by decide +kernel), fr_i (p := 56) (k := 4) (v := 0) h (by decide +kernel), fr_i (p := 1) (k := 13) (v := 0) h (by decide +kernel), fr_i (p := 56) (k := 43) (v := 0) h (by decide +kernel), Or.inl (fr_i (p := 56) (k := 44) (v := 0) h (by decide +kernel))⟩⟩
  · rw [s4_6 0 (by decide)]; exact n0
  · rw [s4_6 4 (by decide)]; exact n4
  · rw [s4_6 (1 + g) (by omega)]
    rcases (show g = 0 ∨ g = 1 ∨ g = 2 by omega) with rfl | rfl | rfl
    · rw [show 7 + (1 + 0) = 8 from rfl, n1]; omega
    · rw [show 7 + (1 + 1) = 9 from rfl, n2]; omega
    · rw [show 7 + (1 + 2) = 10 from rfl, n3]; omega
  · rw [hp_top g hg] at h; cases h
  · exact lt4 (fr_i (p := 30) (k := 1) (v := 0) h (by decide +kernel)) (fr_i (p := 32) (k := 1) (v := 0) h (by decide +kernel)) (fr_i (p := 34) (k := 1) (v := 0) h (by decide +kernel)) (fr_i (p := 36) (k := 1) (v := 0) h (by decide +kernel))
  · rcases (show i = 0 ∨ i = 1 ∨ i = 2 ∨ i = 3 by omega) with rfl | rfl | rfl | rfl
    · exact fr_i (p := 72) (k := 0) (v := 0) h (by decide +kernel)
    · exact fr_i (p := 72) (k := 1) (v := 0) h (by decide +kernel)
    · exact fr_i (p := 72) (k := 2) (v := 0) h (by decide +kernel)
    · exact fr_i (p := 72) (k := 3) (v := 0) h (by decide +kernel)
end PmI9
theorem s4_nd : ndck pm_s4 = true := by decide +kernel
theorem s4_inv : Inv pm_s4 := fr_inv pm_s4_fresh s4_nd
theorem inv_op (hL : LIM) {σ : pm_S} (hI : Inv σ) : pm_Op 600 Inv σ := by
  refine ⟨?_, fun a h0 h1 => op_type hI h0 h1, op_readType hI, op_readTerm hL hI, op_below hI, op_same hI, op_join hI, op_meet hI, op_size hI, op_write hI, op_charAt hI, op_typeOf hI, op_fits hI, op_start hI, op_step hI, op_steps hI, op_value hI⟩
  obtain ⟨M, Rf, K, L, n, s, X, Y, Z, z, zf, zv, ln, tx, T, w, rfl, ib, im⟩ := hI
  exact ib.1.1.o (by decide) rfl
theorem inv_lim {σ : pm_S} (hI : Inv σ) : σ.2.2.2.2.1 ≤ 600000 ∧ σ.2.2.2.2.2 ≤ 7302250 := by
  obtain ⟨M, Rf, K, L, n, s, X, Y, Z, z, zf, zv, ln, tx, T, w, rfl, ib, im⟩ := hI
  have h1 := ib.1.2.1.2.2.2.2.1
  have h2 := ib.1.2.2.1.2.2.2.2.1
  have h3 := ib.1.2.2.2.1.2.2.2.2
  have h5 := ib.2.2.2.2.1
  have h6 := ib.2.2.2.2.2
  show n ≤ 600000 ∧ s ≤ 7302250
  omega
theorem law_loop (hL : LIM) {L : Nat} {xs : Nat → Int32} (hl : L ≤ 2048) : ∀ (m k : Nat) (σ : pm_S), L ≤ k + m → k ≤ L + 3 → Inv σ → pm_Wp (some (L, xs)) 600 212 18 (pm_LL (nI k)) [] σ (fun r σ' => r = some (.int 1) ∧ σ'.2.2.2.2.1 ≤ 600000 ∧ σ'.2.2.2.2.2 ≤ 7302250)
  | 0, k, σ, h, h2, hI => pm_exit (by omega) (by omega) hl ⟨rfl, inv_lim hI⟩
  | m + 1, k, σ, h, h2, hI => by
    by_cases c : L < k + 4
    · exact pm_exit c (by omega) hl ⟨rfl, inv_lim hI⟩
    · exact pm_iter (inv_op hL hI) (by omega) hl (fun σ' hp => law_loop hL hl m (k + 4) σ' (by omega) (by omega) hp)
/-- whole, if the limits are never reached -/
theorem law_of (hL : LIM) {L : Nat} {xs : Nat → Int32} (hl : L ≤ 2048) : pm_Law L xs := ⟨600, by decide, pm_enter (by decide) (law_loop hL hl L 0 pm_s4 (by omega) (by omega) s4_inv)⟩
