/-! THE CLASS: where the reading of a term stands. -/
def nct : List (Nat × Int × Nat) → Nat
  | [] => 0
  | a :: e => if a.1 = 1 then nct e + 1 else nct e
/-- open names of values, innermost first -/
def NNm (M : pm_M) (X : Nat) (cnt : Int) : List (Nat × Int × Nat) → Prop
  | [] => True
  | a :: e => (a.1 = 1 → M 40 (nct e : Int) = a.2.1 ∧ (0 ≤ M 41 (nct e : Int) ∧ M 41 (nct e : Int) < cnt) ∧ M (X + 2) (M 41 (nct e : Int)) = (a.2.2 : Int)) ∧ NNm M X cnt e
theorem NNm.same {M M' : pm_M} {X : Nat} {cnt cnt' : Int} (hc : cnt ≤ cnt') : ∀ {e : List (Nat × Int × Nat)}, (∀ q, q = 40 ∨ q = 41 → ∀ i : Int, 0 ≤ i → i < nct e → M' q i = M q i) → (∀ i : Int, 0 ≤ i → i < cnt → M' (X + 2) i = M (X + 2) i) → NNm M X cnt e → NNm M' X cnt' e
  | [], _, _, _ => trivial
  | a :: e, h, h2, ⟨t1, t2⟩ => by
    have hle : nct e ≤ nct (a :: e) := by
      show nct e ≤ if a.1 = 1 then nct e + 1 else nct e
      by_cases x : a.1 = 1
      · rw [if_pos x]; omega
      · rw [if_neg x]; omega
    refine ⟨fun k => ?_, NNm.same hc (fun q hq i i0 i1 => h q hq i i0 (by omega)) h2 t2⟩
    have hlt : nct e < nct (a :: e) := by
      show nct e < if a.1 = 1 then nct e + 1 else nct e
      rw [if_pos k]; omega
    obtain ⟨u1, u2, u3⟩ := t1 k
    rw [h 40 (Or.inl rfl) _ (by omega) (by omega), h 41 (Or.inr rfl) _ (by omega) (by omega)]
    exact ⟨u1, ⟨u2.1, by omega⟩, (h2 _ u2.1 u2.2).trans u3⟩
theorem nct_len : ∀ e : List (Nat × Int × Nat), nct e + (tnm e).length ≤ e.length
  | [] => Nat.le_refl _
  | a :: e => by
    have := nct_len e
    show (if a.1 = 1 then nct e + 1 else nct e) + (if a.1 = 0 then a.2.1 :: tnm e else tnm e).length ≤ _
    rw [List.length_cons]
    by_cases x : a.1 = 1
    · rw [if_pos x, if_neg (by omega)]; omega
    · rw [if_neg x]
      by_cases y : a.1 = 0
      · rw [if_pos y, List.length_cons]; omega
      · rw [if_neg y]; omega
/-- all was closed and small so far -/
def GF (M : pm_M) : Prop := M 38 11 ≠ 0 ∧ M 38 12 = 0
/-- places of nodes go up -/
def PI (M : pm_M) (X c p : Nat) : Prop := (∀ i : Int, 0 ≤ i → i < c → M (X + 2) i < p) ∧ ∀ i j : Int, 0 ≤ i → i < j → j < c → M (X + 2) i < M (X + 2) j
theorem PI.same {M M' : pm_M} {X c p p' : Nat} (h : PI M X c p) (hp : p ≤ p') (e : ∀ i : Int, 0 ≤ i → i < c → M' (X + 2) i = M (X + 2) i) : PI M' X c p' := by
  refine ⟨fun i i0 i1 => ?_, fun i j i0 ij j1 => ?_⟩
  · rw [e i i0 i1]; have := h.1 i i0 i1; omega
  · rw [e i i0 (by omega), e j (by omega) j1]; exact h.2 i j i0 ij j1
theorem PI.add {M M' : pm_M} {X c p0 p : Nat} (h : PI M X c p0) (hp : p0 < p) (e : ∀ i : Int, 0 ≤ i → i < c → M' (X + 2) i = M (X + 2) i) (hc : M' (X + 2) (c : Int) = (p0 : Int)) : PI M' X (c + 1) p := by
  refine ⟨fun i i0 i1 => ?_, fun i j i0 ij j1 => ?_⟩
  · by_cases x : i = (c : Int)
    · rw [x, hc]; omega
    · rw [e i i0 (by omega)]; have := h.1 i i0 (by omega); omega
  · rw [e i i0 (by omega)]
    by_cases x : j = (c : Int)
    · rw [x, hc]; exact h.1 i i0 (by omega)
    · rw [e j (by omega) (by omega)]; exact h.2 i j i0 ij (by omega)
theorem PI.inj {M : pm_M} {X c p : Nat} (h : PI M X c p) {i j : Int} (i0 : 0 ≤ i) (i1 : i < c) (j0 : 0 ≤ j) (j1 : j < c) (e : M (X + 2) i = M (X + 2) j) : i = j := by
  by_cases a : i < j
  · have := h.2 i j i0 a j1; omega
  · by_cases b : j < i
    · have := h.2 j i j0 b i1; omega
    · omega
def RmS (tx : Nat → Int) (ln X : Nat) (e : List (Nat × Int × Nat)) (p c : Nat) (M : pm_M) (Rf : Nat → Nat → Nat) (K L : Nat → Nat) (n z : Nat) (cn : Int) : Prop := RdS tx ln (tnm e) p M Rf K L n z cn ∧ (X = 16 ∨ X = 23) ∧ Rf 38 5 = X ∧ M X 6 = (c : Int) ∧ c ≤ p ∧ M 38 9 = (nct e : Int) ∧ NNm M X (c : Int) e ∧ PI M X c p
/-- what reading a term may write -/
def WTm (X c : Nat) (e : List (Nat × Int × Nat)) (p : Nat) (i : Int) : Prop := WT2 (tnm e).length p i ∨ (p = 38 ∧ i = 9) ∨ ((p = 40 ∨ p = 41) ∧ (nct e : Int) ≤ i) ∨ (p = X ∧ i = 6) ∨ (X + 1 ≤ p ∧ p ≤ X + 6 ∧ (c : Int) ≤ i)
def TmR (M : pm_M) (Rf : Nat → Nat → Nat) (X : Nat) (lo cnt cn : Int) (N : Nat) (g0 : Prop) : Option (Ty × Bool) → Int → Prop
  | none, v => v = -1
  | some a, v => (v = lo ∧ v < cnt) ∧ (a.2 = true → CNd M X lo cnt (fun A i => ndf M Rf cn 24 A i) N a.1 v) ∧ (GF M ↔ g0 ∧ a.2 = true)
def RmQ (X : Nat) (e : List (Nat × Int × Nat)) (N p c : Nat) (res : Nat × Option (Ty × Bool)) (M : pm_M) (Rf : Nat → Nat → Nat) (K L : Nat → Nat) (n s z : Nat) (cn : Int) (Q : Option Value → pm_S → Prop) : Prop := ∀ (M' : pm_M) (Rf' : Nat → Nat → Nat) (K' L' : Nat → Nat) (n' s' z' : Nat) (cn' : Int) (c' : Nat) (v : Int), CX (WTm X c e) M Rf K L n s z cn M' Rf' K' L' n' s' z' → M' 6 6 = cn' → cn ≤ cn' → cn' ≤ cn + ((res.1 - p : Nat) : Int) → cn' ≤ z' → M' 38 7 = (res.1 : Int) → M' 38 8 = ((tnm e).length : Int) → M' 38 9 = (nct e : Int) → M' X 6 = (c' : Int) → c ≤ c' → c' ≤ c + (res.1 - p) → PI M' X c' res.1 → TmR M' Rf' X (c : Int) (c' : Int) cn' N (GF M) res.2 v → Q (some (.int (zI v))) (zM M', Rf', K', L', n', s')
def TmC (tx : Nat → Int) (ln d r : Nat) : Prop := ∀ (dp X : Nat) (e : List (Nat × Int × Nat)) (p c : Nat) (M : pm_M) (Rf : Nat → Nat → Nat) (K L : Nat → Nat) (n s z : Nat) (cn : Int) (Q : Option Value → pm_S → Prop), dp + r = 24 → RmS tx ln X e p c M Rf K L n z cn → e.length + r ≤ 24 → RmQ X e (r + 1) p c (pM tx ln r e p) M Rf K L n s z cn Q → pm_Wc (d + 8 * r + 170) 92 [.ref 38, .int (zI (dp : Int))] (zM M, Rf, K, L, n, s) Q
section PmC34
variable {tx : Nat → Int} {ln X : Nat} {e : List (Nat × Int × Nat)} {p q c c' : Nat} {M M' : pm_M} {Rf Rf' : Nat → Nat → Nat} {K L K' L' : Nat → Nat} {n s z n' s' z' : Nat} {cn cn' : Int}
theorem WTm.far (hX : X = 16 ∨ X = 23) (hR : RmI Rf K L n z) {q : Nat} {i : Int} (hw : WTm X c e q i) {g : Nat} (hg : g < 5) : q ≠ Rf 6 g := by
  have := hR.2.1 g hg
  unfold WTm WT2 WT at hw
  omega
theorem RmS.of (h : RmS tx ln X e p c M Rf K L n z cn) (S' : RdS tx ln (tnm e) q M' Rf' K' L' n' z' cn') (hr : Rf' 38 5 = X) (m6 : M' X 6 = (c' : Int)) (hc : c' ≤ q) (h9 : M' 38 9 = (nct e : Int)) (hcc : c ≤ c') (h40 : ∀ q, q = 40 ∨ q = 41 → ∀ i : Int, 0 ≤ i → i < nct e → M' q i = M q i) (hpl : ∀ i : Int, 0 ≤ i → i < c → M' (X + 2) i = M (X + 2) i) (hpi : PI M' X c' q) : RmS tx ln X e q c' M' Rf' K' L' n' z' cn' := by
  obtain ⟨h1, h2, h3, h4, h5, h6, h7, h8⟩ := h
  exact ⟨S', h2, hr, m6, hc, h9, h7.same (by omega) h40 hpl, hpi⟩
/-- one character further -/
theorem RmS.adv (h : RmS tx ln X e p c M Rf K L n z cn) (hp : p < ln) : RmS tx ln X e (p + 1) c (mset M 38 7 ((p + 1 : Nat) : Int)) Rf K L n z cn := by
  have hX := h.2.1
  refine h.of (h.1.adv hp) h.2.2.1 ?_ (by have := h.2.2.2.2.1; omega) ?_ (Nat.le_refl _) (fun q hq i _ _ => mset_p _ _ _ _ (by omega)) (fun i _ _ => mset_p _ _ _ _ (by omega)) (h.2.2.2.2.2.2.2.same (by omega) (fun i _ _ => mset_p _ _ _ _ (by omega)))
  · rw [mset_p _ _ _ _ (by omega)]; exact h.2.2.2.1
  · rw [mset_i _ _ _ _ (by decide)]; exact h.2.2.2.2.2.1
theorem RmS.wset (h : RmS tx ln X e p c M Rf K L n z cn) (v : Int) (hv : R32 v) : CX (WTm X c e) M Rf K L n s z cn (mset M 38 7 v) Rf K L n s z := (h.1.wset v hv).weak (fun q i hw => Or.inl (Or.inl hw))
/-- behind an outer type -/
theorem RmS.ty (h : RmS tx ln X e p c M Rf K L n z cn) (cx : CX (WT2 (tnm e).length) M Rf K L n s z cn M' Rf' K' L' n' s' z') (m6 : M' 6 6 = cn') (hc : cn ≤ cn') (hc2 : cn' + ((ln - q : Nat) : Int) ≤ 8000) (cz : cn' ≤ z') (h7 : M' 38 7 = (q : Int)) (hq : q ≤ ln) (hpq : p ≤ q) (h8 : M' 38 8 = ((tnm e).length : Int)) : RmS tx ln X e q c M' Rf' K' L' n' z' cn' := by
  have hX := h.2.1
  have hn := h.1.1.1
  have hR := h.1.2.1
  have f : ∀ (p : Nat), p ≤ 99 → (p < 7 ∨ 11 < p) → ∀ i, ¬ WT2 (tnm e).length p i → M' p i = M p i := fun p hp hp2 i hw => cx.mem p (by omega) (fun g hg => by have := hR.2.1 g hg; omega) i hw
  obtain ⟨g1, g2, g3, g4, g5, g6, g7, g8, g9, g10, g11, g12, g13⟩ := h.1
  have S' : RdS tx ln (tnm e) q M' Rf' K' L' n' z' cn' := ⟨cx.g, cx.r, cx.r32, m6, by omega, cz, hc2, ndf_mono cx.nodes hc (Nat.le_refl _) g8, ⟨(f 38 (by omega) (by omega) 6 (by unfold WT2 WT; omega)).trans g9.1, g9.2.1, fun i hi => by rw [f 2 (by omega) (by omega) i (by unfold WT2 WT; omega)]; exact g9.2.2 i hi⟩, h7, hq, h8, TNm.same (fun i _ hi => f 39 (by omega) (by omega) i (by unfold WT2 WT; omega)) g13⟩
  refine h.of S' ?_ ?_ (by have := h.2.2.2.2.1; omega) ?_ (Nat.le_refl _) (fun q hq i _ _ => f q (by omega) (by omega) i (by unfold WT2 WT; omega)) (fun i _ _ => f _ (by omega) (by omega) i (by unfold WT2 WT; omega)) (h.2.2.2.2.2.2.2.same hpq (fun i _ _ => f _ (by omega) (by omega) i (by unfold WT2 WT; omega)))
  · rw [cx.2.2.2.2.2.2.2.1 38 (by omega) 5 (by omega)]; exact h.2.2.1
  · rw [f X (by omega) (by omega) 6 (by unfold WT2 WT; omega)]; exact h.2.2.2.1
  · rw [f 38 (by omega) (by omega) 9 (by unfold WT2 WT; omega)]; exact h.2.2.2.2.2.1
/-- behind a term -/
theorem RmS.tm (h : RmS tx ln X e p c M Rf K L n z cn) (cx : CX (WTm X c e) M Rf K L n s z cn M' Rf' K' L' n' s' z') (m6 : M' 6 6 = cn') (hc : cn ≤ cn') (hc2 : cn' + ((ln - q : Nat) : Int) ≤ 8000) (cz : cn' ≤ z') (h7 : M' 38 7 = (q : Int)) (hq : q ≤ ln) (hpq : p ≤ q) (h8 : M' 38 8 = ((tnm e).length : Int)) (h9 : M' 38 9 = (nct e : Int)) (hc6 : M' X 6 = (c' : Int)) (hcc : c ≤ c') (hcc2 : c' ≤ c + (q - p)) (hpi : PI M' X c' q) : RmS tx ln X e q c' M' Rf' K' L' n' z' cn' := by
  have hX := h.2.1
  have hn := h.1.1.1
  have hR := h.1.2.1
  have f : ∀ (p : Nat), p ≤ 99 → (p < 7 ∨ 11 < p) → ∀ i, ¬ WTm X c e p i → M' p i = M p i := fun p hp hp2 i hw => cx.mem p (by omega) (fun g hg => by have := hR.2.1 g hg; omega) i hw
  obtain ⟨g1, g2, g3, g4, g5, g6, g7, g8, g9, g10, g11, g12, g13⟩ := h.1
  have S' : RdS tx ln (tnm e) q M' Rf' K' L' n' z' cn' := ⟨cx.g, cx.r, cx.r32, m6, by omega, cz, hc2, ndf_mono cx.nodes hc (Nat.le_refl _) g8, ⟨(f 38 (by omega) (by omega) 6 (by unfold WTm WT2 WT; omega)).trans g9.1, g9.2.1, fun i hi => by rw [f 2 (by omega) (by omega) i (by unfold WTm WT2 WT; omega)]; exact g9.2.2 i hi⟩, h7, hq, h8, TNm.same (fun i _ hi => f 39 (by omega) (by omega) i (by unfold WTm WT2 WT; omega)) g13⟩
  refine h.of S' ?_ hc6 (by have := h.2.2.2.2.1; omega) h9 hcc (fun q hq i _ hi => f q (by omega) (by omega) i (by unfold WTm WT2 WT; omega)) (fun i _ hi => f _ (by omega) (by omega) i (by unfold WTm WT2 WT; omega)) hpi
  rw [cx.2.2.2.2.2.2.2.1 38 (by omega) 5 (by omega)]; exact h.2.2.1
/-- a node more -/
theorem RmS.add (h : RmS tx ln X e p c M Rf K L n z cn) (f : ∀ (q : Nat) (i : Int), ¬ (q = X ∧ i = 6) → ¬ (X + 1 ≤ q ∧ q ≤ X + 6 ∧ i = (c : Int)) → M' q i = M q i) (m6 : M' X 6 = ((c + 1 : Nat) : Int)) (r32 : ∀ p i, R32 (M' p i)) (hc : c + 1 ≤ p) {p0 : Nat} (hpi : PI M X c p0) (hp0 : p0 < p) (hpl : M' (X + 2) (c : Int) = (p0 : Int)) : RmS tx ln X e p (c + 1) M' Rf K L n z cn ∧ CX (WTm X c e) M Rf K L n s z cn M' Rf K L n s z := by
  have hX := h.2.1
  have hR := h.1.2.1
  obtain ⟨g1, g2, g3, g4, g5, g6, g7, g8, g9, g10, g11, g12, g13⟩ := h.1
  have S' : RdS tx ln (tnm e) p M' Rf K L n z cn := ⟨g1, g2, r32, (f 6 6 (by omega) (by omega)).trans g4, g5, g6, g7, ndf_mono (fun g hg i _ _ => f _ i (by have := g2.2.1 g hg; omega) (by have := g2.2.1 g hg; omega)) (Int.le_refl _) (Nat.le_refl _) g8, ⟨(f 38 6 (by omega) (by omega)).trans g9.1, g9.2.1, fun i hi => by rw [f 2 i (by omega) (by omega)]; exact g9.2.2 i hi⟩, (f 38 7 (by omega) (by omega)).trans g10, g11, (f 38 8 (by omega) (by omega)).trans g12, TNm.same (fun i _ hi => f 39 i (by omega) (by omega)) g13⟩
  refine ⟨h.of S' h.2.2.1 m6 hc ((f 38 9 (by omega) (by omega)).trans h.2.2.2.2.2.1) (by omega) (fun q hq i _ _ => f q i (by omega) (by omega)) (fun i _ hi => f _ i (by omega) (by omega)) (hpi.add hp0 (fun i _ hi => f _ i (by omega) (by omega)) hpl), ?_⟩
  refine (CX.refl g1 g2 g3).chg (fun q i hw => f q i (fun x => hw (by unfold WTm; omega)) (fun x => hw (by unfold WTm; omega))) (fun q i hw g hg => WTm.far hX hR hw hg) r32
/-- a node's parts are filled in -/
theorem RmS.fil {v : Nat} (h : RmS tx ln X e p c M Rf K L n z cn) (f : ∀ (q : Nat) (i : Int), ¬ (X + 3 ≤ q ∧ q ≤ X + 6 ∧ i = (v : Int)) → M' q i = M q i) (r32 : ∀ p i, R32 (M' p i)) {c0 : Nat} (hv : c0 ≤ v) : RmS tx ln X e p c M' Rf K L n z cn ∧ CX (WTm X c0 e) M Rf K L n s z cn M' Rf K L n s z := by
  have hX := h.2.1
  have hR := h.1.2.1
  obtain ⟨g1, g2, g3, g4, g5, g6, g7, g8, g9, g10, g11, g12, g13⟩ := h.1
  have S' : RdS tx ln (tnm e) p M' Rf K L n z cn := ⟨g1, g2, r32, (f 6 6 (by omega)).trans g4, g5, g6, g7, ndf_mono (fun g hg i _ _ => f _ i (by have := g2.2.1 g hg; omega)) (Int.le_refl _) (Nat.le_refl _) g8, ⟨(f 38 6 (by omega)).trans g9.1, g9.2.1, fun i hi => by rw [f 2 i (by omega)]; exact g9.2.2 i hi⟩, (f 38 7 (by omega)).trans g10, g11, (f 38 8 (by omega)).trans g12, TNm.same (fun i _ hi => f 39 i (by omega)) g13⟩
  refine ⟨h.of S' h.2.2.1 ((f X 6 (by omega)).trans h.2.2.2.1) h.2.2.2.2.1 ((f 38 9 (by omega)).trans h.2.2.2.2.2.1) (Nat.le_refl _) (fun q hq i _ _ => f q i (by omega)) (fun i _ hi => f _ i (by omega)) (h.2.2.2.2.2.2.2.same (Nat.le_refl _) (fun i _ _ => f _ i (by omega))), ?_⟩
  refine (CX.refl g1 g2 g3).chg (fun q i hw => f q i (fun x => hw (by unfold WTm; omega))) (fun q i hw g hg => WTm.far hX hR hw hg) r32
/-- a name of a value is open -/
theorem RmS.opnN {a v : Int} {pl : Nat} (h : RmS tx ln X e p c M Rf K L n z cn) (ha : R32 a) (hv : R32 v) (hv1 : 0 ≤ v ∧ v < c) (hpl : M (X + 2) v = (pl : Int)) (he : nct e ≤ 100) : RmS tx ln X ((1, a, pl) :: e) p c (mset (mset (mset M 40 (nct e : Int) a) 41 (nct e : Int) v) 38 9 ((nct e + 1 : Nat) : Int)) Rf K L n z cn ∧ CX (WTm X c e) M Rf K L n s z cn (mset (mset (mset M 40 (nct e : Int) a) 41 (nct e : Int) v) 38 9 ((nct e + 1 : Nat) : Int)) Rf K L n s z := by
  have hX := h.2.1
  have hR := h.1.2.1
  obtain ⟨g1, g2, g3, g4, g5, g6, g7, g8, g9, g10, g11, g12, g13⟩ := h.1
  have f : ∀ (q : Nat) (i : Int), ¬ (q = 38 ∧ i = 9) → ¬ ((q = 40 ∨ q = 41) ∧ i = (nct e : Int)) → mset (mset (mset M 40 (nct e : Int) a) 41 (nct e : Int) v) 38 9 ((nct e + 1 : Nat) : Int) q i = M q i := fun q i a b => by
    unfold mset
    rw [if_neg a, if_neg (by omega), if_neg (by omega)]
  have r32 : ∀ q i, R32 (mset (mset (mset M 40 (nct e : Int) a) 41 (nct e : Int) v) 38 9 ((nct e + 1 : Nat) : Int) q i) := mset_R32 (mset_R32 (mset_R32 g3 ha) hv) ⟨by omega, by omega⟩
  have S' : RdS tx ln (tnm e) p (mset (mset (mset M 40 (nct e : Int) a) 41 (nct e : Int) v) 38 9 ((nct e + 1 : Nat) : Int)) Rf K L n z cn := ⟨g1, g2, r32, (f 6 6 (by omega) (by omega)).trans g4, g5, g6, g7, ndf_mono (fun g hg i _ _ => f _ i (by have := g2.2.1 g hg; omega) (by have := g2.2.1 g hg; omega)) (Int.le_refl _) (Nat.le_refl _) g8, ⟨(f 38 6 (by omega) (by omega)).trans g9.1, g9.2.1, fun i hi => by rw [f 2 i (by omega) (by omega)]; exact g9.2.2 i hi⟩, (f 38 7 (by omega) (by omega)).trans g10, g11, (f 38 8 (by omega) (by omega)).trans g12, TNm.same (fun i _ hi => f 39 i (by omega) (by omega)) g13⟩
  refine ⟨⟨S', h.2.1, h.2.2.1, (f X 6 (by omega) (by omega)).trans h.2.2.2.1, h.2.2.2.2.1, mset_s _ _ _ _, ⟨fun _ => ⟨?_, ?_, ?_⟩, h.2.2.2.2.2.2.1.same (Int.le_refl _) (fun q hq i _ hi => f q i (by omega) (by omega)) (fun i _ _ => f _ i (by omega) (by omega))⟩, h.2.2.2.2.2.2.2.same (Nat.le_refl _) (fun i _ _ => f _ i (by omega) (by omega))⟩, ?_⟩
  · rw [mset_p _ _ _ _ (by decide), mset_p _ _ _ _ (by decide), mset_s]
  · rw [mset_p _ _ _ _ (by decide), mset_s]; exact hv1
  · have e41 : mset (mset (mset M 40 (nct e : Int) a) 41 (nct e : Int) v) 38 9 ((nct e + 1 : Nat) : Int) 41 (nct e : Int) = v := by rw [mset_p _ _ _ _ (by decide), mset_s]
    rw [e41, f _ _ (by omega) (by omega)]; exact hpl
  · exact (CX.refl g1 g2 g3).chg (fun q i hw => f q i (fun x => hw (by unfold WTm; omega)) (fun x => hw (by unfold WTm; omega))) (fun q i hw g hg => WTm.far hX hR hw hg) r32
/-- a name of a type is open -/
theorem RmS.opnT {a : Int} {pl : Nat} (h : RmS tx ln X e p c M Rf K L n z cn) (ha : R32 a) (he : (tnm e).length ≤ 100) : RmS tx ln X ((0, a, pl) :: e) p c (mset (mset M 39 ((tnm e).length : Int) a) 38 8 (((tnm e).length + 1 : Nat) : Int)) Rf K L n z cn ∧ CX (WTm X c e) M Rf K L n s z cn (mset (mset M 39 ((tnm e).length : Int) a) 38 8 (((tnm e).length + 1 : Nat) : Int)) Rf K L n s z := by
  have hX := h.2.1
  have hR := h.1.2.1
  have S' := h.1.opn (c := a) ha he
  have f : ∀ (q : Nat) (i : Int), ¬ (q = 38 ∧ i = 8) → ¬ (q = 39 ∧ i = ((tnm e).length : Int)) → mset (mset M 39 ((tnm e).length : Int) a) 38 8 (((tnm e).length + 1 : Nat) : Int) q i = M q i := fun q i a b => by
    unfold mset
    rw [if_neg a, if_neg b]
  refine ⟨⟨S', h.2.1, h.2.2.1, (f X 6 (by omega) (by omega)).trans h.2.2.2.1, h.2.2.2.2.1, (f 38 9 (by omega) (by omega)).trans h.2.2.2.2.2.1, ⟨fun k => (by cases k), h.2.2.2.2.2.2.1.same (Int.le_refl _) (fun q hq i _ hi => f q i (by omega) (by omega)) (fun i _ _ => f _ i (by omega) (by omega))⟩, h.2.2.2.2.2.2.2.same (Nat.le_refl _) (fun i _ _ => f _ i (by omega) (by omega))⟩, ?_⟩
  exact (CX.refl h.1.1 hR h.1.2.2.1).chg (fun q i hw => f q i (fun x => hw (by unfold WTm WT2 WT; omega)) (fun x => hw (by unfold WTm WT2 WT; omega))) (fun q i hw g hg => WTm.far hX hR hw hg) S'.2.2.1
end PmC34
