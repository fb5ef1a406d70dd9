/-! THE CLASS: inside of a term's form. -/
/-- nodes stay what they are -/
def Kp (X : Nat) (lo c : Int) (M : pm_M) (Rf : Nat → Nat → Nat) (cn c' : Int) (M' : pm_M) (Rf' : Nat → Nat → Nat) (cn' : Int) : Prop := (∀ g, g < 5 → ∀ i : Int, 0 ≤ i → i < cn → M' (Rf' 6 g) i = M (Rf 6 g) i) ∧ cn ≤ cn' ∧ c ≤ c' ∧ (∀ q, X + 1 ≤ q → q ≤ X + 6 → ∀ i : Int, lo ≤ i → i < c → M' q i = M q i) ∧ ∀ i : Int, 0 ≤ i → i < c → M' (X + 2) i = M (X + 2) i
theorem Kp.nd {X : Nat} {lo c : Int} {M : pm_M} {Rf : Nat → Nat → Nat} {cn c' : Int} {M' : pm_M} {Rf' : Nat → Nat → Nat} {cn' : Int} (h : Kp X lo c M Rf cn c' M' Rf' cn') {N : Nat} {A : Ty} {i : Int} (hn : ndf M Rf cn N A i) : ndf M' Rf' cn' N A i := ndf_mono h.1 h.2.1 (Nat.le_refl _) hn
theorem Kp.cnd {X : Nat} {lo c : Int} {M : pm_M} {Rf : Nat → Nat → Nat} {cn c' : Int} {M' : pm_M} {Rf' : Nat → Nat → Nat} {cn' : Int} (h : Kp X lo c M Rf cn c' M' Rf' cn') {N : Nat} {t : Ty} {i : Int} (hn : CNd M X lo c (fun A i => ndf M Rf cn 24 A i) N t i) : CNd M' X lo c' (fun A i => ndf M' Rf' cn' 24 A i) N t i := CNd.mono h.2.2.2.1 h.2.2.2.2 h.2.2.1 (Int.le_refl _) (fun _ _ x => h.nd x) (Nat.le_refl _) hn
theorem Kp.refl {X : Nat} {lo c : Int} {M : pm_M} {Rf : Nat → Nat → Nat} {cn : Int} : Kp X lo c M Rf cn c M Rf cn := ⟨fun _ _ _ _ _ => rfl, Int.le_refl _, Int.le_refl _, fun _ _ _ _ _ _ => rfl, fun _ _ _ => rfl⟩
theorem Kp.trans {X : Nat} {lo c : Int} {M : pm_M} {Rf : Nat → Nat → Nat} {cn c' : Int} {M' : pm_M} {Rf' : Nat → Nat → Nat} {cn' c2 : Int} {M2 : pm_M} {R2 : Nat → Nat → Nat} {cn2 : Int} (h : Kp X lo c M Rf cn c' M' Rf' cn') (k : Kp X lo c' M' Rf' cn' c2 M2 R2 cn2) : Kp X lo c M Rf cn c2 M2 R2 cn2 := by
  obtain ⟨h1, h2, h3, h4, h5⟩ := h
  obtain ⟨k1, k2, k3, k4, k5⟩ := k
  exact ⟨fun g hg i i0 i1 => (k1 g hg i i0 (by omega)).trans (h1 g hg i i0 i1), by omega, by omega, fun q q1 q2 i i0 i1 => (k4 q q1 q2 i i0 (by omega)).trans (h4 q q1 q2 i i0 i1), fun i i0 i1 => (k5 i i0 (by omega)).trans (h5 i i0 i1)⟩
def FT (tx : Nat → Int) (ln X : Nat) (e : List (Nat × Int × Nat)) (p0 v : Nat) (kd : Int) (M0 : pm_M) (R0 : Nat → Nat → Nat) (K0 L0 : Nat → Nat) (n0 s0 z0 : Nat) (cn0 : Int) (env : List (Nat × Int × Nat)) (p c : Nat) (M : pm_M) (Rf : Nat → Nat → Nat) (K L : Nat → Nat) (n s z : Nat) (cn : Int) (G : Prop) : Prop := RmS tx ln X env p c M Rf K L n z cn ∧ CX (WTm X v e) M0 R0 K0 L0 n0 s0 z0 cn0 M Rf K L n s z ∧ (cn0 ≤ cn ∧ cn ≤ cn0 + ((p - p0 : Nat) : Int)) ∧ (v + 1 ≤ c ∧ c ≤ v + (p - p0)) ∧ p0 + 1 ≤ p ∧ M (X + 1) (v : Int) = kd ∧ M (X + 2) (v : Int) = (p0 : Int) ∧ (GF M ↔ G)
section PmC35
variable {tx : Nat → Int} {ln X : Nat} {e : List (Nat × Int × Nat)} {p0 v : Nat} {kd : Int} {M0 : pm_M} {R0 : Nat → Nat → Nat} {K0 L0 : Nat → Nat} {n0 s0 z0 : Nat} {cn0 : Int} {env : List (Nat × Int × Nat)} {p c q c' : Nat} {M M' : pm_M} {Rf Rf' : Nat → Nat → Nat} {K L K' L' : Nat → Nat} {n s z n' s' z' : Nat} {cn cn' : Int} {G G' : Prop} {Q : Option Value → pm_S → Prop} {lv N : Nat}
theorem FT.any (F : FT tx ln X e p0 v kd M0 R0 K0 L0 n0 s0 z0 cn0 env p c M Rf K L n s z cn G) : FT tx ln X e p0 v kd M0 R0 K0 L0 n0 s0 z0 cn0 env p c M Rf K L n s z cn (GF M) := ⟨F.1, F.2.1, F.2.2.1, F.2.2.2.1, F.2.2.2.2.1, F.2.2.2.2.2.1, F.2.2.2.2.2.2.1, Iff.rfl⟩
theorem FT.gg (F : FT tx ln X e p0 v kd M0 R0 K0 L0 n0 s0 z0 cn0 env p c M Rf K L n s z cn G) (hg : G ↔ G') : FT tx ln X e p0 v kd M0 R0 K0 L0 n0 s0 z0 cn0 env p c M Rf K L n s z cn G' := ⟨F.1, F.2.1, F.2.2.1, F.2.2.2.1, F.2.2.2.2.1, F.2.2.2.2.2.1, F.2.2.2.2.2.2.1, F.2.2.2.2.2.2.2.trans hg⟩
theorem FT.le (F : FT tx ln X e p0 v kd M0 R0 K0 L0 n0 s0 z0 cn0 env p c M Rf K L n s z cn G) : p ≤ ln ∧ ln ≤ 60 ∧ c ≤ p ∧ v + 1 ≤ c ∧ p0 + 1 ≤ p := ⟨F.1.1.2.2.2.2.2.2.2.2.2.2.1, F.1.1.2.2.2.2.2.2.2.2.1.2.1, F.1.2.2.2.2.1, F.2.2.2.1.1, F.2.2.2.2.1⟩
theorem FT.cz (F : FT tx ln X e p0 v kd M0 R0 K0 L0 n0 s0 z0 cn0 env p c M Rf K L n s z cn G) : 1 ≤ cn ∧ cn ≤ z ∧ z ≤ 16384 := ⟨F.1.1.2.2.2.2.1, F.1.1.2.2.2.2.2.1, F.1.1.2.1.2.2.2.2⟩
/-- no more is read -/
theorem FT.out (F : FT tx ln X e p0 v kd M0 R0 K0 L0 n0 s0 z0 cn0 e p c M Rf K L n s z cn G) (h : RmQ X e N p0 v (p, none) M0 R0 K0 L0 n0 s0 z0 cn0 Q) : Q (some (.int (zI (-1)))) (zM M, Rf, K, L, n, s) :=
  h M Rf K L n s z cn c (-1) F.2.1 F.1.1.2.2.2.1 F.2.2.1.1 F.2.2.1.2 F.1.1.2.2.2.2.2.1 F.1.1.2.2.2.2.2.2.2.2.2.1 F.1.1.2.2.2.2.2.2.2.2.2.2.2.1 F.1.2.2.2.2.2.1 F.1.2.2.2.1 (by have := F.2.2.2.1.1; omega) F.2.2.2.1.2 F.1.2.2.2.2.2.2.2 rfl
theorem FT.fin {a : Ty × Bool} (F : FT tx ln X e p0 v kd M0 R0 K0 L0 n0 s0 z0 cn0 e p c M Rf K L n s z cn G) (h : RmQ X e N p0 v (p, some a) M0 R0 K0 L0 n0 s0 z0 cn0 Q) (hn : a.2 = true → CNd M X (v : Int) (c : Int) (fun A i => ndf M Rf cn 24 A i) N a.1 (v : Int)) (hg : G ↔ GF M0 ∧ a.2 = true) : Q (some (.int (zI (v : Int)))) (zM M, Rf, K, L, n, s) :=
  h M Rf K L n s z cn c (v : Int) F.2.1 F.1.1.2.2.2.1 F.2.2.1.1 F.2.2.1.2 F.1.1.2.2.2.2.2.1 F.1.1.2.2.2.2.2.2.2.2.2.1 F.1.1.2.2.2.2.2.2.2.2.2.2.2.1 F.1.2.2.2.2.2.1 F.1.2.2.2.1 (by have := F.2.2.2.1.1; omega) F.2.2.2.1.2 F.1.2.2.2.2.2.2.2 ⟨⟨rfl, by have := F.2.2.2.1.1; omega⟩, hn, F.2.2.2.2.2.2.2.trans hg⟩
/-- one character further -/
theorem FT.adv (F : FT tx ln X e p0 v kd M0 R0 K0 L0 n0 s0 z0 cn0 env p c M Rf K L n s z cn G) (hp : p < ln) (hw : ∀ q i, WTm X c env q i → WTm X v e q i) : FT tx ln X e p0 v kd M0 R0 K0 L0 n0 s0 z0 cn0 env (p + 1) c (mset M 38 7 ((p + 1 : Nat) : Int)) Rf K L n s z cn G ∧ Kp X ((v + 1 : Nat) : Int) (c : Int) M Rf cn (c : Int) (mset M 38 7 ((p + 1 : Nat) : Int)) Rf cn := by
  obtain ⟨f1, f2, f3, f4, f5, f6, f7, f8⟩ := F
  have hX := f1.2.1
  have l60 := f1.1.2.2.2.2.2.2.2.2.1.2.1
  refine ⟨⟨f1.adv hp, f2.trans ((f1.wset (s := s) ((p + 1 : Nat) : Int) ⟨by omega, by omega⟩).weak (W' := WTm X v e) hw) f3.1, ⟨f3.1, by have := f3.2; omega⟩, ⟨f4.1, by have := f4.2; omega⟩, by omega, ?_, ?_, ?_⟩, ?_⟩
  · rw [mset_p _ _ _ _ (by omega)]; exact f6
  · rw [mset_p _ _ _ _ (by omega)]; exact f7
  · unfold GF at f8 ⊢
    rw [mset_i _ _ _ _ (by decide), mset_i _ _ _ _ (by decide)]; exact f8
  · exact ⟨fun g hg i _ _ => mset_p _ _ _ _ (by have := f1.1.2.1.2.1 g hg; omega), Int.le_refl _, Int.le_refl _, fun q q1 q2 i _ _ => mset_p _ _ _ _ (by omega), fun i _ _ => mset_p _ _ _ _ (by omega)⟩
theorem WTm.sub (hc : v ≤ c) : ∀ q i, WTm X c e q i → WTm X v e q i := fun q i hw => by
  rcases hw with h | h | h | h | h
  · exact Or.inl h
  · exact Or.inr (Or.inl h)
  · exact Or.inr (Or.inr (Or.inl h))
  · exact Or.inr (Or.inr (Or.inr (Or.inl h)))
  · exact Or.inr (Or.inr (Or.inr (Or.inr ⟨h.1, h.2.1, by omega⟩)))
theorem FT.wv (F : FT tx ln X e p0 v kd M0 R0 K0 L0 n0 s0 z0 cn0 e p c M Rf K L n s z cn G) : ∀ q i, WTm X c e q i → WTm X v e q i := WTm.sub (by have := F.2.2.2.1.1; omega)
theorem FT.take {a : Int} (F : FT tx ln X e p0 v kd M0 R0 K0 L0 n0 s0 z0 cn0 e p c M Rf K L n s z cn G) (hl : 0 + 2 ≤ lv) (c1 : 1 ≤ a) (c2 : a ≤ 200) (h1 : chr tx ln p = a → ∀ M' : pm_M, FT tx ln X e p0 v kd M0 R0 K0 L0 n0 s0 z0 cn0 e (p + 1) c M' Rf K L n s z cn G → Kp X ((v + 1 : Nat) : Int) (c : Int) M Rf cn (c : Int) M' Rf cn → Q (some (.int (zI 1))) (zM M', Rf, K, L, n, s)) (h0 : chr tx ln p ≠ a → Q (some (.int (zI 0))) (zM M, Rf, K, L, n, s)) : pm_Wc lv 79 [.ref 38, .int (zI a)] (zM M, Rf, K, L, n, s) Q := by
  refine wc_deep hl ?_
  exact c_take F.1.1.1 F.1.1.2.2.2.2.2.2.2.2.1 F.1.1.2.2.2.2.2.2.2.2.2.1 F.le.1 c1 c2 (fun e1 e2 => h1 e1 _ (F.adv e2 F.wv).1 (F.adv e2 F.wv).2) h0
theorem FT.takeB {lo hi : Int} (F : FT tx ln X e p0 v kd M0 R0 K0 L0 n0 s0 z0 cn0 e p c M Rf K L n s z cn G) (hl : 0 + 2 ≤ lv) (c1 : 1 ≤ lo) (c2 : hi ≤ 200) (c3 : lo ≤ 200) (c4 : 0 ≤ hi) (h1 : lo ≤ chr tx ln p ∧ chr tx ln p ≤ hi → ∀ M' : pm_M, FT tx ln X e p0 v kd M0 R0 K0 L0 n0 s0 z0 cn0 e (p + 1) c M' Rf K L n s z cn G → Kp X ((v + 1 : Nat) : Int) (c : Int) M Rf cn (c : Int) M' Rf cn → Q (some (.int (zI (chr tx ln p)))) (zM M', Rf, K, L, n, s)) (h0 : ¬ (lo ≤ chr tx ln p ∧ chr tx ln p ≤ hi) → Q (some (.int (zI 0))) (zM M, Rf, K, L, n, s)) : pm_Wc lv 80 [.ref 38, .int (zI lo), .int (zI hi)] (zM M, Rf, K, L, n, s) Q := by
  refine wc_deep hl ?_
  exact c_takeB F.1.1.1 F.1.1.2.2.2.2.2.2.2.2.1 F.1.1.2.2.2.2.2.2.2.2.2.1 F.le.1 c1 c2 c3 c4 (fun e1 e2 => h1 e1 _ (F.adv e2 F.wv).1 (F.adv e2 F.wv).2) h0
theorem FT.takeL {l dp : Nat} (F : FT tx ln X e p0 v kd M0 R0 K0 L0 n0 s0 z0 cn0 e p c M Rf K L n s z cn G) (hl : 0 + 2 ≤ lv) (hl3 : l ≤ 3) (hdp : dp ≤ 100) (h1 : ¬ (chr tx ln p < 120 + (l : Int) ∨ 123 ≤ chr tx ln p) → dp < 24 → ∀ M' : pm_M, FT tx ln X e p0 v kd M0 R0 K0 L0 n0 s0 z0 cn0 e (p + 1) c M' Rf K L n s z cn G → Kp X ((v + 1 : Nat) : Int) (c : Int) M Rf cn (c : Int) M' Rf cn → Q (some (.int (zI (((chr tx ln p - 120).toNat : Nat) : Int)))) (zM M', Rf, K, L, n, s)) (h0 : 24 ≤ dp ∨ (chr tx ln p < 120 + (l : Int) ∨ 123 ≤ chr tx ln p) → Q (some (.int (zI (-1)))) (zM M, Rf, K, L, n, s)) : pm_Wc lv 81 [.ref 38, .int (zI (l : Int)), .int (zI (dp : Int))] (zM M, Rf, K, L, n, s) Q := by
  refine wc_deep hl ?_
  exact c_takeLabel F.1.1.1 F.1.1.2.2.2.2.2.2.2.2.1 F.1.1.2.2.2.2.2.2.2.2.2.1 F.le.1 hl3 hdp (fun e1 e3 e2 => h1 e1 e3 _ (F.adv e2 F.wv).1 (F.adv e2 F.wv).2) h0
/-- a type -/
theorem FT.typ {r dp : Nat} (F : FT tx ln X e p0 v kd M0 R0 K0 L0 n0 s0 z0 cn0 e p c M Rf K L n s z cn G) (hl : 0 + 6 * r + 13 ≤ lv) (hdp : dp + r + 1 = 24) (he : e.length + r + 1 ≤ 24) (h0 : ∀ (q : Nat) (M' : pm_M) (Rf' : Nat → Nat → Nat) (K' L' : Nat → Nat) (n' s' z' : Nat) (cn' : Int), pT tx ln r (tnm e) p = (q, none) → FT tx ln X e p0 v kd M0 R0 K0 L0 n0 s0 z0 cn0 e q c M' Rf' K' L' n' s' z' cn' (GF M') → Q (some (.int (zI (-1)))) (zM M', Rf', K', L', n', s')) (h1 : ∀ (q : Nat) (a : Ty × Bool) (i : Int) (M' : pm_M) (Rf' : Nat → Nat → Nat) (K' L' : Nat → Nat) (n' s' z' : Nat) (cn' : Int), pT tx ln r (tnm e) p = (q, some a) → FT tx ln X e p0 v kd M0 R0 K0 L0 n0 s0 z0 cn0 e q c M' Rf' K' L' n' s' z' cn' (G ∧ gud a = true) → Kp X ((v + 1 : Nat) : Int) (c : Int) M Rf cn (c : Int) M' Rf' cn' → ndf M' Rf' cn' 24 a.1 i → Q (some (.int (zI i))) (zM M', Rf', K', L', n', s')) : pm_Wc lv 86 [.ref 38, .int (zI ((dp : Int) + 1))] (zM M, Rf, K, L, n, s) Q := by
  have nl := nct_len e
  obtain ⟨f1, f2, f3, f4, f5, f6, f7, f8⟩ := F
  have hX := f1.2.1
  have pl := f1.1.2.2.2.2.2.2.2.2.2.2.1
  rw [show (dp : Int) + 1 = ((dp + 1 : Nat) : Int) by omega]
  refine wc_deep hl ?_
  refine c_outerType (r := r) f1.1 (by omega) (by omega) (fun M1 R1 K1 L1 n1 s1 z1 cn1 i1 xx u1 u2 u3 u4 u5 u6 t1 u7 => ?_)
  have fw := pT_fw (tx := tx) (ln := ln) r (tnm e) p pl
  cases hpt : pT tx ln r (tnm e) p with
  | mk q o =>
  rw [hpt] at fw u3 u5 t1 u7
  have qa : p ≤ q := fw.1
  have qb : q ≤ ln := fw.2.1
  have u3 : cn1 ≤ cn + ((q - p : Nat) : Int) := u3
  have u5 : M1 38 7 = (q : Int) := u5
  have b8 := f1.1.2.2.2.2.2.2.1
  have S1 := f1.ty xx u1 u2 (q := q) (by omega) u4 u5 qb qa u6
  have mm : ∀ q, X + 1 ≤ q → q ≤ X + 6 → ∀ i : Int, M1 q i = M q i := fun q q1 q2 i => xx.mem _ (by have := f1.1.1.1; omega) (fun g hg => by have := f1.1.2.1.2.1 g hg; omega) _ (by unfold WT2 WT; omega)
  have F1 : FT tx ln X e p0 v kd M0 R0 K0 L0 n0 s0 z0 cn0 e q c M1 R1 K1 L1 n1 s1 z1 cn1 (GF M1) := ⟨S1, f2.trans (xx.weak (W' := WTm X v e) (fun q i hw => Or.inl hw)) f3.1, ⟨by omega, by omega⟩, ⟨f4.1, by omega⟩, by omega, (mm _ (by omega) (by omega) _).trans f6, (mm _ (by omega) (by omega) _).trans f7, Iff.rfl⟩
  cases o with
  | none =>
    have t1 : i1 = -1 := t1
    rw [t1]
    exact h0 q M1 R1 K1 L1 n1 s1 z1 cn1 hpt F1
  | some a =>
    obtain ⟨nd1, cl1⟩ := t1
    refine h1 q a i1 M1 R1 K1 L1 n1 s1 z1 cn1 hpt (F1.gg ?_) ⟨xx.nodes, u2, Int.le_refl _, fun q q1 q2 i _ _ => mm q q1 q2 i, fun i _ _ => mm _ (by omega) (by omega) i⟩ (ndf_mono (fun _ _ _ _ _ => rfl) (Int.le_refl _) (by omega) nd1)
    have u7 : M1 38 12 = if 16 < (flat a.1).length then 1 else M 38 12 := u7
    clear h0 h1 F1 mm S1 xx
    unfold GF gud at *
    rw [cl1, u7, Bool.and_eq_true, decide_eq_true_iff, ← f8]
    by_cases x : a.2 = true
    · rw [if_pos x]
      by_cases y : 16 < (flat a.1).length
      · rw [if_pos y]
        exact ⟨fun z => absurd z.2 (by decide), fun z => absurd z.2.2 (by omega)⟩
      · rw [if_neg y]
        exact ⟨fun z => ⟨z, x, by omega⟩, fun z => z.1⟩
    · rw [if_neg x]
      exact ⟨fun z => absurd rfl z.1, fun z => absurd z.2.1 x⟩
/-- behind a term that was read -/
theorem FT.of {N : Nat} {i : Int} {res : Nat × Option (Ty × Bool)} (F : FT tx ln X e p0 v kd M0 R0 K0 L0 n0 s0 z0 cn0 env p c M Rf K L n s z cn G) (hfw : FW ln p res) (hw : ∀ q i, WTm X c env q i → WTm X v e q i) (xx : CX (WTm X c env) M Rf K L n s z cn M' Rf' K' L' n' s' z') (u1 : M' 6 6 = cn') (u2 : cn ≤ cn') (u3 : cn' ≤ cn + ((res.1 - p : Nat) : Int)) (u4 : cn' ≤ z') (u5 : M' 38 7 = (res.1 : Int)) (u6 : M' 38 8 = ((tnm env).length : Int)) (u7 : M' 38 9 = (nct env : Int)) (u8 : M' X 6 = (c' : Int)) (u9 : c ≤ c') (ua : c' ≤ c + (res.1 - p)) (ub : PI M' X c' res.1) (t1 : TmR M' Rf' X (c : Int) (c' : Int) cn' N (GF M) res.2 i) : (res.2 = none → i = -1 ∧ FT tx ln X e p0 v kd M0 R0 K0 L0 n0 s0 z0 cn0 env res.1 c' M' Rf' K' L' n' s' z' cn' (GF M')) ∧ ∀ a, res.2 = some a → FT tx ln X e p0 v kd M0 R0 K0 L0 n0 s0 z0 cn0 env res.1 c' M' Rf' K' L' n' s' z' cn' (G ∧ a.2 = true) ∧ Kp X ((v + 1 : Nat) : Int) (c : Int) M Rf cn (c' : Int) M' Rf' cn' ∧ (0 ≤ i ∧ i < c') ∧ (a.2 = true → CNd M' X ((v + 1 : Nat) : Int) (c' : Int) (fun A i => ndf M' Rf' cn' 24 A i) N a.1 i) := by
  obtain ⟨f1, f2, f3, f4, f5, f6, f7, f8⟩ := F
  have hX := f1.2.1
  have b8 := f1.1.2.2.2.2.2.2.1
  have qa := hfw.1
  have qb := hfw.2.1
  have S1 := f1.tm xx u1 u2 (q := res.1) (by omega) u4 u5 qb qa u6 u7 u8 u9 ua ub
  have mm : ∀ q, X + 1 ≤ q → q ≤ X + 6 → ∀ i : Int, 0 ≤ i → i < c → M' q i = M q i := fun q q1 q2 i i0 i1 => xx.mem _ (by have := f1.1.1.1; omega) (fun g hg => by have := f1.1.2.1.2.1 g hg; omega) _ (by unfold WTm WT2 WT; omega)
  have F1 : FT tx ln X e p0 v kd M0 R0 K0 L0 n0 s0 z0 cn0 env res.1 c' M' Rf' K' L' n' s' z' cn' (GF M') := ⟨S1, f2.trans (xx.weak (W' := WTm X v e) hw) f3.1, ⟨by omega, by omega⟩, ⟨by omega, by omega⟩, by omega, (mm _ (by omega) (by omega) _ (by omega) (by omega)).trans f6, (mm _ (by omega) (by omega) _ (by omega) (by omega)).trans f7, Iff.rfl⟩
  constructor
  · intro ho
    rw [ho] at t1
    exact ⟨t1, F1⟩
  · intro a ho
    rw [ho] at t1
    obtain ⟨t2, t3, t4⟩ := t1
    refine ⟨F1.gg (t4.trans (and_congr f8 Iff.rfl)), ⟨xx.nodes, u2, by omega, fun q q1 q2 i i0 i1 => mm q q1 q2 i (by omega) i1, fun i i0 i1 => mm _ (by omega) (by omega) i i0 i1⟩, ⟨by omega, by omega⟩, fun ha => ?_⟩
    exact CNd.mono (fun _ _ _ _ _ _ => rfl) (fun _ _ _ => rfl) (Int.le_refl _) (by omega) (fun _ _ x => x) (Nat.le_refl _) (t3 ha)
theorem FT.trm {d r dp : Nat} (IH : TmC tx ln d r) (F : FT tx ln X e p0 v kd M0 R0 K0 L0 n0 s0 z0 cn0 env p c M Rf K L n s z cn G) (hl : d + 8 * r + 170 ≤ lv) (hdp : dp + r + 1 = 24) (he : env.length + r ≤ 24) (hw : ∀ q i, WTm X c env q i → WTm X v e q i) (h0 : ∀ (q c' : Nat) (M' : pm_M) (Rf' : Nat → Nat → Nat) (K' L' : Nat → Nat) (n' s' z' : Nat) (cn' : Int), pM tx ln r env p = (q, none) → FT tx ln X e p0 v kd M0 R0 K0 L0 n0 s0 z0 cn0 env q c' M' Rf' K' L' n' s' z' cn' (GF M') → Q (some (.int (zI (-1)))) (zM M', Rf', K', L', n', s')) (h1 : ∀ (q : Nat) (a : Ty × Bool) (c' : Nat) (i : Int) (M' : pm_M) (Rf' : Nat → Nat → Nat) (K' L' : Nat → Nat) (n' s' z' : Nat) (cn' : Int), pM tx ln r env p = (q, some a) → FT tx ln X e p0 v kd M0 R0 K0 L0 n0 s0 z0 cn0 env q c' M' Rf' K' L' n' s' z' cn' (G ∧ a.2 = true) → Kp X ((v + 1 : Nat) : Int) (c : Int) M Rf cn (c' : Int) M' Rf' cn' → (0 ≤ i ∧ i < c') → (a.2 = true → CNd M' X ((v + 1 : Nat) : Int) (c' : Int) (fun A i => ndf M' Rf' cn' 24 A i) (r + 1) a.1 i) → Q (some (.int (zI i))) (zM M', Rf', K', L', n', s')) : pm_Wc lv 92 [.ref 38, .int (zI ((dp : Int) + 1))] (zM M, Rf, K, L, n, s) Q := by
  rw [show (dp : Int) + 1 = ((dp + 1 : Nat) : Int) by omega]
  refine wc_deep hl ?_
  refine IH (dp + 1) X env p c M Rf K L n s z cn _ (by omega) F.1 he (fun M1 R1 K1 L1 n1 s1 z1 cn1 c1 i1 xx u1 u2 u3 u4 u5 u6 u7 u8 u9 ua ub t1 => ?_)
  have hof := F.of (pM_fw r env p F.le.1) hw xx u1 u2 u3 u4 u5 u6 u7 u8 u9 ua ub t1
  cases hpt : pM tx ln r env p with
  | mk q o =>
  rw [hpt] at hof
  cases o with
  | none =>
    obtain ⟨e1, e2⟩ := hof.1 rfl
    rw [e1]
    exact h0 q c1 M1 R1 K1 L1 n1 s1 z1 cn1 hpt e2
  | some a =>
    obtain ⟨e1, e2, e3, e4⟩ := hof.2 a rfl
    exact h1 q a c1 i1 M1 R1 K1 L1 n1 s1 z1 cn1 hpt e1 e2 e3 e4
/-- a record's part -/
theorem FT.prt {d r dp : Nat} (IH : TmC tx ln d r) (F : FT tx ln X e p0 v kd M0 R0 K0 L0 n0 s0 z0 cn0 e p c M Rf K L n s z cn G) (hl : d + 8 * r + 172 ≤ lv) (hdp : dp + r + 1 = 24) (he : e.length + r + 1 ≤ 24) (h0 : ∀ (q c' : Nat) (M' : pm_M) (Rf' : Nat → Nat → Nat) (K' L' : Nat → Nat) (n' s' z' : Nat) (cn' : Int), (if chr tx ln p = 61 then pM tx ln r e (p + 1) else (p, none)) = (q, none) → FT tx ln X e p0 v kd M0 R0 K0 L0 n0 s0 z0 cn0 e q c' M' Rf' K' L' n' s' z' cn' (GF M') → Q (some (.int (zI (-1)))) (zM M', Rf', K', L', n', s')) (h1 : ∀ (q : Nat) (a : Ty × Bool) (c' : Nat) (i : Int) (M' : pm_M) (Rf' : Nat → Nat → Nat) (K' L' : Nat → Nat) (n' s' z' : Nat) (cn' : Int), (if chr tx ln p = 61 then pM tx ln r e (p + 1) else (p, none)) = (q, some a) → FT tx ln X e p0 v kd M0 R0 K0 L0 n0 s0 z0 cn0 e q c' M' Rf' K' L' n' s' z' cn' (G ∧ a.2 = true) → Kp X ((v + 1 : Nat) : Int) (c : Int) M Rf cn (c' : Int) M' Rf' cn' → (0 ≤ i ∧ i < c') → (a.2 = true → CNd M' X ((v + 1 : Nat) : Int) (c' : Int) (fun A i => ndf M' Rf' cn' 24 A i) (r + 1) a.1 i) → Q (some (.int (zI i))) (zM M', Rf', K', L', n', s')) : pm_Wc lv 91 [.ref 38, .int (zI 0), .int (zI (dp : Int))] (zM M, Rf, K, L, n, s) Q := by
  refine wc_deep hl ?_
  refine c_recPartM IH F.1 hdp he (fun M1 R1 K1 L1 n1 s1 z1 cn1 c1 i1 xx u1 u2 u3 u4 u5 u6 u7 u8 u9 ua ub t1 => ?_)
  have fq : FW ln p (if chr tx ln p = 61 then pM tx ln r e (p + 1) else (p, none)) := by
    by_cases c61 : chr tx ln p = 61
    · rw [if_pos c61]
      have := chr_is c61 (by decide)
      exact (pM_fw r e _ (by omega)).up (by omega)
    · rw [if_neg c61]; exact fw_none (Nat.le_refl _) F.le.1
  have hof := F.of fq F.wv xx u1 u2 u3 u4 u5 u6 u7 u8 u9 ua ub t1
  cases hpt : (if chr tx ln p = 61 then pM tx ln r e (p + 1) else (p, none)) with
  | mk q o =>
  rw [hpt] at hof
  cases o with
  | none =>
    obtain ⟨e1, e2⟩ := hof.1 rfl
    rw [e1]
    exact h0 q c1 M1 R1 K1 L1 n1 s1 z1 cn1 hpt e2
  | some a =>
    obtain ⟨e1, e2, e3, e4⟩ := hof.2 a rfl
    exact h1 q a c1 i1 M1 R1 K1 L1 n1 s1 z1 cn1 hpt e1 e2 e3 e4
/-- a node's parts -/
theorem FT.fil {m x y w : Int} (F : FT tx ln X e p0 v kd M0 R0 K0 L0 n0 s0 z0 cn0 e p c M Rf K L n s z cn G) (hl : 0 + 1 ≤ lv) (rm : R32 m) (rx : R32 x) (ry : R32 y) (rw' : R32 w) (h : ∀ M' : pm_M, FT tx ln X e p0 v kd M0 R0 K0 L0 n0 s0 z0 cn0 e p c M' Rf K L n s z cn G → Kp X ((v + 1 : Nat) : Int) (c : Int) M Rf cn (c : Int) M' Rf cn → M' (X + 3) (v : Int) = m → M' (X + 4) (v : Int) = x → M' (X + 5) (v : Int) = y → M' (X + 6) (v : Int) = w → Q none (zM M', Rf, K, L, n, s)) : pm_Wc lv 69 [.ref X, .int (zI (v : Int)), .int (zI m), .int (zI x), .int (zI y), .int (zI w)] (zM M, Rf, K, L, n, s) Q := by
  have le := F.le
  obtain ⟨f1, f2, f3, f4, f5, f6, f7, f8⟩ := F
  have hX := f1.2.1
  refine wc_deep hl ?_
  refine c_tfill hX f1.1.1 f1.1.2.2.1 (by omega) rm rx ry rw' (fun M6 f6' fm fx fy fz r6 => ?_)
  have F6 := f1.fil (s := s) f6' r6 (c0 := v) (Nat.le_refl _)
  refine h M6 ⟨F6.1, f2.trans F6.2 f3.1, f3, f4, f5, (f6' _ _ (by omega)).trans f6, (f6' _ _ (by omega)).trans f7, ?_⟩ ⟨fun g hg i _ _ => f6' _ _ (by have := f1.1.2.1.2.1 g hg; omega), Int.le_refl _, Int.le_refl _, fun q q1 q2 i i0 _ => f6' _ _ (by omega), fun i _ _ => f6' _ _ (by omega)⟩ fm fx fy fz
  unfold GF at f8 ⊢
  rw [f6' 38 11 (by omega), f6' 38 12 (by omega)]; exact f8
theorem FT.opnN {a : Int} (F : FT tx ln X e p0 v kd M0 R0 K0 L0 n0 s0 z0 cn0 e p c M Rf K L n s z cn G) (hl : 0 + 1 ≤ lv) (he : e.length < 24) (ha : 1 ≤ a ∧ a ≤ 200) (h : ∀ M' : pm_M, FT tx ln X e p0 v kd M0 R0 K0 L0 n0 s0 z0 cn0 ((1, a, p0) :: e) p c M' Rf K L n s z cn G → Kp X ((v + 1 : Nat) : Int) (c : Int) M Rf cn (c : Int) M' Rf cn → Q none (zM M', Rf, K, L, n, s)) : pm_Wc lv 83 [.ref 38, .int (zI a), .int (zI (v : Int))] (zM M, Rf, K, L, n, s) Q := by
  have nl := nct_len e
  have le := F.le
  have wv := F.wv
  obtain ⟨f1, f2, f3, f4, f5, f6, f7, f8⟩ := F
  have hX := f1.2.1
  refine wc_deep hl ?_
  refine c_openName f1.1.1 f1.2.2.2.2.2.1 (by omega) (by omega) (by omega) ?_
  have O3 := f1.opnN (s := s) (a := a) (v := (v : Int)) (pl := p0) ⟨by omega, by omega⟩ ⟨by omega, by omega⟩ ⟨by omega, by omega⟩ f7 (by omega)
  have nr : ∀ (q : Nat) (i : Int), q < 38 ∨ (41 < q ∨ 11 ≤ i ∧ q = 38) → mset (mset (mset M 40 (nct e : Int) a) 41 (nct e : Int) (v : Int)) 38 9 ((nct e + 1 : Nat) : Int) q i = M q i := fun q i hq => by
    unfold mset
    rw [if_neg (by omega), if_neg (by omega), if_neg (by omega)]
  refine h _ ⟨O3.1, f2.trans (O3.2.weak (W' := WTm X v e) wv) f3.1, f3, f4, f5, (nr _ _ (by omega)).trans f6, (nr _ _ (by omega)).trans f7, ?_⟩ ⟨fun g hg i _ _ => nr _ _ (by have := f1.1.2.1.2.1 g hg; omega), Int.le_refl _, Int.le_refl _, fun q q1 q2 i i0 _ => nr _ _ (by omega), fun i _ _ => nr _ _ (by omega)⟩
  unfold GF at f8 ⊢
  rw [nr 38 11 (by omega), nr 38 12 (by omega)]; exact f8
theorem FT.opnT {a : Int} (F : FT tx ln X e p0 v kd M0 R0 K0 L0 n0 s0 z0 cn0 e p c M Rf K L n s z cn G) (hl : 0 + 1 ≤ lv) (he : e.length < 24) (ha : 1 ≤ a ∧ a ≤ 200) (h : ∀ M' : pm_M, FT tx ln X e p0 v kd M0 R0 K0 L0 n0 s0 z0 cn0 ((0, a, p0) :: e) p c M' Rf K L n s z cn G → Kp X ((v + 1 : Nat) : Int) (c : Int) M Rf cn (c : Int) M' Rf cn → Q none (zM M', Rf, K, L, n, s)) : pm_Wc lv 82 [.ref 38, .int (zI a)] (zM M, Rf, K, L, n, s) Q := by
  have nl := nct_len e
  have le := F.le
  have wv := F.wv
  obtain ⟨f1, f2, f3, f4, f5, f6, f7, f8⟩ := F
  have hX := f1.2.1
  refine wc_deep hl ?_
  refine c_openType f1.1.1 f1.1.2.2.2.2.2.2.2.2.2.2.2.1 (by omega) (by omega) (by omega) ?_
  have O3 := f1.opnT (s := s) (a := a) (pl := p0) ⟨by omega, by omega⟩ (by omega)
  have nr : ∀ (q : Nat) (i : Int), q < 38 ∨ (39 < q ∨ 11 ≤ i ∧ q = 38) → mset (mset M 39 ((tnm e).length : Int) a) 38 8 (((tnm e).length + 1 : Nat) : Int) q i = M q i := fun q i hq => by
    unfold mset
    rw [if_neg (by omega), if_neg (by omega)]
  refine h _ ⟨O3.1, f2.trans (O3.2.weak (W' := WTm X v e) wv) f3.1, f3, f4, f5, (nr _ _ (by omega)).trans f6, (nr _ _ (by omega)).trans f7, ?_⟩ ⟨fun g hg i _ _ => nr _ _ (by have := f1.1.2.1.2.1 g hg; omega), Int.le_refl _, Int.le_refl _, fun q q1 q2 i i0 _ => nr _ _ (by omega), fun i _ _ => nr _ _ (by omega)⟩
  unfold GF at f8 ⊢
  rw [nr 38 11 (by omega), nr 38 12 (by omega)]; exact f8
theorem WTm.subN {a : Int} {pl : Nat} (hc : v ≤ c) : ∀ q i, WTm X c ((1, a, pl) :: e) q i → WTm X v e q i := fun q i hw => by
  rcases hw with h | h | h | h | h
  · exact Or.inl h
  · exact Or.inr (Or.inl h)
  · refine Or.inr (Or.inr (Or.inl ⟨h.1, ?_⟩))
    have h2 : ((nct e + 1 : Nat) : Int) ≤ i := h.2
    omega
  · exact Or.inr (Or.inr (Or.inr (Or.inl h)))
  · exact Or.inr (Or.inr (Or.inr (Or.inr ⟨h.1, h.2.1, by omega⟩)))
theorem WTm.subT {a : Int} {pl : Nat} (hc : v ≤ c) : ∀ q i, WTm X c ((0, a, pl) :: e) q i → WTm X v e q i := fun q i hw => by
  unfold WTm at hw ⊢
  rw [show tnm ((0, a, pl) :: e) = a :: tnm e from rfl, show nct ((0, a, pl) :: e) = nct e from rfl, List.length_cons] at hw
  unfold WT2 WT at hw ⊢
  omega
/-- a name is closed again -/
theorem FT.clsN {a : Int} (F : FT tx ln X e p0 v kd M0 R0 K0 L0 n0 s0 z0 cn0 ((1, a, p0) :: e) p c M Rf K L n s z cn G) : FT tx ln X e p0 v kd M0 R0 K0 L0 n0 s0 z0 cn0 e p c (mset M 38 9 ((nct e : Nat) : Int)) Rf K L n s z cn G ∧ Kp X ((v + 1 : Nat) : Int) (c : Int) M Rf cn (c : Int) (mset M 38 9 ((nct e : Nat) : Int)) Rf cn ∧ M 38 9 = ((nct e + 1 : Nat) : Int) := by
  have nl := nct_len e
  obtain ⟨f1, f2, f3, f4, f5, f6, f7, f8⟩ := F
  obtain ⟨⟨g1, g2, g3, g4, g5, g6, g7, g8, g9, g10, g11, g12, g13⟩, h2, h3, h4, h5, h6, h7, h8⟩ := f1
  have hX := h2
  have f : ∀ (q : Nat) (i : Int), ¬ (q = 38 ∧ i = 9) → mset M 38 9 ((nct e : Nat) : Int) q i = M q i := fun q i hq => by unfold mset; rw [if_neg hq]
  have v6 : R32 ((nct e : Nat) : Int) := by
    have := g3 38 9
    rw [h6] at this
    have e1 : ((nct ((1, a, p0) :: e) : Nat) : Int) = ((nct e + 1 : Nat) : Int) := rfl
    rw [e1] at this
    exact ⟨by omega, by have := this.2; omega⟩
  refine ⟨⟨⟨⟨g1, g2, mset_R32 g3 v6, (f 6 6 (by omega)).trans g4, g5, g6, g7, ndf_mono (fun g hg i _ _ => f _ i (by have := g2.2.1 g hg; omega)) (Int.le_refl _) (Nat.le_refl _) g8, ⟨(f 38 6 (by omega)).trans g9.1, g9.2.1, fun i hi => by rw [f 2 i (by omega)]; exact g9.2.2 i hi⟩, (f 38 7 (by omega)).trans g10, g11, (f 38 8 (by omega)).trans g12, TNm.same (fun i _ hi => f 39 i (by omega)) g13⟩, h2, h3, (f X 6 (by omega)).trans h4, h5, mset_s _ _ _ _, h7.2.same (Int.le_refl _) (fun q hq i _ _ => f q i (by omega)) (fun i _ _ => f _ i (by omega)), h8.same (Nat.le_refl _) (fun i _ _ => f _ i (by omega))⟩, f2.set (fun g hg => by have := g2.2.1 g hg; omega) (by unfold WTm; omega) v6, f3, f4, f5, (f _ _ (by omega)).trans f6, (f _ _ (by omega)).trans f7, ?_⟩, ⟨fun g hg i _ _ => f _ _ (by have := g2.2.1 g hg; omega), Int.le_refl _, Int.le_refl _, fun q q1 q2 i i0 _ => f _ _ (by omega), fun i _ _ => f _ _ (by omega)⟩, h6⟩
  unfold GF at f8 ⊢
  rw [f 38 11 (by omega), f 38 12 (by omega)]; exact f8
theorem FT.clsT {a : Int} (F : FT tx ln X e p0 v kd M0 R0 K0 L0 n0 s0 z0 cn0 ((0, a, p0) :: e) p c M Rf K L n s z cn G) : FT tx ln X e p0 v kd M0 R0 K0 L0 n0 s0 z0 cn0 e p c (mset M 38 8 (((tnm e).length : Nat) : Int)) Rf K L n s z cn G ∧ Kp X ((v + 1 : Nat) : Int) (c : Int) M Rf cn (c : Int) (mset M 38 8 (((tnm e).length : Nat) : Int)) Rf cn ∧ M 38 8 = (((tnm e).length + 1 : Nat) : Int) := by
  have nl := nct_len e
  obtain ⟨f1, f2, f3, f4, f5, f6, f7, f8⟩ := F
  obtain ⟨⟨g1, g2, g3, g4, g5, g6, g7, g8, g9, g10, g11, g12, g13⟩, h2, h3, h4, h5, h6, h7, h8⟩ := f1
  have hX := h2
  have f : ∀ (q : Nat) (i : Int), ¬ (q = 38 ∧ i = 8) → mset M 38 8 (((tnm e).length : Nat) : Int) q i = M q i := fun q i hq => by unfold mset; rw [if_neg hq]
  have g12 : M 38 8 = (((tnm e).length + 1 : Nat) : Int) := g12
  have v6 : R32 (((tnm e).length : Nat) : Int) := by
    have := g3 38 8
    rw [g12] at this
    exact ⟨by omega, by have := this.2; omega⟩
  refine ⟨⟨⟨⟨g1, g2, mset_R32 g3 v6, (f 6 6 (by omega)).trans g4, g5, g6, g7, ndf_mono (fun g hg i _ _ => f _ i (by have := g2.2.1 g hg; omega)) (Int.le_refl _) (Nat.le_refl _) g8, ⟨(f 38 6 (by omega)).trans g9.1, g9.2.1, fun i hi => by rw [f 2 i (by omega)]; exact g9.2.2 i hi⟩, (f 38 7 (by omega)).trans g10, g11, mset_s _ _ _ _, TNm.same (fun i _ hi => f 39 i (by omega)) (show TNm M (a :: tnm e) from g13).2⟩, h2, h3, (f X 6 (by omega)).trans h4, h5, (f 38 9 (by omega)).trans h6, h7.2.same (Int.le_refl _) (fun q hq i _ _ => f q i (by omega)) (fun i _ _ => f _ i (by omega)), h8.same (Nat.le_refl _) (fun i _ _ => f _ i (by omega))⟩, f2.set (fun g hg => by have := g2.2.1 g hg; omega) (by unfold WTm WT2 WT; omega) v6, f3, f4, f5, (f _ _ (by omega)).trans f6, (f _ _ (by omega)).trans f7, ?_⟩, ⟨fun g hg i _ _ => f _ _ (by have := g2.2.1 g hg; omega), Int.le_refl _, Int.le_refl _, fun q q1 q2 i i0 _ => f _ _ (by omega), fun i _ _ => f _ _ (by omega)⟩, g12⟩
  unfold GF at f8 ⊢
  rw [f 38 11 (by omega), f 38 12 (by omega)]; exact f8
theorem CNd.down {P : Ty → Int → Prop} {t : Ty} {w : Int} {lo : Int} (h : CNd M X lo (c : Int) P N t w) (hl : (v : Int) ≤ lo) : CNd M X (v : Int) (c : Int) P N t w := CNd.mono (fun _ _ _ _ _ _ => rfl) (fun _ _ _ => rfl) (Int.le_refl _) hl (fun _ _ x => x) (Nat.le_refl _) h
end PmC35
