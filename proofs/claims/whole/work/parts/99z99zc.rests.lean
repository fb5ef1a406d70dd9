/-! THE EMPTY RECORD AGAINST A RECORD; the bound [] in a bound before only (RESTS9). -/
def kmr (C b : Ty) : Bool := kms C b || decide (hd b = 8 ∧ 8 < hd C ∧ hd C < 16)
theorem kmr_lft {C : Ty} (k n : Nat) (t : Ty) (d : Nat) (o : ok d t = true) (v : hd t < 16) : kmr C (lft k n t) = kmr C t := by
  unfold kmr
  rw [kms_lft k n t d o v, (hd_lft0 (k := k) (n := n) o).2 v]
section PmMr9
variable {Γ : List Ty} {f T : Ty}
theorem kmr_mis {C : Ty} (tk : tok (Γ, f, T)) (hT : hd T = hd C) (sT : hd C = 2 → shp (k1 T) = shp (k1 C)) (v : ¬ 16 ≤ hd f) (vT : ¬ 16 ≤ hd T) (q : kmr C f = true) : (trx (Γ, f, T) = 0 ∧ trx (Γ, T, f) = 0) ∧ (gm (0, Γ, f, T) ≤ 1 ∧ gn (0, Γ, f, T) ≤ 1) ∧ gm (0, Γ, T, f) ≤ 1 ∧ gn (0, Γ, T, f) ≤ 1 := by
  by_cases q1 : kms C f = true
  · exact kms_mis tk hT sT v vT q1
  have q2 : hd f = 8 ∧ 8 < hd C ∧ hd C < 16 := by
    unfold kmr at q
    rw [Bool.or_eq_true, decide_eq_true_iff] at q
    exact q.resolve_left q1
  have tk2 : tok (Γ, T, f) := ⟨tk.1, tk.2.2, tk.2.1⟩
  obtain ⟨m, x, y, z, hm, ef⟩ := hd_is_rec (show ok Γ.length f = true from tk.2.1) (by omega) (by omega)
  obtain ⟨m', x', y', z', hm', eT⟩ := hd_is_rec (show ok Γ.length T = true from tk.2.2) (by omega) (by omega)
  have e0 : m = 0 := by rw [ef, hd_rec] at q2; omega
  subst e0
  have n0 : m' ≠ 0 := by intro e; rw [eT, hd_rec, e] at hT; omega
  have hf : hd f = 8 := q2.1
  have b1 : bel Γ T f = true := by
    rw [ef, eT] at tk2 ⊢
    exact bel_rec0 hm' tk2
  have t1 : trx (Γ, f, T) = 0 := by
    refine trx_none ?_
    show stp Γ f T = none
    unfold stp
    rw [if_neg (by omega), if_neg v, if_pos ⟨by omega, by omega, by omega⟩, if_neg]
    rw [hf, eT, hd_rec]
    show ¬ (0 &&& (8 + m' - 8) = 8 + m' - 8)
    rw [Nat.zero_and]
    omega
  have e2 : stp Γ T f = some [] := by
    unfold stp
    rw [if_neg (by omega), if_neg vT, if_pos ⟨by omega, by omega, by omega⟩, if_pos (by rw [hf]; exact Nat.and_zero _), hf]
    rfl
  have t2 : trx (Γ, T, f) = 0 := by
    have q := stp_x (z := (Γ, T, f)) tk2 e2
    have r : rst T f = 0 := by
      unfold rst
      rw [if_neg (by omega), if_neg vT, if_neg (by omega)]
    have q : 0 + rst T f = trx (Γ, T, f) := q
    omega
  have tu : tru (Γ, f, T) = 0 := by
    show max (trx (Γ, f, T)) (trx (Γ, T, f)) = 0
    omega
  have tu2 : tru (Γ, T, f) = 0 := by
    show max (trx (Γ, T, f)) (trx (Γ, f, T)) = 0
    omega
  have key : gcs (0, Γ, f, T) = [] ∧ gro (0, Γ, f, T) ≤ 1 ∧ gno (0, Γ, f, T) = 1 := by
    by_cases b : bel Γ f T = true
    · exact gcs_bel1 (by decide) b
    · exact gcs_bel2 (by decide) b b1
  have key2 : gcs (0, Γ, T, f) = [] ∧ gro (0, Γ, T, f) ≤ 1 ∧ gno (0, Γ, T, f) = 1 := gcs_bel1 (by decide) b1
  have a1 := gm_unf (z := (0, Γ, f, T)) tk (show (0 : Nat) ≠ 2 by decide)
  have a2 := gn_unf (z := (0, Γ, f, T)) tk (show (0 : Nat) ≠ 2 by decide)
  rw [key.1] at a1 a2
  have a1 : gm (0, Γ, f, T) = max (tru (Γ, f, T)) (gro (0, Γ, f, T) + 0) := a1
  have a2 : gn (0, Γ, f, T) = max 1 (gno (0, Γ, f, T) + 0) := a2
  have c1 := gm_unf (z := (0, Γ, T, f)) tk2 (show (0 : Nat) ≠ 2 by decide)
  have c2 := gn_unf (z := (0, Γ, T, f)) tk2 (show (0 : Nat) ≠ 2 by decide)
  rw [key2.1] at c1 c2
  have c1 : gm (0, Γ, T, f) = max (tru (Γ, T, f)) (gro (0, Γ, T, f) + 0) := c1
  have c2 : gn (0, Γ, T, f) = max 1 (gno (0, Γ, T, f) + 0) := c2
  refine ⟨⟨t1, t2⟩, ⟨?_, ?_⟩, ?_, ?_⟩ <;> omega
end PmMr9
/-- as kmr; schemes whose bounds look alike may have bodies of other kinds -/
def kmt (C b : Ty) : Bool := kmr C b || decide (hd b = 2 ∧ hd C = 2 ∧ hd (k2 b) < 16 ∧ hd (k2 C) < 16 ∧ kmr (k2 C) (k2 b) = true)
theorem kmt_lft {C : Ty} (k n : Nat) (t : Ty) (d : Nat) (o : ok d t = true) (v : hd t < 16) : kmt C (lft k n t) = kmt C t := by
  have e := (hd_lft0 (k := k) (n := n) o).2 v
  unfold kmt
  rw [kmr_lft k n t d o v, e]
  by_cases h2 : hd t = 2
  · obtain ⟨a, b, rfl, ha, hb⟩ := hd_is_all o h2
    rw [lft_all]
    have e1 : k2 (tAll (lft k n a) (lft k n b)) = lft k n b := rfl
    have e2 : k2 (tAll a b) = b := rfl
    rw [e1, e2]
    by_cases v2 : hd b < 16
    · rw [(hd_lft0 (k := k) (n := n) hb).2 v2, kmr_lft k n b _ hb v2]
    · have v3 : ¬ hd (lft k n b) < 16 := by
        obtain ⟨j, hj, rfl⟩ := hd_is_var hb (by omega)
        rw [lft_var]
        split <;> rw [hd_var] <;> omega
      have z1 : ¬ (hd (tAll a b) = 2 ∧ hd C = 2 ∧ hd (lft k n b) < 16 ∧ hd (k2 C) < 16 ∧ kmr (k2 C) (lft k n b) = true) := fun h => v3 h.2.2.1
      have z2 : ¬ (hd (tAll a b) = 2 ∧ hd C = 2 ∧ hd b < 16 ∧ hd (k2 C) < 16 ∧ kmr (k2 C) b = true) := fun h => v2 h.2.2.1
      rw [decide_eq_false z1, decide_eq_false z2]
  · have z1 : ¬ (hd t = 2 ∧ hd C = 2 ∧ hd (k2 (lft k n t)) < 16 ∧ hd (k2 C) < 16 ∧ kmr (k2 C) (k2 (lft k n t)) = true) := fun h => h2 h.1
    have z2 : ¬ (hd t = 2 ∧ hd C = 2 ∧ hd (k2 t) < 16 ∧ hd (k2 C) < 16 ∧ kmr (k2 C) (k2 t) = true) := fun h => h2 h.1
    rw [decide_eq_false z1, decide_eq_false z2]
/-- a bound against which the body stands only a moment -/
def gkr (Q a : Ty) : Bool := decide (hd a = 0) || (decide (hd a < 16) && kmr Q a)
theorem gkr_lft {Q a : Ty} {k n d : Nat} (o : ok d a = true) (h : gkr Q a = true) : gkr Q (lft k n a) = true := by
  by_cases c : hd a < 16
  · unfold gkr at h ⊢
    rw [(hd_lft0 o).2 c, kmr_lft k n a d o c]
    exact h
  · unfold gkr at h
    rw [decide_eq_false (show ¬ hd a = 0 by omega), decide_eq_false c] at h
    cases h
def updp (Q : Ty) (τ : Nat → Bool) (D : Nat) (a : Ty) : Nat → Bool := fun i => if i = D then gkr Q a else τ i
def taup (Q : Ty) (Γ : List Ty) : Nat → Bool := fun i => gkr Q (bnd Γ i)
theorem taup_cons {Q : Ty} {Γ : List Ty} {a : Ty} (i : Nat) : taup Q (a :: Γ) i = updp Q (taup Q Γ) Γ.length a i := by
  unfold taup updp
  show gkr Q (if i = Γ.length then a else bnd Γ i) = _
  split <;> rfl
section PmMe9
variable {e : Nat} {B C : Ty} {Γ0 : List Ty}
theorem ev_smallp (e1 : 1 ≤ e) (hC : hd C ≠ 0 ∧ hd C < 16) {Δ : List Ty} {f : Ty} (tk : tok (upb Γ0 Δ B :: cxs Δ Γ0 (tAll B C), f, upb Γ0 Δ C)) (oC : ok (Γ0.length + 1) C = true) (q : bdr (kmt C) (updp C (taup C (cxs Δ Γ0 (tAll B C))) (cxs Δ Γ0 (tAll B C)).length (upb Γ0 Δ B)) f = true) : EVb e B C Dsm Γ0 Δ f ∧ gn (0, upb Γ0 Δ B :: cxs Δ Γ0 (tAll B C), f, upb Γ0 Δ C) ≤ 2 ∧ gn (0, upb Γ0 Δ B :: cxs Δ Γ0 (tAll B C), upb Γ0 Δ C, f) ≤ 2 := by
  have hX : hd (upb Γ0 Δ C) = hd C := (hd_lft0 oC).2 hC.2
  have nX : ¬ 16 ≤ hd (upb Γ0 Δ C) := by omega
  have tk2 : tok (upb Γ0 Δ B :: cxs Δ Γ0 (tAll B C), upb Γ0 Δ C, f) := ⟨tk.1, tk.2.2, tk.2.1⟩
  obtain ⟨d1, d2, -⟩ := Dsm_num (upb Γ0 Δ B :: cxs Δ Γ0 (tAll B Dsm)) false e1
  obtain ⟨-, d3, -⟩ := Dsm_num (upb Γ0 Δ B :: cxs Δ Γ0 (tAll B Dsm)) true e1
  unfold EVb
  rw [up_Dsm, d1]
  unfold bdr at q
  rw [Bool.or_eq_true] at q
  by_cases v : 16 ≤ hd f
  · obtain ⟨j, hj, rfl⟩ := hd_is_var tk.2.1 v
    rw [if_pos v, hd_var, show 16 + j - 16 = j by omega] at q
    have q : updp C (taup C (cxs Δ Γ0 (tAll B C))) (cxs Δ Γ0 (tAll B C)).length (upb Γ0 Δ B) j = true := by
      rcases q with q | q
      · rw [decide_eq_true_iff] at q; omega
      · exact q
    have hb : gkr C (bnd (upb Γ0 Δ B :: cxs Δ Γ0 (tAll B C)) j) = true := by
      unfold updp taup at q
      show gkr C (if j = (cxs Δ Γ0 (tAll B C)).length then upb Γ0 Δ B else bnd (cxs Δ Γ0 (tAll B C)) j) = true
      by_cases ej : j = (cxs Δ Γ0 (tAll B C)).length
      · rw [if_pos ej] at q ⊢
        exact q
      · rw [if_neg ej] at q ⊢
        exact q
    unfold gkr at hb
    rw [Bool.or_eq_true, Bool.and_eq_true, decide_eq_true_iff, decide_eq_true_iff] at hb
    rcases hb with hb | ⟨hb, hm⟩
    · obtain ⟨r1, r2, r3, r4, r5, r6⟩ := var_mis tk hb nX (by omega)
      refine ⟨⟨r1, by rw [r2]; omega, by omega, by omega⟩, by omega, by omega⟩
    · have ob : ok j (bnd (upb Γ0 Δ B :: cxs Δ Γ0 (tAll B C)) j) = true := okc_bnd' tk.1 hj
      have hm' := hm
      rw [← kmr_lft j ((upb Γ0 Δ B :: cxs Δ Γ0 (tAll B C)).length - j) _ _ ob hb] at hm'
      have hs : hd (lft j ((upb Γ0 Δ B :: cxs Δ Γ0 (tAll B C)).length - j) (bnd (upb Γ0 Δ B :: cxs Δ Γ0 (tAll B C)) j)) = hd (bnd (upb Γ0 Δ B :: cxs Δ Γ0 (tAll B C)) j) := (hd_lft0 ob).2 hb
      have z := kmr_mis (C := C) (Γ := upb Γ0 Δ B :: cxs Δ Γ0 (tAll B C)) (f := lft j ((upb Γ0 Δ B :: cxs Δ Γ0 (tAll B C)).length - j) (bnd (upb Γ0 Δ B :: cxs Δ Γ0 (tAll B C)) j)) (T := upb Γ0 Δ C) ⟨tk.1, ok_expose tk.1 hj, tk.2.2⟩ hX (up_k1 oC) (by rw [hs]; omega) nX hm'
      obtain ⟨r1, r2, r3, r4, r5, r6⟩ := var_gen (w := 0) (by decide) tk nX (by omega) z.1.1 z.2.1 z.2.2
      refine ⟨⟨r1, by rw [r2]; omega, by omega, by omega⟩, by omega, by omega⟩
  rw [if_neg v] at q
  by_cases h0 : hd f = 0
  · have g1 := gm_mis (w := 0) tk (by decide) v nX (by omega) (by omega)
    have g2 := gm_mis (w := 0) tk2 (by decide) nX v (by omega) (by omega)
    have t1 : trx (upb Γ0 Δ B :: cxs Δ Γ0 (tAll B C), f, upb Γ0 Δ C) = 0 := trx_mis v (by omega) (by omega)
    have t2 : trx (upb Γ0 Δ B :: cxs Δ Γ0 (tAll B C), upb Γ0 Δ C, f) = 0 := trx_mis nX (by omega) (by omega)
    refine ⟨⟨by omega, by omega, by omega, by omega⟩, by omega, by omega⟩
  have q : kmt C f = true := by
    rcases q with q | q
    · rw [decide_eq_true_iff] at q
      exact absurd q h0
    · exact q
  by_cases q1 : kmr C f = true
  · have z := kmr_mis (C := C) tk hX (up_k1 oC) v nX q1
    refine ⟨⟨by omega, by omega, by omega, by omega⟩, by omega, by omega⟩
  have kk : hd f = 2 ∧ hd C = 2 ∧ hd (k2 f) < 16 ∧ hd (k2 C) < 16 ∧ kmr (k2 C) (k2 f) = true := by
    unfold kmt at q
    rw [Bool.or_eq_true, decide_eq_true_iff] at q
    exact q.resolve_left q1
  obtain ⟨c1, c2, rfl, oc1, oc2⟩ := hd_is_all oC kk.2.1
  obtain ⟨f1, f2, rfl, of1, of2⟩ := hd_is_all (show ok _ f = true from tk.2.1) kk.1
  have eu : upb Γ0 Δ (tAll c1 c2) = tAll (upb Γ0 Δ c1) (upb Γ0 Δ c2) := by unfold upb; rw [lft_all]
  have kf : k2 (tAll f1 f2) = f2 := rfl
  have kc : k2 (tAll c1 c2) = c2 := rfl
  rw [kf, kc] at kk
  have h2 : hd (upb Γ0 Δ c2) = hd c2 := (hd_lft0 oc2).2 kk.2.2.2.1
  have s2 : hd c2 = 2 → shp (k1 (upb Γ0 Δ c2)) = shp (k1 c2) := by
    intro h
    obtain ⟨p1, p2, rfl, -, -⟩ := hd_is_all oc2 h
    have eu2 : upb Γ0 Δ (tAll p1 p2) = tAll (upb Γ0 Δ p1) (upb Γ0 Δ p2) := by unfold upb; rw [lft_all]
    rw [eu2]
    show shp (upb Γ0 Δ p1) = shp p1
    unfold upb
    exact shp_lft _ _ _
  rw [eu] at tk tk2 ⊢
  have kx : k1 (tAll f1 f2) = f1 := rfl
  have ky : k1 (tAll (upb Γ0 Δ c1) (upb Γ0 Δ c2)) = upb Γ0 Δ c1 := rfl
  by_cases ef : flat f1 = flat (upb Γ0 Δ c1)
  · have o9 := ok_all.mp (show ok _ (tAll (upb Γ0 Δ c1) (upb Γ0 Δ c2)) = true from tk.2.2)
    have e9 : f1 = upb Γ0 Δ c1 := flat_eq of1 o9.1 ef
    subst e9
    have z := kmr_mis (C := c2) (Γ := upb Γ0 Δ c1 :: (upb Γ0 Δ B :: cxs Δ Γ0 (tAll B (tAll c1 c2)))) (f := f2) (T := upb Γ0 Δ c2) ⟨⟨o9.1, tk.1⟩, of2, o9.2⟩ h2 s2 (by omega) (by omega) kk.2.2.2.2
    have g1 := gm_deep tk z.1.1 z.1.2 z.2.1
    have g2 := gm_deep tk2 z.1.2 z.1.1 z.2.2
    have t1 := trx_two tk z.1.1
    have t2 := trx_two tk2 z.1.2
    refine ⟨⟨by omega, by omega, by omega, by omega⟩, by omega, by omega⟩
  · have ne : flat (k1 (tAll f1 f2)) ≠ flat (k1 (tAll (upb Γ0 Δ c1) (upb Γ0 Δ c2))) := by rw [kx, ky]; exact ef
    have nv1 : ¬ 16 ≤ hd (tAll f1 f2) := by rw [hd_all]; omega
    have nv2 : ¬ 16 ≤ hd (tAll (upb Γ0 Δ c1) (upb Γ0 Δ c2)) := by rw [hd_all]; omega
    have g1 := gm_mis2 (w := 0) tk (by decide) (hd_all _ _) (hd_all _ _) ne
    have g2 := gm_mis2 (w := 0) tk2 (by decide) (hd_all _ _) (hd_all _ _) (fun h => ne h.symm)
    have t1 : trx (upb Γ0 Δ B :: cxs Δ Γ0 (tAll B (tAll c1 c2)), tAll f1 f2, tAll (upb Γ0 Δ c1) (upb Γ0 Δ c2)) = 0 := trx_mis2 nv1 (hd_all _ _) (hd_all _ _) ne
    have t2 : trx (upb Γ0 Δ B :: cxs Δ Γ0 (tAll B (tAll c1 c2)), tAll (upb Γ0 Δ c1) (upb Γ0 Δ c2), tAll f1 f2) = 0 := trx_mis2 nv2 (hd_all _ _) (hd_all _ _) (fun h => ne h.symm)
    refine ⟨⟨by omega, by omega, by omega, by omega⟩, by omega, by omega⟩
end PmMe9
def kp9 (Q : Ty) (tq : Nat → Ty → Bool) (κ : Ty → Bool) : (Nat → Bool) → Nat → Ty → Bool
  | τ, D, .tag c (.append a b) => if c = 2 then ((!(tq D a)) || bdr κ (updp Q τ D a) b) && (kp9 Q tq κ τ D a && kp9 Q tq κ (updp Q τ D a) (D + 1) b) else kp9 Q tq κ τ D a && kp9 Q tq κ τ D b
  | τ, D, .append a b => kp9 Q tq κ τ D a && kp9 Q tq κ τ D b
  | _, _, _ => true
section PmMb9
variable {Q : Ty} {tq : Nat → Ty → Bool} {κ : Ty → Bool}
theorem kp9_top (τ : Nat → Bool) (D : Nat) : kp9 Q tq κ τ D tTop = true := by simp [tTop, kp9]
theorem kp9_var (τ : Nat → Bool) (D k : Nat) : kp9 Q tq κ τ D (tVar k) = true := by simp [tVar, kp9]
theorem kp9_nil (τ : Nat → Bool) (D : Nat) : kp9 Q tq κ τ D .nil = true := by simp [kp9]
theorem kp9_fun {τ : Nat → Bool} {D : Nat} {a b : Ty} : kp9 Q tq κ τ D (tFun a b) = true ↔ kp9 Q tq κ τ D a = true ∧ kp9 Q tq κ τ D b = true := by simp [tFun, kp9]
theorem kp9_all {τ : Nat → Bool} {D : Nat} {a b : Ty} : kp9 Q tq κ τ D (tAll a b) = true ↔ (tq D a = true → bdr κ (updp Q τ D a) b = true) ∧ kp9 Q tq κ τ D a = true ∧ kp9 Q tq κ (updp Q τ D a) (D + 1) b = true := by
  simp only [tAll, kp9, if_true, Bool.and_eq_true, Bool.or_eq_true, Bool.not_eq_true']
  constructor
  · rintro ⟨h1, h2⟩
    exact ⟨fun e => h1.resolve_left (fun n => by rw [e] at n; cases n), h2⟩
  · rintro ⟨h1, h2⟩
    refine ⟨?_, h2⟩
    by_cases e : tq D a = true
    · exact Or.inr (h1 e)
    · exact Or.inl (by simpa using e)
theorem kp9_rec {τ : Nat → Bool} {D c : Nat} {x y z : Ty} : kp9 Q tq κ τ D (tRec c x y z) = true ↔ kp9 Q tq κ τ D x = true ∧ kp9 Q tq κ τ D y = true ∧ kp9 Q tq κ τ D z = true := by
  have e : ¬ 8 + c = 2 := by omega
  simp [tRec, kp9, e]
theorem kp9_lft {k n : Nat} (hκ : ∀ (t : Ty) (d : Nat), ok d t = true → hd t < 16 → κ (lft k n t) = κ t) : ∀ (f : Nat) (t : Ty) (D : Nat) (τ τ' : Nat → Bool), (flat t).length ≤ f → k ≤ D → ok D t = true → (∀ i, i < D → τ i = true → τ' (if k ≤ i then i + n else i) = true) → (∀ (a : Ty) (d : Nat), k ≤ d → ok d a = true → tq (d + n) (lft k n a) = true → tq d a = true) → kp9 Q tq κ τ D t = true → kp9 Q tq κ τ' (D + n) (lft k n t) = true
  | 0, t, D, _, _, hf, _, o, _, _, _ => by have := flat_pos o; omega
  | f + 1, t, D, τ, τ', hf, hk, o, hτ, h16, ht => by
    rcases ok_cases o with rfl | ⟨j, hj, rfl⟩ | ⟨a, b, rfl, ha, hb⟩ | ⟨a, b, rfl, ha, hb⟩ | ⟨c, x, y, z, hm, rfl, h0, h1, h2⟩
    · rw [lft_top]; exact kp9_top _ _
    · rw [lft_var]
      split <;> exact kp9_var _ _ _
    · rw [flat_fun, List.length_cons, List.length_append] at hf
      rw [kp9_fun] at ht
      rw [lft_fun, kp9_fun]
      exact ⟨kp9_lft hκ f a D τ τ' (by omega) hk ha hτ h16 ht.1, kp9_lft hκ f b D τ τ' (by omega) hk hb hτ h16 ht.2⟩
    · rw [flat_all, List.length_cons, List.length_append] at hf
      rw [kp9_all] at ht
      rw [lft_all, kp9_all]
      have hτ2 : ∀ i, i < D + 1 → updp Q τ D a i = true → updp Q τ' (D + n) (lft k n a) (if k ≤ i then i + n else i) = true := by
        intro i hi q
        unfold updp at q ⊢
        by_cases e : i = D
        · subst e
          rw [if_pos rfl] at q
          rw [if_pos hk, if_pos rfl]
          exact gkr_lft ha q
        · rw [if_neg e] at q
          have q2 := hτ i (by omega) q
          rw [if_neg (by split <;> omega)]
          exact q2
      refine ⟨fun e => ?_, kp9_lft hκ f a D τ τ' (by omega) hk ha hτ h16 ht.2.1, ?_⟩
      · have ea : tq D a = true := h16 a D hk ha e
        have q := ht.1 ea
        unfold bdr at q ⊢
        rw [Bool.or_eq_true] at q ⊢
        rcases q with q | q
        · left
          rw [decide_eq_true_iff] at q ⊢
          exact (hd_lft0 hb).1.mpr q
        · right
          by_cases v : 16 ≤ hd b
          · obtain ⟨j, hj, rfl⟩ := hd_is_var hb v
            rw [if_pos v, hd_var, show 16 + j - 16 = j by omega] at q
            have q2 := hτ2 j hj q
            rw [lft_var]
            by_cases e2 : k ≤ j
            · rw [if_pos e2] at q2 ⊢
              rw [hd_var, if_pos (by omega), show 16 + (j + n) - 16 = j + n by omega]
              exact q2
            · rw [if_neg e2] at q2 ⊢
              rw [hd_var, if_pos (by omega), show 16 + j - 16 = j by omega]
              exact q2
          · rw [if_neg v] at q
            have e2 := (hd_lft0 (k := k) (n := n) hb).2 (by omega)
            rw [e2, if_neg v, hκ b _ hb (by omega)]
            exact q
      · have q := kp9_lft hκ f b (D + 1) (updp Q τ D a) (updp Q τ' (D + n) (lft k n a)) (by omega) (by omega) hb hτ2 h16 ht.2.2
        rw [show D + 1 + n = D + n + 1 by omega] at q
        exact q
    · rw [flat_rec, List.length_cons, List.length_append, List.length_append] at hf
      rw [kp9_rec] at ht
      rw [lft_rec hm, kp9_rec]
      have key : ∀ (i : Nat) (p : Ty), (flat p).length ≤ f → okl D c i p → kp9 Q tq κ τ D p = true → kp9 Q tq κ τ' (D + n) (lft k n p) = true := by
        intro i p hp ho hn
        unfold okl at ho
        by_cases hb : bit c i = true
        · rw [if_pos hb] at ho
          exact kp9_lft hκ f p D τ τ' hp hk ho hτ h16 hn
        · rw [if_neg hb] at ho
          rw [ho]; exact kp9_nil _ _
      exact ⟨key 0 x (by omega) h0 ht.1, key 1 y (by omega) h1 ht.2.1, key 2 z (by omega) h2 ht.2.2⟩
/-- where more bounds are known to be Top -/
theorem kp9_more : ∀ (f : Nat) (t : Ty) (D : Nat) (τ τ' : Nat → Bool), (flat t).length ≤ f → ok D t = true → (∀ i, i < D → τ i = true → τ' i = true) → kp9 Q tq κ τ D t = true → kp9 Q tq κ τ' D t = true
  | 0, t, D, _, _, hf, o, _, _ => by have := flat_pos o; omega
  | f + 1, t, D, τ, τ', hf, o, hτ, ht => by
    rcases ok_cases o with rfl | ⟨j, hj, rfl⟩ | ⟨a, b, rfl, ha, hb⟩ | ⟨a, b, rfl, ha, hb⟩ | ⟨c, x, y, z, hm, rfl, h0, h1, h2⟩
    · exact kp9_top _ _
    · exact kp9_var _ _ _
    · rw [flat_fun, List.length_cons, List.length_append] at hf
      rw [kp9_fun] at ht ⊢
      exact ⟨kp9_more f a D τ τ' (by omega) ha hτ ht.1, kp9_more f b D τ τ' (by omega) hb hτ ht.2⟩
    · rw [flat_all, List.length_cons, List.length_append] at hf
      rw [kp9_all] at ht ⊢
      have hτ2 : ∀ i, i < D + 1 → updp Q τ D a i = true → updp Q τ' D a i = true := by
        intro i hi q
        unfold updp at q ⊢
        by_cases e : i = D
        · rw [if_pos e] at q ⊢; exact q
        · rw [if_neg e] at q ⊢
          exact hτ i (by omega) q
      refine ⟨fun e => ?_, kp9_more f a D τ τ' (by omega) ha hτ ht.2.1, kp9_more f b (D + 1) _ _ (by omega) hb hτ2 ht.2.2⟩
      have q := ht.1 e
      unfold bdr at q ⊢
      rw [Bool.or_eq_true] at q ⊢
      rcases q with q | q
      · exact Or.inl q
      · right
        by_cases v : 16 ≤ hd b
        · rw [if_pos v] at q ⊢
          obtain ⟨j, hj, rfl⟩ := hd_is_var hb v
          rw [hd_var, show 16 + j - 16 = j by omega] at q ⊢
          exact hτ2 j hj q
        · rw [if_neg v] at q ⊢; exact q
    · rw [flat_rec, List.length_cons, List.length_append, List.length_append] at hf
      rw [kp9_rec] at ht ⊢
      have key : ∀ (i : Nat) (p : Ty), (flat p).length ≤ f → okl D c i p → kp9 Q tq κ τ D p = true → kp9 Q tq κ τ' D p = true := by
        intro i p hp ho hn
        unfold okl at ho
        by_cases hb : bit c i = true
        · rw [if_pos hb] at ho
          exact kp9_more f p D τ τ' hp ho hτ hn
        · rw [if_neg hb] at ho
          rw [ho]; exact kp9_nil _ _
      exact ⟨key 0 x (by omega) h0 ht.1, key 1 y (by omega) h1 ht.2.1, key 2 z (by omega) h2 ht.2.2⟩
end PmMb9
section PmMc9
variable {e : Nat} {B C : Ty} {Γ0 : List Ty}
/-- every inner scheme with that bound (in the body, the bound, the bounds before) has a body of another kind -/
def HKp9 (B C : Ty) (Γ0 : List Ty) : Prop := (True ∧ hd B < 16) ∧ (hd C ≠ 0 ∧ hd C < 16) ∧ (∀ j, j < Γ0.length → kp9 C (tqN B Γ0.length) (kmt C) (taup C Γ0) j (bnd Γ0 j) = true) ∧ kp9 C (tqN B Γ0.length) (kmt C) (taup C Γ0) Γ0.length B = true ∧ kp9 C (tqN B Γ0.length) (kmt C) (updp C (taup C Γ0) Γ0.length B) (Γ0.length + 1) C = true
def Kp9 (B C : Ty) (Γ0 : List Ty) (l : Nat) (Δ : List Ty) (t : Ty) : Prop := (Γ0.length < l ∧ l ≤ (cxs Δ Γ0 (tAll B C)).length) ∧ okc (cxs Δ Γ0 (tAll B C)) ∧ gqc 5 Γ0.length l (cxs Δ Γ0 (tAll B C)) ∧ (∀ j, j < (cxs Δ Γ0 (tAll B C)).length → (j < Γ0.length ∨ l ≤ j) → kp9 C (tqN B Γ0.length) (kmt C) (taup C (cxs Δ Γ0 (tAll B C))) j (bnd (cxs Δ Γ0 (tAll B C)) j) = true) ∧ ok (cxs Δ Γ0 (tAll B C)).length t = true ∧ gq 5 Γ0.length l t = true ∧ kp9 C (tqN B Γ0.length) (kmt C) (taup C (cxs Δ Γ0 (tAll B C))) (cxs Δ Γ0 (tAll B C)).length t = true
/-- one binder more, that is old -/
theorem Kp9.ext {l : Nat} {Δ : List Ty} {a b t : Ty} (k : Kp9 B C Γ0 l Δ t) (oa : ok (cxs Δ Γ0 (tAll B C)).length a = true) (ob : ok ((cxs Δ Γ0 (tAll B C)).length + 1) b = true) (ga : gq 5 Γ0.length l a = true) (gb : gq 5 Γ0.length l b = true) (ka : kp9 C (tqN B Γ0.length) (kmt C) (taup C (cxs Δ Γ0 (tAll B C))) (cxs Δ Γ0 (tAll B C)).length a = true) (kb : kp9 C (tqN B Γ0.length) (kmt C) (updp C (taup C (cxs Δ Γ0 (tAll B C))) (cxs Δ Γ0 (tAll B C)).length a) ((cxs Δ Γ0 (tAll B C)).length + 1) b = true) : Kp9 B C Γ0 l (a :: Δ) b := by
  obtain ⟨⟨l1, l2⟩, hc, hg, hk, -, -, -⟩ := k
  have le : (cxs (a :: Δ) Γ0 (tAll B C)).length = (cxs Δ Γ0 (tAll B C)).length + 1 := rfl
  refine ⟨⟨l1, by rw [le]; omega⟩, ⟨oa, hc⟩, ?_, ?_, ob, gb, ?_⟩
  · intro j hj hp
    show gq 5 Γ0.length (min l j) (if j = (cxs Δ Γ0 (tAll B C)).length then a else bnd (cxs Δ Γ0 (tAll B C)) j) = true
    by_cases ej : j = (cxs Δ Γ0 (tAll B C)).length
    · rw [if_pos ej, ej, Nat.min_eq_left l2]; exact ga
    · rw [if_neg ej]
      exact hg j (by rw [le] at hj; omega) hp
  · intro j hj hp
    have agree : ∀ i, i < (cxs Δ Γ0 (tAll B C)).length → taup C (cxs Δ Γ0 (tAll B C)) i = true → taup C (cxs (a :: Δ) Γ0 (tAll B C)) i = true := by
      intro i hi q
      have q2 := taup_cons (Q := C) (Γ := cxs Δ Γ0 (tAll B C)) (a := a) i
      show taup C (a :: cxs Δ Γ0 (tAll B C)) i = true
      rw [q2]
      unfold updp
      rw [if_neg (by omega)]
      exact q
    show kp9 C (tqN B Γ0.length) (kmt C) (taup C (cxs (a :: Δ) Γ0 (tAll B C))) j (if j = (cxs Δ Γ0 (tAll B C)).length then a else bnd (cxs Δ Γ0 (tAll B C)) j) = true
    by_cases ej : j = (cxs Δ Γ0 (tAll B C)).length
    · rw [if_pos ej, ej]
      exact kp9_more _ a _ _ _ (Nat.le_refl _) oa agree ka
    · rw [if_neg ej]
      have hj' : j < (cxs Δ Γ0 (tAll B C)).length := by rw [le] at hj; omega
      exact kp9_more _ _ j _ _ (Nat.le_refl _) (okc_bnd' hc hj') (fun i hi => agree i (by omega)) (hk j hj' hp)
  · exact kp9_more _ b _ _ _ (Nat.le_refl _) ob (fun i _ q => by
      have q2 := taup_cons (Q := C) (Γ := cxs Δ Γ0 (tAll B C)) (a := a) i
      show taup C (a :: cxs Δ Γ0 (tAll B C)) i = true
      rw [q2]; exact q) kb
theorem Kp9.part {l : Nat} {Δ : List Ty} {t b : Ty} (k : Kp9 B C Γ0 l Δ t) (ob : ok (cxs Δ Γ0 (tAll B C)).length b = true) (gb : gq 5 Γ0.length l b = true) (kb : kp9 C (tqN B Γ0.length) (kmt C) (taup C (cxs Δ Γ0 (tAll B C))) (cxs Δ Γ0 (tAll B C)).length b = true) : Kp9 B C Γ0 l Δ b := ⟨k.1, k.2.1, k.2.2.1, k.2.2.2.1, ob, gb, kb⟩
theorem Kp_KP (e1 : 1 ≤ e) (H : HKp9 B C Γ0) (l : Nat) : KPc e B C Dsm Γ0 (Kp9 B C Γ0 l) ∧ KGc B C Dsm Γ0 (Kp9 B C Γ0 l) := by
  obtain ⟨⟨h16, hB⟩, hC, -, -, -⟩ := H
  have body : ∀ Δ f, Kp9 B C Γ0 l Δ (tAll (upb Γ0 Δ B) f) → ok (Γ0.length + 1) C = true ∧ bdr (kmt C) (updp C (taup C (cxs Δ Γ0 (tAll B C))) (cxs Δ Γ0 (tAll B C)).length (upb Γ0 Δ B)) f = true := by
    intro Δ f k
    obtain ⟨-, hc, -, -, -, -, kt⟩ := k
    have oA := okc_mid hc
    refine ⟨(ok_all.mp oA).2, (kp9_all.mp kt).1 ?_⟩
    exact tqN_up
  refine ⟨⟨⟨by unfold Dsm; exact ok_all.mpr ⟨rfl, rfl⟩, by unfold Dsm; rw [hd_all]; decide⟩, fun Δ t k => ?_⟩, fun Δ t k f et tk => ?_⟩
  · have k' := k
    obtain ⟨⟨l1, l2⟩, hc, hg, hk, ot, gt, kt⟩ := k'
    refine ⟨?_, ?_, ?_, ?_, ?_⟩
    · intro a b et
      subst et
      have o := ok_fun.mp ot
      rw [gq_fun] at gt
      rw [kp9_fun] at kt
      exact ⟨k.part o.1 gt.1 kt.1, k.part o.2 gt.2 kt.2⟩
    · intro m x y z hm et
      subst et
      have o := (ok_rec hm).mp ot
      rw [gq_rec] at gt
      rw [kp9_rec] at kt
      exact ⟨fun b => k.part (okl_on o.1 (bit_iff.mp b)) gt.1 kt.1, fun b => k.part (okl_on o.2.1 (bit_iff.mp b)) gt.2.1 kt.2.1, fun b => k.part (okl_on o.2.2 (bit_iff.mp b)) gt.2.2 kt.2.2⟩
    · intro a b et
      subst et
      have o := ok_all.mp ot
      rw [gq_all] at gt
      rw [kp9_all] at kt
      exact k.ext o.1 o.2 gt.2.1 gt.2.2 kt.2.1 kt.2.2
    · intro j et hj
      subst et
      rw [gq_var] at gt
      refine ⟨by omega, k.part (ok_expose hc hj) ?_ ?_⟩
      · exact gq_lft (by decide) (by omega) _ (bnd (cxs Δ Γ0 (tAll B C)) j) j (Nat.le_refl _) (okc_bnd' hc hj) (hg j hj gt)
      · have q := kp9_lft (kmt_lft _ _) (k := j) (n := (cxs Δ Γ0 (tAll B C)).length - j) _ (bnd (cxs Δ Γ0 (tAll B C)) j) j (taup C (cxs Δ Γ0 (tAll B C))) (taup C (cxs Δ Γ0 (tAll B C))) (Nat.le_refl _) (Nat.le_refl _) (okc_bnd' hc hj) (fun i hi q => by rw [if_neg (by omega)]; exact q) (tqN_lft (by have := cxs_len Δ Γ0 (tAll B C); omega)) (hk j hj gt)
        rw [show j + ((cxs Δ Γ0 (tAll B C)).length - j) = (cxs Δ Γ0 (tAll B C)).length by omega] at q
        exact q
    · intro f et tb
      subst et
      obtain ⟨oC, q⟩ := body Δ f k
      exact (ev_smallp e1 hC tb.1 oC q).1
  · subst et
    obtain ⟨oC, q⟩ := body Δ f k
    have ev := (ev_smallp (e := 1) (by decide) hC tk oC q).2
    obtain ⟨-, -, d⟩ := Dsm_num (e := 1) (upb Γ0 Δ B :: cxs Δ Γ0 (tAll B Dsm)) false (by decide)
    rw [up_Dsm, d]
    exact ev
theorem HKp9.ov (e1 : 1 ≤ e) (H : HKp9 B C Γ0) : OVq e B C Dsm Γ0 := by
  have H' := H
  obtain ⟨⟨h16, hB⟩, hC, h0, hkB, hkC⟩ := H'
  refine ⟨⟨by unfold Dsm; exact ok_all.mpr ⟨rfl, rfl⟩, by unfold Dsm; rw [hd_all]; decide⟩, fun Δ hc => ?_⟩
  have K := Kp_KP (e := e) e1 H (cxs Δ Γ0 (tAll B C)).length
  refine ⟨_, K.1, K.2, ?_⟩
  have oA := okc_mid hc
  have oB := (ok_all.mp oA).1
  have oC := (ok_all.mp oA).2
  have le : (cxs Δ Γ0 (tAll B C)).length = Γ0.length + (Δ.length + 1) := by rw [cxs_len]; omega
  have agree : ∀ i, i < Γ0.length → taup C Γ0 i = true → taup C (cxs Δ Γ0 (tAll B C)) i = true := by
    intro i hi q
    unfold taup at q ⊢
    rw [cxs_lowb Δ i hi]
    exact q
  have base : Kp9 B C Γ0 (cxs Δ Γ0 (tAll B C)).length Δ tTop := by
    refine ⟨⟨by omega, Nat.le_refl _⟩, hc, ?_, ?_, rfl, gq_top, kp9_top _ _⟩
    · intro j hj hp
      have hj0 : j < Γ0.length := by omega
      rw [Nat.min_eq_right (by omega)]
      exact gq5 _ _ j (Nat.le_refl _) (okc_bnd' hc hj) (Nat.le_refl _) (fun i hi => Or.inl (by omega))
    · intro j hj hp
      have hj0 : j < Γ0.length := by omega
      have ob := okc_bnd' hc hj
      rw [cxs_lowb Δ j hj0] at ob ⊢
      exact kp9_more _ _ j _ _ (Nat.le_refl _) ob (fun i hi => agree i (by omega)) (h0 j hj0)
  have oUB : ok (cxs Δ Γ0 (tAll B C)).length (upb Γ0 Δ B) = true ∧ ok ((cxs Δ Γ0 (tAll B C)).length + 1) (upb Γ0 Δ C) = true := by
    have a := up_ok (B := B) (C := C) hc
    rw [upb_all] at a
    exact ok_all.mp a
  have gB : gq 5 Γ0.length (cxs Δ Γ0 (tAll B C)).length (upb Γ0 Δ B) = true := by
    refine gq_lft (by decide) (Nat.le_of_eq le) _ B _ (Nat.le_refl _) oB ?_
    rw [Nat.min_eq_right (by omega)]
    exact gq5 _ B _ (Nat.le_refl _) oB (Nat.le_refl _) (fun i hi => Or.inl hi)
  have gC : gq 5 Γ0.length (cxs Δ Γ0 (tAll B C)).length (upb Γ0 Δ C) = true := by
    refine gq_lft (by decide) (Nat.le_of_eq le) _ C _ (Nat.le_refl _) oC ?_
    rw [Nat.min_eq_right (by omega)]
    exact gq5 _ C _ (Nat.le_refl _) oC (by omega) (fun i hi => by omega)
  have kB := kp9_lft (kmt_lft _ _) (k := Γ0.length) (n := Δ.length + 1) _ B Γ0.length (taup C Γ0) (taup C (cxs Δ Γ0 (tAll B C))) (Nat.le_refl _) (Nat.le_refl _) oB (fun i hi q => by rw [if_neg (by omega)]; exact agree i hi q) (tqN_lft (by omega)) hkB
  rw [← le] at kB
  have kC := kp9_lft (kmt_lft _ _) (k := Γ0.length) (n := Δ.length + 1) _ C (Γ0.length + 1) (updp C (taup C Γ0) Γ0.length B) (updp C (taup C (cxs Δ Γ0 (tAll B C))) (cxs Δ Γ0 (tAll B C)).length (upb Γ0 Δ B)) (Nat.le_refl _) (by omega) oC (fun i hi q => by
    unfold updp at q ⊢
    by_cases ei : i = Γ0.length
    · rw [if_pos ei] at q
      rw [if_pos (show Γ0.length ≤ i by omega), if_pos (by omega)]
      exact gkr_lft oB q
    · rw [if_neg ei] at q
      have hi0 : i < Γ0.length := by omega
      rw [if_neg (show ¬ Γ0.length ≤ i by omega), if_neg (by omega)]
      exact agree i hi0 q) (tqN_lft (by omega)) hkC
  rw [show Γ0.length + 1 + (Δ.length + 1) = (cxs Δ Γ0 (tAll B C)).length + 1 by omega] at kC
  exact base.ext oUB.1 oUB.2 gB gC kB kC
end PmMc9
theorem kp9_sN {Q B : Ty} {κ : Ty → Bool} {d0 : Nat} : ∀ (n : Nat) (t : Ty) (D : Nat) (τ : Nat → Bool), (flat t).length ≤ n → ok D t = true → sN B d0 D t = false → kp9 Q (tqN B d0) κ τ D t = true
  | 0, t, D, _, hf, o, _ => by have := flat_pos o; omega
  | n + 1, t, D, τ, hf, o, h => by
    rcases ok_cases o with rfl | ⟨j, hj, rfl⟩ | ⟨x, y, rfl, hx, hy⟩ | ⟨x, y, rfl, hx, hy⟩ | ⟨m, x, y, z, hm, rfl, h0, h1, h2⟩
    · exact kp9_top _ _
    · exact kp9_var _ _ _
    · rw [flat_fun, List.length_cons, List.length_append] at hf
      rw [sN_fun, Bool.or_eq_false_iff] at h
      exact kp9_fun.mpr ⟨kp9_sN n x D _ (by omega) hx h.1, kp9_sN n y D _ (by omega) hy h.2⟩
    · rw [flat_all, List.length_cons, List.length_append] at hf
      rw [sN_all, Bool.or_eq_false_iff, Bool.or_eq_false_iff] at h
      exact kp9_all.mpr ⟨fun tq => absurd tq (by rw [h.1]; decide), kp9_sN n x D _ (by omega) hx h.2.1, kp9_sN n y (D + 1) _ (by omega) hy h.2.2⟩
    · rw [flat_rec, List.length_cons, List.length_append, List.length_append] at hf
      rw [sN_rec, Bool.or_eq_false_iff, Bool.or_eq_false_iff] at h
      have key : ∀ (i : Nat) (p : Ty), (flat p).length ≤ n → okl D m i p → sN B d0 D p = false → kp9 Q (tqN B d0) κ τ D p = true := by
        intro i p hp ho hs
        unfold okl at ho
        by_cases hb : bit m i = true
        · rw [if_pos hb] at ho
          exact kp9_sN n p D _ hp ho hs
        · rw [if_neg hb] at ho
          rw [ho]; exact kp9_nil _ _
      exact kp9_rec.mpr ⟨key 0 x (by omega) h0 h.1, key 1 y (by omega) h1 h.2.1, key 2 z (by omega) h2 h.2.2⟩
/-- at most eight characters that hold a scheme with the bound [] are such a scheme -/
theorem sN_r8 {d0 D : Nat} {t : Ty} (o : ok D t = true) (l : tch t ≤ 8) (h : sN tR0 d0 D t = true) : ∃ f, t = tAll tR0 f ∧ ok (D + 1) f = true ∧ tch f ≤ 2 := by
  rcases ok_cases o with rfl | ⟨j, hj, rfl⟩ | ⟨a, c, rfl, ha, hb⟩ | ⟨a, c, rfl, ha, hb⟩ | ⟨m, x, y, z, hm', rfl, h0, h1, h2⟩
  · have h : false = true := h
    cases h
  · simp [tVar, sN] at h
  · exfalso
    rw [sN_fun, Bool.or_eq_true] at h
    have := tch_pos ha
    have := tch_pos hb
    rw [tch_fun] at l
    rcases h with h | h
    · have := sN_nine _ a D (Nat.le_refl _) ha h
      omega
    · have := sN_nine _ c D (Nat.le_refl _) hb h
      omega
  · rw [sN_all, Bool.or_eq_true, Bool.or_eq_true] at h
    have p1 := tch_pos ha
    have p2 := tch_pos hb
    rw [tch_all] at l
    rcases h with h | h | h
    · have q := tqN_r0 ha h
      unfold tqB at q
      have e2 := flat_eq ha (show ok D tR0 = true by unfold tR0; exact (ok_rec (by decide)).mpr ⟨rfl, rfl, rfl⟩) (of_decide_eq_true q)
      have e3 : tch tR0 = 2 := rfl
      subst e2
      exact ⟨c, rfl, hb, by omega⟩
    · have := sN_nine _ a D (Nat.le_refl _) ha h
      omega
    · have := sN_nine _ c (D + 1) (Nat.le_refl _) hb h
      omega
  · exfalso
    have key : ∀ (i : Nat) (p : Ty), i < 3 → okl D m i p → sN tR0 d0 D p = true → 7 ≤ tch p ∧ 3 ≤ rch m := by
      intro i p hi ho hs
      unfold okl at ho
      by_cases hb : bit m i = true
      · rw [if_pos hb] at ho
        have := sN_nine _ p D (Nat.le_refl _) ho hs
        exact ⟨by omega, rch_three m hm' i hi hb⟩
      · rw [if_neg hb] at ho
        rw [ho] at hs
        simp [sN] at hs
    rw [sN_rec, Bool.or_eq_true, Bool.or_eq_true] at h
    rw [tch_rec] at l
    rcases h with h | h | h
    · have := key 0 x (by decide) h0 h
      omega
    · have := key 1 y (by decide) h1 h
      omega
    · have := key 2 z (by decide) h2 h
      omega
theorem one_long {a : Ty} : ∀ {Γ : List Ty}, a ∈ Γ → 7 ≤ tch a → cch Γ ≤ 12 → Γ = [a]
  | [], h, _, _ => by cases h
  | b :: Γ, h, h7, hc => by
    have hc : (tch b + 4) + cch Γ ≤ 12 := hc
    rcases List.mem_cons.mp h with e | e
    · subst e
      cases Γ with
      | nil => rfl
      | cons c Γ =>
        have := mem_cch (a := c) (Γ := c :: Γ) (List.mem_cons_self ..)
        omega
    · have := mem_cch e
      omega
theorem kmt_r0 {C : Ty} (hC : hd C < 16) (h8 : hd C ≠ 8) : kmr C tR0 = true := by
  unfold kmr
  have e : hd tR0 = 8 := rfl
  rw [Bool.or_eq_true, decide_eq_true_iff]
  by_cases c : hd C < 8
  · left
    unfold kms kmm
    rw [Bool.or_eq_true, decide_eq_true_iff]
    left
    right
    right
    exact ⟨by omega, c⟩
  · right
    omega
theorem rch_two9 : ∀ m, m < 8 → 2 ≤ rch m := by decide
theorem r0_ov {C : Ty} {Γ0 : List Ty} (hc : okc Γ0) (ob : ok Γ0.length (tAll tR0 C) = true) (hC : hd C ≠ 0 ∧ hd C < 16) (h8 : hd C ≠ 8) (q : cch Γ0 ≤ 12) (fl : sN tR0 Γ0.length (Γ0.length + 1) C = false) : OVq 1 tR0 C Dsm Γ0 := by
  have oC := (ok_all.mp ob).2
  have kR := kmt_r0 hC.2 h8
  have r0 : ∀ (D : Nat) (τ : Nat → Bool), kp9 C (tqN tR0 Γ0.length) (kmt C) τ D tR0 = true := fun D τ => kp9_rec.mpr ⟨kp9_nil _ _, kp9_nil _ _, kp9_nil _ _⟩
  refine HKp9.ov (Nat.le_refl _) ⟨⟨trivial, by decide⟩, hC, ?_, r0 _ _, kp9_sN _ C _ _ (Nat.le_refl _) oC fl⟩
  intro j hj
  have obj := okc_bnd' hc hj
  by_cases s : sN tR0 Γ0.length j (bnd Γ0 j) = true
  rotate_left
  · exact kp9_sN _ _ _ _ (Nat.le_refl _) obj (by simpa using s)
  have mem := bnd_mem Γ0 j hj
  have l := mem_cch mem
  have nine := sN_nine _ _ _ (Nat.le_refl _) obj s
  obtain ⟨f, ef, of, lf⟩ := sN_r8 obj (by omega) s
  have eΓ := one_long mem (by omega) q
  have j0 : j = 0 := by rw [eΓ] at hj; exact Nat.lt_one_iff.mp hj
  subst j0
  rw [ef]
  have kf : kp9 C (tqN tR0 Γ0.length) (kmt C) (updp C (taup C Γ0) 0 tR0) (0 + 1) f = true := by
    refine kp9_sN _ f _ _ (Nat.le_refl _) of ?_
    cases q2 : sN tR0 Γ0.length (0 + 1) f with
    | false => rfl
    | true =>
      have := sN_nine _ _ _ (Nat.le_refl _) of q2
      omega
  have gR : gkr C tR0 = true := by
    unfold gkr
    rw [kR]
    rfl
  refine kp9_all.mpr ⟨fun _ => ?_, r0 _ _, kf⟩
  unfold bdr
  rw [Bool.or_eq_true]
  rcases ok_cases of with rfl | ⟨i, hi, rfl⟩ | ⟨x, y, rfl, hx, hy⟩ | ⟨x, y, rfl, hx, hy⟩ | ⟨m, x, y, z, hm, rfl, h0, h1, h2⟩
  · left
    rfl
  · right
    have i0 : i = 0 := by omega
    subst i0
    rw [hd_var, if_pos (by omega)]
    show updp C (taup C Γ0) 0 tR0 0 = true
    unfold updp
    rw [if_pos rfl]
    exact gR
  · exfalso
    have := tch_pos hx
    have := tch_pos hy
    rw [tch_fun] at lf
    omega
  · exfalso
    have := tch_pos hx
    have := tch_pos hy
    rw [tch_all] at lf
    omega
  · right
    have h2' : tch (tRec m x y z) = 2 := by
      have := rch_two9 m hm
      rw [tch_rec] at lf ⊢
      omega
    have e2 := two_rec of h2'
    rw [e2, if_neg (by decide)]
    unfold kmt
    rw [kR]
    rfl
/-- a binder's room is its own, or leaves five more for another one -/
theorem cch_gap {a : Ty} : ∀ {Γ : List Ty}, a ∈ Γ → cch Γ = tch a + 4 ∨ tch a + 8 ≤ cch Γ
  | [], h => by cases h
  | b :: Γ, h => by
    show (tch b + 4) + cch Γ = tch a + 4 ∨ tch a + 8 ≤ (tch b + 4) + cch Γ
    rcases List.mem_cons.mp h with e | e
    · subst e
      cases Γ with
      | nil => exact Or.inl rfl
      | cons c Γ =>
        have := mem_cch (a := c) (Γ := c :: Γ) (List.mem_cons_self ..)
        omega
    · have := mem_cch e
      omega
def W9z (f : Nat) (x y t : Ty) (m : Nat) (e : Bool) (Γ : List Ty) : Prop := ∃ (Δ1 Γ0 : List Ty) (B C : Ty), Γ = cxs Δ1 Γ0 (tAll B C) ∧ LBd Γ0 Δ1 (tAll B C) tTop B C ∧ 1 ≤ cch Γ0 + cch Δ1 ∧ exl e m (tch B) (tch C) (cch Γ0) (cch Δ1) = true ∧ e = false ∧ (6 ≤ m ∨ 1 ≤ cch Δ1) ∧ ((tch B = 1 ∧ tp2 (tch B) (tch C) (cch Γ0) (cch Δ1) = true) ∨ (2 ≤ tch B ∧ sN B Γ0.length (Γ0.length + 1) C = true ∧ (m ≤ 5 ∧ lx9 e m (tch B) (tch C) (cch Γ0) (cch Δ1) = true)) ∨ (4 ≤ tch B ∧ sN B Γ0.length (Γ0.length + 1) C = false ∧ ∃ j, j < Γ0.length ∧ sN B Γ0.length j (bnd Γ0 j) = true) ∨ (2 ≤ tch B ∧ OVq 1 B C Dsm Γ0 ∧ ndk (cch Γ0) (cch Δ1) = false ∧ ((¬ CFt f t ∧ 6 ≤ m ∧ ∃ o, (o = x ∨ o = y) ∧ mch t + mch o = mch x + mch y ∧ (CFt f o → rx9 (tch B) (tch C) (cch Γ0) (cch Δ1) (mch o) (mch t) = false)) ∨ (CFt f t ∧ (¬ (CFt f x ∧ CFt f y) ∨ B7z (tch B) (tch C) (cch Γ0) (cch Δ1) = false) ∧ rx9 (tch B) (tch C) (cch Γ0) (cch Δ1) (mch t) (mch x + mch y - mch t) = false))))
def RESTS9 : Prop := ∀ (f : Nat) (x y : Ty) (Γ : List Ty) (Δ : List (Nat × Ty × Nat)) (t : Ty), H9 f x y Γ Δ → Sh9 x y t → (¬ CHo f t [] ∨ (CHo f t [] ∧ (W9c (mch (pee f t).2) Δ.isEmpty Γ ∨ W9z f x y t (mch (pee f t).2) Δ.isEmpty Γ))) → PRn f x y Γ Δ
def r0c (q6 : Bool) (E : List (List (Nat × Nat × Nat × Nat))) : Bool := E.all (fun l => l.all (fun a => !(Nat.beq a.1 2) || (Nat.ble a.2.2.1 10 || (Nat.beq a.2.2.2 0 && (q6 || (Nat.ble a.2.2.1 13 && (ndk a.2.2.1 0 && Nat.ble 18 a.2.1)))))))
theorem r0c_0 : r0c true eL0 = true := by decide +kernel
theorem r0c_1 : r0c false eL1 = true := by decide +kernel
theorem restR9_of (R : RESTS9) : RESTR9 := by
  intro f x y Γ Δ t H sh h
  rcases h with h | ⟨ch, h | h⟩
  · exact R f x y Γ Δ t H sh (Or.inl h)
  · exact R f x y Γ Δ t H sh (Or.inr ⟨ch, Or.inl h⟩)
  obtain ⟨Δ1, Γ0, B, C, e, lb, nz, hx, eI, h3, h4⟩ := h
  have keep := fun q => R f x y Γ Δ t H sh (Or.inr ⟨ch, Or.inr ⟨Δ1, Γ0, B, C, e, lb, nz, hx, eI, h3, q⟩⟩)
  rcases h4 with h4 | h4 | ⟨b2, fl, j, hj, s⟩ | h4
  · exact keep (Or.inl h4)
  · exact keep (Or.inr (Or.inl h4))
  · by_cases b4 : 4 ≤ tch B
    · exact keep (Or.inr (Or.inr (Or.inl ⟨b4, fl, j, hj, s⟩)))
    exfalso
    obtain ⟨-, -, ⟨he, -⟩, -, ng, -⟩ := H
    have hc := he.1
    rw [e] at hc
    obtain ⟨oc0, ob⟩ := okc_low Δ1 hc
    have oB := (ok_all.mp ob).1
    have oC := (ok_all.mp ob).2
    have n3 := tch_three oB
    have eB := two_rec oB (by omega)
    subst eB
    have e2 : tch tR0 = 2 := rfl
    have obj := okc_bnd' oc0 hj
    have l := mem_cch (bnd_mem Γ0 j hj)
    have nine := sN_nine _ _ _ (Nat.le_refl _) obj s
    rw [eI, e2] at hx
    unfold exl at hx
    rw [if_neg Bool.false_ne_true] at hx
    by_cases m5 : mch (pee f t).2 ≤ 5
    · rw [if_pos (Nat.ble_eq_true_of_le m5)] at hx
      obtain ⟨L, hL, hm⟩ := eL_mem hx
      have z := List.all_eq_true.mp (List.all_eq_true.mp r0c_0 L hL) _ hm
      have z : (!(Nat.beq 2 2) || (Nat.ble (cch Γ0) 10 || (Nat.beq (cch Δ1) 0 && (true || (Nat.ble (cch Γ0) 13 && (ndk (cch Γ0) 0 && Nat.ble 18 (tch C))))))) = true := z
      rw [Bool.or_eq_true, Bool.or_eq_true, Bool.and_eq_true] at z
      rcases z with z | z | z
      · cases z
      · have := Nat.le_of_ble_eq_true z
        omega
      · have := Nat.eq_of_beq_eq_true z.1
        omega
    · rw [if_neg (fun q => m5 (Nat.le_of_ble_eq_true q))] at hx
      obtain ⟨L, hL, hm⟩ := eL_mem hx
      have z := List.all_eq_true.mp (List.all_eq_true.mp r0c_1 L hL) _ hm
      have z : (!(Nat.beq 2 2) || (Nat.ble (cch Γ0) 10 || (Nat.beq (cch Δ1) 0 && (false || (Nat.ble (cch Γ0) 13 && (ndk (cch Γ0) 0 && Nat.ble 18 (tch C))))))) = true := z
      rw [Bool.or_eq_true, Bool.or_eq_true, Bool.and_eq_true, Bool.false_or, Bool.and_eq_true, Bool.and_eq_true] at z
      rcases z with z | z | ⟨z1, z2, z3, z4⟩
      · cases z
      · have := Nat.le_of_ble_eq_true z
        omega
      have z1 := Nat.eq_of_beq_eq_true z1
      have z2 := Nat.le_of_ble_eq_true z2
      have z4 := Nat.le_of_ble_eq_true z4
      have q12 : cch Γ0 ≤ 12 := by
        refine Classical.byContradiction (fun q => ?_)
        have q13 : cch Γ0 = 13 := by omega
        -- a bound of 9 characters there is none; a shorter one leaves fewer than a binder takes
        have gap := cch_gap (bnd_mem Γ0 j hj)
        omega
      have hC : hd C ≠ 0 ∧ hd C < 16 ∧ hd C ≠ 8 := by
        rcases ok_cases oC with rfl | ⟨i, hi, rfl⟩ | ⟨a, c, rfl, ha, hb⟩ | ⟨a, c, rfl, ha, hb⟩ | ⟨m, u, v, w, hm', rfl, o0, o1, o2⟩
        · exact absurd z4 (by decide)
        · exact absurd z4 (by show ¬ 18 ≤ 1; omega)
        · rw [hd_fun]; decide
        · rw [hd_all]; decide
        · rw [hd_rec]
          refine ⟨by omega, by omega, fun q => ?_⟩
          have m0 : m = 0 := by omega
          subst m0
          have u0 : u = .nil := o0
          have v0 : v = .nil := o1
          have w0 : w = .nil := o2
          rw [u0, v0, w0] at z4
          exact absurd z4 (by decide)
      have ov := r0_ov oc0 ob ⟨hC.1, hC.2.1⟩ hC.2.2 q12 fl
      exact ng.2 Δ1 Γ0 tR0 C e (by rw [z1]; exact z3) ov
  · exact keep (Or.inr (Or.inr (Or.inr h4)))
theorem pairn_ps (R : RESTS9) : PAIRn := pairn_pr (restR9_of R)
