/-! OLD TYPES, ONCE MORE: a body may also be a variable whose bound is of another kind. -/
/-- a bound that is Top, or of another kind than m -/
def gk (m c : Nat) : Bool := decide (c = 0) || (decide (c < 16) && kmm m c)
theorem gk_lft {m k n d : Nat} {a : Ty} (o : ok d a = true) (h : gk m (hd a) = true) : gk m (hd (lft k n a)) = true := by
  by_cases c : hd a < 16
  · rw [(hd_lft0 o).2 c]; exact h
  · unfold gk at h
    rw [decide_eq_false (show ¬ hd a = 0 by omega), decide_eq_false c] at h
    cases h
def updr (m : Nat) (τ : Nat → Bool) (D : Nat) (a : Ty) : Nat → Bool := fun i => if i = D then gk m (hd a) else τ i
/-- a body against which the scheme's own body stands only a moment: Top, a variable whose bound is Top, another kind -/
def bdr (κ : Ty → Bool) (τ : Nat → Bool) (b : Ty) : Bool := decide (hd b = 0) || (if 16 ≤ hd b then τ (hd b - 16) else κ b)
def kr (m h : Nat) (κ : Ty → Bool) : (Nat → Bool) → Nat → Ty → Bool
  | τ, D, .tag c (.append a b) => if c = 2 then ((!(hd a == h)) || bdr κ (updr m τ D a) b) && (kr m h κ τ D a && kr m h κ (updr m τ D a) (D + 1) b) else kr m h κ τ D a && kr m h κ τ D b
  | τ, D, .append a b => kr m h κ τ D a && kr m h κ τ D b
  | _, _, _ => true
section PmZt
variable {m h : Nat} {κ : Ty → Bool}
theorem kr_top (τ : Nat → Bool) (D : Nat) : kr m h κ τ D tTop = true := by simp [tTop, kr]
theorem kr_var (τ : Nat → Bool) (D k : Nat) : kr m h κ τ D (tVar k) = true := by simp [tVar, kr]
theorem kr_nil (τ : Nat → Bool) (D : Nat) : kr m h κ τ D .nil = true := by simp [kr]
theorem kr_fun {τ : Nat → Bool} {D : Nat} {a b : Ty} : kr m h κ τ D (tFun a b) = true ↔ kr m h κ τ D a = true ∧ kr m h κ τ D b = true := by simp [tFun, kr]
theorem kr_all {τ : Nat → Bool} {D : Nat} {a b : Ty} : kr m h κ τ D (tAll a b) = true ↔ (hd a = h → bdr κ (updr m τ D a) b = true) ∧ kr m h κ τ D a = true ∧ kr m h κ (updr m τ D a) (D + 1) b = true := by
  simp only [tAll, kr, if_true, Bool.and_eq_true, Bool.or_eq_true, Bool.not_eq_true', beq_eq_false_iff_ne]
  constructor
  · rintro ⟨h1, h2⟩
    exact ⟨fun e => h1.resolve_left (fun n => n e), h2⟩
  · rintro ⟨h1, h2⟩
    refine ⟨?_, h2⟩
    by_cases e : hd a = h
    · exact Or.inr (h1 e)
    · exact Or.inl e
theorem kr_rec {τ : Nat → Bool} {D c : Nat} {x y z : Ty} : kr m h κ τ D (tRec c x y z) = true ↔ kr m h κ τ D x = true ∧ kr m h κ τ D y = true ∧ kr m h κ τ D z = true := by
  have e : ¬ 8 + c = 2 := by omega
  simp [tRec, kr, e]
theorem kr_lft {k n : Nat} (hκ : ∀ (t : Ty) (d : Nat), ok d t = true → hd t < 16 → κ (lft k n t) = κ t) : ∀ (f : Nat) (t : Ty) (D : Nat) (τ τ' : Nat → Bool), (flat t).length ≤ f → k ≤ D → ok D t = true → (∀ i, i < D → τ i = true → τ' (if k ≤ i then i + n else i) = true) → h < 16 → kr m h κ τ D t = true → kr m h κ τ' (D + n) (lft k n t) = true
  | 0, t, D, _, _, hf, _, o, _, _, _ => by have := flat_pos o; omega
  | f + 1, t, D, τ, τ', hf, hk, o, hτ, h16, ht => by
    rcases ok_cases o with rfl | ⟨j, hj, rfl⟩ | ⟨a, b, rfl, ha, hb⟩ | ⟨a, b, rfl, ha, hb⟩ | ⟨c, x, y, z, hm, rfl, h0, h1, h2⟩
    · rw [lft_top]; exact kr_top _ _
    · rw [lft_var]
      split <;> exact kr_var _ _ _
    · rw [flat_fun, List.length_cons, List.length_append] at hf
      rw [kr_fun] at ht
      rw [lft_fun, kr_fun]
      exact ⟨kr_lft hκ f a D τ τ' (by omega) hk ha hτ h16 ht.1, kr_lft hκ f b D τ τ' (by omega) hk hb hτ h16 ht.2⟩
    · rw [flat_all, List.length_cons, List.length_append] at hf
      rw [kr_all] at ht
      rw [lft_all, kr_all]
      have hτ2 : ∀ i, i < D + 1 → updr m τ D a i = true → updr m τ' (D + n) (lft k n a) (if k ≤ i then i + n else i) = true := by
        intro i hi q
        unfold updr at q ⊢
        by_cases e : i = D
        · subst e
          rw [if_pos rfl] at q
          rw [if_pos hk, if_pos rfl]
          exact gk_lft ha q
        · rw [if_neg e] at q
          have q2 := hτ i (by omega) q
          rw [if_neg (by split <;> omega)]
          exact q2
      refine ⟨fun e => ?_, kr_lft hκ f a D τ τ' (by omega) hk ha hτ h16 ht.2.1, ?_⟩
      · have ea : hd a = h := by
          rw [lft_hd ha] at e
          split at e <;> omega
        have q := ht.1 ea
        unfold bdr at q ⊢
        rw [Bool.or_eq_true] at q ⊢
        rcases q with q | q
        · left
          rw [decide_eq_true_iff] at q ⊢
          exact (hd_lft0 hb).1.mpr q
        · right
          by_cases v : 16 ≤ hd b
          · obtain ⟨j, hj, rfl⟩ := hd_is_var hb v
            rw [if_pos v, hd_var, show 16 + j - 16 = j by omega] at q
            have q2 := hτ2 j hj q
            rw [lft_var]
            by_cases e2 : k ≤ j
            · rw [if_pos e2] at q2 ⊢
              rw [hd_var, if_pos (by omega), show 16 + (j + n) - 16 = j + n by omega]
              exact q2
            · rw [if_neg e2] at q2 ⊢
              rw [hd_var, if_pos (by omega), show 16 + j - 16 = j by omega]
              exact q2
          · rw [if_neg v] at q
            have e2 := (hd_lft0 (k := k) (n := n) hb).2 (by omega)
            rw [e2, if_neg v, hκ b _ hb (by omega)]
            exact q
      · have q := kr_lft hκ f b (D + 1) (updr m τ D a) (updr m τ' (D + n) (lft k n a)) (by omega) (by omega) hb hτ2 h16 ht.2.2
        rw [show D + 1 + n = D + n + 1 by omega] at q
        exact q
    · rw [flat_rec, List.length_cons, List.length_append, List.length_append] at hf
      rw [kr_rec] at ht
      rw [lft_rec hm, kr_rec]
      have key : ∀ (i : Nat) (p : Ty), (flat p).length ≤ f → okl D c i p → kr m h κ τ D p = true → kr m h κ τ' (D + n) (lft k n p) = true := by
        intro i p hp ho hn
        unfold okl at ho
        by_cases hb : bit c i = true
        · rw [if_pos hb] at ho
          exact kr_lft hκ f p D τ τ' hp hk ho hτ h16 hn
        · rw [if_neg hb] at ho
          rw [ho]; exact kr_nil _ _
      exact ⟨key 0 x (by omega) h0 ht.1, key 1 y (by omega) h1 ht.2.1, key 2 z (by omega) h2 ht.2.2⟩
/-- where more bounds are known to be Top -/
theorem kr_more : ∀ (f : Nat) (t : Ty) (D : Nat) (τ τ' : Nat → Bool), (flat t).length ≤ f → ok D t = true → (∀ i, i < D → τ i = true → τ' i = true) → kr m h κ τ D t = true → kr m h κ τ' D t = true
  | 0, t, D, _, _, hf, o, _, _ => by have := flat_pos o; omega
  | f + 1, t, D, τ, τ', hf, o, hτ, ht => by
    rcases ok_cases o with rfl | ⟨j, hj, rfl⟩ | ⟨a, b, rfl, ha, hb⟩ | ⟨a, b, rfl, ha, hb⟩ | ⟨c, x, y, z, hm, rfl, h0, h1, h2⟩
    · exact kr_top _ _
    · exact kr_var _ _ _
    · rw [flat_fun, List.length_cons, List.length_append] at hf
      rw [kr_fun] at ht ⊢
      exact ⟨kr_more f a D τ τ' (by omega) ha hτ ht.1, kr_more f b D τ τ' (by omega) hb hτ ht.2⟩
    · rw [flat_all, List.length_cons, List.length_append] at hf
      rw [kr_all] at ht ⊢
      have hτ2 : ∀ i, i < D + 1 → updr m τ D a i = true → updr m τ' D a i = true := by
        intro i hi q
        unfold updr at q ⊢
        by_cases e : i = D
        · rw [if_pos e] at q ⊢; exact q
        · rw [if_neg e] at q ⊢
          exact hτ i (by omega) q
      refine ⟨fun e => ?_, kr_more f a D τ τ' (by omega) ha hτ ht.2.1, kr_more f b (D + 1) _ _ (by omega) hb hτ2 ht.2.2⟩
      have q := ht.1 e
      unfold bdr at q ⊢
      rw [Bool.or_eq_true] at q ⊢
      rcases q with q | q
      · exact Or.inl q
      · right
        by_cases v : 16 ≤ hd b
        · rw [if_pos v] at q ⊢
          obtain ⟨j, hj, rfl⟩ := hd_is_var hb v
          rw [hd_var, show 16 + j - 16 = j by omega] at q ⊢
          exact hτ2 j hj q
        · rw [if_neg v] at q ⊢; exact q
    · rw [flat_rec, List.length_cons, List.length_append, List.length_append] at hf
      rw [kr_rec] at ht ⊢
      have key : ∀ (i : Nat) (p : Ty), (flat p).length ≤ f → okl D c i p → kr m h κ τ D p = true → kr m h κ τ' D p = true := by
        intro i p hp ho hn
        unfold okl at ho
        by_cases hb : bit c i = true
        · rw [if_pos hb] at ho
          exact kr_more f p D τ τ' hp ho hτ hn
        · rw [if_neg hb] at ho
          rw [ho]; exact kr_nil _ _
      exact ⟨key 0 x (by omega) h0 ht.1, key 1 y (by omega) h1 ht.2.1, key 2 z (by omega) h2 ht.2.2⟩
end PmZt
def taur (m : Nat) (Γ : List Ty) : Nat → Bool := fun i => gk m (hd (bnd Γ i))
section PmZu
variable {e : Nat} {B C : Ty} {Γ0 : List Ty} {h : Nat}
theorem ev_smallr (e1 : 1 ≤ e) (hC : hd C ≠ 0 ∧ hd C < 16) {Δ : List Ty} {f : Ty} (tk : tok (upb Γ0 Δ B :: cxs Δ Γ0 (tAll B C), f, upb Γ0 Δ C)) (oC : ok (Γ0.length + 1) C = true) (q : bdr (kms C) (updr (hd C) (taur (hd C) (cxs Δ Γ0 (tAll B C))) (cxs Δ Γ0 (tAll B C)).length (upb Γ0 Δ B)) f = true) : EVb e B C Dsm Γ0 Δ f ∧ gn (0, upb Γ0 Δ B :: cxs Δ Γ0 (tAll B C), f, upb Γ0 Δ C) ≤ 2 ∧ gn (0, upb Γ0 Δ B :: cxs Δ Γ0 (tAll B C), upb Γ0 Δ C, f) ≤ 2 := by
  have hX : hd (upb Γ0 Δ C) = hd C := (hd_lft0 oC).2 hC.2
  have nX : ¬ 16 ≤ hd (upb Γ0 Δ C) := by omega
  have tk2 : tok (upb Γ0 Δ B :: cxs Δ Γ0 (tAll B C), upb Γ0 Δ C, f) := ⟨tk.1, tk.2.2, tk.2.1⟩
  obtain ⟨d1, d2, -⟩ := Dsm_num (upb Γ0 Δ B :: cxs Δ Γ0 (tAll B Dsm)) false e1
  obtain ⟨-, d3, -⟩ := Dsm_num (upb Γ0 Δ B :: cxs Δ Γ0 (tAll B Dsm)) true e1
  unfold EVb
  rw [up_Dsm, d1]
  unfold bdr at q
  rw [Bool.or_eq_true] at q
  by_cases v : 16 ≤ hd f
  · obtain ⟨j, hj, rfl⟩ := hd_is_var tk.2.1 v
    rw [if_pos v, hd_var, show 16 + j - 16 = j by omega] at q
    have q : updr (hd C) (taur (hd C) (cxs Δ Γ0 (tAll B C))) (cxs Δ Γ0 (tAll B C)).length (upb Γ0 Δ B) j = true := by
      rcases q with q | q
      · rw [decide_eq_true_iff] at q; omega
      · exact q
    have hb : gk (hd C) (hd (bnd (upb Γ0 Δ B :: cxs Δ Γ0 (tAll B C)) j)) = true := by
      unfold updr taur at q
      show gk (hd C) (hd (if j = (cxs Δ Γ0 (tAll B C)).length then upb Γ0 Δ B else bnd (cxs Δ Γ0 (tAll B C)) j)) = true
      by_cases ej : j = (cxs Δ Γ0 (tAll B C)).length
      · rw [if_pos ej] at q ⊢
        exact q
      · rw [if_neg ej] at q ⊢
        exact q
    unfold gk at hb
    rw [Bool.or_eq_true, Bool.and_eq_true, decide_eq_true_iff, decide_eq_true_iff] at hb
    rcases hb with hb | ⟨hb, hm⟩
    · obtain ⟨r1, r2, r3, r4, r5, r6⟩ := var_mis tk hb nX (by omega)
      refine ⟨⟨r1, by rw [r2]; omega, by omega, by omega⟩, by omega, by omega⟩
    · have hm' : hd (bnd (upb Γ0 Δ B :: cxs Δ Γ0 (tAll B C)) j) ≠ hd C ∧ ¬ (8 ≤ hd (bnd (upb Γ0 Δ B :: cxs Δ Γ0 (tAll B C)) j) ∧ 8 ≤ hd C) := by
        unfold kmm at hm
        rw [decide_eq_true_iff] at hm
        omega
      obtain ⟨r1, r2, r3, r4, r5, r6⟩ := var_kind (w := 0) (by decide) tk hb nX (by omega) (by rw [hX]; exact hm'.1) (by rw [hX]; exact hm'.2)
      refine ⟨⟨r1, by rw [r2]; omega, by omega, by omega⟩, by omega, by omega⟩
  · by_cases kk : hd f = 2 ∧ hd C = 2 ∧ shp (k1 f) ≠ shp (k1 C)
    · have hX2 : hd (upb Γ0 Δ C) = 2 := by rw [hX]; exact kk.2.1
      have ne : flat (k1 f) ≠ flat (k1 (upb Γ0 Δ C)) := by
        intro he
        refine kk.2.2 ?_
        have e1 : shp (k1 f) = shp (k1 (upb Γ0 Δ C)) := by unfold shp; rw [he]
        rw [e1]
        have e2 : k1 (upb Γ0 Δ C) = upb Γ0 Δ (k1 C) := by
          rcases ok_cases oC with h | ⟨j, hj, h⟩ | ⟨a, b, h, -, -⟩ | ⟨a, b, h, -, -⟩ | ⟨m, x, y, z, hm, h, -, -, -⟩
          · have := congrArg hd h; rw [kk.2.1, hd_top] at this; omega
          · have := congrArg hd h; rw [kk.2.1, hd_var] at this; omega
          · have := congrArg hd h; rw [kk.2.1, hd_fun] at this; omega
          · rw [h]; unfold upb; rw [lft_all]; rfl
          · have := congrArg hd h; rw [kk.2.1, hd_rec] at this; omega
        rw [e2]
        unfold upb
        exact shp_lft _ _ _
      have g1 := gm_mis2 (w := 0) tk (by decide) kk.1 hX2 ne
      have g2 := gm_mis2 (w := 0) tk2 (by decide) hX2 kk.1 (fun h => ne h.symm)
      have t1 : trx (upb Γ0 Δ B :: cxs Δ Γ0 (tAll B C), f, upb Γ0 Δ C) = 0 := trx_mis2 v kk.1 hX2 ne
      have t2 : trx (upb Γ0 Δ B :: cxs Δ Γ0 (tAll B C), upb Γ0 Δ C, f) = 0 := trx_mis2 nX hX2 kk.1 (fun h => ne h.symm)
      refine ⟨⟨by omega, by omega, by omega, by omega⟩, by omega, by omega⟩
    have nm : hd f ≠ hd (upb Γ0 Δ C) ∧ ¬ (8 ≤ hd f ∧ 8 ≤ hd (upb Γ0 Δ C)) := by
      rw [hX]
      rw [if_neg v] at q
      rcases q with q | q
      · rw [decide_eq_true_iff] at q
        omega
      · unfold kms at q
        rw [Bool.or_eq_true, decide_eq_true_iff] at q
        rcases q with q | q
        · unfold kmm at q
          rw [decide_eq_true_iff] at q
          omega
        · exact absurd q kk
    have g1 := gm_mis (w := 0) tk (by decide) v nX nm.1 nm.2
    have g2 := gm_mis (w := 0) tk2 (by decide) nX v (fun h => nm.1 h.symm) (fun h => nm.2 ⟨h.2, h.1⟩)
    have t1 : trx (upb Γ0 Δ B :: cxs Δ Γ0 (tAll B C), f, upb Γ0 Δ C) = 0 := trx_mis v nm.1 (fun h => nm.2 ⟨h.1, h.2.1⟩)
    have t2 : trx (upb Γ0 Δ B :: cxs Δ Γ0 (tAll B C), upb Γ0 Δ C, f) = 0 := trx_mis nX (fun h => nm.1 h.symm) (fun h => nm.2 ⟨h.2.1, h.1⟩)
    refine ⟨⟨by omega, by omega, by omega, by omega⟩, by omega, by omega⟩
end PmZu
section PmZv
variable {e h : Nat} {B C : Ty} {Γ0 : List Ty}
/-- every inner scheme with that bound (in the body, the bound, the bounds before) has a body of another kind -/
def HKr (h : Nat) (B C : Ty) (Γ0 : List Ty) : Prop := (h < 16 ∧ hd B = h) ∧ (hd C ≠ 0 ∧ hd C < 16) ∧ (∀ j, j < Γ0.length → kr (hd C) h (kms C) (taur (hd C) Γ0) j (bnd Γ0 j) = true) ∧ kr (hd C) h (kms C) (taur (hd C) Γ0) Γ0.length B = true ∧ kr (hd C) h (kms C) (updr (hd C) (taur (hd C) Γ0) Γ0.length B) (Γ0.length + 1) C = true
def Kr9 (h : Nat) (B C : Ty) (Γ0 : List Ty) (l : Nat) (Δ : List Ty) (t : Ty) : Prop := (Γ0.length < l ∧ l ≤ (cxs Δ Γ0 (tAll B C)).length) ∧ okc (cxs Δ Γ0 (tAll B C)) ∧ gqc 5 Γ0.length l (cxs Δ Γ0 (tAll B C)) ∧ (∀ j, j < (cxs Δ Γ0 (tAll B C)).length → (j < Γ0.length ∨ l ≤ j) → kr (hd C) h (kms C) (taur (hd C) (cxs Δ Γ0 (tAll B C))) j (bnd (cxs Δ Γ0 (tAll B C)) j) = true) ∧ ok (cxs Δ Γ0 (tAll B C)).length t = true ∧ gq 5 Γ0.length l t = true ∧ kr (hd C) h (kms C) (taur (hd C) (cxs Δ Γ0 (tAll B C))) (cxs Δ Γ0 (tAll B C)).length t = true
theorem taur_cons {m : Nat} {Γ : List Ty} {a : Ty} (i : Nat) : taur m (a :: Γ) i = updr m (taur m Γ) Γ.length a i := by
  unfold taur updr
  show gk m (hd (if i = Γ.length then a else bnd Γ i)) = _
  by_cases e : i = Γ.length
  · rw [if_pos e, if_pos e]
  · rw [if_neg e, if_neg e]
/-- one binder more, that is old -/
theorem Kr9.ext {l : Nat} {Δ : List Ty} {a b t : Ty} (k : Kr9 h B C Γ0 l Δ t) (oa : ok (cxs Δ Γ0 (tAll B C)).length a = true) (ob : ok ((cxs Δ Γ0 (tAll B C)).length + 1) b = true) (ga : gq 5 Γ0.length l a = true) (gb : gq 5 Γ0.length l b = true) (ka : kr (hd C) h (kms C) (taur (hd C) (cxs Δ Γ0 (tAll B C))) (cxs Δ Γ0 (tAll B C)).length a = true) (kb : kr (hd C) h (kms C) (updr (hd C) (taur (hd C) (cxs Δ Γ0 (tAll B C))) (cxs Δ Γ0 (tAll B C)).length a) ((cxs Δ Γ0 (tAll B C)).length + 1) b = true) : Kr9 h B C Γ0 l (a :: Δ) b := by
  obtain ⟨⟨l1, l2⟩, hc, hg, hk, -, -, -⟩ := k
  have le : (cxs (a :: Δ) Γ0 (tAll B C)).length = (cxs Δ Γ0 (tAll B C)).length + 1 := rfl
  refine ⟨⟨l1, by rw [le]; omega⟩, ⟨oa, hc⟩, ?_, ?_, ob, gb, ?_⟩
  · intro j hj hp
    show gq 5 Γ0.length (min l j) (if j = (cxs Δ Γ0 (tAll B C)).length then a else bnd (cxs Δ Γ0 (tAll B C)) j) = true
    by_cases ej : j = (cxs Δ Γ0 (tAll B C)).length
    · rw [if_pos ej, ej, Nat.min_eq_left l2]; exact ga
    · rw [if_neg ej]
      exact hg j (by rw [le] at hj; omega) hp
  · intro j hj hp
    have agree : ∀ i, i < (cxs Δ Γ0 (tAll B C)).length → taur (hd C) (cxs Δ Γ0 (tAll B C)) i = true → taur (hd C) (cxs (a :: Δ) Γ0 (tAll B C)) i = true := by
      intro i hi q
      have q2 := taur_cons (m := hd C) (Γ := cxs Δ Γ0 (tAll B C)) (a := a) i
      show taur (hd C) (a :: cxs Δ Γ0 (tAll B C)) i = true
      rw [q2]
      unfold updr
      rw [if_neg (by omega)]
      exact q
    show kr (hd C) h (kms C) (taur (hd C) (cxs (a :: Δ) Γ0 (tAll B C))) j (if j = (cxs Δ Γ0 (tAll B C)).length then a else bnd (cxs Δ Γ0 (tAll B C)) j) = true
    by_cases ej : j = (cxs Δ Γ0 (tAll B C)).length
    · rw [if_pos ej, ej]
      exact kr_more _ a _ _ _ (Nat.le_refl _) oa agree ka
    · rw [if_neg ej]
      have hj' : j < (cxs Δ Γ0 (tAll B C)).length := by rw [le] at hj; omega
      exact kr_more _ _ j _ _ (Nat.le_refl _) (okc_bnd' hc hj') (fun i hi => agree i (by omega)) (hk j hj' hp)
  · exact kr_more _ b _ _ _ (Nat.le_refl _) ob (fun i _ q => by
      have q2 := taur_cons (m := hd C) (Γ := cxs Δ Γ0 (tAll B C)) (a := a) i
      show taur (hd C) (a :: cxs Δ Γ0 (tAll B C)) i = true
      rw [q2]; exact q) kb
theorem Kr9.part {l : Nat} {Δ : List Ty} {t b : Ty} (k : Kr9 h B C Γ0 l Δ t) (ob : ok (cxs Δ Γ0 (tAll B C)).length b = true) (gb : gq 5 Γ0.length l b = true) (kb : kr (hd C) h (kms C) (taur (hd C) (cxs Δ Γ0 (tAll B C))) (cxs Δ Γ0 (tAll B C)).length b = true) : Kr9 h B C Γ0 l Δ b := ⟨k.1, k.2.1, k.2.2.1, k.2.2.2.1, ob, gb, kb⟩
theorem Kr_KP (e1 : 1 ≤ e) (H : HKr h B C Γ0) (l : Nat) : KPc e B C Dsm Γ0 (Kr9 h B C Γ0 l) ∧ KGc B C Dsm Γ0 (Kr9 h B C Γ0 l) := by
  obtain ⟨⟨h16, hB⟩, hC, -, -, -⟩ := H
  have body : ∀ Δ f, Kr9 h B C Γ0 l Δ (tAll (upb Γ0 Δ B) f) → ok (Γ0.length + 1) C = true ∧ bdr (kms C) (updr (hd C) (taur (hd C) (cxs Δ Γ0 (tAll B C))) (cxs Δ Γ0 (tAll B C)).length (upb Γ0 Δ B)) f = true := by
    intro Δ f k
    obtain ⟨-, hc, -, -, -, -, kt⟩ := k
    have oA := okc_mid hc
    refine ⟨(ok_all.mp oA).2, (kr_all.mp kt).1 ?_⟩
    unfold upb
    rw [(hd_lft0 (ok_all.mp oA).1).2 (by omega)]
    exact hB
  refine ⟨⟨⟨by unfold Dsm; exact ok_all.mpr ⟨rfl, rfl⟩, by unfold Dsm; rw [hd_all]; decide⟩, fun Δ t k => ?_⟩, fun Δ t k f et tk => ?_⟩
  · have k' := k
    obtain ⟨⟨l1, l2⟩, hc, hg, hk, ot, gt, kt⟩ := k'
    refine ⟨?_, ?_, ?_, ?_, ?_⟩
    · intro a b et
      subst et
      have o := ok_fun.mp ot
      rw [gq_fun] at gt
      rw [kr_fun] at kt
      exact ⟨k.part o.1 gt.1 kt.1, k.part o.2 gt.2 kt.2⟩
    · intro m x y z hm et
      subst et
      have o := (ok_rec hm).mp ot
      rw [gq_rec] at gt
      rw [kr_rec] at kt
      exact ⟨fun b => k.part (okl_on o.1 (bit_iff.mp b)) gt.1 kt.1, fun b => k.part (okl_on o.2.1 (bit_iff.mp b)) gt.2.1 kt.2.1, fun b => k.part (okl_on o.2.2 (bit_iff.mp b)) gt.2.2 kt.2.2⟩
    · intro a b et
      subst et
      have o := ok_all.mp ot
      rw [gq_all] at gt
      rw [kr_all] at kt
      exact k.ext o.1 o.2 gt.2.1 gt.2.2 kt.2.1 kt.2.2
    · intro j et hj
      subst et
      rw [gq_var] at gt
      refine ⟨by omega, k.part (ok_expose hc hj) ?_ ?_⟩
      · exact gq_lft (by decide) (by omega) _ (bnd (cxs Δ Γ0 (tAll B C)) j) j (Nat.le_refl _) (okc_bnd' hc hj) (hg j hj gt)
      · have q := kr_lft (kms_lft _ _) (k := j) (n := (cxs Δ Γ0 (tAll B C)).length - j) _ (bnd (cxs Δ Γ0 (tAll B C)) j) j (taur (hd C) (cxs Δ Γ0 (tAll B C))) (taur (hd C) (cxs Δ Γ0 (tAll B C))) (Nat.le_refl _) (Nat.le_refl _) (okc_bnd' hc hj) (fun i hi q => by rw [if_neg (by omega)]; exact q) h16 (hk j hj gt)
        rw [show j + ((cxs Δ Γ0 (tAll B C)).length - j) = (cxs Δ Γ0 (tAll B C)).length by omega] at q
        exact q
    · intro f et tb
      subst et
      obtain ⟨oC, q⟩ := body Δ f k
      exact (ev_smallr e1 hC tb.1 oC q).1
  · subst et
    obtain ⟨oC, q⟩ := body Δ f k
    have ev := (ev_smallr (e := 1) (by decide) hC tk oC q).2
    obtain ⟨-, -, d⟩ := Dsm_num (e := 1) (upb Γ0 Δ B :: cxs Δ Γ0 (tAll B Dsm)) false (by decide)
    rw [up_Dsm, d]
    exact ev
theorem HKr.ov (e1 : 1 ≤ e) (H : HKr h B C Γ0) : OVq e B C Dsm Γ0 := by
  have H' := H
  obtain ⟨⟨h16, hB⟩, hC, h0, hkB, hkC⟩ := H'
  refine ⟨⟨by unfold Dsm; exact ok_all.mpr ⟨rfl, rfl⟩, by unfold Dsm; rw [hd_all]; decide⟩, fun Δ hc => ?_⟩
  have K := Kr_KP (e := e) e1 H (cxs Δ Γ0 (tAll B C)).length
  refine ⟨_, K.1, K.2, ?_⟩
  have oA := okc_mid hc
  have oB := (ok_all.mp oA).1
  have oC := (ok_all.mp oA).2
  have le : (cxs Δ Γ0 (tAll B C)).length = Γ0.length + (Δ.length + 1) := by rw [cxs_len]; omega
  have agree : ∀ i, i < Γ0.length → taur (hd C) Γ0 i = true → taur (hd C) (cxs Δ Γ0 (tAll B C)) i = true := by
    intro i hi q
    unfold taur at q ⊢
    rw [cxs_lowb Δ i hi]
    exact q
  have base : Kr9 h B C Γ0 (cxs Δ Γ0 (tAll B C)).length Δ tTop := by
    refine ⟨⟨by omega, Nat.le_refl _⟩, hc, ?_, ?_, rfl, gq_top, kr_top _ _⟩
    · intro j hj hp
      have hj0 : j < Γ0.length := by omega
      rw [Nat.min_eq_right (by omega)]
      exact gq5 _ _ j (Nat.le_refl _) (okc_bnd' hc hj) (Nat.le_refl _) (fun i hi => Or.inl (by omega))
    · intro j hj hp
      have hj0 : j < Γ0.length := by omega
      have ob := okc_bnd' hc hj
      rw [cxs_lowb Δ j hj0] at ob ⊢
      exact kr_more _ _ j _ _ (Nat.le_refl _) ob (fun i hi => agree i (by omega)) (h0 j hj0)
  have oUB : ok (cxs Δ Γ0 (tAll B C)).length (upb Γ0 Δ B) = true ∧ ok ((cxs Δ Γ0 (tAll B C)).length + 1) (upb Γ0 Δ C) = true := by
    have a := up_ok (B := B) (C := C) hc
    rw [upb_all] at a
    exact ok_all.mp a
  have gB : gq 5 Γ0.length (cxs Δ Γ0 (tAll B C)).length (upb Γ0 Δ B) = true := by
    refine gq_lft (by decide) (Nat.le_of_eq le) _ B _ (Nat.le_refl _) oB ?_
    rw [Nat.min_eq_right (by omega)]
    exact gq5 _ B _ (Nat.le_refl _) oB (Nat.le_refl _) (fun i hi => Or.inl hi)
  have gC : gq 5 Γ0.length (cxs Δ Γ0 (tAll B C)).length (upb Γ0 Δ C) = true := by
    refine gq_lft (by decide) (Nat.le_of_eq le) _ C _ (Nat.le_refl _) oC ?_
    rw [Nat.min_eq_right (by omega)]
    exact gq5 _ C _ (Nat.le_refl _) oC (by omega) (fun i hi => by omega)
  have kB := kr_lft (kms_lft _ _) (k := Γ0.length) (n := Δ.length + 1) _ B Γ0.length (taur (hd C) Γ0) (taur (hd C) (cxs Δ Γ0 (tAll B C))) (Nat.le_refl _) (Nat.le_refl _) oB (fun i hi q => by rw [if_neg (by omega)]; exact agree i hi q) h16 hkB
  rw [← le] at kB
  have kC := kr_lft (kms_lft _ _) (k := Γ0.length) (n := Δ.length + 1) _ C (Γ0.length + 1) (updr (hd C) (taur (hd C) Γ0) Γ0.length B) (updr (hd C) (taur (hd C) (cxs Δ Γ0 (tAll B C))) (cxs Δ Γ0 (tAll B C)).length (upb Γ0 Δ B)) (Nat.le_refl _) (by omega) oC (fun i hi q => by
    unfold updr at q ⊢
    by_cases ei : i = Γ0.length
    · rw [if_pos ei] at q
      rw [if_pos (show Γ0.length ≤ i by omega), if_pos (by omega)]
      exact gk_lft oB q
    · rw [if_neg ei] at q
      have hi0 : i < Γ0.length := by omega
      rw [if_neg (show ¬ Γ0.length ≤ i by omega), if_neg (by omega)]
      exact agree i hi0 q) h16 hkC
  rw [show Γ0.length + 1 + (Δ.length + 1) = (cxs Δ Γ0 (tAll B C)).length + 1 by omega] at kC
  exact base.ext oUB.1 oUB.2 gB gC kB kC
end PmZv
