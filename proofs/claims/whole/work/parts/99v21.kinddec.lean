/-! WHAT STANDS IN THE WAY OF A SMALL BODY: an inner scheme of the body's own kind, or one whose body is a variable. -/
/-- a scheme with bound Top whose body is a variable with another bound -/
def phl : (Nat → Bool) → Nat → Ty → Bool
  | τ, D, .tag c (.append a b) => if c = 2 then (decide (hd a = 0) && (decide (16 ≤ hd b) && !(updt τ D a (hd b - 16)))) || (phl τ D a || phl (updt τ D a) (D + 1) b) else phl τ D a || phl τ D b
  | τ, D, .append a b => phl τ D a || phl τ D b
  | _, _, _ => false
section PmWc
variable {τ : Nat → Bool} {D : Nat}
theorem phl_fun (a b : Ty) : phl τ D (tFun a b) = (phl τ D a || phl τ D b) := by simp [tFun, phl]
theorem phl_all (a b : Ty) : phl τ D (tAll a b) = ((decide (hd a = 0) && (decide (16 ≤ hd b) && !(updt τ D a (hd b - 16)))) || (phl τ D a || phl (updt τ D a) (D + 1) b)) := by simp [tAll, phl]
theorem phl_rec {m : Nat} (x y z : Ty) : phl τ D (tRec m x y z) = (phl τ D x || (phl τ D y || phl τ D z)) := by
  unfold tRec
  rw [phl, if_neg (by omega), phl]
theorem shp_hd {d e : Nat} {s t : Ty} (o : ok d s = true) (o' : ok e t = true) (h : shp s = shp t) : hd s = 0 ↔ hd t = 0 := by
  obtain ⟨r, e1⟩ := flat_hd o
  obtain ⟨r', e2⟩ := flat_hd o'
  unfold shp at h
  rw [e1, e2, List.map_cons, List.map_cons] at h
  injection h with h1 _
  constructor
  · intro e
    rw [e] at h1
    by_cases c : 16 ≤ (hd t : Int)
    · rw [if_pos c, if_neg (by decide)] at h1
      exact absurd h1 (by decide)
    · rw [if_neg c, if_neg (by decide)] at h1
      omega
  · intro e
    rw [e] at h1
    by_cases c : 16 ≤ (hd s : Int)
    · rw [if_pos c, if_neg (by decide)] at h1
      exact absurd h1 (by decide)
    · rw [if_neg c, if_neg (by decide)] at h1
      omega
/-- another kind -/
theorem kms_kdt {d e : Nat} {C b : Ty} (oC : ok e C = true) (hC : hd C < 16) (ob : ok d b = true) (h0 : hd b ≠ 0) (h16 : hd b < 16) (ne : kdt b ≠ kdt C) : kms C b = true := by
  unfold kms kmm
  rw [Bool.or_eq_true, decide_eq_true_iff, decide_eq_true_iff]
  rcases ok_cases ob with rfl | ⟨j, hj, rfl⟩ | ⟨a, c, rfl, ha, hb⟩ | ⟨a, c, rfl, ha, hb⟩ | ⟨m, x, y, z, hm, rfl, g0, g1, g2⟩
  · exact absurd hd_top h0
  · rw [hd_var] at h16; omega
  · refine Or.inl (Or.inl ⟨hd_fun _ _, fun e => ne ?_⟩)
    unfold kdt
    rw [hd_fun, e]
    rfl
  · by_cases e2 : hd C = 2
    · refine Or.inr ⟨hd_all _ _, e2, fun es => ne ?_⟩
      obtain ⟨a', c', rfl, ha', -⟩ := hd_is_all oC e2
      have q := shp_hd ha ha' es
      have k1a : k1 (tAll a c) = a := rfl
      have k1b : k1 (tAll a' c') = a' := rfl
      unfold kdt
      rw [hd_all, hd_all, k1a, k1b]
      by_cases ea : hd a = 0
      · simp [ea, q.mp ea]
      · have eb : ¬ hd a' = 0 := fun h => ea (q.mpr h)
        simp [ea, eb]
    · exact Or.inl (Or.inr (Or.inl ⟨hd_all _ _, e2⟩))
  · refine Or.inl (Or.inr (Or.inr ?_))
    rw [hd_rec]
    refine ⟨by omega, ?_⟩
    by_cases c8 : hd C < 8
    · exact c8
    · exfalso
      refine ne ?_
      rcases ok_cases oC with rfl | ⟨j, hj, rfl⟩ | ⟨a, c, rfl, ha, hb⟩ | ⟨a, c, rfl, ha, hb⟩ | ⟨m', x', y', z', hm', rfl, _, _, _⟩
      · rw [hd_top] at c8; omega
      · rw [hd_var] at hC; omega
      · rw [hd_fun] at c8; omega
      · rw [hd_all] at c8; omega
      · unfold kdt
        rw [hd_rec, hd_rec, if_neg (by omega), if_neg (by omega), if_pos (by omega), if_neg (by omega), if_neg (by omega), if_pos (by omega)]
end PmWc
section PmWd
variable {C : Ty} {e : Nat}
theorem kq_kind (oC : ok e C = true) (hC : hd C < 16) : ∀ (f : Nat) (t : Ty) (D : Nat) (τ : Nat → Bool), (flat t).length ≤ f → ok D t = true → phf (Kis (kdt C)) t = false → phl τ D t = false → kq 0 (kms C) τ D t = true
  | 0, t, D, τ, hf, o, _, _ => by have := flat_pos o; omega
  | f + 1, t, D, τ, hf, o, h1, h2 => by
    have ih := fun t D τ => kq_kind oC hC f t D τ
    rcases ok_cases o with rfl | ⟨j, hj, rfl⟩ | ⟨a, c, rfl, ha, hb⟩ | ⟨a, c, rfl, ha, hb⟩ | ⟨m, x, y, z, hm, rfl, g0, g1, g2⟩
    · exact kq_top _ _
    · exact kq_var _ _ _
    · rw [flat_fun, List.length_cons, List.length_append] at hf
      rw [phf_fun, Bool.or_eq_false_iff] at h1
      rw [phl_fun, Bool.or_eq_false_iff] at h2
      exact kq_fun.mpr ⟨ih a D τ (by omega) ha h1.1 h2.1, ih c D τ (by omega) hb h1.2 h2.2⟩
    · rw [flat_all, List.length_cons, List.length_append] at hf
      rw [phf_all, Bool.or_eq_false_iff, Bool.or_eq_false_iff] at h1
      rw [phl_all, Bool.or_eq_false_iff, Bool.or_eq_false_iff] at h2
      refine kq_all.mpr ⟨fun e0 => ?_, ih a D τ (by omega) ha h1.2.1 h2.2.1, ih c (D + 1) _ (by omega) hb h1.2.2 h2.2.2⟩
      have p1 := h1.1
      have p2 := h2.1
      rw [decide_eq_true e0, Bool.true_and] at p1 p2
      unfold bdk
      by_cases c0 : hd c = 0
      · rw [decide_eq_true c0, Bool.true_or]
      · rw [decide_eq_false c0, Bool.false_or]
        by_cases c16 : 16 ≤ hd c
        · rw [if_pos c16]
          rw [decide_eq_true c16, Bool.true_and, Bool.not_eq_false'] at p2
          exact p2
        · rw [if_neg c16]
          exact kms_kdt oC hC hb c0 (by omega) (of_decide_eq_false p1)
    · rw [flat_rec, List.length_cons, List.length_append, List.length_append] at hf
      rw [phf_rec, Bool.or_eq_false_iff, Bool.or_eq_false_iff] at h1
      rw [phl_rec, Bool.or_eq_false_iff, Bool.or_eq_false_iff] at h2
      have key : ∀ (i : Nat) (p : Ty), (flat p).length ≤ f → okl D m i p → phf (Kis (kdt C)) p = false → phl τ D p = false → kq 0 (kms C) τ D p = true := by
        intro i p hp ho a1 a2
        unfold okl at ho
        by_cases hb : bit m i = true
        · rw [if_pos hb] at ho
          exact ih p D τ hp ho a1 a2
        · rw [if_neg hb] at ho
          rw [ho]
          exact kq_nil _ _
      exact kq_rec.mpr ⟨key 0 x (by omega) g0 h1.1 h2.1, key 1 y (by omega) g1 h1.2.1 h2.2.1, key 2 z (by omega) g2 h1.2.2 h2.2.2⟩
end PmWd
section PmWg
variable {K : Nat → Bool}
theorem phf_any : ∀ (f : Nat) (t : Ty) (d : Nat), (flat t).length ≤ f → ok d t = true → phf K t = true → phf (fun _ => true) t = true
  | 0, t, d, hf, o, _ => by have := flat_pos o; omega
  | f + 1, t, d, hf, o, h => by
    have ih := fun t d => phf_any f t d
    rcases ok_cases o with rfl | ⟨j, hj, rfl⟩ | ⟨a, c, rfl, ha, hb⟩ | ⟨a, c, rfl, ha, hb⟩ | ⟨m, x, y, z, hm, rfl, g0, g1, g2⟩
    · rw [phf_top] at h; cases h
    · rw [phf_var] at h; cases h
    · rw [flat_fun, List.length_cons, List.length_append] at hf
      rw [phf_fun, Bool.or_eq_true] at h ⊢
      exact h.imp (ih a d (by omega) ha) (ih c d (by omega) hb)
    · rw [flat_all, List.length_cons, List.length_append] at hf
      rw [phf_all, Bool.or_eq_true, Bool.or_eq_true] at h ⊢
      refine h.imp (fun h => ?_) (fun h => h.imp (ih a d (by omega) ha) (ih c (d + 1) (by omega) hb))
      rw [Bool.and_eq_true] at h ⊢
      exact ⟨h.1, rfl⟩
    · rw [flat_rec, List.length_cons, List.length_append, List.length_append] at hf
      rw [phf_rec, Bool.or_eq_true, Bool.or_eq_true] at h ⊢
      have key : ∀ (i : Nat) (p : Ty), (flat p).length ≤ f → okl d m i p → phf K p = true → phf (fun _ => true) p = true := by
        intro i p hp ho h
        unfold okl at ho
        by_cases hb : bit m i = true
        · rw [if_pos hb] at ho
          exact ih p d hp ho h
        · rw [if_neg hb] at ho
          rw [ho, phf_nil] at h
          cases h
      exact h.imp (key 0 x (by omega) g0) (fun h => h.imp (key 1 y (by omega) g1) (key 2 z (by omega) g2))
theorem phl_any : ∀ (f : Nat) (t : Ty) (D : Nat) (τ : Nat → Bool), (flat t).length ≤ f → ok D t = true → phl τ D t = true → phf (fun _ => true) t = true
  | 0, t, D, τ, hf, o, _ => by have := flat_pos o; omega
  | f + 1, t, D, τ, hf, o, h => by
    have ih := fun t D τ => phl_any f t D τ
    rcases ok_cases o with rfl | ⟨j, hj, rfl⟩ | ⟨a, c, rfl, ha, hb⟩ | ⟨a, c, rfl, ha, hb⟩ | ⟨m, x, y, z, hm, rfl, g0, g1, g2⟩
    · simp [tTop, phl] at h
    · simp [tVar, phl] at h
    · rw [flat_fun, List.length_cons, List.length_append] at hf
      rw [phl_fun, Bool.or_eq_true] at h
      rw [phf_fun, Bool.or_eq_true]
      exact h.imp (ih a D τ (by omega) ha) (ih c D τ (by omega) hb)
    · rw [flat_all, List.length_cons, List.length_append] at hf
      rw [phl_all, Bool.or_eq_true, Bool.or_eq_true] at h
      rw [phf_all, Bool.or_eq_true, Bool.or_eq_true]
      refine h.imp (fun h => ?_) (fun h => h.imp (ih a D τ (by omega) ha) (ih c (D + 1) _ (by omega) hb))
      rw [Bool.and_eq_true] at h ⊢
      exact ⟨h.1, rfl⟩
    · rw [flat_rec, List.length_cons, List.length_append, List.length_append] at hf
      rw [phl_rec, Bool.or_eq_true, Bool.or_eq_true] at h
      rw [phf_rec, Bool.or_eq_true, Bool.or_eq_true]
      have key : ∀ (i : Nat) (p : Ty), (flat p).length ≤ f → okl D m i p → phl τ D p = true → phf (fun _ => true) p = true := by
        intro i p hp ho h
        unfold okl at ho
        by_cases hb : bit m i = true
        · rw [if_pos hb] at ho
          exact ih p D τ hp ho h
        · rw [if_neg hb] at ho
          rw [ho] at h
          simp [phl] at h
      exact h.imp (key 0 x (by omega) g0) (fun h => h.imp (key 1 y (by omega) g1) (key 2 z (by omega) g2))
end PmWg
