/-! ROOT SCHEMES WITH A BOUND THAT HOLDS NO SCHEME: where no inner scheme has that very bound, the body may be replaced. -/
/-- a scheme with that very bound stands in it -/
def sB (B : Ty) : Ty → Bool
  | .tag c (.append a b) => if c = 2 then tqB B a || (sB B a || sB B b) else sB B a || sB B b
  | .append a b => sB B a || sB B b
  | _ => false
section PmHt
variable {B : Ty} {m : Nat} {κ : Ty → Bool}
theorem sB_fun (a b : Ty) : sB B (tFun a b) = (sB B a || sB B b) := by simp [tFun, sB]
theorem sB_all (a b : Ty) : sB B (tAll a b) = (tqB B a || (sB B a || sB B b)) := by simp [tAll, sB]
theorem sB_rec {c : Nat} (x y z : Ty) : sB B (tRec c x y z) = (sB B x || (sB B y || sB B z)) := by
  have e : ¬ 8 + c = 2 := by omega
  simp [tRec, sB, e]
theorem kt_no : ∀ (f : Nat) (t : Ty) (d D : Nat) (τ : Nat → Bool), (flat t).length ≤ f → ok d t = true → sB B t = false → kt m (tqB B) κ τ D t = true
  | 0, t, d, D, τ, hf, o, _ => by have := flat_pos o; omega
  | f + 1, t, d, D, τ, hf, o, hn => by
    rcases ok_cases o with rfl | ⟨j, hj, rfl⟩ | ⟨a, c, rfl, ha, hb⟩ | ⟨a, c, rfl, ha, hb⟩ | ⟨m', x, y, z, hm, rfl, h0, h1, h2⟩
    · exact kt_top _ _
    · exact kt_var _ _ _
    · rw [flat_fun, List.length_cons, List.length_append] at hf
      rw [sB_fun, Bool.or_eq_false_iff] at hn
      exact kt_fun.mpr ⟨kt_no f a d D τ (by omega) ha hn.1, kt_no f c d D τ (by omega) hb hn.2⟩
    · rw [flat_all, List.length_cons, List.length_append] at hf
      rw [sB_all, Bool.or_eq_false_iff, Bool.or_eq_false_iff] at hn
      refine kt_all.mpr ⟨fun e => ?_, kt_no f a d D τ (by omega) ha hn.2.1, kt_no f c (d + 1) (D + 1) _ (by omega) hb hn.2.2⟩
      rw [hn.1] at e
      cases e
    · rw [flat_rec, List.length_cons, List.length_append, List.length_append] at hf
      rw [sB_rec, Bool.or_eq_false_iff, Bool.or_eq_false_iff] at hn
      have key : ∀ (i : Nat) (p : Ty), (flat p).length ≤ f → okl d m' i p → sB B p = false → kt m (tqB B) κ τ D p = true := by
        intro i p hp ho hs
        unfold okl at ho
        by_cases hb : bit m' i = true
        · rw [if_pos hb] at ho
          exact kt_no f p d D τ hp ho hs
        · rw [if_neg hb] at ho
          rw [ho]; exact kt_nil _ _
      exact kt_rec.mpr ⟨key 0 x (by omega) h0 hn.1, key 1 y (by omega) h1 hn.2.1, key 2 z (by omega) h2 hn.2.2⟩
theorem sB_nsch : ∀ (f : Nat) (t : Ty) (d : Nat), (flat t).length ≤ f → ok d t = true → nsch t = true → sB B t = false
  | 0, t, d, hf, o, _ => by have := flat_pos o; omega
  | f + 1, t, d, hf, o, hn => by
    rcases ok_cases o with rfl | ⟨j, hj, rfl⟩ | ⟨a, c, rfl, ha, hb⟩ | ⟨a, c, rfl, ha, hb⟩ | ⟨m', x, y, z, hm, rfl, h0, h1, h2⟩
    · simp [tTop, sB]
    · simp [tVar, sB]
    · rw [flat_fun, List.length_cons, List.length_append] at hf
      rw [nsch_fun, Bool.and_eq_true] at hn
      rw [sB_fun, sB_nsch f a d (by omega) ha hn.1, sB_nsch f c d (by omega) hb hn.2]
      rfl
    · rw [nsch_all] at hn; cases hn
    · rw [flat_rec, List.length_cons, List.length_append, List.length_append] at hf
      rw [nsch_rec, Bool.and_eq_true, Bool.and_eq_true] at hn
      have key : ∀ (i : Nat) (p : Ty), (flat p).length ≤ f → okl d m' i p → nsch p = true → sB B p = false := by
        intro i p hp ho hs
        unfold okl at ho
        by_cases hb : bit m' i = true
        · rw [if_pos hb] at ho
          exact sB_nsch f p d hp ho hs
        · rw [if_neg hb] at ho
          rw [ho]; simp [sB]
      rw [sB_rec, key 0 x (by omega) h0 hn.1, key 1 y (by omega) h1 hn.2.1, key 2 z (by omega) h2 hn.2.2]
      rfl
/-- so the body may be replaced -/
theorem HKt_no {C : Ty} {Γ0 : List Ty} (hc : okc Γ0) (oA : ok Γ0.length (tAll B C) = true) (nB : nsch B = true) (hB : hd B < 16) (hC : hd C ≠ 0 ∧ hd C < 16) (h0 : ∀ j, j < Γ0.length → sB B (bnd Γ0 j) = false) (h1 : sB B C = false) : OVq 1 B C Dsm Γ0 := by
  have oB := (ok_all.mp oA).1
  have oC := (ok_all.mp oA).2
  exact HKt.ov (Nat.le_refl _) ⟨⟨nB, hB⟩, hC, fun j hj => kt_no _ _ j j _ (Nat.le_refl _) (okc_bnd' hc hj) (h0 j hj), kt_no _ B _ _ _ (Nat.le_refl _) oB (sB_nsch _ B _ (Nat.le_refl _) oB nB), kt_no _ C _ _ _ (Nat.le_refl _) oC h1⟩
end PmHt
