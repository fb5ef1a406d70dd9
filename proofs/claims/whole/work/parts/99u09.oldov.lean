/-! WHAT IS OLD, AND STAYS OLD. -/
section PmUi
variable {e h : Nat} {B C : Ty} {Γ0 : List Ty}
/-- every inner scheme with that bound (in the body, the bound, the bounds before) has a body of another kind -/
def HKd (h : Nat) (B C : Ty) (Γ0 : List Ty) : Prop := (h < 16 ∧ hd B = h) ∧ (hd C ≠ 0 ∧ hd C < 16) ∧ (∀ j, j < Γ0.length → kq h (kms C) (tauc Γ0) j (bnd Γ0 j) = true) ∧ kq h (kms C) (tauc Γ0) Γ0.length B = true ∧ kq h (kms C) (updt (tauc Γ0) Γ0.length B) (Γ0.length + 1) C = true
def Ko (h : Nat) (B C : Ty) (Γ0 : List Ty) (l : Nat) (Δ : List Ty) (t : Ty) : Prop := (Γ0.length < l ∧ l ≤ (cxs Δ Γ0 (tAll B C)).length) ∧ okc (cxs Δ Γ0 (tAll B C)) ∧ gqc 5 Γ0.length l (cxs Δ Γ0 (tAll B C)) ∧ (∀ j, j < (cxs Δ Γ0 (tAll B C)).length → (j < Γ0.length ∨ l ≤ j) → kq h (kms C) (tauc (cxs Δ Γ0 (tAll B C))) j (bnd (cxs Δ Γ0 (tAll B C)) j) = true) ∧ ok (cxs Δ Γ0 (tAll B C)).length t = true ∧ gq 5 Γ0.length l t = true ∧ kq h (kms C) (tauc (cxs Δ Γ0 (tAll B C))) (cxs Δ Γ0 (tAll B C)).length t = true
theorem tauc_cons {Γ : List Ty} {a : Ty} (i : Nat) : tauc (a :: Γ) i = updt (tauc Γ) Γ.length a i := by
  unfold tauc updt
  show decide (hd (if i = Γ.length then a else bnd Γ i) = 0) = _
  by_cases e : i = Γ.length
  · rw [if_pos e, if_pos e]
  · rw [if_neg e, if_neg e]
/-- one binder more, that is old -/
theorem Ko.ext {l : Nat} {Δ : List Ty} {a b t : Ty} (k : Ko h B C Γ0 l Δ t) (oa : ok (cxs Δ Γ0 (tAll B C)).length a = true) (ob : ok ((cxs Δ Γ0 (tAll B C)).length + 1) b = true) (ga : gq 5 Γ0.length l a = true) (gb : gq 5 Γ0.length l b = true) (ka : kq h (kms C) (tauc (cxs Δ Γ0 (tAll B C))) (cxs Δ Γ0 (tAll B C)).length a = true) (kb : kq h (kms C) (updt (tauc (cxs Δ Γ0 (tAll B C))) (cxs Δ Γ0 (tAll B C)).length a) ((cxs Δ Γ0 (tAll B C)).length + 1) b = true) : Ko h B C Γ0 l (a :: Δ) b := by
  obtain ⟨⟨l1, l2⟩, hc, hg, hk, -, -, -⟩ := k
  have le : (cxs (a :: Δ) Γ0 (tAll B C)).length = (cxs Δ Γ0 (tAll B C)).length + 1 := rfl
  refine ⟨⟨l1, by rw [le]; omega⟩, ⟨oa, hc⟩, ?_, ?_, ob, gb, ?_⟩
  · intro j hj hp
    show gq 5 Γ0.length (min l j) (if j = (cxs Δ Γ0 (tAll B C)).length then a else bnd (cxs Δ Γ0 (tAll B C)) j) = true
    by_cases ej : j = (cxs Δ Γ0 (tAll B C)).length
    · rw [if_pos ej, ej, Nat.min_eq_left l2]; exact ga
    · rw [if_neg ej]
      exact hg j (by rw [le] at hj; omega) hp
  · intro j hj hp
    have agree : ∀ i, i < (cxs Δ Γ0 (tAll B C)).length → tauc (cxs Δ Γ0 (tAll B C)) i = true → tauc (cxs (a :: Δ) Γ0 (tAll B C)) i = true := by
      intro i hi q
      have q2 := tauc_cons (Γ := cxs Δ Γ0 (tAll B C)) (a := a) i
      show tauc (a :: cxs Δ Γ0 (tAll B C)) i = true
      rw [q2]
      unfold updt
      rw [if_neg (by omega)]
      exact q
    show kq h (kms C) (tauc (cxs (a :: Δ) Γ0 (tAll B C))) j (if j = (cxs Δ Γ0 (tAll B C)).length then a else bnd (cxs Δ Γ0 (tAll B C)) j) = true
    by_cases ej : j = (cxs Δ Γ0 (tAll B C)).length
    · rw [if_pos ej, ej]
      exact kq_more _ a _ _ _ (Nat.le_refl _) oa agree ka
    · rw [if_neg ej]
      have hj' : j < (cxs Δ Γ0 (tAll B C)).length := by rw [le] at hj; omega
      exact kq_more _ _ j _ _ (Nat.le_refl _) (okc_bnd' hc hj') (fun i hi => agree i (by omega)) (hk j hj' hp)
  · exact kq_more _ b _ _ _ (Nat.le_refl _) ob (fun i _ q => by
      have q2 := tauc_cons (Γ := cxs Δ Γ0 (tAll B C)) (a := a) i
      show tauc (a :: cxs Δ Γ0 (tAll B C)) i = true
      rw [q2]; exact q) kb
theorem Ko.part {l : Nat} {Δ : List Ty} {t b : Ty} (k : Ko h B C Γ0 l Δ t) (ob : ok (cxs Δ Γ0 (tAll B C)).length b = true) (gb : gq 5 Γ0.length l b = true) (kb : kq h (kms C) (tauc (cxs Δ Γ0 (tAll B C))) (cxs Δ Γ0 (tAll B C)).length b = true) : Ko h B C Γ0 l Δ b := ⟨k.1, k.2.1, k.2.2.1, k.2.2.2.1, ob, gb, kb⟩
theorem Ko_KP (e1 : 1 ≤ e) (H : HKd h B C Γ0) (l : Nat) : KPc e B C Dsm Γ0 (Ko h B C Γ0 l) ∧ KGc B C Dsm Γ0 (Ko h B C Γ0 l) := by
  obtain ⟨⟨h16, hB⟩, hC, -, -, -⟩ := H
  have body : ∀ Δ f, Ko h B C Γ0 l Δ (tAll (upb Γ0 Δ B) f) → ok (Γ0.length + 1) C = true ∧ bdk (kms C) (updt (tauc (cxs Δ Γ0 (tAll B C))) (cxs Δ Γ0 (tAll B C)).length (upb Γ0 Δ B)) f = true := by
    intro Δ f k
    obtain ⟨-, hc, -, -, -, -, kt⟩ := k
    have oA := okc_mid hc
    refine ⟨(ok_all.mp oA).2, (kq_all.mp kt).1 ?_⟩
    unfold upb
    rw [(hd_lft0 (ok_all.mp oA).1).2 (by omega)]
    exact hB
  refine ⟨⟨⟨by unfold Dsm; exact ok_all.mpr ⟨rfl, rfl⟩, by unfold Dsm; rw [hd_all]; decide⟩, fun Δ t k => ?_⟩, fun Δ t k f et tk => ?_⟩
  · have k' := k
    obtain ⟨⟨l1, l2⟩, hc, hg, hk, ot, gt, kt⟩ := k'
    refine ⟨?_, ?_, ?_, ?_, ?_⟩
    · intro a b et
      subst et
      have o := ok_fun.mp ot
      rw [gq_fun] at gt
      rw [kq_fun] at kt
      exact ⟨k.part o.1 gt.1 kt.1, k.part o.2 gt.2 kt.2⟩
    · intro m x y z hm et
      subst et
      have o := (ok_rec hm).mp ot
      rw [gq_rec] at gt
      rw [kq_rec] at kt
      exact ⟨fun b => k.part (okl_on o.1 (bit_iff.mp b)) gt.1 kt.1, fun b => k.part (okl_on o.2.1 (bit_iff.mp b)) gt.2.1 kt.2.1, fun b => k.part (okl_on o.2.2 (bit_iff.mp b)) gt.2.2 kt.2.2⟩
    · intro a b et
      subst et
      have o := ok_all.mp ot
      rw [gq_all] at gt
      rw [kq_all] at kt
      exact k.ext o.1 o.2 gt.2.1 gt.2.2 kt.2.1 kt.2.2
    · intro j et hj
      subst et
      rw [gq_var] at gt
      refine ⟨by omega, k.part (ok_expose hc hj) ?_ ?_⟩
      · exact gq_lft (by decide) (by omega) _ (bnd (cxs Δ Γ0 (tAll B C)) j) j (Nat.le_refl _) (okc_bnd' hc hj) (hg j hj gt)
      · have q := kq_lft (kms_lft _ _) (k := j) (n := (cxs Δ Γ0 (tAll B C)).length - j) _ (bnd (cxs Δ Γ0 (tAll B C)) j) j (tauc (cxs Δ Γ0 (tAll B C))) (tauc (cxs Δ Γ0 (tAll B C))) (Nat.le_refl _) (Nat.le_refl _) (okc_bnd' hc hj) (fun i hi q => by rw [if_neg (by omega)]; exact q) h16 (hk j hj gt)
        rw [show j + ((cxs Δ Γ0 (tAll B C)).length - j) = (cxs Δ Γ0 (tAll B C)).length by omega] at q
        exact q
    · intro f et tb
      subst et
      obtain ⟨oC, q⟩ := body Δ f k
      exact (ev_small e1 hC tb.1 oC q).1
  · subst et
    obtain ⟨oC, q⟩ := body Δ f k
    have ev := (ev_small (e := 1) (by decide) hC tk oC q).2
    obtain ⟨-, -, d⟩ := Dsm_num (e := 1) (upb Γ0 Δ B :: cxs Δ Γ0 (tAll B Dsm)) false (by decide)
    rw [up_Dsm, d]
    exact ev
theorem gq5 {k0 m : Nat} : ∀ (f : Nat) (t : Ty) (D : Nat), (flat t).length ≤ f → ok D t = true → m ≤ D → (∀ i, i < D → i < k0 ∨ m ≤ i) → gq 5 k0 m t = true
  | 0, t, D, hf, o, _, _ => by have := flat_pos o; omega
  | f + 1, t, D, hf, o, hm, hi => by
    rcases ok_cases o with rfl | ⟨i, hk, rfl⟩ | ⟨a, c, rfl, ha, hb⟩ | ⟨a, c, rfl, ha, hb⟩ | ⟨c, x, y, w, hc', rfl, x0, x1, x2⟩
    · exact gq_top
    · rw [gq_var]; exact hi i hk
    · rw [flat_fun, List.length_cons, List.length_append] at hf
      rw [gq_fun]
      exact ⟨gq5 f a D (by omega) ha hm hi, gq5 f c D (by omega) hb hm hi⟩
    · rw [flat_all, List.length_cons, List.length_append] at hf
      rw [gq_all]
      refine ⟨?_, gq5 f a D (by omega) ha hm hi, gq5 f c (D + 1) (by omega) hb (by omega) (fun i h => ?_)⟩
      · rcases ok_cases ha with rfl | ⟨j, hj, rfl⟩ | ⟨p, q, rfl, -, -⟩ | ⟨p, q, rfl, -, -⟩ | ⟨m', p, q, r, hm', rfl, -, -, -⟩
        · rw [hd_top]; decide
        · rw [hd_var]; omega
        · rw [hd_fun]; decide
        · rw [hd_all]; decide
        · rw [hd_rec]; omega
      · by_cases e : i = D
        · right; omega
        · exact hi i (by omega)
    · rw [flat_rec, List.length_cons, List.length_append, List.length_append] at hf
      rw [gq_rec]
      have key : ∀ (i : Nat) (p : Ty), (flat p).length ≤ f → okl D c i p → gq 5 k0 m p = true := by
        intro i p hp ho
        unfold okl at ho
        by_cases hb : bit c i = true
        · rw [if_pos hb] at ho
          exact gq5 f p D hp ho hm hi
        · rw [if_neg hb] at ho
          rw [ho]; exact gq_nil
      exact ⟨key 0 x (by omega) x0, key 1 y (by omega) x1, key 2 w (by omega) x2⟩
theorem cxs_lowb {a : Ty} : ∀ (Δ : List Ty) (j : Nat), j < Γ0.length → bnd (cxs Δ Γ0 a) j = bnd Γ0 j
  | [], j, hj => by
    show (if j = Γ0.length then a else bnd Γ0 j) = _
    rw [if_neg (by omega)]
  | c :: Δ, j, hj => by
    show (if j = (cxs Δ Γ0 a).length then c else bnd (cxs Δ Γ0 a) j) = _
    rw [if_neg (by rw [cxs_len]; omega)]
    exact cxs_lowb Δ j hj
/-- so the body may be replaced -/
theorem HKd.ov (e1 : 1 ≤ e) (H : HKd h B C Γ0) : OVq e B C Dsm Γ0 := by
  have H' := H
  obtain ⟨⟨h16, hB⟩, hC, h0, hkB, hkC⟩ := H'
  refine ⟨⟨by unfold Dsm; exact ok_all.mpr ⟨rfl, rfl⟩, by unfold Dsm; rw [hd_all]; decide⟩, fun Δ hc => ?_⟩
  have K := Ko_KP (e := e) e1 H (cxs Δ Γ0 (tAll B C)).length
  refine ⟨_, K.1, K.2, ?_⟩
  have oA := okc_mid hc
  have oB := (ok_all.mp oA).1
  have oC := (ok_all.mp oA).2
  have le : (cxs Δ Γ0 (tAll B C)).length = Γ0.length + (Δ.length + 1) := by rw [cxs_len]; omega
  have agree : ∀ i, i < Γ0.length → tauc Γ0 i = true → tauc (cxs Δ Γ0 (tAll B C)) i = true := by
    intro i hi q
    unfold tauc at q ⊢
    rw [cxs_lowb Δ i hi]
    exact q
  have base : Ko h B C Γ0 (cxs Δ Γ0 (tAll B C)).length Δ tTop := by
    refine ⟨⟨by omega, Nat.le_refl _⟩, hc, ?_, ?_, rfl, gq_top, kq_top _ _⟩
    · intro j hj hp
      have hj0 : j < Γ0.length := by omega
      rw [Nat.min_eq_right (by omega)]
      exact gq5 _ _ j (Nat.le_refl _) (okc_bnd' hc hj) (Nat.le_refl _) (fun i hi => Or.inl (by omega))
    · intro j hj hp
      have hj0 : j < Γ0.length := by omega
      have ob := okc_bnd' hc hj
      rw [cxs_lowb Δ j hj0] at ob ⊢
      exact kq_more _ _ j _ _ (Nat.le_refl _) ob (fun i hi => agree i (by omega)) (h0 j hj0)
  have oUB : ok (cxs Δ Γ0 (tAll B C)).length (upb Γ0 Δ B) = true ∧ ok ((cxs Δ Γ0 (tAll B C)).length + 1) (upb Γ0 Δ C) = true := by
    have a := up_ok (B := B) (C := C) hc
    rw [upb_all] at a
    exact ok_all.mp a
  have gB : gq 5 Γ0.length (cxs Δ Γ0 (tAll B C)).length (upb Γ0 Δ B) = true := by
    refine gq_lft (by decide) (Nat.le_of_eq le) _ B _ (Nat.le_refl _) oB ?_
    rw [Nat.min_eq_right (by omega)]
    exact gq5 _ B _ (Nat.le_refl _) oB (Nat.le_refl _) (fun i hi => Or.inl hi)
  have gC : gq 5 Γ0.length (cxs Δ Γ0 (tAll B C)).length (upb Γ0 Δ C) = true := by
    refine gq_lft (by decide) (Nat.le_of_eq le) _ C _ (Nat.le_refl _) oC ?_
    rw [Nat.min_eq_right (by omega)]
    exact gq5 _ C _ (Nat.le_refl _) oC (by omega) (fun i hi => by omega)
  have kB := kq_lft (kms_lft _ _) (k := Γ0.length) (n := Δ.length + 1) _ B Γ0.length (tauc Γ0) (tauc (cxs Δ Γ0 (tAll B C))) (Nat.le_refl _) (Nat.le_refl _) oB (fun i hi q => by rw [if_neg (by omega)]; exact agree i hi q) h16 hkB
  rw [← le] at kB
  have kC := kq_lft (kms_lft _ _) (k := Γ0.length) (n := Δ.length + 1) _ C (Γ0.length + 1) (updt (tauc Γ0) Γ0.length B) (updt (tauc (cxs Δ Γ0 (tAll B C))) (cxs Δ Γ0 (tAll B C)).length (upb Γ0 Δ B)) (Nat.le_refl _) (by omega) oC (fun i hi q => by
    unfold updt at q ⊢
    by_cases ei : i = Γ0.length
    · rw [if_pos ei, decide_eq_true_iff] at q
      rw [if_pos (show Γ0.length ≤ i by omega), if_pos (by omega), decide_eq_true_iff]
      exact (hd_lft0 oB).1.mpr q
    · rw [if_neg ei] at q
      have hi0 : i < Γ0.length := by omega
      rw [if_neg (show ¬ Γ0.length ≤ i by omega), if_neg (by omega)]
      exact agree i hi0 q) h16 hkC
  rw [show Γ0.length + 1 + (Δ.length + 1) = (cxs Δ Γ0 (tAll B C)).length + 1 by omega] at kC
  exact base.ext oUB.1 oUB.2 gB gC kB kC
end PmUi
