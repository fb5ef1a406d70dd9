/-! THE SCHEME WITHOUT ITS BODY: values, chains, and what is inside. -/
def mz (b : Bool) (e : Nat) (Γ : List Ty) (S : Ty) : Nat := nz 0 (fun _ => 1 + e) (2 + e) (vlr b e) (onz 0 (fun _ => 1 + e) (2 + e) (vlr b e) Γ) S
section PmP4
variable {b : Bool} {e h : Nat} {Γ Γ0 Δ : List Ty} {B C S T : Ty}
theorem mz_top : mz b e Γ tTop = 0 := nz_top _
theorem mz_var {k : Nat} (hc : okc Γ) (hk : k < Γ.length) : mz b e Γ (tVar k) = vlr b e (mz b e Γ (lft k (Γ.length - k) (bnd Γ k))) := (nz_var _ k).trans (onz_exp hc hk)
theorem mz_fun (A D : Ty) : mz b e Γ (tFun A D) = (1 + e) + (mz b e Γ A + mz b e Γ D) := nz_fun _ A D
theorem mz_all (A D : Ty) : mz b e Γ (tAll A D) = (2 + e) + mz b e (A :: Γ) D := nz_all _ A D
theorem mz_rec {m : Nat} (x y z : Ty) : mz b e Γ (tRec m x y z) = (1 + e) + (mz b e Γ x + (mz b e Γ y + mz b e Γ z)) := nz_rec _ x y z
theorem vlr_up (x : Nat) : 1 + x ≤ vlr b e x := by
  cases b with
  | true => show 1 + x ≤ max e (1 + x); omega
  | false => show 1 + x ≤ 1 + max e x; omega
theorem cxz_cl : ∀ Δ : List Ty, cl (cxs Δ Γ0 (tAll B C)) = cl (cxs Δ Γ0 (tAll B tTop))
  | [] => rfl
  | a :: Δ => by
    show (1 + chn (cl (cxs Δ Γ0 (tAll B C))) a) :: cl (cxs Δ Γ0 (tAll B C)) = (1 + chn (cl (cxs Δ Γ0 (tAll B tTop))) a) :: cl (cxs Δ Γ0 (tAll B tTop))
    rw [cxz_cl Δ]
theorem cxz_cbc : ∀ Δ : List Ty, cbc e (cxs Δ Γ0 (tAll B C)) → cbc e (cxs Δ Γ0 (tAll B tTop))
  | [], q => ⟨⟨((cbd_all _ _ _).mp q.1.1).1 |> fun x => (cbd_all _ _ _).mpr ⟨x, ((cbd_all _ _ _).mp q.1.1).2.1, (cbd_top _).mpr trivial⟩, q.1.2⟩, q.2⟩
  | a :: Δ, q => by
    have q1 : cbd e (cl (cxs Δ Γ0 (tAll B C))) a ∧ 1 + chn (cl (cxs Δ Γ0 (tAll B C))) a ≤ e := q.1
    rw [cxz_cl] at q1
    exact ⟨q1, cxz_cbc Δ q.2⟩
theorem cxz_okc : ∀ Δ : List Ty, okc (cxs Δ Γ0 (tAll B C)) → okc (cxs Δ Γ0 (tAll B tTop))
  | [], q => ⟨ok_all.mpr ⟨(ok_all.mp q.1).1, rfl⟩, q.2⟩
  | a :: Δ, q => ⟨by show ok (cxs Δ Γ0 (tAll B tTop)).length a = true; rw [cxs_ll (tAll B tTop) (tAll B C)]; exact q.1, cxz_okc Δ q.2⟩
theorem cxz_TB (tb : TB e (cxs Δ Γ0 (tAll B C), S, T)) : TB e (cxs Δ Γ0 (tAll B tTop), S, T) := by
  obtain ⟨⟨t1, t2, t3⟩, c1, c2, c3⟩ := tb
  have t2 : ok (cxs Δ Γ0 (tAll B C)).length S = true := t2
  have t3 : ok (cxs Δ Γ0 (tAll B C)).length T = true := t3
  have c2 : cbd e (cl (cxs Δ Γ0 (tAll B C))) S := c2
  have c3 : cbd e (cl (cxs Δ Γ0 (tAll B C))) T := c3
  refine ⟨⟨cxz_okc Δ t1, ?_, ?_⟩, cxz_cbc Δ c1, ?_, ?_⟩
  · show ok (cxs Δ Γ0 (tAll B tTop)).length S = true
    rw [cxs_ll (tAll B tTop) (tAll B C)]; exact t2
  · show ok (cxs Δ Γ0 (tAll B tTop)).length T = true
    rw [cxs_ll (tAll B tTop) (tAll B C)]; exact t3
  · show cbd e (cl (cxs Δ Γ0 (tAll B tTop))) S
    rw [← cxz_cl (C := C)]; exact c2
  · show cbd e (cl (cxs Δ Γ0 (tAll B tTop))) T
    rw [← cxz_cl (C := C)]; exact c3
/-- nothing in the body, the bound and the bounds before has a scheme with that head for a bound -/
def ZH (h : Nat) (B C : Ty) (Γ0 : List Ty) : Prop := (h < 16 ∧ hd B = h) ∧ noh h B = true ∧ noh h C = true ∧ ∀ a ∈ Γ0, noh h a = true
theorem noh_gq {k : Nat} : ∀ (f : Nat) (t : Ty) (D : Nat), (flat t).length ≤ f → ok D t = true → noh h t = true → gq h k k t = true
  | 0, t, D, hf, o, _ => by have := flat_pos o; omega
  | f + 1, t, D, hf, o, ht => by
    rcases ok_cases o with rfl | ⟨j, hj, rfl⟩ | ⟨a, c, rfl, ha, hb⟩ | ⟨a, c, rfl, ha, hb⟩ | ⟨m, x, y, z, hm, rfl, h0, h1, h2⟩
    · exact gq_top
    · rw [gq_var]; omega
    · rw [flat_fun, List.length_cons, List.length_append] at hf
      rw [noh_fun] at ht
      rw [gq_fun]
      exact ⟨noh_gq f a D (by omega) ha ht.1, noh_gq f c D (by omega) hb ht.2⟩
    · rw [flat_all, List.length_cons, List.length_append] at hf
      rw [noh_all] at ht
      rw [gq_all]
      exact ⟨ht.1, noh_gq f a D (by omega) ha ht.2.1, noh_gq f c (D + 1) (by omega) hb ht.2.2⟩
    · rw [flat_rec, List.length_cons, List.length_append, List.length_append] at hf
      rw [noh_rec] at ht
      rw [gq_rec]
      have key : ∀ (i : Nat) (p : Ty), (flat p).length ≤ f → okl D m i p → noh h p = true → gq h k k p = true := by
        intro i p hp ho hn
        unfold okl at ho
        by_cases hb : bit m i = true
        · rw [if_pos hb] at ho
          exact noh_gq f p D hp ho hn
        · rw [if_neg hb] at ho
          rw [ho]; exact gq_nil
      exact ⟨key 0 x (by omega) h0 ht.1, key 1 y (by omega) h1 ht.2.1, key 2 z (by omega) h2 ht.2.2⟩
/-- a lower level to begin with asks less -/
theorem gq_less {k m m' : Nat} (hm : m' ≤ m) : ∀ (f : Nat) (t : Ty) (D : Nat), (flat t).length ≤ f → ok D t = true → gq h k m t = true → gq h k m' t = true
  | 0, t, D, hf, o, _ => by have := flat_pos o; omega
  | f + 1, t, D, hf, o, ht => by
    rcases ok_cases o with rfl | ⟨j, hj, rfl⟩ | ⟨a, c, rfl, ha, hb⟩ | ⟨a, c, rfl, ha, hb⟩ | ⟨c, x, y, z, hc, rfl, h0, h1, h2⟩
    · exact gq_top
    · rw [gq_var] at ht ⊢; omega
    · rw [flat_fun, List.length_cons, List.length_append] at hf
      rw [gq_fun] at ht ⊢
      exact ⟨gq_less hm f a D (by omega) ha ht.1, gq_less hm f c D (by omega) hb ht.2⟩
    · rw [flat_all, List.length_cons, List.length_append] at hf
      rw [gq_all] at ht ⊢
      exact ⟨ht.1, gq_less hm f a D (by omega) ha ht.2.1, gq_less hm f c (D + 1) (by omega) hb ht.2.2⟩
    · rw [flat_rec, List.length_cons, List.length_append, List.length_append] at hf
      rw [gq_rec] at ht ⊢
      have key : ∀ (i : Nat) (p : Ty), (flat p).length ≤ f → okl D c i p → gq h k m p = true → gq h k m' p = true := by
        intro i p hp ho hn
        unfold okl at ho
        by_cases hb : bit c i = true
        · rw [if_pos hb] at ho
          exact gq_less hm f p D hp ho hn
        · rw [if_neg hb] at ho
          rw [ho]; exact gq_nil
      exact ⟨key 0 x (by omega) h0 ht.1, key 1 y (by omega) h1 ht.2.1, key 2 z (by omega) h2 ht.2.2⟩
theorem cxs_low {a : Ty} : ∀ (Δ : List Ty) (j : Nat), j < Γ0.length → bnd (cxs Δ Γ0 a) j ∈ Γ0
  | [], j, hj => by
    show (if j = Γ0.length then a else bnd Γ0 j) ∈ Γ0
    rw [if_neg (by omega)]; exact bnd_mem Γ0 j hj
  | c :: Δ, j, hj => by
    show (if j = (cxs Δ Γ0 a).length then c else bnd (cxs Δ Γ0 a) j) ∈ Γ0
    rw [if_neg (by rw [cxs_len]; omega)]
    exact cxs_low Δ j hj
theorem ZH.zc (z : ZH h B C Γ0) (hc : okc (cxs Δ Γ0 (tAll B C))) : ZC h B C tTop Γ0 (cxs Δ Γ0 (tAll B C)).length Δ := by
  refine ⟨z.1, hc, cxz_okc Δ hc, ⟨by rw [cxs_len]; omega, Nat.le_refl _⟩, fun j hj hp => ?_⟩
  have hj0 : j < Γ0.length := by omega
  have n := z.2.2.2 _ (cxs_low (a := tAll B C) Δ j hj0)
  rw [Nat.min_eq_right (by omega)]
  have o := okc_bnd' hc hj
  have q := noh_gq (h := h) (k := j) _ (bnd (cxs Δ Γ0 (tAll B C)) j) j (Nat.le_refl _) o n
  have key : ∀ (f : Nat) (t : Ty) (D : Nat), (flat t).length ≤ f → ok D t = true → gq h j j t = true → gq h Γ0.length j t = true := by
    intro f
    induction f with
    | zero => intro t D hf o; have := flat_pos o; omega
    | succ f ih =>
      intro t D hf o ht
      rcases ok_cases o with rfl | ⟨i, hi, rfl⟩ | ⟨a, c, rfl, ha, hb⟩ | ⟨a, c, rfl, ha, hb⟩ | ⟨c, x, y, w, hc', rfl, h0, h1, h2⟩
      · exact gq_top
      · rw [gq_var]; omega
      · rw [flat_fun, List.length_cons, List.length_append] at hf
        rw [gq_fun] at ht ⊢
        exact ⟨ih a D (by omega) ha ht.1, ih c D (by omega) hb ht.2⟩
      · rw [flat_all, List.length_cons, List.length_append] at hf
        rw [gq_all] at ht ⊢
        exact ⟨ht.1, ih a D (by omega) ha ht.2.1, ih c (D + 1) (by omega) hb ht.2.2⟩
      · rw [flat_rec, List.length_cons, List.length_append, List.length_append] at hf
        rw [gq_rec] at ht ⊢
        have key : ∀ (i : Nat) (p : Ty), (flat p).length ≤ f → okl D c i p → gq h j j p = true → gq h Γ0.length j p = true := by
          intro i p hp ho hn
          unfold okl at ho
          by_cases hb : bit c i = true
          · rw [if_pos hb] at ho
            exact ih p D hp ho hn
          · rw [if_neg hb] at ho
            rw [ho]; exact gq_nil
        exact ⟨key 0 x (by omega) h0 ht.1, key 1 y (by omega) h1 ht.2.1, key 2 w (by omega) h2 ht.2.2⟩
  exact key _ _ j (Nat.le_refl _) o q
/-- the body, and the bound, lifted to where the walk stands -/
theorem ZH.body (z : ZH h B C Γ0) (hc : okc (cxs Δ Γ0 (tAll B C))) : gq h Γ0.length (cxs Δ Γ0 (tAll B C)).length (upb Γ0 Δ B) = true ∧ gq h Γ0.length (cxs Δ Γ0 (tAll B C)).length (upb Γ0 Δ C) = true := by
  have o := ok_all.mp (okc_mid hc)
  have e : (cxs Δ Γ0 (tAll B C)).length = Γ0.length + (Δ.length + 1) := by rw [cxs_len]; omega
  have m1 : min (cxs Δ Γ0 (tAll B C)).length Γ0.length = Γ0.length := Nat.min_eq_right (by omega)
  unfold upb
  refine ⟨gq_lft z.1.1 (Nat.le_of_eq e) _ B _ (Nat.le_refl _) o.1 ?_, gq_lft z.1.1 (Nat.le_of_eq e) _ C _ (Nat.le_refl _) o.2 ?_⟩
  · rw [m1]; exact noh_gq _ B _ (Nat.le_refl _) o.1 z.2.1
  · rw [m1]; exact noh_gq _ C _ (Nat.le_refl _) o.2 z.2.2.1
end PmP4
