/-! TYPES OF TERMS IN WHICH NO OTHER SCHEME HAS A BOUND WITH THAT HEAD. -/
section PmT2
variable {hb : Nat}
/-- an instance -/
theorem noh_sbt (h16 : hb < 16) {n : Nat} {A : Ty} (oA : ok n A = true) (nA : noh hb A = true) : ∀ (f : Nat) (t : Ty) (μ : Nat), (flat t).length ≤ f → ok (n + 1 + μ) t = true → noal t = true → noh hb t = true → noh hb (sbt n A μ t) = true ∧ (hd t < 16 → hd (sbt n A μ t) = hd t)
  | 0, t, μ, hf, o, _, _ => by have := flat_pos o; omega
  | f + 1, t, μ, hf, o, h, nt => by
    rcases ok_cases o with rfl | ⟨k, hk, rfl⟩ | ⟨a, c, rfl, ha, hb1⟩ | ⟨a, c, rfl, ha, hb1⟩ | ⟨l, x, y, z, hm, rfl, h0, h1, h2⟩
    · rw [sbt_top]; exact ⟨rfl, fun _ => rfl⟩
    · refine ⟨?_, fun e => by rw [hd_var] at e; omega⟩
      rw [sbt_var]
      by_cases e : k = n
      · rw [if_pos e]
        exact noh_lft h16 _ _ _ A n (Nat.le_refl _) oA nA
      · rw [if_neg e]; split <;> rfl
    · rw [flat_fun, List.length_cons, List.length_append] at hf
      rw [noal_fun, Bool.and_eq_true] at h
      rw [noh_fun] at nt
      rw [sbt_fun]
      exact ⟨noh_fun.mpr ⟨(noh_sbt h16 oA nA f a μ (by omega) ha h.1 nt.1).1, (noh_sbt h16 oA nA f c μ (by omega) hb1 h.2 nt.2).1⟩, fun _ => by rw [hd_fun, hd_fun]⟩
    · rw [flat_all, List.length_cons, List.length_append] at hf
      rw [noal_all, Bool.and_eq_true, Bool.and_eq_true, decide_eq_true_iff] at h
      rw [noh_all] at nt
      have q1 := noh_sbt h16 oA nA f a μ (by omega) ha h.2.1 nt.2.1
      have q2 := noh_sbt h16 oA nA f c (μ + 1) (by omega) hb1 h.2.2 nt.2.2
      rw [sbt_all]
      exact ⟨noh_all.mpr ⟨by rw [q1.2 h.1]; exact nt.1, q1.1, q2.1⟩, fun _ => by rw [hd_all, hd_all]⟩
    · rw [flat_rec, List.length_cons, List.length_append, List.length_append] at hf
      rw [noal_rec, Bool.and_eq_true, Bool.and_eq_true] at h
      rw [noh_rec] at nt
      have key : ∀ (i : Nat) (p : Ty), (flat p).length ≤ f → okl (n + 1 + μ) l i p → noal p = true → noh hb p = true → noh hb (sbt n A μ p) = true := by
        intro i p hp ho hn nn
        unfold okl at ho
        by_cases hb : bit l i = true
        · rw [if_pos hb] at ho
          exact (noh_sbt h16 oA nA f p μ hp ho hn nn).1
        · rw [if_neg hb] at ho
          rw [ho, sbt_nil]; rfl
      rw [sbt_rec]
      exact ⟨noh_rec.mpr ⟨key 0 x (by omega) h0 h.1 nt.1, key 1 y (by omega) h1 h.2.1 nt.2.1, key 2 z (by omega) h2 h.2.2 nt.2.2⟩, fun _ => by rw [hd_rec, hd_rec]⟩
end PmT2
/-- the texts of a term -/
def NHt (hb : Nat) : Nat → Ty → Prop
  | 0, _ => True
  | f + 1, t => (nKd t = 6 → noh hb (nX t) = true ∧ NHt hb f (nY t)) ∧ (nKd t = 7 ∨ nKd t = 12 → NHt hb f (nX t) ∧ NHt hb f (nY t)) ∧ (nKd t = 8 → (noh hb (nX t) = true ∧ hd (nX t) ≠ hb) ∧ NHt hb f (nY t)) ∧ (nKd t = 9 → NHt hb f (nX t) ∧ noh hb (nY t) = true) ∧ (nKd t = 10 → ∀ g, g < 3 → bit (nMk t) g = true → NHt hb f (nP t g)) ∧ (nKd t = 11 → NHt hb f (nX t))
section PmT3
variable {hb : Nat} {B C : Ty} {Γ0 : List Ty}
theorem noh_expo {Δ1 : List Ty} (s : SGc hb B C tTop Γ0 Δ1) : ∀ (f : Nat) (S : Ty), ok (cxs Δ1 Γ0 (tAll B C)).length S = true → noh hb S = true → noh hb (expo (cxs Δ1 Γ0 (tAll B C)) f S) = true ∨ expo (cxs Δ1 Γ0 (tAll B C)) f S = upb Γ0 Δ1 (tAll B C)
  | 0, S, _, h => Or.inl h
  | f + 1, S, o, h => by
    show noh hb (if 16 ≤ hd S then expo (cxs Δ1 Γ0 (tAll B C)) f (exps (cxs Δ1 Γ0 (tAll B C)) S) else S) = true ∨ (if 16 ≤ hd S then expo (cxs Δ1 Γ0 (tAll B C)) f (exps (cxs Δ1 Γ0 (tAll B C)) S) else S) = upb Γ0 Δ1 (tAll B C)
    by_cases c : 16 ≤ hd S
    · rw [if_pos c]
      obtain ⟨k, hk, rfl⟩ := hd_is_var o c
      rw [exps_var]
      by_cases ek : k = Γ0.length
      · subst ek
        right
        rw [cxs_up, expo_lo (by rw [upb_all, hd_all]; omega)]
      · exact noh_expo s f _ (ok_expose s.o1 hk) (s.ex hk ek).2
    · rw [if_neg c]; exact Or.inl h
theorem noh_upC {Δ1 : List Ty} (s : SGc hb B C tTop Γ0 Δ1) (nC : noh hb C = true) : noh hb (upb Γ0 Δ1 C) = true := noh_lft s.h16 _ _ _ C _ (Nat.le_refl _) (ok_all.mp (okc_mid s.o1)).2 nC
theorem tyF_noh (nC : noh hb C = true) : ∀ (f : Nat) (t : Ty) (Δ1 : List Ty) (Δ : List (Nat × Ty × Nat)) (A : Ty), TWf f (cxs Δ1 Γ0 (tAll B C)).length (Δ.map (fun a => a.1)) t → TE (cxs Δ1 Γ0 (tAll B C)) Δ → NHt hb f t → NAt f t → noac (cxs Δ1 Γ0 (tAll B C)) → SGc hb B C tTop Γ0 Δ1 → (∀ a ∈ Δ, noh hb a.2.1 = true ∧ noal a.2.1 = true) → tyF f t (cxs Δ1 Γ0 (tAll B C)) Δ = .inr A → noh hb A = true
  | 0, _, _, _, _, w, _, _, _, _, _, _, _ => w.elim
  | f + 1, t, Δ1, Δ, A, w, he, nh, na, hv, s, hd', e0 => by
    obtain ⟨w0, w5, w6, w7, w8, w9, w10, w11, w12⟩ := w
    obtain ⟨v6, v7, v8, v9, v10, v11⟩ := nh
    obtain ⟨u6, u7, u8, u9, u10, u11⟩ := na
    have h16 := s.h16
    have ih := fun t' Δ1' Δ' A' => tyF_noh nC f t' Δ1' Δ' A'
    have io := fun t' Γ' Δ' A' => tyF_ok f t' Γ' Δ' A'
    unfold tyF at e0
    by_cases c5 : nKd t = 5
    · rw [if_pos c5] at e0
      obtain ⟨e, l⟩ := tyO_in e0
      obtain ⟨a, ha⟩ := dlk_some (w5 c5)
      rw [ha] at e
      injection e with e
      rw [← e]
      have e2 : ok a.2 a.1 = true := (he.2.2 _ (dlk_mem ha)).2.1
      exact noh_lft h16 _ _ _ a.1 a.2 (Nat.le_refl _) e2 (hd' _ (dlk_mem ha)).1
    rw [if_neg c5] at e0
    by_cases c6 : nKd t = 6
    · rw [if_pos c6] at e0
      obtain ⟨B', hB, h1⟩ := tbd_in e0
      obtain ⟨-, x1, x2, x3⟩ := w6 c6
      have q := ih (nY t) Δ1 ((nPl t, nX t, (cxs Δ1 Γ0 (tAll B C)).length) :: Δ) B' x3 (he.lam x1 x2) (v6 c6).2 (u6 c6).2 hv s (fun a ha => by
        rcases List.mem_cons.mp ha with e | e
        · rw [e]; exact ⟨(v6 c6).1, (u6 c6).1⟩
        · exact hd' a e) hB
      obtain ⟨e, l⟩ := szt_in h1
      subst e
      exact noh_fun.mpr ⟨(v6 c6).1, q⟩
    rw [if_neg c6] at e0
    by_cases c7 : nKd t = 7
    · rw [if_pos c7] at e0
      obtain ⟨S, hS, h1⟩ := tbd_in e0
      obtain ⟨T, hT, h1⟩ := tbd_in h1
      obtain ⟨e, l⟩ := tyO_in h1
      obtain ⟨x1, x2⟩ := w7 (Or.inl c7)
      obtain ⟨s1, s2'⟩ := io _ _ _ _ x1 he hS
      obtain ⟨o1, o2⟩ := expo_ok he.1 he.2.1 (cxs Δ1 Γ0 (tAll B C)).length S s1 s2'
      have q := ih _ _ _ _ x1 he (v7 (Or.inl c7)).1 (u7 (Or.inl c7)).1 hv s hd' hS
      have q2 := noh_expo s (cxs Δ1 Γ0 (tAll B C)).length S s1 q
      unfold tyA at e
      by_cases c : hd (expo (cxs Δ1 Γ0 (tAll B C)) (cxs Δ1 Γ0 (tAll B C)).length S) = 1 ∧ bel (cxs Δ1 Γ0 (tAll B C)) T (k1 (expo (cxs Δ1 Γ0 (tAll B C)) (cxs Δ1 Γ0 (tAll B C)).length S)) = true
      · rw [if_pos c] at e
        injection e with e
        subst e
        obtain ⟨a, b, e2, ha, hb'⟩ := hd_is_fun o1 c.1
        rw [e2] at q2
        rcases q2 with q2 | q2
        · rw [e2]
          exact (noh_fun.mp q2).2
        · have := congrArg hd q2
          rw [upb_all, hd_all, hd_fun] at this
          omega
      · rw [if_neg c] at e; cases e
    rw [if_neg c7] at e0
    by_cases c8 : nKd t = 8
    · rw [if_pos c8] at e0
      obtain ⟨B', hB, h1⟩ := tbd_in e0
      obtain ⟨x1, x2, x3⟩ := w8 c8
      obtain ⟨⟨y1, y2⟩, y3⟩ := v8 c8
      have q := ih (nY t) (nX t :: Δ1) Δ B' x3 (he.all x1 x2) y3 (u8 c8).2 (noac_cons hv (u8 c8).1.1 (u8 c8).1.2) (s.ext x1 y1) hd' hB
      obtain ⟨e, l⟩ := szt_in h1
      subst e
      exact noh_all.mpr ⟨y2, y1, q⟩
    rw [if_neg c8] at e0
    by_cases c9 : nKd t = 9
    · rw [if_pos c9] at e0
      obtain ⟨S, hS, h1⟩ := tbd_in e0
      obtain ⟨e, l⟩ := tyO_in h1
      obtain ⟨x1, x2, x3⟩ := w9 c9
      obtain ⟨s1, s2'⟩ := io _ _ _ _ x1 he hS
      obtain ⟨o1, o2⟩ := expo_ok he.1 he.2.1 (cxs Δ1 Γ0 (tAll B C)).length S s1 s2'
      have q := ih _ _ _ _ x1 he (v9 c9).1 (u9 c9).1 hv s hd' hS
      have q2 := noh_expo s (cxs Δ1 Γ0 (tAll B C)).length S s1 q
      have nl := noal_expo he.1 hv (cxs Δ1 Γ0 (tAll B C)).length S s1 (tyF_noal f _ _ Δ S x1 he (u9 c9).1 hv (fun a ha => (hd' a ha).2) hS)
      unfold tyI at e
      by_cases c : hd (expo (cxs Δ1 Γ0 (tAll B C)) (cxs Δ1 Γ0 (tAll B C)).length S) = 2 ∧ bel (cxs Δ1 Γ0 (tAll B C)) (nY t) (k1 (expo (cxs Δ1 Γ0 (tAll B C)) (cxs Δ1 Γ0 (tAll B C)).length S)) = true
      · rw [if_pos c] at e
        injection e with e
        subst e
        obtain ⟨a, b, e2, ha, hb'⟩ := hd_is_all o1 c.1
        rw [e2] at q2 nl
        have nb : noh hb b = true := by
          rcases q2 with q2 | q2
          · exact (noh_all.mp q2).2.2
          · rw [upb_all] at q2
            unfold tAll at q2
            injection q2 with q2 q3
            injection q3 with q3 q4
            rw [q4]
            exact noh_upC s nC
        rw [noal_all, Bool.and_eq_true, Bool.and_eq_true] at nl
        rw [e2]
        exact (noh_sbt h16 x2 (v9 c9).2 _ b 0 (Nat.le_refl _) hb' nl.2.2 nb).1
      · rw [if_neg c] at e; cases e
    rw [if_neg c9] at e0
    by_cases c10 : nKd t = 10
    · rw [if_pos c10] at e0
      obtain ⟨A1, hA1, h1⟩ := tbd_in e0
      obtain ⟨A2, hA2, h1⟩ := tbd_in h1
      obtain ⟨A3, hA3, h1⟩ := tbd_in h1
      obtain ⟨e, l⟩ := szt_in h1
      obtain ⟨m8, x1⟩ := w10 c10
      subst e
      have key : ∀ (g : Nat) (B' : Ty), g < 3 → (if bit (nMk t) g = true then tyF f (nP t g) (cxs Δ1 Γ0 (tAll B C)) Δ else .inr .nil) = .inr B' → noh hb B' = true := by
        intro g B' hg hB
        by_cases c : bit (nMk t) g = true
        · rw [if_pos c] at hB
          exact ih _ _ _ _ (x1 g hg c) he (v10 c10 g hg c) (u10 c10 g hg c) hv s hd' hB
        · rw [if_neg c] at hB
          injection hB with hB
          rw [← hB]; rfl
      exact noh_rec.mpr ⟨key 0 A1 (by decide) hA1, key 1 A2 (by decide) hA2, key 2 A3 (by decide) hA3⟩
    rw [if_neg c10] at e0
    by_cases c11 : nKd t = 11
    · rw [if_pos c11] at e0
      obtain ⟨S, hS, h1⟩ := tbd_in e0
      obtain ⟨e, l⟩ := tyO_in h1
      obtain ⟨m3, x1⟩ := w11 c11
      obtain ⟨s1, s2'⟩ := io _ _ _ _ x1 he hS
      obtain ⟨o1, o2⟩ := expo_ok he.1 he.2.1 (cxs Δ1 Γ0 (tAll B C)).length S s1 s2'
      have q := ih _ _ _ _ x1 he (v11 c11) (u11 c11) hv s hd' hS
      have q2 := noh_expo s (cxs Δ1 Γ0 (tAll B C)).length S s1 q
      unfold tyD at e
      by_cases c : (8 ≤ hd (expo (cxs Δ1 Γ0 (tAll B C)) (cxs Δ1 Γ0 (tAll B C)).length S) ∧ hd (expo (cxs Δ1 Γ0 (tAll B C)) (cxs Δ1 Γ0 (tAll B C)).length S) < 16) ∧ bit (hd (expo (cxs Δ1 Γ0 (tAll B C)) (cxs Δ1 Γ0 (tAll B C)).length S) - 8) (nMk t) = true
      · rw [if_pos c] at e
        injection e with e
        subst e
        obtain ⟨m, x, y, z, hm', e2⟩ := hd_is_rec o1 c.1.1 c.1.2
        rw [e2] at q2
        have q2 : noh hb (tRec m x y z) = true := by
          rcases q2 with q2 | q2
          · exact q2
          · exfalso
            have := congrArg hd q2
            rw [upb_all, hd_all, hd_rec] at this
            omega
        rw [noh_rec] at q2
        rw [e2]
        rcases (show nMk t = 0 ∨ nMk t = 1 ∨ nMk t = 2 by omega) with e | e | e
        · rw [e, (pt_rec hm' x y z).1]; exact q2.1
        · rw [e, (pt_rec hm' x y z).2.1]; exact q2.2.1
        · rw [e, (pt_rec hm' x y z).2.2]; exact q2.2.2
      · rw [if_neg c] at e; cases e
    rw [if_neg c11] at e0
    obtain ⟨S, hS, h1⟩ := tbd_in e0
    obtain ⟨T, hT, h1⟩ := tbd_in h1
    obtain ⟨e, l⟩ := tyO_in h1
    have c12 : nKd t = 12 := by omega
    obtain ⟨x1, x2⟩ := w7 (Or.inr c12)
    obtain ⟨s1, s2'⟩ := io _ _ _ _ x1 he hS
    obtain ⟨t1, t2⟩ := io _ _ _ _ x2 he hT
    have q1 := ih _ _ _ _ x1 he (v7 (Or.inr c12)).1 (u7 (Or.inr c12)).1 hv s hd' hS
    have q2 := ih _ _ _ _ x2 he (v7 (Or.inr c12)).2 (u7 (Or.inr c12)).2 hv s hd' hT
    exact (cmu_gone NC_nodes (by omega) s (onz_cv NC_nodes s.o2) ⟨he.1, s1, t1⟩ q1 q2 e).1
end PmT3
