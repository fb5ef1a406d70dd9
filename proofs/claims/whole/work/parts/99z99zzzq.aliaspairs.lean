/-! CONTEXTS WITH ALIASES: types stay without alias headers; chains of 1 + a; pairs. -/
def noaw (Γ : List Ty) : Prop := ∀ k, k < Γ.length → noal (bnd Γ k) = true ∧ True
theorem noac_consw {Γ : List Ty} {a : Ty} (h : noaw Γ) (ha : noal a = true) (_ : hd a < 16) : noaw (a :: Γ) := by
  intro k hk
  show noal (if k = Γ.length then a else bnd Γ k) = true ∧ True
  by_cases e : k = Γ.length
  · rw [if_pos e]; exact ⟨ha, trivial⟩
  · rw [if_neg e]; exact h k (by rw [List.length_cons] at hk; omega)
theorem noal_expw {Γ : List Ty} {k : Nat} (hc : okc Γ) (h : noaw Γ) (hk : k < Γ.length) : noal (lft k (Γ.length - k) (bnd Γ k)) = true := noal_lft _ _ _ _ k (Nat.le_refl _) (okc_bnd' hc hk) (h k hk).1
theorem cu_noalw : ∀ (f w : Nat) (Γ : List Ty) (S T R : Ty), noaw Γ → tok (Γ, S, T) → noal S = true → noal T = true → cu f w Γ S T = some R → noal R = true
  | 0, _, _, _, _, _, _, _, _, _, e => by cases e
  | f + 1, w, Γ, S, T, R, hv, tk, nS, nT, e => by
    have hc : okc Γ := tk.1
    have hs : ok Γ.length S = true := tk.2.1
    have hT : ok Γ.length T = true := tk.2.2
    have e : cmsU (cu f) w Γ S T = some R := e
    unfold cmsU at e
    by_cases c1 : w = 2
    · rw [if_pos c1] at e; cases e; exact nS
    rw [if_neg c1] at e
    by_cases c2 : bel Γ S T = true
    · rw [if_pos c2] at e
      by_cases c0 : w = 0
      · rw [if_pos c0] at e; cases e; exact nT
      · rw [if_neg c0] at e; cases e; exact nS
    rw [if_neg c2] at e
    by_cases c3 : bel Γ T S = true
    · rw [if_pos c3] at e
      by_cases c0 : w = 0
      · rw [if_pos c0] at e; cases e; exact nS
      · rw [if_neg c0] at e; cases e; exact nT
    rw [if_neg c3] at e
    by_cases c4 : 16 ≤ hd S
    · rw [if_pos c4] at e
      by_cases c5 : w = 1
      · rw [if_pos c5] at e; cases e
      rw [if_neg c5] at e
      obtain ⟨k, hk, rfl⟩ := hd_is_var hs c4
      rw [exps_var] at e
      exact cu_noalw f w Γ _ T R hv ⟨hc, ok_expose hc hk, hT⟩ (noal_expw hc hv hk) nT e
    rw [if_neg c4] at e
    by_cases c6 : 16 ≤ hd T
    · rw [if_pos c6] at e
      by_cases c5 : w = 1
      · rw [if_pos c5] at e; cases e
      rw [if_neg c5] at e
      obtain ⟨k, hk, rfl⟩ := hd_is_var hT c6
      rw [exps_var] at e
      exact cu_noalw f w Γ S _ R hv ⟨hc, hs, ok_expose hc hk⟩ nS (noal_expw hc hv hk) e
    rw [if_neg c6] at e
    by_cases c7 : 8 ≤ hd S ∧ 8 ≤ hd T
    · rw [if_pos c7] at e
      obtain ⟨m, x, y, z, hm, rfl⟩ := hd_is_rec hs c7.1 (by omega)
      obtain ⟨m', x', y', z', hm', rfl⟩ := hd_is_rec hT c7.2 (by omega)
      obtain ⟨h0, h1, h2⟩ := (ok_rec hm).mp hs
      obtain ⟨h0', h1', h2'⟩ := (ok_rec hm').mp hT
      rw [hd_rec, hd_rec, show 8 + m - 8 = m by omega, show 8 + m' - 8 = m' by omega] at e
      rw [noal_rec, Bool.and_eq_true, Bool.and_eq_true] at nS nT
      rcases uRec_some e with e | ⟨a, b, c, ea, eb, ec, e⟩
      · rw [e]; rfl
      · have q0 := noal_upart (fun i1 i2 R hR => cu_noalw f w Γ x x' R hv ⟨hc, okl_on h0 (bit_iff.mp i1), okl_on h0' (bit_iff.mp i2)⟩ nS.1 nT.1 hR) nS.1 nT.1 ea
        have q1 := noal_upart (fun i1 i2 R hR => cu_noalw f w Γ y y' R hv ⟨hc, okl_on h1 (bit_iff.mp i1), okl_on h1' (bit_iff.mp i2)⟩ nS.2.1 nT.2.1 hR) nS.2.1 nT.2.1 eb
        have q2 := noal_upart (fun i1 i2 R hR => cu_noalw f w Γ z z' R hv ⟨hc, okl_on h2 (bit_iff.mp i1), okl_on h2' (bit_iff.mp i2)⟩ nS.2.2 nT.2.2 hR) nS.2.2 nT.2.2 ec
        rw [e, noal_rec, q0, q1, q2]; rfl
    rw [if_neg c7] at e
    by_cases c8 : hd S = 1 ∧ hd T = 1
    · rw [if_pos c8] at e
      obtain ⟨a, b, rfl, ha, hb⟩ := hd_is_fun hs c8.1
      obtain ⟨a', b', rfl, ha', hb'⟩ := hd_is_fun hT c8.2
      rw [noal_fun, Bool.and_eq_true] at nS nT
      rcases uFun_some e with e | ⟨p, q, ep, eq, e⟩
      · rw [e]; rfl
      · have q1 := cu_noalw f (1 - w) Γ a a' p hv ⟨hc, ha, ha'⟩ nS.1 nT.1 ep
        have q2 := cu_noalw f w Γ b b' q hv ⟨hc, hb, hb'⟩ nS.2 nT.2 eq
        rw [e, noal_fun, q1, q2]; rfl
    rw [if_neg c8] at e
    by_cases c9 : hd S = 2 ∧ hd T = 2 ∧ flat (k1 S) = flat (k1 T)
    · rw [if_pos c9] at e
      obtain ⟨a, b, rfl, ha, hb⟩ := hd_is_all hs c9.1
      obtain ⟨a', b', rfl, ha', hb'⟩ := hd_is_all hT c9.2.1
      have ea : a = a' := flat_eq ha ha' c9.2.2
      subst ea
      rw [noal_all, Bool.and_eq_true, Bool.and_eq_true, decide_eq_true_iff] at nS nT
      rcases uAll_some e with e | ⟨q, eq, e⟩
      · rw [e]; rfl
      · have e : R = tAll a q := e
        have q1 := cu_noalw f w (a :: Γ) b b' q (noac_consw hv nS.2.1 nS.1) ⟨⟨ha, hc⟩, hb, hb'⟩ nS.2.2 nT.2.2 eq
        rw [e, noal_all, nS.2.1, q1]
        simp [nS.1]
    rw [if_neg c9] at e
    rw [tnu_some e]; rfl
theorem noal_expow {Γ : List Ty} (hc : okc Γ) (hv : noaw Γ) : ∀ (f : Nat) (S : Ty), ok Γ.length S = true → noal S = true → noal (expo Γ f S) = true
  | 0, S, _, h => h
  | f + 1, S, o, h => by
    show noal (if 16 ≤ hd S then expo Γ f (exps Γ S) else S) = true
    by_cases c : 16 ≤ hd S
    · rw [if_pos c]
      obtain ⟨k, hk, rfl⟩ := hd_is_var o c
      rw [exps_var]
      exact noal_expow hc hv f _ (ok_expose hc hk) (noal_expw hc hv hk)
    · rw [if_neg c]; exact h
theorem tyF_noalw : ∀ (f : Nat) (t : Ty) (Γ : List Ty) (Δ : List (Nat × Ty × Nat)) (A : Ty), TWf f Γ.length (Δ.map (fun a => a.1)) t → TE Γ Δ → NAt f t → noaw Γ → (∀ a ∈ Δ, noal a.2.1 = true) → tyF f t Γ Δ = .inr A → noal A = true
  | 0, _, _, _, _, w, _, _, _, _, _ => w.elim
  | f + 1, t, Γ, Δ, A, w, he, na, hv, hd', e0 => by
    obtain ⟨w0, w5, w6, w7, w8, w9, w10, w11, w12⟩ := w
    obtain ⟨v6, v7, v8, v9, v10, v11⟩ := na
    have ih := fun t' Γ' Δ' A' => tyF_noalw f t' Γ' Δ' A'
    have io := fun t' Γ' Δ' A' => tyF_ok f t' Γ' Δ' A'
    unfold tyF at e0
    by_cases c5 : nKd t = 5
    · rw [if_pos c5] at e0
      obtain ⟨e, l⟩ := tyO_in e0
      obtain ⟨a, ha⟩ := dlk_some (w5 c5)
      rw [ha] at e
      injection e with e
      rw [← e]
      have e2 : ok a.2 a.1 = true := (he.2.2 _ (dlk_mem ha)).2.1
      exact noal_lft _ _ _ a.1 a.2 (Nat.le_refl _) e2 (hd' _ (dlk_mem ha))
    rw [if_neg c5] at e0
    by_cases c6 : nKd t = 6
    · rw [if_pos c6] at e0
      obtain ⟨B, hB, h1⟩ := tbd_in e0
      obtain ⟨-, x1, x2, x3⟩ := w6 c6
      have q := ih (nY t) Γ ((nPl t, nX t, Γ.length) :: Δ) B x3 (he.lam x1 x2) (v6 c6).2 hv (fun a ha => by
        rcases List.mem_cons.mp ha with e | e
        · rw [e]; exact (v6 c6).1
        · exact hd' a e) hB
      obtain ⟨e, l⟩ := szt_in h1
      subst e
      rw [noal_fun, (v6 c6).1, q]; rfl
    rw [if_neg c6] at e0
    by_cases c7 : nKd t = 7
    · rw [if_pos c7] at e0
      obtain ⟨S, hS, h1⟩ := tbd_in e0
      obtain ⟨T, hT, h1⟩ := tbd_in h1
      obtain ⟨e, l⟩ := tyO_in h1
      obtain ⟨x1, x2⟩ := w7 (Or.inl c7)
      obtain ⟨s1, s2'⟩ := io _ _ _ _ x1 he hS
      obtain ⟨o1, o2⟩ := expo_ok he.1 he.2.1 Γ.length S s1 s2'
      have q := ih _ _ _ _ x1 he (v7 (Or.inl c7)).1 hv hd' hS
      have q2 := noal_expow he.1 hv Γ.length S s1 q
      unfold tyA at e
      by_cases c : hd (expo Γ Γ.length S) = 1 ∧ bel Γ T (k1 (expo Γ Γ.length S)) = true
      · rw [if_pos c] at e
        injection e with e
        subst e
        obtain ⟨a, b, e2, ha, hb⟩ := hd_is_fun o1 c.1
        rw [e2, noal_fun, Bool.and_eq_true] at q2
        rw [e2]
        exact q2.2
      · rw [if_neg c] at e; cases e
    rw [if_neg c7] at e0
    by_cases c8 : nKd t = 8
    · rw [if_pos c8] at e0
      obtain ⟨B, hB, h1⟩ := tbd_in e0
      obtain ⟨x1, x2, x3⟩ := w8 c8
      obtain ⟨⟨y1, y2⟩, y3⟩ := v8 c8
      have q := ih (nY t) (nX t :: Γ) Δ B x3 (he.all x1 x2) y3 (noac_consw hv y1 y2) hd' hB
      obtain ⟨e, l⟩ := szt_in h1
      subst e
      rw [noal_all, y1, q]
      simp [y2]
    rw [if_neg c8] at e0
    by_cases c9 : nKd t = 9
    · rw [if_pos c9] at e0
      obtain ⟨S, hS, h1⟩ := tbd_in e0
      obtain ⟨e, l⟩ := tyO_in h1
      obtain ⟨x1, x2, x3⟩ := w9 c9
      obtain ⟨s1, s2'⟩ := io _ _ _ _ x1 he hS
      obtain ⟨o1, o2⟩ := expo_ok he.1 he.2.1 Γ.length S s1 s2'
      have q := ih _ _ _ _ x1 he (v9 c9).1 hv hd' hS
      have q2 := noal_expow he.1 hv Γ.length S s1 q
      unfold tyI at e
      by_cases c : hd (expo Γ Γ.length S) = 2 ∧ bel Γ (nY t) (k1 (expo Γ Γ.length S)) = true
      · rw [if_pos c] at e
        injection e with e
        subst e
        obtain ⟨a, b, e2, ha, hb⟩ := hd_is_all o1 c.1
        rw [e2, noal_all, Bool.and_eq_true, Bool.and_eq_true] at q2
        rw [e2]
        exact (noal_sbt x2 (v9 c9).2 _ b 0 (Nat.le_refl _) hb q2.2.2).1
      · rw [if_neg c] at e; cases e
    rw [if_neg c9] at e0
    by_cases c10 : nKd t = 10
    · rw [if_pos c10] at e0
      obtain ⟨A1, hA1, h1⟩ := tbd_in e0
      obtain ⟨A2, hA2, h1⟩ := tbd_in h1
      obtain ⟨A3, hA3, h1⟩ := tbd_in h1
      obtain ⟨e, l⟩ := szt_in h1
      obtain ⟨m8, x1⟩ := w10 c10
      subst e
      have key : ∀ (g : Nat) (B : Ty), g < 3 → (if bit (nMk t) g = true then tyF f (nP t g) Γ Δ else .inr .nil) = .inr B → noal B = true := by
        intro g B hg hB
        by_cases c : bit (nMk t) g = true
        · rw [if_pos c] at hB
          exact ih _ _ _ _ (x1 g hg c) he (v10 c10 g hg c) hv hd' hB
        · rw [if_neg c] at hB
          injection hB with hB
          rw [← hB]; rfl
      rw [noal_rec, key 0 A1 (by decide) hA1, key 1 A2 (by decide) hA2, key 2 A3 (by decide) hA3]; rfl
    rw [if_neg c10] at e0
    by_cases c11 : nKd t = 11
    · rw [if_pos c11] at e0
      obtain ⟨S, hS, h1⟩ := tbd_in e0
      obtain ⟨e, l⟩ := tyO_in h1
      obtain ⟨m3, x1⟩ := w11 c11
      obtain ⟨s1, s2'⟩ := io _ _ _ _ x1 he hS
      obtain ⟨o1, o2⟩ := expo_ok he.1 he.2.1 Γ.length S s1 s2'
      have q := ih _ _ _ _ x1 he (v11 c11) hv hd' hS
      have q2 := noal_expow he.1 hv Γ.length S s1 q
      unfold tyD at e
      by_cases c : (8 ≤ hd (expo Γ Γ.length S) ∧ hd (expo Γ Γ.length S) < 16) ∧ bit (hd (expo Γ Γ.length S) - 8) (nMk t) = true
      · rw [if_pos c] at e
        injection e with e
        subst e
        obtain ⟨m, x, y, z, hm', e2⟩ := hd_is_rec o1 c.1.1 c.1.2
        rw [e2, noal_rec, Bool.and_eq_true, Bool.and_eq_true] at q2
        rw [e2]
        rcases (show nMk t = 0 ∨ nMk t = 1 ∨ nMk t = 2 by omega) with e | e | e
        · rw [e, (pt_rec hm' x y z).1]; exact q2.1
        · rw [e, (pt_rec hm' x y z).2.1]; exact q2.2.1
        · rw [e, (pt_rec hm' x y z).2.2]; exact q2.2.2
      · rw [if_neg c] at e; cases e
    rw [if_neg c11] at e0
    obtain ⟨S, hS, h1⟩ := tbd_in e0
    obtain ⟨T, hT, h1⟩ := tbd_in h1
    obtain ⟨e, l⟩ := tyO_in h1
    have c12 : nKd t = 12 := by omega
    obtain ⟨x1, x2⟩ := w7 (Or.inr c12)
    obtain ⟨s1, s2'⟩ := io _ _ _ _ x1 he hS
    obtain ⟨t1, t2⟩ := io _ _ _ _ x2 he hT
    have q1 := ih _ _ _ _ x1 he (v7 (Or.inr c12)).1 hv hd' hS
    have q2 := ih _ _ _ _ x2 he (v7 (Or.inr c12)).2 hv hd' hT
    exact cu_noalw _ 0 Γ S T A hv ⟨he.1, s1, t1⟩ q1 q2 e
theorem noal_cbde : ∀ (e f : Nat) (t : Ty) (χ : List Nat) (d : Nat), (flat t).length ≤ f → ok d t = true → noal t = true → 1 ≤ e → cbd e χ t
  | _, 0, t, χ, d, hf, o, _, _ => by have := flat_pos o; omega
  | e, f + 1, t, χ, d, hf, o, h, e1 => by
    rcases ok_cases o with rfl | ⟨k, hk, rfl⟩ | ⟨a, c, rfl, ha, hb⟩ | ⟨a, c, rfl, ha, hb⟩ | ⟨l, x, y, z, hm, rfl, h0, h1, h2⟩
    · exact (cbd_top χ).mpr trivial
    · exact (cbd_var χ k).mpr trivial
    · rw [flat_fun, List.length_cons, List.length_append] at hf
      rw [noal_fun, Bool.and_eq_true] at h
      exact (cbd_fun _ _ _).mpr ⟨noal_cbde e f a χ d (by omega) ha h.1 e1, noal_cbde e f c χ d (by omega) hb h.2 e1⟩
    · rw [flat_all, List.length_cons, List.length_append] at hf
      rw [noal_all, Bool.and_eq_true, Bool.and_eq_true, decide_eq_true_iff] at h
      refine (cbd_all _ _ _).mpr ⟨noal_cbde e f a χ d (by omega) ha h.2.1 e1, ?_, noal_cbde e f c _ (d + 1) (by omega) hb h.2.2 e1⟩
      unfold chn
      rw [if_neg (by omega)]; omega
    · rw [flat_rec, List.length_cons, List.length_append, List.length_append] at hf
      rw [noal_rec, Bool.and_eq_true, Bool.and_eq_true] at h
      have key : ∀ (i : Nat) (p : Ty), (flat p).length ≤ f → okl d l i p → noal p = true → cbd e χ p := by
        intro i p hp ho hn
        unfold okl at ho
        by_cases hb : bit l i = true
        · rw [if_pos hb] at ho
          exact noal_cbde e f p χ d hp ho hn e1
        · rw [if_neg hb] at ho
          rw [ho]; exact (cbd_nil χ).mpr trivial
      exact (cbd_rec _ _ _ _).mpr ⟨key 0 x (by omega) h0 h.1, key 1 y (by omega) h1 h.2.1, key 2 z (by omega) h2 h.2.2⟩
theorem cl_nal : ∀ (Γ : List Ty), okc Γ → ∀ k, k < Γ.length → vw (cl Γ) k ≤ 1 + nal Γ
  | [], _, k, hk => absurd hk (Nat.not_lt_zero _)
  | b :: Γ, hc, k, hk => by
    have ih := cl_nal Γ hc.2
    have l := cl_len Γ
    have en : nal (b :: Γ) = (if 16 ≤ hd b then 1 else 0) + nal Γ := rfl
    show vw ((1 + chn (cl Γ) b) :: cl Γ) k ≤ _
    rw [vw_cons, l]
    split
    · unfold chn
      split
      · rename_i c
        obtain ⟨j, hj, rfl⟩ := hd_is_var hc.1 c
        rw [if_pos c] at en
        have q := ih j hj
        rw [hd_var, show 16 + j - 16 = j by omega]
        omega
      · omega
    · rw [List.length_cons] at hk
      have q := ih k (by omega)
      omega
theorem noaw_cbc {a : Nat} : ∀ (Γ : List Ty), okc Γ → noaw Γ → nal Γ ≤ a → cbc (1 + a) Γ
  | [], _, _, _ => trivial
  | b :: Γ, hc, h, hn => by
    have en : nal (b :: Γ) = (if 16 ≤ hd b then 1 else 0) + nal Γ := rfl
    have ha : noal b = true := by
      have q := (h Γ.length (by rw [List.length_cons]; omega)).1
      have e : bnd (b :: Γ) Γ.length = b := by show (if Γ.length = Γ.length then b else _) = b; rw [if_pos rfl]
      rw [e] at q; exact q
    refine ⟨⟨noal_cbde (1 + a) _ b _ Γ.length (Nat.le_refl _) hc.1 ha (by omega), ?_⟩, noaw_cbc Γ hc.2 (fun k hk => ?_) (by omega)⟩
    · unfold chn
      split
      · rename_i c
        obtain ⟨j, hj, rfl⟩ := hd_is_var hc.1 c
        rw [if_pos c] at en
        have q := cl_nal Γ hc.2 j hj
        rw [hd_var, show 16 + j - 16 = j by omega]
        omega
      · omega
    · have q := h k (by rw [List.length_cons]; omega)
      have e : bnd (b :: Γ) k = bnd Γ k := by show (if k = Γ.length then b else bnd Γ k) = _; rw [if_neg (by omega)]
      rw [e] at q; exact q
section PmZq1a
variable {f a : Nat} {x y : Ty} {Γ : List Ty} {Δ : List (Nat × Ty × Nat)}
/-- what two terms' types are -/
theorem pair_tws (x1 : TWf f Γ.length (Δ.map (fun a => a.1)) x) (x2 : TWf f Γ.length (Δ.map (fun a => a.1)) y) (he : TE Γ Δ) (y1 : NAt f x) (y2 : NAt f y) (hv : noaw Γ) (hd' : ∀ a ∈ Δ, noal a.2.1 = true) (hn : nal Γ ≤ a) {S T : Ty} (hS : tyF f x Γ Δ = .inr S) (hT : tyF f y Γ Δ = .inr T) : (TB (1 + a) (Γ, S, T) ∧ (flat S).length ≤ 16 ∧ (flat T).length ≤ 16) ∧ (hd (expo Γ Γ.length S) = 1 → TB (1 + a) (Γ, T, k1 (expo Γ Γ.length S)) ∧ (flat (k1 (expo Γ Γ.length S))).length ≤ 16 ∧ Uq Γ (k1 (expo Γ Γ.length S)) ≤ Uq Γ S) := by
  obtain ⟨oS, lS⟩ := tyF_ok f _ Γ Δ S x1 he hS
  obtain ⟨oT, lT⟩ := tyF_ok f _ Γ Δ T x2 he hT
  have nS := tyF_noalw f _ Γ Δ S x1 he y1 hv hd' hS
  have nT := tyF_noalw f _ Γ Δ T x2 he y2 hv hd' hT
  have cb := noaw_cbc Γ he.1 hv hn
  have nc := fun (t : Ty) (o : ok Γ.length t = true) (h : noal t = true) => noal_cbde (1 + a) _ t (cl Γ) Γ.length (Nat.le_refl _) o h (by omega)
  refine ⟨⟨⟨⟨he.1, oS, oT⟩, cb, nc S oS nS, nc T oT nT⟩, lS, lT⟩, fun hf => ?_⟩
  obtain ⟨oF, lF⟩ := expo_ok he.1 he.2.1 Γ.length S oS lS
  have nF := noal_expow he.1 hv Γ.length S oS nS
  have uF : Uq Γ (expo Γ Γ.length S) ≤ Uq Γ S := expo_nz he.1 (onq_cv (NC_rows false 1) he.1) Γ.length S oS
  obtain ⟨p, q, e3, oa, ob⟩ := hd_is_fun oF hf
  have ek : k1 (tFun p q) = p := rfl
  rw [e3, noal_fun, Bool.and_eq_true] at nF
  rw [e3, flat_fun, List.length_cons, List.length_append] at lF
  rw [e3, Uq_fun] at uF
  rw [e3, ek]
  exact ⟨⟨⟨he.1, oT, oa⟩, cb, nc T oT nT, nc p oa nF.1⟩, by omega, by omega⟩
/-- by the old measure -/
theorem pair_C {r : Nat} (x1 : TWf f Γ.length (Δ.map (fun a => a.1)) x) (x2 : TWf f Γ.length (Δ.map (fun a => a.1)) y) (he : TE Γ Δ) (y1 : NAt f x) (y2 : NAt f y) (hv : noaw Γ) (hd' : ∀ a ∈ Δ, noal a.2.1 = true) (hn : nal Γ ≤ a) (hb : cch Γ ≤ 56) (hr : (1 + a) * r ≤ 887) (z : NtQ Γ Δ f x r 597 ∨ NtQ Γ Δ f y r 597) : PRn f x y Γ Δ := by
  intro S T hS hT
  obtain ⟨⟨tb, lS, lT⟩, q⟩ := pair_tws x1 x2 he y1 y2 hv hd' hn hS hT
  have up : ∀ (d : Bool) (U : Ty), ok Γ.length U = true → Uq Γ U ≤ r → nz 0 (fun _ => 1 + (1 + a)) (2 + (1 + a)) (vlr d (1 + a)) (onz 0 (fun _ => 1 + (1 + a)) (2 + (1 + a)) (vlr d (1 + a)) Γ) U ≤ 887 := fun d U o h => Nat.le_trans (mz_Uq (d := d) he.1 hn o) (Nat.le_trans (Nat.mul_le_mul_left _ h) hr)
  have oS : ok Γ.length S = true := tb.1.2.1
  have oT : ok Γ.length T = true := tb.1.2.2
  refine ⟨?_, fun hf => ?_⟩
  · rcases z with z | z
    · exact LJ_S (by omega) tb hb lS lT (up true S oS (z S hS).1) (z S hS).2
    · exact LJ_T (by omega) tb hb lS lT (up false T oT (z T hT).1) (z T hT).2
  · obtain ⟨tb2, l2, u2⟩ := q hf
    rcases z with z | z
    · exact LB_ST tb2 hb lT l2 (Or.inr ⟨true, up true _ tb2.1.2.2 (Nat.le_trans u2 (z S hS).1)⟩)
    · exact LB_ST tb2 hb lT l2 (Or.inl ⟨true, up true T oT (z T hT).1⟩)
/-- by rows apart -/
theorem pair_B {r m : Nat} (x1 : TWf f Γ.length (Δ.map (fun a => a.1)) x) (x2 : TWf f Γ.length (Δ.map (fun a => a.1)) y) (he : TE Γ Δ) (y1 : NAt f x) (y2 : NAt f y) (hv : noaw Γ) (hd' : ∀ a ∈ Δ, noal a.2.1 = true) (hb : cch Γ ≤ 56) (hm : ∀ U, ok Γ.length U = true → noal U = true → (flat U).length ≤ 16 → Aq Γ U ≤ m) (hr : r + 2 * m ≤ 887) (z : NtQ Γ Δ f x r 597 ∨ NtQ Γ Δ f y r 597) : PRn f x y Γ Δ := by
  intro S T hS hT
  obtain ⟨⟨tb, lS, lT⟩, q⟩ := pair_tws x1 x2 he y1 y2 hv hd' (Nat.le_refl _) hS hT
  have tk : tok (Γ, S, T) := tb.1
  have oS : ok Γ.length S = true := tk.2.1
  have oT : ok Γ.length T = true := tk.2.2
  have nS := tyF_noalw f _ Γ Δ S x1 he y1 hv hd' hS
  have nT := tyF_noalw f _ Γ Δ T x2 he y2 hv hd' hT
  have mS := hm S oS nS lS
  have mT := hm T oT nT lT
  refine ⟨LJ_B tk hb lS lT ?_, fun hf => ?_⟩
  · rcases z with z | z
    · have u : Uq Γ S ≤ r := (z S hS).1
      exact Or.inl ⟨by omega, (z S hS).2⟩
    · have u : Uq Γ T ≤ r := (z T hT).1
      exact Or.inr ⟨by omega, (z T hT).2⟩
  · obtain ⟨tb2, l2, u2⟩ := q hf
    have nF := noal_expow he.1 hv Γ.length S oS nS
    obtain ⟨oF, lF⟩ := expo_ok he.1 he.2.1 Γ.length S oS lS
    obtain ⟨p, q9, e3, oa, ob⟩ := hd_is_fun oF hf
    have np : noal (k1 (expo Γ Γ.length S)) = true := by
      rw [e3, noal_fun, Bool.and_eq_true] at nF
      rw [e3]; exact nF.1
    have mP : Aq Γ (k1 (expo Γ Γ.length S)) ≤ m := hm _ tb2.1.2.2 np l2
    refine LB_B tb2.1 hb lT l2 ?_
    rcases z with z | z
    · have u : Uq Γ S ≤ r := (z S hS).1
      exact Or.inr (by omega)
    · have u : Uq Γ T ≤ r := (z T hT).1
      exact Or.inl (by omega)
end PmZq1a
