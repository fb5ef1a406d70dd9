/-! TEXTS WITHOUT ALIASES: no variable is bound by a variable; then no chain is longer than one. -/
def noal : Ty → Bool
  | .tag c (.append a b) => (!(c == 2) || decide (hd a < 16)) && (noal a && noal b)
  | .append a b => noal a && noal b
  | _ => true
theorem noal_fun (a b : Ty) : noal (tFun a b) = (noal a && noal b) := by simp [tFun, noal]
theorem noal_all (a b : Ty) : noal (tAll a b) = (decide (hd a < 16) && (noal a && noal b)) := by simp [tAll, noal]
theorem noal_rec {m : Nat} (x y z : Ty) : noal (tRec m x y z) = (noal x && (noal y && noal z)) := by
  unfold tRec
  have e : ((8 + m == 2) : Bool) = false := by
    rw [beq_eq_false_iff_ne]; omega
  rw [noal, noal, e]; simp
theorem hd_lft_lo (j m : Nat) : ∀ t : Ty, hd t < 16 → hd (lft j m t) < 16
  | .tag c f, h => by
    have h : c < 16 := h
    show (if 16 + j ≤ c then c + m else c) < 16
    rw [if_neg (by omega)]; exact h
  | .append _ _, _ => (by decide : 0 < 16)
  | .nil, _ => (by decide : 0 < 16)
  | .line, _ => (by decide : 0 < 16)
  | .align _, _ => (by decide : 0 < 16)
  | .text _, _ => (by decide : 0 < 16)
  | .nest _ _, _ => (by decide : 0 < 16)
  | .group _ _, _ => (by decide : 0 < 16)
theorem noal_lft (j m : Nat) : ∀ (f : Nat) (t : Ty) (d : Nat), (flat t).length ≤ f → ok d t = true → noal t = true → noal (lft j m t) = true
  | 0, t, d, hf, o, _ => by have := flat_pos o; omega
  | f + 1, t, d, hf, o, h => by
    rcases ok_cases o with rfl | ⟨k, hk, rfl⟩ | ⟨a, c, rfl, ha, hb⟩ | ⟨a, c, rfl, ha, hb⟩ | ⟨l, x, y, z, hm, rfl, h0, h1, h2⟩
    · rw [lft_top]; rfl
    · rw [lft_var]; split <;> rfl
    · rw [flat_fun, List.length_cons, List.length_append] at hf
      rw [noal_fun, Bool.and_eq_true] at h
      rw [lft_fun, noal_fun, noal_lft j m f a d (by omega) ha h.1, noal_lft j m f c d (by omega) hb h.2]; rfl
    · rw [flat_all, List.length_cons, List.length_append] at hf
      rw [noal_all, Bool.and_eq_true, Bool.and_eq_true, decide_eq_true_iff] at h
      rw [lft_all, noal_all, noal_lft j m f a d (by omega) ha h.2.1, noal_lft j m f c (d + 1) (by omega) hb h.2.2]
      have := hd_lft_lo j m a h.1
      simp [this]
    · rw [flat_rec, List.length_cons, List.length_append, List.length_append] at hf
      rw [noal_rec, Bool.and_eq_true, Bool.and_eq_true] at h
      have key : ∀ (i : Nat) (p : Ty), (flat p).length ≤ f → okl d l i p → noal p = true → noal (lft j m p) = true := by
        intro i p hp ho hn
        unfold okl at ho
        by_cases hb : bit l i = true
        · rw [if_pos hb] at ho
          exact noal_lft j m f p d hp ho hn
        · rw [if_neg hb] at ho
          rw [ho]; rfl
      rw [lft_rec hm, noal_rec, key 0 x (by omega) h0 h.1, key 1 y (by omega) h1 h.2.1, key 2 z (by omega) h2 h.2.2]; rfl
/-- an instance -/
theorem noal_sbt {n : Nat} {A : Ty} (oA : ok n A = true) (hA : noal A = true) : ∀ (f : Nat) (t : Ty) (μ : Nat), (flat t).length ≤ f → ok (n + 1 + μ) t = true → noal t = true → noal (sbt n A μ t) = true ∧ (hd t < 16 → hd (sbt n A μ t) < 16)
  | 0, t, μ, hf, o, _ => by have := flat_pos o; omega
  | f + 1, t, μ, hf, o, h => by
    rcases ok_cases o with rfl | ⟨k, hk, rfl⟩ | ⟨a, c, rfl, ha, hb⟩ | ⟨a, c, rfl, ha, hb⟩ | ⟨l, x, y, z, hm, rfl, h0, h1, h2⟩
    · rw [sbt_top]; exact ⟨rfl, fun _ => (by decide : 0 < 16)⟩
    · refine ⟨?_, fun e => by rw [hd_var] at e; omega⟩
      rw [sbt_var]
      by_cases e : k = n
      · rw [if_pos e]
        exact noal_lft _ _ _ A n (Nat.le_refl _) oA hA
      · rw [if_neg e]; split <;> rfl
    · rw [flat_fun, List.length_cons, List.length_append] at hf
      rw [noal_fun, Bool.and_eq_true] at h
      rw [sbt_fun, noal_fun, (noal_sbt oA hA f a μ (by omega) ha h.1).1, (noal_sbt oA hA f c μ (by omega) hb h.2).1]
      exact ⟨rfl, fun _ => (by rw [hd_fun]; decide)⟩
    · rw [flat_all, List.length_cons, List.length_append] at hf
      rw [noal_all, Bool.and_eq_true, Bool.and_eq_true, decide_eq_true_iff] at h
      have q1 := noal_sbt oA hA f a μ (by omega) ha h.2.1
      have q2 := noal_sbt oA hA f c (μ + 1) (by omega) hb h.2.2
      rw [sbt_all, noal_all, q1.1, q2.1]
      have := q1.2 h.1
      exact ⟨by simp [this], fun _ => (by rw [hd_all]; decide)⟩
    · rw [flat_rec, List.length_cons, List.length_append, List.length_append] at hf
      rw [noal_rec, Bool.and_eq_true, Bool.and_eq_true] at h
      have key : ∀ (i : Nat) (p : Ty), (flat p).length ≤ f → okl (n + 1 + μ) l i p → noal p = true → noal (sbt n A μ p) = true := by
        intro i p hp ho hn
        unfold okl at ho
        by_cases hb : bit l i = true
        · rw [if_pos hb] at ho
          exact (noal_sbt oA hA f p μ hp ho hn).1
        · rw [if_neg hb] at ho
          rw [ho, sbt_nil]; rfl
      rw [sbt_rec, noal_rec, key 0 x (by omega) h0 h.1, key 1 y (by omega) h1 h.2.1, key 2 z (by omega) h2 h.2.2]
      exact ⟨rfl, fun _ => (by rw [hd_rec]; omega)⟩
/-- the bounds around -/
def noac (Γ : List Ty) : Prop := ∀ k, k < Γ.length → noal (bnd Γ k) = true ∧ hd (bnd Γ k) < 16
theorem noac_cons {Γ : List Ty} {a : Ty} (h : noac Γ) (ha : noal a = true) (ha' : hd a < 16) : noac (a :: Γ) := by
  intro k hk
  show noal (if k = Γ.length then a else bnd Γ k) = true ∧ hd (if k = Γ.length then a else bnd Γ k) < 16
  by_cases e : k = Γ.length
  · rw [if_pos e]; exact ⟨ha, ha'⟩
  · rw [if_neg e]; exact h k (by rw [List.length_cons] at hk; omega)
theorem okc_bnd' {Γ : List Ty} {k : Nat} (hc : okc Γ) (hk : k < Γ.length) : ok k (bnd Γ k) = true := by
  obtain ⟨-, -, -, -, e, -⟩ := wt_bnd Γ k hc hk
  exact e
theorem noal_exp {Γ : List Ty} {k : Nat} (hc : okc Γ) (h : noac Γ) (hk : k < Γ.length) : noal (lft k (Γ.length - k) (bnd Γ k)) = true := noal_lft _ _ _ _ k (Nat.le_refl _) (okc_bnd' hc hk) (h k hk).1
theorem noal_upart {r : Ty → Ty → Ru} {set m m' i : Nat} {x y a : Ty} (hr : bit m i = true → bit m' i = true → ∀ R, r x y = some R → noal R = true) (hx : noal x = true) (hy : noal y = true) (e : upart r set m m' i x y = some a) : noal a = true := by
  unfold upart at e
  by_cases h1 : bit set i = true
  · rw [if_pos h1] at e
    by_cases h2 : bit m i = true
    · rw [if_pos h2] at e
      by_cases h3 : bit m' i = true
      · rw [if_pos h3] at e; exact hr h2 h3 a e
      · rw [if_neg h3] at e; cases e; exact hx
    · rw [if_neg h2] at e; cases e; exact hy
  · rw [if_neg h1] at e; cases e; rfl
theorem cu_noal : ∀ (f w : Nat) (Γ : List Ty) (S T R : Ty), noac Γ → tok (Γ, S, T) → noal S = true → noal T = true → cu f w Γ S T = some R → noal R = true
  | 0, _, _, _, _, _, _, _, _, _, e => by cases e
  | f + 1, w, Γ, S, T, R, hv, tk, nS, nT, e => by
    have hc : okc Γ := tk.1
    have hs : ok Γ.length S = true := tk.2.1
    have hT : ok Γ.length T = true := tk.2.2
    have e : cmsU (cu f) w Γ S T = some R := e
    unfold cmsU at e
    by_cases c1 : w = 2
    · rw [if_pos c1] at e; cases e; exact nS
    rw [if_neg c1] at e
    by_cases c2 : bel Γ S T = true
    · rw [if_pos c2] at e
      by_cases c0 : w = 0
      · rw [if_pos c0] at e; cases e; exact nT
      · rw [if_neg c0] at e; cases e; exact nS
    rw [if_neg c2] at e
    by_cases c3 : bel Γ T S = true
    · rw [if_pos c3] at e
      by_cases c0 : w = 0
      · rw [if_pos c0] at e; cases e; exact nS
      · rw [if_neg c0] at e; cases e; exact nT
    rw [if_neg c3] at e
    by_cases c4 : 16 ≤ hd S
    · rw [if_pos c4] at e
      by_cases c5 : w = 1
      · rw [if_pos c5] at e; cases e
      rw [if_neg c5] at e
      obtain ⟨k, hk, rfl⟩ := hd_is_var hs c4
      rw [exps_var] at e
      exact cu_noal f w Γ _ T R hv ⟨hc, ok_expose hc hk, hT⟩ (noal_exp hc hv hk) nT e
    rw [if_neg c4] at e
    by_cases c6 : 16 ≤ hd T
    · rw [if_pos c6] at e
      by_cases c5 : w = 1
      · rw [if_pos c5] at e; cases e
      rw [if_neg c5] at e
      obtain ⟨k, hk, rfl⟩ := hd_is_var hT c6
      rw [exps_var] at e
      exact cu_noal f w Γ S _ R hv ⟨hc, hs, ok_expose hc hk⟩ nS (noal_exp hc hv hk) e
    rw [if_neg c6] at e
    by_cases c7 : 8 ≤ hd S ∧ 8 ≤ hd T
    · rw [if_pos c7] at e
      obtain ⟨m, x, y, z, hm, rfl⟩ := hd_is_rec hs c7.1 (by omega)
      obtain ⟨m', x', y', z', hm', rfl⟩ := hd_is_rec hT c7.2 (by omega)
      obtain ⟨h0, h1, h2⟩ := (ok_rec hm).mp hs
      obtain ⟨h0', h1', h2'⟩ := (ok_rec hm').mp hT
      rw [hd_rec, hd_rec, show 8 + m - 8 = m by omega, show 8 + m' - 8 = m' by omega] at e
      rw [noal_rec, Bool.and_eq_true, Bool.and_eq_true] at nS nT
      rcases uRec_some e with e | ⟨a, b, c, ea, eb, ec, e⟩
      · rw [e]; rfl
      · have q0 := noal_upart (fun i1 i2 R hR => cu_noal f w Γ x x' R hv ⟨hc, okl_on h0 (bit_iff.mp i1), okl_on h0' (bit_iff.mp i2)⟩ nS.1 nT.1 hR) nS.1 nT.1 ea
        have q1 := noal_upart (fun i1 i2 R hR => cu_noal f w Γ y y' R hv ⟨hc, okl_on h1 (bit_iff.mp i1), okl_on h1' (bit_iff.mp i2)⟩ nS.2.1 nT.2.1 hR) nS.2.1 nT.2.1 eb
        have q2 := noal_upart (fun i1 i2 R hR => cu_noal f w Γ z z' R hv ⟨hc, okl_on h2 (bit_iff.mp i1), okl_on h2' (bit_iff.mp i2)⟩ nS.2.2 nT.2.2 hR) nS.2.2 nT.2.2 ec
        rw [e, noal_rec, q0, q1, q2]; rfl
    rw [if_neg c7] at e
    by_cases c8 : hd S = 1 ∧ hd T = 1
    · rw [if_pos c8] at e
      obtain ⟨a, b, rfl, ha, hb⟩ := hd_is_fun hs c8.1
      obtain ⟨a', b', rfl, ha', hb'⟩ := hd_is_fun hT c8.2
      rw [noal_fun, Bool.and_eq_true] at nS nT
      rcases uFun_some e with e | ⟨p, q, ep, eq, e⟩
      · rw [e]; rfl
      · have q1 := cu_noal f (1 - w) Γ a a' p hv ⟨hc, ha, ha'⟩ nS.1 nT.1 ep
        have q2 := cu_noal f w Γ b b' q hv ⟨hc, hb, hb'⟩ nS.2 nT.2 eq
        rw [e, noal_fun, q1, q2]; rfl
    rw [if_neg c8] at e
    by_cases c9 : hd S = 2 ∧ hd T = 2 ∧ flat (k1 S) = flat (k1 T)
    · rw [if_pos c9] at e
      obtain ⟨a, b, rfl, ha, hb⟩ := hd_is_all hs c9.1
      obtain ⟨a', b', rfl, ha', hb'⟩ := hd_is_all hT c9.2.1
      have ea : a = a' := flat_eq ha ha' c9.2.2
      subst ea
      rw [noal_all, Bool.and_eq_true, Bool.and_eq_true, decide_eq_true_iff] at nS nT
      rcases uAll_some e with e | ⟨q, eq, e⟩
      · rw [e]; rfl
      · have e : R = tAll a q := e
        have q1 := cu_noal f w (a :: Γ) b b' q (noac_cons hv nS.2.1 nS.1) ⟨⟨ha, hc⟩, hb, hb'⟩ nS.2.2 nT.2.2 eq
        rw [e, noal_all, nS.2.1, q1]
        simp [nS.1]
    rw [if_neg c9] at e
    rw [tnu_some e]; rfl
theorem noal_expo {Γ : List Ty} (hc : okc Γ) (hv : noac Γ) : ∀ (f : Nat) (S : Ty), ok Γ.length S = true → noal S = true → noal (expo Γ f S) = true
  | 0, S, _, h => h
  | f + 1, S, o, h => by
    show noal (if 16 ≤ hd S then expo Γ f (exps Γ S) else S) = true
    by_cases c : 16 ≤ hd S
    · rw [if_pos c]
      obtain ⟨k, hk, rfl⟩ := hd_is_var o c
      rw [exps_var]
      exact noal_expo hc hv f _ (ok_expose hc hk) (noal_exp hc hv hk)
    · rw [if_neg c]; exact h
/-- short chains -/
theorem noal_cbd : ∀ (f : Nat) (t : Ty) (χ : List Nat) (d : Nat), (flat t).length ≤ f → ok d t = true → noal t = true → cbd 1 χ t
  | 0, t, χ, d, hf, o, _ => by have := flat_pos o; omega
  | f + 1, t, χ, d, hf, o, h => by
    rcases ok_cases o with rfl | ⟨k, hk, rfl⟩ | ⟨a, c, rfl, ha, hb⟩ | ⟨a, c, rfl, ha, hb⟩ | ⟨l, x, y, z, hm, rfl, h0, h1, h2⟩
    · exact (cbd_top χ).mpr trivial
    · exact (cbd_var χ k).mpr trivial
    · rw [flat_fun, List.length_cons, List.length_append] at hf
      rw [noal_fun, Bool.and_eq_true] at h
      exact (cbd_fun _ _ _).mpr ⟨noal_cbd f a χ d (by omega) ha h.1, noal_cbd f c χ d (by omega) hb h.2⟩
    · rw [flat_all, List.length_cons, List.length_append] at hf
      rw [noal_all, Bool.and_eq_true, Bool.and_eq_true, decide_eq_true_iff] at h
      refine (cbd_all _ _ _).mpr ⟨noal_cbd f a χ d (by omega) ha h.2.1, ?_, noal_cbd f c _ (d + 1) (by omega) hb h.2.2⟩
      unfold chn
      rw [if_neg (by omega)]; exact Nat.le_refl _
    · rw [flat_rec, List.length_cons, List.length_append, List.length_append] at hf
      rw [noal_rec, Bool.and_eq_true, Bool.and_eq_true] at h
      have key : ∀ (i : Nat) (p : Ty), (flat p).length ≤ f → okl d l i p → noal p = true → cbd 1 χ p := by
        intro i p hp ho hn
        unfold okl at ho
        by_cases hb : bit l i = true
        · rw [if_pos hb] at ho
          exact noal_cbd f p χ d hp ho hn
        · rw [if_neg hb] at ho
          rw [ho]; exact (cbd_nil χ).mpr trivial
      exact (cbd_rec _ _ _ _).mpr ⟨key 0 x (by omega) h0 h.1, key 1 y (by omega) h1 h.2.1, key 2 z (by omega) h2 h.2.2⟩
theorem noac_cbc : ∀ (Γ : List Ty), okc Γ → noac Γ → cbc 1 Γ
  | [], _, _ => trivial
  | a :: Γ, hc, h => by
    have ha : noal a = true ∧ hd a < 16 := by
      have q := h Γ.length (by rw [List.length_cons]; omega)
      have e : bnd (a :: Γ) Γ.length = a := by show (if Γ.length = Γ.length then a else _) = a; rw [if_pos rfl]
      rw [e] at q; exact q
    refine ⟨⟨noal_cbd _ a _ Γ.length (Nat.le_refl _) hc.1 ha.1, ?_⟩, noac_cbc Γ hc.2 (fun k hk => ?_)⟩
    · unfold chn
      rw [if_neg (by omega)]; exact Nat.le_refl _
    · have q := h k (by rw [List.length_cons]; omega)
      have e : bnd (a :: Γ) k = bnd Γ k := by show (if k = Γ.length then a else bnd Γ k) = _; rw [if_neg (by omega)]
      rw [e] at q; exact q
theorem noal_TB {Γ : List Ty} {S T : Ty} (tk : tok (Γ, S, T)) (hc : noac Γ) (hS : noal S = true) (hT : noal T = true) : TB 1 (Γ, S, T) := ⟨tk, noac_cbc Γ tk.1 hc, noal_cbd _ S _ _ (Nat.le_refl _) tk.2.1 hS, noal_cbd _ T _ _ (Nat.le_refl _) tk.2.2 hT⟩
