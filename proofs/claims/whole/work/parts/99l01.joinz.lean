/-! THE MEASURE OF A JOIN: no more than both sides together, where every variable is worth what its bound is. -/
section PmL1
variable {t0 s2 : Nat} {n1 h h' : Nat → Nat}
/-- it grows with the values -/
theorem nz_mono (hh : ∀ y y', y ≤ y' → h y ≤ h' y') : ∀ (f : Nat) (t : Ty) (ω ω' : List Nat), (flat t).length ≤ f → ω'.length = ω.length → ok ω.length t = true → (∀ j, j < ω.length → vw ω j ≤ vw ω' j) → nz t0 n1 s2 h ω t ≤ nz t0 n1 s2 h' ω' t
  | 0, t, ω, ω', hf, hl, o, hw => by have := flat_pos o; omega
  | f + 1, t, ω, ω', hf, hl, o, hw => by
    rcases ok_cases o with rfl | ⟨j, hj, rfl⟩ | ⟨a, c, rfl, ha, hb⟩ | ⟨a, c, rfl, ha, hb⟩ | ⟨m, x, y, z, hm, rfl, h0, h1, h2⟩
    · rw [nz_top, nz_top]; exact Nat.le_refl _
    · rw [nz_var, nz_var]; exact hw j hj
    · rw [flat_fun, List.length_cons, List.length_append] at hf
      rw [nz_fun, nz_fun]
      have q1 := nz_mono hh f a ω ω' (by omega) hl ha hw
      have q2 := nz_mono hh f c ω ω' (by omega) hl hb hw
      omega
    · rw [flat_all, List.length_cons, List.length_append] at hf
      rw [nz_all, nz_all]
      have q1 := nz_mono hh f a ω ω' (by omega) hl ha hw
      have q2 := nz_mono hh f c (h (nz t0 n1 s2 h ω a) :: ω) (h' (nz t0 n1 s2 h' ω' a) :: ω') (by omega) (by rw [List.length_cons, List.length_cons, hl]) (by rw [List.length_cons]; exact hb) (fun j hj => by
        rw [vw_cons, vw_cons, hl]
        by_cases e : j = ω.length
        · rw [if_pos e, if_pos e]; exact hh _ _ q1
        · rw [if_neg e, if_neg e]; exact hw j (by rw [List.length_cons] at hj; omega))
      omega
    · rw [flat_rec, List.length_cons, List.length_append, List.length_append] at hf
      have key : ∀ (i : Nat) (p : Ty), (flat p).length ≤ f → okl ω.length m i p → nz t0 n1 s2 h ω p ≤ nz t0 n1 s2 h' ω' p := by
        intro i p hp ho
        unfold okl at ho
        by_cases hb : bit m i = true
        · rw [if_pos hb] at ho
          exact nz_mono hh f p ω ω' hp hl ho hw
        · rw [if_neg hb] at ho
          rw [ho, nz_nil, nz_nil]; exact Nat.le_refl _
      rw [nz_rec, nz_rec]
      have q0 := key 0 x (by omega) h0
      have q1 := key 1 y (by omega) h1
      have q2 := key 2 z (by omega) h2
      omega
/-- values that are at least what the bounds are worth -/
def CV (t0 : Nat) (n1 : Nat → Nat) (s2 : Nat) (h : Nat → Nat) : List Nat → List Ty → Prop
  | [], [] => True
  | w :: ω, b :: Γ => (nz t0 n1 s2 h ω b ≤ w ∧ t0 ≤ w) ∧ CV t0 n1 s2 h ω Γ
  | _, _ => False
theorem CV.len : ∀ {ω : List Nat} {Γ : List Ty}, CV t0 n1 s2 h ω Γ → ω.length = Γ.length
  | [], [], _ => rfl
  | _ :: ω, _ :: Γ, e => by
    have := CV.len e.2
    rw [List.length_cons, List.length_cons, this]
  | [], _ :: _, e => e.elim
  | _ :: _, [], e => e.elim
theorem CV.bd : ∀ {ω : List Nat} {Γ : List Ty} {k : Nat}, okc Γ → CV t0 n1 s2 h ω Γ → k < Γ.length → ∃ ν ω1 : List Nat, ω = ν ++ ω1 ∧ ω1.length = k ∧ ok k (bnd Γ k) = true ∧ nz t0 n1 s2 h ω1 (bnd Γ k) ≤ vw ω k ∧ t0 ≤ vw ω k
  | [], [], _, _, _, hk => absurd hk (Nat.not_lt_zero _)
  | w :: ω, b :: Γ, k, hc, hv, hk => by
    have hl := CV.len hv.2
    by_cases e : k = Γ.length
    · refine ⟨[w], ω, rfl, by rw [hl, e], ?_, ?_⟩
      · show ok k (if k = Γ.length then b else _) = true
        rw [if_pos e, e]; exact hc.1
      · rw [vw_cons, hl, if_pos e]
        show nz t0 n1 s2 h ω (if k = Γ.length then b else _) ≤ w ∧ _
        rw [if_pos e]; exact hv.1
    · obtain ⟨ν, ω1, e1, e2, e3, e4, e5⟩ := CV.bd (ω := ω) (Γ := Γ) (k := k) hc.2 hv.2 (by rw [List.length_cons] at hk; omega)
      refine ⟨w :: ν, ω1, by rw [e1]; rfl, e2, ?_, ?_⟩
      · show ok k (if k = Γ.length then b else bnd Γ k) = true
        rw [if_neg e]; exact e3
      · rw [vw_cons, hl, if_neg e]
        show nz t0 n1 s2 h ω1 (if k = Γ.length then b else bnd Γ k) ≤ _ ∧ _
        rw [if_neg e]; exact ⟨e4, e5⟩
  | [], _ :: _, _, _, hv, _ => hv.elim
  | _ :: _, [], _, _, hv, _ => hv.elim
/-- a variable's bound, where it is used, is worth no more than the variable -/
theorem CV.exp {ω : List Nat} {Γ : List Ty} {k : Nat} (hc : okc Γ) (hv : CV t0 n1 s2 h ω Γ) (hk : k < Γ.length) : nz t0 n1 s2 h ω (lft k (Γ.length - k) (bnd Γ k)) ≤ vw ω k := by
  obtain ⟨ν, ω1, e1, e2, e3, e4, -⟩ := CV.bd hc hv hk
  have hl := hv.len
  have el : Γ.length - k = ν.length := by rw [e1, List.length_append] at hl; omega
  have := nz_lft (t0 := t0) (n1 := n1) (s2 := s2) (h := h) ν ω1 _ (bnd Γ k) [] (Nat.le_refl _) (by rw [e2]; simpa using e3)
  rw [List.nil_append, List.nil_append, e2] at this
  rw [el]
  refine Nat.le_trans (Nat.le_of_eq ?_) e4
  rw [← this, e1]
/-- what the constants must keep -/
def NC (t0 : Nat) (n1 : Nat → Nat) (s2 : Nat) (h : Nat → Nat) : Prop := (∀ c, t0 ≤ n1 c) ∧ t0 ≤ s2 ∧ (∀ y, y ≤ h y) ∧ ∀ w m m', m < 8 → m' < 8 → n1 (8 + lset w m m') ≤ n1 (8 + m) + n1 (8 + m')
theorem nz_t0 (hn : NC t0 n1 s2 h) {ω : List Nat} {t : Ty} (hw : ∀ j, j < ω.length → t0 ≤ vw ω j) (o : ok ω.length t = true) : t0 ≤ nz t0 n1 s2 h ω t := by
  rcases ok_cases o with rfl | ⟨j, hj, rfl⟩ | ⟨a, c, rfl, ha, hb⟩ | ⟨a, c, rfl, ha, hb⟩ | ⟨m, x, y, z, hm, rfl, h0, h1, h2⟩
  · rw [nz_top]; exact Nat.le_refl _
  · rw [nz_var]; exact hw j hj
  · rw [nz_fun]; have := hn.1 1; omega
  · rw [nz_all]; have := hn.2.1; omega
  · rw [nz_rec]; have := hn.1 (8 + m); omega
theorem CV.low {ω : List Nat} {Γ : List Ty} (hc : okc Γ) (hv : CV t0 n1 s2 h ω Γ) : ∀ j, j < ω.length → t0 ≤ vw ω j := by
  intro j hj
  rw [hv.len] at hj
  obtain ⟨-, -, -, -, -, -, e⟩ := CV.bd hc hv hj
  exact e
theorem CV.ext (hn : NC t0 n1 s2 h) {ω : List Nat} {Γ : List Ty} {a : Ty} (hc : okc Γ) (oa : ok Γ.length a = true) (hv : CV t0 n1 s2 h ω Γ) : CV t0 n1 s2 h (h (nz t0 n1 s2 h ω a) :: ω) (a :: Γ) :=
  ⟨⟨hn.2.2.1 _, Nat.le_trans (nz_t0 hn (hv.low hc) (by rw [hv.len]; exact oa)) (hn.2.2.1 _)⟩, hv⟩
theorem upart_nz {ω : List Nat} {r : Ty → Ty → Ru} {set m m' i : Nat} {x y a : Ty} (hr : bit m i = true → bit m' i = true → ∀ R, r x y = some R → nz t0 n1 s2 h ω R ≤ nz t0 n1 s2 h ω x + nz t0 n1 s2 h ω y) (e : upart r set m m' i x y = some a) : nz t0 n1 s2 h ω a ≤ nz t0 n1 s2 h ω x + nz t0 n1 s2 h ω y := by
  unfold upart at e
  by_cases h1 : bit set i = true
  · rw [if_pos h1] at e
    by_cases h2 : bit m i = true
    · rw [if_pos h2] at e
      by_cases h3 : bit m' i = true
      · rw [if_pos h3] at e; exact hr h2 h3 a e
      · rw [if_neg h3] at e; cases e; omega
    · rw [if_neg h2] at e; cases e; omega
  · rw [if_neg h1] at e; cases e; rw [nz_nil]; omega
theorem cu_nz (hn : NC t0 n1 s2 h) : ∀ (f w : Nat) (Γ : List Ty) (S T R : Ty) (ω : List Nat), CV t0 n1 s2 h ω Γ → tok (Γ, S, T) → cu f w Γ S T = some R → nz t0 n1 s2 h ω R ≤ nz t0 n1 s2 h ω S + nz t0 n1 s2 h ω T
  | 0, _, _, _, _, _, _, _, _, e => by cases e
  | f + 1, w, Γ, S, T, R, ω, hv, tk, e => by
    have hc : okc Γ := tk.1
    have hs : ok Γ.length S = true := tk.2.1
    have hT : ok Γ.length T = true := tk.2.2
    have hl := hv.len
    have pS := nz_t0 hn (hv.low hc) (t := S) (by rw [hl]; exact hs)
    have top : ∀ R, R = tTop → nz t0 n1 s2 h ω R ≤ nz t0 n1 s2 h ω S + nz t0 n1 s2 h ω T := by
      intro R e; subst e
      rw [nz_top]; omega
    have e : cmsU (cu f) w Γ S T = some R := e
    unfold cmsU at e
    by_cases c1 : w = 2
    · rw [if_pos c1] at e; cases e; omega
    rw [if_neg c1] at e
    by_cases c2 : bel Γ S T = true
    · rw [if_pos c2] at e
      by_cases c0 : w = 0
      · rw [if_pos c0] at e; cases e; omega
      · rw [if_neg c0] at e; cases e; omega
    rw [if_neg c2] at e
    by_cases c3 : bel Γ T S = true
    · rw [if_pos c3] at e
      by_cases c0 : w = 0
      · rw [if_pos c0] at e; cases e; omega
      · rw [if_neg c0] at e; cases e; omega
    rw [if_neg c3] at e
    by_cases c4 : 16 ≤ hd S
    · rw [if_pos c4] at e
      by_cases c5 : w = 1
      · rw [if_pos c5] at e; cases e
      rw [if_neg c5] at e
      obtain ⟨k, hk, rfl⟩ := hd_is_var hs c4
      rw [exps_var] at e
      have q := cu_nz hn f w Γ _ T R ω hv ⟨hc, ok_expose hc hk, hT⟩ e
      have q2 := CV.exp hc hv hk
      rw [nz_var]; omega
    rw [if_neg c4] at e
    by_cases c6 : 16 ≤ hd T
    · rw [if_pos c6] at e
      by_cases c5 : w = 1
      · rw [if_pos c5] at e; cases e
      rw [if_neg c5] at e
      obtain ⟨k, hk, rfl⟩ := hd_is_var hT c6
      rw [exps_var] at e
      have q := cu_nz hn f w Γ S _ R ω hv ⟨hc, hs, ok_expose hc hk⟩ e
      have q2 := CV.exp hc hv hk
      rw [nz_var]; omega
    rw [if_neg c6] at e
    by_cases c7 : 8 ≤ hd S ∧ 8 ≤ hd T
    · rw [if_pos c7] at e
      obtain ⟨m, x, y, z, hm, rfl⟩ := hd_is_rec hs c7.1 (by omega)
      obtain ⟨m', x', y', z', hm', rfl⟩ := hd_is_rec hT c7.2 (by omega)
      obtain ⟨h0, h1, h2⟩ := (ok_rec hm).mp hs
      obtain ⟨h0', h1', h2'⟩ := (ok_rec hm').mp hT
      rw [hd_rec, hd_rec, show 8 + m - 8 = m by omega, show 8 + m' - 8 = m' by omega] at e
      rcases uRec_some e with e | ⟨a, b, c, ea, eb, ec, e⟩
      · exact top R e
      · have q0 := upart_nz (ω := ω) (fun i1 i2 R hR => cu_nz hn f w Γ x x' R ω hv ⟨hc, okl_on h0 (bit_iff.mp i1), okl_on h0' (bit_iff.mp i2)⟩ hR) ea
        have q1 := upart_nz (ω := ω) (fun i1 i2 R hR => cu_nz hn f w Γ y y' R ω hv ⟨hc, okl_on h1 (bit_iff.mp i1), okl_on h1' (bit_iff.mp i2)⟩ hR) eb
        have q2 := upart_nz (ω := ω) (fun i1 i2 R hR => cu_nz hn f w Γ z z' R ω hv ⟨hc, okl_on h2 (bit_iff.mp i1), okl_on h2' (bit_iff.mp i2)⟩ hR) ec
        have q3 := hn.2.2.2 w m m' hm hm'
        rw [e, nz_rec, nz_rec, nz_rec]; omega
    rw [if_neg c7] at e
    by_cases c8 : hd S = 1 ∧ hd T = 1
    · rw [if_pos c8] at e
      obtain ⟨a, b, rfl, ha, hb⟩ := hd_is_fun hs c8.1
      obtain ⟨a', b', rfl, ha', hb'⟩ := hd_is_fun hT c8.2
      rcases uFun_some e with e | ⟨p, q, ep, eq, e⟩
      · exact top R e
      · have q1 := cu_nz hn f (1 - w) Γ a a' p ω hv ⟨hc, ha, ha'⟩ ep
        have q2 := cu_nz hn f w Γ b b' q ω hv ⟨hc, hb, hb'⟩ eq
        rw [e, nz_fun, nz_fun, nz_fun]; omega
    rw [if_neg c8] at e
    by_cases c9 : hd S = 2 ∧ hd T = 2 ∧ flat (k1 S) = flat (k1 T)
    · rw [if_pos c9] at e
      obtain ⟨a, b, rfl, ha, hb⟩ := hd_is_all hs c9.1
      obtain ⟨a', b', rfl, ha', hb'⟩ := hd_is_all hT c9.2.1
      have ea : a = a' := flat_eq ha ha' c9.2.2
      subst ea
      rcases uAll_some e with e | ⟨q, eq, e⟩
      · exact top R e
      · have e : R = tAll a q := e
        have q1 := cu_nz hn f w (a :: Γ) b b' q _ (hv.ext hn hc ha) ⟨⟨ha, hc⟩, hb, hb'⟩ eq
        rw [e, nz_all, nz_all, nz_all]; omega
    rw [if_neg c9] at e
    exact top R (tnu_some e)
theorem cmu_nz (hn : NC t0 n1 s2 h) {w : Nat} {Γ : List Ty} {S T R : Ty} {ω : List Nat} (hv : CV t0 n1 s2 h ω Γ) (tk : tok (Γ, S, T)) (e : cmu w Γ S T = some R) : nz t0 n1 s2 h ω R ≤ nz t0 n1 s2 h ω S + nz t0 n1 s2 h ω T := cu_nz hn _ w Γ S T R ω hv tk e
/-- exposed, a type is worth no more -/
theorem expo_nz {ω : List Nat} {Γ : List Ty} (hc : okc Γ) (hv : CV t0 n1 s2 h ω Γ) : ∀ (f : Nat) (S : Ty), ok Γ.length S = true → nz t0 n1 s2 h ω (expo Γ f S) ≤ nz t0 n1 s2 h ω S
  | 0, S, _ => Nat.le_refl _
  | f + 1, S, o => by
    show nz t0 n1 s2 h ω (if 16 ≤ hd S then expo Γ f (exps Γ S) else S) ≤ _
    by_cases c : 16 ≤ hd S
    · rw [if_pos c]
      obtain ⟨k, hk, rfl⟩ := hd_is_var o c
      rw [exps_var]
      have q := expo_nz hc hv f _ (ok_expose hc hk)
      have q2 := CV.exp hc hv hk
      rw [nz_var]; omega
    · rw [if_neg c]; exact Nat.le_refl _
end PmL1
