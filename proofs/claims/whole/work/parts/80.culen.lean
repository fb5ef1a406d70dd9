/-! HOW LARGE A JOIN CAN BE; a join is never wanting; what is found is in order. -/
theorem tnu_some {w : Nat} {R : Ty} (h : tnu w = some R) : R = tTop := by
  unfold tnu at h
  split at h
  · cases h; rfl
  · cases h
theorem uFun_some {w : Nat} {R : Ty} : ∀ {a b : Ru}, uFun w a b = some R → R = tTop ∨ ∃ x y, a = some x ∧ b = some y ∧ R = tFun x y
  | none, _, h => Or.inl (tnu_some h)
  | some _, none, h => Or.inl (tnu_some h)
  | some x, some y, h => by cases h; exact Or.inr ⟨x, y, rfl, rfl, rfl⟩
theorem uAll_some {w : Nat} {A R : Ty} : ∀ {a : Ru}, uAll w A a = some R → R = tTop ∨ ∃ x, a = some x ∧ R = tAll A x
  | none, h => Or.inl (tnu_some h)
  | some x, h => by cases h; exact Or.inr ⟨x, rfl, rfl⟩
theorem uRec_some {w m : Nat} {R : Ty} : ∀ {a b c : Ru}, uRec w m a b c = some R → R = tTop ∨ ∃ x y z, a = some x ∧ b = some y ∧ c = some z ∧ R = tRec m x y z
  | none, _, _, h => Or.inl (tnu_some h)
  | some _, none, _, h => Or.inl (tnu_some h)
  | some _, some _, none, h => Or.inl (tnu_some h)
  | some x, some y, some z, h => by cases h; exact Or.inr ⟨x, y, z, rfl, rfl, rfl, rfl⟩
/-- a part of what is built: its size, and that it is in order -/
theorem upart_len {r : Ty → Ty → Ru} {Γ : List Ty} {w D set m m' i : Nat} {x y a : Ty} (zx : (flat x).length ≤ 16) (zy : (flat y).length ≤ 16) (hx : okl D m i x) (hy : okl D m' i y) (hin : bit set i = true → bit m i = true ∨ bit m' i = true) (hr : bit m i = true → bit m' i = true → ∀ R, r x y = some R → ok D R = true ∧ (flat R).length ≤ 17 * gn (w, Γ, x, y)) (h : upart r set m m' i x y = some a) : okl D set i a ∧ (flat a).length ≤ 17 * sgl gn (gzl w Γ set m m' i x y) := by
  unfold upart at h
  unfold gzl
  by_cases h1 : bit set i = true
  · rw [if_pos h1] at h ⊢
    by_cases h2 : bit m i = true
    · rw [if_pos h2] at h ⊢
      by_cases h3 : bit m' i = true
      · rw [if_pos h3] at h ⊢
        have := hr h2 h3 a h
        exact ⟨okl_of h1 this.1, this.2⟩
      · rw [if_neg h3] at h ⊢
        cases h
        refine ⟨okl_of h1 (okl_on hx (bit_iff.mp h2)), ?_⟩
        show _ ≤ 17 * (gn (2, Γ, x, x) + 0)
        rw [gn_two rfl]; omega
    · rw [if_neg h2] at h ⊢
      have h3 : bit m' i = true := (hin h1).resolve_left h2
      cases h
      refine ⟨okl_of h1 (okl_on hy (bit_iff.mp h3)), ?_⟩
      show _ ≤ 17 * (gn (2, Γ, y, y) + 0)
      rw [gn_two rfl]; omega
  · rw [if_neg h1] at h ⊢
    cases h
    exact ⟨okl_nil h1, by show 0 ≤ _; omega⟩
theorem cu_ok : ∀ (f w : Nat) (Γ : List Ty) (S T R : Ty), tkb 16 Γ S T → cu f w Γ S T = some R → ok Γ.length R = true ∧ (flat R).length ≤ 17 * gn (w, Γ, S, T)
  | 0, _, _, _, _, _, _, h => by cases h
  | f + 1, w, Γ, S, T, R, h, e => by
    obtain ⟨⟨hc0, hs0, ht0⟩, hz, zS, zT⟩ := h
    have hc : okc Γ := hc0
    have hs : ok Γ.length S = true := hs0
    have hT : ok Γ.length T = true := ht0
    clear hc0 hs0 ht0
    have pS := gn_pos (w, Γ, S, T)
    have tk0 : tok (Γ, S, T) := ⟨hc, hs, hT⟩
    have top : ∀ R, R = tTop → ok Γ.length R = true ∧ (flat R).length ≤ 17 * gn (w, Γ, S, T) := by
      intro R e; subst e
      exact ⟨ok_top _, by rw [flat_top]; show 1 ≤ _; omega⟩
    have e : cmsU (cu f) w Γ S T = some R := e
    unfold cmsU at e
    by_cases c1 : w = 2
    · rw [if_pos c1] at e; cases e; exact ⟨hs, by omega⟩
    rw [if_neg c1] at e
    by_cases c2 : bel Γ S T = true
    · rw [if_pos c2] at e
      by_cases c0 : w = 0
      · rw [if_pos c0] at e; cases e; exact ⟨hT, by omega⟩
      · rw [if_neg c0] at e; cases e; exact ⟨hs, by omega⟩
    rw [if_neg c2] at e
    by_cases c3 : bel Γ T S = true
    · rw [if_pos c3] at e
      by_cases c0 : w = 0
      · rw [if_pos c0] at e; cases e; exact ⟨hs, by omega⟩
      · rw [if_neg c0] at e; cases e; exact ⟨hT, by omega⟩
    rw [if_neg c3] at e
    by_cases c4 : 16 ≤ hd S
    · rw [if_pos c4] at e
      by_cases c5 : w = 1
      · rw [if_pos c5] at e; cases e
      rw [if_neg c5] at e
      obtain ⟨k, hk, rfl⟩ := hd_is_var hs c4
      rw [exps_var] at e
      have := cu_ok f w Γ _ T R ⟨⟨hc, ok_expose hc hk, hT⟩, hz, by rw [lft_len]; exact hz k hk, zT⟩ e
      have g := (gm_v1 (w := w) tk0 c1 c5 c2 c3).2
      exact ⟨this.1, by omega⟩
    rw [if_neg c4] at e
    by_cases c6 : 16 ≤ hd T
    · rw [if_pos c6] at e
      by_cases c5 : w = 1
      · rw [if_pos c5] at e; cases e
      rw [if_neg c5] at e
      obtain ⟨k, hk, rfl⟩ := hd_is_var hT c6
      rw [exps_var] at e
      have := cu_ok f w Γ S _ R ⟨⟨hc, hs, ok_expose hc hk⟩, hz, zS, by rw [lft_len]; exact hz k hk⟩ e
      have g := (gm_v2 (w := w) tk0 c1 c5 c4 c2 c3).2
      exact ⟨this.1, by omega⟩
    rw [if_neg c6] at e
    by_cases c7 : 8 ≤ hd S ∧ 8 ≤ hd T
    · rw [if_pos c7] at e
      obtain ⟨m, x, y, z, hm, rfl⟩ := hd_is_rec hs c7.1 (by omega)
      obtain ⟨m', x', y', z', hm', rfl⟩ := hd_is_rec hT c7.2 (by omega)
      obtain ⟨h0, h1, h2⟩ := (ok_rec hm).mp hs
      obtain ⟨h0', h1', h2'⟩ := (ok_rec hm').mp hT
      rw [hd_rec, hd_rec, show 8 + m - 8 = m by omega, show 8 + m' - 8 = m' by omega] at e
      obtain ⟨h8, hin⟩ := lset_8 w hm hm'
      rw [flat_rec, List.length_cons, List.length_append, List.length_append] at zS zT
      have g := (gm_rec (w := w) tk0 hm hm' c1 c2 c3).2
      rcases uRec_some e with e | ⟨a, b, c, ea, eb, ec, e⟩
      · exact top R e
      · have q0 := upart_len (Γ := Γ) (w := w) (by omega) (by omega) h0 h0' (hin 0 (by decide)) (fun i1 i2 R hR => cu_ok f w Γ x x' R ⟨⟨hc, okl_on h0 (bit_iff.mp i1), okl_on h0' (bit_iff.mp i2)⟩, hz, by omega, by omega⟩ hR) ea
        have q1 := upart_len (Γ := Γ) (w := w) (by omega) (by omega) h1 h1' (hin 1 (by decide)) (fun i1 i2 R hR => cu_ok f w Γ y y' R ⟨⟨hc, okl_on h1 (bit_iff.mp i1), okl_on h1' (bit_iff.mp i2)⟩, hz, by omega, by omega⟩ hR) eb
        have q2 := upart_len (Γ := Γ) (w := w) (by omega) (by omega) h2 h2' (hin 2 (by decide)) (fun i1 i2 R hR => cu_ok f w Γ z z' R ⟨⟨hc, okl_on h2 (bit_iff.mp i1), okl_on h2' (bit_iff.mp i2)⟩, hz, by omega, by omega⟩ hR) ec
        rw [e, flat_rec, List.length_cons, List.length_append, List.length_append]
        exact ⟨(ok_rec h8).mpr ⟨q0.1, q1.1, q2.1⟩, by have := q0.2; have := q1.2; have := q2.2; omega⟩
    rw [if_neg c7] at e
    by_cases c8 : hd S = 1 ∧ hd T = 1
    · rw [if_pos c8] at e
      obtain ⟨a, b, rfl, ha, hb⟩ := hd_is_fun hs c8.1
      obtain ⟨a', b', rfl, ha', hb'⟩ := hd_is_fun hT c8.2
      rw [flat_fun, List.length_cons, List.length_append] at zS zT
      rcases uFun_some e with e | ⟨p, q, ep, eq, e⟩
      · exact top R e
      · have q1 := cu_ok f (1 - w) Γ a a' p ⟨⟨hc, ha, ha'⟩, hz, by omega, by omega⟩ ep
        have q2 := cu_ok f w Γ b b' q ⟨⟨hc, hb, hb'⟩, hz, by omega, by omega⟩ eq
        have g := (gm_fun (w := w) tk0 c1 c2 c3).2
        rw [e, flat_fun, List.length_cons, List.length_append]
        exact ⟨ok_fun.mpr ⟨q1.1, q2.1⟩, by have := q1.2; have := q2.2; omega⟩
    rw [if_neg c8] at e
    by_cases c9 : hd S = 2 ∧ hd T = 2 ∧ flat (k1 S) = flat (k1 T)
    · rw [if_pos c9] at e
      obtain ⟨a, b, rfl, ha, hb⟩ := hd_is_all hs c9.1
      obtain ⟨a', b', rfl, ha', hb'⟩ := hd_is_all hT c9.2.1
      have ea : a = a' := flat_eq ha ha' c9.2.2
      subst ea
      rw [flat_all, List.length_cons, List.length_append] at zS zT
      have hz' : szc 16 (a :: Γ) := by
        intro k hk
        show (flat (if k = Γ.length then a else bnd Γ k)).length ≤ 16
        by_cases hkk : k = Γ.length
        · rw [if_pos hkk]; omega
        · rw [if_neg hkk]; exact hz k (by rw [List.length_cons] at hk; omega)
      have tk : tkb 16 (a :: Γ) b b' := ⟨⟨⟨ha, hc⟩, hb, hb'⟩, hz', by omega, by omega⟩
      rcases uAll_some e with e | ⟨q, eq, e⟩
      · exact top R e
      · have e : R = tAll a q := e
        have q1 := cu_ok f w (a :: Γ) b b' q tk eq
        have q2 : (flat q).length ≤ 17 * gn (w, a :: Γ, b, b') := q1.2
        have g := (gm_all (w := w) tk0 c1 c2 c3).2
        rw [e, flat_all, List.length_cons, List.length_append]
        exact ⟨ok_all.mpr ⟨ha, q1.1⟩, by omega⟩
    rw [if_neg c9] at e
    exact top R (tnu_some e)
theorem cmu_ok {w : Nat} {Γ : List Ty} {S T R : Ty} (h : tkb 16 Γ S T) (e : cmu w Γ S T = some R) : ok Γ.length R = true ∧ (flat R).length ≤ 17 * gn (w, Γ, S, T) := cu_ok _ w Γ S T R h e
