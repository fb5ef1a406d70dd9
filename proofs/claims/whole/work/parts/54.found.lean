/-! WHAT IS FOUND IS A TYPE: in order, and no larger than what there was or sixteen. -/
theorem tn_some {w : Nat} {R : Ty} (h : tn w = some (some R)) : R = tTop := by
  unfold tn at h
  split at h
  · cases h; rfl
  · cases h
theorem lim_some {t R : Ty} (h : lim t = some (some R)) : R = t ∧ (flat t).length ≤ 16 := by
  unfold lim at h
  split at h
  · next hl => cases h; exact ⟨rfl, hl⟩
  · cases h
theorem bFun_some {w : Nat} {R : Ty} : ∀ {a b : Rs}, bFun w a b = some (some R) → R = tTop ∨ ∃ x y, a = some (some x) ∧ b = some (some y) ∧ R = tFun x y ∧ (flat R).length ≤ 16
  | none, _, h => Or.inl (tn_some h)
  | some a, none, h => Or.inl (tn_some (w := w) (by cases a <;> exact h))
  | some none, some _, h => by cases h
  | some (some _), some none, h => by cases h
  | some (some x), some (some y), h => by
    obtain ⟨e, hl⟩ := lim_some h
    exact Or.inr ⟨x, y, rfl, rfl, e, by rw [e]; exact hl⟩
theorem bAll_some {w : Nat} {A R : Ty} : ∀ {a : Rs}, bAll w A a = some (some R) → R = tTop ∨ ∃ x, a = some (some x) ∧ R = tAll A x ∧ (flat R).length ≤ 16
  | none, h => Or.inl (tn_some h)
  | some none, h => by cases h
  | some (some x), h => by
    obtain ⟨e, hl⟩ := lim_some h
    exact Or.inr ⟨x, rfl, e, by rw [e]; exact hl⟩
theorem bRec_some {w m : Nat} {R : Ty} : ∀ {a b c : Rs}, bRec w m a b c = some (some R) → R = tTop ∨ ∃ x y z, a = some (some x) ∧ b = some (some y) ∧ c = some (some z) ∧ R = tRec m x y z ∧ (flat R).length ≤ 16
  | none, _, _, h => Or.inl (tn_some h)
  | some a, none, _, h => Or.inl (tn_some (w := w) (by cases a <;> exact h))
  | some a, some b, none, h => Or.inl (tn_some (w := w) (by cases a <;> cases b <;> exact h))
  | some none, some b, some c, h => by cases b <;> cases c <;> cases h
  | some (some _), some none, some c, h => by cases c <;> cases h
  | some (some _), some (some _), some none, h => by cases h
  | some (some x), some (some y), some (some z), h => by
    obtain ⟨e, hl⟩ := lim_some h
    exact Or.inr ⟨x, y, z, rfl, rfl, rfl, e, by rw [e]; exact hl⟩
def szc (B : Nat) (Γ : List Ty) : Prop := ∀ k, k < Γ.length → (flat (bnd Γ k)).length ≤ B
/-- a pair in order, of types that are not large -/
def tkb (B : Nat) (Γ : List Ty) (S T : Ty) : Prop := tok (Γ, S, T) ∧ szc B Γ ∧ (flat S).length ≤ B ∧ (flat T).length ≤ B
theorem lset_w (w m m' : Nat) : lset w m m' = lset 0 m m' ∨ lset w m m' = lset 1 m m' := by
  unfold lset
  by_cases h : w = 0
  · exact Or.inl (by rw [if_pos h, if_pos rfl])
  · exact Or.inr (by rw [if_neg h, if_neg (by decide)])
theorem lset_8 (w : Nat) {m m' : Nat} (hm : m < 8) (hm' : m' < 8) : lset w m m' < 8 ∧ ∀ i, i < 3 → bit (lset w m m') i = true → bit m i = true ∨ bit m' i = true := by
  rcases lset_w w m m' with e | e
  · rw [e]; exact ⟨(and8 m hm m' hm').2, bin0 m hm m' hm'⟩
  · rw [e]; exact ⟨(or8 m hm m' hm').2, bin1 m hm m' hm'⟩
theorem okl_nil {D m i : Nat} (h : ¬ bit m i = true) : okl D m i .nil := by unfold okl; rw [if_neg h]
theorem okl_of {D m i : Nat} {x : Ty} (h : bit m i = true) (hx : ok D x = true) : okl D m i x := by unfold okl; rw [if_pos h]; exact hx
theorem lpart_ok {r : Ty → Ty → Rs} {D set m m' i : Nat} {x y a : Ty} (hx : okl D m i x) (hy : okl D m' i y) (hin : bit set i = true → bit m i = true ∨ bit m' i = true) (hr : bit m i = true → bit m' i = true → ∀ R, r x y = some (some R) → ok D R = true) (h : lpart r set m m' i x y = some (some a)) : okl D set i a := by
  unfold lpart at h
  by_cases h1 : bit set i = true
  · rw [if_pos h1] at h
    by_cases h2 : bit m i = true
    · rw [if_pos h2] at h
      by_cases h3 : bit m' i = true
      · rw [if_pos h3] at h
        exact okl_of h1 (hr h2 h3 a h)
      · rw [if_neg h3] at h
        cases h
        exact okl_of h1 (okl_on hx (bit_iff.mp h2))
    · rw [if_neg h2] at h
      have h3 : bit m' i = true := (hin h1).resolve_left h2
      cases h
      exact okl_of h1 (okl_on hy (bit_iff.mp h3))
  · rw [if_neg h1] at h
    cases h
    exact okl_nil h1
theorem cms_ok {B : Nat} (hB : 16 ≤ B) {r : Nat → List Ty → Ty → Ty → Rs} (hr : ∀ w' Δ A C R, tkb B Δ A C → r w' Δ A C = some (some R) → ok Δ.length R = true ∧ (flat R).length ≤ B) {w : Nat} {Γ : List Ty} {S T R : Ty} (h : tkb B Γ S T) (e : cms r w Γ S T = some (some R)) : ok Γ.length R = true ∧ (flat R).length ≤ B := by
  obtain ⟨⟨hc0, hs0, ht0⟩, hz, zS, zT⟩ := h
  have hc : okc Γ := hc0
  have hs : ok Γ.length S = true := hs0
  have hT : ok Γ.length T = true := ht0
  clear hc0 hs0 ht0
  have top : ∀ R, R = tTop → ok Γ.length R = true ∧ (flat R).length ≤ B := by
    intro R e; subst e
    exact ⟨ok_top _, by rw [flat_top]; simp; omega⟩
  unfold cms at e
  by_cases c1 : w = 2
  · rw [if_pos c1] at e
    cases e; exact ⟨hs, zS⟩
  rw [if_neg c1] at e
  by_cases c2 : bel Γ S T = true
  · rw [if_pos c2] at e
    by_cases c0 : w = 0
    · rw [if_pos c0] at e; cases e; exact ⟨hT, zT⟩
    · rw [if_neg c0] at e; cases e; exact ⟨hs, zS⟩
  rw [if_neg c2] at e
  by_cases c3 : bel Γ T S = true
  · rw [if_pos c3] at e
    by_cases c0 : w = 0
    · rw [if_pos c0] at e; cases e; exact ⟨hs, zS⟩
    · rw [if_neg c0] at e; cases e; exact ⟨hT, zT⟩
  rw [if_neg c3] at e
  by_cases c4 : 16 ≤ hd S
  · rw [if_pos c4] at e
    by_cases c5 : w = 1
    · rw [if_pos c5] at e; cases e
    rw [if_neg c5] at e
    obtain ⟨k, hk, rfl⟩ := hd_is_var hs c4
    rw [exps_var] at e
    exact hr _ _ _ _ _ ⟨⟨hc, ok_expose hc hk, hT⟩, hz, by rw [lft_len]; exact hz k hk, zT⟩ e
  rw [if_neg c4] at e
  by_cases c6 : 16 ≤ hd T
  · rw [if_pos c6] at e
    by_cases c5 : w = 1
    · rw [if_pos c5] at e; cases e
    rw [if_neg c5] at e
    obtain ⟨k, hk, rfl⟩ := hd_is_var hT c6
    rw [exps_var] at e
    exact hr _ _ _ _ _ ⟨⟨hc, hs, ok_expose hc hk⟩, hz, zS, by rw [lft_len]; exact hz k hk⟩ e
  rw [if_neg c6] at e
  by_cases c7 : 8 ≤ hd S ∧ 8 ≤ hd T
  · rw [if_pos c7] at e
    obtain ⟨m, x, y, z, hm, rfl⟩ := hd_is_rec hs c7.1 (by omega)
    obtain ⟨m', x', y', z', hm', rfl⟩ := hd_is_rec hT c7.2 (by omega)
    obtain ⟨h0, h1, h2⟩ := (ok_rec hm).mp hs
    obtain ⟨h0', h1', h2'⟩ := (ok_rec hm').mp hT
    rw [hd_rec, hd_rec, show 8 + m - 8 = m by omega, show 8 + m' - 8 = m' by omega] at e
    obtain ⟨h8, hin⟩ := lset_8 w hm hm'
    rw [flat_rec, List.length_cons, List.length_append, List.length_append] at zS zT
    rcases bRec_some e with e | ⟨a, b, c, ea, eb, ec, e, hl⟩
    · exact top R e
    · refine ⟨?_, by omega⟩
      rw [e]
      refine (ok_rec h8).mpr ⟨lpart_ok h0 h0' (hin 0 (by decide)) (fun i1 i2 R hR => (hr _ _ _ _ R ⟨⟨hc, okl_on h0 (bit_iff.mp i1), okl_on h0' (bit_iff.mp i2)⟩, hz, by omega, by omega⟩ hR).1) ea, lpart_ok h1 h1' (hin 1 (by decide)) (fun i1 i2 R hR => (hr _ _ _ _ R ⟨⟨hc, okl_on h1 (bit_iff.mp i1), okl_on h1' (bit_iff.mp i2)⟩, hz, by omega, by omega⟩ hR).1) eb, lpart_ok h2 h2' (hin 2 (by decide)) (fun i1 i2 R hR => (hr _ _ _ _ R ⟨⟨hc, okl_on h2 (bit_iff.mp i1), okl_on h2' (bit_iff.mp i2)⟩, hz, by omega, by omega⟩ hR).1) ec⟩
  rw [if_neg c7] at e
  by_cases c8 : hd S = 1 ∧ hd T = 1
  · rw [if_pos c8] at e
    obtain ⟨a, b, rfl, ha, hb⟩ := hd_is_fun hs c8.1
    obtain ⟨a', b', rfl, ha', hb'⟩ := hd_is_fun hT c8.2
    rw [flat_fun, List.length_cons, List.length_append] at zS zT
    rcases bFun_some e with e | ⟨p, q, ep, eq, e, hl⟩
    · exact top R e
    · refine ⟨?_, by omega⟩
      rw [e]
      exact ok_fun.mpr ⟨(hr _ _ _ _ _ ⟨⟨hc, ha, ha'⟩, hz, by omega, by omega⟩ ep).1, (hr _ _ _ _ _ ⟨⟨hc, hb, hb'⟩, hz, by omega, by omega⟩ eq).1⟩
  rw [if_neg c8] at e
  by_cases c9 : hd S = 2 ∧ hd T = 2 ∧ flat (k1 S) = flat (k1 T)
  · rw [if_pos c9] at e
    obtain ⟨a, b, rfl, ha, hb⟩ := hd_is_all hs c9.1
    obtain ⟨a', b', rfl, ha', hb'⟩ := hd_is_all hT c9.2.1
    have ea : a = a' := flat_eq ha ha' c9.2.2
    subst ea
    rw [flat_all, List.length_cons, List.length_append] at zS zT
    rcases bAll_some e with e | ⟨q, eq, e, hl⟩
    · exact top R e
    · refine ⟨?_, by omega⟩
      rw [e]
      have hz' : szc B (a :: Γ) := by
        intro k hk
        show (flat (if k = Γ.length then a else bnd Γ k)).length ≤ B
        by_cases hkk : k = Γ.length
        · rw [if_pos hkk]; omega
        · rw [if_neg hkk]; exact hz k (by rw [List.length_cons] at hk; omega)
      have tk : tkb B (a :: Γ) b b' := ⟨⟨⟨ha, hc⟩, hb, hb'⟩, hz', by omega, by omega⟩
      exact ok_all.mpr ⟨ha, (hr _ _ _ _ _ tk eq).1⟩
  rw [if_neg c9] at e
  exact top R (tn_some e)
theorem cm_ok {B : Nat} (hB : 16 ≤ B) : ∀ (f w : Nat) (Γ : List Ty) (S T R : Ty), tkb B Γ S T → cm f w Γ S T = some (some R) → ok Γ.length R = true ∧ (flat R).length ≤ B
  | 0, _, _, _, _, _, _, h => by cases h
  | f + 1, w, Γ, S, T, R, h, e => cms_ok hB (fun w' Δ A C R h' e' => cm_ok hB f w' Δ A C R h' e') h e
theorem gv_ok {B : Nat} (hB : 16 ≤ B) {z : Gz} {R : Ty} (h : tkb B z.2.1 z.2.2.1 z.2.2.2) (e : gv z = some (some R)) : ok z.2.1.length R = true ∧ (flat R).length ≤ B := cm_ok hB _ _ _ _ _ _ h e
/-- what is found is written as one type -/
def GP (r : Rs) : Prop := ∀ R : Ty, r = some (some R) → pre 1 (flat R) = true
theorem GE.gp {N : pm_M} {u x g : Int} {z : Gz} (h : GE N u x g z) : GP (gv z) := by
  obtain ⟨a, p, b, q, c, -, -, -, -, -, -, -, t, -, -⟩ := h
  intro R e
  have t3 := t.p0; have t4 := t.p1; have t7 := t.q0; have t8 := t.q1
  refine ok_pre R _ (gv_ok (B := 17) (by decide) ⟨t.ok, ?_, by omega, by omega⟩ e).1
  intro k hk
  have := t.hc.bnd_len hk
  omega
theorem RS_new {N : pm_M} {u g : Int} {R : Ty} (u0 : 0 ≤ u) (hl : (flat R).length ≤ 17) (hp : pre 1 (flat R) = true) : RS (mset (mset (mset (mput (mset N 56 22 (u + 1)) 73 (17 * u) (flat R)) 84 g 1) 85 g u) 86 g 0) (u + 1) g (some (some R)) := by
  have r0 : Row (mput (mset N 56 22 (u + 1)) 73 (17 * u) (flat R)) u 0 (flat R) := row_new
  generalize mput (mset N 56 22 (u + 1)) 73 (17 * u) (flat R) = N0 at r0 ⊢
  have e4 : mset (mset (mset N0 84 g 1) 85 g u) 86 g 0 84 g = 1 := by (repeat (first | rw [mset_s] | rw [mset_p _ _ _ _ (by decide)] | rw [mset_i _ _ _ _ (by omega)] | rw [mput_p _ _ _ _ (by decide)]))
  have e5 : mset (mset (mset N0 84 g 1) 85 g u) 86 g 0 85 g = u := by (repeat (first | rw [mset_s] | rw [mset_p _ _ _ _ (by decide)] | rw [mset_i _ _ _ _ (by omega)] | rw [mput_p _ _ _ _ (by decide)]))
  have e6 : mset (mset (mset N0 84 g 1) 85 g u) 86 g 0 86 g = 0 := by (repeat (first | rw [mset_s] | rw [mset_p _ _ _ _ (by decide)] | rw [mset_i _ _ _ _ (by omega)] | rw [mput_p _ _ _ _ (by decide)]))
  refine ⟨e4, by rw [e5]; exact u0, by rw [e5]; omega, by rw [e6]; exact Int.le_refl _, by rw [e6]; omega, ?_, hp⟩
  rw [e5, e6]
  exact Row.same (fun i _ _ => by (repeat (first | rw [mset_s] | rw [mset_p _ _ _ _ (by decide)] | rw [mset_i _ _ _ _ (by omega)] | rw [mput_p _ _ _ _ (by decide)]))) r0
/-! THE MODEL: whole, in terms of goals. -/
section PmM22
variable {d : Nat} {Q : Option Value → pm_S → Prop} {M N : pm_M} {Rf : Nat → Nat → Nat} {K L : Nat → Nat} {n s : Nat}
theorem whole_end {u x g G : Int} {pr : List Int} {rs : List Rs} {z : Gz} (hM : ∀ p i, R32 (N p i)) (hu : N 56 22 = u) (u0 : 0 ≤ u) (u1 : u < 1100) (g0 : 0 ≤ g) (e84 : N 84 g = 0) (fn : FN z.1 pr rs (gv z)) (gp : GP (gv z)) (h : ∀ (N' : pm_M) (u' : Int), PF N N' u x g G → N' 56 24 = N 56 24 → N' 56 36 = N 56 36 → (∀ p i, R32 (N' p i)) → N' 56 22 = u' → u ≤ u' → u' ≤ u + 1 → RS N' u' g (gv z) → Q none (zM N', Rf, K, L, n, s)) : (none ∈ rs → ((z.1 : Int) = 0 → Q none (zM (mset (mset (mset (mset (mset N 56 22 (u + 1)) 73 (17 * u) 0) 84 g 1) 85 g u) 86 g 0), Rf, K, L, n, s)) ∧ (¬ (z.1 : Int) = 0 → Q none (zM N, Rf, K, L, n, s))) ∧ (none ∉ rs → (some none ∈ rs ∨ ∃ ts : List Ty, rs = ts.map okT ∧ 16 < (pr.length : Int) + (fla ts).length) → Q none (zM (mset N 84 g 2), Rf, K, L, n, s)) ∧ (∀ ts : List Ty, rs = ts.map okT → (pr.length : Int) + (fla ts).length ≤ 16 → (∀ c ∈ pr ++ fla ts, R32 c) → Q none (zM (mset (mset (mset (mput (mset N 56 22 (u + 1)) 73 (17 * u) (pr ++ fla ts)) 84 g 1) 85 g u) 86 g 0), Rf, K, L, n, s)) := by
  obtain ⟨f1, f2, f3⟩ := fn
  refine ⟨fun hn => ⟨fun hw => ?_, fun hw => ?_⟩, fun hn hl => ?_, fun ts e hl hr => ?_⟩
  · have hv : gv z = some (some tTop) := by
      rw [f1 hn]
      unfold tn
      rw [if_pos (by omega)]
    refine h _ (u + 1) ?_ ?_ ?_ (mset_R32 (mset_R32 (mset_R32 (mset_R32 (mset_R32 hM ⟨by omega, by omega⟩) ⟨by omega, by omega⟩) ⟨by omega, by omega⟩) ⟨by omega, by omega⟩) ⟨by omega, by omega⟩) ?_ (by omega) (Int.le_refl _) ?_
    · repeat (first | refine PF.set ?_ (by unfold WR; omega) | refine PF.put ?_ (fun j hj => by unfold WR; omega))
      exact PF.refl _ _ _ _ _
    · (repeat (first | rw [mset_s] | rw [mset_p _ _ _ _ (by decide)] | rw [mset_i _ _ _ _ (by omega)] | rw [mput_p _ _ _ _ (by decide)]))
    · (repeat (first | rw [mset_s] | rw [mset_p _ _ _ _ (by decide)] | rw [mset_i _ _ _ _ (by omega)] | rw [mput_p _ _ _ _ (by decide)]))
    · (repeat (first | rw [mset_s] | rw [mset_p _ _ _ _ (by decide)] | rw [mset_i _ _ _ _ (by omega)] | rw [mput_p _ _ _ _ (by decide)]))
    · rw [hv]; exact RS_top u0
  · have hv : gv z = none := by
      rw [f1 hn]
      unfold tn
      rw [if_neg (by omega)]
    exact h _ u (PF.refl _ _ _ _ _) rfl rfl hM hu (Int.le_refl _) (by omega) (by rw [hv]; exact e84)
  · have hv : gv z = some none := by
      refine f2 hn ?_
      rcases hl with hl | ⟨ts, e, hl⟩
      · exact Or.inl hl
      · exact Or.inr ⟨ts, e, by omega⟩
    refine h _ u ?_ ?_ ?_ (mset_R32 hM ⟨by omega, by omega⟩) ?_ (Int.le_refl _) (by omega) ?_
    · repeat (first | refine PF.set ?_ (by unfold WR; omega) | refine PF.put ?_ (fun j hj => by unfold WR; omega))
      exact PF.refl _ _ _ _ _
    · (repeat (first | rw [mset_s] | rw [mset_p _ _ _ _ (by decide)] | rw [mset_i _ _ _ _ (by omega)] | rw [mput_p _ _ _ _ (by decide)]))
    · (repeat (first | rw [mset_s] | rw [mset_p _ _ _ _ (by decide)] | rw [mset_i _ _ _ _ (by omega)] | rw [mput_p _ _ _ _ (by decide)]))
    · (repeat (first | rw [mset_s] | rw [mset_p _ _ _ _ (by decide)] | rw [mset_i _ _ _ _ (by omega)] | rw [mput_p _ _ _ _ (by decide)]))
      all_goals exact hu
    · rw [hv]
      show mset N 84 g 2 84 g = 2
      (repeat (first | rw [mset_s] | rw [mset_p _ _ _ _ (by decide)] | rw [mset_i _ _ _ _ (by omega)] | rw [mput_p _ _ _ _ (by decide)]))
  · obtain ⟨R, hv, hR⟩ := f3 ts e (by omega)
    have hp := gp R hv
    have hl' : (flat R).length ≤ 16 := by rw [hR, List.length_append]; omega
    rw [← hR] at hr ⊢
    refine h _ (u + 1) ?_ ?_ ?_ (mset_R32 (mset_R32 (mset_R32 (mput_R32 (mset_R32 hM ⟨by omega, by omega⟩) hr) ⟨by omega, by omega⟩) ⟨by omega, by omega⟩) ⟨by omega, by omega⟩) ?_ (by omega) (Int.le_refl _) ?_
    · repeat (first | refine PF.set ?_ (by unfold WR; omega) | refine PF.put ?_ (fun j hj => by unfold WR; omega))
      exact PF.refl _ _ _ _ _
    · (repeat (first | rw [mset_s] | rw [mset_p _ _ _ _ (by decide)] | rw [mset_i _ _ _ _ (by omega)] | rw [mput_p _ _ _ _ (by decide)]))
    · (repeat (first | rw [mset_s] | rw [mset_p _ _ _ _ (by decide)] | rw [mset_i _ _ _ _ (by omega)] | rw [mput_p _ _ _ _ (by decide)]))
    · (repeat (first | rw [mset_s] | rw [mset_p _ _ _ _ (by decide)] | rw [mset_i _ _ _ _ (by omega)] | rw [mput_p _ _ _ _ (by decide)]))
    · rw [hv]; exact RS_new u0 (by omega) hp
theorem m_wholeB {u x g G f : Int} {rs : List Rs} {z : Gz} (hG : pm_G Rf K L n) (hM : ∀ p i, R32 (N p i)) (hu : N 56 22 = u) (u0 : 0 ≤ u) (u1 : u < 1100) (g0 : 0 ≤ g) (g1 : g < 600) (f0 : 0 ≤ f) (f1 : f + 3 ≤ 600) (bd : BD N u g f rs z) (rl : RL N u f rs) (gp : GP (gv z)) (h : ∀ (N' : pm_M) (u' : Int), PF N N' u x g G → N' 56 24 = N 56 24 → N' 56 36 = N 56 36 → (∀ p i, R32 (N' p i)) → N' 56 22 = u' → u ≤ u' → u' ≤ u + 1 → RS N' u' g (gv z) → Q none (zM N', Rf, K, L, n, s)) : pm_Wc (d + 4) 168 [.ref 56, .int (zI g)] (zM N, Rf, K, L, n, s) Q := by
  obtain ⟨e0, e1, e84, e3⟩ := bd
  rcases e3 with ⟨q1, q2, fn⟩ | ⟨ls, q0, q1, q2, fn⟩ | ⟨A, D, a, p, q1, q2, q3, q4, q5, q6, q7, q8, q9, q10, fn⟩
  · obtain ⟨h1, h2, h3⟩ := whole_end hM hu u0 u1 g0 e84 fn gp h
    exact m_whole_fun hG hM hu u0 u1 g0 g1 e0 e1 f0 q1 rl q2 (by omega) h1 h2 h3
  · obtain ⟨h1, h2, h3⟩ := whole_end hM hu u0 u1 g0 e84 fn gp h
    have h3' : lab (ls : Int) ≤ 3 := by rw [lab_b _ q0]; split <;> split <;> split <;> omega
    exact m_whole_rec hG hM hu u0 u1 g0 g1 e0 e1 f0 q0 q1 rl q2 (by omega) (by omega) h1 h2 h3
  · obtain ⟨h1, h2, h3⟩ := whole_end hM hu u0 u1 g0 e84 fn gp h
    have hl : (((2 :: flat A).length : Nat) : Int) = 1 + ((flat A).length : Int) := by rw [List.length_cons]; omega
    rw [hl] at h2 h3
    exact m_whole_all hG hM hu u0 u1 g0 g1 e0 e1 f0 q1 q3 q4 q5 q6 q7 (by omega) q9 q10 rl q2 (by omega) h1 h2 h3
end PmM22
