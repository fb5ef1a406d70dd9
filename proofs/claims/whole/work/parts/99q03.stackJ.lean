/-! JOINS, OPERATIONS WAITING: no more than both sides together. -/
/-- at most one instance, and nothing behind it -/
def chk : Stk → Bool
  | [] => true
  | none :: ρ => chk ρ
  | some _ :: ρ => ρ.isEmpty
section PmQ3
variable {t0 s2 : Nat} {n1 h : Nat → Nat} {E : Stk → Nat}
theorem CV.extz (hn : NC t0 n1 s2 h) {ω : List Nat} {Γ : List Ty} {a : Ty} (hc : okc Γ) (oa : ok Γ.length a = true) (hv : CV t0 n1 s2 h ω Γ) (z : Nat) : CV t0 n1 s2 h (hzx h z (nz t0 n1 s2 h ω a) :: ω) (a :: Γ) := by
  have q := (hv.ext hn hc oa).1
  refine ⟨⟨?_, ?_⟩, hv⟩
  · have := q.1; unfold hzx; omega
  · have := q.2; unfold hzx; omega
theorem upart_vz {ω : List Nat} {ρ : Stk} {r : Ty → Ty → Ru} {m m' i : Nat} {x y a : Ty} (hm : m < 8) (hm' : m' < 8) (hi : i < 3) (hr : bit (lset 0 m m') i = true → bit m i = true → bit m' i = true → r x y = some a → vz t0 n1 s2 h E a ρ ω ≤ vz t0 n1 s2 h E x ρ ω + vz t0 n1 s2 h E y ρ ω) (e : upart r (lset 0 m m') m m' i x y = some a) : vz t0 n1 s2 h E a ρ ω ≤ vz t0 n1 s2 h E x ρ ω + vz t0 n1 s2 h E y ρ ω := by
  unfold upart at e
  by_cases h1 : bit (lset 0 m m') i = true
  · rw [if_pos h1] at e
    by_cases h2 : bit m i = true
    · rw [if_pos h2] at e
      by_cases h3 : bit m' i = true
      · rw [if_pos h3] at e; exact hr h1 h2 h3 e
      · rw [if_neg h3] at e; cases e; omega
    · rw [if_neg h2] at e; cases e; omega
  · rw [if_neg h1] at e; cases e; rw [vz_nil]; omega
theorem cu_vz (hn : NC t0 n1 s2 h) : ∀ (f : Nat) (Γ : List Ty) (S T R : Ty) (π : Stk) (ω : List Nat), CV t0 n1 s2 h ω Γ → HEk t0 n1 s2 h E Γ ω → chk π = true → tok (Γ, S, T) → ok Γ.length R = true → cu f 0 Γ S T = some R → vz t0 n1 s2 h E R π ω ≤ vz t0 n1 s2 h E S π ω + vz t0 n1 s2 h E T π ω
  | 0, _, _, _, _, _, _, _, _, _, _, _, e => by cases e
  | f + 1, Γ, S, T, R, π, ω, hv, he, ck, tk, oR, e0 => by
    have hc : okc Γ := tk.1
    have hs : ok Γ.length S = true := tk.2.1
    have hT : ok Γ.length T = true := tk.2.2
    cases π with
    | nil =>
      rw [vz_no oR, vz_no hs, vz_no hT]
      exact cu_nz hn _ 0 Γ S T R ω hv tk e0
    | cons p ρ =>
      have top : ∀ R, R = tTop → vz t0 n1 s2 h E R (p :: ρ) ω ≤ vz t0 n1 s2 h E S (p :: ρ) ω + vz t0 n1 s2 h E T (p :: ρ) ω := by
        intro R e; subst e
        rw [vz_top]; omega
      have e : cmsU (cu f) 0 Γ S T = some R := e0
      unfold cmsU at e
      rw [if_neg (by decide)] at e
      by_cases c2 : bel Γ S T = true
      · rw [if_pos c2, if_pos rfl] at e; cases e; omega
      rw [if_neg c2] at e
      by_cases c3 : bel Γ T S = true
      · rw [if_pos c3, if_pos rfl] at e; cases e; omega
      rw [if_neg c3] at e
      by_cases c4 : 16 ≤ hd S
      · rw [if_pos c4, if_neg (by decide)] at e
        obtain ⟨k, hk, rfl⟩ := hd_is_var hs c4
        rw [exps_var] at e
        have q := cu_vz hn f Γ _ T R (p :: ρ) ω hv he ck ⟨hc, ok_expose hc hk, hT⟩ oR e
        have q2 := he.exp hc hk (ρ := p :: ρ) (by simp)
        rw [vz_var]; omega
      rw [if_neg c4] at e
      by_cases c6 : 16 ≤ hd T
      · rw [if_pos c6, if_neg (by decide)] at e
        obtain ⟨k, hk, rfl⟩ := hd_is_var hT c6
        rw [exps_var] at e
        have q := cu_vz hn f Γ S _ R (p :: ρ) ω hv he ck ⟨hc, hs, ok_expose hc hk⟩ oR e
        have q2 := he.exp hc hk (ρ := p :: ρ) (by simp)
        rw [vz_var]; omega
      rw [if_neg c6] at e
      by_cases c7 : 8 ≤ hd S ∧ 8 ≤ hd T
      · rw [if_pos c7] at e
        obtain ⟨m, x, y, z, hm, rfl⟩ := hd_is_rec hs c7.1 (by omega)
        obtain ⟨m', x', y', z', hm', rfl⟩ := hd_is_rec hT c7.2 (by omega)
        obtain ⟨h0, h1, h2⟩ := (ok_rec hm).mp hs
        obtain ⟨h0', h1', h2'⟩ := (ok_rec hm').mp hT
        rw [hd_rec, hd_rec, show 8 + m - 8 = m by omega, show 8 + m' - 8 = m' by omega] at e
        rcases uRec_some e with e | ⟨a, b, c, ea, eb, ec, e⟩
        · exact top R e
        · cases p with
          | some w => rw [e, vz_recS]; exact Nat.zero_le _
          | none =>
            rw [e] at oR
            obtain ⟨r0, r1, r2'⟩ := (ok_rec (and8 m hm m' hm').2).mp oR
            have key : ∀ i x x' a, i < 3 → okl Γ.length m i x → okl Γ.length m' i x' → okl Γ.length (lset 0 m m') i a → upart (cu f 0 Γ) (lset 0 m m') m m' i x x' = some a → vz t0 n1 s2 h E a ρ ω ≤ vz t0 n1 s2 h E x ρ ω + vz t0 n1 s2 h E x' ρ ω := by
              intro i x x' a hi o o' oa ea
              refine upart_vz hm hm' hi (fun i0 i1 i2 hR => ?_) ea
              have tk' : tok (Γ, x, x') := ⟨hc, okl_on o (bit_iff.mp i1), okl_on o' (bit_iff.mp i2)⟩
              exact cu_vz hn f Γ x x' a ρ ω hv he ck tk' (okl_on oa (bit_iff.mp i0)) hR
            have q0 := key 0 x x' a (by decide) h0 h0' r0 ea
            have q1 := key 1 y y' b (by decide) h1 h1' r1 eb
            have q2 := key 2 z z' c (by decide) h2 h2' r2' ec
            rw [e, vz_recN, vz_recN, vz_recN]; omega
      rw [if_neg c7] at e
      by_cases c8 : hd S = 1 ∧ hd T = 1
      · rw [if_pos c8] at e
        obtain ⟨a, b, rfl, ha, hb⟩ := hd_is_fun hs c8.1
        obtain ⟨a', b', rfl, ha', hb'⟩ := hd_is_fun hT c8.2
        rcases uFun_some e with e | ⟨p', q, ep, eq, e⟩
        · exact top R e
        · cases p with
          | some w => rw [e, vz_funS]; exact Nat.zero_le _
          | none =>
            have tk' : tok (Γ, b, b') := ⟨hc, hb, hb'⟩
            rw [e] at oR
            have q2 := cu_vz hn f Γ b b' q ρ ω hv he ck tk' (ok_fun.mp oR).2 eq
            rw [e, vz_funN, vz_funN, vz_funN]; exact q2
      rw [if_neg c8] at e
      by_cases c9 : hd S = 2 ∧ hd T = 2 ∧ flat (k1 S) = flat (k1 T)
      · rw [if_pos c9] at e
        obtain ⟨a, b, rfl, ha, hb⟩ := hd_is_all hs c9.1
        obtain ⟨a', b', rfl, ha', hb'⟩ := hd_is_all hT c9.2.1
        have ea : a = a' := flat_eq ha ha' c9.2.2
        subst ea
        rcases uAll_some e with e | ⟨q, eq, e⟩
        · exact top R e
        · have e : R = tAll a q := e
          cases p with
          | none => rw [e, vz_allN]; exact Nat.zero_le _
          | some w =>
            have er : ρ = [] := by
              have : ρ.isEmpty = true := ck
              simpa using this
            subst er
            have tk' : tok (a :: Γ, b, b') := ⟨⟨ha, hc⟩, hb, hb'⟩
            rw [e] at oR
            have oq := (ok_all.mp oR).2
            have q1 := cu_nz hn f 0 (a :: Γ) b b' q _ (hv.extz hn hc ha w) tk' eq
            rw [e, vz_allS, vz_allS, vz_allS, vz_no oq, vz_no hb, vz_no hb']
            exact q1
      rw [if_neg c9] at e
      exact top R (tnu_some e)
end PmQ3
