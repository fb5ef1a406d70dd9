/-! JOINS WHERE A SCHEME OF THE CONTEXT IS NEVER ENTERED: no other scheme has a bound with that head; then its body may be gone. -/
section PmT1
variable {hb : Nat} {B C : Ty} {Γ0 : List Ty} {t0 s2 : Nat} {n1 h : Nat → Nat}
theorem noh_upart {r : Ty → Ty → Ru} {set m m' i : Nat} {x y a : Ty} (hr : bit m i = true → bit m' i = true → ∀ R, r x y = some R → noh hb R = true) (hx : noh hb x = true) (hy : noh hb y = true) (e : upart r set m m' i x y = some a) : noh hb a = true := by
  unfold upart at e
  by_cases h1 : bit set i = true
  · rw [if_pos h1] at e
    by_cases h2 : bit m i = true
    · rw [if_pos h2] at e
      by_cases h3 : bit m' i = true
      · rw [if_pos h3] at e; exact hr h2 h3 a e
      · rw [if_neg h3] at e; cases e; exact hx
    · rw [if_neg h2] at e; cases e; exact hy
  · rw [if_neg h1] at e; cases e; rfl
def GuG (hb : Nat) (B C : Ty) (Γ0 : List Ty) (t0 : Nat) (n1 : Nat → Nat) (s2 : Nat) (h : Nat → Nat) (f : Nat) : Prop := ∀ (w : Nat) (Δ : List Ty) (S T R : Ty) (ω : List Nat), w ≤ 1 → SGc hb B C tTop Γ0 Δ → CV t0 n1 s2 h ω (cxs Δ Γ0 (tAll B tTop)) → tok (cxs Δ Γ0 (tAll B C), S, T) → noh hb S = true → noh hb T = true → cu f w (cxs Δ Γ0 (tAll B C)) S T = some R → noh hb R = true ∧ nz t0 n1 s2 h ω R ≤ nz t0 n1 s2 h ω S + nz t0 n1 s2 h ω T
def GuL (hb : Nat) (B C : Ty) (Γ0 : List Ty) (t0 : Nat) (n1 : Nat → Nat) (s2 : Nat) (h : Nat → Nat) (f : Nat) : Prop := ∀ (Δ : List Ty) (T R : Ty) (ω : List Nat), SGc hb B C tTop Γ0 Δ → CV t0 n1 s2 h ω (cxs Δ Γ0 (tAll B tTop)) → ok (cxs Δ Γ0 (tAll B C)).length T = true → noh hb T = true → bel (cxs Δ Γ0 (tAll B C)) T (tVar Γ0.length) = false → (cu f 0 (cxs Δ Γ0 (tAll B C)) (upb Γ0 Δ (tAll B C)) T = some R ∨ (¬ 16 ≤ hd T ∧ cu f 0 (cxs Δ Γ0 (tAll B C)) T (upb Γ0 Δ (tAll B C)) = some R)) → noh hb R = true ∧ nz t0 n1 s2 h ω R ≤ nz t0 n1 s2 h ω T
theorem SGc.vexp {Δ : List Ty} {ω : List Nat} (s : SGc hb B C tTop Γ0 Δ) (hv : CV t0 n1 s2 h ω (cxs Δ Γ0 (tAll B tTop))) {j : Nat} (hj : j < (cxs Δ Γ0 (tAll B C)).length) (ne : j ≠ Γ0.length) : nz t0 n1 s2 h ω (lft j ((cxs Δ Γ0 (tAll B C)).length - j) (bnd (cxs Δ Γ0 (tAll B C)) j)) ≤ vw ω j := by
  rw [(s.ex hj ne).1]
  exact CV.exp s.o2 hv (by rw [cxs_ll (tAll B tTop) (tAll B C)]; exact hj)
/-- the scheme itself, exposed: nothing comes of it -/
theorem guL_step (hn : NC t0 n1 s2 h) {f : Nat} (ihL : GuL hb B C Γ0 t0 n1 s2 h f) : GuL hb B C Γ0 t0 n1 s2 h (f + 1) := by
  intro Δ T R ω s hv oT nT nb e
  have hc : okc (cxs Δ Γ0 (tAll B C)) := s.o1
  have eq := upb_all Γ0 Δ B C
  have hlv : ω.length = (cxs Δ Γ0 (tAll B C)).length := by rw [hv.len, cxs_ll (tAll B tTop) (tAll B C)]
  have pT := nz_t0 hn (hv.low s.o2) (show ok ω.length T = true by rw [hlv]; exact oT)
  have top : ∀ R, R = tTop → noh hb R = true ∧ nz t0 n1 s2 h ω R ≤ nz t0 n1 s2 h ω T := by
    intro R e; subst e
    exact ⟨rfl, by rw [nz_top]; exact pT⟩
  have b1 := (bel_up s oT nT).1
  have b2 := (bel_sgR _ Δ T s oT (Nat.le_refl _) nT nb).1
  rcases e with e | ⟨nv, e⟩
  · have e : cmsU (cu f) 0 (cxs Δ Γ0 (tAll B C)) (upb Γ0 Δ (tAll B C)) T = some R := e
    unfold cmsU at e
    rw [if_neg (by decide)] at e
    by_cases c2 : bel (cxs Δ Γ0 (tAll B C)) (upb Γ0 Δ (tAll B C)) T = true
    · rw [if_pos c2, if_pos rfl] at e; cases e; exact ⟨nT, Nat.le_refl _⟩
    rw [if_neg c2, b2, if_neg (by decide), if_neg (by rw [eq, hd_all]; omega)] at e
    by_cases c6 : 16 ≤ hd T
    · rw [if_pos c6, if_neg (by decide)] at e
      obtain ⟨j, hj, rfl⟩ := hd_is_var oT c6
      have oA : ok (cxs Δ Γ0 (tAll B C)).length (tVar Γ0.length) = true := ok_var (SGc.k_lt (Γ0 := Γ0) (Δ := Δ) (tAll B C))
      by_cases ek : j = Γ0.length
      · subst ek
        rw [bel_refl _ _ _ (Nat.le_refl _) hc oA] at nb
        cases nb
      have bv := bel_var (Γ := cxs Δ Γ0 (tAll B C)) (T := tVar Γ0.length) (k := j) (show tok (cxs Δ Γ0 (tAll B C), tVar j, tVar Γ0.length) from ⟨hc, oT, oA⟩) (by rw [hd_var]; omega) (by rw [hd_var]; omega)
      rw [bv] at nb
      rw [exps_var] at e
      have q := ihL Δ _ R ω s hv (ok_expose hc hj) (s.ex hj ek).2 nb (Or.inl e)
      have v := s.vexp hv hj ek
      rw [nz_var]
      exact ⟨q.1, Nat.le_trans q.2 v⟩
    rw [if_neg c6, eq, hd_all, if_neg (by omega), if_neg (by omega)] at e
    by_cases c9 : (2 = 2 ∧ hd T = 2 ∧ flat (k1 (tAll (upb Γ0 Δ B) (upb Γ0 Δ C))) = flat (k1 T))
    · exact absurd ⟨c9.2.1, c9.2.2⟩ (noh_fl s oT nT)
    · rw [if_neg c9] at e
      exact top R (tnu_some e)
  · have e : cmsU (cu f) 0 (cxs Δ Γ0 (tAll B C)) T (upb Γ0 Δ (tAll B C)) = some R := e
    unfold cmsU at e
    rw [if_neg (by decide), b2, if_neg (by decide)] at e
    by_cases c3 : bel (cxs Δ Γ0 (tAll B C)) (upb Γ0 Δ (tAll B C)) T = true
    · rw [if_pos c3, if_pos rfl] at e; cases e; exact ⟨nT, Nat.le_refl _⟩
    rw [if_neg c3, if_neg nv, eq, hd_all, if_neg (by omega), if_neg (by omega), if_neg (by omega)] at e
    by_cases c9 : (hd T = 2 ∧ 2 = 2 ∧ flat (k1 T) = flat (k1 (tAll (upb Γ0 Δ B) (upb Γ0 Δ C))))
    · exact absurd ⟨c9.1, c9.2.2.symm⟩ (noh_fl s oT nT)
    · rw [if_neg c9] at e
      exact top R (tnu_some e)
/-- any two types -/
theorem guG_step (hn : NC t0 n1 s2 h) {f : Nat} (ihG : GuG hb B C Γ0 t0 n1 s2 h f) (ihL : GuL hb B C Γ0 t0 n1 s2 h f) : GuG hb B C Γ0 t0 n1 s2 h (f + 1) := by
  intro w Δ S T R ω w3 s hv tk nS nT e
  have hc : okc (cxs Δ Γ0 (tAll B C)) := tk.1
  have oS : ok (cxs Δ Γ0 (tAll B C)).length S = true := tk.2.1
  have oT : ok (cxs Δ Γ0 (tAll B C)).length T = true := tk.2.2
  have hlv : ω.length = (cxs Δ Γ0 (tAll B C)).length := by rw [hv.len, cxs_ll (tAll B tTop) (tAll B C)]
  have pT := nz_t0 hn (hv.low s.o2) (show ok ω.length T = true by rw [hlv]; exact oT)
  have top : ∀ R, R = tTop → noh hb R = true ∧ nz t0 n1 s2 h ω R ≤ nz t0 n1 s2 h ω S + nz t0 n1 s2 h ω T := by
    intro R e; subst e
    exact ⟨rfl, by rw [nz_top]; omega⟩
  have ek : lft Γ0.length ((cxs Δ Γ0 (tAll B C)).length - Γ0.length) (bnd (cxs Δ Γ0 (tAll B C)) Γ0.length) = upb Γ0 Δ (tAll B C) := cxs_up _
  have e : cmsU (cu f) w (cxs Δ Γ0 (tAll B C)) S T = some R := e
  unfold cmsU at e
  rw [if_neg (by omega)] at e
  by_cases c2 : bel (cxs Δ Γ0 (tAll B C)) S T = true
  · rw [if_pos c2] at e
    by_cases c0 : w = 0
    · rw [if_pos c0] at e; cases e
      exact ⟨nT, by omega⟩
    · rw [if_neg c0] at e; cases e
      exact ⟨nS, by omega⟩
  rw [if_neg c2] at e
  by_cases c3 : bel (cxs Δ Γ0 (tAll B C)) T S = true
  · rw [if_pos c3] at e
    by_cases c0 : w = 0
    · rw [if_pos c0] at e; cases e
      exact ⟨nS, by omega⟩
    · rw [if_neg c0] at e; cases e
      exact ⟨nT, by omega⟩
  rw [if_neg c3] at e
  by_cases c4 : 16 ≤ hd S
  · rw [if_pos c4] at e
    by_cases c5 : w = 1
    · rw [if_pos c5] at e; cases e
    rw [if_neg c5] at e
    have w0 : w = 0 := by omega
    subst w0
    obtain ⟨j, hj, rfl⟩ := hd_is_var oS c4
    rw [exps_var] at e
    by_cases ej : j = Γ0.length
    · subst ej
      rw [ek] at e
      have q := ihL Δ T R ω s hv oT nT (by simpa using c3) (Or.inl e)
      exact ⟨q.1, Nat.le_trans q.2 (Nat.le_add_left _ _)⟩
    · have q := ihG 0 Δ _ T R ω w3 s hv ⟨hc, ok_expose hc hj, oT⟩ (s.ex hj ej).2 nT e
      have v := s.vexp hv hj ej
      have q2 := q.2
      rw [nz_var]
      exact ⟨q.1, by omega⟩
  rw [if_neg c4] at e
  by_cases c6 : 16 ≤ hd T
  · rw [if_pos c6] at e
    by_cases c5 : w = 1
    · rw [if_pos c5] at e; cases e
    rw [if_neg c5] at e
    have w0 : w = 0 := by omega
    subst w0
    obtain ⟨j, hj, rfl⟩ := hd_is_var oT c6
    rw [exps_var] at e
    by_cases ej : j = Γ0.length
    · subst ej
      rw [ek] at e
      have q := ihL Δ S R ω s hv oS nS (by simpa using c2) (Or.inr ⟨c4, e⟩)
      exact ⟨q.1, Nat.le_trans q.2 (Nat.le_add_right _ _)⟩
    · have q := ihG 0 Δ S _ R ω w3 s hv ⟨hc, oS, ok_expose hc hj⟩ nS (s.ex hj ej).2 e
      have v := s.vexp hv hj ej
      have q2 := q.2
      rw [nz_var]
      exact ⟨q.1, by omega⟩
  rw [if_neg c6] at e
  by_cases c7 : 8 ≤ hd S ∧ 8 ≤ hd T
  · rw [if_pos c7] at e
    obtain ⟨m, x, y, z, hm, rfl⟩ := hd_is_rec oS c7.1 (by omega)
    obtain ⟨m', x', y', z', hm', rfl⟩ := hd_is_rec oT c7.2 (by omega)
    obtain ⟨o0, o1, o2⟩ := (ok_rec hm).mp oS
    obtain ⟨o0', o1', o2'⟩ := (ok_rec hm').mp oT
    rw [hd_rec, hd_rec, show 8 + m - 8 = m by omega, show 8 + m' - 8 = m' by omega] at e
    rw [noh_rec] at nS nT
    rcases uRec_some e with e | ⟨a, b, c, ea, eb, ec, e⟩
    · exact top R e
    · have g0 := fun (i1 : bit m 0 = true) (i2 : bit m' 0 = true) R hR => ihG w Δ x x' R ω w3 s hv ⟨hc, okl_on o0 (bit_iff.mp i1), okl_on o0' (bit_iff.mp i2)⟩ nS.1 nT.1 hR
      have g1 := fun (i1 : bit m 1 = true) (i2 : bit m' 1 = true) R hR => ihG w Δ y y' R ω w3 s hv ⟨hc, okl_on o1 (bit_iff.mp i1), okl_on o1' (bit_iff.mp i2)⟩ nS.2.1 nT.2.1 hR
      have g2 := fun (i1 : bit m 2 = true) (i2 : bit m' 2 = true) R hR => ihG w Δ z z' R ω w3 s hv ⟨hc, okl_on o2 (bit_iff.mp i1), okl_on o2' (bit_iff.mp i2)⟩ nS.2.2 nT.2.2 hR
      have q0 := noh_upart (fun i1 i2 R hR => (g0 i1 i2 R hR).1) nS.1 nT.1 ea
      have q1 := noh_upart (fun i1 i2 R hR => (g1 i1 i2 R hR).1) nS.2.1 nT.2.1 eb
      have q2 := noh_upart (fun i1 i2 R hR => (g2 i1 i2 R hR).1) nS.2.2 nT.2.2 ec
      have v0 := upart_nz (fun i1 i2 R hR => (g0 i1 i2 R hR).2) ea
      have v1 := upart_nz (fun i1 i2 R hR => (g1 i1 i2 R hR).2) eb
      have v2 := upart_nz (fun i1 i2 R hR => (g2 i1 i2 R hR).2) ec
      refine ⟨?_, ?_⟩
      · rw [e]; exact noh_rec.mpr ⟨q0, q1, q2⟩
      · have n := hn.2.2.2 w m m' hm hm'
        rw [e, nz_rec, nz_rec, nz_rec]
        omega
  rw [if_neg c7] at e
  by_cases c8 : hd S = 1 ∧ hd T = 1
  · rw [if_pos c8] at e
    obtain ⟨a, b, rfl, ha, hb1⟩ := hd_is_fun oS c8.1
    obtain ⟨a', b', rfl, ha', hb1'⟩ := hd_is_fun oT c8.2
    rw [noh_fun] at nS nT
    rcases uFun_some e with e | ⟨p, q, ep, eq, e⟩
    · exact top R e
    · have q1 := ihG (1 - w) Δ a a' p ω (by omega) s hv ⟨hc, ha, ha'⟩ nS.1 nT.1 ep
      have q2 := ihG w Δ b b' q ω w3 s hv ⟨hc, hb1, hb1'⟩ nS.2 nT.2 eq
      refine ⟨?_, ?_⟩
      · rw [e]; exact noh_fun.mpr ⟨q1.1, q2.1⟩
      · have v1 := q1.2
        have v2 := q2.2
        rw [e, nz_fun, nz_fun, nz_fun]
        omega
  rw [if_neg c8] at e
  by_cases c9 : hd S = 2 ∧ hd T = 2 ∧ flat (k1 S) = flat (k1 T)
  · rw [if_pos c9] at e
    obtain ⟨a, b, rfl, ha, hb1⟩ := hd_is_all oS c9.1
    obtain ⟨a', b', rfl, ha', hb1'⟩ := hd_is_all oT c9.2.1
    have ea : a = a' := flat_eq ha ha' c9.2.2
    subst ea
    rw [noh_all] at nS nT
    rcases uAll_some e with e | ⟨q, eq, e⟩
    · exact top R e
    · have e : R = tAll a q := e
      have eq : cu f w (a :: cxs Δ Γ0 (tAll B C)) b b' = some q := eq
      have s' := s.ext ha nS.2.1
      have hv' : CV t0 n1 s2 h (h (nz t0 n1 s2 h ω a) :: ω) (cxs (a :: Δ) Γ0 (tAll B tTop)) := CV.ext (Γ := cxs Δ Γ0 (tAll B tTop)) hn s.o2 (by rw [cxs_ll (tAll B tTop) (tAll B C)]; exact ha) hv
      have q1 := ihG w (a :: Δ) b b' q _ w3 s' hv' ⟨s'.o1, hb1, hb1'⟩ nS.2.2 nT.2.2 eq
      refine ⟨?_, ?_⟩
      · rw [e]; exact noh_all.mpr ⟨nS.1, nS.2.1, q1.1⟩
      · have v := q1.2
        rw [e, nz_all, nz_all, nz_all]
        omega
  rw [if_neg c9] at e
  exact top R (tnu_some e)
theorem cu_gone (hn : NC t0 n1 s2 h) : ∀ f, GuG hb B C Γ0 t0 n1 s2 h f ∧ GuL hb B C Γ0 t0 n1 s2 h f
  | 0 => by
    refine ⟨?_, ?_⟩
    · intro w Δ S T R ω _ _ _ _ _ _ e
      cases e
    · intro Δ T R ω _ _ _ _ _ e
      rcases e with e | e
      · cases e
      · cases e.2
  | f + 1 => ⟨guG_step hn (cu_gone hn f).1 (cu_gone hn f).2, guL_step hn (cu_gone hn f).2⟩
/-- a join in such a context -/
theorem cmu_gone (hn : NC t0 n1 s2 h) {w : Nat} {Δ : List Ty} {S T R : Ty} {ω : List Nat} (w3 : w ≤ 1) (s : SGc hb B C tTop Γ0 Δ) (hv : CV t0 n1 s2 h ω (cxs Δ Γ0 (tAll B tTop))) (tk : tok (cxs Δ Γ0 (tAll B C), S, T)) (nS : noh hb S = true) (nT : noh hb T = true) (e : cmu w (cxs Δ Γ0 (tAll B C)) S T = some R) : noh hb R = true ∧ nz t0 n1 s2 h ω R ≤ nz t0 n1 s2 h ω S + nz t0 n1 s2 h ω T := (cu_gone hn _).1 w Δ S T R ω w3 s hv tk nS nT e
end PmT1
