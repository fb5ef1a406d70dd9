/-! THE TYPE OF A TERM HAS SUCH BOUNDS ONLY; choices wherever they stand. -/
def UQt (t0 : Nat) (n1 : Nat → Nat) (s2 : Nat) (h : Nat → Nat) (E : Stk → Nat) (Y : Nat) : Nat → Ty → List Nat → Prop
  | 0, _, _ => True
  | f + 1, t, ω => (nKd t = 6 → UB t0 n1 s2 h E Y (nX t) ω ∧ UQt t0 n1 s2 h E Y f (nY t) ω) ∧ (nKd t = 7 ∨ nKd t = 11 → UQt t0 n1 s2 h E Y f (nX t) ω) ∧ (nKd t = 8 → ((∀ ρ : Stk, ρ ≠ [] → vz t0 n1 s2 h E (nX t) ρ ω ≤ E ρ) ∧ UB t0 n1 s2 h E Y (nX t) ω) ∧ ∀ z, z ≤ Y → UQt t0 n1 s2 h E Y f (nY t) (hzx h z (nz t0 n1 s2 h ω (nX t)) :: ω)) ∧ (nKd t = 9 → ((∀ ρ : Stk, ρ ≠ [] → vz t0 n1 s2 h E (nY t) ρ ω ≤ E ρ) ∧ UB t0 n1 s2 h E Y (nY t) ω ∧ nz t0 n1 s2 h ω (nY t) ≤ Y) ∧ UQt t0 n1 s2 h E Y f (nX t) ω) ∧ (nKd t = 10 → ∀ g, g < 3 → bit (nMk t) g = true → UQt t0 n1 s2 h E Y f (nP t g) ω) ∧ (nKd t = 12 → UQt t0 n1 s2 h E Y f (nX t) ω ∧ UQt t0 n1 s2 h E Y f (nY t) ω)
/-- of the names around -/
def DU (t0 : Nat) (n1 : Nat → Nat) (s2 : Nat) (h : Nat → Nat) (E : Stk → Nat) (Y : Nat) (ω : List Nat) (Δ : List (Nat × Ty × Nat)) : Prop := ∀ a ∈ Δ, ∃ ν ω1 : List Nat, ω = ν ++ ω1 ∧ ω1.length = a.2.2 ∧ UB t0 n1 s2 h E Y a.2.1 ω1
section PmZi1
variable {t0 s2 Y : Nat} {n1 h : Nat → Nat} {E : Stk → Nat} {Z : Nat → Nat}
theorem DU.ext {ω : List Nat} {Δ : List (Nat × Ty × Nat)} (d : DU t0 n1 s2 h E Y ω Δ) (v : Nat) : DU t0 n1 s2 h E Y (v :: ω) Δ := fun a ha => by
  obtain ⟨ν, ω1, e1, e2, e3⟩ := d a ha
  exact ⟨v :: ν, ω1, by rw [e1]; rfl, e2, e3⟩
theorem DU.lam {ω : List Nat} {Δ : List (Nat × Ty × Nat)} (d : DU t0 n1 s2 h E Y ω Δ) {p k : Nat} {A : Ty} (hl : ω.length = k) (u : UB t0 n1 s2 h E Y A ω) : DU t0 n1 s2 h E Y ω ((p, A, k) :: Δ) := fun a ha => by
  rcases List.mem_cons.mp ha with e | e
  · rw [e]; exact ⟨[], ω, rfl, hl, u⟩
  · exact d a e
theorem tyF_UB (hm : ∀ y y', y ≤ y' → h y ≤ h y') : ∀ (f : Nat) (t : Ty) (Γ : List Ty) (Δ : List (Nat × Ty × Nat)) (A : Ty) (ω : List Nat), TWf f Γ.length (Δ.map (fun a => a.1)) t → TE Γ Δ → HUB t0 n1 s2 h E Y Γ ω → DU t0 n1 s2 h E Y ω Δ → UQt t0 n1 s2 h E Y f t ω → tyF f t Γ Δ = .inr A → UB t0 n1 s2 h E Y A ω
  | 0, _, _, _, _, _, w, _, _, _, _, _ => w.elim
  | f + 1, t, Γ, Δ, A, ω, w, he, hU, dU, uq, e0 => by
    have ok0 := tyF_ok (f + 1) t Γ Δ A w he e0
    have w' := w
    obtain ⟨w0, w5, w6, w7, w8, w9, w10, w11, w12⟩ := w
    obtain ⟨u6, u7, u8, u9, u10, u12⟩ := uq
    have ih := fun t' Γ' Δ' A' ω' => tyF_UB hm f t' Γ' Δ' A' ω'
    have io := fun t' Γ' Δ' A' => tyF_ok f t' Γ' Δ' A'
    have hl := hU.len
    by_cases c9 : nKd t = 9
    · obtain ⟨S, a, b, hS, e2, e3, ob, x2, -⟩ := tyF_is9 w' he c9 e0
      obtain ⟨x1, -, -⟩ := w9 c9
      obtain ⟨⟨g, u, y⟩, v⟩ := u9 c9
      have q := expo_UB he.1 hU Γ.length S (io _ _ _ _ x1 he hS).1 (ih _ _ _ _ ω x1 he hU dU v hS)
      rw [e2] at q
      have q2 := (UB_all.mp q).2.2 _ y
      have q3 := UB_mono (t0 := t0) (n1 := n1) (s2 := s2) (E := E) (Y := Y) hm _ b (nz t0 n1 s2 h ω (nY t) :: ω) (hzx h (nz t0 n1 s2 h ω (nY t)) (nz t0 n1 s2 h ω a) :: ω) (Nat.le_refl _) rfl (by rw [List.length_cons, hl]; exact ob) (fun j hj => by
        rw [vw_cons, vw_cons]
        by_cases ej : j = ω.length
        · rw [if_pos ej, if_pos ej]; unfold hzx; omega
        · rw [if_neg ej, if_neg ej]; exact Nat.le_refl _) q2
      have q4 := UB_sbt (t0 := t0) (n1 := n1) (s2 := s2) (E := E) (Y := Y) hm (nY t) ω (by rw [hl]; exact x2) g u _ b [] (Nat.le_refl _) (by rw [hl]; exact ob) q3
      rw [hl] at q4
      rw [e3]
      exact q4
    unfold tyF at e0
    by_cases c5 : nKd t = 5
    · rw [if_pos c5] at e0
      obtain ⟨e, l⟩ := tyO_in e0
      obtain ⟨a, ha⟩ := dlk_some (w5 c5)
      rw [ha] at e
      injection e with e
      obtain ⟨ν, ω1, e1, e2, e3⟩ := dU _ (dlk_mem ha)
      have e2 : ω1.length = a.2 := e2
      have e3 : UB t0 n1 s2 h E Y a.1 ω1 := e3
      obtain ⟨a1, a2, a3⟩ := he.2.2 _ (dlk_mem ha)
      have el : Γ.length - a.2 = ν.length := by rw [e1, List.length_append] at hl; omega
      have q := UB_lft (t0 := t0) (n1 := n1) (s2 := s2) (h := h) (E := E) (Y := Y) ν ω1 _ a.1 [] (Nat.le_refl _) (by rw [e2]; simpa using a2) e3
      rw [List.nil_append, e2] at q
      have e : lft a.2 (Γ.length - a.2) a.1 = A := e
      rw [← e, el, e1]
      exact q
    rw [if_neg c5] at e0
    by_cases c6 : nKd t = 6
    · rw [if_pos c6] at e0
      obtain ⟨B, hB, h1⟩ := tbd_in e0
      obtain ⟨-, x1, x2, x3⟩ := w6 c6
      obtain ⟨e, l⟩ := szt_in h1
      subst e
      exact UB_fun.mpr (ih (nY t) Γ ((nPl t, nX t, Γ.length) :: Δ) B ω x3 (he.lam x1 x2) hU (dU.lam hl (u6 c6).1) (u6 c6).2 hB)
    rw [if_neg c6] at e0
    by_cases c7 : nKd t = 7
    · rw [if_pos c7] at e0
      obtain ⟨S, hS, h1⟩ := tbd_in e0
      obtain ⟨T, hT, h1⟩ := tbd_in h1
      obtain ⟨e, l⟩ := tyO_in h1
      obtain ⟨x1, x2⟩ := w7 (Or.inl c7)
      obtain ⟨s1, s2'⟩ := io _ _ _ _ x1 he hS
      obtain ⟨o1, o2⟩ := expo_ok he.1 he.2.1 Γ.length S s1 s2'
      have q := expo_UB he.1 hU Γ.length S s1 (ih _ _ _ _ ω x1 he hU dU (u7 (Or.inl c7)) hS)
      unfold tyA at e
      by_cases c : hd (expo Γ Γ.length S) = 1 ∧ bel Γ T (k1 (expo Γ Γ.length S)) = true
      · rw [if_pos c] at e
        injection e with e
        subst e
        obtain ⟨a, b, e2, ha, hb⟩ := hd_is_fun o1 c.1
        rw [e2] at q ⊢
        exact UB_fun.mp q
      · rw [if_neg c] at e; cases e
    rw [if_neg c7] at e0
    by_cases c8 : nKd t = 8
    · rw [if_pos c8] at e0
      obtain ⟨B, hB, h1⟩ := tbd_in e0
      obtain ⟨x1, x2, x3⟩ := w8 c8
      obtain ⟨e, l⟩ := szt_in h1
      subst e
      obtain ⟨⟨g, u⟩, v⟩ := u8 c8
      exact UB_all.mpr ⟨g, u, fun z hz => ih (nY t) (nX t :: Γ) Δ B _ x3 (he.all x1 x2) (hU.ext u _) (dU.ext _) (v z hz) hB⟩
    rw [if_neg c8, if_neg c9] at e0
    by_cases c10 : nKd t = 10
    · rw [if_pos c10] at e0
      obtain ⟨A1, hA1, h1⟩ := tbd_in e0
      obtain ⟨A2, hA2, h1⟩ := tbd_in h1
      obtain ⟨A3, hA3, h1⟩ := tbd_in h1
      obtain ⟨e, l⟩ := szt_in h1
      obtain ⟨m8, x1⟩ := w10 c10
      subst e
      have key : ∀ (g : Nat) (B : Ty), g < 3 → (if bit (nMk t) g = true then tyF f (nP t g) Γ Δ else .inr .nil) = .inr B → UB t0 n1 s2 h E Y B ω := by
        intro g B hg hB
        by_cases c : bit (nMk t) g = true
        · rw [if_pos c] at hB
          exact ih _ _ _ _ ω (x1 g hg c) he hU dU (u10 c10 g hg c) hB
        · rw [if_neg c] at hB
          injection hB with hB
          rw [← hB]; exact UB_nil _
      exact UB_rec.mpr ⟨key 0 A1 (by decide) hA1, key 1 A2 (by decide) hA2, key 2 A3 (by decide) hA3⟩
    rw [if_neg c10] at e0
    by_cases c11 : nKd t = 11
    · rw [if_pos c11] at e0
      obtain ⟨S, hS, h1⟩ := tbd_in e0
      obtain ⟨e, l⟩ := tyO_in h1
      obtain ⟨m3, x1⟩ := w11 c11
      obtain ⟨s1, s2'⟩ := io _ _ _ _ x1 he hS
      obtain ⟨o1, o2⟩ := expo_ok he.1 he.2.1 Γ.length S s1 s2'
      have q := expo_UB he.1 hU Γ.length S s1 (ih _ _ _ _ ω x1 he hU dU (u7 (Or.inr c11)) hS)
      unfold tyD at e
      by_cases c : (8 ≤ hd (expo Γ Γ.length S) ∧ hd (expo Γ Γ.length S) < 16) ∧ bit (hd (expo Γ Γ.length S) - 8) (nMk t) = true
      · rw [if_pos c] at e
        injection e with e
        subst e
        obtain ⟨m, x, y, w, hm', e2⟩ := hd_is_rec o1 c.1.1 c.1.2
        rw [e2] at q ⊢
        obtain ⟨q0, q1, q2⟩ := UB_rec.mp q
        rcases (show nMk t = 0 ∨ nMk t = 1 ∨ nMk t = 2 by omega) with e | e | e
        · rw [e, (pt_rec hm' x y w).1]; exact q0
        · rw [e, (pt_rec hm' x y w).2.1]; exact q1
        · rw [e, (pt_rec hm' x y w).2.2]; exact q2
      · rw [if_neg c] at e; cases e
    rw [if_neg c11] at e0
    obtain ⟨S, hS, h1⟩ := tbd_in e0
    obtain ⟨T, hT, h1⟩ := tbd_in h1
    obtain ⟨e, l⟩ := tyO_in h1
    have c12 : nKd t = 12 := by omega
    obtain ⟨x1, x2⟩ := w7 (Or.inr c12)
    obtain ⟨v1, v2⟩ := u12 c12
    exact cu_UB _ Γ S T A ω hU ⟨he.1, (io _ _ _ _ x1 he hS).1, (io _ _ _ _ x2 he hT).1⟩ (ih _ _ _ _ ω x1 he hU dU v1 hS) (ih _ _ _ _ ω x2 he hU dU v2 hT) e
/-- choices wherever they stand -/
theorem GH_all (hn : NC t0 n1 s2 h) (hm : ∀ y y', y ≤ y' → h y ≤ h y') : ∀ (f : Nat) (t : Ty) (π : Stk) (ω : List Nat) (Γ : List Ty) (Δ : List (Nat × Ty × Nat)), TWf f Γ.length (Δ.map (fun a => a.1)) t → TE Γ Δ → SkY Y π → AQh t0 n1 s2 h E Z f t π ω → UQt t0 n1 s2 h E Y f t ω → DU t0 n1 s2 h E Y ω Δ → CV t0 n1 s2 h ω Γ → HEk t0 n1 s2 h E Γ ω → HUB t0 n1 s2 h E Y Γ ω → GOk t0 n1 s2 h E f t π ω Γ Δ
  | 0, _, _, _, _, _, w, _, _, _, _, _, _, _, _ => w.elim
  | f + 1, t, π, ω, Γ, Δ, w, he, sk, aq, uq, dU, hv, hE, hU => by
    obtain ⟨w0, w5, w6, w7, w8, w9, w10, w11, w12⟩ := w
    obtain ⟨a6, a7, a8, a9, a10, a12⟩ := aq
    obtain ⟨u6, u7, u8, u9, u10, u12⟩ := uq
    have ih := fun t' π' ω' Γ' Δ' => GH_all hn hm f t' π' ω' Γ' Δ'
    have hl := hv.len
    refine ⟨fun c6 => ?_, fun c7 => ?_, fun c8 => ?_, fun c9 => ?_, fun c10 g hg hb => ?_, fun c12 => ?_⟩
    · obtain ⟨-, x1, x2, x3⟩ := w6 c6
      have dU' := dU.lam (p := nPl t) hl (u6 c6).1
      refine ⟨fun e => ?_, fun ρ e => ?_⟩
      · subst e
        exact ih _ _ _ _ _ x3 (he.lam x1 x2) sk ((a6 c6).1 rfl) (u6 c6).2 dU' hv hE hU
      · subst e
        exact ih _ _ _ _ _ x3 (he.lam x1 x2) sk ((a6 c6).2 ρ rfl) (u6 c6).2 dU' hv hE hU
    · have x1 : TWf f Γ.length (Δ.map (fun a => a.1)) (nX t) := by
        rcases c7 with c | c
        · exact (w7 (Or.inl c)).1
        · exact (w11 c).2
      exact ih _ _ _ _ _ x1 he sk (a7 c7) (u7 c7) dU hv hE hU
    · obtain ⟨x1, x2, x3⟩ := w8 c8
      obtain ⟨k1, k2, k3⟩ := a8 c8
      obtain ⟨⟨g, u⟩, v⟩ := u8 c8
      refine ⟨k1, fun e => ?_, fun z ρ e => ?_⟩
      · subst e
        have e1 : hzx h 0 (nz t0 n1 s2 h ω (nX t)) = h (nz t0 n1 s2 h ω (nX t)) := Nat.max_eq_right (Nat.zero_le _)
        have q := v 0 (Nat.zero_le _)
        rw [e1] at q
        exact ih (nY t) [] _ (nX t :: Γ) Δ x3 (he.all x1 x2) trivial (k2 rfl) q (dU.ext _) (hv.ext hn he.1 x1) (hE.ext k1 _) (hU.ext u _)
      · subst e
        exact ih (nY t) ρ _ (nX t :: Γ) Δ x3 (he.all x1 x2) sk.2 (k3 z ρ rfl) (v z sk.1) (dU.ext _) (hv.extz hn he.1 x1 z) (hE.ext k1 _) (hU.ext u _)
    · obtain ⟨x1, x2, x3⟩ := w9 c9
      obtain ⟨k1, k2⟩ := a9 c9
      obtain ⟨⟨g, u, y⟩, v⟩ := u9 c9
      exact ⟨k1.1, ih _ _ _ _ _ x1 he (show SkY Y (some _ :: π) from ⟨y, sk⟩) k2 v dU hv hE hU⟩
    · obtain ⟨m8, x1⟩ := w10 c10
      refine ⟨fun e => ?_, fun ρ e => ?_⟩
      · subst e
        exact ih _ _ _ _ _ (x1 g hg hb) he trivial ((a10 c10 g hg hb).1 rfl) (u10 c10 g hg hb) dU hv hE hU
      · subst e
        exact ih _ _ _ _ _ (x1 g hg hb) he sk ((a10 c10 g hg hb).2 ρ rfl) (u10 c10 g hg hb) dU hv hE hU
    · obtain ⟨x1, x2⟩ := w7 (Or.inr c12)
      obtain ⟨v1, v2⟩ := u12 c12
      refine ⟨ih _ _ _ _ _ x1 he sk (a12 c12).1 v1 dU hv hE hU, ih _ _ _ _ _ x2 he sk (a12 c12).2 v2 dU hv hE hU, fun S T R hS hT e => ?_⟩
      obtain ⟨s1, s2'⟩ := tyF_ok f _ Γ Δ S x1 he hS
      obtain ⟨t1, t2⟩ := tyF_ok f _ Γ Δ T x2 he hT
      have oR := (cmu_ok (⟨⟨he.1, s1, t1⟩, he.2.1, s2', t2⟩) e).1
      exact cu_vzY hn _ Γ S T R π ω hv hE hU sk ⟨he.1, s1, t1⟩ oR (tyF_UB hm f _ Γ Δ S ω x1 he hU dU v1 hS) (tyF_UB hm f _ Γ Δ T ω x2 he hU dU v2 hT) e
end PmZi1
