/-! WHAT IS ASKED OF A TERM WHOSE CHOICES STAND ANYWHERE, by its characters. -/
def NQ (t0 : Nat) (n1 : Nat → Nat) (s2 : Nat) (h : Nat → Nat) (E : Stk → Nat) (Y : Nat) : Nat → Ty → List Nat → List Bool → Prop
  | 0, _, _, _ => True
  | f + 1, t, ω, σ => CHo (f + 1) t σ ∨ ((nKd t = 6 → UB t0 n1 s2 h E Y (nX t) ω ∧ NQ t0 n1 s2 h E Y f (nY t) ω σ.tail) ∧ (nKd t = 7 ∨ nKd t = 11 → NQ t0 n1 s2 h E Y f (nX t) ω (false :: σ)) ∧ (nKd t = 8 → UB t0 n1 s2 h E Y (nX t) ω ∧ ∀ z, z ≤ Y → NQ t0 n1 s2 h E Y f (nY t) (hzx h z (nz t0 n1 s2 h ω (nX t)) :: ω) σ.tail) ∧ (nKd t = 9 → nz t0 n1 s2 h ω (nY t) ≤ Y ∧ NQ t0 n1 s2 h E Y f (nX t) ω (true :: σ)) ∧ (nKd t = 10 → ∀ g, g < 3 → bit (nMk t) g = true → NQ t0 n1 s2 h E Y f (nP t g) ω σ.tail) ∧ (nKd t = 12 → (NQ t0 n1 s2 h E Y f (nX t) ω σ ∧ NQ t0 n1 s2 h E Y f (nY t) ω σ) ∧ (chkB σ = true ∨ (UQt t0 n1 s2 h E Y f (nX t) ω ∧ UQt t0 n1 s2 h E Y f (nY t) ω))))
section PmZj1
variable {t0 s2 Y : Nat} {n1 h : Nat → Nat} {E : Stk → Nat} {Z : Nat → Nat}
theorem GH_nq (hn : NC t0 n1 s2 h) (hm : ∀ y y', y ≤ y' → h y ≤ h y') : ∀ (f : Nat) (t : Ty) (π : Stk) (ω : List Nat) (Γ : List Ty) (Δ : List (Nat × Ty × Nat)), TWf f Γ.length (Δ.map (fun a => a.1)) t → TE Γ Δ → SkY Y π → AQh t0 n1 s2 h E Z f t π ω → NQ t0 n1 s2 h E Y f t ω (π.map Option.isSome) → DU t0 n1 s2 h E Y ω Δ → CV t0 n1 s2 h ω Γ → HEk t0 n1 s2 h E Γ ω → HUB t0 n1 s2 h E Y Γ ω → GOk t0 n1 s2 h E f t π ω Γ Δ
  | 0, _, _, _, _, _, w, _, _, _, _, _, _, _, _ => w.elim
  | f + 1, t, π, ω, Γ, Δ, w, he, sk, aq, nq, dU, hv, hE, hU => by
    rcases nq with ch | nq
    · exact GH_natc hn hm (f + 1) t π ω Γ Δ w he ch aq hv hE
    obtain ⟨w0, w5, w6, w7, w8, w9, w10, w11, w12⟩ := w
    obtain ⟨a6, a7, a8, a9, a10, a12⟩ := aq
    obtain ⟨u6, u7, u8, u9, u10, u12⟩ := nq
    have ih := fun t' π' ω' Γ' Δ' => GH_nq hn hm f t' π' ω' Γ' Δ'
    have hl := hv.len
    refine ⟨fun c6 => ?_, fun c7 => ?_, fun c8 => ?_, fun c9 => ?_, fun c10 g hg hb => ?_, fun c12 => ?_⟩
    · obtain ⟨-, x1, x2, x3⟩ := w6 c6
      have dU' := dU.lam (p := nPl t) hl (u6 c6).1
      refine ⟨fun e => ?_, fun ρ e => ?_⟩
      · subst e
        exact ih _ _ _ _ _ x3 (he.lam x1 x2) sk ((a6 c6).1 rfl) (u6 c6).2 dU' hv hE hU
      · subst e
        exact ih _ _ _ _ _ x3 (he.lam x1 x2) sk ((a6 c6).2 ρ rfl) (u6 c6).2 dU' hv hE hU
    · have x1 : TWf f Γ.length (Δ.map (fun a => a.1)) (nX t) := by
        rcases c7 with c | c
        · exact (w7 (Or.inl c)).1
        · exact (w11 c).2
      exact ih _ _ _ _ _ x1 he sk (a7 c7) (u7 c7) dU hv hE hU
    · obtain ⟨x1, x2, x3⟩ := w8 c8
      obtain ⟨k1, k2, k3⟩ := a8 c8
      obtain ⟨u, v⟩ := u8 c8
      refine ⟨k1, fun e => ?_, fun z ρ e => ?_⟩
      · subst e
        have e1 : hzx h 0 (nz t0 n1 s2 h ω (nX t)) = h (nz t0 n1 s2 h ω (nX t)) := Nat.max_eq_right (Nat.zero_le _)
        have q := v 0 (Nat.zero_le _)
        rw [e1] at q
        exact ih (nY t) [] _ (nX t :: Γ) Δ x3 (he.all x1 x2) trivial (k2 rfl) q (dU.ext _) (hv.ext hn he.1 x1) (hE.ext k1 _) (hU.ext u _)
      · subst e
        exact ih (nY t) ρ _ (nX t :: Γ) Δ x3 (he.all x1 x2) sk.2 (k3 z ρ rfl) (v z sk.1) (dU.ext _) (hv.extz hn he.1 x1 z) (hE.ext k1 _) (hU.ext u _)
    · obtain ⟨x1, x2, x3⟩ := w9 c9
      obtain ⟨k1, k2⟩ := a9 c9
      obtain ⟨y, v⟩ := u9 c9
      exact ⟨k1.1, ih _ _ _ _ _ x1 he (show SkY Y (some _ :: π) from ⟨y, sk⟩) k2 v dU hv hE hU⟩
    · obtain ⟨m8, x1⟩ := w10 c10
      refine ⟨fun e => ?_, fun ρ e => ?_⟩
      · subst e
        exact ih _ _ _ _ _ (x1 g hg hb) he trivial ((a10 c10 g hg hb).1 rfl) (u10 c10 g hg hb) dU hv hE hU
      · subst e
        exact ih _ _ _ _ _ (x1 g hg hb) he sk ((a10 c10 g hg hb).2 ρ rfl) (u10 c10 g hg hb) dU hv hE hU
    · obtain ⟨x1, x2⟩ := w7 (Or.inr c12)
      obtain ⟨⟨q1, q2⟩, v⟩ := u12 c12
      refine ⟨ih _ _ _ _ _ x1 he sk (a12 c12).1 q1 dU hv hE hU, ih _ _ _ _ _ x2 he sk (a12 c12).2 q2 dU hv hE hU, fun S T R hS hT e => ?_⟩
      obtain ⟨s1, s2'⟩ := tyF_ok f _ Γ Δ S x1 he hS
      obtain ⟨t1, t2⟩ := tyF_ok f _ Γ Δ T x2 he hT
      have oR := (cmu_ok (⟨⟨he.1, s1, t1⟩, he.2.1, s2', t2⟩) e).1
      rcases v with ck | ⟨v1, v2⟩
      · exact cu_vz hn _ Γ S T R π ω hv hE (chkB_chk π ck) ⟨he.1, s1, t1⟩ oR e
      exact cu_vzY hn _ Γ S T R π ω hv hE hU sk ⟨he.1, s1, t1⟩ oR (tyF_UB hm f _ Γ Δ S ω x1 he hU dU v1 hS) (tyF_UB hm f _ Γ Δ T ω x2 he hU dU v2 hT) e
/-- the bounds in a text -/
theorem txt_UB {K : Nat} {g : Nat → Nat} (hg : ∀ b b', b ≤ b' → g b ≤ g b') (hY : Y ≤ g 0) (hgr : ∀ (A : Ty) (ω : List Nat) (b : Nat), ok ω.length A = true → tch A + b ≤ K → (∀ j, j < ω.length → vw ω j ≤ g b) → h (nz t0 n1 s2 h ω A) ≤ g (b + tch A + 4)) (hG : ∀ (A : Ty) (ω : List Nat) (b : Nat), ok ω.length A = true → tch A + b ≤ K → (∀ j, j < ω.length → vw ω j ≤ g b) → ∀ ρ : Stk, ρ ≠ [] → vz t0 n1 s2 h E A ρ ω ≤ E ρ) : ∀ (f : Nat) (t : Ty) (ω : List Nat) (b : Nat), (flat t).length ≤ f → ok ω.length t = true → tch t + b ≤ K + 5 → (∀ j, j < ω.length → vw ω j ≤ g b) → UB t0 n1 s2 h E Y t ω
  | 0, t, ω, b, hf, o, _, _ => by have := flat_pos o; omega
  | f + 1, t, ω, b, hf, o, hk, hw => by
    rcases ok_cases o with rfl | ⟨j, hj, rfl⟩ | ⟨a, c, rfl, ha, hb⟩ | ⟨a, c, rfl, ha, hb⟩ | ⟨m, x, y, z, hm, rfl, h0, h1, h2⟩
    · exact UB_top _
    · exact UB_var _ _
    · rw [flat_fun, List.length_cons, List.length_append] at hf
      rw [tch_fun] at hk
      exact UB_fun.mpr (txt_UB hg hY hgr hG f c ω b (by omega) hb (by omega) hw)
    · rw [flat_all, List.length_cons, List.length_append] at hf
      rw [tch_all] at hk
      have pc := tch_pos hb
      refine UB_all.mpr ⟨hG a ω b ha (by omega) hw, txt_UB hg hY hgr hG f a ω b (by omega) ha (by omega) hw, fun z hz => ?_⟩
      refine txt_UB hg hY hgr hG f c (hzx h z (nz t0 n1 s2 h ω a) :: ω) (b + tch a + 4) (by omega) (by rw [List.length_cons]; exact hb) (by omega) (fun j hj => ?_)
      rw [vw_cons]
      by_cases e : j = ω.length
      · rw [if_pos e]
        have q1 := hgr a ω b ha (by omega) hw
        have q2 := hg 0 (b + tch a + 4) (Nat.zero_le _)
        unfold hzx
        omega
      · rw [if_neg e]
        rw [List.length_cons] at hj
        exact Nat.le_trans (hw j (by omega)) (hg _ _ (by omega))
    · rw [flat_rec, List.length_cons, List.length_append, List.length_append] at hf
      rw [tch_rec] at hk
      have key : ∀ (i : Nat) (p : Ty), (flat p).length ≤ f → okl ω.length m i p → tch p + b ≤ K + 5 → UB t0 n1 s2 h E Y p ω := by
        intro i p hp ho hk'
        unfold okl at ho
        by_cases hb : bit m i = true
        · rw [if_pos hb] at ho
          exact txt_UB hg hY hgr hG f p ω b hp ho hk' hw
        · rw [if_neg hb] at ho
          rw [ho]; exact UB_nil _
      exact UB_rec.mpr ⟨key 0 x (by omega) h0 (by omega), key 1 y (by omega) h1 (by omega), key 2 z (by omega) h2 (by omega)⟩
end PmZj1
/-- a choice that stands under more than asked takes characters -/
theorem cho_min : ∀ (f D : Nat) (sc : List Nat) (t : Ty) (σ : List Bool), TWf f D sc t → ¬ CHo f t σ → 8 ≤ mch t + 2 * σ.length
  | 0, _, _, _, _, w, _ => w.elim
  | f + 1, D, sc, t, σ, w, nc => by
    have ih := fun D sc t σ => cho_min f D sc t σ
    obtain ⟨w0, w5, w6, w7, w8, w9, w10, w11, w12⟩ := w
    have em := mch_is w0.2.1
    refine Classical.byContradiction (fun lt => nc ⟨fun c => Classical.byContradiction (fun n => ?_), fun c => Classical.byContradiction (fun n => ?_), fun c => Classical.byContradiction (fun n => ?_), fun c g hg hb => Classical.byContradiction (fun n => ?_), fun c => ?_⟩)
    · rw [if_neg (by omega), if_pos c] at em
      have hl : σ.tail.length = σ.length - 1 := List.length_tail
      rcases c with c | c
      · have := ih _ _ _ _ (w6 c).2.2.2 n
        have := tch_pos (w6 c).2.1
        omega
      · have := ih _ _ _ _ (w8 c).2.2 n
        have := tch_pos (w8 c).1
        omega
    · rw [if_neg (by omega), if_neg (by omega), if_neg (by omega), if_neg (by omega)] at em
      rcases c with c | c
      · have := ih _ _ _ _ (w7 (Or.inl c)).1 n
        rw [List.length_cons] at this
        omega
      · have := ih _ _ _ _ (w11 c).2 n
        rw [List.length_cons] at this
        omega
    · rw [if_neg (by omega), if_neg (by omega), if_pos c] at em
      have := ih _ _ _ _ (w9 c).1 n
      rw [List.length_cons] at this
      have := tch_pos (w9 c).2.1
      omega
    · rw [if_neg (by omega), if_neg (by omega), if_neg (by omega), if_pos c] at em
      have := ih _ _ _ _ ((w10 c).2 g hg hb) n
      have hl : σ.tail.length = σ.length - 1 := List.length_tail
      have hm : ¬ nMk t = 0 := by
        intro e
        rw [e] at hb
        rcases (show g = 0 ∨ g = 1 ∨ g = 2 by omega) with rfl | rfl | rfl <;> exact absurd hb (by decide)
      rw [if_neg hm] at em
      rcases (show g = 0 ∨ g = 1 ∨ g = 2 by omega) with rfl | rfl | rfl
      · have this : 8 ≤ mch (nX t) + 2 * σ.tail.length := this
        omega
      · have this : 8 ≤ mch (nY t) + 2 * σ.tail.length := this
        omega
      · have this : 8 ≤ mch (nZ t) + 2 * σ.tail.length := this
        omega
    · rw [if_neg (by omega), if_neg (by omega), if_neg (by omega), if_neg (by omega)] at em
      obtain ⟨x1, x2⟩ := w7 (Or.inr c)
      have p1 := mch_pos' x1
      have p2 := mch_pos' x2
      refine ⟨Classical.byContradiction (fun n => ?_), Classical.byContradiction (fun n => ?_), Classical.byContradiction (fun n => ?_)⟩
      · have l2 : 2 ≤ σ.length := by
          match σ, n with
          | [], n => exact absurd rfl n
          | [b], n =>
            cases b
            · exact absurd rfl n
            · exact absurd rfl n
          | a :: b :: l, _ => rw [List.length_cons, List.length_cons]; omega
        omega
      · have := ih _ _ _ _ x1 n
        omega
      · have := ih _ _ _ _ x2 n
        omega
