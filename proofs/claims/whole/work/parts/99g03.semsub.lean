/-! BELOW, JOINS AND MEETS say of values what they should. -/
def mdl (Γ : List Ty) (ξ : List Pr) : Prop := ξ.length = Γ.length ∧ ∀ k, k < Γ.length → dc (pw ξ k) ∧ ∀ n v, pw ξ k n v → sem ξ (lft k (Γ.length - k) (bnd Γ k)) n v
theorem sem_bnd (ξ : List Pr) (k : Nat) (b : Ty) (hk : k ≤ ξ.length) (hb : ok k b = true) : sem ξ (lft k (ξ.length - k) b) = sem (ξ.drop (ξ.length - k)) b := by
  have e1 : ξ = ξ.take (ξ.length - k) ++ ξ.drop (ξ.length - k) := (List.take_append_drop _ _).symm
  have l1 : (ξ.take (ξ.length - k)).length = ξ.length - k := by rw [List.length_take]; omega
  have l2 : (ξ.drop (ξ.length - k)).length = k := by rw [List.length_drop]; omega
  have := sem_lft (ξ.take (ξ.length - k)) (ξ.drop (ξ.length - k)) _ b [] (Nat.le_refl _) (by rw [l2]; exact hb)
  rw [List.nil_append, List.nil_append, l1, l2, ← e1] at this
  exact this
theorem mdl.cons {Γ : List Ty} {ξ : List Pr} {A : Ty} {p : Pr} (h : mdl Γ ξ) (hc : okc Γ) (hA : ok Γ.length A = true) (hp : dc p) (hs : ∀ n v, p n v → sem ξ A n v) : mdl (A :: Γ) (p :: ξ) := by
  obtain ⟨hl, hh⟩ := h
  refine ⟨by rw [List.length_cons, List.length_cons, hl], fun k hk => ?_⟩
  rw [List.length_cons] at hk
  show dc (if k = ξ.length then p else pw ξ k) ∧ ∀ n v, (if k = ξ.length then p else pw ξ k) n v → sem (p :: ξ) (lft k (Γ.length + 1 - k) (if k = Γ.length then A else bnd Γ k)) n v
  by_cases c : k = Γ.length
  · rw [if_pos (by omega), if_pos c]
    refine ⟨hp, fun n v hv => ?_⟩
    have e := sem_bnd (p :: ξ) k A (by rw [List.length_cons]; omega) (by rw [c]; exact hA)
    rw [List.length_cons, hl] at e
    rw [e, c, show Γ.length + 1 - Γ.length = 1 by omega]
    exact hs n v hv
  · rw [if_neg (by omega), if_neg c]
    obtain ⟨h1, h2⟩ := hh k (by omega)
    refine ⟨h1, fun n v hv => ?_⟩
    have e := sem_bnd (p :: ξ) k (bnd Γ k) (by rw [List.length_cons]; omega) (okc_bnd hc (by omega))
    have e2 := sem_bnd ξ k (bnd Γ k) (by omega) (okc_bnd hc (by omega))
    rw [List.length_cons, hl, show Γ.length + 1 - k = (Γ.length - k) + 1 by omega, List.drop_succ_cons] at e
    rw [hl] at e2
    rw [show Γ.length + 1 - k = (Γ.length - k) + 1 by omega, e, ← e2]
    exact h2 n v hv
theorem mdl.nil : mdl [] [] := ⟨rfl, fun k hk => absurd hk (Nat.not_lt_zero k)⟩
theorem mdl.dcs {Γ : List Ty} {ξ : List Pr} (h : mdl Γ ξ) : ∀ k, k < ξ.length → dc (pw ξ k) := fun k hk => (h.2 k (by rw [← h.1]; exact hk)).1
def Inc (ξ : List Pr) (S T : Ty) : Prop := ∀ n v, sem ξ S n v → sem ξ T n v
theorem twt_le {Γ : List Ty} {S T : Ty} {f : Nat} (h : wt (om Γ) S + wt (om Γ) T ≤ f) : twt (Γ, S, T) ≤ f := h
theorem bel_sem : ∀ (f : Nat) (Γ : List Ty) (S T : Ty) (ξ : List Pr), twt (Γ, S, T) ≤ f → tok (Γ, S, T) → mdl Γ ξ → bel Γ S T = true → Inc ξ S T
  | 0, Γ, S, T, ξ, hf, ht, _, _ => by have := twt_two ht; omega
  | f + 1, Γ, S, T, ξ, hf, ht, hm, hb => by
    have ht' := ht
    obtain ⟨hc0, hS0, hT0⟩ := ht'
    have hc : okc Γ := hc0
    have hS : ok Γ.length S = true := hS0
    have hT : ok Γ.length T = true := hT0
    clear hc0 hS0 hT0
    have hf : wt (om Γ) S + wt (om Γ) T ≤ f + 1 := hf
    have pS := wt_pos hS (om Γ)
    have pT := wt_pos hT (om Γ)
    have no : hd T ≠ 0 → ¬ 16 ≤ hd S → ¬ ((8 ≤ hd S ∧ hd S < 16) ∧ (8 ≤ hd T ∧ hd T < 16)) → hd S ≠ hd T → Inc ξ S T := fun e0 e1 e2 e3 => by rw [bel_no ht e0 e1 e2 e3] at hb; cases hb
    rcases ok_cases hT with rfl | ⟨j, hj, rfl⟩ | ⟨a', b', rfl, ha', hb'⟩ | ⟨a', b', rfl, ha', hb'⟩ | ⟨m', x', y', z', hm', rfl, h0', h1', h2'⟩
    · intro n v _; rw [sem_top]; trivial
    all_goals rcases ok_cases hS with rfl | ⟨k, hk, rfl⟩ | ⟨a, b, rfl, ha, hb2⟩ | ⟨a, b, rfl, ha, hb2⟩ | ⟨m, x, y, z, hm2, rfl, h0, h1, h2⟩
    all_goals first
      | exact no (by simp only [hd_top, hd_var, hd_fun, hd_all, hd_rec]; omega) (by simp only [hd_top, hd_var, hd_fun, hd_all, hd_rec]; omega) (by simp only [hd_top, hd_var, hd_fun, hd_all, hd_rec]; omega) (by simp only [hd_top, hd_var, hd_fun, hd_all, hd_rec]; omega)
      | skip
    -- a variable on the left
    · by_cases e : k = j
      · subst e; exact fun n v h => h
      · rw [bel_var ht (by rw [hd_var]; omega) (by rw [hd_var]; omega)] at hb
        rw [wt_var] at hf
        have ih := bel_sem f Γ (lft k (Γ.length - k) (bnd Γ k)) (tVar j) ξ (twt_le (by rw [wt_expose hc hk]; omega)) ⟨hc, ok_expose hc hk, hT⟩ hm hb
        intro n v hv
        rw [sem_var] at hv
        exact ih n v ((hm.2 k hk).2 n v hv)
    · rw [bel_var ht (by rw [hd_fun]; omega) (by rw [hd_fun]; omega)] at hb
      rw [wt_var] at hf
      have ih := bel_sem f Γ (lft k (Γ.length - k) (bnd Γ k)) (tFun a' b') ξ (twt_le (by rw [wt_expose hc hk]; omega)) ⟨hc, ok_expose hc hk, hT⟩ hm hb
      intro n v hv
      rw [sem_var] at hv
      exact ih n v ((hm.2 k hk).2 n v hv)
    · rw [bel_fun ht, Bool.and_eq_true] at hb
      rw [wt_fun, wt_fun] at hf
      have i1 := bel_sem f Γ a' a ξ (twt_le (by omega)) ⟨hc, ha', ha⟩ hm hb.1
      have i2 := bel_sem f Γ b b' ξ (twt_le (by omega)) ⟨hc, hb2, hb'⟩ hm hb.2
      intro n v hv
      rw [sem_fun] at hv ⊢
      obtain ⟨t, ρ, e, hk, hh⟩ := hv
      exact ⟨t, ρ, e, hk, fun m hm w hw => (hh m hm w (i1 m w hw)).imp i2⟩
    · rw [bel_var ht (by rw [hd_all]; omega) (by rw [hd_all]; omega)] at hb
      rw [wt_var] at hf
      have ih := bel_sem f Γ (lft k (Γ.length - k) (bnd Γ k)) (tAll a' b') ξ (twt_le (by rw [wt_expose hc hk]; omega)) ⟨hc, ok_expose hc hk, hT⟩ hm hb
      intro n v hv
      rw [sem_var] at hv
      exact ih n v ((hm.2 k hk).2 n v hv)
    · by_cases e : flat a = flat a'
      · have e := flat_eq ha ha' e
        subst e
        rw [bel_all ht] at hb
        rw [wt_all, wt_all] at hf
        intro n v hv
        rw [sem_all] at hv ⊢
        obtain ⟨t, ρ, e, hk, hh⟩ := hv
        refine ⟨t, ρ, e, hk, fun p hp hs m hm2 => (hh p hp hs m hm2).imp ?_⟩
        exact bel_sem f (a :: Γ) b b' (p :: ξ) (twt_le (by show wt (wt (om Γ) a :: om Γ) b + wt (wt (om Γ) a :: om Γ) b' ≤ f; omega)) ⟨⟨ha, hc⟩, hb2, hb'⟩ (hm.cons hc ha hp hs) hb
      · rw [bel_alln ht e] at hb; cases hb
    · rw [bel_var ht (by rw [hd_rec]; omega) (by rw [hd_rec]; omega)] at hb
      rw [wt_var] at hf
      have ih := bel_sem f Γ (lft k (Γ.length - k) (bnd Γ k)) (tRec m' x' y' z') ξ (twt_le (by rw [wt_expose hc hk]; omega)) ⟨hc, ok_expose hc hk, hT⟩ hm hb
      intro n v hv
      rw [sem_var] at hv
      exact ih n v ((hm.2 k hk).2 n v hv)
    · have hb := (bel_rec hm2 hm' ht).mp hb
      rw [wt_rec, wt_rec] at hf
      obtain ⟨p0, p1, p2⟩ := pt_rec hm2 x y z
      obtain ⟨p0', p1', p2'⟩ := pt_rec hm' x' y' z'
      have key : ∀ (g : Nat) (u u' : Ty), g < 3 → pt (tRec m x y z) g = u → pt (tRec m' x' y' z') g = u' → okl Γ.length m g u → okl Γ.length m' g u' → wt (om Γ) u + wt (om Γ) u' ≤ f → Inc ξ u u' ∧ (bit m' g = true → bit m g = true) := by
        intro g u u' hg e e' o o' hw
        by_cases hbt : bit m' g = true
        · obtain ⟨q1, q2⟩ := hb g hg (by rw [hp_rec hm' _ _ _ g hg]; exact hbt)
          rw [hp_rec hm2 _ _ _ g hg] at q1
          rw [e, e'] at q2
          unfold okl at o o'
          rw [if_pos hbt] at o'
          rw [if_pos q1] at o
          exact ⟨bel_sem f Γ u u' ξ hw ⟨hc, o, o'⟩ hm q2, fun _ => q1⟩
        · unfold okl at o'
          rw [if_neg hbt] at o'
          exact ⟨fun n v _ => by rw [o', sem_nil]; trivial, fun q => absurd q hbt⟩
      have k0 := key 0 x x' (by omega) p0 p0' h0 h0' (by omega)
      have k1' := key 1 y y' (by omega) p1 p1' h1 h1' (by omega)
      have k2' := key 2 z z' (by omega) p2 p2' h2 h2' (by omega)
      intro n v hv
      rw [sem_rec] at hv ⊢
      obtain ⟨q, a, b, c, e, hbi, ha, hb3, hc3⟩ := hv
      refine ⟨q, a, b, c, e, fun g hg hbt => hbi g hg ?_, k0.1 n a ha, k1'.1 n b hb3, k2'.1 n c hc3⟩
      have : g = 0 ∨ g = 1 ∨ g = 2 := by omega
      rcases this with rfl | rfl | rfl
      · exact k0.2 hbt
      · exact k1'.2 hbt
      · exact k2'.2 hbt
theorem bel_inc {Γ : List Ty} {S T : Ty} {ξ : List Pr} (ht : tok (Γ, S, T)) (hm : mdl Γ ξ) (hb : bel Γ S T = true) : Inc ξ S T := bel_sem _ Γ S T ξ (Nat.le_refl _) ht hm hb
theorem expo_inc {Γ : List Ty} {ξ : List Pr} (hc : okc Γ) (hm : mdl Γ ξ) : ∀ (f : Nat) (S : Ty), ok Γ.length S = true → Inc ξ S (expo Γ f S)
  | 0, S, _ => fun n v h => h
  | f + 1, S, h => by
    show Inc ξ S (if 16 ≤ hd S then expo Γ f (exps Γ S) else S)
    by_cases c : 16 ≤ hd S
    · rw [if_pos c]
      obtain ⟨k, hk, rfl⟩ := hd_is_var h c
      rw [exps_var]
      intro n v hv
      rw [sem_var] at hv
      exact expo_inc hc hm f _ (ok_expose hc hk) n v ((hm.2 k hk).2 n v hv)
    · rw [if_neg c]; exact fun n v h => h
