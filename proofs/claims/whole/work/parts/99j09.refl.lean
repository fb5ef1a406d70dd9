/-! A TYPE AND ITSELF. -/
def nsc : Ty → Nat
  | .tag c (.append a b) => (if c = 2 then 1 else 0) + (nsc a + nsc b)
  | .append a b => nsc a + nsc b
  | _ => 0
theorem nsc_fun (a b : Ty) : nsc (tFun a b) = nsc a + nsc b := by simp [tFun, nsc]
theorem nsc_all (a b : Ty) : nsc (tAll a b) = 1 + (nsc a + nsc b) := by simp [tAll, nsc]
theorem nsc_rec {m : Nat} (x y z : Ty) : nsc (tRec m x y z) = nsc x + (nsc y + nsc z) := by
  unfold tRec
  rw [nsc, if_neg (by omega), nsc]
  omega
theorem nsc_len : ∀ (n : Nat) (t : Ty) (d : Nat), (flat t).length ≤ n → ok d t = true → nsc t ≤ (flat t).length
  | 0, t, d, hn, h => by have := flat_pos h; omega
  | n + 1, t, d, hn, h => by
    rcases ok_cases h with rfl | ⟨k, hk, rfl⟩ | ⟨a, b, rfl, ha, hb⟩ | ⟨a, b, rfl, ha, hb⟩ | ⟨m, x, y, z, hm, rfl, h0, h1, h2⟩
    · exact Nat.zero_le _
    · exact Nat.zero_le _
    · rw [flat_fun, List.length_cons, List.length_append] at hn ⊢
      have i1 := nsc_len n a d (by omega) ha
      have i2 := nsc_len n b d (by omega) hb
      rw [nsc_fun]; omega
    · rw [flat_all, List.length_cons, List.length_append] at hn ⊢
      have i1 := nsc_len n a d (by omega) ha
      have i2 := nsc_len n b (d + 1) (by omega) hb
      rw [nsc_all]; omega
    · rw [flat_rec, List.length_cons, List.length_append, List.length_append] at hn ⊢
      have key : ∀ (i : Nat) (p : Ty), (flat p).length ≤ n → okl d m i p → nsc p ≤ (flat p).length := by
        intro i p hp ho
        unfold okl at ho
        by_cases hb : bit m i = true
        · rw [if_pos hb] at ho
          exact nsc_len n p d hp ho
        · rw [if_neg hb] at ho
          rw [ho]; exact Nat.zero_le _
      have i0 := key 0 x (by omega) h0
      have i1 := key 1 y (by omega) h1
      have i2 := key 2 z (by omega) h2
      rw [nsc_rec]; omega
theorem rec_inj {m m' : Nat} {x y z x' y' z' : Ty} (e : tRec m x y z = tRec m' x' y' z') : m = m' ∧ x = x' ∧ y = y' ∧ z = z' := by
  unfold tRec at e
  injection e with e1 e2
  injection e2 with e2 e3
  injection e3 with e3 e4
  exact ⟨by omega, e2, e3, e4⟩
theorem trf_refl : ∀ (f : Nat) (Γ : List Ty) (S : Ty), okc Γ → ok Γ.length S = true → trf f (Γ, S, S) ≤ nsc S
  | 0, _, _, _, _ => Nat.zero_le _
  | f + 1, Γ, S, hc, hS => by
    have tk : tok (Γ, S, S) := ⟨hc, hS, hS⟩
    rcases stp_cases tk with e1 | ⟨e1, r1⟩ | ⟨k, hk, rfl, hT0, e1, r1⟩ | ⟨m, x, y, z, m', x', y', z', hm, hm', e2, e3, e1, r1⟩ | ⟨a, b, a', b', e2, e3, e1, r1⟩ | ⟨a, b, b', e2, e3, e1, r1⟩
    · rw [trf]
      simp only [e1]
      exact Nat.zero_le _
    · rw [trf]
      simp only [e1]
      show rst S S + 0 ≤ _
      omega
    · exfalso
      have : stp Γ (tVar k) (tVar k) = some [] := by
        unfold stp
        rw [if_pos (Or.inr ⟨by rw [hd_var]; omega, rfl⟩)]
      rw [this] at e1
      cases e1
    · subst e2
      obtain ⟨em, ex, ey, ez⟩ := rec_inj e3
      subst em ex ey ez
      have oS := (ok_rec hm).mp hS
      have key : ∀ (g : Nat) (p : Ty), okl Γ.length m g p → sumt (trf f) (stl Γ m g p p) ≤ nsc p := by
        intro g p hp
        unfold stl
        by_cases hb1 : bit m g = true
        · rw [if_pos hb1]
          have := trf_refl f Γ p hc (okl_on hp (bit_iff.mp hb1))
          show trf f (Γ, p, p) + 0 ≤ _
          omega
        · rw [if_neg hb1]; exact Nat.zero_le _
      have k0 := key 0 x oS.1
      have k1 := key 1 y oS.2.1
      have k2 := key 2 z oS.2.2
      rw [trf]
      simp only [e1]
      rw [r1, sumt_app, sumt_app, nsc_rec]
      omega
    · subst e2
      have e3 : tFun a b = tFun a' b' := e3
      have ea : a = a' := by unfold tFun at e3; injection e3 with _ e3; injection e3
      have eb : b = b' := by unfold tFun at e3; injection e3 with _ e3; injection e3
      subst ea eb
      have oS := ok_fun.mp hS
      have i1 := trf_refl f Γ a hc oS.1
      have i2 := trf_refl f Γ b hc oS.2
      rw [trf]
      simp only [e1]
      rw [r1, nsc_fun]
      show 0 + (trf f (Γ, b, b) + (trf f (Γ, a, a) + 0)) ≤ _
      omega
    · subst e2
      have eb : b = b' := by unfold tAll at e3; injection e3 with _ e3; injection e3
      subst eb
      have oS := ok_all.mp hS
      have i2 := trf_refl f (a :: Γ) b ⟨oS.1, hc⟩ oS.2
      rw [trf]
      simp only [e1]
      rw [r1, nsc_all]
      show 1 + (trf f (a :: Γ, b, b) + 0) ≤ _
      omega
theorem bel_refl : ∀ (n : Nat) (Γ : List Ty) (S : Ty), (flat S).length ≤ n → okc Γ → ok Γ.length S = true → bel Γ S S = true
  | 0, _, t, hn, _, h => by have := flat_pos h; omega
  | n + 1, Γ, S, hn, hc, h => by
    rcases ok_cases h with rfl | ⟨k, hk, rfl⟩ | ⟨a, b, rfl, ha, hb⟩ | ⟨a, b, rfl, ha, hb⟩ | ⟨m, x, y, z, hm, rfl, h0, h1, h2⟩
    · exact bel_top ⟨hc, h, h⟩ hd_top
    · exact bel_veq ⟨hc, h, h⟩ (by rw [hd_var]; omega) rfl
    · rw [flat_fun, List.length_cons, List.length_append] at hn
      rw [bel_fun ⟨hc, h, h⟩, bel_refl n Γ a (by omega) hc ha, bel_refl n Γ b (by omega) hc hb]
      rfl
    · rw [flat_all, List.length_cons, List.length_append] at hn
      rw [bel_all ⟨hc, h, h⟩]
      exact bel_refl n (a :: Γ) b (by omega) ⟨ha, hc⟩ hb
    · rw [flat_rec, List.length_cons, List.length_append, List.length_append] at hn
      obtain ⟨p0, p1, p2⟩ := pt_rec hm x y z
      refine (bel_rec hm hm ⟨hc, h, h⟩).mpr (fun g hg hb => ⟨hb, ?_⟩)
      rw [hp_rec hm x y z g hg] at hb
      rcases (show g = 0 ∨ g = 1 ∨ g = 2 by omega) with rfl | rfl | rfl
      · rw [p0]; exact bel_refl n Γ x (by omega) hc (okl_on h0 (bit_iff.mp hb))
      · rw [p1]; exact bel_refl n Γ y (by omega) hc (okl_on h1 (bit_iff.mp hb))
      · rw [p2]; exact bel_refl n Γ z (by omega) hc (okl_on h2 (bit_iff.mp hb))
/-- the join of a type with itself -/
theorem gm_refl {w : Nat} {Γ : List Ty} {S : Ty} (hc : okc Γ) (h : ok Γ.length S = true) (hl : (flat S).length ≤ 16) (w2 : w ≠ 2) : gm (w, Γ, S, S) ≤ 16 ∧ gn (w, Γ, S, S) = 1 := by
  have b := bel_refl 16 Γ S hl hc h
  have tk : tok (Γ, S, S) := ⟨hc, h, h⟩
  have t1 : trx (Γ, S, S) ≤ 16 := Nat.le_trans (trf_refl _ Γ S hc h) (Nat.le_trans (nsc_len 16 S Γ.length hl h) hl)
  have g := gcs_of_bel (w := w) (Or.inl b)
  refine ⟨?_, ?_⟩
  · rw [gm_unf (z := (w, Γ, S, S)) tk w2, g, gro_bel (Or.inl b)]
    refine Nat.max_le.mpr ⟨Nat.max_le.mpr ⟨t1, t1⟩, ?_⟩
    show 0 + 0 ≤ 16
    omega
  · rw [gn_unf (z := (w, Γ, S, S)) tk w2, g, (gcs_bel1 w2 b).2.2]
    rfl
