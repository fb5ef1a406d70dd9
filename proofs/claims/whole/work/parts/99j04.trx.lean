/-! ROWS OF A COMPARISON ARE AT MOST WHAT EITHER SIDE HAS. -/
def qu (e : Nat) (d : Bool) (i : Nat) : Nat := if d then (if i = 2 ∨ i = 3 then 1 else 0) else (if i = 1 ∨ i = 4 then e else if i = 2 then 1 + e else 0)
/-- two types in a place where all chains are short -/
def TB (e : Nat) (z : Tsk) : Prop := tok z ∧ cbc e z.1 ∧ cbd e (cl z.1) z.2.1 ∧ cbd e (cl z.1) z.2.2
theorem qu_neg {e : Nat} {ω : List Nat} {D : Nat} {t : Ty} (h : ok D t = true) (h0 : hd t ≠ 0) : e ≤ pmz (qu e) false ω t := by
  rcases ok_cases h with rfl | ⟨k, hk, rfl⟩ | ⟨a, b, rfl, -, -⟩ | ⟨a, b, rfl, -, -⟩ | ⟨m, x, y, z, -, rfl, -, -, -⟩
  · exact absurd rfl h0
  · rw [pmz_vf]; exact Nat.le_refl _
  · rw [pmz_fun]
    show e ≤ e + _
    omega
  · rw [pmz_all]
    show e ≤ 1 + e + _
    omega
  · rw [pmz_rec]
    show e ≤ (e + 0 * mis m) + _
    omega
theorem chn_le {e : Nat} {Γ : List Ty} {S : Ty} (hc : okc Γ) (hb : cbc e Γ) (hS : ok Γ.length S = true) : chn (cl Γ) S ≤ e := by
  unfold chn
  split
  · rename_i h
    obtain ⟨k, hk, rfl⟩ := hd_is_var hS h
    rw [hd_var, show 16 + k - 16 = k by omega]
    exact (cl_expose hc hb hk).2.2
  · exact Nat.zero_le _
theorem trf_top (f : Nat) {Γ : List Ty} {S T : Ty} (h0 : hd T = 0) : trf f (Γ, S, T) = 0 := by
  cases f with
  | zero => rfl
  | succ f =>
    have e : stp Γ S T = some [] := by unfold stp; rw [if_pos (Or.inl h0)]
    unfold trf
    simp only [e]
    have r : rst S T = 0 := by unfold rst; rw [if_pos (Or.inl h0)]
    show rst S T + 0 = 0
    omega
theorem trf_two {e : Nat} : ∀ (f : Nat) (Γ : List Ty) (S T : Ty), TB e (Γ, S, T) → trf f (Γ, S, T) ≤ pmz (qu e) true (oq (qu e) Γ) S ∧ (hd T ≠ 0 → trf f (Γ, S, T) + e ≤ chn (cl Γ) S + pmz (qu e) false (oq (qu e) Γ) T)
  | 0, Γ, S, T, h => by
    refine ⟨Nat.zero_le _, fun h0 => ?_⟩
    have this : e ≤ pmz (qu e) false (oq (qu e) Γ) T := qu_neg (show ok Γ.length T = true from h.1.2.2) h0
    show 0 + e ≤ _
    omega
  | f + 1, Γ, S, T, h => by
    obtain ⟨tk, hb, bS, bT⟩ := h
    have hb : cbc e Γ := hb
    have bS : cbd e (cl Γ) S := bS
    have bT : cbd e (cl Γ) T := bT
    have hc : okc Γ := tk.1
    have hS : ok Γ.length S = true := tk.2.1
    have hT : ok Γ.length T = true := tk.2.2
    have side : ∀ (Δ : List Ty) (A B : Ty), TB e (Δ, A, B) → trf f (Δ, A, B) ≤ pmz (qu e) false (oq (qu e) Δ) B := by
      intro Δ A B hz
      by_cases h0 : hd B = 0
      · rw [trf_top f h0]; exact Nat.zero_le _
      · have a1 := (trf_two f Δ A B hz).2 h0
        have a2 := chn_le hz.1.1 hz.2.1 hz.1.2.1
        have a2 : chn (cl Δ) A ≤ e := a2
        omega
    have zero : trf (f + 1) (Γ, S, T) = 0 → trf (f + 1) (Γ, S, T) ≤ pmz (qu e) true (oq (qu e) Γ) S ∧ (hd T ≠ 0 → trf (f + 1) (Γ, S, T) + e ≤ chn (cl Γ) S + pmz (qu e) false (oq (qu e) Γ) T) := by
      intro e0
      rw [e0]
      refine ⟨Nat.zero_le _, fun h0 => ?_⟩
      have := qu_neg (e := e) (ω := oq (qu e) Γ) hT h0
      omega
    rcases stp_cases tk with e1 | ⟨e1, r1⟩ | ⟨k, hk, rfl, hT0, e1, r1⟩ | ⟨m, x, y, z, m', x', y', z', hm, hm', rfl, rfl, e1, r1⟩ | ⟨a, b, a', b', rfl, rfl, e1, r1⟩ | ⟨a, b, b', rfl, rfl, e1, r1⟩
    · refine zero ?_
      unfold trf
      simp only [e1]
    · refine zero ?_
      unfold trf
      simp only [e1]
      show rst S T + 0 = 0
      omega
    · obtain ⟨c1, c2, c3⟩ := cl_expose hc hb hk
      have i1 := trf_two f Γ (lft k (Γ.length - k) (bnd Γ k)) T ⟨⟨hc, ok_expose hc hk, hT⟩, hb, c2, bT⟩
      have ex := pmz_expose (qu e) hc hk
      have q3 : qu e true 3 = 1 := rfl
      have ev : chn (cl Γ) (tVar k) = vw (cl Γ) k := by
        unfold chn
        rw [hd_var, if_pos (by omega), show 16 + k - 16 = k by omega]
      have et : trf (f + 1) (Γ, tVar k, T) = 1 + (trf f (Γ, lft k (Γ.length - k) (bnd Γ k), T) + 0) := by
        rw [trf]
        simp only [e1]
        rw [r1]
        rfl
      rw [et, pmz_vt, ev]
      refine ⟨by have := i1.1; omega, fun h0 => ?_⟩
      have := i1.2 h0
      omega
    · have oS := (ok_rec hm).mp hS
      have oT := (ok_rec hm').mp hT
      have dS := (cbd_rec _ _ _ _).mp bS
      have dT := (cbd_rec _ _ _ _).mp bT
      have hsub : ∀ g, g < 3 → bit m' g = true → bit m g = true := by
        by_cases n6 : m &&& m' = m'
        · have := (sub_bits m hm m' hm').mp n6
          intro g hg
          rcases (show g = 0 ∨ g = 1 ∨ g = 2 by omega) with rfl | rfl | rfl
          · exact this.1
          · exact this.2.1
          · exact this.2.2
        · exfalso
          have n3 : 8 ≤ hd (tRec m x y z) ∧ 8 ≤ hd (tRec m' x' y' z') ∧ hd (tRec m' x' y' z') < 16 := by rw [hd_rec, hd_rec]; omega
          have en : stp Γ (tRec m x y z) (tRec m' x' y' z') = none := by
            unfold stp
            rw [if_neg (by rw [hd_rec, hd_rec]; omega), if_neg (by rw [hd_rec]; omega), if_pos n3, hd_rec, hd_rec, show 8 + m - 8 = m by omega, show 8 + m' - 8 = m' by omega, if_neg n6]
          rw [en] at e1
          cases e1
      have key : ∀ (g : Nat) (p p' : Ty), g < 3 → okl Γ.length m g p → okl Γ.length m' g p' → cbd e (cl Γ) p → cbd e (cl Γ) p' → sumt (trf f) (stl Γ m' g p p') ≤ pmz (qu e) true (oq (qu e) Γ) p ∧ sumt (trf f) (stl Γ m' g p p') ≤ pmz (qu e) false (oq (qu e) Γ) p' := by
        intro g p p' hg hp hp' bp bp'
        unfold stl
        by_cases hb1 : bit m' g = true
        · rw [if_pos hb1]
          have tb : TB e (Γ, p, p') := ⟨⟨hc, okl_on hp (bit_iff.mp (hsub g hg hb1)), okl_on hp' (bit_iff.mp hb1)⟩, hb, bp, bp'⟩
          have i1 := (trf_two f Γ p p' tb).1
          have i2 := side Γ p p' tb
          show trf f (Γ, p, p') + 0 ≤ _ ∧ trf f (Γ, p, p') + 0 ≤ _
          omega
        · rw [if_neg hb1]
          exact ⟨Nat.zero_le _, Nat.zero_le _⟩
      have k0 := key 0 x x' (by decide) oS.1 oT.1 dS.1 dT.1
      have k1 := key 1 y y' (by decide) oS.2.1 oT.2.1 dS.2.1 dT.2.1
      have k2 := key 2 z z' (by decide) oS.2.2 oT.2.2 dS.2.2 dT.2.2
      have et : trf (f + 1) (Γ, tRec m x y z, tRec m' x' y' z') = sumt (trf f) (stl Γ m' 2 z z') + (sumt (trf f) (stl Γ m' 1 y y') + sumt (trf f) (stl Γ m' 0 x x')) := by
        rw [trf]
        simp only [e1]
        rw [r1, sumt_app, sumt_app]
        omega
      have p1 : pmz (qu e) true (oq (qu e) Γ) (tRec m x y z) = (0 + 0 * mis m) + (pmz (qu e) true (oq (qu e) Γ) x + (pmz (qu e) true (oq (qu e) Γ) y + pmz (qu e) true (oq (qu e) Γ) z)) := pmz_rec _ _ _ _
      have p2 : pmz (qu e) false (oq (qu e) Γ) (tRec m' x' y' z') = (e + 0 * mis m') + (pmz (qu e) false (oq (qu e) Γ) x' + (pmz (qu e) false (oq (qu e) Γ) y' + pmz (qu e) false (oq (qu e) Γ) z')) := pmz_rec _ _ _ _
      rw [et, p1, p2]
      exact ⟨by omega, fun _ => by omega⟩
    · have oS := ok_fun.mp hS
      have oT := ok_fun.mp hT
      have dS := (cbd_fun _ _ _).mp bS
      have dT := (cbd_fun _ _ _).mp bT
      have t1 : TB e (Γ, b, b') := ⟨⟨hc, oS.2, oT.2⟩, hb, dS.2, dT.2⟩
      have t2 : TB e (Γ, a', a) := ⟨⟨hc, oT.1, oS.1⟩, hb, dT.1, dS.1⟩
      have i1 := (trf_two f Γ b b' t1).1
      have i2 := side Γ b b' t1
      have j1 := (trf_two f Γ a' a t2).1
      have j2 := side Γ a' a t2
      have et : trf (f + 1) (Γ, tFun a b, tFun a' b') = trf f (Γ, b, b') + (trf f (Γ, a', a) + 0) := by
        rw [trf]
        simp only [e1]
        rw [r1]
        show 0 + (trf f (Γ, b, b') + (trf f (Γ, a', a) + 0)) = _
        omega
      have p1 : pmz (qu e) true (oq (qu e) Γ) (tFun a b) = 0 + (pmz (qu e) false (oq (qu e) Γ) a + pmz (qu e) true (oq (qu e) Γ) b) := pmz_fun _ _ _
      have p2 : pmz (qu e) false (oq (qu e) Γ) (tFun a' b') = e + (pmz (qu e) true (oq (qu e) Γ) a' + pmz (qu e) false (oq (qu e) Γ) b') := pmz_fun _ _ _
      rw [et, p1, p2]
      exact ⟨by omega, fun _ => by omega⟩
    · have oS := ok_all.mp hS
      have oT := ok_all.mp hT
      have dS := (cbd_all _ _ _).mp bS
      have dT := (cbd_all _ _ _).mp bT
      have t1 : TB e (a :: Γ, b, b') := ⟨⟨⟨oS.1, hc⟩, oS.2, oT.2⟩, ⟨⟨dS.1, dS.2.1⟩, hb⟩, dS.2.2, dT.2.2⟩
      have i1 := (trf_two f (a :: Γ) b b' t1).1
      have i2 := side (a :: Γ) b b' t1
      have et : trf (f + 1) (Γ, tAll a b, tAll a b') = 1 + (trf f (a :: Γ, b, b') + 0) := by
        rw [trf]
        simp only [e1]
        rw [r1]
        rfl
      have p1 : pmz (qu e) true (oq (qu e) Γ) (tAll a b) = 1 + pmz (qu e) true (oq (qu e) (a :: Γ)) b := pmz_all _ _ _
      have p2 : pmz (qu e) false (oq (qu e) Γ) (tAll a b') = (1 + e) + pmz (qu e) false (oq (qu e) (a :: Γ)) b' := pmz_all _ _ _
      rw [et, p1, p2]
      exact ⟨by omega, fun _ => by omega⟩
theorem trx_S {e : Nat} {Γ : List Ty} {S T : Ty} (h : TB e (Γ, S, T)) : trx (Γ, S, T) ≤ pmz (qu e) true (oq (qu e) Γ) S := (trf_two _ Γ S T h).1
theorem trx_T {e : Nat} {Γ : List Ty} {S T : Ty} (h : TB e (Γ, S, T)) : trx (Γ, S, T) ≤ pmz (qu e) false (oq (qu e) Γ) T := by
  by_cases h0 : hd T = 0
  · exact Nat.le_trans (Nat.le_of_eq (trf_top _ h0)) (Nat.zero_le _)
  · have a1 := (trf_two (twt (Γ, S, T)) Γ S T h).2 h0
    have a2 := chn_le h.1.1 h.2.1 h.1.2.1
    have a2 : chn (cl Γ) S ≤ e := a2
    have a1 : trx (Γ, S, T) + e ≤ chn (cl Γ) S + pmz (qu e) false (oq (qu e) Γ) T := a1
    omega
