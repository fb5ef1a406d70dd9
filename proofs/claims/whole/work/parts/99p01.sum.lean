/-! BOTH SIDES TOGETHER: rows and nodes of a join, rows of a comparison, are at most what the two sides are worth together; chains of variables do not matter. -/
def mu (v n s : Nat) (Γ : List Ty) (S : Ty) : Nat := nz 0 (fun _ => n) s (fun x => v + x) (onz 0 (fun _ => n) s (fun x => v + x) Γ) S
section PmP1
variable {v n s v' n' s' w : Nat} {Γ : List Ty} {S T : Ty}
theorem mu_top : mu v n s Γ tTop = 0 := nz_top _
theorem mu_var {k : Nat} (hc : okc Γ) (hk : k < Γ.length) : mu v n s Γ (tVar k) = v + mu v n s Γ (lft k (Γ.length - k) (bnd Γ k)) := (nz_var _ k).trans (onz_exp hc hk)
theorem mu_fun (A C : Ty) : mu v n s Γ (tFun A C) = n + (mu v n s Γ A + mu v n s Γ C) := nz_fun _ A C
theorem mu_all (A C : Ty) : mu v n s Γ (tAll A C) = s + mu v n s (A :: Γ) C := nz_all _ A C
theorem mu_rec {m : Nat} (x y z : Ty) : mu v n s Γ (tRec m x y z) = n + (mu v n s Γ x + (mu v n s Γ y + mu v n s Γ z)) := nz_rec _ x y z
/-- what is no Top is worth something on one side -/
theorem mu_one (v1 : 1 ≤ v) (v1' : 1 ≤ v') (hn : 1 ≤ n + n') (hs : n ≤ s) (hs' : n' ≤ s') (tk : tok (Γ, S, T)) (h0 : hd S ≠ 0) (h1 : hd T ≠ 0) : 1 ≤ mu v n s Γ S + mu v' n' s' Γ T := by
  have hc : okc Γ := tk.1
  have hS : ok Γ.length S = true := tk.2.1
  have hT : ok Γ.length T = true := tk.2.2
  have a : 1 ≤ mu v n s Γ S ∨ n ≤ mu v n s Γ S := by
    rcases ok_cases hS with rfl | ⟨k, hk, rfl⟩ | ⟨a, c, rfl, ha, hb⟩ | ⟨a, c, rfl, ha, hb⟩ | ⟨m, x, y, z, hm, rfl, -, -, -⟩
    · exact absurd rfl h0
    · left; rw [mu_var hc hk]; omega
    · right; rw [mu_fun]; omega
    · right; rw [mu_all]; omega
    · right; rw [mu_rec]; omega
  have b : 1 ≤ mu v' n' s' Γ T ∨ n' ≤ mu v' n' s' Γ T := by
    rcases ok_cases hT with rfl | ⟨k, hk, rfl⟩ | ⟨a, c, rfl, ha, hb⟩ | ⟨a, c, rfl, ha, hb⟩ | ⟨m, x, y, z, hm, rfl, -, -, -⟩
    · exact absurd rfl h1
    · left; rw [mu_var hc hk]; omega
    · right; rw [mu_fun]; omega
    · right; rw [mu_all]; omega
    · right; rw [mu_rec]; omega
  omega
theorem trf_sum : ∀ (f : Nat) (v n s v' n' s' : Nat) (Γ : List Ty) (S T : Ty), 1 ≤ v → 1 ≤ v' → 1 ≤ s + s' → tok (Γ, S, T) → trf f (Γ, S, T) ≤ mu v n s Γ S + mu v' n' s' Γ T
  | 0, _, _, _, _, _, _, _, _, _, _, _, _, _ => Nat.zero_le _
  | f + 1, v, n, s, v', n', s', Γ, S, T, v1, v1', hs, tk => by
    have hc : okc Γ := tk.1
    have hS : ok Γ.length S = true := tk.2.1
    have hT : ok Γ.length T = true := tk.2.2
    rcases stp_cases tk with e1 | ⟨e1, r1⟩ | ⟨k, hk, rfl, hT0, e1, r1⟩ | ⟨m, x, y, z, m', x', y', z', hm, hm', rfl, rfl, e1, r1⟩ | ⟨a, b, a', b', rfl, rfl, e1, r1⟩ | ⟨a, b, b', rfl, rfl, e1, r1⟩
    · have et : trf (f + 1) (Γ, S, T) = 0 := by
        unfold trf
        simp only [e1]
      rw [et]; exact Nat.zero_le _
    · have et : trf (f + 1) (Γ, S, T) = 0 := by
        unfold trf
        simp only [e1]
        show rst S T + 0 = 0
        omega
      rw [et]; exact Nat.zero_le _
    · have i1 := trf_sum f v n s v' n' s' Γ (lft k (Γ.length - k) (bnd Γ k)) T v1 v1' hs ⟨hc, ok_expose hc hk, hT⟩
      have et : trf (f + 1) (Γ, tVar k, T) = 1 + (trf f (Γ, lft k (Γ.length - k) (bnd Γ k), T) + 0) := by
        rw [trf]
        simp only [e1]
        rw [r1]
        rfl
      rw [et, mu_var hc hk]
      omega
    · have oS := (ok_rec hm).mp hS
      have oT := (ok_rec hm').mp hT
      have hsub : ∀ g, g < 3 → bit m' g = true → bit m g = true := by
        by_cases n6 : m &&& m' = m'
        · have := (sub_bits m hm m' hm').mp n6
          intro g hg
          rcases (show g = 0 ∨ g = 1 ∨ g = 2 by omega) with rfl | rfl | rfl
          · exact this.1
          · exact this.2.1
          · exact this.2.2
        · exfalso
          have n3 : 8 ≤ hd (tRec m x y z) ∧ 8 ≤ hd (tRec m' x' y' z') ∧ hd (tRec m' x' y' z') < 16 := by rw [hd_rec, hd_rec]; omega
          have en : stp Γ (tRec m x y z) (tRec m' x' y' z') = none := by
            unfold stp
            rw [if_neg (by rw [hd_rec, hd_rec]; omega), if_neg (by rw [hd_rec]; omega), if_pos n3, hd_rec, hd_rec, show 8 + m - 8 = m by omega, show 8 + m' - 8 = m' by omega, if_neg n6]
          rw [en] at e1
          cases e1
      have key : ∀ (g : Nat) (p p' : Ty), g < 3 → okl Γ.length m g p → okl Γ.length m' g p' → sumt (trf f) (stl Γ m' g p p') ≤ mu v n s Γ p + mu v' n' s' Γ p' := by
        intro g p p' hg hp hp'
        unfold stl
        by_cases hb1 : bit m' g = true
        · rw [if_pos hb1]
          exact trf_sum f v n s v' n' s' Γ p p' v1 v1' hs ⟨hc, okl_on hp (bit_iff.mp (hsub g hg hb1)), okl_on hp' (bit_iff.mp hb1)⟩
        · rw [if_neg hb1]
          exact Nat.zero_le _
      have k0 := key 0 x x' (by decide) oS.1 oT.1
      have k1 := key 1 y y' (by decide) oS.2.1 oT.2.1
      have k2 := key 2 z z' (by decide) oS.2.2 oT.2.2
      have et : trf (f + 1) (Γ, tRec m x y z, tRec m' x' y' z') = sumt (trf f) (stl Γ m' 2 z z') + (sumt (trf f) (stl Γ m' 1 y y') + sumt (trf f) (stl Γ m' 0 x x')) := by
        rw [trf]
        simp only [e1]
        rw [r1, sumt_app, sumt_app]
        omega
      rw [et, mu_rec, mu_rec]
      omega
    · have oS := ok_fun.mp hS
      have oT := ok_fun.mp hT
      have i1 := trf_sum f v n s v' n' s' Γ b b' v1 v1' hs ⟨hc, oS.2, oT.2⟩
      have j1 := trf_sum f v' n' s' v n s Γ a' a v1' v1 (by omega) ⟨hc, oT.1, oS.1⟩
      have et : trf (f + 1) (Γ, tFun a b, tFun a' b') = trf f (Γ, b, b') + (trf f (Γ, a', a) + 0) := by
        rw [trf]
        simp only [e1]
        rw [r1]
        show 0 + (trf f (Γ, b, b') + (trf f (Γ, a', a) + 0)) = _
        omega
      rw [et, mu_fun, mu_fun]
      omega
    · have oS := ok_all.mp hS
      have oT := ok_all.mp hT
      have i1 := trf_sum f v n s v' n' s' (a :: Γ) b b' v1 v1' hs ⟨⟨oS.1, hc⟩, oS.2, oT.2⟩
      have et : trf (f + 1) (Γ, tAll a b, tAll a b') = 1 + (trf f (a :: Γ, b, b') + 0) := by
        rw [trf]
        simp only [e1]
        rw [r1]
        rfl
      rw [et, mu_all, mu_all]
      omega
/-- rows of a comparison -/
theorem trx_sum (v1 : 1 ≤ v) (v1' : 1 ≤ v') (hs : 1 ≤ s + s') (tk : tok (Γ, S, T)) : trx (Γ, S, T) ≤ mu v n s Γ S + mu v' n' s' Γ T := trf_sum _ v n s v' n' s' Γ S T v1 v1' hs tk
theorem tru_sum (v1 : 1 ≤ v) (v1' : 1 ≤ v') (hs : 1 ≤ s + s') (tk : tok (Γ, S, T)) : tru (Γ, S, T) ≤ mu v n s Γ S + mu v' n' s' Γ T := by
  have a : trx (Γ, S, T) ≤ mu v n s Γ S + mu v' n' s' Γ T := trx_sum v1 v1' hs tk
  have b : trx (Γ, T, S) ≤ mu v' n' s' Γ T + mu v n s Γ S := trx_sum v1' v1 (by omega) ⟨tk.1, tk.2.2, tk.2.1⟩
  show max (trx (Γ, S, T)) (trx (Γ, T, S)) ≤ _
  omega
/-- the goals of two records -/
theorem gzl_s {f : Gz → Nat} {g g' : Ty → Nat} {m m' i : Nat} {X Y : Ty} (hm : m < 8) (hm' : m' < 8) (hi : i < 3) (w2 : w ≠ 2) (f2 : ∀ z : Gz, z.1 = 2 → f z = 0) (hf : bit m i = true → bit m' i = true → f (w, Γ, X, Y) ≤ g X + g' Y) : sgl f (gzl w Γ (lset w m m') m m' i X Y) ≤ g X + g' Y := by
  rcases gzl_cases (W := w) (Γ := Γ) (X := X) (Y := Y) (lset_in w m hm m' hm' i hi) with ⟨h1, h2, h3, e⟩ | ⟨h1, h2, h3, e⟩ | ⟨h1, h2, h3, e⟩ | ⟨h1, e⟩
  · rw [e]
    exact hf h2 h3
  · rw [e]
    show f (2, Γ, _, _) + 0 ≤ _
    rw [f2 _ rfl]; exact Nat.zero_le _
  · rw [e]
    show f (2, Γ, _, _) + 0 ≤ _
    rw [f2 _ rfl]; exact Nat.zero_le _
  · rw [e]; exact Nat.zero_le _
theorem gmf_sum (v1 : 1 ≤ v) (v1' : 1 ≤ v') (hn : 1 ≤ n + n') (hs0 : n ≤ s) (hs0' : n' ≤ s') (hs : 2 ≤ s + s') : ∀ (f : Nat) (w : Nat) (Γ : List Ty) (S T : Ty), w ≤ 1 → tok (Γ, S, T) → gmf f (w, Γ, S, T) ≤ mu v n s Γ S + mu v' n' s' Γ T
  | 0, _, _, _, _, _, _ => Nat.zero_le _
  | f + 1, w, Γ, S, T, w3, tk => by
    have w2 : w ≠ 2 := by omega
    have hc : okc Γ := tk.1
    have hS : ok Γ.length S = true := tk.2.1
    have hT : ok Γ.length T = true := tk.2.2
    have tu : tru (Γ, S, T) ≤ mu v n s Γ S + mu v' n' s' Γ T := tru_sum v1 v1' (by omega) tk
    have ih := gmf_sum v1 v1' hn hs0 hs0' hs f
    suffices h : gro (w, Γ, S, T) + sgl (gmf f) (gcs (w, Γ, S, T)) ≤ mu v n s Γ S + mu v' n' s' Γ T by
      show (if w = 2 then 0 else max (tru (Γ, S, T)) (gro (w, Γ, S, T) + sgl (gmf f) (gcs (w, Γ, S, T)))) ≤ _
      rw [if_neg w2]
      omega
    by_cases bl : bel Γ S T = true ∨ bel Γ T S = true
    · rw [gcs_of_bel bl, gro_bel bl]; exact Nat.zero_le _
    have h0 : hd S ≠ 0 := fun e => bl (Or.inr (bel_top ⟨hc, hT, hS⟩ e))
    have h1 : hd T ≠ 0 := fun e => bl (Or.inl (bel_top tk e))
    have one := mu_one (v := v) (n := n) (s := s) (v' := v') (n' := n') (s' := s') v1 v1' hn hs0 hs0' tk h0 h1
    rcases gcs_cases (w := w) tk w2 with ⟨g1, g2, g3⟩ | ⟨w1, k, hk, rfl, g1, g2, g3⟩ | ⟨w1, n1, k, hk, rfl, g1, g2, g3⟩ | ⟨m, X0, X1, X2, m', Y0, Y1, Y2, hm, hm', rfl, rfl, g1, g2, g3⟩ | ⟨A, C, A', C', rfl, rfl, g1, g2, g3⟩ | ⟨A, C, C', rfl, rfl, g1, g2, g3⟩
    · rw [g1]
      show gro (w, Γ, S, T) + 0 ≤ _
      omega
    · have q := ih w Γ (lft k (Γ.length - k) (bnd Γ k)) T w3 ⟨hc, ok_expose hc hk, hT⟩
      rw [g1, g2, mu_var hc hk]
      show 1 + (gmf f (w, Γ, lft k (Γ.length - k) (bnd Γ k), T) + 0) ≤ _
      omega
    · have q := ih w Γ S (lft k (Γ.length - k) (bnd Γ k)) w3 ⟨hc, hS, ok_expose hc hk⟩
      rw [g1, g2, mu_var hc hk]
      show 1 + (gmf f (w, Γ, S, lft k (Γ.length - k) (bnd Γ k)) + 0) ≤ _
      omega
    · have oS := (ok_rec hm).mp hS
      have oT := (ok_rec hm').mp hT
      rw [g1, g2, sgl_app, sgl_app, mu_rec, mu_rec]
      have f2 : ∀ z : Gz, z.1 = 2 → gmf f z = 0 := fun z h => gmf_two f h
      have k0 := gzl_s (w := w) (f := gmf f) (g := mu v n s Γ) (g' := mu v' n' s' Γ) (Γ := Γ) (X := X0) (Y := Y0) hm hm' (show 0 < 3 by decide) w2 f2 (fun b1 b2 => ih w Γ X0 Y0 w3 ⟨hc, okl_on oS.1 (bit_iff.mp b1), okl_on oT.1 (bit_iff.mp b2)⟩)
      have k1 := gzl_s (w := w) (f := gmf f) (g := mu v n s Γ) (g' := mu v' n' s' Γ) (Γ := Γ) (X := X1) (Y := Y1) hm hm' (show 1 < 3 by decide) w2 f2 (fun b1 b2 => ih w Γ X1 Y1 w3 ⟨hc, okl_on oS.2.1 (bit_iff.mp b1), okl_on oT.2.1 (bit_iff.mp b2)⟩)
      have k2 := gzl_s (w := w) (f := gmf f) (g := mu v n s Γ) (g' := mu v' n' s' Γ) (Γ := Γ) (X := X2) (Y := Y2) hm hm' (show 2 < 3 by decide) w2 f2 (fun b1 b2 => ih w Γ X2 Y2 w3 ⟨hc, okl_on oS.2.2 (bit_iff.mp b1), okl_on oT.2.2 (bit_iff.mp b2)⟩)
      omega
    · have oS := ok_fun.mp hS
      have oT := ok_fun.mp hT
      have q1 := ih (1 - w) Γ A A' (by omega) ⟨hc, oS.1, oT.1⟩
      have q2 := ih w Γ C C' w3 ⟨hc, oS.2, oT.2⟩
      rw [g1, g2, mu_fun, mu_fun]
      show 1 + (gmf f (1 - w, Γ, A, A') + (gmf f (w, Γ, C, C') + 0)) ≤ _
      omega
    · have oS := ok_all.mp hS
      have oT := ok_all.mp hT
      have q2 := ih w (A :: Γ) C C' w3 ⟨⟨oS.1, hc⟩, oS.2, oT.2⟩
      rw [g1, g2, mu_all, mu_all]
      show 2 + (gmf f (w, A :: Γ, C, C') + 0) ≤ _
      omega
/-- rows of a join -/
theorem gm_sum (v1 : 1 ≤ v) (v1' : 1 ≤ v') (hn : 1 ≤ n + n') (hs0 : n ≤ s) (hs0' : n' ≤ s') (hs : 2 ≤ s + s') (w3 : w ≤ 1) (tk : tok (Γ, S, T)) : gm (w, Γ, S, T) ≤ mu v n s Γ S + mu v' n' s' Γ T := gmf_sum v1 v1' hn hs0 hs0' hs _ w Γ S T w3 tk
theorem nbf_sum (hn : 1 ≤ n + n') (hs0 : n ≤ s) (hs0' : n' ≤ s') (hs : 2 ≤ s + s') : ∀ (f : Nat) (w : Nat) (Γ : List Ty) (S T : Ty), w ≤ 1 → tok (Γ, S, T) → nbf f (w, Γ, S, T) ≤ mu 16 n s Γ S + mu 16 n' s' Γ T
  | 0, _, _, _, _, _, _ => Nat.zero_le _
  | f + 1, w, Γ, S, T, w3, tk => by
    have w2 : w ≠ 2 := by omega
    have hc : okc Γ := tk.1
    have hS : ok Γ.length S = true := tk.2.1
    have hT : ok Γ.length T = true := tk.2.2
    have ih := nbf_sum hn hs0 hs0' hs f
    show (if w = 2 then 0 else nbo (w, Γ, S, T) + sgl (nbf f) (gcs (w, Γ, S, T))) ≤ _
    rw [if_neg w2]
    rcases gcs_cases (w := w) tk w2 with ⟨g1, g2, g3⟩ | ⟨w1, k, hk, rfl, g1, g2, g3⟩ | ⟨w1, n1, k, hk, rfl, g1, g2, g3⟩ | ⟨m, X0, X1, X2, m', Y0, Y1, Y2, hm, hm', rfl, rfl, g1, g2, g3⟩ | ⟨A, C, A', C', rfl, rfl, g1, g2, g3⟩ | ⟨A, C, C', rfl, rfl, g1, g2, g3⟩
    · rw [g1]
      have g4 : nbo (w, Γ, S, T) = gro (w, Γ, S, T) := by unfold nbo; rw [g3, if_neg (by decide)]
      show nbo (w, Γ, S, T) + 0 ≤ _
      rw [g4]
      by_cases bl : bel Γ S T = true ∨ bel Γ T S = true
      · rw [gro_bel bl]; exact Nat.zero_le _
      have h0 : hd S ≠ 0 := fun e => bl (Or.inr (bel_top ⟨hc, hT, hS⟩ e))
      have h1 : hd T ≠ 0 := fun e => bl (Or.inl (bel_top tk e))
      have one := mu_one (v := 16) (n := n) (s := s) (v' := 16) (n' := n') (s' := s') (by decide) (by decide) hn hs0 hs0' tk h0 h1
      omega
    · have g4 : nbo (w, Γ, tVar k, T) = 16 := by unfold nbo; rw [g3, if_pos rfl]
      have q := ih w Γ (lft k (Γ.length - k) (bnd Γ k)) T w3 ⟨hc, ok_expose hc hk, hT⟩
      rw [g1, g4, mu_var hc hk]
      show 16 + (nbf f (w, Γ, lft k (Γ.length - k) (bnd Γ k), T) + 0) ≤ _
      omega
    · have g4 : nbo (w, Γ, S, tVar k) = 16 := by unfold nbo; rw [g3, if_pos rfl]
      have q := ih w Γ S (lft k (Γ.length - k) (bnd Γ k)) w3 ⟨hc, hS, ok_expose hc hk⟩
      rw [g1, g4, mu_var hc hk]
      show 16 + (nbf f (w, Γ, S, lft k (Γ.length - k) (bnd Γ k)) + 0) ≤ _
      omega
    · have oS := (ok_rec hm).mp hS
      have oT := (ok_rec hm').mp hT
      have g4 : nbo (w, Γ, tRec m X0 X1 X2, tRec m' Y0 Y1 Y2) = 1 := by unfold nbo; rw [g3, if_neg (by decide), g2]
      rw [g1, g4, sgl_app, sgl_app, mu_rec, mu_rec]
      have f2 : ∀ z : Gz, z.1 = 2 → nbf f z = 0 := fun z h => nbf_two f h
      have k0 := gzl_s (w := w) (f := nbf f) (g := mu 16 n s Γ) (g' := mu 16 n' s' Γ) (Γ := Γ) (X := X0) (Y := Y0) hm hm' (show 0 < 3 by decide) w2 f2 (fun b1 b2 => ih w Γ X0 Y0 w3 ⟨hc, okl_on oS.1 (bit_iff.mp b1), okl_on oT.1 (bit_iff.mp b2)⟩)
      have k1 := gzl_s (w := w) (f := nbf f) (g := mu 16 n s Γ) (g' := mu 16 n' s' Γ) (Γ := Γ) (X := X1) (Y := Y1) hm hm' (show 1 < 3 by decide) w2 f2 (fun b1 b2 => ih w Γ X1 Y1 w3 ⟨hc, okl_on oS.2.1 (bit_iff.mp b1), okl_on oT.2.1 (bit_iff.mp b2)⟩)
      have k2 := gzl_s (w := w) (f := nbf f) (g := mu 16 n s Γ) (g' := mu 16 n' s' Γ) (Γ := Γ) (X := X2) (Y := Y2) hm hm' (show 2 < 3 by decide) w2 f2 (fun b1 b2 => ih w Γ X2 Y2 w3 ⟨hc, okl_on oS.2.2 (bit_iff.mp b1), okl_on oT.2.2 (bit_iff.mp b2)⟩)
      omega
    · have oS := ok_fun.mp hS
      have oT := ok_fun.mp hT
      have g4 : nbo (w, Γ, tFun A C, tFun A' C') = 1 := by unfold nbo; rw [g3, if_neg (by decide), g2]
      have q1 := ih (1 - w) Γ A A' (by omega) ⟨hc, oS.1, oT.1⟩
      have q2 := ih w Γ C C' w3 ⟨hc, oS.2, oT.2⟩
      rw [g1, g4, mu_fun, mu_fun]
      show 1 + (nbf f (1 - w, Γ, A, A') + (nbf f (w, Γ, C, C') + 0)) ≤ _
      omega
    · have oS := ok_all.mp hS
      have oT := ok_all.mp hT
      have g4 : nbo (w, Γ, tAll A C, tAll A C') = 2 := by unfold nbo; rw [g3, if_neg (by decide), g2]
      have q2 := ih w (A :: Γ) C C' w3 ⟨⟨oS.1, hc⟩, oS.2, oT.2⟩
      rw [g1, g4, mu_all, mu_all]
      show 2 + (nbf f (w, A :: Γ, C, C') + 0) ≤ _
      omega
/-- nodes that the class makes for a join -/
theorem nbm_sum (hn : 1 ≤ n + n') (hs0 : n ≤ s) (hs0' : n' ≤ s') (hs : 2 ≤ s + s') (w3 : w ≤ 1) (tk : tok (Γ, S, T)) : nbm w Γ S T ≤ mu 16 n s Γ S + mu 16 n' s' Γ T := nbf_sum hn hs0 hs0' hs _ w Γ S T w3 tk
end PmP1
