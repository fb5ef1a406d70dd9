/-! NODES THAT A JOIN MAKES, by either side: sixteen an exposure. -/
def vbl (b : Bool) (e x : Nat) : Nat := if b then max (16 * e) (16 + x) else 16 + max (16 * e) x
def Nb (b : Bool) (e : Nat) (Γ : List Ty) (S : Ty) : Nat := nz 0 (fun _ => 1 + 16 * e) (2 + 16 * e) (vbl b e) (onz 0 (fun _ => 1 + 16 * e) (2 + 16 * e) (vbl b e) Γ) S
section PmM3
variable {t0 s2 : Nat} {n1 h : Nat → Nat}
theorem onz_bd : ∀ (Γ : List Ty) (k : Nat), okc Γ → k < Γ.length → ∃ ν ω : List Nat, onz t0 n1 s2 h Γ = ν ++ ω ∧ ω.length = k ∧ ok k (bnd Γ k) = true ∧ vw (onz t0 n1 s2 h Γ) k = h (nz t0 n1 s2 h ω (bnd Γ k))
  | [], _, _, hk => absurd hk (Nat.not_lt_zero _)
  | s :: Γ, k, hc, hk => by
    by_cases c : k = Γ.length
    · refine ⟨[h (nz t0 n1 s2 h (onz t0 n1 s2 h Γ) s)], onz t0 n1 s2 h Γ, rfl, by rw [onz_len, c], ?_, ?_⟩
      · show ok k (if k = Γ.length then s else _) = true
        rw [if_pos c, c]; exact hc.1
      · show (if k = (onz t0 n1 s2 h Γ).length then _ else _) = h (nz t0 n1 s2 h _ (if k = Γ.length then s else _))
        rw [onz_len, if_pos c, if_pos c]
    · obtain ⟨ν, ω, e1, e2, e3, e4⟩ := onz_bd Γ k hc.2 (by rw [List.length_cons] at hk; omega)
      refine ⟨h (nz t0 n1 s2 h (onz t0 n1 s2 h Γ) s) :: ν, ω, ?_, e2, ?_, ?_⟩
      · show h (nz t0 n1 s2 h (onz t0 n1 s2 h Γ) s) :: onz t0 n1 s2 h Γ = _
        rw [e1]; rfl
      · show ok k (if k = Γ.length then s else bnd Γ k) = true
        rw [if_neg c]; exact e3
      · show (if k = (onz t0 n1 s2 h Γ).length then _ else vw (onz t0 n1 s2 h Γ) k) = h (nz t0 n1 s2 h ω (if k = Γ.length then s else bnd Γ k))
        rw [onz_len, if_neg c, if_neg c]; exact e4
theorem onz_exp {Γ : List Ty} {k : Nat} (hc : okc Γ) (hk : k < Γ.length) : vw (onz t0 n1 s2 h Γ) k = h (nz t0 n1 s2 h (onz t0 n1 s2 h Γ) (lft k (Γ.length - k) (bnd Γ k))) := by
  obtain ⟨ν, ω, e1, e2, e3, e4⟩ := onz_bd (t0 := t0) (n1 := n1) (s2 := s2) (h := h) Γ k hc hk
  subst e2
  have hl : ν.length = Γ.length - ω.length := by
    have := onz_len t0 n1 s2 h Γ
    rw [e1, List.length_append] at this
    omega
  rw [e4, e1, ← hl]
  have q := nz_lft (t0 := t0) (n1 := n1) (s2 := s2) (h := h) ν ω _ (bnd Γ ω.length) [] (Nat.le_refl _) (by simpa using e3)
  rw [List.nil_append, List.nil_append] at q
  rw [q]
end PmM3
section PmM3b
variable {b : Bool} {e w : Nat} {Γ : List Ty} {S T : Ty}
theorem Nb_top : Nb b e Γ tTop = 0 := nz_top _
theorem Nb_var {k : Nat} (hc : okc Γ) (hk : k < Γ.length) : Nb b e Γ (tVar k) = vbl b e (Nb b e Γ (lft k (Γ.length - k) (bnd Γ k))) := (nz_var _ k).trans (onz_exp hc hk)
theorem Nb_fun (A C : Ty) : Nb b e Γ (tFun A C) = (1 + 16 * e) + (Nb b e Γ A + Nb b e Γ C) := nz_fun _ A C
theorem Nb_all (A C : Ty) : Nb b e Γ (tAll A C) = (2 + 16 * e) + Nb b e (A :: Γ) C := nz_all _ A C
theorem Nb_rec {m : Nat} (x y z : Ty) : Nb b e Γ (tRec m x y z) = (1 + 16 * e) + (Nb b e Γ x + (Nb b e Γ y + Nb b e Γ z)) := nz_rec _ x y z
theorem Nb_big (e1 : 1 ≤ e) (hc : okc Γ) (o : ok Γ.length S = true) (h0 : hd S ≠ 0) : 16 * e + 1 ≤ Nb b e Γ S + (if 16 ≤ hd S ∧ b = true then 1 else 0) := by
  rcases ok_cases o with rfl | ⟨k, hk, rfl⟩ | ⟨a, c, rfl, ha, hb⟩ | ⟨a, c, rfl, ha, hb⟩ | ⟨m, x, y, z, hm, rfl, -, -, -⟩
  · exact absurd rfl h0
  · rw [Nb_var hc hk]
    cases b with
    | true =>
      rw [if_pos ⟨by rw [hd_var]; omega, rfl⟩]
      show 16 * e + 1 ≤ max (16 * e) _ + 1
      omega
    | false =>
      show 16 * e + 1 ≤ (16 + max (16 * e) _) + _
      omega
  · rw [Nb_fun]; omega
  · rw [Nb_all]; omega
  · rw [Nb_rec]; omega
/-- what is left to pay -/
def phS (e : Nat) (z : Gz) : Nat := if hd z.2.2.1 = 0 then 0 else if 16 ≤ hd z.2.2.1 then Nb true e z.2.1 z.2.2.1 else Nb true e z.2.1 z.2.2.1 - 16 * e + 16 * chn (cl z.2.1) z.2.2.2
def phT (e : Nat) (z : Gz) : Nat := if hd z.2.2.2 = 0 then 0 else Nb false e z.2.1 z.2.2.2 - 16 * e + 16 * chn (cl z.2.1) z.2.2.1
theorem phS_le (e1 : 1 ≤ e) (tb : TB e (Γ, S, T)) : phS e (w, Γ, S, T) ≤ Nb true e Γ S := by
  have lo : chn (cl Γ) T ≤ e := chn_le tb.1.1 tb.2.1 tb.1.2.2
  show (if hd S = 0 then 0 else if 16 ≤ hd S then Nb true e Γ S else Nb true e Γ S - 16 * e + 16 * chn (cl Γ) T) ≤ _
  by_cases h0 : hd S = 0
  · rw [if_pos h0]; exact Nat.zero_le _
  · rw [if_neg h0]
    by_cases h1 : 16 ≤ hd S
    · rw [if_pos h1]; exact Nat.le_refl _
    · rw [if_neg h1]
      have := Nb_big (b := true) (Γ := Γ) e1 tb.1.1 (show ok Γ.length S = true from tb.1.2.1) h0
      rw [if_neg (by omega)] at this
      omega
theorem phT_le (e1 : 1 ≤ e) (tb : TB e (Γ, S, T)) : phT e (w, Γ, S, T) ≤ Nb false e Γ T := by
  have lo : chn (cl Γ) S ≤ e := chn_le tb.1.1 tb.2.1 tb.1.2.1
  show (if hd T = 0 then 0 else Nb false e Γ T - 16 * e + 16 * chn (cl Γ) S) ≤ _
  by_cases h0 : hd T = 0
  · rw [if_pos h0]; exact Nat.zero_le _
  · rw [if_neg h0]
    have := Nb_big (b := false) (Γ := Γ) e1 tb.1.1 (show ok Γ.length T = true from tb.1.2.2) h0
    rw [if_neg (by simp)] at this
    omega
theorem nbf_S (e1 : 1 ≤ e) : ∀ (f : Nat) (z : Gz), TB e z.2 → z.1 ≤ 1 → nbf f z ≤ phS e z
  | 0, _, _, _ => Nat.zero_le _
  | f + 1, (w, Γ, S, T), tb, w3 => by
    have w3 : w ≤ 1 := w3
    have w2 : w ≠ 2 := by omega
    have tb : TB e (Γ, S, T) := tb
    have tk : tok (Γ, S, T) := tb.1
    have hb : cbc e Γ := tb.2.1
    have hc : okc Γ := tk.1
    have hS : ok Γ.length S = true := tk.2.1
    have hT : ok Γ.length T = true := tk.2.2
    have kids := tb.gcs w2 (by omega)
    have ih := fun (w' : Nat) (Γ' : List Ty) (S' T' : Ty) (h : TB e (Γ', S', T')) (h1 : w' ≤ 1) => Nat.le_trans (nbf_S e1 f (w', Γ', S', T') h h1) (phS_le e1 h)
    show (if w = 2 then 0 else nbo (w, Γ, S, T) + sgl (nbf f) (gcs (w, Γ, S, T))) ≤ (if hd S = 0 then 0 else if 16 ≤ hd S then Nb true e Γ S else Nb true e Γ S - 16 * e + 16 * chn (cl Γ) T)
    rw [if_neg w2]
    by_cases h0 : hd S = 0
    · have bl : bel Γ T S = true := bel_top ⟨hc, hT, hS⟩ h0
      have g1 := gcs_of_bel (w := w) (Γ := Γ) (S := S) (T := T) (Or.inr bl)
      have g2 := gro_bel (w := w) (Γ := Γ) (S := S) (T := T) (Or.inr bl)
      have g3 : nbo (w, Γ, S, T) = 0 := by
        unfold nbo
        rcases gcs_cases (w := w) tk w2 with ⟨-, -, e⟩ | ⟨-, k, -, -, -, e1, e⟩ | ⟨-, -, k, -, -, -, e1, e⟩ | ⟨m, X0, X1, X2, m', Y0, Y1, Y2, -, -, -, -, -, e1, e⟩ | ⟨A, C, A', C', -, -, -, e1, e⟩ | ⟨A, C, C', -, -, -, e1, e⟩
        · rw [e, if_neg (by decide)]; exact g2
        · omega
        · omega
        · omega
        · omega
        · omega
      rw [if_pos h0, g1, g3]; exact Nat.le_refl _
    rw [if_neg h0]
    have big := Nb_big (b := true) e1 hc hS h0
    rcases gcs_cases (w := w) tk w2 with ⟨g1, g2, g3⟩ | ⟨w1, k, hk, rfl, g1, g2, g3⟩ | ⟨w1, n1, k, hk, rfl, g1, g2, g3⟩ | ⟨m, X0, X1, X2, m', Y0, Y1, Y2, hm, hm', rfl, rfl, g1, g2, g3⟩ | ⟨A, C, A', C', rfl, rfl, g1, g2, g3⟩ | ⟨A, C, C', rfl, rfl, g1, g2, g3⟩
    · have g4 : nbo (w, Γ, S, T) ≤ 1 := by unfold nbo; rw [g3, if_neg (by decide)]; exact g2
      rw [g1]
      show nbo (w, Γ, S, T) + 0 ≤ _
      by_cases h1 : 16 ≤ hd S
      · rw [if_pos h1]
        rw [if_pos ⟨h1, rfl⟩] at big
        omega
      · rw [if_neg h1]
        rw [if_neg (by omega)] at big
        omega
    · have g4 : nbo (w, Γ, tVar k, T) = 16 := by unfold nbo; rw [g3, if_pos rfl]
      have t1 := (kids _ (by rw [g1]; exact List.mem_cons_self ..)).1
      have t1 : TB e (Γ, lft k (Γ.length - k) (bnd Γ k), T) := t1
      have q := ih w Γ _ T t1 w3
      rw [g1, g4, if_pos (by rw [hd_var]; omega), Nb_var hc hk]
      show 16 + (nbf f (w, Γ, lft k (Γ.length - k) (bnd Γ k), T) + 0) ≤ max (16 * e) (16 + Nb true e Γ (lft k (Γ.length - k) (bnd Γ k)))
      omega
    · have g4 : nbo (w, Γ, S, tVar k) = 16 := by unfold nbo; rw [g3, if_pos rfl]
      have t1 := (kids _ (by rw [g1]; exact List.mem_cons_self ..)).1
      have t1 : TB e (Γ, S, lft k (Γ.length - k) (bnd Γ k)) := t1
      have q := nbf_S e1 f (w, Γ, S, lft k (Γ.length - k) (bnd Γ k)) t1 w3
      have eq : phS e (w, Γ, S, lft k (Γ.length - k) (bnd Γ k)) = Nb true e Γ S - 16 * e + 16 * chn (cl Γ) (lft k (Γ.length - k) (bnd Γ k)) := by
        show (if hd S = 0 then 0 else if 16 ≤ hd S then _ else _) = _
        rw [if_neg h0, if_neg n1]
      have ec := (cl_expose hc hb hk).1
      rw [g1, g4, if_neg n1, chn_var]
      show 16 + (nbf f (w, Γ, S, lft k (Γ.length - k) (bnd Γ k)) + 0) ≤ _
      omega
    · have oS := (ok_rec hm).mp hS
      have oT := (ok_rec hm').mp hT
      have dS := (cbd_rec _ _ _ _).mp tb.2.2.1
      have dT := (cbd_rec _ _ _ _).mp tb.2.2.2
      have g4 : nbo (w, Γ, tRec m X0 X1 X2, tRec m' Y0 Y1 Y2) = 1 := by unfold nbo; rw [g3, if_neg (by decide), g2]
      have sg : ∀ l : List Gz, sgl (nbf f) l = sgl (fun y => if y.1 = 2 then 0 else nbf f y) l := fun l => sgl_congr (fun y _ => by
        split
        · rename_i c; exact nbf_two f c
        · rfl)
      rw [g1, sg, sgl_app, sgl_app, g4, if_neg (by rw [hd_rec]; omega), Nb_rec]
      have k0 := gzl_r (w := w) (f := nbf f) (g := Nb true e Γ) (Γ := Γ) (X := X0) (Y := Y0) hm hm' (show 0 < 3 by decide) w2 (fun b1 b2 => ih w Γ X0 Y0 ⟨⟨hc, okl_on oS.1 (bit_iff.mp b1), okl_on oT.1 (bit_iff.mp b2)⟩, hb, dS.1, dT.1⟩ w3)
      have k1 := gzl_r (w := w) (f := nbf f) (g := Nb true e Γ) (Γ := Γ) (X := X1) (Y := Y1) hm hm' (show 1 < 3 by decide) w2 (fun b1 b2 => ih w Γ X1 Y1 ⟨⟨hc, okl_on oS.2.1 (bit_iff.mp b1), okl_on oT.2.1 (bit_iff.mp b2)⟩, hb, dS.2.1, dT.2.1⟩ w3)
      have k2 := gzl_r (w := w) (f := nbf f) (g := Nb true e Γ) (Γ := Γ) (X := X2) (Y := Y2) hm hm' (show 2 < 3 by decide) w2 (fun b1 b2 => ih w Γ X2 Y2 ⟨⟨hc, okl_on oS.2.2 (bit_iff.mp b1), okl_on oT.2.2 (bit_iff.mp b2)⟩, hb, dS.2.2, dT.2.2⟩ w3)
      omega
    · have oS := ok_fun.mp hS
      have oT := ok_fun.mp hT
      have dS := (cbd_fun _ _ _).mp tb.2.2.1
      have dT := (cbd_fun _ _ _).mp tb.2.2.2
      have g4 : nbo (w, Γ, tFun A C, tFun A' C') = 1 := by unfold nbo; rw [g3, if_neg (by decide), g2]
      have q1 := ih (1 - w) Γ A A' ⟨⟨hc, oS.1, oT.1⟩, hb, dS.1, dT.1⟩ (by omega)
      have q2 := ih w Γ C C' ⟨⟨hc, oS.2, oT.2⟩, hb, dS.2, dT.2⟩ w3
      rw [g1, g4, if_neg (by rw [hd_fun]; omega), Nb_fun]
      show 1 + (nbf f (1 - w, Γ, A, A') + (nbf f (w, Γ, C, C') + 0)) ≤ _
      omega
    · have oS := ok_all.mp hS
      have oT := ok_all.mp hT
      have dS := (cbd_all _ _ _).mp tb.2.2.1
      have dT := (cbd_all _ _ _).mp tb.2.2.2
      have g4 : nbo (w, Γ, tAll A C, tAll A C') = 2 := by unfold nbo; rw [g3, if_neg (by decide), g2]
      have q2 := ih w (A :: Γ) C C' ⟨⟨⟨oS.1, hc⟩, oS.2, oT.2⟩, ⟨⟨dS.1, dS.2.1⟩, hb⟩, dS.2.2, dT.2.2⟩ w3
      rw [g1, g4, if_neg (by rw [hd_all]; omega), Nb_all]
      show 2 + (nbf f (w, A :: Γ, C, C') + 0) ≤ _
      omega
theorem nbm_S (e1 : 1 ≤ e) (tb : TB e (Γ, S, T)) (w3 : w ≤ 1) : nbm w Γ S T ≤ Nb true e Γ S := Nat.le_trans (nbf_S e1 _ (w, Γ, S, T) tb w3) (phS_le e1 tb)
theorem nbf_T (e1 : 1 ≤ e) : ∀ (f : Nat) (z : Gz), TB e z.2 → z.1 ≤ 1 → nbf f z ≤ phT e z
  | 0, _, _, _ => Nat.zero_le _
  | f + 1, (w, Γ, S, T), tb, w3 => by
    have w3 : w ≤ 1 := w3
    have w2 : w ≠ 2 := by omega
    have tb : TB e (Γ, S, T) := tb
    have tk : tok (Γ, S, T) := tb.1
    have hb : cbc e Γ := tb.2.1
    have hc : okc Γ := tk.1
    have hS : ok Γ.length S = true := tk.2.1
    have hT : ok Γ.length T = true := tk.2.2
    have kids := tb.gcs w2 (by omega)
    have ih := fun (w' : Nat) (Γ' : List Ty) (S' T' : Ty) (h : TB e (Γ', S', T')) (h1 : w' ≤ 1) => Nat.le_trans (nbf_T e1 f (w', Γ', S', T') h h1) (phT_le e1 h)
    show (if w = 2 then 0 else nbo (w, Γ, S, T) + sgl (nbf f) (gcs (w, Γ, S, T))) ≤ (if hd T = 0 then 0 else Nb false e Γ T - 16 * e + 16 * chn (cl Γ) S)
    rw [if_neg w2]
    by_cases h0 : hd T = 0
    · have bl : bel Γ S T = true := bel_top tk h0
      have g1 := gcs_of_bel (w := w) (Γ := Γ) (S := S) (T := T) (Or.inl bl)
      have g2 := gro_bel (w := w) (Γ := Γ) (S := S) (T := T) (Or.inl bl)
      have g3 : nbo (w, Γ, S, T) = 0 := by
        unfold nbo
        rcases gcs_cases (w := w) tk w2 with ⟨-, -, e⟩ | ⟨-, k, -, -, -, e1, e⟩ | ⟨-, -, k, -, -, -, e1, e⟩ | ⟨m, X0, X1, X2, m', Y0, Y1, Y2, -, -, -, -, -, e1, e⟩ | ⟨A, C, A', C', -, -, -, e1, e⟩ | ⟨A, C, C', -, -, -, e1, e⟩
        · rw [e, if_neg (by decide)]; exact g2
        · omega
        · omega
        · omega
        · omega
        · omega
      rw [if_pos h0, g1, g3]; exact Nat.le_refl _
    rw [if_neg h0]
    have big := Nb_big (b := false) e1 hc hT h0
    rw [if_neg (by simp)] at big
    rcases gcs_cases (w := w) tk w2 with ⟨g1, g2, g3⟩ | ⟨w1, k, hk, rfl, g1, g2, g3⟩ | ⟨w1, n1, k, hk, rfl, g1, g2, g3⟩ | ⟨m, X0, X1, X2, m', Y0, Y1, Y2, hm, hm', rfl, rfl, g1, g2, g3⟩ | ⟨A, C, A', C', rfl, rfl, g1, g2, g3⟩ | ⟨A, C, C', rfl, rfl, g1, g2, g3⟩
    · have g4 : nbo (w, Γ, S, T) ≤ 1 := by unfold nbo; rw [g3, if_neg (by decide)]; exact g2
      rw [g1]
      show nbo (w, Γ, S, T) + 0 ≤ _
      omega
    · have g4 : nbo (w, Γ, tVar k, T) = 16 := by unfold nbo; rw [g3, if_pos rfl]
      have t1 := (kids _ (by rw [g1]; exact List.mem_cons_self ..)).1
      have t1 : TB e (Γ, lft k (Γ.length - k) (bnd Γ k), T) := t1
      have q := nbf_T e1 f (w, Γ, lft k (Γ.length - k) (bnd Γ k), T) t1 w3
      have eq : phT e (w, Γ, lft k (Γ.length - k) (bnd Γ k), T) = Nb false e Γ T - 16 * e + 16 * chn (cl Γ) (lft k (Γ.length - k) (bnd Γ k)) := if_neg h0
      have ec := (cl_expose hc hb hk).1
      rw [g1, g4, chn_var]
      show 16 + (nbf f (w, Γ, lft k (Γ.length - k) (bnd Γ k), T) + 0) ≤ _
      omega
    · have g4 : nbo (w, Γ, S, tVar k) = 16 := by unfold nbo; rw [g3, if_pos rfl]
      have t1 := (kids _ (by rw [g1]; exact List.mem_cons_self ..)).1
      have t1 : TB e (Γ, S, lft k (Γ.length - k) (bnd Γ k)) := t1
      have q := nbf_T e1 f (w, Γ, S, lft k (Γ.length - k) (bnd Γ k)) t1 w3
      have q2 : phT e (w, Γ, S, lft k (Γ.length - k) (bnd Γ k)) ≤ Nb false e Γ (lft k (Γ.length - k) (bnd Γ k)) - 16 * e := by
        show (if hd (lft k (Γ.length - k) (bnd Γ k)) = 0 then 0 else _) ≤ _
        split
        · exact Nat.zero_le _
        · rw [chn_no n1]; exact Nat.le_refl _
      rw [g1, g4, chn_no n1, Nb_var hc hk]
      show 16 + (nbf f (w, Γ, S, lft k (Γ.length - k) (bnd Γ k)) + 0) ≤ (16 + max (16 * e) (Nb false e Γ (lft k (Γ.length - k) (bnd Γ k)))) - 16 * e + 16 * 0
      omega
    · have oS := (ok_rec hm).mp hS
      have oT := (ok_rec hm').mp hT
      have dS := (cbd_rec _ _ _ _).mp tb.2.2.1
      have dT := (cbd_rec _ _ _ _).mp tb.2.2.2
      have g4 : nbo (w, Γ, tRec m X0 X1 X2, tRec m' Y0 Y1 Y2) = 1 := by unfold nbo; rw [g3, if_neg (by decide), g2]
      have sg : ∀ l : List Gz, sgl (nbf f) l = sgl (fun y => if y.1 = 2 then 0 else nbf f y) l := fun l => sgl_congr (fun y _ => by
        split
        · rename_i c; exact nbf_two f c
        · rfl)
      rw [g1, sg, sgl_app, sgl_app, g4, Nb_rec]
      have k0 := gzl_r (w := w) (f := nbf f) (g := fun _ => Nb false e Γ Y0) (Γ := Γ) (X := X0) (Y := Y0) hm hm' (show 0 < 3 by decide) w2 (fun b1 b2 => ih w Γ X0 Y0 ⟨⟨hc, okl_on oS.1 (bit_iff.mp b1), okl_on oT.1 (bit_iff.mp b2)⟩, hb, dS.1, dT.1⟩ w3)
      have k1 := gzl_r (w := w) (f := nbf f) (g := fun _ => Nb false e Γ Y1) (Γ := Γ) (X := X1) (Y := Y1) hm hm' (show 1 < 3 by decide) w2 (fun b1 b2 => ih w Γ X1 Y1 ⟨⟨hc, okl_on oS.2.1 (bit_iff.mp b1), okl_on oT.2.1 (bit_iff.mp b2)⟩, hb, dS.2.1, dT.2.1⟩ w3)
      have k2 := gzl_r (w := w) (f := nbf f) (g := fun _ => Nb false e Γ Y2) (Γ := Γ) (X := X2) (Y := Y2) hm hm' (show 2 < 3 by decide) w2 (fun b1 b2 => ih w Γ X2 Y2 ⟨⟨hc, okl_on oS.2.2 (bit_iff.mp b1), okl_on oT.2.2 (bit_iff.mp b2)⟩, hb, dS.2.2, dT.2.2⟩ w3)
      omega
    · have oS := ok_fun.mp hS
      have oT := ok_fun.mp hT
      have dS := (cbd_fun _ _ _).mp tb.2.2.1
      have dT := (cbd_fun _ _ _).mp tb.2.2.2
      have g4 : nbo (w, Γ, tFun A C, tFun A' C') = 1 := by unfold nbo; rw [g3, if_neg (by decide), g2]
      have q1 := ih (1 - w) Γ A A' ⟨⟨hc, oS.1, oT.1⟩, hb, dS.1, dT.1⟩ (by omega)
      have q2 := ih w Γ C C' ⟨⟨hc, oS.2, oT.2⟩, hb, dS.2, dT.2⟩ w3
      rw [g1, g4, Nb_fun]
      show 1 + (nbf f (1 - w, Γ, A, A') + (nbf f (w, Γ, C, C') + 0)) ≤ _
      omega
    · have oS := ok_all.mp hS
      have oT := ok_all.mp hT
      have dS := (cbd_all _ _ _).mp tb.2.2.1
      have dT := (cbd_all _ _ _).mp tb.2.2.2
      have g4 : nbo (w, Γ, tAll A C, tAll A C') = 2 := by unfold nbo; rw [g3, if_neg (by decide), g2]
      have q2 := ih w (A :: Γ) C C' ⟨⟨⟨oS.1, hc⟩, oS.2, oT.2⟩, ⟨⟨dS.1, dS.2.1⟩, hb⟩, dS.2.2, dT.2.2⟩ w3
      rw [g1, g4, Nb_all]
      show 2 + (nbf f (w, A :: Γ, C, C') + 0) ≤ _
      omega
theorem nbm_T (e1 : 1 ≤ e) (tb : TB e (Γ, S, T)) (w3 : w ≤ 1) : nbm w Γ S T ≤ Nb false e Γ T := Nat.le_trans (nbf_T e1 _ (w, Γ, S, T) tb w3) (phT_le e1 tb)
end PmM3b
