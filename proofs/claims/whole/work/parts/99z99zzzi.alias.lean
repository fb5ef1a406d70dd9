/-! ALIASES: an alias is worth what the variable is that it stands for; what its exposures take is counted apart. -/
def al : List Nat → Ty → Nat
  | χ, .tag c (.append s t) => if c = 2 then al ((al χ s + (if 16 ≤ hd s then 1 else 0)) :: χ) t else al χ s + al χ t
  | χ, .tag c .nil => if 16 ≤ c then vw χ (c - 16) else 0
  | χ, .append s t => al χ s + al χ t
  | _, _ => 0
theorem al_top (χ : List Nat) : al χ tTop = 0 := by simp [tTop, al]
theorem al_var (χ : List Nat) (k : Nat) : al χ (tVar k) = vw χ k := by simp [tVar, al]
theorem al_nil (χ : List Nat) : al χ .nil = 0 := by simp [al]
theorem al_fun (χ : List Nat) (a b : Ty) : al χ (tFun a b) = al χ a + al χ b := by simp [tFun, al]
theorem al_all (χ : List Nat) (a b : Ty) : al χ (tAll a b) = al ((al χ a + (if 16 ≤ hd a then 1 else 0)) :: χ) b := by simp [tAll, al]
theorem al_rec (χ : List Nat) {m : Nat} (x y z : Ty) : al χ (tRec m x y z) = al χ x + (al χ y + al χ z) := by
  unfold tRec
  rw [al, if_neg (by omega), al]
theorem hd_lftv {d : Nat} {t : Ty} (o : ok d t = true) (k n : Nat) : (16 ≤ hd (lft k n t)) = (16 ≤ hd t) := by
  rw [lft_hd o]
  apply propext
  split <;> omega
theorem al_lft (ν ω : List Nat) : ∀ (f : Nat) (t : Ty) (μ : List Nat), (flat t).length ≤ f → ok (ω.length + μ.length) t = true → al (μ ++ (ν ++ ω)) (lft ω.length ν.length t) = al (μ ++ ω) t
  | 0, t, μ, hf, o => by have := flat_pos o; omega
  | f + 1, t, μ, hf, o => by
    rcases ok_cases o with rfl | ⟨j, hj, rfl⟩ | ⟨a, c, rfl, ha, hb⟩ | ⟨a, c, rfl, ha, hb⟩ | ⟨m, x, y, z, hm, rfl, h0, h1, h2⟩
    · rw [lft_top, al_top, al_top]
    · rw [lft_var]
      by_cases e : ω.length ≤ j
      · rw [if_pos e, al_var, al_var]
        exact vw_app_hi μ ν ω j e (by omega)
      · rw [if_neg e, al_var, al_var, ← List.append_assoc, vw_app_lo _ ω j (by omega), vw_app_lo _ ω j (by omega)]
    · rw [flat_fun, List.length_cons, List.length_append] at hf
      rw [lft_fun, al_fun, al_fun, al_lft ν ω f a μ (by omega) ha, al_lft ν ω f c μ (by omega) hb]
    · rw [flat_all, List.length_cons, List.length_append] at hf
      rw [lft_all, al_all, al_all, al_lft ν ω f a μ (by omega) ha]
      have := al_lft ν ω f c ((al (μ ++ ω) a + (if 16 ≤ hd a then 1 else 0)) :: μ) (by omega) (by rw [List.length_cons]; exact hb)
      rw [List.cons_append, List.cons_append] at this
      simp only [hd_lftv ha]
      rw [this]
    · rw [flat_rec, List.length_cons, List.length_append, List.length_append] at hf
      have key : ∀ (i : Nat) (p : Ty), (flat p).length ≤ f → okl (ω.length + μ.length) m i p → al (μ ++ (ν ++ ω)) (lft ω.length ν.length p) = al (μ ++ ω) p := by
        intro i p hp ho
        unfold okl at ho
        by_cases hb : bit m i = true
        · rw [if_pos hb] at ho
          exact al_lft ν ω f p μ hp ho
        · rw [if_neg hb] at ho
          rw [ho]
          have : lft ω.length ν.length .nil = .nil := rfl
          rw [this, al_nil, al_nil]
      rw [lft_rec hm, al_rec, al_rec, key 0 x (by omega) h0, key 1 y (by omega) h1, key 2 z (by omega) h2]
/-- lists along a context -/
def lsf (F : List Nat → Ty → Nat) : List Ty → List Nat
  | [] => []
  | b :: Γ => F (lsf F Γ) b :: lsf F Γ
theorem lsf_len (F : List Nat → Ty → Nat) : ∀ Γ : List Ty, (lsf F Γ).length = Γ.length
  | [] => rfl
  | b :: Γ => by show (lsf F Γ).length + 1 = Γ.length + 1; rw [lsf_len F Γ]
theorem lsf_bd (F : List Nat → Ty → Nat) : ∀ (Γ : List Ty) (k : Nat), okc Γ → k < Γ.length → ∃ ν ω : List Nat, lsf F Γ = ν ++ ω ∧ ω.length = k ∧ ν.length = Γ.length - k ∧ ok k (bnd Γ k) = true ∧ vw (lsf F Γ) k = F ω (bnd Γ k)
  | [], k, _, hk => absurd hk (Nat.not_lt_zero _)
  | s :: Γ, k, hc, hk => by
    by_cases c : k = Γ.length
    · refine ⟨[F (lsf F Γ) s], lsf F Γ, rfl, by rw [lsf_len, c], by rw [c, List.length_cons, List.length_cons, List.length_nil]; omega, ?_, ?_⟩
      · show ok k (if k = Γ.length then s else _) = true
        rw [if_pos c, c]; exact hc.1
      · show (if k = (lsf F Γ).length then _ else _) = F (lsf F Γ) (if k = Γ.length then s else _)
        rw [lsf_len, if_pos c, if_pos c]
    · obtain ⟨ν, ω, e1, e2, e5, e3, e4⟩ := lsf_bd F Γ k hc.2 (by rw [List.length_cons] at hk; omega)
      refine ⟨F (lsf F Γ) s :: ν, ω, ?_, e2, by rw [List.length_cons, List.length_cons, e5]; rw [List.length_cons] at hk; omega, ?_, ?_⟩
      · show F (lsf F Γ) s :: lsf F Γ = _
        rw [e1]; rfl
      · show ok k (if k = Γ.length then s else bnd Γ k) = true
        rw [if_neg c]; exact e3
      · show (if k = (lsf F Γ).length then _ else vw (lsf F Γ) k) = F ω (if k = Γ.length then s else bnd Γ k)
        rw [lsf_len, if_neg c, if_neg c]; exact e4
def fq (t0 : Nat) (n1 : Nat → Nat) (s2 : Nat) (h : Nat → Nat) (ω : List Nat) (b : Ty) : Nat := if 16 ≤ hd b then nz t0 n1 s2 h ω b else h (nz t0 n1 s2 h ω b)
def fa (χ : List Nat) (b : Ty) : Nat := al χ b + (if 16 ≤ hd b then 1 else 0)
def Uq (Γ : List Ty) (S : Ty) : Nat := nz 0 (fun _ => 1 + 1) (2 + 1) (vlr false 1) (lsf (fq 0 (fun _ => 1 + 1) (2 + 1) (vlr false 1)) Γ) S
def Aq (Γ : List Ty) (S : Ty) : Nat := al (lsf fa Γ) S
section PmZi1a
variable {Γ : List Ty} {S T : Ty}
theorem vq_is (x : Nat) : vlr false 1 x = 1 + max 1 x := rfl
theorem Uq_ex {k : Nat} (hc : okc Γ) (hk : k < Γ.length) : (16 ≤ hd (lft k (Γ.length - k) (bnd Γ k)) ∧ Uq Γ (tVar k) = Uq Γ (lft k (Γ.length - k) (bnd Γ k)) ∧ Aq Γ (tVar k) = Aq Γ (lft k (Γ.length - k) (bnd Γ k)) + 1) ∨ (¬ 16 ≤ hd (lft k (Γ.length - k) (bnd Γ k)) ∧ Uq Γ (tVar k) = 1 + max 1 (Uq Γ (lft k (Γ.length - k) (bnd Γ k))) ∧ Aq Γ (tVar k) = Aq Γ (lft k (Γ.length - k) (bnd Γ k))) := by
  obtain ⟨ν, ω, e1, e2, e5, e3, e4⟩ := lsf_bd (fq 0 (fun _ => 1 + 1) (2 + 1) (vlr false 1)) Γ k hc hk
  obtain ⟨ν', ω', f1, f2, f5, f3, f4⟩ := lsf_bd fa Γ k hc hk
  have uL : Uq Γ (lft k (Γ.length - k) (bnd Γ k)) = nz 0 (fun _ => 1 + 1) (2 + 1) (vlr false 1) ω (bnd Γ k) := by
    show nz 0 (fun _ => 1 + 1) (2 + 1) (vlr false 1) (lsf _ Γ) _ = _
    rw [e1, ← e5]
    have q := nz_lft (t0 := 0) (n1 := fun _ => 1 + 1) (s2 := 2 + 1) (h := vlr false 1) ν ω _ (bnd Γ k) [] (Nat.le_refl _) (by rw [e2]; exact e3)
    rw [List.nil_append, List.nil_append, e2] at q
    exact q
  have aL : Aq Γ (lft k (Γ.length - k) (bnd Γ k)) = al ω' (bnd Γ k) := by
    show al (lsf fa Γ) _ = _
    rw [f1, ← f5]
    have q := al_lft ν' ω' _ (bnd Γ k) [] (Nat.le_refl _) (by rw [f2]; exact f3)
    rw [List.nil_append, List.nil_append, f2] at q
    exact q
  have uV : Uq Γ (tVar k) = fq 0 (fun _ => 1 + 1) (2 + 1) (vlr false 1) ω (bnd Γ k) := by
    show nz 0 (fun _ => 1 + 1) (2 + 1) (vlr false 1) (lsf _ Γ) _ = _
    rw [nz_var, e4]
  have aV : Aq Γ (tVar k) = fa ω' (bnd Γ k) := by
    show al (lsf fa Γ) _ = _
    rw [al_var, f4]
  have hv := hd_lftv e3 k (Γ.length - k)
  rw [uV, aV, uL, aL, hv]
  unfold fq fa
  by_cases c : 16 ≤ hd (bnd Γ k)
  · left
    rw [if_pos c, if_pos c]
    exact ⟨c, rfl, rfl⟩
  · right
    rw [if_neg c, if_neg c]
    exact ⟨c, rfl, Nat.add_zero _⟩
theorem Uq_top : Uq Γ tTop = 0 := nz_top _
theorem Uq_fun (A C : Ty) : Uq Γ (tFun A C) = 2 + (Uq Γ A + Uq Γ C) := nz_fun _ A C
theorem Uq_rec {m : Nat} (x y z : Ty) : Uq Γ (tRec m x y z) = 2 + (Uq Γ x + (Uq Γ y + Uq Γ z)) := nz_rec _ x y z
theorem Uq_all {A C : Ty} (o : ok Γ.length (tAll A C) = true) : 3 + Uq (A :: Γ) C ≤ Uq Γ (tAll A C) := by
  have l := lsf_len (fq 0 (fun _ => 1 + 1) (2 + 1) (vlr false 1)) Γ
  have e : Uq Γ (tAll A C) = 3 + nz 0 (fun _ => 1 + 1) (2 + 1) (vlr false 1) (vlr false 1 (nz 0 (fun _ => 1 + 1) (2 + 1) (vlr false 1) (lsf (fq 0 (fun _ => 1 + 1) (2 + 1) (vlr false 1)) Γ) A) :: lsf (fq 0 (fun _ => 1 + 1) (2 + 1) (vlr false 1)) Γ) C := nz_all _ A C
  rw [e]
  refine Nat.add_le_add_left ?_ _
  show nz 0 (fun _ => 1 + 1) (2 + 1) (vlr false 1) (fq 0 (fun _ => 1 + 1) (2 + 1) (vlr false 1) (lsf (fq 0 (fun _ => 1 + 1) (2 + 1) (vlr false 1)) Γ) A :: lsf (fq 0 (fun _ => 1 + 1) (2 + 1) (vlr false 1)) Γ) C ≤ _
  refine nz_mono (vlr_mono false 1) _ C _ _ (Nat.le_refl _) (by rw [List.length_cons, List.length_cons]) (by rw [List.length_cons, l]; exact (ok_all.mp o).2) (fun j hj => ?_)
  rw [vw_cons, vw_cons]
  split
  · unfold fq
    split
    · rw [vq_is]; omega
    · exact Nat.le_refl _
  · exact Nat.le_refl _
theorem Aq_top : Aq Γ tTop = 0 := al_top _
theorem Aq_fun (A C : Ty) : Aq Γ (tFun A C) = Aq Γ A + Aq Γ C := al_fun _ A C
theorem Aq_rec {m : Nat} (x y z : Ty) : Aq Γ (tRec m x y z) = Aq Γ x + (Aq Γ y + Aq Γ z) := al_rec _ x y z
theorem Aq_all (A C : Ty) : Aq Γ (tAll A C) = Aq (A :: Γ) C := al_all _ A C
theorem Uq_v2 : ∀ (Γ : List Ty) (k : Nat), okc Γ → k < Γ.length → 2 ≤ vw (lsf (fq 0 (fun _ => 1 + 1) (2 + 1) (vlr false 1)) Γ) k
  | [], k, _, hk => absurd hk (Nat.not_lt_zero _)
  | b :: Γ, k, hc, hk => by
    have l := lsf_len (fq 0 (fun _ => 1 + 1) (2 + 1) (vlr false 1)) Γ
    show 2 ≤ vw (fq 0 (fun _ => 1 + 1) (2 + 1) (vlr false 1) (lsf (fq 0 (fun _ => 1 + 1) (2 + 1) (vlr false 1)) Γ) b :: lsf (fq 0 (fun _ => 1 + 1) (2 + 1) (vlr false 1)) Γ) k
    rw [vw_cons]
    split
    · unfold fq
      split
      · rename_i h
        obtain ⟨j, hj, rfl⟩ := hd_is_var hc.1 h
        rw [nz_var]
        exact Uq_v2 Γ j hc.2 hj
      · rw [vq_is]; omega
    · rw [List.length_cons] at hk
      exact Uq_v2 Γ k hc.2 (by omega)
theorem Uq_two (hc : okc Γ) (o : ok Γ.length S = true) (h0 : hd S ≠ 0) : 2 ≤ Uq Γ S := by
  rcases ok_cases o with rfl | ⟨k, hk, rfl⟩ | ⟨a, c, rfl, ha, hb⟩ | ⟨a, c, rfl, ha, hb⟩ | ⟨m, x, y, z, hm, rfl, -, -, -⟩
  · exact absurd rfl h0
  · have e : Uq Γ (tVar k) = vw (lsf (fq 0 (fun _ => 1 + 1) (2 + 1) (vlr false 1)) Γ) k := nz_var _ k
    rw [e]
    exact Uq_v2 Γ k hc hk
  · rw [Uq_fun]; omega
  · have := Uq_all o; omega
  · rw [Uq_rec]; omega
def PL (Γ : List Ty) (S : Ty) : Nat := if 16 ≤ hd S then Uq Γ S - 1 else Uq Γ S - 2
def PT (Γ : List Ty) (S T : Ty) : Nat := if hd T = 0 then 0 else Uq Γ T - 1 + (if 16 ≤ hd S then 1 else 0)
def PSq (Γ : List Ty) (S T : Ty) : Nat := if hd S = 0 then 0 else if 16 ≤ hd S then Uq Γ S else Uq Γ S - 1 + (if 16 ≤ hd T then 1 else 0)
theorem PL_le : PL Γ S ≤ Uq Γ S := by unfold PL; split <;> omega
theorem PT_le (hc : okc Γ) (o : ok Γ.length T = true) : PT Γ S T ≤ Uq Γ T := by
  unfold PT
  split
  · exact Nat.zero_le _
  · rename_i h
    have := Uq_two hc o h
    split <;> omega
theorem PSq_le (hc : okc Γ) (o : ok Γ.length S = true) : PSq Γ S T ≤ Uq Γ S := by
  unfold PSq
  split
  · exact Nat.zero_le _
  · rename_i h
    have := Uq_two hc o h
    split
    · exact Nat.le_refl _
    · split <;> omega
theorem trB : ∀ (f : Nat) (Γ : List Ty) (S T : Ty), tok (Γ, S, T) → trf f (Γ, S, T) ≤ PL Γ S + (Aq Γ S + Aq Γ T) ∧ trf f (Γ, S, T) ≤ PT Γ S T + (Aq Γ S + Aq Γ T)
  | 0, _, _, _, _ => ⟨Nat.zero_le _, Nat.zero_le _⟩
  | f + 1, Γ, S, T, tk => by
    have hc : okc Γ := tk.1
    have hS : ok Γ.length S = true := tk.2.1
    have hT : ok Γ.length T = true := tk.2.2
    rcases stp_cases tk with e1 | ⟨e1, r1⟩ | ⟨k, hk, rfl, hT0, e1, r1⟩ | ⟨m, x, y, z, m', x', y', z', hm, hm', rfl, rfl, e1, r1⟩ | ⟨a, b, a', b', rfl, rfl, e1, r1⟩ | ⟨a, b, b', rfl, rfl, e1, r1⟩
    · have et : trf (f + 1) (Γ, S, T) = 0 := by
        unfold trf
        simp only [e1]
      rw [et]; exact ⟨Nat.zero_le _, Nat.zero_le _⟩
    · have et : trf (f + 1) (Γ, S, T) = 0 := by
        unfold trf
        simp only [e1]
        show rst S T + 0 = 0
        omega
      rw [et]; exact ⟨Nat.zero_le _, Nat.zero_le _⟩
    · have oL := ok_expose hc hk
      obtain ⟨i1, i2⟩ := trB f Γ (lft k (Γ.length - k) (bnd Γ k)) T ⟨hc, oL, hT⟩
      have et : trf (f + 1) (Γ, tVar k, T) = 1 + (trf f (Γ, lft k (Γ.length - k) (bnd Γ k), T) + 0) := by
        rw [trf]
        simp only [e1]
        rw [r1]
        rfl
      have tT := Uq_two hc hT hT0
      have hv : 16 ≤ hd (tVar k) := by rw [hd_var]; omega
      have v2 := Uq_two hc hS (by omega)
      rw [et]
      unfold PL at i1 ⊢
      unfold PT at i2 ⊢
      rw [if_neg hT0] at i2 ⊢
      rw [if_pos hv, if_pos hv]
      rcases Uq_ex hc hk with ⟨c, u, a⟩ | ⟨c, u, a⟩
      · rw [if_pos c] at i1 i2
        constructor <;> omega
      · rw [if_neg c] at i1 i2
        constructor <;> omega
    · have oS := (ok_rec hm).mp hS
      have oT := (ok_rec hm').mp hT
      have hsub : ∀ g, g < 3 → bit m' g = true → bit m g = true := by
        by_cases n6 : m &&& m' = m'
        · have := (sub_bits m hm m' hm').mp n6
          intro g hg
          rcases (show g = 0 ∨ g = 1 ∨ g = 2 by omega) with rfl | rfl | rfl
          · exact this.1
          · exact this.2.1
          · exact this.2.2
        · exfalso
          have n3 : 8 ≤ hd (tRec m x y z) ∧ 8 ≤ hd (tRec m' x' y' z') ∧ hd (tRec m' x' y' z') < 16 := by rw [hd_rec, hd_rec]; omega
          have en : stp Γ (tRec m x y z) (tRec m' x' y' z') = none := by
            unfold stp
            rw [if_neg (by rw [hd_rec, hd_rec]; omega), if_neg (by rw [hd_rec]; omega), if_pos n3, hd_rec, hd_rec, show 8 + m - 8 = m by omega, show 8 + m' - 8 = m' by omega, if_neg n6]
          rw [en] at e1
          cases e1
      have key : ∀ (g : Nat) (p p' : Ty), g < 3 → okl Γ.length m g p → okl Γ.length m' g p' → sumt (trf f) (stl Γ m' g p p') ≤ Uq Γ p + (Aq Γ p + Aq Γ p') ∧ sumt (trf f) (stl Γ m' g p p') ≤ Uq Γ p' + (Aq Γ p + Aq Γ p') := by
        intro g p p' hg hp hp'
        unfold stl
        by_cases hb1 : bit m' g = true
        · rw [if_pos hb1]
          have o1 := okl_on hp (bit_iff.mp (hsub g hg hb1))
          have o2 := okl_on hp' (bit_iff.mp hb1)
          obtain ⟨i1, i2⟩ := trB f Γ p p' ⟨hc, o1, o2⟩
          have l1 := PL_le (Γ := Γ) (S := p)
          have l2 := PT_le (S := p) hc o2
          exact ⟨by show trf f (Γ, p, p') + 0 ≤ _; omega, by show trf f (Γ, p, p') + 0 ≤ _; omega⟩
        · rw [if_neg hb1]
          exact ⟨Nat.zero_le _, Nat.zero_le _⟩
      have k0 := key 0 x x' (by decide) oS.1 oT.1
      have k1 := key 1 y y' (by decide) oS.2.1 oT.2.1
      have k2 := key 2 z z' (by decide) oS.2.2 oT.2.2
      have et : trf (f + 1) (Γ, tRec m x y z, tRec m' x' y' z') = sumt (trf f) (stl Γ m' 2 z z') + (sumt (trf f) (stl Γ m' 1 y y') + sumt (trf f) (stl Γ m' 0 x x')) := by
        rw [trf]
        simp only [e1]
        rw [r1, sumt_app, sumt_app]
        omega
      rw [et, Aq_rec, Aq_rec]
      unfold PL PT
      rw [if_neg (by rw [hd_rec]; omega), if_neg (by rw [hd_rec]; omega), Uq_rec, Uq_rec]
      constructor <;> omega
    · have oS := ok_fun.mp hS
      have oT := ok_fun.mp hT
      obtain ⟨i1, i2⟩ := trB f Γ b b' ⟨hc, oS.2, oT.2⟩
      obtain ⟨j1, j2⟩ := trB f Γ a' a ⟨hc, oT.1, oS.1⟩
      have l1 := PL_le (Γ := Γ) (S := b)
      have l2 := PT_le (S := b) hc oT.2
      have l3 := PL_le (Γ := Γ) (S := a')
      have l4 := PT_le (S := a') hc oS.1
      have et : trf (f + 1) (Γ, tFun a b, tFun a' b') = trf f (Γ, b, b') + (trf f (Γ, a', a) + 0) := by
        rw [trf]
        simp only [e1]
        rw [r1]
        show 0 + (trf f (Γ, b, b') + (trf f (Γ, a', a) + 0)) = _
        omega
      rw [et, Aq_fun, Aq_fun]
      unfold PL PT at *
      rw [if_neg (by rw [hd_fun]; omega), if_neg (by rw [hd_fun]; omega), Uq_fun, Uq_fun]
      constructor <;> omega
    · have oS := ok_all.mp hS
      have oT := ok_all.mp hT
      obtain ⟨i1, i2⟩ := trB f (a :: Γ) b b' ⟨⟨oS.1, hc⟩, oS.2, oT.2⟩
      have l1 := PL_le (Γ := a :: Γ) (S := b)
      have l2 := PT_le (Γ := a :: Γ) (S := b) ⟨oS.1, hc⟩ oT.2
      have u1 := Uq_all hS
      have u2 := Uq_all hT
      have et : trf (f + 1) (Γ, tAll a b, tAll a b') = 1 + (trf f (a :: Γ, b, b') + 0) := by
        rw [trf]
        simp only [e1]
        rw [r1]
        rfl
      have pl : PL Γ (tAll a b) = Uq Γ (tAll a b) - 2 := if_neg (by rw [hd_all]; omega)
      have pt : PT Γ (tAll a b) (tAll a b') = Uq Γ (tAll a b') - 1 + 0 := by
        unfold PT
        rw [if_neg (by rw [hd_all]; omega), if_neg (by rw [hd_all]; omega)]
      rw [et, Aq_all, Aq_all, pl, pt]
      constructor <;> omega
theorem truB_S (tk : tok (Γ, S, T)) : tru (Γ, S, T) ≤ PSq Γ S T + (Aq Γ S + Aq Γ T) ∧ tru (Γ, S, T) ≤ PT Γ S T + (Aq Γ S + Aq Γ T) := by
  have hc : okc Γ := tk.1
  have hS : ok Γ.length S = true := tk.2.1
  have hT : ok Γ.length T = true := tk.2.2
  have tk' : tok (Γ, T, S) := ⟨hc, hT, hS⟩
  obtain ⟨a1, a2⟩ := trB (twt (Γ, S, T)) Γ S T tk
  obtain ⟨b1, b2⟩ := trB (twt (Γ, T, S)) Γ T S tk'
  have lS : PL Γ S ≤ PSq Γ S T := by
    unfold PL PSq
    by_cases h0 : hd S = 0
    · have e : S = tTop := by
        rcases ok_cases hS with rfl | ⟨k, hk, rfl⟩ | ⟨a, c, rfl, ha, hb⟩ | ⟨a, c, rfl, ha, hb⟩ | ⟨m, x, y, z, hm, rfl, -, -, -⟩
        · rfl
        · rw [hd_var] at h0; omega
        · rw [hd_fun] at h0; omega
        · rw [hd_all] at h0; omega
        · rw [hd_rec] at h0; omega
      rw [if_neg (by omega), if_pos h0, e, Uq_top]
      exact Nat.le_refl _
    · rw [if_neg h0]
      split
      · omega
      · split <;> omega
  have lS' : PT Γ T S ≤ PSq Γ S T := by
    unfold PT PSq
    by_cases h0 : hd S = 0
    · rw [if_pos h0, if_pos h0]; exact Nat.le_refl _
    · have u2 := Uq_two hc hS h0
      rw [if_neg h0, if_neg h0]
      split <;> split <;> omega
  have lT : PL Γ T ≤ PT Γ S T := by
    unfold PL PT
    by_cases h0 : hd T = 0
    · have e : T = tTop := by
        rcases ok_cases hT with rfl | ⟨k, hk, rfl⟩ | ⟨a, c, rfl, ha, hb⟩ | ⟨a, c, rfl, ha, hb⟩ | ⟨m, x, y, z, hm, rfl, -, -, -⟩
        · rfl
        · rw [hd_var] at h0; omega
        · rw [hd_fun] at h0; omega
        · rw [hd_all] at h0; omega
        · rw [hd_rec] at h0; omega
      rw [if_neg (by omega), if_pos h0, e, Uq_top]
      exact Nat.le_refl _
    · rw [if_neg h0]
      split <;> omega
  constructor
  · show max (trf (twt (Γ, S, T)) (Γ, S, T)) (trf (twt (Γ, T, S)) (Γ, T, S)) ≤ _
    omega
  · show max (trf (twt (Γ, S, T)) (Γ, S, T)) (trf (twt (Γ, T, S)) (Γ, T, S)) ≤ _
    omega
theorem gmB : ∀ (f : Nat) (w : Nat) (Γ : List Ty) (S T : Ty), w ≤ 1 → tok (Γ, S, T) → gmf f (w, Γ, S, T) ≤ PSq Γ S T + (Aq Γ S + Aq Γ T) ∧ gmf f (w, Γ, S, T) ≤ PT Γ S T + (Aq Γ S + Aq Γ T)
  | 0, _, _, _, _, _, _ => ⟨Nat.zero_le _, Nat.zero_le _⟩
  | f + 1, w, Γ, S, T, w3, tk => by
    have w2 : w ≠ 2 := by omega
    have hc : okc Γ := tk.1
    have hS : ok Γ.length S = true := tk.2.1
    have hT : ok Γ.length T = true := tk.2.2
    obtain ⟨tu1, tu2⟩ := truB_S tk
    have ih := fun (w' : Nat) (Γ' : List Ty) (S' T' : Ty) (h1 : w' ≤ 1) (h : tok (Γ', S', T')) => (show gmf f (w', Γ', S', T') ≤ Uq Γ' S' + (Aq Γ' S' + Aq Γ' T') ∧ gmf f (w', Γ', S', T') ≤ Uq Γ' T' + (Aq Γ' S' + Aq Γ' T') by
      obtain ⟨i1, i2⟩ := gmB f w' Γ' S' T' h1 h
      have hc' : okc Γ' := h.1
      have l1 := PSq_le (T := T') hc' (show ok Γ'.length S' = true from h.2.1)
      have l2 := PT_le (S := S') hc' (show ok Γ'.length T' = true from h.2.2)
      exact ⟨by omega, by omega⟩)
    suffices h : gro (w, Γ, S, T) + sgl (gmf f) (gcs (w, Γ, S, T)) ≤ PSq Γ S T + (Aq Γ S + Aq Γ T) ∧ gro (w, Γ, S, T) + sgl (gmf f) (gcs (w, Γ, S, T)) ≤ PT Γ S T + (Aq Γ S + Aq Γ T) by
      constructor
      · show (if w = 2 then 0 else max (tru (Γ, S, T)) (gro (w, Γ, S, T) + sgl (gmf f) (gcs (w, Γ, S, T)))) ≤ _
        rw [if_neg w2]
        omega
      · show (if w = 2 then 0 else max (tru (Γ, S, T)) (gro (w, Γ, S, T) + sgl (gmf f) (gcs (w, Γ, S, T)))) ≤ _
        rw [if_neg w2]
        omega
    by_cases bl : bel Γ S T = true ∨ bel Γ T S = true
    · rw [gcs_of_bel bl, gro_bel bl]; exact ⟨Nat.zero_le _, Nat.zero_le _⟩
    have h0 : hd S ≠ 0 := fun e => bl (Or.inr (bel_top ⟨hc, hT, hS⟩ e))
    have h1 : hd T ≠ 0 := fun e => bl (Or.inl (bel_top tk e))
    have uS := Uq_two hc hS h0
    have uT := Uq_two hc hT h1
    rcases gcs_cases (w := w) tk w2 with ⟨g1, g2, g3⟩ | ⟨w1, k, hk, rfl, g1, g2, g3⟩ | ⟨w1, n1, k, hk, rfl, g1, g2, g3⟩ | ⟨m, X0, X1, X2, m', Y0, Y1, Y2, hm, hm', rfl, rfl, g1, g2, g3⟩ | ⟨A, C, A', C', rfl, rfl, g1, g2, g3⟩ | ⟨A, C, C', rfl, rfl, g1, g2, g3⟩
    · rw [g1]
      have e : sgl (gmf f) [] = 0 := rfl
      rw [e]
      unfold PSq PT
      rw [if_neg h0, if_neg h1]
      constructor
      · split
        · omega
        · split <;> omega
      · split <;> omega
    · have oL := ok_expose hc hk
      obtain ⟨i1, i2⟩ := gmB f w Γ (lft k (Γ.length - k) (bnd Γ k)) T w3 ⟨hc, oL, hT⟩
      have l1 := PSq_le (T := T) hc oL
      have e : sgl (gmf f) [(w, Γ, lft k (Γ.length - k) (bnd Γ k), T)] = gmf f (w, Γ, lft k (Γ.length - k) (bnd Γ k), T) + 0 := rfl
      have hv : 16 ≤ hd (tVar k) := by rw [hd_var]; omega
      rw [g1, g2, e]
      have ps : PSq Γ (tVar k) T = Uq Γ (tVar k) := by
        unfold PSq
        rw [if_neg h0, if_pos hv]
      have pt : PT Γ (tVar k) T = Uq Γ T - 1 + 1 := by
        unfold PT
        rw [if_neg h1, if_pos hv]
      have pt' : PT Γ (lft k (Γ.length - k) (bnd Γ k)) T = Uq Γ T - 1 + (if 16 ≤ hd (lft k (Γ.length - k) (bnd Γ k)) then 1 else 0) := by
        unfold PT
        rw [if_neg h1]
      rw [pt'] at i2
      rw [ps, pt]
      rcases Uq_ex hc hk with ⟨c, u, a⟩ | ⟨c, u, a⟩
      · rw [if_pos c] at i2
        constructor <;> omega
      · rw [if_neg c] at i2
        constructor <;> omega
    · have oL := ok_expose hc hk
      obtain ⟨i1, i2⟩ := gmB f w Γ S (lft k (Γ.length - k) (bnd Γ k)) w3 ⟨hc, hS, oL⟩
      have l2 := PT_le (S := S) hc oL
      have e : sgl (gmf f) [(w, Γ, S, lft k (Γ.length - k) (bnd Γ k))] = gmf f (w, Γ, S, lft k (Γ.length - k) (bnd Γ k)) + 0 := rfl
      have hv : 16 ≤ hd (tVar k) := by rw [hd_var]; omega
      rw [g1, g2, e]
      have ps : PSq Γ S (tVar k) = Uq Γ S - 1 + 1 := by
        unfold PSq
        rw [if_neg h0, if_neg n1, if_pos hv]
      have pt : PT Γ S (tVar k) = Uq Γ (tVar k) - 1 + 0 := by
        unfold PT
        rw [if_neg h1, if_neg n1]
      have ps' : PSq Γ S (lft k (Γ.length - k) (bnd Γ k)) = Uq Γ S - 1 + (if 16 ≤ hd (lft k (Γ.length - k) (bnd Γ k)) then 1 else 0) := by
        unfold PSq
        rw [if_neg h0, if_neg n1]
      rw [ps'] at i1
      rw [ps, pt]
      rcases Uq_ex hc hk with ⟨c, u, a⟩ | ⟨c, u, a⟩
      · rw [if_pos c] at i1
        have pt' : PT Γ S (lft k (Γ.length - k) (bnd Γ k)) = Uq Γ (lft k (Γ.length - k) (bnd Γ k)) - 1 + 0 := by
          unfold PT
          rw [if_neg (by omega), if_neg n1]
        constructor <;> omega
      · rw [if_neg c] at i1
        have pt' : PT Γ S (lft k (Γ.length - k) (bnd Γ k)) ≤ Uq Γ (lft k (Γ.length - k) (bnd Γ k)) - 1 := by
          by_cases hL : hd (lft k (Γ.length - k) (bnd Γ k)) = 0
          · unfold PT
            rw [if_pos hL]
            exact Nat.zero_le _
          · unfold PT
            rw [if_neg hL, if_neg n1]
            exact Nat.le_refl _
        constructor <;> omega
    · have oS := (ok_rec hm).mp hS
      have oT := (ok_rec hm').mp hT
      have f2 : ∀ z : Gz, z.1 = 2 → gmf f z = 0 := fun z h => gmf_two f h
      have key : ∀ (i : Nat) (X Y : Ty), i < 3 → (bit m i = true → bit m' i = true → ok Γ.length X = true ∧ ok Γ.length Y = true) → sgl (gmf f) (gzl w Γ (lset w m m') m m' i X Y) ≤ Uq Γ X + (Aq Γ X + Aq Γ Y) ∧ sgl (gmf f) (gzl w Γ (lset w m m') m m' i X Y) ≤ Uq Γ Y + (Aq Γ X + Aq Γ Y) := by
        intro i X Y hi ho
        rcases gzl_cases (W := w) (Γ := Γ) (X := X) (Y := Y) (lset_in w m hm m' hm' i hi) with ⟨h1, h2, h3, e⟩ | ⟨h1, h2, h3, e⟩ | ⟨h1, h2, h3, e⟩ | ⟨h1, e⟩
        · rw [e]
          obtain ⟨oX, oY⟩ := ho h2 h3
          exact ih w Γ X Y w3 ⟨hc, oX, oY⟩
        · rw [e]
          have e9 : ∀ z : Gz, z.1 = 2 → sgl (gmf f) [z] = 0 := fun z h => by
            show gmf f z + 0 = 0
            rw [f2 _ h]
          rw [e9 _ rfl]; exact ⟨Nat.zero_le _, Nat.zero_le _⟩
        · rw [e]
          have e9 : ∀ z : Gz, z.1 = 2 → sgl (gmf f) [z] = 0 := fun z h => by
            show gmf f z + 0 = 0
            rw [f2 _ h]
          rw [e9 _ rfl]; exact ⟨Nat.zero_le _, Nat.zero_le _⟩
        · rw [e]; exact ⟨Nat.zero_le _, Nat.zero_le _⟩
      have k0 := key 0 X0 Y0 (by decide) (fun b1 b2 => ⟨okl_on oS.1 (bit_iff.mp b1), okl_on oT.1 (bit_iff.mp b2)⟩)
      have k1 := key 1 X1 Y1 (by decide) (fun b1 b2 => ⟨okl_on oS.2.1 (bit_iff.mp b1), okl_on oT.2.1 (bit_iff.mp b2)⟩)
      have k2 := key 2 X2 Y2 (by decide) (fun b1 b2 => ⟨okl_on oS.2.2 (bit_iff.mp b1), okl_on oT.2.2 (bit_iff.mp b2)⟩)
      have ps : PSq Γ (tRec m X0 X1 X2) (tRec m' Y0 Y1 Y2) = Uq Γ (tRec m X0 X1 X2) - 1 + 0 := by
        unfold PSq
        rw [if_neg h0, if_neg (by rw [hd_rec]; omega), if_neg (by rw [hd_rec]; omega)]
      have pt : PT Γ (tRec m X0 X1 X2) (tRec m' Y0 Y1 Y2) = Uq Γ (tRec m' Y0 Y1 Y2) - 1 + 0 := by
        unfold PT
        rw [if_neg h1, if_neg (by rw [hd_rec]; omega)]
      rw [g1, g2, sgl_app, sgl_app, ps, pt, Uq_rec, Uq_rec, Aq_rec, Aq_rec]
      constructor <;> omega
    · have oS := ok_fun.mp hS
      have oT := ok_fun.mp hT
      have q1 := ih (1 - w) Γ A A' (by omega) ⟨hc, oS.1, oT.1⟩
      have q2 := ih w Γ C C' w3 ⟨hc, oS.2, oT.2⟩
      have ps : PSq Γ (tFun A C) (tFun A' C') = Uq Γ (tFun A C) - 1 + 0 := by
        unfold PSq
        rw [if_neg h0, if_neg (by rw [hd_fun]; omega), if_neg (by rw [hd_fun]; omega)]
      have pt : PT Γ (tFun A C) (tFun A' C') = Uq Γ (tFun A' C') - 1 + 0 := by
        unfold PT
        rw [if_neg h1, if_neg (by rw [hd_fun]; omega)]
      have e : sgl (gmf f) [(1 - w, Γ, A, A'), (w, Γ, C, C')] = gmf f (1 - w, Γ, A, A') + (gmf f (w, Γ, C, C') + 0) := rfl
      rw [g1, g2, e, ps, pt, Uq_fun, Uq_fun, Aq_fun, Aq_fun]
      constructor <;> omega
    · have oS := ok_all.mp hS
      have oT := ok_all.mp hT
      have q2 := ih w (A :: Γ) C C' w3 ⟨⟨oS.1, hc⟩, oS.2, oT.2⟩
      have u1 := Uq_all hS
      have u2 := Uq_all hT
      have ps : PSq Γ (tAll A C) (tAll A C') = Uq Γ (tAll A C) - 1 + 0 := by
        unfold PSq
        rw [if_neg h0, if_neg (by rw [hd_all]; omega), if_neg (by rw [hd_all]; omega)]
      have pt : PT Γ (tAll A C) (tAll A C') = Uq Γ (tAll A C') - 1 + 0 := by
        unfold PT
        rw [if_neg h1, if_neg (by rw [hd_all]; omega)]
      have e : sgl (gmf f) [(w, A :: Γ, C, C')] = gmf f (w, A :: Γ, C, C') + 0 := rfl
      rw [g1, g2, e, ps, pt, Aq_all, Aq_all]
      constructor <;> omega
/-- rows of a join and of a comparison, whatever chains there are -/
theorem gm_B (tk : tok (Γ, S, T)) {w : Nat} (w1 : w ≤ 1) : gm (w, Γ, S, T) ≤ Uq Γ S + (Aq Γ S + Aq Γ T) ∧ gm (w, Γ, S, T) ≤ Uq Γ T + (Aq Γ S + Aq Γ T) := by
  obtain ⟨i1, i2⟩ := gmB (twt (Γ, S, T)) w Γ S T w1 tk
  have hc : okc Γ := tk.1
  have l1 := PSq_le (T := T) hc (show ok Γ.length S = true from tk.2.1)
  have l2 := PT_le (S := S) hc (show ok Γ.length T = true from tk.2.2)
  exact ⟨by show gmf (twt (Γ, S, T)) (w, Γ, S, T) ≤ _; omega, by show gmf (twt (Γ, S, T)) (w, Γ, S, T) ≤ _; omega⟩
theorem trx_B (tk : tok (Γ, S, T)) : trx (Γ, S, T) ≤ Uq Γ S + (Aq Γ S + Aq Γ T) ∧ trx (Γ, S, T) ≤ Uq Γ T + (Aq Γ S + Aq Γ T) := by
  obtain ⟨i1, i2⟩ := trB (twt (Γ, S, T)) Γ S T tk
  have hc : okc Γ := tk.1
  have l1 := PL_le (Γ := Γ) (S := S)
  have l2 := PT_le (S := S) hc (show ok Γ.length T = true from tk.2.2)
  exact ⟨by show trf (twt (Γ, S, T)) (Γ, S, T) ≤ _; omega, by show trf (twt (Γ, S, T)) (Γ, S, T) ≤ _; omega⟩
theorem LJ_B (tk : tok (Γ, S, T)) (hx : cch Γ ≤ 56) (lS : (flat S).length ≤ 16) (lT : (flat T).length ≤ 16) (q : (Uq Γ S + (Aq Γ S + Aq Γ T) ≤ 887 ∧ nz 1 ngc 1 (fun x => x) (onz 1 ngc 1 (fun x => x) Γ) S ≤ 597) ∨ (Uq Γ T + (Aq Γ S + Aq Γ T) ≤ 887 ∧ nz 1 ngc 1 (fun x => x) (onz 1 ngc 1 (fun x => x) Γ) T ≤ 597)) : LJ Γ S T := by
  have a1 := hgt_ctx tk.1 tk.2.1 lS hx
  have a2 := hgt_ctx tk.1 tk.2.2 lT hx
  obtain ⟨g1, g2⟩ := gm_B tk (Nat.zero_le 1)
  have a4 : gn (0, Γ, S, T) ≤ 597 := by
    rcases q with ⟨-, q⟩ | ⟨-, q⟩
    · exact Nat.le_trans (gn_S (z := (0, Γ, S, T)) tk (Nat.zero_le 1)) (Nat.le_trans (ugS_nz tk.1 tk.2.1) q)
    · exact Nat.le_trans (gn_T (z := (0, Γ, S, T)) tk (Nat.zero_le 1)) (Nat.le_trans (ugT_nz tk.1 tk.2.2) q)
  exact ⟨Nat.le_trans (Nat.add_le_add a1 a2) (by decide), by omega, Nat.add_le_add_right a4 3⟩
theorem LB_B (tk : tok (Γ, S, T)) (hx : cch Γ ≤ 56) (lS : (flat S).length ≤ 16) (lT : (flat T).length ≤ 16) (q : Uq Γ S + (Aq Γ S + Aq Γ T) ≤ 887 ∨ Uq Γ T + (Aq Γ S + Aq Γ T) ≤ 887) : LB Γ S T := by
  have a1 := hgt_ctx tk.1 tk.2.1 lS hx
  have a2 := hgt_ctx tk.1 tk.2.2 lT hx
  have a3 := trx_B tk
  have l := len_cch Γ
  refine ⟨Nat.le_trans (Nat.add_le_add a1 a2) (by decide), by omega, by omega⟩
end PmZi1a
