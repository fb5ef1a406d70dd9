/-! CHOICES UNDER ANY ARGUMENTS: the bounds of the schemes on the way are worth no more than E, whatever waits. -/
def UB (t0 : Nat) (n1 : Nat → Nat) (s2 : Nat) (h : Nat → Nat) (E : Stk → Nat) (Y : Nat) : Ty → List Nat → Prop
  | .tag c (.append s t), ω => if c = 2 then (∀ ρ : Stk, ρ ≠ [] → vz t0 n1 s2 h E s ρ ω ≤ E ρ) ∧ UB t0 n1 s2 h E Y s ω ∧ ∀ z, z ≤ Y → UB t0 n1 s2 h E Y t (hzx h z (nz t0 n1 s2 h ω s) :: ω) else if c = 1 then UB t0 n1 s2 h E Y t ω else UB t0 n1 s2 h E Y s ω ∧ UB t0 n1 s2 h E Y t ω
  | .append s t, ω => UB t0 n1 s2 h E Y s ω ∧ UB t0 n1 s2 h E Y t ω
  | _, _ => True
section PmZh1
variable {t0 s2 Y : Nat} {n1 h : Nat → Nat} {E : Stk → Nat}
theorem UB_top (ω : List Nat) : UB t0 n1 s2 h E Y tTop ω := by unfold tTop; simp [UB]
theorem UB_var (k : Nat) (ω : List Nat) : UB t0 n1 s2 h E Y (tVar k) ω := by unfold tVar; simp [UB]
theorem UB_nil (ω : List Nat) : UB t0 n1 s2 h E Y .nil ω := by simp [UB]
theorem UB_fun {a b : Ty} {ω : List Nat} : UB t0 n1 s2 h E Y (tFun a b) ω ↔ UB t0 n1 s2 h E Y b ω := by
  unfold tFun; rw [UB, if_neg (by decide), if_pos rfl]
theorem UB_all {a b : Ty} {ω : List Nat} : UB t0 n1 s2 h E Y (tAll a b) ω ↔ (∀ ρ : Stk, ρ ≠ [] → vz t0 n1 s2 h E a ρ ω ≤ E ρ) ∧ UB t0 n1 s2 h E Y a ω ∧ ∀ z, z ≤ Y → UB t0 n1 s2 h E Y b (hzx h z (nz t0 n1 s2 h ω a) :: ω) := by
  unfold tAll; rw [UB, if_pos rfl]
theorem UB_rec {m : Nat} {x y z : Ty} {ω : List Nat} : UB t0 n1 s2 h E Y (tRec m x y z) ω ↔ UB t0 n1 s2 h E Y x ω ∧ UB t0 n1 s2 h E Y y ω ∧ UB t0 n1 s2 h E Y z ω := by
  unfold tRec; rw [UB, if_neg (by omega), if_neg (by omega), UB]
/-- it falls with the values -/
theorem UB_mono (hh : ∀ y y', y ≤ y' → h y ≤ h y') : ∀ (f : Nat) (t : Ty) (ω ω' : List Nat), (flat t).length ≤ f → ω'.length = ω.length → ok ω.length t = true → (∀ j, j < ω.length → vw ω j ≤ vw ω' j) → UB t0 n1 s2 h E Y t ω' → UB t0 n1 s2 h E Y t ω
  | 0, t, ω, ω', hf, hl, o, hw, _ => by have := flat_pos o; omega
  | f + 1, t, ω, ω', hf, hl, o, hw, hu => by
    rcases ok_cases o with rfl | ⟨j, hj, rfl⟩ | ⟨a, c, rfl, ha, hb⟩ | ⟨a, c, rfl, ha, hb⟩ | ⟨m, x, y, z, hm, rfl, h0, h1, h2⟩
    · exact UB_top _
    · exact UB_var _ _
    · rw [flat_fun, List.length_cons, List.length_append] at hf
      exact UB_fun.mpr (UB_mono hh f c ω ω' (by omega) hl hb hw (UB_fun.mp hu))
    · rw [flat_all, List.length_cons, List.length_append] at hf
      obtain ⟨g, u, v⟩ := UB_all.mp hu
      refine UB_all.mpr ⟨fun ρ hρ => Nat.le_trans (vz_mono (t0 := t0) (n1 := n1) (s2 := s2) (h := h) (E := E) hh _ a ρ ω ω' (Nat.le_refl _) hl ha hw) (g ρ hρ), UB_mono hh f a ω ω' (by omega) hl ha hw u, fun z hz => ?_⟩
      refine UB_mono hh f c (hzx h z (nz t0 n1 s2 h ω a) :: ω) (hzx h z (nz t0 n1 s2 h ω' a) :: ω') (by omega) (by rw [List.length_cons, List.length_cons, hl]) (by rw [List.length_cons]; exact hb) (fun j hj => ?_) (v z hz)
      rw [vw_cons, vw_cons, hl]
      by_cases e : j = ω.length
      · rw [if_pos e, if_pos e]
        have q := vz_mono (t0 := t0) (n1 := n1) (s2 := s2) (h := h) (E := E) hh _ a [] ω ω' (Nat.le_refl _) hl ha hw
        rw [vz_no ha, vz_no (show ok ω'.length a = true by rw [hl]; exact ha)] at q
        have := hh _ _ q
        unfold hzx
        omega
      · rw [if_neg e, if_neg e]
        rw [List.length_cons] at hj
        exact hw j (by omega)
    · rw [flat_rec, List.length_cons, List.length_append, List.length_append] at hf
      obtain ⟨u0, u1, u2⟩ := UB_rec.mp hu
      have key : ∀ (i : Nat) (p : Ty), (flat p).length ≤ f → okl ω.length m i p → UB t0 n1 s2 h E Y p ω' → UB t0 n1 s2 h E Y p ω := by
        intro i p hp ho up
        unfold okl at ho
        by_cases hb : bit m i = true
        · rw [if_pos hb] at ho
          exact UB_mono hh f p ω ω' hp hl ho hw up
        · rw [if_neg hb] at ho
          rw [ho]; exact UB_nil _
      exact UB_rec.mpr ⟨key 0 x (by omega) h0 u0, key 1 y (by omega) h1 u1, key 2 z (by omega) h2 u2⟩
theorem UB_lft (ν ω : List Nat) : ∀ (f : Nat) (t : Ty) (μ : List Nat), (flat t).length ≤ f → ok (ω.length + μ.length) t = true → UB t0 n1 s2 h E Y t (μ ++ ω) → UB t0 n1 s2 h E Y (lft ω.length ν.length t) (μ ++ (ν ++ ω))
  | 0, t, μ, hf, o, _ => by have := flat_pos o; omega
  | f + 1, t, μ, hf, o, hu => by
    rcases ok_cases o with rfl | ⟨j, hj, rfl⟩ | ⟨a, c, rfl, ha, hb⟩ | ⟨a, c, rfl, ha, hb⟩ | ⟨m, x, y, z, hm, rfl, h0, h1, h2⟩
    · rw [lft_top]; exact UB_top _
    · rw [lft_var]
      by_cases e : ω.length ≤ j
      · rw [if_pos e]; exact UB_var _ _
      · rw [if_neg e]; exact UB_var _ _
    · rw [flat_fun, List.length_cons, List.length_append] at hf
      rw [lft_fun]
      exact UB_fun.mpr (UB_lft ν ω f c μ (by omega) hb (UB_fun.mp hu))
    · rw [flat_all, List.length_cons, List.length_append] at hf
      rw [lft_all]
      obtain ⟨g, u, v⟩ := UB_all.mp hu
      refine UB_all.mpr ⟨fun ρ hρ => ?_, UB_lft ν ω f a μ (by omega) ha u, fun z hz => ?_⟩
      · rw [vz_lft (t0 := t0) (n1 := n1) (s2 := s2) (h := h) (E := E) ν ω _ a ρ μ (Nat.le_refl _) ha]
        exact g ρ hρ
      · rw [nz_lft ν ω _ a μ (Nat.le_refl _) ha]
        have q := UB_lft ν ω f c (hzx h z (nz t0 n1 s2 h (μ ++ ω) a) :: μ) (by omega) (by rw [List.length_cons]; exact hb) (by rw [List.cons_append]; exact v z hz)
        rw [List.cons_append] at q
        exact q
    · rw [flat_rec, List.length_cons, List.length_append, List.length_append] at hf
      rw [lft_rec hm]
      obtain ⟨u0, u1, u2⟩ := UB_rec.mp hu
      have key : ∀ (i : Nat) (p : Ty), (flat p).length ≤ f → okl (ω.length + μ.length) m i p → UB t0 n1 s2 h E Y p (μ ++ ω) → UB t0 n1 s2 h E Y (lft ω.length ν.length p) (μ ++ (ν ++ ω)) := by
        intro i p hp ho up
        unfold okl at ho
        by_cases hb : bit m i = true
        · rw [if_pos hb] at ho
          exact UB_lft ν ω f p μ hp ho up
        · rw [if_neg hb] at ho
          rw [ho]
          exact UB_nil _
      exact UB_rec.mpr ⟨key 0 x (by omega) h0 u0, key 1 y (by omega) h1 u1, key 2 z (by omega) h2 u2⟩
/-- an instance -/
theorem UB_sbt (hh : ∀ y y', y ≤ y' → h y ≤ h y') (A : Ty) (ω : List Nat) (hA : ok ω.length A = true) (hE : ∀ ρ, ρ ≠ [] → vz t0 n1 s2 h E A ρ ω ≤ E ρ) (uA : UB t0 n1 s2 h E Y A ω) : ∀ (f : Nat) (t : Ty) (μ : List Nat), (flat t).length ≤ f → ok (ω.length + 1 + μ.length) t = true → UB t0 n1 s2 h E Y t (μ ++ (nz t0 n1 s2 h ω A :: ω)) → UB t0 n1 s2 h E Y (sbt ω.length A μ.length t) (μ ++ ω)
  | 0, t, μ, hf, o, _ => by have := flat_pos o; omega
  | f + 1, t, μ, hf, o, hu => by
    rcases ok_cases o with rfl | ⟨j, hj, rfl⟩ | ⟨a, c, rfl, ha, hb⟩ | ⟨a, c, rfl, ha, hb⟩ | ⟨m, x, y, z, hm, rfl, h0, h1, h2⟩
    · rw [sbt_top]; exact UB_top _
    · rw [sbt_var]
      by_cases e : j = ω.length
      · rw [if_pos e]
        have q := UB_lft (t0 := t0) (n1 := n1) (s2 := s2) (h := h) (E := E) (Y := Y) μ ω _ A [] (Nat.le_refl _) (by simpa using hA) uA
        exact q
      · rw [if_neg e]
        by_cases e2 : ω.length < j
        · rw [if_pos e2]; exact UB_var _ _
        · rw [if_neg e2]; exact UB_var _ _
    · rw [flat_fun, List.length_cons, List.length_append] at hf
      rw [sbt_fun]
      exact UB_fun.mpr (UB_sbt hh A ω hA hE uA f c μ (by omega) hb (UB_fun.mp hu))
    · rw [flat_all, List.length_cons, List.length_append] at hf
      rw [sbt_all]
      obtain ⟨g, u, v⟩ := UB_all.mp hu
      refine UB_all.mpr ⟨fun ρ hρ => ?_, UB_sbt hh A ω hA hE uA f a μ (by omega) ha u, fun z hz => ?_⟩
      · exact Nat.le_trans (vz_sbt (t0 := t0) (n1 := n1) (s2 := s2) (h := h) (E := E) hh A ω hA hE _ a ρ μ (Nat.le_refl _) ha) (g ρ hρ)
      · rw [nz_sbt A ω hA _ a μ (Nat.le_refl _) ha]
        have q := UB_sbt hh A ω hA hE uA f c (hzx h z (nz t0 n1 s2 h (μ ++ (nz t0 n1 s2 h ω A :: ω)) a) :: μ) (by omega) (by rw [List.length_cons]; exact hb) (by rw [List.cons_append]; exact v z hz)
        rw [List.cons_append, List.length_cons] at q
        exact q
    · rw [flat_rec, List.length_cons, List.length_append, List.length_append] at hf
      rw [sbt_rec]
      obtain ⟨u0, u1, u2⟩ := UB_rec.mp hu
      have key : ∀ (i : Nat) (p : Ty), (flat p).length ≤ f → okl (ω.length + 1 + μ.length) m i p → UB t0 n1 s2 h E Y p (μ ++ (nz t0 n1 s2 h ω A :: ω)) → UB t0 n1 s2 h E Y (sbt ω.length A μ.length p) (μ ++ ω) := by
        intro i p hp ho up
        unfold okl at ho
        by_cases hb : bit m i = true
        · rw [if_pos hb] at ho
          exact UB_sbt hh A ω hA hE uA f p μ hp ho up
        · rw [if_neg hb] at ho
          rw [ho]
          exact UB_nil _
      exact UB_rec.mpr ⟨key 0 x (by omega) h0 u0, key 1 y (by omega) h1 u1, key 2 z (by omega) h2 u2⟩
/-- of all bounds of the context -/
def HUB (t0 : Nat) (n1 : Nat → Nat) (s2 : Nat) (h : Nat → Nat) (E : Stk → Nat) (Y : Nat) : List Ty → List Nat → Prop
  | [], [] => True
  | b :: Γ, _ :: ω => UB t0 n1 s2 h E Y b ω ∧ HUB t0 n1 s2 h E Y Γ ω
  | _, _ => False
theorem HUB.len : ∀ {Γ : List Ty} {ω : List Nat}, HUB t0 n1 s2 h E Y Γ ω → ω.length = Γ.length
  | [], [], _ => rfl
  | _ :: Γ, _ :: ω, e => by
    have := HUB.len e.2
    rw [List.length_cons, List.length_cons, this]
  | [], _ :: _, e => e.elim
  | _ :: _, [], e => e.elim
theorem HUB.ext {Γ : List Ty} {ω : List Nat} (he : HUB t0 n1 s2 h E Y Γ ω) {B : Ty} (hB : UB t0 n1 s2 h E Y B ω) (v : Nat) : HUB t0 n1 s2 h E Y (B :: Γ) (v :: ω) := ⟨hB, he⟩
theorem HUB.bd : ∀ {Γ : List Ty} {ω : List Nat} {k : Nat}, okc Γ → HUB t0 n1 s2 h E Y Γ ω → k < Γ.length → ∃ ν ω1 : List Nat, ω = ν ++ ω1 ∧ ω1.length = k ∧ ok k (bnd Γ k) = true ∧ UB t0 n1 s2 h E Y (bnd Γ k) ω1
  | [], [], _, _, _, hk => absurd hk (Nat.not_lt_zero _)
  | b :: Γ, w :: ω, k, hc, hv, hk => by
    have hl := HUB.len hv.2
    by_cases e : k = Γ.length
    · refine ⟨[w], ω, rfl, by rw [hl, e], ?_, ?_⟩
      · show ok k (if k = Γ.length then b else _) = true
        rw [if_pos e, e]; exact hc.1
      · show UB t0 n1 s2 h E Y (if k = Γ.length then b else _) ω
        rw [if_pos e]; exact hv.1
    · obtain ⟨ν, ω1, e1, e2, e3, e4⟩ := HUB.bd (ω := ω) (Γ := Γ) (k := k) hc.2 hv.2 (by rw [List.length_cons] at hk; omega)
      refine ⟨w :: ν, ω1, by rw [e1]; rfl, e2, ?_, ?_⟩
      · show ok k (if k = Γ.length then b else bnd Γ k) = true
        rw [if_neg e]; exact e3
      · show UB t0 n1 s2 h E Y (if k = Γ.length then b else bnd Γ k) ω1
        rw [if_neg e]; exact e4
  | _ :: _, [], _, _, hv, _ => hv.elim
  | [], _ :: _, _, _, hv, _ => hv.elim
theorem HUB.exp {Γ : List Ty} {ω : List Nat} {k : Nat} (hc : okc Γ) (hv : HUB t0 n1 s2 h E Y Γ ω) (hk : k < Γ.length) : UB t0 n1 s2 h E Y (lft k (Γ.length - k) (bnd Γ k)) ω := by
  obtain ⟨ν, ω1, e1, e2, e3, e4⟩ := HUB.bd hc hv hk
  have hl := hv.len
  have el : Γ.length - k = ν.length := by rw [e1, List.length_append] at hl; omega
  have q := UB_lft (t0 := t0) (n1 := n1) (s2 := s2) (h := h) (E := E) (Y := Y) ν ω1 _ (bnd Γ k) [] (Nat.le_refl _) (by rw [e2]; simpa using e3) e4
  rw [List.nil_append, e2] at q
  rw [el, e1]
  exact q
theorem expo_UB {Γ : List Ty} {ω : List Nat} (hc : okc Γ) (he : HUB t0 n1 s2 h E Y Γ ω) : ∀ (f : Nat) (S : Ty), ok Γ.length S = true → UB t0 n1 s2 h E Y S ω → UB t0 n1 s2 h E Y (expo Γ f S) ω
  | 0, S, _, u => u
  | f + 1, S, o, u => by
    show UB t0 n1 s2 h E Y (if 16 ≤ hd S then expo Γ f (exps Γ S) else S) ω
    by_cases c : 16 ≤ hd S
    · rw [if_pos c]
      obtain ⟨k, hk, rfl⟩ := hd_is_var o c
      rw [exps_var]
      exact expo_UB hc he f _ (ok_expose hc hk) (he.exp hc hk)
    · rw [if_neg c]; exact u
theorem upart_UB {ω : List Nat} {r : Ty → Ty → Ru} {m m' i : Nat} {x y a : Ty} (hr : bit (lset 0 m m') i = true → bit m i = true → bit m' i = true → r x y = some a → UB t0 n1 s2 h E Y a ω) (ux : UB t0 n1 s2 h E Y x ω) (uy : UB t0 n1 s2 h E Y y ω) (e : upart r (lset 0 m m') m m' i x y = some a) : UB t0 n1 s2 h E Y a ω := by
  unfold upart at e
  by_cases h1 : bit (lset 0 m m') i = true
  · rw [if_pos h1] at e
    by_cases h2 : bit m i = true
    · rw [if_pos h2] at e
      by_cases h3 : bit m' i = true
      · rw [if_pos h3] at e; exact hr h1 h2 h3 e
      · rw [if_neg h3] at e; cases e; exact ux
    · rw [if_neg h2] at e; cases e; exact uy
  · rw [if_neg h1] at e; cases e; exact UB_nil _
/-- a join -/
theorem cu_UB : ∀ (f : Nat) (Γ : List Ty) (S T R : Ty) (ω : List Nat), HUB t0 n1 s2 h E Y Γ ω → tok (Γ, S, T) → UB t0 n1 s2 h E Y S ω → UB t0 n1 s2 h E Y T ω → cu f 0 Γ S T = some R → UB t0 n1 s2 h E Y R ω
  | 0, _, _, _, _, _, _, _, _, _, e => by cases e
  | f + 1, Γ, S, T, R, ω, hu, tk, uS, uT, e0 => by
    have hc : okc Γ := tk.1
    have hs : ok Γ.length S = true := tk.2.1
    have hT : ok Γ.length T = true := tk.2.2
    have top : ∀ R, R = tTop → UB t0 n1 s2 h E Y R ω := fun R e => by subst e; exact UB_top _
    have e : cmsU (cu f) 0 Γ S T = some R := e0
    unfold cmsU at e
    rw [if_neg (by decide)] at e
    by_cases c2 : bel Γ S T = true
    · rw [if_pos c2, if_pos rfl] at e; cases e; exact uT
    rw [if_neg c2] at e
    by_cases c3 : bel Γ T S = true
    · rw [if_pos c3, if_pos rfl] at e; cases e; exact uS
    rw [if_neg c3] at e
    by_cases c4 : 16 ≤ hd S
    · rw [if_pos c4, if_neg (by decide)] at e
      obtain ⟨k, hk, rfl⟩ := hd_is_var hs c4
      rw [exps_var] at e
      exact cu_UB f Γ _ T R ω hu ⟨hc, ok_expose hc hk, hT⟩ (hu.exp hc hk) uT e
    rw [if_neg c4] at e
    by_cases c6 : 16 ≤ hd T
    · rw [if_pos c6, if_neg (by decide)] at e
      obtain ⟨k, hk, rfl⟩ := hd_is_var hT c6
      rw [exps_var] at e
      exact cu_UB f Γ S _ R ω hu ⟨hc, hs, ok_expose hc hk⟩ uS (hu.exp hc hk) e
    rw [if_neg c6] at e
    by_cases c7 : 8 ≤ hd S ∧ 8 ≤ hd T
    · rw [if_pos c7] at e
      obtain ⟨m, x, y, z, hm, rfl⟩ := hd_is_rec hs c7.1 (by omega)
      obtain ⟨m', x', y', z', hm', rfl⟩ := hd_is_rec hT c7.2 (by omega)
      obtain ⟨h0, h1, h2⟩ := (ok_rec hm).mp hs
      obtain ⟨h0', h1', h2'⟩ := (ok_rec hm').mp hT
      rw [hd_rec, hd_rec, show 8 + m - 8 = m by omega, show 8 + m' - 8 = m' by omega] at e
      obtain ⟨u0, u1, u2⟩ := UB_rec.mp uS
      obtain ⟨v0, v1, v2⟩ := UB_rec.mp uT
      rcases uRec_some e with e | ⟨a, b, c, ea, eb, ec, e⟩
      · exact top R e
      · have key : ∀ i x x' a, okl Γ.length m i x → okl Γ.length m' i x' → UB t0 n1 s2 h E Y x ω → UB t0 n1 s2 h E Y x' ω → upart (cu f 0 Γ) (lset 0 m m') m m' i x x' = some a → UB t0 n1 s2 h E Y a ω := by
          intro i x x' a o o' ux ux' ea
          refine upart_UB (fun i0 i1 i2 hR => ?_) ux ux' ea
          exact cu_UB f Γ x x' a ω hu ⟨hc, okl_on o (bit_iff.mp i1), okl_on o' (bit_iff.mp i2)⟩ ux ux' hR
        rw [e]
        exact UB_rec.mpr ⟨key 0 x x' a h0 h0' u0 v0 ea, key 1 y y' b h1 h1' u1 v1 eb, key 2 z z' c h2 h2' u2 v2 ec⟩
    rw [if_neg c7] at e
    by_cases c8 : hd S = 1 ∧ hd T = 1
    · rw [if_pos c8] at e
      obtain ⟨a, b, rfl, ha, hb⟩ := hd_is_fun hs c8.1
      obtain ⟨a', b', rfl, ha', hb'⟩ := hd_is_fun hT c8.2
      rcases uFun_some e with e | ⟨p', q, ep, eq, e⟩
      · exact top R e
      · rw [e]
        exact UB_fun.mpr (cu_UB f Γ b b' q ω hu ⟨hc, hb, hb'⟩ (UB_fun.mp uS) (UB_fun.mp uT) eq)
    rw [if_neg c8] at e
    by_cases c9 : hd S = 2 ∧ hd T = 2 ∧ flat (k1 S) = flat (k1 T)
    · rw [if_pos c9] at e
      obtain ⟨a, b, rfl, ha, hb⟩ := hd_is_all hs c9.1
      obtain ⟨a', b', rfl, ha', hb'⟩ := hd_is_all hT c9.2.1
      have ea : a = a' := flat_eq ha ha' c9.2.2
      subst ea
      rcases uAll_some e with e | ⟨q, eq, e⟩
      · exact top R e
      · have e : R = tAll a q := e
        obtain ⟨g, u, v⟩ := UB_all.mp uS
        obtain ⟨-, -, v'⟩ := UB_all.mp uT
        rw [e]
        exact UB_all.mpr ⟨g, u, fun z hz => cu_UB f (a :: Γ) b b' q _ (hu.ext u _) ⟨⟨ha, hc⟩, hb, hb'⟩ (v z hz) (v' z hz) eq⟩
    rw [if_neg c9] at e
    exact top R (tnu_some e)
/-- all arguments that wait are worth at most Y -/
def SkY (Y : Nat) : Stk → Prop
  | [] => True
  | none :: ρ => SkY Y ρ
  | some z :: ρ => z ≤ Y ∧ SkY Y ρ
theorem cu_vzY (hn : NC t0 n1 s2 h) : ∀ (f : Nat) (Γ : List Ty) (S T R : Ty) (π : Stk) (ω : List Nat), CV t0 n1 s2 h ω Γ → HEk t0 n1 s2 h E Γ ω → HUB t0 n1 s2 h E Y Γ ω → SkY Y π → tok (Γ, S, T) → ok Γ.length R = true → UB t0 n1 s2 h E Y S ω → UB t0 n1 s2 h E Y T ω → cu f 0 Γ S T = some R → vz t0 n1 s2 h E R π ω ≤ vz t0 n1 s2 h E S π ω + vz t0 n1 s2 h E T π ω
  | 0, _, _, _, _, _, _, _, _, _, _, _, _, _, _, e => by cases e
  | f + 1, Γ, S, T, R, π, ω, hv, he, hu, ck, tk, oR, uS, uT, e0 => by
    have hc : okc Γ := tk.1
    have hs : ok Γ.length S = true := tk.2.1
    have hT : ok Γ.length T = true := tk.2.2
    cases π with
    | nil =>
      rw [vz_no oR, vz_no hs, vz_no hT]
      exact cu_nz hn _ 0 Γ S T R ω hv tk e0
    | cons p ρ =>
      have top : ∀ R, R = tTop → vz t0 n1 s2 h E R (p :: ρ) ω ≤ vz t0 n1 s2 h E S (p :: ρ) ω + vz t0 n1 s2 h E T (p :: ρ) ω := by
        intro R e; subst e
        rw [vz_top]; omega
      have e : cmsU (cu f) 0 Γ S T = some R := e0
      unfold cmsU at e
      rw [if_neg (by decide)] at e
      by_cases c2 : bel Γ S T = true
      · rw [if_pos c2, if_pos rfl] at e; cases e; omega
      rw [if_neg c2] at e
      by_cases c3 : bel Γ T S = true
      · rw [if_pos c3, if_pos rfl] at e; cases e; omega
      rw [if_neg c3] at e
      by_cases c4 : 16 ≤ hd S
      · rw [if_pos c4, if_neg (by decide)] at e
        obtain ⟨k, hk, rfl⟩ := hd_is_var hs c4
        rw [exps_var] at e
        have q := cu_vzY hn f Γ _ T R (p :: ρ) ω hv he hu ck ⟨hc, ok_expose hc hk, hT⟩ oR (hu.exp hc hk) uT e
        have q2 := he.exp hc hk (ρ := p :: ρ) (by simp)
        rw [vz_var]; omega
      rw [if_neg c4] at e
      by_cases c6 : 16 ≤ hd T
      · rw [if_pos c6, if_neg (by decide)] at e
        obtain ⟨k, hk, rfl⟩ := hd_is_var hT c6
        rw [exps_var] at e
        have q := cu_vzY hn f Γ S _ R (p :: ρ) ω hv he hu ck ⟨hc, hs, ok_expose hc hk⟩ oR uS (hu.exp hc hk) e
        have q2 := he.exp hc hk (ρ := p :: ρ) (by simp)
        rw [vz_var]; omega
      rw [if_neg c6] at e
      by_cases c7 : 8 ≤ hd S ∧ 8 ≤ hd T
      · rw [if_pos c7] at e
        obtain ⟨m, x, y, z, hm, rfl⟩ := hd_is_rec hs c7.1 (by omega)
        obtain ⟨m', x', y', z', hm', rfl⟩ := hd_is_rec hT c7.2 (by omega)
        obtain ⟨h0, h1, h2⟩ := (ok_rec hm).mp hs
        obtain ⟨h0', h1', h2'⟩ := (ok_rec hm').mp hT
        rw [hd_rec, hd_rec, show 8 + m - 8 = m by omega, show 8 + m' - 8 = m' by omega] at e
        obtain ⟨u0, u1, u2⟩ := UB_rec.mp uS
        obtain ⟨v0, v1, v2⟩ := UB_rec.mp uT
        rcases uRec_some e with e | ⟨a, b, c, ea, eb, ec, e⟩
        · exact top R e
        · cases p with
          | some w => rw [e, vz_recS]; exact Nat.zero_le _
          | none =>
            rw [e] at oR
            obtain ⟨r0, r1, r2'⟩ := (ok_rec (and8 m hm m' hm').2).mp oR
            have key : ∀ i x x' a, i < 3 → okl Γ.length m i x → okl Γ.length m' i x' → okl Γ.length (lset 0 m m') i a → UB t0 n1 s2 h E Y x ω → UB t0 n1 s2 h E Y x' ω → upart (cu f 0 Γ) (lset 0 m m') m m' i x x' = some a → vz t0 n1 s2 h E a ρ ω ≤ vz t0 n1 s2 h E x ρ ω + vz t0 n1 s2 h E x' ρ ω := by
              intro i x x' a hi o o' oa ux ux' ea
              refine upart_vz hm hm' hi (fun i0 i1 i2 hR => ?_) ea
              have tk' : tok (Γ, x, x') := ⟨hc, okl_on o (bit_iff.mp i1), okl_on o' (bit_iff.mp i2)⟩
              exact cu_vzY hn f Γ x x' a ρ ω hv he hu ck tk' (okl_on oa (bit_iff.mp i0)) ux ux' hR
            have q0 := key 0 x x' a (by decide) h0 h0' r0 u0 v0 ea
            have q1 := key 1 y y' b (by decide) h1 h1' r1 u1 v1 eb
            have q2 := key 2 z z' c (by decide) h2 h2' r2' u2 v2 ec
            rw [e, vz_recN, vz_recN, vz_recN]; omega
      rw [if_neg c7] at e
      by_cases c8 : hd S = 1 ∧ hd T = 1
      · rw [if_pos c8] at e
        obtain ⟨a, b, rfl, ha, hb⟩ := hd_is_fun hs c8.1
        obtain ⟨a', b', rfl, ha', hb'⟩ := hd_is_fun hT c8.2
        rcases uFun_some e with e | ⟨p', q, ep, eq, e⟩
        · exact top R e
        · cases p with
          | some w => rw [e, vz_funS]; exact Nat.zero_le _
          | none =>
            have tk' : tok (Γ, b, b') := ⟨hc, hb, hb'⟩
            rw [e] at oR
            have q2 := cu_vzY hn f Γ b b' q ρ ω hv he hu ck tk' (ok_fun.mp oR).2 (UB_fun.mp uS) (UB_fun.mp uT) eq
            rw [e, vz_funN, vz_funN, vz_funN]; exact q2
      rw [if_neg c8] at e
      by_cases c9 : hd S = 2 ∧ hd T = 2 ∧ flat (k1 S) = flat (k1 T)
      · rw [if_pos c9] at e
        obtain ⟨a, b, rfl, ha, hb⟩ := hd_is_all hs c9.1
        obtain ⟨a', b', rfl, ha', hb'⟩ := hd_is_all hT c9.2.1
        have ea : a = a' := flat_eq ha ha' c9.2.2
        subst ea
        rcases uAll_some e with e | ⟨q, eq, e⟩
        · exact top R e
        · have e : R = tAll a q := e
          cases p with
          | none => rw [e, vz_allN]; exact Nat.zero_le _
          | some w =>
            obtain ⟨g, u, v⟩ := UB_all.mp uS
            obtain ⟨-, -, v'⟩ := UB_all.mp uT
            have tk' : tok (a :: Γ, b, b') := ⟨⟨ha, hc⟩, hb, hb'⟩
            rw [e] at oR
            have oq := (ok_all.mp oR).2
            have q1 := cu_vzY hn f (a :: Γ) b b' q ρ _ (hv.extz hn hc ha w) (he.ext g _) (hu.ext u _) ck.2 tk' oq (v w ck.1) (v' w ck.1) eq
            rw [e, vz_allS, vz_allS, vz_allS]
            exact q1
      rw [if_neg c9] at e
      exact top R (tnu_some e)
end PmZh1
