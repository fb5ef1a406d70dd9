/-! A SCHEME WITH BOUND TOP that is no shorter than the others: pairs. -/
def lgE (co : Bool) (m k q1 q2 : Nat) : Bool := npl true true co m k q1 q2 || (ndk q1 q2 || (Nat.blt 58 (9 + k + q1 + q2 + 2 * m) || ((Nat.ble 18 k && (Nat.ble 36 (9 + k + q1 + q2) && Nat.ble 8 m)) && (gdk q1 q2 && (Nat.blt q2 10 || nzl true true co m k q1 q2)))))
theorem lE_ok : ckl xe1 (fun k q1 q2 => (List.range 20).all (fun m => Nat.blt m 3 || (lgE true m k q1 q2 && lgE false m k q1 q2))) = true := by decide +kernel
theorem lgE_get {co : Bool} {m k q1 q2 : Nat} (hn : npl true true co m k q1 q2 = false) (m3 : 3 ≤ m) (m20 : m < 20) (k38 : k ≤ 38) : lgE co m k q1 q2 = true := by
  unfold npl at hn
  rw [if_pos rfl, Bool.or_eq_false_iff] at hn
  have q := rng_all (ckl_get lE_ok k38 hn.1) (i := m) m20
  rw [Bool.or_eq_true] at q
  rcases q with q | q
  · exact (blt_no m3 q).elim
  · rw [Bool.and_eq_true] at q
    cases co
    · exact q.2
    · exact q.1
/-- what the lists leave where the body holds a scheme with bound Top -/
def exV : List (Nat × Nat × Nat) := [(23, 0, 9), (27, 0, 9), (27, 0, 10), (27, 0, 11), (28, 0, 9), (28, 0, 10), (29, 0, 9), (10, 0, 22), (12, 0, 26), (15, 0, 17), (15, 0, 22), (15, 0, 23), (16, 0, 22)]
def lW (e co : Bool) (m k q1 q2 : Nat) : Bool := npl true e co m k q1 q2 || (nwl true e m k q1 q2 || (Nat.blt 58 (9 + k + q1 + q2 + 2 * m + (if e then 0 else 5)) || (ndk q1 q2 || memt [(10, 0, 22)] k q1 q2)))
def lV (e co : Bool) (m k q1 q2 : Nat) : Bool := npl true e co m k q1 q2 || (nvl true e co m k q1 q2 || (Nat.blt 58 (9 + k + q1 + q2 + 2 * m + (if e then 0 else 5)) || (ndk q1 q2 || memt exV k q1 q2)))
def lWV (e co : Bool) (m k q1 q2 : Nat) : Bool := lW e co m k q1 q2 && lV e co m k q1 q2
theorem lwA_ok : ckl xa1 (fun k q1 q2 => (List.range 6).all (fun m => Nat.blt m 3 || (lWV false true m k q1 q2 && lWV false false m k q1 q2))) = true := by decide +kernel
theorem lwC_ok : ckl xc1 (fun k q1 q2 => (List.range 20).all (fun m => Nat.blt m 6 || (lWV false true m k q1 q2 && lWV false false m k q1 q2))) = true := by decide +kernel
theorem lwE_ok : ckl xe1 (fun k q1 q2 => (List.range 20).all (fun m => Nat.blt m 3 || (lWV true true m k q1 q2 && lWV true false m k q1 q2))) = true := by decide +kernel
theorem lWV_get {e co : Bool} {m k q1 q2 : Nat} (hn : npl true e co m k q1 q2 = false) (m3 : 3 ≤ m) (m20 : m < 20) (k38 : k ≤ 38) : lWV e co m k q1 q2 = true := by
  have fin : (lWV e true m k q1 q2 && lWV e false m k q1 q2) = true → lWV e co m k q1 q2 = true := by
    intro h
    rw [Bool.and_eq_true] at h
    cases co
    · exact h.2
    · exact h.1
  unfold npl at hn
  cases e with
  | true =>
    rw [if_pos rfl, Bool.or_eq_false_iff] at hn
    have q := rng_all (ckl_get lwE_ok k38 hn.1) (i := m) m20
    rw [Bool.or_eq_true] at q
    rcases q with q | q
    · exact (blt_no m3 q).elim
    · exact fin q
  | false =>
    rw [if_neg (by decide)] at hn
    by_cases m6 : m < 6
    · rw [blt_is m6, if_pos rfl, Bool.or_eq_false_iff] at hn
      have q := rng_all (ckl_get lwA_ok k38 hn.1) (i := m) m6
      rw [Bool.or_eq_true] at q
      rcases q with q | q
      · exact (blt_no m3 q).elim
      · exact fin q
    · rw [blt_not m6, if_neg (by decide), Bool.or_eq_false_iff] at hn
      have q := rng_all (ckl_get lwC_ok k38 hn.1) (i := m) m20
      rw [Bool.or_eq_true] at q
      rcases q with q | q
      · exact (blt_no (show 6 ≤ m by omega) q).elim
      · exact fin q
/-- no other scheme around, and the long one not long: by nature -/
theorem k17_ok : (List.range 18).all (fun k => (xa0.getD k []).isEmpty && ((xc0.getD k []).isEmpty && (xe0.getD k []).isEmpty)) = true := by decide +kernel
theorem znv_17 {X0 X1 : List (List (Nat × Nat))} {k q1 q2 : Nat} (h : (X0.getD k []).isEmpty = true) (k38 : k ≤ 38) : znv X0 X1 false k q1 q2 = true := by
  unfold znv nxk
  rw [Nat.ble_eq_true_of_le k38, Bool.true_and, if_neg (by decide), List.isEmpty_iff.mp h]
  rfl
theorem npl_17 {e co : Bool} {m k q1 q2 : Nat} (k17 : k ≤ 17) : npl false e co m k q1 q2 = true := by
  have q := rng_all k17_ok (i := k) (by omega)
  rw [Bool.and_eq_true, Bool.and_eq_true] at q
  unfold npl
  rw [znv_17 q.1 (by omega), znv_17 q.2.1 (by omega), znv_17 q.2.2 (by omega), Bool.true_or, Bool.true_or, Bool.true_or]
  split
  · rfl
  · split <;> rfl
/-- no scheme, so none with bound Top -/
theorem nsch_noh : ∀ (t : Ty), nsch t = true → noh 0 t = true
  | .tag c (.append a b), h => by
    rw [nsch, Bool.and_eq_true, Bool.and_eq_true] at h
    have e : ¬ c = 2 := by simpa using h.1
    rw [noh, if_neg e, nsch_noh a h.2.1, nsch_noh b h.2.2]; rfl
  | .append a b, h => by
    rw [nsch, Bool.and_eq_true] at h
    rw [noh, nsch_noh a h.1, nsch_noh b h.2]; rfl
  | .tag c .nil, _ => rfl
  | .tag c .line, _ => rfl
  | .tag c (.align _), _ => rfl
  | .tag c (.text _), _ => rfl
  | .tag c (.nest _ _), _ => rfl
  | .tag c (.group _ _), _ => rfl
  | .tag c (.tag _ _), _ => rfl
  | .nil, _ => rfl
  | .line, _ => rfl
  | .align _, _ => rfl
  | .text _, _ => rfl
  | .nest _ _, _ => rfl
  | .group _ _, _ => rfl
section PmYe
variable {f : Nat} {s u x y C : Ty} {Γ0 Δ1 : List Ty} {Δ : List (Nat × Ty × Nat)}
theorem ec_top (C : Ty) (Γ0 Δ1 : List Ty) : cch (cxs Δ1 Γ0 (tAll tTop C)) = 9 + tch C + cch Γ0 + cch Δ1 := by
  rw [cch_cx, tch_all, tch_top]
  omega
/-- no names around -/
theorem E_su (nC : noh 0 C = true) (n0 : ∀ b ∈ Γ0, noh 0 b = true) (w1 : TWf f (cxs Δ1 Γ0 (tAll tTop C)).length (Δ.map (fun a => a.1)) s) (he : TE (cxs Δ1 Γ0 (tAll tTop C)) Δ) (ch1 : CHo f s []) (ho : (∀ b ∈ Γ0, nsch b = true ∨ (true = true ∧ tch b ≤ tch C + 5)) ∧ ∀ b ∈ Δ1, nsch b = true ∨ (true = true ∧ tch b ≤ tch C + 5)) (le : mch s ≤ mch u) (m3 : 3 ≤ mch s) (hb : cch (cxs Δ1 Γ0 (tAll tTop C)) + dch Δ + (2 + (mch s + mch u)) ≤ 60) (h20 : 20 ≤ cch (cxs Δ1 Γ0 (tAll tTop C))) (h49 : cch (cxs Δ1 Γ0 (tAll tTop C)) ≤ 47) (nd : ndk (cch Γ0) (cch Δ1) = false) (nΔ : Δ = []) : NtV (cxs Δ1 Γ0 (tAll tTop C)) Δ f s 887 597 ∨ (mch u < 16 ∧ (18 ≤ tch C ∧ 8 ≤ mch s) ∧ (∀ b ∈ Δ1, noh 0 b = true) ∧ gdk (cch Γ0) (cch Δ1) = true) := by
  obtain ⟨oc0, oA⟩ := okc_low Δ1 he.1
  have kp := tch_pos (ok_all.mp oA).2
  have ec := ec_top C Γ0 Δ1
  have hb1 : cch (cxs Δ1 Γ0 (tAll tTop C)) + dch Δ + 2 * mch s ≤ 58 := by omega
  have hE : Δ.isEmpty = true := List.isEmpty_iff.mpr nΔ
  obtain ⟨co, hco⟩ : ∃ co : Bool, (co = true → COk f s 0) := ⟨false, fun h => by cases h⟩
  cases hn : npl true true co (mch s) (tch C) (cch Γ0) (cch Δ1) with
  | true => exact Or.inl (nat_pl (o := true) w1 he ch1 m3 hco (by rw [hE]; exact hn) ho hb1 h20 h49)
  | false =>
  have m20 : mch s < 20 := by omega
  have bud : Nat.blt 58 (9 + tch C + cch Γ0 + cch Δ1 + 2 * mch s) = false := blt_not (by omega)
  have L := lgE_get hn m3 m20 (by omega)
  unfold lgE at L
  rw [hn, nd, bud, Bool.false_or, Bool.false_or, Bool.false_or, Bool.and_eq_true, Bool.and_eq_true, Bool.and_eq_true, Bool.and_eq_true, Bool.or_eq_true] at L
  obtain ⟨⟨k1, k2, k3⟩, g, z⟩ := L
  have k1 := Nat.le_of_ble_eq_true k1
  have k2 := Nat.le_of_ble_eq_true k2
  have k3 := Nat.le_of_ble_eq_true k3
  by_cases f1 : ∃ b ∈ Δ1, noh 0 b = false
  · have q10 : 10 ≤ cch Δ1 := by
      obtain ⟨b, hb', n⟩ := f1
      obtain ⟨d, o, h2⟩ := okc_cxs he.1 hb'
      have := noh_six o n
      omega
    rcases z with z | z
    · exact (blt_no q10 z).elim
    · exact Or.inl (nat_zl (o := true) w1 he ch1 m3 hco f1 (by rw [hE]; exact z) ho hb1 h20 h49)
  · refine Or.inr ⟨by omega, ⟨k1, k3⟩, fun b hb' => ?_, g⟩
    cases h : noh 0 b with
    | true => rfl
    | false => exact absurd ⟨b, hb', h⟩ f1
/-- a body with a scheme of bound Top inside -/
theorem F_s (hp : phf (fun _ => true) C = true) (w1 : TWf f (cxs Δ1 Γ0 (tAll tTop C)).length (Δ.map (fun a => a.1)) s) (he : TE (cxs Δ1 Γ0 (tAll tTop C)) Δ) (ch1 : CHo f s []) (ho : (∀ b ∈ Γ0, nsch b = true ∨ (true = true ∧ tch b ≤ tch C + 5)) ∧ ∀ b ∈ Δ1, nsch b = true ∨ (true = true ∧ tch b ≤ tch C + 5)) (m3 : 3 ≤ mch s) (hb1 : cch (cxs Δ1 Γ0 (tAll tTop C)) + dch Δ + 2 * mch s ≤ 58) (h20 : 20 ≤ cch (cxs Δ1 Γ0 (tAll tTop C))) (h49 : cch (cxs Δ1 Γ0 (tAll tTop C)) ≤ 47) : NtV (cxs Δ1 Γ0 (tAll tTop C)) Δ f s 887 597 ∨ ndk (cch Γ0) (cch Δ1) = true ∨ memt [(10, 0, 22)] (tch C) (cch Γ0) (cch Δ1) = true ∨ (kdt C ≠ 1 ∧ kdt C ≠ 4 ∧ memt exV (tch C) (cch Γ0) (cch Δ1) = true) := by
  have ec := ec_top C Γ0 Δ1
  obtain ⟨co, hco⟩ : ∃ co : Bool, (co = true ↔ COk f s 0) := by
    by_cases c : COk f s 0
    · exact ⟨true, fun _ => c, fun _ => rfl⟩
    · exact ⟨false, (fun h => by cases h), fun h => absurd h c⟩
  cases hn : npl true Δ.isEmpty co (mch s) (tch C) (cch Γ0) (cch Δ1) with
  | true => exact Or.inl (nat_pl (o := true) w1 he ch1 m3 hco.mp hn ho hb1 h20 h49)
  | false =>
  have m20 : mch s < 20 := by omega
  have bud : Nat.blt 58 (9 + tch C + cch Γ0 + cch Δ1 + 2 * mch s + (if Δ.isEmpty = true then 0 else 5)) = false := by
    refine blt_not ?_
    by_cases e : Δ.isEmpty = true
    · rw [if_pos e]; omega
    · rw [if_neg e]
      have := dch_five he (fun c => e (List.isEmpty_iff.mpr c))
      omega
  have LL := lWV_get hn m3 m20 (by omega)
  unfold lWV at LL
  rw [Bool.and_eq_true] at LL
  by_cases kd : kdt C = 1 ∨ kdt C = 4
  · have L := LL.1
    unfold lW at L
    rw [hn, bud, Bool.false_or, Bool.or_eq_true, Bool.false_or, Bool.or_eq_true] at L
    rcases L with L | L | L
    · exact Or.inl (nat_wl (o := true) w1 he ch1 m3 hp kd L ho hb1 h20 h49)
    · exact Or.inr (Or.inl L)
    · exact Or.inr (Or.inr (Or.inl L))
  · have L := LL.2
    unfold lV at L
    rw [hn, bud, Bool.false_or, Bool.or_eq_true, Bool.false_or, Bool.or_eq_true] at L
    rcases L with L | L | L
    · exact Or.inl (nat_vl (o := true) w1 he ch1 m3 hco.mp hp L ho hb1 h20 h49)
    · exact Or.inr (Or.inl L)
    · exact Or.inr (Or.inr (Or.inr ⟨fun h => kd (Or.inl h), fun h => kd (Or.inr h), L⟩))
/-- nature leaves the shorter one -/
def LFn (f : Nat) (x y C : Ty) (Γ0 Δ1 : List Ty) (Δ : List (Nat × Ty × Nat)) : Prop := ∃ (s : Ty) (co : Bool), (s = x ∨ s = y) ∧ (mch s ≤ mch x ∧ mch s ≤ mch y) ∧ (co = true ↔ COk f s 0) ∧ npl true Δ.isEmpty co (mch s) (tch C) (cch Γ0) (cch Δ1) = false
/-- what is left of pairs in such a context -/
def RsA (o : Bool) (f : Nat) (x y C : Ty) (Γ0 Δ1 : List Ty) (Δ : List (Nat × Ty × Nat)) : Prop := LFn f x y C Γ0 Δ1 Δ ∧ ((phf (fun _ => true) C = true ∧ ndk (cch Γ0) (cch Δ1) = true ∧ ¬ HKd 0 tTop C Γ0) ∨ (phf (fun _ => true) C = true ∧ (memt [(10, 0, 22)] (tch C) (cch Γ0) (cch Δ1) = true ∨ (kdt C ≠ 1 ∧ kdt C ≠ 4 ∧ memt exV (tch C) (cch Γ0) (cch Δ1) = true))) ∨ (o = true ∧ noh 0 C = true ∧ ((∃ b ∈ Γ0, noh 0 b = false) ∨ tch C ≤ 17)) ∨ (noh 0 C = true ∧ Δ = [] ∧ 18 ≤ tch C ∧ ¬ (NHt 0 f x ∧ NHt 0 f y) ∧ ¬ (SMd C Γ0 Δ1 Δ f x ∧ SMd C Γ0 Δ1 Δ f y)))
theorem pair_A {o : Bool} (x1 : TWf f (cxs Δ1 Γ0 (tAll tTop C)).length (Δ.map (fun a => a.1)) x) (x2 : TWf f (cxs Δ1 Γ0 (tAll tTop C)).length (Δ.map (fun a => a.1)) y) (he : TE (cxs Δ1 Γ0 (tAll tTop C)) Δ) (y1 : NAt f x) (y2 : NAt f y) (hv : noac (cxs Δ1 Γ0 (tAll tTop C))) (hd' : ∀ a ∈ Δ, noal a.2.1 = true) (t1 : TNo f x) (t2 : TNo f y) (ch1 : mch x ≤ mch y → CHo f x []) (ch2 : ¬ mch x ≤ mch y → CHo f y []) (ho : (∀ b ∈ Γ0, nsch b = true ∨ (o = true ∧ tch b ≤ tch C + 5)) ∧ ∀ b ∈ Δ1, nsch b = true ∨ (o = true ∧ tch b ≤ tch C + 5)) (m3 : 3 ≤ mch x) (n3 : 3 ≤ mch y) (hb : cch (cxs Δ1 Γ0 (tAll tTop C)) + dch Δ + (2 + (mch x + mch y)) ≤ 60) (h20 : 20 ≤ cch (cxs Δ1 Γ0 (tAll tTop C))) (h49 : cch (cxs Δ1 Γ0 (tAll tTop C)) ≤ 47) : PRn f x y (cxs Δ1 Γ0 (tAll tTop C)) Δ ∨ RsA o f x y C Γ0 Δ1 Δ := by
  have ec := ec_top C Γ0 Δ1
  have ho1 : (∀ b ∈ Γ0, nsch b = true ∨ (true = true ∧ tch b ≤ tch C + 5)) ∧ ∀ b ∈ Δ1, nsch b = true ∨ (true = true ∧ tch b ≤ tch C + 5) := ⟨fun b h => (ho.1 b h).imp id (fun q => ⟨rfl, q.2⟩), fun b h => (ho.2 b h).imp id (fun q => ⟨rfl, q.2⟩)⟩
  have nt : NtV (cxs Δ1 Γ0 (tAll tTop C)) Δ f x 887 597 ∨ NtV (cxs Δ1 Γ0 (tAll tTop C)) Δ f y 887 597 → PRn f x y (cxs Δ1 Γ0 (tAll tTop C)) Δ := pair_ntv x1 x2 he y1 y2 hv hd' (by omega)
  have bx : mch x ≤ mch y → cch (cxs Δ1 Γ0 (tAll tTop C)) + dch Δ + 2 * mch x ≤ 58 := fun h => by omega
  have by' : ¬ mch x ≤ mch y → cch (cxs Δ1 Γ0 (tAll tTop C)) + dch Δ + 2 * mch y ≤ 58 := fun h => by omega
  have hb' : cch (cxs Δ1 Γ0 (tAll tTop C)) + dch Δ + (2 + (mch y + mch x)) ≤ 60 := by omega
  have k0 : PRn f x y (cxs Δ1 Γ0 (tAll tTop C)) Δ ∨ LFn f x y C Γ0 Δ1 Δ := by
    have one : ∀ t, TWf f (cxs Δ1 Γ0 (tAll tTop C)).length (Δ.map (fun a => a.1)) t → CHo f t [] → 3 ≤ mch t → cch (cxs Δ1 Γ0 (tAll tTop C)) + dch Δ + 2 * mch t ≤ 58 → NtV (cxs Δ1 Γ0 (tAll tTop C)) Δ f t 887 597 ∨ ∃ co : Bool, (co = true ↔ COk f t 0) ∧ npl true Δ.isEmpty co (mch t) (tch C) (cch Γ0) (cch Δ1) = false := by
      intro t w ch m hb1
      obtain ⟨co, hco⟩ : ∃ co : Bool, (co = true ↔ COk f t 0) := by
        by_cases c : COk f t 0
        · exact ⟨true, fun _ => c, fun _ => rfl⟩
        · exact ⟨false, (fun h => by cases h), fun h => absurd h c⟩
      cases hn : npl true Δ.isEmpty co (mch t) (tch C) (cch Γ0) (cch Δ1) with
      | true => exact Or.inl (nat_pl (o := true) w he ch m hco.mp hn ho1 hb1 h20 h49)
      | false => exact Or.inr ⟨co, hco, hn⟩
    by_cases c : mch x ≤ mch y
    · rcases one x x1 (ch1 c) m3 (bx c) with h | ⟨co, h1, h2⟩
      · exact Or.inl (nt (Or.inl h))
      · exact Or.inr ⟨x, co, Or.inl rfl, ⟨Nat.le_refl _, c⟩, h1, h2⟩
    · rcases one y x2 (ch2 c) n3 (by' c) with h | ⟨co, h1, h2⟩
      · exact Or.inl (nt (Or.inr h))
      · exact Or.inr ⟨y, co, Or.inr rfl, ⟨by omega, Nat.le_refl _⟩, h1, h2⟩
  rcases k0 with k0 | lf
  · exact Or.inl k0
  cases hp : phf (fun _ => true) C with
  | true =>
    have key : (NtV (cxs Δ1 Γ0 (tAll tTop C)) Δ f x 887 597 ∨ NtV (cxs Δ1 Γ0 (tAll tTop C)) Δ f y 887 597) ∨ ndk (cch Γ0) (cch Δ1) = true ∨ memt [(10, 0, 22)] (tch C) (cch Γ0) (cch Δ1) = true ∨ (kdt C ≠ 1 ∧ kdt C ≠ 4 ∧ memt exV (tch C) (cch Γ0) (cch Δ1) = true) := by
      by_cases c : mch x ≤ mch y
      · exact (F_s hp x1 he (ch1 c) ho1 m3 (bx c) h20 h49).imp Or.inl id
      · exact (F_s hp x2 he (ch2 c) ho1 n3 (by' c) h20 h49).imp Or.inr id
    rcases key with h | h | h
    · exact Or.inl (nt h)
    · by_cases H : HKd 0 tTop C Γ0
      · exact Or.inl (pair_nodes H x1 x2 he y1 y2 hv hd' h h49)
      · exact Or.inr ⟨lf, Or.inl ⟨hp, h, H⟩⟩
    · exact Or.inr ⟨lf, Or.inr (Or.inl ⟨hp, h⟩)⟩
  | false =>
  have nC : noh 0 C = true := by
    cases h : noh 0 C with
    | true => rfl
    | false =>
      have := nph C h
      rw [hp] at this
      cases this
  by_cases k17 : tch C ≤ 17
  · cases o with
    | true => exact Or.inr ⟨lf, Or.inr (Or.inr (Or.inl ⟨rfl, nC, Or.inr k17⟩))⟩
    | false =>
      refine Or.inl (nt ?_)
      by_cases c : mch x ≤ mch y
      · exact Or.inl (nat_pl (o := false) (co := false) x1 he (ch1 c) m3 (fun h => by cases h) (npl_17 k17) ho (bx c) h20 h49)
      · exact Or.inr (nat_pl (o := false) (co := false) x2 he (ch2 c) n3 (fun h => by cases h) (npl_17 k17) ho (by' c) h20 h49)
  by_cases f0 : ∃ b ∈ Γ0, noh 0 b = false
  · cases o with
    | true => exact Or.inr ⟨lf, Or.inr (Or.inr (Or.inl ⟨rfl, nC, Or.inl f0⟩))⟩
    | false =>
      exfalso
      obtain ⟨b, hb1, n⟩ := f0
      rcases ho.1 b hb1 with h | ⟨h, -⟩
      · rw [nsch_noh b h] at n
        cases n
      · cases h
  have n0 : ∀ b ∈ Γ0, noh 0 b = true := by
    intro b hb1
    cases h : noh 0 b with
    | true => rfl
    | false => exact absurd ⟨b, hb1, h⟩ f0
  have H := HKd_noh he.1 (by omega) nC n0
  cases nd : ndk (cch Γ0) (cch Δ1) with
  | true => exact Or.inl (pair_nodes H x1 x2 he y1 y2 hv hd' nd h49)
  | false =>
  have sg : (∀ b ∈ Δ1, noh 0 b = true) → SGc 0 tTop C tTop Γ0 Δ1 := fun n1 => ⟨by decide, hd_top, he.1, cxd_okc (ok_top _) Δ1 he.1, n1, n0⟩
  by_cases nΔ : Δ = []
  · have hd0 : ∀ a ∈ Δ, noh 0 a.2.1 = true ∧ noal a.2.1 = true := by
      rw [nΔ]
      intro a ha
      cases ha
    have key : (NtV (cxs Δ1 Γ0 (tAll tTop C)) Δ f x 887 597 ∨ NtV (cxs Δ1 Γ0 (tAll tTop C)) Δ f y 887 597) ∨ ((mch x < 16 ∧ mch y < 16) ∧ (∀ b ∈ Δ1, noh 0 b = true) ∧ gdk (cch Γ0) (cch Δ1) = true) := by
      by_cases c : mch x ≤ mch y
      · rcases E_su (u := y) nC n0 x1 he (ch1 c) ho1 c m3 hb h20 h49 nd nΔ with h | ⟨h1, -, h2, h3⟩
        · exact Or.inl (Or.inl h)
        · exact Or.inr ⟨⟨by omega, h1⟩, h2, h3⟩
      · rcases E_su (u := x) nC n0 x2 he (ch2 c) ho1 (by omega) n3 hb' h20 h49 nd nΔ with h | ⟨h1, -, h2, h3⟩
        · exact Or.inl (Or.inr h)
        · exact Or.inr ⟨⟨h1, by omega⟩, h2, h3⟩
    rcases key with h | ⟨hm, n1, hg⟩
    · exact Or.inl (nt h)
    · by_cases nh : NHt 0 f x ∧ NHt 0 f y
      · exact Or.inl (pair_gnodes nC (sg n1) x1 x2 he y1 y2 hv hd0 nh.1 nh.2 hg h49)
      · by_cases sm : SMd C Γ0 Δ1 Δ f x ∧ SMd C Γ0 Δ1 Δ f y
        · exact Or.inl (pair_mixx H x1 x2 he y1 y2 hv hd' sm.1 sm.2 (by omega) m3 n3 hm.1 hm.2 hb h49)
        · exact Or.inr ⟨lf, Or.inr (Or.inr (Or.inr ⟨nC, nΔ, by omega, nh, sm⟩))⟩
  · refine Or.inl ?_
    have key : (NtV (cxs Δ1 Γ0 (tAll tTop C)) Δ f x 887 597 ∨ NtV (cxs Δ1 Γ0 (tAll tTop C)) Δ f y 887 597) ∨ (SMd C Γ0 Δ1 Δ f x ∧ SMd C Γ0 Δ1 Δ f y ∧ mch x < 16 ∧ mch y < 16) ∨ ((∀ b ∈ Δ1, noh 0 b = true) ∧ (∀ a ∈ Δ, noh 0 a.2.1 = true) ∧ NHt 0 f x ∧ NHt 0 f y ∧ gdk (cch Γ0) (cch Δ1) = true) := by
      by_cases c : mch x ≤ mch y
      · rcases H_su nC n0 x1 x2 he t1 t2 (ch1 c) ho1 c m3 hb h20 h49 (by omega) nd nΔ with h | h | ⟨h1, h2, h3⟩ | h
        · exact Or.inl (Or.inl h)
        · exact Or.inl (Or.inr h)
        · exact Or.inr (Or.inl ⟨h1, h2, by omega, h3⟩)
        · exact Or.inr (Or.inr h)
      · rcases H_su nC n0 x2 x1 he t2 t1 (ch2 c) ho1 (by omega) n3 hb' h20 h49 (by omega) nd nΔ with h | h | ⟨h1, h2, h3⟩ | ⟨h1, h2, h3, h4, h5⟩
        · exact Or.inl (Or.inr h)
        · exact Or.inl (Or.inl h)
        · exact Or.inr (Or.inl ⟨h2, h1, h3, by omega⟩)
        · exact Or.inr (Or.inr ⟨h1, h2, h4, h3, h5⟩)
    rcases key with h | ⟨h1, h2, h3, h4⟩ | ⟨n1, n2, g1, g2, hg⟩
    · exact nt h
    · exact pair_mixx H x1 x2 he y1 y2 hv hd' h1 h2 (by omega) m3 n3 h3 h4 hb h49
    · exact pair_gnodes nC (sg n1) x1 x2 he y1 y2 hv (fun a ha => ⟨n2 a ha, hd' a ha⟩) g1 g2 hg h49
end PmYe
