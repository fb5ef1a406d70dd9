/-! WHAT IS LEFT WHERE C HOLDS A SCHEME WITH BOUND TOP: functions, records and schemes with bound Top are done but for few. -/
def cvl (X : List (List (Nat × Nat))) (T : List (Nat × Nat × Nat)) (E : Nat → Nat → Nat → Bool) : Bool := (List.range 39).all (fun k => (X.getD k []).all (fun q => !(ndk q.1 q.2) || (Nat.blt 47 (9 + k + q.1 + q.2) || (memt T k q.1 q.2 || E k q.1 q.2))))
def e14 (k q1 q2 : Nat) : Bool := k14.any (fun j => Nat.beq j k) && (Nat.beq q1 0 && Nat.beq q2 0)
theorem cvw_a : cvl xa1 twa1 e14 = true := by decide +kernel
theorem cvw_c : cvl xc1 twc1 e14 = true := by decide +kernel
theorem cvw_e : cvl xe1 twe1 (fun _ _ _ => false) = true := by decide +kernel
theorem cvv_a : cvl xa1 tva1 (fun k q1 q2 => memt t27 k q1 q2) = true := by decide +kernel
theorem cvv_c : cvl xc1 tvc1 (fun k q1 q2 => memt t27 k q1 q2) = true := by decide +kernel
theorem cvv_e : cvl xe1 tve1 (fun k q1 q2 => memt t27 k q1 q2) = true := by decide +kernel
theorem cvl_get {X : List (List (Nat × Nat))} {T : List (Nat × Nat × Nat)} {E : Nat → Nat → Nat → Bool} {k q1 q2 : Nat} (h : cvl X T E = true) (k38 : k ≤ 38) (hq : (q1, q2) ∈ X.getD k []) (nd : ndk q1 q2 = true) (hc : 9 + k + q1 + q2 ≤ 47) : memt T k q1 q2 = true ∨ E k q1 q2 = true := by
  have q := List.all_eq_true.mp (rng_all h (i := k) (by omega)) _ hq
  have q : (!(ndk q1 q2) || (Nat.blt 47 (9 + k + q1 + q2) || (memt T k q1 q2 || E k q1 q2))) = true := q
  rw [nd, Bool.not_true, Bool.false_or, Bool.or_eq_true, Bool.or_eq_true] at q
  rcases q with q | q
  · exact (blt_no hc q).elim
  · exact q
/-- the list in which a context stands -/
def xls (e : Bool) (m : Nat) : List (List (Nat × Nat)) := if e then xe1 else if Nat.blt m 6 then xa1 else xc1
theorem npl_mem {e co : Bool} {m k q1 q2 : Nat} (h : npl true e co m k q1 q2 = false) (k38 : k ≤ 38) : (q1, q2) ∈ (xls e m).getD k [] := by
  have key : ∀ X0 X1 : List (List (Nat × Nat)), znv X0 X1 true k q1 q2 = false → (q1, q2) ∈ X1.getD k [] := by
    intro X0 X1 h
    unfold znv at h
    rw [Nat.ble_eq_true_of_le k38, Bool.true_and] at h
    have h : (!((X1.getD k []).any (fun s => Nat.beq s.1 q1 && Nat.beq s.2 q2))) = false := h
    cases h' : (X1.getD k []).any (fun s => Nat.beq s.1 q1 && Nat.beq s.2 q2) with
    | false => rw [h'] at h; cases h
    | true =>
      obtain ⟨s, hs, e⟩ := List.any_eq_true.mp h'
      rw [Bool.and_eq_true] at e
      have e1 := Nat.eq_of_beq_eq_true e.1
      have e2 := Nat.eq_of_beq_eq_true e.2
      have es : s = (q1, q2) := Prod.ext e1 e2
      rw [← es]
      exact hs
  unfold npl at h
  unfold xls
  cases e with
  | true =>
    rw [if_pos rfl] at h ⊢
    rw [Bool.or_eq_false_iff] at h
    exact key _ _ h.1
  | false =>
    rw [if_neg (by decide)] at h ⊢
    by_cases c6 : Nat.blt m 6 = true
    · rw [if_pos c6] at h ⊢
      rw [Bool.or_eq_false_iff] at h
      exact key _ _ h.1
    · rw [if_neg c6] at h ⊢
      rw [Bool.or_eq_false_iff] at h
      exact key _ _ h.1
theorem cch_nil {Γ : List Ty} (h : cch Γ = 0) : Γ = [] := by
  cases Γ with
  | nil => rfl
  | cons b Γ =>
    have h : (tch b + 4) + cch Γ = 0 := h
    omega
section PmZs
variable {f : Nat} {s C D : Ty} {Γ0 Δ1 : List Ty} {Δ : List (Nat × Ty × Nat)}
/-- functions and records -/
theorem fl_w (hp : phf (fun _ => true) C = true) (kd : kdt C = 1 ∨ kdt C = 4) (nd : ndk (cch Γ0) (cch Δ1) = true) (w : TWf f (cxs Δ1 Γ0 (tAll tTop C)).length (Δ.map (fun a => a.1)) s) (he : TE (cxs Δ1 Γ0 (tAll tTop C)) Δ) (tn : TNo f s) (ch : CHo f s []) (ho : (∀ b ∈ Γ0, nsch b = true ∨ (true = true ∧ tch b ≤ tch C + 5)) ∧ ∀ b ∈ Δ1, nsch b = true ∨ (true = true ∧ tch b ≤ tch C + 5)) (m3 : 3 ≤ mch s) (hb : cch (cxs Δ1 Γ0 (tAll tTop C)) + dch Δ + 2 * mch s ≤ 58) (h20 : 20 ≤ cch (cxs Δ1 Γ0 (tAll tTop C))) (h49 : cch (cxs Δ1 Γ0 (tAll tTop C)) ≤ 47) (mem : (cch Γ0, cch Δ1) ∈ (xls Δ.isEmpty (mch s)).getD (tch C) []) : NtV (cxs Δ1 Γ0 (tAll tTop C)) Δ f s 887 597 ∨ (Γ0 = [] ∧ Δ1 = [] ∧ tch C = 30 ∧ mch s = 7 ∧ Δ ≠ []) := by
  have ec := ec_top C Γ0 Δ1
  have k38 : tch C ≤ 38 := by omega
  have c47 : 9 + tch C + cch Γ0 + cch Δ1 ≤ 47 := by omega
  have ex : e14 (tch C) (cch Γ0) (cch Δ1) = true → Δ.isEmpty = false → NtV (cxs Δ1 Γ0 (tAll tTop C)) Δ f s 887 597 ∨ (Γ0 = [] ∧ Δ1 = [] ∧ tch C = 30 ∧ mch s = 7 ∧ Δ ≠ []) := by
    intro h hE
    have nΔ : Δ ≠ [] := by
      intro e
      rw [e] at hE
      cases hE
    unfold e14 at h
    rw [Bool.and_eq_true, Bool.and_eq_true] at h
    obtain ⟨j, hj, ej⟩ := List.any_eq_true.mp h.1
    have ej := Nat.eq_of_beq_eq_true ej
    have z1 := cch_nil (Nat.eq_of_beq_eq_true h.2.1)
    have z2 := cch_nil (Nat.eq_of_beq_eq_true h.2.2)
    subst z1
    subst z2
    have hk : tch C ∈ k14 := by rw [← ej]; exact hj
    have zz : cch ([] : List Ty) = 0 := rfl
    by_cases h7 : tch C = 30 ∧ mch s = 7
    · exact Or.inr ⟨rfl, rfl, h7.1, h7.2, nΔ⟩
    · exact Or.inl (nat_7 w he nΔ tn ch hp kd hk m3 (by omega) h7)
  cases hE : Δ.isEmpty with
  | true =>
    rw [hE] at mem
    rcases cvl_get cvw_e k38 mem nd c47 with h | h
    · exact Or.inl (nat_wl (o := true) w he ch m3 hp kd (by unfold nwl; rw [hE, if_pos rfl]; exact h) ho hb h20 h49)
    · cases h
  | false =>
    rw [hE] at mem
    unfold xls at mem
    rw [if_neg (by decide)] at mem
    by_cases c6 : Nat.blt (mch s) 6 = true
    · rw [if_pos c6] at mem
      rcases cvl_get cvw_a k38 mem nd c47 with h | h
      · exact Or.inl (nat_wl (o := true) w he ch m3 hp kd (by unfold nwl; rw [hE, if_neg (by decide), if_pos c6]; exact h) ho hb h20 h49)
      · exact ex h hE
    · rw [if_neg c6] at mem
      rcases cvl_get cvw_c k38 mem nd c47 with h | h
      · exact Or.inl (nat_wl (o := true) w he ch m3 hp kd (by unfold nwl; rw [hE, if_neg (by decide), if_neg c6]; exact h) ho hb h20 h49)
      · exact ex h hE
/-- any body with such a scheme inside -/
theorem fl_v (hp : phf (fun _ => true) C = true) (nd : ndk (cch Γ0) (cch Δ1) = true) (w : TWf f (cxs Δ1 Γ0 (tAll tTop C)).length (Δ.map (fun a => a.1)) s) (he : TE (cxs Δ1 Γ0 (tAll tTop C)) Δ) (ch : CHo f s []) (ho : (∀ b ∈ Γ0, nsch b = true ∨ (true = true ∧ tch b ≤ tch C + 5)) ∧ ∀ b ∈ Δ1, nsch b = true ∨ (true = true ∧ tch b ≤ tch C + 5)) (m3 : 3 ≤ mch s) (hb : cch (cxs Δ1 Γ0 (tAll tTop C)) + dch Δ + 2 * mch s ≤ 58) (h20 : 20 ≤ cch (cxs Δ1 Γ0 (tAll tTop C))) (h49 : cch (cxs Δ1 Γ0 (tAll tTop C)) ≤ 47) (mem : (cch Γ0, cch Δ1) ∈ (xls Δ.isEmpty (mch s)).getD (tch C) []) : NtV (cxs Δ1 Γ0 (tAll tTop C)) Δ f s 887 597 ∨ memt t27 (tch C) (cch Γ0) (cch Δ1) = true := by
  have ec := ec_top C Γ0 Δ1
  have k38 : tch C ≤ 38 := by omega
  have c47 : 9 + tch C + cch Γ0 + cch Δ1 ≤ 47 := by omega
  have nov : nvl true Δ.isEmpty false (mch s) (tch C) (cch Γ0) (cch Δ1) = true → NtV (cxs Δ1 Γ0 (tAll tTop C)) Δ f s 887 597 := fun h => nat_vl (o := true) (co := false) w he ch m3 (fun e => by cases e) hp h ho hb h20 h49
  cases hE : Δ.isEmpty with
  | true =>
    rw [hE] at mem
    rcases cvl_get cvv_e k38 mem nd c47 with h | h
    · exact Or.inl (nov (by unfold nvl; rw [hE, if_pos rfl]; exact h))
    · exact Or.inr h
  | false =>
    rw [hE] at mem
    unfold xls at mem
    rw [if_neg (by decide)] at mem
    by_cases c6 : Nat.blt (mch s) 6 = true
    · rw [if_pos c6] at mem
      rcases cvl_get cvv_a k38 mem nd c47 with h | h
      · exact Or.inl (nov (by unfold nvl; rw [hE, if_neg (by decide), if_pos c6]; exact h))
      · exact Or.inr h
    · rw [if_neg c6] at mem
      rcases cvl_get cvv_c k38 mem nd c47 with h | h
      · exact Or.inl (nov (by unfold nvl; rw [hE, if_neg (by decide), if_neg c6, Bool.or_eq_true]; exact Or.inl h))
      · exact Or.inr h
/-- a scheme with bound Top: what is inside it -/
theorem kd3_is {d : Nat} (o : ok d C = true) (k : kdt C = 3) : ∃ D, C = tAll tTop D := by
  unfold kdt at k
  by_cases c1 : hd C = 1
  · rw [if_pos c1] at k; cases k
  rw [if_neg c1] at k
  by_cases c2 : hd C = 2
  · rw [if_pos c2] at k
    obtain ⟨a, b, e, oa, ob⟩ := hd_is_all o c2
    subst e
    have e1 : k1 (tAll a b) = a := rfl
    rw [e1] at k
    by_cases c3 : hd a = 0
    · have ea : a = tTop := by
        rcases ok_cases oa with e | ⟨j, hj, rfl⟩ | ⟨x, y, rfl, _, _⟩ | ⟨x, y, rfl, _, _⟩ | ⟨m, x, y, z, hm, rfl, _, _, _⟩
        · exact e
        · rw [hd_var] at c3; omega
        · rw [hd_fun] at c3; omega
        · rw [hd_all] at c3; omega
        · rw [hd_rec] at c3; omega
      exact ⟨b, by rw [ea]⟩
    · rw [if_neg c3] at k; cases k
  · rw [if_neg c2] at k
    split at k <;> cases k
theorem fl_D {d : Nat} {τ : Nat → Bool} (o : ok d (tAll tTop D) = true) (h7 : 2 ≤ tch D) (h : phf (Kis 3) (tAll tTop D) = true ∨ phl τ d (tAll tTop D) = true) : phf (fun _ => true) D = true := by
  have oD := (ok_all.mp o).2
  rcases h with h | h
  · rw [phf_all, Bool.or_eq_true, Bool.or_eq_true, Bool.and_eq_true, phf_top] at h
    rcases h with h | h | h
    · have k3 : kdt D = 3 := by
        have := h.2
        unfold Kis at this
        exact of_decide_eq_true this
      obtain ⟨E, e⟩ := kd3_is oD k3
      rw [e, phf_all]
      rfl
    · cases h
    · exact phf_any _ D _ (Nat.le_refl _) oD h
  · have hv : hd D < 16 := (hd_long oD h7).2
    have h : ((decide (hd tTop = 0) && (decide (16 ≤ hd D) && !(updt τ d tTop (hd D - 16)))) || (phl τ d tTop || phl (updt τ d tTop) (d + 1) D)) = true := h
    rw [decide_eq_false (show ¬ 16 ≤ hd D by omega), Bool.false_and, Bool.and_false, Bool.false_or] at h
    have h : (false || phl (updt τ d tTop) (d + 1) D) = true := h
    rw [Bool.false_or] at h
    exact phl_any _ D _ _ (Nat.le_refl _) oD h
theorem kd_phf {d : Nat} (o : ok d C = true) (hp : phf (fun _ => true) C = true) : kdt C = 1 ∨ kdt C = 2 ∨ kdt C = 3 ∨ kdt C = 4 := by
  rcases ok_cases o with rfl | ⟨j, hj, rfl⟩ | ⟨a, c, rfl, ha, hb⟩ | ⟨a, c, rfl, ha, hb⟩ | ⟨m, x, y, z, hm, rfl, h0, h1, h2⟩
  · rw [phf_top] at hp; cases hp
  · rw [phf_var] at hp; cases hp
  · left
    unfold kdt
    rw [hd_fun, if_pos rfl]
  · right
    unfold kdt
    rw [hd_all, if_neg (by decide), if_pos rfl]
    split
    · exact Or.inr (Or.inl rfl)
    · exact Or.inl rfl
  · right; right; right
    unfold kdt
    rw [hd_rec, if_neg (by omega), if_neg (by omega), if_pos (by omega)]
end PmZs
def exS : List (Nat × Nat × Nat) := [(12, 0, 26), (15, 0, 22), (15, 0, 23), (16, 0, 22)]
def RsH (f : Nat) (x y C : Ty) (Γ0 Δ1 : List Ty) (Δ : List (Nat × Ty × Nat)) : Prop := LFn f x y C Γ0 Δ1 Δ ∧ phf (fun _ => true) C = true ∧ Δ ≠ [] ∧ (((kdt C = 1 ∨ kdt C = 4) ∧ tch C = 30 ∧ Γ0 = [] ∧ Δ1 = [] ∧ mch x = 7 ∧ mch y = 7) ∨ (kdt C = 2 ∧ memt exL (tch C) (cch Γ0) (cch Δ1) = true ∧ ¬ HKd 0 tTop C Γ0) ∨ (memt exS (tch C) (cch Γ0) (cch Δ1) = true ∧ (kdt C = 2 ∨ (kdt C = 3 ∧ HKd 0 tTop C Γ0))) ∨ ((kdt C = 2 ∨ kdt C = 3) ∧ HKd 0 tTop C Γ0 ∧ memt [(27, 0, 9)] (tch C) (cch Γ0) (cch Δ1) = true ∧ mch x + mch y = 8 ∧ ¬ (CFt f x ∧ CFt f y))) ∨ (LFn f x y C Γ0 Δ1 Δ ∧ phf (fun _ => true) C = true ∧ kdt C = 2 ∧ ndk (cch Γ0) (cch Δ1) = true ∧ ¬ HKd 0 tTop C Γ0 ∧ memt t27 (tch C) (cch Γ0) (cch Δ1) = true)
def LeftH (f : Nat) (x y : Ty) (Γ : List Ty) (Δ : List (Nat × Ty × Nat)) : Prop := ∃ (Δ1 Γ0 : List Ty) (b : Ty), Γ = cxs Δ1 Γ0 b ∧ nsch b = false ∧ ((∀ a ∈ Γ0, nsch a = true ∨ tch a ≤ tch b) ∧ ∀ a ∈ Δ1, nsch a = true ∨ tch a ≤ tch b) ∧ ((∀ B C, b ≠ tAll B C) ∨ (∃ B C, b = tAll B C ∧ B ≠ tTop) ∨ ∃ (C : Ty), b = tAll tTop C ∧ RsH f x y C Γ0 Δ1 Δ)
def RESTg : Prop := ∀ (f : Nat) (x y : Ty) (Γ : List Ty) (Δ : List (Nat × Ty × Nat)), TWf f Γ.length (Δ.map (fun a => a.1)) x → TWf f Γ.length (Δ.map (fun a => a.1)) y → TE Γ Δ → NAt f x → NAt f y → noac Γ → (∀ a ∈ Δ, noal a.2.1 = true) → TNo f x → TNo f y → 3 ≤ mch x → 3 ≤ mch y → (mch x ≤ mch y → ¬ NOp f x) → (¬ mch x ≤ mch y → ¬ NOp f y) → 20 ≤ cch Γ → cch Γ ≤ 47 → cch Γ + dch Δ + (2 + (mch x + mch y)) ≤ 60 → NoG f x y Γ Δ → (¬ ((mch x ≤ mch y → CHo f x []) ∧ (¬ mch x ≤ mch y → CHo f y [])) ∨ LeftH f x y Γ Δ) → PRn f x y Γ Δ
theorem exW_is : exW.all (fun t => memt t27 t.1 t.2.1 t.2.2 && (Nat.beq t.2.1 0 && ((memt exL t.1 t.2.1 t.2.2 || memt exS t.1 t.2.1 t.2.2) && !((xe1.getD t.1 []).any (fun s => Nat.beq s.1 t.2.1 && Nat.beq s.2 t.2.2))))) = true := by decide +kernel
theorem restf_of (R : RESTg) : RESTf := by
  intro f x y Γ Δ x1 x2 he y1 y2 hv hd' tx ty m3 n3 no1 no2 h20 h47 hb ng hL
  have rest := R f x y Γ Δ x1 x2 he y1 y2 hv hd' tx ty m3 n3 no1 no2 h20 h47 hb ng
  have nt : NtV Γ Δ f x 887 597 ∨ NtV Γ Δ f y 887 597 → PRn f x y Γ Δ := pair_ntv x1 x2 he y1 y2 hv hd' (by omega)
  by_cases ch : (mch x ≤ mch y → CHo f x []) ∧ (¬ mch x ≤ mch y → CHo f y [])
  rotate_left
  · exact rest (Or.inl ch)
  rcases hL with h | ⟨Δ1, Γ0, b, e, nb, hs, h⟩
  · exact absurd ch h
  rcases h with h | h | ⟨C, eb, lf, hp, h⟩
  · exact rest (Or.inr ⟨Δ1, Γ0, b, e, nb, hs, Or.inl h⟩)
  · exact rest (Or.inr ⟨Δ1, Γ0, b, e, nb, hs, Or.inr (Or.inl h)⟩)
  have out : RsH f x y C Γ0 Δ1 Δ → PRn f x y Γ Δ := fun r => rest (Or.inr ⟨Δ1, Γ0, b, e, nb, hs, Or.inr (Or.inr ⟨C, eb, r⟩)⟩)
  have ho : (∀ b ∈ Γ0, nsch b = true ∨ (true = true ∧ tch b ≤ tch C + 5)) ∧ ∀ b ∈ Δ1, nsch b = true ∨ (true = true ∧ tch b ≤ tch C + 5) := by
    have et : tch b = tch C + 5 := by rw [eb, tch_all, tch_top]; omega
    rw [et] at hs
    exact ⟨fun a ha => (hs.1 a ha).imp id (fun q => ⟨rfl, q⟩), fun a ha => (hs.2 a ha).imp id (fun q => ⟨rfl, q⟩)⟩
  subst eb
  subst e
  clear rest hs nb no1 no2
  have ec := ec_top C Γ0 Δ1
  have lf0 := lf
  obtain ⟨s, co, hsx, hmin, hco, hnp⟩ := lf
  have mem0 := npl_mem hnp (by omega)
  obtain ⟨-, oA⟩ := okc_low Δ1 he.1
  have oC := (ok_all.mp oA).2
  -- the shorter term
  obtain ⟨u, hu, wu, tu, cu, mu, bu⟩ : ∃ u, (u = x ∨ u = y) ∧ TWf f (cxs Δ1 Γ0 (tAll tTop C)).length (Δ.map (fun a => a.1)) u ∧ TNo f u ∧ CHo f u [] ∧ mch u = mch s ∧ (mch u ≤ mch x ∧ mch u ≤ mch y) := by
    by_cases c : mch x ≤ mch y
    · exact ⟨x, Or.inl rfl, x1, tx, ch.1 c, by rcases hsx with e | e <;> rw [e] at hmin ⊢ <;> omega, by omega⟩
    · exact ⟨y, Or.inr rfl, x2, ty, ch.2 c, by rcases hsx with e | e <;> rw [e] at hmin ⊢ <;> omega, by omega⟩
  have ntu : NtV (cxs Δ1 Γ0 (tAll tTop C)) Δ f u 887 597 → PRn f x y (cxs Δ1 Γ0 (tAll tTop C)) Δ := by
    intro h
    rcases hu with e | e
    · rw [e] at h; exact nt (Or.inl h)
    · rw [e] at h; exact nt (Or.inr h)
  have m3u : 3 ≤ mch u := by rcases hu with e | e <;> rw [e] <;> assumption
  rw [← mu] at mem0
  have hbu : cch (cxs Δ1 Γ0 (tAll tTop C)) + dch Δ + 2 * mch u ≤ 58 := by omega
  have kd := kd_phf oC hp
  -- names around where exW
  have named : memt exW (tch C) (cch Γ0) (cch Δ1) = true → Δ ≠ [] := by
    intro hw e
    have q := List.all_eq_true.mp exW_is _ (memt_mem hw)
    rw [Bool.and_eq_true, Bool.and_eq_true, Bool.and_eq_true, Bool.not_eq_true'] at q
    have q2 := q.2.2.2
    have hE : Δ.isEmpty = true := List.isEmpty_iff.mpr e
    rw [hE] at mem0
    have mem1 : (cch Γ0, cch Δ1) ∈ xe1.getD (tch C) [] := mem0
    have : (xe1.getD (tch C) []).any (fun s => Nat.beq s.1 (cch Γ0) && Nat.beq s.2 (cch Δ1)) = true := List.any_eq_true.mpr ⟨_, mem1, by rw [Bool.and_eq_true]; exact ⟨Nat.beq_refl _, Nat.beq_refl _⟩⟩
    rw [this] at q2
    cases q2
  have PL : HKd 0 tTop C Γ0 → memt exL (tch C) (cch Γ0) (cch Δ1) = true → Δ ≠ [] → (kdt C = 2 ∨ kdt C = 3) → PRn f x y (cxs Δ1 Γ0 (tAll tTop C)) Δ := by
    intro H hl nΔ k
    rcases pair_L H x1 x2 he y1 y2 hv hd' tx ty nΔ hl m3 n3 hb h47 with q | ⟨q1, q2, q3⟩
    · exact q
    · exact out (Or.inl ⟨lf0, hp, nΔ, Or.inr (Or.inr (Or.inr ⟨k, H, q1, q2, q3⟩))⟩)
  rcases h with ⟨nd, nH⟩ | ⟨k1', k4', hw⟩
  · rcases kd with k | k | k | k
    · rcases fl_w hp (Or.inl k) nd wu he tu cu ho m3u hbu h20 h47 mem0 with q | ⟨g1, g2, g3, g4, g5⟩
      · exact ntu q
      · subst g1
        subst g2
        have zz : cch ([] : List Ty) = 0 := rfl
        have d5 := dch_five he g5
        exact out (Or.inl ⟨lf0, hp, g5, Or.inl ⟨Or.inl k, g3, rfl, rfl, by omega, by omega⟩⟩)
    · rcases fl_v hp nd wu he cu ho m3u hbu h20 h47 mem0 with q | q
      · exact ntu q
      · exact out (Or.inr ⟨lf0, hp, k, nd, nH, q⟩)
    · rcases fl_v hp nd wu he cu ho m3u hbu h20 h47 mem0 with q | q
      · exact ntu q
      · obtain ⟨D, eD⟩ := kd3_is oC k
        have kk := t27_min _ (memt_mem q)
        have kk : 12 ≤ tch C ∧ tch C ≤ 38 ∧ cch Γ0 ≤ 7 ∧ cch Δ1 ≤ 26 ∧ 31 ≤ 9 + tch C + cch Γ0 + cch Δ1 := kk
        obtain ⟨oc0, -⟩ := okc_low Δ1 he.1
        have n0 : ∀ b ∈ Γ0, noh 0 b = true := by
          intro b hb'
          obtain ⟨d, h1, h2⟩ := okc_mch oc0 hb'
          cases hh : noh 0 b with
          | true => rfl
          | false =>
            have := noh_six h1 hh
            omega
        rcases HKd_or he.1 (by omega) n0 with H | H
        · exact absurd H nH
        · subst eD
          have et : tch (tAll tTop D) = tch D + 5 := by rw [tch_all, tch_top]; omega
          have k3 : kdt (tAll tTop D) = 3 := k
          rw [k3] at H
          exact ntu (nat_8 wu he tu cu (fl_D oC (by omega) H) ho q m3u hbu h47)
    · rcases fl_w hp (Or.inr k) nd wu he tu cu ho m3u hbu h20 h47 mem0 with q | ⟨g1, g2, g3, g4, g5⟩
      · exact ntu q
      · subst g1
        subst g2
        have zz : cch ([] : List Ty) = 0 := rfl
        have d5 := dch_five he g5
        exact out (Or.inl ⟨lf0, hp, g5, Or.inl ⟨Or.inr k, g3, rfl, rfl, by omega, by omega⟩⟩)
  · have nΔ := named hw
    have q := List.all_eq_true.mp exW_is _ (memt_mem hw)
    rw [Bool.and_eq_true, Bool.and_eq_true, Bool.and_eq_true, Bool.or_eq_true] at q
    obtain ⟨q27, q0, qls, -⟩ := q
    have q27 : memt t27 (tch C) (cch Γ0) (cch Δ1) = true := q27
    have z1 := cch_nil (Nat.eq_of_beq_eq_true q0)
    have qls : memt exL (tch C) (cch Γ0) (cch Δ1) = true ∨ memt exS (tch C) (cch Γ0) (cch Δ1) = true := qls
    rcases kd with k | k | k | k
    · exact absurd k k1'
    · by_cases H : HKd 0 tTop C Γ0
      · rcases qls with q | q
        · exact PL H q nΔ (Or.inl k)
        · exact out (Or.inl ⟨lf0, hp, nΔ, Or.inr (Or.inr (Or.inl ⟨q, Or.inl k⟩))⟩)
      · rcases qls with q | q
        · exact out (Or.inl ⟨lf0, hp, nΔ, Or.inr (Or.inl ⟨k, q, H⟩)⟩)
        · exact out (Or.inl ⟨lf0, hp, nΔ, Or.inr (Or.inr (Or.inl ⟨q, Or.inl k⟩))⟩)
    · obtain ⟨D, eD⟩ := kd3_is oC k
      have kk := t27_min _ (memt_mem q27)
      have kk : 12 ≤ tch C ∧ tch C ≤ 38 ∧ cch Γ0 ≤ 7 ∧ cch Δ1 ≤ 26 ∧ 31 ≤ 9 + tch C + cch Γ0 + cch Δ1 := kk
      have n0 : ∀ b ∈ Γ0, noh 0 b = true := by
        intro b hb'
        rw [z1] at hb'
        cases hb'
      rcases HKd_or he.1 (by omega) n0 with H | H
      · rcases qls with q | q
        · exact PL H q nΔ (Or.inr k)
        · exact out (Or.inl ⟨lf0, hp, nΔ, Or.inr (Or.inr (Or.inl ⟨q, Or.inr ⟨k, H⟩⟩))⟩)
      · subst eD
        have et : tch (tAll tTop D) = tch D + 5 := by rw [tch_all, tch_top]; omega
        have k3 : kdt (tAll tTop D) = 3 := k
        rw [k3] at H
        exact ntu (nat_8 wu he tu cu (fl_D oC (by omega) H) ho q27 m3u hbu h47)
    · exact absurd k k4'
theorem pairn_og (R : RESTg) : PAIRn := pairn_of (restf_of R)
