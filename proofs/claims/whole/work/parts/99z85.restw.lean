/-! BODIES THAT HOLD THE VERY BOUND, contexts without root schemes. -/
def o0R : LnT := [[], [], [], [], [], [], [], [], [], [], [], [], [], [], [], [], [], [], [], [], [], [], [], [], [], [], [], [], [], [], [], [], [], [], [], [], [], [], [], [(56, 0, 49, 9, 0, 27)], [(68, 0, 61, 9, 0, 28)], [(69, 0, 61, 9, 0, 29)], [(74, 0, 67, 9, 0, 30)], [(79, 0, 67, 9, 0, 30)], [], [], [], []]
def o0G : LnT := [[], [], [], [], [], [], [], [], [], [], [], [], [], [], [], [], [], [], [], [], [], [], [], [], [], [], [], [], [], [], [], [], [], [], [], [], [], [], [], [(35, 0, 30, 9, 0, 27)], [(41, 0, 36, 9, 0, 28)], [(41, 0, 36, 9, 0, 29)], [(43, 0, 38, 9, 0, 30)], [(47, 0, 38, 9, 0, 30)], [], [], [], []]
theorem o0R_39 : lnf8 false false o0R fr1 fg1 1 2 3 2 2 2 2 887 39 48 3 6 = true := by decide +kernel
theorem o0G_39 : lnf8 false false o0G frq fgq 0 1 1 1 3 2 1 597 39 48 3 6 = true := by decide +kernel
def o1R : LnT := [[], [], [], [], [], [], [], [], [], [], [], [], [], [], [], [], [], [], [], [], [], [], [], [], [], [], [], [], [], [], [], [], [], [], [(38, 0, 31, 5, 0, 22)], [(44, 0, 37, 6, 0, 23)], [(48, 0, 41, 6, 0, 24)], [(50, 0, 43, 6, 0, 25)], [], [(56, 0, 49, 9, 0, 27)], [(68, 0, 61, 9, 0, 28)], [(69, 0, 61, 9, 0, 29)], [], [], [], [], [], []]
def o1G : LnT := [[], [], [], [], [], [], [], [], [], [], [], [], [], [], [], [], [], [], [], [], [], [], [], [], [], [], [], [], [], [], [], [], [], [], [(23, 0, 18, 5, 0, 22)], [(24, 0, 19, 6, 0, 23)], [(29, 0, 24, 6, 0, 24)], [(32, 0, 27, 6, 0, 25)], [], [(35, 0, 30, 9, 0, 27)], [(41, 0, 36, 9, 0, 28)], [(41, 0, 36, 9, 0, 29)], [], [], [], [], [], []]
theorem o1R_34 : lnf8 true false o1R fr1 fg1 1 2 3 2 2 2 2 887 34 48 6 20 = true := by decide +kernel
theorem o1G_34 : lnf8 true false o1G frq fgq 0 1 1 1 3 2 1 597 34 48 6 20 = true := by decide +kernel
/-- forms by the bound's characters -/
def vfR (be : Nat) : FrT := if Nat.ble be 1 then xfa1 else sfR be
def vfG (be : Nat) : FrT := if Nat.ble be 1 then xfaq else sfG be
def zoR (L : LnT) (be k ov q1 q2 : Nat) : Bool := liz L (vfR be) fr1 fg1 1 3 (kpz fr1 0 (max 1 (fx1.getD q1 0)) ov) (wbz fr1 1 (max 1 (fx1.getD q1 0)) be) (max 1 (fx1.getD q1 0)) (ojz k ov q1 q2) k q2 (8 + be + k + ov + q1 + q2)
def zoG (L : LnT) (be k ov q1 q2 : Nat) : Bool := liz L (vfG be) frq fgq 0 1 (kpz frq 1 (max 1 (fxq.getD q1 0)) ov) (wbz frq 0 (max 1 (fxq.getD q1 0)) be) (max 1 (fxq.getD q1 0)) (ojz k ov q1 q2) k q2 (8 + be + k + ov + q1 + q2)
/-- where that is enough: names around -/
def B10z (m be k ov q1 q2 : Nat) : Bool := if Nat.ble m 5 then (Nat.ble 39 (8 + be + k + ov + q1 + q2) && (zoR o0R be k ov q1 q2 && zoG o0G be k ov q1 q2)) else (Nat.ble 34 (8 + be + k + ov + q1 + q2) && (zoR o1R be k ov q1 q2 && zoG o1G be k ov q1 q2))
theorem tq_top {D : Nat} {a : Ty} (o : ok D a = true) (h : tqN tTop 0 D a = true) : hd a = 0 := by
  unfold tqN at h
  rw [decide_eq_true_iff] at h
  have hl := congrArg List.length h
  rw [List.length_map, List.length_map] at hl
  have e1 : (flat tTop).length = 1 := rfl
  rcases ok_cases o with rfl | ⟨j, hj, rfl⟩ | ⟨x, y, rfl, hx, hy⟩ | ⟨x, y, rfl, hx, hy⟩ | ⟨c, x, y, z, hm, rfl, h0, h1, h2⟩
  · rfl
  · exfalso
    have e2 : flat (tVar j) = [16 + (j : Int)] := by simp [tVar, flat]
    have e3 : flat tTop = [0] := by simp [tTop, flat]
    rw [e2, e3] at h
    have h : [nfx D (16 + (j : Int))] = [nfx 0 0] := h
    injection h with h _
    rw [nfx_lo (by omega), nfx_lo (by omega)] at h
    omega
  · have p1 := flat_pos hx
    rw [flat_fun, List.length_cons, List.length_append] at hl
    have p2 := flat_pos hy
    omega
  · have p1 := flat_pos hx
    rw [flat_all, List.length_cons, List.length_append] at hl
    have p2 := flat_pos hy
    omega
  · exfalso
    have e3 : flat tTop = [0] := by simp [tTop, flat]
    rw [flat_rec, e3, List.map_cons] at h
    have h : nfx D _ :: _ = [nfx 0 0] := h
    injection h with h _
    rw [nfx_lo (by omega), nfx_lo (by omega)] at h
    omega
theorem sN_phf : ∀ (f : Nat) (t : Ty) (D : Nat), (flat t).length ≤ f → ok D t = true → sN tTop 0 D t = true → phf (fun _ => true) t = true
  | 0, t, D, hf, o, _ => by have := flat_pos o; omega
  | f + 1, t, D, hf, o, hn => by
    rcases ok_cases o with rfl | ⟨j, hj, rfl⟩ | ⟨a, c, rfl, ha, hb⟩ | ⟨a, c, rfl, ha, hb⟩ | ⟨m', x, y, z, hm, rfl, h0, h1, h2⟩
    · simp [tTop, sN] at hn
    · simp [tVar, sN] at hn
    · rw [flat_fun, List.length_cons, List.length_append] at hf
      rw [sN_fun, Bool.or_eq_true] at hn
      rw [phf_fun, Bool.or_eq_true]
      exact hn.imp (sN_phf f a D (by omega) ha) (sN_phf f c D (by omega) hb)
    · rw [flat_all, List.length_cons, List.length_append] at hf
      rw [sN_all, Bool.or_eq_true, Bool.or_eq_true] at hn
      rw [phf_all, Bool.or_eq_true, Bool.or_eq_true]
      rcases hn with hn | hn | hn
      · left
        rw [Bool.and_eq_true]
        exact ⟨decide_eq_true (tq_top ha hn), rfl⟩
      · exact Or.inr (Or.inl (sN_phf f a D (by omega) ha hn))
      · exact Or.inr (Or.inr (sN_phf f c (D + 1) (by omega) hb hn))
    · rw [flat_rec, List.length_cons, List.length_append, List.length_append] at hf
      rw [sN_rec, Bool.or_eq_true, Bool.or_eq_true] at hn
      rw [phf_rec, Bool.or_eq_true, Bool.or_eq_true]
      have key : ∀ (i : Nat) (p : Ty), (flat p).length ≤ f → okl D m' i p → sN tTop 0 D p = true → phf (fun _ => true) p = true := by
        intro i p hp ho hs
        unfold okl at ho
        by_cases hb : bit m' i = true
        · rw [if_pos hb] at ho
          exact sN_phf f p D hp ho hs
        · rw [if_neg hb] at ho
          rw [ho] at hs
          simp [sN] at hs
      exact hn.imp (key 0 x (by omega) h0) (fun q => q.imp (key 1 y (by omega) h1) (key 2 z (by omega) h2))
section PmIs
variable {f : Nat} {t b b' B C : Ty} {Γ0 Δ1 : List Ty} {Δ : List (Nat × Ty × Nat)}
theorem vf_R {d : Nat} (oB : ok 0 B = true) (b1 : tch B = 1 → B = tTop) (b16 : tch B ≤ 16) (oC : ok d C = true) (k40 : tch C ≤ 40) (fl : sN B 0 d C = true) : ∃ v ∈ frg (vfR (tch B)) (tch C), xt d C ≤ v.1 ∧ xa 0 (fun _ => 1 + 1) 3 1 d C ≤ v.2 := by
  have p := tch_pos oB
  unfold vfR
  by_cases c : tch B = 1
  · have e := b1 c
    subst e
    rw [if_pos (by rw [c]; rfl)]
    exact yv_R oC k40 (sN_phf _ C d (Nat.le_refl _) oC fl)
  · rw [if_neg (by intro q; have := Nat.le_of_ble_eq_true q; omega)]
    exact sn_rows oB (by omega) b16 oC k40 fl
theorem vf_G {d : Nat} (oB : ok 0 B = true) (b1 : tch B = 1 → B = tTop) (b16 : tch B ≤ 16) (oC : ok d C = true) (k40 : tch C ≤ 40) (fl : sN B 0 d C = true) : ∃ v ∈ frg (vfG (tch B)) (tch C), xt d C ≤ v.1 ∧ xa 1 ngc 1 0 d C ≤ v.2 := by
  have p := tch_pos oB
  unfold vfG
  by_cases c : tch B = 1
  · have e := b1 c
    subst e
    rw [if_pos (by rw [c]; rfl)]
    exact yv_G oC k40 (sN_phf _ C d (Nat.le_refl _) oC fl)
  · rw [if_neg (by intro q; have := Nat.le_of_ble_eq_true q; omega)]
    exact sn_goals oB (by omega) b16 oC k40 fl
theorem nat_bo (oB : ok 0 B = true) (b16 : tch B ≤ 16) (fl : sN B 0 (Γ0.length + 1) C = true) (nΔ : Δ ≠ []) (hr : ∀ a ∈ cxs Δ1 Γ0 b, hd a ≠ 2) (lb : LBd Γ0 Δ1 b b' B C) (w : TWf f (cxs Δ1 Γ0 b).length (Δ.map (fun a => a.1)) t) (he : TE (cxs Δ1 Γ0 b) Δ) (ch : CHo f t []) (hz : B10z (mch t) (tch B) (tch C) (tch b - tch (tAll B C)) (cch Γ0) (cch Δ1) = true) (m3 : 3 ≤ mch t) (h47 : cch (cxs Δ1 Γ0 b) ≤ 47) (q38 : cch Δ1 ≤ 38) (hb : cch (cxs Δ1 Γ0 b) + dch Δ + 2 * mch t ≤ 58) : NtV (cxs Δ1 Γ0 b) Δ f t 887 597 := by
  have ec := cch_cx (Γ0 := Γ0) (β := b) Δ1
  have cσ := lb.1.ch
  have eσ := tch_all B C
  have eq : 8 + tch B + tch C + (tch b - tch (tAll B C)) + cch Γ0 + cch Δ1 = cch (cxs Δ1 Γ0 b) := by omega
  have oC := (ok_all.mp lb.1.2.1).2
  have fR := vf_R oB lb.2.2.1 b16 oC lb.2.2.2.1 fl
  have fG := vf_G oB lb.2.2.1 b16 oC lb.2.2.2.1 fl
  unfold B10z zoR zoG at hz
  rw [eq] at hz
  have hΔ : (false = true ∧ Δ = []) ∨ (false = false ∧ Δ ≠ []) := Or.inr ⟨rfl, nΔ⟩
  by_cases m5 : mch t ≤ 5
  · rw [if_pos (Nat.ble_eq_true_of_le m5), Bool.and_eq_true, Bool.and_eq_true] at hz
    obtain ⟨h39, zR, zG⟩ := hz
    have h39 := Nat.le_of_ble_eq_true h39
    exact zone_hx (un := false) fR fG hr lb w he hΔ (Or.inr ((co_six w).resolve_right (by omega))) ch zR zG o0R_39 o0G_39 h39 (by omega) m3 (by omega) h47 q38 hb
  · rw [if_neg (by intro q; exact m5 (Nat.le_of_ble_eq_true q)), Bool.and_eq_true, Bool.and_eq_true] at hz
    obtain ⟨h34, zR, zG⟩ := hz
    have h34 := Nat.le_of_ble_eq_true h34
    exact zone_hx (un := true) fR fG hr lb w he hΔ (Or.inl rfl) ch zR zG o1R_34 o1G_34 h34 (by omega) (by omega) (by omega) h47 q38 hb
end PmIs
def AzO (f : Nat) (t : Ty) (Γ : List Ty) (Δ : List (Nat × Ty × Nat)) : Prop := ∃ (Δ1 Γ0 : List Ty) (b b' B C : Ty), Γ = cxs Δ1 Γ0 b ∧ ok 0 B = true ∧ tch B ≤ 16 ∧ sN B 0 (Γ0.length + 1) C = true ∧ Δ ≠ [] ∧ (∀ a ∈ cxs Δ1 Γ0 b, hd a ≠ 2) ∧ LBd Γ0 Δ1 b b' B C ∧ CHo (pee f t).1 (pee f t).2 [] ∧ B10z (mch (pee f t).2) (tch B) (tch C) (tch b - tch (tAll B C)) (cch Γ0) (cch Δ1) = true ∧ 3 ≤ mch (pee f t).2 ∧ cch Δ1 ≤ 38 ∧ cch Γ + dch Δ + 2 * mch (pee f t).2 ≤ 58
theorem AzO.v {f : Nat} {t : Ty} {Γ : List Ty} {Δ : List (Nat × Ty × Nat)} (w : TWf f Γ.length (Δ.map (fun a => a.1)) t) (he : TE Γ Δ) (h47 : cch Γ ≤ 47) (h : AzO f t Γ Δ) : NtV Γ Δ f t 887 597 := by
  obtain ⟨Δ1, Γ0, b, b', B, C, e, oB, b16, fl, nΔ, hr, lb, ch, hz, m3, q38, hb⟩ := h
  refine NtV_pee f t w he ?_
  have w' := (pee_ok f _ _ t w).1.1
  subst e
  exact nat_bo oB b16 fl nΔ hr lb w' he ch hz m3 h47 q38 hb
def RESTw9 : Prop := ∀ (f : Nat) (x y : Ty) (Γ : List Ty) (Δ : List (Nat × Ty × Nat)), TWf f Γ.length (Δ.map (fun a => a.1)) x → TWf f Γ.length (Δ.map (fun a => a.1)) y → TE Γ Δ → NAt f x → NAt f y → noac Γ → (∀ a ∈ Δ, noal a.2.1 = true) → TNo f x → TNo f y → 3 ≤ mch x → 3 ≤ mch y → (mch x ≤ mch y → ¬ NOp f x) → (¬ mch x ≤ mch y → ¬ NOp f y) → 20 ≤ cch Γ → cch Γ ≤ 47 → cch Γ + dch Δ + (2 + (mch x + mch y)) ≤ 60 → NoO f x y Γ Δ → ¬ AzT f x Γ Δ → ¬ AzT f y Γ Δ → ¬ AzB f x Γ Δ → ¬ AzB f y Γ Δ → ¬ AzC f x Γ Δ → ¬ AzC f y Γ Δ → ¬ AzI f x Γ Δ → ¬ AzI f y Γ Δ → ¬ AzF f x Γ Δ → ¬ AzF f y Γ Δ → ¬ AzG f x Γ Δ → ¬ AzG f y Γ Δ → ¬ AzH f x Γ Δ → ¬ AzH f y Γ Δ → ¬ PrS f x y Γ Δ → ¬ AzK f x Γ Δ → ¬ AzK f y Γ Δ → ¬ AzL f x Γ Δ → ¬ AzL f y Γ Δ → ¬ AzM f x Γ Δ → ¬ AzM f y Γ Δ → ¬ PrG f x y Γ Δ → ¬ AzN f x Γ Δ → ¬ AzN f y Γ Δ → ¬ One9 Γ → ¬ AzO f x Γ Δ → ¬ AzO f y Γ Δ → (¬ ((mch x ≤ mch y → CHo f x []) ∧ (¬ mch x ≤ mch y → CHo f y [])) ∨ LeftJ f x y Γ Δ) → PRn f x y Γ Δ
theorem restv9_of (R : RESTw9) : RESTv9 := by
  intro f x y Γ Δ x1 x2 he y1 y2 hv hd' tx ty m3 n3 no1 no2 h20 h47 hb ng ax ay bx bz cx cy dx dy ex ey gx gy ix iy jx kx ky lx ly mx my px qx qy ox hL
  by_cases a : AzO f x Γ Δ
  · exact pair_ntv x1 x2 he y1 y2 hv hd' (by omega) (Or.inl (a.v x1 he h47))
  by_cases b : AzO f y Γ Δ
  · exact pair_ntv x1 x2 he y1 y2 hv hd' (by omega) (Or.inr (b.v x2 he h47))
  exact R f x y Γ Δ x1 x2 he y1 y2 hv hd' tx ty m3 n3 no1 no2 h20 h47 hb ng ax ay bx bz cx cy dx dy ex ey gx gy ix iy jx kx ky lx ly mx my px qx qy ox a b hL
theorem pairn_ow (R : RESTw9) : PAIRn := pairn_ov (restv9_of R)
