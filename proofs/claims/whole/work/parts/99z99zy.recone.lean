/-! exK: ONE BINDER WITH A SCHEME IN A RECORD OF ONE FIELD, another binder behind (RESTAB9). -/
section PmZyA
variable {d : Nat} {P : Ty → Prop} {σ b x : Ty}
theorem is_top (o : ok d x = true) (h : IS2 P x) (ni : ¬ IS2 (fun _ => False) x) (hp : ∀ s, ok d s = true → P s → tch x ≤ tch s) : ∃ a c, x = tAll a c ∧ P x := by
  have sub : ∀ c, ok d c = true → tch c < tch x → IS2 P c → IS2 (fun _ => False) c := fun c oc lt hc => IS2_okt _ d c (Nat.le_refl _) oc (fun s os ts _ p => by have := hp s os p; omega) hc
  rcases ok_cases o with rfl | ⟨j, hj, rfl⟩ | ⟨a, c, rfl, ha, hb⟩ | ⟨a, c, rfl, ha, hb⟩ | ⟨m, x, y, z, hm, rfl, h0, h1, h2⟩
  · exact absurd IS2_top ni
  · exact absurd (IS2_var j) ni
  · exact absurd (IS2_funI (sub c hb (by rw [tch_fun]; omega) (IS2_fun h))) ni
  · exact ⟨a, c, rfl, IS2_all h⟩
  · exfalso
    obtain ⟨i0, i1, i2⟩ := IS2_rec h
    have r1 : 1 ≤ rch m := by unfold rch; split <;> omega
    have e := tch_rec m x y z
    have key : ∀ (i : Nat) (u : Ty), okl d m i u → tch u < tch (tRec m x y z) → IS2 P u → IS2 (fun _ => False) u := by
      intro i u ou lt hu
      exact IS2_okl ou (fun _ s os ts _ p => by have := hp s os p; omega) hu
    exact ni (IS2_recI ⟨key 0 x h0 (by omega) i0, key 1 y h1 (by omega) i1, key 2 z h2 (by omega) i2⟩)
theorem rch_one : ∀ m, m < 8 → rch m ≤ 4 → m = 0 ∨ m = 1 ∨ m = 2 ∨ m = 4 := by decide
/-- what has three characters around a scheme is a record of one field -/
theorem rec_one (o : ok d b = true) (h : IS2 (DSo d σ b) b) (ni : ¬ IS2 (fun _ => False) b) (h2 : hd b ≠ 2) (e3 : tch b = tch σ + 3) : ∃ m, b = tRec m σ .nil .nil ∧ m = 1 ∨ b = tRec m .nil σ .nil ∧ m = 2 ∨ b = tRec m .nil .nil σ ∧ m = 4 := by
  have P : ∀ s, DSo d σ b s → s = σ := fun s q => by
    rcases q with q | ⟨-, -, q, -⟩
    · exact q
    · omega
  have h' : IS2 (fun s => s = σ) b := IS2_okt _ d b (Nat.le_refl _) o (fun s os ts _ p => P s p) h
  rcases ok_cases o with rfl | ⟨j, hj, rfl⟩ | ⟨a, c, rfl, ha, hb⟩ | ⟨a, c, rfl, ha, hb⟩ | ⟨m, x, y, z, hm, rfl, h0, h1, h2'⟩
  · exact absurd IS2_top ni
  · exact absurd (IS2_var j) ni
  · exfalso
    have pa := tch_pos ha
    rw [tch_fun] at e3
    exact ni (IS2_funI (IS2_okt _ d c (Nat.le_refl _) hb (fun s os ts _ p => by rw [p] at ts; omega) (IS2_fun h')))
  · exact absurd (hd_all _ _) h2
  · obtain ⟨i0, i1, i2⟩ := IS2_rec h'
    have e := tch_rec m x y z
    have sub : ∀ (i : Nat) (u : Ty), okl d m i u → IS2 (fun s => s = σ) u → ¬ IS2 (fun _ => False) u → bit m i = true ∧ tch σ ≤ tch u := by
      intro i u ou hu nu
      unfold okl at ou
      by_cases hb : bit m i = true
      · refine ⟨hb, Classical.byContradiction (fun c => ?_)⟩
        rw [if_pos hb] at ou
        exact nu (IS2_okt _ d u (Nat.le_refl _) ou (fun s os ts _ p => by rw [p] at ts; omega) hu)
      · rw [if_neg hb] at ou
        rw [ou] at nu
        exact absurd IS2_nil nu
    have top : ∀ (i : Nat) (u : Ty), okl d m i u → IS2 (fun s => s = σ) u → ¬ IS2 (fun _ => False) u → tch u = tch σ → u = σ := by
      intro i u ou hu nu eu
      have hb := (sub i u ou hu nu).1
      have ou' := okl_on ou (bit_iff.mp hb)
      obtain ⟨a, c, -, q⟩ := is_top ou' hu nu (fun s _ p => by rw [p]; omega)
      exact q
    have nn : ¬ IS2 (fun _ => False) x ∨ ¬ IS2 (fun _ => False) y ∨ ¬ IS2 (fun _ => False) z := by
      refine Classical.byContradiction (fun c => ni (IS2_recI ⟨?_, ?_, ?_⟩))
      · exact Classical.byContradiction (fun q => c (Or.inl q))
      · exact Classical.byContradiction (fun q => c (Or.inr (Or.inl q)))
      · exact Classical.byContradiction (fun q => c (Or.inr (Or.inr q)))
    have tl : ∀ (i : Nat) (u : Ty), okl d m i u → bit m i = true → 1 ≤ tch u := fun i u ou hb => tch_pos (okl_on ou (bit_iff.mp hb))
    have off : ∀ (i : Nat) (u : Ty), okl d m i u → bit m i = false → u = .nil := fun i u ou hb => by
      unfold okl at ou
      rw [if_neg (by rw [hb]; decide)] at ou
      exact ou
    have tn : tch (.nil : Ty) = 0 := rfl
    have four : rch m ≤ 4 := by
      rcases nn with n | n | n
      · have := (sub 0 x h0 i0 n).2; omega
      · have := (sub 1 y h1 i1 n).2; omega
      · have := (sub 2 z h2' i2 n).2; omega
    rcases rch_one m hm four with rfl | rfl | rfl | rfl
    · exfalso
      rcases nn with n | n | n
      · exact absurd (sub 0 x h0 i0 n).1 (by decide)
      · exact absurd (sub 1 y h1 i1 n).1 (by decide)
      · exact absurd (sub 2 z h2' i2 n).1 (by decide)
    · have e1 := off 1 y h1 (by decide)
      have e2 := off 2 z h2' (by decide)
      subst e1; subst e2
      have r : rch 1 = 3 := by decide
      refine ⟨1, Or.inl ⟨?_, rfl⟩⟩
      rw [top 0 x h0 i0 (by rcases nn with n | n | n; exact n; exact absurd IS2_nil n; exact absurd IS2_nil n) (by omega)]
    · have e1 := off 0 x h0 (by decide)
      have e2 := off 2 z h2' (by decide)
      subst e1; subst e2
      have r : rch 2 = 3 := by decide
      refine ⟨2, Or.inr (Or.inl ⟨?_, rfl⟩)⟩
      rw [top 1 y h1 i1 (by rcases nn with n | n | n; exact absurd IS2_nil n; exact n; exact absurd IS2_nil n) (by omega)]
    · have e1 := off 0 x h0 (by decide)
      have e2 := off 1 y h1 (by decide)
      subst e1; subst e2
      have r : rch 4 = 3 := by decide
      refine ⟨4, Or.inr (Or.inr ⟨?_, rfl⟩)⟩
      rw [top 2 z h2' i2 (by rcases nn with n | n | n; exact absurd IS2_nil n; exact absurd IS2_nil n; exact n) (by omega)]
end PmZyA
theorem lb_rec3 {Γ0 Δ1 : List Ty} {b b' B C : Ty} (lb : LBd Γ0 Δ1 b b' B C) (o : ok Γ0.length b = true) (ni : ¬ IS2 (fun _ => False) b) (h2 : hd b ≠ 2) (e3 : tch b - tch (tAll B C) = 3) : ∃ b2, LBd Γ0 Δ1 b b2 B C ∧ ∀ h ω, nz 0 (fun _ => 1 + 1) (2 + 1) h ω b2 ≤ 2 := by
  obtain ⟨⟨o1, oσ, c1, n1', is⟩, eT, eB, k40, i0, i1⟩ := lb
  have tn : tch (.nil : Ty) = 0 := rfl
  have mk : ∀ m b2, b2 = tRec m tTop .nil .nil ∧ m = 1 ∧ b = tRec m (tAll B C) .nil .nil ∨ b2 = tRec m .nil tTop .nil ∧ m = 2 ∧ b = tRec m .nil (tAll B C) .nil ∨ b2 = tRec m .nil .nil tTop ∧ m = 4 ∧ b = tRec m .nil .nil (tAll B C) → LBd Γ0 Δ1 b b2 B C ∧ ∀ h ω, nz 0 (fun _ => 1 + 1) (2 + 1) h ω b2 ≤ 2 := by
    intro m b2 q
    have okn : ∀ i, bit m i = false → okl Γ0.length m i .nil := fun i hb => by
      unfold okl
      rw [if_neg (by rw [hb]; decide)]
    have okt : ∀ i, bit m i = true → okl Γ0.length m i tTop := fun i hb => by
      unfold okl
      rw [if_pos hb]
      exact ok_top _
    rcases q with ⟨rfl, rfl, rfl⟩ | ⟨rfl, rfl, rfl⟩ | ⟨rfl, rfl, rfl⟩
    · refine ⟨⟨⟨(ok_rec (by decide)).mpr ⟨okt 0 (by decide), okn 1 (by decide), okn 2 (by decide)⟩, oσ, by rw [tch_rec, tch_rec, tch_top, tn, show rch 1 = 3 by decide]; omega, fun t0 n1 s2 h ω => by rw [nz_rec, nz_rec, nz_nil]; omega, is⟩, fun e => by omega, eB, k40, i0, i1⟩, fun h ω => by rw [nz_rec, nz_top, nz_nil]; decide⟩
    · refine ⟨⟨⟨(ok_rec (by decide)).mpr ⟨okn 0 (by decide), okt 1 (by decide), okn 2 (by decide)⟩, oσ, by rw [tch_rec, tch_rec, tch_top, tn, show rch 2 = 3 by decide]; omega, fun t0 n1 s2 h ω => by rw [nz_rec, nz_rec, nz_nil]; omega, is⟩, fun e => by omega, eB, k40, i0, i1⟩, fun h ω => by rw [nz_rec, nz_top, nz_nil]; decide⟩
    · refine ⟨⟨⟨(ok_rec (by decide)).mpr ⟨okn 0 (by decide), okn 1 (by decide), okt 2 (by decide)⟩, oσ, by rw [tch_rec, tch_rec, tch_top, tn, show rch 4 = 3 by decide]; omega, fun t0 n1 s2 h ω => by rw [nz_rec, nz_rec, nz_nil]; omega, is⟩, fun e => by omega, eB, k40, i0, i1⟩, fun h ω => by rw [nz_rec, nz_top, nz_nil]; decide⟩
  obtain ⟨m, q⟩ := rec_one (σ := tAll B C) o is ni h2 (by omega)
  rcases q with ⟨q, em⟩ | ⟨q, em⟩ | ⟨q, em⟩
  · exact ⟨_, mk m _ (Or.inl ⟨rfl, em, q⟩)⟩
  · exact ⟨_, mk m _ (Or.inr (Or.inl ⟨rfl, em, q⟩))⟩
  · exact ⟨_, mk m _ (Or.inr (Or.inr ⟨rfl, em, q⟩))⟩
section PmZy9
variable {f : Nat} {t b b' B C : Ty} {Γ0 Δ1 : List Ty} {Δ : List (Nat × Ty × Nat)} {e : Bool} {LR LG : LnT} {cd : Nat}
theorem zone_jk {VR VG : FrT} (fR : ∃ v ∈ frg VR (tch C), xt (Γ0.length + 1) C ≤ v.1 ∧ xa 0 (fun _ => 1 + 1) 3 1 (Γ0.length + 1) C ≤ v.2) (fG : ∃ v ∈ frg VG (tch C), xt (Γ0.length + 1) C ≤ v.1 ∧ xa 1 ngc 1 0 (Γ0.length + 1) C ≤ v.2) (lb : LBd Γ0 Δ1 b b' B C) {κr : Nat} (hkr : ∀ d, nz 0 (fun _ => 1 + 1) (2 + 1) (vlr d 1) (onz 0 (fun _ => 1 + 1) (2 + 1) (vlr d 1) Γ0) b' ≤ κr) (w : TWf f (cxs Δ1 Γ0 b).length (Δ.map (fun a => a.1)) t) (he : TE (cxs Δ1 Γ0 b) Δ) (hΔ : (e = true ∧ Δ = []) ∨ (e = false ∧ Δ ≠ [])) (cu : TNo f t) (hΔ1 : Δ.length ≤ 1) (ch : CHo f t []) (zR : liz LR VR fr1 fg1 1 3 κr (wbz fr1 1 (max 1 (fx1.getD (cch Γ0) 0)) (tch B)) (max 1 (fx1.getD (cch Γ0) 0)) (ojy (tch C) (tch b - tch (tAll B C)) (cch Γ0) (cch Δ1)) (tch C) (cch Δ1) 0 = true) (zG : liz LG VG frq fgq 0 1 (kpz frq 1 (max 1 (fxq.getD (cch Γ0) 0)) (tch b - tch (tAll B C))) (wbz frq 0 (max 1 (fxq.getD (cch Γ0) 0)) (tch B)) (max 1 (fxq.getD (cch Γ0) 0)) (ojy (tch C) (tch b - tch (tAll B C)) (cch Γ0) (cch Δ1)) (tch C) (cch Δ1) 0 = true) (tR : lno e LR fr1 fg1 1 2 3 2 2 2 2 887 cd (mch t) = true) (tG : lno e LG frq fgq 0 1 1 1 3 2 1 597 cd (mch t) = true) (m30 : mch t ≤ 30) (cd56 : cd ≤ 56) (h47 : cch (cxs Δ1 Γ0 b) ≤ 47) (q38 : cch Δ1 ≤ 38) (hb : dch Δ ≤ cd) : NtV (cxs Δ1 Γ0 b) Δ f t 887 597 := by
  obtain ⟨ds, eT, eB, k40, i0, i1⟩ := lb
  obtain ⟨oc0, oB⟩ := okc_low Δ1 he.1
  have ec := cch_cx (Γ0 := Γ0) (β := b) Δ1
  have oσ := ds.2.1
  have oBB := (ok_all.mp oσ).1
  have oC := (ok_all.mp oσ).2
  have pB := tch_pos oBB
  have pC := tch_pos oC
  have cσ := ds.ch
  have pb' := ds.2.2.1
  have eσ := tch_all B C
  have b0 : ∀ a ∈ Γ0, OBs (ojy (tch C) (tch b - tch (tAll B C)) (cch Γ0) (cch Δ1)) a := fun a ha => by
    obtain ⟨d, o1, o2⟩ := okc_mch oc0 ha
    exact OBs_of o1 o2 k40 (i0 a ha) (Nat.le_max_left _ _)
  have b1 : ∀ a ∈ Δ1, OBs (ojy (tch C) (tch b - tch (tAll B C)) (cch Γ0) (cch Δ1)) a := fun a ha => by
    obtain ⟨d, o1, o2⟩ := okc_top Δ1 he.1 a ha
    exact OBs_of o1 o2 k40 (i1 a ha) (Nat.le_trans (Nat.le_max_left _ _) (Nat.le_max_right _ _))
  have bs : ∀ B' C', ok Γ0.length (tAll B' C') = true → tch C' ≤ tch C → tch (tAll B' C') + tch (tAll B C) + 5 ≤ tch b → tch C' ≤ 40 ∧ lmx xr1 (tch C') ≤ ojy (tch C) (tch b - tch (tAll B C)) (cch Γ0) (cch Δ1) ∧ lmx fr1 (tch C') ≤ ojy (tch C) (tch b - tch (tAll B C)) (cch Γ0) (cch Δ1) := by
    intro B' C' o' l1 l2
    have p1 := tch_pos (ok_all.mp o').1
    have e1 := tch_all B' C'
    have m1 := lmx_mono fr1 (show tch C' ≤ min (tch C) (tch b - tch (tAll B C) - 10) by omega)
    have m2 := lmx_xf (tch C') (by omega)
    have m3 : lmx fr1 (min (tch C) (tch b - tch (tAll B C) - 10)) ≤ ojy (tch C) (tch b - tch (tAll B C)) (cch Γ0) (cch Δ1) := Nat.le_trans (Nat.le_max_right _ _) (Nat.le_max_right _ _)
    exact ⟨by omega, by omega, by omega⟩
  have hch : CHo f t (([] : Stk).map Option.isSome) := ch
  refine fun S hS => ⟨fun d => ?_, ?_⟩
  · have T := tbs1 d
    have l0 := onz_len 0 (fun _ => 1 + 1) (2 + 1) (vlr d 1) Γ0
    have hω : ∀ j, j < (onz 0 (fun _ => 1 + 1) (2 + 1) (vlr d 1) Γ0).length → vw (onz 0 (fun _ => 1 + 1) (2 + 1) (vlr d 1) Γ0) j ≤ max 1 (fx1.getD (cch Γ0) 0) := fun j hj => Nat.le_trans (onz_chars (n1 := fun _ => 1 + 1) T.1 T.2.1 T.2.2.1 T.2.2.2.1 T.2.2.2.2.1 Γ0 oc0 (by omega) j (by rw [l0] at hj; exact hj)) (Nat.le_max_right _ _)
    obtain ⟨v, hv, f1, f2⟩ := fR
    have hκ := hkr d
    have hwB : vlr d 1 (nz 0 (fun _ => 1 + 1) (2 + 1) (vlr d 1) (onz 0 (fun _ => 1 + 1) (2 + 1) (vlr d 1) Γ0) B) ≤ wbz fr1 1 (max 1 (fx1.getD (cch Γ0) 0)) (tch B) := by
      have q2 := vlr_one d (nz 0 (fun _ => 1 + 1) (2 + 1) (vlr d 1) (onz 0 (fun _ => 1 + 1) (2 + 1) (vlr d 1) Γ0) B)
      unfold wbz
      by_cases q : tch B = 1
      · rw [if_pos (show Nat.beq (tch B) 1 = true by rw [q]; rfl)]
        rw [eB q, nz_top] at q2 ⊢
        omega
      · rw [if_neg (by intro q'; exact q (Nat.eq_of_beq_eq_true q'))]
        have q3 : nz 0 (fun _ => 1 + 1) (2 + 1) (vlr d 1) (onz 0 (fun _ => 1 + 1) (2 + 1) (vlr d 1) Γ0) B ≤ Zx fr1 (max 1 (fx1.getD (cch Γ0) 0)) (tch B + 2) := Zx_le T (by rw [l0]; exact oBB) (by omega) (Nat.le_max_left _ _) hω
        generalize nz 0 (fun _ => 1 + 1) (2 + 1) (vlr d 1) (onz 0 (fun _ => 1 + 1) (2 + 1) (vlr d 1) Γ0) B = n9 at *
        generalize Zx fr1 (max 1 (fx1.getD (cch Γ0) 0)) (tch B + 2) = z9 at *
        omega
    rcases hΔ with ⟨ee, cΔ⟩ | ⟨ee, cΔ⟩
    · refine gen_zjo (a5 := 5) (cd := 0) (NC_rows d 1) (vlr_mono d 1) (vlr_lip d 1) T fr1_m fg1_ok fg1_m fg1s_1 (by decide) (vlr_one d) (by decide) ds w he cu hΔ1 (by omega) (by rw [cΔ]; exact Nat.le_refl _) (Nat.zero_le _) (Nat.le_refl _) (fun e => absurd cΔ e) b0 b1 bs q38 (by omega) (Nat.le_refl _) hκ hwB f1 f2 (fun E Z aq hE => GH_natc (E := E) (Z := Z) (NC_rows d 1) (vlr_mono d 1) f t [] _ _ Δ w he hch aq (onz_cv (NC_rows d 1) he.1) hE) (fun p hp u hu => ?_) hS
      obtain ⟨s, m, q⟩ := liz_get zR v hv p hp u hu
      exact ⟨s, q, (lno_get tR m).2 ee⟩
    · refine gen_zjo (a5 := 0) (cd := cd) (NC_rows d 1) (vlr_mono d 1) (vlr_lip d 1) T fr1_m fg1_ok fg1_m fg1s_1 (by decide) (vlr_one d) (by decide) ds w he cu hΔ1 (by omega) (by omega) (by omega) (Nat.zero_le _) (fun _ => rfl) b0 b1 bs q38 (by omega) (Nat.le_refl _) hκ hwB f1 f2 (fun E Z aq hE => GH_natc (E := E) (Z := Z) (NC_rows d 1) (vlr_mono d 1) f t [] _ _ Δ w he hch aq (onz_cv (NC_rows d 1) he.1) hE) (fun p hp u hu => ?_) hS
      obtain ⟨s, m, q⟩ := liz_get zR v hv p hp u hu
      exact ⟨s, q, (lno_get tR m).1 ee⟩
  · have T := tbsq
    have l0 := onz_len 1 ngc 1 (fun x => x) Γ0
    have hω : ∀ j, j < (onz 1 ngc 1 (fun x => x) Γ0).length → vw (onz 1 ngc 1 (fun x => x) Γ0) j ≤ max 1 (fxq.getD (cch Γ0) 0) := fun j hj => Nat.le_trans (onz_chars (n1 := ngc) T.1 T.2.1 T.2.2.1 T.2.2.2.1 T.2.2.2.2.1 Γ0 oc0 (by omega) j (by rw [l0] at hj; exact hj)) (Nat.le_max_right _ _)
    obtain ⟨v, hv, f1, f2⟩ := fG
    have hκ : nz 1 ngc 1 (fun x => x) (onz 1 ngc 1 (fun x => x) Γ0) b' ≤ kpz frq 1 (max 1 (fxq.getD (cch Γ0) 0)) (tch b - tch (tAll B C)) := by
      unfold kpz
      by_cases q : tch b - tch (tAll B C) = 0
      · rw [if_pos (show Nat.beq (tch b - tch (tAll B C)) 0 = true by rw [q]; rfl)]
        rw [eT (by omega), nz_top]
        exact Nat.le_refl _
      · rw [if_neg (by intro q'; exact q (Nat.eq_of_beq_eq_true q'))]
        exact Nat.le_trans (Zx_le T (x := max 1 (fxq.getD (cch Γ0) 0)) (A := b') (by rw [l0]; exact ds.1) (by omega) (Nat.le_max_left _ _) hω) (Zx_ms frq_m (by omega) (by omega))
    have hwB : (fun x : Nat => x) (nz 1 ngc 1 (fun x => x) (onz 1 ngc 1 (fun x => x) Γ0) B) ≤ wbz frq 0 (max 1 (fxq.getD (cch Γ0) 0)) (tch B) := by
      show nz 1 ngc 1 (fun x => x) (onz 1 ngc 1 (fun x => x) Γ0) B ≤ _
      unfold wbz
      by_cases q : tch B = 1
      · rw [if_pos (show Nat.beq (tch B) 1 = true by rw [q]; rfl)]
        rw [eB q, nz_top]
        omega
      · rw [if_neg (by intro q'; exact q (Nat.eq_of_beq_eq_true q'))]
        have q3 : nz 1 ngc 1 (fun x => x) (onz 1 ngc 1 (fun x => x) Γ0) B ≤ Zx frq (max 1 (fxq.getD (cch Γ0) 0)) (tch B + 2) := Zx_le T (by rw [l0]; exact oBB) (by omega) (Nat.le_max_left _ _) hω
        generalize nz 1 ngc 1 (fun x => x) (onz 1 ngc 1 (fun x => x) Γ0) B = n9 at *
        generalize Zx frq (max 1 (fxq.getD (cch Γ0) 0)) (tch B + 2) = z9 at *
        omega
    rcases hΔ with ⟨ee, cΔ⟩ | ⟨ee, cΔ⟩
    · refine gen_zjo (a5 := 5) (cd := 0) NC_goals (fun y y' hy => hy) (fun y δ => Nat.le_refl _) T frq_m fgq_ok fgq_m fg1s_q (by decide) (fun y => by show y ≤ 0 + max 1 y; omega) (by decide) ds w he cu hΔ1 (by omega) (by rw [cΔ]; exact Nat.le_refl _) (Nat.zero_le _) (Nat.le_refl _) (fun e => absurd cΔ e) b0 b1 bs q38 (by omega) (Nat.le_refl _) hκ hwB f1 f2 (fun E Z aq hE => GH_natc (E := E) (Z := Z) NC_goals (fun y y' hy => hy) f t [] _ _ Δ w he hch aq (onz_cv NC_goals he.1) hE) (fun p hp u hu => ?_) hS
      obtain ⟨s, m, q⟩ := liz_get zG v hv p hp u hu
      exact ⟨s, q, (lno_get tG m).2 ee⟩
    · refine gen_zjo (a5 := 0) (cd := cd) NC_goals (fun y y' hy => hy) (fun y δ => Nat.le_refl _) T frq_m fgq_ok fgq_m fg1s_q (by decide) (fun y => by show y ≤ 0 + max 1 y; omega) (by decide) ds w he cu hΔ1 (by omega) (by omega) (by omega) (Nat.zero_le _) (fun _ => rfl) b0 b1 bs q38 (by omega) (Nat.le_refl _) hκ hwB f1 f2 (fun E Z aq hE => GH_natc (E := E) (Z := Z) NC_goals (fun y y' hy => hy) f t [] _ _ Δ w he hch aq (onz_cv NC_goals he.1) hE) (fun p hp u hu => ?_) hS
      obtain ⟨s, m, q⟩ := liz_get zG v hv p hp u hu
      exact ⟨s, q, (lno_get tG m).1 ee⟩
end PmZy9
def kR9 : List T6 := [(83, 0, 34, 0, 2, 22), (85, 0, 33, 1, 2, 22), (87, 0, 26, 5, 2, 22), (87, 0, 32, 2, 2, 22), (89, 0, 25, 6, 2, 22), (89, 0, 29, 4, 2, 22), (89, 0, 31, 3, 2, 22), (91, 0, 24, 7, 2, 22), (93, 0, 23, 8, 2, 22), (95, 0, 22, 9, 2, 22)]
def kG9 : List T6 := [(47, 0, 9, 9, 2, 22), (47, 0, 10, 8, 2, 22), (47, 0, 11, 7, 2, 22), (53, 0, 15, 6, 2, 22), (53, 0, 16, 5, 2, 22), (55, 0, 18, 4, 2, 22), (61, 0, 22, 3, 2, 22), (67, 0, 26, 2, 2, 22), (67, 0, 27, 1, 2, 22), (67, 0, 28, 0, 2, 22)]
def okJ9 (m : Nat) : Bool :=
  liz [kR9] xr1 fr1 fg1 1 3 2 (wbz fr1 1 1 1) 1 (ojy 22 3 0 9) 22 9 0 &&
  (liz [kG9] xrq frq fgq 0 1 (kpz frq 1 1 3) (wbz frq 0 1 1) 1 (ojy 22 3 0 9) 22 9 0 &&
  (lno false [kR9] fr1 fg1 1 2 3 2 2 2 2 887 (58 - 2 * m - 43) m && lno false [kG9] frq fgq 0 1 1 1 3 2 1 597 (58 - 2 * m - 43) m))
theorem okJ9_ok : okJ9 3 = true ∧ okJ9 4 = true := by decide +kernel
theorem nat_k9 {f : Nat} {t b b' B C : Ty} {Δ1 : List Ty} {Δ : List (Nat × Ty × Nat)} (lb : LBd [] Δ1 b b' B C) (hk : ∀ h ω, nz 0 (fun _ => 1 + 1) (2 + 1) h ω b' ≤ 2) (w : TWf f (cxs Δ1 [] b).length (Δ.map (fun a => a.1)) t) (he : TE (cxs Δ1 [] b) Δ) (nD : Δ ≠ []) (tn : TNo f t) (ch : CHo f t []) (m34 : mch t = 3 ∨ mch t = 4) (eB : tch B = 1) (eC : tch C = 22) (eo : tch b - tch (tAll B C) = 3) (e2 : cch Δ1 = 9) (hb : cch (cxs Δ1 [] b) + dch Δ + 2 * mch t ≤ 58) : NtV (cxs Δ1 [] b) Δ f t 887 597 := by
  have ec := cch_cx (Γ0 := []) (β := b) Δ1
  have e0 : cch ([] : List Ty) = 0 := rfl
  have cσ := lb.1.ch
  have eσ := tch_all B C
  have oC : ok (0 + 1) C = true := (ok_all.mp lb.1.2.1).2
  have c43 : cch (cxs Δ1 [] b) = 43 := by omega
  have fR : ∃ v ∈ frg xr1 (tch C), xt (([] : List Ty).length + 1) C ≤ v.1 ∧ xa 0 (fun _ => 1 + 1) 3 1 (([] : List Ty).length + 1) C ≤ v.2 := xr_form (n1 := fun _ => 1 + 1) (hv := 1) xr1_ok (tbs1 true).2.2.2.1 (tbs1 true).2.2.2.2.1 _ C (0 + 1) (Nat.le_refl _) oC lb.2.2.2.1
  have fG : ∃ v ∈ frg xrq (tch C), xt (([] : List Ty).length + 1) C ≤ v.1 ∧ xa 1 ngc 1 0 (([] : List Ty).length + 1) C ≤ v.2 := xr_form (n1 := ngc) (hv := 0) xrq_ok tbsq.2.2.2.1 tbsq.2.2.2.2.1 _ C (0 + 1) (Nat.le_refl _) oC lb.2.2.2.1
  have d5 := dch_five he nD
  have one : Δ.length ≤ 1 := by
    obtain ⟨a, ea⟩ := dch_one he nD (by omega)
    rw [ea]; exact Nat.le_refl _
  have hz : okJ9 (mch t) = true := by
    rcases m34 with e | e
    · rw [e]; exact okJ9_ok.1
    · rw [e]; exact okJ9_ok.2
  unfold okJ9 at hz
  rw [Bool.and_eq_true, Bool.and_eq_true, Bool.and_eq_true] at hz
  obtain ⟨zR, zG, tR, tG⟩ := hz
  exact zone_jk (e := false) (cd := 58 - 2 * mch t - 43) (κr := 2) fR fG lb (fun d => hk _ _) w he (Or.inr ⟨rfl, nD⟩) tn one ch (by rw [eB, eC, eo, e2]; exact zR) (by rw [eB, eC, eo, e2]; exact zG) tR tG (by omega) (by omega) (by omega) (by omega) (by omega)
def W9aa (m : Nat) (e : Bool) (Γ : List Ty) : Prop := e = false ∧ (ExA Γ ∨ (∃ (Δ1 : List Ty) (b b' B C : Ty), Γ = cxs Δ1 [] b ∧ LBd [] Δ1 b b' B C ∧ (∀ h ω, nz 0 (fun _ => 1 + 1) (2 + 1) h ω b' ≤ 2) ∧ ¬ IS2 (fun _ => False) b ∧ hd b ≠ 2 ∧ m = 5 ∧ tch B = 1 ∧ tch C = 22 ∧ tch b - tch (tAll B C) = 3 ∧ cch Δ1 = 9))
def RESTAB9 : Prop := ∀ (f : Nat) (x y : Ty) (Γ : List Ty) (Δ : List (Nat × Ty × Nat)) (t : Ty), H9 f x y Γ Δ → Sh9 x y t → (¬ CHo f t [] ∨ (CHo f t [] ∧ (W9aa (mch (pee f t).2) Δ.isEmpty Γ ∨ V9c f x y t (mch (pee f t).2) Δ.isEmpty Γ))) → PRn f x y Γ Δ
theorem restAA9_of (R : RESTAB9) : RESTAA9 := by
  intro f x y Γ Δ t H sh h
  rcases h with h | ⟨ch, h | h⟩
  · exact R f x y Γ Δ t H sh (Or.inl h)
  · have H' := H
    obtain ⟨hx9, hy9, ⟨he, hv, hd', h20, h47, -⟩, hb, ng, -⟩ := H'
    obtain ⟨⟨wt, nt, tt, m3', m3, n9⟩, pm, hbt⟩ := h9_t H sh
    obtain ⟨eI, h⟩ := h
    have nD : Δ ≠ [] := fun q => by rw [q] at eI; cases eI
    rcases h with h | ⟨Δ1, Γ0, b, b', B, C, eΓ, lb, ni, h2, -, hx⟩
    · exact R f x y Γ Δ t H sh (Or.inr ⟨ch, Or.inl ⟨eI, Or.inl h⟩⟩)
    · unfold exK at hx
      rw [Bool.and_eq_true, Bool.and_eq_true, Bool.and_eq_true, Bool.and_eq_true, Bool.and_eq_true] at hx
      obtain ⟨m5, q1, q2, q3, q4, q5⟩ := hx
      have m5 := Nat.le_of_ble_eq_true m5
      have e1 := Nat.eq_of_beq_eq_true q1
      have e2 := Nat.eq_of_beq_eq_true q2
      have e3 := Nat.eq_of_beq_eq_true q3
      have e4 := Nat.eq_of_beq_eq_true q4
      have e5 := Nat.eq_of_beq_eq_true q5
      have hc := he.1
      rw [eΓ] at hc
      obtain ⟨oc0, ob⟩ := okc_low Δ1 hc
      have pos : ∀ a ∈ Γ0, 1 ≤ tch a := fun a ha => by
        obtain ⟨d, o1, -⟩ := okc_mch oc0 ha
        exact tch_pos o1
      have g0 := (q05_of pos).2 e4
      subst g0
      obtain ⟨b2, lb2, hk⟩ := lb_rec3 lb ob ni h2 e3
      by_cases m5' : mch (pee f t).2 = 5
      · exact R f x y Γ Δ t H sh (Or.inr ⟨ch, Or.inl ⟨eI, Or.inr ⟨Δ1, b, b2, B, C, eΓ, lb2, hk, ni, h2, m5', e1, e2, e3, e5⟩⟩⟩)
      obtain ⟨⟨w', -⟩, -, tn, -, -⟩ := pee_ok f _ _ t wt
      refine h9_ntv H sh (NtV_pee f t wt he ?_)
      have hbp : cch Γ + dch Δ + 2 * mch (pee f t).2 ≤ 58 := by omega
      subst eΓ
      exact nat_k9 lb2 hk w' he nD (tn tt) (pee_cho f t [] ch) (by omega) e1 e2 e3 e5 hbp
  · exact R f x y Γ Δ t H sh (Or.inr ⟨ch, Or.inr h⟩)
theorem pairn_qb (R : RESTAB9) : PAIRn := pairn_qa (restAA9_of R)
