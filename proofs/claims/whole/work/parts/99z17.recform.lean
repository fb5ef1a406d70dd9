/-! THE FORMS OF A RECORD of given length, by the forms of its parts. -/
def frz (F : FrT) (n : Nat) : List (Nat × Nat) := if n = 0 then [(0, 0)] else frg F n
def rr2 (r1 r2 r3 w : Nat) : Nat := if w = 2 then r1 else if w = 4 then r2 else r3
def rfc (F : FrT) (V : List (Nat × Nat)) (r1 r2 r3 n : Nat) : Bool := (List.range n).all (fun i => (List.range n).all (fun j => (List.range n).all (fun k => !(Nat.beq (1 + jz i + jz j + jz k + (i + (j + k))) n) || (frz F i).all (fun a => (frz F j).all (fun b => (frz F k).all (fun c => V.any (fun v => Nat.ble (a.1 + (b.1 + c.1)) v.1 && Nat.ble (rr2 r1 r2 r3 (jz i + jz j + jz k) + (a.2 + (b.2 + c.2))) v.2)))))))
theorem rec_form {F : FrT} {V : List (Nat × Nat)} {t0 s2 hv r0 r1 r2 r3 d : Nat} {n1 : Nat → Nat} {C : Ty} (xf : ∀ t, ok d t = true → tch t ≤ 40 → ∃ p ∈ frg F (tch t), XFm t0 n1 s2 hv d t p.1 p.2) (hr : ∀ m, m < 8 → n1 (8 + m) ≤ (if nlb m = 0 then r0 else if nlb m = 1 then r1 else if nlb m = 2 then r2 else r3)) (ck : rfc F V r1 r2 r3 (tch C) = true) (o : ok d C = true) (h8 : 8 ≤ hd C) (h16 : hd C < 16) (h3 : 3 ≤ tch C) (h40 : tch C ≤ 40) : ∃ v ∈ V, xt d C ≤ v.1 ∧ xa t0 n1 s2 hv d C ≤ v.2 := by
  rcases ok_cases o with rfl | ⟨j, hj, rfl⟩ | ⟨a, c, rfl, ha, hb⟩ | ⟨a, c, rfl, ha, hb⟩ | ⟨m, x, y, z, hm, rfl, g0, g1, g2⟩
  · rw [hd_top] at h8; omega
  · rw [hd_var] at h16; omega
  · rw [hd_fun] at h8; omega
  · rw [hd_all] at h8; omega
  · rw [tch_rec] at ck h3 h40
    have part : ∀ (i : Nat) (p : Ty), okl d m i p → tch p ≤ 40 → ∃ q ∈ frz F (tch p), (bit m i = true → XFm t0 n1 s2 hv d p q.1 q.2) ∧ jz (tch p) = 2 * bti m i ∧ (¬ bit m i = true → tch p = 0) := by
      intro i p ho h
      unfold okl at ho
      by_cases hb : bit m i = true
      · rw [if_pos hb] at ho
        obtain ⟨q, hq, x1⟩ := xf p ho h
        have p1 := tch_pos ho
        refine ⟨q, ?_, fun _ => x1, ?_, fun c => absurd hb c⟩
        · unfold frz
          rw [if_neg (by omega)]
          exact hq
        · unfold jz bti
          rw [if_neg (by omega), if_pos hb]
      · rw [if_neg hb] at ho
        rw [ho]
        refine ⟨(0, 0), List.mem_singleton.mpr rfl, fun c => absurd c hb, ?_, fun _ => rfl⟩
        unfold bti
        rw [if_neg hb]
        rfl
    have m0 : m ≠ 0 := by
      intro e
      subst e
      obtain ⟨-, -, -, -, e0⟩ := part 0 x g0 (by omega)
      obtain ⟨-, -, -, -, e1⟩ := part 1 y g1 (by omega)
      obtain ⟨-, -, -, -, e2⟩ := part 2 z g2 (by omega)
      have e0 := e0 (by decide)
      have e1 := e1 (by decide)
      have e2 := e2 (by decide)
      have : rch 0 = 2 := rfl
      omega
    have r3' := rch_two m0 hm
    have rb := rch_bti m0
    obtain ⟨qx, hx, fx, jx, -⟩ := part 0 x g0 (by omega)
    obtain ⟨qy, hy, fy, jy, -⟩ := part 1 y g1 (by omega)
    obtain ⟨qz, hz, fz, jzz, -⟩ := part 2 z g2 (by omega)
    unfold rfc at ck
    have q := rng_all (rng_all (rng_all ck (i := tch x) (by omega)) (i := tch y) (by omega)) (i := tch z) (by omega)
    have eq : 1 + jz (tch x) + jz (tch y) + jz (tch z) + (tch x + (tch y + tch z)) = rch m + (tch x + (tch y + tch z)) := by omega
    rw [eq, Bool.or_eq_true] at q
    have q := q.resolve_left (fun c => by
      have : Nat.beq (rch m + (tch x + (tch y + tch z))) (rch m + (tch x + (tch y + tch z))) = true := Nat.beq_refl _
      rw [this] at c
      cases c)
    have q := List.all_eq_true.mp (List.all_eq_true.mp (List.all_eq_true.mp q qx hx) qy hy) qz hz
    obtain ⟨v, hv', q⟩ := List.any_eq_true.mp q
    rw [Bool.and_eq_true] at q
    have q1 := Nat.le_of_ble_eq_true q.1
    have q2 := Nat.le_of_ble_eq_true q.2
    have X := XFm_rec g0 g1 g2 hm fx fy fz
    refine ⟨v, hv', Nat.le_trans X.1 q1, Nat.le_trans X.2 (Nat.le_trans ?_ q2)⟩
    have h := hr m hm
    have en : nlb m = bti m 0 + bti m 1 + bti m 2 := rfl
    have e2 : jz (tch x) + jz (tch y) + jz (tch z) = 2 * nlb m := by omega
    rw [e2]
    unfold rr2
    have c3 : nlb m = 1 ∨ nlb m = 2 ∨ nlb m = 3 := by
      rcases nlb_cases m hm with c | c
      · exact absurd c.2 m0
      · exact c
    rcases c3 with c | c | c
    · rw [c, if_neg (by decide), if_pos rfl] at h
      rw [c, if_pos (by decide)]
      omega
    · rw [c, if_neg (by decide), if_neg (by decide), if_pos rfl] at h
      rw [c, if_neg (by decide), if_pos (by decide)]
      omega
    · rw [c, if_neg (by decide), if_neg (by decide), if_neg (by decide)] at h
      rw [c, if_neg (by decide), if_neg (by decide)]
      omega
def xrr1 : FrT := [[], [], [], [], [], [], [], [], [], [], [], [], [], [], [], [], [], [], [], [], [], [], [(6, 18), (4, 27)], [(6, 18), (4, 27), (2, 29), (0, 31)], [], [], [], [(9, 24), (8, 31), (6, 39), (4, 43), (0, 45)]]
def xrrq : FrT := [[], [], [], [], [], [], [], [], [], [], [], [], [], [], [], [], [], [], [], [], [], [], [(6, 9), (4, 15), (3, 16), (2, 23), (0, 25)], [(6, 12), (4, 19), (3, 24), (0, 27)], [], [], [], [(9, 15), (7, 17), (6, 27), (4, 31), (3, 33), (0, 36)]]
def tr9 : List (Nat × Nat × Nat) := [(22, 11, 0), (23, 11, 0), (27, 11, 0)]
theorem xrr1_ok : tr9.all (fun s => rfc xr1 (frg xrr1 s.1) 2 2 2 s.1) = true := by decide +kernel
theorem xrrq_ok : tr9.all (fun s => rfc xrq (frg xrrq s.1) 3 2 1 s.1) = true := by decide +kernel
/-! LISTS for such contexts. -/
def yr9 : LnT := [[], [], [], [], [], [], [], [], [], [], [], [], [], [], [], [], [], [], [], [], [], [], [], [], [], [], [], [], [], [], [], [], [], [], [], [], [], [], [], [], [], [], [(70, 0, 66, 0, 4, 22), (64, 0, 58, 1, 4, 22), (58, 0, 50, 2, 4, 22), (52, 0, 42, 3, 4, 22), (46, 0, 34, 4, 4, 22), (40, 0, 26, 5, 4, 22), (34, 0, 18, 6, 4, 22)], [(70, 0, 66, 0, 4, 23), (64, 0, 58, 1, 4, 23), (58, 0, 50, 2, 4, 23), (52, 0, 42, 3, 4, 23), (46, 0, 34, 4, 4, 23), (40, 0, 26, 5, 4, 23), (34, 0, 18, 6, 4, 23)], [], [], [], [(100, 0, 96, 0, 4, 27), (94, 0, 88, 1, 4, 27), (88, 0, 80, 2, 4, 27), (82, 0, 72, 3, 4, 27), (76, 0, 64, 4, 4, 27), (70, 0, 56, 5, 4, 27), (64, 0, 48, 6, 4, 27), (58, 0, 40, 7, 4, 27), (52, 0, 32, 8, 4, 27), (46, 0, 24, 9, 4, 27)]]
def yrq : LnT := [[], [], [], [], [], [], [], [], [], [], [], [], [], [], [], [], [], [], [], [], [], [], [], [], [], [], [], [], [], [], [], [], [], [], [], [], [], [], [], [], [], [], [(52, 0, 51, 0, 4, 22), (46, 0, 44, 1, 4, 22), (40, 0, 37, 2, 4, 22), (34, 0, 30, 3, 4, 22), (28, 0, 23, 4, 4, 22), (22, 0, 16, 5, 4, 22), (16, 0, 9, 6, 4, 22)], [(55, 0, 54, 0, 4, 23), (49, 0, 47, 1, 4, 23), (43, 0, 40, 2, 4, 23), (37, 0, 33, 3, 4, 23), (31, 0, 26, 4, 4, 23), (25, 0, 19, 5, 4, 23), (19, 0, 12, 6, 4, 23)], [], [], [], [(79, 0, 78, 0, 4, 27), (73, 0, 71, 1, 4, 27), (67, 0, 64, 2, 4, 27), (61, 0, 57, 3, 4, 27), (55, 0, 50, 4, 4, 27), (49, 0, 43, 5, 4, 27), (43, 0, 36, 6, 4, 27), (37, 0, 29, 7, 4, 27), (31, 0, 22, 8, 4, 27), (25, 0, 15, 9, 4, 27)]]
theorem yr9_k : lnkb yr9 = true := by decide +kernel
theorem yr9_w : lnw yr9 2 = true := by decide +kernel
theorem yrq_k : lnkb yrq = true := by decide +kernel
theorem yrq_w : lnw yrq 1 = true := by decide +kernel
theorem yr9_z : tr9.all (fun s => lnz yr9 xrr1 fg1 fx1 1 3 2 s.1 s.2.1 s.2.2 4) = true := by decide +kernel
theorem yrq_z : tr9.all (fun s => lnz yrq xrrq fgq fxq 0 1 1 s.1 s.2.1 s.2.2 4) = true := by decide +kernel
theorem yr9_d : lne false false yr9 fr1 fg1 1 2 3 2 2 2 2 2 887 20 48 3 6 = true := by decide +kernel
theorem yrq_d : lne false false yrq frq fgq 0 1 1 1 3 2 1 1 597 20 48 3 6 = true := by decide +kernel
section PmZg
variable {f : Nat} {t C : Ty} {Γ0 Δ1 : List Ty} {Δ : List (Nat × Ty × Nat)}
/-- the bounds ahead hold a scheme with bound Top, none is behind -/
theorem nat_r (w : TWf f (cxs Δ1 Γ0 (tAll tTop C)).length (Δ.map (fun a => a.1)) t) (he : TE (cxs Δ1 Γ0 (tAll tTop C)) Δ) (hΔ : Δ ≠ []) (m3 : 3 ≤ mch t) (m5 : mch t < 6) (co : COk f t 0) (h8 : 8 ≤ hd C) (hz : (tch C, cch Γ0, cch Δ1) ∈ tr9) (hfl : ∃ b ∈ Γ0, noh 0 b = false) (ho : ∀ b ∈ Γ0, nsch b = true ∨ (true = true ∧ tch b ≤ tch C + 5)) (hb : cch (cxs Δ1 Γ0 (tAll tTop C)) + dch Δ + 2 * mch t ≤ 58) (h20 : 20 ≤ cch (cxs Δ1 Γ0 (tAll tTop C))) (h49 : cch (cxs Δ1 Γ0 (tAll tTop C)) ≤ 47) : NtV (cxs Δ1 Γ0 (tAll tTop C)) Δ f t 887 597 := by
  obtain ⟨oc0, oA⟩ := okc_low Δ1 he.1
  have oC := (ok_all.mp oA).2
  have ec := ec_top C Γ0 Δ1
  have small : (min (tch C + 5) (cch Γ0 - 4) < 20 ∧ cch Γ0 ≤ 25) ∧ cch Δ1 = 0 ∧ 22 ≤ tch C := by
    have key : tr9.all (fun s => decide ((min (s.1 + 5) (s.2.1 - 4) < 20 ∧ s.2.1 ≤ 25) ∧ s.2.2 = 0 ∧ 22 ≤ s.1)) = true := by decide +kernel
    exact of_decide_eq_true (List.all_eq_true.mp key _ hz)
  have hb1 : ∀ b ∈ Δ1, nsch b = true ∨ flv b ≤ 4 := by
    intro b hb'
    obtain ⟨d, -, h2⟩ := okc_cxs he.1 hb'
    omega
  have hb0 : ∀ b ∈ Γ0, nsch b = true ∨ flv b ≤ 4 := by
    intro b hb'
    rcases ho b hb' with e | ⟨-, e⟩
    · exact Or.inl e
    right
    obtain ⟨d, o, -⟩ := okc_mch oc0 hb'
    have l1 := cch_in hb'
    cases n : noh 0 b with
    | false => exact flv_four o n (by omega)
    | true =>
      obtain ⟨b', h1, h2⟩ := hfl
      have ne : b ≠ b' := by
        intro e'
        rw [e', h2] at n
        cases n
      obtain ⟨d', o', -⟩ := okc_mch oc0 h1
      have := noh_six o' h2
      have := cch_two hb' h1 ne
      have q := flv_lm o (by omega)
      have l : ∀ n, n < 12 → lmT.getD n 0 ≤ 4 := by decide
      exact Nat.le_trans q (l _ (by omega))
  have h16 := (hd_long oC (by omega)).2
  rw [ec] at hb h49 h20
  have q56 : cch Γ0 ≤ 56 := by omega
  refine zone_g (un := false) (e := false) (cd := 58 - 2 * mch t - (9 + tch C + cch Γ0 + cch Δ1)) (ob := 4) (wR := 2) (wG := 1) (yR := max 1 (fx1.getD (cch Γ0) 0)) (yG := max 1 (fxq.getD (cch Γ0) 0)) (VR := frg xrr1 (tch C)) (VG := frg xrrq (tch C)) (WR := frg fg1 (cch Δ1)) (WG := frg fgq (cch Δ1)) w he (Or.inr ⟨rfl, hΔ⟩) (Or.inr co) (CHo_of_COk f t [] co) (by omega) (by omega) (by omega) hb0 hb1 (fun b => by rw [nz_top]; exact vlr_one b 0) (by rw [nz_top]; exact Nat.le_refl _) (rec_form (r0 := 2) (fun t o h => xr_form (t0 := 0) (n1 := fun _ => 1 + 1) (s2 := 3) (hv := 1) xr1_ok (tbs1 true).2.2.2.1 (tbs1 true).2.2.2.2.1 _ t _ (Nat.le_refl _) o h) (tbs1 true).2.2.2.2.1 (List.all_eq_true.mp xrr1_ok _ hz) oC h8 h16 (by omega) (by omega)) (rec_form (r0 := 1) (fun t o h => xr_form (t0 := 1) (n1 := ngc) (s2 := 1) (hv := 0) xrq_ok tbsq.2.2.2.1 tbsq.2.2.2.2.1 _ t _ (Nat.le_refl _) o h) tbsq.2.2.2.2.1 (List.all_eq_true.mp xrrq_ok _ hz) oC h8 h16 (by omega) (by omega)) (fun b v x1 x2 => nat_ctxg (wB := 2) (v := v) (tbs1 b) (vlr_one b) (by decide) he.1 x1 x2 (by rw [nz_top]; exact vlr_one b 0) (Nat.le_refl _) q56 (gr_R he.1 (by omega) b)) (fun v x1 x2 => nat_ctxg (wB := 1) (v := v) tbsq (fun y => by show y ≤ 0 + max 1 y; omega) (by decide) he.1 x1 x2 (by rw [nz_top]; exact Nat.le_refl _) (Nat.le_refl _) q56 (gr_G he.1 (by omega))) ?_ ?_
  · intro v hv p hp e he'
    obtain ⟨s, hs, k1, k2, k3, k4, k5⟩ := lnz_get (List.all_eq_true.mp yr9_z _ hz) hv hp he'
    exact ⟨s, ⟨k1, k2, k3, k4, k5⟩, ⟨lnk yr9_k hs, lnw_get yr9_w hs⟩, lne_get yr9_d (by omega) (by omega) (by omega) (by omega) (by omega) hs⟩
  · intro v hv p hp e he'
    obtain ⟨s, hs, k1, k2, k3, k4, k5⟩ := lnz_get (List.all_eq_true.mp yrq_z _ hz) hv hp he'
    exact ⟨s, ⟨k1, k2, k3, k4, k5⟩, ⟨lnk yrq_k hs, lnw_get yrq_w hs⟩, lne_get yrq_d (by omega) (by omega) (by omega) (by omega) (by omega) hs⟩
end PmZg
