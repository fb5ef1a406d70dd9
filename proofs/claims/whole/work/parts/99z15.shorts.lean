/-! SCHEMES AROUND: how many leaves a short text with a scheme has. -/
def lsT : List Nat := [0, 0, 0, 0, 0, 0, 1, 1, 1, 1, 2, 2, 2, 2, 4, 4, 4, 4, 6, 6]
theorem ls_mono : ∀ n, n < 20 → ∀ k, k < 20 → n ≤ k → lsT.getD n 0 ≤ lsT.getD k 0 := by decide +kernel
theorem ls_fun : ∀ i, i < 20 → ∀ j, j < 20 → 6 ≤ i → 3 + (i + j) < 20 → lsT.getD i 0 + lmT.getD j 0 ≤ lsT.getD (3 + (i + j)) 0 := by decide +kernel
theorem ls_all : ∀ i, i < 20 → ∀ j, j < 20 → 1 ≤ i → 1 ≤ j → 4 + (i + j) < 20 → lmT.getD j 0 * max 1 (lmT.getD i 0) ≤ lsT.getD (4 + (i + j)) 0 := by decide +kernel
theorem ls_rec : ∀ i, i < 17 → ∀ j, j < 17 → ∀ k, k < 17 → 6 ≤ i → 3 + jz j + jz k + (i + (j + k)) < 20 → lsT.getD i 0 + (lmT.getD j 0 + lmT.getD k 0) ≤ lsT.getD (3 + jz j + jz k + (i + (j + k))) 0 := by decide +kernel
theorem flv_sch : ∀ (f : Nat) (t : Ty) (D : Nat), (flat t).length ≤ f → ok D t = true → nsch t = false → tch t < 20 → flv t ≤ lsT.getD (tch t) 0 ∧ 6 ≤ tch t
  | 0, t, D, hf, o, _, _ => by have := flat_pos o; omega
  | f + 1, t, D, hf, o, h1, hk => by
    have ih := fun t D => flv_sch f t D
    rcases ok_cases o with rfl | ⟨j, hj, rfl⟩ | ⟨a, c, rfl, ha, hb⟩ | ⟨a, c, rfl, ha, hb⟩ | ⟨m, x, y, z, hm, rfl, g0, g1, g2⟩
    · cases h1
    · cases h1
    · rw [flat_fun, List.length_cons, List.length_append] at hf
      rw [tch_fun] at hk ⊢
      rw [flv_fun]
      cases na : nsch a with
      | false =>
        have q1 := ih a D (by omega) ha na (by omega)
        have q2 := flv_lm hb (by omega)
        have q3 := ls_fun (tch a) (by omega) (tch c) (by omega) q1.2 (by omega)
        omega
      | true =>
        cases nc : nsch c with
        | false =>
          have q1 := ih c D (by omega) hb nc (by omega)
          have q2 := flv_lm ha (by omega)
          have q3 := ls_fun (tch c) (by omega) (tch a) (by omega) q1.2 (by omega)
          rw [Nat.add_comm (tch a) (tch c)]
          omega
        | true =>
          rw [nsch_fun, na, nc] at h1; cases h1
    · rw [tch_all] at hk ⊢
      rw [flv_all]
      have p1 := tch_pos ha
      have p2 := tch_pos hb
      have q1 := flv_lm ha (by omega)
      have q2 := flv_lm hb (by omega)
      have q3 := ls_all (tch a) (by omega) (tch c) (by omega) p1 p2 (by omega)
      exact ⟨Nat.le_trans (Nat.mul_le_mul q2 (show max 1 (flv a) ≤ max 1 (lmT.getD (tch a) 0) by omega)) q3, by omega⟩
    · rw [flat_rec, List.length_cons, List.length_append, List.length_append] at hf
      rw [tch_rec] at hk ⊢
      rw [flv_rec]
      have part : ∀ (i : Nat) (p : Ty), i < 3 → (flat p).length ≤ f → okl D m i p → tch p < 20 → (flv p ≤ lmT.getD (tch p) 0 ∧ jz (tch p) ≤ 2 * bti m i) ∧ (nsch p = false → (flv p ≤ lsT.getD (tch p) 0 ∧ 6 ≤ tch p) ∧ m ≠ 0 ∧ bti m i = 1) := by
        intro i p i3 hp ho h20
        unfold okl at ho
        by_cases hb : bit m i = true
        · rw [if_pos hb] at ho
          have e1 : bti m i = 1 := if_pos hb
          refine ⟨⟨flv_lm ho h20, ?_⟩, fun n => ⟨ih p D hp ho n h20, ?_, e1⟩⟩
          · rw [e1]
            unfold jz
            split <;> omega
          · intro e
            rw [e, bit_0 i i3] at hb
            cases hb
        · rw [if_neg hb] at ho
          rw [ho]
          refine ⟨⟨by rw [flv_nil]; exact Nat.zero_le _, Nat.zero_le _⟩, fun n => ?_⟩
          cases n
      obtain ⟨⟨x1, x3⟩, x2⟩ := part 0 x (by decide) (by omega) g0 (by omega)
      obtain ⟨⟨y1, y3⟩, y2⟩ := part 1 y (by decide) (by omega) g1 (by omega)
      obtain ⟨⟨z1, z3⟩, z2⟩ := part 2 z (by decide) (by omega) g2 (by omega)
      have fin : ∀ (u v w : Ty), tch u + (tch v + tch w) = tch x + (tch y + tch z) → flv v ≤ lmT.getD (tch v) 0 → flv w ≤ lmT.getD (tch w) 0 → 3 + jz (tch v) + jz (tch w) ≤ rch m → flv u ≤ lsT.getD (tch u) 0 ∧ 6 ≤ tch u → flv u + (flv v + flv w) ≤ lsT.getD (rch m + (tch x + (tch y + tch z))) 0 ∧ 6 ≤ rch m + (tch x + (tch y + tch z)) := by
        intro u v w e hv hw hr ⟨hu, h6⟩
        have q3 := ls_rec (tch u) (by omega) (tch v) (by omega) (tch w) (by omega) h6 (by omega)
        have q4 := ls_mono (3 + jz (tch v) + jz (tch w) + (tch u + (tch v + tch w))) (by omega) (rch m + (tch x + (tch y + tch z))) (by omega) (by omega)
        omega
      cases nx : nsch x with
      | false =>
        obtain ⟨a, m0, b⟩ := x2 nx
        have r := rch_bti m0
        exact fin x y z rfl y1 z1 (by omega) a
      | true =>
        cases ny : nsch y with
        | false =>
          obtain ⟨a, m0, b⟩ := y2 ny
          have r := rch_bti m0
          have := fin y x z (by omega) x1 z1 (by omega) a
          omega
        | true =>
          cases nz' : nsch z with
          | false =>
            obtain ⟨a, m0, b⟩ := z2 nz'
            have r := rch_bti m0
            have := fin z x y (by omega) x1 y1 (by omega) a
            omega
          | true =>
            rw [nsch_rec, nx, ny, nz'] at h1; cases h1
theorem sch_two {d : Nat} {t : Ty} (o : ok d t = true) (hk : tch t < 14) : nsch t = true ∨ flv t ≤ 2 := by
  cases h : nsch t with
  | true => exact Or.inl rfl
  | false =>
    have q := (flv_sch _ t d (Nat.le_refl _) o h (by omega)).1
    have l : ∀ n, n < 14 → lsT.getD n 0 ≤ 2 := by decide +kernel
    exact Or.inr (Nat.le_trans q (l _ hk))
/-! LISTS for such contexts. -/
def yp1 : LnT := [[], [], [], [], [], [], [], [], [], [], [], [], [], [], [], [], [], [], [], [], [], [], [], [], [], [], [], [], [], [], [], [], [], [], [], [(63, 0, 4, 3, 2, 9), (59, 0, 7, 1, 2, 9), (59, 0, 5, 2, 2, 9), (55, 0, 8, 0, 2, 9), (50, 0, 46, 0, 2, 9), (38, 0, 32, 1, 2, 9), (26, 0, 18, 2, 2, 9)], [], [], [], [(89, 0, 4, 2, 2, 8), (83, 0, 5, 1, 2, 8), (77, 0, 6, 0, 2, 8)], [], [], [], [], [], [], [], []]
def ypq : LnT := [[], [], [], [], [], [], [], [], [], [], [], [], [], [], [], [], [], [], [], [], [], [], [], [], [], [], [], [], [], [], [], [], [], [], [], [(42, 0, 41, 0, 2, 9), (36, 0, 6, 1, 2, 8), (35, 0, 6, 1, 2, 9), (32, 0, 4, 2, 2, 8), (31, 0, 4, 2, 2, 9), (30, 0, 28, 1, 2, 9), (27, 0, 2, 3, 2, 9), (18, 0, 15, 2, 2, 9)], [], [], [], [(54, 0, 7, 0, 2, 8), (54, 0, 6, 1, 2, 8), (48, 0, 4, 2, 2, 8)], [], [], [], [], [], [], [], []]
theorem yp1_k : lnkb yp1 = true := by decide +kernel
theorem yp1_w : lnw yp1 2 = true := by decide +kernel
theorem ypq_k : lnkb ypq = true := by decide +kernel
theorem ypq_w : lnw ypq 1 = true := by decide +kernel
theorem yp1_z : tk2.all (fun s => lnz yp1 xr1 fg1 fx1 1 3 2 s.1 s.2.1 s.2.2 2) = true := by decide +kernel
theorem ypq_z : tk2.all (fun s => lnz ypq xrq fgq fxq 0 1 1 s.1 s.2.1 s.2.2 2) = true := by decide +kernel
theorem yp1_d : lne true false yp1 fr1 fg1 1 2 3 2 2 2 2 2 887 20 48 6 10 = true := by decide +kernel
theorem ypq_d : lne true false ypq frq fgq 0 1 1 1 3 2 1 1 597 20 48 6 10 = true := by decide +kernel
section PmZf
variable {f : Nat} {t C : Ty} {Γ0 Δ1 : List Ty} {Δ : List (Nat × Ty × Nat)}
/-- others are short schemes -/
theorem nat_p (w : TWf f (cxs Δ1 Γ0 (tAll tTop C)).length (Δ.map (fun a => a.1)) t) (he : TE (cxs Δ1 Γ0 (tAll tTop C)) Δ) (hΔ : Δ ≠ []) (m6 : 6 ≤ mch t) (ch : CHo f t []) (hz : memt tk2 (tch C) (cch Γ0) (cch Δ1) = true) (ho : (∀ b ∈ Γ0, nsch b = true ∨ (true = true ∧ tch b ≤ tch C + 5)) ∧ ∀ b ∈ Δ1, nsch b = true ∨ (true = true ∧ tch b ≤ tch C + 5)) (hb : cch (cxs Δ1 Γ0 (tAll tTop C)) + dch Δ + 2 * mch t ≤ 58) (h20 : 20 ≤ cch (cxs Δ1 Γ0 (tAll tTop C))) (h49 : cch (cxs Δ1 Γ0 (tAll tTop C)) ≤ 47) : NtV (cxs Δ1 Γ0 (tAll tTop C)) Δ f t 887 597 := by
  obtain ⟨oc0, oA⟩ := okc_low Δ1 he.1
  have oC := (ok_all.mp oA).2
  have ec := ec_top C Γ0 Δ1
  have d5 := dch_five he hΔ
  have hz := memt_mem hz
  have small : (min (tch C + 5) (cch Γ0 - 4) < 14 ∧ min (tch C + 5) (cch Δ1 - 4) < 14) ∧ 35 ≤ 9 + tch C + cch Γ0 + cch Δ1 := by
    have key : tk2.all (fun s => decide ((min (s.1 + 5) (s.2.1 - 4) < 14 ∧ min (s.1 + 5) (s.2.2 - 4) < 14) ∧ 35 ≤ 9 + s.1 + s.2.1 + s.2.2)) = true := by decide +kernel
    exact of_decide_eq_true (List.all_eq_true.mp key _ hz)
  have hb1 : ∀ b ∈ Δ1, nsch b = true ∨ flv b ≤ 2 := by
    intro b hb'
    rcases ho.2 b hb' with e | ⟨-, e⟩
    · exact Or.inl e
    obtain ⟨d, o, h2⟩ := okc_cxs he.1 hb'
    exact sch_two o (by omega)
  have hb0 : ∀ b ∈ Γ0, nsch b = true ∨ flv b ≤ 2 := by
    intro b hb'
    rcases ho.1 b hb' with e | ⟨-, e⟩
    · exact Or.inl e
    obtain ⟨d, o, h2⟩ := okc_mch oc0 hb'
    exact sch_two o (by omega)
  rw [ec] at hb h49 h20
  have q56 : cch Γ0 ≤ 56 := by omega
  refine zone_g (un := true) (e := false) (cd := 58 - 2 * mch t - (9 + tch C + cch Γ0 + cch Δ1)) (ob := 2) (wR := 2) (wG := 1) (yR := max 1 (fx1.getD (cch Γ0) 0)) (yG := max 1 (fxq.getD (cch Γ0) 0)) (VR := frg xr1 (tch C)) (VG := frg xrq (tch C)) (WR := frg fg1 (cch Δ1)) (WG := frg fgq (cch Δ1)) w he (Or.inr ⟨rfl, hΔ⟩) (Or.inl rfl) ch (by omega) (by omega) (by omega) hb0 hb1 (fun b => by rw [nz_top]; exact vlr_one b 0) (by rw [nz_top]; exact Nat.le_refl _) (form_R oC (by omega)) (form_G oC (by omega)) (fun b v x1 x2 => nat_ctxg (wB := 2) (v := v) (tbs1 b) (vlr_one b) (by decide) he.1 x1 x2 (by rw [nz_top]; exact vlr_one b 0) (Nat.le_refl _) q56 (gr_R he.1 (by omega) b)) (fun v x1 x2 => nat_ctxg (wB := 1) (v := v) tbsq (fun y => by show y ≤ 0 + max 1 y; omega) (by decide) he.1 x1 x2 (by rw [nz_top]; exact Nat.le_refl _) (Nat.le_refl _) q56 (gr_G he.1 (by omega))) ?_ ?_
  · intro v hv p hp e he'
    obtain ⟨s, hs, k1, k2, k3, k4, k5⟩ := lnz_get (List.all_eq_true.mp yp1_z _ hz) hv hp he'
    exact ⟨s, ⟨k1, k2, k3, k4, k5⟩, ⟨lnk yp1_k hs, lnw_get yp1_w hs⟩, lne_get yp1_d (by omega) (by omega) (by omega) (by omega) (by omega) hs⟩
  · intro v hv p hp e he'
    obtain ⟨s, hs, k1, k2, k3, k4, k5⟩ := lnz_get (List.all_eq_true.mp ypq_z _ hz) hv hp he'
    exact ⟨s, ⟨k1, k2, k3, k4, k5⟩, ⟨lnk ypq_k hs, lnw_get ypq_w hs⟩, lne_get ypq_d (by omega) (by omega) (by omega) (by omega) (by omega) hs⟩
end PmZf
