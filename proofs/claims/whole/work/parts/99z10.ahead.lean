/-! A SCHEME WITH BOUND TOP IN A BOUND AHEAD: how many leaves a text with such a scheme has. -/
def lfT : List Nat := [0, 0, 0, 0, 0, 0, 1, 1, 1, 1, 2, 2, 2, 2, 3, 3, 3, 3, 4, 4]
def lmT : List Nat := [0, 1, 1, 1, 1, 2, 2, 2, 2, 3, 3, 3, 3, 4, 4, 4, 4, 5, 6, 6]
theorem lm_is : ∀ n, n < 20 → lmx fr1 n = lmT.getD n 0 := by decide +kernel
theorem lf_mono : ∀ n, n < 20 → ∀ k, k < 20 → n ≤ k → lfT.getD n 0 ≤ lfT.getD k 0 := by decide +kernel
theorem lf_root : ∀ j, j < 15 → lmT.getD j 0 ≤ lfT.getD (5 + j) 0 := by decide +kernel
theorem lf_fun : ∀ i, i < 20 → ∀ j, j < 20 → 6 ≤ i → 3 + (i + j) < 20 → lfT.getD i 0 + lmT.getD j 0 ≤ lfT.getD (3 + (i + j)) 0 := by decide +kernel
theorem lf_all : ∀ i, i < 20 → ∀ j, j < 20 → 4 + (i + j) < 20 → (6 ≤ i → lmT.getD j 0 * max 1 (lfT.getD i 0) ≤ lfT.getD (4 + (i + j)) 0) ∧ (6 ≤ j → lfT.getD j 0 * max 1 (lmT.getD i 0) ≤ lfT.getD (4 + (i + j)) 0) := by decide +kernel
def jz (n : Nat) : Nat := if n = 0 then 0 else 2
def bti (m i : Nat) : Nat := if bit m i = true then 1 else 0
theorem lf_rec : ∀ i, i < 17 → ∀ j, j < 17 → ∀ k, k < 17 → 6 ≤ i → 3 + jz j + jz k + (i + (j + k)) < 20 → lfT.getD i 0 + (lmT.getD j 0 + lmT.getD k 0) ≤ lfT.getD (3 + jz j + jz k + (i + (j + k))) 0 := by decide +kernel
theorem flv_lm {d : Nat} {t : Ty} (o : ok d t = true) (h : tch t < 20) : flv t ≤ lmT.getD (tch t) 0 := by
  have := flv_lmx o (Nat.le_refl _) (by omega)
  rwa [lm_is _ h] at this
theorem rch_bti {m : Nat} (h : m ≠ 0) : rch m = 1 + 2 * (bti m 0 + bti m 1 + bti m 2) := by
  unfold rch
  rw [if_neg h]
  rfl
theorem flv_flag : ∀ (f : Nat) (t : Ty) (D : Nat), (flat t).length ≤ f → ok D t = true → noh 0 t = false → tch t < 20 → flv t ≤ lfT.getD (tch t) 0
  | 0, t, D, hf, o, _, _ => by have := flat_pos o; omega
  | f + 1, t, D, hf, o, h1, hk => by
    have ih := fun t D => flv_flag f t D
    rcases ok_cases o with rfl | ⟨j, hj, rfl⟩ | ⟨a, c, rfl, ha, hb⟩ | ⟨a, c, rfl, ha, hb⟩ | ⟨m, x, y, z, hm, rfl, g0, g1, g2⟩
    · rw [noh_top] at h1; cases h1
    · rw [noh_var] at h1; cases h1
    · rw [flat_fun, List.length_cons, List.length_append] at hf
      rw [tch_fun] at hk ⊢
      rw [flv_fun]
      cases na : noh 0 a with
      | false =>
        have q1 := ih a D (by omega) ha na (by omega)
        have q2 := flv_lm hb (by omega)
        have q3 := lf_fun (tch a) (by omega) (tch c) (by omega) (noh_six ha na) (by omega)
        omega
      | true =>
        cases nc : noh 0 c with
        | false =>
          have q1 := ih c D (by omega) hb nc (by omega)
          have q2 := flv_lm ha (by omega)
          have q3 := lf_fun (tch c) (by omega) (tch a) (by omega) (noh_six hb nc) (by omega)
          rw [Nat.add_comm (tch a) (tch c)]
          omega
        | true =>
          rw [noh_fun.mpr ⟨na, nc⟩] at h1; cases h1
    · rw [flat_all, List.length_cons, List.length_append] at hf
      rw [tch_all] at hk ⊢
      rw [flv_all]
      cases na : noh 0 a with
      | false =>
        have q1 := ih a D (by omega) ha na (by omega)
        have q2 := flv_lm hb (by omega)
        have q3 := (lf_all (tch a) (by omega) (tch c) (by omega) (by omega)).1 (noh_six ha na)
        exact Nat.le_trans (Nat.mul_le_mul q2 (show max 1 (flv a) ≤ max 1 (lfT.getD (tch a) 0) by omega)) q3
      | true =>
        cases nc : noh 0 c with
        | false =>
          have q1 := ih c (D + 1) (by omega) hb nc (by omega)
          have q2 := flv_lm ha (by omega)
          have q3 := (lf_all (tch a) (by omega) (tch c) (by omega) (by omega)).2 (noh_six hb nc)
          exact Nat.le_trans (Nat.mul_le_mul q1 (show max 1 (flv a) ≤ max 1 (lmT.getD (tch a) 0) by omega)) q3
        | true =>
          have h0 : hd a = 0 := by
            by_cases e : hd a = 0
            · exact e
            · rw [noh_all.mpr ⟨e, na, nc⟩] at h1; cases h1
          have q2 := flv_lm hb (by omega)
          have p := tch_pos ha
          have fa : flv a = 0 := by
            rcases ok_cases ha with rfl | ⟨j, hj, rfl⟩ | ⟨a1, c1, rfl, -, -⟩ | ⟨a1, c1, rfl, -, -⟩ | ⟨m, x, y, z, hm, rfl, -, -, -⟩
            · exact flv_top
            · rw [hd_var] at h0; omega
            · rw [hd_fun] at h0; omega
            · rw [hd_all] at h0; omega
            · rw [hd_rec] at h0; omega
          have q3 := lf_root (tch c) (by omega)
          have q4 := lf_mono (5 + tch c) (by omega) (4 + (tch a + tch c)) (by omega) (by omega)
          rw [fa, show max 1 0 = 1 from rfl, Nat.mul_one]
          omega
    · rw [flat_rec, List.length_cons, List.length_append, List.length_append] at hf
      rw [tch_rec] at hk ⊢
      rw [flv_rec]
      have part : ∀ (i : Nat) (p : Ty), i < 3 → (flat p).length ≤ f → okl D m i p → tch p < 20 → (flv p ≤ lmT.getD (tch p) 0 ∧ jz (tch p) ≤ 2 * bti m i) ∧ (noh 0 p = false → (flv p ≤ lfT.getD (tch p) 0 ∧ 6 ≤ tch p) ∧ m ≠ 0 ∧ bti m i = 1) := by
        intro i p i3 hp ho h20
        unfold okl at ho
        by_cases hb : bit m i = true
        · rw [if_pos hb] at ho
          have e1 : bti m i = 1 := if_pos hb
          refine ⟨⟨flv_lm ho h20, ?_⟩, fun n => ⟨⟨ih p D hp ho n h20, noh_six ho n⟩, ?_, e1⟩⟩
          · rw [e1]
            unfold jz
            split <;> omega
          · intro e
            rw [e, bit_0 i i3] at hb
            cases hb
        · rw [if_neg hb] at ho
          rw [ho]
          refine ⟨⟨by rw [flv_nil]; exact Nat.zero_le _, Nat.zero_le _⟩, fun n => ?_⟩
          cases n
      obtain ⟨⟨x1, x3⟩, x2⟩ := part 0 x (by decide) (by omega) g0 (by omega)
      obtain ⟨⟨y1, y3⟩, y2⟩ := part 1 y (by decide) (by omega) g1 (by omega)
      obtain ⟨⟨z1, z3⟩, z2⟩ := part 2 z (by decide) (by omega) g2 (by omega)
      have fin : ∀ (u v w : Ty), tch u + (tch v + tch w) = tch x + (tch y + tch z) → flv v ≤ lmT.getD (tch v) 0 → flv w ≤ lmT.getD (tch w) 0 → 3 + jz (tch v) + jz (tch w) ≤ rch m → flv u ≤ lfT.getD (tch u) 0 ∧ 6 ≤ tch u → flv u + (flv v + flv w) ≤ lfT.getD (rch m + (tch x + (tch y + tch z))) 0 := by
        intro u v w e hv hw hr ⟨hu, h6⟩
        have q3 := lf_rec (tch u) (by omega) (tch v) (by omega) (tch w) (by omega) h6 (by omega)
        have q4 := lf_mono (3 + jz (tch v) + jz (tch w) + (tch u + (tch v + tch w))) (by omega) (rch m + (tch x + (tch y + tch z))) (by omega) (by omega)
        omega
      cases nx : noh 0 x with
      | false =>
        obtain ⟨a, m0, b⟩ := x2 nx
        have r := rch_bti m0
        exact fin x y z rfl y1 z1 (by omega) a
      | true =>
        cases ny : noh 0 y with
        | false =>
          obtain ⟨a, m0, b⟩ := y2 ny
          have r := rch_bti m0
          have := fin y x z (by omega) x1 z1 (by omega) a
          omega
        | true =>
          cases nz' : noh 0 z with
          | false =>
            obtain ⟨a, m0, b⟩ := z2 nz'
            have r := rch_bti m0
            have := fin z x y (by omega) x1 y1 (by omega) a
            omega
          | true =>
            rw [noh_rec.mpr ⟨nx, ny, nz'⟩] at h1; cases h1
theorem flv_four {d : Nat} {t : Ty} (o : ok d t = true) (h : noh 0 t = false) (hk : tch t < 20) : flv t ≤ 4 := by
  have q := flv_flag _ t d (Nat.le_refl _) o h hk
  have l : ∀ n, n < 20 → lfT.getD n 0 ≤ 4 := by decide +kernel
  exact Nat.le_trans q (l _ hk)
theorem cch_in : ∀ {Γ : List Ty} {a : Ty}, a ∈ Γ → tch a + 4 ≤ cch Γ
  | [], _, h => by cases h
  | c :: Γ, a, h => by
    show _ ≤ (tch c + 4) + cch Γ
    rcases List.mem_cons.mp h with e | h'
    · rw [e]; omega
    · have := cch_in h'
      omega
/-- two bounds -/
theorem cch_two : ∀ {Γ : List Ty} {a b : Ty}, a ∈ Γ → b ∈ Γ → a ≠ b → (tch a + 4) + (tch b + 4) ≤ cch Γ
  | [], _, _, h, _, _ => by cases h
  | c :: Γ, a, b, ha, hb, ne => by
    show _ ≤ (tch c + 4) + cch Γ
    rcases List.mem_cons.mp ha with e | ha'
    · rcases List.mem_cons.mp hb with e' | hb'
      · exact absurd (e.trans e'.symm) ne
      · have := cch_in hb'
        rw [e]
        omega
    · rcases List.mem_cons.mp hb with e' | hb'
      · have := cch_in ha'
        rw [e']
        omega
      · have := cch_two ha' hb' ne
        omega
/-! LISTS for such contexts. -/
def yo1 : LnT := [[], [], [], [], [], [], [], [], [], [], [], [], [], [], [], [], [], [], [], [], [], [], [], [], [], [], [], [], [], [], [], [], [], [], [], [], [], [], [], [], [], [], [(98, 0, 94, 0, 4, 22), (92, 0, 86, 1, 4, 22), (86, 0, 78, 2, 4, 22), (80, 0, 70, 3, 4, 22), (74, 0, 62, 4, 4, 22), (68, 0, 54, 5, 4, 22), (62, 0, 46, 6, 4, 22), (56, 0, 38, 7, 4, 22), (50, 0, 30, 8, 4, 22), (44, 0, 22, 9, 4, 22)], [(98, 0, 94, 0, 4, 23), (92, 0, 86, 1, 4, 23), (86, 0, 78, 2, 4, 23), (80, 0, 70, 3, 4, 23), (74, 0, 62, 4, 4, 23), (68, 0, 54, 5, 4, 23), (62, 0, 46, 6, 4, 23), (56, 0, 38, 7, 4, 23), (50, 0, 30, 8, 4, 23), (44, 0, 22, 9, 4, 23)], [], [(114, 0, 110, 0, 4, 13), (90, 0, 84, 1, 4, 13), (66, 0, 58, 2, 4, 13), (42, 0, 32, 3, 4, 13), (26, 0, 6, 4, 4, 13)], [(146, 0, 142, 0, 4, 13), (119, 0, 115, 0, 4, 14), (114, 0, 108, 1, 4, 13), (95, 0, 89, 1, 4, 14), (82, 0, 74, 2, 4, 13), (71, 0, 63, 2, 4, 14), (50, 0, 40, 3, 4, 13), (47, 0, 37, 3, 4, 14), (34, 0, 6, 4, 4, 13), (26, 0, 11, 4, 4, 14)], [(151, 0, 147, 0, 4, 14), (119, 0, 115, 0, 4, 15), (119, 0, 113, 1, 4, 14), (95, 0, 89, 1, 4, 15), (87, 0, 79, 2, 4, 14), (71, 0, 63, 2, 4, 15), (55, 0, 45, 3, 4, 14), (47, 0, 37, 3, 4, 15), (34, 0, 11, 4, 4, 14), (26, 0, 11, 4, 4, 15)]]
def yoq : LnT := [[], [], [], [], [], [], [], [], [], [], [], [], [], [], [], [], [], [], [], [], [], [], [], [], [], [], [], [], [], [], [], [], [], [], [], [], [], [], [], [], [], [], [(73, 0, 72, 0, 4, 22), (67, 0, 65, 1, 4, 22), (61, 0, 58, 2, 4, 22), (55, 0, 51, 3, 4, 22), (49, 0, 44, 4, 4, 22), (43, 0, 37, 5, 4, 22), (37, 0, 30, 6, 4, 22), (31, 0, 23, 7, 4, 22), (25, 0, 16, 8, 4, 22), (19, 0, 9, 9, 4, 22)], [(73, 0, 72, 0, 4, 23), (67, 0, 65, 1, 4, 23), (61, 0, 58, 2, 4, 23), (55, 0, 51, 3, 4, 23), (49, 0, 44, 4, 4, 23), (43, 0, 37, 5, 4, 23), (37, 0, 30, 6, 4, 23), (31, 0, 23, 7, 4, 23), (25, 0, 16, 8, 4, 23), (19, 0, 9, 9, 4, 23)], [], [(100, 0, 99, 0, 4, 13), (77, 0, 75, 1, 4, 13), (54, 0, 51, 2, 4, 13), (31, 0, 27, 3, 4, 13), (24, 0, 3, 4, 4, 13)], [(112, 0, 111, 0, 4, 13), (101, 0, 100, 0, 4, 14), (86, 0, 84, 1, 4, 13), (78, 0, 76, 1, 4, 14), (60, 0, 57, 2, 4, 13), (55, 0, 52, 2, 4, 14), (34, 0, 30, 3, 4, 13), (32, 0, 28, 3, 4, 14), (27, 0, 3, 4, 4, 13), (24, 0, 4, 4, 4, 14)], [(113, 0, 112, 0, 4, 14), (101, 0, 100, 0, 4, 15), (87, 0, 85, 1, 4, 14), (78, 0, 76, 1, 4, 15), (61, 0, 58, 2, 4, 14), (55, 0, 52, 2, 4, 15), (35, 0, 31, 3, 4, 14), (32, 0, 28, 3, 4, 15), (27, 0, 4, 4, 4, 14), (24, 0, 4, 4, 4, 15)]]
def to1 : List (Nat × Nat × Nat) := [(13, 23, 0), (13, 24, 0), (13, 25, 0), (14, 23, 0), (14, 24, 0), (15, 23, 0), (22, 11, 0), (22, 12, 0), (23, 11, 0)]
theorem yo1_k : lnkb yo1 = true := by decide +kernel
theorem yo1_w : lnw yo1 2 = true := by decide +kernel
theorem yoq_k : lnkb yoq = true := by decide +kernel
theorem yoq_w : lnw yoq 1 = true := by decide +kernel
theorem yo1_z : to1.all (fun s => lnz yo1 xr1 fg1 fx1 1 3 2 s.1 s.2.1 s.2.2 4) = true := by decide +kernel
theorem yoq_z : to1.all (fun s => lnz yoq xrq fgq fxq 0 1 1 s.1 s.2.1 s.2.2 4) = true := by decide +kernel
theorem yo1_d : lne false false yo1 fr1 fg1 1 2 3 2 2 2 2 2 887 20 48 3 5 = true := by decide +kernel
theorem yoq_d : lne false false yoq frq fgq 0 1 1 1 3 2 1 1 597 20 48 3 5 = true := by decide +kernel
section PmZa
variable {f : Nat} {t C : Ty} {Γ0 Δ1 : List Ty} {Δ : List (Nat × Ty × Nat)}
/-- the bounds ahead hold a scheme with bound Top, none is behind -/
theorem nat_o (w : TWf f (cxs Δ1 Γ0 (tAll tTop C)).length (Δ.map (fun a => a.1)) t) (he : TE (cxs Δ1 Γ0 (tAll tTop C)) Δ) (hΔ : Δ ≠ []) (m3 : 3 ≤ mch t) (m5 : mch t < 5) (co : COk f t 0) (hz : (tch C, cch Γ0, cch Δ1) ∈ to1) (hfl : ∃ b ∈ Γ0, noh 0 b = false) (ho : ∀ b ∈ Γ0, nsch b = true ∨ (true = true ∧ tch b ≤ tch C + 5)) (hb : cch (cxs Δ1 Γ0 (tAll tTop C)) + dch Δ + 2 * mch t ≤ 58) (h20 : 20 ≤ cch (cxs Δ1 Γ0 (tAll tTop C))) (h49 : cch (cxs Δ1 Γ0 (tAll tTop C)) ≤ 47) : NtV (cxs Δ1 Γ0 (tAll tTop C)) Δ f t 887 597 := by
  obtain ⟨oc0, oA⟩ := okc_low Δ1 he.1
  have oC := (ok_all.mp oA).2
  have ec := ec_top C Γ0 Δ1
  have small : (min (tch C + 5) (cch Γ0 - 4) < 20 ∧ cch Γ0 ≤ 25) ∧ cch Δ1 = 0 := by
    have key : to1.all (fun s => decide ((min (s.1 + 5) (s.2.1 - 4) < 20 ∧ s.2.1 ≤ 25) ∧ s.2.2 = 0)) = true := by decide +kernel
    exact of_decide_eq_true (List.all_eq_true.mp key _ hz)
  have hb1 : ∀ b ∈ Δ1, nsch b = true ∨ flv b ≤ 4 := by
    intro b hb'
    obtain ⟨d, -, h2⟩ := okc_cxs he.1 hb'
    omega
  have hb0 : ∀ b ∈ Γ0, nsch b = true ∨ flv b ≤ 4 := by
    intro b hb'
    rcases ho b hb' with e | ⟨-, e⟩
    · exact Or.inl e
    right
    obtain ⟨d, o, -⟩ := okc_mch oc0 hb'
    have l1 := cch_in hb'
    cases n : noh 0 b with
    | false => exact flv_four o n (by omega)
    | true =>
      obtain ⟨b', h1, h2⟩ := hfl
      have ne : b ≠ b' := by
        intro e'
        rw [e', h2] at n
        cases n
      obtain ⟨d', o', -⟩ := okc_mch oc0 h1
      have := noh_six o' h2
      have := cch_two hb' h1 ne
      have q := flv_lm o (by omega)
      have l : ∀ n, n < 12 → lmT.getD n 0 ≤ 4 := by decide
      exact Nat.le_trans q (l _ (by omega))
  rw [ec] at hb h49 h20
  have q56 : cch Γ0 ≤ 56 := by omega
  refine zone_g (un := false) (e := false) (cd := 58 - 2 * mch t - (9 + tch C + cch Γ0 + cch Δ1)) (ob := 4) (wR := 2) (wG := 1) (yR := max 1 (fx1.getD (cch Γ0) 0)) (yG := max 1 (fxq.getD (cch Γ0) 0)) (VR := frg xr1 (tch C)) (VG := frg xrq (tch C)) (WR := frg fg1 (cch Δ1)) (WG := frg fgq (cch Δ1)) w he (Or.inr ⟨rfl, hΔ⟩) (Or.inr co) (CHo_of_COk f t [] co) (by omega) (by omega) (by omega) hb0 hb1 (fun b => by rw [nz_top]; exact vlr_one b 0) (by rw [nz_top]; exact Nat.le_refl _) (form_R oC (by omega)) (form_G oC (by omega)) (fun b v x1 x2 => nat_ctxg (wB := 2) (v := v) (tbs1 b) (vlr_one b) (by decide) he.1 x1 x2 (by rw [nz_top]; exact vlr_one b 0) (Nat.le_refl _) q56 (gr_R he.1 (by omega) b)) (fun v x1 x2 => nat_ctxg (wB := 1) (v := v) tbsq (fun y => by show y ≤ 0 + max 1 y; omega) (by decide) he.1 x1 x2 (by rw [nz_top]; exact Nat.le_refl _) (Nat.le_refl _) q56 (gr_G he.1 (by omega))) ?_ ?_
  · intro v hv p hp e he'
    obtain ⟨s, hs, k1, k2, k3, k4, k5⟩ := lnz_get (List.all_eq_true.mp yo1_z _ hz) hv hp he'
    exact ⟨s, ⟨k1, k2, k3, k4, k5⟩, ⟨lnk yo1_k hs, lnw_get yo1_w hs⟩, lne_get yo1_d (by omega) (by omega) (by omega) (by omega) (by omega) hs⟩
  · intro v hv p hp e he'
    obtain ⟨s, hs, k1, k2, k3, k4, k5⟩ := lnz_get (List.all_eq_true.mp yoq_z _ hz) hv hp he'
    exact ⟨s, ⟨k1, k2, k3, k4, k5⟩, ⟨lnk yoq_k hs, lnw_get yoq_w hs⟩, lne_get yoq_d (by omega) (by omega) (by omega) (by omega) (by omega) hs⟩
end PmZa
