/-! A SCHEME WITH BOUND TOP IN A BOUND AHEAD of A : <P:Top>C, none in C: what is left. -/
theorem fl_small {d : Nat} {b : Ty} (o : ok d b = true) (n : noh 0 b = false) (h : tch b ≤ 8) : ∃ c, b = tAll tTop c ∧ (c = tTop ∨ (∃ i, i < d + 1 ∧ c = tVar i) ∨ (hd c = 8 ∧ tch b = 7 ∧ noh 0 c = true ∧ ok (d + 1) c = true)) := by
  rcases ok_cases o with rfl | ⟨j, hj, rfl⟩ | ⟨a, c, rfl, ha, hb⟩ | ⟨a, c, rfl, ha, hb⟩ | ⟨m, x, y, z, hm, rfl, g0, g1, g2⟩
  · rw [noh_top] at n; cases n
  · rw [noh_var] at n; cases n
  · exfalso
    rw [tch_fun] at h
    have p1 := tch_pos ha
    have p2 := tch_pos hb
    cases na : noh 0 a with
    | false => have := noh_six ha na; omega
    | true =>
      cases nc : noh 0 c with
      | false => have := noh_six hb nc; omega
      | true => rw [noh_fun.mpr ⟨na, nc⟩] at n; cases n
  · rw [tch_all] at h
    have p1 := tch_pos ha
    have p2 := tch_pos hb
    have na : noh 0 a = true := by
      cases na : noh 0 a with
      | true => rfl
      | false => have := noh_six ha na; omega
    have nc : noh 0 c = true := by
      cases nc : noh 0 c with
      | true => rfl
      | false => have := noh_six hb nc; omega
    have h0 : hd a = 0 := by
      by_cases e : hd a = 0
      · exact e
      · rw [noh_all.mpr ⟨e, na, nc⟩] at n; cases n
    have ea : a = tTop := by
      rcases ok_cases ha with e | ⟨j, hj, rfl⟩ | ⟨a1, c1, rfl, -, -⟩ | ⟨a1, c1, rfl, -, -⟩ | ⟨m, x, y, z, hm, rfl, -, -, -⟩
      · exact e
      · rw [hd_var] at h0; omega
      · rw [hd_fun] at h0; omega
      · rw [hd_all] at h0; omega
      · rw [hd_rec] at h0; omega
    subst ea
    refine ⟨c, rfl, ?_⟩
    rw [tch_top] at h
    have oc := hb
    rcases ok_cases hb with e | ⟨j, hj, e⟩ | ⟨a1, c1, rfl, o1, o2⟩ | ⟨a1, c1, rfl, o1, o2⟩ | ⟨m, x, y, z, hm, rfl, g0, g1, g2⟩
    · exact Or.inl e
    · exact Or.inr (Or.inl ⟨j, hj, e⟩)
    · exfalso
      have := tch_pos o1
      have := tch_pos o2
      rw [tch_fun] at h
      omega
    · exfalso
      have := tch_pos o1
      have := tch_pos o2
      rw [tch_all] at h
      omega
    · right; right
      rw [tch_rec] at h
      have m0 : m = 0 := by
        by_cases e : m = 0
        · exact e
        · exfalso
          have r3 := rch_two e hm
          have part : ∀ (i : Nat) (p : Ty), okl (d + 1) m i p → bit m i = true → 1 ≤ tch p := by
            intro i p hp hb'
            unfold okl at hp
            rw [if_pos hb'] at hp
            exact tch_pos hp
          have some : bit m 0 = true ∨ bit m 1 = true ∨ bit m 2 = true := by
            have key : ∀ m, m < 8 → m ≠ 0 → bit m 0 = true ∨ bit m 1 = true ∨ bit m 2 = true := by decide
            exact key m hm e
          rcases some with q | q | q
          · have := part 0 x g0 q; omega
          · have := part 1 y g1 q; omega
          · have := part 2 z g2 q; omega
      subst m0
      have nl : ∀ (i : Nat) (p : Ty), i < 3 → okl (d + 1) 0 i p → p = .nil := by
        intro i p hi hp
        unfold okl at hp
        rw [if_neg (by rw [bit_0 i hi]; decide)] at hp
        exact hp
      have ex := nl 0 x (by decide) g0
      have ey := nl 1 y (by decide) g1
      have ez := nl 2 z (by decide) g2
      subst ex ey ez
      exact ⟨by rw [hd_rec], by rw [tch_all, tch_rec]; rfl, nc, oc⟩
  · exfalso
    rw [tch_rec] at h
    have part : ∀ (i : Nat) (p : Ty), i < 3 → okl d m i p → noh 0 p = false → 6 ≤ tch p ∧ m ≠ 0 := by
      intro i p hi hp hn
      unfold okl at hp
      by_cases q : bit m i = true
      · rw [if_pos q] at hp
        refine ⟨noh_six hp hn, fun e => ?_⟩
        rw [e, bit_0 i hi] at q
        cases q
      · rw [if_neg q] at hp
        rw [hp] at hn
        cases hn
    cases nx : noh 0 x with
    | false =>
      obtain ⟨a, b⟩ := part 0 x (by decide) g0 nx
      have := rch_two b hm
      omega
    | true =>
      cases ny : noh 0 y with
      | false =>
        obtain ⟨a, b⟩ := part 1 y (by decide) g1 ny
        have := rch_two b hm
        omega
      | true =>
        cases nz' : noh 0 z with
        | false =>
          obtain ⟨a, b⟩ := part 2 z (by decide) g2 nz'
          have := rch_two b hm
          omega
        | true => rw [noh_rec.mpr ⟨nx, ny, nz'⟩] at n; cases n
section PmZb
variable {f : Nat} {s u x y C : Ty} {Γ0 Δ1 : List Ty} {Δ : List (Nat × Ty × Nat)}
theorem one_ahead (oc : okc Γ0) (f0 : ∃ b ∈ Γ0, noh 0 b = false) (q12 : cch Γ0 ≤ 12) : ∃ b, Γ0 = [b] ∧ noh 0 b = false ∧ ok 0 b = true ∧ tch b + 4 = cch Γ0 := by
  match Γ0, oc, f0, q12 with
  | [], _, ⟨b, h, _⟩, _ => cases h
  | [a], oc, ⟨b, h, n⟩, _ =>
    have e := List.mem_singleton.mp h
    subst e
    exact ⟨b, rfl, n, oc.1, rfl⟩
  | a :: c :: Γ, oc, ⟨b, h, n⟩, q12 =>
    exfalso
    have p1 := tch_pos oc.1
    have p2 := tch_pos oc.2.1
    have q12 : (tch a + 4) + ((tch c + 4) + cch Γ) ≤ 12 := q12
    rcases List.mem_cons.mp h with e | h'
    · have := noh_six oc.1 (e ▸ n)
      omega
    · obtain ⟨d, o, l⟩ := okc_mch oc.2 h'
      have := noh_six o n
      have l : tch b + 4 ≤ (tch c + 4) + cch Γ := l
      omega
theorem HKd_ahead (hc : okc (cxs Δ1 Γ0 (tAll tTop C))) (k2 : 2 ≤ tch C) (nC : noh 0 C = true) (f0 : ∃ b ∈ Γ0, noh 0 b = false) (q12 : cch Γ0 ≤ 12) : HKd 0 tTop C Γ0 ∨ (8 ≤ hd C ∧ cch Γ0 = 11) := by
  obtain ⟨oc0, oA⟩ := okc_low Δ1 hc
  have oC := (ok_all.mp oA).2
  obtain ⟨c0, c16⟩ := hd_long oC k2
  obtain ⟨b, e, n, o, l⟩ := one_ahead oc0 f0 q12
  subst e
  obtain ⟨c, e, h⟩ := fl_small o n (by omega)
  have fin : bdk (kms C) (updt (tauc [b]) 0 tTop) c = true → kq 0 (kms C) (updt (tauc [b]) 0 tTop) (0 + 1) c = true → HKd 0 tTop C [b] := by
    intro h1 h2
    refine ⟨⟨by decide, hd_top⟩, ⟨c0, c16⟩, fun j hj => ?_, kq_top _ _, noh_kq _ C _ _ (Nat.le_refl _) oC nC⟩
    have eb := List.mem_singleton.mp (bnd_mem [b] j hj)
    have ej : j = 0 := by
      have : j < 1 := hj
      omega
    subst ej
    rw [eb]
    rw [show (kq 0 (kms C) (tauc [b]) 0 b) = kq 0 (kms C) (tauc [b]) 0 (tAll tTop c) by rw [← e]]
    exact kq_all.mpr ⟨fun _ => h1, kq_top _ _, h2⟩
  rcases h with h | ⟨i, hi, h⟩ | ⟨h8, h7, nc, oc⟩
  · subst h
    exact Or.inl (fin (by unfold bdk; rw [hd_top]; rfl) (kq_top _ _))
  · subst h
    have ei : i = 0 := by omega
    subst ei
    exact Or.inl (fin (by unfold bdk; rw [hd_var]; rfl) (kq_var _ _ _))
  · by_cases c8 : 8 ≤ hd C
    · exact Or.inr ⟨c8, by omega⟩
    · refine Or.inl (fin ?_ (noh_kq _ c _ _ (Nat.le_refl _) oc nc))
      unfold bdk
      rw [h8, if_neg (by decide)]
      have : kms C c = true := by
        unfold kms kmm
        rw [h8, Bool.or_eq_true, decide_eq_true_iff]
        exact Or.inl (Or.inr (Or.inr ⟨by decide, by omega⟩))
      rw [this, Bool.or_true]
def ta9 : List (Nat × Nat × Nat) := [(22, 11, 0), (22, 12, 0), (23, 11, 0), (27, 10, 0), (27, 11, 0), (28, 10, 0)]
def tc9 : List (Nat × Nat × Nat) := [(9, 17, 0)]
theorem a9E : ckl xe1 (fun k q1 q2 => Nat.blt q1 10 || (List.range 20).all (fun m => Nat.blt m 3 || (Nat.blt 58 (9 + k + q1 + q2 + 2 * m) || (npl true true true m k q1 q2 && npl true true false m k q1 q2)))) = true := by decide +kernel
theorem a9A : ckl xa1 (fun k q1 q2 => Nat.blt q1 10 || (List.range 6).all (fun m => Nat.blt m 3 || (npl true false true m k q1 q2 || (Nat.blt 58 (9 + k + q1 + q2 + 2 * m + 5) || ((Nat.blt m 5 && memt to1 k q1 q2) || (Nat.ble q1 12 && (ndk q1 q2 && memt ta9 k q1 q2))))))) = true := by decide +kernel
theorem a9C : ckl xc1 (fun k q1 q2 => Nat.blt q1 10 || (List.range 20).all (fun m => Nat.blt m 6 || (Nat.blt 58 (9 + k + q1 + q2 + 2 * m + 5) || (npl true false true m k q1 q2 && (npl true false false m k q1 q2 || ((Nat.beq m 6 && Nat.blt 48 (9 + k + q1 + q2 + 2 * m)) || memt tc9 k q1 q2)))))) = true := by decide +kernel
/-- the shorter term s, the longer one u -/
theorem A_su {co : Bool} (f0 : ∃ b ∈ Γ0, noh 0 b = false) (ho : ∀ b ∈ Γ0, nsch b = true ∨ (true = true ∧ tch b ≤ tch C + 5)) (w1 : TWf f (cxs Δ1 Γ0 (tAll tTop C)).length (Δ.map (fun a => a.1)) s) (he : TE (cxs Δ1 Γ0 (tAll tTop C)) Δ) (t1 : TNo f s) (le : mch s ≤ mch u) (m3 : 3 ≤ mch s) (hb : cch (cxs Δ1 Γ0 (tAll tTop C)) + dch Δ + (2 + (mch s + mch u)) ≤ 60) (h20 : 20 ≤ cch (cxs Δ1 Γ0 (tAll tTop C))) (h49 : cch (cxs Δ1 Γ0 (tAll tTop C)) ≤ 47) (hco : co = true ↔ COk f s 0) (hn : npl true Δ.isEmpty co (mch s) (tch C) (cch Γ0) (cch Δ1) = false) : NtV (cxs Δ1 Γ0 (tAll tTop C)) Δ f s 887 597 ∨ (Δ ≠ [] ∧ ((mch s < 6 ∧ cch Γ0 ≤ 12 ∧ ndk (cch Γ0) (cch Δ1) = true ∧ memt ta9 (tch C) (cch Γ0) (cch Δ1) = true) ∨ (memt tc9 (tch C) (cch Γ0) (cch Δ1) = true ∧ 6 ≤ mch s ∧ ¬ COk f s 0))) := by
  have ec := ec_top C Γ0 Δ1
  obtain ⟨oc0, oA⟩ := okc_low Δ1 he.1
  have q10 : 10 ≤ cch Γ0 := by
    obtain ⟨b, hb', n⟩ := f0
    obtain ⟨d, o, h2⟩ := okc_mch oc0 hb'
    have := noh_six o n
    omega
  have nk : ¬ Nat.blt (cch Γ0) 10 = true := fun h => (blt_no q10 h).elim
  have hn0 := hn
  unfold npl at hn
  by_cases nΔ : Δ = []
  · exfalso
    have hE : Δ.isEmpty = true := List.isEmpty_iff.mpr nΔ
    rw [hE, if_pos rfl, Bool.or_eq_false_iff] at hn
    rw [hE] at hn0
    have q := ckl_get a9E (by omega) hn.1
    rw [Bool.or_eq_true] at q
    have q := rng_all (q.resolve_left nk) (i := mch s) (by omega)
    rw [Bool.or_eq_true, Bool.or_eq_true, Bool.and_eq_true] at q
    rcases q with q | q | q
    · exact blt_no m3 q
    · exact blt_no (by omega) q
    · cases co
      · rw [q.2] at hn0; cases hn0
      · rw [q.1] at hn0; cases hn0
  have d5 := dch_five he nΔ
  have hE : Δ.isEmpty = false := by
    cases h : Δ.isEmpty with
    | false => rfl
    | true => exact absurd (List.isEmpty_iff.mp h) nΔ
  rw [hE, if_neg (by decide)] at hn
  rw [hE] at hn0
  by_cases m6 : mch s < 6
  · have cs : COk f s 0 := (co_six w1).resolve_right (by omega)
    rw [hco.mpr cs] at hn0
    rw [blt_is m6, if_pos rfl, Bool.or_eq_false_iff] at hn
    have q := ckl_get a9A (by omega) hn.1
    rw [Bool.or_eq_true] at q
    have q := rng_all (q.resolve_left nk) (i := mch s) m6
    rw [Bool.or_eq_true, Bool.or_eq_true, Bool.or_eq_true, Bool.or_eq_true, Bool.and_eq_true, Bool.and_eq_true, Bool.and_eq_true] at q
    rcases q with q | q | q | ⟨q1, q2⟩ | ⟨q1, q2, q3⟩
    · exact (blt_no m3 q).elim
    · rw [q] at hn0; cases hn0
    · exact (blt_no (by omega) q).elim
    · exact Or.inl (nat_o w1 he nΔ m3 (Nat.le_of_ble_eq_true q1) cs (memt_mem q2) f0 ho (by omega) h20 h49)
    · exact Or.inr ⟨nΔ, Or.inl ⟨m6, Nat.le_of_ble_eq_true q1, q2, q3⟩⟩
  · refine Or.inr ⟨nΔ, Or.inr ?_⟩
    rw [blt_not m6, if_neg (by decide), Bool.or_eq_false_iff] at hn
    have q := ckl_get a9C (by omega) hn.1
    rw [Bool.or_eq_true] at q
    have q := rng_all (q.resolve_left nk) (i := mch s) (by omega)
    rw [Bool.or_eq_true, Bool.or_eq_true, Bool.and_eq_true, Bool.or_eq_true, Bool.or_eq_true, Bool.and_eq_true] at q
    rcases q with q | q | ⟨qt, qf⟩
    · exact (blt_no (by omega) q).elim
    · exact (blt_no (by omega) q).elim
    have nco : ¬ COk f s 0 := by
      intro h
      rw [hco.mpr h, qt] at hn0
      cases hn0
    have hc : co = false := by
      cases h : co with
      | false => rfl
      | true => exact absurd (hco.mp h) nco
    rw [hc] at hn0
    rcases qf with q | ⟨q1, q2⟩ | q
    · rw [q] at hn0; cases hn0
    · exfalso
      have e6 := Nat.eq_of_beq_eq_true q1
      by_cases h9 : dch Δ ≤ 9
      · obtain ⟨a, rfl⟩ := dch_one he nΔ h9
        have := (chr_one f _ _ s w1 t1).2.resolve_left nco
        omega
      · exact blt_no (by omega) q2
    · exact ⟨q, by omega, nco⟩
/-- what is left where a bound ahead holds such a scheme: C a record, or a choice under an operation -/
def RsF (f : Nat) (x y C : Ty) (Γ0 Δ1 : List Ty) (Δ : List (Nat × Ty × Nat)) : Prop := Δ ≠ [] ∧ ((8 ≤ hd C ∧ memt [(22, 11, 0), (23, 11, 0), (27, 11, 0)] (tch C) (cch Γ0) (cch Δ1) = true ∧ (mch x < 6 ∨ mch y < 6)) ∨ (memt tc9 (tch C) (cch Γ0) (cch Δ1) = true ∧ ∃ s, (s = x ∨ s = y) ∧ (mch s ≤ mch x ∧ mch s ≤ mch y) ∧ 6 ≤ mch s ∧ ¬ COk f s 0))
theorem pair_F (nC : noh 0 C = true) (f0 : ∃ b ∈ Γ0, noh 0 b = false) (x1 : TWf f (cxs Δ1 Γ0 (tAll tTop C)).length (Δ.map (fun a => a.1)) x) (x2 : TWf f (cxs Δ1 Γ0 (tAll tTop C)).length (Δ.map (fun a => a.1)) y) (he : TE (cxs Δ1 Γ0 (tAll tTop C)) Δ) (y1 : NAt f x) (y2 : NAt f y) (hv : noac (cxs Δ1 Γ0 (tAll tTop C))) (hd' : ∀ a ∈ Δ, noal a.2.1 = true) (t1 : TNo f x) (t2 : TNo f y) (ho : ∀ b ∈ Γ0, nsch b = true ∨ (true = true ∧ tch b ≤ tch C + 5)) (m3 : 3 ≤ mch x) (n3 : 3 ≤ mch y) (hb : cch (cxs Δ1 Γ0 (tAll tTop C)) + dch Δ + (2 + (mch x + mch y)) ≤ 60) (h20 : 20 ≤ cch (cxs Δ1 Γ0 (tAll tTop C))) (h49 : cch (cxs Δ1 Γ0 (tAll tTop C)) ≤ 47) (lf : LFn f x y C Γ0 Δ1 Δ) : PRn f x y (cxs Δ1 Γ0 (tAll tTop C)) Δ ∨ RsF f x y C Γ0 Δ1 Δ := by
  have nt : NtV (cxs Δ1 Γ0 (tAll tTop C)) Δ f x 887 597 ∨ NtV (cxs Δ1 Γ0 (tAll tTop C)) Δ f y 887 597 → PRn f x y (cxs Δ1 Γ0 (tAll tTop C)) Δ := pair_ntv x1 x2 he y1 y2 hv hd' (by omega)
  obtain ⟨s, co, hs, ⟨l1, l2⟩, hco, hn⟩ := lf
  have key : (NtV (cxs Δ1 Γ0 (tAll tTop C)) Δ f x 887 597 ∨ NtV (cxs Δ1 Γ0 (tAll tTop C)) Δ f y 887 597) ∨ (Δ ≠ [] ∧ ((mch s < 6 ∧ cch Γ0 ≤ 12 ∧ ndk (cch Γ0) (cch Δ1) = true ∧ memt ta9 (tch C) (cch Γ0) (cch Δ1) = true) ∨ (memt tc9 (tch C) (cch Γ0) (cch Δ1) = true ∧ 6 ≤ mch s ∧ ¬ COk f s 0))) := by
    rcases hs with e | e
    · subst e
      exact (A_su f0 ho x1 he t1 l2 m3 hb h20 h49 hco hn).imp Or.inl id
    · subst e
      exact (A_su f0 ho x2 he t2 l1 n3 (by omega) h20 h49 hco hn).imp Or.inr id
  rcases key with h | ⟨nΔ, ⟨m6, q12, nd, hm⟩ | ⟨h1, h2, h3⟩⟩
  · exact Or.inl (nt h)
  · have k2 : 2 ≤ tch C := by
      have key : ta9.all (fun s => Nat.ble 2 s.1) = true := by decide
      exact Nat.le_of_ble_eq_true (List.all_eq_true.mp key _ (memt_mem hm))
    rcases HKd_ahead he.1 k2 nC f0 q12 with H | ⟨c8, q11⟩
    · exact Or.inl (pair_nodes H x1 x2 he y1 y2 hv hd' nd h49)
    · refine Or.inr ⟨nΔ, Or.inl ⟨c8, ?_, ?_⟩⟩
      · have key : ta9.all (fun s => !(Nat.beq s.2.1 11) || memt [(22, 11, 0), (23, 11, 0), (27, 11, 0)] s.1 s.2.1 s.2.2) = true := by decide +kernel
        have q := List.all_eq_true.mp key _ (memt_mem hm)
        have e : Nat.beq (cch Γ0) 11 = true := by rw [q11]; rfl
        rw [Bool.or_eq_true] at q
        rcases q with q | q
        · have q : (!(Nat.beq (cch Γ0) 11)) = true := q
          rw [e] at q; cases q
        · exact q
      · rcases hs with e | e
        · subst e; exact Or.inl m6
        · subst e; exact Or.inr m6
  · exact Or.inr ⟨nΔ, Or.inr ⟨h1, s, hs, ⟨l1, l2⟩, h2, h3⟩⟩
end PmZb
