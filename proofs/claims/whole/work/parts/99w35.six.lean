/-! A TERM WITH A CHOICE AND A SCHEME WITH BOUND TOP OF ITS OWN, where the map fails: three of six triples. -/
def sx3 : List (Nat × Nat × Nat) := [(18, 0, 9), (18, 0, 10), (19, 0, 9)]
def nqs : Bool := sx3.all (fun s => (List.range 13).all (fun m => (List.range 16).all (fun n => Nat.blt m 3 || (Nat.blt n 9 || (Nat.blt 53 (9 + s.1 + s.2.1 + s.2.2 + (m + n)) || (Nat.ble (9 + s.1 + s.2.1 + s.2.2 + 10 + 2 * m) 58 || ((Nat.ble n 10 && nqt fg1 fgq s.1 s.2.1 s.2.2 m n) || (Nat.beq s.1 19 && Nat.beq (m + n) 16))))))))
theorem nqs_ok : nqs = true := by decide +kernel
theorem sx3_zd : ∀ s ∈ sx3, znd s.1 s.2.1 s.2.2 = true := by decide +kernel
section PmWL
variable {f : Nat} {x y C : Ty} {Γ0 Δ1 : List Ty} {Δ : List (Nat × Ty × Nat)}
theorem six_v (x1 : TWf f (cxs Δ1 Γ0 (tAll tTop C)).length (Δ.map (fun a => a.1)) x) (x2 : TWf f (cxs Δ1 Γ0 (tAll tTop C)).length (Δ.map (fun a => a.1)) y) (he : TE (cxs Δ1 Γ0 (tAll tTop C)) Δ) (hz : nxe sx3 (tch C) (cch Γ0) (cch Δ1) = false) (hm : mch x ≤ mch y) (s1 : smq f x) (hy : ¬ (CFt f y ∨ NHt 0 f y)) (h16 : tch C = 19 → mch x + mch y ≠ 16) (ho : (∀ b ∈ Γ0, nsch b = true ∨ tch b ≤ tch C + 5) ∧ ∀ b ∈ Δ1, nsch b = true ∨ tch b ≤ tch C + 5) (h5 : 5 ≤ dch Δ) (hb : cch (cxs Δ1 Γ0 (tAll tTop C)) + dch Δ + (2 + (mch x + mch y)) ≤ 60) (h47 : cch (cxs Δ1 Γ0 (tAll tTop C)) ≤ 47) : NtV (cxs Δ1 Γ0 (tAll tTop C)) Δ f x 830 597 ∨ NtV (cxs Δ1 Γ0 (tAll tTop C)) Δ f y 830 597 := by
  have ec : cch (cxs Δ1 Γ0 (tAll tTop C)) = 9 + tch C + cch Γ0 + cch Δ1 := by
    rw [cch_cx, tch_all, tch_top]
    omega
  have hs := nxe_no hz
  have c36 : ∀ s ∈ sx3, 36 ≤ 9 + s.1 + s.2.1 + s.2.2 := by decide +kernel
  have c : 36 ≤ 9 + tch C + cch Γ0 + cch Δ1 := c36 _ hs
  have zd : znd (tch C) (cch Γ0) (cch Δ1) = true := sx3_zd _ hs
  have n9 : 9 ≤ mch y := by
    by_cases a : mch y ≤ 8
    · exact (hy (CN_nine f y _ _ x2 a)).elim
    · omega
  have m3 := s1.2.1
  have q := nqs_ok
  unfold nqs at q
  have q := rng_all (rng_all (List.all_eq_true.mp q _ hs) (i := mch x) (by omega)) (i := mch y) (by omega)
  rw [Bool.or_eq_true, Bool.or_eq_true, Bool.or_eq_true, Bool.or_eq_true, Bool.or_eq_true, Bool.and_eq_true, Bool.and_eq_true] at q
  rcases q with q | q | q | q | q | q
  · exact (blt_no m3 q).elim
  · exact (blt_no n9 q).elim
  · exact (blt_no (show 9 + tch C + cch Γ0 + cch Δ1 + (mch x + mch y) ≤ 53 by omega) q).elim
  · have q : 9 + tch C + cch Γ0 + cch Δ1 + 10 + 2 * mch x ≤ 58 := Nat.le_of_ble_eq_true q
    exact Or.inl (zone_d x1 he s1 zd ho (by omega) (by omega) h47 (by omega))
  · have n10 := Nat.le_of_ble_eq_true q.1
    refine Or.inr (ntv_ni (m := mch x) (GrW_1 he (by omega)) (GrW_q he (by omega)) x2 he ?_ q.2 hb h47)
    rcases CNI_ten f y _ _ x2 n10 with e | e | e
    · exact (hy (Or.inl e)).elim
    · exact (hy (Or.inr e)).elim
    · exact e
  · have e1 := Nat.eq_of_beq_eq_true q.1
    have e2 := Nat.eq_of_beq_eq_true q.2
    exact (h16 e1 e2).elim
end PmWL
