/-! SEVERAL BINDERS, the designated scheme inside its bound: numbers. -/
theorem liz_mono {L : LnT} {XR F W : FrT} {hv s2 κ κ' wB wB' y1 ob ob' k q2 c : Nat} (h1 : κ ≤ κ') (h2 : wB ≤ wB') (h3 : ob ≤ ob') (h : liz L XR F W hv s2 κ' wB' y1 ob' k q2 c = true) : liz L XR F W hv s2 κ wB y1 ob k q2 c = true := by
  unfold liz at h ⊢
  rw [List.all_eq_true] at h ⊢
  intro v hv'
  have h := h v hv'
  rw [List.all_eq_true] at h ⊢
  intro p hp
  have h := h p hp
  rw [List.all_eq_true] at h ⊢
  intro u hu
  have h := h u hu
  rw [List.any_eq_true] at h ⊢
  obtain ⟨s, hs, q⟩ := h
  refine ⟨s, hs, ?_⟩
  unfold lsz at q ⊢
  rw [Bool.and_eq_true, Bool.and_eq_true, Bool.and_eq_true, Bool.and_eq_true, Bool.and_eq_true, Bool.and_eq_true, Bool.and_eq_true] at q ⊢
  obtain ⟨q1, q2, q3, q4, q5, q6, q7, q8⟩ := q
  refine ⟨Nat.ble_eq_true_of_le (Nat.le_trans ?_ (Nat.le_of_ble_eq_true q1)), q2, q3, Nat.ble_eq_true_of_le (Nat.le_trans h3 (Nat.le_of_ble_eq_true q4)), q5, Nat.ble_eq_true_of_le (Nat.le_trans h2 (Nat.le_of_ble_eq_true q6)), q7, ?_⟩
  · have a := Nat.mul_le_mul_left p h2
    exact Nat.add_le_add_left (Nat.mul_le_mul_left _ (by omega)) _
  · obtain ⟨w0, hw0, hw1⟩ := List.any_eq_true.mp q8
    exact List.any_eq_true.mpr ⟨w0, hw0, Nat.ble_eq_true_of_le (by have := Nat.le_of_ble_eq_true hw1; omega)⟩
/-- all splits of rem characters into the bound and what is around the scheme -/
def zcR (L : LnT) (k rem q1 q2 : Nat) : Bool := liz L xr1 fr1 fg1 1 3 (kpz fr1 0 (max 1 (fx1.getD q1 0)) (rem - 1)) (1 + max 1 (Zx fr1 (max 1 (fx1.getD q1 0)) (rem - 1))) (max 1 (fx1.getD q1 0)) (ojy k (rem - 1) q1 q2) k q2 (8 + rem + k + q1 + q2)
def zcG (L : LnT) (k rem q1 q2 : Nat) : Bool := liz L xrq frq fgq 0 1 (kpz frq 1 (max 1 (fxq.getD q1 0)) (rem - 1)) (0 + max 1 (Zx frq (max 1 (fxq.getD q1 0)) (rem - 1))) (max 1 (fxq.getD q1 0)) (ojy k (rem - 1) q1 q2) k q2 (8 + rem + k + q1 + q2)
theorem ojy_mono {k ov ov' q1 q2 : Nat} (h : ov ≤ ov') : ojy k ov q1 q2 ≤ ojy k ov' q1 q2 := by
  have := lmx_mono fr1 (show min k (ov - 10) ≤ min k (ov' - 10) by omega)
  unfold ojy
  omega
theorem kpz_mono {F : FrT} {t0 y1 ov ov' : Nat} (hF : frm F = true) (p3 : 3 ≤ ov) (h : ov ≤ ov') (h40 : ov' ≤ 40) : kpz F t0 y1 ov ≤ kpz F t0 y1 ov' := by
  unfold kpz
  rw [if_neg (by intro q; have := Nat.eq_of_beq_eq_true q; omega), if_neg (by intro q; have := Nat.eq_of_beq_eq_true q; omega)]
  exact Zx_ms hF (by omega) (by omega)
theorem wbz_mono {F : FrT} {hv y1 be r : Nat} (hF : frm F = true) (h : be + 2 ≤ r) (h40 : r ≤ 40) : wbz F hv y1 be ≤ hv + max 1 (Zx F y1 r) := by
  unfold wbz
  split
  · omega
  · have := Zx_ms hF (x := y1) (s := be + 2) (s' := r) (by omega) (by omega)
    omega
theorem zc_R {L : LnT} {be k ov q1 q2 : Nat} (p1 : 1 ≤ be) (p3 : 3 ≤ ov) (h40 : be + ov ≤ 40) (h : zcR L k (be + ov) q1 q2 = true) : zyR L be k ov q1 q2 = true := by
  unfold zcR at h
  unfold zyR
  rw [show 8 + (be + ov) + k + q1 + q2 = 8 + be + k + ov + q1 + q2 by omega] at h
  exact liz_mono (kpz_mono fr1_m p3 (by omega) (by omega)) (wbz_mono fr1_m (by omega) (by omega)) (ojy_mono (by omega)) h
theorem zc_G {L : LnT} {be k ov q1 q2 : Nat} (p1 : 1 ≤ be) (p3 : 3 ≤ ov) (h40 : be + ov ≤ 40) (h : zcG L k (be + ov) q1 q2 = true) : zyG L be k ov q1 q2 = true := by
  unfold zcG at h
  unfold zyG
  rw [show 8 + (be + ov) + k + q1 + q2 = 8 + be + k + ov + q1 + q2 by omega] at h
  exact liz_mono (kpz_mono frq_m p3 (by omega) (by omega)) (wbz_mono frq_m (by omega) (by omega)) (ojy_mono (by omega)) h
/-- what is left -/
def ex2 (m be k ov q1 q2 : Nat) : Bool := if Nat.ble m 5 then [(1, 22, 3, 0, 9), (5, 9, 4, 20, 0), (5, 9, 4, 21, 0), (5, 9, 5, 20, 0), (5, 10, 4, 20, 0), (6, 9, 4, 20, 0)].any (fun a => Nat.beq be a.1 && (Nat.beq k a.2.1 && (Nat.beq ov a.2.2.1 && (Nat.beq q1 a.2.2.2.1 && Nat.beq q2 a.2.2.2.2)))) else Nat.beq be 1 && (Nat.beq k 9 && (Nat.beq ov 3 && (Nat.beq q1 20 && Nat.beq q2 0)))
def ci2 (m be k ov q1 q2 : Nat) : Bool := B12z false m be k ov q1 q2 || ((Nat.blt q1 10 && (Nat.blt q2 10 && B6z false m be k ov q1 q2)) || (B11z m be k ov q1 q2 || ex2 m be k ov q1 q2))
def cj2 (LR LG : LnT) (m k rem q1 q2 : Nat) : Bool := (zcR LR k rem q1 q2 && zcG LG k rem q1 q2) || (List.range (rem - 2)).all (fun be => Nat.blt be 1 || ci2 m be k (rem - be) q1 q2)
def q05 (q : Nat) : Bool := Nat.beq q 0 || Nat.ble 5 q
def cz2 (LR LG : LnT) (m c : Nat) : Bool := (List.range (c - 8)).all (fun k => Nat.blt k 1 || (List.range (c - 8)).all (fun rem => Nat.blt rem 4 || (Nat.ble (c - 8) (k + rem) || (List.range (c - 7)).all (fun q1 => Nat.blt (c - 8) (k + rem + q1) || (!(q05 q1 && q05 (c - 8 - k - rem - q1)) || cj2 LR LG m k rem q1 (c - 8 - k - rem - q1))))))
