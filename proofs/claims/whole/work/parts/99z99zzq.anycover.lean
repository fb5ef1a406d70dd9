/-! CHOICES ANYWHERE: every context has its entry, but for some with one binder. -/
def eqx (be k ov q1 q2 cd : Nat) (e : Nat × T6 × T6) : Bool := (Nat.ble be e.1 && (Nat.ble k (e.1 + 5) && (Nat.ble q1 (e.1 + 9) && (Nat.ble q2 (e.1 + 9) && (Nat.ble ov (e.1 + 10) && Nat.ble cd (e.1 + 9)))))) &&
  (qts fr1 fg1 xr1 1 3 (kpz fr1 0 (max 1 (fx1.getD q1 0)) ov) (wbz fr1 1 (max 1 (fx1.getD q1 0)) be) (max 1 (fx1.getD q1 0)) (ojy k ov q1 q2) k q2 e.2.1 &&
  qts frq fgq xrq 0 1 (kpz frq 1 (max 1 (fxq.getD q1 0)) ov) (wbz frq 0 (max 1 (fxq.getD q1 0)) be) (max 1 (fxq.getD q1 0)) (ojy k ov q1 q2) k q2 e.2.2)
def inB (L : List (Nat × Nat × Nat)) (be k ov q1 q2 : Nat) : Bool := Nat.beq q1 0 && (Nat.beq q2 0 && L.any (fun b => Nat.beq be b.1 && (Nat.beq k b.2.1 && Nat.beq ov b.2.2)))
def cvx9 (E : List (List (List (Nat × T6 × T6)))) (L : List (List (List (Nat × Nat × Nat)))) (c m0 m1 : Nat) : Bool := (List.range (c - 8)).all (fun be => Nat.beq be 0 || (List.range (c - 7 - be)).all (fun k => Nat.beq k 0 || (List.range (c - 7 - be - k)).all (fun ov => (Nat.beq ov 1 || Nat.beq ov 2) || (List.range (c - 7 - be - k - ov)).all (fun q1 => (Nat.blt 0 q1 && Nat.blt q1 5) || ((Nat.blt 0 (c - 8 - be - k - ov - q1) && Nat.blt (c - 8 - be - k - ov - q1) 5) || (List.range (m1 + 1)).all (fun m => Nat.blt m m0 || ((gQ E c m).any (eqx be k ov q1 (c - 8 - be - k - ov - q1) (58 - c - 2 * m)) || inB (gB L c m) be k ov q1 (c - 8 - be - k - ov - q1))))))))
theorem cvm_20 : cvx9 eQm bQm 20 8 14 = true := by decide +kernel
theorem cvm_21 : cvx9 eQm bQm 21 8 13 = true := by decide +kernel
theorem cvm_22 : cvx9 eQm bQm 22 8 13 = true := by decide +kernel
theorem cvm_23 : cvx9 eQm bQm 23 8 12 = true := by decide +kernel
theorem cvm_24 : cvx9 eQm bQm 24 8 12 = true := by decide +kernel
theorem cvm_25 : cvx9 eQm bQm 25 8 11 = true := by decide +kernel
theorem cvm_26 : cvx9 eQm bQm 26 8 11 = true := by decide +kernel
theorem cvm_27 : cvx9 eQm bQm 27 8 10 = true := by decide +kernel
theorem cvm_28 : cvx9 eQm bQm 28 8 10 = true := by decide +kernel
theorem cvm_29 : cvx9 eQm bQm 29 8 9 = true := by decide +kernel
theorem cvm_30 : cvx9 eQm bQm 30 8 9 = true := by decide +kernel
theorem cvm_31 : cvx9 eQm bQm 31 8 8 = true := by decide +kernel
theorem cvm_32 : cvx9 eQm bQm 32 8 8 = true := by decide +kernel
theorem cvo_20 : cvx9 eQo bQo 20 10 16 = true := by decide +kernel
theorem cvo_21 : cvx9 eQo bQo 21 10 16 = true := by decide +kernel
theorem cvo_22 : cvx9 eQo bQo 22 10 15 = true := by decide +kernel
theorem cvo_23 : cvx9 eQo bQo 23 10 15 = true := by decide +kernel
theorem cvo_24 : cvx9 eQo bQo 24 10 14 = true := by decide +kernel
theorem cvo_25 : cvx9 eQo bQo 25 10 14 = true := by decide +kernel
theorem cvo_26 : cvx9 eQo bQo 26 10 13 = true := by decide +kernel
theorem cvo_27 : cvx9 eQo bQo 27 10 13 = true := by decide +kernel
theorem cvo_28 : cvx9 eQo bQo 28 10 12 = true := by decide +kernel
theorem cvo_29 : cvx9 eQo bQo 29 10 12 = true := by decide +kernel
theorem cvo_30 : cvx9 eQo bQo 30 10 11 = true := by decide +kernel
theorem cvo_31 : cvx9 eQo bQo 31 10 11 = true := by decide +kernel
theorem cvo_32 : cvx9 eQo bQo 32 10 10 = true := by decide +kernel
theorem cvo_33 : cvx9 eQo bQo 33 10 10 = true := by decide +kernel
