/-! Numbers, several binders. -/
def cz2k (LR LG : LnT) (m c k : Nat) : Bool := Nat.blt k 1 || (List.range (c - 8)).all (fun rem => Nat.blt rem 4 || (Nat.ble (c - 8) (k + rem) || (List.range (c - 7)).all (fun q1 => Nat.blt (c - 8) (k + rem + q1) || (!(q05 q1 && q05 (c - 8 - k - rem - q1)) || cj2 LR LG m k rem q1 (c - 8 - k - rem - q1)))))
theorem cz2k_47_0 : cz2k j0R j0G 5 47 0 = true := by decide +kernel
theorem cz2k_47_1 : cz2k j0R j0G 5 47 1 = true := by decide +kernel
theorem cz2k_47_2 : cz2k j0R j0G 5 47 2 = true := by decide +kernel
theorem cz2k_47_3 : cz2k j0R j0G 5 47 3 = true := by decide +kernel
theorem cz2k_47_4 : cz2k j0R j0G 5 47 4 = true := by decide +kernel
theorem cz2k_47_5 : cz2k j0R j0G 5 47 5 = true := by decide +kernel
theorem cz2k_47_6 : cz2k j0R j0G 5 47 6 = true := by decide +kernel
theorem cz2k_47_7 : cz2k j0R j0G 5 47 7 = true := by decide +kernel
theorem cz2k_47_8 : cz2k j0R j0G 5 47 8 = true := by decide +kernel
theorem cz2k_47_9 : cz2k j0R j0G 5 47 9 = true := by decide +kernel
