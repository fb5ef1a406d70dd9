/-! SEVERAL BINDERS, NO NAMES, the designated scheme inside its bound: numbers. -/
def ci3 (be k ov q1 q2 : Nat) : Bool := (zyR j2R be k ov q1 q2 && zyG j2G be k ov q1 q2) || (Nat.ble 34 (8 + be + k + ov + q1 + q2) && (Nat.blt q1 10 && (Nat.blt q2 10 && (zjR s2R be k ov q1 q2 && zjG s2G be k ov q1 q2))))
def cj3 (k rem q1 q2 : Nat) : Bool := (zcR j2R k rem q1 q2 && zcG j2G k rem q1 q2) || (List.range (rem - 2)).all (fun be => Nat.blt be 1 || ci3 be k (rem - be) q1 q2)
def cz3 (c : Nat) : Bool := (List.range (c - 8)).all (fun k => Nat.blt k 1 || (List.range (c - 8)).all (fun rem => Nat.blt rem 4 || (Nat.ble (c - 8) (k + rem) || (List.range (c - 7)).all (fun q1 => Nat.blt (c - 8) (k + rem + q1) || (!(q05 q1 && q05 (c - 8 - k - rem - q1)) || cj3 k rem q1 (c - 8 - k - rem - q1))))))
