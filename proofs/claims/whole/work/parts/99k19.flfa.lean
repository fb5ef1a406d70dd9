/-! THE FORM OF A TYPE, written out: leaves and the rest. -/
def flv : Ty → Nat
  | .tag c (.append a b) => if c = 2 then flv b * max 1 (flv a) else flv a + flv b
  | .tag c .nil => if 16 ≤ c then 1 else 0
  | .append a b => flv a + flv b
  | _ => 0
def fav (t0 : Nat) (n1 : Nat → Nat) (s2 hv : Nat) : Ty → Nat
  | .tag c (.append a b) => if c = 2 then s2 + fav t0 n1 s2 hv b + flv b * (hv + fav t0 n1 s2 hv a) else n1 c + (fav t0 n1 s2 hv a + fav t0 n1 s2 hv b)
  | .tag c .nil => if 16 ≤ c then 0 else t0
  | .append a b => fav t0 n1 s2 hv a + fav t0 n1 s2 hv b
  | _ => 0
section PmKl
variable {t0 s2 hv x0 : Nat} {n1 h : Nat → Nat}
theorem flv_top : flv tTop = 0 := by simp [tTop, flv]
theorem flv_var (k : Nat) : flv (tVar k) = 1 := by simp [tVar, flv]
theorem flv_nil : flv .nil = 0 := by simp [flv]
theorem flv_fun (a b : Ty) : flv (tFun a b) = flv a + flv b := by simp [tFun, flv]
theorem flv_all (a b : Ty) : flv (tAll a b) = flv b * max 1 (flv a) := by simp [tAll, flv]
theorem flv_rec {m : Nat} (x y z : Ty) : flv (tRec m x y z) = flv x + (flv y + flv z) := by
  unfold tRec
  rw [flv, if_neg (by omega), flv]
theorem fav_top : fav t0 n1 s2 hv tTop = t0 := by simp [tTop, fav]
theorem fav_var (k : Nat) : fav t0 n1 s2 hv (tVar k) = 0 := by simp [tVar, fav]
theorem fav_nil : fav t0 n1 s2 hv .nil = 0 := by simp [fav]
theorem fav_fun (a b : Ty) : fav t0 n1 s2 hv (tFun a b) = n1 1 + (fav t0 n1 s2 hv a + fav t0 n1 s2 hv b) := by simp [tFun, fav]
theorem fav_all (a b : Ty) : fav t0 n1 s2 hv (tAll a b) = s2 + fav t0 n1 s2 hv b + flv b * (hv + fav t0 n1 s2 hv a) := by simp [tAll, fav]
theorem fav_rec {m : Nat} (x y z : Ty) : fav t0 n1 s2 hv (tRec m x y z) = n1 (8 + m) + (fav t0 n1 s2 hv x + (fav t0 n1 s2 hv y + fav t0 n1 s2 hv z)) := by
  unfold tRec
  rw [fav, if_neg (by omega), fav]
end PmKl
