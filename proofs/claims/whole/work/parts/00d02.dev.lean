section
-- from 99e02
theorem sbt_hd {D k b : Nat} {A t : Ty} (h : ok D t = true) (hv : hd t < 16) : hd (sbt k A b t) = hd t := by sorry
section PmE2
variable {d : Nat} {Q : Option Value → pm_S → Prop} {M : pm_M} {Rf : Nat → Nat → Nat} {K L : Nat → Nat} {n s : Nat}
end PmE2
section PmE3
variable {d : Nat}
end PmE3

end
section
-- from 99e03
def LB (Γ : List Ty) (S T : Ty) : Prop := hgt (oh Γ) S + hgt (oh Γ) T ≤ 76 ∧ Γ.length + trx (Γ, S, T) ≤ 1990 ∧ trx (Γ, S, T) ≤ 887
def LJ (Γ : List Ty) (S T : Ty) : Prop := hgt (oh Γ) S + hgt (oh Γ) T ≤ 76 ∧ gm (0, Γ, S, T) ≤ 887 ∧ gn (0, Γ, S, T) + 3 ≤ 600
def TL : Nat → Ty → List Ty → List (Nat × Ty × Nat) → Prop
  | 0, _, _, _ => True
  | f + 1, t, Γ, Δ => (nKd t = 6 → TL f (nY t) Γ ((nPl t, nX t, Γ.length) :: Δ)) ∧ (nKd t = 7 → TL f (nX t) Γ Δ ∧ TL f (nY t) Γ Δ ∧ ∀ S T, tyF f (nX t) Γ Δ = .inr S → tyF f (nY t) Γ Δ = .inr T → hd (expo Γ Γ.length S) = 1 → LB Γ T (k1 (expo Γ Γ.length S))) ∧ (nKd t = 8 → TL f (nY t) (nX t :: Γ) Δ) ∧ (nKd t = 9 → TL f (nX t) Γ Δ ∧ ∀ S, tyF f (nX t) Γ Δ = .inr S → hd (expo Γ Γ.length S) = 2 → LB Γ (nY t) (k1 (expo Γ Γ.length S))) ∧ (nKd t = 10 → ∀ g, g < 3 → bit (nMk t) g = true → TL f (nP t g) Γ Δ) ∧ (nKd t = 11 → TL f (nX t) Γ Δ) ∧ (nKd t = 12 → TL f (nX t) Γ Δ ∧ TL f (nY t) Γ Δ ∧ ∀ S T, tyF f (nX t) Γ Δ = .inr S → tyF f (nY t) Γ Δ = .inr T → LJ Γ S T)
def WFd (o : Nat) (p : Nat) (i : Int) : Prop := (p = 6 ∧ i = 6) ∨ (p = 12 ∧ (o : Int) ≤ i) ∨ (p = 42 ∧ i = 2)
def DEc (M : pm_M) (Rf : Nat → Nat → Nat) (cn : Int) (X cnt : Nat) (Δ : List (Nat × Ty × Nat)) : Prop := ∀ a ∈ Δ, ∃ b : Int, (0 ≤ b ∧ b < cnt) ∧ M (X + 2) b = (a.1 : Int) ∧ M (X + 3) b = (a.2.2 : Int) ∧ ndf M Rf cn 16 a.2.1 (M (X + 4) b)
def CFS (X cnt : Nat) (Γ : List Ty) (Δ : List (Nat × Ty × Nat)) (M : pm_M) (Rf : Nat → Nat → Nat) (K L : Nat → Nat) (n z : Nat) (cn : Int) : Prop := pm_G Rf K L n ∧ RmI Rf K L n z ∧ (∀ p i, R32 (M p i)) ∧ M 6 6 = cn ∧ 1 ≤ cn ∧ cn ≤ z ∧ ndf M Rf cn 1 tTop 0 ∧ Rf 42 1 = X ∧ (X = 16 ∨ X = 23) ∧ M 42 2 = -1 ∧ PI M X cnt 60 ∧ cnt ≤ 60 ∧ BN M Rf cn Γ ∧ TE Γ Δ ∧ DEc M Rf cn X cnt Δ
section PmE4
variable {X cnt : Nat} {Γ : List Ty} {Δ : List (Nat × Ty × Nat)} {M M' : pm_M} {Rf Rf' : Nat → Nat → Nat} {K L K' L' : Nat → Nat} {n s z n' s' z' : Nat} {cn cn' : Int}
theorem CFS.r (h : CFS X cnt Γ Δ M Rf K L n z cn) : RmI Rf K L n z := by sorry
theorem CFS.de (h : CFS X cnt Γ Δ M Rf K L n z cn) : DEc M Rf cn X cnt Δ := by sorry
end PmE4
section PmE5
variable {d : Nat} {Q : Option Value → pm_S → Prop}
end PmE5

end
section
-- from 99e04
section PmE6
variable {d X cnt f : Nat} {Γ : List Ty} {Δ : List (Nat × Ty × Nat)} {t : Ty} {v : Int} {dp : Nat}
theorem WFd.mono {o o' : Nat} (h : o ≤ o') : ∀ p i, WFd o' p i → WFd o p i := by sorry
end PmE6

end
section
-- from 99e07
section PmE10
variable {tx : Nat → Int} {ln : Nat}
theorem TWf.lam {f D p : Nat} {sc : List Nat} {x y : Ty} (hp : ∀ q ∈ sc, q < p) (h1 : ok D x = true) (h2 : (flat x).length ≤ 16) (h3 : TWf f D (p :: sc) y) : TWf (f + 1) D sc (mN p 6 D x y .nil) := by sorry
theorem TWf.all {f D p : Nat} {sc : List Nat} {x y : Ty} (hp : ∀ q ∈ sc, q < p) (h1 : ok D x = true) (h2 : (flat x).length ≤ 16) (h3 : TWf f (D + 1) sc y) : TWf (f + 1) D sc (mN p 8 0 x y .nil) := by sorry
end PmE10

end
section
-- from 99f01
section PmF0
variable {lo : Nat} {d : Nat} {Q : Option Value → pm_S → Prop} {N : pm_M} {Rf : Nat → Nat → Nat} {K L : Nat → Nat} {n s0 : Nat} {nd sc : Nat}
end PmF0
def nAt : Nat → Ty → List Ty → List (Nat × Ty × Nat) → Nat → Option (Nat × Ty × List Ty × List (Nat × Ty × Nat))
  | 0, _, _, _, _ => none
  | f + 1, t, Γ, Δ, i => if i = 0 then some (f + 1, t, Γ, Δ) else if i < 1 + (tfl (nX t)).length then (if sk (nKd t) (nMk t) 0 = 1 then nAt f (nX t) Γ Δ (i - 1) else none) else if i < 1 + (tfl (nX t)).length + (tfl (nY t)).length then (if nKd t = 6 then nAt f (nY t) Γ ((nPl t, nX t, Γ.length) :: Δ) (i - (1 + (tfl (nX t)).length)) else if nKd t = 8 then nAt f (nY t) (nX t :: Γ) Δ (i - (1 + (tfl (nX t)).length)) else if sk (nKd t) (nMk t) 1 = 1 then nAt f (nY t) Γ Δ (i - (1 + (tfl (nX t)).length)) else none) else if sk (nKd t) (nMk t) 2 = 1 then nAt f (nZ t) Γ Δ (i - (1 + (tfl (nX t)).length + (tfl (nY t)).length)) else none
def TCh (N : pm_M) (b : Nat) (T : Ty) : Int → List (Nat × Int × Nat) → List Ty → List (Nat × Ty × Nat) → Prop
  | s, [], Γ, Δ => s = -1 ∧ Γ = [] ∧ Δ = []
  | s, e :: ch, Γ, Δ => (0 ≤ s ∧ s < b) ∧ e.1 ≤ 1 ∧ ∃ (o f : Nat) (t : Ty) (Γ' : List Ty) (Δ' : List (Nat × Ty × Nat)), N 67 s = (o : Int) ∧ nAt 24 T [] [] o = some (f, t, Γ', Δ') ∧ e.2.2 = nPl t ∧ ((e.1 = 1 ∧ nKd t = 6 ∧ Γ = Γ' ∧ Δ = (nPl t, nX t, Γ'.length) :: Δ') ∨ (e.1 = 0 ∧ nKd t = 8 ∧ Γ = nX t :: Γ' ∧ Δ = Δ')) ∧ TCh N b T (N 64 s) ch Γ' Δ'
theorem TCh.len {N : pm_M} {b : Nat} {T : Ty} : ∀ {ch : List (Nat × Int × Nat)} {s : Int} {Γ : List Ty} {Δ : List (Nat × Ty × Nat)}, TCh N b T s ch Γ Δ → (tnm ch).length = Γ.length := by sorry
def PD : List (Nat × Ty × Nat) → Prop
  | [] => True
  | a :: r => (∀ q ∈ r.map (fun a => a.1), q < a.1) ∧ PD r
def ND (N : pm_M) (a b : Nat) (T : Ty) (F : Nat) (t : Ty) (Γ : List Ty) (Δ : List (Nat × Ty × Nat)) (j : Nat) : Prop := TWf F Γ.length (Δ.map (fun a => a.1)) t ∧ TL F t Γ Δ ∧ (TE Γ Δ ∧ PD Δ) ∧ Γ.length + F ≤ 25 ∧ (∀ k, k < (tfl t).length → nAt 24 T [] [] (j + k) = nAt F t Γ Δ k) ∧ j + (tfl t).length ≤ a ∧ ∃ s ch, MNd 0 N a b F t s ch j ∧ TCh N b T s ch Γ Δ
theorem sk_6 {k m : Nat} (h : k = 6 ∨ k = 8) : sk k m 0 = 2 ∧ sk k m 1 = 1 ∧ sk k m 2 = 0 := by sorry
section PmF1
variable {N : pm_M} {a b : Nat} {T : Ty} {F : Nat} {t : Ty} {Γ : List Ty} {Δ : List (Nat × Ty × Nat)} {j : Nat}
theorem ND.le (h : ND N a b T F t Γ Δ j) : j + (tfl t).length ≤ a := by sorry
theorem ND.lam (h : ND N a b T (F + 1) t Γ Δ j) (hk : nKd t = 6) : ND N a b T F (nY t) Γ ((nPl t, nX t, Γ.length) :: Δ) (j + 1 + (tfl (nX t)).length) := by sorry
theorem ND.all (h : ND N a b T (F + 1) t Γ Δ j) (hk : nKd t = 8) : ND N a b T F (nY t) (nX t :: Γ) Δ (j + 1 + (tfl (nX t)).length) := by sorry
end PmF1
theorem ND.at {N : pm_M} {a b : Nat} {T : Ty} : ∀ {F : Nat} {t : Ty} {Γ : List Ty} {Δ : List (Nat × Ty × Nat)} {j i f : Nat} {t' : Ty} {Γ' : List Ty} {Δ' : List (Nat × Ty × Nat)}, ND N a b T F t Γ Δ j → i < (tfl t).length → nAt F t Γ Δ i = some (f, t', Γ', Δ') → ND N a b T f t' Γ' Δ' (j + i) ∧ 1 ≤ f := by sorry
theorem ND.ex {N : pm_M} {a b : Nat} {T : Ty} : ∀ {F : Nat} {t : Ty} {Γ : List Ty} {Δ : List (Nat × Ty × Nat)} {j i : Nat}, ND N a b T F t Γ Δ j → i < (tfl t).length → 5 ≤ N 59 ((j + i : Nat) : Int) → ∃ f t' Γ' Δ', nAt F t Γ Δ i = some (f, t', Γ', Δ') := by sorry
end
section
-- from 99f02
def WXP (u : Int) (p : Nat) (i : Int) : Prop := (p = 56 ∧ (i = 22 ∨ i = 32 ∨ i = 33)) ∨ (p = 73 ∧ 17 * u ≤ i)
def XPF (u : Int) (N N' : pm_M) : Prop := ∀ (p : Nat) (i : Int), ¬ WXP u p i → N' p i = N p i
theorem XPF.set {u : Int} {N N' : pm_M} {i v : Int} (h : XPF u N N') (hi : i = 22 ∨ i = 32 ∨ i = 33) : XPF u N (mset N' 56 i v) := by sorry
section PmF2
variable {d : Nat} {Q : Option Value → pm_S → Prop} {N : pm_M} {Rf : Nat → Nat → Nat} {K L : Nat → Nat} {n s : Nat}
end PmF2

end
section
-- from 99f03
section PmF3
variable {N N' : pm_M} {a b : Nat} {T : Ty}
end PmF3
def WPp (p : Nat) (i : Int) : Prop := (p = 56 ∧ (i = 22 ∨ i = 24)) ∨ (p = 73 ∧ 17 * 68 ≤ i) ∨ (74 ≤ p ∧ p ≤ 77)
def PPF (N N' : pm_M) : Prop := ∀ (p : Nat) (i : Int), ¬ WPp p i → N' p i = N p i
theorem PPF.set {N N' : pm_M} {p : Nat} {i v : Int} (h : PPF N N') (w : WPp p i) : PPF N (mset N' p i v) := by sorry
def c8 (N : pm_M) (a s : Nat) : Nat := (List.range a).countP (fun (o : Nat) => decide (N 59 (o : Int) = 8 ∧ N 63 (o : Int) < (s : Int)))
section PmF4
variable {d : Nat} {Q : Option Value → pm_S → Prop} {N N' : pm_M} {Rf : Nat → Nat → Nat} {K L : Nat → Nat} {n s0 : Nat} {a b : Nat} {T : Ty}
end PmF4

end
section
-- from 99f07
def RA (N : pm_M) (i : Int) : Option Ty → Int → Prop
  | none, r => r = 0
  | some A, r => r = 1 ∧ Row N (4 + i) 0 (flat A)
section PmF8
variable {d : Nat} {Q : Option Value → pm_S → Prop} {N : pm_M} {Rf : Nat → Nat → Nat} {K L : Nat → Nat} {n s : Nat}
end PmF8

end
section
-- from 99f08
def toO : Sum Nat Ty → Option Ty
  | .inl _ => none
  | .inr A => some A
section PmF9
variable {d : Nat} {Q : Option Value → pm_S → Prop} {N : pm_M} {Rf : Nat → Nat → Nat} {K L : Nat → Nat} {n s0 : Nat} {a b : Nat} {T : Ty} {F : Nat} {t : Ty} {Γ : List Ty} {Δ : List (Nat × Ty × Nat)} {i : Nat} {x c s : Int} {ch : List (Nat × Int × Nat)}
end PmF9

end
section
-- from 99f09
theorem RA.r {N : pm_M} {i r : Int} {o : Option Ty} (h : RA N i o r) : r = 0 ∨ r = 1 := by sorry
section PmF10
variable {d : Nat} {Q : Option Value → pm_S → Prop} {N : pm_M} {Rf : Nat → Nat → Nat} {K L : Nat → Nat} {n s0 : Nat} {a b : Nat} {T : Ty} {F : Nat} {t : Ty} {Γ : List Ty} {Δ : List (Nat × Ty × Nat)} {i : Nat} {x c s : Int} {ch : List (Nat × Int × Nat)}
end PmF10

end
section
-- from 99f10
def yF (F : Nat) (t : Ty) (Γ : List Ty) (Δ : List (Nat × Ty × Nat)) : Sum Nat Ty := if nKd t = 6 then tyF F (nY t) Γ ((nPl t, nX t, Γ.length) :: Δ) else if nKd t = 8 then tyF F (nY t) (nX t :: Γ) Δ else tyF F (nY t) Γ Δ
section PmF11
variable {d : Nat} {Q : Option Value → pm_S → Prop} {N : pm_M} {Rf : Nat → Nat → Nat} {K L : Nat → Nat} {n s0 : Nat} {a b : Nat} {T : Ty} {F : Nat} {t : Ty} {Γ : List Ty} {Δ : List (Nat × Ty × Nat)} {i : Nat} {x : Int}
end PmF11

end
section
-- from 99f11
def ktd (F : Nat) (t : Ty) (Γ : List Ty) (Δ : List (Nat × Ty × Nat)) : Prop := (sk (nKd t) (nMk t) 0 = 1 → ∃ A, tyF F (nX t) Γ Δ = .inr A) ∧ (sk (nKd t) (nMk t) 1 = 1 → ∃ A, yF F t Γ Δ = .inr A) ∧ (sk (nKd t) (nMk t) 2 = 1 → ∃ A, tyF F (nZ t) Γ Δ = .inr A)
def Brk : Nat → Ty → List Ty → List (Nat × Ty × Nat) → Prop
  | 0, _, _, _ => False
  | F + 1, t, Γ, Δ => ktd F t Γ Δ ∧ ∃ p, tyF (F + 1) t Γ Δ = .inl p
section PmF12
variable {F : Nat} {t : Ty} {Γ : List Ty} {Δ : List (Nat × Ty × Nat)} {p : Nat}
end PmF12
end
section
-- from 99f13
def KD : Nat → List Int → List Nat → Prop
  | _, l, [] => l = []
  | p, l, k :: ks => k = p ∧ ∃ l1 l2, l = l1 ++ l2 ∧ prx 1 l1 = true ∧ 1 ≤ l1.length ∧ KD (p + l1.length) l2 ks
theorem KD.ex : ∀ (n : Nat) (p : Nat) (l : List Int), prx n l = true → ∃ ks, KD p l ks := by sorry
theorem KD.one {p : Nat} {l : List Int} (h : prx 1 l = true) : KD p l [p] := by sorry
def okp (N : pm_M) (k : Nat) : Bool := decide (N 59 (k : Int) < 5) || decide (N 78 (k : Int) = 1)
section PmF13
variable {d : Nat} {Q : Option Value → pm_S → Prop} {N : pm_M} {Rf : Nat → Nat → Nat} {K L : Nat → Nat} {n s0 : Nat} {a b : Nat}
end PmF13

end
section
-- from 99f14
def WTy (x : Int) (p : Nat) (k : Int) : Prop := (p = 56 ∧ (k = 22 ∨ k = 24 ∨ k = 32 ∨ k = 33 ∨ k = 34 ∨ k = 36)) ∨ (p = 73 ∧ ((17 * 4 ≤ k ∧ k < 17 * 64) ∨ 17 * 132 ≤ k)) ∨ ((p = 74 ∨ p = 75 ∨ p = 76) ∧ x ≤ k) ∨ (78 ≤ p ∧ p ≤ 86)
def TJ (N : pm_M) (j : Nat) (v : Nat × Ty × List Ty × List (Nat × Ty × Nat)) : Prop := RA N (j : Int) (toO (tyF v.1 v.2.1 v.2.2.1 v.2.2.2)) (N 78 (j : Int)) ∧ (Brk v.1 v.2.1 v.2.2.1 v.2.2.2 → N 79 (j : Int) = 1) ∧ (¬ Brk v.1 v.2.1 v.2.2.1 v.2.2.2 → N 79 (j : Int) = 0)
def TI (N0 : pm_M) (a : Nat) (T : Ty) (x : Int) (N : pm_M) (m : Nat) : Prop := (∀ p i, R32 (N p i)) ∧ N 56 22 = 132 ∧ N 56 24 = x ∧ (∀ p k, ¬ WTy x p k → N p k = N0 p k) ∧ ∀ j : Nat, m ≤ j → j < a → (N 78 (j : Int) = 0 ∨ N 78 (j : Int) = 1) ∧ (N 79 (j : Int) = 0 ∨ N 79 (j : Int) = 1) ∧ (N 59 (j : Int) < 5 → N 79 (j : Int) = 0) ∧ ∀ v, nAt 24 T [] [] j = some v → TJ N j v
section PmF14
variable {d : Nat} {Q : Option Value → pm_S → Prop} {N : pm_M} {Rf : Nat → Nat → Nat} {K L : Nat → Nat} {n s0 : Nat}
end PmF14

end
section
-- from 99f15
section PmF15
variable {N0 N : pm_M} {a b : Nat} {T : Ty} {x : Int} {m : Nat}
theorem TI.part (h : TI N0 a T x N m) {F : Nat} {y : Ty} {Γ : List Ty} {Δ : List (Nat × Ty × Nat)} {j : Nat} (n : ND N a b T F y Γ Δ j) (mj : m ≤ j) : (okp N j = true ↔ ∃ A, tyF F y Γ Δ = .inr A) ∧ ∀ A, tyF F y Γ Δ = .inr A → Row N (4 + (j : Int)) 0 (flat A) := by sorry
def rt (z p : Nat) : List Nat := if z = 0 then [] else [p]
end PmF15

end
section
-- from 99g01
def vC (t ρ : Ty) : Ty := .append t ρ
def vR (m : Nat) (x y z : Ty) : Ty := .tag m (.append x (.append y z))
def eN (p : Nat) (v r : Ty) : Ty := .nest (p : Int) (.append v r)
def elk : Ty → Nat → Option Ty
  | .nest p (.append v r), m => if p = (m : Int) then some v else elk r m
  | _, _ => none
def isC : Ty → Nat → Bool
  | .append t _, c => nKd t == c
  | _, _ => false
def cT : Ty → Ty
  | .append t _ => t
  | _ => .nil
def cE : Ty → Ty
  | .append _ ρ => ρ
  | _ => .nil
def isR : Ty → Nat → Bool
  | .tag m _, g => bit m g
  | _, _ => false
def rP : Ty → Nat → Ty
  | .tag _ (.append x (.append y z)), g => if g = 0 then x else if g = 1 then y else z
  | _, _ => .nil
def sP : Ty → Nat → Ty → Ty
  | .tag m (.append x (.append y z)), g, v => if g = 0 then vR m v y z else if g = 1 then vR m x v z else vR m x y v
  | w, _, _ => w
def nxl (m g : Nat) : Nat := if g ≤ 0 ∧ bit m 0 = true then 0 else if g ≤ 1 ∧ bit m 1 = true then 1 else if g ≤ 2 ∧ bit m 2 = true then 2 else 3
abbrev Fr : Type := Ty × Ty × Ty × Nat
abbrev Cf : Type := Sum (Ty × Ty × List Fr) (Ty × List Fr)
def mvE (t ρ : Ty) (k : List Fr) : Option (Bool × Cf) :=
  if nKd t = 5 then (elk ρ (nMk t)).map (fun v => (false, .inr (v, k)))
  else if nKd t = 6 ∨ nKd t = 8 then some (false, .inr (vC t ρ, k))
  else if nKd t = 10 then (if nxl (nMk t) 0 < 3 then some (false, .inl (nP t (nxl (nMk t) 0), ρ, (t, ρ, vR (nMk t) .nil .nil .nil, nxl (nMk t) 0) :: k)) else some (false, .inr (vR (nMk t) .nil .nil .nil, k)))
  else if nKd t = 12 then some (true, .inl (if nMk t = 0 then nX t else nY t, ρ, k))
  else some (false, .inl (nX t, ρ, (t, ρ, .nil, 0) :: k))
def mvR (v : Ty) : List Fr → Option (Bool × Cf)
  | [] => none
  | (t, ρ, w, g) :: k =>
    if nKd t = 7 then (if g = 0 then some (false, .inl (nY t, ρ, (t, ρ, v, 1) :: k)) else if isC w 6 = true then some (true, .inl (nY (cT w), eN (nPl (cT w)) v (cE w), k)) else none)
    else if nKd t = 9 then (if isC v 8 = true then some (true, .inl (nY (cT v), cE v, k)) else none)
    else if nKd t = 11 then (if isR v (nMk t) = true then some (true, .inr (rP v (nMk t), k)) else none)
    else if nxl (nMk t) (g + 1) < 3 then some (false, .inl (nP t (nxl (nMk t) (g + 1)), ρ, (t, ρ, sP w g v, nxl (nMk t) (g + 1)) :: k)) else some (false, .inr (sP w g v, k))
def mv : Cf → Option (Bool × Cf)
  | .inl (t, ρ, k) => mvE t ρ k
  | .inr (v, k) => mvR v k
def Sf : Nat → Cf → Prop
  | 0, _ => True
  | n + 1, c => (∃ v, c = .inr (v, [])) ∨ ∃ b c', mv c = some (b, c') ∧ Sf n c'
abbrev Pr : Type := Nat → Ty → Prop
def dc (P : Pr) : Prop := ∀ n v, P (n + 1) v → P n v
theorem dc.le {P : Pr} (h : dc P) : ∀ {n m : Nat} {v : Ty}, m ≤ n → P n v → P m v := by sorry
def Ex (P : Pr) (n : Nat) (t ρ : Ty) : Prop := ∀ j, j ≤ n → ∀ k : List Fr, (∀ m, m ≤ j → ∀ v, P m v → Sf m (.inr (v, k))) → Sf j (.inl (t, ρ, k))
theorem Ex.le {P : Pr} {n m : Nat} {t ρ : Ty} (h : Ex P n t ρ) (hm : m ≤ n) : Ex P m t ρ := by sorry
theorem Ex.imp {P P' : Pr} {n : Nat} {t ρ : Ty} (h : Ex P n t ρ) (e : ∀ m v, P m v → P' m v) : Ex P' n t ρ := by sorry
end
section
-- from 99g02
def pw : List Pr → Nat → Pr
  | [], _ => fun _ _ => True
  | p :: ξ, k => if k = ξ.length then p else pw ξ k
def sem : List Pr → Ty → Pr
  | ξ, .tag c (.append a b) => if c = 1 then (fun n v => ∃ t ρ, v = vC t ρ ∧ nKd t = 6 ∧ ∀ m, m < n → ∀ w, sem ξ a m w → Ex (sem ξ b) m (nY t) (eN (nPl t) w ρ))
    else if c = 2 then (fun n v => ∃ t ρ, v = vC t ρ ∧ nKd t = 8 ∧ ∀ p : Pr, dc p → (∀ m u, p m u → sem ξ a m u) → ∀ m, m < n → Ex (sem (p :: ξ) b) m (nY t) ρ)
    else (fun n v => ∃ m x r, v = .tag m (.append x r) ∧ (∀ g, g < 3 → bit (c - 8) g = true → bit m g = true) ∧ sem ξ a n x ∧ sem ξ b n r)
  | ξ, .tag c .nil => if 16 ≤ c then pw ξ (c - 16) else fun _ _ => True
  | ξ, .append a b => fun n v => ∃ p q, v = .append p q ∧ sem ξ a n p ∧ sem ξ b n q
  | _, _ => fun _ _ => True
end
section
-- from 99g03
def mdl (Γ : List Ty) (ξ : List Pr) : Prop := ξ.length = Γ.length ∧ ∀ k, k < Γ.length → dc (pw ξ k) ∧ ∀ n v, pw ξ k n v → sem ξ (lft k (Γ.length - k) (bnd Γ k)) n v
theorem mdl.nil : mdl [] [] := by sorry
end
section
-- from 99g05
def EnvOk (Γ : List Ty) (Δ : List (Nat × Ty × Nat)) (ξ : List Pr) (n : Nat) (ρ : Ty) : Prop := ∀ m A d, dlk Δ m = some (A, d) → ∃ v, elk ρ m = some v ∧ sem ξ (lft d (Γ.length - d) A) n v
theorem EnvOk.le {Γ : List Ty} {Δ : List (Nat × Ty × Nat)} {ξ : List Pr} {n m : Nat} {ρ : Ty} (h : EnvOk Γ Δ ξ n ρ) (he : TE Γ Δ) (hm : mdl Γ ξ) (hl : m ≤ n) : EnvOk Γ Δ ξ m ρ := by sorry
theorem EnvOk.lam {Γ : List Ty} {Δ : List (Nat × Ty × Nat)} {ξ : List Pr} {n p : Nat} {ρ w A : Ty} (h : EnvOk Γ Δ ξ n ρ) (hm : mdl Γ ξ) (hA : ok Γ.length A = true) (hw : sem ξ A n w) : EnvOk Γ ((p, A, Γ.length) :: Δ) ξ n (eN p w ρ) := by sorry
theorem EnvOk.all {Γ : List Ty} {Δ : List (Nat × Ty × Nat)} {ξ : List Pr} {n : Nat} {ρ C : Ty} {p : Pr} (h : EnvOk Γ Δ ξ n ρ) (he : TE Γ Δ) (hm : mdl Γ ξ) : EnvOk (C :: Γ) Δ (p :: ξ) n ρ := by sorry
end
section
-- from 99g06
theorem Ex.var {P : Pr} {n : Nat} {t ρ v : Ty} (hk : nKd t = 5) (e : elk ρ (nMk t) = some v) (hd : dc P) (h : P n v) : Ex P n t ρ := by sorry
theorem Ex.val {P : Pr} {n : Nat} {t ρ : Ty} (hk : nKd t = 6 ∨ nKd t = 8) (hd : dc P) (h : P n (vC t ρ)) : Ex P n t ρ := by sorry
theorem Ex.rec {ξ : List Pr} {n : Nat} {t ρ : Ty} {X : Nat → Ty} (h : nKd t = 10) (hk8 : nMk t < 8) (hd : ∀ i, i < 3 → dc (sem ξ (X i))) (hx : ∀ i, i < 3 → bit (nMk t) i = true → Ex (sem ξ (X i)) n (nP t i) ρ) (hn : ∀ i, i < 3 → bit (nMk t) i = false → X i = .nil) : Ex (sem ξ (tRec (nMk t) (X 0) (X 1) (X 2))) n t ρ := by sorry
end
section
-- from 99g07
def pnd (t : Ty) : Nat := (tfl t).length
def lch : List (Nat × Int × Nat) → List Nat
  | [] => []
  | a :: r => if a.1 = 1 then a.2.2 :: lch r else lch r
def pN (t : Ty) (j g : Nat) : Nat := if g = 0 then j + 1 else if g = 1 then j + 1 + pnd (nX t) else j + 1 + pnd (nX t) + pnd (nY t)
def DCl : List Nat → Prop
  | [] => True
  | p :: r => (∀ q ∈ r, q < p) ∧ DCl r
def NV (N : pm_M) (a b : Nat) (t : Ty) (j : Nat) (s : Int) (ch : List (Nat × Int × Nat)) : Prop := ∃ F D, MNd 0 N a b F t s ch j ∧ TWf F D (lch ch) t ∧ j + pnd t ≤ a ∧ DCl (lch ch)
section PmG7
variable {N : pm_M} {a b j : Nat} {t : Ty} {s : Int} {ch : List (Nat × Int × Nat)}
theorem NV.len (h : NV N a b t j s ch) : j + pnd t ≤ a := by sorry
theorem NV.mk (h : NV N a b t j s ch) : (nKd t = 5 → (0 ≤ N 60 (j : Int) ∧ N 60 (j : Int) ≤ 3) ∧ bnr ch (97 + N 60 (j : Int)) = some (nMk t)) ∧ (10 ≤ nKd t → N 60 (j : Int) = (nMk t : Int)) ∧ (nKd t = 10 → nMk t < 8) ∧ (nKd t = 11 → nMk t < 3) ∧ (nKd t = 12 → nMk t < 2) := by sorry
theorem NV.body (h : NV N a b t j s ch) (hk : nKd t = 6 ∨ nKd t = 8) : ∃ nm, N 64 (N 63 (j : Int)) = s ∧ NV N a b (nY t) (j + 1 + pnd (nX t)) (N 63 (j : Int)) ((if nKd t = 6 then 1 else 0, nm, nPl t) :: ch) := by sorry
theorem NV.part (h : NV N a b t j s ch) (hk : nKd t = 10) {g : Nat} (hg : g < 3) (hb : bit (nMk t) g = true) : NV N a b (nP t g) (pN t j g) s ch := by sorry
theorem NV.nil (h : NV N a b t j s ch) (hk : nKd t = 10) {g : Nat} (hg : g < 3) (hb : ¬ bit (nMk t) g = true) : pnd (nP t g) = 0 := by sorry
end PmG7

end
section
-- from 99g08
def EA (N : pm_M) (es : Nat) (H : Int → Option Ty) : List (Nat × Int × Nat) → Ty → Int → Int → Prop
  | [], ρ, _, _ => ρ = .nil
  | x :: r, ρ, e, s => if x.1 = 1 then (0 ≤ e ∧ e < es) ∧ N 87 e = s ∧ ∃ v ρ', ρ = eN x.2.2 v ρ' ∧ H (N 88 e) = some v ∧ EA N es H r ρ' (N 89 e) (N 64 s) else EA N es H r ρ e (N 64 s)
def VCe (N : pm_M) (a b es : Nat) (H : Int → Option Ty) (i : Int) (v : Ty) : Prop := (∃ t ρ j s ch, v = vC t ρ ∧ (nKd t = 6 ∨ nKd t = 8) ∧ N 90 i = (nKd t : Int) ∧ N 91 i = ((j : Nat) : Int) ∧ NV N a b t j s ch ∧ EA N es H ch ρ (N 92 i) s) ∨ (∃ m x y z, ∃ r : Nat, v = vR m x y z ∧ m < 8 ∧ N 90 i = 10 ∧ N 91 i = (r : Int) ∧ r < a ∧ N 60 (r : Int) = (m : Int) ∧ ∀ g : Nat, g < 3 → bit m g = true → H (N 93 (3 * i + g)) = some (rP v g))
def HP (N : pm_M) (a b vs es : Nat) (H : Int → Option Ty) : Prop := ∀ i v, H i = some v → (0 ≤ i ∧ i < vs) ∧ VCe N a b es H i v
def FrM (N : pm_M) (a b es : Nat) (H : Int → Option Ty) (f : Fr) (k lim : Int) : Prop := N 94 k = (nKd f.1 : Int) ∧ (nKd f.1 = 7 ∨ nKd f.1 = 9 ∨ nKd f.1 = 10 ∨ nKd f.1 = 11) ∧ ∃ j s ch, NV N a b f.1 j s ch ∧ EA N es H ch f.2.1 (N 96 k) s ∧ (nKd f.1 ≠ 10 → N 95 k = ((j : Nat) : Int)) ∧ (nKd f.1 = 7 → (f.2.2.2 = 0 → N 97 k = -1) ∧ (f.2.2.2 ≠ 0 → H (N 97 k) = some f.2.2.1)) ∧ (nKd f.1 = 10 → (f.2.2.2 < 3 ∧ bit (nMk f.1) f.2.2.2 = true) ∧ N 95 k = (pN f.1 j f.2.2.2 : Int) ∧ (0 ≤ N 97 k ∧ N 97 k < lim) ∧ H (N 97 k) = none ∧ N 90 (N 97 k) = 10 ∧ N 91 (N 97 k) = (j : Int) ∧ (∃ x y z, f.2.2.1 = vR (nMk f.1) x y z) ∧ ∀ g : Nat, g < f.2.2.2 → bit (nMk f.1) g = true → H (N 93 (3 * N 97 k + g)) = some (rP f.2.2.1 g))
def FRs (N : pm_M) (a b es : Nat) (H : Int → Option Ty) : List Fr → Nat → Int → Prop
  | [], fr, _ => fr = 0
  | f :: k, fr, lim => ∃ q, fr = q + 1 ∧ FrM N a b es H f (q : Int) lim ∧ FRs N a b es H k q (if nKd f.1 = 10 then N 97 (q : Int) else lim)
def Kpm (N N' : pm_M) (vs es : Nat) (H : Int → Option Ty) : Prop := (∀ (p : Nat) (i : Int), 59 ≤ p → p ≤ 67 → N' p i = N p i) ∧ (∀ (p : Nat) (i : Int), 87 ≤ p → p ≤ 89 → 0 ≤ i → i < es → N' p i = N p i) ∧ (∀ (p : Nat) (i : Int), 90 ≤ p → p ≤ 92 → 0 ≤ i → i < vs → N' p i = N p i) ∧ (∀ (i : Int) (g : Nat), H i ≠ none → g < 3 → N' 93 (3 * i + g) = N 93 (3 * i + g))
def Hle (H H' : Int → Option Ty) : Prop := ∀ i v, H i = some v → H' i = some v
def Hup (H : Int → Option Ty) (i : Int) (v : Ty) : Int → Option Ty := fun k => if k = i then some v else H k
theorem Hup.le {H : Int → Option Ty} {i : Int} {v : Ty} (h : H i = none) : Hle H (Hup H i v) := by sorry
theorem HP.up {N N' : pm_M} {a b vs vs' es es' : Nat} {H : Int → Option Ty} {i : Int} {v : Ty} (k : Kpm N N' vs es H) (he : es ≤ es') (hv : vs ≤ vs') (hn : H i = none) (h : HP N a b vs es H) (hi : 0 ≤ i ∧ i < vs') (hc : VCe N' a b es' (Hup H i v) i v) : HP N' a b vs' es' (Hup H i v) := by sorry
end
section
-- from 99g09
def MKr (N N' : pm_M) : Prop := ∀ (p : Nat) (i : Int), ¬ (p = 56 ∧ ((46 ≤ i ∧ i ≤ 50) ∨ i = 54 ∨ i = 59)) → ¬ (87 ≤ p ∧ p ≤ 97) → N' p i = N p i
theorem MKr.set {N N1 : pm_M} {p : Nat} {i v : Int} (h : MKr N N1) (hp : (p = 56 ∧ ((46 ≤ i ∧ i ≤ 50) ∨ i = 54 ∨ i = 59)) ∨ (87 ≤ p ∧ p ≤ 97)) : MKr N (mset N1 p i v) := by sorry
section PmG9
variable {d : Nat} {Q : Option Value → pm_S → Prop} {N : pm_M} {Rf : Nat → Nat → Nat} {K L : Nat → Nat} {n s0 : Nat} {a b : Nat}
end PmG9

end
section
-- from 99g10
def mKeep (N : pm_M) (vs a b c : Int) : pm_M := mset (mset (mset (mset N 90 vs a) 91 vs b) 92 vs c) 56 54 (vs + 1)
def BR (N : pm_M) (a b st vs es fr : Nat) (H : Int → Option Ty) (k : List Fr) (pc : Nat) : Prop := (N 56 54 = (vs : Int) ∧ N 56 50 = (es : Int) ∧ N 56 59 = (fr : Int)) ∧ HP N a b vs es H ∧ (es ≤ st ∧ vs + pc ≤ 60 + 60 * st ∧ fr + pc ≤ 60 + 60 * st) ∧ FRs N a b es H k fr vs
section PmG10
variable {N N' : pm_M} {a b st st' vs es fr pc pc' : Nat} {H : Int → Option Ty} {k : List Fr}
theorem BR.val {x y z : Int} {v : Ty} (h : BR N a b st vs es fr H k pc) (hp : pc' + 1 ≤ pc) (hc : VCe (mKeep N vs x y z) a b es (Hup H vs v) (vs : Int) v) : BR (mKeep N vs x y z) a b st (vs + 1) es fr (Hup H vs v) k pc' := by sorry
end PmG10

end
section
-- from 99g11
theorem bit_0 : ∀ g, g < 3 → bit 0 g = false := by sorry
section PmG11
variable {d : Nat} {Q : Option Value → pm_S → Prop} {N : pm_M} {Rf : Nat → Nat → Nat} {K L : Nat → Nat} {n s0 : Nat} {a b st : Nat} {t ρ : Ty} {k : List Fr} {mb : Int}
end PmG11

end
section
-- from 99g13
section PmG13
variable {N N' : pm_M} {a b st st' vs es fr pc pc' : Nat} {H : Int → Option Ty} {k : List Fr} {f : Fr}
theorem HP.rec {i : Int} {m : Nat} {x : Ty} (h : HP N a b vs es H) (hv : H i = some (.tag m x)) : (0 ≤ i ∧ i < vs) ∧ ∀ g : Nat, g < 3 → bit m g = true → H (N 93 (3 * i + g)) = some (rP (.tag m x) g) := by sorry
end PmG13

end
section
-- from 99g15
section PmG15
variable {d : Nat} {Q : Option Value → pm_S → Prop} {N : pm_M} {Rf : Nat → Nat → Nat} {K L : Nat → Nat} {n s0 : Nat} {a b : Nat} {t ρ w v : Ty} {st vs es q g pc : Nat} {H : Int → Option Ty} {k : List Fr}
theorem BR.part {i res : Int} (h : BR N a b st vs es (q + 1) H ((t, ρ, w, g) :: k) pc) (hk : nKd t = 10) (e97 : N 97 (q : Int) = i) (hv : H res = some v) (hg : g < 3) : Kpm N (mset N 93 (3 * i + g) res) vs es H ∧ FRs (mset N 93 (3 * i + g) res) a b es H k q i ∧ (0 ≤ i ∧ i < vs) ∧ H i = none := by sorry
end PmG15

end
section
-- from 99g20
def RpS (N : pm_M) : List Int → Nat → Prop
  | [], w => w = 0
  | c :: s, w => ∃ q : Nat, w = q + 1 ∧ N 98 (q : Int) = c ∧ RpS N s q
theorem RpS.low {N N' : pm_M} : ∀ {s : List Int} {w : Nat}, (∀ i : Int, 0 ≤ i → i < w → N' 98 i = N 98 i) → RpS N s w → RpS N' s w := by sorry
theorem RpS.len {N : pm_M} : ∀ {s : List Int} {w : Nat}, RpS N s w → s.length = w := by sorry
section PmG20
variable {d : Nat} {Q : Option Value → pm_S → Prop} {N : pm_M} {Rf : Nat → Nat → Nat} {K L : Nat → Nat} {n s0 : Nat} {i wt : Int} {m w : Nat} {s : List Int}
end PmG20

end
section
-- from 99g21
def OR (N : pm_M) (o : List Int) : Prop := ∀ i : Nat, i < o.length → o[i]? = some (N 99 i)
section PmG21
variable {d : Nat} {Q : Option Value → pm_S → Prop} {N : pm_M} {Rf : Nat → Nat → Nat} {K L : Nat → Nat} {n s0 : Nat} {a b vs es : Nat} {H : Int → Option Ty}
end PmG21

end
section
-- from 99h01
def pz (z : Nat) : Prop := z = 8 ∨ z = 16 ∨ z = 32 ∨ z = 64 ∨ z = 128 ∨ z = 256 ∨ z = 512 ∨ z = 1024
def RG (o lo hi : Nat) (Rf : Nat → Nat → Nat) (K L : Nat → Nat) (n z : Nat) : Prop := (∀ f, f < 4 → pm_Ar K L n (Rf o f) 0 z) ∧ (∀ f, f < 4 → Rf o f = o + 1 + f ∨ 100 ≤ Rf o f) ∧ (∀ f g, f < 4 → g < 4 → Rf o f = Rf o g → f = g) ∧ lo ≤ z ∧ z ≤ hi ∧ (pz z ∨ z = hi)
def GG (o : Nat) (M : pm_M) (Rf : Nat → Nat → Nat) (K L : Nat → Nat) (n z m j : Nat) (M' : pm_M) (Rf' : Nat → Nat → Nat) (K' L' : Nat → Nat) (n' : Nat) : Prop := pm_G Rf' K' L' n' ∧ n' = n + j ∧ (∀ p, p ≤ n → K' p = K p ∧ L' p = L p) ∧ (∀ p, p ≤ n → ∀ i, M' p i = M p i) ∧ (∀ p, p ≤ n → ∀ g, ¬ (p = o ∧ g < j) → Rf' p g = Rf p g) ∧ (∀ g, g < j → Rf' o g = n + 1 + g ∧ K' (n + 1 + g) = 0 ∧ L' (n + 1 + g) = m ∧ ∀ i : Int, 0 ≤ i → i < z → M' (n + 1 + g) i = M (Rf o g) i) ∧ ∀ p i, R32 (M' p i)
section PmC33
variable {d : Nat} {Q : Option Value → pm_S → Prop} {M N : pm_M} {Rf : Nat → Nat → Nat} {K L : Nat → Nat} {n s : Nat}
end PmC33

end
section
-- from 99h02
def MR (X : Nat) (Rf : Nat → Nat → Nat) (K L : Nat → Nat) (n zf zv zr : Nat) : Prop := pm_G Rf K L n ∧ RG 43 8 1464 Rf K L n zf ∧ RG 51 16 1220 Rf K L n zv ∧ RmI Rf K L n zr ∧ ((∀ f g, f < 4 → g < 4 → Rf 43 f ≠ Rf 51 g) ∧ ∀ f g, f < 5 → g < 4 → Rf 6 f ≠ Rf 43 g ∧ Rf 6 f ≠ Rf 51 g) ∧ Rf 43 8 = X ∧ (X = 16 ∨ X = 23)
def WMc (p : Nat) (i : Int) : Prop := (p = 43 ∧ 9 ≤ i ∧ i ≤ 16) ∨ (p = 51 ∧ i = 4) ∨ (48 ≤ p ∧ p ≤ 50)
def MX (X : Nat) (M : pm_M) (Rf : Nat → Nat → Nat) (K L : Nat → Nat) (n s zf zv zr : Nat) (M' : pm_M) (Rf' : Nat → Nat → Nat) (K' L' : Nat → Nat) (n' s' zf' zv' : Nat) : Prop := MR X Rf' K' L' n' zf' zv' zr ∧ (n ≤ n' ∧ zf ≤ zf' ∧ zv ≤ zv' ∧ n' + zf + zv ≤ n + zf' + zv' ∧ s' + 25 * (zf + zv) ≤ s + 25 * (zf' + zv')) ∧ (∀ p, p ≤ n → K' p = K p ∧ L' p = L p) ∧ (∀ p, p ≤ n → ∀ g, ¬ (p = 43 ∧ g < 4) → ¬ (p = 51 ∧ g < 4) → Rf' p g = Rf p g) ∧ (∀ g, g < 4 → (Rf' 43 g = Rf 43 g ∨ n < Rf' 43 g) ∧ (Rf' 51 g = Rf 51 g ∨ n < Rf' 51 g)) ∧ (∀ p, p ≤ n → (∀ g, g < 4 → p ≠ Rf 43 g ∧ p ≠ Rf 51 g) → ∀ i, ¬ WMc p i → M' p i = M p i) ∧ ∀ p i, R32 (M' p i)
section PmH2
variable {X : Nat} {M : pm_M} {Rf : Nat → Nat → Nat} {K L : Nat → Nat} {n s zf zv zr : Nat} {M' : pm_M} {Rf' : Nat → Nat → Nat} {K' L' : Nat → Nat} {n' s' zf' zv' : Nat} {M2 : pm_M} {R2 : Nat → Nat → Nat} {K2 L2 : Nat → Nat} {n2 s2 zf2 zv2 : Nat}
theorem MX.trans (h : MX X M Rf K L n s zf zv zr M' Rf' K' L' n' s' zf' zv') (h2 : MX X M' Rf' K' L' n' s' zf' zv' zr M2 R2 K2 L2 n2 s2 zf2 zv2) : MX X M Rf K L n s zf zv zr M2 R2 K2 L2 n2 s2 zf2 zv2 := by sorry
theorem MR.low (h : MR X Rf K L n zf zv zr) {p : Nat} (hp : p ≤ 43 ∨ (48 ≤ p ∧ p ≤ 51) ∨ (56 ≤ p ∧ p < 100)) : ∀ g, g < 4 → p ≠ Rf 43 g ∧ p ≠ Rf 51 g := by sorry
theorem MX.set {p : Nat} {i v : Int} (h : MX X M Rf K L n s zf zv zr M' Rf' K' L' n' s' zf' zv') (hw : WMc p i) (hv : R32 v) : MX X M Rf K L n s zf zv zr (mset M' p i v) Rf' K' L' n' s' zf' zv' := by sorry
def cvw (M : pm_M) (Rf : Nat → Nat → Nat) : pm_M := fun p i => if 94 ≤ p ∧ p ≤ 97 then M (Rf 43 (p - 94)) i else if 90 ≤ p ∧ p ≤ 93 then M (Rf 51 (p - 90)) i else if 87 ≤ p ∧ p ≤ 89 then M (p - 39) i else M p i
theorem GG.mx {o zz m : Nat} (ho : o = 43 ∨ o = 51) (h : MR X Rf K L n zf zv zr) (hz : zz = (if o = 43 then zf else zv)) (hm : m = min (2 * zz) (if o = 43 then 1464 else 1220)) (hl : zz < m) (g : GG o M Rf K L n zz m 4 M' Rf' K' L' (n + 4)) : MX X M Rf K L n s zf zv zr M' Rf' K' L' (n + 4) (s + m + m + m + m) (if o = 43 then m else zf) (if o = 43 then zv else m) ∧ (∀ (p : Nat) (i : Int), (94 ≤ p ∧ p ≤ 97 → 0 ≤ i ∧ i < zf) → (90 ≤ p ∧ p ≤ 93 → 0 ≤ i ∧ i < zv) → p < 98 → cvw M' Rf' p i = cvw M Rf p i) := by sorry
end PmH2

end
section
-- from 99h03
def LoP (p : Nat) : Prop := p ≤ 43 ∨ p = 51 ∨ (87 ≤ p ∧ p < 98)
section PmH3
variable {d : Nat} {Q : Option Value → pm_S → Prop} {X : Nat} {M : pm_M} {Rf : Nat → Nat → Nat} {K L : Nat → Nat} {n s zf zv zr : Nat}
end PmH3

end
section
-- from 99h04
def vN : Ty → Nat
  | .nest _ (.tag k (.tag _ (.append x (.append y z)))) => (if k = 6 ∨ k = 8 ∨ k = 10 then 1 else 0) + (vN x + (vN y + vN z))
  | _ => 0
def NVc (V : pm_M) (X cnt F : Nat) (t : Ty) (j : Int) : Prop := CNd V X 0 (cnt : Int) (fun _ _ => True) F t j ∧ (∃ D sc, TWf F D sc t) ∧ (vN t ≤ 20 ∧ pnd t ≤ 60) ∧ F ≤ 24
def ECe (V : pm_M) (X cnt sc : Nat) (H : Int → Option Ty) : Ty → Int → Prop
  | .nest p (.append v r), e => (0 ≤ e ∧ e < sc) ∧ (0 ≤ V 87 e ∧ V 87 e < cnt) ∧ V (X + 2) (V 87 e) = p ∧ H (V 88 e) = some v ∧ V 89 e < e ∧ ECe V X cnt sc H r (V 89 e)
  | .nil, e => e = -1
  | _, _ => False
def VCk (V : pm_M) (X cnt sc : Nat) (H : Int → Option Ty) (i : Int) (v : Ty) : Prop := (∃ F t ρ, v = vC t ρ ∧ (nKd t = 6 ∨ nKd t = 8) ∧ NVc V X cnt F t (V 90 i) ∧ ECe V X cnt sc H ρ (V 91 i)) ∨ (∃ m x y z, v = vR m x y z ∧ m < 8 ∧ (0 ≤ V 90 i ∧ V 90 i < cnt) ∧ V (X + 1) (V 90 i) = 5 ∧ V (X + 3) (V 90 i) = (m : Int) ∧ ∀ g : Nat, g < 3 → bit m g = true → H (V (91 + g) i) = some (rP v g))
def HPk (V : pm_M) (X cnt vs sc : Nat) (H : Int → Option Ty) : Prop := ∀ i v, H i = some v → (0 ≤ i ∧ i < vs) ∧ VCk V X cnt sc H i v
def FrK (V : pm_M) (X cnt sc st : Nat) (H : Int → Option Ty) (f : Fr) (k : Nat) (lim : Int) : Prop := (nKd f.1 = 7 ∨ nKd f.1 = 9 ∨ nKd f.1 = 10 ∨ nKd f.1 = 11) ∧ (∃ F, NVc V X cnt F f.1 (V 94 k) ∧ k + F ≤ 24 * (st + 1)) ∧ ECe V X cnt sc H f.2.1 (V 95 k) ∧ (nKd f.1 = 7 → (f.2.2.2 = 0 → V 96 k = -1) ∧ (f.2.2.2 ≠ 0 → H (V 96 k) = some f.2.2.1)) ∧ (nKd f.1 = 10 → (f.2.2.2 < 3 ∧ bit (nMk f.1) f.2.2.2 = true) ∧ V 97 k = (f.2.2.2 : Int) ∧ (0 ≤ V 96 k ∧ V 96 k < lim) ∧ H (V 96 k) = none ∧ V 90 (V 96 k) = V 94 k ∧ (∃ x y z, f.2.2.1 = vR (nMk f.1) x y z) ∧ ∀ g : Nat, g < f.2.2.2 → bit (nMk f.1) g = true → H (V (91 + g) (V 96 k)) = some (rP f.2.2.1 g))
def FRk (V : pm_M) (X cnt sc st : Nat) (H : Int → Option Ty) : List Fr → Nat → Int → Prop
  | [], fr, _ => fr = 0
  | f :: k, fr, lim => ∃ q, fr = q + 1 ∧ FrK V X cnt sc st H f q lim ∧ FRk V X cnt sc st H k q (if nKd f.1 = 10 then V 96 (q : Int) else lim)
def BK (V : pm_M) (X cnt st vs sc fr zf zv : Nat) (H : Int → Option Ty) (k : List Fr) (pc : Nat) : Prop := (V 51 4 = (vs : Int) ∧ V 43 10 = (sc : Int) ∧ V 43 9 = (fr : Int) ∧ V 43 14 = 0 ∧ V 43 15 = (st : Int)) ∧ HPk V X cnt vs sc H ∧ (sc ≤ st ∧ st ≤ 60 ∧ vs ≤ zv ∧ fr ≤ zf ∧ vs + pc ≤ 20 * (st + 1)) ∧ FRk V X cnt sc st H k fr vs
def Kpk (V V' : pm_M) (X vs sc : Nat) (H : Int → Option Ty) : Prop := (∀ (p : Nat) (i : Int), X + 1 ≤ p → p ≤ X + 6 → V' p i = V p i) ∧ (∀ (p : Nat) (i : Int), 87 ≤ p → p ≤ 89 → 0 ≤ i → i < sc → V' p i = V p i) ∧ (∀ i : Int, 0 ≤ i → i < vs → V' 90 i = V 90 i) ∧ (∀ (i : Int) (g : Nat), H i ≠ none → g < 3 → V' (91 + g) i = V (91 + g) i)
section PmH4
variable {V V' : pm_M} {X cnt vs sc sc' st st' fr : Nat} {H H' : Int → Option Ty}
theorem HPk.up {vs' : Nat} {i : Int} {v : Ty} (k : Kpk V V' X vs sc H) (he : sc ≤ sc') (hv : vs ≤ vs') (hn : H i = none) (h : HPk V X cnt vs sc H) (hi : 0 ≤ i ∧ i < vs') (hc : VCk V' X cnt sc' (Hup H i v) i v) : HPk V' X cnt vs' sc' (Hup H i v) := by sorry
end PmH4

end
section
-- from 99h05
section PmH5
variable {V V' : pm_M} {X cnt F vs sc sc' st st' fr zf zv : Nat} {H H' : Int → Option Ty} {t : Ty} {j : Int}
theorem NVc.body (h : NVc V X cnt F t j) (hk : nKd t = 6 ∨ nKd t = 8) : NVc V X cnt (F - 1) (nY t) (V (X + 5) j) := by sorry
theorem NVc.part (h : NVc V X cnt F t j) (hk : nKd t = 10) {g : Nat} (hg : g < 3) (hb : bit (nMk t) g = true) : NVc V X cnt (F - 1) (nP t g) (V (X + 4 + g) j) := by sorry
end PmH5
section PmH5b
variable {d : Nat} {Q : Option Value → pm_S → Prop} {X cnt : Nat} {M : pm_M} {Rf : Nat → Nat → Nat} {K L : Nat → Nat} {n s zf zv zr : Nat} {sc : Nat} {H : Int → Option Ty}
end PmH5b

end
section
-- from 99h08
section PmH8
variable {V V' : pm_M} {X cnt st vs sc fr zf zv zf' zv' pc pc' : Nat} {H : Int → Option Ty} {k : List Fr}
theorem BK.val {v : Ty} (bk : BK V X cnt st vs sc fr zf zv H k pc) (hX : X = 16 ∨ X = 23) (vk : ∀ (p : Nat) (i : Int), LoP p → (90 ≤ p ∧ p ≤ 93 → 0 ≤ i ∧ i < vs) → (94 ≤ p ∧ p ≤ 97 → 0 ≤ i ∧ i < fr) → p ≠ 43 → p ≠ 51 → V' p i = V p i) (e4 : V' 51 4 = ((vs + 1 : Nat) : Int)) (e9 : V' 43 9 = V 43 9) (e10 : V' 43 10 = V 43 10) (e14 : V' 43 14 = 0) (e15 : V' 43 15 = V 43 15) (hc : VCk V' X cnt sc (Hup H vs v) (vs : Int) v) (hp : pc' + 1 ≤ pc) (z1 : zf ≤ zf') (z2 : vs < zv') : BK V' X cnt st (vs + 1) sc fr zf' zv' (Hup H vs v) k pc' := by sorry
end PmH8
section PmH8b
variable {d : Nat} {Q : Option Value → pm_S → Prop} {X cnt : Nat} {M : pm_M} {Rf : Nat → Nat → Nat} {K L : Nat → Nat} {n s zf zv zr st : Nat} {t ρ : Ty} {k : List Fr}
end PmH8b

end
section
-- from 99h10
section PmH10
variable {d : Nat} {Q : Option Value → pm_S → Prop} {X cnt : Nat} {M : pm_M} {Rf : Nat → Nat → Nat} {K L : Nat → Nat} {n s zf zv zr st : Nat}
end PmH10
section PmH10b
variable {V V' : pm_M} {X cnt st st' vs sc fr zf zv zf' zv' pc pc' q : Nat} {H : Int → Option Ty} {f : Fr} {k : List Fr}
theorem HPk.rec {V : pm_M} {i : Int} {m : Nat} {x : Ty} (h : HPk V X cnt vs sc H) (hv : H i = some (.tag m x)) : (0 ≤ i ∧ i < vs) ∧ m < 8 ∧ (0 ≤ V 90 i ∧ V 90 i < cnt) ∧ V (X + 1) (V 90 i) = 5 ∧ V (X + 3) (V 90 i) = (m : Int) ∧ (∃ a b c, Std.Format.tag m x = vR m a b c) ∧ ∀ g : Nat, g < 3 → bit m g = true → H (V (91 + g) i) = some (rP (.tag m x) g) := by sorry
end PmH10b
section PmH10c
variable {d : Nat} {Q : Option Value → pm_S → Prop} {X cnt : Nat} {M : pm_M} {Rf : Nat → Nat → Nat} {K L : Nat → Nat} {n s zf zv zr st vs sc q g : Nat} {H : Int → Option Ty} {t ρ w v : Ty} {k : List Fr}
end PmH10c

end
section
-- from 99h16
def TXw (w w' u : List Int) : Prop := (w' = w ++ u ∨ (100 < w'.length ∧ 100 < (w ++ u).length)) ∧ w.length ≤ w'.length
theorem TXw.one (w u : List Int) : TXw w (w ++ u) u := by sorry
section PmH16
variable {d : Nat} {Q : Option Value → pm_S → Prop} {X cnt vs sc : Nat} {M : pm_M} {Rf : Nat → Nat → Nat} {K L : Nat → Nat} {n s zf zv zr : Nat} {H : Int → Option Ty}
end PmH16

end
section
-- from 99i01
section PmI1
variable {N N' : pm_M} {a b : Nat}
theorem NV.sch {t : Ty} {j : Nat} {s : Int} {ch : List (Nat × Int × Nat)} (h : NV N a b t j s ch) : SCh 0 N a b s ch := by sorry
end PmI1

end
section
-- from 99i02
def txs (tx : Nat → Int) (ln : Nat) (c : Int) : Nat → Int := fun i => if i = ln then c else tx i
theorem CT.add {M : pm_M} {tx : Nat → Int} {ln : Nat} {c : Int} (h : CT M tx ln) (hl : ln < 60) (c0 : 32 ≤ c) (c1 : c ≤ 126) : CT (mset (mset M 2 (ln : Int) c) 1 8 ((ln : Int) + 1)) (txs tx ln c) (ln + 1) := by sorry
theorem MT.add {M : pm_M} {tx : Nat → Int} {ln : Nat} {c : Int} (h : MT M tx ln) (hl : ln < 60) (c0 : 32 ≤ c) (c1 : c ≤ 126) : MT (mset (mset M 57 (ln : Int) c) 56 0 ((ln : Int) + 1)) (txs tx ln c) (ln + 1) := by sorry
section PmI2
variable {d : Nat} {Q : Option Value → pm_S → Prop} {M : pm_M} {Rf : Nat → Nat → Nat} {K L : Nat → Nat} {n s ln : Nat} {tx : Nat → Int}
end PmI2

end
section
-- from 99i04
def ok9 (Y p : Nat) (i : Int) : Prop := p < 100 ∧ p ≠ 5 ∧ ¬ (p = 1 ∧ 11 ≤ i ∧ i ≤ 14) ∧ ¬ (p = 4 ∧ i = 1) ∧ ¬ (Y + 1 ≤ p ∧ p ≤ Y + 6) ∧ p ≠ 43 ∧ ¬ (48 ≤ p ∧ p ≤ 55)
section PmI4
variable {M M' : pm_M} {Rf Rf' : Nat → Nat → Nat} {K L K' L' : Nat → Nat} {n s n' s' X Y Z z z' zf zv zf' zv' ln : Nat} {tx : Nat → Int} {T : Int → Option Ty} {w : List Int} {E : Nat → Int → Prop}
end PmI4
section PmI4b
variable {σ : pm_S}
end PmI4b

end
section
-- from 99j01
def mis (m : Nat) : Nat := if m = 0 then 0 else 3 - ((if bit m 0 then 1 else 0) + (if bit m 1 then 1 else 0) + (if bit m 2 then 1 else 0))
def pmz (q : Bool → Nat → Nat) : Bool → List Nat → Ty → Nat
  | d, ω, .tag c (.append a b) => if c = 2 then q d 2 + pmz q d ((q true 3 + pmz q true ω a) :: ω) b else if c = 1 then q d 1 + (pmz q (!d) ω a + pmz q d ω b) else (q d 1 + q d 5 * mis (c - 8)) + (pmz q d ω a + pmz q d ω b)
  | d, ω, .tag c .nil => if 16 ≤ c then (if d then vw ω (c - 16) else q d 4) else q d 0
  | d, ω, .append a b => pmz q d ω a + pmz q d ω b
  | _, _, _ => 0
section PmJ1
variable {q : Bool → Nat → Nat} {d : Bool}
theorem pmz_top (ω : List Nat) : pmz q d ω tTop = q d 0 := by sorry
theorem pmz_var (ω : List Nat) (k : Nat) : pmz q d ω (tVar k) = if d then vw ω k else q d 4 := by sorry
theorem pmz_vt (ω : List Nat) (k : Nat) : pmz q true ω (tVar k) = vw ω k := by sorry
theorem pmz_vf (ω : List Nat) (k : Nat) : pmz q false ω (tVar k) = q false 4 := by sorry
theorem pmz_fun (ω : List Nat) (a b : Ty) : pmz q d ω (tFun a b) = q d 1 + (pmz q (!d) ω a + pmz q d ω b) := by sorry
theorem pmz_all (ω : List Nat) (a b : Ty) : pmz q d ω (tAll a b) = q d 2 + pmz q d ((q true 3 + pmz q true ω a) :: ω) b := by sorry
theorem pmz_rec (ω : List Nat) {m : Nat} (x y z : Ty) : pmz q d ω (tRec m x y z) = (q d 1 + q d 5 * mis m) + (pmz q d ω x + (pmz q d ω y + pmz q d ω z)) := by sorry
theorem pmz_nil (ω : List Nat) : pmz q d ω .nil = 0 := by sorry
end PmJ1
def oq (q : Bool → Nat → Nat) : List Ty → List Nat
  | [] => []
  | b :: Γ => (q true 3 + pmz q true (oq q Γ) b) :: oq q Γ
theorem oq_len (q : Bool → Nat → Nat) : ∀ Γ : List Ty, (oq q Γ).length = Γ.length := by sorry
theorem pmz_lft (q : Bool → Nat → Nat) (ν ω : List Nat) : ∀ (t : Ty) (d : Bool) (μ : List Nat), ok (ω.length + μ.length) t = true → pmz q d (μ ++ (ν ++ ω)) (lft ω.length ν.length t) = pmz q d (μ ++ ω) t := by sorry
theorem pmz_bnd (q : Bool → Nat → Nat) : ∀ (Γ : List Ty) (k : Nat), okc Γ → k < Γ.length → ∃ ν : List Nat, ∃ ω : List Nat, oq q Γ = ν ++ ω ∧ ω.length = k ∧ ok k (bnd Γ k) = true ∧ vw (oq q Γ) k = q true 3 + pmz q true ω (bnd Γ k) := by sorry
theorem pmz_expose (q : Bool → Nat → Nat) {Γ : List Ty} {k : Nat} (hc : okc Γ) (hk : k < Γ.length) : q true 3 + pmz q true (oq q Γ) (lft k (Γ.length - k) (bnd Γ k)) = vw (oq q Γ) k := by sorry
theorem pmz_pos {q : Bool → Nat → Nat} (h0 : ∀ d, 1 ≤ q d 0) (h1 : ∀ d, 1 ≤ q d 1) (h2 : ∀ d, 1 ≤ q d 2) (h4 : 1 ≤ q false 4) {t : Ty} {d : Bool} {ω : List Nat} (h : ok ω.length t = true) (hv : ∀ k, k < ω.length → 1 ≤ vw ω k) : 1 ≤ pmz q d ω t := by sorry
theorem oq_pos {q : Bool → Nat → Nat} (h0 : ∀ d, 1 ≤ q d 0) (h1 : ∀ d, 1 ≤ q d 1) (h2 : ∀ d, 1 ≤ q d 2) (h4 : 1 ≤ q false 4) : ∀ {Γ : List Ty}, okc Γ → ∀ k, k < Γ.length → 1 ≤ vw (oq q Γ) k := by sorry
end
section
-- from 99j02
def qg : Bool → Nat → Nat := fun _ i => if i = 3 then 0 else 1
theorem qg_pos {Γ : List Ty} {t : Ty} {d : Bool} (hc : okc Γ) (h : ok Γ.length t = true) : 1 ≤ pmz qg d (oq qg Γ) t := by sorry
theorem qg_expose {Γ : List Ty} {k : Nat} (hc : okc Γ) (hk : k < Γ.length) : pmz qg true (oq qg Γ) (lft k (Γ.length - k) (bnd Γ k)) = vw (oq qg Γ) k := by sorry
theorem mis_sum : ∀ m, m < 8 → m ≠ 0 → (if bit m 0 = true then 0 else 1) + ((if bit m 1 = true then 0 else 1) + (if bit m 2 = true then 0 else 1)) = mis m := by sorry
theorem lset_and : ∀ m, m < 8 → ∀ m', m' < 8 → ∀ i, i < 3 → bit (lset 0 m m') i = true → bit m i = true ∧ bit m' i = true := by sorry
theorem bel_rec0 {Γ : List Ty} {m : Nat} {x y z x' y' z' : Ty} (hm : m < 8) (h : tok (Γ, tRec m x y z, tRec 0 x' y' z')) : bel Γ (tRec m x y z) (tRec 0 x' y' z') = true := by sorry
theorem gcs_of_bel {w : Nat} {Γ : List Ty} {S T : Ty} (h : bel Γ S T = true ∨ bel Γ T S = true) : gcs (w, Γ, S, T) = [] := by sorry
def ugS (z : Gz) : Nat := pmz qg (decide (z.1 = 0)) (oq qg z.2.1) z.2.2.1
theorem gzl_gS {w : Nat} (w1 : w ≤ 1) {Γ : List Ty} {m m' i : Nat} {X Y : Ty} (hm : m < 8) (hm' : m' < 8) (hi : i < 3) (hc : okc Γ) (hX : okl Γ.length m i X) (hY : okl Γ.length m' i Y) : sgl (fun y => if y.1 = 2 then 1 else ugS y) (gzl w Γ (lset w m m') m m' i X Y) ≤ pmz qg (decide (w = 0)) (oq qg Γ) X + (if w = 0 then 0 else if bit m i = true then 0 else 1) := by sorry
theorem gn_S {z : Gz} (h : tok z.2) (w1 : z.1 ≤ 1) : gn z ≤ ugS z := by sorry
def ugT (z : Gz) : Nat := pmz qg (decide (z.1 = 0)) (oq qg z.2.1) z.2.2.2
theorem gzl_gT {w : Nat} (w1 : w ≤ 1) {Γ : List Ty} {m m' i : Nat} {X Y : Ty} (hm : m < 8) (hm' : m' < 8) (hi : i < 3) (hc : okc Γ) (hX : okl Γ.length m i X) (hY : okl Γ.length m' i Y) : sgl (fun y => if y.1 = 2 then 1 else ugT y) (gzl w Γ (lset w m m') m m' i X Y) ≤ pmz qg (decide (w = 0)) (oq qg Γ) Y + (if w = 0 then 0 else if bit m' i = true then 0 else 1) := by sorry
theorem gn_T {z : Gz} (h : tok z.2) (w1 : z.1 ≤ 1) : gn z ≤ ugT z := by sorry
end
section
-- from 99j03
def chn (χ : List Nat) (t : Ty) : Nat := if 16 ≤ hd t then vw χ (hd t - 16) else 0
def cl : List Ty → List Nat
  | [] => []
  | b :: Γ => (1 + chn (cl Γ) b) :: cl Γ
theorem cl_len : ∀ Γ : List Ty, (cl Γ).length = Γ.length := by sorry
def cbd (e : Nat) : List Nat → Ty → Prop
  | χ, .tag c (.append a b) => if c = 2 then cbd e χ a ∧ 1 + chn χ a ≤ e ∧ cbd e ((1 + chn χ a) :: χ) b else cbd e χ a ∧ cbd e χ b
  | χ, .append a b => cbd e χ a ∧ cbd e χ b
  | _, _ => True
section PmJ3
variable {e : Nat}
theorem cbd_top (χ : List Nat) : cbd e χ tTop ↔ True := by sorry
theorem cbd_var (χ : List Nat) (k : Nat) : cbd e χ (tVar k) ↔ True := by sorry
theorem cbd_nil (χ : List Nat) : cbd e χ .nil ↔ True := by sorry
theorem cbd_fun (χ : List Nat) (a b : Ty) : cbd e χ (tFun a b) ↔ cbd e χ a ∧ cbd e χ b := by sorry
theorem cbd_all (χ : List Nat) (a b : Ty) : cbd e χ (tAll a b) ↔ cbd e χ a ∧ 1 + chn χ a ≤ e ∧ cbd e ((1 + chn χ a) :: χ) b := by sorry
theorem cbd_rec (χ : List Nat) {m : Nat} (x y z : Ty) : cbd e χ (tRec m x y z) ↔ cbd e χ x ∧ cbd e χ y ∧ cbd e χ z := by sorry
end PmJ3
theorem chn_lft (ν ω : List Nat) {t : Ty} {μ : List Nat} (h : ok (ω.length + μ.length) t = true) : chn (μ ++ (ν ++ ω)) (lft ω.length ν.length t) = chn (μ ++ ω) t := by sorry
theorem cbd_lft (e : Nat) (ν ω : List Nat) : ∀ (t : Ty) (μ : List Nat), ok (ω.length + μ.length) t = true → (cbd e (μ ++ (ν ++ ω)) (lft ω.length ν.length t) ↔ cbd e (μ ++ ω) t) := by sorry
def cbc (e : Nat) : List Ty → Prop
  | [] => True
  | b :: Γ => (cbd e (cl Γ) b ∧ 1 + chn (cl Γ) b ≤ e) ∧ cbc e Γ
theorem cl_bnd : ∀ (e : Nat) (Γ : List Ty) (k : Nat), okc Γ → cbc e Γ → k < Γ.length → ∃ ν : List Nat, ∃ ω : List Nat, cl Γ = ν ++ ω ∧ ω.length = k ∧ ok k (bnd Γ k) = true ∧ vw (cl Γ) k = 1 + chn ω (bnd Γ k) ∧ cbd e ω (bnd Γ k) ∧ vw (cl Γ) k ≤ e := by sorry
theorem cl_expose {e : Nat} {Γ : List Ty} {k : Nat} (hc : okc Γ) (hb : cbc e Γ) (hk : k < Γ.length) : 1 + chn (cl Γ) (lft k (Γ.length - k) (bnd Γ k)) = vw (cl Γ) k ∧ cbd e (cl Γ) (lft k (Γ.length - k) (bnd Γ k)) ∧ vw (cl Γ) k ≤ e := by sorry
theorem stp_cases {Γ : List Ty} {S T : Ty} (h : tok (Γ, S, T)) : stp Γ S T = none ∨ (stp Γ S T = some [] ∧ rst S T = 0) ∨ (∃ k, k < Γ.length ∧ S = tVar k ∧ hd T ≠ 0 ∧ stp Γ S T = some [(Γ, lft k (Γ.length - k) (bnd Γ k), T)] ∧ rst S T = 1) ∨ (∃ m x y z m' x' y' z', m < 8 ∧ m' < 8 ∧ S = tRec m x y z ∧ T = tRec m' x' y' z' ∧ stp Γ S T = some (stl Γ m' 2 z z' ++ (stl Γ m' 1 y y' ++ stl Γ m' 0 x x')) ∧ rst S T = 0) ∨ (∃ a b a' b', S = tFun a b ∧ T = tFun a' b' ∧ stp Γ S T = some [(Γ, b, b'), (Γ, a', a)] ∧ rst S T = 0) ∨ (∃ a b b', S = tAll a b ∧ T = tAll a b' ∧ stp Γ S T = some [(a :: Γ, b, b')] ∧ rst S T = 1) := by sorry
end
section
-- from 99j04
def qu (e : Nat) (d : Bool) (i : Nat) : Nat := if d then (if i = 2 ∨ i = 3 then 1 else 0) else (if i = 1 ∨ i = 4 then e else if i = 2 then 1 + e else 0)
def TB (e : Nat) (z : Tsk) : Prop := tok z ∧ cbc e z.1 ∧ cbd e (cl z.1) z.2.1 ∧ cbd e (cl z.1) z.2.2
theorem qu_neg {e : Nat} {ω : List Nat} {D : Nat} {t : Ty} (h : ok D t = true) (h0 : hd t ≠ 0) : e ≤ pmz (qu e) false ω t := by sorry
theorem chn_le {e : Nat} {Γ : List Ty} {S : Ty} (hc : okc Γ) (hb : cbc e Γ) (hS : ok Γ.length S = true) : chn (cl Γ) S ≤ e := by sorry
theorem trf_top (f : Nat) {Γ : List Ty} {S T : Ty} (h0 : hd T = 0) : trf f (Γ, S, T) = 0 := by sorry
theorem trf_two {e : Nat} : ∀ (f : Nat) (Γ : List Ty) (S T : Ty), TB e (Γ, S, T) → trf f (Γ, S, T) ≤ pmz (qu e) true (oq (qu e) Γ) S ∧ (hd T ≠ 0 → trf f (Γ, S, T) + e ≤ chn (cl Γ) S + pmz (qu e) false (oq (qu e) Γ) T) := by sorry
theorem trx_S {e : Nat} {Γ : List Ty} {S T : Ty} (h : TB e (Γ, S, T)) : trx (Γ, S, T) ≤ pmz (qu e) true (oq (qu e) Γ) S := by sorry
theorem trx_T {e : Nat} {Γ : List Ty} {S T : Ty} (h : TB e (Γ, S, T)) : trx (Γ, S, T) ≤ pmz (qu e) false (oq (qu e) Γ) T := by sorry
end
section
-- from 99j05
def vlr (b : Bool) (e x : Nat) : Nat := if b then max e (1 + x) else 1 + max e x
def nvr (b : Bool) (e y : Nat) : Nat := if b then max e y else e + y
def mrz (b : Bool) (e : Nat) : Bool → List Nat → List Nat → Ty → Nat
  | d, ω, υ, .tag c (.append s t) => if c = 2 then (2 + e) + mrz b e d (vlr b e (mrz b e true ω υ s) :: ω) ((1 + pmz (qu e) true υ s) :: υ) t else if c = 1 then (1 + e) + (mrz b e (!d) ω υ s + mrz b e d ω υ t) else (1 + e) + (mrz b e d ω υ s + mrz b e d ω υ t)
  | d, ω, υ, .tag c .nil => if 16 ≤ c then (if d then vw ω (c - 16) else nvr b e (vw υ (c - 16))) else 0
  | d, ω, υ, .append s t => mrz b e d ω υ s + mrz b e d ω υ t
  | _, _, _, _ => 0
section PmJ5
variable {b d : Bool} {e : Nat}
theorem mrz_top (ω υ : List Nat) : mrz b e d ω υ tTop = 0 := by sorry
theorem mrz_var (ω υ : List Nat) (k : Nat) : mrz b e d ω υ (tVar k) = if d then vw ω k else nvr b e (vw υ k) := by sorry
theorem mrz_vt (ω υ : List Nat) (k : Nat) : mrz b e true ω υ (tVar k) = vw ω k := by sorry
theorem mrz_vf (ω υ : List Nat) (k : Nat) : mrz b e false ω υ (tVar k) = nvr b e (vw υ k) := by sorry
theorem mrz_fun (ω υ : List Nat) (s t : Ty) : mrz b e d ω υ (tFun s t) = (1 + e) + (mrz b e (!d) ω υ s + mrz b e d ω υ t) := by sorry
theorem mrz_all (ω υ : List Nat) (s t : Ty) : mrz b e d ω υ (tAll s t) = (2 + e) + mrz b e d (vlr b e (mrz b e true ω υ s) :: ω) ((1 + pmz (qu e) true υ s) :: υ) t := by sorry
theorem mrz_rec (ω υ : List Nat) {m : Nat} (x y z : Ty) : mrz b e d ω υ (tRec m x y z) = (1 + e) + (mrz b e d ω υ x + (mrz b e d ω υ y + mrz b e d ω υ z)) := by sorry
theorem mrz_nil (ω υ : List Nat) : mrz b e d ω υ .nil = 0 := by sorry
end PmJ5
def oz (b : Bool) (e : Nat) : List Ty → List Nat
  | [] => []
  | s :: Γ => vlr b e (mrz b e true (oz b e Γ) (oq (qu e) Γ) s) :: oz b e Γ
theorem oz_len (b : Bool) (e : Nat) : ∀ Γ : List Ty, (oz b e Γ).length = Γ.length := by sorry
theorem mrz_lft (b : Bool) (e : Nat) (ν ω ν' υ : List Nat) (l1 : ν'.length = ν.length) (l2 : υ.length = ω.length) : ∀ (t : Ty) (d : Bool) (μ μ' : List Nat), μ'.length = μ.length → ok (ω.length + μ.length) t = true → mrz b e d (μ ++ (ν ++ ω)) (μ' ++ (ν' ++ υ)) (lft ω.length ν.length t) = mrz b e d (μ ++ ω) (μ' ++ υ) t := by sorry
theorem oz_bnd (b : Bool) (e : Nat) : ∀ (Γ : List Ty) (k : Nat), okc Γ → k < Γ.length → ∃ ν ω ν' υ : List Nat, oz b e Γ = ν ++ ω ∧ oq (qu e) Γ = ν' ++ υ ∧ ω.length = k ∧ υ.length = k ∧ ok k (bnd Γ k) = true ∧ vw (oz b e Γ) k = vlr b e (mrz b e true ω υ (bnd Γ k)) := by sorry
theorem oz_expose (b : Bool) (e : Nat) {Γ : List Ty} {k : Nat} (hc : okc Γ) (hk : k < Γ.length) : vw (oz b e Γ) k = vlr b e (mrz b e true (oz b e Γ) (oq (qu e) Γ) (lft k (Γ.length - k) (bnd Γ k))) := by sorry
theorem qu_mrz {b : Bool} {e : Nat} (e1 : 1 ≤ e) : ∀ (t : Ty) (d : Bool) (ω υ : List Nat), ω.length = υ.length → ok ω.length t = true → (∀ k, k < ω.length → (if b then vw υ k ≤ vw ω k ∧ e ≤ vw ω k else vw υ k + e ≤ vw ω k)) → (pmz (qu e) true υ t ≤ mrz b e d ω υ t ∧ pmz (qu e) false υ t ≤ mrz b e d ω υ t) ∧ (hd t ≠ 0 → hd t < 16 → pmz (qu e) true υ t + 1 + e ≤ mrz b e d ω υ t ∧ pmz (qu e) false υ t + 1 ≤ mrz b e d ω υ t) := by sorry
end
section
-- from 99j06
theorem ozq {b : Bool} {e : Nat} (e1 : 1 ≤ e) : ∀ {Γ : List Ty}, okc Γ → ∀ k, k < (oz b e Γ).length → (if b then vw (oq (qu e) Γ) k ≤ vw (oz b e Γ) k ∧ e ≤ vw (oz b e Γ) k else vw (oq (qu e) Γ) k + e ≤ vw (oz b e Γ) k) := by sorry
theorem qu_rows {b : Bool} {e : Nat} (e1 : 1 ≤ e) {Γ : List Ty} {t : Ty} (d : Bool) (hc : okc Γ) (h : ok Γ.length t = true) : (pmz (qu e) true (oq (qu e) Γ) t ≤ mrz b e d (oz b e Γ) (oq (qu e) Γ) t ∧ pmz (qu e) false (oq (qu e) Γ) t ≤ mrz b e d (oz b e Γ) (oq (qu e) Γ) t) ∧ (hd t ≠ 0 → hd t < 16 → pmz (qu e) true (oq (qu e) Γ) t + 1 + e ≤ mrz b e d (oz b e Γ) (oq (qu e) Γ) t ∧ pmz (qu e) false (oq (qu e) Γ) t + 1 ≤ mrz b e d (oz b e Γ) (oq (qu e) Γ) t) := by sorry
theorem TB.gcs {e w : Nat} {Γ : List Ty} {S T : Ty} (h : TB e (Γ, S, T)) (w2 : w ≠ 2) (w3 : w ≤ 2) : ∀ y ∈ gcs (w, Γ, S, T), TB e y.2 ∧ y.1 ≤ 2 := by sorry
theorem chn_var (χ : List Nat) (k : Nat) : chn χ (tVar k) = vw χ k := by sorry
theorem chn_no {χ : List Nat} {t : Ty} (h : ¬ 16 ≤ hd t) : chn χ t = 0 := by sorry
theorem gro_bel {w : Nat} {Γ : List Ty} {S T : Ty} (h : bel Γ S T = true ∨ bel Γ T S = true) : gro (w, Γ, S, T) = 0 := by sorry
def urm (b : Bool) (e w : Nat) (Γ : List Ty) (t : Ty) : Nat := mrz b e (decide (w = 0)) (oz b e Γ) (oq (qu e) Γ) t
def urS (e : Nat) (z : Gz) : Nat := if hd z.2.2.1 = 0 ∨ 16 ≤ hd z.2.2.1 then urm true e z.1 z.2.1 z.2.2.1 else urm true e z.1 z.2.1 z.2.2.1 - e + chn (cl z.2.1) z.2.2.2
def urT (e : Nat) (z : Gz) : Nat := if hd z.2.2.2 = 0 then 0 else urm false e z.1 z.2.1 z.2.2.2 - e + chn (cl z.2.1) z.2.2.1
section PmJ6
variable {e w : Nat} {Γ : List Ty} {S T : Ty}
theorem urS_le (e1 : 1 ≤ e) (h : TB e (Γ, S, T)) : urS e (w, Γ, S, T) ≤ urm true e w Γ S := by sorry
theorem qu_one {k : Nat} (hc : okc Γ) (hk : k < Γ.length) : 1 ≤ vw (oq (qu e) Γ) k := by sorry
theorem urm_big (e1 : 1 ≤ e) (hc : okc Γ) (hT : ok Γ.length T = true) (h0 : hd T ≠ 0) : pmz (qu e) true (oq (qu e) Γ) T + e ≤ urm false e w Γ T ∧ 1 + e ≤ urm false e w Γ T := by sorry
theorem urT_le (e1 : 1 ≤ e) (h : TB e (Γ, S, T)) : urT e (w, Γ, S, T) ≤ urm false e w Γ T := by sorry
end PmJ6
theorem gzl_r {w : Nat} {f : Gz → Nat} {g : Ty → Nat} {Γ : List Ty} {m m' i : Nat} {X Y : Ty} (hm : m < 8) (hm' : m' < 8) (hi : i < 3) (w2 : w ≠ 2) (hf : bit m i = true → bit m' i = true → f (w, Γ, X, Y) ≤ g X) : sgl (fun y => if y.1 = 2 then 0 else f y) (gzl w Γ (lset w m m') m m' i X Y) ≤ g X := by sorry
theorem gm_rowsS {e : Nat} (e1 : 1 ≤ e) {z : Gz} (h : TB e z.2) (w1 : z.1 ≤ 1) : gm z ≤ urm true e z.1 z.2.1 z.2.2.1 := by sorry
theorem gm_rowsT {e : Nat} (e1 : 1 ≤ e) {z : Gz} (h : TB e z.2) (w1 : z.1 ≤ 1) : gm z ≤ urm false e z.1 z.2.1 z.2.2.2 := by sorry
end
section
-- from 99j08
def cch : List Ty → Nat
  | [] => 0
  | b :: Γ => (tch b + 4) + cch Γ
theorem rch_two {m : Nat} (h : m ≠ 0) (hm : m < 8) : 3 ≤ rch m := by sorry
theorem tch_pos {d : Nat} {t : Ty} (h : ok d t = true) : 1 ≤ tch t := by sorry
theorem hgt_tch : ∀ (n : Nat) (t : Ty) (ω : List Nat) (v : Nat), (flat t).length ≤ n → ok ω.length t = true → (∀ k, k < ω.length → vw ω k ≤ v) → 5 * hgt ω t ≤ 2 * tch t + 3 + 5 * v := by sorry
theorem oh_tch : ∀ {Γ : List Ty}, okc Γ → ∀ k, k < Γ.length → 5 * vw (oh Γ) k + 5 ≤ 2 * cch Γ := by sorry
theorem hgt_ctx {Γ : List Ty} {t : Ty} (hc : okc Γ) (h : ok Γ.length t = true) (hl : (flat t).length ≤ 16) (hx : cch Γ ≤ 56) : hgt (oh Γ) t ≤ 38 := by sorry
end
section
-- from 99j09
def nsc : Ty → Nat
  | .tag c (.append a b) => (if c = 2 then 1 else 0) + (nsc a + nsc b)
  | .append a b => nsc a + nsc b
  | _ => 0
theorem nsc_fun (a b : Ty) : nsc (tFun a b) = nsc a + nsc b := by sorry
theorem nsc_all (a b : Ty) : nsc (tAll a b) = 1 + (nsc a + nsc b) := by sorry
theorem nsc_rec {m : Nat} (x y z : Ty) : nsc (tRec m x y z) = nsc x + (nsc y + nsc z) := by sorry
theorem nsc_len : ∀ (n : Nat) (t : Ty) (d : Nat), (flat t).length ≤ n → ok d t = true → nsc t ≤ (flat t).length := by sorry
theorem rec_inj {m m' : Nat} {x y z x' y' z' : Ty} (e : tRec m x y z = tRec m' x' y' z') : m = m' ∧ x = x' ∧ y = y' ∧ z = z' := by sorry
theorem trf_refl : ∀ (f : Nat) (Γ : List Ty) (S : Ty), okc Γ → ok Γ.length S = true → trf f (Γ, S, S) ≤ nsc S := by sorry
theorem bel_refl : ∀ (n : Nat) (Γ : List Ty) (S : Ty), (flat S).length ≤ n → okc Γ → ok Γ.length S = true → bel Γ S S = true := by sorry
theorem gm_refl {w : Nat} {Γ : List Ty} {S : Ty} (hc : okc Γ) (h : ok Γ.length S = true) (hl : (flat S).length ≤ 16) (w2 : w ≠ 2) : gm (w, Γ, S, S) ≤ 16 ∧ gn (w, Γ, S, S) = 1 := by sorry
end
section
-- from 99k01
def noh (h : Nat) : Ty → Bool
  | .tag c (.append a b) => (if c = 2 then !(hd a == h) else true) && (noh h a && noh h b)
  | .append a b => noh h a && noh h b
  | _ => true
section PmK1
variable {h : Nat}
theorem noh_top : noh h tTop = true := by sorry
theorem noh_var (k : Nat) : noh h (tVar k) = true := by sorry
theorem noh_fun {a b : Ty} : noh h (tFun a b) = true ↔ noh h a = true ∧ noh h b = true := by sorry
theorem noh_all {a b : Ty} : noh h (tAll a b) = true ↔ hd a ≠ h ∧ noh h a = true ∧ noh h b = true := by sorry
theorem noh_rec {m : Nat} {x y z : Ty} : noh h (tRec m x y z) = true ↔ noh h x = true ∧ noh h y = true ∧ noh h z = true := by sorry
theorem noh_nil : noh h .nil = true := by sorry
theorem noh_lft (h16 : h < 16) (k n : Nat) : ∀ (f : Nat) (t : Ty) (d : Nat), (flat t).length ≤ f → ok d t = true → noh h t = true → noh h (lft k n t) = true := by sorry
end PmK1
def cxs (Δ Γ0 : List Ty) (b : Ty) : List Ty := Δ ++ b :: Γ0
theorem cxs_len (Δ Γ0 : List Ty) (b : Ty) : (cxs Δ Γ0 b).length = Δ.length + (Γ0.length + 1) := by sorry
theorem cxs_cons (a : Ty) (Δ Γ0 : List Ty) (b : Ty) : a :: cxs Δ Γ0 b = cxs (a :: Δ) Γ0 b := by sorry
theorem cxs_bnd (Γ0 : List Ty) (b : Ty) : ∀ Δ : List Ty, bnd (cxs Δ Γ0 b) Γ0.length = b := by sorry
theorem cxs_other (Γ0 : List Ty) (b b' : Ty) {j : Nat} (hj : j ≠ Γ0.length) : ∀ Δ : List Ty, bnd (cxs Δ Γ0 b) j = bnd (cxs Δ Γ0 b') j := by sorry
def nohc (h : Nat) (Δ Γ0 : List Ty) : Prop := (∀ a ∈ Δ, noh h a = true) ∧ (∀ a ∈ Γ0, noh h a = true)
theorem bnd_mem : ∀ (Γ : List Ty) (j : Nat), j < Γ.length → bnd Γ j ∈ Γ := by sorry
theorem nohc_bnd {h : Nat} {Δ Γ0 : List Ty} {b : Ty} (hc : nohc h Δ Γ0) {j : Nat} (hj : j < (cxs Δ Γ0 b).length) (ne : j ≠ Γ0.length) : noh h (bnd (cxs Δ Γ0 b) j) = true := by sorry
end
section
-- from 99k02
section PmK2
variable {h : Nat}
theorem noh_k1 {s : Ty} (hs : noh h s = true) : noh h (k1 s) = true := by sorry
theorem noh_k2 {s : Ty} (hs : noh h s = true) : noh h (k2 s) = true := by sorry
theorem noh_r2 {s : Ty} (hs : noh h s = true) : noh h (r2 s) = true := by sorry
theorem noh_r3 {s : Ty} (hs : noh h s = true) : noh h (r3 s) = true := by sorry
end PmK2
theorem stp_nv {Γ : List Ty} {s t : Ty} (hs : ¬ 16 ≤ hd s) : stp Γ s t = (stp [] s t).map (fun l => l.map (fun z => (z.1 ++ Γ, z.2))) := by sorry
theorem stp_noh {h : Nat} {s t : Ty} (hs : ¬ 16 ≤ hd s) (ns : noh h s = true) (nt : noh h t = true) {l : List Tsk} (e : stp [] s t = some l) : ∀ z ∈ l, noh h z.2.1 = true ∧ noh h z.2.2 = true ∧ ∀ a ∈ z.1, noh h a = true := by sorry
def SGc (h : Nat) (B C C' : Ty) (Γ0 Δ : List Ty) : Prop := h < 16 ∧ hd B = h ∧ okc (cxs Δ Γ0 (tAll B C)) ∧ okc (cxs Δ Γ0 (tAll B C')) ∧ nohc h Δ Γ0
def upb (Γ0 Δ : List Ty) (b : Ty) : Ty := lft Γ0.length (Δ.length + 1) b
theorem upb_all (Γ0 Δ : List Ty) (B C : Ty) : upb Γ0 Δ (tAll B C) = tAll (upb Γ0 Δ B) (upb Γ0 Δ C) := by sorry
section PmK3
variable {h : Nat} {B C C' : Ty} {Γ0 Δ : List Ty}
theorem SGc.h16 (s : SGc h B C C' Γ0 Δ) : h < 16 := by sorry
theorem SGc.o1 (s : SGc h B C C' Γ0 Δ) : okc (cxs Δ Γ0 (tAll B C)) := by sorry
theorem SGc.o2 (s : SGc h B C C' Γ0 Δ) : okc (cxs Δ Γ0 (tAll B C')) := by sorry
theorem SGc.nc (s : SGc h B C C' Γ0 Δ) : nohc h Δ Γ0 := by sorry
theorem okc_mid {b : Ty} : ∀ {Δ : List Ty}, okc (cxs Δ Γ0 b) → ok Γ0.length b = true := by sorry
theorem SGc.oB (s : SGc h B C C' Γ0 Δ) : ok Γ0.length B = true := by sorry
theorem SGc.hdB (s : SGc h B C C' Γ0 Δ) : hd (upb Γ0 Δ B) = h := by sorry
theorem SGc.ext (s : SGc h B C C' Γ0 Δ) {a : Ty} (oa : ok (cxs Δ Γ0 (tAll B C)).length a = true) (na : noh h a = true) : SGc h B C C' Γ0 (a :: Δ) := by sorry
theorem SGc.mk' (s : SGc h B C C' Γ0 Δ) (l : List Ty) (ol : okc (l ++ cxs Δ Γ0 (tAll B C))) (nl : ∀ a ∈ l, noh h a = true) : SGc h B C C' Γ0 (l ++ Δ) := by sorry
theorem SGc.k_lt (b : Ty) : Γ0.length < (cxs Δ Γ0 b).length := by sorry
theorem cxs_up (b : Ty) : lft Γ0.length ((cxs Δ Γ0 b).length - Γ0.length) (bnd (cxs Δ Γ0 b) Γ0.length) = upb Γ0 Δ b := by sorry
theorem SGc.okup (s : SGc h B C C' Γ0 Δ) : ok (cxs Δ Γ0 (tAll B C)).length (upb Γ0 Δ (tAll B C)) = true := by sorry
theorem SGc.okup' (s : SGc h B C C' Γ0 Δ) : ok (cxs Δ Γ0 (tAll B C')).length (upb Γ0 Δ (tAll B C')) = true := by sorry
theorem cxs_ll (b b' : Ty) : (cxs Δ Γ0 b).length = (cxs Δ Γ0 b').length := by sorry
theorem SGc.ex (s : SGc h B C C' Γ0 Δ) {j : Nat} (hj : j < (cxs Δ Γ0 (tAll B C)).length) (ne : j ≠ Γ0.length) : lft j ((cxs Δ Γ0 (tAll B C)).length - j) (bnd (cxs Δ Γ0 (tAll B C)) j) = lft j ((cxs Δ Γ0 (tAll B C')).length - j) (bnd (cxs Δ Γ0 (tAll B C')) j) ∧ noh h (lft j ((cxs Δ Γ0 (tAll B C)).length - j) (bnd (cxs Δ Γ0 (tAll B C)) j)) = true := by sorry
theorem SGc.stpL (s : SGc h B C C' Γ0 Δ) (Γ : List Ty) (X : Ty) {t : Ty} {d : Nat} (ot : ok d t = true) (nt : noh h t = true) : stp Γ (tAll (upb Γ0 Δ B) X) t = if hd t = 0 then some [] else none := by sorry
theorem SGc.stpR (s : SGc h B C C' Γ0 Δ) (Γ : List Ty) (X : Ty) {t : Ty} {d : Nat} (ot : ok d t = true) (nt : noh h t = true) (nv : ¬ 16 ≤ hd t) : stp Γ t (tAll (upb Γ0 Δ B) X) = none := by sorry
end PmK3

end
section
-- from 99k03
theorem all_congr2 {α : Type} {p q : α → Bool} : ∀ {l : List α}, (∀ z ∈ l, p z = q z) → l.all p = l.all q := by sorry
section PmK4
variable {h : Nat} {B C C' : Ty} {Γ0 : List Ty}
theorem tok_two {Δ : List Ty} (s : SGc h B C C' Γ0 Δ) {S T : Ty} (t : tok (cxs Δ Γ0 (tAll B C), S, T)) : tok (cxs Δ Γ0 (tAll B C'), S, T) := by sorry
theorem bel_up {Δ : List Ty} (s : SGc h B C C' Γ0 Δ) {T : Ty} (oT : ok (cxs Δ Γ0 (tAll B C)).length T = true) (nT : noh h T = true) : bel (cxs Δ Γ0 (tAll B C)) (upb Γ0 Δ (tAll B C)) T = decide (hd T = 0) ∧ bel (cxs Δ Γ0 (tAll B C')) (upb Γ0 Δ (tAll B C')) T = decide (hd T = 0) := by sorry
theorem bel_sg : ∀ (n : Nat) (Δ : List Ty) (S T : Ty), SGc h B C C' Γ0 Δ → tok (cxs Δ Γ0 (tAll B C), S, T) → twt (cxs Δ Γ0 (tAll B C), S, T) ≤ n → noh h S = true → noh h T = true → bel (cxs Δ Γ0 (tAll B C)) S T = bel (cxs Δ Γ0 (tAll B C')) S T := by sorry
theorem bel_sgR : ∀ (n : Nat) (Δ : List Ty) (S : Ty), SGc h B C C' Γ0 Δ → ok (cxs Δ Γ0 (tAll B C)).length S = true → wt (om (cxs Δ Γ0 (tAll B C))) S ≤ n → noh h S = true → bel (cxs Δ Γ0 (tAll B C)) S (tVar Γ0.length) = false → bel (cxs Δ Γ0 (tAll B C)) S (upb Γ0 Δ (tAll B C)) = false ∧ bel (cxs Δ Γ0 (tAll B C')) S (upb Γ0 Δ (tAll B C')) = false := by sorry
end PmK4

end
section
-- from 99k04
section PmK5
variable {h : Nat} {B C C' : Ty} {Γ0 : List Ty}
theorem trf_L (s0 : List Ty → Prop) {Δ : List Ty} (s : SGc h B C C' Γ0 Δ) (Γ : List Ty) (X : Ty) {T : Ty} {d : Nat} (oT : ok d T = true) (nT : noh h T = true) (f : Nat) : trf f (Γ, upb Γ0 Δ (tAll B X), T) = 0 := by sorry
theorem trf_var (f : Nat) (Γ : List Ty) (j : Nat) (T : Ty) (e0 : hd T ≠ 0) (e1 : 16 + j ≠ hd T) : trf (f + 1) (Γ, tVar j, T) = 1 + (trf f (Γ, lft j (Γ.length - j) (bnd Γ j), T) + 0) := by sorry
theorem trf_done (f : Nat) (Γ : List Ty) (j : Nat) (T : Ty) (e : hd T = 0 ∨ 16 + j = hd T) : trf f (Γ, tVar j, T) = 0 := by sorry
theorem trf_sg : ∀ (f : Nat) (Δ : List Ty) (S T : Ty), SGc h B C C' Γ0 Δ → tok (cxs Δ Γ0 (tAll B C), S, T) → noh h S = true → noh h T = true → trf f (cxs Δ Γ0 (tAll B C), S, T) = trf f (cxs Δ Γ0 (tAll B C'), S, T) := by sorry
theorem trf_sgR : ∀ (f : Nat) (Δ : List Ty) (S : Ty), SGc h B C C' Γ0 Δ → ok (cxs Δ Γ0 (tAll B C)).length S = true → noh h S = true → bel (cxs Δ Γ0 (tAll B C)) S (tVar Γ0.length) = false → trf f (cxs Δ Γ0 (tAll B C), S, upb Γ0 Δ (tAll B C)) = trf f (cxs Δ Γ0 (tAll B C'), S, upb Γ0 Δ (tAll B C')) := by sorry
theorem trx_big {z : Tsk} (t : tok z) {F : Nat} (hF : twt z ≤ F) : trx z = trf F z := by sorry
theorem trx_sg {Δ : List Ty} {S T : Ty} (s : SGc h B C C' Γ0 Δ) (t : tok (cxs Δ Γ0 (tAll B C), S, T)) (nS : noh h S = true) (nT : noh h T = true) : trx (cxs Δ Γ0 (tAll B C), S, T) = trx (cxs Δ Γ0 (tAll B C'), S, T) := by sorry
theorem tru_sg {Δ : List Ty} {S T : Ty} (s : SGc h B C C' Γ0 Δ) (t : tok (cxs Δ Γ0 (tAll B C), S, T)) (nS : noh h S = true) (nT : noh h T = true) : tru (cxs Δ Γ0 (tAll B C), S, T) = tru (cxs Δ Γ0 (tAll B C'), S, T) := by sorry
theorem trx_upL {Δ : List Ty} {T : Ty} (s : SGc h B C C' Γ0 Δ) (oT : ok (cxs Δ Γ0 (tAll B C)).length T = true) (nT : noh h T = true) (Γ : List Ty) (X : Ty) : trx (Γ, upb Γ0 Δ (tAll B X), T) = 0 := by sorry
theorem trx_upR {Δ : List Ty} {S : Ty} (s : SGc h B C C' Γ0 Δ) (o : ok (cxs Δ Γ0 (tAll B C)).length S = true) (nS : noh h S = true) (hb : bel (cxs Δ Γ0 (tAll B C)) S (tVar Γ0.length) = false) : trx (cxs Δ Γ0 (tAll B C), S, upb Γ0 Δ (tAll B C)) = trx (cxs Δ Γ0 (tAll B C'), S, upb Γ0 Δ (tAll B C')) := by sorry
end PmK5

end
section
-- from 99k05
section PmK6
variable {h : Nat} {B C C' : Ty} {Γ0 : List Ty}
theorem gmf_succ (f : Nat) {w : Nat} (w2 : w ≠ 2) (x : Tsk) : gmf (f + 1) (w, x) = max (tru x) (gro (w, x) + sgl (gmf f) (gcs (w, x))) := by sorry
theorem gnf_succ (f : Nat) {w : Nat} (w2 : w ≠ 2) (x : Tsk) : gnf (f + 1) (w, x) = max 1 (gno (w, x) + sgl (gnf f) (gcs (w, x))) := by sorry
theorem gro_congr {w : Nat} {Γ Γ' : List Ty} {S T S' T' : Ty} (b1 : bel Γ S T = bel Γ' S' T') (b2 : bel Γ T S = bel Γ' T' S') (h1 : hd S = hd S') (h2 : hd T = hd T') (h3 : flat (k1 S) = flat (k1 S')) (h4 : flat (k1 T) = flat (k1 T')) : gro (w, Γ, S, T) = gro (w, Γ', S', T') ∧ gno (w, Γ, S, T) = gno (w, Γ', S', T') := by sorry
theorem noh_fl {Δ : List Ty} (s : SGc h B C C' Γ0 Δ) {T : Ty} {d : Nat} (oT : ok d T = true) (nT : noh h T = true) : ¬ (hd T = 2 ∧ flat (upb Γ0 Δ B) = flat (k1 T)) := by sorry
theorem bel_nvA {Δ : List Ty} (s : SGc h B C C' Γ0 Δ) {S : Ty} (o : ok (cxs Δ Γ0 (tAll B C)).length S = true) (v : ¬ 16 ≤ hd S) : bel (cxs Δ Γ0 (tAll B C)) S (tVar Γ0.length) = false := by sorry
theorem gf_R {Δ : List Ty} {w : Nat} {S : Ty} (s : SGc h B C C' Γ0 Δ) (o : ok (cxs Δ Γ0 (tAll B C)).length S = true) (nS : noh h S = true) (v : ¬ 16 ≤ hd S) (w2 : w ≠ 2) (f : Nat) : gmf f (w, cxs Δ Γ0 (tAll B C), S, upb Γ0 Δ (tAll B C)) = gmf f (w, cxs Δ Γ0 (tAll B C'), S, upb Γ0 Δ (tAll B C')) ∧ gnf f (w, cxs Δ Γ0 (tAll B C), S, upb Γ0 Δ (tAll B C)) = gnf f (w, cxs Δ Γ0 (tAll B C'), S, upb Γ0 Δ (tAll B C')) := by sorry
theorem gf_L : ∀ (f : Nat) (Δ : List Ty) (w : Nat) (T : Ty), SGc h B C C' Γ0 Δ → ok (cxs Δ Γ0 (tAll B C)).length T = true → noh h T = true → w ≠ 2 → w ≠ 1 → bel (cxs Δ Γ0 (tAll B C)) T (tVar Γ0.length) = false → gmf f (w, cxs Δ Γ0 (tAll B C), upb Γ0 Δ (tAll B C), T) = gmf f (w, cxs Δ Γ0 (tAll B C'), upb Γ0 Δ (tAll B C'), T) ∧ gnf f (w, cxs Δ Γ0 (tAll B C), upb Γ0 Δ (tAll B C), T) = gnf f (w, cxs Δ Γ0 (tAll B C'), upb Γ0 Δ (tAll B C'), T) := by sorry
theorem gzl_sg {w : Nat} {Γ Γ' : List Ty} {ls m m' i : Nat} {X Y : Ty} (f : Nat) (hh : bit m i = true → bit m' i = true → gmf f (w, Γ, X, Y) = gmf f (w, Γ', X, Y) ∧ gnf f (w, Γ, X, Y) = gnf f (w, Γ', X, Y)) : sgl (gmf f) (gzl w Γ ls m m' i X Y) = sgl (gmf f) (gzl w Γ' ls m m' i X Y) ∧ sgl (gnf f) (gzl w Γ ls m m' i X Y) = sgl (gnf f) (gzl w Γ' ls m m' i X Y) := by sorry
end PmK6

end
section
-- from 99k06
section PmK7
variable {h : Nat} {B C C' : Ty} {Γ0 : List Ty}
theorem gf_sg : ∀ (f : Nat) (Δ : List Ty) (w : Nat) (S T : Ty), SGc h B C C' Γ0 Δ → tok (cxs Δ Γ0 (tAll B C), S, T) → noh h S = true → noh h T = true → gmf f (w, cxs Δ Γ0 (tAll B C), S, T) = gmf f (w, cxs Δ Γ0 (tAll B C'), S, T) ∧ gnf f (w, cxs Δ Γ0 (tAll B C), S, T) = gnf f (w, cxs Δ Γ0 (tAll B C'), S, T) := by sorry
theorem gm_sg {Δ : List Ty} {w : Nat} {S T : Ty} (s : SGc h B C C' Γ0 Δ) (t : tok (cxs Δ Γ0 (tAll B C), S, T)) (nS : noh h S = true) (nT : noh h T = true) : gm (w, cxs Δ Γ0 (tAll B C), S, T) = gm (w, cxs Δ Γ0 (tAll B C'), S, T) ∧ gn (w, cxs Δ Γ0 (tAll B C), S, T) = gn (w, cxs Δ Γ0 (tAll B C'), S, T) := by sorry
end PmK7

end
section
-- from 99k07
abbrev TRel : Type := Tsk → Tsk → Prop
def rp (i : Nat) (t : Ty) : Ty := if i = 0 then k1 t else if i = 1 then r2 t else r3 t
def BisT (R : TRel) : Prop := ∀ (Γ Γ' : List Ty) (S S' T T' : Ty), R (Γ, S, T) (Γ', S', T') → tok (Γ, S, T) ∧ tok (Γ', S', T') ∧ hd S = hd S' ∧ hd T = hd T' ∧
  (16 ≤ hd S → hd T ≠ 0 → hd S ≠ hd T → R (Γ, exps Γ S, T) (Γ', exps Γ' S', T')) ∧
  (8 ≤ hd S → hd S < 16 → 8 ≤ hd T → hd T < 16 → ∀ i, i < 3 → bit (hd S - 8) i = true → bit (hd T - 8) i = true → R (Γ, rp i S, rp i T) (Γ', rp i S', rp i T')) ∧
  (hd S = 1 → hd T = 1 → R (Γ, k2 S, k2 T) (Γ', k2 S', k2 T') ∧ R (Γ, k1 T, k1 S) (Γ', k1 T', k1 S')) ∧
  (hd S = 2 → hd T = 2 → (flat (k1 S) = flat (k1 T) ↔ flat (k1 S') = flat (k1 T')) ∧ (flat (k1 S) = flat (k1 T) → R (k1 S :: Γ, k2 S, k2 T) (k1 S' :: Γ', k2 S', k2 T')))
theorem msk_bit : ∀ a, a < 8 → ∀ b, b < 8 → a &&& b = b → ∀ i, i < 3 → bit b i = true → bit a i = true := by sorry
theorem stl_sum {R : TRel} {f : Nat} (ih : ∀ z z', R z z' → trf f z = trf f z') {Γ Γ' : List Ty} {m i : Nat} {x x' y y' : Ty} (h : bit m i = true → R (Γ, x, y) (Γ', x', y')) : sumt (trf f) (stl Γ m i x y) = sumt (trf f) (stl Γ' m i x' y') := by sorry
theorem stl_allb {n : Nat} {R : TRel} (ih : ∀ z z', R z z' → twt z ≤ n → belz z = belz z') {Γ Γ' : List Ty} {m i : Nat} {x x' y y' : Ty} (h : bit m i = true → R (Γ, x, y) (Γ', x', y')) (hn : tws (stl Γ m i x y) ≤ n) : (stl Γ m i x y).all belz = (stl Γ' m i x' y').all belz := by sorry
section PmK8
variable {R : TRel}
theorem bis_rec (hR : BisT R) {Γ Γ' : List Ty} {S S' T T' : Ty} (h : R (Γ, S, T) (Γ', S', T')) (v : ¬ 16 ≤ hd S) (n3 : 8 ≤ hd S ∧ 8 ≤ hd T ∧ hd T < 16) (n6 : (hd S - 8) &&& (hd T - 8) = hd T - 8) : ∀ i, i < 3 → bit (hd T - 8) i = true → R (Γ, rp i S, rp i T) (Γ', rp i S', rp i T') := by sorry
theorem trf_bis (hR : BisT R) : ∀ (f : Nat) (z z' : Tsk), R z z' → trf f z = trf f z' := by sorry
theorem bel_bis (hR : BisT R) : ∀ (n : Nat) (z z' : Tsk), R z z' → twt z ≤ n → belz z = belz z' := by sorry
theorem bel_bis' (hR : BisT R) {Γ Γ' : List Ty} {S S' T T' : Ty} (h : R (Γ, S, T) (Γ', S', T')) : bel Γ S T = bel Γ' S' T' := by sorry
theorem trx_bis (hR : BisT R) {z z' : Tsk} (h : R z z') : trx z = trx z' := by sorry
end PmK8

end
section
-- from 99k08
def BisG (R G : TRel) : Prop := ∀ (Γ Γ' : List Ty) (S S' T T' : Ty), G (Γ, S, T) (Γ', S', T') → R (Γ, S, T) (Γ', S', T') ∧ R (Γ, T, S) (Γ', T', S') ∧ (¬ bel Γ S T = true → ¬ bel Γ T S = true →
  (16 ≤ hd S → G (Γ, exps Γ S, T) (Γ', exps Γ' S', T')) ∧
  (¬ 16 ≤ hd S → 16 ≤ hd T → G (Γ, S, exps Γ T) (Γ', S', exps Γ' T')) ∧
  (8 ≤ hd S → hd S < 16 → 8 ≤ hd T → hd T < 16 → ∀ i, i < 3 → bit (hd S - 8) i = true → bit (hd T - 8) i = true → G (Γ, rp i S, rp i T) (Γ', rp i S', rp i T')) ∧
  (hd S = 1 → hd T = 1 → G (Γ, k1 S, k1 T) (Γ', k1 S', k1 T') ∧ G (Γ, k2 S, k2 T) (Γ', k2 S', k2 T')) ∧
  (hd S = 2 → hd T = 2 → flat (k1 S) = flat (k1 T) → G (k1 S :: Γ, k2 S, k2 T) (k1 S' :: Γ', k2 S', k2 T')))
theorem rp_rec0 (m : Nat) (x y z : Ty) : rp 0 (tRec m x y z) = x := by sorry
theorem rp_rec1 (m : Nat) (x y z : Ty) : rp 1 (tRec m x y z) = y := by sorry
theorem rp_rec2 (m : Nat) (x y z : Ty) : rp 2 (tRec m x y z) = z := by sorry
theorem gzl_bis {w : Nat} {Γ Γ' : List Ty} {ls m m' i : Nat} {X Y X' Y' : Ty} (f : Nat) (hh : bit m i = true → bit m' i = true → gmf f (w, Γ, X, Y) = gmf f (w, Γ', X', Y') ∧ gnf f (w, Γ, X, Y) = gnf f (w, Γ', X', Y')) : sgl (gmf f) (gzl w Γ ls m m' i X Y) = sgl (gmf f) (gzl w Γ' ls m m' i X' Y') ∧ sgl (gnf f) (gzl w Γ ls m m' i X Y) = sgl (gnf f) (gzl w Γ' ls m m' i X' Y') := by sorry
section PmK9
variable {R G : TRel}
theorem gf_bis (hR : BisT R) (hG : BisG R G) : ∀ (f w : Nat) (z z' : Tsk), G z z' → gmf f (w, z) = gmf f (w, z') ∧ gnf f (w, z) = gnf f (w, z') := by sorry
theorem gm_bis (hR : BisT R) (hG : BisG R G) {w : Nat} {z z' : Tsk} (h : G z z') : gm (w, z) = gm (w, z') ∧ gn (w, z) = gn (w, z') := by sorry
end PmK9

end
section
-- from 99k09
def men (r : Nat) : Ty → Bool
  | .tag c f => (c == 16 + r) || men r f
  | .append a b => men r a || men r b
  | _ => false
def ct (κ : Ty → Bool) (r : Nat) : Ty → Ty
  | .tag c (.append a b) => if c = 2 then (if men r a && κ a then .tag 2 (.append a tTop) else .tag 2 (.append a (ct κ r b))) else .tag c (.append (ct κ r a) (ct κ r b))
  | .append a b => .append (ct κ r a) (ct κ r b)
  | t => t
def Wn (κ : Ty → Bool) (r s : Nat) : Ty → Bool
  | .tag c (.append a b) => if c = 2 then (men s a || (!(men r a && κ a) && (Wn κ r s a && Wn κ r s b))) else (Wn κ r s a && Wn κ r s b)
  | .append a b => Wn κ r s a && Wn κ r s b
  | _ => true
def PNs (κ : Ty → Bool) (hb s : Nat) : Nat → Ty → Bool
  | d, .tag c (.append a b) => if c = 2 then (PNs κ hb s d a && PNs κ hb s (d + 1) b) && (!(hd a == hb) || Wn κ d s b) else (PNs κ hb s d a && PNs κ hb s d b)
  | d, .append a b => PNs κ hb s d a && PNs κ hb s d b
  | _, _ => true
def shl (j m r : Nat) : Nat := if j ≤ r then r + m else r
section PmKa
variable {κ : Ty → Bool} {r s d hb : Nat}
theorem men_fun (a b : Ty) : men r (tFun a b) = (men r a || men r b) := by sorry
theorem men_rec {m : Nat} (hm : m < 8) (x y z : Ty) : men r (tRec m x y z) = (men r x || (men r y || men r z)) := by sorry
theorem ct_var (k : Nat) : ct κ r (tVar k) = tVar k := by sorry
theorem ct_fun (a b : Ty) : ct κ r (tFun a b) = tFun (ct κ r a) (ct κ r b) := by sorry
theorem ct_all (a b : Ty) : ct κ r (tAll a b) = tAll a (if men r a && κ a then tTop else ct κ r b) := by sorry
theorem ct_rec {m : Nat} (x y z : Ty) : ct κ r (tRec m x y z) = tRec m (ct κ r x) (ct κ r y) (ct κ r z) := by sorry
theorem Wn_fun (a b : Ty) : Wn κ r s (tFun a b) = (Wn κ r s a && Wn κ r s b) := by sorry
theorem Wn_rec {m : Nat} (x y z : Ty) : Wn κ r s (tRec m x y z) = (Wn κ r s x && (Wn κ r s y && Wn κ r s z)) := by sorry
theorem PNs_fun (a b : Ty) : PNs κ hb s d (tFun a b) = (PNs κ hb s d a && PNs κ hb s d b) := by sorry
theorem PNs_rec {m : Nat} (x y z : Ty) : PNs κ hb s d (tRec m x y z) = (PNs κ hb s d x && (PNs κ hb s d y && PNs κ hb s d z)) := by sorry
theorem men_gap {k m : Nat} (h1 : k ≤ r) (h2 : r < k + m) : ∀ t : Ty, men r (lft k m t) = false := by sorry
theorem men_lft (j m : Nat) : ∀ t : Ty, men (shl j m r) (lft j m t) = men r t := by sorry
end PmKa
theorem lft_tag2 {j m c : Nat} : (if 16 + j ≤ c then c + m else c) = 2 ↔ c = 2 := by sorry
theorem lft_hdb {hb : Nat} (hh : hb < 16) (j m : Nat) : ∀ t : Ty, (hd (lft j m t) == hb) = (hd t == hb) := by sorry
section PmKb
variable {κ : Ty → Bool} {r s hb : Nat}
theorem Wn_lft (hκ : ∀ j m t, κ (lft j m t) = κ t) (j m : Nat) : ∀ t : Ty, Wn κ (shl j m r) (shl j m s) (lft j m t) = Wn κ r s t := by sorry
theorem PNs_lft (hκ : ∀ j m t, κ (lft j m t) = κ t) (hh : hb < 16) (j m : Nat) : ∀ (t : Ty) (d : Nat), j ≤ d → PNs κ hb (shl j m s) (d + m) (lft j m t) = PNs κ hb s d t := by sorry
end PmKb
theorem ct_ok (κ : Ty → Bool) (r : Nat) : ∀ (f : Nat) (t : Ty) (d : Nat), (flat t).length ≤ f → ok d t = true → ok d (ct κ r t) = true := by sorry
def nsch : Ty → Bool
  | .tag c (.append a b) => !(c == 2) && (nsch a && nsch b)
  | .append a b => nsch a && nsch b
  | _ => true
end
section
-- from 99k10
def KK (κ : Ty → Bool) (hb k m : Nat) (t : Ty) : Prop := ∃ s, k ≤ s ∧ s < m ∧ PNs κ hb s m t = true
def CXI (κ : Ty → Bool) (hb k : Nat) (Γ : List Ty) : Prop := ∀ j, j < Γ.length → j ≠ k → ∀ m, Γ.length ≤ m → KK κ hb k m (lft j (m - j) (bnd Γ j))
def CW (κ : Ty → Bool) (k r s : Nat) (Γ : List Ty) : Prop := ∀ j, j < Γ.length → j ≠ k → ∀ m, Γ.length ≤ m → Wn κ r s (lft j (m - j) (bnd Γ j)) = true
def SD (κ : Ty → Bool) (k : Nat) (Γ : List Ty) (X X' Y : Ty) : Prop := X' = X ∨ ∃ r s, k ≤ r ∧ r < Γ.length ∧ s < Γ.length ∧ X' = ct κ r X ∧ men s X = false ∧ Wn κ r s Y = true ∧ CW κ k r s Γ
def SE (κ : Ty → Bool) (k : Nat) (Γ : List Ty) (Y Y' : Ty) : Prop := Y' = Y ∨ ∃ r s, k ≤ r ∧ r < Γ.length ∧ s < Γ.length ∧ Y' = ct κ r Y ∧ men s Y = false ∧ CW κ k r s Γ
def GT (κ : Ty → Bool) (hb k : Nat) (Γ : List Ty) (X X' Y Y' : Ty) : Prop := (ok Γ.length X = true ∧ ok Γ.length X' = true ∧ ok Γ.length Y = true ∧ ok Γ.length Y' = true) ∧ KK κ hb k Γ.length X ∧ KK κ hb k Γ.length Y ∧ SD κ k Γ X X' Y ∧ SD κ k Γ Y Y' X
section PmKc
variable {κ : Ty → Bool} {k hb : Nat} {Γ : List Ty} {X X' Y Y' : Ty}
theorem SD.se (h : SD κ k Γ X X' Y) : SE κ k Γ X X' := by sorry
theorem SD.mono (h : SD κ k Γ X X' Y) {x x' y : Ty} (h1 : X' = X → x' = x) (h2 : ∀ r, X' = ct κ r X → x' = ct κ r x) (h3 : ∀ s, men s X = false → men s x = false) (h4 : ∀ r s, Wn κ r s Y = true → Wn κ r s y = true) : SD κ k Γ x x' y := by sorry
theorem GT.swap (h : GT κ hb k Γ X X' Y Y') : GT κ hb k Γ Y Y' X X' := by sorry
theorem SE.var (h : SE κ k Γ X X') {j : Nat} (e : X = tVar j) : X' = tVar j := by sorry
theorem KK.fun1 {m : Nat} {a b : Ty} (h : KK κ hb k m (tFun a b)) : KK κ hb k m a ∧ KK κ hb k m b := by sorry
theorem KK.rec1 {m l : Nat} {x y z : Ty} (h : KK κ hb k m (tRec l x y z)) : KK κ hb k m x ∧ KK κ hb k m y ∧ KK κ hb k m z := by sorry
theorem SD.fun1 {a b a1 b1 : Ty} (h : SD κ k Γ (tFun a b) X' (tFun a1 b1)) : SD κ k Γ a (k1 X') a1 ∧ SD κ k Γ b (k2 X') b1 := by sorry
theorem SD.rec1 {m m' : Nat} (hm : m < 8) {x y z x1 y1 z1 : Ty} (h : SD κ k Γ (tRec m x y z) X' (tRec m' x1 y1 z1)) : ∀ i, i < 3 → SD κ k Γ (rp i (tRec m x y z)) (rp i X') (rp i (tRec m' x1 y1 z1)) := by sorry
theorem SE.shape (h : SE κ k Γ X X') : (∀ a b, X = tFun a b → ∃ a' b', X' = tFun a' b') ∧ (∀ m x y z, X = tRec m x y z → ∃ x' y' z', X' = tRec m x' y' z') ∧ (∀ a b, X = tAll a b → ∃ b', X' = tAll a b') := by sorry
theorem rp_ok {n m : Nat} (hm : m < 8) {x y z : Ty} (o : ok n (tRec m x y z) = true) {i : Nat} (hi : i < 3) (hb : bit m i = true) : ok n (rp i (tRec m x y z)) = true := by sorry
theorem rp_KK {n m : Nat} {x y z : Ty} (o : KK κ hb k n (tRec m x y z)) {i : Nat} (hi : i < 3) : KK κ hb k n (rp i (tRec m x y z)) := by sorry
theorem GT.rec1 (h : GT κ hb k Γ X X' Y Y') (x1 : 8 ≤ hd X) (x2 : hd X < 16) (y1 : 8 ≤ hd Y) (y2 : hd Y < 16) {i : Nat} (hi : i < 3) (b1 : bit (hd X - 8) i = true) (b2 : bit (hd Y - 8) i = true) : GT κ hb k Γ (rp i X) (rp i X') (rp i Y) (rp i Y') := by sorry
theorem GT.fun1 (h : GT κ hb k Γ X X' Y Y') (x1 : hd X = 1) (y1 : hd Y = 1) : GT κ hb k Γ (k1 X) (k1 X') (k1 Y) (k1 Y') ∧ GT κ hb k Γ (k2 X) (k2 X') (k2 Y) (k2 Y') := by sorry
theorem CW.ext (hκ : ∀ j m t, κ (lft j m t) = κ t) {r s : Nat} (h : CW κ k r s Γ) {a : Ty} (hr : r < Γ.length) (hs : s < Γ.length) (ha : Wn κ r s a = true) : CW κ k r s (a :: Γ) := by sorry
theorem CXI.ext (hκ : ∀ j m t, κ (lft j m t) = κ t) (hh : hb < 16) (h : CXI κ hb k Γ) {a : Ty} (ha : KK κ hb k Γ.length a) : CXI κ hb k (a :: Γ) := by sorry
end PmKc

end
section
-- from 99k11
section PmKd
variable (κ : Ty → Bool) (hb : Nat) (B C : Ty) (Γ0 : List Ty)
def cA (Δ : List Ty) : List Ty := cxs Δ Γ0 (tAll B C)
def cB (Δ : List Ty) : List Ty := cxs Δ Γ0 (tAll B (ct κ Γ0.length C))
def CG (Δ : List Ty) : Prop := okc (cA B C Γ0 Δ) ∧ okc (cB κ B C Γ0 Δ) ∧ CXI κ hb Γ0.length (cA B C Γ0 Δ)
def CH0 : Prop := (∀ j m t, κ (lft j m t) = κ t) ∧ PNs κ hb Γ0.length (Γ0.length + 1) C = true ∧ hd B = hb ∧ hb < 16 ∧ nsch B = true ∧ ok Γ0.length B = true
end PmKd
section PmKe
variable {κ : Ty → Bool} {hb : Nat} {B C : Ty} {Γ0 Δ : List Ty}
theorem cAB_len : (cA B C Γ0 Δ).length = (cB κ B C Γ0 Δ).length := by sorry
theorem CG.ex (h : CG κ hb B C Γ0 Δ) {j : Nat} (hj : j < (cA B C Γ0 Δ).length) (ne : j ≠ Γ0.length) : exps (cA B C Γ0 Δ) (tVar j) = exps (cB κ B C Γ0 Δ) (tVar j) ∧ ok (cA B C Γ0 Δ).length (exps (cA B C Γ0 Δ) (tVar j)) = true ∧ KK κ hb Γ0.length (cA B C Γ0 Δ).length (exps (cA B C Γ0 Δ) (tVar j)) := by sorry
theorem CG.tok (h : CG κ hb B C Γ0 Δ) {X Y X' Y' : Ty} (o1 : ok (cA B C Γ0 Δ).length X = true) (o2 : ok (cA B C Γ0 Δ).length X' = true) (o3 : ok (cA B C Γ0 Δ).length Y = true) (o4 : ok (cA B C Γ0 Δ).length Y' = true) : tok (cA B C Γ0 Δ, X, Y) ∧ tok (cB κ B C Γ0 Δ, X', Y') := by sorry
theorem CG.ext (h0 : CH0 κ hb B C Γ0) (h : CG κ hb B C Γ0 Δ) {a : Ty} (oa : ok (cA B C Γ0 Δ).length a = true) (ka : KK κ hb Γ0.length (cA B C Γ0 Δ).length a) : CG κ hb B C Γ0 (a :: Δ) := by sorry
theorem SE.exp {X X' : Ty} (hs : SE κ Γ0.length (cA B C Γ0 Δ) X X') {Y : Ty} (hw : ∀ r s, CW κ Γ0.length r s (cA B C Γ0 Δ) → Wn κ r s Y = true) : SD κ Γ0.length (cA B C Γ0 Δ) X X' Y := by sorry
theorem GT.exp (h : CG κ hb B C Γ0 Δ) {Y Y' : Ty} {j : Nat} (hj : j < (cA B C Γ0 Δ).length) (ne : j ≠ Γ0.length) (o3 : ok (cA B C Γ0 Δ).length Y = true) (o4 : ok (cA B C Γ0 Δ).length Y' = true) (ky : KK κ hb Γ0.length (cA B C Γ0 Δ).length Y) (sy : SE κ Γ0.length (cA B C Γ0 Δ) Y Y') : GT κ hb Γ0.length (cA B C Γ0 Δ) (exps (cA B C Γ0 Δ) (tVar j)) (exps (cB κ B C Γ0 Δ) (tVar j)) Y Y' := by sorry
end PmKe

end
section
-- from 99k13
def nz (t0 : Nat) (n1 : Nat → Nat) (s2 : Nat) (h : Nat → Nat) : List Nat → Ty → Nat
  | ω, .tag c (.append s t) => if c = 2 then s2 + nz t0 n1 s2 h (h (nz t0 n1 s2 h ω s) :: ω) t else n1 c + (nz t0 n1 s2 h ω s + nz t0 n1 s2 h ω t)
  | ω, .tag c .nil => if 16 ≤ c then vw ω (c - 16) else t0
  | ω, .append s t => nz t0 n1 s2 h ω s + nz t0 n1 s2 h ω t
  | _, _ => 0
section PmKg
variable {t0 s2 : Nat} {n1 h : Nat → Nat}
theorem nz_top (ω : List Nat) : nz t0 n1 s2 h ω tTop = t0 := by sorry
theorem nz_var (ω : List Nat) (k : Nat) : nz t0 n1 s2 h ω (tVar k) = vw ω k := by sorry
theorem nz_nil (ω : List Nat) : nz t0 n1 s2 h ω .nil = 0 := by sorry
theorem nz_fun (ω : List Nat) (a b : Ty) : nz t0 n1 s2 h ω (tFun a b) = n1 1 + (nz t0 n1 s2 h ω a + nz t0 n1 s2 h ω b) := by sorry
theorem nz_all (ω : List Nat) (a b : Ty) : nz t0 n1 s2 h ω (tAll a b) = s2 + nz t0 n1 s2 h (h (nz t0 n1 s2 h ω a) :: ω) b := by sorry
theorem nz_rec (ω : List Nat) {m : Nat} (x y z : Ty) : nz t0 n1 s2 h ω (tRec m x y z) = n1 (8 + m) + (nz t0 n1 s2 h ω x + (nz t0 n1 s2 h ω y + nz t0 n1 s2 h ω z)) := by sorry
end PmKg
theorem vw_cons (a : Nat) (ω : List Nat) (k : Nat) : vw (a :: ω) k = if k = ω.length then a else vw ω k := by sorry
theorem pmz_nz {b : Bool} {e : Nat} : ∀ (f : Nat) (t : Ty) (ω υ : List Nat), (flat t).length ≤ f → ω.length = υ.length → ok ω.length t = true → (∀ j, j < ω.length → nvr b e (vw υ j) ≤ vw ω j) → (∀ d, pmz (qu e) d υ t ≤ nz 0 (fun _ => 1 + e) (2 + e) (vlr b e) ω t) ∧ (b = false → hd t ≠ 0 → pmz (qu e) true υ t + e ≤ nz 0 (fun _ => 1 + e) (2 + e) (vlr b e) ω t) := by sorry
theorem mrz_nz {b : Bool} {e : Nat} : ∀ (f : Nat) (t : Ty) (d : Bool) (ω ω' υ : List Nat), (flat t).length ≤ f → ω'.length = ω.length → ω.length = υ.length → ok ω.length t = true → (∀ j, j < ω.length → vw ω' j ≤ vw ω j ∧ nvr b e (vw υ j) ≤ vw ω j) → mrz b e d ω' υ t ≤ nz 0 (fun _ => 1 + e) (2 + e) (vlr b e) ω t := by sorry
def onz (t0 : Nat) (n1 : Nat → Nat) (s2 : Nat) (h : Nat → Nat) : List Ty → List Nat
  | [] => []
  | a :: Γ => h (nz t0 n1 s2 h (onz t0 n1 s2 h Γ) a) :: onz t0 n1 s2 h Γ
theorem onz_len (t0 : Nat) (n1 : Nat → Nat) (s2 : Nat) (h : Nat → Nat) : ∀ Γ : List Ty, (onz t0 n1 s2 h Γ).length = Γ.length := by sorry
end
section
-- from 99k14
theorem onz_oz {b : Bool} {e : Nat} : ∀ (Γ : List Ty), okc Γ → ∀ j, j < Γ.length → vw (oz b e Γ) j ≤ vw (onz 0 (fun _ => 1 + e) (2 + e) (vlr b e) Γ) j ∧ nvr b e (vw (oq (qu e) Γ) j) ≤ vw (onz 0 (fun _ => 1 + e) (2 + e) (vlr b e) Γ) j := by sorry
theorem urm_nz {b : Bool} {e w : Nat} {Γ : List Ty} {t : Ty} (hc : okc Γ) (o : ok Γ.length t = true) : urm b e w Γ t ≤ nz 0 (fun _ => 1 + e) (2 + e) (vlr b e) (onz 0 (fun _ => 1 + e) (2 + e) (vlr b e) Γ) t := by sorry
def ngc (c : Nat) : Nat := if c = 1 then 1 else 1 + mis (c - 8)
theorem pmg_nz : ∀ (f : Nat) (t : Ty) (d : Bool) (ω ω' : List Nat), (flat t).length ≤ f → ω'.length = ω.length → ok ω.length t = true → (∀ j, j < ω.length → vw ω' j ≤ vw ω j ∧ 1 ≤ vw ω j) → pmz qg d ω' t ≤ nz 1 ngc 1 (fun x => x) ω t ∧ 1 ≤ nz 1 ngc 1 (fun x => x) ω t := by sorry
theorem onz_og : ∀ (Γ : List Ty), okc Γ → ∀ j, j < Γ.length → vw (oq qg Γ) j ≤ vw (onz 1 ngc 1 (fun x => x) Γ) j ∧ 1 ≤ vw (onz 1 ngc 1 (fun x => x) Γ) j := by sorry
theorem ugS_nz {w : Nat} {Γ : List Ty} {S T : Ty} (hc : okc Γ) (o : ok Γ.length S = true) : ugS (w, Γ, S, T) ≤ nz 1 ngc 1 (fun x => x) (onz 1 ngc 1 (fun x => x) Γ) S := by sorry
theorem ugT_nz {w : Nat} {Γ : List Ty} {S T : Ty} (hc : okc Γ) (o : ok Γ.length T = true) : ugT (w, Γ, S, T) ≤ nz 1 ngc 1 (fun x => x) (onz 1 ngc 1 (fun x => x) Γ) T := by sorry
end
section
-- from 99k15
def FM (t0 : Nat) (n1 : Nat → Nat) (s2 : Nat) (h : Nat → Nat) (x0 : Nat) (t : Ty) (l a : Nat) : Prop := ∀ (x : Nat) (ω : List Nat), x0 ≤ x → (∀ j, j < ω.length → vw ω j ≤ x) → ok ω.length t = true → nz t0 n1 s2 h ω t ≤ a + l * x
section PmKh
variable {t0 s2 hv x0 : Nat} {n1 h : Nat → Nat} {t a b : Ty} {l l1 l2 c c1 c2 : Nat}
theorem FM.mono (f : FM t0 n1 s2 h x0 t l c) (h1 : l ≤ l1) (h2 : c ≤ c1) : FM t0 n1 s2 h x0 t l1 c1 := by sorry
theorem FM_top : FM t0 n1 s2 h x0 tTop 0 t0 := by sorry
theorem FM_var (k : Nat) : FM t0 n1 s2 h x0 (tVar k) 1 0 := by sorry
theorem FM_fun (f : FM t0 n1 s2 h x0 a l1 c1) (g : FM t0 n1 s2 h x0 b l2 c2) : FM t0 n1 s2 h x0 (tFun a b) (l1 + l2) (n1 1 + c1 + c2) := by sorry
theorem FM_all (H : ∀ y x, x0 ≤ x → h y ≤ hv + max y x) (f : FM t0 n1 s2 h x0 a l1 c1) (g : FM t0 n1 s2 h x0 b l2 c2) : FM t0 n1 s2 h x0 (tAll a b) (l2 * max 1 l1) (s2 + c2 + l2 * (hv + c1)) := by sorry
theorem FM_rec {m : Nat} (hm : m < 8) {x y z : Ty} {l0 l1 l2 c0 c1 c2 : Nat} (f0 : bit m 0 = true → FM t0 n1 s2 h x0 x l0 c0) (f1 : bit m 1 = true → FM t0 n1 s2 h x0 y l1 c1) (f2 : bit m 2 = true → FM t0 n1 s2 h x0 z l2 c2) : FM t0 n1 s2 h x0 (tRec m x y z) (l0 + (l1 + l2)) (n1 (8 + m) + (c0 + (c1 + c2))) := by sorry
end PmKh
abbrev FrT : Type := List (List (Nat × Nat))
def frg (F : FrT) (k : Nat) : List (Nat × Nat) := F.getD k []
def dom (l a : Nat) (L : List (Nat × Nat)) : Bool := L.any (fun p => decide (l ≤ p.1) && decide (a ≤ p.2))
theorem dom_ex {l a : Nat} {L : List (Nat × Nat)} (h : dom l a L = true) : ∃ p ∈ L, l ≤ p.1 ∧ a ≤ p.2 := by sorry
def frc (F G : FrT) (t0 fn s2 hv r0 r1 r2 r3 : Nat) : Bool :=
  (List.range 56).all (fun i => dom 0 t0 (frg F (i + 1)) && (dom 1 0 (frg F (i + 1)) && (decide (i = 0) || dom 0 r0 (frg F (i + 1))))) &&
  ((List.range 53).all (fun i => (frg F (i + 1)).all (fun p => dom p.1 (r1 + p.2) (frg F (i + 4)))) &&
  ((List.range 51).all (fun i => (frg G (i + 1)).all (fun p => dom p.1 (r2 + p.2) (frg F (i + 6)))) &&
  (List.range 56).all (fun i => (List.range (55 - i)).all (fun j =>
    ((frg F (i + 1)).all (fun p => (frg F (j + 1)).all (fun q => dom (p.1 + q.1) (p.2 + q.2) (frg G (i + j + 2))))) &&
    ((decide (51 < i + j) || (frg F (i + 1)).all (fun p => (frg F (j + 1)).all (fun q => dom (p.1 + q.1) (fn + p.2 + q.2) (frg F (i + j + 5))))) &&
    ((decide (50 < i + j) || (frg F (i + 1)).all (fun p => (frg F (j + 1)).all (fun q => dom (q.1 * max 1 p.1) (s2 + q.2 + q.1 * (hv + p.2)) (frg F (i + j + 6))))) &&
    (decide (47 < i + j) || (frg G (i + 1)).all (fun p => (frg F (j + 1)).all (fun q => dom (p.1 + q.1) (r3 + (p.2 + q.2)) (frg F (i + j + 9)))))))))))
def fxc (F : FrT) (X : List Nat) (hv x0 : Nat) : Bool :=
  decide (x0 ≤ X.getD 0 0) && (List.range 56).all (fun c => decide (X.getD c 0 ≤ X.getD (c + 1) 0) && (List.range (c - 3)).all (fun k => (frg F (k + 1)).all (fun p => decide (hv + p.2 + p.1 * X.getD (c + 1 - 4 - (k + 1)) 0 ≤ X.getD (c + 1) 0))))
end
section
-- from 99k16
def fr1 : List (List (Nat × Nat)) := [[], [(1, 0)], [(1, 0), (0, 2)], [(1, 0), (0, 2)], [(1, 2)], [(2, 2), (0, 4)], [(2, 2), (1, 4)], [(2, 2), (1, 6)], [(2, 4), (1, 6)], [(3, 4), (1, 6)], [(3, 4), (2, 7), (1, 8)], [(3, 4), (2, 11)], [(3, 6), (2, 11)], [(4, 6), (2, 11), (1, 12)], [(4, 11), (2, 15)], [(4, 11), (3, 16)], [(4, 11), (3, 16), (2, 19)], [(5, 8), (4, 15), (3, 16), (2, 20)], [(6, 16), (3, 22)], [(6, 16), (4, 21), (3, 22), (2, 23)], [(6, 16), (4, 29)], [(6, 22), (4, 29)], [(9, 22), (4, 29), (2, 31)], [(9, 22), (8, 29), (6, 31), (4, 37)], [(9, 22), (8, 29), (6, 43)], [(9, 28), (8, 29), (6, 43), (4, 45)], [(12, 29), (8, 37), (6, 43), (4, 47)], [(12, 43), (6, 55)], [(12, 43), (9, 58)], [(12, 43), (9, 58), (8, 65), (6, 67)], [(16, 37), (12, 55), (9, 58), (8, 65), (6, 70)], [(18, 58), (9, 76)], [(18, 58), (16, 65), (12, 77), (8, 81)], [(18, 58), (16, 65), (12, 97)], [(20, 46), (18, 76), (12, 97)], [(27, 76), (24, 77), (16, 81), (12, 101), (6, 103)], [(27, 76), (24, 97), (18, 103), (12, 121)], [(27, 76), (24, 97), (18, 139)], [(27, 94), (24, 101), (18, 139), (12, 145)], [(36, 101), (24, 121), (18, 139), (12, 151)], [(36, 139), (18, 175)], [(36, 139), (27, 184), (24, 185)], [(36, 139), (27, 184), (24, 205), (18, 211)], [(48, 129), (36, 175), (27, 184), (24, 205), (18, 220)], [(54, 184), (48, 185), (27, 238)], [(54, 184), (48, 205), (36, 245), (24, 253)], [(54, 184), (48, 205), (36, 301)], [(64, 161), (54, 238), (36, 301)], [(81, 238), (72, 245), (48, 253), (36, 317), (18, 319)], [(81, 238), (72, 301), (54, 319), (48, 321), (36, 373)], [(81, 238), (72, 301), (54, 427)], [(81, 292), (72, 317), (54, 427), (36, 445)], [(108, 317), (96, 321), (72, 373), (54, 427), (36, 463)], [(108, 427), (54, 535)], [(108, 427), (81, 562), (72, 569)], [(108, 427), (81, 562), (72, 625), (54, 643)], [(144, 417), (108, 535), (81, 562), (72, 625), (54, 670)]]
def fs1 : List (List (Nat × Nat)) := [[], [], [(2, 0)], [(2, 0), (1, 2)], [(2, 0), (1, 2), (0, 4)], [(2, 2), (0, 4)], [(3, 2), (1, 4)], [(3, 2), (2, 4), (0, 6)], [(3, 2), (2, 6)], [(3, 4), (2, 6), (1, 8)], [(4, 4), (2, 6), (1, 8)], [(4, 4), (3, 7), (2, 8)], [(4, 4), (3, 11)], [(4, 6), (3, 11), (2, 13)], [(5, 6), (3, 11), (2, 13)], [(5, 11), (3, 15)], [(5, 11), (4, 16), (2, 17)], [(5, 11), (4, 16), (3, 19)], [(6, 8), (5, 15), (4, 16), (3, 20), (2, 21)], [(7, 16), (4, 22)], [(7, 16), (6, 18), (5, 21), (4, 22), (3, 24)], [(7, 16), (6, 18), (5, 29)], [(7, 22), (5, 29), (4, 31)], [(10, 22), (6, 24), (5, 29), (4, 31)], [(10, 22), (9, 29), (7, 31), (5, 37)], [(10, 22), (9, 29), (8, 31), (7, 43)], [(10, 28), (9, 29), (8, 31), (7, 43), (6, 45)], [(13, 29), (9, 37), (7, 43), (6, 45), (5, 47)], [(13, 43), (7, 55)], [(13, 43), (12, 45), (10, 58)], [(13, 43), (12, 45), (10, 58), (9, 65), (7, 67)], [(17, 37), (13, 55), (10, 58), (9, 65), (8, 67), (7, 70)], [(19, 58), (10, 76)], [(19, 58), (18, 60), (17, 65), (13, 77), (9, 81)], [(19, 58), (18, 60), (17, 65), (16, 67), (13, 97)], [(21, 46), (19, 76), (13, 97), (12, 99)], [(28, 76), (25, 77), (18, 78), (17, 81), (13, 101), (7, 103)], [(28, 76), (27, 78), (25, 97), (19, 103), (13, 121)], [(28, 76), (27, 78), (25, 97), (24, 99), (19, 139)], [(28, 94), (25, 101), (19, 139), (18, 141), (13, 145)], [(37, 101), (25, 121), (19, 139), (18, 141), (13, 151)], [(37, 139), (19, 175)], [(37, 139), (36, 141), (28, 184), (25, 185)], [(37, 139), (36, 141), (28, 184), (27, 186), (25, 205), (19, 211)], [(49, 129), (37, 175), (28, 184), (27, 186), (25, 205), (24, 207), (19, 220)], [(55, 184), (49, 185), (28, 238)], [(55, 184), (54, 186), (49, 205), (37, 245), (25, 253)], [(55, 184), (54, 186), (49, 205), (48, 207), (37, 301)], [(65, 161), (55, 238), (37, 301), (36, 303)], [(82, 238), (73, 245), (49, 253), (37, 317), (19, 319)], [(82, 238), (81, 240), (73, 301), (55, 319), (49, 321), (37, 373)], [(82, 238), (81, 240), (73, 301), (72, 303), (55, 427)], [(82, 292), (73, 317), (55, 427), (54, 429), (37, 445)], [(109, 317), (97, 321), (73, 373), (55, 427), (54, 429), (37, 463)], [(109, 427), (55, 535)], [(109, 427), (108, 429), (82, 562), (73, 569)], [(109, 427), (108, 429), (82, 562), (81, 564), (73, 625), (55, 643)]]
def fx1 : List Nat := [1, 1, 1, 1, 1, 2, 3, 3, 4, 5, 6, 8, 8, 8, 10, 14, 14, 14, 18, 20, 22, 23, 26, 26, 34, 34, 34, 42, 50, 50, 52, 62, 68, 74, 77, 86, 90, 110, 110, 114, 134, 158, 158, 164, 194, 212, 230, 239, 266, 282, 338, 338, 354, 410, 482, 482, 500]
theorem fr1_ok : frc fr1 fs1 0 2 3 1 2 2 2 2 = true := by sorry
theorem fx1_ok : fxc fr1 fx1 1 1 = true := by sorry
def fr2 : List (List (Nat × Nat)) := [[], [(1, 0)], [(1, 0), (0, 3)], [(1, 0), (0, 3)], [(1, 3)], [(2, 3), (0, 6)], [(2, 3), (1, 6)], [(2, 3), (1, 8), (0, 9)], [(2, 6), (1, 8), (0, 9)], [(3, 6), (1, 9)], [(3, 6), (2, 9), (1, 11), (0, 12)], [(3, 6), (2, 15)], [(3, 9), (2, 15)], [(4, 9), (2, 15), (1, 16)], [(4, 15), (2, 21)], [(4, 15), (3, 22)], [(4, 15), (3, 22), (2, 27)], [(5, 12), (4, 21), (3, 22), (2, 27)], [(6, 22), (3, 31)], [(6, 22), (4, 29), (3, 31), (2, 33)], [(6, 22), (4, 39), (3, 40)], [(6, 31), (4, 39), (3, 40)], [(9, 31), (4, 41)], [(9, 31), (8, 39), (6, 40), (4, 51)], [(9, 31), (8, 39), (6, 58)], [(9, 40), (8, 41), (6, 58), (4, 63)], [(12, 41), (8, 51), (6, 58), (4, 63)], [(12, 58), (6, 76)], [(12, 58), (9, 79)], [(12, 58), (9, 79), (8, 87), (6, 94)], [(16, 53), (12, 76), (9, 79), (8, 87), (6, 94)], [(18, 79), (9, 106)], [(18, 79), (16, 87), (12, 105), (9, 106), (8, 111), (6, 112)], [(18, 79), (16, 87), (12, 130), (9, 133)], [(20, 66), (18, 106), (12, 130), (9, 133), (8, 135)], [(27, 106), (16, 111), (12, 141)], [(27, 106), (24, 130), (18, 133), (12, 166)], [(27, 106), (24, 130), (18, 187)], [(27, 133), (24, 141), (18, 187), (12, 202)], [(36, 141), (24, 166), (18, 187), (12, 202)], [(36, 187), (18, 241)], [(36, 187), (27, 250)], [(36, 187), (27, 250), (24, 274), (18, 295)], [(48, 181), (36, 241), (27, 250), (24, 274), (18, 295)], [(54, 250), (27, 331)], [(54, 250), (48, 274), (36, 333), (24, 346), (18, 349)], [(54, 250), (48, 274), (36, 403), (27, 412)], [(64, 229), (54, 331), (36, 403), (27, 412), (24, 418)], [(81, 331), (72, 333), (48, 346), (36, 441)], [(81, 331), (72, 403), (54, 412), (48, 437), (36, 511)], [(81, 331), (72, 403), (54, 574)], [(81, 412), (72, 441), (54, 574), (36, 619)], [(108, 441), (72, 511), (54, 574), (48, 581), (36, 619)], [(108, 574), (54, 736)], [(108, 574), (81, 763), (72, 765)], [(108, 574), (96, 581), (81, 763), (72, 835), (54, 898)], [(144, 581), (108, 736), (81, 763), (72, 835), (54, 898)]]
def fs2 : List (List (Nat × Nat)) := [[], [], [(2, 0)], [(2, 0), (1, 3)], [(2, 0), (1, 3), (0, 6)], [(2, 3), (0, 6)], [(3, 3), (1, 6)], [(3, 3), (2, 6), (0, 9)], [(3, 3), (2, 8), (1, 9)], [(3, 6), (2, 8), (1, 11), (0, 12)], [(4, 6), (2, 9), (1, 11), (0, 12)], [(4, 6), (3, 9), (2, 11), (1, 12)], [(4, 6), (3, 15)], [(4, 9), (3, 15), (2, 18)], [(5, 9), (3, 15), (2, 18)], [(5, 15), (3, 21)], [(5, 15), (4, 22), (2, 24)], [(5, 15), (4, 22), (3, 27)], [(6, 12), (5, 21), (4, 22), (3, 27), (2, 30)], [(7, 22), (4, 31)], [(7, 22), (6, 25), (5, 29), (4, 31), (3, 34)], [(7, 22), (6, 25), (5, 39), (4, 40)], [(7, 31), (5, 39), (4, 42), (3, 43)], [(10, 31), (6, 34), (5, 41), (4, 42), (3, 43)], [(10, 31), (9, 39), (7, 40), (5, 51)], [(10, 31), (9, 39), (8, 42), (7, 58)], [(10, 40), (9, 41), (8, 42), (7, 58), (6, 61), (5, 63)], [(13, 41), (9, 51), (7, 58), (6, 61), (5, 63), (4, 66)], [(13, 58), (7, 76)], [(13, 58), (12, 61), (10, 79)], [(13, 58), (12, 61), (10, 79), (9, 87), (7, 94)], [(17, 53), (13, 76), (10, 79), (9, 87), (8, 90), (7, 94), (6, 97)], [(19, 79), (10, 106)], [(19, 79), (18, 82), (17, 87), (13, 105), (10, 106), (9, 111), (7, 112)], [(19, 79), (18, 82), (17, 87), (16, 90), (13, 130), (10, 133)], [(21, 66), (19, 106), (13, 130), (12, 133), (9, 136)], [(28, 106), (18, 109), (17, 111), (13, 141)], [(28, 106), (27, 109), (25, 130), (19, 133), (13, 166)], [(28, 106), (27, 109), (25, 130), (24, 133), (19, 187)], [(28, 133), (25, 141), (19, 187), (18, 190), (13, 202)], [(37, 141), (25, 166), (19, 187), (18, 190), (13, 202), (12, 205)], [(37, 187), (19, 241)], [(37, 187), (36, 190), (28, 250)], [(37, 187), (36, 190), (28, 250), (27, 253), (25, 274), (19, 295)], [(49, 181), (37, 241), (28, 250), (27, 253), (25, 274), (24, 277), (19, 295), (18, 298)], [(55, 250), (28, 331)], [(55, 250), (54, 253), (49, 274), (37, 333), (27, 334), (25, 346), (19, 349)], [(55, 250), (54, 253), (49, 274), (48, 277), (37, 403), (28, 412)], [(65, 229), (55, 331), (37, 403), (36, 406), (28, 412), (27, 415), (25, 418)], [(82, 331), (73, 333), (54, 334), (49, 346), (37, 441)], [(82, 331), (81, 334), (73, 403), (55, 412), (49, 437), (37, 511)], [(82, 331), (81, 334), (73, 403), (72, 406), (55, 574)], [(82, 412), (73, 441), (55, 574), (54, 577), (37, 619)], [(109, 441), (73, 511), (55, 574), (54, 577), (49, 581), (37, 619), (36, 622)], [(109, 574), (55, 736)], [(109, 574), (108, 577), (82, 763), (73, 765)], [(109, 574), (108, 577), (97, 581), (82, 763), (81, 766), (73, 835), (55, 898)]]
def fx2 : List Nat := [2, 2, 2, 2, 2, 3, 4, 4, 6, 8, 9, 11, 11, 13, 14, 20, 20, 20, 26, 29, 32, 32, 38, 38, 48, 48, 50, 60, 71, 72, 72, 89, 98, 107, 107, 125, 130, 155, 155, 166, 191, 224, 227, 227, 278, 305, 332, 332, 386, 406, 476, 476, 514, 584, 683, 692, 692]
theorem fr2_ok : frc fr2 fs2 0 3 4 1 3 3 3 3 = true := by sorry
theorem fx2_ok : fxc fr2 fx2 1 2 = true := by sorry
def fr3 : List (List (Nat × Nat)) := [[], [(1, 0)], [(1, 0), (0, 4)], [(1, 0), (0, 4)], [(1, 4)], [(2, 4), (0, 8)], [(2, 4), (1, 8)], [(2, 4), (1, 10), (0, 12)], [(2, 8), (1, 10), (0, 12)], [(3, 8), (1, 12)], [(3, 8), (2, 12), (1, 14), (0, 16)], [(3, 8), (2, 19)], [(3, 12), (2, 19), (0, 20)], [(4, 12), (2, 19), (1, 20)], [(4, 19), (2, 27)], [(4, 19), (3, 28)], [(4, 19), (3, 28), (2, 35)], [(5, 16), (4, 27), (3, 28), (2, 35)], [(6, 28), (3, 40)], [(6, 28), (4, 37), (3, 40), (2, 43)], [(6, 28), (4, 49), (3, 52)], [(6, 40), (4, 49), (3, 52)], [(9, 40), (4, 53)], [(9, 40), (8, 49), (6, 52), (4, 65)], [(9, 40), (8, 49), (6, 73)], [(9, 52), (8, 53), (6, 73), (4, 81)], [(12, 53), (8, 65), (6, 73), (4, 81)], [(12, 73), (6, 97)], [(12, 73), (9, 100)], [(12, 73), (9, 100), (8, 109), (6, 121)], [(16, 69), (12, 97), (9, 100), (8, 109), (6, 121)], [(18, 100), (9, 136)], [(18, 100), (16, 109), (12, 133), (9, 136), (8, 141), (6, 145)], [(18, 100), (16, 109), (12, 163), (9, 172)], [(20, 86), (18, 136), (12, 163), (9, 172), (8, 173)], [(27, 136), (16, 141), (12, 181)], [(27, 136), (24, 163), (18, 172), (12, 211)], [(27, 136), (24, 163), (18, 235)], [(27, 172), (24, 181), (18, 235), (12, 259)], [(36, 181), (24, 211), (18, 235), (12, 259)], [(36, 235), (18, 307)], [(36, 235), (27, 316)], [(36, 235), (27, 316), (24, 343), (18, 379)], [(48, 233), (36, 307), (27, 316), (24, 343), (18, 379)], [(54, 316), (27, 424)], [(54, 316), (48, 343), (36, 421), (27, 424), (24, 439), (18, 451)], [(54, 316), (48, 343), (36, 505), (27, 532)], [(64, 297), (54, 424), (36, 505), (27, 532), (24, 535)], [(81, 424), (48, 439), (36, 565)], [(81, 424), (72, 505), (54, 532), (48, 553), (36, 649)], [(81, 424), (72, 505), (54, 721)], [(81, 532), (72, 565), (54, 721), (36, 793)], [(108, 565), (72, 649), (54, 721), (48, 745), (36, 793)], [(108, 721), (54, 937)], [(108, 721), (81, 964)], [(108, 721), (96, 745), (81, 964), (72, 1045), (54, 1153)], [(144, 745), (108, 937), (81, 964), (72, 1045), (54, 1153)]]
def fs3 : List (List (Nat × Nat)) := [[], [], [(2, 0)], [(2, 0), (1, 4)], [(2, 0), (1, 4), (0, 8)], [(2, 4), (0, 8)], [(3, 4), (1, 8)], [(3, 4), (2, 8), (0, 12)], [(3, 4), (2, 10), (1, 12)], [(3, 8), (2, 10), (1, 14), (0, 16)], [(4, 8), (2, 12), (1, 14), (0, 16)], [(4, 8), (3, 12), (2, 14), (1, 16)], [(4, 8), (3, 19), (0, 20)], [(4, 12), (3, 19), (2, 23)], [(5, 12), (3, 19), (2, 23), (0, 24)], [(5, 19), (3, 27)], [(5, 19), (4, 28), (2, 31)], [(5, 19), (4, 28), (3, 35)], [(6, 16), (5, 27), (4, 28), (3, 35), (2, 39)], [(7, 28), (4, 40)], [(7, 28), (6, 32), (5, 37), (4, 40), (3, 44)], [(7, 28), (6, 32), (5, 49), (4, 52)], [(7, 40), (5, 49), (4, 53), (3, 56)], [(10, 40), (6, 44), (5, 53), (3, 56)], [(10, 40), (9, 49), (7, 52), (5, 65)], [(10, 40), (9, 49), (8, 53), (7, 73)], [(10, 52), (9, 53), (7, 73), (6, 77), (5, 81)], [(13, 53), (9, 65), (7, 73), (6, 77), (5, 81), (4, 85)], [(13, 73), (7, 97)], [(13, 73), (12, 77), (10, 100), (6, 101)], [(13, 73), (12, 77), (10, 100), (9, 109), (7, 121)], [(17, 69), (13, 97), (10, 100), (9, 109), (8, 113), (7, 121), (6, 125)], [(19, 100), (12, 101), (10, 136)], [(19, 100), (18, 104), (17, 109), (13, 133), (10, 136), (9, 141), (7, 145)], [(19, 100), (18, 104), (17, 109), (16, 113), (13, 163), (10, 172)], [(21, 86), (19, 136), (13, 163), (12, 167), (10, 172), (9, 176)], [(28, 136), (18, 140), (17, 141), (13, 181)], [(28, 136), (27, 140), (25, 163), (19, 172), (13, 211)], [(28, 136), (27, 140), (25, 163), (24, 167), (19, 235)], [(28, 172), (25, 181), (19, 235), (18, 239), (13, 259)], [(37, 181), (25, 211), (19, 235), (18, 239), (13, 259), (12, 263)], [(37, 235), (19, 307)], [(37, 235), (36, 239), (28, 316)], [(37, 235), (36, 239), (28, 316), (27, 320), (25, 343), (19, 379)], [(49, 233), (37, 307), (28, 316), (27, 320), (25, 343), (24, 347), (19, 379), (18, 383)], [(55, 316), (28, 424)], [(55, 316), (54, 320), (49, 343), (37, 421), (28, 424), (27, 428), (25, 439), (19, 451)], [(55, 316), (54, 320), (49, 343), (48, 347), (37, 505), (28, 532)], [(65, 297), (55, 424), (37, 505), (36, 509), (28, 532), (27, 536)], [(82, 424), (54, 428), (49, 439), (37, 565)], [(82, 424), (81, 428), (73, 505), (55, 532), (49, 553), (37, 649)], [(82, 424), (81, 428), (73, 505), (72, 509), (55, 721)], [(82, 532), (73, 565), (55, 721), (54, 725), (37, 793)], [(109, 565), (73, 649), (55, 721), (54, 725), (49, 745), (37, 793), (36, 797)], [(109, 721), (55, 937)], [(109, 721), (108, 725), (82, 964)], [(109, 721), (108, 725), (97, 745), (82, 964), (81, 968), (73, 1045), (55, 1153)]]
def fx3 : List Nat := [3, 3, 3, 3, 3, 4, 5, 5, 8, 11, 12, 14, 15, 18, 19, 26, 26, 26, 34, 38, 42, 42, 50, 50, 62, 62, 68, 78, 92, 94, 94, 116, 128, 140, 140, 164, 170, 200, 200, 218, 248, 290, 296, 296, 362, 398, 434, 434, 506, 530, 614, 614, 674, 758, 884, 902, 902]
theorem fr3_ok : frc fr3 fs3 0 4 5 1 4 4 4 4 = true := by sorry
theorem fx3_ok : fxc fr3 fx3 1 3 = true := by sorry
def frq : List (List (Nat × Nat)) := [[], [(1, 0), (0, 1)], [(1, 0), (0, 1)], [(1, 0), (0, 1)], [(1, 3), (0, 4)], [(2, 1), (1, 3), (0, 4)], [(2, 1), (1, 3), (0, 4)], [(2, 2), (1, 6), (0, 7)], [(2, 4), (1, 6), (0, 7)], [(3, 2), (2, 4), (1, 6), (0, 7)], [(3, 2), (2, 5), (1, 9), (0, 10)], [(3, 3), (2, 7), (1, 9), (0, 10)], [(3, 5), (2, 7), (1, 9), (0, 10)], [(4, 3), (3, 5), (2, 10), (1, 12), (0, 13)], [(4, 4), (3, 6), (2, 10), (1, 12), (0, 13)], [(4, 4), (3, 8), (2, 11), (1, 12), (0, 13)], [(4, 6), (3, 8), (2, 16)], [(5, 4), (4, 10), (3, 15), (2, 16)], [(6, 6), (4, 10), (3, 15), (2, 17)], [(6, 6), (4, 12), (3, 16), (2, 22)], [(6, 9), (4, 16), (3, 24)], [(6, 15), (4, 20), (3, 24)], [(9, 9), (6, 15), (4, 22), (3, 25), (2, 28)], [(9, 9), (8, 10), (6, 18), (4, 22), (3, 33)], [(9, 12), (6, 24), (4, 32), (3, 33)], [(9, 18), (8, 20), (6, 24), (5, 25), (4, 34)], [(12, 12), (9, 18), (8, 22), (6, 33), (4, 34), (3, 42)], [(12, 15), (9, 21), (8, 24), (6, 33), (4, 44)], [(12, 16), (9, 27), (8, 32), (6, 36), (5, 40), (4, 46)], [(12, 24), (10, 25), (9, 27), (8, 34), (6, 51)], [(16, 16), (12, 33), (9, 48), (6, 51), (4, 56)], [(18, 21), (12, 33), (9, 48), (6, 54), (5, 55), (4, 58)], [(18, 21), (16, 22), (12, 39), (10, 40), (9, 51), (6, 69)], [(18, 30), (12, 51), (9, 75)], [(20, 20), (18, 48), (12, 64), (9, 75)], [(27, 30), (18, 48), (12, 69), (9, 78), (6, 87)], [(27, 30), (24, 33), (18, 57), (12, 69), (9, 102)], [(27, 39), (24, 40), (18, 75), (12, 100), (9, 102)], [(27, 57), (24, 64), (18, 75), (16, 84), (12, 105)], [(36, 40), (27, 57), (24, 69), (18, 102), (12, 105), (9, 129)], [(36, 48), (27, 66), (24, 76), (18, 102), (12, 136)], [(36, 52), (27, 84), (24, 100), (18, 111), (16, 132), (12, 141)], [(36, 76), (32, 84), (24, 105), (18, 156)], [(48, 52), (36, 102), (27, 147), (18, 156), (12, 172)], [(54, 66), (36, 102), (27, 147), (18, 165), (16, 180)], [(54, 66), (48, 69), (36, 120), (32, 132), (27, 156), (20, 165), (18, 210)], [(54, 93), (48, 100), (40, 105), (36, 156), (27, 228)], [(64, 68), (54, 147), (36, 196), (27, 228)], [(81, 93), (54, 147), (36, 210), (27, 237), (18, 264)], [(81, 93), (72, 102), (54, 174), (36, 210), (27, 309)], [(81, 120), (72, 124), (60, 125), (54, 228), (36, 304), (27, 309)], [(81, 174), (72, 196), (54, 228), (48, 260), (36, 318)], [(108, 124), (81, 174), (72, 210), (54, 309), (36, 318), (27, 390)], [(108, 147), (81, 201), (72, 232), (54, 309), (36, 412)], [(108, 160), (96, 164), (81, 255), (72, 304), (54, 336), (48, 404), (36, 426)], [(108, 232), (96, 260), (72, 318), (64, 340), (54, 471)], [(144, 164), (108, 309), (81, 444), (54, 471), (36, 520)]]
def fsq : List (List (Nat × Nat)) := [[], [], [(2, 0), (1, 1), (0, 2)], [(2, 0), (1, 1), (0, 2)], [(2, 0), (1, 1), (0, 2)], [(2, 3), (1, 4), (0, 5)], [(3, 1), (2, 3), (1, 4), (0, 5)], [(3, 1), (2, 3), (1, 4), (0, 5)], [(3, 2), (2, 6), (1, 7), (0, 8)], [(3, 4), (2, 6), (1, 7), (0, 8)], [(4, 2), (3, 4), (2, 6), (1, 7), (0, 8)], [(4, 2), (3, 5), (2, 9), (1, 10), (0, 11)], [(4, 3), (3, 7), (2, 9), (1, 10), (0, 11)], [(4, 5), (3, 7), (2, 9), (1, 10), (0, 11)], [(5, 3), (4, 5), (3, 10), (2, 12), (1, 13), (0, 14)], [(5, 4), (4, 6), (3, 10), (2, 12), (1, 13), (0, 14)], [(5, 4), (4, 8), (3, 11), (2, 12), (1, 13), (0, 14)], [(5, 6), (4, 8), (3, 16), (2, 17)], [(6, 4), (5, 10), (4, 15), (3, 16), (2, 17)], [(7, 6), (6, 7), (5, 10), (4, 15), (3, 17), (2, 18)], [(7, 6), (6, 7), (5, 12), (4, 16), (3, 22), (2, 23)], [(7, 9), (6, 10), (5, 16), (4, 24), (3, 25)], [(7, 15), (6, 16), (5, 20), (4, 24), (3, 25)], [(10, 9), (9, 10), (7, 15), (6, 16), (5, 22), (4, 25), (3, 28), (2, 29)], [(10, 9), (9, 10), (8, 11), (7, 18), (6, 19), (5, 22), (4, 33), (3, 34)], [(10, 12), (9, 13), (7, 24), (6, 25), (5, 32), (4, 33), (3, 34)], [(10, 18), (9, 20), (8, 21), (7, 24), (6, 25), (5, 34), (4, 35)], [(13, 12), (12, 13), (10, 18), (9, 22), (8, 23), (7, 33), (6, 34), (4, 42), (3, 43)], [(13, 15), (12, 16), (10, 21), (9, 24), (8, 25), (7, 33), (6, 34), (5, 44), (4, 45)], [(13, 16), (12, 17), (10, 27), (9, 32), (8, 33), (7, 36), (6, 40), (5, 46), (4, 47)], [(13, 24), (12, 25), (10, 27), (9, 34), (8, 35), (7, 51), (6, 52)], [(17, 16), (16, 17), (13, 33), (12, 34), (10, 48), (9, 49), (7, 51), (6, 52), (5, 56), (4, 57)], [(19, 21), (18, 22), (13, 33), (12, 34), (10, 48), (9, 49), (7, 54), (6, 55), (5, 58), (4, 59)], [(19, 21), (18, 22), (16, 23), (13, 39), (12, 40), (10, 51), (9, 52), (7, 69), (6, 70)], [(19, 30), (18, 31), (13, 51), (12, 52), (10, 75), (9, 76)], [(21, 20), (20, 21), (19, 48), (18, 49), (13, 64), (12, 65), (10, 75), (9, 76)], [(28, 30), (27, 31), (19, 48), (18, 49), (13, 69), (12, 70), (10, 78), (9, 79), (7, 87), (6, 88)], [(28, 30), (27, 31), (25, 33), (24, 34), (19, 57), (18, 58), (13, 69), (12, 70), (10, 102), (9, 103)], [(28, 39), (27, 40), (24, 41), (19, 75), (18, 76), (13, 100), (12, 101), (10, 102), (9, 103)], [(28, 57), (27, 58), (25, 64), (24, 65), (19, 75), (18, 76), (17, 84), (16, 85), (13, 105), (12, 106)], [(37, 40), (36, 41), (28, 57), (27, 58), (25, 69), (24, 70), (19, 102), (18, 103), (13, 105), (12, 106), (10, 129), (9, 130)], [(37, 48), (36, 49), (28, 66), (27, 67), (25, 76), (24, 77), (19, 102), (18, 103), (13, 136), (12, 137)], [(37, 52), (36, 53), (28, 84), (27, 85), (25, 100), (24, 101), (19, 111), (18, 112), (17, 132), (16, 133), (13, 141), (12, 142)], [(37, 76), (36, 77), (33, 84), (32, 85), (25, 105), (24, 106), (19, 156), (18, 157)], [(49, 52), (48, 53), (37, 102), (36, 103), (28, 147), (27, 148), (19, 156), (18, 157), (13, 172), (12, 173)], [(55, 66), (54, 67), (37, 102), (36, 103), (28, 147), (27, 148), (19, 165), (18, 166), (17, 180), (16, 181)], [(55, 66), (54, 67), (49, 69), (48, 70), (37, 120), (36, 121), (33, 132), (32, 133), (28, 156), (27, 157), (21, 165), (20, 166), (19, 210), (18, 211)], [(55, 93), (54, 94), (49, 100), (48, 101), (41, 105), (40, 106), (37, 156), (36, 157), (28, 228), (27, 229)], [(65, 68), (64, 69), (55, 147), (54, 148), (37, 196), (36, 197), (28, 228), (27, 229)], [(82, 93), (81, 94), (55, 147), (54, 148), (37, 210), (36, 211), (28, 237), (27, 238), (19, 264), (18, 265)], [(82, 93), (81, 94), (73, 102), (72, 103), (55, 174), (54, 175), (37, 210), (36, 211), (28, 309), (27, 310)], [(82, 120), (81, 121), (73, 124), (72, 125), (60, 126), (55, 228), (54, 229), (37, 304), (36, 305), (28, 309), (27, 310)], [(82, 174), (81, 175), (73, 196), (72, 197), (55, 228), (54, 229), (49, 260), (48, 261), (37, 318), (36, 319)], [(109, 124), (108, 125), (82, 174), (81, 175), (73, 210), (72, 211), (55, 309), (54, 310), (37, 318), (36, 319), (28, 390), (27, 391)], [(109, 147), (108, 148), (82, 201), (81, 202), (73, 232), (72, 233), (55, 309), (54, 310), (37, 412), (36, 413)], [(109, 160), (108, 161), (97, 164), (96, 165), (82, 255), (81, 256), (73, 304), (72, 305), (55, 336), (54, 337), (49, 404), (48, 405), (37, 426), (36, 427)], [(109, 232), (108, 233), (97, 260), (96, 261), (73, 318), (72, 319), (65, 340), (64, 341), (55, 471), (54, 472)]]
def fxq : List Nat := [1, 1, 1, 1, 1, 1, 1, 1, 4, 4, 4, 7, 7, 7, 10, 10, 10, 13, 13, 13, 18, 18, 19, 24, 27, 27, 30, 36, 36, 38, 45, 48, 50, 57, 60, 62, 75, 84, 84, 93, 111, 112, 117, 138, 148, 153, 174, 184, 196, 228, 255, 255, 282, 336, 340, 354, 417]
theorem frq_ok : frc frq fsq 1 1 1 0 1 3 2 1 = true := by sorry
theorem fxq_ok : fxc frq fxq 0 1 = true := by sorry
end
section
-- from 99k17
theorem nlb_cases : ∀ m, m < 8 → (nlb m = 0 ∧ m = 0) ∨ nlb m = 1 ∨ nlb m = 2 ∨ nlb m = 3 := by sorry
theorem rng_all {n : Nat} {p : Nat → Bool} (h : (List.range n).all p = true) {i : Nat} (hi : i < n) : p i = true := by sorry
section PmKi
variable {F G : FrT} {t0 fn s2 hv r0 r1 r2 r3 : Nat}
theorem frc_0 (h : frc F G t0 fn s2 hv r0 r1 r2 r3 = true) {k : Nat} (k1 : 1 ≤ k) (k2 : k ≤ 56) : dom 0 t0 (frg F k) = true ∧ dom 1 0 (frg F k) = true ∧ (2 ≤ k → dom 0 r0 (frg F k) = true) := by sorry
theorem frc_1 (h : frc F G t0 fn s2 hv r0 r1 r2 r3 = true) {k : Nat} (k1 : 1 ≤ k) (k2 : k + 3 ≤ 56) {p : Nat × Nat} (hp : p ∈ frg F k) : dom p.1 (r1 + p.2) (frg F (k + 3)) = true := by sorry
theorem frc_2 (h : frc F G t0 fn s2 hv r0 r1 r2 r3 = true) {k : Nat} (k1 : 1 ≤ k) (k2 : k + 5 ≤ 56) {p : Nat × Nat} (hp : p ∈ frg G k) : dom p.1 (r2 + p.2) (frg F (k + 5)) = true := by sorry
theorem frc_p (h : frc F G t0 fn s2 hv r0 r1 r2 r3 = true) {i j : Nat} (i1 : 1 ≤ i) (j1 : 1 ≤ j) (k2 : i + j ≤ 56) : (∀ p ∈ frg F i, ∀ q ∈ frg F j, dom (p.1 + q.1) (p.2 + q.2) (frg G (i + j)) = true) ∧ (i + j + 3 ≤ 56 → ∀ p ∈ frg F i, ∀ q ∈ frg F j, dom (p.1 + q.1) (fn + p.2 + q.2) (frg F (i + j + 3)) = true) ∧ (i + j + 4 ≤ 56 → ∀ p ∈ frg F i, ∀ q ∈ frg F j, dom (q.1 * max 1 p.1) (s2 + q.2 + q.1 * (hv + p.2)) (frg F (i + j + 4)) = true) ∧ (i + j + 7 ≤ 56 → ∀ p ∈ frg G i, ∀ q ∈ frg F j, dom (p.1 + q.1) (r3 + (p.2 + q.2)) (frg F (i + j + 7)) = true) := by sorry
end PmKi
section PmKj
variable {F G : FrT} {t0 fn s2 hv r0 r1 r2 r3 x0 : Nat} {n1 h : Nat → Nat}
theorem fr_form (hc : frc F G t0 fn s2 hv r0 r1 r2 r3 = true) (H : ∀ y x, x0 ≤ x → h y ≤ hv + max y x) (hf1 : n1 1 ≤ fn) (hr : ∀ m, m < 8 → n1 (8 + m) ≤ (if nlb m = 0 then r0 else if nlb m = 1 then r1 else if nlb m = 2 then r2 else r3)) : ∀ (f : Nat) (t : Ty) (d : Nat), (flat t).length ≤ f → ok d t = true → tch t ≤ 56 → ∃ p ∈ frg F (tch t), FM t0 n1 s2 h x0 t p.1 p.2 := by sorry
end PmKj

end
section
-- from 99k18
section PmKk
variable {F G : FrT} {X : List Nat} {t0 fn s2 hv r0 r1 r2 r3 x0 : Nat} {n1 h : Nat → Nat}
theorem fxc_mono (h1 : fxc F X hv x0 = true) {c : Nat} (hc : c < 56) : X.getD c 0 ≤ X.getD (c + 1) 0 := by sorry
theorem fxc_le (h1 : fxc F X hv x0 = true) : ∀ {c d : Nat}, c ≤ d → d ≤ 56 → X.getD c 0 ≤ X.getD d 0 := by sorry
theorem fxc_x0 (h1 : fxc F X hv x0 = true) {c : Nat} (hc : c ≤ 56) : x0 ≤ X.getD c 0 := by sorry
theorem fxc_step (h1 : fxc F X hv x0 = true) {c k : Nat} (k1 : 1 ≤ k) (hk : k + 4 ≤ c) (hc : c ≤ 56) {p : Nat × Nat} (hp : p ∈ frg F k) : hv + p.2 + p.1 * X.getD (c - 4 - k) 0 ≤ X.getD c 0 := by sorry
theorem onz_chars (hc : frc F G t0 fn s2 hv r0 r1 r2 r3 = true) (hx : fxc F X hv x0 = true) (H : ∀ y x, x0 ≤ x → h y ≤ hv + max y x) (hf1 : n1 1 ≤ fn) (hr : ∀ m, m < 8 → n1 (8 + m) ≤ (if nlb m = 0 then r0 else if nlb m = 1 then r1 else if nlb m = 2 then r2 else r3)) : ∀ (Γ : List Ty), okc Γ → cch Γ ≤ 56 → ∀ j, j < Γ.length → vw (onz t0 n1 s2 h Γ) j ≤ X.getD (cch Γ) 0 := by sorry
theorem nz_chars (hc : frc F G t0 fn s2 hv r0 r1 r2 r3 = true) (hx : fxc F X hv x0 = true) (H : ∀ y x, x0 ≤ x → h y ≤ hv + max y x) (hf1 : n1 1 ≤ fn) (hr : ∀ m, m < 8 → n1 (8 + m) ≤ (if nlb m = 0 then r0 else if nlb m = 1 then r1 else if nlb m = 2 then r2 else r3)) {Γ : List Ty} {t : Ty} (ho : okc Γ) (o : ok Γ.length t = true) (k1 : cch Γ ≤ 56) (k2 : tch t ≤ 56) : ∃ p ∈ frg F (tch t), nz t0 n1 s2 h (onz t0 n1 s2 h Γ) t ≤ p.2 + p.1 * X.getD (cch Γ) 0 := by sorry
end PmKk
def fvc (F : FrT) (X : List Nat) (N B : Nat) : Bool := (List.range N).all (fun k => (List.range (N - k)).all (fun c => (frg F (k + 1)).all (fun p => decide (p.2 + p.1 * X.getD c 0 ≤ B))))
theorem fvc_le {F : FrT} {X : List Nat} {N B : Nat} (h : fvc F X N B = true) {k c : Nat} (k1 : 1 ≤ k) (hk : k + c ≤ N) {p : Nat × Nat} (hp : p ∈ frg F k) : p.2 + p.1 * X.getD c 0 ≤ B := by sorry
theorem fv1_ok : fvc fr1 fx1 56 724 = true := by sorry
theorem fv2_ok : fvc fr2 fx2 51 887 = true := by sorry
theorem fv3_ok : fvc fr3 fx3 46 887 = true := by sorry
theorem fvq_ok : fvc frq fxq 56 556 = true := by sorry
theorem vlr_H (b : Bool) (e : Nat) : ∀ y x, e ≤ x → vlr b e y ≤ 1 + max y x := by sorry
theorem ngc_r : ∀ m, m < 8 → ngc (8 + m) ≤ (if nlb m = 0 then 1 else if nlb m = 1 then 3 else if nlb m = 2 then 2 else 1) := by sorry
theorem rows_first {b : Bool} {Γ : List Ty} {t : Ty} (ho : okc Γ) (o : ok Γ.length t = true) (hk : tch t + cch Γ ≤ 56) : nz 0 (fun _ => 1 + 1) (2 + 1) (vlr b 1) (onz 0 (fun _ => 1 + 1) (2 + 1) (vlr b 1) Γ) t ≤ 724 := by sorry
theorem goals_first {Γ : List Ty} {t : Ty} (ho : okc Γ) (o : ok Γ.length t = true) (hk : tch t + cch Γ ≤ 56) : nz 1 ngc 1 (fun x => x) (onz 1 ngc 1 (fun x => x) Γ) t ≤ 556 := by sorry
end
section
-- from 99k19
def flv : Ty → Nat
  | .tag c (.append a b) => if c = 2 then flv b * max 1 (flv a) else flv a + flv b
  | .tag c .nil => if 16 ≤ c then 1 else 0
  | .append a b => flv a + flv b
  | _ => 0
def fav (t0 : Nat) (n1 : Nat → Nat) (s2 hv : Nat) : Ty → Nat
  | .tag c (.append a b) => if c = 2 then s2 + fav t0 n1 s2 hv b + flv b * (hv + fav t0 n1 s2 hv a) else n1 c + (fav t0 n1 s2 hv a + fav t0 n1 s2 hv b)
  | .tag c .nil => if 16 ≤ c then 0 else t0
  | .append a b => fav t0 n1 s2 hv a + fav t0 n1 s2 hv b
  | _ => 0
section PmKl
variable {t0 s2 hv x0 : Nat} {n1 h : Nat → Nat}
theorem flv_top : flv tTop = 0 := by sorry
theorem flv_var (k : Nat) : flv (tVar k) = 1 := by sorry
theorem flv_nil : flv .nil = 0 := by sorry
theorem flv_fun (a b : Ty) : flv (tFun a b) = flv a + flv b := by sorry
theorem flv_all (a b : Ty) : flv (tAll a b) = flv b * max 1 (flv a) := by sorry
theorem flv_rec {m : Nat} (x y z : Ty) : flv (tRec m x y z) = flv x + (flv y + flv z) := by sorry
theorem fav_top : fav t0 n1 s2 hv tTop = t0 := by sorry
theorem fav_var (k : Nat) : fav t0 n1 s2 hv (tVar k) = 0 := by sorry
theorem fav_nil : fav t0 n1 s2 hv .nil = 0 := by sorry
theorem fav_fun (a b : Ty) : fav t0 n1 s2 hv (tFun a b) = n1 1 + (fav t0 n1 s2 hv a + fav t0 n1 s2 hv b) := by sorry
theorem fav_all (a b : Ty) : fav t0 n1 s2 hv (tAll a b) = s2 + fav t0 n1 s2 hv b + flv b * (hv + fav t0 n1 s2 hv a) := by sorry
theorem fav_rec {m : Nat} (x y z : Ty) : fav t0 n1 s2 hv (tRec m x y z) = n1 (8 + m) + (fav t0 n1 s2 hv x + (fav t0 n1 s2 hv y + fav t0 n1 s2 hv z)) := by sorry
end PmKl

end
section
-- from 99k20
section PmKm
variable {F G : FrT} {t0 fn s2 hv r0 r1 r2 r3 : Nat} {n1 : Nat → Nat}
def Lfa (t0 : Nat) (n1 : Nat → Nat) (s2 hv : Nat) (t : Ty) (l a : Nat) : Prop := flv t ≤ l ∧ fav t0 n1 s2 hv t ≤ a
theorem Lfa.mono {t : Ty} {l a l' a' : Nat} (f : Lfa t0 n1 s2 hv t l a) (h1 : l ≤ l') (h2 : a ≤ a') : Lfa t0 n1 s2 hv t l' a' := by sorry
theorem Lfa_top : Lfa t0 n1 s2 hv tTop 0 t0 := by sorry
theorem Lfa_var (k : Nat) : Lfa t0 n1 s2 hv (tVar k) 1 0 := by sorry
theorem Lfa_fun {a b : Ty} {l1 l2 c1 c2 : Nat} (f : Lfa t0 n1 s2 hv a l1 c1) (g : Lfa t0 n1 s2 hv b l2 c2) : Lfa t0 n1 s2 hv (tFun a b) (l1 + l2) (n1 1 + c1 + c2) := by sorry
theorem Lfa_all {a b : Ty} {l1 l2 c1 c2 : Nat} (f : Lfa t0 n1 s2 hv a l1 c1) (g : Lfa t0 n1 s2 hv b l2 c2) : Lfa t0 n1 s2 hv (tAll a b) (l2 * max 1 l1) (s2 + c2 + l2 * (hv + c1)) := by sorry
theorem Lfa_rec {m d : Nat} {x y z : Ty} {l0 l1 l2 c0 c1 c2 : Nat} (o0 : okl d m 0 x) (o1 : okl d m 1 y) (o2 : okl d m 2 z) (f0 : bit m 0 = true → Lfa t0 n1 s2 hv x l0 c0) (f1 : bit m 1 = true → Lfa t0 n1 s2 hv y l1 c1) (f2 : bit m 2 = true → Lfa t0 n1 s2 hv z l2 c2) : Lfa t0 n1 s2 hv (tRec m x y z) (l0 + (l1 + l2)) (n1 (8 + m) + (c0 + (c1 + c2))) := by sorry
theorem fr_lfa (hc : frc F G t0 fn s2 hv r0 r1 r2 r3 = true) (hf1 : n1 1 ≤ fn) (hr : ∀ m, m < 8 → n1 (8 + m) ≤ (if nlb m = 0 then r0 else if nlb m = 1 then r1 else if nlb m = 2 then r2 else r3)) : ∀ (f : Nat) (t : Ty) (d : Nat), (flat t).length ≤ f → ok d t = true → tch t ≤ 56 → ∃ p ∈ frg F (tch t), Lfa t0 n1 s2 hv t p.1 p.2 := by sorry
end PmKm

end
section
-- from 99k23
section PmKo
variable {t0 s2 : Nat} {n1 h : Nat → Nat}
theorem nz_lft (ν ω : List Nat) : ∀ (f : Nat) (t : Ty) (μ : List Nat), (flat t).length ≤ f → ok (ω.length + μ.length) t = true → nz t0 n1 s2 h (μ ++ (ν ++ ω)) (lft ω.length ν.length t) = nz t0 n1 s2 h (μ ++ ω) t := by sorry
theorem nz_sbt (A : Ty) (ω : List Nat) (hA : ok ω.length A = true) : ∀ (f : Nat) (t : Ty) (μ : List Nat), (flat t).length ≤ f → ok (ω.length + 1 + μ.length) t = true → nz t0 n1 s2 h (μ ++ ω) (sbt ω.length A μ.length t) = nz t0 n1 s2 h (μ ++ (nz t0 n1 s2 h ω A :: ω)) t := by sorry
end PmKo

end
section
-- from 99k26
def FMn (t0 : Nat) (n1 : Nat → Nat) (s2 : Nat) (h : Nat → Nat) (x0 n : Nat) (t : Ty) (l a : Nat) : Prop := ∀ (x : Nat) (ω : List Nat), x0 ≤ x → ω.length = n → (∀ j, j < ω.length → vw ω j ≤ x) → nz t0 n1 s2 h ω t ≤ a + l * x
section PmKq
variable {t0 s2 x0 n : Nat} {n1 h : Nat → Nat} {t a b : Ty} {l l1 l2 c c1 c2 : Nat}
theorem FM.at (f : FM t0 n1 s2 h x0 t l c) (o : ok n t = true) : FMn t0 n1 s2 h x0 n t l c := by sorry
theorem FMn.mono (f : FMn t0 n1 s2 h x0 n t l c) (h1 : l ≤ l1) (h2 : c ≤ c1) : FMn t0 n1 s2 h x0 n t l1 c1 := by sorry
theorem FMn.fun1 (f : FMn t0 n1 s2 h x0 n (tFun a b) l c) : FMn t0 n1 s2 h x0 n a l c ∧ FMn t0 n1 s2 h x0 n b l c := by sorry
theorem FMn.rec1 {m : Nat} {x y z : Ty} (f : FMn t0 n1 s2 h x0 n (tRec m x y z) l c) : FMn t0 n1 s2 h x0 n x l c ∧ FMn t0 n1 s2 h x0 n y l c ∧ FMn t0 n1 s2 h x0 n z l c := by sorry
end PmKq

end
section
-- from 99k29
theorem trx_nzS {e : Nat} {Γ : List Ty} {S T : Ty} (b : Bool) (tb : TB e (Γ, S, T)) : trx (Γ, S, T) ≤ nz 0 (fun _ => 1 + e) (2 + e) (vlr b e) (onz 0 (fun _ => 1 + e) (2 + e) (vlr b e) Γ) S := by sorry
theorem trx_nzT {e : Nat} {Γ : List Ty} {S T : Ty} (b : Bool) (tb : TB e (Γ, S, T)) : trx (Γ, S, T) ≤ nz 0 (fun _ => 1 + e) (2 + e) (vlr b e) (onz 0 (fun _ => 1 + e) (2 + e) (vlr b e) Γ) T := by sorry
end
section
-- from 99k30
theorem rows_first2 {b : Bool} {Γ : List Ty} {t : Ty} (ho : okc Γ) (o : ok Γ.length t = true) (hk : tch t + cch Γ ≤ 51) : nz 0 (fun _ => 1 + 2) (2 + 2) (vlr b 2) (onz 0 (fun _ => 1 + 2) (2 + 2) (vlr b 2) Γ) t ≤ 887 := by sorry
theorem rows_first3 {b : Bool} {Γ : List Ty} {t : Ty} (ho : okc Γ) (o : ok Γ.length t = true) (hk : tch t + cch Γ ≤ 46) : nz 0 (fun _ => 1 + 3) (2 + 3) (vlr b 3) (onz 0 (fun _ => 1 + 3) (2 + 3) (vlr b 3) Γ) t ≤ 887 := by sorry
theorem join_first2 {Γ : List Ty} {S T : Ty} (tb : TB 2 (Γ, S, T)) (hk : tch S + cch Γ ≤ 51 ∨ tch T + cch Γ ≤ 51) : gm (0, Γ, S, T) ≤ 887 ∧ gn (0, Γ, S, T) ≤ 556 ∧ trx (Γ, S, T) ≤ 887 := by sorry
theorem join_first3 {Γ : List Ty} {S T : Ty} (tb : TB 3 (Γ, S, T)) (hk : tch S + cch Γ ≤ 46 ∨ tch T + cch Γ ≤ 46) : gm (0, Γ, S, T) ≤ 887 ∧ gn (0, Γ, S, T) ≤ 556 ∧ trx (Γ, S, T) ≤ 887 := by sorry
end
section
-- from 99l01
section PmL1
variable {t0 s2 : Nat} {n1 h h' : Nat → Nat}
theorem nz_mono (hh : ∀ y y', y ≤ y' → h y ≤ h' y') : ∀ (f : Nat) (t : Ty) (ω ω' : List Nat), (flat t).length ≤ f → ω'.length = ω.length → ok ω.length t = true → (∀ j, j < ω.length → vw ω j ≤ vw ω' j) → nz t0 n1 s2 h ω t ≤ nz t0 n1 s2 h' ω' t := by sorry
def CV (t0 : Nat) (n1 : Nat → Nat) (s2 : Nat) (h : Nat → Nat) : List Nat → List Ty → Prop
  | [], [] => True
  | w :: ω, b :: Γ => (nz t0 n1 s2 h ω b ≤ w ∧ t0 ≤ w) ∧ CV t0 n1 s2 h ω Γ
  | _, _ => False
theorem CV.len : ∀ {ω : List Nat} {Γ : List Ty}, CV t0 n1 s2 h ω Γ → ω.length = Γ.length := by sorry
theorem CV.bd : ∀ {ω : List Nat} {Γ : List Ty} {k : Nat}, okc Γ → CV t0 n1 s2 h ω Γ → k < Γ.length → ∃ ν ω1 : List Nat, ω = ν ++ ω1 ∧ ω1.length = k ∧ ok k (bnd Γ k) = true ∧ nz t0 n1 s2 h ω1 (bnd Γ k) ≤ vw ω k ∧ t0 ≤ vw ω k := by sorry
theorem CV.exp {ω : List Nat} {Γ : List Ty} {k : Nat} (hc : okc Γ) (hv : CV t0 n1 s2 h ω Γ) (hk : k < Γ.length) : nz t0 n1 s2 h ω (lft k (Γ.length - k) (bnd Γ k)) ≤ vw ω k := by sorry
def NC (t0 : Nat) (n1 : Nat → Nat) (s2 : Nat) (h : Nat → Nat) : Prop := (∀ c, t0 ≤ n1 c) ∧ t0 ≤ s2 ∧ (∀ y, y ≤ h y) ∧ ∀ w m m', m < 8 → m' < 8 → n1 (8 + lset w m m') ≤ n1 (8 + m) + n1 (8 + m')
theorem nz_t0 (hn : NC t0 n1 s2 h) {ω : List Nat} {t : Ty} (hw : ∀ j, j < ω.length → t0 ≤ vw ω j) (o : ok ω.length t = true) : t0 ≤ nz t0 n1 s2 h ω t := by sorry
theorem CV.low {ω : List Nat} {Γ : List Ty} (hc : okc Γ) (hv : CV t0 n1 s2 h ω Γ) : ∀ j, j < ω.length → t0 ≤ vw ω j := by sorry
theorem CV.ext (hn : NC t0 n1 s2 h) {ω : List Nat} {Γ : List Ty} {a : Ty} (hc : okc Γ) (oa : ok Γ.length a = true) (hv : CV t0 n1 s2 h ω Γ) : CV t0 n1 s2 h (h (nz t0 n1 s2 h ω a) :: ω) (a :: Γ) := by sorry
theorem upart_nz {ω : List Nat} {r : Ty → Ty → Ru} {set m m' i : Nat} {x y a : Ty} (hr : bit m i = true → bit m' i = true → ∀ R, r x y = some R → nz t0 n1 s2 h ω R ≤ nz t0 n1 s2 h ω x + nz t0 n1 s2 h ω y) (e : upart r set m m' i x y = some a) : nz t0 n1 s2 h ω a ≤ nz t0 n1 s2 h ω x + nz t0 n1 s2 h ω y := by sorry
theorem cu_nz (hn : NC t0 n1 s2 h) : ∀ (f w : Nat) (Γ : List Ty) (S T R : Ty) (ω : List Nat), CV t0 n1 s2 h ω Γ → tok (Γ, S, T) → cu f w Γ S T = some R → nz t0 n1 s2 h ω R ≤ nz t0 n1 s2 h ω S + nz t0 n1 s2 h ω T := by sorry
theorem cmu_nz (hn : NC t0 n1 s2 h) {w : Nat} {Γ : List Ty} {S T R : Ty} {ω : List Nat} (hv : CV t0 n1 s2 h ω Γ) (tk : tok (Γ, S, T)) (e : cmu w Γ S T = some R) : nz t0 n1 s2 h ω R ≤ nz t0 n1 s2 h ω S + nz t0 n1 s2 h ω T := by sorry
theorem expo_nz {ω : List Nat} {Γ : List Ty} (hc : okc Γ) (hv : CV t0 n1 s2 h ω Γ) : ∀ (f : Nat) (S : Ty), ok Γ.length S = true → nz t0 n1 s2 h ω (expo Γ f S) ≤ nz t0 n1 s2 h ω S := by sorry
end PmL1

end
section
-- from 99l02
def hzx (h : Nat → Nat) (z y : Nat) : Nat := max z (h y)
end
section
-- from 99l03
def EX1 : Nat → Ty → List Ty → List (Nat × Ty × Nat) → Prop
  | 0, _, _, _ => True
  | f + 1, t, Γ, Δ => (nKd t = 6 → EX1 f (nY t) Γ ((nPl t, nX t, Γ.length) :: Δ)) ∧ (nKd t = 7 ∨ nKd t = 9 ∨ nKd t = 11 → EX1 f (nX t) Γ Δ ∧ ∀ S, tyF f (nX t) Γ Δ = .inr S → hd S < 16) ∧ (nKd t = 8 → EX1 f (nY t) (nX t :: Γ) Δ) ∧ (nKd t = 10 → ∀ g, g < 3 → bit (nMk t) g = true → EX1 f (nP t g) Γ Δ) ∧ nKd t ≠ 12
def EX0 : Nat → Ty → List Ty → List (Nat × Ty × Nat) → Prop
  | 0, _, _, _ => True
  | f + 1, t, Γ, Δ => (nKd t = 6 → EX0 f (nY t) Γ ((nPl t, nX t, Γ.length) :: Δ)) ∧ (nKd t = 7 ∨ nKd t = 11 → EX0 f (nX t) Γ Δ) ∧ (nKd t = 8 → EX0 f (nY t) (nX t :: Γ) Δ) ∧ (nKd t = 9 → EX1 f (nX t) Γ Δ ∧ ∀ S, tyF f (nX t) Γ Δ = .inr S → hd S < 16) ∧ (nKd t = 10 → ∀ g, g < 3 → bit (nMk t) g = true → EX0 f (nP t g) Γ Δ) ∧ (nKd t = 12 → EX0 f (nX t) Γ Δ ∧ EX0 f (nY t) Γ Δ)
def GV1 (t0 : Nat) (n1 : Nat → Nat) (s2 : Nat) (h : Nat → Nat) : Nat → Ty → Nat → List Nat → List Ty → List (Nat × Ty × Nat) → Nat
  | 0, _, _, _, _, _ => 0
  | f + 1, t, z, ω, Γ, Δ =>
    if nKd t = 5 then (match dlk Δ (nMk t) with
      | none => 0
      | some a => nz t0 n1 s2 (hzx h z) ω (lft a.2 (Γ.length - a.2) a.1))
    else if nKd t = 6 then n1 1 + (nz t0 n1 s2 (hzx h z) ω (nX t) + GV1 t0 n1 s2 h f (nY t) z ω Γ ((nPl t, nX t, Γ.length) :: Δ))
    else if nKd t = 7 then GV1 t0 n1 s2 h f (nX t) z ω Γ Δ
    else if nKd t = 8 then s2 + GV1 t0 n1 s2 h f (nY t) z (hzx h z (nz t0 n1 s2 (hzx h z) ω (nX t)) :: ω) (nX t :: Γ) Δ
    else if nKd t = 9 then GV1 t0 n1 s2 h f (nX t) (max z (nz t0 n1 s2 (hzx h z) ω (nY t))) ω Γ Δ
    else if nKd t = 10 then n1 (8 + nMk t) + ((if bit (nMk t) 0 = true then GV1 t0 n1 s2 h f (nX t) z ω Γ Δ else 0) + ((if bit (nMk t) 1 = true then GV1 t0 n1 s2 h f (nY t) z ω Γ Δ else 0) + (if bit (nMk t) 2 = true then GV1 t0 n1 s2 h f (nZ t) z ω Γ Δ else 0)))
    else if nKd t = 11 then GV1 t0 n1 s2 h f (nX t) z ω Γ Δ
    else 0
def GV0 (t0 : Nat) (n1 : Nat → Nat) (s2 : Nat) (h : Nat → Nat) : Nat → Ty → List Nat → List Ty → List (Nat × Ty × Nat) → Nat
  | 0, _, _, _, _ => 0
  | f + 1, t, ω, Γ, Δ =>
    if nKd t = 5 then (match dlk Δ (nMk t) with
      | none => 0
      | some a => nz t0 n1 s2 h ω (lft a.2 (Γ.length - a.2) a.1))
    else if nKd t = 6 then n1 1 + (nz t0 n1 s2 h ω (nX t) + GV0 t0 n1 s2 h f (nY t) ω Γ ((nPl t, nX t, Γ.length) :: Δ))
    else if nKd t = 7 then GV0 t0 n1 s2 h f (nX t) ω Γ Δ
    else if nKd t = 8 then s2 + GV0 t0 n1 s2 h f (nY t) (h (nz t0 n1 s2 h ω (nX t)) :: ω) (nX t :: Γ) Δ
    else if nKd t = 9 then GV1 t0 n1 s2 h f (nX t) (nz t0 n1 s2 h ω (nY t)) ω Γ Δ
    else if nKd t = 10 then n1 (8 + nMk t) + ((if bit (nMk t) 0 = true then GV0 t0 n1 s2 h f (nX t) ω Γ Δ else 0) + ((if bit (nMk t) 1 = true then GV0 t0 n1 s2 h f (nY t) ω Γ Δ else 0) + (if bit (nMk t) 2 = true then GV0 t0 n1 s2 h f (nZ t) ω Γ Δ else 0)))
    else if nKd t = 11 then GV0 t0 n1 s2 h f (nX t) ω Γ Δ
    else (if nKd (nX t) = 5 ∧ nKd (nY t) = 5 ∧ nMk (nX t) = nMk (nY t) then GV0 t0 n1 s2 h f (nX t) ω Γ Δ else GV0 t0 n1 s2 h f (nX t) ω Γ Δ + GV0 t0 n1 s2 h f (nY t) ω Γ Δ)
theorem tyF_name {f : Nat} {x y : Ty} {Γ : List Ty} {Δ : List (Nat × Ty × Nat)} {S T : Ty} (x5 : nKd x = 5) (y5 : nKd y = 5) (e : nMk x = nMk y) (hS : tyF f x Γ Δ = .inr S) (hT : tyF f y Γ Δ = .inr T) : S = T := by sorry
section PmL3
variable {t0 s2 : Nat} {n1 h h' : Nat → Nat}
theorem hzx_0 : hzx h 0 = h := by sorry
theorem expo_lo {Γ : List Ty} {S : Ty} (e : hd S < 16) : ∀ {f : Nat}, expo Γ f S = S := by sorry
theorem nz_inst1 (hm : ∀ y y', y ≤ y' → h y ≤ h y') {z : Nat} {ω : List Nat} {Γ : List Ty} {B C Q : Ty} (hl : ω.length = Γ.length) (oQ : ok Γ.length Q = true) (oC : ok (Γ.length + 1) C = true) : nz t0 n1 s2 (hzx h z) ω (sbt Γ.length Q 0 C) ≤ nz t0 n1 s2 (hzx h (max z (nz t0 n1 s2 (hzx h z) ω Q))) ω (tAll B C) := by sorry
theorem tyF_nz1 (hn : NC t0 n1 s2 h) (hm : ∀ y y', y ≤ y' → h y ≤ h y') : ∀ (f : Nat) (t : Ty) (Γ : List Ty) (Δ : List (Nat × Ty × Nat)) (A : Ty) (z : Nat) (ω : List Nat), TWf f Γ.length (Δ.map (fun a => a.1)) t → TE Γ Δ → EX1 f t Γ Δ → ω.length = Γ.length → tyF f t Γ Δ = .inr A → nz t0 n1 s2 (hzx h z) ω A ≤ GV1 t0 n1 s2 h f t z ω Γ Δ := by sorry
theorem tyF_nz0 (hn : NC t0 n1 s2 h) (hm : ∀ y y', y ≤ y' → h y ≤ h y') : ∀ (f : Nat) (t : Ty) (Γ : List Ty) (Δ : List (Nat × Ty × Nat)) (A : Ty) (ω : List Nat), TWf f Γ.length (Δ.map (fun a => a.1)) t → TE Γ Δ → EX0 f t Γ Δ → CV t0 n1 s2 h ω Γ → tyF f t Γ Δ = .inr A → nz t0 n1 s2 h ω A ≤ GV0 t0 n1 s2 h f t ω Γ Δ := by sorry
end PmL3

end
