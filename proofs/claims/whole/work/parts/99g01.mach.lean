/-! RUNNING TERMS: values as trees, environments, what a move does. -/
/-- a function, or a term for every type, with its environment; a record -/
def vC (t ρ : Ty) : Ty := .append t ρ
def vR (m : Nat) (x y z : Ty) : Ty := .tag m (.append x (.append y z))
def eN (p : Nat) (v r : Ty) : Ty := .nest (p : Int) (.append v r)
def elk : Ty → Nat → Option Ty
  | .nest p (.append v r), m => if p = (m : Int) then some v else elk r m
  | _, _ => none
theorem elk_eN (p : Nat) (v r : Ty) (m : Nat) : elk (eN p v r) m = if p = m then some v else elk r m := by
  show (if (p : Int) = (m : Int) then some v else elk r m) = _
  by_cases c : p = m
  · rw [if_pos c, if_pos (by omega)]
  · rw [if_neg c, if_neg (by omega)]
def isC : Ty → Nat → Bool
  | .append t _, c => nKd t == c
  | _, _ => false
def cT : Ty → Ty
  | .append t _ => t
  | _ => .nil
def cE : Ty → Ty
  | .append _ ρ => ρ
  | _ => .nil
def isR : Ty → Nat → Bool
  | .tag m _, g => bit m g
  | _, _ => false
def rP : Ty → Nat → Ty
  | .tag _ (.append x (.append y z)), g => if g = 0 then x else if g = 1 then y else z
  | _, _ => .nil
/-- a record with a part put in -/
def sP : Ty → Nat → Ty → Ty
  | .tag m (.append x (.append y z)), g, v => if g = 0 then vR m v y z else if g = 1 then vR m x v z else vR m x y v
  | w, _, _ => w
/-- the first label of a set, from g on; 3: none -/
def nxl (m g : Nat) : Nat := if g ≤ 0 ∧ bit m 0 = true then 0 else if g ≤ 1 ∧ bit m 1 = true then 1 else if g ≤ 2 ∧ bit m 2 = true then 2 else 3
/-- what waits: the term, its environment, what is there of it, which part is run -/
abbrev Fr : Type := Ty × Ty × Ty × Nat
/-- a term is entered, or a value comes back -/
abbrev Cf : Type := Sum (Ty × Ty × List Fr) (Ty × List Fr)
def mvE (t ρ : Ty) (k : List Fr) : Option (Bool × Cf) :=
  if nKd t = 5 then (elk ρ (nMk t)).map (fun v => (false, .inr (v, k)))
  else if nKd t = 6 ∨ nKd t = 8 then some (false, .inr (vC t ρ, k))
  else if nKd t = 10 then (if nxl (nMk t) 0 < 3 then some (false, .inl (nP t (nxl (nMk t) 0), ρ, (t, ρ, vR (nMk t) .nil .nil .nil, nxl (nMk t) 0) :: k)) else some (false, .inr (vR (nMk t) .nil .nil .nil, k)))
  else if nKd t = 12 then some (true, .inl (if nMk t = 0 then nX t else nY t, ρ, k))
  else some (false, .inl (nX t, ρ, (t, ρ, .nil, 0) :: k))
def mvR (v : Ty) : List Fr → Option (Bool × Cf)
  | [] => none
  | (t, ρ, w, g) :: k =>
    if nKd t = 7 then (if g = 0 then some (false, .inl (nY t, ρ, (t, ρ, v, 1) :: k)) else if isC w 6 = true then some (true, .inl (nY (cT w), eN (nPl (cT w)) v (cE w), k)) else none)
    else if nKd t = 9 then (if isC v 8 = true then some (true, .inl (nY (cT v), cE v, k)) else none)
    else if nKd t = 11 then (if isR v (nMk t) = true then some (true, .inr (rP v (nMk t), k)) else none)
    else if nxl (nMk t) (g + 1) < 3 then some (false, .inl (nP t (nxl (nMk t) (g + 1)), ρ, (t, ρ, sP w g v, nxl (nMk t) (g + 1)) :: k)) else some (false, .inr (sP w g v, k))
def mv : Cf → Option (Bool × Cf)
  | .inl (t, ρ, k) => mvE t ρ k
  | .inr (v, k) => mvR v k
/-- n moves go well, or the value is reached before -/
def Sf : Nat → Cf → Prop
  | 0, _ => True
  | n + 1, c => (∃ v, c = .inr (v, [])) ∨ ∃ b c', mv c = some (b, c') ∧ Sf n c'
theorem Sf.step {n : Nat} {c c' : Cf} {b : Bool} (h : mv c = some (b, c')) (hs : Sf n c') : Sf (n + 1) c := Or.inr ⟨b, c', h, hs⟩
theorem Sf.down : ∀ (n : Nat) (c : Cf), Sf (n + 1) c → Sf n c
  | 0, _, _ => trivial
  | n + 1, c, h => by
    rcases h with h | ⟨b, c', e, h⟩
    · exact Or.inl h
    · exact Or.inr ⟨b, c', e, Sf.down n c' h⟩
abbrev Pr : Type := Nat → Ty → Prop
def dc (P : Pr) : Prop := ∀ n v, P (n + 1) v → P n v
theorem dc.le {P : Pr} (h : dc P) : ∀ {n m : Nat} {v : Ty}, m ≤ n → P n v → P m v
  | 0, m, v, hm, hp => by
    have : m = 0 := by omega
    subst this; exact hp
  | n + 1, m, v, hm, hp => by
    by_cases c : m = n + 1
    · subst c; exact hp
    · exact h.le (n := n) (by omega) (h n v hp)
/-- a term that comes to such a value, if it comes to one -/
def Ex (P : Pr) (n : Nat) (t ρ : Ty) : Prop := ∀ j, j ≤ n → ∀ k : List Fr, (∀ m, m ≤ j → ∀ v, P m v → Sf m (.inr (v, k))) → Sf j (.inl (t, ρ, k))
theorem Ex.le {P : Pr} {n m : Nat} {t ρ : Ty} (h : Ex P n t ρ) (hm : m ≤ n) : Ex P m t ρ := fun j hj k hk => h j (by omega) k hk
theorem Ex.imp {P P' : Pr} {n : Nat} {t ρ : Ty} (h : Ex P n t ρ) (e : ∀ m v, P m v → P' m v) : Ex P' n t ρ := fun j hj k hk => h j hj k (fun m hm v hv => hk m hm v (e m v hv))
