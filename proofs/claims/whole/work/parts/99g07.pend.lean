/-! HOW MUCH A RUN CAN STILL TAKE UP: nodes that may be entered before the next step. -/
/-- moves one after another: steps made, and where it stands -/
def itr : Nat → Cf → Option (Nat × Cf)
  | 0, c => some (0, c)
  | k + 1, c => match mv c with
    | none => none
    | some (b, c') => (itr k c').map (fun x => (x.1 + (if b = true then 1 else 0), x.2))
def pnd (t : Ty) : Nat := (tfl t).length
/-- the parts of a record behind label g -/
def pdR (t : Ty) (g : Nat) : Nat := (if g < 1 then pnd (nY t) else 0) + (if g < 2 then pnd (nZ t) else 0)
def pdF (f : Fr) : Nat := if nKd f.1 = 7 then (if f.2.2.2 = 0 then pnd (nY f.1) else 0) else if nKd f.1 = 10 then pdR f.1 f.2.2.2 else 0
def pdK : List Fr → Nat
  | [] => 0
  | f :: k => pdF f + pdK k
def pdC : Cf → Nat
  | .inl (t, _, k) => pnd t + pdK k
  | .inr (_, k) => pdK k
/-- moves before the next step, at most -/
def mvF (f : Fr) : Nat := if nKd f.1 = 7 then (if f.2.2.2 = 0 then 4 * pnd (nY f.1) + 1 else 0) else if nKd f.1 = 10 then 4 * pdR f.1 f.2.2.2 + (3 - f.2.2.2) else 0
def mvK : List Fr → Nat
  | [] => 0
  | f :: k => mvF f + mvK k
def mvC : Cf → Nat
  | .inl (t, _, k) => 4 * pnd t + mvK k
  | .inr (_, k) => mvK k
def lch : List (Nat × Int × Nat) → List Nat
  | [] => []
  | a :: r => if a.1 = 1 then a.2.2 :: lch r else lch r
def pN (t : Ty) (j g : Nat) : Nat := if g = 0 then j + 1 else if g = 1 then j + 1 + pnd (nX t) else j + 1 + pnd (nX t) + pnd (nY t)
theorem pnd_is {t : Ty} (h : t = mN (nPl t) (nKd t) (nMk t) (nX t) (nY t) (nZ t)) : pnd t = 1 + pnd (nX t) + pnd (nY t) + pnd (nZ t) := tfl_len h
/-- places go down -/
def DCl : List Nat → Prop
  | [] => True
  | p :: r => (∀ q ∈ r, q < p) ∧ DCl r
/-- node j of the model's term stands for t -/
def NV (N : pm_M) (a b : Nat) (t : Ty) (j : Nat) (s : Int) (ch : List (Nat × Int × Nat)) : Prop := ∃ F D, MNd 0 N a b F t s ch j ∧ TWf F D (lch ch) t ∧ j + pnd t ≤ a ∧ DCl (lch ch)
section PmG7
variable {N : pm_M} {a b j : Nat} {t : Ty} {s : Int} {ch : List (Nat × Int × Nat)}
theorem NV.sp (h : NV N a b t j s ch) : t = mN (nPl t) (nKd t) (nMk t) (nX t) (nY t) (nZ t) := by
  obtain ⟨F, D, h1, h2, h3, h4⟩ := h
  exact h2.shp
theorem NV.len (h : NV N a b t j s ch) : j + pnd t ≤ a := by
  obtain ⟨F, D, h1, h2, h3, h4⟩ := h
  exact h3
theorem NV.lt (h : NV N a b t j s ch) : j < a := by
  have h1 := h.len
  have h2 := pnd_is h.sp
  omega
theorem NV.kd (h : NV N a b t j s ch) : (5 ≤ nKd t ∧ nKd t ≤ 12) ∧ N 59 (j : Int) = (nKd t : Int) ∧ N 61 (j : Int) = (nPl t : Int) ∧ N 62 (j : Int) = s ∧ SCh 0 N a b s ch := by
  obtain ⟨F, D, h1, h2, h3, h4⟩ := h
  cases F with
  | zero => exact h1.elim
  | succ F => exact ⟨h2.1.1, h1.1.2⟩
theorem NV.mk (h : NV N a b t j s ch) : (nKd t = 5 → (0 ≤ N 60 (j : Int) ∧ N 60 (j : Int) ≤ 3) ∧ bnr ch (97 + N 60 (j : Int)) = some (nMk t)) ∧ (10 ≤ nKd t → N 60 (j : Int) = (nMk t : Int)) ∧ (nKd t = 10 → nMk t < 8) ∧ (nKd t = 11 → nMk t < 3) ∧ (nKd t = 12 → nMk t < 2) := by
  obtain ⟨F, D, h1, h2, h3, h4⟩ := h
  cases F with
  | zero => exact h1.elim
  | succ F => exact ⟨h1.2.1, h1.2.2.1, fun e => (h2.2.2.2.2.2.2.1 e).1, fun e => (h2.2.2.2.2.2.2.2.1 e).1, h2.2.2.2.2.2.2.2.2⟩
theorem NV.nx (h : NV N a b t j s ch) : NXl 0 N a b j (tfl t) true ∧ prx 1 (tfl t) = true := by
  obtain ⟨F, D, h1, h2, h3, h4⟩ := h
  exact h1.nx h2
/-- the part of a form that is run first -/
theorem NV.x (h : NV N a b t j s ch) (hk : nKd t = 7 ∨ nKd t = 9 ∨ nKd t = 11 ∨ nKd t = 12) : NV N a b (nX t) (j + 1) s ch := by
  have hp := pnd_is h.sp
  obtain ⟨F, D, h1, h2, h3, h4⟩ := h
  cases F with
  | zero => exact h1.elim
  | succ F =>
    obtain ⟨-, -, -, q, -⟩ := h1
    obtain ⟨-, -, -, w7, -, w9, -, w11, -⟩ := h2
    refine ⟨F, D, q ?_, ?_, by omega, h4⟩
    · unfold sk
      rcases hk with e | e | e | e <;> rw [e] <;> rfl
    · rcases hk with e | e | e | e
      · exact (w7 (Or.inl e)).1
      · exact (w9 e).1
      · exact (w11 e).2
      · exact (w7 (Or.inr e)).1
theorem NV.y (h : NV N a b t j s ch) (hk : nKd t = 7 ∨ nKd t = 12) : NV N a b (nY t) (j + 1 + pnd (nX t)) s ch := by
  have hp := pnd_is h.sp
  obtain ⟨F, D, h1, h2, h3, h4⟩ := h
  cases F with
  | zero => exact h1.elim
  | succ F =>
    obtain ⟨-, -, -, -, -, q, -⟩ := h1
    obtain ⟨-, -, -, w7, -⟩ := h2
    refine ⟨F, D, q ?_ (by omega), (w7 hk).2, by omega, h4⟩
    unfold sk
    rcases hk with e | e <;> rw [e] <;> rfl
theorem NV.body (h : NV N a b t j s ch) (hk : nKd t = 6 ∨ nKd t = 8) : ∃ nm, N 64 (N 63 (j : Int)) = s ∧ NV N a b (nY t) (j + 1 + pnd (nX t)) (N 63 (j : Int)) ((if nKd t = 6 then 1 else 0, nm, nPl t) :: ch) := by
  have hp := pnd_is h.sp
  obtain ⟨F, D, h1, h2, h3, h4⟩ := h
  cases F with
  | zero => exact h1.elim
  | succ F =>
    obtain ⟨-, -, -, -, -, -, q, -⟩ := h1
    obtain ⟨w0, -, w6, -, w8, -⟩ := h2
    obtain ⟨nm, q1, q2, q3⟩ := q hk
    rcases hk with e | e
    · have el : lch ((if nKd t = 6 then 1 else 0, nm, nPl t) :: ch) = nPl t :: lch ch := by
        show (if (if nKd t = 6 then 1 else 0) = 1 then nPl t :: lch ch else lch ch) = _
        rw [if_pos (by rw [if_pos e])]
      refine ⟨nm, q1.2, F, D, q3, ?_, by omega, ?_⟩
      · rw [el]; exact (w6 e).2.2.2
      · rw [el]; exact ⟨w0.2.2.2, h4⟩
    · have el : lch ((if nKd t = 6 then 1 else 0, nm, nPl t) :: ch) = lch ch := by
        show (if (if nKd t = 6 then 1 else 0) = 1 then nPl t :: lch ch else lch ch) = _
        rw [if_neg (by rw [if_neg (by omega)]; omega)]
      refine ⟨nm, q1.2, F, D + 1, q3, ?_, by omega, ?_⟩
      · rw [el]; exact (w8 e).2.2
      · rw [el]; exact h4
/-- the type in front of the body -/
theorem NV.ty (h : NV N a b t j s ch) (hk : nKd t = 6 ∨ nKd t = 8) : NXl 0 N a b (j + 1) (flat (nX t)) true ∧ prx 1 (flat (nX t)) = true ∧ (flat (nX t)).length = pnd (nX t) := by
  obtain ⟨F, D, h1, h2, h3, h4⟩ := h
  cases F with
  | zero => exact h1.elim
  | succ F =>
    obtain ⟨-, -, -, -, q, -⟩ := h1
    obtain ⟨-, -, w6, -, w8, -⟩ := h2
    have ho : ok D (nX t) = true := by
      rcases hk with e | e
      · exact (w6 e).2.1
      · exact (w8 e).1
    have q := (q (sk_6 hk).1).1
    exact ⟨q.nx, prx_pre q.pos (ok_pre _ _ ho), by unfold pnd; rw [tfl_ty ho]⟩
theorem NV.part (h : NV N a b t j s ch) (hk : nKd t = 10) {g : Nat} (hg : g < 3) (hb : bit (nMk t) g = true) : NV N a b (nP t g) (pN t j g) s ch := by
  have hp := pnd_is h.sp
  obtain ⟨F, D, h1, h2, h3, h4⟩ := h
  cases F with
  | zero => exact h1.elim
  | succ F =>
    obtain ⟨-, -, -, q0, -, q1, -, -, q2⟩ := h1
    obtain ⟨-, -, -, -, -, -, w10, -⟩ := h2
    have tw := (w10 hk).2 g hg hb
    have hs : sk (nKd t) (nMk t) g = 1 := by rw [hk]; exact sk_rec.1.mpr hb
    have : g = 0 ∨ g = 1 ∨ g = 2 := by omega
    rcases this with rfl | rfl | rfl
    · exact ⟨F, D, q0 hs, tw, by show j + 1 + pnd (nX t) ≤ a; omega, h4⟩
    · exact ⟨F, D, q1 hs (by omega), tw, by show j + 1 + pnd (nX t) + pnd (nY t) ≤ a; omega, h4⟩
    · exact ⟨F, D, q2 hs, tw, by show j + 1 + pnd (nX t) + pnd (nY t) + pnd (nZ t) ≤ a; omega, h4⟩
theorem NV.nil (h : NV N a b t j s ch) (hk : nKd t = 10) {g : Nat} (hg : g < 3) (hb : ¬ bit (nMk t) g = true) : pnd (nP t g) = 0 := by
  obtain ⟨F, D, h1, h2, h3, h4⟩ := h
  cases F with
  | zero => exact h1.elim
  | succ F =>
    have hs : sk (nKd t) (nMk t) g = 0 := by
      rw [hk]
      have e1 := sk_any (k := 10) (m := nMk t) (g := g) ⟨by omega, by omega⟩ hg
      rcases e1 with e | e | e
      · exact e
      · exact absurd (sk_rec.1.mp e) hb
      · exact absurd e.1 sk_rec.2
    rw [h2.1.2.2.1 g hg hs]; rfl
end PmG7
