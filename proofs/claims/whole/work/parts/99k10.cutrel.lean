/-! THE CUT WALK: how its types stand to those of the walk. -/
def CXI (κ : Ty → Bool) (k : Nat) (Γ : List Ty) : Prop := ∀ j, j < Γ.length → j ≠ k → ∀ m, Γ.length ≤ m → PNs κ k m (lft j (m - j) (bnd Γ j)) = true ∧ ∀ r, Γ.length ≤ r → Wn κ k r (lft j (m - j) (bnd Γ j)) = true
def CW (κ : Ty → Bool) (k r : Nat) (Γ : List Ty) : Prop := ∀ j, j < Γ.length → j ≠ k → ∀ m, Γ.length ≤ m → Wn κ k r (lft j (m - j) (bnd Γ j)) = true
def CGf (k r : Nat) (Γ : List Ty) : Prop := ∀ j, j < Γ.length → r ≤ j → ∀ m, Γ.length ≤ m → gpn k r (lft j (m - j) (bnd Γ j)) = false
/-- the one names no level between, and all that may be cut in the other does -/
def SEP (κ : Ty → Bool) (k : Nat) (Γ : List Ty) (X Y : Ty) : Prop := ∃ r, k < r ∧ r < Γ.length ∧ gpn k r X = false ∧ Wn κ k r Y = true ∧ CW κ k r Γ ∧ CGf k r Γ
def CTo (κ : Ty → Bool) (X X' : Ty) : Prop := X' = X ∨ X' = ct κ X
def GT (κ : Ty → Bool) (k : Nat) (Γ : List Ty) (X X' Y Y' : Ty) : Prop := (ok Γ.length X = true ∧ ok Γ.length X' = true ∧ ok Γ.length Y = true ∧ ok Γ.length Y' = true) ∧ PNs κ k Γ.length X = true ∧ PNs κ k Γ.length Y = true ∧ ((X' = X ∧ Y' = Y) ∨ (CTo κ X X' ∧ CTo κ Y Y' ∧ (SEP κ k Γ X Y ∨ SEP κ k Γ Y X)))
section PmKc
variable {κ : Ty → Bool} {k : Nat} {Γ : List Ty} {X X' Y Y' : Ty}
theorem CTo.hd (h : CTo κ X X') : hd X = hd X' := by
  rcases h with e | e
  · rw [e]
  · rw [e, ct_hd]
theorem CTo.var (h : CTo κ X X') {j : Nat} (e : X = tVar j) : X' = tVar j := by
  subst e
  rcases h with e | e
  · exact e
  · rw [e, ct_var]
theorem CTo.shape (h : CTo κ X X') : (∀ a b, X = tFun a b → ∃ a' b', X' = tFun a' b' ∧ CTo κ a a' ∧ CTo κ b b') ∧ (∀ m x y z, X = tRec m x y z → ∃ x' y' z', X' = tRec m x' y' z' ∧ CTo κ x x' ∧ CTo κ y y' ∧ CTo κ z z') ∧ (∀ a b, X = tAll a b → ∃ b', X' = tAll a b' ∧ (κ a = false → CTo κ b b')) := by
  refine ⟨fun a b e => ?_, fun m x y z e => ?_, fun a b e => ?_⟩ <;> subst e <;> rcases h with e | e
  · exact ⟨_, _, e, Or.inl rfl, Or.inl rfl⟩
  · exact ⟨_, _, by rw [e, ct_fun], Or.inr rfl, Or.inr rfl⟩
  · exact ⟨_, _, _, e, Or.inl rfl, Or.inl rfl, Or.inl rfl⟩
  · exact ⟨_, _, _, by rw [e, ct_rec], Or.inr rfl, Or.inr rfl, Or.inr rfl⟩
  · exact ⟨_, e, fun _ => Or.inl rfl⟩
  · refine ⟨_, by rw [e, ct_all], fun ka => Or.inr ?_⟩
    rw [ka]; rfl
theorem GT.cto (h : GT κ k Γ X X' Y Y') : CTo κ X X' ∧ CTo κ Y Y' := by
  rcases h.2.2.2 with ⟨e1, e2⟩ | ⟨e1, e2, -⟩
  · exact ⟨Or.inl e1, Or.inl e2⟩
  · exact ⟨e1, e2⟩
theorem GT.swap (h : GT κ k Γ X X' Y Y') : GT κ k Γ Y Y' X X' := by
  refine ⟨⟨h.1.2.2.1, h.1.2.2.2, h.1.1, h.1.2.1⟩, h.2.2.1, h.2.1, ?_⟩
  rcases h.2.2.2 with ⟨e1, e2⟩ | ⟨e1, e2, e3⟩
  · exact Or.inl ⟨e2, e1⟩
  · exact Or.inr ⟨e2, e1, e3.symm⟩
theorem SEP.mono (h : SEP κ k Γ X Y) {x y : Ty} (h1 : ∀ r, gpn k r X = false → gpn k r x = false) (h2 : ∀ r, Wn κ k r Y = true → Wn κ k r y = true) : SEP κ k Γ x y := by
  obtain ⟨r, a1, a2, a3, a4, a5, a6⟩ := h
  exact ⟨r, a1, a2, h1 r a3, h2 r a4, a5, a6⟩
theorem SEP.fun1 {a b a1 b1 : Ty} (h : SEP κ k Γ (tFun a b) (tFun a1 b1)) : SEP κ k Γ a a1 ∧ SEP κ k Γ b b1 := by
  refine ⟨h.mono (fun r e => ?_) (fun r e => ?_), h.mono (fun r e => ?_) (fun r e => ?_)⟩
  · rw [gpn_fun, Bool.or_eq_false_iff] at e; exact e.1
  · rw [Wn_fun, Bool.and_eq_true] at e; exact e.1
  · rw [gpn_fun, Bool.or_eq_false_iff] at e; exact e.2
  · rw [Wn_fun, Bool.and_eq_true] at e; exact e.2
theorem SEP.rec1 {m m' : Nat} (hm : m < 8) {x y z x1 y1 z1 : Ty} (h : SEP κ k Γ (tRec m x y z) (tRec m' x1 y1 z1)) : SEP κ k Γ x x1 ∧ SEP κ k Γ y y1 ∧ SEP κ k Γ z z1 := by
  refine ⟨h.mono (fun r e => ?_) (fun r e => ?_), h.mono (fun r e => ?_) (fun r e => ?_), h.mono (fun r e => ?_) (fun r e => ?_)⟩
  · rw [gpn_rec hm, Bool.or_eq_false_iff] at e; exact e.1
  · rw [Wn_rec, Bool.and_eq_true] at e; exact e.1
  · rw [gpn_rec hm, Bool.or_eq_false_iff, Bool.or_eq_false_iff] at e; exact e.2.1
  · rw [Wn_rec, Bool.and_eq_true, Bool.and_eq_true] at e; exact e.2.1
  · rw [gpn_rec hm, Bool.or_eq_false_iff, Bool.or_eq_false_iff] at e; exact e.2.2
  · rw [Wn_rec, Bool.and_eq_true, Bool.and_eq_true] at e; exact e.2.2
/-- a bound that both have is not cut, and names nothing between -/
theorem SEP.all1 (hκ : ∀ j m t, κ (lft j m t) = κ t) {a b b1 : Ty} (h : SEP κ k Γ (tAll a b) (tAll a b1)) : κ a = false ∧ SEP κ k (a :: Γ) b b1 := by
  obtain ⟨r, a1, a2, a3, a4, a5, a6⟩ := h
  rw [gpn_all, Bool.or_eq_false_iff] at a3
  rw [Wn_all, a3.1, Bool.false_or, Bool.and_eq_true, Bool.and_eq_true] at a4
  have ka : κ a = false := by
    cases hx : κ a with
    | true => rw [hx] at a4; exact absurd a4.1 (by decide)
    | false => rfl
  refine ⟨ka, r, a1, by rw [List.length_cons]; omega, a3.2, a4.2.2, ?_, ?_⟩
  · intro j hj jk m hm
    rw [List.length_cons] at hj hm
    show Wn κ k r (lft j (m - j) (if j = Γ.length then a else bnd Γ j)) = true
    by_cases e : j = Γ.length
    · rw [if_pos e]
      exact Wn_up hκ (Nat.le_refl _) (fun x => by omega) a a4.2.1
    · rw [if_neg e]
      exact a5 j (by omega) jk m (by omega)
  · intro j hj rj m hm
    rw [List.length_cons] at hj hm
    show gpn k r (lft j (m - j) (if j = Γ.length then a else bnd Γ j)) = false
    by_cases e : j = Γ.length
    · rw [if_pos e, gpn_low (by omega)]
      exact a3.1
    · rw [if_neg e]
      exact a6 j (by omega) rj m (by omega)
theorem CXI.ext (hκ : ∀ j m t, κ (lft j m t) = κ t) (h : CXI κ k Γ) {a : Ty} (h1 : PNs κ k Γ.length a = true) (h2 : Wn κ k Γ.length a = true) : CXI κ k (a :: Γ) := by
  intro j hj jk m hm
  rw [List.length_cons] at hj hm
  show PNs κ k m (lft j (m - j) (if j = Γ.length then a else bnd Γ j)) = true ∧ ∀ r, Γ.length + 1 ≤ r → Wn κ k r (lft j (m - j) (if j = Γ.length then a else bnd Γ j)) = true
  by_cases e : j = Γ.length
  · rw [if_pos e]
    have := PNs_up hκ j (m - j) a Γ.length (by omega) h1
    rw [show Γ.length + (m - j) = m by omega] at this
    exact ⟨this, fun r hr => Wn_up hκ (by omega) (fun x => by omega) a h2⟩
  · rw [if_neg e]
    obtain ⟨q1, q2⟩ := h j (by omega) jk m (by omega)
    exact ⟨q1, fun r hr => q2 r (by omega)⟩
theorem rp_ok {n m : Nat} (hm : m < 8) {x y z : Ty} (o : ok n (tRec m x y z) = true) {i : Nat} (hi : i < 3) (hb : bit m i = true) : ok n (rp i (tRec m x y z)) = true := by
  obtain ⟨o0, o1, o2⟩ := (ok_rec hm).mp o
  rcases (show i = 0 ∨ i = 1 ∨ i = 2 by omega) with rfl | rfl | rfl
  · exact okl_on o0 (bit_iff.mp hb)
  · exact okl_on o1 (bit_iff.mp hb)
  · exact okl_on o2 (bit_iff.mp hb)
theorem rp_PNs {n m : Nat} {x y z : Ty} (o : PNs κ k n (tRec m x y z) = true) {i : Nat} (hi : i < 3) : PNs κ k n (rp i (tRec m x y z)) = true := by
  rw [PNs_rec, Bool.and_eq_true, Bool.and_eq_true] at o
  rcases (show i = 0 ∨ i = 1 ∨ i = 2 by omega) with rfl | rfl | rfl
  · exact o.1
  · exact o.2.1
  · exact o.2.2
theorem GT.rec1 (h : GT κ k Γ X X' Y Y') (x1 : 8 ≤ hd X) (x2 : hd X < 16) (y1 : 8 ≤ hd Y) (y2 : hd Y < 16) {i : Nat} (hi : i < 3) (b1 : bit (hd X - 8) i = true) (b2 : bit (hd Y - 8) i = true) : GT κ k Γ (rp i X) (rp i X') (rp i Y) (rp i Y') := by
  obtain ⟨cx, cy⟩ := h.cto
  obtain ⟨⟨o1, o2, o3, o4⟩, kx, ky, sx⟩ := h
  obtain ⟨m, X0, X1, X2, hm, rfl⟩ := hd_is_rec o1 x1 x2
  obtain ⟨m', Y0, Y1, Y2, hm', rfl⟩ := hd_is_rec o3 y1 y2
  obtain ⟨U0, U1, U2, rfl, u0, u1, u2⟩ := cx.shape.2.1 _ _ _ _ rfl
  obtain ⟨V0, V1, V2, rfl, v0, v1, v2⟩ := cy.shape.2.1 _ _ _ _ rfl
  rw [hd_rec, show 8 + m - 8 = m by omega] at b1
  rw [hd_rec, show 8 + m' - 8 = m' by omega] at b2
  refine ⟨⟨rp_ok hm o1 hi b1, rp_ok hm o2 hi b1, rp_ok hm' o3 hi b2, rp_ok hm' o4 hi b2⟩, rp_PNs kx hi, rp_PNs ky hi, ?_⟩
  rcases sx with ⟨e1, e2⟩ | ⟨-, -, e3⟩
  · rw [e1, e2]; exact Or.inl ⟨rfl, rfl⟩
  · right
    rcases (show i = 0 ∨ i = 1 ∨ i = 2 by omega) with rfl | rfl | rfl
    · exact ⟨u0, v0, e3.imp (fun s => (s.rec1 hm).1) (fun s => (s.rec1 hm').1)⟩
    · exact ⟨u1, v1, e3.imp (fun s => (s.rec1 hm).2.1) (fun s => (s.rec1 hm').2.1)⟩
    · exact ⟨u2, v2, e3.imp (fun s => (s.rec1 hm).2.2) (fun s => (s.rec1 hm').2.2)⟩
theorem GT.fun1 (h : GT κ k Γ X X' Y Y') (x1 : hd X = 1) (y1 : hd Y = 1) : GT κ k Γ (k1 X) (k1 X') (k1 Y) (k1 Y') ∧ GT κ k Γ (k2 X) (k2 X') (k2 Y) (k2 Y') := by
  obtain ⟨cx, cy⟩ := h.cto
  obtain ⟨⟨o1, o2, o3, o4⟩, kx, ky, sx⟩ := h
  obtain ⟨A, D, rfl, -, -⟩ := hd_is_fun o1 x1
  obtain ⟨A1, D1, rfl, -, -⟩ := hd_is_fun o3 y1
  obtain ⟨A', D', rfl, u1, u2⟩ := cx.shape.1 _ _ rfl
  obtain ⟨A1', D1', rfl, v1, v2⟩ := cy.shape.1 _ _ rfl
  have p1 := ok_fun.mp o1; have p2 := ok_fun.mp o2; have p3 := ok_fun.mp o3; have p4 := ok_fun.mp o4
  rw [PNs_fun, Bool.and_eq_true] at kx ky
  refine ⟨⟨⟨p1.1, p2.1, p3.1, p4.1⟩, kx.1, ky.1, ?_⟩, ⟨⟨p1.2, p2.2, p3.2, p4.2⟩, kx.2, ky.2, ?_⟩⟩
  · rcases sx with ⟨e1, e2⟩ | ⟨-, -, e3⟩
    · rw [e1, e2]; exact Or.inl ⟨rfl, rfl⟩
    · exact Or.inr ⟨u1, v1, e3.imp (fun s => s.fun1.1) (fun s => s.fun1.1)⟩
  · rcases sx with ⟨e1, e2⟩ | ⟨-, -, e3⟩
    · rw [e1, e2]; exact Or.inl ⟨rfl, rfl⟩
    · exact Or.inr ⟨u2, v2, e3.imp (fun s => s.fun1.2) (fun s => s.fun1.2)⟩
theorem GT.all1 (hκ : ∀ j m t, κ (lft j m t) = κ t) (h : GT κ k Γ X X' Y Y') (x1 : hd X = 2) (y1 : hd Y = 2) (e : flat (k1 X) = flat (k1 Y)) : GT κ k (k1 X :: Γ) (k2 X) (k2 X') (k2 Y) (k2 Y') := by
  obtain ⟨cx, cy⟩ := h.cto
  obtain ⟨⟨o1, o2, o3, o4⟩, kx, ky, sx⟩ := h
  obtain ⟨A, D, rfl, oA, oD⟩ := hd_is_all o1 x1
  obtain ⟨A1, D1, rfl, oA1, oD1⟩ := hd_is_all o3 y1
  have ea : A = A1 := flat_eq oA oA1 e
  subst ea
  obtain ⟨D', rfl, u⟩ := cx.shape.2.2 _ _ rfl
  obtain ⟨D1', rfl, v⟩ := cy.shape.2.2 _ _ rfl
  rw [PNs_all, Bool.and_eq_true, Bool.and_eq_true, Bool.and_eq_true] at kx ky
  refine ⟨⟨oD, (ok_all.mp o2).2, oD1, (ok_all.mp o4).2⟩, kx.1.1.2, ky.1.1.2, ?_⟩
  rcases sx with ⟨e1, e2⟩ | ⟨-, -, e3⟩
  · rw [e1, e2]; exact Or.inl ⟨rfl, rfl⟩
  · rcases e3 with s | s
    · obtain ⟨ka, s'⟩ := SEP.all1 hκ s
      exact Or.inr ⟨u ka, v ka, Or.inl s'⟩
    · obtain ⟨ka, s'⟩ := SEP.all1 hκ s
      exact Or.inr ⟨u ka, v ka, Or.inr s'⟩
end PmKc
