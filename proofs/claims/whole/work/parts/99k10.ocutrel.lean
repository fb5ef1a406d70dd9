/-! THE CUT WALK: how its types stand to those of the walk. -/
/-- in its schemes with the bound Top none is reached whose bound names their variable alone -/
def KK (κ : Ty → Bool) (hb k m : Nat) (t : Ty) : Prop := ∃ s, k ≤ s ∧ s < m ∧ PNs κ hb s m t = true
def CXI (κ : Ty → Bool) (hb k : Nat) (Γ : List Ty) : Prop := ∀ j, j < Γ.length → j ≠ k → ∀ m, Γ.length ≤ m → KK κ hb k m (lft j (m - j) (bnd Γ j))
def CW (κ : Ty → Bool) (k r s : Nat) (Γ : List Ty) : Prop := ∀ j, j < Γ.length → j ≠ k → ∀ m, Γ.length ≤ m → Wn κ r s (lft j (m - j) (bnd Γ j)) = true
/-- one side: as it is, or cut, and then the other one does not match what is cut -/
def SD (κ : Ty → Bool) (k : Nat) (Γ : List Ty) (X X' Y : Ty) : Prop := X' = X ∨ ∃ r s, k ≤ r ∧ r < Γ.length ∧ s < Γ.length ∧ X' = ct κ r X ∧ men s X = false ∧ Wn κ r s Y = true ∧ CW κ k r s Γ
def SE (κ : Ty → Bool) (k : Nat) (Γ : List Ty) (Y Y' : Ty) : Prop := Y' = Y ∨ ∃ r s, k ≤ r ∧ r < Γ.length ∧ s < Γ.length ∧ Y' = ct κ r Y ∧ men s Y = false ∧ CW κ k r s Γ
def GT (κ : Ty → Bool) (hb k : Nat) (Γ : List Ty) (X X' Y Y' : Ty) : Prop := (ok Γ.length X = true ∧ ok Γ.length X' = true ∧ ok Γ.length Y = true ∧ ok Γ.length Y' = true) ∧ KK κ hb k Γ.length X ∧ KK κ hb k Γ.length Y ∧ SD κ k Γ X X' Y ∧ SD κ k Γ Y Y' X
section PmKc
variable {κ : Ty → Bool} {k hb : Nat} {Γ : List Ty} {X X' Y Y' : Ty}
theorem SD.se (h : SD κ k Γ X X' Y) : SE κ k Γ X X' := by
  rcases h with e | ⟨r, s, a1, a2, a3, a4, a5, -, a7⟩
  · exact Or.inl e
  · exact Or.inr ⟨r, s, a1, a2, a3, a4, a5, a7⟩
theorem SD.mono (h : SD κ k Γ X X' Y) {x x' y : Ty} (h1 : X' = X → x' = x) (h2 : ∀ r, X' = ct κ r X → x' = ct κ r x) (h3 : ∀ s, men s X = false → men s x = false) (h4 : ∀ r s, Wn κ r s Y = true → Wn κ r s y = true) : SD κ k Γ x x' y := by
  rcases h with e | ⟨r, s, a1, a2, a3, a4, a5, a6, a7⟩
  · exact Or.inl (h1 e)
  · exact Or.inr ⟨r, s, a1, a2, a3, h2 r a4, h3 s a5, h4 r s a6, a7⟩
theorem GT.swap (h : GT κ hb k Γ X X' Y Y') : GT κ hb k Γ Y Y' X X' := ⟨⟨h.1.2.2.1, h.1.2.2.2, h.1.1, h.1.2.1⟩, h.2.2.1, h.2.1, h.2.2.2.2, h.2.2.2.1⟩
theorem SE.var (h : SE κ k Γ X X') {j : Nat} (e : X = tVar j) : X' = tVar j := by
  subst e
  rcases h with e | ⟨r, s, -, -, -, e, -⟩
  · exact e
  · rw [e, ct_var]
theorem KK.fun1 {m : Nat} {a b : Ty} (h : KK κ hb k m (tFun a b)) : KK κ hb k m a ∧ KK κ hb k m b := by
  obtain ⟨s, h1, h2, h3⟩ := h
  rw [PNs_fun, Bool.and_eq_true] at h3
  exact ⟨⟨s, h1, h2, h3.1⟩, ⟨s, h1, h2, h3.2⟩⟩
theorem KK.rec1 {m l : Nat} {x y z : Ty} (h : KK κ hb k m (tRec l x y z)) : KK κ hb k m x ∧ KK κ hb k m y ∧ KK κ hb k m z := by
  obtain ⟨s, h1, h2, h3⟩ := h
  rw [PNs_rec, Bool.and_eq_true, Bool.and_eq_true] at h3
  exact ⟨⟨s, h1, h2, h3.1⟩, ⟨s, h1, h2, h3.2.1⟩, ⟨s, h1, h2, h3.2.2⟩⟩
theorem SD.fun1 {a b a1 b1 : Ty} (h : SD κ k Γ (tFun a b) X' (tFun a1 b1)) : SD κ k Γ a (k1 X') a1 ∧ SD κ k Γ b (k2 X') b1 := by
  refine ⟨h.mono (fun e => by rw [e]; rfl) (fun r e => by rw [e, ct_fun]; rfl) (fun s e => ?_) (fun r s e => ?_), h.mono (fun e => by rw [e]; rfl) (fun r e => by rw [e, ct_fun]; rfl) (fun s e => ?_) (fun r s e => ?_)⟩
  · rw [men_fun, Bool.or_eq_false_iff] at e; exact e.1
  · rw [Wn_fun, Bool.and_eq_true] at e; exact e.1
  · rw [men_fun, Bool.or_eq_false_iff] at e; exact e.2
  · rw [Wn_fun, Bool.and_eq_true] at e; exact e.2
theorem SD.rec1 {m m' : Nat} (hm : m < 8) {x y z x1 y1 z1 : Ty} (h : SD κ k Γ (tRec m x y z) X' (tRec m' x1 y1 z1)) : ∀ i, i < 3 → SD κ k Γ (rp i (tRec m x y z)) (rp i X') (rp i (tRec m' x1 y1 z1)) := by
  intro i hi
  rcases (show i = 0 ∨ i = 1 ∨ i = 2 by omega) with rfl | rfl | rfl
  · refine h.mono (fun e => by rw [e]) (fun r e => by rw [e, ct_rec]; rfl) (fun s e => ?_) (fun r s e => ?_)
    · rw [men_rec hm, Bool.or_eq_false_iff] at e; exact e.1
    · rw [Wn_rec, Bool.and_eq_true] at e; exact e.1
  · refine h.mono (fun e => by rw [e]) (fun r e => by rw [e, ct_rec]; rfl) (fun s e => ?_) (fun r s e => ?_)
    · rw [men_rec hm, Bool.or_eq_false_iff, Bool.or_eq_false_iff] at e; exact e.2.1
    · rw [Wn_rec, Bool.and_eq_true, Bool.and_eq_true] at e; exact e.2.1
  · refine h.mono (fun e => by rw [e]) (fun r e => by rw [e, ct_rec]; rfl) (fun s e => ?_) (fun r s e => ?_)
    · rw [men_rec hm, Bool.or_eq_false_iff, Bool.or_eq_false_iff] at e; exact e.2.2
    · rw [Wn_rec, Bool.and_eq_true, Bool.and_eq_true] at e; exact e.2.2
theorem SE.shape (h : SE κ k Γ X X') : (∀ a b, X = tFun a b → ∃ a' b', X' = tFun a' b') ∧ (∀ m x y z, X = tRec m x y z → ∃ x' y' z', X' = tRec m x' y' z') ∧ (∀ a b, X = tAll a b → ∃ b', X' = tAll a b') := by
  refine ⟨fun a b e => ?_, fun m x y z e => ?_, fun a b e => ?_⟩ <;> subst e <;> rcases h with e | ⟨r, s, -, -, -, e, -⟩
  · exact ⟨_, _, e⟩
  · exact ⟨_, _, by rw [e, ct_fun]⟩
  · exact ⟨_, _, _, e⟩
  · exact ⟨_, _, _, by rw [e, ct_rec]⟩
  · exact ⟨_, e⟩
  · exact ⟨_, by rw [e, ct_all]⟩
theorem rp_ok {n m : Nat} (hm : m < 8) {x y z : Ty} (o : ok n (tRec m x y z) = true) {i : Nat} (hi : i < 3) (hb : bit m i = true) : ok n (rp i (tRec m x y z)) = true := by
  obtain ⟨o0, o1, o2⟩ := (ok_rec hm).mp o
  rcases (show i = 0 ∨ i = 1 ∨ i = 2 by omega) with rfl | rfl | rfl
  · exact okl_on o0 (bit_iff.mp hb)
  · exact okl_on o1 (bit_iff.mp hb)
  · exact okl_on o2 (bit_iff.mp hb)
theorem rp_KK {n m : Nat} {x y z : Ty} (o : KK κ hb k n (tRec m x y z)) {i : Nat} (hi : i < 3) : KK κ hb k n (rp i (tRec m x y z)) := by
  rcases (show i = 0 ∨ i = 1 ∨ i = 2 by omega) with rfl | rfl | rfl
  · exact o.rec1.1
  · exact o.rec1.2.1
  · exact o.rec1.2.2
theorem GT.rec1 (h : GT κ hb k Γ X X' Y Y') (x1 : 8 ≤ hd X) (x2 : hd X < 16) (y1 : 8 ≤ hd Y) (y2 : hd Y < 16) {i : Nat} (hi : i < 3) (b1 : bit (hd X - 8) i = true) (b2 : bit (hd Y - 8) i = true) : GT κ hb k Γ (rp i X) (rp i X') (rp i Y) (rp i Y') := by
  obtain ⟨⟨o1, o2, o3, o4⟩, kx, ky, sx, sy⟩ := h
  obtain ⟨m, X0, X1, X2, hm, rfl⟩ := hd_is_rec o1 x1 x2
  obtain ⟨m', Y0, Y1, Y2, hm', rfl⟩ := hd_is_rec o3 y1 y2
  obtain ⟨U0, U1, U2, rfl⟩ := sx.se.shape.2.1 _ _ _ _ rfl
  obtain ⟨V0, V1, V2, rfl⟩ := sy.se.shape.2.1 _ _ _ _ rfl
  rw [hd_rec, show 8 + m - 8 = m by omega] at b1
  rw [hd_rec, show 8 + m' - 8 = m' by omega] at b2
  exact ⟨⟨rp_ok hm o1 hi b1, rp_ok hm o2 hi b1, rp_ok hm' o3 hi b2, rp_ok hm' o4 hi b2⟩, rp_KK kx hi, rp_KK ky hi, sx.rec1 hm i hi, sy.rec1 hm' i hi⟩
theorem GT.fun1 (h : GT κ hb k Γ X X' Y Y') (x1 : hd X = 1) (y1 : hd Y = 1) : GT κ hb k Γ (k1 X) (k1 X') (k1 Y) (k1 Y') ∧ GT κ hb k Γ (k2 X) (k2 X') (k2 Y) (k2 Y') := by
  obtain ⟨⟨o1, o2, o3, o4⟩, kx, ky, sx, sy⟩ := h
  obtain ⟨A, D, rfl, -, -⟩ := hd_is_fun o1 x1
  obtain ⟨A1, D1, rfl, -, -⟩ := hd_is_fun o3 y1
  obtain ⟨A', D', rfl⟩ := sx.se.shape.1 _ _ rfl
  obtain ⟨A1', D1', rfl⟩ := sy.se.shape.1 _ _ rfl
  have p1 := ok_fun.mp o1; have p2 := ok_fun.mp o2; have p3 := ok_fun.mp o3; have p4 := ok_fun.mp o4
  exact ⟨⟨⟨p1.1, p2.1, p3.1, p4.1⟩, kx.fun1.1, ky.fun1.1, sx.fun1.1, sy.fun1.1⟩, ⟨⟨p1.2, p2.2, p3.2, p4.2⟩, kx.fun1.2, ky.fun1.2, sx.fun1.2, sy.fun1.2⟩⟩
theorem CW.ext (hκ : ∀ j m t, κ (lft j m t) = κ t) {r s : Nat} (h : CW κ k r s Γ) {a : Ty} (hr : r < Γ.length) (hs : s < Γ.length) (ha : Wn κ r s a = true) : CW κ k r s (a :: Γ) := by
  intro j hj jk m hm
  rw [List.length_cons] at hj hm
  show Wn κ r s (lft j (m - j) (if j = Γ.length then a else bnd Γ j)) = true
  by_cases e : j = Γ.length
  · rw [if_pos e]
    have := Wn_lft hκ (r := r) (s := s) j (m - j) a
    rw [show shl j (m - j) r = r by unfold shl; rw [if_neg (by omega)], show shl j (m - j) s = s by unfold shl; rw [if_neg (by omega)]] at this
    rw [this]; exact ha
  · rw [if_neg e]
    exact h j (by omega) jk m (by omega)
theorem CXI.ext (hκ : ∀ j m t, κ (lft j m t) = κ t) (hh : hb < 16) (h : CXI κ hb k Γ) {a : Ty} (ha : KK κ hb k Γ.length a) : CXI κ hb k (a :: Γ) := by
  intro j hj jk m hm
  rw [List.length_cons] at hj hm
  show KK κ hb k m (lft j (m - j) (if j = Γ.length then a else bnd Γ j))
  by_cases e : j = Γ.length
  · rw [if_pos e]
    obtain ⟨s, h1, h2, h3⟩ := ha
    refine ⟨s, h1, by omega, ?_⟩
    have := PNs_lft hκ hh (s := s) j (m - j) a Γ.length (by omega)
    rw [show shl j (m - j) s = s by unfold shl; rw [if_neg (by omega)], show Γ.length + (m - j) = m by omega] at this
    rw [this]; exact h3
  · rw [if_neg e]
    exact h j (by omega) jk m (by omega)
end PmKc
