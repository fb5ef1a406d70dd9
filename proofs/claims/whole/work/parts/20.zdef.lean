/-! INTS AS NUMBERS: a picture whose ints are numbers (Int), and the rules over it. -/
def zI (a : Int) : Int32 := Int32.ofInt a
def R32 (a : Int) : Prop := -2147483648 ≤ a ∧ a < 2147483648
theorem zI_toInt {a : Int} (h : R32 a) : (zI a).toInt = a := Int32.toInt_ofInt_of_le (by exact h.1) (by exact h.2)
theorem zI_add (a b : Int) : zI a + zI b = zI (a + b) := (Int32.ofInt_add a b).symm
theorem zI_sub (a b : Int) : zI a - zI b = zI (a - b) := (Int32.ofInt_sub a b).symm
theorem zI_mul (a b : Int) : zI a * zI b = zI (a * b) := (Int32.ofInt_mul a b).symm
theorem zI_lt {a b : Int} (ha : R32 a) (hb : R32 b) : zI a < zI b ↔ a < b := by rw [Int32.lt_iff_toInt_lt, zI_toInt ha, zI_toInt hb]
theorem zI_le {a b : Int} (ha : R32 a) (hb : R32 b) : zI a ≤ zI b ↔ a ≤ b := by rw [Int32.le_iff_toInt_le, zI_toInt ha, zI_toInt hb]
theorem zI_eq {a b : Int} (ha : R32 a) (hb : R32 b) : zI a = zI b ↔ a = b := by
  constructor
  · intro h
    have := congrArg Int32.toInt h
    rwa [zI_toInt ha, zI_toInt hb] at this
  · intro h; rw [h]
theorem zI_nI (n : Nat) : zI (n : Int) = nI n := rfl
theorem zI_of (x : Int32) : zI x.toInt = x := Int32.ofInt_toInt x
theorem R32_of (x : Int32) : R32 x.toInt := ⟨Int32.le_toInt x, Int32.toInt_lt x⟩
theorem zI_clamp {a : Int} (h0 : 0 ≤ a) (h : a < 2147483648) : (zI a).toNatClampNeg = a.toNat := by
  obtain ⟨n, rfl⟩ := Int.eq_ofNat_of_zero_le h0
  exact nI_clamp (n := n) (by omega)
theorem zI_in {a : Int} {n : Nat} (h0 : 0 ≤ a) (h1 : a < n) (hn : n < 2147483648) : vp_in (zI a) n := by
  obtain ⟨k, rfl⟩ := Int.eq_ofNat_of_zero_le h0
  exact vp_in_nI (n := k) (by omega) (by omega)
/-- the memory: a place, an index, a number -/
abbrev pm_M : Type := Nat → Int → Int
def zM (M : pm_M) : Nat → Nat → Int32 := fun p k => zI (M p (k : Int))
def mset (M : pm_M) (p : Nat) (i v : Int) : pm_M := fun q j => if q = p ∧ j = i then v else M q j
theorem mset_s (M : pm_M) (p : Nat) (i v : Int) : mset M p i v p i = v := by simp [mset]
theorem mset_p (M : pm_M) {p q : Nat} (i j v : Int) (h : q ≠ p) : mset M p i v q j = M q j := by simp [mset, h]
theorem mset_i (M : pm_M) (p : Nat) {i j : Int} (v : Int) (q : Nat) (h : j ≠ i) : mset M p i v q j = M q j := by simp [mset, h]
theorem zM_set (M : pm_M) (p : Nat) {i : Int} (v : Int) (h : 0 ≤ i) : pm_u (zM M) p (upd (zM M p) i.toNat (zI v)) = zM (mset M p i v) := by
  funext q k
  unfold zM mset pm_u upd
  by_cases hq : q = p
  · subst hq
    rw [if_pos rfl]
    by_cases hk : k = i.toNat
    · rw [if_pos hk, if_pos ⟨rfl, by omega⟩]
    · rw [if_neg hk, if_neg (fun e => hk (by have := e.2; omega))]
  · rw [if_neg hq, if_neg (fun e => hq e.1)]
theorem zM_get (M : pm_M) (p : Nat) {i : Int} (h : 0 ≤ i) : zM M p i.toNat = zI (M p i) := by
  unfold zM
  rw [Int.toNat_of_nonneg h]
/-- every picture is of this kind -/
theorem zM_of (I : Nat → Nat → Int32) : ∃ M : pm_M, I = zM M ∧ ∀ p i, R32 (M p i) := by
  refine ⟨fun p i => (I p i.toNat).toInt, ?_, fun p i => R32_of _⟩
  funext p k
  show I p k = zI (I p (k : Int).toNat).toInt
  rw [Int.toNat_natCast, zI_of]
