/-! THE MODEL RUNS: what each small method does to the rows. -/
def mAns (N : pm_M) (v : Int) : pm_M := mset (mset N 56 48 v) 56 49 1
def mGo (N : pm_M) (j e : Int) : pm_M := mset (mset (mset N 56 46 j) 56 47 e) 56 49 0
def mKeep (N : pm_M) (vs a b c : Int) : pm_M := mset (mset (mset (mset N 90 vs a) 91 vs b) 92 vs c) 56 54 (vs + 1)
def mWait (N : pm_M) (fr a b c e en : Int) : pm_M := mset (mset (mset (mset (mset (mset (mset (mset N 94 fr a) 95 fr b) 96 fr en) 97 fr c) 56 59 (fr + 1)) 56 46 e) 56 47 en) 56 49 0
def BR (N : pm_M) (a b st vs es fr : Nat) (H : Int → Option Ty) (k : List Fr) (pc : Nat) : Prop := (N 56 54 = (vs : Int) ∧ N 56 50 = (es : Int) ∧ N 56 59 = (fr : Int)) ∧ HP N a b vs es H ∧ (es ≤ st ∧ vs + pc ≤ 60 + 60 * st ∧ fr + pc ≤ 60 + 60 * st) ∧ FRs N a b es H k fr vs
section PmG10
variable {N N' : pm_M} {a b st st' vs es fr pc pc' : Nat} {H : Int → Option Ty} {k : List Fr}
theorem BR.same (h : BR N a b st vs es fr H k pc) (e : ∀ (p : Nat) (i : Int), ¬ (p = 56 ∧ (i = 44 ∨ (46 ≤ i ∧ i ≤ 49))) → N' p i = N p i) (hp : pc' + 60 * st ≤ pc + 60 * st') (hs : st ≤ st') : BR N' a b st' vs es fr H k pc' := by
  obtain ⟨⟨c1, c2, c3⟩, h1, ⟨h2, h3, h4⟩, h5⟩ := h
  have kp : Kpm N N' vs es H := ⟨fun p i p1 p2 => e p i (by omega), fun p i p1 p2 _ _ => e p i (by omega), fun p i p1 p2 _ _ => e p i (by omega), fun i g _ _ => e 93 _ (by omega)⟩
  exact ⟨⟨by rw [e 56 54 (by omega)]; exact c1, by rw [e 56 50 (by omega)]; exact c2, by rw [e 56 59 (by omega)]; exact c3⟩, h1.keep kp (Nat.le_refl _), ⟨by omega, by omega, by omega⟩, h5.keep kp (fun _ _ x => x) (Nat.le_refl _) (Int.le_refl _) (Int.le_refl _) (fun p q p1 p2 _ _ => e p q (by omega)) (fun i _ _ hn => ⟨hn, fun g _ => e 93 _ (by omega)⟩)⟩
theorem mAns_o {v : Int} {p : Nat} {i : Int} (h : ¬ (p = 56 ∧ (i = 44 ∨ (46 ≤ i ∧ i ≤ 49)))) : mAns N v p i = N p i := by
  unfold mAns
  rw [mset_i' (by omega), mset_i' (by omega)]
theorem mGo_o {j e : Int} {p : Nat} {i : Int} (h : ¬ (p = 56 ∧ (i = 44 ∨ (46 ≤ i ∧ i ≤ 49)))) : mGo N j e p i = N p i := by
  unfold mGo
  rw [mset_i' (by omega), mset_i' (by omega), mset_i' (by omega)]
theorem mKeep_o {v x y z : Int} {p : Nat} {i : Int} (h : ¬ (p = 56 ∧ i = 54)) (h2 : ¬ (90 ≤ p ∧ p ≤ 92 ∧ i = v)) : mKeep N v x y z p i = N p i := by
  unfold mKeep
  rw [mset_i' (by omega), mset_i' (by omega), mset_i' (by omega), mset_i' (by omega)]
theorem mKeep_90 {v x y z : Int} : mKeep N v x y z 90 v = x := by
  unfold mKeep
  rw [mset_i' (by omega), mset_i' (by omega), mset_i' (by omega), mset_s]
theorem mKeep_91 {v x y z : Int} : mKeep N v x y z 91 v = y := by
  unfold mKeep
  rw [mset_i' (by omega), mset_i' (by omega), mset_s]
theorem mKeep_92 {v x y z : Int} : mKeep N v x y z 92 v = z := by
  unfold mKeep
  rw [mset_i' (by omega), mset_s]
theorem mKeep_54 {v x y z : Int} : mKeep N v x y z 56 54 = v + 1 := by
  unfold mKeep
  rw [mset_s]
theorem mWait_o {f x y z e en : Int} {p : Nat} {i : Int} (h : ¬ (p = 56 ∧ (i = 59 ∨ (46 ≤ i ∧ i ≤ 49)))) (h2 : ¬ (94 ≤ p ∧ p ≤ 97 ∧ i = f)) : mWait N f x y z e en p i = N p i := by
  unfold mWait
  rw [mset_i' (by omega), mset_i' (by omega), mset_i' (by omega), mset_i' (by omega), mset_i' (by omega), mset_i' (by omega), mset_i' (by omega), mset_i' (by omega)]
theorem mWait_94 {f x y z e en : Int} : mWait N f x y z e en 94 f = x := by
  unfold mWait
  rw [mset_i' (by omega), mset_i' (by omega), mset_i' (by omega), mset_i' (by omega), mset_i' (by omega), mset_i' (by omega), mset_i' (by omega), mset_s]
theorem mWait_95 {f x y z e en : Int} : mWait N f x y z e en 95 f = y := by
  unfold mWait
  rw [mset_i' (by omega), mset_i' (by omega), mset_i' (by omega), mset_i' (by omega), mset_i' (by omega), mset_i' (by omega), mset_s]
theorem mWait_96 {f x y z e en : Int} : mWait N f x y z e en 96 f = en := by
  unfold mWait
  rw [mset_i' (by omega), mset_i' (by omega), mset_i' (by omega), mset_i' (by omega), mset_i' (by omega), mset_s]
theorem mWait_97 {f x y z e en : Int} : mWait N f x y z e en 97 f = z := by
  unfold mWait
  rw [mset_i' (by omega), mset_i' (by omega), mset_i' (by omega), mset_i' (by omega), mset_s]
theorem mWait_59 {f x y z e en : Int} : mWait N f x y z e en 56 59 = f + 1 := by
  unfold mWait
  rw [mset_i' (by omega), mset_i' (by omega), mset_i' (by omega), mset_s]
theorem mWait_46 {f x y z e en : Int} : mWait N f x y z e en 56 46 = e := by
  unfold mWait
  rw [mset_i' (by omega), mset_i' (by omega), mset_s]
theorem mWait_47 {f x y z e en : Int} : mWait N f x y z e en 56 47 = en := by
  unfold mWait
  rw [mset_i' (by omega), mset_s]
theorem mWait_49 {f x y z e en : Int} : mWait N f x y z e en 56 49 = 0 := by
  unfold mWait
  rw [mset_s]
theorem Kpm.keep {x y z : Int} : Kpm N (mKeep N vs x y z) vs es H := ⟨fun p i p1 p2 => mKeep_o (by omega) (by omega), fun p i p1 p2 _ _ => mKeep_o (by omega) (by omega), fun p i p1 p2 i0 i1 => mKeep_o (by omega) (by omega), fun i g _ _ => mKeep_o (by omega) (by omega)⟩
theorem Kpm.wait {f x y z e en : Int} : Kpm N (mWait N f x y z e en) vs es H := ⟨fun p i p1 p2 => mWait_o (by omega) (by omega), fun p i p1 p2 _ _ => mWait_o (by omega) (by omega), fun p i p1 p2 i0 i1 => mWait_o (by omega) (by omega), fun i g _ _ => mWait_o (by omega) (by omega)⟩
/-- a value that is done at once -/
theorem BR.val {x y z : Int} {v : Ty} (h : BR N a b st vs es fr H k pc) (hp : pc' + 1 ≤ pc) (hc : VCe (mKeep N vs x y z) a b es (Hup H vs v) (vs : Int) v) : BR (mKeep N vs x y z) a b st (vs + 1) es fr (Hup H vs v) k pc' := by
  obtain ⟨⟨c1, c2, c3⟩, h1, ⟨h2, h3, h4⟩, h5⟩ := h
  have hf := h1.fresh
  refine ⟨⟨by rw [mKeep_54]; omega, by rw [mKeep_o (by omega) (by omega)]; exact c2, by rw [mKeep_o (by omega) (by omega)]; exact c3⟩, h1.up Kpm.keep (Nat.le_refl _) (by omega) hf ⟨by omega, by omega⟩ hc, ⟨h2, by omega, by omega⟩, ?_⟩
  refine h5.keep Kpm.keep (Hup.le hf) (Nat.le_refl _) (by omega) (Int.le_refl _) (fun p q p1 p2 _ _ => mKeep_o (by omega) (by omega)) (fun i i0 i1 hn => ⟨?_, fun g _ => mKeep_o (by omega) (by omega)⟩)
  unfold Hup
  rw [if_neg (by omega)]; exact hn
/-- a record that is begun -/
theorem BR.rcd {x y z : Int} (h : BR N a b st vs es fr H k pc) (hp : pc' + 1 ≤ pc) : BR (mKeep N vs x y z) a b st (vs + 1) es fr H k pc' := by
  obtain ⟨⟨c1, c2, c3⟩, h1, ⟨h2, h3, h4⟩, h5⟩ := h
  refine ⟨⟨by rw [mKeep_54]; omega, by rw [mKeep_o (by omega) (by omega)]; exact c2, by rw [mKeep_o (by omega) (by omega)]; exact c3⟩, fun i v hv => ?_, ⟨h2, by omega, by omega⟩, ?_⟩
  · have := (h1.keep (N' := mKeep N vs x y z) Kpm.keep (Nat.le_refl _)) i v hv
    exact ⟨⟨this.1.1, by have := this.1.2; omega⟩, this.2⟩
  · exact h5.keep Kpm.keep (fun _ _ q => q) (Nat.le_refl _) (by omega) (Int.le_refl _) (fun p q p1 p2 _ _ => mKeep_o (by omega) (by omega)) (fun i i0 i1 hn => ⟨hn, fun g _ => mKeep_o (by omega) (by omega)⟩)
/-- a frame more; a frame of a record takes the smaller limit for those below -/
theorem BR.wait {x y z e en lim : Int} {f : Fr} (h : BR N a b st vs es fr H k pc) (hp : pc' + 1 ≤ pc ∨ (fr + 1 + pc' ≤ 60 + 60 * st ∧ pc' ≤ pc)) (hf : FrM (mWait N fr x y z e en) a b es H f (fr : Int) vs) (hl : nKd f.1 = 10 → lim ≤ z ∧ FRs N a b es H k fr lim ∧ lim ≤ vs) : BR (mWait N fr x y z e en) a b st vs es (fr + 1) H (f :: k) pc' := by
  obtain ⟨⟨c1, c2, c3⟩, h1, ⟨h2, h3, h4⟩, h5⟩ := h
  refine ⟨⟨by rw [mWait_o (by omega) (by omega)]; exact c1, by rw [mWait_o (by omega) (by omega)]; exact c2, by rw [mWait_59]; omega⟩, h1.keep Kpm.wait (Nat.le_refl _), ⟨h2, by omega, by omega⟩, ⟨fr, rfl, hf, ?_⟩⟩
  by_cases c : nKd f.1 = 10
  · rw [if_pos c, mWait_97]
    obtain ⟨l1, l2, l3⟩ := hl c
    exact l2.keep (vs := vs) Kpm.wait (fun _ _ q => q) (Nat.le_refl _) l1 l3 (fun p q p1 p2 q0 q1 => mWait_o (by omega) (by omega)) (fun i i0 i1 hn => ⟨hn, fun g _ => mWait_o (by omega) (by omega)⟩)
  · rw [if_neg c]
    exact h5.keep Kpm.wait (fun _ _ q => q) (Nat.le_refl _) (Int.le_refl _) (Int.le_refl _) (fun p q p1 p2 q0 q1 => mWait_o (by omega) (by omega)) (fun i i0 i1 hn => ⟨hn, fun g _ => mWait_o (by omega) (by omega)⟩)
theorem mAns_R32 {v : Int} (h : ∀ p i, R32 (N p i)) (hv : R32 v) : ∀ p i, R32 (mAns N v p i) := mset_R32 (mset_R32 h hv) ⟨by omega, by omega⟩
theorem mGo_R32 {j e : Int} (h : ∀ p i, R32 (N p i)) (hj : R32 j) (he : R32 e) : ∀ p i, R32 (mGo N j e p i) := mset_R32 (mset_R32 (mset_R32 h hj) he) ⟨by omega, by omega⟩
theorem mKeep_R32 {v x y z : Int} (h : ∀ p i, R32 (N p i)) (hv : R32 (v + 1)) (hx : R32 x) (hy : R32 y) (hz : R32 z) : ∀ p i, R32 (mKeep N v x y z p i) := mset_R32 (mset_R32 (mset_R32 (mset_R32 h hx) hy) hz) hv
theorem mWait_R32 {f x y z e en : Int} (h : ∀ p i, R32 (N p i)) (hf : R32 (f + 1)) (hx : R32 x) (hy : R32 y) (hz : R32 z) (he : R32 e) (hn : R32 en) : ∀ p i, R32 (mWait N f x y z e en p i) := mset_R32 (mset_R32 (mset_R32 (mset_R32 (mset_R32 (mset_R32 (mset_R32 (mset_R32 h hx) hy) hn) hz) hf) he) hn) ⟨by omega, by omega⟩
theorem MKr.ans {N0 : pm_M} {v : Int} (h : MKr N0 N) : MKr N0 (mAns N v) := (h.set (Or.inl ⟨rfl, by omega⟩)).set (Or.inl ⟨rfl, by omega⟩)
theorem MKr.go {N0 : pm_M} {j e : Int} (h : MKr N0 N) : MKr N0 (mGo N j e) := ((h.set (Or.inl ⟨rfl, by omega⟩)).set (Or.inl ⟨rfl, by omega⟩)).set (Or.inl ⟨rfl, by omega⟩)
theorem MKr.kp {N0 : pm_M} {v x y z : Int} (h : MKr N0 N) : MKr N0 (mKeep N v x y z) := (((h.set (Or.inr (by omega))).set (Or.inr (by omega))).set (Or.inr (by omega))).set (Or.inl ⟨rfl, by omega⟩)
theorem MKr.wt {N0 : pm_M} {f x y z e en : Int} (h : MKr N0 N) : MKr N0 (mWait N f x y z e en) := (((((((h.set (Or.inr (by omega))).set (Or.inr (by omega))).set (Or.inr (by omega))).set (Or.inr (by omega))).set (Or.inl ⟨rfl, by omega⟩)).set (Or.inl ⟨rfl, by omega⟩)).set (Or.inl ⟨rfl, by omega⟩)).set (Or.inl ⟨rfl, by omega⟩)
end PmG10
