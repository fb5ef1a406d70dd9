/-! THE MODEL: types, the loop over the nodes. -/
def WTy (x : Int) (p : Nat) (k : Int) : Prop := (p = 56 ∧ (k = 22 ∨ k = 24 ∨ k = 32 ∨ k = 33 ∨ k = 34 ∨ k = 36)) ∨ (p = 73 ∧ ((17 * 4 ≤ k ∧ k < 17 * 64) ∨ 17 * 132 ≤ k)) ∨ ((p = 74 ∨ p = 75 ∨ p = 76) ∧ x ≤ k) ∨ (78 ≤ p ∧ p ≤ 86)
/-- a node is done: its mark, its row, whether it breaks -/
def TJ (N : pm_M) (j : Nat) (v : Nat × Ty × List Ty × List (Nat × Ty × Nat)) : Prop := RA N (j : Int) (toO (tyF v.1 v.2.1 v.2.2.1 v.2.2.2)) (N 78 (j : Int)) ∧ (Brk v.1 v.2.1 v.2.2.1 v.2.2.2 → N 79 (j : Int) = 1) ∧ (¬ Brk v.1 v.2.1 v.2.2.1 v.2.2.2 → N 79 (j : Int) = 0)
def TI (N0 : pm_M) (a : Nat) (T : Ty) (x : Int) (N : pm_M) (m : Nat) : Prop := (∀ p i, R32 (N p i)) ∧ N 56 22 = 132 ∧ N 56 24 = x ∧ (∀ p k, ¬ WTy x p k → N p k = N0 p k) ∧ ∀ j : Nat, m ≤ j → j < a → (N 78 (j : Int) = 0 ∨ N 78 (j : Int) = 1) ∧ (N 79 (j : Int) = 0 ∨ N 79 (j : Int) = 1) ∧ (N 59 (j : Int) < 5 → N 79 (j : Int) = 0) ∧ ∀ v, nAt 24 T [] [] j = some v → TJ N j v
theorem RA.mv {N N' : pm_M} {i r : Int} {o : Option Ty} (hl : ∀ A, o = some A → (flat A).length ≤ 16) (hs : ∀ k : Int, 17 * (4 + i) ≤ k → k < 17 * (4 + i) + 17 → N' 73 k = N 73 k) (h : RA N i o r) : RA N' i o r := by
  cases o with
  | none => exact h
  | some A =>
    have := hl A rfl
    exact ⟨h.1, Row.same (fun k k0 k1 => hs _ (by omega) (by omega)) h.2⟩
theorem toO_len {F : Nat} {t : Ty} {Γ : List Ty} {Δ : List (Nat × Ty × Nat)} (w : TWf F Γ.length (Δ.map (fun a => a.1)) t) (e : TE Γ Δ) : ∀ A, toO (tyF F t Γ Δ) = some A → (flat A).length ≤ 16 := by
  intro A h
  cases q : tyF F t Γ Δ with
  | inl p => rw [q] at h; cases h
  | inr B =>
    rw [q] at h
    injection h with h
    subst h
    exact (tyF_ok F _ _ _ B w e q).2
theorem TI.next {N0 N N' : pm_M} {a b : Nat} {T : Ty} {x r bk : Int} {i : Nat} (hN : ND N0 a b T 24 T [] [] 0) (aT : a = (tfl T).length) (h : TI N0 a T x N (i + 1)) (hM : ∀ p i, R32 (N' p i)) (fr : RLf (i : Int) x N N') (ia : i < a) (a60 : a ≤ 60) (x0 : 0 ≤ x) (x1 : x ≤ 12) (hr : r = 0 ∨ r = 1) (hb : bk = 0 ∨ bk = 1) (h5 : N 59 (i : Int) < 5 → bk = 0) (hv : ∀ v, nAt 24 T [] [] i = some v → RA N' (i : Int) (toO (tyF v.1 v.2.1 v.2.2.1 v.2.2.2)) r ∧ (Brk v.1 v.2.1 v.2.2.1 v.2.2.2 → bk = 1) ∧ (¬ Brk v.1 v.2.1 v.2.2.1 v.2.2.2 → bk = 0)) : TI N0 a T x (mset (mset (mset (mset N' 78 (i : Int) r) 79 (i : Int) bk) 56 22 132) 56 24 x) i := by
  obtain ⟨h1, h2, h3, h4, hj⟩ := h
  have e73 : ∀ k, mset (mset (mset (mset N' 78 (i : Int) r) 79 (i : Int) bk) 56 22 132) 56 24 x 73 k = N' 73 k := fun k => by rw [mset_p _ _ _ _ (by decide), mset_p _ _ _ _ (by decide), mset_p _ _ _ _ (by decide), mset_p _ _ _ _ (by decide)]
  have e59 : ∀ k, mset (mset (mset (mset N' 78 (i : Int) r) 79 (i : Int) bk) 56 22 132) 56 24 x 59 k = N 59 k := fun k => by rw [mset_p _ _ _ _ (by decide), mset_p _ _ _ _ (by decide), mset_p _ _ _ _ (by decide), mset_p _ _ _ _ (by decide)]; exact fr 59 k (by unfold WRl; omega)
  have e78 : ∀ k, mset (mset (mset (mset N' 78 (i : Int) r) 79 (i : Int) bk) 56 22 132) 56 24 x 78 k = if k = (i : Int) then r else N 78 k := fun k => by
    rw [mset_p _ _ _ _ (by decide), mset_p _ _ _ _ (by decide), mset_p _ _ _ _ (by decide)]
    by_cases e : k = (i : Int)
    · rw [if_pos e, e, mset_s]
    · rw [if_neg e, mset_i _ _ _ _ e]; exact fr 78 k (by unfold WRl; omega)
  have e79 : ∀ k, mset (mset (mset (mset N' 78 (i : Int) r) 79 (i : Int) bk) 56 22 132) 56 24 x 79 k = if k = (i : Int) then bk else N 79 k := fun k => by
    rw [mset_p _ _ _ _ (by decide), mset_p _ _ _ _ (by decide)]
    by_cases e : k = (i : Int)
    · rw [if_pos e, e, mset_s]
    · rw [if_neg e, mset_i _ _ _ _ e, mset_p _ _ _ _ (by decide)]; exact fr 79 k (by unfold WRl; omega)
  refine ⟨mset_R32 (mset_R32 (mset_R32 (mset_R32 hM (by rcases hr with e | e <;> rw [e] <;> exact ⟨by omega, by omega⟩)) (by rcases hb with e | e <;> rw [e] <;> exact ⟨by omega, by omega⟩)) ⟨by omega, by omega⟩) ⟨by omega, by omega⟩, by rw [mset_i _ _ _ _ (by decide), mset_s], mset_s _ _ _ _, fun p k w => ?_, fun j j1 j2 => ?_⟩
  · rw [← h4 p k w, ← fr p k (fun e => w (by unfold WRl at e; unfold WTy; omega))]
    unfold mset
    rw [if_neg (fun e => w (by unfold WTy; omega)), if_neg (fun e => w (by unfold WTy; omega)), if_neg (fun e => w (by unfold WTy; omega)), if_neg (fun e => w (by unfold WTy; omega))]
  · rw [e78, e79, e59]
    have nd : ∀ v, nAt 24 T [] [] j = some v → ∀ A, toO (tyF v.1 v.2.1 v.2.2.1 v.2.2.2) = some A → (flat A).length ≤ 16 := by
      intro v hat
      obtain ⟨f, t, Γ, Δ⟩ := v
      obtain ⟨q, -⟩ := hN.at (by omega) hat
      exact toO_len q.tw q.te
    by_cases e : j = i
    · subst e
      rw [if_pos rfl, if_pos rfl]
      refine ⟨hr, hb, h5, fun v hat => ?_⟩
      obtain ⟨q1, q2, q3⟩ := hv v hat
      unfold TJ
      rw [e78, e79, if_pos rfl, if_pos rfl]
      exact ⟨q1.mv (nd v hat) (fun k _ _ => e73 k), q2, q3⟩
    · rw [if_neg (by omega), if_neg (by omega)]
      obtain ⟨g1, g2, g3, g4⟩ := hj j (by omega) j2
      refine ⟨g1, g2, g3, fun v hat => ?_⟩
      obtain ⟨q1, q2, q3⟩ := g4 v hat
      unfold TJ
      rw [e78, e79, if_neg (by omega), if_neg (by omega)]
      exact ⟨q1.mv (nd v hat) (fun k _ _ => (e73 k).trans (fr 73 k (by unfold WRl; omega))), q2, q3⟩
section PmF14
variable {d : Nat} {Q : Option Value → pm_S → Prop} {N : pm_M} {Rf : Nat → Nat → Nat} {K L : Nat → Nat} {n s0 : Nat}
theorem types_end {x r : Int} {i : Nat} {v : Bool} {o6 o7 : Option Value} (hG : pm_G Rf K L n) (i60 : i < 60) (hr : N 78 (i : Int) = r) (r01 : r = 0 ∨ r = 1) (h : pm_Wp none d 195 24 [some (.ref 56), some (.int (zI 132)), some (.int (zI x)), some (.int (zI (-1))), some (.int (zI ((i : Int) - 1))), some (.int (zI (if v = true then 1 else 0))), o6, o7] [] (zM (mset (mset (mset N 79 (i : Int) (if v = true ∧ r = 0 then 1 else 0)) 56 22 132) 56 24 x), Rf, K, L, n, s0) Q) : pm_Wp none d 195 138 [some (.ref 56), some (.int (zI 132)), some (.int (zI x)), some (.int (zI (-1))), some (.int (zI (i : Int))), some (.int (zI (if v = true then 1 else 0))), o6, o7] [] (zM N, Rf, K, L, n, s0) Q := by
  have fin : ∀ bk : Int, bk = (if v = true ∧ r = 0 then 1 else 0) → pm_Wp none d 195 164 [some (.ref 56), some (.int (zI 132)), some (.int (zI x)), some (.int (zI (-1))), some (.int (zI (i : Int))), some (.int (zI (if v = true then 1 else 0))), o6, o7] [.int (zI bk), .int (zI (i : Int)), .ref 79] (zM N, Rf, K, L, n, s0) Q := by
    intro bk hbk
    have b01 : bk = 0 ∨ bk = 1 := by
      rw [hbk]
      by_cases e : v = true ∧ r = 0
      · rw [if_pos e]; exact Or.inr rfl
      · rw [if_neg e]; exact Or.inl rfl
    rw [← hbk] at h
    rw [show (i : Int) - 1 = (i : Int) + (-1) by omega] at h
    refine wz_zast (z := 64) d195_164 (hG.a (by decide) rfl rfl) (by omega) (by omega) (by decide) (by omega) ?_
    refine wp_aload_n d195_165 rfl ?_
    refine wp_iload_n d195_166 rfl ?_
    refine wz_putI (i := 22) d195_167 rfl (hG.o (by decide) rfl) rfl (by decide) rfl ?_
    refine wp_aload_n d195_170 rfl ?_
    refine wp_iload_n d195_171 rfl ?_
    refine wz_putI (i := 24) d195_172 rfl (hG.o (by decide) rfl) rfl (by decide) rfl ?_
    refine wz_iinc d195_175 rfl rfl ?_
    refine wp_goto (t := 24) d195_178 (by decide) ?_
    exact h
  cases v with
  | false =>
    refine wp_aload_n d195_138 rfl ?_
    refine wp_getR (q := 79) d195_139 rfl (hG.o (by decide) rfl) (by decide) (hG.r (by decide +kernel)) (by decide) ?_
    refine wp_iload d195_142 rfl ?_
    refine wp_iload d195_144 rfl ?_
    refine wz_if_eq (t := 163) d195_146 (by decide) ⟨by omega, by omega⟩ (fun _ => ?_) (fun hb => absurd (by decide) hb)
    refine wz_iconst d195_163 ?_
    exact fin 0 (by rw [if_neg (fun e => by cases e.1)])
  | true =>
    rcases r01 with e | e
    · skip
      refine wp_aload_n d195_138 rfl ?_
      refine wp_getR (q := 79) d195_139 rfl (hG.o (by decide) rfl) (by decide) (hG.r (by decide +kernel)) (by decide) ?_
      refine wp_iload d195_142 rfl ?_
      refine wp_iload d195_144 rfl ?_
      refine wz_if_eq (t := 163) d195_146 (by decide) ⟨by omega, by omega⟩ (fun hb => absurd hb (by decide)) (fun _ => ?_)
      refine wp_aload_n d195_149 rfl ?_
      refine wp_getR (q := 78) d195_150 rfl (hG.o (by decide) rfl) (by decide) (hG.r (by decide +kernel)) (by decide) ?_
      refine wp_iload d195_153 rfl ?_
      refine wz_zald (z := 64) (v := 0) d195_155 (hG.a (by decide) rfl rfl) (by omega) (by omega) (by decide) (hr.trans e) ?_
      refine wz_if_ne (t := 163) d195_156 (by decide) ⟨by omega, by omega⟩ (fun hb => absurd (by decide) hb) (fun _ => ?_)
      refine wz_iconst d195_159 ?_
      refine wp_goto (t := 164) d195_160 (by decide) ?_
      exact fin 1 (by rw [if_pos ⟨rfl, e⟩])
    · skip
      refine wp_aload_n d195_138 rfl ?_
      refine wp_getR (q := 79) d195_139 rfl (hG.o (by decide) rfl) (by decide) (hG.r (by decide +kernel)) (by decide) ?_
      refine wp_iload d195_142 rfl ?_
      refine wp_iload d195_144 rfl ?_
      refine wz_if_eq (t := 163) d195_146 (by decide) ⟨by omega, by omega⟩ (fun hb => absurd hb (by decide)) (fun _ => ?_)
      refine wp_aload_n d195_149 rfl ?_
      refine wp_getR (q := 78) d195_150 rfl (hG.o (by decide) rfl) (by decide) (hG.r (by decide +kernel)) (by decide) ?_
      refine wp_iload d195_153 rfl ?_
      refine wz_zald (z := 64) (v := 1) d195_155 (hG.a (by decide) rfl rfl) (by omega) (by omega) (by decide) (hr.trans e) ?_
      refine wz_if_ne (t := 163) d195_156 (by decide) ⟨by omega, by omega⟩ (fun _ => ?_) (fun hb => absurd hb (by decide))
      refine wz_iconst d195_163 ?_
      exact fin 0 (by rw [if_neg (fun q => by have := q.2; omega)])
end PmF14
