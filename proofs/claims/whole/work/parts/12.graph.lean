/-! RULES of calls, and what stays as it is: kinds, lengths, the references that never change. -/
section PmR3
variable {X : pm_X} {d mi pc : Nat} {ls : pm_L} {st : List Value} {σ : pm_S} {Q : Option Value → pm_S → Prop} {I : Nat → Nat → Int32} {Rf : Nat → Nat → Nat} {K L : Nat → Nat} {n s : Nat}
theorem pm_take_app {as rest : List Value} : (as ++ rest).take as.length = as := by simp
theorem pm_drop_app {as rest : List Value} : (as ++ rest).drop as.length = rest := by simp
theorem wp_virt {k j p : Nat} {as rest : List Value} (hd : decode (pm_code mi) pc = .ok (.invokevirtual k, 3)) (hm : pm_mth (pm_ow mi) k = some j) (hk : pm_kd j = 1) (hnp : pm_np j = as.length) (ha : pm_At K n p (pm_mc j)) (hv : as.all pm_vc = true) (hv2 : rest.all pm_vc = true) (hr : rest.length ≤ 8)
    (h : pm_Wc d j (.ref p :: as.reverse) (I, Rf, K, L, n, s) (fun r σ1 => pm_Wp X d mi (pc + 3) ls (r.toList ++ rest) σ1 Q)) : pm_Wp X d mi pc ls (as ++ .ref p :: rest) (I, Rf, K, L, n, s) Q := by
  obtain ⟨a1, a2, a3⟩ := ha
  refine wp_call hd rfl ?_ h
  simp only [pm_inv, hm, hnp, pm_drop_app, pm_take_app]
  rw [if_pos]
  simp [hk, a1, a2, a3, hr, List.all_append, hv, hv2, pm_vc]
theorem wp_spec {k j p : Nat} {as rest : List Value} (hd : decode (pm_code mi) pc = .ok (.invokespecial k, 3)) (hm : pm_mth (pm_ow mi) k = some j) (hk : pm_kd j = 2) (hnp : pm_np j = as.length) (hp : 1 ≤ p) (hv : as.all pm_vc = true) (hv2 : rest.all pm_vc = true) (hr : rest.length ≤ 8)
    (h : pm_Wc d j (.ref p :: as.reverse) σ (fun r σ1 => pm_Wp X d mi (pc + 3) ls (r.toList ++ rest) σ1 Q)) : pm_Wp X d mi pc ls (as ++ .ref p :: rest) σ Q := by
  refine wp_call hd rfl ?_ h
  simp only [pm_inv, hm, hnp, pm_drop_app, pm_take_app]
  rw [if_pos]
  simp [hk, hp, hr, List.all_append, hv, hv2, pm_vc]
theorem wp_stat {k j : Nat} {as rest : List Value} (hd : decode (pm_code mi) pc = .ok (.invokestatic k, 3)) (hm : pm_mth (pm_ow mi) k = some j) (hk : pm_kd j = 0) (hnp : pm_np j = as.length) (hv : as.all pm_vc = true) (hv2 : rest.all pm_vc = true) (hr : rest.length ≤ 8)
    (h : pm_Wc d j as.reverse σ (fun r σ1 => pm_Wp X d mi (pc + 3) ls (r.toList ++ rest) σ1 Q)) : pm_Wp X d mi pc ls (as ++ rest) σ Q := by
  refine wp_call hd rfl ?_ h
  simp only [pm_inv, hm, hnp, pm_drop_app, pm_take_app]
  rw [if_pos]
  simp [hk, hr, List.all_append, hv, hv2]
theorem wp_min {k : Nat} {x y v : Int32} {rest : List Value} (hd : decode (pm_code mi) pc = .ok (.invokestatic k, 3)) (hb : pm_bi (pm_ow mi) k = 2) (hm : pm_mth (pm_ow mi) k = none) (hv2 : rest.all pm_vc = true) (hr : rest.length ≤ 8) (hv : (if y < x then y else x) = v)
    (h : pm_Wp X d mi (pc + 3) ls (.int v :: rest) σ Q) : pm_Wp X d mi pc ls (.int y :: .int x :: rest) σ Q := by
  subst hv
  exact wp_step hd rfl (by simp [pm_inv, hm]) (by simp [pm_step, pm_jmp, pm_len, pm_rd, pm_loc, pm_wr, pm_mk, pm_jdk, hb, hr, hv2]) h
theorem wp_obj {k p : Nat} {rest : List Value} (hd : decode (pm_code mi) pc = .ok (.invokespecial k, 3)) (hb : pm_bi (pm_ow mi) k = 1) (hm : pm_mth (pm_ow mi) k = none) (hv2 : rest.all pm_vc = true) (hr : rest.length ≤ 8)
    (h : pm_Wp X d mi (pc + 3) ls rest σ Q) : pm_Wp X d mi pc ls (.ref p :: rest) σ Q :=
  wp_step hd rfl (by simp [pm_inv, hm]) (by simp [pm_step, pm_jmp, pm_len, pm_rd, pm_loc, pm_wr, pm_mk, pm_jdk, hb, hr, hv2]) h
/-- a method's body -/
theorem wc_in {j : Nat} {as : List Value} {ls0 : pm_L} (hj : j < pm_cnt) (h1 : as.length ≤ pm_max j) (h2 : as.all pm_vc = true) (hin : pm_in j as = ls0) (h : pm_Wp none d j 0 ls0 [] σ Q) : pm_Wc (d + 1) j as σ Q := by
  subst hin
  exact wc_of hj h1 h2 h
/-- a call that is computed -/
theorem wc_run {F d0 j : Nat} {as : List Value} {r : Option Value} {σ' : pm_S} (hd : d0 ≤ d) (h : pm_call F d0 j as σ = some (r, σ')) (hq : Q r σ') : pm_Wc d j as σ Q := ⟨F, r, σ', pm_call_mono (Nat.le_refl _) d0 d hd _ _ _ _ h, hq⟩
end PmR3
/-! THE GRAPH of the cells (by program): places, kinds, lengths, the references that never change. -/
def pm_KT : List Nat := [0, 10, 1, 3, 11, 0, 12, 0, 0, 0, 0, 0, 0, 13, 1, 1, 14, 0, 0, 0, 0, 0, 0, 14, 0, 0, 0, 0, 0, 0, 11, 0, 11, 0, 11, 0, 11, 0, 15, 1, 1, 0, 16, 17, 0, 0, 0, 0, 0, 0, 0, 18, 0, 0, 0, 0, 19, 0, 0, 0, 0, 0, 0, 0, 0, 0, 0, 0, 0, 0, 0, 0, 2, 0, 0, 0, 0, 0, 2, 2, 0, 0, 0, 0, 0, 0, 0, 0, 0, 0, 0, 0, 0, 0, 0, 0, 0, 0, 0, 0]
def pm_LT : List Nat := [0, 0, 60, 4, 0, 16, 0, 64, 64, 64, 64, 64, 64, 0, 100, 100, 0, 60, 60, 60, 60, 60, 60, 0, 60, 60, 60, 60, 60, 60, 0, 16, 0, 16, 0, 16, 0, 16, 0, 24, 24, 24, 0, 0, 8, 8, 8, 8, 61, 61, 61, 0, 16, 16, 16, 16, 0, 60, 128, 128, 128, 128, 128, 128, 128, 128, 128, 128, 256, 256, 256, 256, 4, 18700, 900, 900, 900, 64, 64, 64, 1800, 4200, 600, 600, 600, 600, 600, 4000, 4000, 4000, 4000, 4000, 4000, 12000, 4000, 4000, 4000, 4000, 1600, 104]
def pm_RT : List (Nat × Nat × Nat) := [(1, 0, 2), (1, 1, 3), (1, 2, 4), (1, 3, 6), (1, 4, 13), (1, 5, 38), (1, 6, 42), (1, 7, 43), (3, 0, 30), (3, 1, 32), (3, 2, 34), (3, 3, 36), (4, 0, 5), (6, 5, 12), (13, 0, 14), (13, 1, 15), (16, 0, 17), (16, 1, 18), (16, 2, 19), (16, 3, 20), (16, 4, 21), (16, 5, 22), (23, 0, 24), (23, 1, 25), (23, 2, 26), (23, 3, 27), (23, 4, 28), (23, 5, 29), (30, 0, 31), (32, 0, 33), (34, 0, 35), (36, 0, 37), (38, 0, 6), (38, 1, 39), (38, 2, 40), (38, 3, 41), (38, 4, 2), (42, 0, 6), (43, 4, 48), (43, 5, 49), (43, 6, 50), (43, 7, 51), (56, 1, 57), (56, 3, 58), (56, 6, 59), (56, 7, 60), (56, 8, 61), (56, 9, 62), (56, 10, 63), (56, 12, 64), (56, 13, 65), (56, 14, 66), (56, 15, 67), (56, 17, 68), (56, 18, 69), (56, 19, 70), (56, 20, 71), (56, 21, 72), (56, 23, 73), (56, 25, 74), (56, 26, 75), (56, 27, 76), (56, 28, 77), (56, 30, 78), (56, 31, 79), (56, 35, 80), (56, 37, 81), (56, 38, 82), (56, 39, 83), (56, 40, 84), (56, 41, 85), (56, 42, 86), (56, 51, 87), (56, 52, 88), (56, 53, 89), (56, 55, 90), (56, 56, 91), (56, 57, 92), (56, 58, 93), (56, 60, 94), (56, 61, 95), (56, 62, 96), (56, 63, 97), (56, 64, 98), (56, 65, 99)]
def pm_RD : List (Nat × Nat × Nat) := [(1, 9, 16), (1, 10, 23), (6, 0, 7), (6, 1, 8), (6, 2, 9), (6, 3, 10), (6, 4, 11), (38, 5, 23), (42, 1, 16), (43, 0, 44), (43, 1, 45), (43, 2, 46), (43, 3, 47), (43, 8, 16), (51, 0, 52), (51, 1, 53), (51, 2, 54), (51, 3, 55)]
def pm_IT : List (Nat × Nat × Int32) := [(1, 8, 0), (1, 11, 0), (1, 12, -1), (1, 13, 0), (1, 14, 0), (4, 1, 0), (4, 2, 0), (6, 6, 1), (13, 2, 0), (13, 3, 0), (16, 6, 0), (23, 6, 0), (30, 1, 0), (30, 2, 0), (32, 1, 0), (32, 2, 0), (34, 1, 0), (34, 2, 0), (36, 1, 0), (36, 2, 0), (38, 6, 0), (38, 7, 0), (38, 8, 0), (38, 9, 0), (38, 10, 0), (38, 11, 0), (38, 12, 0), (42, 2, 0), (43, 9, 0), (43, 10, 0), (43, 11, 0), (43, 12, 0), (43, 13, 0), (43, 14, 0), (43, 15, 0), (43, 16, 0), (51, 4, 0), (56, 0, 0), (56, 2, 0), (56, 4, 0), (56, 5, 0), (56, 11, 0), (56, 16, 0), (56, 22, 132), (56, 24, 0), (56, 29, 0), (56, 32, 0), (56, 33, 0), (56, 34, 0), (56, 36, 0), (56, 43, 0), (56, 44, 0), (56, 45, 0), (56, 46, 0), (56, 47, 0), (56, 48, 0), (56, 49, 0), (56, 50, 0), (56, 54, 0), (56, 59, 0), (72, 0, 0), (72, 1, 0), (72, 2, 0), (72, 3, 0)]
/-- kinds and lengths of the first 99 cells, and the references that never change -/
def pm_G (Rf : Nat → Nat → Nat) (K L : Nat → Nat) (n : Nat) : Prop := 99 ≤ n ∧ (∀ p, p < 100 → K p = pm_KT.getD p 0) ∧ (∀ p, p < 100 → L p = pm_LT.getD p 0) ∧ ∀ x ∈ pm_RT, Rf x.1 x.2.1 = x.2.2
theorem pm_G.o {Rf : Nat → Nat → Nat} {K L : Nat → Nat} {n : Nat} (h : pm_G Rf K L n) {p c : Nat} (hp : 1 ≤ p ∧ p < 100) (hk : pm_KT.getD p 0 = 10 + c) : pm_At K n p c := ⟨hp.1, by have := h.1; omega, (h.2.1 p hp.2).trans hk⟩
theorem pm_G.a {Rf : Nat → Nat → Nat} {K L : Nat → Nat} {n : Nat} (h : pm_G Rf K L n) {p k z : Nat} (hp : 1 ≤ p ∧ p < 100) (hk : pm_KT.getD p 0 = k) (hz : pm_LT.getD p 0 = z) : pm_Ar K L n p k z := ⟨hp.1, by have := h.1; omega, (h.2.1 p hp.2).trans hk, (h.2.2.1 p hp.2).trans hz⟩
theorem pm_G.r {Rf : Nat → Nat → Nat} {K L : Nat → Nat} {n : Nat} (h : pm_G Rf K L n) {p f q : Nat} (hm : (p, f, q) ∈ pm_RT) : Rf p f = q := h.2.2.2 _ hm
/-- as it stands behind the constructors -/
def pm_Fresh (σ : pm_S) : Prop := pm_G σ.2.1 σ.2.2.1 σ.2.2.2.1 σ.2.2.2.2.1 ∧ σ.2.2.2.2.1 = 99 ∧ σ.2.2.2.2.2 = 88622 ∧ (∀ x ∈ pm_RD, σ.2.1 x.1 x.2.1 = x.2.2) ∧ ∀ x ∈ pm_IT, σ.1 x.1 x.2.1 = x.2.2
def pm_chk (σ : pm_S) : Bool := decide (σ.2.2.2.2.1 = 99) && (decide (σ.2.2.2.2.2 = 88622) && ((List.range 100).all (fun p => decide (σ.2.2.1 p = pm_KT.getD p 0) && decide (σ.2.2.2.1 p = pm_LT.getD p 0)) && (pm_RT.all (fun x => decide (σ.2.1 x.1 x.2.1 = x.2.2)) && (pm_RD.all (fun x => decide (σ.2.1 x.1 x.2.1 = x.2.2)) && pm_IT.all (fun x => decide (σ.1 x.1 x.2.1 = x.2.2))))))
theorem pm_Fresh_of {σ : pm_S} (h : pm_chk σ = true) : pm_Fresh σ := by
  unfold pm_chk at h
  simp only [Bool.and_eq_true, decide_eq_true_eq] at h
  obtain ⟨h1, h2, h3, h4, h5, h6⟩ := h
  have k3 := List.all_eq_true.mp h3
  refine ⟨⟨by omega, fun p hp => ?_, fun p hp => ?_, fun x hx => of_decide_eq_true (List.all_eq_true.mp h4 x hx)⟩, h1, h2, fun x hx => of_decide_eq_true (List.all_eq_true.mp h5 x hx), fun x hx => of_decide_eq_true (List.all_eq_true.mp h6 x hx)⟩
  · have := k3 p (List.mem_range.mpr hp)
    rw [Bool.and_eq_true, decide_eq_true_eq, decide_eq_true_eq] at this
    exact this.1
  · have := k3 p (List.mem_range.mpr hp)
    rw [Bool.and_eq_true, decide_eq_true_eq, decide_eq_true_eq] at this
    exact this.2
