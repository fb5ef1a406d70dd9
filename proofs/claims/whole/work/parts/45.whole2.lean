/-! THE MODEL: whole, the parts are written down. -/
def okT (t : Ty) : Rs := some (some t)
def fla : List Ty → List Int
  | [] => []
  | t :: l => flat t ++ fla l
section PmM16
variable {d : Nat} {Q : Option Value → pm_S → Prop} {M N : pm_M} {Rf : Nat → Nat → Nat} {K L : Nat → Nat} {n s : Nat}
set_option maxRecDepth 20000 in
set_option maxHeartbeats 2000000 in
theorem whole_copy {u g f mn r : Int} {o4 o5 o6 : Option Value} (hG : pm_G Rf K L n) (hN : ∀ p i, R32 (N p i)) (u1 : u ≤ 1100) (r0 : 0 ≤ r) (ru : u ≤ r) (r1 : r < 1100) (f0 : 0 ≤ f) (m1 : f + mn ≤ 600) : ∀ (ts : List Ty) (i : Int) (acc : List Int), RL N u (f + i) (ts.map okT) → mn = i + ts.length → 0 ≤ i → (∀ c ∈ acc, R32 c) → acc.length + (fla ts).length ≤ 17 → ((∀ c ∈ acc ++ fla ts, R32 c) → pm_Wp none (d + 3) 168 406 [some (.ref 56), some (.int (zI g)), some (.int (zI f)), some (.int (zI mn)), o4, o5, o6, some (.int (zI r)), some (.int (zI ((acc ++ fla ts).length : Int))), some (.int (zI mn))] [] (zM (mput N 73 (17 * r) (acc ++ fla ts)), Rf, K, L, n, s) Q) → pm_Wp none (d + 3) 168 358 [some (.ref 56), some (.int (zI g)), some (.int (zI f)), some (.int (zI mn)), o4, o5, o6, some (.int (zI r)), some (.int (zI (acc.length : Int))), some (.int (zI i))] [] (zM (mput N 73 (17 * r) acc), Rf, K, L, n, s) Q
  | [], i, acc, _, hmn, i0, hacc, hl, h => by
    have hmn : mn = i := by rw [hmn]; simp
    subst hmn
    rw [show fla [] = [] from rfl, List.append_nil] at h
    refine wp_iload d168_358 rfl ?_
    refine wp_iload_n d168_360 rfl ?_
    refine wz_icmp_ge (t := 406) d168_361 (by decide) (⟨by omega, by omega⟩) (⟨by omega, by omega⟩) (fun _ => ?_) (fun hb => absurd (by omega) hb)
    exact h hacc
  | R :: ts, i, acc, hr, hmn, i0, hacc, hl, h => by
    rw [List.length_cons] at hmn
    have hla : (fla (R :: ts)).length = (flat R).length + (fla ts).length := by rw [fla, List.length_append]
    rw [hla] at hl
    obtain ⟨hr, hrs⟩ := hr
    rw [show f + i + 1 = f + (i + 1) by omega] at hrs
    obtain ⟨-, b0, b1, b2, b3, b4, b5⟩ := hr
    obtain ⟨rw1, e5⟩ : ∃ v, N 85 (f + i) = v := ⟨_, rfl⟩
    obtain ⟨at1, e6⟩ : ∃ v, N 86 (f + i) = v := ⟨_, rfl⟩
    rw [e5] at b0 b1 b4
    rw [e6] at b2 b3 b4
    have e5' : mput N 73 (17 * r) acc 85 (f + i) = rw1 := by rw [mput_p _ _ _ _ (by decide)]; exact e5
    have e6' : mput N 73 (17 * r) acc 86 (f + i) = at1 := by rw [mput_p _ _ _ _ (by decide)]; exact e6
    have hR := Row.R32 hN b4
    have hacc' : ∀ c ∈ acc ++ flat R, R32 c := fun c hc => (List.mem_append.mp hc).elim (hacc c) (hR c)
    have q1 := mput_R32 (p := 73) (b := 17 * r) hN hacc
    have q2 := mput_R32 (p := 73) (b := 17 * r) hN hacc'
    have rr : Row (mput N 73 (17 * r) acc) rw1 at1 (flat R) := by
      have := mput_other (t := r) (b := 0) (l := acc) (by omega) b2 b3 (by omega) (by omega) b4
      rwa [Int.add_zero] at this
    have rn : Row (mput N 73 (17 * r) (acc ++ flat R)) r (acc.length : Int) (flat R) := by
      have := (Row.app.mp (mput_row (acc ++ flat R) N r 0)).2
      rwa [Int.add_zero, Int.zero_add] at this
    have ih := whole_copy (g := g) (o4 := o4) (o5 := o5) (o6 := o6) hG hN u1 r0 ru r1 f0 m1 ts (i + 1) (acc ++ flat R) hrs (by omega) (by omega) hacc' (by rw [List.length_append]; omega)
    rw [List.append_assoc] at ih
    refine wp_iload d168_358 rfl ?_
    refine wp_iload_n d168_360 rfl ?_
    refine wz_icmp_ge (t := 406) d168_361 (by decide) (⟨by omega, by omega⟩) (⟨by omega, by omega⟩) (fun hb => absurd hb (by omega)) (fun _ => ?_)
    refine wp_aload_n d168_364 rfl ?_
    refine wp_aload_n d168_365 rfl ?_
    refine wp_getR (q := 85) d168_366 rfl (hG.o (by decide) rfl) (by decide) (hG.r (by decide +kernel)) (by decide) ?_
    refine wp_iload_n d168_369 rfl ?_
    refine wp_iload d168_370 rfl ?_
    refine wz_iadd d168_372 ?_
    refine wz_iald (z := 600) (v := rw1) d168_373 (hG.a (by decide) rfl rfl) (by omega) (by omega) (by decide) e5' ?_
    refine wp_aload_n d168_374 rfl ?_
    refine wp_getR (q := 86) d168_375 rfl (hG.o (by decide) rfl) (by decide) (hG.r (by decide +kernel)) (by decide) ?_
    refine wp_iload_n d168_378 rfl ?_
    refine wp_iload d168_379 rfl ?_
    refine wz_iadd d168_381 ?_
    refine wz_iald (z := 600) (v := at1) d168_382 (hG.a (by decide) rfl rfl) (by omega) (by omega) (by decide) e6' ?_
    refine wp_iload d168_383 rfl ?_
    refine wp_iload d168_385 rfl ?_
    refine wp_virt (as := [.int (zI ((acc.length : Int))), .int (zI (r)), .int (zI (at1)), .int (zI (rw1))]) (rest := []) d168_387 rfl rfl rfl (hG.o (by decide) rfl) rfl rfl (Nat.le_of_ble_eq_true rfl) ?_
    refine m_copy (l := flat R) hG q1 b0 (by omega) b2 b3 r0 r1 (by omega) (by omega) (by omega) rr b5 ?_
    rw [mput_app N 73 (17 * r) acc (flat R) rfl]
    refine wp_aload_n d168_390 rfl ?_
    refine wp_iload d168_391 rfl ?_
    refine wp_iload d168_393 rfl ?_
    refine wp_virt (as := [.int (zI ((acc.length : Int))), .int (zI (r))]) (rest := []) d168_395 rfl rfl rfl (hG.o (by decide) rfl) rfl rfl (Nat.le_of_ble_eq_true rfl) ?_
    refine m_end (l := flat R) hG q2 r0 r1 (by omega) (by omega) rn b5 ?_
    refine wp_istore d168_398 (Nat.le_of_ble_eq_true rfl) rfl ?_
    refine wz_iinc d168_400 rfl rfl ?_
    refine wp_goto (t := 358) d168_403 (by decide) ?_
    rw [show (acc.length : Int) + ((flat R).length : Int) = ((acc ++ flat R).length : Int) by rw [List.length_append]; omega]
    exact ih h
end PmM16
