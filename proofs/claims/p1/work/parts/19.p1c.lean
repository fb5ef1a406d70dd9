/-! p1 of the picture machine. -/
theorem p1_rt {v : Int32} (h1 : 0 ≤ v) (h2 : v < 4) : pm_two 30 2 173 [.int v] p1_post pm_s4 := by
  rcases pm_slot4 h1 h2 with rfl | rfl | rfl | rfl
  · exact pm_ck_two p1_cks.1
  · exact pm_ck_two p1_cks.2.1
  · exact pm_ck_two p1_cks.2.2.1
  · exact pm_ck_two p1_cks.2.2.2.1
theorem p1_le3 {v : Int32} (h : v < 4) : v ≤ 3 := by
  rw [Int32.le_iff_toInt_le]
  rw [Int32.lt_iff_toInt_lt] at h
  have e1 : (4 : Int32).toInt = 4 := by decide
  have e2 : (3 : Int32).toInt = 3 := by decide
  omega
set_option maxRecDepth 20000 in
set_option maxHeartbeats 4000000 in
/-- all sixteen calls on fresh objects -/
theorem p1_ops {σ : pm_S} (hF : pm_Fresh σ) (hrt : ∀ v : Int32, 0 ≤ v → v < 4 → pm_two 30 2 173 [.int v] p1_post σ) (htm : pm_two 30 3 175 [] p1_post σ) : pm_Op 30 p1_post σ := by
  obtain ⟨I, Rf, K, L, n, s⟩ := σ
  have hG : pm_G Rf K L n := hF.1
  have hn : n = 99 := hF.2.1
  have hs : s = 88622 := hF.2.2.1
  have hp : ∀ J : Nat → Nat → Int32, p1_post (J, Rf, K, L, n, s) := fun J => ⟨by show n ≤ 600000; omega, by show s ≤ 7302250; omega⟩
  have h1 : pm_At K n 1 0 := hG.o (by decide) rfl
  have h56 : pm_At K n 56 9 := hG.o (by decide) rfl
  have hx0 : I 1 8 = 0 := hF.2.2.2.2 (1, 8, 0) (by decide +kernel)
  have hm0 : I 56 0 = 0 := hF.2.2.2.2 (56, 0, 0) (by decide +kernel)
  refine ⟨h1, ?_, ?_, htm, ?_, ?_, ?_, ?_, ?_, ?_, ?_, ?_, ?_, ?_, ?_, ?_, ?_⟩
  · intro a _ _
    refine x_type (d := 29) hG hx0 (vp_in_nI (n := 0) (by decide) (by decide)) (fun q => ⟨h56, ?_⟩) (fun q1 q2 q3 => ⟨h56, ?_⟩)
    · refine m_type (d := 29) hG hm0 (vp_in_nI (n := 0) (by decide) (by decide)) (fun _ => ⟨0, rfl, rfl, hp _⟩) (fun r1 r2 _ => ?_)
      exfalso
      rcases q with q | q | q
      · exact r1 q
      · exact r2 q
      · exact q (by decide)
    · refine m_type (d := 29) hG (by rw [pm_un _ _ (by decide), pm_un _ _ (by decide)]; exact hm0) (vp_in_nI (n := 0) (by decide) (by decide)) (fun q => ?_) (fun _ _ _ => ⟨1, rfl, rfl, hp _⟩)
      exfalso
      rcases q with q | q | q
      · exact q1 q
      · exact q2 q
      · exact q (by decide)
  · intro v
    by_cases hv : 0 ≤ v ∧ v < 4
    · exact hrt v hv.1 hv.2
    · exact xf_readType0 (d := 28) hF hv ⟨h56, mf_readType0 (d := 28) hF (fun q => hv ⟨q.1, pm_lt4 q.2⟩) ⟨-2, rfl, rfl, hp _⟩⟩
  · intro a b; exact xf_below (d := 27) hF ⟨h56, mf_below (d := 27) hF ⟨-2, rfl, rfl, hp _⟩⟩
  · intro a b; exact xf_same (d := 27) hF ⟨h56, mf_same (d := 27) hF ⟨-2, rfl, rfl, hp _⟩⟩
  · intro a b c; exact xf_join (d := 27) hF ⟨h56, mf_join (d := 26) hF ⟨-2, rfl, rfl, hp _⟩⟩
  · intro a b c; exact xf_meet (d := 27) hF ⟨h56, mf_meet (d := 26) hF ⟨-2, rfl, rfl, hp _⟩⟩
  · intro a; exact xf_size (d := 27) hF ⟨h56, mf_size (d := 27) hF ⟨0, rfl, rfl, hp _⟩⟩
  · intro a; exact xf_write (d := 27) hF ⟨h56, mf_write (d := 27) hF ⟨-2, rfl, rfl, hp _⟩⟩
  · intro a; exact xf_charAt (d := 29) hF ⟨h56, mf_charAt (d := 29) hF ⟨-1, rfl, rfl, hp _⟩⟩
  · intro a; exact xf_typeOf (d := 27) hF ⟨h56, mf_typeOf (d := 27) hF ⟨-2, rfl, rfl, hp _⟩⟩
  · intro a; exact xf_fits (d := 27) hF ⟨h56, mf_fits (d := 27) hF ⟨0, rfl, rfl, hp _⟩⟩
  · exact xf_start (d := 27) hF ⟨h56, mf_start (d := 27) hF ⟨0, rfl, rfl, hp _⟩⟩
  · intro a; exact xf_step (d := 27) hF ⟨h56, mf_step (d := 27) hF ⟨-2, rfl, rfl, hp _⟩⟩
  · exact xf_steps (d := 27) hF ⟨h56, mf_steps (d := 27) hF ⟨-1, rfl, rfl, hp _⟩⟩
  · exact xf_value (d := 27) hF ⟨h56, mf_value (d := 27) hF ⟨-1, rfl, rfl, hp _⟩⟩
/-- the claim p1, of the picture machine -/
theorem p1_law {L : Nat} {xs : Nat → Int32} (hL : L ≤ 4) : pm_Law L xs := by
  refine ⟨30, by decide, pm_enter (by decide) ?_⟩
  by_cases h : L < 4
  · exact pm_exit (by omega) (by decide) (by omega) ⟨rfl, pm_s4_fresh.2.1 ▸ by decide, pm_s4_fresh.2.2.1 ▸ by decide⟩
  · exact pm_iter (p1_ops pm_s4_fresh (fun v h1 h2 => p1_rt h1 h2) p1_tm) (by omega) (by omega) fun σ' hp => pm_exit (k := 4) (by omega) (by decide) (by omega) ⟨rfl, hp.1, hp.2⟩
