/-! ROWS THAT A STEP TAKES, AND WHAT IS LEFT. -/
theorem hdf {d : Nat} {t : Ty} (h : ok d t = true) (h1 : hd t = 1) : ∃ a b, t = tFun a b ∧ ok d a = true ∧ ok d b = true := by
  rcases ok_cases h with rfl | ⟨k, hk, rfl⟩ | ⟨a, b, rfl, ha, hb⟩ | ⟨a, b, rfl, ha, hb⟩ | ⟨m, x, y, z, hm, rfl, h0, h1', h2⟩
  · rw [hd_top] at h1; omega
  · rw [hd_var] at h1; omega
  · exact ⟨a, b, rfl, ha, hb⟩
  · rw [hd_all] at h1; omega
  · rw [hd_rec] at h1; omega
theorem hda {d : Nat} {t : Ty} (h : ok d t = true) (h1 : hd t = 2) : ∃ a b, t = tAll a b ∧ ok d a = true ∧ ok (d + 1) b = true := by
  rcases ok_cases h with rfl | ⟨k, hk, rfl⟩ | ⟨a, b, rfl, ha, hb⟩ | ⟨a, b, rfl, ha, hb⟩ | ⟨m, x, y, z, hm, rfl, h0, h1', h2⟩
  · rw [hd_top] at h1; omega
  · rw [hd_var] at h1; omega
  · rw [hd_fun] at h1; omega
  · exact ⟨a, b, rfl, ha, hb⟩
  · rw [hd_rec] at h1; omega
theorem stp_r {Γ : List Ty} {s t : Ty} {l : List Tsk} (h : tok (Γ, s, t)) (e : stp Γ s t = some l) : rws l + rst s t ≤ trw (Γ, s, t) := by
  obtain ⟨hc0, hs0, ht0⟩ := h
  have hc : okc Γ := hc0
  have hs : ok Γ.length s = true := hs0
  have ht : ok Γ.length t = true := ht0
  clear hc0 hs0 ht0
  show rws l + rst s t ≤ rwt (omr Γ) s + rwt (omr Γ) t
  unfold stp at e
  unfold rst
  by_cases n1 : hd t = 0 ∨ (16 ≤ hd s ∧ hd s = hd t)
  · rw [if_pos n1] at e
    cases e
    rw [if_pos n1]
    exact Nat.zero_le _
  rw [if_neg n1] at e
  rw [if_neg n1]
  by_cases n2 : 16 ≤ hd s
  · rw [if_pos n2] at e
    cases e
    rw [if_pos n2]
    obtain ⟨k, hk, rfl⟩ := hd_is_var hs n2
    rw [hd_var, show 16 + k - 16 = k by omega]
    show (rwt (omr Γ) (lft k (Γ.length - k) (bnd Γ k)) + rwt (omr Γ) t) + 0 + 1 ≤ _
    rw [rwt_expose hc hk, rwt_var]
    omega
  rw [if_neg n2] at e
  rw [if_neg n2]
  by_cases n3 : 8 ≤ hd s ∧ 8 ≤ hd t ∧ hd t < 16
  · rw [if_pos n3] at e
    rw [if_neg (by omega)]
    split at e
    · cases e
      obtain ⟨m, x, y, z, hm, rfl⟩ := hd_is_rec hs n3.1 (by omega)
      obtain ⟨m', x', y', z', hm', rfl⟩ := hd_is_rec ht n3.2.1 n3.2.2
      rw [hd_rec, show 8 + m' - 8 = m' by omega, rws_app, rws_app, rwt_rec, rwt_rec]
      have a1 := stl_r (Γ := Γ) (m := m') (k := 2) (x := z) (y := z')
      have a2 := stl_r (Γ := Γ) (m := m') (k := 1) (x := y) (y := y')
      have a3 := stl_r (Γ := Γ) (m := m') (k := 0) (x := x) (y := x')
      show rws (stl Γ m' 2 z z') + (rws (stl Γ m' 1 y y') + rws (stl Γ m' 0 x x')) + 0 ≤ _
      omega
    · cases e
  rw [if_neg n3] at e
  by_cases n4 : hd s ≠ hd t ∨ hd s = 0
  · rw [if_pos n4] at e; cases e
  rw [if_neg n4] at e
  by_cases n5 : hd s = 1
  · rw [if_pos n5] at e
    cases e
    rw [if_neg (by omega)]
    obtain ⟨a, b, rfl, ha, hb⟩ := hdf hs n5
    obtain ⟨a', b', rfl, ha', hb'⟩ := hdf ht (by omega)
    rw [rwt_fun, rwt_fun]
    show (rwt (omr Γ) b + rwt (omr Γ) b') + ((rwt (omr Γ) a' + rwt (omr Γ) a) + 0) + 0 ≤ _
    omega
  rw [if_neg n5] at e
  split at e
  · rename_i hfl
    cases e
    have h2 : hd s = 2 := by
      rcases ok_cases hs with rfl | ⟨k, hk, rfl⟩ | ⟨a, b, rfl, ha, hb⟩ | ⟨a, b, rfl, ha, hb⟩ | ⟨m, x, y, z, hm, rfl, h0, h1, h2⟩
      · rw [hd_top] at n4; omega
      · rw [hd_var] at n2; omega
      · rw [hd_fun] at n5; omega
      · rfl
      · exfalso
        rw [hd_rec] at n3 n4
        omega
    rw [if_pos (by omega)]
    obtain ⟨a, b, rfl, ha, hb⟩ := hda hs h2
    obtain ⟨a', b', rfl, ha', hb'⟩ := hda ht (by omega)
    have ea : a = a' := flat_eq ha ha' hfl
    subst ea
    rw [rwt_all, rwt_all]
    show (rwt (rwt (omr Γ) a :: omr Γ) b + rwt (rwt (omr Γ) a :: omr Γ) b') + 0 + 1 ≤ _
    omega
  · cases e
