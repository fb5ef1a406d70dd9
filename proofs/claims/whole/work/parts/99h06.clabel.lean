/-! THE CLASS: a term is entered. -/
theorem nxl_at : ∀ m, m < 8 → ∀ l, l < 3 → ((bit m l = true → nxl m l = l) ∧ (bit m l = false → nxl m l = nxl m (l + 1))) := by decide
theorem nxl_3 : ∀ m, m < 8 → nxl m 3 = 3 := by decide
section PmH6
variable {d : Nat} {Q : Option Value → pm_S → Prop} {X cnt : Nat} {M : pm_M} {Rf : Nat → Nat → Nat} {K L : Nat → Nat} {n s zf zv zr : Nat}
theorem c_labelFrom {w m g : Nat} (hG : pm_G Rf K L n) (hX : X = 16 ∨ X = 23) (hw : w < 60) (hm : M (X + 3) (w : Int) = (m : Int)) (m8 : m < 8) (hg : g ≤ 3) (hQ : Q (some (.int (zI (nxl m g : Int)))) (zM M, Rf, K, L, n, s)) : pm_Wc (d + 2) 72 [.ref X, .int (zI (w : Int)), .int (zI (g : Int))] (zM M, Rf, K, L, n, s) Q := by
  have loop : ∀ (f l : Nat), l + f = 3 → nxl m l = nxl m g → pm_Wp none (d + 1) 72 2 [some (.ref X), some (.int (zI (w : Int))), some (.int (zI (g : Int))), some (.int (zI (l : Int)))] [] (zM M, Rf, K, L, n, s) Q := by
    intro f
    induction f with
    | zero =>
      intro l hl e
      have el : l = 3 := by omega
      subst el
      rw [nxl_3 m m8] at e
      rw [← e] at hQ
      refine wp_iload_n d72_2 rfl ?_
      refine wz_iconst d72_3 ?_
      refine wz_icmp_ge (t := 22) d72_4 (by decide) ⟨by omega, by omega⟩ ⟨by omega, by omega⟩ (fun _ => ?_) (fun hb => absurd (by omega) hb)
      refine wp_iload_n d72_22 rfl ?_
      exact wp_ret d72_23 rfl (hQ)
    | succ f ih =>
      intro l hl e
      obtain ⟨n1, n2⟩ := nxl_at m m8 l (by omega)
      refine wp_iload_n d72_2 rfl ?_
      refine wz_iconst d72_3 ?_
      refine wz_icmp_ge (t := 22) d72_4 (by decide) ⟨by omega, by omega⟩ ⟨by omega, by omega⟩ (fun hb => absurd hb (by omega)) (fun _ => ?_)
      have hXo : pm_At K n X 4 := by rcases hX with rfl | rfl <;> exact hG.o (by decide) rfl
      refine wp_aload_n d72_7 rfl ?_
      refine wp_iload_n d72_8 rfl ?_
      refine wp_iload_n d72_9 rfl ?_
      refine wp_virt (as := [.int (zI (l : Int)), .int (zI (w : Int))]) (rest := []) d72_10 rfl rfl rfl hXo rfl rfl (Nat.le_of_ble_eq_true rfl) ?_
      refine c_tholds (w := w) (g := l) hG hX hw hm m8 (by omega) (fun hb => ?_) (fun hb => ?_)
      · skip
        refine wz_if_ne (t := 22) d72_13 (by decide) ⟨by omega, by omega⟩ (fun _ => ?_) (fun hb => absurd hb (by omega))
        refine wp_iload_n d72_22 rfl ?_
        rw [← e, n1 hb] at hQ
        exact wp_ret d72_23 rfl (hQ)
      · skip
        refine wz_if_ne (t := 22) d72_13 (by decide) ⟨by omega, by omega⟩ (fun hb => absurd (by omega) hb) (fun _ => ?_)
        refine wz_iinc d72_16 rfl rfl ?_
        refine wp_goto (t := 2) d72_19 (by decide) ?_
        exact ih (l + 1) (by omega) (by rw [← n2 (by simpa using hb)]; exact e)
  have hXo : pm_At K n X 4 := by rcases hX with rfl | rfl <;> exact hG.o (by decide) rfl
  refine wc_in (ls0 := [some (.ref X), some (.int (zI (w : Int))), some (.int (zI (g : Int))), none]) (by decide) (Nat.le_of_ble_eq_true rfl) (by simp [pm_vc]) rfl ?_
  refine wp_iload_n d72_0 rfl ?_
  refine wp_istore_n d72_1 (Nat.le_of_ble_eq_true rfl) rfl ?_
  exact loop (3 - g) g (by omega) rfl
end PmH6
