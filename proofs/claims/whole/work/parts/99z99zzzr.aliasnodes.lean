/-! EXPOSURES OF ALIASES, by nodes: at most thirty-six leaves. -/
def fn0 : FrT := [[], [(1, 0)], [(1, 0)], [(2, 0)], [(3, 0)], [(3, 0)], [(4, 0)], [(5, 0)], [(6, 0)], [(9, 0)], [(9, 0)], [(12, 0)], [(15, 0)], [(18, 0)], [(27, 0)], [(27, 0)], [(36, 0)]]
def gn0 : FrT := [[], [], [(2, 0)], [(2, 0)], [(3, 0)], [(4, 0)], [(4, 0)], [(5, 0)], [(6, 0)], [(7, 0)], [(10, 0)], [(10, 0)], [(13, 0)], [(16, 0)], [(19, 0)], [(28, 0)], [(28, 0)]]
theorem fn0_ok : fnk fn0 gn0 0 0 0 0 0 0 0 0 = true := by decide +kernel
theorem fn0_l : (List.range 17).all (fun n => (frg fn0 n).all (fun p => Nat.ble p.1 36 && Nat.beq p.2 0)) = true := by decide +kernel
theorem al_nz : ∀ (f : Nat) (t : Ty) (χ : List Nat), (flat t).length ≤ f → ok χ.length t = true → noal t = true → al χ t = nz 0 (fun _ => 0) 0 (fun x => x) χ t
  | 0, t, χ, hf, o, _ => by have := flat_pos o; omega
  | f + 1, t, χ, hf, o, hn => by
    rcases ok_cases o with rfl | ⟨j, hj, rfl⟩ | ⟨a, c, rfl, ha, hb⟩ | ⟨a, c, rfl, ha, hb⟩ | ⟨m, x, y, z, hm, rfl, h0, h1, h2⟩
    · rw [al_top, nz_top]
    · rw [al_var, nz_var]
    · rw [flat_fun, List.length_cons, List.length_append] at hf
      rw [noal_fun, Bool.and_eq_true] at hn
      rw [al_fun, nz_fun, al_nz f a χ (by omega) ha hn.1, al_nz f c χ (by omega) hb hn.2, Nat.zero_add]
    · rw [flat_all, List.length_cons, List.length_append] at hf
      rw [noal_all, Bool.and_eq_true, Bool.and_eq_true] at hn
      have h16 := of_decide_eq_true hn.1
      rw [al_all, nz_all, if_neg (by omega), Nat.add_zero, Nat.zero_add, al_nz f a χ (by omega) ha hn.2.1]
      exact al_nz f c _ (by omega) (by rw [List.length_cons]; exact hb) hn.2.2
    · rw [flat_rec, List.length_cons, List.length_append, List.length_append] at hf
      rw [noal_rec, Bool.and_eq_true, Bool.and_eq_true] at hn
      have key : ∀ (i : Nat) (p : Ty), (flat p).length ≤ f → okl χ.length m i p → noal p = true → al χ p = nz 0 (fun _ => 0) 0 (fun x => x) χ p := by
        intro i p hp ho hq
        unfold okl at ho
        by_cases hb : bit m i = true
        · rw [if_pos hb] at ho
          exact al_nz f p χ hp ho hq
        · rw [if_neg hb] at ho
          rw [ho, al_nil, nz_nil]
      rw [al_rec, nz_rec, key 0 x (by omega) h0 hn.1, key 1 y (by omega) h1 hn.2.1, key 2 z (by omega) h2 hn.2.2, Nat.zero_add]
theorem Aq_nodes {Γ : List Ty} {U : Ty} {M : Nat} (hM : ∀ j, j < Γ.length → vw (lsf fa Γ) j ≤ M) (o : ok Γ.length U = true) (hn : noal U = true) (lU : (flat U).length ≤ 16) : Aq Γ U ≤ 36 * M := by
  have l := lsf_len fa Γ
  have o' : ok (lsf fa Γ).length U = true := by rw [l]; exact o
  show al (lsf fa Γ) U ≤ _
  rw [al_nz _ U _ (Nat.le_refl _) o' hn]
  obtain ⟨p, hp, f⟩ := fn_form (F := fn0) (G := gn0) (t0 := 0) (fn := 0) (s2 := 0) (hv := 0) (r0 := 0) (r1 := 0) (r2 := 0) (r3 := 0) (x0 := 0) (n1 := fun _ => 0) (h := fun x => x) fn0_ok (fun y x _ => by show y ≤ 0 + max y x; omega) (Nat.le_refl _) (fun m _ => Nat.zero_le _) _ U _ (Nat.le_refl _) o' lU
  have q := f M _ (Nat.zero_le _) (fun j hj => hM j (by rw [l] at hj; exact hj)) o'
  have c := List.all_eq_true.mp (rng_all fn0_l (i := (flat U).length) (by omega)) p hp
  rw [Bool.and_eq_true] at c
  have c1 := Nat.le_of_ble_eq_true c.1
  have c2 := Nat.eq_of_beq_eq_true c.2
  have m := Nat.mul_le_mul_right M c1
  omega
