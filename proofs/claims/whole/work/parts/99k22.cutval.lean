/-! WHAT IS CUT IS WORTH LITTLE. -/
theorem nz_ct {w : Nat} (w1 : 1 ≤ w) : ∀ (f : Nat) (t : Ty) (ω : List Nat), (flat t).length ≤ f → ok ω.length t = true → (∀ j, j < ω.length → vw ω j ≤ w) → nz 0 (fun _ => 1 + 1) (2 + 1) (vlr true 1) ω (ct knt t) ≤ cnv w t
  | 0, t, ω, hf, o, _ => by have := flat_pos o; omega
  | f + 1, t, ω, hf, o, hω => by
    rcases ok_cases o with rfl | ⟨j, hj, rfl⟩ | ⟨a, c, rfl, ha, hb⟩ | ⟨a, c, rfl, ha, hb⟩ | ⟨m, x, y, z, hm, rfl, h0, h1, h2⟩
    · rw [ct_top, nz_top]; exact Nat.zero_le _
    · rw [ct_var, nz_var]
      have e3 : cnv w (tVar j) = w := by simp [tVar, cnv]
      rw [e3]
      exact hω j hj
    · rw [flat_fun, List.length_cons, List.length_append] at hf
      have i1 := nz_ct w1 f a ω (by omega) ha hω
      have i2 := nz_ct w1 f c ω (by omega) hb hω
      rw [ct_fun, nz_fun, cnv_fun]; omega
    · rw [flat_all, List.length_cons, List.length_append] at hf
      rw [ct_all, nz_all, cnv_all]
      by_cases e : hd a = 0
      · have ea := hd0_top ha e
        subst ea
        rw [knt_top, if_pos e]
        have q : vlr true 1 (nz 0 (fun _ => 1 + 1) (2 + 1) (vlr true 1) ω tTop) = 1 := by rw [nz_top]; rfl
        rw [q]
        have i2 := nz_ct w1 f c (1 :: ω) (by omega) (by rw [List.length_cons]; exact hb) (fun j hj => by
          rw [vw_cons]
          by_cases ej : j = ω.length
          · rw [if_pos ej]; exact w1
          · rw [if_neg ej]; exact hω j (by rw [List.length_cons] at hj; omega))
        show 2 + 1 + nz 0 (fun _ => 1 + 1) (2 + 1) (vlr true 1) (1 :: ω) (ct knt c) ≤ _
        omega
      · have ek : knt a = true := by unfold knt; simpa using e
        rw [ek, if_neg e]
        show 2 + 1 + nz 0 (fun _ => 1 + 1) (2 + 1) (vlr true 1) _ tTop ≤ 3
        rw [nz_top]
        exact Nat.le_refl _
    · rw [flat_rec, List.length_cons, List.length_append, List.length_append] at hf
      have key : ∀ (i : Nat) (p : Ty), (flat p).length ≤ f → okl ω.length m i p → nz 0 (fun _ => 1 + 1) (2 + 1) (vlr true 1) ω (ct knt p) ≤ cnv w p := by
        intro i p hp ho
        unfold okl at ho
        by_cases hb : bit m i = true
        · rw [if_pos hb] at ho
          exact nz_ct w1 f p ω hp ho hω
        · rw [if_neg hb] at ho
          rw [ho, ct_nil, nz_nil]; exact Nat.zero_le _
      have j0 := key 0 x (by omega) h0
      have j1 := key 1 y (by omega) h1
      have j2 := key 2 z (by omega) h2
      rw [ct_rec, nz_rec, cnv_rec]; omega
def cvc (B : Nat) : Bool := (List.range 39).all (fun k => (List.range (k + 1)).all (fun o => (frg fr1 k).all (fun p => decide (p.2 + min p.1 ((o + 2 + 3 * SHc (k - o)) / 3) * (4 + (2 * o + (k - o)) / 2) ≤ B))))
theorem cvc_ok : cvc 742 = true := by decide +kernel
/-- a scheme used twice: its second use cut -/
theorem cut_val {C : Ty} {d : Nat} (o : ok d C = true) (hk : tch C ≤ 38) : fav 0 (fun _ => 1 + 1) (2 + 1) 1 C + flv C * (4 + cnv 1 C) ≤ 742 := by
  obtain ⟨p, hp, l1, l2⟩ := fr_lfa (t0 := 0) (n1 := fun _ => 1 + 1) fr1_ok (Nat.le_refl _) (fun m _ => by by_cases h0 : nlb m = 0 <;> by_cases h1 : nlb m = 1 <;> by_cases h2 : nlb m = 2 <;> simp [h0, h1, h2]) _ C d (Nat.le_refl _) o (by omega)
  obtain ⟨c1, c2, c3⟩ := cut_num _ C d (Nat.le_refl _) o (by omega)
  have q := List.all_eq_true.mp (rng_all (rng_all cvc_ok (i := tch C) (by omega)) (i := occ C) (by omega)) p hp
  rw [decide_eq_true_iff, show tch C - occ C = hll C by omega] at q
  have m1 : flv C ≤ min p.1 ((occ C + 2 + 3 * SHc (hll C)) / 3) := by omega
  have m2 : 4 + cnv 1 C ≤ 4 + (2 * occ C + hll C) / 2 := by omega
  have := Nat.mul_le_mul m1 m2
  have l2' : fav 0 (fun _ => 1 + 1) (2 + 1) 1 C ≤ p.2 := l2
  omega
