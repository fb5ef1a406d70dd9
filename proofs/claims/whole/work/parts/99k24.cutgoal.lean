/-! WHAT IS CUT IS WORTH LITTLE: goals. -/
def cng (w : Nat) : Ty → Nat
  | .tag c (.append a b) => if c = 2 then (if hd a = 0 then 1 + cng w b else 2) else ngc c + (cng w a + cng w b)
  | .tag c .nil => if 16 ≤ c then w else 1
  | .append a b => cng w a + cng w b
  | _ => 0
theorem cng_fun (w : Nat) (a b : Ty) : cng w (tFun a b) = 1 + (cng w a + cng w b) := by simp [tFun, cng, ngc]
theorem cng_all (w : Nat) (a b : Ty) : cng w (tAll a b) = if hd a = 0 then 1 + cng w b else 2 := by simp [tAll, cng]
theorem cng_rec (w m : Nat) (x y z : Ty) : cng w (tRec m x y z) = ngc (8 + m) + (cng w x + (cng w y + cng w z)) := by
  unfold tRec
  rw [cng, if_neg (by omega), cng]
theorem ngc_rch : ∀ m, m < 8 → ngc (8 + m) ≤ rch m := by decide
theorem nz_ctg {w : Nat} (w1 : 1 ≤ w) : ∀ (f : Nat) (t : Ty) (ω : List Nat), (flat t).length ≤ f → ok ω.length t = true → (∀ j, j < ω.length → vw ω j ≤ w) → nz 1 ngc 1 (fun x => x) ω (ct knt t) ≤ cng w t
  | 0, t, ω, hf, o, _ => by have := flat_pos o; omega
  | f + 1, t, ω, hf, o, hω => by
    rcases ok_cases o with rfl | ⟨j, hj, rfl⟩ | ⟨a, c, rfl, ha, hb⟩ | ⟨a, c, rfl, ha, hb⟩ | ⟨m, x, y, z, hm, rfl, h0, h1, h2⟩
    · rw [ct_top, nz_top]; exact Nat.le_refl _
    · rw [ct_var, nz_var]
      have e3 : cng w (tVar j) = w := by simp [tVar, cng]
      rw [e3]
      exact hω j hj
    · rw [flat_fun, List.length_cons, List.length_append] at hf
      have i1 := nz_ctg w1 f a ω (by omega) ha hω
      have i2 := nz_ctg w1 f c ω (by omega) hb hω
      rw [ct_fun, nz_fun, cng_fun]
      have : ngc 1 = 1 := rfl
      omega
    · rw [flat_all, List.length_cons, List.length_append] at hf
      rw [ct_all, nz_all, cng_all]
      by_cases e : hd a = 0
      · have ea := hd0_top ha e
        subst ea
        rw [knt_top, if_pos e]
        have q : nz 1 ngc 1 (fun x => x) ω tTop = 1 := by rw [nz_top]
        rw [q]
        have i2 := nz_ctg w1 f c (1 :: ω) (by omega) (by rw [List.length_cons]; exact hb) (fun j hj => by
          rw [vw_cons]
          by_cases ej : j = ω.length
          · rw [if_pos ej]; exact w1
          · rw [if_neg ej]; exact hω j (by rw [List.length_cons] at hj; omega))
        show 1 + nz 1 ngc 1 (fun x => x) (1 :: ω) (ct knt c) ≤ _
        omega
      · have ek : knt a = true := by unfold knt; simpa using e
        rw [ek, if_neg e]
        show 1 + nz 1 ngc 1 (fun x => x) _ tTop ≤ 2
        rw [nz_top]
        exact Nat.le_refl _
    · rw [flat_rec, List.length_cons, List.length_append, List.length_append] at hf
      have key : ∀ (i : Nat) (p : Ty), (flat p).length ≤ f → okl ω.length m i p → nz 1 ngc 1 (fun x => x) ω (ct knt p) ≤ cng w p := by
        intro i p hp ho
        unfold okl at ho
        by_cases hb : bit m i = true
        · rw [if_pos hb] at ho
          exact nz_ctg w1 f p ω hp ho hω
        · rw [if_neg hb] at ho
          rw [ho, ct_nil, nz_nil]; exact Nat.zero_le _
      have j0 := key 0 x (by omega) h0
      have j1 := key 1 y (by omega) h1
      have j2 := key 2 z (by omega) h2
      rw [ct_rec, nz_rec, cng_rec]; omega
theorem cng_num : ∀ (f : Nat) (t : Ty) (d : Nat), (flat t).length ≤ f → ok d t = true → 3 * cng 1 t ≤ 3 * occ t + hll t
  | 0, t, d, hf, o => by have := flat_pos o; omega
  | f + 1, t, d, hf, o => by
    rcases ok_cases o with rfl | ⟨j, hj, rfl⟩ | ⟨a, c, rfl, ha, hb⟩ | ⟨a, c, rfl, ha, hb⟩ | ⟨m, x, y, z, hm, rfl, h0, h1, h2⟩
    · decide
    · have e1 : occ (tVar j) = 1 := rfl
      have e2 : hll (tVar j) = 0 := rfl
      have e3 : cng 1 (tVar j) = 1 := by simp [tVar, cng]
      rw [e1, e2, e3]; omega
    · rw [flat_fun, List.length_cons, List.length_append] at hf
      have i1 := cng_num f a d (by omega) ha
      have i2 := cng_num f c d (by omega) hb
      rw [occ_fun, hll_fun, cng_fun]; omega
    · rw [flat_all, List.length_cons, List.length_append] at hf
      have pa := tch_pos ha
      have pc := tch_pos hb
      have i2 := cng_num f c (d + 1) (by omega) hb
      rw [occ_all, hll_all, cng_all]
      by_cases e : hd a = 0
      · rw [if_pos e, if_pos e, if_pos e]; omega
      · rw [if_neg e, if_neg e, if_neg e]; omega
    · rw [flat_rec, List.length_cons, List.length_append, List.length_append] at hf
      have key : ∀ (i : Nat) (p : Ty), (flat p).length ≤ f → okl d m i p → 3 * cng 1 p ≤ 3 * occ p + hll p := by
        intro i p hp ho
        unfold okl at ho
        by_cases hb : bit m i = true
        · rw [if_pos hb] at ho
          exact cng_num f p d hp ho
        · rw [if_neg hb] at ho
          rw [ho]; decide
      have j0 := key 0 x (by omega) h0
      have j1 := key 1 y (by omega) h1
      have j2 := key 2 z (by omega) h2
      have := ngc_rch m hm
      rw [occ_rec, hll_rec, cng_rec]; omega
def cvg (B : Nat) : Bool := (List.range 39).all (fun k => (List.range (k + 1)).all (fun o => (frg frq k).all (fun p => decide (p.2 + min p.1 ((o + 2 + 3 * SHc (k - o)) / 3) * (1 + (3 * o + (k - o)) / 3) ≤ B))))
theorem cvg_ok : cvg 591 = true := by decide +kernel
/-- a scheme used twice: its second use cut, goals -/
theorem cut_goal {C : Ty} {d : Nat} (o : ok d C = true) (hk : tch C ≤ 38) : fav 1 ngc 1 0 C + flv C * (1 + cng 1 C) ≤ 591 := by
  obtain ⟨p, hp, l1, l2⟩ := fr_lfa (t0 := 1) (n1 := ngc) frq_ok (Nat.le_refl _) ngc_r _ C d (Nat.le_refl _) o (by omega)
  obtain ⟨c1, c2, c3⟩ := cut_num _ C d (Nat.le_refl _) o (by omega)
  have c4 := cng_num _ C d (Nat.le_refl _) o
  have q := List.all_eq_true.mp (rng_all (rng_all cvg_ok (i := tch C) (by omega)) (i := occ C) (by omega)) p hp
  rw [decide_eq_true_iff, show tch C - occ C = hll C by omega] at q
  have m1 : flv C ≤ min p.1 ((occ C + 2 + 3 * SHc (hll C)) / 3) := by omega
  have m2 : 1 + cng 1 C ≤ 1 + (3 * occ C + hll C) / 3 := by omega
  have := Nat.mul_le_mul m1 m2
  have l2' : fav 1 ngc 1 0 C ≤ p.2 := l2
  omega
