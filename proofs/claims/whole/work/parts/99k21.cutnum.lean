/-! THE NUMBERS AFTER THE CUT: characters outside the cut schemes, and inside. -/
def knt (a : Ty) : Bool := !(hd a == 0)
theorem knt_lft (j m : Nat) (t : Ty) : knt (lft j m t) = knt t := by unfold knt; rw [lft_hd0]
theorem knt_top : knt tTop = false := rfl
def occ : Ty → Nat
  | .tag c (.append a b) => if c = 2 then (if hd a = 0 then 4 + tch a + occ b else 0) else (if c = 1 then 3 else rch (c - 8)) + (occ a + occ b)
  | .tag _ .nil => 1
  | .append a b => occ a + occ b
  | _ => 0
def hll : Ty → Nat
  | .tag c (.append a b) => if c = 2 then (if hd a = 0 then hll b else 4 + (tch a + tch b)) else hll a + hll b
  | .append a b => hll a + hll b
  | _ => 0
def cnv (w : Nat) : Ty → Nat
  | .tag c (.append a b) => if c = 2 then (if hd a = 0 then 3 + cnv w b else 3) else 2 + (cnv w a + cnv w b)
  | .tag c .nil => if 16 ≤ c then w else 0
  | .append a b => cnv w a + cnv w b
  | _ => 0
def shl0 : List Nat := [0, 0, 0, 0, 0, 0, 2, 2, 2, 3, 3, 3, 4, 4, 4, 5, 5, 5, 6, 6, 6, 7, 9, 9, 9, 9, 12, 12, 12, 12, 16, 18, 18, 18, 20, 27, 27, 27, 27, 36, 36, 36, 36, 48, 54, 54, 54, 64, 81, 81, 81, 81, 108, 108, 108, 108, 144]
def SHc (k : Nat) : Nat := shl0.getD k 0
theorem sh_add : (List.range 57).all (fun i => (List.range (57 - i)).all (fun j => decide (SHc i + SHc j ≤ SHc (i + j)))) = true := by decide +kernel
theorem sh_fr : (List.range 51).all (fun i => (frg fr1 (i + 6)).all (fun p => decide (p.1 ≤ SHc (i + 6)))) = true := by decide +kernel
theorem SHc_add {i j : Nat} (h : i + j ≤ 56) : SHc i + SHc j ≤ SHc (i + j) := by
  have := rng_all (rng_all sh_add (i := i) (by omega)) (i := j) (by omega)
  rw [decide_eq_true_iff] at this
  exact this
theorem SHc_fr {k : Nat} (h1 : 6 ≤ k) (h2 : k ≤ 56) {p : Nat × Nat} (hp : p ∈ frg fr1 k) : p.1 ≤ SHc k := by
  have := List.all_eq_true.mp (rng_all sh_fr (i := k - 6) (by omega)) p (by rw [show k - 6 + 6 = k by omega]; exact hp)
  rw [decide_eq_true_iff, show k - 6 + 6 = k by omega] at this
  exact this
section PmKn
theorem occ_fun (a b : Ty) : occ (tFun a b) = 3 + (occ a + occ b) := by simp [tFun, occ]
theorem occ_all (a b : Ty) : occ (tAll a b) = if hd a = 0 then 4 + tch a + occ b else 0 := by simp [tAll, occ]
theorem occ_rec (m : Nat) (x y z : Ty) : occ (tRec m x y z) = rch m + (occ x + (occ y + occ z)) := by
  unfold tRec
  rw [occ, if_neg (by omega), if_neg (by omega), occ, show 8 + m - 8 = m by omega]
theorem hll_fun (a b : Ty) : hll (tFun a b) = hll a + hll b := by simp [tFun, hll]
theorem hll_all (a b : Ty) : hll (tAll a b) = if hd a = 0 then hll b else 4 + (tch a + tch b) := by simp [tAll, hll]
theorem hll_rec (m : Nat) (x y z : Ty) : hll (tRec m x y z) = hll x + (hll y + hll z) := by
  unfold tRec
  rw [hll, if_neg (by omega), hll]
theorem cnv_fun (w : Nat) (a b : Ty) : cnv w (tFun a b) = 2 + (cnv w a + cnv w b) := by simp [tFun, cnv]
theorem cnv_all (w : Nat) (a b : Ty) : cnv w (tAll a b) = if hd a = 0 then 3 + cnv w b else 3 := by simp [tAll, cnv]
theorem cnv_rec (w m : Nat) (x y z : Ty) : cnv w (tRec m x y z) = 2 + (cnv w x + (cnv w y + cnv w z)) := by
  unfold tRec
  rw [cnv, if_neg (by omega), cnv]
theorem hd0_top {d : Nat} {a : Ty} (ha : ok d a = true) (h0 : hd a = 0) : a = tTop := by
  rcases ok_cases ha with e' | ⟨j, hj, e'⟩ | ⟨p, q, e', -, -⟩ | ⟨p, q, e', -, -⟩ | ⟨m, x, y, z, hm, e', -⟩
  · exact e'
  · rw [e', hd_var] at h0; omega
  · rw [e', hd_fun] at h0; omega
  · rw [e', hd_all] at h0; omega
  · rw [e', hd_rec] at h0; omega
theorem rch_nlb : ∀ m, m < 8 → 2 ≤ rch m ∧ 2 * nlb m ≤ rch m ∧ (1 ≤ nlb m → 2 * nlb m + 1 ≤ rch m) := by decide
/-- characters outside and inside, the cut value, the leaves -/
theorem cut_num : ∀ (f : Nat) (t : Ty) (d : Nat), (flat t).length ≤ f → ok d t = true → tch t ≤ 56 → occ t + hll t = tch t ∧ 2 * cnv 1 t ≤ 2 * occ t + hll t ∧ 3 * flv t ≤ occ t + 2 + 3 * SHc (hll t)
  | 0, t, d, hf, o, _ => by have := flat_pos o; omega
  | f + 1, t, d, hf, o, hk => by
    rcases ok_cases o with rfl | ⟨j, hj, rfl⟩ | ⟨a, c, rfl, ha, hb⟩ | ⟨a, c, rfl, ha, hb⟩ | ⟨m, x, y, z, hm, rfl, h0, h1, h2⟩
    · exact ⟨rfl, by decide, by decide⟩
    · have e1 : occ (tVar j) = 1 := rfl
      have e2 : hll (tVar j) = 0 := rfl
      have e3 : cnv 1 (tVar j) = 1 := by simp [tVar, cnv]
      rw [e1, e2, e3, flv_var, tch_var]
      exact ⟨rfl, by omega, by omega⟩
    · rw [flat_fun, List.length_cons, List.length_append] at hf
      rw [tch_fun] at hk ⊢
      obtain ⟨p1, p2, p3⟩ := cut_num f a d (by omega) ha (by omega)
      obtain ⟨q1, q2, q3⟩ := cut_num f c d (by omega) hb (by omega)
      rw [occ_fun, hll_fun, cnv_fun, flv_fun]
      have := SHc_add (i := hll a) (j := hll c) (by omega)
      exact ⟨by omega, by omega, by omega⟩
    · rw [flat_all, List.length_cons, List.length_append] at hf
      have hk0 := hk
      rw [tch_all] at hk
      have pa := tch_pos ha
      have pc := tch_pos hb
      rw [occ_all, hll_all, cnv_all]
      by_cases e : hd a = 0
      · have ea := hd0_top ha e
        subst ea
        obtain ⟨q1, q2, q3⟩ := cut_num f c (d + 1) (by omega) hb (by rw [tch_top] at hk; omega)
        rw [if_pos e, if_pos e, if_pos e, tch_all, flv_all, flv_top, tch_top]
        have em : flv c * max 1 0 = flv c := by simp
        rw [em]
        exact ⟨by omega, by omega, by omega⟩
      · rw [if_neg e, if_neg e, if_neg e]
        obtain ⟨p, hp, l1, -⟩ := fr_lfa (t0 := 0) (n1 := fun _ => 1 + 1) fr1_ok (Nat.le_refl _) (fun m _ => by by_cases h0 : nlb m = 0 <;> by_cases h1 : nlb m = 1 <;> by_cases h2 : nlb m = 2 <;> simp [h0, h1, h2]) _ (tAll a c) d (Nat.le_refl _) o hk0
        rw [tch_all] at hp
        have := SHc_fr (by omega) hk hp
        rw [tch_all]
        exact ⟨by omega, by omega, by omega⟩
    · rw [flat_rec, List.length_cons, List.length_append, List.length_append] at hf
      rw [tch_rec] at hk ⊢
      have key : ∀ (i : Nat) (p : Ty), (flat p).length ≤ f → okl d m i p → tch p ≤ 56 → occ p + hll p = tch p ∧ 2 * cnv 1 p ≤ 2 * occ p + hll p ∧ 3 * flv p ≤ occ p + (if bit m i then 2 else 0) + 3 * SHc (hll p) := by
        intro i p hp ho hk
        unfold okl at ho
        by_cases hb : bit m i = true
        · rw [if_pos hb] at ho
          rw [if_pos hb]
          exact cut_num f p d hp ho hk
        · rw [if_neg hb] at ho
          rw [ho, if_neg hb]
          exact ⟨rfl, by decide, by decide⟩
      obtain ⟨p1, p2, p3⟩ := key 0 x (by omega) h0 (by omega)
      obtain ⟨q1, q2, q3⟩ := key 1 y (by omega) h1 (by omega)
      obtain ⟨r1, r2, r3⟩ := key 2 z (by omega) h2 (by omega)
      have s1 := SHc_add (i := hll y) (j := hll z) (by omega)
      have s2 := SHc_add (i := hll x) (j := hll y + hll z) (by omega)
      obtain ⟨n0, n1, n2⟩ := rch_nlb m hm
      have nb : nlb m = (if bit m 0 then 1 else 0) + (if bit m 1 then 1 else 0) + (if bit m 2 then 1 else 0) := rfl
      have w2 : (if bit m 0 = true then 2 else 0) + (if bit m 1 = true then 2 else 0) + (if bit m 2 = true then 2 else 0) = 2 * nlb m := by
        rw [nb]
        by_cases b0 : bit m 0 = true <;> by_cases b1 : bit m 1 = true <;> by_cases b2 : bit m 2 = true <;> simp [b0, b1, b2]
      rw [occ_rec, hll_rec, cnv_rec, flv_rec]
      exact ⟨by omega, by omega, by omega⟩
end PmKn
