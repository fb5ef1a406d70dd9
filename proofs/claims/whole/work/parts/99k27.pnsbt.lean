/-! INSTANCES KEEP WHAT THE CUT ASKS. -/
section PmKr
variable {k n : Nat} {Q : Ty}
theorem gpn_sbt (hk : k ≤ n) (gQ : gpn k n Q = true) : ∀ (f : Nat) (t : Ty) (i r : Nat), (flat t).length ≤ f → ok (n + 1 + i) t = true → n < r → gpn k r t = true → gpn k (r - 1) (sbt n Q i t) = true
  | 0, t, i, r, hf, o, _, _ => by have := flat_pos o; omega
  | f + 1, t, i, r, hf, o, hr, hg => by
    rcases ok_cases o with rfl | ⟨j, hj, rfl⟩ | ⟨a, c, rfl, ha, hb⟩ | ⟨a, c, rfl, ha, hb⟩ | ⟨m, x, y, z, hm, rfl, h0, h1, h2⟩
    · rw [gpn_top] at hg; cases hg
    · have hg : ((decide (16 + k ≤ 16 + j) && decide (16 + j < 16 + r)) || false) = true := hg
      rw [Bool.or_false, Bool.and_eq_true, decide_eq_true_iff, decide_eq_true_iff] at hg
      rw [sbt_var]
      by_cases e : j = n
      · rw [if_pos e]
        exact gpn_up (by omega) (fun x => by omega) Q gQ
      · rw [if_neg e]
        by_cases e2 : n < j
        · rw [if_pos e2]
          show ((decide (16 + k ≤ 16 + (j - 1)) && decide (16 + (j - 1) < 16 + (r - 1))) || false) = true
          rw [Bool.or_false, Bool.and_eq_true, decide_eq_true_iff, decide_eq_true_iff]
          omega
        · rw [if_neg e2]
          show ((decide (16 + k ≤ 16 + j) && decide (16 + j < 16 + (r - 1))) || false) = true
          rw [Bool.or_false, Bool.and_eq_true, decide_eq_true_iff, decide_eq_true_iff]
          omega
    · rw [flat_fun, List.length_cons, List.length_append] at hf
      rw [gpn_fun, Bool.or_eq_true] at hg
      rw [sbt_fun, gpn_fun, Bool.or_eq_true]
      exact hg.imp (gpn_sbt hk gQ f a i r (by omega) ha hr) (gpn_sbt hk gQ f c i r (by omega) hb hr)
    · rw [flat_all, List.length_cons, List.length_append] at hf
      rw [gpn_all, Bool.or_eq_true] at hg
      rw [sbt_all, gpn_all, Bool.or_eq_true]
      exact hg.imp (gpn_sbt hk gQ f a i r (by omega) ha hr) (gpn_sbt hk gQ f c (i + 1) r (by omega) (by rw [← Nat.add_assoc]; exact hb) hr)
    · rw [flat_rec, List.length_cons, List.length_append, List.length_append] at hf
      have key : ∀ (g : Nat) (p : Ty), (flat p).length ≤ f → okl (n + 1 + i) m g p → gpn k r p = true → gpn k (r - 1) (sbt n Q i p) = true := by
        intro g p hp ho hg
        unfold okl at ho
        by_cases hb : bit m g = true
        · rw [if_pos hb] at ho
          exact gpn_sbt hk gQ f p i r hp ho hr hg
        · rw [if_neg hb] at ho
          rw [ho] at hg; cases hg
      rw [gpn_rec hm, Bool.or_eq_true, Bool.or_eq_true] at hg
      rw [sbt_rec, gpn_rec hm, Bool.or_eq_true, Bool.or_eq_true]
      exact hg.imp (key 0 x (by omega) h0) (fun q => q.imp (key 1 y (by omega) h1) (key 2 z (by omega) h2))
theorem knt_sbt (q0 : hd Q ≠ 0) {t : Ty} {i : Nat} (o : ok (n + 1 + i) t = true) : knt (sbt n Q i t) = knt t := by
  unfold knt
  rcases ok_cases o with rfl | ⟨j, hj, rfl⟩ | ⟨a, c, rfl, ha, hb⟩ | ⟨a, c, rfl, ha, hb⟩ | ⟨m, x, y, z, hm, rfl, h0, h1, h2⟩
  · rw [sbt_top]
  · rw [sbt_var]
    have e1 : (hd (tVar j) == 0) = false := by rw [hd_var]; simp
    rw [e1]
    by_cases e : j = n
    · rw [if_pos e, lft_hd0]
      simpa using q0
    · rw [if_neg e]
      split <;> (rw [hd_var]; simp; try omega)
  · rw [sbt_fun]; rfl
  · rw [sbt_all]; rfl
  · rw [sbt_rec]; rfl
theorem Wn_sbt (hk : k ≤ n) (gQ : gpn k n Q = true) (q0 : hd Q ≠ 0) (wQ : Wn knt k n Q = true) : ∀ (f : Nat) (t : Ty) (i r : Nat), (flat t).length ≤ f → ok (n + 1 + i) t = true → n < r → Wn knt k r t = true → Wn knt k (r - 1) (sbt n Q i t) = true
  | 0, t, i, r, hf, o, _, _ => by have := flat_pos o; omega
  | f + 1, t, i, r, hf, o, hr, hg => by
    rcases ok_cases o with rfl | ⟨j, hj, rfl⟩ | ⟨a, c, rfl, ha, hb⟩ | ⟨a, c, rfl, ha, hb⟩ | ⟨m, x, y, z, hm, rfl, h0, h1, h2⟩
    · rw [sbt_top]; rfl
    · rw [sbt_var]
      by_cases e : j = n
      · rw [if_pos e]
        exact Wn_up knt_lft (by omega) (fun x => by omega) Q wQ
      · rw [if_neg e]
        split <;> rfl
    · rw [flat_fun, List.length_cons, List.length_append] at hf
      rw [Wn_fun, Bool.and_eq_true] at hg
      rw [sbt_fun, Wn_fun, Bool.and_eq_true]
      exact ⟨Wn_sbt hk gQ q0 wQ f a i r (by omega) ha hr hg.1, Wn_sbt hk gQ q0 wQ f c i r (by omega) hb hr hg.2⟩
    · rw [flat_all, List.length_cons, List.length_append] at hf
      have hb' : ok (n + 1 + (i + 1)) c = true := by rw [← Nat.add_assoc]; exact hb
      rw [Wn_all, Bool.or_eq_true] at hg
      rw [sbt_all, Wn_all, Bool.or_eq_true, knt_sbt q0 ha]
      rcases hg with hg | hg
      · exact Or.inl (gpn_sbt hk gQ _ a i r (Nat.le_refl _) ha hr hg)
      · rw [Bool.and_eq_true, Bool.and_eq_true] at hg
        right
        rw [hg.1, Wn_sbt hk gQ q0 wQ f a i r (by omega) ha hr hg.2.1, Wn_sbt hk gQ q0 wQ f c (i + 1) r (by omega) hb' hr hg.2.2]
        rfl
    · rw [flat_rec, List.length_cons, List.length_append, List.length_append] at hf
      have key : ∀ (g : Nat) (p : Ty), (flat p).length ≤ f → okl (n + 1 + i) m g p → Wn knt k r p = true → Wn knt k (r - 1) (sbt n Q i p) = true := by
        intro g p hp ho hg
        unfold okl at ho
        by_cases hb : bit m g = true
        · rw [if_pos hb] at ho
          exact Wn_sbt hk gQ q0 wQ f p i r hp ho hr hg
        · rw [if_neg hb] at ho
          rw [ho]; rfl
      rw [Wn_rec, Bool.and_eq_true, Bool.and_eq_true] at hg
      rw [sbt_rec, Wn_rec, Bool.and_eq_true, Bool.and_eq_true]
      exact ⟨key 0 x (by omega) h0 hg.1, key 1 y (by omega) h1 hg.2.1, key 2 z (by omega) h2 hg.2.2⟩
/-- an instance whose argument names the variable (or a later one) -/
theorem PNs_sbt (hk : k ≤ n) (oQ : ok n Q = true) (gQ : gpn k n Q = true) (q0 : hd Q ≠ 0) (wQ : Wn knt k n Q = true) (pQ : PNs knt k n Q = true) : ∀ (f : Nat) (t : Ty) (i : Nat), (flat t).length ≤ f → ok (n + 1 + i) t = true → PNs knt k (n + 1 + i) t = true → PNs knt k (n + i) (sbt n Q i t) = true
  | 0, t, i, hf, o, _ => by have := flat_pos o; omega
  | f + 1, t, i, hf, o, hg => by
    rcases ok_cases o with rfl | ⟨j, hj, rfl⟩ | ⟨a, c, rfl, ha, hb⟩ | ⟨a, c, rfl, ha, hb⟩ | ⟨m, x, y, z, hm, rfl, h0, h1, h2⟩
    · rw [sbt_top]; rfl
    · rw [sbt_var]
      by_cases e : j = n
      · rw [if_pos e]
        exact PNs_up knt_lft n i Q n (Nat.le_refl _) pQ
      · rw [if_neg e]
        split <;> rfl
    · rw [flat_fun, List.length_cons, List.length_append] at hf
      rw [PNs_fun, Bool.and_eq_true] at hg
      rw [sbt_fun, PNs_fun, Bool.and_eq_true]
      exact ⟨PNs_sbt hk oQ gQ q0 wQ pQ f a i (by omega) ha hg.1, PNs_sbt hk oQ gQ q0 wQ pQ f c i (by omega) hb hg.2⟩
    · rw [flat_all, List.length_cons, List.length_append] at hf
      have hb' : ok (n + 1 + (i + 1)) c = true := by rw [← Nat.add_assoc]; exact hb
      rw [PNs_all, Bool.and_eq_true, Bool.and_eq_true, Bool.and_eq_true] at hg
      obtain ⟨⟨⟨g1, g2⟩, g3⟩, g4⟩ := hg
      have i1 := PNs_sbt hk oQ gQ q0 wQ pQ f a i (by omega) ha g1
      have i2 := PNs_sbt hk oQ gQ q0 wQ pQ f c (i + 1) (by omega) hb' (by rw [← Nat.add_assoc]; exact g2)
      have i3 := Wn_sbt hk gQ q0 wQ _ a i (n + 1 + i) (Nat.le_refl _) ha (by omega) g3
      rw [show n + 1 + i - 1 = n + i by omega] at i3
      rw [← Nat.add_assoc] at i2
      rw [sbt_all, PNs_all, i1, i2, i3]
      have hk0 : (!(hd (sbt n Q i a) == 0)) = !(hd a == 0) := knt_sbt q0 ha
      rw [hk0]
      rw [Bool.or_eq_true] at g4
      rcases g4 with g4 | g4
      · rw [g4]; rfl
      · have i4 := Wn_sbt hk gQ q0 wQ _ c (i + 1) (n + 1 + i) (Nat.le_refl _) hb' (by omega) g4
        rw [show n + 1 + i - 1 = n + i by omega] at i4
        rw [i4]; simp
    · rw [flat_rec, List.length_cons, List.length_append, List.length_append] at hf
      have key : ∀ (g : Nat) (p : Ty), (flat p).length ≤ f → okl (n + 1 + i) m g p → PNs knt k (n + 1 + i) p = true → PNs knt k (n + i) (sbt n Q i p) = true := by
        intro g p hp ho hg
        unfold okl at ho
        by_cases hb : bit m g = true
        · rw [if_pos hb] at ho
          exact PNs_sbt hk oQ gQ q0 wQ pQ f p i hp ho hg
        · rw [if_neg hb] at ho
          rw [ho]; rfl
      rw [PNs_rec, Bool.and_eq_true, Bool.and_eq_true] at hg
      rw [sbt_rec, PNs_rec, Bool.and_eq_true, Bool.and_eq_true]
      exact ⟨key 0 x (by omega) h0 hg.1, key 1 y (by omega) h1 hg.2.1, key 2 z (by omega) h2 hg.2.2⟩
end PmKr
