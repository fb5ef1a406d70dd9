/-! WHAT STANDS BEFORE A SCHEME, COUNTED AS CONSTANTS: its variables become Top, Top is worth what they are. -/
theorem tch_three {d : Nat} {t : Ty} (o : ok d t = true) : tch t ≠ 3 := by
  intro h
  rcases ok_cases o with rfl | ⟨j, hj, rfl⟩ | ⟨a, c, rfl, ha, hb⟩ | ⟨a, c, rfl, ha, hb⟩ | ⟨m, x, y, z, hm, rfl, h0, h1, h2⟩
  · rw [tch_top] at h; omega
  · rw [tch_var] at h; omega
  · have p1 := tch_pos ha
    have p2 := tch_pos hb
    rw [tch_fun] at h; omega
  · have p1 := tch_pos ha
    have p2 := tch_pos hb
    rw [tch_all] at h; omega
  · rw [tch_rec] at h
    have key : ∀ (i : Nat) (u : Ty), okl d m i u → bit m i = true → 1 ≤ tch u := by
      intro i u ou hb
      unfold okl at ou
      rw [if_pos hb] at ou
      exact tch_pos ou
    have k0 := key 0 x h0
    have k1 := key 1 y h1
    have k2 := key 2 z h2
    rcases (show m = 0 ∨ m = 1 ∨ m = 2 ∨ m = 3 ∨ m = 4 ∨ m = 5 ∨ m = 6 ∨ m = 7 by omega) with rfl | rfl | rfl | rfl | rfl | rfl | rfl | rfl
    · have e : rch 0 = 2 := by decide
      unfold okl at h0 h1 h2
      rw [if_neg (by decide)] at h0 h1 h2
      rw [h0, h1, h2, tch_nil, e] at h
      omega
    · have e : rch 1 = 3 := by decide
      have := k0 (by decide)
      omega
    · have e : rch 2 = 3 := by decide
      have := k1 (by decide)
      omega
    · have e : rch 3 = 5 := by decide
      omega
    · have e : rch 4 = 3 := by decide
      have := k2 (by decide)
      omega
    · have e : rch 5 = 5 := by decide
      omega
    · have e : rch 6 = 5 := by decide
      omega
    · have e : rch 7 = 7 := by decide
      omega
/-- variables of levels below L become Top, the others are numbered from 0 -/
def clv (L : Nat) : Ty → Ty
  | .tag c (.append a b) => .tag c (.append (clv L a) (clv L b))
  | .append a b => .append (clv L a) (clv L b)
  | .tag c .nil => if 16 + L ≤ c then .tag (c - L) .nil else if 16 ≤ c then tTop else .tag c .nil
  | t => t
section PmHw
variable {t0 s2 : Nat} {n1 h : Nat → Nat} {L : Nat}
theorem clv_top : clv L tTop = tTop := by
  show (if 16 + L ≤ 0 then Std.Format.tag (0 - L) .nil else if 16 ≤ 0 then tTop else .tag 0 .nil) = tTop
  rw [if_neg (by omega), if_neg (by omega)]; rfl
theorem clv_var (j : Nat) : clv L (tVar j) = if L ≤ j then tVar (j - L) else tTop := by
  show (if 16 + L ≤ 16 + j then Std.Format.tag (16 + j - L) .nil else if 16 ≤ 16 + j then tTop else .tag (16 + j) .nil) = _
  by_cases e : L ≤ j
  · rw [if_pos e, if_pos (by omega), show 16 + j - L = 16 + (j - L) by omega]; rfl
  · rw [if_neg e, if_neg (by omega), if_pos (by omega)]
theorem clv_fun (a b : Ty) : clv L (tFun a b) = tFun (clv L a) (clv L b) := by simp [tFun, clv]
theorem clv_all (a b : Ty) : clv L (tAll a b) = tAll (clv L a) (clv L b) := by simp [tAll, clv]
theorem clv_rec (m : Nat) (x y z : Ty) : clv L (tRec m x y z) = tRec m (clv L x) (clv L y) (clv L z) := by simp [tRec, clv]
theorem clv_nil : clv L .nil = .nil := by simp [clv]
theorem clv_ok : ∀ (f : Nat) (t : Ty) (d : Nat), (flat t).length ≤ f → ok (d + L) t = true → ok d (clv L t) = true
  | 0, t, d, hf, o => by have := flat_pos o; omega
  | f + 1, t, d, hf, o => by
    rcases ok_cases o with rfl | ⟨j, hj, rfl⟩ | ⟨a, c, rfl, ha, hb⟩ | ⟨a, c, rfl, ha, hb⟩ | ⟨m, x, y, z, hm', rfl, h0, h1, h2⟩
    · rw [clv_top]; exact ok_top _
    · rw [clv_var]
      by_cases e : L ≤ j
      · rw [if_pos e]; exact ok_var (by omega)
      · rw [if_neg e]; exact ok_top _
    · rw [flat_fun, List.length_cons, List.length_append] at hf
      rw [clv_fun, ok_fun]
      exact ⟨clv_ok f a d (by omega) ha, clv_ok f c d (by omega) hb⟩
    · rw [flat_all, List.length_cons, List.length_append] at hf
      rw [clv_all, ok_all]
      exact ⟨clv_ok f a d (by omega) ha, clv_ok f c (d + 1) (by omega) (by rw [show d + 1 + L = d + L + 1 by omega]; exact hb)⟩
    · rw [flat_rec, List.length_cons, List.length_append, List.length_append] at hf
      have key : ∀ (i : Nat) (p : Ty), (flat p).length ≤ f → okl (d + L) m i p → okl d m i (clv L p) := by
        intro i p hp ho
        unfold okl at ho ⊢
        by_cases hb : bit m i = true
        · rw [if_pos hb] at ho ⊢
          exact clv_ok f p d hp ho
        · rw [if_neg hb] at ho ⊢
          rw [ho, clv_nil]
      rw [clv_rec, ok_rec hm']
      exact ⟨key 0 x (by omega) h0, key 1 y (by omega) h1, key 2 z (by omega) h2⟩
/-- with Top worth what the variables before are -/
theorem nz_clv (hm : ∀ y y', y ≤ y' → h y ≤ h y') {y1 : Nat} (hy : t0 ≤ y1) : ∀ (f : Nat) (t : Ty) (ω ω' : List Nat), (flat t).length ≤ f → ω.length = ω'.length + L → ok ω.length t = true → (∀ j, j < L → vw ω j ≤ y1) → (∀ j, j < ω'.length → vw ω (j + L) ≤ vw ω' j) → nz t0 n1 s2 h ω t ≤ nz y1 n1 s2 h ω' (clv L t)
  | 0, t, ω, ω', hf, hl, o, hw, hw' => by have := flat_pos o; omega
  | f + 1, t, ω, ω', hf, hl, o, hw, hw' => by
    rcases ok_cases o with rfl | ⟨j, hj, rfl⟩ | ⟨a, c, rfl, ha, hb⟩ | ⟨a, c, rfl, ha, hb⟩ | ⟨m, x, y, z, hm', rfl, h0, h1, h2⟩
    · rw [clv_top, nz_top, nz_top]; exact hy
    · rw [clv_var, nz_var]
      by_cases e : L ≤ j
      · rw [if_pos e, nz_var]
        have q := hw' (j - L) (by omega)
        rw [show j - L + L = j by omega] at q
        exact q
      · rw [if_neg e, nz_top]; exact hw j (by omega)
    · rw [flat_fun, List.length_cons, List.length_append] at hf
      rw [clv_fun, nz_fun, nz_fun]
      have q1 := nz_clv hm hy f a ω ω' (by omega) hl ha hw hw'
      have q2 := nz_clv hm hy f c ω ω' (by omega) hl hb hw hw'
      omega
    · rw [flat_all, List.length_cons, List.length_append] at hf
      rw [clv_all, nz_all, nz_all]
      have q1 := hm _ _ (nz_clv hm hy f a ω ω' (by omega) hl ha hw hw')
      generalize h (nz t0 n1 s2 h ω a) = v at *
      generalize h (nz y1 n1 s2 h ω' (clv L a)) = v' at *
      have q2 := nz_clv hm hy f c (v :: ω) (v' :: ω') (by omega) (by rw [List.length_cons, List.length_cons]; omega) (by rw [List.length_cons]; exact hb) (fun j hj => by
        rw [vw_cons, if_neg (by omega)]
        exact hw j hj) (fun j hj => by
        rw [List.length_cons] at hj
        rw [vw_cons, vw_cons]
        by_cases e : j = ω'.length
        · rw [if_pos (by omega), if_pos e]; exact q1
        · rw [if_neg (by omega), if_neg e]; exact hw' j (by omega))
      omega
    · rw [flat_rec, List.length_cons, List.length_append, List.length_append] at hf
      have key : ∀ (i : Nat) (p : Ty), (flat p).length ≤ f → okl ω.length m i p → nz t0 n1 s2 h ω p ≤ nz y1 n1 s2 h ω' (clv L p) := by
        intro i p hp ho
        unfold okl at ho
        by_cases hb : bit m i = true
        · rw [if_pos hb] at ho
          exact nz_clv hm hy f p ω ω' hp hl ho hw hw'
        · rw [if_neg hb] at ho
          rw [ho, clv_nil, nz_nil, nz_nil]; exact Nat.le_refl _
      rw [clv_rec, nz_rec, nz_rec]
      have q0 := key 0 x (by omega) h0
      have q1 := key 1 y (by omega) h1
      have q2 := key 2 z (by omega) h2
      omega
theorem tch_clv : ∀ (f : Nat) (t : Ty) (d : Nat), (flat t).length ≤ f → ok d t = true → tch (clv L t) = tch t
  | 0, t, d, hf, o => by have := flat_pos o; omega
  | f + 1, t, d, hf, o => by
    rcases ok_cases o with rfl | ⟨j, hj, rfl⟩ | ⟨a, c, rfl, ha, hb⟩ | ⟨a, c, rfl, ha, hb⟩ | ⟨m, x, y, z, hm', rfl, h0, h1, h2⟩
    · rw [clv_top]
    · rw [clv_var, tch_var]
      by_cases e : L ≤ j
      · rw [if_pos e, tch_var]
      · rw [if_neg e, tch_top]
    · rw [flat_fun, List.length_cons, List.length_append] at hf
      rw [clv_fun, tch_fun, tch_fun, tch_clv f a d (by omega) ha, tch_clv f c d (by omega) hb]
    · rw [flat_all, List.length_cons, List.length_append] at hf
      rw [clv_all, tch_all, tch_all, tch_clv f a d (by omega) ha, tch_clv f c (d + 1) (by omega) hb]
    · rw [flat_rec, List.length_cons, List.length_append, List.length_append] at hf
      have key : ∀ (i : Nat) (p : Ty), (flat p).length ≤ f → okl d m i p → tch (clv L p) = tch p := by
        intro i p hp ho
        unfold okl at ho
        by_cases hb : bit m i = true
        · rw [if_pos hb] at ho
          exact tch_clv f p d hp ho
        · rw [if_neg hb] at ho
          rw [ho, clv_nil]
      rw [clv_rec, tch_rec, tch_rec, key 0 x (by omega) h0, key 1 y (by omega) h1, key 2 z (by omega) h2]
end PmHw
