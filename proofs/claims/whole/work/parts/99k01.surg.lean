/-! A SCHEME VARIABLE WHOSE BOUND'S BOUND NO OTHER SCHEME HAS: what stands in it does not matter. -/
/-- no scheme in it has a bound with that head -/
def noh (h : Nat) : Ty → Bool
  | .tag c (.append a b) => (if c = 2 then !(hd a == h) else true) && (noh h a && noh h b)
  | .append a b => noh h a && noh h b
  | _ => true
section PmK1
variable {h : Nat}
theorem noh_top : noh h tTop = true := rfl
theorem noh_var (k : Nat) : noh h (tVar k) = true := rfl
theorem noh_fun {a b : Ty} : noh h (tFun a b) = true ↔ noh h a = true ∧ noh h b = true := by
  simp [tFun, noh]
theorem noh_all {a b : Ty} : noh h (tAll a b) = true ↔ hd a ≠ h ∧ noh h a = true ∧ noh h b = true := by
  simp [tAll, noh]
theorem noh_rec {m : Nat} {x y z : Ty} : noh h (tRec m x y z) = true ↔ noh h x = true ∧ noh h y = true ∧ noh h z = true := by
  have e : ¬ 8 + m = 2 := by omega
  simp [tRec, noh, e]
theorem noh_nil : noh h .nil = true := rfl
theorem noh_lft (h16 : h < 16) (k n : Nat) : ∀ (f : Nat) (t : Ty) (d : Nat), (flat t).length ≤ f → ok d t = true → noh h t = true → noh h (lft k n t) = true
  | 0, t, d, hf, o, _ => by have := flat_pos o; omega
  | f + 1, t, d, hf, o, ht => by
    rcases ok_cases o with rfl | ⟨j, hj, rfl⟩ | ⟨a, b, rfl, ha, hb⟩ | ⟨a, b, rfl, ha, hb⟩ | ⟨m, x, y, z, hm, rfl, h0, h1, h2⟩
    · rw [lft_top]; rfl
    · rw [lft_var]; split <;> rfl
    · rw [flat_fun, List.length_cons, List.length_append] at hf
      rw [noh_fun] at ht
      rw [lft_fun, noh_fun]
      exact ⟨noh_lft h16 k n f a d (by omega) ha ht.1, noh_lft h16 k n f b d (by omega) hb ht.2⟩
    · rw [flat_all, List.length_cons, List.length_append] at hf
      rw [noh_all] at ht
      rw [lft_all, noh_all]
      refine ⟨?_, noh_lft h16 k n f a d (by omega) ha ht.2.1, noh_lft h16 k n f b (d + 1) (by omega) hb ht.2.2⟩
      rw [lft_hd ha]
      have := ht.1
      split <;> omega
    · rw [flat_rec, List.length_cons, List.length_append, List.length_append] at hf
      rw [noh_rec] at ht
      rw [lft_rec hm, noh_rec]
      have key : ∀ (i : Nat) (p : Ty), (flat p).length ≤ f → okl d m i p → noh h p = true → noh h (lft k n p) = true := by
        intro i p hp ho hn
        unfold okl at ho
        by_cases hb : bit m i = true
        · rw [if_pos hb] at ho
          exact noh_lft h16 k n f p d hp ho hn
        · rw [if_neg hb] at ho
          rw [ho]; rfl
      exact ⟨key 0 x (by omega) h0 ht.1, key 1 y (by omega) h1 ht.2.1, key 2 z (by omega) h2 ht.2.2⟩
end PmK1
/-- the context around, with what stands at that level -/
def cxs (Δ Γ0 : List Ty) (b : Ty) : List Ty := Δ ++ b :: Γ0
theorem cxs_len (Δ Γ0 : List Ty) (b : Ty) : (cxs Δ Γ0 b).length = Δ.length + (Γ0.length + 1) := by unfold cxs; simp
theorem cxs_cons (a : Ty) (Δ Γ0 : List Ty) (b : Ty) : a :: cxs Δ Γ0 b = cxs (a :: Δ) Γ0 b := rfl
theorem cxs_bnd (Γ0 : List Ty) (b : Ty) : ∀ Δ : List Ty, bnd (cxs Δ Γ0 b) Γ0.length = b
  | [] => by show (if Γ0.length = Γ0.length then b else _) = b; rw [if_pos rfl]
  | a :: Δ => by
    show (if Γ0.length = (cxs Δ Γ0 b).length then a else bnd (cxs Δ Γ0 b) Γ0.length) = b
    rw [if_neg (by rw [cxs_len]; omega)]
    exact cxs_bnd Γ0 b Δ
theorem cxs_other (Γ0 : List Ty) (b b' : Ty) {j : Nat} (hj : j ≠ Γ0.length) : ∀ Δ : List Ty, bnd (cxs Δ Γ0 b) j = bnd (cxs Δ Γ0 b') j
  | [] => by show (if j = Γ0.length then b else bnd Γ0 j) = (if j = Γ0.length then b' else bnd Γ0 j); rw [if_neg hj, if_neg hj]
  | a :: Δ => by
    show (if j = (cxs Δ Γ0 b).length then a else bnd (cxs Δ Γ0 b) j) = (if j = (cxs Δ Γ0 b').length then a else bnd (cxs Δ Γ0 b') j)
    rw [cxs_len, cxs_len, cxs_other Γ0 b b' hj Δ]
/-- all bounds but that one are without -/
def nohc (h : Nat) (Δ Γ0 : List Ty) : Prop := (∀ a ∈ Δ, noh h a = true) ∧ (∀ a ∈ Γ0, noh h a = true)
theorem bnd_mem : ∀ (Γ : List Ty) (j : Nat), j < Γ.length → bnd Γ j ∈ Γ
  | [], j, hj => absurd hj (Nat.not_lt_zero _)
  | b :: Γ, j, hj => by
    show (if j = Γ.length then b else bnd Γ j) ∈ b :: Γ
    by_cases e : j = Γ.length
    · rw [if_pos e]; exact List.mem_cons_self ..
    · rw [if_neg e]; exact List.mem_cons_of_mem _ (bnd_mem Γ j (by simp only [List.length_cons] at hj; omega))
theorem nohc_bnd {h : Nat} {Δ Γ0 : List Ty} {b : Ty} (hc : nohc h Δ Γ0) {j : Nat} (hj : j < (cxs Δ Γ0 b).length) (ne : j ≠ Γ0.length) : noh h (bnd (cxs Δ Γ0 b) j) = true := by
  rw [cxs_other Γ0 b tTop ne Δ]
  have hm := bnd_mem (cxs Δ Γ0 tTop) j (by rw [cxs_len] at hj ⊢; exact hj)
  unfold cxs at hm ⊢
  rcases List.mem_append.mp hm with e | e
  · exact hc.1 _ e
  · rcases List.mem_cons.mp e with e | e
    · rw [e]; rfl
    · exact hc.2 _ e
