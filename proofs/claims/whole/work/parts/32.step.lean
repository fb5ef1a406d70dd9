/-! ONE STEP OF SUBTYPING lowers the weight and keeps types in order. -/
theorem ok_lft (k j : Nat) : ∀ (t : Ty) (m : Nat), ok (k + m) t = true → ok (k + j + m) (lft k j t) = true
  | .tag c (.append a b), m, h => by
    by_cases h1 : c = 1
    · subst h1
      have h := ok_fun.mp h
      have e : lft k j (.tag 1 (.append a b)) = tFun (lft k j a) (lft k j b) := by
        show Std.Format.tag (if 16 + k ≤ 1 then 1 + j else 1) _ = _
        rw [if_neg (by omega)]; rfl
      rw [e]
      exact ok_fun.mpr ⟨ok_lft k j a m h.1, ok_lft k j b m h.2⟩
    · by_cases h2 : c = 2
      · subst h2
        have h := ok_all.mp h
        have e : lft k j (.tag 2 (.append a b)) = tAll (lft k j a) (lft k j b) := by
          show Std.Format.tag (if 16 + k ≤ 2 then 2 + j else 2) _ = _
          rw [if_neg (by omega)]; rfl
        rw [e]
        exact ok_all.mpr ⟨ok_lft k j a m h.1, ok_lft k j b (m + 1) h.2⟩
      · match b, h with
        | .append y z, h =>
          rw [ok] at h
          simp only [Bool.and_eq_true, decide_eq_true_eq] at h
          obtain ⟨hc, q0, q1, q2⟩ := h
          have key : ∀ (i : Nat) (t : Ty), (ok (k + m) t = true → ok (k + j + m) (lft k j t) = true) → (if bit (c - 8) i = true then ok (k + m) t else isNil t) = true → okl (k + j + m) (c - 8) i (lft k j t) := by
            intro i t ht hk
            unfold okl
            split at hk
            · rename_i hb; rw [if_pos hb]; exact ht hk
            · rename_i hb; rw [if_neg hb, isNil_eq hk]; rfl
          have e : lft k j (.tag c (.append a (.append y z))) = tRec (c - 8) (lft k j a) (lft k j y) (lft k j z) := by
            show Std.Format.tag (if 16 + k ≤ c then c + j else c) _ = _
            rw [if_neg (by omega)]
            unfold tRec
            rw [show 8 + (c - 8) = c by omega]; rfl
          rw [e]
          exact (ok_rec (by omega)).mpr ⟨key 0 a (ok_lft k j a m) q0, key 1 y (ok_lft k j y m) q1, key 2 z (ok_lft k j z m) q2⟩
        | .tag _ _, h => simp [ok, h1, h2] at h
        | .nil, h => simp [ok, h1, h2] at h
        | .line, h => simp [ok, h1, h2] at h
        | .align _, h => simp [ok, h1, h2] at h
        | .text _, h => simp [ok, h1, h2] at h
        | .nest _ _, h => simp [ok, h1, h2] at h
        | .group _ _, h => simp [ok, h1, h2] at h
  | .tag c .nil, m, h => by
    rw [ok, Bool.or_eq_true, Bool.and_eq_true, decide_eq_true_eq, decide_eq_true_eq, decide_eq_true_eq] at h
    show ok (k + j + m) (Std.Format.tag (if 16 + k ≤ c then c + j else c) .nil) = true
    rw [ok, Bool.or_eq_true, Bool.and_eq_true, decide_eq_true_eq, decide_eq_true_eq, decide_eq_true_eq]
    split <;> omega
  | .tag c .line, m, h => by simp [ok] at h
  | .tag c (.align _), m, h => by simp [ok] at h
  | .tag c (.text _), m, h => by simp [ok] at h
  | .tag c (.nest _ _), m, h => by simp [ok] at h
  | .tag c (.group _ _), m, h => by simp [ok] at h
  | .tag c (.tag _ _), m, h => by simp [ok] at h
  | .nil, m, h => by simp [ok] at h
  | .line, m, h => by simp [ok] at h
  | .align _, m, h => by simp [ok] at h
  | .text _, m, h => by simp [ok] at h
  | .nest _ _, m, h => by simp [ok] at h
  | .group _ _, m, h => by simp [ok] at h
  | .append _ _, m, h => by simp [ok] at h
theorem ok_expose {Γ : List Ty} {k : Nat} (hc : okc Γ) (hk : k < Γ.length) : ok Γ.length (lft k (Γ.length - k) (bnd Γ k)) = true := by
  obtain ⟨-, -, -, -, e3, -⟩ := wt_bnd Γ k hc hk
  have := ok_lft k (Γ.length - k) (bnd Γ k) 0 e3
  rwa [show k + (Γ.length - k) + 0 = Γ.length by omega] at this
theorem and_bit {a b k : Nat} (h : a &&& b = b) (hb : b / 2 ^ k % 2 = 1) : a / 2 ^ k % 2 = 1 := by
  have h1 : b.testBit k = true := by rw [Nat.testBit_eq_decide_div_mod_eq]; simp [hb]
  have h2 : (a &&& b).testBit k = true := by rw [h]; exact h1
  rw [Nat.testBit_and, Bool.and_eq_true] at h2
  have := h2.1
  rw [Nat.testBit_eq_decide_div_mod_eq] at this
  simpa using this
theorem stl_ok {Γ : List Ty} {m m' k : Nat} {x y : Ty} (hc : okc Γ) (hx : okl Γ.length m k x) (hy : okl Γ.length m' k y) (h : m &&& m' = m') : ∀ z ∈ stl Γ m' k x y, tok z := by
  intro z hz
  unfold stl at hz
  split at hz
  · rename_i hb
    rw [List.mem_singleton] at hz
    subst hz
    have hb := bit_iff.mp hb
    exact ⟨hc, okl_on hx (and_bit h hb), okl_on hy hb⟩
  · cases hz
theorem stp_w {Γ : List Ty} {s t : Ty} {l : List Tsk} (h : tok (Γ, s, t)) (e : stp Γ s t = some l) : tws l + 1 ≤ twt (Γ, s, t) ∧ ∀ x ∈ l, tok x := by
  obtain ⟨hc0, hs0, ht0⟩ := h
  have hc : okc Γ := hc0
  have hs : ok Γ.length s = true := hs0
  have ht : ok Γ.length t = true := ht0
  clear hc0 hs0 ht0
  have w1 := wt_pos hs (om Γ)
  have w2 := wt_pos ht (om Γ)
  show tws l + 1 ≤ wt (om Γ) s + wt (om Γ) t ∧ _
  unfold stp at e
  split at e
  · cases e
    exact ⟨by show 0 + 1 ≤ _; omega, fun x hx => by cases hx⟩
  · rename_i n1
    split at e
    · rename_i n2
      cases e
      rcases ok_cases hs with rfl | ⟨k, hk, rfl⟩ | ⟨a, b, rfl, ha, hb⟩ | ⟨a, b, rfl, ha, hb⟩ | ⟨m, x, y, z, hm, rfl, h0, h1, h2⟩
      · rw [hd_top] at n2; omega
      · rw [hd_var, show 16 + k - 16 = k by omega]
        refine ⟨?_, fun x hx => ?_⟩
        · show (wt (om Γ) (lft k (Γ.length - k) (bnd Γ k)) + wt (om Γ) t) + 0 + 1 ≤ wt (om Γ) (tVar k) + wt (om Γ) t
          rw [wt_expose hc hk, wt_var]
          omega
        · rw [List.mem_singleton] at hx
          subst hx
          exact ⟨hc, ok_expose hc hk, ht⟩
      · rw [hd_fun] at n2; omega
      · rw [hd_all] at n2; omega
      · rw [hd_rec] at n2; omega
    · rename_i n2
      split at e
      · rename_i n3
        split at e
        · rename_i hand
          cases e
          rcases ok_cases hs with rfl | ⟨k, hk, rfl⟩ | ⟨a, b, rfl, ha, hb⟩ | ⟨a, b, rfl, ha, hb⟩ | ⟨m, x, y, z, hm, rfl, h0, h1, h2⟩
          · rw [hd_top] at n3; omega
          · rw [hd_var] at n2; omega
          · rw [hd_fun] at n3; omega
          · rw [hd_all] at n3; omega
          · rcases ok_cases ht with rfl | ⟨k, hk, rfl⟩ | ⟨a, b, rfl, ha, hb⟩ | ⟨a, b, rfl, ha, hb⟩ | ⟨m', x', y', z', hm', rfl, h0', h1', h2'⟩
            · rw [hd_top] at n3; omega
            · rw [hd_var] at n3; omega
            · rw [hd_fun] at n3; omega
            · rw [hd_all] at n3; omega
            · rw [hd_rec, hd_rec, show 8 + m - 8 = m by omega, show 8 + m' - 8 = m' by omega] at hand
              rw [hd_rec, show 8 + m' - 8 = m' by omega]
              refine ⟨?_, fun q hq => ?_⟩
              · rw [tws_app, tws_app, wt_rec, wt_rec]
                have a1 := stl_w (Γ := Γ) (m := m') (k := 2) (x := z) (y := z')
                have a2 := stl_w (Γ := Γ) (m := m') (k := 1) (x := y) (y := y')
                have a3 := stl_w (Γ := Γ) (m := m') (k := 0) (x := x) (y := x')
                show tws (stl Γ m' 2 z z') + (tws (stl Γ m' 1 y y') + tws (stl Γ m' 0 x x')) + 1 ≤ _
                omega
              · rcases List.mem_append.mp hq with hq | hq
                · exact stl_ok hc h2 h2' hand q hq
                · rcases List.mem_append.mp hq with hq | hq
                  · exact stl_ok hc h1 h1' hand q hq
                  · exact stl_ok hc h0 h0' hand q hq
        · cases e
      · rename_i n3
        split at e
        · cases e
        · rename_i n4
          split at e
          · rename_i n5
            cases e
            rcases ok_cases hs with rfl | ⟨k, hk, rfl⟩ | ⟨a, b, rfl, ha, hb⟩ | ⟨a, b, rfl, ha, hb⟩ | ⟨m, x, y, z, hm, rfl, h0, h1, h2⟩
            · rw [hd_top] at n5; omega
            · rw [hd_var] at n5; omega
            · rcases ok_cases ht with rfl | ⟨k, hk, rfl⟩ | ⟨a', b', rfl, ha', hb'⟩ | ⟨a', b', rfl, ha', hb'⟩ | ⟨m', x', y', z', hm', rfl, h0', h1', h2'⟩
              · rw [hd_top, hd_fun] at n4; omega
              · rw [hd_var, hd_fun] at n4; omega
              · refine ⟨?_, fun q hq => ?_⟩
                · rw [wt_fun, wt_fun]
                  show (wt (om Γ) b + wt (om Γ) b') + ((wt (om Γ) a' + wt (om Γ) a) + 0) + 1 ≤ _
                  omega
                · rcases List.mem_cons.mp hq with rfl | hq
                  · exact ⟨hc, hb, hb'⟩
                  · rw [List.mem_singleton] at hq
                    subst hq
                    exact ⟨hc, ha', ha⟩
              · rw [hd_all, hd_fun] at n4; omega
              · rw [hd_rec, hd_fun] at n4; omega
            · rw [hd_all] at n5; omega
            · rw [hd_rec] at n5; omega
          · rename_i n5
            split at e
            · rename_i hfl
              cases e
              rcases ok_cases hs with rfl | ⟨k, hk, rfl⟩ | ⟨a, b, rfl, ha, hb⟩ | ⟨a, b, rfl, ha, hb⟩ | ⟨m, x, y, z, hm, rfl, h0, h1, h2⟩
              · rw [hd_top] at n4; omega
              · rw [hd_var] at n2; omega
              · rw [hd_fun] at n5; omega
              · rcases ok_cases ht with rfl | ⟨k, hk, rfl⟩ | ⟨a', b', rfl, ha', hb'⟩ | ⟨a', b', rfl, ha', hb'⟩ | ⟨m', x', y', z', hm', rfl, h0', h1', h2'⟩
                · rw [hd_top, hd_all] at n4; omega
                · rw [hd_var, hd_all] at n4; omega
                · rw [hd_fun, hd_all] at n4; omega
                · have ea : a = a' := flat_eq ha ha' hfl
                  subst ea
                  refine ⟨?_, fun q hq => ?_⟩
                  · rw [wt_all, wt_all]
                    show (wt (om (a :: Γ)) b + wt (om (a :: Γ)) b') + 0 + 1 ≤ _
                    show (wt (wt (om Γ) a :: om Γ) b + wt (wt (om Γ) a :: om Γ) b') + 0 + 1 ≤ _
                    omega
                  · rw [List.mem_singleton] at hq
                    subst hq
                    exact ⟨⟨ha, hc⟩, hb, hb'⟩
                · rw [hd_rec, hd_all] at n4; omega
              · exfalso
                rcases ok_cases ht with rfl | ⟨k, hk, rfl⟩ | ⟨a', b', rfl, ha', hb'⟩ | ⟨a', b', rfl, ha', hb'⟩ | ⟨m', x', y', z', hm', rfl, h0', h1', h2'⟩
                · rw [hd_top] at n1; simp at n1
                · rw [hd_var, hd_rec] at n4; omega
                · rw [hd_fun, hd_rec] at n4; omega
                · rw [hd_all, hd_rec] at n4; omega
                · rw [hd_rec, hd_rec] at n3; omega
            · cases e
